/-! years -/
theorem in1_n {p : Int32} (n : Nat) (hn : n < 2 ^ 31) : (1 ≤ p ∧ p ≤ nI n) ↔ ∃ j, 1 ≤ j ∧ j ≤ n ∧ p = nI j := by
  constructor
  · rintro ⟨h1, h2⟩
    obtain ⟨j, hj, rfl⟩ := nI_of2 (x := p) (M := nI n) (n := n) (nI_toInt hn) (fun z => Int32.not_lt.mpr h1 (Int32.lt_trans z (by decide))) h2
    refine ⟨j, ?_, hj, rfl⟩
    have : nI 1 ≤ nI j := h1
    rw [nI_leI (by decide) (by omega)] at this
    exact this
  · rintro ⟨j, h1, h2, rfl⟩
    exact ⟨nI_le (a := 1) h1 (by omega), nI_le h2 hn⟩
theorem InvR.x {k rn : Nat} {s : am_S} (h : InvR k rn s) : ¬ s.1 248 22 < 0 := h.2.2.2.2.2.1.2.2.2.2.2.2.2
theorem st_years : LS_years Inv := by
  intro k s p q v hk hI
  obtain ⟨rn, h⟩ := hI
  have h := InvR_mono h
  have w := h.w
  have hF := w.F8
  have e4 : am_F = 4000 := rfl
  have eq0 : f_X12_in q.toInt64 (1 : Int64) (20 : Int64) = some (b01 ((1 : Int32) ≤ q ∧ q ≤ 20)) := m_in q 1 20
  have ep0 : f_X12_in p.toInt64 (1 : Int64) (10 : Int64) = some (b01 ((1 : Int32) ≤ p ∧ p ≤ 10)) := m_in p 1 10
  have ev0 : f_X12_in v.toInt64 (0 : Int64) (2 : Int64) = some (b01 ((0 : Int32) ≤ v ∧ v ≤ 2)) := m_in v 0 2
  have hin : f_X11_years p q v s = j_X11_years_36 p q v (b01 (((1 : Int32) ≤ p ∧ p ≤ 10) ∧ ((1 : Int32) ≤ q ∧ q ≤ 20) ∧ ((0 : Int32) ≤ v ∧ v ≤ 2))) s := by
    unfold f_X11_years
    by_cases c1 : p < 1
    · rw [am_ift c1, b01_f (fun z => Int32.not_lt.mpr z.1.1 c1)]
    rw [am_iff c1]
    by_cases c2 : nI 10 < p
    · rw [am_ift c2, b01_f (fun z => Int32.not_lt.mpr z.1.2 c2)]
    rw [am_iff c2]
    by_cases c3 : q < 1
    · rw [am_ift c3, b01_f (fun z => Int32.not_lt.mpr z.2.1.1 c3)]
    rw [am_iff c3]
    by_cases c4 : nI 20 < q
    · rw [am_ift c4, b01_f (fun z => Int32.not_lt.mpr z.2.1.2 c4)]
    rw [am_iff c4]
    by_cases c5 : v < 0
    · rw [am_ift c5, b01_f (fun z => Int32.not_lt.mpr z.2.2.1 c5)]
    rw [am_iff c5]
    by_cases c6 : nI 2 < v
    · rw [am_ift c6, b01_f (fun z => Int32.not_lt.mpr z.2.2.2 c6)]
    rw [am_iff c6, b01_t ⟨⟨Int32.not_lt.mp c1, Int32.not_lt.mp c2⟩, ⟨Int32.not_lt.mp c3, Int32.not_lt.mp c4⟩, ⟨Int32.not_lt.mp c5, Int32.not_lt.mp c6⟩⟩]
  rw [hin]
  unfold j_X11_years_36
  by_cases h0 : 0 < mF (s.1 258)
  · rw [am_iff (fun z => (town0 h).mp z h0)]
    by_cases hc : ((1 : Int32) ≤ p ∧ p ≤ 10) ∧ ((1 : Int32) ≤ q ∧ q ≤ 20) ∧ ((0 : Int32) ≤ v ∧ v ≤ 2)
    · rw [am_b1 hc, am_ltd]
      obtain ⟨M, M1, M2, rfl⟩ := (in1_n 10 (by decide)).mp hc.1
      obtain ⟨N, N1, N2, rfl⟩ := (in1_n 20 (by decide)).mp hc.2.1
      have hv : v = 0 ∨ v = 1 ∨ v = nI 2 := by
        obtain ⟨j, hj, rfl⟩ := nI_of2 (x := v) (M := 2) (n := 2) rfl (Int32.not_lt.mpr hc.2.2.1) hc.2.2.2
        have : j = 0 ∨ j = 1 ∨ j = 2 := by omega
        rcases this with rfl | rfl | rfl
        · exact Or.inl rfl
        · exact Or.inr (Or.inl rfl)
        · exact Or.inr (Or.inr rfl)
      obtain ⟨X, hX, eX⟩ := nI_of h.x
      have e15 : s.1 15 3 = nI X := h.c.2.1.trans eX
      have l1 := h.l
      have l12 := l1.1.2
      have lk : wfL (k + 6) (s.1 258) := ⟨⟨l1.1.1, by omega⟩, l1.2⟩
      obtain ⟨l, o, hh, X2, -, a2, a3⟩ := yearsT (K := k + 6) (M := M) (N := N) (ch := s.1 248 21) h.1 h.ru h.2.1 h.ch M2 N2 w lk h0 (by omega) (by omega) hv M 0 X (by omega) (by omega)
      rw [e15]
      generalize hs6 : as_i s 0 15 (nI X) = s6
      have o6 : ∀ c, c ≠ 0 → s6.1 c = s.1 c := fun c hc => by rw [← hs6, as_i1 hc]
      have o60 : ∀ j, j ≠ 15 → s6.1 0 j = s.1 0 j := fun j hj => by rw [← hs6, as_i2 hj]
      have z6 : s6.2 = s.2 := by rw [← hs6, as_i4]
      obtain ⟨x2, k1, k2⟩ := a2 s6 0 am_F ⟨⟨fun c c1 c2 => o6 c (by omega), o60 5 (by decide)⟩, by rw [o6 15 (by decide)]; exact h.c.1, townAt_of h.t (fun c c1 c2 => o6 c (by omega)), lifeAt_of h.f (fun c c1 c2 => o6 c (by omega))⟩ (by rw [← hs6, as_i3]) (by omega)
      have o2 : ∀ c, c ≠ 0 → c ≠ 134 → (c < 137 ∨ 142 ≤ c) → x2.1 c = s.1 c := fun c c1 c2 c3 => by rw [k2.1 c c1 c2 c3, o6 c c1]
      have em : x2.1 258 = s.1 258 := o2 258 (by decide) (by decide) (by omega)
      generalize hy0 : as_j x2 248 27 (x2.1 248 22).toInt64 = y0
      have j0 : y0.1 = x2.1 := by rw [← hy0, as_j1]
      have j4 : y0.2.2 = x2.2.2 := by rw [← hy0, as_j4]
      have v0 : y0.2.1 248 27 = lN X := by rw [← hy0, jl1, o2 248 (by decide) (by decide) (by omega), eX, nI_l hX]
      generalize hy1 : as_w y0 261 (cpv (y0.1 261) 0 130 (s.1 258)) = y1
      have oy : ∀ c, c ≠ 261 → y1.1 c = x2.1 c := fun c hc => by rw [← hy1, as_w1 hc, j0]
      have zy : y1.2 = y0.2 := by rw [← hy1, as_w4]
      have r1 : rdM s (s.1 248 21) (s.1 258) y1 := ⟨⟨by rw [oy 250 (by decide), o2 250 (by decide) (by decide) (by omega)], by rw [oy 252 (by decide), o2 252 (by decide) (by decide) (by omega)], by rw [oy 253 (by decide), o2 253 (by decide) (by decide) (by omega)]⟩, by rw [oy 258 (by decide)]; exact em, by rw [oy 248 (by decide), o2 248 (by decide) (by decide) (by omega)]⟩
      obtain ⟨y2, g1, g2, g3⟩ := a3 y1 0 0 0 am_F r1 (fun j hj => by rw [← hy1, as_w3, cpv_in (by omega) (by omega), Nat.sub_zero]) (by rw [zy]; exact v0) (by omega)
      have ee : yrV v (0 + l) (0 + o) (0 + hh) = 0 + yrV v l o hh := by
        unfold yrV
        split
        · rfl
        · split <;> rfl
      refine ⟨0 + yrV v l o hh, x2, y2, k1, ?_, rn, InvR_prot h ?_⟩
      · unfold f_X12_years
        rw [m_isTown (F := mF (s.1 258)) (by rw [em]; exact w.F1) (by omega), am_bds, am_b1 h0, ep0, am_bds, am_b1 hc.1, eq0, am_bds, am_b1 hc.2.1, ev0, am_bds, am_b1 hc.2.2, am_ltd, hy0, ← ee]
        refine lp_copyR 261 130 0 (s.1 258) y0 (fun j hj g => ?_) ?_ (by decide)
        · dsimp only
          unfold b_X12_years_66
          rw [am_iff (nI_ge hj (by decide)), gd_nI (by omega) (by decide), gd_nI hj (by decide), cL (by omega), am_ltd, am_ltd, nI_1, as_w1 (by decide : (258 : Nat) ≠ 261), j0, em, Nat.zero_add]
        · dsimp only
          unfold b_X12_years_66 j_X12_years_94
          rw [am_ift (by decide), hy1]
          have g1 : am_lp (fun (q : Int32 × Int32 × Int32 × Int32 × am_S) => b_X12_years_97 (nI M) (nI N) v q.1 q.2.1 q.2.2.1 q.2.2.2.1 q.2.2.2.2) am_F ((0 : Int32), (0 : Int32), (0 : Int32), (0 : Int32), y1) = _ := g1
          rw [g1, am_bds]
      · have oo : ∀ c, c ≠ 0 → c ≠ 134 → c ≠ 248 → c ≠ 258 → c ≠ 259 → c ≠ 261 → (c < 137 ∨ 142 ≤ c) → y2.1 c = s.1 c := fun c c1 c2 c3 c4 c5 c6 c7 => by rw [g3.1 c c3 c4 c5, oy c c6, o2 c c1 c2 c7]
        have o248 : ∀ j, j ≠ 18 → y2.1 248 j = s.1 248 j := fun j hj => by rw [g3.2.1 j hj, oy 248 (by decide), o2 248 (by decide) (by decide) (by omega)]
        have o00 : ∀ j, j ≠ 15 → y2.1 0 j = s.1 0 j := fun j hj => by rw [g3.1 0 (by decide) (by decide) (by decide), oy 0 (by decide), k2.2.1 j hj, o60 j hj]
        refine ⟨fun a ha => ?_, o00 1 (by decide), o00 5 (by decide), o248 1 (by decide), o248 2 (by decide), o248 21 (by decide), o248 22 (by decide), o248 25 (by decide), fun z => pRef_of z ⟨?_, ?_⟩⟩
        · by_cases c : a = 258
          · subst c; exact g2
          · unfold isPr at ha
            exact oo a (by omega) (by omega) (by omega) c (by omega) (by omega) (by omega)
        · rw [g3.2.2, zy, j4]
          rcases k2.2.2.2 with e | e
          · exact Or.inr e
          · rw [e, z6]; exact z.1
        · rw [g3.2.2, zy, j4, k2.2.2.1, z6]
    · rw [am_b0 hc]
      refine ⟨-1, s, s, rfl, ?_, rn, h⟩
      unfold f_X12_years
      rw [m_isTown w.F1 (by omega), am_bds, am_b1 h0, ep0, am_bds]
      by_cases c1 : (1 : Int32) ≤ p ∧ p ≤ 10
      · rw [am_b1 c1, eq0, am_bds]
        by_cases c2 : (1 : Int32) ≤ q ∧ q ≤ 20
        · rw [am_b1 c2, ev0, am_bds, am_b0 (fun z => hc ⟨c1, c2, z⟩)]
        · rw [am_b0 c2]
      · rw [am_b0 c1]
  · rw [am_ift ((town0 h).mpr h0)]
    refine ⟨-1, s, s, rfl, ?_, rn, h⟩
    unfold f_X12_years
    rw [m_isTown w.F1 (by omega), am_bds, am_b0 h0]
