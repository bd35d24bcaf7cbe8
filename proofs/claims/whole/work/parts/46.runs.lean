/-! run -/
theorem tick_both {K : Nat} {m : Nat → Int32} (w : wfT m) (lk : wfL K m) (hd : mN m 6 < 9000) (hK : mN m 7 = 23 → mN m 6 + 1 < 4 * K + 1) : ∃ m2, agL m m2 ∧ wfL K m2 ∧ 24 * mN m2 6 + mN m2 7 = 24 * mN m 6 + mN m 7 + 1 ∧ (∀ x d, townAt m x → lifeAt m x 24 → ∃ x2, j_X11_liveHour_47 d x = some (d, x2) ∧ lifeAt m2 x2 24 ∧ frC x x2) ∧ (∀ y d, y.1 258 = m → ∃ y2, j_X12_passes_144 d y = some (d, y2) ∧ y2.1 258 = m2 ∧ frM y y2) := by
  have h7 := lk.2.1
  have h72 := h7.2
  by_cases c : mN m 7 < 23
  · have e7 : hourM m 7 = nI (mN m 7 + 1) := by
      unfold hourM
      rw [upd_s, h7.e, nI_1]
    refine ⟨hourM m, (hourM_ag m).l, wfL_hour w lk c, ?_, fun x d t l => ⟨as_i x 24 5 (x.1 24 5 + 1), ?_, lifeAt_hour w l, ?_⟩, fun y d hy => ⟨as_i y 258 7 (y.1 258 7 + 1), ?_, ?_, ?_⟩⟩
    · rw [mN_nI e7 (by omega), mN_eq (n := hourM m) (m := m) (j := 6) (upd_n (by decide))]
      omega
    · unfold j_X11_liveHour_47
      have e5 : x.1 24 5 = nI (mN m 7) := l.hr.trans h7.e
      rw [am_ift (by rw [e5]; exact nI_lt c (by decide)), am_ltd]
    · exact ⟨fun c c1 c2 => as_i1 (by omega), rfl, Or.inr rfl⟩
    · unfold j_X12_passes_144
      rw [hy, am_iff (by rw [h7.e, nI_eq (by omega) (by decide)]; omega), am_ltd]
    · funext q
      unfold hourM
      by_cases e : q = 7
      · subst e; rw [as_i3, upd_s, hy]
      · rw [as_i2 e, upd_n e, hy]
    · exact ⟨fun a a1 a2 a3 => as_i1 a2, fun q hq => by rw [as_i1 (by decide)], rfl⟩
  · have c23 : mN m 7 = 23 := by omega
    have hk := hK c23
    refine ⟨dayM m, dayM_ag w, wfL_day w lk hk hd, ?_, fun x d t l => ?_, fun y d hy => ⟨as_w y 258 (dayM m), ?_, as_w3, ?_⟩⟩
    · rw [day6 w lk hd, mN_nI (n := 0) (dayM_hd w).2.1 (by decide)]
      omega
    · obtain ⟨x2, b1, b2, b3, b4⟩ := c_beginDay w lk hd t (show 24 ∈ am_isL by decide) l
      refine ⟨x2, ?_, b2, fun c c1 c2 => b3 c (by omega), by rw [b4], Or.inr (by rw [b4])⟩
      have e5 : x.1 24 5 = nI (mN m 7) := l.hr.trans h7.e
      unfold j_X11_liveHour_47
      rw [e5, c23, am_iff (by decide), b1, am_bds]
    · unfold j_X12_passes_144
      rw [hy, am_ift (by rw [h7.e, c23]), m_dayComes hy w, am_bds]
    · exact ⟨fun a a1 a2 a3 => as_w1 a2, fun q hq => by rw [as_w1 (by decide)], rfl⟩
theorem hour_both {K : Nat} {m : Nat → Int32} {s : am_S} {rn r : Nat} {ch : Int32} (hrn : rn ≤ 6) (hR : ∀ r, r < rn → pRule r s) (h5 : s.1 0 5 = nI rn) (hch : ch = -1 ∨ ∃ r, r < rn ∧ ch = nI r) (hr : r < rn) (w : wfT m) (lk : wfL K m) (hp : 0 < mP m) (hd : mN m 6 < 9000) (hK : mN m 7 = 23 → mN m 6 + 1 < 4 * K + 1) : ∃ (d : Int32) (m2 : Nat → Int32), agL m m2 ∧ wfL K m2 ∧ 24 * mN m2 6 + mN m2 7 = 24 * mN m 6 + mN m 7 + 1 ∧ (∀ x, rdC s ch m x → ∃ x2, f_X11_liveHour (144 + 7 * r) x = some (d, x2) ∧ lifeAt m2 x2 24 ∧ frC x x2) ∧ (∀ y, rdM s ch m y → ∃ y2, f_X12_passes (nI r) y = some (d, y2) ∧ y2.1 258 = m2 ∧ frM y y2) := by
  have hP := w.P7
  have h7 := lk.2.1
  have h72 := h7.2
  obtain ⟨n, sz, D, V, K2, b1, b2, b3, hT, hX, hM⟩ := hR r hr
  have ht : mN m 7 % mP m < mP m := Nat.mod_lt _ hp
  have hc := fun (x : am_S) (hx : rdC s ch m x) => c_choose (t := mN m 7 % mP m) (by omega) hT hX w ht hx
  have hm := fun (y : am_S) (hy : rdM s ch m y) => m_choose (by omega) hT hM w h72 h7.e hp hy
  have live : ∀ x, rdC s ch m x → f_X11_liveHour (144 + 7 * r) x = am_b2 (f_X11_chooseSaying (144 + 7 * r) (nI (mN m 7 % mP m)) x) (fun v9 s10 => am_if (v9 = 0) (j_X11_liveHour_47 (0 : Int32) s10) (am_b2 (f_X11_speak s10) (fun v11 s12 => j_X11_liveHour_47 v11 s12))) := fun x hx => by
    have e5 : x.1 24 5 = nI (mN m 7) := hx.2.2.2.hr.trans h7.e
    unfold f_X11_liveHour
    rw [am_gdt (iR_of (by omega)), hx.2.2.1.P w, am_ltd, am_iff (nI_ne0 hp (by omega)), am_gdt (nI_ne0 hp (by omega)), e5, pk_rem (by omega) hp (by omega)]
  generalize mN m 7 % mP m = t at *
  generalize hB : bst (okK m t) (scK m t n D V K2 b1 b2 b3) = B at hc hm
  cases ho : (B (16 * mP m)).1 with
  | none =>
    obtain ⟨m2, a1, a2, a3, a4, a5⟩ := tick_both w lk hd hK
    refine ⟨0, m2, a1, a2, a3, fun x hx => ?_, fun y hy => ?_⟩
    · obtain ⟨x2, k1, k2, k3⟩ := hc x hx
      rw [ho] at k1
      have r2 := rdC_P w hx k2
      obtain ⟨x3, l1, l2, l3⟩ := a4 x2 0 r2.2.2.1 r2.2.2.2
      exact ⟨x3, by rw [live x hx, k1, am_b2s, am_ift rfl, l1], l2, k2.c.tr l3⟩
    · obtain ⟨y2, k1, k2⟩ := hm y hy
      obtain ⟨y3, l1, l2, l3⟩ := a5 y2 0 (by rw [k2.1 258 (by decide) (by decide)]; exact hy.2.1)
      refine ⟨y3, ?_, l2, k2.m.tr l3⟩
      rw [k1, ho]
      unfold j_X12_passes_117
      rw [am_iff (show ¬ 0 ≤ bsM none by decide), l1]
  | some k =>
    have hk := bst_lt (16 * mP m) k (by rw [hB]; exact ho)
    have hk1 := hk.1
    have hf : k / 2 % 8 < mF m := by
      have := hk.2
      unfold okK at this
      rw [Bool.and_eq_true, decide_eq_true_eq] at this
      exact this.2
    have hv : nI (k % 2) = 0 ∨ nI (k % 2) = 1 := by
      have : k % 2 = 0 ∨ k % 2 = 1 := by omega
      rcases this with e | e <;> rw [e]
      · exact Or.inl rfl
      · exact Or.inr rfl
    obtain ⟨d, m1, s1, s2, s3, s4, s5⟩ := speak24 (z := 0) hrn hR h5 hch w lk ht (j := k / 16) (by omega) hf hv (Or.inl rfl)
    have w1 := wfT_eq s1.t w
    have n6 : mN m1 6 = mN m 6 := mN_eq s3.1
    have n7 : mN m1 7 = mN m 7 := mN_eq s3.2
    obtain ⟨m2, a1, a2, a3, a4, a5⟩ := tick_both w1 s2 (by rw [n6]; exact hd) (by rw [n6, n7]; exact hK)
    rw [n6, n7] at a3
    refine ⟨d, m2, s1.tr a1, a2, a3, fun x hx => ?_, fun y hy => ?_⟩
    · obtain ⟨x2, k1, k2, k3⟩ := hc x hx
      rw [ho] at k1
      obtain ⟨t1, t2⟩ := k3 k ho
      have r2 := rdC_P w hx k2
      obtain ⟨x3, l1, l2, l3⟩ := s4 x2 r2 t1 t2
      have r3 := rdC_next w r2 l3 s1 l2
      obtain ⟨x4, p1, p2, p3⟩ := a4 x3 d r3.2.2.1 r3.2.2.2
      exact ⟨x4, by rw [live x hx, k1, am_b2s, am_iff (show ¬ (1 : Int32) = 0 by decide), l1, am_b2s, p1], p2, (k2.c.tr l3).tr p3⟩
    · obtain ⟨y2, k1, k2⟩ := hm y hy
      have r2 := rdM_next (n := m) hy k2.m (by rw [k2.1 258 (by decide) (by decide)]; exact hy.2.1)
      obtain ⟨y3, l1, l2, l3⟩ := s5 y2 r2
      obtain ⟨y4, p1, p2, p3⟩ := a5 y3 d l2
      refine ⟨y4, ?_, p2, (k2.m.tr l3).tr p3⟩
      rw [k1, ho]
      show j_X12_passes_117 (nI t) (nI k) y2 = _
      unfold j_X12_passes_117
      rw [am_ift (nI_pos' (by omega)), pk_rem (a := k) (by omega) (by decide) (by decide), pk_div (a := k) (d := 16) (by omega) (by decide) (by decide), pk_div (a := k) (d := 2) (by omega) (by decide) (by decide), pk_rem (a := k / 2) (by omega) (by decide) (by decide), l1, am_b2s, p1]
theorem run_both {k : Nat} {s : am_S} {rn r P : Nat} {ch : Int32} {N : Nat} (hk : k < 600) (hrn : rn ≤ 6) (hR : ∀ r, r < rn → pRule r s) (h5 : s.1 0 5 = nI rn) (hch : ch = -1 ∨ ∃ r, r < rn ∧ ch = nI r) (hr : r < rn) (hP0 : 0 < P) (hN : N ≤ 96) : ∀ (n i : Nat) (m : Nat → Int32), i + n = N → mP m = P → wfT m → wfL (k + 1) m → 24 * mN m 6 + mN m 7 + n ≤ 96 * k + 119 → ∃ (d : Int32) (m2 : Nat → Int32), agL m m2 ∧ wfL (k + 1) m2 ∧
    (∀ x acc F, rdC s ch m x → n < F → ∃ x2, am_lp (fun (q : Int32 × Int32 × am_S) => b_X11_run_80 (nI r) (nI N) q.1 q.2.1 q.2.2) F (acc, nI i, x) = some (acc + d, x2) ∧ lifeAt m2 x2 24 ∧ frC x x2) ∧
    (∀ y acc F, rdM s ch m y → n < F → ∃ y2, am_lp (fun (q : Int32 × Int32 × am_S) => b_X12_run_67 (nI r) (nI N) q.1 q.2.1 q.2.2) F (acc, nI i, y) = some (acc + d, y2) ∧ y2.1 258 = m2 ∧ frM y y2) := by
  intro n
  induction n with
  | zero =>
    intro i m hn eP w lk hb
    refine ⟨0, m, agL.rf m, lk, fun x acc F x1 hF1 => ⟨x, ?_, x1.2.2.2, frC.rf x⟩, fun y acc F y1 hF1 => ⟨y, ?_, y1.2.1, frM.rf y⟩⟩
    · obtain ⟨F', rfl⟩ : ∃ F', F = F' + 1 := ⟨F - 1, by omega⟩
      refine am_lp_inr ?_
      dsimp only
      unfold b_X11_run_80
      rw [am_ift (nI_le (by omega) (by omega)), az]
    · obtain ⟨F', rfl⟩ : ∃ F', F = F' + 1 := ⟨F - 1, by omega⟩
      refine am_lp_inr ?_
      dsimp only
      unfold b_X12_run_67
      rw [am_ift (nI_le (by omega) (by omega)), az]
  | succ n ih =>
    intro i m hn eP w lk hb
    obtain ⟨d1, m1, b1, b2, b3, b4, b5⟩ := hour_both (K := k + 1) (r := r) hrn hR h5 hch hr w lk (by omega) (by omega) (fun z => by omega)
    obtain ⟨d, m2, a1, a2, a3, a4⟩ := ih (i + 1) m1 (by omega) (by rw [b1.t.mP]; exact eP) (wfT_eq b1.t w) b2 (by omega)
    refine ⟨d1 + d, m2, b1.tr a1, a2, fun x acc F x1 hF1 => ?_, fun y acc F y1 hF1 => ?_⟩
    · obtain ⟨F', rfl⟩ : ∃ F', F = F' + 1 := ⟨F - 1, by omega⟩
      obtain ⟨x2, k1, k2, k3⟩ := b4 x x1
      obtain ⟨x3, l1, l2, l3⟩ := a3 x2 (acc + d1) F' (rdC_next w x1 k3 b1 k2) (by omega)
      refine ⟨x3, ?_, l2, k3.tr l3⟩
      rw [am_lp_inl (s2 := (acc + d1, nI (i + 1), x2))]
      · rw [l1, Int32.add_assoc]
      · dsimp only
        unfold b_X11_run_80
        rw [am_iff (nI_ge (by omega) (by omega)), gd_nI (by omega) (by decide), cL (by omega), am_ltd, k1, am_b2s, am_ltd, am_ltd, nI_1]
    · obtain ⟨F', rfl⟩ : ∃ F', F = F' + 1 := ⟨F - 1, by omega⟩
      obtain ⟨y2, k1, k2, k3⟩ := b5 y y1
      obtain ⟨y3, l1, l2, l3⟩ := a4 y2 (acc + d1) F' (rdM_next y1 k3 k2) (by omega)
      refine ⟨y3, ?_, l2, k3.tr l3⟩
      rw [am_lp_inl (s2 := (acc + d1, nI (i + 1), y2))]
      · rw [l1, Int32.add_assoc]
      · dsimp only
        unfold b_X12_run_67
        rw [am_iff (nI_ge (by omega) (by omega)), k1, am_b2s, am_ltd, am_ltd, nI_1]
theorem in1_96 (p : Int32) : (1 ≤ p ∧ p ≤ 96) ↔ ∃ n, 1 ≤ n ∧ n ≤ 96 ∧ p = nI n := by
  constructor
  · rintro ⟨h1, h2⟩
    obtain ⟨j, hj, rfl⟩ := nI_of2 (x := p) (M := 96) (n := 96) rfl (fun z => Int32.not_lt.mpr h1 (Int32.lt_trans z (by decide))) h2
    refine ⟨j, ?_, hj, rfl⟩
    have : nI 1 ≤ nI j := h1
    rw [nI_leI (by decide) (by omega)] at this
    exact this
  · rintro ⟨n, h1, h2, rfl⟩
    exact ⟨nI_le (a := 1) h1 (by omega), nI_le (b := 96) h2 (by decide)⟩
theorem st_run : LS_run Inv := by
  intro k s p q hk hI
  obtain ⟨rn, h0⟩ := hI
  have l0 := h0.l
  have hd := l0.1.2
  have h := InvR_mono h0
  have w := h.w
  have hP := w.P7
  have hF := w.F8
  have hr7 := h.l.2.1
  have hr72 := hr7.2
  have e4 : am_F = 4000 := rfl
  have e6 : s.1 24 4 = nI (mN (s.1 258) 6) := h.f.day.trans l0.1.e
  have e7 : s.1 24 5 = nI (mN (s.1 258) 7) := h.f.hr.trans hr7.e
  have none1 : ∀ (z1 : f_X11_run p q s = some (-1, s)) (z2 : f_X12_run p q s = some (-1, s)), ∃ (r : Int32) (s1 : am_S) (s2 : am_S), f_X11_run p q s = some (r, s1) ∧ f_X12_run p q s1 = some (r, s2) ∧ Inv (k + 1) s2 := fun z1 z2 => ⟨-1, s, s, z1, z2, rn, h⟩
  by_cases c0 : mP (s.1 258) = 0
  · refine none1 ?_ ?_
    · unfold f_X11_run
      rw [h.t.P w, c0, am_ift (by decide)]
    · unfold f_X12_run
      rw [w.P1, c0, am_ift (by decide)]
  have nP : ¬ nI (mP (s.1 258)) = 0 := nI_ne0 (by omega) (by omega)
  by_cases c1 : inP p rn
  · by_cases c2 : 1 ≤ q ∧ q ≤ 96
    · obtain ⟨r, hr, rfl⟩ := inP_of c1 (by have := h.1; omega)
      obtain ⟨N, N1, N2, rfl⟩ := (in1_96 q).mp c2
      have hday : nI (mN (s.1 258) 6) + (nI (mN (s.1 258) 7) + nI N) / nI 24 ≤ nI 9999 := by
        rw [nI_add, pk_div (by omega) (by decide) (by decide), nI_add]
        exact nI_le (by omega) (by decide)
      generalize hs1 : as_i (as_i s 32 1 0) 32 2 0 = s1
      have o1 : ∀ c, c ≠ 32 → s1.1 c = s.1 c := fun c hc => by rw [← hs1, as_i1 hc, as_i1 hc]
      obtain ⟨d, m2, a1, a2, a3, a4⟩ := run_both (k := k) (N := N) (r := r) (ch := s.1 248 21) (by omega) h.1 h.ru h.2.1 h.ch hr (P := mP (s.1 258)) (by omega) N2 N 0 (s.1 258) (by omega) rfl w h.l (by omega)
      have r1 : rdC s (s.1 248 21) (s.1 258) s1 := ⟨⟨fun c c1 c2 => o1 c (by omega), by rw [o1 0 (by omega)]⟩, by rw [o1 15 (by omega)]; exact h.c.1, townAt_of h.t (fun c c1 c2 => o1 c (by omega)), lifeAt_of h.f (fun c c1 c2 => o1 c (by omega))⟩
      obtain ⟨x2, k1, k2, k3⟩ := a3 s1 0 am_F r1 (by omega)
      have e1 : f_X11_run (nI r) (nI N) s = some (0 + d, x2) := by
        unfold f_X11_run f_X0_forget
        rw [h.t.P w, am_iff nP, c_hasRule h.2.1, am_bds, am_b1 c1, am_iff (show ¬ nI N < 1 from nI_nlt (b := 1) N1 (by omega)), am_ift (nI_le N2 (by decide)), e6, e7, am_ift hday, am_ltd, am_ltd, am_bds, hs1]
        exact k1
      generalize ht1 : as_i x2 248 25 0 = t1
      have o2 : ∀ c, c ≠ 32 → c ≠ 134 → (c < 24 ∨ 29 ≤ c) → x2.1 c = s.1 c := fun c c1 c2 c3 => by rw [k3.1 c c3 c2, o1 c c1]
      have o3 : ∀ c, c ≠ 248 → t1.1 c = x2.1 c := fun c hc => by rw [← ht1, as_i1 hc]
      have r2 : rdM s (s.1 248 21) (s.1 258) t1 := ⟨⟨by rw [o3 250 (by decide), o2 250 (by decide) (by decide) (by omega)], by rw [o3 252 (by decide), o2 252 (by decide) (by decide) (by omega)], by rw [o3 253 (by decide), o2 253 (by decide) (by decide) (by omega)]⟩, by rw [o3 258 (by decide), o2 258 (by decide) (by decide) (by omega)], by rw [← ht1, as_i2 (by decide), o2 248 (by decide) (by decide) (by omega)]⟩
      obtain ⟨y2, p1, p2, p3⟩ := a4 t1 0 am_F r2 (by omega)
      have em : x2.1 258 = s.1 258 := o2 258 (by decide) (by decide) (by omega)
      have e2 : f_X12_run (nI r) (nI N) x2 = some (0 + d, y2) := by
        have ein : f_X12_in (nI N).toInt64 (1 : Int64) (96 : Int64) = some (b01 ((1 : Int32) ≤ nI N ∧ nI N ≤ 96)) := m_in (nI N) 1 96
        unfold f_X12_run
        rw [em, w.P1, am_iff nP, m_isRule (R := rn) (by rw [o2 248 (by decide) (by decide) (by omega)]; exact h.2.2.1), am_bds, am_b1 c1, ein, am_bds, am_b1 c2, l0.1.e, hr7.e, am_ift hday, am_ltd, ht1]
        exact p1
      refine ⟨_, x2, y2, e1, e2, rn, ?_⟩
      have o4 : ∀ c, c ≠ 32 → c ≠ 134 → c ≠ 248 → c ≠ 258 → c ≠ 259 → (c < 24 ∨ 29 ≤ c) → y2.1 c = s.1 c := fun c c1 c2 c3 c4 c5 c6 => by rw [p3.1 c c3 c4 c5, o3 c c3, o2 c c1 c2 c6]
      have o5 : ∀ q, q ≠ 18 → q ≠ 25 → y2.1 248 q = s.1 248 q := fun q q1 q2 => by rw [p3.2.1 q q1, ← ht1, as_i2 q2, o2 248 (by decide) (by decide) (by omega)]
      have y25 : y2.1 248 25 = nI 0 := by rw [p3.2.1 25 (by decide), ← ht1, as_i3]; rfl
      have y32 : y2.1 32 = s1.1 32 := by rw [p3.1 32 (by decide) (by decide) (by decide), o3 32 (by decide), k3.1 32 (by omega) (by decide)]
      refine InvR_act (k := k + 1) h ⟨fun c hp c1 c2 c3 c4 => ?_, by rw [o4 0 (by omega) (by omega) (by omega) (by omega) (by omega) (by omega)], by rw [o4 0 (by omega) (by omega) (by omega) (by omega) (by omega) (by omega)], o5 1 (by decide) (by decide), o5 2 (by decide) (by decide), fun z => pRef_of z ⟨?_, ?_⟩⟩ (fun c hc => o4 c (by omega) (by omega) (by omega) (by omega) (by omega) (by omega)) (o5 21 (by decide) (by decide)) (o5 22 (by decide) (by decide)) (by rw [p2]; exact a1) (by rw [p2]; exact a2) (by rw [p2]; exact lifeAt_of k2 (fun c c1 c2 => by rw [p3.1 c (by omega) (by omega) (by omega), o3 c (by omega)])) ⟨0, 0, by decide, by decide, by rw [y32, ← hs1, as_i2 (by decide), as_i3]; rfl, by rw [y32, ← hs1, as_i3]; rfl, y25, fun i hi => by omega⟩ rfl
      · have a1 : c ≠ 248 := fun e => by subst e; unfold isPr at hp; omega
        have a2 : c ≠ 259 := fun e => by subst e; unfold isPr at hp; omega
        have a3 : c ≠ 134 := fun e => by subst e; unfold isPr at hp; omega
        exact o4 c (by omega) a3 a1 c3 a2 (by omega)
      · rw [p3.2.2, ← ht1, as_i4]
        rcases k3.2.2 with e | e
        · exact Or.inl e
        · rw [e, ← hs1]; exact z.1
      · rw [p3.2.2, ← ht1, as_i4, k3.2.1, ← hs1]
        rfl
    · refine none1 ?_ ?_
      · unfold f_X11_run
        rw [h.t.P w, am_iff nP, c_hasRule h.2.1, am_bds, am_b1 c1]
        by_cases d1 : q < 1
        · rw [am_ift d1]
        · rw [am_iff d1, am_iff (show ¬ q ≤ nI 96 from fun z => c2 ⟨Int32.not_lt.mp d1, z⟩)]
      · have ein : f_X12_in q.toInt64 (1 : Int64) (96 : Int64) = some (b01 ((1 : Int32) ≤ q ∧ q ≤ 96)) := m_in q 1 96
        unfold f_X12_run
        rw [w.P1, am_iff nP, m_isRule h.2.2.1, am_bds, am_b1 c1, ein, am_bds, am_b0 c2]
  · refine none1 ?_ ?_
    · unfold f_X11_run
      rw [h.t.P w, am_iff nP, c_hasRule h.2.1, am_bds, am_b0 c1]
    · unfold f_X12_run
      rw [w.P1, am_iff nP, m_isRule h.2.2.1, am_bds, am_b0 c1]
