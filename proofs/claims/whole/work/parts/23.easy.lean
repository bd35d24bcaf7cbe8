/-- all but now and the acts stay -/
def protN (s s2 : am_S) : Prop := (∀ a, isPr a → ¬ (15 ≤ a ∧ a < 30) → ¬ (32 ≤ a ∧ a < 134) → a ≠ 258 → a ≠ 260 → s2.1 a = s.1 a) ∧ s2.1 0 1 = s.1 0 1 ∧ s2.1 0 5 = s.1 0 5 ∧ s2.1 248 1 = s.1 248 1 ∧ s2.1 248 2 = s.1 248 2 ∧ (pRef s → pRef s2)
theorem InvR_N {k rn : Nat} {s s2 : am_S} (h : InvR k rn s) (g : protN s s2) (hn : pNow k rn s2) (ha : pActs k s2) : InvR k rn s2 := by
  obtain ⟨h1, h2, h3, h4, h5, h6, h7, h8, h9⟩ := h
  obtain ⟨g1, g2, g3, g4, g5, g6⟩ := g
  refine ⟨h1, g3.trans h2, g5.trans h3, fun r hr => ?_, ?_, hn, ?_, ha, g6 h9⟩
  · have h4 := h4 r hr
    unfold pRule at h4 ⊢
    rw [g1 (144 + 7 * r) (by unfold isPr; omega) (by omega) (by omega) (by omega) (by omega), g1 (145 + 7 * r) (by unfold isPr; omega) (by omega) (by omega) (by omega) (by omega), g1 (146 + 7 * r) (by unfold isPr; omega) (by omega) (by omega) (by omega) (by omega), g1 (147 + 7 * r) (by unfold isPr; omega) (by omega) (by omega) (by omega) (by omega), g1 (148 + 7 * r) (by unfold isPr; omega) (by omega) (by omega) (by omega) (by omega), g1 (149 + 7 * r) (by unfold isPr; omega) (by omega) (by omega) (by omega) (by omega), g1 (150 + 7 * r) (by unfold isPr; omega) (by omega) (by omega) (by omega) (by omega), g1 250 (by unfold isPr; omega) (by omega) (by omega) (by omega) (by omega), g1 252 (by unfold isPr; omega) (by omega) (by omega) (by omega) (by omega), g1 253 (by unfold isPr; omega) (by omega) (by omega) (by omega) (by omega)]
    exact h4
  · unfold pTape at h5 ⊢
    rw [g1 1 (by unfold isPr; omega) (by omega) (by omega) (by omega) (by omega), g1 249 (by unfold isPr; omega) (by omega) (by omega) (by omega) (by omega), g2, g4]
    exact h5
  · intro i hi
    have h := h7 i hi
    have e : ∀ a, (a = 31 ∨ (144 ≤ a ∧ a < 246) ∨ (262 ≤ a ∧ a < 266)) → s2.1 a = s.1 a := by
      intro a ha
      by_cases h31 : a = 31
      · subst h31
        exact g1 31 (by unfold isPr; omega) (by omega) (by omega) (by omega) (by omega)
      · exact g1 a (by unfold isPr; omega) (by omega) (by omega) (by omega) (by omega)
    rw [e 31 (by omega), e 265 (by omega), e 262 (by omega), e 263 (by omega), e 264 (by omega), e (187 + 15 * i) (by omega), e (189 + 15 * i) (by omega), e (190 + 15 * i) (by omega), e (191 + 15 * i) (by omega), e (192 + 15 * i) (by omega), e (193 + 15 * i) (by omega), e (194 + 15 * i) (by omega), e (195 + 15 * i) (by omega), e (196 + 15 * i) (by omega), e (197 + 15 * i) (by omega), e (198 + 15 * i) (by omega), e (199 + 15 * i) (by omega), e (186 + 15 * i) (by omega), e (200 + 15 * i) (by omega)]
    exact h
theorem pActs_of {k : Nat} {s s2 : am_S} (h : pActs k s) (g : ∀ a, (a = 258 ∨ a = 260 ∨ a = 32 ∨ (34 ≤ a ∧ a < 134)) → s2.1 a = s.1 a) (g2 : s2.1 248 25 = s.1 248 25) : pActs k s2 := by
  obtain ⟨a, n, ha, hn, h1, h2, h3, h4⟩ := h
  refine ⟨a, n, ha, hn, by rw [g 32 (by omega)]; exact h1, by rw [g 32 (by omega)]; exact h2, g2.trans h3, fun i hi => ?_⟩
  have h4 := h4 i hi
  have hb : (a + i) % 20 < 20 := Nat.mod_lt _ (by decide)
  rw [g 258 (by omega), g 260 (by omega), g (34 + 5 * ((a + i) % 20)) (by omega), g (35 + 5 * ((a + i) % 20)) (by omega), g (36 + 5 * ((a + i) % 20)) (by omega), g (37 + 5 * ((a + i) % 20)) (by omega), g (38 + 5 * ((a + i) % 20)) (by omega)]
  exact h4
theorem st_seed : LS_seed Inv := by
  intro k s a1 hk hI
  obtain ⟨rn, h⟩ := hI
  have h := InvR_mono h
  unfold f_X11_seed f_X12_seed
  by_cases h1 : (0 : Int32) ≤ a1
  · simp only [am_ift h1, am_ltd]
    have e0 : s.1 15 3 = s.1 248 22 := h.2.2.2.2.2.1.2.2.2.2.2.1.2.1
    refine ⟨s.1 15 3, as_i s 15 3 a1, as_i (as_i s 15 3 a1) 248 22 a1, rfl, ?_, rn, ?_⟩
    · rw [as_i1 (by decide : (248 : Nat) ≠ 15), e0]
    · have hn := h.2.2.2.2.2.1
      refine InvR_N h ⟨fun a _ h2 h3 h4 h5 => by
        by_cases e : a = 248
        · subst e; rename_i hp; unfold isPr at hp; omega
        · rw [as_i1 e, as_i1 (by omega)], by rw [as_i1 (by decide), as_i1 (by decide)], by rw [as_i1 (by decide), as_i1 (by decide)], by rw [as_i2 (by decide), as_i1 (by decide)], by rw [as_i2 (by decide), as_i1 (by decide)], id⟩ ?_ (pActs_of h.2.2.2.2.2.2.2.1 (fun a ha => by rw [as_i1 (by omega), as_i1 (by omega)]) (by rw [as_i2 (by decide), as_i1 (by decide)]))
      unfold pNow at hn ⊢
      obtain ⟨n1, n2, n3, n4, n5, ⟨n6, n7, n8⟩, n9, n10⟩ := hn
      have e : ∀ a, a ≠ 15 → a ≠ 248 → (as_i (as_i s 15 3 a1) 248 22 a1).1 a = s.1 a := fun a e1 e2 => by rw [as_i1 e2, as_i1 e1]
      rw [e 258 (by decide) (by decide), e 16 (by decide) (by decide), e 18 (by decide) (by decide), e 19 (by decide) (by decide), e 20 (by decide) (by decide), e 21 (by decide) (by decide), e 22 (by decide) (by decide), e 23 (by decide) (by decide), e 24 (by decide) (by decide), e 25 (by decide) (by decide), e 26 (by decide) (by decide), e 27 (by decide) (by decide), e 28 (by decide) (by decide), e 29 (by decide) (by decide), as_i1 (by decide : (15 : Nat) ≠ 248), as_i3, as_i2 (by decide : (21 : Nat) ≠ 22), as_i1 (by decide : (248 : Nat) ≠ 15)]
      refine ⟨n1, n2, n3, n4, n5, ⟨by rw [as_i2 (by decide)]; exact n6, as_i3, ?_⟩, n9, Int32.not_lt.mpr h1⟩
      rw [as_i2 (by decide), as_i2 (by decide), as_i2 (by decide), as_i2 (by decide)]
      exact n8
  · simp only [am_iff h1]
    exact ⟨-1, s, s, rfl, rfl, rn, h⟩
theorem InvR_ch {k rn : Nat} {s : am_S} {v : Int32} (h : InvR k rn s) (hv : v = -1 ∨ ∃ r, r < rn ∧ v = nI r) : InvR k rn (as_i (as_i s 15 2 v) 248 21 v) := by
  have hn := h.2.2.2.2.2.1
  refine InvR_N h ⟨fun a hp h2 h3 h4 h5 => by
    by_cases e : a = 248
    · subst e; unfold isPr at hp; omega
    · rw [as_i1 e, as_i1 (by omega)], by rw [as_i1 (by decide), as_i1 (by decide)], by rw [as_i1 (by decide), as_i1 (by decide)], by rw [as_i2 (by decide), as_i1 (by decide)], by rw [as_i2 (by decide), as_i1 (by decide)], id⟩ ?_ (pActs_of h.2.2.2.2.2.2.2.1 (fun a ha => by rw [as_i1 (by omega), as_i1 (by omega)]) (by rw [as_i2 (by decide), as_i1 (by decide)]))
  unfold pNow at hn ⊢
  obtain ⟨n1, n2, n3, n4, n5, ⟨n6, n7, n8⟩, n9, n10⟩ := hn
  have e : ∀ a, a ≠ 15 → a ≠ 248 → (as_i (as_i s 15 2 v) 248 21 v).1 a = s.1 a := fun a e1 e2 => by rw [as_i1 e2, as_i1 e1]
  rw [e 258 (by decide) (by decide), e 16 (by decide) (by decide), e 18 (by decide) (by decide), e 19 (by decide) (by decide), e 20 (by decide) (by decide), e 21 (by decide) (by decide), e 22 (by decide) (by decide), e 23 (by decide) (by decide), e 24 (by decide) (by decide), e 25 (by decide) (by decide), e 26 (by decide) (by decide), e 27 (by decide) (by decide), e 28 (by decide) (by decide), e 29 (by decide) (by decide), as_i1 (by decide : (15 : Nat) ≠ 248), as_i3, as_i2 (by decide : (22 : Nat) ≠ 21), as_i1 (by decide : (248 : Nat) ≠ 15)]
  refine ⟨n1, n2, n3, n4, n5, ⟨as_i3, ?_⟩, hv, n10⟩
  rw [as_i2 (by decide), as_i2 (by decide), as_i2 (by decide), as_i2 (by decide), as_i2 (by decide)]
  exact ⟨n7, n8⟩
theorem st_charter : LS_charter Inv := by
  intro k s a1 hk hI
  obtain ⟨rn, h⟩ := hI
  have h := InvR_mono h
  have e0 : s.1 15 2 = s.1 248 21 := h.2.2.2.2.2.1.2.2.2.2.2.1.1
  have hj : ∀ (hv : a1 = -1 ∨ ∃ r, r < rn ∧ a1 = nI r), ∃ (r : Int32) (s1 : am_S) (s2 : am_S), j_X11_charter_16 a1 s = some (r, s1) ∧ j_X12_charter_16 a1 s1 = some (r, s2) ∧ Inv (k + 1) s2 := by
    intro hv
    refine ⟨s.1 15 2, as_i s 15 2 a1, as_i (as_i s 15 2 a1) 248 21 a1, rfl, ?_, rn, InvR_ch h hv⟩
    unfold j_X12_charter_16
    simp only [am_ltd]
    rw [as_i1 (by decide : (248 : Nat) ≠ 15), e0]
  unfold f_X11_charter f_X12_charter
  by_cases h1 : a1 = -1
  · simp only [am_ift h1]
    exact hj (Or.inl h1)
  · simp only [am_iff h1, c_hasRule h.2.1, am_bds]
    by_cases h2 : inP a1 rn
    · obtain ⟨r, s1, s2, g1, g2, g3⟩ := hj (Or.inr (inP_of h2 (by have := h.1; omega)))
      refine ⟨r, s1, s2, by rw [am_iff (by rw [b01_eq0]; exact fun z => z h2)]; exact g1, ?_, g3⟩
      have hs1 : s1.1 248 2 = s.1 248 2 := by
        unfold j_X11_charter_16 at g1
        simp only [am_ltd] at g1
        cases g1
        rw [as_i1 (by decide)]
      rw [m_isRule (hs1.trans h.2.2.1), am_bds, am_iff (by rw [b01_eq0]; exact fun z => z h2)]
      exact g2
    · refine ⟨-2, s, s, by rw [am_ift (by rw [b01_eq0]; exact h2)], ?_, rn, h⟩
      rw [m_isRule h.2.2.1, am_bds, am_ift (by rw [b01_eq0]; exact h2)]
/-- the tape with other bytes -/
theorem InvR_tape {k rn : Nat} {s s2 : am_S} (h : InvR k rn s) (g : ∀ a, a ≠ 0 → a ≠ 1 → a ≠ 248 → a ≠ 249 → s2.1 a = s.1 a) (g0 : s2.1 0 5 = s.1 0 5) (g1 : ∀ j, j ≠ 1 → s2.1 248 j = s.1 248 j) (g2 : s2.2.2 = s.2.2) (ht : pTape s2) : InvR k rn s2 := by
  obtain ⟨h1, h2, h3, h4, h5, h6, h7, h8, h9⟩ := h
  refine ⟨h1, g0.trans h2, (g1 2 (by decide)).trans h3, fun r hr => ?_, ht, ?_, ?_, pActs_of h8 (fun a ha => g a (by omega) (by omega) (by omega) (by omega)) (g1 25 (by decide)), by unfold pRef at h9 ⊢; rw [g2]; exact h9⟩
  · have h4 := h4 r hr
    unfold pRule at h4 ⊢
    rw [g (144 + 7 * r) (by omega) (by omega) (by omega) (by omega), g (145 + 7 * r) (by omega) (by omega) (by omega) (by omega), g (146 + 7 * r) (by omega) (by omega) (by omega) (by omega), g (147 + 7 * r) (by omega) (by omega) (by omega) (by omega), g (148 + 7 * r) (by omega) (by omega) (by omega) (by omega), g (149 + 7 * r) (by omega) (by omega) (by omega) (by omega), g (150 + 7 * r) (by omega) (by omega) (by omega) (by omega), g 250 (by omega) (by omega) (by omega) (by omega), g 252 (by omega) (by omega) (by omega) (by omega), g 253 (by omega) (by omega) (by omega) (by omega)]
    exact h4
  · unfold pNow at h6 ⊢
    rw [g 258 (by decide) (by decide) (by decide) (by decide), g 16 (by decide) (by decide) (by decide) (by decide), g 18 (by decide) (by decide) (by decide) (by decide), g 19 (by decide) (by decide) (by decide) (by decide), g 20 (by decide) (by decide) (by decide) (by decide), g 21 (by decide) (by decide) (by decide) (by decide), g 22 (by decide) (by decide) (by decide) (by decide), g 23 (by decide) (by decide) (by decide) (by decide), g 24 (by decide) (by decide) (by decide) (by decide), g 25 (by decide) (by decide) (by decide) (by decide), g 26 (by decide) (by decide) (by decide) (by decide), g 27 (by decide) (by decide) (by decide) (by decide), g 28 (by decide) (by decide) (by decide) (by decide), g 15 (by decide) (by decide) (by decide) (by decide), g 29 (by decide) (by decide) (by decide) (by decide), g1 21 (by decide), g1 22 (by decide)]
    exact h6
  · intro i hi
    have h := h7 i hi
    have e : ∀ a, (a = 31 ∨ (144 ≤ a ∧ a < 246) ∨ (262 ≤ a ∧ a < 266)) → s2.1 a = s.1 a := fun a ha => g a (by omega) (by omega) (by omega) (by omega)
    rw [e 31 (by omega), e 265 (by omega), e 262 (by omega), e 263 (by omega), e 264 (by omega), e (187 + 15 * i) (by omega), e (189 + 15 * i) (by omega), e (190 + 15 * i) (by omega), e (191 + 15 * i) (by omega), e (192 + 15 * i) (by omega), e (193 + 15 * i) (by omega), e (194 + 15 * i) (by omega), e (195 + 15 * i) (by omega), e (196 + 15 * i) (by omega), e (197 + 15 * i) (by omega), e (198 + 15 * i) (by omega), e (199 + 15 * i) (by omega), e (186 + 15 * i) (by omega), e (200 + 15 * i) (by omega)]
    exact h
theorem st_end : LS_end Inv := by
  intro k s a1 hk hI
  obtain ⟨rn, h⟩ := hI
  have h := InvR_mono h
  obtain ⟨T, t1, t2, t3, t4⟩ := h.2.2.2.2.1
  unfold f_X11_end f_X12_end
  by_cases h1 : a1 < 0
  · simp only [am_ift h1]
    exact ⟨-1, s, s, rfl, rfl, rn, h⟩
  · simp only [am_iff h1]
    by_cases h2 : a1 ≤ s.1 0 1
    · obtain ⟨j, hj, rfl⟩ := nI_of h1
      have hjT : j ≤ T := by rw [t2, nI_leI hj (by omega)] at h2; exact h2
      simp only [am_ift h2, am_ltd]
      refine ⟨nI j, as_i s 0 1 (nI j), as_i (as_i s 0 1 (nI j)) 248 1 (nI j), rfl, ?_, rn, ?_⟩
      · rw [am_ift (by rw [as_i1 (by decide : (248 : Nat) ≠ 0), t3]; rw [t2] at h2; exact h2)]
      · refine InvR_tape h (fun a e1 e2 e3 e4 => by rw [as_i1 e3, as_i1 e1]) (by rw [as_i1 (by decide), as_i2 (by decide)]) (fun i hi => by rw [as_i2 hi, as_i1 (by decide)]) rfl ⟨j, by omega, by rw [as_i1 (by decide), as_i3], as_i3, fun i hi => ?_⟩
        rw [as_i1 (by decide), as_i1 (by decide), as_i1 (by decide), as_i1 (by decide)]
        exact t4 i (by omega)
    · simp only [am_iff h2]
      refine ⟨-1, s, s, rfl, ?_, rn, h⟩
      rw [am_iff (by rw [t3]; rw [t2] at h2; exact h2)]
