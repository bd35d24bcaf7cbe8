/-! a text cut: the bytes gone through -/
section TN
variable {c : Nat → Int32} {T : Nat}
theorem c_cut65 {n a m : Nat} {s0 s : am_S} (hc : ∀ j, j < T → s0.1 1 j = c j) (hT : T ≤ 400) (hn1 : tp c T n = T) (hn2 : ∀ i, i < n → tp c T i < T) (hnT : n ≤ T) (ha : a < T) (h1 : m ≤ n) (h2 : ∀ i, i < m → tp c T i < a) (h3 : a ≤ tp c T m) (h4 : s.1 2 3 = nI m) (h5 : s.1 2 4 = 0) (h6 : s.1 2 5 = 0) (h7 : ∀ i, i < m → s.1 3 i = nI (ko (c (tp c T i))) ∧ s.1 4 i = nI (min (en c T (tp c T i)) a - tp c T i) ∧ s.1 5 i = nI (tp c T i)) (h8 : ∀ b, b ≠ 2 → b ≠ 3 → b ≠ 4 → b ≠ 5 → s.1 b = s0.1 b) (h9 : s.2 = s0.2) (he : ∀ i, i < m → en c T (tp c T i) ≤ a) (hsp : a < tp c T m → c a = nI 32) : ∃ x2, j_X7_cut_65 (nI a) s = some (.inl x2) ∧ cutR c T n s0 (a + 1) x2 := by
  have hb : s.1 1 a = c a := by rw [h8 1 (by decide) (by decide) (by decide) (by decide)]; exact hc a ha
  unfold j_X7_cut_65
  rw [gd_nI (by omega) (by decide), cL (by omega), hb, gd2 (by omega) (by decide)]
  by_cases cs : c a = nI 32
  · rw [am_ift cs, am_ltd, nI_1]
    have hne : a ≠ tp c T m := fun z => tp_no hT (by omega : tp c T m < T) (z ▸ cs)
    refine ⟨_, rfl, rfl, m, h1, fun i hi => by have := h2 i hi; omega, by omega, h4, h5, h6, fun i hi => ?_, h8, h9⟩
    obtain ⟨g1, g2, g3⟩ := h7 i hi
    refine ⟨g1, ?_, g3⟩
    have := he i hi
    rw [g2, Nat.min_eq_left this, Nat.min_eq_left (by omega)]
  · have hat : a = tp c T m := by
      rcases Nat.lt_or_ge a (tp c T m) with z | z
      · exact absurd (hsp z) cs
      · omega
    have hmn : m < n := by
      rcases Nat.lt_or_ge m n with z | z
      · exact z
      · have : m = n := by omega
        rw [this, hn1] at hat
        omega
    rw [am_iff cs, x7_kindOf, am_bds]
    obtain ⟨s2, r1, r2, r3⟩ := c_begin (k := nI (ko (c a))) (at_ := nI a) h4 (by omega)
    rw [r1, am_bds, am_ltd, nI_1]
    have up := tp_up (c := c) (T := T) (i := m) (by omega)
    refine ⟨_, rfl, rfl, m + 1, hmn, fun i hi => ?_, by omega, ?_, ?_, ?_, fun i hi => ?_, fun b b2 b3 b4 b5 => ?_, r3.trans h9⟩
    · by_cases e : i = m
      · subst e; omega
      · have := h2 i (by omega); omega
    · rw [r2]; simp
    · rw [r2]; simp [h5]
    · rw [r2]; simp [h6]
    · dsimp only
      rw [r2, r2, r2]
      by_cases e : i = m
      · subst e
        have := en_gt (c := c) (T := T) (tp c T i)
        rw [Nat.min_eq_right (by omega), ← hat]
        simp
        rfl
      · obtain ⟨g1, g2, g3⟩ := h7 i (by omega)
        have := he i (by omega)
        rw [Nat.min_eq_left this] at g2
        rw [Nat.min_eq_left (by omega)]
        simp [e, g1, g2, g3]
    · dsimp only
      rw [← h8 b b2 b3 b4 b5]
      funext j
      rw [r2]; simp [b2, b3, b4, b5]
theorem tp_le_of {n : Nat} (hn2 : ∀ i, i < n → tp c T i < T) {i j : Nat} (hij : i ≤ j) (hj : j ≤ n) : tp c T i ≤ tp c T j := by
  rcases Nat.lt_or_ge i j with z | z
  · exact Nat.le_of_lt (tp_mono hn2 z hj)
  · rw [show i = j by omega]; exact Nat.le_refl _
theorem en_tp {n : Nat} (hn2 : ∀ i, i < n → tp c T i < T) {i : Nat} (hi : i < n) : en c T (tp c T i) ≤ tp c T (i + 1) := by
  rw [tp_s (hn2 i hi)]; exact sk_ge _
theorem c_cut {s : am_S} (hc : ∀ j, j < T → s.1 1 j = c j) (hT : T ≤ 400) {n : Nat} (hnT : n ≤ T) (hn1 : tp c T n = T) (hn2 : ∀ i, i < n → tp c T i < T) : ∃ s2, f_X7_cut (nI T) s = some s2 ∧ cutE c T n s s2 := by
  have e4 : am_F = 4000 := rfl
  unfold f_X7_cut
  rw [am_ltd, am_ltd, am_ltd]
  refine lp_ind T (cutR c T n s) (cutE c T n s) (fun a ha q hq => ?_) (fun q hq => ?_) (by omega) _ ⟨rfl, 0, by omega, fun i hi => by omega, by omega, ?_, ?_, ?_, fun i hi => by omega, fun b b2 b3 b4 b5 => ?_, rfl⟩
  · obtain ⟨q1, q2⟩ := q
    obtain ⟨h1, m, h2, h3, h4, h5, h6, h7, h8, h9, h10⟩ := hq
    dsimp only at h1 h2 h3 h4 h5 h6 h7 h8 h9 h10
    have hbt : ∀ j, j < T → q2.1 1 j = c j := fun j hj => by rw [h9 1 (by decide) (by decide) (by decide) (by decide)]; exact hc j hj
    left
    dsimp only
    unfold b_X7_cut_17
    rw [h1, am_iff (nI_ge ha (by omega))]
    by_cases a0 : a = 0
    · subst a0
      have hm0 : m = 0 := by
        rcases Nat.eq_zero_or_pos m with z | z
        · exact z
        · have := h3 0 z; omega
      subst hm0
      rw [am_ift (by decide)]
      exact c_cut65 hc hT hn1 hn2 hnT ha h2 h3 h4 h5 h6 h7 h8 h9 h10 (fun i hi => by omega) (fun z => (sk_sp (c := c) (T := T) (r := 0) (by omega) z).2)
    · rw [am_iff (by rw [show (0 : Int32) = nI 0 from rfl, nI_leI (by omega) (by decide)]; omega), h5]
      by_cases m0 : m = 0
      · subst m0
        rw [am_ift (by decide)]
        exact c_cut65 hc hT hn1 hn2 hnT ha h2 h3 h4 h5 h6 h7 h8 h9 h10 (fun i hi => by omega) (fun z => (sk_sp (c := c) (T := T) (r := 0) (by omega) z).2)
      · obtain ⟨w, rfl⟩ : ∃ w, m = w + 1 := ⟨m - 1, by omega⟩
        obtain ⟨b, rfl⟩ : ∃ b, a = b + 1 := ⟨a - 1, by omega⟩
        have hw := hn2 w (by omega)
        have hwa := h3 w (by omega)
        have eg := en_gt (c := c) (T := T) (tp c T w)
        have tps := tp_s (c := c) (T := T) hw
        have epr : ∀ i, i < w + 1 → en c T (tp c T w) ≤ b + 1 → en c T (tp c T i) ≤ b + 1 := fun i hi hle => by
          by_cases e : i = w
          · rw [e]; exact hle
          · have := en_tp hn2 (i := i) (by omega)
            have := tp_le_of hn2 (i := i + 1) (j := w) (by omega) (by omega)
            omega
        rw [am_iff (by rw [show (0 : Int32) = nI 0 from rfl, nI_leI (by omega) (by decide)]; omega), nI_pr, am_ltd, gd_nI (by omega) (by decide), gd_nI (by omega) (by decide), cL (by omega), cL (by omega), hbt b (by omega), hbt (b + 1) ha, x7_goesOn, am_bds]
        by_cases cg : gO (c b) (c (b + 1)) = true
        · have hin : b + 1 < en c T (tp c T w) := by
            rcases Nat.lt_trichotomy (b + 1) (en c T (tp c T w)) with z | z | z
            · exact z
            · have := en_no (c := c) hT (tp c T w) (by omega)
              rw [← z, Nat.add_sub_cancel, cg] at this
              exact absurd this (by decide)
            · have := (sk_sp (c := c) (T := T) (r := en c T (tp c T w)) (q := b) (by omega) (by omega)).2
              rw [this, gO_32] at cg
              exact absurd cg (by decide)
          rw [am_b1 cg, nI_pr, am_ltd, gd_nI (by omega) (by decide), gd_nI (by omega) (by decide), cL (by omega), (h8 w (by omega)).2.1, am_ltd, am_ltd, nI_1, nI_1]
          refine ⟨_, rfl, rfl, w + 1, h2, fun i hi => by have := h3 i hi; omega, ?_, ?_, ?_, ?_, fun i hi => ?_, fun d d2 d3 d4 d5 => ?_, h10⟩
          · have := sk_ge (c := c) (T := T) (en c T (tp c T w))
            omega
          · exact h5
          · exact h6
          · exact h7
          · obtain ⟨g1, g2, g3⟩ := h8 i hi
            refine ⟨g1, ?_, g3⟩
            dsimp only
            by_cases e : i = w
            · subst e
              rw [as_i3, Nat.min_eq_right (by omega), Nat.min_eq_right (by omega)]
              congr 1
              omega
            · rw [as_i2 e, g2]
              have := en_tp hn2 (i := i) (by omega)
              have := tp_le_of hn2 (i := i + 1) (j := w) (by omega) (by omega)
              rw [Nat.min_eq_left (by omega), Nat.min_eq_left (by omega)]
          · dsimp only
            rw [as_i1 d4]
            exact h9 d d2 d3 d4 d5
        · rw [am_b0 cg]
          have hout : en c T (tp c T w) ≤ b + 1 := by
            rcases Nat.lt_or_ge (b + 1) (en c T (tp c T w)) with z | z
            · exact absurd (en_go (c := c) (T := T) (p := tp c T w) (q := b + 1) (by omega) z).2 cg
            · exact z
          exact c_cut65 hc hT hn1 hn2 hnT ha h2 h3 h4 h5 h6 h7 h8 h9 h10 (fun i hi => epr i hi hout) (fun z => (sk_sp (c := c) (T := T) (r := en c T (tp c T w)) (q := b + 1) hout (by omega)).2)
  · obtain ⟨q1, q2⟩ := q
    obtain ⟨h1, m, h2, h3, h4, h5, h6, h7, h8, h9, h10⟩ := hq
    dsimp only at h1 h2 h3 h4 h5 h6 h7 h8 h9 h10
    have hm : m = n := by
      rcases Nat.lt_or_ge m n with z | z
      · have := hn2 m z; omega
      · omega
    subst hm
    obtain ⟨s2, r1, r2⟩ := c_cut2 (c := c) (T := T) (n := m) (s0 := s) (s := q2) hc hT hnT hn1 hn2 ⟨rfl, h5, h6, h7, fun j hj => ⟨(h8 j hj).2.2, fun z => by omega, fun _ => ⟨(h8 j hj).1, by rw [(h8 j hj).2.1, Nat.min_eq_left (en_le (hn2 j hj))]⟩⟩, h9, h10⟩
    refine ⟨s2, ?_, r2⟩
    dsimp only
    unfold b_X7_cut_17
    rw [h1, am_ift (nI_le (Nat.le_refl _) (by omega)), r1, am_bds]
  · dsimp only
    rw [rd_i, rd_i, rd_i]
    simp
    rfl
  · dsimp only
    rw [rd_i, rd_i]
    simp
  · dsimp only
    rw [rd_i]
    simp
  · dsimp only
    rw [as_i1 b2, as_i1 b2, as_i1 b2]
end TN
