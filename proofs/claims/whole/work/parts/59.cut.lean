/-! a text cut -/
section TM
variable {c : Nat → Int32} {T : Nat}
theorem c_settle {i p : Nat} {s : am_S} (hc : ∀ j, j < T → s.1 1 j = c j) (hT : T ≤ 400) (hi : i < 401) (hp : p < T) (h5 : s.1 5 i = nI p) (h4 : s.1 4 i = nI (en c T p - p)) (h3 : s.1 3 i = nI (ko (c p))) : ∃ s2, f_X7_settleValue (nI i) s = some s2 ∧ s2.1 3 i = nI (KD c T p) ∧ s2.1 4 i = VL c T p ∧ (∀ b j, ¬ ((b = 3 ∨ b = 4) ∧ j = i) → s2.1 b j = s.1 b j) ∧ s2.2 = s.2 := by
  have eg := en_gt (c := c) (T := T) p
  have el := en_le (c := c) hp
  have frm : ∀ (b0 : Nat) (v : Int32), b0 = 3 ∨ b0 = 4 → ∀ b j, ¬ ((b = 3 ∨ b = 4) ∧ j = i) → (as_i s b0 i v).1 b j = s.1 b j := fun b0 v hb b j z => by
    rw [rd_i, if_neg]
    rintro ⟨z1, z2⟩
    exact z ⟨by omega, z2⟩
  have epe : nI p + nI (en c T p - p) = nI (en c T p) := by rw [nI_add]; congr 1; omega
  unfold f_X7_settleValue
  rw [gd_nI hi (by decide), cL (by omega), am_ltd, gd2 hi (by decide), am_ltd, gd2 hi (by decide), am_ltd, h5, h4, h3, gd2 hi (by decide)]
  by_cases cl : LE (c p) = true
  · have k : ko (c p) = 1 := by unfold ko; rw [if_pos cl]
    rw [k, am_ift (show nI 1 = (1 : Int32) from rfl), epe, c_wordNumber hc hT el (by omega), am_bds, gd2 hi (by decide), am_ltd]
    refine ⟨_, rfl, ?_, ?_, frm 4 _ (Or.inr rfl), rfl⟩
    · rw [as_i1 (by decide), h3, k]; unfold KD; rw [if_pos hp, if_pos cl]
    · rw [as_i3]; unfold VL; rw [if_pos hp, if_pos cl]
  · by_cases cd : DI (c p) = true
    · have k : ko (c p) = 2 := by unfold ko; rw [if_neg cl, if_pos cd]
      rw [k, am_iff (by decide), am_ift rfl]
      by_cases c5 : en c T p ≤ p + 5
      · rw [am_ift (nI_le (by omega) (by decide)), epe, c_numberOf hc hT el (by omega) c5 (en_DI hT cd).1, am_bds, gd2 hi (by decide), am_ltd]
        refine ⟨_, rfl, ?_, ?_, frm 4 _ (Or.inr rfl), rfl⟩
        · rw [as_i1 (by decide), h3, k]; unfold KD; rw [if_pos hp, if_neg cl, if_pos cd, if_pos c5]
        · rw [as_i3]; unfold VL; rw [if_pos hp, if_neg cl, if_pos cd, if_pos c5]
      · rw [am_iff (nI_ge (by omega) (by omega)), am_ltd]
        refine ⟨_, rfl, ?_, ?_, frm 3 _ (Or.inl rfl), rfl⟩
        · rw [as_i3]; unfold KD; rw [if_pos hp, if_neg cl, if_pos cd, if_neg c5]
        · rw [as_i1 (by decide), h4]; unfold VL; rw [if_pos hp, if_neg cl, if_pos cd, if_neg c5]
    · by_cases cs : isSg (c p) = true
      · have k : ko (c p) = 4 := by unfold ko; rw [if_neg cl, if_neg cd, if_pos cs]
        have eo := en_oth hT hp (by simpa using cl) (by simpa using cd)
        have e12 : en c T p = p + 1 ∨ en c T p = p + 2 := by
          rw [eo]; split
          · right; rfl
          · left; rfl
        rw [k, am_iff (by decide), am_iff (by decide), am_iff (by decide), am_ift rfl, gd_nI (by omega) (by decide), cL (by omega), hc p hp, c_signStep cs e12, am_bds, gd2 hi (by decide), am_ltd]
        refine ⟨_, rfl, ?_, ?_, frm 4 _ (Or.inr rfl), rfl⟩
        · rw [as_i1 (by decide), h3, k]; unfold KD; rw [if_pos hp, if_neg cl, if_neg cd, if_pos cs]
        · rw [as_i3]; unfold VL; rw [if_pos hp, if_neg cl, if_neg cd, if_pos cs]
      · have k : ko (c p) = 5 := by unfold ko; rw [if_neg cl, if_neg cd, if_neg cs]
        rw [k, am_iff (by decide), am_iff (by decide), am_iff (by decide), am_iff (by decide), gd_nI (by omega) (by decide), gd2 hi (by decide), cL (by omega), hc p hp, am_ltd]
        refine ⟨_, rfl, ?_, ?_, frm 4 _ (Or.inr rfl), rfl⟩
        · rw [as_i1 (by decide), h3, k]; unfold KD; rw [if_pos hp, if_neg cl, if_neg cd, if_neg cs]
        · rw [as_i3]; unfold VL; rw [if_pos hp, if_neg cl, if_neg cd, if_neg cs]
/-- behind a bytes -/
def cutR (c : Nat → Int32) (T n : Nat) (s0 : am_S) (a : Nat) (q : Int32 × am_S) : Prop := q.1 = nI a ∧ ∃ m, m ≤ n ∧ (∀ i, i < m → tp c T i < a) ∧ a ≤ tp c T m ∧ q.2.1 2 3 = nI m ∧ q.2.1 2 4 = 0 ∧ q.2.1 2 5 = 0 ∧ (∀ i, i < m → q.2.1 3 i = nI (ko (c (tp c T i))) ∧ q.2.1 4 i = nI (min (en c T (tp c T i)) a - tp c T i) ∧ q.2.1 5 i = nI (tp c T i)) ∧ (∀ b, b ≠ 2 → b ≠ 3 → b ≠ 4 → b ≠ 5 → q.2.1 b = s0.1 b) ∧ q.2.2 = s0.2
/-- behind i of its tokens -/
def cutQ (c : Nat → Int32) (T n : Nat) (s0 : am_S) (i : Nat) (q : Int32 × am_S) : Prop := q.1 = nI i ∧ q.2.1 2 3 = nI n ∧ q.2.1 2 4 = 0 ∧ q.2.1 2 5 = 0 ∧ (∀ j, j < n → q.2.1 5 j = nI (tp c T j) ∧ (j < i → q.2.1 3 j = nI (KD c T (tp c T j)) ∧ q.2.1 4 j = VL c T (tp c T j)) ∧ (i ≤ j → q.2.1 3 j = nI (ko (c (tp c T j))) ∧ q.2.1 4 j = nI (en c T (tp c T j) - tp c T j))) ∧ (∀ b, b ≠ 2 → b ≠ 3 → b ≠ 4 → b ≠ 5 → q.2.1 b = s0.1 b) ∧ q.2.2 = s0.2
def cutE (c : Nat → Int32) (T n : Nat) (s0 s2 : am_S) : Prop := tokAt c T n s2 ∧ s2.1 2 4 = 0 ∧ s2.1 2 5 = 0 ∧ (∀ b, b ≠ 2 → b ≠ 3 → b ≠ 4 → b ≠ 5 → s2.1 b = s0.1 b) ∧ s2.2 = s0.2
theorem c_cut2 {n : Nat} {s0 s : am_S} (hc : ∀ j, j < T → s0.1 1 j = c j) (hT : T ≤ 400) (hn : n ≤ T) (hn1 : tp c T n = T) (hn2 : ∀ i, i < n → tp c T i < T) (h : cutQ c T n s0 0 ((0 : Int32), s)) : ∃ s2, j_X7_cut_90 (nI T) s = some s2 ∧ cutE c T n s0 s2 := by
  have e4 : am_F = 4000 := rfl
  unfold j_X7_cut_90
  refine lp_ind n (cutQ c T n s0) (cutE c T n s0) (fun i hi q hq => ?_) (fun q hq => ?_) (by omega) ((0 : Int32), s) h
  · obtain ⟨q1, q2⟩ := q
    obtain ⟨h1, h2, h3, h4, h5, h6, h7⟩ := hq
    dsimp only at h1 h2 h3 h4 h5 h6 h7
    obtain ⟨g1, g2, g3⟩ := h5 i hi
    obtain ⟨g4, g5⟩ := g3 (Nat.le_refl _)
    obtain ⟨s2, r1, r2, r3, r4, r5⟩ := c_settle (c := c) (T := T) (s := q2) (fun j hj => by rw [h6 1 (by decide) (by decide) (by decide) (by decide)]; exact hc j hj) hT (by omega) (hn2 i hi) g1 g5 g4
    left
    refine ⟨(nI (i + 1), s2), ?_, rfl, ?_, ?_, ?_, fun j hj => ⟨?_, fun hji => ?_, fun hij => ?_⟩, fun b b2 b3 b4 b5 => ?_, r5.trans h7⟩
    · dsimp only
      unfold b_X7_cut_92
      rw [h1, h2, am_iff (nI_ge hi (by omega)), r1, am_bds, am_ltd, nI_1]
    · exact (r4 2 3 (by omega)).trans h2
    · exact (r4 2 4 (by omega)).trans h3
    · exact (r4 2 5 (by omega)).trans h4
    · exact (r4 5 j (by omega)).trans (h5 j hj).1
    · by_cases e : j = i
      · subst e; exact ⟨r2, r3⟩
      · rw [r4 3 j (by omega), r4 4 j (by omega)]
        exact (h5 j hj).2.1 (by omega)
    · rw [r4 3 j (by omega), r4 4 j (by omega)]
      exact (h5 j hj).2.2 (by omega)
    · dsimp only
      rw [← h6 b b2 b3 b4 b5]
      funext j
      exact r4 b j (by omega)
  · obtain ⟨q1, q2⟩ := q
    obtain ⟨h1, h2, h3, h4, h5, h6, h7⟩ := hq
    dsimp only at h1 h2 h3 h4 h5 h6 h7
    obtain ⟨s2, r1, r2, r3⟩ := c_begin (k := 0) (at_ := nI T) h2 (by omega)
    refine ⟨s2, ?_, ⟨?_, fun i hi => ?_⟩, ?_, ?_, fun b b2 b3 b4 b5 => ?_, r3.trans h7⟩
    · dsimp only
      unfold b_X7_cut_92 j_X7_cut_112
      rw [h1, h2, am_ift (nI_le (Nat.le_refl _) (by omega)), r1, am_bds, am_bds]
    · rw [r2]; simp
    · by_cases e : i = n
      · subst e
        rw [hn1, r2, r2, r2]
        unfold KD VL
        simp
        rfl
      · have hi2 : i < n := by omega
        obtain ⟨g1, g2, _⟩ := h5 i hi2
        obtain ⟨g4, g5⟩ := g2 hi2
        rw [r2, r2, r2]
        simp [e, g1, g4, g5]
    · rw [r2]; simp [h3]
    · rw [r2]; simp [h4]
    · rw [← h6 b b2 b3 b4 b5]
      funext j
      rw [r2]; simp [b2, b3, b4, b5]
end TM
