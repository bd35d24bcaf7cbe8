/-- the reference: what one believes -/
theorem m_believes {m : Nat → Int32} {s : am_S} {p : Nat} (hm : s.1 258 = m) (ho : okIf m) (hp : p < 7) : ∃ B, f_X12_believes (nI p) s = some (as_w s 259 B) ∧ ∀ f, f < mF m → B f = bel m p f := by
  have hF := ho.1
  obtain ⟨B, hB1, hB2⟩ := m_bel2 hm ho (B0 := fun j => if j < mF m then m (11 + 16 * p + 2 * j) else s.1 259 j) (n0 := 8) (by have := c2_le (fun j => if j < mF m then m (11 + 16 * p + 2 * j) else s.1 259 j) (mF m); omega)
  refine ⟨B, ?_, fun f hf => hB2 (heldR m p) (fun f hf => by unfold heldR; rw [if_pos hf, if_pos hf]) f hf⟩
  unfold f_X12_believes
  have e0 : ((0 : Int32), s) = ((nI 0, as_w s 259 (fun j => if j < 0 then m (11 + 16 * p + 2 * j) else s.1 259 j)) : Int32 × am_S) := by
    have : (fun j => if j < 0 then m (11 + 16 * p + 2 * j) else s.1 259 j) = s.1 259 := by funext j; simp
    rw [this, as_w_self]
    rfl
  rw [e0]
  refine am_lp_run (fun i => ((nI i, as_w s 259 (fun j => if j < i then m (11 + 16 * p + 2 * j) else s.1 259 j)) : Int32 × am_S)) (mF m) (fun i hi => ?_) ?_ (show mF m < am_F by have e : am_F = 4000 := rfl; omega)
  · dsimp only
    have hm2 : ∀ g, (as_w s 259 g).1 258 = m := fun g => by rw [as_w1 (by decide)]; exact hm
    unfold b_X12_believes_2
    rw [hm2, ho.2.2.1, am_iff (nI_ge hi (by omega)), m_holdOf hp (by omega), am_bds, hm2]
    simp (disch := omega) only [am_ltd, nI_1, gd2, cL]
    rw [as_iw]
    congr 4
    funext j
    by_cases h : j = i
    · subst h
      rw [upd_s, if_pos (by omega)]
    · rw [upd_n h]
      by_cases h2 : j < i
      · rw [if_pos h2, if_pos (by omega)]
      · rw [if_neg h2, if_neg (by omega)]
  · dsimp only
    have hm2 : ∀ g, (as_w s 259 g).1 258 = m := fun g => by rw [as_w1 (by decide)]; exact hm
    unfold b_X12_believes_2
    rw [hm2, ho.2.2.1, am_ift (nI_le (Nat.le_refl _) (by omega)), hB1, am_bds]
/-! the class: what follows, in a row from a place on -/
def emb (r : Nat → Int32) (fr : Nat) (b : Nat → Int32) : Nat → Int32 := fun j => if fr ≤ j ∧ j < fr + 8 then b (j - fr) else r j
theorem emb_at {r b : Nat → Int32} {fr f : Nat} (h : f < 8) : emb r fr b (fr + f) = b f := by
  unfold emb
  rw [if_pos (by omega), show fr + f - fr = f by omega]
theorem emb_upd {r b : Nat → Int32} {fr g : Nat} {v : Int32} (h : g < 8) : upd (emb r fr b) (fr + g) v = emb r fr (upd b g v) := by
  funext j
  by_cases e : j = fr + g
  · subst e
    rw [upd_s, emb_at h, upd_s]
  · rw [upd_n e]
    unfold emb
    by_cases h2 : fr ≤ j ∧ j < fr + 8
    · rw [if_pos h2, if_pos h2, upd_n (by omega)]
    · rw [if_neg h2, if_neg h2]
/-- the class's ifs -/
def okC (m : Nat → Int32) (s : am_S) : Prop := s.1 16 10 = m 4 ∧ ∀ j, j < 4 * mI m → s.1 22 j = m (199 + j)
theorem c_firstFollowing {m : Nat → Int32} {s : am_S} {a fr len : Nat} {b : Nat → Int32} (ho : okIf m) (hc : okC m s) (ha : am_sh a = (13, len) ∧ a < am_N) (hl : fr + 8 ≤ len) (hlen : len < 2 ^ 31) (hb : ∀ f, f < 8 → s.1 a (fr + f) = b f) : f_X8_firstFollowing a (nI fr) s = some (match firstIf m b with | none => -1 | some i => nI i) := by
  have hF := ho.1
  have hI := ho.2.1
  have hsh : am_sh a = (13, (am_sh a).2) := by rw [ha.1]
  have hlen2 : (am_sh a).2 = len := by rw [ha.1]
  unfold f_X8_firstFollowing
  rw [am_gdt ⟨hsh, ha.2⟩]
  have stepNo : ∀ i, i < mI m → openIf m b i = false → b_X8_firstFollowing_2 a (nI fr) s (nI i) = some (.inl (nI (i + 1))) := by
    intro i hi hop
    obtain ⟨h1, h2, h3, h4⟩ := ho.2.2.2.2 i hi
    have l1 := h1.2
    have l3 := h3.2
    unfold b_X8_firstFollowing_2 j_X8_firstFollowing_40
    rw [hc.1, ho.2.2.2.1, am_iff (nI_ge hi (by omega)), hlen2]
    simp (disch := omega) only [am_ltd, pk_mul, nI_add, nI_1, gd2, cL]
    have f0 : s.1 22 (4 * i) = nI (mN m (199 + 4 * i)) := (hc.2 (4 * i) (by omega)).trans h1.e
    have f1 : s.1 22 (4 * i + 1) = m (199 + 4 * i + 1) := hc.2 (4 * i + 1) (by omega)
    have f2 : s.1 22 (4 * i + 2) = nI (mN m (199 + 4 * i + 2)) := (hc.2 (4 * i + 2) (by omega)).trans h3.e
    rw [f0, f1, f2]
    simp (disch := omega) only [nI_add, gd2, cL]
    rw [hb _ (by omega), hb _ (by omega)]
    by_cases c1 : b (mN m (199 + 4 * i)) = m (199 + 4 * i + 1)
    · have c3 : ¬ b (mN m (199 + 4 * i + 2)) = nI 2 := fun z => by simp [openIf, c1, z] at hop
      rw [am_ift c1, am_iff (by decide), am_iff c3]
    · rw [am_iff c1, am_ift trivial]
  have stepYes : ∀ i, i < mI m → openIf m b i = true → b_X8_firstFollowing_2 a (nI fr) s (nI i) = some (.inr (nI i)) := by
    intro i hi hop
    obtain ⟨h1, h2, h3, h4⟩ := ho.2.2.2.2 i hi
    have l1 := h1.2
    have l3 := h3.2
    unfold b_X8_firstFollowing_2 j_X8_firstFollowing_40
    rw [hc.1, ho.2.2.2.1, am_iff (nI_ge hi (by omega)), hlen2]
    simp (disch := omega) only [am_ltd, pk_mul, nI_add, nI_1, gd2, cL]
    have f0 : s.1 22 (4 * i) = nI (mN m (199 + 4 * i)) := (hc.2 (4 * i) (by omega)).trans h1.e
    have f1 : s.1 22 (4 * i + 1) = m (199 + 4 * i + 1) := hc.2 (4 * i + 1) (by omega)
    have f2 : s.1 22 (4 * i + 2) = nI (mN m (199 + 4 * i + 2)) := (hc.2 (4 * i + 2) (by omega)).trans h3.e
    rw [f0, f1, f2]
    simp (disch := omega) only [nI_add, gd2, cL]
    rw [hb _ (by omega), hb _ (by omega)]
    have c1 : b (mN m (199 + 4 * i)) = m (199 + 4 * i + 1) := by simp [openIf] at hop; exact hop.1
    have c3 : b (mN m (199 + 4 * i + 2)) = nI 2 := by simp [openIf] at hop; exact hop.2
    rw [am_ift c1, am_iff (by decide), am_ift c3]
  have e4 : am_F = 4000 := rfl
  cases hfi : firstIf m b with
  | none =>
    have hno : ∀ i, i < mI m → openIf m b i = false := by
      unfold firstIf at hfi
      rw [List.find?_eq_none] at hfi
      intro i hi
      have := hfi i (List.mem_range.mpr hi)
      simpa using this
    refine am_lp_run (fun i => nI i) (mI m) (fun i hi => stepNo i hi (hno i hi)) ?_ (by omega)
    unfold b_X8_firstFollowing_2
    rw [hc.1, ho.2.2.2.1, am_ift (nI_le (Nat.le_refl _) (by omega))]
  | some i =>
    unfold firstIf at hfi
    rw [List.find?_range_eq_some] at hfi
    obtain ⟨h1, h2, h3⟩ := hfi
    have hi := List.mem_range.mp h2
    exact am_lp_run (fun i => nI i) i (fun j hj => stepNo j (by omega) (by have := h3 j hj; simpa using this)) (stepYes i hi h1) (by omega)
theorem c_addWhatFollows {m : Nat → Int32} {s : am_S} {a fr len : Nat} {b r : Nat → Int32} (ho : okIf m) (hc : okC m s) (ha : am_sh a = (13, len) ∧ a < am_N) (h16 : a ≠ 16) (h22 : a ≠ 22) (hl : fr + 8 ≤ len) (hlen : len < 2 ^ 31) : f_X8_addWhatFollows a (nI fr) (as_w s a (emb r fr b)) = some (as_w s a (emb r fr (folN m 8 b))) := by
  have hF := ho.1
  have hI := ho.2.1
  have hsh : am_sh a = (13, (am_sh a).2) := by rw [ha.1]
  have hlen2 : (am_sh a).2 = len := by rw [ha.1]
  unfold f_X8_addWhatFollows
  rw [am_gdt ⟨hsh, ha.2⟩]
  have key : ∀ n b F, n ≤ 8 → n < F → am_lp (fun (q : Int32 × am_S) => b_X8_addWhatFollows_2 a (nI fr) q.1 q.2) F (nI (8 - n), as_w s a (emb r fr b)) = some (as_w s a (emb r fr (folN m n b))) := by
    intro n
    induction n with
    | zero =>
      intro b F _ hF
      obtain ⟨F', rfl⟩ : ∃ F', F = F' + 1 := ⟨F - 1, by omega⟩
      refine am_lp_inr ?_
      dsimp only
      unfold b_X8_addWhatFollows_2
      rw [am_ift (nI_le (by omega) (by omega))]
      rfl
    | succ n ih =>
      intro b F hn hF
      obtain ⟨F', rfl⟩ : ∃ F', F = F' + 1 := ⟨F - 1, by omega⟩
      have hc2 : okC m (as_w s a (emb r fr b)) := ⟨by rw [as_w1 (Ne.symm h16)]; exact hc.1, fun j hj => by rw [as_w1 (Ne.symm h22)]; exact hc.2 j hj⟩
      have hff := c_firstFollowing (s := as_w s a (emb r fr b)) (b := b) ho hc2 ha hl hlen (fun f hf => by rw [as_w3]; exact emb_at hf)
      cases hfi : firstIf m b with
      | none =>
        rw [hfi] at hff
        have e : folN m (n + 1) b = b := by rw [folN, hfi]
        rw [e]
        refine am_lp_inr ?_
        dsimp only
        unfold b_X8_addWhatFollows_2
        rw [am_iff (nI_ge (by omega) (by omega)), hff, am_bds, am_ift rfl]
      | some i =>
        rw [hfi] at hff
        have hi : i < mI m := by
          unfold firstIf at hfi
          rw [List.find?_range_eq_some] at hfi
          exact List.mem_range.mp hfi.2.1
        obtain ⟨h1, h2, h3, h4⟩ := ho.2.2.2.2 i hi
        have l3 := h3.2
        have e : folN m (n + 1) b = folN m n (upd b (mN m (199 + 4 * i + 2)) (m (199 + 4 * i + 3))) := by rw [folN, hfi]
        rw [e]
        rw [am_lp_inl (s2 := (nI (8 - n), as_w s a (emb r fr (upd b (mN m (199 + 4 * i + 2)) (m (199 + 4 * i + 3)))))) ?_]
        · exact ih _ F' (by omega) (by omega)
        · dsimp only
          unfold b_X8_addWhatFollows_2
          rw [am_iff (nI_ge (by omega) (by omega)), hff, am_bds, am_iff (show ¬ nI i = -1 from fun z => by
            have h := nI_pos (n := i) (by omega)
            rw [z] at h
            exact h (by decide)), hlen2]
          simp (disch := omega) only [am_ltd, pk_mul, nI_add, nI_1, gd2, cL]
          rw [as_w1 (Ne.symm h22)]
          have f2 : s.1 22 (4 * i + 2) = nI (mN m (199 + 4 * i + 2)) := (hc.2 (4 * i + 2) (by omega)).trans h3.e
          have f3 : s.1 22 (4 * i + 3) = m (199 + 4 * i + 3) := hc.2 (4 * i + 3) (by omega)
          rw [f2, f3]
          simp (disch := omega) only [nI_add, gd2, cL]
          rw [as_iw, emb_upd (by omega), show 8 - (n + 1) + 1 = 8 - n by omega]
  have e4 : am_F = 4000 := rfl
  exact key 8 b am_F (Nat.le_refl _) (by omega)
