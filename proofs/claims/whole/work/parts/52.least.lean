/-! the lie that harms least; the evening -/
theorem harmB_eq {m n B : Nat → Int32} (h : agT m n) (w : wfT m) : harmB n B = harmB m B := by
  have h5 := w.H10
  unfold harmB
  rw [h.mH]
  refine sumI_congr _ (fun i hi => ?_)
  unfold hg
  rw [mN_eq (h (239 + 3 * i) (by unfold tc; omega)), h (239 + 3 * i + 1) (by unfold tc; omega), h (239 + 3 * i + 2) (by unfold tc; omega)]
theorem harmB_n {m B : Nat → Int32} (w : wfT m) : ∃ h, h ≤ 1000 ∧ harmB m B = nI h := by
  have h5 := w.H10
  have key : ∀ n, n ≤ mH m → ∃ h, h ≤ 100 * n ∧ sumI (hg m B) n = nI h := by
    intro n
    induction n with
    | zero => intro _; exact ⟨0, Nat.le_refl _, rfl⟩
    | succ n ih =>
      intro hn
      obtain ⟨h, h1, h2⟩ := ih (by omega)
      have hz := (w.2.2.2.2.2.2.2.2.2.2.2.1 n (by omega)).2.2
      have hz2 := hz.2
      rw [sumI, h2]
      unfold hg
      by_cases c : B (mN m (239 + 3 * n)) = m (239 + 3 * n + 1)
      · rw [if_pos c, hz.e, nI_add]
        exact ⟨_, by omega, rfl⟩
      · rw [if_neg c, az]
        exact ⟨h, by omega, rfl⟩
  obtain ⟨h, h1, h2⟩ := key (mH m) (Nat.le_refl _)
  exact ⟨h, by omega, h2⟩
def hbV (m : Nat → Int32) (i j f : Nat) : Int32 := harmB m (bel (toldM m i j f (1 - soM m f)) j)
theorem c_hb {m : Nat → Int32} {s : am_S} {i j f : Nat} (w : wfT m) (t : townAt m s) (l : lifeAt m s 24) (hi : i < mP m) (hj : j < mP m) (hf : f < mF m) : ∃ s2, f_X11_harmBehindLie (nI i) (nI j) (nI f) s = some (hbV m i j f, s2) ∧ (∀ c, c ≠ 142 → s2.1 c = s.1 c) ∧ s2.2 = s.2 := by
  have hP := w.P7
  have hF := w.F8
  have ag := toldM_agL (m := m) (i := i) (j := j) (f := f) (v := 1 - soM m f) (by omega) (by omega)
  have e1 : va_cpy (s.1 25) (s.1 142) (j * 8) 0 8 = emb (s.1 142) 0 (fun f2 => s.1 25 (8 * j + f2)) := by
    funext q
    unfold emb
    by_cases c : 0 ≤ q ∧ q < 0 + 8
    · rw [pk_cpy_in c.1 c.2, if_pos c, show j * 8 = 8 * j by omega]
    · rw [pk_cpy_out (by omega), if_neg c]
  have hd : ∀ f2, f2 < 8 → s.1 25 (8 * j + f2) = heldR m j f2 := fun f2 hf2 => l.hd hj hf2
  have fin : ∀ b : Nat → Int32, (∀ f2, f2 < 8 → b f2 = heldR (toldM m i j f (1 - soM m f)) j f2) → ∃ s2, j_X11_harmBehindLie_69 (as_w s 142 (emb (s.1 142) 0 b)) = some (hbV m i j f, s2) ∧ (∀ c, c ≠ 142 → s2.1 c = s.1 c) ∧ s2.2 = s.2 := by
    intro b hb
    have a1 : f_X8_addWhatFollows 142 0 (as_w s 142 (emb (s.1 142) 0 b)) = some (as_w s 142 (emb (s.1 142) 0 (folN m 8 b))) := c_addWhatFollows (fr := 0) (len := 8) w.okIf t.okC ⟨by decide, by decide⟩ (by decide) (by decide) (by decide) (by decide)
    have t2 : townAt m (as_w s 142 (emb (s.1 142) 0 (folN m 8 b))) := townAt_of t (fun c c1 c2 => as_w1 (by omega))
    have a2 : f_X8_harmOf 142 0 (as_w s 142 (emb (s.1 142) 0 (folN m 8 b))) = some (harmB m (folN m 8 b)) := c_harmOf (fr := 0) (len := 8) w.okH t2.okCH ⟨by decide, by decide⟩ (by decide) (by decide) (fun f2 hf2 => by rw [as_w3, emb_at hf2])
    refine ⟨as_w s 142 (emb (s.1 142) 0 (folN m 8 b)), ?_, fun c hc => as_w1 hc, rfl⟩
    unfold j_X11_harmBehindLie_69
    rw [a1, am_bds, a2, am_bds]
    have : harmB m (folN m 8 b) = hbV m i j f := by
      unfold hbV bel
      rw [folN_eq ag.t w]
      exact harmB_congr w.okH (fun f2 hf2 => folN_congr w.okIf 8 _ _ hb f2 (by omega))
    rw [this]
  unfold f_X11_harmBehindLie
  rw [pk_mul, am_gdt ⟨nI_pos (by omega), by decide, by decide, by rw [cL (by omega), cL (by decide)]; omega, by decide⟩, cL (by omega), am_ltd, e1]
  have t2 : townAt m (as_w s 142 (emb (s.1 142) 0 (fun f2 => s.1 25 (8 * j + f2)))) := townAt_of t (fun c c1 c2 => as_w1 (by omega))
  have l2 : lifeAt m (as_w s 142 (emb (s.1 142) 0 (fun f2 => s.1 25 (8 * j + f2)))) 24 := lifeAt_of l (fun c c1 c2 => as_w1 (by omega))
  rw [c_accepts w t2 (show 24 ∈ am_isL by decide) l2 hi hj hf, am_bds]
  by_cases c : m (11 + 16 * j + 2 * f) = nI 2 ∨ ¬ m (130 + (7 * j + i)) < m (11 + 16 * j + 2 * f + 1)
  · rw [am_b1 c, t2.so, c_bit, am_bds, gd_nI (by omega) (by decide), cL (by omega), am_ltd, as_iw]
    have eu : upd (emb (s.1 142) 0 (fun f2 => s.1 25 (8 * j + f2))) f (1 - ((m 1 >>> (nI f &&& 31)) &&& 1)) = emb (s.1 142) 0 (upd (fun f2 => s.1 25 (8 * j + f2)) f (1 - soM m f)) := by
      have := emb_upd (r := s.1 142) (b := fun f2 => s.1 25 (8 * j + f2)) (fr := 0) (g := f) (v := 1 - soM m f) (by omega)
      rw [Nat.zero_add] at this
      exact this
    rw [eu]
    refine fin _ (fun f2 hf2 => ?_)
    have em : toldM m i j f (1 - soM m f) = upd (upd m (11 + 16 * j + 2 * f) (1 - soM m f)) (11 + 16 * j + 2 * f + 1) (m (130 + (7 * j + i))) := by
      unfold toldM
      rw [if_pos c]
    by_cases e : f2 = f
    · subst e
      rw [upd_s]
      unfold heldR
      rw [ag.t.mF, if_pos hf, em, upd_n (by omega), upd_s]
    · rw [upd_n e, hd f2 hf2]
      unfold heldR
      rw [ag.t.mF]
      by_cases e2 : f2 < mF m
      · rw [if_pos e2, if_pos e2, em, upd_n (by omega), upd_n (by omega)]
      · rw [if_neg e2, if_neg e2]
  · rw [am_b0 c]
    have em : toldM m i j f (1 - soM m f) = m := by
      unfold toldM
      rw [if_neg c]
    exact fin _ (fun f2 hf2 => by rw [em]; exact hd f2 hf2)
theorem m_hb {m : Nat → Int32} {s : am_S} {i j f : Nat} (hm : s.1 258 = m) (w : wfT m) (hi : i < mP m) (hj : j < mP m) (hf : f < mF m) : ∃ s2, f_X12_harmBehind (nI i) (nI j) (nI f) s = some (hbV m i j f, s2) ∧ (∀ c, c ≠ 259 → s2.1 c = s.1 c) ∧ s2.2 = s.2 := by
  have hP := w.P7
  have hF := w.F8
  have ag := toldM_agL (m := m) (i := i) (j := j) (f := f) (v := 1 - soM m f) (by omega) (by omega)
  have es : s = as_w s 258 m := by rw [← hm, as_w_self]
  have it := m_isTold (m := m) (s := s) (i := i) (j := j) (f := f) (v := 1 - soM m f) (by omega) (by omega) (by omega)
  rw [← es] at it
  obtain ⟨B, hB⟩ := m_harmOf (s := as_w s 258 (toldM m i j f (1 - soM m f))) as_w3 (wfT_eq ag.t w) (p := j) (by omega)
  refine ⟨as_w s 259 B, ?_, fun c hc => as_w1 hc, rfl⟩
  unfold f_X12_harmBehind
  rw [m_holdOf (by omega) (by omega), am_bds, m_strengthOf (by omega) (by omega), am_bds, m_soOf, am_bds, hm, it, am_bds, hB, am_b2s, m_holdsNow (by omega) (by omega), am_bds]
  have e1 : harmB (toldM m i j f (1 - soM m f)) (bel (toldM m i j f (1 - soM m f)) j) = hbV m i j f := harmB_eq ag.t w
  rw [e1]
  congr 2
  have key : ∀ a q, (as_i (as_i (as_w (as_w s 258 (toldM m i j f (1 - soM m f))) 259 B) 258 (11 + 16 * j + 2 * f) (m (11 + 16 * j + 2 * f))) 258 (11 + 16 * j + 2 * f + 1) (m (11 + 16 * j + 2 * f + 1))).1 a q = (as_w s 259 B).1 a q := by
    intro a q
    by_cases ca : a = 258
    · subst ca
      rw [as_w1 (by decide : (258 : Nat) ≠ 259) (s := s), hm]
      by_cases c1 : q = 11 + 16 * j + 2 * f + 1
      · subst c1; rw [as_i3]
      · rw [as_i2 c1]
        by_cases c2 : q = 11 + 16 * j + 2 * f
        · subst c2; rw [as_i3]
        · rw [as_i2 c2, as_w1 (by decide), as_w3, toldM_n c2 c1]
    · rw [as_i1 ca, as_i1 ca]
      by_cases cb : a = 259
      · subst cb; rw [as_w3, as_w3]
      · rw [as_w1 cb, as_w1 ca, as_w1 cb]
  exact Prod.ext (funext fun a => funext fun q => key a q) rfl
/-- the fact by which it is least -/
theorem c_leastF {m : Nat → Int32} {s : am_S} {i j : Nat} (w : wfT m) (t : townAt m s) (l : lifeAt m s 24) (hi : i < mP m) (hj : j < mP m) : ∃ s2, f_X11_leastLieFact (nI i) (nI j) s = some (nI (bA (hbV m i j) (mF m)), s2) ∧ (∀ c, c ≠ 142 → s2.1 c = s.1 c) ∧ s2.2 = s.2 := by
  have hF := w.F8
  have h0 : 0 < mF m := w.fp (by omega)
  have e4 : am_F = 4000 := rfl
  obtain ⟨s1, a1, a2, a3⟩ := c_hb w t l hi hj h0
  have a1 : f_X11_harmBehindLie (nI i) (nI j) 0 s = some (hbV m i j 0, s1) := a1
  unfold f_X11_leastLieFact
  rw [a1, am_b2s]
  have key := lp_ind (body := fun (q : Int32 × Int32 × Int32 × am_S) => b_X11_leastLieFact_14 (nI i) (nI j) q.1 q.2.1 q.2.2.1 q.2.2.2) (mF m - 1) (fun x q => q.1 = nI (bA (hbV m i j) (x + 1)) ∧ q.2.1 = hbV m i j (bA (hbV m i j) (x + 1)) ∧ q.2.2.1 = nI (x + 1) ∧ (∀ c, c ≠ 142 → q.2.2.2.1 c = s.1 c) ∧ q.2.2.2.2 = s.2) (fun e => ∃ s2, e = (nI (bA (hbV m i j) (mF m)), s2) ∧ (∀ c, c ≠ 142 → s2.1 c = s.1 c) ∧ s2.2 = s.2) ?_ ?_ (F := am_F) (by omega) ((0 : Int32), hbV m i j 0, (1 : Int32), s1) ⟨rfl, rfl, rfl, a2, a3⟩
  · obtain ⟨e, g1, s2, rfl, g2, g3⟩ := key
    exact ⟨s2, g1, g2, g3⟩
  · rintro x hx ⟨q1, q2, q3, y⟩ ⟨h1, h2, h3, h4, h5⟩
    dsimp only at h1 h2 h3 h4 h5
    subst h1 h2 h3
    left
    have ty : townAt m y := townAt_of t (fun c c1 c2 => h4 c (by omega))
    have ly : lifeAt m y 24 := lifeAt_of l (fun c c1 c2 => h4 c (by omega))
    obtain ⟨z, b1, b2, b3⟩ := c_hb w ty ly hi hj (f := x + 1) (by omega)
    have hb := bA_lt (hbV m i j) (x + 1)
    have eb : bA (hbV m i j) (x + 1 + 1) = if hbV m i j (x + 1) < hbV m i j (bA (hbV m i j) (x + 1)) then x + 1 else bA (hbV m i j) (x + 1) := by rw [bA, if_neg (by omega)]
    dsimp only
    unfold b_X11_leastLieFact_14
    rw [ty.F w, am_iff (nI_ge (by omega) (by omega)), b1, am_b2s, am_ltd, nI_1, am_ltd, eb]
    by_cases cc : hbV m i j (x + 1) < hbV m i j (bA (hbV m i j) (x + 1))
    · rw [am_iff (Int32.not_le.mpr cc), if_pos cc]
      exact ⟨_, rfl, rfl, rfl, rfl, fun c hc => (b2 c hc).trans (h4 c hc), b3.trans h5⟩
    · rw [am_ift (Int32.not_lt.mp cc), if_neg cc]
      exact ⟨_, rfl, rfl, rfl, rfl, fun c hc => (b2 c hc).trans (h4 c hc), b3.trans h5⟩
  · rintro ⟨q1, q2, q3, y⟩ ⟨h1, h2, h3, h4, h5⟩
    dsimp only at h1 h2 h3 h4 h5
    subst h1 h2 h3
    have ty : townAt m y := townAt_of t (fun c c1 c2 => h4 c (by omega))
    refine ⟨_, ?_, y, rfl, h4, h5⟩
    dsimp only
    unfold b_X11_leastLieFact_14
    rw [ty.F w, show mF m - 1 + 1 = mF m by omega, am_ift (nI_le (Nat.le_refl _) (by omega))]
theorem m_leastF {m : Nat → Int32} {s : am_S} {i j : Nat} (hm : s.1 258 = m) (w : wfT m) (hi : i < mP m) (hj : j < mP m) : ∃ s2, f_X12_leastFact (nI i) (nI j) s = some (nI (bA (hbV m i j) (mF m)), s2) ∧ (∀ c, c ≠ 259 → s2.1 c = s.1 c) ∧ s2.2 = s.2 := by
  have hF := w.F8
  have h0 : 0 < mF m := w.fp (by omega)
  have e4 : am_F = 4000 := rfl
  unfold f_X12_leastFact
  have key := lp_ind (body := fun (q : Int32 × Int32 × am_S) => b_X12_leastFact_5 (nI i) (nI j) q.1 q.2.1 q.2.2) (mF m - 1) (fun x q => q.1 = nI (bA (hbV m i j) (x + 1)) ∧ q.2.1 = nI (x + 1) ∧ (∀ c, c ≠ 259 → q.2.2.1 c = s.1 c) ∧ q.2.2.2 = s.2) (fun e => ∃ s2, e = (nI (bA (hbV m i j) (mF m)), s2) ∧ (∀ c, c ≠ 259 → s2.1 c = s.1 c) ∧ s2.2 = s.2) ?_ ?_ (F := am_F) (by omega) ((0 : Int32), (1 : Int32), s) ⟨rfl, rfl, fun _ _ => rfl, rfl⟩
  · obtain ⟨e, g1, s2, rfl, g2, g3⟩ := key
    exact ⟨s2, g1, g2, g3⟩
  · rintro x hx ⟨q1, q3, y⟩ ⟨h1, h3, h4, h5⟩
    dsimp only at h1 h3 h4 h5
    subst h1 h3
    left
    have my : y.1 258 = m := by rw [h4 258 (by decide)]; exact hm
    have hb := bA_lt (hbV m i j) (x + 1)
    obtain ⟨z, b1, b2, b3⟩ := m_hb my w hi hj (f := x + 1) (by omega)
    have mz : z.1 258 = m := by rw [b2 258 (by decide)]; exact my
    obtain ⟨z2, c1, c2, c3⟩ := m_hb mz w hi hj (f := bA (hbV m i j) (x + 1)) (by omega)
    have eb : bA (hbV m i j) (x + 1 + 1) = if hbV m i j (x + 1) < hbV m i j (bA (hbV m i j) (x + 1)) then x + 1 else bA (hbV m i j) (x + 1) := by rw [bA, if_neg (by omega)]
    dsimp only
    unfold b_X12_leastFact_5
    rw [my, w.F1, am_iff (nI_ge (by omega) (by omega)), b1, am_b2s, c1, am_b2s, am_ltd, nI_1, am_ltd, eb]
    by_cases cc : hbV m i j (x + 1) < hbV m i j (bA (hbV m i j) (x + 1))
    · rw [am_iff (Int32.not_le.mpr cc), if_pos cc]
      exact ⟨_, rfl, rfl, rfl, fun c hc => ((c2 c hc).trans (b2 c hc)).trans (h4 c hc), (c3.trans b3).trans h5⟩
    · rw [am_ift (Int32.not_lt.mp cc), if_neg cc]
      exact ⟨_, rfl, rfl, rfl, fun c hc => ((c2 c hc).trans (b2 c hc)).trans (h4 c hc), (c3.trans b3).trans h5⟩
  · rintro ⟨q1, q3, y⟩ ⟨h1, h3, h4, h5⟩
    dsimp only at h1 h3 h4 h5
    subst h1 h3
    have my : y.1 258 = m := by rw [h4 258 (by decide)]; exact hm
    refine ⟨_, ?_, y, rfl, h4, h5⟩
    dsimp only
    unfold b_X12_leastFact_5
    rw [my, w.F1, show mF m - 1 + 1 = mF m by omega, am_ift (nI_le (Nat.le_refl _) (by omega))]
theorem bA_ltF {m : Nat → Int32} {g : Nat → Int32} (h : 0 < mF m) : bA g (mF m) < mF m := by have := bA_lt g (mF m); omega
theorem prot142 {s s2 : am_S} (h : ∀ c, c ≠ 142 → s2.1 c = s.1 c) (g : s2.2 = s.2) : prot s s2 := by
  refine ⟨fun a ha => h a (fun e => by subst e; unfold isPr at ha; omega), by rw [h 0 (by decide)], by rw [h 0 (by decide)], by rw [h 248 (by decide)], by rw [h 248 (by decide)], by rw [h 248 (by decide)], by rw [h 248 (by decide)], by rw [h 248 (by decide)], fun z => ?_⟩
  unfold pRef at z ⊢
  rw [g]
  exact z
theorem prot259 {s s2 : am_S} (h : ∀ c, c ≠ 259 → s2.1 c = s.1 c) (g : s2.2 = s.2) : prot s s2 := by
  refine ⟨fun a ha => h a (fun e => by subst e; unfold isPr at ha; omega), by rw [h 0 (by decide)], by rw [h 0 (by decide)], by rw [h 248 (by decide)], by rw [h 248 (by decide)], by rw [h 248 (by decide)], by rw [h 248 (by decide)], by rw [h 248 (by decide)], fun z => ?_⟩
  unfold pRef at z ⊢
  rw [g]
  exact z
theorem maySay0 {m : Nat → Int32} {p q : Int32} (w : wfT m) : (stB m p q = true ∧ inP 0 (mF m) ∧ ((0 : Int32) = 0 ∨ (0 : Int32) = 1)) ↔ stB m p q = true := by
  have hF := w.F8
  constructor
  · exact fun z => z.1
  · intro z
    obtain ⟨i, j, hi, hj, -, -, -, -⟩ := stB_of w z
    have h0 : 0 < mF m := w.fp (by omega)
    exact ⟨z, inP_nI (j := 0) h0 (by omega), Or.inl rfl⟩
theorem m_maySay0 {m : Nat → Int32} {s : am_S} {p q : Int32} (w : wfT m) (hm : s.1 258 = m) : f_X12_maySay p q 0 0 s = some (b01 (stB m p q = true)) := by rw [m_maySay w hm, b01_iff (maySay0 w)]
theorem st_leastLie : LS_leastLie Inv := by
  intro k s p q v hk hI
  obtain ⟨rn, h⟩ := hI
  have h := InvR_mono h
  have w := h.w
  have hF := w.F8
  unfold f_X11_leastLie f_X12_leastLie
  rw [c_hasStreet w h.t, am_bds]
  by_cases c : stB (s.1 258) p q = true
  · rw [am_b1 c, c_isBit, am_bds]
    obtain ⟨i, j, hi, hj, rfl, rfl, -, -⟩ := stB_of w c
    have h0 : 0 < mF (s.1 258) := w.fp (by omega)
    by_cases h1 : v = 0 ∨ v = 1
    · rw [am_b1 h1]
      obtain ⟨s1, a1, a2, a3⟩ := c_leastF w h.t h.f hi hj
      rw [a1, am_b2s]
      have hb := bA_ltF (g := hbV (s.1 258) i j) h0
      rcases h1 with rfl | rfl
      · have m1 : s1.1 258 = s.1 258 := a2 258 (by decide)
        obtain ⟨s2, b1, b2, b3⟩ := m_leastF m1 w hi hj
        refine ⟨_, s1, s2, am_ift rfl, ?_, rn, InvR_prot (InvR_prot h (prot142 a2 a3)) (prot259 b2 b3)⟩
        rw [m_maySay0 w m1, am_bds, am_b1 c, m_in01, am_bds, am_b1 (Or.inl rfl), b1, am_b2s, am_ift rfl]
      · obtain ⟨s3, d1, d2, d3⟩ := c_hb w (townAt_of h.t (fun c c1 c2 => a2 c (by omega))) (lifeAt_of h.f (fun c c1 c2 => a2 c (by omega))) hi hj hb
        have m3 : s3.1 258 = s.1 258 := (d2 258 (by decide)).trans (a2 258 (by decide))
        obtain ⟨s2, b1, b2, b3⟩ := m_leastF m3 w hi hj
        obtain ⟨s4, f1, f2, f3⟩ := m_hb (s := s2) ((b2 258 (by decide)).trans m3) w hi hj hb
        refine ⟨_, s3, s4, by rw [am_iff (by decide), d1, am_b2s], ?_, rn, InvR_prot (InvR_prot h (prot142 (fun c hc => (d2 c hc).trans (a2 c hc)) (d3.trans a3))) (prot259 (fun c hc => (f2 c hc).trans (b2 c hc)) (f3.trans b3))⟩
        rw [m_maySay0 w m3, am_bds, am_b1 c, m_in01, am_bds, am_b1 (Or.inr rfl), b1, am_b2s, am_iff (by decide), f1, am_b2s]
    · rw [am_b0 h1]
      exact ⟨-1, s, s, rfl, by rw [m_maySay0 w rfl, am_bds, am_b1 c, m_in01, am_bds, am_b0 h1], rn, h⟩
  · rw [am_b0 c]
    exact ⟨-1, s, s, rfl, by rw [m_maySay0 w rfl, am_bds, am_b0 c], rn, h⟩
/-- what is left of the evening -/
def lvV (m : Nat → Int32) (p t : Nat) : Int32 := hbV m t p (bA (hbV m t p) (mF m))
def miV (m : Nat → Int32) (p : Nat) : Nat → Int32
  | 0 => -1
  | t + 1 => if hasSt m t p = true then (if miV m p t = -1 then lvV m p t else if lvV m p t < miV m p t then lvV m p t else miV m p t) else miV m p t
theorem lvV_n {m : Nat → Int32} (w : wfT m) (p t : Nat) : ¬ lvV m p t < 0 := by
  obtain ⟨h, h1, h2⟩ := harmB_n (m := m) (B := bel (toldM m t p (bA (hbV m t p) (mF m)) (1 - soM m (bA (hbV m t p) (mF m)))) p) w
  unfold lvV hbV
  unfold hbV at h2
  rw [h2]
  exact nI_pos (by omega)
theorem miV_n {m : Nat → Int32} (w : wfT m) (p : Nat) : ∀ t, (miV m p t < 0 ↔ miV m p t = -1) ∧ (miV m p t = -1 ↔ ∀ u, u < t → hasSt m u p = false)
  | 0 => ⟨(by decide : ((-1 : Int32) < 0 ↔ (-1 : Int32) = -1)), ⟨fun _ u hu => by omega, fun _ => rfl⟩⟩
  | t + 1 => by
    obtain ⟨h1, h2⟩ := miV_n w p t
    have hl := lvV_n w p t
    rw [miV]
    by_cases c : hasSt m t p = true
    · rw [if_pos c]
      have no : ¬ ∀ u, u < t + 1 → hasSt m u p = false := fun z => by
        have := z t (by omega)
        rw [c] at this
        exact absurd this (by decide)
      have pos : ∀ x : Int32, ¬ x < 0 → (x < 0 ↔ x = -1) ∧ (x = -1 ↔ ∀ u, u < t + 1 → hasSt m u p = false) := fun x hx => ⟨⟨fun z => absurd z hx, fun z => by rw [z] at hx; exact absurd (by decide) hx⟩, ⟨fun z => by rw [z] at hx; exact absurd (by decide) hx, fun z => absurd z no⟩⟩
      by_cases c2 : miV m p t = -1
      · rw [if_pos c2]; exact pos _ hl
      · rw [if_neg c2]
        by_cases c3 : lvV m p t < miV m p t
        · rw [if_pos c3]; exact pos _ hl
        · rw [if_neg c3]; exact pos _ (fun z => c2 (h1.mp z))
    · rw [if_neg c]
      refine ⟨h1, h2.trans ⟨fun z u hu => ?_, fun z u hu => z u (by omega)⟩⟩
      by_cases e : u = t
      · subst e; simpa using c
      · exact z u (by omega)
def evV (m : Nat → Int32) (p : Nat) : Int32 := if 0 < m (123 + p) ∨ miV m p (mP m) = -1 then harmB m (bel m p) else miV m p (mP m)
theorem nbr_z {m : Nat → Int32} {p : Nat} (w : wfT m) : nbr m p = 0 ↔ ∀ u, u < mP m → hasSt m u p = false := by
  have hP := w.P7
  constructor
  · intro h u hu
    have := nbr_bit (m := m) p u (by omega)
    rw [h, Nat.zero_testBit, hasSt_comm] at this
    exact this.symm
  · intro h
    apply Nat.eq_of_testBit_eq
    intro q
    rw [Nat.zero_testBit]
    unfold nbr
    rw [bitsOf_bit]
    by_cases c : q < mP m
    · rw [hasSt_comm, h q c, Bool.and_false]
    · rw [hasSt_out w.okS (by omega), Bool.and_false]
theorem c_eveningH {m : Nat → Int32} {s : am_S} {p : Nat} (w : wfT m) (t : townAt m s) (l : lifeAt m s 24) (hp : p < mP m) : ∃ s2, f_X11_eveningHarm (nI p) s = some (evV m p, s2) ∧ (∀ c, c ≠ 142 → s2.1 c = s.1 c) ∧ s2.2 = s.2 := by
  have hP := w.P7
  have hF := w.F8
  have h0 : 0 < mF m := w.fp (by omega)
  have e4 : am_F = 4000 := rfl
  have hl := nbr_lt m p
  have eh : f_X8_harmOf 27 (nI (8 * p)) s = some (harmB m (bel m p)) := c_harmAt w t l (show 24 ∈ am_isL by decide) hp
  have e28 : s.1 28 p = m (123 + p) := by
    have : s.1 28 p = if p < mP m then m (123 + p) else 0 := l.li (by omega)
    rw [this, if_pos hp]
  have hz : (nI (nbr m p) = 0) ↔ miV m p (mP m) = -1 := by
    show nI (nbr m p) = nI 0 ↔ _
    rw [nI_eq (by omega) (by decide), nbr_z w, (miV_n w p (mP m)).2]
  unfold f_X11_eveningHarm
  rw [pk_mul, show p * 8 = 8 * p by omega, eh, am_bds, gd_nI (by omega) (by decide), gd_nI (by omega) (by decide), cL (by omega), e28, t.nb p hp]
  unfold evV
  by_cases c1 : 0 < m (123 + p)
  · rw [am_ift c1, if_pos (Or.inl c1)]
    exact ⟨s, rfl, fun _ _ => rfl, rfl⟩
  · rw [am_iff c1]
    by_cases c2 : miV m p (mP m) = -1
    · rw [am_ift (hz.mpr c2), if_pos (Or.inr c2)]
      exact ⟨s, rfl, fun _ _ => rfl, rfl⟩
    · rw [am_iff (fun z => c2 (hz.mp z)), if_neg (fun z => z.elim c1 c2)]
      have key := lp_ind (body := fun (q : Int32 × Int32 × am_S) => b_X11_eveningHarm_62 (nI p) q.1 q.2.1 q.2.2) (mP m) (fun x q => q.1 = miV m p x ∧ q.2.1 = nI x ∧ (∀ c, c ≠ 142 → q.2.2.1 c = s.1 c) ∧ q.2.2.2 = s.2) (fun e => ∃ s2, e = (miV m p (mP m), s2) ∧ (∀ c, c ≠ 142 → s2.1 c = s.1 c) ∧ s2.2 = s.2) ?_ ?_ (F := am_F) (by omega) ((-1 : Int32), (0 : Int32), s) ⟨rfl, rfl, fun _ _ => rfl, rfl⟩
      · obtain ⟨e, g1, s2, rfl, g2, g3⟩ := key
        exact ⟨s2, g1, g2, g3⟩
      · rintro x hx ⟨q1, q3, y⟩ ⟨h1, h3, h4, h5⟩
        dsimp only at h1 h3 h4 h5
        subst h1 h3
        left
        have ty : townAt m y := townAt_of t (fun c c1 c2 => h4 c (by omega))
        have ly : lifeAt m y 24 := lifeAt_of l (fun c c1 c2 => h4 c (by omega))
        dsimp only
        unfold b_X11_eveningHarm_62
        rw [ty.P w, am_iff (nI_ge hx (by omega)), c_hasStreet w ty, am_bds, stB_nI w hx hp, miV]
        by_cases cs : hasSt m x p = true
        · obtain ⟨z, b1, b2, b3⟩ := c_leastF w ty ly hx hp
          obtain ⟨z2, d1, d2, d3⟩ := c_hb w (townAt_of ty (fun c c1 c2 => b2 c (by omega))) (lifeAt_of ly (fun c c1 c2 => b2 c (by omega))) hx hp (bA_ltF (g := hbV m x p) h0)
          have d1 : f_X11_harmBehindLie (nI x) (nI p) (nI (bA (hbV m x p) (mF m))) z = some (lvV m p x, z2) := d1
          rw [am_b1 cs, b1, am_b2s, d1, am_b2s, am_ltd, nI_1, am_ltd, am_ltd, if_pos cs]
          by_cases c3 : miV m p x = -1
          · rw [am_ift c3, if_pos c3]
            exact ⟨_, rfl, rfl, rfl, fun c hc => ((d2 c hc).trans (b2 c hc)).trans (h4 c hc), (d3.trans b3).trans h5⟩
          · rw [am_iff c3, if_neg c3]
            exact ⟨_, rfl, rfl, rfl, fun c hc => ((d2 c hc).trans (b2 c hc)).trans (h4 c hc), (d3.trans b3).trans h5⟩
        · rw [am_b0 cs, am_ltd, nI_1, if_neg cs]
          exact ⟨_, rfl, rfl, rfl, h4, h5⟩
      · rintro ⟨q1, q3, y⟩ ⟨h1, h3, h4, h5⟩
        dsimp only at h1 h3 h4 h5
        subst h1 h3
        have ty : townAt m y := townAt_of t (fun c c1 c2 => h4 c (by omega))
        refine ⟨_, ?_, y, rfl, h4, h5⟩
        dsimp only
        unfold b_X11_eveningHarm_62
        rw [ty.P w, am_ift (nI_le (Nat.le_refl _) (by omega))]
theorem m_eveningP {m : Nat → Int32} {s : am_S} {p : Nat} {acc : Int32} (hm : s.1 258 = m) (w : wfT m) (hp : p < mP m) : ∃ s2, am_lp (fun (q : Int32 × Int32 × am_S) => b_X12_evening_28 acc (nI p) q.1 q.2.1 q.2.2) am_F ((-1 : Int32), (0 : Int32), s) = some (.inl (acc + evV m p, nI (p + 1), s2)) ∧ (∀ c, c ≠ 259 → s2.1 c = s.1 c) ∧ s2.2 = s.2 := by
  have hP := w.P7
  have hF := w.F8
  have h0 : 0 < mF m := w.fp (by omega)
  have e4 : am_F = 4000 := rfl
  have key := lp_ind (body := fun (q : Int32 × Int32 × am_S) => b_X12_evening_28 acc (nI p) q.1 q.2.1 q.2.2) (mP m) (fun x q => (q.1 = if 0 < m (123 + p) then -1 else miV m p x) ∧ q.2.1 = nI x ∧ (∀ c, c ≠ 259 → q.2.2.1 c = s.1 c) ∧ q.2.2.2 = s.2) (fun e => ∃ s2, e = .inl (acc + evV m p, nI (p + 1), s2) ∧ (∀ c, c ≠ 259 → s2.1 c = s.1 c) ∧ s2.2 = s.2) ?_ ?_ (F := am_F) (by omega) ((-1 : Int32), (0 : Int32), s) ⟨by dsimp only; split <;> rfl, rfl, fun _ _ => rfl, rfl⟩
  · obtain ⟨e, g1, s2, rfl, g2, g3⟩ := key
    exact ⟨s2, g1, g2, g3⟩
  · rintro x hx ⟨q1, q3, y⟩ ⟨h1, h3, h4, h5⟩
    dsimp only at h1 h3 h4 h5
    subst h1 h3
    left
    have my : y.1 258 = m := by rw [h4 258 (by decide)]; exact hm
    dsimp only
    unfold b_X12_evening_28
    rw [my, w.P1, am_iff (nI_ge hx (by omega)), nI_add, am_ltd, gd_nI (by omega) (by decide), cL (by omega)]
    by_cases c1 : 0 < m (123 + p)
    · rw [am_ift c1, am_ltd, nI_1]
      exact ⟨_, rfl, by dsimp only; rw [if_pos c1, if_pos c1], rfl, h4, h5⟩
    · rw [am_iff c1, m_maySay0 w my, am_bds, stB_nI w hx hp, if_neg c1, miV]
      by_cases cs : hasSt m x p = true
      · obtain ⟨z, b1, b2, b3⟩ := m_leastF my w hx hp
        obtain ⟨z2, d1, d2, d3⟩ := m_hb (s := z) ((b2 258 (by decide)).trans my) w hx hp (bA_ltF (g := hbV m x p) h0)
        have d1 : f_X12_harmBehind (nI x) (nI p) (nI (bA (hbV m x p) (mF m))) z = some (lvV m p x, z2) := d1
        have hn := (miV_n w p x).1
        rw [am_b1 cs, b1, am_b2s, d1, am_b2s, am_ltd, nI_1, am_ltd, if_pos cs, if_neg c1]
        by_cases c3 : miV m p x = -1
        · rw [am_ift (hn.mpr c3), if_pos c3]
          exact ⟨_, rfl, rfl, rfl, fun c hc => ((d2 c hc).trans (b2 c hc)).trans (h4 c hc), (d3.trans b3).trans h5⟩
        · rw [am_iff (fun z => c3 (hn.mp z)), if_neg c3]
          by_cases c4 : lvV m p x < miV m p x
          · rw [am_iff (Int32.not_le.mpr c4), if_pos c4]
            exact ⟨_, rfl, rfl, rfl, fun c hc => ((d2 c hc).trans (b2 c hc)).trans (h4 c hc), (d3.trans b3).trans h5⟩
          · rw [am_ift (Int32.not_lt.mp c4), if_neg c4]
            exact ⟨_, rfl, rfl, rfl, fun c hc => ((d2 c hc).trans (b2 c hc)).trans (h4 c hc), (d3.trans b3).trans h5⟩
      · rw [am_b0 cs, am_ltd, nI_1, if_neg cs, if_neg c1]
        exact ⟨_, rfl, rfl, rfl, h4, h5⟩
  · rintro ⟨q1, q3, y⟩ ⟨h1, h3, h4, h5⟩
    dsimp only at h1 h3 h4 h5
    subst h1 h3
    have my : y.1 258 = m := by rw [h4 258 (by decide)]; exact hm
    have hn := (miV_n w p (mP m)).1
    obtain ⟨B, hB⟩ := m_harmOf my w (p := p) (by omega)
    dsimp only
    unfold b_X12_evening_28 j_X12_evening_105 evV
    rw [my, w.P1, am_ift (nI_le (Nat.le_refl _) (by omega)), hB, am_b2s, am_ltd, am_ltd, nI_1, am_ltd, am_ltd]
    by_cases c1 : 0 < m (123 + p)
    · rw [if_pos c1, am_iff (by decide), am_bds, if_pos (Or.inl c1)]
      exact ⟨_, rfl, _, rfl, fun c hc => (as_w1 hc).trans (h4 c hc), h5⟩
    · rw [if_neg c1]
      by_cases c2 : miV m p (mP m) = -1
      · rw [am_iff (Int32.not_le.mpr (hn.mpr c2)), am_bds, if_pos (Or.inr c2)]
        exact ⟨_, rfl, _, rfl, fun c hc => (as_w1 hc).trans (h4 c hc), h5⟩
      · rw [am_ift (Int32.not_lt.mp (fun z => c2 (hn.mp z))), am_bds, if_neg (fun z => z.elim c1 c2)]
        exact ⟨_, rfl, _, rfl, h4, h5⟩
theorem st_evening : LS_evening Inv := by
  intro k s hk hI
  obtain ⟨rn, h⟩ := hI
  have h := InvR_mono h
  have w := h.w
  have hF := w.F8
  have hP := w.P7
  unfold f_X11_evening f_X12_evening
  by_cases h0 : 0 < mF (s.1 258)
  · rw [am_iff (fun z => (town0 h).mp z h0)]
    obtain ⟨s1, a1, a2, a3⟩ := lp_sumS (body := fun (q : Int32 × Int32 × am_S) => b_X11_evening_19 q.1 q.2.1 q.2.2) (fun p => evV (s.1 258) p) (mP (s.1 258)) (fun x => (∀ c, c ≠ 142 → x.1 c = s.1 c) ∧ x.2 = s.2) (fun i hi acc x hx => by
      have tx : townAt (s.1 258) x := townAt_of h.t (fun c c1 c2 => hx.1 c (by omega))
      have lx : lifeAt (s.1 258) x 24 := lifeAt_of h.f (fun c c1 c2 => hx.1 c (by omega))
      obtain ⟨y, b1, b2, b3⟩ := c_eveningH w tx lx hi
      refine ⟨y, ?_, fun c hc => (b2 c hc).trans (hx.1 c hc), b3.trans hx.2⟩
      dsimp only
      unfold b_X11_evening_19
      rw [tx.P w, am_iff (nI_ge hi (by omega)), b1, am_b2s, am_ltd, am_ltd, nI_1]) (fun acc x hx => by
      have tx : townAt (s.1 258) x := townAt_of h.t (fun c c1 c2 => hx.1 c (by omega))
      dsimp only
      unfold b_X11_evening_19
      rw [tx.P w, am_ift (nI_le (Nat.le_refl _) (by omega))]) (by omega) s ⟨fun _ _ => rfl, rfl⟩
    have m1 : s1.1 258 = s.1 258 := a2 258 (by decide)
    obtain ⟨s2, b1, b2, b3⟩ := lp_sumS (body := fun (q : Int32 × Int32 × am_S) => b_X12_evening_13 q.1 q.2.1 q.2.2) (fun p => evV (s.1 258) p) (mP (s.1 258)) (fun x => (∀ c, c ≠ 259 → x.1 c = s1.1 c) ∧ x.2 = s1.2) (fun i hi acc x hx => by
      have mx : x.1 258 = s.1 258 := (hx.1 258 (by decide)).trans m1
      obtain ⟨y, d1, d2, d3⟩ := m_eveningP (acc := acc) mx w hi
      refine ⟨y, ?_, fun c hc => (d2 c hc).trans (hx.1 c hc), d3.trans hx.2⟩
      dsimp only
      unfold b_X12_evening_13
      rw [mx, w.P1, am_iff (nI_ge hi (by omega)), d1]) (fun acc x hx => by
      have mx : x.1 258 = s.1 258 := (hx.1 258 (by decide)).trans m1
      dsimp only
      unfold b_X12_evening_13
      rw [mx, w.P1, am_ift (nI_le (Nat.le_refl _) (by omega))]) (by omega) s1 ⟨fun _ _ => rfl, rfl⟩
    refine ⟨_, s1, s2, a1, ?_, rn, InvR_prot (InvR_prot h (prot142 a2 a3)) (prot259 b2 b3)⟩
    rw [m_isTown (F := mF (s.1 258)) (by rw [m1]; exact w.F1) (by omega), am_bds, am_b1 h0]
    exact b1
  · refine ⟨-1, s, s, am_ift ((town0 h).mpr h0), ?_, rn, h⟩
    rw [m_isTown w.F1 (by omega), am_bds, am_b0 h0]
