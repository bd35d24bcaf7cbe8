/-! a day begins, in the class; midnight -/
theorem lifeQ_of {m : Nat → Int32} {s : am_S} {L : Nat} (l : lifeAt m s L) {q : Nat} (hq : q < mP m) : lifeQ m s L q := ⟨fun _ hf => ⟨l.hd hq hf, l.bl hq hf⟩, fun _ hf => l.stg hq hf⟩
theorem lifeQ_mv {m : Nat → Int32} {s s2 : am_S} {L p q : Nat} (hF : mF m ≤ 8) (l : lifeQ m s L q) (hpq : p ≠ q) (g : ∀ i j, (j < 8 * p ∨ 8 * p + 8 ≤ j) → s2.1 (L + i) j = s.1 (L + i) j) : lifeQ m s2 L q := by
  refine ⟨fun f hf => ?_, fun f hf => ?_⟩
  · rw [g 1 _ (by omega), g 3 _ (by omega)]
    exact l.1 f hf
  · rw [g 2 _ (by omega)]
    exact l.2 f hf
theorem c_correctAll {k : Nat} {m : Nat → Int32} {s : am_S} {L : Nat} (w : wfT m) (hk : m 10 = 1) (lk : wfL k m) (t : townAt m s) (hL : L ∈ am_isL) (l : ∀ q, q < mP m → lifeQ m s L q) : ∃ s2, f_X2_correctAll L s = some s2 ∧ (∀ c, c ≠ L + 1 → c ≠ L + 2 → c ≠ L + 3 → s2.1 c = s.1 c) ∧ s2.2 = s.2 ∧ ∀ q, q < mP m → lifeQ (dayM m) s2 L q := by
  have h24 := iL_ge L hL
  have hP := w.P7
  have hF := w.F8
  have e4 : am_F = 4000 := rfl
  have ag := dayM_ag w
  unfold f_X2_correctAll
  rw [am_gdt hL]
  refine lp_ind (body := fun (q : Int32 × am_S) => b_X2_correctAll_2 L q.1 q.2) (mP m) (fun i x => x.1 = nI i ∧ (∀ c, c ≠ L + 1 → c ≠ L + 2 → c ≠ L + 3 → x.2.1 c = s.1 c) ∧ x.2.2 = s.2 ∧ (∀ q, q < i → lifeQ (dayM m) x.2 L q) ∧ (∀ q, i ≤ q → q < mP m → lifeQ m x.2 L q)) _ ?_ ?_ (by omega) ((0 : Int32), s) ⟨rfl, fun _ _ _ _ => rfl, rfl, fun q hq => by omega, fun q _ hq => l q hq⟩
  · rintro i hi ⟨v, x⟩ ⟨h1, h2, h3, h4, h5⟩
    dsimp only at h1 h2 h3 h4 h5
    subst h1
    left
    have tx : townAt m x := townAt_of t (fun c c1 c2 => h2 c (by omega) (by omega) (by omega))
    obtain ⟨y, y1, y2, y3, y4, y5⟩ := c_correct1 w hk lk tx hL hi (h5 i (Nat.le_refl _) hi)
    refine ⟨(nI (i + 1), y), ?_, rfl, fun c c1 c2 c3 => (y2 c c1 c2 c3).trans (h2 c c1 c2 c3), y3.trans h3, fun q hq => ?_, fun q hq hq2 => lifeQ_mv (p := i) hF (h5 q (by omega) hq2) (by omega) y4⟩
    · dsimp only
      unfold b_X2_correctAll_2
      rw [tx.P w, am_iff (nI_ge hi (by omega)), y1]
    · by_cases e : q = i
      · subst e; exact y5
      · exact lifeQ_mv (p := i) (by rw [ag.t.mF]; exact hF) (h4 q (by omega)) (fun z => e z.symm) y4
  · rintro ⟨v, x⟩ ⟨h1, h2, h3, h4, h5⟩
    dsimp only at h1 h2 h3 h4 h5
    subst h1
    have tx : townAt m x := townAt_of t (fun c c1 c2 => h2 c (by omega) (by omega) (by omega))
    refine ⟨x, ?_, h2, h3, h4⟩
    dsimp only
    unfold b_X2_correctAll_2
    rw [tx.P w, am_ift (nI_le (Nat.le_refl _) (by omega))]
theorem c_beginDay {k : Nat} {m : Nat → Int32} {s : am_S} {L : Nat} (w : wfT m) (lk : wfL k m) (hd : mN m 6 < 9000) (t : townAt m s) (hL : L ∈ am_isL) (l : lifeAt m s L) : ∃ s2, f_X2_beginDay L s = some s2 ∧ lifeAt (dayM m) s2 L ∧ (∀ c, (c < L ∨ L + 5 ≤ c) → s2.1 c = s.1 c) ∧ s2.2 = s.2 := by
  have h24 := iL_ge L hL
  have hP := w.P7
  have hF := w.F8
  have ag := dayM_ag w
  obtain ⟨d6, d7, d8, d9⟩ := dayM_hd w
  have e6 : s.1 L 4 = nI (mN m 6) := l.day.trans lk.1.e
  generalize hs4 : as_i (as_i (as_w (as_i (as_i s L 4 (nI (mN m 6 + 1))) L 5 0) (L + 4) (cpv (s.1 (L + 4)) 0 7 (fun _ => 0))) L 6 0) L 7 (-1) = s4
  have o4 : ∀ c, c ≠ L → c ≠ L + 4 → s4.1 c = s.1 c := fun c c1 c2 => by rw [← hs4, as_i1 c1, as_i1 c1, as_w1 c2, as_i1 c1, as_i1 c1]
  have t4 : townAt m s4 := townAt_of t (fun c c1 c2 => o4 c (by omega) (by omega))
  have f4 : s4.1 L 4 = dayM m 6 := by rw [← hs4, as_i2 (by decide), as_i2 (by decide), as_w1 (by omega), as_i2 (by decide), as_i3, d6, lk.1.e, nI_1]
  have f5 : s4.1 L 5 = dayM m 7 := by rw [← hs4, as_i2 (by decide), as_i2 (by decide), as_w1 (by omega), as_i3, d7]
  have f7 : s4.1 L 7 = dayM m 9 := by rw [← hs4, as_i3, d9]
  have g4 : ∀ p, p < 7 → s4.1 (L + 4) p = 0 := fun p hp => by rw [← hs4, as_i1 (by omega), as_i1 (by omega), as_w3, cpv_in (by omega) (by omega)]
  have e0 : f_X2_beginDay L s = am_if ((s4.1 16 15) = 0) (some s4) (am_bd (f_X2_correctAll L s4) (fun s5 => some s5)) := by
    unfold f_X2_beginDay f_X2_forgetLies
    have hcap : (if nI 9999 < nI (mN m 6 + 1) then nI 9999 else nI (mN m 6 + 1)) = nI (mN m 6 + 1) := if_neg (by rw [nI_ltI (by decide) (by omega)]; omega)
    rw [am_gdt hL, e6, nI_1, hcap, am_ltd, am_ltd, am_gdt hL, c_fill (iL_s4 L hL) (iL_l4 L hL) (by decide), am_bds, am_ltd, am_ltd, am_bds, as_i1 (show L + 4 ≠ L by omega), as_i1 (show L + 4 ≠ L by omega), hs4]
  have fin : ∀ s2 : am_S, s2.1 L = s4.1 L → s2.1 (L + 4) = s4.1 (L + 4) → (∀ q, q < mP m → lifeQ (dayM m) s2 L q) → lifeAt (dayM m) s2 L := fun s2 z1 z2 z3 => by
    refine ⟨by rw [z1]; exact f4, by rw [z1]; exact f5, fun _ => ⟨by rw [z1]; exact f7, fun z => absurd d9 z⟩, fun p hp => ?_, fun p f hp hf => ?_, fun p f hp hf => ?_⟩
    · rw [z2, g4 p hp]
      by_cases c : p < mP (dayM m)
      · rw [if_pos c]
        rw [ag.t.mP] at c
        exact (dayM_in w c).1.symm
      · rw [if_neg c]
    · rw [ag.t.mP] at hp
      exact (z3 p hp).1 f hf
    · rw [ag.t.mP] at hp
      exact (z3 p hp).2 f hf
  rcases w.2.2.2.2.2.2.2.1 with hz | hz
  · rw [t4.K, am_ift hz] at e0
    refine ⟨s4, e0, fin s4 rfl rfl (fun q hq => ?_), fun c hc => o4 c (by omega) (by omega), by rw [← hs4]; rfl⟩
    have same : ∀ f, f < mF m → dayM m (11 + 16 * q + 2 * f) = m (11 + 16 * q + 2 * f) ∧ dayM m (11 + 16 * q + 2 * f + 1) = m (11 + 16 * q + 2 * f + 1) := fun f hf => by
      have := (dayM_in w hq).2 f hf
      rw [if_neg (fun z => absurd (hz.symm.trans z.1) (by decide)), if_neg (fun z => absurd (hz.symm.trans z.1) (by decide))] at this
      exact this
    refine ⟨fun f hf => ?_, fun f hf => ?_⟩
    · rw [o4 _ (by omega) (by omega), o4 _ (by omega) (by omega), heldR_eq ag.t w (fun f hf => (same f hf).1), bel_eq ag.t w (fun f hf => (same f hf).1)]
      exact (lifeQ_of l hq).1 f hf
    · rw [ag.t.mF] at hf
      rw [o4 _ (by omega) (by omega), (same f hf).2]
      exact l.stg hq hf
  · rw [t4.K, am_iff (by rw [hz]; decide)] at e0
    obtain ⟨y, y1, y2, y3, y4⟩ := c_correctAll w hz lk t4 hL (fun q hq => ⟨fun f hf => by
      rw [o4 _ (by omega) (by omega), o4 _ (by omega) (by omega)]
      exact (lifeQ_of l hq).1 f hf, fun f hf => by
      rw [o4 _ (by omega) (by omega)]
      exact l.stg hq hf⟩)
    rw [y1, am_bds] at e0
    refine ⟨y, e0, fin y (y2 L (by omega) (by omega) (by omega)) (y2 (L + 4) (by omega) (by omega) (by omega)) y4, fun c hc => by rw [y2 c (by omega) (by omega) (by omega), o4 c (by omega) (by omega)], by rw [y3, ← hs4]; rfl⟩
theorem wfL_day {k k2 : Nat} {m : Nat → Int32} (w : wfT m) (l : wfL k m) (hd : mN m 6 + 1 < 4 * k2 + 1) (hd2 : mN m 6 < 9000) : wfL k2 (dayM m) := by
  have ag := dayM_ag w
  obtain ⟨d6, d7, d8, d9⟩ := dayM_hd w
  have e6 : dayM m 6 = nI (mN m 6 + 1) := by rw [d6, l.1.e, nI_1]
  refine ⟨⟨by rw [mN_nI e6 (by omega)]; exact e6, by rw [mN_nI e6 (by omega)]; exact hd⟩, isN_nI (n := 0) d7 (by decide) (by decide), fun _ => Or.inl d9, fun p f hp hf => ?_⟩
  rw [ag.t.mP] at hp
  rw [ag.t.mF] at hf
  obtain ⟨x1, x2⟩ := (dayM_in w hp).2 f hf
  obtain ⟨y1, y2, y3⟩ := l.2.2.2 p f hp hf
  by_cases c : m 10 = 1 ∧ m (11 + 16 * p + 2 * f) = 1 - soM m f
  · rw [if_pos c] at x1 x2
    exact ⟨by rw [x1]; exact Or.inr (Or.inr rfl), isN_nI (n := 0) x2 (by decide) (by decide), fun _ => x2⟩
  · rw [if_neg c] at x1 x2
    exact ⟨by rw [x1]; exact y1, isN_eq x2 rfl y2, by rw [x1, x2]; exact y3⟩
theorem day6 {k : Nat} {m : Nat → Int32} (w : wfT m) (l : wfL k m) (hd2 : mN m 6 < 9000) : mN (dayM m) 6 = mN m 6 + 1 := by
  have e6 : dayM m 6 = nI (mN m 6 + 1) := by rw [(dayM_hd w).1, l.1.e, nI_1]
  exact mN_nI e6 (by omega)
theorem st_midnight : LS_midnight Inv := by
  intro k s hk hI
  obtain ⟨rn, h0⟩ := hI
  have l0 := h0.l
  have hd := l0.1.2
  have h := InvR_mono h0
  have w := h.w
  have hF := w.F8
  have e6 : s.1 24 4 = nI (mN (s.1 258) 6) := h.f.day.trans l0.1.e
  by_cases hp : 0 < mF (s.1 258)
  · obtain ⟨s1, g1, g2, g3, g4⟩ := keep_both rfl w h.f h.l h.a
    have t1 : townAt (s.1 258) s1 := townAt_of h.t (fun c c1 c2 => g2 c (by omega))
    have l1 : lifeAt (s.1 258) s1 24 := lifeAt_of h.f (fun c c1 c2 => g2 c (by omega))
    obtain ⟨s2, b1, b2, b3, b4⟩ := c_beginDay w h.l (by omega) t1 (show 24 ∈ am_isL by decide) l1
    have e1 : f_X11_midnight s = some (dayM (s.1 258) 6, s2) := by
      unfold f_X11_midnight
      rw [am_iff (fun z => (town0 h).mp z hp), e6, am_ift (nI_lt (by omega) (by decide)), g1, am_bds, b1, am_bds, b2.day]
    have o3 : ∀ c, (c < 24 ∨ (29 ≤ c ∧ c < 32) ∨ c = 33 ∨ 134 ≤ c) → s2.1 c = s.1 c := fun c c1 => by rw [b3 c (by omega), g2 c (by omega)]
    obtain ⟨t2, u1, u2, u3, u4, u5⟩ := g4 s2 (fun c hc => b3 c (by omega)) (o3 260 (by omega)) (o3 258 (by omega)) (by rw [o3 248 (by omega)])
    have em : t2.1 258 = s.1 258 := by rw [u2 258 (by decide) (by decide), o3 258 (by omega)]
    have e2 : f_X12_midnight s2 = some (dayM (s.1 258) 6, as_w t2 258 (dayM (s.1 258))) := by
      unfold f_X12_midnight
      rw [m_isTown (F := mF (s.1 258)) (by rw [o3 258 (by omega)]; exact w.F1) (by omega), am_bds, am_b1 hp, o3 258 (by omega), l0.1.e, am_iff (by rw [nI_eq (by omega) (by decide)]; omega), u1, am_bds, m_dayComes em w, am_bds, as_w3]
    generalize hs3 : as_w t2 258 (dayM (s.1 258)) = s3 at e2
    refine ⟨_, s2, s3, e1, e2, rn, ?_⟩
    have m3 : s3.1 258 = dayM (s.1 258) := by rw [← hs3, as_w3]
    have o4 : ∀ c, c ≠ 258 → s3.1 c = t2.1 c := fun c hc => by rw [← hs3, as_w1 hc]
    have o5 : ∀ c, c ≠ 258 → c ≠ 260 → c ≠ 248 → (c < 24 ∨ (29 ≤ c ∧ c < 32) ∨ c = 33 ∨ 134 ≤ c) → s3.1 c = s.1 c := fun c c2 c3 c4 c5 => by rw [o4 c c2, u2 c c3 c4, o3 c c5]
    have o6 : ∀ j, j ≠ 25 → s3.1 248 j = s.1 248 j := fun j hj => by rw [o4 248 (by decide), u3 j hj, o3 248 (by omega)]
    refine InvR_act (k := k + 1) h ⟨fun c hp c1 c2 c3 c4 => by
      have : c ≠ 248 := fun z => by subst z; unfold isPr at hp; omega
      exact o5 c c3 c4 this (by omega), by rw [o5 0 (by omega) (by omega) (by omega) (by omega)], by rw [o5 0 (by omega) (by omega) (by omega) (by omega)], o6 1 (by decide), o6 2 (by decide), fun z => by unfold pRef at z ⊢; rw [← hs3, as_w4, u4, b4, g3]; exact z⟩ (fun c hc => o5 c (by omega) (by omega) (by omega) (by omega)) (o6 21 (by decide)) (o6 22 (by decide)) (by rw [m3]; exact dayM_ag w) (by rw [m3]; exact wfL_day w h.l (by omega) (by omega)) ?_ (pActsM_of u5 (fun c hc => o4 c (by omega)) (by rw [o4 248 (by decide)])) rfl
    rw [m3]
    exact lifeAt_of b2 (fun c c1 c2 => by rw [o4 c (by omega), u2 c (by omega) (by omega)])
  · refine ⟨-1, s, s, ?_, ?_, rn, h⟩
    · unfold f_X11_midnight
      rw [am_ift ((town0 h).mpr hp)]
    · unfold f_X12_midnight
      rw [m_isTown w.F1 (by omega), am_bds, am_b0 hp]
