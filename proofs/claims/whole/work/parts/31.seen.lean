/-! holds, person, count -/
theorem prot258 {s s2 : am_S} (g : prot s s2) : s2.1 258 = s.1 258 := g.1 258 (by unfold isPr; omega)
theorem pr259 (s : am_S) (B : Nat → Int32) : prot s (as_w s 259 B) := prot_w s B (by unfold isPr; omega) (by decide) (by decide)
theorem townAt_p {m : Nat → Int32} {s s2 : am_S} (g : prot s s2) (h : townAt m s) : townAt m s2 := by
  unfold townAt at h ⊢
  rw [g.1 16 (by unfold isPr; omega), g.1 18 (by unfold isPr; omega), g.1 19 (by unfold isPr; omega), g.1 20 (by unfold isPr; omega), g.1 21 (by unfold isPr; omega), g.1 22 (by unfold isPr; omega), g.1 23 (by unfold isPr; omega)]
  exact h
theorem lifeAt.bl {m : Nat → Int32} {s : am_S} {L p f : Nat} (h : lifeAt m s L) (hp : p < mP m) (hf : f < 8) : s.1 (L + 3) (8 * p + f) = bel m p f := (h.2.2.2.2.1 p f hp hf).2
theorem lifeAt.hd {m : Nat → Int32} {s : am_S} {L p f : Nat} (h : lifeAt m s L) (hp : p < mP m) (hf : f < 8) : s.1 (L + 1) (8 * p + f) = heldR m p f := (h.2.2.2.2.1 p f hp hf).1
theorem lifeAt.stg {m : Nat → Int32} {s : am_S} {L p f : Nat} (h : lifeAt m s L) (hp : p < mP m) (hf : f < mF m) : s.1 (L + 2) (8 * p + f) = m (11 + 16 * p + 2 * f + 1) := h.2.2.2.2.2 p f hp hf
theorem lifeAt.li {m : Nat → Int32} {s : am_S} {L p : Nat} (h : lifeAt m s L) (hp : p < 7) : s.1 (L + 4) p = if p < mP m then m (123 + p) else 0 := h.2.2.2.1 p hp
theorem lifeAt.day {m : Nat → Int32} {s : am_S} {L : Nat} (h : lifeAt m s L) : s.1 L 4 = m 6 := h.1
theorem lifeAt.hr {m : Nat → Int32} {s : am_S} {L : Nat} (h : lifeAt m s L) : s.1 L 5 = m 7 := h.2.1
theorem m_believedOf {m : Nat → Int32} {s : am_S} {p f : Nat} (hm : s.1 258 = m) (w : wfT m) (hp : p < 7) (hf : f < mF m) : ∃ B, f_X12_believedOf (nI p) (nI f) s = some (bel m p f, as_w s 259 B) := by
  have hF := w.F8
  obtain ⟨B, h1, h2⟩ := m_believes hm w.okIf hp
  refine ⟨B, ?_⟩
  unfold f_X12_believedOf
  rw [h1, am_bds, gd_nI (by omega) (by decide), cL (by omega), as_w3, h2 f hf]
theorem m_harmOf {m : Nat → Int32} {s : am_S} {p : Nat} (hm : s.1 258 = m) (w : wfT m) (hp : p < 7) : ∃ B, f_X12_harmOf (nI p) s = some (harmB m (bel m p), as_w s 259 B) := by
  obtain ⟨B, h1, h2⟩ := m_believes hm w.okIf hp
  refine ⟨B, ?_⟩
  unfold f_X12_harmOf
  rw [h1, am_bds, m_harmBelieved (m := m) (by rw [as_w1 (by decide)]; exact hm) w.okH, am_bds, as_w3, harmB_congr w.okH h2]
theorem c_harmAt {m : Nat → Int32} {s : am_S} {L p : Nat} (w : wfT m) (c : townAt m s) (l : lifeAt m s L) (hL : L ∈ am_isL) (hp : p < mP m) : f_X8_harmOf (L + 3) (nI (8 * p)) s = some (harmB m (bel m p)) := by
  have hP := w.P7
  exact c_harmOf w.okH c.okCH ⟨iL_s3 L hL, iL_l3 L hL⟩ (by omega) (by decide) (fun f hf => l.bl hp hf)
theorem st_holds : LS_holds Inv := by
  intro k s p f v hk hI
  obtain ⟨rn, h⟩ := hI
  have h := InvR_mono h
  have w := h.w
  have hP := w.P7
  have hF := w.F8
  unfold f_X11_holds f_X12_holds
  simp only [c_hasPerson (show 16 ∈ am_isT by decide) (h.t.P w), m_isPerson w.P1, c_hasFact (h.t.F w), m_isFact w.F1, m_in0 v 2 (by decide) 2 rfl, am_bds]
  by_cases h1 : inP p (mP (s.1 258))
  · by_cases h2 : inP f (mF (s.1 258))
    · simp only [am_b1 h1, am_b1 h2]
      obtain ⟨i, hi, rfl⟩ := inP_of h1 (by omega)
      obtain ⟨j, hj, rfl⟩ := inP_of h2 (by omega)
      simp (disch := omega) only [am_ltd, pk_mul, nI_add, nI_1, gd2, cL]
      rw [show i * 8 + j = 8 * i + j by omega]
      by_cases h3 : inP v 3
      · simp only [am_b1 h3]
        obtain ⟨x, hx, rfl⟩ := inP_of h3 (by omega)
        have : x = 0 ∨ x = 1 ∨ x = 2 := by omega
        rcases this with rfl | rfl | rfl
        · refine ⟨_, s, rfl, ?_, rn, h⟩
          rw [am_ift (by decide), m_holdOf (by omega) (by omega), am_bds, h.f.hd hi (show j < 8 by omega)]
          unfold heldR
          rw [if_pos hj]
        · refine ⟨_, s, (am_iff (by decide)).trans (am_ift rfl), ?_, rn, h⟩
          rw [am_iff (by decide), am_ift (by decide), m_strengthOf (by omega) (by omega), am_bds, h.f.stg hi hj]
        · obtain ⟨B, hB⟩ := m_believedOf rfl w (p := i) (by omega) hj
          refine ⟨_, _, (am_iff (by decide)).trans ((am_iff (by decide)).trans (am_ift rfl)), ?_, rn, InvR_prot h (pr259 s B)⟩
          rw [am_iff (by decide), am_iff (by decide), hB, am_b2s, h.f.bl hi (show j < 8 by omega)]
      · simp only [am_b0 h3]
        refine ⟨-1, s, ?_, rfl, rn, h⟩
        rw [am_iff (fun z => h3 (by rw [z]; decide)), am_iff (fun z => h3 (by rw [z]; decide)), am_iff (fun z => h3 (by rw [z]; decide))]
    · simp only [am_b1 h1, am_b0 h2]
      exact ⟨-1, s, rfl, rfl, rn, h⟩
  · simp only [am_b0 h1]
    exact ⟨-1, s, rfl, rfl, rn, h⟩
theorem st_person : LS_person Inv := by
  intro k s p v hk hI
  obtain ⟨rn, h⟩ := hI
  have h := InvR_mono h
  have w := h.w
  have hP := w.P7
  have hF := w.F8
  have hC := w.2.2.2.2.2.2.1
  unfold f_X11_person f_X12_person
  simp only [c_hasPerson (show 16 ∈ am_isT by decide) (h.t.P w), m_isPerson w.P1, m_in0 v 4 (by decide) 4 rfl, am_bds]
  by_cases h1 : inP p (mP (s.1 258))
  · simp only [am_b1 h1]
    obtain ⟨i, hi, rfl⟩ := inP_of h1 (by omega)
    by_cases h3 : inP v 5
    · simp only [am_b1 h3]
      obtain ⟨x, hx, rfl⟩ := inP_of h3 (by omega)
      obtain ⟨B, hB, hB2⟩ := m_believes (m := s.1 258) rfl w.okIf (p := i) (by omega)
      have hm2 : (as_w s 259 B).1 258 = s.1 258 := as_w1 (by decide)
      simp only [hB, am_bds]
      have hI2 := InvR_prot h (pr259 s B)
      have : x = 0 ∨ x = 1 ∨ x = 2 ∨ x = 3 ∨ x = 4 := by omega
      rcases this with rfl | rfl | rfl | rfl | rfl
      · refine ⟨s.1 28 i, _, by rw [am_ift (by decide), gd_nI (by omega) (by decide), cL (by omega)], ?_, rn, hI2⟩
        rw [am_ift (by decide)]
        simp (disch := omega) only [am_ltd, pk_mul, nI_add, nI_1, gd2, cL]
        rw [hm2, h.f.li (show i < 7 by omega), if_pos hi]
      · have e := c_harmAt w h.t h.f (by decide) hi
        refine ⟨harmB (s.1 258) (bel (s.1 258) i), _, ?_, ?_, rn, hI2⟩
        · rw [am_iff (by decide), am_ift (by decide), pk_mul, show i * 8 = 8 * i by omega, show (27 : Nat) = 24 + 3 from rfl, e, am_bds]
        · rw [am_iff (by decide), am_ift (by decide), m_harmBelieved hm2 w.okH, am_bds, as_w3, harmB_congr w.okH hB2]
      · have e := c_contradictionsOf (s := s) (a := 27) (fr := 8 * i) w.okIf h.t.okC ⟨iL_s3 24 (by decide), iL_l3 24 (by decide)⟩ (by omega) (by decide) (fun f hf => h.f.bl hi hf)
        refine ⟨conB (s.1 258) (bel (s.1 258) i), _, ?_, ?_, rn, hI2⟩
        · rw [am_iff (by decide), am_iff (by decide), am_ift (by decide), pk_mul, show i * 8 = 8 * i by omega, e, am_bds]
        · rw [am_iff (by decide), am_iff (by decide), am_ift (by decide), m_contradictions (m := s.1 258) hm2 w.okIf (B := bel (s.1 258) i) (fun f hf => by rw [as_w3]; exact hB2 f hf) (bel_done w.okIf i) (bel_H w.okIf h.l hi), am_bds]
      · refine ⟨nI (nbr (s.1 258) i), _, ?_, ?_, rn, hI2⟩
        · rw [am_iff (by decide), am_iff (by decide), am_iff (by decide), am_ift (by decide), gd_nI (by omega) (by decide), cL (by omega), h.t.nb i hi]
        · rw [am_iff (by decide), am_iff (by decide), am_iff (by decide), am_ift (by decide), m_besides hm2 w.okS (by omega), am_bds]
      · refine ⟨(s.1 258 269 >>> (nI i &&& 31)) &&& 1, _, ?_, ?_, rn, hI2⟩
        · rw [am_iff (by decide), am_iff (by decide), am_iff (by decide), am_iff (by decide), am_ift (by decide), c_bit, am_bds, h.t.C]
        · rw [am_iff (by decide), am_iff (by decide), am_iff (by decide), am_iff (by decide), hm2]
    · simp only [am_b0 h3]
      refine ⟨-1, s, ?_, rfl, rn, h⟩
      rw [am_iff (fun z => h3 (by rw [z]; decide)), am_iff (fun z => h3 (by rw [z]; decide)), am_iff (fun z => h3 (by rw [z]; decide)), am_iff (fun z => h3 (by rw [z]; decide)), am_iff (fun z => h3 (by rw [z]; decide))]
  · simp only [am_b0 h1]
    exact ⟨-1, s, rfl, rfl, rn, h⟩
def liesM (m : Nat → Int32) : Int32 := sumI (fun p => m (123 + p)) (mP m)
theorem c_liesOfDay {m : Nat → Int32} {s : am_S} {L : Nat} (w : wfT m) (l : lifeAt m s L) (hL : L ∈ am_isL) : f_X2_liesOfDay L s = some (liesM m) := by
  have hP := w.P7
  have e : liesM m = sumI (fun p => if p < mP m then m (123 + p) else 0) 7 := by
    have h := sumI_more (g := fun p => if p < mP m then m (123 + p) else 0) (n := mP m) (7 - mP m) (fun i h1 h2 => if_neg (by omega))
    rw [show mP m + (7 - mP m) = 7 by omega] at h
    rw [h]
    exact sumI_congr _ (fun i hi => (if_pos hi).symm)
  unfold f_X2_liesOfDay
  rw [am_gdt hL, e]
  refine lp_sum _ 7 (fun i hi acc => ?_) (fun acc => ?_) (by decide)
  · dsimp only
    unfold b_X2_liesOfDay_4
    rw [am_iff (nI_ge hi (by decide)), gd_nI hi (by decide)]
    simp only [am_ltd, nI_1]
    rw [cL (by omega), l.li hi]
  · dsimp only
    unfold b_X2_liesOfDay_4
    rw [am_ift (by decide)]
def harmM (m : Nat → Int32) : Int32 := sumI (fun p => harmB m (bel m p)) (mP m)
theorem c_harmOfAll {m : Nat → Int32} {s : am_S} {L : Nat} (w : wfT m) (c : townAt m s) (l : lifeAt m s L) (hL : L ∈ am_isL) : f_X2_harmOfAll L s = some (harmM m) := by
  have hP := w.P7
  unfold f_X2_harmOfAll
  rw [am_gdt hL]
  refine lp_sum _ (mP m) (fun i hi acc => ?_) (fun acc => ?_) (by omega)
  · dsimp only
    unfold b_X2_harmOfAll_4
    rw [c.P w, am_iff (nI_ge hi (by omega)), pk_mul, show i * 8 = 8 * i by omega, c_harmAt w c l hL hi, am_bds]
    simp only [am_ltd, nI_1]
  · dsimp only
    unfold b_X2_harmOfAll_4
    rw [c.P w, am_ift (nI_le (Nat.le_refl _) (by omega))]
theorem m_count8 {m : Nat → Int32} {s : am_S} (hm : s.1 258 = m) (w : wfT m) : am_lp (fun (q : Int32 × Int32) => b_X12_count_102 s q.1 q.2) am_F ((0 : Int32), (0 : Int32)) = some (liesM m, s) := by
  have hP := w.P7
  have e4 : am_F = 4000 := rfl
  refine am_lp_run (fun i => (sumI (fun p => m (123 + p)) i, nI i)) (mP m) (fun i hi => ?_) ?_ (by omega)
  · dsimp only
    unfold b_X12_count_102
    rw [hm, w.P1, am_iff (nI_ge hi (by omega))]
    simp (disch := omega) only [am_ltd, pk_mul, nI_add, nI_1, gd2, cL]
    rfl
  · dsimp only
    unfold b_X12_count_102
    rw [hm, w.P1, am_ift (nI_le (Nat.le_refl _) (by omega))]
    rfl
theorem m_count9 {s : am_S} (w : wfT (s.1 258)) : ∃ s2, am_lp (fun (q : Int32 × Int32 × am_S) => b_X12_count_134 q.1 q.2.1 q.2.2) am_F ((0 : Int32), (0 : Int32), s) = some (harmM (s.1 258), s2) ∧ prot s s2 := by
  have hP := w.P7
  refine lp_sumS (fun p => harmB (s.1 258) (bel (s.1 258) p)) (mP (s.1 258)) (fun x => prot s x) (fun i hi acc x hx => ?_) (fun acc x hx => ?_) (by omega) s (prot.rf s)
  · dsimp only
    unfold b_X12_count_134
    obtain ⟨B, hB⟩ := m_harmOf (prot258 hx) w (p := i) (by omega)
    refine ⟨as_w x 259 B, ?_, hx.tr (pr259 x B)⟩
    rw [prot258 hx, w.P1, am_iff (nI_ge hi (by omega)), hB, am_b2s]
    simp only [am_ltd, nI_1]
  · dsimp only
    unfold b_X12_count_134
    rw [prot258 hx, w.P1, am_ift (nI_le (Nat.le_refl _) (by omega))]
theorem st_count : LS_count Inv := by
  intro k s v hk hI
  obtain ⟨rn, h⟩ := hI
  have h := InvR_mono h
  have w := h.w
  have t := h.t
  obtain ⟨a, n, -, -, -, a2, a3, -⟩ := h.2.2.2.2.2.2.2.1
  obtain ⟨T, -, t2, t3, -⟩ := h.2.2.2.2.1
  unfold f_X11_count f_X12_count
  by_cases h0 : v = 0
  · subst h0; exact ⟨_, s, am_ift rfl, by rw [am_ift rfl, t.F w, ← w.F1]; rfl, rn, h⟩
  by_cases h1 : v = 1
  · subst h1; exact ⟨_, s, rfl, by rw [t.so]; rfl, rn, h⟩
  by_cases h2 : v = nI 2
  · subst h2; exact ⟨_, s, rfl, by rw [t.P w, ← w.P1]; rfl, rn, h⟩
  by_cases h3 : v = nI 3
  · subst h3; exact ⟨_, s, rfl, by rw [t.S w, ← w.S1]; rfl, rn, h⟩
  by_cases h4 : v = nI 4
  · subst h4; exact ⟨_, s, rfl, by rw [h.2.1, ← h.2.2.1]; rfl, rn, h⟩
  by_cases h5 : v = nI 5
  · subst h5; exact ⟨_, s, rfl, by rw [h.c.1]; rfl, rn, h⟩
  by_cases h6 : v = nI 6
  · subst h6; exact ⟨_, s, rfl, by rw [h.f.day]; rfl, rn, h⟩
  by_cases h7 : v = nI 7
  · subst h7; exact ⟨_, s, rfl, by rw [h.f.hr]; rfl, rn, h⟩
  simp only [am_iff h0, am_iff h1, am_iff h2, am_iff h3, am_iff h4, am_iff h5, am_iff h6, am_iff h7]
  by_cases h8 : v = nI 8
  · simp only [am_ift h8]
    exact ⟨_, s, by rw [c_liesOfDay w h.f (by decide), am_bds], m_count8 rfl w, rn, h⟩
  simp only [am_iff h8]
  by_cases h9 : v = nI 9
  · simp only [am_ift h9]
    obtain ⟨s2, g1, g2⟩ := m_count9 w
    exact ⟨_, s2, by rw [c_harmOfAll w t h.f (by decide), am_bds], g1, rn, InvR_prot h g2⟩
  simp only [am_iff h9]
  by_cases h10 : v = nI 10
  · simp only [am_ift h10]
    exact ⟨_, s, rfl, by rw [h.c.2.2.1], rn, h⟩
  simp only [am_iff h10]
  by_cases h11 : v = nI 11
  · simp only [am_ift h11]
    exact ⟨_, s, rfl, by rw [h.c.2.2.2.1], rn, h⟩
  simp only [am_iff h11]
  by_cases h12 : v = nI 12
  · simp only [am_ift h12]
    exact ⟨_, s, rfl, by rw [a2, a3], rn, h⟩
  simp only [am_iff h12]
  by_cases h13 : v = nI 13
  · simp only [am_ift h13]
    exact ⟨_, s, rfl, by rw [h.c.2.1], rn, h⟩
  simp only [am_iff h13]
  by_cases h14 : v = nI 14
  · simp only [am_ift h14]
    exact ⟨_, s, rfl, by rw [t2, t3], rn, h⟩
  simp only [am_iff h14]
  exact ⟨_, s, rfl, rfl, rn, h⟩
