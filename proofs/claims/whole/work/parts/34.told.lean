/-! stated, tale -/
theorem InvR_S {k rn : Nat} {s s2 : am_S} (h : InvR k rn s) (g : ∀ a, a ≠ 15 → a ≠ 29 → a ≠ 258 → s2.1 a = s.1 a) (g0 : s2.2 = s.2) (g2 : s2.1 15 2 = s.1 15 2) (g3 : s2.1 15 3 = s.1 15 3) (gm : ∀ j, j < 270 → s2.1 258 j = s.1 258 j) (hw : wfS (s2.1 258)) (hc : s2.1 15 4 = s2.1 258 326 ∧ s2.1 15 6 = s2.1 258 327 ∧ s2.1 15 7 = nI (taleBits (s2.1 258) 1) ∧ s2.1 15 8 = nI (taleBits (s2.1 258) 0) ∧ ∀ j, j < 3 * mN (s2.1 258) 326 → s2.1 29 j = s2.1 258 (270 + j)) : InvR k rn s2 := by
  have w := h.w
  refine InvR_N h ⟨fun a hp c1 c2 c3 c4 => g a (by omega) (by omega) c3, by rw [g 0 (by decide) (by decide) (by decide)], by rw [g 0 (by decide) (by decide) (by decide)], by rw [g 248 (by decide) (by decide) (by decide)], by rw [g 248 (by decide) (by decide) (by decide)], fun z => by unfold pRef at z ⊢; rw [g0]; exact z⟩ ?_ (pActs_hi w h.2.2.2.2.2.2.2.1 gm (fun a ha => g a (by omega) (by omega) (by omega)) (by rw [g 248 (by decide) (by decide) (by decide)]))
  obtain ⟨n1, n2, n3, n4, n5, ⟨n6, n7, n8⟩, n9, n10⟩ := h.2.2.2.2.2.1
  have a := agT_low gm
  unfold pNow
  rw [g 16 (by decide) (by decide) (by decide), g 18 (by decide) (by decide) (by decide), g 19 (by decide) (by decide) (by decide), g 20 (by decide) (by decide) (by decide), g 21 (by decide) (by decide) (by decide), g 22 (by decide) (by decide) (by decide), g 23 (by decide) (by decide) (by decide), g 24 (by decide) (by decide) (by decide), g 25 (by decide) (by decide) (by decide), g 26 (by decide) (by decide) (by decide), g 27 (by decide) (by decide) (by decide), g 28 (by decide) (by decide) (by decide), g 248 (by decide) (by decide) (by decide)]
  exact ⟨wfT_eq a w, wfL_eq (fun j hj => gm j (by omega)) w.P7 w.F8 n2, hw, clT_eq a w n4, clL_eq gm w n5, ⟨g2.trans n6, g3.trans n7, hc⟩, n9, n10⟩
theorem mN_nI {m : Nat → Int32} {j n : Nat} (h : m j = nI n) (hn : n < 2 ^ 31) : mN m j = n := by unfold mN; rw [h, cL hn]
theorem isN_nI {m : Nat → Int32} {j n b : Nat} (h : m j = nI n) (hn : n < b) (hb : b ≤ 2 ^ 31) : isN m j b := by
  unfold isN
  rw [mN_nI h (by omega)]
  exact ⟨h, hn⟩
theorem taleBits_eq2 {m n : Nat → Int32} (h : ∀ j, 306 ≤ j → j < 328 → j ≠ 326 → n j = m j) (sw : mN m 327 < 11) (v : Int32) : taleBits n v = taleBits m v := by
  unfold taleBits
  refine bitsOf_congr 10 (fun q _ => ?_)
  rw [mN_eq (h 327 (by omega) (by omega) (by omega)), Bool.eq_iff_iff, List.any_eq_true, List.any_eq_true]
  have e : ∀ i, i ∈ List.range (mN m 327) → (mN n (306 + 2 * i) == q && n (306 + 2 * i + 1) == v) = (mN m (306 + 2 * i) == q && m (306 + 2 * i + 1) == v) := fun i hi => by
    have hi := List.mem_range.mp hi
    rw [mN_eq (h (306 + 2 * i) (by omega) (by omega) (by omega)), h (306 + 2 * i + 1) (by omega) (by omega) (by omega)]
  constructor
  · rintro ⟨i, hi, hj⟩
    exact ⟨i, hi, by rw [← e i hi]; exact hj⟩
  · rintro ⟨i, hi, hj⟩
    exact ⟨i, hi, by rw [e i hi]; exact hj⟩
theorem m_stated {s : am_S} {c i j : Nat} {v : Int32} (hc : s.1 258 326 = nI c) (hcl : c < 12) (w : wfT (s.1 258)) (hi : i < mP (s.1 258)) (hj : j < mF (s.1 258)) (hv : v = 0 ∨ v = 1) : f_X12_stated (nI i) (nI j) v s = some (nI (c + 1), as_i (as_i (as_i (as_i s 258 (270 + 3 * c) (nI i)) 258 (270 + 3 * c + 1) (nI j)) 258 (270 + 3 * c + 2) v) 258 326 (nI (c + 1))) := by
  have hP := w.P7
  have hF := w.F8
  have hn1 : nI i ≠ -1 := fun z => nI_pos (n := i) (by omega) (by rw [z]; decide)
  unfold f_X12_stated
  rw [am_iff hn1, m_isPerson w.P1, am_bds, am_b1 (inP_nI hi (by omega)), m_isFact w.F1, am_bds, am_b1 (inP_nI hj (by omega)), m_in01, am_bds, am_b1 hv, hc, am_iff (by rw [nI_eq (by omega) (by decide)]; omega)]
  simp (disch := omega) only [am_ltd, pk_mul, nI_add, nI_1, gd2, cL]
  have e : ((as_i (as_i (as_i s 258 (270 + 3 * c) (nI i)) 258 (270 + 3 * c + 1) (nI j)) 258 (270 + 3 * c + 2) v).1 258 326) = nI c := by
    rw [as_i2 (by omega), as_i2 (by omega), as_i2 (by omega), hc]
  rw [e, nI_1, as_i3]
theorem c_stated {s : am_S} {m : Nat → Int32} {c i j : Nat} {v : Int32} (hc : s.1 15 4 = nI c) (hcl : c < 12) (w : wfT m) (t : townAt m s) (hi : i < mP m) (hj : j < mF m) (hv : v = 0 ∨ v = 1) : f_X11_stated (nI i) (nI j) v s = some (nI (c + 1), as_i (as_i (as_i (as_i s 29 (3 * c) (nI i)) 29 (3 * c + 1) (nI j)) 29 (3 * c + 2) v) 15 4 (nI (c + 1))) := by
  have hP := w.P7
  have hF := w.F8
  have hn1 : nI i ≠ -1 := fun z => nI_pos (n := i) (by omega) (by rw [z]; decide)
  unfold f_X11_stated j_X11_stated_55 f_X5_addStated
  rw [am_iff hn1, c_hasPerson (by decide) (t.P w), am_bds, am_b1 (inP_nI hi (by omega)), c_hasFact (t.F w), am_bds, am_b1 (inP_nI hj (by omega)), c_isBit, am_bds, am_b1 hv, am_iff (by decide), hc, am_ift (nI_lt hcl (by decide)), am_iff (nI_ge hcl (by decide))]
  simp only [am_ltd, as_i1 (show (15 : Nat) ≠ 29 by decide), hc]
  simp (disch := omega) only [am_ltd, pk_mul, nI_add, nI_1, gd2, cL, am_bds, as_i3]
theorem st_stated : LS_stated Inv := by
  intro k s p f v hk hI
  obtain ⟨rn, h⟩ := hI
  have h := InvR_mono h
  have w := h.w
  have hP := w.P7
  have hF := w.F8
  have sw := h.s
  have cs := h.c
  have x1 := sw.1.2
  have x2 := sw.2.1.2
  by_cases h0 : p = -1
  · subst h0
    refine ⟨0, as_i s 15 4 0, as_i (as_i s 15 4 0) 258 326 0, by unfold f_X11_stated; rw [am_ift rfl, am_ltd], by unfold f_X12_stated; rw [am_ift rfl, am_ltd], rn, ?_⟩
    have e0 : mN ((as_i (as_i s 15 4 0) 258 326 0).1 258) 326 = 0 := mN_nI (n := 0) (by rw [as_i3]; rfl) (by decide)
    have em : ∀ j, j ≠ 326 → (as_i (as_i s 15 4 0) 258 326 0).1 258 j = s.1 258 j := fun j hj => by rw [as_i2 hj, as_i1 (by decide)]
    refine InvR_S h (fun a c1 c2 c3 => by rw [as_i1 c3, as_i1 c1]) rfl (by rw [as_i1 (by decide), as_i2 (by decide)]) (by rw [as_i1 (by decide), as_i2 (by decide)]) (fun j hj => em j (by omega)) ⟨isN_nI (n := 0) (by rw [as_i3]; rfl) (by decide) (by decide), isN_eq (em 327 (by omega)) rfl sw.2.1, fun i hi => by rw [e0] at hi; omega, fun i hi => ?_⟩ ⟨by rw [as_i1 (by decide), as_i3, as_i3], by rw [as_i1 (by decide), as_i2 (by decide), em 327 (by omega)]; exact cs.2.2.2.1, ?_, ?_, fun j hj => by rw [e0] at hj; omega⟩
    · rw [mN_eq (em 327 (by omega))] at hi
      obtain ⟨a, b⟩ := sw.2.2.2 i hi
      exact ⟨isN_eq (em _ (by omega)) rfl a, by rw [em _ (by omega)]; exact b⟩
    · rw [as_i1 (by decide), as_i2 (by decide), cs.2.2.2.2.1, taleBits_eq2 (fun j _ _ hj => em j hj) x2]
    · rw [as_i1 (by decide), as_i2 (by decide), cs.2.2.2.2.2.1, taleBits_eq2 (fun j _ _ hj => em j hj) x2]
  · have hC : s.1 258 326 = nI (mN (s.1 258) 326) := sw.1.1
    have hc : s.1 15 4 = nI (mN (s.1 258) 326) := cs.2.2.1.trans hC
    by_cases hg : inP p (mP (s.1 258)) ∧ inP f (mF (s.1 258)) ∧ (v = 0 ∨ v = 1) ∧ mN (s.1 258) 326 < 12
    · obtain ⟨g1, g2, g3, g4⟩ := hg
      obtain ⟨i, hi, rfl⟩ := inP_of g1 (by omega)
      obtain ⟨j, hj, rfl⟩ := inP_of g2 (by omega)
      have e1 := c_stated hc g4 w h.t hi hj g3
      generalize hcc : mN (s.1 258) 326 = c at *
      generalize hs1 : as_i (as_i (as_i (as_i s 29 (3 * c) (nI i)) 29 (3 * c + 1) (nI j)) 29 (3 * c + 2) v) 15 4 (nI (c + 1)) = s1 at e1
      have o1 : ∀ a, a ≠ 15 → a ≠ 29 → s1.1 a = s.1 a := fun a c1 c2 => by rw [← hs1, as_i1 c1, as_i1 c2, as_i1 c2, as_i1 c2]
      have em1 : s1.1 258 = s.1 258 := o1 258 (by decide) (by decide)
      have e2 := m_stated (s := s1) (c := c) (i := i) (j := j) (v := v) (by rw [em1]; exact hC) g4 (by rw [em1]; exact w) (by rw [em1]; exact hi) (by rw [em1]; exact hj) g3
      generalize hs2 : as_i (as_i (as_i (as_i s1 258 (270 + 3 * c) (nI i)) 258 (270 + 3 * c + 1) (nI j)) 258 (270 + 3 * c + 2) v) 258 326 (nI (c + 1)) = s2 at e2
      refine ⟨_, s1, s2, e1, e2, rn, ?_⟩
      have em : ∀ q, q ≠ 270 + 3 * c → q ≠ 270 + 3 * c + 1 → q ≠ 270 + 3 * c + 2 → q ≠ 326 → s2.1 258 q = s.1 258 q := fun q c1 c2 c3 c4 => by rw [← hs2, as_i2 c4, as_i2 c3, as_i2 c2, as_i2 c1, em1]
      have f0 : s2.1 258 (270 + 3 * c) = nI i := by rw [← hs2, as_i2 (by omega), as_i2 (by omega), as_i2 (by omega), as_i3]
      have f1 : s2.1 258 (270 + 3 * c + 1) = nI j := by rw [← hs2, as_i2 (by omega), as_i2 (by omega), as_i3]
      have f2 : s2.1 258 (270 + 3 * c + 2) = v := by rw [← hs2, as_i2 (by omega), as_i3]
      have f3 : s2.1 258 326 = nI (c + 1) := by rw [← hs2, as_i3]
      have o2 : ∀ a, a ≠ 258 → s2.1 a = s1.1 a := fun a c1 => by rw [← hs2, as_i1 c1, as_i1 c1, as_i1 c1, as_i1 c1]
      have e326 : mN (s2.1 258) 326 = c + 1 := mN_nI f3 (by omega)
      have tb : ∀ v, taleBits (s2.1 258) v = taleBits (s.1 258) v := fun v => taleBits_eq2 (fun q q1 q2 q3 => em q (by omega) (by omega) (by omega) q3) x2 v
      refine InvR_S h (fun a c1 c2 c3 => by rw [o2 a c3, o1 a c1 c2]) (by rw [← hs2, as_i4, as_i4, as_i4, as_i4, ← hs1, as_i4, as_i4, as_i4, as_i4]) (by rw [o2 15 (by decide), ← hs1, as_i2 (by decide), as_i1 (by decide), as_i1 (by decide), as_i1 (by decide)]) (by rw [o2 15 (by decide), ← hs1, as_i2 (by decide), as_i1 (by decide), as_i1 (by decide), as_i1 (by decide)]) (fun j hj => em j (by omega) (by omega) (by omega) (by omega)) ⟨isN_nI f3 (by omega) (by decide), isN_eq (em 327 (by omega) (by omega) (by omega) (by omega)) rfl sw.2.1, fun q hq => ?_, fun q hq => ?_⟩ ⟨by rw [f3, o2 15 (by decide), ← hs1, as_i3], by rw [o2 15 (by decide), em 327 (by omega) (by omega) (by omega) (by omega), ← hs1, as_i2 (by decide), as_i1 (by decide), as_i1 (by decide), as_i1 (by decide)]; exact cs.2.2.2.1, by rw [o2 15 (by decide), tb, ← hs1, as_i2 (by decide), as_i1 (by decide), as_i1 (by decide), as_i1 (by decide)]; exact cs.2.2.2.2.1, by rw [o2 15 (by decide), tb, ← hs1, as_i2 (by decide), as_i1 (by decide), as_i1 (by decide), as_i1 (by decide)]; exact cs.2.2.2.2.2.1, fun q hq => ?_⟩
      · rw [e326] at hq
        have eP : mP (s2.1 258) = mP (s.1 258) := mN_eq (em 2 (by omega) (by omega) (by omega) (by omega))
        have eF : mF (s2.1 258) = mF (s.1 258) := mN_eq (em 0 (by omega) (by omega) (by omega) (by omega))
        by_cases cq : q = c
        · subst cq
          exact ⟨isN_nI f0 (by rw [eP]; exact hi) (by rw [eP]; omega), isN_nI f1 (by rw [eF]; exact hj) (by rw [eF]; omega), by rw [f2]; exact g3⟩
        · obtain ⟨a, b, d⟩ := sw.2.2.1 q (by rw [hcc]; omega)
          exact ⟨isN_eq (em _ (by omega) (by omega) (by omega) (by omega)) eP a, isN_eq (em _ (by omega) (by omega) (by omega) (by omega)) eF b, by rw [em _ (by omega) (by omega) (by omega) (by omega)]; exact d⟩
      · rw [mN_eq (em 327 (by omega) (by omega) (by omega) (by omega))] at hq
        obtain ⟨a, b⟩ := sw.2.2.2 q hq
        exact ⟨isN_eq (em _ (by omega) (by omega) (by omega) (by omega)) rfl a, by rw [em _ (by omega) (by omega) (by omega) (by omega)]; exact b⟩
      · rw [e326] at hq
        have y : s1.1 29 q = (as_i (as_i (as_i s 29 (3 * c) (nI i)) 29 (3 * c + 1) (nI j)) 29 (3 * c + 2) v).1 29 q := by rw [← hs1, as_i1 (by decide)]
        rw [o2 29 (by decide), y]
        by_cases q2 : q = 3 * c + 2
        · subst q2; rw [as_i3]; exact f2.symm
        · rw [as_i2 q2]
          by_cases q1 : q = 3 * c + 1
          · subst q1; rw [as_i3]; exact f1.symm
          · rw [as_i2 q1]
            by_cases q0 : q = 3 * c
            · subst q0; rw [as_i3]; exact f0.symm
            · rw [as_i2 q0, em _ (by omega) (by omega) (by omega) (by omega)]
              exact cs.2.2.2.2.2.2 q (by rw [hcc]; omega)
    · refine ⟨-2, s, s, ?_, ?_, rn, h⟩
      · unfold f_X11_stated j_X11_stated_55
        simp only [am_iff h0, c_hasPerson (show 16 ∈ am_isT by decide) (h.t.P w), c_hasFact (h.t.F w), c_isBit, am_bds]
        by_cases g1 : inP p (mP (s.1 258))
        · by_cases g2 : inP f (mF (s.1 258))
          · by_cases g3 : v = 0 ∨ v = 1
            · rw [am_b1 g1, am_b1 g2, am_b1 g3, am_iff (by decide), am_iff]
              rw [hc, Int32.not_lt]
              exact nI_le (Nat.le_of_not_lt (fun z => hg ⟨g1, g2, g3, z⟩)) (by omega)
            · rw [am_b1 g1, am_b1 g2, am_b0 g3, am_ift trivial]
          · rw [am_b1 g1, am_b0 g2, am_ift trivial]
        · rw [am_b0 g1, am_ift trivial]
      · unfold f_X12_stated
        simp only [am_iff h0, m_isPerson w.P1, m_isFact w.F1, m_in01, am_bds]
        by_cases g1 : inP p (mP (s.1 258))
        · by_cases g2 : inP f (mF (s.1 258))
          · by_cases g3 : v = 0 ∨ v = 1
            · have g4 : mN (s.1 258) 326 = 12 := by
                have : ¬ mN (s.1 258) 326 < 12 := fun z => hg ⟨g1, g2, g3, z⟩
                omega
              rw [am_b1 g1, am_b1 g2, am_b1 g3, am_ift (by rw [hC, g4])]
            · rw [am_b1 g1, am_b1 g2, am_b0 g3]
          · rw [am_b1 g1, am_b0 g2]
        · rw [am_b0 g1]
theorem taleBits_lt (m : Nat → Int32) (v : Int32) : taleBits m v < 1024 := bitsOf_lt _ 10
theorem or_bit {P : Nat → Bool} {n q : Nat} (hq : q < n) (hn : n < 31) : nI (bitsOf P n) ||| ((1 : Int32) <<< (nI q &&& 31)) = nI (bitsOf (fun i => P i || decide (i = q)) n) := by
  rw [sh_l (by omega), nI_or]
  congr 1
  apply Nat.eq_of_testBit_eq
  intro i
  rw [Nat.testBit_or, bitsOf_bit, bitsOf_bit, Nat.testBit_two_pow]
  by_cases c : i = q
  · subst c; simp [hq]
  · have : ¬ q = i := fun z => c z.symm
    simp [c, this]
theorem taleBits_add {m n : Nat → Int32} {c q : Nat} {u v : Int32} (hc : mN m 327 = c) (hc2 : mN n 327 = c + 1) (h : ∀ j, 306 ≤ j → j < 306 + 2 * c → n j = m j) (h1 : mN n (306 + 2 * c) = q) (h2 : n (306 + 2 * c + 1) = u) : taleBits n v = bitsOf (fun i => (List.range c).any (fun i2 => mN m (306 + 2 * i2) == i && m (306 + 2 * i2 + 1) == v) || (decide (i = q) && u == v)) 10 := by
  unfold taleBits
  refine bitsOf_congr 10 (fun i _ => ?_)
  rw [hc2, List.range_succ, List.any_append]
  have e : (List.range c).any (fun i2 => mN n (306 + 2 * i2) == i && n (306 + 2 * i2 + 1) == v) = (List.range c).any (fun i2 => mN m (306 + 2 * i2) == i && m (306 + 2 * i2 + 1) == v) := by
    have e0 : ∀ i2, i2 ∈ List.range c → (mN n (306 + 2 * i2) == i && n (306 + 2 * i2 + 1) == v) = (mN m (306 + 2 * i2) == i && m (306 + 2 * i2 + 1) == v) := fun i2 hi => by
      have hi := List.mem_range.mp hi
      rw [mN_eq (h (306 + 2 * i2) (by omega) (by omega)), h (306 + 2 * i2 + 1) (by omega) (by omega)]
    rw [Bool.eq_iff_iff, List.any_eq_true, List.any_eq_true]
    constructor
    · rintro ⟨i, hi, hj⟩
      exact ⟨i, hi, by rw [← e0 i hi]; exact hj⟩
    · rintro ⟨i, hi, hj⟩
      exact ⟨i, hi, by rw [e0 i hi]; exact hj⟩
  rw [e]
  simp only [List.any_cons, List.any_nil, Bool.or_false, h1, h2]
  congr 1
  congr 1
  by_cases c : i = q
  · subst c; simp
  · have : ¬ q = i := fun z => c z.symm
    simp [c, this]
theorem st_tale : LS_tale Inv := by
  intro k s p v hv hk hI
  obtain ⟨rn, h⟩ := hI
  have h := InvR_mono h
  have w := h.w
  have sw := h.s
  have cs := h.c
  have x1 := sw.1.2
  have x2 := sw.2.1.2
  by_cases h0 : p = -1
  · subst h0
    refine ⟨0, as_i (as_i (as_i s 15 6 0) 15 7 0) 15 8 0, as_i (as_i (as_i (as_i s 15 6 0) 15 7 0) 15 8 0) 258 327 0, by unfold f_X11_tale f_X5_forgetTales; rw [am_ift rfl, am_ltd, am_ltd, am_ltd, am_bds], by unfold f_X12_tale; rw [am_ift rfl, am_ltd], rn, ?_⟩
    generalize hs2 : as_i (as_i (as_i (as_i s 15 6 0) 15 7 0) 15 8 0) 258 327 0 = s2
    have em : ∀ j, j ≠ 327 → s2.1 258 j = s.1 258 j := fun j hj => by rw [← hs2, as_i2 hj, as_i1 (by decide), as_i1 (by decide), as_i1 (by decide)]
    have f3 : s2.1 258 327 = nI 0 := by rw [← hs2, as_i3]; rfl
    have e3 : mN (s2.1 258) 327 = 0 := mN_nI f3 (by decide)
    have tb : ∀ v, taleBits (s2.1 258) v = 0 := fun v => by
      unfold taleBits
      rw [e3]
      rfl
    have e15 : ∀ j, j ≠ 6 → j ≠ 7 → j ≠ 8 → s2.1 15 j = s.1 15 j := fun j c1 c2 c3 => by rw [← hs2, as_i1 (by decide), as_i2 c3, as_i2 c2, as_i2 c1]
    refine InvR_S h (fun a c1 c2 c3 => by rw [← hs2, as_i1 c3, as_i1 c1, as_i1 c1, as_i1 c1]) (by rw [← hs2]; rfl) (e15 2 (by decide) (by decide) (by decide)) (e15 3 (by decide) (by decide) (by decide)) (fun j hj => em j (by omega)) ⟨isN_eq (em 326 (by omega)) rfl sw.1, isN_nI f3 (by decide) (by decide), fun i hi => ?_, fun i hi => by rw [e3] at hi; omega⟩ ⟨by rw [e15 4 (by decide) (by decide) (by decide), em 326 (by omega)]; exact cs.2.2.1, by rw [f3, ← hs2, as_i1 (by decide), as_i2 (by decide), as_i2 (by decide), as_i3]; rfl, by rw [tb, ← hs2, as_i1 (by decide), as_i2 (by decide), as_i3]; rfl, by rw [tb, ← hs2, as_i1 (by decide), as_i3]; rfl, fun j hj => ?_⟩
    · rw [mN_eq (em 326 (by omega))] at hi
      obtain ⟨a, b, c⟩ := sw.2.2.1 i hi
      exact ⟨isN_eq (em _ (by omega)) (mN_eq (em 2 (by omega))) a, isN_eq (em _ (by omega)) (mN_eq (em 0 (by omega))) b, by rw [em _ (by omega)]; exact c⟩
    · rw [mN_eq (em 326 (by omega))] at hj
      rw [em _ (by omega), ← hs2, as_i1 (by decide), as_i1 (by decide), as_i1 (by decide), as_i1 (by decide)]
      exact cs.2.2.2.2.2.2 j hj
  · have hC : s.1 258 327 = nI (mN (s.1 258) 327) := sw.2.1.1
    have hc : s.1 15 6 = nI (mN (s.1 258) 327) := cs.2.2.2.1.trans hC
    by_cases hg : inP p 10 ∧ mN (s.1 258) 327 < 10
    · obtain ⟨g1, g4⟩ := hg
      obtain ⟨q, hq, rfl⟩ := inP_of g1 (by decide)
      generalize hcc : mN (s.1 258) 327 = c at *
      have e1 : f_X11_tale (nI q) v s = some (nI (c + 1), as_i (as_i s 15 6 (nI (c + 1))) 15 (if v = 0 then 8 else 7) (nI (taleBits (s.1 258) v) ||| ((1 : Int32) <<< (nI q &&& 31)))) := by
        unfold f_X11_tale f_X5_addTale
        rw [am_iff h0, am_iff (nI_pos (by omega)), am_iff (nI_ge hq (by decide)), hc, am_ift (nI_lt g4 (by decide)), am_ltd, nI_1]
        rcases hv with rfl | rfl
        · rw [am_ift rfl, am_ltd, am_bds, as_i2 (by decide), as_i3, as_i2 (by decide), cs.2.2.2.2.2.1, if_pos rfl]
        · rw [am_iff (by decide), am_ltd, am_bds, as_i2 (by decide), as_i3, as_i2 (by decide), cs.2.2.2.2.1, if_neg (by decide)]
      generalize hs1 : as_i (as_i s 15 6 (nI (c + 1))) 15 (if v = 0 then 8 else 7) (nI (taleBits (s.1 258) v) ||| ((1 : Int32) <<< (nI q &&& 31))) = s1 at e1
      have o1 : ∀ a, a ≠ 15 → s1.1 a = s.1 a := fun a c1 => by rw [← hs1, as_i1 c1, as_i1 c1]
      have em1 : s1.1 258 = s.1 258 := o1 258 (by decide)
      have e2 : f_X12_tale (nI q) v s1 = some (nI (c + 1), as_i (as_i (as_i s1 258 (306 + 2 * c) (nI q)) 258 (306 + 2 * c + 1) v) 258 327 (nI (c + 1))) := by
        unfold f_X12_tale j_X12_tale_93
        rw [am_iff h0, m_in0 (nI q) 9 (by decide) 9 rfl, am_bds, am_b1 g1, em1, hC, am_iff (by rw [nI_eq (by omega) (by decide)]; omega)]
        have z : ∀ a b : Int32, (as_i s1 258 (306 + 2 * c) (nI q)).1 258 327 = nI c := fun _ _ => by rw [as_i2 (by omega), em1, hC]
        simp (disch := omega) only [am_ltd, pk_mul, nI_add, nI_1, gd2, cL]
        rw [z 0 0]
        simp (disch := omega) only [am_ltd, pk_mul, nI_add, nI_1, gd2, cL]
        have z2 : ∀ u, (as_i (as_i s1 258 (306 + 2 * c) (nI q)) 258 (306 + 2 * c + 1) u).1 258 327 = nI c := fun u => by rw [as_i2 (by omega), z 0 0]
        rcases hv with rfl | rfl
        · rw [am_ift rfl, z2, nI_1, as_i3]
        · rw [am_iff (by decide), z2, nI_1, as_i3]
      generalize hs2 : as_i (as_i (as_i s1 258 (306 + 2 * c) (nI q)) 258 (306 + 2 * c + 1) v) 258 327 (nI (c + 1)) = s2 at e2
      refine ⟨_, s1, s2, e1, e2, rn, ?_⟩
      have em : ∀ j, j ≠ 306 + 2 * c → j ≠ 306 + 2 * c + 1 → j ≠ 327 → s2.1 258 j = s.1 258 j := fun j c1 c2 c3 => by rw [← hs2, as_i2 c3, as_i2 c2, as_i2 c1, em1]
      have f0 : s2.1 258 (306 + 2 * c) = nI q := by rw [← hs2, as_i2 (by omega), as_i2 (by omega), as_i3]
      have f1 : s2.1 258 (306 + 2 * c + 1) = v := by rw [← hs2, as_i2 (by omega), as_i3]
      have f3 : s2.1 258 327 = nI (c + 1) := by rw [← hs2, as_i3]
      have e327 : mN (s2.1 258) 327 = c + 1 := mN_nI f3 (by omega)
      have o2 : ∀ a, a ≠ 258 → s2.1 a = s1.1 a := fun a c1 => by rw [← hs2, as_i1 c1, as_i1 c1, as_i1 c1]
      have tb := fun u => taleBits_add (m := s.1 258) (n := s2.1 258) (c := c) (q := q) (u := v) (v := u) hcc e327 (fun j j1 j2 => em j (by omega) (by omega) (by omega)) (mN_nI f0 (by omega)) f1
      have t0 : ∀ u, taleBits (s.1 258) u = bitsOf (fun i => (List.range c).any (fun i2 => mN (s.1 258) (306 + 2 * i2) == i && s.1 258 (306 + 2 * i2 + 1) == u)) 10 := fun u => by
        unfold taleBits
        rw [hcc]
      have tsame : nI (taleBits (s.1 258) v) ||| ((1 : Int32) <<< (nI q &&& 31)) = nI (taleBits (s2.1 258) v) := by
        rw [t0, or_bit hq (by decide), tb]
        congr 1
        refine bitsOf_congr 10 (fun i _ => ?_)
        simp
      have tother : ∀ u, u ≠ v → taleBits (s.1 258) u = taleBits (s2.1 258) u := fun u hu => by
        rw [t0, tb]
        refine bitsOf_congr 10 (fun i _ => ?_)
        have : (v == u) = false := by simpa using fun z => hu z.symm
        rw [this, Bool.and_false, Bool.or_false]
      have e15 : ∀ j, j ≠ 6 → j ≠ 7 → j ≠ 8 → s1.1 15 j = s.1 15 j := fun j c1 c2 c3 => by
        rw [← hs1]
        rcases hv with rfl | rfl
        · rw [if_pos rfl, as_i2 c3, as_i2 c1]
        · rw [if_neg (by decide), as_i2 c2, as_i2 c1]
      have f7 : s1.1 15 7 = nI (taleBits (s2.1 258) 1) := by
        rw [← hs1]
        rcases hv with rfl | rfl
        · rw [if_pos rfl, as_i2 (by decide), as_i2 (by decide), cs.2.2.2.2.1, tother 1 (by decide)]
        · rw [if_neg (by decide), as_i3, tsame]
      have f8 : s1.1 15 8 = nI (taleBits (s2.1 258) 0) := by
        rw [← hs1]
        rcases hv with rfl | rfl
        · rw [if_pos rfl, as_i3, tsame]
        · rw [if_neg (by decide), as_i2 (by decide), as_i2 (by decide), cs.2.2.2.2.2.1, tother 0 (by decide)]
      have f6 : s1.1 15 6 = nI (c + 1) := by
        rw [← hs1]
        rcases hv with rfl | rfl
        · rw [if_pos rfl, as_i2 (by decide), as_i3]
        · rw [if_neg (by decide), as_i2 (by decide), as_i3]
      refine InvR_S h (fun a c1 c2 c3 => by rw [o2 a c3, o1 a c1]) (by rw [← hs2, as_i4, as_i4, as_i4, ← hs1, as_i4, as_i4]) (by rw [o2 15 (by decide), e15 2 (by decide) (by decide) (by decide)]) (by rw [o2 15 (by decide), e15 3 (by decide) (by decide) (by decide)]) (fun j hj => em j (by omega) (by omega) (by omega)) ⟨isN_eq (em 326 (by omega) (by omega) (by omega)) rfl sw.1, isN_nI f3 (by omega) (by decide), fun i hi => ?_, fun i hi => ?_⟩ ⟨by rw [o2 15 (by decide), e15 4 (by decide) (by decide) (by decide), em 326 (by omega) (by omega) (by omega)]; exact cs.2.2.1, by rw [f3, o2 15 (by decide)]; exact f6, by rw [o2 15 (by decide)]; exact f7, by rw [o2 15 (by decide)]; exact f8, fun j hj => ?_⟩
      · rw [mN_eq (em 326 (by omega) (by omega) (by omega))] at hi
        obtain ⟨a, b, d⟩ := sw.2.2.1 i hi
        exact ⟨isN_eq (em _ (by omega) (by omega) (by omega)) (mN_eq (em 2 (by omega) (by omega) (by omega))) a, isN_eq (em _ (by omega) (by omega) (by omega)) (mN_eq (em 0 (by omega) (by omega) (by omega))) b, by rw [em _ (by omega) (by omega) (by omega)]; exact d⟩
      · rw [e327] at hi
        by_cases ci : i = c
        · subst ci
          exact ⟨isN_nI f0 hq (by decide), by rw [f1]; exact hv⟩
        · obtain ⟨a, b⟩ := sw.2.2.2 i (by rw [hcc]; omega)
          exact ⟨isN_eq (em _ (by omega) (by omega) (by omega)) rfl a, by rw [em _ (by omega) (by omega) (by omega)]; exact b⟩
      · rw [mN_eq (em 326 (by omega) (by omega) (by omega))] at hj
        rw [em _ (by omega) (by omega) (by omega), o2 29 (by decide), o1 29 (by decide)]
        exact cs.2.2.2.2.2.2 j hj
    · refine ⟨-2, s, s, ?_, ?_, rn, h⟩
      · unfold f_X11_tale
        rw [am_iff h0]
        by_cases c : p < 0
        · rw [am_ift c]
        · rw [am_iff c]
          by_cases c2 : nI 10 ≤ p
          · rw [am_ift c2]
          · rw [am_iff c2, am_iff]
            rw [hc, Int32.not_lt]
            exact nI_le (Nat.le_of_not_lt (fun z => hg ⟨⟨c, c2⟩, z⟩)) (by omega)
      · unfold f_X12_tale
        rw [am_iff h0, m_in0 p 9 (by decide) 9 rfl, am_bds]
        by_cases g1 : inP p 10
        · have g4 : mN (s.1 258) 327 = 10 := by
            have : ¬ mN (s.1 258) 327 < 10 := fun z => hg ⟨g1, z⟩
            omega
          rw [am_b1 g1, am_ift (by rw [hC, g4])]
        · rw [am_b0 g1]
