/-! rows that agree where it matters -/
theorem mN_eq {m n : Nat → Int32} {j : Nat} (h : n j = m j) : mN n j = mN m j := by unfold mN; rw [h]
theorem isN_eq {m n : Nat → Int32} {j b b2 : Nat} (h : n j = m j) (hb : b2 = b) (g : isN m j b) : isN n j b2 := by
  unfold isN at g ⊢
  rw [mN_eq h, h, hb]
  exact g
/-- the cells of a town -/
def tc (j : Nat) : Prop := j < 6 ∨ j = 10 ∨ (130 ≤ j ∧ j < 270)
def agT (m n : Nat → Int32) : Prop := ∀ j, tc j → n j = m j
theorem agT.mF {m n : Nat → Int32} (h : agT m n) : mF n = mF m := mN_eq (h 0 (by unfold tc; omega))
theorem agT.mO {m n : Nat → Int32} (h : agT m n) : mO n = mO m := mN_eq (h 1 (by unfold tc; omega))
theorem agT.mP {m n : Nat → Int32} (h : agT m n) : mP n = mP m := mN_eq (h 2 (by unfold tc; omega))
theorem agT.mS {m n : Nat → Int32} (h : agT m n) : mS n = mS m := mN_eq (h 3 (by unfold tc; omega))
theorem agT.mI {m n : Nat → Int32} (h : agT m n) : mI n = mI m := mN_eq (h 4 (by unfold tc; omega))
theorem agT.mH {m n : Nat → Int32} (h : agT m n) : mH n = mH m := mN_eq (h 5 (by unfold tc; omega))
theorem wfT.I10 {m : Nat → Int32} (w : wfT m) : mI m ≤ 10 := w.okIf.2.1
theorem wfT.H10 {m : Nat → Int32} (w : wfT m) : mH m ≤ 10 := w.okH.2.1
theorem wfT_eq {m n : Nat → Int32} (h : agT m n) (w : wfT m) : wfT n := by
  have h3 := w.S10
  have h4 := w.I10
  have h5 := w.H10
  obtain ⟨w1, w2, w3, w4, w5, w6, w7, w8, w9, w10, w11, w12, w13⟩ := w
  refine ⟨isN_eq (h 0 (by unfold tc; omega)) rfl w1, isN_eq (h 1 (by unfold tc; omega)) (by rw [h.mF]) w2, isN_eq (h 2 (by unfold tc; omega)) rfl w3, isN_eq (h 3 (by unfold tc; omega)) rfl w4, isN_eq (h 4 (by unfold tc; omega)) rfl w5, isN_eq (h 5 (by unfold tc; omega)) rfl w6, isN_eq (h 269 (by unfold tc; omega)) rfl w7, by rw [h 10 (by unfold tc; omega)]; exact w8, by rw [h.mF, h.mP, h.mS, h.mI, h.mH]; exact w9, fun i hi => ?_, fun i hi => ?_, fun i hi => ?_, fun j hj h0 => ?_⟩
  · rw [h.mS] at hi
    obtain ⟨a, b, c⟩ := w10 i hi
    have e1 := h (179 + 2 * i) (by unfold tc; omega)
    have e2 := h (179 + 2 * i + 1) (by unfold tc; omega)
    exact ⟨isN_eq e1 h.mP a, isN_eq e2 h.mP b, by unfold mA mB; rw [mN_eq e1, mN_eq e2]; exact c⟩
  · rw [h.mI] at hi
    obtain ⟨a, b, c, d⟩ := w11 i hi
    have e1 := h (199 + 4 * i) (by unfold tc; omega)
    have e2 := h (199 + 4 * i + 1) (by unfold tc; omega)
    have e3 := h (199 + 4 * i + 2) (by unfold tc; omega)
    have e4 := h (199 + 4 * i + 3) (by unfold tc; omega)
    exact ⟨isN_eq e1 h.mF a, by rw [e2]; exact b, isN_eq e3 h.mF c, by rw [e4]; exact d⟩
  · rw [h.mH] at hi
    obtain ⟨a, b, c⟩ := w12 i hi
    have e1 := h (239 + 3 * i) (by unfold tc; omega)
    have e2 := h (239 + 3 * i + 1) (by unfold tc; omega)
    have e3 := h (239 + 3 * i + 2) (by unfold tc; omega)
    exact ⟨isN_eq e1 h.mF a, by rw [e2]; exact b, isN_eq e3 rfl c⟩
  · rw [h.mF] at h0
    exact isN_eq (h (130 + j) (by unfold tc; omega)) rfl (w13 j hj h0)
theorem hasSt_eq {m n : Nat → Int32} (h : agT m n) (w : wfT m) (p q : Nat) : hasSt n p q = hasSt m p q := by
  have h3 := w.S10
  unfold hasSt
  rw [h.mS]
  rw [Bool.eq_iff_iff, List.any_eq_true, List.any_eq_true]
  have e : ∀ i, i ∈ List.range (mS m) → joins n i p q = joins m i p q := fun i hi => by
    have hi := List.mem_range.mp hi
    unfold joins mA mB
    rw [mN_eq (h (179 + 2 * i) (by unfold tc; omega)), mN_eq (h (179 + 2 * i + 1) (by unfold tc; omega))]
  constructor
  · rintro ⟨i, hi, hj⟩
    exact ⟨i, hi, by rw [← e i hi]; exact hj⟩
  · rintro ⟨i, hi, hj⟩
    exact ⟨i, hi, by rw [e i hi]; exact hj⟩
theorem nbr_eq {m n : Nat → Int32} (h : agT m n) (w : wfT m) (p : Nat) : nbr n p = nbr m p := bitsOf_congr 7 (fun q _ => hasSt_eq h w p q)
theorem clT_eq {m n t0 t2 t3 t4 t5 t6 t7 : Nat → Int32} (h : agT m n) (w : wfT m) (c : clT m t0 t2 t3 t4 t5 t6 t7) : clT n t0 t2 t3 t4 t5 t6 t7 := by
  have h3 := w.S10
  have h4 := w.I10
  have h5 := w.H10
  obtain ⟨c1, c2, c3, c4, c5, c6, c7, c8, c9, c10, c11, c12, c13, c14⟩ := c
  refine ⟨by rw [h.mF]; exact c1, by rw [h 0 (by unfold tc; omega)]; exact c2, by rw [h 1 (by unfold tc; omega)]; exact c3, by rw [h 2 (by unfold tc; omega)]; exact c4, by rw [h 3 (by unfold tc; omega)]; exact c5, by rw [h 4 (by unfold tc; omega)]; exact c6, by rw [h 5 (by unfold tc; omega)]; exact c7, by rw [h 269 (by unfold tc; omega)]; exact c8, by rw [h 10 (by unfold tc; omega)]; exact c9, fun h0 j hj => ?_, fun i hi => ?_, fun p hp => ?_, fun j hj => ?_, fun j hj => ?_⟩
  · rw [h.mF] at h0
    rw [h (130 + j) (by unfold tc; omega)]
    exact c10 h0 j hj
  · rw [h.mS] at hi
    rw [h (179 + 2 * i) (by unfold tc; omega), h (179 + 2 * i + 1) (by unfold tc; omega)]
    exact c11 i hi
  · rw [h.mP] at hp
    rw [nbr_eq h w]
    exact c12 p hp
  · rw [h.mI] at hj
    rw [h (199 + j) (by unfold tc; omega)]
    exact c13 j hj
  · rw [h.mH] at hj
    rw [h (239 + j) (by unfold tc; omega)]
    exact c14 j hj
theorem firstIf_eq {m n : Nat → Int32} (h : agT m n) (w : wfT m) (b : Nat → Int32) : firstIf n b = firstIf m b := by
  have h4 := w.I10
  have e : ∀ i, i < mI m → openIf n b i = openIf m b i := fun i hi => by
    unfold openIf
    rw [mN_eq (h (199 + 4 * i) (by unfold tc; omega)), mN_eq (h (199 + 4 * i + 2) (by unfold tc; omega)), h (199 + 4 * i + 1) (by unfold tc; omega)]
  cases hf : firstIf m b with
  | none =>
    refine firstIf_none (fun i hi => ?_)
    rw [h.mI] at hi
    rw [e i hi]
    unfold firstIf at hf
    rw [List.find?_eq_none] at hf
    simpa using hf i (List.mem_range.mpr hi)
  | some i =>
    unfold firstIf at hf
    rw [List.find?_range_eq_some] at hf
    obtain ⟨h1, h2, h3⟩ := hf
    have hi := List.mem_range.mp h2
    refine firstIf_some (by rw [h.mI]; exact hi) (by rw [e i hi]; exact h1) (fun j hj => ?_)
    rw [e j (by omega)]
    simpa using h3 j hj
theorem firstIf_lt {m b : Nat → Int32} {i : Nat} (h : firstIf m b = some i) : i < mI m := by
  unfold firstIf at h
  rw [List.find?_range_eq_some] at h
  exact List.mem_range.mp h.2.1
theorem folN_eq {m n : Nat → Int32} (h : agT m n) (w : wfT m) : ∀ (d : Nat) (b : Nat → Int32), folN n d b = folN m d b := by
  have h4 := w.I10
  intro d
  induction d with
  | zero => intro b; rfl
  | succ d ih =>
    intro b
    unfold folN
    rw [firstIf_eq h w b]
    cases hf : firstIf m b with
    | none => rfl
    | some i =>
      have hi := firstIf_lt hf
      show folN n d _ = folN m d _
      rw [ih, mN_eq (h (199 + 4 * i + 2) (by unfold tc; omega)), h (199 + 4 * i + 3) (by unfold tc; omega)]
theorem heldR_eq {m n : Nat → Int32} (h : agT m n) (w : wfT m) {p : Nat} (hh : ∀ f, f < mF m → n (11 + 16 * p + 2 * f) = m (11 + 16 * p + 2 * f)) : heldR n p = heldR m p := by
  funext f
  unfold heldR
  rw [h.mF]
  by_cases c : f < mF m
  · rw [if_pos c, if_pos c, hh f c]
  · rw [if_neg c, if_neg c]
theorem bel_eq {m n : Nat → Int32} (h : agT m n) (w : wfT m) {p : Nat} (hh : ∀ f, f < mF m → n (11 + 16 * p + 2 * f) = m (11 + 16 * p + 2 * f)) : bel n p = bel m p := by
  unfold bel
  rw [heldR_eq h w hh, folN_eq h w]
/-- cells of the town and of the life -/
theorem agT_low {m n : Nat → Int32} (h : ∀ j, j < 270 → n j = m j) : agT m n := fun j hj => h j (by unfold tc at hj; omega)
theorem wfL_eq {k : Nat} {m n : Nat → Int32} (h : ∀ j, j < 130 → n j = m j) (hP : mP m ≤ 7) (hF : mF m ≤ 8) (l : wfL k m) : wfL k n := by
  obtain ⟨l1, l2, l3, l4⟩ := l
  have e0 : mF n = mF m := mN_eq (h 0 (by omega))
  have e2 : mP n = mP m := mN_eq (h 2 (by omega))
  refine ⟨isN_eq (h 6 (by omega)) rfl l1, isN_eq (h 7 (by omega)) rfl l2, fun h0 => ?_, fun p f hp hf => ?_⟩
  · rw [e0] at h0
    rcases l3 h0 with c | c
    · exact Or.inl (by rw [h 9 (by omega)]; exact c)
    · exact Or.inr (isN_eq (h 9 (by omega)) e2 c)
  · rw [e0] at hf
    rw [e2] at hp
    have := l4 p f hp hf
    exact ⟨by rw [h _ (by omega)]; exact this.1, isN_eq (h _ (by omega)) rfl this.2.1, by rw [h _ (by omega), h _ (by omega)]; exact this.2.2⟩
theorem clL_eq {m n l0 l1 l2 l3 l4 : Nat → Int32} (h : ∀ j, j < 270 → n j = m j) (w : wfT m) (c : clL m l0 l1 l2 l3 l4) : clL n l0 l1 l2 l3 l4 := by
  have hP := w.P7
  have hF := w.F8
  have a := agT_low h
  obtain ⟨c1, c2, c3, c4, c5, c6⟩ := c
  refine ⟨by rw [h 6 (by omega)]; exact c1, by rw [h 7 (by omega)]; exact c2, by rw [a.mF, h 8 (by omega), h 9 (by omega)]; exact c3, fun p hp => ?_, fun p f hp hf => ?_, fun p f hp hf => ?_⟩
  · rw [a.mP, h (123 + p) (by omega)]
    exact c4 p hp
  · rw [a.mP] at hp
    rw [heldR_eq a w (fun f hf => h _ (by omega)), bel_eq a w (fun f hf => h _ (by omega))]
    exact c5 p f hp hf
  · rw [a.mP] at hp
    rw [a.mF] at hf
    rw [h _ (by omega)]
    exact c6 p f hp hf
theorem mx_lo {m r : Nat → Int32} {j : Nat} (h : j < 130) : mx m r j = r j := if_pos h
theorem mx_hi {m r : Nat → Int32} {j : Nat} (h : 130 ≤ j) : mx m r j = m j := if_neg (by omega)
theorem mx_agT {m r : Nat → Int32} (h : sameT m r) : agT m (mx m r) := by
  intro j hj
  unfold tc at hj
  obtain ⟨h0, h1, h2, h3, h4, h5, h10⟩ := h
  by_cases c : j < 130
  · rw [mx_lo c]
    have : j = 0 ∨ j = 1 ∨ j = 2 ∨ j = 3 ∨ j = 4 ∨ j = 5 ∨ j = 10 := by omega
    rcases this with rfl | rfl | rfl | rfl | rfl | rfl | rfl <;> assumption
  · rw [mx_hi (by omega)]
/-- the acts, where what was stated alone has changed -/
theorem pActs_hi {k : Nat} {s s2 : am_S} (w : wfT (s.1 258)) (h : pActs k s) (g : ∀ j, j < 270 → s2.1 258 j = s.1 258 j) (g0 : ∀ a, (a = 260 ∨ a = 32 ∨ (34 ≤ a ∧ a < 134)) → s2.1 a = s.1 a) (g2 : s2.1 248 25 = s.1 248 25) : pActs k s2 := by
  obtain ⟨a, n, ha, hn, h1, h2, h3, h4⟩ := h
  refine ⟨a, n, ha, hn, by rw [g0 32 (by omega)]; exact h1, by rw [g0 32 (by omega)]; exact h2, g2.trans h3, fun i hi => ?_⟩
  obtain ⟨x1, x2, x3⟩ := h4 i hi
  have hb : (a + i) % 20 < 20 := Nat.mod_lt _ (by decide)
  rw [g0 260 (by omega), g0 (34 + 5 * ((a + i) % 20)) (by omega), g0 (35 + 5 * ((a + i) % 20)) (by omega), g0 (36 + 5 * ((a + i) % 20)) (by omega), g0 (37 + 5 * ((a + i) % 20)) (by omega), g0 (38 + 5 * ((a + i) % 20)) (by omega)]
  have wx := wfT_eq (mx_agT x1) w
  have e : ∀ j, j < 270 → mx (s2.1 258) (fun j => s.1 260 (130 * i + j)) j = mx (s.1 258) (fun j => s.1 260 (130 * i + j)) j := fun j hj => by
    by_cases c : j < 130
    · rw [mx_lo c, mx_lo c]
    · rw [mx_hi (by omega), mx_hi (by omega), g j hj]
  refine ⟨?_, wfL_eq (fun j hj => e j (by omega)) wx.P7 wx.F8 x2, clL_eq e wx x3⟩
  obtain ⟨y0, y1, y2, y3, y4, y5, y10⟩ := x1
  exact ⟨by rw [g 0 (by omega)]; exact y0, by rw [g 1 (by omega)]; exact y1, by rw [g 2 (by omega)]; exact y2, by rw [g 3 (by omega)]; exact y3, by rw [g 4 (by omega)]; exact y4, by rw [g 5 (by omega)]; exact y5, by rw [g 10 (by omega)]; exact y10⟩
/-- sums over states -/
theorem lp_sumS {body : Int32 × Int32 × am_S → Option ((Int32 × Int32 × am_S) ⊕ (Int32 × am_S))} (g : Nat → Int32) (n : Nat) (R : am_S → Prop) (hs : ∀ i, i < n → ∀ acc s, R s → ∃ s2, body (acc, nI i, s) = some (.inl (acc + g i, nI (i + 1), s2)) ∧ R s2) (he : ∀ acc s, R s → body (acc, nI n, s) = some (.inr (acc, s))) (hn : n < 4000) (s : am_S) (h : R s) : ∃ s2, am_lp body am_F ((0 : Int32), (0 : Int32), s) = some (sumI g n, s2) ∧ R s2 := by
  have key := am_lp_inv (body := body) (fun x => ∃ i, i ≤ n ∧ x.1 = sumI g i ∧ x.2.1 = nI i ∧ R x.2.2) (fun e => e.1 = sumI g n ∧ R e.2) (fun x => n - x.2.1.toNatClampNeg) (by
    rintro ⟨acc, j, st⟩ ⟨i, h1, h2, h3, h4⟩
    dsimp only at h2 h3 h4
    subst h2
    subst h3
    by_cases c : i < n
    · obtain ⟨s2, g1, g2⟩ := hs i c (sumI g i) st h4
      refine Or.inl ⟨_, g1, ⟨i + 1, by omega, rfl, rfl, g2⟩, ?_⟩
      dsimp only
      rw [cL (by omega), cL (by omega)]
      omega
    · have : i = n := by omega
      subst this
      exact Or.inr ⟨_, he _ _ h4, rfl, h4⟩) am_F (0, 0, s) ⟨0, Nat.zero_le _, rfl, rfl, h⟩ (by
    have e4 : am_F = 4000 := rfl
    dsimp only
    rw [show ((0 : Int32).toNatClampNeg) = 0 from rfl]
    omega)
  obtain ⟨⟨a, s2⟩, k1, k2, k3⟩ := key
  dsimp only at k2 k3
  exact ⟨s2, by rw [k1, k2], k3⟩
theorem sumI_more {g : Nat → Int32} {n : Nat} : ∀ d, (∀ i, n ≤ i → i < n + d → g i = 0) → sumI g (n + d) = sumI g n
  | 0, _ => rfl
  | d + 1, h => by
    have e : sumI g (n + d + 1) = sumI g (n + d) + g (n + d) := rfl
    show sumI g (n + d + 1) = _
    rw [e, sumI_more d (fun i h1 h2 => h i h1 (by omega)), h (n + d) (by omega) (by omega), az]
