/-! days and years drawn -/
def onceM (m : Nat → Int32) : Int32 := sumI (fun p => if m (123 + p) = 1 then 1 else 0) (mP m)
theorem c_liedToOnce {m : Nat → Int32} {s : am_S} {L : Nat} (w : wfT m) (l : lifeAt m s L) (hL : L ∈ am_isL) : f_X2_liedToOnce L s = some (onceM m) := by
  have hP := w.P7
  have e : onceM m = sumI (fun p => if p < mP m then (if m (123 + p) = 1 then 1 else 0) else 0) 7 := by
    have h := sumI_more (g := fun p => if p < mP m then (if m (123 + p) = 1 then (1 : Int32) else 0) else 0) (n := mP m) (7 - mP m) (fun i h1 h2 => if_neg (by omega))
    rw [show mP m + (7 - mP m) = 7 by omega] at h
    rw [h]
    exact sumI_congr _ (fun i hi => (if_pos hi).symm)
  unfold f_X2_liedToOnce
  rw [am_gdt hL, e]
  refine lp_sum _ 7 (fun i hi acc => ?_) (fun acc => ?_) (by decide)
  · dsimp only
    unfold b_X2_liedToOnce_4
    rw [am_iff (nI_ge hi (by decide)), gd_nI hi (by decide), cL (by omega), l.li hi, am_ltd, am_ltd, nI_1, am_ltd, am_ltd]
    by_cases c : i < mP m
    · rw [if_pos c, if_pos c]
      by_cases c2 : m (123 + i) = 1
      · rw [am_ift c2, if_pos c2]
      · rw [am_iff c2, if_neg c2]
    · rw [if_neg c, if_neg c, am_iff (by decide)]
  · dsimp only
    unfold b_X2_liedToOnce_4
    rw [am_ift (by decide)]
theorem lp_bd {σ α : Type} {body : σ → Option (σ ⊕ α)} {F : Nat} {x : σ} {j : Option α} (hF : 0 < F) (h : body x = am_bd j (fun e => some (.inr e))) : am_lp body F x = j := by
  obtain ⟨F', rfl⟩ : ∃ F', F = F' + 1 := ⟨F - 1, by omega⟩
  rw [am_lp, h]
  cases j with
  | none => rfl
  | some e => rfl
theorem hoursT {K : Nat} {s : am_S} {rn : Nat} {ch : Int32} {S F0 : Nat} (hrn : rn ≤ 6) (hR : ∀ r, r < rn → pRule r s) (h5 : s.1 0 5 = nI rn) (hch : ch = -1 ∨ ∃ r, r < rn ∧ ch = nI r) (hS : 0 < S) (hF0 : 0 < F0) : ∀ (n h : Nat) (m : Nat → Int32) (X : Nat), h + n = 12 → mS m = S → mF m = F0 → wfT m → wfL K m → X < 2147483648 → ∃ (d : Int32) (m2 : Nat → Int32) (X2 : Nat), agL m m2 ∧ wfL K m2 ∧ m2 6 = m 6 ∧ liesM m2 = liesM m + d ∧ X2 < 2147483648 ∧
    (∀ x p1 F, rdT s ch m x → x.1 0 15 = nI X → n < F → ∃ x2, am_lp (fun (q : Int32 × am_S) => b_X11_tryDay_55 p1 (nI 12) (nI S) (nI F0) q.1 q.2) F (nI h, x) = j_X11_tryDay_220 p1 x2 ∧ lifeAt m2 x2 137 ∧ frT x x2 ∧ x2.1 0 15 = nI X2) ∧
    (∀ y acc F, rdM s ch m y → y.2.1 248 27 = lN X → n < F → ∃ y2, am_lp (fun (q : Int32 × Int32 × am_S) => b_X12_drawsDay_8 q.1 q.2.1 q.2.2) F (acc, nI h, y) = some (acc + d, y2) ∧ y2.1 258 = m2 ∧ frM y y2 ∧ y2.2.1 248 27 = lN X2) := by
  intro n
  induction n with
  | zero =>
    intro h m X hn eS eF w lk hX
    refine ⟨0, m, X, agL.rf m, lk, rfl, (az _).symm, hX, fun x p1 F hx h0 hF => ⟨x, lp_bd (by omega) ?_, hx.2.2.2, frT.rf x, h0⟩, fun y acc F hy h0 hF => ⟨y, ?_, hy.2.1, frM.rf y, h0⟩⟩
    · dsimp only
      unfold b_X11_tryDay_55
      rw [am_ift (nI_le (by omega) (by omega))]
    · obtain ⟨F', rfl⟩ : ∃ F', F = F' + 1 := ⟨F - 1, by omega⟩
      refine am_lp_inr ?_
      dsimp only
      unfold b_X12_drawsDay_8
      rw [am_ift (nI_le (by omega) (by omega)), az]
  | succ n ih =>
    intro h m X hn eS eF w lk hX
    obtain ⟨d1, m1, X1, b1, b2, b3, b4, b5, b6, b7⟩ := hourT (X := X) (h := h) hrn hR h5 hch w lk (by omega) (by omega) hX (by omega)
    rw [eS, eF] at b6
    obtain ⟨d, m2, X2, a1, a2, a3, a4, a5, a6, a7⟩ := ih (h + 1) m1 X1 (by omega) (by rw [b1.t.mS]; exact eS) (by rw [b1.t.mF]; exact eF) (wfT_eq b1.t w) b2 b5
    refine ⟨d1 + d, m2, X2, b1.tr a1, a2, a3.trans b3, by rw [a4, b4, Int32.add_assoc], a5, fun x p1 F hx h0 hF => ?_, fun y acc F hy h0 hF => ?_⟩
    · obtain ⟨F', rfl⟩ : ∃ F', F = F' + 1 := ⟨F - 1, by omega⟩
      obtain ⟨x2, k1, k2, k3, k4⟩ := b6 x p1 hx h0
      obtain ⟨x3, l1, l2, l3, l4⟩ := a6 x2 p1 F' (rdT_next w hx k3 b1 k2) k4 (by omega)
      exact ⟨x3, by rw [am_lp_inl (s2 := (nI (h + 1), x2)) k1]; exact l1, l2, k3.tr l3, l4⟩
    · obtain ⟨F', rfl⟩ : ∃ F', F = F' + 1 := ⟨F - 1, by omega⟩
      obtain ⟨y2, k1, k2, k3, k4⟩ := b7 y acc hy h0
      obtain ⟨y3, l1, l2, l3, l4⟩ := a7 y2 (acc + d1) F' (rdM_next hy k3 k2) k4 (by omega)
      exact ⟨y3, by rw [am_lp_inl (s2 := (acc + d1, nI (h + 1), y2)) k1, l1, Int32.add_assoc], l2, k3.tr l3, l4⟩
def dayV (p1 l o : Int32) : Int32 := if p1 = 0 then l else if p1 = 1 then o else 0
theorem liesM_day {m : Nat → Int32} (w : wfT m) : liesM (dayM m) = 0 := by
  have ag := dayM_ag w
  unfold liesM
  rw [ag.t.mP]
  have key : ∀ n, n ≤ mP m → sumI (fun p => dayM m (123 + p)) n = 0 := by
    intro n
    induction n with
    | zero => intro _; rfl
    | succ n ih =>
      intro hn
      rw [sumI, ih (by omega), (dayM_in w (by omega : n < mP m)).1]
      rfl
  exact key _ (Nat.le_refl _)
theorem dayT {K : Nat} {m : Nat → Int32} {s : am_S} {rn : Nat} {ch : Int32} {X : Nat} (hrn : rn ≤ 6) (hR : ∀ r, r < rn → pRule r s) (h5 : s.1 0 5 = nI rn) (hch : ch = -1 ∨ ∃ r, r < rn ∧ ch = nI r) (w : wfT m) (lk : wfL K m) (hF0 : 0 < mF m) (hX : X < 2147483648) (hd : mN m 6 < 9000) (hK : mN m 6 + 1 < 4 * K + 1) : ∃ (m2 : Nat → Int32) (X2 : Nat), agL m m2 ∧ wfL K m2 ∧ mN m2 6 = mN m 6 + 1 ∧ X2 < 2147483648 ∧
    (∀ x p1, rdT s ch m x → x.1 0 15 = nI X → ∃ x2, f_X11_tryDay p1 x = some (dayV p1 (liesM m2) (onceM m2), x2) ∧ lifeAt m2 x2 137 ∧ frT x x2 ∧ x2.1 0 15 = nI X2) ∧
    (∀ y, rdM s ch m y → y.2.1 248 27 = lN X → ∃ y2, f_X12_drawsDay y = some (liesM m2, y2) ∧ y2.1 258 = m2 ∧ frM y y2 ∧ y2.2.1 248 27 = lN X2) := by
  have hS10 := w.S10
  have hF8 := w.F8
  have e4 : am_F = 4000 := rfl
  have agd := dayM_ag w
  have wd := wfT_eq agd.t w
  have lkd : wfL K (dayM m) := wfL_day w lk hK hd
  have d6 := day6 w lk hd
  have begC : ∀ x, rdT s ch m x → x.1 0 15 = nI X → ∃ x1, f_X2_beginDay 137 x = some x1 ∧ rdT s ch (dayM m) x1 ∧ frT x x1 ∧ x1.1 0 15 = nI X := fun x hx h0 => by
    obtain ⟨x1, b1, b2, b3, b4⟩ := c_beginDay w lk hd hx.2.2.1 (show 137 ∈ am_isL by decide) hx.2.2.2
    have f : frT x x1 := ⟨fun c c1 c2 c3 => b3 c (by omega), fun q hq => by rw [b3 0 (by omega)], by rw [b4], Or.inr (by rw [b4])⟩
    exact ⟨x1, b1, rdT_next w hx f agd b2, f, by rw [b3 0 (by omega)]; exact h0⟩
  have endC : ∀ (m2 : Nat → Int32) (x2 : am_S) (p1 : Int32), wfT m2 → lifeAt m2 x2 137 → j_X11_tryDay_220 p1 x2 = some (dayV p1 (liesM m2) (onceM m2), x2) := fun m2 x2 p1 w2 l2 => by
    unfold j_X11_tryDay_220 dayV
    rw [c_liesOfDay w2 l2 (show 137 ∈ am_isL by decide), am_bds, c_liedToOnce w2 l2 (show 137 ∈ am_isL by decide), am_bds]
    by_cases c0 : p1 = 0
    · rw [am_ift c0, if_pos c0]
    · rw [am_iff c0, if_neg c0]
      by_cases c1 : p1 = 1
      · rw [am_ift c1, if_pos c1]
      · rw [am_iff c1, if_neg c1]
  have begM : ∀ y, rdM s ch m y → f_X12_dayComes y = some (as_w y 258 (dayM m)) ∧ rdM s ch (dayM m) (as_w y 258 (dayM m)) ∧ frM y (as_w y 258 (dayM m)) := fun y hy => by
    have f : frM y (as_w y 258 (dayM m)) := ⟨fun a a1 a2 a3 => as_w1 a2, fun q hq => by rw [as_w1 (by decide)], rfl⟩
    exact ⟨m_dayComes hy.2.1 w, rdM_next hy f as_w3, f⟩
  rcases Nat.eq_zero_or_pos (mS m) with hS | hS
  · refine ⟨dayM m, X, agd, lkd, d6, hX, fun x p1 hx h0 => ?_, fun y hy h0 => ?_⟩
    · obtain ⟨x1, b1, b2, b3, b4⟩ := begC x hx h0
      refine ⟨x1, ?_, b2.2.2.2, b3, b4⟩
      have e6 : x1.1 16 6 = nI 0 := by rw [b2.2.2.1.S wd, agd.t.mS, hS]
      unfold f_X11_tryDay j_X11_tryDay_50
      rw [b1, am_bds, e6, am_ltd, am_ltd, am_ift (by decide), ← endC _ x1 p1 wd b2.2.2.2]
      refine lp_bd (by omega) ?_
      dsimp only
      unfold b_X11_tryDay_55
      rw [am_ift (by decide)]
    · obtain ⟨c1, c2, c3⟩ := begM y hy
      refine ⟨as_w y 258 (dayM m), ?_, as_w3, c3, by rw [as_w4]; exact h0⟩
      have e3 : (as_w y 258 (dayM m)).1 258 3 = nI 0 := by rw [as_w3, wd.S1, agd.t.mS, hS]
      unfold f_X12_drawsDay
      rw [c1, am_bds, liesM_day w]
      refine am_lp_inr (n := 3999) ?_
      dsimp only
      unfold b_X12_drawsDay_8
      rw [am_iff (by decide), e3, am_ift (by decide)]
  · obtain ⟨d, m2, X2, a1, a2, a3, a4, a5, a6, a7⟩ := hoursT (K := K) (S := mS m) (F0 := mF m) hrn hR h5 hch hS hF0 12 0 (dayM m) X (by omega) agd.t.mS agd.t.mF wd lkd hX
    rw [liesM_day w] at a4
    refine ⟨m2, X2, agd.tr a1, a2, by rw [mN_eq a3]; exact d6, a5, fun x p1 hx h0 => ?_, fun y hy h0 => ?_⟩
    · obtain ⟨x1, b1, b2, b3, b4⟩ := begC x hx h0
      obtain ⟨x2, k1, k2, k3, k4⟩ := a6 x1 p1 am_F b2 b4 (by omega)
      refine ⟨x2, ?_, k2, b3.tr k3, k4⟩
      have e6 : x1.1 16 6 = nI (mS m) := by rw [b2.2.2.1.S wd, agd.t.mS]
      have e1 : x1.1 16 1 = nI (mF m) := by rw [b2.2.2.1.F wd, agd.t.mF]
      unfold f_X11_tryDay j_X11_tryDay_50
      rw [b1, am_bds, e6, e1, am_ltd, am_ltd, am_iff (nI_nle hS (by omega)), am_iff (nI_nle hF0 (by omega)), ← endC _ x2 p1 (wfT_eq (agd.tr a1).t w) k2]
      exact k1
    · obtain ⟨c1, c2, c3⟩ := begM y hy
      obtain ⟨y2, k1, k2, k3, k4⟩ := a7 (as_w y 258 (dayM m)) 0 am_F c2 (by rw [as_w4]; exact h0) (by omega)
      refine ⟨y2, ?_, k2, c3.tr k3, k4⟩
      unfold f_X12_drawsDay
      rw [c1, am_bds, a4]
      exact k1
theorem m_once {m : Nat → Int32} {y : am_S} {v59 v69 o : Int32} (hm : y.1 258 = m) (w : wfT m) : am_lp (fun (q : Int32 × Int32) => b_X12_years_124 y v59 v69 q.1 q.2) am_F (o, (0 : Int32)) = some (.inl (v69, o + onceM m, v59 + 1, y)) := by
  have hP := w.P7
  have e4 : am_F = 4000 := rfl
  have e0 : ((o, (0 : Int32)) : Int32 × Int32) = (o + sumI (fun p => if m (123 + p) = 1 then 1 else 0) 0, nI 0) := by
    show (o, (0 : Int32)) = (o + 0, nI 0)
    rw [az]
    rfl
  rw [e0]
  refine am_lp_run (F := am_F) (fun i => (o + sumI (fun p => if m (123 + p) = 1 then 1 else 0) i, nI i)) (mP m) (fun i hi => ?_) ?_ (by omega)
  · dsimp only
    unfold b_X12_years_124
    rw [hm, w.P1, am_iff (nI_ge hi (by omega)), nI_add, am_ltd, gd_nI (by omega) (by decide), cL (by omega), am_ltd, am_ltd, nI_1, am_ltd, am_ltd, sumI, ← Int32.add_assoc]
    by_cases c2 : m (123 + i) = 1
    · rw [am_ift c2, if_pos c2]
    · rw [am_iff c2, if_neg c2]
  · dsimp only
    unfold b_X12_years_124 j_X12_years_165
    rw [hm, w.P1, am_ift (nI_le (Nat.le_refl _) (by omega)), am_ltd, am_bds]
    rfl
theorem dayV_add (p1 l o l2 o2 : Int32) : dayV p1 l o + dayV p1 l2 o2 = dayV p1 (l + l2) (o + o2) := by
  unfold dayV
  by_cases c0 : p1 = 0
  · rw [if_pos c0, if_pos c0, if_pos c0]
  · rw [if_neg c0, if_neg c0, if_neg c0]
    by_cases c1 : p1 = 1
    · rw [if_pos c1, if_pos c1, if_pos c1]
    · rw [if_neg c1, if_neg c1, if_neg c1]
      rfl
theorem dayV_0 (p1 : Int32) : dayV p1 0 0 = 0 := by
  unfold dayV
  split
  · rfl
  · split <;> rfl
theorem daysT {K : Nat} {s : am_S} {rn : Nat} {ch : Int32} {N F0 : Nat} (hrn : rn ≤ 6) (hR : ∀ r, r < rn → pRule r s) (h5 : s.1 0 5 = nI rn) (hch : ch = -1 ∨ ∃ r, r < rn ∧ ch = nI r) (hN : N ≤ 20) (hF0 : 0 < F0) (hK : 4 * K < 8000) : ∀ (n dd : Nat) (m : Nat → Int32) (X : Nat), dd + n = N → mF m = F0 → wfT m → wfL K m → X < 2147483648 → mN m 6 + n < 4 * K + 1 → ∃ (l o : Int32) (m2 : Nat → Int32) (X2 : Nat), agL m m2 ∧ wfL K m2 ∧ X2 < 2147483648 ∧
    (∀ x acc p3 v9 F, rdT s ch m x → x.1 0 15 = nI X → n < F → ∃ x2, am_lp (fun (q : Int32 × Int32 × am_S) => b_X11_years_98 (nI N) p3 v9 q.1 q.2.1 q.2.2) F (acc, nI dd, x) = j_X11_years_120 p3 (acc + dayV p3 l o) v9 x2 ∧ lifeAt m2 x2 137 ∧ frT x x2 ∧ x2.1 0 15 = nI X2) ∧
    (∀ y la oa v17 v18 F, rdM s ch m y → y.2.1 248 27 = lN X → n < F → ∃ y2, am_lp (fun (q : Int32 × Int32 × Int32 × am_S) => b_X12_years_106 (nI N) v17 v18 q.1 q.2.1 q.2.2.1 q.2.2.2) F (la, oa, nI dd, y) = j_X12_years_171 (la + l) (oa + o) v17 v18 y2 ∧ y2.1 258 = m2 ∧ frM y y2 ∧ y2.2.1 248 27 = lN X2) := by
  intro n
  induction n with
  | zero =>
    intro dd m X hn eF w lk hX hb
    refine ⟨0, 0, m, X, agL.rf m, lk, hX, fun x acc p3 v9 F hx h0 hF => ⟨x, lp_bd (by omega) ?_, hx.2.2.2, frT.rf x, h0⟩, fun y la oa v17 v18 F hy h0 hF => ⟨y, lp_bd (by omega) ?_, hy.2.1, frM.rf y, h0⟩⟩
    · dsimp only
      unfold b_X11_years_98
      rw [am_ift (nI_le (by omega) (by omega)), dayV_0, az]
    · dsimp only
      unfold b_X12_years_106
      rw [am_ift (nI_le (by omega) (by omega)), az, az]
  | succ n ih =>
    intro dd m X hn eF w lk hX hb
    obtain ⟨m1, X1, b1, b2, b3, b4, b5, b6⟩ := dayT (X := X) hrn hR h5 hch w lk (by omega) hX (by omega) (by omega)
    have w1 := wfT_eq b1.t w
    obtain ⟨l, o, m2, X2, a1, a2, a3, a4, a5⟩ := ih (dd + 1) m1 X1 (by omega) (by rw [b1.t.mF]; exact eF) w1 b2 b4 (by omega)
    refine ⟨liesM m1 + l, onceM m1 + o, m2, X2, b1.tr a1, a2, a3, fun x acc p3 v9 F hx h0 hF => ?_, fun y la oa v17 v18 F hy h0 hF => ?_⟩
    · obtain ⟨F', rfl⟩ : ∃ F', F = F' + 1 := ⟨F - 1, by omega⟩
      obtain ⟨x2, k1, k2, k3, k4⟩ := b5 x p3 hx h0
      obtain ⟨x3, l1, l2, l3, l4⟩ := a4 x2 (acc + dayV p3 (liesM m1) (onceM m1)) p3 v9 F' (rdT_next w hx k3 b1 k2) k4 (by omega)
      refine ⟨x3, ?_, l2, k3.tr l3, l4⟩
      rw [am_lp_inl (s2 := (acc + dayV p3 (liesM m1) (onceM m1), nI (dd + 1), x2))]
      · rw [l1, Int32.add_assoc, dayV_add]
      · dsimp only
        unfold b_X11_years_98
        rw [am_iff (nI_ge (by omega) (by omega)), k1, am_b2s, am_ltd, am_ltd, nI_1]
    · obtain ⟨F', rfl⟩ : ∃ F', F = F' + 1 := ⟨F - 1, by omega⟩
      obtain ⟨y2, k1, k2, k3, k4⟩ := b6 y hy h0
      obtain ⟨y3, l1, l2, l3, l4⟩ := a5 y2 (la + liesM m1) (oa + onceM m1) v17 v18 F' (rdM_next hy k3 k2) k4 (by omega)
      refine ⟨y3, ?_, l2, k3.tr l3, l4⟩
      rw [am_lp_inl (s2 := (la + liesM m1, oa + onceM m1, nI (dd + 1), y2))]
      · rw [l1, Int32.add_assoc, Int32.add_assoc]
      · dsimp only
        unfold b_X12_years_106
        rw [am_iff (nI_ge (by omega) (by omega)), k1, am_b2s, am_ltd, m_once k2 w1, nI_1]
/-- the end of a year, in the reference: harm, then all as it was -/
theorem m_yearEnd {m m0 : Nat → Int32} {y : am_S} {la oa ha : Int32} {yr : Nat} (hm : y.1 258 = m) (w : wfT m) (ag : agL m0 m) (hk : ∀ j, j < 130 → y.1 261 j = m0 j) : ∃ y2, j_X12_years_171 la oa ha (nI yr) y = some (.inl (la, oa, ha + harmM m, nI (yr + 1), y2)) ∧ y2.1 258 = m0 ∧ frM y y2 ∧ y2.2.1 = y.2.1 := by
  have hP := w.P7
  have e4 : am_F = 4000 := rfl
  have rest : ∀ (x : am_S) (h2 : Int32), x.1 258 = m → (∀ c, c ≠ 259 → x.1 c = y.1 c) → x.2 = y.2 → j_X12_years_202 la oa h2 (nI yr) x = some (.inl (la, oa, h2, nI (yr + 1), as_w x 258 m0)) := by
    intro x h2 x1 x2 x3
    have em : cpv (x.1 258) 0 130 (fun j => y.1 261 j) = m0 := by
      funext j
      by_cases c : j < 130
      · rw [cpv_in (by omega) (by omega), Nat.sub_zero, hk j c]
      · rw [cpv_out (by omega), x1, ag j (by omega)]
    unfold j_X12_years_202
    rw [← em]
    refine lp_copyR 258 130 0 (fun j => y.1 261 j) x (fun j hj g => ?_) ?_ (by decide)
    · dsimp only
      unfold b_X12_years_205
      rw [am_iff (nI_ge hj (by decide)), gd_nI hj (by decide), gd_nI (by omega) (by decide), cL (by omega), am_ltd, am_ltd, nI_1, as_w1 (by decide : (261 : Nat) ≠ 258), x2 261 (by decide), Nat.zero_add]
    · dsimp only
      unfold b_X12_years_205 j_X12_years_233
      rw [am_ift (by decide), am_ltd, am_bds, nI_1]
  have main : ∀ d i x acc F, i + d = mP m → d < F → x.1 258 = m → (∀ c, c ≠ 259 → x.1 c = y.1 c) → x.2 = y.2 → acc = ha + sumI (fun p => harmB m (bel m p)) i → ∃ x2, am_lp (fun (q : Int32 × Int32 × am_S) => b_X12_years_174 la oa (nI yr) q.1 q.2.1 q.2.2) F (acc, nI i, x) = some (.inl (la, oa, ha + harmM m, nI (yr + 1), as_w x2 258 m0)) ∧ (∀ c, c ≠ 259 → x2.1 c = y.1 c) ∧ x2.2 = y.2 := by
    intro d
    induction d with
    | zero =>
      intro i x acc F hi hF x1 x2 x3 ha2
      have hi : i = mP m := by omega
      subst hi
      subst ha2
      refine ⟨x, ?_, x2, x3⟩
      have r := rest x (ha + sumI (fun p => harmB m (bel m p)) (mP m)) x1 x2 x3
      rw [lp_bd (j := j_X12_years_202 la oa (ha + sumI (fun p => harmB m (bel m p)) (mP m)) (nI yr) x) (by omega) (by
        dsimp only
        unfold b_X12_years_174
        rw [x1, w.P1, am_ift (nI_le (Nat.le_refl _) (by omega))]), r]
      rfl
    | succ d ih =>
      intro i x acc F hi hF x1 x2 x3 ha2
      obtain ⟨F', rfl⟩ : ∃ F', F = F' + 1 := ⟨F - 1, by omega⟩
      obtain ⟨B, hB⟩ := m_harmOf x1 w (p := i) (by omega)
      obtain ⟨z, k1, k2⟩ := ih (i + 1) (as_w x 259 B) (acc + harmB m (bel m i)) F' (by omega) (by omega) (by rw [as_w1 (by decide)]; exact x1) (fun c hc => (as_w1 hc).trans (x2 c hc)) x3 (by rw [ha2, sumI, Int32.add_assoc])
      refine ⟨z, ?_, k2⟩
      rw [am_lp_inl (s2 := (acc + harmB m (bel m i), nI (i + 1), as_w x 259 B))]
      · exact k1
      · dsimp only
        unfold b_X12_years_174
        rw [x1, w.P1, am_iff (nI_ge (by omega) (by omega)), hB, am_b2s, am_ltd, am_ltd, nI_1]
  obtain ⟨x2, g1, g2, g3⟩ := main (mP m) 0 y ha am_F (by omega) (by omega) hm (fun _ _ => rfl) rfl (az _).symm
  refine ⟨as_w x2 258 m0, ?_, as_w3, ⟨fun a a1 a2 a3 => by rw [as_w1 a2, g2 a a3], fun q hq => by rw [as_w1 (by decide), g2 248 (by decide)], by rw [as_w4, g3]⟩, by rw [as_w4, g3]⟩
  unfold j_X12_years_171
  exact g1
def yrV (p3 l o h : Int32) : Int32 := if p3 = 0 then l else if p3 = 1 then o else h
/-- the class, ready for a year -/
def rdY (s : am_S) (ch : Int32) (m : Nat → Int32) (x : am_S) : Prop := ruS s x ∧ x.1 15 2 = ch ∧ townAt m x ∧ lifeAt m x 24
theorem yearsT {K : Nat} {s : am_S} {rn : Nat} {ch : Int32} {M N : Nat} {m : Nat → Int32} (hrn : rn ≤ 6) (hR : ∀ r, r < rn → pRule r s) (h5 : s.1 0 5 = nI rn) (hch : ch = -1 ∨ ∃ r, r < rn ∧ ch = nI r) (hM : M ≤ 10) (hN : N ≤ 20) (w : wfT m) (lk : wfL K m) (hF0 : 0 < mF m) (hK : 4 * K < 8000) (hb : mN m 6 + N < 4 * K + 1) {p3 : Int32} (hp3 : p3 = 0 ∨ p3 = 1 ∨ p3 = nI 2) : ∀ (n yr X : Nat), yr + n = M → X < 2147483648 → ∃ (l o h : Int32) (X2 : Nat), X2 < 2147483648 ∧
    (∀ x acc F, rdY s ch m x → x.1 0 15 = nI X → n < F → ∃ x2, am_lp (fun (q : Int32 × Int32 × am_S) => b_X11_years_75 (nI M) (nI N) p3 q.1 q.2.1 q.2.2) F (acc, nI yr, x) = some (acc + yrV p3 l o h, x2) ∧ frT x x2) ∧
    (∀ y la oa ha F, rdM s ch m y → (∀ j, j < 130 → y.1 261 j = m j) → y.2.1 248 27 = lN X → n < F → ∃ y2, am_lp (fun (q : Int32 × Int32 × Int32 × Int32 × am_S) => b_X12_years_97 (nI M) (nI N) p3 q.1 q.2.1 q.2.2.1 q.2.2.2.1 q.2.2.2.2) F (la, oa, ha, nI yr, y) = some (yrV p3 (la + l) (oa + o) (ha + h), y2) ∧ y2.1 258 = m ∧ frM y y2) := by
  have e4 : am_F = 4000 := rfl
  intro n
  induction n with
  | zero =>
    intro yr X hn hX
    refine ⟨0, 0, 0, X, hX, fun x acc F hx h0 hF => ⟨x, ?_, frT.rf x⟩, fun y la oa ha F hy hk h0 hF => ⟨y, ?_, hy.2.1, frM.rf y⟩⟩
    · obtain ⟨F', rfl⟩ : ∃ F', F = F' + 1 := ⟨F - 1, by omega⟩
      refine am_lp_inr ?_
      dsimp only
      unfold b_X11_years_75
      have : yrV p3 0 0 0 = 0 := by
        unfold yrV
        split
        · rfl
        · split <;> rfl
      rw [am_ift (nI_le (by omega) (by omega)), this, az]
    · rw [lp_bd (j := j_X12_years_239 p3 la oa ha y) (by omega) (by
        dsimp only
        unfold b_X12_years_97
        rw [am_ift (nI_le (by omega) (by omega))]), az, az, az]
      unfold j_X12_years_239 yrV
      rcases hp3 with rfl | rfl | rfl
      · rw [am_ift rfl, if_pos rfl]
      · rw [am_iff (by decide), am_ift rfl, if_neg (by decide), if_pos rfl]
      · rw [am_iff (by decide), am_iff (by decide), if_neg (by decide), if_neg (by decide)]
  | succ n ih =>
    intro yr X hn hX
    obtain ⟨l1, o1, m1, X1, b1, b2, b3, b4, b5⟩ := daysT (K := K) (N := N) (F0 := mF m) hrn hR h5 hch hN hF0 hK N 0 m X (by omega) rfl w lk hX hb
    have w1 := wfT_eq b1.t w
    obtain ⟨l, o, h, X2, a1, a2, a3⟩ := ih (yr + 1) X1 (by omega) b3
    refine ⟨l1 + l, o1 + o, harmM m1 + h, X2, a1, fun x acc F hx h0 hF => ?_, fun y la oa ha F hy hk h0 hF => ?_⟩
    · obtain ⟨F', rfl⟩ : ∃ F', F = F' + 1 := ⟨F - 1, by omega⟩
      obtain ⟨x1, c1, c2, c3, c4⟩ := c_copyLife (show 137 ∈ am_isL by decide) (show 24 ∈ am_isL by decide) (by decide) w hx.2.2.2
      have f1 : frT x x1 := ⟨fun c d1 d2 d3 => c3 c (by omega), fun q hq => by rw [c3 0 (by omega)], by rw [c4], Or.inr (by rw [c4])⟩
      have r1 : rdT s ch m x1 := ⟨⟨fun c d1 d2 => by rw [c3 c (by omega)]; exact hx.1.1 c d1 d2, by rw [c3 0 (by omega)]; exact hx.1.2⟩, by rw [c3 15 (by omega)]; exact hx.2.1, townAt_of hx.2.2.1 (fun c d1 d2 => c3 c (by omega)), c2⟩
      obtain ⟨x2, k1, k2, k3, k4⟩ := b4 x1 acc p3 (nI yr) am_F r1 (by rw [c3 0 (by omega)]; exact h0) (by omega)
      have f2 := f1.tr k3
      have t2 : townAt m1 x2 := clT_eq b1.t w (townAt_of hx.2.2.1 (fun c d1 d2 => f2.1 c (by omega) (by omega) (by omega)))
      have e120 : j_X11_years_120 p3 (acc + dayV p3 l1 o1) (nI yr) x2 = some (.inl (acc + yrV p3 l1 o1 (harmM m1), nI (yr + 1), x2)) := by
        unfold j_X11_years_120 dayV yrV
        rw [c_harmOfAll w1 t2 k2 (show 137 ∈ am_isL by decide), am_bds, am_ltd, am_ltd, nI_1, am_ltd, am_ltd]
        rcases hp3 with rfl | rfl | rfl
        · rw [am_iff (by decide), if_pos rfl, if_pos rfl, az]
        · rw [am_iff (by decide), if_neg (by decide), if_pos rfl, if_neg (by decide), if_pos rfl, az]
        · rw [am_ift rfl, if_neg (by decide), if_neg (by decide), if_neg (by decide), if_neg (by decide), az]
      have ry : rdY s ch m x2 := ⟨⟨fun c d1 d2 => by rw [f2.1 c (by omega) (by omega) (by omega)]; exact hx.1.1 c d1 d2, by rw [f2.2.1 5 (by decide)]; exact hx.1.2⟩, by rw [f2.1 15 (by omega) (by omega) (by omega)]; exact hx.2.1, townAt_of hx.2.2.1 (fun c d1 d2 => f2.1 c (by omega) (by omega) (by omega)), lifeAt_of hx.2.2.2 (fun c d1 d2 => f2.1 c (by omega) (by omega) (by omega))⟩
      obtain ⟨x3, g1, g2⟩ := a2 x2 (acc + yrV p3 l1 o1 (harmM m1)) F' ry k4 (by omega)
      refine ⟨x3, ?_, f2.tr g2⟩
      rw [am_lp_inl (s2 := (acc + yrV p3 l1 o1 (harmM m1), nI (yr + 1), x2))]
      · rw [g1, Int32.add_assoc]
        congr 2
        unfold yrV
        split
        · rfl
        · split <;> rfl
      · dsimp only
        unfold b_X11_years_75
        rw [am_iff (nI_ge (by omega) (by omega)), c1, am_bds]
        exact k1.trans e120
    · obtain ⟨F', rfl⟩ : ∃ F', F = F' + 1 := ⟨F - 1, by omega⟩
      obtain ⟨y1, k1, k2, k3, k4⟩ := b5 y la oa ha (nI yr) am_F hy h0 (by omega)
      obtain ⟨y2, d1, d2, d3, d4⟩ := m_yearEnd (la := la + l1) (oa := oa + o1) (ha := ha) (yr := yr) k2 w1 b1 (fun j hj => by rw [k3.1 261 (by decide) (by decide) (by decide)]; exact hk j hj)
      have f2 := k3.tr d3
      obtain ⟨y3, g1, g2, g3⟩ := a3 y2 (la + l1) (oa + o1) (ha + harmM m1) F' (rdM_next hy f2 d2) (fun j hj => by rw [f2.1 261 (by decide) (by decide) (by decide)]; exact hk j hj) (by rw [d4]; exact k4) (by omega)
      refine ⟨y3, ?_, g2, f2.tr g3⟩
      rw [am_lp_inl (s2 := (la + l1, oa + o1, ha + harmM m1, nI (yr + 1), y2))]
      · rw [g1, Int32.add_assoc, Int32.add_assoc, Int32.add_assoc]
      · dsimp only
        unfold b_X12_years_97
        rw [am_iff (nI_ge (by omega) (by omega))]
        exact k1.trans d1
