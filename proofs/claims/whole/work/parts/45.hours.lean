/-! an hour by a rule, in both -/
def frP (x y : am_S) : Prop := (∀ c, c ≠ 134 → y.1 c = x.1 c) ∧ y.2.2.2 = x.2.2.2 ∧ (y.2.2.1 = 24 ∨ y.2.2.1 = x.2.2.1)
theorem frP.rf (x : am_S) : frP x x := ⟨fun _ _ => rfl, rfl, Or.inr rfl⟩
theorem frP.tr {x y z : am_S} (h : frP x y) (g : frP y z) : frP x z := ⟨fun c hc => (g.1 c hc).trans (h.1 c hc), g.2.1.trans h.2.1, by
  rcases g.2.2 with e | e
  · exact Or.inl e
  · rw [e]; exact h.2.2⟩
theorem frP.c {x y : am_S} (h : frP x y) : frC x y := ⟨fun c _ hc => h.1 c hc, h.2.1, h.2.2⟩
def frQ (x y : am_S) : Prop := (∀ c, c ≠ 248 → c ≠ 259 → y.1 c = x.1 c) ∧ (∀ q, q ≠ 18 → y.1 248 q = x.1 248 q) ∧ y.2.2 = x.2.2
theorem frQ.rf (x : am_S) : frQ x x := ⟨fun _ _ _ => rfl, fun _ _ => rfl, rfl⟩
theorem frQ.tr {x y z : am_S} (h : frQ x y) (g : frQ y z) : frQ x z := ⟨fun c c1 c2 => (g.1 c c1 c2).trans (h.1 c c1 c2), fun q hq => (g.2.1 q hq).trans (h.2.1 q hq), g.2.2.trans h.2.2⟩
theorem frQ.m {x y : am_S} (h : frQ x y) : frM x y := ⟨fun a a1 _ a3 => h.1 a a1 a3, h.2.1, h.2.2⟩
def okK (m : Nat → Int32) (t k : Nat) : Bool := hasSt m t (k / 16) && decide (k / 2 % 8 < mF m)
def scK (m : Nat → Int32) (t n : Nat) (D V K b1 b2 b3 : Nat → Nat) (k : Nat) : Int64 := scoV (wv m t (k / 16) (k / 2 % 8) (nI (k % 2)) 0) n D V K b1 b2 b3
theorem and1 {n : Nat} (h : n < 2 ^ 31) : nI n &&& 1 = nI (n % 2) := pk_andN (by omega) 1 (by decide)
theorem sh1 {n : Nat} (h : n < 2 ^ 31) : nI n >>> ((1 : Int32) &&& 31) = nI (n / 2) := sh_r h (q := 1) (by decide)
section CH
variable {s : am_S} {m : Nat → Int32} {ch : Int32} {r n sz t : Nat} {D V K b1 b2 b3 : Nat → Nat}
theorem rdC_P {x y : am_S} (w : wfT m) (h : rdC s ch m x) (g : frP x y) : rdC s ch m y := rdC_next w h g.c (agL.rf m) (lifeAt_of h.2.2.2 (fun c c1 c2 => g.1 c (by omega)))
theorem c_choose1 (hr : r < 6) (hT : ruleT n sz D V K b1 b2 b3) (hX : ruleX n sz D V K b1 b2 b3 (s.1 (144 + 7 * r)) (s.1 (145 + 7 * r)) (s.1 (146 + 7 * r)) (s.1 (147 + 7 * r)) (s.1 (148 + 7 * r)) (s.1 (149 + 7 * r)) (s.1 (150 + 7 * r))) (w : wfT m) (ht : t < mP m) {x : am_S} (hx : rdC s ch m x) {h C : Nat} (hh : h < mP m) (hC : C ≤ 2 * mF m) (hok : ∀ c, c < C → okK m t (16 * h + c) = true) (hno : ∀ c, C ≤ c → c < 16 → okK m t (16 * h + c) = false) : ∃ x2, j_X11_chooseSaying_61 (144 + 7 * r) (nI t) (nI C) (bst (okK m t) (scK m t n D V K b1 b2 b3) (16 * h)).2 (bsC (bst (okK m t) (scK m t n D V K b1 b2 b3) (16 * h)).1).1 (bsC (bst (okK m t) (scK m t n D V K b1 b2 b3) (16 * h)).1).2.1 (bsC (bst (okK m t) (scK m t n D V K b1 b2 b3) (16 * h)).1).2.2 (nI h) x = some (.inl ((bst (okK m t) (scK m t n D V K b1 b2 b3) (16 * (h + 1))).2, (bsC (bst (okK m t) (scK m t n D V K b1 b2 b3) (16 * (h + 1))).1).1, (bsC (bst (okK m t) (scK m t n D V K b1 b2 b3) (16 * (h + 1))).1).2.1, (bsC (bst (okK m t) (scK m t n D V K b1 b2 b3) (16 * (h + 1))).1).2.2, nI (h + 1), x2)) ∧ frP x x2 := by
  have hP := w.P7
  have hF := w.F8
  have e4 : am_F = 4000 := rfl
  generalize hB : bst (okK m t) (scK m t n D V K b1 b2 b3) = B
  have eB : B (16 * (h + 1)) = B (16 * h + C) := by
    rw [← hB, show 16 * (h + 1) = 16 * h + C + (16 - C) by omega]
    exact bst_more (16 - C) (fun k k1 k2 => by
      have := hno (k - 16 * h) (by omega) (by omega)
      rw [show 16 * h + (k - 16 * h) = k by omega] at this
      exact this)
  unfold j_X11_chooseSaying_61
  have key := lp_ind (body := fun (q : Int64 × Int32 × Int32 × Int32 × Int32 × am_S) => b_X11_chooseSaying_66 (144 + 7 * r) (nI t) (nI C) (nI h) q.1 q.2.1 q.2.2.1 q.2.2.2.1 q.2.2.2.2.1 q.2.2.2.2.2) C (fun c q => q.1 = (B (16 * h + c)).2 ∧ q.2.1 = (bsC (B (16 * h + c)).1).1 ∧ q.2.2.1 = (bsC (B (16 * h + c)).1).2.1 ∧ q.2.2.2.1 = (bsC (B (16 * h + c)).1).2.2 ∧ q.2.2.2.2.1 = nI c ∧ frP x q.2.2.2.2.2) (fun e => ∃ x2, e = .inl ((B (16 * (h + 1))).2, (bsC (B (16 * (h + 1))).1).1, (bsC (B (16 * (h + 1))).1).2.1, (bsC (B (16 * (h + 1))).1).2.2, nI (h + 1), x2) ∧ frP x x2) ?_ ?_ (F := am_F) (by omega) ((B (16 * h)).2, (bsC (B (16 * h)).1).1, (bsC (B (16 * h)).1).2.1, (bsC (B (16 * h)).1).2.2, (0 : Int32), x) ⟨rfl, rfl, rfl, rfl, rfl, frP.rf x⟩
  · obtain ⟨e, h1, x2, rfl, h2⟩ := key
    exact ⟨x2, h1, h2⟩
  · rintro c hc ⟨q1, q2, q3, q4, q5, y⟩ ⟨h1, h2, h3, h4, h5, h6⟩
    dsimp only at h1 h2 h3 h4 h5 h6
    subst h1 h2 h3 h4 h5
    left
    have hf : c / 2 < mF m := by omega
    obtain ⟨u, u1, u2, u3, u4, u5, u6, u7, u8⟩ := c_prepare (s := y) (p := nI t) (q := nI h) (f := nI (c / 2)) (v := nI (c % 2)) (show 24 ∈ am_isL by decide)
    have fu : frP y u := ⟨u2, by rw [u3], Or.inl (by rw [u3])⟩
    have ru := rdC_P w (rdC_P w hx h6) fu
    have jv : clJ m u t h (c / 2) (nI (c % 2)) 0 := ⟨ru.2.2.1, by rw [u3]; exact (by decide : 24 ∈ am_isL), by rw [u3]; exact ru.2.2.2, u4, u5, u6, u7, u8⟩
    obtain ⟨z, z1, z2, z3⟩ := c_scoreOf (s := u) (W := wv m t h (c / 2) (nI (c % 2)) (0 : Int32).toInt64) hr hT (ruleX_ru hr ru.1 hX) (jv.v w ht hh hf)
    have fz : frP x z := (h6.tr fu).tr ⟨fun c _ => by rw [z2], by rw [z3], Or.inr (by rw [z3])⟩
    have esc : scK m t n D V K b1 b2 b3 (16 * h + c) = scoV (wv m t h (c / 2) (nI (c % 2)) (0 : Int32).toInt64) n D V K b1 b2 b3 := by
      unfold scK
      rw [show (16 * h + c) / 16 = h by omega, show (16 * h + c) / 2 % 8 = c / 2 by omega, show (16 * h + c) % 2 = c % 2 by omega]
      rfl
    have hBs : B (16 * h + (c + 1)) = if okK m t (16 * h + c) = true ∧ (B (16 * h + c)).2 < scK m t n D V K b1 b2 b3 (16 * h + c) then (some (16 * h + c), scK m t n D V K b1 b2 b3 (16 * h + c)) else B (16 * h + c) := by
      rw [← hB]
      rfl
    rw [hok c hc, esc] at hBs
    have eb : b_X11_chooseSaying_66 (144 + 7 * r) (nI t) (nI C) (nI h) (B (16 * h + c)).2 (bsC (B (16 * h + c)).1).1 (bsC (B (16 * h + c)).1).2.1 (bsC (B (16 * h + c)).1).2.2 (nI c) y = am_if ((lg_cmp (scoV (wv m t h (c / 2) (nI (c % 2)) (0 : Int32).toInt64) n D V K b1 b2 b3) (B (16 * h + c)).2) ≤ 0) (some (Sum.inl ((B (16 * h + c)).2, (bsC (B (16 * h + c)).1).1, (bsC (B (16 * h + c)).1).2.1, (bsC (B (16 * h + c)).1).2.2, nI (c + 1), z))) (some (Sum.inl (scoV (wv m t h (c / 2) (nI (c % 2)) (0 : Int32).toInt64) n D V K b1 b2 b3, nI h, nI (c / 2), nI (c % 2), nI (c + 1), z))) := by
      unfold b_X11_chooseSaying_66
      rw [am_iff (nI_ge hc (by omega)), sh1 (by omega), and1 (by omega), u1, am_bds, z1, am_b2s, am_ltd, am_ltd, am_ltd, am_ltd, nI_1]
    dsimp only
    rw [eb]
    by_cases cmp : (B (16 * h + c)).2 < scoV (wv m t h (c / 2) (nI (c % 2)) (0 : Int32).toInt64) n D V K b1 b2 b3
    · rw [if_pos ⟨rfl, cmp⟩] at hBs
      rw [am_iff (by rw [lg_cmp_le, Int64.not_le]; exact cmp), hBs]
      refine ⟨_, rfl, rfl, ?_, ?_, ?_, rfl, fz⟩
      · show nI h = nI ((16 * h + c) / 16)
        rw [show (16 * h + c) / 16 = h by omega]
      · show nI (c / 2) = nI ((16 * h + c) / 2 % 8)
        rw [show (16 * h + c) / 2 % 8 = c / 2 by omega]
      · show nI (c % 2) = nI ((16 * h + c) % 2)
        rw [show (16 * h + c) % 2 = c % 2 by omega]
    · rw [if_neg (fun z => cmp z.2)] at hBs
      rw [am_ift (by rw [lg_cmp_le]; exact Int64.not_lt.mp cmp), hBs]
      exact ⟨_, rfl, rfl, rfl, rfl, rfl, rfl, fz⟩
  · rintro ⟨q1, q2, q3, q4, q5, y⟩ ⟨h1, h2, h3, h4, h5, h6⟩
    dsimp only at h1 h2 h3 h4 h5 h6
    subst h1 h2 h3 h4 h5
    refine ⟨_, ?_, y, rfl, h6⟩
    dsimp only
    unfold b_X11_chooseSaying_66 j_X11_chooseSaying_137
    rw [am_ift (nI_le (Nat.le_refl _) (by omega)), am_ltd, am_bds, nI_1, eB]
theorem c_choose (hr : r < 6) (hT : ruleT n sz D V K b1 b2 b3) (hX : ruleX n sz D V K b1 b2 b3 (s.1 (144 + 7 * r)) (s.1 (145 + 7 * r)) (s.1 (146 + 7 * r)) (s.1 (147 + 7 * r)) (s.1 (148 + 7 * r)) (s.1 (149 + 7 * r)) (s.1 (150 + 7 * r))) (w : wfT m) (ht : t < mP m) {x : am_S} (hx : rdC s ch m x) : ∃ x2, f_X11_chooseSaying (144 + 7 * r) (nI t) x = some ((match (bst (okK m t) (scK m t n D V K b1 b2 b3) (16 * mP m)).1 with | none => 0 | some _ => 1), x2) ∧ frP x x2 ∧ ∀ k, (bst (okK m t) (scK m t n D V K b1 b2 b3) (16 * mP m)).1 = some k → talkAt x2 t (k / 16) (k / 2 % 8) (nI (k % 2)) 0 ∧ x2.2.2.1 = 24 := by
  have hP := w.P7
  have hF := w.F8
  have e4 : am_F = 4000 := rfl
  have hstep := fun (y : am_S) (hy : rdC s ch m y) (h C : Nat) => c_choose1 (t := t) hr hT hX w ht (x := y) hy (h := h) (C := C)
  generalize hB : bst (okK m t) (scK m t n D V K b1 b2 b3) = B at hstep ⊢
  unfold f_X11_chooseSaying
  rw [am_gdt (iR_of hr)]
  have b0 : B 0 = (none, 0) := by rw [← hB]; rfl
  have key := lp_ind (body := fun (q : Int64 × Int32 × Int32 × Int32 × Int32 × am_S) => b_X11_chooseSaying_14 (144 + 7 * r) (nI t) q.1 q.2.1 q.2.2.1 q.2.2.2.1 q.2.2.2.2.1 q.2.2.2.2.2) (mP m) (fun h q => q.1 = (B (16 * h)).2 ∧ q.2.1 = (bsC (B (16 * h)).1).1 ∧ q.2.2.1 = (bsC (B (16 * h)).1).2.1 ∧ q.2.2.2.1 = (bsC (B (16 * h)).1).2.2 ∧ q.2.2.2.2.1 = nI h ∧ frP x q.2.2.2.2.2) (fun e => ∃ x2, e = ((match (B (16 * mP m)).1 with | none => 0 | some _ => 1), x2) ∧ frP x x2 ∧ ∀ k, (B (16 * mP m)).1 = some k → talkAt x2 t (k / 16) (k / 2 % 8) (nI (k % 2)) 0 ∧ x2.2.2.1 = 24) ?_ ?_ (F := am_F) (by omega) ((0 : Int64), (-1 : Int32), (0 : Int32), (0 : Int32), (0 : Int32), x) (by
    rw [Nat.mul_zero, b0]
    exact ⟨rfl, rfl, rfl, rfl, rfl, frP.rf x⟩)
  · obtain ⟨e, h1, x2, rfl, h2, h3⟩ := key
    exact ⟨x2, h1, h2, h3⟩
  · rintro h hh ⟨q1, q2, q3, q4, q5, y⟩ ⟨h1, h2, h3, h4, h5, h6⟩
    dsimp only at h1 h2 h3 h4 h5 h6
    subst h1 h2 h3 h4 h5
    left
    have ry := rdC_P w hx h6
    dsimp only
    unfold b_X11_chooseSaying_14
    rw [ry.2.2.1.P w, am_iff (nI_ge hh (by omega)), c_hasStreet w ry.2.2.1, am_bds, stB_nI w ht hh, ry.2.2.1.F w, pk_mul]
    by_cases c : hasSt m t h = true
    · obtain ⟨x2, k1, k2⟩ := hstep y ry h (2 * mF m) hh (Nat.le_refl _) (fun c2 hc2 => by
        unfold okK
        rw [show (16 * h + c2) / 16 = h by omega, show (16 * h + c2) / 2 % 8 = c2 / 2 by omega, c, decide_eq_true (by omega)]
        rfl) (fun c2 h1 h2 => by
        unfold okK
        rw [show (16 * h + c2) / 2 % 8 = c2 / 2 by omega, decide_eq_false (by omega), Bool.and_false])
      rw [am_b1 c, k1]
      exact ⟨_, rfl, rfl, rfl, rfl, rfl, rfl, h6.tr k2⟩
    · obtain ⟨x2, k1, k2⟩ := hstep y ry h 0 hh (by omega) (fun c2 hc2 => by omega) (fun c2 h1 h2 => by
        unfold okK
        rw [show (16 * h + c2) / 16 = h by omega, Bool.eq_false_iff.mpr c]
        rfl)
      have k1 : j_X11_chooseSaying_61 (144 + 7 * r) (nI t) 0 (B (16 * h)).2 (bsC (B (16 * h)).1).1 (bsC (B (16 * h)).1).2.1 (bsC (B (16 * h)).1).2.2 (nI h) y = _ := k1
      rw [am_b0 c, k1]
      exact ⟨_, rfl, rfl, rfl, rfl, rfl, rfl, h6.tr k2⟩
  · rintro ⟨q1, q2, q3, q4, q5, y⟩ ⟨h1, h2, h3, h4, h5, h6⟩
    dsimp only at h1 h2 h3 h4 h5 h6
    subst h1 h2 h3 h4 h5
    have ry := rdC_P w hx h6
    dsimp only
    unfold b_X11_chooseSaying_14 j_X11_chooseSaying_143
    rw [ry.2.2.1.P w, am_ift (nI_le (Nat.le_refl _) (by omega))]
    cases ho : (B (16 * mP m)).1 with
    | none =>
      refine ⟨_, ?_, y, rfl, h6, fun k hk => by cases hk⟩
      rw [am_ift (show (bsC none).1 = -1 from rfl), am_bds]
    | some k =>
      have hk := bst_lt (16 * mP m) k (by rw [hB]; exact ho)
      have hk1 := hk.1
      obtain ⟨u, u1, u2, u3, u4, u5, u6, u7, u8⟩ := c_prepare (s := y) (p := nI t) (q := nI (k / 16)) (f := nI (k / 2 % 8)) (v := nI (k % 2)) (show 24 ∈ am_isL by decide)
      refine ⟨_, ?_, u, rfl, h6.tr ⟨u2, by rw [u3], Or.inl (by rw [u3])⟩, fun k2 hk2 => ?_⟩
      · show am_bd (am_if (nI (k / 16) = -1) _ (am_bd (f_X11_prepare 24 (nI t) (nI (k / 16)) (nI (k / 2 % 8)) (nI (k % 2)) y) _)) _ = _
        rw [am_iff (fun z => nI_pos (n := k / 16) (by omega) (by rw [z]; decide)), u1, am_bds, am_bds]
      · cases hk2
        exact ⟨⟨u4, u5, u6, u7, u8⟩, by rw [u3]⟩
theorem m_choose (hr : r < 6) (hT : ruleT n sz D V K b1 b2 b3) (hM : ruleM r n sz D V K b1 b2 b3 (s.1 250) (s.1 252) (s.1 253)) (w : wfT m) (lk : mN m 7 < 24) (h7 : m 7 = nI (mN m 7)) (hp0 : 0 < mP m) {y : am_S} (hy : rdM s ch m y) : ∃ y2, f_X12_passes (nI r) y = j_X12_passes_117 (nI (mN m 7 % mP m)) (bsM (bst (okK m (mN m 7 % mP m)) (scK m (mN m 7 % mP m) n D V K b1 b2 b3) (16 * mP m)).1) y2 ∧ frQ y y2 := by
  have hP := w.P7
  have hF := w.F8
  have e4 : am_F = 4000 := rfl
  have ht : mN m 7 % mP m < mP m := Nat.mod_lt _ hp0
  unfold f_X12_passes
  rw [hy.2.1, w.P1, h7, am_gdt (nI_ne0 hp0 (by omega)), pk_rem (by omega) hp0 (by omega), am_ltd]
  generalize mN m 7 % mP m = t at *
  generalize hB : bst (okK m t) (scK m t n D V K b1 b2 b3) = B
  have b0 : B 0 = (none, 0) := by rw [← hB]; rfl
  have main : ∀ d k q3 x F, k + d = 16 * mP m → d < F → q3 = nI k → frQ y x → ∃ y2, am_lp (fun (q : Int32 × Int64 × Int32 × am_S) => b_X12_passes_23 (nI r) (nI t) q.1 q.2.1 q.2.2.1 q.2.2.2) F (bsM (B k).1, (B k).2, q3, x) = j_X12_passes_117 (nI t) (bsM (B (16 * mP m)).1) y2 ∧ frQ y y2 := by
    intro d
    induction d with
    | zero =>
      intro k q3 x F hk hF1 h3 hx
      obtain ⟨F', rfl⟩ : ∃ F', F = F' + 1 := ⟨F - 1, by omega⟩
      subst h3
      have hk : k = 16 * mP m := by omega
      subst hk
      refine ⟨x, ?_, hx⟩
      rw [am_lp]
      dsimp only
      unfold b_X12_passes_23
      rw [hx.1 258 (by decide) (by decide), hy.2.1, w.P1, pk_mul, am_ift (nI_le (Nat.le_refl _) (by omega))]
      cases j_X12_passes_117 (nI t) (bsM (B (16 * mP m)).1) x with
      | none => rfl
      | some e => rfl
    | succ d ih =>
      intro k q3 x F hk hF1 h3 hx
      obtain ⟨F', rfl⟩ : ∃ F', F = F' + 1 := ⟨F - 1, by omega⟩
      subst h3
      have hx258 : x.1 258 = m := by rw [hx.1 258 (by decide) (by decide)]; exact hy.2.1
      have hkh : k / 16 < mP m := by omega
      have hBs : B (k + 1) = if okK m t k = true ∧ (B k).2 < scK m t n D V K b1 b2 b3 k then (some k, scK m t n D V K b1 b2 b3 k) else B k := by
        rw [← hB]
        rfl
      have eok : (stB m (nI t) (nI (k / 16)) = true ∧ inP (nI (k / 2 % 8)) (mF m) ∧ (nI (k % 2) = 0 ∨ nI (k % 2) = 1)) ↔ okK m t k = true := by
        unfold okK
        rw [stB_nI w ht hkh, Bool.and_eq_true, decide_eq_true_eq]
        constructor
        · rintro ⟨g1, g2, -⟩
          refine ⟨g1, ?_⟩
          have := g2.2
          rw [nI_leI (by omega) (by omega)] at this
          omega
        · rintro ⟨g1, g2⟩
          refine ⟨g1, inP_nI g2 (by omega), ?_⟩
          have : k % 2 = 0 ∨ k % 2 = 1 := by omega
          rcases this with e | e <;> rw [e]
          · exact Or.inl rfl
          · exact Or.inr rfl
      have eb : b_X12_passes_23 (nI r) (nI t) (bsM (B k).1) (B k).2 (nI k) x = am_if (b01 (stB m (nI t) (nI (k / 16)) = true ∧ inP (nI (k / 2 % 8)) (mF m) ∧ (nI (k % 2) = 0 ∨ nI (k % 2) = 1)) = 0) (some (Sum.inl (bsM (B k).1, (B k).2, nI (k + 1), x))) (am_bd (f_X12_words (nI t) (nI (k / 16)) (nI (k / 2 % 8)) (nI (k % 2)) (0 : Int32) x) (fun s24 => am_b2 (f_X12_summedBy (nI r) s24) (fun w25 s26 => am_if (0 < (lg_cmp w25 (B k).2)) (some (Sum.inl (nI k, w25, nI (k + 1), s26))) (some (Sum.inl (bsM (B k).1, (B k).2, nI (k + 1), s26)))))) := by
        unfold b_X12_passes_23
        rw [hx258, w.P1, pk_mul, am_iff (nI_ge (by omega) (by omega)), pk_rem (a := k) (by omega) (by decide) (by decide), pk_div (a := k) (d := 16) (by omega) (by decide) (by decide), pk_div (a := k) (d := 2) (by omega) (by decide) (by decide), pk_rem (a := k / 2) (by omega) (by decide) (by decide), am_ltd, am_ltd, m_maySay w hx258, am_bds]
        simp only [am_ltd, nI_1]
      by_cases c : okK m t k = true
      · have hf : k / 2 % 8 < mF m := by
          unfold okK at c
          rw [Bool.and_eq_true, decide_eq_true_eq] at c
          exact c.2
        obtain ⟨u, u1, u2, u3, -, u4⟩ := m_words (v := nI (k % 2)) (p5 := 0) hx258 w ht hkh hf
        obtain ⟨z, z1, z2⟩ := m_summedBy (s := u) (W := wv m t (k / 16) (k / 2 % 8) (nI (k % 2)) 0) (r := r) hr hT (by rw [u2 250 (by decide), u2 252 (by decide), u2 253 (by decide), hx.1 250 (by decide) (by decide), hx.1 252 (by decide) (by decide), hx.1 253 (by decide) (by decide), hy.1.1, hy.1.2.1, hy.1.2.2]; exact hM) (fun q hq => u4 q hq)
        have fz : frQ y z := hx.tr ⟨fun a a1 a2 => by rw [z2.1 a a1, u2 a a2], fun q hq => by rw [z2.2.1 q hq, u2 248 (by decide)], by rw [z2.2.2.1, u3]⟩
        rw [c] at hBs
        have esc : scK m t n D V K b1 b2 b3 k = scoV (wv m t (k / 16) (k / 2 % 8) (nI (k % 2)) 0) n D V K b1 b2 b3 := rfl
        by_cases cmp : (B k).2 < scK m t n D V K b1 b2 b3 k
        · rw [if_pos ⟨rfl, cmp⟩] at hBs
          obtain ⟨y2, k1, k2⟩ := ih (k + 1) (nI (k + 1)) z F' (by omega) (by omega) rfl fz
          refine ⟨y2, ?_, k2⟩
          rw [← k1]
          refine am_lp_inl ?_
          dsimp only
          rw [eb, am_b1 (eok.mpr c), u1, am_bds, z1, am_b2s, am_ift (by rw [lg_cmp_gt]; exact cmp), hBs, esc]
          rfl
        · rw [if_neg (fun z => cmp z.2)] at hBs
          obtain ⟨y2, k1, k2⟩ := ih (k + 1) (nI (k + 1)) z F' (by omega) (by omega) rfl fz
          refine ⟨y2, ?_, k2⟩
          rw [← k1]
          refine am_lp_inl ?_
          dsimp only
          rw [eb, am_b1 (eok.mpr c), u1, am_bds, z1, am_b2s, am_iff (by rw [lg_cmp_gt]; exact cmp), hBs]
      · rw [if_neg (fun z => c z.1)] at hBs
        obtain ⟨y2, k1, k2⟩ := ih (k + 1) (nI (k + 1)) x F' (by omega) (by omega) rfl hx
        refine ⟨y2, ?_, k2⟩
        rw [← k1]
        refine am_lp_inl ?_
        dsimp only
        rw [eb, am_b0 (fun z => c (eok.mp z)), hBs]
  have := main (16 * mP m) 0 (nI 0) y am_F (by omega) (by omega) rfl (frQ.rf y)
  rw [b0] at this
  exact this
end CH
