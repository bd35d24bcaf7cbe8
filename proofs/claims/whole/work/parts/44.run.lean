/-! by a rule -/
section SC
variable {s : am_S} {W : Nat → Int64} {r n sz : Nat} {D V K b1 b2 b3 : Nat → Nat}
def okC1 (W : Nat → Int64) (D V K b2 b3 : Nat → Nat) (c : Nat) : Bool := decide (K c = 1) && (decide (b2 c = b3 c) || tstV W D V b2 b3 c)
theorem scoV_some {i : Nat} (hi : i < n) (h : okC1 W D V K b2 b3 i = true) (h2 : ∀ c, c < i → okC1 W D V K b2 b3 c = false) {y : Int64} (hy : runV W D V (b1 i) (b2 i - b1 i) [] = [y]) : scoV W n D V K b1 b2 b3 = y := by
  unfold scoV
  have : (List.range n).find? (fun c => decide (K c = 1) && (decide (b2 c = b3 c) || tstV W D V b2 b3 c)) = some i := by
    rw [List.find?_range_eq_some]
    exact ⟨h, List.mem_range.mpr hi, fun c hc => by
      have := h2 c hc
      unfold okC1 at this
      rw [this]
      rfl⟩
  rw [this]
  dsimp only
  rw [hy]
  rfl
theorem scoV_none (h : ∀ c, c < n → okC1 W D V K b2 b3 c = false) : scoV W n D V K b1 b2 b3 = 0 := by
  unfold scoV
  have : (List.range n).find? (fun c => decide (K c = 1) && (decide (b2 c = b3 c) || tstV W D V b2 b3 c)) = none := by
    rw [List.find?_eq_none]
    intro c hc
    have := h c (List.mem_range.mp hc)
    unfold okC1 at this
    rw [this]
    decide
  rw [this]
theorem c_scoreOf (hr : r < 6) (hT : ruleT n sz D V K b1 b2 b3) (hX : ruleX n sz D V K b1 b2 b3 (s.1 (144 + 7 * r)) (s.1 (145 + 7 * r)) (s.1 (146 + 7 * r)) (s.1 (147 + 7 * r)) (s.1 (148 + 7 * r)) (s.1 (149 + 7 * r)) (s.1 (150 + 7 * r))) (hV : ∀ x : am_S, x.1 = s.1 → x.2.2 = s.2.2 → ∀ w, okWord w → f_X6_valueOf (nI w) x = some (W (wordM w))) : ∃ s2, f_X3_scoreOf (144 + 7 * r) s = some (scoV W n D V K b1 b2 b3, s2) ∧ s2.1 = s.1 ∧ s2.2.2 = s.2.2 := by
  have hn := hT.1
  have hsz := hT.2.1
  have e4 : am_F = 4000 := rfl
  obtain ⟨o8, -, -, hdv, hcl⟩ := hX
  have hX2 : ∀ i, i < sz → s.1 (144 + 7 * r + 1) i = nI (D i) ∧ s.1 (144 + 7 * r + 2) i = nI (V i) := fun i hi => by
    rw [show 144 + 7 * r + 1 = 145 + 7 * r by omega, show 144 + 7 * r + 2 = 146 + 7 * r by omega]
    exact hdv i hi
  have fin : ∀ i, i < n → K i = 1 → ∀ x : am_S, x.1 = s.1 → x.2.2 = s.2.2 → ∃ y z, j_X3_scoreOf_66 (144 + 7 * r) (nI i) x = some (y, z) ∧ runV W D V (b1 i) (b2 i - b1 i) [] = [y] ∧ z.1 = s.1 ∧ z.2.2 = s.2.2 := by
    intro i hi hK x x1 x2
    obtain ⟨c1, c2, c3, c4⟩ := hcl i hi
    obtain ⟨k1, k2, k3, k4, k5, k6, k7⟩ := hT.b hi
    obtain ⟨y, z, w1, w2, w3, w4, w5⟩ := c_work (s := x) (iR_of hr) hT.okD (by rw [x1]; exact hX2) (fun u g1 g2 => hV u (g1.trans x1) (g2.trans x2)) k2 (by omega) (k6 hK)
    refine ⟨y, z, ?_, w4, w2.trans x1, w3.trans x2⟩
    unfold j_X3_scoreOf_66
    rw [gd_nI (by omega) (by decide), gd_nI (by omega) (by decide), cL (by omega), x1, show 144 + 7 * r + 4 = 148 + 7 * r by omega, show 144 + 7 * r + 5 = 149 + 7 * r by omega, c2, c3, w1, am_b2s]
  unfold f_X3_scoreOf
  rw [am_gdt (iR_of hr)]
  have key := lp_ind (body := fun (q : Int32 × am_S) => b_X3_scoreOf_2 (144 + 7 * r) q.1 q.2) n (fun i x => x.1 = nI i ∧ x.2.1 = s.1 ∧ x.2.2.2 = s.2.2 ∧ ∀ c, c < i → okC1 W D V K b2 b3 c = false) (fun e => ∃ s2, e = (scoV W n D V K b1 b2 b3, s2) ∧ s2.1 = s.1 ∧ s2.2.2 = s.2.2) ?_ ?_ (F := am_F) (by omega) ((0 : Int32), s) ⟨rfl, rfl, rfl, fun c hc => by omega⟩
  · obtain ⟨e, h1, s2, rfl, h2, h3⟩ := key
    exact ⟨s2, h1, h2, h3⟩
  · rintro i hi ⟨q, x⟩ ⟨h1, h2, h3, h4⟩
    dsimp only at h1 h2 h3 h4
    subst h1
    obtain ⟨c1, c2, c3, c4⟩ := hcl i hi
    obtain ⟨k1, k2, k3, k4, k5, k6, k7⟩ := hT.b hi
    dsimp only
    have hne : (nI (b2 i) = nI (b3 i)) ↔ b2 i = b3 i := nI_eq (by omega) (by omega)
    have h30 : ∀ u : Int32, (u = 0 ↔ b2 i ≠ b3 i) → (∃ x2, j_X3_scoreOf_30 (144 + 7 * r) u (nI i) x = some (.inl x2) ∧ x2.1 = nI (i + 1) ∧ x2.2.1 = s.1 ∧ x2.2.2.2 = s.2.2 ∧ ∀ c, c < i + 1 → okC1 W D V K b2 b3 c = false) ∨ (∃ e, j_X3_scoreOf_30 (144 + 7 * r) u (nI i) x = some (.inr e) ∧ ∃ s2, e = (scoV W n D V K b1 b2 b3, s2) ∧ s2.1 = s.1 ∧ s2.2.2 = s.2.2) := by
      intro u hu
      unfold j_X3_scoreOf_30
      rw [gd_nI (by omega) (by decide), cL (by omega), h2, show 144 + 7 * r + 3 = 147 + 7 * r by omega, c1]
      by_cases hK : K i = 0
      · left
        rw [hK, am_iff (by decide), am_ltd, nI_1]
        refine ⟨_, rfl, rfl, h2, h3, fun c hc => ?_⟩
        by_cases e : c = i
        · subst e
          unfold okC1
          rw [hK]
          rfl
        · exact h4 c (by omega)
      · have hK1 : K i = 1 := by omega
        rw [hK1, am_ift (by decide)]
        by_cases hb : b2 i = b3 i
        · right
          obtain ⟨y, z, f1, f2, f3, f4⟩ := fin i hi hK1 x h2 h3
          rw [am_iff (fun z => (hu.mp z) hb), f1, am_bds]
          exact ⟨_, rfl, z, by rw [scoV_some hi (by unfold okC1; rw [hK1, hb]; simp) h4 f2], f3, f4⟩
        · rw [am_ift (hu.mpr hb), gd2 (by omega) (by decide), gd2 (by omega) (by decide), show 144 + 7 * r + 5 = 149 + 7 * r by omega, show 144 + 7 * r + 6 = 150 + 7 * r by omega, c3, c4]
          obtain ⟨y, z, w1, w2, w3, w4, w5⟩ := c_work (s := x) (iR_of hr) hT.okD (by rw [h2]; exact hX2) (fun x1 g1 g2 => hV x1 (g1.trans h2) (g2.trans h3)) k3 k4 (k7 (by omega))
          have tt := tst_t w4 (w5 rfl)
          rw [w1, am_b2s]
          by_cases hy : y = 0
          · left
            rw [am_ift ((lg_cmp_eq y 0).mpr hy), am_ltd, nI_1]
            refine ⟨_, rfl, rfl, w2.trans h2, w3.trans h3, fun c hc => ?_⟩
            by_cases e : c = i
            · subst e
              unfold okC1
              rw [tt.2.mpr hy]
              simp [hb]
            · exact h4 c (by omega)
          · right
            have hy1 : y = 1 := (w5 rfl).resolve_left hy
            obtain ⟨y2, z2, f1, f2, f3, f4⟩ := fin i hi hK1 z (w2.trans h2) (w3.trans h3)
            rw [am_iff (fun z => hy ((lg_cmp_eq y 0).mp z)), f1, am_bds]
            exact ⟨_, rfl, z2, by rw [scoV_some hi (by unfold okC1; rw [hK1, tt.1.mpr hy1]; simp) h4 f2], f3, f4⟩
    unfold b_X3_scoreOf_2
    rw [h2, o8, am_iff (nI_ge hi (by omega)), gd_nI (by omega) (by decide), gd_nI (by omega) (by decide), cL (by omega), show 144 + 7 * r + 5 = 149 + 7 * r by omega, show 144 + 7 * r + 6 = 150 + 7 * r by omega, c3, c4]
    by_cases hb : b2 i = b3 i
    · rw [am_ift (hne.mpr hb)]
      rcases h30 1 ⟨fun z => absurd z (by decide), fun z => absurd hb z⟩ with ⟨x2, g1, g2, g3, g4, g5⟩ | ⟨e, g1, g2⟩
      · exact Or.inl ⟨x2, g1, g2, g3, g4, g5⟩
      · exact Or.inr ⟨e, g1, g2⟩
    · rw [am_iff (fun z => hb (hne.mp z))]
      rcases h30 0 ⟨fun _ => hb, fun _ => rfl⟩ with ⟨x2, g1, g2, g3, g4, g5⟩ | ⟨e, g1, g2⟩
      · exact Or.inl ⟨x2, g1, g2, g3, g4, g5⟩
      · exact Or.inr ⟨e, g1, g2⟩
  · rintro ⟨q, x⟩ ⟨h1, h2, h3, h4⟩
    dsimp only at h1 h2 h3 h4
    subst h1
    refine ⟨_, by dsimp only; unfold b_X3_scoreOf_2; rw [h2, o8, am_ift (nI_le (Nat.le_refl _) (by omega))], x, by rw [scoV_none h4], h2, h3⟩
theorem m_summedBy (hr : r < 6) (hT : ruleT n sz D V K b1 b2 b3) (hM : ruleM r n sz D V K b1 b2 b3 (s.1 250) (s.1 252) (s.1 253)) (hV : ∀ q, q < 14 → s.2.1 257 q = W q) : ∃ s2, f_X12_summedBy (nI r) s = some (scoV W n D V K b1 b2 b3, s2) ∧ ref18 s s2 := by
  have hn := hT.1
  have hsz := hT.2.1
  have e4 : am_F = 4000 := rfl
  obtain ⟨cn, hsg, hcl⟩ := hM
  have fin : ∀ i, i < n → K i = 1 → ∀ x : am_S, ref18 s x → ∃ y z, j_X12_summedBy_68 (nI r) (nI (60 * r + 5 * i)) x = some (y, z) ∧ runV W D V (b1 i) (b2 i - b1 i) [] = [y] ∧ ref18 s z := by
    intro i hi hK x x1
    obtain ⟨c0, c1, c2, c3, c4⟩ := hcl i hi
    obtain ⟨k1, k2, k3, k4, k5, k6, k7⟩ := hT.b hi
    obtain ⟨y, z, w1, w2, w4, w5⟩ := m_reckons (s := x) hr hT.okD (by rw [x1.1 250 (by decide)]; exact hsg) (by rw [x1.2.2.2 257 (by decide)]; exact hV) k2 (by omega) (k6 hK)
    refine ⟨y, z, ?_, w4, x1.tr w2⟩
    unfold j_X12_summedBy_68
    simp (disch := omega) only [am_ltd, nI_add, nI_1, gd2, cL]
    rw [x1.1 252 (by decide), c1, c2, w1, am_b2s]
  unfold f_X12_summedBy
  have key := lp_ind (body := fun (q : Int32 × am_S) => b_X12_summedBy_2 (nI r) q.1 q.2) n (fun i x => x.1 = nI i ∧ ref18 s x.2 ∧ ∀ c, c < i → okC1 W D V K b2 b3 c = false) (fun e => ∃ s2, e = (scoV W n D V K b1 b2 b3, s2) ∧ ref18 s s2) ?_ ?_ (F := am_F) (by omega) ((0 : Int32), s) ⟨rfl, ref18.rf s, fun c hc => by omega⟩
  · obtain ⟨e, h1, s2, rfl, h2⟩ := key
    exact ⟨s2, h1, h2⟩
  · rintro i hi ⟨q, x⟩ ⟨h1, h2, h4⟩
    dsimp only at h1 h2 h4
    subst h1
    obtain ⟨c0, c1, c2, c3, c4⟩ := hcl i hi
    obtain ⟨k1, k2, k3, k4, k5, k6, k7⟩ := hT.b hi
    dsimp only
    unfold b_X12_summedBy_2
    rw [gd_nI hr (by decide), cL (by omega), h2.1 253 (by decide), cn, am_iff (nI_ge hi (by omega)), h2.1 252 (by decide)]
    simp (disch := omega) only [am_ltd, pk_mul, nI_add, gd2, cL]
    rw [c0]
    by_cases hK : K i = 0
    · left
      refine ⟨(nI (i + 1), x), by rw [hK, am_iff (by decide), nI_1], rfl, h2, fun c hc => ?_⟩
      by_cases e : c = i
      · subst e
        unfold okC1
        rw [hK]
        rfl
      · exact h4 c (by omega)
    · have hK1 : K i = 1 := by omega
      rw [hK1, am_ift (by decide), c3]
      by_cases hb : b2 i = b3 i
      · right
        obtain ⟨y, z, f1, f2, f3⟩ := fin i hi hK1 x h2
        rw [if_neg (by omega), am_ift (by decide), f1, am_bds]
        exact ⟨_, rfl, z, by rw [scoV_some hi (by unfold okC1; rw [hK1, hb]; simp) h4 f2], f3⟩
      · rw [if_pos (by omega), am_iff (nI_pos (by omega)), c4]
        obtain ⟨y, z, w1, w2, w4, w5⟩ := m_reckons (s := x) hr hT.okD (by rw [h2.1 250 (by decide)]; exact hsg) (by rw [h2.2.2.2 257 (by decide)]; exact hV) k3 k4 (k7 (by omega))
        have tt := tst_t w4 (w5 rfl)
        rw [w1, am_b2s]
        by_cases hy : y = 1
        · right
          obtain ⟨y2, z2, f1, f2, f3⟩ := fin i hi hK1 z (h2.tr w2)
          rw [am_ift ((lg_cmp_eq y 1).mpr hy), f1, am_bds]
          exact ⟨_, rfl, z2, by rw [scoV_some hi (by unfold okC1; rw [hK1, tt.1.mpr hy]; simp) h4 f2], f3⟩
        · left
          rw [am_iff (fun z => hy ((lg_cmp_eq y 1).mp z)), nI_1]
          refine ⟨_, rfl, rfl, h2.tr w2, fun c hc => ?_⟩
          by_cases e : c = i
          · subst e
            unfold okC1
            rw [tt.2.mpr ((w5 rfl).resolve_right hy)]
            simp [hb]
          · exact h4 c (by omega)
  · rintro ⟨q, x⟩ ⟨h1, h2, h4⟩
    dsimp only at h1 h2 h4
    subst h1
    refine ⟨_, by dsimp only; unfold b_X12_summedBy_2; rw [gd_nI hr (by decide), cL (by omega), h2.1 253 (by decide), cn, am_ift (nI_le (Nat.le_refl _) (by omega))], x, by rw [scoV_none h4], h2⟩
end SC
/-- of two to a fact, so or not, the first that is greatest -/
def bst (ok : Nat → Bool) (sc : Nat → Int64) : Nat → Option Nat × Int64
  | 0 => (none, 0)
  | n + 1 => if ok n = true ∧ (bst ok sc n).2 < sc n then (some n, sc n) else bst ok sc n
theorem bst_no {ok : Nat → Bool} {sc : Nat → Int64} {n : Nat} (h : ok n = false) : bst ok sc (n + 1) = bst ok sc n := by
  rw [bst, if_neg (fun z => by rw [h] at z; exact absurd z.1 (by decide))]
theorem bst_more {ok : Nat → Bool} {sc : Nat → Int64} {n : Nat} : ∀ d, (∀ k, n ≤ k → k < n + d → ok k = false) → bst ok sc (n + d) = bst ok sc n
  | 0, _ => rfl
  | d + 1, h => by
    show bst ok sc (n + d + 1) = _
    rw [bst_no (h (n + d) (by omega) (by omega)), bst_more d (fun k h1 h2 => h k h1 (by omega))]
theorem bst_lt {ok : Nat → Bool} {sc : Nat → Int64} : ∀ n k, (bst ok sc n).1 = some k → k < n ∧ ok k = true
  | 0, k, h => by cases h
  | n + 1, k, h => by
    unfold bst at h
    by_cases c : ok n = true ∧ (bst ok sc n).2 < sc n
    · rw [if_pos c] at h
      cases h
      exact ⟨by omega, c.1⟩
    · rw [if_neg c] at h
      have := bst_lt n k h
      exact ⟨by omega, this.2⟩
def bsC (o : Option Nat) : Int32 × Int32 × Int32 := match o with
  | none => (-1, 0, 0)
  | some k => (nI (k / 16), nI (k / 2 % 8), nI (k % 2))
def bsM (o : Option Nat) : Int32 := match o with
  | none => -1
  | some k => nI k
