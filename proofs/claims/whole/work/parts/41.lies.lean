/-! what counts as a lie, in both -/
def tstV (W : Nat → Int64) (D V b2 b3 : Nat → Nat) (c : Nat) : Bool := decide (runV W D V (b2 c) (b3 c - b2 c) [] = [1])
def lieV (W : Nat → Int64) (n : Nat) (D V K b2 b3 : Nat → Nat) : Bool := (List.range n).any (fun c => decide (K c = 0) && tstV W D V b2 b3 c)
def scoV (W : Nat → Int64) (n : Nat) (D V K b1 b2 b3 : Nat → Nat) : Int64 := match (List.range n).find? (fun c => decide (K c = 1) && (decide (b2 c = b3 c) || tstV W D V b2 b3 c)) with
  | none => 0
  | some c => (runV W D V (b1 c) (b2 c - b1 c) []).headD 0
theorem ruleT.okD {n sz : Nat} {D V K b1 b2 b3 : Nat → Nat} (h : ruleT n sz D V K b1 b2 b3) : okD sz D V := ⟨h.2.1, h.2.2.1⟩
theorem ruleT.b {n sz : Nat} {D V K b1 b2 b3 : Nat → Nat} (h : ruleT n sz D V K b1 b2 b3) {c : Nat} (hc : c < n) : K c ≤ 1 ∧ b1 c ≤ b2 c ∧ b2 c ≤ b3 c ∧ b3 c ≤ sz ∧ (K c = 0 → b1 c = b2 c ∧ b2 c < b3 c) ∧ (K c = 1 → runT D (b1 c) (b2 c - b1 c) [] = some [false]) ∧ (b2 c < b3 c → runT D (b2 c) (b3 c - b2 c) [] = some [true]) := h.2.2.2 c hc
theorem iR_of {r : Nat} (h : r < 6) : 144 + 7 * r ∈ am_isR := by
  have : r = 0 ∨ r = 1 ∨ r = 2 ∨ r = 3 ∨ r = 4 ∨ r = 5 := by omega
  rcases this with rfl | rfl | rfl | rfl | rfl | rfl <;> decide
section LI
variable {s : am_S} {W : Nat → Int64} {r n sz : Nat} {D V K b1 b2 b3 : Nat → Nat}
theorem tst_t {c : Nat} {y : Int64} (h : runV W D V (b2 c) (b3 c - b2 c) [] = [y]) (hy : y = 0 ∨ y = 1) : (tstV W D V b2 b3 c = true ↔ y = 1) ∧ (tstV W D V b2 b3 c = false ↔ y = 0) := by
  unfold tstV
  rw [h]
  rcases hy with rfl | rfl
  · exact ⟨by decide, by decide⟩
  · exact ⟨by decide, by decide⟩
theorem c_findsLie (hr : r < 6) (hT : ruleT n sz D V K b1 b2 b3) (hX : ruleX n sz D V K b1 b2 b3 (s.1 (144 + 7 * r)) (s.1 (145 + 7 * r)) (s.1 (146 + 7 * r)) (s.1 (147 + 7 * r)) (s.1 (148 + 7 * r)) (s.1 (149 + 7 * r)) (s.1 (150 + 7 * r))) (hV : ∀ x : am_S, x.1 = s.1 → x.2.2 = s.2.2 → ∀ w, okWord w → f_X6_valueOf (nI w) x = some (W (wordM w))) : ∃ s2, f_X3_findsLie (144 + 7 * r) s = some (b01 (lieV W n D V K b2 b3 = true), s2) ∧ s2.1 = s.1 ∧ s2.2.2 = s.2.2 := by
  have hn := hT.1
  have e4 : am_F = 4000 := rfl
  obtain ⟨o8, -, -, hdv, hcl⟩ := hX
  have hX2 : ∀ i, i < sz → s.1 (144 + 7 * r + 1) i = nI (D i) ∧ s.1 (144 + 7 * r + 2) i = nI (V i) := fun i hi => by
    rw [show 144 + 7 * r + 1 = 145 + 7 * r by omega, show 144 + 7 * r + 2 = 146 + 7 * r by omega]
    exact hdv i hi
  unfold f_X3_findsLie
  rw [am_gdt (iR_of hr)]
  have key := lp_ind (body := fun (q : Int32 × am_S) => b_X3_findsLie_2 (144 + 7 * r) q.1 q.2) n (fun i x => x.1 = nI i ∧ x.2.1 = s.1 ∧ x.2.2.2 = s.2.2 ∧ ∀ c, c < i → ¬ (K c = 0 ∧ tstV W D V b2 b3 c = true)) (fun e => ∃ s2, e = (b01 (lieV W n D V K b2 b3 = true), s2) ∧ s2.1 = s.1 ∧ s2.2.2 = s.2.2) ?_ ?_ (F := am_F) (by omega) ((0 : Int32), s) ⟨rfl, rfl, rfl, fun c hc => by omega⟩
  · obtain ⟨e, h1, s2, rfl, h2, h3⟩ := key
    exact ⟨s2, h1, h2, h3⟩
  · rintro i hi ⟨q, x⟩ ⟨h1, h2, h3, h4⟩
    dsimp only at h1 h2 h3 h4
    subst h1
    obtain ⟨c1, c2, c3, c4⟩ := hcl i hi
    obtain ⟨k1, k2, k3, k4, k5, k6, k7⟩ := hT.b hi
    have hsz := hT.2.1
    dsimp only
    unfold b_X3_findsLie_2
    rw [h2, o8, am_iff (nI_ge hi (by omega)), gd_nI (by omega) (by decide), cL (by omega), show 144 + 7 * r + 3 = 147 + 7 * r by omega, c1]
    by_cases hK : K i = 0
    · obtain ⟨q1, q2⟩ := k5 hK
      rw [hK, am_iff (by decide), gd2 (by omega) (by decide), gd2 (by omega) (by decide), show 144 + 7 * r + 5 = 149 + 7 * r by omega, show 144 + 7 * r + 6 = 150 + 7 * r by omega, c3, c4]
      obtain ⟨y, z, w1, w2, w3, w4, w5⟩ := c_work (s := x) (iR_of hr) hT.okD (by rw [h2]; exact hX2) (fun x1 g1 g2 => hV x1 (g1.trans h2) (g2.trans h3)) k3 k4 (k7 q2)
      have tt := tst_t w4 (w5 rfl)
      rw [w1, am_b2s]
      by_cases hy : y = 0
      · left
        refine ⟨(nI (i + 1), z), by rw [am_ift ((lg_cmp_eq y 0).mpr hy), am_ltd, nI_1], rfl, w2.trans h2, w3.trans h3, fun c hc => ?_⟩
        by_cases e : c = i
        · subst e
          rw [tt.2.mpr hy]
          exact fun z => absurd z.2 (by decide)
        · exact h4 c (by omega)
      · right
        have hy1 : y = 1 := (w5 rfl).resolve_left hy
        refine ⟨_, am_iff (fun z => hy ((lg_cmp_eq y 0).mp z)), z, ?_, w2.trans h2, w3.trans h3⟩
        rw [b01_t]
        unfold lieV
        rw [List.any_eq_true]
        exact ⟨i, List.mem_range.mpr hi, by rw [hK, tt.1.mpr hy1]; rfl⟩
    · have hK1 : K i = 1 := by omega
      left
      refine ⟨(nI (i + 1), x), by rw [hK1, am_ift (by decide), am_ltd, nI_1], rfl, h2, h3, fun c hc => ?_⟩
      by_cases e : c = i
      · subst e
        exact fun z => hK z.1
      · exact h4 c (by omega)
  · rintro ⟨q, x⟩ ⟨h1, h2, h3, h4⟩
    dsimp only at h1 h2 h3 h4
    subst h1
    refine ⟨_, by dsimp only; unfold b_X3_findsLie_2; rw [h2, o8, am_ift (nI_le (Nat.le_refl _) (by omega))], x, ?_, h2, h3⟩
    rw [b01_f]
    unfold lieV
    rw [List.any_eq_true]
    rintro ⟨c, hc, hz⟩
    rw [Bool.and_eq_true, decide_eq_true_eq] at hz
    exact h4 c (List.mem_range.mp hc) hz
theorem m_hasLies (hr : r < 6) (hT : ruleT n sz D V K b1 b2 b3) (hM : ruleM r n sz D V K b1 b2 b3 (s.1 250) (s.1 252) (s.1 253)) : f_X12_hasLies (nI r) s = some (b01 (∃ c, c < n ∧ K c = 0)) := by
  have hn := hT.1
  have e4 : am_F = 4000 := rfl
  obtain ⟨cn, -, hcl⟩ := hM
  unfold f_X12_hasLies
  have key := lp_ind (body := fun (q : Int32) => b_X12_hasLies_2 (nI r) s q) n (fun i x => x = nI i ∧ ∀ c, c < i → K c ≠ 0) (fun e => e = b01 (∃ c, c < n ∧ K c = 0)) ?_ ?_ (F := am_F) (by omega) (0 : Int32) ⟨rfl, fun c hc => by omega⟩
  · obtain ⟨e, h1, rfl⟩ := key
    exact h1
  · rintro i hi x ⟨rfl, h4⟩
    obtain ⟨c0, -, -, -, -⟩ := hcl i hi
    have k1 := (hT.b hi).1
    unfold b_X12_hasLies_2
    rw [gd_nI hr (by decide), cL (by omega), cn, am_iff (nI_ge hi (by omega))]
    simp (disch := omega) only [am_ltd, pk_mul, nI_add, gd2, cL]
    rw [c0]
    by_cases hK : K i = 0
    · right
      exact ⟨_, by rw [hK, am_ift (by decide)], (b01_t ⟨i, hi, hK⟩).symm⟩
    · left
      refine ⟨nI (i + 1), by rw [am_iff (nI_ne0 (by omega) (by omega)), nI_1], rfl, fun c hc => ?_⟩
      by_cases e : c = i
      · subst e; exact hK
      · exact h4 c (by omega)
  · rintro x ⟨rfl, h4⟩
    refine ⟨0, ?_, (b01_f (fun ⟨c, h1, h2⟩ => h4 c h1 h2)).symm⟩
    unfold b_X12_hasLies_2
    rw [gd_nI hr (by decide), cL (by omega), cn, am_ift (nI_le (Nat.le_refl _) (by omega))]
theorem m_findsLie (hr : r < 6) (hT : ruleT n sz D V K b1 b2 b3) (hM : ruleM r n sz D V K b1 b2 b3 (s.1 250) (s.1 252) (s.1 253)) (hch : s.1 248 21 = nI r) (hV : ∀ q, q < 14 → s.2.1 257 q = W q) : ∃ s2, am_lp (fun (q : Int32 × am_S) => b_X12_isLie_48 q.1 q.2) am_F ((0 : Int32), s) = some (b01 (lieV W n D V K b2 b3 = true), s2) ∧ ref18 s s2 := by
  have hn := hT.1
  have e4 : am_F = 4000 := rfl
  obtain ⟨cn, hsg, hcl⟩ := hM
  have key := lp_ind (body := fun (q : Int32 × am_S) => b_X12_isLie_48 q.1 q.2) n (fun i x => x.1 = nI i ∧ ref18 s x.2 ∧ ∀ c, c < i → ¬ (K c = 0 ∧ tstV W D V b2 b3 c = true)) (fun e => ∃ s2, e = (b01 (lieV W n D V K b2 b3 = true), s2) ∧ ref18 s s2) ?_ ?_ (F := am_F) (by omega) ((0 : Int32), s) ⟨rfl, ref18.rf s, fun c hc => by omega⟩
  · obtain ⟨e, h1, s2, rfl, h2⟩ := key
    exact ⟨s2, h1, h2⟩
  · rintro i hi ⟨q, x⟩ ⟨h1, h2, h4⟩
    dsimp only at h1 h2 h4
    subst h1
    obtain ⟨c0, c1, c2, c3, c4⟩ := hcl i hi
    obtain ⟨k1, k2, k3, k4, k5, k6, k7⟩ := hT.b hi
    have hsz := hT.2.1
    dsimp only
    unfold b_X12_isLie_48
    rw [h2.2.1 21 (by decide), hch, am_ltd, gd_nI hr (by decide), cL (by omega), h2.1 253 (by decide), cn, am_iff (nI_ge hi (by omega)), h2.1 252 (by decide)]
    simp (disch := omega) only [am_ltd, pk_mul, nI_add, gd2, cL]
    rw [c0]
    by_cases hK : K i = 0
    · obtain ⟨q1, q2⟩ := k5 hK
      rw [if_pos q2] at c3
      rw [hK, am_ift (by decide), c3, c4]
      obtain ⟨y, z, w1, w2, w4, w5⟩ := m_reckons (s := x) hr hT.okD (by rw [h2.1 250 (by decide)]; exact hsg) (by rw [h2.2.2.2 257 (by decide)]; exact hV) k3 k4 (k7 q2)
      have tt := tst_t w4 (w5 rfl)
      rw [w1, am_b2s]
      by_cases hy : y = 1
      · right
        refine ⟨_, am_ift ((lg_cmp_eq y 1).mpr hy), z, ?_, h2.tr w2⟩
        rw [b01_t]
        unfold lieV
        rw [List.any_eq_true]
        exact ⟨i, List.mem_range.mpr hi, by rw [hK, tt.1.mpr hy]; rfl⟩
      · left
        refine ⟨(nI (i + 1), z), by rw [am_iff (fun z => hy ((lg_cmp_eq y 1).mp z)), nI_1], rfl, h2.tr w2, fun c hc => ?_⟩
        by_cases e : c = i
        · subst e
          exact fun z => hy (tt.1.mp z.2)
        · exact h4 c (by omega)
    · left
      refine ⟨(nI (i + 1), x), by rw [am_iff (nI_ne0 (by omega) (by omega)), nI_1], rfl, h2, fun c hc => ?_⟩
      by_cases e : c = i
      · subst e
        exact fun z => hK z.1
      · exact h4 c (by omega)
  · rintro ⟨q, x⟩ ⟨h1, h2, h4⟩
    dsimp only at h1 h2 h4
    subst h1
    refine ⟨_, by dsimp only; unfold b_X12_isLie_48; rw [h2.2.1 21 (by decide), hch, am_ltd, gd_nI hr (by decide), cL (by omega), h2.1 253 (by decide), cn, am_ift (nI_le (Nat.le_refl _) (by omega))], x, ?_, h2⟩
    rw [b01_f]
    unfold lieV
    rw [List.any_eq_true]
    rintro ⟨c, hc, hz⟩
    rw [Bool.and_eq_true, decide_eq_true_eq] at hz
    exact h4 c (List.mem_range.mp hc) hz
end LI
/-- the class's rules stay; the reference's -/
def ruS (s x : am_S) : Prop := (∀ a, 144 ≤ a → a < 186 → x.1 a = s.1 a) ∧ x.1 0 5 = s.1 0 5
def ruM (s y : am_S) : Prop := y.1 250 = s.1 250 ∧ y.1 252 = s.1 252 ∧ y.1 253 = s.1 253
/-- what the class needs to judge a saying -/
def clJ (m : Nat → Int32) (x : am_S) (i j f : Nat) (v z : Int32) : Prop := townAt m x ∧ x.2.2.1 ∈ am_isL ∧ lifeAt m x x.2.2.1 ∧ talkAt x i j f v z
theorem ruleX_ru {s x : am_S} {r n sz : Nat} {D V K b1 b2 b3 : Nat → Nat} (hr : r < 6) (h : ruS s x) (g : ruleX n sz D V K b1 b2 b3 (s.1 (144 + 7 * r)) (s.1 (145 + 7 * r)) (s.1 (146 + 7 * r)) (s.1 (147 + 7 * r)) (s.1 (148 + 7 * r)) (s.1 (149 + 7 * r)) (s.1 (150 + 7 * r))) : ruleX n sz D V K b1 b2 b3 (x.1 (144 + 7 * r)) (x.1 (145 + 7 * r)) (x.1 (146 + 7 * r)) (x.1 (147 + 7 * r)) (x.1 (148 + 7 * r)) (x.1 (149 + 7 * r)) (x.1 (150 + 7 * r)) := by
  rw [h.1 (144 + 7 * r) (by omega) (by omega), h.1 (145 + 7 * r) (by omega) (by omega), h.1 (146 + 7 * r) (by omega) (by omega), h.1 (147 + 7 * r) (by omega) (by omega), h.1 (148 + 7 * r) (by omega) (by omega), h.1 (149 + 7 * r) (by omega) (by omega), h.1 (150 + 7 * r) (by omega) (by omega)]
  exact g
theorem clJ.v {m : Nat → Int32} {x : am_S} {i j f : Nat} {v z : Int32} (h : clJ m x i j f v z) (w : wfT m) (hi : i < mP m) (hj : j < mP m) (hf : f < mF m) : ∀ y : am_S, y.1 = x.1 → y.2.2 = x.2.2 → ∀ q, okWord q → f_X6_valueOf (nI q) y = some (wv m i j f v z.toInt64 (wordM q)) := by
  intro y y1 y2 q hq
  obtain ⟨h1, h2, h3, h4⟩ := h
  refine c_valueOf w (townAt_of h1 (fun c _ _ => by rw [y1])) (by rw [y2]; exact h2) ?_ ?_ hi hj hf hq
  · rw [y2]
    exact lifeAt_of h3 (fun c _ _ => by rw [y1])
  · unfold talkAt at h4 ⊢
    rw [y1]
    exact h4
theorem z01 {z : Int32} (h : z = 0 ∨ z = 1) : z.toInt64 = if z = 0 then 0 else 1 := by
  rcases h with rfl | rfl
  · rfl
  · rfl
theorem lie_both {m : Nat → Int32} {s : am_S} {rn : Nat} {ch : Int32} {i j f : Nat} {v z : Int32} (hrn : rn ≤ 6) (hR : ∀ r, r < rn → pRule r s) (h5 : s.1 0 5 = nI rn) (hch : ch = -1 ∨ ∃ r, r < rn ∧ ch = nI r) (w : wfT m) (hi : i < mP m) (hj : j < mP m) (hf : f < mF m) (hz : z = 0 ∨ z = 1) : ∃ L : Bool, (∀ x : am_S, ruS s x → x.1 15 2 = ch → clJ m x i j f v z → ∃ x2, f_X11_isLie x = some (b01 (L = true), x2) ∧ x2.1 = x.1 ∧ x2.2.2 = x.2.2) ∧ (∀ y : am_S, ruM s y → y.1 258 = m → y.1 248 21 = ch → ∃ y2, f_X12_isLie (nI i) (nI j) (nI f) v z y = some (b01 (L = true), y2) ∧ (∀ a, a ≠ 248 → a ≠ 259 → y2.1 a = y.1 a) ∧ (∀ q, q ≠ 18 → y2.1 248 q = y.1 248 q) ∧ y2.2.2 = y.2.2 ∧ y2.2.1 248 = y.2.1 248) := by
  have plain : ∀ u : Int32, am_if (v = u) (some ((0 : Int32))) (some (1 : Int32)) = some (b01 (decide (v ≠ u) = true)) := fun u => by
    by_cases c : v = u
    · rw [am_ift c, b01_f (by simp [c])]
    · rw [am_iff c, b01_t (by simp [c])]
  have plC : ∀ x : am_S, clJ m x i j f v z → j_X11_isLie_42 x = some (b01 (decide (v ≠ soM m f) = true), x) := fun x hx => by
    unfold j_X11_isLie_42
    rw [hx.2.2.2.2.2.1, hx.2.2.2.2.2.2.1, c_bit, am_bds, hx.1.so]
    show am_if (v = soM m f) _ _ = _
    by_cases c : v = soM m f
    · rw [am_ift c, b01_f (by simp [c])]
    · rw [am_iff c, b01_t (by simp [c])]
  have plM : ∀ y : am_S, y.1 258 = m → j_X12_isLie_18 (nI f) v y = some (b01 (decide (v ≠ soM m f) = true), y) := fun y hy => by
    unfold j_X12_isLie_18
    rw [m_soOf, am_bds, hy]
    by_cases c : v = soM m f
    · rw [am_ift c, b01_f (by simp [c])]
    · rw [am_iff c, b01_t (by simp [c])]
  rcases hch with rfl | ⟨r, hr, rfl⟩
  · refine ⟨decide (v ≠ soM m f), fun x x1 x2 x3 => ⟨x, ?_, rfl, rfl⟩, fun y y1 y2 y3 => ⟨y, ?_, fun _ _ _ => rfl, fun _ _ => rfl, rfl, rfl⟩⟩
    · unfold f_X11_isLie
      rw [x2, am_ltd, c_hasRule (x1.2.trans h5), am_bds, am_b0 (fun z => z.1 (by decide))]
      exact plC x x3
    · unfold f_X12_isLie
      rw [y3, am_ift (by decide)]
      exact plM y y2
  · obtain ⟨n, sz, D, V, K, b1, b2, b3, hT, hX, hM⟩ := hR r hr
    by_cases hl : ∃ c, c < n ∧ K c = 0
    · refine ⟨lieV (wv m i j f v z.toInt64) n D V K b2 b3, fun x x1 x2 x3 => ?_, fun y y1 y2 y3 => ?_⟩
      · have hX := ruleX_ru (by omega) x1 hX
        obtain ⟨x4, g1, g2, g3⟩ := c_findsLie (W := wv m i j f v z.toInt64) (by omega) hT hX (x3.v w hi hj hf)
        refine ⟨x4, ?_, g2, g3⟩
        unfold f_X11_isLie
        rw [x2, am_ltd, c_hasRule (x1.2.trans h5), am_bds, am_b1 (inP_nI hr (by omega)), gd_nI (by omega) (by decide), cL (by omega), am_ltd, am_iff (by rw [hX.2.2.1.mpr hl]; decide), gd2 (by omega) (by decide), am_ltd, g1, am_b2s, am_gdt b01_z]
      · have hM2 : ruleM r n sz D V K b1 b2 b3 (y.1 250) (y.1 252) (y.1 253) := by rw [y1.1, y1.2.1, y1.2.2]; exact hM
        obtain ⟨y4, g1, g2, g3, g5, g4⟩ := m_words (v := v) (p5 := z) y2 w hi hj hf
        obtain ⟨y5, k1, k2⟩ := m_findsLie (s := y4) (W := wv m i j f v z.toInt64) (r := r) (by omega) hT (by rw [g2 250 (by decide), g2 252 (by decide), g2 253 (by decide)]; exact hM2) (by rw [g2 248 (by decide)]; exact y3) (fun q hq => by rw [g4 q hq, z01 hz])
        refine ⟨y5, ?_, fun a a1 a2 => (k2.1 a a1).trans (g2 a a2), fun q hq => by rw [k2.2.1 q hq, g2 248 (by decide)], k2.2.2.1.trans g3, by rw [k2.2.2.2 248 (by decide), g5 248 (by decide)]⟩
        unfold f_X12_isLie
        rw [y3, am_iff (nI_pos (by omega)), m_hasLies (by omega) hT hM2, am_bds, am_b1 hl, g1, am_bds, k1]
    · refine ⟨decide (v ≠ soM m f), fun x x1 x2 x3 => ⟨x, ?_, rfl, rfl⟩, fun y y1 y2 y3 => ⟨y, ?_, fun _ _ _ => rfl, fun _ _ => rfl, rfl, rfl⟩⟩
      · have hX := ruleX_ru (by omega) x1 hX
        have h9 : x.1 (144 + 7 * r) 9 = 0 := by
          rcases hX.2.1 with h | h
          · exact h
          · exact absurd (hX.2.2.1.mp h) hl
        unfold f_X11_isLie
        rw [x2, am_ltd, c_hasRule (x1.2.trans h5), am_bds, am_b1 (inP_nI hr (by omega)), gd_nI (by omega) (by decide), cL (by omega), am_ltd, am_ift h9]
        exact plC x x3
      · have hM2 : ruleM r n sz D V K b1 b2 b3 (y.1 250) (y.1 252) (y.1 253) := by rw [y1.1, y1.2.1, y1.2.2]; exact hM
        unfold f_X12_isLie
        rw [y3, am_iff (nI_pos (by omega)), m_hasLies (by omega) hT hM2, am_bds, am_b0 hl]
        exact plM y y2
