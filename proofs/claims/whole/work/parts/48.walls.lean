/-! ways by streets: leak, walls -/
theorem or_has {W a : Nat} (h : W.testBit a = true) : W ||| 2 ^ a = W := by
  apply Nat.eq_of_testBit_eq
  intro i
  rw [Nat.testBit_or, Nat.testBit_two_pow]
  by_cases e : a = i
  · subst e; rw [h]; rfl
  · simp [e]
theorem or_rc (a b c : Nat) : a ||| b ||| c = a ||| c ||| b := by rw [Nat.or_assoc, Nat.or_comm b c, ← Nat.or_assoc]
theorem and2_z {R a b : Nat} : (R &&& (2 ^ a ||| 2 ^ b) = 0) ↔ (R.testBit a = false ∧ R.testBit b = false) := by
  constructor
  · intro h
    have h2 : ∀ i, (R &&& (2 ^ a ||| 2 ^ b)).testBit i = false := fun i => by rw [h, Nat.zero_testBit]
    have ha := h2 a
    have hb := h2 b
    rw [Nat.testBit_and, Nat.testBit_or, Nat.testBit_two_pow, Nat.testBit_two_pow] at ha hb
    simp at ha hb
    exact ⟨ha, hb⟩
  · rintro ⟨h1, h2⟩
    apply Nat.eq_of_testBit_eq
    intro i
    rw [Nat.testBit_and, Nat.testBit_or, Nat.testBit_two_pow, Nat.testBit_two_pow, Nat.zero_testBit]
    by_cases e : a = i
    · subst e; rw [h1]; rfl
    · by_cases e2 : b = i
      · subst e2; rw [h2]; rfl
      · simp [e, e2]
/-- one step along streets that aren't walled up -/
def sprI (m : Nat → Int32) (wl R : Nat) : Nat → Nat
  | 0 => R
  | i + 1 => if wl.testBit i = true then sprI m wl R i else if R &&& (2 ^ mA m i ||| 2 ^ mB m i) = 0 then sprI m wl R i else sprI m wl R i ||| (2 ^ mA m i ||| 2 ^ mB m i)
def spr (m : Nat → Int32) (wl R : Nat) : Nat := sprI m wl R (mS m)
theorem sprI_sub (m : Nat → Int32) (wl R : Nat) {q : Nat} (h : R.testBit q = true) : ∀ i, (sprI m wl R i).testBit q = true
  | 0 => h
  | i + 1 => by
    have ih := sprI_sub m wl R h i
    rw [sprI]
    split
    · exact ih
    · split
      · exact ih
      · rw [Nat.testBit_or, ih]; rfl
theorem sprI_lt {m : Nat → Int32} {wl R : Nat} (ho : okS m) (h : R < 128) : ∀ i, i ≤ mS m → sprI m wl R i < 128
  | 0, _ => h
  | i + 1, hi => by
    have ih := sprI_lt (wl := wl) ho h i (by omega)
    obtain ⟨h1, h2, -⟩ := ho.2.2.2.2 i (by omega)
    have hP := ho.1
    have a1 : mA m i < 7 := by have := h1.2; unfold mA; omega
    have a2 : mB m i < 7 := by have := h2.2; unfold mB; omega
    rw [sprI]
    split
    · exact ih
    · split
      · exact ih
      · have x1 : 2 ^ mA m i < 2 ^ 7 := Nat.pow_lt_pow_right (by decide) a1
        have x2 : 2 ^ mB m i < 2 ^ 7 := Nat.pow_lt_pow_right (by decide) a2
        exact Nat.or_lt_two_pow (n := 7) ih (Nat.or_lt_two_pow x1 x2)
theorem spr_sub (m : Nat → Int32) (wl R : Nat) {q : Nat} (h : R.testBit q = true) : (spr m wl R).testBit q = true := sprI_sub m wl R h _
theorem spr_lt {m : Nat → Int32} {wl R : Nat} (ho : okS m) (h : R < 128) : spr m wl R < 128 := sprI_lt ho h _ (Nat.le_refl _)
theorem nI0 (a : Nat) : nI a ||| 0 = nI a := by rw [show (0 : Int32) = nI 0 from rfl, nI_or, Nat.or_zero]
theorem c_spread {m : Nat → Int32} {s : am_S} {wl R : Nat} (w : wfT m) (t : townAt m s) (hw : wl < 1024) (hR : R < 128) : f_X8_spread (nI R) (nI wl) s = some (nI (spr m wl R)) := by
  have hP := w.P7
  have hS := w.S10
  have ho := w.okS
  have e4 : am_F = 4000 := rfl
  unfold f_X8_spread
  refine am_lp_run (fun i => (nI (sprI m wl R i), nI i)) (mS m) (fun i hi => ?_) ?_ (by omega)
  · obtain ⟨h1, h2, -⟩ := ho.2.2.2.2 i hi
    have l1 := h1.2
    have l2 := h2.2
    obtain ⟨g1, g2⟩ := t.st i hi
    dsimp only
    unfold b_X8_spread_5
    rw [t.S w, am_iff (nI_ge hi (by omega)), c_bit, am_bds, bitb (by omega) (by omega), sprI]
    by_cases c : wl.testBit i = true
    · rw [am_b1 c, am_ltd, nI_1, if_pos c]
    · rw [am_b0 c, gd_nI (by omega) (by decide), gd_nI (by omega) (by decide), cL (by omega), g1, g2, h1.e, h2.e, sh_l (by omega), sh_l (by omega), nI_or, am_ltd, nI_and, am_ltd, am_ltd, nI0, nI_or, nI_1, am_ltd, if_neg c]
      have hle : R &&& (2 ^ mA m i ||| 2 ^ mB m i) ≤ R := Nat.and_le_left
      have hz : (nI (R &&& (2 ^ mN m (179 + 2 * i) ||| 2 ^ mN m (179 + 2 * i + 1))) = 0) ↔ R &&& (2 ^ mA m i ||| 2 ^ mB m i) = 0 := by
        show (nI (R &&& (2 ^ mA m i ||| 2 ^ mB m i)) = nI 0) ↔ _
        exact nI_eq (by omega) (by decide)
      by_cases c2 : R &&& (2 ^ mA m i ||| 2 ^ mB m i) = 0
      · rw [am_ift (hz.mpr c2), if_pos c2]
      · rw [am_iff (fun z => c2 (hz.mp z)), if_neg c2, am_ltd]
  · dsimp only
    unfold b_X8_spread_5
    rw [t.S w, am_ift (nI_le (Nat.le_refl _) (by omega))]
    rfl
theorem m_isOf {n q : Nat} (hn : n < 2 ^ 31) (hq : q < 32) : f_X12_isOf (nI n) (nI q) = some (b01 (n.testBit q = true)) := by
  unfold f_X12_isOf
  rw [bitb hn hq]
  by_cases c : n.testBit q = true
  · rw [b01_t c, am_ift rfl]
  · rw [b01_f c, am_iff (by decide)]
theorem m_stepped {m : Nat → Int32} {s : am_S} {wl R : Nat} (hm : s.1 258 = m) (w : wfT m) (hw : wl < 1024) (hR : R < 128) : f_X12_stepped (nI R) (nI wl) s = some (nI (spr m wl R)) := by
  have hP := w.P7
  have hS := w.S10
  have ho := w.okS
  have e4 : am_F = 4000 := rfl
  unfold f_X12_stepped
  refine am_lp_run (fun i => (nI (sprI m wl R i), nI i)) (mS m) (fun i hi => ?_) ?_ (by omega)
  · obtain ⟨h1, h2, -⟩ := ho.2.2.2.2 i hi
    have l1 := h1.2
    have l2 := h2.2
    dsimp only
    unfold b_X12_stepped_5 j_X12_stepped_78
    rw [hm, w.S1, am_iff (nI_ge hi (by omega)), m_isOf (by omega) (by omega), am_bds, sprI]
    by_cases c : wl.testBit i = true
    · rw [am_b1 c, am_ltd, nI_1, if_pos c]
    · rw [am_b0 c, if_neg c]
      simp (disch := omega) only [am_ltd, pk_mul, nI_add, nI_1, gd2, cL]
      rw [h1.e, h2.e, m_isOf (by omega) (by omega), m_isOf (by omega) (by omega), am_bds, am_bds, am_bds, sh_l (by omega), sh_l (by omega), nI0, nI0, nI_or, nI_or, nI_or]
      have hA : R.testBit (mA m i) = true → (sprI m wl R i).testBit (mA m i) = true := fun z => sprI_sub m wl R z i
      have hB : R.testBit (mB m i) = true → (sprI m wl R i).testBit (mB m i) = true := fun z => sprI_sub m wl R z i
      by_cases cA : R.testBit (mA m i) = true
      · by_cases cB : R.testBit (mB m i) = true
        · rw [am_b1 cA, am_b1 cB, if_neg (by rw [and2_z]; exact fun z => by rw [cA] at z; exact absurd z.1 (by decide)), ← Nat.or_assoc, or_rc]
        · rw [am_b1 cA, am_b0 cB, if_neg (by rw [and2_z]; exact fun z => by rw [cA] at z; exact absurd z.1 (by decide)), ← Nat.or_assoc, or_has (hA cA), nI0]
      · by_cases cB : R.testBit (mB m i) = true
        · rw [am_b0 cA, am_b1 cB, if_neg (by rw [and2_z]; exact fun z => by rw [cB] at z; exact absurd z.2 (by decide)), ← Nat.or_assoc, or_rc, or_has (hB cB)]
        · rw [am_b0 cA, am_b0 cB, if_pos (by rw [and2_z]; exact ⟨by simpa using cA, by simpa using cB⟩)]
  · dsimp only
    unfold b_X12_stepped_5
    rw [hm, w.S1, am_ift (nI_le (Nat.le_refl _) (by omega))]
    rfl
/-- come to in some steps -/
def itR (m : Nat → Int32) (wl p : Nat) : Nat → Nat
  | 0 => 2 ^ p
  | k + 1 => spr m wl (itR m wl p k)
theorem itR_lt {m : Nat → Int32} {wl p : Nat} (ho : okS m) (hp : p < 7) : ∀ k, itR m wl p k < 128
  | 0 => (Nat.pow_lt_pow_right (by decide) hp : 2 ^ p < 2 ^ 7)
  | k + 1 => spr_lt ho (itR_lt ho hp k)
theorem itR_sub {m : Nat → Int32} {wl p q : Nat} {k : Nat} (h : (itR m wl p k).testBit q = true) : ∀ d, (itR m wl p (k + d)).testBit q = true
  | 0 => h
  | d + 1 => spr_sub m wl _ (itR_sub h d)
def cd (n : Nat) : Nat := (List.range 7).foldl (fun a i => a + (if n.testBit i then 1 else 0)) 0
theorem cd_7 : ∀ n, n < 128 → cd n ≤ 7 := by decide +kernel
theorem cd_up : ∀ a, a < 128 → ∀ b, b < 128 → a &&& b = a → a ≠ b → cd a < cd b := by decide +kernel
theorem cd_1 : ∀ p, p < 7 → cd (2 ^ p) = 1 := by decide +kernel
theorem sub_and {a b : Nat} (h : ∀ q, a.testBit q = true → b.testBit q = true) : a &&& b = a := by
  apply Nat.eq_of_testBit_eq
  intro q
  rw [Nat.testBit_and]
  by_cases c : a.testBit q = true
  · rw [c, h q c]; rfl
  · have : a.testBit q = false := by simpa using c
    rw [this]; rfl
theorem itR_fix {m : Nat → Int32} {wl p : Nat} (ho : okS m) (hp : p < 7) : itR m wl p 7 = itR m wl p 6 := by
  have stay : ∀ k, itR m wl p (k + 1) = itR m wl p k → ∀ d, itR m wl p (k + d) = itR m wl p k := by
    intro k hk d
    induction d with
    | zero => rfl
    | succ d ih =>
      show spr m wl (itR m wl p (k + d)) = _
      rw [ih]
      exact hk
  have up : ∀ k, (∃ j, j < k ∧ itR m wl p (j + 1) = itR m wl p j) ∨ k + 1 ≤ cd (itR m wl p k) := by
    intro k
    induction k with
    | zero => exact Or.inr (by show 0 + 1 ≤ cd (2 ^ p); rw [cd_1 p hp]; decide)
    | succ k ih =>
      rcases ih with ⟨j, h1, h2⟩ | h
      · exact Or.inl ⟨j, by omega, h2⟩
      · by_cases c : itR m wl p (k + 1) = itR m wl p k
        · exact Or.inl ⟨k, by omega, c⟩
        · right
          have := cd_up _ (itR_lt (wl := wl) ho hp k) _ (itR_lt (wl := wl) ho hp (k + 1)) (sub_and (fun q hq => spr_sub m wl _ hq)) (fun z => c z.symm)
          omega
  rcases up 7 with ⟨j, h1, h2⟩ | h
  · have a := stay j h2 (7 - j)
    have b := stay j h2 (6 - j)
    rw [show j + (7 - j) = 7 by omega] at a
    rw [show j + (6 - j) = 6 by omega] at b
    rw [a, b]
  · have := cd_7 _ (itR_lt (m := m) (wl := wl) ho hp 7)
    omega
def disR (m : Nat → Int32) (wl p q : Nat) : Int32 := match (List.range 7).find? (fun k => (itR m wl p k).testBit q) with
  | none => -2
  | some k => nI k
theorem disR_no {m : Nat → Int32} {wl p q : Nat} (ho : okS m) (hp : p < 7) : disR m wl p q = -2 ↔ (itR m wl p 7).testBit q = false := by
  unfold disR
  cases hf : (List.range 7).find? (fun k => (itR m wl p k).testBit q) with
  | none =>
    rw [List.find?_eq_none] at hf
    have := hf 6 (List.mem_range.mpr (by decide))
    rw [itR_fix ho hp]
    exact ⟨fun _ => by simpa using this, fun _ => rfl⟩
  | some k =>
    rw [List.find?_range_eq_some] at hf
    have hk := List.mem_range.mp hf.2.1
    have : (itR m wl p (k + (7 - k))).testBit q = true := itR_sub hf.1 _
    rw [show k + (7 - k) = 7 by omega] at this
    rw [this]
    exact ⟨fun z => absurd z (fun z => nI_pos (n := k) (by omega) (by rw [show nI k = -2 from z]; decide)), fun z => absurd z (by decide)⟩
theorem lp_dis {body : Int32 × Int32 → Option ((Int32 × Int32) ⊕ Int32)} {m : Nat → Int32} {wl p q : Nat} (h1 : ∀ k, k < 7 → (itR m wl p k).testBit q = true → body (nI (itR m wl p k), nI k) = some (.inr (nI k))) (h2 : ∀ k, k < 7 → (itR m wl p k).testBit q = false → body (nI (itR m wl p k), nI k) = some (.inl (nI (itR m wl p (k + 1)), nI (k + 1)))) (h3 : ∀ v, body (v, nI 7) = some (.inr (-2))) : am_lp body am_F (nI (2 ^ p), (0 : Int32)) = some (disR m wl p q) := by
  have e4 : am_F = 4000 := rfl
  unfold disR
  cases hf : (List.range 7).find? (fun k => (itR m wl p k).testBit q) with
  | none =>
    rw [List.find?_eq_none] at hf
    exact am_lp_run (fun k => (nI (itR m wl p k), nI k)) 7 (fun k hk => h2 k hk (by simpa using hf k (List.mem_range.mpr hk))) (h3 _) (by omega)
  | some k =>
    rw [List.find?_range_eq_some] at hf
    obtain ⟨g1, g2, g3⟩ := hf
    have hk := List.mem_range.mp g2
    exact am_lp_run (fun k => (nI (itR m wl p k), nI k)) k (fun j hj => h2 j (by omega) (by simpa using g3 j hj)) (h1 k hk g1) (by omega)
theorem c_distance {m : Nat → Int32} {s : am_S} {wl p q : Nat} (w : wfT m) (t : townAt m s) (hw : wl < 1024) (hp : p < 7) (hq : q < 7) : f_X8_distance (nI p) (nI q) (nI wl) s = some (disR m wl p q) := by
  unfold f_X8_distance
  rw [sh_l (by omega), am_ltd]
  refine lp_dis (fun k hk c => ?_) (fun k hk c => ?_) (fun v => ?_)
  · have hl := itR_lt (m := m) (wl := wl) w.okS hp k
    dsimp only
    unfold b_X8_distance_8
    rw [am_iff (nI_ge hk (by decide)), c_bit, am_bds, bitb (by omega) (by omega), b01_t c, am_ift rfl]
  · have hl := itR_lt (m := m) (wl := wl) w.okS hp k
    dsimp only
    unfold b_X8_distance_8
    rw [am_iff (nI_ge hk (by decide)), c_bit, am_bds, bitb (by omega) (by omega), b01_f (by rw [c]; decide), am_iff (by decide), c_spread w t hw hl, am_bds, am_ltd, nI_1]
    rfl
  · dsimp only
    unfold b_X8_distance_8
    rw [am_ift (by decide)]
theorem st_leak : LS_leak Inv := by
  intro k s p q hk hI
  obtain ⟨rn, h⟩ := hI
  have h := InvR_mono h
  have w := h.w
  have hP := w.P7
  unfold f_X11_leak f_X12_leak
  simp only [c_hasPerson (show 16 ∈ am_isT by decide) (h.t.P w), m_isPerson w.P1, am_bds]
  by_cases h1 : inP p (mP (s.1 258))
  · by_cases h2 : inP q (mP (s.1 258))
    · simp only [am_b1 h1, am_b1 h2]
      obtain ⟨i, hi, rfl⟩ := inP_of h1 (by omega)
      obtain ⟨j, hj, rfl⟩ := inP_of h2 (by omega)
      refine ⟨disR (s.1 258) 0 i j, ?_, ?_, rn, h⟩
      · have := c_distance (s := s) (wl := 0) (p := i) (q := j) w h.t (by decide) (by omega) (by omega)
        have : f_X8_distance (nI i) (nI j) 0 s = _ := this
        rw [this, am_bds]
      · rw [sh_l (by omega), am_ltd]
        refine lp_dis (fun k hk c => ?_) (fun k hk c => ?_) (fun v => ?_)
        · have hl := itR_lt (m := s.1 258) (wl := 0) (p := i) w.okS (by omega) k
          dsimp only
          unfold b_X12_leak_25
          rw [am_iff (nI_ge hk (by decide)), m_isOf (by omega) (by omega), am_bds, am_b1 c]
        · have hl := itR_lt (m := s.1 258) (wl := 0) (p := i) w.okS (by omega) k
          have e : f_X12_stepped (nI (itR (s.1 258) 0 i k)) 0 s = _ := m_stepped (s := s) (wl := 0) rfl w (by decide) hl
          dsimp only
          unfold b_X12_leak_25
          rw [am_iff (nI_ge hk (by decide)), m_isOf (by omega) (by omega), am_bds, am_b0 (by rw [c]; decide), e, am_bds, am_ltd, nI_1]
          rfl
        · dsimp only
          unfold b_X12_leak_25
          rw [am_ift (by decide)]
    · simp only [am_b1 h1, am_b0 h2]
      exact ⟨-1, rfl, rfl, rn, h⟩
  · simp only [am_b0 h1]
    exact ⟨-1, rfl, rfl, rn, h⟩
theorem m_isParted {m : Nat → Int32} {s : am_S} {wl p q : Nat} (hm : s.1 258 = m) (w : wfT m) (hw : wl < 1024) (hp : p < 7) (hq : q < 7) : f_X12_isParted (nI p) (nI q) (nI wl) s = some (b01 ((itR m wl p 7).testBit q = false)) := by
  have e4 : am_F = 4000 := rfl
  unfold f_X12_isParted
  rw [sh_l (by omega), am_ltd]
  refine am_lp_run (fun k => (nI (itR m wl p k), nI k)) 7 (fun k hk => ?_) ?_ (by omega)
  · have hl := itR_lt (m := m) (wl := wl) w.okS hp k
    dsimp only
    unfold b_X12_isParted_8
    rw [am_iff (nI_ge hk (by decide)), m_stepped hm w hw hl, am_bds, am_ltd, nI_1]
    rfl
  · have hl := itR_lt (m := m) (wl := wl) w.okS hp 7
    dsimp only
    unfold b_X12_isParted_8 j_X12_isParted_30
    rw [am_ift (by decide), m_isOf (by omega) (by omega), am_bds]
    by_cases c : (itR m wl p 7).testBit q = true
    · rw [am_b1 c, am_bds, b01_f (by rw [c]; decide)]
    · rw [am_b0 c, am_bds, b01_t (by simpa using c)]
/-- the least of the fewest -/
def isMin (ok : Nat → Bool) (lo hi b : Nat) : Prop := lo ≤ b ∧ b < hi ∧ ok b = true ∧ ∀ c, lo ≤ c → c < hi → ok c = true → pc b < pc c ∨ (pc b = pc c ∧ b ≤ c)
theorem isMin_one {ok : Nat → Bool} {lo hi a b : Nat} (h : isMin ok lo hi a) (g : isMin ok lo hi b) : a = b := by
  have x := h.2.2.2 b g.1 g.2.1 g.2.2.1
  have y := g.2.2.2 a h.1 h.2.1 h.2.2.1
  omega
theorem sel_min {ok : Nat → Bool} : ∀ n b, sel ok n = some b → isMin ok 0 n b
  | 0, b, h => by cases h
  | n + 1, b, h => by
    rw [sel] at h
    by_cases c : (beat (sel ok n) n && ok n) = true
    · rw [if_pos c] at h
      cases h
      rw [Bool.and_eq_true] at c
      refine ⟨Nat.zero_le _, by omega, c.2, fun q _ hq hok => ?_⟩
      by_cases e : q = n
      · subst e; exact Or.inr ⟨rfl, Nat.le_refl _⟩
      · cases hs : sel ok n with
        | none =>
          exfalso
          have : ∀ n q, sel ok n = none → q < n → ok q = false := by
            intro n
            induction n with
            | zero => intro q _ hq; omega
            | succ n ih =>
              intro q hs hq
              rw [sel] at hs
              by_cases c : (beat (sel ok n) n && ok n) = true
              · rw [if_pos c] at hs; cases hs
              · rw [if_neg c] at hs
                by_cases e : q = n
                · subst e
                  rw [hs] at c
                  simpa [beat] using c
                · exact ih q hs (by omega)
          rw [this n q hs (by omega)] at hok
          exact absurd hok (by decide)
        | some b =>
          rw [hs] at c
          have hb := (sel_min n b hs).2.2.2 q (Nat.zero_le _) (by omega) hok
          have : pc n < pc b := by simpa [beat] using c.1
          omega
    · rw [if_neg c] at h
      obtain ⟨h1, h2, h3, h4⟩ := sel_min n b h
      refine ⟨h1, by omega, h3, fun q q1 q2 hok => ?_⟩
      by_cases e : q = n
      · subst e
        rw [h] at c
        have : ¬ pc q < pc b := fun z => c (by rw [hok]; simp [beat, z])
        omega
      · exact h4 q q1 (by omega) hok
theorem sel_some {ok : Nat → Bool} : ∀ n q, q < n → ok q = true → ∃ b, sel ok n = some b
  | 0, q, h, _ => by omega
  | n + 1, q, h, hok => by
    rw [sel]
    by_cases c : (beat (sel ok n) n && ok n) = true
    · rw [if_pos c]; exact ⟨n, rfl⟩
    · rw [if_neg c]
      by_cases e : q = n
      · subst e
        cases hs : sel ok q with
        | none => rw [hs, hok] at c; exact absurd rfl c
        | some b => exact ⟨b, rfl⟩
      · exact sel_some n q (by omega) hok
def parted (m : Nat → Int32) (p q : Nat) (wl : Nat) : Bool := decide ((itR m wl p 7).testBit q = false)
theorem all_walls {m : Nat → Int32} {p : Nat} : ∀ k, itR m (2 ^ mS m - 1) p k = 2 ^ p
  | 0 => rfl
  | k + 1 => by
    have ih := all_walls (m := m) (p := p) k
    show spr m _ (itR m _ p k) = _
    rw [ih]
    have : ∀ i, i ≤ mS m → sprI m (2 ^ mS m - 1) (2 ^ p) i = 2 ^ p := by
      intro i
      induction i with
      | zero => intro _; rfl
      | succ i ih =>
        intro hi
        rw [sprI, if_pos (by rw [Nat.testBit_two_pow_sub_one]; simp; omega), ih (by omega)]
    exact this _ (Nat.le_refl _)
def beW (o : Option Nat) : Int32 := match o with
  | none => 0
  | some c => nI c
theorem st_walls : LS_walls Inv := by
  intro k s p q v hk hI
  obtain ⟨rn, h⟩ := hI
  have h := InvR_mono h
  have w := h.w
  have hP := w.P7
  have hS := w.S10
  have e4 : am_F = 4000 := rfl
  unfold f_X11_walls f_X12_walls
  rw [c_hasTwo w h.t, am_bds, m_isPerson w.P1, am_bds, m_isPerson w.P1, am_bds, c_isBit, am_bds, m_in01, am_bds]
  by_cases h1 : inP p (mP (s.1 258))
  · by_cases h2 : inP q (mP (s.1 258))
    · by_cases h3 : p = q
      · exact ⟨-1, am_b0 (fun z => z.1 h3), by rw [am_b1 h1, am_b1 h2, am_ift h3], rn, h⟩
      · rw [am_b1 ⟨h3, h1, h2⟩, am_b1 h1, am_b1 h2, am_iff h3]
        by_cases h4 : v = 0 ∨ v = 1
        · rw [am_b1 h4, am_b1 h4]
          obtain ⟨i, hi, rfl⟩ := inP_of h1 (by omega)
          obtain ⟨j, hj, rfl⟩ := inP_of h2 (by omega)
          have hij : i ≠ j := fun z => h3 (by rw [z])
          have h2S : 2 ^ mS (s.1 258) ≤ 1024 := pow_le (k := 10) hS
          have hpos : 0 < 2 ^ mS (s.1 258) := Nat.two_pow_pos _
          have shl : (1 : Int32) <<< (nI (mS (s.1 258)) &&& 31) = nI (2 ^ mS (s.1 258)) := sh_l (by omega)
          have full : parted (s.1 258) i j (2 ^ mS (s.1 258) - 1) = true := by
            unfold parted
            rw [all_walls, Nat.testBit_two_pow]
            simpa using hij
          generalize hN : 2 ^ mS (s.1 258) = N at *
          obtain ⟨b, hb⟩ := sel_some N (N - 1) (by omega) full
          have hmin := sel_min N b hb
          have hbN := hmin.2.1
          have kc : am_lp (fun (q : Int32 × Int32 × Int32) => b_X11_walls_34 (nI i) (nI j) v s q.1 q.2.1 q.2.2) am_F ((nI 11), (0 : Int32), (0 : Int32)) = some (if v = 0 then nI (pc b) else nI b) := by
            refine am_lp_run (fun x => (feC 11 (sel (parted (s.1 258) i j) x), beW (sel (parted (s.1 258) i j) x), nI x)) N (fun x hx => ?_) ?_ (by omega)
            · dsimp only
              unfold b_X11_walls_34
              rw [h.t.S w, shl, am_iff (nI_ge hx (by omega)), (pc_ok x (by omega)).2.1, am_bds, c_distance w h.t (by omega) (by omega) (by omega), am_bds, am_ltd, nI_1, am_ltd]
              have hp7 := (pc_ok x (by omega)).2.2
              have hcmp : (feC 11 (sel (parted (s.1 258) i j) x) ≤ nI (pc x)) ↔ ¬ beat (sel (parted (s.1 258) i j) x) x = true := by
                cases hq : sel (parted (s.1 258) i j) x with
                | none =>
                  show nI 11 ≤ nI (pc x) ↔ ¬ true = true
                  rw [nI_leI (by decide) (by omega)]
                  exact ⟨fun z => by omega, fun z => absurd rfl z⟩
                | some b =>
                  have hb := sel_lt x b hq
                  have := (pc_ok b (by omega)).2.2
                  show nI (pc b) ≤ nI (pc x) ↔ ¬ decide (pc x < pc b) = true
                  rw [nI_leI (by omega) (by omega), decide_eq_true_eq]
                  omega
              have hpt : disR (s.1 258) x i j = -2 ↔ parted (s.1 258) i j x = true := by
                unfold parted
                rw [disR_no w.okS (by omega), decide_eq_true_eq]
              rw [sel]
              by_cases c1 : beat (sel (parted (s.1 258) i j) x) x = true
              · rw [am_iff (fun z => (hcmp.mp z) c1)]
                by_cases c2 : parted (s.1 258) i j x = true
                · rw [am_ift (hpt.mpr c2), if_pos (by rw [c1, c2]; rfl)]
                  rfl
                · rw [am_iff (fun z => c2 (hpt.mp z)), if_neg (by rw [Bool.and_eq_true]; exact fun z => c2 z.2)]
              · rw [am_ift (hcmp.mpr c1), if_neg (by rw [Bool.and_eq_true]; exact fun z => c1 z.1)]
            · dsimp only
              unfold b_X11_walls_34
              rw [h.t.S w, shl, am_ift (nI_le (Nat.le_refl _) (by omega)), hb]
              rcases h4 with rfl | rfl
              · rw [am_ift rfl, if_pos rfl]
                rfl
              · rw [am_iff (by decide), if_neg (by decide)]
                rfl
          have km : am_lt (((1 : Int32) <<< ((s.1 258 3) &&& 31)) - (1 : Int32)) (fun v10 => am_lp (fun (q : Int32 × Int32) => b_X12_walls_49 (nI i) (nI j) v s q.1 q.2) am_F (v10, v10)) = some (if v = 0 then nI (pc b) else nI b) := by
            obtain ⟨M, rfl⟩ : ∃ M, N = M + 1 := ⟨N - 1, by omega⟩
            rw [w.S1, shl, nI_pr, am_ltd]
            have key := lp_ind (body := fun (q : Int32 × Int32) => b_X12_walls_49 (nI i) (nI j) v s q.1 q.2) (M + 1) (fun x e => ∃ b2, b2 ≤ M ∧ e.1 = nI b2 ∧ (e.2 = if x ≤ M then nI (M - x) else -1) ∧ parted (s.1 258) i j b2 = true ∧ (x = 0 → b2 = M) ∧ (0 < x → isMin (parted (s.1 258) i j) (M + 1 - x) (M + 1) b2)) (fun e => e = if v = 0 then nI (pc b) else nI b) ?_ ?_ (F := am_F) (by omega) (nI M, nI M) ⟨M, Nat.le_refl _, rfl, rfl, full, fun _ => rfl, fun z => by omega⟩
            · obtain ⟨e, g1, rfl⟩ := key
              exact g1
            · rintro x hx ⟨e1, e2⟩ ⟨b2, g0, g1, g2, g3, g4, g5⟩
              dsimp only at g1 g2
              rw [if_pos (by omega)] at g2
              subst g1 g2
              left
              have p1 := (pc_ok b2 (by omega)).2.2
              have p2 := (pc_ok (M - x) (by omega)).2.2
              have em1 : nI (M - x) + (-1) = if x + 1 ≤ M then nI (M - (x + 1)) else -1 := by
                by_cases c : x + 1 ≤ M
                · rw [if_pos c, show M - x = M - (x + 1) + 1 by omega, pk_m1]
                · rw [if_neg c, show M - x = 0 by omega]
                  rfl
              have eb : b_X12_walls_49 (nI i) (nI j) v s (nI b2) (nI (M - x)) = am_if (nI (pc b2) < nI (pc (M - x))) (some (.inl (nI b2, if x + 1 ≤ M then nI (M - (x + 1)) else -1))) (am_if (b01 (parted (s.1 258) i j (M - x) = true) = 0) (some (.inl (nI b2, if x + 1 ≤ M then nI (M - (x + 1)) else -1))) (some (.inl (nI (M - x), if x + 1 ≤ M then nI (M - (x + 1)) else -1)))) := by
                unfold b_X12_walls_49
                rw [am_iff (nI_pos (by omega)), (pc_ok b2 (by omega)).1, (pc_ok (M - x) (by omega)).1, am_bds, am_bds, m_isParted rfl w (by omega) (by omega) (by omega), am_bds, am_ltd, am_ltd, em1]
                have : b01 ((itR (s.1 258) (M - x) i 7).testBit j = false) = b01 (parted (s.1 258) i j (M - x) = true) := b01_iff (by unfold parted; rw [decide_eq_true_eq])
                rw [this]
              dsimp only
              rw [eb]
              by_cases c1 : pc b2 < pc (M - x)
              · rw [am_ift (nI_lt c1 (by omega))]
                refine ⟨_, rfl, b2, g0, rfl, rfl, g3, fun z => by omega, fun _ => ?_⟩
                have hx0 : 0 < x := by
                  rcases Nat.eq_zero_or_pos x with z | z
                  · have := g4 z; subst z; rw [this, Nat.sub_zero] at c1; omega
                  · exact z
                obtain ⟨m1, m2, m3, m4⟩ := g5 hx0
                refine ⟨by omega, m2, m3, fun c c1 c2 c3 => ?_⟩
                by_cases e : c = M - x
                · subst e; exact Or.inl (by assumption)
                · exact m4 c (by omega) c2 c3
              · rw [am_iff (nI_nlt (by omega) (by omega))]
                by_cases c2 : parted (s.1 258) i j (M - x) = true
                · rw [am_b1 c2]
                  refine ⟨_, rfl, M - x, by omega, rfl, rfl, c2, fun z => by omega, fun _ => ⟨by omega, by omega, c2, fun c c3 c4 c5 => ?_⟩⟩
                  by_cases e : c = M - x
                  · subst e; exact Or.inr ⟨rfl, Nat.le_refl _⟩
                  · rcases Nat.eq_zero_or_pos x with z | z
                    · omega
                    · have := (g5 z).2.2.2 c (by omega) c4 c5
                      omega
                · rw [am_b0 c2]
                  have hx0 : 0 < x := by
                    rcases Nat.eq_zero_or_pos x with z | z
                    · have := g4 z; subst z; rw [Nat.sub_zero, ← this] at c2; exact absurd g3 c2
                    · exact z
                  obtain ⟨m1, m2, m3, m4⟩ := g5 hx0
                  refine ⟨_, rfl, b2, g0, rfl, rfl, g3, fun z => by omega, fun _ => ⟨by omega, m2, m3, fun c c3 c4 c5 => ?_⟩⟩
                  by_cases e : c = M - x
                  · subst e; exact absurd c5 c2
                  · exact m4 c (by omega) c4 c5
            · rintro ⟨e1, e2⟩ ⟨b2, g0, g1, g2, g3, g4, g5⟩
              dsimp only at g1 g2
              rw [if_neg (by omega)] at g2
              subst g1 g2
              have hb2 : b2 = b := isMin_one (by have := g5 (by omega); rwa [Nat.sub_self] at this) hmin
              subst hb2
              refine ⟨_, ?_, rfl⟩
              dsimp only
              unfold b_X12_walls_49 j_X12_walls_88
              rw [am_ift (by decide)]
              rcases h4 with rfl | rfl
              · rw [am_ift rfl, (pc_ok b2 (by omega)).1, am_bds, am_bds, if_pos rfl]
              · rw [am_iff (by decide), am_bds, if_neg (by decide)]
          exact ⟨_, kc, km, rn, h⟩
        · rw [am_b0 h4, am_b0 h4]
          exact ⟨-1, rfl, rfl, rn, h⟩
    · exact ⟨-1, am_b0 (fun z => h2 z.2.2), by rw [am_b1 h1, am_b0 h2], rn, h⟩
  · exact ⟨-1, am_b0 (fun z => h1 z.2.1), am_b0 h1, rn, h⟩
