/-! town and life of the class, held against m -/
def townAt (m : Nat → Int32) (s : am_S) : Prop := clT m (s.1 16) (s.1 18) (s.1 19) (s.1 20) (s.1 21) (s.1 22) (s.1 23)
def lifeAt (m : Nat → Int32) (s : am_S) (L : Nat) : Prop := clL m (s.1 L) (s.1 (L + 1)) (s.1 (L + 2)) (s.1 (L + 3)) (s.1 (L + 4))
theorem townAt.okC {m : Nat → Int32} {s : am_S} (h : townAt m s) : okC m s := ⟨h.2.2.2.2.2.1, h.2.2.2.2.2.2.2.2.2.2.2.2.1⟩
theorem townAt.okCH {m : Nat → Int32} {s : am_S} (h : townAt m s) : okCH m s := ⟨h.2.2.2.2.2.2.1, h.2.2.2.2.2.2.2.2.2.2.2.2.2⟩
theorem townAt.told {m : Nat → Int32} {s : am_S} (h : townAt m s) : s.1 16 0 = (if 0 < mF m then 1 else 0) := h.1
theorem townAt.F {m : Nat → Int32} {s : am_S} (h : townAt m s) (w : wfT m) : s.1 16 1 = nI (mF m) := h.2.1.trans w.1.1
theorem townAt.so {m : Nat → Int32} {s : am_S} (h : townAt m s) : s.1 16 2 = m 1 := h.2.2.1
theorem townAt.P {m : Nat → Int32} {s : am_S} (h : townAt m s) (w : wfT m) : s.1 16 3 = nI (mP m) := h.2.2.2.1.trans w.2.2.1.1
theorem townAt.S {m : Nat → Int32} {s : am_S} (h : townAt m s) (w : wfT m) : s.1 16 6 = nI (mS m) := h.2.2.2.2.1.trans w.2.2.2.1.1
theorem townAt.C {m : Nat → Int32} {s : am_S} (h : townAt m s) : s.1 16 14 = m 269 := h.2.2.2.2.2.2.2.1
theorem townAt.K {m : Nat → Int32} {s : am_S} (h : townAt m s) : s.1 16 15 = m 10 := h.2.2.2.2.2.2.2.2.1
theorem townAt.T {m : Nat → Int32} {s : am_S} (h : townAt m s) (h0 : 0 < mF m) : ∀ j, j < 49 → s.1 18 j = m (130 + j) := h.2.2.2.2.2.2.2.2.2.1 h0
theorem townAt.st {m : Nat → Int32} {s : am_S} (h : townAt m s) : ∀ i, i < mS m → s.1 19 i = m (179 + 2 * i) ∧ s.1 20 i = m (179 + 2 * i + 1) := h.2.2.2.2.2.2.2.2.2.2.1
theorem townAt.nb {m : Nat → Int32} {s : am_S} (h : townAt m s) : ∀ p, p < mP m → s.1 21 p = nI (nbr m p) := h.2.2.2.2.2.2.2.2.2.2.2.1
theorem wfT.F8 {m : Nat → Int32} (w : wfT m) : mF m ≤ 8 := by have := w.1.2; unfold mF; omega
theorem wfT.P7 {m : Nat → Int32} (w : wfT m) : mP m ≤ 7 := by have := w.2.2.1.2; unfold mP; omega
theorem wfT.S10 {m : Nat → Int32} (w : wfT m) : mS m ≤ 10 := by have := w.2.2.2.1.2; unfold mS; omega
theorem wfT.fp {m : Nat → Int32} (w : wfT m) (h : 0 < mP m) : 0 < mF m := by
  rcases Nat.eq_zero_or_pos (mF m) with h0 | h0
  · have := (w.2.2.2.2.2.2.2.2.1 h0).1; omega
  · exact h0
theorem wfT.F1 {m : Nat → Int32} (w : wfT m) : m 0 = nI (mF m) := w.1.1
theorem wfT.O1 {m : Nat → Int32} (w : wfT m) : m 1 = nI (mO m) := w.2.1.1
theorem wfT.O8 {m : Nat → Int32} (w : wfT m) : mO m < 2 ^ mF m := w.2.1.2
theorem wfT.O9 {m : Nat → Int32} (w : wfT m) : mO m < 256 := Nat.lt_of_lt_of_le w.O8 (Nat.pow_le_pow_right (by decide) w.F8 : 2 ^ mF m ≤ 2 ^ 8)
theorem wfT.P1 {m : Nat → Int32} (w : wfT m) : m 2 = nI (mP m) := w.2.2.1.1
theorem wfT.S1 {m : Nat → Int32} (w : wfT m) : m 3 = nI (mS m) := w.2.2.2.1.1
theorem wfT.tr {m : Nat → Int32} (w : wfT m) : ∀ j, j < 49 → 0 < mF m → isN m (130 + j) 10 := w.2.2.2.2.2.2.2.2.2.2.2.2
/-- two with a street between them -/
def stB (m : Nat → Int32) (p q : Int32) : Bool := decide (inP p (mP m)) && (decide (inP q (mP m)) && hasSt m p.toNatClampNeg q.toNatClampNeg)
theorem stB_of {m : Nat → Int32} {p q : Int32} (w : wfT m) (h : stB m p q = true) : ∃ i j, i < mP m ∧ j < mP m ∧ p = nI i ∧ q = nI j ∧ hasSt m i j = true ∧ i ≠ j := by
  have hP := w.P7
  simp only [stB, Bool.and_eq_true, decide_eq_true_eq] at h
  obtain ⟨h1, h2, h3⟩ := h
  obtain ⟨i, hi, rfl⟩ := inP_of h1 (by omega)
  obtain ⟨j, hj, rfl⟩ := inP_of h2 (by omega)
  rw [cL (by omega), cL (by omega)] at h3
  refine ⟨i, j, hi, hj, rfl, rfl, h3, fun e => ?_⟩
  subst e
  rw [hasSt_self w.okS] at h3
  exact absurd h3 (by decide)
theorem stB_nI {m : Nat → Int32} {i j : Nat} (w : wfT m) (hi : i < mP m) (hj : j < mP m) : stB m (nI i) (nI j) = hasSt m i j := by
  have hP := w.P7
  unfold stB
  rw [decide_eq_true (inP_nI hi (by omega)), decide_eq_true (inP_nI hj (by omega)), cL (by omega), cL (by omega)]
  rfl
theorem nbr_bit {m : Nat → Int32} (i j : Nat) (hj : j < 7) : (nbr m i).testBit j = hasSt m i j := by
  unfold nbr
  rw [bitsOf_bit, decide_eq_true hj]
  rfl
theorem c_hasTwo {m : Nat → Int32} {s : am_S} {p q : Int32} (w : wfT m) (c : townAt m s) : f_X8_hasTwo 16 p q s = some (b01 (p ≠ q ∧ inP p (mP m) ∧ inP q (mP m))) := by
  unfold f_X8_hasTwo
  rw [am_gdt (by decide)]
  by_cases h1 : p = q
  · rw [am_ift h1, b01_f (fun z => z.1 h1)]
  · rw [am_iff h1, c_hasPerson (by decide) (c.P w), am_bds]
    by_cases h2 : inP p (mP m)
    · rw [am_iff (by rw [b01_eq0]; exact fun z => z h2), c_hasPerson (by decide) (c.P w), am_bds]
      by_cases h3 : inP q (mP m)
      · rw [am_iff (by rw [b01_eq0]; exact fun z => z h3), b01_t ⟨h1, h2, h3⟩]
      · rw [am_ift (by rw [b01_eq0]; exact h3), b01_f (fun z => h3 z.2.2)]
    · rw [am_ift (by rw [b01_eq0]; exact h2), b01_f (fun z => h2 z.2.1)]
theorem c_hasStreet {m : Nat → Int32} {s : am_S} {p q : Int32} (w : wfT m) (c : townAt m s) : f_X8_hasStreet 16 p q s = some (b01 (stB m p q = true)) := by
  have hP := w.P7
  unfold f_X8_hasStreet
  rw [am_gdt (by decide), c_hasTwo w c, am_bds]
  by_cases h : p ≠ q ∧ inP p (mP m) ∧ inP q (mP m)
  · rw [am_iff (by rw [b01_eq0]; exact fun z => z h)]
    obtain ⟨h1, h2, h3⟩ := h
    obtain ⟨i, hi, rfl⟩ := inP_of h2 (by omega)
    obtain ⟨j, hj, rfl⟩ := inP_of h3 (by omega)
    have hb := nbr_lt m i
    rw [gd_nI (by omega) (by decide), cL (by omega), c.nb i hi, c_bit, am_bds, bitb (by omega) (by omega), nbr_bit i j (by omega), stB_nI w hi hj]
    by_cases h4 : hasSt m i j = true
    · rw [b01_t h4, am_ift rfl]
    · rw [b01_f h4, am_iff (by decide)]
  · rw [am_ift (by rw [b01_eq0]; exact h), b01_f]
    intro z
    obtain ⟨i, j, hi, hj, rfl, rfl, h4, h5⟩ := stB_of w z
    exact h ⟨by rw [Ne, nI_eq (by omega) (by omega)]; exact h5, inP_nI hi (by omega), inP_nI hj (by omega)⟩
theorem b01_bit (p : Int32) : (0 ≤ p ∧ p ≤ 1) ↔ (p = 0 ∨ p = 1) := by
  constructor
  · intro h
    obtain ⟨j, hj, rfl⟩ := nI_of2 (x := p) (M := 1) (n := 1) rfl (Int32.not_lt.mpr h.1) h.2
    have : j = 0 ∨ j = 1 := by omega
    rcases this with rfl | rfl
    · exact Or.inl rfl
    · exact Or.inr rfl
  · rintro (rfl | rfl) <;> exact ⟨by decide, by decide⟩
theorem b01_iff {c d : Prop} [Decidable c] [Decidable d] (h : c ↔ d) : b01 c = b01 d := by unfold b01; by_cases x : c <;> simp [x, ← h]
theorem m_in01 (p : Int32) : f_X12_in p.toInt64 0 1 = some (b01 (p = 0 ∨ p = 1)) := (m_in p 0 1).trans (congrArg some (b01_iff (b01_bit p)))
theorem m_in0 (p : Int32) (n : Nat) (hn : n + 1 < 2 ^ 31) (b : Int64) (hb : b = (nI n).toInt64) : f_X12_in p.toInt64 0 b = some (b01 (inP p (n + 1))) := by
  rw [hb]
  refine (m_in p 0 (nI n)).trans (congrArg some (b01_iff ⟨fun h => ?_, fun h => ?_⟩))
  · refine ⟨Int32.not_lt.mpr h.1, fun z => ?_⟩
    exact nI_ge (show n < n + 1 by omega) hn (Int32.le_trans z h.2)
  · refine ⟨Int32.not_lt.mp h.1, ?_⟩
    obtain ⟨j, hj, rfl⟩ := inP_of h hn
    exact nI_le (by omega) (by omega)
theorem c_canSay {m : Nat → Int32} {s : am_S} {p q f v : Int32} (w : wfT m) (c : townAt m s) : f_X11_canSay p q f v s = some (b01 (stB m p q = true ∧ inP f (mF m) ∧ (v = 0 ∨ v = 1))) := by
  unfold f_X11_canSay
  rw [c_hasStreet w c, am_bds]
  by_cases h1 : stB m p q = true
  · rw [am_iff (by rw [b01_eq0]; exact fun z => z h1), c_hasFact (c.F w), am_bds]
    by_cases h2 : inP f (mF m)
    · rw [am_iff (by rw [b01_eq0]; exact fun z => z h2), c_isBit, am_bds]
      by_cases h3 : v = 0 ∨ v = 1
      · rw [am_iff (by rw [b01_eq0]; exact fun z => z h3), b01_t ⟨h1, h2, h3⟩]
      · rw [am_ift (by rw [b01_eq0]; exact h3), b01_f (fun z => h3 z.2.2)]
    · rw [am_ift (by rw [b01_eq0]; exact h2), b01_f (fun z => h2 z.2.1)]
  · rw [am_ift (by rw [b01_eq0]; exact h1), b01_f (fun z => h1 z.1)]
theorem m_street {m : Nat → Int32} {s : am_S} {p q : Int32} (w : wfT m) (hm : s.1 258 = m) (hp : inP p (mP m)) (hq : inP q (mP m)) : ∃ v, f_X12_streetOf p q s = some v ∧ (¬ v < 0 ↔ stB m p q = true) := by
  have hP := w.P7
  obtain ⟨i, hi, rfl⟩ := inP_of hp (by omega)
  obtain ⟨j, hj, rfl⟩ := inP_of hq (by omega)
  obtain ⟨v, h1, h2⟩ := m_streetOf hm w.okS (p := i) (q := j) (by omega) (by omega)
  exact ⟨v, h1, by rw [Int32.not_lt, h2, stB_nI w hi hj]⟩
theorem stB_in {m : Nat → Int32} {p q : Int32} (h : stB m p q = true) : inP p (mP m) ∧ inP q (mP m) := by
  simp only [stB, Bool.and_eq_true, decide_eq_true_eq] at h
  exact ⟨h.1, h.2.1⟩
theorem stB_ne {m : Nat → Int32} {p q : Int32} (w : wfT m) (h : stB m p q = true) : p ≠ q := by
  have hP := w.P7
  obtain ⟨i, j, hi, hj, rfl, rfl, h4, h5⟩ := stB_of w h
  rw [Ne, nI_eq (by omega) (by omega)]
  exact h5
theorem m_maySay {m : Nat → Int32} {s : am_S} {p q f v : Int32} (w : wfT m) (hm : s.1 258 = m) : f_X12_maySay p q f v s = some (b01 (stB m p q = true ∧ inP f (mF m) ∧ (v = 0 ∨ v = 1))) := by
  unfold f_X12_maySay
  have hP1 : s.1 258 2 = nI (mP m) := by rw [hm]; exact w.P1
  have hF1 : s.1 258 0 = nI (mF m) := by rw [hm]; exact w.F1
  rw [m_isPerson hP1, am_bds]
  by_cases h1 : inP p (mP m)
  · rw [am_iff (by rw [b01_eq0]; exact fun z => z h1), m_isPerson hP1, am_bds]
    by_cases h2 : inP q (mP m)
    · rw [am_iff (by rw [b01_eq0]; exact fun z => z h2)]
      by_cases h3 : p = q
      · rw [am_ift h3, b01_f (fun z => stB_ne w z.1 h3)]
      · rw [am_iff h3]
        obtain ⟨u, g1, g2⟩ := m_street w hm h1 h2
        rw [g1, am_bds]
        by_cases h4 : stB m p q = true
        · rw [am_iff (g2.mpr h4), m_isFact hF1, am_bds]
          by_cases h5 : inP f (mF m)
          · rw [am_iff (by rw [b01_eq0]; exact fun z => z h5), m_in01, am_bds]
            by_cases h6 : v = 0 ∨ v = 1
            · rw [am_iff (by rw [b01_eq0]; exact fun z => z h6), b01_t ⟨h4, h5, h6⟩]
            · rw [am_ift (by rw [b01_eq0]; exact h6), b01_f (fun z => h6 z.2.2)]
          · rw [am_ift (by rw [b01_eq0]; exact h5), b01_f (fun z => h5 z.2.1)]
        · rw [am_ift (Classical.byContradiction (fun z => h4 (g2.mp z))), b01_f (fun z => h4 z.1)]
    · rw [am_ift (by rw [b01_eq0]; exact h2), b01_f (fun z => h2 (stB_in z.1).2)]
  · rw [am_ift (by rw [b01_eq0]; exact h1), b01_f (fun z => h1 (stB_in z.1).1)]
theorem m_trustOf {s : am_S} {p q : Nat} (hp : p < 7) (hq : q < 7) : f_X12_trustOf (nI p) (nI q) s = some (s.1 258 (130 + (7 * p + q))) := by
  unfold f_X12_trustOf
  simp (disch := omega) only [am_ltd, pk_mul, nI_add, nI_1, gd2, cL]
  rw [show 130 + 7 * p + q = 130 + (7 * p + q) by omega]
/-! what stands behind the invariant -/
theorem InvR.w {k rn : Nat} {s : am_S} (h : InvR k rn s) : wfT (s.1 258) := h.2.2.2.2.2.1.1
theorem InvR.l {k rn : Nat} {s : am_S} (h : InvR k rn s) : wfL k (s.1 258) := h.2.2.2.2.2.1.2.1
theorem InvR.s {k rn : Nat} {s : am_S} (h : InvR k rn s) : wfS (s.1 258) := h.2.2.2.2.2.1.2.2.1
theorem InvR.t {k rn : Nat} {s : am_S} (h : InvR k rn s) : townAt (s.1 258) s := h.2.2.2.2.2.1.2.2.2.1
theorem InvR.f {k rn : Nat} {s : am_S} (h : InvR k rn s) : lifeAt (s.1 258) s 24 := h.2.2.2.2.2.1.2.2.2.2.1
theorem InvR.c {k rn : Nat} {s : am_S} (h : InvR k rn s) : clS (s.1 258) (s.1 15) (s.1 29) (s.1 248 21) (s.1 248 22) := h.2.2.2.2.2.1.2.2.2.2.2.1
theorem st_trust : LS_trust Inv := by
  intro k s p q hk hI
  obtain ⟨rn, h⟩ := hI
  have h := InvR_mono h
  have w := h.w
  have hP := w.P7
  unfold f_X11_trust f_X12_trust
  rw [c_hasTwo w h.t, am_bds, m_isPerson w.P1, am_bds]
  by_cases h1 : inP p (mP (s.1 258))
  · by_cases h2 : inP q (mP (s.1 258))
    · by_cases h3 : p = q
      · refine ⟨-1, by rw [am_ift (by rw [b01_eq0]; exact fun z => z.1 h3)], ?_, rn, h⟩
        rw [am_iff (by rw [b01_eq0]; exact fun z => z h1), m_isPerson w.P1, am_bds, am_iff (by rw [b01_eq0]; exact fun z => z h2), am_ift h3]
      · have h0 : 0 < mF (s.1 258) := by
          obtain ⟨i, hi, -⟩ := inP_of h1 (by omega)
          exact w.fp (by omega)
        rw [am_iff (by rw [b01_eq0]; exact fun z => z ⟨h3, h1, h2⟩), am_iff (by rw [b01_eq0]; exact fun z => z h1), m_isPerson w.P1, am_bds, am_iff (by rw [b01_eq0]; exact fun z => z h2), am_iff h3]
        obtain ⟨i, hi, rfl⟩ := inP_of h1 (by omega)
        obtain ⟨j, hj, rfl⟩ := inP_of h2 (by omega)
        rw [m_trustOf (by omega) (by omega), am_bds]
        refine ⟨_, ?_, rfl, rn, h⟩
        simp (disch := omega) only [am_ltd, pk_mul, nI_add, nI_1, gd2, cL]
        rw [h.t.T h0 _ (by omega), show i * 7 + j = 7 * i + j by omega]
    · refine ⟨-1, by rw [am_ift (by rw [b01_eq0]; exact fun z => h2 z.2.2)], ?_, rn, h⟩
      rw [am_iff (by rw [b01_eq0]; exact fun z => z h1), m_isPerson w.P1, am_bds, am_ift (by rw [b01_eq0]; exact h2)]
  · exact ⟨-1, by rw [am_ift (by rw [b01_eq0]; exact fun z => h1 z.2.1)], by rw [am_ift (by rw [b01_eq0]; exact h1)], rn, h⟩
theorem am_b0 {α : Type} {c : Prop} [Decidable c] {a b : Option α} (h : ¬ c) : am_if (b01 c = 0) a b = a := am_ift (by rw [b01_eq0]; exact h)
theorem am_b1 {α : Type} {c : Prop} [Decidable c] {a b : Option α} (h : c) : am_if (b01 c = 0) a b = b := am_iff (by rw [b01_eq0]; exact fun z => z h)
theorem town0 {k rn : Nat} {s : am_S} (h : InvR k rn s) : (s.1 16 0 = 0 ↔ ¬ 0 < mF (s.1 258)) := by
  rw [h.t.told]
  by_cases c : 0 < mF (s.1 258)
  · rw [if_pos c]; exact ⟨fun z => absurd z (by decide), fun z => absurd c z⟩
  · rw [if_neg c]; exact ⟨fun _ => c, fun _ => rfl⟩
theorem st_breach : LS_breach Inv := by
  intro k s p hk hI
  obtain ⟨rn, h⟩ := hI
  have h := InvR_mono h
  have w := h.w
  have hF := w.F8
  have hP := w.P7
  unfold f_X11_breach f_X12_breach
  simp only [m_isTown w.F1 (show mF (s.1 258) < 2 ^ 31 by omega), am_bds, c_isBit, m_in01]
  by_cases h0 : 0 < mF (s.1 258)
  · simp only [am_iff (fun z => (town0 h).mp z h0), am_b1 h0]
    by_cases h1 : p = 0 ∨ p = 1
    · simp only [am_b1 h1]
      have hl := h.f.2.2.1 h0
      have e7 : s.1 24 7 = s.1 258 9 := hl.1
      rcases h.l.2.2.1 h0 with h9 | h9
      · exact ⟨-2, by rw [e7, h9, am_ift rfl], by rw [h9, am_iff (by decide)], rn, h⟩
      · have hq := h9.2
        have ne : s.1 258 9 ≠ -1 := by
          rw [h9.e]
          intro z
          have := nI_pos (n := mN (s.1 258) 9) (by omega)
          rw [z] at this
          exact this (by decide)
        have e6 : s.1 24 6 = s.1 258 8 := hl.2 ne
        simp only [e7, e6, am_iff ne, am_ift (show 0 ≤ s.1 258 9 by rw [h9.e]; exact nI_pos' (by omega))]
        rcases h1 with rfl | rfl
        · exact ⟨_, am_ift rfl, rfl, rn, h⟩
        · exact ⟨_, am_iff (by decide), rfl, rn, h⟩
    · simp only [am_b0 h1]
      exact ⟨-1, rfl, rfl, rn, h⟩
  · simp only [am_ift ((town0 h).mpr h0), am_b0 h0]
    exact ⟨-1, rfl, rfl, rn, h⟩
