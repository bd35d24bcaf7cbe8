/-! bits -/
theorem sm32 : ∀ q, q < 32 → ((nI q).toBitVec.smod 32).toNat = q := by decide +kernel
theorem sh_mask {q : Nat} (h : q < 32) : nI q &&& 31 = nI q := by
  rw [pk_andN (by omega) 5 (by decide), Nat.mod_eq_of_lt (by omega)]
theorem sh_r {n q : Nat} (hn : n < 2 ^ 31) (hq : q < 32) : nI n >>> (nI q &&& 31) = nI (n / 2 ^ q) := by
  rw [sh_mask hq]
  exact pk_shrN hn (nI q) q (sm32 q hq)
theorem sh_l {q : Nat} (hq : q < 31) : (1 : Int32) <<< (nI q &&& 31) = nI (2 ^ q) := by
  rw [sh_mask (by omega)]
  have h := pk_shlN (n := 1) (nI q) q (sm32 q (by omega)) (by
    rw [Nat.one_mul]
    exact Nat.pow_lt_pow_right (by decide) (by omega))
  rw [Nat.one_mul] at h
  exact h
theorem bit1 {n q : Nat} (hn : n < 2 ^ 31) (hq : q < 32) : (nI n >>> (nI q &&& 31)) &&& 1 = nI (n / 2 ^ q % 2) := by
  rw [sh_r hn hq]
  have h : n / 2 ^ q < 2 ^ 32 := Nat.lt_of_le_of_lt (Nat.div_le_self _ _) (by omega)
  exact pk_andN h 1 (by decide)
theorem nI_or (a b : Nat) : nI a ||| nI b = nI (a ||| b) := by
  apply Int32.toBitVec_inj.mp
  show (BitVec.ofNat 32 a) ||| (BitVec.ofNat 32 b) = BitVec.ofNat 32 (a ||| b)
  apply BitVec.eq_of_getLsbD_eq
  intro i hi
  simp [hi]
theorem nI_and (a b : Nat) : nI a &&& nI b = nI (a &&& b) := by
  apply Int32.toBitVec_inj.mp
  show (BitVec.ofNat 32 a) &&& (BitVec.ofNat 32 b) = BitVec.ofNat 32 (a &&& b)
  apply BitVec.eq_of_getLsbD_eq
  intro i hi
  simp [hi]
theorem or_pow {a o : Nat} (h : a < 2 ^ o) : nI a ||| nI (2 ^ o) = nI (a + 2 ^ o) := by
  rw [nI_or]
  have h2 := Nat.two_pow_add_eq_or_of_lt h 1
  rw [Nat.mul_one] at h2
  rw [Nat.or_comm, ← h2, Nat.add_comm]
theorem bitsOf_lt (P : Nat → Bool) : ∀ n, bitsOf P n < 2 ^ n
  | 0 => Nat.one_pos
  | n + 1 => by
    have := bitsOf_lt P n
    unfold bitsOf
    rw [Nat.pow_succ]
    split <;> omega
theorem bitsOf_congr {P Q : Nat → Bool} : ∀ n, (∀ i, i < n → P i = Q i) → bitsOf P n = bitsOf Q n
  | 0, _ => rfl
  | n + 1, h => by unfold bitsOf; rw [bitsOf_congr n (fun i hi => h i (by omega)), h n (by omega)]
theorem bitsOf_bit (P : Nat → Bool) : ∀ n q, (bitsOf P n).testBit q = (decide (q < n) && P q)
  | 0, q => by simp [bitsOf]
  | n + 1, q => by
    have h := bitsOf_lt P n
    have ih := bitsOf_bit P n
    unfold bitsOf
    by_cases hp : P n = true
    · rw [if_pos hp, Nat.add_comm]
      have h2 := Nat.two_pow_add_eq_or_of_lt h 1
      rw [Nat.mul_one] at h2
      rw [h2, Nat.testBit_or, ih q, Nat.testBit_two_pow]
      by_cases e : n = q
      · subst e; simp [hp]
      · by_cases e2 : q < n
        · simp [e, e2, Nat.lt_succ_of_lt e2]
        · have : ¬ q < n + 1 := by omega
          simp [e, e2, this]
    · rw [if_neg hp, Nat.add_zero, ih q]
      by_cases e : n = q
      · subst e
        have : P n = false := by simpa using hp
        simp [this]
      · by_cases e2 : q < n
        · simp [e2, Nat.lt_succ_of_lt e2]
        · have : ¬ q < n + 1 := by omega
          simp [e2, this]
theorem bitsOf_more {P : Nat → Bool} {n : Nat} : ∀ d, (∀ i, n ≤ i → i < n + d → P i = false) → bitsOf P (n + d) = bitsOf P n
  | 0, _ => rfl
  | d + 1, h => by
    have e : bitsOf P (n + d + 1) = bitsOf P (n + d) + (if P (n + d) then 2 ^ (n + d) else 0) := rfl
    show bitsOf P (n + d + 1) = _
    rw [e, bitsOf_more d (fun i h1 h2 => h i h1 (by omega)), h (n + d) (by omega) (by omega)]
    simp
theorem div_bit (n q : Nat) : n / 2 ^ q % 2 = if n.testBit q then 1 else 0 := by
  rw [Nat.testBit_eq_decide_div_mod_eq]
  have : n / 2 ^ q % 2 < 2 := Nat.mod_lt _ (by decide)
  by_cases h : n / 2 ^ q % 2 = 1
  · simp [h]
  · have h0 : n / 2 ^ q % 2 = 0 := by omega
    simp [h0]
theorem bitb {n q : Nat} (hn : n < 2 ^ 31) (hq : q < 32) : (nI n >>> (nI q &&& 31)) &&& 1 = b01 (n.testBit q = true) := by
  rw [bit1 hn hq, div_bit]
  unfold b01
  split <;> rfl
/-! streets -/
def okS (m : Nat → Int32) : Prop := mP m ≤ 7 ∧ mS m ≤ 10 ∧ m 2 = nI (mP m) ∧ m 3 = nI (mS m) ∧ ∀ i, i < mS m → isN m (179 + 2 * i) (mP m) ∧ isN m (179 + 2 * i + 1) (mP m) ∧ mA m i ≠ mB m i
theorem wfT.okS {m : Nat → Int32} (h : wfT m) : okS m := ⟨by have := h.2.2.1.2; unfold mP; omega, by have := h.2.2.2.1.2; unfold mS; omega, h.2.2.1.1, h.2.2.2.1.1, h.2.2.2.2.2.2.2.2.2.1⟩
theorem hasSt_self {m : Nat → Int32} (ho : okS m) (p : Nat) : hasSt m p p = false := by
  unfold hasSt
  rw [List.any_eq_false]
  intro i hi
  have h := (ho.2.2.2.2 i (List.mem_range.mp hi)).2.2
  simp only [joins, Bool.or_eq_true, Bool.and_eq_true, beq_iff_eq, not_or, not_and]
  exact ⟨fun h1 h2 => h (h1.trans h2.symm), fun h1 h2 => h (h1.trans h2.symm)⟩
theorem hasSt_out {m : Nat → Int32} (ho : okS m) {p q : Nat} (hq : mP m ≤ q) : hasSt m p q = false := by
  unfold hasSt
  rw [List.any_eq_false]
  intro i hi
  have h := ho.2.2.2.2 i (List.mem_range.mp hi)
  have h1 := h.1.2
  have h2 := h.2.1.2
  simp only [joins, Bool.or_eq_true, Bool.and_eq_true, beq_iff_eq, not_or, not_and]
  exact ⟨fun _ h3 => by show False; unfold mB at h3; omega, fun h3 => by exfalso; unfold mA at h3; omega⟩
theorem hasSt_comm (m : Nat → Int32) (p q : Nat) : hasSt m p q = hasSt m q p := by
  unfold hasSt
  congr 1
  funext i
  unfold joins
  rw [Bool.or_comm]
theorem m_streetOf {m : Nat → Int32} {s : am_S} {p q : Nat} (hm : s.1 258 = m) (ho : okS m) (hp : p < 7) (hq : q < 7) : ∃ v, f_X12_streetOf (nI p) (nI q) s = some v ∧ (0 ≤ v ↔ hasSt m p q = true) := by
  have hP := ho.1
  have hS := ho.2.1
  have e4 : am_F = 4000 := rfl
  have step : ∀ i, i < mS m → b_X12_streetOf_2 (nI p) (nI q) s (nI i) = if joins m i p q then some (.inr (nI i)) else some (.inl (nI (i + 1))) := by
    intro i hi
    obtain ⟨h1, h2, -⟩ := ho.2.2.2.2 i hi
    have l1 := h1.2
    have l2 := h2.2
    unfold b_X12_streetOf_2 j_X12_streetOf_54
    rw [hm, ho.2.2.2.1, am_iff (nI_ge hi (by omega))]
    simp (disch := omega) only [am_ltd, pk_mul, nI_add, nI_1, gd2, cL]
    rw [h1.e, h2.e]
    have e1 : ∀ a b : Nat, a < 2 ^ 31 → b < 2 ^ 31 → (nI a = nI b ↔ a = b) := fun a b ha hb => nI_eq ha hb
    have x1 := e1 (mN m (179 + 2 * i)) p (by omega) (by omega)
    have x2 := e1 (mN m (179 + 2 * i + 1)) q (by omega) (by omega)
    have x3 := e1 (mN m (179 + 2 * i)) q (by omega) (by omega)
    have x4 := e1 (mN m (179 + 2 * i + 1)) p (by omega) (by omega)
    simp only [am_ifd, x1, x2, x3, x4, joins, mA, mB]
    by_cases c1 : mN m (179 + 2 * i) = p <;> by_cases c2 : mN m (179 + 2 * i + 1) = q <;> by_cases c3 : mN m (179 + 2 * i) = q <;> by_cases c4 : mN m (179 + 2 * i + 1) = p <;> simp only [c1, c2, c3, c4, if_true, if_false, ↓reduceIte, beq_self_eq_true, Bool.and_self, Bool.or_true, Bool.true_or] <;> simp_all
  unfold f_X12_streetOf
  cases hf : (List.range (mS m)).find? (fun i => joins m i p q) with
  | none =>
    rw [List.find?_eq_none] at hf
    refine ⟨-1, am_lp_run (fun i => nI i) (mS m) (fun i hi => ?_) ?_ (by omega), ?_⟩
    · have := hf i (List.mem_range.mpr hi)
      rw [step i hi, if_neg this]
    · unfold b_X12_streetOf_2
      rw [hm, ho.2.2.2.1, am_ift (nI_le (Nat.le_refl _) (by omega))]
    · have h : hasSt m p q = false := by
        unfold hasSt
        rw [List.any_eq_false]
        exact hf
      rw [h]
      decide
  | some i =>
    rw [List.find?_range_eq_some] at hf
    obtain ⟨h1, h2, h3⟩ := hf
    have hi := List.mem_range.mp h2
    refine ⟨nI i, am_lp_run (fun i => nI i) i (fun j hj => ?_) ?_ (by omega), ?_⟩
    · have := h3 j hj
      rw [step j (by omega), if_neg (by simpa using this)]
    · rw [step i hi, if_pos h1]
    · have h : hasSt m p q = true := by
        unfold hasSt
        rw [List.any_eq_true]
        exact ⟨i, h2, h1⟩
      rw [h]
      exact ⟨fun _ => rfl, fun _ => nI_pos' (by omega)⟩
theorem nbr_lt (m : Nat → Int32) (p : Nat) : nbr m p < 128 := bitsOf_lt _ 7
theorem m_besides {m : Nat → Int32} {s : am_S} {p : Nat} (hm : s.1 258 = m) (ho : okS m) (hp : p < 7) : f_X12_besides (nI p) s = some (nI (nbr m p)) := by
  have hP := ho.1
  have e4 : am_F = 4000 := rfl
  have hn : nbr m p = bitsOf (fun q => hasSt m p q) (mP m) := by
    unfold nbr
    have h := bitsOf_more (P := fun q => hasSt m p q) (n := mP m) (7 - mP m) (fun i h1 _ => hasSt_out ho h1)
    rw [← h, show mP m + (7 - mP m) = 7 by omega]
  rw [hn]
  unfold f_X12_besides
  have e0 : ∀ a : Nat, nI a ||| 0 = nI a := fun a => by rw [show (0 : Int32) = nI 0 from rfl, nI_or, Nat.or_zero]
  refine am_lp_run (fun i => (nI (bitsOf (fun q => hasSt m p q) i), nI i)) (mP m) (fun i hi => ?_) ?_ (by omega)
  · have hlt := bitsOf_lt (fun q => hasSt m p q) i
    have es : bitsOf (fun q => hasSt m p q) (i + 1) = bitsOf (fun q => hasSt m p q) i + (if hasSt m p i then 2 ^ i else 0) := rfl
    dsimp only
    unfold b_X12_besides_4
    rw [hm, ho.2.2.1, am_iff (nI_ge hi (by omega))]
    simp only [am_ltd, nI_1, e0]
    by_cases c : i = p
    · subst c
      rw [am_ift rfl, es, hasSt_self ho]
      rfl
    · rw [am_iff (by rw [nI_eq (by omega) (by omega)]; exact c)]
      obtain ⟨v, h1, h2⟩ := m_streetOf hm ho hp (q := i) (by omega)
      rw [h1, am_bds, es]
      by_cases c3 : hasSt m p i = true
      · rw [am_iff (Int32.not_lt.mpr (h2.mpr c3)), sh_l (by omega), or_pow hlt, if_pos c3]
      · rw [am_ift (Int32.not_le.mp (fun z => c3 (h2.mp z))), if_neg c3]
        rfl
  · dsimp only
    unfold b_X12_besides_4
    rw [hm, ho.2.2.1, am_ift (nI_le (Nat.le_refl _) (by omega))]
