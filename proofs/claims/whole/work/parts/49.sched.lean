/-! schedules -/
theorem nI_sub {a b : Nat} (ha : a < 2 ^ 31) : (nI a &&& (nI b ^^^ (-1 : Int32)) = 0) ↔ ∀ i, i < 31 → a.testBit i = true → b.testBit i = true := by
  have key : ∀ i, i < 32 → (nI a &&& (nI b ^^^ (-1 : Int32))).toBitVec.getLsbD i = (a.testBit i && !b.testBit i) := by
    intro i hi
    show ((BitVec.ofNat 32 a) &&& ((BitVec.ofNat 32 b) ^^^ (-1 : Int32).toBitVec)).getLsbD i = _
    rw [show (-1 : Int32).toBitVec = BitVec.allOnes 32 by decide, BitVec.getLsbD_and, BitVec.getLsbD_xor, BitVec.getLsbD_allOnes, BitVec.getLsbD_ofNat, BitVec.getLsbD_ofNat, decide_eq_true hi, Bool.true_and, Bool.true_and, Bool.xor_true]
  constructor
  · intro h i hi hb
    have := key i (by omega)
    rw [h] at this
    have z : (0 : Int32).toBitVec.getLsbD i = false := by
      show (BitVec.ofNat 32 0).getLsbD i = false
      simp
    rw [z, hb] at this
    simpa using this.symm
  · intro h
    apply Int32.toBitVec_inj.mp
    apply BitVec.eq_of_getLsbD_eq
    intro i hi
    rw [key i hi]
    have z : (0 : Int32).toBitVec.getLsbD i = false := by
      show (BitVec.ofNat 32 0).getLsbD i = false
      simp
    rw [z]
    by_cases c : i < 31
    · by_cases ca : a.testBit i = true
      · rw [ca, h i c ca]; rfl
      · have : a.testBit i = false := by simpa using ca
        rw [this]; rfl
    · have : a.testBit i = false := Nat.testBit_lt_two_pow (Nat.lt_of_lt_of_le ha (pow_le (by omega)))
      rw [this]; rfl
theorem tb_bit {m : Nat → Int32} {v : Int32} {q : Nat} : (taleBits m v).testBit q = true ↔ q < 10 ∧ ∃ i, i < mN m 327 ∧ mN m (306 + 2 * i) = q ∧ m (306 + 2 * i + 1) = v := by
  unfold taleBits
  rw [bitsOf_bit, Bool.and_eq_true, decide_eq_true_eq, List.any_eq_true]
  constructor
  · rintro ⟨h1, i, h2, h3⟩
    rw [Bool.and_eq_true, beq_iff_eq, beq_iff_eq] at h3
    exact ⟨h1, i, List.mem_range.mp h2, h3.1, h3.2⟩
  · rintro ⟨h1, i, h2, h3, h4⟩
    exact ⟨h1, i, List.mem_range.mpr h2, by rw [Bool.and_eq_true, beq_iff_eq, beq_iff_eq]; exact ⟨h3, h4⟩⟩
def fitT (m : Nat → Int32) (set n : Nat) : Prop := ∀ i, i < mN m 327 → mN m (306 + 2 * i) < n ∧ (set.testBit (mN m (306 + 2 * i)) = true ↔ m (306 + 2 * i + 1) = 1)
theorem and_zb {a b : Nat} : a &&& b = 0 ↔ ∀ q, a.testBit q = true → b.testBit q = false := by
  constructor
  · intro h q hq
    have : (a &&& b).testBit q = false := by rw [h, Nat.zero_testBit]
    rw [Nat.testBit_and, hq] at this
    simpa using this
  · intro h
    apply Nat.eq_of_testBit_eq
    intro q
    rw [Nat.testBit_and, Nat.zero_testBit]
    by_cases c : a.testBit q = true
    · rw [c, h q c]; rfl
    · have : a.testBit q = false := by simpa using c
      rw [this]; rfl
theorem c_fitsTales {m : Nat → Int32} {s : am_S} {set n : Nat} (sw : wfS m) (h7 : s.1 15 7 = nI (taleBits m 1)) (h8 : s.1 15 8 = nI (taleBits m 0)) (hn : n ≤ 10) (hs : set < 2 ^ n) : ∃ c : Prop, ∃ _ : Decidable c, (c ↔ fitT m set n) ∧ f_X5_fitsTales (nI set) (nI (2 ^ n - 1)) s = some (b01 c) := by
  have t1 := taleBits_lt m 1
  have t0 := taleBits_lt m 0
  have hor : taleBits m 1 ||| taleBits m 0 < 1024 := Nat.or_lt_two_pow (n := 10) t1 t0
  have hle : taleBits m 0 &&& set ≤ taleBits m 0 := Nat.and_le_left
  refine ⟨(nI (taleBits m 1 ||| taleBits m 0) &&& (nI (2 ^ n - 1) ^^^ (-1 : Int32)) = 0) ∧ (nI (taleBits m 1) &&& (nI set ^^^ (-1 : Int32)) = 0) ∧ (nI (taleBits m 0 &&& set) = 0), inferInstance, ?_, ?_⟩
  · rw [nI_sub (by omega), nI_sub (by omega), show (nI (taleBits m 0 &&& set) = 0) = (nI (taleBits m 0 &&& set) = nI 0) from rfl, nI_eq (by omega) (by decide), and_zb]
    constructor
    · rintro ⟨g1, g2, g3⟩ i hi
      obtain ⟨w1, w2⟩ := sw.2.2.2 i hi
      have pl := w1.2
      rcases w2 with z | z
      · have hb : (taleBits m 0).testBit (mN m (306 + 2 * i)) = true := tb_bit.mpr ⟨pl, i, hi, rfl, z⟩
        have hl := g1 _ (show mN m (306 + 2 * i) < 31 by omega) (by rw [Nat.testBit_or, hb, Bool.or_true])
        rw [Nat.testBit_two_pow_sub_one, decide_eq_true_eq] at hl
        refine ⟨hl, ?_⟩
        rw [g3 _ hb, z]
        decide
      · have hb : (taleBits m 1).testBit (mN m (306 + 2 * i)) = true := tb_bit.mpr ⟨pl, i, hi, rfl, z⟩
        have hl := g1 _ (show mN m (306 + 2 * i) < 31 by omega) (by rw [Nat.testBit_or, hb, Bool.true_or])
        rw [Nat.testBit_two_pow_sub_one, decide_eq_true_eq] at hl
        refine ⟨hl, ?_⟩
        rw [g2 _ (by omega) hb, z]
        decide
    · intro h
      refine ⟨fun q hq hb => ?_, fun q hq hb => ?_, fun q hb => ?_⟩
      · rw [Nat.testBit_two_pow_sub_one, decide_eq_true_eq]
        rw [Nat.testBit_or, Bool.or_eq_true] at hb
        rcases hb with hb | hb
        · obtain ⟨-, i, hi, e, -⟩ := tb_bit.mp hb
          rw [← e]; exact (h i hi).1
        · obtain ⟨-, i, hi, e, -⟩ := tb_bit.mp hb
          rw [← e]; exact (h i hi).1
      · obtain ⟨-, i, hi, e, e2⟩ := tb_bit.mp hb
        rw [← e]; exact (h i hi).2.mpr e2
      · obtain ⟨-, i, hi, e, e2⟩ := tb_bit.mp hb
        have := (h i hi).2
        rw [e, e2] at this
        by_cases c : set.testBit q = true
        · exact absurd (this.mp c) (by decide)
        · simpa using c
  · unfold f_X5_fitsTales j_X5_fitsTales_21
    rw [h7, h8, nI_or, nI_and]
    by_cases c1 : nI (taleBits m 1 ||| taleBits m 0) &&& (nI (2 ^ n - 1) ^^^ (-1 : Int32)) = 0
    · rw [am_ift c1, am_ift rfl]
      by_cases c2 : nI (taleBits m 1) &&& (nI set ^^^ (-1 : Int32)) = 0
      · rw [am_ift c2]
        by_cases c3 : nI (taleBits m 0 &&& set) = 0
        · rw [am_ift c3, b01_t ⟨c1, c2, c3⟩]
        · rw [am_iff c3, b01_f (fun z => c3 z.2.2)]
      · rw [am_iff c2, b01_f (fun z => c2 z.2.1)]
    · rw [am_iff c1, am_iff (by decide), b01_f (fun z => c1 z.1)]
theorem m_fitsTales {m : Nat → Int32} {s : am_S} {set n : Nat} (hm : s.1 258 = m) (sw : wfS m) (hn : n ≤ 10) (hs : set < 1024) : ∃ c : Prop, ∃ _ : Decidable c, (c ↔ fitT m set n) ∧ f_X12_fitsTales (nI set) (nI n) s = some (b01 c) := by
  have e4 : am_F = 4000 := rfl
  have hc := sw.2.1.2
  refine ⟨fitT m set n, Classical.propDecidable _, Iff.rfl, ?_⟩
  unfold f_X12_fitsTales
  have key := lp_ind (body := fun (q : Int32) => b_X12_fitsTales_2 (nI set) (nI n) s q) (mN m 327) (fun i x => x = nI i ∧ ∀ j, j < i → mN m (306 + 2 * j) < n ∧ (set.testBit (mN m (306 + 2 * j)) = true ↔ m (306 + 2 * j + 1) = 1)) (fun e => e = @b01 (fitT m set n) (Classical.propDecidable _)) ?_ ?_ (F := am_F) (by omega) (0 : Int32) ⟨rfl, fun c hc => by omega⟩
  · obtain ⟨e, h1, rfl⟩ := key
    exact h1
  · rintro i hi x ⟨rfl, h4⟩
    obtain ⟨w1, w2⟩ := sw.2.2.2 i hi
    have pl := w1.2
    unfold b_X12_fitsTales_2
    rw [hm, sw.2.1.1, am_iff (nI_ge hi (by omega))]
    simp (disch := omega) only [am_ltd, pk_mul, nI_add, nI_1, gd2, cL]
    rw [w1.e]
    by_cases c1 : n ≤ mN m (306 + 2 * i)
    · right
      refine ⟨_, am_ift (nI_le c1 (by omega)), (@b01_f _ (Classical.propDecidable _) ?_).symm⟩
      intro z
      have := (z i hi).1
      omega
    · rw [am_iff (nI_ge (by omega) (by omega)), bitb (by omega) (by omega)]
      have hiff : (b01 (set.testBit (mN m (306 + 2 * i)) = true) = m (306 + 2 * i + 1)) ↔ (set.testBit (mN m (306 + 2 * i)) = true ↔ m (306 + 2 * i + 1) = 1) := by
        by_cases cb : set.testBit (mN m (306 + 2 * i)) = true
        · rw [b01_t cb]
          rcases w2 with z | z
          · rw [z, cb]; decide
          · rw [z, cb]; decide
        · rw [b01_f cb]
          rcases w2 with z | z
          · rw [z]
            exact ⟨fun _ => ⟨fun y => absurd y cb, fun y => absurd y (by decide)⟩, fun _ => rfl⟩
          · rw [z]
            exact ⟨fun y => absurd y (by decide), fun y => absurd (y.mpr rfl) cb⟩
      by_cases c2 : b01 (set.testBit (mN m (306 + 2 * i)) = true) = m (306 + 2 * i + 1)
      · left
        refine ⟨nI (i + 1), am_ift c2, rfl, fun j hj => ?_⟩
        by_cases e : j = i
        · subst e; exact ⟨by omega, hiff.mp c2⟩
        · exact h4 j (by omega)
      · right
        refine ⟨_, am_iff c2, (@b01_f _ (Classical.propDecidable _) ?_).symm⟩
        intro z
        exact c2 (hiff.mpr (z i hi).2)
  · rintro x ⟨rfl, h4⟩
    refine ⟨1, ?_, (@b01_t _ (Classical.propDecidable _) h4).symm⟩
    unfold b_X12_fitsTales_2
    rw [hm, sw.2.1.1, am_ift (nI_le (Nat.le_refl _) (by omega))]
/-- what fits, and what all of it has -/
noncomputable def schF (m : Nat → Int32) (n : Nat) (p2 : Int32) : Nat → Int32 × Int32
  | 0 => (0, nI (2 ^ n - 1))
  | i + 1 => @ite _ (nI (pc i) = p2 ∧ fitT m i n) (Classical.propDecidable _) ((schF m n p2 i).1 + 1, (schF m n p2 i).2 &&& nI i) (schF m n p2 i)
theorem schF_t {m : Nat → Int32} {n i : Nat} {p2 : Int32} (h : nI (pc i) = p2 ∧ fitT m i n) : schF m n p2 (i + 1) = ((schF m n p2 i).1 + 1, (schF m n p2 i).2 &&& nI i) := by
  rw [schF]
  exact @if_pos _ (Classical.propDecidable _) h _ _ _
theorem schF_f {m : Nat → Int32} {n i : Nat} {p2 : Int32} (h : ¬ (nI (pc i) = p2 ∧ fitT m i n)) : schF m n p2 (i + 1) = schF m n p2 i := by
  rw [schF]
  exact @if_neg _ (Classical.propDecidable _) h _ _ _
theorem st_schedules : LS_schedules Inv := by
  intro k s p q v hk hI
  obtain ⟨rn, h⟩ := hI
  have h := InvR_mono h
  have sw := h.s
  have cs := h.c
  have e4 : am_F = 4000 := rfl
  unfold f_X11_schedules f_X12_schedules
  have ein : f_X12_in p.toInt64 (1 : Int64) (10 : Int64) = some (b01 ((1 : Int32) ≤ p ∧ p ≤ 10)) := m_in p 1 10
  have ein2 : f_X12_in q.toInt64 (0 : Int64) p.toInt64 = some (b01 ((0 : Int32) ≤ q ∧ q ≤ p)) := m_in q 0 p
  rw [ein, am_bds, ein2, am_bds, m_in01, am_bds, c_isBit, am_bds]
  by_cases c1 : (1 : Int32) ≤ p ∧ p ≤ 10
  · rw [am_iff (Int32.not_lt.mpr c1.1), am_iff (show ¬ nI 10 < p from Int32.not_lt.mpr c1.2), am_b1 c1]
    by_cases c2 : (0 : Int32) ≤ q ∧ q ≤ p
    · rw [am_iff (Int32.not_lt.mpr c2.1), am_iff (Int32.not_lt.mpr c2.2), am_b1 c2]
      by_cases c3 : v = 0 ∨ v = 1
      · rw [am_b1 c3, am_b1 c3]
        obtain ⟨n, hn, rfl⟩ := nI_of2 (x := p) (M := 10) (n := 10) rfl (fun z => Int32.not_lt.mpr c1.1 (Int32.lt_trans z (by decide))) c1.2
        have h2n : 2 ^ n ≤ 1024 := pow_le (k := 10) hn
        have hpos : 0 < 2 ^ n := Nat.two_pow_pos _
        have e1 : nI (2 ^ n) - 1 = nI (2 ^ n - 1) := pk_sub (b := 1) (by omega)
        rw [sh_l (by omega), e1, am_ltd, am_ltd]
        refine ⟨if (schF (s.1 258) n q (2 ^ n)).1 = 0 then 0 else if v = 0 then (schF (s.1 258) n q (2 ^ n)).1 else (schF (s.1 258) n q (2 ^ n)).2, ?_, ?_, rn, h⟩
        · refine am_lp_run (F := am_F) (fun i => ((schF (s.1 258) n q i).1, (schF (s.1 258) n q i).2, nI i)) (2 ^ n) (fun i hi => ?_) ?_ (by omega)
          · dsimp only
            unfold b_X11_schedules_46
            obtain ⟨c, dc, g1, g2⟩ := c_fitsTales (s := s) (set := i) sw cs.2.2.2.2.1 cs.2.2.2.2.2.1 hn hi
            rw [am_iff (nI_nlt (by omega) (by omega)), (pc_ok i (by omega)).2.1, am_bds, g2, am_bds, am_ltd, nI_1, am_ltd, am_ltd]
            by_cases d1 : nI (pc i) = q
            · rw [am_ift d1]
              by_cases d2 : c
              · rw [am_b1 d2, schF_t ⟨d1, g1.mp d2⟩, am_ltd]
              · rw [am_b0 d2, schF_f (fun z => d2 (g1.mpr z.2))]
            · rw [am_iff d1, schF_f (fun z => d1 z.1)]
          · dsimp only
            unfold b_X11_schedules_46 j_X11_schedules_92
            rw [am_ift (nI_lt (by omega) (by omega))]
            by_cases d : (schF (s.1 258) n q (2 ^ n)).1 = 0
            · rw [am_ift d, if_pos d, am_bds]
            · rw [am_iff d, if_neg d]
              by_cases d0 : v = 0
              · rw [am_ift d0, if_pos d0, am_bds]
              · rw [am_iff d0, if_neg d0, am_bds]
        · refine am_lp_run (F := am_F) (fun i => ((schF (s.1 258) n q i).1, (schF (s.1 258) n q i).2, nI i)) (2 ^ n) (fun i hi => ?_) ?_ (by omega)
          · dsimp only
            unfold b_X12_schedules_48
            obtain ⟨c, dc, g1, g2⟩ := m_fitsTales (s := s) (set := i) (n := n) rfl sw hn (by omega)
            rw [sh_l (by omega), am_iff (nI_ge hi (by omega)), (pc_ok i (by omega)).1, am_bds, g2, am_bds, am_ltd, nI_1, am_ltd, am_ltd]
            by_cases d1 : nI (pc i) = q
            · rw [am_ift d1]
              by_cases d2 : c
              · rw [am_b1 d2, schF_t ⟨d1, g1.mp d2⟩, am_ltd]
              · rw [am_b0 d2, schF_f (fun z => d2 (g1.mpr z.2))]
            · rw [am_iff d1, schF_f (fun z => d1 z.1)]
          · dsimp only
            unfold b_X12_schedules_48 j_X12_schedules_94
            rw [sh_l (by omega), am_ift (nI_le (Nat.le_refl _) (by omega))]
            by_cases d : (schF (s.1 258) n q (2 ^ n)).1 = 0
            · rw [am_ift d, if_pos d]
              by_cases d0 : v = 0
              · rw [am_ift d0, am_bds, d]
              · rw [am_iff d0, am_bds]
            · rw [am_iff d, if_neg d]
              by_cases d0 : v = 0
              · rw [am_ift d0, if_pos d0, am_bds]
              · rw [am_iff d0, if_neg d0, am_bds]
      · rw [am_b0 c3, am_b0 c3]
        exact ⟨-1, rfl, rfl, rn, h⟩
    · refine ⟨-1, ?_, am_b0 c2, rn, h⟩
      by_cases d1 : q < 0
      · rw [am_ift d1]
      · rw [am_iff d1, am_ift (Int32.not_le.mp (fun z => c2 ⟨Int32.not_lt.mp d1, z⟩))]
  · refine ⟨-1, ?_, am_b0 c1, rn, h⟩
    by_cases d1 : p < 1
    · rw [am_ift d1]
    · rw [am_iff d1, am_ift (show nI 10 < p from Int32.not_le.mp (fun z => c1 ⟨Int32.not_lt.mp d1, z⟩))]
