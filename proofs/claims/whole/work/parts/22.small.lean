/-! small functions -/
def b01 (c : Prop) [Decidable c] : Int32 := if c then 1 else 0
theorem b01_t {c : Prop} [Decidable c] (h : c) : b01 c = 1 := if_pos h
theorem b01_f {c : Prop} [Decidable c] (h : ¬ c) : b01 c = 0 := if_neg h
theorem b01_eq0 {c : Prop} [Decidable c] : b01 c = 0 ↔ ¬ c := by unfold b01; split <;> simp_all
theorem b01_z {c : Prop} [Decidable c] : b01 c = 0 ∨ b01 c = 1 := by unfold b01; split <;> simp
/-- a number of those below P -/
abbrev inP (p : Int32) (P : Nat) : Prop := ¬ p < 0 ∧ ¬ nI P ≤ p
theorem inP_of {p : Int32} {P : Nat} (h : inP p P) (hP : P < 2 ^ 31) : ∃ j, j < P ∧ p = nI j := by
  rcases pk_ix p hP with h1 | h1 | h1
  · exact absurd h1 h.1
  · exact absurd h1 h.2
  · exact h1
theorem inP_nI {j P : Nat} (h : j < P) (hP : P < 2 ^ 31) : inP (nI j) P := ⟨nI_pos (by omega), nI_ge h hP⟩
theorem c_hasPerson {a P : Nat} {p : Int32} {s : am_S} (ha : a ∈ am_isT) (h : s.1 a 3 = nI P) : f_X8_hasPerson a p s = some (b01 (inP p P)) := by
  unfold f_X8_hasPerson
  rw [am_gdt ha, h]
  by_cases h1 : p < 0
  · rw [am_ift h1, b01_f (fun z => z.1 h1)]
  · rw [am_iff h1]
    by_cases h2 : nI P ≤ p
    · rw [am_ift h2, b01_f (fun z => z.2 h2)]
    · rw [am_iff h2, b01_t ⟨h1, h2⟩]
theorem m_isPerson {P : Nat} {p : Int32} {s : am_S} (h : s.1 258 2 = nI P) : f_X12_isPerson p s = some (b01 (inP p P)) := by
  unfold f_X12_isPerson
  rw [h]
  by_cases h1 : p < 0
  · rw [am_ift h1, b01_f (fun z => z.1 h1)]
  · rw [am_iff h1]
    by_cases h2 : nI P ≤ p
    · rw [am_ift h2, b01_f (fun z => z.2 h2)]
    · rw [am_iff h2, b01_t ⟨h1, h2⟩]
theorem c_hasFact {F : Nat} {p : Int32} {s : am_S} (h : s.1 16 1 = nI F) : f_X8_hasFact p s = some (b01 (inP p F)) := by
  unfold f_X8_hasFact
  rw [h]
  by_cases h1 : p < 0
  · rw [am_ift h1, b01_f (fun z => z.1 h1)]
  · rw [am_iff h1]
    by_cases h2 : nI F ≤ p
    · rw [am_ift h2, b01_f (fun z => z.2 h2)]
    · rw [am_iff h2, b01_t ⟨h1, h2⟩]
theorem m_isFact {F : Nat} {p : Int32} {s : am_S} (h : s.1 258 0 = nI F) : f_X12_isFact p s = some (b01 (inP p F)) := by
  unfold f_X12_isFact
  rw [h]
  by_cases h1 : p < 0
  · rw [am_ift h1, b01_f (fun z => z.1 h1)]
  · rw [am_iff h1]
    by_cases h2 : nI F ≤ p
    · rw [am_ift h2, b01_f (fun z => z.2 h2)]
    · rw [am_iff h2, b01_t ⟨h1, h2⟩]
theorem c_hasRule {R : Nat} {p : Int32} {s : am_S} (h : s.1 0 5 = nI R) : f_X11_hasRule p s = some (b01 (inP p R)) := by
  unfold f_X11_hasRule
  rw [h]
  by_cases h1 : p < 0
  · rw [am_ift h1, b01_f (fun z => z.1 h1)]
  · rw [am_iff h1]
    by_cases h2 : nI R ≤ p
    · rw [am_ift h2, b01_f (fun z => z.2 h2)]
    · rw [am_iff h2, b01_t ⟨h1, h2⟩]
theorem m_isRule {R : Nat} {p : Int32} {s : am_S} (h : s.1 248 2 = nI R) : f_X12_isRule p s = some (b01 (inP p R)) := by
  unfold f_X12_isRule
  rw [h]
  by_cases h1 : p < 0
  · rw [am_ift h1, b01_f (fun z => z.1 h1)]
  · rw [am_iff h1]
    by_cases h2 : nI R ≤ p
    · rw [am_ift h2, b01_f (fun z => z.2 h2)]
    · rw [am_iff h2, b01_t ⟨h1, h2⟩]
theorem c_isBit (p : Int32) : f_X11_isBit p = some (b01 (p = 0 ∨ p = 1)) := by
  unfold f_X11_isBit
  by_cases h1 : p = 0
  · rw [am_ift h1, b01_t (Or.inl h1)]
  · rw [am_iff h1]
    by_cases h2 : p = 1
    · rw [am_ift h2, b01_t (Or.inr h2)]
    · rw [am_iff h2, b01_f (fun z => z.elim h1 h2)]
theorem c_bit (a b : Int32) : f_X11_bit a b = some ((a >>> (b &&& 31)) &&& 1) := rfl
theorem m_isTown {F : Nat} {s : am_S} (h : s.1 258 0 = nI F) (hF : F < 2 ^ 31) : f_X12_isTown s = some (b01 (0 < F)) := by
  unfold f_X12_isTown
  rw [h]
  by_cases h1 : 0 < F
  · rw [am_iff (nI_nle h1 hF), b01_t h1]
  · rw [show F = 0 by omega]
    rfl
theorem l_of (p : Int32) : p.toInt64.toInt = p.toInt := by simp
theorem lg_lt {u v : Int64} : lg_cmp u v < 0 ↔ u < v := by
  have h := lg_cmp_ge u v
  rw [← Int32.not_le, h, Int64.not_le]
theorem lg_gt {u v : Int64} : 0 < lg_cmp u v ↔ v < u := by
  unfold lg_cmp
  by_cases h1 : u > v
  · rw [if_pos h1]
    exact ⟨fun _ => h1, fun _ => by decide⟩
  · rw [if_neg h1]
    refine ⟨fun h => ?_, fun h => absurd h h1⟩
    split at h <;> exact absurd h (by decide)
theorem m_in (p a b : Int32) : f_X12_in p.toInt64 a.toInt64 b.toInt64 = some (b01 (a ≤ p ∧ p ≤ b)) := by
  unfold f_X12_in
  have e1 : (lg_cmp p.toInt64 a.toInt64 < 0) ↔ p < a := by rw [lg_lt, Int64.lt_iff_toInt_lt, Int32.lt_iff_toInt_lt, l_of, l_of]
  have e2 : (0 < lg_cmp p.toInt64 b.toInt64) ↔ b < p := by rw [lg_gt, Int64.lt_iff_toInt_lt, Int32.lt_iff_toInt_lt, l_of, l_of]
  by_cases h1 : p < a
  · rw [am_ift (e1.mpr h1), b01_f (fun z => Int32.not_lt.mpr z.1 h1)]
  · rw [am_iff (fun z => h1 (e1.mp z))]
    by_cases h2 : b < p
    · rw [am_ift (e2.mpr h2), b01_f (fun z => Int32.not_lt.mpr z.2 h2)]
    · rw [am_iff (fun z => h2 (e2.mp z)), b01_t ⟨Int32.not_lt.mp h1, Int32.not_lt.mp h2⟩]
