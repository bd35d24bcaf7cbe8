/-! the class's tokens -/
theorem rd_i (s : am_S) (a k : Nat) (v : Int32) (b j : Nat) : (as_i s a k v).1 b j = if b = a ∧ j = k then v else s.1 b j := by
  by_cases h : b = a
  · subst h
    by_cases h2 : j = k
    · subst h2; rw [if_pos ⟨rfl, rfl⟩, as_i3]
    · rw [if_neg (fun z => h2 z.2), as_i2 h2]
  · rw [if_neg (fun z => h z.1), as_i1 h]
section TK
variable (c : Nat → Int32) (T : Nat)
/-- the first n digits from p on -/
def nv (p : Nat) : Nat → Nat
  | 0 => 0
  | n + 1 => 10 * nv p n + ((c (p + n)).toNatClampNeg - 48)
def sgn (p : Nat) : Nat := if c p = nI 61 then 12 else if c p = nI 60 then (if en c T p = p + 1 then 10 else 11) else if en c T p = p + 1 then 14 else 13
def KD (p : Nat) : Nat := if p < T then (if LE (c p) = true then 1 else if DI (c p) = true then (if en c T p ≤ p + 5 then 2 else 3) else if isSg (c p) = true then 4 else 5) else 0
def VL (p : Nat) : Int32 := if p < T then (if LE (c p) = true then wnI (wn c p (en c T p)) else if DI (c p) = true then (if en c T p ≤ p + 5 then nI (nv c p (en c T p - p)) else nI (en c T p - p)) else if isSg (c p) = true then nI (sgn c T p) else c p) else 1
def tokAt (n : Nat) (s : am_S) : Prop := s.1 2 3 = nI (n + 1) ∧ ∀ i, i ≤ n → s.1 3 i = nI (KD c T (tp c T i)) ∧ s.1 4 i = VL c T (tp c T i) ∧ s.1 5 i = nI (tp c T i)
end TK
section TL
variable {c : Nat → Int32} {T : Nat}
theorem nv_lt {p : Nat} (h : ∀ q, p ≤ q → DI (c q) = true → True) : ∀ n, (∀ q, p ≤ q → q < p + n → DI (c q) = true) → nv c p n < 10 ^ n
  | 0, _ => by simp [nv]
  | n + 1, hd => by
    have ih := nv_lt h n (fun q h1 h2 => hd q h1 (by omega))
    obtain ⟨j, j1, j2, j3⟩ := DI_of (hd (p + n) (by omega) (by omega))
    rw [nv, j3, cL (by omega), Nat.pow_succ]
    omega
theorem p10_5 {n : Nat} (h : n ≤ 5) : 10 ^ n ≤ 100000 := by
  have : (10 : Nat) ^ n ≤ 10 ^ 5 := Nat.pow_le_pow_right (by decide) h
  simpa using this
theorem nv_le {p n : Nat} (hn : n ≤ 5) (hd : ∀ q, p ≤ q → q < p + n → DI (c q) = true) : nv c p n < 100000 := Nat.lt_of_lt_of_le (nv_lt (fun _ _ _ => trivial) n hd) (p10_5 hn)
theorem dig_sub {j : Nat} (h : 48 ≤ j) : nI j - nI 48 = nI (j - 48) := by
  obtain ⟨d, rfl⟩ : ∃ d, j = d + 48 := ⟨j - 48, by omega⟩
  rw [Nat.add_sub_cancel, ← nI_add, Int32.add_sub_cancel]
theorem c_numberOf {p e : Nat} {s : am_S} (hc : ∀ j, j < T → s.1 1 j = c j) (hT : T ≤ 400) (he : e ≤ T) (hp : p ≤ e) (h5 : e ≤ p + 5) (hd : ∀ q, p ≤ q → q < e → DI (c q) = true) : f_X7_numberOf (nI p) (nI e) s = some (nI (nv c p (e - p))) := by
  unfold f_X7_numberOf
  have e4 : am_F = 4000 := rfl
  have := am_lp_run (body := fun (q : Int32 × Int32) => b_X7_numberOf_5 (nI e) s q.1 q.2) (fun i => (nI (nv c p i), nI (p + i))) (e - p) (e := nI (nv c p (e - p))) (fun i hi => by
    dsimp only
    unfold b_X7_numberOf_5
    obtain ⟨j, j1, j2, j3⟩ := DI_of (hd (p + i) (by omega) (by omega))
    rw [am_iff (nI_ge (by omega) (by omega)), gd_nI (by omega) (by decide), cL (by omega), hc _ (by omega), am_ltd, am_ltd, j3, dig_sub j1, pk_mul, nI_add, nI_1, nv, j3, cL (by omega), Nat.mul_comm 10, Nat.add_assoc p i 1]) (by
    dsimp only
    unfold b_X7_numberOf_5
    rw [am_ift (nI_le (by omega) (by omega))]) (F := am_F) (by omega)
  exact this
theorem c_signStep {p : Nat} (hS : isSg (c p) = true) (he : en c T p = p + 1 ∨ en c T p = p + 2) : f_X7_signStep (c p) (nI (en c T p - p)) = some (nI (sgn c T p)) := by
  unfold f_X7_signStep sgn
  by_cases c1 : c p = nI 61
  · rw [am_ift c1, if_pos c1]
  · rw [am_iff c1, if_neg c1]
    have k1 : en c T p = p + 1 → nI (en c T p - p) = (1 : Int32) := fun z => by rw [z, show p + 1 - p = 1 by omega]; rfl
    have k2 : ¬ en c T p = p + 1 → ¬ nI (en c T p - p) = (1 : Int32) := fun z => by
      have z2 : en c T p = p + 2 := by omega
      rw [z2, show p + 2 - p = 2 by omega]
      decide
    by_cases c2 : c p = nI 60
    · rw [am_ift c2, if_pos c2]
      by_cases c3 : en c T p = p + 1
      · rw [am_ift (k1 c3), if_pos c3]
      · rw [am_iff (k2 c3), if_neg c3]
    · rw [am_iff c2, if_neg c2]
      by_cases c3 : en c T p = p + 1
      · rw [am_ift (k1 c3), if_pos c3]
      · rw [am_iff (k2 c3), if_neg c3]
theorem c_begin {k at_ : Int32} {m : Nat} {s : am_S} (h : s.1 2 3 = nI m) (hm : m < 401) : ∃ s2, f_X7_begin k at_ s = some s2 ∧ (∀ b j, s2.1 b j = if b = 3 ∧ j = m then k else if b = 4 ∧ j = m then 1 else if b = 5 ∧ j = m then at_ else if b = 2 ∧ j = 3 then nI (m + 1) else s.1 b j) ∧ s2.2 = s.2 := by
  refine ⟨as_i (as_i (as_i (as_i s 3 m k) 4 m 1) 5 m at_) 2 3 (nI (m + 1)), ?_, fun b j => ?_, rfl⟩
  · unfold f_X7_begin
    rw [h, am_iff (nI_ge hm (by decide)), gd_nI hm (by decide), cL (by omega), am_ltd]
    have x1 : (as_i s 3 m k).1 2 3 = nI m := by rw [as_i1 (by decide)]; exact h
    rw [x1, gd_nI hm (by decide), cL (by omega), am_ltd]
    have x2 : (as_i (as_i s 3 m k) 4 m 1).1 2 3 = nI m := by rw [as_i1 (by decide)]; exact x1
    rw [x2, gd_nI hm (by decide), cL (by omega), am_ltd]
    have x3 : (as_i (as_i (as_i s 3 m k) 4 m 1) 5 m at_).1 2 3 = nI m := by rw [as_i1 (by decide)]; exact x2
    rw [x3, am_ltd, nI_1]
  · rw [rd_i, rd_i, rd_i, rd_i]
    by_cases a3 : b = 3 ∧ j = m
    · obtain ⟨rfl, rfl⟩ := a3
      simp
    · by_cases a4 : b = 4 ∧ j = m
      · obtain ⟨rfl, rfl⟩ := a4
        simp
      · by_cases a5 : b = 5 ∧ j = m
        · obtain ⟨rfl, rfl⟩ := a5
          simp
        · by_cases a2 : b = 2 ∧ j = 3
          · obtain ⟨rfl, rfl⟩ := a2
            simp
          · simp only [if_neg a2, if_neg a3, if_neg a4, if_neg a5]
theorem gO_32 (h : Int32) : gO (nI 32) h = false := by
  rw [gO_no (LE_nI (by decide) (by decide)) (DI_nI (by decide) (by decide))]
  rw [show decide (nI 32 = nI 60) = false by decide, show decide (nI 32 = nI 62) = false by decide]
  simp
end TL
