/-! texts: bytes, runs, tokens -/
def LE (v : Int32) : Bool := decide (¬ v < nI 97 ∧ ¬ nI 122 < v)
def DI (v : Int32) : Bool := decide (¬ v < nI 48 ∧ ¬ nI 57 < v)
def gO (b h : Int32) : Bool := if LE h then LE b else if DI h then DI b else decide (h = nI 61) && (decide (b = nI 60) || decide (b = nI 62))
def isSg (v : Int32) : Bool := decide (v = nI 60 ∨ v = nI 61 ∨ v = nI 62)
theorem x7_isLetter (v : Int32) : f_X7_isLetter v = some (b01 (LE v = true)) := by
  unfold f_X7_isLetter LE
  by_cases c1 : v < nI 97
  · rw [am_ift c1, b01_f (by simp [c1])]
  · rw [am_iff c1]
    by_cases c2 : nI 122 < v
    · rw [am_ift c2, b01_f (by simp [c2])]
    · rw [am_iff c2, b01_t (by simp [c1, c2])]
theorem x7_isDigit (v : Int32) : f_X7_isDigit v = some (b01 (DI v = true)) := by
  unfold f_X7_isDigit DI
  by_cases c1 : v < nI 48
  · rw [am_ift c1, b01_f (by simp [c1])]
  · rw [am_iff c1]
    by_cases c2 : nI 57 < v
    · rw [am_ift c2, b01_f (by simp [c2])]
    · rw [am_iff c2, b01_t (by simp [c1, c2])]
theorem DI_of {v : Int32} (h : DI v = true) : ∃ j, 48 ≤ j ∧ j ≤ 57 ∧ v = nI j := by
  simp only [DI, decide_eq_true_eq] at h
  obtain ⟨j, hj, rfl⟩ := nI_of2 (x := v) (M := nI 57) (n := 57) rfl (fun z => h.1 (Int32.lt_trans z (by decide))) (Int32.not_lt.mp h.2)
  refine ⟨j, ?_, hj, rfl⟩
  have := h.1
  rw [nI_ltI (by omega) (by decide)] at this
  omega
theorem LE_of {v : Int32} (h : LE v = true) : ∃ j, 97 ≤ j ∧ j ≤ 122 ∧ v = nI j := by
  simp only [LE, decide_eq_true_eq] at h
  obtain ⟨j, hj, rfl⟩ := nI_of2 (x := v) (M := nI 122) (n := 122) rfl (fun z => h.1 (Int32.lt_trans z (by decide))) (Int32.not_lt.mp h.2)
  refine ⟨j, ?_, hj, rfl⟩
  have := h.1
  rw [nI_ltI (by omega) (by decide)] at this
  omega
theorem LE_DI {v : Int32} (h : LE v = true) : DI v = false := by
  obtain ⟨j, h1, h2, rfl⟩ := LE_of h
  simp only [DI, decide_eq_false_iff_not, not_and]
  intro _ z
  rw [nI_ltI (by decide) (by omega)] at z
  omega
theorem LE_nI {j : Nat} (h : j < 97 ∨ 122 < j) (hj : j < 2 ^ 31) : LE (nI j) = false := by
  simp only [LE, decide_eq_false_iff_not, not_and]
  intro z1 z2
  rw [nI_ltI (by omega) (by decide)] at z1
  rw [nI_ltI (by decide) (by omega)] at z2
  omega
theorem DI_nI {j : Nat} (h : j < 48 ∨ 57 < j) (hj : j < 2 ^ 31) : DI (nI j) = false := by
  simp only [DI, decide_eq_false_iff_not, not_and]
  intro z1 z2
  rw [nI_ltI (by omega) (by decide)] at z1
  rw [nI_ltI (by decide) (by omega)] at z2
  omega
theorem x7_goesOn (b h : Int32) : f_X7_goesOn b h = some (b01 (gO b h = true)) := by
  unfold f_X7_goesOn gO
  rw [x7_isLetter, am_bds, x7_isDigit, am_bds, x7_isDigit, am_bds, x7_isLetter, am_bds]
  by_cases c1 : LE h = true
  · rw [am_b1 c1, am_gdt b01_z, if_pos c1]
  · rw [am_b0 c1, if_neg c1]
    by_cases c2 : DI h = true
    · rw [am_b1 c2, am_gdt b01_z, if_pos c2]
    · rw [am_b0 c2, if_neg c2]
      by_cases c3 : h = nI 61
      · rw [am_ift c3]
        by_cases c4 : b = nI 60
        · rw [am_ift c4, b01_t (by simp [c3, c4])]
        · rw [am_iff c4]
          by_cases c5 : b = nI 62
          · rw [am_ift c5, b01_t (by simp [c3, c5])]
          · rw [am_iff c5, b01_f (by simp [c4, c5])]
      · rw [am_iff c3, b01_f (by simp [c3])]
def ko (v : Int32) : Nat := if LE v then 1 else if DI v then 2 else if isSg v then 4 else 5
theorem x7_kindOf (v : Int32) : f_X7_kindOf v = some (nI (ko v)) := by
  unfold f_X7_kindOf ko isSg
  rw [x7_isLetter, am_bds, x7_isDigit, am_bds]
  by_cases c1 : LE v = true
  · rw [am_b1 c1, if_pos c1]; rfl
  · rw [am_b0 c1, if_neg c1]
    by_cases c2 : DI v = true
    · rw [am_b1 c2, if_pos c2]
    · rw [am_b0 c2, if_neg c2]
      by_cases c3 : v = nI 60
      · rw [am_ift c3, if_pos (by simp [c3])]
      · rw [am_iff c3]
        by_cases c4 : v = nI 61
        · rw [am_ift c4, if_pos (by simp [c4])]
        · rw [am_iff c4]
          by_cases c5 : v = nI 62
          · rw [am_ift c5, if_pos (by simp [c5])]
          · rw [am_iff c5, if_neg (by simp [c3, c4, c5])]
/-! what goes on behind what -/
theorem gO_LE {b h : Int32} (hb : LE b = true) : gO b h = LE h := by
  unfold gO
  by_cases c1 : LE h = true
  · rw [if_pos c1, hb, c1]
  · have c1' : LE h = false := by simpa using c1
    rw [if_neg c1, LE_DI hb, c1']
    obtain ⟨j, h1, h2, rfl⟩ := LE_of hb
    have n1 : ¬ nI j = nI 60 := by rw [nI_eq (by omega) (by decide)]; omega
    have n2 : ¬ nI j = nI 62 := by rw [nI_eq (by omega) (by decide)]; omega
    simp [n1, n2]
theorem gO_DI {b h : Int32} (hb : DI b = true) : gO b h = DI h := by
  unfold gO
  obtain ⟨j, h1, h2, rfl⟩ := DI_of hb
  have hl : LE (nI j) = false := LE_nI (by omega) (by omega)
  have n1 : ¬ nI j = nI 60 := by rw [nI_eq (by omega) (by decide)]; omega
  have n2 : ¬ nI j = nI 62 := by rw [nI_eq (by omega) (by decide)]; omega
  by_cases c1 : LE h = true
  · rw [if_pos c1, hl, LE_DI c1]
  · rw [if_neg c1, hb]
    by_cases c2 : DI h = true
    · rw [if_pos c2, c2]
    · have c2' : DI h = false := by simpa using c2
      rw [if_neg c2, c2']
      simp [n1, n2]
theorem gO_no {b h : Int32} (h1 : LE b = false) (h2 : DI b = false) : gO b h = (decide (h = nI 61) && (decide (b = nI 60) || decide (b = nI 62))) := by
  unfold gO
  by_cases c1 : LE h = true
  · rw [if_pos c1, h1]
    obtain ⟨j, k1, k2, rfl⟩ := LE_of c1
    have n1 : ¬ nI j = nI 61 := by rw [nI_eq (by omega) (by decide)]; omega
    simp [n1]
  · rw [if_neg c1]
    by_cases c2 : DI h = true
    · rw [if_pos c2, h2]
      obtain ⟨j, k1, k2, rfl⟩ := DI_of c2
      have n1 : ¬ nI j = nI 61 := by rw [nI_eq (by omega) (by decide)]; omega
      simp [n1]
    · rw [if_neg c2]
/-! as long as -/
def wh (P : Nat → Bool) : Nat → Nat → Nat
  | 0, q => q
  | f + 1, q => if P q = true then wh P f (q + 1) else q
theorem wh_ge (P : Nat → Bool) : ∀ f q, q ≤ wh P f q
  | 0, q => Nat.le_refl _
  | f + 1, q => by
    rw [wh]
    split
    · exact Nat.le_of_succ_le (wh_ge P f (q + 1))
    · exact Nat.le_refl _
theorem wh_in {P : Nat → Bool} : ∀ f q r, q ≤ r → r < wh P f q → P r = true
  | 0, q, r, h1, h2 => by rw [wh] at h2; omega
  | f + 1, q, r, h1, h2 => by
    rw [wh] at h2
    by_cases c : P q = true
    · rw [if_pos c] at h2
      by_cases e : r = q
      · rw [e]; exact c
      · exact wh_in f (q + 1) r (by omega) h2
    · rw [if_neg c] at h2; omega
theorem wh_end {P : Nat → Bool} {B : Nat} (hB : ∀ r, B ≤ r → P r = false) : ∀ f q, B ≤ q + f → P (wh P f q) = false
  | 0, q, h => hB q (by omega)
  | f + 1, q, h => by
    rw [wh]
    by_cases c : P q = true
    · rw [if_pos c]; exact wh_end hB f (q + 1) (by omega)
    · rw [if_neg c]; simpa using c
theorem wh_le {P : Nat → Bool} {B : Nat} (hB : ∀ r, B ≤ r → P r = false) : ∀ f q, q ≤ B → wh P f q ≤ B
  | 0, q, h => h
  | f + 1, q, h => by
    rw [wh]
    by_cases c : P q = true
    · rw [if_pos c]
      refine wh_le hB f (q + 1) ?_
      rcases Nat.lt_or_ge q B with z | z
      · omega
      · rw [hB q z] at c; exact absurd c (by decide)
    · rw [if_neg c]; exact h
/-- where it ends is told by this -/
theorem wh_eq {P : Nat → Bool} {B f q e : Nat} (hB : ∀ r, B ≤ r → P r = false) (hf : B ≤ q + f) (h1 : q ≤ e) (h2 : ∀ r, q ≤ r → r < e → P r = true) (h3 : P e = false) : wh P f q = e := by
  have a := wh_end hB f q hf
  rcases Nat.lt_trichotomy (wh P f q) e with z | z | z
  · rw [h2 _ (wh_ge P f q) z] at a; exact absurd a (by decide)
  · exact z
  · rw [wh_in f q e h1 z] at h3; exact absurd h3 (by decide)
theorem wh_here {P : Nat → Bool} {f q : Nat} (h : P q = false) : wh P f q = q := by
  cases f with
  | zero => rfl
  | succ f => rw [wh, if_neg (by rw [h]; decide)]
theorem wh_step {P : Nat → Bool} {B q : Nat} {f : Nat} (hB : ∀ r, B ≤ r → P r = false) (hf : B ≤ q + 1 + f) (hf2 : B ≤ q + f) (h : P q = true) : wh P f q = wh P f (q + 1) := by
  refine wh_eq hB hf2 (Nat.le_of_succ_le (wh_ge P f (q + 1))) (fun r h1 h2 => ?_) (wh_end hB f (q + 1) hf)
  by_cases e : r = q
  · rw [e]; exact h
  · exact wh_in f (q + 1) r (by omega) h2
section TX
variable (c : Nat → Int32) (T : Nat)
def spP (r : Nat) : Bool := decide (r < T) && decide (c r = nI 32)
def goP (r : Nat) : Bool := decide (r < T) && gO (c (r - 1)) (c r)
def sk (r : Nat) : Nat := wh (spP c T) 401 r
def en (p : Nat) : Nat := wh (goP c T) 401 (p + 1)
/-- where the tokens begin -/
def tp : Nat → Nat
  | 0 => sk c T 0
  | i + 1 => if tp i < T then sk c T (en c T (tp i)) else tp i
end TX
section TY
variable {c : Nat → Int32} {T : Nat}
theorem spP_B : ∀ r, T ≤ r → spP c T r = false := fun r h => by
  unfold spP
  rw [decide_eq_false (by omega), Bool.false_and]
theorem goP_B : ∀ r, T ≤ r → goP c T r = false := fun r h => by
  unfold goP
  rw [decide_eq_false (by omega), Bool.false_and]
theorem sk_ge (r : Nat) : r ≤ sk c T r := wh_ge _ _ _
theorem sk_le {r : Nat} (h : r ≤ T) : sk c T r ≤ T := wh_le spP_B _ _ h
theorem sk_sp {r q : Nat} (h1 : r ≤ q) (h2 : q < sk c T r) : q < T ∧ c q = nI 32 := by
  have := wh_in _ _ q h1 h2
  unfold spP at this
  rw [Bool.and_eq_true, decide_eq_true_eq, decide_eq_true_eq] at this
  exact this
theorem sk_no (hT : T ≤ 400) (r : Nat) (h : sk c T r < T) : c (sk c T r) ≠ nI 32 := by
  have this : (decide (sk c T r < T) && decide (c (sk c T r) = nI 32)) = false := wh_end (P := spP c T) spP_B 401 r (by omega)
  rw [decide_eq_true h, Bool.true_and, decide_eq_false_iff_not] at this
  exact this
theorem sk_here {r : Nat} (h : r < T → c r ≠ nI 32) : sk c T r = r := wh_here (by
  unfold spP
  by_cases z : r < T
  · rw [decide_eq_false (h z), Bool.and_false]
  · rw [decide_eq_false z, Bool.false_and])
theorem sk_sk (hT : T ≤ 400) (r : Nat) : sk c T (sk c T r) = sk c T r := sk_here (fun h => sk_no hT r h)
theorem sk_step (hT : T ≤ 400) {r : Nat} (h : r < T) (h2 : c r = nI 32) : sk c T r = sk c T (r + 1) := wh_step (B := T) spP_B (by omega) (by omega) (by unfold spP; rw [decide_eq_true h, decide_eq_true h2]; rfl)
theorem en_gt (p : Nat) : p < en c T p := wh_ge _ _ _
theorem en_le {p : Nat} (h : p < T) : en c T p ≤ T := wh_le goP_B _ _ (by omega)
theorem en_go {p q : Nat} (h1 : p < q) (h2 : q < en c T p) : q < T ∧ gO (c (q - 1)) (c q) = true := by
  have := wh_in _ _ q (by omega : p + 1 ≤ q) h2
  unfold goP at this
  rw [Bool.and_eq_true, decide_eq_true_eq] at this
  exact this
theorem en_no (hT : T ≤ 400) (p : Nat) (h : en c T p < T) : gO (c (en c T p - 1)) (c (en c T p)) = false := by
  have this : (decide (en c T p < T) && gO (c (en c T p - 1)) (c (en c T p))) = false := wh_end (P := goP c T) goP_B 401 (p + 1) (by omega)
  rw [decide_eq_true h, Bool.true_and] at this
  exact this
theorem tp_le (i : Nat) : tp c T i ≤ T := by
  induction i with
  | zero => exact sk_le (Nat.zero_le _)
  | succ i ih =>
    rw [tp]
    split
    · rename_i h
      exact sk_le (en_le h)
    · exact ih
theorem tp_s {i : Nat} (h : tp c T i < T) : tp c T (i + 1) = sk c T (en c T (tp c T i)) := by rw [tp, if_pos h]
theorem tp_up {i : Nat} (h : tp c T i < T) : tp c T i < tp c T (i + 1) := by
  rw [tp_s h]
  exact Nat.lt_of_lt_of_le (en_gt _) (sk_ge _)
theorem tp_no (hT : T ≤ 400) {i : Nat} (h : tp c T i < T) : c (tp c T i) ≠ nI 32 := by
  cases i with
  | zero => exact sk_no hT 0 h
  | succ i =>
    by_cases z : tp c T i < T
    · rw [tp_s z] at h ⊢
      exact sk_no hT _ h
    · rw [tp, if_neg z] at h
      exact absurd h z
theorem tp_sk (hT : T ≤ 400) (i : Nat) : sk c T (tp c T i) = tp c T i := sk_here (fun h => tp_no hT h)
theorem tp_ge (i : Nat) (h : ∀ j, j < i → tp c T j < T) : i ≤ tp c T i := by
  induction i with
  | zero => exact Nat.zero_le _
  | succ i ih =>
    have := ih (fun j hj => h j (by omega))
    have := tp_up (h i (by omega))
    omega
theorem tp_n (c : Nat → Int32) (T : Nat) : ∃ n, n ≤ T ∧ tp c T n = T ∧ ∀ i, i < n → tp c T i < T := by
  obtain ⟨n, h1, h2⟩ := pk_least (fun i => tp c T i = T) ⟨T, by
    rcases Nat.lt_or_ge (tp c T T) T with z | z
    · exfalso
      have key : ∀ d i, i + d = T → tp c T i < T := by
        intro d
        induction d with
        | zero => intro i hi; rw [show i = T by omega]; exact z
        | succ d ih =>
          intro i hi
          have := ih (i + 1) (by omega)
          rcases Nat.lt_or_ge (tp c T i) T with y | y
          · exact y
          · rw [tp, if_neg (by omega)] at this; omega
      have := tp_ge (c := c) (T := T) T (fun j hj => key (T - j) j (by omega))
      omega
    · have := tp_le (c := c) (T := T) T; omega⟩
  have h3 : ∀ i, i < n → tp c T i < T := fun i hi => by
    have := h2 i hi
    have := tp_le (c := c) (T := T) i
    omega
  refine ⟨n, ?_, h1, h3⟩
  have := tp_ge n h3
  omega
theorem tp_mono {n : Nat} (h3 : ∀ i, i < n → tp c T i < T) {i j : Nat} (hij : i < j) (hj : j ≤ n) : tp c T i < tp c T j := by
  have key : ∀ d i, i + (d + 1) ≤ n → tp c T i < tp c T (i + (d + 1)) := by
    intro d
    induction d with
    | zero => intro i hi; exact tp_up (h3 i (by omega))
    | succ d ih =>
      intro i hi
      have := ih i (by omega)
      have := tp_up (h3 (i + (d + 1)) (by omega))
      rw [show i + (d + 1 + 1) = i + (d + 1) + 1 by omega]
      omega
  have := key (j - i - 1) i (by omega)
  rwa [show i + (j - i - 1 + 1) = j by omega] at this
end TY
