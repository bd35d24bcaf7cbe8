/-! THE PURE SIDE. The abstract state is the reference's row 'said' (m : Nat → Int32); the class's rows are held against it. -/
theorem am_lit (n : Nat) : (OfNat.ofNat n : Int32) = nI n := rfl
theorem am_ifd {α : Type} (c : Prop) [Decidable c] (a b : Option α) : am_if c a b = if c then a else b := rfl
theorem am_gdd {α : Type} (c : Prop) [Decidable c] (a : Option α) : am_gd c a = if c then a else none := rfl
theorem am_ltd {α β : Type} (v : α) (k : α → Option β) : am_lt v k = k v := rfl
theorem am_bds {α β : Type} (y : α) (k : α → Option β) : am_bd (some y) k = k y := rfl
theorem am_b2s {α β : Type} (y : α) (s : am_S) (k : α → am_S → Option β) : am_b2 (some (y, s)) k = k y s := rfl
theorem am_ift {α : Type} {c : Prop} [Decidable c] {a b : Option α} (h : c) : am_if c a b = a := if_pos h
theorem am_iff {α : Type} {c : Prop} [Decidable c] {a b : Option α} (h : ¬ c) : am_if c a b = b := if_neg h
theorem am_gdt {α : Type} {c : Prop} [Decidable c] {a : Option α} (h : c) : am_gd c a = a := if_pos h
/-- a loop by its trace -/
theorem am_lp_run {σ ε : Type} {body : σ → Option (σ ⊕ ε)} (f : Nat → σ) (m : Nat) {e : ε} (hs : ∀ i, i < m → body (f i) = some (.inl (f (i + 1)))) (he : body (f m) = some (.inr e)) {F : Nat} (hF : m < F) : am_lp body F (f 0) = some e := by
  have key : ∀ d i, i + d = m → ∀ F, d < F → am_lp body F (f i) = some e := by
    intro d
    induction d with
    | zero =>
      intro i hi F hF
      obtain ⟨F', rfl⟩ : ∃ F', F = F' + 1 := ⟨F - 1, by omega⟩
      rw [show i = m by omega]
      unfold am_lp
      rw [he]
    | succ d ih =>
      intro i hi F hF
      obtain ⟨F', rfl⟩ : ∃ F', F = F' + 1 := ⟨F - 1, by omega⟩
      unfold am_lp
      rw [hs i (by omega)]
      exact ih (i + 1) (by omega) F' (by omega)
  exact key m 0 (by omega) F hF
/-- a loop by an invariant and a measure: what it ends with -/
theorem am_lp_inv {σ ε : Type} {body : σ → Option (σ ⊕ ε)} (P : σ → Prop) (Q : ε → Prop) (μ : σ → Nat) (hs : ∀ s, P s → (∃ s2, body s = some (.inl s2) ∧ P s2 ∧ μ s2 < μ s) ∨ (∃ e, body s = some (.inr e) ∧ Q e)) : ∀ (F : Nat) (s : σ), P s → μ s < F → ∃ e, am_lp body F s = some e ∧ Q e := by
  intro F
  induction F with
  | zero => intro s _ h; omega
  | succ F ih =>
    intro s hP hF
    unfold am_lp
    rcases hs s hP with ⟨s2, h1, h2, h3⟩ | ⟨e, h1, h2⟩
    · rw [h1]
      exact ih s2 h2 (by omega)
    · rw [h1]
      exact ⟨e, rfl, h2⟩
theorem as_i1 {s : am_S} {a k : Nat} {v : Int32} {b : Nat} (h : b ≠ a) : (as_i s a k v).1 b = s.1 b := am_up_ne h
theorem as_i2 {s : am_S} {a k : Nat} {v : Int32} {j : Nat} (h : j ≠ k) : (as_i s a k v).1 a j = s.1 a j := am_up_k h
theorem as_i3 {s : am_S} {a k : Nat} {v : Int32} : (as_i s a k v).1 a k = v := am_up_at
theorem as_i4 {s : am_S} {a k : Nat} {v : Int32} : (as_i s a k v).2 = s.2 := rfl
theorem as_j1 {s : am_S} {a k : Nat} {v : Int64} : (as_j s a k v).1 = s.1 := rfl
theorem as_j4 {s : am_S} {a k : Nat} {v : Int64} : (as_j s a k v).2.2 = s.2.2 := rfl
theorem as_w1 {s : am_S} {a : Nat} {g : Nat → Int32} {b : Nat} (h : b ≠ a) : (as_w s a g).1 b = s.1 b := am_rw_ne h
theorem as_w3 {s : am_S} {a : Nat} {g : Nat → Int32} : (as_w s a g).1 a = g := am_rw_at
theorem as_w4 {s : am_S} {a : Nat} {g : Nat → Int32} : (as_w s a g).2 = s.2 := rfl
theorem as_t1 {s : am_S} {t : Nat} : (as_t s t).1 = s.1 := rfl
theorem as_t2 {s : am_S} {t : Nat} : (as_t s t).2.2.1 = t := rfl
theorem as_t3 {s : am_S} {t : Nat} : (as_t s t).2.2.2 = s.2.2.2 := rfl
theorem as_u1 {s : am_S} {t : Nat} : (as_u s t).1 = s.1 := rfl
theorem as_u2 {s : am_S} {t : Nat} : (as_u s t).2.2.1 = s.2.2.1 := rfl
theorem as_u3 {s : am_S} {t : Nat} : (as_u s t).2.2.2 = t := rfl
/-! the row's own numbers -/
def mN (m : Nat → Int32) (j : Nat) : Nat := (m j).toNatClampNeg
abbrev mF (m : Nat → Int32) : Nat := mN m 0
abbrev mO (m : Nat → Int32) : Nat := mN m 1
abbrev mP (m : Nat → Int32) : Nat := mN m 2
abbrev mS (m : Nat → Int32) : Nat := mN m 3
abbrev mI (m : Nat → Int32) : Nat := mN m 4
abbrev mH (m : Nat → Int32) : Nat := mN m 5
abbrev mC (m : Nat → Int32) : Nat := mN m 269
abbrev mA (m : Nat → Int32) (i : Nat) : Nat := mN m (179 + 2 * i)
abbrev mB (m : Nat → Int32) (i : Nat) : Nat := mN m (179 + 2 * i + 1)
/-- a cell that holds a small number -/
def isN (m : Nat → Int32) (j b : Nat) : Prop := m j = nI (mN m j) ∧ mN m j < b
def isZ (v : Int32) : Prop := v = 0 ∨ v = 1
def isH (v : Int32) : Prop := v = 0 ∨ v = 1 ∨ v = nI 2
/-- what was told of a town -/
def wfT (m : Nat → Int32) : Prop :=
  isN m 0 9 ∧ isN m 1 (2 ^ mF m) ∧ isN m 2 8 ∧ isN m 3 11 ∧ isN m 4 11 ∧ isN m 5 11 ∧ isN m 269 128 ∧ isZ (m 10) ∧
  (mF m = 0 → mP m = 0 ∧ mS m = 0 ∧ mI m = 0 ∧ mH m = 0) ∧
  (∀ i, i < mS m → isN m (179 + 2 * i) (mP m) ∧ isN m (179 + 2 * i + 1) (mP m) ∧ mA m i ≠ mB m i) ∧
  (∀ i, i < mI m → isN m (199 + 4 * i) (mF m) ∧ isZ (m (199 + 4 * i + 1)) ∧ isN m (199 + 4 * i + 2) (mF m) ∧ isZ (m (199 + 4 * i + 3))) ∧
  (∀ i, i < mH m → isN m (239 + 3 * i) (mF m) ∧ isZ (m (239 + 3 * i + 1)) ∧ isN m (239 + 3 * i + 2) 100) ∧
  (∀ j, j < 49 → 0 < mF m → isN m (130 + j) 10)
/-- what becomes of its people, up to day 4 * k -/
def wfL (k : Nat) (m : Nat → Int32) : Prop :=
  isN m 6 (4 * k + 1) ∧ isN m 7 24 ∧ (0 < mF m → m 9 = -1 ∨ isN m 9 (mP m)) ∧
  (∀ p f, p < mP m → f < mF m → isH (m (11 + 16 * p + 2 * f)) ∧ isN m (11 + 16 * p + 2 * f + 1) 11 ∧ (m (11 + 16 * p + 2 * f) = nI 2 → m (11 + 16 * p + 2 * f + 1) = 0))
/-- what was stated, the tales -/
def wfS (m : Nat → Int32) : Prop :=
  isN m 326 13 ∧ isN m 327 11 ∧
  (∀ i, i < mN m 326 → isN m (270 + 3 * i) (mP m) ∧ isN m (270 + 3 * i + 1) (mF m) ∧ isZ (m (270 + 3 * i + 2))) ∧
  (∀ i, i < mN m 327 → isN m (306 + 2 * i) 10 ∧ isZ (m (306 + 2 * i + 1)))
/-! streets as bits, beliefs, tales as bits -/
def joins (m : Nat → Int32) (i p q : Nat) : Bool := (mA m i == p && mB m i == q) || (mA m i == q && mB m i == p)
def hasSt (m : Nat → Int32) (p q : Nat) : Bool := (List.range (mS m)).any (fun i => joins m i p q)
/-- a set of small numbers as bits -/
def bitsOf (P : Nat → Bool) : Nat → Nat
  | 0 => 0
  | n + 1 => bitsOf P n + (if P n then 2 ^ n else 0)
def nbr (m : Nat → Int32) (p : Nat) : Nat := bitsOf (fun q => hasSt m p q) 7
/-- the first if, from i on, whose fact is believed so and of whose other fact nothing is -/
def openIf (m : Nat → Int32) (b : Nat → Int32) (i : Nat) : Bool := decide (b (mN m (199 + 4 * i)) = m (199 + 4 * i + 1)) && decide (b (mN m (199 + 4 * i + 2)) = nI 2)
def firstIf (m : Nat → Int32) (b : Nat → Int32) : Option Nat := (List.range (mI m)).find? (openIf m b)
/-- what follows, at most n times -/
def folN (m : Nat → Int32) : Nat → (Nat → Int32) → (Nat → Int32)
  | 0, b => b
  | n + 1, b => match firstIf m b with
    | none => b
    | some i => folN m n (upd b (mN m (199 + 4 * i + 2)) (m (199 + 4 * i + 3)))
/-- what is held of the facts there are; nothing of others -/
def heldR (m : Nat → Int32) (p : Nat) : Nat → Int32 := fun f => if f < mF m then m (11 + 16 * p + 2 * f) else nI 2
def bel (m : Nat → Int32) (p : Nat) : Nat → Int32 := folN m 8 (heldR m p)
def taleBits (m : Nat → Int32) (v : Int32) : Nat := bitsOf (fun pl => (List.range (mN m 327)).any (fun i => mN m (306 + 2 * i) == pl && m (306 + 2 * i + 1) == v)) 10
/-! the class's rows held against the row -/
def clT (m t0 t2 t3 t4 t5 t6 t7 : Nat → Int32) : Prop :=
  t0 0 = (if 0 < mF m then 1 else 0) ∧ t0 1 = m 0 ∧ t0 2 = m 1 ∧ t0 3 = m 2 ∧ t0 6 = m 3 ∧ t0 10 = m 4 ∧ t0 12 = m 5 ∧ t0 14 = m 269 ∧ t0 15 = m 10 ∧
  (0 < mF m → ∀ j, j < 49 → t2 j = m (130 + j)) ∧ (∀ i, i < mS m → t3 i = m (179 + 2 * i) ∧ t4 i = m (179 + 2 * i + 1)) ∧ (∀ p, p < mP m → t5 p = nI (nbr m p)) ∧
  (∀ j, j < 4 * mI m → t6 j = m (199 + j)) ∧ (∀ j, j < 3 * mH m → t7 j = m (239 + j))
def clL (m l0 l1 l2 l3 l4 : Nat → Int32) : Prop :=
  l0 4 = m 6 ∧ l0 5 = m 7 ∧ (0 < mF m → l0 7 = m 9 ∧ (m 9 ≠ -1 → l0 6 = m 8)) ∧ (∀ p, p < 7 → l4 p = if p < mP m then m (123 + p) else 0) ∧
  (∀ p f, p < mP m → f < 8 → l1 (8 * p + f) = heldR m p f ∧ l3 (8 * p + f) = bel m p f) ∧ (∀ p f, p < mP m → f < mF m → l2 (8 * p + f) = m (11 + 16 * p + 2 * f + 1))
def clS (m q0 q1 : Nat → Int32) (ch x : Int32) : Prop :=
  q0 2 = ch ∧ q0 3 = x ∧ q0 4 = m 326 ∧ q0 6 = m 327 ∧ q0 7 = nI (taleBits m 1) ∧ q0 8 = nI (taleBits m 0) ∧ ∀ j, j < 3 * mN m 326 → q1 j = m (270 + j)
/-- a situation: town, life, what was stated, charter, x -/
def sitR (k rn : Nat) (m : Nat → Int32) (ch x : Int32) (t0 t2 t3 t4 t5 t6 t7 l0 l1 l2 l3 l4 q0 q1 : Nat → Int32) : Prop :=
  wfT m ∧ wfL k m ∧ wfS m ∧ clT m t0 t2 t3 t4 t5 t6 t7 ∧ clL m l0 l1 l2 l3 l4 ∧ clS m q0 q1 ch x ∧ (ch = -1 ∨ ∃ r, r < rn ∧ ch = nI r) ∧ ¬ x < 0
/-- the row with what an act changes put in place of its own -/
def mx (m r : Nat → Int32) : Nat → Int32 := fun j => if j < 130 then r j else m j
/-- rows that agree in what was told of the town -/
def sameT (m r : Nat → Int32) : Prop := r 0 = m 0 ∧ r 1 = m 1 ∧ r 2 = m 2 ∧ r 3 = m 3 ∧ r 4 = m 4 ∧ r 5 = m 5 ∧ r 10 = m 10
/-! the parts of the invariant -/
def pTape (s : am_S) : Prop := ∃ T, T ≤ 400 ∧ s.1 0 1 = nI T ∧ s.1 248 1 = nI T ∧ ∀ j, j < T → s.1 1 j = s.1 249 j ∧ vp_nar .byte (s.1 1 j) = s.1 1 j
def pNow (k rn : Nat) (s : am_S) : Prop := sitR k rn (s.1 258) (s.1 248 21) (s.1 248 22) (s.1 16) (s.1 18) (s.1 19) (s.1 20) (s.1 21) (s.1 22) (s.1 23) (s.1 24) (s.1 25) (s.1 26) (s.1 27) (s.1 28) (s.1 15) (s.1 29)
def pImg (k rn : Nat) (s : am_S) : Prop := ∀ i, i < 4 → s.1 31 i = s.1 265 i ∧ isZ (s.1 31 i) ∧ (s.1 31 i = 1 → sitR k rn (fun j => s.1 262 (328 * i + j)) (s.1 263 i) (s.1 264 i) (s.1 (187 + 15 * i)) (s.1 (189 + 15 * i)) (s.1 (190 + 15 * i)) (s.1 (191 + 15 * i)) (s.1 (192 + 15 * i)) (s.1 (193 + 15 * i)) (s.1 (194 + 15 * i)) (s.1 (195 + 15 * i)) (s.1 (196 + 15 * i)) (s.1 (197 + 15 * i)) (s.1 (198 + 15 * i)) (s.1 (199 + 15 * i)) (s.1 (186 + 15 * i)) (s.1 (200 + 15 * i)))
def pActs (k : Nat) (s : am_S) : Prop := ∃ a n, a < 20 ∧ n ≤ 20 ∧ s.1 32 1 = nI a ∧ s.1 32 2 = nI n ∧ s.1 248 25 = nI n ∧ ∀ i, i < n → sameT (s.1 258) (fun j => s.1 260 (130 * i + j)) ∧ wfL k (mx (s.1 258) (fun j => s.1 260 (130 * i + j))) ∧
  clL (mx (s.1 258) (fun j => s.1 260 (130 * i + j))) (s.1 (34 + 5 * ((a + i) % 20))) (s.1 (35 + 5 * ((a + i) % 20))) (s.1 (36 + 5 * ((a + i) % 20))) (s.1 (37 + 5 * ((a + i) % 20))) (s.1 (38 + 5 * ((a + i) % 20)))
def pRef (s : am_S) : Prop := (s.2.2.1 = 24 ∨ s.2.2.1 = 137) ∧ s.2.2.2 ∈ am_isR
