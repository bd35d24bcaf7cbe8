/-! rules: the class's steps held against the reference's signs -/
def wordM (w : Nat) : Nat := match w with
  | 13 => 0 | 14 => 1 | 15 => 2 | 16 => 3 | 17 => 4 | 18 => 5 | 19 => 6 | 20 => 7 | 6 => 8 | 2 => 9 | 5 => 10 | 21 => 11 | 22 => 12 | _ => 13
def okWord (w : Nat) : Prop := w = 2 ∨ w = 5 ∨ w = 6 ∨ (13 ≤ w ∧ w < 24)
def opM (d w : Nat) : Nat := match d with
  | 0 => 16 * w
  | 1 => 1 + 16 * wordM w
  | 2 => 11 | 3 => 12 | 4 => 13 | 5 => 2 | 6 => 3 | 7 => 4 | 8 => 5 | 9 => 14
  | d => d - 4
/-- one step over a stack of sorts: false a number, true a truth -/
def stepT (d : Nat) (st : List Bool) : Option (List Bool) :=
  if d < 2 then some (false :: st) else match st with
  | x :: st => if d = 2 then (if x then some (true :: st) else none) else match st with
    | y :: st => if d < 5 then (if x && y then some (true :: st) else none) else if x || y then none else if d < 10 then some (false :: st) else some (true :: st)
    | [] => none
  | [] => none
def runT (D : Nat → Nat) (b : Nat) : Nat → List Bool → Option (List Bool)
  | 0, st => some st
  | n + 1, st => match stepT (D b) st with
    | none => none
    | some st2 => if st2.length ≤ 64 then runT D (b + 1) n st2 else none
/-- the text of a rule: its steps, its clauses; D, V steps and operands, K kinds (0 lie, 1 say), b1 b2 b3 where sum, test and what follows begin -/
def ruleT (n sz : Nat) (D V K b1 b2 b3 : Nat → Nat) : Prop :=
  n ≤ 12 ∧ sz ≤ 400 ∧ (∀ i, i < sz → D i ≤ 14 ∧ V i < 100000 ∧ (D i = 1 → okWord (V i))) ∧
  ∀ c, c < n → K c ≤ 1 ∧ b1 c ≤ b2 c ∧ b2 c ≤ b3 c ∧ b3 c ≤ sz ∧ (K c = 0 → b1 c = b2 c ∧ b2 c < b3 c) ∧ (K c = 1 → runT D (b1 c) (b2 c - b1 c) [] = some [false]) ∧ (b2 c < b3 c → runT D (b2 c) (b3 c - b2 c) [] = some [true])
/-- the class's rule: its object's row, steps, operands, which is a lie clause, sumFrom, testFrom, testTo -/
def ruleX (n sz : Nat) (D V K b1 b2 b3 : Nat → Nat) (o d v l f1 f2 f3 : Nat → Int32) : Prop :=
  o 8 = nI n ∧ isZ (o 9) ∧ (o 9 = 1 ↔ ∃ c, c < n ∧ K c = 0) ∧ (∀ i, i < sz → d i = nI (D i) ∧ v i = nI (V i)) ∧
  ∀ c, c < n → l c = nI (1 - K c) ∧ f1 c = nI (b1 c) ∧ f2 c = nI (b2 c) ∧ f3 c = nI (b3 c)
/-- the reference's: signs, clauses, how many -/
def ruleM (r n sz : Nat) (D V K b1 b2 b3 : Nat → Nat) (sg cl cn : Nat → Int32) : Prop :=
  cn r = nI n ∧ (∀ i, i < sz → sg (400 * r + i) = nI (opM (D i) (V i))) ∧
  ∀ c, c < n → cl (60 * r + 5 * c) = nI (K c) ∧ cl (60 * r + 5 * c + 1) = nI (b1 c) ∧ cl (60 * r + 5 * c + 2) = nI (b2 c) ∧ cl (60 * r + 5 * c + 3) = (if b2 c < b3 c then nI (b2 c) else -1) ∧ cl (60 * r + 5 * c + 4) = nI (b3 c)
def pRule (r : Nat) (s : am_S) : Prop := ∃ (n sz : Nat) (D V K b1 b2 b3 : Nat → Nat), ruleT n sz D V K b1 b2 b3 ∧
  ruleX n sz D V K b1 b2 b3 (s.1 (144 + 7 * r)) (s.1 (145 + 7 * r)) (s.1 (146 + 7 * r)) (s.1 (147 + 7 * r)) (s.1 (148 + 7 * r)) (s.1 (149 + 7 * r)) (s.1 (150 + 7 * r)) ∧ ruleM r n sz D V K b1 b2 b3 (s.1 250) (s.1 252) (s.1 253)
/-- THE INVARIANT, behind k calls -/
def InvR (k rn : Nat) (s : am_S) : Prop := rn ≤ 6 ∧ s.1 0 5 = nI rn ∧ s.1 248 2 = nI rn ∧ (∀ r, r < rn → pRule r s) ∧ pTape s ∧ pNow k rn s ∧ pImg k rn s ∧ pActs k s ∧ pRef s
def Inv (k : Nat) (s : am_S) : Prop := ∃ rn, InvR k rn s
/-- the cells that the invariant speaks of -/
def isPr (a : Nat) : Prop := a = 1 ∨ (15 ≤ a ∧ a < 134) ∨ (144 ≤ a ∧ a < 246) ∨ a = 249 ∨ a = 250 ∨ a = 252 ∨ a = 253 ∨ a = 258 ∨ a = 260 ∨ (262 ≤ a ∧ a < 266)
def prot (s s2 : am_S) : Prop := (∀ a, isPr a → s2.1 a = s.1 a) ∧ s2.1 0 1 = s.1 0 1 ∧ s2.1 0 5 = s.1 0 5 ∧ s2.1 248 1 = s.1 248 1 ∧ s2.1 248 2 = s.1 248 2 ∧ s2.1 248 21 = s.1 248 21 ∧ s2.1 248 22 = s.1 248 22 ∧ s2.1 248 25 = s.1 248 25 ∧ (pRef s → pRef s2)
theorem prot.rf (s : am_S) : prot s s := ⟨fun _ _ => rfl, rfl, rfl, rfl, rfl, rfl, rfl, rfl, id⟩
theorem prot.tr {s s2 s3 : am_S} (h : prot s s2) (g : prot s2 s3) : prot s s3 :=
  ⟨fun a ha => (g.1 a ha).trans (h.1 a ha), g.2.1.trans h.2.1, g.2.2.1.trans h.2.2.1, g.2.2.2.1.trans h.2.2.2.1, g.2.2.2.2.1.trans h.2.2.2.2.1, g.2.2.2.2.2.1.trans h.2.2.2.2.2.1, g.2.2.2.2.2.2.1.trans h.2.2.2.2.2.2.1, g.2.2.2.2.2.2.2.1.trans h.2.2.2.2.2.2.2.1, fun z => g.2.2.2.2.2.2.2.2 (h.2.2.2.2.2.2.2.2 z)⟩
/-- a scratch cell -/
def isSc (a k : Nat) : Prop := ¬ isPr a ∧ (a = 0 → k ≠ 1 ∧ k ≠ 5) ∧ (a = 248 → k ≠ 1 ∧ k ≠ 2 ∧ k ≠ 21 ∧ k ≠ 22 ∧ k ≠ 25)
theorem prot_i (s : am_S) {a k : Nat} (v : Int32) (h : isSc a k) : prot s (as_i s a k v) := by
  obtain ⟨h1, h2, h3⟩ := h
  have key : ∀ b j, (b = a → j ≠ k) → (as_i s a k v).1 b j = s.1 b j := by
    intro b j hb
    by_cases e : b = a
    · subst e; exact as_i2 (hb rfl)
    · rw [as_i1 e]
  refine ⟨fun b hb => ?_, key _ _ (fun e => ?_), key _ _ (fun e => ?_), key _ _ (fun e => ?_), key _ _ (fun e => ?_), key _ _ (fun e => ?_), key _ _ (fun e => ?_), key _ _ (fun e => ?_), id⟩
  · exact as_i1 (fun e => h1 (e ▸ hb))
  all_goals first
    | (have := h2 e.symm; omega)
    | (have := h3 e.symm; omega)
theorem prot_w (s : am_S) {a : Nat} (g : Nat → Int32) (h : ¬ isPr a) (h0 : a ≠ 0) (h2 : a ≠ 248) : prot s (as_w s a g) := by
  refine ⟨fun b hb => as_w1 (fun e => h (e ▸ hb)), ?_, ?_, ?_, ?_, ?_, ?_, ?_, id⟩
  all_goals first
    | rw [as_w1 (Ne.symm h0)]
    | rw [as_w1 (Ne.symm h2)]
theorem prot_j (s : am_S) {a k : Nat} (v : Int64) : prot s (as_j s a k v) := ⟨fun _ _ => rfl, rfl, rfl, rfl, rfl, rfl, rfl, rfl, id⟩
theorem prot_t (s : am_S) {t : Nat} (h : t = 24 ∨ t = 137) : prot s (as_t s t) := ⟨fun _ _ => rfl, rfl, rfl, rfl, rfl, rfl, rfl, rfl, fun z => ⟨h, z.2⟩⟩
theorem prot_u (s : am_S) {u : Nat} (h : u ∈ am_isR) : prot s (as_u s u) := ⟨fun _ _ => rfl, rfl, rfl, rfl, rfl, rfl, rfl, rfl, fun z => ⟨z.1, h⟩⟩
theorem pRule_prot {r : Nat} {s s2 : am_S} (hr : r < 6) (h : pRule r s) (g : prot s s2) : pRule r s2 := by
  unfold pRule at h ⊢
  rw [g.1 (144 + 7 * r) (by unfold isPr; omega), g.1 (145 + 7 * r) (by unfold isPr; omega), g.1 (146 + 7 * r) (by unfold isPr; omega), g.1 (147 + 7 * r) (by unfold isPr; omega), g.1 (148 + 7 * r) (by unfold isPr; omega), g.1 (149 + 7 * r) (by unfold isPr; omega), g.1 (150 + 7 * r) (by unfold isPr; omega), g.1 250 (by unfold isPr; omega), g.1 252 (by unfold isPr; omega), g.1 253 (by unfold isPr; omega)]
  exact h
theorem pTape_prot {s s2 : am_S} (h : pTape s) (g : prot s s2) : pTape s2 := by
  unfold pTape at h ⊢
  rw [g.1 1 (by unfold isPr; omega), g.1 249 (by unfold isPr; omega), g.2.1, g.2.2.2.1]
  exact h
theorem pNow_prot {k rn : Nat} {s s2 : am_S} (h : pNow k rn s) (g : prot s s2) : pNow k rn s2 := by
  unfold pNow at h ⊢
  rw [g.1 258 (by unfold isPr; omega), g.1 16 (by unfold isPr; omega), g.1 18 (by unfold isPr; omega), g.1 19 (by unfold isPr; omega), g.1 20 (by unfold isPr; omega), g.1 21 (by unfold isPr; omega), g.1 22 (by unfold isPr; omega), g.1 23 (by unfold isPr; omega), g.1 24 (by unfold isPr; omega), g.1 25 (by unfold isPr; omega), g.1 26 (by unfold isPr; omega), g.1 27 (by unfold isPr; omega), g.1 28 (by unfold isPr; omega), g.1 15 (by unfold isPr; omega), g.1 29 (by unfold isPr; omega), g.2.2.2.2.2.1, g.2.2.2.2.2.2.1]
  exact h
theorem pImg_prot {k rn : Nat} {s s2 : am_S} (h : pImg k rn s) (g : prot s s2) : pImg k rn s2 := by
  intro i hi
  have h := h i hi
  rw [g.1 31 (by unfold isPr; omega), g.1 265 (by unfold isPr; omega), g.1 262 (by unfold isPr; omega), g.1 263 (by unfold isPr; omega), g.1 264 (by unfold isPr; omega), g.1 (187 + 15 * i) (by unfold isPr; omega), g.1 (189 + 15 * i) (by unfold isPr; omega), g.1 (190 + 15 * i) (by unfold isPr; omega), g.1 (191 + 15 * i) (by unfold isPr; omega), g.1 (192 + 15 * i) (by unfold isPr; omega), g.1 (193 + 15 * i) (by unfold isPr; omega), g.1 (194 + 15 * i) (by unfold isPr; omega), g.1 (195 + 15 * i) (by unfold isPr; omega), g.1 (196 + 15 * i) (by unfold isPr; omega), g.1 (197 + 15 * i) (by unfold isPr; omega), g.1 (198 + 15 * i) (by unfold isPr; omega), g.1 (199 + 15 * i) (by unfold isPr; omega), g.1 (186 + 15 * i) (by unfold isPr; omega), g.1 (200 + 15 * i) (by unfold isPr; omega)]
  exact h
theorem pActs_prot {k : Nat} {s s2 : am_S} (h : pActs k s) (g : prot s s2) : pActs k s2 := by
  obtain ⟨a, n, ha, hn, h1, h2, h3, h4⟩ := h
  refine ⟨a, n, ha, hn, by rw [g.1 32 (by unfold isPr; omega)]; exact h1, by rw [g.1 32 (by unfold isPr; omega)]; exact h2, g.2.2.2.2.2.2.2.1.trans h3, fun i hi => ?_⟩
  have h4 := h4 i hi
  have hb : (a + i) % 20 < 20 := Nat.mod_lt _ (by decide)
  rw [g.1 258 (by unfold isPr; omega), g.1 260 (by unfold isPr; omega), g.1 (34 + 5 * ((a + i) % 20)) (by unfold isPr; omega), g.1 (35 + 5 * ((a + i) % 20)) (by unfold isPr; omega), g.1 (36 + 5 * ((a + i) % 20)) (by unfold isPr; omega), g.1 (37 + 5 * ((a + i) % 20)) (by unfold isPr; omega), g.1 (38 + 5 * ((a + i) % 20)) (by unfold isPr; omega)]
  exact h4
theorem InvR_prot {k rn : Nat} {s s2 : am_S} (h : InvR k rn s) (g : prot s s2) : InvR k rn s2 := by
  obtain ⟨h1, h2, h3, h4, h5, h6, h7, h8, h9⟩ := h
  exact ⟨h1, g.2.2.1.trans h2, g.2.2.2.2.1.trans h3, fun r hr => pRule_prot (by omega) (h4 r hr) g, pTape_prot h5 g, pNow_prot h6 g, pImg_prot h7 g, pActs_prot h8 g, g.2.2.2.2.2.2.2.2 h9⟩
theorem wfL_mono {k : Nat} {m : Nat → Int32} (h : wfL k m) : wfL (k + 1) m := ⟨⟨h.1.1, by have := h.1.2; omega⟩, h.2⟩
theorem sitR_mono {k rn : Nat} {m : Nat → Int32} {ch x : Int32} {t0 t2 t3 t4 t5 t6 t7 l0 l1 l2 l3 l4 q0 q1 : Nat → Int32} (h : sitR k rn m ch x t0 t2 t3 t4 t5 t6 t7 l0 l1 l2 l3 l4 q0 q1) : sitR (k + 1) rn m ch x t0 t2 t3 t4 t5 t6 t7 l0 l1 l2 l3 l4 q0 q1 := ⟨h.1, wfL_mono h.2.1, h.2.2⟩
theorem InvR_mono {k rn : Nat} {s : am_S} (h : InvR k rn s) : InvR (k + 1) rn s := by
  obtain ⟨h1, h2, h3, h4, h5, h6, h7, h8, h9⟩ := h
  refine ⟨h1, h2, h3, h4, h5, sitR_mono h6, fun i hi => ⟨(h7 i hi).1, (h7 i hi).2.1, fun z => sitR_mono ((h7 i hi).2.2 z)⟩, ?_, h9⟩
  obtain ⟨a, n, ha, hn, g1, g2, g3, g4⟩ := h8
  exact ⟨a, n, ha, hn, g1, g2, g3, fun i hi => ⟨(g4 i hi).1, wfL_mono (g4 i hi).2.1, (g4 i hi).2.2⟩⟩
theorem Inv_mono (k : Nat) (s : am_S) (h : Inv k s) : Inv (k + 1) s := by
  obtain ⟨rn, h⟩ := h
  exact ⟨rn, InvR_mono h⟩
theorem Inv_prot {k : Nat} {s s2 : am_S} (h : Inv k s) (g : prot s s2) : Inv k s2 := by
  obtain ⟨rn, h⟩ := h
  exact ⟨rn, InvR_prot h g⟩
