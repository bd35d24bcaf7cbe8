/-! copying objects -/
def cpo (a b : Nat) (s : am_S) (o : Nat × Nat × Nat) : am_S := as_w s (a + o.1) (fun j => if o.2.1 ≤ j ∧ j < o.2.1 + o.2.2 then s.1 (b + o.1) j else s.1 (a + o.1) j)
theorem cpo_1 (s : am_S) (a b i k : Nat) : as_i s (a + i) k (s.1 (b + i) k) = cpo a b s (i, k, 1) := by
  rw [as_i_eq_w]
  unfold cpo
  congr 1
  funext j
  dsimp only
  by_cases h : j = k
  · subst h
    rw [upd_s, if_pos (by omega)]
  · rw [upd_n h, if_neg (by omega)]
theorem cpo_n (s : am_S) (a b i n : Nat) : as_w s (a + i) (va_cpy (s.1 (b + i)) (s.1 (a + i)) 0 0 n) = cpo a b s (i, 0, n) := by
  unfold cpo
  congr 1
  funext j
  dsimp only
  by_cases h : j < n
  · rw [pk_cpy_in (Nat.zero_le _) (by omega), if_pos (by omega), Nat.zero_add, Nat.sub_zero]
  · rw [pk_cpy_out (Or.inr (by omega)), if_neg (by omega)]
theorem lt_cp0 {β : Type} (s : am_S) (a b k : Nat) (f : am_S → Option β) : am_lt (as_i s a k (s.1 b k)) f = f (cpo a b s (0, k, 1)) := by
  rw [am_ltd]
  exact congrArg f (cpo_1 s a b 0 k)
theorem lt_cpn {β : Type} (s : am_S) (a b i n : Nat) (f : am_S → Option β) : am_lt (as_w s (a + i) (va_cpy (s.1 (b + i)) (s.1 (a + i)) 0 0 n)) f = f (cpo a b s (i, 0, n)) := by
  rw [am_ltd, cpo_n]
theorem cpo_ne {s : am_S} {a b c : Nat} {o : Nat × Nat × Nat} (h : c ≠ a + o.1) : (cpo a b s o).1 c = s.1 c := as_w1 h
theorem cpo_at (s : am_S) (a b : Nat) (o : Nat × Nat × Nat) (j : Nat) : (cpo a b s o).1 (a + o.1) j = if o.2.1 ≤ j ∧ j < o.2.1 + o.2.2 then s.1 (b + o.1) j else s.1 (a + o.1) j := by
  unfold cpo
  rw [as_w3]
def cvd (ops : List (Nat × Nat × Nat)) (i j : Nat) : Prop := ∃ o ∈ ops, o.1 = i ∧ o.2.1 ≤ j ∧ j < o.2.1 + o.2.2
theorem cpl_spec {a b W : Nat} (hab : a + W ≤ b ∨ b + W ≤ a) : ∀ (ops : List (Nat × Nat × Nat)), (∀ o ∈ ops, o.1 < W) → ∀ s : am_S,
    (∀ i j, i < W → cvd ops i j → (ops.foldl (cpo a b) s).1 (a + i) j = s.1 (b + i) j) ∧ (∀ i j, i < W → (ops.foldl (cpo a b) s).1 (a + i) j = s.1 (b + i) j ∨ (ops.foldl (cpo a b) s).1 (a + i) j = s.1 (a + i) j) ∧ (∀ c, (c < a ∨ a + W ≤ c) → (ops.foldl (cpo a b) s).1 c = s.1 c) ∧ (ops.foldl (cpo a b) s).2 = s.2 := by
  intro ops
  induction ops with
  | nil => intro _ s; exact ⟨fun i j _ h => by obtain ⟨o, ho, -⟩ := h; exact absurd ho (List.not_mem_nil), fun i j _ => Or.inr rfl, fun c _ => rfl, rfl⟩
  | cons o ops ih =>
    intro hW s
    have ho : o.1 < W := hW o List.mem_cons_self
    obtain ⟨h1, h2, h3, h4⟩ := ih (fun x hx => hW x (List.mem_cons_of_mem _ hx)) (cpo a b s o)
    have hb : ∀ i, i < W → (cpo a b s o).1 (b + i) = s.1 (b + i) := fun i hi => cpo_ne (by omega)
    have ha : ∀ i j, i < W → (cpo a b s o).1 (a + i) j = s.1 (b + i) j ∨ (cpo a b s o).1 (a + i) j = s.1 (a + i) j := fun i j hi => by
      by_cases e : i = o.1
      · subst e
        rw [cpo_at]
        split
        · exact Or.inl rfl
        · exact Or.inr rfl
      · rw [cpo_ne (by omega)]
        exact Or.inr rfl
    refine ⟨fun i j hi hc => ?_, fun i j hi => ?_, fun c hc => ?_, h4⟩
    · show (ops.foldl (cpo a b) (cpo a b s o)).1 (a + i) j = _
      obtain ⟨x, hx, e1, e2, e3⟩ := hc
      rcases List.mem_cons.mp hx with rfl | hx
      · subst e1
        have hx : (cpo a b s x).1 (a + x.1) j = s.1 (b + x.1) j := by rw [cpo_at, if_pos ⟨e2, e3⟩]
        rcases h2 x.1 j hi with g | g
        · rw [g, hb _ hi]
        · rw [g, hx]
      · rw [h1 i j hi ⟨x, hx, e1, e2, e3⟩, hb i hi]
    · show (ops.foldl (cpo a b) (cpo a b s o)).1 (a + i) j = _ ∨ (ops.foldl (cpo a b) (cpo a b s o)).1 (a + i) j = _
      rcases h2 i j hi with g | g
      · rw [g, hb i hi]
        exact Or.inl rfl
      · rw [g]
        exact ha i j hi
    · show (ops.foldl (cpo a b) (cpo a b s o)).1 c = _
      rw [h3 c hc, cpo_ne (by omega)]
def opT : List (Nat × Nat × Nat) := [(0, 0, 1), (0, 1, 1), (0, 2, 1), (0, 3, 1), (0, 6, 1), (0, 10, 1), (0, 12, 1), (0, 14, 1), (0, 15, 1), (1, 0, 7), (2, 0, 49), (3, 0, 10), (4, 0, 10), (5, 0, 7), (6, 0, 40), (7, 0, 30)]
def opL : List (Nat × Nat × Nat) := [(1, 0, 56), (2, 0, 56), (3, 0, 56), (4, 0, 7), (0, 4, 1), (0, 5, 1), (0, 6, 1), (0, 7, 1)]
def opS : List (Nat × Nat × Nat) := [(0, 2, 1), (0, 3, 1), (0, 4, 1), (14, 0, 36), (0, 6, 1), (0, 7, 1), (0, 8, 1)]
theorem sepT : ∀ a ∈ am_isT, ∀ b ∈ am_isT, a ≠ b → a + 8 ≤ b ∨ b + 8 ≤ a := by decide +kernel
theorem sepL : ∀ a ∈ am_isL, ∀ b ∈ am_isL, a ≠ b → a + 5 ≤ b ∨ b + 5 ≤ a := by decide +kernel
theorem sepS : ∀ a ∈ am_isS, ∀ b ∈ am_isS, a ≠ b → a + 15 ≤ b ∨ b + 15 ≤ a := by decide +kernel
theorem sT : ∀ a ∈ am_isS, a + 1 ∈ am_isT := by decide +kernel
theorem sL : ∀ a ∈ am_isS, a + 9 ∈ am_isL := by decide +kernel
theorem c_copyL {a b : Nat} (ha : a ∈ am_isL) (hb : b ∈ am_isL) (s : am_S) : f_X2_copyFrom a b s = some (opL.foldl (cpo a b) s) := by
  unfold f_X2_copyFrom
  rw [am_gdt ha, am_gdt hb, lt_cpn, lt_cpn, lt_cpn, lt_cpn, lt_cp0, lt_cp0, lt_cp0, lt_cp0]
  rfl
theorem c_copyT {a b : Nat} (ha : a ∈ am_isT) (hb : b ∈ am_isT) (hab : a ≠ b) (s : am_S) (h0 : s.1 b 0 = 0 ∨ s.1 b 0 = 1) (h15 : s.1 b 15 = 0 ∨ s.1 b 15 = 1) : f_X8_copyFrom a b s = some (opT.foldl (cpo a b) s) := by
  unfold f_X8_copyFrom
  have hs := sepT a ha b hb hab
  rw [am_gdt ha, am_gdt hb, am_gdt h0, lt_cp0, lt_cp0, lt_cp0, lt_cp0, lt_cp0, lt_cp0, lt_cp0, lt_cp0, am_gdt (by simp (disch := (dsimp only; omega)) only [cpo_ne]; exact h15), lt_cp0, lt_cpn, lt_cpn, lt_cpn, lt_cpn, lt_cpn, lt_cpn, lt_cpn]
  rfl
/-- what a situation's copy holds -/
def cpd (i j : Nat) : Prop := (i = 0 ∧ (j = 2 ∨ j = 3 ∨ j = 4 ∨ j = 6 ∨ j = 7 ∨ j = 8)) ∨ (i = 1 ∧ (j = 0 ∨ j = 1 ∨ j = 2 ∨ j = 3 ∨ j = 6 ∨ j = 10 ∨ j = 12 ∨ j = 14 ∨ j = 15)) ∨ (i = 3 ∧ j < 49) ∨ (i = 4 ∧ j < 10) ∨ (i = 5 ∧ j < 10) ∨ (i = 6 ∧ j < 7) ∨ (i = 7 ∧ j < 40) ∨ (i = 8 ∧ j < 30) ∨ (i = 9 ∧ (j = 4 ∨ j = 5 ∨ j = 6 ∨ j = 7)) ∨ (i = 10 ∧ j < 56) ∨ (i = 11 ∧ j < 56) ∨ (i = 12 ∧ j < 56) ∨ (i = 13 ∧ j < 7) ∨ (i = 14 ∧ j < 36)
theorem c_copyS {a b : Nat} (ha : a ∈ am_isS) (hb : b ∈ am_isS) (hab : a ≠ b) (s : am_S) (h0 : s.1 (b + 1) 0 = 0 ∨ s.1 (b + 1) 0 = 1) (h15 : s.1 (b + 1) 15 = 0 ∨ s.1 (b + 1) 15 = 1) : ∃ s2, f_X5_copyFrom a b s = some s2 ∧ (∀ i j, cpd i j → s2.1 (a + i) j = s.1 (b + i) j) ∧ (∀ c, (c < a ∨ a + 15 ≤ c) → s2.1 c = s.1 c) ∧ s2.2 = s.2 := by
  have hs := sepS a ha b hb hab
  have e1 := c_copyT (sT a ha) (sT b hb) (by omega) s h0 h15
  obtain ⟨t1, t2, t3, t4⟩ := cpl_spec (a := a + 1) (b := b + 1) (W := 8) (by omega) opT (by decide) s
  have e2 := c_copyL (sL a ha) (sL b hb) (opT.foldl (cpo (a + 1) (b + 1)) s)
  generalize opT.foldl (cpo (a + 1) (b + 1)) s = s3 at *
  obtain ⟨l1, l2, l3, l4⟩ := cpl_spec (a := a + 9) (b := b + 9) (W := 5) (by omega) opL (by decide) s3
  generalize opL.foldl (cpo (a + 9) (b + 9)) s3 = s4 at *
  obtain ⟨q1, q2, q3, q4⟩ := cpl_spec (a := a) (b := b) (W := 15) (by omega) opS (by decide) s4
  have e3 : f_X5_copyFrom a b s = some (opS.foldl (cpo a b) s4) := by
    unfold f_X5_copyFrom
    rw [am_gdt ha, am_gdt hb, e1, am_bds, e2, am_bds, lt_cp0, lt_cp0, lt_cp0, lt_cpn, lt_cp0, lt_cp0, lt_cp0]
    rfl
  refine ⟨_, e3, fun i j hc => ?_, fun c hc => ?_, by rw [q4, l4, t4]⟩
  · have hb4 : ∀ i, i < 15 → s4.1 (b + i) = s.1 (b + i) := fun i hi => by rw [l3 _ (by omega), t3 _ (by omega)]
    have hT : ∀ i j, i < 8 → cvd opT i j → s4.1 (a + (1 + i)) j = s.1 (b + (1 + i)) j := fun i j hi hc => by
      rw [l3 (a + (1 + i)) (by omega), show a + (1 + i) = a + 1 + i by omega, show b + (1 + i) = b + 1 + i by omega]
      exact t1 i j hi hc
    have hL : ∀ i j, i < 5 → cvd opL i j → s4.1 (a + (9 + i)) j = s.1 (b + (9 + i)) j := fun i j hi hc => by
      rw [show a + (9 + i) = a + 9 + i by omega, show b + (9 + i) = b + 9 + i by omega, l1 i j hi hc, t3 _ (by omega)]
    have fin : ∀ i j, i < 15 → (cvd opS i j ∨ s4.1 (a + i) j = s.1 (b + i) j) → (opS.foldl (cpo a b) s4).1 (a + i) j = s.1 (b + i) j := fun i j hi h => by
      rcases h with h | h
      · rw [q1 i j hi h, hb4 i hi]
      · rcases q2 i j hi with g | g
        · rw [g, hb4 i hi]
        · rw [g, h]
    unfold cpd at hc
    rcases hc with ⟨rfl, h⟩ | ⟨rfl, h⟩ | ⟨rfl, h⟩ | ⟨rfl, h⟩ | ⟨rfl, h⟩ | ⟨rfl, h⟩ | ⟨rfl, h⟩ | ⟨rfl, h⟩ | ⟨rfl, h⟩ | ⟨rfl, h⟩ | ⟨rfl, h⟩ | ⟨rfl, h⟩ | ⟨rfl, h⟩ | ⟨rfl, h⟩
    · refine fin 0 j (by omega) (Or.inl ?_)
      rcases h with rfl | rfl | rfl | rfl | rfl | rfl
      · exact ⟨(0, 2, 1), by decide, rfl, by decide, by decide⟩
      · exact ⟨(0, 3, 1), by decide, rfl, by decide, by decide⟩
      · exact ⟨(0, 4, 1), by decide, rfl, by decide, by decide⟩
      · exact ⟨(0, 6, 1), by decide, rfl, by decide, by decide⟩
      · exact ⟨(0, 7, 1), by decide, rfl, by decide, by decide⟩
      · exact ⟨(0, 8, 1), by decide, rfl, by decide, by decide⟩
    · refine fin 1 j (by omega) (Or.inr (hT 0 j (by omega) ?_))
      rcases h with rfl | rfl | rfl | rfl | rfl | rfl | rfl | rfl | rfl
      · exact ⟨(0, 0, 1), by decide, rfl, by decide, by decide⟩
      · exact ⟨(0, 1, 1), by decide, rfl, by decide, by decide⟩
      · exact ⟨(0, 2, 1), by decide, rfl, by decide, by decide⟩
      · exact ⟨(0, 3, 1), by decide, rfl, by decide, by decide⟩
      · exact ⟨(0, 6, 1), by decide, rfl, by decide, by decide⟩
      · exact ⟨(0, 10, 1), by decide, rfl, by decide, by decide⟩
      · exact ⟨(0, 12, 1), by decide, rfl, by decide, by decide⟩
      · exact ⟨(0, 14, 1), by decide, rfl, by decide, by decide⟩
      · exact ⟨(0, 15, 1), by decide, rfl, by decide, by decide⟩
    · exact fin 3 j (by omega) (Or.inr (hT 2 j (by omega) ⟨(2, 0, 49), by decide, rfl, Nat.zero_le _, by dsimp only; omega⟩))
    · exact fin 4 j (by omega) (Or.inr (hT 3 j (by omega) ⟨(3, 0, 10), by decide, rfl, Nat.zero_le _, by dsimp only; omega⟩))
    · exact fin 5 j (by omega) (Or.inr (hT 4 j (by omega) ⟨(4, 0, 10), by decide, rfl, Nat.zero_le _, by dsimp only; omega⟩))
    · exact fin 6 j (by omega) (Or.inr (hT 5 j (by omega) ⟨(5, 0, 7), by decide, rfl, Nat.zero_le _, by dsimp only; omega⟩))
    · exact fin 7 j (by omega) (Or.inr (hT 6 j (by omega) ⟨(6, 0, 40), by decide, rfl, Nat.zero_le _, by dsimp only; omega⟩))
    · exact fin 8 j (by omega) (Or.inr (hT 7 j (by omega) ⟨(7, 0, 30), by decide, rfl, Nat.zero_le _, by dsimp only; omega⟩))
    · refine fin 9 j (by omega) (Or.inr (hL 0 j (by omega) ?_))
      rcases h with rfl | rfl | rfl | rfl
      · exact ⟨(0, 4, 1), by decide, rfl, by decide, by decide⟩
      · exact ⟨(0, 5, 1), by decide, rfl, by decide, by decide⟩
      · exact ⟨(0, 6, 1), by decide, rfl, by decide, by decide⟩
      · exact ⟨(0, 7, 1), by decide, rfl, by decide, by decide⟩
    · exact fin 10 j (by omega) (Or.inr (hL 1 j (by omega) ⟨(1, 0, 56), by decide, rfl, Nat.zero_le _, by dsimp only; omega⟩))
    · exact fin 11 j (by omega) (Or.inr (hL 2 j (by omega) ⟨(2, 0, 56), by decide, rfl, Nat.zero_le _, by dsimp only; omega⟩))
    · exact fin 12 j (by omega) (Or.inr (hL 3 j (by omega) ⟨(3, 0, 56), by decide, rfl, Nat.zero_le _, by dsimp only; omega⟩))
    · exact fin 13 j (by omega) (Or.inr (hL 4 j (by omega) ⟨(4, 0, 7), by decide, rfl, Nat.zero_le _, by dsimp only; omega⟩))
    · exact fin 14 j (by omega) (Or.inl ⟨(14, 0, 36), by decide, rfl, Nat.zero_le _, by dsimp only; omega⟩)
  · rw [q3 c (by omega), l3 c (by omega), t3 c (by omega)]
/-- a copy of a life -/
theorem c_copyLife {a b : Nat} (ha : a ∈ am_isL) (hb : b ∈ am_isL) (hab : a ≠ b) {m : Nat → Int32} {s : am_S} (w : wfT m) (l : lifeAt m s b) : ∃ s2, f_X2_copyFrom a b s = some s2 ∧ lifeAt m s2 a ∧ (∀ c, (c < a ∨ a + 5 ≤ c) → s2.1 c = s.1 c) ∧ s2.2 = s.2 := by
  have hs := sepL a ha b hb hab
  have hP := w.P7
  have hF := w.F8
  obtain ⟨l1, l2, l3, l4⟩ := cpl_spec (a := a) (b := b) (W := 5) (by omega) opL (by decide) s
  refine ⟨_, c_copyL ha hb s, ?_, l3, l4⟩
  obtain ⟨c1, c2, c3, c4, c5, c6⟩ := l
  have r4 := l1 0 4 (by omega) ⟨(0, 4, 1), by decide, rfl, by decide, by decide⟩
  have r5 := l1 0 5 (by omega) ⟨(0, 5, 1), by decide, rfl, by decide, by decide⟩
  have r6 := l1 0 6 (by omega) ⟨(0, 6, 1), by decide, rfl, by decide, by decide⟩
  have r7 := l1 0 7 (by omega) ⟨(0, 7, 1), by decide, rfl, by decide, by decide⟩
  have q1 : ∀ j, j < 56 → _ := fun j hj => l1 1 j (by omega) ⟨(1, 0, 56), by decide, rfl, Nat.zero_le _, by dsimp only; omega⟩
  have q2 : ∀ j, j < 56 → _ := fun j hj => l1 2 j (by omega) ⟨(2, 0, 56), by decide, rfl, Nat.zero_le _, by dsimp only; omega⟩
  have q3 : ∀ j, j < 56 → _ := fun j hj => l1 3 j (by omega) ⟨(3, 0, 56), by decide, rfl, Nat.zero_le _, by dsimp only; omega⟩
  have q4 : ∀ j, j < 7 → _ := fun j hj => l1 4 j (by omega) ⟨(4, 0, 7), by decide, rfl, Nat.zero_le _, by dsimp only; omega⟩
  refine ⟨r4.trans c1, r5.trans c2, fun h0 => ⟨r7.trans (c3 h0).1, fun z => r6.trans ((c3 h0).2 z)⟩, fun p hp => (q4 p hp).trans (c4 p hp), fun p f hp hf => ⟨(q1 _ (by omega)).trans (c5 p f hp hf).1, (q3 _ (by omega)).trans (c5 p f hp hf).2⟩, fun p f hp hf => (q2 _ (by omega)).trans (c6 p f hp hf)⟩
/-- a situation at a place -/
def sitAt (k rn : Nat) (m : Nat → Int32) (ch x : Int32) (s : am_S) (a : Nat) : Prop := sitR k rn m ch x (s.1 (a + 1)) (s.1 (a + 3)) (s.1 (a + 4)) (s.1 (a + 5)) (s.1 (a + 6)) (s.1 (a + 7)) (s.1 (a + 8)) (s.1 (a + 9)) (s.1 (a + 10)) (s.1 (a + 11)) (s.1 (a + 12)) (s.1 (a + 13)) (s.1 a) (s.1 (a + 14))
theorem sitAt_img {k rn : Nat} {m : Nat → Int32} {ch x : Int32} {s : am_S} {i : Nat} : sitAt k rn m ch x s (186 + 15 * i) ↔ sitR k rn m ch x (s.1 (187 + 15 * i)) (s.1 (189 + 15 * i)) (s.1 (190 + 15 * i)) (s.1 (191 + 15 * i)) (s.1 (192 + 15 * i)) (s.1 (193 + 15 * i)) (s.1 (194 + 15 * i)) (s.1 (195 + 15 * i)) (s.1 (196 + 15 * i)) (s.1 (197 + 15 * i)) (s.1 (198 + 15 * i)) (s.1 (199 + 15 * i)) (s.1 (186 + 15 * i)) (s.1 (200 + 15 * i)) := by
  unfold sitAt
  rw [show 186 + 15 * i + 1 = 187 + 15 * i by omega, show 186 + 15 * i + 3 = 189 + 15 * i by omega, show 186 + 15 * i + 4 = 190 + 15 * i by omega, show 186 + 15 * i + 5 = 191 + 15 * i by omega, show 186 + 15 * i + 6 = 192 + 15 * i by omega, show 186 + 15 * i + 7 = 193 + 15 * i by omega, show 186 + 15 * i + 8 = 194 + 15 * i by omega, show 186 + 15 * i + 9 = 195 + 15 * i by omega, show 186 + 15 * i + 10 = 196 + 15 * i by omega, show 186 + 15 * i + 11 = 197 + 15 * i by omega, show 186 + 15 * i + 12 = 198 + 15 * i by omega, show 186 + 15 * i + 13 = 199 + 15 * i by omega, show 186 + 15 * i + 14 = 200 + 15 * i by omega]
theorem sitAt_cp {k rn : Nat} {m : Nat → Int32} {ch x : Int32} {s s2 : am_S} {a b : Nat} (h : sitAt k rn m ch x s b) (g : ∀ i j, cpd i j → s2.1 (a + i) j = s.1 (b + i) j) : sitAt k rn m ch x s2 a := by
  obtain ⟨w, l, sw, ⟨c1, c2, c3, c4, c5, c6, c7, c8, c9, c10, c11, c12, c13, c14⟩, ⟨d1, d2, d3, d4, d5, d6⟩, ⟨e1, e2, e3, e4, e5, e6, e7⟩, n1, n2⟩ := h
  have hP := w.P7
  have hF := w.F8
  have h3 := w.S10
  have h4 := w.I10
  have h5 := w.H10
  have hs := sw.1.2
  refine ⟨w, l, sw, ⟨(g 1 0 (by unfold cpd; omega)).trans c1, (g 1 1 (by unfold cpd; omega)).trans c2, (g 1 2 (by unfold cpd; omega)).trans c3, (g 1 3 (by unfold cpd; omega)).trans c4, (g 1 6 (by unfold cpd; omega)).trans c5, (g 1 10 (by unfold cpd; omega)).trans c6, (g 1 12 (by unfold cpd; omega)).trans c7, (g 1 14 (by unfold cpd; omega)).trans c8, (g 1 15 (by unfold cpd; omega)).trans c9, fun h0 j hj => (g 3 j (by unfold cpd; omega)).trans (c10 h0 j hj), fun i hi => ⟨(g 4 i (by unfold cpd; omega)).trans (c11 i hi).1, (g 5 i (by unfold cpd; omega)).trans (c11 i hi).2⟩, fun p hp => (g 6 p (by unfold cpd; omega)).trans (c12 p hp), fun j hj => (g 7 j (by unfold cpd; omega)).trans (c13 j hj), fun j hj => (g 8 j (by unfold cpd; omega)).trans (c14 j hj)⟩, ⟨(g 9 4 (by unfold cpd; omega)).trans d1, (g 9 5 (by unfold cpd; omega)).trans d2, fun h0 => ⟨(g 9 7 (by unfold cpd; omega)).trans (d3 h0).1, fun z => (g 9 6 (by unfold cpd; omega)).trans ((d3 h0).2 z)⟩, fun p hp => (g 13 p (by unfold cpd; omega)).trans (d4 p hp), fun p f hp hf => ⟨(g 10 _ (by unfold cpd; omega)).trans (d5 p f hp hf).1, (g 12 _ (by unfold cpd; omega)).trans (d5 p f hp hf).2⟩, fun p f hp hf => (g 11 _ (by unfold cpd; omega)).trans (d6 p f hp hf)⟩, ⟨(g 0 2 (by unfold cpd; omega)).trans e1, (g 0 3 (by unfold cpd; omega)).trans e2, (g 0 4 (by unfold cpd; omega)).trans e3, (g 0 6 (by unfold cpd; omega)).trans e4, (g 0 7 (by unfold cpd; omega)).trans e5, (g 0 8 (by unfold cpd; omega)).trans e6, fun j hj => (g 14 j (by unfold cpd; omega)).trans (e7 j hj)⟩, n1, n2⟩
theorem wfS_eq {m n : Nat → Int32} (h : ∀ j, j < 328 → n j = m j) (sw : wfS m) : wfS n := by
  obtain ⟨s1, s2, s3, s4⟩ := sw
  have l1 := s1.2
  have l2 := s2.2
  refine ⟨isN_eq (h 326 (by omega)) rfl s1, isN_eq (h 327 (by omega)) rfl s2, fun i hi => ?_, fun i hi => ?_⟩
  · rw [mN_eq (h 326 (by omega))] at hi
    obtain ⟨a, b, c⟩ := s3 i hi
    exact ⟨isN_eq (h _ (by omega)) (mN_eq (h 2 (by omega))) a, isN_eq (h _ (by omega)) (mN_eq (h 0 (by omega))) b, by rw [h _ (by omega)]; exact c⟩
  · rw [mN_eq (h 327 (by omega))] at hi
    obtain ⟨a, b⟩ := s4 i hi
    exact ⟨isN_eq (h _ (by omega)) rfl a, by rw [h _ (by omega)]; exact b⟩
theorem taleBits_eq {m n : Nat → Int32} (h : ∀ j, 306 ≤ j → j < 328 → n j = m j) (sw : mN m 327 < 11) (v : Int32) : taleBits n v = taleBits m v := by
  unfold taleBits
  refine bitsOf_congr 10 (fun q _ => ?_)
  rw [mN_eq (h 327 (by omega) (by omega)), Bool.eq_iff_iff, List.any_eq_true, List.any_eq_true]
  have e : ∀ i, i ∈ List.range (mN m 327) → (mN n (306 + 2 * i) == q && n (306 + 2 * i + 1) == v) = (mN m (306 + 2 * i) == q && m (306 + 2 * i + 1) == v) := fun i hi => by
    have hi := List.mem_range.mp hi
    rw [mN_eq (h (306 + 2 * i) (by omega) (by omega)), h (306 + 2 * i + 1) (by omega) (by omega)]
  constructor
  · rintro ⟨i, hi, hj⟩
    exact ⟨i, hi, by rw [← e i hi]; exact hj⟩
  · rintro ⟨i, hi, hj⟩
    exact ⟨i, hi, by rw [e i hi]; exact hj⟩
theorem sitR_m {k rn : Nat} {m n : Nat → Int32} {ch x : Int32} {t0 t2 t3 t4 t5 t6 t7 l0 l1 l2 l3 l4 q0 q1 : Nat → Int32} (hm : ∀ j, j < 328 → n j = m j) (h : sitR k rn m ch x t0 t2 t3 t4 t5 t6 t7 l0 l1 l2 l3 l4 q0 q1) : sitR k rn n ch x t0 t2 t3 t4 t5 t6 t7 l0 l1 l2 l3 l4 q0 q1 := by
  obtain ⟨w, l, sw, c, d, e, n1, n2⟩ := h
  have a : agT m n := agT_low (fun j hj => hm j (by omega))
  have l1 := sw.1.2
  refine ⟨wfT_eq a w, wfL_eq (fun j hj => hm j (by omega)) w.P7 w.F8 l, wfS_eq hm sw, clT_eq a w c, clL_eq (fun j hj => hm j (by omega)) w d, ?_, n1, n2⟩
  obtain ⟨e1, e2, e3, e4, e5, e6, e7⟩ := e
  refine ⟨e1, e2, by rw [hm 326 (by omega)]; exact e3, by rw [hm 327 (by omega)]; exact e4, by rw [taleBits_eq (fun j _ hj => hm j hj) sw.2.1.2]; exact e5, by rw [taleBits_eq (fun j _ hj => hm j hj) sw.2.1.2]; exact e6, fun j hj => ?_⟩
  rw [mN_eq (hm 326 (by omega))] at hj
  rw [hm _ (by omega)]
  exact e7 j hj
/-- copying within the reference, cell by cell -/
def cpv (g : Nat → Int32) (d n : Nat) (v : Nat → Int32) : Nat → Int32 := fun j => if d ≤ j ∧ j < d + n then v (j - d) else g j
theorem cpv_0 (g : Nat → Int32) (d : Nat) (v : Nat → Int32) : cpv g d 0 v = g := by
  funext j
  exact if_neg (by omega)
theorem cpv_1 (g : Nat → Int32) (d n : Nat) (v : Nat → Int32) : upd (cpv g d n v) (d + n) (v n) = cpv g d (n + 1) v := by
  funext j
  by_cases h : j = d + n
  · subst h
    rw [upd_s]
    unfold cpv
    rw [if_pos (by omega), show d + n - d = n by omega]
  · rw [upd_n h]
    unfold cpv
    by_cases c : d ≤ j ∧ j < d + n
    · rw [if_pos c, if_pos (by omega)]
    · rw [if_neg c, if_neg (by omega)]
theorem cpv_in {g : Nat → Int32} {d n : Nat} {v : Nat → Int32} {j : Nat} (h : d ≤ j) (h2 : j < d + n) : cpv g d n v j = v (j - d) := if_pos ⟨h, h2⟩
theorem cpv_out {g : Nat → Int32} {d n : Nat} {v : Nat → Int32} {j : Nat} (h : j < d ∨ d + n ≤ j) : cpv g d n v j = g j := if_neg (by omega)
theorem lp_copyR {ε : Type} {body : Int32 × am_S → Option ((Int32 × am_S) ⊕ ε)} (a n d : Nat) (v : Nat → Int32) (s : am_S) {e : ε} (hs : ∀ i, i < n → ∀ g, body (nI i, as_w s a g) = some (.inl (nI (i + 1), as_i (as_w s a g) a (d + i) (v i)))) (he : body (nI n, as_w s a (cpv (s.1 a) d n v)) = some (.inr e)) (hn : n < 4000) : am_lp body am_F ((0 : Int32), s) = some e := by
  have h := am_lp_run (body := body) (fun i => (nI i, as_w s a (cpv (s.1 a) d i v))) n (fun i hi => by rw [hs i hi, as_iw, cpv_1]) he (F := am_F) hn
  rw [cpv_0, as_w_self] at h
  exact h
