/-! steps over a stack, in both -/
def stk (f : Nat → Int64) : Nat → List Int64
  | 0 => []
  | n + 1 => f n :: stk f n
theorem stk_congr {f g : Nat → Int64} : ∀ n, (∀ k, k < n → f k = g k) → stk f n = stk g n
  | 0, _ => rfl
  | n + 1, h => by rw [stk, stk, stk_congr n (fun k hk => h k (by omega)), h n (by omega)]
theorem stk_len (f : Nat → Int64) : ∀ n, (stk f n).length = n
  | 0 => rfl
  | n + 1 => by rw [stk, List.length_cons, stk_len f n]
def opV (d : Nat) (x y : Int64) : Int64 := match d with
  | 3 => x &&& y
  | 4 => x ||| y
  | 5 => x + y
  | 6 => x - y
  | 7 => x * y
  | 8 => if y = 0 then 0 else x / y
  | 9 => if y = 0 then 0 else x - x / y * y
  | 10 => if x < y then 1 else 0
  | 11 => if x ≤ y then 1 else 0
  | 12 => if x = y then 1 else 0
  | 13 => if y ≤ x then 1 else 0
  | _ => if y < x then 1 else 0
def stepV (W : Nat → Int64) (d v : Nat) (st : List Int64) : List Int64 :=
  if d = 0 then (nI v).toInt64 :: st else if d = 1 then W (wordM v) :: st else match st with
  | x :: st => if d = 2 then (1 - x) :: st else (match st with
    | y :: st => opV d y x :: st
    | [] => [])
  | [] => []
def runV (W : Nat → Int64) (D V : Nat → Nat) (b : Nat) : Nat → List Int64 → List Int64
  | 0, st => st
  | n + 1, st => runV W D V (b + 1) n (stepV W (D b) (V b) st)
def okSt : List Bool → List Int64 → Prop
  | [], [] => True
  | t :: ts, x :: xs => (t = true → x = 0 ∨ x = 1) ∧ okSt ts xs
  | _, _ => False
theorem okSt_len : ∀ (ts : List Bool) (st : List Int64), okSt ts st → ts.length = st.length
  | [], [], _ => rfl
  | t :: ts, x :: xs, h => by rw [List.length_cons, List.length_cons, okSt_len ts xs h.2]
  | [], x :: xs, h => h.elim
  | t :: ts, [], h => h.elim
theorem ite01 {c : Prop} [Decidable c] : (if c then (1 : Int64) else 0) = 0 ∨ (if c then (1 : Int64) else 0) = 1 := by
  split
  · exact Or.inr rfl
  · exact Or.inl rfl
theorem opV_cmp {d : Nat} (h : 10 ≤ d) (h2 : d ≤ 14) (x y : Int64) : opV d x y = 0 ∨ opV d x y = 1 := by
  have : d = 10 ∨ d = 11 ∨ d = 12 ∨ d = 13 ∨ d = 14 := by omega
  rcases this with rfl | rfl | rfl | rfl | rfl <;> exact ite01
theorem okSt_step {W : Nat → Int64} {d v : Nat} (hd : d ≤ 14) : ∀ (ts ts2 : List Bool) (st : List Int64), stepT d ts = some ts2 → okSt ts st → okSt ts2 (stepV W d v st) := by
  intro ts ts2 st h ho
  unfold stepT at h
  unfold stepV
  by_cases h2 : d < 2
  · rw [if_pos h2] at h
    cases h
    by_cases h0 : d = 0
    · rw [if_pos h0]
      exact ⟨fun z => absurd z (by decide), ho⟩
    · rw [if_neg h0, if_pos (by omega)]
      exact ⟨fun z => absurd z (by decide), ho⟩
  · rw [if_neg h2] at h
    rw [if_neg (by omega), if_neg (by omega)]
    cases ts with
    | nil => cases h
    | cons t ts =>
      cases st with
      | nil => exact ho.elim
      | cons x st =>
        by_cases e2 : d = 2
        · dsimp only at h ⊢
          rw [if_pos e2] at h ⊢
          cases t with
          | false => cases h
          | true =>
            cases h
            refine ⟨fun _ => ?_, ho.2⟩
            rcases ho.1 rfl with z | z <;> rw [z]
            · exact Or.inr (by decide)
            · exact Or.inl (by decide)
        · dsimp only at h ⊢
          rw [if_neg e2] at h ⊢
          cases ts with
          | nil => cases h
          | cons u ts =>
            cases st with
            | nil => exact ho.2.elim
            | cons y st =>
              dsimp only at h ⊢
              by_cases h5 : d < 5
              · rw [if_pos h5] at h
                cases t with
                | false => cases h
                | true =>
                  cases u with
                  | false => cases h
                  | true =>
                    cases h
                    refine ⟨fun _ => ?_, ho.2.2⟩
                    have : d = 3 ∨ d = 4 := by omega
                    rcases this with rfl | rfl <;> rcases ho.1 rfl with z | z <;> rcases ho.2.1 rfl with y | y <;> rw [z, y] <;> decide
              · rw [if_neg h5] at h
                cases t with
                | true => cases h
                | false =>
                  cases u with
                  | true => cases h
                  | false =>
                    by_cases h10 : d < 10
                    · rw [if_pos h10] at h
                      cases h
                      exact ⟨fun z => absurd z (by decide), ho.2.2⟩
                    · rw [if_neg h10] at h
                      cases h
                      exact ⟨fun _ => opV_cmp (by omega) hd _ _, ho.2.2⟩
theorem c_combine {d : Nat} (h3 : 3 ≤ d) (hd : d ≤ 14) (x y : Int64) : f_X3_combine (nI d) x y = some (opV d x y) := by
  have : d = 3 ∨ d = 4 ∨ d = 5 ∨ d = 6 ∨ d = 7 ∨ d = 8 ∨ d = 9 ∨ d = 10 ∨ d = 11 ∨ d = 12 ∨ d = 13 ∨ d = 14 := by omega
  unfold f_X3_combine
  have fin : ∀ (c : Prop) [Decidable c] (v : Int32), v = b01 c → am_bd (some v) (fun v15 => am_if (v15 = 0) (some (0 : Int64)) (some (1 : Int64))) = some (if c then (1 : Int64) else 0) := by
    intro c _ v hv
    rw [am_bds, hv]
    by_cases h : c
    · rw [am_b1 h, if_pos h]
    · rw [am_b0 h, if_neg h]
  have pick : ∀ (c e : Prop) [Decidable c] [Decidable e], (e ↔ ¬ c) → am_if e (some (0 : Int32)) (some (1 : Int32)) = some (b01 c) := by
    intro c e _ _ h
    by_cases hc : c
    · rw [am_iff (fun z => h.mp z hc), b01_t hc]
    · rw [am_ift (h.mpr hc), b01_f hc]
  rcases this with rfl | rfl | rfl | rfl | rfl | rfl | rfl | rfl | rfl | rfl | rfl | rfl
  · rw [am_ift rfl]; rfl
  · rw [am_iff (by decide), am_ift rfl]; rfl
  · repeat rw [am_iff (by decide)]
    rw [am_ift rfl]; rfl
  · repeat rw [am_iff (by decide)]
    rw [am_ift rfl]; rfl
  · repeat rw [am_iff (by decide)]
    rw [am_ift rfl]; rfl
  · rw [am_iff (by decide), am_iff (by decide), am_iff (by decide), am_iff (by decide), am_iff (by decide), am_ift rfl]
    show _ = some (if y = 0 then 0 else x / y)
    by_cases c : y = 0
    · rw [am_ift ((lg_cmp_eq y 0).mpr c), if_pos c]
    · rw [am_iff (fun z => c ((lg_cmp_eq y 0).mp z)), am_gdt c, if_neg c]
  · rw [am_iff (by decide), am_iff (by decide), am_iff (by decide), am_iff (by decide), am_iff (by decide), am_iff (by decide), am_ift rfl]
    show _ = some (if y = 0 then 0 else x - x / y * y)
    by_cases c : y = 0
    · rw [am_ift ((lg_cmp_eq y 0).mpr c), if_pos c]
    · rw [am_iff (fun z => c ((lg_cmp_eq y 0).mp z)), am_gdt c, if_neg c]
  · rw [am_iff (by decide), am_iff (by decide), am_iff (by decide), am_iff (by decide), am_iff (by decide), am_iff (by decide), am_iff (by decide)]
    unfold f_X3_compare
    rw [am_ift rfl, pick (x < y) _ (by rw [lg_cmp_ge, Int64.not_lt])]
    exact fin (x < y) _ rfl
  · rw [am_iff (by decide), am_iff (by decide), am_iff (by decide), am_iff (by decide), am_iff (by decide), am_iff (by decide), am_iff (by decide)]
    unfold f_X3_compare
    rw [am_iff (by decide), am_ift rfl, pick (x ≤ y) _ (by rw [lg_cmp_gt, Int64.not_le])]
    exact fin (x ≤ y) _ rfl
  · rw [am_iff (by decide), am_iff (by decide), am_iff (by decide), am_iff (by decide), am_iff (by decide), am_iff (by decide), am_iff (by decide)]
    unfold f_X3_compare
    rw [am_iff (by decide), am_iff (by decide), am_ift rfl]
    have e : am_if (lg_cmp x y = 0) (some (1 : Int32)) (some (0 : Int32)) = some (b01 (x = y)) := by
      by_cases hc : x = y
      · rw [am_ift ((lg_cmp_eq x y).mpr hc), b01_t hc]
      · rw [am_iff (fun z => hc ((lg_cmp_eq x y).mp z)), b01_f hc]
    rw [e]
    exact fin (x = y) _ rfl
  · rw [am_iff (by decide), am_iff (by decide), am_iff (by decide), am_iff (by decide), am_iff (by decide), am_iff (by decide), am_iff (by decide)]
    unfold f_X3_compare
    rw [am_iff (by decide), am_iff (by decide), am_iff (by decide), am_ift rfl, pick (y ≤ x) _ (by rw [lg_cmp_lt, Int64.not_le])]
    exact fin (y ≤ x) _ rfl
  · rw [am_iff (by decide), am_iff (by decide), am_iff (by decide), am_iff (by decide), am_iff (by decide), am_iff (by decide), am_iff (by decide)]
    unfold f_X3_compare
    rw [am_iff (by decide), am_iff (by decide), am_iff (by decide), am_iff (by decide), pick (y < x) _ (by rw [lg_cmp_le, Int64.not_lt])]
    exact fin (y < x) _ rfl
theorem m_one {d : Nat} (h3 : 3 ≤ d) (hd : d ≤ 14) (q : Nat) (x y : Int64) : f_X12_one (nI (opM d q)) x y = some (opV d x y) := by
  have : d = 3 ∨ d = 4 ∨ d = 5 ∨ d = 6 ∨ d = 7 ∨ d = 8 ∨ d = 9 ∨ d = 10 ∨ d = 11 ∨ d = 12 ∨ d = 13 ∨ d = 14 := by omega
  unfold f_X12_one
  have pick : ∀ (c e : Prop) [Decidable c] [Decidable e], (e ↔ ¬ c) → am_if e (some (0 : Int64)) (some (1 : Int64)) = some (if c then 1 else 0) := by
    intro c e _ _ h
    by_cases hc : c
    · rw [am_iff (fun z => h.mp z hc), if_pos hc]
    · rw [am_ift (h.mpr hc), if_neg hc]
  rcases this with rfl | rfl | rfl | rfl | rfl | rfl | rfl | rfl | rfl | rfl | rfl | rfl
  · show am_if (nI 12 = nI 2) _ _ = _
    rw [show opM 3 q = 12 from rfl]
    repeat rw [am_iff (by decide)]
    rw [am_ift rfl]; rfl
  · rw [show opM 4 q = 13 from rfl]
    repeat rw [am_iff (by decide)]
    rw [am_ift rfl]; rfl
  · rw [show opM 5 q = 2 from rfl, am_ift rfl]; rfl
  · rw [show opM 6 q = 3 from rfl, am_iff (by decide), am_ift rfl]; rfl
  · rw [show opM 7 q = 4 from rfl, am_iff (by decide), am_iff (by decide), am_ift rfl]; rfl
  · rw [show opM 8 q = 5 from rfl, am_iff (by decide), am_iff (by decide), am_iff (by decide), am_ift rfl]
    show _ = some (if y = 0 then 0 else x / y)
    by_cases c : y = 0
    · rw [am_ift ((lg_cmp_eq y 0).mpr c), if_pos c]
    · rw [am_iff (fun z => c ((lg_cmp_eq y 0).mp z)), am_gdt c, if_neg c]
  · rw [show opM 9 q = 14 from rfl]
    rw [am_iff (by decide), am_iff (by decide), am_iff (by decide), am_iff (by decide), am_iff (by decide), am_iff (by decide), am_iff (by decide), am_iff (by decide), am_iff (by decide), am_iff (by decide), am_iff (by decide), am_iff (by decide), am_ift rfl]
    show _ = some (if y = 0 then 0 else x - x / y * y)
    by_cases c : y = 0
    · rw [am_ift ((lg_cmp_eq y 0).mpr c), if_pos c]
    · rw [am_iff (fun z => c ((lg_cmp_eq y 0).mp z)), am_gdt c, if_neg c]
  · rw [show opM 10 q = 6 from rfl, am_iff (by decide), am_iff (by decide), am_iff (by decide), am_iff (by decide), am_ift rfl, pick (x < y) _ (by rw [lg_cmp_ge, Int64.not_lt])]
    rfl
  · rw [show opM 11 q = 7 from rfl, am_iff (by decide), am_iff (by decide), am_iff (by decide), am_iff (by decide), am_iff (by decide), am_ift rfl, pick (x ≤ y) _ (by rw [lg_cmp_gt, Int64.not_le])]
    rfl
  · rw [show opM 12 q = 8 from rfl, am_iff (by decide), am_iff (by decide), am_iff (by decide), am_iff (by decide), am_iff (by decide), am_iff (by decide), am_ift rfl]
    show _ = some (if x = y then 1 else 0)
    by_cases hc : x = y
    · rw [am_ift ((lg_cmp_eq x y).mpr hc), if_pos hc]
    · rw [am_iff (fun z => hc ((lg_cmp_eq x y).mp z)), if_neg hc]
  · rw [show opM 13 q = 9 from rfl, am_iff (by decide), am_iff (by decide), am_iff (by decide), am_iff (by decide), am_iff (by decide), am_iff (by decide), am_iff (by decide), am_ift rfl, pick (y ≤ x) _ (by rw [lg_cmp_lt, Int64.not_le])]
    rfl
  · rw [show opM 14 q = 10 from rfl, am_iff (by decide), am_iff (by decide), am_iff (by decide), am_iff (by decide), am_iff (by decide), am_iff (by decide), am_iff (by decide), am_iff (by decide), am_ift rfl, pick (y < x) _ (by rw [lg_cmp_le, Int64.not_lt])]
    rfl
/-- the texts that are reckoned out -/
def okD (sz : Nat) (D V : Nat → Nat) : Prop := sz ≤ 400 ∧ ∀ i, i < sz → D i ≤ 14 ∧ V i < 100000 ∧ (D i = 1 → okWord (V i))
theorem wordM_lt (w : Nat) : wordM w < 14 := by
  unfold wordM
  split <;> decide
/-- one step of the class -/
theorem c_step {a1 : Nat} {s x : am_S} {W : Nat → Int64} {sz : Nat} {D V : Nat → Nat} (hD : okD sz D V) (hX : ∀ i, i < sz → s.1 (a1 + 1) i = nI (D i) ∧ s.1 (a1 + 2) i = nI (V i)) (hV : ∀ x : am_S, x.1 = s.1 → x.2.2 = s.2.2 → ∀ w, okWord w → f_X6_valueOf (nI w) x = some (W (wordM w))) {b e : Nat} (hb : b < e) (he : e ≤ sz) {ts ts2 : List Bool} {top : Nat} (x1 : x.1 = s.1) (x2 : x.2.2 = s.2.2) (ho : okSt ts (stk (x.2.1 143) top)) (h63 : ts.length ≤ 64) (hT : stepT (D b) ts = some ts2) (h64 : ts2.length ≤ 64) : ∃ top2 x2, b_X3_work_6 a1 (nI e) (nI top) (nI b) x = some (.inl (nI top2, nI (b + 1), x2)) ∧ x2.1 = s.1 ∧ x2.2.2 = s.2.2 ∧ stk (x2.2.1 143) top2 = stepV W (D b) (V b) (stk (x.2.1 143) top) := by
  have hsz := hD.1
  obtain ⟨d1, d2, d3⟩ := hD.2 b (by omega)
  obtain ⟨g1, g2⟩ := hX b (by omega)
  have hl := okSt_len _ _ ho
  rw [stk_len] at hl
  unfold b_X3_work_6
  rw [am_iff (nI_ge hb (by omega)), gd_nI (by omega) (by decide), cL (by omega), am_ltd, x1, g1]
  by_cases h2 : D b < 2
  · have hts : ts2.length = top + 1 := by
      unfold stepT at hT
      rw [if_pos h2] at hT
      cases hT
      rw [List.length_cons, hl]
    have key : ∀ w : Int64, stk ((as_j x 143 top w).2.1 143) (top + 1) = w :: stk (x.2.1 143) top := fun w => by
      rw [stk, jl1, stk_congr top (fun k hk => jl2 (by omega))]
    by_cases h0 : D b = 0
    · rw [h0, am_ift (by decide)]
      unfold j_X3_work_32
      rw [am_iff (nI_ge (by omega) (by decide)), am_ift (by decide), gd_nI (by omega) (by decide), gd_nI (by omega) (by decide), cL (by omega), cL (by omega), am_ltd, am_ltd, am_ltd, nI_1, nI_1, x1, g2]
      exact ⟨top + 1, _, rfl, x1, x2, key _⟩
    · have h1 : D b = 1 := by omega
      rw [h1, am_iff (by decide), am_ift (by decide)]
      unfold j_X3_work_32
      rw [am_iff (nI_ge (by omega) (by decide)), am_iff (by decide), gd_nI (by omega) (by decide), cL (by omega), x1, g2, hV x x1 x2 _ (d3 h1), am_bds, gd_nI (by omega) (by decide), cL (by omega), am_ltd, am_ltd, am_ltd, nI_1, nI_1]
      exact ⟨top + 1, _, rfl, x1, x2, key _⟩
  · have n0 : ¬ nI (D b) = 0 := nI_ne0 (by omega) (by omega)
    have n1 : ¬ nI (D b) = 1 := by
      show ¬ nI (D b) = nI 1
      rw [nI_eq (by omega) (by decide)]
      omega
    rw [am_iff n0, am_iff n1]
    unfold stepT at hT
    rw [if_neg h2] at hT
    cases ts with
    | nil => cases hT
    | cons t ts =>
      obtain ⟨k, rfl⟩ : ∃ k, top = k + 1 := ⟨top - 1, by rw [List.length_cons] at hl; omega⟩
      by_cases e2 : D b = 2
      · have hk : k + 1 ≤ 64 := by omega
        rw [e2, am_ift rfl, am_iff (show ¬ nI (k + 1) < 1 from nI_nlt (b := 1) (by omega) (by omega)), am_ltd, nI_pr, gd_nI (by omega) (by decide), gd_nI (by omega) (by decide), cL (by omega), am_ltd, am_ltd, nI_1]
        refine ⟨k + 1, _, rfl, x1, x2, ?_⟩
        rw [stk, jl1, stk_congr k (g := x.2.1 143) (fun j hj => jl2 (by omega)), stk]
        rfl
      · have n2 : ¬ nI (D b) = nI 2 := by
          rw [nI_eq (by omega) (by decide)]
          exact e2
        dsimp only at hT
        rw [if_neg e2] at hT
        cases ts with
        | nil => cases hT
        | cons u ts =>
          obtain ⟨k, rfl⟩ : ∃ k2, k = k2 + 1 := ⟨k - 1, by rw [List.length_cons, List.length_cons] at hl; omega⟩
          have hk : k + 2 ≤ 64 := by omega
          rw [am_iff n2, am_iff (nI_nlt (by omega) (by omega)), am_ltd, pk_m1, am_ltd, nI_pr, gd_nI (by omega) (by decide)]
          rw [gd_nI (by omega) (by decide), cL (by omega), cL (by omega), c_combine (by omega) d1, am_bds, gd2 (by omega) (by decide), am_ltd, am_ltd, nI_1]
          refine ⟨k + 1, _, rfl, x1, x2, ?_⟩
          rw [stk, jl1, stk_congr k (g := x.2.1 143) (fun j hj => jl2 (by omega)), stk, stk]
          unfold stepV
          rw [if_neg (by omega), if_neg (by omega)]
          dsimp only
          rw [if_neg e2]
/-- a text reckoned out by the class -/
theorem c_work {a1 : Nat} {s : am_S} {W : Nat → Int64} {sz : Nat} {D V : Nat → Nat} (ha : a1 ∈ am_isR) (hD : okD sz D V) (hX : ∀ i, i < sz → s.1 (a1 + 1) i = nI (D i) ∧ s.1 (a1 + 2) i = nI (V i)) (hV : ∀ x : am_S, x.1 = s.1 → x.2.2 = s.2.2 → ∀ w, okWord w → f_X6_valueOf (nI w) x = some (W (wordM w))) {b e : Nat} (hb : b ≤ e) (he : e ≤ sz) {t : Bool} (hT : runT D b (e - b) [] = some [t]) : ∃ y s2, f_X3_work a1 (nI b) (nI e) s = some (y, s2) ∧ s2.1 = s.1 ∧ s2.2.2 = s.2.2 ∧ runV W D V b (e - b) [] = [y] ∧ (t = true → y = 0 ∨ y = 1) := by
  have hsz := hD.1
  have key : ∀ (n b : Nat) (ts : List Bool) (top : Nat) (x : am_S) (F : Nat), b + n = e → n < F → x.1 = s.1 → x.2.2 = s.2.2 → okSt ts (stk (x.2.1 143) top) → ts.length ≤ 64 → runT D b n ts = some [t] → ∃ y s2, am_lp (fun (q : Int32 × Int32 × am_S) => b_X3_work_6 a1 (nI e) q.1 q.2.1 q.2.2) F (nI top, nI b, x) = some (y, s2) ∧ s2.1 = s.1 ∧ s2.2.2 = s.2.2 ∧ runV W D V b n (stk (x.2.1 143) top) = [y] ∧ (t = true → y = 0 ∨ y = 1) := by
    intro n
    induction n with
    | zero =>
      intro b ts top x F hn hF x1 x2 ho h63 hT
      obtain ⟨F', rfl⟩ : ∃ F', F = F' + 1 := ⟨F - 1, by omega⟩
      cases hT
      have hl := okSt_len _ _ ho
      rw [stk_len, List.length_cons, List.length_nil] at hl
      subst hl
      refine ⟨x.2.1 143 0, x, am_lp_inr ?_, x1, x2, rfl, ho.1⟩
      dsimp only
      unfold b_X3_work_6 j_X3_work_162
      rw [am_ift (nI_le (by omega) (by omega)), am_iff (by decide), am_bds]
    | succ n ih =>
      intro b ts top x F hn hF x1 x2 ho h63 hT
      obtain ⟨F', rfl⟩ : ∃ F', F = F' + 1 := ⟨F - 1, by omega⟩
      unfold runT at hT
      cases hst : stepT (D b) ts with
      | none => rw [hst] at hT; cases hT
      | some ts2 =>
        rw [hst] at hT
        dsimp only at hT
        by_cases h64 : ts2.length ≤ 64
        · rw [if_pos h64] at hT
          obtain ⟨top2, z, g1, g2, g3, g4⟩ := c_step hD hX hV (b := b) (e := e) (by omega) he x1 x2 ho h63 hst h64
          obtain ⟨y, s2, k1, k2, k3, k4, k5⟩ := ih (b + 1) ts2 top2 z F' (by omega) (by omega) g2 g3 (by rw [g4]; exact okSt_step (hD.2 b (by omega)).1 ts ts2 _ hst ho) h64 hT
          refine ⟨y, s2, by rw [am_lp_inl g1]; exact k1, k2, k3, ?_, k5⟩
          rw [runV, ← g4]
          exact k4
        · rw [if_neg h64] at hT
          cases hT
  have e4 : am_F = 4000 := rfl
  obtain ⟨y, s2, h1, h2, h3, h4, h5⟩ := key (e - b) b [] 0 s am_F (by omega) (by omega) rfl rfl trivial (by decide) hT
  refine ⟨y, s2, ?_, h2, h3, h4, h5⟩
  unfold f_X3_work
  rw [am_gdt ha]
  exact h1
/-- states that differ in the reference's stack alone -/
def ref18 (s x : am_S) : Prop := (∀ a, a ≠ 248 → x.1 a = s.1 a) ∧ (∀ j, j ≠ 18 → x.1 248 j = s.1 248 j) ∧ x.2.2 = s.2.2 ∧ ∀ a, a ≠ 256 → x.2.1 a = s.2.1 a
theorem ref18.rf (s : am_S) : ref18 s s := ⟨fun _ _ => rfl, fun _ _ => rfl, rfl, fun _ _ => rfl⟩
theorem ref18.tr {s x y : am_S} (h : ref18 s x) (g : ref18 x y) : ref18 s y := ⟨fun a ha => (g.1 a ha).trans (h.1 a ha), fun j hj => (g.2.1 j hj).trans (h.2.1 j hj), g.2.2.1.trans h.2.2.1, fun a ha => (g.2.2.2 a ha).trans (h.2.2.2 a ha)⟩
theorem ref18_i (s : am_S) (v : Int32) : ref18 s (as_i s 248 18 v) := ⟨fun _ h => as_i1 h, fun _ h => as_i2 h, rfl, fun _ _ => rfl⟩
theorem ref18_j (s : am_S) (k : Nat) (v : Int64) : ref18 s (as_j s 256 k v) := ⟨fun _ _ => rfl, fun _ _ => rfl, rfl, fun _ ha => jl3 ha⟩
theorem ref18.p {s x : am_S} (h : ref18 s x) : prot s x := by
  refine ⟨fun a ha => h.1 a (fun e => by subst e; unfold isPr at ha; omega), by rw [h.1 0 (by decide)], by rw [h.1 0 (by decide)], h.2.1 1 (by decide), h.2.1 2 (by decide), h.2.1 21 (by decide), h.2.1 22 (by decide), h.2.1 25 (by decide), fun z => ?_⟩
  unfold pRef at z ⊢
  rw [h.2.2.1]
  exact z
theorem m_push {x : am_S} {top : Nat} {w : Int64} (h : x.1 248 18 = nI top) (ht : top < 64) : ∃ y, f_X12_push w x = some y ∧ ref18 x y ∧ y.1 248 18 = nI (top + 1) ∧ stk (y.2.1 256) (top + 1) = w :: stk (x.2.1 256) top := by
  refine ⟨as_i (as_j x 256 top w) 248 18 (nI (top + 1)), ?_, (ref18_j x top w).tr (ref18_i _ _), as_i3, ?_⟩
  · unfold f_X12_push
    rw [h, gd_nI ht (by decide), cL (by omega), am_ltd, as_j1, h, nI_1, am_ltd]
  · rw [as_i4, stk, jl1, stk_congr top (g := x.2.1 256) (fun k hk => jl2 (by omega))]
theorem m_pop {x : am_S} {top : Nat} (h : x.1 248 18 = nI (top + 1)) (ht : top < 64) : ∃ y, f_X12_pop x = some (x.2.1 256 top, y) ∧ ref18 x y ∧ y.1 248 18 = nI top ∧ y.2.1 = x.2.1 := by
  refine ⟨as_i x 248 18 (nI top), ?_, ref18_i _ _, as_i3, rfl⟩
  unfold f_X12_pop
  rw [h, nI_pr, am_ltd, as_i3, am_ltd, gd_nI ht (by decide), cL (by omega), as_i4]
theorem opM_lt {d v : Nat} (hd : d ≤ 14) (hv : v < 100000) : opM d v < 1600016 := by
  have := wordM_lt v
  unfold opM
  split <;> omega
theorem opM_lo {d v : Nat} (hd : d ≤ 14) (h2 : 2 ≤ d) : opM d v < 16 ∧ 2 ≤ opM d v ∧ (opM d v = 11 ↔ d = 2) := by
  have : d = 2 ∨ d = 3 ∨ d = 4 ∨ d = 5 ∨ d = 6 ∨ d = 7 ∨ d = 8 ∨ d = 9 ∨ d = 10 ∨ d = 11 ∨ d = 12 ∨ d = 13 ∨ d = 14 := by omega
  rcases this with rfl | rfl | rfl | rfl | rfl | rfl | rfl | rfl | rfl | rfl | rfl | rfl | rfl <;> simp [opM]
theorem sh4 {n : Nat} (h : n < 2 ^ 31) : nI n >>> (nI 4 &&& 31) = nI (n / 16) := sh_r h (q := 4) (by decide)
theorem and15 {n : Nat} (h : n < 2 ^ 31) : nI n &&& nI 15 = nI (n % 16) := pk_andN (by omega) 4 (by decide)
theorem m_step {r : Nat} {s x : am_S} {W : Nat → Int64} {sz : Nat} {D V : Nat → Nat} (hr : r < 6) (hD : okD sz D V) (hX : ∀ i, i < sz → s.1 250 (400 * r + i) = nI (opM (D i) (V i))) (hV : ∀ q, q < 14 → s.2.1 257 q = W q) {b e : Nat} (hb : b < e) (he : e ≤ sz) {ts ts2 : List Bool} {top : Nat} (x1 : ref18 s x) (x2 : x.1 248 18 = nI top) (ho : okSt ts (stk (x.2.1 256) top)) (h63 : ts.length ≤ 64) (hT : stepT (D b) ts = some ts2) (h64 : ts2.length ≤ 64) : ∃ top2 z, b_X12_reckons_8 (nI r) (nI e) (nI b) x = some (.inl (nI (b + 1), z)) ∧ ref18 s z ∧ z.1 248 18 = nI top2 ∧ stk (z.2.1 256) top2 = stepV W (D b) (V b) (stk (x.2.1 256) top) := by
  have hsz := hD.1
  obtain ⟨d1, d2, d3⟩ := hD.2 b (by omega)
  have g1 := hX b (by omega)
  have hl := okSt_len _ _ ho
  rw [stk_len] at hl
  have hlt := opM_lt d1 d2
  unfold b_X12_reckons_8
  rw [am_iff (nI_ge hb (by omega))]
  simp (disch := omega) only [am_ltd, pk_mul, nI_add, gd2, cL]
  rw [x1.1 250 (by decide), g1, and15 (by omega), sh4 (by omega)]
  by_cases h2 : D b < 2
  · have hts : ts2.length = top + 1 := by
      unfold stepT at hT
      rw [if_pos h2] at hT
      cases hT
      rw [List.length_cons, hl]
    by_cases h0 : D b = 0
    · rw [h0, show opM 0 (V b) = 16 * V b from rfl, show 16 * V b % 16 = 0 by omega, show 16 * V b / 16 = V b by omega, am_ift (by decide)]
      obtain ⟨y, p1, p2, p3, p4⟩ := m_push (w := (nI (V b)).toInt64) x2 (by omega)
      rw [p1, am_bds, nI_1]
      exact ⟨top + 1, y, rfl, x1.tr p2, p3, p4⟩
    · have h1 : D b = 1 := by omega
      have hw := wordM_lt (V b)
      rw [h1, show opM 1 (V b) = 1 + 16 * wordM (V b) from rfl, show (1 + 16 * wordM (V b)) % 16 = 1 by omega, show (1 + 16 * wordM (V b)) / 16 = wordM (V b) by omega, am_iff (by decide), am_ift (by decide), gd_nI hw (by decide), cL (by omega), x1.2.2.2 257 (by decide), hV _ hw]
      obtain ⟨y, p1, p2, p3, p4⟩ := m_push (w := W (wordM (V b))) x2 (by omega)
      rw [p1, am_bds, nI_1]
      exact ⟨top + 1, y, rfl, x1.tr p2, p3, p4⟩
  · obtain ⟨o1, o2, o3⟩ := opM_lo (v := V b) d1 (by omega)
    rw [Nat.mod_eq_of_lt o1]
    have n0 : ¬ nI (opM (D b) (V b)) = 0 := nI_ne0 (by omega) (by omega)
    have n1 : ¬ nI (opM (D b) (V b)) = 1 := by
      show ¬ nI (opM (D b) (V b)) = nI 1
      rw [nI_eq (by omega) (by decide)]
      omega
    rw [am_iff n0, am_iff n1]
    unfold stepT at hT
    rw [if_neg h2] at hT
    cases ts with
    | nil => cases hT
    | cons t ts =>
      obtain ⟨k, rfl⟩ : ∃ k, top = k + 1 := ⟨top - 1, by rw [List.length_cons] at hl; omega⟩
      obtain ⟨y, p1, p2, p3, p4⟩ := m_pop x2 (by omega)
      by_cases e2 : D b = 2
      · rw [am_ift (by rw [o3.mpr e2]), p1, am_b2s]
        obtain ⟨z, q1, q2, q3, q4⟩ := m_push (w := 1 - x.2.1 256 k) p3 (by omega)
        rw [q1, am_bds, nI_1]
        refine ⟨k + 1, z, rfl, (x1.tr p2).tr q2, q3, ?_⟩
        rw [q4, p4, e2, stk]
        rfl
      · rw [am_iff (by rw [nI_eq (by omega) (by decide), o3]; exact e2), p1, am_b2s]
        dsimp only at hT
        rw [if_neg e2] at hT
        cases ts with
        | nil => cases hT
        | cons u ts =>
          obtain ⟨k, rfl⟩ : ∃ k2, k = k2 + 1 := ⟨k - 1, by rw [List.length_cons, List.length_cons] at hl; omega⟩
          obtain ⟨y2, r1, r2, r3, r4⟩ := m_pop p3 (by omega)
          rw [r1, am_b2s, p4, m_one (by omega) d1, am_bds]
          obtain ⟨z, q1, q2, q3, q4⟩ := m_push (w := opV (D b) (x.2.1 256 k) (x.2.1 256 (k + 1))) r3 (by omega)
          rw [q1, am_bds, nI_1]
          refine ⟨k + 1, z, rfl, ((x1.tr p2).tr r2).tr q2, q3, ?_⟩
          rw [q4, r4, p4, stk, stk]
          unfold stepV
          rw [if_neg (by omega), if_neg (by omega)]
          dsimp only
          rw [if_neg e2]
/-- a text reckoned out by the reference -/
theorem m_reckons {r : Nat} {s : am_S} {W : Nat → Int64} {sz : Nat} {D V : Nat → Nat} (hr : r < 6) (hD : okD sz D V) (hX : ∀ i, i < sz → s.1 250 (400 * r + i) = nI (opM (D i) (V i))) (hV : ∀ q, q < 14 → s.2.1 257 q = W q) {b e : Nat} (hb : b ≤ e) (he : e ≤ sz) {t : Bool} (hT : runT D b (e - b) [] = some [t]) : ∃ y s2, f_X12_reckons (nI r) (nI b) (nI e) s = some (y, s2) ∧ ref18 s s2 ∧ runV W D V b (e - b) [] = [y] ∧ (t = true → y = 0 ∨ y = 1) := by
  have hsz := hD.1
  have key : ∀ (n b : Nat) (ts : List Bool) (top : Nat) (x : am_S) (F : Nat), b + n = e → n < F → ref18 s x → x.1 248 18 = nI top → okSt ts (stk (x.2.1 256) top) → ts.length ≤ 64 → runT D b n ts = some [t] → ∃ y s2, am_lp (fun (q : Int32 × am_S) => b_X12_reckons_8 (nI r) (nI e) q.1 q.2) F (nI b, x) = some (y, s2) ∧ ref18 s s2 ∧ runV W D V b n (stk (x.2.1 256) top) = [y] ∧ (t = true → y = 0 ∨ y = 1) := by
    intro n
    induction n with
    | zero =>
      intro b ts top x F hn hF x1 x2 ho h63 hT
      obtain ⟨F', rfl⟩ : ∃ F', F = F' + 1 := ⟨F - 1, by omega⟩
      cases hT
      have hl := okSt_len _ _ ho
      rw [stk_len, List.length_cons, List.length_nil] at hl
      subst hl
      obtain ⟨y, p1, p2, p3, p4⟩ := m_pop (top := 0) x2 (by decide)
      refine ⟨x.2.1 256 0, y, am_lp_inr ?_, x1.tr p2, rfl, ho.1⟩
      dsimp only
      unfold b_X12_reckons_8 j_X12_reckons_135
      rw [am_ift (nI_le (by omega) (by omega)), p1, am_b2s, am_bds]
    | succ n ih =>
      intro b ts top x F hn hF x1 x2 ho h63 hT
      obtain ⟨F', rfl⟩ : ∃ F', F = F' + 1 := ⟨F - 1, by omega⟩
      unfold runT at hT
      cases hst : stepT (D b) ts with
      | none => rw [hst] at hT; cases hT
      | some ts2 =>
        rw [hst] at hT
        dsimp only at hT
        by_cases h64 : ts2.length ≤ 64
        · rw [if_pos h64] at hT
          obtain ⟨top2, z, g1, g2, g3, g4⟩ := m_step hr hD hX hV (b := b) (e := e) (by omega) he x1 x2 ho h63 hst h64
          obtain ⟨y, s2, k1, k2, k3, k4⟩ := ih (b + 1) ts2 top2 z F' (by omega) (by omega) g2 g3 (by rw [g4]; exact okSt_step (hD.2 b (by omega)).1 ts ts2 _ hst ho) h64 hT
          refine ⟨y, s2, by rw [am_lp_inl g1]; exact k1, k2, ?_, k4⟩
          rw [runV, ← g4]
          exact k3
        · rw [if_neg h64] at hT
          cases hT
  have e4 : am_F = 4000 := rfl
  obtain ⟨y, s2, h1, h2, h3, h4⟩ := key (e - b) b [] 0 (as_i s 248 18 0) am_F (by omega) (by omega) (ref18_i _ _) as_i3 trivial (by decide) hT
  refine ⟨y, s2, ?_, h2, h3, h4⟩
  unfold f_X12_reckons
  rw [am_ltd]
  exact h1
