def am_h0 : am_H := (fun _ _ => 0, fun _ _ => 0, fun _ _ => none)
def am_lk : List (Nat × Nat × Nat) → Nat → Nat → Option Nat
  | [], _, _ => none
  | w :: l, a, k => if a = w.1 ∧ k = w.2.1 then some w.2.2 else am_lk l a k
def am_li : List (Nat × Nat × Int32) → Nat → Nat → Int32
  | [], _, _ => 0
  | w :: l, a, k => if a = w.1 ∧ k = w.2.1 then w.2.2 else am_li l a k
def am_wr : List (Nat × Nat × Nat) := [(248, 31, 265), (248, 30, 264), (248, 29, 263), (248, 28, 262), (248, 26, 261), (248, 24, 260), (248, 23, 259), (248, 20, 258), (248, 19, 257), (248, 17, 256), (248, 15, 255), (248, 7, 254), (248, 6, 253), (248, 5, 252), (248, 4, 251), (248, 3, 250), (248, 0, 249), (0, 7, 247), (247, 1, 144), (247, 0, 2), (0, 6, 246), (246, 1, 6), (246, 0, 2), (30, 3, 231), (231, 5, 245), (231, 1, 240), (240, 3, 244), (240, 2, 243), (240, 1, 242), (240, 0, 241), (231, 0, 232), (232, 13, 239), (232, 11, 238), (232, 9, 237), (232, 8, 236), (232, 7, 235), (232, 5, 234), (232, 4, 233), (30, 2, 216), (216, 5, 230), (216, 1, 225), (225, 3, 229), (225, 2, 228), (225, 1, 227), (225, 0, 226), (216, 0, 217), (217, 13, 224), (217, 11, 223), (217, 9, 222), (217, 8, 221), (217, 7, 220), (217, 5, 219), (217, 4, 218), (30, 1, 201), (201, 5, 215), (201, 1, 210), (210, 3, 214), (210, 2, 213), (210, 1, 212), (210, 0, 211), (201, 0, 202), (202, 13, 209), (202, 11, 208), (202, 9, 207), (202, 8, 206), (202, 7, 205), (202, 5, 204), (202, 4, 203), (30, 0, 186), (186, 5, 200), (186, 1, 195), (195, 3, 199), (195, 2, 198), (195, 1, 197), (195, 0, 196), (186, 0, 187), (187, 13, 194), (187, 11, 193), (187, 9, 192), (187, 8, 191), (187, 7, 190), (187, 5, 189), (187, 4, 188), (14, 5, 179), (179, 0, 143), (179, 7, 185), (179, 6, 184), (179, 5, 183), (179, 4, 182), (179, 2, 181), (179, 1, 180), (14, 4, 172), (172, 0, 143), (172, 7, 178), (172, 6, 177), (172, 5, 176), (172, 4, 175), (172, 2, 174), (172, 1, 173), (14, 3, 165), (165, 0, 143), (165, 7, 171), (165, 6, 170), (165, 5, 169), (165, 4, 168), (165, 2, 167), (165, 1, 166), (14, 2, 158), (158, 0, 143), (158, 7, 164), (158, 6, 163), (158, 5, 162), (158, 4, 161), (158, 2, 160), (158, 1, 159), (14, 1, 151), (151, 0, 143), (151, 7, 157), (151, 6, 156), (151, 5, 155), (151, 4, 154), (151, 2, 153), (151, 1, 152), (14, 0, 144), (144, 0, 143), (144, 7, 150), (144, 6, 149), (144, 5, 148), (144, 4, 147), (144, 2, 146), (144, 1, 145), (0, 16, 142), (0, 14, 137), (137, 3, 141), (137, 2, 140), (137, 1, 139), (137, 0, 138), (0, 13, 135), (135, 5, 136), (0, 12, 134), (134, 1, 24), (134, 0, 16), (0, 11, 32), (33, 19, 129), (129, 3, 133), (129, 2, 132), (129, 1, 131), (129, 0, 130), (33, 18, 124), (124, 3, 128), (124, 2, 127), (124, 1, 126), (124, 0, 125), (33, 17, 119), (119, 3, 123), (119, 2, 122), (119, 1, 121), (119, 0, 120), (33, 16, 114), (114, 3, 118), (114, 2, 117), (114, 1, 116), (114, 0, 115), (33, 15, 109), (109, 3, 113), (109, 2, 112), (109, 1, 111), (109, 0, 110), (33, 14, 104), (104, 3, 108), (104, 2, 107), (104, 1, 106), (104, 0, 105), (33, 13, 99), (99, 3, 103), (99, 2, 102), (99, 1, 101), (99, 0, 100), (33, 12, 94), (94, 3, 98), (94, 2, 97), (94, 1, 96), (94, 0, 95), (33, 11, 89), (89, 3, 93), (89, 2, 92), (89, 1, 91), (89, 0, 90), (33, 10, 84), (84, 3, 88), (84, 2, 87), (84, 1, 86), (84, 0, 85), (33, 9, 79), (79, 3, 83), (79, 2, 82), (79, 1, 81), (79, 0, 80), (33, 8, 74), (74, 3, 78), (74, 2, 77), (74, 1, 76), (74, 0, 75), (33, 7, 69), (69, 3, 73), (69, 2, 72), (69, 1, 71), (69, 0, 70), (33, 6, 64), (64, 3, 68), (64, 2, 67), (64, 1, 66), (64, 0, 65), (33, 5, 59), (59, 3, 63), (59, 2, 62), (59, 1, 61), (59, 0, 60), (33, 4, 54), (54, 3, 58), (54, 2, 57), (54, 1, 56), (54, 0, 55), (33, 3, 49), (49, 3, 53), (49, 2, 52), (49, 1, 51), (49, 0, 50), (33, 2, 44), (44, 3, 48), (44, 2, 47), (44, 1, 46), (44, 0, 45), (33, 1, 39), (39, 3, 43), (39, 2, 42), (39, 1, 41), (39, 0, 40), (33, 0, 34), (34, 3, 38), (34, 2, 37), (34, 1, 36), (34, 0, 35), (32, 0, 33), (0, 10, 31), (0, 9, 30), (0, 8, 15), (15, 5, 29), (15, 1, 24), (24, 3, 28), (24, 2, 27), (24, 1, 26), (24, 0, 25), (15, 0, 16), (16, 13, 23), (16, 11, 22), (16, 9, 21), (16, 8, 20), (16, 7, 19), (16, 5, 18), (16, 4, 17), (0, 4, 14), (0, 3, 6), (6, 13, 13), (6, 11, 12), (6, 9, 11), (6, 8, 10), (6, 7, 9), (6, 5, 8), (6, 4, 7), (0, 2, 2), (2, 2, 5), (2, 1, 4), (2, 0, 3), (0, 0, 1)]
def am_wi : List (Nat × Nat × Int32) := [(248, 21, -1), (231, 2, -1), (240, 7, -1), (216, 2, -1), (225, 7, -1), (201, 2, -1), (210, 7, -1), (186, 2, -1), (195, 7, -1), (137, 7, -1), (129, 7, -1), (124, 7, -1), (119, 7, -1), (114, 7, -1), (109, 7, -1), (104, 7, -1), (99, 7, -1), (94, 7, -1), (89, 7, -1), (84, 7, -1), (79, 7, -1), (74, 7, -1), (69, 7, -1), (64, 7, -1), (59, 7, -1), (54, 7, -1), (49, 7, -1), (44, 7, -1), (39, 7, -1), (34, 7, -1), (15, 2, -1), (24, 7, -1)]
/-- the state behind the two constructors -/
def am_s0 : am_S := (am_li am_wi, fun _ _ => 0, 24, 144)
theorem am_lk_none {l : List (Nat × Nat × Nat)} {a k : Nat} (h : ∀ w ∈ l, ¬ (a = w.1 ∧ k = w.2.1)) : am_lk l a k = none := by
  induction l with
  | nil => rfl
  | cons w l ih =>
    unfold am_lk
    rw [if_neg (h w List.mem_cons_self)]
    exact ih (fun w hw => h w (List.mem_cons_of_mem _ hw))
theorem am_wr_in : ∀ w ∈ am_wr, w.1 < 266 ∧ w.2.1 < (am_rl.getD w.1 []).length := by decide +kernel
theorem am_wr_at : ∀ a, a < 266 → ∀ k, k < (am_rl.getD a []).length → am_lk am_wr a k = (am_rl.getD a []).getD k none := by decide +kernel
theorem am_r0_24 (a k : Nat) : am_r0 24 144 a k = (am_rl.getD a []).getD k none := by
  by_cases h1 : a = 134 ∧ k = 1
  · obtain ⟨rfl, rfl⟩ := h1
    decide +kernel
  · by_cases h2 : a = 247 ∧ k = 1
    · obtain ⟨rfl, rfl⟩ := h2
      decide +kernel
    · exact am_r0_o _ _ h1 h2
theorem am_lk_r0 : am_lk am_wr = am_r0 24 144 := by
  funext a k
  rw [am_r0_24]
  by_cases h : a < 266 ∧ k < (am_rl.getD a []).length
  · exact am_wr_at a h.1 k h.2
  · have e1 : am_lk am_wr a k = none := am_lk_none (fun w hw hz => by
      obtain ⟨rfl, rfl⟩ := hz
      exact h (am_wr_in w hw))
    rw [e1]
    by_cases ha : a < 266
    · have hk : (am_rl.getD a []).length ≤ k := by omega
      rw [List.getD_eq_getElem?_getD, List.getElem?_eq_none hk]
      rfl
    · have h1 : am_rl.getD a [] = [] := by
        rw [List.getD_eq_getElem?_getD, List.getElem?_eq_none (Nat.le_trans (show am_rl.length ≤ 266 by decide +kernel) (Nat.le_of_not_lt ha))]
        rfl
      rw [h1]
      simp
set_option maxRecDepth 100000 in
set_option maxHeartbeats 8000000 in
theorem am_start_h : c_X12 (c_X11 am_h0) = am_h am_s0 := by
  have e : am_h am_s0 = (am_li am_wi, (fun _ _ => 0), am_lk am_wr) := by rw [am_lk_r0]; rfl
  rw [e]
  simp only [c_X12, c_X11, c_X0, c_X1_246, c_X1_247, c_X9, c_X4, c_X7, c_X8, c_X2, c_X5, c_X3, c_X6, c_X10, am_id]
  rfl
theorem am_hD {s : State} {args : Array Value} (hts : ∀ w ∈ am_tbl, w.before args s = true) : ∃ D : va_G, ∀ (c : Nat) (q : vw_C), vwCl[c]? = some q → u_Kn s q.1 q.2.1 q.2.2 (D.1 c) (D.2 c) := by
  have h0 : ∀ c : Nat, ∃ z : ClassId × (Nat → Nat), ∀ q : vw_C, vwCl[c]? = some q → u_Kn s q.1 q.2.1 q.2.2 z.1 z.2 := by
    intro c
    by_cases hc : c < 12
    · rcases (show c = 0 ∨ c = 1 ∨ c = 2 ∨ c = 3 ∨ c = 4 ∨ c = 5 ∨ c = 6 ∨ c = 7 ∨ c = 8 ∨ c = 9 ∨ c = 10 ∨ c = 11 by omega) with rfl | rfl | rfl | rfl | rfl | rfl | rfl | rfl | rfl | rfl | rfl | rfl
      · obtain ⟨cC, iS, h⟩ := u_known (n := 3) hts uw_X0 (hts _ ci_X0)
        exact ⟨(cC, iS), fun q hq => by cases hq; exact h⟩
      · obtain ⟨cC, iS, h⟩ := u_known (n := 8) hts uw_X2 (hts _ ci_X2)
        exact ⟨(cC, iS), fun q hq => by cases hq; exact h⟩
      · obtain ⟨cC, iS, h⟩ := u_known (n := 10) hts uw_X3 (hts _ ci_X3)
        exact ⟨(cC, iS), fun q hq => by cases hq; exact h⟩
      · obtain ⟨cC, iS, h⟩ := u_known (n := 3) hts uw_X4 (hts _ ci_X4)
        exact ⟨(cC, iS), fun q hq => by cases hq; exact h⟩
      · obtain ⟨cC, iS, h⟩ := u_known (n := 9) hts uw_X5 (hts _ ci_X5)
        exact ⟨(cC, iS), fun q hq => by cases hq; exact h⟩
      · obtain ⟨cC, iS, h⟩ := u_known (n := 7) hts uw_X6 (hts _ ci_X6)
        exact ⟨(cC, iS), fun q hq => by cases hq; exact h⟩
      · obtain ⟨cC, iS, h⟩ := u_known (n := 6) hts uw_X7 (hts _ ci_X7)
        exact ⟨(cC, iS), fun q hq => by cases hq; exact h⟩
      · obtain ⟨cC, iS, h⟩ := u_known (n := 16) hts uw_X8 (hts _ ci_X8)
        exact ⟨(cC, iS), fun q hq => by cases hq; exact h⟩
      · obtain ⟨cC, iS, h⟩ := u_known (n := 2) hts uw_X9 (hts _ ci_X9)
        exact ⟨(cC, iS), fun q hq => by cases hq; exact h⟩
      · obtain ⟨cC, iS, h⟩ := u_known (n := 6) hts uw_X10 (hts _ ci_X10)
        exact ⟨(cC, iS), fun q hq => by cases hq; exact h⟩
      · obtain ⟨cC, iS, h⟩ := u_known (n := 17) hts uw_X11 (hts _ ci_X11)
        exact ⟨(cC, iS), fun q hq => by cases hq; exact h⟩
      · obtain ⟨cC, iS, h⟩ := u_known (n := 32) hts uw_X12 (hts _ ci_X12)
        exact ⟨(cC, iS), fun q hq => by cases hq; exact h⟩
    · exact ⟨(0, fun _ => 0), fun q hq => by
        have := (List.getElem?_eq_some_iff.mp hq).1
        simp [vwCl] at this
        omega⟩
  obtain ⟨f, hf⟩ := Classical.axiomOfChoice h0
  exact ⟨(fun c => (f c).1, fun c => (f c).2), fun c q hq => hf c q hq⟩
theorem am_arrP {s : State} {args : Array Value} {ty : FieldType} (h : (Cond.arrayClass ty).before args s = true) (hp : ∀ C, ty ≠ .object C) : ∃ cA : ClassId, ArrOfT s cA ty ∧ va_RA s cA ty := by
  obtain ⟨c, k, comp, h1, h2, h3⟩ := Cond.arrayClass_spec h
  refine ⟨c, fun n z => ⟨(fun q h => by cases h), k, h2, comp, h3⟩, ?_⟩
  cases ty with
  | object C => exact absurd rfl (hp C)
  | _ => exact h1
theorem am_arrO {s : State} {C : String} (h : va_AO C s) : ∃ cA : ClassId, ArrOfT s cA (.object C) ∧ va_RA s cA (.object C) := by
  obtain ⟨comp, c, k, h1, h2, h3, h4, h5⟩ := Cond.arrayOver_spec h
  exact ⟨c, fun n z => ⟨(fun q h => by cases h), k, h3, comp, h4⟩, k, comp, h3, h4, h1, h5⟩
theorem am_hcs {s : State} {args : Array Value} (hts : ∀ w ∈ am_tbl, w.before args s = true) (hN : am_NN s) : ∃ cs : Nat → ClassId, ∀ (k : Nat) (q : ClassId × FieldType), (am_tys cs)[k]? = some q → ArrOfT s q.1 q.2 ∧ va_RA s q.1 q.2 := by
  obtain ⟨c0, h0⟩ := am_arrP (hts _ ca_byte) (fun _ h => by cases h)
  obtain ⟨c1, h1⟩ := am_arrP (hts _ ca_int) (fun _ h => by cases h)
  obtain ⟨c2, h2⟩ := am_arrP (hts _ ca_long) (fun _ h => by cases h)
  obtain ⟨c3, h3⟩ := am_arrP (hts _ ca_boolean) (fun _ h => by cases h)
  obtain ⟨c4, h4⟩ := am_arrO (hN _ co_X2)
  obtain ⟨c5, h5⟩ := am_arrO (hN _ co_X3)
  obtain ⟨c6, h6⟩ := am_arrO (hN _ co_X5)
  refine ⟨fun k => if k = 12 then c0 else if k = 13 then c1 else if k = 14 then c2 else if k = 15 then c3 else if k = 16 then c4 else if k = 17 then c5 else c6, fun k q hq => ?_⟩
  have hk : k < 7 := (List.getElem?_eq_some_iff.mp hq).1
  rcases (show k = 0 ∨ k = 1 ∨ k = 2 ∨ k = 3 ∨ k = 4 ∨ k = 5 ∨ k = 6 by omega) with rfl | rfl | rfl | rfl | rfl | rfl | rfl <;> cases hq
  · exact h0
  · exact h1
  · exact h2
  · exact h3
  · exact h4
  · exact h5
  · exact h6
abbrev am_gn : Cond := Jvm.Cond.and given_1 narrow_1
abbrev am_tm : Term := Term.string "DailyLie$Tokens" 65
theorem am_fl1 : Cond.exactly am_tm "java/lang/String" ∈ flatC am_gn ∧ Cond.eq (.field am_tm "java/lang/String" "coder" "B") (.int 0) ∈ flatC am_gn ∧ Cond.arrayOf (.field am_tm "java/lang/String" "value" "[B") .byte ∈ flatC am_gn ∧ Cond.eq (.length (.field am_tm "java/lang/String" "value" "[B")) (.int 127) ∈ flatC am_gn ∧ Cond.eq (.static "java/lang/String" "COMPACT_STRINGS" "Z") (.int 1) ∈ flatC am_gn ∧ Cond.isRef (.static "jdk/internal/util/Preconditions" "SIOOBE_FORMATTER" "Ljava/util/function/BiFunction;") ∈ flatC am_gn := by decide +kernel
theorem am_fl2 : ∀ j, j < 127 → Cond.eq (.elem (.field am_tm "java/lang/String" "value" "[B") (.int (Int32.ofNat j))) (.int (am_wd.getD j 0)) ∈ flatC am_gn := by decide +kernel
theorem am_sO {s : State} {args : Array Value} (hts : ∀ w ∈ lw_tbl, w.before args s = true) (hgv : am_gn.before args s = true) : am_O s.heap.size s s.heap := by
  have hs := flat_of_before _ hgv
  have hA : ∀ a : Nat, a < s.heap.size → ¬ s.heap.size ≤ a := fun a h => by omega
  obtain ⟨f1, f2, f3, f4, f5, f6⟩ := am_fl1
  obtain ⟨adK, adV, hS, hT⟩ := vk_Sof (args := args) (s := s) (N := 1) (tm := fun _ => am_tm) (len := [127]) (byt := [am_wd]) (A := fun q => s.heap.size ≤ q) (fun i hi => by rw [show i = 0 by omega]; decide) (fun _ _ => hs _ f1) (fun _ _ => hs _ f2) (fun _ _ => hs _ f3) (fun i hi => by rw [show i = 0 by omega]; exact hs _ f4) (fun i hi j hj => by
    rw [show i = 0 by omega] at hj ⊢
    exact hs _ (am_fl2 j hj)) (fun i j hi hj hij => absurd (show i = j by omega) hij) hA
  have e0 : ∀ i : Nat, i < 1 → adK i = adK 0 ∧ adV i = adV 0 := fun i hi => by rw [show i = 0 by omega]; exact ⟨rfl, rfl⟩
  refine ⟨adK 0, adV 0, vk_R.of (A := args) ?_ ?_, ⟨fun i hi => ?_, fun i j hi hj _ => by omega⟩, va_Zof (args := args) (hts _ (List.mem_of_getElem? (i := 626) (by decide +kernel))) (hts _ (List.mem_of_getElem? (i := 135) (by decide +kernel))) (va_eqi (hs _ f5)) hA, va_Zqof (args := args) (hts _ (List.mem_of_getElem? (i := 642) (by decide +kernel))) (hts _ (List.mem_of_getElem? (i := 137) (by decide +kernel))) (hs _ f6) hA⟩
  · exact hts (Cond.stringRef "DailyLie$Tokens" 65 am_tx) (List.mem_of_getElem? (i := 616) (by decide +kernel))
  · exact hT 0 (by decide)
  · have h := hS.1 i hi
    rw [(e0 i hi).1, (e0 i hi).2] at h
    exact h
set_option maxRecDepth 100000 in
set_option maxHeartbeats 8000000 in
theorem start_of (Inv : Nat → am_S → Prop) (hS : LW Inv) (hmono : ∀ k s, Inv k s → Inv (k + 1) s) (hinit : Inv 0 am_s0) {p : Program} {e : Env} {s : State} {m : MethodId} {below : List Frame} {meth : Method} {c : Code} (l : Launch) {b L : Nat} {xs : Nat → Int32} (hL : L ≤ 3072) (C0 : lw_At p s m meth c b L xs) : W p l e room_1 s m #[Value.ref b] below meth c s.heap [] 0 0 (lw_Z below #[Value.ref b] s) (entryFrame m ([Value.ref b] : List Value).toArray 4) := by
  obtain ⟨hx, hb, hr, hml, hown, hts, hX, hbl, hlk, hgv⟩ := C0
  have ht : ∀ w ∈ am_tbl, w.before #[Value.ref b] s = true := fun w hw => hts w (List.mem_filter.mp hw).1
  have hN : am_NN s := fun w hw => by
    have h1 := hts w (List.mem_filter.mp hw).1
    have h2 : am_isN w = true := (List.mem_filter.mp hw).2
    cases w <;> first | exact va_Nw.of rfl h1 | (rename_i ty; cases ty <;> first | exact h1 | (simp [am_isN] at h2)) | (simp [am_isN] at h2)
  obtain ⟨D, hD⟩ := am_hD ht
  obtain ⟨cs, hcs⟩ := am_hcs ht hN
  have hO := am_sO hts hgv
  have key : ∀ x : am_X, x = (p, l, e, room_1, s, m, #[Value.ref b], below, meth, c, s.heap.size, D, cs, lw_Z below #[Value.ref b] s) → AX x 0 0 0 [(0, .retAddr b)] [] 0 am_h0 := by
    intro x hxe
    have C : AC x RL cL_law 4 := by subst hxe; exact ⟨hx, hb, hml, hown, ht, ⟨hD, hcs⟩, Nat.le_refl _, hN, hO⟩
    have A : AR x 2048 84000 600000 7302250 := by subst hxe; exact ⟨Nat.le_refl _, Nat.le_refl _, Nat.le_refl _, Nat.le_refl _⟩
    have V : AV x b L xs := by subst hxe; exact ⟨hX, hbl, by omega⟩
    have hend : ∀ (lv : List (Nat × Value)) (s2 : am_S), AX x 266 21249 1127 lv [] am_N (am_h s2) := by
      intro lv s2
      refine am_iconst 1127 (1 : Int32) C dL_law_1127 (by decide) ?_
      subst hxe
      intro H ls locs i1 i2 i3 i4 i5 i6
      refine va_forget (fun q hq => i5.2.2 q hq) ?_
      refine W.widen (k := 600000) (n := 7302250) (by decide) (by decide) ?_
      exact lw_ret hx hb hr hlk dL_law_1128
    refine am_new 0 tyX11 C (A.lc (by decide) (by decide) (by decide) (by decide)) rfl uw_X11 tyX11_ok cl_L_7 ci_X11 cn_X11 (congrArg Prod.fst sh_0) (by decide) (by decide +kernel) dL_law_0 ?_
    refine am_dup 3 C dL_law_3 rfl ?_
    refine ac_callI 4 6 247 12889 248 (h2 := c_X11 am_h0) (st := [.ref 0]) [] C (A.lc (by decide) (by decide) (by decide) (by decide)) ml_L_9 yc_X11_init yi_X11_init rfl (t_X11 am_h0 rfl) rfl rfl rfl (Nat.le_of_ble_eq_true rfl) dL_law_4 ?_
    refine am_astore_n 7 (lv2 := [(1, .ref 0), (0, .retAddr b)]) C dL_law_7 rfl (by decide) rfl ?_
    refine am_new 8 tyX12 C (A.lc (by decide) (by decide) (by decide) (by decide)) rfl uw_X12 tyX12_ok cl_L_10 ci_X12 cn_X12 (congrArg Prod.fst sh_248) (by decide) (by decide +kernel) dL_law_8 ?_
    refine am_dup 11 C dL_law_11 rfl ?_
    refine ac_callI 12 2 17 8311 266 (h2 := am_h am_s0) (st := [.ref 248]) [] C (A.lc (by decide) (by decide) (by decide) (by decide)) ml_L_12 yc_X12_init yi_X12_init rfl (t_X12 (c_X11 am_h0) am_start_h.symm) rfl rfl rfl (Nat.le_of_ble_eq_true rfl) dL_law_12 ?_
    refine am_astore_n 15 (lv2 := [(2, .ref 248), (1, .ref 0), (0, .retAddr b)]) C dL_law_15 rfl (by decide) rfl ?_
    refine am_iconst 16 (0 : Int32) C dL_law_16 (by decide) ?_
    refine am_istore_n 17 (lv2 := [(3, .int 0), (2, .ref 248), (1, .ref 0), (0, .retAddr b)]) C dL_law_17 rfl (by decide) rfl ?_
    refine am_lvs [0, 3, 2, 1] rfl ?_
    exact law_loop Inv hL C (A.lc (by decide) (by decide) (by decide) (by decide)) V hS hmono hend (L + 7) 0 am_s0 (by omega) (by omega) hinit
  have K := key _ rfl
  rw [lg_entry_eq]
  have hle := lv_entry ([Value.ref b] : List Value) (n := 4) (Nat.le_of_ble_eq_true rfl)
  exact K s.heap _ [] (by omega) (fun a _ => ⟨fun _ => rfl, fun _ => rfl, fun _ => rfl⟩) (fun k q hq => by simp [am_ws] at hq) ⟨fun i j p q hi => by simp [am_ws] at hi, fun k q hq => by simp [am_ws] at hq⟩ va_S.rf (by rw [hml]; exact hle)
