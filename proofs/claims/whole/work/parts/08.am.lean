section AMU
variable {x : am_X} {own : String} {cc : ByteArray} {nL ce sl n : Nat} {lv : List (Nat × Value)} {st : List Value} {h : am_H}
theorem am_callU (pc : Nat) {idx d2 mc ms a ci np : Nat} {Cn owner : String} {xx y : MethodName} {cc2 : ByteArray} {nL2 : Nat} {rt : Option FieldType} (As : List Value) {z : Option Value × Nat × am_H} {stk st2 : List Value} (C : AC x own cc nL) (A : AR x (d2 + 1) (64 * (d2 + 1)) (ce + mc) (sl + ms)) (Y : AYc y cc2 nL2 rt np)
    (V : Cond.methodLink own idx xx ∈ am_tbl ∧ Cond.sameMethod xx.cls owner xx.name xx.desc ∈ am_tbl ∧ Cond.selects Cn xx y ∈ am_tbl ∧ Cond.instanceMethod y ∈ am_tbl ∧ Cond.declares ⟨owner, xx.name, xx.desc⟩ ∈ am_nest ∧ (owner ≠ "java/lang/invoke/MethodHandle" ∧ owner ≠ "java/lang/invoke/VarHandle" ∧ (parseMethodDescriptor xx.desc).map (fun d => d.parameters.length) = some np) ∧ ∃ q : vw_C, vwCl[ci]? = some q ∧ q.1 = Cn ∧ ci < 12)
    (hM : AM y cc2 nL2 rt d2 mc ms (.ref a :: As) n h z) (hz : z.2.1 = n + mc) (ha : a < n) (hs : (am_sh a).1 = ci) (hnp : As.length = np) (hst : stk = As.reverse ++ .ref a :: st) (hsum : (st.map fun v => v.category).sum ≤ 8) (hst2 : z.1.toList ++ st = st2) (d : decode cc pc = .ok (.invokevirtual idx, 3)) (kk : AX x (ce + mc) (sl + ms) (pc + 3) lv st2 z.2.1 z.2.2) : AX x ce sl pc lv stk n h := by
  obtain ⟨p, l, e, R, s, m, args, below, meth, c, b, D, cs, Q⟩ := x
  intro H ls locs i1 i2 i3 i4 i5 i6 T hT X
  have hsz := am_size X hT C.2.2.2.2.2.2.1 i1 i3 i5
  obtain ⟨w1, w2, w3, w4, w5, w6, q, v3, v4, v5⟩ := V
  have he := am_ws_at (b := b) (cs := cs) (h := h) ha
  rw [am_cell_obj v5 hs] at he
  subst hst
  have hG : GoodIn am_tbl (va_wsU own idx Cn owner xx y (Cond.code y cc2 nL2 rt :: am_tbl)) := am_good _ (fun w hw => by
    simp only [va_wsU, List.cons_append, List.nil_append, List.mem_cons] at hw
    rcases hw with rfl | rfl | rfl | rfl | rfl | rfl | hw
    · exact w1
    · exact w2
    · exact w3
    · exact w4
    · exact Y.1
    · exact Y.2.1
    · exact hw)
  refine am_after (va_runU (C := Cn) (owner := owner) (x := xx) (As := As.map (am_v b)) (b := b + a) (rest := st.map (am_v b)) ⟨C.1, C.2.1, rfl, C.2.2.2.1, C.2.2.2.2.1⟩ (hM l b D cs) (va_cwA np C.2.2.2.2.1 hG rfl rfl rfl (C.2.2.2.2.2.2.2.1 _ w5) w6 ⟨A.1, by have := Y.2.2.2; have := A.2.1; show 8 + (nL2 + 11) + 64 * d2 ≤ R.locals; omega⟩) ⟨am_blind _, by rw [← v4]; exact va_recv C.2.2.2.2.2.1 i3 v3 he, fun U hU hW => ⟨rfl, by rw [hU]; exact hsz, am_B_of hU hW i2 i3 i4 C.2.2.2.2.2.1 C.2.2.2.2.2.2.2.1 C.2.2.2.2.2.2.2.2 i5⟩⟩ rfl (by simpa using hnp) i6.1 (by simp [am_v]) (lv_room (by rw [am_cats]; exact hsum)) d ⟨A.2.2.1, A.2.2.2⟩) i1 hz i5 i6 hst2 kk hT X (stk := [])
/-- a row put whole in the place of another -/
def am_rw {α : Type} (f : Nat → Nat → α) (a : Nat) (g : Nat → α) : Nat → Nat → α := fun x => if x = a then g else f x
theorem am_rw_ne {α : Type} {f : Nat → Nat → α} {a x : Nat} {g : Nat → α} (h : x ≠ a) : am_rw f a g x = f x := by simp [am_rw, h]
theorem am_rw_at {α : Type} {f : Nat → Nat → α} {a : Nat} {g : Nat → α} : am_rw f a g a = g := by simp [am_rw]
theorem am_copy (pc : Nat) {idx a0 a1 n0 n1 : Nat} {sp dp k : Int32} (C : AC x own cc nL) (A : AR x 1 64 ce sl) (L : Cond.methodLink own idx arraycopyName ∈ am_tbl) (L1 : Cond.native arraycopyName ∈ am_tbl) (L2 : Cond.static arraycopyName ∈ am_tbl) (L3 : Cond.initialized "java/lang/System" ∈ am_tbl) (ha0 : a0 < n) (ha1 : a1 < n) (hs0 : am_sh a0 = (13, n0)) (hs1 : am_sh a1 = (13, n1)) (h1 : ¬ sp < 0) (h2 : ¬ dp < 0) (h3 : ¬ k < 0) (h4 : sp.toNatClampNeg + k.toNatClampNeg ≤ n0) (h5 : dp.toNatClampNeg + k.toNatClampNeg ≤ n1) (hsum : (st.map fun v => v.category).sum ≤ 8) (d : decode cc pc = .ok (.invokestatic idx, 3))
    (kk : AX x ce sl (pc + 3) lv st n (am_rw h.1 a1 (va_cpy (h.1 a0) (h.1 a1) sp.toNatClampNeg dp.toNatClampNeg k.toNatClampNeg), h.2)) : AX x ce sl pc lv (.int k :: .int dp :: .ref a1 :: .int sp :: .ref a0 :: st) n h := by
  obtain ⟨p, l, e, R, s, m, args, below, meth, c, b, D, cs, Q⟩ := x
  intro H ls locs i1 i2 i3 i4 i5 i6
  have he0 := am_ws_at (b := b) (cs := cs) (h := h) ha0
  rw [am_arr hs0 (by omega)] at he0
  have he1 := am_ws_at (b := b) (cs := cs) (h := h) ha1
  rw [am_arr hs1 (by omega)] at he1
  have hl : nativeFrameWords "java/lang/System" "arraycopy" 5 + 11 ≤ 56 := by decide +kernel
  refine va_copyi C.1 C.2.1 i6.1.symm C.2.2.2.1 (C.2.2.2.2.1 _ L) (C.2.2.2.2.1 _ L1) (C.2.2.2.2.1 _ L2) (C.2.2.2.2.1 _ L3) C.2.2.2.2.2.1 i3 i4 i5 a0 a1 1 1 (c0 := cs 13) (c1 := cs 13) (n0 := n0) (n1 := n1) (f := h.1 a0) (g := h.1 a1) (ty := .int) he0 he1 rfl rfl rfl h1 h2 h3 h4 h5 (fun _ _ => rfl) A.1 (by rw [am_cats]; have := A.2.1; omega) d (fun H1 locs1 j3 j4 j5 => ?_)
  have hset : (am_ws b cs n h).set a1 (b + a1, .inl (cs 13, n1, .inl (va_cpy (h.1 a0) (h.1 a1) sp.toNatClampNeg dp.toNatClampNeg k.toNatClampNeg))) = am_ws b cs n (am_rw h.1 a1 (va_cpy (h.1 a0) (h.1 a1) sp.toNatClampNeg dp.toNatClampNeg k.toNatClampNeg), h.2) := am_ws_set ha1 (by rw [am_arr hs1 (by omega)]; simp only [am_ar, am_rw_at]; rfl) (fun j hj => am_cell_congr (am_rw_ne hj) rfl rfl)
  rw [hset] at j3 j4
  exact kk H1 ls locs1 i1 (am_fr_put ha1 i2 (fun j hj => am_rw_ne hj) (fun _ _ => rfl) (fun _ _ => rfl)) j3 j4 j5 i6
theorem am_min (pc : Nat) {idx : Nat} {u v : Int32} (C : AC x own cc nL) (A : AR x 1 64 ce sl) (L : Cond.methodLink own idx Lib.Math.min.name ∈ am_tbl) (L1 : Cond.static Lib.Math.min.name ∈ am_tbl) (L2 : Cond.initialized "java/lang/Math" ∈ am_tbl) (L3 : Cond.code Lib.Math.min.name Lib.Math.min.code 2 (some .int) ∈ am_tbl) (hsum : (st.map fun v => v.category).sum ≤ 8) (d : decode cc pc = .ok (.invokestatic idx, 3)) (kk : AX x ce sl (pc + 3) lv (.int (if v < u then v else u) :: st) n h) : AX x ce sl pc lv (.int v :: .int u :: st) n h := by
  obtain ⟨p, l, e, R, s, m, args, below, meth, c, b, D, cs, Q⟩ := x
  intro H ls locs i1 i2 i3 i4 i5 i6
  exact va_mmin C.1 C.2.1 i6.1.symm C.2.2.2.1 (C.2.2.2.2.1 _ L) (C.2.2.2.2.1 _ L1) (C.2.2.2.2.1 _ L2) (C.2.2.2.2.1 _ L3) A.1 (by rw [am_cats]; have := A.2.1; omega) A.2.2.1 A.2.2.2 d (kk H ls locs i1 i2 i3 i4 i5 i6)
theorem am_max (pc : Nat) {idx : Nat} {u v : Int32} (C : AC x own cc nL) (A : AR x 1 64 ce sl) (L : Cond.methodLink own idx Lib.Math.max.name ∈ am_tbl) (L1 : Cond.static Lib.Math.max.name ∈ am_tbl) (L2 : Cond.initialized "java/lang/Math" ∈ am_tbl) (L3 : Cond.code Lib.Math.max.name Lib.Math.max.code 2 (some .int) ∈ am_tbl) (hsum : (st.map fun v => v.category).sum ≤ 8) (d : decode cc pc = .ok (.invokestatic idx, 3)) (kk : AX x ce sl (pc + 3) lv (.int (if u < v then v else u) :: st) n h) : AX x ce sl pc lv (.int v :: .int u :: st) n h := by
  obtain ⟨p, l, e, R, s, m, args, below, meth, c, b, D, cs, Q⟩ := x
  intro H ls locs i1 i2 i3 i4 i5 i6
  exact va_mmax C.1 C.2.1 i6.1.symm C.2.2.2.1 (C.2.2.2.2.1 _ L) (C.2.2.2.2.1 _ L1) (C.2.2.2.2.1 _ L2) (C.2.2.2.2.1 _ L3) A.1 (by rw [am_cats]; have := A.2.1; omega) A.2.2.1 A.2.2.2 d (kk H ls locs i1 i2 i3 i4 i5 i6)
theorem am_objInit (pc : Nat) {idx a : Nat} (C : AC x own cc nL) (A : AR x 1 64 ce sl) (L : Cond.methodLink own idx Lib.objectInit ∈ am_tbl) (L1 : Cond.instanceMethod Lib.objectInit ∈ am_tbl) (L2 : Cond.code Lib.objectInit ⟨#[0xb1]⟩ 1 none ∈ am_tbl) (hsum : (st.map fun v => v.category).sum ≤ 8) (d : decode cc pc = .ok (.invokespecial idx, 3)) (kk : AX x ce sl (pc + 3) lv st n h) : AX x ce sl pc lv (.ref a :: st) n h := by
  obtain ⟨p, l, e, R, s, m, args, below, meth, c, b, D, cs, Q⟩ := x
  intro H ls locs i1 i2 i3 i4 i5 i6
  have hr := lv_room (m := m) (pc := pc) (ls := ls) (rest := (.ref (b + a) : Value) :: st.map (am_v b)) (st := st.map (am_v b)) (by rw [am_cats]; exact hsum)
  exact W.objInit C.1 C.2.1 C.2.2.2.1 (C.2.2.2.2.1 _ L) (C.2.2.2.2.1 _ L1) (C.2.2.2.2.1 _ L2) (g := F0 m pc ls ((.ref (b + a) : Value) :: st.map (am_v b))) rfl i6.1 rfl d A.1 (by have := A.2.1; omega) (kk H ls locs i1 i2 i3 i4 i5 i6)
def am_d (t : Option Nat) : Value := match t with
  | some 0 => .int 0
  | some 1 => .long 0
  | _ => .null
theorem am_pushed {p : Program} {l : Launch} {e : Env} {R : Room} {s : State} {m : MethodId} {args : Array Value} {below : List Frame} {meth : Method} {c : Code} {b : Nat} {D : va_G} {cs : Nat → ClassId} {Q : State → Prop} {locs : List Loc} {ls : Array Slot} {H H1 : Heap} {pc k : Nat} (i1 : s.heap.size + ce = b + n) (i2 : am_fr n h) (i3 : va_P D vwCl (am_ws b cs n h) H) (i4 : va_D (fun q => b ≤ q) (am_ws b cs n h)) (i5 : va_S (fun q => b ≤ q) s.heap H locs) (i6 : lv_has ls c.maxLocals (am_lv b lv)) (hsz : H.size = b + n) (z1 : H1.size = b + n + 1) (o1 : ∀ q : Nat, q < b + n → H1[q]? = H[q]?) (hb : b ≤ s.heap.size)
    (hat : va_at D vwCl (b + n, am_cell b cs h n (am_sh n)) H1) (kk : AX (p, l, e, R, s, m, args, below, meth, c, b, D, cs, Q) (ce + 1) (sl + k) pc lv (.ref n :: st) (n + 1) h) : W p l e R s m args below meth c H1 locs (ce + 1) (sl + k) Q (F0 m pc ls (.ref (b + n) :: st.map (am_v b))) := by
  have hP : va_P D vwCl (am_ws b cs (n + 1) h) H1 := by
    rw [← am_ws_push rfl]
    refine (i3.kept (fun j q hq => o1 q.1 (by rw [← hsz]; exact (i3 j q hq).lt))).app (fun j q hq => ?_)
    have hj : j < 1 := (List.getElem?_eq_some_iff.mp hq).1
    rw [show j = 0 by omega] at hq
    cases hq
    exact hat
  have hD : va_D (fun q => b ≤ q) (am_ws b cs (n + 1) h) := by
    rw [← am_ws_push rfl]
    exact i4.push i3 hsz.symm (Nat.le_add_right _ _)
  exact kk H1 ls locs (by omega) (fun a ha => i2 a (by omega)) hP hD ⟨by have := i5.1; omega, fun q h1 h2 => (o1 q (by omega)).trans (i5.2.1 q h1 h2), i5.2.2⟩ i6
theorem am_new (pc : Nat) {idx ci N : Nat} {Cn : String} {T : u_T} (ty : Nat → FieldType) (C : AC x own cc nL) (A : AR x 0 0 (ce + 1) (sl + N)) (hc : vwCl[ci]? = some (Cn, T, N)) (hin : ∀ w ∈ u_ws Cn T N, w ∈ am_tbl) (hty : ∀ k, k < N → parseFieldDescriptor (T k).2.2.1 = some (ty k)) (hl : Cond.classLink own idx Cn ∈ am_tbl) (hi : Cond.instantiable Cn N ∈ am_tbl) (hini : Cond.initialized Cn ∈ am_tbl) (hs : (am_sh n).1 = ci) (hci : ci < 12) (hdef : ∀ j, j < N → defaultValue (ty j) = am_d (am_ft ci)[j]?) (d : decode cc pc = .ok (.new idx, 3)) (kk : AX x (ce + 1) (sl + N) (pc + 3) lv (.ref n :: st) (n + 1) h) : AX x ce sl pc lv st n h := by
  obtain ⟨p, l, e, R, s, m, args, below, meth, c, b, D, cs, Q⟩ := x
  intro H ls locs i1 i2 i3 i4 i5 i6 T0 hT X
  have hsz := am_size X hT C.2.2.2.2.2.2.1 i1 i3 i5
  have hKn := C.2.2.2.2.2.1.1 ci _ hc
  refine (W.newcK C.1 C.2.1 C.2.2.2.1 (C.2.2.2.2.1 _ hl) (C.2.2.2.2.1 _ hi) (C.2.2.2.2.1 _ hini) (g := F0 m pc ls (st.map (am_v b))) rfl d A.2.2.1 A.2.2.2 hKn.2.1 hsz fun H1 kC hkC e1 z1 o1 => ?_) T0 hT X
  refine am_pushed i1 i2 i3 i4 i5 i6 hsz z1 o1 C.2.2.2.2.2.2.1 ?_ kk
  rw [am_cell_obj hci hs]
  refine ⟨_, hc, (u_born ty C.2.2.2.2.1 hin hKn hkC e1 hty).to (fun j hj => ?_)⟩
  rw [hdef j hj]
  obtain ⟨f1, f2, f3⟩ := i2 n (Nat.le_refl n)
  simp only [vp_V, am_fs, List.getD_eq_getElem?_getD, List.getElem?_mapIdx]
  cases (am_ft ci)[j]? with
  | none => rfl
  | some t =>
    rcases t with _ | _ | t
    · simp [am_d, am_fv, f1]
    · simp [am_d, am_fv, f2]
    · simp [am_d, am_fv, f3, va_rf]
theorem am_newa (pc : Nat) {atype : ArrayType} {kd N : Nat} {v : Int32} (C : AC x own cc nL) (A : AR x 0 0 (ce + 1) (sl + N)) (hk : (kd = 12 ∧ atype = .byte) ∨ (kd = 13 ∧ atype = .int) ∨ (kd = 14 ∧ atype = .long) ∨ (kd = 15 ∧ atype = .boolean)) (harr : Cond.arrayClass (newarray.typeOf atype) ∈ am_tbl) (hs : am_sh n = (kd, N)) (hv : ¬ v < 0) (hN : v.toNatClampNeg = N) (hbig : N ≤ 60000) (d : decode cc pc = .ok (.newarray atype, 2)) (kk : AX x (ce + 1) (sl + N) (pc + 2) lv (.ref n :: st) (n + 1) h) : AX x ce sl pc lv (.int v :: st) n h := by
  obtain ⟨p, l, e, R, s, m, args, below, meth, c, b, D, cs, Q⟩ := x
  intro H ls locs i1 i2 i3 i4 i5 i6 T0 hT X
  have hsz := am_size X hT C.2.2.2.2.2.2.1 i1 i3 i5
  obtain ⟨f1, f2, f3⟩ := i2 n (Nat.le_refl n)
  have hby : N * componentBytes (newarray.typeOf atype) ≤ 536870912 := by
    have : componentBytes (newarray.typeOf atype) ≤ 8 := by rcases hk with ⟨-, rfl⟩ | ⟨-, rfl⟩ | ⟨-, rfl⟩ | ⟨-, rfl⟩ <;> decide
    calc N * componentBytes (newarray.typeOf atype) ≤ 60000 * 8 := Nat.mul_le_mul hbig this
      _ ≤ 536870912 := by decide
  refine (va_newaK C.1 C.2.1 (C.2.2.2.2.1 _ harr) (g := F0 m pc ls ((.int v : Value) :: st.map (am_v b))) rfl d rfl hv hN hby A.2.2.1 A.2.2.2 hsz fun H1 cA e1 z1 o1 hAr hNm => ?_) T0 hT X
  refine am_pushed i1 i2 i3 i4 i5 i6 hsz z1 o1 C.2.2.2.2.2.2.1 ?_ kk
  have hK := C.2.2.2.2.2.1.2
  rcases hk with ⟨rfl, rfl⟩ | ⟨rfl, rfl⟩ | ⟨rfl, rfl⟩ | ⟨rfl, rfl⟩
  · have hcA : cA = cs 12 := Option.some.inj (hNm.symm.trans (hK 0 _ rfl).2)
    rw [am_arr hs (by omega)]
    show H1[b + n]? = some (vp_cell (cs 12) (N, .inl (h.1 n)))
    rw [e1, hcA, vp_cell_i]
    simp [f1]; rfl
  · have hcA : cA = cs 13 := Option.some.inj (hNm.symm.trans (hK 1 _ rfl).2)
    rw [am_arr hs (by omega)]
    show H1[b + n]? = some (vp_cell (cs 13) (N, .inl (h.1 n)))
    rw [e1, hcA, vp_cell_i]
    simp [f1]; rfl
  · have hcA : cA = cs 14 := Option.some.inj (hNm.symm.trans (hK 2 _ rfl).2)
    rw [am_arr hs (by omega)]
    show H1[b + n]? = some (vp_cell (cs 14) (N, .inr (.inl (h.2.1 n))))
    rw [e1, hcA, vp_cell_l]
    simp [f2]; rfl
  · have hcA : cA = cs 15 := Option.some.inj (hNm.symm.trans (hK 3 _ rfl).2)
    rw [am_arr hs (by omega)]
    show H1[b + n]? = some (vp_cell (cs 15) (N, .inl (h.1 n)))
    rw [e1, hcA, vp_cell_i]
    simp [f1]; rfl
theorem am_newq (pc : Nat) {idx kd N : Nat} {Cn : String} {v : Int32} (C : AC x own cc nL) (A : AR x 0 0 (ce + 1) (sl + N)) (hk : (kd = 16 ∧ Cn = "DailyLie$Life") ∨ (kd = 17 ∧ Cn = "DailyLie$Rule") ∨ (kd = 18 ∧ Cn = "DailyLie$Situation")) (hl : Cond.classLink own idx Cn ∈ am_tbl) (hover : Cond.arrayOver (.object Cn) ∈ am_nest) (hs : am_sh n = (kd, N)) (hv : ¬ v < 0) (hN : v.toNatClampNeg = N) (hbig : N ≤ 60000) (d : decode cc pc = .ok (.anewarray idx, 3)) (kk : AX x (ce + 1) (sl + N) (pc + 3) lv (.ref n :: st) (n + 1) h) : AX x ce sl pc lv (.int v :: st) n h := by
  obtain ⟨p, l, e, R, s, m, args, below, meth, c, b, D, cs, Q⟩ := x
  intro H ls locs i1 i2 i3 i4 i5 i6 T0 hT X
  have hsz := am_size X hT C.2.2.2.2.2.2.1 i1 i3 i5
  obtain ⟨f1, f2, f3⟩ := i2 n (Nat.le_refl n)
  subst hN
  refine (W.anew C.1 C.2.1 C.2.2.2.1 (C.2.2.2.2.1 _ hl) (va_AO.use (C.2.2.2.2.2.2.2.1 _ hover)) (g := F0 m pc ls ((.int v : Value) :: st.map (am_v b))) rfl d rfl hv (by omega) A.2.2.1 A.2.2.2 fun cA kA comp g1 g2 g3 g4 => ?_) T0 hT X
  generalize hH1 : H.push ({ cls := cA, slots := Array.replicate v.toNatClampNeg .null, vm := .none } : Cell) = H1
  have z1 : H1.size = b + n + 1 := by rw [← hH1, Array.size_push, hsz]
  have e1 : H1[b + n]? = some (arrV cA v.toNatClampNeg (fun _ => .null)) := by rw [← hH1, ← hsz, Array.getElem?_push_size, ← arrV_new]
  have o1 : ∀ q : Nat, q < b + n → H1[q]? = H[q]? := fun q hq => by rw [← hH1, Array.getElem?_push, if_neg (by omega)]
  show W p l e R s m args below meth c H1 locs (ce + 1) (sl + v.toNatClampNeg) Q (F0 m (pc + 3) ls (.ref H.size :: st.map (am_v b)))
  rw [hsz]
  refine am_pushed i1 i2 i3 i4 i5 i6 hsz z1 o1 C.2.2.2.2.2.2.1 ?_ kk
  have hK := C.2.2.2.2.2.1.2
  rcases hk with ⟨rfl, rfl⟩ | ⟨rfl, rfl⟩ | ⟨rfl, rfl⟩
  · obtain ⟨kA2, comp2, k1, k2, k3, k4⟩ := (hK 4 _ rfl).2
    have hcA : cA = cs 16 := Option.some.inj (g1.symm.trans k4)
    rw [am_arr hs (by omega)]
    show H1[b + n]? = some (vp_cell (cs 16) (v.toNatClampNeg, .inr (.inr (.inr (.inr (fun j => (h.2.2 n j).map (fun a => b + a)))))))
    rw [e1, hcA, vp_cell_q]
    simp [f3, va_rf]
  · obtain ⟨kA2, comp2, k1, k2, k3, k4⟩ := (hK 5 _ rfl).2
    have hcA : cA = cs 17 := Option.some.inj (g1.symm.trans k4)
    rw [am_arr hs (by omega)]
    show H1[b + n]? = some (vp_cell (cs 17) (v.toNatClampNeg, .inr (.inr (.inr (.inr (fun j => (h.2.2 n j).map (fun a => b + a)))))))
    rw [e1, hcA, vp_cell_q]
    simp [f3, va_rf]
  · obtain ⟨kA2, comp2, k1, k2, k3, k4⟩ := (hK 6 _ rfl).2
    have hcA : cA = cs 18 := Option.some.inj (g1.symm.trans k4)
    rw [am_arr hs (by omega)]
    show H1[b + n]? = some (vp_cell (cs 18) (v.toNatClampNeg, .inr (.inr (.inr (.inr (fun j => (h.2.2 n j).map (fun a => b + a)))))))
    rw [e1, hcA, vp_cell_q]
    simp [f3, va_rf]
end AMU
