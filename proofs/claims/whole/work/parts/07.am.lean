section AMT
variable {x : am_X} {own : String} {cc : ByteArray} {nL ce sl n : Nat} {lv : List (Nat × Value)} {st : List Value} {h : am_H}
theorem am_size {p : Program} {l : Launch} {e : Env} {R : Room} {s : State} {m : MethodId} {args : Array Value} {below : List Frame} {meth : Method} {c : Code} {T : State} {locs : List Loc} {b ce sl n : Nat} {D : va_G} {cs : Nat → ClassId} {h : am_H} {H : Heap} (X : Stand p l e R s m args below meth c T locs ce sl) (hT : T.heap = H) (hb : b ≤ s.heap.size) (i1 : s.heap.size + ce = b + n) (i3 : va_P D vwCl (am_ws b cs n h) H) (i5 : va_S (fun q => b ≤ q) s.heap H locs) : H.size = b + n := by
  have h1 : T.heap.size ≤ s.heap.size + ce := X.same.2.2.1
  have h2 := i5.1
  rw [hT] at h1
  cases n with
  | zero => omega
  | succ k =>
    have h3 := (i3 k _ (am_ws_at (Nat.lt_succ_self k))).lt
    dsimp only at h3
    omega
theorem am_B_of {b : Nat} {D : va_G} {cs : Nat → ClassId} {s U : State} {H : Heap} (hU : U.heap = H) (hW : s.WarmedH U.vm) (i2 : am_fr n h) (i3 : va_P D vwCl (am_ws b cs n h) H) (i4 : va_D (fun q => b ≤ q) (am_ws b cs n h)) (hK : va_K D vwCl (am_tys cs) s) (hN : am_NN s) (hO : am_O b s s.heap) {locs : List Loc} (i5 : va_S (fun q => b ≤ q) s.heap H locs) : am_B b D cs n h U :=
  ⟨i2, by rw [hU]; exact i3, i4, va_K.moved hW.alike hK, am_NN_warm hW hN, by rw [hU]; exact am_O_warm hW i5.2.1 hO⟩
theorem am_blind {b : Nat} {D : va_G} {cs : Nat → ClassId} (av : List Value) : FrameBlind (va_Pc av (fun U => U.heap.size = b + n ∧ am_B b D cs n h U)) := by
  intro a U g mk q
  obtain ⟨q0, q1, q2, q3, q4, q5, q6, q7⟩ := q
  exact ⟨q0, q1, q2, q3, q4, va_K.moved (u := U) (U := U.calling g mk a) (Vm.Alike.refl U.vm) q5, am_NN_same (s := U) (U := U.calling g mk a) rfl q6, am_O_same (s := U) (U := U.calling g mk a) rfl rfl q7⟩
theorem am_lv_args (b : Nat) (vs : List Value) : ∀ i, lv_args i (vs.map (am_v b)) = am_lv b (lv_args i vs) := by
  induction vs with
  | nil => intro i; rfl
  | cons v vs ih =>
    intro i
    simp only [List.map_cons, lv_args, am_lv, am_cat]
    rw [ih]
    rfl
theorem am_lgsl (b : Nat) (vs : List Value) : (lg_sl (vs.map (am_v b))).length = (lg_sl vs).length := by
  induction vs with
  | nil => rfl
  | cons v vs ih =>
    have h1 := am_cat b v
    have e : ∀ (v : Value) (vs : List Value), lg_sl (v :: vs) = (if v.category = 2 then [Slot.val v, Slot.second] else [Slot.val v]) ++ lg_sl vs := fun _ _ => rfl
    rw [List.map_cons, e, e, List.length_append, List.length_append, ih, h1]
    split <;> rfl
/-- a contract out of one walk -/
theorem am_met {y : MethodName} {cc : ByteArray} {nL : Nat} {rt : Option FieldType} {d mc ms : Nat} {av : List Value} {n : Nat} {h : am_H} {z : Option Value × Nat × am_H} (hy : plainName y.cls = true) (hl : (lg_sl av).length ≤ nL)
    (core : ∀ x, AC x y.cls cc nL → AR x d (64 * d) mc ms → AZ x rt mc ms z → (y.name = "<init>" → AI x) → AX x 0 0 0 (lv_args 0 av) [] n h) : AM y cc nL rt d mc ms av n h z := by
  intro l b D cs
  refine Met.ofW (cc := cc) (maxL := nL) (ret := rt) hy rfl ?_
  intro p e s m args below meth c s₁ B hml hv
  obtain ⟨rfl, hsz, hB⟩ := hv
  have hts := atoms_spec (ws := Cond.code y cc nL rt :: am_tbl) B.pre
  have hown := findClass_of_methodNamed B.named
  have K := core (p, l, e, am_R d mc ms, s, m, (av.map (am_v b)).toArray, below, meth, c, b, D, cs, MQ below (am_Q b D cs z) (av.map (am_v b)).toArray s mc ms (fun q => b ≤ q)) ⟨B.exec, B.bytes, hml, hown, fun w hw => hts w (List.mem_cons_of_mem _ hw), hB.2.2.2.1, by omega, hB.2.2.2.2⟩ ⟨Nat.le_refl _, Nat.le_refl _, Nat.le_refl _, Nat.le_refl _⟩ ⟨rfl, B.returns, B.notSynchronized⟩ (fun hn => (name_of_methodNamed B.named B.method).1.trans hn)
  rw [lg_entry_eq]
  have hle := lv_entry (av.map (am_v b)) (n := nL) (by rw [am_lgsl]; exact hl)
  rw [am_lv_args] at hle
  exact K s.heap _ [] (by omega) hB.1 hB.2.1 hB.2.2.1 va_S.rf (by rw [hml]; exact hle)
/-- behind a call -/
theorem am_after {p : Program} {l : Launch} {e : Env} {R : Room} {s : State} {m : MethodId} {args : Array Value} {below : List Frame} {meth : Method} {c : Code} {b : Nat} {D : va_G} {cs : Nat → ClassId} {Q : State → Prop} {T : State} {locs : List Loc} {ls : Array Slot} {H : Heap} {pc mc ms : Nat} {stk st2 : List Value} {stc : List Value} {z : Option Value × Nat × am_H} {a : Array Value}
    (hr : va_Run p l e R s m args below meth c H locs ce sl mc ms (F0 m pc ls stc) (st.map (am_v b)) (am_Q b D cs z a) (fun q => b ≤ q)) (i1 : s.heap.size + ce = b + n) (hz : z.2.1 = n + mc) (i5 : va_S (fun q => b ≤ q) s.heap H locs) (i6 : lv_has ls c.maxLocals (am_lv b lv)) (hst2 : z.1.toList ++ st = st2)
    (kk : AX (p, l, e, R, s, m, args, below, meth, c, b, D, cs, Q) (ce + mc) (sl + ms) (pc + 3) lv st2 z.2.1 z.2.2) (hT : T.heap = H) (X : Stand p l e R s m args below meth c T locs ce sl) : ∃ t, Steps p.tables e below (T.setTop (F0 m pc ls stc)) t ∧ Q t := by
  obtain ⟨v, st₀, t, T', L, h0, X', hL, e1, e2, ⟨⟨hv, b1, b2, b3, -, -⟩, hz1, hk⟩, go⟩ := hr T hT X
  cases hv
  rw [h0] at hz1 hk
  obtain ⟨t2, a1, c1⟩ := kk T'.heap ls (locs ++ L) (by omega) b1 (by rw [e1]; exact b2) b3
    ⟨Nat.le_trans i5.1 (by rw [e1]; exact hz1), fun q h1 h2 => by rw [e1, hk q (Nat.lt_of_lt_of_le h1 i5.1) h2]; exact i5.2.1 q h1 h2, fun q hq => by
      rcases List.mem_append.mp hq with h | h
      · exact i5.2.2 q h
      · exact hL q h⟩ i6 T' rfl X'
  refine ⟨t2, go t2 ?_, c1⟩
  have hs : (z.1.map (am_v b)).toList ++ st.map (am_v b) = st2.map (am_v b) := by
    rw [← hst2]
    cases z.1 <;> simp
  rw [hs]
  exact a1
/-- what the tables say of a callee -/
def AYc (y : MethodName) (cc2 : ByteArray) (nL2 : Nat) (rt : Option FieldType) (np : Nat) : Prop := Cond.initialized y.cls ∈ am_tbl ∧ Cond.code y cc2 nL2 rt ∈ am_tbl ∧ (y.cls ≠ "java/lang/invoke/MethodHandle" ∧ y.cls ≠ "java/lang/invoke/VarHandle" ∧ (parseMethodDescriptor y.desc).map (fun d => d.parameters.length) = some np) ∧ nL2 ≤ 45
def AYv (y : MethodName) (ci : Nat) : Prop := Cond.instanceMethod y ∈ am_tbl ∧ Cond.selects y.cls y y ∈ am_tbl ∧ ∃ q : vw_C, vwCl[ci]? = some q ∧ q.1 = y.cls ∧ ci < 12
theorem am_goodc {y : MethodName} {cc2 : ByteArray} {nL2 : Nat} {rt : Option FieldType} (hc : Cond.code y cc2 nL2 rt ∈ am_tbl) : GoodIn am_tbl (Cond.code y cc2 nL2 rt :: am_tbl) := am_good _ (fun w hw => by
  rcases List.mem_cons.mp hw with rfl | h
  · exact hc
  · exact h)
theorem am_callB {R : Room} {s : State} {args : Array Value} {idx d2 mc ms np : Nat} {y : MethodName} {cc2 : ByteArray} {nL2 : Nat} {rt : Option FieldType} (ht : ∀ w ∈ am_tbl, w.before args s = true) (L : Cond.methodLink own idx y ∈ am_tbl) (Y : AYc y cc2 nL2 rt np) (h1 : d2 + 1 ≤ R.frames) (h2 : 64 * (d2 + 1) ≤ R.locals) : CallB R s args own idx y cc2 nL2 rt (Cond.code y cc2 nL2 rt :: am_tbl) (am_R d2 mc ms) mc ms np :=
  callB_of np ht (am_goodc Y.2.1) rfl rfl rfl (ht _ Y.1) (ht _ L) Y.2.2.1 ⟨h1, by have := Y.2.2.2; show 8 + (nL2 + 11) + 64 * d2 ≤ R.locals; omega⟩
theorem am_callV (pc : Nat) {idx d2 mc ms a ci np : Nat} {y : MethodName} {cc2 : ByteArray} {nL2 : Nat} {rt : Option FieldType} (As : List Value) {z : Option Value × Nat × am_H} {stk st2 : List Value} (C : AC x own cc nL) (A : AR x (d2 + 1) (64 * (d2 + 1)) (ce + mc) (sl + ms)) (L : Cond.methodLink own idx y ∈ am_tbl) (Y : AYc y cc2 nL2 rt np) (V : AYv y ci) (hM : AM y cc2 nL2 rt d2 mc ms (.ref a :: As) n h z) (hz : z.2.1 = n + mc) (ha : a < n) (hs : (am_sh a).1 = ci) (hnp : As.length = np) (hst : stk = As.reverse ++ .ref a :: st) (hsum : (st.map fun v => v.category).sum ≤ 8) (hst2 : z.1.toList ++ st = st2) (d : decode cc pc = .ok (.invokevirtual idx, 3)) (kk : AX x (ce + mc) (sl + ms) (pc + 3) lv st2 z.2.1 z.2.2) : AX x ce sl pc lv stk n h := by
  obtain ⟨p, l, e, R, s, m, args, below, meth, c, b, D, cs, Q⟩ := x
  intro H ls locs i1 i2 i3 i4 i5 i6 T hT X
  have hsz := am_size X hT C.2.2.2.2.2.2.1 i1 i3 i5
  obtain ⟨v1, v2, q, v3, v4, v5⟩ := V
  have he := am_ws_at (b := b) (cs := cs) (h := h) ha
  rw [am_cell_obj v5 hs] at he
  subst hst
  refine am_after (va_runV (C := y.cls) (As := As.map (am_v b)) (b := b + a) (rest := st.map (am_v b)) ⟨C.1, C.2.1, rfl, C.2.2.2.1, C.2.2.2.2.1⟩ (hM l b D cs) ⟨am_callB C.2.2.2.2.1 L Y A.1 A.2.1, C.2.2.2.2.1 _ v1, C.2.2.2.2.1 _ v2⟩ ⟨am_blind _, by rw [← v4]; exact va_recv C.2.2.2.2.2.1 i3 v3 he, fun U hU hW => ⟨rfl, by rw [hU]; exact hsz, am_B_of hU hW i2 i3 i4 C.2.2.2.2.2.1 C.2.2.2.2.2.2.2.1 C.2.2.2.2.2.2.2.2 i5⟩⟩ rfl (by simpa using hnp) i6.1 (by simp [am_v]) (lv_room (by rw [am_cats]; exact hsum)) d ⟨A.2.2.1, A.2.2.2⟩) i1 hz i5 i6 hst2 kk hT X (stk := [])
theorem am_callS (pc : Nat) {idx d2 mc ms np : Nat} {y : MethodName} {cc2 : ByteArray} {nL2 : Nat} {rt : Option FieldType} (As : List Value) {z : Option Value × Nat × am_H} {stk st2 : List Value} (C : AC x own cc nL) (A : AR x (d2 + 1) (64 * (d2 + 1)) (ce + mc) (sl + ms)) (L : Cond.methodLink own idx y ∈ am_tbl) (Y : AYc y cc2 nL2 rt np) (V : Cond.static y ∈ am_tbl) (hM : AM y cc2 nL2 rt d2 mc ms As n h z) (hz : z.2.1 = n + mc) (hnp : As.length = np) (hst : stk = As.reverse ++ st) (hsum : (st.map fun v => v.category).sum ≤ 8) (hst2 : z.1.toList ++ st = st2) (d : decode cc pc = .ok (.invokestatic idx, 3)) (kk : AX x (ce + mc) (sl + ms) (pc + 3) lv st2 z.2.1 z.2.2) : AX x ce sl pc lv stk n h := by
  obtain ⟨p, l, e, R, s, m, args, below, meth, c, b, D, cs, Q⟩ := x
  intro H ls locs i1 i2 i3 i4 i5 i6 T hT X
  have hsz := am_size X hT C.2.2.2.2.2.2.1 i1 i3 i5
  subst hst
  refine am_after (va_runS (As := As.map (am_v b)) (rest := st.map (am_v b)) ⟨C.1, C.2.1, rfl, C.2.2.2.1, C.2.2.2.2.1⟩ (hM l b D cs) ⟨am_callB C.2.2.2.2.1 L Y A.1 A.2.1, C.2.2.2.2.1 _ V⟩ ⟨am_blind _, fun U hU hW => ⟨rfl, by rw [hU]; exact hsz, am_B_of hU hW i2 i3 i4 C.2.2.2.2.2.1 C.2.2.2.2.2.2.2.1 C.2.2.2.2.2.2.2.2 i5⟩⟩ rfl (by simpa using hnp) i6.1 (by simp) (lv_room (by rw [am_cats]; exact hsum)) d ⟨A.2.2.1, A.2.2.2⟩) i1 hz i5 i6 hst2 kk hT X (stk := [])
theorem am_callSN (pc : Nat) {idx d2 mc ms np : Nat} {host : String} {y : MethodName} {cc2 : ByteArray} {nL2 : Nat} {rt : Option FieldType} (As : List Value) {z : Option Value × Nat × am_H} {stk st2 : List Value} (C : AC x own cc nL) (A : AR x (d2 + 1) (64 * (d2 + 1)) (ce + mc) (sl + ms)) (L : Cond.methodLinkNest own idx y host ∈ am_nest) (Y : AYc y cc2 nL2 rt np) (V : Cond.static y ∈ am_tbl) (hM : AM y cc2 nL2 rt d2 mc ms As n h z) (hz : z.2.1 = n + mc) (hnp : As.length = np) (hst : stk = As.reverse ++ st) (hsum : (st.map fun v => v.category).sum ≤ 8) (hst2 : z.1.toList ++ st = st2) (d : decode cc pc = .ok (.invokestatic idx, 3)) (kk : AX x (ce + mc) (sl + ms) (pc + 3) lv st2 z.2.1 z.2.2) : AX x ce sl pc lv stk n h := by
  obtain ⟨p, l, e, R, s, m, args, below, meth, c, b, D, cs, Q⟩ := x
  intro H ls locs i1 i2 i3 i4 i5 i6 T hT X
  have hsz := am_size X hT C.2.2.2.2.2.2.1 i1 i3 i5
  subst hst
  refine am_after (va_runSN (As := As.map (am_v b)) (rest := st.map (am_v b)) ⟨C.1, C.2.1, rfl, C.2.2.2.1, C.2.2.2.2.1⟩ (hM l b D cs) ⟨va_cnB np C.2.2.2.2.1 (am_goodc Y.2.1) rfl rfl rfl (C.2.2.2.2.2.2.2.1 _ L) (C.2.2.2.2.1 _ Y.1) Y.2.2.1 ⟨A.1, by have := Y.2.2.2; have := A.2.1; show 8 + (nL2 + 11) + 64 * d2 ≤ R.locals; omega⟩, C.2.2.2.2.1 _ V, trivial⟩ ⟨am_blind _, fun U hU hW => ⟨rfl, by rw [hU]; exact hsz, am_B_of hU hW i2 i3 i4 C.2.2.2.2.2.1 C.2.2.2.2.2.2.2.1 C.2.2.2.2.2.2.2.2 i5⟩⟩ rfl (by simpa using hnp) i6.1 (by simp) (lv_room (by rw [am_cats]; exact hsum)) d ⟨A.2.2.1, A.2.2.2⟩) i1 hz i5 i6 hst2 kk hT X (stk := [])
theorem am_callI (pc : Nat) {idx d2 mc ms a np : Nat} {y : MethodName} {cc2 : ByteArray} {nL2 : Nat} (As : List Value) {z : Option Value × Nat × am_H} {stk st2 : List Value} (C : AC x own cc nL) (A : AR x (d2 + 1) (64 * (d2 + 1)) (ce + mc) (sl + ms)) (L : Cond.methodLink own idx y ∈ am_tbl) (Y : AYc y cc2 nL2 none np) (V : Cond.instanceMethod y ∈ am_tbl) (hi : y.name = "<init>") (hM : AM y cc2 nL2 none d2 mc ms (.ref a :: As) n h z) (hz : z.2.1 = n + mc) (hnp : As.length = np) (hst : stk = As.reverse ++ .ref a :: st) (hsum : (st.map fun v => v.category).sum ≤ 8) (hst2 : z.1.toList ++ st = st2) (d : decode cc pc = .ok (.invokespecial idx, 3)) (kk : AX x (ce + mc) (sl + ms) (pc + 3) lv st2 z.2.1 z.2.2) : AX x ce sl pc lv stk n h := by
  obtain ⟨p, l, e, R, s, m, args, below, meth, c, b, D, cs, Q⟩ := x
  intro H ls locs i1 i2 i3 i4 i5 i6 T hT X
  have hsz := am_size X hT C.2.2.2.2.2.2.1 i1 i3 i5
  subst hst
  refine am_after (va_runI (As := As.map (am_v b)) (b := b + a) (rest := st.map (am_v b)) ⟨C.1, C.2.1, rfl, C.2.2.2.1, C.2.2.2.2.1⟩ (hM l b D cs) ⟨am_callB C.2.2.2.2.1 L Y A.1 A.2.1, hi, C.2.2.2.2.1 _ V⟩ ⟨am_blind _, fun U hU hW => ⟨rfl, by rw [hU]; exact hsz, am_B_of hU hW i2 i3 i4 C.2.2.2.2.2.1 C.2.2.2.2.2.2.2.1 C.2.2.2.2.2.2.2.2 i5⟩⟩ rfl (by simpa using hnp) i6.1 (by simp [am_v]) (lv_room (by rw [am_cats]; exact hsum)) d ⟨A.2.2.1, A.2.2.2⟩) i1 hz i5 i6 hst2 kk hT X (stk := [])
theorem am_callIN (pc : Nat) {idx d2 mc ms a np : Nat} {host : String} {y : MethodName} {cc2 : ByteArray} {nL2 : Nat} (As : List Value) {z : Option Value × Nat × am_H} {stk st2 : List Value} (C : AC x own cc nL) (A : AR x (d2 + 1) (64 * (d2 + 1)) (ce + mc) (sl + ms)) (L : Cond.methodLinkNest own idx y host ∈ am_nest) (Y : AYc y cc2 nL2 none np) (V : Cond.instanceMethod y ∈ am_tbl) (hi : y.name = "<init>") (hM : AM y cc2 nL2 none d2 mc ms (.ref a :: As) n h z) (hz : z.2.1 = n + mc) (hnp : As.length = np) (hst : stk = As.reverse ++ .ref a :: st) (hsum : (st.map fun v => v.category).sum ≤ 8) (hst2 : z.1.toList ++ st = st2) (d : decode cc pc = .ok (.invokespecial idx, 3)) (kk : AX x (ce + mc) (sl + ms) (pc + 3) lv st2 z.2.1 z.2.2) : AX x ce sl pc lv stk n h := by
  obtain ⟨p, l, e, R, s, m, args, below, meth, c, b, D, cs, Q⟩ := x
  intro H ls locs i1 i2 i3 i4 i5 i6 T hT X
  have hsz := am_size X hT C.2.2.2.2.2.2.1 i1 i3 i5
  subst hst
  refine am_after (va_runIN (As := As.map (am_v b)) (b := b + a) (rest := st.map (am_v b)) ⟨C.1, C.2.1, rfl, C.2.2.2.1, C.2.2.2.2.1⟩ (hM l b D cs) ⟨va_cnB np C.2.2.2.2.1 (am_goodc Y.2.1) rfl rfl rfl (C.2.2.2.2.2.2.2.1 _ L) (C.2.2.2.2.1 _ Y.1) Y.2.2.1 ⟨A.1, by have := Y.2.2.2; have := A.2.1; show 8 + (nL2 + 11) + 64 * d2 ≤ R.locals; omega⟩, hi, C.2.2.2.2.1 _ V⟩ ⟨am_blind _, fun U hU hW => ⟨rfl, by rw [hU]; exact hsz, am_B_of hU hW i2 i3 i4 C.2.2.2.2.2.1 C.2.2.2.2.2.2.2.1 C.2.2.2.2.2.2.2.2 i5⟩⟩ rfl (by simpa using hnp) i6.1 (by simp [am_v]) (lv_room (by rw [am_cats]; exact hsum)) d ⟨A.2.2.1, A.2.2.2⟩) i1 hz i5 i6 hst2 kk hT X (stk := [])
end AMT
