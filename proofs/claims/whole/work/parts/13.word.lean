section AMW
variable {x : am_X} {own : String} {cc : ByteArray} {nL ce sl n : Nat} {lv : List (Nat × Value)} {st : List Value} {h : am_H}
def am_Oq (b q v : Nat) (U : State) (H : Heap) : Prop := vk_R "DailyLie$Tokens" 65 am_tx q U ∧ vk_S 1 [127] [am_wd] (fun _ => q) (fun _ => v) (fun q => b ≤ q) U H ∧ va_Z "java/lang/String" "COMPACT_STRINGS" "Z" (.int 1) (fun q => b ≤ q) U H ∧ va_Zq "jdk/internal/util/Preconditions" "SIOOBE_FORMATTER" "Ljava/util/function/BiFunction;" (fun q => b ≤ q) U H
theorem am_Oq_warm {b q v : Nat} {s U : State} {H : Heap} (hW : s.WarmedH U.vm) (hq : ∀ a : Nat, a < s.heap.size → ¬ b ≤ a → H[a]? = s.heap[a]?) (h : am_Oq b q v s s.heap) : am_Oq b q v U H := by
  obtain ⟨h1, h2, h3, h4⟩ := h
  exact ⟨vk_R.warm hW h1, (vk_S.moved hW.alike h2).kept hq, (va_Z.moved hW.alike h3).kept hq, (va_Zq.moved hW.alike h4).kept hq⟩
theorem am_Oq_same {b q v : Nat} {s U : State} (hv : U.vm = s.vm) (hh : U.heap = s.heap) (h : am_Oq b q v s s.heap) : am_Oq b q v U U.heap := by
  obtain ⟨h1, h2, h3, h4⟩ := h
  have hA : s.vm.Alike U.vm := by rw [hv]; exact Vm.Alike.refl _
  rw [hh]
  exact ⟨vk_R.same hv h1, vk_S.moved hA h2, va_Z.moved hA h3, va_Zq.moved hA h4⟩
def AO (x : am_X) (q v : Nat) : Prop := match x with
  | (_, _, _, _, s, _, _, _, _, _, b, _, _, _) => am_Oq b q v s s.heap
def AMo (y : MethodName) (cc : ByteArray) (nL : Nat) (rt : Option FieldType) (d : Nat) (av : List Value) (q v n : Nat) (h : am_H) (r : Option Value) : Prop :=
  ∀ (l : Launch) (b : Nat) (D : va_G) (cs : Nat → ClassId), Met l y (Cond.code y cc nL rt :: am_tbl) (am_R d 0 0) (va_Pc (av.map (am_v b)) (fun U => (U.heap.size = b + n ∧ am_B b D cs n h U) ∧ am_Oq b q v U U.heap)) (am_Q b D cs (r, n, h)) 0 0 (fun q => b ≤ q)
theorem am_blindO {b q v : Nat} {D : va_G} {cs : Nat → ClassId} (av : List Value) : FrameBlind (va_Pc av (fun U => (U.heap.size = b + n ∧ am_B b D cs n h U) ∧ am_Oq b q v U U.heap)) := by
  intro a U g mk q
  obtain ⟨q0, ⟨q1, q2, q3, q4, q5, q6, q7⟩, q8⟩ := q
  exact ⟨q0, ⟨q1, q2, q3, q4, va_K.moved (u := U) (U := U.calling g mk a) (Vm.Alike.refl U.vm) q5, am_NN_same (s := U) (U := U.calling g mk a) rfl q6, am_O_same (s := U) (U := U.calling g mk a) rfl rfl q7⟩, am_Oq_same (s := U) (U := U.calling g mk a) rfl rfl q8⟩
theorem am_metO {y : MethodName} {cc : ByteArray} {nL : Nat} {rt : Option FieldType} {d : Nat} {av : List Value} {q v n : Nat} {h : am_H} {r : Option Value} (hy : plainName y.cls = true) (hl : (lg_sl av).length ≤ nL)
    (core : ∀ x, AC x y.cls cc nL → AR x d (64 * d) 0 0 → AZ x rt 0 0 (r, n, h) → AO x q v → AX x 0 0 0 (lv_args 0 av) [] n h) : AMo y cc nL rt d av q v n h r := by
  intro l b D cs
  refine Met.ofW (cc := cc) (maxL := nL) (ret := rt) hy rfl ?_
  intro p e s m args below meth c s₁ B hml hv
  obtain ⟨rfl, ⟨hsz, hB⟩, hO⟩ := hv
  have hts := atoms_spec (ws := Cond.code y cc nL rt :: am_tbl) B.pre
  have hown := findClass_of_methodNamed B.named
  have K := core (p, l, e, am_R d 0 0, s, m, (av.map (am_v b)).toArray, below, meth, c, b, D, cs, MQ below (am_Q b D cs (r, n, h)) (av.map (am_v b)).toArray s 0 0 (fun q => b ≤ q)) ⟨B.exec, B.bytes, hml, hown, fun w hw => hts w (List.mem_cons_of_mem _ hw), hB.2.2.2.1, by omega, hB.2.2.2.2⟩ ⟨Nat.le_refl _, Nat.le_refl _, Nat.le_refl _, Nat.le_refl _⟩ ⟨rfl, B.returns, B.notSynchronized⟩ hO
  rw [lg_entry_eq]
  have hle := lv_entry (av.map (am_v b)) (n := nL) (by rw [am_lgsl]; exact hl)
  rw [am_lv_args] at hle
  exact K s.heap _ [] (by omega) hB.1 hB.2.1 hB.2.2.1 va_S.rf (by rw [hml]; exact hle)
theorem am_callVO (pc : Nat) {idx d2 np q v : Nat} {y : MethodName} {cc2 : ByteArray} {nL2 : Nat} {rt : Option FieldType} {r : Option Value} (As : List Value) {stk st2 : List Value} (C : AC x own cc nL) (A : AR x (d2 + 1) (64 * (d2 + 1)) ce sl) (O : AO x q v) (L : Cond.methodLink own idx y ∈ am_tbl) (Y : AYc y cc2 nL2 rt np) (V : y.cls = "java/lang/String" ∧ Cond.instanceMethod y ∈ am_tbl ∧ Cond.selects y.cls y y ∈ am_tbl) (hM : AMo y cc2 nL2 rt d2 (.retAddr q :: As) q v n h r) (hnp : As.length = np) (hst : stk = As.reverse ++ .retAddr q :: st) (hsum : (st.map fun v => v.category).sum ≤ 8) (hst2 : r.toList ++ st = st2) (d : decode cc pc = .ok (.invokevirtual idx, 3)) (kk : AX x ce sl (pc + 3) lv st2 n h) : AX x ce sl pc lv stk n h := by
  obtain ⟨p, l, e, R, s, m, args, below, meth, c, b, D, cs, Q⟩ := x
  intro H ls locs i1 i2 i3 i4 i5 i6 T hT X
  have hsz := am_size X hT C.2.2.2.2.2.2.1 i1 i3 i5
  obtain ⟨v0, v1, v2⟩ := V
  subst hst
  refine am_after (mc := 0) (ms := 0) (z := (r, n, h)) (va_runV (C := y.cls) (As := As.map (am_v b)) (b := q) (rest := st.map (am_v b)) ⟨C.1, C.2.1, rfl, C.2.2.2.1, C.2.2.2.2.1⟩ (hM l b D cs) ⟨am_callB C.2.2.2.2.1 L Y A.1 A.2.1, C.2.2.2.2.1 _ v1, C.2.2.2.2.1 _ v2⟩ ⟨am_blindO _, by rw [v0]; exact vk_recv (i := 0) O.2.1 (by decide) i5, fun U hU hW => ⟨rfl, ⟨by rw [hU]; exact hsz, am_B_of hU hW i2 i3 i4 C.2.2.2.2.2.1 C.2.2.2.2.2.2.2.1 C.2.2.2.2.2.2.2.2 i5⟩, by rw [hU]; exact am_Oq_warm hW i5.2.1 O⟩⟩ rfl (by simpa using hnp) i6.1 (by simp [am_v]) (lv_room (by rw [am_cats]; exact hsum)) d ⟨A.2.2.1, A.2.2.2⟩) i1 rfl i5 i6 hst2 kk hT X (stk := [])
theorem am_callSO (pc : Nat) {idx d2 np q v : Nat} {y : MethodName} {cc2 : ByteArray} {nL2 : Nat} {rt : Option FieldType} {r : Option Value} (As : List Value) {stk st2 : List Value} (C : AC x own cc nL) (A : AR x (d2 + 1) (64 * (d2 + 1)) ce sl) (O : AO x q v) (L : Cond.methodLink own idx y ∈ am_tbl) (Y : AYc y cc2 nL2 rt np) (V : Cond.static y ∈ am_tbl) (hM : AMo y cc2 nL2 rt d2 As q v n h r) (hnp : As.length = np) (hst : stk = As.reverse ++ st) (hsum : (st.map fun v => v.category).sum ≤ 8) (hst2 : r.toList ++ st = st2) (d : decode cc pc = .ok (.invokestatic idx, 3)) (kk : AX x ce sl (pc + 3) lv st2 n h) : AX x ce sl pc lv stk n h := by
  obtain ⟨p, l, e, R, s, m, args, below, meth, c, b, D, cs, Q⟩ := x
  intro H ls locs i1 i2 i3 i4 i5 i6 T hT X
  have hsz := am_size X hT C.2.2.2.2.2.2.1 i1 i3 i5
  subst hst
  refine am_after (mc := 0) (ms := 0) (z := (r, n, h)) (va_runS (As := As.map (am_v b)) (rest := st.map (am_v b)) ⟨C.1, C.2.1, rfl, C.2.2.2.1, C.2.2.2.2.1⟩ (hM l b D cs) ⟨am_callB C.2.2.2.2.1 L Y A.1 A.2.1, C.2.2.2.2.1 _ V⟩ ⟨am_blindO _, fun U hU hW => ⟨rfl, ⟨by rw [hU]; exact hsz, am_B_of hU hW i2 i3 i4 C.2.2.2.2.2.1 C.2.2.2.2.2.2.2.1 C.2.2.2.2.2.2.2.2 i5⟩, by rw [hU]; exact am_Oq_warm hW i5.2.1 O⟩⟩ rfl (by simpa using hnp) i6.1 (by simp) (lv_room (by rw [am_cats]; exact hsum)) d ⟨A.2.2.1, A.2.2.2⟩) i1 rfl i5 i6 hst2 kk hT X (stk := [])
theorem am_gsZ (pc : Nat) {idx q v : Nat} (C : AC x own cc nL) (O : AO x q v) (L : Cond.fieldLink own idx "java/lang/String" "COMPACT_STRINGS" "Z" ∈ am_tbl) (d : decode cc pc = .ok (.getstatic idx, 3)) (kk : AX x ce sl (pc + 3) lv (.int 1 :: st) n h) : AX x ce sl pc lv st n h := by
  obtain ⟨p, l, e, R, s, m, args, below, meth, c, b, D, cs, Q⟩ := x
  intro H ls locs i1 i2 i3 i4 i5 i6
  exact va_gets C.1 C.2.1 O.2.2.1 i5 C.2.2.2.1 (C.2.2.2.2.1 _ L) (fun _ hz => hz) d (kk H ls locs i1 i2 i3 i4 i5 i6)
theorem am_gsF (pc : Nat) {idx q v : Nat} (C : AC x own cc nL) (O : AO x q v) (L : Cond.fieldLink own idx "jdk/internal/util/Preconditions" "SIOOBE_FORMATTER" "Ljava/util/function/BiFunction;" ∈ am_tbl) (d : decode cc pc = .ok (.getstatic idx, 3)) (kk : ∀ f : Value, f = .null ∨ (∃ t, f = .retAddr t) → AX x ce sl (pc + 3) lv (f :: st) n h) : AX x ce sl pc lv st n h := by
  obtain ⟨p, l, e, R, s, m, args, below, meth, c, b, D, cs, Q⟩ := x
  intro H ls locs i1 i2 i3 i4 i5 i6
  rcases O.2.2.2 with hz | ⟨t, hz⟩
  · exact va_gets C.1 C.2.1 hz i5 C.2.2.2.1 (C.2.2.2.2.1 _ L) (fun _ hz => hz) d (kk .null (Or.inl rfl) H ls locs i1 i2 i3 i4 i5 i6)
  · exact va_gets C.1 C.2.1 hz i5 C.2.2.2.1 (C.2.2.2.2.1 _ L) (fun _ hz => hz) d (kk (.retAddr t) (Or.inr ⟨t, rfl⟩) H ls locs i1 i2 i3 i4 i5 i6)
theorem am_gfC (pc : Nat) {idx q v : Nat} (C : AC x own cc nL) (O : AO x q v) (L : Cond.fieldLink own idx "java/lang/String" "coder" "B" ∈ am_tbl) (d : decode cc pc = .ok (.getfield idx, 3)) (kk : AX x ce sl (pc + 3) lv (.int 0 :: st) n h) : AX x ce sl pc lv (.retAddr q :: st) n h := by
  obtain ⟨p, l, e, R, s, m, args, below, meth, c, b, D, cs, Q⟩ := x
  intro H ls locs i1 i2 i3 i4 i5 i6
  exact vk_getf C.1 C.2.1 (O.2.1.1 0 (by decide)).2.1 i5 C.2.2.2.1 (C.2.2.2.2.1 _ L) (fun _ hz => hz) d (kk H ls locs i1 i2 i3 i4 i5 i6)
theorem am_gfV (pc : Nat) {idx q v : Nat} (C : AC x own cc nL) (O : AO x q v) (L : Cond.fieldLink own idx "java/lang/String" "value" "[B" ∈ am_tbl) (d : decode cc pc = .ok (.getfield idx, 3)) (kk : AX x ce sl (pc + 3) lv (.retAddr v :: st) n h) : AX x ce sl pc lv (.retAddr q :: st) n h := by
  obtain ⟨p, l, e, R, s, m, args, below, meth, c, b, D, cs, Q⟩ := x
  intro H ls locs i1 i2 i3 i4 i5 i6
  exact vk_getf C.1 C.2.1 (O.2.1.1 0 (by decide)).2.2.1 i5 C.2.2.2.1 (C.2.2.2.2.1 _ L) (fun _ hz => hz) d (kk H ls locs i1 i2 i3 i4 i5 i6)
theorem am_tlen (pc : Nat) {q v : Nat} (C : AC x own cc nL) (O : AO x q v) (d : decode cc pc = .ok (.arraylength, 1)) (kk : AX x ce sl (pc + 1) lv (.int 127 :: st) n h) : AX x ce sl pc lv (.retAddr v :: st) n h := by
  obtain ⟨p, l, e, R, s, m, args, below, meth, c, b, D, cs, Q⟩ := x
  intro H ls locs i1 i2 i3 i4 i5 i6
  exact va_tlen C.1 C.2.1 (O.2.1.1 0 (by decide)).2.2.2 i5 (v := 127) (by decide) d (kk H ls locs i1 i2 i3 i4 i5 i6)
theorem am_tbl8 (pc : Nat) {q v : Nat} {i : Int32} (C : AC x own cc nL) (O : AO x q v) (hin : ¬ i < 0 ∧ i.toNatClampNeg < 127) (d : decode cc pc = .ok (.baload, 1)) (kk : AX x ce sl (pc + 1) lv (.int (am_wd.getD i.toNatClampNeg 0) :: st) n h) : AX x ce sl pc lv (.int i :: .retAddr v :: st) n h := by
  obtain ⟨p, l, e, R, s, m, args, below, meth, c, b, D, cs, Q⟩ := x
  intro H ls locs i1 i2 i3 i4 i5 i6
  exact va_tb C.1 C.2.1 (O.2.1.1 0 (by decide)).2.2.2 i5 (am_vin hin) rfl d (kk H ls locs i1 i2 i3 i4 i5 i6)
theorem am_i2c (pc : Nat) {u : Int32} (C : AC x own cc nL) (d : decode cc pc = .ok (.i2c, 1)) (kk : AX x ce sl (pc + 1) lv (.int (u.toUInt32 % 65536).toInt32 :: st) n h) : AX x ce sl pc lv (.int u :: st) n h := by
  obtain ⟨p, l, e, R, s, m, args, below, meth, c, b, D, cs, Q⟩ := x
  intro H ls locs i1 i2 i3 i4 i5 i6
  exact lv_i2c C.1 C.2.1 d rfl (kk H ls locs i1 i2 i3 i4 i5 i6)
theorem am_ldcS (pc : Nat) {q v : Nat} (C : AC x RX7 cc nL) (O : AO x q v) (d : decode cc pc = .ok (.ldc 65, 2)) (kk : AX x ce sl (pc + 2) lv (.retAddr q :: st) n h) : AX x ce sl pc lv st n h := by
  obtain ⟨p, l, e, R, s, m, args, below, meth, c, b, D, cs, Q⟩ := x
  intro H ls locs i1 i2 i3 i4 i5 i6
  exact va_ldcS C.1 C.2.1 C.2.2.2.1 O.1 d (kk H ls locs i1 i2 i3 i4 i5 i6)
end AMW
set_option maxRecDepth 100000 in
set_option maxHeartbeats 4000000 in
theorem t_coder (q v n : Nat) (h : am_H) : AMo yJ0_coder_7d493 cJ0_coder_7d493 1 (some .byte) 1 [.retAddr q] q v n h (some (.int 0)) := by
  refine am_metO (by decide +kernel) (by simp [lg_sl, Value.category]) (fun x C A Z O => ?_)
  refine am_gsZ 0 C O (am_in 625 (by decide +kernel) rfl) dJ0_coder_7d493_0 ?_
  refine am_if_eq 3 13 C dJ0_coder_7d493_3 (by decide) (fun c => absurd c (by decide)) (fun _ => ?_)
  refine am_aload_nX 6 C dJ0_coder_7d493_6 rfl 0 rfl ?_
  refine am_gfC 7 C O (am_in 1831 (by decide +kernel) rfl) dJ0_coder_7d493_7 ?_
  refine am_goto 10 14 C dJ0_coder_7d493_10 (by decide) ?_
  exact am_iret 14 C Z rfl dJ0_coder_7d493_14
set_option maxRecDepth 100000 in
set_option maxHeartbeats 4000000 in
theorem t_isLatin1 (q v n : Nat) (h : am_H) : AMo yJ0_isLatin1_aae02 cJ0_isLatin1_aae02 1 (some .boolean) 1 [.retAddr q] q v n h (some (.int 1)) := by
  refine am_metO (by decide +kernel) (by simp [lg_sl, Value.category]) (fun x C A Z O => ?_)
  refine am_gsZ 0 C O (am_in 625 (by decide +kernel) rfl) dJ0_isLatin1_aae02_0 ?_
  refine am_if_eq 3 17 C dJ0_isLatin1_aae02_3 (by decide) (fun c => absurd c (by decide)) (fun _ => ?_)
  refine am_aload_nX 6 C dJ0_isLatin1_aae02_6 rfl 0 rfl ?_
  refine am_gfC 7 C O (am_in 1831 (by decide +kernel) rfl) dJ0_isLatin1_aae02_7 ?_
  refine am_if_ne 10 17 C dJ0_isLatin1_aae02_10 (by decide) (fun c => absurd rfl c) (fun _ => ?_)
  refine am_iconst 13 1 C dJ0_isLatin1_aae02_13 (by decide) ?_
  refine am_goto 14 18 C dJ0_isLatin1_aae02_14 (by decide) ?_
  exact am_iret 18 C Z rfl dJ0_isLatin1_aae02_18
set_option maxRecDepth 100000 in
set_option maxHeartbeats 4000000 in
theorem t_length (q v n : Nat) (h : am_H) : AMo yJ0_length_8abf5 cJ0_length_8abf5 1 (some .int) 2 [.retAddr q] q v n h (some (.int 127)) := by
  refine am_metO (by decide +kernel) (by simp [lg_sl, Value.category]) (fun x C A Z O => ?_)
  refine am_aload_nX 0 C dJ0_length_8abf5_0 rfl 0 rfl ?_
  refine am_gfV 1 C O (am_in 1830 (by decide +kernel) rfl) dJ0_length_8abf5_1 ?_
  refine am_tlen 4 C O dJ0_length_8abf5_4 ?_
  refine am_aload_nX 5 C dJ0_length_8abf5_5 rfl 0 rfl ?_
  refine am_callVO 6 (st := [.int 127]) (st2 := [.int 0, .int 127]) [] C (A.le (by decide) (by decide)) O (am_in 621 (by decide +kernel) rfl : Cond.methodLink "java/lang/String" 335 yJ0_coder_7d493 ∈ am_tbl) yc_J0_coder_7d493 ⟨rfl, am_in 622 (by decide +kernel) rfl, am_in 623 (by decide +kernel) rfl⟩ (t_coder q v n h) rfl rfl (Nat.le_of_ble_eq_true rfl) rfl dJ0_length_8abf5_6 ?_
  refine am_ishr 9 C dJ0_length_8abf5_9 ?_
  exact am_iret 10 C Z rfl dJ0_length_8abf5_10
theorem am_lt127 {i : Int32} (h : ¬ i < 0 ∧ i.toNatClampNeg < 127) : i < 127 := by
  obtain ⟨j, hj, rfl⟩ := nI_of h.1
  have h2 := h.2
  rw [nI_clamp hj] at h2
  exact nI_lt (b := 127) h2 (by decide)
set_option maxRecDepth 100000 in
set_option maxHeartbeats 4000000 in
theorem t_checkIndex3 (n : Nat) (h : am_H) (i : Int32) (hi : ¬ i < 0 ∧ i.toNatClampNeg < 127) (f : Value) (hf : f = .null ∨ ∃ t, f = .retAddr t) : AM yJ3_checkIndex_8e157 cJ3_checkIndex_8e157 3 (some .int) 1 0 0 [.int i, .int 127, f] n h (some (.int i), n, h) := by
  refine am_met (by decide +kernel) (by rcases hf with rfl | ⟨t, rfl⟩ <;> simp [lg_sl, Value.category]) (fun x C A Z _ => ?_)
  refine am_iload_n 0 C dJ3_checkIndex_8e157_0 rfl 0 rfl ?_
  refine am_if_lt 1 9 C dJ3_checkIndex_8e157_1 (by decide) (fun c => absurd c hi.1) (fun _ => ?_)
  refine am_iload_n 4 C dJ3_checkIndex_8e157_4 rfl 0 rfl ?_
  refine am_iload_n 5 C dJ3_checkIndex_8e157_5 rfl 1 rfl ?_
  refine am_icmp_lt 6 16 C dJ3_checkIndex_8e157_6 (by decide) (fun _ => ?_) (fun c => absurd (am_lt127 hi) c)
  refine am_iload_n 16 C dJ3_checkIndex_8e157_16 rfl 0 rfl ?_
  exact am_iret 17 C Z rfl dJ3_checkIndex_8e157_17
set_option maxRecDepth 100000 in
set_option maxHeartbeats 4000000 in
theorem t_checkIndex (q v n : Nat) (h : am_H) (i : Int32) (hi : ¬ i < 0 ∧ i.toNatClampNeg < 127) : AMo yJ0_checkIndex_df160 cJ0_checkIndex_df160 2 none 2 [.int i, .int 127] q v n h none := by
  refine am_metO (by decide +kernel) (by simp [lg_sl, Value.category]) (fun x C A Z O => ?_)
  refine am_iload_n 0 C dJ0_checkIndex_df160_0 rfl 0 rfl ?_
  refine am_iload_n 1 C dJ0_checkIndex_df160_1 rfl 1 rfl ?_
  refine am_gsF 2 C O (am_in 641 (by decide +kernel) rfl) dJ0_checkIndex_df160_2 (fun f hf => ?_)
  refine am_callS 5 (mc := 0) (ms := 0) (st := []) (st2 := [.int i]) [.int i, .int 127, f] C (A.le (by decide) (by decide)) (am_in 643 (by decide +kernel) rfl : Cond.methodLink "java/lang/String" 1059 yJ3_checkIndex_8e157 ∈ am_tbl) yc_J3_checkIndex_8e157 (am_in 644 (by decide +kernel) rfl) (t_checkIndex3 n h i hi f hf) rfl rfl rfl (Nat.le_of_ble_eq_true rfl) rfl dJ0_checkIndex_df160_5 ?_
  refine am_pop 8 C dJ0_checkIndex_df160_8 rfl ?_
  exact am_vret 9 C Z dJ0_checkIndex_df160_9
theorem am_chr {k : Nat} (hk : k < 127) : ((am_wd.getD k 0 &&& 255).toUInt32 % 65536).toInt32 = am_wd.getD k 0 := by
  revert k
  decide +kernel
theorem am_chn {k : Nat} (hk : k < 127) : narrow .char (.int (am_wd.getD k 0)) = .int (am_wd.getD k 0) := by
  revert k
  decide +kernel
set_option maxRecDepth 100000 in
set_option maxHeartbeats 4000000 in
theorem t_charAt1 (q v n : Nat) (h : am_H) (i : Int32) (hi : ¬ i < 0 ∧ i.toNatClampNeg < 127) : AMo yJ1_charAt_3b067 cJ1_charAt_3b067 2 (some .char) 3 [.retAddr v, .int i] q v n h (some (.int (am_wd.getD i.toNatClampNeg 0))) := by
  refine am_metO (by decide +kernel) (by simp [lg_sl, Value.category]) (fun x C A Z O => ?_)
  refine am_iload_n 0 C dJ1_charAt_3b067_0 rfl 1 rfl ?_
  refine am_aload_nX 1 C dJ1_charAt_3b067_1 rfl 0 rfl ?_
  refine am_tlen 2 C O dJ1_charAt_3b067_2 ?_
  refine am_callSO 3 (st := []) (st2 := []) [.int i, .int 127] C (A.le (by decide) (by decide)) O (am_in 638 (by decide +kernel) rfl : Cond.methodLink "java/lang/StringLatin1" 9 yJ0_checkIndex_df160 ∈ am_tbl) yc_J0_checkIndex_df160 (am_in 639 (by decide +kernel) rfl) (t_checkIndex q v n h i hi) rfl rfl (Nat.le_of_ble_eq_true rfl) rfl dJ1_charAt_3b067_3 ?_
  refine am_aload_nX 6 C dJ1_charAt_3b067_6 rfl 0 rfl ?_
  refine am_iload_n 7 C dJ1_charAt_3b067_7 rfl 1 rfl ?_
  refine am_tbl8 8 C O hi dJ1_charAt_3b067_8 ?_
  refine am_sipush 9 255 C dJ1_charAt_3b067_9 (by decide) ?_
  refine am_iand 12 C dJ1_charAt_3b067_12 ?_
  refine am_i2c 13 C dJ1_charAt_3b067_13 ?_
  rw [am_chr hi.2]
  exact am_iret 14 C Z (am_chn hi.2) dJ1_charAt_3b067_14
set_option maxRecDepth 100000 in
set_option maxHeartbeats 4000000 in
theorem t_charAt (q v n : Nat) (h : am_H) (i : Int32) (hi : ¬ i < 0 ∧ i.toNatClampNeg < 127) : AMo yJ0_charAt_5068e cJ0_charAt_5068e 2 (some .char) 4 [.retAddr q, .int i] q v n h (some (.int (am_wd.getD i.toNatClampNeg 0))) := by
  refine am_metO (by decide +kernel) (by simp [lg_sl, Value.category]) (fun x C A Z O => ?_)
  refine am_aload_nX 0 C dJ0_charAt_5068e_0 rfl 0 rfl ?_
  refine am_callVO 1 (st := []) (st2 := [.int 1]) [] C (A.le (by decide) (by decide)) O (am_in 631 (by decide +kernel) rfl : Cond.methodLink "java/lang/String" 492 yJ0_isLatin1_aae02 ∈ am_tbl) yc_J0_isLatin1_aae02 ⟨rfl, am_in 632 (by decide +kernel) rfl, am_in 633 (by decide +kernel) rfl⟩ (t_isLatin1 q v n h) rfl rfl (Nat.le_of_ble_eq_true rfl) rfl dJ0_charAt_5068e_1 ?_
  refine am_if_eq 4 16 C dJ0_charAt_5068e_4 (by decide) (fun c => absurd c (by decide)) (fun _ => ?_)
  refine am_aload_nX 7 C dJ0_charAt_5068e_7 rfl 0 rfl ?_
  refine am_gfV 8 C O (am_in 1830 (by decide +kernel) rfl) dJ0_charAt_5068e_8 ?_
  refine am_iload_n 11 C dJ0_charAt_5068e_11 rfl 1 rfl ?_
  refine am_callSO 12 (st := []) (st2 := [.int (am_wd.getD i.toNatClampNeg 0)]) [.retAddr v, .int i] C (A.le (by decide) (by decide)) O (am_in 635 (by decide +kernel) rfl : Cond.methodLink "java/lang/String" 495 yJ1_charAt_3b067 ∈ am_tbl) yc_J1_charAt_3b067 (am_in 636 (by decide +kernel) rfl) (t_charAt1 q v n h i hi) rfl rfl (Nat.le_of_ble_eq_true rfl) rfl dJ0_charAt_5068e_12 ?_
  exact am_iret 15 C Z (am_chn hi.2) dJ0_charAt_5068e_15
section AMY
variable {x : am_X} {cc : ByteArray} {nL d0 : Nat} {lv : List (Nat × Value)} {st : List Value} {s : am_S}
theorem am_someO (C : AC x RX7 cc nL) : ∃ q v, AO x q v := by
  obtain ⟨p, l, e, R, s, m, args, below, meth, c, b, D, cs, Q⟩ := x
  obtain ⟨q, v, h⟩ := C.2.2.2.2.2.2.2.2
  exact ⟨q, v, h⟩
/-- the text's length -/
theorem as_slen (pc : Nat) (C : AC x RX7 cc nL) (A : AR x d0 (64 * d0) 0 0) (hd : 6 ≤ d0) (hsum : (st.map fun v => v.category).sum ≤ 8) (d1 : decode cc pc = .ok (.ldc 65, 2)) (d2 : decode cc (pc + 2) = .ok (.invokevirtual 67, 3)) (kk : AX x 0 0 (pc + 5) lv (.int 127 :: st) am_N (am_h s)) : AX x 0 0 pc lv st am_N (am_h s) := by
  obtain ⟨q, v, O⟩ := am_someO C
  refine am_ldcS pc C O d1 ?_
  exact am_callVO (pc + 2) (st := st) (st2 := .int 127 :: st) [] C (A.le (show 2 + 1 ≤ d0 by omega) (by omega)) O (am_in 617 (by decide +kernel) rfl : Cond.methodLink RX7 67 yJ0_length_8abf5 ∈ am_tbl) yc_J0_length_8abf5 ⟨rfl, am_in 618 (by decide +kernel) rfl, am_in 619 (by decide +kernel) rfl⟩ (t_length q v _ _) rfl rfl hsum rfl d2 kk
/-- the text's letter at a place -/
theorem as_schr (pc : Nat) {j k : Nat} {i : Int32} (C : AC x RX7 cc nL) (A : AR x d0 (64 * d0) 0 0) (hd : 6 ≤ d0) (hsum : (st.map fun v => v.category).sum ≤ 8) (d1 : decode cc pc = .ok (.ldc 65, 2)) (d3 : decode cc (pc + 2) = .ok (.iload k, 2)) (hj : lv[j]? = some (k, .int i)) (d2 : decode cc (pc + 4) = .ok (.invokevirtual 73, 3)) (hi : ¬ i < 0 ∧ i.toNatClampNeg < 127) (kk : AX x 0 0 (pc + 7) lv (.int (am_wd.getD i.toNatClampNeg 0) :: st) am_N (am_h s)) : AX x 0 0 pc lv st am_N (am_h s) := by
  obtain ⟨q, v, O⟩ := am_someO C
  refine am_ldcS pc C O d1 ?_
  refine am_iload (pc + 2) C d3 j hj ?_
  exact am_callVO (pc + 4) (st := st) (st2 := .int (am_wd.getD i.toNatClampNeg 0) :: st) [.int i] C (A.le (show 4 + 1 ≤ d0 by omega) (by omega)) O (am_in 627 (by decide +kernel) rfl : Cond.methodLink RX7 73 yJ0_charAt_5068e ∈ am_tbl) yc_J0_charAt_5068e ⟨rfl, am_in 628 (by decide +kernel) rfl, am_in 629 (by decide +kernel) rfl⟩ (t_charAt q v _ _ i hi) rfl rfl hsum rfl d2 kk
end AMY
