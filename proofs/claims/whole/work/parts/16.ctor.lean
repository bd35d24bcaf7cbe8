section AMC
variable {x : am_X} {own : String} {cc : ByteArray} {nL ce sl n : Nat} {lv : List (Nat × Value)} {st : List Value} {h h2 : am_H}
theorem AR.lc {fr lo mc ms fr2 lo2 c2 s2 : Nat} (A : AR x fr lo mc ms) (h1 : fr2 ≤ fr) (h2 : lo2 ≤ lo) (h3 : c2 ≤ mc) (h4 : s2 ≤ ms) : AR x fr2 lo2 c2 s2 := by
  obtain ⟨p, l, e, R, s, m, args, below, meth, c, b, D, cs, Q⟩ := x
  exact ⟨Nat.le_trans h1 A.1, Nat.le_trans h2 A.2.1, Nat.le_trans h3 A.2.2.1, Nat.le_trans h4 A.2.2.2⟩
def am_ur (h : am_H) (a k q : Nat) : am_H := (h.1, h.2.1, am_up h.2.2 a k (some q))
def am_ui (h : am_H) (a k : Nat) (v : Int32) : am_H := (am_up h.1 a k v, h.2)
theorem ac_putr (pc : Nat) {idx ci k a q : Nat} {ty : FieldType} {fin : Bool} (C : AC x own cc nL) (f : AF own idx ci k 2 ty fin) (d : decode cc pc = .ok (.putfield idx, 3)) (ha : a < n) (hs : (am_sh a).1 = ci) (hn : ∀ r, narrow ty (.ref r) = .ref r) (hfit : ∀ r, fits ty (.ref r) = true) (hfin : fin = false ∨ (fin = true ∧ AI x ∧ ∃ q : vw_C, vwCl[ci]? = some q ∧ (q.2.1 k).1 = own ∧ Cond.fieldLink own idx own (q.2.1 k).2.1 (q.2.1 k).2.2.1 ∈ am_tbl)) (e : h2 = am_ur h a k q) (kk : AX x ce sl (pc + 3) lv st n h2) : AX x ce sl pc lv (.ref q :: .ref a :: st) n h := am_putr pc C f d ha hs hn hfit hfin (by subst e; exact kk)
theorem ac_puti (pc : Nat) {idx ci k a : Nat} {v : Int32} (C : AC x own cc nL) (f : AF own idx ci k 0 .int false) (d : decode cc pc = .ok (.putfield idx, 3)) (ha : a < n) (hs : (am_sh a).1 = ci) (e : h2 = am_ui h a k v) (kk : AX x ce sl (pc + 3) lv st n h2) : AX x ce sl pc lv (.int v :: .ref a :: st) n h := am_puti pc C f d ha hs rfl rfl (by subst e; exact kk)
theorem ac_aast (pc : Nat) {a kd len q ci : Nat} {i : Int32} (C : AC x own cc nL) (d : decode cc pc = .ok (.aastore, 1)) (ha : a < n) (hs : am_sh a = (kd, len)) (hk : (kd = 16 ∧ ci = 1) ∨ (kd = 17 ∧ ci = 2) ∨ (kd = 18 ∧ ci = 4)) (hin : ¬ i < 0 ∧ i.toNatClampNeg < len) (hq : q < n) (hsq : (am_sh q).1 = ci) (e : h2 = am_ur h a i.toNatClampNeg q) (kk : AX x ce sl (pc + 1) lv st n h2) : AX x ce sl pc lv (.ref q :: .int i :: .ref a :: st) n h := am_aast pc C d ha hs hk (am_vin hin) hq hsq (by subst e; exact kk)
theorem ac_callI (pc : Nat) (d2 mc ms n2 : Nat) {idx a np : Nat} {y : MethodName} {cc2 : ByteArray} {nL2 : Nat} (As : List Value) {stk : List Value} (C : AC x own cc nL) (A : AR x (d2 + 1) (64 * (d2 + 1)) (ce + mc) (sl + ms)) (L : Cond.methodLink own idx y ∈ am_tbl) (Y : AYc y cc2 nL2 none np) (V : Cond.instanceMethod y ∈ am_tbl) (hi : y.name = "<init>") (hM : AM y cc2 nL2 none d2 mc ms (.ref a :: As) n h (none, n2, h2)) (hz : n2 = n + mc) (hnp : As.length = np) (hst : stk = As.reverse ++ .ref a :: st) (hsum : (st.map fun v => v.category).sum ≤ 8) (d : decode cc pc = .ok (.invokespecial idx, 3)) (kk : AX x (ce + mc) (sl + ms) (pc + 3) lv st n2 h2) : AX x ce sl pc lv stk n h := am_callI pc (st2 := st) As C A L Y V hi hM hz hnp hst hsum rfl d kk
theorem ac_callIN (pc : Nat) (d2 mc ms n2 : Nat) {idx a np : Nat} {host : String} {y : MethodName} {cc2 : ByteArray} {nL2 : Nat} (As : List Value) {stk : List Value} (C : AC x own cc nL) (A : AR x (d2 + 1) (64 * (d2 + 1)) (ce + mc) (sl + ms)) (L : Cond.methodLinkNest own idx y host ∈ am_nest) (Y : AYc y cc2 nL2 none np) (V : Cond.instanceMethod y ∈ am_tbl) (hi : y.name = "<init>") (hM : AM y cc2 nL2 none d2 mc ms (.ref a :: As) n h (none, n2, h2)) (hz : n2 = n + mc) (hnp : As.length = np) (hst : stk = As.reverse ++ .ref a :: st) (hsum : (st.map fun v => v.category).sum ≤ 8) (d : decode cc pc = .ok (.invokespecial idx, 3)) (kk : AX x (ce + mc) (sl + ms) (pc + 3) lv st n2 h2) : AX x ce sl pc lv stk n h := am_callIN pc (st2 := st) As C A L Y V hi hM hz hnp hst hsum rfl d kk
end AMC
def am_id (v : am_H) (k : am_H → am_H) : am_H := k v
theorem am_idE {v z : am_H} {k : am_H → am_H} (E : z = am_id v k) : ∃ y, y = v ∧ z = k y := ⟨v, rfl, E⟩
def c_X7 (h : am_H) (a : Nat) (n : Nat) : am_H :=
  am_id (am_ur h a 0 n) (fun h1 => am_id (am_ur h1 a 1 (n + 1)) (fun h2 => am_id (am_ur h2 a 2 (n + 2)) (fun h3 => h3)))
set_option maxRecDepth 100000 in
set_option maxHeartbeats 8000000 in
theorem t_X7 (h : am_H) (a : Nat) (n : Nat) (ha : a < n) (Ha : am_sh a = (6, 0)) (H0 : am_sh n = (13, 401)) (H1 : am_sh (n + 1) = (13, 401)) (H2 : am_sh (n + 2) = (13, 401)) {z : am_H} (E : z = c_X7 h a n) : AM yX7_init cX7_init 1 none 2 3 1203 [.ref a] n h (none, (n + 3), z) := by
  unfold c_X7 at E
  refine am_met (by decide +kernel) (by simp [lg_sl, Value.category]) (fun x C A Z I => ?_)
  replace I := I rfl
  show AX x 0 0 0 [(0, .ref a)] [] n h
  refine am_aload_n 0 C dX7_init_0 rfl 0 rfl ?_
  refine am_objInit 1 C (A.lc (by decide) (by decide) (by decide) (by decide)) ml_X7_3 jo_1 jo_2 (Nat.le_of_ble_eq_true rfl) dX7_init_1 ?_
  refine am_aload_n 4 C dX7_init_4 rfl 0 rfl ?_
  refine am_sipush 5 (401 : Int32) C dX7_init_5 (by decide) ?_
  refine am_newa 8 (atype := .int) (kd := 13) (N := 401) C (A.lc (by decide) (by decide) (by decide) (by decide)) (Or.inr (Or.inl ⟨rfl, rfl⟩)) ca_int H0 (by decide) (by decide) (by decide) dX7_init_8 ?_
  obtain ⟨h1, eh1, E⟩ := am_idE E
  refine ac_putr 10 C fl_X7_9_6 dX7_init_10 (by omega) (congrArg Prod.fst Ha) (fun _ => rfl) (fun _ => rfl) (Or.inr ⟨rfl, I, _, rfl, rfl, am_in 157 (by decide +kernel) rfl⟩) eh1 ?_
  refine am_aload_n 13 C dX7_init_13 rfl 0 rfl ?_
  refine am_sipush 14 (401 : Int32) C dX7_init_14 (by decide) ?_
  refine am_newa 17 (atype := .int) (kd := 13) (N := 401) C (A.lc (by decide) (by decide) (by decide) (by decide)) (Or.inr (Or.inl ⟨rfl, rfl⟩)) ca_int H1 (by decide) (by decide) (by decide) dX7_init_17 ?_
  obtain ⟨h2, eh2, E⟩ := am_idE E
  refine ac_putr 19 C fl_X7_15_6 dX7_init_19 (by omega) (congrArg Prod.fst Ha) (fun _ => rfl) (fun _ => rfl) (Or.inr ⟨rfl, I, _, rfl, rfl, am_in 158 (by decide +kernel) rfl⟩) eh2 ?_
  refine am_aload_n 22 C dX7_init_22 rfl 0 rfl ?_
  refine am_sipush 23 (401 : Int32) C dX7_init_23 (by decide) ?_
  refine am_newa 26 (atype := .int) (kd := 13) (N := 401) C (A.lc (by decide) (by decide) (by decide) (by decide)) (Or.inr (Or.inl ⟨rfl, rfl⟩)) ca_int H2 (by decide) (by decide) (by decide) dX7_init_26 ?_
  obtain ⟨h3, eh3, E⟩ := am_idE E
  refine ac_putr 28 C fl_X7_18_6 dX7_init_28 (by omega) (congrArg Prod.fst Ha) (fun _ => rfl) (fun _ => rfl) (Or.inr ⟨rfl, I, _, rfl, rfl, am_in 159 (by decide +kernel) rfl⟩) eh3 ?_
  subst E
  exact am_vret 31 C Z dX7_init_31
def c_X8 (h : am_H) (a : Nat) (n : Nat) : am_H :=
  am_id (am_ur h a 4 n) (fun h1 => am_id (am_ur h1 a 5 (n + 1)) (fun h2 => am_id (am_ur h2 a 7 (n + 2)) (fun h3 => am_id (am_ur h3 a 8 (n + 3)) (fun h4 => am_id (am_ur h4 a 9 (n + 4)) (fun h5 => am_id (am_ur h5 a 11 (n + 5)) (fun h6 => am_id (am_ur h6 a 13 (n + 6)) (fun h7 => h7)))))))
set_option maxRecDepth 100000 in
set_option maxHeartbeats 8000000 in
theorem t_X8 (h : am_H) (a : Nat) (n : Nat) (ha : a < n) (Ha : am_sh a = (7, 0)) (H0 : am_sh n = (13, 7)) (H1 : am_sh (n + 1) = (13, 49)) (H2 : am_sh (n + 2) = (13, 10)) (H3 : am_sh (n + 3) = (13, 10)) (H4 : am_sh (n + 4) = (13, 7)) (H5 : am_sh (n + 5) = (13, 40)) (H6 : am_sh (n + 6) = (13, 30)) {z : am_H} (E : z = c_X8 h a n) : AM yX8_init cX8_init 1 none 2 7 153 [.ref a] n h (none, (n + 7), z) := by
  unfold c_X8 at E
  refine am_met (by decide +kernel) (by simp [lg_sl, Value.category]) (fun x C A Z I => ?_)
  replace I := I rfl
  show AX x 0 0 0 [(0, .ref a)] [] n h
  refine am_aload_n 0 C dX8_init_0 rfl 0 rfl ?_
  refine am_objInit 1 C (A.lc (by decide) (by decide) (by decide) (by decide)) ml_X8_3 jo_1 jo_2 (Nat.le_of_ble_eq_true rfl) dX8_init_1 ?_
  refine am_aload_n 4 C dX8_init_4 rfl 0 rfl ?_
  refine am_bipush 5 (7 : Int32) C dX8_init_5 (by decide) ?_
  refine am_newa 7 (atype := .int) (kd := 13) (N := 7) C (A.lc (by decide) (by decide) (by decide) (by decide)) (Or.inr (Or.inl ⟨rfl, rfl⟩)) ca_int H0 (by decide) (by decide) (by decide) dX8_init_7 ?_
  obtain ⟨h1, eh1, E⟩ := am_idE E
  refine ac_putr 9 C fl_X8_9_7 dX8_init_9 (by omega) (congrArg Prod.fst Ha) (fun _ => rfl) (fun _ => rfl) (Or.inr ⟨rfl, I, _, rfl, rfl, am_in 202 (by decide +kernel) rfl⟩) eh1 ?_
  refine am_aload_n 12 C dX8_init_12 rfl 0 rfl ?_
  refine am_bipush 13 (49 : Int32) C dX8_init_13 (by decide) ?_
  refine am_newa 15 (atype := .int) (kd := 13) (N := 49) C (A.lc (by decide) (by decide) (by decide) (by decide)) (Or.inr (Or.inl ⟨rfl, rfl⟩)) ca_int H1 (by decide) (by decide) (by decide) dX8_init_15 ?_
  obtain ⟨h2, eh2, E⟩ := am_idE E
  refine ac_putr 17 C fl_X8_15_7 dX8_init_17 (by omega) (congrArg Prod.fst Ha) (fun _ => rfl) (fun _ => rfl) (Or.inr ⟨rfl, I, _, rfl, rfl, am_in 205 (by decide +kernel) rfl⟩) eh2 ?_
  refine am_aload_n 20 C dX8_init_20 rfl 0 rfl ?_
  refine am_bipush 21 (10 : Int32) C dX8_init_21 (by decide) ?_
  refine am_newa 23 (atype := .int) (kd := 13) (N := 10) C (A.lc (by decide) (by decide) (by decide) (by decide)) (Or.inr (Or.inl ⟨rfl, rfl⟩)) ca_int H2 (by decide) (by decide) (by decide) dX8_init_23 ?_
  obtain ⟨h3, eh3, E⟩ := am_idE E
  refine ac_putr 25 C fl_X8_18_7 dX8_init_25 (by omega) (congrArg Prod.fst Ha) (fun _ => rfl) (fun _ => rfl) (Or.inr ⟨rfl, I, _, rfl, rfl, am_in 213 (by decide +kernel) rfl⟩) eh3 ?_
  refine am_aload_n 28 C dX8_init_28 rfl 0 rfl ?_
  refine am_bipush 29 (10 : Int32) C dX8_init_29 (by decide) ?_
  refine am_newa 31 (atype := .int) (kd := 13) (N := 10) C (A.lc (by decide) (by decide) (by decide) (by decide)) (Or.inr (Or.inl ⟨rfl, rfl⟩)) ca_int H3 (by decide) (by decide) (by decide) dX8_init_31 ?_
  obtain ⟨h4, eh4, E⟩ := am_idE E
  refine ac_putr 33 C fl_X8_21_7 dX8_init_33 (by omega) (congrArg Prod.fst Ha) (fun _ => rfl) (fun _ => rfl) (Or.inr ⟨rfl, I, _, rfl, rfl, am_in 215 (by decide +kernel) rfl⟩) eh4 ?_
  refine am_aload_n 36 C dX8_init_36 rfl 0 rfl ?_
  refine am_bipush 37 (7 : Int32) C dX8_init_37 (by decide) ?_
  refine am_newa 39 (atype := .int) (kd := 13) (N := 7) C (A.lc (by decide) (by decide) (by decide) (by decide)) (Or.inr (Or.inl ⟨rfl, rfl⟩)) ca_int H4 (by decide) (by decide) (by decide) dX8_init_39 ?_
  obtain ⟨h5, eh5, E⟩ := am_idE E
  refine ac_putr 41 C fl_X8_24_7 dX8_init_41 (by omega) (congrArg Prod.fst Ha) (fun _ => rfl) (fun _ => rfl) (Or.inr ⟨rfl, I, _, rfl, rfl, am_in 217 (by decide +kernel) rfl⟩) eh5 ?_
  refine am_aload_n 44 C dX8_init_44 rfl 0 rfl ?_
  refine am_bipush 45 (40 : Int32) C dX8_init_45 (by decide) ?_
  refine am_newa 47 (atype := .int) (kd := 13) (N := 40) C (A.lc (by decide) (by decide) (by decide) (by decide)) (Or.inr (Or.inl ⟨rfl, rfl⟩)) ca_int H5 (by decide) (by decide) (by decide) dX8_init_47 ?_
  obtain ⟨h6, eh6, E⟩ := am_idE E
  refine ac_putr 49 C fl_X8_27_7 dX8_init_49 (by omega) (congrArg Prod.fst Ha) (fun _ => rfl) (fun _ => rfl) (Or.inr ⟨rfl, I, _, rfl, rfl, am_in 221 (by decide +kernel) rfl⟩) eh6 ?_
  refine am_aload_n 52 C dX8_init_52 rfl 0 rfl ?_
  refine am_bipush 53 (30 : Int32) C dX8_init_53 (by decide) ?_
  refine am_newa 55 (atype := .int) (kd := 13) (N := 30) C (A.lc (by decide) (by decide) (by decide) (by decide)) (Or.inr (Or.inl ⟨rfl, rfl⟩)) ca_int H6 (by decide) (by decide) (by decide) dX8_init_55 ?_
  obtain ⟨h7, eh7, E⟩ := am_idE E
  refine ac_putr 57 C fl_X8_30_7 dX8_init_57 (by omega) (congrArg Prod.fst Ha) (fun _ => rfl) (fun _ => rfl) (Or.inr ⟨rfl, I, _, rfl, rfl, am_in 224 (by decide +kernel) rfl⟩) eh7 ?_
  subst E
  exact am_vret 60 C Z dX8_init_60
def c_X2 (h : am_H) (a : Nat) (n : Nat) : am_H :=
  am_id (am_ur h a 0 n) (fun h1 => am_id (am_ur h1 a 1 (n + 1)) (fun h2 => am_id (am_ur h2 a 2 (n + 2)) (fun h3 => am_id (am_ur h3 a 3 (n + 3)) (fun h4 => am_id (am_ui h4 a 7 (-1)) (fun h5 => h5)))))
set_option maxRecDepth 100000 in
set_option maxHeartbeats 8000000 in
theorem t_X2 (h : am_H) (a : Nat) (n : Nat) (ha : a < n) (Ha : am_sh a = (1, 0)) (H0 : am_sh n = (13, 56)) (H1 : am_sh (n + 1) = (13, 56)) (H2 : am_sh (n + 2) = (13, 56)) (H3 : am_sh (n + 3) = (13, 7)) {z : am_H} (E : z = c_X2 h a n) : AM yX2_init cX2_init 1 none 2 4 175 [.ref a] n h (none, (n + 4), z) := by
  unfold c_X2 at E
  refine am_met (by decide +kernel) (by simp [lg_sl, Value.category]) (fun x C A Z I => ?_)
  replace I := I rfl
  show AX x 0 0 0 [(0, .ref a)] [] n h
  refine am_aload_n 0 C dX2_init_0 rfl 0 rfl ?_
  refine am_objInit 1 C (A.lc (by decide) (by decide) (by decide) (by decide)) ml_X2_3 jo_1 jo_2 (Nat.le_of_ble_eq_true rfl) dX2_init_1 ?_
  refine am_aload_n 4 C dX2_init_4 rfl 0 rfl ?_
  refine am_bipush 5 (56 : Int32) C dX2_init_5 (by decide) ?_
  refine am_newa 7 (atype := .int) (kd := 13) (N := 56) C (A.lc (by decide) (by decide) (by decide) (by decide)) (Or.inr (Or.inl ⟨rfl, rfl⟩)) ca_int H0 (by decide) (by decide) (by decide) dX2_init_7 ?_
  obtain ⟨h1, eh1, E⟩ := am_idE E
  refine ac_putr 9 C fl_X2_9_1 dX2_init_9 (by omega) (congrArg Prod.fst Ha) (fun _ => rfl) (fun _ => rfl) (Or.inr ⟨rfl, I, _, rfl, rfl, am_in 281 (by decide +kernel) rfl⟩) eh1 ?_
  refine am_aload_n 12 C dX2_init_12 rfl 0 rfl ?_
  refine am_bipush 13 (56 : Int32) C dX2_init_13 (by decide) ?_
  refine am_newa 15 (atype := .int) (kd := 13) (N := 56) C (A.lc (by decide) (by decide) (by decide) (by decide)) (Or.inr (Or.inl ⟨rfl, rfl⟩)) ca_int H1 (by decide) (by decide) (by decide) dX2_init_15 ?_
  obtain ⟨h2, eh2, E⟩ := am_idE E
  refine ac_putr 17 C fl_X2_15_1 dX2_init_17 (by omega) (congrArg Prod.fst Ha) (fun _ => rfl) (fun _ => rfl) (Or.inr ⟨rfl, I, _, rfl, rfl, am_in 283 (by decide +kernel) rfl⟩) eh2 ?_
  refine am_aload_n 20 C dX2_init_20 rfl 0 rfl ?_
  refine am_bipush 21 (56 : Int32) C dX2_init_21 (by decide) ?_
  refine am_newa 23 (atype := .int) (kd := 13) (N := 56) C (A.lc (by decide) (by decide) (by decide) (by decide)) (Or.inr (Or.inl ⟨rfl, rfl⟩)) ca_int H2 (by decide) (by decide) (by decide) dX2_init_23 ?_
  obtain ⟨h3, eh3, E⟩ := am_idE E
  refine ac_putr 25 C fl_X2_18_1 dX2_init_25 (by omega) (congrArg Prod.fst Ha) (fun _ => rfl) (fun _ => rfl) (Or.inr ⟨rfl, I, _, rfl, rfl, am_in 285 (by decide +kernel) rfl⟩) eh3 ?_
  refine am_aload_n 28 C dX2_init_28 rfl 0 rfl ?_
  refine am_bipush 29 (7 : Int32) C dX2_init_29 (by decide) ?_
  refine am_newa 31 (atype := .int) (kd := 13) (N := 7) C (A.lc (by decide) (by decide) (by decide) (by decide)) (Or.inr (Or.inl ⟨rfl, rfl⟩)) ca_int H3 (by decide) (by decide) (by decide) dX2_init_31 ?_
  obtain ⟨h4, eh4, E⟩ := am_idE E
  refine ac_putr 33 C fl_X2_21_1 dX2_init_33 (by omega) (congrArg Prod.fst Ha) (fun _ => rfl) (fun _ => rfl) (Or.inr ⟨rfl, I, _, rfl, rfl, am_in 288 (by decide +kernel) rfl⟩) eh4 ?_
  refine am_aload_n 36 C dX2_init_36 rfl 0 rfl ?_
  refine am_iconst 37 (-1 : Int32) C dX2_init_37 (by decide) ?_
  obtain ⟨h5, eh5, E⟩ := am_idE E
  refine ac_puti 38 C fl_X2_24_1 dX2_init_38 (by omega) (congrArg Prod.fst Ha) eh5 ?_
  subst E
  exact am_vret 41 C Z dX2_init_41
def c_X5 (h : am_H) (a : Nat) (n : Nat) : am_H :=
  am_id (c_X8 h n (n + 1)) (fun h1 => am_id (am_ur h1 a 0 n) (fun h2 => am_id (c_X2 h2 (n + 8) (n + 9)) (fun h3 => am_id (am_ur h3 a 1 (n + 8)) (fun h4 => am_id (am_ui h4 a 2 (-1)) (fun h5 => am_id (am_ur h5 a 5 (n + 13)) (fun h6 => h6))))))
set_option maxRecDepth 100000 in
set_option maxHeartbeats 8000000 in
theorem t_X5 (h : am_H) (a : Nat) (n : Nat) (ha : a < n) (Ha : am_sh a = (4, 0)) (H0 : am_sh n = (7, 0)) (H1 : am_sh (n + 1) = (13, 7)) (H2 : am_sh (n + 2) = (13, 49)) (H3 : am_sh (n + 3) = (13, 10)) (H4 : am_sh (n + 4) = (13, 10)) (H5 : am_sh (n + 5) = (13, 7)) (H6 : am_sh (n + 6) = (13, 40)) (H7 : am_sh (n + 7) = (13, 30)) (H8 : am_sh (n + 8) = (1, 0)) (H9 : am_sh (n + 9) = (13, 56)) (H10 : am_sh (n + 10) = (13, 56)) (H11 : am_sh (n + 11) = (13, 56)) (H12 : am_sh (n + 12) = (13, 7)) (H13 : am_sh (n + 13) = (13, 36)) {z : am_H} (E : z = c_X5 h a n) : AM yX5_init cX5_init 1 none 3 14 388 [.ref a] n h (none, (n + 14), z) := by
  unfold c_X5 at E
  refine am_met (by decide +kernel) (by simp [lg_sl, Value.category]) (fun x C A Z I => ?_)
  replace I := I rfl
  show AX x 0 0 0 [(0, .ref a)] [] n h
  refine am_aload_n 0 C dX5_init_0 rfl 0 rfl ?_
  refine am_objInit 1 C (A.lc (by decide) (by decide) (by decide) (by decide)) ml_X5_3 jo_1 jo_2 (Nat.le_of_ble_eq_true rfl) dX5_init_1 ?_
  refine am_aload_n 4 C dX5_init_4 rfl 0 rfl ?_
  refine am_new 5 tyX8 C (A.lc (by decide) (by decide) (by decide) (by decide)) rfl uw_X8 tyX8_ok cl_X5_9 ci_X8 cn_X8 (congrArg Prod.fst H0) (by decide) (by decide +kernel) dX5_init_5 ?_
  refine am_dup 8 C dX5_init_8 rfl ?_
  obtain ⟨h1, eh1, E⟩ := am_idE E
  refine ac_callIN 9 2 7 153 (n + 8) (h2 := h1) (st := [.ref n, .ref a]) [] C (A.lc (by decide) (by decide) (by decide) (by decide)) mn_X5_11 yc_X8_init yi_X8_init rfl (by rw [eh1]; exact (t_X8 h n (n + 1)  (by omega) H0 H1 H2 H3 H4 H5 H6 H7 rfl)) rfl rfl rfl (Nat.le_of_ble_eq_true rfl) dX5_init_9 ?_
  obtain ⟨h2, eh2, E⟩ := am_idE E
  refine ac_putr 12 C fl_X5_12_4 dX5_init_12 (by omega) (congrArg Prod.fst Ha) (fun _ => rfl) (fun _ => rfl) (Or.inr ⟨rfl, I, _, rfl, rfl, am_in 318 (by decide +kernel) rfl⟩) eh2 ?_
  refine am_aload_n 15 C dX5_init_15 rfl 0 rfl ?_
  refine am_new 16 tyX2 C (A.lc (by decide) (by decide) (by decide) (by decide)) rfl uw_X2 tyX2_ok cl_X5_18 ci_X2 cn_X2 (congrArg Prod.fst H8) (by decide) (by decide +kernel) dX5_init_16 ?_
  refine am_dup 19 C dX5_init_19 rfl ?_
  obtain ⟨h3, eh3, E⟩ := am_idE E
  refine ac_callIN 20 2 4 175 (n + 13) (h2 := h3) (st := [.ref (n + 8), .ref a]) [] C (A.lc (by decide) (by decide) (by decide) (by decide)) mn_X5_20 yc_X2_init yi_X2_init rfl (by rw [eh3]; exact (t_X2 h2 (n + 8) (n + 9)  (by omega) H8 H9 H10 H11 H12 rfl)) rfl rfl rfl (Nat.le_of_ble_eq_true rfl) dX5_init_20 ?_
  obtain ⟨h4, eh4, E⟩ := am_idE E
  refine ac_putr 23 C fl_X5_21_4 dX5_init_23 (by omega) (congrArg Prod.fst Ha) (fun _ => rfl) (fun _ => rfl) (Or.inr ⟨rfl, I, _, rfl, rfl, am_in 321 (by decide +kernel) rfl⟩) eh4 ?_
  refine am_aload_n 26 C dX5_init_26 rfl 0 rfl ?_
  refine am_iconst 27 (-1 : Int32) C dX5_init_27 (by decide) ?_
  obtain ⟨h5, eh5, E⟩ := am_idE E
  refine ac_puti 28 C fl_X5_25_4 dX5_init_28 (by omega) (congrArg Prod.fst Ha) eh5 ?_
  refine am_aload_n 31 C dX5_init_31 rfl 0 rfl ?_
  refine am_bipush 32 (36 : Int32) C dX5_init_32 (by decide) ?_
  refine am_newa 34 (atype := .int) (kd := 13) (N := 36) C (A.lc (by decide) (by decide) (by decide) (by decide)) (Or.inr (Or.inl ⟨rfl, rfl⟩)) ca_int H13 (by decide) (by decide) (by decide) dX5_init_34 ?_
  obtain ⟨h6, eh6, E⟩ := am_idE E
  refine ac_putr 36 C fl_X5_29_4 dX5_init_36 (by omega) (congrArg Prod.fst Ha) (fun _ => rfl) (fun _ => rfl) (Or.inr ⟨rfl, I, _, rfl, rfl, am_in 330 (by decide +kernel) rfl⟩) eh6 ?_
  subst E
  exact am_vret 39 C Z dX5_init_39
def c_X3 (h : am_H) (a : Nat) (n : Nat) (q : Nat) : am_H :=
  am_id (am_ur h a 1 n) (fun h1 => am_id (am_ur h1 a 2 (n + 1)) (fun h2 => am_id (am_ur h2 a 4 (n + 2)) (fun h3 => am_id (am_ur h3 a 5 (n + 3)) (fun h4 => am_id (am_ur h4 a 6 (n + 4)) (fun h5 => am_id (am_ur h5 a 7 (n + 5)) (fun h6 => am_id (am_ur h6 a 0 q) (fun h7 => h7)))))))
set_option maxRecDepth 100000 in
set_option maxHeartbeats 8000000 in
theorem t_X3 (h : am_H) (a : Nat) (n : Nat) (q : Nat) (ha : a < n) (Ha : am_sh a = (2, 0)) (H0 : am_sh n = (13, 400)) (H1 : am_sh (n + 1) = (13, 400)) (H2 : am_sh (n + 2) = (15, 12)) (H3 : am_sh (n + 3) = (13, 12)) (H4 : am_sh (n + 4) = (13, 12)) (H5 : am_sh (n + 5) = (13, 12)) {z : am_H} (E : z = c_X3 h a n q) : AM yX3_init cX3_init 2 none 2 6 848 [.ref a, .ref q] n h (none, (n + 6), z) := by
  unfold c_X3 at E
  refine am_met (by decide +kernel) (by simp [lg_sl, Value.category]) (fun x C A Z I => ?_)
  replace I := I rfl
  show AX x 0 0 0 [(0, .ref a), (1, .ref q)] [] n h
  refine am_aload_n 0 C dX3_init_0 rfl 0 rfl ?_
  refine am_objInit 1 C (A.lc (by decide) (by decide) (by decide) (by decide)) ml_X3_3 jo_1 jo_2 (Nat.le_of_ble_eq_true rfl) dX3_init_1 ?_
  refine am_aload_n 4 C dX3_init_4 rfl 0 rfl ?_
  refine am_sipush 5 (400 : Int32) C dX3_init_5 (by decide) ?_
  refine am_newa 8 (atype := .int) (kd := 13) (N := 400) C (A.lc (by decide) (by decide) (by decide) (by decide)) (Or.inr (Or.inl ⟨rfl, rfl⟩)) ca_int H0 (by decide) (by decide) (by decide) dX3_init_8 ?_
  obtain ⟨h1, eh1, E⟩ := am_idE E
  refine ac_putr 10 C fl_X3_9_2 dX3_init_10 (by omega) (congrArg Prod.fst Ha) (fun _ => rfl) (fun _ => rfl) (Or.inr ⟨rfl, I, _, rfl, rfl, am_in 454 (by decide +kernel) rfl⟩) eh1 ?_
  refine am_aload_n 13 C dX3_init_13 rfl 0 rfl ?_
  refine am_sipush 14 (400 : Int32) C dX3_init_14 (by decide) ?_
  refine am_newa 17 (atype := .int) (kd := 13) (N := 400) C (A.lc (by decide) (by decide) (by decide) (by decide)) (Or.inr (Or.inl ⟨rfl, rfl⟩)) ca_int H1 (by decide) (by decide) (by decide) dX3_init_17 ?_
  obtain ⟨h2, eh2, E⟩ := am_idE E
  refine ac_putr 19 C fl_X3_15_2 dX3_init_19 (by omega) (congrArg Prod.fst Ha) (fun _ => rfl) (fun _ => rfl) (Or.inr ⟨rfl, I, _, rfl, rfl, am_in 455 (by decide +kernel) rfl⟩) eh2 ?_
  refine am_aload_n 22 C dX3_init_22 rfl 0 rfl ?_
  refine am_bipush 23 (12 : Int32) C dX3_init_23 (by decide) ?_
  refine am_newa 25 (atype := .boolean) (kd := 15) (N := 12) C (A.lc (by decide) (by decide) (by decide) (by decide)) (Or.inr (Or.inr (Or.inr ⟨rfl, rfl⟩))) ca_boolean H2 (by decide) (by decide) (by decide) dX3_init_25 ?_
  obtain ⟨h3, eh3, E⟩ := am_idE E
  refine ac_putr 27 C fl_X3_18_2 dX3_init_27 (by omega) (congrArg Prod.fst Ha) (fun _ => rfl) (fun _ => rfl) (Or.inr ⟨rfl, I, _, rfl, rfl, am_in 458 (by decide +kernel) rfl⟩) eh3 ?_
  refine am_aload_n 30 C dX3_init_30 rfl 0 rfl ?_
  refine am_bipush 31 (12 : Int32) C dX3_init_31 (by decide) ?_
  refine am_newa 33 (atype := .int) (kd := 13) (N := 12) C (A.lc (by decide) (by decide) (by decide) (by decide)) (Or.inr (Or.inl ⟨rfl, rfl⟩)) ca_int H3 (by decide) (by decide) (by decide) dX3_init_33 ?_
  obtain ⟨h4, eh4, E⟩ := am_idE E
  refine ac_putr 35 C fl_X3_22_2 dX3_init_35 (by omega) (congrArg Prod.fst Ha) (fun _ => rfl) (fun _ => rfl) (Or.inr ⟨rfl, I, _, rfl, rfl, am_in 459 (by decide +kernel) rfl⟩) eh4 ?_
  refine am_aload_n 38 C dX3_init_38 rfl 0 rfl ?_
  refine am_bipush 39 (12 : Int32) C dX3_init_39 (by decide) ?_
  refine am_newa 41 (atype := .int) (kd := 13) (N := 12) C (A.lc (by decide) (by decide) (by decide) (by decide)) (Or.inr (Or.inl ⟨rfl, rfl⟩)) ca_int H4 (by decide) (by decide) (by decide) dX3_init_41 ?_
  obtain ⟨h5, eh5, E⟩ := am_idE E
  refine ac_putr 43 C fl_X3_25_2 dX3_init_43 (by omega) (congrArg Prod.fst Ha) (fun _ => rfl) (fun _ => rfl) (Or.inr ⟨rfl, I, _, rfl, rfl, am_in 460 (by decide +kernel) rfl⟩) eh5 ?_
  refine am_aload_n 46 C dX3_init_46 rfl 0 rfl ?_
  refine am_bipush 47 (12 : Int32) C dX3_init_47 (by decide) ?_
  refine am_newa 49 (atype := .int) (kd := 13) (N := 12) C (A.lc (by decide) (by decide) (by decide) (by decide)) (Or.inr (Or.inl ⟨rfl, rfl⟩)) ca_int H5 (by decide) (by decide) (by decide) dX3_init_49 ?_
  obtain ⟨h6, eh6, E⟩ := am_idE E
  refine ac_putr 51 C fl_X3_28_2 dX3_init_51 (by omega) (congrArg Prod.fst Ha) (fun _ => rfl) (fun _ => rfl) (Or.inr ⟨rfl, I, _, rfl, rfl, am_in 461 (by decide +kernel) rfl⟩) eh6 ?_
  refine am_aload_n 54 C dX3_init_54 rfl 0 rfl ?_
  refine am_aload_n 55 C dX3_init_55 rfl 1 rfl ?_
  obtain ⟨h7, eh7, E⟩ := am_idE E
  refine ac_putr 56 C fl_X3_31_2 dX3_init_56 (by omega) (congrArg Prod.fst Ha) (fun _ => rfl) (fun _ => rfl) (Or.inr ⟨rfl, I, _, rfl, rfl, am_in 453 (by decide +kernel) rfl⟩) eh7 ?_
  subst E
  exact am_vret 59 C Z dX3_init_59
def c_X6 (h : am_H) (a : Nat) (q : Nat) (r : Nat) : am_H :=
  am_id (am_ur h a 0 q) (fun h1 => am_id (am_ur h1 a 1 r) (fun h2 => h2))
set_option maxRecDepth 100000 in
set_option maxHeartbeats 8000000 in
theorem t_X6 (h : am_H) (a : Nat) (n : Nat) (q : Nat) (r : Nat) (ha : a < n) (Ha : am_sh a = (5, 0)) {z : am_H} (E : z = c_X6 h a q r) : AM yX6_init cX6_init 3 none 2 0 0 [.ref a, .ref q, .ref r] n h (none, n, z) := by
  unfold c_X6 at E
  refine am_met (by decide +kernel) (by simp [lg_sl, Value.category]) (fun x C A Z I => ?_)
  replace I := I rfl
  show AX x 0 0 0 [(0, .ref a), (1, .ref q), (2, .ref r)] [] n h
  refine am_aload_n 0 C dX6_init_0 rfl 0 rfl ?_
  refine am_objInit 1 C (A.lc (by decide) (by decide) (by decide) (by decide)) ml_X6_3 jo_1 jo_2 (Nat.le_of_ble_eq_true rfl) dX6_init_1 ?_
  refine am_aload_n 4 C dX6_init_4 rfl 0 rfl ?_
  refine am_aload_n 5 C dX6_init_5 rfl 1 rfl ?_
  obtain ⟨h1, eh1, E⟩ := am_idE E
  refine ac_putr 6 C fl_X6_9_5 dX6_init_6 (by omega) (congrArg Prod.fst Ha) (fun _ => rfl) (fun _ => rfl) (Or.inr ⟨rfl, I, _, rfl, rfl, am_in 383 (by decide +kernel) rfl⟩) eh1 ?_
  refine am_aload_n 9 C dX6_init_9 rfl 0 rfl ?_
  refine am_aload_n 10 C dX6_init_10 rfl 2 rfl ?_
  obtain ⟨h2, eh2, E⟩ := am_idE E
  refine ac_putr 11 C fl_X6_15_5 dX6_init_11 (by omega) (congrArg Prod.fst Ha) (fun _ => rfl) (fun _ => rfl) (Or.inl rfl) eh2 ?_
  subst E
  exact am_vret 14 C Z dX6_init_14
def c_X10 (h : am_H) (a : Nat) (n : Nat) : am_H :=
  am_id (am_ur h a 5 n) (fun h1 => h1)
set_option maxRecDepth 100000 in
set_option maxHeartbeats 8000000 in
theorem t_X10 (h : am_H) (a : Nat) (n : Nat) (ha : a < n) (Ha : am_sh a = (9, 0)) (H0 : am_sh n = (13, 8)) {z : am_H} (E : z = c_X10 h a n) : AM yX10_init cX10_init 1 none 2 1 8 [.ref a] n h (none, (n + 1), z) := by
  unfold c_X10 at E
  refine am_met (by decide +kernel) (by simp [lg_sl, Value.category]) (fun x C A Z I => ?_)
  replace I := I rfl
  show AX x 0 0 0 [(0, .ref a)] [] n h
  refine am_aload_n 0 C dX10_init_0 rfl 0 rfl ?_
  refine am_objInit 1 C (A.lc (by decide) (by decide) (by decide) (by decide)) ml_X10_3 jo_1 jo_2 (Nat.le_of_ble_eq_true rfl) dX10_init_1 ?_
  refine am_aload_n 4 C dX10_init_4 rfl 0 rfl ?_
  refine am_bipush 5 (8 : Int32) C dX10_init_5 (by decide) ?_
  refine am_newa 7 (atype := .int) (kd := 13) (N := 8) C (A.lc (by decide) (by decide) (by decide) (by decide)) (Or.inr (Or.inl ⟨rfl, rfl⟩)) ca_int H0 (by decide) (by decide) (by decide) dX10_init_7 ?_
  obtain ⟨h1, eh1, E⟩ := am_idE E
  refine ac_putr 9 C fl_X10_9_9 dX10_init_9 (by omega) (congrArg Prod.fst Ha) (fun _ => rfl) (fun _ => rfl) (Or.inr ⟨rfl, I, _, rfl, rfl, am_in 432 (by decide +kernel) rfl⟩) eh1 ?_
  subst E
  exact am_vret 12 C Z dX10_init_12
def c_X0 (h : am_H)  : am_H :=
  am_id (am_ur h 32 0 33) (fun h1 => am_id (c_X2 h1 34 35) (fun h2 => am_id (am_ur h2 33 0 34) (fun h3 => am_id (c_X2 h3 39 40) (fun h4 => am_id (am_ur h4 33 1 39) (fun h5 => am_id (c_X2 h5 44 45) (fun h6 => am_id (am_ur h6 33 2 44) (fun h7 => am_id (c_X2 h7 49 50) (fun h8 => am_id (am_ur h8 33 3 49) (fun h9 => am_id (c_X2 h9 54 55) (fun h10 => am_id (am_ur h10 33 4 54) (fun h11 => am_id (c_X2 h11 59 60) (fun h12 => am_id (am_ur h12 33 5 59) (fun h13 => am_id (c_X2 h13 64 65) (fun h14 => am_id (am_ur h14 33 6 64) (fun h15 => am_id (c_X2 h15 69 70) (fun h16 => am_id (am_ur h16 33 7 69) (fun h17 => am_id (c_X2 h17 74 75) (fun h18 => am_id (am_ur h18 33 8 74) (fun h19 => am_id (c_X2 h19 79 80) (fun h20 => am_id (am_ur h20 33 9 79) (fun h21 => am_id (c_X2 h21 84 85) (fun h22 => am_id (am_ur h22 33 10 84) (fun h23 => am_id (c_X2 h23 89 90) (fun h24 => am_id (am_ur h24 33 11 89) (fun h25 => am_id (c_X2 h25 94 95) (fun h26 => am_id (am_ur h26 33 12 94) (fun h27 => am_id (c_X2 h27 99 100) (fun h28 => am_id (am_ur h28 33 13 99) (fun h29 => am_id (c_X2 h29 104 105) (fun h30 => am_id (am_ur h30 33 14 104) (fun h31 => am_id (c_X2 h31 109 110) (fun h32 => am_id (am_ur h32 33 15 109) (fun h33 => am_id (c_X2 h33 114 115) (fun h34 => am_id (am_ur h34 33 16 114) (fun h35 => am_id (c_X2 h35 119 120) (fun h36 => am_id (am_ur h36 33 17 119) (fun h37 => am_id (c_X2 h37 124 125) (fun h38 => am_id (am_ur h38 33 18 124) (fun h39 => am_id (c_X2 h39 129 130) (fun h40 => am_id (am_ur h40 33 19 129) (fun h41 => h41)))))))))))))))))))))))))))))))))))))))))
set_option maxRecDepth 100000 in
set_option maxHeartbeats 8000000 in
theorem t_X0 (h : am_H)  {z : am_H} (E : z = c_X0 h) : AM yX0_init cX0_init 2 none 3 101 3680 [.ref 32] 33 h (none, 134, z) := by
  unfold c_X0 at E
  refine am_met (by decide +kernel) (by simp [lg_sl, Value.category]) (fun x C A Z I => ?_)
  replace I := I rfl
  show AX x 0 0 0 [(0, .ref 32)] [] 33 h
  refine am_aload_n 0 C dX0_init_0 rfl 0 rfl ?_
  refine am_objInit 1 C (A.lc (by decide) (by decide) (by decide) (by decide)) ml_X0_3 jo_1 jo_2 (Nat.le_of_ble_eq_true rfl) dX0_init_1 ?_
  refine am_aload_n 4 C dX0_init_4 rfl 0 rfl ?_
  refine am_bipush 5 (20 : Int32) C dX0_init_5 (by decide) ?_
  refine am_newq 7 (kd := 16) (N := 20) C (A.lc (by decide) (by decide) (by decide) (by decide)) (Or.inl ⟨rfl, rfl⟩) cl_X0_9 co_X2 sh_33 (by decide) (by decide) (by decide) dX0_init_7 ?_
  obtain ⟨h1, eh1, E⟩ := am_idE E
  refine ac_putr 10 C fl_X0_11_0 dX0_init_10 (by decide) (congrArg Prod.fst sh_32) (fun _ => rfl) (fun _ => rfl) (Or.inr ⟨rfl, I, _, rfl, rfl, am_in 365 (by decide +kernel) rfl⟩) eh1 ?_
  refine am_iconst 13 (0 : Int32) C dX0_init_13 (by decide) ?_
  refine am_istore_n 14 (lv2 := [(1, .int (0 : Int32)), (0, .ref 32)]) C dX0_init_14 rfl (by decide) rfl ?_
  refine am_iload_n 15 C dX0_init_15 rfl 0 rfl ?_
  refine am_bipush 16 (20 : Int32) C dX0_init_16 (by decide) ?_
  refine am_icmp_ge 18 40 C dX0_init_18 (by decide) (fun q => absurd q (by decide)) (fun _ => ?_)
  refine am_aload_n 21 C dX0_init_21 rfl 1 rfl ?_
  refine am_getr 22 33 C fl_X0_11_0 dX0_init_22 (by decide) (congrArg Prod.fst sh_32) (by simp [eh1, am_ur, am_ui, am_up, c_X7, c_X8, c_X2, c_X5, c_X3, c_X6, c_X10, am_id]) ?_
  refine am_iload_n 25 C dX0_init_25 rfl 0 rfl ?_
  refine am_new 26 tyX2 C (A.lc (by decide) (by decide) (by decide) (by decide)) rfl uw_X2 tyX2_ok cl_X0_9 ci_X2 cn_X2 (congrArg Prod.fst sh_34) (by decide) (by decide +kernel) dX0_init_26 ?_
  refine am_dup 29 C dX0_init_29 rfl ?_
  obtain ⟨h2, eh2, E⟩ := am_idE E
  refine ac_callIN 30 2 4 175 39 (h2 := h2) (st := [.ref 34, .int (0 : Int32), .ref 33]) [] C (A.lc (by decide) (by decide) (by decide) (by decide)) mn_X0_17 yc_X2_init yi_X2_init rfl (by rw [eh2]; exact (t_X2 h1 34 35  (by decide) sh_34 sh_35 sh_36 sh_37 sh_38 rfl)) rfl rfl rfl (Nat.le_of_ble_eq_true rfl) dX0_init_30 ?_
  obtain ⟨h3, eh3, E⟩ := am_idE E
  refine ac_aast 33 (h2 := h3) C dX0_init_33 (by decide) sh_33 (Or.inl ⟨rfl, rfl⟩) (by decide) (by decide) (congrArg Prod.fst sh_34) eh3 ?_
  refine am_iinc 34 (1 : Int32) (lv2 := [(1, .int (1 : Int32)), (0, .ref 32)]) C dX0_init_34 0 rfl (by decide) (by decide) rfl ?_
  refine am_goto 37 15 C dX0_init_37 (by decide) ?_
  refine am_iload_n 15 C dX0_init_15 rfl 0 rfl ?_
  refine am_bipush 16 (20 : Int32) C dX0_init_16 (by decide) ?_
  refine am_icmp_ge 18 40 C dX0_init_18 (by decide) (fun q => absurd q (by decide)) (fun _ => ?_)
  refine am_aload_n 21 C dX0_init_21 rfl 1 rfl ?_
  refine am_getr 22 33 C fl_X0_11_0 dX0_init_22 (by decide) (congrArg Prod.fst sh_32) (by simp [eh3, eh2, eh1, am_ur, am_ui, am_up, c_X7, c_X8, c_X2, c_X5, c_X3, c_X6, c_X10, am_id]) ?_
  refine am_iload_n 25 C dX0_init_25 rfl 0 rfl ?_
  refine am_new 26 tyX2 C (A.lc (by decide) (by decide) (by decide) (by decide)) rfl uw_X2 tyX2_ok cl_X0_9 ci_X2 cn_X2 (congrArg Prod.fst sh_39) (by decide) (by decide +kernel) dX0_init_26 ?_
  refine am_dup 29 C dX0_init_29 rfl ?_
  obtain ⟨h4, eh4, E⟩ := am_idE E
  refine ac_callIN 30 2 4 175 44 (h2 := h4) (st := [.ref 39, .int (1 : Int32), .ref 33]) [] C (A.lc (by decide) (by decide) (by decide) (by decide)) mn_X0_17 yc_X2_init yi_X2_init rfl (by rw [eh4]; exact (t_X2 h3 39 40  (by decide) sh_39 sh_40 sh_41 sh_42 sh_43 rfl)) rfl rfl rfl (Nat.le_of_ble_eq_true rfl) dX0_init_30 ?_
  obtain ⟨h5, eh5, E⟩ := am_idE E
  refine ac_aast 33 (h2 := h5) C dX0_init_33 (by decide) sh_33 (Or.inl ⟨rfl, rfl⟩) (by decide) (by decide) (congrArg Prod.fst sh_39) eh5 ?_
  refine am_iinc 34 (2 : Int32) (lv2 := [(1, .int (2 : Int32)), (0, .ref 32)]) C dX0_init_34 0 rfl (by decide) (by decide) rfl ?_
  refine am_goto 37 15 C dX0_init_37 (by decide) ?_
  refine am_iload_n 15 C dX0_init_15 rfl 0 rfl ?_
  refine am_bipush 16 (20 : Int32) C dX0_init_16 (by decide) ?_
  refine am_icmp_ge 18 40 C dX0_init_18 (by decide) (fun q => absurd q (by decide)) (fun _ => ?_)
  refine am_aload_n 21 C dX0_init_21 rfl 1 rfl ?_
  refine am_getr 22 33 C fl_X0_11_0 dX0_init_22 (by decide) (congrArg Prod.fst sh_32) (by simp [eh5, eh4, eh3, eh2, eh1, am_ur, am_ui, am_up, c_X7, c_X8, c_X2, c_X5, c_X3, c_X6, c_X10, am_id]) ?_
  refine am_iload_n 25 C dX0_init_25 rfl 0 rfl ?_
  refine am_new 26 tyX2 C (A.lc (by decide) (by decide) (by decide) (by decide)) rfl uw_X2 tyX2_ok cl_X0_9 ci_X2 cn_X2 (congrArg Prod.fst sh_44) (by decide) (by decide +kernel) dX0_init_26 ?_
  refine am_dup 29 C dX0_init_29 rfl ?_
  obtain ⟨h6, eh6, E⟩ := am_idE E
  refine ac_callIN 30 2 4 175 49 (h2 := h6) (st := [.ref 44, .int (2 : Int32), .ref 33]) [] C (A.lc (by decide) (by decide) (by decide) (by decide)) mn_X0_17 yc_X2_init yi_X2_init rfl (by rw [eh6]; exact (t_X2 h5 44 45  (by decide) sh_44 sh_45 sh_46 sh_47 sh_48 rfl)) rfl rfl rfl (Nat.le_of_ble_eq_true rfl) dX0_init_30 ?_
  obtain ⟨h7, eh7, E⟩ := am_idE E
  refine ac_aast 33 (h2 := h7) C dX0_init_33 (by decide) sh_33 (Or.inl ⟨rfl, rfl⟩) (by decide) (by decide) (congrArg Prod.fst sh_44) eh7 ?_
  refine am_iinc 34 (3 : Int32) (lv2 := [(1, .int (3 : Int32)), (0, .ref 32)]) C dX0_init_34 0 rfl (by decide) (by decide) rfl ?_
  refine am_goto 37 15 C dX0_init_37 (by decide) ?_
  refine am_iload_n 15 C dX0_init_15 rfl 0 rfl ?_
  refine am_bipush 16 (20 : Int32) C dX0_init_16 (by decide) ?_
  refine am_icmp_ge 18 40 C dX0_init_18 (by decide) (fun q => absurd q (by decide)) (fun _ => ?_)
  refine am_aload_n 21 C dX0_init_21 rfl 1 rfl ?_
  refine am_getr 22 33 C fl_X0_11_0 dX0_init_22 (by decide) (congrArg Prod.fst sh_32) (by simp [eh7, eh6, eh5, eh4, eh3, eh2, eh1, am_ur, am_ui, am_up, c_X7, c_X8, c_X2, c_X5, c_X3, c_X6, c_X10, am_id]) ?_
  refine am_iload_n 25 C dX0_init_25 rfl 0 rfl ?_
  refine am_new 26 tyX2 C (A.lc (by decide) (by decide) (by decide) (by decide)) rfl uw_X2 tyX2_ok cl_X0_9 ci_X2 cn_X2 (congrArg Prod.fst sh_49) (by decide) (by decide +kernel) dX0_init_26 ?_
  refine am_dup 29 C dX0_init_29 rfl ?_
  obtain ⟨h8, eh8, E⟩ := am_idE E
  refine ac_callIN 30 2 4 175 54 (h2 := h8) (st := [.ref 49, .int (3 : Int32), .ref 33]) [] C (A.lc (by decide) (by decide) (by decide) (by decide)) mn_X0_17 yc_X2_init yi_X2_init rfl (by rw [eh8]; exact (t_X2 h7 49 50  (by decide) sh_49 sh_50 sh_51 sh_52 sh_53 rfl)) rfl rfl rfl (Nat.le_of_ble_eq_true rfl) dX0_init_30 ?_
  obtain ⟨h9, eh9, E⟩ := am_idE E
  refine ac_aast 33 (h2 := h9) C dX0_init_33 (by decide) sh_33 (Or.inl ⟨rfl, rfl⟩) (by decide) (by decide) (congrArg Prod.fst sh_49) eh9 ?_
  refine am_iinc 34 (4 : Int32) (lv2 := [(1, .int (4 : Int32)), (0, .ref 32)]) C dX0_init_34 0 rfl (by decide) (by decide) rfl ?_
  refine am_goto 37 15 C dX0_init_37 (by decide) ?_
  refine am_iload_n 15 C dX0_init_15 rfl 0 rfl ?_
  refine am_bipush 16 (20 : Int32) C dX0_init_16 (by decide) ?_
  refine am_icmp_ge 18 40 C dX0_init_18 (by decide) (fun q => absurd q (by decide)) (fun _ => ?_)
  refine am_aload_n 21 C dX0_init_21 rfl 1 rfl ?_
  refine am_getr 22 33 C fl_X0_11_0 dX0_init_22 (by decide) (congrArg Prod.fst sh_32) (by simp [eh9, eh8, eh7, eh6, eh5, eh4, eh3, eh2, eh1, am_ur, am_ui, am_up, c_X7, c_X8, c_X2, c_X5, c_X3, c_X6, c_X10, am_id]) ?_
  refine am_iload_n 25 C dX0_init_25 rfl 0 rfl ?_
  refine am_new 26 tyX2 C (A.lc (by decide) (by decide) (by decide) (by decide)) rfl uw_X2 tyX2_ok cl_X0_9 ci_X2 cn_X2 (congrArg Prod.fst sh_54) (by decide) (by decide +kernel) dX0_init_26 ?_
  refine am_dup 29 C dX0_init_29 rfl ?_
  obtain ⟨h10, eh10, E⟩ := am_idE E
  refine ac_callIN 30 2 4 175 59 (h2 := h10) (st := [.ref 54, .int (4 : Int32), .ref 33]) [] C (A.lc (by decide) (by decide) (by decide) (by decide)) mn_X0_17 yc_X2_init yi_X2_init rfl (by rw [eh10]; exact (t_X2 h9 54 55  (by decide) sh_54 sh_55 sh_56 sh_57 sh_58 rfl)) rfl rfl rfl (Nat.le_of_ble_eq_true rfl) dX0_init_30 ?_
  obtain ⟨h11, eh11, E⟩ := am_idE E
  refine ac_aast 33 (h2 := h11) C dX0_init_33 (by decide) sh_33 (Or.inl ⟨rfl, rfl⟩) (by decide) (by decide) (congrArg Prod.fst sh_54) eh11 ?_
  refine am_iinc 34 (5 : Int32) (lv2 := [(1, .int (5 : Int32)), (0, .ref 32)]) C dX0_init_34 0 rfl (by decide) (by decide) rfl ?_
  refine am_goto 37 15 C dX0_init_37 (by decide) ?_
  refine am_iload_n 15 C dX0_init_15 rfl 0 rfl ?_
  refine am_bipush 16 (20 : Int32) C dX0_init_16 (by decide) ?_
  refine am_icmp_ge 18 40 C dX0_init_18 (by decide) (fun q => absurd q (by decide)) (fun _ => ?_)
  refine am_aload_n 21 C dX0_init_21 rfl 1 rfl ?_
  refine am_getr 22 33 C fl_X0_11_0 dX0_init_22 (by decide) (congrArg Prod.fst sh_32) (by simp [eh11, eh10, eh9, eh8, eh7, eh6, eh5, eh4, eh3, eh2, eh1, am_ur, am_ui, am_up, c_X7, c_X8, c_X2, c_X5, c_X3, c_X6, c_X10, am_id]) ?_
  refine am_iload_n 25 C dX0_init_25 rfl 0 rfl ?_
  refine am_new 26 tyX2 C (A.lc (by decide) (by decide) (by decide) (by decide)) rfl uw_X2 tyX2_ok cl_X0_9 ci_X2 cn_X2 (congrArg Prod.fst sh_59) (by decide) (by decide +kernel) dX0_init_26 ?_
  refine am_dup 29 C dX0_init_29 rfl ?_
  obtain ⟨h12, eh12, E⟩ := am_idE E
  refine ac_callIN 30 2 4 175 64 (h2 := h12) (st := [.ref 59, .int (5 : Int32), .ref 33]) [] C (A.lc (by decide) (by decide) (by decide) (by decide)) mn_X0_17 yc_X2_init yi_X2_init rfl (by rw [eh12]; exact (t_X2 h11 59 60  (by decide) sh_59 sh_60 sh_61 sh_62 sh_63 rfl)) rfl rfl rfl (Nat.le_of_ble_eq_true rfl) dX0_init_30 ?_
  obtain ⟨h13, eh13, E⟩ := am_idE E
  refine ac_aast 33 (h2 := h13) C dX0_init_33 (by decide) sh_33 (Or.inl ⟨rfl, rfl⟩) (by decide) (by decide) (congrArg Prod.fst sh_59) eh13 ?_
  refine am_iinc 34 (6 : Int32) (lv2 := [(1, .int (6 : Int32)), (0, .ref 32)]) C dX0_init_34 0 rfl (by decide) (by decide) rfl ?_
  refine am_goto 37 15 C dX0_init_37 (by decide) ?_
  refine am_iload_n 15 C dX0_init_15 rfl 0 rfl ?_
  refine am_bipush 16 (20 : Int32) C dX0_init_16 (by decide) ?_
  refine am_icmp_ge 18 40 C dX0_init_18 (by decide) (fun q => absurd q (by decide)) (fun _ => ?_)
  refine am_aload_n 21 C dX0_init_21 rfl 1 rfl ?_
  refine am_getr 22 33 C fl_X0_11_0 dX0_init_22 (by decide) (congrArg Prod.fst sh_32) (by simp [eh13, eh12, eh11, eh10, eh9, eh8, eh7, eh6, eh5, eh4, eh3, eh2, eh1, am_ur, am_ui, am_up, c_X7, c_X8, c_X2, c_X5, c_X3, c_X6, c_X10, am_id]) ?_
  refine am_iload_n 25 C dX0_init_25 rfl 0 rfl ?_
  refine am_new 26 tyX2 C (A.lc (by decide) (by decide) (by decide) (by decide)) rfl uw_X2 tyX2_ok cl_X0_9 ci_X2 cn_X2 (congrArg Prod.fst sh_64) (by decide) (by decide +kernel) dX0_init_26 ?_
  refine am_dup 29 C dX0_init_29 rfl ?_
  obtain ⟨h14, eh14, E⟩ := am_idE E
  refine ac_callIN 30 2 4 175 69 (h2 := h14) (st := [.ref 64, .int (6 : Int32), .ref 33]) [] C (A.lc (by decide) (by decide) (by decide) (by decide)) mn_X0_17 yc_X2_init yi_X2_init rfl (by rw [eh14]; exact (t_X2 h13 64 65  (by decide) sh_64 sh_65 sh_66 sh_67 sh_68 rfl)) rfl rfl rfl (Nat.le_of_ble_eq_true rfl) dX0_init_30 ?_
  obtain ⟨h15, eh15, E⟩ := am_idE E
  refine ac_aast 33 (h2 := h15) C dX0_init_33 (by decide) sh_33 (Or.inl ⟨rfl, rfl⟩) (by decide) (by decide) (congrArg Prod.fst sh_64) eh15 ?_
  refine am_iinc 34 (7 : Int32) (lv2 := [(1, .int (7 : Int32)), (0, .ref 32)]) C dX0_init_34 0 rfl (by decide) (by decide) rfl ?_
  refine am_goto 37 15 C dX0_init_37 (by decide) ?_
  refine am_iload_n 15 C dX0_init_15 rfl 0 rfl ?_
  refine am_bipush 16 (20 : Int32) C dX0_init_16 (by decide) ?_
  refine am_icmp_ge 18 40 C dX0_init_18 (by decide) (fun q => absurd q (by decide)) (fun _ => ?_)
  refine am_aload_n 21 C dX0_init_21 rfl 1 rfl ?_
  refine am_getr 22 33 C fl_X0_11_0 dX0_init_22 (by decide) (congrArg Prod.fst sh_32) (by simp [eh15, eh14, eh13, eh12, eh11, eh10, eh9, eh8, eh7, eh6, eh5, eh4, eh3, eh2, eh1, am_ur, am_ui, am_up, c_X7, c_X8, c_X2, c_X5, c_X3, c_X6, c_X10, am_id]) ?_
  refine am_iload_n 25 C dX0_init_25 rfl 0 rfl ?_
  refine am_new 26 tyX2 C (A.lc (by decide) (by decide) (by decide) (by decide)) rfl uw_X2 tyX2_ok cl_X0_9 ci_X2 cn_X2 (congrArg Prod.fst sh_69) (by decide) (by decide +kernel) dX0_init_26 ?_
  refine am_dup 29 C dX0_init_29 rfl ?_
  obtain ⟨h16, eh16, E⟩ := am_idE E
  refine ac_callIN 30 2 4 175 74 (h2 := h16) (st := [.ref 69, .int (7 : Int32), .ref 33]) [] C (A.lc (by decide) (by decide) (by decide) (by decide)) mn_X0_17 yc_X2_init yi_X2_init rfl (by rw [eh16]; exact (t_X2 h15 69 70  (by decide) sh_69 sh_70 sh_71 sh_72 sh_73 rfl)) rfl rfl rfl (Nat.le_of_ble_eq_true rfl) dX0_init_30 ?_
  obtain ⟨h17, eh17, E⟩ := am_idE E
  refine ac_aast 33 (h2 := h17) C dX0_init_33 (by decide) sh_33 (Or.inl ⟨rfl, rfl⟩) (by decide) (by decide) (congrArg Prod.fst sh_69) eh17 ?_
  refine am_iinc 34 (8 : Int32) (lv2 := [(1, .int (8 : Int32)), (0, .ref 32)]) C dX0_init_34 0 rfl (by decide) (by decide) rfl ?_
  refine am_goto 37 15 C dX0_init_37 (by decide) ?_
  refine am_iload_n 15 C dX0_init_15 rfl 0 rfl ?_
  refine am_bipush 16 (20 : Int32) C dX0_init_16 (by decide) ?_
  refine am_icmp_ge 18 40 C dX0_init_18 (by decide) (fun q => absurd q (by decide)) (fun _ => ?_)
  refine am_aload_n 21 C dX0_init_21 rfl 1 rfl ?_
  refine am_getr 22 33 C fl_X0_11_0 dX0_init_22 (by decide) (congrArg Prod.fst sh_32) (by simp [eh17, eh16, eh15, eh14, eh13, eh12, eh11, eh10, eh9, eh8, eh7, eh6, eh5, eh4, eh3, eh2, eh1, am_ur, am_ui, am_up, c_X7, c_X8, c_X2, c_X5, c_X3, c_X6, c_X10, am_id]) ?_
  refine am_iload_n 25 C dX0_init_25 rfl 0 rfl ?_
  refine am_new 26 tyX2 C (A.lc (by decide) (by decide) (by decide) (by decide)) rfl uw_X2 tyX2_ok cl_X0_9 ci_X2 cn_X2 (congrArg Prod.fst sh_74) (by decide) (by decide +kernel) dX0_init_26 ?_
  refine am_dup 29 C dX0_init_29 rfl ?_
  obtain ⟨h18, eh18, E⟩ := am_idE E
  refine ac_callIN 30 2 4 175 79 (h2 := h18) (st := [.ref 74, .int (8 : Int32), .ref 33]) [] C (A.lc (by decide) (by decide) (by decide) (by decide)) mn_X0_17 yc_X2_init yi_X2_init rfl (by rw [eh18]; exact (t_X2 h17 74 75  (by decide) sh_74 sh_75 sh_76 sh_77 sh_78 rfl)) rfl rfl rfl (Nat.le_of_ble_eq_true rfl) dX0_init_30 ?_
  obtain ⟨h19, eh19, E⟩ := am_idE E
  refine ac_aast 33 (h2 := h19) C dX0_init_33 (by decide) sh_33 (Or.inl ⟨rfl, rfl⟩) (by decide) (by decide) (congrArg Prod.fst sh_74) eh19 ?_
  refine am_iinc 34 (9 : Int32) (lv2 := [(1, .int (9 : Int32)), (0, .ref 32)]) C dX0_init_34 0 rfl (by decide) (by decide) rfl ?_
  refine am_goto 37 15 C dX0_init_37 (by decide) ?_
  refine am_iload_n 15 C dX0_init_15 rfl 0 rfl ?_
  refine am_bipush 16 (20 : Int32) C dX0_init_16 (by decide) ?_
  refine am_icmp_ge 18 40 C dX0_init_18 (by decide) (fun q => absurd q (by decide)) (fun _ => ?_)
  refine am_aload_n 21 C dX0_init_21 rfl 1 rfl ?_
  refine am_getr 22 33 C fl_X0_11_0 dX0_init_22 (by decide) (congrArg Prod.fst sh_32) (by simp [eh19, eh18, eh17, eh16, eh15, eh14, eh13, eh12, eh11, eh10, eh9, eh8, eh7, eh6, eh5, eh4, eh3, eh2, eh1, am_ur, am_ui, am_up, c_X7, c_X8, c_X2, c_X5, c_X3, c_X6, c_X10, am_id]) ?_
  refine am_iload_n 25 C dX0_init_25 rfl 0 rfl ?_
  refine am_new 26 tyX2 C (A.lc (by decide) (by decide) (by decide) (by decide)) rfl uw_X2 tyX2_ok cl_X0_9 ci_X2 cn_X2 (congrArg Prod.fst sh_79) (by decide) (by decide +kernel) dX0_init_26 ?_
  refine am_dup 29 C dX0_init_29 rfl ?_
  obtain ⟨h20, eh20, E⟩ := am_idE E
  refine ac_callIN 30 2 4 175 84 (h2 := h20) (st := [.ref 79, .int (9 : Int32), .ref 33]) [] C (A.lc (by decide) (by decide) (by decide) (by decide)) mn_X0_17 yc_X2_init yi_X2_init rfl (by rw [eh20]; exact (t_X2 h19 79 80  (by decide) sh_79 sh_80 sh_81 sh_82 sh_83 rfl)) rfl rfl rfl (Nat.le_of_ble_eq_true rfl) dX0_init_30 ?_
  obtain ⟨h21, eh21, E⟩ := am_idE E
  refine ac_aast 33 (h2 := h21) C dX0_init_33 (by decide) sh_33 (Or.inl ⟨rfl, rfl⟩) (by decide) (by decide) (congrArg Prod.fst sh_79) eh21 ?_
  refine am_iinc 34 (10 : Int32) (lv2 := [(1, .int (10 : Int32)), (0, .ref 32)]) C dX0_init_34 0 rfl (by decide) (by decide) rfl ?_
  refine am_goto 37 15 C dX0_init_37 (by decide) ?_
  refine am_iload_n 15 C dX0_init_15 rfl 0 rfl ?_
  refine am_bipush 16 (20 : Int32) C dX0_init_16 (by decide) ?_
  refine am_icmp_ge 18 40 C dX0_init_18 (by decide) (fun q => absurd q (by decide)) (fun _ => ?_)
  refine am_aload_n 21 C dX0_init_21 rfl 1 rfl ?_
  refine am_getr 22 33 C fl_X0_11_0 dX0_init_22 (by decide) (congrArg Prod.fst sh_32) (by simp [eh21, eh20, eh19, eh18, eh17, eh16, eh15, eh14, eh13, eh12, eh11, eh10, eh9, eh8, eh7, eh6, eh5, eh4, eh3, eh2, eh1, am_ur, am_ui, am_up, c_X7, c_X8, c_X2, c_X5, c_X3, c_X6, c_X10, am_id]) ?_
  refine am_iload_n 25 C dX0_init_25 rfl 0 rfl ?_
  refine am_new 26 tyX2 C (A.lc (by decide) (by decide) (by decide) (by decide)) rfl uw_X2 tyX2_ok cl_X0_9 ci_X2 cn_X2 (congrArg Prod.fst sh_84) (by decide) (by decide +kernel) dX0_init_26 ?_
  refine am_dup 29 C dX0_init_29 rfl ?_
  obtain ⟨h22, eh22, E⟩ := am_idE E
  refine ac_callIN 30 2 4 175 89 (h2 := h22) (st := [.ref 84, .int (10 : Int32), .ref 33]) [] C (A.lc (by decide) (by decide) (by decide) (by decide)) mn_X0_17 yc_X2_init yi_X2_init rfl (by rw [eh22]; exact (t_X2 h21 84 85  (by decide) sh_84 sh_85 sh_86 sh_87 sh_88 rfl)) rfl rfl rfl (Nat.le_of_ble_eq_true rfl) dX0_init_30 ?_
  obtain ⟨h23, eh23, E⟩ := am_idE E
  refine ac_aast 33 (h2 := h23) C dX0_init_33 (by decide) sh_33 (Or.inl ⟨rfl, rfl⟩) (by decide) (by decide) (congrArg Prod.fst sh_84) eh23 ?_
  refine am_iinc 34 (11 : Int32) (lv2 := [(1, .int (11 : Int32)), (0, .ref 32)]) C dX0_init_34 0 rfl (by decide) (by decide) rfl ?_
  refine am_goto 37 15 C dX0_init_37 (by decide) ?_
  refine am_iload_n 15 C dX0_init_15 rfl 0 rfl ?_
  refine am_bipush 16 (20 : Int32) C dX0_init_16 (by decide) ?_
  refine am_icmp_ge 18 40 C dX0_init_18 (by decide) (fun q => absurd q (by decide)) (fun _ => ?_)
  refine am_aload_n 21 C dX0_init_21 rfl 1 rfl ?_
  refine am_getr 22 33 C fl_X0_11_0 dX0_init_22 (by decide) (congrArg Prod.fst sh_32) (by simp [eh23, eh22, eh21, eh20, eh19, eh18, eh17, eh16, eh15, eh14, eh13, eh12, eh11, eh10, eh9, eh8, eh7, eh6, eh5, eh4, eh3, eh2, eh1, am_ur, am_ui, am_up, c_X7, c_X8, c_X2, c_X5, c_X3, c_X6, c_X10, am_id]) ?_
  refine am_iload_n 25 C dX0_init_25 rfl 0 rfl ?_
  refine am_new 26 tyX2 C (A.lc (by decide) (by decide) (by decide) (by decide)) rfl uw_X2 tyX2_ok cl_X0_9 ci_X2 cn_X2 (congrArg Prod.fst sh_89) (by decide) (by decide +kernel) dX0_init_26 ?_
  refine am_dup 29 C dX0_init_29 rfl ?_
  obtain ⟨h24, eh24, E⟩ := am_idE E
  refine ac_callIN 30 2 4 175 94 (h2 := h24) (st := [.ref 89, .int (11 : Int32), .ref 33]) [] C (A.lc (by decide) (by decide) (by decide) (by decide)) mn_X0_17 yc_X2_init yi_X2_init rfl (by rw [eh24]; exact (t_X2 h23 89 90  (by decide) sh_89 sh_90 sh_91 sh_92 sh_93 rfl)) rfl rfl rfl (Nat.le_of_ble_eq_true rfl) dX0_init_30 ?_
  obtain ⟨h25, eh25, E⟩ := am_idE E
  refine ac_aast 33 (h2 := h25) C dX0_init_33 (by decide) sh_33 (Or.inl ⟨rfl, rfl⟩) (by decide) (by decide) (congrArg Prod.fst sh_89) eh25 ?_
  refine am_iinc 34 (12 : Int32) (lv2 := [(1, .int (12 : Int32)), (0, .ref 32)]) C dX0_init_34 0 rfl (by decide) (by decide) rfl ?_
  refine am_goto 37 15 C dX0_init_37 (by decide) ?_
  refine am_iload_n 15 C dX0_init_15 rfl 0 rfl ?_
  refine am_bipush 16 (20 : Int32) C dX0_init_16 (by decide) ?_
  refine am_icmp_ge 18 40 C dX0_init_18 (by decide) (fun q => absurd q (by decide)) (fun _ => ?_)
  refine am_aload_n 21 C dX0_init_21 rfl 1 rfl ?_
  refine am_getr 22 33 C fl_X0_11_0 dX0_init_22 (by decide) (congrArg Prod.fst sh_32) (by simp [eh25, eh24, eh23, eh22, eh21, eh20, eh19, eh18, eh17, eh16, eh15, eh14, eh13, eh12, eh11, eh10, eh9, eh8, eh7, eh6, eh5, eh4, eh3, eh2, eh1, am_ur, am_ui, am_up, c_X7, c_X8, c_X2, c_X5, c_X3, c_X6, c_X10, am_id]) ?_
  refine am_iload_n 25 C dX0_init_25 rfl 0 rfl ?_
  refine am_new 26 tyX2 C (A.lc (by decide) (by decide) (by decide) (by decide)) rfl uw_X2 tyX2_ok cl_X0_9 ci_X2 cn_X2 (congrArg Prod.fst sh_94) (by decide) (by decide +kernel) dX0_init_26 ?_
  refine am_dup 29 C dX0_init_29 rfl ?_
  obtain ⟨h26, eh26, E⟩ := am_idE E
  refine ac_callIN 30 2 4 175 99 (h2 := h26) (st := [.ref 94, .int (12 : Int32), .ref 33]) [] C (A.lc (by decide) (by decide) (by decide) (by decide)) mn_X0_17 yc_X2_init yi_X2_init rfl (by rw [eh26]; exact (t_X2 h25 94 95  (by decide) sh_94 sh_95 sh_96 sh_97 sh_98 rfl)) rfl rfl rfl (Nat.le_of_ble_eq_true rfl) dX0_init_30 ?_
  obtain ⟨h27, eh27, E⟩ := am_idE E
  refine ac_aast 33 (h2 := h27) C dX0_init_33 (by decide) sh_33 (Or.inl ⟨rfl, rfl⟩) (by decide) (by decide) (congrArg Prod.fst sh_94) eh27 ?_
  refine am_iinc 34 (13 : Int32) (lv2 := [(1, .int (13 : Int32)), (0, .ref 32)]) C dX0_init_34 0 rfl (by decide) (by decide) rfl ?_
  refine am_goto 37 15 C dX0_init_37 (by decide) ?_
  refine am_iload_n 15 C dX0_init_15 rfl 0 rfl ?_
  refine am_bipush 16 (20 : Int32) C dX0_init_16 (by decide) ?_
  refine am_icmp_ge 18 40 C dX0_init_18 (by decide) (fun q => absurd q (by decide)) (fun _ => ?_)
  refine am_aload_n 21 C dX0_init_21 rfl 1 rfl ?_
  refine am_getr 22 33 C fl_X0_11_0 dX0_init_22 (by decide) (congrArg Prod.fst sh_32) (by simp [eh27, eh26, eh25, eh24, eh23, eh22, eh21, eh20, eh19, eh18, eh17, eh16, eh15, eh14, eh13, eh12, eh11, eh10, eh9, eh8, eh7, eh6, eh5, eh4, eh3, eh2, eh1, am_ur, am_ui, am_up, c_X7, c_X8, c_X2, c_X5, c_X3, c_X6, c_X10, am_id]) ?_
  refine am_iload_n 25 C dX0_init_25 rfl 0 rfl ?_
  refine am_new 26 tyX2 C (A.lc (by decide) (by decide) (by decide) (by decide)) rfl uw_X2 tyX2_ok cl_X0_9 ci_X2 cn_X2 (congrArg Prod.fst sh_99) (by decide) (by decide +kernel) dX0_init_26 ?_
  refine am_dup 29 C dX0_init_29 rfl ?_
  obtain ⟨h28, eh28, E⟩ := am_idE E
  refine ac_callIN 30 2 4 175 104 (h2 := h28) (st := [.ref 99, .int (13 : Int32), .ref 33]) [] C (A.lc (by decide) (by decide) (by decide) (by decide)) mn_X0_17 yc_X2_init yi_X2_init rfl (by rw [eh28]; exact (t_X2 h27 99 100  (by decide) sh_99 sh_100 sh_101 sh_102 sh_103 rfl)) rfl rfl rfl (Nat.le_of_ble_eq_true rfl) dX0_init_30 ?_
  obtain ⟨h29, eh29, E⟩ := am_idE E
  refine ac_aast 33 (h2 := h29) C dX0_init_33 (by decide) sh_33 (Or.inl ⟨rfl, rfl⟩) (by decide) (by decide) (congrArg Prod.fst sh_99) eh29 ?_
  refine am_iinc 34 (14 : Int32) (lv2 := [(1, .int (14 : Int32)), (0, .ref 32)]) C dX0_init_34 0 rfl (by decide) (by decide) rfl ?_
  refine am_goto 37 15 C dX0_init_37 (by decide) ?_
  refine am_iload_n 15 C dX0_init_15 rfl 0 rfl ?_
  refine am_bipush 16 (20 : Int32) C dX0_init_16 (by decide) ?_
  refine am_icmp_ge 18 40 C dX0_init_18 (by decide) (fun q => absurd q (by decide)) (fun _ => ?_)
  refine am_aload_n 21 C dX0_init_21 rfl 1 rfl ?_
  refine am_getr 22 33 C fl_X0_11_0 dX0_init_22 (by decide) (congrArg Prod.fst sh_32) (by simp [eh29, eh28, eh27, eh26, eh25, eh24, eh23, eh22, eh21, eh20, eh19, eh18, eh17, eh16, eh15, eh14, eh13, eh12, eh11, eh10, eh9, eh8, eh7, eh6, eh5, eh4, eh3, eh2, eh1, am_ur, am_ui, am_up, c_X7, c_X8, c_X2, c_X5, c_X3, c_X6, c_X10, am_id]) ?_
  refine am_iload_n 25 C dX0_init_25 rfl 0 rfl ?_
  refine am_new 26 tyX2 C (A.lc (by decide) (by decide) (by decide) (by decide)) rfl uw_X2 tyX2_ok cl_X0_9 ci_X2 cn_X2 (congrArg Prod.fst sh_104) (by decide) (by decide +kernel) dX0_init_26 ?_
  refine am_dup 29 C dX0_init_29 rfl ?_
  obtain ⟨h30, eh30, E⟩ := am_idE E
  refine ac_callIN 30 2 4 175 109 (h2 := h30) (st := [.ref 104, .int (14 : Int32), .ref 33]) [] C (A.lc (by decide) (by decide) (by decide) (by decide)) mn_X0_17 yc_X2_init yi_X2_init rfl (by rw [eh30]; exact (t_X2 h29 104 105  (by decide) sh_104 sh_105 sh_106 sh_107 sh_108 rfl)) rfl rfl rfl (Nat.le_of_ble_eq_true rfl) dX0_init_30 ?_
  obtain ⟨h31, eh31, E⟩ := am_idE E
  refine ac_aast 33 (h2 := h31) C dX0_init_33 (by decide) sh_33 (Or.inl ⟨rfl, rfl⟩) (by decide) (by decide) (congrArg Prod.fst sh_104) eh31 ?_
  refine am_iinc 34 (15 : Int32) (lv2 := [(1, .int (15 : Int32)), (0, .ref 32)]) C dX0_init_34 0 rfl (by decide) (by decide) rfl ?_
  refine am_goto 37 15 C dX0_init_37 (by decide) ?_
  refine am_iload_n 15 C dX0_init_15 rfl 0 rfl ?_
  refine am_bipush 16 (20 : Int32) C dX0_init_16 (by decide) ?_
  refine am_icmp_ge 18 40 C dX0_init_18 (by decide) (fun q => absurd q (by decide)) (fun _ => ?_)
  refine am_aload_n 21 C dX0_init_21 rfl 1 rfl ?_
  refine am_getr 22 33 C fl_X0_11_0 dX0_init_22 (by decide) (congrArg Prod.fst sh_32) (by simp [eh31, eh30, eh29, eh28, eh27, eh26, eh25, eh24, eh23, eh22, eh21, eh20, eh19, eh18, eh17, eh16, eh15, eh14, eh13, eh12, eh11, eh10, eh9, eh8, eh7, eh6, eh5, eh4, eh3, eh2, eh1, am_ur, am_ui, am_up, c_X7, c_X8, c_X2, c_X5, c_X3, c_X6, c_X10, am_id]) ?_
  refine am_iload_n 25 C dX0_init_25 rfl 0 rfl ?_
  refine am_new 26 tyX2 C (A.lc (by decide) (by decide) (by decide) (by decide)) rfl uw_X2 tyX2_ok cl_X0_9 ci_X2 cn_X2 (congrArg Prod.fst sh_109) (by decide) (by decide +kernel) dX0_init_26 ?_
  refine am_dup 29 C dX0_init_29 rfl ?_
  obtain ⟨h32, eh32, E⟩ := am_idE E
  refine ac_callIN 30 2 4 175 114 (h2 := h32) (st := [.ref 109, .int (15 : Int32), .ref 33]) [] C (A.lc (by decide) (by decide) (by decide) (by decide)) mn_X0_17 yc_X2_init yi_X2_init rfl (by rw [eh32]; exact (t_X2 h31 109 110  (by decide) sh_109 sh_110 sh_111 sh_112 sh_113 rfl)) rfl rfl rfl (Nat.le_of_ble_eq_true rfl) dX0_init_30 ?_
  obtain ⟨h33, eh33, E⟩ := am_idE E
  refine ac_aast 33 (h2 := h33) C dX0_init_33 (by decide) sh_33 (Or.inl ⟨rfl, rfl⟩) (by decide) (by decide) (congrArg Prod.fst sh_109) eh33 ?_
  refine am_iinc 34 (16 : Int32) (lv2 := [(1, .int (16 : Int32)), (0, .ref 32)]) C dX0_init_34 0 rfl (by decide) (by decide) rfl ?_
  refine am_goto 37 15 C dX0_init_37 (by decide) ?_
  refine am_iload_n 15 C dX0_init_15 rfl 0 rfl ?_
  refine am_bipush 16 (20 : Int32) C dX0_init_16 (by decide) ?_
  refine am_icmp_ge 18 40 C dX0_init_18 (by decide) (fun q => absurd q (by decide)) (fun _ => ?_)
  refine am_aload_n 21 C dX0_init_21 rfl 1 rfl ?_
  refine am_getr 22 33 C fl_X0_11_0 dX0_init_22 (by decide) (congrArg Prod.fst sh_32) (by simp [eh33, eh32, eh31, eh30, eh29, eh28, eh27, eh26, eh25, eh24, eh23, eh22, eh21, eh20, eh19, eh18, eh17, eh16, eh15, eh14, eh13, eh12, eh11, eh10, eh9, eh8, eh7, eh6, eh5, eh4, eh3, eh2, eh1, am_ur, am_ui, am_up, c_X7, c_X8, c_X2, c_X5, c_X3, c_X6, c_X10, am_id]) ?_
  refine am_iload_n 25 C dX0_init_25 rfl 0 rfl ?_
  refine am_new 26 tyX2 C (A.lc (by decide) (by decide) (by decide) (by decide)) rfl uw_X2 tyX2_ok cl_X0_9 ci_X2 cn_X2 (congrArg Prod.fst sh_114) (by decide) (by decide +kernel) dX0_init_26 ?_
  refine am_dup 29 C dX0_init_29 rfl ?_
  obtain ⟨h34, eh34, E⟩ := am_idE E
  refine ac_callIN 30 2 4 175 119 (h2 := h34) (st := [.ref 114, .int (16 : Int32), .ref 33]) [] C (A.lc (by decide) (by decide) (by decide) (by decide)) mn_X0_17 yc_X2_init yi_X2_init rfl (by rw [eh34]; exact (t_X2 h33 114 115  (by decide) sh_114 sh_115 sh_116 sh_117 sh_118 rfl)) rfl rfl rfl (Nat.le_of_ble_eq_true rfl) dX0_init_30 ?_
  obtain ⟨h35, eh35, E⟩ := am_idE E
  refine ac_aast 33 (h2 := h35) C dX0_init_33 (by decide) sh_33 (Or.inl ⟨rfl, rfl⟩) (by decide) (by decide) (congrArg Prod.fst sh_114) eh35 ?_
  refine am_iinc 34 (17 : Int32) (lv2 := [(1, .int (17 : Int32)), (0, .ref 32)]) C dX0_init_34 0 rfl (by decide) (by decide) rfl ?_
  refine am_goto 37 15 C dX0_init_37 (by decide) ?_
  refine am_iload_n 15 C dX0_init_15 rfl 0 rfl ?_
  refine am_bipush 16 (20 : Int32) C dX0_init_16 (by decide) ?_
  refine am_icmp_ge 18 40 C dX0_init_18 (by decide) (fun q => absurd q (by decide)) (fun _ => ?_)
  refine am_aload_n 21 C dX0_init_21 rfl 1 rfl ?_
  refine am_getr 22 33 C fl_X0_11_0 dX0_init_22 (by decide) (congrArg Prod.fst sh_32) (by simp [eh35, eh34, eh33, eh32, eh31, eh30, eh29, eh28, eh27, eh26, eh25, eh24, eh23, eh22, eh21, eh20, eh19, eh18, eh17, eh16, eh15, eh14, eh13, eh12, eh11, eh10, eh9, eh8, eh7, eh6, eh5, eh4, eh3, eh2, eh1, am_ur, am_ui, am_up, c_X7, c_X8, c_X2, c_X5, c_X3, c_X6, c_X10, am_id]) ?_
  refine am_iload_n 25 C dX0_init_25 rfl 0 rfl ?_
  refine am_new 26 tyX2 C (A.lc (by decide) (by decide) (by decide) (by decide)) rfl uw_X2 tyX2_ok cl_X0_9 ci_X2 cn_X2 (congrArg Prod.fst sh_119) (by decide) (by decide +kernel) dX0_init_26 ?_
  refine am_dup 29 C dX0_init_29 rfl ?_
  obtain ⟨h36, eh36, E⟩ := am_idE E
  refine ac_callIN 30 2 4 175 124 (h2 := h36) (st := [.ref 119, .int (17 : Int32), .ref 33]) [] C (A.lc (by decide) (by decide) (by decide) (by decide)) mn_X0_17 yc_X2_init yi_X2_init rfl (by rw [eh36]; exact (t_X2 h35 119 120  (by decide) sh_119 sh_120 sh_121 sh_122 sh_123 rfl)) rfl rfl rfl (Nat.le_of_ble_eq_true rfl) dX0_init_30 ?_
  obtain ⟨h37, eh37, E⟩ := am_idE E
  refine ac_aast 33 (h2 := h37) C dX0_init_33 (by decide) sh_33 (Or.inl ⟨rfl, rfl⟩) (by decide) (by decide) (congrArg Prod.fst sh_119) eh37 ?_
  refine am_iinc 34 (18 : Int32) (lv2 := [(1, .int (18 : Int32)), (0, .ref 32)]) C dX0_init_34 0 rfl (by decide) (by decide) rfl ?_
  refine am_goto 37 15 C dX0_init_37 (by decide) ?_
  refine am_iload_n 15 C dX0_init_15 rfl 0 rfl ?_
  refine am_bipush 16 (20 : Int32) C dX0_init_16 (by decide) ?_
  refine am_icmp_ge 18 40 C dX0_init_18 (by decide) (fun q => absurd q (by decide)) (fun _ => ?_)
  refine am_aload_n 21 C dX0_init_21 rfl 1 rfl ?_
  refine am_getr 22 33 C fl_X0_11_0 dX0_init_22 (by decide) (congrArg Prod.fst sh_32) (by simp [eh37, eh36, eh35, eh34, eh33, eh32, eh31, eh30, eh29, eh28, eh27, eh26, eh25, eh24, eh23, eh22, eh21, eh20, eh19, eh18, eh17, eh16, eh15, eh14, eh13, eh12, eh11, eh10, eh9, eh8, eh7, eh6, eh5, eh4, eh3, eh2, eh1, am_ur, am_ui, am_up, c_X7, c_X8, c_X2, c_X5, c_X3, c_X6, c_X10, am_id]) ?_
  refine am_iload_n 25 C dX0_init_25 rfl 0 rfl ?_
  refine am_new 26 tyX2 C (A.lc (by decide) (by decide) (by decide) (by decide)) rfl uw_X2 tyX2_ok cl_X0_9 ci_X2 cn_X2 (congrArg Prod.fst sh_124) (by decide) (by decide +kernel) dX0_init_26 ?_
  refine am_dup 29 C dX0_init_29 rfl ?_
  obtain ⟨h38, eh38, E⟩ := am_idE E
  refine ac_callIN 30 2 4 175 129 (h2 := h38) (st := [.ref 124, .int (18 : Int32), .ref 33]) [] C (A.lc (by decide) (by decide) (by decide) (by decide)) mn_X0_17 yc_X2_init yi_X2_init rfl (by rw [eh38]; exact (t_X2 h37 124 125  (by decide) sh_124 sh_125 sh_126 sh_127 sh_128 rfl)) rfl rfl rfl (Nat.le_of_ble_eq_true rfl) dX0_init_30 ?_
  obtain ⟨h39, eh39, E⟩ := am_idE E
  refine ac_aast 33 (h2 := h39) C dX0_init_33 (by decide) sh_33 (Or.inl ⟨rfl, rfl⟩) (by decide) (by decide) (congrArg Prod.fst sh_124) eh39 ?_
  refine am_iinc 34 (19 : Int32) (lv2 := [(1, .int (19 : Int32)), (0, .ref 32)]) C dX0_init_34 0 rfl (by decide) (by decide) rfl ?_
  refine am_goto 37 15 C dX0_init_37 (by decide) ?_
  refine am_iload_n 15 C dX0_init_15 rfl 0 rfl ?_
  refine am_bipush 16 (20 : Int32) C dX0_init_16 (by decide) ?_
  refine am_icmp_ge 18 40 C dX0_init_18 (by decide) (fun q => absurd q (by decide)) (fun _ => ?_)
  refine am_aload_n 21 C dX0_init_21 rfl 1 rfl ?_
  refine am_getr 22 33 C fl_X0_11_0 dX0_init_22 (by decide) (congrArg Prod.fst sh_32) (by simp [eh39, eh38, eh37, eh36, eh35, eh34, eh33, eh32, eh31, eh30, eh29, eh28, eh27, eh26, eh25, eh24, eh23, eh22, eh21, eh20, eh19, eh18, eh17, eh16, eh15, eh14, eh13, eh12, eh11, eh10, eh9, eh8, eh7, eh6, eh5, eh4, eh3, eh2, eh1, am_ur, am_ui, am_up, c_X7, c_X8, c_X2, c_X5, c_X3, c_X6, c_X10, am_id]) ?_
  refine am_iload_n 25 C dX0_init_25 rfl 0 rfl ?_
  refine am_new 26 tyX2 C (A.lc (by decide) (by decide) (by decide) (by decide)) rfl uw_X2 tyX2_ok cl_X0_9 ci_X2 cn_X2 (congrArg Prod.fst sh_129) (by decide) (by decide +kernel) dX0_init_26 ?_
  refine am_dup 29 C dX0_init_29 rfl ?_
  obtain ⟨h40, eh40, E⟩ := am_idE E
  refine ac_callIN 30 2 4 175 134 (h2 := h40) (st := [.ref 129, .int (19 : Int32), .ref 33]) [] C (A.lc (by decide) (by decide) (by decide) (by decide)) mn_X0_17 yc_X2_init yi_X2_init rfl (by rw [eh40]; exact (t_X2 h39 129 130  (by decide) sh_129 sh_130 sh_131 sh_132 sh_133 rfl)) rfl rfl rfl (Nat.le_of_ble_eq_true rfl) dX0_init_30 ?_
  obtain ⟨h41, eh41, E⟩ := am_idE E
  refine ac_aast 33 (h2 := h41) C dX0_init_33 (by decide) sh_33 (Or.inl ⟨rfl, rfl⟩) (by decide) (by decide) (congrArg Prod.fst sh_129) eh41 ?_
  refine am_iinc 34 (20 : Int32) (lv2 := [(1, .int (20 : Int32)), (0, .ref 32)]) C dX0_init_34 0 rfl (by decide) (by decide) rfl ?_
  refine am_goto 37 15 C dX0_init_37 (by decide) ?_
  refine am_iload_n 15 C dX0_init_15 rfl 0 rfl ?_
  refine am_bipush 16 (20 : Int32) C dX0_init_16 (by decide) ?_
  refine am_icmp_ge 18 40 C dX0_init_18 (by decide) (fun _ => ?_) (fun q => absurd (by decide) q)
  subst E
  exact am_vret 40 C Z dX0_init_40
def c_X1_246 (h : am_H)  : am_H :=
  am_id (am_ur h 246 0 2) (fun h1 => h1)
set_option maxRecDepth 100000 in
set_option maxHeartbeats 8000000 in
theorem t_X1_246 (h : am_H)  {z : am_H} (E : z = c_X1_246 h) : AM yX1_init cX1_init 2 none 2 0 0 [.ref 246, .ref 2] 247 h (none, 247, z) := by
  unfold c_X1_246 at E
  refine am_met (by decide +kernel) (by simp [lg_sl, Value.category]) (fun x C A Z I => ?_)
  replace I := I rfl
  show AX x 0 0 0 [(0, .ref 246), (1, .ref 2)] [] 247 h
  refine am_aload_n 0 C dX1_init_0 rfl 0 rfl ?_
  refine am_objInit 1 C (A.lc (by decide) (by decide) (by decide) (by decide)) ml_X1_3 jo_1 jo_2 (Nat.le_of_ble_eq_true rfl) dX1_init_1 ?_
  refine am_aload_n 4 C dX1_init_4 rfl 0 rfl ?_
  refine am_aload_n 5 C dX1_init_5 rfl 1 rfl ?_
  obtain ⟨h1, eh1, E⟩ := am_idE E
  refine ac_putr 6 C fl_X1_9_8 dX1_init_6 (by decide) (congrArg Prod.fst sh_246) (fun _ => rfl) (fun _ => rfl) (Or.inr ⟨rfl, I, _, rfl, rfl, am_in 497 (by decide +kernel) rfl⟩) eh1 ?_
  subst E
  exact am_vret 9 C Z dX1_init_9
def c_X9 (h : am_H)  : am_H :=
  am_id (c_X1_246 h) (fun h1 => am_id (am_ur h1 246 1 6) (fun h2 => h2))
set_option maxRecDepth 100000 in
set_option maxHeartbeats 8000000 in
theorem t_X9 (h : am_H)  {z : am_H} (E : z = c_X9 h) : AM yX9_init cX9_init 3 none 3 0 0 [.ref 246, .ref 2, .ref 6] 247 h (none, 247, z) := by
  unfold c_X9 at E
  refine am_met (by decide +kernel) (by simp [lg_sl, Value.category]) (fun x C A Z I => ?_)
  replace I := I rfl
  show AX x 0 0 0 [(0, .ref 246), (1, .ref 2), (2, .ref 6)] [] 247 h
  refine am_aload_n 0 C dX9_init_0 rfl 0 rfl ?_
  refine am_aload_n 1 C dX9_init_1 rfl 1 rfl ?_
  obtain ⟨h1, eh1, E⟩ := am_idE E
  refine ac_callI 2 2 0 0 247 (h2 := h1) (st := []) [.ref 2] C (A.lc (by decide) (by decide) (by decide) (by decide)) ml_X9_3 yc_X1_init yi_X1_init rfl (by rw [eh1]; exact (t_X1_246 h rfl)) rfl rfl rfl (Nat.le_of_ble_eq_true rfl) dX9_init_2 ?_
  refine am_aload_n 5 C dX9_init_5 rfl 0 rfl ?_
  refine am_aload_n 6 C dX9_init_6 rfl 2 rfl ?_
  obtain ⟨h2, eh2, E⟩ := am_idE E
  refine ac_putr 7 C fl_X9_9_8 dX9_init_7 (by decide) (congrArg Prod.fst sh_246) (fun _ => rfl) (fun _ => rfl) (Or.inl rfl) eh2 ?_
  subst E
  exact am_vret 10 C Z dX9_init_10
def c_X1_247 (h : am_H)  : am_H :=
  am_id (am_ur h 247 0 2) (fun h1 => h1)
set_option maxRecDepth 100000 in
set_option maxHeartbeats 8000000 in
theorem t_X1_247 (h : am_H)  {z : am_H} (E : z = c_X1_247 h) : AM yX1_init cX1_init 2 none 2 0 0 [.ref 247, .ref 2] 248 h (none, 248, z) := by
  unfold c_X1_247 at E
  refine am_met (by decide +kernel) (by simp [lg_sl, Value.category]) (fun x C A Z I => ?_)
  replace I := I rfl
  show AX x 0 0 0 [(0, .ref 247), (1, .ref 2)] [] 248 h
  refine am_aload_n 0 C dX1_init_0 rfl 0 rfl ?_
  refine am_objInit 1 C (A.lc (by decide) (by decide) (by decide) (by decide)) ml_X1_3 jo_1 jo_2 (Nat.le_of_ble_eq_true rfl) dX1_init_1 ?_
  refine am_aload_n 4 C dX1_init_4 rfl 0 rfl ?_
  refine am_aload_n 5 C dX1_init_5 rfl 1 rfl ?_
  obtain ⟨h1, eh1, E⟩ := am_idE E
  refine ac_putr 6 C fl_X1_9_3 dX1_init_6 (by decide) (congrArg Prod.fst sh_247) (fun _ => rfl) (fun _ => rfl) (Or.inr ⟨rfl, I, _, rfl, rfl, am_in 497 (by decide +kernel) rfl⟩) eh1 ?_
  subst E
  exact am_vret 9 C Z dX1_init_9
def c_X4 (h : am_H)  : am_H :=
  am_id (c_X1_247 h) (fun h1 => am_id (am_ur h1 247 1 144) (fun h2 => h2))
set_option maxRecDepth 100000 in
set_option maxHeartbeats 8000000 in
theorem t_X4 (h : am_H)  {z : am_H} (E : z = c_X4 h) : AM yX4_init cX4_init 3 none 3 0 0 [.ref 247, .ref 2, .ref 144] 248 h (none, 248, z) := by
  unfold c_X4 at E
  refine am_met (by decide +kernel) (by simp [lg_sl, Value.category]) (fun x C A Z I => ?_)
  replace I := I rfl
  show AX x 0 0 0 [(0, .ref 247), (1, .ref 2), (2, .ref 144)] [] 248 h
  refine am_aload_n 0 C dX4_init_0 rfl 0 rfl ?_
  refine am_aload_n 1 C dX4_init_1 rfl 1 rfl ?_
  obtain ⟨h1, eh1, E⟩ := am_idE E
  refine ac_callI 2 2 0 0 248 (h2 := h1) (st := []) [.ref 2] C (A.lc (by decide) (by decide) (by decide) (by decide)) ml_X4_3 yc_X1_init yi_X1_init rfl (by rw [eh1]; exact (t_X1_247 h rfl)) rfl rfl rfl (Nat.le_of_ble_eq_true rfl) dX4_init_2 ?_
  refine am_aload_n 5 C dX4_init_5 rfl 0 rfl ?_
  refine am_aload_n 6 C dX4_init_6 rfl 2 rfl ?_
  obtain ⟨h2, eh2, E⟩ := am_idE E
  refine ac_putr 7 C fl_X4_9_3 dX4_init_7 (by decide) (congrArg Prod.fst sh_247) (fun _ => rfl) (fun _ => rfl) (Or.inl rfl) eh2 ?_
  subst E
  exact am_vret 10 C Z dX4_init_10
def c_X11 (h : am_H)  : am_H :=
  am_id (am_ur h 0 0 1) (fun h1 => am_id (c_X7 h1 2 3) (fun h2 => am_id (am_ur h2 0 2 2) (fun h3 => am_id (c_X8 h3 6 7) (fun h4 => am_id (am_ur h4 0 3 6) (fun h5 => am_id (am_ur h5 0 4 14) (fun h6 => am_id (c_X5 h6 15 16) (fun h7 => am_id (am_ur h7 0 8 15) (fun h8 => am_id (am_ur h8 0 9 30) (fun h9 => am_id (am_ur h9 0 10 31) (fun h10 => am_id (c_X0 h10) (fun h11 => am_id (am_ur h11 0 11 32) (fun h12 => am_id (c_X6 h12 134 16 24) (fun h13 => am_id (am_ur h13 0 12 134) (fun h14 => am_id (c_X10 h14 135 136) (fun h15 => am_id (am_ur h15 0 13 135) (fun h16 => am_id (c_X2 h16 137 138) (fun h17 => am_id (am_ur h17 0 14 137) (fun h18 => am_id (am_ur h18 0 16 142) (fun h19 => am_id (c_X3 h19 144 145 143) (fun h20 => am_id (am_ur h20 14 0 144) (fun h21 => am_id (c_X3 h21 151 152 143) (fun h22 => am_id (am_ur h22 14 1 151) (fun h23 => am_id (c_X3 h23 158 159 143) (fun h24 => am_id (am_ur h24 14 2 158) (fun h25 => am_id (c_X3 h25 165 166 143) (fun h26 => am_id (am_ur h26 14 3 165) (fun h27 => am_id (c_X3 h27 172 173 143) (fun h28 => am_id (am_ur h28 14 4 172) (fun h29 => am_id (c_X3 h29 179 180 143) (fun h30 => am_id (am_ur h30 14 5 179) (fun h31 => am_id (c_X5 h31 186 187) (fun h32 => am_id (am_ur h32 30 0 186) (fun h33 => am_id (c_X5 h33 201 202) (fun h34 => am_id (am_ur h34 30 1 201) (fun h35 => am_id (c_X5 h35 216 217) (fun h36 => am_id (am_ur h36 30 2 216) (fun h37 => am_id (c_X5 h37 231 232) (fun h38 => am_id (am_ur h38 30 3 231) (fun h39 => am_id (c_X9 h39) (fun h40 => am_id (am_ur h40 0 6 246) (fun h41 => am_id (c_X4 h41) (fun h42 => am_id (am_ur h42 0 7 247) (fun h43 => h43)))))))))))))))))))))))))))))))))))))))))))
set_option maxRecDepth 100000 in
set_option maxHeartbeats 8000000 in
theorem t_X11 (h : am_H)  {z : am_H} (E : z = c_X11 h) : AM yX11_init cX11_init 3 none 6 247 12889 [.ref 0] 1 h (none, 248, z) := by
  unfold c_X11 at E
  refine am_met (by decide +kernel) (by simp [lg_sl, Value.category]) (fun x C A Z I => ?_)
  replace I := I rfl
  show AX x 0 0 0 [(0, .ref 0)] [] 1 h
  refine am_aload_n 0 C dX11_init_0 rfl 0 rfl ?_
  refine am_objInit 1 C (A.lc (by decide) (by decide) (by decide) (by decide)) ml_X11_1 jo_1 jo_2 (Nat.le_of_ble_eq_true rfl) dX11_init_1 ?_
  refine am_aload_n 4 C dX11_init_4 rfl 0 rfl ?_
  refine am_sipush 5 (400 : Int32) C dX11_init_5 (by decide) ?_
  refine am_newa 8 (atype := .byte) (kd := 12) (N := 400) C (A.lc (by decide) (by decide) (by decide) (by decide)) (Or.inl ⟨rfl, rfl⟩) ca_byte sh_1 (by decide) (by decide) (by decide) dX11_init_8 ?_
  obtain ⟨h1, eh1, E⟩ := am_idE E
  refine ac_putr 10 C fl_X11_9_10 dX11_init_10 (by decide) (congrArg Prod.fst sh_0) (fun _ => rfl) (fun _ => rfl) (Or.inr ⟨rfl, I, _, rfl, rfl, am_in 521 (by decide +kernel) rfl⟩) eh1 ?_
  refine am_aload_n 13 C dX11_init_13 rfl 0 rfl ?_
  refine am_new 14 tyX7 C (A.lc (by decide) (by decide) (by decide) (by decide)) rfl uw_X7 tyX7_ok cl_X11_13 ci_X7 cn_X7 (congrArg Prod.fst sh_2) (by decide) (by decide +kernel) dX11_init_14 ?_
  refine am_dup 17 C dX11_init_17 rfl ?_
  obtain ⟨h2, eh2, E⟩ := am_idE E
  refine ac_callIN 18 2 3 1203 6 (h2 := h2) (st := [.ref 2, .ref 0]) [] C (A.lc (by decide) (by decide) (by decide) (by decide)) mn_X11_15 yc_X7_init yi_X7_init rfl (by rw [eh2]; exact (t_X7 h1 2 3  (by decide) sh_2 sh_3 sh_4 sh_5 rfl)) rfl rfl rfl (Nat.le_of_ble_eq_true rfl) dX11_init_18 ?_
  obtain ⟨h3, eh3, E⟩ := am_idE E
  refine ac_putr 21 C fl_X11_16_10 dX11_init_21 (by decide) (congrArg Prod.fst sh_0) (fun _ => rfl) (fun _ => rfl) (Or.inr ⟨rfl, I, _, rfl, rfl, am_in 523 (by decide +kernel) rfl⟩) eh3 ?_
  refine am_aload_n 24 C dX11_init_24 rfl 0 rfl ?_
  refine am_new 25 tyX8 C (A.lc (by decide) (by decide) (by decide) (by decide)) rfl uw_X8 tyX8_ok cl_X11_20 ci_X8 cn_X8 (congrArg Prod.fst sh_6) (by decide) (by decide +kernel) dX11_init_25 ?_
  refine am_dup 28 C dX11_init_28 rfl ?_
  obtain ⟨h4, eh4, E⟩ := am_idE E
  refine ac_callIN 29 2 7 153 14 (h2 := h4) (st := [.ref 6, .ref 0]) [] C (A.lc (by decide) (by decide) (by decide) (by decide)) mn_X11_22 yc_X8_init yi_X8_init rfl (by rw [eh4]; exact (t_X8 h3 6 7  (by decide) sh_6 sh_7 sh_8 sh_9 sh_10 sh_11 sh_12 sh_13 rfl)) rfl rfl rfl (Nat.le_of_ble_eq_true rfl) dX11_init_29 ?_
  obtain ⟨h5, eh5, E⟩ := am_idE E
  refine ac_putr 32 C fl_X11_23_10 dX11_init_32 (by decide) (congrArg Prod.fst sh_0) (fun _ => rfl) (fun _ => rfl) (Or.inr ⟨rfl, I, _, rfl, rfl, am_in 524 (by decide +kernel) rfl⟩) eh5 ?_
  refine am_aload_n 35 C dX11_init_35 rfl 0 rfl ?_
  refine am_bipush 36 (6 : Int32) C dX11_init_36 (by decide) ?_
  refine am_newq 38 (kd := 17) (N := 6) C (A.lc (by decide) (by decide) (by decide) (by decide)) (Or.inr (Or.inl ⟨rfl, rfl⟩)) cl_X11_27 co_X3 sh_14 (by decide) (by decide) (by decide) dX11_init_38 ?_
  obtain ⟨h6, eh6, E⟩ := am_idE E
  refine ac_putr 41 C fl_X11_29_10 dX11_init_41 (by decide) (congrArg Prod.fst sh_0) (fun _ => rfl) (fun _ => rfl) (Or.inr ⟨rfl, I, _, rfl, rfl, am_in 525 (by decide +kernel) rfl⟩) eh6 ?_
  refine am_aload_n 44 C dX11_init_44 rfl 0 rfl ?_
  refine am_new 45 tyX5 C (A.lc (by decide) (by decide) (by decide) (by decide)) rfl uw_X5 tyX5_ok cl_X11_33 ci_X5 cn_X5 (congrArg Prod.fst sh_15) (by decide) (by decide +kernel) dX11_init_45 ?_
  refine am_dup 48 C dX11_init_48 rfl ?_
  obtain ⟨h7, eh7, E⟩ := am_idE E
  refine ac_callIN 49 3 14 388 30 (h2 := h7) (st := [.ref 15, .ref 0]) [] C (A.lc (by decide) (by decide) (by decide) (by decide)) mn_X11_35 yc_X5_init yi_X5_init rfl (by rw [eh7]; exact (t_X5 h6 15 16  (by decide) sh_15 sh_16 sh_17 sh_18 sh_19 sh_20 sh_21 sh_22 sh_23 sh_24 sh_25 sh_26 sh_27 sh_28 sh_29 rfl)) rfl rfl rfl (Nat.le_of_ble_eq_true rfl) dX11_init_49 ?_
  obtain ⟨h8, eh8, E⟩ := am_idE E
  refine ac_putr 52 C fl_X11_36_10 dX11_init_52 (by decide) (congrArg Prod.fst sh_0) (fun _ => rfl) (fun _ => rfl) (Or.inr ⟨rfl, I, _, rfl, rfl, am_in 529 (by decide +kernel) rfl⟩) eh8 ?_
  refine am_aload_n 55 C dX11_init_55 rfl 0 rfl ?_
  refine am_iconst 56 (4 : Int32) C dX11_init_56 (by decide) ?_
  refine am_newq 57 (kd := 18) (N := 4) C (A.lc (by decide) (by decide) (by decide) (by decide)) (Or.inr (Or.inr ⟨rfl, rfl⟩)) cl_X11_33 co_X5 sh_30 (by decide) (by decide) (by decide) dX11_init_57 ?_
  obtain ⟨h9, eh9, E⟩ := am_idE E
  refine ac_putr 60 C fl_X11_40_10 dX11_init_60 (by decide) (congrArg Prod.fst sh_0) (fun _ => rfl) (fun _ => rfl) (Or.inr ⟨rfl, I, _, rfl, rfl, am_in 530 (by decide +kernel) rfl⟩) eh9 ?_
  refine am_aload_n 63 C dX11_init_63 rfl 0 rfl ?_
  refine am_iconst 64 (4 : Int32) C dX11_init_64 (by decide) ?_
  refine am_newa 65 (atype := .boolean) (kd := 15) (N := 4) C (A.lc (by decide) (by decide) (by decide) (by decide)) (Or.inr (Or.inr (Or.inr ⟨rfl, rfl⟩))) ca_boolean sh_31 (by decide) (by decide) (by decide) dX11_init_65 ?_
  obtain ⟨h10, eh10, E⟩ := am_idE E
  refine ac_putr 67 C fl_X11_44_10 dX11_init_67 (by decide) (congrArg Prod.fst sh_0) (fun _ => rfl) (fun _ => rfl) (Or.inr ⟨rfl, I, _, rfl, rfl, am_in 531 (by decide +kernel) rfl⟩) eh10 ?_
  refine am_aload_n 70 C dX11_init_70 rfl 0 rfl ?_
  refine am_new 71 tyX0 C (A.lc (by decide) (by decide) (by decide) (by decide)) rfl uw_X0 tyX0_ok cl_X11_48 ci_X0 cn_X0 (congrArg Prod.fst sh_32) (by decide) (by decide +kernel) dX11_init_71 ?_
  refine am_dup 74 C dX11_init_74 rfl ?_
  obtain ⟨h11, eh11, E⟩ := am_idE E
  refine ac_callI 75 3 101 3680 134 (h2 := h11) (st := [.ref 32, .ref 0]) [] C (A.lc (by decide) (by decide) (by decide) (by decide)) ml_X11_50 yc_X0_init yi_X0_init rfl (by rw [eh11]; exact (t_X0 h10 rfl)) rfl rfl rfl (Nat.le_of_ble_eq_true rfl) dX11_init_75 ?_
  obtain ⟨h12, eh12, E⟩ := am_idE E
  refine ac_putr 78 C fl_X11_51_10 dX11_init_78 (by decide) (congrArg Prod.fst sh_0) (fun _ => rfl) (fun _ => rfl) (Or.inr ⟨rfl, I, _, rfl, rfl, am_in 532 (by decide +kernel) rfl⟩) eh12 ?_
  refine am_aload_n 81 C dX11_init_81 rfl 0 rfl ?_
  refine am_new 82 tyX6 C (A.lc (by decide) (by decide) (by decide) (by decide)) rfl uw_X6 tyX6_ok cl_X11_55 ci_X6 cn_X6 (congrArg Prod.fst sh_134) (by decide) (by decide +kernel) dX11_init_82 ?_
  refine am_dup 85 C dX11_init_85 rfl ?_
  refine am_aload_n 86 C dX11_init_86 rfl 0 rfl ?_
  refine am_getr 87 15 C fl_X11_36_10 dX11_init_87 (by decide) (congrArg Prod.fst sh_0) (by simp [eh12, eh11, eh10, eh9, eh8, eh7, eh6, eh5, eh4, eh3, eh2, eh1, am_ur, am_ui, am_up, c_X7, c_X8, c_X2, c_X5, c_X3, c_X6, c_X10, c_X0, c_X1_246, c_X9, c_X1_247, c_X4, am_id]) ?_
  refine am_getr 90 16 C fl_X11_57_4 dX11_init_90 (by decide) (congrArg Prod.fst sh_15) (by simp [eh12, eh11, eh10, eh9, eh8, eh7, eh6, eh5, eh4, eh3, eh2, eh1, am_ur, am_ui, am_up, c_X7, c_X8, c_X2, c_X5, c_X3, c_X6, c_X10, c_X0, c_X1_246, c_X9, c_X1_247, c_X4, am_id]) ?_
  refine am_aload_n 93 C dX11_init_93 rfl 0 rfl ?_
  refine am_getr 94 15 C fl_X11_36_10 dX11_init_94 (by decide) (congrArg Prod.fst sh_0) (by simp [eh12, eh11, eh10, eh9, eh8, eh7, eh6, eh5, eh4, eh3, eh2, eh1, am_ur, am_ui, am_up, c_X7, c_X8, c_X2, c_X5, c_X3, c_X6, c_X10, c_X0, c_X1_246, c_X9, c_X1_247, c_X4, am_id]) ?_
  refine am_getr 97 24 C fl_X11_60_4 dX11_init_97 (by decide) (congrArg Prod.fst sh_15) (by simp [eh12, eh11, eh10, eh9, eh8, eh7, eh6, eh5, eh4, eh3, eh2, eh1, am_ur, am_ui, am_up, c_X7, c_X8, c_X2, c_X5, c_X3, c_X6, c_X10, c_X0, c_X1_246, c_X9, c_X1_247, c_X4, am_id]) ?_
  obtain ⟨h13, eh13, E⟩ := am_idE E
  refine ac_callI 100 2 0 0 135 (h2 := h13) (st := [.ref 134, .ref 0]) [.ref 16, .ref 24] C (A.lc (by decide) (by decide) (by decide) (by decide)) ml_X11_64 yc_X6_init yi_X6_init rfl (by rw [eh13]; exact (t_X6 h12 134 135 16 24 (by decide) sh_134  rfl)) rfl rfl rfl (Nat.le_of_ble_eq_true rfl) dX11_init_100 ?_
  obtain ⟨h14, eh14, E⟩ := am_idE E
  refine ac_putr 103 C fl_X11_67_10 dX11_init_103 (by decide) (congrArg Prod.fst sh_0) (fun _ => rfl) (fun _ => rfl) (Or.inr ⟨rfl, I, _, rfl, rfl, am_in 533 (by decide +kernel) rfl⟩) eh14 ?_
  refine am_aload_n 106 C dX11_init_106 rfl 0 rfl ?_
  refine am_new 107 tyX10 C (A.lc (by decide) (by decide) (by decide) (by decide)) rfl uw_X10 tyX10_ok cl_X11_71 ci_X10 cn_X10 (congrArg Prod.fst sh_135) (by decide) (by decide +kernel) dX11_init_107 ?_
  refine am_dup 110 C dX11_init_110 rfl ?_
  obtain ⟨h15, eh15, E⟩ := am_idE E
  refine ac_callIN 111 2 1 8 137 (h2 := h15) (st := [.ref 135, .ref 0]) [] C (A.lc (by decide) (by decide) (by decide) (by decide)) mn_X11_73 yc_X10_init yi_X10_init rfl (by rw [eh15]; exact (t_X10 h14 135 136  (by decide) sh_135 sh_136 rfl)) rfl rfl rfl (Nat.le_of_ble_eq_true rfl) dX11_init_111 ?_
  obtain ⟨h16, eh16, E⟩ := am_idE E
  refine ac_putr 114 C fl_X11_74_10 dX11_init_114 (by decide) (congrArg Prod.fst sh_0) (fun _ => rfl) (fun _ => rfl) (Or.inr ⟨rfl, I, _, rfl, rfl, am_in 534 (by decide +kernel) rfl⟩) eh16 ?_
  refine am_aload_n 117 C dX11_init_117 rfl 0 rfl ?_
  refine am_new 118 tyX2 C (A.lc (by decide) (by decide) (by decide) (by decide)) rfl uw_X2 tyX2_ok cl_X11_78 ci_X2 cn_X2 (congrArg Prod.fst sh_137) (by decide) (by decide +kernel) dX11_init_118 ?_
  refine am_dup 121 C dX11_init_121 rfl ?_
  obtain ⟨h17, eh17, E⟩ := am_idE E
  refine ac_callIN 122 2 4 175 142 (h2 := h17) (st := [.ref 137, .ref 0]) [] C (A.lc (by decide) (by decide) (by decide) (by decide)) mn_X11_80 yc_X2_init yi_X2_init rfl (by rw [eh17]; exact (t_X2 h16 137 138  (by decide) sh_137 sh_138 sh_139 sh_140 sh_141 rfl)) rfl rfl rfl (Nat.le_of_ble_eq_true rfl) dX11_init_122 ?_
  obtain ⟨h18, eh18, E⟩ := am_idE E
  refine ac_putr 125 C fl_X11_81_10 dX11_init_125 (by decide) (congrArg Prod.fst sh_0) (fun _ => rfl) (fun _ => rfl) (Or.inr ⟨rfl, I, _, rfl, rfl, am_in 535 (by decide +kernel) rfl⟩) eh18 ?_
  refine am_aload_n 128 C dX11_init_128 rfl 0 rfl ?_
  refine am_bipush 129 (8 : Int32) C dX11_init_129 (by decide) ?_
  refine am_newa 131 (atype := .int) (kd := 13) (N := 8) C (A.lc (by decide) (by decide) (by decide) (by decide)) (Or.inr (Or.inl ⟨rfl, rfl⟩)) ca_int sh_142 (by decide) (by decide) (by decide) dX11_init_131 ?_
  obtain ⟨h19, eh19, E⟩ := am_idE E
  refine ac_putr 133 C fl_X11_84_10 dX11_init_133 (by decide) (congrArg Prod.fst sh_0) (fun _ => rfl) (fun _ => rfl) (Or.inr ⟨rfl, I, _, rfl, rfl, am_in 537 (by decide +kernel) rfl⟩) eh19 ?_
  refine am_bipush 136 (64 : Int32) C dX11_init_136 (by decide) ?_
  refine am_newa 138 (atype := .long) (kd := 14) (N := 64) C (A.lc (by decide) (by decide) (by decide) (by decide)) (Or.inr (Or.inr (Or.inl ⟨rfl, rfl⟩))) ca_long sh_143 (by decide) (by decide) (by decide) dX11_init_138 ?_
  refine am_astore_n 140 (lv2 := [(1, .ref 143), (0, .ref 0)]) C dX11_init_140 rfl (by decide) rfl ?_
  refine am_iconst 141 (0 : Int32) C dX11_init_141 (by decide) ?_
  refine am_istore_n 142 (lv2 := [(2, .int (0 : Int32)), (1, .ref 143), (0, .ref 0)]) C dX11_init_142 rfl (by decide) rfl ?_
  refine am_iload_n 143 C dX11_init_143 rfl 0 rfl ?_
  refine am_bipush 144 (6 : Int32) C dX11_init_144 (by decide) ?_
  refine am_icmp_ge 146 169 C dX11_init_146 (by decide) (fun q => absurd q (by decide)) (fun _ => ?_)
  refine am_aload_n 149 C dX11_init_149 rfl 2 rfl ?_
  refine am_getr 150 14 C fl_X11_29_10 dX11_init_150 (by decide) (congrArg Prod.fst sh_0) (by simp [eh19, eh18, eh17, eh16, eh15, eh14, eh13, eh12, eh11, eh10, eh9, eh8, eh7, eh6, eh5, eh4, eh3, eh2, eh1, am_ur, am_ui, am_up, c_X7, c_X8, c_X2, c_X5, c_X3, c_X6, c_X10, c_X0, c_X1_246, c_X9, c_X1_247, c_X4, am_id]) ?_
  refine am_iload_n 153 C dX11_init_153 rfl 0 rfl ?_
  refine am_new 154 tyX3 C (A.lc (by decide) (by decide) (by decide) (by decide)) rfl uw_X3 tyX3_ok cl_X11_27 ci_X3 cn_X3 (congrArg Prod.fst sh_144) (by decide) (by decide +kernel) dX11_init_154 ?_
  refine am_dup 157 C dX11_init_157 rfl ?_
  refine am_aload_n 158 C dX11_init_158 rfl 1 rfl ?_
  obtain ⟨h20, eh20, E⟩ := am_idE E
  refine ac_callI 159 2 6 848 151 (h2 := h20) (st := [.ref 144, .int (0 : Int32), .ref 14]) [.ref 143] C (A.lc (by decide) (by decide) (by decide) (by decide)) ml_X11_88 yc_X3_init yi_X3_init rfl (by rw [eh20]; exact (t_X3 h19 144 145 143 (by decide) sh_144 sh_145 sh_146 sh_147 sh_148 sh_149 sh_150 rfl)) rfl rfl rfl (Nat.le_of_ble_eq_true rfl) dX11_init_159 ?_
  obtain ⟨h21, eh21, E⟩ := am_idE E
  refine ac_aast 162 (h2 := h21) C dX11_init_162 (by decide) sh_14 (Or.inr (Or.inl ⟨rfl, rfl⟩)) (by decide) (by decide) (congrArg Prod.fst sh_144) eh21 ?_
  refine am_iinc 163 (1 : Int32) (lv2 := [(2, .int (1 : Int32)), (1, .ref 143), (0, .ref 0)]) C dX11_init_163 0 rfl (by decide) (by decide) rfl ?_
  refine am_goto 166 143 C dX11_init_166 (by decide) ?_
  refine am_iload_n 143 C dX11_init_143 rfl 0 rfl ?_
  refine am_bipush 144 (6 : Int32) C dX11_init_144 (by decide) ?_
  refine am_icmp_ge 146 169 C dX11_init_146 (by decide) (fun q => absurd q (by decide)) (fun _ => ?_)
  refine am_aload_n 149 C dX11_init_149 rfl 2 rfl ?_
  refine am_getr 150 14 C fl_X11_29_10 dX11_init_150 (by decide) (congrArg Prod.fst sh_0) (by simp [eh21, eh20, eh19, eh18, eh17, eh16, eh15, eh14, eh13, eh12, eh11, eh10, eh9, eh8, eh7, eh6, eh5, eh4, eh3, eh2, eh1, am_ur, am_ui, am_up, c_X7, c_X8, c_X2, c_X5, c_X3, c_X6, c_X10, c_X0, c_X1_246, c_X9, c_X1_247, c_X4, am_id]) ?_
  refine am_iload_n 153 C dX11_init_153 rfl 0 rfl ?_
  refine am_new 154 tyX3 C (A.lc (by decide) (by decide) (by decide) (by decide)) rfl uw_X3 tyX3_ok cl_X11_27 ci_X3 cn_X3 (congrArg Prod.fst sh_151) (by decide) (by decide +kernel) dX11_init_154 ?_
  refine am_dup 157 C dX11_init_157 rfl ?_
  refine am_aload_n 158 C dX11_init_158 rfl 1 rfl ?_
  obtain ⟨h22, eh22, E⟩ := am_idE E
  refine ac_callI 159 2 6 848 158 (h2 := h22) (st := [.ref 151, .int (1 : Int32), .ref 14]) [.ref 143] C (A.lc (by decide) (by decide) (by decide) (by decide)) ml_X11_88 yc_X3_init yi_X3_init rfl (by rw [eh22]; exact (t_X3 h21 151 152 143 (by decide) sh_151 sh_152 sh_153 sh_154 sh_155 sh_156 sh_157 rfl)) rfl rfl rfl (Nat.le_of_ble_eq_true rfl) dX11_init_159 ?_
  obtain ⟨h23, eh23, E⟩ := am_idE E
  refine ac_aast 162 (h2 := h23) C dX11_init_162 (by decide) sh_14 (Or.inr (Or.inl ⟨rfl, rfl⟩)) (by decide) (by decide) (congrArg Prod.fst sh_151) eh23 ?_
  refine am_iinc 163 (2 : Int32) (lv2 := [(2, .int (2 : Int32)), (1, .ref 143), (0, .ref 0)]) C dX11_init_163 0 rfl (by decide) (by decide) rfl ?_
  refine am_goto 166 143 C dX11_init_166 (by decide) ?_
  refine am_iload_n 143 C dX11_init_143 rfl 0 rfl ?_
  refine am_bipush 144 (6 : Int32) C dX11_init_144 (by decide) ?_
  refine am_icmp_ge 146 169 C dX11_init_146 (by decide) (fun q => absurd q (by decide)) (fun _ => ?_)
  refine am_aload_n 149 C dX11_init_149 rfl 2 rfl ?_
  refine am_getr 150 14 C fl_X11_29_10 dX11_init_150 (by decide) (congrArg Prod.fst sh_0) (by simp [eh23, eh22, eh21, eh20, eh19, eh18, eh17, eh16, eh15, eh14, eh13, eh12, eh11, eh10, eh9, eh8, eh7, eh6, eh5, eh4, eh3, eh2, eh1, am_ur, am_ui, am_up, c_X7, c_X8, c_X2, c_X5, c_X3, c_X6, c_X10, c_X0, c_X1_246, c_X9, c_X1_247, c_X4, am_id]) ?_
  refine am_iload_n 153 C dX11_init_153 rfl 0 rfl ?_
  refine am_new 154 tyX3 C (A.lc (by decide) (by decide) (by decide) (by decide)) rfl uw_X3 tyX3_ok cl_X11_27 ci_X3 cn_X3 (congrArg Prod.fst sh_158) (by decide) (by decide +kernel) dX11_init_154 ?_
  refine am_dup 157 C dX11_init_157 rfl ?_
  refine am_aload_n 158 C dX11_init_158 rfl 1 rfl ?_
  obtain ⟨h24, eh24, E⟩ := am_idE E
  refine ac_callI 159 2 6 848 165 (h2 := h24) (st := [.ref 158, .int (2 : Int32), .ref 14]) [.ref 143] C (A.lc (by decide) (by decide) (by decide) (by decide)) ml_X11_88 yc_X3_init yi_X3_init rfl (by rw [eh24]; exact (t_X3 h23 158 159 143 (by decide) sh_158 sh_159 sh_160 sh_161 sh_162 sh_163 sh_164 rfl)) rfl rfl rfl (Nat.le_of_ble_eq_true rfl) dX11_init_159 ?_
  obtain ⟨h25, eh25, E⟩ := am_idE E
  refine ac_aast 162 (h2 := h25) C dX11_init_162 (by decide) sh_14 (Or.inr (Or.inl ⟨rfl, rfl⟩)) (by decide) (by decide) (congrArg Prod.fst sh_158) eh25 ?_
  refine am_iinc 163 (3 : Int32) (lv2 := [(2, .int (3 : Int32)), (1, .ref 143), (0, .ref 0)]) C dX11_init_163 0 rfl (by decide) (by decide) rfl ?_
  refine am_goto 166 143 C dX11_init_166 (by decide) ?_
  refine am_iload_n 143 C dX11_init_143 rfl 0 rfl ?_
  refine am_bipush 144 (6 : Int32) C dX11_init_144 (by decide) ?_
  refine am_icmp_ge 146 169 C dX11_init_146 (by decide) (fun q => absurd q (by decide)) (fun _ => ?_)
  refine am_aload_n 149 C dX11_init_149 rfl 2 rfl ?_
  refine am_getr 150 14 C fl_X11_29_10 dX11_init_150 (by decide) (congrArg Prod.fst sh_0) (by simp [eh25, eh24, eh23, eh22, eh21, eh20, eh19, eh18, eh17, eh16, eh15, eh14, eh13, eh12, eh11, eh10, eh9, eh8, eh7, eh6, eh5, eh4, eh3, eh2, eh1, am_ur, am_ui, am_up, c_X7, c_X8, c_X2, c_X5, c_X3, c_X6, c_X10, c_X0, c_X1_246, c_X9, c_X1_247, c_X4, am_id]) ?_
  refine am_iload_n 153 C dX11_init_153 rfl 0 rfl ?_
  refine am_new 154 tyX3 C (A.lc (by decide) (by decide) (by decide) (by decide)) rfl uw_X3 tyX3_ok cl_X11_27 ci_X3 cn_X3 (congrArg Prod.fst sh_165) (by decide) (by decide +kernel) dX11_init_154 ?_
  refine am_dup 157 C dX11_init_157 rfl ?_
  refine am_aload_n 158 C dX11_init_158 rfl 1 rfl ?_
  obtain ⟨h26, eh26, E⟩ := am_idE E
  refine ac_callI 159 2 6 848 172 (h2 := h26) (st := [.ref 165, .int (3 : Int32), .ref 14]) [.ref 143] C (A.lc (by decide) (by decide) (by decide) (by decide)) ml_X11_88 yc_X3_init yi_X3_init rfl (by rw [eh26]; exact (t_X3 h25 165 166 143 (by decide) sh_165 sh_166 sh_167 sh_168 sh_169 sh_170 sh_171 rfl)) rfl rfl rfl (Nat.le_of_ble_eq_true rfl) dX11_init_159 ?_
  obtain ⟨h27, eh27, E⟩ := am_idE E
  refine ac_aast 162 (h2 := h27) C dX11_init_162 (by decide) sh_14 (Or.inr (Or.inl ⟨rfl, rfl⟩)) (by decide) (by decide) (congrArg Prod.fst sh_165) eh27 ?_
  refine am_iinc 163 (4 : Int32) (lv2 := [(2, .int (4 : Int32)), (1, .ref 143), (0, .ref 0)]) C dX11_init_163 0 rfl (by decide) (by decide) rfl ?_
  refine am_goto 166 143 C dX11_init_166 (by decide) ?_
  refine am_iload_n 143 C dX11_init_143 rfl 0 rfl ?_
  refine am_bipush 144 (6 : Int32) C dX11_init_144 (by decide) ?_
  refine am_icmp_ge 146 169 C dX11_init_146 (by decide) (fun q => absurd q (by decide)) (fun _ => ?_)
  refine am_aload_n 149 C dX11_init_149 rfl 2 rfl ?_
  refine am_getr 150 14 C fl_X11_29_10 dX11_init_150 (by decide) (congrArg Prod.fst sh_0) (by simp [eh27, eh26, eh25, eh24, eh23, eh22, eh21, eh20, eh19, eh18, eh17, eh16, eh15, eh14, eh13, eh12, eh11, eh10, eh9, eh8, eh7, eh6, eh5, eh4, eh3, eh2, eh1, am_ur, am_ui, am_up, c_X7, c_X8, c_X2, c_X5, c_X3, c_X6, c_X10, c_X0, c_X1_246, c_X9, c_X1_247, c_X4, am_id]) ?_
  refine am_iload_n 153 C dX11_init_153 rfl 0 rfl ?_
  refine am_new 154 tyX3 C (A.lc (by decide) (by decide) (by decide) (by decide)) rfl uw_X3 tyX3_ok cl_X11_27 ci_X3 cn_X3 (congrArg Prod.fst sh_172) (by decide) (by decide +kernel) dX11_init_154 ?_
  refine am_dup 157 C dX11_init_157 rfl ?_
  refine am_aload_n 158 C dX11_init_158 rfl 1 rfl ?_
  obtain ⟨h28, eh28, E⟩ := am_idE E
  refine ac_callI 159 2 6 848 179 (h2 := h28) (st := [.ref 172, .int (4 : Int32), .ref 14]) [.ref 143] C (A.lc (by decide) (by decide) (by decide) (by decide)) ml_X11_88 yc_X3_init yi_X3_init rfl (by rw [eh28]; exact (t_X3 h27 172 173 143 (by decide) sh_172 sh_173 sh_174 sh_175 sh_176 sh_177 sh_178 rfl)) rfl rfl rfl (Nat.le_of_ble_eq_true rfl) dX11_init_159 ?_
  obtain ⟨h29, eh29, E⟩ := am_idE E
  refine ac_aast 162 (h2 := h29) C dX11_init_162 (by decide) sh_14 (Or.inr (Or.inl ⟨rfl, rfl⟩)) (by decide) (by decide) (congrArg Prod.fst sh_172) eh29 ?_
  refine am_iinc 163 (5 : Int32) (lv2 := [(2, .int (5 : Int32)), (1, .ref 143), (0, .ref 0)]) C dX11_init_163 0 rfl (by decide) (by decide) rfl ?_
  refine am_goto 166 143 C dX11_init_166 (by decide) ?_
  refine am_iload_n 143 C dX11_init_143 rfl 0 rfl ?_
  refine am_bipush 144 (6 : Int32) C dX11_init_144 (by decide) ?_
  refine am_icmp_ge 146 169 C dX11_init_146 (by decide) (fun q => absurd q (by decide)) (fun _ => ?_)
  refine am_aload_n 149 C dX11_init_149 rfl 2 rfl ?_
  refine am_getr 150 14 C fl_X11_29_10 dX11_init_150 (by decide) (congrArg Prod.fst sh_0) (by simp [eh29, eh28, eh27, eh26, eh25, eh24, eh23, eh22, eh21, eh20, eh19, eh18, eh17, eh16, eh15, eh14, eh13, eh12, eh11, eh10, eh9, eh8, eh7, eh6, eh5, eh4, eh3, eh2, eh1, am_ur, am_ui, am_up, c_X7, c_X8, c_X2, c_X5, c_X3, c_X6, c_X10, c_X0, c_X1_246, c_X9, c_X1_247, c_X4, am_id]) ?_
  refine am_iload_n 153 C dX11_init_153 rfl 0 rfl ?_
  refine am_new 154 tyX3 C (A.lc (by decide) (by decide) (by decide) (by decide)) rfl uw_X3 tyX3_ok cl_X11_27 ci_X3 cn_X3 (congrArg Prod.fst sh_179) (by decide) (by decide +kernel) dX11_init_154 ?_
  refine am_dup 157 C dX11_init_157 rfl ?_
  refine am_aload_n 158 C dX11_init_158 rfl 1 rfl ?_
  obtain ⟨h30, eh30, E⟩ := am_idE E
  refine ac_callI 159 2 6 848 186 (h2 := h30) (st := [.ref 179, .int (5 : Int32), .ref 14]) [.ref 143] C (A.lc (by decide) (by decide) (by decide) (by decide)) ml_X11_88 yc_X3_init yi_X3_init rfl (by rw [eh30]; exact (t_X3 h29 179 180 143 (by decide) sh_179 sh_180 sh_181 sh_182 sh_183 sh_184 sh_185 rfl)) rfl rfl rfl (Nat.le_of_ble_eq_true rfl) dX11_init_159 ?_
  obtain ⟨h31, eh31, E⟩ := am_idE E
  refine ac_aast 162 (h2 := h31) C dX11_init_162 (by decide) sh_14 (Or.inr (Or.inl ⟨rfl, rfl⟩)) (by decide) (by decide) (congrArg Prod.fst sh_179) eh31 ?_
  refine am_iinc 163 (6 : Int32) (lv2 := [(2, .int (6 : Int32)), (1, .ref 143), (0, .ref 0)]) C dX11_init_163 0 rfl (by decide) (by decide) rfl ?_
  refine am_goto 166 143 C dX11_init_166 (by decide) ?_
  refine am_iload_n 143 C dX11_init_143 rfl 0 rfl ?_
  refine am_bipush 144 (6 : Int32) C dX11_init_144 (by decide) ?_
  refine am_icmp_ge 146 169 C dX11_init_146 (by decide) (fun _ => ?_) (fun q => absurd (by decide) q)
  refine am_iconst 169 (0 : Int32) C dX11_init_169 (by decide) ?_
  refine am_istore_n 170 (lv2 := [(2, .int (0 : Int32)), (1, .ref 143), (0, .ref 0)]) C dX11_init_170 rfl (by decide) rfl ?_
  refine am_iload_n 171 C dX11_init_171 rfl 0 rfl ?_
  refine am_iconst 172 (4 : Int32) C dX11_init_172 (by decide) ?_
  refine am_icmp_ge 173 195 C dX11_init_173 (by decide) (fun q => absurd q (by decide)) (fun _ => ?_)
  refine am_aload_n 176 C dX11_init_176 rfl 2 rfl ?_
  refine am_getr 177 30 C fl_X11_40_10 dX11_init_177 (by decide) (congrArg Prod.fst sh_0) (by simp [eh31, eh30, eh29, eh28, eh27, eh26, eh25, eh24, eh23, eh22, eh21, eh20, eh19, eh18, eh17, eh16, eh15, eh14, eh13, eh12, eh11, eh10, eh9, eh8, eh7, eh6, eh5, eh4, eh3, eh2, eh1, am_ur, am_ui, am_up, c_X7, c_X8, c_X2, c_X5, c_X3, c_X6, c_X10, c_X0, c_X1_246, c_X9, c_X1_247, c_X4, am_id]) ?_
  refine am_iload_n 180 C dX11_init_180 rfl 0 rfl ?_
  refine am_new 181 tyX5 C (A.lc (by decide) (by decide) (by decide) (by decide)) rfl uw_X5 tyX5_ok cl_X11_33 ci_X5 cn_X5 (congrArg Prod.fst sh_186) (by decide) (by decide +kernel) dX11_init_181 ?_
  refine am_dup 184 C dX11_init_184 rfl ?_
  obtain ⟨h32, eh32, E⟩ := am_idE E
  refine ac_callIN 185 3 14 388 201 (h2 := h32) (st := [.ref 186, .int (0 : Int32), .ref 30]) [] C (A.lc (by decide) (by decide) (by decide) (by decide)) mn_X11_35 yc_X5_init yi_X5_init rfl (by rw [eh32]; exact (t_X5 h31 186 187  (by decide) sh_186 sh_187 sh_188 sh_189 sh_190 sh_191 sh_192 sh_193 sh_194 sh_195 sh_196 sh_197 sh_198 sh_199 sh_200 rfl)) rfl rfl rfl (Nat.le_of_ble_eq_true rfl) dX11_init_185 ?_
  obtain ⟨h33, eh33, E⟩ := am_idE E
  refine ac_aast 188 (h2 := h33) C dX11_init_188 (by decide) sh_30 (Or.inr (Or.inr ⟨rfl, rfl⟩)) (by decide) (by decide) (congrArg Prod.fst sh_186) eh33 ?_
  refine am_iinc 189 (1 : Int32) (lv2 := [(2, .int (1 : Int32)), (1, .ref 143), (0, .ref 0)]) C dX11_init_189 0 rfl (by decide) (by decide) rfl ?_
  refine am_goto 192 171 C dX11_init_192 (by decide) ?_
  refine am_iload_n 171 C dX11_init_171 rfl 0 rfl ?_
  refine am_iconst 172 (4 : Int32) C dX11_init_172 (by decide) ?_
  refine am_icmp_ge 173 195 C dX11_init_173 (by decide) (fun q => absurd q (by decide)) (fun _ => ?_)
  refine am_aload_n 176 C dX11_init_176 rfl 2 rfl ?_
  refine am_getr 177 30 C fl_X11_40_10 dX11_init_177 (by decide) (congrArg Prod.fst sh_0) (by simp [eh33, eh32, eh31, eh30, eh29, eh28, eh27, eh26, eh25, eh24, eh23, eh22, eh21, eh20, eh19, eh18, eh17, eh16, eh15, eh14, eh13, eh12, eh11, eh10, eh9, eh8, eh7, eh6, eh5, eh4, eh3, eh2, eh1, am_ur, am_ui, am_up, c_X7, c_X8, c_X2, c_X5, c_X3, c_X6, c_X10, c_X0, c_X1_246, c_X9, c_X1_247, c_X4, am_id]) ?_
  refine am_iload_n 180 C dX11_init_180 rfl 0 rfl ?_
  refine am_new 181 tyX5 C (A.lc (by decide) (by decide) (by decide) (by decide)) rfl uw_X5 tyX5_ok cl_X11_33 ci_X5 cn_X5 (congrArg Prod.fst sh_201) (by decide) (by decide +kernel) dX11_init_181 ?_
  refine am_dup 184 C dX11_init_184 rfl ?_
  obtain ⟨h34, eh34, E⟩ := am_idE E
  refine ac_callIN 185 3 14 388 216 (h2 := h34) (st := [.ref 201, .int (1 : Int32), .ref 30]) [] C (A.lc (by decide) (by decide) (by decide) (by decide)) mn_X11_35 yc_X5_init yi_X5_init rfl (by rw [eh34]; exact (t_X5 h33 201 202  (by decide) sh_201 sh_202 sh_203 sh_204 sh_205 sh_206 sh_207 sh_208 sh_209 sh_210 sh_211 sh_212 sh_213 sh_214 sh_215 rfl)) rfl rfl rfl (Nat.le_of_ble_eq_true rfl) dX11_init_185 ?_
  obtain ⟨h35, eh35, E⟩ := am_idE E
  refine ac_aast 188 (h2 := h35) C dX11_init_188 (by decide) sh_30 (Or.inr (Or.inr ⟨rfl, rfl⟩)) (by decide) (by decide) (congrArg Prod.fst sh_201) eh35 ?_
  refine am_iinc 189 (2 : Int32) (lv2 := [(2, .int (2 : Int32)), (1, .ref 143), (0, .ref 0)]) C dX11_init_189 0 rfl (by decide) (by decide) rfl ?_
  refine am_goto 192 171 C dX11_init_192 (by decide) ?_
  refine am_iload_n 171 C dX11_init_171 rfl 0 rfl ?_
  refine am_iconst 172 (4 : Int32) C dX11_init_172 (by decide) ?_
  refine am_icmp_ge 173 195 C dX11_init_173 (by decide) (fun q => absurd q (by decide)) (fun _ => ?_)
  refine am_aload_n 176 C dX11_init_176 rfl 2 rfl ?_
  refine am_getr 177 30 C fl_X11_40_10 dX11_init_177 (by decide) (congrArg Prod.fst sh_0) (by simp [eh35, eh34, eh33, eh32, eh31, eh30, eh29, eh28, eh27, eh26, eh25, eh24, eh23, eh22, eh21, eh20, eh19, eh18, eh17, eh16, eh15, eh14, eh13, eh12, eh11, eh10, eh9, eh8, eh7, eh6, eh5, eh4, eh3, eh2, eh1, am_ur, am_ui, am_up, c_X7, c_X8, c_X2, c_X5, c_X3, c_X6, c_X10, c_X0, c_X1_246, c_X9, c_X1_247, c_X4, am_id]) ?_
  refine am_iload_n 180 C dX11_init_180 rfl 0 rfl ?_
  refine am_new 181 tyX5 C (A.lc (by decide) (by decide) (by decide) (by decide)) rfl uw_X5 tyX5_ok cl_X11_33 ci_X5 cn_X5 (congrArg Prod.fst sh_216) (by decide) (by decide +kernel) dX11_init_181 ?_
  refine am_dup 184 C dX11_init_184 rfl ?_
  obtain ⟨h36, eh36, E⟩ := am_idE E
  refine ac_callIN 185 3 14 388 231 (h2 := h36) (st := [.ref 216, .int (2 : Int32), .ref 30]) [] C (A.lc (by decide) (by decide) (by decide) (by decide)) mn_X11_35 yc_X5_init yi_X5_init rfl (by rw [eh36]; exact (t_X5 h35 216 217  (by decide) sh_216 sh_217 sh_218 sh_219 sh_220 sh_221 sh_222 sh_223 sh_224 sh_225 sh_226 sh_227 sh_228 sh_229 sh_230 rfl)) rfl rfl rfl (Nat.le_of_ble_eq_true rfl) dX11_init_185 ?_
  obtain ⟨h37, eh37, E⟩ := am_idE E
  refine ac_aast 188 (h2 := h37) C dX11_init_188 (by decide) sh_30 (Or.inr (Or.inr ⟨rfl, rfl⟩)) (by decide) (by decide) (congrArg Prod.fst sh_216) eh37 ?_
  refine am_iinc 189 (3 : Int32) (lv2 := [(2, .int (3 : Int32)), (1, .ref 143), (0, .ref 0)]) C dX11_init_189 0 rfl (by decide) (by decide) rfl ?_
  refine am_goto 192 171 C dX11_init_192 (by decide) ?_
  refine am_iload_n 171 C dX11_init_171 rfl 0 rfl ?_
  refine am_iconst 172 (4 : Int32) C dX11_init_172 (by decide) ?_
  refine am_icmp_ge 173 195 C dX11_init_173 (by decide) (fun q => absurd q (by decide)) (fun _ => ?_)
  refine am_aload_n 176 C dX11_init_176 rfl 2 rfl ?_
  refine am_getr 177 30 C fl_X11_40_10 dX11_init_177 (by decide) (congrArg Prod.fst sh_0) (by simp [eh37, eh36, eh35, eh34, eh33, eh32, eh31, eh30, eh29, eh28, eh27, eh26, eh25, eh24, eh23, eh22, eh21, eh20, eh19, eh18, eh17, eh16, eh15, eh14, eh13, eh12, eh11, eh10, eh9, eh8, eh7, eh6, eh5, eh4, eh3, eh2, eh1, am_ur, am_ui, am_up, c_X7, c_X8, c_X2, c_X5, c_X3, c_X6, c_X10, c_X0, c_X1_246, c_X9, c_X1_247, c_X4, am_id]) ?_
  refine am_iload_n 180 C dX11_init_180 rfl 0 rfl ?_
  refine am_new 181 tyX5 C (A.lc (by decide) (by decide) (by decide) (by decide)) rfl uw_X5 tyX5_ok cl_X11_33 ci_X5 cn_X5 (congrArg Prod.fst sh_231) (by decide) (by decide +kernel) dX11_init_181 ?_
  refine am_dup 184 C dX11_init_184 rfl ?_
  obtain ⟨h38, eh38, E⟩ := am_idE E
  refine ac_callIN 185 3 14 388 246 (h2 := h38) (st := [.ref 231, .int (3 : Int32), .ref 30]) [] C (A.lc (by decide) (by decide) (by decide) (by decide)) mn_X11_35 yc_X5_init yi_X5_init rfl (by rw [eh38]; exact (t_X5 h37 231 232  (by decide) sh_231 sh_232 sh_233 sh_234 sh_235 sh_236 sh_237 sh_238 sh_239 sh_240 sh_241 sh_242 sh_243 sh_244 sh_245 rfl)) rfl rfl rfl (Nat.le_of_ble_eq_true rfl) dX11_init_185 ?_
  obtain ⟨h39, eh39, E⟩ := am_idE E
  refine ac_aast 188 (h2 := h39) C dX11_init_188 (by decide) sh_30 (Or.inr (Or.inr ⟨rfl, rfl⟩)) (by decide) (by decide) (congrArg Prod.fst sh_231) eh39 ?_
  refine am_iinc 189 (4 : Int32) (lv2 := [(2, .int (4 : Int32)), (1, .ref 143), (0, .ref 0)]) C dX11_init_189 0 rfl (by decide) (by decide) rfl ?_
  refine am_goto 192 171 C dX11_init_192 (by decide) ?_
  refine am_iload_n 171 C dX11_init_171 rfl 0 rfl ?_
  refine am_iconst 172 (4 : Int32) C dX11_init_172 (by decide) ?_
  refine am_icmp_ge 173 195 C dX11_init_173 (by decide) (fun _ => ?_) (fun q => absurd (by decide) q)
  refine am_aload_n 195 C dX11_init_195 rfl 2 rfl ?_
  refine am_new 196 tyX9 C (A.lc (by decide) (by decide) (by decide) (by decide)) rfl uw_X9 tyX9_ok cl_X11_91 ci_X9 cn_X9 (congrArg Prod.fst sh_246) (by decide) (by decide +kernel) dX11_init_196 ?_
  refine am_dup 199 C dX11_init_199 rfl ?_
  refine am_aload_n 200 C dX11_init_200 rfl 2 rfl ?_
  refine am_getr 201 2 C fl_X11_16_10 dX11_init_201 (by decide) (congrArg Prod.fst sh_0) (by simp [eh39, eh38, eh37, eh36, eh35, eh34, eh33, eh32, eh31, eh30, eh29, eh28, eh27, eh26, eh25, eh24, eh23, eh22, eh21, eh20, eh19, eh18, eh17, eh16, eh15, eh14, eh13, eh12, eh11, eh10, eh9, eh8, eh7, eh6, eh5, eh4, eh3, eh2, eh1, am_ur, am_ui, am_up, c_X7, c_X8, c_X2, c_X5, c_X3, c_X6, c_X10, c_X0, c_X1_246, c_X9, c_X1_247, c_X4, am_id]) ?_
  refine am_aload_n 204 C dX11_init_204 rfl 2 rfl ?_
  refine am_getr 205 6 C fl_X11_23_10 dX11_init_205 (by decide) (congrArg Prod.fst sh_0) (by simp [eh39, eh38, eh37, eh36, eh35, eh34, eh33, eh32, eh31, eh30, eh29, eh28, eh27, eh26, eh25, eh24, eh23, eh22, eh21, eh20, eh19, eh18, eh17, eh16, eh15, eh14, eh13, eh12, eh11, eh10, eh9, eh8, eh7, eh6, eh5, eh4, eh3, eh2, eh1, am_ur, am_ui, am_up, c_X7, c_X8, c_X2, c_X5, c_X3, c_X6, c_X10, c_X0, c_X1_246, c_X9, c_X1_247, c_X4, am_id]) ?_
  obtain ⟨h40, eh40, E⟩ := am_idE E
  refine ac_callI 208 3 0 0 247 (h2 := h40) (st := [.ref 246, .ref 0]) [.ref 2, .ref 6] C (A.lc (by decide) (by decide) (by decide) (by decide)) ml_X11_93 yc_X9_init yi_X9_init rfl (by rw [eh40]; exact (t_X9 h39 rfl)) rfl rfl rfl (Nat.le_of_ble_eq_true rfl) dX11_init_208 ?_
  obtain ⟨h41, eh41, E⟩ := am_idE E
  refine ac_putr 211 C fl_X11_96_10 dX11_init_211 (by decide) (congrArg Prod.fst sh_0) (fun _ => rfl) (fun _ => rfl) (Or.inr ⟨rfl, I, _, rfl, rfl, am_in 527 (by decide +kernel) rfl⟩) eh41 ?_
  refine am_aload_n 214 C dX11_init_214 rfl 2 rfl ?_
  refine am_new 215 tyX4 C (A.lc (by decide) (by decide) (by decide) (by decide)) rfl uw_X4 tyX4_ok cl_X11_100 ci_X4 cn_X4 (congrArg Prod.fst sh_247) (by decide) (by decide +kernel) dX11_init_215 ?_
  refine am_dup 218 C dX11_init_218 rfl ?_
  refine am_aload_n 219 C dX11_init_219 rfl 2 rfl ?_
  refine am_getr 220 2 C fl_X11_16_10 dX11_init_220 (by decide) (congrArg Prod.fst sh_0) (by simp [eh41, eh40, eh39, eh38, eh37, eh36, eh35, eh34, eh33, eh32, eh31, eh30, eh29, eh28, eh27, eh26, eh25, eh24, eh23, eh22, eh21, eh20, eh19, eh18, eh17, eh16, eh15, eh14, eh13, eh12, eh11, eh10, eh9, eh8, eh7, eh6, eh5, eh4, eh3, eh2, eh1, am_ur, am_ui, am_up, c_X7, c_X8, c_X2, c_X5, c_X3, c_X6, c_X10, c_X0, c_X1_246, c_X9, c_X1_247, c_X4, am_id]) ?_
  refine am_aload_n 223 C dX11_init_223 rfl 2 rfl ?_
  refine am_getr 224 14 C fl_X11_29_10 dX11_init_224 (by decide) (congrArg Prod.fst sh_0) (by simp [eh41, eh40, eh39, eh38, eh37, eh36, eh35, eh34, eh33, eh32, eh31, eh30, eh29, eh28, eh27, eh26, eh25, eh24, eh23, eh22, eh21, eh20, eh19, eh18, eh17, eh16, eh15, eh14, eh13, eh12, eh11, eh10, eh9, eh8, eh7, eh6, eh5, eh4, eh3, eh2, eh1, am_ur, am_ui, am_up, c_X7, c_X8, c_X2, c_X5, c_X3, c_X6, c_X10, c_X0, c_X1_246, c_X9, c_X1_247, c_X4, am_id]) ?_
  refine am_iconst 227 (0 : Int32) C dX11_init_227 (by decide) ?_
  refine am_aald 228 (q := 144) C dX11_init_228 (by decide) sh_14 (by decide) (am_vin (by decide)) (by show _ = _; simp [eh41, eh40, eh39, eh38, eh37, eh36, eh35, eh34, eh33, eh32, eh31, eh30, eh29, eh28, eh27, eh26, eh25, eh24, eh23, eh22, eh21, eh20, eh19, eh18, eh17, eh16, eh15, eh14, eh13, eh12, eh11, eh10, eh9, eh8, eh7, eh6, eh5, eh4, eh3, eh2, eh1, am_ur, am_ui, am_up, c_X7, c_X8, c_X2, c_X5, c_X3, c_X6, c_X10, c_X0, c_X1_246, c_X9, c_X1_247, c_X4, am_id]) ?_
  obtain ⟨h42, eh42, E⟩ := am_idE E
  refine ac_callI 229 3 0 0 248 (h2 := h42) (st := [.ref 247, .ref 0]) [.ref 2, .ref 144] C (A.lc (by decide) (by decide) (by decide) (by decide)) ml_X11_102 yc_X4_init yi_X4_init rfl (by rw [eh42]; exact (t_X4 h41 rfl)) rfl rfl rfl (Nat.le_of_ble_eq_true rfl) dX11_init_229 ?_
  obtain ⟨h43, eh43, E⟩ := am_idE E
  refine ac_putr 232 C fl_X11_105_10 dX11_init_232 (by decide) (congrArg Prod.fst sh_0) (fun _ => rfl) (fun _ => rfl) (Or.inr ⟨rfl, I, _, rfl, rfl, am_in 528 (by decide +kernel) rfl⟩) eh43 ?_
  subst E
  exact am_vret 235 C Z dX11_init_235
def c_X12 (h : am_H)  : am_H :=
  am_id (am_ur h 248 0 249) (fun h1 => am_id (am_ur h1 248 3 250) (fun h2 => am_id (am_ur h2 248 4 251) (fun h3 => am_id (am_ur h3 248 5 252) (fun h4 => am_id (am_ur h4 248 6 253) (fun h5 => am_id (am_ur h5 248 7 254) (fun h6 => am_id (am_ur h6 248 15 255) (fun h7 => am_id (am_ur h7 248 17 256) (fun h8 => am_id (am_ur h8 248 19 257) (fun h9 => am_id (am_ur h9 248 20 258) (fun h10 => am_id (am_ui h10 248 21 (-1)) (fun h11 => am_id (am_ur h11 248 23 259) (fun h12 => am_id (am_ur h12 248 24 260) (fun h13 => am_id (am_ur h13 248 26 261) (fun h14 => am_id (am_ur h14 248 28 262) (fun h15 => am_id (am_ur h15 248 29 263) (fun h16 => am_id (am_ur h16 248 30 264) (fun h17 => am_id (am_ur h17 248 31 265) (fun h18 => h18))))))))))))))))))
set_option maxRecDepth 100000 in
set_option maxHeartbeats 8000000 in
theorem t_X12 (h : am_H)  {z : am_H} (E : z = c_X12 h) : AM yX12_init cX12_init 1 none 2 17 8311 [.ref 248] 249 h (none, 266, z) := by
  unfold c_X12 at E
  refine am_met (by decide +kernel) (by simp [lg_sl, Value.category]) (fun x C A Z I => ?_)
  replace I := I rfl
  show AX x 0 0 0 [(0, .ref 248)] [] 249 h
  refine am_aload_n 0 C dX12_init_0 rfl 0 rfl ?_
  refine am_objInit 1 C (A.lc (by decide) (by decide) (by decide) (by decide)) ml_X12_1 jo_1 jo_2 (Nat.le_of_ble_eq_true rfl) dX12_init_1 ?_
  refine am_aload_n 4 C dX12_init_4 rfl 0 rfl ?_
  refine am_sipush 5 (400 : Int32) C dX12_init_5 (by decide) ?_
  refine am_newa 8 (atype := .byte) (kd := 12) (N := 400) C (A.lc (by decide) (by decide) (by decide) (by decide)) (Or.inl ⟨rfl, rfl⟩) ca_byte sh_249 (by decide) (by decide) (by decide) dX12_init_8 ?_
  obtain ⟨h1, eh1, E⟩ := am_idE E
  refine ac_putr 10 C fl_X12_7_11 dX12_init_10 (by decide) (congrArg Prod.fst sh_248) (fun _ => rfl) (fun _ => rfl) (Or.inr ⟨rfl, I, _, rfl, rfl, am_in 1234 (by decide +kernel) rfl⟩) eh1 ?_
  refine am_aload_n 13 C dX12_init_13 rfl 0 rfl ?_
  refine am_sipush 14 (2400 : Int32) C dX12_init_14 (by decide) ?_
  refine am_newa 17 (atype := .int) (kd := 13) (N := 2400) C (A.lc (by decide) (by decide) (by decide) (by decide)) (Or.inr (Or.inl ⟨rfl, rfl⟩)) ca_int sh_250 (by decide) (by decide) (by decide) dX12_init_17 ?_
  obtain ⟨h2, eh2, E⟩ := am_idE E
  refine ac_putr 19 C fl_X12_13_11 dX12_init_19 (by decide) (congrArg Prod.fst sh_248) (fun _ => rfl) (fun _ => rfl) (Or.inr ⟨rfl, I, _, rfl, rfl, am_in 1237 (by decide +kernel) rfl⟩) eh2 ?_
  refine am_aload_n 22 C dX12_init_22 rfl 0 rfl ?_
  refine am_bipush 23 (7 : Int32) C dX12_init_23 (by decide) ?_
  refine am_newa 25 (atype := .int) (kd := 13) (N := 7) C (A.lc (by decide) (by decide) (by decide) (by decide)) (Or.inr (Or.inl ⟨rfl, rfl⟩)) ca_int sh_251 (by decide) (by decide) (by decide) dX12_init_25 ?_
  obtain ⟨h3, eh3, E⟩ := am_idE E
  refine ac_putr 27 C fl_X12_17_11 dX12_init_27 (by decide) (congrArg Prod.fst sh_248) (fun _ => rfl) (fun _ => rfl) (Or.inr ⟨rfl, I, _, rfl, rfl, am_in 1238 (by decide +kernel) rfl⟩) eh3 ?_
  refine am_aload_n 30 C dX12_init_30 rfl 0 rfl ?_
  refine am_sipush 31 (360 : Int32) C dX12_init_31 (by decide) ?_
  refine am_newa 34 (atype := .int) (kd := 13) (N := 360) C (A.lc (by decide) (by decide) (by decide) (by decide)) (Or.inr (Or.inl ⟨rfl, rfl⟩)) ca_int sh_252 (by decide) (by decide) (by decide) dX12_init_34 ?_
  obtain ⟨h4, eh4, E⟩ := am_idE E
  refine ac_putr 36 C fl_X12_20_11 dX12_init_36 (by decide) (congrArg Prod.fst sh_248) (fun _ => rfl) (fun _ => rfl) (Or.inr ⟨rfl, I, _, rfl, rfl, am_in 1239 (by decide +kernel) rfl⟩) eh4 ?_
  refine am_aload_n 39 C dX12_init_39 rfl 0 rfl ?_
  refine am_bipush 40 (6 : Int32) C dX12_init_40 (by decide) ?_
  refine am_newa 42 (atype := .int) (kd := 13) (N := 6) C (A.lc (by decide) (by decide) (by decide) (by decide)) (Or.inr (Or.inl ⟨rfl, rfl⟩)) ca_int sh_253 (by decide) (by decide) (by decide) dX12_init_42 ?_
  obtain ⟨h5, eh5, E⟩ := am_idE E
  refine ac_putr 44 C fl_X12_23_11 dX12_init_44 (by decide) (congrArg Prod.fst sh_248) (fun _ => rfl) (fun _ => rfl) (Or.inr ⟨rfl, I, _, rfl, rfl, am_in 1240 (by decide +kernel) rfl⟩) eh5 ?_
  refine am_aload_n 47 C dX12_init_47 rfl 0 rfl ?_
  refine am_sipush 48 (270 : Int32) C dX12_init_48 (by decide) ?_
  refine am_newa 51 (atype := .int) (kd := 13) (N := 270) C (A.lc (by decide) (by decide) (by decide) (by decide)) (Or.inr (Or.inl ⟨rfl, rfl⟩)) ca_int sh_254 (by decide) (by decide) (by decide) dX12_init_51 ?_
  obtain ⟨h6, eh6, E⟩ := am_idE E
  refine ac_putr 53 C fl_X12_26_11 dX12_init_53 (by decide) (congrArg Prod.fst sh_248) (fun _ => rfl) (fun _ => rfl) (Or.inr ⟨rfl, I, _, rfl, rfl, am_in 1241 (by decide +kernel) rfl⟩) eh6 ?_
  refine am_aload_n 56 C dX12_init_56 rfl 0 rfl ?_
  refine am_sipush 57 (400 : Int32) C dX12_init_57 (by decide) ?_
  refine am_newa 60 (atype := .int) (kd := 13) (N := 400) C (A.lc (by decide) (by decide) (by decide) (by decide)) (Or.inr (Or.inl ⟨rfl, rfl⟩)) ca_int sh_255 (by decide) (by decide) (by decide) dX12_init_60 ?_
  obtain ⟨h7, eh7, E⟩ := am_idE E
  refine ac_putr 62 C fl_X12_29_11 dX12_init_62 (by decide) (congrArg Prod.fst sh_248) (fun _ => rfl) (fun _ => rfl) (Or.inr ⟨rfl, I, _, rfl, rfl, am_in 1249 (by decide +kernel) rfl⟩) eh7 ?_
  refine am_aload_n 65 C dX12_init_65 rfl 0 rfl ?_
  refine am_bipush 66 (64 : Int32) C dX12_init_66 (by decide) ?_
  refine am_newa 68 (atype := .long) (kd := 14) (N := 64) C (A.lc (by decide) (by decide) (by decide) (by decide)) (Or.inr (Or.inr (Or.inl ⟨rfl, rfl⟩))) ca_long sh_256 (by decide) (by decide) (by decide) dX12_init_68 ?_
  obtain ⟨h8, eh8, E⟩ := am_idE E
  refine ac_putr 70 C fl_X12_32_11 dX12_init_70 (by decide) (congrArg Prod.fst sh_248) (fun _ => rfl) (fun _ => rfl) (Or.inr ⟨rfl, I, _, rfl, rfl, am_in 1251 (by decide +kernel) rfl⟩) eh8 ?_
  refine am_aload_n 73 C dX12_init_73 rfl 0 rfl ?_
  refine am_bipush 74 (14 : Int32) C dX12_init_74 (by decide) ?_
  refine am_newa 76 (atype := .long) (kd := 14) (N := 14) C (A.lc (by decide) (by decide) (by decide) (by decide)) (Or.inr (Or.inr (Or.inl ⟨rfl, rfl⟩))) ca_long sh_257 (by decide) (by decide) (by decide) dX12_init_76 ?_
  obtain ⟨h9, eh9, E⟩ := am_idE E
  refine ac_putr 78 C fl_X12_36_11 dX12_init_78 (by decide) (congrArg Prod.fst sh_248) (fun _ => rfl) (fun _ => rfl) (Or.inr ⟨rfl, I, _, rfl, rfl, am_in 1253 (by decide +kernel) rfl⟩) eh9 ?_
  refine am_aload_n 81 C dX12_init_81 rfl 0 rfl ?_
  refine am_sipush 82 (328 : Int32) C dX12_init_82 (by decide) ?_
  refine am_newa 85 (atype := .int) (kd := 13) (N := 328) C (A.lc (by decide) (by decide) (by decide) (by decide)) (Or.inr (Or.inl ⟨rfl, rfl⟩)) ca_int sh_258 (by decide) (by decide) (by decide) dX12_init_85 ?_
  obtain ⟨h10, eh10, E⟩ := am_idE E
  refine ac_putr 87 C fl_X12_39_11 dX12_init_87 (by decide) (congrArg Prod.fst sh_248) (fun _ => rfl) (fun _ => rfl) (Or.inr ⟨rfl, I, _, rfl, rfl, am_in 1254 (by decide +kernel) rfl⟩) eh10 ?_
  refine am_aload_n 90 C dX12_init_90 rfl 0 rfl ?_
  refine am_iconst 91 (-1 : Int32) C dX12_init_91 (by decide) ?_
  obtain ⟨h11, eh11, E⟩ := am_idE E
  refine ac_puti 92 C fl_X12_42_11 dX12_init_92 (by decide) (congrArg Prod.fst sh_248) eh11 ?_
  refine am_aload_n 95 C dX12_init_95 rfl 0 rfl ?_
  refine am_bipush 96 (8 : Int32) C dX12_init_96 (by decide) ?_
  refine am_newa 98 (atype := .int) (kd := 13) (N := 8) C (A.lc (by decide) (by decide) (by decide) (by decide)) (Or.inr (Or.inl ⟨rfl, rfl⟩)) ca_int sh_259 (by decide) (by decide) (by decide) dX12_init_98 ?_
  obtain ⟨h12, eh12, E⟩ := am_idE E
  refine ac_putr 100 C fl_X12_46_11 dX12_init_100 (by decide) (congrArg Prod.fst sh_248) (fun _ => rfl) (fun _ => rfl) (Or.inr ⟨rfl, I, _, rfl, rfl, am_in 1257 (by decide +kernel) rfl⟩) eh12 ?_
  refine am_aload_n 103 C dX12_init_103 rfl 0 rfl ?_
  refine am_sipush 104 (2600 : Int32) C dX12_init_104 (by decide) ?_
  refine am_newa 107 (atype := .int) (kd := 13) (N := 2600) C (A.lc (by decide) (by decide) (by decide) (by decide)) (Or.inr (Or.inl ⟨rfl, rfl⟩)) ca_int sh_260 (by decide) (by decide) (by decide) dX12_init_107 ?_
  obtain ⟨h13, eh13, E⟩ := am_idE E
  refine ac_putr 109 C fl_X12_49_11 dX12_init_109 (by decide) (congrArg Prod.fst sh_248) (fun _ => rfl) (fun _ => rfl) (Or.inr ⟨rfl, I, _, rfl, rfl, am_in 1258 (by decide +kernel) rfl⟩) eh13 ?_
  refine am_aload_n 112 C dX12_init_112 rfl 0 rfl ?_
  refine am_sipush 113 (130 : Int32) C dX12_init_113 (by decide) ?_
  refine am_newa 116 (atype := .int) (kd := 13) (N := 130) C (A.lc (by decide) (by decide) (by decide) (by decide)) (Or.inr (Or.inl ⟨rfl, rfl⟩)) ca_int sh_261 (by decide) (by decide) (by decide) dX12_init_116 ?_
  obtain ⟨h14, eh14, E⟩ := am_idE E
  refine ac_putr 118 C fl_X12_52_11 dX12_init_118 (by decide) (congrArg Prod.fst sh_248) (fun _ => rfl) (fun _ => rfl) (Or.inr ⟨rfl, I, _, rfl, rfl, am_in 1260 (by decide +kernel) rfl⟩) eh14 ?_
  refine am_aload_n 121 C dX12_init_121 rfl 0 rfl ?_
  refine am_sipush 122 (1312 : Int32) C dX12_init_122 (by decide) ?_
  refine am_newa 125 (atype := .int) (kd := 13) (N := 1312) C (A.lc (by decide) (by decide) (by decide) (by decide)) (Or.inr (Or.inl ⟨rfl, rfl⟩)) ca_int sh_262 (by decide) (by decide) (by decide) dX12_init_125 ?_
  obtain ⟨h15, eh15, E⟩ := am_idE E
  refine ac_putr 127 C fl_X12_55_11 dX12_init_127 (by decide) (congrArg Prod.fst sh_248) (fun _ => rfl) (fun _ => rfl) (Or.inr ⟨rfl, I, _, rfl, rfl, am_in 1262 (by decide +kernel) rfl⟩) eh15 ?_
  refine am_aload_n 130 C dX12_init_130 rfl 0 rfl ?_
  refine am_iconst 131 (4 : Int32) C dX12_init_131 (by decide) ?_
  refine am_newa 132 (atype := .int) (kd := 13) (N := 4) C (A.lc (by decide) (by decide) (by decide) (by decide)) (Or.inr (Or.inl ⟨rfl, rfl⟩)) ca_int sh_263 (by decide) (by decide) (by decide) dX12_init_132 ?_
  obtain ⟨h16, eh16, E⟩ := am_idE E
  refine ac_putr 134 C fl_X12_58_11 dX12_init_134 (by decide) (congrArg Prod.fst sh_248) (fun _ => rfl) (fun _ => rfl) (Or.inr ⟨rfl, I, _, rfl, rfl, am_in 1263 (by decide +kernel) rfl⟩) eh16 ?_
  refine am_aload_n 137 C dX12_init_137 rfl 0 rfl ?_
  refine am_iconst 138 (4 : Int32) C dX12_init_138 (by decide) ?_
  refine am_newa 139 (atype := .int) (kd := 13) (N := 4) C (A.lc (by decide) (by decide) (by decide) (by decide)) (Or.inr (Or.inl ⟨rfl, rfl⟩)) ca_int sh_264 (by decide) (by decide) (by decide) dX12_init_139 ?_
  obtain ⟨h17, eh17, E⟩ := am_idE E
  refine ac_putr 141 C fl_X12_61_11 dX12_init_141 (by decide) (congrArg Prod.fst sh_248) (fun _ => rfl) (fun _ => rfl) (Or.inr ⟨rfl, I, _, rfl, rfl, am_in 1264 (by decide +kernel) rfl⟩) eh17 ?_
  refine am_aload_n 144 C dX12_init_144 rfl 0 rfl ?_
  refine am_iconst 145 (4 : Int32) C dX12_init_145 (by decide) ?_
  refine am_newa 146 (atype := .boolean) (kd := 15) (N := 4) C (A.lc (by decide) (by decide) (by decide) (by decide)) (Or.inr (Or.inr (Or.inr ⟨rfl, rfl⟩))) ca_boolean sh_265 (by decide) (by decide) (by decide) dX12_init_146 ?_
  obtain ⟨h18, eh18, E⟩ := am_idE E
  refine ac_putr 148 C fl_X12_64_11 dX12_init_148 (by decide) (congrArg Prod.fst sh_248) (fun _ => rfl) (fun _ => rfl) (Or.inr ⟨rfl, I, _, rfl, rfl, am_in 1265 (by decide +kernel) rfl⟩) eh18 ?_
  subst E
  exact am_vret 151 C Z dX12_init_151
