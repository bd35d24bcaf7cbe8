section AMS
variable {x : am_X} {own : String} {cc : ByteArray} {nL ce sl n : Nat} {lv : List (Nat × Value)} {st : List Value} {h : am_H}
/-- a field as the pool's entry names it: class number, slot, plane; its type, whether final -/
def AF (own : String) (idx ci k t : Nat) (ty : FieldType) (fin : Bool) : Prop :=
  ∃ (C : String) (T : u_T) (N : Nat) (ref : String) (ty0 : Nat → FieldType), vwCl[ci]? = some (C, T, N) ∧ (∀ w ∈ u_ws C T N, w ∈ am_tbl) ∧ k < N ∧ (am_ft ci)[k]? = some t ∧ ci < 12 ∧
  (∀ (args : Array Value) (s : State), (∀ w ∈ am_tbl, w.before args s = true) → ∀ z, s.fieldFound? (T k).1 (T k).2.1 (T k).2.2.1 = some z → s.fieldFound? ref (T k).2.1 (T k).2.2.1 = some z) ∧
  (Cond.fieldLink own idx ref (T k).2.1 (T k).2.2.1 ∈ am_tbl ∨ (fin = false ∧ ∃ host, Cond.fieldLinkNest own idx ref (T k).2.1 (T k).2.2.1 host ∈ am_nest) ∨ (fin = true ∧ ∃ host, Cond.fieldLinkNest own idx ref (T k).2.1 (T k).2.2.1 host ∈ am_nest)) ∧
  (∀ k, k < N → parseFieldDescriptor (T k).2.2.1 = some (ty0 k)) ∧ (∀ a, a < N → ∀ b, b < N → a ≠ b → (T a).2.1 ≠ (T b).2.1) ∧ parseFieldDescriptor (T k).2.2.1 = some ty ∧ (T k).2.2.2 = fin
theorem am_cell_obj {b a ci : Nat} {cs : Nat → ClassId} {h : am_H} (hci : ci < 12) (hs : (am_sh a).1 = ci) : am_cell b cs h a (am_sh a) = .inr (ci, am_fs b h a (am_ft ci)) := by
  unfold am_cell
  rw [hs, if_pos hci]
theorem am_get (pc : Nat) {idx ci k t a : Nat} {ty : FieldType} {fin : Bool} {v : Value} (C : AC x own cc nL) (f : AF own idx ci k t ty fin) (d : decode cc pc = .ok (.getfield idx, 3)) (ha : a < n) (hs : (am_sh a).1 = ci) (hv : ∀ b, am_fv b h a k t = am_v b v) (kk : AX x ce sl (pc + 3) lv (v :: st) n h) : AX x ce sl pc lv (.ref a :: st) n h := by
  obtain ⟨p, l, e, R, s, m, args, below, meth, c, b, D, cs, Q⟩ := x
  intro H ls locs i1 i2 i3 i4 i5 i6
  obtain ⟨Cn, T, N, ref, ty0, f1, f2, f3, f4, f5, f6, f7, -⟩ := f
  have he : (am_ws b cs n h)[a]? = some (b + a, .inr (ci, am_fs b h a (am_ft ci))) := by rw [am_ws_at ha, am_cell_obj f5 hs]
  have hv2 : (am_fs b h a (am_ft ci))[k]? = some (am_v b v) := by simp [am_fs, f4, hv]
  rcases f7 with f7 | ⟨-, host, f7⟩ | ⟨-, host, f7⟩
  · exact va_get C.1 C.2.1 C.2.2.2.2.1 f2 C.2.2.2.1 C.2.2.2.2.2.1 i3 a he f1 k f3 (C.2.2.2.2.1 _ f7) (f6 args s C.2.2.2.2.1) hv2 d (kk H ls locs i1 i2 i3 i4 i5 i6)
  · exact va_getN C.1 C.2.1 C.2.2.2.2.1 f2 C.2.2.2.1 C.2.2.2.2.2.1 i3 a he f1 k f3 (va_Nw.use rfl (C.2.2.2.2.2.2.2.1 _ f7)) (f6 args s C.2.2.2.2.1) hv2 d (kk H ls locs i1 i2 i3 i4 i5 i6)
  · exact va_getN C.1 C.2.1 C.2.2.2.2.1 f2 C.2.2.2.1 C.2.2.2.2.2.1 i3 a he f1 k f3 (va_Nw.use rfl (C.2.2.2.2.2.2.2.1 _ f7)) (f6 args s C.2.2.2.2.1) hv2 d (kk H ls locs i1 i2 i3 i4 i5 i6)
theorem am_geti (pc : Nat) {idx ci k a : Nat} {ty : FieldType} {fin : Bool} (C : AC x own cc nL) (f : AF own idx ci k 0 ty fin) (d : decode cc pc = .ok (.getfield idx, 3)) (ha : a < n) (hs : (am_sh a).1 = ci) (kk : AX x ce sl (pc + 3) lv (.int (h.1 a k) :: st) n h) : AX x ce sl pc lv (.ref a :: st) n h := am_get pc C f d ha hs (fun _ => rfl) kk
theorem am_getl (pc : Nat) {idx ci k a : Nat} {ty : FieldType} {fin : Bool} (C : AC x own cc nL) (f : AF own idx ci k 1 ty fin) (d : decode cc pc = .ok (.getfield idx, 3)) (ha : a < n) (hs : (am_sh a).1 = ci) (kk : AX x ce sl (pc + 3) lv (.long (h.2.1 a k) :: st) n h) : AX x ce sl pc lv (.ref a :: st) n h := am_get pc C f d ha hs (fun _ => rfl) kk
theorem am_getr (pc : Nat) {idx ci k a : Nat} (q : Nat) {ty : FieldType} {fin : Bool} (C : AC x own cc nL) (f : AF own idx ci k 2 ty fin) (d : decode cc pc = .ok (.getfield idx, 3)) (ha : a < n) (hs : (am_sh a).1 = ci) (hq : h.2.2 a k = some q) (kk : AX x ce sl (pc + 3) lv (.ref q :: st) n h) : AX x ce sl pc lv (.ref a :: st) n h := am_get pc C f d ha hs (fun b => by simp [am_fv, hq, va_rf, am_v]) kk
theorem am_fr_put {n a : Nat} {h h2 : am_H} (ha : a < n) (hf : am_fr n h) (e1 : ∀ j, j ≠ a → h2.1 j = h.1 j) (e2 : ∀ j, j ≠ a → h2.2.1 j = h.2.1 j) (e3 : ∀ j, j ≠ a → h2.2.2 j = h.2.2 j) : am_fr n h2 := by
  intro q hq
  have hne : q ≠ a := by omega
  rw [e1 q hne, e2 q hne, e3 q hne]
  exact hf q hq
/-- the walk's method is a constructor -/
def AI (x : am_X) : Prop := match x with
  | (_, _, _, _, _, _, _, _, meth, _, _, _, _, _) => meth.name = "<init>"
theorem am_put (pc : Nat) {idx ci k t a : Nat} {ty : FieldType} {fin : Bool} {v : Value} {h2 : am_H} (C : AC x own cc nL) (f : AF own idx ci k t ty fin) (d : decode cc pc = .ok (.putfield idx, 3)) (ha : a < n) (hs : (am_sh a).1 = ci) (hn : ∀ b, narrow ty (am_v b v) = am_v b v) (hfit : ∀ b, fits ty (am_v b v) = true)
    (hfin : fin = false ∨ (fin = true ∧ AI x ∧ ∃ q : vw_C, vwCl[ci]? = some q ∧ (q.2.1 k).1 = own ∧ Cond.fieldLink own idx own (q.2.1 k).2.1 (q.2.1 k).2.2.1 ∈ am_tbl))
    (e1 : ∀ j, j ≠ a → h2.1 j = h.1 j) (e2 : ∀ j, j ≠ a → h2.2.1 j = h.2.1 j) (e3 : ∀ j, j ≠ a → h2.2.2 j = h.2.2 j) (hv : ∀ b, am_fv b h2 a k t = am_v b v) (ho : ∀ b j u, j ≠ k → am_fv b h2 a j u = am_fv b h a j u) (kk : AX x ce sl (pc + 3) lv st n h2) : AX x ce sl pc lv (v :: .ref a :: st) n h := by
  obtain ⟨p, l, e, R, s, m, args, below, meth, c, b, D, cs, Q⟩ := x
  intro H ls locs i1 i2 i3 i4 i5 i6
  obtain ⟨Cn, T, N, ref, ty0, f1, f2, f3, f4, f5, f6, f7, f8, f9, f10, f11⟩ := f
  have he : (am_ws b cs n h)[a]? = some (b + a, .inr (ci, am_fs b h a (am_ft ci))) := by rw [am_ws_at ha, am_cell_obj f5 hs]
  have hl : k < (am_fs b h a (am_ft ci)).length := by simpa [am_fs] using (List.getElem?_eq_some_iff.mp f4).1
  have hset : (am_ws b cs n h).set a (b + a, .inr (ci, (am_fs b h a (am_ft ci)).set k (am_v b v))) = am_ws b cs n h2 := by
    refine am_ws_set ha ?_ (fun j hj => am_cell_congr (e1 j hj) (e2 j hj) (e3 j hj))
    rw [am_cell_obj f5 hs, am_fs_set f4 (hv b) (ho b)]
  have KK : ∀ (H1 : Heap) (locs1 : List Loc), va_P D vwCl ((am_ws b cs n h).set a (b + a, .inr (ci, (am_fs b h a (am_ft ci)).set k (am_v b v)))) H1 → va_D (fun q => b ≤ q) ((am_ws b cs n h).set a (b + a, .inr (ci, (am_fs b h a (am_ft ci)).set k (am_v b v)))) → va_S (fun q => b ≤ q) s.heap H1 locs1 → W p l e R s m args below meth c H1 locs1 ce sl Q (F0 m (pc + 3) ls (st.map (am_v b))) := by
    intro H1 locs1 j3 j4 j5
    rw [hset] at j3 j4
    exact kk H1 ls locs1 i1 (am_fr_put ha i2 e1 e2 e3) j3 j4 j5 i6
  rcases hfin with rfl | ⟨rfl, hI, q, g1, g2, g3⟩
  · rcases f7 with f7 | ⟨-, host, f7⟩ | ⟨hc, -⟩
    · exact va_put C.1 C.2.1 C.2.2.2.2.1 f2 ty0 f8 f9 C.2.2.2.1 C.2.2.2.2.2.1 i3 i4 i5 a he f1 k f3 (C.2.2.2.2.1 _ f7) (f6 args s C.2.2.2.2.1) f11 f10 (hn b) (hfit b) hl d KK
    · exact va_putN C.1 C.2.1 C.2.2.2.2.1 f2 ty0 f8 f9 C.2.2.2.1 C.2.2.2.2.2.1 i3 i4 i5 a he f1 k f3 (va_Nw.use rfl (C.2.2.2.2.2.2.2.1 _ f7)) (f6 args s C.2.2.2.2.1) f11 f10 (hn b) (hfit b) hl d KK
    · cases hc
  · cases f1.symm.trans g1
    exact va_putF C.1 C.2.1 C.2.2.2.2.1 f2 ty0 f8 f9 C.2.2.2.1 C.2.2.2.2.2.1 i3 i4 i5 a he f1 k f3 (C.2.2.2.2.1 _ g3) (fun z hz => by rw [g2] at hz; exact hz) f11 hI g2 f10 (hn b) (hfit b) hl d KK
theorem am_puti (pc : Nat) {idx ci k a : Nat} {ty : FieldType} {v : Int32} (C : AC x own cc nL) (f : AF own idx ci k 0 ty false) (d : decode cc pc = .ok (.putfield idx, 3)) (ha : a < n) (hs : (am_sh a).1 = ci) (hn : narrow ty (.int v) = .int v) (hfit : fits ty (.int v) = true) (kk : AX x ce sl (pc + 3) lv st n (am_up h.1 a k v, h.2)) : AX x ce sl pc lv (.int v :: .ref a :: st) n h :=
  am_put pc (h2 := (am_up h.1 a k v, h.2)) C f d ha hs (fun _ => hn) (fun _ => hfit) (Or.inl rfl) (fun _ hj => am_up_ne hj) (fun _ _ => rfl) (fun _ _ => rfl) (fun b => by simp [am_fv, am_up, am_v]) (fun b j u hj => by simp [am_fv, am_up, hj]) kk
theorem am_putl (pc : Nat) {idx ci k a : Nat} {v : Int64} (C : AC x own cc nL) (f : AF own idx ci k 1 .long false) (d : decode cc pc = .ok (.putfield idx, 3)) (ha : a < n) (hs : (am_sh a).1 = ci) (kk : AX x ce sl (pc + 3) lv st n (h.1, am_up h.2.1 a k v, h.2.2)) : AX x ce sl pc lv (.long v :: .ref a :: st) n h :=
  am_put pc (h2 := (h.1, am_up h.2.1 a k v, h.2.2)) C f d ha hs (fun _ => rfl) (fun _ => rfl) (Or.inl rfl) (fun _ _ => rfl) (fun _ hj => am_up_ne hj) (fun _ _ => rfl) (fun b => by simp [am_fv, am_up, am_v]) (fun b j u hj => by simp [am_fv, am_up, hj]) kk
theorem am_putr (pc : Nat) {idx ci k a q : Nat} {ty : FieldType} {fin : Bool} (C : AC x own cc nL) (f : AF own idx ci k 2 ty fin) (d : decode cc pc = .ok (.putfield idx, 3)) (ha : a < n) (hs : (am_sh a).1 = ci) (hn : ∀ r, narrow ty (.ref r) = .ref r) (hfit : ∀ r, fits ty (.ref r) = true) (hfin : fin = false ∨ (fin = true ∧ AI x ∧ ∃ q : vw_C, vwCl[ci]? = some q ∧ (q.2.1 k).1 = own ∧ Cond.fieldLink own idx own (q.2.1 k).2.1 (q.2.1 k).2.2.1 ∈ am_tbl)) (kk : AX x ce sl (pc + 3) lv st n (h.1, h.2.1, am_up h.2.2 a k (some q))) : AX x ce sl pc lv (.ref q :: .ref a :: st) n h :=
  am_put pc (h2 := (h.1, h.2.1, am_up h.2.2 a k (some q))) C f d ha hs (fun _ => hn _) (fun _ => hfit _) hfin (fun _ _ => rfl) (fun _ _ => rfl) (fun _ hj => am_up_ne hj) (fun b => by simp [am_fv, am_up, am_v, va_rf]) (fun b j u hj => by simp [am_fv, am_up, hj]) kk
theorem am_arr {b a kd len : Nat} {cs : Nat → ClassId} {h : am_H} (hs : am_sh a = (kd, len)) (hk : ¬ kd < 12) : am_cell b cs h a (am_sh a) = .inl (cs kd, am_ar b h a len kd) := by
  unfold am_cell
  rw [hs, if_neg hk]
theorem am_alen (pc : Nat) {a kd len : Nat} (v : Int32) (C : AC x own cc nL) (d : decode cc pc = .ok (.arraylength, 1)) (ha : a < n) (hs : am_sh a = (kd, len)) (hk : 12 ≤ kd ∧ kd < 19) (hv : Int32.ofNat len = v) (kk : AX x ce sl (pc + 1) lv (.int v :: st) n h) : AX x ce sl pc lv (.ref a :: st) n h := by
  obtain ⟨p, l, e, R, s, m, args, below, meth, c, b, D, cs, Q⟩ := x
  intro H ls locs i1 i2 i3 i4 i5 i6
  have he := am_ws_at (b := b) (cs := cs) (h := h) ha
  rw [am_arr hs (by omega)] at he
  have hT : ∃ ty, (am_tys cs)[kd - 12]? = some (cs kd, ty) := by
    obtain ⟨h1, h2⟩ := hk
    rcases (show kd = 12 ∨ kd = 13 ∨ kd = 14 ∨ kd = 15 ∨ kd = 16 ∨ kd = 17 ∨ kd = 18 by omega) with rfl | rfl | rfl | rfl | rfl | rfl | rfl <;> exact ⟨_, rfl⟩
  obtain ⟨ty, ht⟩ := hT
  exact va_alen C.1 C.2.1 C.2.2.2.2.2.1 i3 a (kd - 12) he ht hv d (kk H ls locs i1 i2 i3 i4 i5 i6)
theorem am_iald (pc : Nat) {a len : Nat} {i : Int32} (C : AC x own cc nL) (d : decode cc pc = .ok (.iaload, 1)) (ha : a < n) (hs : am_sh a = (13, len)) (hin : vp_in i len) (kk : AX x ce sl (pc + 1) lv (.int (h.1 a i.toNatClampNeg) :: st) n h) : AX x ce sl pc lv (.int i :: .ref a :: st) n h := by
  obtain ⟨p, l, e, R, s, m, args, below, meth, c, b, D, cs, Q⟩ := x
  intro H ls locs i1 i2 i3 i4 i5 i6
  have he := am_ws_at (b := b) (cs := cs) (h := h) ha
  rw [am_arr hs (by omega)] at he
  exact va_iald C.1 C.2.1 C.2.2.2.2.2.1 i3 a 1 (cA := cs 13) (n := len) (f := h.1 a) he rfl hin d (kk H ls locs i1 i2 i3 i4 i5 i6)
theorem am_bald (pc : Nat) {a len : Nat} {i : Int32} (C : AC x own cc nL) (d : decode cc pc = .ok (.baload, 1)) (ha : a < n) (hs : am_sh a = (12, len)) (hin : vp_in i len) (kk : AX x ce sl (pc + 1) lv (.int (h.1 a i.toNatClampNeg) :: st) n h) : AX x ce sl pc lv (.int i :: .ref a :: st) n h := by
  obtain ⟨p, l, e, R, s, m, args, below, meth, c, b, D, cs, Q⟩ := x
  intro H ls locs i1 i2 i3 i4 i5 i6
  have he := am_ws_at (b := b) (cs := cs) (h := h) ha
  rw [am_arr hs (by omega)] at he
  exact va_bald C.1 C.2.1 C.2.2.2.2.2.1 i3 a 0 (cA := cs 12) (n := len) (f := h.1 a) he rfl hin d (kk H ls locs i1 i2 i3 i4 i5 i6)
theorem am_zald (pc : Nat) {a len : Nat} {i : Int32} (C : AC x own cc nL) (d : decode cc pc = .ok (.baload, 1)) (ha : a < n) (hs : am_sh a = (15, len)) (hin : vp_in i len) (kk : AX x ce sl (pc + 1) lv (.int (h.1 a i.toNatClampNeg) :: st) n h) : AX x ce sl pc lv (.int i :: .ref a :: st) n h := by
  obtain ⟨p, l, e, R, s, m, args, below, meth, c, b, D, cs, Q⟩ := x
  intro H ls locs i1 i2 i3 i4 i5 i6
  have he := am_ws_at (b := b) (cs := cs) (h := h) ha
  rw [am_arr hs (by omega)] at he
  exact va_zald C.1 C.2.1 C.2.2.2.2.2.1 i3 a 3 (cA := cs 15) (n := len) (f := h.1 a) he rfl hin d (kk H ls locs i1 i2 i3 i4 i5 i6)
theorem am_lald (pc : Nat) {a len : Nat} {i : Int32} (C : AC x own cc nL) (d : decode cc pc = .ok (.laload, 1)) (ha : a < n) (hs : am_sh a = (14, len)) (hin : vp_in i len) (kk : AX x ce sl (pc + 1) lv (.long (h.2.1 a i.toNatClampNeg) :: st) n h) : AX x ce sl pc lv (.int i :: .ref a :: st) n h := by
  obtain ⟨p, l, e, R, s, m, args, below, meth, c, b, D, cs, Q⟩ := x
  intro H ls locs i1 i2 i3 i4 i5 i6
  have he := am_ws_at (b := b) (cs := cs) (h := h) ha
  rw [am_arr hs (by omega)] at he
  exact va_lald C.1 C.2.1 C.2.2.2.2.2.1 i3 a 2 (cA := cs 14) (n := len) (f := h.2.1 a) he rfl hin d (kk H ls locs i1 i2 i3 i4 i5 i6)
theorem am_aald (pc : Nat) {a kd len q : Nat} {i : Int32} (C : AC x own cc nL) (d : decode cc pc = .ok (.aaload, 1)) (ha : a < n) (hs : am_sh a = (kd, len)) (hk : kd = 16 ∨ kd = 17 ∨ kd = 18) (hin : vp_in i len) (hq : h.2.2 a i.toNatClampNeg = some q) (kk : AX x ce sl (pc + 1) lv (.ref q :: st) n h) : AX x ce sl pc lv (.int i :: .ref a :: st) n h := by
  obtain ⟨p, l, e, R, s, m, args, below, meth, c, b, D, cs, Q⟩ := x
  intro H ls locs i1 i2 i3 i4 i5 i6
  have he := am_ws_at (b := b) (cs := cs) (h := h) ha
  rw [am_arr hs (by omega)] at he
  have hv : va_rf (Option.map (fun a => b + a) (h.2.2 a i.toNatClampNeg)) = .ref (b + q) := by rw [hq]; rfl
  have K1 := kk H ls locs i1 i2 i3 i4 i5 i6
  rcases hk with rfl | rfl | rfl
  · refine va_aldq C.1 C.2.1 C.2.2.2.2.2.1 i3 a 4 (cA := cs 16) (n := len) (f := fun j => (h.2.2 a j).map (fun a => b + a)) he rfl hin d ?_
    rw [hv]
    exact K1
  · refine va_aldq C.1 C.2.1 C.2.2.2.2.2.1 i3 a 5 (cA := cs 17) (n := len) (f := fun j => (h.2.2 a j).map (fun a => b + a)) he rfl hin d ?_
    rw [hv]
    exact K1
  · refine va_aldq C.1 C.2.1 C.2.2.2.2.2.1 i3 a 6 (cA := cs 18) (n := len) (f := fun j => (h.2.2 a j).map (fun a => b + a)) he rfl hin d ?_
    rw [hv]
    exact K1
theorem am_iast (pc : Nat) {a len : Nat} {i v : Int32} (C : AC x own cc nL) (d : decode cc pc = .ok (.iastore, 1)) (ha : a < n) (hs : am_sh a = (13, len)) (hin : vp_in i len) (kk : AX x ce sl (pc + 1) lv st n (am_up h.1 a i.toNatClampNeg (v), h.2)) : AX x ce sl pc lv (.int v :: .int i :: .ref a :: st) n h := by
  obtain ⟨p, l, e, R, s, m, args, below, meth, c, b, D, cs, Q⟩ := x
  intro H ls locs i1 i2 i3 i4 i5 i6
  have he := am_ws_at (b := b) (cs := cs) (h := h) ha
  rw [am_arr hs (by omega)] at he
  refine va_iast C.1 C.2.1 C.2.2.2.2.2.1 i3 i4 i5 a 1 (cA := cs 13) (n := len) (f := h.1 a) he rfl hin d (fun H1 locs1 j3 j4 j5 => ?_)
  have hset : (am_ws b cs n h).set a (b + a, .inl (cs 13, len, .inl (upd (h.1 a) i.toNatClampNeg (v)))) = am_ws b cs n (am_up h.1 a i.toNatClampNeg (v), h.2) := am_ws_set ha (by rw [am_arr hs (by omega)]; simp only [am_ar, am_up_row]; rfl) (fun j hj => am_cell_congr (am_up_ne hj) rfl rfl)
  rw [hset] at j3 j4
  exact kk H1 ls locs1 i1 (am_fr_put ha i2 (fun j hj => am_up_ne hj) (fun _ _ => rfl) (fun _ _ => rfl)) j3 j4 j5 i6
theorem am_bast (pc : Nat) {a len : Nat} {i v : Int32} (C : AC x own cc nL) (d : decode cc pc = .ok (.bastore, 1)) (ha : a < n) (hs : am_sh a = (12, len)) (hin : vp_in i len) (kk : AX x ce sl (pc + 1) lv st n (am_up h.1 a i.toNatClampNeg (vp_nar .byte v), h.2)) : AX x ce sl pc lv (.int v :: .int i :: .ref a :: st) n h := by
  obtain ⟨p, l, e, R, s, m, args, below, meth, c, b, D, cs, Q⟩ := x
  intro H ls locs i1 i2 i3 i4 i5 i6
  have he := am_ws_at (b := b) (cs := cs) (h := h) ha
  rw [am_arr hs (by omega)] at he
  refine va_bast C.1 C.2.1 C.2.2.2.2.2.1 i3 i4 i5 a 0 (cA := cs 12) (n := len) (f := h.1 a) he rfl hin d (fun H1 locs1 j3 j4 j5 => ?_)
  have hset : (am_ws b cs n h).set a (b + a, .inl (cs 12, len, .inl (upd (h.1 a) i.toNatClampNeg (vp_nar .byte v)))) = am_ws b cs n (am_up h.1 a i.toNatClampNeg (vp_nar .byte v), h.2) := am_ws_set ha (by rw [am_arr hs (by omega)]; simp only [am_ar, am_up_row]; rfl) (fun j hj => am_cell_congr (am_up_ne hj) rfl rfl)
  rw [hset] at j3 j4
  exact kk H1 ls locs1 i1 (am_fr_put ha i2 (fun j hj => am_up_ne hj) (fun _ _ => rfl) (fun _ _ => rfl)) j3 j4 j5 i6
theorem am_zast (pc : Nat) {a len : Nat} {i v : Int32} (C : AC x own cc nL) (d : decode cc pc = .ok (.bastore, 1)) (ha : a < n) (hs : am_sh a = (15, len)) (hin : vp_in i len) (kk : AX x ce sl (pc + 1) lv st n (am_up h.1 a i.toNatClampNeg (vp_nar .boolean v), h.2)) : AX x ce sl pc lv (.int v :: .int i :: .ref a :: st) n h := by
  obtain ⟨p, l, e, R, s, m, args, below, meth, c, b, D, cs, Q⟩ := x
  intro H ls locs i1 i2 i3 i4 i5 i6
  have he := am_ws_at (b := b) (cs := cs) (h := h) ha
  rw [am_arr hs (by omega)] at he
  refine va_zast C.1 C.2.1 C.2.2.2.2.2.1 i3 i4 i5 a 3 (cA := cs 15) (n := len) (f := h.1 a) he rfl hin d (fun H1 locs1 j3 j4 j5 => ?_)
  have hset : (am_ws b cs n h).set a (b + a, .inl (cs 15, len, .inl (upd (h.1 a) i.toNatClampNeg (vp_nar .boolean v)))) = am_ws b cs n (am_up h.1 a i.toNatClampNeg (vp_nar .boolean v), h.2) := am_ws_set ha (by rw [am_arr hs (by omega)]; simp only [am_ar, am_up_row]; rfl) (fun j hj => am_cell_congr (am_up_ne hj) rfl rfl)
  rw [hset] at j3 j4
  exact kk H1 ls locs1 i1 (am_fr_put ha i2 (fun j hj => am_up_ne hj) (fun _ _ => rfl) (fun _ _ => rfl)) j3 j4 j5 i6
theorem am_last (pc : Nat) {a len : Nat} {i : Int32} {v : Int64} (C : AC x own cc nL) (d : decode cc pc = .ok (.lastore, 1)) (ha : a < n) (hs : am_sh a = (14, len)) (hin : vp_in i len) (kk : AX x ce sl (pc + 1) lv st n (h.1, am_up h.2.1 a i.toNatClampNeg v, h.2.2)) : AX x ce sl pc lv (.long v :: .int i :: .ref a :: st) n h := by
  obtain ⟨p, l, e, R, s, m, args, below, meth, c, b, D, cs, Q⟩ := x
  intro H ls locs i1 i2 i3 i4 i5 i6
  have he := am_ws_at (b := b) (cs := cs) (h := h) ha
  rw [am_arr hs (by omega)] at he
  refine va_last C.1 C.2.1 C.2.2.2.2.2.1 i3 i4 i5 a 2 (cA := cs 14) (n := len) (f := h.2.1 a) he rfl hin d (fun H1 locs1 j3 j4 j5 => ?_)
  have hset : (am_ws b cs n h).set a (b + a, .inl (cs 14, len, .inr (.inl (vp_updL (h.2.1 a) i.toNatClampNeg v)))) = am_ws b cs n (h.1, am_up h.2.1 a i.toNatClampNeg v, h.2.2) := am_ws_set ha (by rw [am_arr hs (by omega)]; simp only [am_ar, am_up_rowL]; rfl) (fun j hj => am_cell_congr rfl (am_up_ne hj) rfl)
  rw [hset] at j3 j4
  exact kk H1 ls locs1 i1 (am_fr_put ha i2 (fun _ _ => rfl) (fun j hj => am_up_ne hj) (fun _ _ => rfl)) j3 j4 j5 i6
theorem am_up_rowR {f : Nat → Nat → Option Nat} {a k b q : Nat} : (fun j => (am_up f a k (some q) a j).map (fun z => b + z)) = va_up (fun j => (f a j).map (fun z => b + z)) k (some (b + q)) := by
  funext j
  by_cases hj : j = k <;> simp [am_up, va_up, hj]
theorem am_aast (pc : Nat) {a kd len q ci : Nat} {i : Int32} (C : AC x own cc nL) (d : decode cc pc = .ok (.aastore, 1)) (ha : a < n) (hs : am_sh a = (kd, len)) (hk : (kd = 16 ∧ ci = 1) ∨ (kd = 17 ∧ ci = 2) ∨ (kd = 18 ∧ ci = 4)) (hin : vp_in i len) (hq : q < n) (hsq : (am_sh q).1 = ci) (kk : AX x ce sl (pc + 1) lv st n (h.1, h.2.1, am_up h.2.2 a i.toNatClampNeg (some q))) : AX x ce sl pc lv (.ref q :: .int i :: .ref a :: st) n h := by
  obtain ⟨p, l, e, R, s, m, args, below, meth, c, b, D, cs, Q⟩ := x
  intro H ls locs i1 i2 i3 i4 i5 i6
  have he := am_ws_at (b := b) (cs := cs) (h := h) ha
  rw [am_arr hs (by omega)] at he
  have hv := am_ws_at (b := b) (cs := cs) (h := h) hq
  rw [am_cell_obj (by omega) hsq] at hv
  have hset : ∀ e : va_E, e = .inl (cs kd, len, .inr (.inr (.inr (.inr (va_up (fun j => (h.2.2 a j).map (fun z => b + z)) i.toNatClampNeg (some (b + q))))))) → (am_ws b cs n h).set a (b + a, e) = am_ws b cs n (h.1, h.2.1, am_up h.2.2 a i.toNatClampNeg (some q)) := by
    intro e he2
    refine am_ws_set ha ?_ (fun j hj => am_cell_congr rfl rfl (am_up_ne hj))
    rw [am_arr hs (by omega), he2]
    unfold am_ar
    rw [if_neg (by omega), if_neg (by omega)]
    dsimp only
    rw [am_up_rowR]
  have fin : ∀ (H1 : Heap) (locs1 : List Loc), va_P D vwCl (am_ws b cs n (h.1, h.2.1, am_up h.2.2 a i.toNatClampNeg (some q))) H1 → va_D (fun q => b ≤ q) (am_ws b cs n (h.1, h.2.1, am_up h.2.2 a i.toNatClampNeg (some q))) → va_S (fun q => b ≤ q) s.heap H1 locs1 → W p l e R s m args below meth c H1 locs1 ce sl Q (F0 m (pc + 1) ls (st.map (am_v b))) := fun H1 locs1 j3 j4 j5 => kk H1 ls locs1 i1 (am_fr_put ha i2 (fun _ _ => rfl) (fun _ _ => rfl) (fun j hj => am_up_ne hj)) j3 j4 j5 i6
  rcases hk with ⟨rfl, rfl⟩ | ⟨rfl, rfl⟩ | ⟨rfl, rfl⟩
  · refine va_astq C.1 C.2.1 C.2.2.2.2.2.1 i3 i4 i5 a 4 q 1 (cA := cs 16) (n := len) (f := fun j => (h.2.2 a j).map (fun z => b + z)) (r := (RX2, TX2, 8)) he rfl hv rfl hin d (fun H1 locs1 j3 j4 j5 => ?_)
    rw [hset _ rfl] at j3 j4
    exact fin H1 locs1 j3 j4 j5
  · refine va_astq C.1 C.2.1 C.2.2.2.2.2.1 i3 i4 i5 a 5 q 2 (cA := cs 17) (n := len) (f := fun j => (h.2.2 a j).map (fun z => b + z)) (r := (RX3, TX3, 10)) he rfl hv rfl hin d (fun H1 locs1 j3 j4 j5 => ?_)
    rw [hset _ rfl] at j3 j4
    exact fin H1 locs1 j3 j4 j5
  · refine va_astq C.1 C.2.1 C.2.2.2.2.2.1 i3 i4 i5 a 6 q 4 (cA := cs 18) (n := len) (f := fun j => (h.2.2 a j).map (fun z => b + z)) (r := (RX5, TX5, 9)) he rfl hv rfl hin d (fun H1 locs1 j3 j4 j5 => ?_)
    rw [hset _ rfl] at j3 j4
    exact fin H1 locs1 j3 j4 j5
theorem am_iret (pc : Nat) {v : Int32} {ty : FieldType} (C : AC x own cc nL) (Z : AZ x (some ty) ce sl (some (.int v), n, h)) (hn : narrow ty (.int v) = .int v) (d : decode cc pc = .ok (.ireturn, 1)) : AX x ce sl pc lv [.int v] n h := by
  obtain ⟨p, l, e, R, s, m, args, below, meth, c, b, D, cs, Q⟩ := x
  intro H ls locs i1 i2 i3 i4 i5 i6
  obtain ⟨rfl, z2, z3⟩ := Z
  exact W.zret C.1 C.2.1 z2 hn (fun t ht hW => ⟨⟨rfl, i2, by rw [ht]; exact i3, i4, va_K.moved hW.alike C.2.2.2.2.2.1, am_NN_warm hW C.2.2.2.2.2.2.2.1, by rw [ht]; exact am_O_warm hW i5.2.1 C.2.2.2.2.2.2.2.2⟩, i5.F ht⟩) (fun q hq => i5.2.2 q hq) d z3
theorem am_lret (pc : Nat) {v : Int64} (C : AC x own cc nL) (Z : AZ x (some .long) ce sl (some (.long v), n, h)) (d : decode cc pc = .ok (.lreturn, 1)) : AX x ce sl pc lv [.long v] n h := by
  obtain ⟨p, l, e, R, s, m, args, below, meth, c, b, D, cs, Q⟩ := x
  intro H ls locs i1 i2 i3 i4 i5 i6
  obtain ⟨rfl, z2, z3⟩ := Z
  exact W.lret C.1 C.2.1 z2 (fun t ht hW => ⟨⟨rfl, i2, by rw [ht]; exact i3, i4, va_K.moved hW.alike C.2.2.2.2.2.1, am_NN_warm hW C.2.2.2.2.2.2.2.1, by rw [ht]; exact am_O_warm hW i5.2.1 C.2.2.2.2.2.2.2.2⟩, i5.F ht⟩) (fun q hq => i5.2.2 q hq) d z3
theorem am_vret (pc : Nat) (C : AC x own cc nL) (Z : AZ x none ce sl (none, n, h)) (d : decode cc pc = .ok (.return_, 1)) : AX x ce sl pc lv [] n h := by
  obtain ⟨p, l, e, R, s, m, args, below, meth, c, b, D, cs, Q⟩ := x
  intro H ls locs i1 i2 i3 i4 i5 i6
  obtain ⟨rfl, z2, z3⟩ := Z
  exact W.vret C.1 C.2.1 z2 (fun t ht hW => ⟨⟨rfl, i2, by rw [ht]; exact i3, i4, va_K.moved hW.alike C.2.2.2.2.2.1, am_NN_warm hW C.2.2.2.2.2.2.2.1, by rw [ht]; exact am_O_warm hW i5.2.1 C.2.2.2.2.2.2.2.2⟩, i5.F ht⟩) (fun q hq => i5.2.2 q hq) d z3
end AMS
