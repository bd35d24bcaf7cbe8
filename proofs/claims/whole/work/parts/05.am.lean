/-! the shape of the world: of each cell its kind and, of an array, its length; of each class the planes of its fields -/
def am_shl : List (Nat × Nat) := [(10, 0), (12, 400), (6, 0), (13, 401), (13, 401), (13, 401), (7, 0), (13, 7), (13, 49), (13, 10), (13, 10), (13, 7), (13, 40), (13, 30), (17, 6), (4, 0), (7, 0), (13, 7), (13, 49), (13, 10), (13, 10), (13, 7), (13, 40), (13, 30), (1, 0), (13, 56), (13, 56), (13, 56), (13, 7), (13, 36), (18, 4), (15, 4), (0, 0), (16, 20), (1, 0), (13, 56), (13, 56), (13, 56), (13, 7), (1, 0), (13, 56), (13, 56), (13, 56), (13, 7), (1, 0), (13, 56), (13, 56), (13, 56), (13, 7), (1, 0), (13, 56), (13, 56), (13, 56), (13, 7), (1, 0), (13, 56), (13, 56), (13, 56), (13, 7), (1, 0), (13, 56), (13, 56), (13, 56), (13, 7), (1, 0), (13, 56), (13, 56), (13, 56), (13, 7), (1, 0), (13, 56), (13, 56), (13, 56), (13, 7), (1, 0), (13, 56), (13, 56), (13, 56), (13, 7), (1, 0), (13, 56), (13, 56), (13, 56), (13, 7), (1, 0), (13, 56), (13, 56), (13, 56), (13, 7), (1, 0), (13, 56), (13, 56), (13, 56), (13, 7), (1, 0), (13, 56), (13, 56), (13, 56), (13, 7), (1, 0), (13, 56), (13, 56), (13, 56), (13, 7), (1, 0), (13, 56), (13, 56), (13, 56), (13, 7), (1, 0), (13, 56), (13, 56), (13, 56), (13, 7), (1, 0), (13, 56), (13, 56), (13, 56), (13, 7), (1, 0), (13, 56), (13, 56), (13, 56), (13, 7), (1, 0), (13, 56), (13, 56), (13, 56), (13, 7), (1, 0), (13, 56), (13, 56), (13, 56), (13, 7), (5, 0), (9, 0), (13, 8), (1, 0), (13, 56), (13, 56), (13, 56), (13, 7), (13, 8), (14, 64), (2, 0), (13, 400), (13, 400), (15, 12), (13, 12), (13, 12), (13, 12), (2, 0), (13, 400), (13, 400), (15, 12), (13, 12), (13, 12), (13, 12), (2, 0), (13, 400), (13, 400), (15, 12), (13, 12), (13, 12), (13, 12), (2, 0), (13, 400), (13, 400), (15, 12), (13, 12), (13, 12), (13, 12), (2, 0), (13, 400), (13, 400), (15, 12), (13, 12), (13, 12), (13, 12), (2, 0), (13, 400), (13, 400), (15, 12), (13, 12), (13, 12), (13, 12), (4, 0), (7, 0), (13, 7), (13, 49), (13, 10), (13, 10), (13, 7), (13, 40), (13, 30), (1, 0), (13, 56), (13, 56), (13, 56), (13, 7), (13, 36), (4, 0), (7, 0), (13, 7), (13, 49), (13, 10), (13, 10), (13, 7), (13, 40), (13, 30), (1, 0), (13, 56), (13, 56), (13, 56), (13, 7), (13, 36), (4, 0), (7, 0), (13, 7), (13, 49), (13, 10), (13, 10), (13, 7), (13, 40), (13, 30), (1, 0), (13, 56), (13, 56), (13, 56), (13, 7), (13, 36), (4, 0), (7, 0), (13, 7), (13, 49), (13, 10), (13, 10), (13, 7), (13, 40), (13, 30), (1, 0), (13, 56), (13, 56), (13, 56), (13, 7), (13, 36), (8, 0), (3, 0), (11, 0), (12, 400), (13, 2400), (13, 7), (13, 360), (13, 6), (13, 270), (13, 400), (14, 64), (14, 14), (13, 328), (13, 8), (13, 2600), (13, 130), (13, 1312), (13, 4), (13, 4), (15, 4)]
def am_sh (i : Nat) : Nat × Nat := am_shl.getD i (19, 0)
def am_ft (k : Nat) : List Nat := match k with
  | 0 => [2, 0, 0]
  | 1 => [2, 2, 2, 2, 0, 0, 0, 0]
  | 2 => [2, 2, 2, 0, 2, 2, 2, 2, 0, 0]
  | 3 => [2, 2, 0]
  | 4 => [2, 2, 0, 0, 0, 2, 0, 0, 0]
  | 5 => [2, 2, 0, 0, 0, 0, 0]
  | 6 => [2, 2, 2, 0, 0, 0]
  | 7 => [0, 0, 0, 0, 2, 2, 0, 2, 2, 2, 0, 2, 0, 2, 0, 0]
  | 8 => [2, 2]
  | 9 => [0, 0, 0, 0, 0, 2]
  | 10 => [2, 0, 2, 2, 2, 0, 2, 2, 2, 2, 2, 2, 2, 2, 2, 0, 2]
  | 11 => [2, 0, 0, 2, 2, 2, 2, 2, 0, 0, 0, 0, 0, 0, 0, 2, 0, 2, 0, 2, 2, 0, 0, 2, 2, 0, 2, 1, 2, 2, 2, 2]
  | _ => []
/-! THE LAYER: one judgement AX over a heap of three planes (ints, longs, references), cells by their number from a base on; a row an instruction, a row a call -/
abbrev am_H : Type := (Nat → Nat → Int32) × (Nat → Nat → Int64) × (Nat → Nat → Option Nat)
def am_up {α : Type} (f : Nat → Nat → α) (a k : Nat) (v : α) : Nat → Nat → α := fun x j => if x = a ∧ j = k then v else f x j
theorem am_up_ne {α : Type} {f : Nat → Nat → α} {a k x : Nat} {v : α} (h : x ≠ a) : am_up f a k v x = f x := by
  funext j
  simp [am_up, h]
theorem am_up_row {f : Nat → Nat → Int32} {a k : Nat} {v : Int32} : am_up f a k v a = upd (f a) k v := by
  funext j
  simp [am_up, upd]
theorem am_up_rowL {f : Nat → Nat → Int64} {a k : Nat} {v : Int64} : am_up f a k v a = vp_updL (f a) k v := by
  funext j
  simp [am_up, vp_updL]
theorem am_up_at {α : Type} {f : Nat → Nat → α} {a k : Nat} {v : α} : am_up f a k v a k = v := by simp [am_up]
theorem am_up_k {α : Type} {f : Nat → Nat → α} {a k j : Nat} {v : α} (h : j ≠ k) : am_up f a k v a j = f a j := by simp [am_up, h]
def am_rf (r : Option Nat) : Value := match r with
  | none => .null
  | some a => .ref a
/-- a value of the layer as the machine has it: a cell by its number from the base on; .retAddr: a cell outside, by its address -/
def am_v (b : Nat) (v : Value) : Value := match v with
  | .ref a => .ref (b + a)
  | .retAddr a => .ref a
  | w => w
def am_lv (b : Nat) (lv : List (Nat × Value)) : List (Nat × Value) := lv.map (fun q => (q.1, am_v b q.2))
def am_fv (b : Nat) (h : am_H) (i k t : Nat) : Value := if t = 0 then .int (h.1 i k) else if t = 1 then .long (h.2.1 i k) else va_rf ((h.2.2 i k).map (fun a => b + a))
def am_fs (b : Nat) (h : am_H) (i : Nat) (ts : List Nat) : List Value := ts.mapIdx (fun k t => am_fv b h i k t)
def am_ar (b : Nat) (h : am_H) (i len k : Nat) : vp_A := (len, if k = 14 then .inr (.inl (h.2.1 i)) else if k ≤ 15 then .inl (h.1 i) else .inr (.inr (.inr (.inr (fun j => (h.2.2 i j).map (fun a => b + a))))))
def am_cell (b : Nat) (cs : Nat → ClassId) (h : am_H) (i : Nat) (s : Nat × Nat) : va_E := if s.1 < 12 then .inr (s.1, am_fs b h i (am_ft s.1)) else .inl (cs s.1, am_ar b h i s.2 s.1)
def am_ws (b : Nat) (cs : Nat → ClassId) (n : Nat) (h : am_H) : va_W := (List.range n).map (fun i => (b + i, am_cell b cs h i (am_sh i)))
def am_tys (cs : Nat → ClassId) : List (ClassId × FieldType) := [(cs 12, .byte), (cs 13, .int), (cs 14, .long), (cs 15, .boolean), (cs 16, .object "DailyLie$Life"), (cs 17, .object "DailyLie$Rule"), (cs 18, .object "DailyLie$Situation")]
/-- nothing is held yet from n on -/
def am_fr (n : Nat) (h : am_H) : Prop := ∀ a, n ≤ a → (∀ k, h.1 a k = 0) ∧ (∀ k, h.2.1 a k = 0) ∧ ∀ k, h.2.2 a k = none
theorem am_ws_at {b n i : Nat} {cs : Nat → ClassId} {h : am_H} (hi : i < n) : (am_ws b cs n h)[i]? = some (b + i, am_cell b cs h i (am_sh i)) := by
  simp [am_ws, hi]
theorem am_cell_congr {b j : Nat} {cs : Nat → ClassId} {h h2 : am_H} {s : Nat × Nat} (e1 : h2.1 j = h.1 j) (e2 : h2.2.1 j = h.2.1 j) (e3 : h2.2.2 j = h.2.2 j) : am_cell b cs h2 j s = am_cell b cs h j s := by
  have f1 : am_fs b h2 j (am_ft s.1) = am_fs b h j (am_ft s.1) := by
    unfold am_fs am_fv
    rw [e1, e2, e3]
  have f2 : am_ar b h2 j s.2 s.1 = am_ar b h j s.2 s.1 := by
    unfold am_ar
    rw [e1, e2, e3]
  unfold am_cell
  rw [f1, f2]
theorem am_ws_set {b n i : Nat} {cs : Nat → ClassId} {h h2 : am_H} {e : va_E} (hi : i < n) (he : e = am_cell b cs h2 i (am_sh i)) (hc : ∀ j, j ≠ i → am_cell b cs h2 j (am_sh j) = am_cell b cs h j (am_sh j)) : (am_ws b cs n h).set i (b + i, e) = am_ws b cs n h2 := by
  subst he
  apply List.ext_getElem?
  intro j
  by_cases hj : j < n
  · by_cases hij : i = j
    · subst hij
      rw [List.getElem?_set_self (by simpa [am_ws] using hj), am_ws_at hj]
    · rw [List.getElem?_set_ne hij, am_ws_at hj, am_ws_at hj, hc j (fun z => hij z.symm)]
  · have h1 : ((am_ws b cs n h).set i (b + i, am_cell b cs h2 i (am_sh i)))[j]? = none := by
      rw [List.getElem?_eq_none_iff]; simp [am_ws]; omega
    have h2' : (am_ws b cs n h2)[j]? = none := by
      rw [List.getElem?_eq_none_iff]; simp [am_ws]; omega
    rw [h1, h2']
theorem am_ws_push {b n : Nat} {cs : Nat → ClassId} {h : am_H} {e : va_E} (he : e = am_cell b cs h n (am_sh n)) : am_ws b cs n h ++ [(b + n, e)] = am_ws b cs (n + 1) h := by
  subst he
  simp [am_ws, List.range_succ]
theorem am_fs_set {b i k t : Nat} {h h2 : am_H} {ts : List Nat} {v : Value} (hk : ts[k]? = some t) (hv : am_fv b h2 i k t = v) (ho : ∀ j u, j ≠ k → am_fv b h2 i j u = am_fv b h i j u) : (am_fs b h i ts).set k v = am_fs b h2 i ts := by
  apply List.ext_getElem?
  intro j
  have hl := (List.getElem?_eq_some_iff.mp hk).1
  by_cases hjk : k = j
  · subst hjk
    rw [List.getElem?_set_self (by simpa [am_fs] using hl)]
    simp [am_fs, hk, hv]
  · rw [List.getElem?_set_ne hjk]
    simp only [am_fs, List.getElem?_mapIdx]
    cases ts[j]? with
    | none => rfl
    | some u => exact congrArg some (ho j u (fun z => hjk z.symm)).symm
/-- the words that every call keeps, and those that the machine keeps otherwise -/
def am_tbl : List Cond := lw_tbl.filter goodWord
def am_isN : Cond → Bool
  | .fieldLinkNest .. => true
  | .methodLinkNest .. => true
  | .declares .. => true
  | .arrayOver (.object _) => true
  | _ => false
def am_nest : List Cond := lw_tbl.filter am_isN
def am_NN (U : State) : Prop := ∀ w ∈ am_nest, va_Nw w U
theorem am_NN_warm {s U : State} (hW : s.WarmedH U.vm) (h : am_NN s) : am_NN U := by
  intro w hw
  have h1 := h w hw
  have h2 : am_isN w = true := (List.mem_filter.mp hw).2
  cases w <;> first | exact va_Nw.warmF hW h1 | exact va_Nw.warmM hW h1 | exact va_Nw.warmD hW h1 | (rename_i ty; cases ty <;> first | exact va_AO.moved hW.alike h1 | (simp [am_isN] at h2)) | (simp [am_isN] at h2)
theorem am_NN_same {s U : State} (hv : s.vm = U.vm) (h : am_NN s) : am_NN U := by
  intro w hw
  have h1 := h w hw
  have h2 : am_isN w = true := (List.mem_filter.mp hw).2
  cases w <;> first | exact va_Nw.same rfl hv h1 | (rename_i ty; cases ty <;> first | exact va_AO.moved (by rw [hv]; exact Vm.Alike.refl _) h1 | (simp [am_isN] at h2)) | (simp [am_isN] at h2)
theorem am_good (ws : List Cond) (h : ∀ w ∈ ws, w ∈ am_tbl) : GoodIn am_tbl ws := fun w hw => ⟨h w hw, good_of_word (List.mem_filter.mp (h w hw)).2⟩
def am_tx : String := "facts person trust street if harm child correct lie say or and not teller hearer fact said so holds heard lies second hour day "
def am_wd : List Int32 := [102, 97, 99, 116, 115, 32, 112, 101, 114, 115, 111, 110, 32, 116, 114, 117, 115, 116, 32, 115, 116, 114, 101, 101, 116, 32, 105, 102, 32, 104, 97, 114, 109, 32, 99, 104, 105, 108, 100, 32, 99, 111, 114, 114, 101, 99, 116, 32, 108, 105, 101, 32, 115, 97, 121, 32, 111, 114, 32, 97, 110, 100, 32, 110, 111, 116, 32, 116, 101, 108, 108, 101, 114, 32, 104, 101, 97, 114, 101, 114, 32, 102, 97, 99, 116, 32, 115, 97, 105, 100, 32, 115, 111, 32, 104, 111, 108, 100, 115, 32, 104, 101, 97, 114, 100, 32, 108, 105, 101, 115, 32, 115, 101, 99, 111, 110, 100, 32, 104, 111, 117, 114, 32, 100, 97, 121, 32]
/-- what lies outside the world: the one text, what its methods read -/
def am_O (b : Nat) (U : State) (H : Heap) : Prop := ∃ q v : Nat, vk_R "DailyLie$Tokens" 65 am_tx q U ∧ vk_S 1 [127] [am_wd] (fun _ => q) (fun _ => v) (fun q => b ≤ q) U H ∧ va_Z "java/lang/String" "COMPACT_STRINGS" "Z" (.int 1) (fun q => b ≤ q) U H ∧ va_Zq "jdk/internal/util/Preconditions" "SIOOBE_FORMATTER" "Ljava/util/function/BiFunction;" (fun q => b ≤ q) U H
theorem am_O_warm {b : Nat} {s U : State} {H : Heap} (hW : s.WarmedH U.vm) (hq : ∀ a : Nat, a < s.heap.size → ¬ b ≤ a → H[a]? = s.heap[a]?) (h : am_O b s s.heap) : am_O b U H := by
  obtain ⟨q, v, h1, h2, h3, h4⟩ := h
  exact ⟨q, v, vk_R.warm hW h1, (vk_S.moved hW.alike h2).kept hq, (va_Z.moved hW.alike h3).kept hq, (va_Zq.moved hW.alike h4).kept hq⟩
theorem am_O_same {b : Nat} {s U : State} (hv : U.vm = s.vm) (hh : U.heap = s.heap) (h : am_O b s s.heap) : am_O b U U.heap := by
  obtain ⟨q, v, h1, h2, h3, h4⟩ := h
  have hA : s.vm.Alike U.vm := by rw [hv]; exact Vm.Alike.refl _
  rw [hh]
  exact ⟨q, v, vk_R.same hv h1, vk_S.moved hA h2, va_Z.moved hA h3, va_Zq.moved hA h4⟩
/-- what a state is, to the layer -/
def am_B (b : Nat) (D : va_G) (cs : Nat → ClassId) (n : Nat) (h : am_H) (U : State) : Prop := am_fr n h ∧ va_P D vwCl (am_ws b cs n h) U.heap ∧ va_D (fun q => b ≤ q) (am_ws b cs n h) ∧ va_K D vwCl (am_tys cs) U ∧ am_NN U ∧ am_O b U U.heap
def am_Q (b : Nat) (D : va_G) (cs : Nat → ClassId) (z : Option Value × Nat × am_H) : Array Value → State → Outcome → State → Prop := fun _ st oc t => (oc = .returned (z.1.map (am_v b)) ∧ am_B b D cs z.2.1 z.2.2 t) ∧ va_F (fun q => b ≤ q) st t
def am_R (d mc ms : Nat) : Room := { frames := d, cells := mc, slots := ms, locals := 64 * d }
/-- a method's contract in the layer: from these arguments and this heap it returns z -/
def AM (y : MethodName) (cc : ByteArray) (nL : Nat) (rt : Option FieldType) (d mc ms : Nat) (av : List Value) (n : Nat) (h : am_H) (z : Option Value × Nat × am_H) : Prop :=
  ∀ (l : Launch) (b : Nat) (D : va_G) (cs : Nat → ClassId), Met l y (Cond.code y cc nL rt :: am_tbl) (am_R d mc ms) (va_Pc (av.map (am_v b)) (fun U => U.heap.size = b + n ∧ am_B b D cs n h U)) (am_Q b D cs z) mc ms (fun q => b ≤ q)
abbrev am_X : Type := Program × Launch × Env × Room × State × MethodId × Array Value × List Frame × Method × Code × Nat × va_G × (Nat → ClassId) × (State → Prop)
/-- where a walk stands: the machine's facts -/
def AC (x : am_X) (own : String) (cc : ByteArray) (nL : Nat) : Prop := match x with
  | (p, _, _, _, s, m, args, _, _, c, b, D, cs, _) => p.tables.exec = Jvm.exec ∧ c.code = cc ∧ c.maxLocals = nL ∧ s.vm.findClass own = some m.cls ∧ (∀ w ∈ am_tbl, w.before args s = true) ∧ va_K D vwCl (am_tys cs) s ∧ b ≤ s.heap.size ∧ am_NN s ∧ am_O b s s.heap
/-- the room that a walk has -/
def AR (x : am_X) (fr lo mc ms : Nat) : Prop := match x with
  | (_, _, _, R, _, _, _, _, _, _, _, _, _, _) => fr ≤ R.frames ∧ lo ≤ R.locals ∧ mc ≤ R.cells ∧ ms ≤ R.slots
/-- from here the walk comes to its end -/
def AX (x : am_X) (ce sl pc : Nat) (lv : List (Nat × Value)) (st : List Value) (n : Nat) (h : am_H) : Prop := match x with
  | (p, l, e, R, s, m, args, below, meth, c, b, D, cs, Q) => ∀ (H : Heap) (ls : Array Slot) (locs : List Loc), s.heap.size + ce = b + n → am_fr n h → va_P D vwCl (am_ws b cs n h) H → va_D (fun q => b ≤ q) (am_ws b cs n h) → va_S (fun q => b ≤ q) s.heap H locs → lv_has ls c.maxLocals (am_lv b lv) → W p l e R s m args below meth c H locs ce sl Q (F0 m pc ls (st.map (am_v b)))
/-- the end that a walk comes to -/
def AZ (x : am_X) (rt : Option FieldType) (ce sl : Nat) (z : Option Value × Nat × am_H) : Prop := match x with
  | (_, _, _, _, s, _, args, below, meth, _, b, D, cs, Q) => Q = MQ below (am_Q b D cs z) args s ce sl (fun q => b ≤ q) ∧ meth.sig.returnType = rt ∧ meth.locks = false
theorem am_lv_at {b nL i : Nat} {ls : Array Slot} {lv : List (Nat × Value)} {v : Value} (h : lv_has ls nL (am_lv b lv)) (k : Nat) (hk : lv[k]? = some (i, v)) : ls[i]? = some (.val (am_v b v)) :=
  lv_at h k (by simp [am_lv, hk])
theorem am_cat (b : Nat) (v : Value) : (am_v b v).category = v.category := by cases v <;> rfl
theorem am_cats (b : Nat) (st : List Value) : ((st.map (am_v b)).map fun v => v.category).sum = (st.map fun v => v.category).sum := by
  induction st with
  | nil => rfl
  | cons a l ih => simp only [List.map_cons, List.sum_cons, am_cat, ih]
theorem am_lv_filter1 (b i : Nat) (lv : List (Nat × Value)) : (am_lv b lv).filter (fun q => !(q.1 == i) && !(q.1 + 1 == i && q.2.category == 2)) = am_lv b (lv.filter (fun q => !(q.1 == i) && !(q.1 + 1 == i && q.2.category == 2))) := by
  unfold am_lv
  rw [List.filter_map]
  congr 1
  apply List.filter_congr
  intro q _
  simp [am_cat]
theorem am_lv_filter2 (b i : Nat) (lv : List (Nat × Value)) : (am_lv b lv).filter (fun q => !(q.1 == i) && (!(q.1 == i + 1) && !(q.1 + 1 == i && q.2.category == 2))) = am_lv b (lv.filter (fun q => !(q.1 == i) && (!(q.1 == i + 1) && !(q.1 + 1 == i && q.2.category == 2)))) := by
  unfold am_lv
  rw [List.filter_map]
  congr 1
  apply List.filter_congr
  intro q _
  simp [am_cat]
section AMR
variable {x : am_X} {own : String} {cc : ByteArray} {nL ce sl n : Nat} {lv : List (Nat × Value)} {st : List Value} {h : am_H}
theorem am_iload_n (pc : Nat) {q : Fin 4} {i : Nat} {u : Int32} (C : AC x own cc nL) (d : decode cc pc = .ok (.iload_n q, 1)) (hi : (q : Nat) = i) (j : Nat) (hl : lv[j]? = some (i, .int u)) (k : AX x ce sl (pc + 1) lv (.int u :: st) n h) : AX x ce sl pc lv st n h := by
  obtain ⟨p, l, e, R, s, m, args, below, meth, c, b, D, cs, Q⟩ := x
  intro H ls locs i1 i2 i3 i4 i5 i6
  exact lv_iload_n C.1 C.2.1 d hi (am_lv_at i6 j hl) (k H ls locs i1 i2 i3 i4 i5 i6)
theorem am_iload (pc : Nat) {i : Nat} {u : Int32} (C : AC x own cc nL) (d : decode cc pc = .ok (.iload i, 2)) (j : Nat) (hl : lv[j]? = some (i, .int u)) (k : AX x ce sl (pc + 2) lv (.int u :: st) n h) : AX x ce sl pc lv st n h := by
  obtain ⟨p, l, e, R, s, m, args, below, meth, c, b, D, cs, Q⟩ := x
  intro H ls locs i1 i2 i3 i4 i5 i6
  exact lv_iload C.1 C.2.1 d (am_lv_at i6 j hl) (k H ls locs i1 i2 i3 i4 i5 i6)
theorem am_istore_n (pc : Nat) {q : Fin 4} {i : Nat} {u : Int32} {lv2 : List (Nat × Value)} (C : AC x own cc nL) (d : decode cc pc = .ok (.istore_n q, 1)) (hi : (q : Nat) = i) (hn : i < nL) (hl : (i, Value.int u) :: lv.filter (fun q => !(q.1 == i) && !(q.1 + 1 == i && q.2.category == 2)) = lv2) (k : AX x ce sl (pc + 1) lv2 st n h) : AX x ce sl pc lv (.int u :: st) n h := by
  obtain ⟨p, l, e, R, s, m, args, below, meth, c, b, D, cs, Q⟩ := x
  intro H ls locs i1 i2 i3 i4 i5 i6
  refine lv_istore_n (lv' := am_lv b lv2) C.1 C.2.1 d hi i6 (by rw [C.2.2.1]; exact hn) (by rw [am_lv_filter1, ← hl]; rfl) (fun ls2 i6 => ?_)
  exact k H ls2 locs i1 i2 i3 i4 i5 i6
theorem am_istore (pc : Nat) {i : Nat} {u : Int32} {lv2 : List (Nat × Value)} (C : AC x own cc nL) (d : decode cc pc = .ok (.istore i, 2)) (hn : i < nL) (hl : (i, Value.int u) :: lv.filter (fun q => !(q.1 == i) && !(q.1 + 1 == i && q.2.category == 2)) = lv2) (k : AX x ce sl (pc + 2) lv2 st n h) : AX x ce sl pc lv (.int u :: st) n h := by
  obtain ⟨p, l, e, R, s, m, args, below, meth, c, b, D, cs, Q⟩ := x
  intro H ls locs i1 i2 i3 i4 i5 i6
  refine lv_istore (lv' := am_lv b lv2) C.1 C.2.1 d i6 (by rw [C.2.2.1]; exact hn) (by rw [am_lv_filter1, ← hl]; rfl) (fun ls2 i6 => ?_)
  exact k H ls2 locs i1 i2 i3 i4 i5 i6
theorem am_lload_n (pc : Nat) {q : Fin 4} {i : Nat} {u : Int64} (C : AC x own cc nL) (d : decode cc pc = .ok (.lload_n q, 1)) (hi : (q : Nat) = i) (j : Nat) (hl : lv[j]? = some (i, .long u)) (k : AX x ce sl (pc + 1) lv (.long u :: st) n h) : AX x ce sl pc lv st n h := by
  obtain ⟨p, l, e, R, s, m, args, below, meth, c, b, D, cs, Q⟩ := x
  intro H ls locs i1 i2 i3 i4 i5 i6
  exact lv_lload_n C.1 C.2.1 d hi (am_lv_at i6 j hl) (k H ls locs i1 i2 i3 i4 i5 i6)
theorem am_lload (pc : Nat) {i : Nat} {u : Int64} (C : AC x own cc nL) (d : decode cc pc = .ok (.lload i, 2)) (j : Nat) (hl : lv[j]? = some (i, .long u)) (k : AX x ce sl (pc + 2) lv (.long u :: st) n h) : AX x ce sl pc lv st n h := by
  obtain ⟨p, l, e, R, s, m, args, below, meth, c, b, D, cs, Q⟩ := x
  intro H ls locs i1 i2 i3 i4 i5 i6
  exact lv_lload C.1 C.2.1 d (am_lv_at i6 j hl) (k H ls locs i1 i2 i3 i4 i5 i6)
theorem am_lstore_n (pc : Nat) {q : Fin 4} {i : Nat} {u : Int64} {lv2 : List (Nat × Value)} (C : AC x own cc nL) (d : decode cc pc = .ok (.lstore_n q, 1)) (hi : (q : Nat) = i) (hn : i + 1 < nL) (hl : (i, Value.long u) :: lv.filter (fun q => !(q.1 == i) && (!(q.1 == i + 1) && !(q.1 + 1 == i && q.2.category == 2))) = lv2) (k : AX x ce sl (pc + 1) lv2 st n h) : AX x ce sl pc lv (.long u :: st) n h := by
  obtain ⟨p, l, e, R, s, m, args, below, meth, c, b, D, cs, Q⟩ := x
  intro H ls locs i1 i2 i3 i4 i5 i6
  refine lv_lstore_n (lv' := am_lv b lv2) C.1 C.2.1 d hi i6 (by rw [C.2.2.1]; exact hn) (by rw [am_lv_filter2, ← hl]; rfl) (fun ls2 i6 => ?_)
  exact k H ls2 locs i1 i2 i3 i4 i5 i6
theorem am_lstore (pc : Nat) {i : Nat} {u : Int64} {lv2 : List (Nat × Value)} (C : AC x own cc nL) (d : decode cc pc = .ok (.lstore i, 2)) (hn : i + 1 < nL) (hl : (i, Value.long u) :: lv.filter (fun q => !(q.1 == i) && (!(q.1 == i + 1) && !(q.1 + 1 == i && q.2.category == 2))) = lv2) (k : AX x ce sl (pc + 2) lv2 st n h) : AX x ce sl pc lv (.long u :: st) n h := by
  obtain ⟨p, l, e, R, s, m, args, below, meth, c, b, D, cs, Q⟩ := x
  intro H ls locs i1 i2 i3 i4 i5 i6
  refine lv_lstore (lv' := am_lv b lv2) C.1 C.2.1 d i6 (by rw [C.2.2.1]; exact hn) (by rw [am_lv_filter2, ← hl]; rfl) (fun ls2 i6 => ?_)
  exact k H ls2 locs i1 i2 i3 i4 i5 i6
theorem am_aload_n (pc : Nat) {q : Fin 4} {i : Nat} {u : Nat} (C : AC x own cc nL) (d : decode cc pc = .ok (.aload_n q, 1)) (hi : (q : Nat) = i) (j : Nat) (hl : lv[j]? = some (i, .ref u)) (k : AX x ce sl (pc + 1) lv (.ref u :: st) n h) : AX x ce sl pc lv st n h := by
  obtain ⟨p, l, e, R, s, m, args, below, meth, c, b, D, cs, Q⟩ := x
  intro H ls locs i1 i2 i3 i4 i5 i6
  exact lv_aload_n C.1 C.2.1 d hi (am_lv_at i6 j hl) (k H ls locs i1 i2 i3 i4 i5 i6)
theorem am_aload (pc : Nat) {i : Nat} {u : Nat} (C : AC x own cc nL) (d : decode cc pc = .ok (.aload i, 2)) (j : Nat) (hl : lv[j]? = some (i, .ref u)) (k : AX x ce sl (pc + 2) lv (.ref u :: st) n h) : AX x ce sl pc lv st n h := by
  obtain ⟨p, l, e, R, s, m, args, below, meth, c, b, D, cs, Q⟩ := x
  intro H ls locs i1 i2 i3 i4 i5 i6
  exact lv_aload C.1 C.2.1 d (am_lv_at i6 j hl) (k H ls locs i1 i2 i3 i4 i5 i6)
theorem am_astore_n (pc : Nat) {q : Fin 4} {i : Nat} {u : Nat} {lv2 : List (Nat × Value)} (C : AC x own cc nL) (d : decode cc pc = .ok (.astore_n q, 1)) (hi : (q : Nat) = i) (hn : i < nL) (hl : (i, Value.ref u) :: lv.filter (fun q => !(q.1 == i) && !(q.1 + 1 == i && q.2.category == 2)) = lv2) (k : AX x ce sl (pc + 1) lv2 st n h) : AX x ce sl pc lv (.ref u :: st) n h := by
  obtain ⟨p, l, e, R, s, m, args, below, meth, c, b, D, cs, Q⟩ := x
  intro H ls locs i1 i2 i3 i4 i5 i6
  refine lv_astore_n (lv' := am_lv b lv2) C.1 C.2.1 d hi i6 (by rw [C.2.2.1]; exact hn) (by rw [am_lv_filter1, ← hl]; rfl) (fun ls2 i6 => ?_)
  exact k H ls2 locs i1 i2 i3 i4 i5 i6
theorem am_astore (pc : Nat) {i : Nat} {u : Nat} {lv2 : List (Nat × Value)} (C : AC x own cc nL) (d : decode cc pc = .ok (.astore i, 2)) (hn : i < nL) (hl : (i, Value.ref u) :: lv.filter (fun q => !(q.1 == i) && !(q.1 + 1 == i && q.2.category == 2)) = lv2) (k : AX x ce sl (pc + 2) lv2 st n h) : AX x ce sl pc lv (.ref u :: st) n h := by
  obtain ⟨p, l, e, R, s, m, args, below, meth, c, b, D, cs, Q⟩ := x
  intro H ls locs i1 i2 i3 i4 i5 i6
  refine lv_astore (lv' := am_lv b lv2) C.1 C.2.1 d i6 (by rw [C.2.2.1]; exact hn) (by rw [am_lv_filter1, ← hl]; rfl) (fun ls2 i6 => ?_)
  exact k H ls2 locs i1 i2 i3 i4 i5 i6
theorem am_aload_nX (pc : Nat) {q : Fin 4} {i : Nat} {u : Nat} (C : AC x own cc nL) (d : decode cc pc = .ok (.aload_n q, 1)) (hi : (q : Nat) = i) (j : Nat) (hl : lv[j]? = some (i, .retAddr u)) (k : AX x ce sl (pc + 1) lv (.retAddr u :: st) n h) : AX x ce sl pc lv st n h := by
  obtain ⟨p, l, e, R, s, m, args, below, meth, c, b, D, cs, Q⟩ := x
  intro H ls locs i1 i2 i3 i4 i5 i6
  exact lv_aload_n C.1 C.2.1 d hi (am_lv_at i6 j hl) (k H ls locs i1 i2 i3 i4 i5 i6)
theorem am_iinc (pc : Nat) {i : Nat} {a : Int} {u : Int32} (v : Int32) {lv2 : List (Nat × Value)} (C : AC x own cc nL) (d : decode cc pc = .ok (.iinc i a, 3)) (j : Nat) (hj : lv[j]? = some (i, .int u)) (hv : u + Int32.ofInt a = v) (hn : i < nL) (hl : (i, Value.int v) :: lv.filter (fun q => !(q.1 == i) && !(q.1 + 1 == i && q.2.category == 2)) = lv2) (k : AX x ce sl (pc + 3) lv2 st n h) : AX x ce sl pc lv st n h := by
  obtain ⟨p, l, e, R, s, m, args, below, meth, c, b, D, cs, Q⟩ := x
  intro H ls locs i1 i2 i3 i4 i5 i6
  refine lv_iinc (lv' := am_lv b lv2) (k := j) (v := v) C.1 C.2.1 d i6 (by simp [am_lv, hj, am_v]) hv (by rw [C.2.2.1]; exact hn) (by rw [am_lv_filter1, ← hl]; rfl) (fun ls2 i6 => ?_)
  exact k H ls2 locs i1 i2 i3 i4 i5 i6
/-- fewer locals, in another order -/
theorem am_lvs {pc : Nat} {lv2 : List (Nat × Value)} (ks : List Nat) (hk : lv_pick lv ks = lv2) (k : AX x ce sl pc lv2 st n h) : AX x ce sl pc lv st n h := by
  obtain ⟨p, l, e, R, s, m, args, below, meth, c, b, D, cs, Q⟩ := x
  intro H ls locs i1 i2 i3 i4 i5 i6
  exact k H ls locs i1 i2 i3 i4 i5 (lv_sub i6 ks (by rw [← hk]; simp [lv_pick, am_lv, List.map_filterMap, List.filterMap_map, Function.comp_def]))
theorem am_iconst (pc : Nat) {a : Int} (v : Int32) (C : AC x own cc nL) (d : decode cc pc = .ok (.iconst a, 1)) (hv : Int32.ofInt a = v) (k : AX x ce sl (pc + 1) lv (.int v :: st) n h) : AX x ce sl pc lv (st) n h := by
  obtain ⟨p, l, e, R, s, m, args, below, meth, c, b, D, cs, Q⟩ := x
  intro H ls locs i1 i2 i3 i4 i5 i6
  exact lv_iconst C.1 C.2.1 d hv (k H ls locs i1 i2 i3 i4 i5 i6)
theorem am_bipush (pc : Nat) {a : Int} (v : Int32) (C : AC x own cc nL) (d : decode cc pc = .ok (.bipush a, 2)) (hv : (Int8.ofInt a).toInt32 = v) (k : AX x ce sl (pc + 2) lv (.int v :: st) n h) : AX x ce sl pc lv (st) n h := by
  obtain ⟨p, l, e, R, s, m, args, below, meth, c, b, D, cs, Q⟩ := x
  intro H ls locs i1 i2 i3 i4 i5 i6
  exact lv_bipush C.1 C.2.1 d hv (k H ls locs i1 i2 i3 i4 i5 i6)
theorem am_sipush (pc : Nat) {a : Int} (v : Int32) (C : AC x own cc nL) (d : decode cc pc = .ok (.sipush a, 3)) (hv : (Int16.ofInt a).toInt32 = v) (k : AX x ce sl (pc + 3) lv (.int v :: st) n h) : AX x ce sl pc lv (st) n h := by
  obtain ⟨p, l, e, R, s, m, args, below, meth, c, b, D, cs, Q⟩ := x
  intro H ls locs i1 i2 i3 i4 i5 i6
  exact lv_sipush C.1 C.2.1 d hv (k H ls locs i1 i2 i3 i4 i5 i6)
theorem am_lconst (pc : Nat) {a : Fin 2} (v : Int64) (C : AC x own cc nL) (d : decode cc pc = .ok (.lconst a, 1)) (hv : Int64.ofNat (a : Nat) = v) (k : AX x ce sl (pc + 1) lv (.long v :: st) n h) : AX x ce sl pc lv (st) n h := by
  obtain ⟨p, l, e, R, s, m, args, below, meth, c, b, D, cs, Q⟩ := x
  intro H ls locs i1 i2 i3 i4 i5 i6
  exact lv_lconst C.1 C.2.1 d hv (k H ls locs i1 i2 i3 i4 i5 i6)
theorem am_ldc (pc : Nat) {a : Nat} {v : Int32} (C : AC x own cc nL) (d : decode cc pc = .ok (.ldc a, 2)) (hv : Cond.constant own a v ∈ am_tbl) (k : AX x ce sl (pc + 2) lv (.int v :: st) n h) : AX x ce sl pc lv (st) n h := by
  obtain ⟨p, l, e, R, s, m, args, below, meth, c, b, D, cs, Q⟩ := x
  intro H ls locs i1 i2 i3 i4 i5 i6
  exact lv_ldc C.1 C.2.1 C.2.2.2.1 (C.2.2.2.2.1 _ hv) d (k H ls locs i1 i2 i3 i4 i5 i6)
theorem am_ldcw (pc : Nat) {a : Nat} {v : Int32} (C : AC x own cc nL) (d : decode cc pc = .ok (.ldc_w a, 3)) (hv : Cond.constant own a v ∈ am_tbl) (k : AX x ce sl (pc + 3) lv (.int v :: st) n h) : AX x ce sl pc lv (st) n h := by
  obtain ⟨p, l, e, R, s, m, args, below, meth, c, b, D, cs, Q⟩ := x
  intro H ls locs i1 i2 i3 i4 i5 i6
  exact lv_ldcw C.1 C.2.1 C.2.2.2.1 (C.2.2.2.2.1 _ hv) d (k H ls locs i1 i2 i3 i4 i5 i6)
theorem am_ldc2 (pc : Nat) {a : Nat} {v : Int64} (C : AC x own cc nL) (d : decode cc pc = .ok (.ldc2_w a, 3)) (hv : Cond.constantLong own a v ∈ am_tbl) (k : AX x ce sl (pc + 3) lv (.long v :: st) n h) : AX x ce sl pc lv (st) n h := by
  obtain ⟨p, l, e, R, s, m, args, below, meth, c, b, D, cs, Q⟩ := x
  intro H ls locs i1 i2 i3 i4 i5 i6
  exact lv_ldc2 C.1 C.2.1 C.2.2.2.1 (C.2.2.2.2.1 _ hv) d (k H ls locs i1 i2 i3 i4 i5 i6)
theorem am_iadd (pc : Nat) {u v : Int32} (C : AC x own cc nL) (d : decode cc pc = .ok (.iadd, 1)) (k : AX x ce sl (pc + 1) lv (.int (u + v) :: st) n h) : AX x ce sl pc lv (.int v :: .int u :: st) n h := by
  obtain ⟨p, l, e, R, s, m, args, below, meth, c, b, D, cs, Q⟩ := x
  intro H ls locs i1 i2 i3 i4 i5 i6
  exact lv_iadd C.1 C.2.1 d (k H ls locs i1 i2 i3 i4 i5 i6)
theorem am_isub (pc : Nat) {u v : Int32} (C : AC x own cc nL) (d : decode cc pc = .ok (.isub, 1)) (k : AX x ce sl (pc + 1) lv (.int (u - v) :: st) n h) : AX x ce sl pc lv (.int v :: .int u :: st) n h := by
  obtain ⟨p, l, e, R, s, m, args, below, meth, c, b, D, cs, Q⟩ := x
  intro H ls locs i1 i2 i3 i4 i5 i6
  exact lv_isub C.1 C.2.1 d (k H ls locs i1 i2 i3 i4 i5 i6)
theorem am_imul (pc : Nat) {u v : Int32} (C : AC x own cc nL) (d : decode cc pc = .ok (.imul, 1)) (k : AX x ce sl (pc + 1) lv (.int (u * v) :: st) n h) : AX x ce sl pc lv (.int v :: .int u :: st) n h := by
  obtain ⟨p, l, e, R, s, m, args, below, meth, c, b, D, cs, Q⟩ := x
  intro H ls locs i1 i2 i3 i4 i5 i6
  exact lv_imul C.1 C.2.1 d (k H ls locs i1 i2 i3 i4 i5 i6)
theorem am_iand (pc : Nat) {u v : Int32} (C : AC x own cc nL) (d : decode cc pc = .ok (.iand, 1)) (k : AX x ce sl (pc + 1) lv (.int (u &&& v) :: st) n h) : AX x ce sl pc lv (.int v :: .int u :: st) n h := by
  obtain ⟨p, l, e, R, s, m, args, below, meth, c, b, D, cs, Q⟩ := x
  intro H ls locs i1 i2 i3 i4 i5 i6
  exact lv_iand C.1 C.2.1 d (k H ls locs i1 i2 i3 i4 i5 i6)
theorem am_ior (pc : Nat) {u v : Int32} (C : AC x own cc nL) (d : decode cc pc = .ok (.ior, 1)) (k : AX x ce sl (pc + 1) lv (.int (u ||| v) :: st) n h) : AX x ce sl pc lv (.int v :: .int u :: st) n h := by
  obtain ⟨p, l, e, R, s, m, args, below, meth, c, b, D, cs, Q⟩ := x
  intro H ls locs i1 i2 i3 i4 i5 i6
  exact lv_ior C.1 C.2.1 d (k H ls locs i1 i2 i3 i4 i5 i6)
theorem am_ixor (pc : Nat) {u v : Int32} (C : AC x own cc nL) (d : decode cc pc = .ok (.ixor, 1)) (k : AX x ce sl (pc + 1) lv (.int (u ^^^ v) :: st) n h) : AX x ce sl pc lv (.int v :: .int u :: st) n h := by
  obtain ⟨p, l, e, R, s, m, args, below, meth, c, b, D, cs, Q⟩ := x
  intro H ls locs i1 i2 i3 i4 i5 i6
  exact lv_ixor C.1 C.2.1 d (k H ls locs i1 i2 i3 i4 i5 i6)
theorem am_ishl (pc : Nat) {u v : Int32} (C : AC x own cc nL) (d : decode cc pc = .ok (.ishl, 1)) (k : AX x ce sl (pc + 1) lv (.int (u <<< (v &&& 31)) :: st) n h) : AX x ce sl pc lv (.int v :: .int u :: st) n h := by
  obtain ⟨p, l, e, R, s, m, args, below, meth, c, b, D, cs, Q⟩ := x
  intro H ls locs i1 i2 i3 i4 i5 i6
  exact lv_ishl C.1 C.2.1 d (k H ls locs i1 i2 i3 i4 i5 i6)
theorem am_ishr (pc : Nat) {u v : Int32} (C : AC x own cc nL) (d : decode cc pc = .ok (.ishr, 1)) (k : AX x ce sl (pc + 1) lv (.int (u >>> (v &&& 31)) :: st) n h) : AX x ce sl pc lv (.int v :: .int u :: st) n h := by
  obtain ⟨p, l, e, R, s, m, args, below, meth, c, b, D, cs, Q⟩ := x
  intro H ls locs i1 i2 i3 i4 i5 i6
  exact lv_ishr C.1 C.2.1 d (k H ls locs i1 i2 i3 i4 i5 i6)
theorem am_idiv (pc : Nat) {u v : Int32} (C : AC x own cc nL) (d : decode cc pc = .ok (.idiv, 1)) (hz : ¬ v = 0) (k : AX x ce sl (pc + 1) lv (.int (u / v) :: st) n h) : AX x ce sl pc lv (.int v :: .int u :: st) n h := by
  obtain ⟨p, l, e, R, s, m, args, below, meth, c, b, D, cs, Q⟩ := x
  intro H ls locs i1 i2 i3 i4 i5 i6
  exact lv_idiv C.1 C.2.1 d hz (k H ls locs i1 i2 i3 i4 i5 i6)
theorem am_irem (pc : Nat) {u v : Int32} (C : AC x own cc nL) (d : decode cc pc = .ok (.irem, 1)) (hz : ¬ v = 0) (k : AX x ce sl (pc + 1) lv (.int (u - u / v * v) :: st) n h) : AX x ce sl pc lv (.int v :: .int u :: st) n h := by
  obtain ⟨p, l, e, R, s, m, args, below, meth, c, b, D, cs, Q⟩ := x
  intro H ls locs i1 i2 i3 i4 i5 i6
  exact lv_irem C.1 C.2.1 d hz (k H ls locs i1 i2 i3 i4 i5 i6)
theorem am_iushr (pc : Nat) {u v : Int32} (C : AC x own cc nL) (d : decode cc pc = .ok (.iushr, 1)) (k : AX x ce sl (pc + 1) lv (.int ((u.toUInt32 >>> (v.toUInt32 &&& Int32.toUInt32 31)).toInt32) :: st) n h) : AX x ce sl pc lv (.int v :: .int u :: st) n h := by
  obtain ⟨p, l, e, R, s, m, args, below, meth, c, b, D, cs, Q⟩ := x
  intro H ls locs i1 i2 i3 i4 i5 i6
  exact lv_iushr C.1 C.2.1 d rfl (k H ls locs i1 i2 i3 i4 i5 i6)
theorem am_ladd (pc : Nat) {u v : Int64} (C : AC x own cc nL) (d : decode cc pc = .ok (.ladd, 1)) (k : AX x ce sl (pc + 1) lv (.long (u + v) :: st) n h) : AX x ce sl pc lv (.long v :: .long u :: st) n h := by
  obtain ⟨p, l, e, R, s, m, args, below, meth, c, b, D, cs, Q⟩ := x
  intro H ls locs i1 i2 i3 i4 i5 i6
  exact lv_ladd C.1 C.2.1 d (k H ls locs i1 i2 i3 i4 i5 i6)
theorem am_lsub (pc : Nat) {u v : Int64} (C : AC x own cc nL) (d : decode cc pc = .ok (.lsub, 1)) (k : AX x ce sl (pc + 1) lv (.long (u - v) :: st) n h) : AX x ce sl pc lv (.long v :: .long u :: st) n h := by
  obtain ⟨p, l, e, R, s, m, args, below, meth, c, b, D, cs, Q⟩ := x
  intro H ls locs i1 i2 i3 i4 i5 i6
  exact lv_lsub C.1 C.2.1 d (k H ls locs i1 i2 i3 i4 i5 i6)
theorem am_lmul (pc : Nat) {u v : Int64} (C : AC x own cc nL) (d : decode cc pc = .ok (.lmul, 1)) (k : AX x ce sl (pc + 1) lv (.long (u * v) :: st) n h) : AX x ce sl pc lv (.long v :: .long u :: st) n h := by
  obtain ⟨p, l, e, R, s, m, args, below, meth, c, b, D, cs, Q⟩ := x
  intro H ls locs i1 i2 i3 i4 i5 i6
  exact lv_lmul C.1 C.2.1 d (k H ls locs i1 i2 i3 i4 i5 i6)
theorem am_land (pc : Nat) {u v : Int64} (C : AC x own cc nL) (d : decode cc pc = .ok (.land, 1)) (k : AX x ce sl (pc + 1) lv (.long (u &&& v) :: st) n h) : AX x ce sl pc lv (.long v :: .long u :: st) n h := by
  obtain ⟨p, l, e, R, s, m, args, below, meth, c, b, D, cs, Q⟩ := x
  intro H ls locs i1 i2 i3 i4 i5 i6
  exact lv_land C.1 C.2.1 d (k H ls locs i1 i2 i3 i4 i5 i6)
theorem am_lor (pc : Nat) {u v : Int64} (C : AC x own cc nL) (d : decode cc pc = .ok (.lor, 1)) (k : AX x ce sl (pc + 1) lv (.long (u ||| v) :: st) n h) : AX x ce sl pc lv (.long v :: .long u :: st) n h := by
  obtain ⟨p, l, e, R, s, m, args, below, meth, c, b, D, cs, Q⟩ := x
  intro H ls locs i1 i2 i3 i4 i5 i6
  exact lv_lor C.1 C.2.1 d (k H ls locs i1 i2 i3 i4 i5 i6)
theorem am_ldiv (pc : Nat) {u v : Int64} (C : AC x own cc nL) (d : decode cc pc = .ok (.ldiv, 1)) (hz : ¬ v = 0) (k : AX x ce sl (pc + 1) lv (.long (u / v) :: st) n h) : AX x ce sl pc lv (.long v :: .long u :: st) n h := by
  obtain ⟨p, l, e, R, s, m, args, below, meth, c, b, D, cs, Q⟩ := x
  intro H ls locs i1 i2 i3 i4 i5 i6
  exact lv_ldiv C.1 C.2.1 d hz (k H ls locs i1 i2 i3 i4 i5 i6)
theorem am_lrem (pc : Nat) {u v : Int64} (C : AC x own cc nL) (d : decode cc pc = .ok (.lrem, 1)) (hz : ¬ v = 0) (k : AX x ce sl (pc + 1) lv (.long (u - u / v * v) :: st) n h) : AX x ce sl pc lv (.long v :: .long u :: st) n h := by
  obtain ⟨p, l, e, R, s, m, args, below, meth, c, b, D, cs, Q⟩ := x
  intro H ls locs i1 i2 i3 i4 i5 i6
  exact lv_lrem C.1 C.2.1 d hz (k H ls locs i1 i2 i3 i4 i5 i6)
theorem am_lshl (pc : Nat) {u : Int64} {v : Int32} (C : AC x own cc nL) (d : decode cc pc = .ok (.lshl, 1)) (k : AX x ce sl (pc + 1) lv (.long (u <<< (v.toInt64 &&& 63)) :: st) n h) : AX x ce sl pc lv (.int v :: .long u :: st) n h := by
  obtain ⟨p, l, e, R, s, m, args, below, meth, c, b, D, cs, Q⟩ := x
  intro H ls locs i1 i2 i3 i4 i5 i6
  exact lv_lshl C.1 C.2.1 d rfl (k H ls locs i1 i2 i3 i4 i5 i6)
theorem am_lcmp (pc : Nat) {u v : Int64} (C : AC x own cc nL) (d : decode cc pc = .ok (.lcmp, 1)) (k : AX x ce sl (pc + 1) lv (.int (lg_cmp u v) :: st) n h) : AX x ce sl pc lv (.long v :: .long u :: st) n h := by
  obtain ⟨p, l, e, R, s, m, args, below, meth, c, b, D, cs, Q⟩ := x
  intro H ls locs i1 i2 i3 i4 i5 i6
  exact W.lcmp C.1 C.2.1 d (k H ls locs i1 i2 i3 i4 i5 i6)
theorem am_i2l (pc : Nat) {u : Int32} (C : AC x own cc nL) (d : decode cc pc = .ok (.i2l, 1)) (k : AX x ce sl (pc + 1) lv (.long u.toInt64 :: st) n h) : AX x ce sl pc lv (.int u :: st) n h := by
  obtain ⟨p, l, e, R, s, m, args, below, meth, c, b, D, cs, Q⟩ := x
  intro H ls locs i1 i2 i3 i4 i5 i6
  exact lv_i2l C.1 C.2.1 d rfl (k H ls locs i1 i2 i3 i4 i5 i6)
theorem am_l2i (pc : Nat) {u : Int64} (C : AC x own cc nL) (d : decode cc pc = .ok (.l2i, 1)) (k : AX x ce sl (pc + 1) lv (.int u.toInt32 :: st) n h) : AX x ce sl pc lv (.long u :: st) n h := by
  obtain ⟨p, l, e, R, s, m, args, below, meth, c, b, D, cs, Q⟩ := x
  intro H ls locs i1 i2 i3 i4 i5 i6
  exact lv_l2i C.1 C.2.1 d rfl (k H ls locs i1 i2 i3 i4 i5 i6)
theorem am_i2b (pc : Nat) {u : Int32} (C : AC x own cc nL) (d : decode cc pc = .ok (.i2b, 1)) (k : AX x ce sl (pc + 1) lv (.int u.toInt8.toInt32 :: st) n h) : AX x ce sl pc lv (.int u :: st) n h := by
  obtain ⟨p, l, e, R, s, m, args, below, meth, c, b, D, cs, Q⟩ := x
  intro H ls locs i1 i2 i3 i4 i5 i6
  exact lv_i2b C.1 C.2.1 d rfl (k H ls locs i1 i2 i3 i4 i5 i6)
theorem am_dup (pc : Nat) {v : Value} (C : AC x own cc nL) (d : decode cc pc = .ok (.dup, 1)) (hc : v.category = 1) (k : AX x ce sl (pc + 1) lv (v :: v :: st) n h) : AX x ce sl pc lv (v :: st) n h := by
  obtain ⟨p, l, e, R, s, m, args, below, meth, c, b, D, cs, Q⟩ := x
  intro H ls locs i1 i2 i3 i4 i5 i6
  exact lv_dup C.1 C.2.1 d (by rw [am_cat]; exact hc) (k H ls locs i1 i2 i3 i4 i5 i6)
theorem am_pop (pc : Nat) {v : Value} (C : AC x own cc nL) (d : decode cc pc = .ok (.pop, 1)) (hc : v.category = 1) (k : AX x ce sl (pc + 1) lv (st) n h) : AX x ce sl pc lv (v :: st) n h := by
  obtain ⟨p, l, e, R, s, m, args, below, meth, c, b, D, cs, Q⟩ := x
  intro H ls locs i1 i2 i3 i4 i5 i6
  exact lv_pop C.1 C.2.1 d (by rw [am_cat]; exact hc) (k H ls locs i1 i2 i3 i4 i5 i6)
theorem am_dup2 (pc : Nat) {v u : Value} (C : AC x own cc nL) (d : decode cc pc = .ok (.dup2, 1)) (hc : v.category = 1) (hc2 : u.category = 1) (k : AX x ce sl (pc + 1) lv (v :: u :: v :: u :: st) n h) : AX x ce sl pc lv (v :: u :: st) n h := by
  obtain ⟨p, l, e, R, s, m, args, below, meth, c, b, D, cs, Q⟩ := x
  intro H ls locs i1 i2 i3 i4 i5 i6
  exact lv_dup2_11 C.1 C.2.1 d (by rw [am_cat]; exact hc) (by rw [am_cat]; exact hc2) (k H ls locs i1 i2 i3 i4 i5 i6)
theorem am_icmp_eq (pc tgt : Nat) {off : Int} {u v : Int32} (C : AC x own cc nL) (d : decode cc pc = .ok (.if_icmp .eq off, 3)) (ht : (pc : Int) + off = (tgt : Int)) (kt : u = v → AX x ce sl tgt lv st n h) (kf : ¬ u = v → AX x ce sl (pc + 3) lv st n h) : AX x ce sl pc lv (.int v :: .int u :: st) n h := by
  obtain ⟨p, l, e, R, s, m, args, below, meth, c, b, D, cs, Q⟩ := x
  intro H ls locs i1 i2 i3 i4 i5 i6
  exact lv_icmp_eq C.1 C.2.1 d ht (fun z => kt z H ls locs i1 i2 i3 i4 i5 i6) (fun z => kf z H ls locs i1 i2 i3 i4 i5 i6)
theorem am_if_eq (pc tgt : Nat) {off : Int} {u : Int32} (C : AC x own cc nL) (d : decode cc pc = .ok (.ifCond .eq off, 3)) (ht : (pc : Int) + off = (tgt : Int)) (kt : u = 0 → AX x ce sl tgt lv st n h) (kf : ¬ u = 0 → AX x ce sl (pc + 3) lv st n h) : AX x ce sl pc lv (.int u :: st) n h := by
  obtain ⟨p, l, e, R, s, m, args, below, meth, c, b, D, cs, Q⟩ := x
  intro H ls locs i1 i2 i3 i4 i5 i6
  exact lv_if_eq C.1 C.2.1 d ht (fun z => kt z H ls locs i1 i2 i3 i4 i5 i6) (fun z => kf z H ls locs i1 i2 i3 i4 i5 i6)
theorem am_icmp_ne (pc tgt : Nat) {off : Int} {u v : Int32} (C : AC x own cc nL) (d : decode cc pc = .ok (.if_icmp .ne off, 3)) (ht : (pc : Int) + off = (tgt : Int)) (kt : ¬ u = v → AX x ce sl tgt lv st n h) (kf : u = v → AX x ce sl (pc + 3) lv st n h) : AX x ce sl pc lv (.int v :: .int u :: st) n h := by
  obtain ⟨p, l, e, R, s, m, args, below, meth, c, b, D, cs, Q⟩ := x
  intro H ls locs i1 i2 i3 i4 i5 i6
  exact lv_icmp_ne C.1 C.2.1 d ht (fun z => kt z H ls locs i1 i2 i3 i4 i5 i6) (fun z => kf z H ls locs i1 i2 i3 i4 i5 i6)
theorem am_if_ne (pc tgt : Nat) {off : Int} {u : Int32} (C : AC x own cc nL) (d : decode cc pc = .ok (.ifCond .ne off, 3)) (ht : (pc : Int) + off = (tgt : Int)) (kt : ¬ u = 0 → AX x ce sl tgt lv st n h) (kf : u = 0 → AX x ce sl (pc + 3) lv st n h) : AX x ce sl pc lv (.int u :: st) n h := by
  obtain ⟨p, l, e, R, s, m, args, below, meth, c, b, D, cs, Q⟩ := x
  intro H ls locs i1 i2 i3 i4 i5 i6
  exact lv_if_ne C.1 C.2.1 d ht (fun z => kt z H ls locs i1 i2 i3 i4 i5 i6) (fun z => kf z H ls locs i1 i2 i3 i4 i5 i6)
theorem am_icmp_lt (pc tgt : Nat) {off : Int} {u v : Int32} (C : AC x own cc nL) (d : decode cc pc = .ok (.if_icmp .lt off, 3)) (ht : (pc : Int) + off = (tgt : Int)) (kt : u < v → AX x ce sl tgt lv st n h) (kf : ¬ u < v → AX x ce sl (pc + 3) lv st n h) : AX x ce sl pc lv (.int v :: .int u :: st) n h := by
  obtain ⟨p, l, e, R, s, m, args, below, meth, c, b, D, cs, Q⟩ := x
  intro H ls locs i1 i2 i3 i4 i5 i6
  exact lv_icmp_lt C.1 C.2.1 d ht (fun z => kt z H ls locs i1 i2 i3 i4 i5 i6) (fun z => kf z H ls locs i1 i2 i3 i4 i5 i6)
theorem am_if_lt (pc tgt : Nat) {off : Int} {u : Int32} (C : AC x own cc nL) (d : decode cc pc = .ok (.ifCond .lt off, 3)) (ht : (pc : Int) + off = (tgt : Int)) (kt : u < 0 → AX x ce sl tgt lv st n h) (kf : ¬ u < 0 → AX x ce sl (pc + 3) lv st n h) : AX x ce sl pc lv (.int u :: st) n h := by
  obtain ⟨p, l, e, R, s, m, args, below, meth, c, b, D, cs, Q⟩ := x
  intro H ls locs i1 i2 i3 i4 i5 i6
  exact lv_if_lt C.1 C.2.1 d ht (fun z => kt z H ls locs i1 i2 i3 i4 i5 i6) (fun z => kf z H ls locs i1 i2 i3 i4 i5 i6)
theorem am_icmp_ge (pc tgt : Nat) {off : Int} {u v : Int32} (C : AC x own cc nL) (d : decode cc pc = .ok (.if_icmp .ge off, 3)) (ht : (pc : Int) + off = (tgt : Int)) (kt : v ≤ u → AX x ce sl tgt lv st n h) (kf : ¬ v ≤ u → AX x ce sl (pc + 3) lv st n h) : AX x ce sl pc lv (.int v :: .int u :: st) n h := by
  obtain ⟨p, l, e, R, s, m, args, below, meth, c, b, D, cs, Q⟩ := x
  intro H ls locs i1 i2 i3 i4 i5 i6
  exact lv_icmp_ge C.1 C.2.1 d ht (fun z => kt z H ls locs i1 i2 i3 i4 i5 i6) (fun z => kf z H ls locs i1 i2 i3 i4 i5 i6)
theorem am_if_ge (pc tgt : Nat) {off : Int} {u : Int32} (C : AC x own cc nL) (d : decode cc pc = .ok (.ifCond .ge off, 3)) (ht : (pc : Int) + off = (tgt : Int)) (kt : 0 ≤ u → AX x ce sl tgt lv st n h) (kf : ¬ 0 ≤ u → AX x ce sl (pc + 3) lv st n h) : AX x ce sl pc lv (.int u :: st) n h := by
  obtain ⟨p, l, e, R, s, m, args, below, meth, c, b, D, cs, Q⟩ := x
  intro H ls locs i1 i2 i3 i4 i5 i6
  exact lv_if_ge C.1 C.2.1 d ht (fun z => kt z H ls locs i1 i2 i3 i4 i5 i6) (fun z => kf z H ls locs i1 i2 i3 i4 i5 i6)
theorem am_icmp_gt (pc tgt : Nat) {off : Int} {u v : Int32} (C : AC x own cc nL) (d : decode cc pc = .ok (.if_icmp .gt off, 3)) (ht : (pc : Int) + off = (tgt : Int)) (kt : v < u → AX x ce sl tgt lv st n h) (kf : ¬ v < u → AX x ce sl (pc + 3) lv st n h) : AX x ce sl pc lv (.int v :: .int u :: st) n h := by
  obtain ⟨p, l, e, R, s, m, args, below, meth, c, b, D, cs, Q⟩ := x
  intro H ls locs i1 i2 i3 i4 i5 i6
  exact lv_icmp_gt C.1 C.2.1 d ht (fun z => kt z H ls locs i1 i2 i3 i4 i5 i6) (fun z => kf z H ls locs i1 i2 i3 i4 i5 i6)
theorem am_if_gt (pc tgt : Nat) {off : Int} {u : Int32} (C : AC x own cc nL) (d : decode cc pc = .ok (.ifCond .gt off, 3)) (ht : (pc : Int) + off = (tgt : Int)) (kt : 0 < u → AX x ce sl tgt lv st n h) (kf : ¬ 0 < u → AX x ce sl (pc + 3) lv st n h) : AX x ce sl pc lv (.int u :: st) n h := by
  obtain ⟨p, l, e, R, s, m, args, below, meth, c, b, D, cs, Q⟩ := x
  intro H ls locs i1 i2 i3 i4 i5 i6
  exact lv_if_gt C.1 C.2.1 d ht (fun z => kt z H ls locs i1 i2 i3 i4 i5 i6) (fun z => kf z H ls locs i1 i2 i3 i4 i5 i6)
theorem am_icmp_le (pc tgt : Nat) {off : Int} {u v : Int32} (C : AC x own cc nL) (d : decode cc pc = .ok (.if_icmp .le off, 3)) (ht : (pc : Int) + off = (tgt : Int)) (kt : u ≤ v → AX x ce sl tgt lv st n h) (kf : ¬ u ≤ v → AX x ce sl (pc + 3) lv st n h) : AX x ce sl pc lv (.int v :: .int u :: st) n h := by
  obtain ⟨p, l, e, R, s, m, args, below, meth, c, b, D, cs, Q⟩ := x
  intro H ls locs i1 i2 i3 i4 i5 i6
  exact lv_icmp_le C.1 C.2.1 d ht (fun z => kt z H ls locs i1 i2 i3 i4 i5 i6) (fun z => kf z H ls locs i1 i2 i3 i4 i5 i6)
theorem am_if_le (pc tgt : Nat) {off : Int} {u : Int32} (C : AC x own cc nL) (d : decode cc pc = .ok (.ifCond .le off, 3)) (ht : (pc : Int) + off = (tgt : Int)) (kt : u ≤ 0 → AX x ce sl tgt lv st n h) (kf : ¬ u ≤ 0 → AX x ce sl (pc + 3) lv st n h) : AX x ce sl pc lv (.int u :: st) n h := by
  obtain ⟨p, l, e, R, s, m, args, below, meth, c, b, D, cs, Q⟩ := x
  intro H ls locs i1 i2 i3 i4 i5 i6
  exact lv_if_le C.1 C.2.1 d ht (fun z => kt z H ls locs i1 i2 i3 i4 i5 i6) (fun z => kf z H ls locs i1 i2 i3 i4 i5 i6)
theorem am_goto (pc tgt : Nat) {off : Int} (C : AC x own cc nL) (d : decode cc pc = .ok (.goto off, 3)) (ht : (pc : Int) + off = (tgt : Int)) (k : AX x ce sl tgt lv st n h) : AX x ce sl pc lv st n h := by
  obtain ⟨p, l, e, R, s, m, args, below, meth, c, b, D, cs, Q⟩ := x
  intro H ls locs i1 i2 i3 i4 i5 i6
  exact lv_goto C.1 C.2.1 d ht (k H ls locs i1 i2 i3 i4 i5 i6)
theorem am_tabOut (pc tgt : Nat) {dflt lo hi : Int} {offs : Array Int} {len : Nat} {u : Int32} (C : AC x own cc nL) (d : decode cc pc = .ok (.tableswitch dflt lo hi offs, len)) (hu : u.toInt < lo ∨ hi < u.toInt) (ht : (pc : Int) + dflt = (tgt : Int)) (k : AX x ce sl tgt lv st n h) : AX x ce sl pc lv (.int u :: st) n h := by
  obtain ⟨p, l, e, R, s, m, args, below, meth, c, b, D, cs, Q⟩ := x
  intro H ls locs i1 i2 i3 i4 i5 i6
  exact lv_tableOut C.1 C.2.1 d hu ht (k H ls locs i1 i2 i3 i4 i5 i6)
theorem am_tabIn (pc tgt : Nat) {dflt lo hi : Int} {offs : Array Int} {len : Nat} {u : Int32} {off : Int} (C : AC x own cc nL) (d : decode cc pc = .ok (.tableswitch dflt lo hi offs, len)) (h1 : ¬ u.toInt < lo) (h2 : ¬ hi < u.toInt) (ho : offs[(u.toInt - lo).toNat]? = some off) (ht : (pc : Int) + off = (tgt : Int)) (k : AX x ce sl tgt lv st n h) : AX x ce sl pc lv (.int u :: st) n h := by
  obtain ⟨p, l, e, R, s, m, args, below, meth, c, b, D, cs, Q⟩ := x
  intro H ls locs i1 i2 i3 i4 i5 i6
  exact lv_tableIn C.1 C.2.1 d h1 h2 ho ht (k H ls locs i1 i2 i3 i4 i5 i6)
theorem am_lookup (pc tgt : Nat) {dflt : Int} {ps : Array (Int × Int)} {len : Nat} {u : Int32} {off : Int} (C : AC x own cc nL) (d : decode cc pc = .ok (.lookupswitch dflt ps, len)) (hp : (ps.toList.zip (ps.toList.drop 1)).all (fun (a, next) => a.1 < next.1) = true) (ho : Op.lookupswitch.offset ps.toList dflt u.toInt = off) (ht : (pc : Int) + off = (tgt : Int)) (k : AX x ce sl tgt lv st n h) : AX x ce sl pc lv (.int u :: st) n h := by
  obtain ⟨p, l, e, R, s, m, args, below, meth, c, b, D, cs, Q⟩ := x
  intro H ls locs i1 i2 i3 i4 i5 i6
  exact lv_lookup C.1 C.2.1 d hp ho ht (k H ls locs i1 i2 i3 i4 i5 i6)
end AMR
