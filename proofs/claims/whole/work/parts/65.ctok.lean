/-! the class reads tokens -/
section CT
variable {c : Nat → Int32} {T n : Nat}
theorem c_kindHere {s : am_S} {i : Nat} (h : tokAt c T n s) (hn : n ≤ 400) (h4 : s.1 2 4 = nI i) (hi : i ≤ n) : f_X7_kindHere s = some (nI (kd c T i)) := by
  unfold f_X7_kindHere
  rw [am_ltd, h4, gd_nI (by omega) (by decide), cL (by omega), (h.2 i hi).1]
theorem c_valueHere {s : am_S} {i : Nat} (h : tokAt c T n s) (hn : n ≤ 400) (h4 : s.1 2 4 = nI i) (hi : i ≤ n) : f_X7_valueHere s = some (VL c T (tp c T i)) := by
  unfold f_X7_valueHere
  rw [am_ltd, h4, gd_nI (by omega) (by decide), cL (by omega), (h.2 i hi).2.1]
theorem kdI {i k : Nat} (hk : k < 100) : nI (kd c T i) = nI k ↔ kd c T i = k := nI_eq (by have : kd c T i ≤ 5 := KD_le (c := c) (T := T) (tp c T i); omega) (by omega)
theorem c_wordHere {s : am_S} {i : Nat} (h : tokAt c T n s) (hn : n ≤ 400) (h4 : s.1 2 4 = nI i) (hi : i ≤ n) : f_X7_wordHere s = some (wnI (wo c T i)) := by
  unfold f_X7_wordHere
  rw [am_ltd, h4, gd_nI (by omega) (by decide), cL (by omega), (h.2 i hi).1, am_ltd, gd_nI (by omega) (by decide), cL (by omega), (h.2 i hi).2.1]
  unfold wo wd
  rw [show (1 : Int32) = nI 1 from rfl]
  by_cases k : kd c T i = 1
  · rw [am_ift ((kdI (by decide)).mpr k), if_pos k, VL_1 k]
  · rw [am_iff (fun z => k ((kdI (k := 1) (by decide)).mp z)), if_neg k]
    rfl
theorem c_isByte {s : am_S} {i b : Nat} (h : tokAt c T n s) (hn : n ≤ 400) (h4 : s.1 2 4 = nI i) (hi : i ≤ n) (hb : plB b) : f_X7_isByte (nI b) s = some (b01 (bt c T i b)) := by
  unfold f_X7_isByte
  rw [am_ltd, h4, gd_nI (by omega) (by decide), cL (by omega), (h.2 i hi).1, am_ltd, gd_nI (by omega) (by decide), cL (by omega), (h.2 i hi).2.1]
  have e := atB_KD (c := c) (T := T) (p := tp c T i) hb
  by_cases k : kd c T i = 5
  · rw [am_ift ((kdI (by decide)).mpr k)]
    by_cases v : VL c T (tp c T i) = nI b
    · rw [am_ift v, b01_t (e.mp ⟨k, v⟩)]
    · rw [am_iff v, b01_f (fun z => v (e.mpr z).2)]
  · rw [am_iff (fun z => k ((kdI (by decide)).mp z)), b01_f (fun z => k (e.mpr z).1)]
theorem tk_step {s : am_S} {i : Nat} (h : tokAt c T n s) (hn : n ≤ 400) (h4 : s.1 2 4 = nI i) (hi : i < n) : f_X7_step s = some (as_i s 2 4 (nI (i + 1))) := by
  unfold f_X7_step
  rw [h.1, nI_pr, h4, am_iff (nI_ge hi (by omega)), am_ltd, nI_1]
theorem tk_stepF {s : am_S} {i : Nat} (h : tokAt c T n s) (hn : n ≤ 400) (h4 : s.1 2 4 = nI i) (hi : i ≤ n) : ∃ j, j ≤ n ∧ f_X7_step s = some (as_i s 2 4 (nI j)) := by
  rcases Nat.lt_or_ge i n with z | z
  · exact ⟨i + 1, z, tk_step h hn h4 z⟩
  · refine ⟨i, hi, ?_⟩
    unfold f_X7_step
    rw [h.1, nI_pr, h4, am_ift (nI_le z (by omega)), as_i_self h4]
theorem c_fine {s : am_S} : f_X7_fine s = some (b01 (s.1 2 5 = 0)) := by
  unfold f_X7_fine
  by_cases h : s.1 2 5 = 0
  · rw [am_ift h, b01_t h]
  · rw [am_iff h, b01_f h]
theorem c_fail {s : am_S} {i k : Nat} (h : tokAt c T n s) (hn : n ≤ 400) (h4 : s.1 2 4 = nI i) (hi : i ≤ n) (h5 : s.1 2 5 = 0) : f_X7_fail (nI k) s = some (as_i s 2 5 (nI (fau c T i k))) := by
  unfold f_X7_fail
  rw [am_ift h5, am_ltd, h4, gd_nI (by omega) (by decide), cL (by omega), (h.2 i hi).2.2, am_ltd, flt]
  rfl
theorem c_failF {s : am_S} {k : Int32} (h5 : ¬ s.1 2 5 = 0) : f_X7_fail k s = some s := by
  unfold f_X7_fail
  rw [am_iff h5]
theorem erK.ne {e : Nat} (h : erK e) : ¬ nI e = (0 : Int32) := by
  rw [show (0 : Int32) = nI 0 from rfl, nI_eq (by have := h.2; omega) (by decide)]
  have := h.1
  omega
/-- the cells that reading a rule changes, but its clauses -/
def PC (a b j : Nat) : Prop := P2 b j ∨ (b = 247 ∧ j = 2) ∨ (b = a ∧ j = 3) ∨ b = a + 1 ∨ b = a + 2
theorem isR_r : ∀ a ∈ am_isR, 144 ≤ a ∧ a + 7 ≤ 186 := by decide +kernel
def laid (a : Nat) (l : List (Nat × Nat)) (s : am_S) : Prop := s.1 a 3 = nI l.length ∧ ∀ j, j < l.length → s.1 (a + 1) j = nI (l.getD j (0, 0)).1 ∧ s.1 (a + 2) j = nI (l.getD j (0, 0)).2
theorem laid.mv {a : Nat} {l : List (Nat × Nat)} {s s2 : am_S} (h : laid a l s) (h1 : s2.1 a 3 = s.1 a 3) (h2 : s2.1 (a + 1) = s.1 (a + 1)) (h3 : s2.1 (a + 2) = s.1 (a + 2)) : laid a l s2 := ⟨h1.trans h.1, fun j hj => by rw [h2, h3]; exact h.2 j hj⟩
/-- the class reads on -/
def CS (c : Nat → Int32) (T n a : Nat) (s0 : am_S) (st : PS) (s : am_S) : Prop := s.1 2 4 = nI st.1 ∧ s.1 2 5 = 0 ∧ s.1 247 2 = nI st.2.1 ∧ laid a st.2.2 s ∧ frm (PC a) s0 s ∧ tokAt c T n s
/-- it has met a fault -/
def CF (c : Nat → Int32) (T n a : Nat) (s0 : am_S) (e : Nat) (s : am_S) : Prop := s.1 2 5 = nI e ∧ (∃ i, i ≤ n ∧ s.1 2 4 = nI i) ∧ (∃ j, j ≤ 400 ∧ s.1 a 3 = nI j) ∧ frm (PC a) s0 s ∧ tokAt c T n s
def CO (c : Nat → Int32) (T n a : Nat) (s0 : am_S) (o : Except Nat PS) (r : Option am_S) : Prop := match o with
  | .error e => ∃ s, r = some s ∧ CF c T n a s0 e s
  | .ok st => ∃ s, r = some s ∧ CS c T n a s0 st s
variable {a : Nat} {s0 : am_S}
theorem PC_tok (ha : a ∈ am_isR) : ¬ PC a 2 3 ∧ (∀ j, ¬ PC a 3 j) ∧ (∀ j, ¬ PC a 4 j) ∧ ∀ j, ¬ PC a 5 j := by
  have := isR_r a ha
  unfold PC P2
  refine ⟨by omega, fun j => by omega, fun j => by omega, fun j => by omega⟩
theorem CS.stp {st : PS} {s : am_S} (ha : a ∈ am_isR) (h : CS c T n a s0 st s) (v : Nat) : CS c T n a s0 (v, st.2) (as_i s 2 4 (nI v)) := by
  obtain ⟨h1, h2, h3, h4, h5, h6⟩ := h
  have r := isR_r a ha
  refine ⟨as_i3, ?_, ?_, h4.mv ?_ ?_ ?_, h5.ti (Or.inl ⟨rfl, Or.inl rfl⟩), h6.f2 (frm.i s ⟨rfl, Or.inl rfl⟩)⟩
  · rw [as_i2 (by decide)]; exact h2
  · rw [as_i1 (by decide)]; exact h3
  · rw [as_i1 (by omega)]
  · rw [as_i1 (by omega)]
  · rw [as_i1 (by omega)]
theorem CS.mo {st : PS} {s : am_S} (ha : a ∈ am_isR) (h : CS c T n a s0 st s) : CS c T n a s0 (mor st) (as_i s 247 2 (nI (st.2.1 + 1))) := by
  obtain ⟨h1, h2, h3, h4, h5, h6⟩ := h
  have r := isR_r a ha
  obtain ⟨k1, k2, k3, k4⟩ := PC_tok ha
  have f : frm (PC a) s (as_i s 247 2 (nI (st.2.1 + 1))) := frm.i s (Or.inr (Or.inl ⟨rfl, rfl⟩))
  refine ⟨?_, ?_, as_i3, h4.mv ?_ ?_ ?_, h5.tr f, h6.f f k1 k2 k3 k4⟩
  · rw [as_i1 (by decide)]; exact h1
  · rw [as_i1 (by decide)]; exact h2
  · rw [as_i1 (by omega)]
  · rw [as_i1 (by omega)]
  · rw [as_i1 (by omega)]
theorem CS.fl {st : PS} {s : am_S} (ha : a ∈ am_isR) (hn : n ≤ 400) (hi : st.1 ≤ n) (hl : st.2.2.length ≤ 400) (h : CS c T n a s0 st s) (k : Nat) : ∃ s2, f_X7_fail (nI k) s = some s2 ∧ CF c T n a s0 (fau c T st.1 k) s2 := by
  obtain ⟨h1, h2, h3, h4, h5, h6⟩ := h
  have r := isR_r a ha
  refine ⟨_, c_fail h6 hn h1 hi h2, as_i3, ⟨st.1, hi, ?_⟩, ⟨st.2.2.length, hl, ?_⟩, h5.ti (Or.inl ⟨rfl, Or.inr rfl⟩), h6.f2 (frm.i s ⟨rfl, Or.inr rfl⟩)⟩
  · rw [as_i2 (by decide)]; exact h1
  · rw [as_i1 (by omega)]; exact h4.1
theorem getD_snoc_lt {l : List (Nat × Nat)} {e d : Nat × Nat} {j : Nat} (h : j < l.length) : (l ++ [e]).getD j d = l.getD j d := by
  rw [List.getD_eq_getElem?_getD, List.getD_eq_getElem?_getD, List.getElem?_append_left h]
theorem getD_snoc_eq {l : List (Nat × Nat)} {e d : Nat × Nat} : (l ++ [e]).getD l.length d = e := by
  rw [List.getD_eq_getElem?_getD, List.getElem?_append_right (Nat.le_refl _), Nat.sub_self]
  rfl
theorem CS.ad {st : PS} {s : am_S} (ha : a ∈ am_isR) (hl : st.2.2.length < 400) (h : CS c T n a s0 st s) (d v : Nat) : ∃ s2, f_X3_addStep a (nI d) (nI v) s = some s2 ∧ CS c T n a s0 (emi d v st) s2 := by
  obtain ⟨h1, h2, h3, ⟨h4, h4b⟩, h5, h6⟩ := h
  have r := isR_r a ha
  obtain ⟨k1, k2, k3, k4⟩ := PC_tok ha
  generalize hL : st.2.2.length = L at *
  have g1 : frm (PC a) s (as_i (as_i (as_i s (a + 1) L (nI d)) (a + 2) L (nI v)) a 3 (nI (L + 1))) := ((frm.i s (Or.inr (Or.inr (Or.inr (Or.inl rfl))))).ti (Or.inr (Or.inr (Or.inr (Or.inr rfl))))).ti (Or.inr (Or.inr (Or.inl ⟨rfl, rfl⟩)))
  refine ⟨as_i (as_i (as_i s (a + 1) L (nI d)) (a + 2) L (nI v)) a 3 (nI (L + 1)), ?_, ?_, ?_, ?_, ⟨?_, fun j hj => ?_⟩, h5.tr g1, h6.f g1 k1 k2 k3 k4⟩
  · unfold f_X3_addStep
    rw [am_gdt ha, h4, am_iff (nI_ge hl (by decide)), gd_nI hl (by decide), cL (by omega), am_ltd]
    have x1 : (as_i s (a + 1) L (nI d)).1 a 3 = nI L := by rw [as_i1 (by omega)]; exact h4
    rw [x1, gd_nI hl (by decide), cL (by omega), am_ltd]
    have x2 : (as_i (as_i s (a + 1) L (nI d)) (a + 2) L (nI v)).1 a 3 = nI L := by rw [as_i1 (by omega)]; exact x1
    rw [x2, am_ltd, nI_1]
  · rw [as_i1 (by omega), as_i1 (by omega), as_i1 (by omega)]; exact h1
  · rw [as_i1 (by omega), as_i1 (by omega), as_i1 (by omega)]; exact h2
  · rw [as_i1 (by omega), as_i1 (by omega), as_i1 (by omega)]; exact h3
  · rw [as_i3]
    show nI (L + 1) = nI (st.2.2 ++ [(d, v)]).length
    rw [List.length_append, hL]
    rfl
  · have hj2 : j < L + 1 := by
      have : j < (st.2.2 ++ [(d, v)]).length := hj
      rw [List.length_append, hL] at this
      exact this
    show _ = nI ((st.2.2 ++ [(d, v)]).getD j (0, 0)).1 ∧ _ = nI ((st.2.2 ++ [(d, v)]).getD j (0, 0)).2
    rw [as_i1 (by omega), as_i1 (by omega), as_i1 (show a + 2 ≠ a by omega)]
    by_cases e : j = L
    · subst e
      have : (st.2.2 ++ [(d, v)]).getD j (0, 0) = (d, v) := by
        have := getD_snoc_eq (l := st.2.2) (e := (d, v)) (d := (0, 0))
        rwa [hL] at this
      rw [this, as_i3, as_i3]
      exact ⟨rfl, rfl⟩
    · rw [getD_snoc_lt (by omega), as_i2 e, as_i2 e, as_i1 (by omega)]
      exact h4b j (by omega)
theorem CF.ad {e : Nat} {s : am_S} (ha : a ∈ am_isR) (h : CF c T n a s0 e s) (d v : Int32) : ∃ s2, f_X3_addStep a d v s = some s2 ∧ CF c T n a s0 e s2 := by
  obtain ⟨h1, ⟨i, hi, h2⟩, ⟨L, hL, h4⟩, h5, h6⟩ := h
  have r := isR_r a ha
  obtain ⟨k1, k2, k3, k4⟩ := PC_tok ha
  rcases Nat.lt_or_ge L 400 with hl | hl
  · have g1 : frm (PC a) s (as_i (as_i (as_i s (a + 1) L d) (a + 2) L v) a 3 (nI (L + 1))) := ((frm.i s (Or.inr (Or.inr (Or.inr (Or.inl rfl))))).ti (Or.inr (Or.inr (Or.inr (Or.inr rfl))))).ti (Or.inr (Or.inr (Or.inl ⟨rfl, rfl⟩)))
    refine ⟨as_i (as_i (as_i s (a + 1) L d) (a + 2) L v) a 3 (nI (L + 1)), ?_, ?_, ⟨i, hi, ?_⟩, ⟨L + 1, hl, as_i3⟩, h5.tr g1, h6.f g1 k1 k2 k3 k4⟩
    · unfold f_X3_addStep
      rw [am_gdt ha, h4, am_iff (nI_ge hl (by decide)), gd_nI hl (by decide), cL (by omega), am_ltd]
      have x1 : (as_i s (a + 1) L d).1 a 3 = nI L := by rw [as_i1 (by omega)]; exact h4
      rw [x1, gd_nI hl (by decide), cL (by omega), am_ltd]
      have x2 : (as_i (as_i s (a + 1) L d) (a + 2) L v).1 a 3 = nI L := by rw [as_i1 (by omega)]; exact x1
      rw [x2, am_ltd, nI_1]
    · rw [as_i1 (by omega), as_i1 (by omega), as_i1 (by omega)]; exact h1
    · rw [as_i1 (by omega), as_i1 (by omega), as_i1 (by omega)]; exact h2
  · refine ⟨s, ?_, h1, ⟨i, hi, h2⟩, ⟨L, hL, h4⟩, h5, h6⟩
    unfold f_X3_addStep
    rw [am_gdt ha, h4, am_ift (nI_le hl (by omega))]
theorem CS.rf {st : PS} {s : am_S} (h : CS c T n a s0 st s) (hq : s0.2.2.2 = a) : s.2.2.2 = a := by rw [h.2.2.2.2.1.2]; exact hq
theorem CF.rf {e : Nat} {s : am_S} (h : CF c T n a s0 e s) (hq : s0.2.2.2 = a) : s.2.2.2 = a := by rw [h.2.2.2.1.2]; exact hq
theorem CF.ne {e : Nat} {s : am_S} (h : CF c T n a s0 e s) (he : erK e) : ¬ s.1 2 5 = 0 := by rw [h.1]; exact he.ne
end CT
