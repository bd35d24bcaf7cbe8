/-! the reference reads sums -/
theorem lp_b2 {σ : Type} {body : am_S → Option (am_S ⊕ (Int32 × am_S))} {A : Option (Int32 × am_S)} {P : am_S → Option am_S} {z : am_S} (F : Nat) (h : body z = am_b2 A (fun v s9 => am_if (v = 0) (some (Sum.inr ((0 : Int32), s9))) (am_bd (P s9) (fun s10 => some (Sum.inl s10))))) : am_lp body (F + 1) z = am_b2 A (fun v s9 => am_if (v = 0) (some ((0 : Int32), s9)) (am_bd (P s9) (fun s10 => am_lp body F s10))) := by
  cases A with
  | none =>
    have : body z = none := h
    unfold am_lp
    rw [this]
    rfl
  | some y =>
    obtain ⟨v, s9⟩ := y
    rw [am_b2s] at h ⊢
    by_cases v0 : v = 0
    · rw [am_ift v0] at h ⊢
      exact am_lp_inr h
    · rw [am_iff v0] at h ⊢
      cases hp : P s9 with
      | none =>
        rw [hp] at h
        have : body z = none := h
        unfold am_lp
        rw [this]
        rfl
      | some s10 =>
        rw [hp, am_bds] at h
        rw [am_bds]
        exact am_lp_inl h
section MU
variable {c : Nat → Int32} {T n t : Nat} {s0 : am_S}
theorem aop_43 {i : Nat} (h : bt c T i 43) : aop c T i = 5 := by rw [aop_eq h.1, h.2]; decide
theorem aop_45 {i : Nat} (h : bt c T i 45) : aop c T i = 6 := by rw [aop_eq h.1, h.2]; decide
theorem aop_42 {i : Nat} (h : bt c T i 42) : aop c T i = 7 := by rw [aop_eq h.1, h.2]; decide
theorem aop_47 {i : Nat} (h : bt c T i 47) : aop c T i = 8 := by rw [aop_eq h.1, h.2]; decide
theorem aop_37 {i : Nat} (h : bt c T i 37) : aop c T i = 9 := by rw [aop_eq h.1, h.2]; decide
theorem en_b (hT : T ≤ 400) {i b : Nat} (h : bt c T i b) (hb : plB b) : en c T (tp c T i) = tp c T i + 1 := by
  have k := KD_5.mp (atB_KD hb |>.mpr h).1
  rw [en_oth hT h.1 k.2.1 k.2.2.1, if_neg]
  rintro ⟨_, _, z⟩
  have := k.2.2.2
  simp only [isSg, decide_eq_false_iff_not] at this
  rcases z with z | z
  · exact this (Or.inl z)
  · exact this (Or.inr (Or.inr z))
theorem MS.nb {st : PS} {x : am_S} (E : EM c T n t) (h : MS c T t s0 st x) {b : Nat} (hb : bt c T st.1 b) (pb : plB b) : MS c T t s0 (nxt st) (as_i x 248 8 (nI (tp c T st.1 + 1))) := by
  have e := en_b E.1 hb pb
  refine h.pl (st.1 + 1) _ (by have := hb.1; omega) ?_
  rw [← e]
  exact tp_nx hb.1
theorem MS.se {st : PS} {x : am_S} (E : EM c T n t) (h : MS c T t s0 st x) (h8 : x.1 248 8 = nI (tp c T st.1)) : f_X12_see x = some (seeV c T (tp c T st.1), x) := by
  have := (h.see E).1
  rw [as_i_self h8] at this
  exact this
theorem m_terB {st : PS} {s : am_S} (E : EM c T n t) (h : MS c T t s0 st s) : (7 ≤ aop c T st.1 ∧ ∃ y, MS c T t s0 (nxt st) y ∧ b_X12_term_9 s = am_b2 (f_X12_value y) (fun v8 s9 => am_if (v8 = 0) (some (Sum.inr ((0 : Int32), s9))) (am_bd (f_X12_puts (nI (opM (aop c T st.1) 0)) (0 : Int32) s9) (fun s10 => some (Sum.inl s10))))) ∨ (aop c T st.1 < 7 ∧ ∃ x, MS c T t s0 st x ∧ b_X12_term_9 s = some (Sum.inr ((1 : Int32), x))) := by
  obtain ⟨hT, hnT, hn1, ht, hb⟩ := id E
  obtain ⟨v1, v2⟩ := h.see E
  generalize hx : as_i s 248 8 (nI (tp c T st.1)) = x at *
  have x8 : x.1 248 8 = nI (tp c T st.1) := by rw [← hx, as_i3]
  have sx := v2.se E x8
  obtain ⟨b1, b2, b3, b4, b5, _⟩ := plBs
  have go : ∀ b o, bt c T st.1 b → plB b → aop c T st.1 = o → (b = 42 ∧ o = 7) ∨ (b = 47 ∧ o = 8) ∨ (b = 37 ∧ o = 9) → j_X12_term_36 x = am_b2 (f_X12_value (as_i x 248 8 (nI (tp c T st.1 + 1)))) (fun v8 s9 => am_if (v8 = 0) (some (Sum.inr ((0 : Int32), s9))) (am_bd (f_X12_puts (nI (opM (aop c T st.1) 0)) (0 : Int32) s9) (fun s10 => some (Sum.inl s10)))) := fun b o hbt pb ho hbo => by
    unfold j_X12_term_36
    have hp := hbt.1
    rw [x8, am_ltd, gd_nI (by omega) (by decide), cL (by omega), v2.2.2.2.2.2.1.2 _ hp, hbt.2, ho]
    rcases hbo with ⟨rfl, rfl⟩ | ⟨rfl, rfl⟩ | ⟨rfl, rfl⟩
    · rw [am_ift rfl]
      unfold j_X12_term_74
      rw [am_ltd, x8, nI_1]
      rfl
    · rw [am_iff (by decide), am_ltd, gd_nI (by omega) (by decide), cL (by omega), v2.2.2.2.2.2.1.2 _ hp, hbt.2, am_ift rfl]
      unfold j_X12_term_74
      rw [am_ltd, x8, nI_1]
      rfl
    · rw [am_iff (by decide), am_ltd, gd_nI (by omega) (by decide), cL (by omega), v2.2.2.2.2.2.1.2 _ hp, hbt.2, am_iff (by decide)]
      unfold j_X12_term_74
      rw [am_ltd, x8, nI_1]
      rfl
  unfold b_X12_term_9
  rw [v1, am_b2s]
  by_cases c42 : bt c T st.1 42
  · left
    refine ⟨by rw [aop_42 c42]; decide, _, v2.nb E c42 b3, ?_⟩
    rw [am_ift ((seeV_b hb (by decide)).mpr c42)]
    exact go 42 7 c42 b3 (aop_42 c42) (by decide)
  · rw [am_iff (fun z => c42 ((seeV_b hb (by decide)).mp z)), sx, am_b2s]
    by_cases c47 : bt c T st.1 47
    · left
      refine ⟨by rw [aop_47 c47]; decide, _, v2.nb E c47 b4, ?_⟩
      rw [am_ift ((seeV_b hb (by decide)).mpr c47)]
      exact go 47 8 c47 b4 (aop_47 c47) (by decide)
    · rw [am_iff (fun z => c47 ((seeV_b hb (by decide)).mp z)), sx, am_b2s]
      by_cases c37 : bt c T st.1 37
      · left
        refine ⟨by rw [aop_37 c37]; decide, _, v2.nb E c37 b5, ?_⟩
        rw [am_ift ((seeV_b hb (by decide)).mpr c37)]
        exact go 37 9 c37 b5 (aop_37 c37) (by decide)
      · right
        refine ⟨?_, x, v2, am_iff (fun z => c37 ((seeV_b hb (by decide)).mp z))⟩
        unfold aop
        rw [if_neg c42, if_neg c47, if_neg c37]
        split
        · decide
        · split <;> decide
theorem m_sumB {st : PS} {s : am_S} (E : EM c T n t) (h : MS c T t s0 st s) (h7 : aop c T st.1 < 7) : (aop c T st.1 ≠ 0 ∧ ∃ y, MS c T t s0 (nxt st) y ∧ b_X12_sum_9 s = am_b2 (f_X12_term y) (fun v8 s9 => am_if (v8 = 0) (some (Sum.inr ((0 : Int32), s9))) (am_bd (f_X12_puts (nI (opM (aop c T st.1) 0)) (0 : Int32) s9) (fun s10 => some (Sum.inl s10))))) ∨ (aop c T st.1 = 0 ∧ ∃ x, MS c T t s0 st x ∧ b_X12_sum_9 s = some (Sum.inr ((1 : Int32), x))) := by
  obtain ⟨hT, hnT, hn1, ht, hb⟩ := id E
  obtain ⟨v1, v2⟩ := h.see E
  generalize hx : as_i s 248 8 (nI (tp c T st.1)) = x at *
  have x8 : x.1 248 8 = nI (tp c T st.1) := by rw [← hx, as_i3]
  have sx := v2.se E x8
  obtain ⟨b1, b2, b3, b4, b5, _⟩ := plBs
  have go : ∀ b o, bt c T st.1 b → plB b → aop c T st.1 = o → (b = 43 ∧ o = 5) ∨ (b = 45 ∧ o = 6) → j_X12_sum_27 x = am_b2 (f_X12_term (as_i x 248 8 (nI (tp c T st.1 + 1)))) (fun v8 s9 => am_if (v8 = 0) (some (Sum.inr ((0 : Int32), s9))) (am_bd (f_X12_puts (nI (opM (aop c T st.1) 0)) (0 : Int32) s9) (fun s10 => some (Sum.inl s10)))) := fun b o hbt pb ho hbo => by
    unfold j_X12_sum_27 j_X12_sum_46
    have hp := hbt.1
    rw [x8, am_ltd, gd_nI (by omega) (by decide), cL (by omega), v2.2.2.2.2.2.1.2 _ hp, hbt.2, ho, am_ltd, am_ltd, nI_1]
    rcases hbo with ⟨rfl, rfl⟩ | ⟨rfl, rfl⟩
    · rw [am_ift rfl]; rfl
    · rw [am_iff (by decide)]; rfl
  unfold b_X12_sum_9
  rw [v1, am_b2s]
  by_cases c43 : bt c T st.1 43
  · left
    refine ⟨by rw [aop_43 c43]; decide, _, v2.nb E c43 b1, ?_⟩
    rw [am_ift ((seeV_b hb (by decide)).mpr c43)]
    exact go 43 5 c43 b1 (aop_43 c43) (by decide)
  · rw [am_iff (fun z => c43 ((seeV_b hb (by decide)).mp z)), sx, am_b2s]
    by_cases c45 : bt c T st.1 45
    · left
      refine ⟨by rw [aop_45 c45]; decide, _, v2.nb E c45 b2, ?_⟩
      rw [am_ift ((seeV_b hb (by decide)).mpr c45)]
      exact go 45 6 c45 b2 (aop_45 c45) (by decide)
    · right
      refine ⟨?_, x, v2, am_iff (fun z => c45 ((seeV_b hb (by decide)).mp z))⟩
      unfold aop at h7 ⊢
      rw [if_neg c43, if_neg c45] at h7 ⊢
      split at h7
      · omega
      · rename_i z
        rw [if_neg z]
        split at h7
        · omega
        · rename_i y
          rw [if_neg y]
          split at h7
          · omega
          · rename_i u
            rw [if_neg u]
def mK (w F Ft : Nat) (s : am_S) : Option (Int32 × am_S) := am_b2 (am_lp (fun (q : am_S) => b_X12_term_9 q) Ft s) (fun v s9 => am_if (v = 0) (some ((0 : Int32), s9)) (if w = 0 then am_lp (fun (q : am_S) => b_X12_sum_9 q) F s9 else am_bd (f_X12_puts (nI (opM w 0)) (0 : Int32) s9) (fun s10 => am_lp (fun (q : am_S) => b_X12_sum_9 q) F s10)))
theorem mK_in {w F Ft : Nat} {s s2 : am_S} (h : b_X12_term_9 s = some (Sum.inl s2)) : mK w F (Ft + 1) s = mK w F Ft s2 := by
  unfold mK
  rw [am_lp_inl (body := fun (q : am_S) => b_X12_term_9 q) h]
theorem mK_out {w F Ft : Nat} {s : am_S} {v : Int32} {x : am_S} (h : b_X12_term_9 s = some (Sum.inr (v, x))) : mK w F (Ft + 1) s = am_if (v = 0) (some ((0 : Int32), x)) (if w = 0 then am_lp (fun (q : am_S) => b_X12_sum_9 q) F x else am_bd (f_X12_puts (nI (opM w 0)) (0 : Int32) x) (fun s10 => am_lp (fun (q : am_S) => b_X12_sum_9 q) F s10)) := by
  unfold mK
  rw [am_lp_inr (body := fun (q : am_S) => b_X12_term_9 q) h, am_b2s]
theorem m_sumL (E : EM c T n t) : ∀ (f F Ft w : Nat) (st : PS) (s : am_S), (w = 0 ∨ (5 ≤ w ∧ w ≤ 9)) → f ≤ 401 → n < st.1 + f → f ≤ F → f ≤ Ft → rdy n st → st.2.2.length + (if w = 0 then 0 else 1) ≤ st.1 → MS c T t s0 st s → MO c T t s0 (aSumL c T f w st) (mK w F Ft s) := by
  obtain ⟨hT, hnT, hn1, ht, hb⟩ := id E
  have e4 : am_F = 4000 := rfl
  intro f
  induction f with
  | zero => intro F Ft w st s _ _ hf _ _ hr; have := hr.1; omega
  | succ f ih =>
    intro F Ft w st s hw h401 hf hF hFt hr hl h
    have hi := hr.1
    obtain ⟨F, rfl⟩ : ∃ F', F = F' + 1 := ⟨F - 1, by omega⟩
    obtain ⟨Ft, rfl⟩ : ∃ F', Ft = F' + 1 := ⟨Ft - 1, by omega⟩
    have r := aop_r (c := c) (T := T) st.1
    rw [aSumL]
    rcases m_terB E h with ⟨o7, y, y1, y2⟩ | ⟨o7, x, x1, x2⟩
    · rw [if_neg (by omega), if_neg (by omega)]
      have lt := aop_lt hn1 hi (by omega)
      have rd3 : rdy n (nxt st) := ⟨lt, hr.2.1, by show st.2.2.length ≤ st.1 + 1; have := hr.2.2; omega⟩
      have V := m_value E rd3 y1
      have vg := aVal_g hT hn1 (st := nxt st) rd3.1 rd3.2.1
      cases hv : aVal c T (nxt st) with
      | error e =>
        rw [hv] at V
        obtain ⟨s2, q1, q2⟩ := V
        rw [q1, am_b2s, am_ift rfl] at y2
        rw [rb_e, mK_out y2, am_ift rfl]
        exact ⟨s2, rfl, q2⟩
      | ok st2 =>
        rw [hv] at V vg
        obtain ⟨s2, q1, q2⟩ := V
        have vg2 : gs n [false] 0 (nxt st) st2 := vg
        have u2 : st.1 + 1 + 1 ≤ st2.1 := vg2.l0
        obtain ⟨_, _, _, l, g4, g5, _, _⟩ := id vg2
        have e1 : st2.2.2.length = st.2.2.length + l.length := by
          have : st2.2.2 = st.2.2 ++ l := g4
          rw [this, List.length_append]
        have e2 : l.length + (st.1 + 1) ≤ st2.1 := by simpa [nxt] using g5
        have i2 := vg2.ix
        have hl' := hr.2.2
        obtain ⟨s3, q3, q4, _⟩ := q2.pt E (by omega : st2.2.2.length < 400) (aop c T st.1) 0 (x := opM (aop c T st.1) 0) (y := 0) rfl
        have q3' : f_X12_puts (nI (opM (aop c T st.1) 0)) (0 : Int32) s2 = some s3 := q3
        rw [q1, am_b2s, am_iff (by decide), q3', am_bds] at y2
        rw [rb_o, mK_in y2]
        have len : (emi (aop c T st.1) 0 st2).2.2.length = st2.2.2.length + 1 := by
          show (st2.2.2 ++ [(aop c T st.1, 0)]).length = _
          rw [List.length_append]
          rfl
        refine ih (F + 1) Ft w (emi (aop c T st.1) 0 st2) s3 hw (by omega) (show n < st2.1 + f by omega) (by omega) (by omega) ⟨i2, vg2.kx, ?_⟩ ?_ q4
        · rw [len]
          show _ ≤ st2.1
          split at hl <;> omega
        · rw [len]
          show _ ≤ st2.1
          omega
    · rw [mK_out x2, am_iff (by decide)]
      -- what waits is laid
      obtain ⟨z, z1, z2⟩ : ∃ z, MS c T t s0 (emw w st) z ∧ (if w = 0 then am_lp (fun (q : am_S) => b_X12_sum_9 q) (F + 1) x else am_bd (f_X12_puts (nI (opM w 0)) (0 : Int32) x) (fun s10 => am_lp (fun (q : am_S) => b_X12_sum_9 q) (F + 1) s10)) = am_lp (fun (q : am_S) => b_X12_sum_9 q) (F + 1) z := by
        by_cases w0 : w = 0
        · refine ⟨x, ?_, if_pos w0⟩
          unfold emw; rw [if_pos w0]; exact x1
        · rw [if_neg w0] at hl
          obtain ⟨s3, q3, q4, _⟩ := x1.pt E (by omega : st.2.2.length < 400) w 0 (x := opM w 0) (y := 0) rfl
          have q3' : f_X12_puts (nI (opM w 0)) (0 : Int32) x = some s3 := q3
          refine ⟨s3, ?_, ?_⟩
          · unfold emw; rw [if_neg w0]; exact q4
          · rw [if_neg w0, q3', am_bds]
      rw [z2]
      have ei := emw_ix w st
      have z7 : aop c T (emw w st).1 < 7 := by rw [ei.1]; exact o7
      rcases m_sumB E z1 z7 with ⟨o0, y, y1, y2⟩ | ⟨o0, u, u1, u2⟩
      · rw [ei.1] at o0 y2
        rw [if_neg o0, if_pos o7]
        have lt := aop_lt hn1 hi o0
        have el : (emw w st).2.2.length ≤ st.1 := by
          unfold emw
          split
          · rename_i q; rw [if_pos q] at hl; omega
          · rename_i q; rw [if_neg q] at hl
            show (st.2.2 ++ [(w, 0)]).length ≤ st.1
            rw [List.length_append]
            exact hl
        have rd3 : rdy n (nxt (emw w st)) := ⟨by show (emw w st).1 + 1 ≤ n; omega, by show (emw w st).2.1 ≤ 60; rw [ei.2]; exact hr.2.1, by show (emw w st).2.2.length ≤ (emw w st).1 + 1; omega⟩
        have V := m_value E rd3 y1
        have vg := aVal_g hT hn1 (st := nxt (emw w st)) rd3.1 rd3.2.1
        cases hv : aVal c T (nxt (emw w st)) with
        | error e =>
          rw [hv] at V
          obtain ⟨s2, q1, q2⟩ := V
          have ter : f_X12_term y = some ((0 : Int32), s2) := by
            unfold f_X12_term
            rw [q1, am_b2s, am_ift rfl]
          rw [ter, am_b2s, am_ift rfl] at y2
          rw [rb_e, am_lp_inr (body := fun (q : am_S) => b_X12_sum_9 q) y2]
          exact ⟨s2, rfl, q2⟩
        | ok st2 =>
          rw [hv] at V vg
          obtain ⟨s2, q1, q2⟩ := V
          have vg2 : gs n [false] 0 (nxt (emw w st)) st2 := vg
          have u2 : (emw w st).1 + 1 + 1 ≤ st2.1 := vg2.l0
          have ter : f_X12_term y = am_lp (fun (q : am_S) => b_X12_term_9 q) am_F s2 := by
            unfold f_X12_term
            rw [q1, am_b2s, am_iff (by decide)]
          rw [ter] at y2
          rw [rb_o, lp_b2 (σ := am_S) (body := fun (q : am_S) => b_X12_sum_9 q) (P := fun s9 => f_X12_puts (nI (opM (aop c T st.1) 0)) (0 : Int32) s9) F y2]
          have key := ih F am_F (aop c T st.1) st2 s2 (Or.inr (by omega)) (by omega) (by omega) (by omega) (by omega) (vg2.rd rd3) (by
            rw [if_neg o0]
            obtain ⟨_, _, _, l, g4, g5, _, _⟩ := vg2
            have e1 : st2.2.2.length = (emw w st).2.2.length + l.length := by
              have : st2.2.2 = (emw w st).2.2 ++ l := g4
              rw [this, List.length_append]
            have e2 : l.length + ((emw w st).1 + 1) ≤ st2.1 := by simpa [nxt] using g5
            omega) q2
          unfold mK at key
          simp only [if_neg o0] at key
          exact key
      · rw [ei.1] at o0
        rw [if_pos o0, am_lp_inr (body := fun (q : am_S) => b_X12_sum_9 q) u2]
        exact ⟨u, rfl, u1⟩
theorem m_sum {st : PS} {s : am_S} (E : EM c T n t) (hr : rdy n st) (h : MS c T t s0 st s) : MO c T t s0 (aSum c T st) (f_X12_sum s) := by
  obtain ⟨hT, hnT, hn1, ht, hb⟩ := id E
  have e4 : am_F = 4000 := rfl
  have V := m_value E hr h
  have vg := aVal_g hT hn1 (st := st) hr.1 hr.2.1
  unfold aSum f_X12_sum f_X12_term
  cases hv : aVal c T st with
  | error e =>
    rw [hv] at V
    obtain ⟨s2, q1, q2⟩ := V
    rw [rb_e, q1, am_b2s, am_ift rfl, am_b2s, am_ift rfl]
    exact ⟨s2, rfl, q2⟩
  | ok st2 =>
    rw [hv] at V vg
    obtain ⟨s2, q1, q2⟩ := V
    have vg2 : gs n [false] 0 st st2 := vg
    rw [rb_o, q1, am_b2s, am_iff (by decide)]
    have key := m_sumL E 401 am_F am_F 0 st2 s2 (Or.inl rfl) (by omega) (by omega) (by omega) (by omega) (vg2.rd hr) (vg2.ln hr.2.2) q2
    unfold mK at key
    exact key
end MU
