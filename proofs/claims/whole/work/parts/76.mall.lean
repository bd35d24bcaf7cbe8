/-! the reference reads a clause, and all of them -/
section MJ
variable {c : Nat → Int32} {T n t : Nat} {s0 : am_S}
theorem top_len (hT : T ≤ 400) (hnT : n ≤ T) (hn1 : tp c T n = T) {st st2 : PS} (hr : rdy n st) (h : aTop c T st = .ok st2) : st.2.2.length < st2.2.2.length := by
  have g := aTop_g hT hnT hn1 (st := st) hr.1 hr.2.1
  rw [h] at g
  have g2 : gs n [true] 0 st st2 := g
  obtain ⟨l, l1, _, l3, _⟩ := g2.ls
  rw [l1, List.length_append]
  omega
/-- the clause's numbers are laid -/
theorem m_row {W R : Nat → Int32} {s2 s : am_S} {m K b1 b2 b3 : Nat} {v : Int32} {cl : List CLA} (hm : cl.length = m) (hW : ∀ j, j < m → mRow t j (cl.getD j c0) s) (hR : s2.1 252 = upd (upd R (60 * t + 5 * m + 3) v) (60 * t + 5 * m + 4) (nI b3)) (hR2 : R (60 * t + 5 * m + 2) = nI b2) (hR3 : ∀ j, j ≠ 60 * t + 5 * m + 2 → j ≠ 60 * t + 5 * m + 3 → R j = W j) (hW2 : W = upd (upd (s.1 252) (60 * t + 5 * m) (nI K)) (60 * t + 5 * m + 1) (nI b1)) (hv : v = if b2 < b3 then nI b2 else -1) : ∀ j, j < (cl ++ [(K, b1, b2, b3)]).length → mRow t j ((cl ++ [(K, b1, b2, b3)]).getD j c0) s2 := by
  intro j hj
  rw [List.length_append] at hj
  have hj2 : j < cl.length + 1 := hj
  rw [getD_sC hj2]
  unfold mRow
  rw [hR]
  by_cases z : j = cl.length
  · have zm : j = m := by omega
    subst zm
    rw [if_pos z]
    refine ⟨?_, ?_, ?_, ?_, upd_s⟩
    · rw [upd_n (by omega), upd_n (by omega), hR3 _ (by omega) (by omega), hW2, upd_n (by omega), upd_s]
    · rw [upd_n (by omega), upd_n (by omega), hR3 _ (by omega) (by omega), hW2, upd_s]
    · rw [upd_n (by omega), upd_n (by omega), hR2]
    · rw [upd_n (by omega), upd_s, hv]
  · rw [if_neg z]
    have low : ∀ q, q < 60 * t + 5 * m → upd (upd R (60 * t + 5 * m + 3) v) (60 * t + 5 * m + 4) (nI b3) q = s.1 252 q := fun q hq => by
      rw [upd_n (by omega), upd_n (by omega), hR3 _ (by omega) (by omega), hW2, upd_n (by omega), upd_n (by omega)]
    rw [low _ (by omega), low _ (by omega), low _ (by omega), low _ (by omega), low _ (by omega)]
    exact hW j (by omega)
theorem m_clause {st : PS} {cl : List CLA} {s : am_S} (E : EM c T n t) (hr : rdy n st) (hc : cl.length ≤ 12) (h : MC c T t s0 st cl s) : (∃ e s2, aCla c T cl.length st = .error e ∧ f_X12_clauseHere s = some ((0 : Int32), s2) ∧ MH t s0 e s2) ∨ (∃ x s2, aCla c T cl.length st = .ok x ∧ f_X12_clauseHere s = some ((1 : Int32), s2) ∧ MC c T t s0 x.1 (cl ++ [x.2]) s2) := by
  obtain ⟨hT, hnT, hn1, ht, hb⟩ := id E
  obtain ⟨h1, h14, h53, hrow, hfr⟩ := h
  obtain ⟨v1, v2⟩ := h1.see E
  generalize hxe : as_i s 248 8 (nI (tp c T st.1)) = x at *
  have x8 : x.1 248 8 = nI (tp c T st.1) := by rw [← hxe, as_i3]
  have x14 : x.1 248 14 = nI cl.length := by rw [← hxe, as_i2 (by decide)]; exact h14
  have x53 : x.1 253 t = nI cl.length := by rw [← hxe, as_i1 (by decide)]; exact h53
  have x52 : x.1 252 = s.1 252 := by rw [← hxe, as_i1 (by decide)]
  have fx : frm (PN t) s0 x := hfr.tr (v2.2.2.2.2.1.mo (fun _ _ => PM_N))
  have iw := m_iw v2.2.2.2.2.2.1 hT (tp_le _) (tp_sk hT st.1) x8
  -- which word
  have w8 := iw 8 7104869 (by decide) rfl
  have w9 := iw 9 7561593 (by decide) rfl
  have head : f_X12_clauseHere s = j_X12_clauseHere_24 0 (nI (tp c T st.1)) x := by
    unfold f_X12_clauseHere
    rw [v1, am_b2s, x8, am_ltd, v2.2.2.2.2.2.2, am_iff (by rw [nI_eq (by omega) (by decide)]; omega)]
  have h24 : wo c T st.1 = 8 ∨ wo c T st.1 = 9 → j_X12_clauseHere_24 0 (nI (tp c T st.1)) x = j_X12_clauseHere_81 (nI 12) (nI cl.length) (nI (tp c T st.1)) 0 x := fun hw => by
    unfold j_X12_clauseHere_24 j_X12_clauseHere_66
    rw [am_ift rfl, w8, am_b2s]
    by_cases z : wo c T st.1 = 8
    · rw [am_b1 z, am_ift rfl, x14]
    · rw [am_b0 z, w9, am_b2s, am_b1 (hw.resolve_left z), am_ift rfl, x14]
  rw [head]
  -- too many
  have many : ¬ cl.length < 12 → ∃ s2, j_X12_clauseHere_81 (nI 12) (nI cl.length) (nI (tp c T st.1)) 0 x = some ((0 : Int32), s2) ∧ MH t s0 (fau c T st.1 4) s2 := fun hc2 => by
    obtain ⟨f1, f2⟩ := v2.fl st.1 4
    refine ⟨_, ?_, f2.1, hfr.tr (f2.2.mo (fun _ _ => PM_N))⟩
    unfold j_X12_clauseHere_81
    rw [am_ift (by rw [show cl.length = 12 by omega]), f1, am_b2s, am_gdt (Or.inl rfl)]
  -- the word is gone by, two numbers are laid
  have doing : ∀ K, (K = 0 ∧ wo c T st.1 = 8) ∨ (K = 1 ∧ wo c T st.1 = 9) → cl.length < 12 → ∃ y, MS c T t y (nxt st) y ∧ y.1 252 = upd (upd (s.1 252) (60 * t + 5 * cl.length) (nI K)) (60 * t + 5 * cl.length + 1) (nI st.2.2.length) ∧ y.1 253 t = nI cl.length ∧ y.1 248 14 = nI (cl.length + 1) ∧ frm (PN t) s0 y ∧ j_X12_clauseHere_81 (nI 12) (nI cl.length) (nI (tp c T st.1)) 0 x = am_b2 (am_if (nI K = (1 : Int32)) (am_b2 (f_X12_sum y) (fun v43 s44 => am_if (v43 = 0) (some ((0 : Int32), s44)) (j_X12_isDoingHere_62 (nI K) (nI (60 * t + 5 * cl.length)) s44))) (j_X12_isDoingHere_62 (nI K) (nI (60 * t + 5 * cl.length)) y)) (fun v3 s4 => am_gd (v3 = 0 ∨ v3 = 1) (some (v3, s4))) := fun K hK hc2 => by
    have wlt : wo c T st.1 < 24 := by omega
    have aw := (atW_wd (c := c) (T := T) (p := tp c T st.1) wlt).mpr rfl
    have a1 := v2.w 248 14 (nI (cl.length + 1)) (Or.inr (Or.inr ⟨rfl, rfl⟩))
    have a8 : (as_i x 248 14 (nI (cl.length + 1))).1 248 8 = nI (tp c T st.1) := by rw [as_i2 (by decide)]; exact x8
    have iw2 := m_iw a1.2.2.2.2.2.1 hT (tp_le _) (tp_sk hT st.1) a8 8 7104869 (by decide) rfl
    have pw := m_passWord a1.2.2.2.2.2.1 hT (tp_le _) a8
    have we : wE c T (tp c T st.1) = en c T (tp c T st.1) := by unfold wE; rw [if_pos ⟨aw.1, aw.2.1⟩]
    rw [we] at pw
    have a2 := a1.pl (st.1 + 1) _ (en_le aw.1) (tp_nx aw.1)
    have a3 := a2.w 252 (60 * t + 5 * cl.length) (nI K) (Or.inl rfl)
    have a4 := a3.w 252 (60 * t + 5 * cl.length + 1) (nI st.2.2.length) (Or.inl rfl)
    generalize hz : as_i x 248 14 (nI (cl.length + 1)) = z at *
    generalize hu : as_i z 248 8 (nI (en c T (tp c T st.1))) = u at *
    have u53 : u.1 253 t = nI cl.length := by rw [← hu, as_i1 (by decide), ← hz, as_i1 (by decide)]; exact x53
    have u52 : u.1 252 = s.1 252 := by rw [← hu, as_i1 (by decide), ← hz, as_i1 (by decide)]; exact x52
    have u14 : u.1 248 14 = nI (cl.length + 1) := by rw [← hu, as_i2 (by decide), ← hz, as_i3]
    have fu : frm (PN t) s0 u := by
      rw [← hu, ← hz]
      exact (fx.ti (Or.inr (Or.inl ⟨rfl, rfl⟩))).ti (PM_N (Or.inl ⟨rfl, Or.inl rfl⟩))
    refine ⟨_, a4, ?_, ?_, ?_, (fu.ti (PN_252 (by omega))).ti (PN_252 (by omega)), ?_⟩
    · rw [row_i, row_i, u52]
    · rw [as_i1 (by decide), as_i1 (by decide)]; exact u53
    · rw [as_i1 (by decide), as_i1 (by decide)]; exact u14
    · have dh : f_X12_isDoingHere (nI K) z = am_if (nI K = (1 : Int32)) (am_b2 (f_X12_sum (as_i (as_i u 252 (60 * t + 5 * cl.length) (nI K)) 252 (60 * t + 5 * cl.length + 1) (nI st.2.2.length))) (fun v43 s44 => am_if (v43 = 0) (some ((0 : Int32), s44)) (j_X12_isDoingHere_62 (nI K) (nI (60 * t + 5 * cl.length)) s44))) (j_X12_isDoingHere_62 (nI K) (nI (60 * t + 5 * cl.length)) (as_i (as_i u 252 (60 * t + 5 * cl.length) (nI K)) 252 (60 * t + 5 * cl.length + 1) (nI st.2.2.length))) := by
        unfold f_X12_isDoingHere
        rw [pw, am_bds, a2.2.2.2.2.2.2, am_ltd, gd_nI ht (by decide), cL (by omega), u53, pk_mul, pk_mul, nI_add, am_ltd, gd_nI (by omega) (by decide), cL (by omega), am_ltd, a3.2.2.2.2.2.2, am_ltd, gd_nI (by omega) (by decide), cL (by omega), nI_1, gd_nI (by omega) (by decide), cL (by omega), a3.2.2.2.1.1, am_ltd]
      unfold j_X12_clauseHere_81 j_X12_clauseHere_129
      rw [am_iff (by rw [nI_eq (by omega) (by decide)]; omega), x14, nI_1, am_ltd, hz, am_ift rfl, iw2, am_b2s]
      rcases hK with ⟨rfl, hw⟩ | ⟨rfl, hw⟩
      · rw [am_b1 hw]
        have dh' : f_X12_isDoingHere (0 : Int32) z = _ := dh
        rw [dh']
      · rw [am_b0 (show ¬ wo c T st.1 = 8 by omega)]
        have dh' : f_X12_isDoingHere (1 : Int32) z = _ := dh
        rw [dh']
  have rd1 : st.1 < n → rdy n (nxt st) := fun lt => ⟨lt, hr.2.1, by show st.2.2.length ≤ st.1 + 1; have := hr.2.2; omega⟩
  unfold aCla
  by_cases c8 : wo c T st.1 = 8
  · rw [if_pos c8, h24 (Or.inl c8)]
    by_cases hc2 : cl.length < 12
    · rw [if_pos hc2]
      have lt := wo_lt hn1 hr.1 (show wo c T st.1 < 24 by omega)
      have r1 := rd1 lt
      obtain ⟨y, y1, y2, y3, y4, y5, y6⟩ := doing 0 (Or.inl ⟨rfl, c8⟩) hc2
      rw [y6, am_iff (by decide)]
      rcases m_62 (K := 0) E hc2 r1 y1 y3 (by decide) _ rfl with ⟨e, s2, q1, q2, q3, q4⟩ | ⟨st2, s2, R, q1, q2, q3, q4, q5, q6, q7, q8, q9⟩
      · rw [if_pos rfl] at q1
        left
        exact ⟨e, s2, by rw [q1, rb_e], by rw [q2, am_b2s, am_gdt (Or.inl rfl)], q3, y5.tr q4⟩
      · rw [if_pos rfl] at q1
        right
        have ln : st.2.2.length < st2.2.2.length := top_len (st := nxt st) hT hnT hn1 r1 q1
        refine ⟨_, s2, by rw [q1, rb_o], by rw [q2, am_b2s, am_gdt (Or.inr rfl)], q3, ?_, ?_, ?_, y5.tr q9⟩
        · rw [q8, y4, List.length_append]; rfl
        · rw [q7, List.length_append]; rfl
        · refine m_row (W := y.1 252) (s := s) (R := R) rfl hrow q4 q5 q6 y2 ?_
          rw [if_pos (Or.inl rfl)]
          show nI st.2.2.length = if st.2.2.length < st2.2.2.length then _ else _
          rw [if_pos ln]
    · rw [if_neg hc2]
      obtain ⟨s2, q1, q2⟩ := many hc2
      exact Or.inl ⟨_, s2, rfl, q1, q2⟩
  · rw [if_neg c8]
    by_cases c9 : wo c T st.1 = 9
    · rw [if_pos c9, h24 (Or.inr c9)]
      by_cases hc2 : cl.length < 12
      · rw [if_pos hc2]
        have lt := wo_lt hn1 hr.1 (show wo c T st.1 < 24 by omega)
        have r1 := rd1 lt
        obtain ⟨y, y1, y2, y3, y4, y5, y6⟩ := doing 1 (Or.inr ⟨rfl, c9⟩) hc2
        rw [y6, am_ift (show nI 1 = (1 : Int32) from rfl)]
        have V := m_sum E r1 y1
        have vg := aSum_g hT hnT hn1 (st := nxt st) r1.1 r1.2.1
        cases hv : aSum c T (nxt st) with
        | error e =>
          rw [hv] at V
          obtain ⟨s2, q1, q2⟩ := V
          left
          exact ⟨e, s2, by rw [rb_e], by rw [q1, am_b2s, am_ift rfl, am_b2s, am_gdt (Or.inl rfl)], q2.1, y5.tr (q2.2.mo (fun _ _ => PM_N))⟩
        | ok st1 =>
          rw [hv] at V vg
          obtain ⟨u, u1, u2⟩ := V
          have g1 : gs n [false] 0 (nxt st) st1 := vg
          have r2 := g1.rd r1
          obtain ⟨p1, p2, p3⟩ := PT_253 (t := t) (u2.2.2.2.2.1.mo (fun _ _ z => Or.inl z))
          have fu : frm (PN t) s0 u := y5.tr (u2.2.2.2.2.1.mo (fun _ _ => PM_N))
          rw [u1, am_b2s, am_iff (by decide), rb_o]
          rcases m_62 (K := 1) E hc2 r2 u2 (by rw [p1]; exact y3) (by decide) _ rfl with ⟨e, s2, q1, q2, q3, q4⟩ | ⟨st2, s2, R, q1, q2, q3, q4, q5, q6, q7, q8, q9⟩
          · rw [if_neg (by decide)] at q1
            left
            by_cases w4 : wo c T st1.1 = 4
            · rw [if_pos w4] at q1 ⊢
              exact ⟨e, s2, by rw [q1, rb_e], by rw [q2, am_b2s, am_gdt (Or.inl rfl)], q3, fu.tr q4⟩
            · rw [if_neg w4] at q1
              cases q1
          · rw [if_neg (by decide)] at q1
            right
            by_cases w4 : wo c T st1.1 = 4
            · rw [if_pos w4] at q1 ⊢
              have lt2 := wo_lt hn1 r2.1 (show wo c T st1.1 < 24 by omega)
              have r3 : rdy n (nxt st1) := ⟨lt2, r2.2.1, by show st1.2.2.length ≤ st1.1 + 1; have := r2.2.2; omega⟩
              have ln : st1.2.2.length < st2.2.2.length := top_len (st := nxt st1) hT hnT hn1 r3 q1
              refine ⟨_, s2, by rw [q1, rb_o], by rw [q2, am_b2s, am_gdt (Or.inr rfl)], q3, ?_, ?_, ?_, fu.tr q9⟩
              · rw [q8, p3, y4, List.length_append]; rfl
              · rw [q7, List.length_append]; rfl
              · refine m_row (W := u.1 252) (s := s) (R := R) rfl hrow q4 q5 q6 (p2.trans y2) ?_
                rw [if_pos (Or.inr w4)]
                show nI st1.2.2.length = if st1.2.2.length < st2.2.2.length then _ else _
                rw [if_pos ln]
            · rw [if_neg w4] at q1 ⊢
              have q1' : st1 = st2 := by injection q1
              subst q1'
              refine ⟨_, s2, rfl, by rw [q2, am_b2s, am_gdt (Or.inr rfl)], q3, ?_, ?_, ?_, fu.tr q9⟩
              · rw [q8, p3, y4, List.length_append]; rfl
              · rw [q7, List.length_append]; rfl
              · refine m_row (W := u.1 252) (s := s) (R := R) rfl hrow q4 q5 q6 (p2.trans y2) ?_
                rw [if_neg (by omega), if_neg (by omega)]
      · rw [if_neg hc2]
        obtain ⟨s2, q1, q2⟩ := many hc2
        exact Or.inl ⟨_, s2, rfl, q1, q2⟩
    · rw [if_neg c9]
      left
      obtain ⟨f1, f2⟩ := v2.fl st.1 0
      have f1' : f_X12_fails (0 : Int32) (nI (tp c T st.1)) x = _ := f1
      refine ⟨_, _, rfl, ?_, f2.1, hfr.tr (f2.2.mo (fun _ _ => PM_N))⟩
      unfold j_X12_clauseHere_24 j_X12_clauseHere_59
      rw [am_ift rfl, w8, am_b2s, am_b0 c8, w9, am_b2s, am_b0 c9, f1', am_b2s, am_gdt (Or.inl rfl)]
end MJ
