/-! a rule is read -/
section RU
variable {c : Nat → Int32} {T n : Nat}
theorem aIn0 : aIn n (0, 0, []) [] := ⟨⟨Nat.zero_le _, Nat.zero_le _, Nat.le_refl _⟩, fun e he => by simp at he, Nat.zero_le _, fun r hr => by simp at hr⟩
theorem c_read {a : Nat} {s : am_S} (hT : T ≤ 400) (hnT : n ≤ T) (hn1 : tp c T n = T) (ha : a ∈ am_isR) (hq : s.2.2.2 = a) (h : CR c T n a s (0, 0, []) [] s) : (∃ e s2, aRul c T = .error e ∧ erK e ∧ f_X1_readClauses_247 (nI 12) s = some (nI e, s2) ∧ frm (PA a) s s2) ∨ (∃ x s2, aRul c T = .ok x ∧ f_X1_readClauses_247 (nI 12) s = some ((0 : Int32), s2) ∧ CR c T n a s x.1 x.2 s2 ∧ aIn n x.1 x.2) := by
  have i0 := aIn0 (n := n)
  have cg := aCla_g hT hnT hn1 i0.1 0
  unfold aRul f_X1_readClauses_247
  rcases c_clause hT hnT hn1 ha hq i0.1 (Nat.zero_le _) h with ⟨e, s2, q1, q2, q3⟩ | ⟨x, s2, q1, q2, q3⟩
  · have q1' : aCla c T 0 (0, 0, []) = .error e := q1
    have q2' : f_X4_readClause (0 : Int32) s = some s2 := q2
    rw [q1'] at cg
    left
    refine ⟨e, s2, by rw [q1', rb_e], cg, ?_, CF.pa (frm.rf _ _) q3⟩
    rw [q2', am_bds]
    exact c_lpF (m := 1) (F := 3999) (by omega) cg q3
  · have q1' : aCla c T 0 (0, 0, []) = .ok x := q1
    have q2' : f_X4_readClause (0 : Int32) s = some s2 := q2
    rw [q1'] at cg
    have ii : aIn n x.1 ([] ++ [x.2]) := i0.nx (st1 := (0, 0, [])) rfl cg
    have up : 0 + 1 ≤ x.1.1 := cg.2.1
    have key := c_all hT hnT hn1 ha hq 401 am_F x.1 [x.2] s2 (by omega) (by decide) ii q3
    rw [q1', rb_o, q2', am_bds]
    exact key
theorem m_read {t : Nat} {s : am_S} (E : EM c T n t) (h : MC c T t s (0, 0, []) [] s) : (∃ e s2, aRul c T = .error e ∧ erK e ∧ am_b2 (f_X12_clauseHere s) (fun v18 s19 => am_lp bM am_F (v18, s19)) = some ((0 : Int32), as_i s2 248 1 0) ∧ MH t s e s2) ∨ (∃ x s2, aRul c T = .ok x ∧ am_b2 (f_X12_clauseHere s) (fun v18 s19 => am_lp bM am_F (v18, s19)) = some ((1 : Int32), as_i s2 248 1 0) ∧ MC c T t s x.1 x.2 s2 ∧ aIn n x.1 x.2) := by
  obtain ⟨hT, hnT, hn1, ht, hb⟩ := id E
  have i0 := aIn0 (n := n)
  have cg := aCla_g hT hnT hn1 i0.1 0
  unfold aRul
  rcases m_clause E i0.1 (Nat.zero_le _) h with ⟨e, s2, q1, q2, q3⟩ | ⟨x, s2, q1, q2, q3⟩
  · have q1' : aCla c T 0 (0, 0, []) = .error e := q1
    rw [q1'] at cg
    left
    refine ⟨e, s2, by rw [q1', rb_e], cg, ?_, q3⟩
    rw [q2, am_b2s]
    refine am_lp_inr (n := 3999) ?_
    show b_X12_readsAll_35 0 s2 = _
    unfold b_X12_readsAll_35 j_X12_readsAll_66
    rw [am_ift rfl, am_ift rfl, m_88 q3.1, am_bds, b01_f (erK.ne cg)]
  · have q1' : aCla c T 0 (0, 0, []) = .ok x := q1
    rw [q1'] at cg
    have ii : aIn n x.1 ([] ++ [x.2]) := i0.nx (st1 := (0, 0, [])) rfl cg
    have up : 0 + 1 ≤ x.1.1 := cg.2.1
    have key := m_all E 401 am_F x.1 [x.2] s2 (by omega) (by decide) ii q3
    rw [q1', rb_o, q2, am_b2s]
    exact key
end RU
theorem isR_of {r : Nat} (h : r < 6) : 144 + 7 * r ∈ am_isR := by
  have key : ∀ r, r < 6 → 144 + 7 * r ∈ am_isR := by decide +kernel
  exact key r h
/-- what was read is a rule in both -/
theorem pRule_of {c : Nat → Int32} {T n r : Nat} {st : PS} {cl : List CLA} {x y s : am_S} (hn : n ≤ 400) (hi : aIn n st cl) (hx : CR c T n (144 + 7 * r) x st cl x) (hy : MC c T r y st cl y) (hc : ∀ b, 144 + 7 * r ≤ b → b ≤ 150 + 7 * r → s.1 b = x.1 b) (hm : s.1 250 = y.1 250 ∧ s.1 252 = y.1 252 ∧ s.1 253 = y.1 253) : pRule r s := by
  obtain ⟨⟨i1, i2, i3⟩, j1, j2, j3⟩ := hi
  obtain ⟨x1, ⟨x2, x3, x4⟩, _⟩ := hx
  obtain ⟨y1, _, y2, y3, _⟩ := hy
  have ml := y1.2.2.2.1
  have cl1 := x1.2.2.2.1
  refine ⟨cl.length, st.2.2.length, Dof st.2.2, fun i => (st.2.2.getD i (0, 0)).2, fun q => (cl.getD q c0).1, fun q => (cl.getD q c0).2.1, fun q => (cl.getD q c0).2.2.1, fun q => (cl.getD q c0).2.2.2, ⟨j2, by omega, fun i hi => ?_, fun q hq => ?_⟩, ?_, ?_⟩
  · have mem : st.2.2.getD i (0, 0) ∈ st.2.2 := by
      rw [List.getD_eq_getElem?_getD, List.getElem?_eq_getElem hi]
      exact List.getElem_mem hi
    exact j1 _ mem
  · have mem : cl.getD q c0 ∈ cl := by
      rw [List.getD_eq_getElem?_getD, List.getElem?_eq_getElem hq]
      exact List.getElem_mem hq
    exact j3 _ mem
  · rw [hc (144 + 7 * r) (by omega) (by omega), hc (145 + 7 * r) (by omega) (by omega), hc (146 + 7 * r) (by omega) (by omega), hc (147 + 7 * r) (by omega) (by omega), hc (148 + 7 * r) (by omega) (by omega), hc (149 + 7 * r) (by omega) (by omega), hc (150 + 7 * r) (by omega) (by omega)]
    refine ⟨x2, by rw [x3]; exact b01_z, ?_, fun i hi => ?_, fun q hq => ?_⟩
    · rw [x3]
      have : b01 (anyL cl = true) = 1 ↔ anyL cl = true := by
        by_cases z : anyL cl = true
        · rw [b01_t z]; exact ⟨fun _ => z, fun _ => rfl⟩
        · rw [b01_f z]; exact ⟨fun y => absurd y (by decide), fun y => absurd y z⟩
      rw [this]
      unfold anyL
      rw [List.any_eq_true]
      constructor
      · rintro ⟨r, hr, hz⟩
        obtain ⟨q, hq, e⟩ := List.mem_iff_getElem.mp hr
        refine ⟨q, hq, ?_⟩
        show (cl.getD q c0).1 = 0
        rw [List.getD_eq_getElem?_getD, List.getElem?_eq_getElem hq]
        show cl[q].1 = 0
        rw [e]
        simpa using hz
      · rintro ⟨q, hq, hz⟩
        refine ⟨cl[q], List.getElem_mem hq, ?_⟩
        have hz2 : (cl.getD q c0).1 = 0 := hz
        rw [List.getD_eq_getElem?_getD, List.getElem?_eq_getElem hq] at hz2
        simpa using hz2
    · have := cl1.2 i hi
      rw [show 144 + 7 * r + 1 = 145 + 7 * r by omega, show 144 + 7 * r + 2 = 146 + 7 * r by omega] at this
      exact this
    · have := x4 q hq
      unfold cRow at this
      rw [show 144 + 7 * r + 3 = 147 + 7 * r by omega, show 144 + 7 * r + 4 = 148 + 7 * r by omega, show 144 + 7 * r + 5 = 149 + 7 * r by omega, show 144 + 7 * r + 6 = 150 + 7 * r by omega] at this
      exact this
  · rw [hm.1, hm.2.1, hm.2.2]
    exact ⟨y2, fun i hi => ml.2 i hi, fun q hq => y3 q hq⟩
theorem st_rule : LS_rule Inv := by
  intro k s hk hI
  obtain ⟨rn, hI⟩ := hI
  have hI0 := hI
  obtain ⟨h1, h2, h3, h4, ⟨T, hT, p1, p2, p3⟩, h6, h7, h8, h9⟩ := hI
  by_cases c6 : rn < 6
  · obtain ⟨n, hnT, hn1, hn2⟩ := tp_n (s.1 1) T
    have ha := isR_of c6
    have hr144 := isR_r _ ha
    -- the class
    obtain ⟨s1, k1, k2, k3, k4, k5, k6⟩ := c_cut (c := s.1 1) (T := T) (s := s) (fun j hj => rfl) hT hnT hn1 hn2
    generalize ha' : 144 + 7 * rn = a at *
    have x05 : (as_i s1 0 1 0).1 0 5 = nI rn := by rw [as_i2 (by decide), k5 0 (by decide) (by decide) (by decide) (by decide)]; exact h2
    obtain ⟨u, hu⟩ : ∃ u, u = as_i (as_i (as_i (as_i (as_u (as_i s1 0 1 0) a) a 3 0) a 8 0) a 9 0) 247 2 0 := ⟨_, rfl⟩
    have uq : u.2.2.2 = a := by rw [hu]; rfl
    have ut : u.2.2.1 = s.2.2.1 := by rw [hu]; show s1.2.2.1 = _; rw [k6]
    have ur : ∀ b j, (b = 0 → j ≠ 1) → b ≠ 247 → b ≠ a → u.1 b j = s1.1 b j := fun b j z1 z2 z3 => by
      rw [hu, as_i1 z2, as_i1 z3, as_i1 z3, as_i1 z3, as_u1, rd_i, if_neg (fun z => z1 z.1 z.2)]
    have beg : f_X4_begin a (as_i s1 0 1 0) = some u := by
      unfold f_X4_begin f_X3_clear
      rw [am_gdt ha, am_ltd, as_u3, am_ltd, am_gdt ha, am_gdt ha, am_ltd, am_ltd, am_ltd, am_bds, am_ltd, hu]
    have utok : tokAt (s.1 1) T n u := by
      refine ⟨by rw [ur 2 3 (by decide) (by decide) (by omega)]; exact k2.1, fun i hi => ?_⟩
      rw [ur 3 i (by omega) (by decide) (by omega), ur 4 i (by omega) (by decide) (by omega), ur 5 i (by omega) (by decide) (by omega)]
      exact k2.2 i hi
    have ucr : CR (s.1 1) T n a u (0, 0, []) [] u := by
      refine ⟨⟨?_, ?_, ?_, ⟨?_, fun j hj => by simp at hj⟩, frm.rf _ _, utok⟩, ⟨?_, ?_, fun j hj => by simp at hj⟩, frm.rf _ _⟩
      · rw [ur 2 4 (by decide) (by decide) (by omega)]; exact k3
      · rw [ur 2 5 (by decide) (by decide) (by omega)]; exact k4
      · rw [hu, as_i3]; rfl
      · rw [hu, as_i1 (by omega), as_i2 (by decide), as_i2 (by decide), as_i3]; rfl
      · rw [hu, as_i1 (by omega), as_i2 (by decide), as_i3]; rfl
      · rw [hu, as_i1 (by omega), as_i3]; rfl
    have cls : ∀ v w, f_X1_readClauses_247 (nI 12) u = some (v, w) → f_X11_rule s = am_if (v = 0) (am_lt (as_i w 0 5 ((w.1 0 5) + (1 : Int32))) (fun s9 => some (((s9.1 0 5) - (1 : Int32)), s9))) (some (((-2 : Int32) - v), w)) := fun v w hv => by
      unfold f_X11_rule
      rw [h2, am_ift (nI_lt c6 (by decide)), p1, k1, am_bds, am_ltd, x05, am_ltd, gd_nI c6 (by decide), cL (by omega), am_ltd, ha', beg, am_bds, hv, am_b2s]
    -- the reference, from a state that is as the old one but for the class's cells
    have ref : ∀ w : am_S, (∀ b, 248 ≤ b → w.1 b = s.1 b) → ∃ z, z = as_i (as_i (as_i (as_i (as_i (as_i (as_i w 248 11 (nI rn)) 253 rn 0) 251 rn 0) 248 14 0) 248 8 0) 248 9 0) 248 12 0 ∧ MC (s.1 1) T rn z (0, 0, []) [] z ∧ ∀ v y, am_b2 (f_X12_clauseHere z) (fun v18 s19 => am_lp bM am_F (v18, s19)) = some (v, y) → f_X12_rule w = am_if (v = 0) (some (((-2 : Int32) - (y.1 248 9)), y)) (am_lt (as_i y 248 2 ((y.1 248 2) + (1 : Int32))) (fun s6 => some (((s6.1 248 2) - (1 : Int32)), s6))) := fun w hw => by
      have w2 : w.1 248 2 = nI rn := by rw [hw 248 (by decide)]; exact h3
      refine ⟨_, rfl, ⟨⟨⟨0, Nat.zero_le _, ?_, rfl⟩, ?_, ?_, ⟨?_, fun j hj => by simp at hj⟩, frm.rf _ _, ⟨?_, fun j hj => ?_⟩, ?_⟩, ?_, ?_, fun j hj => by simp at hj, frm.rf _ _⟩, fun v y hv => ?_⟩
      · rw [as_i2 (by decide), as_i2 (by decide), as_i3]; rfl
      · rw [as_i2 (by decide), as_i3]
      · rw [as_i3]; rfl
      · rw [as_i1 (by decide), as_i1 (by decide), as_i1 (by decide), as_i1 (by decide), as_i3]; rfl
      · rw [as_i2 (by decide), as_i2 (by decide), as_i2 (by decide), as_i2 (by decide), as_i1 (by decide), as_i1 (by decide), as_i2 (by decide), hw 248 (by decide)]; exact p2
      · rw [as_i1 (by decide), as_i1 (by decide), as_i1 (by decide), as_i1 (by decide), as_i1 (by decide), as_i1 (by decide), as_i1 (by decide), hw 249 (by decide)]; exact (p3 j hj).1.symm
      · rw [as_i2 (by decide), as_i2 (by decide), as_i2 (by decide), as_i2 (by decide), as_i1 (by decide), as_i1 (by decide), as_i3]
      · rw [as_i2 (by decide), as_i2 (by decide), as_i2 (by decide), as_i3]; rfl
      · rw [as_i1 (by decide), as_i1 (by decide), as_i1 (by decide), as_i1 (by decide), as_i1 (by decide), as_i3]; rfl
      · unfold f_X12_rule f_X12_readsAll
        rw [w2, am_iff (by rw [nI_eq (by omega) (by decide)]; omega), am_ltd, as_i3, gd_nI c6 (by decide), cL (by omega), am_ltd, as_i1 (show (248 : Nat) ≠ 253 by decide), as_i3, gd_nI (by omega) (by decide), cL (by omega), am_ltd, am_ltd, am_ltd, am_ltd, am_ltd, hv, am_b2s]
    have E : EM (s.1 1) T n rn := ⟨hT, hnT, hn1, c6, fun j hj => (p3 j hj).2⟩
    have hi48 : ∀ w : am_S, frm (PA a) u w → ∀ b, 248 ≤ b → w.1 b = s.1 b := fun w fw b hb => by
      rw [fw.row (fun j => by unfold PA PC P2; omega)]
      funext j
      rw [ur b j (by omega) (by omega) (by omega), k5 b (by omega) (by omega) (by omega) (by omega)]
    -- what the class leaves
    have cfr : ∀ w : am_S, frm (PA a) u w → ∀ b j, ¬ QR rn b j → w.1 b j = s.1 b j := fun w fw b j hb => by
      rw [fw.1 b j (by unfold PA PC P2; unfold QR at hb; omega)]
      unfold QR at hb
      rw [ur b j (by omega) (by omega) (by omega), k5 b (by omega) (by omega) (by omega) (by omega)]
    have mfr : ∀ w y : am_S, ∀ z, z = as_i (as_i (as_i (as_i (as_i (as_i (as_i w 248 11 (nI rn)) 253 rn 0) 251 rn 0) 248 14 0) 248 8 0) 248 9 0) 248 12 0 → frm (PN rn) z y → ∀ b j, ¬ (b = 248 ∧ (8 ≤ j ∧ j ≤ 16)) → ¬ (b = 250 ∧ 400 * rn ≤ j) → b ≠ 251 → ¬ (b = 252 ∧ 60 * rn ≤ j) → ¬ (b = 253 ∧ j = rn) → b ≠ 255 → y.1 b j = w.1 b j := fun w y z hz fy b j b1 b2 b3 b4 b5 b6 => by
      rw [fy.1 b j (by unfold PN PT PM; omega), hz, rd_i, if_neg (by omega), rd_i, if_neg (by omega), rd_i, if_neg (by omega), rd_i, if_neg (by omega), rd_i, if_neg (by omega), rd_i, if_neg (by omega), rd_i, if_neg (by omega)]
    rcases c_read hT hnT hn1 ha uq ucr with ⟨e, w, q1, q2, q3, q4⟩ | ⟨x, w, q1, q3, q4, q5⟩
    · obtain ⟨z, z1, z2, z3⟩ := ref w (hi48 w q4)
      rcases m_read E z2 with ⟨e2, y, r1, r2, r3, r4⟩ | ⟨x2, y, r1, _⟩
      · rw [q1] at r1
        have ee : e = e2 := by injection r1
        subst ee
        refine ⟨_, w, as_i y 248 1 0, by rw [cls _ _ q3, am_iff (erK.ne q2)], ?_, rn, InvR_mono ?_⟩
        · rw [z3 _ _ r3, am_ift rfl, as_i2 (by decide), r4.1]
        · refine InvR_new hI0 c6 (fun b j hb => ?_) ?_ ?_ ?_ as_i3 (Or.inl rfl) ?_ ?_
          · unfold QR at hb
            rw [rd_i, if_neg (by omega), mfr w y z z1 r4.2 b j (by omega) (by omega) (by omega) (by omega) (by omega) (by omega)]
            exact cfr w q4 b j (by unfold QR; omega)
          · show y.2.2.1 = _
            rw [r4.2.2, z1]
            show w.2.2.1 = _
            rw [q4.2, ut]
          · show y.2.2.2 ∈ _
            rw [r4.2.2, z1]
            show w.2.2.2 ∈ _
            rw [q4.2, uq]
            exact ha
          · rw [as_i1 (by decide), mfr w y z z1 r4.2 0 1 (by omega) (by omega) (by omega) (by omega) (by omega) (by omega), q4.1 0 1 (by unfold PA PC P2; omega), hu, as_i1 (by decide), as_i1 (by omega), as_i1 (by omega), as_i1 (by omega), as_u1, as_i3]
          · rw [as_i1 (by decide), mfr w y z z1 r4.2 0 5 (by omega) (by omega) (by omega) (by omega) (by omega) (by omega), q4.1 0 5 (by unfold PA PC P2; omega), ur 0 5 (by decide) (by decide) (by omega), k5 0 (by decide) (by decide) (by decide) (by decide)]
            exact h2
          · rw [as_i2 (by decide), mfr w y z z1 r4.2 248 2 (by omega) (by omega) (by omega) (by omega) (by omega) (by omega), hi48 w q4 248 (by decide)]
            exact h3
      · rw [q1] at r1
        cases r1
    · have q4f := q4.2.2
      have w05 : w.1 0 5 = nI rn := by
        rw [q4f.1 0 5 (by unfold PA PC P2; omega), ur 0 5 (by decide) (by decide) (by omega), k5 0 (by decide) (by decide) (by decide) (by decide)]
        exact h2
      have hi48' : ∀ b, 248 ≤ b → (as_i w 0 5 (nI (rn + 1))).1 b = s.1 b := fun b hb => by rw [as_i1 (by omega)]; exact hi48 w q4f b hb
      obtain ⟨z, z1, z2, z3⟩ := ref (as_i w 0 5 (nI (rn + 1))) hi48'
      rcases m_read E z2 with ⟨e2, y, r1, _⟩ | ⟨x2, y, r1, r3, r4, r5⟩
      · rw [q1] at r1
        cases r1
      · rw [q1] at r1
        have ee : x = x2 := by injection r1
        subst ee
        have r4f := r4.2.2.2.2
        have y2 : y.1 248 2 = nI rn := by
          rw [mfr _ y z z1 r4f 248 2 (by omega) (by omega) (by omega) (by omega) (by omega) (by omega), hi48' 248 (by decide)]
          exact h3
        refine ⟨nI rn, as_i w 0 5 (nI (rn + 1)), as_i (as_i y 248 1 0) 248 2 (nI (rn + 1)), ?_, ?_, rn + 1, InvR_mono ?_⟩
        · rw [cls _ _ q3, am_ift rfl, w05, nI_1, am_ltd, as_i3, nI_pr]
        · rw [z3 _ _ r3, am_iff (by decide), as_i2 (show (2 : Nat) ≠ 1 by decide), y2, nI_1, am_ltd, as_i3, nI_pr]
        · refine InvR_new hI0 c6 (fun b j hb => ?_) ?_ ?_ ?_ ?_ (Or.inr ⟨rfl, ?_⟩) ?_ as_i3
          · unfold QR at hb
            rw [rd_i, if_neg (by omega), rd_i, if_neg (by omega), mfr _ y z z1 r4f b j (by omega) (by omega) (by omega) (by omega) (by omega) (by omega), rd_i, if_neg (by omega)]
            exact cfr w q4f b j (by unfold QR; omega)
          · show y.2.2.1 = _
            rw [r4f.2, z1]
            show w.2.2.1 = _
            rw [q4f.2, ut]
          · show y.2.2.2 ∈ _
            rw [r4f.2, z1]
            show w.2.2.2 ∈ _
            rw [q4f.2, uq]
            exact ha
          · rw [as_i1 (by decide), as_i1 (by decide), mfr _ y z z1 r4f 0 1 (by omega) (by omega) (by omega) (by omega) (by omega) (by omega), as_i2 (by decide), q4f.1 0 1 (by unfold PA PC P2; omega), hu, as_i1 (by decide), as_i1 (by omega), as_i1 (by omega), as_i1 (by omega), as_u1, as_i3]
          · rw [as_i2 (by decide), as_i3]
          · rw [← ha'] at q4
            refine pRule_of (by omega) q5 (x := w) (y := y) ⟨q4.1, q4.2.1, frm.rf _ _⟩ ⟨r4.1, r4.2.1, r4.2.2.1, r4.2.2.2.1, frm.rf _ _⟩ (fun b b1 b2 => ?_) ⟨?_, ?_, ?_⟩
            · funext j
              rw [as_i1 (by omega), as_i1 (by omega), mfr _ y z z1 r4f b j (by omega) (by omega) (by omega) (by omega) (by omega) (by omega), as_i1 (by omega)]
            · rw [as_i1 (by decide), as_i1 (by decide)]
            · rw [as_i1 (by decide), as_i1 (by decide)]
            · rw [as_i1 (by decide), as_i1 (by decide)]
          · rw [as_i1 (by decide), as_i1 (by decide), mfr _ y z z1 r4f 0 5 (by omega) (by omega) (by omega) (by omega) (by omega) (by omega), as_i3]
  · have : rn = 6 := by omega
    subst this
    refine ⟨-1, s, s, ?_, ?_, 6, InvR_mono hI0⟩
    · unfold f_X11_rule
      rw [h2, am_iff (by decide)]
    · unfold f_X12_rule
      rw [h3, am_ift rfl]
