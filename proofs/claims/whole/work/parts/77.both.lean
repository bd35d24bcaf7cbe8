/-! all clauses, in both; what a new rule leaves as it is -/
section CL2
variable {c : Nat → Int32} {T n a : Nat} {s0 : am_S}
theorem c_52F {e : Nat} {s s2 : am_S} (hn : n ≤ 400) (he : erK e) (g : CF c T n a s e s2) : j_X1_readClauses_247_52 s2 = some (nI e, s2) := by
  obtain ⟨i, hi, h4⟩ := g.2.1
  unfold j_X1_readClauses_247_52
  rw [c_kindHere g.2.2.2.2 hn h4 hi, am_bds]
  by_cases z : nI (kd c T i) = 0
  · rw [am_ift z, g.1]
  · rw [am_iff z, c_failF (g.ne he), am_bds, g.1]
abbrev bC : Int32 × am_S → Option ((Int32 × am_S) ⊕ (Int32 × am_S)) := fun (q : Int32 × am_S) => b_X1_readClauses_247_7 (nI 12) q.1 q.2
theorem c_lpF {e m F : Nat} {s s2 : am_S} (hn : n ≤ 400) (he : erK e) (g : CF c T n a s e s2) : am_lp bC (F + 1) (nI m, s2) = some (nI e, s2) := by
  refine am_lp_inr ?_
  show b_X1_readClauses_247_7 (nI 12) (nI m) s2 = _
  unfold b_X1_readClauses_247_7
  by_cases z : nI 12 < nI m
  · rw [am_ift z, c_52F hn he g, am_bds]
  · rw [am_iff z, c_fine, am_bds, am_b0 (g.ne he), c_52F hn he g, am_bds]
theorem CF.pa {e : Nat} {s s2 : am_S} (h : frm (PA a) s0 s) (g : CF c T n a s e s2) : frm (PA a) s0 s2 := h.tr (g.2.2.2.1.mo (fun _ _ z => Or.inl z))
theorem c_all (hT : T ≤ 400) (hnT : n ≤ T) (hn1 : tp c T n = T) (ha : a ∈ am_isR) (hq : s0.2.2.2 = a) : ∀ (f F : Nat) (st : PS) (cl : List CLA) (s : am_S), n < st.1 + f → f ≤ F → aIn n st cl → CR c T n a s0 st cl s → (∃ e s2, aAll c T f st cl = .error e ∧ erK e ∧ am_lp bC F (nI cl.length, s) = some (nI e, s2) ∧ frm (PA a) s0 s2) ∨ (∃ x s2, aAll c T f st cl = .ok x ∧ am_lp bC F (nI cl.length, s) = some ((0 : Int32), s2) ∧ CR c T n a s0 x.1 x.2 s2 ∧ aIn n x.1 x.2) := by
  intro f
  induction f with
  | zero => intro F st cl s hf _ hi; have := hi.1.1; omega
  | succ f ih =>
    intro F st cl s hf hF hi h
    have hr := hi.1
    have ix := hr.1
    have hcs := h.1
    have hqs : s.2.2.2 = a := by rw [h.2.2.2]; exact hq
    obtain ⟨F, rfl⟩ : ∃ F', F = F' + 1 := ⟨F - 1, by omega⟩
    have head : b_X1_readClauses_247_7 (nI 12) (nI cl.length) s = am_if (b01 (bt c T st.1 59) = 0) (am_bd (j_X1_readClauses_247_52 s) (fun e14 => some (Sum.inr e14))) (am_bd (f_X7_step s) (fun s15 => am_bd (f_X4_readClause (nI cl.length) s15) (fun s16 => some (Sum.inl (nI (cl.length + 1), s16))))) := by
      unfold b_X1_readClauses_247_7
      rw [am_iff (by rw [nI_ltI (by decide) (by have := hi.2.2.1; omega)]; have := hi.2.2.1; omega), c_fine, am_bds, am_b1 hcs.2.1, c_isByte hcs.2.2.2.2.2 (by omega) hcs.1 ix plBs.2.2.2.2.2.2.2, am_bds]
      by_cases z : bt c T st.1 59
      · rw [am_b1 z, am_b1 z]
        congr 1
        funext s15
        congr 1
        funext s16
        rw [am_ltd, nI_1]
      · rw [am_b0 z, am_b0 z]
    rw [aAll]
    by_cases z : bt c T st.1 59
    · rw [if_pos z]
      have lt := bt_lt hn1 ix z
      have h1 : CR c T n a s0 (nxt st) cl (as_i s 2 4 (nI (st.1 + 1))) := by
        have r := isR_r a ha
        refine ⟨(hcs.stp ha (st.1 + 1)).rb, ⟨?_, ?_, fun j hj => ?_⟩, h.2.2.ti (Or.inl (Or.inl ⟨rfl, Or.inl rfl⟩))⟩
        · rw [as_i1 (by omega)]; exact h.2.1.1
        · rw [as_i1 (by omega)]; exact h.2.1.2.1
        · obtain ⟨w1, w2, w3, w4⟩ := h.2.1.2.2 j hj
          exact ⟨by rw [as_i1 (by omega)]; exact w1, by rw [as_i1 (by omega)]; exact w2, by rw [as_i1 (by omega)]; exact w3, by rw [as_i1 (by omega)]; exact w4⟩
      have r1 : rdy n (nxt st) := ⟨lt, hr.2.1, by show st.2.2.length ≤ st.1 + 1; have := hr.2.2; omega⟩
      have cg := aCla_g hT hnT hn1 r1 cl.length
      rcases c_clause hT hnT hn1 ha (show (as_i s 2 4 (nI (st.1 + 1))).2.2.2 = a from hqs) r1 hi.2.2.1 h1 with ⟨e, s2, q1, q2, q3⟩ | ⟨x, s2, q1, q2, q3⟩
      · rw [q1] at cg
        have hstep : bC (nI cl.length, s) = some (.inl (nI (cl.length + 1), s2)) := by
          show b_X1_readClauses_247_7 (nI 12) (nI cl.length) s = _
          rw [head, am_b1 z, tk_step hcs.2.2.2.2.2 (by omega) hcs.1 lt, am_bds, q2, am_bds]
        left
        obtain ⟨F, rfl⟩ : ∃ F', F = F' + 1 := ⟨F - 1, by omega⟩
        refine ⟨e, s2, by rw [q1, rb_e], cg, ?_, CF.pa h1.2.2 q3⟩
        rw [am_lp_inl hstep, c_lpF (by omega) cg q3]
      · rw [q1] at cg
        have hstep : bC (nI cl.length, s) = some (.inl (nI (cl.length + 1), s2)) := by
          show b_X1_readClauses_247_7 (nI 12) (nI cl.length) s = _
          rw [head, am_b1 z, tk_step hcs.2.2.2.2.2 (by omega) hcs.1 lt, am_bds, q2, am_bds]
        have ii := hi.nx (st1 := nxt st) rfl cg
        have up : st.1 + 1 + 1 ≤ x.1.1 := cg.2.1
        have key := ih F x.1 (cl ++ [x.2]) s2 (by omega) (by omega) ii q3
        rw [List.length_append] at key
        rw [q1, rb_o, am_lp_inl hstep]
        exact key
    · rw [if_neg z]
      have kh := c_kindHere hcs.2.2.2.2.2 (by omega) hcs.1 ix
      by_cases k0 : kd c T st.1 = 0
      · rw [if_pos k0]
        right
        refine ⟨_, s, rfl, am_lp_inr ?_, h, hi⟩
        show b_X1_readClauses_247_7 (nI 12) (nI cl.length) s = _
        rw [head, am_b0 z]
        unfold j_X1_readClauses_247_52
        rw [kh, am_bds, am_ift (by rw [k0]; rfl), hcs.2.1, am_bds]
      · rw [if_neg k0]
        left
        obtain ⟨s2, r1, r2⟩ := hcs.fl ha (by omega) ix (by have := hr.2.2; omega) 0
        have r1' : f_X7_fail (0 : Int32) s = some s2 := r1
        refine ⟨_, s2, rfl, fauK hT _ (by decide), am_lp_inr ?_, CF.pa h.2.2 r2⟩
        show b_X1_readClauses_247_7 (nI 12) (nI cl.length) s = _
        rw [head, am_b0 z]
        unfold j_X1_readClauses_247_52
        rw [kh, am_bds, am_iff (show ¬ nI (kd c T st.1) = (0 : Int32) from fun y => k0 ((kdI (k := 0) (by decide)).mp y)), r1', am_bds, am_bds, r2.1]
end CL2
section ML2
variable {c : Nat → Int32} {T n t : Nat} {s0 : am_S}
abbrev bM : Int32 × am_S → Option ((Int32 × am_S) ⊕ (Int32 × am_S)) := fun (q : Int32 × am_S) => b_X12_readsAll_35 q.1 q.2
theorem m_88 {s : am_S} {v : Int32} (h : s.1 248 9 = v) : j_X12_readsAll_88 s = some (b01 (v = 0), as_i s 248 1 0) := by
  unfold j_X12_readsAll_88
  rw [am_ltd, as_i2 (by decide), h]
  by_cases z : v = 0
  · rw [am_ift z, b01_t z]
  · rw [am_iff z, b01_f z]
theorem m_all (E : EM c T n t) : ∀ (f F : Nat) (st : PS) (cl : List CLA) (s : am_S), n < st.1 + f → f ≤ F → aIn n st cl → MC c T t s0 st cl s → (∃ e s2, aAll c T f st cl = .error e ∧ erK e ∧ am_lp bM F ((1 : Int32), s) = some ((0 : Int32), as_i s2 248 1 0) ∧ MH t s0 e s2) ∨ (∃ x s2, aAll c T f st cl = .ok x ∧ am_lp bM F ((1 : Int32), s) = some ((1 : Int32), as_i s2 248 1 0) ∧ MC c T t s0 x.1 x.2 s2 ∧ aIn n x.1 x.2) := by
  obtain ⟨hT, hnT, hn1, ht, hb⟩ := id E
  intro f
  induction f with
  | zero => intro F st cl s hf _ hi; have := hi.1.1; omega
  | succ f ih =>
    intro F st cl s hf hF hi h
    have hr := hi.1
    have ix := hr.1
    obtain ⟨F, rfl⟩ : ∃ F', F = F' + 1 := ⟨F - 1, by omega⟩
    obtain ⟨v1, v2⟩ := h.1.see E
    have mv : ∀ st2 y, MS c T t s st2 y → MC c T t s0 st2 cl y := fun st2 y g => by
      obtain ⟨p1, p2, p3⟩ := PT_253 (t := t) (g.2.2.2.2.1.mo (fun _ _ z => Or.inl z))
      refine ⟨g.rb, p3.trans h.2.1, by rw [p1]; exact h.2.2.1, fun j hj => ?_, h.2.2.2.2.tr (g.2.2.2.2.1.mo (fun _ _ => PM_N))⟩
      unfold mRow
      rw [p2]
      exact h.2.2.2.1 j hj
    generalize hxe : as_i s 248 8 (nI (tp c T st.1)) = x at *
    have x8 : x.1 248 8 = nI (tp c T st.1) := by rw [← hxe, as_i3]
    rw [aAll]
    by_cases z : bt c T st.1 59
    · rw [if_pos z]
      have lt := bt_lt hn1 ix z
      have m1 := mv _ _ (v2.nb E z plBs.2.2.2.2.2.2.2)
      have r1 : rdy n (nxt st) := ⟨lt, hr.2.1, by show st.2.2.length ≤ st.1 + 1; have := hr.2.2; omega⟩
      have cg := aCla_g hT hnT hn1 r1 cl.length
      have hd : ∀ v s2, f_X12_clauseHere (as_i x 248 8 (nI (tp c T st.1 + 1))) = some (v, s2) → bM ((1 : Int32), s) = some (.inl (v, s2)) := fun v s2 q => by
        show b_X12_readsAll_35 1 s = _
        unfold b_X12_readsAll_35
        rw [am_iff (by decide), v1, am_b2s, am_ift ((seeV_b hb (by decide)).mpr z), x8, nI_1, am_ltd, q, am_b2s]
      rcases m_clause E r1 hi.2.2.1 m1 with ⟨e, s2, q1, q2, q3⟩ | ⟨y, s2, q1, q2, q3⟩
      · rw [q1] at cg
        left
        obtain ⟨F, rfl⟩ : ∃ F', F = F' + 1 := ⟨F - 1, by omega⟩
        refine ⟨e, s2, by rw [q1, rb_e], cg, ?_, q3⟩
        rw [am_lp_inl (hd _ _ q2)]
        refine am_lp_inr ?_
        show b_X12_readsAll_35 0 s2 = _
        unfold b_X12_readsAll_35 j_X12_readsAll_66
        rw [am_ift rfl, am_ift rfl, m_88 q3.1, am_bds, b01_f (erK.ne cg)]
      · rw [q1] at cg
        have ii := hi.nx (st1 := nxt st) rfl cg
        have up : st.1 + 1 + 1 ≤ y.1.1 := cg.2.1
        have key := ih F y.1 (cl ++ [y.2]) s2 (by omega) (by omega) ii q3
        rw [q1, rb_o, am_lp_inl (hd _ _ q2)]
        exact key
    · rw [if_neg z]
      have hd : bM ((1 : Int32), s) = am_bd (j_X12_readsAll_66 1 x) (fun e26 => some (Sum.inr e26)) := by
        show b_X12_readsAll_35 1 s = _
        unfold b_X12_readsAll_35
        rw [am_iff (by decide), v1, am_b2s, am_iff (fun y => z ((seeV_b hb (by decide)).mp y))]
      have sx := v2.se E x8
      by_cases k0 : kd c T st.1 = 0
      · rw [if_pos k0]
        right
        refine ⟨_, x, rfl, am_lp_inr ?_, mv _ _ v2, hi⟩
        rw [hd]
        unfold j_X12_readsAll_66
        rw [am_iff (by decide), sx, am_b2s, am_ift ((seeV_e hb).mpr (KD_0.mp k0)), m_88 v2.2.1, am_bds, b01_t rfl]
      · rw [if_neg k0]
        left
        obtain ⟨f1, f2⟩ := v2.fl st.1 0
        have f1' : f_X12_fails (0 : Int32) (nI (tp c T st.1)) x = _ := f1
        refine ⟨_, _, rfl, fauK hT _ (by decide), am_lp_inr ?_, f2.1, h.2.2.2.2.tr (f2.2.mo (fun _ _ => PM_N))⟩
        rw [hd]
        unfold j_X12_readsAll_66
        rw [am_iff (by decide), sx, am_b2s, am_iff (fun y => k0 (KD_0.mpr ((seeV_e hb).mp y))), x8, f1', am_b2s, m_88 f2.1, am_bds, b01_f (erK.ne (fauK hT _ (by decide)))]
end ML2
/-- what a rule that is read changes -/
def QR (rn b j : Nat) : Prop := (b = 0 ∧ (j = 1 ∨ j = 5)) ∨ b = 2 ∨ b = 3 ∨ b = 4 ∨ b = 5 ∨ b = 247 ∨ (144 + 7 * rn ≤ b ∧ b ≤ 150 + 7 * rn) ∨ (b = 248 ∧ (j = 1 ∨ j = 2 ∨ (8 ≤ j ∧ j ≤ 16))) ∨ (b = 250 ∧ 400 * rn ≤ j) ∨ b = 251 ∨ (b = 252 ∧ 60 * rn ≤ j) ∨ (b = 253 ∧ j = rn) ∨ b = 255
theorem sitR_rn {k rn : Nat} {m : Nat → Int32} {ch x : Int32} {t0 t2 t3 t4 t5 t6 t7 l0 l1 l2 l3 l4 q0 q1 : Nat → Int32} {r2 : Nat} (hr : rn ≤ r2) (h : sitR k rn m ch x t0 t2 t3 t4 t5 t6 t7 l0 l1 l2 l3 l4 q0 q1) : sitR k r2 m ch x t0 t2 t3 t4 t5 t6 t7 l0 l1 l2 l3 l4 q0 q1 := by
  obtain ⟨h1, h2, h3, h4, h5, h6, h7, h8⟩ := h
  exact ⟨h1, h2, h3, h4, h5, h6, h7.imp id (fun ⟨r, z1, z2⟩ => ⟨r, by omega, z2⟩), h8⟩
theorem InvR_new {k rn r2 : Nat} {s s2 : am_S} (h : InvR k rn s) (hrn : rn < 6) (g : ∀ b j, ¬ QR rn b j → s2.1 b j = s.1 b j) (g2 : s2.2.2.1 = s.2.2.1) (g3 : s2.2.2.2 ∈ am_isR) (t1 : s2.1 0 1 = 0) (t2 : s2.1 248 1 = 0) (hr : r2 = rn ∨ (r2 = rn + 1 ∧ pRule rn s2)) (n1 : s2.1 0 5 = nI r2) (n2 : s2.1 248 2 = nI r2) : InvR k r2 s2 := by
  obtain ⟨h1, h2, h3, h4, h5, h6, h7, h8, h9⟩ := h
  have rw_ : ∀ b, (∀ j, ¬ QR rn b j) → s2.1 b = s.1 b := fun b hb => funext fun j => g b j (hb j)
  have le : rn ≤ r2 := by rcases hr with z | z <;> omega
  refine ⟨by rcases hr with z | z <;> omega, n1, n2, fun r hr2 => ?_, ⟨0, by decide, t1, t2, fun j hj => by omega⟩, ?_, fun i hi => ?_, ?_, ⟨by rw [g2]; exact h9.1, g3⟩⟩
  · by_cases z : r = rn
    · rcases hr with y | y
      · omega
      · rw [z]; exact y.2
    · have hr3 : r < rn := by rcases hr with y | y <;> omega
      obtain ⟨n, sz, D, V, K, b1, b2, b3, a1, a2, a3⟩ := h4 r hr3
      refine ⟨n, sz, D, V, K, b1, b2, b3, a1, ?_, ?_⟩
      · rw [rw_ (144 + 7 * r) (by unfold QR; intro j; omega), rw_ (145 + 7 * r) (by unfold QR; intro j; omega), rw_ (146 + 7 * r) (by unfold QR; intro j; omega), rw_ (147 + 7 * r) (by unfold QR; intro j; omega), rw_ (148 + 7 * r) (by unfold QR; intro j; omega), rw_ (149 + 7 * r) (by unfold QR; intro j; omega), rw_ (150 + 7 * r) (by unfold QR; intro j; omega)]
        exact a2
      · obtain ⟨c1, c2, c3⟩ := a3
        have sz4 := a1.2.1
        have n12 := a1.1
        refine ⟨by rw [g 253 r (by unfold QR; omega)]; exact c1, fun i hi => by rw [g 250 _ (by unfold QR; omega)]; exact c2 i hi, fun q hq => ?_⟩
        rw [g 252 _ (by unfold QR; omega), g 252 _ (by unfold QR; omega), g 252 _ (by unfold QR; omega), g 252 _ (by unfold QR; omega), g 252 _ (by unfold QR; omega)]
        exact c3 q hq
  · have h6' := sitR_rn le h6
    unfold pNow
    rw [rw_ 258 (by unfold QR; intro j; omega), rw_ 16 (by unfold QR; intro j; omega), rw_ 18 (by unfold QR; intro j; omega), rw_ 19 (by unfold QR; intro j; omega), rw_ 20 (by unfold QR; intro j; omega), rw_ 21 (by unfold QR; intro j; omega), rw_ 22 (by unfold QR; intro j; omega), rw_ 23 (by unfold QR; intro j; omega), rw_ 24 (by unfold QR; intro j; omega), rw_ 25 (by unfold QR; intro j; omega), rw_ 26 (by unfold QR; intro j; omega), rw_ 27 (by unfold QR; intro j; omega), rw_ 28 (by unfold QR; intro j; omega), rw_ 15 (by unfold QR; intro j; omega), rw_ 29 (by unfold QR; intro j; omega), g 248 21 (by unfold QR; omega), g 248 22 (by unfold QR; omega)]
    exact h6'
  · have h7 := h7 i hi
    rw [rw_ 31 (by unfold QR; intro j; omega), rw_ 265 (by unfold QR; intro j; omega), rw_ 262 (by unfold QR; intro j; omega), rw_ 263 (by unfold QR; intro j; omega), rw_ 264 (by unfold QR; intro j; omega), rw_ (187 + 15 * i) (by unfold QR; intro j; omega), rw_ (189 + 15 * i) (by unfold QR; intro j; omega), rw_ (190 + 15 * i) (by unfold QR; intro j; omega), rw_ (191 + 15 * i) (by unfold QR; intro j; omega), rw_ (192 + 15 * i) (by unfold QR; intro j; omega), rw_ (193 + 15 * i) (by unfold QR; intro j; omega), rw_ (194 + 15 * i) (by unfold QR; intro j; omega), rw_ (195 + 15 * i) (by unfold QR; intro j; omega), rw_ (196 + 15 * i) (by unfold QR; intro j; omega), rw_ (197 + 15 * i) (by unfold QR; intro j; omega), rw_ (198 + 15 * i) (by unfold QR; intro j; omega), rw_ (199 + 15 * i) (by unfold QR; intro j; omega), rw_ (186 + 15 * i) (by unfold QR; intro j; omega), rw_ (200 + 15 * i) (by unfold QR; intro j; omega)]
    exact ⟨h7.1, h7.2.1, fun z => sitR_rn le (h7.2.2 z)⟩
  · exact pActs_of h8 (fun b hb => rw_ b (by unfold QR; intro j; omega)) (g 248 25 (by unfold QR; omega))
