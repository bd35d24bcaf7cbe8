/-! the class reads clauses of a rule -/
def PA (a b j : Nat) : Prop := PC a b j ∨ (b = a ∧ (j = 8 ∨ j = 9)) ∨ b = a + 3 ∨ b = a + 4 ∨ b = a + 5 ∨ b = a + 6
def cRow (a j : Nat) (r : CLA) (s : am_S) : Prop := s.1 (a + 3) j = nI (1 - r.1) ∧ s.1 (a + 4) j = nI r.2.1 ∧ s.1 (a + 5) j = nI r.2.2.1 ∧ s.1 (a + 6) j = nI r.2.2.2
def anyL (cl : List CLA) : Bool := cl.any (fun r => decide (r.1 = 0))
def c0 : CLA := (0, 0, 0, 0)
def cRows (a : Nat) (cl : List CLA) (s : am_S) : Prop := s.1 a 8 = nI cl.length ∧ s.1 a 9 = b01 (anyL cl = true) ∧ ∀ j, j < cl.length → cRow a j (cl.getD j c0) s
theorem getD_sC {l : List CLA} {e : CLA} {j : Nat} (h : j < l.length + 1) : (l ++ [e]).getD j c0 = if j = l.length then e else l.getD j c0 := by
  rw [List.getD_eq_getElem?_getD, List.getD_eq_getElem?_getD]
  by_cases h1 : j = l.length
  · rw [if_pos h1, h1, List.getElem?_append_right (Nat.le_refl _), Nat.sub_self]
    rfl
  · rw [if_neg h1, List.getElem?_append_left (by omega)]
section CC
variable {c : Nat → Int32} {T n a : Nat} {s0 : am_S}
theorem CS.rb {st : PS} {s : am_S} (h : CS c T n a s0 st s) : CS c T n a s st s := ⟨h.1, h.2.1, h.2.2.1, h.2.2.2.1, frm.rf _ _, h.2.2.2.2.2⟩
def CR (c : Nat → Int32) (T n a : Nat) (s0 : am_S) (st : PS) (cl : List CLA) (s : am_S) : Prop := CS c T n a s st s ∧ cRows a cl s ∧ frm (PA a) s0 s
theorem c_addClause {s : am_S} {k m : Nat} {p3 p4 : Int32} (ha : a ∈ am_isR) (hk : k ≤ 1) (h8 : s.1 a 8 = nI m) (hm : m < 12) : ∃ s2, f_X3_addClause a (nI k) p3 p4 s = some s2 ∧ s2.1 a 9 = (if s.1 a 9 = 0 then nI k else 1) ∧ s2.1 a 8 = nI (m + 1) ∧ s2.1 (a + 3) m = nI k ∧ s2.1 (a + 4) m = p3 ∧ s2.1 (a + 5) m = p4 ∧ s2.1 (a + 6) m = s.1 a 3 ∧ (∀ b j, (b = a → j ≠ 8 ∧ j ≠ 9) → ((b = a + 3 ∨ b = a + 4 ∨ b = a + 5 ∨ b = a + 6) → j ≠ m) → s2.1 b j = s.1 b j) ∧ s2.2 = s.2 := by
  have r := isR_r a ha
  have hnar : vp_nar .boolean (nI k) = nI k := by
    have : k = 0 ∨ k = 1 := by omega
    rcases this with rfl | rfl <;> decide
  have x1 : (as_i s (a + 3) m (nI k)).1 a 8 = nI m := by rw [as_i1 (by omega)]; exact h8
  have x2 : (as_i (as_i s (a + 3) m (nI k)) (a + 4) m p3).1 a 8 = nI m := by rw [as_i1 (by omega)]; exact x1
  have x3 : (as_i (as_i (as_i s (a + 3) m (nI k)) (a + 4) m p3) (a + 5) m p4).1 a 8 = nI m := by rw [as_i1 (by omega)]; exact x2
  have y3 : (as_i (as_i (as_i s (a + 3) m (nI k)) (a + 4) m p3) (a + 5) m p4).1 a 3 = s.1 a 3 := by rw [as_i1 (by omega), as_i1 (by omega), as_i1 (by omega)]
  have x4 : (as_i (as_i (as_i (as_i s (a + 3) m (nI k)) (a + 4) m p3) (a + 5) m p4) (a + 6) m (s.1 a 3)).1 a 8 = nI m := by rw [as_i1 (by omega)]; exact x3
  generalize hs4 : as_i (as_i (as_i (as_i s (a + 3) m (nI k)) (a + 4) m p3) (a + 5) m p4) (a + 6) m (s.1 a 3) = s4 at x4
  have s49 : (as_i s4 a 8 (nI (m + 1))).1 a 9 = s.1 a 9 := by rw [as_i2 (by decide), ← hs4, as_i1 (by omega), as_i1 (by omega), as_i1 (by omega), as_i1 (by omega)]
  have hd : f_X3_addClause a (nI k) p3 p4 s = some (as_i (as_i s4 a 8 (nI (m + 1))) a 9 (if s.1 a 9 = 0 then nI k else 1)) := by
    unfold f_X3_addClause
    rw [am_gdt ha, h8, am_iff (nI_ge hm (by decide)), gd_nI hm (by decide), cL (by omega), hnar, am_ltd, x1, gd_nI hm (by decide), cL (by omega), am_ltd, x2, gd_nI hm (by decide), cL (by omega), am_ltd, x3, gd_nI hm (by decide), cL (by omega), y3, am_ltd, hs4, x4, nI_1, am_ltd, s49]
    by_cases z : s.1 a 9 = 0
    · rw [am_ift z, if_pos z]
      by_cases y : nI k = 0
      · rw [am_ift y, am_ltd, y]
      · rw [am_iff y, am_ltd]
        have : k = 1 := by
          have : k = 0 ∨ k = 1 := by omega
          rcases this with rfl | rfl
          · exact absurd rfl y
          · rfl
        rw [this]
        rfl
    · rw [am_iff z, if_neg z, am_ltd]
  refine ⟨_, hd, as_i3, ?_, ?_, ?_, ?_, ?_, fun b j hb1 hb2 => ?_, ?_⟩
  · rw [as_i2 (by decide), as_i3]
  · rw [as_i1 (by omega), as_i1 (by omega), ← hs4, as_i1 (by omega), as_i1 (by omega), as_i1 (by omega), as_i3]
  · rw [as_i1 (by omega), as_i1 (by omega), ← hs4, as_i1 (by omega), as_i1 (by omega), as_i3]
  · rw [as_i1 (by omega), as_i1 (by omega), ← hs4, as_i1 (by omega), as_i3]
  · rw [as_i1 (by omega), as_i1 (by omega), ← hs4, as_i3]
  · rw [rd_i, if_neg (fun z => (hb1 z.1).2 z.2), rd_i, if_neg (fun z => (hb1 z.1).1 z.2), ← hs4, rd_i, if_neg (fun z => hb2 (by omega) z.2), rd_i, if_neg (fun z => hb2 (by omega) z.2), rd_i, if_neg (fun z => hb2 (by omega) z.2), rd_i, if_neg (fun z => hb2 (by omega) z.2)]
  · rw [← hs4]
    rfl
theorem anyL_sn (cl : List CLA) (r : CLA) : anyL (cl ++ [r]) = (anyL cl || decide (r.1 = 0)) := by
  unfold anyL
  rw [List.any_append]
  simp
/-- the clause is kept -/
theorem c_kept {st st2 : PS} {cl : List CLA} {s s5 : am_S} (ha : a ∈ am_isR) (h : CR c T n a s0 st cl s) (hc : cl.length < 12) (g : CS c T n a s st2 s5) (k b1 b2 : Nat) (hk : k ≤ 1) : ∃ s2, f_X3_addClause a (nI (1 - k)) (nI b1) (nI b2) s5 = some s2 ∧ CR c T n a s0 st2 (cl ++ [(k, b1, b2, st2.2.2.length)]) s2 := by
  have r := isR_r a ha
  obtain ⟨h1, ⟨h2, h3, h4⟩, h5⟩ := h
  have fp := g.2.2.2.2.1
  have o8 : s5.1 a 8 = nI cl.length := by rw [fp.1 a 8 (by unfold PC P2; omega)]; exact h2
  have o9 : s5.1 a 9 = b01 (anyL cl = true) := by rw [fp.1 a 9 (by unfold PC P2; omega)]; exact h3
  have orow : ∀ b j, (b = a + 3 ∨ b = a + 4 ∨ b = a + 5 ∨ b = a + 6) → s5.1 b j = s.1 b j := fun b j hb => fp.1 b j (by unfold PC P2; omega)
  obtain ⟨s2, q0, q9, q8, q3, q4, q5, q6, q7, qs⟩ := c_addClause (p3 := nI b1) (p4 := nI b2) (k := 1 - k) ha (by omega) o8 hc
  have f2 : frm (PA a) s5 s2 := ⟨fun b j hp => q7 b j (fun z => by
    constructor
    · intro y; exact hp (Or.inr (Or.inl ⟨z, Or.inl y⟩))
    · intro y; exact hp (Or.inr (Or.inl ⟨z, Or.inr y⟩))) (fun z => by
    intro y
    exact hp (Or.inr (Or.inr z))), qs⟩
  refine ⟨s2, q0, ?_, ⟨?_, ?_, fun j hj => ?_⟩, (h5.tr (fp.mo (fun _ _ z => Or.inl z))).tr f2⟩
  · obtain ⟨k1, k2, k3, k4, k5, k6⟩ := g
    have e : ∀ b j, b ≠ a → b ≠ a + 3 → b ≠ a + 4 → b ≠ a + 5 → b ≠ a + 6 → s2.1 b j = s5.1 b j := fun b j z1 z2 z3 z4 z5 => q7 b j (fun y => absurd y z1) (fun y => by omega)
    refine ⟨(e 2 4 (by omega) (by omega) (by omega) (by omega) (by omega)).trans k1, (e 2 5 (by omega) (by omega) (by omega) (by omega) (by omega)).trans k2, (e 247 2 (by omega) (by omega) (by omega) (by omega) (by omega)).trans k3, k4.mv (q7 a 3 (by omega) (by omega)) (funext fun j => e (a + 1) j (by omega) (by omega) (by omega) (by omega) (by omega)) (funext fun j => e (a + 2) j (by omega) (by omega) (by omega) (by omega) (by omega)), frm.rf _ _, ?_⟩
    refine ⟨(e 2 3 (by omega) (by omega) (by omega) (by omega) (by omega)).trans k6.1, fun i hi => ?_⟩
    rw [e 3 i (by omega) (by omega) (by omega) (by omega) (by omega), e 4 i (by omega) (by omega) (by omega) (by omega) (by omega), e 5 i (by omega) (by omega) (by omega) (by omega) (by omega)]
    exact k6.2 i hi
  · rw [q8, List.length_append]
    rfl
  · rw [q9, o9, anyL_sn]
    have : k = 0 ∨ k = 1 := by omega
    cases hA : anyL cl with
    | true =>
      rw [b01_t rfl, if_neg (by decide)]
      exact (b01_t rfl).symm
    | false =>
      rw [b01_f (by decide), if_pos rfl]
      rcases this with rfl | rfl
      · rfl
      · rfl
  · rw [List.length_append] at hj
    have hj2 : j < cl.length + 1 := hj
    rw [getD_sC hj2]
    by_cases z : j = cl.length
    · rw [if_pos z, z]
      refine ⟨q3, q4, q5, ?_⟩
      rw [q6]
      exact g.2.2.2.1.1
    · rw [if_neg z]
      obtain ⟨w1, w2, w3, w4⟩ := h4 j (by omega)
      refine ⟨?_, ?_, ?_, ?_⟩
      · rw [q7 _ _ (by omega) (by omega), orow _ _ (by omega)]; exact w1
      · rw [q7 _ _ (by omega) (by omega), orow _ _ (by omega)]; exact w2
      · rw [q7 _ _ (by omega) (by omega), orow _ _ (by omega)]; exact w3
      · rw [q7 _ _ (by omega) (by omega), orow _ _ (by omega)]; exact w4
theorem c_125F {e : Nat} {s s5 : am_S} (he : erK e) (g : CF c T n a s e s5) (v2 v3 v4 : Int32) : j_X4_readClause_125 v2 v3 v4 s5 = some s5 := by
  unfold j_X4_readClause_125
  rw [c_fine, am_bds, am_b0 (g.ne he)]
theorem c_125 {st st2 : PS} {cl : List CLA} {s s5 : am_S} (ha : a ∈ am_isR) (hq : s.2.2.2 = a) (h : CR c T n a s0 st cl s) (hc : cl.length < 12) (g : CS c T n a s st2 s5) (w k b1 b2 : Nat) (hw : (w = 8 ∧ k = 0) ∨ (w = 9 ∧ k = 1)) : ∃ s2, j_X4_readClause_125 (nI w) (nI b1) (nI b2) s5 = some s2 ∧ CR c T n a s0 st2 (cl ++ [(k, b1, b2, st2.2.2.length)]) s2 := by
  obtain ⟨s2, r1, r2⟩ := c_kept ha h hc g k b1 b2 (by omega)
  refine ⟨s2, ?_, r2⟩
  unfold j_X4_readClause_125
  rw [c_fine, am_bds, am_b1 g.2.1, am_ltd, g.rf hq, am_gdt ha]
  rcases hw with ⟨rfl, rfl⟩ | ⟨rfl, rfl⟩
  · rw [am_ift rfl]
    have r1' : f_X3_addClause a (1 : Int32) (nI b1) (nI b2) s5 = some s2 := r1
    rw [r1', am_bds]
  · rw [am_iff (by decide)]
    have r1' : f_X3_addClause a (0 : Int32) (nI b1) (nI b2) s5 = some s2 := r1
    rw [r1', am_bds]
theorem c_clause {st : PS} {cl : List CLA} {s : am_S} (hT : T ≤ 400) (hnT : n ≤ T) (hn1 : tp c T n = T) (ha : a ∈ am_isR) (hq : s.2.2.2 = a) (hr : rdy n st) (hc : cl.length ≤ 12) (h : CR c T n a s0 st cl s) : (∃ e s2, aCla c T cl.length st = .error e ∧ f_X4_readClause (nI cl.length) s = some s2 ∧ CF c T n a s e s2) ∨ (∃ x s2, aCla c T cl.length st = .ok x ∧ f_X4_readClause (nI cl.length) s = some s2 ∧ CR c T n a s0 x.1 (cl ++ [x.2]) s2) := by
  have E : EN c T n a s := ⟨hT, hnT, hn1, ha, hq⟩
  have hcs := h.1
  have wh := c_wordHere hcs.2.2.2.2.2 (by omega) hcs.1 hr.1
  have l4 : st.2.2.length ≤ 400 := by have := hr.2.2; have := hr.1; omega
  have rd1 : st.1 < n → rdy n (nxt st) := fun lt => ⟨lt, hr.2.1, by show st.2.2.length ≤ st.1 + 1; have := hr.2.2; omega⟩
  have f29 : ∀ v, ¬ cl.length < 12 → ∃ s2, j_X4_readClause_29 (nI cl.length) v s = some s2 ∧ CF c T n a s (fau c T st.1 4) s2 := fun v hc2 => by
    obtain ⟨s2, r1, r2⟩ := hcs.fl ha (by omega) hr.1 l4 4
    refine ⟨s2, ?_, r2⟩
    unfold j_X4_readClause_29
    rw [am_iff (by rw [nI_ltI (by omega) (by decide)]; exact hc2), r1, am_bds]
  unfold f_X4_readClause aCla
  rw [wh, am_bds]
  by_cases w8 : wo c T st.1 = 8
  · rw [if_pos w8, am_ift ((wnI_eq (by decide)).mpr w8), (wnI_eq (by decide)).mpr w8]
    by_cases hc2 : cl.length < 12
    · rw [if_pos hc2]
      have lt := wo_lt hn1 hr.1 (show wo c T st.1 < 24 by omega)
      have r1 := rd1 lt
      have g1 : CS c T n a s (nxt st) (as_i s 2 4 (nI (st.1 + 1))) := hcs.stp ha (st.1 + 1)
      have V := c_top E r1 g1
      have vg := aTop_g hT hnT hn1 (st := nxt st) r1.1 r1.2.1
      have len : (as_i s 2 4 (nI (st.1 + 1))).1 a 3 = nI st.2.2.length := g1.2.2.2.1.1
      have body : j_X4_readClause_29 (nI cl.length) (nI 8) s = am_bd (f_X4_rT (0 : Int32) (as_i s 2 4 (nI (st.1 + 1)))) (fun s23 => j_X4_readClause_125 (nI 8) (nI st.2.2.length) (nI st.2.2.length) s23) := by
        unfold j_X4_readClause_29 j_X4_readClause_69
        rw [am_ift (nI_lt hc2 (by decide)), tk_step hcs.2.2.2.2.2 (by omega) hcs.1 lt, am_bds, am_ltd, g1.rf hq, am_gdt ha, len, am_ltd, am_iff (by decide), am_ltd, am_gdt ha, len, am_ltd, am_ift rfl]
      rw [body]
      cases hv : aTop c T (nxt st) with
      | error e =>
        rw [hv] at V vg
        obtain ⟨s2, q1, q2⟩ := V
        left
        exact ⟨e, s2, rfl, by rw [q1, am_bds, c_125F vg q2], q2⟩
      | ok st2 =>
        rw [hv] at V vg
        obtain ⟨s2, q1, q2⟩ := V
        right
        obtain ⟨s3, p1, p2⟩ := c_125 ha hq h hc2 q2 8 0 st.2.2.length st.2.2.length (Or.inl ⟨rfl, rfl⟩)
        exact ⟨_, s3, rfl, by rw [q1, am_bds, p1], p2⟩
    · rw [if_neg hc2]
      obtain ⟨s2, r1, r2⟩ := f29 (nI 8) hc2
      exact Or.inl ⟨_, s2, rfl, r1, r2⟩
  · rw [if_neg w8, am_iff (fun z => w8 ((wnI_eq (by decide)).mp z))]
    by_cases w9 : wo c T st.1 = 9
    · rw [if_pos w9, am_ift ((wnI_eq (by decide)).mpr w9), (wnI_eq (by decide)).mpr w9]
      by_cases hc2 : cl.length < 12
      · rw [if_pos hc2]
        have lt := wo_lt hn1 hr.1 (show wo c T st.1 < 24 by omega)
        have r1 := rd1 lt
        have g1 : CS c T n a s (nxt st) (as_i s 2 4 (nI (st.1 + 1))) := hcs.stp ha (st.1 + 1)
        have V := c_readSum E r1 g1
        have vg := aSum_g hT hnT hn1 (st := nxt st) r1.1 r1.2.1
        have len : (as_i s 2 4 (nI (st.1 + 1))).1 a 3 = nI st.2.2.length := g1.2.2.2.1.1
        have body : j_X4_readClause_29 (nI cl.length) (nI 9) s = am_bd (f_X4_readSum (as_i s 2 4 (nI (st.1 + 1)))) (fun s30 => j_X4_readClause_69 (nI 9) (nI st.2.2.length) s30) := by
          unfold j_X4_readClause_29
          rw [am_ift (nI_lt hc2 (by decide)), tk_step hcs.2.2.2.2.2 (by omega) hcs.1 lt, am_bds, am_ltd, g1.rf hq, am_gdt ha, len, am_ltd, am_ift rfl]
        rw [body]
        cases hv : aSum c T (nxt st) with
        | error e =>
          rw [hv] at V vg
          obtain ⟨s2, q1, q2⟩ := V
          left
          refine ⟨e, s2, rfl, ?_, q2⟩
          rw [q1, am_bds]
          unfold j_X4_readClause_69
          rw [am_ltd, q2.rf hq, am_gdt ha, am_ltd, am_iff (by decide), c_fine, am_bds, am_b0 (q2.ne vg), c_125F vg q2]
        | ok st2 =>
          rw [hv] at V vg
          obtain ⟨s2, q1, q2⟩ := V
          have g2 : gs n [false] 0 (nxt st) st2 := vg
          have r2 := g2.rd r1
          have len2 : s2.1 a 3 = nI st2.2.2.length := q2.2.2.2.1.1
          have wh2 := c_wordHere q2.2.2.2.2.2 (by omega) q2.1 r2.1
          rw [q1, am_bds, rb_o]
          unfold j_X4_readClause_69
          rw [am_ltd, q2.rf hq, am_gdt ha, len2, am_ltd, am_iff (by decide), c_fine, am_bds, am_b1 q2.2.1, wh2, am_bds]
          by_cases w4 : wo c T st2.1 = 4
          · rw [if_pos w4, am_ift ((wnI_eq (by decide)).mpr w4)]
            have lt2 := wo_lt hn1 r2.1 (show wo c T st2.1 < 24 by omega)
            have r3 : rdy n (nxt st2) := ⟨lt2, r2.2.1, by show st2.2.2.length ≤ st2.1 + 1; have := r2.2.2; omega⟩
            have g3 : CS c T n a s (nxt st2) (as_i s2 2 4 (nI (st2.1 + 1))) := q2.stp ha (st2.1 + 1)
            have W := c_top E r3 g3
            have wg := aTop_g hT hnT hn1 (st := nxt st2) r3.1 r3.2.1
            rw [tk_step q2.2.2.2.2.2 (by omega) q2.1 lt2, am_bds]
            cases hw : aTop c T (nxt st2) with
            | error e =>
              rw [hw] at W wg
              obtain ⟨s3, p1, p2⟩ := W
              left
              exact ⟨e, s3, rfl, by rw [p1, am_bds, c_125F wg p2], p2⟩
            | ok st3 =>
              rw [hw] at W wg
              obtain ⟨s3, p1, p2⟩ := W
              right
              obtain ⟨s4, o1, o2⟩ := c_125 ha hq h hc2 p2 9 1 st.2.2.length st2.2.2.length (Or.inr ⟨rfl, rfl⟩)
              exact ⟨_, s4, rfl, by rw [p1, am_bds, o1], o2⟩
          · rw [if_neg w4, am_iff (fun z => w4 ((wnI_eq (by decide)).mp z))]
            right
            obtain ⟨s4, o1, o2⟩ := c_125 ha hq h hc2 q2 9 1 st.2.2.length st2.2.2.length (Or.inr ⟨rfl, rfl⟩)
            exact ⟨_, s4, rfl, o1, o2⟩
      · rw [if_neg hc2]
        obtain ⟨s2, r1, r2⟩ := f29 (nI 9) hc2
        exact Or.inl ⟨_, s2, rfl, r1, r2⟩
    · rw [if_neg w9, am_iff (fun z => w9 ((wnI_eq (by decide)).mp z))]
      obtain ⟨s2, r1, r2⟩ := hcs.fl ha (by omega) hr.1 l4 0
      have r1' : f_X7_fail (0 : Int32) s = some s2 := r1
      left
      exact ⟨_, s2, rfl, by rw [r1', am_bds], r2⟩
end CC
