/-! the reference reads comparisons; its stack -/
section MQ
variable {c : Nat → Int32} {T n t : Nat} {s0 : am_S}
theorem MS.rb {st : PS} {s : am_S} (h : MS c T t s0 st s) : MS c T t s st s := ⟨h.1, h.2.1, h.2.2.1, h.2.2.2.1, frm.rf _ _, h.2.2.2.2.2⟩
theorem m_44 {st : PS} {x : am_S} (E : EM c T n t) (h : MS c T t s0 st x) (h8 : x.1 248 8 = nI (tp c T st.1)) (k4 : kd c T st.1 = 4) : ∃ y v, MS c T t s0 (nxt st) y ∧ j_X12_compare_44 (seeV c T (tp c T st.1)) (nI (tp c T st.1)) x = j_X12_compare_105 (c (tp c T st.1)) (nI (tp c T st.1)) v y ∧ ((en c T (tp c T st.1) = tp c T st.1 + 1 ∧ v = 0) ∨ (¬ en c T (tp c T st.1) = tp c T st.1 + 1 ∧ ¬ v = 0)) := by
  obtain ⟨hT, hnT, hn1, ht, hb⟩ := id E
  obtain ⟨hp, hs⟩ := KD_4.mp k4
  have hpl : LE (c (tp c T st.1)) = false ∧ DI (c (tp c T st.1)) = false ∧ seeV c T (tp c T st.1) = c (tp c T st.1) := by
    simp only [isSg, decide_eq_true_eq] at hs
    have sv : ∀ b, b < 128 → c (tp c T st.1) = nI b → seeV c T (tp c T st.1) = c (tp c T st.1) := fun b hb2 z => by rw [z]; exact (seeV_b hb hb2).mpr ⟨hp, z⟩
    rcases hs with z | z | z
    · exact ⟨by rw [z]; exact LE_nI (by decide) (by decide), by rw [z]; exact DI_nI (by decide) (by decide), sv 60 (by decide) z⟩
    · exact ⟨by rw [z]; exact LE_nI (by decide) (by decide), by rw [z]; exact DI_nI (by decide) (by decide), sv 61 (by decide) z⟩
    · exact ⟨by rw [z]; exact LE_nI (by decide) (by decide), by rw [z]; exact DI_nI (by decide) (by decide), sv 62 (by decide) z⟩
  have eo := en_oth hT hp hpl.1 hpl.2.1
  rw [hpl.2.2]
  have m1 : ∀ r, en c T (tp c T st.1) = r → MS c T t s0 (nxt st) (as_i x 248 8 (nI r)) := fun r hr => by
    refine h.pl (st.1 + 1) r (by rw [← hr]; exact en_le hp) ?_
    rw [← hr]
    exact tp_nx hp
  unfold j_X12_compare_44
  rw [h8, nI_1, am_ltd]
  have z8 : (as_i x 248 8 (nI (tp c T st.1 + 1))).1 248 8 = nI (tp c T st.1 + 1) := as_i3
  have z1 : (as_i x 248 8 (nI (tp c T st.1 + 1))).1 248 1 = nI T := by rw [as_i2 (by decide)]; exact h.2.2.2.2.2.1.1
  have zt : ∀ j, j < T → (as_i x 248 8 (nI (tp c T st.1 + 1))).1 249 j = c j := fun j hj => by rw [as_i1 (by decide)]; exact h.2.2.2.2.2.1.2 j hj
  by_cases e61 : c (tp c T st.1) = nI 61
  · have e1 : en c T (tp c T st.1) = tp c T st.1 + 1 := by
      rw [eo, if_neg]
      rintro ⟨_, _, z⟩
      rw [e61] at z
      exact absurd z (by decide)
    refine ⟨_, 0, m1 _ e1, ?_, Or.inl ⟨e1, rfl⟩⟩
    rw [am_ift e61]
    unfold j_X12_compare_90
    rw [am_ift rfl]
  · have hc : c (tp c T st.1) = nI 60 ∨ c (tp c T st.1) = nI 62 := by
      simp only [isSg, decide_eq_true_eq] at hs
      rcases hs with z | z | z
      · exact Or.inl z
      · exact absurd z e61
      · exact Or.inr z
    rw [am_iff e61, z8, z1]
    by_cases l1 : tp c T st.1 + 1 < T
    · rw [am_iff (nI_ge l1 (by omega)), am_ltd, gd_nI (by omega) (by decide), cL (by omega), zt _ l1]
      by_cases n61 : c (tp c T st.1 + 1) = nI 61
      · have e2 : en c T (tp c T st.1) = tp c T st.1 + 2 := by rw [eo, if_pos ⟨l1, n61, hc⟩]
        refine ⟨_, 1, m1 _ e2, ?_, Or.inr ⟨by omega, by decide⟩⟩
        rw [am_ift n61]
        unfold j_X12_compare_90
        rw [am_iff (by decide), am_ltd, z8, nI_1, as_ii]
      · have e1 : en c T (tp c T st.1) = tp c T st.1 + 1 := by rw [eo, if_neg (fun z => n61 z.2.1)]
        refine ⟨_, 0, m1 _ e1, ?_, Or.inl ⟨e1, rfl⟩⟩
        rw [am_iff n61]
        unfold j_X12_compare_90
        rw [am_ift rfl]
    · have e1 : en c T (tp c T st.1) = tp c T st.1 + 1 := by rw [eo, if_neg (fun z => l1 z.1)]
      refine ⟨_, 0, m1 _ e1, ?_, Or.inl ⟨e1, rfl⟩⟩
      rw [am_ift (nI_le (by omega) (by omega))]
      unfold j_X12_compare_90
      rw [am_ift rfl]
theorem m_152 {st st1 : PS} {y : am_S} (E : EM c T n t) (hr : rdy n st1) (h : MS c T t s0 st1 y) (d v : Nat) (hd : 6 + v = opM d 0) (hl : ∀ s3, aSum c T st1 = .ok s3 → s3.2.2.length < 400) : MO c T t s0 (rb (aSum c T st1) (fun s3 => .ok (emi d 0 s3))) (j_X12_compare_152 (nI v) y) := by
  have V := m_sum E hr h
  unfold j_X12_compare_152
  cases hv : aSum c T st1 with
  | error e =>
    rw [hv] at V
    obtain ⟨s2, q1, q2⟩ := V
    rw [rb_e, q1, am_b2s, am_ift rfl]
    exact ⟨s2, rfl, q2⟩
  | ok st3 =>
    rw [hv] at V
    obtain ⟨s2, q1, q2⟩ := V
    obtain ⟨s3, q3, q4, _⟩ := q2.pt E (hl st3 hv) d 0 (x := opM d 0) (y := 0) rfl
    have q3' : f_X12_puts (nI (opM d 0)) (0 : Int32) s2 = some s3 := q3
    rw [rb_o, q1, am_b2s, am_iff (by decide), nI_add, hd, q3', am_bds]
    exact ⟨s3, rfl, q4⟩
theorem m_cmp {st : PS} {s : am_S} (E : EM c T n t) (hr : rdy n st) (h : MS c T t s0 st s) : MO c T t s0 (aCmp c T st) (f_X12_compare s) := by
  obtain ⟨hT, hnT, hn1, ht, hb⟩ := id E
  have V := m_sum E hr h
  have vg := aSum_g hT hnT hn1 (st := st) hr.1 hr.2.1
  unfold aCmp f_X12_compare
  cases hv : aSum c T st with
  | error e =>
    rw [hv] at V
    obtain ⟨s2, q1, q2⟩ := V
    rw [rb_e, q1, am_b2s, am_ift rfl]
    exact ⟨s2, rfl, q2⟩
  | ok st1 =>
    rw [hv] at V vg
    obtain ⟨s1, q1, q2⟩ := V
    have g1 : gs n [false] 0 st st1 := vg
    rw [rb_o, q1, am_b2s, am_iff (by decide)]
    obtain ⟨v1, v2⟩ := q2.see E
    rw [v1, am_b2s, am_ltd, as_i3]
    generalize hx : as_i s1 248 8 (nI (tp c T st1.1)) = x at *
    have x8 : x.1 248 8 = nI (tp c T st1.1) := by rw [← hx, as_i3]
    unfold aSgn
    by_cases k4 : kd c T st1.1 = 4
    · rw [if_pos k4]
      obtain ⟨hp, hs⟩ := KD_4.mp k4
      obtain ⟨y, v, y1, y2, y3⟩ := m_44 E v2 x8 k4
      have sel : am_if (seeV c T (tp c T st1.1) = (nI 60)) (j_X12_compare_44 (seeV c T (tp c T st1.1)) (nI (tp c T st1.1)) x) (am_if (seeV c T (tp c T st1.1) = (nI 61)) (j_X12_compare_44 (seeV c T (tp c T st1.1)) (nI (tp c T st1.1)) x) (am_if (seeV c T (tp c T st1.1) = (nI 62)) (j_X12_compare_44 (seeV c T (tp c T st1.1)) (nI (tp c T st1.1)) x) (am_b2 (f_X12_fails (0 : Int32) (nI (tp c T st1.1)) x) (fun v38 s39 => am_gd (v38 = 0 ∨ v38 = 1) (some (v38, s39)))))) = j_X12_compare_44 (seeV c T (tp c T st1.1)) (nI (tp c T st1.1)) x := by
        by_cases a1 : seeV c T (tp c T st1.1) = nI 60
        · rw [am_ift a1]
        · rw [am_iff a1]
          by_cases a2 : seeV c T (tp c T st1.1) = nI 61
          · rw [am_ift a2]
          · rw [am_iff a2]
            by_cases a3 : seeV c T (tp c T st1.1) = nI 62
            · rw [am_ift a3]
            · exfalso
              simp only [isSg, decide_eq_true_eq] at hs
              rcases hs with z | z | z
              · exact a1 ((seeV_b hb (by decide)).mpr ⟨hp, z⟩)
              · exact a2 ((seeV_b hb (by decide)).mpr ⟨hp, z⟩)
              · exact a3 ((seeV_b hb (by decide)).mpr ⟨hp, z⟩)
      rw [sel, y2]
      unfold j_X12_compare_105
      rcases y1.mk g1.kx st1.1 with ⟨k, m1⟩ | ⟨k, w, m1, m2⟩
      · have k : st1.2.1 < 60 := k
        rw [if_pos k, rb_o, m1, am_b2s, am_iff (by decide)]
        have mm : MS c T t s0 (nxt (mor st1)) (as_i y 248 12 (nI (st1.2.1 + 1))) := y1.mo
        have g2 : gs n [false] 1 st (nxt (mor st1)) := (g1.mo k).nx (show st1.1 < n from kd_lt hn1 g1.ix (by omega))
        have hl : ∀ s3, aSum c T (nxt (mor st1)) = .ok s3 → s3.2.2.length < 400 := fun s3 h3 => by
          have wg := aSum_g hT hnT hn1 (st := nxt (mor st1)) g2.ix g2.kx
          rw [h3] at wg
          have g3 : gs n ([false] ++ [false]) 1 st s3 := g2.cm wg
          have := g3.ln hr.2.2
          have := g3.ix
          omega
        have fin := fun d v hd => m_152 (st := st) E (g2.rd hr) mm d v hd hl
        have y4 := y3
        show MO c T t s0 (rb (aSum c T (nxt (mor st1))) (fun s3 => .ok (emi (sgn c T (tp c T st1.1)) 0 s3))) _
        unfold sgn
        by_cases b61 : c (tp c T st1.1) = nI 61
        · rw [if_pos b61, am_iff (by rw [b61]; decide), am_ift b61]
          exact fin 12 2 rfl
        · rw [if_neg b61]
          by_cases b60 : c (tp c T st1.1) = nI 60
          · rw [if_pos b60, am_ift b60]
            rcases y4 with ⟨z1, z2⟩ | ⟨z1, z2⟩
            · rw [if_pos z1, am_ift z2]; exact fin 10 0 rfl
            · rw [if_neg z1, am_iff z2]; exact fin 11 1 rfl
          · rw [if_neg b60, am_iff b60, am_iff b61]
            rcases y4 with ⟨z1, z2⟩ | ⟨z1, z2⟩
            · rw [if_pos z1, am_ift z2]; exact fin 14 4 rfl
            · rw [if_neg z1, am_iff z2]; exact fin 13 3 rfl
      · have k : ¬ st1.2.1 < 60 := k
        rw [if_neg k, rb_e, m1, am_b2s, am_ift rfl]
        exact ⟨w, rfl, m2⟩
    · rw [if_neg k4, rb_e]
      have nb : ∀ b, b = 60 ∨ b = 61 ∨ b = 62 → ¬ seeV c T (tp c T st1.1) = nI b := fun b hbb z => by
        have zz := (seeV_b hb (by omega)).mp z
        refine k4 (KD_4.mpr ⟨zz.1, ?_⟩)
        simp only [isSg, decide_eq_true_eq]
        rw [zz.2]
        rcases hbb with rfl | rfl | rfl
        · exact Or.inl rfl
        · exact Or.inr (Or.inl rfl)
        · exact Or.inr (Or.inr rfl)
      rw [am_iff (nb 60 (by omega)), am_iff (nb 61 (by omega)), am_iff (nb 62 (by omega))]
      obtain ⟨f1, f2⟩ := v2.fl st1.1 0
      have f1' : f_X12_fails (0 : Int32) (nI (tp c T st1.1)) x = _ := f1
      rw [f1', am_b2s, am_gdt (Or.inl rfl)]
      exact ⟨_, rfl, f2⟩
/-! the stack of a test -/
def PT (t b j : Nat) : Prop := PM t b j ∨ (b = 248 ∧ (j = 13 ∨ j = 16)) ∨ b = 255
def dp (l : List Nat) : Nat := (l.filter (fun e => e == 91 || e == 11)).length
def okS4 (l : List Nat) : Prop := ∀ e ∈ l, e = 91 ∨ e = 11 ∨ e = 12 ∨ e = 13
def stO (l : List Nat) (s : am_S) : Prop := s.1 248 16 = nI l.length ∧ s.1 248 13 = nI (dp l) ∧ okS4 l ∧ ∀ j, j < l.length → s.1 255 j = nI (l.getD j 0)
theorem stO.mv {l : List Nat} {s s2 : am_S} (h : stO l s) (h1 : s2.1 248 16 = s.1 248 16) (h2 : s2.1 248 13 = s.1 248 13) (h3 : s2.1 255 = s.1 255) : stO l s2 := ⟨h1.trans h.1, h2.trans h.2.1, h.2.2.1, fun j hj => by rw [h3]; exact h.2.2.2 j hj⟩
theorem stO.pm {l : List Nat} {s s2 : am_S} (h : stO l s) (f : frm (PM t) s s2) : stO l s2 := h.mv (f.1 _ _ (by unfold PM; omega)) (f.1 _ _ (by unfold PM; omega)) (f.row (by unfold PM; intro j; omega))
/-- the reference within a test -/
def MT (c : Nat → Int32) (T t : Nat) (s0 : am_S) (st : PS) (l : List Nat) (s : am_S) : Prop := MS c T t s st s ∧ stO l s ∧ frm (PT t) s0 s
def MG (t : Nat) (s0 : am_S) (e : Nat) (s : am_S) : Prop := s.1 248 9 = nI e ∧ frm (PT t) s0 s
theorem MT.of {st st2 : PS} {l : List Nat} {s s2 : am_S} (h : MT c T t s0 st l s) (g : MS c T t s st2 s2) : MT c T t s0 st2 l s2 := ⟨g.rb, h.2.1.pm g.2.2.2.2.1, h.2.2.tr (g.2.2.2.2.1.mo (fun _ _ z => Or.inl z))⟩
theorem MT.er {st : PS} {l : List Nat} {s s2 : am_S} {e : Nat} (h : MT c T t s0 st l s) (g : MF t s e s2) : MG t s0 e s2 := ⟨g.1, h.2.2.tr (g.2.mo (fun _ _ z => Or.inl z))⟩
theorem getD_sn {l : List Nat} {e d j : Nat} : (l ++ [e]).getD j d = if j = l.length then e else if j < l.length then l.getD j d else d := by
  rw [List.getD_eq_getElem?_getD, List.getD_eq_getElem?_getD]
  by_cases h1 : j = l.length
  · rw [if_pos h1, h1, List.getElem?_append_right (Nat.le_refl _), Nat.sub_self]
    rfl
  · rw [if_neg h1]
    by_cases h2 : j < l.length
    · rw [if_pos h2, List.getElem?_append_left h2]
    · rw [if_neg h2, List.getElem?_append_right (by omega), List.getElem?_eq_none (by simp; omega)]
      rfl
theorem dp_sn (l : List Nat) (e : Nat) : dp (l ++ [e]) = dp l + (if e = 91 ∨ e = 11 then 1 else 0) := by
  unfold dp
  rw [List.filter_append, List.length_append]
  congr 1
  by_cases h : e = 91 ∨ e = 11
  · rw [if_pos h]
    rcases h with rfl | rfl <;> rfl
  · rw [if_neg h]
    have h1 : ¬ e = 91 := fun z => h (Or.inl z)
    have h2 : ¬ e = 11 := fun z => h (Or.inr z)
    simp [h1, h2]
theorem dp_le (l : List Nat) : dp l ≤ l.length := List.length_filter_le _ _
/-- pushing -/
theorem MT.ps {st : PS} {l : List Nat} {s s2 : am_S} {e : Nat} (h : MT c T t s0 st l s) (he : e = 91 ∨ e = 11 ∨ e = 12 ∨ e = 13) (f : frm (fun b j => (b = 248 ∧ (j = 13 ∨ j = 16)) ∨ b = 255) s s2) (h16 : s2.1 248 16 = nI (l.length + 1)) (h13 : s2.1 248 13 = nI (dp (l ++ [e]))) (hr : ∀ j, s2.1 255 j = if j = l.length then nI e else s.1 255 j) : MT c T t s0 st (l ++ [e]) s2 := by
  obtain ⟨⟨⟨r, r1, r2, r3⟩, h2, h3, h4, h5, h6, h7⟩, ⟨k1, k2, k3, k4⟩, g⟩ := h
  have r48 : ∀ k, k ≠ 13 → k ≠ 16 → s2.1 248 k = s.1 248 k := fun k z1 z2 => f.1 248 k (by show ¬ ((248 = 248 ∧ (k = 13 ∨ k = 16)) ∨ 248 = 255); omega)
  have rw_ : ∀ b, b ≠ 248 → b ≠ 255 → s2.1 b = s.1 b := fun b z1 z2 => f.row (fun j => by show ¬ ((b = 248 ∧ (j = 13 ∨ j = 16)) ∨ b = 255); omega)
  refine ⟨⟨⟨r, r1, (r48 8 (by decide) (by decide)).trans r2, r3⟩, (r48 9 (by decide) (by decide)).trans h2, (r48 12 (by decide) (by decide)).trans h3, h4.mv (rw_ 251 (by decide) (by decide)) (rw_ 250 (by decide) (by decide)), frm.rf _ _, h6.mv (r48 1 (by decide) (by decide)) (rw_ 249 (by decide) (by decide)), (r48 11 (by decide) (by decide)).trans h7⟩, ⟨by rw [h16, List.length_append]; rfl, h13, fun x hx => ?_, fun j hj => ?_⟩, g.tr (f.mo (fun b j z => Or.inr z))⟩
  · rcases List.mem_append.mp hx with z | z
    · exact k3 x z
    · rw [List.mem_singleton.mp z]; exact he
  · rw [List.length_append] at hj
    have hj2 : j < l.length + 1 := hj
    rw [hr j, getD_sn]
    by_cases z : j = l.length
    · rw [if_pos z, if_pos z]
    · rw [if_neg z, if_neg z, if_pos (by omega), k4 j (by omega)]
/-- the stack's top goes -/
theorem MT.pp {st : PS} {l : List Nat} {s s2 : am_S} {e : Nat} (h : MT c T t s0 st (l ++ [e]) s) (f : frm (fun b j => b = 248 ∧ (j = 13 ∨ j = 16)) s s2) (h16 : s2.1 248 16 = nI l.length) (h13 : s2.1 248 13 = nI (dp l)) : MT c T t s0 st l s2 := by
  obtain ⟨⟨⟨r, r1, r2, r3⟩, h2, h3, h4, h5, h6, h7⟩, ⟨k1, k2, k3, k4⟩, g⟩ := h
  have r48 : ∀ k, k ≠ 13 → k ≠ 16 → s2.1 248 k = s.1 248 k := fun k z1 z2 => f.1 248 k (by show ¬ (248 = 248 ∧ (k = 13 ∨ k = 16)); omega)
  have rw_ : ∀ b, b ≠ 248 → s2.1 b = s.1 b := fun b z1 => f.row (fun j => by show ¬ (b = 248 ∧ (j = 13 ∨ j = 16)); omega)
  refine ⟨⟨⟨r, r1, (r48 8 (by decide) (by decide)).trans r2, r3⟩, (r48 9 (by decide) (by decide)).trans h2, (r48 12 (by decide) (by decide)).trans h3, h4.mv (rw_ 251 (by decide)) (rw_ 250 (by decide)), frm.rf _ _, h6.mv (r48 1 (by decide) (by decide)) (rw_ 249 (by decide)), (r48 11 (by decide) (by decide)).trans h7⟩, ⟨h16, h13, fun x hx => k3 x (List.mem_append.mpr (Or.inl hx)), fun j hj => ?_⟩, g.tr (f.mo (fun b j z => Or.inr (Or.inl z)))⟩
  rw [rw_ 255 (by decide), k4 j (by rw [List.length_append]; omega), getD_sn, if_neg (by omega), if_pos hj]
end MQ
