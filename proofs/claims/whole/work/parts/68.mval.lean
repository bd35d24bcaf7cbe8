/-! the reference reads values and sums -/
section MV
variable {c : Nat → Int32} {T n t : Nat} {s0 : am_S}
def wM (w : Nat) : Int32 := if isVW w = true then nI (wordM w) else -1
theorem m_iw {x : am_S} {p : Nat} (h : tx c T x) (hT : T ≤ 400) (hp : p ≤ T) (hs : sk c T p = p) (h8 : x.1 248 8 = nI p) (k : Nat) (w : Int64) (hk : k < 24) (hw : WK.getD k 0 = w) : f_X12_isWord w x = some (b01 (wd c T p = k), x) := by
  have := m_isWord h hT hp h8 hk w hw
  rw [hs, as_i_self h8] at this
  rw [this]
  congr 2
  exact b01_iff (atW_wd hk)
theorem m_wordHere {x : am_S} {p : Nat} (h : tx c T x) (hT : T ≤ 400) (hp : p ≤ T) (hs : sk c T p = p) (h8 : x.1 248 8 = nI p) : f_X12_wordHere x = some (wM (wd c T p), x) := by
  have iw := m_iw h hT hp hs h8
  unfold f_X12_wordHere
  rw [iw 13 127978959562098 (by decide) rfl, am_b2s]
  by_cases z13 : wd c T p = 13
  · rw [am_b1 z13, z13]; rfl
  · rw [am_b0 z13]
    rw [iw 14 114784635872626 (by decide) rfl, am_b2s]
    by_cases z14 : wd c T p = 14
    · rw [am_b1 z14, z14]; rfl
    · rw [am_b0 z14]
      rw [iw 15 1717658484 (by decide) rfl, am_b2s]
      by_cases z15 : wd c T p = 15
      · rw [am_b1 z15, z15]; rfl
      · rw [am_b0 z15]
        rw [iw 16 1935763812 (by decide) rfl, am_b2s]
        by_cases z16 : wd c T p = 16
        · rw [am_b1 z16, z16]; rfl
        · rw [am_b0 z16]
          rw [iw 17 29551 (by decide) rfl, am_b2s]
          by_cases z17 : wd c T p = 17
          · rw [am_b1 z17, z17]; rfl
          · rw [am_b0 z17]
            rw [iw 18 448545973363 (by decide) rfl, am_b2s]
            by_cases z18 : wd c T p = 18
            · rw [am_b1 z18, z18]; rfl
            · rw [am_b0 z18]
              rw [iw 19 448377483876 (by decide) rfl, am_b2s]
              by_cases z19 : wd c T p = 19
              · rw [am_b1 z19, z19]; rfl
              · rw [am_b0 z19]
                rw [iw 20 1818846579 (by decide) rfl, am_b2s]
                by_cases z20 : wd c T p = 20
                · rw [am_b1 z20, z20]; rfl
                · rw [am_b0 z20]
                  rw [iw 6 426953501796 (by decide) rfl, am_b2s]
                  by_cases z6 : wd c T p = 6
                  · rw [am_b1 z6, z6]; rfl
                  · rw [am_b0 z6]
                    rw [iw 2 500136506228 (by decide) rfl, am_b2s]
                    by_cases z2 : wd c T p = 2
                    · rw [am_b1 z2, z2]; rfl
                    · rw [am_b0 z2]
                      rw [iw 5 1751216749 (by decide) rfl, am_b2s]
                      by_cases z5 : wd c T p = 5
                      · rw [am_b1 z5, z5]; rfl
                      · rw [am_b0 z5]
                        rw [iw 21 126879297138276 (by decide) rfl, am_b2s]
                        by_cases z21 : wd c T p = 21
                        · rw [am_b1 z21, z21]; rfl
                        · rw [am_b0 z21]
                          rw [iw 22 1752135026 (by decide) rfl, am_b2s]
                          by_cases z22 : wd c T p = 22
                          · rw [am_b1 z22, z22]; rfl
                          · rw [am_b0 z22]
                            rw [iw 23 6578553 (by decide) rfl, am_b2s]
                            by_cases z23 : wd c T p = 23
                            · rw [am_b1 z23, z23]; rfl
                            · rw [am_b0 z23]
                              have : isVW (wd c T p) = false := by
                                unfold isVW
                                rw [decide_eq_false_iff_not]
                                omega
                              unfold wM
                              rw [this]
                              rfl
/-- the cells that reading a rule changes, but its clauses -/
def PM (t b j : Nat) : Prop := (b = 248 ∧ (j = 8 ∨ j = 9 ∨ j = 10 ∨ j = 12)) ∨ (b = 250 ∧ 400 * t ≤ j) ∨ b = 251
theorem P8M {b j : Nat} (h : P8 b j) : PM t b j := by unfold P8 at h; unfold PM; omega
def mlaid (t : Nat) (l : List (Nat × Nat)) (s : am_S) : Prop := s.1 251 t = nI l.length ∧ ∀ j, j < l.length → s.1 250 (400 * t + j) = nI (opM (l.getD j (0, 0)).1 (l.getD j (0, 0)).2)
theorem mlaid.mv {l : List (Nat × Nat)} {s s2 : am_S} (h : mlaid t l s) (h1 : s2.1 251 = s.1 251) (h2 : s2.1 250 = s.1 250) : mlaid t l s2 := ⟨by rw [h1]; exact h.1, fun j hj => by rw [h2]; exact h.2 j hj⟩
/-- the reference reads on -/
def MS (c : Nat → Int32) (T t : Nat) (s0 : am_S) (st : PS) (s : am_S) : Prop := (∃ r, r ≤ T ∧ s.1 248 8 = nI r ∧ sk c T r = tp c T st.1) ∧ s.1 248 9 = 0 ∧ s.1 248 12 = nI st.2.1 ∧ mlaid t st.2.2 s ∧ frm (PM t) s0 s ∧ tx c T s ∧ s.1 248 11 = nI t
def MF (t : Nat) (s0 : am_S) (e : Nat) (s : am_S) : Prop := s.1 248 9 = nI e ∧ frm (PM t) s0 s
def MO (c : Nat → Int32) (T t : Nat) (s0 : am_S) (o : Except Nat PS) (r : Option (Int32 × am_S)) : Prop := match o with
  | .error e => ∃ s, r = some ((0 : Int32), s) ∧ MF t s0 e s
  | .ok st => ∃ s, r = some ((1 : Int32), s) ∧ MS c T t s0 st s
def EM (c : Nat → Int32) (T n t : Nat) : Prop := T ≤ 400 ∧ n ≤ T ∧ tp c T n = T ∧ t < 6 ∧ ∀ j, j < T → vp_nar .byte (c j) = c j
/-- a number of the reference's own changes, none of them its text or its steps -/
theorem MS.i {st : PS} {s : am_S} (h : MS c T t s0 st s) (k : Nat) (v : Int32) (hk : k = 8 ∨ k = 9 ∨ k = 10 ∨ k = 12) : mlaid t st.2.2 (as_i s 248 k v) ∧ frm (PM t) s0 (as_i s 248 k v) ∧ tx c T (as_i s 248 k v) ∧ (as_i s 248 k v).1 248 11 = nI t := by
  obtain ⟨h1, h2, h3, h4, h5, h6, h7⟩ := h
  refine ⟨h4.mv (as_i1 (by decide)) (as_i1 (by decide)), h5.ti (Or.inl ⟨rfl, hk⟩), h6.i 248 k v ⟨fun _ => by omega, by decide⟩, ?_⟩
  rw [as_i2 (by omega)]
  exact h7
theorem MS.pl {st : PS} {s : am_S} (h : MS c T t s0 st s) (i r : Nat) (hr : r ≤ T) (hs : sk c T r = tp c T i) : MS c T t s0 (i, st.2) (as_i s 248 8 (nI r)) := by
  obtain ⟨g1, g2, g3, g4⟩ := h.i 8 (nI r) (by decide)
  refine ⟨⟨r, hr, as_i3, hs⟩, ?_, ?_, g1, g2, g3, g4⟩
  · rw [as_i2 (by decide)]; exact h.2.1
  · rw [as_i2 (by decide)]; exact h.2.2.1
theorem MS.mo {st : PS} {s : am_S} (h : MS c T t s0 st s) : MS c T t s0 (mor st) (as_i s 248 12 (nI (st.2.1 + 1))) := by
  obtain ⟨g1, g2, g3, g4⟩ := h.i 12 (nI (st.2.1 + 1)) (by decide)
  obtain ⟨r, r1, r2, r3⟩ := h.1
  refine ⟨⟨r, r1, ?_, r3⟩, ?_, as_i3, g1, g2, g3, g4⟩
  · rw [as_i2 (by decide)]; exact r2
  · rw [as_i2 (by decide)]; exact h.2.1
theorem MS.fl {st : PS} {s : am_S} (h : MS c T t s0 st s) (i k : Nat) : f_X12_fails (nI k) (nI (tp c T i)) s = some ((0 : Int32), as_i s 248 9 (nI (fau c T i k))) ∧ MF t s0 (fau c T i k) (as_i s 248 9 (nI (fau c T i k))) := by
  refine ⟨?_, as_i3, (h.i 9 _ (by decide)).2.1⟩
  rw [m_fails0 h.2.1]
  rfl
theorem tp_leT (i : Nat) : tp c T i ≤ T := tp_le i
theorem MS.see {st : PS} {s : am_S} (E : EM c T n t) (h : MS c T t s0 st s) : f_X12_see s = some (seeV c T (tp c T st.1), as_i s 248 8 (nI (tp c T st.1))) ∧ MS c T t s0 st (as_i s 248 8 (nI (tp c T st.1))) := by
  obtain ⟨r, r1, r2, r3⟩ := h.1
  refine ⟨?_, h.pl st.1 _ (tp_le _) (tp_sk E.1 _)⟩
  have := m_see h.2.2.2.2.2.1 E.1 r1 r2
  rw [r3] at this
  exact this
theorem MS.pt {st : PS} {s : am_S} (E : EM c T n t) (hl : st.2.2.length < 400) (h : MS c T t s0 st s) (d v : Nat) {x y : Nat} (hx : x + 16 * y = opM d v) : ∃ s2, f_X12_puts (nI x) (nI y) s = some s2 ∧ MS c T t s0 (emi d v st) s2 ∧ frm (fun b j => b = 250 ∨ b = 251) s s2 := by
  obtain ⟨h1, h2, h3, ⟨h4, h4b⟩, h5, h6, h7⟩ := h
  have ht := E.2.2.2.1
  generalize hL : st.2.2.length = L at *
  have f0 : frm (fun b j => b = 250 ∨ b = 251) s (as_i (as_i s 250 (400 * t + L) (nI (opM d v))) 251 t (nI (L + 1))) := (frm.i s (Or.inl rfl)).ti (Or.inr rfl)
  have f1 : frm (PM t) s (as_i (as_i s 250 (400 * t + L) (nI (opM d v))) 251 t (nI (L + 1))) := (frm.i s (Or.inr (Or.inl ⟨rfl, by omega⟩))).ti (Or.inr (Or.inr rfl))
  have r48 : ∀ k, (as_i (as_i s 250 (400 * t + L) (nI (opM d v))) 251 t (nI (L + 1))).1 248 k = s.1 248 k := fun k => f0.1 248 k (show ¬ (248 = 250 ∨ 248 = 251) by decide)
  refine ⟨as_i (as_i s 250 (400 * t + L) (nI (opM d v))) 251 t (nI (L + 1)), ?_, ⟨?_, (r48 9).trans h2, (r48 12).trans h3, ⟨?_, fun j hj => ?_⟩, h5.tr f1, h6.f f0 (show ¬ (248 = 250 ∨ 248 = 251) by decide) (fun j => show ¬ (249 = 250 ∨ 249 = 251) by decide), (r48 11).trans h7⟩, f0⟩
  · unfold f_X12_puts
    rw [h7, am_ltd, gd_nI (by omega) (by decide), cL (by omega), h4, pk_mul, nI_add, gd_nI (by omega) (by decide), cL (by omega), pk_mul, nI_add, hx, am_ltd]
    have x1 : (as_i s 250 (400 * t + L) (nI (opM d v))).1 248 11 = nI t := by rw [as_i1 (by decide)]; exact h7
    have x2 : (as_i s 250 (400 * t + L) (nI (opM d v))).1 251 t = nI L := by rw [as_i1 (by decide)]; exact h4
    rw [x1, am_ltd, gd_nI (by omega) (by decide), gd_nI (by omega) (by decide), cL (by omega), x2, am_ltd, nI_1]
  · obtain ⟨r, r1, r2, r3⟩ := h1
    exact ⟨r, r1, (r48 8).trans r2, r3⟩
  · rw [as_i3]
    show nI (L + 1) = nI (st.2.2 ++ [(d, v)]).length
    rw [List.length_append, hL]
    rfl
  · have hj2 : j < L + 1 := by
      have : j < (st.2.2 ++ [(d, v)]).length := hj
      rw [List.length_append, hL] at this
      exact this
    show _ = nI (opM ((st.2.2 ++ [(d, v)]).getD j (0, 0)).1 ((st.2.2 ++ [(d, v)]).getD j (0, 0)).2)
    rw [as_i1 (by decide)]
    by_cases e : j = L
    · subst e
      have : (st.2.2 ++ [(d, v)]).getD j (0, 0) = (d, v) := by
        have := getD_snoc_eq (l := st.2.2) (e := (d, v)) (d := (0, 0))
        rwa [hL] at this
      rw [this, as_i3]
    · rw [getD_snoc_lt (by omega), as_i2 (by omega)]
      exact h4b j (by omega)
theorem MS.mk {st : PS} {s : am_S} (h : MS c T t s0 st s) (hk : st.2.1 ≤ 60) (i : Nat) : (st.2.1 < 60 ∧ f_X12_makes (nI (tp c T i)) s = some ((1 : Int32), as_i s 248 12 (nI (st.2.1 + 1)))) ∨ (¬ st.2.1 < 60 ∧ ∃ s2, f_X12_makes (nI (tp c T i)) s = some ((0 : Int32), s2) ∧ MF t s0 (fau c T i 3) s2) := by
  unfold f_X12_makes
  rw [h.2.2.1]
  by_cases k : st.2.1 < 60
  · left
    refine ⟨k, ?_⟩
    rw [am_iff (by rw [nI_eq (by omega) (by decide)]; omega), am_ltd, nI_1]
  · right
    obtain ⟨f1, f2⟩ := h.fl i 3
    refine ⟨k, _, ?_, f2⟩
    rw [am_ift (by rw [nI_eq (by omega) (by decide)]; omega), f1, am_b2s, am_gdt (Or.inl rfl)]
theorem tp_nx {i : Nat} (h : tp c T i < T) : sk c T (en c T (tp c T i)) = tp c T (i + 1) := (tp_s h).symm
theorem m_value {st : PS} {s : am_S} (E : EM c T n t) (hr : rdy n st) (h : MS c T t s0 st s) : MO c T t s0 (aVal c T st) (f_X12_value s) := by
  obtain ⟨hT, hnT, hn1, ht, hb⟩ := id E
  obtain ⟨v1, v2⟩ := h.see E
  generalize hx : as_i s 248 8 (nI (tp c T st.1)) = x at *
  have x8 : x.1 248 8 = nI (tp c T st.1) := by rw [← hx, as_i3]
  have hl4 : st.1 < n → st.2.2.length < 400 := fun z => by have := hr.2.2; omega
  unfold f_X12_value aVal
  rw [v1, am_b2s, am_ltd, x8, m_isDigit v2.2.2.2.2.2.1 hT (by have := tp_le (c := c) (T := T) st.1; omega), am_bds]
  obtain ⟨y, y1, y2⟩ := m_number (lo := 0) (hi := nI 99999) v2.2.2.2.2.2.1 hT (tp_le _) x8 v2.2.1
  rw [tp_sk hT] at y2
  by_cases cd : tp c T st.1 < T ∧ DI (c (tp c T st.1)) = true
  · rw [am_b1 cd]
    by_cases c5 : en c T (tp c T st.1) ≤ tp c T st.1 + 5
    · have k2 : KD c T (tp c T st.1) = 2 := KD_2.mpr ⟨cd.1, cd.2, c5⟩
      have hN := nv_ok hT k2
      have ok : okN c T (tp c T st.1) 0 (nI 99999) := ⟨k2, by rw [VL_2 k2]; exact nI_pos' (by omega), by rw [VL_2 k2]; exact nI_le (by omega) (by decide)⟩
      rcases y2 with ⟨_, z1, z2, z3, z4⟩ | ⟨z0, _⟩
      · have my : MS c T t s0 (st.1 + 1, st.2) y := by
          refine ⟨⟨_, en_le cd.1, z2, tp_nx cd.1⟩, z3, ?_, v2.2.2.2.1.mv (y1.row (by unfold P8; intro j; omega)) (y1.row (by unfold P8; intro j; omega)), v2.2.2.2.2.1.tr (y1.mo (fun _ _ => P8M)), v2.2.2.2.2.2.1.f y1 (by unfold P8; omega) (by unfold P8; intro j; omega), ?_⟩
          · rw [y1.1 248 12 (by unfold P8; omega)]; exact v2.2.2.1
          · rw [y1.1 248 11 (by unfold P8; omega)]; exact v2.2.2.2.2.2.2
        rw [if_neg (by show ¬ KD c T (tp c T st.1) = 3; omega), if_pos k2, z1, am_b2s, am_iff (by decide)]
        rcases my.mk hr.2.1 st.1 with ⟨k, m1⟩ | ⟨k, w, m1, m2⟩
        · rw [if_pos k, m1, am_b2s, am_iff (by decide)]
          have mm := my.mo
          have e10 : (as_i y 248 12 (nI (st.2.1 + 1))).1 248 10 = nI (nvo c T st.1) := by rw [as_i2 (by decide), z4, VL_2 k2]; rfl
          rw [e10]
          obtain ⟨w, w1, w2, _⟩ := MS.pt (st := mor (st.1 + 1, st.2)) E (show st.2.2.length < 400 from hl4 (kd_lt hn1 hr.1 (by show KD c T (tp c T st.1) ≠ 0; omega))) mm 0 (nvo c T st.1) (x := 0) (y := nvo c T st.1) (by show 0 + 16 * _ = 16 * _; omega)
          rw [show (0 : Int32) = nI 0 from rfl, w1, am_bds]
          exact ⟨w, rfl, w2⟩
        · rw [if_neg k, m1, am_b2s, am_ift rfl]
          exact ⟨w, rfl, m2⟩
      · exact absurd ok z0
    · have k3 : KD c T (tp c T st.1) = 3 := KD_3.mpr ⟨cd.1, cd.2, c5⟩
      rcases y2 with ⟨z0, _⟩ | ⟨_, z1, z2⟩
      · have := z0.1; omega
      · rw [if_pos k3, z1, am_b2s, am_ift rfl]
        refine ⟨y, rfl, ?_, v2.2.2.2.2.1.tr (y1.mo (fun _ _ => P8M))⟩
        rw [z2]
        unfold nF fau
        rw [if_pos (Or.inr k3)]
  · have n3 : ¬ kd c T st.1 = 3 := fun z => cd ⟨(KD_3.mp z).1, (KD_3.mp z).2.1⟩
    have n2 : ¬ kd c T st.1 = 2 := fun z => cd ⟨(KD_2.mp z).1, (KD_2.mp z).2.1⟩
    rw [am_b0 cd, if_neg n3, if_neg n2, m_wordHere v2.2.2.2.2.2.1 hT (tp_le _) (tp_sk hT _) x8, am_b2s]
    unfold wM
    by_cases cw : isVW (wo c T st.1) = true
    · have w24 := isVW_24 cw
      have wm : wordM (wo c T st.1) < 14 := by
        have key : ∀ w, w < 24 → wordM w < 14 := by decide
        exact key _ w24
      have aw := (atW_wd (c := c) (T := T) (p := tp c T st.1) w24).mpr rfl
      rw [if_pos cw, if_pos cw, am_ift (nI_pos' (n := wordM (wo c T st.1)) (by omega))]
      rcases v2.mk hr.2.1 st.1 with ⟨k, m1⟩ | ⟨k, w, m1, m2⟩
      · rw [if_pos k, m1, am_b2s, am_iff (by decide)]
        have mm := v2.mo
        have e8 : (as_i x 248 12 (nI (st.2.1 + 1))).1 248 8 = nI (tp c T st.1) := by rw [as_i2 (by decide)]; exact x8
        have pw := m_passWord mm.2.2.2.2.2.1 hT (tp_le _) e8
        have we : wE c T (tp c T st.1) = en c T (tp c T st.1) := by unfold wE; rw [if_pos ⟨aw.1, aw.2.1⟩]
        rw [we] at pw
        rw [pw, am_bds]
        have mp := mm.pl (st.1 + 1) _ (en_le aw.1) (tp_nx aw.1)
        obtain ⟨w, w1, w2, _⟩ := MS.pt (st := (st.1 + 1, (mor st).2)) E (show st.2.2.length < 400 from hl4 (wo_lt hn1 hr.1 w24)) mp 1 (wo c T st.1) (x := 1) (y := wordM (wo c T st.1)) rfl
        rw [show (1 : Int32) = nI 1 from rfl, w1, am_bds]
        exact ⟨w, rfl, w2⟩
      · rw [if_neg k, m1, am_b2s, am_ift rfl]
        exact ⟨w, rfl, m2⟩
    · rw [if_neg cw, if_neg cw, am_iff (by decide)]
      obtain ⟨f1, f2⟩ := v2.fl st.1 0
      have f1' : f_X12_fails (0 : Int32) (nI (tp c T st.1)) x = _ := f1
      rw [f1', am_b2s, am_gdt (Or.inl rfl)]
      exact ⟨_, rfl, f2⟩
end MV
