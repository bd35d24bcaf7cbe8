/-! clauses of a town, in both: street, facts, person -/
section TX4
variable {c : Nat → Int32} {T n : Nat}
theorem TD.see {i : Nat} {s : am_S} (hT : T ≤ 400) (h : TD c T i s) : f_X12_see s = some (seeV c T (tp c T i), as_i s 248 8 (nI (tp c T i))) ∧ TD c T i (as_i s 248 8 (nI (tp c T i))) := by
  obtain ⟨⟨r, r1, r2, r3⟩, h2, h3⟩ := id h
  have se := m_see h3 hT r1 r2
  rw [r3] at se
  exact ⟨se, ⟨_, tp_le _, as_i3, tp_sk hT i⟩, by rw [as_i2 (by decide)]; exact h2, h3.i 248 8 _ (by decide)⟩
theorem tc60F {v1 v2 : Int32} {s : am_S} (h : ¬ s.1 2 5 = 0) : j_X9_readStreet_60 v1 v2 s = some s := by
  unfold j_X9_readStreet_60
  rw [c_fine, am_bds, am_b0 h]
theorem tc53F {v1 v2 : Int32} {s : am_S} (h : ¬ s.1 2 5 = 0) : j_X9_readStreet_53 v1 v2 s = some s := by
  unfold j_X9_readStreet_53
  rw [c_refF h, am_bds, tc60F h]
theorem c_addSt {m : Nat → Int32} {x : am_S} {S a b : Nat} (hS : S < 10) (h6 : x.1 6 6 = nI S) (ds : cSt m x S) (ha : a < 7) (hb : b < 7) (hab : a ≠ b) : ∃ z, f_X8_addStreet (nI a) (nI b) x = some z ∧ z.1 6 6 = nI (S + 1) ∧ (∀ j, j ≠ 6 → z.1 6 j = x.1 6 j) ∧ (∀ q, q ≠ 6 → q ≠ 9 → q ≠ 10 → q ≠ 11 → z.1 q = x.1 q) ∧ z.1 9 = upd (x.1 9) S (nI a) ∧ z.1 10 = upd (x.1 10) S (nI b) ∧ (∀ p, p < 7 → z.1 11 p = nI (bitsOf (fun q => stE m S p q || ((a == p && b == q) || (a == q && b == p))) 7)) ∧ frm (fun b _ => 6 ≤ b ∧ b ≤ 13) x z := by
  obtain ⟨d1, d2⟩ := ds
  have k1 : (as_i x 9 S (nI a)).1 6 6 = nI S := by rw [as_i1 (by decide)]; exact h6
  have k2 : (as_i (as_i x 9 S (nI a)) 10 S (nI b)).1 6 6 = nI S := by rw [as_i1 (by decide)]; exact k1
  generalize hw : as_i (as_i (as_i x 9 S (nI a)) 10 S (nI b)) 6 6 (nI (S + 1)) = w
  have w11 : w.1 11 = x.1 11 := by rw [← hw, as_i1 (by decide), as_i1 (by decide), as_i1 (by decide)]
  have o1 : w.1 11 a ||| ((1 : Int32) <<< (nI b &&& 31)) = nI (bitsOf (fun q => stE m S a q || decide (q = b)) 7) := by rw [w11, d2 a ha]; exact or_bit hb (by decide)
  have o2 : w.1 11 b ||| ((1 : Int32) <<< (nI a &&& 31)) = nI (bitsOf (fun q => stE m S b q || decide (q = a)) 7) := by rw [w11, d2 b hb]; exact or_bit ha (by decide)
  refine ⟨as_i (as_i w 11 a (nI (bitsOf (fun q => stE m S a q || decide (q = b)) 7))) 11 b (nI (bitsOf (fun q => stE m S b q || decide (q = a)) 7)), ?_, ?_, fun j hj => ?_, fun q q1 q2 q3 q4 => ?_, ?_, ?_, fun p hp => ?_, ?_⟩
  · unfold f_X8_addStreet
    rw [h6, am_iff (nI_ge hS (by decide)), gd_nI hS (by decide), cL (by omega), am_ltd, k1, gd_nI hS (by decide), cL (by omega), am_ltd, k2, nI_1, am_ltd, hw, gd_nI ha (by decide), gd_nI ha (by decide), cL (by omega), o1, am_ltd, gd_nI hb (by decide), gd_nI hb (by decide), cL (by omega), as_i2 (show b ≠ a from Ne.symm hab), o2, am_ltd]
  · rw [as_i1 (by decide), as_i1 (by decide), ← hw, as_i3]
  · rw [as_i1 (by decide), as_i1 (by decide), ← hw, as_i2 hj, as_i1 (by decide), as_i1 (by decide)]
  · rw [as_i1 q4, as_i1 q4, ← hw, as_i1 q1, as_i1 q3, as_i1 q2]
  · rw [as_i1 (by decide), as_i1 (by decide), ← hw, as_i1 (by decide), as_i1 (by decide), row_i]
  · rw [as_i1 (by decide), as_i1 (by decide), ← hw, as_i1 (by decide), row_i, as_i1 (by decide)]
  · by_cases z1 : p = b
    · subst z1
      rw [as_i3]
      congr 1
      refine bitsOf_congr 7 (fun q _ => ?_)
      by_cases e : q = a
      · subst e; simp
      · have : ¬ a = q := fun z => e z.symm
        simp [hab, e, this]
    · rw [as_i2 z1]
      by_cases z2 : p = a
      · subst z2
        rw [as_i3]
        congr 1
        refine bitsOf_congr 7 (fun q _ => ?_)
        by_cases e : q = b
        · subst e; simp
        · have : ¬ b = q := fun z => e z.symm
          have : ¬ b = p := fun z => z1 z.symm
          simp_all
      · rw [as_i2 z2, w11, d2 p hp]
        congr 1
        refine bitsOf_congr 7 (fun q _ => ?_)
        have e1 : ¬ a = p := fun z => z2 z.symm
        have e2 : ¬ b = p := fun z => z1 z.symm
        simp [e1, e2]
  · rw [← hw]
    exact ((((frm.i x ⟨by decide, by decide⟩).ti ⟨by decide, by decide⟩).ti ⟨by decide, by decide⟩).ti ⟨by decide, by decide⟩).ti ⟨by decide, by decide⟩
theorem tw_street {i F O P S I H C : Nat} {s y : am_S} (hT : T ≤ 400) (hnT : n ≤ T) (hn1 : tp c T n = T) (hs : TC c T n i s) (hy : TD c T i y) (hi : i ≤ n) (hF : 0 < F) (hS : S < 10) (W : TWN (y.1 254) F O P S I H C) (D : dC (y.1 254) s F O P S I H) : OUT c T n s y i (f_X9_readStreet s) (am_lt ((nI 179) + ((nI 2) * (y.1 254 3))) (fun v3 => am_b2 (f_X12_cellHere v3 (0 : Int32) ((y.1 254 2) - (1 : Int32)) y) (fun v4 s5 => am_if (v4 = 0) (some ((0 : Int32), s5)) (am_b2 (f_X12_see s5) (fun v6 s7 => am_lt (s7.1 248 8) (fun v8 => am_b2 (f_X12_otherHere (v3 + (1 : Int32)) v3 ((s7.1 254 2) - (1 : Int32)) s7) (fun v9 s10 => am_if (v9 = 0) (some ((0 : Int32), s10)) (am_gd (¬ v3 < 0 ∧ (v3).toNatClampNeg < 270) (am_lt (v3 + (1 : Int32)) (fun v12 => am_gd (¬ v12 < 0 ∧ (v12).toNatClampNeg < 270) (am_bd (f_X12_readStreet (s10.1 254 (v3).toNatClampNeg) (s10.1 254 (v12).toNatClampNeg) s10) (fun v14 => am_if (v14 < 0) (am_lt (as_i s10 254 3 ((s10.1 254 3) + (1 : Int32))) (fun s15 => some ((1 : Int32), s15))) (am_b2 (f_X12_fails (1 : Int32) v8 s10) (fun v16 s17 => am_gd (v16 = 0 ∨ v16 = 1) (some (v16, s17)))))))))))))))) := by
  have W0 := W
  have D0 := D
  obtain ⟨w0, w1, w2, w3, w4, w5, w6, w7, w8, w9, wa, wb, wc, wd_⟩ := W
  obtain ⟨⟨d0, d1, d2, d3, d4, d5, d6, d7, d8⟩, dt, ds, di, dh, dp_⟩ := D
  have hP := w2.2
  unfold f_X9_readStreet
  rw [d3, w2.1, w3.1, pk_mul, nI_add, am_ltd, nI_1]
  rcases c_num (lo := 0) (hi := nI P - 1) hT hnT hn1 hs hi with ⟨o, lt, q1, q2⟩ | ⟨o, q1⟩
  · rcases m_cell (cell := 179 + 2 * S) (lo := 0) (hi := nI P - 1) hT (by omega) hy with ⟨_, y1, r1, r2, r3, r4⟩ | ⟨z, _⟩
    · obtain ⟨a, a1, a2⟩ := ok_lt hT (by omega) o
      obtain ⟨g1, g2⟩ := r2.see hT
      have x63 : (as_i s 2 4 (nI (i + 1))).1 6 3 = nI P := by rw [as_i1 (by decide), d3]; exact w2.1
      rw [q1, am_b2s, x63, r1, am_b2s, am_iff (show ¬ (1 : Int32) = 0 by decide), g1, am_b2s, as_i3, am_ltd, as_i1 (show (254 : Nat) ≠ 248 by decide), r3, upd_n (show (2 : Nat) ≠ 179 + 2 * S by omega), w2.1]
      generalize hy7 : as_i y1 248 8 (nI (tp c T (i + 1))) = y7 at *
      have y754 : y7.1 254 = upd (y.1 254) (179 + 2 * S) (nI a) := by rw [← hy7, as_i1 (by decide), r3, a1]
      have f7 : frm PWn y y7 := by rw [← hy7]; exact r4.ti (Or.inl ⟨rfl, Or.inl rfl⟩)
      rcases c_num (lo := 0) (hi := nI P - 1) hT hnT hn1 q2 (by omega) with ⟨o2, lt2, q3, q4⟩ | ⟨o2, q3⟩
      · obtain ⟨b, b1, b2⟩ := ok_lt hT (by omega) o2
        rw [q3, am_b2s, a1, b1]
        have y7a : y7.1 254 (179 + 2 * S) = nI a := by rw [y754, upd_s]
        have frs : frm PTn s (as_i (as_i s 2 4 (nI (i + 1))) 2 4 (nI (i + 1 + 1))) := (frm.i s PT24).ti PT24
        rcases m_other (cell := 179 + 2 * S + 1) (un := 179 + 2 * S) (hi := nI P - 1) hT (by omega) (by omega) (by omega) g2 with ⟨_, z, y2, t1, t2, t3, t4⟩ | ⟨_, z, y2, t1, t2, t3⟩ | ⟨z, _⟩
        · rw [y7a, b1] at z
          have ab : a ≠ b := fun e => z (by rw [e])
          have em : y2.1 254 = upd (upd (y.1 254) (179 + 2 * S) (nI a)) (179 + 2 * S + 1) (nI b) := by rw [t3, y754, b1]
          have ya : y2.1 254 (179 + 2 * S) = nI a := by rw [em, upd_n (by omega), upd_s]
          have yb : y2.1 254 (179 + 2 * S + 1) = nI b := by rw [em, upd_s]
          have y23 : y2.1 254 3 = nI S := by rw [em, upd_n (by omega), upd_n (by omega)]; exact w3.1
          obtain ⟨v, v1, v2⟩ := m_rdSt (m := y.1 254) (s := y2) (S := S) (P := P) (a := a) (b := b) (fun j hj => by rw [em, upd_n (by omega), upd_n (by omega)]) w3.1 (by omega) (by omega) w8 (by omega) (by omega)
          rw [t1, am_b2s, am_iff (show ¬ (1 : Int32) = 0 by decide), gd_nI (by omega) (by decide), cL (by omega), am_ltd, gd_nI (by omega) (by decide), cL (by omega), ya, yb, v1, am_bds, am_iff (show ¬ nI a = nI b from fun e => z e.symm)]
          generalize hx : as_i (as_i s 2 4 (nI (i + 1))) 2 4 (nI (i + 1 + 1)) = x at *
          have ax : ∀ q, q ≠ 2 → x.1 q = s.1 q := fun q hq => by rw [← hx, as_i1 hq, as_i1 hq]
          have xs : cSt (y.1 254) x S := ds.cg (fun _ _ _ => rfl) (ax 9 (by decide)) (ax 10 (by decide)) (ax 11 (by decide))
          have x3 : x.1 6 3 = nI P := by rw [ax 6 (by decide), d3]; exact w2.1
          rw [c_hasSt6 (by omega) x3 xs a2 b2 ab, am_bds]
          by_cases has : stE (y.1 254) S a b = true
          · rw [am_b1 has, am_iff (fun z2 => absurd (v2.mpr has) (Int32.not_le.mpr z2))]
            have fl : f_X12_fails (1 : Int32) (nI (tp c T (i + 1))) y2 = some ((0 : Int32), as_i y2 248 9 (nI (fau c T (i + 1) 1))) := m_fails0 (k := 1) t2.2.1
            refine out_e (y := as_i y2 248 9 (nI (fau c T (i + 1) 1))) (fauK1 hT (i + 1)) (by omega) q4.1 frs ((f7.tr t4).ti (Or.inl ⟨rfl, Or.inr (Or.inl rfl)⟩)) as_i3 ?_ (by rw [fl, am_b2s, am_gdt (Or.inl rfl)])
            unfold j_X9_readStreet_53
            rw [c_ref (by omega) q4 (by omega), am_bds, tc60F (fl5 (fauK1 hT _))]
          · rw [am_b0 has, am_ift (Int32.not_le.mp (fun z2 => has (v2.mp z2)))]
            obtain ⟨z9, e0, e1, e2, e3, e4, e5, e6, e7⟩ := c_addSt (m := y.1 254) hS (by rw [ax 6 (by decide), d4]; exact w3.1) xs (show a < 7 by omega) (show b < 7 by omega) ab
            right
            have row : (as_i y2 254 3 (nI (S + 1))).1 254 = upd (y2.1 254) 3 (nI (S + 1)) := row_i _ _ _ _
            have mm : ∀ j, j ≠ 3 → (j < 179 + 2 * S ∨ 179 + 2 * S + 1 < j) → (as_i y2 254 3 (nI (S + 1))).1 254 j = y.1 254 j := fun j j1 j2 => by rw [row, upd_n j1, em, upd_n (by omega), upd_n (by omega)]
            have n0 : (as_i y2 254 3 (nI (S + 1))).1 254 (179 + 2 * S) = nI a := by rw [row, upd_n (by omega)]; exact ya
            have n1' : (as_i y2 254 3 (nI (S + 1))).1 254 (179 + 2 * S + 1) = nI b := by rw [row, upd_n (by omega)]; exact yb
            have ar : ∀ q, q ≠ 2 → q ≠ 6 → q ≠ 9 → q ≠ 10 → q ≠ 11 → z9.1 q = s.1 q := fun q z1 z2 z3 z4 z5 => by rw [e3 q z2 z3 z4 z5, ax q z1]
            have a6 : ∀ j, j ≠ 6 → z9.1 6 j = s.1 6 j := fun j hj => by rw [e2 j hj, ax 6 (by decide)]
            refine ⟨i + 1 + 1, z9, as_i y2 254 3 (nI (S + 1)), F, O, P, S + 1, I, H, C, ?_, ?_, q4.f e7 (fun b j z => z.1), t2.f (frm.i y2 (Or.inl rfl)), by omega, by omega, hF, ?_, ?_, frs.tr (e7.mo (fun _ _ z => Or.inr z)), (f7.tr t4).ti (Or.inr rfl)⟩
            · unfold j_X9_readStreet_60
              rw [c_fine, am_bds, am_b1 q4.2.1, e0, am_bds]
            · rw [y23, nI_1, am_ltd]
            · refine W0.of (fun j hj => mm j (by omega) (by omega)) ⟨by rw [row, upd_s], by omega⟩ ⟨by rw [mm _ (by decide) (by omega)]; exact w4.1, w4.2⟩ ⟨by rw [mm _ (by decide) (by omega)]; exact w5.1, w5.2⟩ (fun j hj => ?_) (w9.cg (fun j j1 j2 => mm j (by omega) (by omega))) (wa.cg (fun j j1 j2 => mm j (by omega) (by omega))) (wb.cg (fun j j1 j2 => mm j (by omega) (by omega)))
              by_cases e : j = S
              · subst e
                exact ⟨a, b, n0, n1', a2, b2, ab⟩
              · rw [mm _ (by omega) (by omega), mm _ (by omega) (by omega)]
                exact w8 j (by omega)
            · refine D0.of (by omega) (fun j hj => mm j (by omega) (by omega)) (fun j j1 _ _ => a6 j j1) (by rw [row, upd_s]; exact e1) (by rw [a6 _ (by decide), mm _ (by decide) (by omega)]; exact d5) (by rw [a6 _ (by decide), mm _ (by decide) (by omega)]; exact d6) (fun j hj => ?_) ⟨fun j hj => ?_, fun p hp => ?_⟩ (fun j hj => ?_) (fun j hj => ?_) (ar _ (by decide) (by decide) (by decide) (by decide) (by decide))
              · rw [ar 8 (by decide) (by decide) (by decide) (by decide) (by decide), mm _ (by omega) (by omega)]; exact dt j hj
              · by_cases e : j = S
                · subst e
                  rw [e4, e5, upd_s, upd_s, n0, n1']
                  exact ⟨rfl, rfl⟩
                · rw [e4, e5, upd_n e, upd_n e, mm _ (by omega) (by omega), mm _ (by omega) (by omega)]
                  exact xs.1 j (by omega)
              · rw [e6 p hp]
                congr 1
                refine bitsOf_congr 7 (fun q _ => ?_)
                exact (stE_sn (m := y.1 254) (fun j j1 j2 => mm j (by omega) (by omega)) n0 n1' (by omega) (by omega) p q).symm
              · rw [ar 12 (by decide) (by decide) (by decide) (by decide) (by decide), mm _ (by omega) (by omega)]; exact di j hj
              · rw [ar 13 (by decide) (by decide) (by decide) (by decide) (by decide), mm _ (by omega) (by omega)]; exact dh j hj
        · rw [y7a, b1] at z
          refine out_e (fauK1 hT (i + 1)) (by omega) q4.1 frs (f7.tr t3) t2 ?_ (by rw [t1, am_b2s, am_ift rfl])
          unfold j_X9_readStreet_53
          rw [am_ift z.symm, c_ref (by omega) q4 (by omega), am_bds, tc60F (fl5 (fauK1 hT _))]
        · exact absurd o2 z
      · rcases m_other (cell := 179 + 2 * S + 1) (un := 179 + 2 * S) (hi := nI P - 1) hT (by omega) (by omega) (by omega) g2 with ⟨z, _⟩ | ⟨z, _⟩ | ⟨_, y2, t1, t2, t3⟩
        · exact absurd z o2
        · exact absurd z o2
        · refine out_e (nF_K hT (i + 1)) (by omega) q2.1 (frm.i s PT24) (f7.tr t3) t2 ?_ (by rw [t1, am_b2s, am_ift rfl])
          rw [q3, am_b2s, a1]
          have hx : ¬ (as_i (as_i s 2 4 (nI (i + 1))) 2 5 (nI (nF c T (tp c T (i + 1))))).1 2 5 = 0 := fl5 (nF_K hT _)
          by_cases a0 : nI a = (0 : Int32)
          · rw [am_ift a0, tc53F hx]
          · have an0 : a ≠ 0 := fun e => a0 (by rw [e]; rfl)
            have hs6 := c_hasSt6 (m := y.1 254) (s := as_i (as_i s 2 4 (nI (i + 1))) 2 5 (nI (nF c T (tp c T (i + 1))))) (S := S) (P := P) (a := a) (b := 0) (by omega) (by rw [as_i1 (by decide)]; exact x63) (ds.cg (fun _ _ _ => rfl) (by rw [as_i1 (by decide), as_i1 (by decide)]) (by rw [as_i1 (by decide), as_i1 (by decide)]) (by rw [as_i1 (by decide), as_i1 (by decide)])) a2 (by omega) an0
            have hs6' : f_X8_hasStreet 6 (nI a) (0 : Int32) (as_i (as_i s 2 4 (nI (i + 1))) 2 5 (nI (nF c T (tp c T (i + 1))))) = _ := hs6
            rw [am_iff a0, hs6', am_bds]
            by_cases q : stE (y.1 254) S a 0 = true
            · rw [am_b1 q, tc53F hx]
            · rw [am_b0 q, tc60F hx]
    · exact absurd o z
  · rcases m_cell (cell := 179 + 2 * S) (lo := 0) (hi := nI P - 1) hT (by omega) hy with ⟨z, _⟩ | ⟨_, y2, r1, r2, r3⟩
    · exact absurd z o
    · refine out_e (nF_K hT i) hi hs.1 (frm.rf _ _) r3 r2 ?_ (by rw [r1, am_b2s, am_ift rfl])
      rw [q1, am_b2s, c_numF (fl5 (nF_K hT _)), am_b2s, am_ift rfl, tc53F (fl5 (nF_K hT _))]
end TX4
