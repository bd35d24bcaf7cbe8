/-! clauses of a town, in both: trust, harm, if, correct -/
theorem TWN.of {m m2 : Nat → Int32} {F O P S I H C S2 I2 H2 : Nat} (W : TWN m F O P S I H C) (e : ∀ j, (j < 3 ∨ j = 6 ∨ j = 7 ∨ j = 10 ∨ j = 269) → m2 j = m j) (e3 : m2 3 = nI S2 ∧ S2 < 11) (e4 : m2 4 = nI I2 ∧ I2 < 11) (e5 : m2 5 = nI H2 ∧ H2 < 11) (hs : pSt m2 P S2) (hi : pFi m2 F I2) (hh : pFh m2 F H2) (ht : pTr m2) : TWN m2 F O P S2 I2 H2 C := by
  obtain ⟨w0, w1, w2, w3, w4, w5, w6, w7, w8, w9, wa, wb, wc, wd_⟩ := W
  exact ⟨⟨by rw [e _ (by omega)]; exact w0.1, w0.2⟩, ⟨by rw [e _ (by omega)]; exact w1.1, w1.2⟩, ⟨by rw [e _ (by omega)]; exact w2.1, w2.2⟩, e3, e4, e5, ⟨by rw [e _ (by omega)]; exact w6.1, w6.2⟩, by rw [e _ (by omega)]; exact w7, hs, hi, hh, ht, by rw [e _ (by omega)]; exact wc, by rw [e _ (by omega)]; exact wd_⟩
theorem dC.of {m m2 : Nat → Int32} {s s2 : am_S} {F O P S I H S2 I2 H2 : Nat} (D : dC m s F O P S I H) (hP : P ≤ 7) (e : ∀ j, (j < 3 ∨ j = 10 ∨ j = 269 ∨ (11 ≤ j ∧ j < 130)) → m2 j = m j) (c6 : ∀ j, j ≠ 6 → j ≠ 10 → j ≠ 12 → s2.1 6 j = s.1 6 j) (c3 : s2.1 6 6 = m2 3) (c4 : s2.1 6 10 = m2 4) (c5 : s2.1 6 12 = m2 5) (tr : cTr m2 s2) (st : cSt m2 s2 S2) (fi : cIf m2 s2 I2) (fh : cHa m2 s2 H2) (c7 : s2.1 7 = s.1 7) : dC m2 s2 F O P S2 I2 H2 := by
  obtain ⟨⟨d0, d1, d2, d3, d4, d5, d6, d7, d8⟩, dt, ds, di, dh, dp_⟩ := D
  exact ⟨⟨by rw [c6 _ (by decide) (by decide) (by decide)]; exact d0, by rw [c6 _ (by decide) (by decide) (by decide), e _ (by omega)]; exact d1, by rw [c6 _ (by decide) (by decide) (by decide), e _ (by omega)]; exact d2, by rw [c6 _ (by decide) (by decide) (by decide), e _ (by omega)]; exact d3, c3, c4, c5, by rw [c6 _ (by decide) (by decide) (by decide), e _ (by omega)]; exact d7, by rw [c6 _ (by decide) (by decide) (by decide), e _ (by omega)]; exact d8⟩, tr, st, fi, fh, dp_.cg hP (fun j j1 j2 => e j (by omega)) c7⟩
section TX2
variable {c : Nat → Int32} {T n : Nat}
theorem tc48F {v1 v2 : Int32} {s : am_S} (h : ¬ s.1 2 5 = 0) : j_X9_readTrust_48 v1 v2 s = some s := by
  unfold j_X9_readTrust_48
  rw [c_numF h, am_b2s, c_fine, am_bds, am_b0 h]
theorem tcif {v1 v2 : Int32} {X : Option am_S} {s : am_S} (h : ¬ s.1 2 5 = 0) (hX : X = some s) : am_if (v1 = v2) (am_bd (f_X7_refuseNumber s) (fun s14 => some s14)) X = some s := by
  by_cases z : v1 = v2
  · rw [am_ift z, c_refF h, am_bds]
  · rw [am_iff z, hX]
theorem tw_trust {i F O P S I H C : Nat} {s y : am_S} (hT : T ≤ 400) (hnT : n ≤ T) (hn1 : tp c T n = T) (hs : TC c T n i s) (hy : TD c T i y) (hi : i ≤ n) (hF : 0 < F) (W : TWN (y.1 254) F O P S I H C) (D : dC (y.1 254) s F O P S I H) : OUT c T n s y i (f_X9_readTrust s) (am_b2 (f_X12_cellHere (nI 9) (0 : Int32) ((y.1 254 2) - (1 : Int32)) y) (fun v2 s3 => am_if (v2 = 0) (some ((0 : Int32), s3)) (am_b2 (f_X12_otherHere (nI 8) (nI 9) ((s3.1 254 2) - (1 : Int32)) s3) (fun v4 s5 => am_if (v4 = 0) (some ((0 : Int32), s5)) (am_b2 (f_X12_cellHere (((nI 130) + ((nI 7) * (s5.1 254 9))) + (s5.1 254 8)) (0 : Int32) (nI 9) s5) (fun v6 s7 => am_gd (v6 = 0 ∨ v6 = 1) (some (v6, s7)))))))) := by
  have W0 := W
  have D0 := D
  obtain ⟨w0, w1, w2, w3, w4, w5, w6, w7, w8, w9, wa, wb, wc, wd_⟩ := W
  obtain ⟨⟨d0, d1, d2, d3, d4, d5, d6, d7, d8⟩, dt, ds, di, dh, dp_⟩ := D
  unfold f_X9_readTrust
  have fin : ∀ (v1 v2 : Int32) (x : am_S), ¬ x.1 2 5 = 0 → am_if (v1 = v2) (am_bd (f_X7_refuseNumber x) (fun s14 => j_X9_readTrust_48 v1 v2 s14)) (j_X9_readTrust_48 v1 v2 x) = some x := fun v1 v2 x hx => by
    by_cases z : v1 = v2
    · rw [am_ift z, c_refF hx, am_bds, tc48F hx]
    · rw [am_iff z, tc48F hx]
  rw [d3, w2.1]
  rcases c_num (lo := 0) (hi := nI P - 1) hT hnT hn1 hs hi with ⟨o, lt, q1, q2⟩ | ⟨o, q1⟩
  · rcases m_cell (cell := 9) (lo := 0) (hi := nI P - 1) hT (by decide) hy with ⟨_, y1, r1, r2, r3, r4⟩ | ⟨z, _⟩
    · obtain ⟨a, a1, a2⟩ := ok_lt hT (by omega) o
      have y12 : y1.1 254 2 = nI P := by rw [r3, upd_n (by decide)]; exact w2.1
      have x63 : (as_i s 2 4 (nI (i + 1))).1 6 3 = nI P := by rw [as_i1 (by decide), d3]; exact w2.1
      rw [q1, am_b2s, x63, r1, am_b2s, am_iff (by decide), y12]
      rcases c_num (lo := 0) (hi := nI P - 1) hT hnT hn1 q2 (by omega) with ⟨o2, lt2, q3, q4⟩ | ⟨o2, q3⟩
      · obtain ⟨b, b1, b2⟩ := ok_lt hT (by omega) o2
        have y19 : y1.1 254 9 = nI a := by rw [r3, upd_s, a1]
        rw [q3, am_b2s]
        rcases m_other (cell := 8) (un := 9) (hi := nI P - 1) hT (by decide) (by decide) (by decide) r2 with ⟨_, z, y2, t1, t2, t3, t4⟩ | ⟨_, z, y2, t1, t2, t3⟩ | ⟨z, _⟩
        · rw [t1, am_b2s, am_iff (show ¬ (1 : Int32) = 0 by decide)]
          rw [y19, b1] at z
          have ab : ¬ a = b := fun e => z (by rw [e])
          have y29 : y2.1 254 9 = nI a := by rw [t3, upd_n (by decide), y19]
          have y28 : y2.1 254 8 = nI b := by rw [t3, upd_s, b1]
          rw [a1, b1, am_iff (show ¬ nI a = nI b from fun e => z e.symm), y29, y28, pk_mul, nI_add, nI_add]
          unfold j_X9_readTrust_48
          rcases c_num (lo := 0) (hi := nI 9) hT hnT hn1 q4 (by omega) with ⟨o3, lt3, q5, q6⟩ | ⟨o3, q5⟩
          · rcases m_cell (cell := 130 + 7 * a + b) (lo := 0) (hi := nI 9) hT (by omega) t2 with ⟨_, y3, u1, u2, u3, u4⟩ | ⟨z3, _⟩
            · obtain ⟨v, v1, v2, _⟩ := ok_le hT (by decide) o3
              right
              have em : y3.1 254 = upd (upd (upd (y.1 254) 9 (nI a)) 8 (nI b)) (130 + 7 * a + b) (nI v) := by rw [u3, t3, r3, a1, b1, v1]
              have mm : ∀ j, j ≠ 8 → j ≠ 9 → j ≠ 130 + 7 * a + b → y3.1 254 j = y.1 254 j := fun j j1 j2 j3 => by rw [em, upd_n j3, upd_n j1, upd_n j2]
              generalize hx : as_i (as_i (as_i s 2 4 (nI (i + 1))) 2 4 (nI (i + 1 + 1))) 2 4 (nI (i + 1 + 1 + 1)) = x at *
              have ax : ∀ q, q ≠ 2 → x.1 q = s.1 q := fun q hq => by rw [← hx, as_i1 hq, as_i1 hq, as_i1 hq]
              have ar : ∀ q, q ≠ 2 → q ≠ 8 → (as_i x 8 (7 * a + b) (nI v)).1 q = s.1 q := fun q q1 q2 => by rw [as_i1 q2, ax q q1]
              refine ⟨i + 1 + 1 + 1, as_i x 8 (7 * a + b) (nI v), y3, F, O, P, S, I, H, C, ?_, ?_, q6.f (frm.i _ (P := fun b j => b = 8) rfl) (by intro b j z; have : b = 8 := z; omega), u2, by omega, lt3, hF, ?_, ?_, ?_, (r4.tr t4).tr u4⟩
              · rw [q5, am_b2s, c_fine, am_bds, am_b1 q6.2.1, pk_mul, nI_add, gd_nI (by omega) (by decide), cL (by omega), am_ltd, v1, show a * 7 + b = 7 * a + b by omega]
              · rw [u1, am_b2s, am_gdt (Or.inr rfl)]
              · refine W0.of (fun j hj => mm j (by omega) (by omega) (by omega)) ⟨by rw [mm _ (by decide) (by decide) (by omega)]; exact w3.1, w3.2⟩ ⟨by rw [mm _ (by decide) (by decide) (by omega)]; exact w4.1, w4.2⟩ ⟨by rw [mm _ (by decide) (by decide) (by omega)]; exact w5.1, w5.2⟩ (w8.cg (by omega) (Nat.le_refl _) (fun j j1 j2 => mm j (by omega) (by omega) (by omega))) (w9.cg (fun j j1 j2 => mm j (by omega) (by omega) (by omega))) (wa.cg (fun j j1 j2 => mm j (by omega) (by omega) (by omega))) (fun j hj => ?_)
                by_cases z4 : j = 7 * a + b
                · exact ⟨v, by rw [z4, ← Nat.add_assoc, em, upd_s], by omega⟩
                · rw [mm _ (by omega) (by omega) (by omega)]; exact wb j hj
              · refine D0.of (by omega) (fun j hj => mm j (by omega) (by omega) (by omega)) (fun j _ _ _ => by rw [ar 6 (by decide) (by decide)]) (by rw [ar 6 (by decide) (by decide), mm _ (by decide) (by decide) (by omega)]; exact d4) (by rw [ar 6 (by decide) (by decide), mm _ (by decide) (by decide) (by omega)]; exact d5) (by rw [ar 6 (by decide) (by decide), mm _ (by decide) (by decide) (by omega)]; exact d6) (fun j hj => ?_) (ds.cg (fun j j1 j2 => mm j (by omega) (by omega) (by omega)) (ar _ (by decide) (by decide)) (ar _ (by decide) (by decide)) (ar _ (by decide) (by decide))) (fun j hj => ?_) (fun j hj => ?_) (ar _ (by decide) (by decide))
                · by_cases z4 : j = 7 * a + b
                  · rw [z4, as_i3, ← Nat.add_assoc, em, upd_s]
                  · rw [as_i2 z4, ax 8 (by decide), mm _ (by omega) (by omega) (by omega)]; exact dt j hj
                · rw [ar 12 (by decide) (by decide), mm _ (by omega) (by omega) (by omega)]; exact di j hj
                · rw [ar 13 (by decide) (by decide), mm _ (by omega) (by omega) (by omega)]; exact dh j hj
              · rw [← hx]
                exact (((frm.i s PT24).ti PT24).ti PT24).ti (PTd (by decide))
            · exact absurd o3 z3
          · rcases m_cell (cell := 130 + 7 * a + b) (lo := 0) (hi := nI 9) hT (by omega) t2 with ⟨z3, _⟩ | ⟨_, y3, u1, u2, u3⟩
            · exact absurd z3 o3
            · refine out_e (nF_K hT (i + 1 + 1)) (by omega) q4.1 ((frm.i s PT24).ti PT24) ((r4.tr t4).tr u3) u2 ?_ (by rw [u1, am_b2s, am_gdt (Or.inl rfl)])
              rw [q5, am_b2s, c_fine, am_bds, am_b0 (fl5 (nF_K hT _))]
        · rw [t1, am_b2s, am_ift rfl]
          rw [y19, b1] at z
          refine out_e (fauK1 hT (i + 1)) (by omega) q4.1 ((frm.i s PT24).ti PT24) (r4.tr t3) t2 ?_ rfl
          rw [a1, b1, am_ift z.symm, c_ref (by omega) q4 (by omega), am_bds, tc48F (fl5 (fauK1 hT _))]
        · exact absurd o2 z
      · rcases m_other (cell := 8) (un := 9) (hi := nI P - 1) hT (by decide) (by decide) (by decide) r2 with ⟨z, _⟩ | ⟨z, _⟩ | ⟨_, y2, t1, t2, t3⟩
        · exact absurd z o2
        · exact absurd z o2
        · refine out_e (nF_K hT (i + 1)) (by omega) q2.1 (frm.i s PT24) (r4.tr t3) t2 ?_ (by rw [t1, am_b2s, am_ift rfl])
          rw [q3, am_b2s, fin _ _ _ (fl5 (nF_K hT _))]
    · exact absurd o z
  · rcases m_cell (cell := 9) (lo := 0) (hi := nI P - 1) hT (by decide) hy with ⟨z, _⟩ | ⟨_, y2, r1, r2, r3⟩
    · exact absurd z o
    · refine out_e (nF_K hT i) hi hs.1 (frm.rf _ _) r3 r2 ?_ (by rw [r1, am_b2s, am_ift rfl])
      rw [q1, am_b2s, c_numF (fl5 (nF_K hT _)), am_b2s, fin _ _ _ (fl5 (nF_K hT _))]
theorem tw_harm {i F O P S I H C : Nat} {s y : am_S} (hT : T ≤ 400) (hnT : n ≤ T) (hn1 : tp c T n = T) (hs : TC c T n i s) (hy : TD c T i y) (hi : i ≤ n) (hF : 0 < F) (hH : H < 10) (W : TWN (y.1 254) F O P S I H C) (D : dC (y.1 254) s F O P S I H) : OUT c T n s y i (f_X9_readHarm s) (am_lt ((nI 239) + ((nI 3) * (y.1 254 5))) (fun v3 => am_b2 (f_X12_cellHere v3 (0 : Int32) ((y.1 254 0) - (1 : Int32)) y) (fun v4 s5 => am_if (v4 = 0) (some ((0 : Int32), s5)) (am_b2 (f_X12_cellHere (v3 + (1 : Int32)) (0 : Int32) (1 : Int32) s5) (fun v6 s7 => am_if (v6 = 0) (some ((0 : Int32), s7)) (am_b2 (f_X12_cellHere (v3 + (nI 2)) (1 : Int32) (nI 99) s7) (fun v8 s9 => am_if (v8 = 0) (some ((0 : Int32), s9)) (am_lt (as_i s9 254 5 ((s9.1 254 5) + (1 : Int32))) (fun s10 => some ((1 : Int32), s10)))))))))) := by
  have W0 := W
  have D0 := D
  obtain ⟨w0, w1, w2, w3, w4, w5, w6, w7, w8, w9, wa, wb, wc, wd_⟩ := W
  obtain ⟨⟨d0, d1, d2, d3, d4, d5, d6, d7, d8⟩, dt, ds, di, dh, dp_⟩ := D
  unfold f_X9_readHarm
  rw [d1, w0.1, w5.1, pk_mul, nI_add, am_ltd, nI_1, nI_add]
  rcases c_num (lo := 0) (hi := nI F - 1) hT hnT hn1 hs hi with ⟨o, lt, q1, q2⟩ | ⟨o, q1⟩
  · rcases m_cell (cell := 239 + 3 * H) (lo := 0) (hi := nI F - 1) hT (by omega) hy with ⟨_, y1, r1, r2, r3, r4⟩ | ⟨z, _⟩
    · obtain ⟨a, a1, a2⟩ := ok_lt hT (by omega) o
      rw [q1, am_b2s, r1, am_b2s, am_iff (by decide)]
      rcases c_num (lo := 0) (hi := 1) hT hnT hn1 q2 (by omega) with ⟨o2, lt2, q3, q4⟩ | ⟨o2, q3⟩
      · rcases m_cell (cell := 239 + 3 * H + 1) (lo := 0) (hi := 1) hT (by omega) r2 with ⟨_, y2, t1, t2, t3, t4⟩ | ⟨z, _⟩
        · obtain ⟨b, b1, b2, _⟩ := ok_le (h := 1) hT (by decide) o2
          rw [q3, am_b2s, t1, am_b2s, am_iff (by decide)]
          rcases c_num (lo := 1) (hi := nI 99) hT hnT hn1 q4 (by omega) with ⟨o3, lt3, q5, q6⟩ | ⟨o3, q5⟩
          · rcases m_cell (cell := 239 + 3 * H + 2) (lo := 1) (hi := nI 99) hT (by omega) t2 with ⟨_, y3, u1, u2, u3, u4⟩ | ⟨z3, _⟩
            · obtain ⟨v, v1, v2, _⟩ := ok_le hT (by decide) o3
              right
              have em : y3.1 254 = upd (upd (upd (y.1 254) (239 + 3 * H) (nI a)) (239 + 3 * H + 1) (nI b)) (239 + 3 * H + 2) (nI v) := by rw [u3, t3, r3, a1, b1, v1]
              have y35 : y3.1 254 5 = nI H := by rw [em, upd_n (by omega), upd_n (by omega), upd_n (by omega)]; exact w5.1
              have row : (as_i y3 254 5 (nI (H + 1))).1 254 = upd (y3.1 254) 5 (nI (H + 1)) := row_i _ _ _ _
              have mm : ∀ j, j ≠ 5 → (j < 239 + 3 * H ∨ 239 + 3 * H + 2 < j) → (as_i y3 254 5 (nI (H + 1))).1 254 j = y.1 254 j := fun j j1 j2 => by rw [row, upd_n j1, em, upd_n (by omega), upd_n (by omega), upd_n (by omega)]
              have n0 : (as_i y3 254 5 (nI (H + 1))).1 254 (239 + 3 * H) = nI a := by rw [row, upd_n (by omega), em, upd_n (by omega), upd_n (by omega), upd_s]
              have n1' : (as_i y3 254 5 (nI (H + 1))).1 254 (239 + 3 * H + 1) = nI b := by rw [row, upd_n (by omega), em, upd_n (by omega), upd_s]
              have n2 : (as_i y3 254 5 (nI (H + 1))).1 254 (239 + 3 * H + 2) = nI v := by rw [row, upd_n (by omega), em, upd_s]
              have zb : isZ (nI b) := by
                have : b = 0 ∨ b = 1 := by omega
                rcases this with rfl | rfl
                · exact Or.inl rfl
                · exact Or.inr rfl
              generalize hx : as_i (as_i (as_i s 2 4 (nI (i + 1))) 2 4 (nI (i + 1 + 1))) 2 4 (nI (i + 1 + 1 + 1)) = x at *
              have ax : ∀ q, q ≠ 2 → x.1 q = s.1 q := fun q hq => by rw [← hx, as_i1 hq, as_i1 hq, as_i1 hq]
              have x6 : x.1 6 12 = nI H := by rw [ax 6 (by decide), d6]; exact w5.1
              have add : f_X8_addHarm (nI a) (nI b) (nI v) x = some (as_i (as_i (as_i (as_i x 13 (3 * H) (nI a)) 13 (3 * H + 1) (nI b)) 13 (3 * H + 2) (nI v)) 6 12 (nI (H + 1))) := by
                unfold f_X8_addHarm
                have k1 : (as_i x 13 (3 * H) (nI a)).1 6 12 = nI H := by rw [as_i1 (by decide)]; exact x6
                have k2 : (as_i (as_i x 13 (3 * H) (nI a)) 13 (3 * H + 1) (nI b)).1 6 12 = nI H := by rw [as_i1 (by decide)]; exact k1
                have k3 : (as_i (as_i (as_i x 13 (3 * H) (nI a)) 13 (3 * H + 1) (nI b)) 13 (3 * H + 2) (nI v)).1 6 12 = nI H := by rw [as_i1 (by decide)]; exact k2
                rw [x6, am_iff (nI_ge hH (by decide)), pk_mul, gd_nI (by omega) (by decide), cL (by omega), am_ltd, k1, pk_mul, nI_1, gd_nI (by omega) (by decide), cL (by omega), am_ltd, k2, pk_mul, nI_add, gd_nI (by omega) (by decide), cL (by omega), am_ltd, k3, nI_1, am_ltd]
              generalize hz : as_i (as_i (as_i (as_i x 13 (3 * H) (nI a)) 13 (3 * H + 1) (nI b)) 13 (3 * H + 2) (nI v)) 6 12 (nI (H + 1)) = z at *
              have ar : ∀ q, q ≠ 2 → q ≠ 6 → q ≠ 13 → z.1 q = s.1 q := fun q z1 z2 z3 => by rw [← hz, as_i1 z2, as_i1 z3, as_i1 z3, as_i1 z3, ax q z1]
              have a6 : ∀ j, j ≠ 12 → z.1 6 j = s.1 6 j := fun j hj => by rw [← hz, as_i2 hj, as_i1 (by decide), as_i1 (by decide), as_i1 (by decide), ax 6 (by decide)]
              have fz : frm PTn s z := by
                rw [← hz, ← hx]
                exact ((((((frm.i s PT24).ti PT24).ti PT24).ti (PTd (by decide))).ti (PTd (by decide))).ti (PTd (by decide))).ti (PTd (by decide))
              refine ⟨i + 1 + 1 + 1, z, as_i y3 254 5 (nI (H + 1)), F, O, P, S, I, H + 1, C, ?_, ?_, ?_, u2.f (frm.i y3 (Or.inl rfl)), by omega, lt3, hF, ?_, ?_, fz, ((r4.tr t4).tr u4).ti (Or.inr rfl)⟩
              · rw [q5, am_b2s, c_fine, am_bds, am_b1 q6.2.1, a1, b1, v1, add, am_bds]
              · rw [u1, am_b2s, am_iff (by decide), y35, nI_1, am_ltd]
              · refine q6.f (P := fun b j => b = 6 ∨ b = 13) ?_ (by intro b j z; have : b = 6 ∨ b = 13 := z; omega)
                rw [← hz]
                exact (((frm.i x (Or.inr rfl)).ti (Or.inr rfl)).ti (Or.inr rfl)).ti (Or.inl rfl)
              · refine W0.of (fun j hj => mm j (by omega) (by omega)) ⟨by rw [mm _ (by decide) (by omega)]; exact w3.1, w3.2⟩ ⟨by rw [mm _ (by decide) (by omega)]; exact w4.1, w4.2⟩ ⟨by rw [row, upd_s], by omega⟩ (w8.cg (by omega) (Nat.le_refl _) (fun j j1 j2 => mm j (by omega) (by omega))) (w9.cg (fun j j1 j2 => mm j (by omega) (by omega))) (fun j hj => ?_) (wb.cg (fun j j1 j2 => mm j (by omega) (by omega)))
                by_cases e : j = H
                · subst e
                  exact ⟨a, v, n0, a2, by rw [n1']; exact zb, n2, by omega⟩
                · rw [mm _ (by omega) (by omega), mm _ (by omega) (by omega), mm _ (by omega) (by omega)]
                  exact wa j (by omega)
              · refine D0.of (by omega) (fun j hj => mm j (by omega) (by omega)) (fun j _ _ j3 => a6 j j3) (by rw [a6 _ (by decide), mm _ (by decide) (by omega)]; exact d4) (by rw [a6 _ (by decide), mm _ (by decide) (by omega)]; exact d5) (by rw [row, upd_s, ← hz, as_i3]) (fun j hj => ?_) (ds.cg (fun j j1 j2 => mm j (by omega) (by omega)) (ar _ (by decide) (by decide) (by decide)) (ar _ (by decide) (by decide) (by decide)) (ar _ (by decide) (by decide) (by decide))) (fun j hj => ?_) (fun j hj => ?_) (ar _ (by decide) (by decide) (by decide))
                · rw [ar 8 (by decide) (by decide) (by decide), mm _ (by omega) (by omega)]; exact dt j hj
                · rw [ar 12 (by decide) (by decide) (by decide), mm _ (by omega) (by omega)]; exact di j hj
                · have z13 : z.1 13 j = if j = 3 * H + 2 then nI v else if j = 3 * H + 1 then nI b else if j = 3 * H then nI a else s.1 13 j := by
                    rw [← hz, as_i1 (by decide), rd_i, rd_i, rd_i, ax 13 (by decide)]
                    simp only [true_and]
                  rw [z13]
                  by_cases e2 : j = 3 * H + 2
                  · rw [if_pos e2, e2, ← Nat.add_assoc]; exact n2.symm
                  · rw [if_neg e2]
                    by_cases e1 : j = 3 * H + 1
                    · rw [if_pos e1, e1, ← Nat.add_assoc]; exact n1'.symm
                    · rw [if_neg e1]
                      by_cases e0 : j = 3 * H
                      · rw [if_pos e0, e0]; exact n0.symm
                      · rw [if_neg e0, mm _ (by omega) (by omega)]; exact dh j (by omega)
            · exact absurd o3 z3
          · rcases m_cell (cell := 239 + 3 * H + 2) (lo := 1) (hi := nI 99) hT (by omega) t2 with ⟨z3, _⟩ | ⟨_, y3, u1, u2, u3⟩
            · exact absurd z3 o3
            · refine out_e (nF_K hT (i + 1 + 1)) (by omega) q4.1 ((frm.i s PT24).ti PT24) ((r4.tr t4).tr u3) u2 ?_ (by rw [u1, am_b2s, am_ift rfl])
              rw [q5, am_b2s, c_fine, am_bds, am_b0 (fl5 (nF_K hT _))]
        · exact absurd o2 z
      · rcases m_cell (cell := 239 + 3 * H + 1) (lo := 0) (hi := 1) hT (by omega) r2 with ⟨z, _⟩ | ⟨_, y2, t1, t2, t3⟩
        · exact absurd z o2
        · refine out_e (nF_K hT (i + 1)) (by omega) q2.1 (frm.i s PT24) (r4.tr t3) t2 ?_ (by rw [t1, am_b2s, am_ift rfl])
          rw [q3, am_b2s, c_numF (fl5 (nF_K hT _)), am_b2s, c_fine, am_bds, am_b0 (fl5 (nF_K hT _))]
    · exact absurd o z
  · rcases m_cell (cell := 239 + 3 * H) (lo := 0) (hi := nI F - 1) hT (by omega) hy with ⟨z, _⟩ | ⟨_, y2, r1, r2, r3⟩
    · exact absurd z o
    · refine out_e (nF_K hT i) hi hs.1 (frm.rf _ _) r3 r2 ?_ (by rw [r1, am_b2s, am_ift rfl])
      rw [q1, am_b2s, c_numF (fl5 (nF_K hT _)), am_b2s, c_numF (fl5 (nF_K hT _)), am_b2s, c_fine, am_bds, am_b0 (fl5 (nF_K hT _))]
end TX2
