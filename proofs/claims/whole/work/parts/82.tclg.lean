/-! clauses of a town, in both: if, correct, street -/
section TX3
variable {c : Nat → Int32} {T n : Nat}
theorem isZb {b : Nat} (h : b ≤ 1) : isZ (nI b) := by
  have : b = 0 ∨ b = 1 := by omega
  rcases this with rfl | rfl
  · exact Or.inl rfl
  · exact Or.inr rfl
theorem tc58F {v1 v2 v3 : Int32} {s : am_S} (h : ¬ s.1 2 5 = 0) : j_X9_readIf_58 v1 v2 v3 s = some s := by
  unfold j_X9_readIf_58
  rw [c_numF h, am_b2s, c_fine, am_bds, am_b0 h]
theorem tw_if {i F O P S I H C : Nat} {s y : am_S} (hT : T ≤ 400) (hnT : n ≤ T) (hn1 : tp c T n = T) (hs : TC c T n i s) (hy : TD c T i y) (hi : i ≤ n) (hF : 0 < F) (hI : I < 10) (W : TWN (y.1 254) F O P S I H C) (D : dC (y.1 254) s F O P S I H) : OUT c T n s y i (f_X9_readIf s) (am_lt ((nI 199) + ((nI 4) * (y.1 254 4))) (fun v3 => am_b2 (f_X12_cellHere v3 (0 : Int32) ((y.1 254 0) - (1 : Int32)) y) (fun v4 s5 => am_if (v4 = 0) (some ((0 : Int32), s5)) (am_b2 (f_X12_cellHere (v3 + (1 : Int32)) (0 : Int32) (1 : Int32) s5) (fun v6 s7 => am_if (v6 = 0) (some ((0 : Int32), s7)) (am_b2 (f_X12_otherHere (v3 + (nI 2)) v3 ((s7.1 254 0) - (1 : Int32)) s7) (fun v8 s9 => am_if (v8 = 0) (some ((0 : Int32), s9)) (am_b2 (f_X12_cellHere (v3 + (nI 3)) (0 : Int32) (1 : Int32) s9) (fun v10 s11 => am_if (v10 = 0) (some ((0 : Int32), s11)) (am_lt (as_i s11 254 4 ((s11.1 254 4) + (1 : Int32))) (fun s12 => some ((1 : Int32), s12)))))))))))) := by
  have W0 := W
  have D0 := D
  obtain ⟨w0, w1, w2, w3, w4, w5, w6, w7, w8, w9, wa, wb, wc, wd_⟩ := W
  obtain ⟨⟨d0, d1, d2, d3, d4, d5, d6, d7, d8⟩, dt, ds, di, dh, dp_⟩ := D
  unfold f_X9_readIf
  have fin : ∀ (v1 v2 v3 : Int32) (x : am_S), ¬ x.1 2 5 = 0 → am_if (v1 = v3) (am_bd (f_X7_refuseNumber x) (fun s16 => j_X9_readIf_58 v1 v2 v3 s16)) (j_X9_readIf_58 v1 v2 v3 x) = some x := fun v1 v2 v3 x hx => by
    by_cases z : v1 = v3
    · rw [am_ift z, c_refF hx, am_bds, tc58F hx]
    · rw [am_iff z, tc58F hx]
  rw [d1, w0.1, w4.1, pk_mul, nI_add, am_ltd, nI_1, nI_add, nI_add]
  rcases c_num (lo := 0) (hi := nI F - 1) hT hnT hn1 hs hi with ⟨o, lt, q1, q2⟩ | ⟨o, q1⟩
  · rcases m_cell (cell := 199 + 4 * I) (lo := 0) (hi := nI F - 1) hT (by omega) hy with ⟨_, y1, r1, r2, r3, r4⟩ | ⟨z, _⟩
    · obtain ⟨a, a1, a2⟩ := ok_lt hT (by omega) o
      rw [q1, am_b2s, r1, am_b2s, am_iff (show ¬ (1 : Int32) = 0 by decide)]
      rcases c_num (lo := 0) (hi := 1) hT hnT hn1 q2 (by omega) with ⟨o2, lt2, q3, q4⟩ | ⟨o2, q3⟩
      · rcases m_cell (cell := 199 + 4 * I + 1) (lo := 0) (hi := 1) hT (by omega) r2 with ⟨_, y2, t1, t2, t3, t4⟩ | ⟨z, _⟩
        · obtain ⟨b, b1, b2, _⟩ := ok_le (h := 1) hT (by decide) o2
          have y20 : y2.1 254 0 = nI F := by rw [t3, upd_n (by omega), r3, upd_n (by omega)]; exact w0.1
          have x61 : (as_i (as_i s 2 4 (nI (i + 1))) 2 4 (nI (i + 1 + 1))).1 6 1 = nI F := by rw [as_i1 (by decide), as_i1 (by decide), d1]; exact w0.1
          have y2a : y2.1 254 (199 + 4 * I) = nI a := by rw [t3, upd_n (by omega), r3, upd_s, a1]
          rw [q3, am_b2s, t1, am_b2s, am_iff (show ¬ (1 : Int32) = 0 by decide), y20, x61]
          rcases c_num (lo := 0) (hi := nI F - 1) hT hnT hn1 q4 (by omega) with ⟨o3, lt3, q5, q6⟩ | ⟨o3, q5⟩
          · obtain ⟨d, e1, e2⟩ := ok_lt hT (by omega) o3
            rw [q5, am_b2s]
            rcases m_other (cell := 199 + 4 * I + 2) (un := 199 + 4 * I) (hi := nI F - 1) hT (by omega) (by omega) (by omega) t2 with ⟨_, z, y3, u1, u2, u3, u4⟩ | ⟨_, z, y3, u1, u2, u3⟩ | ⟨z, _⟩
            · rw [y2a, e1] at z
              rw [u1, am_b2s, am_iff (show ¬ (1 : Int32) = 0 by decide), a1, e1, am_iff (show ¬ nI a = nI d from fun q => z q.symm)]
              unfold j_X9_readIf_58
              rcases c_num (lo := 0) (hi := 1) hT hnT hn1 q6 (by omega) with ⟨o4, lt4, q7, q8⟩ | ⟨o4, q7⟩
              · rcases m_cell (cell := 199 + 4 * I + 3) (lo := 0) (hi := 1) hT (by omega) u2 with ⟨_, y4, p1, p2, p3, p4⟩ | ⟨z3, _⟩
                · obtain ⟨v, v1, v2, _⟩ := ok_le (h := 1) hT (by decide) o4
                  right
                  have em : y4.1 254 = upd (upd (upd (upd (y.1 254) (199 + 4 * I) (nI a)) (199 + 4 * I + 1) (nI b)) (199 + 4 * I + 2) (nI d)) (199 + 4 * I + 3) (nI v) := by rw [p3, u3, t3, r3, a1, b1, e1, v1]
                  have y44 : y4.1 254 4 = nI I := by rw [em, upd_n (by omega), upd_n (by omega), upd_n (by omega), upd_n (by omega)]; exact w4.1
                  have row : (as_i y4 254 4 (nI (I + 1))).1 254 = upd (y4.1 254) 4 (nI (I + 1)) := row_i _ _ _ _
                  have mm : ∀ j, j ≠ 4 → (j < 199 + 4 * I ∨ 199 + 4 * I + 3 < j) → (as_i y4 254 4 (nI (I + 1))).1 254 j = y.1 254 j := fun j j1 j2 => by rw [row, upd_n j1, em, upd_n (by omega), upd_n (by omega), upd_n (by omega), upd_n (by omega)]
                  have n0 : (as_i y4 254 4 (nI (I + 1))).1 254 (199 + 4 * I) = nI a := by rw [row, upd_n (by omega), em, upd_n (by omega), upd_n (by omega), upd_n (by omega), upd_s]
                  have n1' : (as_i y4 254 4 (nI (I + 1))).1 254 (199 + 4 * I + 1) = nI b := by rw [row, upd_n (by omega), em, upd_n (by omega), upd_n (by omega), upd_s]
                  have n2 : (as_i y4 254 4 (nI (I + 1))).1 254 (199 + 4 * I + 2) = nI d := by rw [row, upd_n (by omega), em, upd_n (by omega), upd_s]
                  have n3 : (as_i y4 254 4 (nI (I + 1))).1 254 (199 + 4 * I + 3) = nI v := by rw [row, upd_n (by omega), em, upd_s]
                  generalize hx : as_i (as_i (as_i (as_i s 2 4 (nI (i + 1))) 2 4 (nI (i + 1 + 1))) 2 4 (nI (i + 1 + 1 + 1))) 2 4 (nI (i + 1 + 1 + 1 + 1)) = x at *
                  have ax : ∀ q, q ≠ 2 → x.1 q = s.1 q := fun q hq => by rw [← hx, as_i1 hq, as_i1 hq, as_i1 hq, as_i1 hq]
                  have x6 : x.1 6 10 = nI I := by rw [ax 6 (by decide), d5]; exact w4.1
                  have add : f_X8_addIf (nI a) (nI b) (nI d) (nI v) x = some (as_i (as_i (as_i (as_i (as_i x 12 (4 * I) (nI a)) 12 (4 * I + 1) (nI b)) 12 (4 * I + 2) (nI d)) 12 (4 * I + 3) (nI v)) 6 10 (nI (I + 1))) := by
                    unfold f_X8_addIf
                    have k1 : (as_i x 12 (4 * I) (nI a)).1 6 10 = nI I := by rw [as_i1 (by decide)]; exact x6
                    have k2 : (as_i (as_i x 12 (4 * I) (nI a)) 12 (4 * I + 1) (nI b)).1 6 10 = nI I := by rw [as_i1 (by decide)]; exact k1
                    have k3 : (as_i (as_i (as_i x 12 (4 * I) (nI a)) 12 (4 * I + 1) (nI b)) 12 (4 * I + 2) (nI d)).1 6 10 = nI I := by rw [as_i1 (by decide)]; exact k2
                    have k4 : (as_i (as_i (as_i (as_i x 12 (4 * I) (nI a)) 12 (4 * I + 1) (nI b)) 12 (4 * I + 2) (nI d)) 12 (4 * I + 3) (nI v)).1 6 10 = nI I := by rw [as_i1 (by decide)]; exact k3
                    rw [x6, am_iff (nI_ge hI (by decide)), pk_mul, gd_nI (by omega) (by decide), cL (by omega), am_ltd, k1, pk_mul, nI_1, gd_nI (by omega) (by decide), cL (by omega), am_ltd, k2, pk_mul, nI_add, gd_nI (by omega) (by decide), cL (by omega), am_ltd, k3, pk_mul, nI_add, gd_nI (by omega) (by decide), cL (by omega), am_ltd, k4, nI_1, am_ltd]
                  generalize hz : as_i (as_i (as_i (as_i (as_i x 12 (4 * I) (nI a)) 12 (4 * I + 1) (nI b)) 12 (4 * I + 2) (nI d)) 12 (4 * I + 3) (nI v)) 6 10 (nI (I + 1)) = z at *
                  have ar : ∀ q, q ≠ 2 → q ≠ 6 → q ≠ 12 → z.1 q = s.1 q := fun q z1 z2 z3 => by rw [← hz, as_i1 z2, as_i1 z3, as_i1 z3, as_i1 z3, as_i1 z3, ax q z1]
                  have a6 : ∀ j, j ≠ 10 → z.1 6 j = s.1 6 j := fun j hj => by rw [← hz, as_i2 hj, as_i1 (by decide), as_i1 (by decide), as_i1 (by decide), as_i1 (by decide), ax 6 (by decide)]
                  have fz : frm PTn s z := by
                    rw [← hz, ← hx]
                    exact ((((((((frm.i s PT24).ti PT24).ti PT24).ti PT24).ti (PTd (by decide))).ti (PTd (by decide))).ti (PTd (by decide))).ti (PTd (by decide))).ti (PTd (by decide))
                  refine ⟨i + 1 + 1 + 1 + 1, z, as_i y4 254 4 (nI (I + 1)), F, O, P, S, I + 1, H, C, ?_, ?_, ?_, p2.f (frm.i y4 (Or.inl rfl)), by omega, lt4, hF, ?_, ?_, fz, (((r4.tr t4).tr u4).tr p4).ti (Or.inr rfl)⟩
                  · rw [q7, am_b2s, c_fine, am_bds, am_b1 q8.2.1, b1, v1, add, am_bds]
                  · rw [p1, am_b2s, am_iff (by decide), y44, nI_1, am_ltd]
                  · refine q8.f (P := fun b j => b = 6 ∨ b = 12) ?_ (by intro b j z; have : b = 6 ∨ b = 12 := z; omega)
                    rw [← hz]
                    exact ((((frm.i x (Or.inr rfl)).ti (Or.inr rfl)).ti (Or.inr rfl)).ti (Or.inr rfl)).ti (Or.inl rfl)
                  · refine W0.of (fun j hj => mm j (by omega) (by omega)) ⟨by rw [mm _ (by decide) (by omega)]; exact w3.1, w3.2⟩ ⟨by rw [row, upd_s], by omega⟩ ⟨by rw [mm _ (by decide) (by omega)]; exact w5.1, w5.2⟩ (w8.cg (by omega) (Nat.le_refl _) (fun j j1 j2 => mm j (by omega) (by omega))) (fun j hj => ?_) (wa.cg (fun j j1 j2 => mm j (by omega) (by omega))) (wb.cg (fun j j1 j2 => mm j (by omega) (by omega)))
                    by_cases e : j = I
                    · subst e
                      exact ⟨a, d, n0, a2, by rw [n1']; exact isZb b2, n2, e2, by rw [n3]; exact isZb v2⟩
                    · rw [mm _ (by omega) (by omega), mm _ (by omega) (by omega), mm _ (by omega) (by omega), mm _ (by omega) (by omega)]
                      exact w9 j (by omega)
                  · refine D0.of (by omega) (fun j hj => mm j (by omega) (by omega)) (fun j _ j2 _ => a6 j j2) (by rw [a6 _ (by decide), mm _ (by decide) (by omega)]; exact d4) (by rw [row, upd_s, ← hz, as_i3]) (by rw [a6 _ (by decide), mm _ (by decide) (by omega)]; exact d6) (fun j hj => ?_) (ds.cg (fun j j1 j2 => mm j (by omega) (by omega)) (ar _ (by decide) (by decide) (by decide)) (ar _ (by decide) (by decide) (by decide)) (ar _ (by decide) (by decide) (by decide))) (fun j hj => ?_) (fun j hj => ?_) (ar _ (by decide) (by decide) (by decide))
                    · rw [ar 8 (by decide) (by decide) (by decide), mm _ (by omega) (by omega)]; exact dt j hj
                    · have z13 : z.1 12 j = if j = 4 * I + 3 then nI v else if j = 4 * I + 2 then nI d else if j = 4 * I + 1 then nI b else if j = 4 * I then nI a else s.1 12 j := by
                        rw [← hz, as_i1 (by decide), rd_i, rd_i, rd_i, rd_i, ax 12 (by decide)]
                        simp only [true_and]
                      rw [z13]
                      by_cases f3 : j = 4 * I + 3
                      · rw [if_pos f3, f3, ← Nat.add_assoc]; exact n3.symm
                      · rw [if_neg f3]
                        by_cases f2 : j = 4 * I + 2
                        · rw [if_pos f2, f2, ← Nat.add_assoc]; exact n2.symm
                        · rw [if_neg f2]
                          by_cases f1 : j = 4 * I + 1
                          · rw [if_pos f1, f1, ← Nat.add_assoc]; exact n1'.symm
                          · rw [if_neg f1]
                            by_cases f0 : j = 4 * I
                            · rw [if_pos f0, f0]; exact n0.symm
                            · rw [if_neg f0, mm _ (by omega) (by omega)]; exact di j (by omega)
                    · rw [ar 13 (by decide) (by decide) (by decide), mm _ (by omega) (by omega)]; exact dh j hj
                · exact absurd o4 z3
              · rcases m_cell (cell := 199 + 4 * I + 3) (lo := 0) (hi := 1) hT (by omega) u2 with ⟨z3, _⟩ | ⟨_, y4, p1, p2, p3⟩
                · exact absurd z3 o4
                · refine out_e (nF_K hT (i + 1 + 1 + 1)) (by omega) q6.1 (((frm.i s PT24).ti PT24).ti PT24) (((r4.tr t4).tr u4).tr p3) p2 ?_ (by rw [p1, am_b2s, am_ift rfl])
                  rw [q7, am_b2s, c_fine, am_bds, am_b0 (fl5 (nF_K hT _))]
            · rw [y2a, e1] at z
              refine out_e (fauK1 hT (i + 1 + 1)) (by omega) q6.1 (((frm.i s PT24).ti PT24).ti PT24) ((r4.tr t4).tr u3) u2 ?_ (by rw [u1, am_b2s, am_ift rfl])
              rw [a1, e1, am_ift z.symm, c_ref (by omega) q6 (by omega), am_bds, tc58F (fl5 (fauK1 hT _))]
            · exact absurd o3 z
          · rcases m_other (cell := 199 + 4 * I + 2) (un := 199 + 4 * I) (hi := nI F - 1) hT (by omega) (by omega) (by omega) t2 with ⟨z, _⟩ | ⟨z, _⟩ | ⟨_, y3, u1, u2, u3⟩
            · exact absurd z o3
            · exact absurd z o3
            · refine out_e (nF_K hT (i + 1 + 1)) (by omega) q4.1 ((frm.i s PT24).ti PT24) ((r4.tr t4).tr u3) u2 ?_ (by rw [u1, am_b2s, am_ift rfl])
              rw [q5, am_b2s, fin _ _ _ _ (fl5 (nF_K hT _))]
        · exact absurd o2 z
      · rcases m_cell (cell := 199 + 4 * I + 1) (lo := 0) (hi := 1) hT (by omega) r2 with ⟨z, _⟩ | ⟨_, y2, t1, t2, t3⟩
        · exact absurd z o2
        · refine out_e (nF_K hT (i + 1)) (by omega) q2.1 (frm.i s PT24) (r4.tr t3) t2 ?_ (by rw [t1, am_b2s, am_ift rfl])
          rw [q3, am_b2s, c_numF (fl5 (nF_K hT _)), am_b2s, fin _ _ _ _ (fl5 (nF_K hT _))]
    · exact absurd o z
  · rcases m_cell (cell := 199 + 4 * I) (lo := 0) (hi := nI F - 1) hT (by omega) hy with ⟨z, _⟩ | ⟨_, y2, r1, r2, r3⟩
    · exact absurd z o
    · refine out_e (nF_K hT i) hi hs.1 (frm.rf _ _) r3 r2 ?_ (by rw [r1, am_b2s, am_ift rfl])
      rw [q1, am_b2s, c_numF (fl5 (nF_K hT _)), am_b2s, c_numF (fl5 (nF_K hT _)), am_b2s, fin _ _ _ _ (fl5 (nF_K hT _))]
theorem tw_correct {i F O P S I H C : Nat} {s y : am_S} (hs : TC c T n i s) (hy : TD c T i y) (hi : i ≤ n) (hF : 0 < F) (W : TWN (y.1 254) F O P S I H C) (D : dC (y.1 254) s F O P S I H) : OUT c T n s y i (am_lt (as_i s 6 15 (1 : Int32)) (fun s16 => some s16)) (am_lt (as_i y 254 10 (1 : Int32)) (fun s3 => some ((1 : Int32), s3))) := by
  obtain ⟨w0, w1, w2, w3, w4, w5, w6, w7, w8, w9, wa, wb, wc, wd_⟩ := W
  obtain ⟨⟨d0, d1, d2, d3, d4, d5, d6, d7, d8⟩, dt, ds, di, dh, dp_⟩ := D
  have u : ∀ j, j ≠ 10 → (as_i y 254 10 1).1 254 j = y.1 254 j := fun j hj => as_i2 hj
  have a6 : ∀ j, j ≠ 15 → (as_i s 6 15 1).1 6 j = s.1 6 j := fun j hj => as_i2 hj
  have ar : ∀ b, b ≠ 6 → (as_i s 6 15 1).1 b = s.1 b := fun b hb => as_i1 hb
  right
  refine ⟨i, as_i s 6 15 1, as_i y 254 10 1, F, O, P, S, I, H, C, rfl, rfl, hs.f (frm.i s (P := fun b j => b = 6) rfl) (by intro b j z; have : b = 6 := z; omega), hy.f (frm.i y (Or.inl rfl)), Nat.le_refl _, hi, hF, ⟨⟨by rw [u _ (by decide)]; exact w0.1, w0.2⟩, ⟨by rw [u _ (by decide)]; exact w1.1, w1.2⟩, ⟨by rw [u _ (by decide)]; exact w2.1, w2.2⟩, ⟨by rw [u _ (by decide)]; exact w3.1, w3.2⟩, ⟨by rw [u _ (by decide)]; exact w4.1, w4.2⟩, ⟨by rw [u _ (by decide)]; exact w5.1, w5.2⟩, ⟨by rw [u _ (by decide)]; exact w6.1, w6.2⟩, Or.inr as_i3, w8.cg (by omega) (Nat.le_refl _) (fun j j1 j2 => u j (by omega)), w9.cg (fun j j1 j2 => u j (by omega)), wa.cg (fun j j1 j2 => u j (by omega)), wb.cg (fun j j1 j2 => u j (by omega)), by rw [u _ (by decide)]; exact wc, by rw [u _ (by decide)]; exact wd_⟩, ⟨⟨by rw [a6 _ (by decide)]; exact d0, by rw [a6 _ (by decide), u _ (by decide)]; exact d1, by rw [a6 _ (by decide), u _ (by decide)]; exact d2, by rw [a6 _ (by decide), u _ (by decide)]; exact d3, by rw [a6 _ (by decide), u _ (by decide)]; exact d4, by rw [a6 _ (by decide), u _ (by decide)]; exact d5, by rw [a6 _ (by decide), u _ (by decide)]; exact d6, by rw [a6 _ (by decide), u _ (by decide)]; exact d7, by rw [as_i3, as_i3]⟩, fun j hj => ?_, ds.cg (fun j j1 j2 => u j (by omega)) (ar _ (by decide)) (ar _ (by decide)) (ar _ (by decide)), fun j hj => ?_, fun j hj => ?_, dp_.cg (by omega) (fun j j1 j2 => u j (by omega)) (ar _ (by decide))⟩, frm.i s (PTd (by decide)), frm.i y (Or.inr rfl)⟩
  · rw [ar 8 (by decide), u _ (by omega)]; exact dt j hj
  · rw [ar 12 (by decide), u _ (by omega)]; exact di j hj
  · rw [ar 13 (by decide), u _ (by omega)]; exact dh j hj
theorem stE_sn {m m2 : Nat → Int32} {S a b : Nat} (e : ∀ j, 179 ≤ j → j < 179 + 2 * S → m2 j = m j) (e1 : m2 (179 + 2 * S) = nI a) (e2 : m2 (179 + 2 * S + 1) = nI b) (ha : a < 100) (hb : b < 100) (p q : Nat) : stE m2 (S + 1) p q = (stE m S p q || ((a == p && b == q) || (a == q && b == p))) := by
  have h1 : mA m2 S = a := mN_nI e1 (by omega)
  have h2 : mB m2 S = b := mN_nI e2 (by omega)
  have : stE m2 (S + 1) p q = (stE m2 S p q || joins m2 S p q) := by
    unfold stE
    rw [List.range_succ, List.any_append]
    simp
  rw [this, stE_cg e]
  unfold joins
  rw [h1, h2]
theorem c_hasSt6 {m : Nat → Int32} {s : am_S} {S P a b : Nat} (hP : P ≤ 7) (h3 : s.1 6 3 = nI P) (ds : cSt m s S) (ha : a < P) (hb : b < P) (hab : a ≠ b) : f_X8_hasStreet 6 (nI a) (nI b) s = some (b01 (stE m S a b = true)) := by
  have i6 : (6 : Nat) ∈ am_isT := by decide +kernel
  unfold f_X8_hasStreet f_X8_hasTwo
  rw [am_gdt i6, am_gdt i6, am_iff (by rw [nI_eq (by omega) (by omega)]; exact hab), c_hasPerson i6 h3, am_bds, am_b1 (inP_nI ha (by omega)), c_hasPerson i6 h3, am_bds, am_b1 (inP_nI hb (by omega)), am_bds, am_iff (by decide), gd_nI (by omega) (by decide), cL (by omega)]
  have e : s.1 (6 + 5) a = nI (bitsOf (fun q => stE m S a q) 7) := ds.2 a (by omega)
  have bl := bitsOf_lt (fun q => stE m S a q) 7
  rw [e, c_bit, am_bds, bitb (by omega) (by omega), bitsOf_bit, decide_eq_true (by omega : b < 7), Bool.true_and]
  by_cases z : stE m S a b = true
  · rw [am_ift (b01_t z), b01_t z]
  · rw [am_iff (by rw [b01_f z]; decide), b01_f z]
theorem m_rdSt {m : Nat → Int32} {s : am_S} {S P a b : Nat} (hm : ∀ j, j < 179 + 2 * S → s.1 254 j = m j) (h3 : m 3 = nI S) (hS : S ≤ 10) (hP : P ≤ 7) (ps : pSt m P S) (ha : a < 7) (hb : b < 7) : ∃ v, f_X12_readStreet (nI a) (nI b) s = some v ∧ (0 ≤ v ↔ stE m S a b = true) := by
  have e4 : am_F = 4000 := rfl
  have s3 : s.1 254 3 = nI S := by rw [hm 3 (by omega)]; exact h3
  have step : ∀ i, i < S → b_X12_readStreet_2 (nI a) (nI b) s (nI i) = if joins m i a b = true then some (.inr (nI i)) else some (.inl (nI (i + 1))) := by
    intro i hi
    obtain ⟨p, q, h1, h2, hp, hq, hpq⟩ := ps i hi
    unfold b_X12_readStreet_2 j_X12_readStreet_54
    rw [s3, am_iff (nI_ge hi (by omega)), pk_mul, nI_add, am_ltd, gd_nI (by omega) (by decide), cL (by omega), hm _ (by omega), h1, am_ltd, nI_1, am_ltd, gd_nI (by omega) (by decide), cL (by omega), hm _ (by omega), h2, am_ltd, nI_1]
    have k1 : mA m i = p := mN_nI h1 (by omega)
    have k2 : mB m i = q := mN_nI h2 (by omega)
    unfold joins
    rw [k1, k2]
    have x1 := nI_eq (a := p) (b := a) (by omega) (by omega)
    have x2 := nI_eq (a := q) (b := b) (by omega) (by omega)
    have x3 := nI_eq (a := p) (b := b) (by omega) (by omega)
    have x4 := nI_eq (a := q) (b := a) (by omega) (by omega)
    simp only [am_ifd, am_ltd, x1, x2, x3, x4]
    by_cases c1 : p = a <;> by_cases c2 : q = b <;> by_cases c3 : p = b <;> by_cases c4 : q = a <;> simp_all
  unfold f_X12_readStreet
  cases hf : (List.range S).find? (fun i => joins m i a b) with
  | none =>
    rw [List.find?_eq_none] at hf
    refine ⟨-1, am_lp_run (fun i => nI i) S (fun i hi => ?_) ?_ (by omega), ?_⟩
    · have := hf i (List.mem_range.mpr hi)
      rw [step i hi, if_neg this]
    · unfold b_X12_readStreet_2
      rw [s3, am_ift (nI_le (Nat.le_refl _) (by omega))]
    · have h : stE m S a b = false := by
        unfold stE
        rw [List.any_eq_false]
        exact hf
      rw [h]
      decide
  | some i =>
    rw [List.find?_range_eq_some] at hf
    obtain ⟨h1, h2, h3'⟩ := hf
    have hi := List.mem_range.mp h2
    refine ⟨nI i, am_lp_run (fun i => nI i) i (fun j hj => ?_) ?_ (by omega), ?_⟩
    · have := h3' j hj
      rw [step j (by omega), if_neg (by simpa using this)]
    · rw [step i hi, if_pos h1]
    · have h : stE m S a b = true := by
        unfold stE
        rw [List.any_eq_true]
        exact ⟨i, h2, h1⟩
      rw [h]
      exact ⟨fun _ => rfl, fun _ => nI_pos' (by omega)⟩
end TX3
