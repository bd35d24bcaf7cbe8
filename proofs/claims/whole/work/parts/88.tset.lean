/-! a town, settled: what is so then -/
def Mrow (m R : Nat → Int32) : Nat → Int32 := upd (upd (cpv R 0 328 (fun j => if j < 270 then m j else 0)) 8 (-1)) 9 (-1)
theorem Mrow_lo {m R : Nat → Int32} {j : Nat} (h : j < 270) (h8 : j ≠ 8) (h9 : j ≠ 9) : Mrow m R j = m j := by
  unfold Mrow
  rw [upd_n h9, upd_n h8, cpv_in (by omega) (by omega), Nat.sub_zero, if_pos h]
theorem Mrow_hi {m R : Nat → Int32} {j : Nat} (h : 270 ≤ j) (h2 : j < 328) : Mrow m R j = 0 := by
  unfold Mrow
  rw [upd_n (by omega), upd_n (by omega), cpv_in (by omega) (by omega), Nat.sub_zero, if_neg (by omega)]
theorem Mrow_9 {m R : Nat → Int32} : Mrow m R 9 = -1 := upd_s
theorem m_tail {s : am_S} : am_lp (fun (q : Int32 × am_S) => b_X12_town_53 q.1 q.2) am_F ((0 : Int32), s) = some (Mrow (s.1 254) (s.1 258) 2, as_i (as_w s 258 (Mrow (s.1 254) (s.1 258))) 248 25 0) := by
  refine lp_copyR 258 328 0 (fun j => if j < 270 then s.1 254 j else 0) s (fun i hi g => ?_) ?_ (by decide)
  · dsimp only
    unfold b_X12_town_53
    rw [am_iff (nI_ge hi (by decide)), Nat.zero_add]
    by_cases z : i < 270
    · rw [am_iff (nI_ge z (by decide)), gd_nI z (by decide), gd_nI hi (by decide), cL (by omega), as_w1 (show (254 : Nat) ≠ 258 by decide), am_ltd, nI_1, am_ltd, if_pos z]
    · rw [am_ift (nI_le (by omega) (by omega)), gd_nI hi (by decide), cL (by omega), am_ltd, nI_1, am_ltd, if_neg z]
  · dsimp only
    unfold b_X12_town_53 j_X12_town_89
    rw [am_ift (by decide), am_ltd, am_ltd, am_ltd, am_bds, as_iw, as_iw, as_i1 (show (258 : Nat) ≠ 248 by decide), as_w3]
    rfl
theorem M_TWN {m R : Nat → Int32} {F O P S I H C : Nat} (W : TWN m F O P S I H C) : TWN (Mrow m R) F O P S I H C := by
  have e : ∀ j, j < 270 → j ≠ 8 → j ≠ 9 → Mrow m R j = m j := fun j h1 h2 h3 => Mrow_lo h1 h2 h3
  have W0 := W
  obtain ⟨w0, w1, w2, w3, w4, w5, w6, w7, w8, w9, wa, wb, wc, wd_⟩ := W
  exact W0.of (fun j hj => e j (by omega) (by omega) (by omega)) ⟨by rw [e _ (by decide) (by decide) (by decide)]; exact w3.1, w3.2⟩ ⟨by rw [e _ (by decide) (by decide) (by decide)]; exact w4.1, w4.2⟩ ⟨by rw [e _ (by decide) (by decide) (by decide)]; exact w5.1, w5.2⟩ (w8.cg (by omega) (Nat.le_refl _) (fun j j1 j2 => e j (by omega) (by omega) (by omega))) (w9.cg (fun j j1 j2 => e j (by omega) (by omega) (by omega))) (wa.cg (fun j j1 j2 => e j (by omega) (by omega) (by omega))) (wb.cg (fun j j1 j2 => e j (by omega) (by omega) (by omega)))
theorem wfL_M {k : Nat} {m R : Nat → Int32} {s : am_S} {F O P S I H C : Nat} (hk : k < 1000) (W : TWN m F O P S I H C) (hF : 0 < F) (dp_ : cPe m s F O P) : wfL k (Mrow m R) := by
  obtain ⟨w, e0, e1, e2, e3, e4, e5⟩ := (M_TWN (R := R) W).wf hF
  have hF9 := W.1.2
  have hP8 := W.2.2.1.2
  refine ⟨isN_nI (n := 0) (by rw [Mrow_lo (by decide) (by decide) (by decide)]; exact W.2.2.2.2.2.2.2.2.2.2.2.2.1) (by omega) (by omega), isN_nI (n := 0) (by rw [Mrow_lo (by decide) (by decide) (by decide)]; exact W.2.2.2.2.2.2.2.2.2.2.2.2.2) (by decide) (by decide), fun _ => Or.inl Mrow_9, fun p f hp hf => ?_⟩
  rw [e2] at hp
  rw [e0] at hf
  obtain ⟨kn, h1, h2, h3, h4⟩ := dp_ p hp
  obtain ⟨g1, g2⟩ := h4 f (by omega)
  rw [Mrow_lo (by omega) (by omega) (by omega)]
  have gn : Mrow m R (11 + 16 * p + 2 * f + 1) = m (11 + 16 * p + 2 * f + 1) := Mrow_lo (by omega) (by omega) (by omega)
  rw [g1]
  by_cases z : kn.testBit f = true
  · rw [if_pos z] at g1 g2 ⊢
    have lt : O / 2 ^ f % 2 < 2 := Nat.mod_lt _ (by decide)
    refine ⟨?_, isN_nI (gn.trans g2) (by decide) (by decide), fun q => ?_⟩
    · have : O / 2 ^ f % 2 = 0 ∨ O / 2 ^ f % 2 = 1 := by omega
      rcases this with q | q
      · left; rw [q]; rfl
      · right; left; rw [q]; rfl
    · rw [nI_eq (by omega) (by decide)] at q
      omega
  · rw [if_neg z] at g1 g2 ⊢
    exact ⟨Or.inr (Or.inr rfl), isN_nI (n := 0) (gn.trans g2) (by decide) (by decide), fun _ => gn.trans g2⟩
/-- the class's settling -/
theorem c_settle5 {m R : Nat → Int32} {s : am_S} {F O P S I H C : Nat} (W : TWN m F O P S I H C) (hF : 0 < F) (D : dC m s F O P S I H) : ∃ s2, f_X5_settle s = some s2 ∧ townAt (Mrow m R) s2 ∧ lifeAt (Mrow m R) s2 24 ∧ s2.1 15 4 = 0 ∧ s2.1 15 6 = 0 ∧ s2.1 15 7 = 0 ∧ s2.1 15 8 = 0 ∧ (∀ j, j ≠ 4 → j ≠ 6 → j ≠ 7 → j ≠ 8 → s2.1 15 j = s.1 15 j) ∧ (∀ b, (b < 15 ∨ 29 ≤ b) → s2.1 b = s.1 b) ∧ s2.2 = s.2 ∧ s2.1 16 3 = nI P := by
  obtain ⟨w, e0, e1, e2, e3, e4, e5⟩ := (M_TWN (R := R) W).wf hF
  have hF9 := W.1.2
  have hP8 := W.2.2.1.2
  have W0 := W
  obtain ⟨w0, w1, w2, w3, w4, w5, w6, w7, w8, w9, wa, wb, wc, wd_⟩ := W
  obtain ⟨⟨d0, d1, d2, d3, d4, d5, d6, d7, d8⟩, dt, ds, di, dh, dp_⟩ := D
  have M : ∀ j, j < 270 → j ≠ 8 → j ≠ 9 → Mrow m R j = m j := fun j h1 h2 h3 => Mrow_lo h1 h2 h3
  have cp := c_copyT (a := 16) (b := 6) (by decide +kernel) (by decide +kernel) (by decide) s (Or.inl d0) (by rw [d8]; exact w7)
  obtain ⟨t1, t2, t3, t4⟩ := cpl_spec (a := 16) (b := 6) (W := 8) (by decide) opT (by decide) s
  generalize opT.foldl (cpo 16 6) s = z1 at *
  have hd : ∀ j, (0, j, 1) ∈ opT → z1.1 16 j = s.1 6 j := fun j hj => t1 0 j (by decide) ⟨_, hj, rfl, Nat.le_refl _, by show j < j + 1; omega⟩
  have rw7 : ∀ i n j, i < 8 → (i, 0, n) ∈ opT → j < n → z1.1 (16 + i) j = s.1 (6 + i) j := fun i n j hi hm hj => t1 i j hi ⟨_, hm, rfl, Nat.zero_le _, by show j < 0 + n; omega⟩
  have z2r : ∀ b, b ≠ 16 → (as_i z1 16 0 1).1 b = z1.1 b := fun b hb => as_i1 hb
  have z2h : ∀ j, j ≠ 0 → (as_i z1 16 0 1).1 16 j = z1.1 16 j := fun j hj => as_i2 hj
  have ht : townAt (Mrow m R) (as_i z1 16 0 1) := by
    refine ⟨?_, ?_, ?_, ?_, ?_, ?_, ?_, ?_, ?_, fun _ j hj => ?_, fun i hi => ?_, fun p hp => ?_, fun j hj => ?_, fun j hj => ?_⟩
    · rw [as_i3, e0, if_pos hF]
    · rw [z2h _ (by decide), hd 1 (by decide), d1, M _ (by decide) (by decide) (by decide)]
    · rw [z2h _ (by decide), hd 2 (by decide), d2, M _ (by decide) (by decide) (by decide)]
    · rw [z2h _ (by decide), hd 3 (by decide), d3, M _ (by decide) (by decide) (by decide)]
    · rw [z2h _ (by decide), hd 6 (by decide), d4, M _ (by decide) (by decide) (by decide)]
    · rw [z2h _ (by decide), hd 10 (by decide), d5, M _ (by decide) (by decide) (by decide)]
    · rw [z2h _ (by decide), hd 12 (by decide), d6, M _ (by decide) (by decide) (by decide)]
    · rw [z2h _ (by decide), hd 14 (by decide), d7, M _ (by decide) (by decide) (by decide)]
    · rw [z2h _ (by decide), hd 15 (by decide), d8, M _ (by decide) (by decide) (by decide)]
    · rw [z2r 18 (by decide), rw7 2 49 j (by decide) (by decide) hj, dt j hj, M _ (by omega) (by omega) (by omega)]
    · rw [e3] at hi
      rw [z2r 19 (by decide), z2r 20 (by decide), rw7 3 10 i (by decide) (by decide) (by omega), rw7 4 10 i (by decide) (by decide) (by omega), M _ (by omega) (by omega) (by omega), M _ (by omega) (by omega) (by omega)]
      exact ds.1 i hi
    · rw [e2] at hp
      rw [z2r 21 (by decide), rw7 5 7 p (by decide) (by decide) (by omega), ds.2 p (by omega)]
      congr 1
      unfold nbr
      refine bitsOf_congr 7 (fun q _ => ?_)
      unfold hasSt
      rw [e3]
      exact (stE_cg (m := m) (m2 := Mrow m R) (S := S) (fun j j1 j2 => M j (by omega) (by omega) (by omega))).symm
    · rw [e4] at hj
      rw [z2r 22 (by decide), rw7 6 40 j (by decide) (by decide) (by omega), M _ (by omega) (by omega) (by omega)]
      exact di j hj
    · rw [e5] at hj
      rw [z2r 23 (by decide), rw7 7 30 j (by decide) (by decide) (by omega), M _ (by omega) (by omega) (by omega)]
      exact dh j hj
  obtain ⟨z3, b1, b2, b3, b4, b5, b6, b7, b8⟩ := c_begin24 (O := O) w e1 ht (fun p hp => by
    rw [e2] at hp
    obtain ⟨kn, h1, h2, h3, h4⟩ := dp_ p hp
    refine ⟨kn, by rw [e0]; exact h1, by rw [z2r 17 (by decide), rw7 1 7 p (by decide) (by decide) (by omega)]; exact h2, fun f hf => ?_⟩
    rw [M _ (by omega) (by omega) (by omega), M _ (by omega) (by omega) (by omega)]
    exact h4 f hf)
  generalize hz : as_i (as_i (as_i (as_i z3 15 4 0) 15 6 0) 15 7 0) 15 8 0 = z
  have zr : ∀ b, b ≠ 15 → z.1 b = z3.1 b := fun b hb => by rw [← hz, as_i1 hb, as_i1 hb, as_i1 hb, as_i1 hb]
  have zt : ∀ b, 16 ≤ b → b < 24 → z.1 b = (as_i z1 16 0 1).1 b := fun b h1 h2 => by rw [zr b (by omega), b7 b (by omega)]
  refine ⟨z, ?_, ?_, ?_, ?_, ?_, ?_, ?_, fun j j1 j2 j3 j4 => ?_, fun b hb => ?_, ?_, ?_⟩
  · unfold f_X5_settle f_X5_forgetTales
    rw [cp, am_bds, am_ltd, b1, am_bds, am_ltd, am_ltd, am_ltd, am_ltd, am_bds, hz]
  · unfold townAt
    rw [zt 16 (by decide) (by decide), zt 18 (by decide) (by decide), zt 19 (by decide) (by decide), zt 20 (by decide) (by decide), zt 21 (by decide) (by decide), zt 22 (by decide) (by decide), zt 23 (by decide) (by decide)]
    exact ht
  · unfold lifeAt
    rw [zr 24 (by decide), zr (24 + 1) (by decide), zr (24 + 2) (by decide), zr (24 + 3) (by decide), zr (24 + 4) (by decide)]
    refine ⟨by rw [b3, M _ (by decide) (by decide) (by decide), wc], by rw [b4, M _ (by decide) (by decide) (by decide), wd_], fun _ => ⟨by rw [b5, Mrow_9], fun q => absurd Mrow_9 q⟩, fun p hp => ?_, fun p f hp hf => (b2 p hp).1 f hf, fun p f hp hf => (b2 p hp).2 f hf⟩
    rw [show (24 : Nat) + 4 = 28 from rfl, b6 p hp, e2]
    by_cases z4 : p < P
    · obtain ⟨kn, h1, h2, h3, h4⟩ := dp_ p z4
      rw [if_pos z4, M _ (by omega) (by omega) (by omega), h3]
    · rw [if_neg z4]
  · rw [← hz, as_i2 (by decide), as_i2 (by decide), as_i2 (by decide), as_i3]
  · rw [← hz, as_i2 (by decide), as_i2 (by decide), as_i3]
  · rw [← hz, as_i2 (by decide), as_i3]
  · rw [← hz, as_i3]
  · rw [← hz, as_i2 j4, as_i2 j3, as_i2 j2, as_i2 j1, b7 15 (by decide), z2r 15 (by decide), t3 15 (by decide)]
  · rw [zr b (by omega), b7 b (by omega), z2r b (by omega), t3 b (by omega)]
  · rw [← hz]
    show z3.2 = _
    rw [b8]
    exact t4
  · rw [zt 16 (by decide) (by decide), z2h _ (by decide), hd 3 (by decide), d3, w2.1]
