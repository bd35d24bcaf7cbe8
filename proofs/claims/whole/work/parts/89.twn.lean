/-! the step: town -/
def mi (w : am_S) : am_S := as_i (as_i (as_i (as_i (as_i (as_i (as_w (as_i w 248 11 (nI 6)) 254 (cpv (w.1 254) 0 11 (fun _ => (0 : Int32)))) 254 269 0) 251 6 0) 248 14 0) 248 8 0) 248 9 0) 248 12 0
theorem mi_r (w : am_S) {b j : Nat} (h : ¬ (b = 248 ∧ (8 ≤ j ∧ j ≤ 16)) ∧ b ≠ 251 ∧ b ≠ 254) : (mi w).1 b j = w.1 b j := by
  unfold mi
  rw [rd_i, if_neg (by omega), rd_i, if_neg (by omega), rd_i, if_neg (by omega), rd_i, if_neg (by omega), rd_i, if_neg (by omega), rd_i, if_neg (by omega), as_w1 h.2.2, rd_i, if_neg (by omega)]
theorem m_town {w : am_S} {v : Int32} {y : am_S} (h : am_b2 (f_X12_clauseHere (mi w)) (fun v18 s19 => am_lp bM am_F (v18, s19)) = some (v, y)) : f_X12_town w = am_if (v = 0) (some (((-2 : Int32) - (y.1 248 9)), y)) (some (Mrow (y.1 254) (y.1 258) 2, as_i (as_w y 258 (Mrow (y.1 254) (y.1 258))) 248 25 0)) := by
  have j27 : j_X12_town_27 (as_w (as_i w 248 11 (nI 6)) 254 (cpv (w.1 254) 0 11 (fun _ => (0 : Int32)))) = am_if (v = 0) (some (((-2 : Int32) - (y.1 248 9)), y)) (some (Mrow (y.1 254) (y.1 258) 2, as_i (as_w y 258 (Mrow (y.1 254) (y.1 258))) 248 25 0)) := by
    have e11 : (as_i (as_w (as_i w 248 11 (nI 6)) 254 (cpv (w.1 254) 0 11 (fun _ => (0 : Int32)))) 254 269 0).1 248 11 = nI 6 := by rw [as_i1 (by decide), as_w1 (by decide), as_i3]
    unfold j_X12_town_27 f_X12_readsAll
    rw [am_ltd, e11, gd_nI (by decide) (by decide), cL (by decide), am_ltd, am_ltd, am_ltd, am_ltd, am_ltd]
    have h' : am_b2 (f_X12_clauseHere (as_i (as_i (as_i (as_i (as_i (as_i (as_w (as_i w 248 11 (nI 6)) 254 (cpv (w.1 254) 0 11 (fun _ => (0 : Int32)))) 254 269 0) 251 6 0) 248 14 0) 248 8 0) 248 9 0) 248 12 0)) (fun v18 s19 => am_lp (fun (q : Int32 × am_S) => b_X12_readsAll_35 q.1 q.2) am_F (v18, s19)) = some (v, y) := h
    rw [h', am_b2s, m_tail]
  have hx : (as_i w 248 11 (nI 6)).1 254 = w.1 254 := as_i1 (by decide)
  obtain ⟨e, he⟩ : ∃ e, am_if (v = 0) (some (((-2 : Int32) - (y.1 248 9)), y)) (some (Mrow (y.1 254) (y.1 258) 2, as_i (as_w y 258 (Mrow (y.1 254) (y.1 258))) 248 25 0)) = some e := by
    by_cases z : v = 0
    · exact ⟨_, am_ift z⟩
    · exact ⟨_, am_iff z⟩
  rw [he] at j27 ⊢
  unfold f_X12_town
  rw [am_ltd]
  refine lp_copyR 254 11 0 (fun _ => (0 : Int32)) (as_i w 248 11 (nI 6)) (fun i hi g => ?_) ?_ (by decide)
  · dsimp only
    unfold b_X12_town_8
    rw [am_iff (nI_ge hi (by decide)), gd_nI (by omega) (by decide), cL (by omega), am_ltd, nI_1, am_ltd, Nat.zero_add]
  · dsimp only
    unfold b_X12_town_8
    rw [am_ift (by decide), hx, j27, am_bds]
/-- the class begins a town -/
theorem c_clear {s : am_S} : ∃ u, f_X9_begin s = some u ∧ (∀ j, (j = 0 ∨ j = 1 ∨ j = 2 ∨ j = 3 ∨ j = 6 ∨ j = 10 ∨ j = 12 ∨ j = 14 ∨ j = 15) → u.1 6 j = 0) ∧ (∀ j, j < 49 → u.1 8 j = nI 5) ∧ (∀ p, p < 7 → u.1 11 p = 0) ∧ (∀ b, b ≠ 6 → b ≠ 8 → b ≠ 11 → u.1 b = s.1 b) ∧ u.2 = s.2 := by
  generalize hx : as_i (as_i (as_i (as_i (as_i (as_i (as_i (as_i (as_i s 6 0 0) 6 1 0) 6 2 0) 6 3 0) 6 6 0) 6 10 0) 6 12 0) 6 14 0) 6 15 0 = x
  have x6 : ∀ j, (j = 0 ∨ j = 1 ∨ j = 2 ∨ j = 3 ∨ j = 6 ∨ j = 10 ∨ j = 12 ∨ j = 14 ∨ j = 15) → x.1 6 j = 0 := fun j hj => by
    rw [← hx]
    rcases hj with rfl | rfl | rfl | rfl | rfl | rfl | rfl | rfl | rfl
    · rw [as_i2 (by decide), as_i2 (by decide), as_i2 (by decide), as_i2 (by decide), as_i2 (by decide), as_i2 (by decide), as_i2 (by decide), as_i2 (by decide), as_i3]
    · rw [as_i2 (by decide), as_i2 (by decide), as_i2 (by decide), as_i2 (by decide), as_i2 (by decide), as_i2 (by decide), as_i2 (by decide), as_i3]
    · rw [as_i2 (by decide), as_i2 (by decide), as_i2 (by decide), as_i2 (by decide), as_i2 (by decide), as_i2 (by decide), as_i3]
    · rw [as_i2 (by decide), as_i2 (by decide), as_i2 (by decide), as_i2 (by decide), as_i2 (by decide), as_i3]
    · rw [as_i2 (by decide), as_i2 (by decide), as_i2 (by decide), as_i2 (by decide), as_i3]
    · rw [as_i2 (by decide), as_i2 (by decide), as_i2 (by decide), as_i3]
    · rw [as_i2 (by decide), as_i2 (by decide), as_i3]
    · rw [as_i2 (by decide), as_i3]
    · rw [as_i3]
  have xr : ∀ b, b ≠ 6 → x.1 b = s.1 b := fun b hb => by rw [← hx, as_i1 hb, as_i1 hb, as_i1 hb, as_i1 hb, as_i1 hb, as_i1 hb, as_i1 hb, as_i1 hb, as_i1 hb]
  refine ⟨as_w (as_w x 8 (cpv (x.1 8) 0 49 (fun _ => nI 5))) 11 (cpv ((as_w x 8 (cpv (x.1 8) 0 49 (fun _ => nI 5))).1 11) 0 7 (fun _ => (0 : Int32))), ?_, fun j hj => ?_, fun j hj => ?_, fun p hp => ?_, fun b b1 b2 b3 => ?_, ?_⟩
  · unfold f_X9_begin f_X8_clear
    rw [am_ltd, am_ltd, am_ltd, am_ltd, am_ltd, am_ltd, am_ltd, am_ltd, am_ltd, hx, c_fill (a := 8) (len := 49) sh_8 (by decide) (by decide), am_bds, c_fill (a := 11) (len := 7) sh_11 (by decide) (by decide), am_bds, am_bds]
  · rw [as_w1 (by decide), as_w1 (by decide)]; exact x6 j hj
  · rw [as_w1 (by decide), as_w3, cpv_in (by omega) (by omega)]
  · rw [as_w3, cpv_in (by omega) (by omega)]
  · rw [as_w1 b3, as_w1 b2, xr b b1]
  · rw [as_w4, as_w4, ← hx]
    rfl
theorem taleBits0 {m : Nat → Int32} (h : m 327 = nI 0) (v : Int32) : taleBits m v = 0 := by
  unfold taleBits
  rw [show mN m 327 = 0 from mN_nI h (by decide)]
  have : (fun pl => (List.range 0).any (fun i => mN m (306 + 2 * i) == pl && m (306 + 2 * i + 1) == v)) = fun _ => false := by
    funext pl
    simp
  rw [this]
  decide
theorem st_town : LS_town Inv := by
  intro k s hk hI
  obtain ⟨rn, hI⟩ := hI
  have hI0 := hI
  obtain ⟨h1, h2, h3, h4, ⟨T, hT, p1, p2, p3⟩, h6, h7, h8, h9⟩ := hI
  obtain ⟨n, hnT, hn1, hn2⟩ := tp_n (s.1 1) T
  have hb : ∀ j, j < T → vp_nar .byte (s.1 1 j) = s.1 1 j := fun j hj => (p3 j hj).2
  -- the tape is empty then
  have hI1 : InvR k rn (as_i (as_i s 0 1 0) 248 1 0) := InvR_tape hI0 (fun a a1 _ a3 _ => by rw [as_i1 a3, as_i1 a1]) (by rw [as_i1 (by decide), as_i2 (by decide)]) (fun j hj => by rw [as_i2 hj, as_i1 (by decide)]) rfl ⟨0, by decide, by rw [as_i1 (by decide), as_i3]; rfl, by rw [as_i3]; rfl, fun j hj => by omega⟩
  -- the class reads
  obtain ⟨s1, k1, k2, k3, k4, k5, k6⟩ := c_cut (c := s.1 1) (T := T) (s := s) (fun j hj => rfl) hT hnT hn1 hn2
  obtain ⟨u, u0, u6, u8, u11, ur, us⟩ := c_clear (s := as_i s1 0 1 0)
  have ur2 : ∀ b j, (b = 0 → j ≠ 1) → b ≠ 6 → b ≠ 8 → b ≠ 11 → u.1 b j = s1.1 b j := fun b j z1 z2 z3 z4 => by rw [ur b z2 z3 z4, rd_i, if_neg (fun z => z1 z.1 z.2)]
  have us2 : u.2 = s.2 := by
    rw [us]
    exact k6
  have ulow : ∀ b j, ¬ (2 ≤ b ∧ b ≤ 13) → (b = 0 → j ≠ 1) → u.1 b j = s.1 b j := fun b j z1 z2 => by rw [ur2 b j z2 (by omega) (by omega) (by omega), k5 b (by omega) (by omega) (by omega) (by omega)]
  have utok : tokAt (s.1 1) T n u := by
    refine ⟨by rw [ur2 2 3 (by decide) (by decide) (by decide) (by decide)]; exact k2.1, fun i hi => ?_⟩
    rw [ur2 3 i (by omega) (by decide) (by decide) (by decide), ur2 4 i (by omega) (by decide) (by decide) (by decide), ur2 5 i (by omega) (by decide) (by decide) (by decide)]
    exact k2.2 i hi
  have utc : TC (s.1 1) T n 0 u := ⟨by rw [ur2 2 4 (by decide) (by decide) (by decide) (by decide)]; exact k3, by rw [ur2 2 5 (by decide) (by decide) (by decide) (by decide)]; exact k4, utok⟩
  -- where the reference begins
  have st0 : ∀ w : am_S, (∀ j, w.1 248 j = s.1 248 j ∨ j = 25) → w.1 249 = s.1 249 → STT (s.1 1) T n 0 0 u (mi w) := fun w w1 w2 => by
    refine ⟨utc, ⟨⟨0, Nat.zero_le _, ?_, rfl⟩, ?_, ?_, fun j hj => ?_⟩, Nat.zero_le _, ?_, ?_, Or.inl ⟨rfl, fun j hj => ?_, ?_, u6 0 (by decide), u6 3 (by decide), u6 6 (by decide), u6 10 (by decide), u6 12 (by decide), u6 14 (by decide), u6 15 (by decide), u8, u11⟩⟩
    · unfold mi; rw [as_i2 (by decide), as_i2 (by decide), as_i3]; rfl
    · unfold mi; rw [as_i2 (by decide), as_i3]
    · rw [mi_r w (by omega)]
      rcases w1 1 with z | z
      · rw [z]; exact p2
      · omega
    · rw [mi_r w (by omega), w2]; exact (p3 j hj).1.symm
    · unfold mi; rw [as_i2 (by decide), as_i2 (by decide), as_i2 (by decide), as_i3]; rfl
    · unfold mi; rw [as_i2 (by decide), as_i2 (by decide), as_i2 (by decide), as_i2 (by decide), as_i1 (by decide), as_i1 (by decide), as_w1 (by decide), as_i3]
    · unfold mi; rw [as_i1 (by decide), as_i1 (by decide), as_i1 (by decide), as_i1 (by decide), as_i1 (by decide), as_i2 (by omega), as_w3, cpv_in (by omega) (by omega)]
    · unfold mi; rw [as_i1 (by decide), as_i1 (by decide), as_i1 (by decide), as_i1 (by decide), as_i1 (by decide), as_i3]
  have cls : ∀ v w, f_X1_readClauses_246 (nI 40) u = some (v, w) → f_X11_town s = am_if (v = 0) (am_bd (f_X5_settle w) (fun s6 => am_bd (f_X0_forget s6) (fun s7 => some ((s7.1 16 3), s7)))) (some (((-2 : Int32) - v), w)) := fun v w hv => by
    unfold f_X11_town
    rw [p1, k1, am_bds, am_ltd, u0, am_bds, hv, am_b2s]
  have hi48 : ∀ w : am_S, frm PTn u w → ∀ b, 14 ≤ b → w.1 b = s.1 b := fun w fw b hb => by
    rw [fw.row (fun j => by unfold PTn P2; omega)]
    funext j
    exact ulow b j (by omega) (by omega)
  rcases tw_read hT hnT hn1 hb (st0 u (fun j => Or.inl (ulow 248 j (by omega) (by omega))) (funext fun j => ulow 249 j (by omega) (by omega))) with ⟨e, w, y0, q1, q2, _, _, q5, _⟩ | ⟨i0, j0, w, y0, q2, _, q4, q4b, q5, _⟩
  · -- a fault
    have w48 := hi48 w q5
    rcases tw_read hT hnT hn1 hb (st0 w (fun j => Or.inl (by rw [w48 248 (by decide)])) (w48 249 (by decide))) with ⟨e2, w2, y, r1, r2, r3, r4, r5, r6⟩ | ⟨i2, j2, w2, y, r2, _⟩
    · rw [q2] at r2
      have r2' := Option.some.inj r2
      have ew : w = w2 := congrArg Prod.snd r2'
      have ee : e = e2 := by
        have := congrArg Prod.fst r2'
        have this : nI e = nI e2 := this
        rw [nI_eq (by have := q1.2; omega) (by have := r1.2; omega)] at this
        exact this
      subst ew
      subst ee
      refine ⟨(-2 : Int32) - nI e, w, as_i y 248 1 0, by rw [cls _ _ q2, am_iff q1.ne], ?_, rn, InvR_mono (InvR_prot hI1 ?_)⟩
      · rw [m_town r3, am_ift rfl, as_i2 (by decide), r4]
      · have yr : ∀ b j, ¬ (b = 248 ∧ (8 ≤ j ∧ j ≤ 16)) → b ≠ 251 → b ≠ 254 → y.1 b j = w.1 b j := fun b j b1 b2 b3 => by
          rw [r6.1 b j (by unfold PX PWn; omega), mi_r w (by omega)]
        have fin : ∀ b j, 14 ≤ b → b ≠ 248 → b ≠ 251 → b ≠ 254 → (as_i y 248 1 0).1 b j = s.1 b j := fun b j b1 b2 b3 b4 => by
          rw [as_i1 b2, yr b j (by omega) b3 b4, w48 b b1]
        have f48 : ∀ j, j ≠ 1 → ¬ (8 ≤ j ∧ j ≤ 16) → (as_i y 248 1 0).1 248 j = s.1 248 j := fun j j1 j2 => by
          rw [as_i2 j1, yr 248 j (by omega) (by decide) (by decide), w48 248 (by decide)]
        have f0 : ∀ j, (as_i y 248 1 0).1 0 j = u.1 0 j := fun j => by rw [as_i1 (by decide), yr 0 j (by omega) (by decide) (by decide), q5.1 0 j (by unfold PTn P2; omega)]
        refine ⟨fun a ha => ?_, ?_, ?_, ?_, ?_, ?_, ?_, ?_, fun z => ?_⟩
        · funext j
          rw [as_i1 (show a ≠ 248 by unfold isPr at ha; omega) (s := as_i s 0 1 0), as_i1 (show a ≠ 0 by unfold isPr at ha; omega)]
          by_cases a1 : a = 1
          · subst a1
            rw [as_i1 (by decide), yr 1 j (by omega) (by decide) (by decide), q5.1 1 j (by unfold PTn P2; omega), ulow 1 j (by omega) (by omega)]
          · unfold isPr at ha
            exact fin a j (by omega) (by omega) (by omega) (by omega)
        · rw [f0, ur 0 (by decide) (by decide) (by decide), as_i3, as_i1 (by decide), as_i3]
        · rw [f0, ulow 0 5 (by omega) (by omega), as_i1 (by decide), as_i2 (by decide)]
        · rw [as_i3, as_i3]
        · rw [f48 2 (by decide) (by omega), as_i2 (by decide), as_i1 (by decide)]
        · rw [f48 21 (by decide) (by omega), as_i2 (by decide), as_i1 (by decide)]
        · rw [f48 22 (by decide) (by omega), as_i2 (by decide), as_i1 (by decide)]
        · rw [f48 25 (by decide) (by omega), as_i2 (by decide), as_i1 (by decide)]
        · have e2 : (as_i y 248 1 0).2 = s.2 := by
            show y.2 = _
            rw [r6.2]
            show w.2 = _
            rw [q5.2, us2]
          unfold pRef at z ⊢
          rw [e2]
          exact z
    · rw [q2] at r2
      have r2' := congrArg Prod.fst (Option.some.inj r2)
      exact absurd r2' q1.ne
  · -- a town
    obtain ⟨tcw, _, _, _, _, hst⟩ := id q4
    rcases hst with ⟨z, _⟩ | ⟨_, F0, O0, P0, S0, I0, H0, C0, hF0, W0, D0⟩
    · omega
    obtain ⟨z6, g1, _⟩ := c_settle5 (R := fun _ => 0) W0 hF0 D0
    generalize hz7 : as_i (as_i z6 32 1 0) 32 2 0 = z7
    have fg : f_X0_forget z6 = some z7 := by
      unfold f_X0_forget
      rw [am_ltd, am_ltd, hz7]
    obtain ⟨zz, g1', _, _, _, _, _, _, _, g10, g11, _⟩ := c_settle5 (R := fun _ => 0) W0 hF0 D0
    have ez : z6 = zz := by rw [g1] at g1'; exact Option.some.inj g1'
    subst ez
    have w48 := hi48 w q5
    have z748 : ∀ b, 133 < b → z7.1 b = s.1 b := fun b hb => by rw [← hz7, as_i1 (by omega), as_i1 (by omega), g10 b (by omega), w48 b (by omega)]
    rcases tw_read hT hnT hn1 hb (st0 z7 (fun j => Or.inl (by rw [z748 248 (by decide)])) (z748 249 (by decide))) with ⟨e2, w2, y, r1, r2, _⟩ | ⟨i2, j2, w2, y, r2, r3, r4, r4b, r5, r6⟩
    · rw [q2] at r2
      have r2' := congrArg Prod.fst (Option.some.inj r2)
      exact absurd r2'.symm r1.ne
    · rw [q2] at r2
      have ew : w = w2 := congrArg Prod.snd (Option.some.inj r2)
      subst ew
      obtain ⟨_, _, _, _, _, hst2⟩ := r4
      rcases hst2 with ⟨z, _⟩ | ⟨_, F, O, P, S, I, H, C, hF, W, D⟩
      · omega
      have yr : ∀ b j, ¬ (b = 248 ∧ (8 ≤ j ∧ j ≤ 16)) → b ≠ 251 → b ≠ 254 → y.1 b j = z7.1 b j := fun b j b1 b2 b3 => by
        rw [r6.1 b j (by unfold PX PWn; omega), mi_r z7 (by omega)]
      obtain ⟨z8, m1, m2, m3, m4, m5, m6, m7, m8, m9, ma, mb⟩ := c_settle5 (R := y.1 258) W hF D
      have ez : z6 = z8 := by rw [g1] at m1; exact Option.some.inj m1
      subst ez
      obtain ⟨wM, e0, e1, e2, e3, e4, e5⟩ := (M_TWN (R := y.1 258) W).wf hF
      generalize hv : as_i (as_w (as_i y 248 1 0) 258 (Mrow (y.1 254) (y.1 258))) 248 25 0 = v
      have row : v.1 258 = Mrow (y.1 254) (y.1 258) := by rw [← hv, as_i1 (by decide), as_w3]
      have vr : ∀ b j, b ≠ 248 → b ≠ 251 → b ≠ 254 → b ≠ 258 → v.1 b j = z7.1 b j := fun b j b1 b2 b3 b4 => by rw [← hv, as_i1 b1, as_w1 b4, as_i1 b1, yr b j (by omega) b2 b3]
      have v48 : ∀ j, j ≠ 1 → j ≠ 25 → ¬ (8 ≤ j ∧ j ≤ 16) → v.1 248 j = s.1 248 j := fun j j1 j2 j3 => by rw [← hv, as_i2 j2, as_w1 (by decide), as_i2 j1, yr 248 j (by omega) (by decide) (by decide), z748 248 (by decide)]
      have v2 : v.2 = s.2 := by
        rw [← hv]
        show y.2 = _
        rw [r6.2]
        show z7.2 = _
        rw [← hz7]
        show z6.2 = _
        rw [ma, q5.2, us2]
      have zr : ∀ b, b ≠ 32 → z7.1 b = z6.1 b := fun b hb => by rw [← hz7, as_i1 hb, as_i1 hb]
      have vz : ∀ b, b ≠ 248 → b ≠ 251 → b ≠ 254 → b ≠ 258 → b ≠ 32 → v.1 b = z6.1 b := fun b b1 b2 b3 b4 b5 => by
        funext j
        rw [vr b j b1 b2 b3 b4, zr b b5]
      refine ⟨nI P, z7, v, ?_, ?_, rn, ?_⟩
      · rw [cls _ _ q2, am_ift rfl, g1, am_bds, fg, am_bds, zr 16 (by decide), mb]
      · rw [m_town r3, am_iff (by decide), as_i1 (show (254 : Nat) ≠ 248 by decide), as_i1 (show (258 : Nat) ≠ 248 by decide), hv, Mrow_lo (by decide) (by decide) (by decide), W.2.2.1.1]
      · have old := h6.2.2.2.2.2
        refine InvR_N (InvR_mono hI1) ⟨fun a ha a1 a2 a3 a4 => ?_, ?_, ?_, ?_, ?_, fun z => ?_⟩ ?_ ⟨0, 0, by decide, by decide, ?_, ?_, ?_, fun i hi => by omega⟩
        · rw [as_i1 (show a ≠ 248 by unfold isPr at ha; omega) (s := as_i s 0 1 0), as_i1 (show a ≠ 0 by unfold isPr at ha; omega)]
          unfold isPr at ha
          rw [vz a (by omega) (by omega) (by omega) (by omega) (by omega), m9 a (by omega)]
          by_cases b1 : a = 1
          · subst b1
            funext j
            rw [q5.1 1 j (by unfold PTn P2; omega), ulow 1 j (by omega) (by omega)]
          · exact w48 a (by omega)
        · rw [vz 0 (by decide) (by decide) (by decide) (by decide) (by decide), m9 0 (by decide), q5.1 0 1 (by unfold PTn P2; omega), ur 0 (by decide) (by decide) (by decide), as_i3, as_i1 (by decide), as_i3]
        · rw [vz 0 (by decide) (by decide) (by decide) (by decide) (by decide), m9 0 (by decide), q5.1 0 5 (by unfold PTn P2; omega), ulow 0 5 (by omega) (by omega), as_i1 (by decide), as_i2 (by decide)]
        · rw [as_i3, ← hv, as_i2 (by decide), as_w1 (by decide), as_i3]
        · rw [v48 2 (by decide) (by decide) (by omega), as_i2 (by decide), as_i1 (by decide)]
        · unfold pRef at z ⊢
          rw [v2]
          exact z
        · unfold pNow
          rw [row, v48 21 (by decide) (by decide) (by omega), v48 22 (by decide) (by decide) (by omega), vz 16 (by decide) (by decide) (by decide) (by decide) (by decide), vz 18 (by decide) (by decide) (by decide) (by decide) (by decide), vz 19 (by decide) (by decide) (by decide) (by decide) (by decide), vz 20 (by decide) (by decide) (by decide) (by decide) (by decide), vz 21 (by decide) (by decide) (by decide) (by decide) (by decide), vz 22 (by decide) (by decide) (by decide) (by decide) (by decide), vz 23 (by decide) (by decide) (by decide) (by decide) (by decide), vz 24 (by decide) (by decide) (by decide) (by decide) (by decide), vz 25 (by decide) (by decide) (by decide) (by decide) (by decide), vz 26 (by decide) (by decide) (by decide) (by decide) (by decide), vz 27 (by decide) (by decide) (by decide) (by decide) (by decide), vz 28 (by decide) (by decide) (by decide) (by decide) (by decide), vz 15 (by decide) (by decide) (by decide) (by decide) (by decide), vz 29 (by decide) (by decide) (by decide) (by decide) (by decide)]
          have t26 : Mrow (y.1 254) (y.1 258) 326 = nI 0 := Mrow_hi (by decide) (by decide)
          have t27 : Mrow (y.1 254) (y.1 258) 327 = nI 0 := Mrow_hi (by decide) (by decide)
          have c15 : ∀ j, j = 2 ∨ j = 3 → z6.1 15 j = s.1 15 j := fun j hj => by rw [m8 j (by omega) (by omega) (by omega) (by omega), w48 15 (by decide)]
          refine ⟨wM, wfL_M (by omega) W hF D.2.2.2.2.2, ⟨isN_nI t26 (by decide) (by decide), isN_nI t27 (by decide) (by decide), fun i hi => ?_, fun i hi => ?_⟩, m2, m3, ⟨?_, ?_, ?_, ?_, ?_, ?_, fun j hj => ?_⟩, h6.2.2.2.2.2.2.1, h6.2.2.2.2.2.2.2⟩
          · rw [mN_nI t26 (by decide)] at hi; omega
          · rw [mN_nI t27 (by decide)] at hi; omega
          · rw [c15 2 (by decide)]; exact h6.2.2.2.2.2.1.1
          · rw [c15 3 (by decide)]; exact h6.2.2.2.2.2.1.2.1
          · rw [m4, t26]; rfl
          · rw [m5, t27]; rfl
          · rw [m6, taleBits0 t27]; rfl
          · rw [m7, taleBits0 t27]; rfl
          · rw [mN_nI t26 (by decide)] at hj; omega
        · rw [vr 32 1 (by decide) (by decide) (by decide) (by decide), ← hz7, as_i2 (by decide), as_i3]; rfl
        · rw [vr 32 2 (by decide) (by decide) (by decide) (by decide), ← hz7, as_i3]; rfl
        · rw [← hv, as_i3]; rfl
