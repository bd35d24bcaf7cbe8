/-! a town that was read is settled -/
theorem TWN.wf {m : Nat → Int32} {F O P S I H C : Nat} (W : TWN m F O P S I H C) (hF : 0 < F) : wfT m ∧ mF m = F ∧ mO m = O ∧ mP m = P ∧ mS m = S ∧ mI m = I ∧ mH m = H := by
  obtain ⟨w0, w1, w2, w3, w4, w5, w6, w7, w8, w9, wa, wb, wc, wd_⟩ := W
  have pf := p2_9 w0.2
  have e0 : mF m = F := mN_nI w0.1 (by omega)
  have e1 : mO m = O := mN_nI w1.1 (by omega)
  have e2 : mP m = P := mN_nI w2.1 (by omega)
  have e3 : mS m = S := mN_nI w3.1 (by omega)
  have e4 : mI m = I := mN_nI w4.1 (by omega)
  have e5 : mH m = H := mN_nI w5.1 (by omega)
  refine ⟨⟨isN_nI w0.1 w0.2 (by decide), ?_, isN_nI w2.1 w2.2 (by decide), isN_nI w3.1 w3.2 (by decide), isN_nI w4.1 w4.2 (by decide), isN_nI w5.1 w5.2 (by decide), isN_nI w6.1 w6.2 (by decide), w7, fun z => by omega, fun i hi => ?_, fun i hi => ?_, fun i hi => ?_, fun j hj _ => ?_⟩, e0, e1, e2, e3, e4, e5⟩
  · rw [e0]; exact isN_nI w1.1 w1.2 (by omega)
  · rw [e3] at hi
    rw [e2]
    obtain ⟨a, b, h1, h2, h3, h4, h5⟩ := w8 i hi
    refine ⟨isN_nI h1 h3 (by omega), isN_nI h2 h4 (by omega), ?_⟩
    rw [show mA m i = a from mN_nI h1 (by omega), show mB m i = b from mN_nI h2 (by omega)]
    exact h5
  · rw [e4] at hi
    rw [e0]
    obtain ⟨a, b, h1, h2, h3, h4, h5, h6⟩ := w9 i hi
    exact ⟨isN_nI h1 h2 (by omega), h3, isN_nI h4 h5 (by omega), h6⟩
  · rw [e5] at hi
    rw [e0]
    obtain ⟨a, v, h1, h2, h3, h4, h5⟩ := wa i hi
    exact ⟨isN_nI h1 h2 (by omega), h3, isN_nI h4 h5 (by decide)⟩
  · obtain ⟨v, h1, h2⟩ := wb j hj
    exact isN_nI h1 h2 (by decide)
/-- one person's beginning -/
theorem c_beg1 {m : Nat → Int32} {x : am_S} {p kn O : Nat} (w : wfT m) (hO : mO m = O) (hp : p < mP m) (h1 : x.1 16 1 = m 0) (h2 : x.1 16 2 = m 1) (okc : okC m x) (h17 : x.1 17 p = nI kn) (hk : kn < 2 ^ mF m) (hm : ∀ f, f < 8 → m (11 + 16 * p + 2 * f) = (if kn.testBit f = true then nI (O / 2 ^ f % 2) else nI 2) ∧ m (11 + 16 * p + 2 * f + 1) = (if kn.testBit f = true then nI 10 else 0)) (h25 : ∀ f, f < 8 → x.1 25 (8 * p + f) = nI 2) (h26 : ∀ f, f < 8 → x.1 26 (8 * p + f) = 0) : ∃ s2, am_lp (fun (q : Int32 × am_S) => b_X2_begin_28 24 (nI p) q.1 q.2) am_F ((0 : Int32), x) = some (.inl (nI (p + 1), s2)) ∧ lifeQ m s2 24 p ∧ (∀ b, b ≠ 25 → b ≠ 26 → b ≠ 27 → s2.1 b = x.1 b) ∧ (∀ b j, (j < 8 * p ∨ 8 * p + 8 ≤ j) → s2.1 b j = x.1 b j) ∧ s2.2 = x.2 := by
  have e4 : am_F = 4000 := rfl
  have hF := w.F8
  have hP := w.P7
  have w0 : m 0 = nI (mF m) := w.1.e
  have w1 : m 1 = nI O := by rw [← hO]; exact w.2.1.e
  have l1 : O < 2 ^ mF m := by rw [← hO]; exact w.2.1.2
  have pf := p2_9 (show mF m < 9 by omega)
  have i24 : (24 : Nat) ∈ am_isL := by decide +kernel
  obtain ⟨r, r1, r2⟩ := lp_ind (body := fun (q : Int32 × am_S) => b_X2_begin_28 24 (nI p) q.1 q.2) (mF m) (fun k q => q.1 = nI k ∧ (∀ f, f < 8 → q.2.1 25 (8 * p + f) = (if f < k ∧ kn.testBit f = true then nI (O / 2 ^ f % 2) else nI 2)) ∧ (∀ f, f < 8 → q.2.1 26 (8 * p + f) = (if f < k ∧ kn.testBit f = true then nI 10 else 0)) ∧ (∀ b, b ≠ 25 → b ≠ 26 → q.2.1 b = x.1 b) ∧ (∀ b j, (j < 8 * p ∨ 8 * p + 8 ≤ j) → q.2.1 b j = x.1 b j) ∧ q.2.2 = x.2) (fun r => ∃ s2, r = .inl (nI (p + 1), s2) ∧ lifeQ m s2 24 p ∧ (∀ b, b ≠ 25 → b ≠ 26 → b ≠ 27 → s2.1 b = x.1 b) ∧ (∀ b j, (j < 8 * p ∨ 8 * p + 8 ≤ j) → s2.1 b j = x.1 b j) ∧ s2.2 = x.2) (fun k hk2 q hq => by
    obtain ⟨q1, q2⟩ := q
    obtain ⟨a1, a2, a3, a4, a5, a6⟩ := hq
    dsimp only at a1 a2 a3 a4 a5 a6
    left
    dsimp only
    unfold b_X2_begin_28
    rw [a1, a4 16 (by decide) (by decide), a4 17 (by decide) (by decide), h1, w0, am_iff (nI_ge hk2 (by omega)), gd_nI (by omega) (by decide), cL (by omega), h17, c_bit, am_bds, bitb (by omega) (by omega), h2, w1, c_bit, am_bds, bit1 (by omega) (by omega), pk_mul, nI_add, show p * 8 + k = 8 * p + k by omega, nI_1]
    by_cases z : kn.testBit k = true
    · rw [am_ift (b01_t z), gd_nI (by omega) (by decide), cL (by omega), am_ltd, gd2 (by omega) (by decide), am_ltd, am_ltd]
      refine ⟨_, rfl, rfl, fun f hf => ?_, fun f hf => ?_, fun b b1 b2 => ?_, fun b j hj => ?_, a6⟩
      · dsimp only
        rw [as_i1 (by decide), rd_i]
        by_cases e : f = k
        · subst e
          rw [if_pos ⟨rfl, rfl⟩, if_pos ⟨by omega, z⟩]
        · rw [if_neg (by omega), a2 f hf]
          by_cases e2 : f < k ∧ kn.testBit f = true
          · rw [if_pos e2, if_pos ⟨by omega, e2.2⟩]
          · rw [if_neg e2, if_neg (fun q => e2 ⟨by omega, q.2⟩)]
      · dsimp only
        rw [rd_i]
        by_cases e : f = k
        · subst e
          rw [if_pos ⟨rfl, rfl⟩, if_pos ⟨by omega, z⟩]
        · rw [if_neg (by omega), as_i1 (by decide), a3 f hf]
          by_cases e2 : f < k ∧ kn.testBit f = true
          · rw [if_pos e2, if_pos ⟨by omega, e2.2⟩]
          · rw [if_neg e2, if_neg (fun q => e2 ⟨by omega, q.2⟩)]
      · dsimp only
        rw [as_i1 b2, as_i1 b1]; exact a4 b b1 b2
      · dsimp only
        rw [rd_i, if_neg (by omega), rd_i, if_neg (by omega)]; exact a5 b j hj
    · rw [am_iff (by rw [b01_f z]; decide), am_ltd]
      refine ⟨_, rfl, rfl, fun f hf => ?_, fun f hf => ?_, a4, a5, a6⟩
      · dsimp only
        rw [a2 f hf]
        by_cases e2 : f < k ∧ kn.testBit f = true
        · rw [if_pos e2, if_pos ⟨by omega, e2.2⟩]
        · rw [if_neg e2, if_neg (fun q => e2 ⟨by
            by_cases e : f = k
            · rw [e] at q; exact absurd q.2 z
            · omega, q.2⟩)]
      · dsimp only
        rw [a3 f hf]
        by_cases e2 : f < k ∧ kn.testBit f = true
        · rw [if_pos e2, if_pos ⟨by omega, e2.2⟩]
        · rw [if_neg e2, if_neg (fun q => e2 ⟨by
            by_cases e : f = k
            · rw [e] at q; exact absurd q.2 z
            · omega, q.2⟩)]) (fun q hq => by
    obtain ⟨q1, q2⟩ := q
    obtain ⟨a1, a2, a3, a4, a5, a6⟩ := hq
    dsimp only at a1 a2 a3 a4 a5 a6
    have hb : ∀ f, f < 8 → q2.1 (24 + 1) (8 * p + f) = heldR m p f := fun f hf => by
      show q2.1 25 (8 * p + f) = _
      rw [a2 f hf]
      unfold heldR
      by_cases e : f < mF m
      · rw [if_pos e, (hm f hf).1]
        by_cases z : kn.testBit f = true
        · rw [if_pos ⟨e, z⟩, if_pos z]
        · rw [if_neg (fun q => z q.2), if_neg z]
      · rw [if_neg e, if_neg (fun q => e q.1)]
    obtain ⟨s2, c1, c2, c3, c4, c5⟩ := c_conclude (m := m) (s := q2) (L := 24) (p := p) (b := heldR m p) w ⟨by rw [a4 16 (by decide) (by decide)]; exact okc.1, fun j hj => by rw [a4 22 (by decide) (by decide)]; exact okc.2 j hj⟩ i24 (by omega) hb
    refine ⟨.inl (nI (p + 1), s2), ?_, s2, rfl, ⟨fun f hf => ⟨?_, c5 f hf⟩, fun f hf => ?_⟩, fun b b1 b2 b3 => ?_, fun b j hj => ?_, c3.trans a6⟩
    · dsimp only
      unfold b_X2_begin_28 j_X2_begin_88
      rw [a1, a4 16 (by decide) (by decide), h1, w0, am_ift (nI_le (Nat.le_refl _) (by omega)), c1, am_bds, nI_1, am_ltd, am_bds]
    · rw [c2 (24 + 1) (by decide)]; exact hb f hf
    · rw [c2 (24 + 2) (by decide)]
      show q2.1 26 (8 * p + f) = _
      rw [a3 f (by omega), (hm f (by omega)).2]
      by_cases z : kn.testBit f = true
      · rw [if_pos ⟨hf, z⟩, if_pos z]
      · rw [if_neg (fun q => z q.2), if_neg z]
    · rw [c2 b b3]; exact a4 b b1 b2
    · by_cases e : b = 27
      · subst e
        rw [c4 j hj]; exact a5 27 j hj
      · rw [c2 b e]; exact a5 b j hj) (F := am_F) (by omega) ((0 : Int32), x) ⟨rfl, fun f hf => by rw [if_neg (by omega)]; exact h25 f hf, fun f hf => by rw [if_neg (by omega)]; exact h26 f hf, fun b _ _ => rfl, fun b j _ => rfl, rfl⟩
  obtain ⟨s2, e, rest⟩ := r2
  exact ⟨s2, by rw [r1, e], rest⟩
theorem c_begin24 {m : Nat → Int32} {s : am_S} {O : Nat} (w : wfT m) (hO : mO m = O) (ht : townAt m s) (hk : ∀ p, p < mP m → ∃ kn, kn < 2 ^ mF m ∧ s.1 17 p = nI kn ∧ ∀ f, f < 8 → m (11 + 16 * p + 2 * f) = (if kn.testBit f = true then nI (O / 2 ^ f % 2) else nI 2) ∧ m (11 + 16 * p + 2 * f + 1) = (if kn.testBit f = true then nI 10 else 0)) : ∃ s2, f_X2_begin 24 s = some s2 ∧ (∀ q, q < mP m → lifeQ m s2 24 q) ∧ s2.1 24 4 = 0 ∧ s2.1 24 5 = 0 ∧ s2.1 24 7 = -1 ∧ (∀ p, p < 7 → s2.1 28 p = 0) ∧ (∀ b, (b < 24 ∨ 29 ≤ b) → s2.1 b = s.1 b) ∧ s2.2 = s.2 := by
  have e4 : am_F = 4000 := rfl
  have hP := w.P7
  have i24 : (24 : Nat) ∈ am_isL := by decide +kernel
  have w2 : m 2 = nI (mP m) := w.2.2.1.e
  unfold f_X2_begin
  rw [am_gdt i24, c_fill (a := 24 + 1) (len := 56) sh_25 (by decide) (by decide), am_bds, c_fill (a := 24 + 2) (len := 56) sh_26 (by decide) (by decide), am_bds]
  generalize hx : as_w (as_w s (24 + 1) (cpv (s.1 (24 + 1)) 0 56 (fun _ => nI 2))) (24 + 2) (cpv ((as_w s (24 + 1) (cpv (s.1 (24 + 1)) 0 56 (fun _ => nI 2))).1 (24 + 2)) 0 56 (fun _ => (0 : Int32))) = x
  have x25 : ∀ j, j < 56 → x.1 25 j = nI 2 := fun j hj => by rw [← hx, as_w1 (by decide), as_w3, cpv_in (by omega) (by omega)]
  have x26 : ∀ j, j < 56 → x.1 26 j = 0 := fun j hj => by rw [← hx, as_w3, cpv_in (by omega) (by omega)]
  have xr : ∀ b, b ≠ 25 → b ≠ 26 → x.1 b = s.1 b := fun b b1 b2 => by rw [← hx, as_w1 b2, as_w1 b1]
  have x2 : x.2 = s.2 := by rw [← hx]; rfl
  refine lp_ind (body := fun (q : Int32 × am_S) => b_X2_begin_18 24 q.1 q.2) (mP m) (fun p q => q.1 = nI p ∧ (∀ r, r < p → lifeQ m q.2 24 r) ∧ (∀ j, 8 * p ≤ j → j < 56 → q.2.1 25 j = nI 2 ∧ q.2.1 26 j = 0) ∧ (∀ b, b ≠ 25 → b ≠ 26 → b ≠ 27 → q.2.1 b = s.1 b) ∧ q.2.2 = s.2) (fun s2 => (∀ q, q < mP m → lifeQ m s2 24 q) ∧ s2.1 24 4 = 0 ∧ s2.1 24 5 = 0 ∧ s2.1 24 7 = -1 ∧ (∀ p, p < 7 → s2.1 28 p = 0) ∧ (∀ b, (b < 24 ∨ 29 ≤ b) → s2.1 b = s.1 b) ∧ s2.2 = s.2) (fun p hp q hq => ?_) (fun q hq => ?_) (by omega) ((0 : Int32), x) ⟨rfl, fun r hr => by omega, fun j _ hj => ⟨x25 j hj, x26 j hj⟩, fun b b1 b2 _ => xr b b1 b2, x2⟩
  · obtain ⟨q1, q2⟩ := q
    obtain ⟨a1, a2, a3, a4, a5⟩ := hq
    dsimp only at a1 a2 a3 a4 a5
    obtain ⟨kn, k1, k2, k3⟩ := hk p hp
    obtain ⟨s2, b1, b2, b3, b4, b5⟩ := c_beg1 (x := q2) (kn := kn) w hO hp (by rw [a4 16 (by decide) (by decide) (by decide)]; exact ht.2.1) (by rw [a4 16 (by decide) (by decide) (by decide)]; exact ht.2.2.1) ⟨by rw [a4 16 (by decide) (by decide) (by decide)]; exact ht.2.2.2.2.2.1, fun j hj => by rw [a4 22 (by decide) (by decide) (by decide)]; exact ht.2.2.2.2.2.2.2.2.2.2.2.2.1 j hj⟩ (by rw [a4 17 (by decide) (by decide) (by decide)]; exact k2) k1 k3 (fun f hf => (a3 _ (by omega) (by omega)).1) (fun f hf => (a3 _ (by omega) (by omega)).2)
    left
    refine ⟨(nI (p + 1), s2), ?_, rfl, fun r hr => ?_, fun j j1 j2 => ?_, fun b c1 c2 c3 => ?_, b5.trans a5⟩
    · dsimp only
      unfold b_X2_begin_18
      rw [a1, a4 16 (by decide) (by decide) (by decide), ht.2.2.2.1, w2, am_iff (nI_ge hp (by omega)), b1]
    · by_cases e : r = p
      · subst e; exact b2
      · exact lifeQ_mv w.F8 (a2 r (by omega)) (fun q => e q.symm) (fun i j hj => b4 (24 + i) j hj)
    · dsimp only
      rw [b4 25 j (by omega), b4 26 j (by omega)]
      exact a3 j (by omega) j2
    · dsimp only
      rw [b3 b c1 c2 c3]; exact a4 b c1 c2 c3
  · obtain ⟨q1, q2⟩ := q
    obtain ⟨a1, a2, a3, a4, a5⟩ := hq
    dsimp only at a1 a2 a3 a4 a5
    generalize hz : as_i (as_i (as_w (as_i (as_i q2 24 4 0) 24 5 0) (24 + 4) (cpv ((as_i (as_i q2 24 4 0) 24 5 0).1 (24 + 4)) 0 7 (fun _ => (0 : Int32)))) 24 6 0) 24 7 (-1) = z
    have zr : ∀ b, b ≠ 24 → b ≠ 28 → z.1 b = q2.1 b := fun b b1 b2 => by rw [← hz, as_i1 b1, as_i1 b1, as_w1 b2, as_i1 b1, as_i1 b1]
    refine ⟨z, ?_, fun r hr => ?_, ?_, ?_, ?_, fun p hp => ?_, fun b hb => ?_, ?_⟩
    · dsimp only
      unfold b_X2_begin_18 j_X2_begin_100 f_X2_forgetLies
      rw [a1, a4 16 (by decide) (by decide) (by decide), ht.2.2.2.1, w2, am_ift (nI_le (Nat.le_refl _) (by omega)), am_ltd, am_ltd, am_gdt i24, c_fill (a := 24 + 4) (len := 7) sh_28 (by decide) (by decide), am_bds, am_ltd, am_ltd, am_bds, am_bds, hz]
    · obtain ⟨c1, c2⟩ := a2 r hr
      refine ⟨fun f hf => ?_, fun f hf => ?_⟩
      · rw [zr (24 + 1) (by decide) (by decide), zr (24 + 3) (by decide) (by decide)]; exact c1 f hf
      · rw [zr (24 + 2) (by decide) (by decide)]; exact c2 f hf
    · rw [← hz, as_i2 (by decide), as_i2 (by decide), as_w1 (by decide), as_i2 (by decide), as_i3]
    · rw [← hz, as_i2 (by decide), as_i2 (by decide), as_w1 (by decide), as_i3]
    · rw [← hz, as_i3]
    · rw [← hz, as_i1 (by decide), as_i1 (by decide), as_w3, cpv_in (by omega) (by omega)]
    · rw [zr b (by omega) (by omega), a4 b (by omega) (by omega) (by omega)]
    · rw [← hz]
      exact a5
