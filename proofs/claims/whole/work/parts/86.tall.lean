/-! all clauses of a town, in both -/
section TX7
variable {c : Nat → Int32} {T n : Nat}
abbrev bT : Int32 × am_S → Option ((Int32 × am_S) ⊕ (Int32 × am_S)) := fun (q : Int32 × am_S) => b_X1_readClauses_246_7 (nI 40) q.1 q.2
theorem tok_f {s s2 : am_S} (h : tokAt c T n s) (f : frm PTn s s2) : tokAt c T n s2 := h.f f (by unfold PTn P2; omega) (by unfold PTn P2; intro j; omega) (by unfold PTn P2; intro j; omega) (by unfold PTn P2; intro j; omega)
theorem t_52F {e : Nat} {s : am_S} (hn : n ≤ 400) (he : erK e) (h : tokAt c T n s) (h5 : s.1 2 5 = nI e) (h4 : ∃ j, j ≤ n ∧ s.1 2 4 = nI j) : j_X1_readClauses_246_52 s = some (nI e, s) := by
  obtain ⟨i, hi, h4⟩ := h4
  have ne : ¬ s.1 2 5 = 0 := by rw [h5]; exact he.ne
  unfold j_X1_readClauses_246_52
  rw [c_kindHere h hn h4 hi, am_bds]
  by_cases z : nI (kd c T i) = 0
  · rw [am_ift z, h5]
  · rw [am_iff z, c_failF ne, am_bds, h5]
theorem t_lpF {e m F : Nat} {s : am_S} (hn : n ≤ 400) (he : erK e) (h : tokAt c T n s) (h5 : s.1 2 5 = nI e) (h4 : ∃ j, j ≤ n ∧ s.1 2 4 = nI j) : am_lp bT (F + 1) (nI m, s) = some (nI e, s) := by
  have ne : ¬ s.1 2 5 = 0 := by rw [h5]; exact he.ne
  refine am_lp_inr ?_
  show b_X1_readClauses_246_7 (nI 40) (nI m) s = _
  unfold b_X1_readClauses_246_7
  by_cases z : nI 40 < nI m
  · rw [am_ift z, t_52F hn he h h5 h4, am_bds]
  · rw [am_iff z, c_fine, am_bds, am_b0 ne, t_52F hn he h h5 h4, am_bds]
theorem m_lpF {e F : Nat} {y : am_S} (he : erK e) (h9 : y.1 248 9 = nI e) : am_lp bM (F + 1) ((0 : Int32), y) = some ((0 : Int32), as_i y 248 1 0) := by
  refine am_lp_inr ?_
  show b_X12_readsAll_35 0 y = _
  unfold b_X12_readsAll_35 j_X12_readsAll_66
  rw [am_ift rfl, am_ift rfl, m_88 h9, am_bds, b01_f he.ne]
def TA (c : Nat → Int32) (T n : Nat) (s y : am_S) (rc rm : Option (Int32 × am_S)) : Prop := (∃ e s2 y2, erK e ∧ rc = some (nI e, s2) ∧ rm = some ((0 : Int32), as_i y2 248 1 0) ∧ y2.1 248 9 = nI e ∧ frm PTn s s2 ∧ frm PX y y2) ∨ (∃ i2 j2 s2 y2, rc = some ((0 : Int32), s2) ∧ rm = some ((1 : Int32), as_i y2 248 1 0) ∧ STT c T n j2 i2 s2 y2 ∧ 0 < j2 ∧ frm PTn s s2 ∧ frm PX y y2)
theorem tw_all (hT : T ≤ 400) (hnT : n ≤ T) (hn1 : tp c T n = T) (hb : ∀ j, j < T → vp_nar .byte (c j) = c j) : ∀ (f F G j i : Nat) (s y : am_S), n < i + f → f ≤ F → f ≤ G → 0 < j → j ≤ 40 → STT c T n j i s y → TA c T n s y (am_lp bT F (nI j, s)) (am_lp bM G ((1 : Int32), y)) := by
  intro f
  induction f with
  | zero => intro F G j i s y hf _ _ _ _ h; have := h.2.2.1; omega
  | succ f ih =>
    intro F G j i s y hf hF hG hj0 hj h
    obtain ⟨hs, hy, hi, h14, h11, hst⟩ := id h
    obtain ⟨F, rfl⟩ : ∃ F', F = F' + 1 := ⟨F - 1, by omega⟩
    obtain ⟨G, rfl⟩ : ∃ F', G = F' + 1 := ⟨G - 1, by omega⟩
    obtain ⟨g1, g2⟩ := hy.see hT
    have head : b_X1_readClauses_246_7 (nI 40) (nI j) s = am_if (b01 (bt c T i 59) = 0) (am_bd (j_X1_readClauses_246_52 s) (fun e14 => some (Sum.inr e14))) (am_bd (f_X7_step s) (fun s15 => am_bd (f_X9_readClause (nI j) s15) (fun s16 => some (Sum.inl (nI (j + 1), s16))))) := by
      unfold b_X1_readClauses_246_7
      rw [am_iff (by rw [nI_ltI (by decide) (by omega)]; omega), c_fine, am_bds, am_b1 hs.2.1, c_isByte hs.2.2 (by omega) hs.1 hi plBs.2.2.2.2.2.2.2, am_bds]
      by_cases z : bt c T i 59
      · rw [am_b1 z, am_b1 z]
        congr 1
        funext s15
        congr 1
        funext s16
        rw [am_ltd, nI_1]
      · rw [am_b0 z, am_b0 z]
    generalize hx : as_i y 248 8 (nI (tp c T i)) = x at *
    have x8 : x.1 248 8 = nI (tp c T i) := by rw [← hx, as_i3]
    have fx : frm PX y x := by rw [← hx]; exact frm.i y (Or.inl (Or.inl ⟨rfl, Or.inl rfl⟩))
    have sx : f_X12_see x = some (seeV c T (tp c T i), x) := by
      have := (g2.see hT).1
      rw [as_i_self x8] at this
      exact this
    by_cases z : bt c T i 59
    · have lt := bt_lt hn1 hi z
      have eb := en_b hT z plBs.2.2.2.2.2.2.2
      have st1 : STT c T n j (i + 1) (as_i s 2 4 (nI (i + 1))) (as_i x 248 8 (nI (tp c T i + 1))) := by
        have s6 : ∀ b, b ≠ 2 → (as_i s 2 4 (nI (i + 1))).1 b = s.1 b := fun b hb => as_i1 hb
        refine ⟨⟨as_i3, by rw [as_i2 (by decide)]; exact hs.2.1, hs.2.2.f2 (frm.i s ⟨rfl, Or.inl rfl⟩)⟩, ⟨⟨_, by have := z.1; omega, as_i3, by rw [← eb]; exact tp_nx z.1⟩, by rw [as_i2 (by decide)]; exact g2.2.1, g2.2.2.i 248 8 _ (by decide)⟩, lt, ?_, ?_, Or.inr ⟨hj0, ?_⟩⟩
        · rw [as_i2 (by decide), ← hx, as_i2 (by decide)]; exact h14
        · rw [as_i2 (by decide), ← hx, as_i2 (by decide)]; exact h11
        · rcases hst with ⟨j0, _⟩ | ⟨_, Fa, O, P, S, I, H, C, hFa, W, D⟩
          · omega
          · have e54 : (as_i x 248 8 (nI (tp c T i + 1))).1 254 = y.1 254 := by rw [as_i1 (by decide), ← hx, as_i1 (by decide)]
            rw [e54]
            refine ⟨Fa, O, P, S, I, H, C, hFa, W, ?_⟩
            obtain ⟨⟨d0, d1, d2, d3, d4, d5, d6, d7, d8⟩, dt, ds, di, dh, dp_⟩ := D
            exact ⟨⟨by rw [s6 6 (by decide)]; exact d0, by rw [s6 6 (by decide)]; exact d1, by rw [s6 6 (by decide)]; exact d2, by rw [s6 6 (by decide)]; exact d3, by rw [s6 6 (by decide)]; exact d4, by rw [s6 6 (by decide)]; exact d5, by rw [s6 6 (by decide)]; exact d6, by rw [s6 6 (by decide)]; exact d7, by rw [s6 6 (by decide)]; exact d8⟩, fun q hq => by rw [s6 8 (by decide)]; exact dt q hq, ds.cg (fun _ _ _ => rfl) (s6 9 (by decide)) (s6 10 (by decide)) (s6 11 (by decide)), fun q hq => by rw [s6 12 (by decide)]; exact di q hq, fun q hq => by rw [s6 13 (by decide)]; exact dh q hq, dp_.cg (by have := W.2.2.1.2; omega) (fun _ _ _ => rfl) (s6 7 (by decide))⟩
      have fs : frm PTn s (as_i s 2 4 (nI (i + 1))) := frm.i s PT24
      have fy : frm PX y (as_i x 248 8 (nI (tp c T i + 1))) := fx.ti (Or.inl (Or.inl ⟨rfl, Or.inl rfl⟩))
      have ch : ∀ s2, f_X9_readClause (nI j) (as_i s 2 4 (nI (i + 1))) = some s2 → bT (nI j, s) = some (.inl (nI (j + 1), s2)) := fun s2 q => by
        show b_X1_readClauses_246_7 (nI 40) (nI j) s = _
        rw [head, am_b1 z, tk_step hs.2.2 (by omega) hs.1 lt, am_bds, q, am_bds]
      have mh : ∀ v y2, f_X12_clauseHere (as_i x 248 8 (nI (tp c T i + 1))) = some (v, y2) → bM ((1 : Int32), y) = some (.inl (v, y2)) := fun v y2 q => by
        show b_X12_readsAll_35 1 y = _
        unfold b_X12_readsAll_35
        rw [am_iff (by decide), g1, am_b2s, am_ift ((seeV_b hb (by decide)).mpr z), x8, nI_1, am_ltd, q, am_b2s]
      rcases tw_clause hT hnT hn1 hj st1 with ⟨e, s2, y2, k1, k2, k3, k4, k5, k6, k7, k8⟩ | ⟨j40, i2, s2, y2, k1, k2, k3, k4, k5, k6⟩
      · left
        obtain ⟨F, rfl⟩ : ∃ F', F = F' + 1 := ⟨F - 1, by omega⟩
        obtain ⟨G, rfl⟩ : ∃ F', G = F' + 1 := ⟨G - 1, by omega⟩
        refine ⟨e, s2, y2, k1, ?_, ?_, k6, fs.tr k7, fy.tr k8⟩
        · rw [am_lp_inl (ch _ k2), t_lpF (by omega) k1 (tok_f st1.1.2.2 k7) k4 k5]
        · rw [am_lp_inl (mh _ _ k3), m_lpF k1 k6]
      · have key := ih F G (j + 1) i2 s2 y2 (by omega) (by omega) (by omega) (by omega) (by omega) k3
        rw [am_lp_inl (ch _ k1), am_lp_inl (mh _ _ k2)]
        rcases key with ⟨e, s3, y3, p1, p2, p3, p4, p5, p6⟩ | ⟨i3, j3, s3, y3, p1, p2, p3, p4, p5, p6⟩
        · exact Or.inl ⟨e, s3, y3, p1, p2, p3, p4, (fs.tr k5).tr p5, (fy.tr k6).tr p6⟩
        · exact Or.inr ⟨i3, j3, s3, y3, p1, p2, p3, p4, (fs.tr k5).tr p5, (fy.tr k6).tr p6⟩
    · have hd : bM ((1 : Int32), y) = am_bd (j_X12_readsAll_66 1 x) (fun e26 => some (Sum.inr e26)) := by
        show b_X12_readsAll_35 1 y = _
        unfold b_X12_readsAll_35
        rw [am_iff (by decide), g1, am_b2s, am_iff (fun q => z ((seeV_b hb (by decide)).mp q))]
      have kh := c_kindHere hs.2.2 (by omega) hs.1 hi
      by_cases k0 : kd c T i = 0
      · right
        refine ⟨i, j, s, x, am_lp_inr ?_, am_lp_inr ?_, ⟨hs, g2, hi, ?_, ?_, ?_⟩, hj0, frm.rf _ _, fx⟩
        · show b_X1_readClauses_246_7 (nI 40) (nI j) s = _
          rw [head, am_b0 z]
          unfold j_X1_readClauses_246_52
          rw [kh, am_bds, am_ift (by rw [k0]; rfl), hs.2.1, am_bds]
        · rw [hd]
          unfold j_X12_readsAll_66
          rw [am_iff (by decide), sx, am_b2s, am_ift ((seeV_e hb).mpr (KD_0.mp k0)), m_88 g2.2.1, am_bds, b01_t rfl]
        · rw [← hx, as_i2 (by decide)]; exact h14
        · rw [← hx, as_i2 (by decide)]; exact h11
        · have e54 : x.1 254 = y.1 254 := by rw [← hx, as_i1 (by decide)]
          rw [e54]
          exact hst
      · left
        have fl : f_X12_fails (0 : Int32) (nI (tp c T i)) x = some ((0 : Int32), as_i x 248 9 (nI (fau c T i 0))) := m_fails0 (k := 0) g2.2.1
        have cf : f_X7_fail (0 : Int32) s = some (as_i s 2 5 (nI (fau c T i 0))) := c_fail (k := 0) hs.2.2 (by omega) hs.1 hi hs.2.1
        refine ⟨fau c T i 0, as_i s 2 5 (nI (fau c T i 0)), as_i x 248 9 (nI (fau c T i 0)), fauK hT i (by decide), am_lp_inr ?_, am_lp_inr ?_, as_i3, frm.i s PT25, fx.ti (Or.inl (Or.inl ⟨rfl, Or.inr (Or.inl rfl)⟩))⟩
        · show b_X1_readClauses_246_7 (nI 40) (nI j) s = _
          rw [head, am_b0 z]
          unfold j_X1_readClauses_246_52
          rw [kh, am_bds, am_iff (show ¬ nI (kd c T i) = (0 : Int32) from fun q => k0 ((kdI (k := 0) (by decide)).mp q)), cf, am_bds, am_bds, as_i3]
        · rw [hd]
          unfold j_X12_readsAll_66
          rw [am_iff (by decide), sx, am_b2s, am_iff (fun q => k0 (KD_0.mpr ((seeV_e hb).mp q))), x8, fl, am_b2s, m_88 as_i3, am_bds, b01_f (erK.ne (fauK hT i (by decide)))]
theorem tw_read (hT : T ≤ 400) (hnT : n ≤ T) (hn1 : tp c T n = T) (hb : ∀ j, j < T → vp_nar .byte (c j) = c j) {s y : am_S} (h : STT c T n 0 0 s y) : TA c T n s y (f_X1_readClauses_246 (nI 40) s) (am_b2 (f_X12_clauseHere y) (fun v18 s19 => am_lp bM am_F (v18, s19))) := by
  have q := tw_clause hT hnT hn1 (Nat.zero_le _) h
  unfold f_X1_readClauses_246
  rcases q with ⟨e, s2, y2, k1, k2, k3, k4, k5, k6, k7, k8⟩ | ⟨j40, i2, s2, y2, k1, k2, k3, k4, k5, k6⟩
  · have k2' : f_X9_readClause (0 : Int32) s = some s2 := k2
    left
    refine ⟨e, s2, y2, k1, ?_, ?_, k6, k7, k8⟩
    · rw [k2', am_bds]
      exact t_lpF (m := 1) (F := 3999) (by omega) k1 (tok_f h.1.2.2 k7) k4 k5
    · rw [k3, am_b2s]
      exact m_lpF (F := 3999) k1 k6
  · have k1' : f_X9_readClause (0 : Int32) s = some s2 := k1
    have key := tw_all hT hnT hn1 hb 401 am_F am_F 1 i2 s2 y2 (by omega) (by decide) (by decide) (by decide) (by decide) k3
    rw [k1', am_bds, k2, am_b2s]
    rcases key with ⟨e, s3, y3, p1, p2, p3, p4, p5, p6⟩ | ⟨i3, j3, s3, y3, p1, p2, p3, p4, p5, p6⟩
    · exact Or.inl ⟨e, s3, y3, p1, p2, p3, p4, k5.tr p5, k6.tr p6⟩
    · exact Or.inr ⟨i3, j3, s3, y3, p1, p2, p3, p4, k5.tr p5, k6.tr p6⟩
end TX7
