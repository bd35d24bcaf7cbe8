def f_X12_in (w1 : Int64) (w2 : Int64) (w3 : Int64) : Option (Int32) :=
  am_if ((lg_cmp w1 w2) < 0) (some (0 : Int32)) (am_if (0 < (lg_cmp w1 w3)) (some (0 : Int32)) (some (1 : Int32)))
set_option maxRecDepth 100000 in
set_option maxHeartbeats 4000000 in
theorem t_X12_in (w1 : Int64) (w2 : Int64) (w3 : Int64) (s0 : am_S) {z : Int32} (E : f_X12_in w1 w2 w3 = some z) : AS yX12_in cX12_in 6 (some .boolean) 1 [.long w1, .long w2, .long w3] s0 (some (.int z)) s0 := by
  unfold f_X12_in at E
  refine as_met (lv := [(0, .long w1), (2, .long w2), (4, .long w3)]) (by decide +kernel) (by simp [lg_sl, Value.category]) rfl (fun x C A Z => ?_)
  refine am_lload_n 0 C dX12_in_0 rfl 0 rfl ?_
  refine am_lload_n 1 C dX12_in_1 rfl 1 rfl ?_
  refine am_lcmp 2 C dX12_in_2 ?_
  refine am_if_lt 3 17 C dX12_in_3 (by decide) (fun c5 => ?_) (fun c5 => ?_)
  · have E := am_ifT E c5
    refine am_iconst 17 (0 : Int32) C dX12_in_17 (by decide) ?_
    replace E := Option.some.inj E
    subst E
    exact as_iret 18 C Z rfl dX12_in_18
  · have E := am_ifF E c5
    refine am_lload_n 6 C dX12_in_6 rfl 0 rfl ?_
    refine am_lload 7 C dX12_in_7 2 rfl ?_
    refine am_lcmp 9 C dX12_in_9 ?_
    refine am_if_gt 10 17 C dX12_in_10 (by decide) (fun c4 => ?_) (fun c4 => ?_)
    · have E := am_ifT E c4
      refine am_iconst 17 (0 : Int32) C dX12_in_17 (by decide) ?_
      replace E := Option.some.inj E
      subst E
      exact as_iret 18 C Z rfl dX12_in_18
    · have E := am_ifF E c4
      refine am_iconst 13 (1 : Int32) C dX12_in_13 (by decide) ?_
      refine am_goto 14 18 C dX12_in_14 (by decide) ?_
      replace E := Option.some.inj E
      subst E
      exact as_iret 18 C Z rfl dX12_in_18
def f_X12_isOf (p1 : Int32) (p2 : Int32) : Option (Int32) :=
  am_if (((p1 >>> (p2 &&& 31)) &&& (1 : Int32)) = (1 : Int32)) (some (1 : Int32)) (some (0 : Int32))
set_option maxRecDepth 100000 in
set_option maxHeartbeats 4000000 in
theorem t_X12_isOf (p1 : Int32) (p2 : Int32) (s0 : am_S) {z : Int32} (E : f_X12_isOf p1 p2 = some z) : AS yX12_isOf cX12_isOf 2 (some .boolean) 1 [.int p1, .int p2] s0 (some (.int z)) s0 := by
  unfold f_X12_isOf at E
  refine as_met (lv := [(0, .int p1), (1, .int p2)]) (by decide +kernel) (by simp [lg_sl, Value.category]) rfl (fun x C A Z => ?_)
  refine am_iload_n 0 C dX12_isOf_0 rfl 0 rfl ?_
  refine am_iload_n 1 C dX12_isOf_1 rfl 1 rfl ?_
  refine am_ishr 2 C dX12_isOf_2 ?_
  refine am_iconst 3 (1 : Int32) C dX12_isOf_3 (by decide) ?_
  refine am_iand 4 C dX12_isOf_4 ?_
  refine am_iconst 5 (1 : Int32) C dX12_isOf_5 (by decide) ?_
  refine am_icmp_ne 6 13 C dX12_isOf_6 (by decide) (fun c3 => ?_) (fun c3 => ?_)
  · have E := am_ifF E c3
    refine am_iconst 13 (0 : Int32) C dX12_isOf_13 (by decide) ?_
    replace E := Option.some.inj E
    subst E
    exact as_iret 14 C Z rfl dX12_isOf_14
  · have E := am_ifT E c3
    refine am_iconst 9 (1 : Int32) C dX12_isOf_9 (by decide) ?_
    refine am_goto 10 14 C dX12_isOf_10 (by decide) ?_
    replace E := Option.some.inj E
    subst E
    exact as_iret 14 C Z rfl dX12_isOf_14
def b_X12_bits_4 (v3 : Int32) (v4 : Int32) : Option ((Int32 × Int32) ⊕ (Int32)) :=
  am_if (v4 = 0) (some (Sum.inr v3)) (am_lt (v3 + (1 : Int32)) (fun v5 => am_lt (v4 &&& (v4 - (1 : Int32))) (fun v6 => some (Sum.inl (v5, v6)))))
def f_X12_bits (p1 : Int32) : Option (Int32) :=
  am_lp (fun (q : Int32 × Int32) => b_X12_bits_4 q.1 q.2) am_F ((0 : Int32), p1)
set_option maxRecDepth 100000 in
set_option maxHeartbeats 4000000 in
theorem t_X12_bits (p1 : Int32) (s0 : am_S) {z : Int32} (E : f_X12_bits p1 = some z) : AS yX12_bits cX12_bits 3 (some .int) 1 [.int p1] s0 (some (.int z)) s0 := by
  unfold f_X12_bits at E
  refine as_met (lv := [(0, .int p1)]) (by decide +kernel) (by simp [lg_sl, Value.category]) rfl (fun x C A Z => ?_)
  refine am_iconst 0 (0 : Int32) C dX12_bits_0 (by decide) ?_
  refine am_istore_n 1 (lv2 := [(1, .int (0 : Int32)), (0, .int p1)]) C dX12_bits_1 rfl (by decide) rfl ?_
  refine am_iload_n 2 C dX12_bits_2 rfl 1 rfl ?_
  refine am_istore_n 3 (lv2 := [(2, .int p1), (1, .int (0 : Int32)), (0, .int p1)]) C dX12_bits_3 rfl (by decide) rfl ?_
  have LP2 : ∀ (n : Nat) (v3 : Int32) (v4 : Int32), am_lp (fun (q : Int32 × Int32) => b_X12_bits_4 q.1 q.2) n (v3, v4) = some z → AX x 0 0 4 [(1, .int v3), (2, .int v4)] [] am_N (am_h s0) := by
    intro n
    induction n with
    | zero => intro v3 v4 E; exact (am_lp0 E).elim
    | succ n ih2 =>
      intro v3 v4 E
      obtain ⟨r2, E, Er2⟩ := am_lpE E
      replace E : b_X12_bits_4 v3 v4 = some r2 := E
      unfold b_X12_bits_4 at E
      refine am_iload_n 4 C dX12_bits_4 rfl 1 rfl ?_
      refine am_if_eq 5 20 C dX12_bits_5 (by decide) (fun c7 => ?_) (fun c7 => ?_)
      · have E := am_ifT E c7
        refine am_iload_n 20 C dX12_bits_20 rfl 0 rfl ?_
        replace E := Option.some.inj E
        replace E := am_exR E Er2
        subst E
        exact as_iret 21 C Z rfl dX12_bits_21
      · have E := am_ifF E c7
        obtain ⟨v5, hv5, E⟩ := am_ltE E
        refine as_iinc 8 (q := (1 : Int32)) (lv2 := [(1, .int v5), (2, .int v4)]) C dX12_bits_8 0 rfl (by decide) hv5 (by decide) rfl ?_
        refine am_iload_n 11 C dX12_bits_11 rfl 1 rfl ?_
        refine am_iload_n 12 C dX12_bits_12 rfl 1 rfl ?_
        refine am_iconst 13 (1 : Int32) C dX12_bits_13 (by decide) ?_
        refine am_isub 14 C dX12_bits_14 ?_
        refine am_iand 15 C dX12_bits_15 ?_
        obtain ⟨v6, hv6, E⟩ := am_ltE E
        refine as_nm hv6 ?_
        refine am_istore_n 16 (lv2 := [(2, .int v6), (1, .int v5)]) C dX12_bits_16 rfl (by decide) rfl ?_
        refine am_goto 17 4 C dX12_bits_17 (by decide) ?_
        replace E := Option.some.inj E
        replace E := am_exL E Er2
        refine am_lvs [1, 0] rfl ?_
        exact ih2 _ _ E
  refine am_lvs [1, 0] rfl ?_
  exact LP2 am_F _ _ E
def b_X12_four_3 (p1 : Int32) (v3 : Int32) (s4 : am_S) : Option ((Int32 × am_S) ⊕ (am_S)) :=
  am_if (v3 < 0) (some (Sum.inr s4)) (am_gd (¬ (s4.1 248 1) < 0 ∧ ((s4.1 248 1)).toNatClampNeg < 400) (am_lt (as_i s4 249 ((s4.1 248 1)).toNatClampNeg (vp_nar .byte ((p1 >>> (v3 &&& 31))).toInt8.toInt32)) (fun s6 => am_lt (as_i s6 248 1 ((s6.1 248 1) + (1 : Int32))) (fun s7 => am_lt (v3 + (-8 : Int32)) (fun v8 => some (Sum.inl (v8, s7)))))))
def f_X12_four (p1 : Int32) (s0 : am_S) : Option (am_S) :=
  am_lp (fun (q : Int32 × am_S) => b_X12_four_3 p1 q.1 q.2) am_F ((nI 24), s0)
set_option maxRecDepth 100000 in
set_option maxHeartbeats 4000000 in
theorem t_X12_four (p1 : Int32) (s0 : am_S) {z : am_S} (E : f_X12_four p1 s0 = some z) : AS yX12_four cX12_four 3 none 1 [.ref 248, .int p1] s0 none z := by
  unfold f_X12_four at E
  refine as_met (lv := [(0, .ref 248), (1, .int p1)]) (by decide +kernel) (by simp [lg_sl, Value.category]) rfl (fun x C A Z => ?_)
  refine am_bipush 0 (nI 24) C dX12_four_0 (by decide) ?_
  refine am_istore_n 2 (lv2 := [(2, .int (nI 24)), (0, .ref 248), (1, .int p1)]) C dX12_four_2 rfl (by decide) rfl ?_
  have LP2 : ∀ (n : Nat) (v3 : Int32) (s4 : am_S), am_lp (fun (q : Int32 × am_S) => b_X12_four_3 p1 q.1 q.2) n (v3, s4) = some z → AX x 0 0 3 [(0, .ref 248), (1, .int p1), (2, .int v3)] [] am_N (am_h s4) := by
    intro n
    induction n with
    | zero => intro v3 s4 E; exact (am_lp0 E).elim
    | succ n ih2 =>
      intro v3 s4 E
      obtain ⟨r2, E, Er2⟩ := am_lpE E
      replace E : b_X12_four_3 p1 v3 s4 = some r2 := E
      unfold b_X12_four_3 at E
      refine am_iload_n 3 C dX12_four_3 rfl 2 rfl ?_
      refine am_if_lt 4 36 C dX12_four_4 (by decide) (fun c9 => ?_) (fun c9 => ?_)
      · have E := am_ifT E c9
        replace E := Option.some.inj E
        replace E := am_exR E Er2
        subst E
        exact as_vret 36 C Z dX12_four_36
      · have E := am_ifF E c9
        refine am_aload_n 7 C dX12_four_7 rfl 0 rfl ?_
        refine as_getr 8 C fl_X12_7_11 dX12_four_8 (by decide) sh_248 (rf_248_0 _ _) ?_
        refine am_aload_n 11 C dX12_four_11 rfl 0 rfl ?_
        refine as_geti 12 C fl_X12_68_11 dX12_four_12 (by decide) sh_248 ?_
        refine am_iload_n 15 C dX12_four_15 rfl 1 rfl ?_
        refine am_iload_n 16 C dX12_four_16 rfl 2 rfl ?_
        refine am_ishr 17 C dX12_four_17 ?_
        refine am_i2b 18 C dX12_four_18 ?_
        obtain ⟨g5, E⟩ := am_gdE E
        obtain ⟨s6, hs6, E⟩ := am_ltE E
        refine as_bast 19 C dX12_four_19 (by decide) sh_249 g5 hs6 ?_
        refine am_aload_n 20 C dX12_four_20 rfl 0 rfl ?_
        refine am_dup 21 C dX12_four_21 rfl ?_
        refine as_geti 22 C fl_X12_68_11 dX12_four_22 (by decide) sh_248 ?_
        refine am_iconst 25 (1 : Int32) C dX12_four_25 (by decide) ?_
        refine am_iadd 26 C dX12_four_26 ?_
        obtain ⟨s7, hs7, E⟩ := am_ltE E
        refine as_puti 27 C fl_X12_68_11 dX12_four_27 (by decide) sh_248 rfl rfl hs7 ?_
        obtain ⟨v8, hv8, E⟩ := am_ltE E
        refine as_iinc 30 (q := (-8 : Int32)) (lv2 := [(2, .int v8), (0, .ref 248), (1, .int p1)]) C dX12_four_30 2 rfl (by decide) hv8 (by decide) rfl ?_
        refine am_goto 33 3 C dX12_four_33 (by decide) ?_
        replace E := Option.some.inj E
        replace E := am_exL E Er2
        refine am_lvs [1, 2, 0] rfl ?_
        exact ih2 _ _ E
  refine am_lvs [1, 2, 0] rfl ?_
  exact LP2 am_F _ _ E
def f_X12_feed (p1 : Int32) (p2 : Int32) (p3 : Int32) (p4 : Int32) (p5 : Int32) (s0 : am_S) : Option (Int32 × am_S) :=
  am_if (((s0.1 248 1) + (nI 20)) ≤ (nI 400)) (am_bd (f_X12_four p1 s0) (fun s6 => am_bd (f_X12_four p2 s6) (fun s7 => am_bd (f_X12_four p3 s7) (fun s8 => am_bd (f_X12_four p4 s8) (fun s9 => am_bd (f_X12_four p5 s9) (fun s10 => some ((s10.1 248 1), s10))))))) (some ((-1 : Int32), s0))
set_option maxRecDepth 100000 in
set_option maxHeartbeats 4000000 in
theorem t_X12_feed (p1 : Int32) (p2 : Int32) (p3 : Int32) (p4 : Int32) (p5 : Int32) (s0 : am_S) {z : Int32 × am_S} (E : f_X12_feed p1 p2 p3 p4 p5 s0 = some z) : AS yX12_feed cX12_feed 6 (some .int) 2 [.ref 248, .int p1, .int p2, .int p3, .int p4, .int p5] s0 (some (.int z.1)) z.2 := by
  unfold f_X12_feed at E
  refine as_met (lv := [(0, .ref 248), (1, .int p1), (2, .int p2), (3, .int p3), (4, .int p4), (5, .int p5)]) (by decide +kernel) (by simp [lg_sl, Value.category]) rfl (fun x C A Z => ?_)
  refine am_aload_n 0 C dX12_feed_0 rfl 0 rfl ?_
  refine as_geti 1 C fl_X12_68_11 dX12_feed_1 (by decide) sh_248 ?_
  refine am_bipush 4 (nI 20) C dX12_feed_4 (by decide) ?_
  refine am_iadd 6 C dX12_feed_6 ?_
  refine am_sipush 7 (nI 400) C dX12_feed_7 (by decide) ?_
  refine am_icmp_le 10 15 C dX12_feed_10 (by decide) (fun c11 => ?_) (fun c11 => ?_)
  · have E := am_ifT E c11
    refine am_aload_n 15 C dX12_feed_15 rfl 0 rfl ?_
    refine am_iload_n 16 C dX12_feed_16 rfl 1 rfl ?_
    obtain ⟨s6, Ec, E⟩ := am_bdE E
    refine as_callV 17 (s2 := s6) (st := []) (st2 := []) [.int p1] C A (by decide) ml_X12_71 yc_X12_four yv_X12_four (t_X12_four p1 s0 Ec) (by decide) sh_248 rfl rfl (Nat.le_of_ble_eq_true rfl) rfl dX12_feed_17 ?_
    refine am_aload_n 20 C dX12_feed_20 rfl 0 rfl ?_
    refine am_iload_n 21 C dX12_feed_21 rfl 2 rfl ?_
    obtain ⟨s7, Ec, E⟩ := am_bdE E
    refine as_callV 22 (s2 := s7) (st := []) (st2 := []) [.int p2] C A (by decide) ml_X12_71 yc_X12_four yv_X12_four (t_X12_four p2 s6 Ec) (by decide) sh_248 rfl rfl (Nat.le_of_ble_eq_true rfl) rfl dX12_feed_22 ?_
    refine am_aload_n 25 C dX12_feed_25 rfl 0 rfl ?_
    refine am_iload_n 26 C dX12_feed_26 rfl 3 rfl ?_
    obtain ⟨s8, Ec, E⟩ := am_bdE E
    refine as_callV 27 (s2 := s8) (st := []) (st2 := []) [.int p3] C A (by decide) ml_X12_71 yc_X12_four yv_X12_four (t_X12_four p3 s7 Ec) (by decide) sh_248 rfl rfl (Nat.le_of_ble_eq_true rfl) rfl dX12_feed_27 ?_
    refine am_aload_n 30 C dX12_feed_30 rfl 0 rfl ?_
    refine am_iload 31 C dX12_feed_31 4 rfl ?_
    obtain ⟨s9, Ec, E⟩ := am_bdE E
    refine as_callV 33 (s2 := s9) (st := []) (st2 := []) [.int p4] C A (by decide) ml_X12_71 yc_X12_four yv_X12_four (t_X12_four p4 s8 Ec) (by decide) sh_248 rfl rfl (Nat.le_of_ble_eq_true rfl) rfl dX12_feed_33 ?_
    refine am_aload_n 36 C dX12_feed_36 rfl 0 rfl ?_
    refine am_iload 37 C dX12_feed_37 5 rfl ?_
    obtain ⟨s10, Ec, E⟩ := am_bdE E
    refine as_callV 39 (s2 := s10) (st := []) (st2 := []) [.int p5] C A (by decide) ml_X12_71 yc_X12_four yv_X12_four (t_X12_four p5 s9 Ec) (by decide) sh_248 rfl rfl (Nat.le_of_ble_eq_true rfl) rfl dX12_feed_39 ?_
    refine am_aload_n 42 C dX12_feed_42 rfl 0 rfl ?_
    refine as_geti 43 C fl_X12_68_11 dX12_feed_43 (by decide) sh_248 ?_
    replace E := Option.some.inj E
    subst E
    exact as_iret 46 C Z rfl dX12_feed_46
  · have E := am_ifF E c11
    refine am_iconst 13 (-1 : Int32) C dX12_feed_13 (by decide) ?_
    replace E := Option.some.inj E
    subst E
    exact as_iret 14 C Z rfl dX12_feed_14
def f_X12_end (p1 : Int32) (s0 : am_S) : Option (Int32 × am_S) :=
  am_if (p1 < 0) (some ((-1 : Int32), s0)) (am_if (p1 ≤ (s0.1 248 1)) (am_lt (as_i s0 248 1 p1) (fun s2 => some (p1, s2))) (some ((-1 : Int32), s0)))
set_option maxRecDepth 100000 in
set_option maxHeartbeats 4000000 in
theorem t_X12_end (p1 : Int32) (s0 : am_S) {z : Int32 × am_S} (E : f_X12_end p1 s0 = some z) : AS yX12_end cX12_end 2 (some .int) 1 [.ref 248, .int p1] s0 (some (.int z.1)) z.2 := by
  unfold f_X12_end at E
  refine as_met (lv := [(0, .ref 248), (1, .int p1)]) (by decide +kernel) (by simp [lg_sl, Value.category]) rfl (fun x C A Z => ?_)
  refine am_iload_n 0 C dX12_end_0 rfl 1 rfl ?_
  refine am_if_lt 1 12 C dX12_end_1 (by decide) (fun c4 => ?_) (fun c4 => ?_)
  · have E := am_ifT E c4
    refine am_iconst 12 (-1 : Int32) C dX12_end_12 (by decide) ?_
    replace E := Option.some.inj E
    subst E
    exact as_iret 13 C Z rfl dX12_end_13
  · have E := am_ifF E c4
    refine am_iload_n 4 C dX12_end_4 rfl 1 rfl ?_
    refine am_aload_n 5 C dX12_end_5 rfl 0 rfl ?_
    refine as_geti 6 C fl_X12_68_11 dX12_end_6 (by decide) sh_248 ?_
    refine am_icmp_le 9 14 C dX12_end_9 (by decide) (fun c3 => ?_) (fun c3 => ?_)
    · have E := am_ifT E c3
      refine am_aload_n 14 C dX12_end_14 rfl 0 rfl ?_
      refine am_iload_n 15 C dX12_end_15 rfl 1 rfl ?_
      obtain ⟨s2, hs2, E⟩ := am_ltE E
      refine as_puti 16 C fl_X12_68_11 dX12_end_16 (by decide) sh_248 rfl rfl hs2 ?_
      refine am_iload_n 19 C dX12_end_19 rfl 1 rfl ?_
      replace E := Option.some.inj E
      subst E
      exact as_iret 20 C Z rfl dX12_end_20
    · have E := am_ifF E c3
      refine am_iconst 12 (-1 : Int32) C dX12_end_12 (by decide) ?_
      replace E := Option.some.inj E
      subst E
      exact as_iret 13 C Z rfl dX12_end_13
def f_X12_fails (p1 : Int32) (p2 : Int32) (s0 : am_S) : Option (Int32 × am_S) :=
  am_if ((s0.1 248 9) = 0) (am_lt (as_i s0 248 9 (((1 : Int32) + ((nI 8) * p2)) + p1)) (fun s3 => some ((0 : Int32), s3))) (some ((0 : Int32), s0))
set_option maxRecDepth 100000 in
set_option maxHeartbeats 4000000 in
theorem t_X12_fails (p1 : Int32) (p2 : Int32) (s0 : am_S) {z : Int32 × am_S} (E : f_X12_fails p1 p2 s0 = some z) : AS yX12_fails cX12_fails 3 (some .boolean) 1 [.ref 248, .int p1, .int p2] s0 (some (.int z.1)) z.2 := by
  unfold f_X12_fails at E
  refine as_met (lv := [(0, .ref 248), (1, .int p1), (2, .int p2)]) (by decide +kernel) (by simp [lg_sl, Value.category]) rfl (fun x C A Z => ?_)
  refine am_aload_n 0 C dX12_fails_0 rfl 0 rfl ?_
  refine as_geti 1 C fl_X12_75_11 dX12_fails_1 (by decide) sh_248 ?_
  refine am_if_ne 4 19 C dX12_fails_4 (by decide) (fun c4 => ?_) (fun c4 => ?_)
  · have E := am_ifF E c4
    refine am_iconst 19 (0 : Int32) C dX12_fails_19 (by decide) ?_
    replace E := Option.some.inj E
    subst E
    exact as_iret 20 C Z rfl dX12_fails_20
  · have E := am_ifT E c4
    refine am_aload_n 7 C dX12_fails_7 rfl 0 rfl ?_
    refine am_iconst 8 (1 : Int32) C dX12_fails_8 (by decide) ?_
    refine am_bipush 9 (nI 8) C dX12_fails_9 (by decide) ?_
    refine am_iload_n 11 C dX12_fails_11 rfl 2 rfl ?_
    refine am_imul 12 C dX12_fails_12 ?_
    refine am_iadd 13 C dX12_fails_13 ?_
    refine am_iload_n 14 C dX12_fails_14 rfl 1 rfl ?_
    refine am_iadd 15 C dX12_fails_15 ?_
    obtain ⟨s3, hs3, E⟩ := am_ltE E
    refine as_puti 16 C fl_X12_75_11 dX12_fails_16 (by decide) sh_248 rfl rfl hs3 ?_
    refine am_iconst 19 (0 : Int32) C dX12_fails_19 (by decide) ?_
    replace E := Option.some.inj E
    subst E
    exact as_iret 20 C Z rfl dX12_fails_20
def j_X12_see_38 (s1 : am_S) : Option (Int32 × am_S) :=
  am_if ((s1.1 248 1) ≤ (s1.1 248 8)) (some ((-1 : Int32), s1)) (am_lt (s1.1 248 8) (fun v2 => am_gd (¬ v2 < 0 ∧ (v2).toNatClampNeg < 400) (some (((s1.1 249 (v2).toNatClampNeg) &&& (nI 255)), s1))))
def b_X12_see_0 (s6 : am_S) : Option ((am_S) ⊕ (Int32 × am_S)) :=
  am_if ((s6.1 248 1) ≤ (s6.1 248 8)) (am_bd (j_X12_see_38 s6) (fun e7 => some (Sum.inr e7))) (am_lt (s6.1 248 8) (fun v8 => am_gd (¬ v8 < 0 ∧ (v8).toNatClampNeg < 400) (am_if ((s6.1 249 (v8).toNatClampNeg) = (nI 32)) (am_lt (as_i s6 248 8 ((s6.1 248 8) + (1 : Int32))) (fun s11 => some (Sum.inl s11))) (am_bd (j_X12_see_38 s6) (fun e10 => some (Sum.inr e10))))))
def f_X12_see  (s0 : am_S) : Option (Int32 × am_S) :=
  am_lp (fun (q : am_S) => b_X12_see_0 q) am_F s0
set_option maxRecDepth 100000 in
set_option maxHeartbeats 4000000 in
theorem t_X12_see (s0 : am_S) {z : Int32 × am_S} (E : f_X12_see  s0 = some z) : AS yX12_see cX12_see 1 (some .int) 1 [.ref 248] s0 (some (.int z.1)) z.2 := by
  unfold f_X12_see at E
  refine as_met (lv := [(0, .ref 248)]) (by decide +kernel) (by simp [lg_sl, Value.category]) rfl (fun x C A Z => ?_)
  have K38 : ∀ (s1 : am_S), j_X12_see_38 s1 = some z → AX x 0 0 38 [(0, .ref 248)] [] am_N (am_h s1) := by
    intro s1 E
    unfold j_X12_see_38 at E
    refine am_aload_n 38 C dX12_see_38 rfl 0 rfl ?_
    refine as_geti 39 C fl_X12_78_11 dX12_see_39 (by decide) sh_248 ?_
    refine am_aload_n 42 C dX12_see_42 rfl 0 rfl ?_
    refine as_geti 43 C fl_X12_68_11 dX12_see_43 (by decide) sh_248 ?_
    refine am_icmp_ge 46 65 C dX12_see_46 (by decide) (fun c4 => ?_) (fun c4 => ?_)
    · have E := am_ifT E c4
      refine am_iconst 65 (-1 : Int32) C dX12_see_65 (by decide) ?_
      replace E := Option.some.inj E
      subst E
      exact as_iret 66 C Z rfl dX12_see_66
    · have E := am_ifF E c4
      refine am_aload_n 49 C dX12_see_49 rfl 0 rfl ?_
      refine as_getr 50 C fl_X12_7_11 dX12_see_50 (by decide) sh_248 (rf_248_0 _ _) ?_
      refine am_aload_n 53 C dX12_see_53 rfl 0 rfl ?_
      refine as_geti 54 C fl_X12_78_11 dX12_see_54 (by decide) sh_248 ?_
      obtain ⟨v2, hv2, E⟩ := am_ltE E
      refine as_nm hv2 ?_
      obtain ⟨g3, E⟩ := am_gdE E
      refine as_bald 57 C dX12_see_57 (by decide) sh_249 g3 ?_
      refine am_sipush 58 (nI 255) C dX12_see_58 (by decide) ?_
      refine am_iand 61 C dX12_see_61 ?_
      refine am_goto 62 66 C dX12_see_62 (by decide) ?_
      replace E := Option.some.inj E
      subst E
      exact as_iret 66 C Z rfl dX12_see_66
  have LP5 : ∀ (n : Nat) (s6 : am_S), am_lp (fun (q : am_S) => b_X12_see_0 q) n s6 = some z → AX x 0 0 0 [(0, .ref 248)] [] am_N (am_h s6) := by
    intro n
    induction n with
    | zero => intro s6 E; exact (am_lp0 E).elim
    | succ n ih5 =>
      intro s6 E
      obtain ⟨r5, E, Er5⟩ := am_lpE E
      replace E : b_X12_see_0 s6 = some r5 := E
      unfold b_X12_see_0 at E
      refine am_aload_n 0 C dX12_see_0 rfl 0 rfl ?_
      refine as_geti 1 C fl_X12_78_11 dX12_see_1 (by decide) sh_248 ?_
      refine am_aload_n 4 C dX12_see_4 rfl 0 rfl ?_
      refine as_geti 5 C fl_X12_68_11 dX12_see_5 (by decide) sh_248 ?_
      refine am_icmp_ge 8 38 C dX12_see_8 (by decide) (fun c13 => ?_) (fun c13 => ?_)
      · have E := am_ifT E c13
        obtain ⟨e7, E, E2⟩ := am_bdE E
        replace E2 := Option.some.inj E2
        replace E2 := am_exR E2 Er5
        rw [E2] at E
        refine am_lvs [0] rfl ?_
        exact K38 _ E
      · have E := am_ifF E c13
        refine am_aload_n 11 C dX12_see_11 rfl 0 rfl ?_
        refine as_getr 12 C fl_X12_7_11 dX12_see_12 (by decide) sh_248 (rf_248_0 _ _) ?_
        refine am_aload_n 15 C dX12_see_15 rfl 0 rfl ?_
        refine as_geti 16 C fl_X12_78_11 dX12_see_16 (by decide) sh_248 ?_
        obtain ⟨v8, hv8, E⟩ := am_ltE E
        refine as_nm hv8 ?_
        obtain ⟨g9, E⟩ := am_gdE E
        refine as_bald 19 C dX12_see_19 (by decide) sh_249 g9 ?_
        refine am_bipush 20 (nI 32) C dX12_see_20 (by decide) ?_
        refine am_icmp_ne 22 38 C dX12_see_22 (by decide) (fun c12 => ?_) (fun c12 => ?_)
        · have E := am_ifF E c12
          obtain ⟨e10, E, E2⟩ := am_bdE E
          replace E2 := Option.some.inj E2
          replace E2 := am_exR E2 Er5
          rw [E2] at E
          refine am_lvs [0] rfl ?_
          exact K38 _ E
        · have E := am_ifT E c12
          refine am_aload_n 25 C dX12_see_25 rfl 0 rfl ?_
          refine am_dup 26 C dX12_see_26 rfl ?_
          refine as_geti 27 C fl_X12_78_11 dX12_see_27 (by decide) sh_248 ?_
          refine am_iconst 30 (1 : Int32) C dX12_see_30 (by decide) ?_
          refine am_iadd 31 C dX12_see_31 ?_
          obtain ⟨s11, hs11, E⟩ := am_ltE E
          refine as_puti 32 C fl_X12_78_11 dX12_see_32 (by decide) sh_248 rfl rfl hs11 ?_
          refine am_goto 35 0 C dX12_see_35 (by decide) ?_
          replace E := Option.some.inj E
          replace E := am_exL E Er5
          refine am_lvs [0] rfl ?_
          exact ih5 _ E
  refine am_lvs [0] rfl ?_
  exact LP5 am_F _ E
def f_X12_isDigit (p1 : Int32) (s0 : am_S) : Option (Int32) :=
  am_if ((s0.1 248 1) ≤ p1) (some (0 : Int32)) (am_gd (¬ p1 < 0 ∧ (p1).toNatClampNeg < 400) (am_if ((s0.1 249 (p1).toNatClampNeg) < (nI 48)) (some (0 : Int32)) (am_gd (¬ p1 < 0 ∧ (p1).toNatClampNeg < 400) (am_if ((nI 57) < (s0.1 249 (p1).toNatClampNeg)) (some (0 : Int32)) (some (1 : Int32))))))
set_option maxRecDepth 100000 in
set_option maxHeartbeats 4000000 in
theorem t_X12_isDigit (p1 : Int32) (s0 : am_S) {z : Int32} (E : f_X12_isDigit p1 s0 = some z) : AS yX12_isDigit cX12_isDigit 2 (some .boolean) 1 [.ref 248, .int p1] s0 (some (.int z)) s0 := by
  unfold f_X12_isDigit at E
  refine as_met (lv := [(0, .ref 248), (1, .int p1)]) (by decide +kernel) (by simp [lg_sl, Value.category]) rfl (fun x C A Z => ?_)
  refine am_iload_n 0 C dX12_isDigit_0 rfl 1 rfl ?_
  refine am_aload_n 1 C dX12_isDigit_1 rfl 0 rfl ?_
  refine as_geti 2 C fl_X12_68_11 dX12_isDigit_2 (by decide) sh_248 ?_
  refine am_icmp_ge 5 34 C dX12_isDigit_5 (by decide) (fun c6 => ?_) (fun c6 => ?_)
  · have E := am_ifT E c6
    refine am_iconst 34 (0 : Int32) C dX12_isDigit_34 (by decide) ?_
    replace E := Option.some.inj E
    subst E
    exact as_iret 35 C Z rfl dX12_isDigit_35
  · have E := am_ifF E c6
    refine am_aload_n 8 C dX12_isDigit_8 rfl 0 rfl ?_
    refine as_getr 9 C fl_X12_7_11 dX12_isDigit_9 (by decide) sh_248 (rf_248_0 _ _) ?_
    refine am_iload_n 12 C dX12_isDigit_12 rfl 1 rfl ?_
    obtain ⟨g2, E⟩ := am_gdE E
    refine as_bald 13 C dX12_isDigit_13 (by decide) sh_249 g2 ?_
    refine am_bipush 14 (nI 48) C dX12_isDigit_14 (by decide) ?_
    refine am_icmp_lt 16 34 C dX12_isDigit_16 (by decide) (fun c5 => ?_) (fun c5 => ?_)
    · have E := am_ifT E c5
      refine am_iconst 34 (0 : Int32) C dX12_isDigit_34 (by decide) ?_
      replace E := Option.some.inj E
      subst E
      exact as_iret 35 C Z rfl dX12_isDigit_35
    · have E := am_ifF E c5
      refine am_aload_n 19 C dX12_isDigit_19 rfl 0 rfl ?_
      refine as_getr 20 C fl_X12_7_11 dX12_isDigit_20 (by decide) sh_248 (rf_248_0 _ _) ?_
      refine am_iload_n 23 C dX12_isDigit_23 rfl 1 rfl ?_
      obtain ⟨g3, E⟩ := am_gdE E
      refine as_bald 24 C dX12_isDigit_24 (by decide) sh_249 g3 ?_
      refine am_bipush 25 (nI 57) C dX12_isDigit_25 (by decide) ?_
      refine am_icmp_gt 27 34 C dX12_isDigit_27 (by decide) (fun c4 => ?_) (fun c4 => ?_)
      · have E := am_ifT E c4
        refine am_iconst 34 (0 : Int32) C dX12_isDigit_34 (by decide) ?_
        replace E := Option.some.inj E
        subst E
        exact as_iret 35 C Z rfl dX12_isDigit_35
      · have E := am_ifF E c4
        refine am_iconst 30 (1 : Int32) C dX12_isDigit_30 (by decide) ?_
        refine am_goto 31 35 C dX12_isDigit_31 (by decide) ?_
        replace E := Option.some.inj E
        subst E
        exact as_iret 35 C Z rfl dX12_isDigit_35
def f_X12_isLetter (p1 : Int32) (s0 : am_S) : Option (Int32) :=
  am_if ((s0.1 248 1) ≤ p1) (some (0 : Int32)) (am_gd (¬ p1 < 0 ∧ (p1).toNatClampNeg < 400) (am_if ((s0.1 249 (p1).toNatClampNeg) < (nI 97)) (some (0 : Int32)) (am_gd (¬ p1 < 0 ∧ (p1).toNatClampNeg < 400) (am_if ((nI 122) < (s0.1 249 (p1).toNatClampNeg)) (some (0 : Int32)) (some (1 : Int32))))))
set_option maxRecDepth 100000 in
set_option maxHeartbeats 4000000 in
theorem t_X12_isLetter (p1 : Int32) (s0 : am_S) {z : Int32} (E : f_X12_isLetter p1 s0 = some z) : AS yX12_isLetter cX12_isLetter 2 (some .boolean) 1 [.ref 248, .int p1] s0 (some (.int z)) s0 := by
  unfold f_X12_isLetter at E
  refine as_met (lv := [(0, .ref 248), (1, .int p1)]) (by decide +kernel) (by simp [lg_sl, Value.category]) rfl (fun x C A Z => ?_)
  refine am_iload_n 0 C dX12_isLetter_0 rfl 1 rfl ?_
  refine am_aload_n 1 C dX12_isLetter_1 rfl 0 rfl ?_
  refine as_geti 2 C fl_X12_68_11 dX12_isLetter_2 (by decide) sh_248 ?_
  refine am_icmp_ge 5 34 C dX12_isLetter_5 (by decide) (fun c6 => ?_) (fun c6 => ?_)
  · have E := am_ifT E c6
    refine am_iconst 34 (0 : Int32) C dX12_isLetter_34 (by decide) ?_
    replace E := Option.some.inj E
    subst E
    exact as_iret 35 C Z rfl dX12_isLetter_35
  · have E := am_ifF E c6
    refine am_aload_n 8 C dX12_isLetter_8 rfl 0 rfl ?_
    refine as_getr 9 C fl_X12_7_11 dX12_isLetter_9 (by decide) sh_248 (rf_248_0 _ _) ?_
    refine am_iload_n 12 C dX12_isLetter_12 rfl 1 rfl ?_
    obtain ⟨g2, E⟩ := am_gdE E
    refine as_bald 13 C dX12_isLetter_13 (by decide) sh_249 g2 ?_
    refine am_bipush 14 (nI 97) C dX12_isLetter_14 (by decide) ?_
    refine am_icmp_lt 16 34 C dX12_isLetter_16 (by decide) (fun c5 => ?_) (fun c5 => ?_)
    · have E := am_ifT E c5
      refine am_iconst 34 (0 : Int32) C dX12_isLetter_34 (by decide) ?_
      replace E := Option.some.inj E
      subst E
      exact as_iret 35 C Z rfl dX12_isLetter_35
    · have E := am_ifF E c5
      refine am_aload_n 19 C dX12_isLetter_19 rfl 0 rfl ?_
      refine as_getr 20 C fl_X12_7_11 dX12_isLetter_20 (by decide) sh_248 (rf_248_0 _ _) ?_
      refine am_iload_n 23 C dX12_isLetter_23 rfl 1 rfl ?_
      obtain ⟨g3, E⟩ := am_gdE E
      refine as_bald 24 C dX12_isLetter_24 (by decide) sh_249 g3 ?_
      refine am_bipush 25 (nI 122) C dX12_isLetter_25 (by decide) ?_
      refine am_icmp_gt 27 34 C dX12_isLetter_27 (by decide) (fun c4 => ?_) (fun c4 => ?_)
      · have E := am_ifT E c4
        refine am_iconst 34 (0 : Int32) C dX12_isLetter_34 (by decide) ?_
        replace E := Option.some.inj E
        subst E
        exact as_iret 35 C Z rfl dX12_isLetter_35
      · have E := am_ifF E c4
        refine am_iconst 30 (1 : Int32) C dX12_isLetter_30 (by decide) ?_
        refine am_goto 31 35 C dX12_isLetter_31 (by decide) ?_
        replace E := Option.some.inj E
        subst E
        exact as_iret 35 C Z rfl dX12_isLetter_35
def j_X12_isWord_56 (w1 : Int64) (w2 : Int64) (v3 : Int32) (s4 : am_S) : Option (Int32 × am_S) :=
  am_if (v3 ≤ 0) (some ((0 : Int32), s4)) (am_if ((nI 8) ≤ v3) (some ((0 : Int32), s4)) (am_if ((lg_cmp w2 w1) = 0) (some ((1 : Int32), s4)) (some ((0 : Int32), s4))))
def b_X12_isWord_10 (s9 : am_S) (w1 : Int64) (w11 : Int64) (v12 : Int32) : Option ((Int64 × Int32) ⊕ (Int32 × am_S)) :=
  am_bd (f_X12_isLetter ((s9.1 248 8) + v12) s9) (fun v13 => am_if (v13 = 0) (am_bd (j_X12_isWord_56 w1 w11 v12 s9) (fun e14 => some (Sum.inr e14))) (am_if ((nI 8) ≤ v12) (am_lt (v12 + (1 : Int32)) (fun v15 => some (Sum.inl (w11, v15)))) (am_lt ((s9.1 248 8) + v12) (fun v16 => am_gd (¬ v16 < 0 ∧ (v16).toNatClampNeg < 400) (am_lt ((w11 <<< (((nI 8)).toInt64 &&& 63)) ||| ((s9.1 249 (v16).toNatClampNeg)).toInt64) (fun w18 => am_lt (v12 + (1 : Int32)) (fun v19 => some (Sum.inl (w18, v19)))))))))
def f_X12_isWord (w1 : Int64) (s0 : am_S) : Option (Int32 × am_S) :=
  am_b2 (f_X12_see s0) (fun v8 s9 => am_lp (fun (q : Int64 × Int32) => b_X12_isWord_10 s9 w1 q.1 q.2) am_F ((0 : Int64), (0 : Int32)))
set_option maxRecDepth 100000 in
set_option maxHeartbeats 4000000 in
theorem t_X12_isWord (w1 : Int64) (s0 : am_S) {z : Int32 × am_S} (E : f_X12_isWord w1 s0 = some z) : AS yX12_isWord cX12_isWord 6 (some .boolean) 2 [.ref 248, .long w1] s0 (some (.int z.1)) z.2 := by
  unfold f_X12_isWord at E
  refine as_met (lv := [(0, .ref 248), (1, .long w1)]) (by decide +kernel) (by simp [lg_sl, Value.category]) rfl (fun x C A Z => ?_)
  have K56 : ∀ (w2 : Int64) (v3 : Int32) (s4 : am_S), j_X12_isWord_56 w1 w2 v3 s4 = some z → AX x 0 0 56 [(0, .ref 248), (1, .long w1), (3, .long w2), (5, .int v3)] [] am_N (am_h s4) := by
    intro w2 v3 s4 E
    unfold j_X12_isWord_56 at E
    refine am_iload 56 C dX12_isWord_56 3 rfl ?_
    refine am_if_le 58 78 C dX12_isWord_58 (by decide) (fun c7 => ?_) (fun c7 => ?_)
    · have E := am_ifT E c7
      refine am_iconst 78 (0 : Int32) C dX12_isWord_78 (by decide) ?_
      replace E := Option.some.inj E
      subst E
      exact as_iret 79 C Z rfl dX12_isWord_79
    · have E := am_ifF E c7
      refine am_iload 61 C dX12_isWord_61 3 rfl ?_
      refine am_bipush 63 (nI 8) C dX12_isWord_63 (by decide) ?_
      refine am_icmp_ge 65 78 C dX12_isWord_65 (by decide) (fun c6 => ?_) (fun c6 => ?_)
      · have E := am_ifT E c6
        refine am_iconst 78 (0 : Int32) C dX12_isWord_78 (by decide) ?_
        replace E := Option.some.inj E
        subst E
        exact as_iret 79 C Z rfl dX12_isWord_79
      · have E := am_ifF E c6
        refine am_lload_n 68 C dX12_isWord_68 rfl 2 rfl ?_
        refine am_lload_n 69 C dX12_isWord_69 rfl 1 rfl ?_
        refine am_lcmp 70 C dX12_isWord_70 ?_
        refine am_if_ne 71 78 C dX12_isWord_71 (by decide) (fun c5 => ?_) (fun c5 => ?_)
        · have E := am_ifF E c5
          refine am_iconst 78 (0 : Int32) C dX12_isWord_78 (by decide) ?_
          replace E := Option.some.inj E
          subst E
          exact as_iret 79 C Z rfl dX12_isWord_79
        · have E := am_ifT E c5
          refine am_iconst 74 (1 : Int32) C dX12_isWord_74 (by decide) ?_
          refine am_goto 75 79 C dX12_isWord_75 (by decide) ?_
          replace E := Option.some.inj E
          subst E
          exact as_iret 79 C Z rfl dX12_isWord_79
  refine am_aload_n 0 C dX12_isWord_0 rfl 0 rfl ?_
  obtain ⟨v8, s9, Ec, E⟩ := am_b2E E
  refine as_callV 1 (s2 := s9) (st := []) (st2 := [.int v8]) [] C A (by decide) ml_X12_81 yc_X12_see yv_X12_see (t_X12_see  s0 Ec) (by decide) sh_248 rfl rfl (Nat.le_of_ble_eq_true rfl) rfl dX12_isWord_1 ?_
  refine am_pop 4 C dX12_isWord_4 rfl ?_
  refine am_lconst 5 (0 : Int64) C dX12_isWord_5 (by decide) ?_
  refine am_lstore_n 6 (lv2 := [(3, .long (0 : Int64)), (0, .ref 248), (1, .long w1)]) C dX12_isWord_6 rfl (by decide) rfl ?_
  refine am_iconst 7 (0 : Int32) C dX12_isWord_7 (by decide) ?_
  refine am_istore 8 (lv2 := [(5, .int (0 : Int32)), (3, .long (0 : Int64)), (0, .ref 248), (1, .long w1)]) C dX12_isWord_8 (by decide) rfl ?_
  have LP10 : ∀ (n : Nat) (w11 : Int64) (v12 : Int32), am_lp (fun (q : Int64 × Int32) => b_X12_isWord_10 s9 w1 q.1 q.2) n (w11, v12) = some z → AX x 0 0 10 [(0, .ref 248), (1, .long w1), (3, .long w11), (5, .int v12)] [] am_N (am_h s9) := by
    intro n
    induction n with
    | zero => intro w11 v12 E; exact (am_lp0 E).elim
    | succ n ih10 =>
      intro w11 v12 E
      obtain ⟨r10, E, Er10⟩ := am_lpE E
      replace E : b_X12_isWord_10 s9 w1 w11 v12 = some r10 := E
      unfold b_X12_isWord_10 at E
      refine am_aload_n 10 C dX12_isWord_10 rfl 0 rfl ?_
      refine am_aload_n 11 C dX12_isWord_11 rfl 0 rfl ?_
      refine as_geti 12 C fl_X12_78_11 dX12_isWord_12 (by decide) sh_248 ?_
      refine am_iload 15 C dX12_isWord_15 3 rfl ?_
      refine am_iadd 17 C dX12_isWord_17 ?_
      obtain ⟨v13, Ec, E⟩ := am_bdE E
      refine as_callV 18 (s2 := s9) (st := []) (st2 := [.int v13]) [.int ((s9.1 248 8) + v12)] C A (by decide) ml_X12_85 yc_X12_isLetter yv_X12_isLetter (t_X12_isLetter ((s9.1 248 8) + v12) s9 Ec) (by decide) sh_248 rfl rfl (Nat.le_of_ble_eq_true rfl) rfl dX12_isWord_18 ?_
      refine am_if_eq 21 56 C dX12_isWord_21 (by decide) (fun c21 => ?_) (fun c21 => ?_)
      · have E := am_ifT E c21
        obtain ⟨e14, E, E2⟩ := am_bdE E
        replace E2 := Option.some.inj E2
        replace E2 := am_exR E2 Er10
        rw [E2] at E
        refine am_lvs [0, 1, 2, 3] rfl ?_
        exact K56 _ _ _ E
      · have E := am_ifF E c21
        refine am_iload 24 C dX12_isWord_24 3 rfl ?_
        refine am_bipush 26 (nI 8) C dX12_isWord_26 (by decide) ?_
        refine am_icmp_ge 28 50 C dX12_isWord_28 (by decide) (fun c20 => ?_) (fun c20 => ?_)
        · have E := am_ifT E c20
          obtain ⟨v15, hv15, E⟩ := am_ltE E
          refine as_iinc 50 (q := (1 : Int32)) (lv2 := [(5, .int v15), (0, .ref 248), (1, .long w1), (3, .long w11)]) C dX12_isWord_50 3 rfl (by decide) hv15 (by decide) rfl ?_
          refine am_goto 53 10 C dX12_isWord_53 (by decide) ?_
          replace E := Option.some.inj E
          replace E := am_exL E Er10
          refine am_lvs [1, 2, 3, 0] rfl ?_
          exact ih10 _ _ E
        · have E := am_ifF E c20
          refine am_lload_n 31 C dX12_isWord_31 rfl 2 rfl ?_
          refine am_bipush 32 (nI 8) C dX12_isWord_32 (by decide) ?_
          refine am_lshl 34 C dX12_isWord_34 ?_
          refine am_aload_n 35 C dX12_isWord_35 rfl 0 rfl ?_
          refine as_getr 36 C fl_X12_7_11 dX12_isWord_36 (by decide) sh_248 (rf_248_0 _ _) ?_
          refine am_aload_n 39 C dX12_isWord_39 rfl 0 rfl ?_
          refine as_geti 40 C fl_X12_78_11 dX12_isWord_40 (by decide) sh_248 ?_
          refine am_iload 43 C dX12_isWord_43 3 rfl ?_
          refine am_iadd 45 C dX12_isWord_45 ?_
          obtain ⟨v16, hv16, E⟩ := am_ltE E
          refine as_nm hv16 ?_
          obtain ⟨g17, E⟩ := am_gdE E
          refine as_bald 46 C dX12_isWord_46 (by decide) sh_249 g17 ?_
          refine am_i2l 47 C dX12_isWord_47 ?_
          refine am_lor 48 C dX12_isWord_48 ?_
          obtain ⟨w18, hw18, E⟩ := am_ltE E
          refine as_nml hw18 ?_
          refine am_lstore_n 49 (lv2 := [(3, .long w18), (0, .ref 248), (1, .long w1), (5, .int v12)]) C dX12_isWord_49 rfl (by decide) rfl ?_
          obtain ⟨v19, hv19, E⟩ := am_ltE E
          refine as_iinc 50 (q := (1 : Int32)) (lv2 := [(5, .int v19), (3, .long w18), (0, .ref 248), (1, .long w1)]) C dX12_isWord_50 3 rfl (by decide) hv19 (by decide) rfl ?_
          refine am_goto 53 10 C dX12_isWord_53 (by decide) ?_
          replace E := Option.some.inj E
          replace E := am_exL E Er10
          refine am_lvs [2, 3, 1, 0] rfl ?_
          exact ih10 _ _ E
  refine am_lvs [2, 3, 1, 0] rfl ?_
  exact LP10 am_F _ _ E
def b_X12_passWord_0 (s2 : am_S) : Option ((am_S) ⊕ (am_S)) :=
  am_bd (f_X12_isLetter (s2.1 248 8) s2) (fun v3 => am_if (v3 = 0) (some (Sum.inr s2)) (am_lt (as_i s2 248 8 ((s2.1 248 8) + (1 : Int32))) (fun s4 => some (Sum.inl s4))))
def f_X12_passWord  (s0 : am_S) : Option (am_S) :=
  am_lp (fun (q : am_S) => b_X12_passWord_0 q) am_F s0
set_option maxRecDepth 100000 in
set_option maxHeartbeats 4000000 in
theorem t_X12_passWord (s0 : am_S) {z : am_S} (E : f_X12_passWord  s0 = some z) : AS yX12_passWord cX12_passWord 1 none 2 [.ref 248] s0 none z := by
  unfold f_X12_passWord at E
  refine as_met (lv := [(0, .ref 248)]) (by decide +kernel) (by simp [lg_sl, Value.category]) rfl (fun x C A Z => ?_)
  have LP1 : ∀ (n : Nat) (s2 : am_S), am_lp (fun (q : am_S) => b_X12_passWord_0 q) n s2 = some z → AX x 0 0 0 [(0, .ref 248)] [] am_N (am_h s2) := by
    intro n
    induction n with
    | zero => intro s2 E; exact (am_lp0 E).elim
    | succ n ih1 =>
      intro s2 E
      obtain ⟨r1, E, Er1⟩ := am_lpE E
      replace E : b_X12_passWord_0 s2 = some r1 := E
      unfold b_X12_passWord_0 at E
      refine am_aload_n 0 C dX12_passWord_0 rfl 0 rfl ?_
      refine am_aload_n 1 C dX12_passWord_1 rfl 0 rfl ?_
      refine as_geti 2 C fl_X12_78_11 dX12_passWord_2 (by decide) sh_248 ?_
      obtain ⟨v3, Ec, E⟩ := am_bdE E
      refine as_callV 5 (s2 := s2) (st := []) (st2 := [.int v3]) [.int (s2.1 248 8)] C A (by decide) ml_X12_85 yc_X12_isLetter yv_X12_isLetter (t_X12_isLetter (s2.1 248 8) s2 Ec) (by decide) sh_248 rfl rfl (Nat.le_of_ble_eq_true rfl) rfl dX12_passWord_5 ?_
      refine am_if_eq 8 24 C dX12_passWord_8 (by decide) (fun c5 => ?_) (fun c5 => ?_)
      · have E := am_ifT E c5
        replace E := Option.some.inj E
        replace E := am_exR E Er1
        subst E
        exact as_vret 24 C Z dX12_passWord_24
      · have E := am_ifF E c5
        refine am_aload_n 11 C dX12_passWord_11 rfl 0 rfl ?_
        refine am_dup 12 C dX12_passWord_12 rfl ?_
        refine as_geti 13 C fl_X12_78_11 dX12_passWord_13 (by decide) sh_248 ?_
        refine am_iconst 16 (1 : Int32) C dX12_passWord_16 (by decide) ?_
        refine am_iadd 17 C dX12_passWord_17 ?_
        obtain ⟨s4, hs4, E⟩ := am_ltE E
        refine as_puti 18 C fl_X12_78_11 dX12_passWord_18 (by decide) sh_248 rfl rfl hs4 ?_
        refine am_goto 21 0 C dX12_passWord_21 (by decide) ?_
        replace E := Option.some.inj E
        replace E := am_exL E Er1
        refine am_lvs [0] rfl ?_
        exact ih1 _ E
  refine am_lvs [0] rfl ?_
  exact LP1 am_F _ E
def f_X12_takesWord (w1 : Int64) (s0 : am_S) : Option (Int32 × am_S) :=
  am_b2 (f_X12_isWord w1 s0) (fun v2 s3 => am_if (v2 = 0) (some ((0 : Int32), s3)) (am_bd (f_X12_passWord s3) (fun s4 => some ((1 : Int32), s4))))
set_option maxRecDepth 100000 in
set_option maxHeartbeats 4000000 in
theorem t_X12_takesWord (w1 : Int64) (s0 : am_S) {z : Int32 × am_S} (E : f_X12_takesWord w1 s0 = some z) : AS yX12_takesWord cX12_takesWord 3 (some .boolean) 3 [.ref 248, .long w1] s0 (some (.int z.1)) z.2 := by
  unfold f_X12_takesWord at E
  refine as_met (lv := [(0, .ref 248), (1, .long w1)]) (by decide +kernel) (by simp [lg_sl, Value.category]) rfl (fun x C A Z => ?_)
  refine am_aload_n 0 C dX12_takesWord_0 rfl 0 rfl ?_
  refine am_lload_n 1 C dX12_takesWord_1 rfl 1 rfl ?_
  obtain ⟨v2, s3, Ec, E⟩ := am_b2E E
  refine as_callV 2 (s2 := s3) (st := []) (st2 := [.int v2]) [.long w1] C A (by decide) ml_X12_89 yc_X12_isWord yv_X12_isWord (t_X12_isWord w1 s0 Ec) (by decide) sh_248 rfl rfl (Nat.le_of_ble_eq_true rfl) rfl dX12_takesWord_2 ?_
  refine am_if_ne 5 10 C dX12_takesWord_5 (by decide) (fun c5 => ?_) (fun c5 => ?_)
  · have E := am_ifF E c5
    refine am_aload_n 10 C dX12_takesWord_10 rfl 0 rfl ?_
    obtain ⟨s4, Ec, E⟩ := am_bdE E
    refine as_callV 11 (s2 := s4) (st := []) (st2 := []) [] C A (by decide) ml_X12_93 yc_X12_passWord yv_X12_passWord (t_X12_passWord  s3 Ec) (by decide) sh_248 rfl rfl (Nat.le_of_ble_eq_true rfl) rfl dX12_takesWord_11 ?_
    refine am_iconst 14 (1 : Int32) C dX12_takesWord_14 (by decide) ?_
    replace E := Option.some.inj E
    subst E
    exact as_iret 15 C Z rfl dX12_takesWord_15
  · have E := am_ifT E c5
    refine am_iconst 8 (0 : Int32) C dX12_takesWord_8 (by decide) ?_
    replace E := Option.some.inj E
    subst E
    exact as_iret 9 C Z rfl dX12_takesWord_9
def j_X12_numberHere_117 (v3 : Int32) (s4 : am_S) : Option (Int32 × am_S) :=
  am_b2 (f_X12_fails (1 : Int32) v3 s4) (fun v5 s6 => am_if (v5 = 0) (some ((0 : Int32), s6)) (some ((1 : Int32), s6)))
def j_X12_numberHere_88 (p1 : Int32) (p2 : Int32) (v8 : Int32) (v9 : Int32) (s10 : am_S) : Option (Int32 × am_S) :=
  am_lt (as_i s10 248 10 v9) (fun s11 => am_if ((nI 5) < ((s11.1 248 8) - v8)) (j_X12_numberHere_117 v8 s11) (am_bd (f_X12_in (v9).toInt64 (p1).toInt64 (p2).toInt64) (fun v12 => am_if (v12 = 0) (j_X12_numberHere_117 v8 s11) (some ((1 : Int32), s11)))))
def j_X12_numberHere_75 (v22 : Int32) (s23 : am_S) : Option ((Int32 × am_S) ⊕ (Int32 × am_S)) :=
  am_lt (as_i s23 248 8 ((s23.1 248 8) + (1 : Int32))) (fun s24 => some (Sum.inl (v22, s24)))
def b_X12_numberHere_34 (p1 : Int32) (p2 : Int32) (v18 : Int32) (v20 : Int32) (s21 : am_S) : Option ((Int32 × am_S) ⊕ (Int32 × am_S)) :=
  am_bd (f_X12_isDigit (s21.1 248 8) s21) (fun v25 => am_if (v25 = 0) (am_bd (j_X12_numberHere_88 p1 p2 v18 v20 s21) (fun e26 => some (Sum.inr e26))) (am_if ((nI 5) ≤ ((s21.1 248 8) - v18)) (j_X12_numberHere_75 v20 s21) (am_lt (s21.1 248 8) (fun v27 => am_gd (¬ v27 < 0 ∧ (v27).toNatClampNeg < 400) (am_lt ((((nI 10) * v20) + (s21.1 249 (v27).toNatClampNeg)) - (nI 48)) (fun v29 => j_X12_numberHere_75 v29 s21))))))
def f_X12_numberHere (p1 : Int32) (p2 : Int32) (s0 : am_S) : Option (Int32 × am_S) :=
  am_b2 (f_X12_see s0) (fun v15 s16 => am_bd (f_X12_isDigit (s16.1 248 8) s16) (fun v17 => am_if (v17 = 0) (am_b2 (f_X12_fails (0 : Int32) (s16.1 248 8) s16) (fun v32 s33 => am_gd (v32 = 0 ∨ v32 = 1) (some (v32, s33)))) (am_lt (s16.1 248 8) (fun v18 => am_lp (fun (q : Int32 × am_S) => b_X12_numberHere_34 p1 p2 v18 q.1 q.2) am_F ((0 : Int32), s16)))))
set_option maxRecDepth 100000 in
set_option maxHeartbeats 4000000 in
theorem t_X12_numberHere (p1 : Int32) (p2 : Int32) (s0 : am_S) {z : Int32 × am_S} (E : f_X12_numberHere p1 p2 s0 = some z) : AS yX12_numberHere cX12_numberHere 5 (some .boolean) 2 [.ref 248, .int p1, .int p2] s0 (some (.int z.1)) z.2 := by
  unfold f_X12_numberHere at E
  refine as_met (lv := [(0, .ref 248), (1, .int p1), (2, .int p2)]) (by decide +kernel) (by simp [lg_sl, Value.category]) rfl (fun x C A Z => ?_)
  have K117 : ∀ (v3 : Int32) (s4 : am_S), j_X12_numberHere_117 v3 s4 = some z → AX x 0 0 117 [(0, .ref 248), (3, .int v3)] [] am_N (am_h s4) := by
    intro v3 s4 E
    unfold j_X12_numberHere_117 at E
    refine am_aload_n 117 C dX12_numberHere_117 rfl 0 rfl ?_
    refine am_iconst 118 (1 : Int32) C dX12_numberHere_118 (by decide) ?_
    refine am_iload_n 119 C dX12_numberHere_119 rfl 1 rfl ?_
    obtain ⟨v5, s6, Ec, E⟩ := am_b2E E
    refine as_callV 120 (s2 := s6) (st := []) (st2 := [.int v5]) [.int (1 : Int32), .int v3] C A (by decide) ml_X12_99 yc_X12_fails yv_X12_fails (t_X12_fails (1 : Int32) v3 s4 Ec) (by decide) sh_248 rfl rfl (Nat.le_of_ble_eq_true rfl) rfl dX12_numberHere_120 ?_
    refine am_if_eq 123 130 C dX12_numberHere_123 (by decide) (fun c7 => ?_) (fun c7 => ?_)
    · have E := am_ifT E c7
      refine am_iconst 130 (0 : Int32) C dX12_numberHere_130 (by decide) ?_
      replace E := Option.some.inj E
      subst E
      exact as_iret 131 C Z rfl dX12_numberHere_131
    · have E := am_ifF E c7
      refine am_iconst 126 (1 : Int32) C dX12_numberHere_126 (by decide) ?_
      refine am_goto 127 131 C dX12_numberHere_127 (by decide) ?_
      replace E := Option.some.inj E
      subst E
      exact as_iret 131 C Z rfl dX12_numberHere_131
  have K88 : ∀ (v8 : Int32) (v9 : Int32) (s10 : am_S), j_X12_numberHere_88 p1 p2 v8 v9 s10 = some z → AX x 0 0 88 [(0, .ref 248), (1, .int p1), (2, .int p2), (3, .int v8), (4, .int v9)] [] am_N (am_h s10) := by
    intro v8 v9 s10 E
    unfold j_X12_numberHere_88 at E
    refine am_aload_n 88 C dX12_numberHere_88 rfl 0 rfl ?_
    refine am_iload 89 C dX12_numberHere_89 4 rfl ?_
    obtain ⟨s11, hs11, E⟩ := am_ltE E
    refine as_puti 91 C fl_X12_103_11 dX12_numberHere_91 (by decide) sh_248 rfl rfl hs11 ?_
    refine am_aload_n 94 C dX12_numberHere_94 rfl 0 rfl ?_
    refine as_geti 95 C fl_X12_78_11 dX12_numberHere_95 (by decide) sh_248 ?_
    refine am_iload_n 98 C dX12_numberHere_98 rfl 3 rfl ?_
    refine am_isub 99 C dX12_numberHere_99 ?_
    refine am_iconst 100 (nI 5) C dX12_numberHere_100 (by decide) ?_
    refine am_icmp_gt 101 117 C dX12_numberHere_101 (by decide) (fun c14 => ?_) (fun c14 => ?_)
    · have E := am_ifT E c14
      refine am_lvs [0, 3] rfl ?_
      exact K117 _ _ E
    · have E := am_ifF E c14
      refine am_iload 104 C dX12_numberHere_104 4 rfl ?_
      refine am_i2l 106 C dX12_numberHere_106 ?_
      refine am_iload_n 107 C dX12_numberHere_107 rfl 1 rfl ?_
      refine am_i2l 108 C dX12_numberHere_108 ?_
      refine am_iload_n 109 C dX12_numberHere_109 rfl 2 rfl ?_
      refine am_i2l 110 C dX12_numberHere_110 ?_
      obtain ⟨v12, Ec, E⟩ := am_bdE E
      refine as_callS 111 (s2 := s11) (st := []) (st2 := [.int v12]) [.long (v9).toInt64, .long (p1).toInt64, .long (p2).toInt64] C A (by decide) ml_X12_106 yc_X12_in ys_X12_in (t_X12_in (v9).toInt64 (p1).toInt64 (p2).toInt64 s11 Ec) rfl rfl (Nat.le_of_ble_eq_true rfl) rfl dX12_numberHere_111 ?_
      refine am_if_ne 114 126 C dX12_numberHere_114 (by decide) (fun c13 => ?_) (fun c13 => ?_)
      · have E := am_ifF E c13
        refine am_iconst 126 (1 : Int32) C dX12_numberHere_126 (by decide) ?_
        refine am_goto 127 131 C dX12_numberHere_127 (by decide) ?_
        replace E := Option.some.inj E
        subst E
        exact as_iret 131 C Z rfl dX12_numberHere_131
      · have E := am_ifT E c13
        refine am_lvs [0, 3] rfl ?_
        exact K117 _ _ E
  refine am_aload_n 0 C dX12_numberHere_0 rfl 0 rfl ?_
  obtain ⟨v15, s16, Ec, E⟩ := am_b2E E
  refine as_callV 1 (s2 := s16) (st := []) (st2 := [.int v15]) [] C A (by decide) ml_X12_81 yc_X12_see yv_X12_see (t_X12_see  s0 Ec) (by decide) sh_248 rfl rfl (Nat.le_of_ble_eq_true rfl) rfl dX12_numberHere_1 ?_
  refine am_pop 4 C dX12_numberHere_4 rfl ?_
  refine am_aload_n 5 C dX12_numberHere_5 rfl 0 rfl ?_
  refine am_aload_n 6 C dX12_numberHere_6 rfl 0 rfl ?_
  refine as_geti 7 C fl_X12_78_11 dX12_numberHere_7 (by decide) sh_248 ?_
  obtain ⟨v17, Ec, E⟩ := am_bdE E
  refine as_callV 10 (s2 := s16) (st := []) (st2 := [.int v17]) [.int (s16.1 248 8)] C A (by decide) ml_X12_96 yc_X12_isDigit yv_X12_isDigit (t_X12_isDigit (s16.1 248 8) s16 Ec) (by decide) sh_248 rfl rfl (Nat.le_of_ble_eq_true rfl) rfl dX12_numberHere_10 ?_
  refine am_if_ne 13 26 C dX12_numberHere_13 (by decide) (fun c35 => ?_) (fun c35 => ?_)
  · have E := am_ifF E c35
    refine am_aload_n 26 C dX12_numberHere_26 rfl 0 rfl ?_
    refine as_geti 27 C fl_X12_78_11 dX12_numberHere_27 (by decide) sh_248 ?_
    obtain ⟨v18, hv18, E⟩ := am_ltE E
    refine as_nm hv18 ?_
    refine am_istore_n 30 (lv2 := [(3, .int v18), (0, .ref 248), (1, .int p1), (2, .int p2)]) C dX12_numberHere_30 rfl (by decide) rfl ?_
    refine am_iconst 31 (0 : Int32) C dX12_numberHere_31 (by decide) ?_
    refine am_istore 32 (lv2 := [(4, .int (0 : Int32)), (3, .int v18), (0, .ref 248), (1, .int p1), (2, .int p2)]) C dX12_numberHere_32 (by decide) rfl ?_
    have LP19 : ∀ (n : Nat) (v20 : Int32) (s21 : am_S), am_lp (fun (q : Int32 × am_S) => b_X12_numberHere_34 p1 p2 v18 q.1 q.2) n (v20, s21) = some z → AX x 0 0 34 [(0, .ref 248), (1, .int p1), (2, .int p2), (3, .int v18), (4, .int v20)] [] am_N (am_h s21) := by
      intro n
      induction n with
      | zero => intro v20 s21 E; exact (am_lp0 E).elim
      | succ n ih19 =>
        intro v20 s21 E
        obtain ⟨r19, E, Er19⟩ := am_lpE E
        replace E : b_X12_numberHere_34 p1 p2 v18 v20 s21 = some r19 := E
        unfold b_X12_numberHere_34 at E
        have K75 : ∀ (v22 : Int32) (s23 : am_S), j_X12_numberHere_75 v22 s23 = some r19 → AX x 0 0 75 [(0, .ref 248), (1, .int p1), (2, .int p2), (3, .int v18), (4, .int v22)] [] am_N (am_h s23) := by
          intro v22 s23 E
          unfold j_X12_numberHere_75 at E
          refine am_aload_n 75 C dX12_numberHere_75 rfl 0 rfl ?_
          refine am_dup 76 C dX12_numberHere_76 rfl ?_
          refine as_geti 77 C fl_X12_78_11 dX12_numberHere_77 (by decide) sh_248 ?_
          refine am_iconst 80 (1 : Int32) C dX12_numberHere_80 (by decide) ?_
          refine am_iadd 81 C dX12_numberHere_81 ?_
          obtain ⟨s24, hs24, E⟩ := am_ltE E
          refine as_puti 82 C fl_X12_78_11 dX12_numberHere_82 (by decide) sh_248 rfl rfl hs24 ?_
          refine am_goto 85 34 C dX12_numberHere_85 (by decide) ?_
          replace E := Option.some.inj E
          replace E := am_exL E Er19
          refine am_lvs [0, 1, 2, 3, 4] rfl ?_
          exact ih19 _ _ E
        refine am_aload_n 34 C dX12_numberHere_34 rfl 0 rfl ?_
        refine am_aload_n 35 C dX12_numberHere_35 rfl 0 rfl ?_
        refine as_geti 36 C fl_X12_78_11 dX12_numberHere_36 (by decide) sh_248 ?_
        obtain ⟨v25, Ec, E⟩ := am_bdE E
        refine as_callV 39 (s2 := s21) (st := []) (st2 := [.int v25]) [.int (s21.1 248 8)] C A (by decide) ml_X12_96 yc_X12_isDigit yv_X12_isDigit (t_X12_isDigit (s21.1 248 8) s21 Ec) (by decide) sh_248 rfl rfl (Nat.le_of_ble_eq_true rfl) rfl dX12_numberHere_39 ?_
        refine am_if_eq 42 88 C dX12_numberHere_42 (by decide) (fun c31 => ?_) (fun c31 => ?_)
        · have E := am_ifT E c31
          obtain ⟨e26, E, E2⟩ := am_bdE E
          replace E2 := Option.some.inj E2
          replace E2 := am_exR E2 Er19
          rw [E2] at E
          refine am_lvs [0, 1, 2, 3, 4] rfl ?_
          exact K88 _ _ _ E
        · have E := am_ifF E c31
          refine am_aload_n 45 C dX12_numberHere_45 rfl 0 rfl ?_
          refine as_geti 46 C fl_X12_78_11 dX12_numberHere_46 (by decide) sh_248 ?_
          refine am_iload_n 49 C dX12_numberHere_49 rfl 3 rfl ?_
          refine am_isub 50 C dX12_numberHere_50 ?_
          refine am_iconst 51 (nI 5) C dX12_numberHere_51 (by decide) ?_
          refine am_icmp_ge 52 75 C dX12_numberHere_52 (by decide) (fun c30 => ?_) (fun c30 => ?_)
          · have E := am_ifT E c30
            refine am_lvs [0, 1, 2, 3, 4] rfl ?_
            exact K75 _ _ E
          · have E := am_ifF E c30
            refine am_bipush 55 (nI 10) C dX12_numberHere_55 (by decide) ?_
            refine am_iload 57 C dX12_numberHere_57 4 rfl ?_
            refine am_imul 59 C dX12_numberHere_59 ?_
            refine am_aload_n 60 C dX12_numberHere_60 rfl 0 rfl ?_
            refine as_getr 61 C fl_X12_7_11 dX12_numberHere_61 (by decide) sh_248 (rf_248_0 _ _) ?_
            refine am_aload_n 64 C dX12_numberHere_64 rfl 0 rfl ?_
            refine as_geti 65 C fl_X12_78_11 dX12_numberHere_65 (by decide) sh_248 ?_
            obtain ⟨v27, hv27, E⟩ := am_ltE E
            refine as_nm hv27 ?_
            obtain ⟨g28, E⟩ := am_gdE E
            refine as_bald 68 C dX12_numberHere_68 (by decide) sh_249 g28 ?_
            refine am_iadd 69 C dX12_numberHere_69 ?_
            refine am_bipush 70 (nI 48) C dX12_numberHere_70 (by decide) ?_
            refine am_isub 72 C dX12_numberHere_72 ?_
            obtain ⟨v29, hv29, E⟩ := am_ltE E
            refine as_nm hv29 ?_
            refine am_istore 73 (lv2 := [(4, .int v29), (0, .ref 248), (1, .int p1), (2, .int p2), (3, .int v18)]) C dX12_numberHere_73 (by decide) rfl ?_
            refine am_lvs [1, 2, 3, 4, 0] rfl ?_
            exact K75 _ _ E
    refine am_lvs [2, 3, 4, 1, 0] rfl ?_
    exact LP19 am_F _ _ E
  · have E := am_ifT E c35
    refine am_aload_n 16 C dX12_numberHere_16 rfl 0 rfl ?_
    refine am_iconst 17 (0 : Int32) C dX12_numberHere_17 (by decide) ?_
    refine am_aload_n 18 C dX12_numberHere_18 rfl 0 rfl ?_
    refine as_geti 19 C fl_X12_78_11 dX12_numberHere_19 (by decide) sh_248 ?_
    obtain ⟨v32, s33, Ec, E⟩ := am_b2E E
    refine as_callV 22 (s2 := s33) (st := []) (st2 := [.int v32]) [.int (0 : Int32), .int (s16.1 248 8)] C A (by decide) ml_X12_99 yc_X12_fails yv_X12_fails (t_X12_fails (0 : Int32) (s16.1 248 8) s16 Ec) (by decide) sh_248 rfl rfl (Nat.le_of_ble_eq_true rfl) rfl dX12_numberHere_22 ?_
    obtain ⟨g34, E⟩ := am_gdE E
    replace E := Option.some.inj E
    subst E
    exact as_iret 25 C Z (am_nb g34) dX12_numberHere_25
def f_X12_wordHere  (s0 : am_S) : Option (Int32 × am_S) :=
  am_b2 (f_X12_isWord (127978959562098 : Int64) s0) (fun v1 s2 => am_if (v1 = 0) (am_b2 (f_X12_isWord (114784635872626 : Int64) s2) (fun v3 s4 => am_if (v3 = 0) (am_b2 (f_X12_isWord (1717658484 : Int64) s4) (fun v5 s6 => am_if (v5 = 0) (am_b2 (f_X12_isWord (1935763812 : Int64) s6) (fun v7 s8 => am_if (v7 = 0) (am_b2 (f_X12_isWord (29551 : Int64) s8) (fun v9 s10 => am_if (v9 = 0) (am_b2 (f_X12_isWord (448545973363 : Int64) s10) (fun v11 s12 => am_if (v11 = 0) (am_b2 (f_X12_isWord (448377483876 : Int64) s12) (fun v13 s14 => am_if (v13 = 0) (am_b2 (f_X12_isWord (1818846579 : Int64) s14) (fun v15 s16 => am_if (v15 = 0) (am_b2 (f_X12_isWord (426953501796 : Int64) s16) (fun v17 s18 => am_if (v17 = 0) (am_b2 (f_X12_isWord (500136506228 : Int64) s18) (fun v19 s20 => am_if (v19 = 0) (am_b2 (f_X12_isWord (1751216749 : Int64) s20) (fun v21 s22 => am_if (v21 = 0) (am_b2 (f_X12_isWord (126879297138276 : Int64) s22) (fun v23 s24 => am_if (v23 = 0) (am_b2 (f_X12_isWord (1752135026 : Int64) s24) (fun v25 s26 => am_if (v25 = 0) (am_b2 (f_X12_isWord (6578553 : Int64) s26) (fun v27 s28 => am_if (v27 = 0) (some ((-1 : Int32), s28)) (some ((nI 13), s28)))) (some ((nI 12), s26)))) (some ((nI 11), s24)))) (some ((nI 10), s22)))) (some ((nI 9), s20)))) (some ((nI 8), s18)))) (some ((nI 7), s16)))) (some ((nI 6), s14)))) (some ((nI 5), s12)))) (some ((nI 4), s10)))) (some ((nI 3), s8)))) (some ((nI 2), s6)))) (some ((1 : Int32), s4)))) (some ((0 : Int32), s2)))
set_option maxRecDepth 100000 in
set_option maxHeartbeats 4000000 in
theorem t_X12_wordHere (s0 : am_S) {z : Int32 × am_S} (E : f_X12_wordHere  s0 = some z) : AS yX12_wordHere cX12_wordHere 1 (some .int) 3 [.ref 248] s0 (some (.int z.1)) z.2 := by
  unfold f_X12_wordHere at E
  refine as_met (lv := [(0, .ref 248)]) (by decide +kernel) (by simp [lg_sl, Value.category]) rfl (fun x C A Z => ?_)
  refine am_aload_n 0 C dX12_wordHere_0 rfl 0 rfl ?_
  refine am_ldc2 1 C dX12_wordHere_1 kl_X12_110 ?_
  obtain ⟨v1, s2, Ec, E⟩ := am_b2E E
  refine as_callV 4 (s2 := s2) (st := []) (st2 := [.int v1]) [.long (127978959562098 : Int64)] C A (by decide) ml_X12_89 yc_X12_isWord yv_X12_isWord (t_X12_isWord (127978959562098 : Int64) s0 Ec) (by decide) sh_248 rfl rfl (Nat.le_of_ble_eq_true rfl) rfl dX12_wordHere_4 ?_
  refine am_if_eq 7 12 C dX12_wordHere_7 (by decide) (fun c42 => ?_) (fun c42 => ?_)
  · have E := am_ifT E c42
    refine am_aload_n 12 C dX12_wordHere_12 rfl 0 rfl ?_
    refine am_ldc2 13 C dX12_wordHere_13 kl_X12_112 ?_
    obtain ⟨v3, s4, Ec, E⟩ := am_b2E E
    refine as_callV 16 (s2 := s4) (st := []) (st2 := [.int v3]) [.long (114784635872626 : Int64)] C A (by decide) ml_X12_89 yc_X12_isWord yv_X12_isWord (t_X12_isWord (114784635872626 : Int64) s2 Ec) (by decide) sh_248 rfl rfl (Nat.le_of_ble_eq_true rfl) rfl dX12_wordHere_16 ?_
    refine am_if_eq 19 24 C dX12_wordHere_19 (by decide) (fun c41 => ?_) (fun c41 => ?_)
    · have E := am_ifT E c41
      refine am_aload_n 24 C dX12_wordHere_24 rfl 0 rfl ?_
      refine am_ldc2 25 C dX12_wordHere_25 kl_X12_114 ?_
      obtain ⟨v5, s6, Ec, E⟩ := am_b2E E
      refine as_callV 28 (s2 := s6) (st := []) (st2 := [.int v5]) [.long (1717658484 : Int64)] C A (by decide) ml_X12_89 yc_X12_isWord yv_X12_isWord (t_X12_isWord (1717658484 : Int64) s4 Ec) (by decide) sh_248 rfl rfl (Nat.le_of_ble_eq_true rfl) rfl dX12_wordHere_28 ?_
      refine am_if_eq 31 36 C dX12_wordHere_31 (by decide) (fun c40 => ?_) (fun c40 => ?_)
      · have E := am_ifT E c40
        refine am_aload_n 36 C dX12_wordHere_36 rfl 0 rfl ?_
        refine am_ldc2 37 C dX12_wordHere_37 kl_X12_116 ?_
        obtain ⟨v7, s8, Ec, E⟩ := am_b2E E
        refine as_callV 40 (s2 := s8) (st := []) (st2 := [.int v7]) [.long (1935763812 : Int64)] C A (by decide) ml_X12_89 yc_X12_isWord yv_X12_isWord (t_X12_isWord (1935763812 : Int64) s6 Ec) (by decide) sh_248 rfl rfl (Nat.le_of_ble_eq_true rfl) rfl dX12_wordHere_40 ?_
        refine am_if_eq 43 48 C dX12_wordHere_43 (by decide) (fun c39 => ?_) (fun c39 => ?_)
        · have E := am_ifT E c39
          refine am_aload_n 48 C dX12_wordHere_48 rfl 0 rfl ?_
          refine am_ldc2 49 C dX12_wordHere_49 kl_X12_118 ?_
          obtain ⟨v9, s10, Ec, E⟩ := am_b2E E
          refine as_callV 52 (s2 := s10) (st := []) (st2 := [.int v9]) [.long (29551 : Int64)] C A (by decide) ml_X12_89 yc_X12_isWord yv_X12_isWord (t_X12_isWord (29551 : Int64) s8 Ec) (by decide) sh_248 rfl rfl (Nat.le_of_ble_eq_true rfl) rfl dX12_wordHere_52 ?_
          refine am_if_eq 55 60 C dX12_wordHere_55 (by decide) (fun c38 => ?_) (fun c38 => ?_)
          · have E := am_ifT E c38
            refine am_aload_n 60 C dX12_wordHere_60 rfl 0 rfl ?_
            refine am_ldc2 61 C dX12_wordHere_61 kl_X12_120 ?_
            obtain ⟨v11, s12, Ec, E⟩ := am_b2E E
            refine as_callV 64 (s2 := s12) (st := []) (st2 := [.int v11]) [.long (448545973363 : Int64)] C A (by decide) ml_X12_89 yc_X12_isWord yv_X12_isWord (t_X12_isWord (448545973363 : Int64) s10 Ec) (by decide) sh_248 rfl rfl (Nat.le_of_ble_eq_true rfl) rfl dX12_wordHere_64 ?_
            refine am_if_eq 67 72 C dX12_wordHere_67 (by decide) (fun c37 => ?_) (fun c37 => ?_)
            · have E := am_ifT E c37
              refine am_aload_n 72 C dX12_wordHere_72 rfl 0 rfl ?_
              refine am_ldc2 73 C dX12_wordHere_73 kl_X12_122 ?_
              obtain ⟨v13, s14, Ec, E⟩ := am_b2E E
              refine as_callV 76 (s2 := s14) (st := []) (st2 := [.int v13]) [.long (448377483876 : Int64)] C A (by decide) ml_X12_89 yc_X12_isWord yv_X12_isWord (t_X12_isWord (448377483876 : Int64) s12 Ec) (by decide) sh_248 rfl rfl (Nat.le_of_ble_eq_true rfl) rfl dX12_wordHere_76 ?_
              refine am_if_eq 79 85 C dX12_wordHere_79 (by decide) (fun c36 => ?_) (fun c36 => ?_)
              · have E := am_ifT E c36
                refine am_aload_n 85 C dX12_wordHere_85 rfl 0 rfl ?_
                refine am_ldc2 86 C dX12_wordHere_86 kl_X12_124 ?_
                obtain ⟨v15, s16, Ec, E⟩ := am_b2E E
                refine as_callV 89 (s2 := s16) (st := []) (st2 := [.int v15]) [.long (1818846579 : Int64)] C A (by decide) ml_X12_89 yc_X12_isWord yv_X12_isWord (t_X12_isWord (1818846579 : Int64) s14 Ec) (by decide) sh_248 rfl rfl (Nat.le_of_ble_eq_true rfl) rfl dX12_wordHere_89 ?_
                refine am_if_eq 92 98 C dX12_wordHere_92 (by decide) (fun c35 => ?_) (fun c35 => ?_)
                · have E := am_ifT E c35
                  refine am_aload_n 98 C dX12_wordHere_98 rfl 0 rfl ?_
                  refine am_ldc2 99 C dX12_wordHere_99 kl_X12_126 ?_
                  obtain ⟨v17, s18, Ec, E⟩ := am_b2E E
                  refine as_callV 102 (s2 := s18) (st := []) (st2 := [.int v17]) [.long (426953501796 : Int64)] C A (by decide) ml_X12_89 yc_X12_isWord yv_X12_isWord (t_X12_isWord (426953501796 : Int64) s16 Ec) (by decide) sh_248 rfl rfl (Nat.le_of_ble_eq_true rfl) rfl dX12_wordHere_102 ?_
                  refine am_if_eq 105 111 C dX12_wordHere_105 (by decide) (fun c34 => ?_) (fun c34 => ?_)
                  · have E := am_ifT E c34
                    refine am_aload_n 111 C dX12_wordHere_111 rfl 0 rfl ?_
                    refine am_ldc2 112 C dX12_wordHere_112 kl_X12_128 ?_
                    obtain ⟨v19, s20, Ec, E⟩ := am_b2E E
                    refine as_callV 115 (s2 := s20) (st := []) (st2 := [.int v19]) [.long (500136506228 : Int64)] C A (by decide) ml_X12_89 yc_X12_isWord yv_X12_isWord (t_X12_isWord (500136506228 : Int64) s18 Ec) (by decide) sh_248 rfl rfl (Nat.le_of_ble_eq_true rfl) rfl dX12_wordHere_115 ?_
                    refine am_if_eq 118 124 C dX12_wordHere_118 (by decide) (fun c33 => ?_) (fun c33 => ?_)
                    · have E := am_ifT E c33
                      refine am_aload_n 124 C dX12_wordHere_124 rfl 0 rfl ?_
                      refine am_ldc2 125 C dX12_wordHere_125 kl_X12_130 ?_
                      obtain ⟨v21, s22, Ec, E⟩ := am_b2E E
                      refine as_callV 128 (s2 := s22) (st := []) (st2 := [.int v21]) [.long (1751216749 : Int64)] C A (by decide) ml_X12_89 yc_X12_isWord yv_X12_isWord (t_X12_isWord (1751216749 : Int64) s20 Ec) (by decide) sh_248 rfl rfl (Nat.le_of_ble_eq_true rfl) rfl dX12_wordHere_128 ?_
                      refine am_if_eq 131 137 C dX12_wordHere_131 (by decide) (fun c32 => ?_) (fun c32 => ?_)
                      · have E := am_ifT E c32
                        refine am_aload_n 137 C dX12_wordHere_137 rfl 0 rfl ?_
                        refine am_ldc2 138 C dX12_wordHere_138 kl_X12_132 ?_
                        obtain ⟨v23, s24, Ec, E⟩ := am_b2E E
                        refine as_callV 141 (s2 := s24) (st := []) (st2 := [.int v23]) [.long (126879297138276 : Int64)] C A (by decide) ml_X12_89 yc_X12_isWord yv_X12_isWord (t_X12_isWord (126879297138276 : Int64) s22 Ec) (by decide) sh_248 rfl rfl (Nat.le_of_ble_eq_true rfl) rfl dX12_wordHere_141 ?_
                        refine am_if_eq 144 150 C dX12_wordHere_144 (by decide) (fun c31 => ?_) (fun c31 => ?_)
                        · have E := am_ifT E c31
                          refine am_aload_n 150 C dX12_wordHere_150 rfl 0 rfl ?_
                          refine am_ldc2 151 C dX12_wordHere_151 kl_X12_134 ?_
                          obtain ⟨v25, s26, Ec, E⟩ := am_b2E E
                          refine as_callV 154 (s2 := s26) (st := []) (st2 := [.int v25]) [.long (1752135026 : Int64)] C A (by decide) ml_X12_89 yc_X12_isWord yv_X12_isWord (t_X12_isWord (1752135026 : Int64) s24 Ec) (by decide) sh_248 rfl rfl (Nat.le_of_ble_eq_true rfl) rfl dX12_wordHere_154 ?_
                          refine am_if_eq 157 165 C dX12_wordHere_157 (by decide) (fun c30 => ?_) (fun c30 => ?_)
                          · have E := am_ifT E c30
                            refine am_aload_n 165 C dX12_wordHere_165 rfl 0 rfl ?_
                            refine am_ldc2 166 C dX12_wordHere_166 kl_X12_136 ?_
                            obtain ⟨v27, s28, Ec, E⟩ := am_b2E E
                            refine as_callV 169 (s2 := s28) (st := []) (st2 := [.int v27]) [.long (6578553 : Int64)] C A (by decide) ml_X12_89 yc_X12_isWord yv_X12_isWord (t_X12_isWord (6578553 : Int64) s26 Ec) (by decide) sh_248 rfl rfl (Nat.le_of_ble_eq_true rfl) rfl dX12_wordHere_169 ?_
                            refine am_if_eq 172 180 C dX12_wordHere_172 (by decide) (fun c29 => ?_) (fun c29 => ?_)
                            · have E := am_ifT E c29
                              refine am_iconst 180 (-1 : Int32) C dX12_wordHere_180 (by decide) ?_
                              replace E := Option.some.inj E
                              subst E
                              exact as_iret 181 C Z rfl dX12_wordHere_181
                            · have E := am_ifF E c29
                              refine am_bipush 175 (nI 13) C dX12_wordHere_175 (by decide) ?_
                              refine am_goto 177 181 C dX12_wordHere_177 (by decide) ?_
                              replace E := Option.some.inj E
                              subst E
                              exact as_iret 181 C Z rfl dX12_wordHere_181
                          · have E := am_ifF E c30
                            refine am_bipush 160 (nI 12) C dX12_wordHere_160 (by decide) ?_
                            refine am_goto 162 181 C dX12_wordHere_162 (by decide) ?_
                            replace E := Option.some.inj E
                            subst E
                            exact as_iret 181 C Z rfl dX12_wordHere_181
                        · have E := am_ifF E c31
                          refine am_bipush 147 (nI 11) C dX12_wordHere_147 (by decide) ?_
                          replace E := Option.some.inj E
                          subst E
                          exact as_iret 149 C Z rfl dX12_wordHere_149
                      · have E := am_ifF E c32
                        refine am_bipush 134 (nI 10) C dX12_wordHere_134 (by decide) ?_
                        replace E := Option.some.inj E
                        subst E
                        exact as_iret 136 C Z rfl dX12_wordHere_136
                    · have E := am_ifF E c33
                      refine am_bipush 121 (nI 9) C dX12_wordHere_121 (by decide) ?_
                      replace E := Option.some.inj E
                      subst E
                      exact as_iret 123 C Z rfl dX12_wordHere_123
                  · have E := am_ifF E c34
                    refine am_bipush 108 (nI 8) C dX12_wordHere_108 (by decide) ?_
                    replace E := Option.some.inj E
                    subst E
                    exact as_iret 110 C Z rfl dX12_wordHere_110
                · have E := am_ifF E c35
                  refine am_bipush 95 (nI 7) C dX12_wordHere_95 (by decide) ?_
                  replace E := Option.some.inj E
                  subst E
                  exact as_iret 97 C Z rfl dX12_wordHere_97
              · have E := am_ifF E c36
                refine am_bipush 82 (nI 6) C dX12_wordHere_82 (by decide) ?_
                replace E := Option.some.inj E
                subst E
                exact as_iret 84 C Z rfl dX12_wordHere_84
            · have E := am_ifF E c37
              refine am_iconst 70 (nI 5) C dX12_wordHere_70 (by decide) ?_
              replace E := Option.some.inj E
              subst E
              exact as_iret 71 C Z rfl dX12_wordHere_71
          · have E := am_ifF E c38
            refine am_iconst 58 (nI 4) C dX12_wordHere_58 (by decide) ?_
            replace E := Option.some.inj E
            subst E
            exact as_iret 59 C Z rfl dX12_wordHere_59
        · have E := am_ifF E c39
          refine am_iconst 46 (nI 3) C dX12_wordHere_46 (by decide) ?_
          replace E := Option.some.inj E
          subst E
          exact as_iret 47 C Z rfl dX12_wordHere_47
      · have E := am_ifF E c40
        refine am_iconst 34 (nI 2) C dX12_wordHere_34 (by decide) ?_
        replace E := Option.some.inj E
        subst E
        exact as_iret 35 C Z rfl dX12_wordHere_35
    · have E := am_ifF E c41
      refine am_iconst 22 (1 : Int32) C dX12_wordHere_22 (by decide) ?_
      replace E := Option.some.inj E
      subst E
      exact as_iret 23 C Z rfl dX12_wordHere_23
  · have E := am_ifF E c42
    refine am_iconst 10 (0 : Int32) C dX12_wordHere_10 (by decide) ?_
    replace E := Option.some.inj E
    subst E
    exact as_iret 11 C Z rfl dX12_wordHere_11
def f_X12_puts (p1 : Int32) (p2 : Int32) (s0 : am_S) : Option (am_S) :=
  am_lt (s0.1 248 11) (fun v3 => am_gd (¬ v3 < 0 ∧ (v3).toNatClampNeg < 7) (am_gd (¬ (((nI 400) * (s0.1 248 11)) + (s0.1 251 (v3).toNatClampNeg)) < 0 ∧ ((((nI 400) * (s0.1 248 11)) + (s0.1 251 (v3).toNatClampNeg))).toNatClampNeg < 2400) (am_lt (as_i s0 250 ((((nI 400) * (s0.1 248 11)) + (s0.1 251 (v3).toNatClampNeg))).toNatClampNeg (p1 + ((nI 16) * p2))) (fun s6 => am_lt (s6.1 248 11) (fun v7 => am_gd (¬ v7 < 0 ∧ (v7).toNatClampNeg < 7) (am_gd (¬ v7 < 0 ∧ (v7).toNatClampNeg < 7) (am_lt (as_i s6 251 (v7).toNatClampNeg ((s6.1 251 (v7).toNatClampNeg) + (1 : Int32))) (fun s10 => some s10))))))))
set_option maxRecDepth 100000 in
set_option maxHeartbeats 4000000 in
theorem t_X12_puts (p1 : Int32) (p2 : Int32) (s0 : am_S) {z : am_S} (E : f_X12_puts p1 p2 s0 = some z) : AS yX12_puts cX12_puts 3 none 1 [.ref 248, .int p1, .int p2] s0 none z := by
  unfold f_X12_puts at E
  refine as_met (lv := [(0, .ref 248), (1, .int p1), (2, .int p2)]) (by decide +kernel) (by simp [lg_sl, Value.category]) rfl (fun x C A Z => ?_)
  refine am_aload_n 0 C dX12_puts_0 rfl 0 rfl ?_
  refine as_getr 1 C fl_X12_13_11 dX12_puts_1 (by decide) sh_248 (rf_248_3 _ _) ?_
  refine am_sipush 4 (nI 400) C dX12_puts_4 (by decide) ?_
  refine am_aload_n 7 C dX12_puts_7 rfl 0 rfl ?_
  refine as_geti 8 C fl_X12_138_11 dX12_puts_8 (by decide) sh_248 ?_
  refine am_imul 11 C dX12_puts_11 ?_
  refine am_aload_n 12 C dX12_puts_12 rfl 0 rfl ?_
  refine as_getr 13 C fl_X12_17_11 dX12_puts_13 (by decide) sh_248 (rf_248_4 _ _) ?_
  refine am_aload_n 16 C dX12_puts_16 rfl 0 rfl ?_
  refine as_geti 17 C fl_X12_138_11 dX12_puts_17 (by decide) sh_248 ?_
  obtain ⟨v3, hv3, E⟩ := am_ltE E
  refine as_nm hv3 ?_
  obtain ⟨g4, E⟩ := am_gdE E
  refine as_iald 20 C dX12_puts_20 (by decide) sh_251 g4 ?_
  refine am_iadd 21 C dX12_puts_21 ?_
  refine am_iload_n 22 C dX12_puts_22 rfl 1 rfl ?_
  refine am_bipush 23 (nI 16) C dX12_puts_23 (by decide) ?_
  refine am_iload_n 25 C dX12_puts_25 rfl 2 rfl ?_
  refine am_imul 26 C dX12_puts_26 ?_
  refine am_iadd 27 C dX12_puts_27 ?_
  obtain ⟨g5, E⟩ := am_gdE E
  obtain ⟨s6, hs6, E⟩ := am_ltE E
  refine as_iast 28 C dX12_puts_28 (by decide) sh_250 g5 hs6 ?_
  refine am_aload_n 29 C dX12_puts_29 rfl 0 rfl ?_
  refine as_getr 30 C fl_X12_17_11 dX12_puts_30 (by decide) sh_248 (rf_248_4 _ _) ?_
  refine am_aload_n 33 C dX12_puts_33 rfl 0 rfl ?_
  refine as_geti 34 C fl_X12_138_11 dX12_puts_34 (by decide) sh_248 ?_
  obtain ⟨v7, hv7, E⟩ := am_ltE E
  refine as_nm hv7 ?_
  refine am_dup2 37 C dX12_puts_37 rfl rfl ?_
  obtain ⟨g8, E⟩ := am_gdE E
  refine as_iald 38 C dX12_puts_38 (by decide) sh_251 g8 ?_
  refine am_iconst 39 (1 : Int32) C dX12_puts_39 (by decide) ?_
  refine am_iadd 40 C dX12_puts_40 ?_
  obtain ⟨g9, E⟩ := am_gdE E
  obtain ⟨s10, hs10, E⟩ := am_ltE E
  refine as_iast 41 C dX12_puts_41 (by decide) sh_251 g9 hs10 ?_
  replace E := Option.some.inj E
  subst E
  exact as_vret 42 C Z dX12_puts_42
def f_X12_makes (p1 : Int32) (s0 : am_S) : Option (Int32 × am_S) :=
  am_if ((s0.1 248 12) = (nI 60)) (am_b2 (f_X12_fails (nI 3) p1 s0) (fun v3 s4 => am_gd (v3 = 0 ∨ v3 = 1) (some (v3, s4)))) (am_lt (as_i s0 248 12 ((s0.1 248 12) + (1 : Int32))) (fun s2 => some ((1 : Int32), s2)))
set_option maxRecDepth 100000 in
set_option maxHeartbeats 4000000 in
theorem t_X12_makes (p1 : Int32) (s0 : am_S) {z : Int32 × am_S} (E : f_X12_makes p1 s0 = some z) : AS yX12_makes cX12_makes 2 (some .boolean) 2 [.ref 248, .int p1] s0 (some (.int z.1)) z.2 := by
  unfold f_X12_makes at E
  refine as_met (lv := [(0, .ref 248), (1, .int p1)]) (by decide +kernel) (by simp [lg_sl, Value.category]) rfl (fun x C A Z => ?_)
  refine am_aload_n 0 C dX12_makes_0 rfl 0 rfl ?_
  refine as_geti 1 C fl_X12_141_11 dX12_makes_1 (by decide) sh_248 ?_
  refine am_bipush 4 (nI 60) C dX12_makes_4 (by decide) ?_
  refine am_icmp_ne 6 16 C dX12_makes_6 (by decide) (fun c6 => ?_) (fun c6 => ?_)
  · have E := am_ifF E c6
    refine am_aload_n 16 C dX12_makes_16 rfl 0 rfl ?_
    refine am_dup 17 C dX12_makes_17 rfl ?_
    refine as_geti 18 C fl_X12_141_11 dX12_makes_18 (by decide) sh_248 ?_
    refine am_iconst 21 (1 : Int32) C dX12_makes_21 (by decide) ?_
    refine am_iadd 22 C dX12_makes_22 ?_
    obtain ⟨s2, hs2, E⟩ := am_ltE E
    refine as_puti 23 C fl_X12_141_11 dX12_makes_23 (by decide) sh_248 rfl rfl hs2 ?_
    refine am_iconst 26 (1 : Int32) C dX12_makes_26 (by decide) ?_
    replace E := Option.some.inj E
    subst E
    exact as_iret 27 C Z rfl dX12_makes_27
  · have E := am_ifT E c6
    refine am_aload_n 9 C dX12_makes_9 rfl 0 rfl ?_
    refine am_iconst 10 (nI 3) C dX12_makes_10 (by decide) ?_
    refine am_iload_n 11 C dX12_makes_11 rfl 1 rfl ?_
    obtain ⟨v3, s4, Ec, E⟩ := am_b2E E
    refine as_callV 12 (s2 := s4) (st := []) (st2 := [.int v3]) [.int (nI 3), .int p1] C A (by decide) ml_X12_99 yc_X12_fails yv_X12_fails (t_X12_fails (nI 3) p1 s0 Ec) (by decide) sh_248 rfl rfl (Nat.le_of_ble_eq_true rfl) rfl dX12_makes_12 ?_
    obtain ⟨g5, E⟩ := am_gdE E
    replace E := Option.some.inj E
    subst E
    exact as_iret 15 C Z (am_nb g5) dX12_makes_15
def f_X12_opens (p1 : Int32) (s0 : am_S) : Option (Int32 × am_S) :=
  am_if ((s0.1 248 13) = (nI 10)) (am_b2 (f_X12_fails (nI 2) (s0.1 248 8) s0) (fun v6 s7 => am_gd (v6 = 0 ∨ v6 = 1) (some (v6, s7)))) (am_lt (as_i s0 248 13 ((s0.1 248 13) + (1 : Int32))) (fun s2 => am_gd (¬ (s2.1 248 16) < 0 ∧ ((s2.1 248 16)).toNatClampNeg < 400) (am_lt (as_i s2 255 ((s2.1 248 16)).toNatClampNeg p1) (fun s4 => am_lt (as_i s4 248 16 ((s4.1 248 16) + (1 : Int32))) (fun s5 => some ((1 : Int32), s5))))))
set_option maxRecDepth 100000 in
set_option maxHeartbeats 4000000 in
theorem t_X12_opens (p1 : Int32) (s0 : am_S) {z : Int32 × am_S} (E : f_X12_opens p1 s0 = some z) : AS yX12_opens cX12_opens 2 (some .boolean) 2 [.ref 248, .int p1] s0 (some (.int z.1)) z.2 := by
  unfold f_X12_opens at E
  refine as_met (lv := [(0, .ref 248), (1, .int p1)]) (by decide +kernel) (by simp [lg_sl, Value.category]) rfl (fun x C A Z => ?_)
  refine am_aload_n 0 C dX12_opens_0 rfl 0 rfl ?_
  refine as_geti 1 C fl_X12_144_11 dX12_opens_1 (by decide) sh_248 ?_
  refine am_bipush 4 (nI 10) C dX12_opens_4 (by decide) ?_
  refine am_icmp_ne 6 19 C dX12_opens_6 (by decide) (fun c9 => ?_) (fun c9 => ?_)
  · have E := am_ifF E c9
    refine am_aload_n 19 C dX12_opens_19 rfl 0 rfl ?_
    refine am_dup 20 C dX12_opens_20 rfl ?_
    refine as_geti 21 C fl_X12_144_11 dX12_opens_21 (by decide) sh_248 ?_
    refine am_iconst 24 (1 : Int32) C dX12_opens_24 (by decide) ?_
    refine am_iadd 25 C dX12_opens_25 ?_
    obtain ⟨s2, hs2, E⟩ := am_ltE E
    refine as_puti 26 C fl_X12_144_11 dX12_opens_26 (by decide) sh_248 rfl rfl hs2 ?_
    refine am_aload_n 29 C dX12_opens_29 rfl 0 rfl ?_
    refine as_getr 30 C fl_X12_29_11 dX12_opens_30 (by decide) sh_248 (rf_248_15 _ _) ?_
    refine am_aload_n 33 C dX12_opens_33 rfl 0 rfl ?_
    refine as_geti 34 C fl_X12_147_11 dX12_opens_34 (by decide) sh_248 ?_
    refine am_iload_n 37 C dX12_opens_37 rfl 1 rfl ?_
    obtain ⟨g3, E⟩ := am_gdE E
    obtain ⟨s4, hs4, E⟩ := am_ltE E
    refine as_iast 38 C dX12_opens_38 (by decide) sh_255 g3 hs4 ?_
    refine am_aload_n 39 C dX12_opens_39 rfl 0 rfl ?_
    refine am_dup 40 C dX12_opens_40 rfl ?_
    refine as_geti 41 C fl_X12_147_11 dX12_opens_41 (by decide) sh_248 ?_
    refine am_iconst 44 (1 : Int32) C dX12_opens_44 (by decide) ?_
    refine am_iadd 45 C dX12_opens_45 ?_
    obtain ⟨s5, hs5, E⟩ := am_ltE E
    refine as_puti 46 C fl_X12_147_11 dX12_opens_46 (by decide) sh_248 rfl rfl hs5 ?_
    refine am_iconst 49 (1 : Int32) C dX12_opens_49 (by decide) ?_
    replace E := Option.some.inj E
    subst E
    exact as_iret 50 C Z rfl dX12_opens_50
  · have E := am_ifT E c9
    refine am_aload_n 9 C dX12_opens_9 rfl 0 rfl ?_
    refine am_iconst 10 (nI 2) C dX12_opens_10 (by decide) ?_
    refine am_aload_n 11 C dX12_opens_11 rfl 0 rfl ?_
    refine as_geti 12 C fl_X12_78_11 dX12_opens_12 (by decide) sh_248 ?_
    obtain ⟨v6, s7, Ec, E⟩ := am_b2E E
    refine as_callV 15 (s2 := s7) (st := []) (st2 := [.int v6]) [.int (nI 2), .int (s0.1 248 8)] C A (by decide) ml_X12_99 yc_X12_fails yv_X12_fails (t_X12_fails (nI 2) (s0.1 248 8) s0 Ec) (by decide) sh_248 rfl rfl (Nat.le_of_ble_eq_true rfl) rfl dX12_opens_15 ?_
    obtain ⟨g8, E⟩ := am_gdE E
    replace E := Option.some.inj E
    subst E
    exact as_iret 18 C Z (am_nb g8) dX12_opens_18
def f_X12_strength (p1 : Int32) : Option (Int32) :=
  am_if (p1 = (nI 13)) (some (1 : Int32)) (am_if (p1 = (nI 12)) (some (nI 2)) (am_if (p1 = (nI 11)) (some (nI 3)) (some (0 : Int32))))
set_option maxRecDepth 100000 in
set_option maxHeartbeats 4000000 in
theorem t_X12_strength (p1 : Int32) (s0 : am_S) {z : Int32} (E : f_X12_strength p1 = some z) : AS yX12_strength cX12_strength 1 (some .int) 1 [.int p1] s0 (some (.int z)) s0 := by
  unfold f_X12_strength at E
  refine as_met (lv := [(0, .int p1)]) (by decide +kernel) (by simp [lg_sl, Value.category]) rfl (fun x C A Z => ?_)
  refine am_iload_n 0 C dX12_strength_0 rfl 0 rfl ?_
  refine am_bipush 1 (nI 13) C dX12_strength_1 (by decide) ?_
  refine am_icmp_ne 3 10 C dX12_strength_3 (by decide) (fun c4 => ?_) (fun c4 => ?_)
  · have E := am_ifF E c4
    refine am_iload_n 10 C dX12_strength_10 rfl 0 rfl ?_
    refine am_bipush 11 (nI 12) C dX12_strength_11 (by decide) ?_
    refine am_icmp_ne 13 20 C dX12_strength_13 (by decide) (fun c3 => ?_) (fun c3 => ?_)
    · have E := am_ifF E c3
      refine am_iload_n 20 C dX12_strength_20 rfl 0 rfl ?_
      refine am_bipush 21 (nI 11) C dX12_strength_21 (by decide) ?_
      refine am_icmp_ne 23 30 C dX12_strength_23 (by decide) (fun c2 => ?_) (fun c2 => ?_)
      · have E := am_ifF E c2
        refine am_iconst 30 (0 : Int32) C dX12_strength_30 (by decide) ?_
        replace E := Option.some.inj E
        subst E
        exact as_iret 31 C Z rfl dX12_strength_31
      · have E := am_ifT E c2
        refine am_iconst 26 (nI 3) C dX12_strength_26 (by decide) ?_
        refine am_goto 27 31 C dX12_strength_27 (by decide) ?_
        replace E := Option.some.inj E
        subst E
        exact as_iret 31 C Z rfl dX12_strength_31
    · have E := am_ifT E c3
      refine am_iconst 16 (nI 2) C dX12_strength_16 (by decide) ?_
      refine am_goto 17 31 C dX12_strength_17 (by decide) ?_
      replace E := Option.some.inj E
      subst E
      exact as_iret 31 C Z rfl dX12_strength_31
  · have E := am_ifT E c4
    refine am_iconst 6 (1 : Int32) C dX12_strength_6 (by decide) ?_
    refine am_goto 7 31 C dX12_strength_7 (by decide) ?_
    replace E := Option.some.inj E
    subst E
    exact as_iret 31 C Z rfl dX12_strength_31
def b_X12_settles_0 (p1 : Int32) (s3 : am_S) : Option ((am_S) ⊕ (am_S)) :=
  am_if ((s3.1 248 16) ≤ 0) (some (Sum.inr s3)) (am_lt ((s3.1 248 16) - (1 : Int32)) (fun v4 => am_gd (¬ v4 < 0 ∧ (v4).toNatClampNeg < 400) (am_bd (f_X12_strength (s3.1 255 (v4).toNatClampNeg)) (fun v6 => am_if (v6 < p1) (some (Sum.inr s3)) (am_lt (as_i s3 248 16 ((s3.1 248 16) - (1 : Int32))) (fun s7 => am_lt (s7.1 248 16) (fun v8 => am_gd (¬ v8 < 0 ∧ (v8).toNatClampNeg < 400) (am_bd (f_X12_puts (s7.1 255 (v8).toNatClampNeg) (0 : Int32) s7) (fun s10 => am_lt (s10.1 248 16) (fun v11 => am_gd (¬ v11 < 0 ∧ (v11).toNatClampNeg < 400) (am_if ((s10.1 255 (v11).toNatClampNeg) = (nI 11)) (am_lt (as_i s10 248 13 ((s10.1 248 13) - (1 : Int32))) (fun s13 => some (Sum.inl s13))) (some (Sum.inl s10)))))))))))))
def f_X12_settles (p1 : Int32) (s0 : am_S) : Option (am_S) :=
  am_lp (fun (q : am_S) => b_X12_settles_0 p1 q) am_F s0
set_option maxRecDepth 100000 in
set_option maxHeartbeats 4000000 in
theorem t_X12_settles (p1 : Int32) (s0 : am_S) {z : am_S} (E : f_X12_settles p1 s0 = some z) : AS yX12_settles cX12_settles 2 none 2 [.ref 248, .int p1] s0 none z := by
  unfold f_X12_settles at E
  refine as_met (lv := [(0, .ref 248), (1, .int p1)]) (by decide +kernel) (by simp [lg_sl, Value.category]) rfl (fun x C A Z => ?_)
  have LP2 : ∀ (n : Nat) (s3 : am_S), am_lp (fun (q : am_S) => b_X12_settles_0 p1 q) n s3 = some z → AX x 0 0 0 [(0, .ref 248), (1, .int p1)] [] am_N (am_h s3) := by
    intro n
    induction n with
    | zero => intro s3 E; exact (am_lp0 E).elim
    | succ n ih2 =>
      intro s3 E
      obtain ⟨r2, E, Er2⟩ := am_lpE E
      replace E : b_X12_settles_0 p1 s3 = some r2 := E
      unfold b_X12_settles_0 at E
      refine am_aload_n 0 C dX12_settles_0 rfl 0 rfl ?_
      refine as_geti 1 C fl_X12_147_11 dX12_settles_1 (by decide) sh_248 ?_
      refine am_if_le 4 76 C dX12_settles_4 (by decide) (fun c16 => ?_) (fun c16 => ?_)
      · have E := am_ifT E c16
        replace E := Option.some.inj E
        replace E := am_exR E Er2
        subst E
        exact as_vret 76 C Z dX12_settles_76
      · have E := am_ifF E c16
        refine am_aload_n 7 C dX12_settles_7 rfl 0 rfl ?_
        refine as_getr 8 C fl_X12_29_11 dX12_settles_8 (by decide) sh_248 (rf_248_15 _ _) ?_
        refine am_aload_n 11 C dX12_settles_11 rfl 0 rfl ?_
        refine as_geti 12 C fl_X12_147_11 dX12_settles_12 (by decide) sh_248 ?_
        refine am_iconst 15 (1 : Int32) C dX12_settles_15 (by decide) ?_
        refine am_isub 16 C dX12_settles_16 ?_
        obtain ⟨v4, hv4, E⟩ := am_ltE E
        refine as_nm hv4 ?_
        obtain ⟨g5, E⟩ := am_gdE E
        refine as_iald 17 C dX12_settles_17 (by decide) sh_255 g5 ?_
        obtain ⟨v6, Ec, E⟩ := am_bdE E
        refine as_callS 18 (s2 := s3) (st := []) (st2 := [.int v6]) [.int (s3.1 255 (v4).toNatClampNeg)] C A (by decide) ml_X12_150 yc_X12_strength ys_X12_strength (t_X12_strength (s3.1 255 (v4).toNatClampNeg) s3 Ec) rfl rfl (Nat.le_of_ble_eq_true rfl) rfl dX12_settles_18 ?_
        refine am_iload_n 21 C dX12_settles_21 rfl 1 rfl ?_
        refine am_icmp_lt 22 76 C dX12_settles_22 (by decide) (fun c15 => ?_) (fun c15 => ?_)
        · have E := am_ifT E c15
          replace E := Option.some.inj E
          replace E := am_exR E Er2
          subst E
          exact as_vret 76 C Z dX12_settles_76
        · have E := am_ifF E c15
          refine am_aload_n 25 C dX12_settles_25 rfl 0 rfl ?_
          refine am_dup 26 C dX12_settles_26 rfl ?_
          refine as_geti 27 C fl_X12_147_11 dX12_settles_27 (by decide) sh_248 ?_
          refine am_iconst 30 (1 : Int32) C dX12_settles_30 (by decide) ?_
          refine am_isub 31 C dX12_settles_31 ?_
          obtain ⟨s7, hs7, E⟩ := am_ltE E
          refine as_puti 32 C fl_X12_147_11 dX12_settles_32 (by decide) sh_248 rfl rfl hs7 ?_
          refine am_aload_n 35 C dX12_settles_35 rfl 0 rfl ?_
          refine am_aload_n 36 C dX12_settles_36 rfl 0 rfl ?_
          refine as_getr 37 C fl_X12_29_11 dX12_settles_37 (by decide) sh_248 (rf_248_15 _ _) ?_
          refine am_aload_n 40 C dX12_settles_40 rfl 0 rfl ?_
          refine as_geti 41 C fl_X12_147_11 dX12_settles_41 (by decide) sh_248 ?_
          obtain ⟨v8, hv8, E⟩ := am_ltE E
          refine as_nm hv8 ?_
          obtain ⟨g9, E⟩ := am_gdE E
          refine as_iald 44 C dX12_settles_44 (by decide) sh_255 g9 ?_
          refine am_iconst 45 (0 : Int32) C dX12_settles_45 (by decide) ?_
          obtain ⟨s10, Ec, E⟩ := am_bdE E
          refine as_callV 46 (s2 := s10) (st := []) (st2 := []) [.int (s7.1 255 (v8).toNatClampNeg), .int (0 : Int32)] C A (by decide) ml_X12_154 yc_X12_puts yv_X12_puts (t_X12_puts (s7.1 255 (v8).toNatClampNeg) (0 : Int32) s7 Ec) (by decide) sh_248 rfl rfl (Nat.le_of_ble_eq_true rfl) rfl dX12_settles_46 ?_
          refine am_aload_n 49 C dX12_settles_49 rfl 0 rfl ?_
          refine as_getr 50 C fl_X12_29_11 dX12_settles_50 (by decide) sh_248 (rf_248_15 _ _) ?_
          refine am_aload_n 53 C dX12_settles_53 rfl 0 rfl ?_
          refine as_geti 54 C fl_X12_147_11 dX12_settles_54 (by decide) sh_248 ?_
          obtain ⟨v11, hv11, E⟩ := am_ltE E
          refine as_nm hv11 ?_
          obtain ⟨g12, E⟩ := am_gdE E
          refine as_iald 57 C dX12_settles_57 (by decide) sh_255 g12 ?_
          refine am_bipush 58 (nI 11) C dX12_settles_58 (by decide) ?_
          refine am_icmp_ne 60 0 C dX12_settles_60 (by decide) (fun c14 => ?_) (fun c14 => ?_)
          · have E := am_ifF E c14
            replace E := Option.some.inj E
            replace E := am_exL E Er2
            refine am_lvs [0, 1] rfl ?_
            exact ih2 _ E
          · have E := am_ifT E c14
            refine am_aload_n 63 C dX12_settles_63 rfl 0 rfl ?_
            refine am_dup 64 C dX12_settles_64 rfl ?_
            refine as_geti 65 C fl_X12_144_11 dX12_settles_65 (by decide) sh_248 ?_
            refine am_iconst 68 (1 : Int32) C dX12_settles_68 (by decide) ?_
            refine am_isub 69 C dX12_settles_69 ?_
            obtain ⟨s13, hs13, E⟩ := am_ltE E
            refine as_puti 70 C fl_X12_144_11 dX12_settles_70 (by decide) sh_248 rfl rfl hs13 ?_
            refine am_goto 73 0 C dX12_settles_73 (by decide) ?_
            replace E := Option.some.inj E
            replace E := am_exL E Er2
            refine am_lvs [0, 1] rfl ?_
            exact ih2 _ E
  refine am_lvs [0, 1] rfl ?_
  exact LP2 am_F _ E
def f_X12_value  (s0 : am_S) : Option (Int32 × am_S) :=
  am_b2 (f_X12_see s0) (fun v1 s2 => am_lt (s2.1 248 8) (fun v3 => am_bd (f_X12_isDigit (s2.1 248 8) s2) (fun v4 => am_if (v4 = 0) (am_b2 (f_X12_wordHere s2) (fun v5 s6 => am_if (0 ≤ v5) (am_b2 (f_X12_makes v3 s6) (fun v7 s8 => am_if (v7 = 0) (some ((0 : Int32), s8)) (am_bd (f_X12_passWord s8) (fun s9 => am_bd (f_X12_puts (1 : Int32) v5 s9) (fun s10 => some ((1 : Int32), s10)))))) (am_b2 (f_X12_fails (0 : Int32) v3 s6) (fun v12 s13 => am_gd (v12 = 0 ∨ v12 = 1) (some (v12, s13)))))) (am_b2 (f_X12_numberHere (0 : Int32) (nI 99999) s2) (fun v16 s17 => am_if (v16 = 0) (some ((0 : Int32), s17)) (am_b2 (f_X12_makes v3 s17) (fun v18 s19 => am_if (v18 = 0) (some ((0 : Int32), s19)) (am_bd (f_X12_puts (0 : Int32) (s19.1 248 10) s19) (fun s20 => some ((1 : Int32), s20))))))))))
set_option maxRecDepth 100000 in
set_option maxHeartbeats 4000000 in
theorem t_X12_value (s0 : am_S) {z : Int32 × am_S} (E : f_X12_value  s0 = some z) : AS yX12_value cX12_value 3 (some .boolean) 4 [.ref 248] s0 (some (.int z.1)) z.2 := by
  unfold f_X12_value at E
  refine as_met (lv := [(0, .ref 248)]) (by decide +kernel) (by simp [lg_sl, Value.category]) rfl (fun x C A Z => ?_)
  refine am_aload_n 0 C dX12_value_0 rfl 0 rfl ?_
  obtain ⟨v1, s2, Ec, E⟩ := am_b2E E
  refine as_callV 1 (s2 := s2) (st := []) (st2 := [.int v1]) [] C A (by decide) ml_X12_81 yc_X12_see yv_X12_see (t_X12_see  s0 Ec) (by decide) sh_248 rfl rfl (Nat.le_of_ble_eq_true rfl) rfl dX12_value_1 ?_
  refine am_pop 4 C dX12_value_4 rfl ?_
  refine am_aload_n 5 C dX12_value_5 rfl 0 rfl ?_
  refine as_geti 6 C fl_X12_78_11 dX12_value_6 (by decide) sh_248 ?_
  obtain ⟨v3, hv3, E⟩ := am_ltE E
  refine as_nm hv3 ?_
  refine am_istore_n 9 (lv2 := [(1, .int v3), (0, .ref 248)]) C dX12_value_9 rfl (by decide) rfl ?_
  refine am_aload_n 10 C dX12_value_10 rfl 1 rfl ?_
  refine am_aload_n 11 C dX12_value_11 rfl 1 rfl ?_
  refine as_geti 12 C fl_X12_78_11 dX12_value_12 (by decide) sh_248 ?_
  obtain ⟨v4, Ec, E⟩ := am_bdE E
  refine as_callV 15 (s2 := s2) (st := []) (st2 := [.int v4]) [.int (s2.1 248 8)] C A (by decide) ml_X12_96 yc_X12_isDigit yv_X12_isDigit (t_X12_isDigit (s2.1 248 8) s2 Ec) (by decide) sh_248 rfl rfl (Nat.le_of_ble_eq_true rfl) rfl dX12_value_15 ?_
  refine am_if_eq 18 52 C dX12_value_18 (by decide) (fun c23 => ?_) (fun c23 => ?_)
  · have E := am_ifT E c23
    refine am_aload_n 52 C dX12_value_52 rfl 1 rfl ?_
    obtain ⟨v5, s6, Ec, E⟩ := am_b2E E
    refine as_callV 53 (s2 := s6) (st := []) (st2 := [.int v5]) [] C A (by decide) ml_X12_165 yc_X12_wordHere yv_X12_wordHere (t_X12_wordHere  s2 Ec) (by decide) sh_248 rfl rfl (Nat.le_of_ble_eq_true rfl) rfl dX12_value_53 ?_
    refine am_istore_n 56 (lv2 := [(2, .int v5), (1, .int v3), (0, .ref 248)]) C dX12_value_56 rfl (by decide) rfl ?_
    refine am_iload_n 57 C dX12_value_57 rfl 0 rfl ?_
    refine am_if_ge 58 68 C dX12_value_58 (by decide) (fun c15 => ?_) (fun c15 => ?_)
    · have E := am_ifT E c15
      refine am_aload_n 68 C dX12_value_68 rfl 2 rfl ?_
      refine am_iload_n 69 C dX12_value_69 rfl 1 rfl ?_
      obtain ⟨v7, s8, Ec, E⟩ := am_b2E E
      refine as_callV 70 (s2 := s8) (st := []) (st2 := [.int v7]) [.int v3] C A (by decide) ml_X12_162 yc_X12_makes yv_X12_makes (t_X12_makes v3 s6 Ec) (by decide) sh_248 rfl rfl (Nat.le_of_ble_eq_true rfl) rfl dX12_value_70 ?_
      refine am_if_ne 73 78 C dX12_value_73 (by decide) (fun c11 => ?_) (fun c11 => ?_)
      · have E := am_ifF E c11
        refine am_aload_n 78 C dX12_value_78 rfl 2 rfl ?_
        obtain ⟨s9, Ec, E⟩ := am_bdE E
        refine as_callV 79 (s2 := s9) (st := []) (st2 := []) [] C A (by decide) ml_X12_93 yc_X12_passWord yv_X12_passWord (t_X12_passWord  s8 Ec) (by decide) sh_248 rfl rfl (Nat.le_of_ble_eq_true rfl) rfl dX12_value_79 ?_
        refine am_aload_n 82 C dX12_value_82 rfl 2 rfl ?_
        refine am_iconst 83 (1 : Int32) C dX12_value_83 (by decide) ?_
        refine am_iload_n 84 C dX12_value_84 rfl 0 rfl ?_
        obtain ⟨s10, Ec, E⟩ := am_bdE E
        refine as_callV 85 (s2 := s10) (st := []) (st2 := []) [.int (1 : Int32), .int v5] C A (by decide) ml_X12_154 yc_X12_puts yv_X12_puts (t_X12_puts (1 : Int32) v5 s9 Ec) (by decide) sh_248 rfl rfl (Nat.le_of_ble_eq_true rfl) rfl dX12_value_85 ?_
        refine am_iconst 88 (1 : Int32) C dX12_value_88 (by decide) ?_
        replace E := Option.some.inj E
        subst E
        exact as_iret 89 C Z rfl dX12_value_89
      · have E := am_ifT E c11
        refine am_iconst 76 (0 : Int32) C dX12_value_76 (by decide) ?_
        replace E := Option.some.inj E
        subst E
        exact as_iret 77 C Z rfl dX12_value_77
    · have E := am_ifF E c15
      refine am_aload_n 61 C dX12_value_61 rfl 2 rfl ?_
      refine am_iconst 62 (0 : Int32) C dX12_value_62 (by decide) ?_
      refine am_iload_n 63 C dX12_value_63 rfl 1 rfl ?_
      obtain ⟨v12, s13, Ec, E⟩ := am_b2E E
      refine as_callV 64 (s2 := s13) (st := []) (st2 := [.int v12]) [.int (0 : Int32), .int v3] C A (by decide) ml_X12_99 yc_X12_fails yv_X12_fails (t_X12_fails (0 : Int32) v3 s6 Ec) (by decide) sh_248 rfl rfl (Nat.le_of_ble_eq_true rfl) rfl dX12_value_64 ?_
      obtain ⟨g14, E⟩ := am_gdE E
      replace E := Option.some.inj E
      subst E
      exact as_iret 67 C Z (am_nb g14) dX12_value_67
  · have E := am_ifF E c23
    refine am_aload_n 21 C dX12_value_21 rfl 1 rfl ?_
    refine am_iconst 22 (0 : Int32) C dX12_value_22 (by decide) ?_
    refine am_ldc 23 C dX12_value_23 ki_X12_158 ?_
    obtain ⟨v16, s17, Ec, E⟩ := am_b2E E
    refine as_callV 25 (s2 := s17) (st := []) (st2 := [.int v16]) [.int (0 : Int32), .int (nI 99999)] C A (by decide) ml_X12_159 yc_X12_numberHere yv_X12_numberHere (t_X12_numberHere (0 : Int32) (nI 99999) s2 Ec) (by decide) sh_248 rfl rfl (Nat.le_of_ble_eq_true rfl) rfl dX12_value_25 ?_
    refine am_if_eq 28 39 C dX12_value_28 (by decide) (fun c22 => ?_) (fun c22 => ?_)
    · have E := am_ifT E c22
      refine am_iconst 39 (0 : Int32) C dX12_value_39 (by decide) ?_
      replace E := Option.some.inj E
      subst E
      exact as_iret 40 C Z rfl dX12_value_40
    · have E := am_ifF E c22
      refine am_aload_n 31 C dX12_value_31 rfl 1 rfl ?_
      refine am_iload_n 32 C dX12_value_32 rfl 0 rfl ?_
      obtain ⟨v18, s19, Ec, E⟩ := am_b2E E
      refine as_callV 33 (s2 := s19) (st := []) (st2 := [.int v18]) [.int v3] C A (by decide) ml_X12_162 yc_X12_makes yv_X12_makes (t_X12_makes v3 s17 Ec) (by decide) sh_248 rfl rfl (Nat.le_of_ble_eq_true rfl) rfl dX12_value_33 ?_
      refine am_if_ne 36 41 C dX12_value_36 (by decide) (fun c21 => ?_) (fun c21 => ?_)
      · have E := am_ifF E c21
        refine am_aload_n 41 C dX12_value_41 rfl 1 rfl ?_
        refine am_iconst 42 (0 : Int32) C dX12_value_42 (by decide) ?_
        refine am_aload_n 43 C dX12_value_43 rfl 1 rfl ?_
        refine as_geti 44 C fl_X12_103_11 dX12_value_44 (by decide) sh_248 ?_
        obtain ⟨s20, Ec, E⟩ := am_bdE E
        refine as_callV 47 (s2 := s20) (st := []) (st2 := []) [.int (0 : Int32), .int (s19.1 248 10)] C A (by decide) ml_X12_154 yc_X12_puts yv_X12_puts (t_X12_puts (0 : Int32) (s19.1 248 10) s19 Ec) (by decide) sh_248 rfl rfl (Nat.le_of_ble_eq_true rfl) rfl dX12_value_47 ?_
        refine am_iconst 50 (1 : Int32) C dX12_value_50 (by decide) ?_
        replace E := Option.some.inj E
        subst E
        exact as_iret 51 C Z rfl dX12_value_51
      · have E := am_ifT E c21
        refine am_iconst 39 (0 : Int32) C dX12_value_39 (by decide) ?_
        replace E := Option.some.inj E
        subst E
        exact as_iret 40 C Z rfl dX12_value_40
def j_X12_term_74 (v5 : Int32) (s6 : am_S) : Option ((am_S) ⊕ (Int32 × am_S)) :=
  am_lt (as_i s6 248 8 ((s6.1 248 8) + (1 : Int32))) (fun s7 => am_b2 (f_X12_value s7) (fun v8 s9 => am_if (v8 = 0) (some (Sum.inr ((0 : Int32), s9))) (am_bd (f_X12_puts v5 (0 : Int32) s9) (fun s10 => some (Sum.inl s10)))))
def j_X12_term_36 (s12 : am_S) : Option ((am_S) ⊕ (Int32 × am_S)) :=
  am_lt (s12.1 248 8) (fun v13 => am_gd (¬ v13 < 0 ∧ (v13).toNatClampNeg < 400) (am_if ((s12.1 249 (v13).toNatClampNeg) = (nI 42)) (j_X12_term_74 (nI 4) s12) (am_lt (s12.1 248 8) (fun v15 => am_gd (¬ v15 < 0 ∧ (v15).toNatClampNeg < 400) (am_if ((s12.1 249 (v15).toNatClampNeg) = (nI 47)) (j_X12_term_74 (nI 5) s12) (j_X12_term_74 (nI 14) s12))))))
def b_X12_term_9 (s4 : am_S) : Option ((am_S) ⊕ (Int32 × am_S)) :=
  am_b2 (f_X12_see s4) (fun v19 s20 => am_if (v19 = (nI 42)) (j_X12_term_36 s20) (am_b2 (f_X12_see s20) (fun v21 s22 => am_if (v21 = (nI 47)) (j_X12_term_36 s22) (am_b2 (f_X12_see s22) (fun v23 s24 => am_if (v23 = (nI 37)) (j_X12_term_36 s24) (some (Sum.inr ((1 : Int32), s24))))))))
def f_X12_term  (s0 : am_S) : Option (Int32 × am_S) :=
  am_b2 (f_X12_value s0) (fun v1 s2 => am_if (v1 = 0) (some ((0 : Int32), s2)) (am_lp (fun (q : am_S) => b_X12_term_9 q) am_F s2))
set_option maxRecDepth 100000 in
set_option maxHeartbeats 4000000 in
theorem t_X12_term (s0 : am_S) {z : Int32 × am_S} (E : f_X12_term  s0 = some z) : AS yX12_term cX12_term 2 (some .boolean) 5 [.ref 248] s0 (some (.int z.1)) z.2 := by
  unfold f_X12_term at E
  refine as_met (lv := [(0, .ref 248)]) (by decide +kernel) (by simp [lg_sl, Value.category]) rfl (fun x C A Z => ?_)
  refine am_aload_n 0 C dX12_term_0 rfl 0 rfl ?_
  obtain ⟨v1, s2, Ec, E⟩ := am_b2E E
  refine as_callV 1 (s2 := s2) (st := []) (st2 := [.int v1]) [] C A (by decide) ml_X12_168 yc_X12_value yv_X12_value (t_X12_value  s0 Ec) (by decide) sh_248 rfl rfl (Nat.le_of_ble_eq_true rfl) rfl dX12_term_1 ?_
  refine am_if_ne 4 9 C dX12_term_4 (by decide) (fun c28 => ?_) (fun c28 => ?_)
  · have E := am_ifF E c28
    have LP3 : ∀ (n : Nat) (s4 : am_S), am_lp (fun (q : am_S) => b_X12_term_9 q) n s4 = some z → AX x 0 0 9 [(0, .ref 248)] [] am_N (am_h s4) := by
      intro n
      induction n with
      | zero => intro s4 E; exact (am_lp0 E).elim
      | succ n ih3 =>
        intro s4 E
        obtain ⟨r3, E, Er3⟩ := am_lpE E
        replace E : b_X12_term_9 s4 = some r3 := E
        unfold b_X12_term_9 at E
        have K74 : ∀ (v5 : Int32) (s6 : am_S), j_X12_term_74 v5 s6 = some r3 → AX x 0 0 74 [(0, .ref 248)] [.int v5] am_N (am_h s6) := by
          intro v5 s6 E
          unfold j_X12_term_74 at E
          refine am_istore_n 74 (lv2 := [(1, .int v5), (0, .ref 248)]) C dX12_term_74 rfl (by decide) rfl ?_
          refine am_aload_n 75 C dX12_term_75 rfl 1 rfl ?_
          refine am_dup 76 C dX12_term_76 rfl ?_
          refine as_geti 77 C fl_X12_78_11 dX12_term_77 (by decide) sh_248 ?_
          refine am_iconst 80 (1 : Int32) C dX12_term_80 (by decide) ?_
          refine am_iadd 81 C dX12_term_81 ?_
          obtain ⟨s7, hs7, E⟩ := am_ltE E
          refine as_puti 82 C fl_X12_78_11 dX12_term_82 (by decide) sh_248 rfl rfl hs7 ?_
          refine am_aload_n 85 C dX12_term_85 rfl 1 rfl ?_
          obtain ⟨v8, s9, Ec, E⟩ := am_b2E E
          refine as_callV 86 (s2 := s9) (st := []) (st2 := [.int v8]) [] C A (by decide) ml_X12_168 yc_X12_value yv_X12_value (t_X12_value  s7 Ec) (by decide) sh_248 rfl rfl (Nat.le_of_ble_eq_true rfl) rfl dX12_term_86 ?_
          refine am_if_ne 89 94 C dX12_term_89 (by decide) (fun c11 => ?_) (fun c11 => ?_)
          · have E := am_ifF E c11
            refine am_aload_n 94 C dX12_term_94 rfl 1 rfl ?_
            refine am_iload_n 95 C dX12_term_95 rfl 0 rfl ?_
            refine am_iconst 96 (0 : Int32) C dX12_term_96 (by decide) ?_
            obtain ⟨s10, Ec, E⟩ := am_bdE E
            refine as_callV 97 (s2 := s10) (st := []) (st2 := []) [.int v5, .int (0 : Int32)] C A (by decide) ml_X12_154 yc_X12_puts yv_X12_puts (t_X12_puts v5 (0 : Int32) s9 Ec) (by decide) sh_248 rfl rfl (Nat.le_of_ble_eq_true rfl) rfl dX12_term_97 ?_
            refine am_goto 100 9 C dX12_term_100 (by decide) ?_
            replace E := Option.some.inj E
            replace E := am_exL E Er3
            refine am_lvs [1] rfl ?_
            exact ih3 _ E
          · have E := am_ifT E c11
            refine am_iconst 92 (0 : Int32) C dX12_term_92 (by decide) ?_
            replace E := Option.some.inj E
            replace E := am_exR E Er3
            subst E
            exact as_iret 93 C Z rfl dX12_term_93
        have K36 : ∀ (s12 : am_S), j_X12_term_36 s12 = some r3 → AX x 0 0 36 [(0, .ref 248)] [] am_N (am_h s12) := by
          intro s12 E
          unfold j_X12_term_36 at E
          refine am_aload_n 36 C dX12_term_36 rfl 0 rfl ?_
          refine as_getr 37 C fl_X12_7_11 dX12_term_37 (by decide) sh_248 (rf_248_0 _ _) ?_
          refine am_aload_n 40 C dX12_term_40 rfl 0 rfl ?_
          refine as_geti 41 C fl_X12_78_11 dX12_term_41 (by decide) sh_248 ?_
          obtain ⟨v13, hv13, E⟩ := am_ltE E
          refine as_nm hv13 ?_
          obtain ⟨g14, E⟩ := am_gdE E
          refine as_bald 44 C dX12_term_44 (by decide) sh_249 g14 ?_
          refine am_bipush 45 (nI 42) C dX12_term_45 (by decide) ?_
          refine am_icmp_ne 47 54 C dX12_term_47 (by decide) (fun c18 => ?_) (fun c18 => ?_)
          · have E := am_ifF E c18
            refine am_aload_n 54 C dX12_term_54 rfl 0 rfl ?_
            refine as_getr 55 C fl_X12_7_11 dX12_term_55 (by decide) sh_248 (rf_248_0 _ _) ?_
            refine am_aload_n 58 C dX12_term_58 rfl 0 rfl ?_
            refine as_geti 59 C fl_X12_78_11 dX12_term_59 (by decide) sh_248 ?_
            obtain ⟨v15, hv15, E⟩ := am_ltE E
            refine as_nm hv15 ?_
            obtain ⟨g16, E⟩ := am_gdE E
            refine as_bald 62 C dX12_term_62 (by decide) sh_249 g16 ?_
            refine am_bipush 63 (nI 47) C dX12_term_63 (by decide) ?_
            refine am_icmp_ne 65 72 C dX12_term_65 (by decide) (fun c17 => ?_) (fun c17 => ?_)
            · have E := am_ifF E c17
              refine am_bipush 72 (nI 14) C dX12_term_72 (by decide) ?_
              refine am_lvs [0] rfl ?_
              exact K74 _ _ E
            · have E := am_ifT E c17
              refine am_iconst 68 (nI 5) C dX12_term_68 (by decide) ?_
              refine am_goto 69 74 C dX12_term_69 (by decide) ?_
              refine am_lvs [0] rfl ?_
              exact K74 _ _ E
          · have E := am_ifT E c18
            refine am_iconst 50 (nI 4) C dX12_term_50 (by decide) ?_
            refine am_goto 51 74 C dX12_term_51 (by decide) ?_
            refine am_lvs [0] rfl ?_
            exact K74 _ _ E
        refine am_aload_n 9 C dX12_term_9 rfl 0 rfl ?_
        obtain ⟨v19, s20, Ec, E⟩ := am_b2E E
        refine as_callV 10 (s2 := s20) (st := []) (st2 := [.int v19]) [] C A (by decide) ml_X12_81 yc_X12_see yv_X12_see (t_X12_see  s4 Ec) (by decide) sh_248 rfl rfl (Nat.le_of_ble_eq_true rfl) rfl dX12_term_10 ?_
        refine am_bipush 13 (nI 42) C dX12_term_13 (by decide) ?_
        refine am_icmp_eq 15 36 C dX12_term_15 (by decide) (fun c27 => ?_) (fun c27 => ?_)
        · have E := am_ifT E c27
          refine am_lvs [0] rfl ?_
          exact K36 _ E
        · have E := am_ifF E c27
          refine am_aload_n 18 C dX12_term_18 rfl 0 rfl ?_
          obtain ⟨v21, s22, Ec, E⟩ := am_b2E E
          refine as_callV 19 (s2 := s22) (st := []) (st2 := [.int v21]) [] C A (by decide) ml_X12_81 yc_X12_see yv_X12_see (t_X12_see  s20 Ec) (by decide) sh_248 rfl rfl (Nat.le_of_ble_eq_true rfl) rfl dX12_term_19 ?_
          refine am_bipush 22 (nI 47) C dX12_term_22 (by decide) ?_
          refine am_icmp_eq 24 36 C dX12_term_24 (by decide) (fun c26 => ?_) (fun c26 => ?_)
          · have E := am_ifT E c26
            refine am_lvs [0] rfl ?_
            exact K36 _ E
          · have E := am_ifF E c26
            refine am_aload_n 27 C dX12_term_27 rfl 0 rfl ?_
            obtain ⟨v23, s24, Ec, E⟩ := am_b2E E
            refine as_callV 28 (s2 := s24) (st := []) (st2 := [.int v23]) [] C A (by decide) ml_X12_81 yc_X12_see yv_X12_see (t_X12_see  s22 Ec) (by decide) sh_248 rfl rfl (Nat.le_of_ble_eq_true rfl) rfl dX12_term_28 ?_
            refine am_bipush 31 (nI 37) C dX12_term_31 (by decide) ?_
            refine am_icmp_ne 33 103 C dX12_term_33 (by decide) (fun c25 => ?_) (fun c25 => ?_)
            · have E := am_ifF E c25
              refine am_iconst 103 (1 : Int32) C dX12_term_103 (by decide) ?_
              replace E := Option.some.inj E
              replace E := am_exR E Er3
              subst E
              exact as_iret 104 C Z rfl dX12_term_104
            · have E := am_ifT E c25
              refine am_lvs [0] rfl ?_
              exact K36 _ E
    refine am_lvs [0] rfl ?_
    exact LP3 am_F _ E
  · have E := am_ifT E c28
    refine am_iconst 7 (0 : Int32) C dX12_term_7 (by decide) ?_
    replace E := Option.some.inj E
    subst E
    exact as_iret 8 C Z rfl dX12_term_8
def j_X12_sum_46 (v5 : Int32) (s6 : am_S) : Option ((am_S) ⊕ (Int32 × am_S)) :=
  am_lt (as_i s6 248 8 ((s6.1 248 8) + (1 : Int32))) (fun s7 => am_b2 (f_X12_term s7) (fun v8 s9 => am_if (v8 = 0) (some (Sum.inr ((0 : Int32), s9))) (am_bd (f_X12_puts v5 (0 : Int32) s9) (fun s10 => some (Sum.inl s10)))))
def j_X12_sum_27 (s12 : am_S) : Option ((am_S) ⊕ (Int32 × am_S)) :=
  am_lt (s12.1 248 8) (fun v13 => am_gd (¬ v13 < 0 ∧ (v13).toNatClampNeg < 400) (am_if ((s12.1 249 (v13).toNatClampNeg) = (nI 43)) (j_X12_sum_46 (nI 2) s12) (j_X12_sum_46 (nI 3) s12)))
def b_X12_sum_9 (s4 : am_S) : Option ((am_S) ⊕ (Int32 × am_S)) :=
  am_b2 (f_X12_see s4) (fun v16 s17 => am_if (v16 = (nI 43)) (j_X12_sum_27 s17) (am_b2 (f_X12_see s17) (fun v18 s19 => am_if (v18 = (nI 45)) (j_X12_sum_27 s19) (some (Sum.inr ((1 : Int32), s19))))))
def f_X12_sum  (s0 : am_S) : Option (Int32 × am_S) :=
  am_b2 (f_X12_term s0) (fun v1 s2 => am_if (v1 = 0) (some ((0 : Int32), s2)) (am_lp (fun (q : am_S) => b_X12_sum_9 q) am_F s2))
set_option maxRecDepth 100000 in
set_option maxHeartbeats 4000000 in
theorem t_X12_sum (s0 : am_S) {z : Int32 × am_S} (E : f_X12_sum  s0 = some z) : AS yX12_sum cX12_sum 2 (some .boolean) 6 [.ref 248] s0 (some (.int z.1)) z.2 := by
  unfold f_X12_sum at E
  refine as_met (lv := [(0, .ref 248)]) (by decide +kernel) (by simp [lg_sl, Value.category]) rfl (fun x C A Z => ?_)
  refine am_aload_n 0 C dX12_sum_0 rfl 0 rfl ?_
  obtain ⟨v1, s2, Ec, E⟩ := am_b2E E
  refine as_callV 1 (s2 := s2) (st := []) (st2 := [.int v1]) [] C A (by decide) ml_X12_172 yc_X12_term yv_X12_term (t_X12_term  s0 Ec) (by decide) sh_248 rfl rfl (Nat.le_of_ble_eq_true rfl) rfl dX12_sum_1 ?_
  refine am_if_ne 4 9 C dX12_sum_4 (by decide) (fun c22 => ?_) (fun c22 => ?_)
  · have E := am_ifF E c22
    have LP3 : ∀ (n : Nat) (s4 : am_S), am_lp (fun (q : am_S) => b_X12_sum_9 q) n s4 = some z → AX x 0 0 9 [(0, .ref 248)] [] am_N (am_h s4) := by
      intro n
      induction n with
      | zero => intro s4 E; exact (am_lp0 E).elim
      | succ n ih3 =>
        intro s4 E
        obtain ⟨r3, E, Er3⟩ := am_lpE E
        replace E : b_X12_sum_9 s4 = some r3 := E
        unfold b_X12_sum_9 at E
        have K46 : ∀ (v5 : Int32) (s6 : am_S), j_X12_sum_46 v5 s6 = some r3 → AX x 0 0 46 [(0, .ref 248)] [.int v5] am_N (am_h s6) := by
          intro v5 s6 E
          unfold j_X12_sum_46 at E
          refine am_istore_n 46 (lv2 := [(1, .int v5), (0, .ref 248)]) C dX12_sum_46 rfl (by decide) rfl ?_
          refine am_aload_n 47 C dX12_sum_47 rfl 1 rfl ?_
          refine am_dup 48 C dX12_sum_48 rfl ?_
          refine as_geti 49 C fl_X12_78_11 dX12_sum_49 (by decide) sh_248 ?_
          refine am_iconst 52 (1 : Int32) C dX12_sum_52 (by decide) ?_
          refine am_iadd 53 C dX12_sum_53 ?_
          obtain ⟨s7, hs7, E⟩ := am_ltE E
          refine as_puti 54 C fl_X12_78_11 dX12_sum_54 (by decide) sh_248 rfl rfl hs7 ?_
          refine am_aload_n 57 C dX12_sum_57 rfl 1 rfl ?_
          obtain ⟨v8, s9, Ec, E⟩ := am_b2E E
          refine as_callV 58 (s2 := s9) (st := []) (st2 := [.int v8]) [] C A (by decide) ml_X12_172 yc_X12_term yv_X12_term (t_X12_term  s7 Ec) (by decide) sh_248 rfl rfl (Nat.le_of_ble_eq_true rfl) rfl dX12_sum_58 ?_
          refine am_if_ne 61 66 C dX12_sum_61 (by decide) (fun c11 => ?_) (fun c11 => ?_)
          · have E := am_ifF E c11
            refine am_aload_n 66 C dX12_sum_66 rfl 1 rfl ?_
            refine am_iload_n 67 C dX12_sum_67 rfl 0 rfl ?_
            refine am_iconst 68 (0 : Int32) C dX12_sum_68 (by decide) ?_
            obtain ⟨s10, Ec, E⟩ := am_bdE E
            refine as_callV 69 (s2 := s10) (st := []) (st2 := []) [.int v5, .int (0 : Int32)] C A (by decide) ml_X12_154 yc_X12_puts yv_X12_puts (t_X12_puts v5 (0 : Int32) s9 Ec) (by decide) sh_248 rfl rfl (Nat.le_of_ble_eq_true rfl) rfl dX12_sum_69 ?_
            refine am_goto 72 9 C dX12_sum_72 (by decide) ?_
            replace E := Option.some.inj E
            replace E := am_exL E Er3
            refine am_lvs [1] rfl ?_
            exact ih3 _ E
          · have E := am_ifT E c11
            refine am_iconst 64 (0 : Int32) C dX12_sum_64 (by decide) ?_
            replace E := Option.some.inj E
            replace E := am_exR E Er3
            subst E
            exact as_iret 65 C Z rfl dX12_sum_65
        have K27 : ∀ (s12 : am_S), j_X12_sum_27 s12 = some r3 → AX x 0 0 27 [(0, .ref 248)] [] am_N (am_h s12) := by
          intro s12 E
          unfold j_X12_sum_27 at E
          refine am_aload_n 27 C dX12_sum_27 rfl 0 rfl ?_
          refine as_getr 28 C fl_X12_7_11 dX12_sum_28 (by decide) sh_248 (rf_248_0 _ _) ?_
          refine am_aload_n 31 C dX12_sum_31 rfl 0 rfl ?_
          refine as_geti 32 C fl_X12_78_11 dX12_sum_32 (by decide) sh_248 ?_
          obtain ⟨v13, hv13, E⟩ := am_ltE E
          refine as_nm hv13 ?_
          obtain ⟨g14, E⟩ := am_gdE E
          refine as_bald 35 C dX12_sum_35 (by decide) sh_249 g14 ?_
          refine am_bipush 36 (nI 43) C dX12_sum_36 (by decide) ?_
          refine am_icmp_ne 38 45 C dX12_sum_38 (by decide) (fun c15 => ?_) (fun c15 => ?_)
          · have E := am_ifF E c15
            refine am_iconst 45 (nI 3) C dX12_sum_45 (by decide) ?_
            refine am_lvs [0] rfl ?_
            exact K46 _ _ E
          · have E := am_ifT E c15
            refine am_iconst 41 (nI 2) C dX12_sum_41 (by decide) ?_
            refine am_goto 42 46 C dX12_sum_42 (by decide) ?_
            refine am_lvs [0] rfl ?_
            exact K46 _ _ E
        refine am_aload_n 9 C dX12_sum_9 rfl 0 rfl ?_
        obtain ⟨v16, s17, Ec, E⟩ := am_b2E E
        refine as_callV 10 (s2 := s17) (st := []) (st2 := [.int v16]) [] C A (by decide) ml_X12_81 yc_X12_see yv_X12_see (t_X12_see  s4 Ec) (by decide) sh_248 rfl rfl (Nat.le_of_ble_eq_true rfl) rfl dX12_sum_10 ?_
        refine am_bipush 13 (nI 43) C dX12_sum_13 (by decide) ?_
        refine am_icmp_eq 15 27 C dX12_sum_15 (by decide) (fun c21 => ?_) (fun c21 => ?_)
        · have E := am_ifT E c21
          refine am_lvs [0] rfl ?_
          exact K27 _ E
        · have E := am_ifF E c21
          refine am_aload_n 18 C dX12_sum_18 rfl 0 rfl ?_
          obtain ⟨v18, s19, Ec, E⟩ := am_b2E E
          refine as_callV 19 (s2 := s19) (st := []) (st2 := [.int v18]) [] C A (by decide) ml_X12_81 yc_X12_see yv_X12_see (t_X12_see  s17 Ec) (by decide) sh_248 rfl rfl (Nat.le_of_ble_eq_true rfl) rfl dX12_sum_19 ?_
          refine am_bipush 22 (nI 45) C dX12_sum_22 (by decide) ?_
          refine am_icmp_ne 24 75 C dX12_sum_24 (by decide) (fun c20 => ?_) (fun c20 => ?_)
          · have E := am_ifF E c20
            refine am_iconst 75 (1 : Int32) C dX12_sum_75 (by decide) ?_
            replace E := Option.some.inj E
            replace E := am_exR E Er3
            subst E
            exact as_iret 76 C Z rfl dX12_sum_76
          · have E := am_ifT E c20
            refine am_lvs [0] rfl ?_
            exact K27 _ E
    refine am_lvs [0] rfl ?_
    exact LP3 am_F _ E
  · have E := am_ifT E c22
    refine am_iconst 7 (0 : Int32) C dX12_sum_7 (by decide) ?_
    replace E := Option.some.inj E
    subst E
    exact as_iret 8 C Z rfl dX12_sum_8
def j_X12_compare_152 (v1 : Int32) (s2 : am_S) : Option (Int32 × am_S) :=
  am_b2 (f_X12_sum s2) (fun v3 s4 => am_if (v3 = 0) (some ((0 : Int32), s4)) (am_bd (f_X12_puts ((nI 6) + v1) (0 : Int32) s4) (fun s5 => some ((1 : Int32), s5))))
def j_X12_compare_105 (v7 : Int32) (v8 : Int32) (v9 : Int32) (s10 : am_S) : Option (Int32 × am_S) :=
  am_b2 (f_X12_makes v8 s10) (fun v11 s12 => am_if (v11 = 0) (some ((0 : Int32), s12)) (am_if (v7 = (nI 60)) (am_if (v9 = 0) (j_X12_compare_152 (0 : Int32) s12) (j_X12_compare_152 (1 : Int32) s12)) (am_if (v7 = (nI 61)) (j_X12_compare_152 (nI 2) s12) (am_if (v9 = 0) (j_X12_compare_152 (nI 4) s12) (j_X12_compare_152 (nI 3) s12)))))
def j_X12_compare_90 (v18 : Int32) (v19 : Int32) (v20 : Int32) (s21 : am_S) : Option (Int32 × am_S) :=
  am_if (v18 = 0) (j_X12_compare_105 v19 v20 v18 s21) (am_lt (as_i s21 248 8 ((s21.1 248 8) + (1 : Int32))) (fun s22 => j_X12_compare_105 v19 v20 v18 s22))
def j_X12_compare_44 (v24 : Int32) (v25 : Int32) (s26 : am_S) : Option (Int32 × am_S) :=
  am_lt (as_i s26 248 8 ((s26.1 248 8) + (1 : Int32))) (fun s27 => am_if (v24 = (nI 61)) (j_X12_compare_90 (0 : Int32) v24 v25 s27) (am_if ((s27.1 248 1) ≤ (s27.1 248 8)) (j_X12_compare_90 (0 : Int32) v24 v25 s27) (am_lt (s27.1 248 8) (fun v28 => am_gd (¬ v28 < 0 ∧ (v28).toNatClampNeg < 400) (am_if ((s27.1 249 (v28).toNatClampNeg) = (nI 61)) (j_X12_compare_90 (1 : Int32) v24 v25 s27) (j_X12_compare_90 (0 : Int32) v24 v25 s27))))))
def f_X12_compare  (s0 : am_S) : Option (Int32 × am_S) :=
  am_b2 (f_X12_sum s0) (fun v33 s34 => am_if (v33 = 0) (some ((0 : Int32), s34)) (am_b2 (f_X12_see s34) (fun v35 s36 => am_lt (s36.1 248 8) (fun v37 => am_if (v35 = (nI 60)) (j_X12_compare_44 v35 v37 s36) (am_if (v35 = (nI 61)) (j_X12_compare_44 v35 v37 s36) (am_if (v35 = (nI 62)) (j_X12_compare_44 v35 v37 s36) (am_b2 (f_X12_fails (0 : Int32) v37 s36) (fun v38 s39 => am_gd (v38 = 0 ∨ v38 = 1) (some (v38, s39))))))))))
set_option maxRecDepth 100000 in
set_option maxHeartbeats 4000000 in
theorem t_X12_compare (s0 : am_S) {z : Int32 × am_S} (E : f_X12_compare  s0 = some z) : AS yX12_compare cX12_compare 5 (some .boolean) 7 [.ref 248] s0 (some (.int z.1)) z.2 := by
  unfold f_X12_compare at E
  refine as_met (lv := [(0, .ref 248)]) (by decide +kernel) (by simp [lg_sl, Value.category]) rfl (fun x C A Z => ?_)
  have K152 : ∀ (v1 : Int32) (s2 : am_S), j_X12_compare_152 v1 s2 = some z → AX x 0 0 152 [(0, .ref 248)] [.int v1] am_N (am_h s2) := by
    intro v1 s2 E
    unfold j_X12_compare_152 at E
    refine am_istore 152 (lv2 := [(4, .int v1), (0, .ref 248)]) C dX12_compare_152 (by decide) rfl ?_
    refine am_aload_n 154 C dX12_compare_154 rfl 1 rfl ?_
    obtain ⟨v3, s4, Ec, E⟩ := am_b2E E
    refine as_callV 155 (s2 := s4) (st := []) (st2 := [.int v3]) [] C A (by decide) ml_X12_175 yc_X12_sum yv_X12_sum (t_X12_sum  s2 Ec) (by decide) sh_248 rfl rfl (Nat.le_of_ble_eq_true rfl) rfl dX12_compare_155 ?_
    refine am_if_ne 158 163 C dX12_compare_158 (by decide) (fun c6 => ?_) (fun c6 => ?_)
    · have E := am_ifF E c6
      refine am_aload_n 163 C dX12_compare_163 rfl 1 rfl ?_
      refine am_bipush 164 (nI 6) C dX12_compare_164 (by decide) ?_
      refine am_iload 166 C dX12_compare_166 0 rfl ?_
      refine am_iadd 168 C dX12_compare_168 ?_
      refine am_iconst 169 (0 : Int32) C dX12_compare_169 (by decide) ?_
      obtain ⟨s5, Ec, E⟩ := am_bdE E
      refine as_callV 170 (s2 := s5) (st := []) (st2 := []) [.int ((nI 6) + v1), .int (0 : Int32)] C A (by decide) ml_X12_154 yc_X12_puts yv_X12_puts (t_X12_puts ((nI 6) + v1) (0 : Int32) s4 Ec) (by decide) sh_248 rfl rfl (Nat.le_of_ble_eq_true rfl) rfl dX12_compare_170 ?_
      refine am_iconst 173 (1 : Int32) C dX12_compare_173 (by decide) ?_
      replace E := Option.some.inj E
      subst E
      exact as_iret 174 C Z rfl dX12_compare_174
    · have E := am_ifT E c6
      refine am_iconst 161 (0 : Int32) C dX12_compare_161 (by decide) ?_
      replace E := Option.some.inj E
      subst E
      exact as_iret 162 C Z rfl dX12_compare_162
  have K105 : ∀ (v7 : Int32) (v8 : Int32) (v9 : Int32) (s10 : am_S), j_X12_compare_105 v7 v8 v9 s10 = some z → AX x 0 0 105 [(0, .ref 248), (1, .int v7), (2, .int v8), (3, .int v9)] [] am_N (am_h s10) := by
    intro v7 v8 v9 s10 E
    unfold j_X12_compare_105 at E
    refine am_aload_n 105 C dX12_compare_105 rfl 0 rfl ?_
    refine am_iload_n 106 C dX12_compare_106 rfl 2 rfl ?_
    obtain ⟨v11, s12, Ec, E⟩ := am_b2E E
    refine as_callV 107 (s2 := s12) (st := []) (st2 := [.int v11]) [.int v8] C A (by decide) ml_X12_162 yc_X12_makes yv_X12_makes (t_X12_makes v8 s10 Ec) (by decide) sh_248 rfl rfl (Nat.le_of_ble_eq_true rfl) rfl dX12_compare_107 ?_
    refine am_if_ne 110 115 C dX12_compare_110 (by decide) (fun c17 => ?_) (fun c17 => ?_)
    · have E := am_ifF E c17
      refine am_iload_n 115 C dX12_compare_115 rfl 1 rfl ?_
      refine am_bipush 116 (nI 60) C dX12_compare_116 (by decide) ?_
      refine am_icmp_ne 118 133 C dX12_compare_118 (by decide) (fun c16 => ?_) (fun c16 => ?_)
      · have E := am_ifF E c16
        refine am_iload_n 133 C dX12_compare_133 rfl 1 rfl ?_
        refine am_bipush 134 (nI 61) C dX12_compare_134 (by decide) ?_
        refine am_icmp_ne 136 143 C dX12_compare_136 (by decide) (fun c14 => ?_) (fun c14 => ?_)
        · have E := am_ifF E c14
          refine am_iload_n 143 C dX12_compare_143 rfl 3 rfl ?_
          refine am_if_eq 144 151 C dX12_compare_144 (by decide) (fun c13 => ?_) (fun c13 => ?_)
          · have E := am_ifT E c13
            refine am_iconst 151 (nI 4) C dX12_compare_151 (by decide) ?_
            refine am_lvs [0] rfl ?_
            exact K152 _ _ E
          · have E := am_ifF E c13
            refine am_iconst 147 (nI 3) C dX12_compare_147 (by decide) ?_
            refine am_goto 148 152 C dX12_compare_148 (by decide) ?_
            refine am_lvs [0] rfl ?_
            exact K152 _ _ E
        · have E := am_ifT E c14
          refine am_iconst 139 (nI 2) C dX12_compare_139 (by decide) ?_
          refine am_goto 140 152 C dX12_compare_140 (by decide) ?_
          refine am_lvs [0] rfl ?_
          exact K152 _ _ E
      · have E := am_ifT E c16
        refine am_iload_n 121 C dX12_compare_121 rfl 3 rfl ?_
        refine am_if_eq 122 129 C dX12_compare_122 (by decide) (fun c15 => ?_) (fun c15 => ?_)
        · have E := am_ifT E c15
          refine am_iconst 129 (0 : Int32) C dX12_compare_129 (by decide) ?_
          refine am_goto 130 152 C dX12_compare_130 (by decide) ?_
          refine am_lvs [0] rfl ?_
          exact K152 _ _ E
        · have E := am_ifF E c15
          refine am_iconst 125 (1 : Int32) C dX12_compare_125 (by decide) ?_
          refine am_goto 126 152 C dX12_compare_126 (by decide) ?_
          refine am_lvs [0] rfl ?_
          exact K152 _ _ E
    · have E := am_ifT E c17
      refine am_iconst 113 (0 : Int32) C dX12_compare_113 (by decide) ?_
      replace E := Option.some.inj E
      subst E
      exact as_iret 114 C Z rfl dX12_compare_114
  have K90 : ∀ (v18 : Int32) (v19 : Int32) (v20 : Int32) (s21 : am_S), j_X12_compare_90 v18 v19 v20 s21 = some z → AX x 0 0 90 [(0, .ref 248), (1, .int v19), (2, .int v20)] [.int v18] am_N (am_h s21) := by
    intro v18 v19 v20 s21 E
    unfold j_X12_compare_90 at E
    refine am_istore_n 90 (lv2 := [(3, .int v18), (0, .ref 248), (1, .int v19), (2, .int v20)]) C dX12_compare_90 rfl (by decide) rfl ?_
    refine am_iload_n 91 C dX12_compare_91 rfl 0 rfl ?_
    refine am_if_eq 92 105 C dX12_compare_92 (by decide) (fun c23 => ?_) (fun c23 => ?_)
    · have E := am_ifT E c23
      refine am_lvs [1, 2, 3, 0] rfl ?_
      exact K105 _ _ _ _ E
    · have E := am_ifF E c23
      refine am_aload_n 95 C dX12_compare_95 rfl 1 rfl ?_
      refine am_dup 96 C dX12_compare_96 rfl ?_
      refine as_geti 97 C fl_X12_78_11 dX12_compare_97 (by decide) sh_248 ?_
      refine am_iconst 100 (1 : Int32) C dX12_compare_100 (by decide) ?_
      refine am_iadd 101 C dX12_compare_101 ?_
      obtain ⟨s22, hs22, E⟩ := am_ltE E
      refine as_puti 102 C fl_X12_78_11 dX12_compare_102 (by decide) sh_248 rfl rfl hs22 ?_
      refine am_lvs [1, 2, 3, 0] rfl ?_
      exact K105 _ _ _ _ E
  have K44 : ∀ (v24 : Int32) (v25 : Int32) (s26 : am_S), j_X12_compare_44 v24 v25 s26 = some z → AX x 0 0 44 [(0, .ref 248), (1, .int v24), (2, .int v25)] [] am_N (am_h s26) := by
    intro v24 v25 s26 E
    unfold j_X12_compare_44 at E
    refine am_aload_n 44 C dX12_compare_44 rfl 0 rfl ?_
    refine am_dup 45 C dX12_compare_45 rfl ?_
    refine as_geti 46 C fl_X12_78_11 dX12_compare_46 (by decide) sh_248 ?_
    refine am_iconst 49 (1 : Int32) C dX12_compare_49 (by decide) ?_
    refine am_iadd 50 C dX12_compare_50 ?_
    obtain ⟨s27, hs27, E⟩ := am_ltE E
    refine as_puti 51 C fl_X12_78_11 dX12_compare_51 (by decide) sh_248 rfl rfl hs27 ?_
    refine am_iload_n 54 C dX12_compare_54 rfl 1 rfl ?_
    refine am_bipush 55 (nI 61) C dX12_compare_55 (by decide) ?_
    refine am_icmp_eq 57 89 C dX12_compare_57 (by decide) (fun c32 => ?_) (fun c32 => ?_)
    · have E := am_ifT E c32
      refine am_iconst 89 (0 : Int32) C dX12_compare_89 (by decide) ?_
      refine am_lvs [0, 1, 2] rfl ?_
      exact K90 _ _ _ _ E
    · have E := am_ifF E c32
      refine am_aload_n 60 C dX12_compare_60 rfl 0 rfl ?_
      refine as_geti 61 C fl_X12_78_11 dX12_compare_61 (by decide) sh_248 ?_
      refine am_aload_n 64 C dX12_compare_64 rfl 0 rfl ?_
      refine as_geti 65 C fl_X12_68_11 dX12_compare_65 (by decide) sh_248 ?_
      refine am_icmp_ge 68 89 C dX12_compare_68 (by decide) (fun c31 => ?_) (fun c31 => ?_)
      · have E := am_ifT E c31
        refine am_iconst 89 (0 : Int32) C dX12_compare_89 (by decide) ?_
        refine am_lvs [0, 1, 2] rfl ?_
        exact K90 _ _ _ _ E
      · have E := am_ifF E c31
        refine am_aload_n 71 C dX12_compare_71 rfl 0 rfl ?_
        refine as_getr 72 C fl_X12_7_11 dX12_compare_72 (by decide) sh_248 (rf_248_0 _ _) ?_
        refine am_aload_n 75 C dX12_compare_75 rfl 0 rfl ?_
        refine as_geti 76 C fl_X12_78_11 dX12_compare_76 (by decide) sh_248 ?_
        obtain ⟨v28, hv28, E⟩ := am_ltE E
        refine as_nm hv28 ?_
        obtain ⟨g29, E⟩ := am_gdE E
        refine as_bald 79 C dX12_compare_79 (by decide) sh_249 g29 ?_
        refine am_bipush 80 (nI 61) C dX12_compare_80 (by decide) ?_
        refine am_icmp_ne 82 89 C dX12_compare_82 (by decide) (fun c30 => ?_) (fun c30 => ?_)
        · have E := am_ifF E c30
          refine am_iconst 89 (0 : Int32) C dX12_compare_89 (by decide) ?_
          refine am_lvs [0, 1, 2] rfl ?_
          exact K90 _ _ _ _ E
        · have E := am_ifT E c30
          refine am_iconst 85 (1 : Int32) C dX12_compare_85 (by decide) ?_
          refine am_goto 86 90 C dX12_compare_86 (by decide) ?_
          refine am_lvs [0, 1, 2] rfl ?_
          exact K90 _ _ _ _ E
  refine am_aload_n 0 C dX12_compare_0 rfl 0 rfl ?_
  obtain ⟨v33, s34, Ec, E⟩ := am_b2E E
  refine as_callV 1 (s2 := s34) (st := []) (st2 := [.int v33]) [] C A (by decide) ml_X12_175 yc_X12_sum yv_X12_sum (t_X12_sum  s0 Ec) (by decide) sh_248 rfl rfl (Nat.le_of_ble_eq_true rfl) rfl dX12_compare_1 ?_
  refine am_if_ne 4 9 C dX12_compare_4 (by decide) (fun c44 => ?_) (fun c44 => ?_)
  · have E := am_ifF E c44
    refine am_aload_n 9 C dX12_compare_9 rfl 0 rfl ?_
    obtain ⟨v35, s36, Ec, E⟩ := am_b2E E
    refine as_callV 10 (s2 := s36) (st := []) (st2 := [.int v35]) [] C A (by decide) ml_X12_81 yc_X12_see yv_X12_see (t_X12_see  s34 Ec) (by decide) sh_248 rfl rfl (Nat.le_of_ble_eq_true rfl) rfl dX12_compare_10 ?_
    refine am_istore_n 13 (lv2 := [(1, .int v35), (0, .ref 248)]) C dX12_compare_13 rfl (by decide) rfl ?_
    refine am_aload_n 14 C dX12_compare_14 rfl 1 rfl ?_
    refine as_geti 15 C fl_X12_78_11 dX12_compare_15 (by decide) sh_248 ?_
    obtain ⟨v37, hv37, E⟩ := am_ltE E
    refine as_nm hv37 ?_
    refine am_istore_n 18 (lv2 := [(2, .int v37), (1, .int v35), (0, .ref 248)]) C dX12_compare_18 rfl (by decide) rfl ?_
    refine am_iload_n 19 C dX12_compare_19 rfl 1 rfl ?_
    refine am_bipush 20 (nI 60) C dX12_compare_20 (by decide) ?_
    refine am_icmp_eq 22 44 C dX12_compare_22 (by decide) (fun c43 => ?_) (fun c43 => ?_)
    · have E := am_ifT E c43
      refine am_lvs [2, 1, 0] rfl ?_
      exact K44 _ _ _ E
    · have E := am_ifF E c43
      refine am_iload_n 25 C dX12_compare_25 rfl 1 rfl ?_
      refine am_bipush 26 (nI 61) C dX12_compare_26 (by decide) ?_
      refine am_icmp_eq 28 44 C dX12_compare_28 (by decide) (fun c42 => ?_) (fun c42 => ?_)
      · have E := am_ifT E c42
        refine am_lvs [2, 1, 0] rfl ?_
        exact K44 _ _ _ E
      · have E := am_ifF E c42
        refine am_iload_n 31 C dX12_compare_31 rfl 1 rfl ?_
        refine am_bipush 32 (nI 62) C dX12_compare_32 (by decide) ?_
        refine am_icmp_eq 34 44 C dX12_compare_34 (by decide) (fun c41 => ?_) (fun c41 => ?_)
        · have E := am_ifT E c41
          refine am_lvs [2, 1, 0] rfl ?_
          exact K44 _ _ _ E
        · have E := am_ifF E c41
          refine am_aload_n 37 C dX12_compare_37 rfl 2 rfl ?_
          refine am_iconst 38 (0 : Int32) C dX12_compare_38 (by decide) ?_
          refine am_iload_n 39 C dX12_compare_39 rfl 0 rfl ?_
          obtain ⟨v38, s39, Ec, E⟩ := am_b2E E
          refine as_callV 40 (s2 := s39) (st := []) (st2 := [.int v38]) [.int (0 : Int32), .int v37] C A (by decide) ml_X12_99 yc_X12_fails yv_X12_fails (t_X12_fails (0 : Int32) v37 s36 Ec) (by decide) sh_248 rfl rfl (Nat.le_of_ble_eq_true rfl) rfl dX12_compare_40 ?_
          obtain ⟨g40, E⟩ := am_gdE E
          replace E := Option.some.inj E
          subst E
          exact as_iret 43 C Z (am_nb g40) dX12_compare_43
  · have E := am_ifT E c44
    refine am_iconst 7 (0 : Int32) C dX12_compare_7 (by decide) ?_
    replace E := Option.some.inj E
    subst E
    exact as_iret 8 C Z rfl dX12_compare_8
def j_X12_fact_75 (s1 : am_S) : Option (Int32 × am_S) :=
  am_b2 (f_X12_compare s1) (fun v2 s3 => am_gd (v2 = 0 ∨ v2 = 1) (some (v2, s3)))
def b_X12_fact_2 (v6 : Int32) (s7 : am_S) : Option ((Int32 × am_S) ⊕ (Int32 × am_S)) :=
  am_if (v6 = 0) (am_bd (j_X12_fact_75 s7) (fun e8 => some (Sum.inr e8))) (am_b2 (f_X12_see s7) (fun v9 s10 => am_b2 (f_X12_isWord (7237492 : Int64) s10) (fun v11 s12 => am_if (v11 = 0) (am_if (v9 = (nI 91)) (am_b2 (f_X12_opens (nI 91) s12) (fun v13 s14 => am_if (v13 = 0) (some (Sum.inr ((0 : Int32), s14))) (am_lt (as_i s14 248 8 ((s14.1 248 8) + (1 : Int32))) (fun s15 => some (Sum.inl ((1 : Int32), s15)))))) (some (Sum.inl ((0 : Int32), s12)))) (am_b2 (f_X12_opens (nI 11) s12) (fun v18 s19 => am_if (v18 = 0) (some (Sum.inr ((0 : Int32), s19))) (am_bd (f_X12_passWord s19) (fun s20 => some (Sum.inl ((1 : Int32), s20)))))))))
def f_X12_fact  (s0 : am_S) : Option (Int32 × am_S) :=
  am_lp (fun (q : Int32 × am_S) => b_X12_fact_2 q.1 q.2) am_F ((1 : Int32), s0)
set_option maxRecDepth 100000 in
set_option maxHeartbeats 4000000 in
theorem t_X12_fact (s0 : am_S) {z : Int32 × am_S} (E : f_X12_fact  s0 = some z) : AS yX12_fact cX12_fact 3 (some .boolean) 8 [.ref 248] s0 (some (.int z.1)) z.2 := by
  unfold f_X12_fact at E
  refine as_met (lv := [(0, .ref 248)]) (by decide +kernel) (by simp [lg_sl, Value.category]) rfl (fun x C A Z => ?_)
  have K75 : ∀ (s1 : am_S), j_X12_fact_75 s1 = some z → AX x 0 0 75 [(0, .ref 248)] [] am_N (am_h s1) := by
    intro s1 E
    unfold j_X12_fact_75 at E
    refine am_aload_n 75 C dX12_fact_75 rfl 0 rfl ?_
    obtain ⟨v2, s3, Ec, E⟩ := am_b2E E
    refine as_callV 76 (s2 := s3) (st := []) (st2 := [.int v2]) [] C A (by decide) ml_X12_183 yc_X12_compare yv_X12_compare (t_X12_compare  s1 Ec) (by decide) sh_248 rfl rfl (Nat.le_of_ble_eq_true rfl) rfl dX12_fact_76 ?_
    obtain ⟨g4, E⟩ := am_gdE E
    replace E := Option.some.inj E
    subst E
    exact as_iret 79 C Z (am_nb g4) dX12_fact_79
  refine am_iconst 0 (1 : Int32) C dX12_fact_0 (by decide) ?_
  refine am_istore_n 1 (lv2 := [(1, .int (1 : Int32)), (0, .ref 248)]) C dX12_fact_1 rfl (by decide) rfl ?_
  have LP5 : ∀ (n : Nat) (v6 : Int32) (s7 : am_S), am_lp (fun (q : Int32 × am_S) => b_X12_fact_2 q.1 q.2) n (v6, s7) = some z → AX x 0 0 2 [(0, .ref 248), (1, .int v6)] [] am_N (am_h s7) := by
    intro n
    induction n with
    | zero => intro v6 s7 E; exact (am_lp0 E).elim
    | succ n ih5 =>
      intro v6 s7 E
      obtain ⟨r5, E, Er5⟩ := am_lpE E
      replace E : b_X12_fact_2 v6 s7 = some r5 := E
      unfold b_X12_fact_2 at E
      refine am_iload_n 2 C dX12_fact_2 rfl 1 rfl ?_
      refine am_if_eq 3 75 C dX12_fact_3 (by decide) (fun c23 => ?_) (fun c23 => ?_)
      · have E := am_ifT E c23
        obtain ⟨e8, E, E2⟩ := am_bdE E
        replace E2 := Option.some.inj E2
        replace E2 := am_exR E2 Er5
        rw [E2] at E
        refine am_lvs [0] rfl ?_
        exact K75 _ E
      · have E := am_ifF E c23
        refine am_iconst 6 (0 : Int32) C dX12_fact_6 (by decide) ?_
        refine am_istore_n 7 (lv2 := [(1, .int (0 : Int32)), (0, .ref 248)]) C dX12_fact_7 rfl (by decide) rfl ?_
        refine am_aload_n 8 C dX12_fact_8 rfl 1 rfl ?_
        obtain ⟨v9, s10, Ec, E⟩ := am_b2E E
        refine as_callV 9 (s2 := s10) (st := []) (st2 := [.int v9]) [] C A (by decide) ml_X12_81 yc_X12_see yv_X12_see (t_X12_see  s7 Ec) (by decide) sh_248 rfl rfl (Nat.le_of_ble_eq_true rfl) rfl dX12_fact_9 ?_
        refine am_istore_n 12 (lv2 := [(2, .int v9), (1, .int (0 : Int32)), (0, .ref 248)]) C dX12_fact_12 rfl (by decide) rfl ?_
        refine am_aload_n 13 C dX12_fact_13 rfl 2 rfl ?_
        refine am_ldc2 14 C dX12_fact_14 kl_X12_178 ?_
        obtain ⟨v11, s12, Ec, E⟩ := am_b2E E
        refine as_callV 17 (s2 := s12) (st := []) (st2 := [.int v11]) [.long (7237492 : Int64)] C A (by decide) ml_X12_89 yc_X12_isWord yv_X12_isWord (t_X12_isWord (7237492 : Int64) s10 Ec) (by decide) sh_248 rfl rfl (Nat.le_of_ble_eq_true rfl) rfl dX12_fact_17 ?_
        refine am_if_eq 20 43 C dX12_fact_20 (by decide) (fun c22 => ?_) (fun c22 => ?_)
        · have E := am_ifT E c22
          refine am_iload_n 43 C dX12_fact_43 rfl 0 rfl ?_
          refine am_bipush 44 (nI 91) C dX12_fact_44 (by decide) ?_
          refine am_icmp_ne 46 72 C dX12_fact_46 (by decide) (fun c17 => ?_) (fun c17 => ?_)
          · have E := am_ifF E c17
            refine am_goto 72 2 C dX12_fact_72 (by decide) ?_
            replace E := Option.some.inj E
            replace E := am_exL E Er5
            refine am_lvs [2, 1] rfl ?_
            exact ih5 _ _ E
          · have E := am_ifT E c17
            refine am_aload_n 49 C dX12_fact_49 rfl 2 rfl ?_
            refine am_bipush 50 (nI 91) C dX12_fact_50 (by decide) ?_
            obtain ⟨v13, s14, Ec, E⟩ := am_b2E E
            refine as_callV 52 (s2 := s14) (st := []) (st2 := [.int v13]) [.int (nI 91)] C A (by decide) ml_X12_180 yc_X12_opens yv_X12_opens (t_X12_opens (nI 91) s12 Ec) (by decide) sh_248 rfl rfl (Nat.le_of_ble_eq_true rfl) rfl dX12_fact_52 ?_
            refine am_if_ne 55 60 C dX12_fact_55 (by decide) (fun c16 => ?_) (fun c16 => ?_)
            · have E := am_ifF E c16
              refine am_aload_n 60 C dX12_fact_60 rfl 2 rfl ?_
              refine am_dup 61 C dX12_fact_61 rfl ?_
              refine as_geti 62 C fl_X12_78_11 dX12_fact_62 (by decide) sh_248 ?_
              refine am_iconst 65 (1 : Int32) C dX12_fact_65 (by decide) ?_
              refine am_iadd 66 C dX12_fact_66 ?_
              obtain ⟨s15, hs15, E⟩ := am_ltE E
              refine as_puti 67 C fl_X12_78_11 dX12_fact_67 (by decide) sh_248 rfl rfl hs15 ?_
              refine am_iconst 70 (1 : Int32) C dX12_fact_70 (by decide) ?_
              refine am_istore_n 71 (lv2 := [(1, .int (1 : Int32)), (2, .int v9), (0, .ref 248)]) C dX12_fact_71 rfl (by decide) rfl ?_
              refine am_goto 72 2 C dX12_fact_72 (by decide) ?_
              replace E := Option.some.inj E
              replace E := am_exL E Er5
              refine am_lvs [2, 0] rfl ?_
              exact ih5 _ _ E
            · have E := am_ifT E c16
              refine am_iconst 58 (0 : Int32) C dX12_fact_58 (by decide) ?_
              replace E := Option.some.inj E
              replace E := am_exR E Er5
              subst E
              exact as_iret 59 C Z rfl dX12_fact_59
        · have E := am_ifF E c22
          refine am_aload_n 23 C dX12_fact_23 rfl 2 rfl ?_
          refine am_bipush 24 (nI 11) C dX12_fact_24 (by decide) ?_
          obtain ⟨v18, s19, Ec, E⟩ := am_b2E E
          refine as_callV 26 (s2 := s19) (st := []) (st2 := [.int v18]) [.int (nI 11)] C A (by decide) ml_X12_180 yc_X12_opens yv_X12_opens (t_X12_opens (nI 11) s12 Ec) (by decide) sh_248 rfl rfl (Nat.le_of_ble_eq_true rfl) rfl dX12_fact_26 ?_
          refine am_if_ne 29 34 C dX12_fact_29 (by decide) (fun c21 => ?_) (fun c21 => ?_)
          · have E := am_ifF E c21
            refine am_aload_n 34 C dX12_fact_34 rfl 2 rfl ?_
            obtain ⟨s20, Ec, E⟩ := am_bdE E
            refine as_callV 35 (s2 := s20) (st := []) (st2 := []) [] C A (by decide) ml_X12_93 yc_X12_passWord yv_X12_passWord (t_X12_passWord  s19 Ec) (by decide) sh_248 rfl rfl (Nat.le_of_ble_eq_true rfl) rfl dX12_fact_35 ?_
            refine am_iconst 38 (1 : Int32) C dX12_fact_38 (by decide) ?_
            refine am_istore_n 39 (lv2 := [(1, .int (1 : Int32)), (2, .int v9), (0, .ref 248)]) C dX12_fact_39 rfl (by decide) rfl ?_
            refine am_goto 40 72 C dX12_fact_40 (by decide) ?_
            refine am_goto 72 2 C dX12_fact_72 (by decide) ?_
            replace E := Option.some.inj E
            replace E := am_exL E Er5
            refine am_lvs [2, 0] rfl ?_
            exact ih5 _ _ E
          · have E := am_ifT E c21
            refine am_iconst 32 (0 : Int32) C dX12_fact_32 (by decide) ?_
            replace E := Option.some.inj E
            replace E := am_exR E Er5
            subst E
            exact as_iret 33 C Z rfl dX12_fact_33
  refine am_lvs [1, 0] rfl ?_
  exact LP5 am_F _ _ E
def b_X12_isInside_2 (s0 : am_S) (v2 : Int32) : Option ((Int32) ⊕ (Int32)) :=
  am_if ((s0.1 248 16) ≤ v2) (some (Sum.inr (0 : Int32))) (am_gd (¬ v2 < 0 ∧ (v2).toNatClampNeg < 400) (am_if ((s0.1 255 (v2).toNatClampNeg) = (nI 91)) (some (Sum.inr (1 : Int32))) (am_lt (v2 + (1 : Int32)) (fun v4 => some (Sum.inl v4)))))
def f_X12_isInside  (s0 : am_S) : Option (Int32) :=
  am_lp (fun (q : Int32) => b_X12_isInside_2 s0 q) am_F (0 : Int32)
set_option maxRecDepth 100000 in
set_option maxHeartbeats 4000000 in
theorem t_X12_isInside (s0 : am_S) {z : Int32} (E : f_X12_isInside  s0 = some z) : AS yX12_isInside cX12_isInside 2 (some .boolean) 1 [.ref 248] s0 (some (.int z)) s0 := by
  unfold f_X12_isInside at E
  refine as_met (lv := [(0, .ref 248)]) (by decide +kernel) (by simp [lg_sl, Value.category]) rfl (fun x C A Z => ?_)
  refine am_iconst 0 (0 : Int32) C dX12_isInside_0 (by decide) ?_
  refine am_istore_n 1 (lv2 := [(1, .int (0 : Int32)), (0, .ref 248)]) C dX12_isInside_1 rfl (by decide) rfl ?_
  have LP1 : ∀ (n : Nat) (v2 : Int32), am_lp (fun (q : Int32) => b_X12_isInside_2 s0 q) n v2 = some z → AX x 0 0 2 [(0, .ref 248), (1, .int v2)] [] am_N (am_h s0) := by
    intro n
    induction n with
    | zero => intro v2 E; exact (am_lp0 E).elim
    | succ n ih1 =>
      intro v2 E
      obtain ⟨r1, E, Er1⟩ := am_lpE E
      replace E : b_X12_isInside_2 s0 v2 = some r1 := E
      unfold b_X12_isInside_2 at E
      refine am_iload_n 2 C dX12_isInside_2 rfl 1 rfl ?_
      refine am_aload_n 3 C dX12_isInside_3 rfl 0 rfl ?_
      refine as_geti 4 C fl_X12_147_11 dX12_isInside_4 (by decide) sh_248 ?_
      refine am_icmp_ge 7 29 C dX12_isInside_7 (by decide) (fun c6 => ?_) (fun c6 => ?_)
      · have E := am_ifT E c6
        refine am_iconst 29 (0 : Int32) C dX12_isInside_29 (by decide) ?_
        replace E := Option.some.inj E
        replace E := am_exR E Er1
        subst E
        exact as_iret 30 C Z rfl dX12_isInside_30
      · have E := am_ifF E c6
        refine am_aload_n 10 C dX12_isInside_10 rfl 0 rfl ?_
        refine as_getr 11 C fl_X12_29_11 dX12_isInside_11 (by decide) sh_248 (rf_248_15 _ _) ?_
        refine am_iload_n 14 C dX12_isInside_14 rfl 1 rfl ?_
        obtain ⟨g3, E⟩ := am_gdE E
        refine as_iald 15 C dX12_isInside_15 (by decide) sh_255 g3 ?_
        refine am_bipush 16 (nI 91) C dX12_isInside_16 (by decide) ?_
        refine am_icmp_ne 18 23 C dX12_isInside_18 (by decide) (fun c5 => ?_) (fun c5 => ?_)
        · have E := am_ifF E c5
          obtain ⟨v4, hv4, E⟩ := am_ltE E
          refine as_iinc 23 (q := (1 : Int32)) (lv2 := [(1, .int v4), (0, .ref 248)]) C dX12_isInside_23 1 rfl (by decide) hv4 (by decide) rfl ?_
          refine am_goto 26 2 C dX12_isInside_26 (by decide) ?_
          replace E := Option.some.inj E
          replace E := am_exL E Er1
          refine am_lvs [1, 0] rfl ?_
          exact ih1 _ E
        · have E := am_ifT E c5
          refine am_iconst 21 (1 : Int32) C dX12_isInside_21 (by decide) ?_
          replace E := Option.some.inj E
          replace E := am_exR E Er1
          subst E
          exact as_iret 22 C Z rfl dX12_isInside_22
  refine am_lvs [1, 0] rfl ?_
  exact LP1 am_F _ E
def b_X12_closes_5 (s3 : am_S) : Option ((am_S) ⊕ (am_S)) :=
  am_b2 (f_X12_see s3) (fun v4 s5 => am_if (v4 = (nI 93)) (am_bd (f_X12_isInside s5) (fun v6 => am_if (v6 = 0) (some (Sum.inr s5)) (am_bd (f_X12_settles (1 : Int32) s5) (fun s7 => am_lt (as_i s7 248 16 ((s7.1 248 16) - (1 : Int32))) (fun s8 => am_lt (as_i s8 248 13 ((s8.1 248 13) - (1 : Int32))) (fun s9 => am_lt (as_i s9 248 8 ((s9.1 248 8) + (1 : Int32))) (fun s10 => am_bd (f_X12_settles (nI 3) s10) (fun s11 => some (Sum.inl s11))))))))) (some (Sum.inr s5)))
def f_X12_closes  (s0 : am_S) : Option (am_S) :=
  am_bd (f_X12_settles (nI 3) s0) (fun s1 => am_lp (fun (q : am_S) => b_X12_closes_5 q) am_F s1)
set_option maxRecDepth 100000 in
set_option maxHeartbeats 4000000 in
theorem t_X12_closes (s0 : am_S) {z : am_S} (E : f_X12_closes  s0 = some z) : AS yX12_closes cX12_closes 1 none 3 [.ref 248] s0 none z := by
  unfold f_X12_closes at E
  refine as_met (lv := [(0, .ref 248)]) (by decide +kernel) (by simp [lg_sl, Value.category]) rfl (fun x C A Z => ?_)
  refine am_aload_n 0 C dX12_closes_0 rfl 0 rfl ?_
  refine am_iconst 1 (nI 3) C dX12_closes_1 (by decide) ?_
  obtain ⟨s1, Ec, E⟩ := am_bdE E
  refine as_callV 2 (s2 := s1) (st := []) (st2 := []) [.int (nI 3)] C A (by decide) ml_X12_186 yc_X12_settles yv_X12_settles (t_X12_settles (nI 3) s0 Ec) (by decide) sh_248 rfl rfl (Nat.le_of_ble_eq_true rfl) rfl dX12_closes_2 ?_
  have LP2 : ∀ (n : Nat) (s3 : am_S), am_lp (fun (q : am_S) => b_X12_closes_5 q) n s3 = some z → AX x 0 0 5 [(0, .ref 248)] [] am_N (am_h s3) := by
    intro n
    induction n with
    | zero => intro s3 E; exact (am_lp0 E).elim
    | succ n ih2 =>
      intro s3 E
      obtain ⟨r2, E, Er2⟩ := am_lpE E
      replace E : b_X12_closes_5 s3 = some r2 := E
      unfold b_X12_closes_5 at E
      refine am_aload_n 5 C dX12_closes_5 rfl 0 rfl ?_
      obtain ⟨v4, s5, Ec, E⟩ := am_b2E E
      refine as_callV 6 (s2 := s5) (st := []) (st2 := [.int v4]) [] C A (by decide) ml_X12_81 yc_X12_see yv_X12_see (t_X12_see  s3 Ec) (by decide) sh_248 rfl rfl (Nat.le_of_ble_eq_true rfl) rfl dX12_closes_6 ?_
      refine am_bipush 9 (nI 93) C dX12_closes_9 (by decide) ?_
      refine am_icmp_ne 11 64 C dX12_closes_11 (by decide) (fun c13 => ?_) (fun c13 => ?_)
      · have E := am_ifF E c13
        replace E := Option.some.inj E
        replace E := am_exR E Er2
        subst E
        exact as_vret 64 C Z dX12_closes_64
      · have E := am_ifT E c13
        refine am_aload_n 14 C dX12_closes_14 rfl 0 rfl ?_
        obtain ⟨v6, Ec, E⟩ := am_bdE E
        refine as_callV 15 (s2 := s5) (st := []) (st2 := [.int v6]) [] C A (by decide) ml_X12_189 yc_X12_isInside yv_X12_isInside (t_X12_isInside  s5 Ec) (by decide) sh_248 rfl rfl (Nat.le_of_ble_eq_true rfl) rfl dX12_closes_15 ?_
        refine am_if_eq 18 64 C dX12_closes_18 (by decide) (fun c12 => ?_) (fun c12 => ?_)
        · have E := am_ifT E c12
          replace E := Option.some.inj E
          replace E := am_exR E Er2
          subst E
          exact as_vret 64 C Z dX12_closes_64
        · have E := am_ifF E c12
          refine am_aload_n 21 C dX12_closes_21 rfl 0 rfl ?_
          refine am_iconst 22 (1 : Int32) C dX12_closes_22 (by decide) ?_
          obtain ⟨s7, Ec, E⟩ := am_bdE E
          refine as_callV 23 (s2 := s7) (st := []) (st2 := []) [.int (1 : Int32)] C A (by decide) ml_X12_186 yc_X12_settles yv_X12_settles (t_X12_settles (1 : Int32) s5 Ec) (by decide) sh_248 rfl rfl (Nat.le_of_ble_eq_true rfl) rfl dX12_closes_23 ?_
          refine am_aload_n 26 C dX12_closes_26 rfl 0 rfl ?_
          refine am_dup 27 C dX12_closes_27 rfl ?_
          refine as_geti 28 C fl_X12_147_11 dX12_closes_28 (by decide) sh_248 ?_
          refine am_iconst 31 (1 : Int32) C dX12_closes_31 (by decide) ?_
          refine am_isub 32 C dX12_closes_32 ?_
          obtain ⟨s8, hs8, E⟩ := am_ltE E
          refine as_puti 33 C fl_X12_147_11 dX12_closes_33 (by decide) sh_248 rfl rfl hs8 ?_
          refine am_aload_n 36 C dX12_closes_36 rfl 0 rfl ?_
          refine am_dup 37 C dX12_closes_37 rfl ?_
          refine as_geti 38 C fl_X12_144_11 dX12_closes_38 (by decide) sh_248 ?_
          refine am_iconst 41 (1 : Int32) C dX12_closes_41 (by decide) ?_
          refine am_isub 42 C dX12_closes_42 ?_
          obtain ⟨s9, hs9, E⟩ := am_ltE E
          refine as_puti 43 C fl_X12_144_11 dX12_closes_43 (by decide) sh_248 rfl rfl hs9 ?_
          refine am_aload_n 46 C dX12_closes_46 rfl 0 rfl ?_
          refine am_dup 47 C dX12_closes_47 rfl ?_
          refine as_geti 48 C fl_X12_78_11 dX12_closes_48 (by decide) sh_248 ?_
          refine am_iconst 51 (1 : Int32) C dX12_closes_51 (by decide) ?_
          refine am_iadd 52 C dX12_closes_52 ?_
          obtain ⟨s10, hs10, E⟩ := am_ltE E
          refine as_puti 53 C fl_X12_78_11 dX12_closes_53 (by decide) sh_248 rfl rfl hs10 ?_
          refine am_aload_n 56 C dX12_closes_56 rfl 0 rfl ?_
          refine am_iconst 57 (nI 3) C dX12_closes_57 (by decide) ?_
          obtain ⟨s11, Ec, E⟩ := am_bdE E
          refine as_callV 58 (s2 := s11) (st := []) (st2 := []) [.int (nI 3)] C A (by decide) ml_X12_186 yc_X12_settles yv_X12_settles (t_X12_settles (nI 3) s10 Ec) (by decide) sh_248 rfl rfl (Nat.le_of_ble_eq_true rfl) rfl dX12_closes_58 ?_
          refine am_goto 61 5 C dX12_closes_61 (by decide) ?_
          replace E := Option.some.inj E
          replace E := am_exL E Er2
          refine am_lvs [0] rfl ?_
          exact ih2 _ E
  refine am_lvs [0] rfl ?_
  exact LP2 am_F _ E
def j_X12_tested_112 (s1 : am_S) : Option (Int32 × am_S) :=
  am_bd (f_X12_isInside s1) (fun v2 => am_if (v2 = 0) (am_bd (f_X12_settles (1 : Int32) s1) (fun s3 => some ((1 : Int32), s3))) (am_b2 (f_X12_see s1) (fun v4 s5 => am_b2 (f_X12_fails (0 : Int32) (s5.1 248 8) s5) (fun v6 s7 => am_gd (v6 = 0 ∨ v6 = 1) (some (v6, s7))))))
def j_X12_tested_76 (v15 : Int32) (v16 : Int32) (s17 : am_S) : Option ((Int32 × am_S) ⊕ (Int32 × am_S)) :=
  am_bd (f_X12_passWord s17) (fun s18 => am_bd (f_X12_strength v15) (fun v19 => am_bd (f_X12_settles v19 s18) (fun s20 => am_gd (¬ (s20.1 248 16) < 0 ∧ ((s20.1 248 16)).toNatClampNeg < 400) (am_lt (as_i s20 255 ((s20.1 248 16)).toNatClampNeg v15) (fun s22 => am_lt (as_i s22 248 16 ((s22.1 248 16) + (1 : Int32))) (fun s23 => some (Sum.inl (v16, s23))))))))
def j_X12_tested_54 (v24 : Int32) (s25 : am_S) : Option ((Int32 × am_S) ⊕ (Int32 × am_S)) :=
  am_if (v24 = 0) (some (Sum.inl (v24, s25))) (am_b2 (f_X12_isWord (6385252 : Int64) s25) (fun v26 s27 => am_if (v26 = 0) (j_X12_tested_76 (nI 13) v24 s27) (j_X12_tested_76 (nI 12) v24 s27)))
def b_X12_tested_12 (v13 : Int32) (s14 : am_S) : Option ((Int32 × am_S) ⊕ (Int32 × am_S)) :=
  am_if (v13 = 0) (am_bd (j_X12_tested_112 s14) (fun e30 => some (Sum.inr e30))) (am_b2 (f_X12_fact s14) (fun v31 s32 => am_if (v31 = 0) (some (Sum.inr ((0 : Int32), s32))) (am_bd (f_X12_closes s32) (fun s33 => am_b2 (f_X12_isWord (6385252 : Int64) s33) (fun v34 s35 => am_if (v34 = 0) (am_b2 (f_X12_isWord (28530 : Int64) s35) (fun v36 s37 => am_if (v36 = 0) (j_X12_tested_54 (0 : Int32) s37) (j_X12_tested_54 (1 : Int32) s37))) (j_X12_tested_54 (1 : Int32) s35))))))
def f_X12_tested  (s0 : am_S) : Option (Int32 × am_S) :=
  am_lt (as_i s0 248 16 (0 : Int32)) (fun s10 => am_lt (as_i s10 248 13 (0 : Int32)) (fun s11 => am_lp (fun (q : Int32 × am_S) => b_X12_tested_12 q.1 q.2) am_F ((1 : Int32), s11)))
set_option maxRecDepth 100000 in
set_option maxHeartbeats 4000000 in
theorem t_X12_tested (s0 : am_S) {z : Int32 × am_S} (E : f_X12_tested  s0 = some z) : AS yX12_tested cX12_tested 3 (some .boolean) 9 [.ref 248] s0 (some (.int z.1)) z.2 := by
  unfold f_X12_tested at E
  refine as_met (lv := [(0, .ref 248)]) (by decide +kernel) (by simp [lg_sl, Value.category]) rfl (fun x C A Z => ?_)
  have K112 : ∀ (s1 : am_S), j_X12_tested_112 s1 = some z → AX x 0 0 112 [(0, .ref 248)] [] am_N (am_h s1) := by
    intro s1 E
    unfold j_X12_tested_112 at E
    refine am_aload_n 112 C dX12_tested_112 rfl 0 rfl ?_
    obtain ⟨v2, Ec, E⟩ := am_bdE E
    refine as_callV 113 (s2 := s1) (st := []) (st2 := [.int v2]) [] C A (by decide) ml_X12_189 yc_X12_isInside yv_X12_isInside (t_X12_isInside  s1 Ec) (by decide) sh_248 rfl rfl (Nat.le_of_ble_eq_true rfl) rfl dX12_tested_113 ?_
    refine am_if_eq 116 134 C dX12_tested_116 (by decide) (fun c9 => ?_) (fun c9 => ?_)
    · have E := am_ifT E c9
      refine am_aload_n 134 C dX12_tested_134 rfl 0 rfl ?_
      refine am_iconst 135 (1 : Int32) C dX12_tested_135 (by decide) ?_
      obtain ⟨s3, Ec, E⟩ := am_bdE E
      refine as_callV 136 (s2 := s3) (st := []) (st2 := []) [.int (1 : Int32)] C A (by decide) ml_X12_186 yc_X12_settles yv_X12_settles (t_X12_settles (1 : Int32) s1 Ec) (by decide) sh_248 rfl rfl (Nat.le_of_ble_eq_true rfl) rfl dX12_tested_136 ?_
      refine am_iconst 139 (1 : Int32) C dX12_tested_139 (by decide) ?_
      replace E := Option.some.inj E
      subst E
      exact as_iret 140 C Z rfl dX12_tested_140
    · have E := am_ifF E c9
      refine am_aload_n 119 C dX12_tested_119 rfl 0 rfl ?_
      obtain ⟨v4, s5, Ec, E⟩ := am_b2E E
      refine as_callV 120 (s2 := s5) (st := []) (st2 := [.int v4]) [] C A (by decide) ml_X12_81 yc_X12_see yv_X12_see (t_X12_see  s1 Ec) (by decide) sh_248 rfl rfl (Nat.le_of_ble_eq_true rfl) rfl dX12_tested_120 ?_
      refine am_pop 123 C dX12_tested_123 rfl ?_
      refine am_aload_n 124 C dX12_tested_124 rfl 0 rfl ?_
      refine am_iconst 125 (0 : Int32) C dX12_tested_125 (by decide) ?_
      refine am_aload_n 126 C dX12_tested_126 rfl 0 rfl ?_
      refine as_geti 127 C fl_X12_78_11 dX12_tested_127 (by decide) sh_248 ?_
      obtain ⟨v6, s7, Ec, E⟩ := am_b2E E
      refine as_callV 130 (s2 := s7) (st := []) (st2 := [.int v6]) [.int (0 : Int32), .int (s5.1 248 8)] C A (by decide) ml_X12_99 yc_X12_fails yv_X12_fails (t_X12_fails (0 : Int32) (s5.1 248 8) s5 Ec) (by decide) sh_248 rfl rfl (Nat.le_of_ble_eq_true rfl) rfl dX12_tested_130 ?_
      obtain ⟨g8, E⟩ := am_gdE E
      replace E := Option.some.inj E
      subst E
      exact as_iret 133 C Z (am_nb g8) dX12_tested_133
  refine am_aload_n 0 C dX12_tested_0 rfl 0 rfl ?_
  refine am_iconst 1 (0 : Int32) C dX12_tested_1 (by decide) ?_
  obtain ⟨s10, hs10, E⟩ := am_ltE E
  refine as_puti 2 C fl_X12_147_11 dX12_tested_2 (by decide) sh_248 rfl rfl hs10 ?_
  refine am_aload_n 5 C dX12_tested_5 rfl 0 rfl ?_
  refine am_iconst 6 (0 : Int32) C dX12_tested_6 (by decide) ?_
  obtain ⟨s11, hs11, E⟩ := am_ltE E
  refine as_puti 7 C fl_X12_144_11 dX12_tested_7 (by decide) sh_248 rfl rfl hs11 ?_
  refine am_iconst 10 (1 : Int32) C dX12_tested_10 (by decide) ?_
  refine am_istore_n 11 (lv2 := [(1, .int (1 : Int32)), (0, .ref 248)]) C dX12_tested_11 rfl (by decide) rfl ?_
  have LP12 : ∀ (n : Nat) (v13 : Int32) (s14 : am_S), am_lp (fun (q : Int32 × am_S) => b_X12_tested_12 q.1 q.2) n (v13, s14) = some z → AX x 0 0 12 [(0, .ref 248), (1, .int v13)] [] am_N (am_h s14) := by
    intro n
    induction n with
    | zero => intro v13 s14 E; exact (am_lp0 E).elim
    | succ n ih12 =>
      intro v13 s14 E
      obtain ⟨r12, E, Er12⟩ := am_lpE E
      replace E : b_X12_tested_12 v13 s14 = some r12 := E
      unfold b_X12_tested_12 at E
      have K76 : ∀ (v15 : Int32) (v16 : Int32) (s17 : am_S), j_X12_tested_76 v15 v16 s17 = some r12 → AX x 0 0 76 [(0, .ref 248), (1, .int v16)] [.int v15] am_N (am_h s17) := by
        intro v15 v16 s17 E
        unfold j_X12_tested_76 at E
        refine am_istore_n 76 (lv2 := [(2, .int v15), (0, .ref 248), (1, .int v16)]) C dX12_tested_76 rfl (by decide) rfl ?_
        refine am_aload_n 77 C dX12_tested_77 rfl 1 rfl ?_
        obtain ⟨s18, Ec, E⟩ := am_bdE E
        refine as_callV 78 (s2 := s18) (st := []) (st2 := []) [] C A (by decide) ml_X12_93 yc_X12_passWord yv_X12_passWord (t_X12_passWord  s17 Ec) (by decide) sh_248 rfl rfl (Nat.le_of_ble_eq_true rfl) rfl dX12_tested_78 ?_
        refine am_aload_n 81 C dX12_tested_81 rfl 1 rfl ?_
        refine am_iload_n 82 C dX12_tested_82 rfl 0 rfl ?_
        obtain ⟨v19, Ec, E⟩ := am_bdE E
        refine as_callS 83 (s2 := s18) (st := [.ref 248]) (st2 := [.int v19, .ref 248]) [.int v15] C A (by decide) ml_X12_150 yc_X12_strength ys_X12_strength (t_X12_strength v15 s18 Ec) rfl rfl (Nat.le_of_ble_eq_true rfl) rfl dX12_tested_83 ?_
        obtain ⟨s20, Ec, E⟩ := am_bdE E
        refine as_callV 86 (s2 := s20) (st := []) (st2 := []) [.int v19] C A (by decide) ml_X12_186 yc_X12_settles yv_X12_settles (t_X12_settles v19 s18 Ec) (by decide) sh_248 rfl rfl (Nat.le_of_ble_eq_true rfl) rfl dX12_tested_86 ?_
        refine am_aload_n 89 C dX12_tested_89 rfl 1 rfl ?_
        refine as_getr 90 C fl_X12_29_11 dX12_tested_90 (by decide) sh_248 (rf_248_15 _ _) ?_
        refine am_aload_n 93 C dX12_tested_93 rfl 1 rfl ?_
        refine as_geti 94 C fl_X12_147_11 dX12_tested_94 (by decide) sh_248 ?_
        refine am_iload_n 97 C dX12_tested_97 rfl 0 rfl ?_
        obtain ⟨g21, E⟩ := am_gdE E
        obtain ⟨s22, hs22, E⟩ := am_ltE E
        refine as_iast 98 C dX12_tested_98 (by decide) sh_255 g21 hs22 ?_
        refine am_aload_n 99 C dX12_tested_99 rfl 1 rfl ?_
        refine am_dup 100 C dX12_tested_100 rfl ?_
        refine as_geti 101 C fl_X12_147_11 dX12_tested_101 (by decide) sh_248 ?_
        refine am_iconst 104 (1 : Int32) C dX12_tested_104 (by decide) ?_
        refine am_iadd 105 C dX12_tested_105 ?_
        obtain ⟨s23, hs23, E⟩ := am_ltE E
        refine as_puti 106 C fl_X12_147_11 dX12_tested_106 (by decide) sh_248 rfl rfl hs23 ?_
        refine am_goto 109 12 C dX12_tested_109 (by decide) ?_
        replace E := Option.some.inj E
        replace E := am_exL E Er12
        refine am_lvs [1, 2] rfl ?_
        exact ih12 _ _ E
      have K54 : ∀ (v24 : Int32) (s25 : am_S), j_X12_tested_54 v24 s25 = some r12 → AX x 0 0 54 [(0, .ref 248)] [.int v24] am_N (am_h s25) := by
        intro v24 s25 E
        unfold j_X12_tested_54 at E
        refine am_istore_n 54 (lv2 := [(1, .int v24), (0, .ref 248)]) C dX12_tested_54 rfl (by decide) rfl ?_
        refine am_iload_n 55 C dX12_tested_55 rfl 0 rfl ?_
        refine am_if_eq 56 12 C dX12_tested_56 (by decide) (fun c29 => ?_) (fun c29 => ?_)
        · have E := am_ifT E c29
          replace E := Option.some.inj E
          replace E := am_exL E Er12
          refine am_lvs [1, 0] rfl ?_
          exact ih12 _ _ E
        · have E := am_ifF E c29
          refine am_aload_n 59 C dX12_tested_59 rfl 1 rfl ?_
          refine am_ldc2 60 C dX12_tested_60 kl_X12_198 ?_
          obtain ⟨v26, s27, Ec, E⟩ := am_b2E E
          refine as_callV 63 (s2 := s27) (st := []) (st2 := [.int v26]) [.long (6385252 : Int64)] C A (by decide) ml_X12_89 yc_X12_isWord yv_X12_isWord (t_X12_isWord (6385252 : Int64) s25 Ec) (by decide) sh_248 rfl rfl (Nat.le_of_ble_eq_true rfl) rfl dX12_tested_63 ?_
          refine am_if_eq 66 74 C dX12_tested_66 (by decide) (fun c28 => ?_) (fun c28 => ?_)
          · have E := am_ifT E c28
            refine am_bipush 74 (nI 13) C dX12_tested_74 (by decide) ?_
            refine am_lvs [1, 0] rfl ?_
            exact K76 _ _ _ E
          · have E := am_ifF E c28
            refine am_bipush 69 (nI 12) C dX12_tested_69 (by decide) ?_
            refine am_goto 71 76 C dX12_tested_71 (by decide) ?_
            refine am_lvs [1, 0] rfl ?_
            exact K76 _ _ _ E
      refine am_iload_n 12 C dX12_tested_12 rfl 1 rfl ?_
      refine am_if_eq 13 112 C dX12_tested_13 (by decide) (fun c41 => ?_) (fun c41 => ?_)
      · have E := am_ifT E c41
        obtain ⟨e30, E, E2⟩ := am_bdE E
        replace E2 := Option.some.inj E2
        replace E2 := am_exR E2 Er12
        rw [E2] at E
        refine am_lvs [0] rfl ?_
        exact K112 _ E
      · have E := am_ifF E c41
        refine am_aload_n 16 C dX12_tested_16 rfl 0 rfl ?_
        obtain ⟨v31, s32, Ec, E⟩ := am_b2E E
        refine as_callV 17 (s2 := s32) (st := []) (st2 := [.int v31]) [] C A (by decide) ml_X12_192 yc_X12_fact yv_X12_fact (t_X12_fact  s14 Ec) (by decide) sh_248 rfl rfl (Nat.le_of_ble_eq_true rfl) rfl dX12_tested_17 ?_
        refine am_if_ne 20 25 C dX12_tested_20 (by decide) (fun c40 => ?_) (fun c40 => ?_)
        · have E := am_ifF E c40
          refine am_aload_n 25 C dX12_tested_25 rfl 0 rfl ?_
          obtain ⟨s33, Ec, E⟩ := am_bdE E
          refine as_callV 26 (s2 := s33) (st := []) (st2 := []) [] C A (by decide) ml_X12_195 yc_X12_closes yv_X12_closes (t_X12_closes  s32 Ec) (by decide) sh_248 rfl rfl (Nat.le_of_ble_eq_true rfl) rfl dX12_tested_26 ?_
          refine am_aload_n 29 C dX12_tested_29 rfl 0 rfl ?_
          refine am_ldc2 30 C dX12_tested_30 kl_X12_198 ?_
          obtain ⟨v34, s35, Ec, E⟩ := am_b2E E
          refine as_callV 33 (s2 := s35) (st := []) (st2 := [.int v34]) [.long (6385252 : Int64)] C A (by decide) ml_X12_89 yc_X12_isWord yv_X12_isWord (t_X12_isWord (6385252 : Int64) s33 Ec) (by decide) sh_248 rfl rfl (Nat.le_of_ble_eq_true rfl) rfl dX12_tested_33 ?_
          refine am_if_ne 36 49 C dX12_tested_36 (by decide) (fun c39 => ?_) (fun c39 => ?_)
          · have E := am_ifF E c39
            refine am_iconst 49 (1 : Int32) C dX12_tested_49 (by decide) ?_
            refine am_goto 50 54 C dX12_tested_50 (by decide) ?_
            refine am_lvs [0] rfl ?_
            exact K54 _ _ E
          · have E := am_ifT E c39
            refine am_aload_n 39 C dX12_tested_39 rfl 0 rfl ?_
            refine am_ldc2 40 C dX12_tested_40 kl_X12_200 ?_
            obtain ⟨v36, s37, Ec, E⟩ := am_b2E E
            refine as_callV 43 (s2 := s37) (st := []) (st2 := [.int v36]) [.long (28530 : Int64)] C A (by decide) ml_X12_89 yc_X12_isWord yv_X12_isWord (t_X12_isWord (28530 : Int64) s35 Ec) (by decide) sh_248 rfl rfl (Nat.le_of_ble_eq_true rfl) rfl dX12_tested_43 ?_
            refine am_if_eq 46 53 C dX12_tested_46 (by decide) (fun c38 => ?_) (fun c38 => ?_)
            · have E := am_ifT E c38
              refine am_iconst 53 (0 : Int32) C dX12_tested_53 (by decide) ?_
              refine am_lvs [0] rfl ?_
              exact K54 _ _ E
            · have E := am_ifF E c38
              refine am_iconst 49 (1 : Int32) C dX12_tested_49 (by decide) ?_
              refine am_goto 50 54 C dX12_tested_50 (by decide) ?_
              refine am_lvs [0] rfl ?_
              exact K54 _ _ E
        · have E := am_ifT E c40
          refine am_iconst 23 (0 : Int32) C dX12_tested_23 (by decide) ?_
          replace E := Option.some.inj E
          replace E := am_exR E Er12
          subst E
          exact as_iret 24 C Z rfl dX12_tested_24
  refine am_lvs [1, 0] rfl ?_
  exact LP12 am_F _ _ E
def j_X12_isDoingHere_128 (v2 : Int32) (s3 : am_S) : Option (Int32 × am_S) :=
  am_lt (s3.1 248 11) (fun v4 => am_gd (¬ v4 < 0 ∧ (v4).toNatClampNeg < 7) (am_gd (¬ (v2 + (nI 4)) < 0 ∧ ((v2 + (nI 4))).toNatClampNeg < 360) (am_lt (as_i s3 252 ((v2 + (nI 4))).toNatClampNeg (s3.1 251 (v4).toNatClampNeg)) (fun s7 => am_lt (s7.1 248 11) (fun v8 => am_gd (¬ v8 < 0 ∧ (v8).toNatClampNeg < 6) (am_gd (¬ v8 < 0 ∧ (v8).toNatClampNeg < 6) (am_lt (as_i s7 253 (v8).toNatClampNeg ((s7.1 253 (v8).toNatClampNeg) + (1 : Int32))) (fun s11 => some ((1 : Int32), s11)))))))))
def j_X12_isDoingHere_102 (v12 : Int32) (s13 : am_S) : Option (Int32 × am_S) :=
  am_lt (s13.1 248 11) (fun v14 => am_gd (¬ v14 < 0 ∧ (v14).toNatClampNeg < 7) (am_gd (¬ (v12 + (nI 3)) < 0 ∧ ((v12 + (nI 3))).toNatClampNeg < 360) (am_lt (as_i s13 252 ((v12 + (nI 3))).toNatClampNeg (s13.1 251 (v14).toNatClampNeg)) (fun s17 => am_b2 (f_X12_tested s17) (fun v18 s19 => am_if (v18 = 0) (some ((0 : Int32), s19)) (j_X12_isDoingHere_128 v12 s19))))))
def j_X12_isDoingHere_62 (p1 : Int32) (v21 : Int32) (s22 : am_S) : Option (Int32 × am_S) :=
  am_lt (s22.1 248 11) (fun v23 => am_gd (¬ v23 < 0 ∧ (v23).toNatClampNeg < 7) (am_gd (¬ (v21 + (nI 2)) < 0 ∧ ((v21 + (nI 2))).toNatClampNeg < 360) (am_lt (as_i s22 252 ((v21 + (nI 2))).toNatClampNeg (s22.1 251 (v23).toNatClampNeg)) (fun s26 => am_gd (¬ (v21 + (nI 3)) < 0 ∧ ((v21 + (nI 3))).toNatClampNeg < 360) (am_lt (as_i s26 252 ((v21 + (nI 3))).toNatClampNeg (-1 : Int32)) (fun s28 => am_if (p1 = 0) (j_X12_isDoingHere_102 v21 s28) (am_b2 (f_X12_takesWord (26982 : Int64) s28) (fun v29 s30 => am_if (v29 = 0) (j_X12_isDoingHere_128 v21 s30) (j_X12_isDoingHere_102 v21 s30)))))))))
def f_X12_isDoingHere (p1 : Int32) (s0 : am_S) : Option (Int32 × am_S) :=
  am_bd (f_X12_passWord s0) (fun s33 => am_lt (s33.1 248 11) (fun v34 => am_gd (¬ v34 < 0 ∧ (v34).toNatClampNeg < 6) (am_lt (((nI 60) * (s33.1 248 11)) + ((nI 5) * (s33.1 253 (v34).toNatClampNeg))) (fun v36 => am_gd (¬ v36 < 0 ∧ (v36).toNatClampNeg < 360) (am_lt (as_i s33 252 (v36).toNatClampNeg p1) (fun s38 => am_lt (s38.1 248 11) (fun v39 => am_gd (¬ v39 < 0 ∧ (v39).toNatClampNeg < 7) (am_gd (¬ (v36 + (1 : Int32)) < 0 ∧ ((v36 + (1 : Int32))).toNatClampNeg < 360) (am_lt (as_i s38 252 ((v36 + (1 : Int32))).toNatClampNeg (s38.1 251 (v39).toNatClampNeg)) (fun s42 => am_if (p1 = (1 : Int32)) (am_b2 (f_X12_sum s42) (fun v43 s44 => am_if (v43 = 0) (some ((0 : Int32), s44)) (j_X12_isDoingHere_62 p1 v36 s44))) (j_X12_isDoingHere_62 p1 v36 s42)))))))))))
set_option maxRecDepth 100000 in
set_option maxHeartbeats 4000000 in
theorem t_X12_isDoingHere (p1 : Int32) (s0 : am_S) {z : Int32 × am_S} (E : f_X12_isDoingHere p1 s0 = some z) : AS yX12_isDoingHere cX12_isDoingHere 3 (some .boolean) 10 [.ref 248, .int p1] s0 (some (.int z.1)) z.2 := by
  unfold f_X12_isDoingHere at E
  refine as_met (lv := [(0, .ref 248), (1, .int p1)]) (by decide +kernel) (by simp [lg_sl, Value.category]) rfl (fun x C A Z => ?_)
  have K128 : ∀ (v2 : Int32) (s3 : am_S), j_X12_isDoingHere_128 v2 s3 = some z → AX x 0 0 128 [(0, .ref 248), (2, .int v2)] [] am_N (am_h s3) := by
    intro v2 s3 E
    unfold j_X12_isDoingHere_128 at E
    refine am_aload_n 128 C dX12_isDoingHere_128 rfl 0 rfl ?_
    refine as_getr 129 C fl_X12_20_11 dX12_isDoingHere_129 (by decide) sh_248 (rf_248_5 _ _) ?_
    refine am_iload_n 132 C dX12_isDoingHere_132 rfl 1 rfl ?_
    refine am_iconst 133 (nI 4) C dX12_isDoingHere_133 (by decide) ?_
    refine am_iadd 134 C dX12_isDoingHere_134 ?_
    refine am_aload_n 135 C dX12_isDoingHere_135 rfl 0 rfl ?_
    refine as_getr 136 C fl_X12_17_11 dX12_isDoingHere_136 (by decide) sh_248 (rf_248_4 _ _) ?_
    refine am_aload_n 139 C dX12_isDoingHere_139 rfl 0 rfl ?_
    refine as_geti 140 C fl_X12_138_11 dX12_isDoingHere_140 (by decide) sh_248 ?_
    obtain ⟨v4, hv4, E⟩ := am_ltE E
    refine as_nm hv4 ?_
    obtain ⟨g5, E⟩ := am_gdE E
    refine as_iald 143 C dX12_isDoingHere_143 (by decide) sh_251 g5 ?_
    obtain ⟨g6, E⟩ := am_gdE E
    obtain ⟨s7, hs7, E⟩ := am_ltE E
    refine as_iast 144 C dX12_isDoingHere_144 (by decide) sh_252 g6 hs7 ?_
    refine am_aload_n 145 C dX12_isDoingHere_145 rfl 0 rfl ?_
    refine as_getr 146 C fl_X12_23_11 dX12_isDoingHere_146 (by decide) sh_248 (rf_248_6 _ _) ?_
    refine am_aload_n 149 C dX12_isDoingHere_149 rfl 0 rfl ?_
    refine as_geti 150 C fl_X12_138_11 dX12_isDoingHere_150 (by decide) sh_248 ?_
    obtain ⟨v8, hv8, E⟩ := am_ltE E
    refine as_nm hv8 ?_
    refine am_dup2 153 C dX12_isDoingHere_153 rfl rfl ?_
    obtain ⟨g9, E⟩ := am_gdE E
    refine as_iald 154 C dX12_isDoingHere_154 (by decide) sh_253 g9 ?_
    refine am_iconst 155 (1 : Int32) C dX12_isDoingHere_155 (by decide) ?_
    refine am_iadd 156 C dX12_isDoingHere_156 ?_
    obtain ⟨g10, E⟩ := am_gdE E
    obtain ⟨s11, hs11, E⟩ := am_ltE E
    refine as_iast 157 C dX12_isDoingHere_157 (by decide) sh_253 g10 hs11 ?_
    refine am_iconst 158 (1 : Int32) C dX12_isDoingHere_158 (by decide) ?_
    replace E := Option.some.inj E
    subst E
    exact as_iret 159 C Z rfl dX12_isDoingHere_159
  have K102 : ∀ (v12 : Int32) (s13 : am_S), j_X12_isDoingHere_102 v12 s13 = some z → AX x 0 0 102 [(0, .ref 248), (2, .int v12)] [] am_N (am_h s13) := by
    intro v12 s13 E
    unfold j_X12_isDoingHere_102 at E
    refine am_aload_n 102 C dX12_isDoingHere_102 rfl 0 rfl ?_
    refine as_getr 103 C fl_X12_20_11 dX12_isDoingHere_103 (by decide) sh_248 (rf_248_5 _ _) ?_
    refine am_iload_n 106 C dX12_isDoingHere_106 rfl 1 rfl ?_
    refine am_iconst 107 (nI 3) C dX12_isDoingHere_107 (by decide) ?_
    refine am_iadd 108 C dX12_isDoingHere_108 ?_
    refine am_aload_n 109 C dX12_isDoingHere_109 rfl 0 rfl ?_
    refine as_getr 110 C fl_X12_17_11 dX12_isDoingHere_110 (by decide) sh_248 (rf_248_4 _ _) ?_
    refine am_aload_n 113 C dX12_isDoingHere_113 rfl 0 rfl ?_
    refine as_geti 114 C fl_X12_138_11 dX12_isDoingHere_114 (by decide) sh_248 ?_
    obtain ⟨v14, hv14, E⟩ := am_ltE E
    refine as_nm hv14 ?_
    obtain ⟨g15, E⟩ := am_gdE E
    refine as_iald 117 C dX12_isDoingHere_117 (by decide) sh_251 g15 ?_
    obtain ⟨g16, E⟩ := am_gdE E
    obtain ⟨s17, hs17, E⟩ := am_ltE E
    refine as_iast 118 C dX12_isDoingHere_118 (by decide) sh_252 g16 hs17 ?_
    refine am_aload_n 119 C dX12_isDoingHere_119 rfl 0 rfl ?_
    obtain ⟨v18, s19, Ec, E⟩ := am_b2E E
    refine as_callV 120 (s2 := s19) (st := []) (st2 := [.int v18]) [] C A (by decide) ml_X12_207 yc_X12_tested yv_X12_tested (t_X12_tested  s17 Ec) (by decide) sh_248 rfl rfl (Nat.le_of_ble_eq_true rfl) rfl dX12_isDoingHere_120 ?_
    refine am_if_ne 123 128 C dX12_isDoingHere_123 (by decide) (fun c20 => ?_) (fun c20 => ?_)
    · have E := am_ifF E c20
      refine am_lvs [0, 1] rfl ?_
      exact K128 _ _ E
    · have E := am_ifT E c20
      refine am_iconst 126 (0 : Int32) C dX12_isDoingHere_126 (by decide) ?_
      replace E := Option.some.inj E
      subst E
      exact as_iret 127 C Z rfl dX12_isDoingHere_127
  have K62 : ∀ (v21 : Int32) (s22 : am_S), j_X12_isDoingHere_62 p1 v21 s22 = some z → AX x 0 0 62 [(0, .ref 248), (1, .int p1), (2, .int v21)] [] am_N (am_h s22) := by
    intro v21 s22 E
    unfold j_X12_isDoingHere_62 at E
    refine am_aload_n 62 C dX12_isDoingHere_62 rfl 0 rfl ?_
    refine as_getr 63 C fl_X12_20_11 dX12_isDoingHere_63 (by decide) sh_248 (rf_248_5 _ _) ?_
    refine am_iload_n 66 C dX12_isDoingHere_66 rfl 2 rfl ?_
    refine am_iconst 67 (nI 2) C dX12_isDoingHere_67 (by decide) ?_
    refine am_iadd 68 C dX12_isDoingHere_68 ?_
    refine am_aload_n 69 C dX12_isDoingHere_69 rfl 0 rfl ?_
    refine as_getr 70 C fl_X12_17_11 dX12_isDoingHere_70 (by decide) sh_248 (rf_248_4 _ _) ?_
    refine am_aload_n 73 C dX12_isDoingHere_73 rfl 0 rfl ?_
    refine as_geti 74 C fl_X12_138_11 dX12_isDoingHere_74 (by decide) sh_248 ?_
    obtain ⟨v23, hv23, E⟩ := am_ltE E
    refine as_nm hv23 ?_
    obtain ⟨g24, E⟩ := am_gdE E
    refine as_iald 77 C dX12_isDoingHere_77 (by decide) sh_251 g24 ?_
    obtain ⟨g25, E⟩ := am_gdE E
    obtain ⟨s26, hs26, E⟩ := am_ltE E
    refine as_iast 78 C dX12_isDoingHere_78 (by decide) sh_252 g25 hs26 ?_
    refine am_aload_n 79 C dX12_isDoingHere_79 rfl 0 rfl ?_
    refine as_getr 80 C fl_X12_20_11 dX12_isDoingHere_80 (by decide) sh_248 (rf_248_5 _ _) ?_
    refine am_iload_n 83 C dX12_isDoingHere_83 rfl 2 rfl ?_
    refine am_iconst 84 (nI 3) C dX12_isDoingHere_84 (by decide) ?_
    refine am_iadd 85 C dX12_isDoingHere_85 ?_
    refine am_iconst 86 (-1 : Int32) C dX12_isDoingHere_86 (by decide) ?_
    obtain ⟨g27, E⟩ := am_gdE E
    obtain ⟨s28, hs28, E⟩ := am_ltE E
    refine as_iast 87 C dX12_isDoingHere_87 (by decide) sh_252 g27 hs28 ?_
    refine am_iload_n 88 C dX12_isDoingHere_88 rfl 1 rfl ?_
    refine am_if_eq 89 102 C dX12_isDoingHere_89 (by decide) (fun c32 => ?_) (fun c32 => ?_)
    · have E := am_ifT E c32
      refine am_lvs [0, 2] rfl ?_
      exact K102 _ _ E
    · have E := am_ifF E c32
      refine am_aload_n 92 C dX12_isDoingHere_92 rfl 0 rfl ?_
      refine am_ldc2 93 C dX12_isDoingHere_93 kl_X12_202 ?_
      obtain ⟨v29, s30, Ec, E⟩ := am_b2E E
      refine as_callV 96 (s2 := s30) (st := []) (st2 := [.int v29]) [.long (26982 : Int64)] C A (by decide) ml_X12_204 yc_X12_takesWord yv_X12_takesWord (t_X12_takesWord (26982 : Int64) s28 Ec) (by decide) sh_248 rfl rfl (Nat.le_of_ble_eq_true rfl) rfl dX12_isDoingHere_96 ?_
      refine am_if_eq 99 128 C dX12_isDoingHere_99 (by decide) (fun c31 => ?_) (fun c31 => ?_)
      · have E := am_ifT E c31
        refine am_lvs [0, 2] rfl ?_
        exact K128 _ _ E
      · have E := am_ifF E c31
        refine am_lvs [0, 2] rfl ?_
        exact K102 _ _ E
  refine am_aload_n 0 C dX12_isDoingHere_0 rfl 0 rfl ?_
  obtain ⟨s33, Ec, E⟩ := am_bdE E
  refine as_callV 1 (s2 := s33) (st := []) (st2 := []) [] C A (by decide) ml_X12_93 yc_X12_passWord yv_X12_passWord (t_X12_passWord  s0 Ec) (by decide) sh_248 rfl rfl (Nat.le_of_ble_eq_true rfl) rfl dX12_isDoingHere_1 ?_
  refine am_bipush 4 (nI 60) C dX12_isDoingHere_4 (by decide) ?_
  refine am_aload_n 6 C dX12_isDoingHere_6 rfl 0 rfl ?_
  refine as_geti 7 C fl_X12_138_11 dX12_isDoingHere_7 (by decide) sh_248 ?_
  refine am_imul 10 C dX12_isDoingHere_10 ?_
  refine am_iconst 11 (nI 5) C dX12_isDoingHere_11 (by decide) ?_
  refine am_aload_n 12 C dX12_isDoingHere_12 rfl 0 rfl ?_
  refine as_getr 13 C fl_X12_23_11 dX12_isDoingHere_13 (by decide) sh_248 (rf_248_6 _ _) ?_
  refine am_aload_n 16 C dX12_isDoingHere_16 rfl 0 rfl ?_
  refine as_geti 17 C fl_X12_138_11 dX12_isDoingHere_17 (by decide) sh_248 ?_
  obtain ⟨v34, hv34, E⟩ := am_ltE E
  refine as_nm hv34 ?_
  obtain ⟨g35, E⟩ := am_gdE E
  refine as_iald 20 C dX12_isDoingHere_20 (by decide) sh_253 g35 ?_
  refine am_imul 21 C dX12_isDoingHere_21 ?_
  refine am_iadd 22 C dX12_isDoingHere_22 ?_
  obtain ⟨v36, hv36, E⟩ := am_ltE E
  refine as_nm hv36 ?_
  refine am_istore_n 23 (lv2 := [(2, .int v36), (0, .ref 248), (1, .int p1)]) C dX12_isDoingHere_23 rfl (by decide) rfl ?_
  refine am_aload_n 24 C dX12_isDoingHere_24 rfl 1 rfl ?_
  refine as_getr 25 C fl_X12_20_11 dX12_isDoingHere_25 (by decide) sh_248 (rf_248_5 _ _) ?_
  refine am_iload_n 28 C dX12_isDoingHere_28 rfl 0 rfl ?_
  refine am_iload_n 29 C dX12_isDoingHere_29 rfl 2 rfl ?_
  obtain ⟨g37, E⟩ := am_gdE E
  obtain ⟨s38, hs38, E⟩ := am_ltE E
  refine as_iast 30 C dX12_isDoingHere_30 (by decide) sh_252 g37 hs38 ?_
  refine am_aload_n 31 C dX12_isDoingHere_31 rfl 1 rfl ?_
  refine as_getr 32 C fl_X12_20_11 dX12_isDoingHere_32 (by decide) sh_248 (rf_248_5 _ _) ?_
  refine am_iload_n 35 C dX12_isDoingHere_35 rfl 0 rfl ?_
  refine am_iconst 36 (1 : Int32) C dX12_isDoingHere_36 (by decide) ?_
  refine am_iadd 37 C dX12_isDoingHere_37 ?_
  refine am_aload_n 38 C dX12_isDoingHere_38 rfl 1 rfl ?_
  refine as_getr 39 C fl_X12_17_11 dX12_isDoingHere_39 (by decide) sh_248 (rf_248_4 _ _) ?_
  refine am_aload_n 42 C dX12_isDoingHere_42 rfl 1 rfl ?_
  refine as_geti 43 C fl_X12_138_11 dX12_isDoingHere_43 (by decide) sh_248 ?_
  obtain ⟨v39, hv39, E⟩ := am_ltE E
  refine as_nm hv39 ?_
  obtain ⟨g40, E⟩ := am_gdE E
  refine as_iald 46 C dX12_isDoingHere_46 (by decide) sh_251 g40 ?_
  obtain ⟨g41, E⟩ := am_gdE E
  obtain ⟨s42, hs42, E⟩ := am_ltE E
  refine as_iast 47 C dX12_isDoingHere_47 (by decide) sh_252 g41 hs42 ?_
  refine am_iload_n 48 C dX12_isDoingHere_48 rfl 2 rfl ?_
  refine am_iconst 49 (1 : Int32) C dX12_isDoingHere_49 (by decide) ?_
  refine am_icmp_ne 50 62 C dX12_isDoingHere_50 (by decide) (fun c46 => ?_) (fun c46 => ?_)
  · have E := am_ifF E c46
    refine am_lvs [1, 2, 0] rfl ?_
    exact K62 _ _ E
  · have E := am_ifT E c46
    refine am_aload_n 53 C dX12_isDoingHere_53 rfl 1 rfl ?_
    obtain ⟨v43, s44, Ec, E⟩ := am_b2E E
    refine as_callV 54 (s2 := s44) (st := []) (st2 := [.int v43]) [] C A (by decide) ml_X12_175 yc_X12_sum yv_X12_sum (t_X12_sum  s42 Ec) (by decide) sh_248 rfl rfl (Nat.le_of_ble_eq_true rfl) rfl dX12_isDoingHere_54 ?_
    refine am_if_ne 57 62 C dX12_isDoingHere_57 (by decide) (fun c45 => ?_) (fun c45 => ?_)
    · have E := am_ifF E c45
      refine am_lvs [1, 2, 0] rfl ?_
      exact K62 _ _ E
    · have E := am_ifT E c45
      refine am_iconst 60 (0 : Int32) C dX12_isDoingHere_60 (by decide) ?_
      replace E := Option.some.inj E
      subst E
      exact as_iret 61 C Z rfl dX12_isDoingHere_61
def f_X12_cellHere (p1 : Int32) (p2 : Int32) (p3 : Int32) (s0 : am_S) : Option (Int32 × am_S) :=
  am_b2 (f_X12_numberHere p2 p3 s0) (fun v4 s5 => am_if (v4 = 0) (some ((0 : Int32), s5)) (am_gd (¬ p1 < 0 ∧ (p1).toNatClampNeg < 270) (am_lt (as_i s5 254 (p1).toNatClampNeg (s5.1 248 10)) (fun s7 => some ((1 : Int32), s7)))))
set_option maxRecDepth 100000 in
set_option maxHeartbeats 4000000 in
theorem t_X12_cellHere (p1 : Int32) (p2 : Int32) (p3 : Int32) (s0 : am_S) {z : Int32 × am_S} (E : f_X12_cellHere p1 p2 p3 s0 = some z) : AS yX12_cellHere cX12_cellHere 4 (some .boolean) 3 [.ref 248, .int p1, .int p2, .int p3] s0 (some (.int z.1)) z.2 := by
  unfold f_X12_cellHere at E
  refine as_met (lv := [(0, .ref 248), (1, .int p1), (2, .int p2), (3, .int p3)]) (by decide +kernel) (by simp [lg_sl, Value.category]) rfl (fun x C A Z => ?_)
  refine am_aload_n 0 C dX12_cellHere_0 rfl 0 rfl ?_
  refine am_iload_n 1 C dX12_cellHere_1 rfl 2 rfl ?_
  refine am_iload_n 2 C dX12_cellHere_2 rfl 3 rfl ?_
  obtain ⟨v4, s5, Ec, E⟩ := am_b2E E
  refine as_callV 3 (s2 := s5) (st := []) (st2 := [.int v4]) [.int p2, .int p3] C A (by decide) ml_X12_159 yc_X12_numberHere yv_X12_numberHere (t_X12_numberHere p2 p3 s0 Ec) (by decide) sh_248 rfl rfl (Nat.le_of_ble_eq_true rfl) rfl dX12_cellHere_3 ?_
  refine am_if_ne 6 11 C dX12_cellHere_6 (by decide) (fun c8 => ?_) (fun c8 => ?_)
  · have E := am_ifF E c8
    refine am_aload_n 11 C dX12_cellHere_11 rfl 0 rfl ?_
    refine as_getr 12 C fl_X12_26_11 dX12_cellHere_12 (by decide) sh_248 (rf_248_7 _ _) ?_
    refine am_iload_n 15 C dX12_cellHere_15 rfl 1 rfl ?_
    refine am_aload_n 16 C dX12_cellHere_16 rfl 0 rfl ?_
    refine as_geti 17 C fl_X12_103_11 dX12_cellHere_17 (by decide) sh_248 ?_
    obtain ⟨g6, E⟩ := am_gdE E
    obtain ⟨s7, hs7, E⟩ := am_ltE E
    refine as_iast 20 C dX12_cellHere_20 (by decide) sh_254 g6 hs7 ?_
    refine am_iconst 21 (1 : Int32) C dX12_cellHere_21 (by decide) ?_
    replace E := Option.some.inj E
    subst E
    exact as_iret 22 C Z rfl dX12_cellHere_22
  · have E := am_ifT E c8
    refine am_iconst 9 (0 : Int32) C dX12_cellHere_9 (by decide) ?_
    replace E := Option.some.inj E
    subst E
    exact as_iret 10 C Z rfl dX12_cellHere_10
def f_X12_otherHere (p1 : Int32) (p2 : Int32) (p3 : Int32) (s0 : am_S) : Option (Int32 × am_S) :=
  am_b2 (f_X12_see s0) (fun v4 s5 => am_lt (s5.1 248 8) (fun v6 => am_b2 (f_X12_cellHere p1 (0 : Int32) p3 s5) (fun v7 s8 => am_if (v7 = 0) (some ((0 : Int32), s8)) (am_gd (¬ p1 < 0 ∧ (p1).toNatClampNeg < 270) (am_gd (¬ p2 < 0 ∧ (p2).toNatClampNeg < 270) (am_if ((s8.1 254 (p1).toNatClampNeg) = (s8.1 254 (p2).toNatClampNeg)) (am_b2 (f_X12_fails (1 : Int32) v6 s8) (fun v11 s12 => am_if (v11 = 0) (some ((0 : Int32), s12)) (some ((1 : Int32), s12)))) (some ((1 : Int32), s8))))))))
set_option maxRecDepth 100000 in
set_option maxHeartbeats 4000000 in
theorem t_X12_otherHere (p1 : Int32) (p2 : Int32) (p3 : Int32) (s0 : am_S) {z : Int32 × am_S} (E : f_X12_otherHere p1 p2 p3 s0 = some z) : AS yX12_otherHere cX12_otherHere 5 (some .boolean) 4 [.ref 248, .int p1, .int p2, .int p3] s0 (some (.int z.1)) z.2 := by
  unfold f_X12_otherHere at E
  refine as_met (lv := [(0, .ref 248), (1, .int p1), (2, .int p2), (3, .int p3)]) (by decide +kernel) (by simp [lg_sl, Value.category]) rfl (fun x C A Z => ?_)
  refine am_aload_n 0 C dX12_otherHere_0 rfl 0 rfl ?_
  obtain ⟨v4, s5, Ec, E⟩ := am_b2E E
  refine as_callV 1 (s2 := s5) (st := []) (st2 := [.int v4]) [] C A (by decide) ml_X12_81 yc_X12_see yv_X12_see (t_X12_see  s0 Ec) (by decide) sh_248 rfl rfl (Nat.le_of_ble_eq_true rfl) rfl dX12_otherHere_1 ?_
  refine am_pop 4 C dX12_otherHere_4 rfl ?_
  refine am_aload_n 5 C dX12_otherHere_5 rfl 0 rfl ?_
  refine as_geti 6 C fl_X12_78_11 dX12_otherHere_6 (by decide) sh_248 ?_
  obtain ⟨v6, hv6, E⟩ := am_ltE E
  refine as_nm hv6 ?_
  refine am_istore 9 (lv2 := [(4, .int v6), (0, .ref 248), (1, .int p1), (2, .int p2), (3, .int p3)]) C dX12_otherHere_9 (by decide) rfl ?_
  refine am_aload_n 11 C dX12_otherHere_11 rfl 1 rfl ?_
  refine am_iload_n 12 C dX12_otherHere_12 rfl 2 rfl ?_
  refine am_iconst 13 (0 : Int32) C dX12_otherHere_13 (by decide) ?_
  refine am_iload_n 14 C dX12_otherHere_14 rfl 4 rfl ?_
  obtain ⟨v7, s8, Ec, E⟩ := am_b2E E
  refine as_callV 15 (s2 := s8) (st := []) (st2 := [.int v7]) [.int p1, .int (0 : Int32), .int p3] C A (by decide) ml_X12_210 yc_X12_cellHere yv_X12_cellHere (t_X12_cellHere p1 (0 : Int32) p3 s5 Ec) (by decide) sh_248 rfl rfl (Nat.le_of_ble_eq_true rfl) rfl dX12_otherHere_15 ?_
  refine am_if_eq 18 50 C dX12_otherHere_18 (by decide) (fun c15 => ?_) (fun c15 => ?_)
  · have E := am_ifT E c15
    refine am_iconst 50 (0 : Int32) C dX12_otherHere_50 (by decide) ?_
    replace E := Option.some.inj E
    subst E
    exact as_iret 51 C Z rfl dX12_otherHere_51
  · have E := am_ifF E c15
    refine am_aload_n 21 C dX12_otherHere_21 rfl 1 rfl ?_
    refine as_getr 22 C fl_X12_26_11 dX12_otherHere_22 (by decide) sh_248 (rf_248_7 _ _) ?_
    refine am_iload_n 25 C dX12_otherHere_25 rfl 2 rfl ?_
    obtain ⟨g9, E⟩ := am_gdE E
    refine as_iald 26 C dX12_otherHere_26 (by decide) sh_254 g9 ?_
    refine am_aload_n 27 C dX12_otherHere_27 rfl 1 rfl ?_
    refine as_getr 28 C fl_X12_26_11 dX12_otherHere_28 (by decide) sh_248 (rf_248_7 _ _) ?_
    refine am_iload_n 31 C dX12_otherHere_31 rfl 3 rfl ?_
    obtain ⟨g10, E⟩ := am_gdE E
    refine as_iald 32 C dX12_otherHere_32 (by decide) sh_254 g10 ?_
    refine am_icmp_ne 33 46 C dX12_otherHere_33 (by decide) (fun c14 => ?_) (fun c14 => ?_)
    · have E := am_ifF E c14
      refine am_iconst 46 (1 : Int32) C dX12_otherHere_46 (by decide) ?_
      refine am_goto 47 51 C dX12_otherHere_47 (by decide) ?_
      replace E := Option.some.inj E
      subst E
      exact as_iret 51 C Z rfl dX12_otherHere_51
    · have E := am_ifT E c14
      refine am_aload_n 36 C dX12_otherHere_36 rfl 1 rfl ?_
      refine am_iconst 37 (1 : Int32) C dX12_otherHere_37 (by decide) ?_
      refine am_iload 38 C dX12_otherHere_38 0 rfl ?_
      obtain ⟨v11, s12, Ec, E⟩ := am_b2E E
      refine as_callV 40 (s2 := s12) (st := []) (st2 := [.int v11]) [.int (1 : Int32), .int v6] C A (by decide) ml_X12_99 yc_X12_fails yv_X12_fails (t_X12_fails (1 : Int32) v6 s8 Ec) (by decide) sh_248 rfl rfl (Nat.le_of_ble_eq_true rfl) rfl dX12_otherHere_40 ?_
      refine am_if_eq 43 50 C dX12_otherHere_43 (by decide) (fun c13 => ?_) (fun c13 => ?_)
      · have E := am_ifT E c13
        refine am_iconst 50 (0 : Int32) C dX12_otherHere_50 (by decide) ?_
        replace E := Option.some.inj E
        subst E
        exact as_iret 51 C Z rfl dX12_otherHere_51
      · have E := am_ifF E c13
        refine am_iconst 46 (1 : Int32) C dX12_otherHere_46 (by decide) ?_
        refine am_goto 47 51 C dX12_otherHere_47 (by decide) ?_
        replace E := Option.some.inj E
        subst E
        exact as_iret 51 C Z rfl dX12_otherHere_51
def b_X12_areFactsHere_54 (v8 : Int32) (s9 : am_S) : Option ((Int32 × am_S) ⊕ (Int32 × am_S)) :=
  am_if ((nI 49) ≤ v8) (some (Sum.inr ((1 : Int32), s9))) (am_gd (¬ ((nI 130) + v8) < 0 ∧ (((nI 130) + v8)).toNatClampNeg < 270) (am_lt (as_i s9 254 (((nI 130) + v8)).toNatClampNeg (nI 5)) (fun s11 => am_lt (v8 + (1 : Int32)) (fun v12 => some (Sum.inl (v12, s11))))))
def f_X12_areFactsHere (p1 : Int32) (s0 : am_S) : Option (Int32 × am_S) :=
  am_if ((s0.1 254 0) ≤ 0) (am_bd (f_X12_passWord s0) (fun s2 => am_b2 (f_X12_cellHere (0 : Int32) (1 : Int32) (nI 8) s2) (fun v3 s4 => am_if (v3 = 0) (some ((0 : Int32), s4)) (am_b2 (f_X12_cellHere (1 : Int32) (0 : Int32) (((1 : Int32) <<< ((s4.1 254 0) &&& 31)) - (1 : Int32)) s4) (fun v5 s6 => am_if (v5 = 0) (some ((0 : Int32), s6)) (am_lp (fun (q : Int32 × am_S) => b_X12_areFactsHere_54 q.1 q.2) am_F ((0 : Int32), s6))))))) (am_b2 (f_X12_fails (nI 4) p1 s0) (fun v16 s17 => am_gd (v16 = 0 ∨ v16 = 1) (some (v16, s17))))
set_option maxRecDepth 100000 in
set_option maxHeartbeats 4000000 in
theorem t_X12_areFactsHere (p1 : Int32) (s0 : am_S) {z : Int32 × am_S} (E : f_X12_areFactsHere p1 s0 = some z) : AS yX12_areFactsHere cX12_areFactsHere 3 (some .boolean) 4 [.ref 248, .int p1] s0 (some (.int z.1)) z.2 := by
  unfold f_X12_areFactsHere at E
  refine as_met (lv := [(0, .ref 248), (1, .int p1)]) (by decide +kernel) (by simp [lg_sl, Value.category]) rfl (fun x C A Z => ?_)
  refine am_aload_n 0 C dX12_areFactsHere_0 rfl 0 rfl ?_
  refine as_getr 1 C fl_X12_26_11 dX12_areFactsHere_1 (by decide) sh_248 (rf_248_7 _ _) ?_
  refine am_iconst 4 (0 : Int32) C dX12_areFactsHere_4 (by decide) ?_
  refine as_ialdK 5 0 C dX12_areFactsHere_5 (by decide) sh_254 (by decide) (by decide) ?_
  refine am_if_le 6 16 C dX12_areFactsHere_6 (by decide) (fun c19 => ?_) (fun c19 => ?_)
  · have E := am_ifT E c19
    refine am_aload_n 16 C dX12_areFactsHere_16 rfl 0 rfl ?_
    obtain ⟨s2, Ec, E⟩ := am_bdE E
    refine as_callV 17 (s2 := s2) (st := []) (st2 := []) [] C A (by decide) ml_X12_93 yc_X12_passWord yv_X12_passWord (t_X12_passWord  s0 Ec) (by decide) sh_248 rfl rfl (Nat.le_of_ble_eq_true rfl) rfl dX12_areFactsHere_17 ?_
    refine am_aload_n 20 C dX12_areFactsHere_20 rfl 0 rfl ?_
    refine am_iconst 21 (0 : Int32) C dX12_areFactsHere_21 (by decide) ?_
    refine am_iconst 22 (1 : Int32) C dX12_areFactsHere_22 (by decide) ?_
    refine am_bipush 23 (nI 8) C dX12_areFactsHere_23 (by decide) ?_
    obtain ⟨v3, s4, Ec, E⟩ := am_b2E E
    refine as_callV 25 (s2 := s4) (st := []) (st2 := [.int v3]) [.int (0 : Int32), .int (1 : Int32), .int (nI 8)] C A (by decide) ml_X12_210 yc_X12_cellHere yv_X12_cellHere (t_X12_cellHere (0 : Int32) (1 : Int32) (nI 8) s2 Ec) (by decide) sh_248 rfl rfl (Nat.le_of_ble_eq_true rfl) rfl dX12_areFactsHere_25 ?_
    refine am_if_eq 28 50 C dX12_areFactsHere_28 (by decide) (fun c15 => ?_) (fun c15 => ?_)
    · have E := am_ifT E c15
      refine am_iconst 50 (0 : Int32) C dX12_areFactsHere_50 (by decide) ?_
      replace E := Option.some.inj E
      subst E
      exact as_iret 51 C Z rfl dX12_areFactsHere_51
    · have E := am_ifF E c15
      refine am_aload_n 31 C dX12_areFactsHere_31 rfl 0 rfl ?_
      refine am_iconst 32 (1 : Int32) C dX12_areFactsHere_32 (by decide) ?_
      refine am_iconst 33 (0 : Int32) C dX12_areFactsHere_33 (by decide) ?_
      refine am_iconst 34 (1 : Int32) C dX12_areFactsHere_34 (by decide) ?_
      refine am_aload_n 35 C dX12_areFactsHere_35 rfl 0 rfl ?_
      refine as_getr 36 C fl_X12_26_11 dX12_areFactsHere_36 (by decide) sh_248 (rf_248_7 _ _) ?_
      refine am_iconst 39 (0 : Int32) C dX12_areFactsHere_39 (by decide) ?_
      refine as_ialdK 40 0 C dX12_areFactsHere_40 (by decide) sh_254 (by decide) (by decide) ?_
      refine am_ishl 41 C dX12_areFactsHere_41 ?_
      refine am_iconst 42 (1 : Int32) C dX12_areFactsHere_42 (by decide) ?_
      refine am_isub 43 C dX12_areFactsHere_43 ?_
      obtain ⟨v5, s6, Ec, E⟩ := am_b2E E
      refine as_callV 44 (s2 := s6) (st := []) (st2 := [.int v5]) [.int (1 : Int32), .int (0 : Int32), .int (((1 : Int32) <<< ((s4.1 254 0) &&& 31)) - (1 : Int32))] C A (by decide) ml_X12_210 yc_X12_cellHere yv_X12_cellHere (t_X12_cellHere (1 : Int32) (0 : Int32) (((1 : Int32) <<< ((s4.1 254 0) &&& 31)) - (1 : Int32)) s4 Ec) (by decide) sh_248 rfl rfl (Nat.le_of_ble_eq_true rfl) rfl dX12_areFactsHere_44 ?_
      refine am_if_ne 47 52 C dX12_areFactsHere_47 (by decide) (fun c14 => ?_) (fun c14 => ?_)
      · have E := am_ifF E c14
        refine am_iconst 52 (0 : Int32) C dX12_areFactsHere_52 (by decide) ?_
        refine am_istore_n 53 (lv2 := [(2, .int (0 : Int32)), (0, .ref 248), (1, .int p1)]) C dX12_areFactsHere_53 rfl (by decide) rfl ?_
        have LP7 : ∀ (n : Nat) (v8 : Int32) (s9 : am_S), am_lp (fun (q : Int32 × am_S) => b_X12_areFactsHere_54 q.1 q.2) n (v8, s9) = some z → AX x 0 0 54 [(0, .ref 248), (2, .int v8)] [] am_N (am_h s9) := by
          intro n
          induction n with
          | zero => intro v8 s9 E; exact (am_lp0 E).elim
          | succ n ih7 =>
            intro v8 s9 E
            obtain ⟨r7, E, Er7⟩ := am_lpE E
            replace E : b_X12_areFactsHere_54 v8 s9 = some r7 := E
            unfold b_X12_areFactsHere_54 at E
            refine am_iload_n 54 C dX12_areFactsHere_54 rfl 1 rfl ?_
            refine am_bipush 55 (nI 49) C dX12_areFactsHere_55 (by decide) ?_
            refine am_icmp_ge 57 77 C dX12_areFactsHere_57 (by decide) (fun c13 => ?_) (fun c13 => ?_)
            · have E := am_ifT E c13
              refine am_iconst 77 (1 : Int32) C dX12_areFactsHere_77 (by decide) ?_
              replace E := Option.some.inj E
              replace E := am_exR E Er7
              subst E
              exact as_iret 78 C Z rfl dX12_areFactsHere_78
            · have E := am_ifF E c13
              refine am_aload_n 60 C dX12_areFactsHere_60 rfl 0 rfl ?_
              refine as_getr 61 C fl_X12_26_11 dX12_areFactsHere_61 (by decide) sh_248 (rf_248_7 _ _) ?_
              refine am_sipush 64 (nI 130) C dX12_areFactsHere_64 (by decide) ?_
              refine am_iload_n 67 C dX12_areFactsHere_67 rfl 1 rfl ?_
              refine am_iadd 68 C dX12_areFactsHere_68 ?_
              refine am_iconst 69 (nI 5) C dX12_areFactsHere_69 (by decide) ?_
              obtain ⟨g10, E⟩ := am_gdE E
              obtain ⟨s11, hs11, E⟩ := am_ltE E
              refine as_iast 70 C dX12_areFactsHere_70 (by decide) sh_254 g10 hs11 ?_
              obtain ⟨v12, hv12, E⟩ := am_ltE E
              refine as_iinc 71 (q := (1 : Int32)) (lv2 := [(2, .int v12), (0, .ref 248)]) C dX12_areFactsHere_71 1 rfl (by decide) hv12 (by decide) rfl ?_
              refine am_goto 74 54 C dX12_areFactsHere_74 (by decide) ?_
              replace E := Option.some.inj E
              replace E := am_exL E Er7
              refine am_lvs [1, 0] rfl ?_
              exact ih7 _ _ E
        refine am_lvs [1, 0] rfl ?_
        exact LP7 am_F _ _ E
      · have E := am_ifT E c14
        refine am_iconst 50 (0 : Int32) C dX12_areFactsHere_50 (by decide) ?_
        replace E := Option.some.inj E
        subst E
        exact as_iret 51 C Z rfl dX12_areFactsHere_51
  · have E := am_ifF E c19
    refine am_aload_n 9 C dX12_areFactsHere_9 rfl 0 rfl ?_
    refine am_iconst 10 (nI 4) C dX12_areFactsHere_10 (by decide) ?_
    refine am_iload_n 11 C dX12_areFactsHere_11 rfl 1 rfl ?_
    obtain ⟨v16, s17, Ec, E⟩ := am_b2E E
    refine as_callV 12 (s2 := s17) (st := []) (st2 := [.int v16]) [.int (nI 4), .int p1] C A (by decide) ml_X12_99 yc_X12_fails yv_X12_fails (t_X12_fails (nI 4) p1 s0 Ec) (by decide) sh_248 rfl rfl (Nat.le_of_ble_eq_true rfl) rfl dX12_areFactsHere_12 ?_
    obtain ⟨g18, E⟩ := am_gdE E
    replace E := Option.some.inj E
    subst E
    exact as_iret 15 C Z (am_nb g18) dX12_areFactsHere_15
def j_X12_isPersonHere_137 (s2 : am_S) : Option (Int32 × am_S) :=
  am_gd (¬ ((nI 123) + (s2.1 254 2)) < 0 ∧ (((nI 123) + (s2.1 254 2))).toNatClampNeg < 270) (am_lt (as_i s2 254 (((nI 123) + (s2.1 254 2))).toNatClampNeg (0 : Int32)) (fun s4 => am_lt (as_i s4 254 2 ((s4.1 254 2) + (1 : Int32))) (fun s5 => some ((1 : Int32), s5))))
def j_X12_isPersonHere_97 (v12 : Int32) (v13 : Int32) (v14 : Int32) (v15 : Int32) (s16 : am_S) : Option ((Int32 × am_S) ⊕ (Int32 × am_S)) :=
  am_gd (¬ v13 < 0 ∧ (v13).toNatClampNeg < 270) (am_lt (as_i s16 254 (v13).toNatClampNeg v12) (fun s18 => am_if (v15 = 0) (am_gd (¬ ((((nI 11) + ((nI 16) * (s18.1 254 2))) + ((nI 2) * v14)) + (1 : Int32)) < 0 ∧ (((((nI 11) + ((nI 16) * (s18.1 254 2))) + ((nI 2) * v14)) + (1 : Int32))).toNatClampNeg < 270) (am_lt (as_i s18 254 (((((nI 11) + ((nI 16) * (s18.1 254 2))) + ((nI 2) * v14)) + (1 : Int32))).toNatClampNeg (0 : Int32)) (fun s20 => am_lt (v14 + (1 : Int32)) (fun v21 => some (Sum.inl (v21, s20)))))) (am_gd (¬ ((((nI 11) + ((nI 16) * (s18.1 254 2))) + ((nI 2) * v14)) + (1 : Int32)) < 0 ∧ (((((nI 11) + ((nI 16) * (s18.1 254 2))) + ((nI 2) * v14)) + (1 : Int32))).toNatClampNeg < 270) (am_lt (as_i s18 254 (((((nI 11) + ((nI 16) * (s18.1 254 2))) + ((nI 2) * v14)) + (1 : Int32))).toNatClampNeg (nI 10)) (fun s23 => am_lt (v14 + (1 : Int32)) (fun v24 => some (Sum.inl (v24, s23))))))))
def b_X12_isPersonHere_44 (v10 : Int32) (s11 : am_S) : Option ((Int32 × am_S) ⊕ (Int32 × am_S)) :=
  am_if ((nI 8) ≤ v10) (am_bd (j_X12_isPersonHere_137 s11) (fun e26 => some (Sum.inr e26))) (am_bd (f_X12_isOf (s11.1 248 10) v10) (fun v27 => am_if (v27 = 0) (j_X12_isPersonHere_97 (nI 2) (((nI 11) + ((nI 16) * (s11.1 254 2))) + ((nI 2) * v10)) v10 v27 s11) (j_X12_isPersonHere_97 (((s11.1 254 1) >>> (v10 &&& 31)) &&& (1 : Int32)) (((nI 11) + ((nI 16) * (s11.1 254 2))) + ((nI 2) * v10)) v10 v27 s11)))
def f_X12_isPersonHere (p1 : Int32) (s0 : am_S) : Option (Int32 × am_S) :=
  am_if ((s0.1 254 2) = (nI 7)) (am_b2 (f_X12_fails (nI 4) p1 s0) (fun v31 s32 => am_gd (v31 = 0 ∨ v31 = 1) (some (v31, s32)))) (am_bd (f_X12_passWord s0) (fun s6 => am_b2 (f_X12_numberHere (0 : Int32) (((1 : Int32) <<< ((s6.1 254 0) &&& 31)) - (1 : Int32)) s6) (fun v7 s8 => am_if (v7 = 0) (some ((0 : Int32), s8)) (am_lp (fun (q : Int32 × am_S) => b_X12_isPersonHere_44 q.1 q.2) am_F ((0 : Int32), s8)))))
set_option maxRecDepth 100000 in
set_option maxHeartbeats 4000000 in
theorem t_X12_isPersonHere (p1 : Int32) (s0 : am_S) {z : Int32 × am_S} (E : f_X12_isPersonHere p1 s0 = some z) : AS yX12_isPersonHere cX12_isPersonHere 4 (some .boolean) 3 [.ref 248, .int p1] s0 (some (.int z.1)) z.2 := by
  unfold f_X12_isPersonHere at E
  refine as_met (lv := [(0, .ref 248), (1, .int p1)]) (by decide +kernel) (by simp [lg_sl, Value.category]) rfl (fun x C A Z => ?_)
  have K137 : ∀ (s2 : am_S), j_X12_isPersonHere_137 s2 = some z → AX x 0 0 137 [(0, .ref 248)] [] am_N (am_h s2) := by
    intro s2 E
    unfold j_X12_isPersonHere_137 at E
    refine am_aload_n 137 C dX12_isPersonHere_137 rfl 0 rfl ?_
    refine as_getr 138 C fl_X12_26_11 dX12_isPersonHere_138 (by decide) sh_248 (rf_248_7 _ _) ?_
    refine am_bipush 141 (nI 123) C dX12_isPersonHere_141 (by decide) ?_
    refine am_aload_n 143 C dX12_isPersonHere_143 rfl 0 rfl ?_
    refine as_getr 144 C fl_X12_26_11 dX12_isPersonHere_144 (by decide) sh_248 (rf_248_7 _ _) ?_
    refine am_iconst 147 (nI 2) C dX12_isPersonHere_147 (by decide) ?_
    refine as_ialdK 148 2 C dX12_isPersonHere_148 (by decide) sh_254 (by decide) (by decide) ?_
    refine am_iadd 149 C dX12_isPersonHere_149 ?_
    refine am_iconst 150 (0 : Int32) C dX12_isPersonHere_150 (by decide) ?_
    obtain ⟨g3, E⟩ := am_gdE E
    obtain ⟨s4, hs4, E⟩ := am_ltE E
    refine as_iast 151 C dX12_isPersonHere_151 (by decide) sh_254 g3 hs4 ?_
    refine am_aload_n 152 C dX12_isPersonHere_152 rfl 0 rfl ?_
    refine as_getr 153 C fl_X12_26_11 dX12_isPersonHere_153 (by decide) sh_248 (rf_248_7 _ _) ?_
    refine am_iconst 156 (nI 2) C dX12_isPersonHere_156 (by decide) ?_
    refine am_dup2 157 C dX12_isPersonHere_157 rfl rfl ?_
    refine as_ialdK 158 2 C dX12_isPersonHere_158 (by decide) sh_254 (by decide) (by decide) ?_
    refine am_iconst 159 (1 : Int32) C dX12_isPersonHere_159 (by decide) ?_
    refine am_iadd 160 C dX12_isPersonHere_160 ?_
    obtain ⟨s5, hs5, E⟩ := am_ltE E
    refine as_iastK 161 2 C dX12_isPersonHere_161 (by decide) sh_254 (by decide) (by decide) hs5 ?_
    refine am_iconst 162 (1 : Int32) C dX12_isPersonHere_162 (by decide) ?_
    replace E := Option.some.inj E
    subst E
    exact as_iret 163 C Z rfl dX12_isPersonHere_163
  refine am_aload_n 0 C dX12_isPersonHere_0 rfl 0 rfl ?_
  refine as_getr 1 C fl_X12_26_11 dX12_isPersonHere_1 (by decide) sh_248 (rf_248_7 _ _) ?_
  refine am_iconst 4 (nI 2) C dX12_isPersonHere_4 (by decide) ?_
  refine as_ialdK 5 2 C dX12_isPersonHere_5 (by decide) sh_254 (by decide) (by decide) ?_
  refine am_bipush 6 (nI 7) C dX12_isPersonHere_6 (by decide) ?_
  refine am_icmp_ne 8 18 C dX12_isPersonHere_8 (by decide) (fun c34 => ?_) (fun c34 => ?_)
  · have E := am_ifF E c34
    refine am_aload_n 18 C dX12_isPersonHere_18 rfl 0 rfl ?_
    obtain ⟨s6, Ec, E⟩ := am_bdE E
    refine as_callV 19 (s2 := s6) (st := []) (st2 := []) [] C A (by decide) ml_X12_93 yc_X12_passWord yv_X12_passWord (t_X12_passWord  s0 Ec) (by decide) sh_248 rfl rfl (Nat.le_of_ble_eq_true rfl) rfl dX12_isPersonHere_19 ?_
    refine am_aload_n 22 C dX12_isPersonHere_22 rfl 0 rfl ?_
    refine am_iconst 23 (0 : Int32) C dX12_isPersonHere_23 (by decide) ?_
    refine am_iconst 24 (1 : Int32) C dX12_isPersonHere_24 (by decide) ?_
    refine am_aload_n 25 C dX12_isPersonHere_25 rfl 0 rfl ?_
    refine as_getr 26 C fl_X12_26_11 dX12_isPersonHere_26 (by decide) sh_248 (rf_248_7 _ _) ?_
    refine am_iconst 29 (0 : Int32) C dX12_isPersonHere_29 (by decide) ?_
    refine as_ialdK 30 0 C dX12_isPersonHere_30 (by decide) sh_254 (by decide) (by decide) ?_
    refine am_ishl 31 C dX12_isPersonHere_31 ?_
    refine am_iconst 32 (1 : Int32) C dX12_isPersonHere_32 (by decide) ?_
    refine am_isub 33 C dX12_isPersonHere_33 ?_
    obtain ⟨v7, s8, Ec, E⟩ := am_b2E E
    refine as_callV 34 (s2 := s8) (st := []) (st2 := [.int v7]) [.int (0 : Int32), .int (((1 : Int32) <<< ((s6.1 254 0) &&& 31)) - (1 : Int32))] C A (by decide) ml_X12_159 yc_X12_numberHere yv_X12_numberHere (t_X12_numberHere (0 : Int32) (((1 : Int32) <<< ((s6.1 254 0) &&& 31)) - (1 : Int32)) s6 Ec) (by decide) sh_248 rfl rfl (Nat.le_of_ble_eq_true rfl) rfl dX12_isPersonHere_34 ?_
    refine am_if_ne 37 42 C dX12_isPersonHere_37 (by decide) (fun c30 => ?_) (fun c30 => ?_)
    · have E := am_ifF E c30
      refine am_iconst 42 (0 : Int32) C dX12_isPersonHere_42 (by decide) ?_
      refine am_istore_n 43 (lv2 := [(2, .int (0 : Int32)), (0, .ref 248), (1, .int p1)]) C dX12_isPersonHere_43 rfl (by decide) rfl ?_
      have LP9 : ∀ (n : Nat) (v10 : Int32) (s11 : am_S), am_lp (fun (q : Int32 × am_S) => b_X12_isPersonHere_44 q.1 q.2) n (v10, s11) = some z → AX x 0 0 44 [(0, .ref 248), (2, .int v10)] [] am_N (am_h s11) := by
        intro n
        induction n with
        | zero => intro v10 s11 E; exact (am_lp0 E).elim
        | succ n ih9 =>
          intro v10 s11 E
          obtain ⟨r9, E, Er9⟩ := am_lpE E
          replace E : b_X12_isPersonHere_44 v10 s11 = some r9 := E
          unfold b_X12_isPersonHere_44 at E
          have K97 : ∀ (v12 : Int32) (v13 : Int32) (v14 : Int32) (v15 : Int32) (s16 : am_S), j_X12_isPersonHere_97 v12 v13 v14 v15 s16 = some r9 → AX x 0 0 97 [(0, .ref 248), (2, .int v14), (3, .int v15)] [.int v12, .int v13, .ref 254] am_N (am_h s16) := by
            intro v12 v13 v14 v15 s16 E
            unfold j_X12_isPersonHere_97 at E
            obtain ⟨g17, E⟩ := am_gdE E
            obtain ⟨s18, hs18, E⟩ := am_ltE E
            refine as_iast 97 C dX12_isPersonHere_97 (by decide) sh_254 g17 hs18 ?_
            refine am_aload_n 98 C dX12_isPersonHere_98 rfl 0 rfl ?_
            refine as_getr 99 C fl_X12_26_11 dX12_isPersonHere_99 (by decide) sh_248 (rf_248_7 _ _) ?_
            refine am_bipush 102 (nI 11) C dX12_isPersonHere_102 (by decide) ?_
            refine am_bipush 104 (nI 16) C dX12_isPersonHere_104 (by decide) ?_
            refine am_aload_n 106 C dX12_isPersonHere_106 rfl 0 rfl ?_
            refine as_getr 107 C fl_X12_26_11 dX12_isPersonHere_107 (by decide) sh_248 (rf_248_7 _ _) ?_
            refine am_iconst 110 (nI 2) C dX12_isPersonHere_110 (by decide) ?_
            refine as_ialdK 111 2 C dX12_isPersonHere_111 (by decide) sh_254 (by decide) (by decide) ?_
            refine am_imul 112 C dX12_isPersonHere_112 ?_
            refine am_iadd 113 C dX12_isPersonHere_113 ?_
            refine am_iconst 114 (nI 2) C dX12_isPersonHere_114 (by decide) ?_
            refine am_iload_n 115 C dX12_isPersonHere_115 rfl 1 rfl ?_
            refine am_imul 116 C dX12_isPersonHere_116 ?_
            refine am_iadd 117 C dX12_isPersonHere_117 ?_
            refine am_iconst 118 (1 : Int32) C dX12_isPersonHere_118 (by decide) ?_
            refine am_iadd 119 C dX12_isPersonHere_119 ?_
            refine am_iload_n 120 C dX12_isPersonHere_120 rfl 2 rfl ?_
            refine am_if_eq 121 129 C dX12_isPersonHere_121 (by decide) (fun c25 => ?_) (fun c25 => ?_)
            · have E := am_ifT E c25
              refine am_iconst 129 (0 : Int32) C dX12_isPersonHere_129 (by decide) ?_
              obtain ⟨g19, E⟩ := am_gdE E
              obtain ⟨s20, hs20, E⟩ := am_ltE E
              refine as_iast 130 C dX12_isPersonHere_130 (by decide) sh_254 g19 hs20 ?_
              obtain ⟨v21, hv21, E⟩ := am_ltE E
              refine as_iinc 131 (q := (1 : Int32)) (lv2 := [(2, .int v21), (0, .ref 248), (3, .int v15)]) C dX12_isPersonHere_131 1 rfl (by decide) hv21 (by decide) rfl ?_
              refine am_goto 134 44 C dX12_isPersonHere_134 (by decide) ?_
              replace E := Option.some.inj E
              replace E := am_exL E Er9
              refine am_lvs [1, 0] rfl ?_
              exact ih9 _ _ E
            · have E := am_ifF E c25
              refine am_bipush 124 (nI 10) C dX12_isPersonHere_124 (by decide) ?_
              refine am_goto 126 130 C dX12_isPersonHere_126 (by decide) ?_
              obtain ⟨g22, E⟩ := am_gdE E
              obtain ⟨s23, hs23, E⟩ := am_ltE E
              refine as_iast 130 C dX12_isPersonHere_130 (by decide) sh_254 g22 hs23 ?_
              obtain ⟨v24, hv24, E⟩ := am_ltE E
              refine as_iinc 131 (q := (1 : Int32)) (lv2 := [(2, .int v24), (0, .ref 248), (3, .int v15)]) C dX12_isPersonHere_131 1 rfl (by decide) hv24 (by decide) rfl ?_
              refine am_goto 134 44 C dX12_isPersonHere_134 (by decide) ?_
              replace E := Option.some.inj E
              replace E := am_exL E Er9
              refine am_lvs [1, 0] rfl ?_
              exact ih9 _ _ E
          refine am_iload_n 44 C dX12_isPersonHere_44 rfl 1 rfl ?_
          refine am_bipush 45 (nI 8) C dX12_isPersonHere_45 (by decide) ?_
          refine am_icmp_ge 47 137 C dX12_isPersonHere_47 (by decide) (fun c29 => ?_) (fun c29 => ?_)
          · have E := am_ifT E c29
            obtain ⟨e26, E, E2⟩ := am_bdE E
            replace E2 := Option.some.inj E2
            replace E2 := am_exR E2 Er9
            rw [E2] at E
            refine am_lvs [0] rfl ?_
            exact K137 _ E
          · have E := am_ifF E c29
            refine am_aload_n 50 C dX12_isPersonHere_50 rfl 0 rfl ?_
            refine as_geti 51 C fl_X12_103_11 dX12_isPersonHere_51 (by decide) sh_248 ?_
            refine am_iload_n 54 C dX12_isPersonHere_54 rfl 1 rfl ?_
            obtain ⟨v27, Ec, E⟩ := am_bdE E
            refine as_callS 55 (s2 := s11) (st := []) (st2 := [.int v27]) [.int (s11.1 248 10), .int v10] C A (by decide) ml_X12_214 yc_X12_isOf ys_X12_isOf (t_X12_isOf (s11.1 248 10) v10 s11 Ec) rfl rfl (Nat.le_of_ble_eq_true rfl) rfl dX12_isPersonHere_55 ?_
            refine am_istore_n 58 (lv2 := [(3, .int v27), (0, .ref 248), (2, .int v10)]) C dX12_isPersonHere_58 rfl (by decide) rfl ?_
            refine am_aload_n 59 C dX12_isPersonHere_59 rfl 1 rfl ?_
            refine as_getr 60 C fl_X12_26_11 dX12_isPersonHere_60 (by decide) sh_248 (rf_248_7 _ _) ?_
            refine am_bipush 63 (nI 11) C dX12_isPersonHere_63 (by decide) ?_
            refine am_bipush 65 (nI 16) C dX12_isPersonHere_65 (by decide) ?_
            refine am_aload_n 67 C dX12_isPersonHere_67 rfl 1 rfl ?_
            refine as_getr 68 C fl_X12_26_11 dX12_isPersonHere_68 (by decide) sh_248 (rf_248_7 _ _) ?_
            refine am_iconst 71 (nI 2) C dX12_isPersonHere_71 (by decide) ?_
            refine as_ialdK 72 2 C dX12_isPersonHere_72 (by decide) sh_254 (by decide) (by decide) ?_
            refine am_imul 73 C dX12_isPersonHere_73 ?_
            refine am_iadd 74 C dX12_isPersonHere_74 ?_
            refine am_iconst 75 (nI 2) C dX12_isPersonHere_75 (by decide) ?_
            refine am_iload_n 76 C dX12_isPersonHere_76 rfl 2 rfl ?_
            refine am_imul 77 C dX12_isPersonHere_77 ?_
            refine am_iadd 78 C dX12_isPersonHere_78 ?_
            refine am_iload_n 79 C dX12_isPersonHere_79 rfl 0 rfl ?_
            refine am_if_eq 80 96 C dX12_isPersonHere_80 (by decide) (fun c28 => ?_) (fun c28 => ?_)
            · have E := am_ifT E c28
              refine am_iconst 96 (nI 2) C dX12_isPersonHere_96 (by decide) ?_
              refine am_lvs [1, 2, 0] rfl ?_
              exact K97 _ _ _ _ _ E
            · have E := am_ifF E c28
              refine am_aload_n 83 C dX12_isPersonHere_83 rfl 1 rfl ?_
              refine as_getr 84 C fl_X12_26_11 dX12_isPersonHere_84 (by decide) sh_248 (rf_248_7 _ _) ?_
              refine am_iconst 87 (1 : Int32) C dX12_isPersonHere_87 (by decide) ?_
              refine as_ialdK 88 1 C dX12_isPersonHere_88 (by decide) sh_254 (by decide) (by decide) ?_
              refine am_iload_n 89 C dX12_isPersonHere_89 rfl 2 rfl ?_
              refine am_ishr 90 C dX12_isPersonHere_90 ?_
              refine am_iconst 91 (1 : Int32) C dX12_isPersonHere_91 (by decide) ?_
              refine am_iand 92 C dX12_isPersonHere_92 ?_
              refine am_goto 93 97 C dX12_isPersonHere_93 (by decide) ?_
              refine am_lvs [1, 2, 0] rfl ?_
              exact K97 _ _ _ _ _ E
      refine am_lvs [1, 0] rfl ?_
      exact LP9 am_F _ _ E
    · have E := am_ifT E c30
      refine am_iconst 40 (0 : Int32) C dX12_isPersonHere_40 (by decide) ?_
      replace E := Option.some.inj E
      subst E
      exact as_iret 41 C Z rfl dX12_isPersonHere_41
  · have E := am_ifT E c34
    refine am_aload_n 11 C dX12_isPersonHere_11 rfl 0 rfl ?_
    refine am_iconst 12 (nI 4) C dX12_isPersonHere_12 (by decide) ?_
    refine am_iload_n 13 C dX12_isPersonHere_13 rfl 1 rfl ?_
    obtain ⟨v31, s32, Ec, E⟩ := am_b2E E
    refine as_callV 14 (s2 := s32) (st := []) (st2 := [.int v31]) [.int (nI 4), .int p1] C A (by decide) ml_X12_99 yc_X12_fails yv_X12_fails (t_X12_fails (nI 4) p1 s0 Ec) (by decide) sh_248 rfl rfl (Nat.le_of_ble_eq_true rfl) rfl dX12_isPersonHere_14 ?_
    obtain ⟨g33, E⟩ := am_gdE E
    replace E := Option.some.inj E
    subst E
    exact as_iret 17 C Z (am_nb g33) dX12_isPersonHere_17
def f_X12_isTrustHere  (s0 : am_S) : Option (Int32 × am_S) :=
  am_bd (f_X12_passWord s0) (fun s1 => am_b2 (f_X12_cellHere (nI 9) (0 : Int32) ((s1.1 254 2) - (1 : Int32)) s1) (fun v2 s3 => am_if (v2 = 0) (some ((0 : Int32), s3)) (am_b2 (f_X12_otherHere (nI 8) (nI 9) ((s3.1 254 2) - (1 : Int32)) s3) (fun v4 s5 => am_if (v4 = 0) (some ((0 : Int32), s5)) (am_b2 (f_X12_cellHere (((nI 130) + ((nI 7) * (s5.1 254 9))) + (s5.1 254 8)) (0 : Int32) (nI 9) s5) (fun v6 s7 => am_gd (v6 = 0 ∨ v6 = 1) (some (v6, s7))))))))
set_option maxRecDepth 100000 in
set_option maxHeartbeats 4000000 in
theorem t_X12_isTrustHere (s0 : am_S) {z : Int32 × am_S} (E : f_X12_isTrustHere  s0 = some z) : AS yX12_isTrustHere cX12_isTrustHere 1 (some .boolean) 5 [.ref 248] s0 (some (.int z.1)) z.2 := by
  unfold f_X12_isTrustHere at E
  refine as_met (lv := [(0, .ref 248)]) (by decide +kernel) (by simp [lg_sl, Value.category]) rfl (fun x C A Z => ?_)
  refine am_aload_n 0 C dX12_isTrustHere_0 rfl 0 rfl ?_
  obtain ⟨s1, Ec, E⟩ := am_bdE E
  refine as_callV 1 (s2 := s1) (st := []) (st2 := []) [] C A (by decide) ml_X12_93 yc_X12_passWord yv_X12_passWord (t_X12_passWord  s0 Ec) (by decide) sh_248 rfl rfl (Nat.le_of_ble_eq_true rfl) rfl dX12_isTrustHere_1 ?_
  refine am_aload_n 4 C dX12_isTrustHere_4 rfl 0 rfl ?_
  refine am_bipush 5 (nI 9) C dX12_isTrustHere_5 (by decide) ?_
  refine am_iconst 7 (0 : Int32) C dX12_isTrustHere_7 (by decide) ?_
  refine am_aload_n 8 C dX12_isTrustHere_8 rfl 0 rfl ?_
  refine as_getr 9 C fl_X12_26_11 dX12_isTrustHere_9 (by decide) sh_248 (rf_248_7 _ _) ?_
  refine am_iconst 12 (nI 2) C dX12_isTrustHere_12 (by decide) ?_
  refine as_ialdK 13 2 C dX12_isTrustHere_13 (by decide) sh_254 (by decide) (by decide) ?_
  refine am_iconst 14 (1 : Int32) C dX12_isTrustHere_14 (by decide) ?_
  refine am_isub 15 C dX12_isTrustHere_15 ?_
  obtain ⟨v2, s3, Ec, E⟩ := am_b2E E
  refine as_callV 16 (s2 := s3) (st := []) (st2 := [.int v2]) [.int (nI 9), .int (0 : Int32), .int ((s1.1 254 2) - (1 : Int32))] C A (by decide) ml_X12_210 yc_X12_cellHere yv_X12_cellHere (t_X12_cellHere (nI 9) (0 : Int32) ((s1.1 254 2) - (1 : Int32)) s1 Ec) (by decide) sh_248 rfl rfl (Nat.le_of_ble_eq_true rfl) rfl dX12_isTrustHere_16 ?_
  refine am_if_eq 19 41 C dX12_isTrustHere_19 (by decide) (fun c10 => ?_) (fun c10 => ?_)
  · have E := am_ifT E c10
    refine am_iconst 41 (0 : Int32) C dX12_isTrustHere_41 (by decide) ?_
    replace E := Option.some.inj E
    subst E
    exact as_iret 42 C Z rfl dX12_isTrustHere_42
  · have E := am_ifF E c10
    refine am_aload_n 22 C dX12_isTrustHere_22 rfl 0 rfl ?_
    refine am_bipush 23 (nI 8) C dX12_isTrustHere_23 (by decide) ?_
    refine am_bipush 25 (nI 9) C dX12_isTrustHere_25 (by decide) ?_
    refine am_aload_n 27 C dX12_isTrustHere_27 rfl 0 rfl ?_
    refine as_getr 28 C fl_X12_26_11 dX12_isTrustHere_28 (by decide) sh_248 (rf_248_7 _ _) ?_
    refine am_iconst 31 (nI 2) C dX12_isTrustHere_31 (by decide) ?_
    refine as_ialdK 32 2 C dX12_isTrustHere_32 (by decide) sh_254 (by decide) (by decide) ?_
    refine am_iconst 33 (1 : Int32) C dX12_isTrustHere_33 (by decide) ?_
    refine am_isub 34 C dX12_isTrustHere_34 ?_
    obtain ⟨v4, s5, Ec, E⟩ := am_b2E E
    refine as_callV 35 (s2 := s5) (st := []) (st2 := [.int v4]) [.int (nI 8), .int (nI 9), .int ((s3.1 254 2) - (1 : Int32))] C A (by decide) ml_X12_217 yc_X12_otherHere yv_X12_otherHere (t_X12_otherHere (nI 8) (nI 9) ((s3.1 254 2) - (1 : Int32)) s3 Ec) (by decide) sh_248 rfl rfl (Nat.le_of_ble_eq_true rfl) rfl dX12_isTrustHere_35 ?_
    refine am_if_ne 38 43 C dX12_isTrustHere_38 (by decide) (fun c9 => ?_) (fun c9 => ?_)
    · have E := am_ifF E c9
      refine am_aload_n 43 C dX12_isTrustHere_43 rfl 0 rfl ?_
      refine am_sipush 44 (nI 130) C dX12_isTrustHere_44 (by decide) ?_
      refine am_bipush 47 (nI 7) C dX12_isTrustHere_47 (by decide) ?_
      refine am_aload_n 49 C dX12_isTrustHere_49 rfl 0 rfl ?_
      refine as_getr 50 C fl_X12_26_11 dX12_isTrustHere_50 (by decide) sh_248 (rf_248_7 _ _) ?_
      refine am_bipush 53 (nI 9) C dX12_isTrustHere_53 (by decide) ?_
      refine as_ialdK 55 9 C dX12_isTrustHere_55 (by decide) sh_254 (by decide) (by decide) ?_
      refine am_imul 56 C dX12_isTrustHere_56 ?_
      refine am_iadd 57 C dX12_isTrustHere_57 ?_
      refine am_aload_n 58 C dX12_isTrustHere_58 rfl 0 rfl ?_
      refine as_getr 59 C fl_X12_26_11 dX12_isTrustHere_59 (by decide) sh_248 (rf_248_7 _ _) ?_
      refine am_bipush 62 (nI 8) C dX12_isTrustHere_62 (by decide) ?_
      refine as_ialdK 64 8 C dX12_isTrustHere_64 (by decide) sh_254 (by decide) (by decide) ?_
      refine am_iadd 65 C dX12_isTrustHere_65 ?_
      refine am_iconst 66 (0 : Int32) C dX12_isTrustHere_66 (by decide) ?_
      refine am_bipush 67 (nI 9) C dX12_isTrustHere_67 (by decide) ?_
      obtain ⟨v6, s7, Ec, E⟩ := am_b2E E
      refine as_callV 69 (s2 := s7) (st := []) (st2 := [.int v6]) [.int (((nI 130) + ((nI 7) * (s5.1 254 9))) + (s5.1 254 8)), .int (0 : Int32), .int (nI 9)] C A (by decide) ml_X12_210 yc_X12_cellHere yv_X12_cellHere (t_X12_cellHere (((nI 130) + ((nI 7) * (s5.1 254 9))) + (s5.1 254 8)) (0 : Int32) (nI 9) s5 Ec) (by decide) sh_248 rfl rfl (Nat.le_of_ble_eq_true rfl) rfl dX12_isTrustHere_69 ?_
      obtain ⟨g8, E⟩ := am_gdE E
      replace E := Option.some.inj E
      subst E
      exact as_iret 72 C Z (am_nb g8) dX12_isTrustHere_72
    · have E := am_ifT E c9
      refine am_iconst 41 (0 : Int32) C dX12_isTrustHere_41 (by decide) ?_
      replace E := Option.some.inj E
      subst E
      exact as_iret 42 C Z rfl dX12_isTrustHere_42
def j_X12_readStreet_54 (p1 : Int32) (p2 : Int32) (v5 : Int32) (v6 : Int32) (v7 : Int32) : Option ((Int32) ⊕ (Int32)) :=
  am_if (v6 = p2) (am_if (v7 = p1) (some (Sum.inr v5)) (am_lt (v5 + (1 : Int32)) (fun v9 => some (Sum.inl v9)))) (am_lt (v5 + (1 : Int32)) (fun v8 => some (Sum.inl v8)))
def b_X12_readStreet_2 (p1 : Int32) (p2 : Int32) (s0 : am_S) (v4 : Int32) : Option ((Int32) ⊕ (Int32)) :=
  am_if ((s0.1 254 3) ≤ v4) (some (Sum.inr (-1 : Int32))) (am_lt ((nI 179) + ((nI 2) * v4)) (fun v12 => am_gd (¬ v12 < 0 ∧ (v12).toNatClampNeg < 270) (am_lt (s0.1 254 (v12).toNatClampNeg) (fun v14 => am_lt (((nI 179) + ((nI 2) * v4)) + (1 : Int32)) (fun v15 => am_gd (¬ v15 < 0 ∧ (v15).toNatClampNeg < 270) (am_lt (s0.1 254 (v15).toNatClampNeg) (fun v17 => am_if (v14 = p1) (am_if (v17 = p2) (some (Sum.inr v4)) (j_X12_readStreet_54 p1 p2 v4 v14 v17)) (j_X12_readStreet_54 p1 p2 v4 v14 v17))))))))
def f_X12_readStreet (p1 : Int32) (p2 : Int32) (s0 : am_S) : Option (Int32) :=
  am_lp (fun (q : Int32) => b_X12_readStreet_2 p1 p2 s0 q) am_F (0 : Int32)
set_option maxRecDepth 100000 in
set_option maxHeartbeats 4000000 in
theorem t_X12_readStreet (p1 : Int32) (p2 : Int32) (s0 : am_S) {z : Int32} (E : f_X12_readStreet p1 p2 s0 = some z) : AS yX12_readStreet cX12_readStreet 6 (some .int) 1 [.ref 248, .int p1, .int p2] s0 (some (.int z)) s0 := by
  unfold f_X12_readStreet at E
  refine as_met (lv := [(0, .ref 248), (1, .int p1), (2, .int p2)]) (by decide +kernel) (by simp [lg_sl, Value.category]) rfl (fun x C A Z => ?_)
  refine am_iconst 0 (0 : Int32) C dX12_readStreet_0 (by decide) ?_
  refine am_istore_n 1 (lv2 := [(3, .int (0 : Int32)), (0, .ref 248), (1, .int p1), (2, .int p2)]) C dX12_readStreet_1 rfl (by decide) rfl ?_
  have LP3 : ∀ (n : Nat) (v4 : Int32), am_lp (fun (q : Int32) => b_X12_readStreet_2 p1 p2 s0 q) n v4 = some z → AX x 0 0 2 [(0, .ref 248), (1, .int p1), (2, .int p2), (3, .int v4)] [] am_N (am_h s0) := by
    intro n
    induction n with
    | zero => intro v4 E; exact (am_lp0 E).elim
    | succ n ih3 =>
      intro v4 E
      obtain ⟨r3, E, Er3⟩ := am_lpE E
      replace E : b_X12_readStreet_2 p1 p2 s0 v4 = some r3 := E
      unfold b_X12_readStreet_2 at E
      have K54 : ∀ (v5 : Int32) (v6 : Int32) (v7 : Int32), j_X12_readStreet_54 p1 p2 v5 v6 v7 = some r3 → AX x 0 0 54 [(0, .ref 248), (1, .int p1), (2, .int p2), (3, .int v5), (4, .int v6), (5, .int v7)] [] am_N (am_h s0) := by
        intro v5 v6 v7 E
        unfold j_X12_readStreet_54 at E
        refine am_iload 54 C dX12_readStreet_54 4 rfl ?_
        refine am_iload_n 56 C dX12_readStreet_56 rfl 2 rfl ?_
        refine am_icmp_ne 57 68 C dX12_readStreet_57 (by decide) (fun c11 => ?_) (fun c11 => ?_)
        · have E := am_ifF E c11
          obtain ⟨v8, hv8, E⟩ := am_ltE E
          refine as_iinc 68 (q := (1 : Int32)) (lv2 := [(3, .int v8), (0, .ref 248), (1, .int p1), (2, .int p2), (4, .int v6), (5, .int v7)]) C dX12_readStreet_68 3 rfl (by decide) hv8 (by decide) rfl ?_
          refine am_goto 71 2 C dX12_readStreet_71 (by decide) ?_
          replace E := Option.some.inj E
          replace E := am_exL E Er3
          refine am_lvs [1, 2, 3, 0] rfl ?_
          exact ih3 _ E
        · have E := am_ifT E c11
          refine am_iload 60 C dX12_readStreet_60 5 rfl ?_
          refine am_iload_n 62 C dX12_readStreet_62 rfl 1 rfl ?_
          refine am_icmp_ne 63 68 C dX12_readStreet_63 (by decide) (fun c10 => ?_) (fun c10 => ?_)
          · have E := am_ifF E c10
            obtain ⟨v9, hv9, E⟩ := am_ltE E
            refine as_iinc 68 (q := (1 : Int32)) (lv2 := [(3, .int v9), (0, .ref 248), (1, .int p1), (2, .int p2), (4, .int v6), (5, .int v7)]) C dX12_readStreet_68 3 rfl (by decide) hv9 (by decide) rfl ?_
            refine am_goto 71 2 C dX12_readStreet_71 (by decide) ?_
            replace E := Option.some.inj E
            replace E := am_exL E Er3
            refine am_lvs [1, 2, 3, 0] rfl ?_
            exact ih3 _ E
          · have E := am_ifT E c10
            refine am_iload_n 66 C dX12_readStreet_66 rfl 3 rfl ?_
            replace E := Option.some.inj E
            replace E := am_exR E Er3
            subst E
            exact as_iret 67 C Z rfl dX12_readStreet_67
      refine am_iload_n 2 C dX12_readStreet_2 rfl 3 rfl ?_
      refine am_aload_n 3 C dX12_readStreet_3 rfl 0 rfl ?_
      refine as_getr 4 C fl_X12_26_11 dX12_readStreet_4 (by decide) sh_248 (rf_248_7 _ _) ?_
      refine am_iconst 7 (nI 3) C dX12_readStreet_7 (by decide) ?_
      refine as_ialdK 8 3 C dX12_readStreet_8 (by decide) sh_254 (by decide) (by decide) ?_
      refine am_icmp_ge 9 74 C dX12_readStreet_9 (by decide) (fun c20 => ?_) (fun c20 => ?_)
      · have E := am_ifT E c20
        refine am_iconst 74 (-1 : Int32) C dX12_readStreet_74 (by decide) ?_
        replace E := Option.some.inj E
        replace E := am_exR E Er3
        subst E
        exact as_iret 75 C Z rfl dX12_readStreet_75
      · have E := am_ifF E c20
        refine am_aload_n 12 C dX12_readStreet_12 rfl 0 rfl ?_
        refine as_getr 13 C fl_X12_26_11 dX12_readStreet_13 (by decide) sh_248 (rf_248_7 _ _) ?_
        refine am_sipush 16 (nI 179) C dX12_readStreet_16 (by decide) ?_
        refine am_iconst 19 (nI 2) C dX12_readStreet_19 (by decide) ?_
        refine am_iload_n 20 C dX12_readStreet_20 rfl 3 rfl ?_
        refine am_imul 21 C dX12_readStreet_21 ?_
        refine am_iadd 22 C dX12_readStreet_22 ?_
        obtain ⟨v12, hv12, E⟩ := am_ltE E
        refine as_nm hv12 ?_
        obtain ⟨g13, E⟩ := am_gdE E
        refine as_iald 23 C dX12_readStreet_23 (by decide) sh_254 g13 ?_
        obtain ⟨v14, hv14, E⟩ := am_ltE E
        refine as_nm hv14 ?_
        refine am_istore 24 (lv2 := [(4, .int v14), (0, .ref 248), (1, .int p1), (2, .int p2), (3, .int v4)]) C dX12_readStreet_24 (by decide) rfl ?_
        refine am_aload_n 26 C dX12_readStreet_26 rfl 1 rfl ?_
        refine as_getr 27 C fl_X12_26_11 dX12_readStreet_27 (by decide) sh_248 (rf_248_7 _ _) ?_
        refine am_sipush 30 (nI 179) C dX12_readStreet_30 (by decide) ?_
        refine am_iconst 33 (nI 2) C dX12_readStreet_33 (by decide) ?_
        refine am_iload_n 34 C dX12_readStreet_34 rfl 4 rfl ?_
        refine am_imul 35 C dX12_readStreet_35 ?_
        refine am_iadd 36 C dX12_readStreet_36 ?_
        refine am_iconst 37 (1 : Int32) C dX12_readStreet_37 (by decide) ?_
        refine am_iadd 38 C dX12_readStreet_38 ?_
        obtain ⟨v15, hv15, E⟩ := am_ltE E
        refine as_nm hv15 ?_
        obtain ⟨g16, E⟩ := am_gdE E
        refine as_iald 39 C dX12_readStreet_39 (by decide) sh_254 g16 ?_
        obtain ⟨v17, hv17, E⟩ := am_ltE E
        refine as_nm hv17 ?_
        refine am_istore 40 (lv2 := [(5, .int v17), (4, .int v14), (0, .ref 248), (1, .int p1), (2, .int p2), (3, .int v4)]) C dX12_readStreet_40 (by decide) rfl ?_
        refine am_iload 42 C dX12_readStreet_42 1 rfl ?_
        refine am_iload_n 44 C dX12_readStreet_44 rfl 3 rfl ?_
        refine am_icmp_ne 45 54 C dX12_readStreet_45 (by decide) (fun c19 => ?_) (fun c19 => ?_)
        · have E := am_ifF E c19
          refine am_lvs [2, 3, 4, 5, 1, 0] rfl ?_
          exact K54 _ _ _ E
        · have E := am_ifT E c19
          refine am_iload 48 C dX12_readStreet_48 0 rfl ?_
          refine am_iload_n 50 C dX12_readStreet_50 rfl 4 rfl ?_
          refine am_icmp_eq 51 66 C dX12_readStreet_51 (by decide) (fun c18 => ?_) (fun c18 => ?_)
          · have E := am_ifT E c18
            refine am_iload_n 66 C dX12_readStreet_66 rfl 5 rfl ?_
            replace E := Option.some.inj E
            replace E := am_exR E Er3
            subst E
            exact as_iret 67 C Z rfl dX12_readStreet_67
          · have E := am_ifF E c18
            refine am_lvs [2, 3, 4, 5, 1, 0] rfl ?_
            exact K54 _ _ _ E
  refine am_lvs [1, 2, 3, 0] rfl ?_
  exact LP3 am_F _ E
def f_X12_isStreetHere (p1 : Int32) (s0 : am_S) : Option (Int32 × am_S) :=
  am_if ((s0.1 254 3) = (nI 10)) (am_b2 (f_X12_fails (nI 4) p1 s0) (fun v22 s23 => am_gd (v22 = 0 ∨ v22 = 1) (some (v22, s23)))) (am_bd (f_X12_passWord s0) (fun s2 => am_lt ((nI 179) + ((nI 2) * (s2.1 254 3))) (fun v3 => am_b2 (f_X12_cellHere v3 (0 : Int32) ((s2.1 254 2) - (1 : Int32)) s2) (fun v4 s5 => am_if (v4 = 0) (some ((0 : Int32), s5)) (am_b2 (f_X12_see s5) (fun v6 s7 => am_lt (s7.1 248 8) (fun v8 => am_b2 (f_X12_otherHere (v3 + (1 : Int32)) v3 ((s7.1 254 2) - (1 : Int32)) s7) (fun v9 s10 => am_if (v9 = 0) (some ((0 : Int32), s10)) (am_gd (¬ v3 < 0 ∧ (v3).toNatClampNeg < 270) (am_lt (v3 + (1 : Int32)) (fun v12 => am_gd (¬ v12 < 0 ∧ (v12).toNatClampNeg < 270) (am_bd (f_X12_readStreet (s10.1 254 (v3).toNatClampNeg) (s10.1 254 (v12).toNatClampNeg) s10) (fun v14 => am_if (v14 < 0) (am_lt (as_i s10 254 3 ((s10.1 254 3) + (1 : Int32))) (fun s15 => some ((1 : Int32), s15))) (am_b2 (f_X12_fails (1 : Int32) v8 s10) (fun v16 s17 => am_gd (v16 = 0 ∨ v16 = 1) (some (v16, s17)))))))))))))))))
set_option maxRecDepth 100000 in
set_option maxHeartbeats 4000000 in
theorem t_X12_isStreetHere (p1 : Int32) (s0 : am_S) {z : Int32 × am_S} (E : f_X12_isStreetHere p1 s0 = some z) : AS yX12_isStreetHere cX12_isStreetHere 4 (some .boolean) 5 [.ref 248, .int p1] s0 (some (.int z.1)) z.2 := by
  unfold f_X12_isStreetHere at E
  refine as_met (lv := [(0, .ref 248), (1, .int p1)]) (by decide +kernel) (by simp [lg_sl, Value.category]) rfl (fun x C A Z => ?_)
  refine am_aload_n 0 C dX12_isStreetHere_0 rfl 0 rfl ?_
  refine as_getr 1 C fl_X12_26_11 dX12_isStreetHere_1 (by decide) sh_248 (rf_248_7 _ _) ?_
  refine am_iconst 4 (nI 3) C dX12_isStreetHere_4 (by decide) ?_
  refine as_ialdK 5 3 C dX12_isStreetHere_5 (by decide) sh_254 (by decide) (by decide) ?_
  refine am_bipush 6 (nI 10) C dX12_isStreetHere_6 (by decide) ?_
  refine am_icmp_ne 8 18 C dX12_isStreetHere_8 (by decide) (fun c25 => ?_) (fun c25 => ?_)
  · have E := am_ifF E c25
    refine am_aload_n 18 C dX12_isStreetHere_18 rfl 0 rfl ?_
    obtain ⟨s2, Ec, E⟩ := am_bdE E
    refine as_callV 19 (s2 := s2) (st := []) (st2 := []) [] C A (by decide) ml_X12_93 yc_X12_passWord yv_X12_passWord (t_X12_passWord  s0 Ec) (by decide) sh_248 rfl rfl (Nat.le_of_ble_eq_true rfl) rfl dX12_isStreetHere_19 ?_
    refine am_sipush 22 (nI 179) C dX12_isStreetHere_22 (by decide) ?_
    refine am_iconst 25 (nI 2) C dX12_isStreetHere_25 (by decide) ?_
    refine am_aload_n 26 C dX12_isStreetHere_26 rfl 0 rfl ?_
    refine as_getr 27 C fl_X12_26_11 dX12_isStreetHere_27 (by decide) sh_248 (rf_248_7 _ _) ?_
    refine am_iconst 30 (nI 3) C dX12_isStreetHere_30 (by decide) ?_
    refine as_ialdK 31 3 C dX12_isStreetHere_31 (by decide) sh_254 (by decide) (by decide) ?_
    refine am_imul 32 C dX12_isStreetHere_32 ?_
    refine am_iadd 33 C dX12_isStreetHere_33 ?_
    obtain ⟨v3, hv3, E⟩ := am_ltE E
    refine as_nm hv3 ?_
    refine am_istore_n 34 (lv2 := [(2, .int v3), (0, .ref 248), (1, .int p1)]) C dX12_isStreetHere_34 rfl (by decide) rfl ?_
    refine am_aload_n 35 C dX12_isStreetHere_35 rfl 1 rfl ?_
    refine am_iload_n 36 C dX12_isStreetHere_36 rfl 0 rfl ?_
    refine am_iconst 37 (0 : Int32) C dX12_isStreetHere_37 (by decide) ?_
    refine am_aload_n 38 C dX12_isStreetHere_38 rfl 1 rfl ?_
    refine as_getr 39 C fl_X12_26_11 dX12_isStreetHere_39 (by decide) sh_248 (rf_248_7 _ _) ?_
    refine am_iconst 42 (nI 2) C dX12_isStreetHere_42 (by decide) ?_
    refine as_ialdK 43 2 C dX12_isStreetHere_43 (by decide) sh_254 (by decide) (by decide) ?_
    refine am_iconst 44 (1 : Int32) C dX12_isStreetHere_44 (by decide) ?_
    refine am_isub 45 C dX12_isStreetHere_45 ?_
    obtain ⟨v4, s5, Ec, E⟩ := am_b2E E
    refine as_callV 46 (s2 := s5) (st := []) (st2 := [.int v4]) [.int v3, .int (0 : Int32), .int ((s2.1 254 2) - (1 : Int32))] C A (by decide) ml_X12_210 yc_X12_cellHere yv_X12_cellHere (t_X12_cellHere v3 (0 : Int32) ((s2.1 254 2) - (1 : Int32)) s2 Ec) (by decide) sh_248 rfl rfl (Nat.le_of_ble_eq_true rfl) rfl dX12_isStreetHere_46 ?_
    refine am_if_ne 49 54 C dX12_isStreetHere_49 (by decide) (fun c21 => ?_) (fun c21 => ?_)
    · have E := am_ifF E c21
      refine am_aload_n 54 C dX12_isStreetHere_54 rfl 1 rfl ?_
      obtain ⟨v6, s7, Ec, E⟩ := am_b2E E
      refine as_callV 55 (s2 := s7) (st := []) (st2 := [.int v6]) [] C A (by decide) ml_X12_81 yc_X12_see yv_X12_see (t_X12_see  s5 Ec) (by decide) sh_248 rfl rfl (Nat.le_of_ble_eq_true rfl) rfl dX12_isStreetHere_55 ?_
      refine am_pop 58 C dX12_isStreetHere_58 rfl ?_
      refine am_aload_n 59 C dX12_isStreetHere_59 rfl 1 rfl ?_
      refine as_geti 60 C fl_X12_78_11 dX12_isStreetHere_60 (by decide) sh_248 ?_
      obtain ⟨v8, hv8, E⟩ := am_ltE E
      refine as_nm hv8 ?_
      refine am_istore_n 63 (lv2 := [(3, .int v8), (2, .int v3), (0, .ref 248), (1, .int p1)]) C dX12_isStreetHere_63 rfl (by decide) rfl ?_
      refine am_aload_n 64 C dX12_isStreetHere_64 rfl 2 rfl ?_
      refine am_iload_n 65 C dX12_isStreetHere_65 rfl 1 rfl ?_
      refine am_iconst 66 (1 : Int32) C dX12_isStreetHere_66 (by decide) ?_
      refine am_iadd 67 C dX12_isStreetHere_67 ?_
      refine am_iload_n 68 C dX12_isStreetHere_68 rfl 1 rfl ?_
      refine am_aload_n 69 C dX12_isStreetHere_69 rfl 2 rfl ?_
      refine as_getr 70 C fl_X12_26_11 dX12_isStreetHere_70 (by decide) sh_248 (rf_248_7 _ _) ?_
      refine am_iconst 73 (nI 2) C dX12_isStreetHere_73 (by decide) ?_
      refine as_ialdK 74 2 C dX12_isStreetHere_74 (by decide) sh_254 (by decide) (by decide) ?_
      refine am_iconst 75 (1 : Int32) C dX12_isStreetHere_75 (by decide) ?_
      refine am_isub 76 C dX12_isStreetHere_76 ?_
      obtain ⟨v9, s10, Ec, E⟩ := am_b2E E
      refine as_callV 77 (s2 := s10) (st := []) (st2 := [.int v9]) [.int (v3 + (1 : Int32)), .int v3, .int ((s7.1 254 2) - (1 : Int32))] C A (by decide) ml_X12_217 yc_X12_otherHere yv_X12_otherHere (t_X12_otherHere (v3 + (1 : Int32)) v3 ((s7.1 254 2) - (1 : Int32)) s7 Ec) (by decide) sh_248 rfl rfl (Nat.le_of_ble_eq_true rfl) rfl dX12_isStreetHere_77 ?_
      refine am_if_ne 80 85 C dX12_isStreetHere_80 (by decide) (fun c20 => ?_) (fun c20 => ?_)
      · have E := am_ifF E c20
        refine am_aload_n 85 C dX12_isStreetHere_85 rfl 2 rfl ?_
        refine am_aload_n 86 C dX12_isStreetHere_86 rfl 2 rfl ?_
        refine as_getr 87 C fl_X12_26_11 dX12_isStreetHere_87 (by decide) sh_248 (rf_248_7 _ _) ?_
        refine am_iload_n 90 C dX12_isStreetHere_90 rfl 1 rfl ?_
        obtain ⟨g11, E⟩ := am_gdE E
        refine as_iald 91 C dX12_isStreetHere_91 (by decide) sh_254 g11 ?_
        refine am_aload_n 92 C dX12_isStreetHere_92 rfl 2 rfl ?_
        refine as_getr 93 C fl_X12_26_11 dX12_isStreetHere_93 (by decide) sh_248 (rf_248_7 _ _) ?_
        refine am_iload_n 96 C dX12_isStreetHere_96 rfl 1 rfl ?_
        refine am_iconst 97 (1 : Int32) C dX12_isStreetHere_97 (by decide) ?_
        refine am_iadd 98 C dX12_isStreetHere_98 ?_
        obtain ⟨v12, hv12, E⟩ := am_ltE E
        refine as_nm hv12 ?_
        obtain ⟨g13, E⟩ := am_gdE E
        refine as_iald 99 C dX12_isStreetHere_99 (by decide) sh_254 g13 ?_
        obtain ⟨v14, Ec, E⟩ := am_bdE E
        refine as_callV 100 (s2 := s10) (st := []) (st2 := [.int v14]) [.int (s10.1 254 (v3).toNatClampNeg), .int (s10.1 254 (v12).toNatClampNeg)] C A (by decide) ml_X12_220 yc_X12_readStreet yv_X12_readStreet (t_X12_readStreet (s10.1 254 (v3).toNatClampNeg) (s10.1 254 (v12).toNatClampNeg) s10 Ec) (by decide) sh_248 rfl rfl (Nat.le_of_ble_eq_true rfl) rfl dX12_isStreetHere_100 ?_
        refine am_if_lt 103 113 C dX12_isStreetHere_103 (by decide) (fun c19 => ?_) (fun c19 => ?_)
        · have E := am_ifT E c19
          refine am_aload_n 113 C dX12_isStreetHere_113 rfl 2 rfl ?_
          refine as_getr 114 C fl_X12_26_11 dX12_isStreetHere_114 (by decide) sh_248 (rf_248_7 _ _) ?_
          refine am_iconst 117 (nI 3) C dX12_isStreetHere_117 (by decide) ?_
          refine am_dup2 118 C dX12_isStreetHere_118 rfl rfl ?_
          refine as_ialdK 119 3 C dX12_isStreetHere_119 (by decide) sh_254 (by decide) (by decide) ?_
          refine am_iconst 120 (1 : Int32) C dX12_isStreetHere_120 (by decide) ?_
          refine am_iadd 121 C dX12_isStreetHere_121 ?_
          obtain ⟨s15, hs15, E⟩ := am_ltE E
          refine as_iastK 122 3 C dX12_isStreetHere_122 (by decide) sh_254 (by decide) (by decide) hs15 ?_
          refine am_iconst 123 (1 : Int32) C dX12_isStreetHere_123 (by decide) ?_
          replace E := Option.some.inj E
          subst E
          exact as_iret 124 C Z rfl dX12_isStreetHere_124
        · have E := am_ifF E c19
          refine am_aload_n 106 C dX12_isStreetHere_106 rfl 2 rfl ?_
          refine am_iconst 107 (1 : Int32) C dX12_isStreetHere_107 (by decide) ?_
          refine am_iload_n 108 C dX12_isStreetHere_108 rfl 0 rfl ?_
          obtain ⟨v16, s17, Ec, E⟩ := am_b2E E
          refine as_callV 109 (s2 := s17) (st := []) (st2 := [.int v16]) [.int (1 : Int32), .int v8] C A (by decide) ml_X12_99 yc_X12_fails yv_X12_fails (t_X12_fails (1 : Int32) v8 s10 Ec) (by decide) sh_248 rfl rfl (Nat.le_of_ble_eq_true rfl) rfl dX12_isStreetHere_109 ?_
          obtain ⟨g18, E⟩ := am_gdE E
          replace E := Option.some.inj E
          subst E
          exact as_iret 112 C Z (am_nb g18) dX12_isStreetHere_112
      · have E := am_ifT E c20
        refine am_iconst 83 (0 : Int32) C dX12_isStreetHere_83 (by decide) ?_
        replace E := Option.some.inj E
        subst E
        exact as_iret 84 C Z rfl dX12_isStreetHere_84
    · have E := am_ifT E c21
      refine am_iconst 52 (0 : Int32) C dX12_isStreetHere_52 (by decide) ?_
      replace E := Option.some.inj E
      subst E
      exact as_iret 53 C Z rfl dX12_isStreetHere_53
  · have E := am_ifT E c25
    refine am_aload_n 11 C dX12_isStreetHere_11 rfl 0 rfl ?_
    refine am_iconst 12 (nI 4) C dX12_isStreetHere_12 (by decide) ?_
    refine am_iload_n 13 C dX12_isStreetHere_13 rfl 1 rfl ?_
    obtain ⟨v22, s23, Ec, E⟩ := am_b2E E
    refine as_callV 14 (s2 := s23) (st := []) (st2 := [.int v22]) [.int (nI 4), .int p1] C A (by decide) ml_X12_99 yc_X12_fails yv_X12_fails (t_X12_fails (nI 4) p1 s0 Ec) (by decide) sh_248 rfl rfl (Nat.le_of_ble_eq_true rfl) rfl dX12_isStreetHere_14 ?_
    obtain ⟨g24, E⟩ := am_gdE E
    replace E := Option.some.inj E
    subst E
    exact as_iret 17 C Z (am_nb g24) dX12_isStreetHere_17
def f_X12_isIfHere (p1 : Int32) (s0 : am_S) : Option (Int32 × am_S) :=
  am_if ((s0.1 254 4) = (nI 10)) (am_b2 (f_X12_fails (nI 4) p1 s0) (fun v17 s18 => am_gd (v17 = 0 ∨ v17 = 1) (some (v17, s18)))) (am_bd (f_X12_passWord s0) (fun s2 => am_lt ((nI 199) + ((nI 4) * (s2.1 254 4))) (fun v3 => am_b2 (f_X12_cellHere v3 (0 : Int32) ((s2.1 254 0) - (1 : Int32)) s2) (fun v4 s5 => am_if (v4 = 0) (some ((0 : Int32), s5)) (am_b2 (f_X12_cellHere (v3 + (1 : Int32)) (0 : Int32) (1 : Int32) s5) (fun v6 s7 => am_if (v6 = 0) (some ((0 : Int32), s7)) (am_b2 (f_X12_otherHere (v3 + (nI 2)) v3 ((s7.1 254 0) - (1 : Int32)) s7) (fun v8 s9 => am_if (v8 = 0) (some ((0 : Int32), s9)) (am_b2 (f_X12_cellHere (v3 + (nI 3)) (0 : Int32) (1 : Int32) s9) (fun v10 s11 => am_if (v10 = 0) (some ((0 : Int32), s11)) (am_lt (as_i s11 254 4 ((s11.1 254 4) + (1 : Int32))) (fun s12 => some ((1 : Int32), s12)))))))))))))
set_option maxRecDepth 100000 in
set_option maxHeartbeats 4000000 in
theorem t_X12_isIfHere (p1 : Int32) (s0 : am_S) {z : Int32 × am_S} (E : f_X12_isIfHere p1 s0 = some z) : AS yX12_isIfHere cX12_isIfHere 3 (some .boolean) 5 [.ref 248, .int p1] s0 (some (.int z.1)) z.2 := by
  unfold f_X12_isIfHere at E
  refine as_met (lv := [(0, .ref 248), (1, .int p1)]) (by decide +kernel) (by simp [lg_sl, Value.category]) rfl (fun x C A Z => ?_)
  refine am_aload_n 0 C dX12_isIfHere_0 rfl 0 rfl ?_
  refine as_getr 1 C fl_X12_26_11 dX12_isIfHere_1 (by decide) sh_248 (rf_248_7 _ _) ?_
  refine am_iconst 4 (nI 4) C dX12_isIfHere_4 (by decide) ?_
  refine as_ialdK 5 4 C dX12_isIfHere_5 (by decide) sh_254 (by decide) (by decide) ?_
  refine am_bipush 6 (nI 10) C dX12_isIfHere_6 (by decide) ?_
  refine am_icmp_ne 8 18 C dX12_isIfHere_8 (by decide) (fun c20 => ?_) (fun c20 => ?_)
  · have E := am_ifF E c20
    refine am_aload_n 18 C dX12_isIfHere_18 rfl 0 rfl ?_
    obtain ⟨s2, Ec, E⟩ := am_bdE E
    refine as_callV 19 (s2 := s2) (st := []) (st2 := []) [] C A (by decide) ml_X12_93 yc_X12_passWord yv_X12_passWord (t_X12_passWord  s0 Ec) (by decide) sh_248 rfl rfl (Nat.le_of_ble_eq_true rfl) rfl dX12_isIfHere_19 ?_
    refine am_sipush 22 (nI 199) C dX12_isIfHere_22 (by decide) ?_
    refine am_iconst 25 (nI 4) C dX12_isIfHere_25 (by decide) ?_
    refine am_aload_n 26 C dX12_isIfHere_26 rfl 0 rfl ?_
    refine as_getr 27 C fl_X12_26_11 dX12_isIfHere_27 (by decide) sh_248 (rf_248_7 _ _) ?_
    refine am_iconst 30 (nI 4) C dX12_isIfHere_30 (by decide) ?_
    refine as_ialdK 31 4 C dX12_isIfHere_31 (by decide) sh_254 (by decide) (by decide) ?_
    refine am_imul 32 C dX12_isIfHere_32 ?_
    refine am_iadd 33 C dX12_isIfHere_33 ?_
    obtain ⟨v3, hv3, E⟩ := am_ltE E
    refine as_nm hv3 ?_
    refine am_istore_n 34 (lv2 := [(2, .int v3), (0, .ref 248), (1, .int p1)]) C dX12_isIfHere_34 rfl (by decide) rfl ?_
    refine am_aload_n 35 C dX12_isIfHere_35 rfl 1 rfl ?_
    refine am_iload_n 36 C dX12_isIfHere_36 rfl 0 rfl ?_
    refine am_iconst 37 (0 : Int32) C dX12_isIfHere_37 (by decide) ?_
    refine am_aload_n 38 C dX12_isIfHere_38 rfl 1 rfl ?_
    refine as_getr 39 C fl_X12_26_11 dX12_isIfHere_39 (by decide) sh_248 (rf_248_7 _ _) ?_
    refine am_iconst 42 (0 : Int32) C dX12_isIfHere_42 (by decide) ?_
    refine as_ialdK 43 0 C dX12_isIfHere_43 (by decide) sh_254 (by decide) (by decide) ?_
    refine am_iconst 44 (1 : Int32) C dX12_isIfHere_44 (by decide) ?_
    refine am_isub 45 C dX12_isIfHere_45 ?_
    obtain ⟨v4, s5, Ec, E⟩ := am_b2E E
    refine as_callV 46 (s2 := s5) (st := []) (st2 := [.int v4]) [.int v3, .int (0 : Int32), .int ((s2.1 254 0) - (1 : Int32))] C A (by decide) ml_X12_210 yc_X12_cellHere yv_X12_cellHere (t_X12_cellHere v3 (0 : Int32) ((s2.1 254 0) - (1 : Int32)) s2 Ec) (by decide) sh_248 rfl rfl (Nat.le_of_ble_eq_true rfl) rfl dX12_isIfHere_46 ?_
    refine am_if_eq 49 95 C dX12_isIfHere_49 (by decide) (fun c16 => ?_) (fun c16 => ?_)
    · have E := am_ifT E c16
      refine am_iconst 95 (0 : Int32) C dX12_isIfHere_95 (by decide) ?_
      replace E := Option.some.inj E
      subst E
      exact as_iret 96 C Z rfl dX12_isIfHere_96
    · have E := am_ifF E c16
      refine am_aload_n 52 C dX12_isIfHere_52 rfl 1 rfl ?_
      refine am_iload_n 53 C dX12_isIfHere_53 rfl 0 rfl ?_
      refine am_iconst 54 (1 : Int32) C dX12_isIfHere_54 (by decide) ?_
      refine am_iadd 55 C dX12_isIfHere_55 ?_
      refine am_iconst 56 (0 : Int32) C dX12_isIfHere_56 (by decide) ?_
      refine am_iconst 57 (1 : Int32) C dX12_isIfHere_57 (by decide) ?_
      obtain ⟨v6, s7, Ec, E⟩ := am_b2E E
      refine as_callV 58 (s2 := s7) (st := []) (st2 := [.int v6]) [.int (v3 + (1 : Int32)), .int (0 : Int32), .int (1 : Int32)] C A (by decide) ml_X12_210 yc_X12_cellHere yv_X12_cellHere (t_X12_cellHere (v3 + (1 : Int32)) (0 : Int32) (1 : Int32) s5 Ec) (by decide) sh_248 rfl rfl (Nat.le_of_ble_eq_true rfl) rfl dX12_isIfHere_58 ?_
      refine am_if_eq 61 95 C dX12_isIfHere_61 (by decide) (fun c15 => ?_) (fun c15 => ?_)
      · have E := am_ifT E c15
        refine am_iconst 95 (0 : Int32) C dX12_isIfHere_95 (by decide) ?_
        replace E := Option.some.inj E
        subst E
        exact as_iret 96 C Z rfl dX12_isIfHere_96
      · have E := am_ifF E c15
        refine am_aload_n 64 C dX12_isIfHere_64 rfl 1 rfl ?_
        refine am_iload_n 65 C dX12_isIfHere_65 rfl 0 rfl ?_
        refine am_iconst 66 (nI 2) C dX12_isIfHere_66 (by decide) ?_
        refine am_iadd 67 C dX12_isIfHere_67 ?_
        refine am_iload_n 68 C dX12_isIfHere_68 rfl 0 rfl ?_
        refine am_aload_n 69 C dX12_isIfHere_69 rfl 1 rfl ?_
        refine as_getr 70 C fl_X12_26_11 dX12_isIfHere_70 (by decide) sh_248 (rf_248_7 _ _) ?_
        refine am_iconst 73 (0 : Int32) C dX12_isIfHere_73 (by decide) ?_
        refine as_ialdK 74 0 C dX12_isIfHere_74 (by decide) sh_254 (by decide) (by decide) ?_
        refine am_iconst 75 (1 : Int32) C dX12_isIfHere_75 (by decide) ?_
        refine am_isub 76 C dX12_isIfHere_76 ?_
        obtain ⟨v8, s9, Ec, E⟩ := am_b2E E
        refine as_callV 77 (s2 := s9) (st := []) (st2 := [.int v8]) [.int (v3 + (nI 2)), .int v3, .int ((s7.1 254 0) - (1 : Int32))] C A (by decide) ml_X12_217 yc_X12_otherHere yv_X12_otherHere (t_X12_otherHere (v3 + (nI 2)) v3 ((s7.1 254 0) - (1 : Int32)) s7 Ec) (by decide) sh_248 rfl rfl (Nat.le_of_ble_eq_true rfl) rfl dX12_isIfHere_77 ?_
        refine am_if_eq 80 95 C dX12_isIfHere_80 (by decide) (fun c14 => ?_) (fun c14 => ?_)
        · have E := am_ifT E c14
          refine am_iconst 95 (0 : Int32) C dX12_isIfHere_95 (by decide) ?_
          replace E := Option.some.inj E
          subst E
          exact as_iret 96 C Z rfl dX12_isIfHere_96
        · have E := am_ifF E c14
          refine am_aload_n 83 C dX12_isIfHere_83 rfl 1 rfl ?_
          refine am_iload_n 84 C dX12_isIfHere_84 rfl 0 rfl ?_
          refine am_iconst 85 (nI 3) C dX12_isIfHere_85 (by decide) ?_
          refine am_iadd 86 C dX12_isIfHere_86 ?_
          refine am_iconst 87 (0 : Int32) C dX12_isIfHere_87 (by decide) ?_
          refine am_iconst 88 (1 : Int32) C dX12_isIfHere_88 (by decide) ?_
          obtain ⟨v10, s11, Ec, E⟩ := am_b2E E
          refine as_callV 89 (s2 := s11) (st := []) (st2 := [.int v10]) [.int (v3 + (nI 3)), .int (0 : Int32), .int (1 : Int32)] C A (by decide) ml_X12_210 yc_X12_cellHere yv_X12_cellHere (t_X12_cellHere (v3 + (nI 3)) (0 : Int32) (1 : Int32) s9 Ec) (by decide) sh_248 rfl rfl (Nat.le_of_ble_eq_true rfl) rfl dX12_isIfHere_89 ?_
          refine am_if_ne 92 97 C dX12_isIfHere_92 (by decide) (fun c13 => ?_) (fun c13 => ?_)
          · have E := am_ifF E c13
            refine am_aload_n 97 C dX12_isIfHere_97 rfl 1 rfl ?_
            refine as_getr 98 C fl_X12_26_11 dX12_isIfHere_98 (by decide) sh_248 (rf_248_7 _ _) ?_
            refine am_iconst 101 (nI 4) C dX12_isIfHere_101 (by decide) ?_
            refine am_dup2 102 C dX12_isIfHere_102 rfl rfl ?_
            refine as_ialdK 103 4 C dX12_isIfHere_103 (by decide) sh_254 (by decide) (by decide) ?_
            refine am_iconst 104 (1 : Int32) C dX12_isIfHere_104 (by decide) ?_
            refine am_iadd 105 C dX12_isIfHere_105 ?_
            obtain ⟨s12, hs12, E⟩ := am_ltE E
            refine as_iastK 106 4 C dX12_isIfHere_106 (by decide) sh_254 (by decide) (by decide) hs12 ?_
            refine am_iconst 107 (1 : Int32) C dX12_isIfHere_107 (by decide) ?_
            replace E := Option.some.inj E
            subst E
            exact as_iret 108 C Z rfl dX12_isIfHere_108
          · have E := am_ifT E c13
            refine am_iconst 95 (0 : Int32) C dX12_isIfHere_95 (by decide) ?_
            replace E := Option.some.inj E
            subst E
            exact as_iret 96 C Z rfl dX12_isIfHere_96
  · have E := am_ifT E c20
    refine am_aload_n 11 C dX12_isIfHere_11 rfl 0 rfl ?_
    refine am_iconst 12 (nI 4) C dX12_isIfHere_12 (by decide) ?_
    refine am_iload_n 13 C dX12_isIfHere_13 rfl 1 rfl ?_
    obtain ⟨v17, s18, Ec, E⟩ := am_b2E E
    refine as_callV 14 (s2 := s18) (st := []) (st2 := [.int v17]) [.int (nI 4), .int p1] C A (by decide) ml_X12_99 yc_X12_fails yv_X12_fails (t_X12_fails (nI 4) p1 s0 Ec) (by decide) sh_248 rfl rfl (Nat.le_of_ble_eq_true rfl) rfl dX12_isIfHere_14 ?_
    obtain ⟨g19, E⟩ := am_gdE E
    replace E := Option.some.inj E
    subst E
    exact as_iret 17 C Z (am_nb g19) dX12_isIfHere_17
def f_X12_isHarmHere (p1 : Int32) (s0 : am_S) : Option (Int32 × am_S) :=
  am_if ((s0.1 254 5) = (nI 10)) (am_b2 (f_X12_fails (nI 4) p1 s0) (fun v14 s15 => am_gd (v14 = 0 ∨ v14 = 1) (some (v14, s15)))) (am_bd (f_X12_passWord s0) (fun s2 => am_lt ((nI 239) + ((nI 3) * (s2.1 254 5))) (fun v3 => am_b2 (f_X12_cellHere v3 (0 : Int32) ((s2.1 254 0) - (1 : Int32)) s2) (fun v4 s5 => am_if (v4 = 0) (some ((0 : Int32), s5)) (am_b2 (f_X12_cellHere (v3 + (1 : Int32)) (0 : Int32) (1 : Int32) s5) (fun v6 s7 => am_if (v6 = 0) (some ((0 : Int32), s7)) (am_b2 (f_X12_cellHere (v3 + (nI 2)) (1 : Int32) (nI 99) s7) (fun v8 s9 => am_if (v8 = 0) (some ((0 : Int32), s9)) (am_lt (as_i s9 254 5 ((s9.1 254 5) + (1 : Int32))) (fun s10 => some ((1 : Int32), s10)))))))))))
set_option maxRecDepth 100000 in
set_option maxHeartbeats 4000000 in
theorem t_X12_isHarmHere (p1 : Int32) (s0 : am_S) {z : Int32 × am_S} (E : f_X12_isHarmHere p1 s0 = some z) : AS yX12_isHarmHere cX12_isHarmHere 3 (some .boolean) 4 [.ref 248, .int p1] s0 (some (.int z.1)) z.2 := by
  unfold f_X12_isHarmHere at E
  refine as_met (lv := [(0, .ref 248), (1, .int p1)]) (by decide +kernel) (by simp [lg_sl, Value.category]) rfl (fun x C A Z => ?_)
  refine am_aload_n 0 C dX12_isHarmHere_0 rfl 0 rfl ?_
  refine as_getr 1 C fl_X12_26_11 dX12_isHarmHere_1 (by decide) sh_248 (rf_248_7 _ _) ?_
  refine am_iconst 4 (nI 5) C dX12_isHarmHere_4 (by decide) ?_
  refine as_ialdK 5 5 C dX12_isHarmHere_5 (by decide) sh_254 (by decide) (by decide) ?_
  refine am_bipush 6 (nI 10) C dX12_isHarmHere_6 (by decide) ?_
  refine am_icmp_ne 8 18 C dX12_isHarmHere_8 (by decide) (fun c17 => ?_) (fun c17 => ?_)
  · have E := am_ifF E c17
    refine am_aload_n 18 C dX12_isHarmHere_18 rfl 0 rfl ?_
    obtain ⟨s2, Ec, E⟩ := am_bdE E
    refine as_callV 19 (s2 := s2) (st := []) (st2 := []) [] C A (by decide) ml_X12_93 yc_X12_passWord yv_X12_passWord (t_X12_passWord  s0 Ec) (by decide) sh_248 rfl rfl (Nat.le_of_ble_eq_true rfl) rfl dX12_isHarmHere_19 ?_
    refine am_sipush 22 (nI 239) C dX12_isHarmHere_22 (by decide) ?_
    refine am_iconst 25 (nI 3) C dX12_isHarmHere_25 (by decide) ?_
    refine am_aload_n 26 C dX12_isHarmHere_26 rfl 0 rfl ?_
    refine as_getr 27 C fl_X12_26_11 dX12_isHarmHere_27 (by decide) sh_248 (rf_248_7 _ _) ?_
    refine am_iconst 30 (nI 5) C dX12_isHarmHere_30 (by decide) ?_
    refine as_ialdK 31 5 C dX12_isHarmHere_31 (by decide) sh_254 (by decide) (by decide) ?_
    refine am_imul 32 C dX12_isHarmHere_32 ?_
    refine am_iadd 33 C dX12_isHarmHere_33 ?_
    obtain ⟨v3, hv3, E⟩ := am_ltE E
    refine as_nm hv3 ?_
    refine am_istore_n 34 (lv2 := [(2, .int v3), (0, .ref 248), (1, .int p1)]) C dX12_isHarmHere_34 rfl (by decide) rfl ?_
    refine am_aload_n 35 C dX12_isHarmHere_35 rfl 1 rfl ?_
    refine am_iload_n 36 C dX12_isHarmHere_36 rfl 0 rfl ?_
    refine am_iconst 37 (0 : Int32) C dX12_isHarmHere_37 (by decide) ?_
    refine am_aload_n 38 C dX12_isHarmHere_38 rfl 1 rfl ?_
    refine as_getr 39 C fl_X12_26_11 dX12_isHarmHere_39 (by decide) sh_248 (rf_248_7 _ _) ?_
    refine am_iconst 42 (0 : Int32) C dX12_isHarmHere_42 (by decide) ?_
    refine as_ialdK 43 0 C dX12_isHarmHere_43 (by decide) sh_254 (by decide) (by decide) ?_
    refine am_iconst 44 (1 : Int32) C dX12_isHarmHere_44 (by decide) ?_
    refine am_isub 45 C dX12_isHarmHere_45 ?_
    obtain ⟨v4, s5, Ec, E⟩ := am_b2E E
    refine as_callV 46 (s2 := s5) (st := []) (st2 := [.int v4]) [.int v3, .int (0 : Int32), .int ((s2.1 254 0) - (1 : Int32))] C A (by decide) ml_X12_210 yc_X12_cellHere yv_X12_cellHere (t_X12_cellHere v3 (0 : Int32) ((s2.1 254 0) - (1 : Int32)) s2 Ec) (by decide) sh_248 rfl rfl (Nat.le_of_ble_eq_true rfl) rfl dX12_isHarmHere_46 ?_
    refine am_if_eq 49 77 C dX12_isHarmHere_49 (by decide) (fun c13 => ?_) (fun c13 => ?_)
    · have E := am_ifT E c13
      refine am_iconst 77 (0 : Int32) C dX12_isHarmHere_77 (by decide) ?_
      replace E := Option.some.inj E
      subst E
      exact as_iret 78 C Z rfl dX12_isHarmHere_78
    · have E := am_ifF E c13
      refine am_aload_n 52 C dX12_isHarmHere_52 rfl 1 rfl ?_
      refine am_iload_n 53 C dX12_isHarmHere_53 rfl 0 rfl ?_
      refine am_iconst 54 (1 : Int32) C dX12_isHarmHere_54 (by decide) ?_
      refine am_iadd 55 C dX12_isHarmHere_55 ?_
      refine am_iconst 56 (0 : Int32) C dX12_isHarmHere_56 (by decide) ?_
      refine am_iconst 57 (1 : Int32) C dX12_isHarmHere_57 (by decide) ?_
      obtain ⟨v6, s7, Ec, E⟩ := am_b2E E
      refine as_callV 58 (s2 := s7) (st := []) (st2 := [.int v6]) [.int (v3 + (1 : Int32)), .int (0 : Int32), .int (1 : Int32)] C A (by decide) ml_X12_210 yc_X12_cellHere yv_X12_cellHere (t_X12_cellHere (v3 + (1 : Int32)) (0 : Int32) (1 : Int32) s5 Ec) (by decide) sh_248 rfl rfl (Nat.le_of_ble_eq_true rfl) rfl dX12_isHarmHere_58 ?_
      refine am_if_eq 61 77 C dX12_isHarmHere_61 (by decide) (fun c12 => ?_) (fun c12 => ?_)
      · have E := am_ifT E c12
        refine am_iconst 77 (0 : Int32) C dX12_isHarmHere_77 (by decide) ?_
        replace E := Option.some.inj E
        subst E
        exact as_iret 78 C Z rfl dX12_isHarmHere_78
      · have E := am_ifF E c12
        refine am_aload_n 64 C dX12_isHarmHere_64 rfl 1 rfl ?_
        refine am_iload_n 65 C dX12_isHarmHere_65 rfl 0 rfl ?_
        refine am_iconst 66 (nI 2) C dX12_isHarmHere_66 (by decide) ?_
        refine am_iadd 67 C dX12_isHarmHere_67 ?_
        refine am_iconst 68 (1 : Int32) C dX12_isHarmHere_68 (by decide) ?_
        refine am_bipush 69 (nI 99) C dX12_isHarmHere_69 (by decide) ?_
        obtain ⟨v8, s9, Ec, E⟩ := am_b2E E
        refine as_callV 71 (s2 := s9) (st := []) (st2 := [.int v8]) [.int (v3 + (nI 2)), .int (1 : Int32), .int (nI 99)] C A (by decide) ml_X12_210 yc_X12_cellHere yv_X12_cellHere (t_X12_cellHere (v3 + (nI 2)) (1 : Int32) (nI 99) s7 Ec) (by decide) sh_248 rfl rfl (Nat.le_of_ble_eq_true rfl) rfl dX12_isHarmHere_71 ?_
        refine am_if_ne 74 79 C dX12_isHarmHere_74 (by decide) (fun c11 => ?_) (fun c11 => ?_)
        · have E := am_ifF E c11
          refine am_aload_n 79 C dX12_isHarmHere_79 rfl 1 rfl ?_
          refine as_getr 80 C fl_X12_26_11 dX12_isHarmHere_80 (by decide) sh_248 (rf_248_7 _ _) ?_
          refine am_iconst 83 (nI 5) C dX12_isHarmHere_83 (by decide) ?_
          refine am_dup2 84 C dX12_isHarmHere_84 rfl rfl ?_
          refine as_ialdK 85 5 C dX12_isHarmHere_85 (by decide) sh_254 (by decide) (by decide) ?_
          refine am_iconst 86 (1 : Int32) C dX12_isHarmHere_86 (by decide) ?_
          refine am_iadd 87 C dX12_isHarmHere_87 ?_
          obtain ⟨s10, hs10, E⟩ := am_ltE E
          refine as_iastK 88 5 C dX12_isHarmHere_88 (by decide) sh_254 (by decide) (by decide) hs10 ?_
          refine am_iconst 89 (1 : Int32) C dX12_isHarmHere_89 (by decide) ?_
          replace E := Option.some.inj E
          subst E
          exact as_iret 90 C Z rfl dX12_isHarmHere_90
        · have E := am_ifT E c11
          refine am_iconst 77 (0 : Int32) C dX12_isHarmHere_77 (by decide) ?_
          replace E := Option.some.inj E
          subst E
          exact as_iret 78 C Z rfl dX12_isHarmHere_78
  · have E := am_ifT E c17
    refine am_aload_n 11 C dX12_isHarmHere_11 rfl 0 rfl ?_
    refine am_iconst 12 (nI 4) C dX12_isHarmHere_12 (by decide) ?_
    refine am_iload_n 13 C dX12_isHarmHere_13 rfl 1 rfl ?_
    obtain ⟨v14, s15, Ec, E⟩ := am_b2E E
    refine as_callV 14 (s2 := s15) (st := []) (st2 := [.int v14]) [.int (nI 4), .int p1] C A (by decide) ml_X12_99 yc_X12_fails yv_X12_fails (t_X12_fails (nI 4) p1 s0 Ec) (by decide) sh_248 rfl rfl (Nat.le_of_ble_eq_true rfl) rfl dX12_isHarmHere_14 ?_
    obtain ⟨g16, E⟩ := am_gdE E
    replace E := Option.some.inj E
    subst E
    exact as_iret 17 C Z (am_nb g16) dX12_isHarmHere_17
def f_X12_isChildHere  (s0 : am_S) : Option (Int32 × am_S) :=
  am_bd (f_X12_passWord s0) (fun s1 => am_b2 (f_X12_numberHere (0 : Int32) ((s1.1 254 2) - (1 : Int32)) s1) (fun v2 s3 => am_if (v2 = 0) (some ((0 : Int32), s3)) (am_lt (as_i s3 254 269 ((s3.1 254 269) ||| ((1 : Int32) <<< ((s3.1 248 10) &&& 31)))) (fun s4 => some ((1 : Int32), s4)))))
set_option maxRecDepth 100000 in
set_option maxHeartbeats 4000000 in
theorem t_X12_isChildHere (s0 : am_S) {z : Int32 × am_S} (E : f_X12_isChildHere  s0 = some z) : AS yX12_isChildHere cX12_isChildHere 1 (some .boolean) 3 [.ref 248] s0 (some (.int z.1)) z.2 := by
  unfold f_X12_isChildHere at E
  refine as_met (lv := [(0, .ref 248)]) (by decide +kernel) (by simp [lg_sl, Value.category]) rfl (fun x C A Z => ?_)
  refine am_aload_n 0 C dX12_isChildHere_0 rfl 0 rfl ?_
  obtain ⟨s1, Ec, E⟩ := am_bdE E
  refine as_callV 1 (s2 := s1) (st := []) (st2 := []) [] C A (by decide) ml_X12_93 yc_X12_passWord yv_X12_passWord (t_X12_passWord  s0 Ec) (by decide) sh_248 rfl rfl (Nat.le_of_ble_eq_true rfl) rfl dX12_isChildHere_1 ?_
  refine am_aload_n 4 C dX12_isChildHere_4 rfl 0 rfl ?_
  refine am_iconst 5 (0 : Int32) C dX12_isChildHere_5 (by decide) ?_
  refine am_aload_n 6 C dX12_isChildHere_6 rfl 0 rfl ?_
  refine as_getr 7 C fl_X12_26_11 dX12_isChildHere_7 (by decide) sh_248 (rf_248_7 _ _) ?_
  refine am_iconst 10 (nI 2) C dX12_isChildHere_10 (by decide) ?_
  refine as_ialdK 11 2 C dX12_isChildHere_11 (by decide) sh_254 (by decide) (by decide) ?_
  refine am_iconst 12 (1 : Int32) C dX12_isChildHere_12 (by decide) ?_
  refine am_isub 13 C dX12_isChildHere_13 ?_
  obtain ⟨v2, s3, Ec, E⟩ := am_b2E E
  refine as_callV 14 (s2 := s3) (st := []) (st2 := [.int v2]) [.int (0 : Int32), .int ((s1.1 254 2) - (1 : Int32))] C A (by decide) ml_X12_159 yc_X12_numberHere yv_X12_numberHere (t_X12_numberHere (0 : Int32) ((s1.1 254 2) - (1 : Int32)) s1 Ec) (by decide) sh_248 rfl rfl (Nat.le_of_ble_eq_true rfl) rfl dX12_isChildHere_14 ?_
  refine am_if_ne 17 22 C dX12_isChildHere_17 (by decide) (fun c5 => ?_) (fun c5 => ?_)
  · have E := am_ifF E c5
    refine am_aload_n 22 C dX12_isChildHere_22 rfl 0 rfl ?_
    refine as_getr 23 C fl_X12_26_11 dX12_isChildHere_23 (by decide) sh_248 (rf_248_7 _ _) ?_
    refine am_sipush 26 (nI 269) C dX12_isChildHere_26 (by decide) ?_
    refine am_dup2 29 C dX12_isChildHere_29 rfl rfl ?_
    refine as_ialdK 30 269 C dX12_isChildHere_30 (by decide) sh_254 (by decide) (by decide) ?_
    refine am_iconst 31 (1 : Int32) C dX12_isChildHere_31 (by decide) ?_
    refine am_aload_n 32 C dX12_isChildHere_32 rfl 0 rfl ?_
    refine as_geti 33 C fl_X12_103_11 dX12_isChildHere_33 (by decide) sh_248 ?_
    refine am_ishl 36 C dX12_isChildHere_36 ?_
    refine am_ior 37 C dX12_isChildHere_37 ?_
    obtain ⟨s4, hs4, E⟩ := am_ltE E
    refine as_iastK 38 269 C dX12_isChildHere_38 (by decide) sh_254 (by decide) (by decide) hs4 ?_
    refine am_iconst 39 (1 : Int32) C dX12_isChildHere_39 (by decide) ?_
    replace E := Option.some.inj E
    subst E
    exact as_iret 40 C Z rfl dX12_isChildHere_40
  · have E := am_ifT E c5
    refine am_iconst 20 (0 : Int32) C dX12_isChildHere_20 (by decide) ?_
    replace E := Option.some.inj E
    subst E
    exact as_iret 21 C Z rfl dX12_isChildHere_21
def f_X12_isCorrectHere (p1 : Int32) (s0 : am_S) : Option (Int32 × am_S) :=
  am_if ((s0.1 254 10) = (1 : Int32)) (am_b2 (f_X12_fails (nI 4) p1 s0) (fun v4 s5 => am_gd (v4 = 0 ∨ v4 = 1) (some (v4, s5)))) (am_bd (f_X12_passWord s0) (fun s2 => am_lt (as_i s2 254 10 (1 : Int32)) (fun s3 => some ((1 : Int32), s3))))
set_option maxRecDepth 100000 in
set_option maxHeartbeats 4000000 in
theorem t_X12_isCorrectHere (p1 : Int32) (s0 : am_S) {z : Int32 × am_S} (E : f_X12_isCorrectHere p1 s0 = some z) : AS yX12_isCorrectHere cX12_isCorrectHere 2 (some .boolean) 3 [.ref 248, .int p1] s0 (some (.int z.1)) z.2 := by
  unfold f_X12_isCorrectHere at E
  refine as_met (lv := [(0, .ref 248), (1, .int p1)]) (by decide +kernel) (by simp [lg_sl, Value.category]) rfl (fun x C A Z => ?_)
  refine am_aload_n 0 C dX12_isCorrectHere_0 rfl 0 rfl ?_
  refine as_getr 1 C fl_X12_26_11 dX12_isCorrectHere_1 (by decide) sh_248 (rf_248_7 _ _) ?_
  refine am_bipush 4 (nI 10) C dX12_isCorrectHere_4 (by decide) ?_
  refine as_ialdK 6 10 C dX12_isCorrectHere_6 (by decide) sh_254 (by decide) (by decide) ?_
  refine am_iconst 7 (1 : Int32) C dX12_isCorrectHere_7 (by decide) ?_
  refine am_icmp_ne 8 18 C dX12_isCorrectHere_8 (by decide) (fun c7 => ?_) (fun c7 => ?_)
  · have E := am_ifF E c7
    refine am_aload_n 18 C dX12_isCorrectHere_18 rfl 0 rfl ?_
    obtain ⟨s2, Ec, E⟩ := am_bdE E
    refine as_callV 19 (s2 := s2) (st := []) (st2 := []) [] C A (by decide) ml_X12_93 yc_X12_passWord yv_X12_passWord (t_X12_passWord  s0 Ec) (by decide) sh_248 rfl rfl (Nat.le_of_ble_eq_true rfl) rfl dX12_isCorrectHere_19 ?_
    refine am_aload_n 22 C dX12_isCorrectHere_22 rfl 0 rfl ?_
    refine as_getr 23 C fl_X12_26_11 dX12_isCorrectHere_23 (by decide) sh_248 (rf_248_7 _ _) ?_
    refine am_bipush 26 (nI 10) C dX12_isCorrectHere_26 (by decide) ?_
    refine am_iconst 28 (1 : Int32) C dX12_isCorrectHere_28 (by decide) ?_
    obtain ⟨s3, hs3, E⟩ := am_ltE E
    refine as_iastK 29 10 C dX12_isCorrectHere_29 (by decide) sh_254 (by decide) (by decide) hs3 ?_
    refine am_iconst 30 (1 : Int32) C dX12_isCorrectHere_30 (by decide) ?_
    replace E := Option.some.inj E
    subst E
    exact as_iret 31 C Z rfl dX12_isCorrectHere_31
  · have E := am_ifT E c7
    refine am_aload_n 11 C dX12_isCorrectHere_11 rfl 0 rfl ?_
    refine am_iconst 12 (nI 4) C dX12_isCorrectHere_12 (by decide) ?_
    refine am_iload_n 13 C dX12_isCorrectHere_13 rfl 1 rfl ?_
    obtain ⟨v4, s5, Ec, E⟩ := am_b2E E
    refine as_callV 14 (s2 := s5) (st := []) (st2 := [.int v4]) [.int (nI 4), .int p1] C A (by decide) ml_X12_99 yc_X12_fails yv_X12_fails (t_X12_fails (nI 4) p1 s0 Ec) (by decide) sh_248 rfl rfl (Nat.le_of_ble_eq_true rfl) rfl dX12_isCorrectHere_14 ?_
    obtain ⟨g6, E⟩ := am_gdE E
    replace E := Option.some.inj E
    subst E
    exact as_iret 17 C Z (am_nb g6) dX12_isCorrectHere_17
def f_X12_townLineHere (p1 : Int32) (s0 : am_S) : Option (Int32 × am_S) :=
  am_b2 (f_X12_isWord (439720572019 : Int64) s0) (fun v2 s3 => am_if (v2 = 0) (am_if ((s3.1 254 0) = 0) (am_b2 (f_X12_fails (nI 4) p1 s3) (fun v43 s44 => am_gd (v43 = 0 ∨ v43 = 1) (some (v43, s44)))) (am_b2 (f_X12_isWord (123581014175598 : Int64) s3) (fun v4 s5 => am_if (v4 = 0) (am_b2 (f_X12_isWord (500136506228 : Int64) s5) (fun v6 s7 => am_if (v6 = 0) (am_b2 (f_X12_isWord (126943972648308 : Int64) s7) (fun v8 s9 => am_if (v8 = 0) (am_b2 (f_X12_isWord (26982 : Int64) s9) (fun v10 s11 => am_if (v10 = 0) (am_b2 (f_X12_isWord (1751216749 : Int64) s11) (fun v12 s13 => am_if (v12 = 0) (am_b2 (f_X12_isWord (426953501796 : Int64) s13) (fun v14 s15 => am_if (v14 = 0) (am_b2 (f_X12_isCorrectHere p1 s15) (fun v16 s17 => am_gd (v16 = 0 ∨ v16 = 1) (some (v16, s17)))) (am_b2 (f_X12_isChildHere s15) (fun v19 s20 => am_gd (v19 = 0 ∨ v19 = 1) (some (v19, s20)))))) (am_b2 (f_X12_isHarmHere p1 s13) (fun v23 s24 => am_gd (v23 = 0 ∨ v23 = 1) (some (v23, s24)))))) (am_b2 (f_X12_isIfHere p1 s11) (fun v27 s28 => am_gd (v27 = 0 ∨ v27 = 1) (some (v27, s28)))))) (am_b2 (f_X12_isStreetHere p1 s9) (fun v31 s32 => am_gd (v31 = 0 ∨ v31 = 1) (some (v31, s32)))))) (am_b2 (f_X12_isTrustHere s7) (fun v35 s36 => am_gd (v35 = 0 ∨ v35 = 1) (some (v35, s36)))))) (am_b2 (f_X12_isPersonHere p1 s5) (fun v39 s40 => am_gd (v39 = 0 ∨ v39 = 1) (some (v39, s40))))))) (am_b2 (f_X12_areFactsHere p1 s3) (fun v47 s48 => am_gd (v47 = 0 ∨ v47 = 1) (some (v47, s48)))))
set_option maxRecDepth 100000 in
set_option maxHeartbeats 4000000 in
theorem t_X12_townLineHere (p1 : Int32) (s0 : am_S) {z : Int32 × am_S} (E : f_X12_townLineHere p1 s0 = some z) : AS yX12_townLineHere cX12_townLineHere 2 (some .boolean) 6 [.ref 248, .int p1] s0 (some (.int z.1)) z.2 := by
  unfold f_X12_townLineHere at E
  refine as_met (lv := [(0, .ref 248), (1, .int p1)]) (by decide +kernel) (by simp [lg_sl, Value.category]) rfl (fun x C A Z => ?_)
  refine am_aload_n 0 C dX12_townLineHere_0 rfl 0 rfl ?_
  refine am_ldc2 1 C dX12_townLineHere_1 kl_X12_224 ?_
  obtain ⟨v2, s3, Ec, E⟩ := am_b2E E
  refine as_callV 4 (s2 := s3) (st := []) (st2 := [.int v2]) [.long (439720572019 : Int64)] C A (by decide) ml_X12_89 yc_X12_isWord yv_X12_isWord (t_X12_isWord (439720572019 : Int64) s0 Ec) (by decide) sh_248 rfl rfl (Nat.le_of_ble_eq_true rfl) rfl dX12_townLineHere_4 ?_
  refine am_if_eq 7 16 C dX12_townLineHere_7 (by decide) (fun c50 => ?_) (fun c50 => ?_)
  · have E := am_ifT E c50
    refine am_aload_n 16 C dX12_townLineHere_16 rfl 0 rfl ?_
    refine as_getr 17 C fl_X12_26_11 dX12_townLineHere_17 (by decide) sh_248 (rf_248_7 _ _) ?_
    refine am_iconst 20 (0 : Int32) C dX12_townLineHere_20 (by decide) ?_
    refine as_ialdK 21 0 C dX12_townLineHere_21 (by decide) sh_254 (by decide) (by decide) ?_
    refine am_if_ne 22 32 C dX12_townLineHere_22 (by decide) (fun c46 => ?_) (fun c46 => ?_)
    · have E := am_ifF E c46
      refine am_aload_n 32 C dX12_townLineHere_32 rfl 0 rfl ?_
      refine am_ldc2 33 C dX12_townLineHere_33 kl_X12_229 ?_
      obtain ⟨v4, s5, Ec, E⟩ := am_b2E E
      refine as_callV 36 (s2 := s5) (st := []) (st2 := [.int v4]) [.long (123581014175598 : Int64)] C A (by decide) ml_X12_89 yc_X12_isWord yv_X12_isWord (t_X12_isWord (123581014175598 : Int64) s3 Ec) (by decide) sh_248 rfl rfl (Nat.le_of_ble_eq_true rfl) rfl dX12_townLineHere_36 ?_
      refine am_if_eq 39 48 C dX12_townLineHere_39 (by decide) (fun c42 => ?_) (fun c42 => ?_)
      · have E := am_ifT E c42
        refine am_aload_n 48 C dX12_townLineHere_48 rfl 0 rfl ?_
        refine am_ldc2 49 C dX12_townLineHere_49 kl_X12_128 ?_
        obtain ⟨v6, s7, Ec, E⟩ := am_b2E E
        refine as_callV 52 (s2 := s7) (st := []) (st2 := [.int v6]) [.long (500136506228 : Int64)] C A (by decide) ml_X12_89 yc_X12_isWord yv_X12_isWord (t_X12_isWord (500136506228 : Int64) s5 Ec) (by decide) sh_248 rfl rfl (Nat.le_of_ble_eq_true rfl) rfl dX12_townLineHere_52 ?_
        refine am_if_eq 55 63 C dX12_townLineHere_55 (by decide) (fun c38 => ?_) (fun c38 => ?_)
        · have E := am_ifT E c38
          refine am_aload_n 63 C dX12_townLineHere_63 rfl 0 rfl ?_
          refine am_ldc2 64 C dX12_townLineHere_64 kl_X12_237 ?_
          obtain ⟨v8, s9, Ec, E⟩ := am_b2E E
          refine as_callV 67 (s2 := s9) (st := []) (st2 := [.int v8]) [.long (126943972648308 : Int64)] C A (by decide) ml_X12_89 yc_X12_isWord yv_X12_isWord (t_X12_isWord (126943972648308 : Int64) s7 Ec) (by decide) sh_248 rfl rfl (Nat.le_of_ble_eq_true rfl) rfl dX12_townLineHere_67 ?_
          refine am_if_eq 70 79 C dX12_townLineHere_70 (by decide) (fun c34 => ?_) (fun c34 => ?_)
          · have E := am_ifT E c34
            refine am_aload_n 79 C dX12_townLineHere_79 rfl 0 rfl ?_
            refine am_ldc2 80 C dX12_townLineHere_80 kl_X12_202 ?_
            obtain ⟨v10, s11, Ec, E⟩ := am_b2E E
            refine as_callV 83 (s2 := s11) (st := []) (st2 := [.int v10]) [.long (26982 : Int64)] C A (by decide) ml_X12_89 yc_X12_isWord yv_X12_isWord (t_X12_isWord (26982 : Int64) s9 Ec) (by decide) sh_248 rfl rfl (Nat.le_of_ble_eq_true rfl) rfl dX12_townLineHere_83 ?_
            refine am_if_eq 86 95 C dX12_townLineHere_86 (by decide) (fun c30 => ?_) (fun c30 => ?_)
            · have E := am_ifT E c30
              refine am_aload_n 95 C dX12_townLineHere_95 rfl 0 rfl ?_
              refine am_ldc2 96 C dX12_townLineHere_96 kl_X12_130 ?_
              obtain ⟨v12, s13, Ec, E⟩ := am_b2E E
              refine as_callV 99 (s2 := s13) (st := []) (st2 := [.int v12]) [.long (1751216749 : Int64)] C A (by decide) ml_X12_89 yc_X12_isWord yv_X12_isWord (t_X12_isWord (1751216749 : Int64) s11 Ec) (by decide) sh_248 rfl rfl (Nat.le_of_ble_eq_true rfl) rfl dX12_townLineHere_99 ?_
              refine am_if_eq 102 111 C dX12_townLineHere_102 (by decide) (fun c26 => ?_) (fun c26 => ?_)
              · have E := am_ifT E c26
                refine am_aload_n 111 C dX12_townLineHere_111 rfl 0 rfl ?_
                refine am_ldc2 112 C dX12_townLineHere_112 kl_X12_126 ?_
                obtain ⟨v14, s15, Ec, E⟩ := am_b2E E
                refine as_callV 115 (s2 := s15) (st := []) (st2 := [.int v14]) [.long (426953501796 : Int64)] C A (by decide) ml_X12_89 yc_X12_isWord yv_X12_isWord (t_X12_isWord (426953501796 : Int64) s13 Ec) (by decide) sh_248 rfl rfl (Nat.le_of_ble_eq_true rfl) rfl dX12_townLineHere_115 ?_
                refine am_if_eq 118 128 C dX12_townLineHere_118 (by decide) (fun c22 => ?_) (fun c22 => ?_)
                · have E := am_ifT E c22
                  refine am_aload_n 128 C dX12_townLineHere_128 rfl 0 rfl ?_
                  refine am_iload_n 129 C dX12_townLineHere_129 rfl 1 rfl ?_
                  obtain ⟨v16, s17, Ec, E⟩ := am_b2E E
                  refine as_callV 130 (s2 := s17) (st := []) (st2 := [.int v16]) [.int p1] C A (by decide) ml_X12_251 yc_X12_isCorrectHere yv_X12_isCorrectHere (t_X12_isCorrectHere p1 s15 Ec) (by decide) sh_248 rfl rfl (Nat.le_of_ble_eq_true rfl) rfl dX12_townLineHere_130 ?_
                  obtain ⟨g18, E⟩ := am_gdE E
                  replace E := Option.some.inj E
                  subst E
                  exact as_iret 133 C Z (am_nb g18) dX12_townLineHere_133
                · have E := am_ifF E c22
                  refine am_aload_n 121 C dX12_townLineHere_121 rfl 0 rfl ?_
                  obtain ⟨v19, s20, Ec, E⟩ := am_b2E E
                  refine as_callV 122 (s2 := s20) (st := []) (st2 := [.int v19]) [] C A (by decide) ml_X12_248 yc_X12_isChildHere yv_X12_isChildHere (t_X12_isChildHere  s15 Ec) (by decide) sh_248 rfl rfl (Nat.le_of_ble_eq_true rfl) rfl dX12_townLineHere_122 ?_
                  refine am_goto 125 133 C dX12_townLineHere_125 (by decide) ?_
                  obtain ⟨g21, E⟩ := am_gdE E
                  replace E := Option.some.inj E
                  subst E
                  exact as_iret 133 C Z (am_nb g21) dX12_townLineHere_133
              · have E := am_ifF E c26
                refine am_aload_n 105 C dX12_townLineHere_105 rfl 0 rfl ?_
                refine am_iload_n 106 C dX12_townLineHere_106 rfl 1 rfl ?_
                obtain ⟨v23, s24, Ec, E⟩ := am_b2E E
                refine as_callV 107 (s2 := s24) (st := []) (st2 := [.int v23]) [.int p1] C A (by decide) ml_X12_245 yc_X12_isHarmHere yv_X12_isHarmHere (t_X12_isHarmHere p1 s13 Ec) (by decide) sh_248 rfl rfl (Nat.le_of_ble_eq_true rfl) rfl dX12_townLineHere_107 ?_
                obtain ⟨g25, E⟩ := am_gdE E
                replace E := Option.some.inj E
                subst E
                exact as_iret 110 C Z (am_nb g25) dX12_townLineHere_110
            · have E := am_ifF E c30
              refine am_aload_n 89 C dX12_townLineHere_89 rfl 0 rfl ?_
              refine am_iload_n 90 C dX12_townLineHere_90 rfl 1 rfl ?_
              obtain ⟨v27, s28, Ec, E⟩ := am_b2E E
              refine as_callV 91 (s2 := s28) (st := []) (st2 := [.int v27]) [.int p1] C A (by decide) ml_X12_242 yc_X12_isIfHere yv_X12_isIfHere (t_X12_isIfHere p1 s11 Ec) (by decide) sh_248 rfl rfl (Nat.le_of_ble_eq_true rfl) rfl dX12_townLineHere_91 ?_
              obtain ⟨g29, E⟩ := am_gdE E
              replace E := Option.some.inj E
              subst E
              exact as_iret 94 C Z (am_nb g29) dX12_townLineHere_94
          · have E := am_ifF E c34
            refine am_aload_n 73 C dX12_townLineHere_73 rfl 0 rfl ?_
            refine am_iload_n 74 C dX12_townLineHere_74 rfl 1 rfl ?_
            obtain ⟨v31, s32, Ec, E⟩ := am_b2E E
            refine as_callV 75 (s2 := s32) (st := []) (st2 := [.int v31]) [.int p1] C A (by decide) ml_X12_239 yc_X12_isStreetHere yv_X12_isStreetHere (t_X12_isStreetHere p1 s9 Ec) (by decide) sh_248 rfl rfl (Nat.le_of_ble_eq_true rfl) rfl dX12_townLineHere_75 ?_
            obtain ⟨g33, E⟩ := am_gdE E
            replace E := Option.some.inj E
            subst E
            exact as_iret 78 C Z (am_nb g33) dX12_townLineHere_78
        · have E := am_ifF E c38
          refine am_aload_n 58 C dX12_townLineHere_58 rfl 0 rfl ?_
          obtain ⟨v35, s36, Ec, E⟩ := am_b2E E
          refine as_callV 59 (s2 := s36) (st := []) (st2 := [.int v35]) [] C A (by decide) ml_X12_234 yc_X12_isTrustHere yv_X12_isTrustHere (t_X12_isTrustHere  s7 Ec) (by decide) sh_248 rfl rfl (Nat.le_of_ble_eq_true rfl) rfl dX12_townLineHere_59 ?_
          obtain ⟨g37, E⟩ := am_gdE E
          replace E := Option.some.inj E
          subst E
          exact as_iret 62 C Z (am_nb g37) dX12_townLineHere_62
      · have E := am_ifF E c42
        refine am_aload_n 42 C dX12_townLineHere_42 rfl 0 rfl ?_
        refine am_iload_n 43 C dX12_townLineHere_43 rfl 1 rfl ?_
        obtain ⟨v39, s40, Ec, E⟩ := am_b2E E
        refine as_callV 44 (s2 := s40) (st := []) (st2 := [.int v39]) [.int p1] C A (by decide) ml_X12_231 yc_X12_isPersonHere yv_X12_isPersonHere (t_X12_isPersonHere p1 s5 Ec) (by decide) sh_248 rfl rfl (Nat.le_of_ble_eq_true rfl) rfl dX12_townLineHere_44 ?_
        obtain ⟨g41, E⟩ := am_gdE E
        replace E := Option.some.inj E
        subst E
        exact as_iret 47 C Z (am_nb g41) dX12_townLineHere_47
    · have E := am_ifT E c46
      refine am_aload_n 25 C dX12_townLineHere_25 rfl 0 rfl ?_
      refine am_iconst 26 (nI 4) C dX12_townLineHere_26 (by decide) ?_
      refine am_iload_n 27 C dX12_townLineHere_27 rfl 1 rfl ?_
      obtain ⟨v43, s44, Ec, E⟩ := am_b2E E
      refine as_callV 28 (s2 := s44) (st := []) (st2 := [.int v43]) [.int (nI 4), .int p1] C A (by decide) ml_X12_99 yc_X12_fails yv_X12_fails (t_X12_fails (nI 4) p1 s3 Ec) (by decide) sh_248 rfl rfl (Nat.le_of_ble_eq_true rfl) rfl dX12_townLineHere_28 ?_
      obtain ⟨g45, E⟩ := am_gdE E
      replace E := Option.some.inj E
      subst E
      exact as_iret 31 C Z (am_nb g45) dX12_townLineHere_31
  · have E := am_ifF E c50
    refine am_aload_n 10 C dX12_townLineHere_10 rfl 0 rfl ?_
    refine am_iload_n 11 C dX12_townLineHere_11 rfl 1 rfl ?_
    obtain ⟨v47, s48, Ec, E⟩ := am_b2E E
    refine as_callV 12 (s2 := s48) (st := []) (st2 := [.int v47]) [.int p1] C A (by decide) ml_X12_226 yc_X12_areFactsHere yv_X12_areFactsHere (t_X12_areFactsHere p1 s3 Ec) (by decide) sh_248 rfl rfl (Nat.le_of_ble_eq_true rfl) rfl dX12_townLineHere_12 ?_
    obtain ⟨g49, E⟩ := am_gdE E
    replace E := Option.some.inj E
    subst E
    exact as_iret 15 C Z (am_nb g49) dX12_townLineHere_15
def j_X12_isTownWord_45 (v1 : Int32) (s2 : am_S) : Option (Int32 × am_S) :=
  am_if (v1 = 0) (am_b2 (f_X12_isWord (26982 : Int64) s2) (fun v3 s4 => am_if (v3 = 0) (am_b2 (f_X12_isWord (1751216749 : Int64) s4) (fun v5 s6 => am_if (v5 = 0) (am_b2 (f_X12_isWord (426953501796 : Int64) s6) (fun v7 s8 => am_if (v7 = 0) (am_b2 (f_X12_isWord (27988560030557044 : Int64) s8) (fun v9 s10 => am_if (v9 = 0) (some ((0 : Int32), s10)) (some ((1 : Int32), s10)))) (some ((1 : Int32), s8)))) (some ((1 : Int32), s6)))) (some ((1 : Int32), s4)))) (some ((1 : Int32), s2))
def f_X12_isTownWord  (s0 : am_S) : Option (Int32 × am_S) :=
  am_b2 (f_X12_isWord (439720572019 : Int64) s0) (fun v16 s17 => am_if (v16 = 0) (am_b2 (f_X12_isWord (123581014175598 : Int64) s17) (fun v18 s19 => am_if (v18 = 0) (am_b2 (f_X12_isWord (500136506228 : Int64) s19) (fun v20 s21 => am_if (v20 = 0) (am_b2 (f_X12_isWord (126943972648308 : Int64) s21) (fun v22 s23 => am_if (v22 = 0) (j_X12_isTownWord_45 (0 : Int32) s23) (j_X12_isTownWord_45 (1 : Int32) s23))) (j_X12_isTownWord_45 (1 : Int32) s21))) (j_X12_isTownWord_45 (1 : Int32) s19))) (j_X12_isTownWord_45 (1 : Int32) s17))
set_option maxRecDepth 100000 in
set_option maxHeartbeats 4000000 in
theorem t_X12_isTownWord (s0 : am_S) {z : Int32 × am_S} (E : f_X12_isTownWord  s0 = some z) : AS yX12_isTownWord cX12_isTownWord 2 (some .boolean) 3 [.ref 248] s0 (some (.int z.1)) z.2 := by
  unfold f_X12_isTownWord at E
  refine as_met (lv := [(0, .ref 248)]) (by decide +kernel) (by simp [lg_sl, Value.category]) rfl (fun x C A Z => ?_)
  have K45 : ∀ (v1 : Int32) (s2 : am_S), j_X12_isTownWord_45 v1 s2 = some z → AX x 0 0 45 [(0, .ref 248)] [.int v1] am_N (am_h s2) := by
    intro v1 s2 E
    unfold j_X12_isTownWord_45 at E
    refine am_istore_n 45 (lv2 := [(1, .int v1), (0, .ref 248)]) C dX12_isTownWord_45 rfl (by decide) rfl ?_
    refine am_iload_n 46 C dX12_isTownWord_46 rfl 0 rfl ?_
    refine am_if_ne 47 90 C dX12_isTownWord_47 (by decide) (fun c15 => ?_) (fun c15 => ?_)
    · have E := am_ifF E c15
      refine am_iconst 90 (1 : Int32) C dX12_isTownWord_90 (by decide) ?_
      refine am_goto 91 95 C dX12_isTownWord_91 (by decide) ?_
      replace E := Option.some.inj E
      subst E
      exact as_iret 95 C Z rfl dX12_isTownWord_95
    · have E := am_ifT E c15
      refine am_aload_n 50 C dX12_isTownWord_50 rfl 1 rfl ?_
      refine am_ldc2 51 C dX12_isTownWord_51 kl_X12_202 ?_
      obtain ⟨v3, s4, Ec, E⟩ := am_b2E E
      refine as_callV 54 (s2 := s4) (st := []) (st2 := [.int v3]) [.long (26982 : Int64)] C A (by decide) ml_X12_89 yc_X12_isWord yv_X12_isWord (t_X12_isWord (26982 : Int64) s2 Ec) (by decide) sh_248 rfl rfl (Nat.le_of_ble_eq_true rfl) rfl dX12_isTownWord_54 ?_
      refine am_if_ne 57 90 C dX12_isTownWord_57 (by decide) (fun c14 => ?_) (fun c14 => ?_)
      · have E := am_ifF E c14
        refine am_iconst 90 (1 : Int32) C dX12_isTownWord_90 (by decide) ?_
        refine am_goto 91 95 C dX12_isTownWord_91 (by decide) ?_
        replace E := Option.some.inj E
        subst E
        exact as_iret 95 C Z rfl dX12_isTownWord_95
      · have E := am_ifT E c14
        refine am_aload_n 60 C dX12_isTownWord_60 rfl 1 rfl ?_
        refine am_ldc2 61 C dX12_isTownWord_61 kl_X12_130 ?_
        obtain ⟨v5, s6, Ec, E⟩ := am_b2E E
        refine as_callV 64 (s2 := s6) (st := []) (st2 := [.int v5]) [.long (1751216749 : Int64)] C A (by decide) ml_X12_89 yc_X12_isWord yv_X12_isWord (t_X12_isWord (1751216749 : Int64) s4 Ec) (by decide) sh_248 rfl rfl (Nat.le_of_ble_eq_true rfl) rfl dX12_isTownWord_64 ?_
        refine am_if_ne 67 90 C dX12_isTownWord_67 (by decide) (fun c13 => ?_) (fun c13 => ?_)
        · have E := am_ifF E c13
          refine am_iconst 90 (1 : Int32) C dX12_isTownWord_90 (by decide) ?_
          refine am_goto 91 95 C dX12_isTownWord_91 (by decide) ?_
          replace E := Option.some.inj E
          subst E
          exact as_iret 95 C Z rfl dX12_isTownWord_95
        · have E := am_ifT E c13
          refine am_aload_n 70 C dX12_isTownWord_70 rfl 1 rfl ?_
          refine am_ldc2 71 C dX12_isTownWord_71 kl_X12_126 ?_
          obtain ⟨v7, s8, Ec, E⟩ := am_b2E E
          refine as_callV 74 (s2 := s8) (st := []) (st2 := [.int v7]) [.long (426953501796 : Int64)] C A (by decide) ml_X12_89 yc_X12_isWord yv_X12_isWord (t_X12_isWord (426953501796 : Int64) s6 Ec) (by decide) sh_248 rfl rfl (Nat.le_of_ble_eq_true rfl) rfl dX12_isTownWord_74 ?_
          refine am_if_ne 77 90 C dX12_isTownWord_77 (by decide) (fun c12 => ?_) (fun c12 => ?_)
          · have E := am_ifF E c12
            refine am_iconst 90 (1 : Int32) C dX12_isTownWord_90 (by decide) ?_
            refine am_goto 91 95 C dX12_isTownWord_91 (by decide) ?_
            replace E := Option.some.inj E
            subst E
            exact as_iret 95 C Z rfl dX12_isTownWord_95
          · have E := am_ifT E c12
            refine am_aload_n 80 C dX12_isTownWord_80 rfl 1 rfl ?_
            refine am_ldc2 81 C dX12_isTownWord_81 kl_X12_254 ?_
            obtain ⟨v9, s10, Ec, E⟩ := am_b2E E
            refine as_callV 84 (s2 := s10) (st := []) (st2 := [.int v9]) [.long (27988560030557044 : Int64)] C A (by decide) ml_X12_89 yc_X12_isWord yv_X12_isWord (t_X12_isWord (27988560030557044 : Int64) s8 Ec) (by decide) sh_248 rfl rfl (Nat.le_of_ble_eq_true rfl) rfl dX12_isTownWord_84 ?_
            refine am_if_eq 87 94 C dX12_isTownWord_87 (by decide) (fun c11 => ?_) (fun c11 => ?_)
            · have E := am_ifT E c11
              refine am_iconst 94 (0 : Int32) C dX12_isTownWord_94 (by decide) ?_
              replace E := Option.some.inj E
              subst E
              exact as_iret 95 C Z rfl dX12_isTownWord_95
            · have E := am_ifF E c11
              refine am_iconst 90 (1 : Int32) C dX12_isTownWord_90 (by decide) ?_
              refine am_goto 91 95 C dX12_isTownWord_91 (by decide) ?_
              replace E := Option.some.inj E
              subst E
              exact as_iret 95 C Z rfl dX12_isTownWord_95
  refine am_aload_n 0 C dX12_isTownWord_0 rfl 0 rfl ?_
  refine am_ldc2 1 C dX12_isTownWord_1 kl_X12_224 ?_
  obtain ⟨v16, s17, Ec, E⟩ := am_b2E E
  refine as_callV 4 (s2 := s17) (st := []) (st2 := [.int v16]) [.long (439720572019 : Int64)] C A (by decide) ml_X12_89 yc_X12_isWord yv_X12_isWord (t_X12_isWord (439720572019 : Int64) s0 Ec) (by decide) sh_248 rfl rfl (Nat.le_of_ble_eq_true rfl) rfl dX12_isTownWord_4 ?_
  refine am_if_ne 7 40 C dX12_isTownWord_7 (by decide) (fun c27 => ?_) (fun c27 => ?_)
  · have E := am_ifF E c27
    refine am_iconst 40 (1 : Int32) C dX12_isTownWord_40 (by decide) ?_
    refine am_goto 41 45 C dX12_isTownWord_41 (by decide) ?_
    refine am_lvs [0] rfl ?_
    exact K45 _ _ E
  · have E := am_ifT E c27
    refine am_aload_n 10 C dX12_isTownWord_10 rfl 0 rfl ?_
    refine am_ldc2 11 C dX12_isTownWord_11 kl_X12_229 ?_
    obtain ⟨v18, s19, Ec, E⟩ := am_b2E E
    refine as_callV 14 (s2 := s19) (st := []) (st2 := [.int v18]) [.long (123581014175598 : Int64)] C A (by decide) ml_X12_89 yc_X12_isWord yv_X12_isWord (t_X12_isWord (123581014175598 : Int64) s17 Ec) (by decide) sh_248 rfl rfl (Nat.le_of_ble_eq_true rfl) rfl dX12_isTownWord_14 ?_
    refine am_if_ne 17 40 C dX12_isTownWord_17 (by decide) (fun c26 => ?_) (fun c26 => ?_)
    · have E := am_ifF E c26
      refine am_iconst 40 (1 : Int32) C dX12_isTownWord_40 (by decide) ?_
      refine am_goto 41 45 C dX12_isTownWord_41 (by decide) ?_
      refine am_lvs [0] rfl ?_
      exact K45 _ _ E
    · have E := am_ifT E c26
      refine am_aload_n 20 C dX12_isTownWord_20 rfl 0 rfl ?_
      refine am_ldc2 21 C dX12_isTownWord_21 kl_X12_128 ?_
      obtain ⟨v20, s21, Ec, E⟩ := am_b2E E
      refine as_callV 24 (s2 := s21) (st := []) (st2 := [.int v20]) [.long (500136506228 : Int64)] C A (by decide) ml_X12_89 yc_X12_isWord yv_X12_isWord (t_X12_isWord (500136506228 : Int64) s19 Ec) (by decide) sh_248 rfl rfl (Nat.le_of_ble_eq_true rfl) rfl dX12_isTownWord_24 ?_
      refine am_if_ne 27 40 C dX12_isTownWord_27 (by decide) (fun c25 => ?_) (fun c25 => ?_)
      · have E := am_ifF E c25
        refine am_iconst 40 (1 : Int32) C dX12_isTownWord_40 (by decide) ?_
        refine am_goto 41 45 C dX12_isTownWord_41 (by decide) ?_
        refine am_lvs [0] rfl ?_
        exact K45 _ _ E
      · have E := am_ifT E c25
        refine am_aload_n 30 C dX12_isTownWord_30 rfl 0 rfl ?_
        refine am_ldc2 31 C dX12_isTownWord_31 kl_X12_237 ?_
        obtain ⟨v22, s23, Ec, E⟩ := am_b2E E
        refine as_callV 34 (s2 := s23) (st := []) (st2 := [.int v22]) [.long (126943972648308 : Int64)] C A (by decide) ml_X12_89 yc_X12_isWord yv_X12_isWord (t_X12_isWord (126943972648308 : Int64) s21 Ec) (by decide) sh_248 rfl rfl (Nat.le_of_ble_eq_true rfl) rfl dX12_isTownWord_34 ?_
        refine am_if_eq 37 44 C dX12_isTownWord_37 (by decide) (fun c24 => ?_) (fun c24 => ?_)
        · have E := am_ifT E c24
          refine am_iconst 44 (0 : Int32) C dX12_isTownWord_44 (by decide) ?_
          refine am_lvs [0] rfl ?_
          exact K45 _ _ E
        · have E := am_ifF E c24
          refine am_iconst 40 (1 : Int32) C dX12_isTownWord_40 (by decide) ?_
          refine am_goto 41 45 C dX12_isTownWord_41 (by decide) ?_
          refine am_lvs [0] rfl ?_
          exact K45 _ _ E
def j_X12_clauseHere_129 (v1 : Int32) (s2 : am_S) : Option (Int32 × am_S) :=
  am_b2 (f_X12_isDoingHere v1 s2) (fun v3 s4 => am_gd (v3 = 0 ∨ v3 = 1) (some (v3, s4)))
def j_X12_clauseHere_81 (v6 : Int32) (v7 : Int32) (v8 : Int32) (v9 : Int32) (s10 : am_S) : Option (Int32 × am_S) :=
  am_if (v7 = v6) (am_b2 (f_X12_fails (nI 4) v8 s10) (fun v19 s20 => am_gd (v19 = 0 ∨ v19 = 1) (some (v19, s20)))) (am_lt (as_i s10 248 14 ((s10.1 248 14) + (1 : Int32))) (fun s11 => am_if (v9 = 0) (am_b2 (f_X12_isWord (7104869 : Int64) s11) (fun v12 s13 => am_if (v12 = 0) (j_X12_clauseHere_129 (1 : Int32) s13) (j_X12_clauseHere_129 (0 : Int32) s13))) (am_b2 (f_X12_townLineHere v8 s11) (fun v15 s16 => am_gd (v15 = 0 ∨ v15 = 1) (some (v15, s16))))))
def j_X12_clauseHere_66 (v23 : Int32) (v24 : Int32) (s25 : am_S) : Option (Int32 × am_S) :=
  am_if (v24 = 0) (j_X12_clauseHere_81 (nI 12) (s25.1 248 14) v23 v24 s25) (j_X12_clauseHere_81 (nI 40) (s25.1 248 14) v23 v24 s25)
def j_X12_clauseHere_59 (v27 : Int32) (s28 : am_S) : Option (Int32 × am_S) :=
  am_b2 (f_X12_fails (0 : Int32) v27 s28) (fun v29 s30 => am_gd (v29 = 0 ∨ v29 = 1) (some (v29, s30)))
def j_X12_clauseHere_24 (v32 : Int32) (v33 : Int32) (s34 : am_S) : Option (Int32 × am_S) :=
  am_if (v32 = 0) (am_b2 (f_X12_isWord (7104869 : Int64) s34) (fun v35 s36 => am_if (v35 = 0) (am_b2 (f_X12_isWord (7561593 : Int64) s36) (fun v37 s38 => am_if (v37 = 0) (j_X12_clauseHere_59 v33 s38) (j_X12_clauseHere_66 v33 v32 s38))) (j_X12_clauseHere_66 v33 v32 s36))) (am_b2 (f_X12_isTownWord s34) (fun v41 s42 => am_if (v41 = 0) (j_X12_clauseHere_59 v33 s42) (j_X12_clauseHere_66 v33 v32 s42)))
def f_X12_clauseHere  (s0 : am_S) : Option (Int32 × am_S) :=
  am_b2 (f_X12_see s0) (fun v45 s46 => am_lt (s46.1 248 8) (fun v47 => am_if ((s46.1 248 11) = (nI 6)) (j_X12_clauseHere_24 (1 : Int32) v47 s46) (j_X12_clauseHere_24 (0 : Int32) v47 s46)))
set_option maxRecDepth 100000 in
set_option maxHeartbeats 4000000 in
theorem t_X12_clauseHere (s0 : am_S) {z : Int32 × am_S} (E : f_X12_clauseHere  s0 = some z) : AS yX12_clauseHere cX12_clauseHere 3 (some .boolean) 11 [.ref 248] s0 (some (.int z.1)) z.2 := by
  unfold f_X12_clauseHere at E
  refine as_met (lv := [(0, .ref 248)]) (by decide +kernel) (by simp [lg_sl, Value.category]) rfl (fun x C A Z => ?_)
  have K129 : ∀ (v1 : Int32) (s2 : am_S), j_X12_clauseHere_129 v1 s2 = some z → AX x 0 0 129 [(0, .ref 248)] [.int v1, .ref 248] am_N (am_h s2) := by
    intro v1 s2 E
    unfold j_X12_clauseHere_129 at E
    obtain ⟨v3, s4, Ec, E⟩ := am_b2E E
    refine as_callV 129 (s2 := s4) (st := []) (st2 := [.int v3]) [.int v1] C A (by decide) ml_X12_269 yc_X12_isDoingHere yv_X12_isDoingHere (t_X12_isDoingHere v1 s2 Ec) (by decide) sh_248 rfl rfl (Nat.le_of_ble_eq_true rfl) rfl dX12_clauseHere_129 ?_
    obtain ⟨g5, E⟩ := am_gdE E
    replace E := Option.some.inj E
    subst E
    exact as_iret 132 C Z (am_nb g5) dX12_clauseHere_132
  have K81 : ∀ (v6 : Int32) (v7 : Int32) (v8 : Int32) (v9 : Int32) (s10 : am_S), j_X12_clauseHere_81 v6 v7 v8 v9 s10 = some z → AX x 0 0 81 [(0, .ref 248), (1, .int v8), (2, .int v9)] [.int v6, .int v7] am_N (am_h s10) := by
    intro v6 v7 v8 v9 s10 E
    unfold j_X12_clauseHere_81 at E
    refine am_icmp_ne 81 91 C dX12_clauseHere_81 (by decide) (fun c22 => ?_) (fun c22 => ?_)
    · have E := am_ifF E c22
      refine am_aload_n 91 C dX12_clauseHere_91 rfl 0 rfl ?_
      refine am_dup 92 C dX12_clauseHere_92 rfl ?_
      refine as_geti 93 C fl_X12_263_11 dX12_clauseHere_93 (by decide) sh_248 ?_
      refine am_iconst 96 (1 : Int32) C dX12_clauseHere_96 (by decide) ?_
      refine am_iadd 97 C dX12_clauseHere_97 ?_
      obtain ⟨s11, hs11, E⟩ := am_ltE E
      refine as_puti 98 C fl_X12_263_11 dX12_clauseHere_98 (by decide) sh_248 rfl rfl hs11 ?_
      refine am_iload_n 101 C dX12_clauseHere_101 rfl 2 rfl ?_
      refine am_if_eq 102 113 C dX12_clauseHere_102 (by decide) (fun c18 => ?_) (fun c18 => ?_)
      · have E := am_ifT E c18
        refine am_aload_n 113 C dX12_clauseHere_113 rfl 0 rfl ?_
        refine am_aload_n 114 C dX12_clauseHere_114 rfl 0 rfl ?_
        refine am_ldc2 115 C dX12_clauseHere_115 kl_X12_259 ?_
        obtain ⟨v12, s13, Ec, E⟩ := am_b2E E
        refine as_callV 118 (s2 := s13) (st := [.ref 248]) (st2 := [.int v12, .ref 248]) [.long (7104869 : Int64)] C A (by decide) ml_X12_89 yc_X12_isWord yv_X12_isWord (t_X12_isWord (7104869 : Int64) s11 Ec) (by decide) sh_248 rfl rfl (Nat.le_of_ble_eq_true rfl) rfl dX12_clauseHere_118 ?_
        refine am_if_eq 121 128 C dX12_clauseHere_121 (by decide) (fun c14 => ?_) (fun c14 => ?_)
        · have E := am_ifT E c14
          refine am_iconst 128 (1 : Int32) C dX12_clauseHere_128 (by decide) ?_
          refine am_lvs [0] rfl ?_
          exact K129 _ _ E
        · have E := am_ifF E c14
          refine am_iconst 124 (0 : Int32) C dX12_clauseHere_124 (by decide) ?_
          refine am_goto 125 129 C dX12_clauseHere_125 (by decide) ?_
          refine am_lvs [0] rfl ?_
          exact K129 _ _ E
      · have E := am_ifF E c18
        refine am_aload_n 105 C dX12_clauseHere_105 rfl 0 rfl ?_
        refine am_iload_n 106 C dX12_clauseHere_106 rfl 1 rfl ?_
        obtain ⟨v15, s16, Ec, E⟩ := am_b2E E
        refine as_callV 107 (s2 := s16) (st := []) (st2 := [.int v15]) [.int v8] C A (by decide) ml_X12_266 yc_X12_townLineHere yv_X12_townLineHere (t_X12_townLineHere v8 s11 Ec) (by decide) sh_248 rfl rfl (Nat.le_of_ble_eq_true rfl) rfl dX12_clauseHere_107 ?_
        refine am_goto 110 132 C dX12_clauseHere_110 (by decide) ?_
        obtain ⟨g17, E⟩ := am_gdE E
        replace E := Option.some.inj E
        subst E
        exact as_iret 132 C Z (am_nb g17) dX12_clauseHere_132
    · have E := am_ifT E c22
      refine am_aload_n 84 C dX12_clauseHere_84 rfl 0 rfl ?_
      refine am_iconst 85 (nI 4) C dX12_clauseHere_85 (by decide) ?_
      refine am_iload_n 86 C dX12_clauseHere_86 rfl 1 rfl ?_
      obtain ⟨v19, s20, Ec, E⟩ := am_b2E E
      refine as_callV 87 (s2 := s20) (st := []) (st2 := [.int v19]) [.int (nI 4), .int v8] C A (by decide) ml_X12_99 yc_X12_fails yv_X12_fails (t_X12_fails (nI 4) v8 s10 Ec) (by decide) sh_248 rfl rfl (Nat.le_of_ble_eq_true rfl) rfl dX12_clauseHere_87 ?_
      obtain ⟨g21, E⟩ := am_gdE E
      replace E := Option.some.inj E
      subst E
      exact as_iret 90 C Z (am_nb g21) dX12_clauseHere_90
  have K66 : ∀ (v23 : Int32) (v24 : Int32) (s25 : am_S), j_X12_clauseHere_66 v23 v24 s25 = some z → AX x 0 0 66 [(0, .ref 248), (1, .int v23), (2, .int v24)] [] am_N (am_h s25) := by
    intro v23 v24 s25 E
    unfold j_X12_clauseHere_66 at E
    refine am_aload_n 66 C dX12_clauseHere_66 rfl 0 rfl ?_
    refine as_geti 67 C fl_X12_263_11 dX12_clauseHere_67 (by decide) sh_248 ?_
    refine am_iload_n 70 C dX12_clauseHere_70 rfl 2 rfl ?_
    refine am_if_eq 71 79 C dX12_clauseHere_71 (by decide) (fun c26 => ?_) (fun c26 => ?_)
    · have E := am_ifT E c26
      refine am_bipush 79 (nI 12) C dX12_clauseHere_79 (by decide) ?_
      refine am_lvs [0, 1, 2] rfl ?_
      exact K81 _ _ _ _ _ E
    · have E := am_ifF E c26
      refine am_bipush 74 (nI 40) C dX12_clauseHere_74 (by decide) ?_
      refine am_goto 76 81 C dX12_clauseHere_76 (by decide) ?_
      refine am_lvs [0, 1, 2] rfl ?_
      exact K81 _ _ _ _ _ E
  have K59 : ∀ (v27 : Int32) (s28 : am_S), j_X12_clauseHere_59 v27 s28 = some z → AX x 0 0 59 [(0, .ref 248), (1, .int v27)] [] am_N (am_h s28) := by
    intro v27 s28 E
    unfold j_X12_clauseHere_59 at E
    refine am_aload_n 59 C dX12_clauseHere_59 rfl 0 rfl ?_
    refine am_iconst 60 (0 : Int32) C dX12_clauseHere_60 (by decide) ?_
    refine am_iload_n 61 C dX12_clauseHere_61 rfl 1 rfl ?_
    obtain ⟨v29, s30, Ec, E⟩ := am_b2E E
    refine as_callV 62 (s2 := s30) (st := []) (st2 := [.int v29]) [.int (0 : Int32), .int v27] C A (by decide) ml_X12_99 yc_X12_fails yv_X12_fails (t_X12_fails (0 : Int32) v27 s28 Ec) (by decide) sh_248 rfl rfl (Nat.le_of_ble_eq_true rfl) rfl dX12_clauseHere_62 ?_
    obtain ⟨g31, E⟩ := am_gdE E
    replace E := Option.some.inj E
    subst E
    exact as_iret 65 C Z (am_nb g31) dX12_clauseHere_65
  have K24 : ∀ (v32 : Int32) (v33 : Int32) (s34 : am_S), j_X12_clauseHere_24 v32 v33 s34 = some z → AX x 0 0 24 [(0, .ref 248), (1, .int v33)] [.int v32] am_N (am_h s34) := by
    intro v32 v33 s34 E
    unfold j_X12_clauseHere_24 at E
    refine am_istore_n 24 (lv2 := [(2, .int v32), (0, .ref 248), (1, .int v33)]) C dX12_clauseHere_24 rfl (by decide) rfl ?_
    refine am_iload_n 25 C dX12_clauseHere_25 rfl 0 rfl ?_
    refine am_if_eq 26 39 C dX12_clauseHere_26 (by decide) (fun c44 => ?_) (fun c44 => ?_)
    · have E := am_ifT E c44
      refine am_aload_n 39 C dX12_clauseHere_39 rfl 1 rfl ?_
      refine am_ldc2 40 C dX12_clauseHere_40 kl_X12_259 ?_
      obtain ⟨v35, s36, Ec, E⟩ := am_b2E E
      refine as_callV 43 (s2 := s36) (st := []) (st2 := [.int v35]) [.long (7104869 : Int64)] C A (by decide) ml_X12_89 yc_X12_isWord yv_X12_isWord (t_X12_isWord (7104869 : Int64) s34 Ec) (by decide) sh_248 rfl rfl (Nat.le_of_ble_eq_true rfl) rfl dX12_clauseHere_43 ?_
      refine am_if_ne 46 66 C dX12_clauseHere_46 (by decide) (fun c40 => ?_) (fun c40 => ?_)
      · have E := am_ifF E c40
        refine am_lvs [1, 2, 0] rfl ?_
        exact K66 _ _ _ E
      · have E := am_ifT E c40
        refine am_aload_n 49 C dX12_clauseHere_49 rfl 1 rfl ?_
        refine am_ldc2 50 C dX12_clauseHere_50 kl_X12_261 ?_
        obtain ⟨v37, s38, Ec, E⟩ := am_b2E E
        refine as_callV 53 (s2 := s38) (st := []) (st2 := [.int v37]) [.long (7561593 : Int64)] C A (by decide) ml_X12_89 yc_X12_isWord yv_X12_isWord (t_X12_isWord (7561593 : Int64) s36 Ec) (by decide) sh_248 rfl rfl (Nat.le_of_ble_eq_true rfl) rfl dX12_clauseHere_53 ?_
        refine am_if_ne 56 66 C dX12_clauseHere_56 (by decide) (fun c39 => ?_) (fun c39 => ?_)
        · have E := am_ifF E c39
          refine am_lvs [1, 2, 0] rfl ?_
          exact K66 _ _ _ E
        · have E := am_ifT E c39
          refine am_lvs [1, 2] rfl ?_
          exact K59 _ _ E
    · have E := am_ifF E c44
      refine am_aload_n 29 C dX12_clauseHere_29 rfl 1 rfl ?_
      obtain ⟨v41, s42, Ec, E⟩ := am_b2E E
      refine as_callV 30 (s2 := s42) (st := []) (st2 := [.int v41]) [] C A (by decide) ml_X12_256 yc_X12_isTownWord yv_X12_isTownWord (t_X12_isTownWord  s34 Ec) (by decide) sh_248 rfl rfl (Nat.le_of_ble_eq_true rfl) rfl dX12_clauseHere_30 ?_
      refine am_if_ne 33 66 C dX12_clauseHere_33 (by decide) (fun c43 => ?_) (fun c43 => ?_)
      · have E := am_ifF E c43
        refine am_lvs [1, 2, 0] rfl ?_
        exact K66 _ _ _ E
      · have E := am_ifT E c43
        refine am_goto 36 59 C dX12_clauseHere_36 (by decide) ?_
        refine am_lvs [1, 2] rfl ?_
        exact K59 _ _ E
  refine am_aload_n 0 C dX12_clauseHere_0 rfl 0 rfl ?_
  obtain ⟨v45, s46, Ec, E⟩ := am_b2E E
  refine as_callV 1 (s2 := s46) (st := []) (st2 := [.int v45]) [] C A (by decide) ml_X12_81 yc_X12_see yv_X12_see (t_X12_see  s0 Ec) (by decide) sh_248 rfl rfl (Nat.le_of_ble_eq_true rfl) rfl dX12_clauseHere_1 ?_
  refine am_pop 4 C dX12_clauseHere_4 rfl ?_
  refine am_aload_n 5 C dX12_clauseHere_5 rfl 0 rfl ?_
  refine as_geti 6 C fl_X12_78_11 dX12_clauseHere_6 (by decide) sh_248 ?_
  obtain ⟨v47, hv47, E⟩ := am_ltE E
  refine as_nm hv47 ?_
  refine am_istore_n 9 (lv2 := [(1, .int v47), (0, .ref 248)]) C dX12_clauseHere_9 rfl (by decide) rfl ?_
  refine am_aload_n 10 C dX12_clauseHere_10 rfl 1 rfl ?_
  refine as_geti 11 C fl_X12_138_11 dX12_clauseHere_11 (by decide) sh_248 ?_
  refine am_bipush 14 (nI 6) C dX12_clauseHere_14 (by decide) ?_
  refine am_icmp_ne 16 23 C dX12_clauseHere_16 (by decide) (fun c48 => ?_) (fun c48 => ?_)
  · have E := am_ifF E c48
    refine am_iconst 23 (0 : Int32) C dX12_clauseHere_23 (by decide) ?_
    refine am_lvs [1, 0] rfl ?_
    exact K24 _ _ _ E
  · have E := am_ifT E c48
    refine am_iconst 19 (1 : Int32) C dX12_clauseHere_19 (by decide) ?_
    refine am_goto 20 24 C dX12_clauseHere_20 (by decide) ?_
    refine am_lvs [1, 0] rfl ?_
    exact K24 _ _ _ E
def j_X12_readsAll_88 (s1 : am_S) : Option (Int32 × am_S) :=
  am_lt (as_i s1 248 1 (0 : Int32)) (fun s2 => am_if ((s2.1 248 9) = 0) (some ((1 : Int32), s2)) (some ((0 : Int32), s2)))
def j_X12_readsAll_66 (v4 : Int32) (s5 : am_S) : Option (Int32 × am_S) :=
  am_if (v4 = 0) (j_X12_readsAll_88 s5) (am_b2 (f_X12_see s5) (fun v6 s7 => am_if (v6 = (-1 : Int32)) (j_X12_readsAll_88 s7) (am_b2 (f_X12_fails (0 : Int32) (s7.1 248 8) s7) (fun v8 s9 => j_X12_readsAll_88 s9))))
def b_X12_readsAll_35 (v21 : Int32) (s22 : am_S) : Option ((Int32 × am_S) ⊕ (Int32 × am_S)) :=
  am_if (v21 = 0) (am_bd (j_X12_readsAll_66 v21 s22) (fun e23 => some (Sum.inr e23))) (am_b2 (f_X12_see s22) (fun v24 s25 => am_if (v24 = (nI 59)) (am_lt (as_i s25 248 8 ((s25.1 248 8) + (1 : Int32))) (fun s27 => am_b2 (f_X12_clauseHere s27) (fun v28 s29 => some (Sum.inl (v28, s29))))) (am_bd (j_X12_readsAll_66 v21 s25) (fun e26 => some (Sum.inr e26)))))
def f_X12_readsAll  (s0 : am_S) : Option (Int32 × am_S) :=
  am_gd (¬ (s0.1 248 11) < 0 ∧ ((s0.1 248 11)).toNatClampNeg < 7) (am_lt (as_i s0 251 ((s0.1 248 11)).toNatClampNeg (0 : Int32)) (fun s13 => am_lt (as_i s13 248 14 (0 : Int32)) (fun s14 => am_lt (as_i s14 248 8 (0 : Int32)) (fun s15 => am_lt (as_i s15 248 9 (0 : Int32)) (fun s16 => am_lt (as_i s16 248 12 (0 : Int32)) (fun s17 => am_b2 (f_X12_clauseHere s17) (fun v18 s19 => am_lp (fun (q : Int32 × am_S) => b_X12_readsAll_35 q.1 q.2) am_F (v18, s19))))))))
set_option maxRecDepth 100000 in
set_option maxHeartbeats 4000000 in
theorem t_X12_readsAll (s0 : am_S) {z : Int32 × am_S} (E : f_X12_readsAll  s0 = some z) : AS yX12_readsAll cX12_readsAll 2 (some .boolean) 12 [.ref 248] s0 (some (.int z.1)) z.2 := by
  unfold f_X12_readsAll at E
  refine as_met (lv := [(0, .ref 248)]) (by decide +kernel) (by simp [lg_sl, Value.category]) rfl (fun x C A Z => ?_)
  have K88 : ∀ (s1 : am_S), j_X12_readsAll_88 s1 = some z → AX x 0 0 88 [(0, .ref 248)] [] am_N (am_h s1) := by
    intro s1 E
    unfold j_X12_readsAll_88 at E
    refine am_aload_n 88 C dX12_readsAll_88 rfl 0 rfl ?_
    refine am_iconst 89 (0 : Int32) C dX12_readsAll_89 (by decide) ?_
    obtain ⟨s2, hs2, E⟩ := am_ltE E
    refine as_puti 90 C fl_X12_68_11 dX12_readsAll_90 (by decide) sh_248 rfl rfl hs2 ?_
    refine am_aload_n 93 C dX12_readsAll_93 rfl 0 rfl ?_
    refine as_geti 94 C fl_X12_75_11 dX12_readsAll_94 (by decide) sh_248 ?_
    refine am_if_ne 97 104 C dX12_readsAll_97 (by decide) (fun c3 => ?_) (fun c3 => ?_)
    · have E := am_ifF E c3
      refine am_iconst 104 (0 : Int32) C dX12_readsAll_104 (by decide) ?_
      replace E := Option.some.inj E
      subst E
      exact as_iret 105 C Z rfl dX12_readsAll_105
    · have E := am_ifT E c3
      refine am_iconst 100 (1 : Int32) C dX12_readsAll_100 (by decide) ?_
      refine am_goto 101 105 C dX12_readsAll_101 (by decide) ?_
      replace E := Option.some.inj E
      subst E
      exact as_iret 105 C Z rfl dX12_readsAll_105
  have K66 : ∀ (v4 : Int32) (s5 : am_S), j_X12_readsAll_66 v4 s5 = some z → AX x 0 0 66 [(0, .ref 248), (1, .int v4)] [] am_N (am_h s5) := by
    intro v4 s5 E
    unfold j_X12_readsAll_66 at E
    refine am_iload_n 66 C dX12_readsAll_66 rfl 1 rfl ?_
    refine am_if_eq 67 88 C dX12_readsAll_67 (by decide) (fun c11 => ?_) (fun c11 => ?_)
    · have E := am_ifT E c11
      refine am_lvs [0] rfl ?_
      exact K88 _ E
    · have E := am_ifF E c11
      refine am_aload_n 70 C dX12_readsAll_70 rfl 0 rfl ?_
      obtain ⟨v6, s7, Ec, E⟩ := am_b2E E
      refine as_callV 71 (s2 := s7) (st := []) (st2 := [.int v6]) [] C A (by decide) ml_X12_81 yc_X12_see yv_X12_see (t_X12_see  s5 Ec) (by decide) sh_248 rfl rfl (Nat.le_of_ble_eq_true rfl) rfl dX12_readsAll_71 ?_
      refine am_iconst 74 (-1 : Int32) C dX12_readsAll_74 (by decide) ?_
      refine am_icmp_eq 75 88 C dX12_readsAll_75 (by decide) (fun c10 => ?_) (fun c10 => ?_)
      · have E := am_ifT E c10
        refine am_lvs [0] rfl ?_
        exact K88 _ E
      · have E := am_ifF E c10
        refine am_aload_n 78 C dX12_readsAll_78 rfl 0 rfl ?_
        refine am_iconst 79 (0 : Int32) C dX12_readsAll_79 (by decide) ?_
        refine am_aload_n 80 C dX12_readsAll_80 rfl 0 rfl ?_
        refine as_geti 81 C fl_X12_78_11 dX12_readsAll_81 (by decide) sh_248 ?_
        obtain ⟨v8, s9, Ec, E⟩ := am_b2E E
        refine as_callV 84 (s2 := s9) (st := []) (st2 := [.int v8]) [.int (0 : Int32), .int (s7.1 248 8)] C A (by decide) ml_X12_99 yc_X12_fails yv_X12_fails (t_X12_fails (0 : Int32) (s7.1 248 8) s7 Ec) (by decide) sh_248 rfl rfl (Nat.le_of_ble_eq_true rfl) rfl dX12_readsAll_84 ?_
        refine am_pop 87 C dX12_readsAll_87 rfl ?_
        refine am_lvs [0] rfl ?_
        exact K88 _ E
  refine am_aload_n 0 C dX12_readsAll_0 rfl 0 rfl ?_
  refine as_getr 1 C fl_X12_17_11 dX12_readsAll_1 (by decide) sh_248 (rf_248_4 _ _) ?_
  refine am_aload_n 4 C dX12_readsAll_4 rfl 0 rfl ?_
  refine as_geti 5 C fl_X12_138_11 dX12_readsAll_5 (by decide) sh_248 ?_
  refine am_iconst 8 (0 : Int32) C dX12_readsAll_8 (by decide) ?_
  obtain ⟨g12, E⟩ := am_gdE E
  obtain ⟨s13, hs13, E⟩ := am_ltE E
  refine as_iast 9 C dX12_readsAll_9 (by decide) sh_251 g12 hs13 ?_
  refine am_aload_n 10 C dX12_readsAll_10 rfl 0 rfl ?_
  refine am_iconst 11 (0 : Int32) C dX12_readsAll_11 (by decide) ?_
  obtain ⟨s14, hs14, E⟩ := am_ltE E
  refine as_puti 12 C fl_X12_263_11 dX12_readsAll_12 (by decide) sh_248 rfl rfl hs14 ?_
  refine am_aload_n 15 C dX12_readsAll_15 rfl 0 rfl ?_
  refine am_iconst 16 (0 : Int32) C dX12_readsAll_16 (by decide) ?_
  obtain ⟨s15, hs15, E⟩ := am_ltE E
  refine as_puti 17 C fl_X12_78_11 dX12_readsAll_17 (by decide) sh_248 rfl rfl hs15 ?_
  refine am_aload_n 20 C dX12_readsAll_20 rfl 0 rfl ?_
  refine am_iconst 21 (0 : Int32) C dX12_readsAll_21 (by decide) ?_
  obtain ⟨s16, hs16, E⟩ := am_ltE E
  refine as_puti 22 C fl_X12_75_11 dX12_readsAll_22 (by decide) sh_248 rfl rfl hs16 ?_
  refine am_aload_n 25 C dX12_readsAll_25 rfl 0 rfl ?_
  refine am_iconst 26 (0 : Int32) C dX12_readsAll_26 (by decide) ?_
  obtain ⟨s17, hs17, E⟩ := am_ltE E
  refine as_puti 27 C fl_X12_141_11 dX12_readsAll_27 (by decide) sh_248 rfl rfl hs17 ?_
  refine am_aload_n 30 C dX12_readsAll_30 rfl 0 rfl ?_
  obtain ⟨v18, s19, Ec, E⟩ := am_b2E E
  refine as_callV 31 (s2 := s19) (st := []) (st2 := [.int v18]) [] C A (by decide) ml_X12_272 yc_X12_clauseHere yv_X12_clauseHere (t_X12_clauseHere  s17 Ec) (by decide) sh_248 rfl rfl (Nat.le_of_ble_eq_true rfl) rfl dX12_readsAll_31 ?_
  refine am_istore_n 34 (lv2 := [(1, .int v18), (0, .ref 248)]) C dX12_readsAll_34 rfl (by decide) rfl ?_
  have LP20 : ∀ (n : Nat) (v21 : Int32) (s22 : am_S), am_lp (fun (q : Int32 × am_S) => b_X12_readsAll_35 q.1 q.2) n (v21, s22) = some z → AX x 0 0 35 [(0, .ref 248), (1, .int v21)] [] am_N (am_h s22) := by
    intro n
    induction n with
    | zero => intro v21 s22 E; exact (am_lp0 E).elim
    | succ n ih20 =>
      intro v21 s22 E
      obtain ⟨r20, E, Er20⟩ := am_lpE E
      replace E : b_X12_readsAll_35 v21 s22 = some r20 := E
      unfold b_X12_readsAll_35 at E
      refine am_iload_n 35 C dX12_readsAll_35 rfl 1 rfl ?_
      refine am_if_eq 36 66 C dX12_readsAll_36 (by decide) (fun c31 => ?_) (fun c31 => ?_)
      · have E := am_ifT E c31
        obtain ⟨e23, E, E2⟩ := am_bdE E
        replace E2 := Option.some.inj E2
        replace E2 := am_exR E2 Er20
        rw [E2] at E
        refine am_lvs [0, 1] rfl ?_
        exact K66 _ _ E
      · have E := am_ifF E c31
        refine am_aload_n 39 C dX12_readsAll_39 rfl 0 rfl ?_
        obtain ⟨v24, s25, Ec, E⟩ := am_b2E E
        refine as_callV 40 (s2 := s25) (st := []) (st2 := [.int v24]) [] C A (by decide) ml_X12_81 yc_X12_see yv_X12_see (t_X12_see  s22 Ec) (by decide) sh_248 rfl rfl (Nat.le_of_ble_eq_true rfl) rfl dX12_readsAll_40 ?_
        refine am_bipush 43 (nI 59) C dX12_readsAll_43 (by decide) ?_
        refine am_icmp_ne 45 66 C dX12_readsAll_45 (by decide) (fun c30 => ?_) (fun c30 => ?_)
        · have E := am_ifF E c30
          obtain ⟨e26, E, E2⟩ := am_bdE E
          replace E2 := Option.some.inj E2
          replace E2 := am_exR E2 Er20
          rw [E2] at E
          refine am_lvs [0, 1] rfl ?_
          exact K66 _ _ E
        · have E := am_ifT E c30
          refine am_aload_n 48 C dX12_readsAll_48 rfl 0 rfl ?_
          refine am_dup 49 C dX12_readsAll_49 rfl ?_
          refine as_geti 50 C fl_X12_78_11 dX12_readsAll_50 (by decide) sh_248 ?_
          refine am_iconst 53 (1 : Int32) C dX12_readsAll_53 (by decide) ?_
          refine am_iadd 54 C dX12_readsAll_54 ?_
          obtain ⟨s27, hs27, E⟩ := am_ltE E
          refine as_puti 55 C fl_X12_78_11 dX12_readsAll_55 (by decide) sh_248 rfl rfl hs27 ?_
          refine am_aload_n 58 C dX12_readsAll_58 rfl 0 rfl ?_
          obtain ⟨v28, s29, Ec, E⟩ := am_b2E E
          refine as_callV 59 (s2 := s29) (st := []) (st2 := [.int v28]) [] C A (by decide) ml_X12_272 yc_X12_clauseHere yv_X12_clauseHere (t_X12_clauseHere  s27 Ec) (by decide) sh_248 rfl rfl (Nat.le_of_ble_eq_true rfl) rfl dX12_readsAll_59 ?_
          refine am_istore_n 62 (lv2 := [(1, .int v28), (0, .ref 248)]) C dX12_readsAll_62 rfl (by decide) rfl ?_
          refine am_goto 63 35 C dX12_readsAll_63 (by decide) ?_
          replace E := Option.some.inj E
          replace E := am_exL E Er20
          refine am_lvs [1, 0] rfl ?_
          exact ih20 _ _ E
  refine am_lvs [1, 0] rfl ?_
  exact LP20 am_F _ _ E
def f_X12_rule  (s0 : am_S) : Option (Int32 × am_S) :=
  am_if ((s0.1 248 2) = (nI 6)) (some ((-1 : Int32), s0)) (am_lt (as_i s0 248 11 (s0.1 248 2)) (fun s1 => am_gd (¬ (s1.1 248 11) < 0 ∧ ((s1.1 248 11)).toNatClampNeg < 6) (am_lt (as_i s1 253 ((s1.1 248 11)).toNatClampNeg (0 : Int32)) (fun s3 => am_b2 (f_X12_readsAll s3) (fun v4 s5 => am_if (v4 = 0) (some (((-2 : Int32) - (s5.1 248 9)), s5)) (am_lt (as_i s5 248 2 ((s5.1 248 2) + (1 : Int32))) (fun s6 => some (((s6.1 248 2) - (1 : Int32)), s6))))))))
set_option maxRecDepth 100000 in
set_option maxHeartbeats 4000000 in
theorem t_X12_rule (s0 : am_S) {z : Int32 × am_S} (E : f_X12_rule  s0 = some z) : AS yX12_rule cX12_rule 1 (some .int) 13 [.ref 248] s0 (some (.int z.1)) z.2 := by
  unfold f_X12_rule at E
  refine as_met (lv := [(0, .ref 248)]) (by decide +kernel) (by simp [lg_sl, Value.category]) rfl (fun x C A Z => ?_)
  refine am_aload_n 0 C dX12_rule_0 rfl 0 rfl ?_
  refine as_geti 1 C fl_X12_275_11 dX12_rule_1 (by decide) sh_248 ?_
  refine am_bipush 4 (nI 6) C dX12_rule_4 (by decide) ?_
  refine am_icmp_ne 6 11 C dX12_rule_6 (by decide) (fun c8 => ?_) (fun c8 => ?_)
  · have E := am_ifF E c8
    refine am_aload_n 11 C dX12_rule_11 rfl 0 rfl ?_
    refine am_aload_n 12 C dX12_rule_12 rfl 0 rfl ?_
    refine as_geti 13 C fl_X12_275_11 dX12_rule_13 (by decide) sh_248 ?_
    obtain ⟨s1, hs1, E⟩ := am_ltE E
    refine as_puti 16 C fl_X12_138_11 dX12_rule_16 (by decide) sh_248 rfl rfl hs1 ?_
    refine am_aload_n 19 C dX12_rule_19 rfl 0 rfl ?_
    refine as_getr 20 C fl_X12_23_11 dX12_rule_20 (by decide) sh_248 (rf_248_6 _ _) ?_
    refine am_aload_n 23 C dX12_rule_23 rfl 0 rfl ?_
    refine as_geti 24 C fl_X12_138_11 dX12_rule_24 (by decide) sh_248 ?_
    refine am_iconst 27 (0 : Int32) C dX12_rule_27 (by decide) ?_
    obtain ⟨g2, E⟩ := am_gdE E
    obtain ⟨s3, hs3, E⟩ := am_ltE E
    refine as_iast 28 C dX12_rule_28 (by decide) sh_253 g2 hs3 ?_
    refine am_aload_n 29 C dX12_rule_29 rfl 0 rfl ?_
    obtain ⟨v4, s5, Ec, E⟩ := am_b2E E
    refine as_callV 30 (s2 := s5) (st := []) (st2 := [.int v4]) [] C A (by decide) ml_X12_278 yc_X12_readsAll yv_X12_readsAll (t_X12_readsAll  s3 Ec) (by decide) sh_248 rfl rfl (Nat.le_of_ble_eq_true rfl) rfl dX12_rule_30 ?_
    refine am_if_ne 33 44 C dX12_rule_33 (by decide) (fun c7 => ?_) (fun c7 => ?_)
    · have E := am_ifF E c7
      refine am_aload_n 44 C dX12_rule_44 rfl 0 rfl ?_
      refine am_dup 45 C dX12_rule_45 rfl ?_
      refine as_geti 46 C fl_X12_275_11 dX12_rule_46 (by decide) sh_248 ?_
      refine am_iconst 49 (1 : Int32) C dX12_rule_49 (by decide) ?_
      refine am_iadd 50 C dX12_rule_50 ?_
      obtain ⟨s6, hs6, E⟩ := am_ltE E
      refine as_puti 51 C fl_X12_275_11 dX12_rule_51 (by decide) sh_248 rfl rfl hs6 ?_
      refine am_aload_n 54 C dX12_rule_54 rfl 0 rfl ?_
      refine as_geti 55 C fl_X12_275_11 dX12_rule_55 (by decide) sh_248 ?_
      refine am_iconst 58 (1 : Int32) C dX12_rule_58 (by decide) ?_
      refine am_isub 59 C dX12_rule_59 ?_
      replace E := Option.some.inj E
      subst E
      exact as_iret 60 C Z rfl dX12_rule_60
    · have E := am_ifT E c7
      refine am_bipush 36 (-2 : Int32) C dX12_rule_36 (by decide) ?_
      refine am_aload_n 38 C dX12_rule_38 rfl 0 rfl ?_
      refine as_geti 39 C fl_X12_75_11 dX12_rule_39 (by decide) sh_248 ?_
      refine am_isub 42 C dX12_rule_42 ?_
      replace E := Option.some.inj E
      subst E
      exact as_iret 43 C Z rfl dX12_rule_43
  · have E := am_ifT E c8
    refine am_iconst 9 (-1 : Int32) C dX12_rule_9 (by decide) ?_
    replace E := Option.some.inj E
    subst E
    exact as_iret 10 C Z rfl dX12_rule_10
def j_X12_town_89 (s1 : am_S) : Option (Int32 × am_S) :=
  am_lt (as_i s1 258 8 (-1 : Int32)) (fun s2 => am_lt (as_i s2 258 9 (-1 : Int32)) (fun s3 => am_lt (as_i s3 248 25 (0 : Int32)) (fun s4 => some ((s4.1 258 2), s4))))
def b_X12_town_53 (v10 : Int32) (s11 : am_S) : Option ((Int32 × am_S) ⊕ (Int32 × am_S)) :=
  am_if ((nI 328) ≤ v10) (am_bd (j_X12_town_89 s11) (fun e12 => some (Sum.inr e12))) (am_if ((nI 270) ≤ v10) (am_gd (¬ v10 < 0 ∧ (v10).toNatClampNeg < 328) (am_lt (as_i s11 258 (v10).toNatClampNeg (0 : Int32)) (fun s14 => am_lt (v10 + (1 : Int32)) (fun v15 => some (Sum.inl (v15, s14)))))) (am_gd (¬ v10 < 0 ∧ (v10).toNatClampNeg < 270) (am_gd (¬ v10 < 0 ∧ (v10).toNatClampNeg < 328) (am_lt (as_i s11 258 (v10).toNatClampNeg (s11.1 254 (v10).toNatClampNeg)) (fun s18 => am_lt (v10 + (1 : Int32)) (fun v19 => some (Sum.inl (v19, s18))))))))
def j_X12_town_27 (s5 : am_S) : Option (Int32 × am_S) :=
  am_lt (as_i s5 254 269 (0 : Int32)) (fun s6 => am_b2 (f_X12_readsAll s6) (fun v7 s8 => am_if (v7 = 0) (some (((-2 : Int32) - (s8.1 248 9)), s8)) (am_lp (fun (q : Int32 × am_S) => b_X12_town_53 q.1 q.2) am_F ((0 : Int32), s8))))
def b_X12_town_8 (v25 : Int32) (s26 : am_S) : Option ((Int32 × am_S) ⊕ (Int32 × am_S)) :=
  am_if ((nI 11) ≤ v25) (am_bd (j_X12_town_27 s26) (fun e27 => some (Sum.inr e27))) (am_gd (¬ v25 < 0 ∧ (v25).toNatClampNeg < 270) (am_lt (as_i s26 254 (v25).toNatClampNeg (0 : Int32)) (fun s29 => am_lt (v25 + (1 : Int32)) (fun v30 => some (Sum.inl (v30, s29))))))
def f_X12_town  (s0 : am_S) : Option (Int32 × am_S) :=
  am_lt (as_i s0 248 11 (nI 6)) (fun s23 => am_lp (fun (q : Int32 × am_S) => b_X12_town_8 q.1 q.2) am_F ((0 : Int32), s23))
set_option maxRecDepth 100000 in
set_option maxHeartbeats 4000000 in
theorem t_X12_town (s0 : am_S) {z : Int32 × am_S} (E : f_X12_town  s0 = some z) : AS yX12_town cX12_town 2 (some .int) 13 [.ref 248] s0 (some (.int z.1)) z.2 := by
  unfold f_X12_town at E
  refine as_met (lv := [(0, .ref 248)]) (by decide +kernel) (by simp [lg_sl, Value.category]) rfl (fun x C A Z => ?_)
  have K89 : ∀ (s1 : am_S), j_X12_town_89 s1 = some z → AX x 0 0 89 [(0, .ref 248)] [] am_N (am_h s1) := by
    intro s1 E
    unfold j_X12_town_89 at E
    refine am_aload_n 89 C dX12_town_89 rfl 0 rfl ?_
    refine as_getr 90 C fl_X12_39_11 dX12_town_90 (by decide) sh_248 (rf_248_20 _ _) ?_
    refine am_bipush 93 (nI 8) C dX12_town_93 (by decide) ?_
    refine am_iconst 95 (-1 : Int32) C dX12_town_95 (by decide) ?_
    obtain ⟨s2, hs2, E⟩ := am_ltE E
    refine as_iastK 96 8 C dX12_town_96 (by decide) sh_258 (by decide) (by decide) hs2 ?_
    refine am_aload_n 97 C dX12_town_97 rfl 0 rfl ?_
    refine as_getr 98 C fl_X12_39_11 dX12_town_98 (by decide) sh_248 (rf_248_20 _ _) ?_
    refine am_bipush 101 (nI 9) C dX12_town_101 (by decide) ?_
    refine am_iconst 103 (-1 : Int32) C dX12_town_103 (by decide) ?_
    obtain ⟨s3, hs3, E⟩ := am_ltE E
    refine as_iastK 104 9 C dX12_town_104 (by decide) sh_258 (by decide) (by decide) hs3 ?_
    refine am_aload_n 105 C dX12_town_105 rfl 0 rfl ?_
    refine am_iconst 106 (0 : Int32) C dX12_town_106 (by decide) ?_
    obtain ⟨s4, hs4, E⟩ := am_ltE E
    refine as_puti 107 C fl_X12_281_11 dX12_town_107 (by decide) sh_248 rfl rfl hs4 ?_
    refine am_aload_n 110 C dX12_town_110 rfl 0 rfl ?_
    refine as_getr 111 C fl_X12_39_11 dX12_town_111 (by decide) sh_248 (rf_248_20 _ _) ?_
    refine am_iconst 114 (nI 2) C dX12_town_114 (by decide) ?_
    refine as_ialdK 115 2 C dX12_town_115 (by decide) sh_258 (by decide) (by decide) ?_
    replace E := Option.some.inj E
    subst E
    exact as_iret 116 C Z rfl dX12_town_116
  have K27 : ∀ (s5 : am_S), j_X12_town_27 s5 = some z → AX x 0 0 27 [(0, .ref 248)] [] am_N (am_h s5) := by
    intro s5 E
    unfold j_X12_town_27 at E
    refine am_aload_n 27 C dX12_town_27 rfl 0 rfl ?_
    refine as_getr 28 C fl_X12_26_11 dX12_town_28 (by decide) sh_248 (rf_248_7 _ _) ?_
    refine am_sipush 31 (nI 269) C dX12_town_31 (by decide) ?_
    refine am_iconst 34 (0 : Int32) C dX12_town_34 (by decide) ?_
    obtain ⟨s6, hs6, E⟩ := am_ltE E
    refine as_iastK 35 269 C dX12_town_35 (by decide) sh_254 (by decide) (by decide) hs6 ?_
    refine am_aload_n 36 C dX12_town_36 rfl 0 rfl ?_
    obtain ⟨v7, s8, Ec, E⟩ := am_b2E E
    refine as_callV 37 (s2 := s8) (st := []) (st2 := [.int v7]) [] C A (by decide) ml_X12_278 yc_X12_readsAll yv_X12_readsAll (t_X12_readsAll  s6 Ec) (by decide) sh_248 rfl rfl (Nat.le_of_ble_eq_true rfl) rfl dX12_town_37 ?_
    refine am_if_ne 40 51 C dX12_town_40 (by decide) (fun c22 => ?_) (fun c22 => ?_)
    · have E := am_ifF E c22
      refine am_iconst 51 (0 : Int32) C dX12_town_51 (by decide) ?_
      refine am_istore_n 52 (lv2 := [(1, .int (0 : Int32)), (0, .ref 248)]) C dX12_town_52 rfl (by decide) rfl ?_
      have LP9 : ∀ (n : Nat) (v10 : Int32) (s11 : am_S), am_lp (fun (q : Int32 × am_S) => b_X12_town_53 q.1 q.2) n (v10, s11) = some z → AX x 0 0 53 [(0, .ref 248), (1, .int v10)] [] am_N (am_h s11) := by
        intro n
        induction n with
        | zero => intro v10 s11 E; exact (am_lp0 E).elim
        | succ n ih9 =>
          intro v10 s11 E
          obtain ⟨r9, E, Er9⟩ := am_lpE E
          replace E : b_X12_town_53 v10 s11 = some r9 := E
          unfold b_X12_town_53 at E
          refine am_iload_n 53 C dX12_town_53 rfl 1 rfl ?_
          refine am_sipush 54 (nI 328) C dX12_town_54 (by decide) ?_
          refine am_icmp_ge 57 89 C dX12_town_57 (by decide) (fun c21 => ?_) (fun c21 => ?_)
          · have E := am_ifT E c21
            obtain ⟨e12, E, E2⟩ := am_bdE E
            replace E2 := Option.some.inj E2
            replace E2 := am_exR E2 Er9
            rw [E2] at E
            refine am_lvs [0] rfl ?_
            exact K89 _ E
          · have E := am_ifF E c21
            refine am_aload_n 60 C dX12_town_60 rfl 0 rfl ?_
            refine as_getr 61 C fl_X12_39_11 dX12_town_61 (by decide) sh_248 (rf_248_20 _ _) ?_
            refine am_iload_n 64 C dX12_town_64 rfl 1 rfl ?_
            refine am_iload_n 65 C dX12_town_65 rfl 1 rfl ?_
            refine am_sipush 66 (nI 270) C dX12_town_66 (by decide) ?_
            refine am_icmp_ge 69 81 C dX12_town_69 (by decide) (fun c20 => ?_) (fun c20 => ?_)
            · have E := am_ifT E c20
              refine am_iconst 81 (0 : Int32) C dX12_town_81 (by decide) ?_
              obtain ⟨g13, E⟩ := am_gdE E
              obtain ⟨s14, hs14, E⟩ := am_ltE E
              refine as_iast 82 C dX12_town_82 (by decide) sh_258 g13 hs14 ?_
              obtain ⟨v15, hv15, E⟩ := am_ltE E
              refine as_iinc 83 (q := (1 : Int32)) (lv2 := [(1, .int v15), (0, .ref 248)]) C dX12_town_83 1 rfl (by decide) hv15 (by decide) rfl ?_
              refine am_goto 86 53 C dX12_town_86 (by decide) ?_
              replace E := Option.some.inj E
              replace E := am_exL E Er9
              refine am_lvs [1, 0] rfl ?_
              exact ih9 _ _ E
            · have E := am_ifF E c20
              refine am_aload_n 72 C dX12_town_72 rfl 0 rfl ?_
              refine as_getr 73 C fl_X12_26_11 dX12_town_73 (by decide) sh_248 (rf_248_7 _ _) ?_
              refine am_iload_n 76 C dX12_town_76 rfl 1 rfl ?_
              obtain ⟨g16, E⟩ := am_gdE E
              refine as_iald 77 C dX12_town_77 (by decide) sh_254 g16 ?_
              refine am_goto 78 82 C dX12_town_78 (by decide) ?_
              obtain ⟨g17, E⟩ := am_gdE E
              obtain ⟨s18, hs18, E⟩ := am_ltE E
              refine as_iast 82 C dX12_town_82 (by decide) sh_258 g17 hs18 ?_
              obtain ⟨v19, hv19, E⟩ := am_ltE E
              refine as_iinc 83 (q := (1 : Int32)) (lv2 := [(1, .int v19), (0, .ref 248)]) C dX12_town_83 1 rfl (by decide) hv19 (by decide) rfl ?_
              refine am_goto 86 53 C dX12_town_86 (by decide) ?_
              replace E := Option.some.inj E
              replace E := am_exL E Er9
              refine am_lvs [1, 0] rfl ?_
              exact ih9 _ _ E
      refine am_lvs [1, 0] rfl ?_
      exact LP9 am_F _ _ E
    · have E := am_ifT E c22
      refine am_bipush 43 (-2 : Int32) C dX12_town_43 (by decide) ?_
      refine am_aload_n 45 C dX12_town_45 rfl 0 rfl ?_
      refine as_geti 46 C fl_X12_75_11 dX12_town_46 (by decide) sh_248 ?_
      refine am_isub 49 C dX12_town_49 ?_
      replace E := Option.some.inj E
      subst E
      exact as_iret 50 C Z rfl dX12_town_50
  refine am_aload_n 0 C dX12_town_0 rfl 0 rfl ?_
  refine am_bipush 1 (nI 6) C dX12_town_1 (by decide) ?_
  obtain ⟨s23, hs23, E⟩ := am_ltE E
  refine as_puti 3 C fl_X12_138_11 dX12_town_3 (by decide) sh_248 rfl rfl hs23 ?_
  refine am_iconst 6 (0 : Int32) C dX12_town_6 (by decide) ?_
  refine am_istore_n 7 (lv2 := [(1, .int (0 : Int32)), (0, .ref 248)]) C dX12_town_7 rfl (by decide) rfl ?_
  have LP24 : ∀ (n : Nat) (v25 : Int32) (s26 : am_S), am_lp (fun (q : Int32 × am_S) => b_X12_town_8 q.1 q.2) n (v25, s26) = some z → AX x 0 0 8 [(0, .ref 248), (1, .int v25)] [] am_N (am_h s26) := by
    intro n
    induction n with
    | zero => intro v25 s26 E; exact (am_lp0 E).elim
    | succ n ih24 =>
      intro v25 s26 E
      obtain ⟨r24, E, Er24⟩ := am_lpE E
      replace E : b_X12_town_8 v25 s26 = some r24 := E
      unfold b_X12_town_8 at E
      refine am_iload_n 8 C dX12_town_8 rfl 1 rfl ?_
      refine am_bipush 9 (nI 11) C dX12_town_9 (by decide) ?_
      refine am_icmp_ge 11 27 C dX12_town_11 (by decide) (fun c31 => ?_) (fun c31 => ?_)
      · have E := am_ifT E c31
        obtain ⟨e27, E, E2⟩ := am_bdE E
        replace E2 := Option.some.inj E2
        replace E2 := am_exR E2 Er24
        rw [E2] at E
        refine am_lvs [0] rfl ?_
        exact K27 _ E
      · have E := am_ifF E c31
        refine am_aload_n 14 C dX12_town_14 rfl 0 rfl ?_
        refine as_getr 15 C fl_X12_26_11 dX12_town_15 (by decide) sh_248 (rf_248_7 _ _) ?_
        refine am_iload_n 18 C dX12_town_18 rfl 1 rfl ?_
        refine am_iconst 19 (0 : Int32) C dX12_town_19 (by decide) ?_
        obtain ⟨g28, E⟩ := am_gdE E
        obtain ⟨s29, hs29, E⟩ := am_ltE E
        refine as_iast 20 C dX12_town_20 (by decide) sh_254 g28 hs29 ?_
        obtain ⟨v30, hv30, E⟩ := am_ltE E
        refine as_iinc 21 (q := (1 : Int32)) (lv2 := [(1, .int v30), (0, .ref 248)]) C dX12_town_21 1 rfl (by decide) hv30 (by decide) rfl ?_
        refine am_goto 24 8 C dX12_town_24 (by decide) ?_
        replace E := Option.some.inj E
        replace E := am_exL E Er24
        refine am_lvs [1, 0] rfl ?_
        exact ih24 _ _ E
  refine am_lvs [1, 0] rfl ?_
  exact LP24 am_F _ _ E
def f_X12_isRule (p1 : Int32) (s0 : am_S) : Option (Int32) :=
  am_if (p1 < 0) (some (0 : Int32)) (am_if ((s0.1 248 2) ≤ p1) (some (0 : Int32)) (some (1 : Int32)))
set_option maxRecDepth 100000 in
set_option maxHeartbeats 4000000 in
theorem t_X12_isRule (p1 : Int32) (s0 : am_S) {z : Int32} (E : f_X12_isRule p1 s0 = some z) : AS yX12_isRule cX12_isRule 2 (some .boolean) 1 [.ref 248, .int p1] s0 (some (.int z)) s0 := by
  unfold f_X12_isRule at E
  refine as_met (lv := [(0, .ref 248), (1, .int p1)]) (by decide +kernel) (by simp [lg_sl, Value.category]) rfl (fun x C A Z => ?_)
  refine am_iload_n 0 C dX12_isRule_0 rfl 1 rfl ?_
  refine am_if_lt 1 16 C dX12_isRule_1 (by decide) (fun c3 => ?_) (fun c3 => ?_)
  · have E := am_ifT E c3
    refine am_iconst 16 (0 : Int32) C dX12_isRule_16 (by decide) ?_
    replace E := Option.some.inj E
    subst E
    exact as_iret 17 C Z rfl dX12_isRule_17
  · have E := am_ifF E c3
    refine am_iload_n 4 C dX12_isRule_4 rfl 1 rfl ?_
    refine am_aload_n 5 C dX12_isRule_5 rfl 0 rfl ?_
    refine as_geti 6 C fl_X12_275_11 dX12_isRule_6 (by decide) sh_248 ?_
    refine am_icmp_ge 9 16 C dX12_isRule_9 (by decide) (fun c2 => ?_) (fun c2 => ?_)
    · have E := am_ifT E c2
      refine am_iconst 16 (0 : Int32) C dX12_isRule_16 (by decide) ?_
      replace E := Option.some.inj E
      subst E
      exact as_iret 17 C Z rfl dX12_isRule_17
    · have E := am_ifF E c2
      refine am_iconst 12 (1 : Int32) C dX12_isRule_12 (by decide) ?_
      refine am_goto 13 17 C dX12_isRule_13 (by decide) ?_
      replace E := Option.some.inj E
      subst E
      exact as_iret 17 C Z rfl dX12_isRule_17
def f_X12_push (w1 : Int64) (s0 : am_S) : Option (am_S) :=
  am_gd (¬ (s0.1 248 18) < 0 ∧ ((s0.1 248 18)).toNatClampNeg < 64) (am_lt (as_j s0 256 ((s0.1 248 18)).toNatClampNeg w1) (fun s3 => am_lt (as_i s3 248 18 ((s3.1 248 18) + (1 : Int32))) (fun s4 => some s4)))
set_option maxRecDepth 100000 in
set_option maxHeartbeats 4000000 in
theorem t_X12_push (w1 : Int64) (s0 : am_S) {z : am_S} (E : f_X12_push w1 s0 = some z) : AS yX12_push cX12_push 3 none 1 [.ref 248, .long w1] s0 none z := by
  unfold f_X12_push at E
  refine as_met (lv := [(0, .ref 248), (1, .long w1)]) (by decide +kernel) (by simp [lg_sl, Value.category]) rfl (fun x C A Z => ?_)
  refine am_aload_n 0 C dX12_push_0 rfl 0 rfl ?_
  refine as_getr 1 C fl_X12_32_11 dX12_push_1 (by decide) sh_248 (rf_248_17 _ _) ?_
  refine am_aload_n 4 C dX12_push_4 rfl 0 rfl ?_
  refine as_geti 5 C fl_X12_284_11 dX12_push_5 (by decide) sh_248 ?_
  refine am_lload_n 8 C dX12_push_8 rfl 1 rfl ?_
  obtain ⟨g2, E⟩ := am_gdE E
  obtain ⟨s3, hs3, E⟩ := am_ltE E
  refine as_last 9 C dX12_push_9 (by decide) sh_256 g2 hs3 ?_
  refine am_aload_n 10 C dX12_push_10 rfl 0 rfl ?_
  refine am_dup 11 C dX12_push_11 rfl ?_
  refine as_geti 12 C fl_X12_284_11 dX12_push_12 (by decide) sh_248 ?_
  refine am_iconst 15 (1 : Int32) C dX12_push_15 (by decide) ?_
  refine am_iadd 16 C dX12_push_16 ?_
  obtain ⟨s4, hs4, E⟩ := am_ltE E
  refine as_puti 17 C fl_X12_284_11 dX12_push_17 (by decide) sh_248 rfl rfl hs4 ?_
  replace E := Option.some.inj E
  subst E
  exact as_vret 20 C Z dX12_push_20
def f_X12_pop  (s0 : am_S) : Option (Int64 × am_S) :=
  am_lt (as_i s0 248 18 ((s0.1 248 18) - (1 : Int32))) (fun s1 => am_lt (s1.1 248 18) (fun v2 => am_gd (¬ v2 < 0 ∧ (v2).toNatClampNeg < 64) (some ((s1.2.1 256 (v2).toNatClampNeg), s1))))
set_option maxRecDepth 100000 in
set_option maxHeartbeats 4000000 in
theorem t_X12_pop (s0 : am_S) {z : Int64 × am_S} (E : f_X12_pop  s0 = some z) : AS yX12_pop cX12_pop 1 (some .long) 1 [.ref 248] s0 (some (.long z.1)) z.2 := by
  unfold f_X12_pop at E
  refine as_met (lv := [(0, .ref 248)]) (by decide +kernel) (by simp [lg_sl, Value.category]) rfl (fun x C A Z => ?_)
  refine am_aload_n 0 C dX12_pop_0 rfl 0 rfl ?_
  refine am_dup 1 C dX12_pop_1 rfl ?_
  refine as_geti 2 C fl_X12_284_11 dX12_pop_2 (by decide) sh_248 ?_
  refine am_iconst 5 (1 : Int32) C dX12_pop_5 (by decide) ?_
  refine am_isub 6 C dX12_pop_6 ?_
  obtain ⟨s1, hs1, E⟩ := am_ltE E
  refine as_puti 7 C fl_X12_284_11 dX12_pop_7 (by decide) sh_248 rfl rfl hs1 ?_
  refine am_aload_n 10 C dX12_pop_10 rfl 0 rfl ?_
  refine as_getr 11 C fl_X12_32_11 dX12_pop_11 (by decide) sh_248 (rf_248_17 _ _) ?_
  refine am_aload_n 14 C dX12_pop_14 rfl 0 rfl ?_
  refine as_geti 15 C fl_X12_284_11 dX12_pop_15 (by decide) sh_248 ?_
  obtain ⟨v2, hv2, E⟩ := am_ltE E
  refine as_nm hv2 ?_
  obtain ⟨g3, E⟩ := am_gdE E
  refine as_lald 18 C dX12_pop_18 (by decide) sh_256 g3 ?_
  replace E := Option.some.inj E
  subst E
  exact as_lret 19 C Z dX12_pop_19
def f_X12_one (p1 : Int32) (w2 : Int64) (w3 : Int64) : Option (Int64) :=
  am_if (p1 = (nI 2)) (some (w2 + w3)) (am_if (p1 = (nI 3)) (some (w2 - w3)) (am_if (p1 = (nI 4)) (some (w2 * w3)) (am_if (p1 = (nI 5)) (am_if ((lg_cmp w3 (0 : Int64)) = 0) (some (0 : Int64)) (am_gd (¬ w3 = 0) (some (w2 / w3)))) (am_if (p1 = (nI 6)) (am_if (0 ≤ (lg_cmp w2 w3)) (some (0 : Int64)) (some (1 : Int64))) (am_if (p1 = (nI 7)) (am_if (0 < (lg_cmp w2 w3)) (some (0 : Int64)) (some (1 : Int64))) (am_if (p1 = (nI 8)) (am_if ((lg_cmp w2 w3) = 0) (some (1 : Int64)) (some (0 : Int64))) (am_if (p1 = (nI 9)) (am_if ((lg_cmp w2 w3) < 0) (some (0 : Int64)) (some (1 : Int64))) (am_if (p1 = (nI 10)) (am_if ((lg_cmp w2 w3) ≤ 0) (some (0 : Int64)) (some (1 : Int64))) (am_if (p1 = (nI 11)) (some (w2 ||| w3)) (am_if (p1 = (nI 12)) (some (w2 &&& w3)) (am_if (p1 = (nI 13)) (some (w2 ||| w3)) (am_if (p1 = (nI 14)) (am_if ((lg_cmp w3 (0 : Int64)) = 0) (some (0 : Int64)) (am_gd (¬ w3 = 0) (some (w2 - w2 / w3 * w3)))) (some (w2 ||| w3))))))))))))))
set_option maxRecDepth 100000 in
set_option maxHeartbeats 4000000 in
theorem t_X12_one (p1 : Int32) (w2 : Int64) (w3 : Int64) (s0 : am_S) {z : Int64} (E : f_X12_one p1 w2 w3 = some z) : AS yX12_one cX12_one 5 (some .long) 1 [.int p1, .long w2, .long w3] s0 (some (.long z)) s0 := by
  unfold f_X12_one at E
  refine as_met (lv := [(0, .int p1), (1, .long w2), (3, .long w3)]) (by decide +kernel) (by simp [lg_sl, Value.category]) rfl (fun x C A Z => ?_)
  refine am_iload_n 0 C dX12_one_0 rfl 0 rfl ?_
  by_cases c4 : p1 = (nI 2)
  · have E := am_ifT E c4
    refine am_tabIn 1 68 C dX12_one_1 (by rw [c4]; decide) (by rw [c4]; decide) (by rw [c4]; rfl) (by decide) ?_
    refine am_lload_n 68 C dX12_one_68 rfl 1 rfl ?_
    refine am_lload_n 69 C dX12_one_69 rfl 2 rfl ?_
    refine am_ladd 70 C dX12_one_70 ?_
    replace E := Option.some.inj E
    subst E
    exact as_lret 71 C Z dX12_one_71
  · have E := am_ifF E c4
    by_cases c5 : p1 = (nI 3)
    · have E := am_ifT E c5
      refine am_tabIn 1 72 C dX12_one_1 (by rw [c5]; decide) (by rw [c5]; decide) (by rw [c5]; rfl) (by decide) ?_
      refine am_lload_n 72 C dX12_one_72 rfl 1 rfl ?_
      refine am_lload_n 73 C dX12_one_73 rfl 2 rfl ?_
      refine am_lsub 74 C dX12_one_74 ?_
      replace E := Option.some.inj E
      subst E
      exact as_lret 75 C Z dX12_one_75
    · have E := am_ifF E c5
      by_cases c6 : p1 = (nI 4)
      · have E := am_ifT E c6
        refine am_tabIn 1 76 C dX12_one_1 (by rw [c6]; decide) (by rw [c6]; decide) (by rw [c6]; rfl) (by decide) ?_
        refine am_lload_n 76 C dX12_one_76 rfl 1 rfl ?_
        refine am_lload_n 77 C dX12_one_77 rfl 2 rfl ?_
        refine am_lmul 78 C dX12_one_78 ?_
        replace E := Option.some.inj E
        subst E
        exact as_lret 79 C Z dX12_one_79
      · have E := am_ifF E c6
        by_cases c9 : p1 = (nI 5)
        · have E := am_ifT E c9
          refine am_tabIn 1 80 C dX12_one_1 (by rw [c9]; decide) (by rw [c9]; decide) (by rw [c9]; rfl) (by decide) ?_
          refine am_lload_n 80 C dX12_one_80 rfl 2 rfl ?_
          refine am_lconst 81 (0 : Int64) C dX12_one_81 (by decide) ?_
          refine am_lcmp 82 C dX12_one_82 ?_
          refine am_if_ne 83 90 C dX12_one_83 (by decide) (fun c8 => ?_) (fun c8 => ?_)
          · have E := am_ifF E c8
            refine am_lload_n 90 C dX12_one_90 rfl 1 rfl ?_
            refine am_lload_n 91 C dX12_one_91 rfl 2 rfl ?_
            obtain ⟨g7, E⟩ := am_gdE E
            refine am_ldiv 92 C dX12_one_92 g7 ?_
            replace E := Option.some.inj E
            subst E
            exact as_lret 93 C Z dX12_one_93
          · have E := am_ifT E c8
            refine am_lconst 86 (0 : Int64) C dX12_one_86 (by decide) ?_
            refine am_goto 87 93 C dX12_one_87 (by decide) ?_
            replace E := Option.some.inj E
            subst E
            exact as_lret 93 C Z dX12_one_93
        · have E := am_ifF E c9
          by_cases c11 : p1 = (nI 6)
          · have E := am_ifT E c11
            refine am_tabIn 1 108 C dX12_one_1 (by rw [c11]; decide) (by rw [c11]; decide) (by rw [c11]; rfl) (by decide) ?_
            refine am_lload_n 108 C dX12_one_108 rfl 1 rfl ?_
            refine am_lload_n 109 C dX12_one_109 rfl 2 rfl ?_
            refine am_lcmp 110 C dX12_one_110 ?_
            refine am_if_ge 111 118 C dX12_one_111 (by decide) (fun c10 => ?_) (fun c10 => ?_)
            · have E := am_ifT E c10
              refine am_lconst 118 (0 : Int64) C dX12_one_118 (by decide) ?_
              replace E := Option.some.inj E
              subst E
              exact as_lret 119 C Z dX12_one_119
            · have E := am_ifF E c10
              refine am_lconst 114 (1 : Int64) C dX12_one_114 (by decide) ?_
              refine am_goto 115 119 C dX12_one_115 (by decide) ?_
              replace E := Option.some.inj E
              subst E
              exact as_lret 119 C Z dX12_one_119
          · have E := am_ifF E c11
            by_cases c13 : p1 = (nI 7)
            · have E := am_ifT E c13
              refine am_tabIn 1 120 C dX12_one_1 (by rw [c13]; decide) (by rw [c13]; decide) (by rw [c13]; rfl) (by decide) ?_
              refine am_lload_n 120 C dX12_one_120 rfl 1 rfl ?_
              refine am_lload_n 121 C dX12_one_121 rfl 2 rfl ?_
              refine am_lcmp 122 C dX12_one_122 ?_
              refine am_if_gt 123 130 C dX12_one_123 (by decide) (fun c12 => ?_) (fun c12 => ?_)
              · have E := am_ifT E c12
                refine am_lconst 130 (0 : Int64) C dX12_one_130 (by decide) ?_
                replace E := Option.some.inj E
                subst E
                exact as_lret 131 C Z dX12_one_131
              · have E := am_ifF E c12
                refine am_lconst 126 (1 : Int64) C dX12_one_126 (by decide) ?_
                refine am_goto 127 131 C dX12_one_127 (by decide) ?_
                replace E := Option.some.inj E
                subst E
                exact as_lret 131 C Z dX12_one_131
            · have E := am_ifF E c13
              by_cases c15 : p1 = (nI 8)
              · have E := am_ifT E c15
                refine am_tabIn 1 132 C dX12_one_1 (by rw [c15]; decide) (by rw [c15]; decide) (by rw [c15]; rfl) (by decide) ?_
                refine am_lload_n 132 C dX12_one_132 rfl 1 rfl ?_
                refine am_lload_n 133 C dX12_one_133 rfl 2 rfl ?_
                refine am_lcmp 134 C dX12_one_134 ?_
                refine am_if_ne 135 142 C dX12_one_135 (by decide) (fun c14 => ?_) (fun c14 => ?_)
                · have E := am_ifF E c14
                  refine am_lconst 142 (0 : Int64) C dX12_one_142 (by decide) ?_
                  replace E := Option.some.inj E
                  subst E
                  exact as_lret 143 C Z dX12_one_143
                · have E := am_ifT E c14
                  refine am_lconst 138 (1 : Int64) C dX12_one_138 (by decide) ?_
                  refine am_goto 139 143 C dX12_one_139 (by decide) ?_
                  replace E := Option.some.inj E
                  subst E
                  exact as_lret 143 C Z dX12_one_143
              · have E := am_ifF E c15
                by_cases c17 : p1 = (nI 9)
                · have E := am_ifT E c17
                  refine am_tabIn 1 144 C dX12_one_1 (by rw [c17]; decide) (by rw [c17]; decide) (by rw [c17]; rfl) (by decide) ?_
                  refine am_lload_n 144 C dX12_one_144 rfl 1 rfl ?_
                  refine am_lload_n 145 C dX12_one_145 rfl 2 rfl ?_
                  refine am_lcmp 146 C dX12_one_146 ?_
                  refine am_if_lt 147 154 C dX12_one_147 (by decide) (fun c16 => ?_) (fun c16 => ?_)
                  · have E := am_ifT E c16
                    refine am_lconst 154 (0 : Int64) C dX12_one_154 (by decide) ?_
                    replace E := Option.some.inj E
                    subst E
                    exact as_lret 155 C Z dX12_one_155
                  · have E := am_ifF E c16
                    refine am_lconst 150 (1 : Int64) C dX12_one_150 (by decide) ?_
                    refine am_goto 151 155 C dX12_one_151 (by decide) ?_
                    replace E := Option.some.inj E
                    subst E
                    exact as_lret 155 C Z dX12_one_155
                · have E := am_ifF E c17
                  by_cases c19 : p1 = (nI 10)
                  · have E := am_ifT E c19
                    refine am_tabIn 1 156 C dX12_one_1 (by rw [c19]; decide) (by rw [c19]; decide) (by rw [c19]; rfl) (by decide) ?_
                    refine am_lload_n 156 C dX12_one_156 rfl 1 rfl ?_
                    refine am_lload_n 157 C dX12_one_157 rfl 2 rfl ?_
                    refine am_lcmp 158 C dX12_one_158 ?_
                    refine am_if_le 159 166 C dX12_one_159 (by decide) (fun c18 => ?_) (fun c18 => ?_)
                    · have E := am_ifT E c18
                      refine am_lconst 166 (0 : Int64) C dX12_one_166 (by decide) ?_
                      replace E := Option.some.inj E
                      subst E
                      exact as_lret 167 C Z dX12_one_167
                    · have E := am_ifF E c18
                      refine am_lconst 162 (1 : Int64) C dX12_one_162 (by decide) ?_
                      refine am_goto 163 167 C dX12_one_163 (by decide) ?_
                      replace E := Option.some.inj E
                      subst E
                      exact as_lret 167 C Z dX12_one_167
                  · have E := am_ifF E c19
                    by_cases c20 : p1 = (nI 11)
                    · have E := am_ifT E c20
                      refine am_tabIn 1 172 C dX12_one_1 (by rw [c20]; decide) (by rw [c20]; decide) (by rw [c20]; rfl) (by decide) ?_
                      refine am_lload_n 172 C dX12_one_172 rfl 1 rfl ?_
                      refine am_lload_n 173 C dX12_one_173 rfl 2 rfl ?_
                      refine am_lor 174 C dX12_one_174 ?_
                      replace E := Option.some.inj E
                      subst E
                      exact as_lret 175 C Z dX12_one_175
                    · have E := am_ifF E c20
                      by_cases c21 : p1 = (nI 12)
                      · have E := am_ifT E c21
                        refine am_tabIn 1 168 C dX12_one_1 (by rw [c21]; decide) (by rw [c21]; decide) (by rw [c21]; rfl) (by decide) ?_
                        refine am_lload_n 168 C dX12_one_168 rfl 1 rfl ?_
                        refine am_lload_n 169 C dX12_one_169 rfl 2 rfl ?_
                        refine am_land 170 C dX12_one_170 ?_
                        replace E := Option.some.inj E
                        subst E
                        exact as_lret 171 C Z dX12_one_171
                      · have E := am_ifF E c21
                        by_cases c22 : p1 = (nI 13)
                        · have E := am_ifT E c22
                          refine am_tabIn 1 172 C dX12_one_1 (by rw [c22]; decide) (by rw [c22]; decide) (by rw [c22]; rfl) (by decide) ?_
                          refine am_lload_n 172 C dX12_one_172 rfl 1 rfl ?_
                          refine am_lload_n 173 C dX12_one_173 rfl 2 rfl ?_
                          refine am_lor 174 C dX12_one_174 ?_
                          replace E := Option.some.inj E
                          subst E
                          exact as_lret 175 C Z dX12_one_175
                        · have E := am_ifF E c22
                          by_cases c25 : p1 = (nI 14)
                          · have E := am_ifT E c25
                            refine am_tabIn 1 94 C dX12_one_1 (by rw [c25]; decide) (by rw [c25]; decide) (by rw [c25]; rfl) (by decide) ?_
                            refine am_lload_n 94 C dX12_one_94 rfl 2 rfl ?_
                            refine am_lconst 95 (0 : Int64) C dX12_one_95 (by decide) ?_
                            refine am_lcmp 96 C dX12_one_96 ?_
                            refine am_if_ne 97 104 C dX12_one_97 (by decide) (fun c24 => ?_) (fun c24 => ?_)
                            · have E := am_ifF E c24
                              refine am_lload_n 104 C dX12_one_104 rfl 1 rfl ?_
                              refine am_lload_n 105 C dX12_one_105 rfl 2 rfl ?_
                              obtain ⟨g23, E⟩ := am_gdE E
                              refine am_lrem 106 C dX12_one_106 g23 ?_
                              replace E := Option.some.inj E
                              subst E
                              exact as_lret 107 C Z dX12_one_107
                            · have E := am_ifT E c24
                              refine am_lconst 100 (0 : Int64) C dX12_one_100 (by decide) ?_
                              refine am_goto 101 107 C dX12_one_101 (by decide) ?_
                              replace E := Option.some.inj E
                              subst E
                              exact as_lret 107 C Z dX12_one_107
                          · have E := am_ifF E c25
                            have ec4 := am_neI c4 2 (by decide)
                            have ec5 := am_neI c5 3 (by decide)
                            have ec6 := am_neI c6 4 (by decide)
                            have ec9 := am_neI c9 5 (by decide)
                            have ec11 := am_neI c11 6 (by decide)
                            have ec13 := am_neI c13 7 (by decide)
                            have ec15 := am_neI c15 8 (by decide)
                            have ec17 := am_neI c17 9 (by decide)
                            have ec19 := am_neI c19 10 (by decide)
                            have ec20 := am_neI c20 11 (by decide)
                            have ec21 := am_neI c21 12 (by decide)
                            have ec22 := am_neI c22 13 (by decide)
                            have ec25 := am_neI c25 14 (by decide)
                            refine am_tabOut 1 172 C dX12_one_1 (by omega) (by decide) ?_
                            refine am_lload_n 172 C dX12_one_172 rfl 1 rfl ?_
                            refine am_lload_n 173 C dX12_one_173 rfl 2 rfl ?_
                            refine am_lor 174 C dX12_one_174 ?_
                            replace E := Option.some.inj E
                            subst E
                            exact as_lret 175 C Z dX12_one_175
def j_X12_reckons_135 (s4 : am_S) : Option (Int64 × am_S) :=
  am_b2 (f_X12_pop s4) (fun w5 s6 => some (w5, s6))
def b_X12_reckons_8 (p1 : Int32) (p3 : Int32) (v9 : Int32) (s10 : am_S) : Option ((Int32 × am_S) ⊕ (Int64 × am_S)) :=
  am_if (p3 ≤ v9) (am_bd (j_X12_reckons_135 s10) (fun e11 => some (Sum.inr e11))) (am_lt (((nI 400) * p1) + v9) (fun v12 => am_gd (¬ v12 < 0 ∧ (v12).toNatClampNeg < 2400) (am_lt ((s10.1 250 (v12).toNatClampNeg) &&& (nI 15)) (fun v14 => am_lt (((nI 400) * p1) + v9) (fun v15 => am_gd (¬ v15 < 0 ∧ (v15).toNatClampNeg < 2400) (am_lt ((s10.1 250 (v15).toNatClampNeg) >>> ((nI 4) &&& 31)) (fun v17 => am_if (v14 = 0) (am_bd (f_X12_push (v17).toInt64 s10) (fun s34 => am_lt (v9 + (1 : Int32)) (fun v35 => some (Sum.inl (v35, s34))))) (am_if (v14 = (1 : Int32)) (am_gd (¬ v17 < 0 ∧ (v17).toNatClampNeg < 14) (am_bd (f_X12_push (s10.2.1 257 (v17).toNatClampNeg) s10) (fun s31 => am_lt (v9 + (1 : Int32)) (fun v32 => some (Sum.inl (v32, s31)))))) (am_if (v14 = (nI 11)) (am_b2 (f_X12_pop s10) (fun w25 s26 => am_bd (f_X12_push ((1 : Int64) - w25) s26) (fun s27 => am_lt (v9 + (1 : Int32)) (fun v28 => some (Sum.inl (v28, s27)))))) (am_b2 (f_X12_pop s10) (fun w18 s19 => am_b2 (f_X12_pop s19) (fun w20 s21 => am_bd (f_X12_one v14 w20 w18) (fun w22 => am_bd (f_X12_push w22 s21) (fun s23 => am_lt (v9 + (1 : Int32)) (fun v24 => some (Sum.inl (v24, s23)))))))))))))))))
def f_X12_reckons (p1 : Int32) (p2 : Int32) (p3 : Int32) (s0 : am_S) : Option (Int64 × am_S) :=
  am_lt (as_i s0 248 18 (0 : Int32)) (fun s7 => am_lp (fun (q : Int32 × am_S) => b_X12_reckons_8 p1 p3 q.1 q.2) am_F (p2, s7))
set_option maxRecDepth 100000 in
set_option maxHeartbeats 4000000 in
theorem t_X12_reckons (p1 : Int32) (p2 : Int32) (p3 : Int32) (s0 : am_S) {z : Int64 × am_S} (E : f_X12_reckons p1 p2 p3 s0 = some z) : AS yX12_reckons cX12_reckons 11 (some .long) 2 [.ref 248, .int p1, .int p2, .int p3] s0 (some (.long z.1)) z.2 := by
  unfold f_X12_reckons at E
  refine as_met (lv := [(0, .ref 248), (1, .int p1), (2, .int p2), (3, .int p3)]) (by decide +kernel) (by simp [lg_sl, Value.category]) rfl (fun x C A Z => ?_)
  have K135 : ∀ (s4 : am_S), j_X12_reckons_135 s4 = some z → AX x 0 0 135 [(0, .ref 248)] [] am_N (am_h s4) := by
    intro s4 E
    unfold j_X12_reckons_135 at E
    refine am_aload_n 135 C dX12_reckons_135 rfl 0 rfl ?_
    obtain ⟨w5, s6, Ec, E⟩ := am_b2E E
    refine as_callV 136 (s2 := s6) (st := []) (st2 := [.long w5]) [] C A (by decide) ml_X12_291 yc_X12_pop yv_X12_pop (t_X12_pop  s4 Ec) (by decide) sh_248 rfl rfl (Nat.le_of_ble_eq_true rfl) rfl dX12_reckons_136 ?_
    replace E := Option.some.inj E
    subst E
    exact as_lret 139 C Z dX12_reckons_139
  refine am_aload_n 0 C dX12_reckons_0 rfl 0 rfl ?_
  refine am_iconst 1 (0 : Int32) C dX12_reckons_1 (by decide) ?_
  obtain ⟨s7, hs7, E⟩ := am_ltE E
  refine as_puti 2 C fl_X12_284_11 dX12_reckons_2 (by decide) sh_248 rfl rfl hs7 ?_
  refine am_iload_n 5 C dX12_reckons_5 rfl 2 rfl ?_
  refine am_istore 6 (lv2 := [(4, .int p2), (0, .ref 248), (1, .int p1), (2, .int p2), (3, .int p3)]) C dX12_reckons_6 (by decide) rfl ?_
  have LP8 : ∀ (n : Nat) (v9 : Int32) (s10 : am_S), am_lp (fun (q : Int32 × am_S) => b_X12_reckons_8 p1 p3 q.1 q.2) n (v9, s10) = some z → AX x 0 0 8 [(0, .ref 248), (1, .int p1), (3, .int p3), (4, .int v9)] [] am_N (am_h s10) := by
    intro n
    induction n with
    | zero => intro v9 s10 E; exact (am_lp0 E).elim
    | succ n ih8 =>
      intro v9 s10 E
      obtain ⟨r8, E, Er8⟩ := am_lpE E
      replace E : b_X12_reckons_8 p1 p3 v9 s10 = some r8 := E
      unfold b_X12_reckons_8 at E
      refine am_iload 8 C dX12_reckons_8 3 rfl ?_
      refine am_iload_n 10 C dX12_reckons_10 rfl 2 rfl ?_
      refine am_icmp_ge 11 135 C dX12_reckons_11 (by decide) (fun c37 => ?_) (fun c37 => ?_)
      · have E := am_ifT E c37
        obtain ⟨e11, E, E2⟩ := am_bdE E
        replace E2 := Option.some.inj E2
        replace E2 := am_exR E2 Er8
        rw [E2] at E
        refine am_lvs [0] rfl ?_
        exact K135 _ E
      · have E := am_ifF E c37
        refine am_aload_n 14 C dX12_reckons_14 rfl 0 rfl ?_
        refine as_getr 15 C fl_X12_13_11 dX12_reckons_15 (by decide) sh_248 (rf_248_3 _ _) ?_
        refine am_sipush 18 (nI 400) C dX12_reckons_18 (by decide) ?_
        refine am_iload_n 21 C dX12_reckons_21 rfl 1 rfl ?_
        refine am_imul 22 C dX12_reckons_22 ?_
        refine am_iload 23 C dX12_reckons_23 3 rfl ?_
        refine am_iadd 25 C dX12_reckons_25 ?_
        obtain ⟨v12, hv12, E⟩ := am_ltE E
        refine as_nm hv12 ?_
        obtain ⟨g13, E⟩ := am_gdE E
        refine as_iald 26 C dX12_reckons_26 (by decide) sh_250 g13 ?_
        refine am_bipush 27 (nI 15) C dX12_reckons_27 (by decide) ?_
        refine am_iand 29 C dX12_reckons_29 ?_
        obtain ⟨v14, hv14, E⟩ := am_ltE E
        refine as_nm hv14 ?_
        refine am_istore 30 (lv2 := [(5, .int v14), (0, .ref 248), (1, .int p1), (3, .int p3), (4, .int v9)]) C dX12_reckons_30 (by decide) rfl ?_
        refine am_aload_n 32 C dX12_reckons_32 rfl 1 rfl ?_
        refine as_getr 33 C fl_X12_13_11 dX12_reckons_33 (by decide) sh_248 (rf_248_3 _ _) ?_
        refine am_sipush 36 (nI 400) C dX12_reckons_36 (by decide) ?_
        refine am_iload_n 39 C dX12_reckons_39 rfl 2 rfl ?_
        refine am_imul 40 C dX12_reckons_40 ?_
        refine am_iload 41 C dX12_reckons_41 4 rfl ?_
        refine am_iadd 43 C dX12_reckons_43 ?_
        obtain ⟨v15, hv15, E⟩ := am_ltE E
        refine as_nm hv15 ?_
        obtain ⟨g16, E⟩ := am_gdE E
        refine as_iald 44 C dX12_reckons_44 (by decide) sh_250 g16 ?_
        refine am_iconst 45 (nI 4) C dX12_reckons_45 (by decide) ?_
        refine am_ishr 46 C dX12_reckons_46 ?_
        obtain ⟨v17, hv17, E⟩ := am_ltE E
        refine as_nm hv17 ?_
        refine am_istore 47 (lv2 := [(6, .int v17), (5, .int v14), (0, .ref 248), (1, .int p1), (3, .int p3), (4, .int v9)]) C dX12_reckons_47 (by decide) rfl ?_
        refine am_iload 49 C dX12_reckons_49 1 rfl ?_
        refine am_if_ne 51 64 C dX12_reckons_51 (by decide) (fun c36 => ?_) (fun c36 => ?_)
        · have E := am_ifF E c36
          refine am_iload 64 C dX12_reckons_64 1 rfl ?_
          refine am_iconst 66 (1 : Int32) C dX12_reckons_66 (by decide) ?_
          refine am_icmp_ne 67 84 C dX12_reckons_67 (by decide) (fun c33 => ?_) (fun c33 => ?_)
          · have E := am_ifF E c33
            refine am_iload 84 C dX12_reckons_84 1 rfl ?_
            refine am_bipush 86 (nI 11) C dX12_reckons_86 (by decide) ?_
            refine am_icmp_ne 88 104 C dX12_reckons_88 (by decide) (fun c29 => ?_) (fun c29 => ?_)
            · have E := am_ifF E c29
              refine am_aload_n 104 C dX12_reckons_104 rfl 2 rfl ?_
              obtain ⟨w18, s19, Ec, E⟩ := am_b2E E
              refine as_callV 105 (s2 := s19) (st := []) (st2 := [.long w18]) [] C A (by decide) ml_X12_291 yc_X12_pop yv_X12_pop (t_X12_pop  s10 Ec) (by decide) sh_248 rfl rfl (Nat.le_of_ble_eq_true rfl) rfl dX12_reckons_105 ?_
              refine am_lstore 108 (lv2 := [(7, .long w18), (6, .int v17), (5, .int v14), (0, .ref 248), (1, .int p1), (3, .int p3), (4, .int v9)]) C dX12_reckons_108 (by decide) rfl ?_
              refine am_aload_n 110 C dX12_reckons_110 rfl 3 rfl ?_
              obtain ⟨w20, s21, Ec, E⟩ := am_b2E E
              refine as_callV 111 (s2 := s21) (st := []) (st2 := [.long w20]) [] C A (by decide) ml_X12_291 yc_X12_pop yv_X12_pop (t_X12_pop  s19 Ec) (by decide) sh_248 rfl rfl (Nat.le_of_ble_eq_true rfl) rfl dX12_reckons_111 ?_
              refine am_lstore 114 (lv2 := [(9, .long w20), (7, .long w18), (6, .int v17), (5, .int v14), (0, .ref 248), (1, .int p1), (3, .int p3), (4, .int v9)]) C dX12_reckons_114 (by decide) rfl ?_
              refine am_aload_n 116 C dX12_reckons_116 rfl 4 rfl ?_
              refine am_iload 117 C dX12_reckons_117 3 rfl ?_
              refine am_lload 119 C dX12_reckons_119 0 rfl ?_
              refine am_lload 121 C dX12_reckons_121 1 rfl ?_
              obtain ⟨w22, Ec, E⟩ := am_bdE E
              refine as_callS 123 (s2 := s21) (st := [.ref 248]) (st2 := [.long w22, .ref 248]) [.int v14, .long w20, .long w18] C A (by decide) ml_X12_295 yc_X12_one ys_X12_one (t_X12_one v14 w20 w18 s21 Ec) rfl rfl (Nat.le_of_ble_eq_true rfl) rfl dX12_reckons_123 ?_
              obtain ⟨s23, Ec, E⟩ := am_bdE E
              refine as_callV 126 (s2 := s23) (st := []) (st2 := []) [.long w22] C A (by decide) ml_X12_287 yc_X12_push yv_X12_push (t_X12_push w22 s21 Ec) (by decide) sh_248 rfl rfl (Nat.le_of_ble_eq_true rfl) rfl dX12_reckons_126 ?_
              obtain ⟨v24, hv24, E⟩ := am_ltE E
              refine as_iinc 129 (q := (1 : Int32)) (lv2 := [(4, .int v24), (9, .long w20), (7, .long w18), (6, .int v17), (5, .int v14), (0, .ref 248), (1, .int p1), (3, .int p3)]) C dX12_reckons_129 7 rfl (by decide) hv24 (by decide) rfl ?_
              refine am_goto 132 8 C dX12_reckons_132 (by decide) ?_
              replace E := Option.some.inj E
              replace E := am_exL E Er8
              refine am_lvs [5, 6, 7, 0] rfl ?_
              exact ih8 _ _ E
            · have E := am_ifT E c29
              refine am_aload_n 91 C dX12_reckons_91 rfl 2 rfl ?_
              refine am_lconst 92 (1 : Int64) C dX12_reckons_92 (by decide) ?_
              refine am_aload_n 93 C dX12_reckons_93 rfl 2 rfl ?_
              obtain ⟨w25, s26, Ec, E⟩ := am_b2E E
              refine as_callV 94 (s2 := s26) (st := [.long (1 : Int64), .ref 248]) (st2 := [.long w25, .long (1 : Int64), .ref 248]) [] C A (by decide) ml_X12_291 yc_X12_pop yv_X12_pop (t_X12_pop  s10 Ec) (by decide) sh_248 rfl rfl (Nat.le_of_ble_eq_true rfl) rfl dX12_reckons_94 ?_
              refine am_lsub 97 C dX12_reckons_97 ?_
              obtain ⟨s27, Ec, E⟩ := am_bdE E
              refine as_callV 98 (s2 := s27) (st := []) (st2 := []) [.long ((1 : Int64) - w25)] C A (by decide) ml_X12_287 yc_X12_push yv_X12_push (t_X12_push ((1 : Int64) - w25) s26 Ec) (by decide) sh_248 rfl rfl (Nat.le_of_ble_eq_true rfl) rfl dX12_reckons_98 ?_
              refine am_goto 101 129 C dX12_reckons_101 (by decide) ?_
              obtain ⟨v28, hv28, E⟩ := am_ltE E
              refine as_iinc 129 (q := (1 : Int32)) (lv2 := [(4, .int v28), (6, .int v17), (5, .int v14), (0, .ref 248), (1, .int p1), (3, .int p3)]) C dX12_reckons_129 5 rfl (by decide) hv28 (by decide) rfl ?_
              refine am_goto 132 8 C dX12_reckons_132 (by decide) ?_
              replace E := Option.some.inj E
              replace E := am_exL E Er8
              refine am_lvs [3, 4, 5, 0] rfl ?_
              exact ih8 _ _ E
          · have E := am_ifT E c33
            refine am_aload_n 70 C dX12_reckons_70 rfl 2 rfl ?_
            refine am_aload_n 71 C dX12_reckons_71 rfl 2 rfl ?_
            refine as_getr 72 C fl_X12_36_11 dX12_reckons_72 (by decide) sh_248 (rf_248_19 _ _) ?_
            refine am_iload 75 C dX12_reckons_75 0 rfl ?_
            obtain ⟨g30, E⟩ := am_gdE E
            refine as_lald 77 C dX12_reckons_77 (by decide) sh_257 g30 ?_
            obtain ⟨s31, Ec, E⟩ := am_bdE E
            refine as_callV 78 (s2 := s31) (st := []) (st2 := []) [.long (s10.2.1 257 (v17).toNatClampNeg)] C A (by decide) ml_X12_287 yc_X12_push yv_X12_push (t_X12_push (s10.2.1 257 (v17).toNatClampNeg) s10 Ec) (by decide) sh_248 rfl rfl (Nat.le_of_ble_eq_true rfl) rfl dX12_reckons_78 ?_
            refine am_goto 81 129 C dX12_reckons_81 (by decide) ?_
            obtain ⟨v32, hv32, E⟩ := am_ltE E
            refine as_iinc 129 (q := (1 : Int32)) (lv2 := [(4, .int v32), (6, .int v17), (5, .int v14), (0, .ref 248), (1, .int p1), (3, .int p3)]) C dX12_reckons_129 5 rfl (by decide) hv32 (by decide) rfl ?_
            refine am_goto 132 8 C dX12_reckons_132 (by decide) ?_
            replace E := Option.some.inj E
            replace E := am_exL E Er8
            refine am_lvs [3, 4, 5, 0] rfl ?_
            exact ih8 _ _ E
        · have E := am_ifT E c36
          refine am_aload_n 54 C dX12_reckons_54 rfl 2 rfl ?_
          refine am_iload 55 C dX12_reckons_55 0 rfl ?_
          refine am_i2l 57 C dX12_reckons_57 ?_
          obtain ⟨s34, Ec, E⟩ := am_bdE E
          refine as_callV 58 (s2 := s34) (st := []) (st2 := []) [.long (v17).toInt64] C A (by decide) ml_X12_287 yc_X12_push yv_X12_push (t_X12_push (v17).toInt64 s10 Ec) (by decide) sh_248 rfl rfl (Nat.le_of_ble_eq_true rfl) rfl dX12_reckons_58 ?_
          refine am_goto 61 129 C dX12_reckons_61 (by decide) ?_
          obtain ⟨v35, hv35, E⟩ := am_ltE E
          refine as_iinc 129 (q := (1 : Int32)) (lv2 := [(4, .int v35), (6, .int v17), (5, .int v14), (0, .ref 248), (1, .int p1), (3, .int p3)]) C dX12_reckons_129 5 rfl (by decide) hv35 (by decide) rfl ?_
          refine am_goto 132 8 C dX12_reckons_132 (by decide) ?_
          replace E := Option.some.inj E
          replace E := am_exL E Er8
          refine am_lvs [3, 4, 5, 0] rfl ?_
          exact ih8 _ _ E
  refine am_lvs [1, 2, 4, 0] rfl ?_
  exact LP8 am_F _ _ E
def f_X12_isTown  (s0 : am_S) : Option (Int32) :=
  am_if ((s0.1 258 0) ≤ 0) (some (0 : Int32)) (some (1 : Int32))
set_option maxRecDepth 100000 in
set_option maxHeartbeats 4000000 in
theorem t_X12_isTown (s0 : am_S) {z : Int32} (E : f_X12_isTown  s0 = some z) : AS yX12_isTown cX12_isTown 1 (some .boolean) 1 [.ref 248] s0 (some (.int z)) s0 := by
  unfold f_X12_isTown at E
  refine as_met (lv := [(0, .ref 248)]) (by decide +kernel) (by simp [lg_sl, Value.category]) rfl (fun x C A Z => ?_)
  refine am_aload_n 0 C dX12_isTown_0 rfl 0 rfl ?_
  refine as_getr 1 C fl_X12_39_11 dX12_isTown_1 (by decide) sh_248 (rf_248_20 _ _) ?_
  refine am_iconst 4 (0 : Int32) C dX12_isTown_4 (by decide) ?_
  refine as_ialdK 5 0 C dX12_isTown_5 (by decide) sh_258 (by decide) (by decide) ?_
  refine am_if_le 6 13 C dX12_isTown_6 (by decide) (fun c1 => ?_) (fun c1 => ?_)
  · have E := am_ifT E c1
    refine am_iconst 13 (0 : Int32) C dX12_isTown_13 (by decide) ?_
    replace E := Option.some.inj E
    subst E
    exact as_iret 14 C Z rfl dX12_isTown_14
  · have E := am_ifF E c1
    refine am_iconst 9 (1 : Int32) C dX12_isTown_9 (by decide) ?_
    refine am_goto 10 14 C dX12_isTown_10 (by decide) ?_
    replace E := Option.some.inj E
    subst E
    exact as_iret 14 C Z rfl dX12_isTown_14
def f_X12_isFact (p1 : Int32) (s0 : am_S) : Option (Int32) :=
  am_if (p1 < 0) (some (0 : Int32)) (am_if ((s0.1 258 0) ≤ p1) (some (0 : Int32)) (some (1 : Int32)))
set_option maxRecDepth 100000 in
set_option maxHeartbeats 4000000 in
theorem t_X12_isFact (p1 : Int32) (s0 : am_S) {z : Int32} (E : f_X12_isFact p1 s0 = some z) : AS yX12_isFact cX12_isFact 2 (some .boolean) 1 [.ref 248, .int p1] s0 (some (.int z)) s0 := by
  unfold f_X12_isFact at E
  refine as_met (lv := [(0, .ref 248), (1, .int p1)]) (by decide +kernel) (by simp [lg_sl, Value.category]) rfl (fun x C A Z => ?_)
  refine am_iload_n 0 C dX12_isFact_0 rfl 1 rfl ?_
  refine am_if_lt 1 18 C dX12_isFact_1 (by decide) (fun c3 => ?_) (fun c3 => ?_)
  · have E := am_ifT E c3
    refine am_iconst 18 (0 : Int32) C dX12_isFact_18 (by decide) ?_
    replace E := Option.some.inj E
    subst E
    exact as_iret 19 C Z rfl dX12_isFact_19
  · have E := am_ifF E c3
    refine am_iload_n 4 C dX12_isFact_4 rfl 1 rfl ?_
    refine am_aload_n 5 C dX12_isFact_5 rfl 0 rfl ?_
    refine as_getr 6 C fl_X12_39_11 dX12_isFact_6 (by decide) sh_248 (rf_248_20 _ _) ?_
    refine am_iconst 9 (0 : Int32) C dX12_isFact_9 (by decide) ?_
    refine as_ialdK 10 0 C dX12_isFact_10 (by decide) sh_258 (by decide) (by decide) ?_
    refine am_icmp_ge 11 18 C dX12_isFact_11 (by decide) (fun c2 => ?_) (fun c2 => ?_)
    · have E := am_ifT E c2
      refine am_iconst 18 (0 : Int32) C dX12_isFact_18 (by decide) ?_
      replace E := Option.some.inj E
      subst E
      exact as_iret 19 C Z rfl dX12_isFact_19
    · have E := am_ifF E c2
      refine am_iconst 14 (1 : Int32) C dX12_isFact_14 (by decide) ?_
      refine am_goto 15 19 C dX12_isFact_15 (by decide) ?_
      replace E := Option.some.inj E
      subst E
      exact as_iret 19 C Z rfl dX12_isFact_19
def f_X12_isPerson (p1 : Int32) (s0 : am_S) : Option (Int32) :=
  am_if (p1 < 0) (some (0 : Int32)) (am_if ((s0.1 258 2) ≤ p1) (some (0 : Int32)) (some (1 : Int32)))
set_option maxRecDepth 100000 in
set_option maxHeartbeats 4000000 in
theorem t_X12_isPerson (p1 : Int32) (s0 : am_S) {z : Int32} (E : f_X12_isPerson p1 s0 = some z) : AS yX12_isPerson cX12_isPerson 2 (some .boolean) 1 [.ref 248, .int p1] s0 (some (.int z)) s0 := by
  unfold f_X12_isPerson at E
  refine as_met (lv := [(0, .ref 248), (1, .int p1)]) (by decide +kernel) (by simp [lg_sl, Value.category]) rfl (fun x C A Z => ?_)
  refine am_iload_n 0 C dX12_isPerson_0 rfl 1 rfl ?_
  refine am_if_lt 1 18 C dX12_isPerson_1 (by decide) (fun c3 => ?_) (fun c3 => ?_)
  · have E := am_ifT E c3
    refine am_iconst 18 (0 : Int32) C dX12_isPerson_18 (by decide) ?_
    replace E := Option.some.inj E
    subst E
    exact as_iret 19 C Z rfl dX12_isPerson_19
  · have E := am_ifF E c3
    refine am_iload_n 4 C dX12_isPerson_4 rfl 1 rfl ?_
    refine am_aload_n 5 C dX12_isPerson_5 rfl 0 rfl ?_
    refine as_getr 6 C fl_X12_39_11 dX12_isPerson_6 (by decide) sh_248 (rf_248_20 _ _) ?_
    refine am_iconst 9 (nI 2) C dX12_isPerson_9 (by decide) ?_
    refine as_ialdK 10 2 C dX12_isPerson_10 (by decide) sh_258 (by decide) (by decide) ?_
    refine am_icmp_ge 11 18 C dX12_isPerson_11 (by decide) (fun c2 => ?_) (fun c2 => ?_)
    · have E := am_ifT E c2
      refine am_iconst 18 (0 : Int32) C dX12_isPerson_18 (by decide) ?_
      replace E := Option.some.inj E
      subst E
      exact as_iret 19 C Z rfl dX12_isPerson_19
    · have E := am_ifF E c2
      refine am_iconst 14 (1 : Int32) C dX12_isPerson_14 (by decide) ?_
      refine am_goto 15 19 C dX12_isPerson_15 (by decide) ?_
      replace E := Option.some.inj E
      subst E
      exact as_iret 19 C Z rfl dX12_isPerson_19
def f_X12_soOf (p1 : Int32) (s0 : am_S) : Option (Int32) :=
  some (((s0.1 258 1) >>> (p1 &&& 31)) &&& (1 : Int32))
set_option maxRecDepth 100000 in
set_option maxHeartbeats 4000000 in
theorem t_X12_soOf (p1 : Int32) (s0 : am_S) {z : Int32} (E : f_X12_soOf p1 s0 = some z) : AS yX12_soOf cX12_soOf 2 (some .int) 1 [.ref 248, .int p1] s0 (some (.int z)) s0 := by
  unfold f_X12_soOf at E
  refine as_met (lv := [(0, .ref 248), (1, .int p1)]) (by decide +kernel) (by simp [lg_sl, Value.category]) rfl (fun x C A Z => ?_)
  refine am_aload_n 0 C dX12_soOf_0 rfl 0 rfl ?_
  refine as_getr 1 C fl_X12_39_11 dX12_soOf_1 (by decide) sh_248 (rf_248_20 _ _) ?_
  refine am_iconst 4 (1 : Int32) C dX12_soOf_4 (by decide) ?_
  refine as_ialdK 5 1 C dX12_soOf_5 (by decide) sh_258 (by decide) (by decide) ?_
  refine am_iload_n 6 C dX12_soOf_6 rfl 1 rfl ?_
  refine am_ishr 7 C dX12_soOf_7 ?_
  refine am_iconst 8 (1 : Int32) C dX12_soOf_8 (by decide) ?_
  refine am_iand 9 C dX12_soOf_9 ?_
  replace E := Option.some.inj E
  subst E
  exact as_iret 10 C Z rfl dX12_soOf_10
def f_X12_holdOf (p1 : Int32) (p2 : Int32) (s0 : am_S) : Option (Int32) :=
  am_lt (((nI 11) + ((nI 16) * p1)) + ((nI 2) * p2)) (fun v3 => am_gd (¬ v3 < 0 ∧ (v3).toNatClampNeg < 328) (some (s0.1 258 (v3).toNatClampNeg)))
set_option maxRecDepth 100000 in
set_option maxHeartbeats 4000000 in
theorem t_X12_holdOf (p1 : Int32) (p2 : Int32) (s0 : am_S) {z : Int32} (E : f_X12_holdOf p1 p2 s0 = some z) : AS yX12_holdOf cX12_holdOf 3 (some .int) 1 [.ref 248, .int p1, .int p2] s0 (some (.int z)) s0 := by
  unfold f_X12_holdOf at E
  refine as_met (lv := [(0, .ref 248), (1, .int p1), (2, .int p2)]) (by decide +kernel) (by simp [lg_sl, Value.category]) rfl (fun x C A Z => ?_)
  refine am_aload_n 0 C dX12_holdOf_0 rfl 0 rfl ?_
  refine as_getr 1 C fl_X12_39_11 dX12_holdOf_1 (by decide) sh_248 (rf_248_20 _ _) ?_
  refine am_bipush 4 (nI 11) C dX12_holdOf_4 (by decide) ?_
  refine am_bipush 6 (nI 16) C dX12_holdOf_6 (by decide) ?_
  refine am_iload_n 8 C dX12_holdOf_8 rfl 1 rfl ?_
  refine am_imul 9 C dX12_holdOf_9 ?_
  refine am_iadd 10 C dX12_holdOf_10 ?_
  refine am_iconst 11 (nI 2) C dX12_holdOf_11 (by decide) ?_
  refine am_iload_n 12 C dX12_holdOf_12 rfl 2 rfl ?_
  refine am_imul 13 C dX12_holdOf_13 ?_
  refine am_iadd 14 C dX12_holdOf_14 ?_
  obtain ⟨v3, hv3, E⟩ := am_ltE E
  refine as_nm hv3 ?_
  obtain ⟨g4, E⟩ := am_gdE E
  refine as_iald 15 C dX12_holdOf_15 (by decide) sh_258 g4 ?_
  replace E := Option.some.inj E
  subst E
  exact as_iret 16 C Z rfl dX12_holdOf_16
def f_X12_strengthOf (p1 : Int32) (p2 : Int32) (s0 : am_S) : Option (Int32) :=
  am_lt ((((nI 11) + ((nI 16) * p1)) + ((nI 2) * p2)) + (1 : Int32)) (fun v3 => am_gd (¬ v3 < 0 ∧ (v3).toNatClampNeg < 328) (some (s0.1 258 (v3).toNatClampNeg)))
set_option maxRecDepth 100000 in
set_option maxHeartbeats 4000000 in
theorem t_X12_strengthOf (p1 : Int32) (p2 : Int32) (s0 : am_S) {z : Int32} (E : f_X12_strengthOf p1 p2 s0 = some z) : AS yX12_strengthOf cX12_strengthOf 3 (some .int) 1 [.ref 248, .int p1, .int p2] s0 (some (.int z)) s0 := by
  unfold f_X12_strengthOf at E
  refine as_met (lv := [(0, .ref 248), (1, .int p1), (2, .int p2)]) (by decide +kernel) (by simp [lg_sl, Value.category]) rfl (fun x C A Z => ?_)
  refine am_aload_n 0 C dX12_strengthOf_0 rfl 0 rfl ?_
  refine as_getr 1 C fl_X12_39_11 dX12_strengthOf_1 (by decide) sh_248 (rf_248_20 _ _) ?_
  refine am_bipush 4 (nI 11) C dX12_strengthOf_4 (by decide) ?_
  refine am_bipush 6 (nI 16) C dX12_strengthOf_6 (by decide) ?_
  refine am_iload_n 8 C dX12_strengthOf_8 rfl 1 rfl ?_
  refine am_imul 9 C dX12_strengthOf_9 ?_
  refine am_iadd 10 C dX12_strengthOf_10 ?_
  refine am_iconst 11 (nI 2) C dX12_strengthOf_11 (by decide) ?_
  refine am_iload_n 12 C dX12_strengthOf_12 rfl 2 rfl ?_
  refine am_imul 13 C dX12_strengthOf_13 ?_
  refine am_iadd 14 C dX12_strengthOf_14 ?_
  refine am_iconst 15 (1 : Int32) C dX12_strengthOf_15 (by decide) ?_
  refine am_iadd 16 C dX12_strengthOf_16 ?_
  obtain ⟨v3, hv3, E⟩ := am_ltE E
  refine as_nm hv3 ?_
  obtain ⟨g4, E⟩ := am_gdE E
  refine as_iald 17 C dX12_strengthOf_17 (by decide) sh_258 g4 ?_
  replace E := Option.some.inj E
  subst E
  exact as_iret 18 C Z rfl dX12_strengthOf_18
def f_X12_holdsNow (p1 : Int32) (p2 : Int32) (p3 : Int32) (p4 : Int32) (s0 : am_S) : Option (am_S) :=
  am_gd (¬ (((nI 11) + ((nI 16) * p1)) + ((nI 2) * p2)) < 0 ∧ ((((nI 11) + ((nI 16) * p1)) + ((nI 2) * p2))).toNatClampNeg < 328) (am_lt (as_i s0 258 ((((nI 11) + ((nI 16) * p1)) + ((nI 2) * p2))).toNatClampNeg p3) (fun s6 => am_gd (¬ ((((nI 11) + ((nI 16) * p1)) + ((nI 2) * p2)) + (1 : Int32)) < 0 ∧ (((((nI 11) + ((nI 16) * p1)) + ((nI 2) * p2)) + (1 : Int32))).toNatClampNeg < 328) (am_lt (as_i s6 258 (((((nI 11) + ((nI 16) * p1)) + ((nI 2) * p2)) + (1 : Int32))).toNatClampNeg p4) (fun s8 => some s8))))
set_option maxRecDepth 100000 in
set_option maxHeartbeats 4000000 in
theorem t_X12_holdsNow (p1 : Int32) (p2 : Int32) (p3 : Int32) (p4 : Int32) (s0 : am_S) {z : am_S} (E : f_X12_holdsNow p1 p2 p3 p4 s0 = some z) : AS yX12_holdsNow cX12_holdsNow 5 none 1 [.ref 248, .int p1, .int p2, .int p3, .int p4] s0 none z := by
  unfold f_X12_holdsNow at E
  refine as_met (lv := [(0, .ref 248), (1, .int p1), (2, .int p2), (3, .int p3), (4, .int p4)]) (by decide +kernel) (by simp [lg_sl, Value.category]) rfl (fun x C A Z => ?_)
  refine am_aload_n 0 C dX12_holdsNow_0 rfl 0 rfl ?_
  refine as_getr 1 C fl_X12_39_11 dX12_holdsNow_1 (by decide) sh_248 (rf_248_20 _ _) ?_
  refine am_bipush 4 (nI 11) C dX12_holdsNow_4 (by decide) ?_
  refine am_bipush 6 (nI 16) C dX12_holdsNow_6 (by decide) ?_
  refine am_iload_n 8 C dX12_holdsNow_8 rfl 1 rfl ?_
  refine am_imul 9 C dX12_holdsNow_9 ?_
  refine am_iadd 10 C dX12_holdsNow_10 ?_
  refine am_iconst 11 (nI 2) C dX12_holdsNow_11 (by decide) ?_
  refine am_iload_n 12 C dX12_holdsNow_12 rfl 2 rfl ?_
  refine am_imul 13 C dX12_holdsNow_13 ?_
  refine am_iadd 14 C dX12_holdsNow_14 ?_
  refine am_iload_n 15 C dX12_holdsNow_15 rfl 3 rfl ?_
  obtain ⟨g5, E⟩ := am_gdE E
  obtain ⟨s6, hs6, E⟩ := am_ltE E
  refine as_iast 16 C dX12_holdsNow_16 (by decide) sh_258 g5 hs6 ?_
  refine am_aload_n 17 C dX12_holdsNow_17 rfl 0 rfl ?_
  refine as_getr 18 C fl_X12_39_11 dX12_holdsNow_18 (by decide) sh_248 (rf_248_20 _ _) ?_
  refine am_bipush 21 (nI 11) C dX12_holdsNow_21 (by decide) ?_
  refine am_bipush 23 (nI 16) C dX12_holdsNow_23 (by decide) ?_
  refine am_iload_n 25 C dX12_holdsNow_25 rfl 1 rfl ?_
  refine am_imul 26 C dX12_holdsNow_26 ?_
  refine am_iadd 27 C dX12_holdsNow_27 ?_
  refine am_iconst 28 (nI 2) C dX12_holdsNow_28 (by decide) ?_
  refine am_iload_n 29 C dX12_holdsNow_29 rfl 2 rfl ?_
  refine am_imul 30 C dX12_holdsNow_30 ?_
  refine am_iadd 31 C dX12_holdsNow_31 ?_
  refine am_iconst 32 (1 : Int32) C dX12_holdsNow_32 (by decide) ?_
  refine am_iadd 33 C dX12_holdsNow_33 ?_
  refine am_iload 34 C dX12_holdsNow_34 4 rfl ?_
  obtain ⟨g7, E⟩ := am_gdE E
  obtain ⟨s8, hs8, E⟩ := am_ltE E
  refine as_iast 36 C dX12_holdsNow_36 (by decide) sh_258 g7 hs8 ?_
  replace E := Option.some.inj E
  subst E
  exact as_vret 37 C Z dX12_holdsNow_37
def f_X12_trustOf (p1 : Int32) (p2 : Int32) (s0 : am_S) : Option (Int32) :=
  am_lt (((nI 130) + ((nI 7) * p1)) + p2) (fun v3 => am_gd (¬ v3 < 0 ∧ (v3).toNatClampNeg < 328) (some (s0.1 258 (v3).toNatClampNeg)))
set_option maxRecDepth 100000 in
set_option maxHeartbeats 4000000 in
theorem t_X12_trustOf (p1 : Int32) (p2 : Int32) (s0 : am_S) {z : Int32} (E : f_X12_trustOf p1 p2 s0 = some z) : AS yX12_trustOf cX12_trustOf 3 (some .int) 1 [.ref 248, .int p1, .int p2] s0 (some (.int z)) s0 := by
  unfold f_X12_trustOf at E
  refine as_met (lv := [(0, .ref 248), (1, .int p1), (2, .int p2)]) (by decide +kernel) (by simp [lg_sl, Value.category]) rfl (fun x C A Z => ?_)
  refine am_aload_n 0 C dX12_trustOf_0 rfl 0 rfl ?_
  refine as_getr 1 C fl_X12_39_11 dX12_trustOf_1 (by decide) sh_248 (rf_248_20 _ _) ?_
  refine am_sipush 4 (nI 130) C dX12_trustOf_4 (by decide) ?_
  refine am_bipush 7 (nI 7) C dX12_trustOf_7 (by decide) ?_
  refine am_iload_n 9 C dX12_trustOf_9 rfl 1 rfl ?_
  refine am_imul 10 C dX12_trustOf_10 ?_
  refine am_iadd 11 C dX12_trustOf_11 ?_
  refine am_iload_n 12 C dX12_trustOf_12 rfl 2 rfl ?_
  refine am_iadd 13 C dX12_trustOf_13 ?_
  obtain ⟨v3, hv3, E⟩ := am_ltE E
  refine as_nm hv3 ?_
  obtain ⟨g4, E⟩ := am_gdE E
  refine as_iald 14 C dX12_trustOf_14 (by decide) sh_258 g4 ?_
  replace E := Option.some.inj E
  subst E
  exact as_iret 15 C Z rfl dX12_trustOf_15
def j_X12_streetOf_54 (p1 : Int32) (p2 : Int32) (v5 : Int32) (v6 : Int32) (v7 : Int32) : Option ((Int32) ⊕ (Int32)) :=
  am_if (v6 = p2) (am_if (v7 = p1) (some (Sum.inr v5)) (am_lt (v5 + (1 : Int32)) (fun v9 => some (Sum.inl v9)))) (am_lt (v5 + (1 : Int32)) (fun v8 => some (Sum.inl v8)))
def b_X12_streetOf_2 (p1 : Int32) (p2 : Int32) (s0 : am_S) (v4 : Int32) : Option ((Int32) ⊕ (Int32)) :=
  am_if ((s0.1 258 3) ≤ v4) (some (Sum.inr (-1 : Int32))) (am_lt ((nI 179) + ((nI 2) * v4)) (fun v12 => am_gd (¬ v12 < 0 ∧ (v12).toNatClampNeg < 328) (am_lt (s0.1 258 (v12).toNatClampNeg) (fun v14 => am_lt (((nI 179) + ((nI 2) * v4)) + (1 : Int32)) (fun v15 => am_gd (¬ v15 < 0 ∧ (v15).toNatClampNeg < 328) (am_lt (s0.1 258 (v15).toNatClampNeg) (fun v17 => am_if (v14 = p1) (am_if (v17 = p2) (some (Sum.inr v4)) (j_X12_streetOf_54 p1 p2 v4 v14 v17)) (j_X12_streetOf_54 p1 p2 v4 v14 v17))))))))
def f_X12_streetOf (p1 : Int32) (p2 : Int32) (s0 : am_S) : Option (Int32) :=
  am_lp (fun (q : Int32) => b_X12_streetOf_2 p1 p2 s0 q) am_F (0 : Int32)
set_option maxRecDepth 100000 in
set_option maxHeartbeats 4000000 in
theorem t_X12_streetOf (p1 : Int32) (p2 : Int32) (s0 : am_S) {z : Int32} (E : f_X12_streetOf p1 p2 s0 = some z) : AS yX12_streetOf cX12_streetOf 6 (some .int) 1 [.ref 248, .int p1, .int p2] s0 (some (.int z)) s0 := by
  unfold f_X12_streetOf at E
  refine as_met (lv := [(0, .ref 248), (1, .int p1), (2, .int p2)]) (by decide +kernel) (by simp [lg_sl, Value.category]) rfl (fun x C A Z => ?_)
  refine am_iconst 0 (0 : Int32) C dX12_streetOf_0 (by decide) ?_
  refine am_istore_n 1 (lv2 := [(3, .int (0 : Int32)), (0, .ref 248), (1, .int p1), (2, .int p2)]) C dX12_streetOf_1 rfl (by decide) rfl ?_
  have LP3 : ∀ (n : Nat) (v4 : Int32), am_lp (fun (q : Int32) => b_X12_streetOf_2 p1 p2 s0 q) n v4 = some z → AX x 0 0 2 [(0, .ref 248), (1, .int p1), (2, .int p2), (3, .int v4)] [] am_N (am_h s0) := by
    intro n
    induction n with
    | zero => intro v4 E; exact (am_lp0 E).elim
    | succ n ih3 =>
      intro v4 E
      obtain ⟨r3, E, Er3⟩ := am_lpE E
      replace E : b_X12_streetOf_2 p1 p2 s0 v4 = some r3 := E
      unfold b_X12_streetOf_2 at E
      have K54 : ∀ (v5 : Int32) (v6 : Int32) (v7 : Int32), j_X12_streetOf_54 p1 p2 v5 v6 v7 = some r3 → AX x 0 0 54 [(0, .ref 248), (1, .int p1), (2, .int p2), (3, .int v5), (4, .int v6), (5, .int v7)] [] am_N (am_h s0) := by
        intro v5 v6 v7 E
        unfold j_X12_streetOf_54 at E
        refine am_iload 54 C dX12_streetOf_54 4 rfl ?_
        refine am_iload_n 56 C dX12_streetOf_56 rfl 2 rfl ?_
        refine am_icmp_ne 57 68 C dX12_streetOf_57 (by decide) (fun c11 => ?_) (fun c11 => ?_)
        · have E := am_ifF E c11
          obtain ⟨v8, hv8, E⟩ := am_ltE E
          refine as_iinc 68 (q := (1 : Int32)) (lv2 := [(3, .int v8), (0, .ref 248), (1, .int p1), (2, .int p2), (4, .int v6), (5, .int v7)]) C dX12_streetOf_68 3 rfl (by decide) hv8 (by decide) rfl ?_
          refine am_goto 71 2 C dX12_streetOf_71 (by decide) ?_
          replace E := Option.some.inj E
          replace E := am_exL E Er3
          refine am_lvs [1, 2, 3, 0] rfl ?_
          exact ih3 _ E
        · have E := am_ifT E c11
          refine am_iload 60 C dX12_streetOf_60 5 rfl ?_
          refine am_iload_n 62 C dX12_streetOf_62 rfl 1 rfl ?_
          refine am_icmp_ne 63 68 C dX12_streetOf_63 (by decide) (fun c10 => ?_) (fun c10 => ?_)
          · have E := am_ifF E c10
            obtain ⟨v9, hv9, E⟩ := am_ltE E
            refine as_iinc 68 (q := (1 : Int32)) (lv2 := [(3, .int v9), (0, .ref 248), (1, .int p1), (2, .int p2), (4, .int v6), (5, .int v7)]) C dX12_streetOf_68 3 rfl (by decide) hv9 (by decide) rfl ?_
            refine am_goto 71 2 C dX12_streetOf_71 (by decide) ?_
            replace E := Option.some.inj E
            replace E := am_exL E Er3
            refine am_lvs [1, 2, 3, 0] rfl ?_
            exact ih3 _ E
          · have E := am_ifT E c10
            refine am_iload_n 66 C dX12_streetOf_66 rfl 3 rfl ?_
            replace E := Option.some.inj E
            replace E := am_exR E Er3
            subst E
            exact as_iret 67 C Z rfl dX12_streetOf_67
      refine am_iload_n 2 C dX12_streetOf_2 rfl 3 rfl ?_
      refine am_aload_n 3 C dX12_streetOf_3 rfl 0 rfl ?_
      refine as_getr 4 C fl_X12_39_11 dX12_streetOf_4 (by decide) sh_248 (rf_248_20 _ _) ?_
      refine am_iconst 7 (nI 3) C dX12_streetOf_7 (by decide) ?_
      refine as_ialdK 8 3 C dX12_streetOf_8 (by decide) sh_258 (by decide) (by decide) ?_
      refine am_icmp_ge 9 74 C dX12_streetOf_9 (by decide) (fun c20 => ?_) (fun c20 => ?_)
      · have E := am_ifT E c20
        refine am_iconst 74 (-1 : Int32) C dX12_streetOf_74 (by decide) ?_
        replace E := Option.some.inj E
        replace E := am_exR E Er3
        subst E
        exact as_iret 75 C Z rfl dX12_streetOf_75
      · have E := am_ifF E c20
        refine am_aload_n 12 C dX12_streetOf_12 rfl 0 rfl ?_
        refine as_getr 13 C fl_X12_39_11 dX12_streetOf_13 (by decide) sh_248 (rf_248_20 _ _) ?_
        refine am_sipush 16 (nI 179) C dX12_streetOf_16 (by decide) ?_
        refine am_iconst 19 (nI 2) C dX12_streetOf_19 (by decide) ?_
        refine am_iload_n 20 C dX12_streetOf_20 rfl 3 rfl ?_
        refine am_imul 21 C dX12_streetOf_21 ?_
        refine am_iadd 22 C dX12_streetOf_22 ?_
        obtain ⟨v12, hv12, E⟩ := am_ltE E
        refine as_nm hv12 ?_
        obtain ⟨g13, E⟩ := am_gdE E
        refine as_iald 23 C dX12_streetOf_23 (by decide) sh_258 g13 ?_
        obtain ⟨v14, hv14, E⟩ := am_ltE E
        refine as_nm hv14 ?_
        refine am_istore 24 (lv2 := [(4, .int v14), (0, .ref 248), (1, .int p1), (2, .int p2), (3, .int v4)]) C dX12_streetOf_24 (by decide) rfl ?_
        refine am_aload_n 26 C dX12_streetOf_26 rfl 1 rfl ?_
        refine as_getr 27 C fl_X12_39_11 dX12_streetOf_27 (by decide) sh_248 (rf_248_20 _ _) ?_
        refine am_sipush 30 (nI 179) C dX12_streetOf_30 (by decide) ?_
        refine am_iconst 33 (nI 2) C dX12_streetOf_33 (by decide) ?_
        refine am_iload_n 34 C dX12_streetOf_34 rfl 4 rfl ?_
        refine am_imul 35 C dX12_streetOf_35 ?_
        refine am_iadd 36 C dX12_streetOf_36 ?_
        refine am_iconst 37 (1 : Int32) C dX12_streetOf_37 (by decide) ?_
        refine am_iadd 38 C dX12_streetOf_38 ?_
        obtain ⟨v15, hv15, E⟩ := am_ltE E
        refine as_nm hv15 ?_
        obtain ⟨g16, E⟩ := am_gdE E
        refine as_iald 39 C dX12_streetOf_39 (by decide) sh_258 g16 ?_
        obtain ⟨v17, hv17, E⟩ := am_ltE E
        refine as_nm hv17 ?_
        refine am_istore 40 (lv2 := [(5, .int v17), (4, .int v14), (0, .ref 248), (1, .int p1), (2, .int p2), (3, .int v4)]) C dX12_streetOf_40 (by decide) rfl ?_
        refine am_iload 42 C dX12_streetOf_42 1 rfl ?_
        refine am_iload_n 44 C dX12_streetOf_44 rfl 3 rfl ?_
        refine am_icmp_ne 45 54 C dX12_streetOf_45 (by decide) (fun c19 => ?_) (fun c19 => ?_)
        · have E := am_ifF E c19
          refine am_lvs [2, 3, 4, 5, 1, 0] rfl ?_
          exact K54 _ _ _ E
        · have E := am_ifT E c19
          refine am_iload 48 C dX12_streetOf_48 0 rfl ?_
          refine am_iload_n 50 C dX12_streetOf_50 rfl 4 rfl ?_
          refine am_icmp_eq 51 66 C dX12_streetOf_51 (by decide) (fun c18 => ?_) (fun c18 => ?_)
          · have E := am_ifT E c18
            refine am_iload_n 66 C dX12_streetOf_66 rfl 5 rfl ?_
            replace E := Option.some.inj E
            replace E := am_exR E Er3
            subst E
            exact as_iret 67 C Z rfl dX12_streetOf_67
          · have E := am_ifF E c18
            refine am_lvs [2, 3, 4, 5, 1, 0] rfl ?_
            exact K54 _ _ _ E
  refine am_lvs [1, 2, 3, 0] rfl ?_
  exact LP3 am_F _ E
