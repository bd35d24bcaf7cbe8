def f_X0_forget  (s0 : am_S) : Option (am_S) :=
  am_lt (as_i s0 32 1 (0 : Int32)) (fun s1 => am_lt (as_i s1 32 2 (0 : Int32)) (fun s2 => some s2))
set_option maxRecDepth 100000 in
set_option maxHeartbeats 4000000 in
theorem t_X0_forget (s0 : am_S) {z : am_S} (E : f_X0_forget  s0 = some z) : AS yX0_forget cX0_forget 1 none 1 [.ref 32] s0 none z := by
  unfold f_X0_forget at E
  refine as_met (lv := [(0, .ref 32)]) (by decide +kernel) (by simp [lg_sl, Value.category]) rfl (fun x C A Z => ?_)
  refine am_aload_n 0 C dX0_forget_0 rfl 0 rfl ?_
  refine am_iconst 1 (0 : Int32) C dX0_forget_1 (by decide) ?_
  obtain ⟨s1, hs1, E⟩ := am_ltE E
  refine as_puti 2 C fl_X0_18_0 dX0_forget_2 (by decide) sh_32 rfl rfl hs1 ?_
  refine am_aload_n 5 C dX0_forget_5 rfl 0 rfl ?_
  refine am_iconst 6 (0 : Int32) C dX0_forget_6 (by decide) ?_
  obtain ⟨s2, hs2, E⟩ := am_ltE E
  refine as_puti 7 C fl_X0_22_0 dX0_forget_7 (by decide) sh_32 rfl rfl hs2 ?_
  replace E := Option.some.inj E
  subst E
  exact as_vret 10 C Z dX0_forget_10
def f_X2_copyFrom (a1 : Nat) (a2 : Nat) (s0 : am_S) : Option (am_S) :=
  am_gd (a1 ∈ am_isL) (am_gd (a2 ∈ am_isL) (am_lt (as_w s0 (a1 + 1) (va_cpy (s0.1 (a2 + 1)) (s0.1 (a1 + 1)) 0 0 56)) (fun s3 => am_lt (as_w s3 (a1 + 2) (va_cpy (s3.1 (a2 + 2)) (s3.1 (a1 + 2)) 0 0 56)) (fun s4 => am_lt (as_w s4 (a1 + 3) (va_cpy (s4.1 (a2 + 3)) (s4.1 (a1 + 3)) 0 0 56)) (fun s5 => am_lt (as_w s5 (a1 + 4) (va_cpy (s5.1 (a2 + 4)) (s5.1 (a1 + 4)) 0 0 7)) (fun s6 => am_lt (as_i s6 a1 4 (s6.1 a2 4)) (fun s7 => am_lt (as_i s7 a1 5 (s7.1 a2 5)) (fun s8 => am_lt (as_i s8 a1 6 (s8.1 a2 6)) (fun s9 => am_lt (as_i s9 a1 7 (s9.1 a2 7)) (fun s10 => some s10))))))))))
set_option maxRecDepth 100000 in
set_option maxHeartbeats 4000000 in
theorem t_X2_copyFrom (a1 : Nat) (a2 : Nat) (s0 : am_S) {z : am_S} (E : f_X2_copyFrom a1 a2 s0 = some z) : AS yX2_copyFrom cX2_copyFrom 2 none 2 [.ref a1, .ref a2] s0 none z := by
  unfold f_X2_copyFrom at E
  obtain ⟨ma1, E⟩ := am_gdE E
  obtain ⟨ma2, E⟩ := am_gdE E
  refine as_met (lv := [(0, .ref a1), (1, .ref a2)]) (by decide +kernel) (by simp [lg_sl, Value.category]) rfl (fun x C A Z => ?_)
  refine am_aload_n 0 C dX2_copyFrom_0 rfl 1 rfl ?_
  refine as_getr 1 C fl_X2_9_1 dX2_copyFrom_1 (iL_l0 _ ma2) (iL_sh _ ma2) (iL_r0 _ _ _ ma2) ?_
  refine am_iconst 4 (0 : Int32) C dX2_copyFrom_4 (by decide) ?_
  refine am_aload_n 5 C dX2_copyFrom_5 rfl 0 rfl ?_
  refine as_getr 6 C fl_X2_9_1 dX2_copyFrom_6 (iL_l0 _ ma1) (iL_sh _ ma1) (iL_r0 _ _ _ ma1) ?_
  refine am_iconst 9 (0 : Int32) C dX2_copyFrom_9 (by decide) ?_
  refine am_bipush 10 (nI 56) C dX2_copyFrom_10 (by decide) ?_
  obtain ⟨s3, hs3, E⟩ := am_ltE E
  refine as_copyK 12 0 0 56 C A (by decide) ml_X2_65 (iL_l1 _ ma2) (iL_l1 _ ma1) (iL_s1 _ ma2) (iL_s1 _ ma1) (by decide) (by decide) (by decide) (by decide) (Nat.le_of_ble_eq_true rfl) dX2_copyFrom_12 hs3 ?_
  refine am_aload_n 15 C dX2_copyFrom_15 rfl 1 rfl ?_
  refine as_getr 16 C fl_X2_15_1 dX2_copyFrom_16 (iL_l0 _ ma2) (iL_sh _ ma2) (iL_r1 _ _ _ ma2) ?_
  refine am_iconst 19 (0 : Int32) C dX2_copyFrom_19 (by decide) ?_
  refine am_aload_n 20 C dX2_copyFrom_20 rfl 0 rfl ?_
  refine as_getr 21 C fl_X2_15_1 dX2_copyFrom_21 (iL_l0 _ ma1) (iL_sh _ ma1) (iL_r1 _ _ _ ma1) ?_
  refine am_iconst 24 (0 : Int32) C dX2_copyFrom_24 (by decide) ?_
  refine am_bipush 25 (nI 56) C dX2_copyFrom_25 (by decide) ?_
  obtain ⟨s4, hs4, E⟩ := am_ltE E
  refine as_copyK 27 0 0 56 C A (by decide) ml_X2_65 (iL_l2 _ ma2) (iL_l2 _ ma1) (iL_s2 _ ma2) (iL_s2 _ ma1) (by decide) (by decide) (by decide) (by decide) (Nat.le_of_ble_eq_true rfl) dX2_copyFrom_27 hs4 ?_
  refine am_aload_n 30 C dX2_copyFrom_30 rfl 1 rfl ?_
  refine as_getr 31 C fl_X2_18_1 dX2_copyFrom_31 (iL_l0 _ ma2) (iL_sh _ ma2) (iL_r2 _ _ _ ma2) ?_
  refine am_iconst 34 (0 : Int32) C dX2_copyFrom_34 (by decide) ?_
  refine am_aload_n 35 C dX2_copyFrom_35 rfl 0 rfl ?_
  refine as_getr 36 C fl_X2_18_1 dX2_copyFrom_36 (iL_l0 _ ma1) (iL_sh _ ma1) (iL_r2 _ _ _ ma1) ?_
  refine am_iconst 39 (0 : Int32) C dX2_copyFrom_39 (by decide) ?_
  refine am_bipush 40 (nI 56) C dX2_copyFrom_40 (by decide) ?_
  obtain ⟨s5, hs5, E⟩ := am_ltE E
  refine as_copyK 42 0 0 56 C A (by decide) ml_X2_65 (iL_l3 _ ma2) (iL_l3 _ ma1) (iL_s3 _ ma2) (iL_s3 _ ma1) (by decide) (by decide) (by decide) (by decide) (Nat.le_of_ble_eq_true rfl) dX2_copyFrom_42 hs5 ?_
  refine am_aload_n 45 C dX2_copyFrom_45 rfl 1 rfl ?_
  refine as_getr 46 C fl_X2_21_1 dX2_copyFrom_46 (iL_l0 _ ma2) (iL_sh _ ma2) (iL_r3 _ _ _ ma2) ?_
  refine am_iconst 49 (0 : Int32) C dX2_copyFrom_49 (by decide) ?_
  refine am_aload_n 50 C dX2_copyFrom_50 rfl 0 rfl ?_
  refine as_getr 51 C fl_X2_21_1 dX2_copyFrom_51 (iL_l0 _ ma1) (iL_sh _ ma1) (iL_r3 _ _ _ ma1) ?_
  refine am_iconst 54 (0 : Int32) C dX2_copyFrom_54 (by decide) ?_
  refine am_bipush 55 (nI 7) C dX2_copyFrom_55 (by decide) ?_
  obtain ⟨s6, hs6, E⟩ := am_ltE E
  refine as_copyK 57 0 0 7 C A (by decide) ml_X2_65 (iL_l4 _ ma2) (iL_l4 _ ma1) (iL_s4 _ ma2) (iL_s4 _ ma1) (by decide) (by decide) (by decide) (by decide) (Nat.le_of_ble_eq_true rfl) dX2_copyFrom_57 hs6 ?_
  refine am_aload_n 60 C dX2_copyFrom_60 rfl 0 rfl ?_
  refine am_aload_n 61 C dX2_copyFrom_61 rfl 1 rfl ?_
  refine as_geti 62 C fl_X2_56_1 dX2_copyFrom_62 (iL_l0 _ ma2) (iL_sh _ ma2) ?_
  obtain ⟨s7, hs7, E⟩ := am_ltE E
  refine as_puti 65 C fl_X2_56_1 dX2_copyFrom_65 (iL_l0 _ ma1) (iL_sh _ ma1) rfl rfl hs7 ?_
  refine am_aload_n 68 C dX2_copyFrom_68 rfl 0 rfl ?_
  refine am_aload_n 69 C dX2_copyFrom_69 rfl 1 rfl ?_
  refine as_geti 70 C fl_X2_59_1 dX2_copyFrom_70 (iL_l0 _ ma2) (iL_sh _ ma2) ?_
  obtain ⟨s8, hs8, E⟩ := am_ltE E
  refine as_puti 73 C fl_X2_59_1 dX2_copyFrom_73 (iL_l0 _ ma1) (iL_sh _ ma1) rfl rfl hs8 ?_
  refine am_aload_n 76 C dX2_copyFrom_76 rfl 0 rfl ?_
  refine am_aload_n 77 C dX2_copyFrom_77 rfl 1 rfl ?_
  refine as_geti 78 C fl_X2_71_1 dX2_copyFrom_78 (iL_l0 _ ma2) (iL_sh _ ma2) ?_
  obtain ⟨s9, hs9, E⟩ := am_ltE E
  refine as_puti 81 C fl_X2_71_1 dX2_copyFrom_81 (iL_l0 _ ma1) (iL_sh _ ma1) rfl rfl hs9 ?_
  refine am_aload_n 84 C dX2_copyFrom_84 rfl 0 rfl ?_
  refine am_aload_n 85 C dX2_copyFrom_85 rfl 1 rfl ?_
  refine as_geti 86 C fl_X2_24_1 dX2_copyFrom_86 (iL_l0 _ ma2) (iL_sh _ ma2) ?_
  obtain ⟨s10, hs10, E⟩ := am_ltE E
  refine as_puti 89 C fl_X2_24_1 dX2_copyFrom_89 (iL_l0 _ ma1) (iL_sh _ ma1) rfl rfl hs10 ?_
  replace E := Option.some.inj E
  subst E
  exact as_vret 92 C Z dX2_copyFrom_92
def f_X0_keep  (s0 : am_S) : Option (am_S) :=
  am_lt (((s0.1 32 1) + (s0.1 32 2)) - ((s0.1 32 1) + (s0.1 32 2)) / (nI 20) * (nI 20)) (fun v1 => am_gd (¬ v1 < 0 ∧ (v1).toNatClampNeg < 20) (am_lt (34 + 5 * (v1).toNatClampNeg) (fun q3 => am_bd (f_X2_copyFrom q3 24 s0) (fun s4 => am_if ((nI 20) ≤ (s4.1 32 2)) (am_lt (as_i s4 32 1 (((s4.1 32 1) + (1 : Int32)) - ((s4.1 32 1) + (1 : Int32)) / (nI 20) * (nI 20))) (fun s5 => some s5)) (am_lt (as_i s4 32 2 ((s4.1 32 2) + (1 : Int32))) (fun s6 => some s6))))))
set_option maxRecDepth 100000 in
set_option maxHeartbeats 4000000 in
theorem t_X0_keep (s0 : am_S) {z : am_S} (E : f_X0_keep  s0 = some z) : AS yX0_keep cX0_keep 2 none 3 [.ref 32, .ref 24] s0 none z := by
  unfold f_X0_keep at E
  refine as_met (lv := [(0, .ref 32), (1, .ref 24)]) (by decide +kernel) (by simp [lg_sl, Value.category]) rfl (fun x C A Z => ?_)
  refine am_aload_n 0 C dX0_keep_0 rfl 0 rfl ?_
  refine as_getr 1 C fl_X0_11_0 dX0_keep_1 (by decide) sh_32 (rf_32_0 _ _) ?_
  refine am_aload_n 4 C dX0_keep_4 rfl 0 rfl ?_
  refine as_geti 5 C fl_X0_18_0 dX0_keep_5 (by decide) sh_32 ?_
  refine am_aload_n 8 C dX0_keep_8 rfl 0 rfl ?_
  refine as_geti 9 C fl_X0_22_0 dX0_keep_9 (by decide) sh_32 ?_
  refine am_iadd 12 C dX0_keep_12 ?_
  refine am_bipush 13 (nI 20) C dX0_keep_13 (by decide) ?_
  refine am_irem 15 C dX0_keep_15 (by decide) ?_
  obtain ⟨v1, hv1, E⟩ := am_ltE E
  refine as_nm hv1 ?_
  obtain ⟨g2, E⟩ := am_gdE E
  refine as_aald 16 (q := 34 + 5 * (v1).toNatClampNeg) C dX0_keep_16 (by decide) sh_33 (by decide) g2 (fun t u => ra_33 t u _ (g2).2) ?_
  obtain ⟨q3, hq3, E⟩ := am_ltE E
  refine as_nmr hq3 ?_
  have mq3 : q3 ∈ am_isL := by rw [hq3]; exact rb_33 _ (g2).2
  refine am_aload_n 17 C dX0_keep_17 rfl 1 rfl ?_
  obtain ⟨s4, Ec, E⟩ := am_bdE E
  refine as_callV 18 (s2 := s4) (st := []) (st2 := []) [.ref 24] C A (by decide) ml_X0_25 yc_X2_copyFrom yv_X2_copyFrom (t_X2_copyFrom q3 24 s0 Ec) (iL_l0 _ mq3) (iL_sh _ mq3) rfl rfl (Nat.le_of_ble_eq_true rfl) rfl dX0_keep_18 ?_
  refine am_aload_n 21 C dX0_keep_21 rfl 0 rfl ?_
  refine as_geti 22 C fl_X0_22_0 dX0_keep_22 (by decide) sh_32 ?_
  refine am_bipush 25 (nI 20) C dX0_keep_25 (by decide) ?_
  refine am_icmp_ge 27 43 C dX0_keep_27 (by decide) (fun c7 => ?_) (fun c7 => ?_)
  · have E := am_ifT E c7
    refine am_aload_n 43 C dX0_keep_43 rfl 0 rfl ?_
    refine am_aload_n 44 C dX0_keep_44 rfl 0 rfl ?_
    refine as_geti 45 C fl_X0_18_0 dX0_keep_45 (by decide) sh_32 ?_
    refine am_iconst 48 (1 : Int32) C dX0_keep_48 (by decide) ?_
    refine am_iadd 49 C dX0_keep_49 ?_
    refine am_bipush 50 (nI 20) C dX0_keep_50 (by decide) ?_
    refine am_irem 52 C dX0_keep_52 (by decide) ?_
    obtain ⟨s5, hs5, E⟩ := am_ltE E
    refine as_puti 53 C fl_X0_18_0 dX0_keep_53 (by decide) sh_32 rfl rfl hs5 ?_
    replace E := Option.some.inj E
    subst E
    exact as_vret 56 C Z dX0_keep_56
  · have E := am_ifF E c7
    refine am_aload_n 30 C dX0_keep_30 rfl 0 rfl ?_
    refine am_dup 31 C dX0_keep_31 rfl ?_
    refine as_geti 32 C fl_X0_22_0 dX0_keep_32 (by decide) sh_32 ?_
    refine am_iconst 35 (1 : Int32) C dX0_keep_35 (by decide) ?_
    refine am_iadd 36 C dX0_keep_36 ?_
    obtain ⟨s6, hs6, E⟩ := am_ltE E
    refine as_puti 37 C fl_X0_22_0 dX0_keep_37 (by decide) sh_32 rfl rfl hs6 ?_
    refine am_goto 40 56 C dX0_keep_40 (by decide) ?_
    replace E := Option.some.inj E
    subst E
    exact as_vret 56 C Z dX0_keep_56
def f_X0_takeBack  (s0 : am_S) : Option (am_S) :=
  am_if ((s0.1 32 2) ≤ 0) (some s0) (am_lt (as_i s0 32 2 ((s0.1 32 2) - (1 : Int32))) (fun s1 => am_lt (((s1.1 32 1) + (s1.1 32 2)) - ((s1.1 32 1) + (s1.1 32 2)) / (nI 20) * (nI 20)) (fun v2 => am_gd (¬ v2 < 0 ∧ (v2).toNatClampNeg < 20) (am_lt (34 + 5 * (v2).toNatClampNeg) (fun q4 => am_bd (f_X2_copyFrom 24 q4 s1) (fun s5 => some s5))))))
set_option maxRecDepth 100000 in
set_option maxHeartbeats 4000000 in
theorem t_X0_takeBack (s0 : am_S) {z : am_S} (E : f_X0_takeBack  s0 = some z) : AS yX0_takeBack cX0_takeBack 2 none 3 [.ref 32, .ref 24] s0 none z := by
  unfold f_X0_takeBack at E
  refine as_met (lv := [(0, .ref 32), (1, .ref 24)]) (by decide +kernel) (by simp [lg_sl, Value.category]) rfl (fun x C A Z => ?_)
  refine am_aload_n 0 C dX0_takeBack_0 rfl 0 rfl ?_
  refine as_geti 1 C fl_X0_22_0 dX0_takeBack_1 (by decide) sh_32 ?_
  refine am_if_le 4 38 C dX0_takeBack_4 (by decide) (fun c6 => ?_) (fun c6 => ?_)
  · have E := am_ifT E c6
    replace E := Option.some.inj E
    subst E
    exact as_vret 38 C Z dX0_takeBack_38
  · have E := am_ifF E c6
    refine am_aload_n 7 C dX0_takeBack_7 rfl 0 rfl ?_
    refine am_dup 8 C dX0_takeBack_8 rfl ?_
    refine as_geti 9 C fl_X0_22_0 dX0_takeBack_9 (by decide) sh_32 ?_
    refine am_iconst 12 (1 : Int32) C dX0_takeBack_12 (by decide) ?_
    refine am_isub 13 C dX0_takeBack_13 ?_
    obtain ⟨s1, hs1, E⟩ := am_ltE E
    refine as_puti 14 C fl_X0_22_0 dX0_takeBack_14 (by decide) sh_32 rfl rfl hs1 ?_
    refine am_aload_n 17 C dX0_takeBack_17 rfl 1 rfl ?_
    refine am_aload_n 18 C dX0_takeBack_18 rfl 0 rfl ?_
    refine as_getr 19 C fl_X0_11_0 dX0_takeBack_19 (by decide) sh_32 (rf_32_0 _ _) ?_
    refine am_aload_n 22 C dX0_takeBack_22 rfl 0 rfl ?_
    refine as_geti 23 C fl_X0_18_0 dX0_takeBack_23 (by decide) sh_32 ?_
    refine am_aload_n 26 C dX0_takeBack_26 rfl 0 rfl ?_
    refine as_geti 27 C fl_X0_22_0 dX0_takeBack_27 (by decide) sh_32 ?_
    refine am_iadd 30 C dX0_takeBack_30 ?_
    refine am_bipush 31 (nI 20) C dX0_takeBack_31 (by decide) ?_
    refine am_irem 33 C dX0_takeBack_33 (by decide) ?_
    obtain ⟨v2, hv2, E⟩ := am_ltE E
    refine as_nm hv2 ?_
    obtain ⟨g3, E⟩ := am_gdE E
    refine as_aald 34 (q := 34 + 5 * (v2).toNatClampNeg) C dX0_takeBack_34 (by decide) sh_33 (by decide) g3 (fun t u => ra_33 t u _ (g3).2) ?_
    obtain ⟨q4, hq4, E⟩ := am_ltE E
    refine as_nmr hq4 ?_
    have mq4 : q4 ∈ am_isL := by rw [hq4]; exact rb_33 _ (g3).2
    obtain ⟨s5, Ec, E⟩ := am_bdE E
    refine as_callV 35 (s2 := s5) (st := []) (st2 := []) [.ref q4] C A (by decide) ml_X0_25 yc_X2_copyFrom yv_X2_copyFrom (t_X2_copyFrom 24 q4 s1 Ec) (by decide) sh_24 rfl rfl (Nat.le_of_ble_eq_true rfl) rfl dX0_takeBack_35 ?_
    replace E := Option.some.inj E
    subst E
    exact as_vret 38 C Z dX0_takeBack_38
def b_J7_fill_53178_5 (a1 : Nat) (p2 : Int32) (v3 : Int32) (v5 : Int32) (s6 : am_S) : Option ((Int32 × am_S) ⊕ (am_S)) :=
  am_if (v3 ≤ v5) (some (Sum.inr s6)) (am_gd (¬ v5 < 0 ∧ (v5).toNatClampNeg < (am_sh a1).2) (am_lt (as_i s6 a1 (v5).toNatClampNeg p2) (fun s8 => am_lt (v5 + (1 : Int32)) (fun v9 => some (Sum.inl (v9, s8))))))
def f_J7_fill_53178 (a1 : Nat) (p2 : Int32) (s0 : am_S) : Option (am_S) :=
  am_gd (am_sh a1 = (13, (am_sh a1).2) ∧ a1 < am_N) (am_lt (Int32.ofNat (am_sh a1).2) (fun v3 => am_lp (fun (q : Int32 × am_S) => b_J7_fill_53178_5 a1 p2 v3 q.1 q.2) am_F ((0 : Int32), s0)))
set_option maxRecDepth 100000 in
set_option maxHeartbeats 4000000 in
theorem t_J7_fill_53178 (a1 : Nat) (p2 : Int32) (s0 : am_S) {z : am_S} (E : f_J7_fill_53178 a1 p2 s0 = some z) : AS yJ7_fill_53178 cJ7_fill_53178 4 none 1 [.ref a1, .int p2] s0 none z := by
  unfold f_J7_fill_53178 at E
  obtain ⟨ma1, E⟩ := am_gdE E
  refine as_met (lv := [(0, .ref a1), (1, .int p2)]) (by decide +kernel) (by simp [lg_sl, Value.category]) rfl (fun x C A Z => ?_)
  refine am_iconst 0 (0 : Int32) C dJ7_fill_53178_0 (by decide) ?_
  refine am_istore_n 1 (lv2 := [(2, .int (0 : Int32)), (0, .ref a1), (1, .int p2)]) C dJ7_fill_53178_1 rfl (by decide) rfl ?_
  refine am_aload_n 2 C dJ7_fill_53178_2 rfl 1 rfl ?_
  refine am_alen 3 (Int32.ofNat (am_sh a1).2) C dJ7_fill_53178_3 ma1.2 ma1.1 (by decide) rfl ?_
  obtain ⟨v3, hv3, E⟩ := am_ltE E
  refine as_nm hv3 ?_
  refine am_istore_n 4 (lv2 := [(3, .int v3), (2, .int (0 : Int32)), (0, .ref a1), (1, .int p2)]) C dJ7_fill_53178_4 rfl (by decide) rfl ?_
  have LP4 : ∀ (n : Nat) (v5 : Int32) (s6 : am_S), am_lp (fun (q : Int32 × am_S) => b_J7_fill_53178_5 a1 p2 v3 q.1 q.2) n (v5, s6) = some z → AX x 0 0 5 [(0, .ref a1), (1, .int p2), (2, .int v5), (3, .int v3)] [] am_N (am_h s6) := by
    intro n
    induction n with
    | zero => intro v5 s6 E; exact (am_lp0 E).elim
    | succ n ih4 =>
      intro v5 s6 E
      obtain ⟨r4, E, Er4⟩ := am_lpE E
      replace E : b_J7_fill_53178_5 a1 p2 v3 v5 s6 = some r4 := E
      unfold b_J7_fill_53178_5 at E
      refine am_iload_n 5 C dJ7_fill_53178_5 rfl 2 rfl ?_
      refine am_iload_n 6 C dJ7_fill_53178_6 rfl 3 rfl ?_
      refine am_icmp_ge 7 20 C dJ7_fill_53178_7 (by decide) (fun c10 => ?_) (fun c10 => ?_)
      · have E := am_ifT E c10
        replace E := Option.some.inj E
        replace E := am_exR E Er4
        subst E
        exact as_vret 20 C Z dJ7_fill_53178_20
      · have E := am_ifF E c10
        refine am_aload_n 10 C dJ7_fill_53178_10 rfl 0 rfl ?_
        refine am_iload_n 11 C dJ7_fill_53178_11 rfl 2 rfl ?_
        refine am_iload_n 12 C dJ7_fill_53178_12 rfl 1 rfl ?_
        obtain ⟨g7, E⟩ := am_gdE E
        obtain ⟨s8, hs8, E⟩ := am_ltE E
        refine as_iast 13 C dJ7_fill_53178_13 ma1.2 ma1.1 g7 hs8 ?_
        obtain ⟨v9, hv9, E⟩ := am_ltE E
        refine as_iinc 14 (q := (1 : Int32)) (lv2 := [(2, .int v9), (0, .ref a1), (1, .int p2), (3, .int v3)]) C dJ7_fill_53178_14 2 rfl (by decide) hv9 (by decide) rfl ?_
        refine am_goto 17 5 C dJ7_fill_53178_17 (by decide) ?_
        replace E := Option.some.inj E
        replace E := am_exL E Er4
        refine am_lvs [1, 2, 0, 3] rfl ?_
        exact ih4 _ _ E
  refine am_lvs [2, 3, 1, 0] rfl ?_
  exact LP4 am_F _ _ E
def f_X11_bit (p1 : Int32) (p2 : Int32) : Option (Int32) :=
  some ((p1 >>> (p2 &&& 31)) &&& (1 : Int32))
set_option maxRecDepth 100000 in
set_option maxHeartbeats 4000000 in
theorem t_X11_bit (p1 : Int32) (p2 : Int32) (s0 : am_S) {z : Int32} (E : f_X11_bit p1 p2 = some z) : AS yX11_bit cX11_bit 2 (some .int) 1 [.int p1, .int p2] s0 (some (.int z)) s0 := by
  unfold f_X11_bit at E
  refine as_met (lv := [(0, .int p1), (1, .int p2)]) (by decide +kernel) (by simp [lg_sl, Value.category]) rfl (fun x C A Z => ?_)
  refine am_iload_n 0 C dX11_bit_0 rfl 0 rfl ?_
  refine am_iload_n 1 C dX11_bit_1 rfl 1 rfl ?_
  refine am_ishr 2 C dX11_bit_2 ?_
  refine am_iconst 3 (1 : Int32) C dX11_bit_3 (by decide) ?_
  refine am_iand 4 C dX11_bit_4 ?_
  replace E := Option.some.inj E
  subst E
  exact as_iret 5 C Z rfl dX11_bit_5
def j_X8_firstFollowing_40 (a1 : Nat) (p2 : Int32) (s0 : am_S) (v5 : Int32) (v6 : Int32) : Option ((Int32) ⊕ (Int32)) :=
  am_if (v5 = 0) (am_lt (v6 + (1 : Int32)) (fun v7 => some (Sum.inl v7))) (am_lt (((nI 4) * v6) + (nI 2)) (fun v8 => am_gd (¬ v8 < 0 ∧ (v8).toNatClampNeg < 40) (am_lt (p2 + (s0.1 22 (v8).toNatClampNeg)) (fun v10 => am_gd (¬ v10 < 0 ∧ (v10).toNatClampNeg < (am_sh a1).2) (am_if ((s0.1 a1 (v10).toNatClampNeg) = (nI 2)) (some (Sum.inr v6)) (am_lt (v6 + (1 : Int32)) (fun v12 => some (Sum.inl v12))))))))
def b_X8_firstFollowing_2 (a1 : Nat) (p2 : Int32) (s0 : am_S) (v4 : Int32) : Option ((Int32) ⊕ (Int32)) :=
  am_if ((s0.1 16 10) ≤ v4) (some (Sum.inr (-1 : Int32))) (am_lt ((nI 4) * v4) (fun v15 => am_gd (¬ v15 < 0 ∧ (v15).toNatClampNeg < 40) (am_lt (p2 + (s0.1 22 (v15).toNatClampNeg)) (fun v17 => am_gd (¬ v17 < 0 ∧ (v17).toNatClampNeg < (am_sh a1).2) (am_lt (((nI 4) * v4) + (1 : Int32)) (fun v19 => am_gd (¬ v19 < 0 ∧ (v19).toNatClampNeg < 40) (am_if ((s0.1 a1 (v17).toNatClampNeg) = (s0.1 22 (v19).toNatClampNeg)) (j_X8_firstFollowing_40 a1 p2 s0 (1 : Int32) v4) (j_X8_firstFollowing_40 a1 p2 s0 (0 : Int32) v4))))))))
def f_X8_firstFollowing (a1 : Nat) (p2 : Int32) (s0 : am_S) : Option (Int32) :=
  am_gd (am_sh a1 = (13, (am_sh a1).2) ∧ a1 < am_N) (am_lp (fun (q : Int32) => b_X8_firstFollowing_2 a1 p2 s0 q) am_F (0 : Int32))
set_option maxRecDepth 100000 in
set_option maxHeartbeats 4000000 in
theorem t_X8_firstFollowing (a1 : Nat) (p2 : Int32) (s0 : am_S) {z : Int32} (E : f_X8_firstFollowing a1 p2 s0 = some z) : AS yX8_firstFollowing cX8_firstFollowing 5 (some .int) 1 [.ref 16, .ref a1, .int p2] s0 (some (.int z)) s0 := by
  unfold f_X8_firstFollowing at E
  obtain ⟨ma1, E⟩ := am_gdE E
  refine as_met (lv := [(0, .ref 16), (1, .ref a1), (2, .int p2)]) (by decide +kernel) (by simp [lg_sl, Value.category]) rfl (fun x C A Z => ?_)
  refine am_iconst 0 (0 : Int32) C dX8_firstFollowing_0 (by decide) ?_
  refine am_istore_n 1 (lv2 := [(3, .int (0 : Int32)), (0, .ref 16), (1, .ref a1), (2, .int p2)]) C dX8_firstFollowing_1 rfl (by decide) rfl ?_
  have LP3 : ∀ (n : Nat) (v4 : Int32), am_lp (fun (q : Int32) => b_X8_firstFollowing_2 a1 p2 s0 q) n v4 = some z → AX x 0 0 2 [(0, .ref 16), (1, .ref a1), (2, .int p2), (3, .int v4)] [] am_N (am_h s0) := by
    intro n
    induction n with
    | zero => intro v4 E; exact (am_lp0 E).elim
    | succ n ih3 =>
      intro v4 E
      obtain ⟨r3, E, Er3⟩ := am_lpE E
      replace E : b_X8_firstFollowing_2 a1 p2 s0 v4 = some r3 := E
      unfold b_X8_firstFollowing_2 at E
      have K40 : ∀ (v5 : Int32) (v6 : Int32), j_X8_firstFollowing_40 a1 p2 s0 v5 v6 = some r3 → AX x 0 0 40 [(0, .ref 16), (1, .ref a1), (2, .int p2), (3, .int v6)] [.int v5] am_N (am_h s0) := by
        intro v5 v6 E
        unfold j_X8_firstFollowing_40 at E
        refine am_istore 40 (lv2 := [(4, .int v5), (0, .ref 16), (1, .ref a1), (2, .int p2), (3, .int v6)]) C dX8_firstFollowing_40 (by decide) rfl ?_
        refine am_iload 42 C dX8_firstFollowing_42 0 rfl ?_
        refine am_if_eq 44 67 C dX8_firstFollowing_44 (by decide) (fun c14 => ?_) (fun c14 => ?_)
        · have E := am_ifT E c14
          obtain ⟨v7, hv7, E⟩ := am_ltE E
          refine as_iinc 67 (q := (1 : Int32)) (lv2 := [(3, .int v7), (4, .int v5), (0, .ref 16), (1, .ref a1), (2, .int p2)]) C dX8_firstFollowing_67 4 rfl (by decide) hv7 (by decide) rfl ?_
          refine am_goto 70 2 C dX8_firstFollowing_70 (by decide) ?_
          replace E := Option.some.inj E
          replace E := am_exL E Er3
          refine am_lvs [2, 3, 4, 0] rfl ?_
          exact ih3 _ E
        · have E := am_ifF E c14
          refine am_aload_n 47 C dX8_firstFollowing_47 rfl 2 rfl ?_
          refine am_iload_n 48 C dX8_firstFollowing_48 rfl 3 rfl ?_
          refine am_aload_n 49 C dX8_firstFollowing_49 rfl 1 rfl ?_
          refine as_getr 50 C fl_X8_27_7 dX8_firstFollowing_50 (by decide) sh_16 (rf_16_11 _ _) ?_
          refine am_iconst 53 (nI 4) C dX8_firstFollowing_53 (by decide) ?_
          refine am_iload_n 54 C dX8_firstFollowing_54 rfl 4 rfl ?_
          refine am_imul 55 C dX8_firstFollowing_55 ?_
          refine am_iconst 56 (nI 2) C dX8_firstFollowing_56 (by decide) ?_
          refine am_iadd 57 C dX8_firstFollowing_57 ?_
          obtain ⟨v8, hv8, E⟩ := am_ltE E
          refine as_nm hv8 ?_
          obtain ⟨g9, E⟩ := am_gdE E
          refine as_iald 58 C dX8_firstFollowing_58 (by decide) sh_22 g9 ?_
          refine am_iadd 59 C dX8_firstFollowing_59 ?_
          obtain ⟨v10, hv10, E⟩ := am_ltE E
          refine as_nm hv10 ?_
          obtain ⟨g11, E⟩ := am_gdE E
          refine as_iald 60 C dX8_firstFollowing_60 ma1.2 ma1.1 g11 ?_
          refine am_iconst 61 (nI 2) C dX8_firstFollowing_61 (by decide) ?_
          refine am_icmp_ne 62 67 C dX8_firstFollowing_62 (by decide) (fun c13 => ?_) (fun c13 => ?_)
          · have E := am_ifF E c13
            obtain ⟨v12, hv12, E⟩ := am_ltE E
            refine as_iinc 67 (q := (1 : Int32)) (lv2 := [(3, .int v12), (4, .int v5), (0, .ref 16), (1, .ref a1), (2, .int p2)]) C dX8_firstFollowing_67 4 rfl (by decide) hv12 (by decide) rfl ?_
            refine am_goto 70 2 C dX8_firstFollowing_70 (by decide) ?_
            replace E := Option.some.inj E
            replace E := am_exL E Er3
            refine am_lvs [2, 3, 4, 0] rfl ?_
            exact ih3 _ E
          · have E := am_ifT E c13
            refine am_iload_n 65 C dX8_firstFollowing_65 rfl 4 rfl ?_
            replace E := Option.some.inj E
            replace E := am_exR E Er3
            subst E
            exact as_iret 66 C Z rfl dX8_firstFollowing_66
      refine am_iload_n 2 C dX8_firstFollowing_2 rfl 3 rfl ?_
      refine am_aload_n 3 C dX8_firstFollowing_3 rfl 0 rfl ?_
      refine as_geti 4 C fl_X8_50_7 dX8_firstFollowing_4 (by decide) sh_16 ?_
      refine am_icmp_ge 7 73 C dX8_firstFollowing_7 (by decide) (fun c22 => ?_) (fun c22 => ?_)
      · have E := am_ifT E c22
        refine am_iconst 73 (-1 : Int32) C dX8_firstFollowing_73 (by decide) ?_
        replace E := Option.some.inj E
        replace E := am_exR E Er3
        subst E
        exact as_iret 74 C Z rfl dX8_firstFollowing_74
      · have E := am_ifF E c22
        refine am_aload_n 10 C dX8_firstFollowing_10 rfl 1 rfl ?_
        refine am_iload_n 11 C dX8_firstFollowing_11 rfl 2 rfl ?_
        refine am_aload_n 12 C dX8_firstFollowing_12 rfl 0 rfl ?_
        refine as_getr 13 C fl_X8_27_7 dX8_firstFollowing_13 (by decide) sh_16 (rf_16_11 _ _) ?_
        refine am_iconst 16 (nI 4) C dX8_firstFollowing_16 (by decide) ?_
        refine am_iload_n 17 C dX8_firstFollowing_17 rfl 3 rfl ?_
        refine am_imul 18 C dX8_firstFollowing_18 ?_
        obtain ⟨v15, hv15, E⟩ := am_ltE E
        refine as_nm hv15 ?_
        obtain ⟨g16, E⟩ := am_gdE E
        refine as_iald 19 C dX8_firstFollowing_19 (by decide) sh_22 g16 ?_
        refine am_iadd 20 C dX8_firstFollowing_20 ?_
        obtain ⟨v17, hv17, E⟩ := am_ltE E
        refine as_nm hv17 ?_
        obtain ⟨g18, E⟩ := am_gdE E
        refine as_iald 21 C dX8_firstFollowing_21 ma1.2 ma1.1 g18 ?_
        refine am_aload_n 22 C dX8_firstFollowing_22 rfl 0 rfl ?_
        refine as_getr 23 C fl_X8_27_7 dX8_firstFollowing_23 (by decide) sh_16 (rf_16_11 _ _) ?_
        refine am_iconst 26 (nI 4) C dX8_firstFollowing_26 (by decide) ?_
        refine am_iload_n 27 C dX8_firstFollowing_27 rfl 3 rfl ?_
        refine am_imul 28 C dX8_firstFollowing_28 ?_
        refine am_iconst 29 (1 : Int32) C dX8_firstFollowing_29 (by decide) ?_
        refine am_iadd 30 C dX8_firstFollowing_30 ?_
        obtain ⟨v19, hv19, E⟩ := am_ltE E
        refine as_nm hv19 ?_
        obtain ⟨g20, E⟩ := am_gdE E
        refine as_iald 31 C dX8_firstFollowing_31 (by decide) sh_22 g20 ?_
        refine am_icmp_ne 32 39 C dX8_firstFollowing_32 (by decide) (fun c21 => ?_) (fun c21 => ?_)
        · have E := am_ifF E c21
          refine am_iconst 39 (0 : Int32) C dX8_firstFollowing_39 (by decide) ?_
          refine am_lvs [0, 1, 2, 3] rfl ?_
          exact K40 _ _ E
        · have E := am_ifT E c21
          refine am_iconst 35 (1 : Int32) C dX8_firstFollowing_35 (by decide) ?_
          refine am_goto 36 40 C dX8_firstFollowing_36 (by decide) ?_
          refine am_lvs [0, 1, 2, 3] rfl ?_
          exact K40 _ _ E
  refine am_lvs [1, 2, 3, 0] rfl ?_
  exact LP3 am_F _ E
def b_X8_addWhatFollows_2 (a1 : Nat) (p2 : Int32) (v4 : Int32) (s5 : am_S) : Option ((Int32 × am_S) ⊕ (am_S)) :=
  am_if ((nI 8) ≤ v4) (some (Sum.inr s5)) (am_bd (f_X8_firstFollowing a1 p2 s5) (fun v6 => am_if (v6 = (-1 : Int32)) (some (Sum.inr s5)) (am_lt (((nI 4) * v6) + (nI 2)) (fun v7 => am_gd (¬ v7 < 0 ∧ (v7).toNatClampNeg < 40) (am_lt (((nI 4) * v6) + (nI 3)) (fun v9 => am_gd (¬ v9 < 0 ∧ (v9).toNatClampNeg < 40) (am_gd (¬ (p2 + (s5.1 22 (v7).toNatClampNeg)) < 0 ∧ ((p2 + (s5.1 22 (v7).toNatClampNeg))).toNatClampNeg < (am_sh a1).2) (am_lt (as_i s5 a1 ((p2 + (s5.1 22 (v7).toNatClampNeg))).toNatClampNeg (s5.1 22 (v9).toNatClampNeg)) (fun s12 => am_lt (v4 + (1 : Int32)) (fun v13 => some (Sum.inl (v13, s12))))))))))))
def f_X8_addWhatFollows (a1 : Nat) (p2 : Int32) (s0 : am_S) : Option (am_S) :=
  am_gd (am_sh a1 = (13, (am_sh a1).2) ∧ a1 < am_N) (am_lp (fun (q : Int32 × am_S) => b_X8_addWhatFollows_2 a1 p2 q.1 q.2) am_F ((0 : Int32), s0))
set_option maxRecDepth 100000 in
set_option maxHeartbeats 4000000 in
theorem t_X8_addWhatFollows (a1 : Nat) (p2 : Int32) (s0 : am_S) {z : am_S} (E : f_X8_addWhatFollows a1 p2 s0 = some z) : AS yX8_addWhatFollows cX8_addWhatFollows 5 none 2 [.ref 16, .ref a1, .int p2] s0 none z := by
  unfold f_X8_addWhatFollows at E
  obtain ⟨ma1, E⟩ := am_gdE E
  refine as_met (lv := [(0, .ref 16), (1, .ref a1), (2, .int p2)]) (by decide +kernel) (by simp [lg_sl, Value.category]) rfl (fun x C A Z => ?_)
  refine am_iconst 0 (0 : Int32) C dX8_addWhatFollows_0 (by decide) ?_
  refine am_istore_n 1 (lv2 := [(3, .int (0 : Int32)), (0, .ref 16), (1, .ref a1), (2, .int p2)]) C dX8_addWhatFollows_1 rfl (by decide) rfl ?_
  have LP3 : ∀ (n : Nat) (v4 : Int32) (s5 : am_S), am_lp (fun (q : Int32 × am_S) => b_X8_addWhatFollows_2 a1 p2 q.1 q.2) n (v4, s5) = some z → AX x 0 0 2 [(0, .ref 16), (1, .ref a1), (2, .int p2), (3, .int v4)] [] am_N (am_h s5) := by
    intro n
    induction n with
    | zero => intro v4 s5 E; exact (am_lp0 E).elim
    | succ n ih3 =>
      intro v4 s5 E
      obtain ⟨r3, E, Er3⟩ := am_lpE E
      replace E : b_X8_addWhatFollows_2 a1 p2 v4 s5 = some r3 := E
      unfold b_X8_addWhatFollows_2 at E
      refine am_iload_n 2 C dX8_addWhatFollows_2 rfl 3 rfl ?_
      refine am_bipush 3 (nI 8) C dX8_addWhatFollows_3 (by decide) ?_
      refine am_icmp_ge 5 55 C dX8_addWhatFollows_5 (by decide) (fun c15 => ?_) (fun c15 => ?_)
      · have E := am_ifT E c15
        replace E := Option.some.inj E
        replace E := am_exR E Er3
        subst E
        exact as_vret 55 C Z dX8_addWhatFollows_55
      · have E := am_ifF E c15
        refine am_aload_n 8 C dX8_addWhatFollows_8 rfl 0 rfl ?_
        refine am_aload_n 9 C dX8_addWhatFollows_9 rfl 1 rfl ?_
        refine am_iload_n 10 C dX8_addWhatFollows_10 rfl 2 rfl ?_
        obtain ⟨v6, Ec, E⟩ := am_bdE E
        refine as_callV 11 (s2 := s5) (st := []) (st2 := [.int v6]) [.ref a1, .int p2] C A (by decide) ml_X8_86 yc_X8_firstFollowing yv_X8_firstFollowing (t_X8_firstFollowing a1 p2 s5 Ec) (by decide) sh_16 rfl rfl (Nat.le_of_ble_eq_true rfl) rfl dX8_addWhatFollows_11 ?_
        refine am_istore 14 (lv2 := [(4, .int v6), (0, .ref 16), (1, .ref a1), (2, .int p2), (3, .int v4)]) C dX8_addWhatFollows_14 (by decide) rfl ?_
        refine am_iload 16 C dX8_addWhatFollows_16 0 rfl ?_
        refine am_iconst 18 (-1 : Int32) C dX8_addWhatFollows_18 (by decide) ?_
        refine am_icmp_ne 19 23 C dX8_addWhatFollows_19 (by decide) (fun c14 => ?_) (fun c14 => ?_)
        · have E := am_ifF E c14
          refine am_aload_n 23 C dX8_addWhatFollows_23 rfl 2 rfl ?_
          refine am_iload_n 24 C dX8_addWhatFollows_24 rfl 3 rfl ?_
          refine am_aload_n 25 C dX8_addWhatFollows_25 rfl 1 rfl ?_
          refine as_getr 26 C fl_X8_27_7 dX8_addWhatFollows_26 (by decide) sh_16 (rf_16_11 _ _) ?_
          refine am_iconst 29 (nI 4) C dX8_addWhatFollows_29 (by decide) ?_
          refine am_iload 30 C dX8_addWhatFollows_30 0 rfl ?_
          refine am_imul 32 C dX8_addWhatFollows_32 ?_
          refine am_iconst 33 (nI 2) C dX8_addWhatFollows_33 (by decide) ?_
          refine am_iadd 34 C dX8_addWhatFollows_34 ?_
          obtain ⟨v7, hv7, E⟩ := am_ltE E
          refine as_nm hv7 ?_
          obtain ⟨g8, E⟩ := am_gdE E
          refine as_iald 35 C dX8_addWhatFollows_35 (by decide) sh_22 g8 ?_
          refine am_iadd 36 C dX8_addWhatFollows_36 ?_
          refine am_aload_n 37 C dX8_addWhatFollows_37 rfl 1 rfl ?_
          refine as_getr 38 C fl_X8_27_7 dX8_addWhatFollows_38 (by decide) sh_16 (rf_16_11 _ _) ?_
          refine am_iconst 41 (nI 4) C dX8_addWhatFollows_41 (by decide) ?_
          refine am_iload 42 C dX8_addWhatFollows_42 0 rfl ?_
          refine am_imul 44 C dX8_addWhatFollows_44 ?_
          refine am_iconst 45 (nI 3) C dX8_addWhatFollows_45 (by decide) ?_
          refine am_iadd 46 C dX8_addWhatFollows_46 ?_
          obtain ⟨v9, hv9, E⟩ := am_ltE E
          refine as_nm hv9 ?_
          obtain ⟨g10, E⟩ := am_gdE E
          refine as_iald 47 C dX8_addWhatFollows_47 (by decide) sh_22 g10 ?_
          obtain ⟨g11, E⟩ := am_gdE E
          obtain ⟨s12, hs12, E⟩ := am_ltE E
          refine as_iast 48 C dX8_addWhatFollows_48 ma1.2 ma1.1 g11 hs12 ?_
          obtain ⟨v13, hv13, E⟩ := am_ltE E
          refine as_iinc 49 (q := (1 : Int32)) (lv2 := [(3, .int v13), (4, .int v6), (0, .ref 16), (1, .ref a1), (2, .int p2)]) C dX8_addWhatFollows_49 4 rfl (by decide) hv13 (by decide) rfl ?_
          refine am_goto 52 2 C dX8_addWhatFollows_52 (by decide) ?_
          replace E := Option.some.inj E
          replace E := am_exL E Er3
          refine am_lvs [2, 3, 4, 0] rfl ?_
          exact ih3 _ _ E
        · have E := am_ifT E c14
          replace E := Option.some.inj E
          replace E := am_exR E Er3
          subst E
          exact as_vret 22 C Z dX8_addWhatFollows_22
  refine am_lvs [1, 2, 3, 0] rfl ?_
  exact LP3 am_F _ _ E
def f_X2_conclude (a1 : Nat) (p2 : Int32) (s0 : am_S) : Option (am_S) :=
  am_gd (a1 ∈ am_isL) (am_gd (¬ (p2 * (nI 8)) < 0 ∧ ¬ (p2 * (nI 8)) < 0 ∧ ¬ (nI 8) < 0 ∧ ((p2 * (nI 8))).toNatClampNeg + ((nI 8)).toNatClampNeg ≤ 56 ∧ ((p2 * (nI 8))).toNatClampNeg + ((nI 8)).toNatClampNeg ≤ 56) (am_lt (as_w s0 (a1 + 3) (va_cpy (s0.1 (a1 + 1)) (s0.1 (a1 + 3)) ((p2 * (nI 8))).toNatClampNeg ((p2 * (nI 8))).toNatClampNeg 8)) (fun s3 => am_bd (f_X8_addWhatFollows (a1 + 3) (p2 * (nI 8)) s3) (fun s5 => some s5))))
set_option maxRecDepth 100000 in
set_option maxHeartbeats 4000000 in
theorem t_X2_conclude (a1 : Nat) (p2 : Int32) (s0 : am_S) {z : am_S} (E : f_X2_conclude a1 p2 s0 = some z) : AS yX2_conclude cX2_conclude 3 none 3 [.ref a1, .ref 16, .int p2] s0 none z := by
  unfold f_X2_conclude at E
  obtain ⟨ma1, E⟩ := am_gdE E
  refine as_met (lv := [(0, .ref a1), (1, .ref 16), (2, .int p2)]) (by decide +kernel) (by simp [lg_sl, Value.category]) rfl (fun x C A Z => ?_)
  refine am_aload_n 0 C dX2_conclude_0 rfl 0 rfl ?_
  refine as_getr 1 C fl_X2_9_1 dX2_conclude_1 (iL_l0 _ ma1) (iL_sh _ ma1) (iL_r0 _ _ _ ma1) ?_
  refine am_iload_n 4 C dX2_conclude_4 rfl 2 rfl ?_
  refine am_bipush 5 (nI 8) C dX2_conclude_5 (by decide) ?_
  refine am_imul 7 C dX2_conclude_7 ?_
  refine am_aload_n 8 C dX2_conclude_8 rfl 0 rfl ?_
  refine as_getr 9 C fl_X2_18_1 dX2_conclude_9 (iL_l0 _ ma1) (iL_sh _ ma1) (iL_r2 _ _ _ ma1) ?_
  refine am_iload_n 12 C dX2_conclude_12 rfl 2 rfl ?_
  refine am_bipush 13 (nI 8) C dX2_conclude_13 (by decide) ?_
  refine am_imul 15 C dX2_conclude_15 ?_
  refine am_bipush 16 (nI 8) C dX2_conclude_16 (by decide) ?_
  obtain ⟨g4, E⟩ := am_gdE E
  obtain ⟨s3, hs3, E⟩ := am_ltE E
  refine as_copyK 18 ((p2 * (nI 8))).toNatClampNeg ((p2 * (nI 8))).toNatClampNeg 8 C A (by decide) ml_X2_65 (iL_l1 _ ma1) (iL_l3 _ ma1) (iL_s1 _ ma1) (iL_s3 _ ma1) g4 rfl rfl (by decide) (Nat.le_of_ble_eq_true rfl) dX2_conclude_18 hs3 ?_
  refine am_aload_n 21 C dX2_conclude_21 rfl 1 rfl ?_
  refine am_aload_n 22 C dX2_conclude_22 rfl 0 rfl ?_
  refine as_getr 23 C fl_X2_18_1 dX2_conclude_23 (iL_l0 _ ma1) (iL_sh _ ma1) (iL_r2 _ _ _ ma1) ?_
  refine am_iload_n 26 C dX2_conclude_26 rfl 2 rfl ?_
  refine am_bipush 27 (nI 8) C dX2_conclude_27 (by decide) ?_
  refine am_imul 29 C dX2_conclude_29 ?_
  obtain ⟨s5, Ec, E⟩ := am_bdE E
  refine as_callV 30 (s2 := s5) (st := []) (st2 := []) [.ref (a1 + 3), .int (p2 * (nI 8))] C A (by decide) ml_X2_74 yc_X8_addWhatFollows yv_X8_addWhatFollows (t_X8_addWhatFollows (a1 + 3) (p2 * (nI 8)) s3 Ec) (by decide) sh_16 rfl rfl (Nat.le_of_ble_eq_true rfl) rfl dX2_conclude_30 ?_
  replace E := Option.some.inj E
  subst E
  exact as_vret 33 C Z dX2_conclude_33
def f_X2_forgetLies (a1 : Nat) (s0 : am_S) : Option (am_S) :=
  am_gd (a1 ∈ am_isL) (am_bd (f_J7_fill_53178 (a1 + 4) (0 : Int32) s0) (fun s2 => am_lt (as_i s2 a1 6 (0 : Int32)) (fun s3 => am_lt (as_i s3 a1 7 (-1 : Int32)) (fun s4 => some s4))))
set_option maxRecDepth 100000 in
set_option maxHeartbeats 4000000 in
theorem t_X2_forgetLies (a1 : Nat) (s0 : am_S) {z : am_S} (E : f_X2_forgetLies a1 s0 = some z) : AS yX2_forgetLies cX2_forgetLies 1 none 2 [.ref a1] s0 none z := by
  unfold f_X2_forgetLies at E
  obtain ⟨ma1, E⟩ := am_gdE E
  refine as_met (lv := [(0, .ref a1)]) (by decide +kernel) (by simp [lg_sl, Value.category]) rfl (fun x C A Z => ?_)
  refine am_aload_n 0 C dX2_forgetLies_0 rfl 0 rfl ?_
  refine as_getr 1 C fl_X2_21_1 dX2_forgetLies_1 (iL_l0 _ ma1) (iL_sh _ ma1) (iL_r3 _ _ _ ma1) ?_
  refine am_iconst 4 (0 : Int32) C dX2_forgetLies_4 (by decide) ?_
  obtain ⟨s2, Ec, E⟩ := am_bdE E
  refine as_callS 5 (s2 := s2) (st := []) (st2 := []) [.ref (a1 + 4), .int (0 : Int32)] C A (by decide) ml_X2_28 yc_J7_fill_53178 ys_J7_fill_53178 (t_J7_fill_53178 (a1 + 4) (0 : Int32) s0 Ec) rfl rfl (Nat.le_of_ble_eq_true rfl) rfl dX2_forgetLies_5 ?_
  refine am_aload_n 8 C dX2_forgetLies_8 rfl 0 rfl ?_
  refine am_iconst 9 (0 : Int32) C dX2_forgetLies_9 (by decide) ?_
  obtain ⟨s3, hs3, E⟩ := am_ltE E
  refine as_puti 10 C fl_X2_71_1 dX2_forgetLies_10 (iL_l0 _ ma1) (iL_sh _ ma1) rfl rfl hs3 ?_
  refine am_aload_n 13 C dX2_forgetLies_13 rfl 0 rfl ?_
  refine am_iconst 14 (-1 : Int32) C dX2_forgetLies_14 (by decide) ?_
  obtain ⟨s4, hs4, E⟩ := am_ltE E
  refine as_puti 15 C fl_X2_24_1 dX2_forgetLies_15 (iL_l0 _ ma1) (iL_sh _ ma1) rfl rfl hs4 ?_
  replace E := Option.some.inj E
  subst E
  exact as_vret 18 C Z dX2_forgetLies_18
def j_X2_begin_100 (a1 : Nat) (s2 : am_S) : Option (am_S) :=
  am_lt (as_i s2 a1 4 (0 : Int32)) (fun s3 => am_lt (as_i s3 a1 5 (0 : Int32)) (fun s4 => am_bd (f_X2_forgetLies a1 s4) (fun s5 => some s5)))
def j_X2_begin_88 (a1 : Nat) (v11 : Int32) (s12 : am_S) : Option ((Int32 × am_S) ⊕ (am_S)) :=
  am_bd (f_X2_conclude a1 v11 s12) (fun s13 => am_lt (v11 + (1 : Int32)) (fun v14 => some (Sum.inl (v14, s13))))
def b_X2_begin_28 (a1 : Nat) (v9 : Int32) (v17 : Int32) (s18 : am_S) : Option ((Int32 × am_S) ⊕ ((Int32 × am_S) ⊕ (am_S))) :=
  am_if ((s18.1 16 1) ≤ v17) (am_bd (j_X2_begin_88 a1 v9 s18) (fun e19 => some (Sum.inr e19))) (am_gd (¬ v9 < 0 ∧ (v9).toNatClampNeg < 7) (am_bd (f_X11_bit (s18.1 17 (v9).toNatClampNeg) v17) (fun v21 => am_if (v21 = (1 : Int32)) (am_bd (f_X11_bit (s18.1 16 2) v17) (fun v23 => am_gd (¬ ((v9 * (nI 8)) + v17) < 0 ∧ (((v9 * (nI 8)) + v17)).toNatClampNeg < 56) (am_lt (as_i s18 (a1 + 1) (((v9 * (nI 8)) + v17)).toNatClampNeg v23) (fun s25 => am_gd (¬ ((v9 * (nI 8)) + v17) < 0 ∧ (((v9 * (nI 8)) + v17)).toNatClampNeg < 56) (am_lt (as_i s25 (a1 + 2) (((v9 * (nI 8)) + v17)).toNatClampNeg (nI 10)) (fun s27 => am_lt (v17 + (1 : Int32)) (fun v28 => some (Sum.inl (v28, s27))))))))) (am_lt (v17 + (1 : Int32)) (fun v22 => some (Sum.inl (v22, s18)))))))
def b_X2_begin_18 (a1 : Nat) (v9 : Int32) (s10 : am_S) : Option ((Int32 × am_S) ⊕ (am_S)) :=
  am_if ((s10.1 16 3) ≤ v9) (am_bd (j_X2_begin_100 a1 s10) (fun e15 => some (Sum.inr e15))) (am_lp (fun (q : Int32 × am_S) => b_X2_begin_28 a1 v9 q.1 q.2) am_F ((0 : Int32), s10))
def f_X2_begin (a1 : Nat) (s0 : am_S) : Option (am_S) :=
  am_gd (a1 ∈ am_isL) (am_bd (f_J7_fill_53178 (a1 + 1) (nI 2) s0) (fun s6 => am_bd (f_J7_fill_53178 (a1 + 2) (0 : Int32) s6) (fun s7 => am_lp (fun (q : Int32 × am_S) => b_X2_begin_18 a1 q.1 q.2) am_F ((0 : Int32), s7))))
set_option maxRecDepth 100000 in
set_option maxHeartbeats 4000000 in
theorem t_X2_begin (a1 : Nat) (s0 : am_S) {z : am_S} (E : f_X2_begin a1 s0 = some z) : AS yX2_begin cX2_begin 4 none 4 [.ref a1, .ref 16] s0 none z := by
  unfold f_X2_begin at E
  obtain ⟨ma1, E⟩ := am_gdE E
  refine as_met (lv := [(0, .ref a1), (1, .ref 16)]) (by decide +kernel) (by simp [lg_sl, Value.category]) rfl (fun x C A Z => ?_)
  have K100 : ∀ (s2 : am_S), j_X2_begin_100 a1 s2 = some z → AX x 0 0 100 [(0, .ref a1), (1, .ref 16)] [] am_N (am_h s2) := by
    intro s2 E
    unfold j_X2_begin_100 at E
    refine am_aload_n 100 C dX2_begin_100 rfl 0 rfl ?_
    refine am_iconst 101 (0 : Int32) C dX2_begin_101 (by decide) ?_
    obtain ⟨s3, hs3, E⟩ := am_ltE E
    refine as_puti 102 C fl_X2_56_1 dX2_begin_102 (iL_l0 _ ma1) (iL_sh _ ma1) rfl rfl hs3 ?_
    refine am_aload_n 105 C dX2_begin_105 rfl 0 rfl ?_
    refine am_iconst 106 (0 : Int32) C dX2_begin_106 (by decide) ?_
    obtain ⟨s4, hs4, E⟩ := am_ltE E
    refine as_puti 107 C fl_X2_59_1 dX2_begin_107 (iL_l0 _ ma1) (iL_sh _ ma1) rfl rfl hs4 ?_
    refine am_aload_n 110 C dX2_begin_110 rfl 0 rfl ?_
    obtain ⟨s5, Ec, E⟩ := am_bdE E
    refine as_callV 111 (s2 := s5) (st := []) (st2 := []) [] C A (by decide) ml_X2_62 yc_X2_forgetLies yv_X2_forgetLies (t_X2_forgetLies a1 s4 Ec) (iL_l0 _ ma1) (iL_sh _ ma1) rfl rfl (Nat.le_of_ble_eq_true rfl) rfl dX2_begin_111 ?_
    replace E := Option.some.inj E
    subst E
    exact as_vret 114 C Z dX2_begin_114
  refine am_aload_n 0 C dX2_begin_0 rfl 0 rfl ?_
  refine as_getr 1 C fl_X2_9_1 dX2_begin_1 (iL_l0 _ ma1) (iL_sh _ ma1) (iL_r0 _ _ _ ma1) ?_
  refine am_iconst 4 (nI 2) C dX2_begin_4 (by decide) ?_
  obtain ⟨s6, Ec, E⟩ := am_bdE E
  refine as_callS 5 (s2 := s6) (st := []) (st2 := []) [.ref (a1 + 1), .int (nI 2)] C A (by decide) ml_X2_28 yc_J7_fill_53178 ys_J7_fill_53178 (t_J7_fill_53178 (a1 + 1) (nI 2) s0 Ec) rfl rfl (Nat.le_of_ble_eq_true rfl) rfl dX2_begin_5 ?_
  refine am_aload_n 8 C dX2_begin_8 rfl 0 rfl ?_
  refine as_getr 9 C fl_X2_15_1 dX2_begin_9 (iL_l0 _ ma1) (iL_sh _ ma1) (iL_r1 _ _ _ ma1) ?_
  refine am_iconst 12 (0 : Int32) C dX2_begin_12 (by decide) ?_
  obtain ⟨s7, Ec, E⟩ := am_bdE E
  refine as_callS 13 (s2 := s7) (st := []) (st2 := []) [.ref (a1 + 2), .int (0 : Int32)] C A (by decide) ml_X2_28 yc_J7_fill_53178 ys_J7_fill_53178 (t_J7_fill_53178 (a1 + 2) (0 : Int32) s6 Ec) rfl rfl (Nat.le_of_ble_eq_true rfl) rfl dX2_begin_13 ?_
  refine am_iconst 16 (0 : Int32) C dX2_begin_16 (by decide) ?_
  refine am_istore_n 17 (lv2 := [(2, .int (0 : Int32)), (0, .ref a1), (1, .ref 16)]) C dX2_begin_17 rfl (by decide) rfl ?_
  have LP8 : ∀ (n : Nat) (v9 : Int32) (s10 : am_S), am_lp (fun (q : Int32 × am_S) => b_X2_begin_18 a1 q.1 q.2) n (v9, s10) = some z → AX x 0 0 18 [(0, .ref a1), (1, .ref 16), (2, .int v9)] [] am_N (am_h s10) := by
    intro n
    induction n with
    | zero => intro v9 s10 E; exact (am_lp0 E).elim
    | succ n ih8 =>
      intro v9 s10 E
      obtain ⟨r8, E, Er8⟩ := am_lpE E
      replace E : b_X2_begin_18 a1 v9 s10 = some r8 := E
      unfold b_X2_begin_18 at E
      have K88 : ∀ (v11 : Int32) (s12 : am_S), j_X2_begin_88 a1 v11 s12 = some r8 → AX x 0 0 88 [(0, .ref a1), (1, .ref 16), (2, .int v11)] [] am_N (am_h s12) := by
        intro v11 s12 E
        unfold j_X2_begin_88 at E
        refine am_aload_n 88 C dX2_begin_88 rfl 0 rfl ?_
        refine am_aload_n 89 C dX2_begin_89 rfl 1 rfl ?_
        refine am_iload_n 90 C dX2_begin_90 rfl 2 rfl ?_
        obtain ⟨s13, Ec, E⟩ := am_bdE E
        refine as_callV 91 (s2 := s13) (st := []) (st2 := []) [.ref 16, .int v11] C A (by decide) ml_X2_52 yc_X2_conclude yv_X2_conclude (t_X2_conclude a1 v11 s12 Ec) (iL_l0 _ ma1) (iL_sh _ ma1) rfl rfl (Nat.le_of_ble_eq_true rfl) rfl dX2_begin_91 ?_
        obtain ⟨v14, hv14, E⟩ := am_ltE E
        refine as_iinc 94 (q := (1 : Int32)) (lv2 := [(2, .int v14), (0, .ref a1), (1, .ref 16)]) C dX2_begin_94 2 rfl (by decide) hv14 (by decide) rfl ?_
        refine am_goto 97 18 C dX2_begin_97 (by decide) ?_
        replace E := Option.some.inj E
        replace E := am_exL E Er8
        refine am_lvs [1, 2, 0] rfl ?_
        exact ih8 _ _ E
      refine am_iload_n 18 C dX2_begin_18 rfl 2 rfl ?_
      refine am_aload_n 19 C dX2_begin_19 rfl 1 rfl ?_
      refine as_geti 20 C fl_X2_34_7 dX2_begin_20 (by decide) sh_16 ?_
      refine am_icmp_ge 23 100 C dX2_begin_23 (by decide) (fun c31 => ?_) (fun c31 => ?_)
      · have E := am_ifT E c31
        obtain ⟨e15, E, E2⟩ := am_bdE E
        replace E2 := Option.some.inj E2
        replace E2 := am_exR E2 Er8
        rw [E2] at E
        refine am_lvs [0, 1] rfl ?_
        exact K100 _ E
      · have E := am_ifF E c31
        refine am_iconst 26 (0 : Int32) C dX2_begin_26 (by decide) ?_
        refine am_istore_n 27 (lv2 := [(3, .int (0 : Int32)), (0, .ref a1), (1, .ref 16), (2, .int v9)]) C dX2_begin_27 rfl (by decide) rfl ?_
        have LP16 : ∀ (n : Nat) (v17 : Int32) (s18 : am_S), am_lp (fun (q : Int32 × am_S) => b_X2_begin_28 a1 v9 q.1 q.2) n (v17, s18) = some r8 → AX x 0 0 28 [(0, .ref a1), (1, .ref 16), (2, .int v9), (3, .int v17)] [] am_N (am_h s18) := by
          intro n
          induction n with
          | zero => intro v17 s18 E; exact (am_lp0 E).elim
          | succ n ih16 =>
            intro v17 s18 E
            obtain ⟨r16, E, Er16⟩ := am_lpE E
            replace E : b_X2_begin_28 a1 v9 v17 s18 = some r16 := E
            unfold b_X2_begin_28 at E
            refine am_iload_n 28 C dX2_begin_28 rfl 3 rfl ?_
            refine am_aload_n 29 C dX2_begin_29 rfl 1 rfl ?_
            refine as_geti 30 C fl_X2_39_7 dX2_begin_30 (by decide) sh_16 ?_
            refine am_icmp_ge 33 88 C dX2_begin_33 (by decide) (fun c30 => ?_) (fun c30 => ?_)
            · have E := am_ifT E c30
              obtain ⟨e19, E, E2⟩ := am_bdE E
              replace E2 := Option.some.inj E2
              replace E2 := am_exR E2 Er16
              rw [E2] at E
              refine am_lvs [0, 1, 2] rfl ?_
              exact K88 _ _ E
            · have E := am_ifF E c30
              refine am_aload_n 36 C dX2_begin_36 rfl 1 rfl ?_
              refine as_getr 37 C fl_X2_42_7 dX2_begin_37 (by decide) sh_16 (rf_16_4 _ _) ?_
              refine am_iload_n 40 C dX2_begin_40 rfl 2 rfl ?_
              obtain ⟨g20, E⟩ := am_gdE E
              refine as_iald 41 C dX2_begin_41 (by decide) sh_17 g20 ?_
              refine am_iload_n 42 C dX2_begin_42 rfl 3 rfl ?_
              obtain ⟨v21, Ec, E⟩ := am_bdE E
              refine as_callSN 43 (s2 := s18) (st := []) (st2 := [.int v21]) [.int (s18.1 17 (v9).toNatClampNeg), .int v17] C A (by decide) mn_X2_45 yc_X11_bit ys_X11_bit (t_X11_bit (s18.1 17 (v9).toNatClampNeg) v17 s18 Ec) rfl rfl (Nat.le_of_ble_eq_true rfl) rfl dX2_begin_43 ?_
              refine am_iconst 46 (1 : Int32) C dX2_begin_46 (by decide) ?_
              refine am_icmp_ne 47 82 C dX2_begin_47 (by decide) (fun c29 => ?_) (fun c29 => ?_)
              · have E := am_ifF E c29
                obtain ⟨v22, hv22, E⟩ := am_ltE E
                refine as_iinc 82 (q := (1 : Int32)) (lv2 := [(3, .int v22), (0, .ref a1), (1, .ref 16), (2, .int v9)]) C dX2_begin_82 3 rfl (by decide) hv22 (by decide) rfl ?_
                refine am_goto 85 28 C dX2_begin_85 (by decide) ?_
                replace E := Option.some.inj E
                replace E := am_exL E Er16
                refine am_lvs [1, 2, 3, 0] rfl ?_
                exact ih16 _ _ E
              · have E := am_ifT E c29
                refine am_aload_n 50 C dX2_begin_50 rfl 0 rfl ?_
                refine as_getr 51 C fl_X2_9_1 dX2_begin_51 (iL_l0 _ ma1) (iL_sh _ ma1) (iL_r0 _ _ _ ma1) ?_
                refine am_iload_n 54 C dX2_begin_54 rfl 2 rfl ?_
                refine am_bipush 55 (nI 8) C dX2_begin_55 (by decide) ?_
                refine am_imul 57 C dX2_begin_57 ?_
                refine am_iload_n 58 C dX2_begin_58 rfl 3 rfl ?_
                refine am_iadd 59 C dX2_begin_59 ?_
                refine am_aload_n 60 C dX2_begin_60 rfl 1 rfl ?_
                refine as_geti 61 C fl_X2_49_7 dX2_begin_61 (by decide) sh_16 ?_
                refine am_iload_n 64 C dX2_begin_64 rfl 3 rfl ?_
                obtain ⟨v23, Ec, E⟩ := am_bdE E
                refine as_callSN 65 (s2 := s18) (st := [.int ((v9 * (nI 8)) + v17), .ref (a1 + 1)]) (st2 := [.int v23, .int ((v9 * (nI 8)) + v17), .ref (a1 + 1)]) [.int (s18.1 16 2), .int v17] C A (by decide) mn_X2_45 yc_X11_bit ys_X11_bit (t_X11_bit (s18.1 16 2) v17 s18 Ec) rfl rfl (Nat.le_of_ble_eq_true rfl) rfl dX2_begin_65 ?_
                obtain ⟨g24, E⟩ := am_gdE E
                obtain ⟨s25, hs25, E⟩ := am_ltE E
                refine as_iast 68 C dX2_begin_68 (iL_l1 _ ma1) (iL_s1 _ ma1) g24 hs25 ?_
                refine am_aload_n 69 C dX2_begin_69 rfl 0 rfl ?_
                refine as_getr 70 C fl_X2_15_1 dX2_begin_70 (iL_l0 _ ma1) (iL_sh _ ma1) (iL_r1 _ _ _ ma1) ?_
                refine am_iload_n 73 C dX2_begin_73 rfl 2 rfl ?_
                refine am_bipush 74 (nI 8) C dX2_begin_74 (by decide) ?_
                refine am_imul 76 C dX2_begin_76 ?_
                refine am_iload_n 77 C dX2_begin_77 rfl 3 rfl ?_
                refine am_iadd 78 C dX2_begin_78 ?_
                refine am_bipush 79 (nI 10) C dX2_begin_79 (by decide) ?_
                obtain ⟨g26, E⟩ := am_gdE E
                obtain ⟨s27, hs27, E⟩ := am_ltE E
                refine as_iast 81 C dX2_begin_81 (iL_l2 _ ma1) (iL_s2 _ ma1) g26 hs27 ?_
                obtain ⟨v28, hv28, E⟩ := am_ltE E
                refine as_iinc 82 (q := (1 : Int32)) (lv2 := [(3, .int v28), (0, .ref a1), (1, .ref 16), (2, .int v9)]) C dX2_begin_82 3 rfl (by decide) hv28 (by decide) rfl ?_
                refine am_goto 85 28 C dX2_begin_85 (by decide) ?_
                replace E := Option.some.inj E
                replace E := am_exL E Er16
                refine am_lvs [1, 2, 3, 0] rfl ?_
                exact ih16 _ _ E
        refine am_lvs [1, 2, 3, 0] rfl ?_
        exact LP16 am_F _ _ E
  refine am_lvs [1, 2, 0] rfl ?_
  exact LP8 am_F _ _ E
def j_X2_correctAll_68 (a1 : Nat) (v5 : Int32) (s6 : am_S) : Option ((Int32 × am_S) ⊕ (am_S)) :=
  am_bd (f_X2_conclude a1 v5 s6) (fun s7 => am_lt (v5 + (1 : Int32)) (fun v8 => some (Sum.inl (v8, s7))))
def b_X2_correctAll_12 (a1 : Nat) (v3 : Int32) (v10 : Int32) (s11 : am_S) : Option ((Int32 × am_S) ⊕ ((Int32 × am_S) ⊕ (am_S))) :=
  am_if ((s11.1 16 1) ≤ v10) (am_bd (j_X2_correctAll_68 a1 v3 s11) (fun e12 => some (Sum.inr e12))) (am_lt ((v3 * (nI 8)) + v10) (fun v13 => am_gd (¬ v13 < 0 ∧ (v13).toNatClampNeg < 56) (am_bd (f_X11_bit (s11.1 16 2) v10) (fun v15 => am_if ((s11.1 (a1 + 1) (v13).toNatClampNeg) = v15) (am_lt (v10 + (1 : Int32)) (fun v16 => some (Sum.inl (v16, s11)))) (am_gd (¬ v13 < 0 ∧ (v13).toNatClampNeg < 56) (am_lt (as_i s11 (a1 + 1) (v13).toNatClampNeg (nI 2)) (fun s18 => am_gd (¬ v13 < 0 ∧ (v13).toNatClampNeg < 56) (am_lt (as_i s18 (a1 + 2) (v13).toNatClampNeg (0 : Int32)) (fun s20 => am_lt (v10 + (1 : Int32)) (fun v21 => some (Sum.inl (v21, s20))))))))))))
def b_X2_correctAll_2 (a1 : Nat) (v3 : Int32) (s4 : am_S) : Option ((Int32 × am_S) ⊕ (am_S)) :=
  am_if ((s4.1 16 3) ≤ v3) (some (Sum.inr s4)) (am_lp (fun (q : Int32 × am_S) => b_X2_correctAll_12 a1 v3 q.1 q.2) am_F ((0 : Int32), s4))
def f_X2_correctAll (a1 : Nat) (s0 : am_S) : Option (am_S) :=
  am_gd (a1 ∈ am_isL) (am_lp (fun (q : Int32 × am_S) => b_X2_correctAll_2 a1 q.1 q.2) am_F ((0 : Int32), s0))
set_option maxRecDepth 100000 in
set_option maxHeartbeats 4000000 in
theorem t_X2_correctAll (a1 : Nat) (s0 : am_S) {z : am_S} (E : f_X2_correctAll a1 s0 = some z) : AS yX2_correctAll cX2_correctAll 5 none 4 [.ref a1, .ref 16] s0 none z := by
  unfold f_X2_correctAll at E
  obtain ⟨ma1, E⟩ := am_gdE E
  refine as_met (lv := [(0, .ref a1), (1, .ref 16)]) (by decide +kernel) (by simp [lg_sl, Value.category]) rfl (fun x C A Z => ?_)
  refine am_iconst 0 (0 : Int32) C dX2_correctAll_0 (by decide) ?_
  refine am_istore_n 1 (lv2 := [(2, .int (0 : Int32)), (0, .ref a1), (1, .ref 16)]) C dX2_correctAll_1 rfl (by decide) rfl ?_
  have LP2 : ∀ (n : Nat) (v3 : Int32) (s4 : am_S), am_lp (fun (q : Int32 × am_S) => b_X2_correctAll_2 a1 q.1 q.2) n (v3, s4) = some z → AX x 0 0 2 [(0, .ref a1), (1, .ref 16), (2, .int v3)] [] am_N (am_h s4) := by
    intro n
    induction n with
    | zero => intro v3 s4 E; exact (am_lp0 E).elim
    | succ n ih2 =>
      intro v3 s4 E
      obtain ⟨r2, E, Er2⟩ := am_lpE E
      replace E : b_X2_correctAll_2 a1 v3 s4 = some r2 := E
      unfold b_X2_correctAll_2 at E
      have K68 : ∀ (v5 : Int32) (s6 : am_S), j_X2_correctAll_68 a1 v5 s6 = some r2 → AX x 0 0 68 [(0, .ref a1), (1, .ref 16), (2, .int v5)] [] am_N (am_h s6) := by
        intro v5 s6 E
        unfold j_X2_correctAll_68 at E
        refine am_aload_n 68 C dX2_correctAll_68 rfl 0 rfl ?_
        refine am_aload_n 69 C dX2_correctAll_69 rfl 1 rfl ?_
        refine am_iload_n 70 C dX2_correctAll_70 rfl 2 rfl ?_
        obtain ⟨s7, Ec, E⟩ := am_bdE E
        refine as_callV 71 (s2 := s7) (st := []) (st2 := []) [.ref 16, .int v5] C A (by decide) ml_X2_52 yc_X2_conclude yv_X2_conclude (t_X2_conclude a1 v5 s6 Ec) (iL_l0 _ ma1) (iL_sh _ ma1) rfl rfl (Nat.le_of_ble_eq_true rfl) rfl dX2_correctAll_71 ?_
        obtain ⟨v8, hv8, E⟩ := am_ltE E
        refine as_iinc 74 (q := (1 : Int32)) (lv2 := [(2, .int v8), (0, .ref a1), (1, .ref 16)]) C dX2_correctAll_74 2 rfl (by decide) hv8 (by decide) rfl ?_
        refine am_goto 77 2 C dX2_correctAll_77 (by decide) ?_
        replace E := Option.some.inj E
        replace E := am_exL E Er2
        refine am_lvs [1, 2, 0] rfl ?_
        exact ih2 _ _ E
      refine am_iload_n 2 C dX2_correctAll_2 rfl 2 rfl ?_
      refine am_aload_n 3 C dX2_correctAll_3 rfl 1 rfl ?_
      refine as_geti 4 C fl_X2_34_7 dX2_correctAll_4 (by decide) sh_16 ?_
      refine am_icmp_ge 7 80 C dX2_correctAll_7 (by decide) (fun c24 => ?_) (fun c24 => ?_)
      · have E := am_ifT E c24
        replace E := Option.some.inj E
        replace E := am_exR E Er2
        subst E
        exact as_vret 80 C Z dX2_correctAll_80
      · have E := am_ifF E c24
        refine am_iconst 10 (0 : Int32) C dX2_correctAll_10 (by decide) ?_
        refine am_istore_n 11 (lv2 := [(3, .int (0 : Int32)), (0, .ref a1), (1, .ref 16), (2, .int v3)]) C dX2_correctAll_11 rfl (by decide) rfl ?_
        have LP9 : ∀ (n : Nat) (v10 : Int32) (s11 : am_S), am_lp (fun (q : Int32 × am_S) => b_X2_correctAll_12 a1 v3 q.1 q.2) n (v10, s11) = some r2 → AX x 0 0 12 [(0, .ref a1), (1, .ref 16), (2, .int v3), (3, .int v10)] [] am_N (am_h s11) := by
          intro n
          induction n with
          | zero => intro v10 s11 E; exact (am_lp0 E).elim
          | succ n ih9 =>
            intro v10 s11 E
            obtain ⟨r9, E, Er9⟩ := am_lpE E
            replace E : b_X2_correctAll_12 a1 v3 v10 s11 = some r9 := E
            unfold b_X2_correctAll_12 at E
            refine am_iload_n 12 C dX2_correctAll_12 rfl 3 rfl ?_
            refine am_aload_n 13 C dX2_correctAll_13 rfl 1 rfl ?_
            refine as_geti 14 C fl_X2_39_7 dX2_correctAll_14 (by decide) sh_16 ?_
            refine am_icmp_ge 17 68 C dX2_correctAll_17 (by decide) (fun c23 => ?_) (fun c23 => ?_)
            · have E := am_ifT E c23
              obtain ⟨e12, E, E2⟩ := am_bdE E
              replace E2 := Option.some.inj E2
              replace E2 := am_exR E2 Er9
              rw [E2] at E
              refine am_lvs [0, 1, 2] rfl ?_
              exact K68 _ _ E
            · have E := am_ifF E c23
              refine am_iload_n 20 C dX2_correctAll_20 rfl 2 rfl ?_
              refine am_bipush 21 (nI 8) C dX2_correctAll_21 (by decide) ?_
              refine am_imul 23 C dX2_correctAll_23 ?_
              refine am_iload_n 24 C dX2_correctAll_24 rfl 3 rfl ?_
              refine am_iadd 25 C dX2_correctAll_25 ?_
              obtain ⟨v13, hv13, E⟩ := am_ltE E
              refine as_nm hv13 ?_
              refine am_istore 26 (lv2 := [(4, .int v13), (0, .ref a1), (1, .ref 16), (2, .int v3), (3, .int v10)]) C dX2_correctAll_26 (by decide) rfl ?_
              refine am_aload_n 28 C dX2_correctAll_28 rfl 1 rfl ?_
              refine as_getr 29 C fl_X2_9_1 dX2_correctAll_29 (iL_l0 _ ma1) (iL_sh _ ma1) (iL_r0 _ _ _ ma1) ?_
              refine am_iload 32 C dX2_correctAll_32 0 rfl ?_
              obtain ⟨g14, E⟩ := am_gdE E
              refine as_iald 34 C dX2_correctAll_34 (iL_l1 _ ma1) (iL_s1 _ ma1) g14 ?_
              refine am_aload_n 35 C dX2_correctAll_35 rfl 2 rfl ?_
              refine as_geti 36 C fl_X2_49_7 dX2_correctAll_36 (by decide) sh_16 ?_
              refine am_iload_n 39 C dX2_correctAll_39 rfl 4 rfl ?_
              obtain ⟨v15, Ec, E⟩ := am_bdE E
              refine as_callSN 40 (s2 := s11) (st := [.int (s11.1 (a1 + 1) (v13).toNatClampNeg)]) (st2 := [.int v15, .int (s11.1 (a1 + 1) (v13).toNatClampNeg)]) [.int (s11.1 16 2), .int v10] C A (by decide) mn_X2_45 yc_X11_bit ys_X11_bit (t_X11_bit (s11.1 16 2) v10 s11 Ec) rfl rfl (Nat.le_of_ble_eq_true rfl) rfl dX2_correctAll_40 ?_
              refine am_icmp_eq 43 62 C dX2_correctAll_43 (by decide) (fun c22 => ?_) (fun c22 => ?_)
              · have E := am_ifT E c22
                obtain ⟨v16, hv16, E⟩ := am_ltE E
                refine as_iinc 62 (q := (1 : Int32)) (lv2 := [(3, .int v16), (4, .int v13), (0, .ref a1), (1, .ref 16), (2, .int v3)]) C dX2_correctAll_62 4 rfl (by decide) hv16 (by decide) rfl ?_
                refine am_goto 65 12 C dX2_correctAll_65 (by decide) ?_
                replace E := Option.some.inj E
                replace E := am_exL E Er9
                refine am_lvs [2, 3, 4, 0] rfl ?_
                exact ih9 _ _ E
              · have E := am_ifF E c22
                refine am_aload_n 46 C dX2_correctAll_46 rfl 1 rfl ?_
                refine as_getr 47 C fl_X2_9_1 dX2_correctAll_47 (iL_l0 _ ma1) (iL_sh _ ma1) (iL_r0 _ _ _ ma1) ?_
                refine am_iload 50 C dX2_correctAll_50 0 rfl ?_
                refine am_iconst 52 (nI 2) C dX2_correctAll_52 (by decide) ?_
                obtain ⟨g17, E⟩ := am_gdE E
                obtain ⟨s18, hs18, E⟩ := am_ltE E
                refine as_iast 53 C dX2_correctAll_53 (iL_l1 _ ma1) (iL_s1 _ ma1) g17 hs18 ?_
                refine am_aload_n 54 C dX2_correctAll_54 rfl 1 rfl ?_
                refine as_getr 55 C fl_X2_15_1 dX2_correctAll_55 (iL_l0 _ ma1) (iL_sh _ ma1) (iL_r1 _ _ _ ma1) ?_
                refine am_iload 58 C dX2_correctAll_58 0 rfl ?_
                refine am_iconst 60 (0 : Int32) C dX2_correctAll_60 (by decide) ?_
                obtain ⟨g19, E⟩ := am_gdE E
                obtain ⟨s20, hs20, E⟩ := am_ltE E
                refine as_iast 61 C dX2_correctAll_61 (iL_l2 _ ma1) (iL_s2 _ ma1) g19 hs20 ?_
                obtain ⟨v21, hv21, E⟩ := am_ltE E
                refine as_iinc 62 (q := (1 : Int32)) (lv2 := [(3, .int v21), (4, .int v13), (0, .ref a1), (1, .ref 16), (2, .int v3)]) C dX2_correctAll_62 4 rfl (by decide) hv21 (by decide) rfl ?_
                refine am_goto 65 12 C dX2_correctAll_65 (by decide) ?_
                replace E := Option.some.inj E
                replace E := am_exL E Er9
                refine am_lvs [2, 3, 4, 0] rfl ?_
                exact ih9 _ _ E
        refine am_lvs [1, 2, 3, 0] rfl ?_
        exact LP9 am_F _ _ E
  refine am_lvs [1, 2, 0] rfl ?_
  exact LP2 am_F _ _ E
def f_X2_beginDay (a1 : Nat) (s0 : am_S) : Option (am_S) :=
  am_gd (a1 ∈ am_isL) (am_lt (as_i s0 a1 4 (if (nI 9999) < ((s0.1 a1 4) + (1 : Int32)) then (nI 9999) else ((s0.1 a1 4) + (1 : Int32)))) (fun s2 => am_lt (as_i s2 a1 5 (0 : Int32)) (fun s3 => am_bd (f_X2_forgetLies a1 s3) (fun s4 => am_if ((s4.1 16 15) = 0) (some s4) (am_bd (f_X2_correctAll a1 s4) (fun s5 => some s5))))))
set_option maxRecDepth 100000 in
set_option maxHeartbeats 4000000 in
theorem t_X2_beginDay (a1 : Nat) (s0 : am_S) {z : am_S} (E : f_X2_beginDay a1 s0 = some z) : AS yX2_beginDay cX2_beginDay 2 none 5 [.ref a1, .ref 16] s0 none z := by
  unfold f_X2_beginDay at E
  obtain ⟨ma1, E⟩ := am_gdE E
  refine as_met (lv := [(0, .ref a1), (1, .ref 16)]) (by decide +kernel) (by simp [lg_sl, Value.category]) rfl (fun x C A Z => ?_)
  refine am_aload_n 0 C dX2_beginDay_0 rfl 0 rfl ?_
  refine am_aload_n 1 C dX2_beginDay_1 rfl 0 rfl ?_
  refine as_geti 2 C fl_X2_56_1 dX2_beginDay_2 (iL_l0 _ ma1) (iL_sh _ ma1) ?_
  refine am_iconst 5 (1 : Int32) C dX2_beginDay_5 (by decide) ?_
  refine am_iadd 6 C dX2_beginDay_6 ?_
  refine am_sipush 7 (nI 9999) C dX2_beginDay_7 (by decide) ?_
  refine as_min 10 C A (by decide) ml_X2_77 (Nat.le_of_ble_eq_true rfl) dX2_beginDay_10 ?_
  obtain ⟨s2, hs2, E⟩ := am_ltE E
  refine as_puti 13 C fl_X2_56_1 dX2_beginDay_13 (iL_l0 _ ma1) (iL_sh _ ma1) rfl rfl hs2 ?_
  refine am_aload_n 16 C dX2_beginDay_16 rfl 0 rfl ?_
  refine am_iconst 17 (0 : Int32) C dX2_beginDay_17 (by decide) ?_
  obtain ⟨s3, hs3, E⟩ := am_ltE E
  refine as_puti 18 C fl_X2_59_1 dX2_beginDay_18 (iL_l0 _ ma1) (iL_sh _ ma1) rfl rfl hs3 ?_
  refine am_aload_n 21 C dX2_beginDay_21 rfl 0 rfl ?_
  obtain ⟨s4, Ec, E⟩ := am_bdE E
  refine as_callV 22 (s2 := s4) (st := []) (st2 := []) [] C A (by decide) ml_X2_62 yc_X2_forgetLies yv_X2_forgetLies (t_X2_forgetLies a1 s3 Ec) (iL_l0 _ ma1) (iL_sh _ ma1) rfl rfl (Nat.le_of_ble_eq_true rfl) rfl dX2_beginDay_22 ?_
  refine am_aload_n 25 C dX2_beginDay_25 rfl 1 rfl ?_
  refine as_geti 26 C fl_X2_82_7 dX2_beginDay_26 (by decide) sh_16 ?_
  refine am_if_eq 29 37 C dX2_beginDay_29 (by decide) (fun c6 => ?_) (fun c6 => ?_)
  · have E := am_ifT E c6
    replace E := Option.some.inj E
    subst E
    exact as_vret 37 C Z dX2_beginDay_37
  · have E := am_ifF E c6
    refine am_aload_n 32 C dX2_beginDay_32 rfl 0 rfl ?_
    refine am_aload_n 33 C dX2_beginDay_33 rfl 1 rfl ?_
    obtain ⟨s5, Ec, E⟩ := am_bdE E
    refine as_callV 34 (s2 := s5) (st := []) (st2 := []) [.ref 16] C A (by decide) ml_X2_86 yc_X2_correctAll yv_X2_correctAll (t_X2_correctAll a1 s4 Ec) (iL_l0 _ ma1) (iL_sh _ ma1) rfl rfl (Nat.le_of_ble_eq_true rfl) rfl dX2_beginDay_34 ?_
    replace E := Option.some.inj E
    subst E
    exact as_vret 37 C Z dX2_beginDay_37
def f_X2_countLie (a1 : Nat) (p2 : Int32) (s0 : am_S) : Option (am_S) :=
  am_gd (a1 ∈ am_isL) (am_gd (¬ p2 < 0 ∧ (p2).toNatClampNeg < 7) (am_gd (¬ p2 < 0 ∧ (p2).toNatClampNeg < 7) (am_lt (as_i s0 (a1 + 4) (p2).toNatClampNeg ((s0.1 (a1 + 4) (p2).toNatClampNeg) + (1 : Int32))) (fun s5 => am_gd (¬ p2 < 0 ∧ (p2).toNatClampNeg < 7) (am_if ((s5.1 (a1 + 4) (p2).toNatClampNeg) = (nI 2)) (am_if ((s5.1 a1 7) = (-1 : Int32)) (am_lt (as_i s5 a1 6 (s5.1 a1 5)) (fun s7 => am_lt (as_i s7 a1 7 p2) (fun s8 => some s8))) (some s5)) (some s5))))))
set_option maxRecDepth 100000 in
set_option maxHeartbeats 4000000 in
theorem t_X2_countLie (a1 : Nat) (p2 : Int32) (s0 : am_S) {z : am_S} (E : f_X2_countLie a1 p2 s0 = some z) : AS yX2_countLie cX2_countLie 2 none 1 [.ref a1, .int p2] s0 none z := by
  unfold f_X2_countLie at E
  obtain ⟨ma1, E⟩ := am_gdE E
  refine as_met (lv := [(0, .ref a1), (1, .int p2)]) (by decide +kernel) (by simp [lg_sl, Value.category]) rfl (fun x C A Z => ?_)
  refine am_aload_n 0 C dX2_countLie_0 rfl 0 rfl ?_
  refine as_getr 1 C fl_X2_21_1 dX2_countLie_1 (iL_l0 _ ma1) (iL_sh _ ma1) (iL_r3 _ _ _ ma1) ?_
  refine am_iload_n 4 C dX2_countLie_4 rfl 1 rfl ?_
  refine am_dup2 5 C dX2_countLie_5 rfl rfl ?_
  obtain ⟨g3, E⟩ := am_gdE E
  refine as_iald 6 C dX2_countLie_6 (iL_l4 _ ma1) (iL_s4 _ ma1) g3 ?_
  refine am_iconst 7 (1 : Int32) C dX2_countLie_7 (by decide) ?_
  refine am_iadd 8 C dX2_countLie_8 ?_
  obtain ⟨g4, E⟩ := am_gdE E
  obtain ⟨s5, hs5, E⟩ := am_ltE E
  refine as_iast 9 C dX2_countLie_9 (iL_l4 _ ma1) (iL_s4 _ ma1) g4 hs5 ?_
  refine am_aload_n 10 C dX2_countLie_10 rfl 0 rfl ?_
  refine as_getr 11 C fl_X2_21_1 dX2_countLie_11 (iL_l0 _ ma1) (iL_sh _ ma1) (iL_r3 _ _ _ ma1) ?_
  refine am_iload_n 14 C dX2_countLie_14 rfl 1 rfl ?_
  obtain ⟨g6, E⟩ := am_gdE E
  refine as_iald 15 C dX2_countLie_15 (iL_l4 _ ma1) (iL_s4 _ ma1) g6 ?_
  refine am_iconst 16 (nI 2) C dX2_countLie_16 (by decide) ?_
  refine am_icmp_ne 17 41 C dX2_countLie_17 (by decide) (fun c10 => ?_) (fun c10 => ?_)
  · have E := am_ifF E c10
    replace E := Option.some.inj E
    subst E
    exact as_vret 41 C Z dX2_countLie_41
  · have E := am_ifT E c10
    refine am_aload_n 20 C dX2_countLie_20 rfl 0 rfl ?_
    refine as_geti 21 C fl_X2_24_1 dX2_countLie_21 (iL_l0 _ ma1) (iL_sh _ ma1) ?_
    refine am_iconst 24 (-1 : Int32) C dX2_countLie_24 (by decide) ?_
    refine am_icmp_ne 25 41 C dX2_countLie_25 (by decide) (fun c9 => ?_) (fun c9 => ?_)
    · have E := am_ifF E c9
      replace E := Option.some.inj E
      subst E
      exact as_vret 41 C Z dX2_countLie_41
    · have E := am_ifT E c9
      refine am_aload_n 28 C dX2_countLie_28 rfl 0 rfl ?_
      refine am_aload_n 29 C dX2_countLie_29 rfl 0 rfl ?_
      refine as_geti 30 C fl_X2_59_1 dX2_countLie_30 (iL_l0 _ ma1) (iL_sh _ ma1) ?_
      obtain ⟨s7, hs7, E⟩ := am_ltE E
      refine as_puti 33 C fl_X2_71_1 dX2_countLie_33 (iL_l0 _ ma1) (iL_sh _ ma1) rfl rfl hs7 ?_
      refine am_aload_n 36 C dX2_countLie_36 rfl 0 rfl ?_
      refine am_iload_n 37 C dX2_countLie_37 rfl 1 rfl ?_
      obtain ⟨s8, hs8, E⟩ := am_ltE E
      refine as_puti 38 C fl_X2_24_1 dX2_countLie_38 (iL_l0 _ ma1) (iL_sh _ ma1) rfl rfl hs8 ?_
      replace E := Option.some.inj E
      subst E
      exact as_vret 41 C Z dX2_countLie_41
def f_X2_accepts (a1 : Nat) (p2 : Int32) (p3 : Int32) (p4 : Int32) (s0 : am_S) : Option (Int32) :=
  am_gd (a1 ∈ am_isL) (am_lt ((p3 * (nI 8)) + p4) (fun v5 => am_gd (¬ v5 < 0 ∧ (v5).toNatClampNeg < 56) (am_if ((s0.1 (a1 + 1) (v5).toNatClampNeg) = (nI 2)) (some (1 : Int32)) (am_lt ((p3 * (nI 7)) + p2) (fun v7 => am_gd (¬ v7 < 0 ∧ (v7).toNatClampNeg < 49) (am_gd (¬ v5 < 0 ∧ (v5).toNatClampNeg < 56) (am_if ((s0.1 18 (v7).toNatClampNeg) < (s0.1 (a1 + 2) (v5).toNatClampNeg)) (some (0 : Int32)) (some (1 : Int32)))))))))
set_option maxRecDepth 100000 in
set_option maxHeartbeats 4000000 in
theorem t_X2_accepts (a1 : Nat) (p2 : Int32) (p3 : Int32) (p4 : Int32) (s0 : am_S) {z : Int32} (E : f_X2_accepts a1 p2 p3 p4 s0 = some z) : AS yX2_accepts cX2_accepts 6 (some .boolean) 1 [.ref a1, .ref 16, .int p2, .int p3, .int p4] s0 (some (.int z)) s0 := by
  unfold f_X2_accepts at E
  obtain ⟨ma1, E⟩ := am_gdE E
  refine as_met (lv := [(0, .ref a1), (1, .ref 16), (2, .int p2), (3, .int p3), (4, .int p4)]) (by decide +kernel) (by simp [lg_sl, Value.category]) rfl (fun x C A Z => ?_)
  refine am_iload_n 0 C dX2_accepts_0 rfl 3 rfl ?_
  refine am_bipush 1 (nI 8) C dX2_accepts_1 (by decide) ?_
  refine am_imul 3 C dX2_accepts_3 ?_
  refine am_iload 4 C dX2_accepts_4 4 rfl ?_
  refine am_iadd 6 C dX2_accepts_6 ?_
  obtain ⟨v5, hv5, E⟩ := am_ltE E
  refine as_nm hv5 ?_
  refine am_istore 7 (lv2 := [(5, .int v5), (0, .ref a1), (1, .ref 16), (2, .int p2), (3, .int p3), (4, .int p4)]) C dX2_accepts_7 (by decide) rfl ?_
  refine am_aload_n 9 C dX2_accepts_9 rfl 1 rfl ?_
  refine as_getr 10 C fl_X2_9_1 dX2_accepts_10 (iL_l0 _ ma1) (iL_sh _ ma1) (iL_r0 _ _ _ ma1) ?_
  refine am_iload 13 C dX2_accepts_13 0 rfl ?_
  obtain ⟨g6, E⟩ := am_gdE E
  refine as_iald 15 C dX2_accepts_15 (iL_l1 _ ma1) (iL_s1 _ ma1) g6 ?_
  refine am_iconst 16 (nI 2) C dX2_accepts_16 (by decide) ?_
  refine am_icmp_eq 17 41 C dX2_accepts_17 (by decide) (fun c11 => ?_) (fun c11 => ?_)
  · have E := am_ifT E c11
    refine am_iconst 41 (1 : Int32) C dX2_accepts_41 (by decide) ?_
    refine am_goto 42 46 C dX2_accepts_42 (by decide) ?_
    replace E := Option.some.inj E
    subst E
    exact as_iret 46 C Z rfl dX2_accepts_46
  · have E := am_ifF E c11
    refine am_aload_n 20 C dX2_accepts_20 rfl 2 rfl ?_
    refine as_getr 21 C fl_X2_90_7 dX2_accepts_21 (by decide) sh_16 (rf_16_5 _ _) ?_
    refine am_iload_n 24 C dX2_accepts_24 rfl 4 rfl ?_
    refine am_bipush 25 (nI 7) C dX2_accepts_25 (by decide) ?_
    refine am_imul 27 C dX2_accepts_27 ?_
    refine am_iload_n 28 C dX2_accepts_28 rfl 3 rfl ?_
    refine am_iadd 29 C dX2_accepts_29 ?_
    obtain ⟨v7, hv7, E⟩ := am_ltE E
    refine as_nm hv7 ?_
    obtain ⟨g8, E⟩ := am_gdE E
    refine as_iald 30 C dX2_accepts_30 (by decide) sh_18 g8 ?_
    refine am_aload_n 31 C dX2_accepts_31 rfl 1 rfl ?_
    refine as_getr 32 C fl_X2_15_1 dX2_accepts_32 (iL_l0 _ ma1) (iL_sh _ ma1) (iL_r1 _ _ _ ma1) ?_
    refine am_iload 35 C dX2_accepts_35 0 rfl ?_
    obtain ⟨g9, E⟩ := am_gdE E
    refine as_iald 37 C dX2_accepts_37 (iL_l2 _ ma1) (iL_s2 _ ma1) g9 ?_
    refine am_icmp_lt 38 45 C dX2_accepts_38 (by decide) (fun c10 => ?_) (fun c10 => ?_)
    · have E := am_ifT E c10
      refine am_iconst 45 (0 : Int32) C dX2_accepts_45 (by decide) ?_
      replace E := Option.some.inj E
      subst E
      exact as_iret 46 C Z rfl dX2_accepts_46
    · have E := am_ifF E c10
      refine am_iconst 41 (1 : Int32) C dX2_accepts_41 (by decide) ?_
      refine am_goto 42 46 C dX2_accepts_42 (by decide) ?_
      replace E := Option.some.inj E
      subst E
      exact as_iret 46 C Z rfl dX2_accepts_46
def f_X2_hear (a1 : Nat) (s0 : am_S) : Option (am_S) :=
  am_gd (a1 ∈ am_isL) (am_bd (f_X2_accepts a1 (s0.1 134 2) (s0.1 134 3) (s0.1 134 4) s0) (fun v2 => am_if (v2 = 0) (some s0) (am_lt (((s0.1 134 3) * (nI 8)) + (s0.1 134 4)) (fun v3 => am_gd (¬ v3 < 0 ∧ (v3).toNatClampNeg < 56) (am_lt (as_i s0 (a1 + 1) (v3).toNatClampNeg (s0.1 134 5)) (fun s5 => am_lt (((s5.1 134 3) * (nI 7)) + (s5.1 134 2)) (fun v6 => am_gd (¬ v6 < 0 ∧ (v6).toNatClampNeg < 49) (am_gd (¬ v3 < 0 ∧ (v3).toNatClampNeg < 56) (am_lt (as_i s5 (a1 + 2) (v3).toNatClampNeg (s5.1 18 (v6).toNatClampNeg)) (fun s9 => am_bd (f_X2_conclude a1 (s9.1 134 3) s9) (fun s10 => some s10)))))))))))
set_option maxRecDepth 100000 in
set_option maxHeartbeats 4000000 in
theorem t_X2_hear (a1 : Nat) (s0 : am_S) {z : am_S} (E : f_X2_hear a1 s0 = some z) : AS yX2_hear cX2_hear 3 none 4 [.ref a1, .ref 134] s0 none z := by
  unfold f_X2_hear at E
  obtain ⟨ma1, E⟩ := am_gdE E
  refine as_met (lv := [(0, .ref a1), (1, .ref 134)]) (by decide +kernel) (by simp [lg_sl, Value.category]) rfl (fun x C A Z => ?_)
  refine am_aload_n 0 C dX2_hear_0 rfl 0 rfl ?_
  refine am_aload_n 1 C dX2_hear_1 rfl 1 rfl ?_
  refine as_getr 2 C fl_X2_93_5 dX2_hear_2 (by decide) sh_134 (rf_134_0 _ _) ?_
  refine am_aload_n 5 C dX2_hear_5 rfl 1 rfl ?_
  refine as_geti 6 C fl_X2_99_5 dX2_hear_6 (by decide) sh_134 ?_
  refine am_aload_n 9 C dX2_hear_9 rfl 1 rfl ?_
  refine as_geti 10 C fl_X2_102_5 dX2_hear_10 (by decide) sh_134 ?_
  refine am_aload_n 13 C dX2_hear_13 rfl 1 rfl ?_
  refine as_geti 14 C fl_X2_105_5 dX2_hear_14 (by decide) sh_134 ?_
  obtain ⟨v2, Ec, E⟩ := am_bdE E
  refine as_callV 17 (s2 := s0) (st := []) (st2 := [.int v2]) [.ref 16, .int (s0.1 134 2), .int (s0.1 134 3), .int (s0.1 134 4)] C A (by decide) ml_X2_108 yc_X2_accepts yv_X2_accepts (t_X2_accepts a1 (s0.1 134 2) (s0.1 134 3) (s0.1 134 4) s0 Ec) (iL_l0 _ ma1) (iL_sh _ ma1) rfl rfl (Nat.le_of_ble_eq_true rfl) rfl dX2_hear_17 ?_
  refine am_if_eq 20 84 C dX2_hear_20 (by decide) (fun c11 => ?_) (fun c11 => ?_)
  · have E := am_ifT E c11
    replace E := Option.some.inj E
    subst E
    exact as_vret 84 C Z dX2_hear_84
  · have E := am_ifF E c11
    refine am_aload_n 23 C dX2_hear_23 rfl 1 rfl ?_
    refine as_geti 24 C fl_X2_102_5 dX2_hear_24 (by decide) sh_134 ?_
    refine am_bipush 27 (nI 8) C dX2_hear_27 (by decide) ?_
    refine am_imul 29 C dX2_hear_29 ?_
    refine am_aload_n 30 C dX2_hear_30 rfl 1 rfl ?_
    refine as_geti 31 C fl_X2_105_5 dX2_hear_31 (by decide) sh_134 ?_
    refine am_iadd 34 C dX2_hear_34 ?_
    obtain ⟨v3, hv3, E⟩ := am_ltE E
    refine as_nm hv3 ?_
    refine am_istore_n 35 (lv2 := [(2, .int v3), (0, .ref a1), (1, .ref 134)]) C dX2_hear_35 rfl (by decide) rfl ?_
    refine am_aload_n 36 C dX2_hear_36 rfl 1 rfl ?_
    refine as_getr 37 C fl_X2_9_1 dX2_hear_37 (iL_l0 _ ma1) (iL_sh _ ma1) (iL_r0 _ _ _ ma1) ?_
    refine am_iload_n 40 C dX2_hear_40 rfl 0 rfl ?_
    refine am_aload_n 41 C dX2_hear_41 rfl 2 rfl ?_
    refine as_geti 42 C fl_X2_112_5 dX2_hear_42 (by decide) sh_134 ?_
    obtain ⟨g4, E⟩ := am_gdE E
    obtain ⟨s5, hs5, E⟩ := am_ltE E
    refine as_iast 45 C dX2_hear_45 (iL_l1 _ ma1) (iL_s1 _ ma1) g4 hs5 ?_
    refine am_aload_n 46 C dX2_hear_46 rfl 1 rfl ?_
    refine as_getr 47 C fl_X2_15_1 dX2_hear_47 (iL_l0 _ ma1) (iL_sh _ ma1) (iL_r1 _ _ _ ma1) ?_
    refine am_iload_n 50 C dX2_hear_50 rfl 0 rfl ?_
    refine am_aload_n 51 C dX2_hear_51 rfl 2 rfl ?_
    refine as_getr 52 C fl_X2_93_5 dX2_hear_52 (by decide) sh_134 (rf_134_0 _ _) ?_
    refine as_getr 55 C fl_X2_90_7 dX2_hear_55 (by decide) sh_16 (rf_16_5 _ _) ?_
    refine am_aload_n 58 C dX2_hear_58 rfl 2 rfl ?_
    refine as_geti 59 C fl_X2_102_5 dX2_hear_59 (by decide) sh_134 ?_
    refine am_bipush 62 (nI 7) C dX2_hear_62 (by decide) ?_
    refine am_imul 64 C dX2_hear_64 ?_
    refine am_aload_n 65 C dX2_hear_65 rfl 2 rfl ?_
    refine as_geti 66 C fl_X2_99_5 dX2_hear_66 (by decide) sh_134 ?_
    refine am_iadd 69 C dX2_hear_69 ?_
    obtain ⟨v6, hv6, E⟩ := am_ltE E
    refine as_nm hv6 ?_
    obtain ⟨g7, E⟩ := am_gdE E
    refine as_iald 70 C dX2_hear_70 (by decide) sh_18 g7 ?_
    obtain ⟨g8, E⟩ := am_gdE E
    obtain ⟨s9, hs9, E⟩ := am_ltE E
    refine as_iast 71 C dX2_hear_71 (iL_l2 _ ma1) (iL_s2 _ ma1) g8 hs9 ?_
    refine am_aload_n 72 C dX2_hear_72 rfl 1 rfl ?_
    refine am_aload_n 73 C dX2_hear_73 rfl 2 rfl ?_
    refine as_getr 74 C fl_X2_93_5 dX2_hear_74 (by decide) sh_134 (rf_134_0 _ _) ?_
    refine am_aload_n 77 C dX2_hear_77 rfl 2 rfl ?_
    refine as_geti 78 C fl_X2_102_5 dX2_hear_78 (by decide) sh_134 ?_
    obtain ⟨s10, Ec, E⟩ := am_bdE E
    refine as_callV 81 (s2 := s10) (st := []) (st2 := []) [.ref 16, .int (s9.1 134 3)] C A (by decide) ml_X2_52 yc_X2_conclude yv_X2_conclude (t_X2_conclude a1 (s9.1 134 3) s9 Ec) (iL_l0 _ ma1) (iL_sh _ ma1) rfl rfl (Nat.le_of_ble_eq_true rfl) rfl dX2_hear_81 ?_
    replace E := Option.some.inj E
    subst E
    exact as_vret 84 C Z dX2_hear_84
def b_X2_liesOfDay_4 (a1 : Nat) (s0 : am_S) (v3 : Int32) (v4 : Int32) : Option ((Int32 × Int32) ⊕ (Int32)) :=
  am_if ((nI 7) ≤ v4) (some (Sum.inr v3)) (am_gd (¬ v4 < 0 ∧ (v4).toNatClampNeg < 7) (am_lt (v3 + (s0.1 (a1 + 4) (v4).toNatClampNeg)) (fun v6 => am_lt (v4 + (1 : Int32)) (fun v7 => some (Sum.inl (v6, v7))))))
def f_X2_liesOfDay (a1 : Nat) (s0 : am_S) : Option (Int32) :=
  am_gd (a1 ∈ am_isL) (am_lp (fun (q : Int32 × Int32) => b_X2_liesOfDay_4 a1 s0 q.1 q.2) am_F ((0 : Int32), (0 : Int32)))
set_option maxRecDepth 100000 in
set_option maxHeartbeats 4000000 in
theorem t_X2_liesOfDay (a1 : Nat) (s0 : am_S) {z : Int32} (E : f_X2_liesOfDay a1 s0 = some z) : AS yX2_liesOfDay cX2_liesOfDay 3 (some .int) 1 [.ref a1] s0 (some (.int z)) s0 := by
  unfold f_X2_liesOfDay at E
  obtain ⟨ma1, E⟩ := am_gdE E
  refine as_met (lv := [(0, .ref a1)]) (by decide +kernel) (by simp [lg_sl, Value.category]) rfl (fun x C A Z => ?_)
  refine am_iconst 0 (0 : Int32) C dX2_liesOfDay_0 (by decide) ?_
  refine am_istore_n 1 (lv2 := [(1, .int (0 : Int32)), (0, .ref a1)]) C dX2_liesOfDay_1 rfl (by decide) rfl ?_
  refine am_iconst 2 (0 : Int32) C dX2_liesOfDay_2 (by decide) ?_
  refine am_istore_n 3 (lv2 := [(2, .int (0 : Int32)), (1, .int (0 : Int32)), (0, .ref a1)]) C dX2_liesOfDay_3 rfl (by decide) rfl ?_
  have LP2 : ∀ (n : Nat) (v3 : Int32) (v4 : Int32), am_lp (fun (q : Int32 × Int32) => b_X2_liesOfDay_4 a1 s0 q.1 q.2) n (v3, v4) = some z → AX x 0 0 4 [(0, .ref a1), (1, .int v3), (2, .int v4)] [] am_N (am_h s0) := by
    intro n
    induction n with
    | zero => intro v3 v4 E; exact (am_lp0 E).elim
    | succ n ih2 =>
      intro v3 v4 E
      obtain ⟨r2, E, Er2⟩ := am_lpE E
      replace E : b_X2_liesOfDay_4 a1 s0 v3 v4 = some r2 := E
      unfold b_X2_liesOfDay_4 at E
      refine am_iload_n 4 C dX2_liesOfDay_4 rfl 2 rfl ?_
      refine am_bipush 5 (nI 7) C dX2_liesOfDay_5 (by decide) ?_
      refine am_icmp_ge 7 25 C dX2_liesOfDay_7 (by decide) (fun c8 => ?_) (fun c8 => ?_)
      · have E := am_ifT E c8
        refine am_iload_n 25 C dX2_liesOfDay_25 rfl 1 rfl ?_
        replace E := Option.some.inj E
        replace E := am_exR E Er2
        subst E
        exact as_iret 26 C Z rfl dX2_liesOfDay_26
      · have E := am_ifF E c8
        refine am_iload_n 10 C dX2_liesOfDay_10 rfl 1 rfl ?_
        refine am_aload_n 11 C dX2_liesOfDay_11 rfl 0 rfl ?_
        refine as_getr 12 C fl_X2_21_1 dX2_liesOfDay_12 (iL_l0 _ ma1) (iL_sh _ ma1) (iL_r3 _ _ _ ma1) ?_
        refine am_iload_n 15 C dX2_liesOfDay_15 rfl 2 rfl ?_
        obtain ⟨g5, E⟩ := am_gdE E
        refine as_iald 16 C dX2_liesOfDay_16 (iL_l4 _ ma1) (iL_s4 _ ma1) g5 ?_
        refine am_iadd 17 C dX2_liesOfDay_17 ?_
        obtain ⟨v6, hv6, E⟩ := am_ltE E
        refine as_nm hv6 ?_
        refine am_istore_n 18 (lv2 := [(1, .int v6), (0, .ref a1), (2, .int v4)]) C dX2_liesOfDay_18 rfl (by decide) rfl ?_
        obtain ⟨v7, hv7, E⟩ := am_ltE E
        refine as_iinc 19 (q := (1 : Int32)) (lv2 := [(2, .int v7), (1, .int v6), (0, .ref a1)]) C dX2_liesOfDay_19 2 rfl (by decide) hv7 (by decide) rfl ?_
        refine am_goto 22 4 C dX2_liesOfDay_22 (by decide) ?_
        replace E := Option.some.inj E
        replace E := am_exL E Er2
        refine am_lvs [2, 1, 0] rfl ?_
        exact ih2 _ _ E
  refine am_lvs [2, 1, 0] rfl ?_
  exact LP2 am_F _ _ E
def b_X2_liedToOnce_4 (a1 : Nat) (s0 : am_S) (v3 : Int32) (v4 : Int32) : Option ((Int32 × Int32) ⊕ (Int32)) :=
  am_if ((nI 7) ≤ v4) (some (Sum.inr v3)) (am_gd (¬ v4 < 0 ∧ (v4).toNatClampNeg < 7) (am_if ((s0.1 (a1 + 4) (v4).toNatClampNeg) = (1 : Int32)) (am_lt (v3 + (1 : Int32)) (fun v8 => am_lt (v4 + (1 : Int32)) (fun v9 => some (Sum.inl (v8, v9))))) (am_lt (v3 + (0 : Int32)) (fun v6 => am_lt (v4 + (1 : Int32)) (fun v7 => some (Sum.inl (v6, v7)))))))
def f_X2_liedToOnce (a1 : Nat) (s0 : am_S) : Option (Int32) :=
  am_gd (a1 ∈ am_isL) (am_lp (fun (q : Int32 × Int32) => b_X2_liedToOnce_4 a1 s0 q.1 q.2) am_F ((0 : Int32), (0 : Int32)))
set_option maxRecDepth 100000 in
set_option maxHeartbeats 4000000 in
theorem t_X2_liedToOnce (a1 : Nat) (s0 : am_S) {z : Int32} (E : f_X2_liedToOnce a1 s0 = some z) : AS yX2_liedToOnce cX2_liedToOnce 3 (some .int) 1 [.ref a1] s0 (some (.int z)) s0 := by
  unfold f_X2_liedToOnce at E
  obtain ⟨ma1, E⟩ := am_gdE E
  refine as_met (lv := [(0, .ref a1)]) (by decide +kernel) (by simp [lg_sl, Value.category]) rfl (fun x C A Z => ?_)
  refine am_iconst 0 (0 : Int32) C dX2_liedToOnce_0 (by decide) ?_
  refine am_istore_n 1 (lv2 := [(1, .int (0 : Int32)), (0, .ref a1)]) C dX2_liedToOnce_1 rfl (by decide) rfl ?_
  refine am_iconst 2 (0 : Int32) C dX2_liedToOnce_2 (by decide) ?_
  refine am_istore_n 3 (lv2 := [(2, .int (0 : Int32)), (1, .int (0 : Int32)), (0, .ref a1)]) C dX2_liedToOnce_3 rfl (by decide) rfl ?_
  have LP2 : ∀ (n : Nat) (v3 : Int32) (v4 : Int32), am_lp (fun (q : Int32 × Int32) => b_X2_liedToOnce_4 a1 s0 q.1 q.2) n (v3, v4) = some z → AX x 0 0 4 [(0, .ref a1), (1, .int v3), (2, .int v4)] [] am_N (am_h s0) := by
    intro n
    induction n with
    | zero => intro v3 v4 E; exact (am_lp0 E).elim
    | succ n ih2 =>
      intro v3 v4 E
      obtain ⟨r2, E, Er2⟩ := am_lpE E
      replace E : b_X2_liedToOnce_4 a1 s0 v3 v4 = some r2 := E
      unfold b_X2_liedToOnce_4 at E
      refine am_iload_n 4 C dX2_liedToOnce_4 rfl 2 rfl ?_
      refine am_bipush 5 (nI 7) C dX2_liedToOnce_5 (by decide) ?_
      refine am_icmp_ge 7 34 C dX2_liedToOnce_7 (by decide) (fun c11 => ?_) (fun c11 => ?_)
      · have E := am_ifT E c11
        refine am_iload_n 34 C dX2_liedToOnce_34 rfl 1 rfl ?_
        replace E := Option.some.inj E
        replace E := am_exR E Er2
        subst E
        exact as_iret 35 C Z rfl dX2_liedToOnce_35
      · have E := am_ifF E c11
        refine am_iload_n 10 C dX2_liedToOnce_10 rfl 1 rfl ?_
        refine am_aload_n 11 C dX2_liedToOnce_11 rfl 0 rfl ?_
        refine as_getr 12 C fl_X2_21_1 dX2_liedToOnce_12 (iL_l0 _ ma1) (iL_sh _ ma1) (iL_r3 _ _ _ ma1) ?_
        refine am_iload_n 15 C dX2_liedToOnce_15 rfl 2 rfl ?_
        obtain ⟨g5, E⟩ := am_gdE E
        refine as_iald 16 C dX2_liedToOnce_16 (iL_l4 _ ma1) (iL_s4 _ ma1) g5 ?_
        refine am_iconst 17 (1 : Int32) C dX2_liedToOnce_17 (by decide) ?_
        refine am_icmp_ne 18 25 C dX2_liedToOnce_18 (by decide) (fun c10 => ?_) (fun c10 => ?_)
        · have E := am_ifF E c10
          refine am_iconst 25 (0 : Int32) C dX2_liedToOnce_25 (by decide) ?_
          refine am_iadd 26 C dX2_liedToOnce_26 ?_
          obtain ⟨v6, hv6, E⟩ := am_ltE E
          refine as_nm hv6 ?_
          refine am_istore_n 27 (lv2 := [(1, .int v6), (0, .ref a1), (2, .int v4)]) C dX2_liedToOnce_27 rfl (by decide) rfl ?_
          obtain ⟨v7, hv7, E⟩ := am_ltE E
          refine as_iinc 28 (q := (1 : Int32)) (lv2 := [(2, .int v7), (1, .int v6), (0, .ref a1)]) C dX2_liedToOnce_28 2 rfl (by decide) hv7 (by decide) rfl ?_
          refine am_goto 31 4 C dX2_liedToOnce_31 (by decide) ?_
          replace E := Option.some.inj E
          replace E := am_exL E Er2
          refine am_lvs [2, 1, 0] rfl ?_
          exact ih2 _ _ E
        · have E := am_ifT E c10
          refine am_iconst 21 (1 : Int32) C dX2_liedToOnce_21 (by decide) ?_
          refine am_goto 22 26 C dX2_liedToOnce_22 (by decide) ?_
          refine am_iadd 26 C dX2_liedToOnce_26 ?_
          obtain ⟨v8, hv8, E⟩ := am_ltE E
          refine as_nm hv8 ?_
          refine am_istore_n 27 (lv2 := [(1, .int v8), (0, .ref a1), (2, .int v4)]) C dX2_liedToOnce_27 rfl (by decide) rfl ?_
          obtain ⟨v9, hv9, E⟩ := am_ltE E
          refine as_iinc 28 (q := (1 : Int32)) (lv2 := [(2, .int v9), (1, .int v8), (0, .ref a1)]) C dX2_liedToOnce_28 2 rfl (by decide) hv9 (by decide) rfl ?_
          refine am_goto 31 4 C dX2_liedToOnce_31 (by decide) ?_
          replace E := Option.some.inj E
          replace E := am_exL E Er2
          refine am_lvs [2, 1, 0] rfl ?_
          exact ih2 _ _ E
  refine am_lvs [2, 1, 0] rfl ?_
  exact LP2 am_F _ _ E
def b_X8_harmOf_5 (a1 : Nat) (p2 : Int32) (s0 : am_S) (v4 : Int32) (v5 : Int32) : Option ((Int32 × Int32) ⊕ (Int32)) :=
  am_if ((s0.1 16 12) ≤ v5) (some (Sum.inr v4)) (am_lt ((nI 3) * v5) (fun v6 => am_gd (¬ v6 < 0 ∧ (v6).toNatClampNeg < 30) (am_lt (p2 + (s0.1 23 (v6).toNatClampNeg)) (fun v8 => am_gd (¬ v8 < 0 ∧ (v8).toNatClampNeg < (am_sh a1).2) (am_lt (((nI 3) * v5) + (1 : Int32)) (fun v10 => am_gd (¬ v10 < 0 ∧ (v10).toNatClampNeg < 30) (am_if ((s0.1 a1 (v8).toNatClampNeg) = (s0.1 23 (v10).toNatClampNeg)) (am_lt (((nI 3) * v5) + (nI 2)) (fun v13 => am_gd (¬ v13 < 0 ∧ (v13).toNatClampNeg < 30) (am_lt (v4 + (s0.1 23 (v13).toNatClampNeg)) (fun v15 => am_lt (v5 + (1 : Int32)) (fun v16 => some (Sum.inl (v15, v16))))))) (am_lt (v5 + (1 : Int32)) (fun v12 => some (Sum.inl (v4, v12)))))))))))
def f_X8_harmOf (a1 : Nat) (p2 : Int32) (s0 : am_S) : Option (Int32) :=
  am_gd (am_sh a1 = (13, (am_sh a1).2) ∧ a1 < am_N) (am_lp (fun (q : Int32 × Int32) => b_X8_harmOf_5 a1 p2 s0 q.1 q.2) am_F ((0 : Int32), (0 : Int32)))
set_option maxRecDepth 100000 in
set_option maxHeartbeats 4000000 in
theorem t_X8_harmOf (a1 : Nat) (p2 : Int32) (s0 : am_S) {z : Int32} (E : f_X8_harmOf a1 p2 s0 = some z) : AS yX8_harmOf cX8_harmOf 5 (some .int) 1 [.ref 16, .ref a1, .int p2] s0 (some (.int z)) s0 := by
  unfold f_X8_harmOf at E
  obtain ⟨ma1, E⟩ := am_gdE E
  refine as_met (lv := [(0, .ref 16), (1, .ref a1), (2, .int p2)]) (by decide +kernel) (by simp [lg_sl, Value.category]) rfl (fun x C A Z => ?_)
  refine am_iconst 0 (0 : Int32) C dX8_harmOf_0 (by decide) ?_
  refine am_istore_n 1 (lv2 := [(3, .int (0 : Int32)), (0, .ref 16), (1, .ref a1), (2, .int p2)]) C dX8_harmOf_1 rfl (by decide) rfl ?_
  refine am_iconst 2 (0 : Int32) C dX8_harmOf_2 (by decide) ?_
  refine am_istore 3 (lv2 := [(4, .int (0 : Int32)), (3, .int (0 : Int32)), (0, .ref 16), (1, .ref a1), (2, .int p2)]) C dX8_harmOf_3 (by decide) rfl ?_
  have LP3 : ∀ (n : Nat) (v4 : Int32) (v5 : Int32), am_lp (fun (q : Int32 × Int32) => b_X8_harmOf_5 a1 p2 s0 q.1 q.2) n (v4, v5) = some z → AX x 0 0 5 [(0, .ref 16), (1, .ref a1), (2, .int p2), (3, .int v4), (4, .int v5)] [] am_N (am_h s0) := by
    intro n
    induction n with
    | zero => intro v4 v5 E; exact (am_lp0 E).elim
    | succ n ih3 =>
      intro v4 v5 E
      obtain ⟨r3, E, Er3⟩ := am_lpE E
      replace E : b_X8_harmOf_5 a1 p2 s0 v4 v5 = some r3 := E
      unfold b_X8_harmOf_5 at E
      refine am_iload 5 C dX8_harmOf_5 4 rfl ?_
      refine am_aload_n 7 C dX8_harmOf_7 rfl 0 rfl ?_
      refine as_geti 8 C fl_X8_53_7 dX8_harmOf_8 (by decide) sh_16 ?_
      refine am_icmp_ge 11 61 C dX8_harmOf_11 (by decide) (fun c18 => ?_) (fun c18 => ?_)
      · have E := am_ifT E c18
        refine am_iload_n 61 C dX8_harmOf_61 rfl 3 rfl ?_
        replace E := Option.some.inj E
        replace E := am_exR E Er3
        subst E
        exact as_iret 62 C Z rfl dX8_harmOf_62
      · have E := am_ifF E c18
        refine am_aload_n 14 C dX8_harmOf_14 rfl 1 rfl ?_
        refine am_iload_n 15 C dX8_harmOf_15 rfl 2 rfl ?_
        refine am_aload_n 16 C dX8_harmOf_16 rfl 0 rfl ?_
        refine as_getr 17 C fl_X8_30_7 dX8_harmOf_17 (by decide) sh_16 (rf_16_13 _ _) ?_
        refine am_iconst 20 (nI 3) C dX8_harmOf_20 (by decide) ?_
        refine am_iload 21 C dX8_harmOf_21 4 rfl ?_
        refine am_imul 23 C dX8_harmOf_23 ?_
        obtain ⟨v6, hv6, E⟩ := am_ltE E
        refine as_nm hv6 ?_
        obtain ⟨g7, E⟩ := am_gdE E
        refine as_iald 24 C dX8_harmOf_24 (by decide) sh_23 g7 ?_
        refine am_iadd 25 C dX8_harmOf_25 ?_
        obtain ⟨v8, hv8, E⟩ := am_ltE E
        refine as_nm hv8 ?_
        obtain ⟨g9, E⟩ := am_gdE E
        refine as_iald 26 C dX8_harmOf_26 ma1.2 ma1.1 g9 ?_
        refine am_aload_n 27 C dX8_harmOf_27 rfl 0 rfl ?_
        refine as_getr 28 C fl_X8_30_7 dX8_harmOf_28 (by decide) sh_16 (rf_16_13 _ _) ?_
        refine am_iconst 31 (nI 3) C dX8_harmOf_31 (by decide) ?_
        refine am_iload 32 C dX8_harmOf_32 4 rfl ?_
        refine am_imul 34 C dX8_harmOf_34 ?_
        refine am_iconst 35 (1 : Int32) C dX8_harmOf_35 (by decide) ?_
        refine am_iadd 36 C dX8_harmOf_36 ?_
        obtain ⟨v10, hv10, E⟩ := am_ltE E
        refine as_nm hv10 ?_
        obtain ⟨g11, E⟩ := am_gdE E
        refine as_iald 37 C dX8_harmOf_37 (by decide) sh_23 g11 ?_
        refine am_icmp_ne 38 55 C dX8_harmOf_38 (by decide) (fun c17 => ?_) (fun c17 => ?_)
        · have E := am_ifF E c17
          obtain ⟨v12, hv12, E⟩ := am_ltE E
          refine as_iinc 55 (q := (1 : Int32)) (lv2 := [(4, .int v12), (0, .ref 16), (1, .ref a1), (2, .int p2), (3, .int v4)]) C dX8_harmOf_55 4 rfl (by decide) hv12 (by decide) rfl ?_
          refine am_goto 58 5 C dX8_harmOf_58 (by decide) ?_
          replace E := Option.some.inj E
          replace E := am_exL E Er3
          refine am_lvs [1, 2, 3, 4, 0] rfl ?_
          exact ih3 _ _ E
        · have E := am_ifT E c17
          refine am_iload_n 41 C dX8_harmOf_41 rfl 3 rfl ?_
          refine am_aload_n 42 C dX8_harmOf_42 rfl 0 rfl ?_
          refine as_getr 43 C fl_X8_30_7 dX8_harmOf_43 (by decide) sh_16 (rf_16_13 _ _) ?_
          refine am_iconst 46 (nI 3) C dX8_harmOf_46 (by decide) ?_
          refine am_iload 47 C dX8_harmOf_47 4 rfl ?_
          refine am_imul 49 C dX8_harmOf_49 ?_
          refine am_iconst 50 (nI 2) C dX8_harmOf_50 (by decide) ?_
          refine am_iadd 51 C dX8_harmOf_51 ?_
          obtain ⟨v13, hv13, E⟩ := am_ltE E
          refine as_nm hv13 ?_
          obtain ⟨g14, E⟩ := am_gdE E
          refine as_iald 52 C dX8_harmOf_52 (by decide) sh_23 g14 ?_
          refine am_iadd 53 C dX8_harmOf_53 ?_
          obtain ⟨v15, hv15, E⟩ := am_ltE E
          refine as_nm hv15 ?_
          refine am_istore_n 54 (lv2 := [(3, .int v15), (0, .ref 16), (1, .ref a1), (2, .int p2), (4, .int v5)]) C dX8_harmOf_54 rfl (by decide) rfl ?_
          obtain ⟨v16, hv16, E⟩ := am_ltE E
          refine as_iinc 55 (q := (1 : Int32)) (lv2 := [(4, .int v16), (3, .int v15), (0, .ref 16), (1, .ref a1), (2, .int p2)]) C dX8_harmOf_55 4 rfl (by decide) hv16 (by decide) rfl ?_
          refine am_goto 58 5 C dX8_harmOf_58 (by decide) ?_
          replace E := Option.some.inj E
          replace E := am_exL E Er3
          refine am_lvs [2, 3, 4, 1, 0] rfl ?_
          exact ih3 _ _ E
  refine am_lvs [2, 3, 4, 1, 0] rfl ?_
  exact LP3 am_F _ _ E
def b_X2_harmOfAll_4 (a1 : Nat) (s0 : am_S) (v3 : Int32) (v4 : Int32) : Option ((Int32 × Int32) ⊕ (Int32)) :=
  am_if ((s0.1 16 3) ≤ v4) (some (Sum.inr v3)) (am_bd (f_X8_harmOf (a1 + 3) (v4 * (nI 8)) s0) (fun v5 => am_lt (v3 + v5) (fun v6 => am_lt (v4 + (1 : Int32)) (fun v7 => some (Sum.inl (v6, v7))))))
def f_X2_harmOfAll (a1 : Nat) (s0 : am_S) : Option (Int32) :=
  am_gd (a1 ∈ am_isL) (am_lp (fun (q : Int32 × Int32) => b_X2_harmOfAll_4 a1 s0 q.1 q.2) am_F ((0 : Int32), (0 : Int32)))
set_option maxRecDepth 100000 in
set_option maxHeartbeats 4000000 in
theorem t_X2_harmOfAll (a1 : Nat) (s0 : am_S) {z : Int32} (E : f_X2_harmOfAll a1 s0 = some z) : AS yX2_harmOfAll cX2_harmOfAll 4 (some .int) 2 [.ref a1, .ref 16] s0 (some (.int z)) s0 := by
  unfold f_X2_harmOfAll at E
  obtain ⟨ma1, E⟩ := am_gdE E
  refine as_met (lv := [(0, .ref a1), (1, .ref 16)]) (by decide +kernel) (by simp [lg_sl, Value.category]) rfl (fun x C A Z => ?_)
  refine am_iconst 0 (0 : Int32) C dX2_harmOfAll_0 (by decide) ?_
  refine am_istore_n 1 (lv2 := [(2, .int (0 : Int32)), (0, .ref a1), (1, .ref 16)]) C dX2_harmOfAll_1 rfl (by decide) rfl ?_
  refine am_iconst 2 (0 : Int32) C dX2_harmOfAll_2 (by decide) ?_
  refine am_istore_n 3 (lv2 := [(3, .int (0 : Int32)), (2, .int (0 : Int32)), (0, .ref a1), (1, .ref 16)]) C dX2_harmOfAll_3 rfl (by decide) rfl ?_
  have LP2 : ∀ (n : Nat) (v3 : Int32) (v4 : Int32), am_lp (fun (q : Int32 × Int32) => b_X2_harmOfAll_4 a1 s0 q.1 q.2) n (v3, v4) = some z → AX x 0 0 4 [(0, .ref a1), (1, .ref 16), (2, .int v3), (3, .int v4)] [] am_N (am_h s0) := by
    intro n
    induction n with
    | zero => intro v3 v4 E; exact (am_lp0 E).elim
    | succ n ih2 =>
      intro v3 v4 E
      obtain ⟨r2, E, Er2⟩ := am_lpE E
      replace E : b_X2_harmOfAll_4 a1 s0 v3 v4 = some r2 := E
      unfold b_X2_harmOfAll_4 at E
      refine am_iload_n 4 C dX2_harmOfAll_4 rfl 3 rfl ?_
      refine am_aload_n 5 C dX2_harmOfAll_5 rfl 1 rfl ?_
      refine as_geti 6 C fl_X2_34_7 dX2_harmOfAll_6 (by decide) sh_16 ?_
      refine am_icmp_ge 9 33 C dX2_harmOfAll_9 (by decide) (fun c8 => ?_) (fun c8 => ?_)
      · have E := am_ifT E c8
        refine am_iload_n 33 C dX2_harmOfAll_33 rfl 2 rfl ?_
        replace E := Option.some.inj E
        replace E := am_exR E Er2
        subst E
        exact as_iret 34 C Z rfl dX2_harmOfAll_34
      · have E := am_ifF E c8
        refine am_iload_n 12 C dX2_harmOfAll_12 rfl 2 rfl ?_
        refine am_aload_n 13 C dX2_harmOfAll_13 rfl 1 rfl ?_
        refine am_aload_n 14 C dX2_harmOfAll_14 rfl 0 rfl ?_
        refine as_getr 15 C fl_X2_18_1 dX2_harmOfAll_15 (iL_l0 _ ma1) (iL_sh _ ma1) (iL_r2 _ _ _ ma1) ?_
        refine am_iload_n 18 C dX2_harmOfAll_18 rfl 3 rfl ?_
        refine am_bipush 19 (nI 8) C dX2_harmOfAll_19 (by decide) ?_
        refine am_imul 21 C dX2_harmOfAll_21 ?_
        obtain ⟨v5, Ec, E⟩ := am_bdE E
        refine as_callV 22 (s2 := s0) (st := [.int v3]) (st2 := [.int v5, .int v3]) [.ref (a1 + 3), .int (v4 * (nI 8))] C A (by decide) ml_X2_115 yc_X8_harmOf yv_X8_harmOf (t_X8_harmOf (a1 + 3) (v4 * (nI 8)) s0 Ec) (by decide) sh_16 rfl rfl (Nat.le_of_ble_eq_true rfl) rfl dX2_harmOfAll_22 ?_
        refine am_iadd 25 C dX2_harmOfAll_25 ?_
        obtain ⟨v6, hv6, E⟩ := am_ltE E
        refine as_nm hv6 ?_
        refine am_istore_n 26 (lv2 := [(2, .int v6), (0, .ref a1), (1, .ref 16), (3, .int v4)]) C dX2_harmOfAll_26 rfl (by decide) rfl ?_
        obtain ⟨v7, hv7, E⟩ := am_ltE E
        refine as_iinc 27 (q := (1 : Int32)) (lv2 := [(3, .int v7), (2, .int v6), (0, .ref a1), (1, .ref 16)]) C dX2_harmOfAll_27 3 rfl (by decide) hv7 (by decide) rfl ?_
        refine am_goto 30 4 C dX2_harmOfAll_30 (by decide) ?_
        replace E := Option.some.inj E
        replace E := am_exL E Er2
        refine am_lvs [2, 3, 1, 0] rfl ?_
        exact ih2 _ _ E
  refine am_lvs [2, 3, 1, 0] rfl ?_
  exact LP2 am_F _ _ E
def f_X3_clear (a1 : Nat) (s0 : am_S) : Option (am_S) :=
  am_gd (a1 ∈ am_isR) (am_lt (as_i s0 a1 3 (0 : Int32)) (fun s2 => am_lt (as_i s2 a1 8 (0 : Int32)) (fun s3 => am_lt (as_i s3 a1 9 (0 : Int32)) (fun s4 => some s4))))
set_option maxRecDepth 100000 in
set_option maxHeartbeats 4000000 in
theorem t_X3_clear (a1 : Nat) (s0 : am_S) {z : am_S} (E : f_X3_clear a1 s0 = some z) : AS yX3_clear cX3_clear 1 none 1 [.ref a1] s0 none z := by
  unfold f_X3_clear at E
  obtain ⟨ma1, E⟩ := am_gdE E
  refine as_met (lv := [(0, .ref a1)]) (by decide +kernel) (by simp [lg_sl, Value.category]) rfl (fun x C A Z => ?_)
  refine am_aload_n 0 C dX3_clear_0 rfl 0 rfl ?_
  refine am_iconst 1 (0 : Int32) C dX3_clear_1 (by decide) ?_
  obtain ⟨s2, hs2, E⟩ := am_ltE E
  refine as_puti 2 C fl_X3_35_2 dX3_clear_2 (iR_l0 _ ma1) (iR_sh _ ma1) rfl rfl hs2 ?_
  refine am_aload_n 5 C dX3_clear_5 rfl 0 rfl ?_
  refine am_iconst 6 (0 : Int32) C dX3_clear_6 (by decide) ?_
  obtain ⟨s3, hs3, E⟩ := am_ltE E
  refine as_puti 7 C fl_X3_39_2 dX3_clear_7 (iR_l0 _ ma1) (iR_sh _ ma1) rfl rfl hs3 ?_
  refine am_aload_n 10 C dX3_clear_10 rfl 0 rfl ?_
  refine am_iconst 11 (0 : Int32) C dX3_clear_11 (by decide) ?_
  obtain ⟨s4, hs4, E⟩ := am_ltE E
  refine as_puti 12 C fl_X3_42_2 dX3_clear_12 (iR_l0 _ ma1) (iR_sh _ ma1) rfl rfl hs4 ?_
  replace E := Option.some.inj E
  subst E
  exact as_vret 15 C Z dX3_clear_15
def f_X3_addStep (a1 : Nat) (p2 : Int32) (p3 : Int32) (s0 : am_S) : Option (am_S) :=
  am_gd (a1 ∈ am_isR) (am_if ((nI 400) ≤ (s0.1 a1 3)) (some s0) (am_gd (¬ (s0.1 a1 3) < 0 ∧ ((s0.1 a1 3)).toNatClampNeg < 400) (am_lt (as_i s0 (a1 + 1) ((s0.1 a1 3)).toNatClampNeg p2) (fun s5 => am_gd (¬ (s5.1 a1 3) < 0 ∧ ((s5.1 a1 3)).toNatClampNeg < 400) (am_lt (as_i s5 (a1 + 2) ((s5.1 a1 3)).toNatClampNeg p3) (fun s7 => am_lt (as_i s7 a1 3 ((s7.1 a1 3) + (1 : Int32))) (fun s8 => some s8)))))))
set_option maxRecDepth 100000 in
set_option maxHeartbeats 4000000 in
theorem t_X3_addStep (a1 : Nat) (p2 : Int32) (p3 : Int32) (s0 : am_S) {z : am_S} (E : f_X3_addStep a1 p2 p3 s0 = some z) : AS yX3_addStep cX3_addStep 3 none 1 [.ref a1, .int p2, .int p3] s0 none z := by
  unfold f_X3_addStep at E
  obtain ⟨ma1, E⟩ := am_gdE E
  refine as_met (lv := [(0, .ref a1), (1, .int p2), (2, .int p3)]) (by decide +kernel) (by simp [lg_sl, Value.category]) rfl (fun x C A Z => ?_)
  refine am_aload_n 0 C dX3_addStep_0 rfl 0 rfl ?_
  refine as_geti 1 C fl_X3_35_2 dX3_addStep_1 (iR_l0 _ ma1) (iR_sh _ ma1) ?_
  refine am_sipush 4 (nI 400) C dX3_addStep_4 (by decide) ?_
  refine am_icmp_ge 7 40 C dX3_addStep_7 (by decide) (fun c9 => ?_) (fun c9 => ?_)
  · have E := am_ifT E c9
    replace E := Option.some.inj E
    subst E
    exact as_vret 40 C Z dX3_addStep_40
  · have E := am_ifF E c9
    refine am_aload_n 10 C dX3_addStep_10 rfl 0 rfl ?_
    refine as_getr 11 C fl_X3_9_2 dX3_addStep_11 (iR_l0 _ ma1) (iR_sh _ ma1) (iR_r1 _ _ _ ma1) ?_
    refine am_aload_n 14 C dX3_addStep_14 rfl 0 rfl ?_
    refine as_geti 15 C fl_X3_35_2 dX3_addStep_15 (iR_l0 _ ma1) (iR_sh _ ma1) ?_
    refine am_iload_n 18 C dX3_addStep_18 rfl 1 rfl ?_
    obtain ⟨g4, E⟩ := am_gdE E
    obtain ⟨s5, hs5, E⟩ := am_ltE E
    refine as_iast 19 C dX3_addStep_19 (iR_l1 _ ma1) (iR_s1 _ ma1) g4 hs5 ?_
    refine am_aload_n 20 C dX3_addStep_20 rfl 0 rfl ?_
    refine as_getr 21 C fl_X3_15_2 dX3_addStep_21 (iR_l0 _ ma1) (iR_sh _ ma1) (iR_r2 _ _ _ ma1) ?_
    refine am_aload_n 24 C dX3_addStep_24 rfl 0 rfl ?_
    refine as_geti 25 C fl_X3_35_2 dX3_addStep_25 (iR_l0 _ ma1) (iR_sh _ ma1) ?_
    refine am_iload_n 28 C dX3_addStep_28 rfl 2 rfl ?_
    obtain ⟨g6, E⟩ := am_gdE E
    obtain ⟨s7, hs7, E⟩ := am_ltE E
    refine as_iast 29 C dX3_addStep_29 (iR_l2 _ ma1) (iR_s2 _ ma1) g6 hs7 ?_
    refine am_aload_n 30 C dX3_addStep_30 rfl 0 rfl ?_
    refine am_dup 31 C dX3_addStep_31 rfl ?_
    refine as_geti 32 C fl_X3_35_2 dX3_addStep_32 (iR_l0 _ ma1) (iR_sh _ ma1) ?_
    refine am_iconst 35 (1 : Int32) C dX3_addStep_35 (by decide) ?_
    refine am_iadd 36 C dX3_addStep_36 ?_
    obtain ⟨s8, hs8, E⟩ := am_ltE E
    refine as_puti 37 C fl_X3_35_2 dX3_addStep_37 (iR_l0 _ ma1) (iR_sh _ ma1) rfl rfl hs8 ?_
    replace E := Option.some.inj E
    subst E
    exact as_vret 40 C Z dX3_addStep_40
def f_X3_addClause (a1 : Nat) (p2 : Int32) (p3 : Int32) (p4 : Int32) (s0 : am_S) : Option (am_S) :=
  am_gd (a1 ∈ am_isR) (am_if ((nI 12) ≤ (s0.1 a1 8)) (some s0) (am_gd (¬ (s0.1 a1 8) < 0 ∧ ((s0.1 a1 8)).toNatClampNeg < 12) (am_lt (as_i s0 (a1 + 3) ((s0.1 a1 8)).toNatClampNeg (vp_nar .boolean p2)) (fun s6 => am_gd (¬ (s6.1 a1 8) < 0 ∧ ((s6.1 a1 8)).toNatClampNeg < 12) (am_lt (as_i s6 (a1 + 4) ((s6.1 a1 8)).toNatClampNeg p3) (fun s8 => am_gd (¬ (s8.1 a1 8) < 0 ∧ ((s8.1 a1 8)).toNatClampNeg < 12) (am_lt (as_i s8 (a1 + 5) ((s8.1 a1 8)).toNatClampNeg p4) (fun s10 => am_gd (¬ (s10.1 a1 8) < 0 ∧ ((s10.1 a1 8)).toNatClampNeg < 12) (am_lt (as_i s10 (a1 + 6) ((s10.1 a1 8)).toNatClampNeg (s10.1 a1 3)) (fun s12 => am_lt (as_i s12 a1 8 ((s12.1 a1 8) + (1 : Int32))) (fun s13 => am_if ((s13.1 a1 9) = 0) (am_if (p2 = 0) (am_lt (as_i s13 a1 9 (0 : Int32)) (fun s15 => some s15)) (am_lt (as_i s13 a1 9 (1 : Int32)) (fun s16 => some s16))) (am_lt (as_i s13 a1 9 (1 : Int32)) (fun s14 => some s14)))))))))))))
set_option maxRecDepth 100000 in
set_option maxHeartbeats 4000000 in
theorem t_X3_addClause (a1 : Nat) (p2 : Int32) (p3 : Int32) (p4 : Int32) (s0 : am_S) {z : am_S} (E : f_X3_addClause a1 p2 p3 p4 s0 = some z) : AS yX3_addClause cX3_addClause 4 none 1 [.ref a1, .int p2, .int p3, .int p4] s0 none z := by
  unfold f_X3_addClause at E
  obtain ⟨ma1, E⟩ := am_gdE E
  refine as_met (lv := [(0, .ref a1), (1, .int p2), (2, .int p3), (3, .int p4)]) (by decide +kernel) (by simp [lg_sl, Value.category]) rfl (fun x C A Z => ?_)
  refine am_aload_n 0 C dX3_addClause_0 rfl 0 rfl ?_
  refine as_geti 1 C fl_X3_39_2 dX3_addClause_1 (iR_l0 _ ma1) (iR_sh _ ma1) ?_
  refine am_bipush 4 (nI 12) C dX3_addClause_4 (by decide) ?_
  refine am_icmp_ge 6 82 C dX3_addClause_6 (by decide) (fun c19 => ?_) (fun c19 => ?_)
  · have E := am_ifT E c19
    replace E := Option.some.inj E
    subst E
    exact as_vret 82 C Z dX3_addClause_82
  · have E := am_ifF E c19
    refine am_aload_n 9 C dX3_addClause_9 rfl 0 rfl ?_
    refine as_getr 10 C fl_X3_18_2 dX3_addClause_10 (iR_l0 _ ma1) (iR_sh _ ma1) (iR_r4 _ _ _ ma1) ?_
    refine am_aload_n 13 C dX3_addClause_13 rfl 0 rfl ?_
    refine as_geti 14 C fl_X3_39_2 dX3_addClause_14 (iR_l0 _ ma1) (iR_sh _ ma1) ?_
    refine am_iload_n 17 C dX3_addClause_17 rfl 1 rfl ?_
    obtain ⟨g5, E⟩ := am_gdE E
    obtain ⟨s6, hs6, E⟩ := am_ltE E
    refine as_zast 18 C dX3_addClause_18 (iR_l3 _ ma1) (iR_s3 _ ma1) g5 hs6 ?_
    refine am_aload_n 19 C dX3_addClause_19 rfl 0 rfl ?_
    refine as_getr 20 C fl_X3_22_2 dX3_addClause_20 (iR_l0 _ ma1) (iR_sh _ ma1) (iR_r5 _ _ _ ma1) ?_
    refine am_aload_n 23 C dX3_addClause_23 rfl 0 rfl ?_
    refine as_geti 24 C fl_X3_39_2 dX3_addClause_24 (iR_l0 _ ma1) (iR_sh _ ma1) ?_
    refine am_iload_n 27 C dX3_addClause_27 rfl 2 rfl ?_
    obtain ⟨g7, E⟩ := am_gdE E
    obtain ⟨s8, hs8, E⟩ := am_ltE E
    refine as_iast 28 C dX3_addClause_28 (iR_l4 _ ma1) (iR_s4 _ ma1) g7 hs8 ?_
    refine am_aload_n 29 C dX3_addClause_29 rfl 0 rfl ?_
    refine as_getr 30 C fl_X3_25_2 dX3_addClause_30 (iR_l0 _ ma1) (iR_sh _ ma1) (iR_r6 _ _ _ ma1) ?_
    refine am_aload_n 33 C dX3_addClause_33 rfl 0 rfl ?_
    refine as_geti 34 C fl_X3_39_2 dX3_addClause_34 (iR_l0 _ ma1) (iR_sh _ ma1) ?_
    refine am_iload_n 37 C dX3_addClause_37 rfl 3 rfl ?_
    obtain ⟨g9, E⟩ := am_gdE E
    obtain ⟨s10, hs10, E⟩ := am_ltE E
    refine as_iast 38 C dX3_addClause_38 (iR_l5 _ ma1) (iR_s5 _ ma1) g9 hs10 ?_
    refine am_aload_n 39 C dX3_addClause_39 rfl 0 rfl ?_
    refine as_getr 40 C fl_X3_28_2 dX3_addClause_40 (iR_l0 _ ma1) (iR_sh _ ma1) (iR_r7 _ _ _ ma1) ?_
    refine am_aload_n 43 C dX3_addClause_43 rfl 0 rfl ?_
    refine as_geti 44 C fl_X3_39_2 dX3_addClause_44 (iR_l0 _ ma1) (iR_sh _ ma1) ?_
    refine am_aload_n 47 C dX3_addClause_47 rfl 0 rfl ?_
    refine as_geti 48 C fl_X3_35_2 dX3_addClause_48 (iR_l0 _ ma1) (iR_sh _ ma1) ?_
    obtain ⟨g11, E⟩ := am_gdE E
    obtain ⟨s12, hs12, E⟩ := am_ltE E
    refine as_iast 51 C dX3_addClause_51 (iR_l6 _ ma1) (iR_s6 _ ma1) g11 hs12 ?_
    refine am_aload_n 52 C dX3_addClause_52 rfl 0 rfl ?_
    refine am_dup 53 C dX3_addClause_53 rfl ?_
    refine as_geti 54 C fl_X3_39_2 dX3_addClause_54 (iR_l0 _ ma1) (iR_sh _ ma1) ?_
    refine am_iconst 57 (1 : Int32) C dX3_addClause_57 (by decide) ?_
    refine am_iadd 58 C dX3_addClause_58 ?_
    obtain ⟨s13, hs13, E⟩ := am_ltE E
    refine as_puti 59 C fl_X3_39_2 dX3_addClause_59 (iR_l0 _ ma1) (iR_sh _ ma1) rfl rfl hs13 ?_
    refine am_aload_n 62 C dX3_addClause_62 rfl 0 rfl ?_
    refine am_aload_n 63 C dX3_addClause_63 rfl 0 rfl ?_
    refine as_geti 64 C fl_X3_42_2 dX3_addClause_64 (iR_l0 _ ma1) (iR_sh _ ma1) ?_
    refine am_if_ne 67 74 C dX3_addClause_67 (by decide) (fun c18 => ?_) (fun c18 => ?_)
    · have E := am_ifF E c18
      refine am_iconst 74 (1 : Int32) C dX3_addClause_74 (by decide) ?_
      refine am_goto 75 79 C dX3_addClause_75 (by decide) ?_
      obtain ⟨s14, hs14, E⟩ := am_ltE E
      refine as_puti 79 C fl_X3_42_2 dX3_addClause_79 (iR_l0 _ ma1) (iR_sh _ ma1) rfl rfl hs14 ?_
      replace E := Option.some.inj E
      subst E
      exact as_vret 82 C Z dX3_addClause_82
    · have E := am_ifT E c18
      refine am_iload_n 70 C dX3_addClause_70 rfl 1 rfl ?_
      refine am_if_eq 71 78 C dX3_addClause_71 (by decide) (fun c17 => ?_) (fun c17 => ?_)
      · have E := am_ifT E c17
        refine am_iconst 78 (0 : Int32) C dX3_addClause_78 (by decide) ?_
        obtain ⟨s15, hs15, E⟩ := am_ltE E
        refine as_puti 79 C fl_X3_42_2 dX3_addClause_79 (iR_l0 _ ma1) (iR_sh _ ma1) rfl rfl hs15 ?_
        replace E := Option.some.inj E
        subst E
        exact as_vret 82 C Z dX3_addClause_82
      · have E := am_ifF E c17
        refine am_iconst 74 (1 : Int32) C dX3_addClause_74 (by decide) ?_
        refine am_goto 75 79 C dX3_addClause_75 (by decide) ?_
        obtain ⟨s16, hs16, E⟩ := am_ltE E
        refine as_puti 79 C fl_X3_42_2 dX3_addClause_79 (iR_l0 _ ma1) (iR_sh _ ma1) rfl rfl hs16 ?_
        replace E := Option.some.inj E
        subst E
        exact as_vret 82 C Z dX3_addClause_82
def b_X8_harmOfFact_5 (p1 : Int32) (p2 : Int32) (s0 : am_S) (v4 : Int32) (v5 : Int32) : Option ((Int32 × Int32) ⊕ (Int32)) :=
  am_if ((s0.1 16 12) ≤ v5) (some (Sum.inr v4)) (am_lt ((nI 3) * v5) (fun v6 => am_gd (¬ v6 < 0 ∧ (v6).toNatClampNeg < 30) (am_if ((s0.1 23 (v6).toNatClampNeg) = p1) (am_lt (((nI 3) * v5) + (1 : Int32)) (fun v9 => am_gd (¬ v9 < 0 ∧ (v9).toNatClampNeg < 30) (am_if ((s0.1 23 (v9).toNatClampNeg) = p2) (am_lt (((nI 3) * v5) + (nI 2)) (fun v12 => am_gd (¬ v12 < 0 ∧ (v12).toNatClampNeg < 30) (am_lt (v4 + (s0.1 23 (v12).toNatClampNeg)) (fun v14 => am_lt (v5 + (1 : Int32)) (fun v15 => some (Sum.inl (v14, v15))))))) (am_lt (v5 + (1 : Int32)) (fun v11 => some (Sum.inl (v4, v11))))))) (am_lt (v5 + (1 : Int32)) (fun v8 => some (Sum.inl (v4, v8)))))))
def f_X8_harmOfFact (p1 : Int32) (p2 : Int32) (s0 : am_S) : Option (Int32) :=
  am_lp (fun (q : Int32 × Int32) => b_X8_harmOfFact_5 p1 p2 s0 q.1 q.2) am_F ((0 : Int32), (0 : Int32))
set_option maxRecDepth 100000 in
set_option maxHeartbeats 4000000 in
theorem t_X8_harmOfFact (p1 : Int32) (p2 : Int32) (s0 : am_S) {z : Int32} (E : f_X8_harmOfFact p1 p2 s0 = some z) : AS yX8_harmOfFact cX8_harmOfFact 5 (some .int) 1 [.ref 16, .int p1, .int p2] s0 (some (.int z)) s0 := by
  unfold f_X8_harmOfFact at E
  refine as_met (lv := [(0, .ref 16), (1, .int p1), (2, .int p2)]) (by decide +kernel) (by simp [lg_sl, Value.category]) rfl (fun x C A Z => ?_)
  refine am_iconst 0 (0 : Int32) C dX8_harmOfFact_0 (by decide) ?_
  refine am_istore_n 1 (lv2 := [(3, .int (0 : Int32)), (0, .ref 16), (1, .int p1), (2, .int p2)]) C dX8_harmOfFact_1 rfl (by decide) rfl ?_
  refine am_iconst 2 (0 : Int32) C dX8_harmOfFact_2 (by decide) ?_
  refine am_istore 3 (lv2 := [(4, .int (0 : Int32)), (3, .int (0 : Int32)), (0, .ref 16), (1, .int p1), (2, .int p2)]) C dX8_harmOfFact_3 (by decide) rfl ?_
  have LP3 : ∀ (n : Nat) (v4 : Int32) (v5 : Int32), am_lp (fun (q : Int32 × Int32) => b_X8_harmOfFact_5 p1 p2 s0 q.1 q.2) n (v4, v5) = some z → AX x 0 0 5 [(0, .ref 16), (1, .int p1), (2, .int p2), (3, .int v4), (4, .int v5)] [] am_N (am_h s0) := by
    intro n
    induction n with
    | zero => intro v4 v5 E; exact (am_lp0 E).elim
    | succ n ih3 =>
      intro v4 v5 E
      obtain ⟨r3, E, Er3⟩ := am_lpE E
      replace E : b_X8_harmOfFact_5 p1 p2 s0 v4 v5 = some r3 := E
      unfold b_X8_harmOfFact_5 at E
      refine am_iload 5 C dX8_harmOfFact_5 4 rfl ?_
      refine am_aload_n 7 C dX8_harmOfFact_7 rfl 0 rfl ?_
      refine as_geti 8 C fl_X8_53_7 dX8_harmOfFact_8 (by decide) sh_16 ?_
      refine am_icmp_ge 11 62 C dX8_harmOfFact_11 (by decide) (fun c18 => ?_) (fun c18 => ?_)
      · have E := am_ifT E c18
        refine am_iload_n 62 C dX8_harmOfFact_62 rfl 3 rfl ?_
        replace E := Option.some.inj E
        replace E := am_exR E Er3
        subst E
        exact as_iret 63 C Z rfl dX8_harmOfFact_63
      · have E := am_ifF E c18
        refine am_aload_n 14 C dX8_harmOfFact_14 rfl 0 rfl ?_
        refine as_getr 15 C fl_X8_30_7 dX8_harmOfFact_15 (by decide) sh_16 (rf_16_13 _ _) ?_
        refine am_iconst 18 (nI 3) C dX8_harmOfFact_18 (by decide) ?_
        refine am_iload 19 C dX8_harmOfFact_19 4 rfl ?_
        refine am_imul 21 C dX8_harmOfFact_21 ?_
        obtain ⟨v6, hv6, E⟩ := am_ltE E
        refine as_nm hv6 ?_
        obtain ⟨g7, E⟩ := am_gdE E
        refine as_iald 22 C dX8_harmOfFact_22 (by decide) sh_23 g7 ?_
        refine am_iload_n 23 C dX8_harmOfFact_23 rfl 1 rfl ?_
        refine am_icmp_ne 24 56 C dX8_harmOfFact_24 (by decide) (fun c17 => ?_) (fun c17 => ?_)
        · have E := am_ifF E c17
          obtain ⟨v8, hv8, E⟩ := am_ltE E
          refine as_iinc 56 (q := (1 : Int32)) (lv2 := [(4, .int v8), (0, .ref 16), (1, .int p1), (2, .int p2), (3, .int v4)]) C dX8_harmOfFact_56 4 rfl (by decide) hv8 (by decide) rfl ?_
          refine am_goto 59 5 C dX8_harmOfFact_59 (by decide) ?_
          replace E := Option.some.inj E
          replace E := am_exL E Er3
          refine am_lvs [1, 2, 3, 4, 0] rfl ?_
          exact ih3 _ _ E
        · have E := am_ifT E c17
          refine am_aload_n 27 C dX8_harmOfFact_27 rfl 0 rfl ?_
          refine as_getr 28 C fl_X8_30_7 dX8_harmOfFact_28 (by decide) sh_16 (rf_16_13 _ _) ?_
          refine am_iconst 31 (nI 3) C dX8_harmOfFact_31 (by decide) ?_
          refine am_iload 32 C dX8_harmOfFact_32 4 rfl ?_
          refine am_imul 34 C dX8_harmOfFact_34 ?_
          refine am_iconst 35 (1 : Int32) C dX8_harmOfFact_35 (by decide) ?_
          refine am_iadd 36 C dX8_harmOfFact_36 ?_
          obtain ⟨v9, hv9, E⟩ := am_ltE E
          refine as_nm hv9 ?_
          obtain ⟨g10, E⟩ := am_gdE E
          refine as_iald 37 C dX8_harmOfFact_37 (by decide) sh_23 g10 ?_
          refine am_iload_n 38 C dX8_harmOfFact_38 rfl 2 rfl ?_
          refine am_icmp_ne 39 56 C dX8_harmOfFact_39 (by decide) (fun c16 => ?_) (fun c16 => ?_)
          · have E := am_ifF E c16
            obtain ⟨v11, hv11, E⟩ := am_ltE E
            refine as_iinc 56 (q := (1 : Int32)) (lv2 := [(4, .int v11), (0, .ref 16), (1, .int p1), (2, .int p2), (3, .int v4)]) C dX8_harmOfFact_56 4 rfl (by decide) hv11 (by decide) rfl ?_
            refine am_goto 59 5 C dX8_harmOfFact_59 (by decide) ?_
            replace E := Option.some.inj E
            replace E := am_exL E Er3
            refine am_lvs [1, 2, 3, 4, 0] rfl ?_
            exact ih3 _ _ E
          · have E := am_ifT E c16
            refine am_iload_n 42 C dX8_harmOfFact_42 rfl 3 rfl ?_
            refine am_aload_n 43 C dX8_harmOfFact_43 rfl 0 rfl ?_
            refine as_getr 44 C fl_X8_30_7 dX8_harmOfFact_44 (by decide) sh_16 (rf_16_13 _ _) ?_
            refine am_iconst 47 (nI 3) C dX8_harmOfFact_47 (by decide) ?_
            refine am_iload 48 C dX8_harmOfFact_48 4 rfl ?_
            refine am_imul 50 C dX8_harmOfFact_50 ?_
            refine am_iconst 51 (nI 2) C dX8_harmOfFact_51 (by decide) ?_
            refine am_iadd 52 C dX8_harmOfFact_52 ?_
            obtain ⟨v12, hv12, E⟩ := am_ltE E
            refine as_nm hv12 ?_
            obtain ⟨g13, E⟩ := am_gdE E
            refine as_iald 53 C dX8_harmOfFact_53 (by decide) sh_23 g13 ?_
            refine am_iadd 54 C dX8_harmOfFact_54 ?_
            obtain ⟨v14, hv14, E⟩ := am_ltE E
            refine as_nm hv14 ?_
            refine am_istore_n 55 (lv2 := [(3, .int v14), (0, .ref 16), (1, .int p1), (2, .int p2), (4, .int v5)]) C dX8_harmOfFact_55 rfl (by decide) rfl ?_
            obtain ⟨v15, hv15, E⟩ := am_ltE E
            refine as_iinc 56 (q := (1 : Int32)) (lv2 := [(4, .int v15), (3, .int v14), (0, .ref 16), (1, .int p1), (2, .int p2)]) C dX8_harmOfFact_56 4 rfl (by decide) hv15 (by decide) rfl ?_
            refine am_goto 59 5 C dX8_harmOfFact_59 (by decide) ?_
            replace E := Option.some.inj E
            replace E := am_exL E Er3
            refine am_lvs [2, 3, 4, 1, 0] rfl ?_
            exact ih3 _ _ E
  refine am_lvs [2, 3, 4, 1, 0] rfl ?_
  exact LP3 am_F _ _ E
def f_X6_valueOf (p1 : Int32) (s0 : am_S) : Option (Int64) :=
  am_if (p1 = (nI 2)) (am_lt (((s0.1 134 3) * (nI 7)) + (s0.1 134 2)) (fun v2 => am_gd (¬ v2 < 0 ∧ (v2).toNatClampNeg < 49) (some ((s0.1 18 (v2).toNatClampNeg)).toInt64))) (am_if (p1 = (nI 3)) (am_lt s0.2.2.1 (fun q5 => am_gd (q5 ∈ am_isL) (some ((s0.1 q5 4)).toInt64))) (am_if (p1 = (nI 4)) (am_lt s0.2.2.1 (fun q7 => am_gd (q7 ∈ am_isL) (some ((s0.1 q7 4)).toInt64))) (am_if (p1 = (nI 5)) (am_bd (f_X8_harmOfFact (s0.1 134 4) (s0.1 134 5) s0) (fun v9 => some (v9).toInt64)) (am_if (p1 = (nI 6)) (am_bd (f_X11_bit (s0.1 16 14) (s0.1 134 3)) (fun v11 => some (v11).toInt64)) (am_if (p1 = (nI 7)) (am_lt s0.2.2.1 (fun q13 => am_gd (q13 ∈ am_isL) (some ((s0.1 q13 4)).toInt64))) (am_if (p1 = (nI 8)) (am_lt s0.2.2.1 (fun q15 => am_gd (q15 ∈ am_isL) (some ((s0.1 q15 4)).toInt64))) (am_if (p1 = (nI 9)) (am_lt s0.2.2.1 (fun q17 => am_gd (q17 ∈ am_isL) (some ((s0.1 q17 4)).toInt64))) (am_if (p1 = (nI 10)) (am_lt s0.2.2.1 (fun q19 => am_gd (q19 ∈ am_isL) (some ((s0.1 q19 4)).toInt64))) (am_if (p1 = (nI 11)) (am_lt s0.2.2.1 (fun q21 => am_gd (q21 ∈ am_isL) (some ((s0.1 q21 4)).toInt64))) (am_if (p1 = (nI 12)) (am_lt s0.2.2.1 (fun q23 => am_gd (q23 ∈ am_isL) (some ((s0.1 q23 4)).toInt64))) (am_if (p1 = (nI 13)) (some ((s0.1 134 2)).toInt64) (am_if (p1 = (nI 14)) (some ((s0.1 134 3)).toInt64) (am_if (p1 = (nI 15)) (some ((s0.1 134 4)).toInt64) (am_if (p1 = (nI 16)) (some ((s0.1 134 5)).toInt64) (am_if (p1 = (nI 17)) (am_bd (f_X11_bit (s0.1 16 2) (s0.1 134 4)) (fun v29 => some (v29).toInt64)) (am_if (p1 = (nI 18)) (am_lt s0.2.2.1 (fun q31 => am_gd (q31 ∈ am_isL) (am_lt (((s0.1 134 2) * (nI 8)) + (s0.1 134 4)) (fun v32 => am_gd (¬ v32 < 0 ∧ (v32).toNatClampNeg < 56) (some ((s0.1 (q31 + 3) (v32).toNatClampNeg)).toInt64))))) (am_if (p1 = (nI 19)) (am_lt s0.2.2.1 (fun q35 => am_gd (q35 ∈ am_isL) (am_lt (((s0.1 134 3) * (nI 8)) + (s0.1 134 4)) (fun v36 => am_gd (¬ v36 < 0 ∧ (v36).toNatClampNeg < 56) (some ((s0.1 (q35 + 3) (v36).toNatClampNeg)).toInt64))))) (am_if (p1 = (nI 20)) (am_lt s0.2.2.1 (fun q39 => am_gd (q39 ∈ am_isL) (am_lt (s0.1 134 3) (fun v40 => am_gd (¬ v40 < 0 ∧ (v40).toNatClampNeg < 7) (some ((s0.1 (q39 + 4) (v40).toNatClampNeg)).toInt64))))) (am_if (p1 = (nI 21)) (some ((s0.1 134 6)).toInt64) (am_if (p1 = (nI 22)) (am_lt s0.2.2.1 (fun q44 => am_gd (q44 ∈ am_isL) (some ((s0.1 q44 5)).toInt64))) (am_lt s0.2.2.1 (fun q46 => am_gd (q46 ∈ am_isL) (some ((s0.1 q46 4)).toInt64)))))))))))))))))))))))
set_option maxRecDepth 100000 in
set_option maxHeartbeats 4000000 in
theorem t_X6_valueOf (p1 : Int32) (s0 : am_S) {z : Int64} (E : f_X6_valueOf p1 s0 = some z) : AS yX6_valueOf cX6_valueOf 2 (some .long) 2 [.ref 134, .int p1] s0 (some (.long z)) s0 := by
  unfold f_X6_valueOf at E
  refine as_met (lv := [(0, .ref 134), (1, .int p1)]) (by decide +kernel) (by simp [lg_sl, Value.category]) rfl (fun x C A Z => ?_)
  refine am_iload_n 0 C dX6_valueOf_0 rfl 1 rfl ?_
  by_cases c4 : p1 = (nI 2)
  · have E := am_ifT E c4
    refine am_tabIn 1 214 C dX6_valueOf_1 (by rw [c4]; decide) (by rw [c4]; decide) (by rw [c4]; rfl) (by decide) ?_
    refine am_aload_n 214 C dX6_valueOf_214 rfl 0 rfl ?_
    refine as_getr 215 C fl_X6_9_5 dX6_valueOf_215 (by decide) sh_134 (rf_134_0 _ _) ?_
    refine as_getr 218 C fl_X6_53_7 dX6_valueOf_218 (by decide) sh_16 (rf_16_5 _ _) ?_
    refine am_aload_n 221 C dX6_valueOf_221 rfl 0 rfl ?_
    refine as_geti 222 C fl_X6_23_5 dX6_valueOf_222 (by decide) sh_134 ?_
    refine am_bipush 225 (nI 7) C dX6_valueOf_225 (by decide) ?_
    refine am_imul 227 C dX6_valueOf_227 ?_
    refine am_aload_n 228 C dX6_valueOf_228 rfl 0 rfl ?_
    refine as_geti 229 C fl_X6_19_5 dX6_valueOf_229 (by decide) sh_134 ?_
    refine am_iadd 232 C dX6_valueOf_232 ?_
    obtain ⟨v2, hv2, E⟩ := am_ltE E
    refine as_nm hv2 ?_
    obtain ⟨g3, E⟩ := am_gdE E
    refine as_iald 233 C dX6_valueOf_233 (by decide) sh_18 g3 ?_
    refine am_i2l 234 C dX6_valueOf_234 ?_
    replace E := Option.some.inj E
    subst E
    exact as_lret 235 C Z dX6_valueOf_235
  · have E := am_ifF E c4
    by_cases c6 : p1 = (nI 3)
    · have E := am_ifT E c6
      refine am_tabIn 1 268 C dX6_valueOf_1 (by rw [c6]; decide) (by rw [c6]; decide) (by rw [c6]; rfl) (by decide) ?_
      refine am_aload_n 268 C dX6_valueOf_268 rfl 0 rfl ?_
      refine as_getr 269 C fl_X6_15_5 dX6_valueOf_269 (by decide) sh_134 (rf_134_1 _ _) ?_
      obtain ⟨q5, hq5, E⟩ := am_ltE E
      refine as_nmr hq5 ?_
      obtain ⟨mq5, E⟩ := am_gdE E
      refine as_geti 272 C fl_X6_65_1 dX6_valueOf_272 (iL_l0 _ mq5) (iL_sh _ mq5) ?_
      refine am_i2l 275 C dX6_valueOf_275 ?_
      replace E := Option.some.inj E
      subst E
      exact as_lret 276 C Z dX6_valueOf_276
    · have E := am_ifF E c6
      by_cases c8 : p1 = (nI 4)
      · have E := am_ifT E c8
        refine am_tabIn 1 268 C dX6_valueOf_1 (by rw [c8]; decide) (by rw [c8]; decide) (by rw [c8]; rfl) (by decide) ?_
        refine am_aload_n 268 C dX6_valueOf_268 rfl 0 rfl ?_
        refine as_getr 269 C fl_X6_15_5 dX6_valueOf_269 (by decide) sh_134 (rf_134_1 _ _) ?_
        obtain ⟨q7, hq7, E⟩ := am_ltE E
        refine as_nmr hq7 ?_
        obtain ⟨mq7, E⟩ := am_gdE E
        refine as_geti 272 C fl_X6_65_1 dX6_valueOf_272 (iL_l0 _ mq7) (iL_sh _ mq7) ?_
        refine am_i2l 275 C dX6_valueOf_275 ?_
        replace E := Option.some.inj E
        subst E
        exact as_lret 276 C Z dX6_valueOf_276
      · have E := am_ifF E c8
        by_cases c10 : p1 = (nI 5)
        · have E := am_ifT E c10
          refine am_tabIn 1 236 C dX6_valueOf_1 (by rw [c10]; decide) (by rw [c10]; decide) (by rw [c10]; rfl) (by decide) ?_
          refine am_aload_n 236 C dX6_valueOf_236 rfl 0 rfl ?_
          refine as_getr 237 C fl_X6_9_5 dX6_valueOf_237 (by decide) sh_134 (rf_134_0 _ _) ?_
          refine am_aload_n 240 C dX6_valueOf_240 rfl 0 rfl ?_
          refine as_geti 241 C fl_X6_26_5 dX6_valueOf_241 (by decide) sh_134 ?_
          refine am_aload_n 244 C dX6_valueOf_244 rfl 0 rfl ?_
          refine as_geti 245 C fl_X6_29_5 dX6_valueOf_245 (by decide) sh_134 ?_
          obtain ⟨v9, Ec, E⟩ := am_bdE E
          refine as_callV 248 (s2 := s0) (st := []) (st2 := [.int v9]) [.int (s0.1 134 4), .int (s0.1 134 5)] C A (by decide) ml_X6_56 yc_X8_harmOfFact yv_X8_harmOfFact (t_X8_harmOfFact (s0.1 134 4) (s0.1 134 5) s0 Ec) (by decide) sh_16 rfl rfl (Nat.le_of_ble_eq_true rfl) rfl dX6_valueOf_248 ?_
          refine am_i2l 251 C dX6_valueOf_251 ?_
          replace E := Option.some.inj E
          subst E
          exact as_lret 252 C Z dX6_valueOf_252
        · have E := am_ifF E c10
          by_cases c12 : p1 = (nI 6)
          · have E := am_ifT E c12
            refine am_tabIn 1 198 C dX6_valueOf_1 (by rw [c12]; decide) (by rw [c12]; decide) (by rw [c12]; rfl) (by decide) ?_
            refine am_aload_n 198 C dX6_valueOf_198 rfl 0 rfl ?_
            refine as_getr 199 C fl_X6_9_5 dX6_valueOf_199 (by decide) sh_134 (rf_134_0 _ _) ?_
            refine as_geti 202 C fl_X6_50_7 dX6_valueOf_202 (by decide) sh_16 ?_
            refine am_aload_n 205 C dX6_valueOf_205 rfl 0 rfl ?_
            refine as_geti 206 C fl_X6_23_5 dX6_valueOf_206 (by decide) sh_134 ?_
            obtain ⟨v11, Ec, E⟩ := am_bdE E
            refine as_callSN 209 (s2 := s0) (st := []) (st2 := [.int v11]) [.int (s0.1 16 14), .int (s0.1 134 3)] C A (by decide) mn_X6_37 yc_X11_bit ys_X11_bit (t_X11_bit (s0.1 16 14) (s0.1 134 3) s0 Ec) rfl rfl (Nat.le_of_ble_eq_true rfl) rfl dX6_valueOf_209 ?_
            refine am_i2l 212 C dX6_valueOf_212 ?_
            replace E := Option.some.inj E
            subst E
            exact as_lret 213 C Z dX6_valueOf_213
          · have E := am_ifF E c12
            by_cases c14 : p1 = (nI 7)
            · have E := am_ifT E c14
              refine am_tabIn 1 268 C dX6_valueOf_1 (by rw [c14]; decide) (by rw [c14]; decide) (by rw [c14]; rfl) (by decide) ?_
              refine am_aload_n 268 C dX6_valueOf_268 rfl 0 rfl ?_
              refine as_getr 269 C fl_X6_15_5 dX6_valueOf_269 (by decide) sh_134 (rf_134_1 _ _) ?_
              obtain ⟨q13, hq13, E⟩ := am_ltE E
              refine as_nmr hq13 ?_
              obtain ⟨mq13, E⟩ := am_gdE E
              refine as_geti 272 C fl_X6_65_1 dX6_valueOf_272 (iL_l0 _ mq13) (iL_sh _ mq13) ?_
              refine am_i2l 275 C dX6_valueOf_275 ?_
              replace E := Option.some.inj E
              subst E
              exact as_lret 276 C Z dX6_valueOf_276
            · have E := am_ifF E c14
              by_cases c16 : p1 = (nI 8)
              · have E := am_ifT E c16
                refine am_tabIn 1 268 C dX6_valueOf_1 (by rw [c16]; decide) (by rw [c16]; decide) (by rw [c16]; rfl) (by decide) ?_
                refine am_aload_n 268 C dX6_valueOf_268 rfl 0 rfl ?_
                refine as_getr 269 C fl_X6_15_5 dX6_valueOf_269 (by decide) sh_134 (rf_134_1 _ _) ?_
                obtain ⟨q15, hq15, E⟩ := am_ltE E
                refine as_nmr hq15 ?_
                obtain ⟨mq15, E⟩ := am_gdE E
                refine as_geti 272 C fl_X6_65_1 dX6_valueOf_272 (iL_l0 _ mq15) (iL_sh _ mq15) ?_
                refine am_i2l 275 C dX6_valueOf_275 ?_
                replace E := Option.some.inj E
                subst E
                exact as_lret 276 C Z dX6_valueOf_276
              · have E := am_ifF E c16
                by_cases c18 : p1 = (nI 9)
                · have E := am_ifT E c18
                  refine am_tabIn 1 268 C dX6_valueOf_1 (by rw [c18]; decide) (by rw [c18]; decide) (by rw [c18]; rfl) (by decide) ?_
                  refine am_aload_n 268 C dX6_valueOf_268 rfl 0 rfl ?_
                  refine as_getr 269 C fl_X6_15_5 dX6_valueOf_269 (by decide) sh_134 (rf_134_1 _ _) ?_
                  obtain ⟨q17, hq17, E⟩ := am_ltE E
                  refine as_nmr hq17 ?_
                  obtain ⟨mq17, E⟩ := am_gdE E
                  refine as_geti 272 C fl_X6_65_1 dX6_valueOf_272 (iL_l0 _ mq17) (iL_sh _ mq17) ?_
                  refine am_i2l 275 C dX6_valueOf_275 ?_
                  replace E := Option.some.inj E
                  subst E
                  exact as_lret 276 C Z dX6_valueOf_276
                · have E := am_ifF E c18
                  by_cases c20 : p1 = (nI 10)
                  · have E := am_ifT E c20
                    refine am_tabIn 1 268 C dX6_valueOf_1 (by rw [c20]; decide) (by rw [c20]; decide) (by rw [c20]; rfl) (by decide) ?_
                    refine am_aload_n 268 C dX6_valueOf_268 rfl 0 rfl ?_
                    refine as_getr 269 C fl_X6_15_5 dX6_valueOf_269 (by decide) sh_134 (rf_134_1 _ _) ?_
                    obtain ⟨q19, hq19, E⟩ := am_ltE E
                    refine as_nmr hq19 ?_
                    obtain ⟨mq19, E⟩ := am_gdE E
                    refine as_geti 272 C fl_X6_65_1 dX6_valueOf_272 (iL_l0 _ mq19) (iL_sh _ mq19) ?_
                    refine am_i2l 275 C dX6_valueOf_275 ?_
                    replace E := Option.some.inj E
                    subst E
                    exact as_lret 276 C Z dX6_valueOf_276
                  · have E := am_ifF E c20
                    by_cases c22 : p1 = (nI 11)
                    · have E := am_ifT E c22
                      refine am_tabIn 1 268 C dX6_valueOf_1 (by rw [c22]; decide) (by rw [c22]; decide) (by rw [c22]; rfl) (by decide) ?_
                      refine am_aload_n 268 C dX6_valueOf_268 rfl 0 rfl ?_
                      refine as_getr 269 C fl_X6_15_5 dX6_valueOf_269 (by decide) sh_134 (rf_134_1 _ _) ?_
                      obtain ⟨q21, hq21, E⟩ := am_ltE E
                      refine as_nmr hq21 ?_
                      obtain ⟨mq21, E⟩ := am_gdE E
                      refine as_geti 272 C fl_X6_65_1 dX6_valueOf_272 (iL_l0 _ mq21) (iL_sh _ mq21) ?_
                      refine am_i2l 275 C dX6_valueOf_275 ?_
                      replace E := Option.some.inj E
                      subst E
                      exact as_lret 276 C Z dX6_valueOf_276
                    · have E := am_ifF E c22
                      by_cases c24 : p1 = (nI 12)
                      · have E := am_ifT E c24
                        refine am_tabIn 1 268 C dX6_valueOf_1 (by rw [c24]; decide) (by rw [c24]; decide) (by rw [c24]; rfl) (by decide) ?_
                        refine am_aload_n 268 C dX6_valueOf_268 rfl 0 rfl ?_
                        refine as_getr 269 C fl_X6_15_5 dX6_valueOf_269 (by decide) sh_134 (rf_134_1 _ _) ?_
                        obtain ⟨q23, hq23, E⟩ := am_ltE E
                        refine as_nmr hq23 ?_
                        obtain ⟨mq23, E⟩ := am_gdE E
                        refine as_geti 272 C fl_X6_65_1 dX6_valueOf_272 (iL_l0 _ mq23) (iL_sh _ mq23) ?_
                        refine am_i2l 275 C dX6_valueOf_275 ?_
                        replace E := Option.some.inj E
                        subst E
                        exact as_lret 276 C Z dX6_valueOf_276
                      · have E := am_ifF E c24
                        by_cases c25 : p1 = (nI 13)
                        · have E := am_ifT E c25
                          refine am_tabIn 1 100 C dX6_valueOf_1 (by rw [c25]; decide) (by rw [c25]; decide) (by rw [c25]; rfl) (by decide) ?_
                          refine am_aload_n 100 C dX6_valueOf_100 rfl 0 rfl ?_
                          refine as_geti 101 C fl_X6_19_5 dX6_valueOf_101 (by decide) sh_134 ?_
                          refine am_i2l 104 C dX6_valueOf_104 ?_
                          replace E := Option.some.inj E
                          subst E
                          exact as_lret 105 C Z dX6_valueOf_105
                        · have E := am_ifF E c25
                          by_cases c26 : p1 = (nI 14)
                          · have E := am_ifT E c26
                            refine am_tabIn 1 106 C dX6_valueOf_1 (by rw [c26]; decide) (by rw [c26]; decide) (by rw [c26]; rfl) (by decide) ?_
                            refine am_aload_n 106 C dX6_valueOf_106 rfl 0 rfl ?_
                            refine as_geti 107 C fl_X6_23_5 dX6_valueOf_107 (by decide) sh_134 ?_
                            refine am_i2l 110 C dX6_valueOf_110 ?_
                            replace E := Option.some.inj E
                            subst E
                            exact as_lret 111 C Z dX6_valueOf_111
                          · have E := am_ifF E c26
                            by_cases c27 : p1 = (nI 15)
                            · have E := am_ifT E c27
                              refine am_tabIn 1 112 C dX6_valueOf_1 (by rw [c27]; decide) (by rw [c27]; decide) (by rw [c27]; rfl) (by decide) ?_
                              refine am_aload_n 112 C dX6_valueOf_112 rfl 0 rfl ?_
                              refine as_geti 113 C fl_X6_26_5 dX6_valueOf_113 (by decide) sh_134 ?_
                              refine am_i2l 116 C dX6_valueOf_116 ?_
                              replace E := Option.some.inj E
                              subst E
                              exact as_lret 117 C Z dX6_valueOf_117
                            · have E := am_ifF E c27
                              by_cases c28 : p1 = (nI 16)
                              · have E := am_ifT E c28
                                refine am_tabIn 1 118 C dX6_valueOf_1 (by rw [c28]; decide) (by rw [c28]; decide) (by rw [c28]; rfl) (by decide) ?_
                                refine am_aload_n 118 C dX6_valueOf_118 rfl 0 rfl ?_
                                refine as_geti 119 C fl_X6_29_5 dX6_valueOf_119 (by decide) sh_134 ?_
                                refine am_i2l 122 C dX6_valueOf_122 ?_
                                replace E := Option.some.inj E
                                subst E
                                exact as_lret 123 C Z dX6_valueOf_123
                              · have E := am_ifF E c28
                                by_cases c30 : p1 = (nI 17)
                                · have E := am_ifT E c30
                                  refine am_tabIn 1 124 C dX6_valueOf_1 (by rw [c30]; decide) (by rw [c30]; decide) (by rw [c30]; rfl) (by decide) ?_
                                  refine am_aload_n 124 C dX6_valueOf_124 rfl 0 rfl ?_
                                  refine as_getr 125 C fl_X6_9_5 dX6_valueOf_125 (by decide) sh_134 (rf_134_0 _ _) ?_
                                  refine as_geti 128 C fl_X6_32_7 dX6_valueOf_128 (by decide) sh_16 ?_
                                  refine am_aload_n 131 C dX6_valueOf_131 rfl 0 rfl ?_
                                  refine as_geti 132 C fl_X6_26_5 dX6_valueOf_132 (by decide) sh_134 ?_
                                  obtain ⟨v29, Ec, E⟩ := am_bdE E
                                  refine as_callSN 135 (s2 := s0) (st := []) (st2 := [.int v29]) [.int (s0.1 16 2), .int (s0.1 134 4)] C A (by decide) mn_X6_37 yc_X11_bit ys_X11_bit (t_X11_bit (s0.1 16 2) (s0.1 134 4) s0 Ec) rfl rfl (Nat.le_of_ble_eq_true rfl) rfl dX6_valueOf_135 ?_
                                  refine am_i2l 138 C dX6_valueOf_138 ?_
                                  replace E := Option.some.inj E
                                  subst E
                                  exact as_lret 139 C Z dX6_valueOf_139
                                · have E := am_ifF E c30
                                  by_cases c34 : p1 = (nI 18)
                                  · have E := am_ifT E c34
                                    refine am_tabIn 1 140 C dX6_valueOf_1 (by rw [c34]; decide) (by rw [c34]; decide) (by rw [c34]; rfl) (by decide) ?_
                                    refine am_aload_n 140 C dX6_valueOf_140 rfl 0 rfl ?_
                                    refine as_getr 141 C fl_X6_15_5 dX6_valueOf_141 (by decide) sh_134 (rf_134_1 _ _) ?_
                                    obtain ⟨q31, hq31, E⟩ := am_ltE E
                                    refine as_nmr hq31 ?_
                                    obtain ⟨mq31, E⟩ := am_gdE E
                                    refine as_getr 144 C fl_X6_41_1 dX6_valueOf_144 (iL_l0 _ mq31) (iL_sh _ mq31) (iL_r2 _ _ _ mq31) ?_
                                    refine am_aload_n 147 C dX6_valueOf_147 rfl 0 rfl ?_
                                    refine as_geti 148 C fl_X6_19_5 dX6_valueOf_148 (by decide) sh_134 ?_
                                    refine am_bipush 151 (nI 8) C dX6_valueOf_151 (by decide) ?_
                                    refine am_imul 153 C dX6_valueOf_153 ?_
                                    refine am_aload_n 154 C dX6_valueOf_154 rfl 0 rfl ?_
                                    refine as_geti 155 C fl_X6_26_5 dX6_valueOf_155 (by decide) sh_134 ?_
                                    refine am_iadd 158 C dX6_valueOf_158 ?_
                                    obtain ⟨v32, hv32, E⟩ := am_ltE E
                                    refine as_nm hv32 ?_
                                    obtain ⟨g33, E⟩ := am_gdE E
                                    refine as_iald 159 C dX6_valueOf_159 (iL_l3 _ mq31) (iL_s3 _ mq31) g33 ?_
                                    refine am_i2l 160 C dX6_valueOf_160 ?_
                                    replace E := Option.some.inj E
                                    subst E
                                    exact as_lret 161 C Z dX6_valueOf_161
                                  · have E := am_ifF E c34
                                    by_cases c38 : p1 = (nI 19)
                                    · have E := am_ifT E c38
                                      refine am_tabIn 1 162 C dX6_valueOf_1 (by rw [c38]; decide) (by rw [c38]; decide) (by rw [c38]; rfl) (by decide) ?_
                                      refine am_aload_n 162 C dX6_valueOf_162 rfl 0 rfl ?_
                                      refine as_getr 163 C fl_X6_15_5 dX6_valueOf_163 (by decide) sh_134 (rf_134_1 _ _) ?_
                                      obtain ⟨q35, hq35, E⟩ := am_ltE E
                                      refine as_nmr hq35 ?_
                                      obtain ⟨mq35, E⟩ := am_gdE E
                                      refine as_getr 166 C fl_X6_41_1 dX6_valueOf_166 (iL_l0 _ mq35) (iL_sh _ mq35) (iL_r2 _ _ _ mq35) ?_
                                      refine am_aload_n 169 C dX6_valueOf_169 rfl 0 rfl ?_
                                      refine as_geti 170 C fl_X6_23_5 dX6_valueOf_170 (by decide) sh_134 ?_
                                      refine am_bipush 173 (nI 8) C dX6_valueOf_173 (by decide) ?_
                                      refine am_imul 175 C dX6_valueOf_175 ?_
                                      refine am_aload_n 176 C dX6_valueOf_176 rfl 0 rfl ?_
                                      refine as_geti 177 C fl_X6_26_5 dX6_valueOf_177 (by decide) sh_134 ?_
                                      refine am_iadd 180 C dX6_valueOf_180 ?_
                                      obtain ⟨v36, hv36, E⟩ := am_ltE E
                                      refine as_nm hv36 ?_
                                      obtain ⟨g37, E⟩ := am_gdE E
                                      refine as_iald 181 C dX6_valueOf_181 (iL_l3 _ mq35) (iL_s3 _ mq35) g37 ?_
                                      refine am_i2l 182 C dX6_valueOf_182 ?_
                                      replace E := Option.some.inj E
                                      subst E
                                      exact as_lret 183 C Z dX6_valueOf_183
                                    · have E := am_ifF E c38
                                      by_cases c42 : p1 = (nI 20)
                                      · have E := am_ifT E c42
                                        refine am_tabIn 1 184 C dX6_valueOf_1 (by rw [c42]; decide) (by rw [c42]; decide) (by rw [c42]; rfl) (by decide) ?_
                                        refine am_aload_n 184 C dX6_valueOf_184 rfl 0 rfl ?_
                                        refine as_getr 185 C fl_X6_15_5 dX6_valueOf_185 (by decide) sh_134 (rf_134_1 _ _) ?_
                                        obtain ⟨q39, hq39, E⟩ := am_ltE E
                                        refine as_nmr hq39 ?_
                                        obtain ⟨mq39, E⟩ := am_gdE E
                                        refine as_getr 188 C fl_X6_47_1 dX6_valueOf_188 (iL_l0 _ mq39) (iL_sh _ mq39) (iL_r3 _ _ _ mq39) ?_
                                        refine am_aload_n 191 C dX6_valueOf_191 rfl 0 rfl ?_
                                        refine as_geti 192 C fl_X6_23_5 dX6_valueOf_192 (by decide) sh_134 ?_
                                        obtain ⟨v40, hv40, E⟩ := am_ltE E
                                        refine as_nm hv40 ?_
                                        obtain ⟨g41, E⟩ := am_gdE E
                                        refine as_iald 195 C dX6_valueOf_195 (iL_l4 _ mq39) (iL_s4 _ mq39) g41 ?_
                                        refine am_i2l 196 C dX6_valueOf_196 ?_
                                        replace E := Option.some.inj E
                                        subst E
                                        exact as_lret 197 C Z dX6_valueOf_197
                                      · have E := am_ifF E c42
                                        by_cases c43 : p1 = (nI 21)
                                        · have E := am_ifT E c43
                                          refine am_tabIn 1 253 C dX6_valueOf_1 (by rw [c43]; decide) (by rw [c43]; decide) (by rw [c43]; rfl) (by decide) ?_
                                          refine am_aload_n 253 C dX6_valueOf_253 rfl 0 rfl ?_
                                          refine as_geti 254 C fl_X6_59_5 dX6_valueOf_254 (by decide) sh_134 ?_
                                          refine am_i2l 257 C dX6_valueOf_257 ?_
                                          replace E := Option.some.inj E
                                          subst E
                                          exact as_lret 258 C Z dX6_valueOf_258
                                        · have E := am_ifF E c43
                                          by_cases c45 : p1 = (nI 22)
                                          · have E := am_ifT E c45
                                            refine am_tabIn 1 259 C dX6_valueOf_1 (by rw [c45]; decide) (by rw [c45]; decide) (by rw [c45]; rfl) (by decide) ?_
                                            refine am_aload_n 259 C dX6_valueOf_259 rfl 0 rfl ?_
                                            refine as_getr 260 C fl_X6_15_5 dX6_valueOf_260 (by decide) sh_134 (rf_134_1 _ _) ?_
                                            obtain ⟨q44, hq44, E⟩ := am_ltE E
                                            refine as_nmr hq44 ?_
                                            obtain ⟨mq44, E⟩ := am_gdE E
                                            refine as_geti 263 C fl_X6_62_1 dX6_valueOf_263 (iL_l0 _ mq44) (iL_sh _ mq44) ?_
                                            refine am_i2l 266 C dX6_valueOf_266 ?_
                                            replace E := Option.some.inj E
                                            subst E
                                            exact as_lret 267 C Z dX6_valueOf_267
                                          · have E := am_ifF E c45
                                            have ec4 := am_neI c4 2 (by decide)
                                            have ec6 := am_neI c6 3 (by decide)
                                            have ec8 := am_neI c8 4 (by decide)
                                            have ec10 := am_neI c10 5 (by decide)
                                            have ec12 := am_neI c12 6 (by decide)
                                            have ec14 := am_neI c14 7 (by decide)
                                            have ec16 := am_neI c16 8 (by decide)
                                            have ec18 := am_neI c18 9 (by decide)
                                            have ec20 := am_neI c20 10 (by decide)
                                            have ec22 := am_neI c22 11 (by decide)
                                            have ec24 := am_neI c24 12 (by decide)
                                            have ec25 := am_neI c25 13 (by decide)
                                            have ec26 := am_neI c26 14 (by decide)
                                            have ec27 := am_neI c27 15 (by decide)
                                            have ec28 := am_neI c28 16 (by decide)
                                            have ec30 := am_neI c30 17 (by decide)
                                            have ec34 := am_neI c34 18 (by decide)
                                            have ec38 := am_neI c38 19 (by decide)
                                            have ec42 := am_neI c42 20 (by decide)
                                            have ec43 := am_neI c43 21 (by decide)
                                            have ec45 := am_neI c45 22 (by decide)
                                            refine am_tabOut 1 268 C dX6_valueOf_1 (by omega) (by decide) ?_
                                            refine am_aload_n 268 C dX6_valueOf_268 rfl 0 rfl ?_
                                            refine as_getr 269 C fl_X6_15_5 dX6_valueOf_269 (by decide) sh_134 (rf_134_1 _ _) ?_
                                            obtain ⟨q46, hq46, E⟩ := am_ltE E
                                            refine as_nmr hq46 ?_
                                            obtain ⟨mq46, E⟩ := am_gdE E
                                            refine as_geti 272 C fl_X6_65_1 dX6_valueOf_272 (iL_l0 _ mq46) (iL_sh _ mq46) ?_
                                            refine am_i2l 275 C dX6_valueOf_275 ?_
                                            replace E := Option.some.inj E
                                            subst E
                                            exact as_lret 276 C Z dX6_valueOf_276
def f_X3_compare (p1 : Int32) (w2 : Int64) (w3 : Int64) : Option (Int32) :=
  am_if (p1 = (nI 10)) (am_if (0 ≤ (lg_cmp w2 w3)) (some (0 : Int32)) (some (1 : Int32))) (am_if (p1 = (nI 11)) (am_if (0 < (lg_cmp w2 w3)) (some (0 : Int32)) (some (1 : Int32))) (am_if (p1 = (nI 12)) (am_if ((lg_cmp w2 w3) = 0) (some (1 : Int32)) (some (0 : Int32))) (am_if (p1 = (nI 13)) (am_if ((lg_cmp w2 w3) < 0) (some (0 : Int32)) (some (1 : Int32))) (am_if ((lg_cmp w2 w3) ≤ 0) (some (0 : Int32)) (some (1 : Int32))))))
set_option maxRecDepth 100000 in
set_option maxHeartbeats 4000000 in
theorem t_X3_compare (p1 : Int32) (w2 : Int64) (w3 : Int64) (s0 : am_S) {z : Int32} (E : f_X3_compare p1 w2 w3 = some z) : AS yX3_compare cX3_compare 5 (some .boolean) 1 [.int p1, .long w2, .long w3] s0 (some (.int z)) s0 := by
  unfold f_X3_compare at E
  refine as_met (lv := [(0, .int p1), (1, .long w2), (3, .long w3)]) (by decide +kernel) (by simp [lg_sl, Value.category]) rfl (fun x C A Z => ?_)
  refine am_iload_n 0 C dX3_compare_0 rfl 0 rfl ?_
  by_cases c5 : p1 = (nI 10)
  · have E := am_ifT E c5
    refine am_tabIn 1 32 C dX3_compare_1 (by rw [c5]; decide) (by rw [c5]; decide) (by rw [c5]; rfl) (by decide) ?_
    refine am_lload_n 32 C dX3_compare_32 rfl 1 rfl ?_
    refine am_lload_n 33 C dX3_compare_33 rfl 2 rfl ?_
    refine am_lcmp 34 C dX3_compare_34 ?_
    refine am_if_ge 35 42 C dX3_compare_35 (by decide) (fun c4 => ?_) (fun c4 => ?_)
    · have E := am_ifT E c4
      refine am_iconst 42 (0 : Int32) C dX3_compare_42 (by decide) ?_
      replace E := Option.some.inj E
      subst E
      exact as_iret 43 C Z rfl dX3_compare_43
    · have E := am_ifF E c4
      refine am_iconst 38 (1 : Int32) C dX3_compare_38 (by decide) ?_
      refine am_goto 39 43 C dX3_compare_39 (by decide) ?_
      replace E := Option.some.inj E
      subst E
      exact as_iret 43 C Z rfl dX3_compare_43
  · have E := am_ifF E c5
    by_cases c7 : p1 = (nI 11)
    · have E := am_ifT E c7
      refine am_tabIn 1 44 C dX3_compare_1 (by rw [c7]; decide) (by rw [c7]; decide) (by rw [c7]; rfl) (by decide) ?_
      refine am_lload_n 44 C dX3_compare_44 rfl 1 rfl ?_
      refine am_lload_n 45 C dX3_compare_45 rfl 2 rfl ?_
      refine am_lcmp 46 C dX3_compare_46 ?_
      refine am_if_gt 47 54 C dX3_compare_47 (by decide) (fun c6 => ?_) (fun c6 => ?_)
      · have E := am_ifT E c6
        refine am_iconst 54 (0 : Int32) C dX3_compare_54 (by decide) ?_
        replace E := Option.some.inj E
        subst E
        exact as_iret 55 C Z rfl dX3_compare_55
      · have E := am_ifF E c6
        refine am_iconst 50 (1 : Int32) C dX3_compare_50 (by decide) ?_
        refine am_goto 51 55 C dX3_compare_51 (by decide) ?_
        replace E := Option.some.inj E
        subst E
        exact as_iret 55 C Z rfl dX3_compare_55
    · have E := am_ifF E c7
      by_cases c9 : p1 = (nI 12)
      · have E := am_ifT E c9
        refine am_tabIn 1 56 C dX3_compare_1 (by rw [c9]; decide) (by rw [c9]; decide) (by rw [c9]; rfl) (by decide) ?_
        refine am_lload_n 56 C dX3_compare_56 rfl 1 rfl ?_
        refine am_lload_n 57 C dX3_compare_57 rfl 2 rfl ?_
        refine am_lcmp 58 C dX3_compare_58 ?_
        refine am_if_ne 59 66 C dX3_compare_59 (by decide) (fun c8 => ?_) (fun c8 => ?_)
        · have E := am_ifF E c8
          refine am_iconst 66 (0 : Int32) C dX3_compare_66 (by decide) ?_
          replace E := Option.some.inj E
          subst E
          exact as_iret 67 C Z rfl dX3_compare_67
        · have E := am_ifT E c8
          refine am_iconst 62 (1 : Int32) C dX3_compare_62 (by decide) ?_
          refine am_goto 63 67 C dX3_compare_63 (by decide) ?_
          replace E := Option.some.inj E
          subst E
          exact as_iret 67 C Z rfl dX3_compare_67
      · have E := am_ifF E c9
        by_cases c11 : p1 = (nI 13)
        · have E := am_ifT E c11
          refine am_tabIn 1 68 C dX3_compare_1 (by rw [c11]; decide) (by rw [c11]; decide) (by rw [c11]; rfl) (by decide) ?_
          refine am_lload_n 68 C dX3_compare_68 rfl 1 rfl ?_
          refine am_lload_n 69 C dX3_compare_69 rfl 2 rfl ?_
          refine am_lcmp 70 C dX3_compare_70 ?_
          refine am_if_lt 71 78 C dX3_compare_71 (by decide) (fun c10 => ?_) (fun c10 => ?_)
          · have E := am_ifT E c10
            refine am_iconst 78 (0 : Int32) C dX3_compare_78 (by decide) ?_
            replace E := Option.some.inj E
            subst E
            exact as_iret 79 C Z rfl dX3_compare_79
          · have E := am_ifF E c10
            refine am_iconst 74 (1 : Int32) C dX3_compare_74 (by decide) ?_
            refine am_goto 75 79 C dX3_compare_75 (by decide) ?_
            replace E := Option.some.inj E
            subst E
            exact as_iret 79 C Z rfl dX3_compare_79
        · have E := am_ifF E c11
          have ec5 := am_neI c5 10 (by decide)
          have ec7 := am_neI c7 11 (by decide)
          have ec9 := am_neI c9 12 (by decide)
          have ec11 := am_neI c11 13 (by decide)
          refine am_tabOut 1 80 C dX3_compare_1 (by omega) (by decide) ?_
          refine am_lload_n 80 C dX3_compare_80 rfl 1 rfl ?_
          refine am_lload_n 81 C dX3_compare_81 rfl 2 rfl ?_
          refine am_lcmp 82 C dX3_compare_82 ?_
          refine am_if_le 83 90 C dX3_compare_83 (by decide) (fun c12 => ?_) (fun c12 => ?_)
          · have E := am_ifT E c12
            refine am_iconst 90 (0 : Int32) C dX3_compare_90 (by decide) ?_
            replace E := Option.some.inj E
            subst E
            exact as_iret 91 C Z rfl dX3_compare_91
          · have E := am_ifF E c12
            refine am_iconst 86 (1 : Int32) C dX3_compare_86 (by decide) ?_
            refine am_goto 87 91 C dX3_compare_87 (by decide) ?_
            replace E := Option.some.inj E
            subst E
            exact as_iret 91 C Z rfl dX3_compare_91
def f_X3_combine (p1 : Int32) (w2 : Int64) (w3 : Int64) : Option (Int64) :=
  am_if (p1 = (nI 3)) (some (w2 &&& w3)) (am_if (p1 = (nI 4)) (some (w2 ||| w3)) (am_if (p1 = (nI 5)) (some (w2 + w3)) (am_if (p1 = (nI 6)) (some (w2 - w3)) (am_if (p1 = (nI 7)) (some (w2 * w3)) (am_if (p1 = (nI 8)) (am_if ((lg_cmp w3 (0 : Int64)) = 0) (some (0 : Int64)) (am_gd (¬ w3 = 0) (some (w2 / w3)))) (am_if (p1 = (nI 9)) (am_if ((lg_cmp w3 (0 : Int64)) = 0) (some (0 : Int64)) (am_gd (¬ w3 = 0) (some (w2 - w2 / w3 * w3)))) (am_bd (f_X3_compare p1 w2 w3) (fun v15 => am_if (v15 = 0) (some (0 : Int64)) (some (1 : Int64))))))))))
set_option maxRecDepth 100000 in
set_option maxHeartbeats 4000000 in
theorem t_X3_combine (p1 : Int32) (w2 : Int64) (w3 : Int64) (s0 : am_S) {z : Int64} (E : f_X3_combine p1 w2 w3 = some z) : AS yX3_combine cX3_combine 5 (some .long) 2 [.int p1, .long w2, .long w3] s0 (some (.long z)) s0 := by
  unfold f_X3_combine at E
  refine as_met (lv := [(0, .int p1), (1, .long w2), (3, .long w3)]) (by decide +kernel) (by simp [lg_sl, Value.category]) rfl (fun x C A Z => ?_)
  refine am_iload_n 0 C dX3_combine_0 rfl 0 rfl ?_
  by_cases c4 : p1 = (nI 3)
  · have E := am_ifT E c4
    refine am_tabIn 1 44 C dX3_combine_1 (by rw [c4]; decide) (by rw [c4]; decide) (by rw [c4]; rfl) (by decide) ?_
    refine am_lload_n 44 C dX3_combine_44 rfl 1 rfl ?_
    refine am_lload_n 45 C dX3_combine_45 rfl 2 rfl ?_
    refine am_land 46 C dX3_combine_46 ?_
    replace E := Option.some.inj E
    subst E
    exact as_lret 47 C Z dX3_combine_47
  · have E := am_ifF E c4
    by_cases c5 : p1 = (nI 4)
    · have E := am_ifT E c5
      refine am_tabIn 1 48 C dX3_combine_1 (by rw [c5]; decide) (by rw [c5]; decide) (by rw [c5]; rfl) (by decide) ?_
      refine am_lload_n 48 C dX3_combine_48 rfl 1 rfl ?_
      refine am_lload_n 49 C dX3_combine_49 rfl 2 rfl ?_
      refine am_lor 50 C dX3_combine_50 ?_
      replace E := Option.some.inj E
      subst E
      exact as_lret 51 C Z dX3_combine_51
    · have E := am_ifF E c5
      by_cases c6 : p1 = (nI 5)
      · have E := am_ifT E c6
        refine am_tabIn 1 52 C dX3_combine_1 (by rw [c6]; decide) (by rw [c6]; decide) (by rw [c6]; rfl) (by decide) ?_
        refine am_lload_n 52 C dX3_combine_52 rfl 1 rfl ?_
        refine am_lload_n 53 C dX3_combine_53 rfl 2 rfl ?_
        refine am_ladd 54 C dX3_combine_54 ?_
        replace E := Option.some.inj E
        subst E
        exact as_lret 55 C Z dX3_combine_55
      · have E := am_ifF E c6
        by_cases c7 : p1 = (nI 6)
        · have E := am_ifT E c7
          refine am_tabIn 1 56 C dX3_combine_1 (by rw [c7]; decide) (by rw [c7]; decide) (by rw [c7]; rfl) (by decide) ?_
          refine am_lload_n 56 C dX3_combine_56 rfl 1 rfl ?_
          refine am_lload_n 57 C dX3_combine_57 rfl 2 rfl ?_
          refine am_lsub 58 C dX3_combine_58 ?_
          replace E := Option.some.inj E
          subst E
          exact as_lret 59 C Z dX3_combine_59
        · have E := am_ifF E c7
          by_cases c8 : p1 = (nI 7)
          · have E := am_ifT E c8
            refine am_tabIn 1 60 C dX3_combine_1 (by rw [c8]; decide) (by rw [c8]; decide) (by rw [c8]; rfl) (by decide) ?_
            refine am_lload_n 60 C dX3_combine_60 rfl 1 rfl ?_
            refine am_lload_n 61 C dX3_combine_61 rfl 2 rfl ?_
            refine am_lmul 62 C dX3_combine_62 ?_
            replace E := Option.some.inj E
            subst E
            exact as_lret 63 C Z dX3_combine_63
          · have E := am_ifF E c8
            by_cases c11 : p1 = (nI 8)
            · have E := am_ifT E c11
              refine am_tabIn 1 64 C dX3_combine_1 (by rw [c11]; decide) (by rw [c11]; decide) (by rw [c11]; rfl) (by decide) ?_
              refine am_lload_n 64 C dX3_combine_64 rfl 2 rfl ?_
              refine am_lconst 65 (0 : Int64) C dX3_combine_65 (by decide) ?_
              refine am_lcmp 66 C dX3_combine_66 ?_
              refine am_if_ne 67 74 C dX3_combine_67 (by decide) (fun c10 => ?_) (fun c10 => ?_)
              · have E := am_ifF E c10
                refine am_lload_n 74 C dX3_combine_74 rfl 1 rfl ?_
                refine am_lload_n 75 C dX3_combine_75 rfl 2 rfl ?_
                obtain ⟨g9, E⟩ := am_gdE E
                refine am_ldiv 76 C dX3_combine_76 g9 ?_
                replace E := Option.some.inj E
                subst E
                exact as_lret 77 C Z dX3_combine_77
              · have E := am_ifT E c10
                refine am_lconst 70 (0 : Int64) C dX3_combine_70 (by decide) ?_
                refine am_goto 71 77 C dX3_combine_71 (by decide) ?_
                replace E := Option.some.inj E
                subst E
                exact as_lret 77 C Z dX3_combine_77
            · have E := am_ifF E c11
              by_cases c14 : p1 = (nI 9)
              · have E := am_ifT E c14
                refine am_tabIn 1 78 C dX3_combine_1 (by rw [c14]; decide) (by rw [c14]; decide) (by rw [c14]; rfl) (by decide) ?_
                refine am_lload_n 78 C dX3_combine_78 rfl 2 rfl ?_
                refine am_lconst 79 (0 : Int64) C dX3_combine_79 (by decide) ?_
                refine am_lcmp 80 C dX3_combine_80 ?_
                refine am_if_ne 81 88 C dX3_combine_81 (by decide) (fun c13 => ?_) (fun c13 => ?_)
                · have E := am_ifF E c13
                  refine am_lload_n 88 C dX3_combine_88 rfl 1 rfl ?_
                  refine am_lload_n 89 C dX3_combine_89 rfl 2 rfl ?_
                  obtain ⟨g12, E⟩ := am_gdE E
                  refine am_lrem 90 C dX3_combine_90 g12 ?_
                  replace E := Option.some.inj E
                  subst E
                  exact as_lret 91 C Z dX3_combine_91
                · have E := am_ifT E c13
                  refine am_lconst 84 (0 : Int64) C dX3_combine_84 (by decide) ?_
                  refine am_goto 85 91 C dX3_combine_85 (by decide) ?_
                  replace E := Option.some.inj E
                  subst E
                  exact as_lret 91 C Z dX3_combine_91
              · have E := am_ifF E c14
                have ec4 := am_neI c4 3 (by decide)
                have ec5 := am_neI c5 4 (by decide)
                have ec6 := am_neI c6 5 (by decide)
                have ec7 := am_neI c7 6 (by decide)
                have ec8 := am_neI c8 7 (by decide)
                have ec11 := am_neI c11 8 (by decide)
                have ec14 := am_neI c14 9 (by decide)
                refine am_tabOut 1 92 C dX3_combine_1 (by omega) (by decide) ?_
                refine am_iload_n 92 C dX3_combine_92 rfl 0 rfl ?_
                refine am_lload_n 93 C dX3_combine_93 rfl 1 rfl ?_
                refine am_lload_n 94 C dX3_combine_94 rfl 2 rfl ?_
                obtain ⟨v15, Ec, E⟩ := am_bdE E
                refine as_callS 95 (s2 := s0) (st := []) (st2 := [.int v15]) [.int p1, .long w2, .long w3] C A (by decide) ml_X3_60 yc_X3_compare ys_X3_compare (t_X3_compare p1 w2 w3 s0 Ec) rfl rfl (Nat.le_of_ble_eq_true rfl) rfl dX3_combine_95 ?_
                refine am_if_eq 98 105 C dX3_combine_98 (by decide) (fun c16 => ?_) (fun c16 => ?_)
                · have E := am_ifT E c16
                  refine am_lconst 105 (0 : Int64) C dX3_combine_105 (by decide) ?_
                  replace E := Option.some.inj E
                  subst E
                  exact as_lret 106 C Z dX3_combine_106
                · have E := am_ifF E c16
                  refine am_lconst 101 (1 : Int64) C dX3_combine_101 (by decide) ?_
                  refine am_goto 102 106 C dX3_combine_102 (by decide) ?_
                  replace E := Option.some.inj E
                  subst E
                  exact as_lret 106 C Z dX3_combine_106
def j_X3_work_162 (v4 : Int32) (s5 : am_S) : Option (Int64 × am_S) :=
  am_if (v4 ≤ 0) (some ((0 : Int64), s5)) (some ((s5.2.1 143 0), s5))
def j_X3_work_32 (a1 : Nat) (v11 : Int32) (v12 : Int32) (v13 : Int32) (s14 : am_S) : Option ((Int32 × Int32 × am_S) ⊕ (Int64 × am_S)) :=
  am_if ((nI 64) ≤ v11) (am_lt (v12 + (1 : Int32)) (fun v15 => some (Sum.inl (v11, v15, s14)))) (am_if (v13 = 0) (am_gd (¬ v12 < 0 ∧ (v12).toNatClampNeg < 400) (am_gd (¬ v11 < 0 ∧ (v11).toNatClampNeg < 64) (am_lt (as_j s14 143 (v11).toNatClampNeg ((s14.1 (a1 + 2) (v12).toNatClampNeg)).toInt64) (fun s24 => am_lt (v11 + (1 : Int32)) (fun v25 => am_lt (v12 + (1 : Int32)) (fun v26 => some (Sum.inl (v25, v26, s24)))))))) (am_gd (¬ v12 < 0 ∧ (v12).toNatClampNeg < 400) (am_bd (f_X6_valueOf (s14.1 (a1 + 2) (v12).toNatClampNeg) s14) (fun w17 => am_gd (¬ v11 < 0 ∧ (v11).toNatClampNeg < 64) (am_lt (as_j s14 143 (v11).toNatClampNeg w17) (fun s19 => am_lt (v11 + (1 : Int32)) (fun v20 => am_lt (v12 + (1 : Int32)) (fun v21 => some (Sum.inl (v20, v21, s19))))))))))
def b_X3_work_6 (a1 : Nat) (p3 : Int32) (v8 : Int32) (v9 : Int32) (s10 : am_S) : Option ((Int32 × Int32 × am_S) ⊕ (Int64 × am_S)) :=
  am_if (p3 ≤ v9) (am_bd (j_X3_work_162 v8 s10) (fun e29 => some (Sum.inr e29))) (am_gd (¬ v9 < 0 ∧ (v9).toNatClampNeg < 400) (am_lt (s10.1 (a1 + 1) (v9).toNatClampNeg) (fun v31 => am_if (v31 = 0) (j_X3_work_32 a1 v8 v9 v31 s10) (am_if (v31 = (1 : Int32)) (j_X3_work_32 a1 v8 v9 v31 s10) (am_if (v31 = (nI 2)) (am_if (v8 < (1 : Int32)) (am_lt (v9 + (1 : Int32)) (fun v42 => some (Sum.inl (v8, v42, s10)))) (am_lt (v8 - (1 : Int32)) (fun v43 => am_gd (¬ v43 < 0 ∧ (v43).toNatClampNeg < 64) (am_gd (¬ (v8 - (1 : Int32)) < 0 ∧ ((v8 - (1 : Int32))).toNatClampNeg < 64) (am_lt (as_j s10 143 ((v8 - (1 : Int32))).toNatClampNeg ((1 : Int64) - (s10.2.1 143 (v43).toNatClampNeg))) (fun s46 => am_lt (v9 + (1 : Int32)) (fun v47 => some (Sum.inl (v8, v47, s46))))))))) (am_if (v8 < (nI 2)) (am_lt (v9 + (1 : Int32)) (fun v32 => some (Sum.inl (v8, v32, s10)))) (am_lt (v8 + (-1 : Int32)) (fun v33 => am_lt (v33 - (1 : Int32)) (fun v34 => am_gd (¬ v34 < 0 ∧ (v34).toNatClampNeg < 64) (am_gd (¬ v33 < 0 ∧ (v33).toNatClampNeg < 64) (am_bd (f_X3_combine v31 (s10.2.1 143 (v34).toNatClampNeg) (s10.2.1 143 (v33).toNatClampNeg)) (fun w37 => am_gd (¬ (v33 - (1 : Int32)) < 0 ∧ ((v33 - (1 : Int32))).toNatClampNeg < 64) (am_lt (as_j s10 143 ((v33 - (1 : Int32))).toNatClampNeg w37) (fun s39 => am_lt (v9 + (1 : Int32)) (fun v40 => some (Sum.inl (v33, v40, s39)))))))))))))))))
def f_X3_work (a1 : Nat) (p2 : Int32) (p3 : Int32) (s0 : am_S) : Option (Int64 × am_S) :=
  am_gd (a1 ∈ am_isR) (am_lp (fun (q : Int32 × Int32 × am_S) => b_X3_work_6 a1 p3 q.1 q.2.1 q.2.2) am_F ((0 : Int32), p2, s0))
set_option maxRecDepth 100000 in
set_option maxHeartbeats 4000000 in
theorem t_X3_work (a1 : Nat) (p2 : Int32) (p3 : Int32) (s0 : am_S) {z : Int64 × am_S} (E : f_X3_work a1 p2 p3 s0 = some z) : AS yX3_work cX3_work 7 (some .long) 3 [.ref a1, .int p2, .int p3, .ref 134] s0 (some (.long z.1)) z.2 := by
  unfold f_X3_work at E
  obtain ⟨ma1, E⟩ := am_gdE E
  refine as_met (lv := [(0, .ref a1), (1, .int p2), (2, .int p3), (3, .ref 134)]) (by decide +kernel) (by simp [lg_sl, Value.category]) rfl (fun x C A Z => ?_)
  have K162 : ∀ (v4 : Int32) (s5 : am_S), j_X3_work_162 v4 s5 = some z → AX x 0 0 162 [(0, .ref a1), (3, .ref 134), (4, .int v4)] [] am_N (am_h s5) := by
    intro v4 s5 E
    unfold j_X3_work_162 at E
    refine am_iload 162 C dX3_work_162 2 rfl ?_
    refine am_if_le 164 176 C dX3_work_164 (by decide) (fun c6 => ?_) (fun c6 => ?_)
    · have E := am_ifT E c6
      refine am_lconst 176 (0 : Int64) C dX3_work_176 (by decide) ?_
      replace E := Option.some.inj E
      subst E
      exact as_lret 177 C Z dX3_work_177
    · have E := am_ifF E c6
      refine am_aload_n 167 C dX3_work_167 rfl 0 rfl ?_
      refine as_getr 168 C fl_X3_31_2 dX3_work_168 (iR_l0 _ ma1) (iR_sh _ ma1) (iR_r0 _ _ _ ma1) ?_
      refine am_iconst 171 (0 : Int32) C dX3_work_171 (by decide) ?_
      refine as_laldK 172 0 C dX3_work_172 (by decide) sh_143 (by decide) (by decide) ?_
      refine am_goto 173 177 C dX3_work_173 (by decide) ?_
      replace E := Option.some.inj E
      subst E
      exact as_lret 177 C Z dX3_work_177
  refine am_iconst 0 (0 : Int32) C dX3_work_0 (by decide) ?_
  refine am_istore 1 (lv2 := [(4, .int (0 : Int32)), (0, .ref a1), (1, .int p2), (2, .int p3), (3, .ref 134)]) C dX3_work_1 (by decide) rfl ?_
  refine am_iload_n 3 C dX3_work_3 rfl 2 rfl ?_
  refine am_istore 4 (lv2 := [(5, .int p2), (4, .int (0 : Int32)), (0, .ref a1), (1, .int p2), (2, .int p3), (3, .ref 134)]) C dX3_work_4 (by decide) rfl ?_
  have LP7 : ∀ (n : Nat) (v8 : Int32) (v9 : Int32) (s10 : am_S), am_lp (fun (q : Int32 × Int32 × am_S) => b_X3_work_6 a1 p3 q.1 q.2.1 q.2.2) n (v8, v9, s10) = some z → AX x 0 0 6 [(0, .ref a1), (2, .int p3), (3, .ref 134), (4, .int v8), (5, .int v9)] [] am_N (am_h s10) := by
    intro n
    induction n with
    | zero => intro v8 v9 s10 E; exact (am_lp0 E).elim
    | succ n ih7 =>
      intro v8 v9 s10 E
      obtain ⟨r7, E, Er7⟩ := am_lpE E
      replace E : b_X3_work_6 a1 p3 v8 v9 s10 = some r7 := E
      unfold b_X3_work_6 at E
      have K32 : ∀ (v11 : Int32) (v12 : Int32) (v13 : Int32) (s14 : am_S), j_X3_work_32 a1 v11 v12 v13 s14 = some r7 → AX x 0 0 32 [(0, .ref a1), (2, .int p3), (3, .ref 134), (4, .int v11), (5, .int v12), (6, .int v13)] [] am_N (am_h s14) := by
        intro v11 v12 v13 s14 E
        unfold j_X3_work_32 at E
        refine am_iload 32 C dX3_work_32 3 rfl ?_
        refine am_aload_n 34 C dX3_work_34 rfl 0 rfl ?_
        refine as_getr 35 C fl_X3_31_2 dX3_work_35 (iR_l0 _ ma1) (iR_sh _ ma1) (iR_r0 _ _ _ ma1) ?_
        refine am_alen 38 (nI 64) C dX3_work_38 (by decide) sh_143 (by decide) (by decide) ?_
        refine am_icmp_ge 39 156 C dX3_work_39 (by decide) (fun c28 => ?_) (fun c28 => ?_)
        · have E := am_ifT E c28
          obtain ⟨v15, hv15, E⟩ := am_ltE E
          refine as_iinc 156 (q := (1 : Int32)) (lv2 := [(5, .int v15), (0, .ref a1), (2, .int p3), (3, .ref 134), (4, .int v11), (6, .int v13)]) C dX3_work_156 4 rfl (by decide) hv15 (by decide) rfl ?_
          refine am_goto 159 6 C dX3_work_159 (by decide) ?_
          replace E := Option.some.inj E
          replace E := am_exL E Er7
          refine am_lvs [1, 2, 3, 4, 0] rfl ?_
          exact ih7 _ _ _ E
        · have E := am_ifF E c28
          refine am_aload_n 42 C dX3_work_42 rfl 0 rfl ?_
          refine as_getr 43 C fl_X3_31_2 dX3_work_43 (iR_l0 _ ma1) (iR_sh _ ma1) (iR_r0 _ _ _ ma1) ?_
          refine am_iload 46 C dX3_work_46 3 rfl ?_
          refine am_iload 48 C dX3_work_48 5 rfl ?_
          refine am_if_ne 50 64 C dX3_work_50 (by decide) (fun c27 => ?_) (fun c27 => ?_)
          · have E := am_ifF E c27
            refine am_aload_n 64 C dX3_work_64 rfl 2 rfl ?_
            refine am_aload_n 65 C dX3_work_65 rfl 0 rfl ?_
            refine as_getr 66 C fl_X3_15_2 dX3_work_66 (iR_l0 _ ma1) (iR_sh _ ma1) (iR_r2 _ _ _ ma1) ?_
            refine am_iload 69 C dX3_work_69 4 rfl ?_
            obtain ⟨g16, E⟩ := am_gdE E
            refine as_iald 71 C dX3_work_71 (iR_l2 _ ma1) (iR_s2 _ ma1) g16 ?_
            obtain ⟨w17, Ec, E⟩ := am_bdE E
            refine as_callV 72 (s2 := s14) (st := [.int v11, .ref 143]) (st2 := [.long w17, .int v11, .ref 143]) [.int (s14.1 (a1 + 2) (v12).toNatClampNeg)] C A (by decide) ml_X3_50 yc_X6_valueOf yv_X6_valueOf (t_X6_valueOf (s14.1 (a1 + 2) (v12).toNatClampNeg) s14 Ec) (by decide) sh_134 rfl rfl (Nat.le_of_ble_eq_true rfl) rfl dX3_work_72 ?_
            obtain ⟨g18, E⟩ := am_gdE E
            obtain ⟨s19, hs19, E⟩ := am_ltE E
            refine as_last 75 C dX3_work_75 (by decide) sh_143 g18 hs19 ?_
            obtain ⟨v20, hv20, E⟩ := am_ltE E
            refine as_iinc 76 (q := (1 : Int32)) (lv2 := [(4, .int v20), (0, .ref a1), (2, .int p3), (3, .ref 134), (5, .int v12), (6, .int v13)]) C dX3_work_76 3 rfl (by decide) hv20 (by decide) rfl ?_
            refine am_goto 79 156 C dX3_work_79 (by decide) ?_
            obtain ⟨v21, hv21, E⟩ := am_ltE E
            refine as_iinc 156 (q := (1 : Int32)) (lv2 := [(5, .int v21), (4, .int v20), (0, .ref a1), (2, .int p3), (3, .ref 134), (6, .int v13)]) C dX3_work_156 4 rfl (by decide) hv21 (by decide) rfl ?_
            refine am_goto 159 6 C dX3_work_159 (by decide) ?_
            replace E := Option.some.inj E
            replace E := am_exL E Er7
            refine am_lvs [2, 3, 4, 1, 0] rfl ?_
            exact ih7 _ _ _ E
          · have E := am_ifT E c27
            refine am_aload_n 53 C dX3_work_53 rfl 0 rfl ?_
            refine as_getr 54 C fl_X3_15_2 dX3_work_54 (iR_l0 _ ma1) (iR_sh _ ma1) (iR_r2 _ _ _ ma1) ?_
            refine am_iload 57 C dX3_work_57 4 rfl ?_
            obtain ⟨g22, E⟩ := am_gdE E
            refine as_iald 59 C dX3_work_59 (iR_l2 _ ma1) (iR_s2 _ ma1) g22 ?_
            refine am_i2l 60 C dX3_work_60 ?_
            refine am_goto 61 75 C dX3_work_61 (by decide) ?_
            obtain ⟨g23, E⟩ := am_gdE E
            obtain ⟨s24, hs24, E⟩ := am_ltE E
            refine as_last 75 C dX3_work_75 (by decide) sh_143 g23 hs24 ?_
            obtain ⟨v25, hv25, E⟩ := am_ltE E
            refine as_iinc 76 (q := (1 : Int32)) (lv2 := [(4, .int v25), (0, .ref a1), (2, .int p3), (3, .ref 134), (5, .int v12), (6, .int v13)]) C dX3_work_76 3 rfl (by decide) hv25 (by decide) rfl ?_
            refine am_goto 79 156 C dX3_work_79 (by decide) ?_
            obtain ⟨v26, hv26, E⟩ := am_ltE E
            refine as_iinc 156 (q := (1 : Int32)) (lv2 := [(5, .int v26), (4, .int v25), (0, .ref a1), (2, .int p3), (3, .ref 134), (6, .int v13)]) C dX3_work_156 4 rfl (by decide) hv26 (by decide) rfl ?_
            refine am_goto 159 6 C dX3_work_159 (by decide) ?_
            replace E := Option.some.inj E
            replace E := am_exL E Er7
            refine am_lvs [2, 3, 4, 1, 0] rfl ?_
            exact ih7 _ _ _ E
      refine am_iload 6 C dX3_work_6 4 rfl ?_
      refine am_iload_n 8 C dX3_work_8 rfl 1 rfl ?_
      refine am_icmp_ge 9 162 C dX3_work_9 (by decide) (fun c52 => ?_) (fun c52 => ?_)
      · have E := am_ifT E c52
        obtain ⟨e29, E, E2⟩ := am_bdE E
        replace E2 := Option.some.inj E2
        replace E2 := am_exR E2 Er7
        rw [E2] at E
        refine am_lvs [0, 2, 3] rfl ?_
        exact K162 _ _ E
      · have E := am_ifF E c52
        refine am_aload_n 12 C dX3_work_12 rfl 0 rfl ?_
        refine as_getr 13 C fl_X3_9_2 dX3_work_13 (iR_l0 _ ma1) (iR_sh _ ma1) (iR_r1 _ _ _ ma1) ?_
        refine am_iload 16 C dX3_work_16 4 rfl ?_
        obtain ⟨g30, E⟩ := am_gdE E
        refine as_iald 18 C dX3_work_18 (iR_l1 _ ma1) (iR_s1 _ ma1) g30 ?_
        obtain ⟨v31, hv31, E⟩ := am_ltE E
        refine as_nm hv31 ?_
        refine am_istore 19 (lv2 := [(6, .int v31), (0, .ref a1), (2, .int p3), (3, .ref 134), (4, .int v8), (5, .int v9)]) C dX3_work_19 (by decide) rfl ?_
        refine am_iload 21 C dX3_work_21 0 rfl ?_
        refine am_if_eq 23 32 C dX3_work_23 (by decide) (fun c51 => ?_) (fun c51 => ?_)
        · have E := am_ifT E c51
          refine am_lvs [1, 2, 3, 4, 5, 0] rfl ?_
          exact K32 _ _ _ _ E
        · have E := am_ifF E c51
          refine am_iload 26 C dX3_work_26 0 rfl ?_
          refine am_iconst 28 (1 : Int32) C dX3_work_28 (by decide) ?_
          refine am_icmp_ne 29 82 C dX3_work_29 (by decide) (fun c50 => ?_) (fun c50 => ?_)
          · have E := am_ifF E c50
            refine am_iload 82 C dX3_work_82 0 rfl ?_
            refine am_iconst 84 (nI 2) C dX3_work_84 (by decide) ?_
            refine am_icmp_ne 85 117 C dX3_work_85 (by decide) (fun c49 => ?_) (fun c49 => ?_)
            · have E := am_ifF E c49
              refine am_iload 117 C dX3_work_117 4 rfl ?_
              refine am_iconst 119 (nI 2) C dX3_work_119 (by decide) ?_
              refine am_icmp_lt 120 156 C dX3_work_120 (by decide) (fun c41 => ?_) (fun c41 => ?_)
              · have E := am_ifT E c41
                obtain ⟨v32, hv32, E⟩ := am_ltE E
                refine as_iinc 156 (q := (1 : Int32)) (lv2 := [(5, .int v32), (6, .int v31), (0, .ref a1), (2, .int p3), (3, .ref 134), (4, .int v8)]) C dX3_work_156 5 rfl (by decide) hv32 (by decide) rfl ?_
                refine am_goto 159 6 C dX3_work_159 (by decide) ?_
                replace E := Option.some.inj E
                replace E := am_exL E Er7
                refine am_lvs [2, 3, 4, 5, 0] rfl ?_
                exact ih7 _ _ _ E
              · have E := am_ifF E c41
                obtain ⟨v33, hv33, E⟩ := am_ltE E
                refine as_iinc 123 (q := (-1 : Int32)) (lv2 := [(4, .int v33), (6, .int v31), (0, .ref a1), (2, .int p3), (3, .ref 134), (5, .int v9)]) C dX3_work_123 4 rfl (by decide) hv33 (by decide) rfl ?_
                refine am_aload_n 126 C dX3_work_126 rfl 2 rfl ?_
                refine as_getr 127 C fl_X3_31_2 dX3_work_127 (iR_l0 _ ma1) (iR_sh _ ma1) (iR_r0 _ _ _ ma1) ?_
                refine am_iload 130 C dX3_work_130 0 rfl ?_
                refine am_iconst 132 (1 : Int32) C dX3_work_132 (by decide) ?_
                refine am_isub 133 C dX3_work_133 ?_
                refine am_iload 134 C dX3_work_134 1 rfl ?_
                refine am_aload_n 136 C dX3_work_136 rfl 2 rfl ?_
                refine as_getr 137 C fl_X3_31_2 dX3_work_137 (iR_l0 _ ma1) (iR_sh _ ma1) (iR_r0 _ _ _ ma1) ?_
                refine am_iload 140 C dX3_work_140 0 rfl ?_
                refine am_iconst 142 (1 : Int32) C dX3_work_142 (by decide) ?_
                refine am_isub 143 C dX3_work_143 ?_
                obtain ⟨v34, hv34, E⟩ := am_ltE E
                refine as_nm hv34 ?_
                obtain ⟨g35, E⟩ := am_gdE E
                refine as_lald 144 C dX3_work_144 (by decide) sh_143 g35 ?_
                refine am_aload_n 145 C dX3_work_145 rfl 2 rfl ?_
                refine as_getr 146 C fl_X3_31_2 dX3_work_146 (iR_l0 _ ma1) (iR_sh _ ma1) (iR_r0 _ _ _ ma1) ?_
                refine am_iload 149 C dX3_work_149 0 rfl ?_
                obtain ⟨g36, E⟩ := am_gdE E
                refine as_lald 151 C dX3_work_151 (by decide) sh_143 g36 ?_
                obtain ⟨w37, Ec, E⟩ := am_bdE E
                refine as_callS 152 (s2 := s10) (st := [.int (v33 - (1 : Int32)), .ref 143]) (st2 := [.long w37, .int (v33 - (1 : Int32)), .ref 143]) [.int v31, .long (s10.2.1 143 (v34).toNatClampNeg), .long (s10.2.1 143 (v33).toNatClampNeg)] C A (by decide) ml_X3_56 yc_X3_combine ys_X3_combine (t_X3_combine v31 (s10.2.1 143 (v34).toNatClampNeg) (s10.2.1 143 (v33).toNatClampNeg) s10 Ec) rfl rfl (Nat.le_of_ble_eq_true rfl) rfl dX3_work_152 ?_
                obtain ⟨g38, E⟩ := am_gdE E
                obtain ⟨s39, hs39, E⟩ := am_ltE E
                refine as_last 155 C dX3_work_155 (by decide) sh_143 g38 hs39 ?_
                obtain ⟨v40, hv40, E⟩ := am_ltE E
                refine as_iinc 156 (q := (1 : Int32)) (lv2 := [(5, .int v40), (4, .int v33), (6, .int v31), (0, .ref a1), (2, .int p3), (3, .ref 134)]) C dX3_work_156 5 rfl (by decide) hv40 (by decide) rfl ?_
                refine am_goto 159 6 C dX3_work_159 (by decide) ?_
                replace E := Option.some.inj E
                replace E := am_exL E Er7
                refine am_lvs [3, 4, 5, 1, 0] rfl ?_
                exact ih7 _ _ _ E
            · have E := am_ifT E c49
              refine am_iload 88 C dX3_work_88 4 rfl ?_
              refine am_iconst 90 (1 : Int32) C dX3_work_90 (by decide) ?_
              refine am_icmp_lt 91 156 C dX3_work_91 (by decide) (fun c48 => ?_) (fun c48 => ?_)
              · have E := am_ifT E c48
                obtain ⟨v42, hv42, E⟩ := am_ltE E
                refine as_iinc 156 (q := (1 : Int32)) (lv2 := [(5, .int v42), (6, .int v31), (0, .ref a1), (2, .int p3), (3, .ref 134), (4, .int v8)]) C dX3_work_156 5 rfl (by decide) hv42 (by decide) rfl ?_
                refine am_goto 159 6 C dX3_work_159 (by decide) ?_
                replace E := Option.some.inj E
                replace E := am_exL E Er7
                refine am_lvs [2, 3, 4, 5, 0] rfl ?_
                exact ih7 _ _ _ E
              · have E := am_ifF E c48
                refine am_aload_n 94 C dX3_work_94 rfl 1 rfl ?_
                refine as_getr 95 C fl_X3_31_2 dX3_work_95 (iR_l0 _ ma1) (iR_sh _ ma1) (iR_r0 _ _ _ ma1) ?_
                refine am_iload 98 C dX3_work_98 4 rfl ?_
                refine am_iconst 100 (1 : Int32) C dX3_work_100 (by decide) ?_
                refine am_isub 101 C dX3_work_101 ?_
                refine am_lconst 102 (1 : Int64) C dX3_work_102 (by decide) ?_
                refine am_aload_n 103 C dX3_work_103 rfl 1 rfl ?_
                refine as_getr 104 C fl_X3_31_2 dX3_work_104 (iR_l0 _ ma1) (iR_sh _ ma1) (iR_r0 _ _ _ ma1) ?_
                refine am_iload 107 C dX3_work_107 4 rfl ?_
                refine am_iconst 109 (1 : Int32) C dX3_work_109 (by decide) ?_
                refine am_isub 110 C dX3_work_110 ?_
                obtain ⟨v43, hv43, E⟩ := am_ltE E
                refine as_nm hv43 ?_
                obtain ⟨g44, E⟩ := am_gdE E
                refine as_lald 111 C dX3_work_111 (by decide) sh_143 g44 ?_
                refine am_lsub 112 C dX3_work_112 ?_
                obtain ⟨g45, E⟩ := am_gdE E
                obtain ⟨s46, hs46, E⟩ := am_ltE E
                refine as_last 113 C dX3_work_113 (by decide) sh_143 g45 hs46 ?_
                refine am_goto 114 156 C dX3_work_114 (by decide) ?_
                obtain ⟨v47, hv47, E⟩ := am_ltE E
                refine as_iinc 156 (q := (1 : Int32)) (lv2 := [(5, .int v47), (6, .int v31), (0, .ref a1), (2, .int p3), (3, .ref 134), (4, .int v8)]) C dX3_work_156 5 rfl (by decide) hv47 (by decide) rfl ?_
                refine am_goto 159 6 C dX3_work_159 (by decide) ?_
                replace E := Option.some.inj E
                replace E := am_exL E Er7
                refine am_lvs [2, 3, 4, 5, 0] rfl ?_
                exact ih7 _ _ _ E
          · have E := am_ifT E c50
            refine am_lvs [1, 2, 3, 4, 5, 0] rfl ?_
            exact K32 _ _ _ _ E
  refine am_lvs [2, 4, 5, 1, 0] rfl ?_
  exact LP7 am_F _ _ _ E
def b_X3_findsLie_2 (a1 : Nat) (v3 : Int32) (s4 : am_S) : Option ((Int32 × am_S) ⊕ (Int32 × am_S)) :=
  am_if ((s4.1 a1 8) ≤ v3) (some (Sum.inr ((0 : Int32), s4))) (am_gd (¬ v3 < 0 ∧ (v3).toNatClampNeg < 12) (am_if ((s4.1 (a1 + 3) (v3).toNatClampNeg) = 0) (am_lt (v3 + (1 : Int32)) (fun v6 => some (Sum.inl (v6, s4)))) (am_gd (¬ v3 < 0 ∧ (v3).toNatClampNeg < 12) (am_gd (¬ v3 < 0 ∧ (v3).toNatClampNeg < 12) (am_b2 (f_X3_work a1 (s4.1 (a1 + 5) (v3).toNatClampNeg) (s4.1 (a1 + 6) (v3).toNatClampNeg) s4) (fun w9 s10 => am_if ((lg_cmp w9 (0 : Int64)) = 0) (am_lt (v3 + (1 : Int32)) (fun v11 => some (Sum.inl (v11, s10)))) (some (Sum.inr ((1 : Int32), s10)))))))))
def f_X3_findsLie (a1 : Nat) (s0 : am_S) : Option (Int32 × am_S) :=
  am_gd (a1 ∈ am_isR) (am_lp (fun (q : Int32 × am_S) => b_X3_findsLie_2 a1 q.1 q.2) am_F ((0 : Int32), s0))
set_option maxRecDepth 100000 in
set_option maxHeartbeats 4000000 in
theorem t_X3_findsLie (a1 : Nat) (s0 : am_S) {z : Int32 × am_S} (E : f_X3_findsLie a1 s0 = some z) : AS yX3_findsLie cX3_findsLie 3 (some .boolean) 4 [.ref a1, .ref 134] s0 (some (.int z.1)) z.2 := by
  unfold f_X3_findsLie at E
  obtain ⟨ma1, E⟩ := am_gdE E
  refine as_met (lv := [(0, .ref a1), (1, .ref 134)]) (by decide +kernel) (by simp [lg_sl, Value.category]) rfl (fun x C A Z => ?_)
  refine am_iconst 0 (0 : Int32) C dX3_findsLie_0 (by decide) ?_
  refine am_istore_n 1 (lv2 := [(2, .int (0 : Int32)), (0, .ref a1), (1, .ref 134)]) C dX3_findsLie_1 rfl (by decide) rfl ?_
  have LP2 : ∀ (n : Nat) (v3 : Int32) (s4 : am_S), am_lp (fun (q : Int32 × am_S) => b_X3_findsLie_2 a1 q.1 q.2) n (v3, s4) = some z → AX x 0 0 2 [(0, .ref a1), (1, .ref 134), (2, .int v3)] [] am_N (am_h s4) := by
    intro n
    induction n with
    | zero => intro v3 s4 E; exact (am_lp0 E).elim
    | succ n ih2 =>
      intro v3 s4 E
      obtain ⟨r2, E, Er2⟩ := am_lpE E
      replace E : b_X3_findsLie_2 a1 v3 s4 = some r2 := E
      unfold b_X3_findsLie_2 at E
      refine am_iload_n 2 C dX3_findsLie_2 rfl 2 rfl ?_
      refine am_aload_n 3 C dX3_findsLie_3 rfl 0 rfl ?_
      refine as_geti 4 C fl_X3_39_2 dX3_findsLie_4 (iR_l0 _ ma1) (iR_sh _ ma1) ?_
      refine am_icmp_ge 7 49 C dX3_findsLie_7 (by decide) (fun c14 => ?_) (fun c14 => ?_)
      · have E := am_ifT E c14
        refine am_iconst 49 (0 : Int32) C dX3_findsLie_49 (by decide) ?_
        replace E := Option.some.inj E
        replace E := am_exR E Er2
        subst E
        exact as_iret 50 C Z rfl dX3_findsLie_50
      · have E := am_ifF E c14
        refine am_aload_n 10 C dX3_findsLie_10 rfl 0 rfl ?_
        refine as_getr 11 C fl_X3_18_2 dX3_findsLie_11 (iR_l0 _ ma1) (iR_sh _ ma1) (iR_r4 _ _ _ ma1) ?_
        refine am_iload_n 14 C dX3_findsLie_14 rfl 2 rfl ?_
        obtain ⟨g5, E⟩ := am_gdE E
        refine as_zald 15 C dX3_findsLie_15 (iR_l3 _ ma1) (iR_s3 _ ma1) g5 ?_
        refine am_if_eq 16 43 C dX3_findsLie_16 (by decide) (fun c13 => ?_) (fun c13 => ?_)
        · have E := am_ifT E c13
          obtain ⟨v6, hv6, E⟩ := am_ltE E
          refine as_iinc 43 (q := (1 : Int32)) (lv2 := [(2, .int v6), (0, .ref a1), (1, .ref 134)]) C dX3_findsLie_43 2 rfl (by decide) hv6 (by decide) rfl ?_
          refine am_goto 46 2 C dX3_findsLie_46 (by decide) ?_
          replace E := Option.some.inj E
          replace E := am_exL E Er2
          refine am_lvs [1, 2, 0] rfl ?_
          exact ih2 _ _ E
        · have E := am_ifF E c13
          refine am_aload_n 19 C dX3_findsLie_19 rfl 0 rfl ?_
          refine am_aload_n 20 C dX3_findsLie_20 rfl 0 rfl ?_
          refine as_getr 21 C fl_X3_25_2 dX3_findsLie_21 (iR_l0 _ ma1) (iR_sh _ ma1) (iR_r6 _ _ _ ma1) ?_
          refine am_iload_n 24 C dX3_findsLie_24 rfl 2 rfl ?_
          obtain ⟨g7, E⟩ := am_gdE E
          refine as_iald 25 C dX3_findsLie_25 (iR_l5 _ ma1) (iR_s5 _ ma1) g7 ?_
          refine am_aload_n 26 C dX3_findsLie_26 rfl 0 rfl ?_
          refine as_getr 27 C fl_X3_28_2 dX3_findsLie_27 (iR_l0 _ ma1) (iR_sh _ ma1) (iR_r7 _ _ _ ma1) ?_
          refine am_iload_n 30 C dX3_findsLie_30 rfl 2 rfl ?_
          obtain ⟨g8, E⟩ := am_gdE E
          refine as_iald 31 C dX3_findsLie_31 (iR_l6 _ ma1) (iR_s6 _ ma1) g8 ?_
          refine am_aload_n 32 C dX3_findsLie_32 rfl 1 rfl ?_
          obtain ⟨w9, s10, Ec, E⟩ := am_b2E E
          refine as_callV 33 (s2 := s10) (st := []) (st2 := [.long w9]) [.int (s4.1 (a1 + 5) (v3).toNatClampNeg), .int (s4.1 (a1 + 6) (v3).toNatClampNeg), .ref 134] C A (by decide) ml_X3_46 yc_X3_work yv_X3_work (t_X3_work a1 (s4.1 (a1 + 5) (v3).toNatClampNeg) (s4.1 (a1 + 6) (v3).toNatClampNeg) s4 Ec) (iR_l0 _ ma1) (iR_sh _ ma1) rfl rfl (Nat.le_of_ble_eq_true rfl) rfl dX3_findsLie_33 ?_
          refine am_lconst 36 (0 : Int64) C dX3_findsLie_36 (by decide) ?_
          refine am_lcmp 37 C dX3_findsLie_37 ?_
          refine am_if_eq 38 43 C dX3_findsLie_38 (by decide) (fun c12 => ?_) (fun c12 => ?_)
          · have E := am_ifT E c12
            obtain ⟨v11, hv11, E⟩ := am_ltE E
            refine as_iinc 43 (q := (1 : Int32)) (lv2 := [(2, .int v11), (0, .ref a1), (1, .ref 134)]) C dX3_findsLie_43 2 rfl (by decide) hv11 (by decide) rfl ?_
            refine am_goto 46 2 C dX3_findsLie_46 (by decide) ?_
            replace E := Option.some.inj E
            replace E := am_exL E Er2
            refine am_lvs [1, 2, 0] rfl ?_
            exact ih2 _ _ E
          · have E := am_ifF E c12
            refine am_iconst 41 (1 : Int32) C dX3_findsLie_41 (by decide) ?_
            replace E := Option.some.inj E
            replace E := am_exR E Er2
            subst E
            exact as_iret 42 C Z rfl dX3_findsLie_42
  refine am_lvs [1, 2, 0] rfl ?_
  exact LP2 am_F _ _ E
def j_X3_scoreOf_66 (a1 : Nat) (v2 : Int32) (s3 : am_S) : Option (Int64 × am_S) :=
  am_gd (¬ v2 < 0 ∧ (v2).toNatClampNeg < 12) (am_gd (¬ v2 < 0 ∧ (v2).toNatClampNeg < 12) (am_b2 (f_X3_work a1 (s3.1 (a1 + 4) (v2).toNatClampNeg) (s3.1 (a1 + 5) (v2).toNatClampNeg) s3) (fun w6 s7 => some (w6, s7))))
def j_X3_scoreOf_30 (a1 : Nat) (v11 : Int32) (v12 : Int32) (s13 : am_S) : Option ((Int32 × am_S) ⊕ (Int64 × am_S)) :=
  am_gd (¬ v12 < 0 ∧ (v12).toNatClampNeg < 12) (am_if ((s13.1 (a1 + 3) (v12).toNatClampNeg) = 0) (am_if (v11 = 0) (am_gd (¬ v12 < 0 ∧ (v12).toNatClampNeg < 12) (am_gd (¬ v12 < 0 ∧ (v12).toNatClampNeg < 12) (am_b2 (f_X3_work a1 (s13.1 (a1 + 5) (v12).toNatClampNeg) (s13.1 (a1 + 6) (v12).toNatClampNeg) s13) (fun w19 s20 => am_if ((lg_cmp w19 (0 : Int64)) = 0) (am_lt (v12 + (1 : Int32)) (fun v21 => some (Sum.inl (v21, s20)))) (am_bd (j_X3_scoreOf_66 a1 v12 s20) (fun e22 => some (Sum.inr e22))))))) (am_bd (j_X3_scoreOf_66 a1 v12 s13) (fun e16 => some (Sum.inr e16)))) (am_lt (v12 + (1 : Int32)) (fun v15 => some (Sum.inl (v15, s13)))))
def b_X3_scoreOf_2 (a1 : Nat) (v9 : Int32) (s10 : am_S) : Option ((Int32 × am_S) ⊕ (Int64 × am_S)) :=
  am_if ((s10.1 a1 8) ≤ v9) (some (Sum.inr ((0 : Int64), s10))) (am_gd (¬ v9 < 0 ∧ (v9).toNatClampNeg < 12) (am_gd (¬ v9 < 0 ∧ (v9).toNatClampNeg < 12) (am_if ((s10.1 (a1 + 5) (v9).toNatClampNeg) = (s10.1 (a1 + 6) (v9).toNatClampNeg)) (j_X3_scoreOf_30 a1 (1 : Int32) v9 s10) (j_X3_scoreOf_30 a1 (0 : Int32) v9 s10))))
def f_X3_scoreOf (a1 : Nat) (s0 : am_S) : Option (Int64 × am_S) :=
  am_gd (a1 ∈ am_isR) (am_lp (fun (q : Int32 × am_S) => b_X3_scoreOf_2 a1 q.1 q.2) am_F ((0 : Int32), s0))
set_option maxRecDepth 100000 in
set_option maxHeartbeats 4000000 in
theorem t_X3_scoreOf (a1 : Nat) (s0 : am_S) {z : Int64 × am_S} (E : f_X3_scoreOf a1 s0 = some z) : AS yX3_scoreOf cX3_scoreOf 4 (some .long) 4 [.ref a1, .ref 134] s0 (some (.long z.1)) z.2 := by
  unfold f_X3_scoreOf at E
  obtain ⟨ma1, E⟩ := am_gdE E
  refine as_met (lv := [(0, .ref a1), (1, .ref 134)]) (by decide +kernel) (by simp [lg_sl, Value.category]) rfl (fun x C A Z => ?_)
  have K66 : ∀ (v2 : Int32) (s3 : am_S), j_X3_scoreOf_66 a1 v2 s3 = some z → AX x 0 0 66 [(0, .ref a1), (1, .ref 134), (2, .int v2)] [] am_N (am_h s3) := by
    intro v2 s3 E
    unfold j_X3_scoreOf_66 at E
    refine am_aload_n 66 C dX3_scoreOf_66 rfl 0 rfl ?_
    refine am_aload_n 67 C dX3_scoreOf_67 rfl 0 rfl ?_
    refine as_getr 68 C fl_X3_22_2 dX3_scoreOf_68 (iR_l0 _ ma1) (iR_sh _ ma1) (iR_r5 _ _ _ ma1) ?_
    refine am_iload_n 71 C dX3_scoreOf_71 rfl 2 rfl ?_
    obtain ⟨g4, E⟩ := am_gdE E
    refine as_iald 72 C dX3_scoreOf_72 (iR_l4 _ ma1) (iR_s4 _ ma1) g4 ?_
    refine am_aload_n 73 C dX3_scoreOf_73 rfl 0 rfl ?_
    refine as_getr 74 C fl_X3_25_2 dX3_scoreOf_74 (iR_l0 _ ma1) (iR_sh _ ma1) (iR_r6 _ _ _ ma1) ?_
    refine am_iload_n 77 C dX3_scoreOf_77 rfl 2 rfl ?_
    obtain ⟨g5, E⟩ := am_gdE E
    refine as_iald 78 C dX3_scoreOf_78 (iR_l5 _ ma1) (iR_s5 _ ma1) g5 ?_
    refine am_aload_n 79 C dX3_scoreOf_79 rfl 1 rfl ?_
    obtain ⟨w6, s7, Ec, E⟩ := am_b2E E
    refine as_callV 80 (s2 := s7) (st := []) (st2 := [.long w6]) [.int (s3.1 (a1 + 4) (v2).toNatClampNeg), .int (s3.1 (a1 + 5) (v2).toNatClampNeg), .ref 134] C A (by decide) ml_X3_46 yc_X3_work yv_X3_work (t_X3_work a1 (s3.1 (a1 + 4) (v2).toNatClampNeg) (s3.1 (a1 + 5) (v2).toNatClampNeg) s3 Ec) (iR_l0 _ ma1) (iR_sh _ ma1) rfl rfl (Nat.le_of_ble_eq_true rfl) rfl dX3_scoreOf_80 ?_
    replace E := Option.some.inj E
    subst E
    exact as_lret 83 C Z dX3_scoreOf_83
  refine am_iconst 0 (0 : Int32) C dX3_scoreOf_0 (by decide) ?_
  refine am_istore_n 1 (lv2 := [(2, .int (0 : Int32)), (0, .ref a1), (1, .ref 134)]) C dX3_scoreOf_1 rfl (by decide) rfl ?_
  have LP8 : ∀ (n : Nat) (v9 : Int32) (s10 : am_S), am_lp (fun (q : Int32 × am_S) => b_X3_scoreOf_2 a1 q.1 q.2) n (v9, s10) = some z → AX x 0 0 2 [(0, .ref a1), (1, .ref 134), (2, .int v9)] [] am_N (am_h s10) := by
    intro n
    induction n with
    | zero => intro v9 s10 E; exact (am_lp0 E).elim
    | succ n ih8 =>
      intro v9 s10 E
      obtain ⟨r8, E, Er8⟩ := am_lpE E
      replace E : b_X3_scoreOf_2 a1 v9 s10 = some r8 := E
      unfold b_X3_scoreOf_2 at E
      have K30 : ∀ (v11 : Int32) (v12 : Int32) (s13 : am_S), j_X3_scoreOf_30 a1 v11 v12 s13 = some r8 → AX x 0 0 30 [(0, .ref a1), (1, .ref 134), (2, .int v12)] [.int v11] am_N (am_h s13) := by
        intro v11 v12 s13 E
        unfold j_X3_scoreOf_30 at E
        refine am_istore_n 30 (lv2 := [(3, .int v11), (0, .ref a1), (1, .ref 134), (2, .int v12)]) C dX3_scoreOf_30 rfl (by decide) rfl ?_
        refine am_aload_n 31 C dX3_scoreOf_31 rfl 1 rfl ?_
        refine as_getr 32 C fl_X3_18_2 dX3_scoreOf_32 (iR_l0 _ ma1) (iR_sh _ ma1) (iR_r4 _ _ _ ma1) ?_
        refine am_iload_n 35 C dX3_scoreOf_35 rfl 3 rfl ?_
        obtain ⟨g14, E⟩ := am_gdE E
        refine as_zald 36 C dX3_scoreOf_36 (iR_l3 _ ma1) (iR_s3 _ ma1) g14 ?_
        refine am_if_ne 37 84 C dX3_scoreOf_37 (by decide) (fun c25 => ?_) (fun c25 => ?_)
        · have E := am_ifF E c25
          obtain ⟨v15, hv15, E⟩ := am_ltE E
          refine as_iinc 84 (q := (1 : Int32)) (lv2 := [(2, .int v15), (3, .int v11), (0, .ref a1), (1, .ref 134)]) C dX3_scoreOf_84 3 rfl (by decide) hv15 (by decide) rfl ?_
          refine am_goto 87 2 C dX3_scoreOf_87 (by decide) ?_
          replace E := Option.some.inj E
          replace E := am_exL E Er8
          refine am_lvs [2, 3, 0] rfl ?_
          exact ih8 _ _ E
        · have E := am_ifT E c25
          refine am_iload_n 40 C dX3_scoreOf_40 rfl 0 rfl ?_
          refine am_if_ne 41 66 C dX3_scoreOf_41 (by decide) (fun c24 => ?_) (fun c24 => ?_)
          · have E := am_ifF E c24
            obtain ⟨e16, E, E2⟩ := am_bdE E
            replace E2 := Option.some.inj E2
            replace E2 := am_exR E2 Er8
            rw [E2] at E
            refine am_lvs [1, 2, 3] rfl ?_
            exact K66 _ _ E
          · have E := am_ifT E c24
            refine am_aload_n 44 C dX3_scoreOf_44 rfl 1 rfl ?_
            refine am_aload_n 45 C dX3_scoreOf_45 rfl 1 rfl ?_
            refine as_getr 46 C fl_X3_25_2 dX3_scoreOf_46 (iR_l0 _ ma1) (iR_sh _ ma1) (iR_r6 _ _ _ ma1) ?_
            refine am_iload_n 49 C dX3_scoreOf_49 rfl 3 rfl ?_
            obtain ⟨g17, E⟩ := am_gdE E
            refine as_iald 50 C dX3_scoreOf_50 (iR_l5 _ ma1) (iR_s5 _ ma1) g17 ?_
            refine am_aload_n 51 C dX3_scoreOf_51 rfl 1 rfl ?_
            refine as_getr 52 C fl_X3_28_2 dX3_scoreOf_52 (iR_l0 _ ma1) (iR_sh _ ma1) (iR_r7 _ _ _ ma1) ?_
            refine am_iload_n 55 C dX3_scoreOf_55 rfl 3 rfl ?_
            obtain ⟨g18, E⟩ := am_gdE E
            refine as_iald 56 C dX3_scoreOf_56 (iR_l6 _ ma1) (iR_s6 _ ma1) g18 ?_
            refine am_aload_n 57 C dX3_scoreOf_57 rfl 2 rfl ?_
            obtain ⟨w19, s20, Ec, E⟩ := am_b2E E
            refine as_callV 58 (s2 := s20) (st := []) (st2 := [.long w19]) [.int (s13.1 (a1 + 5) (v12).toNatClampNeg), .int (s13.1 (a1 + 6) (v12).toNatClampNeg), .ref 134] C A (by decide) ml_X3_46 yc_X3_work yv_X3_work (t_X3_work a1 (s13.1 (a1 + 5) (v12).toNatClampNeg) (s13.1 (a1 + 6) (v12).toNatClampNeg) s13 Ec) (iR_l0 _ ma1) (iR_sh _ ma1) rfl rfl (Nat.le_of_ble_eq_true rfl) rfl dX3_scoreOf_58 ?_
            refine am_lconst 61 (0 : Int64) C dX3_scoreOf_61 (by decide) ?_
            refine am_lcmp 62 C dX3_scoreOf_62 ?_
            refine am_if_eq 63 84 C dX3_scoreOf_63 (by decide) (fun c23 => ?_) (fun c23 => ?_)
            · have E := am_ifT E c23
              obtain ⟨v21, hv21, E⟩ := am_ltE E
              refine as_iinc 84 (q := (1 : Int32)) (lv2 := [(2, .int v21), (3, .int v11), (0, .ref a1), (1, .ref 134)]) C dX3_scoreOf_84 3 rfl (by decide) hv21 (by decide) rfl ?_
              refine am_goto 87 2 C dX3_scoreOf_87 (by decide) ?_
              replace E := Option.some.inj E
              replace E := am_exL E Er8
              refine am_lvs [2, 3, 0] rfl ?_
              exact ih8 _ _ E
            · have E := am_ifF E c23
              obtain ⟨e22, E, E2⟩ := am_bdE E
              replace E2 := Option.some.inj E2
              replace E2 := am_exR E2 Er8
              rw [E2] at E
              refine am_lvs [1, 2, 3] rfl ?_
              exact K66 _ _ E
      refine am_iload_n 2 C dX3_scoreOf_2 rfl 2 rfl ?_
      refine am_aload_n 3 C dX3_scoreOf_3 rfl 0 rfl ?_
      refine as_geti 4 C fl_X3_39_2 dX3_scoreOf_4 (iR_l0 _ ma1) (iR_sh _ ma1) ?_
      refine am_icmp_ge 7 90 C dX3_scoreOf_7 (by decide) (fun c29 => ?_) (fun c29 => ?_)
      · have E := am_ifT E c29
        refine am_lconst 90 (0 : Int64) C dX3_scoreOf_90 (by decide) ?_
        replace E := Option.some.inj E
        replace E := am_exR E Er8
        subst E
        exact as_lret 91 C Z dX3_scoreOf_91
      · have E := am_ifF E c29
        refine am_aload_n 10 C dX3_scoreOf_10 rfl 0 rfl ?_
        refine as_getr 11 C fl_X3_25_2 dX3_scoreOf_11 (iR_l0 _ ma1) (iR_sh _ ma1) (iR_r6 _ _ _ ma1) ?_
        refine am_iload_n 14 C dX3_scoreOf_14 rfl 2 rfl ?_
        obtain ⟨g26, E⟩ := am_gdE E
        refine as_iald 15 C dX3_scoreOf_15 (iR_l5 _ ma1) (iR_s5 _ ma1) g26 ?_
        refine am_aload_n 16 C dX3_scoreOf_16 rfl 0 rfl ?_
        refine as_getr 17 C fl_X3_28_2 dX3_scoreOf_17 (iR_l0 _ ma1) (iR_sh _ ma1) (iR_r7 _ _ _ ma1) ?_
        refine am_iload_n 20 C dX3_scoreOf_20 rfl 2 rfl ?_
        obtain ⟨g27, E⟩ := am_gdE E
        refine as_iald 21 C dX3_scoreOf_21 (iR_l6 _ ma1) (iR_s6 _ ma1) g27 ?_
        refine am_icmp_ne 22 29 C dX3_scoreOf_22 (by decide) (fun c28 => ?_) (fun c28 => ?_)
        · have E := am_ifF E c28
          refine am_iconst 29 (0 : Int32) C dX3_scoreOf_29 (by decide) ?_
          refine am_lvs [0, 1, 2] rfl ?_
          exact K30 _ _ _ E
        · have E := am_ifT E c28
          refine am_iconst 25 (1 : Int32) C dX3_scoreOf_25 (by decide) ?_
          refine am_goto 26 30 C dX3_scoreOf_26 (by decide) ?_
          refine am_lvs [0, 1, 2] rfl ?_
          exact K30 _ _ _ E
  refine am_lvs [1, 2, 0] rfl ?_
  exact LP8 am_F _ _ E
def f_X4_begin (a1 : Nat) (s0 : am_S) : Option (am_S) :=
  am_gd (a1 ∈ am_isR) (am_lt (as_u s0 a1) (fun s2 => am_lt s2.2.2.2 (fun q3 => am_gd (q3 ∈ am_isR) (am_bd (f_X3_clear q3 s2) (fun s4 => am_lt (as_i s4 247 2 (0 : Int32)) (fun s5 => some s5))))))
set_option maxRecDepth 100000 in
set_option maxHeartbeats 4000000 in
theorem t_X4_begin (a1 : Nat) (s0 : am_S) {z : am_S} (E : f_X4_begin a1 s0 = some z) : AS yX4_begin cX4_begin 2 none 2 [.ref 247, .ref a1] s0 none z := by
  unfold f_X4_begin at E
  obtain ⟨ma1, E⟩ := am_gdE E
  refine as_met (lv := [(0, .ref 247), (1, .ref a1)]) (by decide +kernel) (by simp [lg_sl, Value.category]) rfl (fun x C A Z => ?_)
  refine am_aload_n 0 C dX4_begin_0 rfl 0 rfl ?_
  refine am_aload_n 1 C dX4_begin_1 rfl 1 rfl ?_
  obtain ⟨s2, hs2, E⟩ := am_ltE E
  refine as_putu 2 C fl_X4_9_3 dX4_begin_2 sh_247 hs2 ?_
  refine am_aload_n 5 C dX4_begin_5 rfl 0 rfl ?_
  refine as_getr 6 C fl_X4_9_3 dX4_begin_6 (by decide) sh_247 (rf_247_1 _ _) ?_
  obtain ⟨q3, hq3, E⟩ := am_ltE E
  refine as_nmr hq3 ?_
  obtain ⟨mq3, E⟩ := am_gdE E
  obtain ⟨s4, Ec, E⟩ := am_bdE E
  refine as_callV 9 (s2 := s4) (st := []) (st2 := []) [] C A (by decide) ml_X4_15 yc_X3_clear yv_X3_clear (t_X3_clear q3 s2 Ec) (iR_l0 _ mq3) (iR_sh _ mq3) rfl rfl (Nat.le_of_ble_eq_true rfl) rfl dX4_begin_9 ?_
  refine am_aload_n 12 C dX4_begin_12 rfl 0 rfl ?_
  refine am_iconst 13 (0 : Int32) C dX4_begin_13 (by decide) ?_
  obtain ⟨s5, hs5, E⟩ := am_ltE E
  refine as_puti 14 C fl_X4_21_3 dX4_begin_14 (by decide) sh_247 rfl rfl hs5 ?_
  replace E := Option.some.inj E
  subst E
  exact as_vret 17 C Z dX4_begin_17
def f_X4_isJoint (p1 : Int32) : Option (Int32) :=
  am_if (p1 = (nI 10)) (some (1 : Int32)) (am_if (p1 = (nI 11)) (some (1 : Int32)) (some (0 : Int32)))
set_option maxRecDepth 100000 in
set_option maxHeartbeats 4000000 in
theorem t_X4_isJoint (p1 : Int32) (s0 : am_S) {z : Int32} (E : f_X4_isJoint p1 = some z) : AS yX4_isJoint cX4_isJoint 1 (some .boolean) 1 [.int p1] s0 (some (.int z)) s0 := by
  unfold f_X4_isJoint at E
  refine as_met (lv := [(0, .int p1)]) (by decide +kernel) (by simp [lg_sl, Value.category]) rfl (fun x C A Z => ?_)
  refine am_iload_n 0 C dX4_isJoint_0 rfl 0 rfl ?_
  refine am_bipush 1 (nI 10) C dX4_isJoint_1 (by decide) ?_
  refine am_icmp_eq 3 12 C dX4_isJoint_3 (by decide) (fun c3 => ?_) (fun c3 => ?_)
  · have E := am_ifT E c3
    refine am_iconst 12 (1 : Int32) C dX4_isJoint_12 (by decide) ?_
    refine am_goto 13 17 C dX4_isJoint_13 (by decide) ?_
    replace E := Option.some.inj E
    subst E
    exact as_iret 17 C Z rfl dX4_isJoint_17
  · have E := am_ifF E c3
    refine am_iload_n 6 C dX4_isJoint_6 rfl 0 rfl ?_
    refine am_bipush 7 (nI 11) C dX4_isJoint_7 (by decide) ?_
    refine am_icmp_ne 9 16 C dX4_isJoint_9 (by decide) (fun c2 => ?_) (fun c2 => ?_)
    · have E := am_ifF E c2
      refine am_iconst 16 (0 : Int32) C dX4_isJoint_16 (by decide) ?_
      replace E := Option.some.inj E
      subst E
      exact as_iret 17 C Z rfl dX4_isJoint_17
    · have E := am_ifT E c2
      refine am_iconst 12 (1 : Int32) C dX4_isJoint_12 (by decide) ?_
      refine am_goto 13 17 C dX4_isJoint_13 (by decide) ?_
      replace E := Option.some.inj E
      subst E
      exact as_iret 17 C Z rfl dX4_isJoint_17
def f_X7_isByte (p1 : Int32) (s0 : am_S) : Option (Int32) :=
  am_lt (s0.1 2 4) (fun v2 => am_gd (¬ v2 < 0 ∧ (v2).toNatClampNeg < 401) (am_if ((s0.1 3 (v2).toNatClampNeg) = (nI 5)) (am_lt (s0.1 2 4) (fun v4 => am_gd (¬ v4 < 0 ∧ (v4).toNatClampNeg < 401) (am_if ((s0.1 4 (v4).toNatClampNeg) = p1) (some (1 : Int32)) (some (0 : Int32))))) (some (0 : Int32))))
set_option maxRecDepth 100000 in
set_option maxHeartbeats 4000000 in
theorem t_X7_isByte (p1 : Int32) (s0 : am_S) {z : Int32} (E : f_X7_isByte p1 s0 = some z) : AS yX7_isByte cX7_isByte 2 (some .boolean) 1 [.ref 2, .int p1] s0 (some (.int z)) s0 := by
  unfold f_X7_isByte at E
  refine as_met (lv := [(0, .ref 2), (1, .int p1)]) (by decide +kernel) (by simp [lg_sl, Value.category]) rfl (fun x C A Z => ?_)
  refine am_aload_n 0 C dX7_isByte_0 rfl 0 rfl ?_
  refine as_getr 1 C fl_X7_9_6 dX7_isByte_1 (by decide) sh_2 (rf_2_0 _ _) ?_
  refine am_aload_n 4 C dX7_isByte_4 rfl 0 rfl ?_
  refine as_geti 5 C fl_X7_25_6 dX7_isByte_5 (by decide) sh_2 ?_
  obtain ⟨v2, hv2, E⟩ := am_ltE E
  refine as_nm hv2 ?_
  obtain ⟨g3, E⟩ := am_gdE E
  refine as_iald 8 C dX7_isByte_8 (by decide) sh_3 g3 ?_
  refine am_iconst 9 (nI 5) C dX7_isByte_9 (by decide) ?_
  refine am_icmp_ne 10 30 C dX7_isByte_10 (by decide) (fun c7 => ?_) (fun c7 => ?_)
  · have E := am_ifF E c7
    refine am_iconst 30 (0 : Int32) C dX7_isByte_30 (by decide) ?_
    replace E := Option.some.inj E
    subst E
    exact as_iret 31 C Z rfl dX7_isByte_31
  · have E := am_ifT E c7
    refine am_aload_n 13 C dX7_isByte_13 rfl 0 rfl ?_
    refine as_getr 14 C fl_X7_15_6 dX7_isByte_14 (by decide) sh_2 (rf_2_1 _ _) ?_
    refine am_aload_n 17 C dX7_isByte_17 rfl 0 rfl ?_
    refine as_geti 18 C fl_X7_25_6 dX7_isByte_18 (by decide) sh_2 ?_
    obtain ⟨v4, hv4, E⟩ := am_ltE E
    refine as_nm hv4 ?_
    obtain ⟨g5, E⟩ := am_gdE E
    refine as_iald 21 C dX7_isByte_21 (by decide) sh_4 g5 ?_
    refine am_iload_n 22 C dX7_isByte_22 rfl 1 rfl ?_
    refine am_icmp_ne 23 30 C dX7_isByte_23 (by decide) (fun c6 => ?_) (fun c6 => ?_)
    · have E := am_ifF E c6
      refine am_iconst 30 (0 : Int32) C dX7_isByte_30 (by decide) ?_
      replace E := Option.some.inj E
      subst E
      exact as_iret 31 C Z rfl dX7_isByte_31
    · have E := am_ifT E c6
      refine am_iconst 26 (1 : Int32) C dX7_isByte_26 (by decide) ?_
      refine am_goto 27 31 C dX7_isByte_27 (by decide) ?_
      replace E := Option.some.inj E
      subst E
      exact as_iret 31 C Z rfl dX7_isByte_31
def f_X7_step  (s0 : am_S) : Option (am_S) :=
  am_if (((s0.1 2 3) - (1 : Int32)) ≤ (s0.1 2 4)) (some s0) (am_lt (as_i s0 2 4 ((s0.1 2 4) + (1 : Int32))) (fun s1 => some s1))
set_option maxRecDepth 100000 in
set_option maxHeartbeats 4000000 in
theorem t_X7_step (s0 : am_S) {z : am_S} (E : f_X7_step  s0 = some z) : AS yX7_step cX7_step 1 none 1 [.ref 2] s0 none z := by
  unfold f_X7_step at E
  refine as_met (lv := [(0, .ref 2)]) (by decide +kernel) (by simp [lg_sl, Value.category]) rfl (fun x C A Z => ?_)
  refine am_aload_n 0 C dX7_step_0 rfl 0 rfl ?_
  refine as_geti 1 C fl_X7_25_6 dX7_step_1 (by decide) sh_2 ?_
  refine am_aload_n 4 C dX7_step_4 rfl 0 rfl ?_
  refine as_geti 5 C fl_X7_21_6 dX7_step_5 (by decide) sh_2 ?_
  refine am_iconst 8 (1 : Int32) C dX7_step_8 (by decide) ?_
  refine am_isub 9 C dX7_step_9 ?_
  refine am_icmp_ge 10 23 C dX7_step_10 (by decide) (fun c2 => ?_) (fun c2 => ?_)
  · have E := am_ifT E c2
    replace E := Option.some.inj E
    subst E
    exact as_vret 23 C Z dX7_step_23
  · have E := am_ifF E c2
    refine am_aload_n 13 C dX7_step_13 rfl 0 rfl ?_
    refine am_dup 14 C dX7_step_14 rfl ?_
    refine as_geti 15 C fl_X7_25_6 dX7_step_15 (by decide) sh_2 ?_
    refine am_iconst 18 (1 : Int32) C dX7_step_18 (by decide) ?_
    refine am_iadd 19 C dX7_step_19 ?_
    obtain ⟨s1, hs1, E⟩ := am_ltE E
    refine as_puti 20 C fl_X7_25_6 dX7_step_20 (by decide) sh_2 rfl rfl hs1 ?_
    replace E := Option.some.inj E
    subst E
    exact as_vret 23 C Z dX7_step_23
def f_X7_fail (p1 : Int32) (s0 : am_S) : Option (am_S) :=
  am_if ((s0.1 2 5) = 0) (am_lt (s0.1 2 4) (fun v2 => am_gd (¬ v2 < 0 ∧ (v2).toNatClampNeg < 401) (am_lt (as_i s0 2 5 (((1 : Int32) + ((nI 8) * (s0.1 5 (v2).toNatClampNeg))) + p1)) (fun s4 => some s4)))) (some s0)
set_option maxRecDepth 100000 in
set_option maxHeartbeats 4000000 in
theorem t_X7_fail (p1 : Int32) (s0 : am_S) {z : am_S} (E : f_X7_fail p1 s0 = some z) : AS yX7_fail cX7_fail 2 none 1 [.ref 2, .int p1] s0 none z := by
  unfold f_X7_fail at E
  refine as_met (lv := [(0, .ref 2), (1, .int p1)]) (by decide +kernel) (by simp [lg_sl, Value.category]) rfl (fun x C A Z => ?_)
  refine am_aload_n 0 C dX7_fail_0 rfl 0 rfl ?_
  refine as_geti 1 C fl_X7_28_6 dX7_fail_1 (by decide) sh_2 ?_
  refine am_if_ne 4 27 C dX7_fail_4 (by decide) (fun c5 => ?_) (fun c5 => ?_)
  · have E := am_ifF E c5
    replace E := Option.some.inj E
    subst E
    exact as_vret 27 C Z dX7_fail_27
  · have E := am_ifT E c5
    refine am_aload_n 7 C dX7_fail_7 rfl 0 rfl ?_
    refine am_iconst 8 (1 : Int32) C dX7_fail_8 (by decide) ?_
    refine am_bipush 9 (nI 8) C dX7_fail_9 (by decide) ?_
    refine am_aload_n 11 C dX7_fail_11 rfl 0 rfl ?_
    refine as_getr 12 C fl_X7_18_6 dX7_fail_12 (by decide) sh_2 (rf_2_2 _ _) ?_
    refine am_aload_n 15 C dX7_fail_15 rfl 0 rfl ?_
    refine as_geti 16 C fl_X7_25_6 dX7_fail_16 (by decide) sh_2 ?_
    obtain ⟨v2, hv2, E⟩ := am_ltE E
    refine as_nm hv2 ?_
    obtain ⟨g3, E⟩ := am_gdE E
    refine as_iald 19 C dX7_fail_19 (by decide) sh_5 g3 ?_
    refine am_imul 20 C dX7_fail_20 ?_
    refine am_iadd 21 C dX7_fail_21 ?_
    refine am_iload_n 22 C dX7_fail_22 rfl 1 rfl ?_
    refine am_iadd 23 C dX7_fail_23 ?_
    obtain ⟨s4, hs4, E⟩ := am_ltE E
    refine as_puti 24 C fl_X7_28_6 dX7_fail_24 (by decide) sh_2 rfl rfl hs4 ?_
    replace E := Option.some.inj E
    subst E
    exact as_vret 27 C Z dX7_fail_27
def f_X4_readClosing  (s0 : am_S) : Option (am_S) :=
  am_bd (f_X7_isByte (nI 93) s0) (fun v1 => am_if (v1 = 0) (am_bd (f_X7_fail (0 : Int32) s0) (fun s2 => some s2)) (am_bd (f_X7_step s0) (fun s3 => some s3)))
set_option maxRecDepth 100000 in
set_option maxHeartbeats 4000000 in
theorem t_X4_readClosing (s0 : am_S) {z : am_S} (E : f_X4_readClosing  s0 = some z) : AS yX4_readClosing cX4_readClosing 1 none 2 [.ref 247] s0 none z := by
  unfold f_X4_readClosing at E
  refine as_met (lv := [(0, .ref 247)]) (by decide +kernel) (by simp [lg_sl, Value.category]) rfl (fun x C A Z => ?_)
  refine am_aload_n 0 C dX4_readClosing_0 rfl 0 rfl ?_
  refine as_getr 1 C fl_X4_25_3 dX4_readClosing_1 (by decide) sh_247 (rf_247_0 _ _) ?_
  refine am_bipush 4 (nI 93) C dX4_readClosing_4 (by decide) ?_
  obtain ⟨v1, Ec, E⟩ := am_bdE E
  refine as_callV 6 (s2 := s0) (st := []) (st2 := [.int v1]) [.int (nI 93)] C A (by decide) ml_X4_70 yc_X7_isByte yv_X7_isByte (t_X7_isByte (nI 93) s0 Ec) (by decide) sh_2 rfl rfl (Nat.le_of_ble_eq_true rfl) rfl dX4_readClosing_6 ?_
  refine am_if_eq 9 22 C dX4_readClosing_9 (by decide) (fun c4 => ?_) (fun c4 => ?_)
  · have E := am_ifT E c4
    refine am_aload_n 22 C dX4_readClosing_22 rfl 0 rfl ?_
    refine as_getr 23 C fl_X4_25_3 dX4_readClosing_23 (by decide) sh_247 (rf_247_0 _ _) ?_
    refine am_iconst 26 (0 : Int32) C dX4_readClosing_26 (by decide) ?_
    obtain ⟨s2, Ec, E⟩ := am_bdE E
    refine as_callV 27 (s2 := s2) (st := []) (st2 := []) [.int (0 : Int32)] C A (by decide) ml_X4_35 yc_X7_fail yv_X7_fail (t_X7_fail (0 : Int32) s0 Ec) (by decide) sh_2 rfl rfl (Nat.le_of_ble_eq_true rfl) rfl dX4_readClosing_27 ?_
    replace E := Option.some.inj E
    subst E
    exact as_vret 30 C Z dX4_readClosing_30
  · have E := am_ifF E c4
    refine am_aload_n 12 C dX4_readClosing_12 rfl 0 rfl ?_
    refine as_getr 13 C fl_X4_25_3 dX4_readClosing_13 (by decide) sh_247 (rf_247_0 _ _) ?_
    obtain ⟨s3, Ec, E⟩ := am_bdE E
    refine as_callV 16 (s2 := s3) (st := []) (st2 := []) [] C A (by decide) ml_X4_39 yc_X7_step yv_X7_step (t_X7_step  s0 Ec) (by decide) sh_2 rfl rfl (Nat.le_of_ble_eq_true rfl) rfl dX4_readClosing_16 ?_
    refine am_goto 19 30 C dX4_readClosing_19 (by decide) ?_
    replace E := Option.some.inj E
    subst E
    exact as_vret 30 C Z dX4_readClosing_30
def f_X7_valueHere  (s0 : am_S) : Option (Int32) :=
  am_lt (s0.1 2 4) (fun v1 => am_gd (¬ v1 < 0 ∧ (v1).toNatClampNeg < 401) (some (s0.1 4 (v1).toNatClampNeg)))
set_option maxRecDepth 100000 in
set_option maxHeartbeats 4000000 in
theorem t_X7_valueHere (s0 : am_S) {z : Int32} (E : f_X7_valueHere  s0 = some z) : AS yX7_valueHere cX7_valueHere 1 (some .int) 1 [.ref 2] s0 (some (.int z)) s0 := by
  unfold f_X7_valueHere at E
  refine as_met (lv := [(0, .ref 2)]) (by decide +kernel) (by simp [lg_sl, Value.category]) rfl (fun x C A Z => ?_)
  refine am_aload_n 0 C dX7_valueHere_0 rfl 0 rfl ?_
  refine as_getr 1 C fl_X7_15_6 dX7_valueHere_1 (by decide) sh_2 (rf_2_1 _ _) ?_
  refine am_aload_n 4 C dX7_valueHere_4 rfl 0 rfl ?_
  refine as_geti 5 C fl_X7_25_6 dX7_valueHere_5 (by decide) sh_2 ?_
  obtain ⟨v1, hv1, E⟩ := am_ltE E
  refine as_nm hv1 ?_
  obtain ⟨g2, E⟩ := am_gdE E
  refine as_iald 8 C dX7_valueHere_8 (by decide) sh_4 g2 ?_
  replace E := Option.some.inj E
  subst E
  exact as_iret 9 C Z rfl dX7_valueHere_9
def f_X7_kindHere  (s0 : am_S) : Option (Int32) :=
  am_lt (s0.1 2 4) (fun v1 => am_gd (¬ v1 < 0 ∧ (v1).toNatClampNeg < 401) (some (s0.1 3 (v1).toNatClampNeg)))
set_option maxRecDepth 100000 in
set_option maxHeartbeats 4000000 in
theorem t_X7_kindHere (s0 : am_S) {z : Int32} (E : f_X7_kindHere  s0 = some z) : AS yX7_kindHere cX7_kindHere 1 (some .int) 1 [.ref 2] s0 (some (.int z)) s0 := by
  unfold f_X7_kindHere at E
  refine as_met (lv := [(0, .ref 2)]) (by decide +kernel) (by simp [lg_sl, Value.category]) rfl (fun x C A Z => ?_)
  refine am_aload_n 0 C dX7_kindHere_0 rfl 0 rfl ?_
  refine as_getr 1 C fl_X7_9_6 dX7_kindHere_1 (by decide) sh_2 (rf_2_0 _ _) ?_
  refine am_aload_n 4 C dX7_kindHere_4 rfl 0 rfl ?_
  refine as_geti 5 C fl_X7_25_6 dX7_kindHere_5 (by decide) sh_2 ?_
  obtain ⟨v1, hv1, E⟩ := am_ltE E
  refine as_nm hv1 ?_
  obtain ⟨g2, E⟩ := am_gdE E
  refine as_iald 8 C dX7_kindHere_8 (by decide) sh_3 g2 ?_
  replace E := Option.some.inj E
  subst E
  exact as_iret 9 C Z rfl dX7_kindHere_9
def f_X7_fine  (s0 : am_S) : Option (Int32) :=
  am_if ((s0.1 2 5) = 0) (some (1 : Int32)) (some (0 : Int32))
set_option maxRecDepth 100000 in
set_option maxHeartbeats 4000000 in
theorem t_X7_fine (s0 : am_S) {z : Int32} (E : f_X7_fine  s0 = some z) : AS yX7_fine cX7_fine 1 (some .boolean) 1 [.ref 2] s0 (some (.int z)) s0 := by
  unfold f_X7_fine at E
  refine as_met (lv := [(0, .ref 2)]) (by decide +kernel) (by simp [lg_sl, Value.category]) rfl (fun x C A Z => ?_)
  refine am_aload_n 0 C dX7_fine_0 rfl 0 rfl ?_
  refine as_geti 1 C fl_X7_28_6 dX7_fine_1 (by decide) sh_2 ?_
  refine am_if_ne 4 11 C dX7_fine_4 (by decide) (fun c1 => ?_) (fun c1 => ?_)
  · have E := am_ifF E c1
    refine am_iconst 11 (0 : Int32) C dX7_fine_11 (by decide) ?_
    replace E := Option.some.inj E
    subst E
    exact as_iret 12 C Z rfl dX7_fine_12
  · have E := am_ifT E c1
    refine am_iconst 7 (1 : Int32) C dX7_fine_7 (by decide) ?_
    refine am_goto 8 12 C dX7_fine_8 (by decide) ?_
    replace E := Option.some.inj E
    subst E
    exact as_iret 12 C Z rfl dX7_fine_12
def j_X4_readSign_47 (v1 : Int32) (s2 : am_S) : Option (Int32 × am_S) :=
  am_bd (f_X7_fine s2) (fun v3 => am_if (v3 = 0) (some (v1, s2)) (am_lt (as_i s2 247 2 ((s2.1 247 2) + (1 : Int32))) (fun s4 => am_bd (f_X7_step s4) (fun s5 => some (v1, s5)))))
def f_X4_readSign  (s0 : am_S) : Option (Int32 × am_S) :=
  am_bd (f_X7_valueHere s0) (fun v7 => am_bd (f_X7_kindHere s0) (fun v8 => am_if (v8 = (nI 4)) (am_if ((s0.1 247 2) < (nI 60)) (j_X4_readSign_47 v7 s0) (am_bd (f_X7_fail (nI 3) s0) (fun s9 => j_X4_readSign_47 v7 s9))) (am_bd (f_X7_fail (0 : Int32) s0) (fun s11 => j_X4_readSign_47 v7 s11))))
set_option maxRecDepth 100000 in
set_option maxHeartbeats 4000000 in
theorem t_X4_readSign (s0 : am_S) {z : Int32 × am_S} (E : f_X4_readSign  s0 = some z) : AS yX4_readSign cX4_readSign 2 (some .int) 2 [.ref 247] s0 (some (.int z.1)) z.2 := by
  unfold f_X4_readSign at E
  refine as_met (lv := [(0, .ref 247)]) (by decide +kernel) (by simp [lg_sl, Value.category]) rfl (fun x C A Z => ?_)
  have K47 : ∀ (v1 : Int32) (s2 : am_S), j_X4_readSign_47 v1 s2 = some z → AX x 0 0 47 [(0, .ref 247), (1, .int v1)] [] am_N (am_h s2) := by
    intro v1 s2 E
    unfold j_X4_readSign_47 at E
    refine am_aload_n 47 C dX4_readSign_47 rfl 0 rfl ?_
    refine as_getr 48 C fl_X4_25_3 dX4_readSign_48 (by decide) sh_247 (rf_247_0 _ _) ?_
    obtain ⟨v3, Ec, E⟩ := am_bdE E
    refine as_callV 51 (s2 := s2) (st := []) (st2 := [.int v3]) [] C A (by decide) ml_X4_51 yc_X7_fine yv_X7_fine (t_X7_fine  s2 Ec) (by decide) sh_2 rfl rfl (Nat.le_of_ble_eq_true rfl) rfl dX4_readSign_51 ?_
    refine am_if_eq 54 74 C dX4_readSign_54 (by decide) (fun c6 => ?_) (fun c6 => ?_)
    · have E := am_ifT E c6
      refine am_iload_n 74 C dX4_readSign_74 rfl 1 rfl ?_
      replace E := Option.some.inj E
      subst E
      exact as_iret 75 C Z rfl dX4_readSign_75
    · have E := am_ifF E c6
      refine am_aload_n 57 C dX4_readSign_57 rfl 0 rfl ?_
      refine am_dup 58 C dX4_readSign_58 rfl ?_
      refine as_geti 59 C fl_X4_21_3 dX4_readSign_59 (by decide) sh_247 ?_
      refine am_iconst 62 (1 : Int32) C dX4_readSign_62 (by decide) ?_
      refine am_iadd 63 C dX4_readSign_63 ?_
      obtain ⟨s4, hs4, E⟩ := am_ltE E
      refine as_puti 64 C fl_X4_21_3 dX4_readSign_64 (by decide) sh_247 rfl rfl hs4 ?_
      refine am_aload_n 67 C dX4_readSign_67 rfl 0 rfl ?_
      refine as_getr 68 C fl_X4_25_3 dX4_readSign_68 (by decide) sh_247 (rf_247_0 _ _) ?_
      obtain ⟨s5, Ec, E⟩ := am_bdE E
      refine as_callV 71 (s2 := s5) (st := []) (st2 := []) [] C A (by decide) ml_X4_39 yc_X7_step yv_X7_step (t_X7_step  s4 Ec) (by decide) sh_2 rfl rfl (Nat.le_of_ble_eq_true rfl) rfl dX4_readSign_71 ?_
      refine am_iload_n 74 C dX4_readSign_74 rfl 1 rfl ?_
      replace E := Option.some.inj E
      subst E
      exact as_iret 75 C Z rfl dX4_readSign_75
  refine am_aload_n 0 C dX4_readSign_0 rfl 0 rfl ?_
  refine as_getr 1 C fl_X4_25_3 dX4_readSign_1 (by decide) sh_247 (rf_247_0 _ _) ?_
  obtain ⟨v7, Ec, E⟩ := am_bdE E
  refine as_callV 4 (s2 := s0) (st := []) (st2 := [.int v7]) [] C A (by decide) ml_X4_79 yc_X7_valueHere yv_X7_valueHere (t_X7_valueHere  s0 Ec) (by decide) sh_2 rfl rfl (Nat.le_of_ble_eq_true rfl) rfl dX4_readSign_4 ?_
  refine am_istore_n 7 (lv2 := [(1, .int v7), (0, .ref 247)]) C dX4_readSign_7 rfl (by decide) rfl ?_
  refine am_aload_n 8 C dX4_readSign_8 rfl 1 rfl ?_
  refine as_getr 9 C fl_X4_25_3 dX4_readSign_9 (by decide) sh_247 (rf_247_0 _ _) ?_
  obtain ⟨v8, Ec, E⟩ := am_bdE E
  refine as_callV 12 (s2 := s0) (st := []) (st2 := [.int v8]) [] C A (by decide) ml_X4_82 yc_X7_kindHere yv_X7_kindHere (t_X7_kindHere  s0 Ec) (by decide) sh_2 rfl rfl (Nat.le_of_ble_eq_true rfl) rfl dX4_readSign_12 ?_
  refine am_iconst 15 (nI 4) C dX4_readSign_15 (by decide) ?_
  refine am_icmp_eq 16 30 C dX4_readSign_16 (by decide) (fun c12 => ?_) (fun c12 => ?_)
  · have E := am_ifT E c12
    refine am_aload_n 30 C dX4_readSign_30 rfl 1 rfl ?_
    refine as_geti 31 C fl_X4_21_3 dX4_readSign_31 (by decide) sh_247 ?_
    refine am_bipush 34 (nI 60) C dX4_readSign_34 (by decide) ?_
    refine am_icmp_lt 36 47 C dX4_readSign_36 (by decide) (fun c10 => ?_) (fun c10 => ?_)
    · have E := am_ifT E c10
      refine am_lvs [1, 0] rfl ?_
      exact K47 _ _ E
    · have E := am_ifF E c10
      refine am_aload_n 39 C dX4_readSign_39 rfl 1 rfl ?_
      refine as_getr 40 C fl_X4_25_3 dX4_readSign_40 (by decide) sh_247 (rf_247_0 _ _) ?_
      refine am_iconst 43 (nI 3) C dX4_readSign_43 (by decide) ?_
      obtain ⟨s9, Ec, E⟩ := am_bdE E
      refine as_callV 44 (s2 := s9) (st := []) (st2 := []) [.int (nI 3)] C A (by decide) ml_X4_35 yc_X7_fail yv_X7_fail (t_X7_fail (nI 3) s0 Ec) (by decide) sh_2 rfl rfl (Nat.le_of_ble_eq_true rfl) rfl dX4_readSign_44 ?_
      refine am_lvs [1, 0] rfl ?_
      exact K47 _ _ E
  · have E := am_ifF E c12
    refine am_aload_n 19 C dX4_readSign_19 rfl 1 rfl ?_
    refine as_getr 20 C fl_X4_25_3 dX4_readSign_20 (by decide) sh_247 (rf_247_0 _ _) ?_
    refine am_iconst 23 (0 : Int32) C dX4_readSign_23 (by decide) ?_
    obtain ⟨s11, Ec, E⟩ := am_bdE E
    refine as_callV 24 (s2 := s11) (st := []) (st2 := []) [.int (0 : Int32)] C A (by decide) ml_X4_35 yc_X7_fail yv_X7_fail (t_X7_fail (0 : Int32) s0 Ec) (by decide) sh_2 rfl rfl (Nat.le_of_ble_eq_true rfl) rfl dX4_readSign_24 ?_
    refine am_goto 27 47 C dX4_readSign_27 (by decide) ?_
    refine am_lvs [1, 0] rfl ?_
    exact K47 _ _ E
def f_X7_wordHere  (s0 : am_S) : Option (Int32) :=
  am_lt (s0.1 2 4) (fun v1 => am_gd (¬ v1 < 0 ∧ (v1).toNatClampNeg < 401) (am_if ((s0.1 3 (v1).toNatClampNeg) = (1 : Int32)) (am_lt (s0.1 2 4) (fun v3 => am_gd (¬ v3 < 0 ∧ (v3).toNatClampNeg < 401) (some (s0.1 4 (v3).toNatClampNeg)))) (some (-1 : Int32))))
set_option maxRecDepth 100000 in
set_option maxHeartbeats 4000000 in
theorem t_X7_wordHere (s0 : am_S) {z : Int32} (E : f_X7_wordHere  s0 = some z) : AS yX7_wordHere cX7_wordHere 1 (some .int) 1 [.ref 2] s0 (some (.int z)) s0 := by
  unfold f_X7_wordHere at E
  refine as_met (lv := [(0, .ref 2)]) (by decide +kernel) (by simp [lg_sl, Value.category]) rfl (fun x C A Z => ?_)
  refine am_aload_n 0 C dX7_wordHere_0 rfl 0 rfl ?_
  refine as_getr 1 C fl_X7_9_6 dX7_wordHere_1 (by decide) sh_2 (rf_2_0 _ _) ?_
  refine am_aload_n 4 C dX7_wordHere_4 rfl 0 rfl ?_
  refine as_geti 5 C fl_X7_25_6 dX7_wordHere_5 (by decide) sh_2 ?_
  obtain ⟨v1, hv1, E⟩ := am_ltE E
  refine as_nm hv1 ?_
  obtain ⟨g2, E⟩ := am_gdE E
  refine as_iald 8 C dX7_wordHere_8 (by decide) sh_3 g2 ?_
  refine am_iconst 9 (1 : Int32) C dX7_wordHere_9 (by decide) ?_
  refine am_icmp_ne 10 25 C dX7_wordHere_10 (by decide) (fun c5 => ?_) (fun c5 => ?_)
  · have E := am_ifF E c5
    refine am_iconst 25 (-1 : Int32) C dX7_wordHere_25 (by decide) ?_
    replace E := Option.some.inj E
    subst E
    exact as_iret 26 C Z rfl dX7_wordHere_26
  · have E := am_ifT E c5
    refine am_aload_n 13 C dX7_wordHere_13 rfl 0 rfl ?_
    refine as_getr 14 C fl_X7_15_6 dX7_wordHere_14 (by decide) sh_2 (rf_2_1 _ _) ?_
    refine am_aload_n 17 C dX7_wordHere_17 rfl 0 rfl ?_
    refine as_geti 18 C fl_X7_25_6 dX7_wordHere_18 (by decide) sh_2 ?_
    obtain ⟨v3, hv3, E⟩ := am_ltE E
    refine as_nm hv3 ?_
    obtain ⟨g4, E⟩ := am_gdE E
    refine as_iald 21 C dX7_wordHere_21 (by decide) sh_4 g4 ?_
    refine am_goto 22 26 C dX7_wordHere_22 (by decide) ?_
    replace E := Option.some.inj E
    subst E
    exact as_iret 26 C Z rfl dX7_wordHere_26
def f_X4_isValueWord (p1 : Int32) : Option (Int32) :=
  am_if (p1 = (nI 2)) (some (1 : Int32)) (am_if (p1 = (nI 5)) (some (1 : Int32)) (am_if (p1 = (nI 6)) (some (1 : Int32)) (am_if (p1 < (nI 13)) (some (0 : Int32)) (some (1 : Int32)))))
set_option maxRecDepth 100000 in
set_option maxHeartbeats 4000000 in
theorem t_X4_isValueWord (p1 : Int32) (s0 : am_S) {z : Int32} (E : f_X4_isValueWord p1 = some z) : AS yX4_isValueWord cX4_isValueWord 1 (some .boolean) 1 [.int p1] s0 (some (.int z)) s0 := by
  unfold f_X4_isValueWord at E
  refine as_met (lv := [(0, .int p1)]) (by decide +kernel) (by simp [lg_sl, Value.category]) rfl (fun x C A Z => ?_)
  refine am_iload_n 0 C dX4_isValueWord_0 rfl 0 rfl ?_
  refine am_iconst 1 (nI 2) C dX4_isValueWord_1 (by decide) ?_
  refine am_icmp_eq 2 22 C dX4_isValueWord_2 (by decide) (fun c5 => ?_) (fun c5 => ?_)
  · have E := am_ifT E c5
    refine am_iconst 22 (1 : Int32) C dX4_isValueWord_22 (by decide) ?_
    refine am_goto 23 27 C dX4_isValueWord_23 (by decide) ?_
    replace E := Option.some.inj E
    subst E
    exact as_iret 27 C Z rfl dX4_isValueWord_27
  · have E := am_ifF E c5
    refine am_iload_n 5 C dX4_isValueWord_5 rfl 0 rfl ?_
    refine am_iconst 6 (nI 5) C dX4_isValueWord_6 (by decide) ?_
    refine am_icmp_eq 7 22 C dX4_isValueWord_7 (by decide) (fun c4 => ?_) (fun c4 => ?_)
    · have E := am_ifT E c4
      refine am_iconst 22 (1 : Int32) C dX4_isValueWord_22 (by decide) ?_
      refine am_goto 23 27 C dX4_isValueWord_23 (by decide) ?_
      replace E := Option.some.inj E
      subst E
      exact as_iret 27 C Z rfl dX4_isValueWord_27
    · have E := am_ifF E c4
      refine am_iload_n 10 C dX4_isValueWord_10 rfl 0 rfl ?_
      refine am_bipush 11 (nI 6) C dX4_isValueWord_11 (by decide) ?_
      refine am_icmp_eq 13 22 C dX4_isValueWord_13 (by decide) (fun c3 => ?_) (fun c3 => ?_)
      · have E := am_ifT E c3
        refine am_iconst 22 (1 : Int32) C dX4_isValueWord_22 (by decide) ?_
        refine am_goto 23 27 C dX4_isValueWord_23 (by decide) ?_
        replace E := Option.some.inj E
        subst E
        exact as_iret 27 C Z rfl dX4_isValueWord_27
      · have E := am_ifF E c3
        refine am_iload_n 16 C dX4_isValueWord_16 rfl 0 rfl ?_
        refine am_bipush 17 (nI 13) C dX4_isValueWord_17 (by decide) ?_
        refine am_icmp_lt 19 26 C dX4_isValueWord_19 (by decide) (fun c2 => ?_) (fun c2 => ?_)
        · have E := am_ifT E c2
          refine am_iconst 26 (0 : Int32) C dX4_isValueWord_26 (by decide) ?_
          replace E := Option.some.inj E
          subst E
          exact as_iret 27 C Z rfl dX4_isValueWord_27
        · have E := am_ifF E c2
          refine am_iconst 22 (1 : Int32) C dX4_isValueWord_22 (by decide) ?_
          refine am_goto 23 27 C dX4_isValueWord_23 (by decide) ?_
          replace E := Option.some.inj E
          subst E
          exact as_iret 27 C Z rfl dX4_isValueWord_27
def j_X4_readValue_84 (v1 : Int32) (s2 : am_S) : Option (am_S) :=
  am_bd (f_X7_fine s2) (fun v3 => am_if (v3 = 0) (some s2) (am_lt (as_i s2 247 2 ((s2.1 247 2) + (1 : Int32))) (fun s4 => am_lt s4.2.2.2 (fun q5 => am_gd (q5 ∈ am_isR) (am_if (v1 = 0) (am_bd (f_X7_valueHere s4) (fun v6 => am_bd (f_X3_addStep q5 (1 : Int32) v6 s4) (fun s7 => am_bd (f_X7_step s7) (fun s8 => some s8)))) (am_bd (f_X7_valueHere s4) (fun v9 => am_bd (f_X3_addStep q5 (0 : Int32) v9 s4) (fun s10 => am_bd (f_X7_step s10) (fun s11 => some s11)))))))))
def j_X4_readValue_67 (v14 : Int32) (s15 : am_S) : Option (am_S) :=
  am_if ((s15.1 247 2) < (nI 60)) (j_X4_readValue_84 v14 s15) (am_bd (f_X7_fail (nI 3) s15) (fun s16 => j_X4_readValue_84 v14 s16))
def j_X4_readValue_16 (v18 : Int32) (s19 : am_S) : Option (am_S) :=
  am_bd (f_X7_kindHere s19) (fun v20 => am_if (v20 = (nI 3)) (am_bd (f_X7_fail (1 : Int32) s19) (fun s26 => j_X4_readValue_84 v18 s26)) (am_if (v18 = 0) (am_bd (f_X7_wordHere s19) (fun v21 => am_bd (f_X4_isValueWord v21) (fun v22 => am_if (v22 = 0) (am_bd (f_X7_fail (0 : Int32) s19) (fun s23 => j_X4_readValue_84 v18 s23)) (j_X4_readValue_67 v18 s19)))) (j_X4_readValue_67 v18 s19)))
def f_X4_readValue  (s0 : am_S) : Option (am_S) :=
  am_bd (f_X7_kindHere s0) (fun v28 => am_if (v28 = (nI 2)) (j_X4_readValue_16 (1 : Int32) s0) (j_X4_readValue_16 (0 : Int32) s0))
set_option maxRecDepth 100000 in
set_option maxHeartbeats 4000000 in
theorem t_X4_readValue (s0 : am_S) {z : am_S} (E : f_X4_readValue  s0 = some z) : AS yX4_readValue cX4_readValue 2 none 2 [.ref 247] s0 none z := by
  unfold f_X4_readValue at E
  refine as_met (lv := [(0, .ref 247)]) (by decide +kernel) (by simp [lg_sl, Value.category]) rfl (fun x C A Z => ?_)
  have K84 : ∀ (v1 : Int32) (s2 : am_S), j_X4_readValue_84 v1 s2 = some z → AX x 0 0 84 [(0, .ref 247), (1, .int v1)] [] am_N (am_h s2) := by
    intro v1 s2 E
    unfold j_X4_readValue_84 at E
    refine am_aload_n 84 C dX4_readValue_84 rfl 0 rfl ?_
    refine as_getr 85 C fl_X4_25_3 dX4_readValue_85 (by decide) sh_247 (rf_247_0 _ _) ?_
    obtain ⟨v3, Ec, E⟩ := am_bdE E
    refine as_callV 88 (s2 := s2) (st := []) (st2 := [.int v3]) [] C A (by decide) ml_X4_51 yc_X7_fine yv_X7_fine (t_X7_fine  s2 Ec) (by decide) sh_2 rfl rfl (Nat.le_of_ble_eq_true rfl) rfl dX4_readValue_88 ?_
    refine am_if_eq 91 134 C dX4_readValue_91 (by decide) (fun c13 => ?_) (fun c13 => ?_)
    · have E := am_ifT E c13
      replace E := Option.some.inj E
      subst E
      exact as_vret 134 C Z dX4_readValue_134
    · have E := am_ifF E c13
      refine am_aload_n 94 C dX4_readValue_94 rfl 0 rfl ?_
      refine am_dup 95 C dX4_readValue_95 rfl ?_
      refine as_geti 96 C fl_X4_21_3 dX4_readValue_96 (by decide) sh_247 ?_
      refine am_iconst 99 (1 : Int32) C dX4_readValue_99 (by decide) ?_
      refine am_iadd 100 C dX4_readValue_100 ?_
      obtain ⟨s4, hs4, E⟩ := am_ltE E
      refine as_puti 101 C fl_X4_21_3 dX4_readValue_101 (by decide) sh_247 rfl rfl hs4 ?_
      refine am_aload_n 104 C dX4_readValue_104 rfl 0 rfl ?_
      refine as_getr 105 C fl_X4_9_3 dX4_readValue_105 (by decide) sh_247 (rf_247_1 _ _) ?_
      obtain ⟨q5, hq5, E⟩ := am_ltE E
      refine as_nmr hq5 ?_
      obtain ⟨mq5, E⟩ := am_gdE E
      refine am_iload_n 108 C dX4_readValue_108 rfl 1 rfl ?_
      refine am_if_eq 109 116 C dX4_readValue_109 (by decide) (fun c12 => ?_) (fun c12 => ?_)
      · have E := am_ifT E c12
        refine am_iconst 116 (1 : Int32) C dX4_readValue_116 (by decide) ?_
        refine am_aload_n 117 C dX4_readValue_117 rfl 0 rfl ?_
        refine as_getr 118 C fl_X4_25_3 dX4_readValue_118 (by decide) sh_247 (rf_247_0 _ _) ?_
        obtain ⟨v6, Ec, E⟩ := am_bdE E
        refine as_callV 121 (s2 := s4) (st := [.int (1 : Int32), .ref q5]) (st2 := [.int v6, .int (1 : Int32), .ref q5]) [] C A (by decide) ml_X4_79 yc_X7_valueHere yv_X7_valueHere (t_X7_valueHere  s4 Ec) (by decide) sh_2 rfl rfl (Nat.le_of_ble_eq_true rfl) rfl dX4_readValue_121 ?_
        obtain ⟨s7, Ec, E⟩ := am_bdE E
        refine as_callV 124 (s2 := s7) (st := []) (st2 := []) [.int (1 : Int32), .int v6] C A (by decide) ml_X4_66 yc_X3_addStep yv_X3_addStep (t_X3_addStep q5 (1 : Int32) v6 s4 Ec) (iR_l0 _ mq5) (iR_sh _ mq5) rfl rfl (Nat.le_of_ble_eq_true rfl) rfl dX4_readValue_124 ?_
        refine am_aload_n 127 C dX4_readValue_127 rfl 0 rfl ?_
        refine as_getr 128 C fl_X4_25_3 dX4_readValue_128 (by decide) sh_247 (rf_247_0 _ _) ?_
        obtain ⟨s8, Ec, E⟩ := am_bdE E
        refine as_callV 131 (s2 := s8) (st := []) (st2 := []) [] C A (by decide) ml_X4_39 yc_X7_step yv_X7_step (t_X7_step  s7 Ec) (by decide) sh_2 rfl rfl (Nat.le_of_ble_eq_true rfl) rfl dX4_readValue_131 ?_
        replace E := Option.some.inj E
        subst E
        exact as_vret 134 C Z dX4_readValue_134
      · have E := am_ifF E c12
        refine am_iconst 112 (0 : Int32) C dX4_readValue_112 (by decide) ?_
        refine am_goto 113 117 C dX4_readValue_113 (by decide) ?_
        refine am_aload_n 117 C dX4_readValue_117 rfl 0 rfl ?_
        refine as_getr 118 C fl_X4_25_3 dX4_readValue_118 (by decide) sh_247 (rf_247_0 _ _) ?_
        obtain ⟨v9, Ec, E⟩ := am_bdE E
        refine as_callV 121 (s2 := s4) (st := [.int (0 : Int32), .ref q5]) (st2 := [.int v9, .int (0 : Int32), .ref q5]) [] C A (by decide) ml_X4_79 yc_X7_valueHere yv_X7_valueHere (t_X7_valueHere  s4 Ec) (by decide) sh_2 rfl rfl (Nat.le_of_ble_eq_true rfl) rfl dX4_readValue_121 ?_
        obtain ⟨s10, Ec, E⟩ := am_bdE E
        refine as_callV 124 (s2 := s10) (st := []) (st2 := []) [.int (0 : Int32), .int v9] C A (by decide) ml_X4_66 yc_X3_addStep yv_X3_addStep (t_X3_addStep q5 (0 : Int32) v9 s4 Ec) (iR_l0 _ mq5) (iR_sh _ mq5) rfl rfl (Nat.le_of_ble_eq_true rfl) rfl dX4_readValue_124 ?_
        refine am_aload_n 127 C dX4_readValue_127 rfl 0 rfl ?_
        refine as_getr 128 C fl_X4_25_3 dX4_readValue_128 (by decide) sh_247 (rf_247_0 _ _) ?_
        obtain ⟨s11, Ec, E⟩ := am_bdE E
        refine as_callV 131 (s2 := s11) (st := []) (st2 := []) [] C A (by decide) ml_X4_39 yc_X7_step yv_X7_step (t_X7_step  s10 Ec) (by decide) sh_2 rfl rfl (Nat.le_of_ble_eq_true rfl) rfl dX4_readValue_131 ?_
        replace E := Option.some.inj E
        subst E
        exact as_vret 134 C Z dX4_readValue_134
  have K67 : ∀ (v14 : Int32) (s15 : am_S), j_X4_readValue_67 v14 s15 = some z → AX x 0 0 67 [(0, .ref 247), (1, .int v14)] [] am_N (am_h s15) := by
    intro v14 s15 E
    unfold j_X4_readValue_67 at E
    refine am_aload_n 67 C dX4_readValue_67 rfl 0 rfl ?_
    refine as_geti 68 C fl_X4_21_3 dX4_readValue_68 (by decide) sh_247 ?_
    refine am_bipush 71 (nI 60) C dX4_readValue_71 (by decide) ?_
    refine am_icmp_lt 73 84 C dX4_readValue_73 (by decide) (fun c17 => ?_) (fun c17 => ?_)
    · have E := am_ifT E c17
      refine am_lvs [0, 1] rfl ?_
      exact K84 _ _ E
    · have E := am_ifF E c17
      refine am_aload_n 76 C dX4_readValue_76 rfl 0 rfl ?_
      refine as_getr 77 C fl_X4_25_3 dX4_readValue_77 (by decide) sh_247 (rf_247_0 _ _) ?_
      refine am_iconst 80 (nI 3) C dX4_readValue_80 (by decide) ?_
      obtain ⟨s16, Ec, E⟩ := am_bdE E
      refine as_callV 81 (s2 := s16) (st := []) (st2 := []) [.int (nI 3)] C A (by decide) ml_X4_35 yc_X7_fail yv_X7_fail (t_X7_fail (nI 3) s15 Ec) (by decide) sh_2 rfl rfl (Nat.le_of_ble_eq_true rfl) rfl dX4_readValue_81 ?_
      refine am_lvs [0, 1] rfl ?_
      exact K84 _ _ E
  have K16 : ∀ (v18 : Int32) (s19 : am_S), j_X4_readValue_16 v18 s19 = some z → AX x 0 0 16 [(0, .ref 247)] [.int v18] am_N (am_h s19) := by
    intro v18 s19 E
    unfold j_X4_readValue_16 at E
    refine am_istore_n 16 (lv2 := [(1, .int v18), (0, .ref 247)]) C dX4_readValue_16 rfl (by decide) rfl ?_
    refine am_aload_n 17 C dX4_readValue_17 rfl 1 rfl ?_
    refine as_getr 18 C fl_X4_25_3 dX4_readValue_18 (by decide) sh_247 (rf_247_0 _ _) ?_
    obtain ⟨v20, Ec, E⟩ := am_bdE E
    refine as_callV 21 (s2 := s19) (st := []) (st2 := [.int v20]) [] C A (by decide) ml_X4_82 yc_X7_kindHere yv_X7_kindHere (t_X7_kindHere  s19 Ec) (by decide) sh_2 rfl rfl (Nat.le_of_ble_eq_true rfl) rfl dX4_readValue_21 ?_
    refine am_iconst 24 (nI 3) C dX4_readValue_24 (by decide) ?_
    refine am_icmp_ne 25 39 C dX4_readValue_25 (by decide) (fun c27 => ?_) (fun c27 => ?_)
    · have E := am_ifF E c27
      refine am_iload_n 39 C dX4_readValue_39 rfl 0 rfl ?_
      refine am_if_ne 40 67 C dX4_readValue_40 (by decide) (fun c25 => ?_) (fun c25 => ?_)
      · have E := am_ifF E c25
        refine am_lvs [1, 0] rfl ?_
        exact K67 _ _ E
      · have E := am_ifT E c25
        refine am_aload_n 43 C dX4_readValue_43 rfl 1 rfl ?_
        refine as_getr 44 C fl_X4_25_3 dX4_readValue_44 (by decide) sh_247 (rf_247_0 _ _) ?_
        obtain ⟨v21, Ec, E⟩ := am_bdE E
        refine as_callV 47 (s2 := s19) (st := []) (st2 := [.int v21]) [] C A (by decide) ml_X4_29 yc_X7_wordHere yv_X7_wordHere (t_X7_wordHere  s19 Ec) (by decide) sh_2 rfl rfl (Nat.le_of_ble_eq_true rfl) rfl dX4_readValue_47 ?_
        obtain ⟨v22, Ec, E⟩ := am_bdE E
        refine as_callS 50 (s2 := s19) (st := []) (st2 := [.int v22]) [.int v21] C A (by decide) ml_X4_91 yc_X4_isValueWord ys_X4_isValueWord (t_X4_isValueWord v21 s19 Ec) rfl rfl (Nat.le_of_ble_eq_true rfl) rfl dX4_readValue_50 ?_
        refine am_if_ne 53 67 C dX4_readValue_53 (by decide) (fun c24 => ?_) (fun c24 => ?_)
        · have E := am_ifF E c24
          refine am_lvs [1, 0] rfl ?_
          exact K67 _ _ E
        · have E := am_ifT E c24
          refine am_aload_n 56 C dX4_readValue_56 rfl 1 rfl ?_
          refine as_getr 57 C fl_X4_25_3 dX4_readValue_57 (by decide) sh_247 (rf_247_0 _ _) ?_
          refine am_iconst 60 (0 : Int32) C dX4_readValue_60 (by decide) ?_
          obtain ⟨s23, Ec, E⟩ := am_bdE E
          refine as_callV 61 (s2 := s23) (st := []) (st2 := []) [.int (0 : Int32)] C A (by decide) ml_X4_35 yc_X7_fail yv_X7_fail (t_X7_fail (0 : Int32) s19 Ec) (by decide) sh_2 rfl rfl (Nat.le_of_ble_eq_true rfl) rfl dX4_readValue_61 ?_
          refine am_goto 64 84 C dX4_readValue_64 (by decide) ?_
          refine am_lvs [1, 0] rfl ?_
          exact K84 _ _ E
    · have E := am_ifT E c27
      refine am_aload_n 28 C dX4_readValue_28 rfl 1 rfl ?_
      refine as_getr 29 C fl_X4_25_3 dX4_readValue_29 (by decide) sh_247 (rf_247_0 _ _) ?_
      refine am_iconst 32 (1 : Int32) C dX4_readValue_32 (by decide) ?_
      obtain ⟨s26, Ec, E⟩ := am_bdE E
      refine as_callV 33 (s2 := s26) (st := []) (st2 := []) [.int (1 : Int32)] C A (by decide) ml_X4_35 yc_X7_fail yv_X7_fail (t_X7_fail (1 : Int32) s19 Ec) (by decide) sh_2 rfl rfl (Nat.le_of_ble_eq_true rfl) rfl dX4_readValue_33 ?_
      refine am_goto 36 84 C dX4_readValue_36 (by decide) ?_
      refine am_lvs [1, 0] rfl ?_
      exact K84 _ _ E
  refine am_aload_n 0 C dX4_readValue_0 rfl 0 rfl ?_
  refine as_getr 1 C fl_X4_25_3 dX4_readValue_1 (by decide) sh_247 (rf_247_0 _ _) ?_
  obtain ⟨v28, Ec, E⟩ := am_bdE E
  refine as_callV 4 (s2 := s0) (st := []) (st2 := [.int v28]) [] C A (by decide) ml_X4_82 yc_X7_kindHere yv_X7_kindHere (t_X7_kindHere  s0 Ec) (by decide) sh_2 rfl rfl (Nat.le_of_ble_eq_true rfl) rfl dX4_readValue_4 ?_
  refine am_iconst 7 (nI 2) C dX4_readValue_7 (by decide) ?_
  refine am_icmp_ne 8 15 C dX4_readValue_8 (by decide) (fun c29 => ?_) (fun c29 => ?_)
  · have E := am_ifF E c29
    refine am_iconst 15 (0 : Int32) C dX4_readValue_15 (by decide) ?_
    refine am_lvs [0] rfl ?_
    exact K16 _ _ E
  · have E := am_ifT E c29
    refine am_iconst 11 (1 : Int32) C dX4_readValue_11 (by decide) ?_
    refine am_goto 12 16 C dX4_readValue_12 (by decide) ?_
    refine am_lvs [0] rfl ?_
    exact K16 _ _ E
def f_X4_arithmeticStep  (s0 : am_S) : Option (Int32) :=
  am_bd (f_X7_kindHere s0) (fun v1 => am_if (v1 = (nI 5)) (am_bd (f_X7_valueHere s0) (fun v2 => am_if (v2 = (nI 37)) (some (nI 9)) (am_if (v2 = (nI 38)) (some (-1 : Int32)) (am_if (v2 = (nI 39)) (some (-1 : Int32)) (am_if (v2 = (nI 40)) (some (-1 : Int32)) (am_if (v2 = (nI 41)) (some (-1 : Int32)) (am_if (v2 = (nI 42)) (some (nI 7)) (am_if (v2 = (nI 43)) (some (nI 5)) (am_if (v2 = (nI 44)) (some (-1 : Int32)) (am_if (v2 = (nI 45)) (some (nI 6)) (am_if (v2 = (nI 46)) (some (-1 : Int32)) (am_if (v2 = (nI 47)) (some (nI 8)) (some (-1 : Int32)))))))))))))) (some (-1 : Int32)))
set_option maxRecDepth 100000 in
set_option maxHeartbeats 4000000 in
theorem t_X4_arithmeticStep (s0 : am_S) {z : Int32} (E : f_X4_arithmeticStep  s0 = some z) : AS yX4_arithmeticStep cX4_arithmeticStep 1 (some .int) 2 [.ref 247] s0 (some (.int z)) s0 := by
  unfold f_X4_arithmeticStep at E
  refine as_met (lv := [(0, .ref 247)]) (by decide +kernel) (by simp [lg_sl, Value.category]) rfl (fun x C A Z => ?_)
  refine am_aload_n 0 C dX4_arithmeticStep_0 rfl 0 rfl ?_
  refine as_getr 1 C fl_X4_25_3 dX4_arithmeticStep_1 (by decide) sh_247 (rf_247_0 _ _) ?_
  obtain ⟨v1, Ec, E⟩ := am_bdE E
  refine as_callV 4 (s2 := s0) (st := []) (st2 := [.int v1]) [] C A (by decide) ml_X4_82 yc_X7_kindHere yv_X7_kindHere (t_X7_kindHere  s0 Ec) (by decide) sh_2 rfl rfl (Nat.le_of_ble_eq_true rfl) rfl dX4_arithmeticStep_4 ?_
  refine am_iconst 7 (nI 5) C dX4_arithmeticStep_7 (by decide) ?_
  refine am_icmp_eq 8 13 C dX4_arithmeticStep_8 (by decide) (fun c14 => ?_) (fun c14 => ?_)
  · have E := am_ifT E c14
    refine am_aload_n 13 C dX4_arithmeticStep_13 rfl 0 rfl ?_
    refine as_getr 14 C fl_X4_25_3 dX4_arithmeticStep_14 (by decide) sh_247 (rf_247_0 _ _) ?_
    obtain ⟨v2, Ec, E⟩ := am_bdE E
    refine as_callV 17 (s2 := s0) (st := []) (st2 := [.int v2]) [] C A (by decide) ml_X4_79 yc_X7_valueHere yv_X7_valueHere (t_X7_valueHere  s0 Ec) (by decide) sh_2 rfl rfl (Nat.le_of_ble_eq_true rfl) rfl dX4_arithmeticStep_17 ?_
    by_cases c3 : v2 = (nI 37)
    · have E := am_ifT E c3
      refine am_tabIn 20 91 C dX4_arithmeticStep_20 (by rw [c3]; decide) (by rw [c3]; decide) (by rw [c3]; rfl) (by decide) ?_
      refine am_bipush 91 (nI 9) C dX4_arithmeticStep_91 (by decide) ?_
      replace E := Option.some.inj E
      subst E
      exact as_iret 93 C Z rfl dX4_arithmeticStep_93
    · have E := am_ifF E c3
      by_cases c4 : v2 = (nI 38)
      · have E := am_ifT E c4
        refine am_tabIn 20 94 C dX4_arithmeticStep_20 (by rw [c4]; decide) (by rw [c4]; decide) (by rw [c4]; rfl) (by decide) ?_
        refine am_iconst 94 (-1 : Int32) C dX4_arithmeticStep_94 (by decide) ?_
        replace E := Option.some.inj E
        subst E
        exact as_iret 95 C Z rfl dX4_arithmeticStep_95
      · have E := am_ifF E c4
        by_cases c5 : v2 = (nI 39)
        · have E := am_ifT E c5
          refine am_tabIn 20 94 C dX4_arithmeticStep_20 (by rw [c5]; decide) (by rw [c5]; decide) (by rw [c5]; rfl) (by decide) ?_
          refine am_iconst 94 (-1 : Int32) C dX4_arithmeticStep_94 (by decide) ?_
          replace E := Option.some.inj E
          subst E
          exact as_iret 95 C Z rfl dX4_arithmeticStep_95
        · have E := am_ifF E c5
          by_cases c6 : v2 = (nI 40)
          · have E := am_ifT E c6
            refine am_tabIn 20 94 C dX4_arithmeticStep_20 (by rw [c6]; decide) (by rw [c6]; decide) (by rw [c6]; rfl) (by decide) ?_
            refine am_iconst 94 (-1 : Int32) C dX4_arithmeticStep_94 (by decide) ?_
            replace E := Option.some.inj E
            subst E
            exact as_iret 95 C Z rfl dX4_arithmeticStep_95
          · have E := am_ifF E c6
            by_cases c7 : v2 = (nI 41)
            · have E := am_ifT E c7
              refine am_tabIn 20 94 C dX4_arithmeticStep_20 (by rw [c7]; decide) (by rw [c7]; decide) (by rw [c7]; rfl) (by decide) ?_
              refine am_iconst 94 (-1 : Int32) C dX4_arithmeticStep_94 (by decide) ?_
              replace E := Option.some.inj E
              subst E
              exact as_iret 95 C Z rfl dX4_arithmeticStep_95
            · have E := am_ifF E c7
              by_cases c8 : v2 = (nI 42)
              · have E := am_ifT E c8
                refine am_tabIn 20 85 C dX4_arithmeticStep_20 (by rw [c8]; decide) (by rw [c8]; decide) (by rw [c8]; rfl) (by decide) ?_
                refine am_bipush 85 (nI 7) C dX4_arithmeticStep_85 (by decide) ?_
                replace E := Option.some.inj E
                subst E
                exact as_iret 87 C Z rfl dX4_arithmeticStep_87
              · have E := am_ifF E c8
                by_cases c9 : v2 = (nI 43)
                · have E := am_ifT E c9
                  refine am_tabIn 20 80 C dX4_arithmeticStep_20 (by rw [c9]; decide) (by rw [c9]; decide) (by rw [c9]; rfl) (by decide) ?_
                  refine am_iconst 80 (nI 5) C dX4_arithmeticStep_80 (by decide) ?_
                  replace E := Option.some.inj E
                  subst E
                  exact as_iret 81 C Z rfl dX4_arithmeticStep_81
                · have E := am_ifF E c9
                  by_cases c10 : v2 = (nI 44)
                  · have E := am_ifT E c10
                    refine am_tabIn 20 94 C dX4_arithmeticStep_20 (by rw [c10]; decide) (by rw [c10]; decide) (by rw [c10]; rfl) (by decide) ?_
                    refine am_iconst 94 (-1 : Int32) C dX4_arithmeticStep_94 (by decide) ?_
                    replace E := Option.some.inj E
                    subst E
                    exact as_iret 95 C Z rfl dX4_arithmeticStep_95
                  · have E := am_ifF E c10
                    by_cases c11 : v2 = (nI 45)
                    · have E := am_ifT E c11
                      refine am_tabIn 20 82 C dX4_arithmeticStep_20 (by rw [c11]; decide) (by rw [c11]; decide) (by rw [c11]; rfl) (by decide) ?_
                      refine am_bipush 82 (nI 6) C dX4_arithmeticStep_82 (by decide) ?_
                      replace E := Option.some.inj E
                      subst E
                      exact as_iret 84 C Z rfl dX4_arithmeticStep_84
                    · have E := am_ifF E c11
                      by_cases c12 : v2 = (nI 46)
                      · have E := am_ifT E c12
                        refine am_tabIn 20 94 C dX4_arithmeticStep_20 (by rw [c12]; decide) (by rw [c12]; decide) (by rw [c12]; rfl) (by decide) ?_
                        refine am_iconst 94 (-1 : Int32) C dX4_arithmeticStep_94 (by decide) ?_
                        replace E := Option.some.inj E
                        subst E
                        exact as_iret 95 C Z rfl dX4_arithmeticStep_95
                      · have E := am_ifF E c12
                        by_cases c13 : v2 = (nI 47)
                        · have E := am_ifT E c13
                          refine am_tabIn 20 88 C dX4_arithmeticStep_20 (by rw [c13]; decide) (by rw [c13]; decide) (by rw [c13]; rfl) (by decide) ?_
                          refine am_bipush 88 (nI 8) C dX4_arithmeticStep_88 (by decide) ?_
                          replace E := Option.some.inj E
                          subst E
                          exact as_iret 90 C Z rfl dX4_arithmeticStep_90
                        · have E := am_ifF E c13
                          have ec3 := am_neI c3 37 (by decide)
                          have ec4 := am_neI c4 38 (by decide)
                          have ec5 := am_neI c5 39 (by decide)
                          have ec6 := am_neI c6 40 (by decide)
                          have ec7 := am_neI c7 41 (by decide)
                          have ec8 := am_neI c8 42 (by decide)
                          have ec9 := am_neI c9 43 (by decide)
                          have ec10 := am_neI c10 44 (by decide)
                          have ec11 := am_neI c11 45 (by decide)
                          have ec12 := am_neI c12 46 (by decide)
                          have ec13 := am_neI c13 47 (by decide)
                          refine am_tabOut 20 94 C dX4_arithmeticStep_20 (by omega) (by decide) ?_
                          refine am_iconst 94 (-1 : Int32) C dX4_arithmeticStep_94 (by decide) ?_
                          replace E := Option.some.inj E
                          subst E
                          exact as_iret 95 C Z rfl dX4_arithmeticStep_95
  · have E := am_ifF E c14
    refine am_iconst 11 (-1 : Int32) C dX4_arithmeticStep_11 (by decide) ?_
    replace E := Option.some.inj E
    subst E
    exact as_iret 12 C Z rfl dX4_arithmeticStep_12
def j_X4_readSum_112 (v1 : Int32) (s2 : am_S) : Option (am_S) :=
  am_if (v1 = (-1 : Int32)) (some s2) (am_lt s2.2.2.2 (fun q3 => am_gd (q3 ∈ am_isR) (am_bd (f_X3_addStep q3 v1 (0 : Int32) s2) (fun s4 => some s4))))
def j_X4_readSum_35 (v6 : Int32) (s7 : am_S) : Option (am_S) :=
  j_X4_readSum_112 v6 s7
def j_X4_readSum_80 (v13 : Int32) (v14 : Int32) (v15 : Int32) (v16 : Int32) (s17 : am_S) : Option ((Int32 × Int32 × am_S) ⊕ (am_S)) :=
  am_bd (f_X7_step s17) (fun s18 => am_bd (f_X4_readValue s18) (fun s19 => am_if (v16 = 0) (am_lt (v14 + (1 : Int32)) (fun v20 => some (Sum.inl (v13, v20, s19)))) (am_lt s19.2.2.2 (fun q21 => am_gd (q21 ∈ am_isR) (am_bd (f_X3_addStep q21 v15 (0 : Int32) s19) (fun s22 => am_lt (v14 + (1 : Int32)) (fun v23 => some (Sum.inl (v13, v23, s22)))))))))
def j_X4_readSum_49 (v25 : Int32) (v26 : Int32) (v27 : Int32) (v28 : Int32) (s29 : am_S) : Option ((Int32 × Int32 × am_S) ⊕ (am_S)) :=
  am_if (v25 = 0) (am_if (v26 = (-1 : Int32)) (am_if (v25 = 0) (j_X4_readSum_80 v28 v27 v28 v25 s29) (j_X4_readSum_80 v26 v27 v28 v25 s29)) (am_lt s29.2.2.2 (fun q32 => am_gd (q32 ∈ am_isR) (am_bd (f_X3_addStep q32 v26 (0 : Int32) s29) (fun s33 => am_if (v25 = 0) (j_X4_readSum_80 v28 v27 v28 v25 s33) (j_X4_readSum_80 v26 v27 v28 v25 s33)))))) (am_if (v25 = 0) (j_X4_readSum_80 v28 v27 v28 v25 s29) (j_X4_readSum_80 v26 v27 v28 v25 s29))
def b_X4_readSum_8 (v10 : Int32) (v11 : Int32) (s12 : am_S) : Option ((Int32 × Int32 × am_S) ⊕ (am_S)) :=
  am_if ((nI 400) ≤ v11) (am_bd (j_X4_readSum_112 v10 s12) (fun e37 => some (Sum.inr e37))) (am_bd (f_X7_fine s12) (fun v38 => am_if (v38 = 0) (am_bd (j_X4_readSum_112 v10 s12) (fun e39 => some (Sum.inr e39))) (am_bd (f_X4_arithmeticStep s12) (fun v40 => am_if (v40 = (-1 : Int32)) (am_bd (j_X4_readSum_35 v10 s12) (fun e42 => some (Sum.inr e42))) (am_if (v40 < (nI 7)) (j_X4_readSum_49 (0 : Int32) v10 v11 v40 s12) (j_X4_readSum_49 (1 : Int32) v10 v11 v40 s12))))))
def f_X4_readSum  (s0 : am_S) : Option (am_S) :=
  am_bd (f_X4_readValue s0) (fun s8 => am_lp (fun (q : Int32 × Int32 × am_S) => b_X4_readSum_8 q.1 q.2.1 q.2.2) am_F ((-1 : Int32), (0 : Int32), s8))
set_option maxRecDepth 100000 in
set_option maxHeartbeats 4000000 in
theorem t_X4_readSum (s0 : am_S) {z : am_S} (E : f_X4_readSum  s0 = some z) : AS yX4_readSum cX4_readSum 5 none 3 [.ref 247] s0 none z := by
  unfold f_X4_readSum at E
  refine as_met (lv := [(0, .ref 247)]) (by decide +kernel) (by simp [lg_sl, Value.category]) rfl (fun x C A Z => ?_)
  have K112 : ∀ (v1 : Int32) (s2 : am_S), j_X4_readSum_112 v1 s2 = some z → AX x 0 0 112 [(0, .ref 247), (1, .int v1)] [] am_N (am_h s2) := by
    intro v1 s2 E
    unfold j_X4_readSum_112 at E
    refine am_iload_n 112 C dX4_readSum_112 rfl 1 rfl ?_
    refine am_iconst 113 (-1 : Int32) C dX4_readSum_113 (by decide) ?_
    refine am_icmp_eq 114 126 C dX4_readSum_114 (by decide) (fun c5 => ?_) (fun c5 => ?_)
    · have E := am_ifT E c5
      replace E := Option.some.inj E
      subst E
      exact as_vret 126 C Z dX4_readSum_126
    · have E := am_ifF E c5
      refine am_aload_n 117 C dX4_readSum_117 rfl 0 rfl ?_
      refine as_getr 118 C fl_X4_9_3 dX4_readSum_118 (by decide) sh_247 (rf_247_1 _ _) ?_
      obtain ⟨q3, hq3, E⟩ := am_ltE E
      refine as_nmr hq3 ?_
      obtain ⟨mq3, E⟩ := am_gdE E
      refine am_iload_n 121 C dX4_readSum_121 rfl 1 rfl ?_
      refine am_iconst 122 (0 : Int32) C dX4_readSum_122 (by decide) ?_
      obtain ⟨s4, Ec, E⟩ := am_bdE E
      refine as_callV 123 (s2 := s4) (st := []) (st2 := []) [.int v1, .int (0 : Int32)] C A (by decide) ml_X4_66 yc_X3_addStep yv_X3_addStep (t_X3_addStep q3 v1 (0 : Int32) s2 Ec) (iR_l0 _ mq3) (iR_sh _ mq3) rfl rfl (Nat.le_of_ble_eq_true rfl) rfl dX4_readSum_123 ?_
      replace E := Option.some.inj E
      subst E
      exact as_vret 126 C Z dX4_readSum_126
  have K35 : ∀ (v6 : Int32) (s7 : am_S), j_X4_readSum_35 v6 s7 = some z → AX x 0 0 35 [(0, .ref 247), (1, .int v6)] [] am_N (am_h s7) := by
    intro v6 s7 E
    unfold j_X4_readSum_35 at E
    refine am_goto 35 112 C dX4_readSum_35 (by decide) ?_
    refine am_lvs [0, 1] rfl ?_
    exact K112 _ _ E
  refine am_aload_n 0 C dX4_readSum_0 rfl 0 rfl ?_
  obtain ⟨s8, Ec, E⟩ := am_bdE E
  refine as_callV 1 (s2 := s8) (st := []) (st2 := []) [] C A (by decide) ml_X4_85 yc_X4_readValue yv_X4_readValue (t_X4_readValue  s0 Ec) (by decide) sh_247 rfl rfl (Nat.le_of_ble_eq_true rfl) rfl dX4_readSum_1 ?_
  refine am_iconst 4 (-1 : Int32) C dX4_readSum_4 (by decide) ?_
  refine am_istore_n 5 (lv2 := [(1, .int (-1 : Int32)), (0, .ref 247)]) C dX4_readSum_5 rfl (by decide) rfl ?_
  refine am_iconst 6 (0 : Int32) C dX4_readSum_6 (by decide) ?_
  refine am_istore_n 7 (lv2 := [(2, .int (0 : Int32)), (1, .int (-1 : Int32)), (0, .ref 247)]) C dX4_readSum_7 rfl (by decide) rfl ?_
  have LP9 : ∀ (n : Nat) (v10 : Int32) (v11 : Int32) (s12 : am_S), am_lp (fun (q : Int32 × Int32 × am_S) => b_X4_readSum_8 q.1 q.2.1 q.2.2) n (v10, v11, s12) = some z → AX x 0 0 8 [(0, .ref 247), (1, .int v10), (2, .int v11)] [] am_N (am_h s12) := by
    intro n
    induction n with
    | zero => intro v10 v11 s12 E; exact (am_lp0 E).elim
    | succ n ih9 =>
      intro v10 v11 s12 E
      obtain ⟨r9, E, Er9⟩ := am_lpE E
      replace E : b_X4_readSum_8 v10 v11 s12 = some r9 := E
      unfold b_X4_readSum_8 at E
      have K80 : ∀ (v13 : Int32) (v14 : Int32) (v15 : Int32) (v16 : Int32) (s17 : am_S), j_X4_readSum_80 v13 v14 v15 v16 s17 = some r9 → AX x 0 0 80 [(0, .ref 247), (2, .int v14), (3, .int v15), (4, .int v16)] [.int v13] am_N (am_h s17) := by
        intro v13 v14 v15 v16 s17 E
        unfold j_X4_readSum_80 at E
        refine am_istore_n 80 (lv2 := [(1, .int v13), (0, .ref 247), (2, .int v14), (3, .int v15), (4, .int v16)]) C dX4_readSum_80 rfl (by decide) rfl ?_
        refine am_aload_n 81 C dX4_readSum_81 rfl 1 rfl ?_
        refine as_getr 82 C fl_X4_25_3 dX4_readSum_82 (by decide) sh_247 (rf_247_0 _ _) ?_
        obtain ⟨s18, Ec, E⟩ := am_bdE E
        refine as_callV 85 (s2 := s18) (st := []) (st2 := []) [] C A (by decide) ml_X4_39 yc_X7_step yv_X7_step (t_X7_step  s17 Ec) (by decide) sh_2 rfl rfl (Nat.le_of_ble_eq_true rfl) rfl dX4_readSum_85 ?_
        refine am_aload_n 88 C dX4_readSum_88 rfl 1 rfl ?_
        obtain ⟨s19, Ec, E⟩ := am_bdE E
        refine as_callV 89 (s2 := s19) (st := []) (st2 := []) [] C A (by decide) ml_X4_85 yc_X4_readValue yv_X4_readValue (t_X4_readValue  s18 Ec) (by decide) sh_247 rfl rfl (Nat.le_of_ble_eq_true rfl) rfl dX4_readSum_89 ?_
        refine am_iload 92 C dX4_readSum_92 4 rfl ?_
        refine am_if_eq 94 106 C dX4_readSum_94 (by decide) (fun c24 => ?_) (fun c24 => ?_)
        · have E := am_ifT E c24
          obtain ⟨v20, hv20, E⟩ := am_ltE E
          refine as_iinc 106 (q := (1 : Int32)) (lv2 := [(2, .int v20), (1, .int v13), (0, .ref 247), (3, .int v15), (4, .int v16)]) C dX4_readSum_106 2 rfl (by decide) hv20 (by decide) rfl ?_
          refine am_goto 109 8 C dX4_readSum_109 (by decide) ?_
          replace E := Option.some.inj E
          replace E := am_exL E Er9
          refine am_lvs [2, 1, 0] rfl ?_
          exact ih9 _ _ _ E
        · have E := am_ifF E c24
          refine am_aload_n 97 C dX4_readSum_97 rfl 1 rfl ?_
          refine as_getr 98 C fl_X4_9_3 dX4_readSum_98 (by decide) sh_247 (rf_247_1 _ _) ?_
          obtain ⟨q21, hq21, E⟩ := am_ltE E
          refine as_nmr hq21 ?_
          obtain ⟨mq21, E⟩ := am_gdE E
          refine am_iload_n 101 C dX4_readSum_101 rfl 3 rfl ?_
          refine am_iconst 102 (0 : Int32) C dX4_readSum_102 (by decide) ?_
          obtain ⟨s22, Ec, E⟩ := am_bdE E
          refine as_callV 103 (s2 := s22) (st := []) (st2 := []) [.int v15, .int (0 : Int32)] C A (by decide) ml_X4_66 yc_X3_addStep yv_X3_addStep (t_X3_addStep q21 v15 (0 : Int32) s19 Ec) (iR_l0 _ mq21) (iR_sh _ mq21) rfl rfl (Nat.le_of_ble_eq_true rfl) rfl dX4_readSum_103 ?_
          obtain ⟨v23, hv23, E⟩ := am_ltE E
          refine as_iinc 106 (q := (1 : Int32)) (lv2 := [(2, .int v23), (1, .int v13), (0, .ref 247), (3, .int v15), (4, .int v16)]) C dX4_readSum_106 2 rfl (by decide) hv23 (by decide) rfl ?_
          refine am_goto 109 8 C dX4_readSum_109 (by decide) ?_
          replace E := Option.some.inj E
          replace E := am_exL E Er9
          refine am_lvs [2, 1, 0] rfl ?_
          exact ih9 _ _ _ E
      have K49 : ∀ (v25 : Int32) (v26 : Int32) (v27 : Int32) (v28 : Int32) (s29 : am_S), j_X4_readSum_49 v25 v26 v27 v28 s29 = some r9 → AX x 0 0 49 [(0, .ref 247), (1, .int v26), (2, .int v27), (3, .int v28)] [.int v25] am_N (am_h s29) := by
        intro v25 v26 v27 v28 s29 E
        unfold j_X4_readSum_49 at E
        refine am_istore 49 (lv2 := [(4, .int v25), (0, .ref 247), (1, .int v26), (2, .int v27), (3, .int v28)]) C dX4_readSum_49 (by decide) rfl ?_
        refine am_iload 51 C dX4_readSum_51 0 rfl ?_
        refine am_if_ne 53 70 C dX4_readSum_53 (by decide) (fun c36 => ?_) (fun c36 => ?_)
        · have E := am_ifF E c36
          refine am_iload 70 C dX4_readSum_70 0 rfl ?_
          refine am_if_eq 72 79 C dX4_readSum_72 (by decide) (fun c30 => ?_) (fun c30 => ?_)
          · have E := am_ifT E c30
            refine am_iload_n 79 C dX4_readSum_79 rfl 4 rfl ?_
            refine am_lvs [1, 3, 4, 0] rfl ?_
            exact K80 _ _ _ _ _ E
          · have E := am_ifF E c30
            refine am_iload_n 75 C dX4_readSum_75 rfl 2 rfl ?_
            refine am_goto 76 80 C dX4_readSum_76 (by decide) ?_
            refine am_lvs [1, 3, 4, 0] rfl ?_
            exact K80 _ _ _ _ _ E
        · have E := am_ifT E c36
          refine am_iload_n 56 C dX4_readSum_56 rfl 2 rfl ?_
          refine am_iconst 57 (-1 : Int32) C dX4_readSum_57 (by decide) ?_
          refine am_icmp_eq 58 70 C dX4_readSum_58 (by decide) (fun c35 => ?_) (fun c35 => ?_)
          · have E := am_ifT E c35
            refine am_iload 70 C dX4_readSum_70 0 rfl ?_
            refine am_if_eq 72 79 C dX4_readSum_72 (by decide) (fun c31 => ?_) (fun c31 => ?_)
            · have E := am_ifT E c31
              refine am_iload_n 79 C dX4_readSum_79 rfl 4 rfl ?_
              refine am_lvs [1, 3, 4, 0] rfl ?_
              exact K80 _ _ _ _ _ E
            · have E := am_ifF E c31
              refine am_iload_n 75 C dX4_readSum_75 rfl 2 rfl ?_
              refine am_goto 76 80 C dX4_readSum_76 (by decide) ?_
              refine am_lvs [1, 3, 4, 0] rfl ?_
              exact K80 _ _ _ _ _ E
          · have E := am_ifF E c35
            refine am_aload_n 61 C dX4_readSum_61 rfl 1 rfl ?_
            refine as_getr 62 C fl_X4_9_3 dX4_readSum_62 (by decide) sh_247 (rf_247_1 _ _) ?_
            obtain ⟨q32, hq32, E⟩ := am_ltE E
            refine as_nmr hq32 ?_
            obtain ⟨mq32, E⟩ := am_gdE E
            refine am_iload_n 65 C dX4_readSum_65 rfl 2 rfl ?_
            refine am_iconst 66 (0 : Int32) C dX4_readSum_66 (by decide) ?_
            obtain ⟨s33, Ec, E⟩ := am_bdE E
            refine as_callV 67 (s2 := s33) (st := []) (st2 := []) [.int v26, .int (0 : Int32)] C A (by decide) ml_X4_66 yc_X3_addStep yv_X3_addStep (t_X3_addStep q32 v26 (0 : Int32) s29 Ec) (iR_l0 _ mq32) (iR_sh _ mq32) rfl rfl (Nat.le_of_ble_eq_true rfl) rfl dX4_readSum_67 ?_
            refine am_iload 70 C dX4_readSum_70 0 rfl ?_
            refine am_if_eq 72 79 C dX4_readSum_72 (by decide) (fun c34 => ?_) (fun c34 => ?_)
            · have E := am_ifT E c34
              refine am_iload_n 79 C dX4_readSum_79 rfl 4 rfl ?_
              refine am_lvs [1, 3, 4, 0] rfl ?_
              exact K80 _ _ _ _ _ E
            · have E := am_ifF E c34
              refine am_iload_n 75 C dX4_readSum_75 rfl 2 rfl ?_
              refine am_goto 76 80 C dX4_readSum_76 (by decide) ?_
              refine am_lvs [1, 3, 4, 0] rfl ?_
              exact K80 _ _ _ _ _ E
      refine am_iload_n 8 C dX4_readSum_8 rfl 2 rfl ?_
      refine am_sipush 9 (nI 400) C dX4_readSum_9 (by decide) ?_
      refine am_icmp_ge 12 112 C dX4_readSum_12 (by decide) (fun c45 => ?_) (fun c45 => ?_)
      · have E := am_ifT E c45
        obtain ⟨e37, E, E2⟩ := am_bdE E
        replace E2 := Option.some.inj E2
        replace E2 := am_exR E2 Er9
        rw [E2] at E
        refine am_lvs [0, 1] rfl ?_
        exact K112 _ _ E
      · have E := am_ifF E c45
        refine am_aload_n 15 C dX4_readSum_15 rfl 0 rfl ?_
        refine as_getr 16 C fl_X4_25_3 dX4_readSum_16 (by decide) sh_247 (rf_247_0 _ _) ?_
        obtain ⟨v38, Ec, E⟩ := am_bdE E
        refine as_callV 19 (s2 := s12) (st := []) (st2 := [.int v38]) [] C A (by decide) ml_X4_51 yc_X7_fine yv_X7_fine (t_X7_fine  s12 Ec) (by decide) sh_2 rfl rfl (Nat.le_of_ble_eq_true rfl) rfl dX4_readSum_19 ?_
        refine am_if_eq 22 112 C dX4_readSum_22 (by decide) (fun c44 => ?_) (fun c44 => ?_)
        · have E := am_ifT E c44
          obtain ⟨e39, E, E2⟩ := am_bdE E
          replace E2 := Option.some.inj E2
          replace E2 := am_exR E2 Er9
          rw [E2] at E
          refine am_lvs [0, 1] rfl ?_
          exact K112 _ _ E
        · have E := am_ifF E c44
          refine am_aload_n 25 C dX4_readSum_25 rfl 0 rfl ?_
          obtain ⟨v40, Ec, E⟩ := am_bdE E
          refine as_callV 26 (s2 := s12) (st := []) (st2 := [.int v40]) [] C A (by decide) ml_X4_88 yc_X4_arithmeticStep yv_X4_arithmeticStep (t_X4_arithmeticStep  s12 Ec) (by decide) sh_247 rfl rfl (Nat.le_of_ble_eq_true rfl) rfl dX4_readSum_26 ?_
          refine am_istore_n 29 (lv2 := [(3, .int v40), (0, .ref 247), (1, .int v10), (2, .int v11)]) C dX4_readSum_29 rfl (by decide) rfl ?_
          refine am_iload_n 30 C dX4_readSum_30 rfl 0 rfl ?_
          refine am_iconst 31 (-1 : Int32) C dX4_readSum_31 (by decide) ?_
          refine am_icmp_ne 32 38 C dX4_readSum_32 (by decide) (fun c43 => ?_) (fun c43 => ?_)
          · have E := am_ifF E c43
            refine am_iload_n 38 C dX4_readSum_38 rfl 0 rfl ?_
            refine am_bipush 39 (nI 7) C dX4_readSum_39 (by decide) ?_
            refine am_icmp_lt 41 48 C dX4_readSum_41 (by decide) (fun c41 => ?_) (fun c41 => ?_)
            · have E := am_ifT E c41
              refine am_iconst 48 (0 : Int32) C dX4_readSum_48 (by decide) ?_
              refine am_lvs [1, 2, 3, 0] rfl ?_
              exact K49 _ _ _ _ _ E
            · have E := am_ifF E c41
              refine am_iconst 44 (1 : Int32) C dX4_readSum_44 (by decide) ?_
              refine am_goto 45 49 C dX4_readSum_45 (by decide) ?_
              refine am_lvs [1, 2, 3, 0] rfl ?_
              exact K49 _ _ _ _ _ E
          · have E := am_ifT E c43
            obtain ⟨e42, E, E2⟩ := am_bdE E
            replace E2 := Option.some.inj E2
            replace E2 := am_exR E2 Er9
            rw [E2] at E
            refine am_lvs [1, 2] rfl ?_
            exact K35 _ _ E
  refine am_lvs [2, 1, 0] rfl ?_
  exact LP9 am_F _ _ _ E
def f_X8_copyFrom (a1 : Nat) (a2 : Nat) (s0 : am_S) : Option (am_S) :=
  am_gd (a1 ∈ am_isT) (am_gd (a2 ∈ am_isT) (am_gd ((s0.1 a2 0) = 0 ∨ (s0.1 a2 0) = 1) (am_lt (as_i s0 a1 0 (s0.1 a2 0)) (fun s3 => am_lt (as_i s3 a1 1 (s3.1 a2 1)) (fun s5 => am_lt (as_i s5 a1 2 (s5.1 a2 2)) (fun s6 => am_lt (as_i s6 a1 3 (s6.1 a2 3)) (fun s7 => am_lt (as_i s7 a1 6 (s7.1 a2 6)) (fun s8 => am_lt (as_i s8 a1 10 (s8.1 a2 10)) (fun s9 => am_lt (as_i s9 a1 12 (s9.1 a2 12)) (fun s10 => am_lt (as_i s10 a1 14 (s10.1 a2 14)) (fun s11 => am_gd ((s11.1 a2 15) = 0 ∨ (s11.1 a2 15) = 1) (am_lt (as_i s11 a1 15 (s11.1 a2 15)) (fun s12 => am_lt (as_w s12 (a1 + 1) (va_cpy (s12.1 (a2 + 1)) (s12.1 (a1 + 1)) 0 0 7)) (fun s14 => am_lt (as_w s14 (a1 + 2) (va_cpy (s14.1 (a2 + 2)) (s14.1 (a1 + 2)) 0 0 49)) (fun s15 => am_lt (as_w s15 (a1 + 3) (va_cpy (s15.1 (a2 + 3)) (s15.1 (a1 + 3)) 0 0 10)) (fun s16 => am_lt (as_w s16 (a1 + 4) (va_cpy (s16.1 (a2 + 4)) (s16.1 (a1 + 4)) 0 0 10)) (fun s17 => am_lt (as_w s17 (a1 + 5) (va_cpy (s17.1 (a2 + 5)) (s17.1 (a1 + 5)) 0 0 7)) (fun s18 => am_lt (as_w s18 (a1 + 6) (va_cpy (s18.1 (a2 + 6)) (s18.1 (a1 + 6)) 0 0 40)) (fun s19 => am_lt (as_w s19 (a1 + 7) (va_cpy (s19.1 (a2 + 7)) (s19.1 (a1 + 7)) 0 0 30)) (fun s20 => some s20))))))))))))))))))))
set_option maxRecDepth 100000 in
set_option maxHeartbeats 4000000 in
theorem t_X8_copyFrom (a1 : Nat) (a2 : Nat) (s0 : am_S) {z : am_S} (E : f_X8_copyFrom a1 a2 s0 = some z) : AS yX8_copyFrom cX8_copyFrom 2 none 2 [.ref a1, .ref a2] s0 none z := by
  unfold f_X8_copyFrom at E
  obtain ⟨ma1, E⟩ := am_gdE E
  obtain ⟨ma2, E⟩ := am_gdE E
  refine as_met (lv := [(0, .ref a1), (1, .ref a2)]) (by decide +kernel) (by simp [lg_sl, Value.category]) rfl (fun x C A Z => ?_)
  refine am_aload_n 0 C dX8_copyFrom_0 rfl 0 rfl ?_
  refine am_aload_n 1 C dX8_copyFrom_1 rfl 1 rfl ?_
  refine as_geti 2 C fl_X8_33_7 dX8_copyFrom_2 (iT_l0 _ ma2) (iT_sh _ ma2) ?_
  obtain ⟨g4, E⟩ := am_gdE E
  obtain ⟨s3, hs3, E⟩ := am_ltE E
  refine as_puti 5 C fl_X8_33_7 dX8_copyFrom_5 (iT_l0 _ ma1) (iT_sh _ ma1) (am_nb g4) (am_fb g4) hs3 ?_
  refine am_aload_n 8 C dX8_copyFrom_8 rfl 0 rfl ?_
  refine am_aload_n 9 C dX8_copyFrom_9 rfl 1 rfl ?_
  refine as_geti 10 C fl_X8_37_7 dX8_copyFrom_10 (iT_l0 _ ma2) (iT_sh _ ma2) ?_
  obtain ⟨s5, hs5, E⟩ := am_ltE E
  refine as_puti 13 C fl_X8_37_7 dX8_copyFrom_13 (iT_l0 _ ma1) (iT_sh _ ma1) rfl rfl hs5 ?_
  refine am_aload_n 16 C dX8_copyFrom_16 rfl 0 rfl ?_
  refine am_aload_n 17 C dX8_copyFrom_17 rfl 1 rfl ?_
  refine as_geti 18 C fl_X8_41_7 dX8_copyFrom_18 (iT_l0 _ ma2) (iT_sh _ ma2) ?_
  obtain ⟨s6, hs6, E⟩ := am_ltE E
  refine as_puti 21 C fl_X8_41_7 dX8_copyFrom_21 (iT_l0 _ ma1) (iT_sh _ ma1) rfl rfl hs6 ?_
  refine am_aload_n 24 C dX8_copyFrom_24 rfl 0 rfl ?_
  refine am_aload_n 25 C dX8_copyFrom_25 rfl 1 rfl ?_
  refine as_geti 26 C fl_X8_44_7 dX8_copyFrom_26 (iT_l0 _ ma2) (iT_sh _ ma2) ?_
  obtain ⟨s7, hs7, E⟩ := am_ltE E
  refine as_puti 29 C fl_X8_44_7 dX8_copyFrom_29 (iT_l0 _ ma1) (iT_sh _ ma1) rfl rfl hs7 ?_
  refine am_aload_n 32 C dX8_copyFrom_32 rfl 0 rfl ?_
  refine am_aload_n 33 C dX8_copyFrom_33 rfl 1 rfl ?_
  refine as_geti 34 C fl_X8_47_7 dX8_copyFrom_34 (iT_l0 _ ma2) (iT_sh _ ma2) ?_
  obtain ⟨s8, hs8, E⟩ := am_ltE E
  refine as_puti 37 C fl_X8_47_7 dX8_copyFrom_37 (iT_l0 _ ma1) (iT_sh _ ma1) rfl rfl hs8 ?_
  refine am_aload_n 40 C dX8_copyFrom_40 rfl 0 rfl ?_
  refine am_aload_n 41 C dX8_copyFrom_41 rfl 1 rfl ?_
  refine as_geti 42 C fl_X8_50_7 dX8_copyFrom_42 (iT_l0 _ ma2) (iT_sh _ ma2) ?_
  obtain ⟨s9, hs9, E⟩ := am_ltE E
  refine as_puti 45 C fl_X8_50_7 dX8_copyFrom_45 (iT_l0 _ ma1) (iT_sh _ ma1) rfl rfl hs9 ?_
  refine am_aload_n 48 C dX8_copyFrom_48 rfl 0 rfl ?_
  refine am_aload_n 49 C dX8_copyFrom_49 rfl 1 rfl ?_
  refine as_geti 50 C fl_X8_53_7 dX8_copyFrom_50 (iT_l0 _ ma2) (iT_sh _ ma2) ?_
  obtain ⟨s10, hs10, E⟩ := am_ltE E
  refine as_puti 53 C fl_X8_53_7 dX8_copyFrom_53 (iT_l0 _ ma1) (iT_sh _ ma1) rfl rfl hs10 ?_
  refine am_aload_n 56 C dX8_copyFrom_56 rfl 0 rfl ?_
  refine am_aload_n 57 C dX8_copyFrom_57 rfl 1 rfl ?_
  refine as_geti 58 C fl_X8_56_7 dX8_copyFrom_58 (iT_l0 _ ma2) (iT_sh _ ma2) ?_
  obtain ⟨s11, hs11, E⟩ := am_ltE E
  refine as_puti 61 C fl_X8_56_7 dX8_copyFrom_61 (iT_l0 _ ma1) (iT_sh _ ma1) rfl rfl hs11 ?_
  refine am_aload_n 64 C dX8_copyFrom_64 rfl 0 rfl ?_
  refine am_aload_n 65 C dX8_copyFrom_65 rfl 1 rfl ?_
  refine as_geti 66 C fl_X8_59_7 dX8_copyFrom_66 (iT_l0 _ ma2) (iT_sh _ ma2) ?_
  obtain ⟨g13, E⟩ := am_gdE E
  obtain ⟨s12, hs12, E⟩ := am_ltE E
  refine as_puti 69 C fl_X8_59_7 dX8_copyFrom_69 (iT_l0 _ ma1) (iT_sh _ ma1) (am_nb g13) (am_fb g13) hs12 ?_
  refine am_aload_n 72 C dX8_copyFrom_72 rfl 1 rfl ?_
  refine as_getr 73 C fl_X8_9_7 dX8_copyFrom_73 (iT_l0 _ ma2) (iT_sh _ ma2) (iT_r4 _ _ _ ma2) ?_
  refine am_iconst 76 (0 : Int32) C dX8_copyFrom_76 (by decide) ?_
  refine am_aload_n 77 C dX8_copyFrom_77 rfl 0 rfl ?_
  refine as_getr 78 C fl_X8_9_7 dX8_copyFrom_78 (iT_l0 _ ma1) (iT_sh _ ma1) (iT_r4 _ _ _ ma1) ?_
  refine am_iconst 81 (0 : Int32) C dX8_copyFrom_81 (by decide) ?_
  refine am_bipush 82 (nI 7) C dX8_copyFrom_82 (by decide) ?_
  obtain ⟨s14, hs14, E⟩ := am_ltE E
  refine as_copyK 84 0 0 7 C A (by decide) ml_X8_68 (iT_l1 _ ma2) (iT_l1 _ ma1) (iT_s1 _ ma2) (iT_s1 _ ma1) (by decide) (by decide) (by decide) (by decide) (Nat.le_of_ble_eq_true rfl) dX8_copyFrom_84 hs14 ?_
  refine am_aload_n 87 C dX8_copyFrom_87 rfl 1 rfl ?_
  refine as_getr 88 C fl_X8_15_7 dX8_copyFrom_88 (iT_l0 _ ma2) (iT_sh _ ma2) (iT_r5 _ _ _ ma2) ?_
  refine am_iconst 91 (0 : Int32) C dX8_copyFrom_91 (by decide) ?_
  refine am_aload_n 92 C dX8_copyFrom_92 rfl 0 rfl ?_
  refine as_getr 93 C fl_X8_15_7 dX8_copyFrom_93 (iT_l0 _ ma1) (iT_sh _ ma1) (iT_r5 _ _ _ ma1) ?_
  refine am_iconst 96 (0 : Int32) C dX8_copyFrom_96 (by decide) ?_
  refine am_bipush 97 (nI 49) C dX8_copyFrom_97 (by decide) ?_
  obtain ⟨s15, hs15, E⟩ := am_ltE E
  refine as_copyK 99 0 0 49 C A (by decide) ml_X8_68 (iT_l2 _ ma2) (iT_l2 _ ma1) (iT_s2 _ ma2) (iT_s2 _ ma1) (by decide) (by decide) (by decide) (by decide) (Nat.le_of_ble_eq_true rfl) dX8_copyFrom_99 hs15 ?_
  refine am_aload_n 102 C dX8_copyFrom_102 rfl 1 rfl ?_
  refine as_getr 103 C fl_X8_18_7 dX8_copyFrom_103 (iT_l0 _ ma2) (iT_sh _ ma2) (iT_r7 _ _ _ ma2) ?_
  refine am_iconst 106 (0 : Int32) C dX8_copyFrom_106 (by decide) ?_
  refine am_aload_n 107 C dX8_copyFrom_107 rfl 0 rfl ?_
  refine as_getr 108 C fl_X8_18_7 dX8_copyFrom_108 (iT_l0 _ ma1) (iT_sh _ ma1) (iT_r7 _ _ _ ma1) ?_
  refine am_iconst 111 (0 : Int32) C dX8_copyFrom_111 (by decide) ?_
  refine am_bipush 112 (nI 10) C dX8_copyFrom_112 (by decide) ?_
  obtain ⟨s16, hs16, E⟩ := am_ltE E
  refine as_copyK 114 0 0 10 C A (by decide) ml_X8_68 (iT_l3 _ ma2) (iT_l3 _ ma1) (iT_s3 _ ma2) (iT_s3 _ ma1) (by decide) (by decide) (by decide) (by decide) (Nat.le_of_ble_eq_true rfl) dX8_copyFrom_114 hs16 ?_
  refine am_aload_n 117 C dX8_copyFrom_117 rfl 1 rfl ?_
  refine as_getr 118 C fl_X8_21_7 dX8_copyFrom_118 (iT_l0 _ ma2) (iT_sh _ ma2) (iT_r8 _ _ _ ma2) ?_
  refine am_iconst 121 (0 : Int32) C dX8_copyFrom_121 (by decide) ?_
  refine am_aload_n 122 C dX8_copyFrom_122 rfl 0 rfl ?_
  refine as_getr 123 C fl_X8_21_7 dX8_copyFrom_123 (iT_l0 _ ma1) (iT_sh _ ma1) (iT_r8 _ _ _ ma1) ?_
  refine am_iconst 126 (0 : Int32) C dX8_copyFrom_126 (by decide) ?_
  refine am_bipush 127 (nI 10) C dX8_copyFrom_127 (by decide) ?_
  obtain ⟨s17, hs17, E⟩ := am_ltE E
  refine as_copyK 129 0 0 10 C A (by decide) ml_X8_68 (iT_l4 _ ma2) (iT_l4 _ ma1) (iT_s4 _ ma2) (iT_s4 _ ma1) (by decide) (by decide) (by decide) (by decide) (Nat.le_of_ble_eq_true rfl) dX8_copyFrom_129 hs17 ?_
  refine am_aload_n 132 C dX8_copyFrom_132 rfl 1 rfl ?_
  refine as_getr 133 C fl_X8_24_7 dX8_copyFrom_133 (iT_l0 _ ma2) (iT_sh _ ma2) (iT_r9 _ _ _ ma2) ?_
  refine am_iconst 136 (0 : Int32) C dX8_copyFrom_136 (by decide) ?_
  refine am_aload_n 137 C dX8_copyFrom_137 rfl 0 rfl ?_
  refine as_getr 138 C fl_X8_24_7 dX8_copyFrom_138 (iT_l0 _ ma1) (iT_sh _ ma1) (iT_r9 _ _ _ ma1) ?_
  refine am_iconst 141 (0 : Int32) C dX8_copyFrom_141 (by decide) ?_
  refine am_bipush 142 (nI 7) C dX8_copyFrom_142 (by decide) ?_
  obtain ⟨s18, hs18, E⟩ := am_ltE E
  refine as_copyK 144 0 0 7 C A (by decide) ml_X8_68 (iT_l5 _ ma2) (iT_l5 _ ma1) (iT_s5 _ ma2) (iT_s5 _ ma1) (by decide) (by decide) (by decide) (by decide) (Nat.le_of_ble_eq_true rfl) dX8_copyFrom_144 hs18 ?_
  refine am_aload_n 147 C dX8_copyFrom_147 rfl 1 rfl ?_
  refine as_getr 148 C fl_X8_27_7 dX8_copyFrom_148 (iT_l0 _ ma2) (iT_sh _ ma2) (iT_r11 _ _ _ ma2) ?_
  refine am_iconst 151 (0 : Int32) C dX8_copyFrom_151 (by decide) ?_
  refine am_aload_n 152 C dX8_copyFrom_152 rfl 0 rfl ?_
  refine as_getr 153 C fl_X8_27_7 dX8_copyFrom_153 (iT_l0 _ ma1) (iT_sh _ ma1) (iT_r11 _ _ _ ma1) ?_
  refine am_iconst 156 (0 : Int32) C dX8_copyFrom_156 (by decide) ?_
  refine am_bipush 157 (nI 40) C dX8_copyFrom_157 (by decide) ?_
  obtain ⟨s19, hs19, E⟩ := am_ltE E
  refine as_copyK 159 0 0 40 C A (by decide) ml_X8_68 (iT_l6 _ ma2) (iT_l6 _ ma1) (iT_s6 _ ma2) (iT_s6 _ ma1) (by decide) (by decide) (by decide) (by decide) (Nat.le_of_ble_eq_true rfl) dX8_copyFrom_159 hs19 ?_
  refine am_aload_n 162 C dX8_copyFrom_162 rfl 1 rfl ?_
  refine as_getr 163 C fl_X8_30_7 dX8_copyFrom_163 (iT_l0 _ ma2) (iT_sh _ ma2) (iT_r13 _ _ _ ma2) ?_
  refine am_iconst 166 (0 : Int32) C dX8_copyFrom_166 (by decide) ?_
  refine am_aload_n 167 C dX8_copyFrom_167 rfl 0 rfl ?_
  refine as_getr 168 C fl_X8_30_7 dX8_copyFrom_168 (iT_l0 _ ma1) (iT_sh _ ma1) (iT_r13 _ _ _ ma1) ?_
  refine am_iconst 171 (0 : Int32) C dX8_copyFrom_171 (by decide) ?_
  refine am_bipush 172 (nI 30) C dX8_copyFrom_172 (by decide) ?_
  obtain ⟨s20, hs20, E⟩ := am_ltE E
  refine as_copyK 174 0 0 30 C A (by decide) ml_X8_68 (iT_l7 _ ma2) (iT_l7 _ ma1) (iT_s7 _ ma2) (iT_s7 _ ma1) (by decide) (by decide) (by decide) (by decide) (Nat.le_of_ble_eq_true rfl) dX8_copyFrom_174 hs20 ?_
  replace E := Option.some.inj E
  subst E
  exact as_vret 177 C Z dX8_copyFrom_177
def f_X5_copyFrom (a1 : Nat) (a2 : Nat) (s0 : am_S) : Option (am_S) :=
  am_gd (a1 ∈ am_isS) (am_gd (a2 ∈ am_isS) (am_bd (f_X8_copyFrom (a1 + 1) (a2 + 1) s0) (fun s3 => am_bd (f_X2_copyFrom (a1 + 9) (a2 + 9) s3) (fun s4 => am_lt (as_i s4 a1 2 (s4.1 a2 2)) (fun s5 => am_lt (as_i s5 a1 3 (s5.1 a2 3)) (fun s6 => am_lt (as_i s6 a1 4 (s6.1 a2 4)) (fun s7 => am_lt (as_w s7 (a1 + 14) (va_cpy (s7.1 (a2 + 14)) (s7.1 (a1 + 14)) 0 0 36)) (fun s8 => am_lt (as_i s8 a1 6 (s8.1 a2 6)) (fun s9 => am_lt (as_i s9 a1 7 (s9.1 a2 7)) (fun s10 => am_lt (as_i s10 a1 8 (s10.1 a2 8)) (fun s11 => some s11)))))))))))
set_option maxRecDepth 100000 in
set_option maxHeartbeats 4000000 in
theorem t_X5_copyFrom (a1 : Nat) (a2 : Nat) (s0 : am_S) {z : am_S} (E : f_X5_copyFrom a1 a2 s0 = some z) : AS yX5_copyFrom cX5_copyFrom 2 none 3 [.ref a1, .ref a2] s0 none z := by
  unfold f_X5_copyFrom at E
  obtain ⟨ma1, E⟩ := am_gdE E
  obtain ⟨ma2, E⟩ := am_gdE E
  refine as_met (lv := [(0, .ref a1), (1, .ref a2)]) (by decide +kernel) (by simp [lg_sl, Value.category]) rfl (fun x C A Z => ?_)
  refine am_aload_n 0 C dX5_copyFrom_0 rfl 0 rfl ?_
  refine as_getr 1 C fl_X5_12_4 dX5_copyFrom_1 (iS_l0 _ ma1) (iS_sh _ ma1) (iS_r0 _ _ _ ma1) ?_
  refine am_aload_n 4 C dX5_copyFrom_4 rfl 1 rfl ?_
  refine as_getr 5 C fl_X5_12_4 dX5_copyFrom_5 (iS_l0 _ ma2) (iS_sh _ ma2) (iS_r0 _ _ _ ma2) ?_
  obtain ⟨s3, Ec, E⟩ := am_bdE E
  refine as_callV 8 (s2 := s3) (st := []) (st2 := []) [.ref (a2 + 1)] C A (by decide) ml_X5_33 yc_X8_copyFrom yv_X8_copyFrom (t_X8_copyFrom (a1 + 1) (a2 + 1) s0 Ec) (iS_l1 _ ma1) (iS_s1 _ ma1) rfl rfl (Nat.le_of_ble_eq_true rfl) rfl dX5_copyFrom_8 ?_
  refine am_aload_n 11 C dX5_copyFrom_11 rfl 0 rfl ?_
  refine as_getr 12 C fl_X5_21_4 dX5_copyFrom_12 (iS_l0 _ ma1) (iS_sh _ ma1) (iS_r1 _ _ _ ma1) ?_
  refine am_aload_n 15 C dX5_copyFrom_15 rfl 1 rfl ?_
  refine as_getr 16 C fl_X5_21_4 dX5_copyFrom_16 (iS_l0 _ ma2) (iS_sh _ ma2) (iS_r1 _ _ _ ma2) ?_
  obtain ⟨s4, Ec, E⟩ := am_bdE E
  refine as_callV 19 (s2 := s4) (st := []) (st2 := []) [.ref (a2 + 9)] C A (by decide) ml_X5_37 yc_X2_copyFrom yv_X2_copyFrom (t_X2_copyFrom (a1 + 9) (a2 + 9) s3 Ec) (iS_l9 _ ma1) (iS_s9 _ ma1) rfl rfl (Nat.le_of_ble_eq_true rfl) rfl dX5_copyFrom_19 ?_
  refine am_aload_n 22 C dX5_copyFrom_22 rfl 0 rfl ?_
  refine am_aload_n 23 C dX5_copyFrom_23 rfl 1 rfl ?_
  refine as_geti 24 C fl_X5_25_4 dX5_copyFrom_24 (iS_l0 _ ma2) (iS_sh _ ma2) ?_
  obtain ⟨s5, hs5, E⟩ := am_ltE E
  refine as_puti 27 C fl_X5_25_4 dX5_copyFrom_27 (iS_l0 _ ma1) (iS_sh _ ma1) rfl rfl hs5 ?_
  refine am_aload_n 30 C dX5_copyFrom_30 rfl 0 rfl ?_
  refine am_aload_n 31 C dX5_copyFrom_31 rfl 1 rfl ?_
  refine as_geti 32 C fl_X5_40_4 dX5_copyFrom_32 (iS_l0 _ ma2) (iS_sh _ ma2) ?_
  obtain ⟨s6, hs6, E⟩ := am_ltE E
  refine as_puti 35 C fl_X5_40_4 dX5_copyFrom_35 (iS_l0 _ ma1) (iS_sh _ ma1) rfl rfl hs6 ?_
  refine am_aload_n 38 C dX5_copyFrom_38 rfl 0 rfl ?_
  refine am_aload_n 39 C dX5_copyFrom_39 rfl 1 rfl ?_
  refine as_geti 40 C fl_X5_43_4 dX5_copyFrom_40 (iS_l0 _ ma2) (iS_sh _ ma2) ?_
  obtain ⟨s7, hs7, E⟩ := am_ltE E
  refine as_puti 43 C fl_X5_43_4 dX5_copyFrom_43 (iS_l0 _ ma1) (iS_sh _ ma1) rfl rfl hs7 ?_
  refine am_aload_n 46 C dX5_copyFrom_46 rfl 1 rfl ?_
  refine as_getr 47 C fl_X5_29_4 dX5_copyFrom_47 (iS_l0 _ ma2) (iS_sh _ ma2) (iS_r5 _ _ _ ma2) ?_
  refine am_iconst 50 (0 : Int32) C dX5_copyFrom_50 (by decide) ?_
  refine am_aload_n 51 C dX5_copyFrom_51 rfl 0 rfl ?_
  refine as_getr 52 C fl_X5_29_4 dX5_copyFrom_52 (iS_l0 _ ma1) (iS_sh _ ma1) (iS_r5 _ _ _ ma1) ?_
  refine am_iconst 55 (0 : Int32) C dX5_copyFrom_55 (by decide) ?_
  refine am_bipush 56 (nI 36) C dX5_copyFrom_56 (by decide) ?_
  obtain ⟨s8, hs8, E⟩ := am_ltE E
  refine as_copyK 58 0 0 36 C A (by decide) ml_X5_46 (iS_l14 _ ma2) (iS_l14 _ ma1) (iS_s14 _ ma2) (iS_s14 _ ma1) (by decide) (by decide) (by decide) (by decide) (Nat.le_of_ble_eq_true rfl) dX5_copyFrom_58 hs8 ?_
  refine am_aload_n 61 C dX5_copyFrom_61 rfl 0 rfl ?_
  refine am_aload_n 62 C dX5_copyFrom_62 rfl 1 rfl ?_
  refine as_geti 63 C fl_X5_52_4 dX5_copyFrom_63 (iS_l0 _ ma2) (iS_sh _ ma2) ?_
  obtain ⟨s9, hs9, E⟩ := am_ltE E
  refine as_puti 66 C fl_X5_52_4 dX5_copyFrom_66 (iS_l0 _ ma1) (iS_sh _ ma1) rfl rfl hs9 ?_
  refine am_aload_n 69 C dX5_copyFrom_69 rfl 0 rfl ?_
  refine am_aload_n 70 C dX5_copyFrom_70 rfl 1 rfl ?_
  refine as_geti 71 C fl_X5_55_4 dX5_copyFrom_71 (iS_l0 _ ma2) (iS_sh _ ma2) ?_
  obtain ⟨s10, hs10, E⟩ := am_ltE E
  refine as_puti 74 C fl_X5_55_4 dX5_copyFrom_74 (iS_l0 _ ma1) (iS_sh _ ma1) rfl rfl hs10 ?_
  refine am_aload_n 77 C dX5_copyFrom_77 rfl 0 rfl ?_
  refine am_aload_n 78 C dX5_copyFrom_78 rfl 1 rfl ?_
  refine as_geti 79 C fl_X5_58_4 dX5_copyFrom_79 (iS_l0 _ ma2) (iS_sh _ ma2) ?_
  obtain ⟨s11, hs11, E⟩ := am_ltE E
  refine as_puti 82 C fl_X5_58_4 dX5_copyFrom_82 (iS_l0 _ ma1) (iS_sh _ ma1) rfl rfl hs11 ?_
  replace E := Option.some.inj E
  subst E
  exact as_vret 85 C Z dX5_copyFrom_85
def f_X5_forgetTales  (s0 : am_S) : Option (am_S) :=
  am_lt (as_i s0 15 6 (0 : Int32)) (fun s1 => am_lt (as_i s1 15 7 (0 : Int32)) (fun s2 => am_lt (as_i s2 15 8 (0 : Int32)) (fun s3 => some s3)))
set_option maxRecDepth 100000 in
set_option maxHeartbeats 4000000 in
theorem t_X5_forgetTales (s0 : am_S) {z : am_S} (E : f_X5_forgetTales  s0 = some z) : AS yX5_forgetTales cX5_forgetTales 1 none 1 [.ref 15] s0 none z := by
  unfold f_X5_forgetTales at E
  refine as_met (lv := [(0, .ref 15)]) (by decide +kernel) (by simp [lg_sl, Value.category]) rfl (fun x C A Z => ?_)
  refine am_aload_n 0 C dX5_forgetTales_0 rfl 0 rfl ?_
  refine am_iconst 1 (0 : Int32) C dX5_forgetTales_1 (by decide) ?_
  obtain ⟨s1, hs1, E⟩ := am_ltE E
  refine as_puti 2 C fl_X5_52_4 dX5_forgetTales_2 (by decide) sh_15 rfl rfl hs1 ?_
  refine am_aload_n 5 C dX5_forgetTales_5 rfl 0 rfl ?_
  refine am_iconst 6 (0 : Int32) C dX5_forgetTales_6 (by decide) ?_
  obtain ⟨s2, hs2, E⟩ := am_ltE E
  refine as_puti 7 C fl_X5_55_4 dX5_forgetTales_7 (by decide) sh_15 rfl rfl hs2 ?_
  refine am_aload_n 10 C dX5_forgetTales_10 rfl 0 rfl ?_
  refine am_iconst 11 (0 : Int32) C dX5_forgetTales_11 (by decide) ?_
  obtain ⟨s3, hs3, E⟩ := am_ltE E
  refine as_puti 12 C fl_X5_58_4 dX5_forgetTales_12 (by decide) sh_15 rfl rfl hs3 ?_
  replace E := Option.some.inj E
  subst E
  exact as_vret 15 C Z dX5_forgetTales_15
def f_X5_settle  (s0 : am_S) : Option (am_S) :=
  am_bd (f_X8_copyFrom 16 6 s0) (fun s1 => am_lt (as_i s1 16 0 (1 : Int32)) (fun s2 => am_bd (f_X2_begin 24 s2) (fun s3 => am_lt (as_i s3 15 4 (0 : Int32)) (fun s4 => am_bd (f_X5_forgetTales s4) (fun s5 => some s5)))))
set_option maxRecDepth 100000 in
set_option maxHeartbeats 4000000 in
theorem t_X5_settle (s0 : am_S) {z : am_S} (E : f_X5_settle  s0 = some z) : AS yX5_settle cX5_settle 2 none 5 [.ref 15, .ref 6] s0 none z := by
  unfold f_X5_settle at E
  refine as_met (lv := [(0, .ref 15), (1, .ref 6)]) (by decide +kernel) (by simp [lg_sl, Value.category]) rfl (fun x C A Z => ?_)
  refine am_aload_n 0 C dX5_settle_0 rfl 0 rfl ?_
  refine as_getr 1 C fl_X5_12_4 dX5_settle_1 (by decide) sh_15 (rf_15_0 _ _) ?_
  refine am_aload_n 4 C dX5_settle_4 rfl 1 rfl ?_
  obtain ⟨s1, Ec, E⟩ := am_bdE E
  refine as_callV 5 (s2 := s1) (st := []) (st2 := []) [.ref 6] C A (by decide) ml_X5_33 yc_X8_copyFrom yv_X8_copyFrom (t_X8_copyFrom 16 6 s0 Ec) (by decide) sh_16 rfl rfl (Nat.le_of_ble_eq_true rfl) rfl dX5_settle_5 ?_
  refine am_aload_n 8 C dX5_settle_8 rfl 0 rfl ?_
  refine as_getr 9 C fl_X5_12_4 dX5_settle_9 (by decide) sh_15 (rf_15_0 _ _) ?_
  refine am_iconst 12 (1 : Int32) C dX5_settle_12 (by decide) ?_
  obtain ⟨s2, hs2, E⟩ := am_ltE E
  refine as_puti 13 C fl_X5_61_7 dX5_settle_13 (by decide) sh_16 rfl rfl hs2 ?_
  refine am_aload_n 16 C dX5_settle_16 rfl 0 rfl ?_
  refine as_getr 17 C fl_X5_21_4 dX5_settle_17 (by decide) sh_15 (rf_15_1 _ _) ?_
  refine am_aload_n 20 C dX5_settle_20 rfl 0 rfl ?_
  refine as_getr 21 C fl_X5_12_4 dX5_settle_21 (by decide) sh_15 (rf_15_0 _ _) ?_
  obtain ⟨s3, Ec, E⟩ := am_bdE E
  refine as_callV 24 (s2 := s3) (st := []) (st2 := []) [.ref 16] C A (by decide) ml_X5_65 yc_X2_begin yv_X2_begin (t_X2_begin 24 s2 Ec) (by decide) sh_24 rfl rfl (Nat.le_of_ble_eq_true rfl) rfl dX5_settle_24 ?_
  refine am_aload_n 27 C dX5_settle_27 rfl 0 rfl ?_
  refine am_iconst 28 (0 : Int32) C dX5_settle_28 (by decide) ?_
  obtain ⟨s4, hs4, E⟩ := am_ltE E
  refine as_puti 29 C fl_X5_43_4 dX5_settle_29 (by decide) sh_15 rfl rfl hs4 ?_
  refine am_aload_n 32 C dX5_settle_32 rfl 0 rfl ?_
  obtain ⟨s5, Ec, E⟩ := am_bdE E
  refine as_callV 33 (s2 := s5) (st := []) (st2 := []) [] C A (by decide) ml_X5_68 yc_X5_forgetTales yv_X5_forgetTales (t_X5_forgetTales  s4 Ec) (by decide) sh_15 rfl rfl (Nat.le_of_ble_eq_true rfl) rfl dX5_settle_33 ?_
  replace E := Option.some.inj E
  subst E
  exact as_vret 36 C Z dX5_settle_36
def f_X5_addStated (p1 : Int32) (p2 : Int32) (p3 : Int32) (s0 : am_S) : Option (am_S) :=
  am_if ((nI 12) ≤ (s0.1 15 4)) (some s0) (am_gd (¬ ((nI 3) * (s0.1 15 4)) < 0 ∧ (((nI 3) * (s0.1 15 4))).toNatClampNeg < 36) (am_lt (as_i s0 29 (((nI 3) * (s0.1 15 4))).toNatClampNeg p1) (fun s5 => am_gd (¬ (((nI 3) * (s5.1 15 4)) + (1 : Int32)) < 0 ∧ ((((nI 3) * (s5.1 15 4)) + (1 : Int32))).toNatClampNeg < 36) (am_lt (as_i s5 29 ((((nI 3) * (s5.1 15 4)) + (1 : Int32))).toNatClampNeg p2) (fun s7 => am_gd (¬ (((nI 3) * (s7.1 15 4)) + (nI 2)) < 0 ∧ ((((nI 3) * (s7.1 15 4)) + (nI 2))).toNatClampNeg < 36) (am_lt (as_i s7 29 ((((nI 3) * (s7.1 15 4)) + (nI 2))).toNatClampNeg p3) (fun s9 => am_lt (as_i s9 15 4 ((s9.1 15 4) + (1 : Int32))) (fun s10 => some s10))))))))
set_option maxRecDepth 100000 in
set_option maxHeartbeats 4000000 in
theorem t_X5_addStated (p1 : Int32) (p2 : Int32) (p3 : Int32) (s0 : am_S) {z : am_S} (E : f_X5_addStated p1 p2 p3 s0 = some z) : AS yX5_addStated cX5_addStated 4 none 1 [.ref 15, .int p1, .int p2, .int p3] s0 none z := by
  unfold f_X5_addStated at E
  refine as_met (lv := [(0, .ref 15), (1, .int p1), (2, .int p2), (3, .int p3)]) (by decide +kernel) (by simp [lg_sl, Value.category]) rfl (fun x C A Z => ?_)
  refine am_aload_n 0 C dX5_addStated_0 rfl 0 rfl ?_
  refine as_geti 1 C fl_X5_43_4 dX5_addStated_1 (by decide) sh_15 ?_
  refine am_bipush 4 (nI 12) C dX5_addStated_4 (by decide) ?_
  refine am_icmp_ge 6 59 C dX5_addStated_6 (by decide) (fun c11 => ?_) (fun c11 => ?_)
  · have E := am_ifT E c11
    replace E := Option.some.inj E
    subst E
    exact as_vret 59 C Z dX5_addStated_59
  · have E := am_ifF E c11
    refine am_aload_n 9 C dX5_addStated_9 rfl 0 rfl ?_
    refine as_getr 10 C fl_X5_29_4 dX5_addStated_10 (by decide) sh_15 (rf_15_5 _ _) ?_
    refine am_iconst 13 (nI 3) C dX5_addStated_13 (by decide) ?_
    refine am_aload_n 14 C dX5_addStated_14 rfl 0 rfl ?_
    refine as_geti 15 C fl_X5_43_4 dX5_addStated_15 (by decide) sh_15 ?_
    refine am_imul 18 C dX5_addStated_18 ?_
    refine am_iload_n 19 C dX5_addStated_19 rfl 1 rfl ?_
    obtain ⟨g4, E⟩ := am_gdE E
    obtain ⟨s5, hs5, E⟩ := am_ltE E
    refine as_iast 20 C dX5_addStated_20 (by decide) sh_29 g4 hs5 ?_
    refine am_aload_n 21 C dX5_addStated_21 rfl 0 rfl ?_
    refine as_getr 22 C fl_X5_29_4 dX5_addStated_22 (by decide) sh_15 (rf_15_5 _ _) ?_
    refine am_iconst 25 (nI 3) C dX5_addStated_25 (by decide) ?_
    refine am_aload_n 26 C dX5_addStated_26 rfl 0 rfl ?_
    refine as_geti 27 C fl_X5_43_4 dX5_addStated_27 (by decide) sh_15 ?_
    refine am_imul 30 C dX5_addStated_30 ?_
    refine am_iconst 31 (1 : Int32) C dX5_addStated_31 (by decide) ?_
    refine am_iadd 32 C dX5_addStated_32 ?_
    refine am_iload_n 33 C dX5_addStated_33 rfl 2 rfl ?_
    obtain ⟨g6, E⟩ := am_gdE E
    obtain ⟨s7, hs7, E⟩ := am_ltE E
    refine as_iast 34 C dX5_addStated_34 (by decide) sh_29 g6 hs7 ?_
    refine am_aload_n 35 C dX5_addStated_35 rfl 0 rfl ?_
    refine as_getr 36 C fl_X5_29_4 dX5_addStated_36 (by decide) sh_15 (rf_15_5 _ _) ?_
    refine am_iconst 39 (nI 3) C dX5_addStated_39 (by decide) ?_
    refine am_aload_n 40 C dX5_addStated_40 rfl 0 rfl ?_
    refine as_geti 41 C fl_X5_43_4 dX5_addStated_41 (by decide) sh_15 ?_
    refine am_imul 44 C dX5_addStated_44 ?_
    refine am_iconst 45 (nI 2) C dX5_addStated_45 (by decide) ?_
    refine am_iadd 46 C dX5_addStated_46 ?_
    refine am_iload_n 47 C dX5_addStated_47 rfl 3 rfl ?_
    obtain ⟨g8, E⟩ := am_gdE E
    obtain ⟨s9, hs9, E⟩ := am_ltE E
    refine as_iast 48 C dX5_addStated_48 (by decide) sh_29 g8 hs9 ?_
    refine am_aload_n 49 C dX5_addStated_49 rfl 0 rfl ?_
    refine am_dup 50 C dX5_addStated_50 rfl ?_
    refine as_geti 51 C fl_X5_43_4 dX5_addStated_51 (by decide) sh_15 ?_
    refine am_iconst 54 (1 : Int32) C dX5_addStated_54 (by decide) ?_
    refine am_iadd 55 C dX5_addStated_55 ?_
    obtain ⟨s10, hs10, E⟩ := am_ltE E
    refine as_puti 56 C fl_X5_43_4 dX5_addStated_56 (by decide) sh_15 rfl rfl hs10 ?_
    replace E := Option.some.inj E
    subst E
    exact as_vret 59 C Z dX5_addStated_59
def f_X5_addTale (p1 : Int32) (p2 : Int32) (s0 : am_S) : Option (am_S) :=
  am_lt (as_i s0 15 6 ((s0.1 15 6) + (1 : Int32))) (fun s3 => am_if (p2 = 0) (am_lt (as_i s3 15 8 ((s3.1 15 8) ||| ((1 : Int32) <<< (p1 &&& 31)))) (fun s4 => some s4)) (am_lt (as_i s3 15 7 ((s3.1 15 7) ||| ((1 : Int32) <<< (p1 &&& 31)))) (fun s5 => some s5)))
set_option maxRecDepth 100000 in
set_option maxHeartbeats 4000000 in
theorem t_X5_addTale (p1 : Int32) (p2 : Int32) (s0 : am_S) {z : am_S} (E : f_X5_addTale p1 p2 s0 = some z) : AS yX5_addTale cX5_addTale 3 none 1 [.ref 15, .int p1, .int p2] s0 none z := by
  unfold f_X5_addTale at E
  refine as_met (lv := [(0, .ref 15), (1, .int p1), (2, .int p2)]) (by decide +kernel) (by simp [lg_sl, Value.category]) rfl (fun x C A Z => ?_)
  refine am_aload_n 0 C dX5_addTale_0 rfl 0 rfl ?_
  refine am_dup 1 C dX5_addTale_1 rfl ?_
  refine as_geti 2 C fl_X5_52_4 dX5_addTale_2 (by decide) sh_15 ?_
  refine am_iconst 5 (1 : Int32) C dX5_addTale_5 (by decide) ?_
  refine am_iadd 6 C dX5_addTale_6 ?_
  obtain ⟨s3, hs3, E⟩ := am_ltE E
  refine as_puti 7 C fl_X5_52_4 dX5_addTale_7 (by decide) sh_15 rfl rfl hs3 ?_
  refine am_iload_n 10 C dX5_addTale_10 rfl 2 rfl ?_
  refine am_if_eq 11 29 C dX5_addTale_11 (by decide) (fun c6 => ?_) (fun c6 => ?_)
  · have E := am_ifT E c6
    refine am_aload_n 29 C dX5_addTale_29 rfl 0 rfl ?_
    refine am_dup 30 C dX5_addTale_30 rfl ?_
    refine as_geti 31 C fl_X5_58_4 dX5_addTale_31 (by decide) sh_15 ?_
    refine am_iconst 34 (1 : Int32) C dX5_addTale_34 (by decide) ?_
    refine am_iload_n 35 C dX5_addTale_35 rfl 1 rfl ?_
    refine am_ishl 36 C dX5_addTale_36 ?_
    refine am_ior 37 C dX5_addTale_37 ?_
    obtain ⟨s4, hs4, E⟩ := am_ltE E
    refine as_puti 38 C fl_X5_58_4 dX5_addTale_38 (by decide) sh_15 rfl rfl hs4 ?_
    replace E := Option.some.inj E
    subst E
    exact as_vret 41 C Z dX5_addTale_41
  · have E := am_ifF E c6
    refine am_aload_n 14 C dX5_addTale_14 rfl 0 rfl ?_
    refine am_dup 15 C dX5_addTale_15 rfl ?_
    refine as_geti 16 C fl_X5_55_4 dX5_addTale_16 (by decide) sh_15 ?_
    refine am_iconst 19 (1 : Int32) C dX5_addTale_19 (by decide) ?_
    refine am_iload_n 20 C dX5_addTale_20 rfl 1 rfl ?_
    refine am_ishl 21 C dX5_addTale_21 ?_
    refine am_ior 22 C dX5_addTale_22 ?_
    obtain ⟨s5, hs5, E⟩ := am_ltE E
    refine as_puti 23 C fl_X5_55_4 dX5_addTale_23 (by decide) sh_15 rfl rfl hs5 ?_
    refine am_goto 26 41 C dX5_addTale_26 (by decide) ?_
    replace E := Option.some.inj E
    subst E
    exact as_vret 41 C Z dX5_addTale_41
def j_X5_fitsTales_21 (p1 : Int32) (s0 : am_S) (v3 : Int32) : Option (Int32) :=
  am_if (v3 = 0) (am_if (((s0.1 15 7) &&& (p1 ^^^ (-1 : Int32))) = 0) (am_if (((s0.1 15 8) &&& p1) = 0) (some (1 : Int32)) (some (0 : Int32))) (some (0 : Int32))) (some (0 : Int32))
def f_X5_fitsTales (p1 : Int32) (p2 : Int32) (s0 : am_S) : Option (Int32) :=
  am_if ((((s0.1 15 7) ||| (s0.1 15 8)) &&& (p2 ^^^ (-1 : Int32))) = 0) (j_X5_fitsTales_21 p1 s0 (0 : Int32)) (j_X5_fitsTales_21 p1 s0 (1 : Int32))
set_option maxRecDepth 100000 in
set_option maxHeartbeats 4000000 in
theorem t_X5_fitsTales (p1 : Int32) (p2 : Int32) (s0 : am_S) {z : Int32} (E : f_X5_fitsTales p1 p2 s0 = some z) : AS yX5_fitsTales cX5_fitsTales 4 (some .boolean) 1 [.ref 15, .int p1, .int p2] s0 (some (.int z)) s0 := by
  unfold f_X5_fitsTales at E
  refine as_met (lv := [(0, .ref 15), (1, .int p1), (2, .int p2)]) (by decide +kernel) (by simp [lg_sl, Value.category]) rfl (fun x C A Z => ?_)
  have K21 : ∀ (v3 : Int32), j_X5_fitsTales_21 p1 s0 v3 = some z → AX x 0 0 21 [(0, .ref 15), (1, .int p1)] [.int v3] am_N (am_h s0) := by
    intro v3 E
    unfold j_X5_fitsTales_21 at E
    refine am_istore_n 21 (lv2 := [(3, .int v3), (0, .ref 15), (1, .int p1)]) C dX5_fitsTales_21 rfl (by decide) rfl ?_
    refine am_iload_n 22 C dX5_fitsTales_22 rfl 0 rfl ?_
    refine am_if_ne 23 50 C dX5_fitsTales_23 (by decide) (fun c6 => ?_) (fun c6 => ?_)
    · have E := am_ifF E c6
      refine am_iconst 50 (0 : Int32) C dX5_fitsTales_50 (by decide) ?_
      replace E := Option.some.inj E
      subst E
      exact as_iret 51 C Z rfl dX5_fitsTales_51
    · have E := am_ifT E c6
      refine am_aload_n 26 C dX5_fitsTales_26 rfl 1 rfl ?_
      refine as_geti 27 C fl_X5_55_4 dX5_fitsTales_27 (by decide) sh_15 ?_
      refine am_iload_n 30 C dX5_fitsTales_30 rfl 2 rfl ?_
      refine am_iconst 31 (-1 : Int32) C dX5_fitsTales_31 (by decide) ?_
      refine am_ixor 32 C dX5_fitsTales_32 ?_
      refine am_iand 33 C dX5_fitsTales_33 ?_
      refine am_if_ne 34 50 C dX5_fitsTales_34 (by decide) (fun c5 => ?_) (fun c5 => ?_)
      · have E := am_ifF E c5
        refine am_iconst 50 (0 : Int32) C dX5_fitsTales_50 (by decide) ?_
        replace E := Option.some.inj E
        subst E
        exact as_iret 51 C Z rfl dX5_fitsTales_51
      · have E := am_ifT E c5
        refine am_aload_n 37 C dX5_fitsTales_37 rfl 1 rfl ?_
        refine as_geti 38 C fl_X5_58_4 dX5_fitsTales_38 (by decide) sh_15 ?_
        refine am_iload_n 41 C dX5_fitsTales_41 rfl 2 rfl ?_
        refine am_iand 42 C dX5_fitsTales_42 ?_
        refine am_if_ne 43 50 C dX5_fitsTales_43 (by decide) (fun c4 => ?_) (fun c4 => ?_)
        · have E := am_ifF E c4
          refine am_iconst 50 (0 : Int32) C dX5_fitsTales_50 (by decide) ?_
          replace E := Option.some.inj E
          subst E
          exact as_iret 51 C Z rfl dX5_fitsTales_51
        · have E := am_ifT E c4
          refine am_iconst 46 (1 : Int32) C dX5_fitsTales_46 (by decide) ?_
          refine am_goto 47 51 C dX5_fitsTales_47 (by decide) ?_
          replace E := Option.some.inj E
          subst E
          exact as_iret 51 C Z rfl dX5_fitsTales_51
  refine am_aload_n 0 C dX5_fitsTales_0 rfl 0 rfl ?_
  refine as_geti 1 C fl_X5_55_4 dX5_fitsTales_1 (by decide) sh_15 ?_
  refine am_aload_n 4 C dX5_fitsTales_4 rfl 0 rfl ?_
  refine as_geti 5 C fl_X5_58_4 dX5_fitsTales_5 (by decide) sh_15 ?_
  refine am_ior 8 C dX5_fitsTales_8 ?_
  refine am_iload_n 9 C dX5_fitsTales_9 rfl 2 rfl ?_
  refine am_iconst 10 (-1 : Int32) C dX5_fitsTales_10 (by decide) ?_
  refine am_ixor 11 C dX5_fitsTales_11 ?_
  refine am_iand 12 C dX5_fitsTales_12 ?_
  refine am_if_eq 13 20 C dX5_fitsTales_13 (by decide) (fun c7 => ?_) (fun c7 => ?_)
  · have E := am_ifT E c7
    refine am_iconst 20 (0 : Int32) C dX5_fitsTales_20 (by decide) ?_
    refine am_lvs [0, 1] rfl ?_
    exact K21 _ E
  · have E := am_ifF E c7
    refine am_iconst 16 (1 : Int32) C dX5_fitsTales_16 (by decide) ?_
    refine am_goto 17 21 C dX5_fitsTales_17 (by decide) ?_
    refine am_lvs [0, 1] rfl ?_
    exact K21 _ E
def f_X7_isLetter (p1 : Int32) : Option (Int32) :=
  am_if (p1 < (nI 97)) (some (0 : Int32)) (am_if ((nI 122) < p1) (some (0 : Int32)) (some (1 : Int32)))
set_option maxRecDepth 100000 in
set_option maxHeartbeats 4000000 in
theorem t_X7_isLetter (p1 : Int32) (s0 : am_S) {z : Int32} (E : f_X7_isLetter p1 = some z) : AS yX7_isLetter cX7_isLetter 1 (some .boolean) 1 [.int p1] s0 (some (.int z)) s0 := by
  unfold f_X7_isLetter at E
  refine as_met (lv := [(0, .int p1)]) (by decide +kernel) (by simp [lg_sl, Value.category]) rfl (fun x C A Z => ?_)
  refine am_iload_n 0 C dX7_isLetter_0 rfl 0 rfl ?_
  refine am_bipush 1 (nI 97) C dX7_isLetter_1 (by decide) ?_
  refine am_icmp_lt 3 16 C dX7_isLetter_3 (by decide) (fun c3 => ?_) (fun c3 => ?_)
  · have E := am_ifT E c3
    refine am_iconst 16 (0 : Int32) C dX7_isLetter_16 (by decide) ?_
    replace E := Option.some.inj E
    subst E
    exact as_iret 17 C Z rfl dX7_isLetter_17
  · have E := am_ifF E c3
    refine am_iload_n 6 C dX7_isLetter_6 rfl 0 rfl ?_
    refine am_bipush 7 (nI 122) C dX7_isLetter_7 (by decide) ?_
    refine am_icmp_gt 9 16 C dX7_isLetter_9 (by decide) (fun c2 => ?_) (fun c2 => ?_)
    · have E := am_ifT E c2
      refine am_iconst 16 (0 : Int32) C dX7_isLetter_16 (by decide) ?_
      replace E := Option.some.inj E
      subst E
      exact as_iret 17 C Z rfl dX7_isLetter_17
    · have E := am_ifF E c2
      refine am_iconst 12 (1 : Int32) C dX7_isLetter_12 (by decide) ?_
      refine am_goto 13 17 C dX7_isLetter_13 (by decide) ?_
      replace E := Option.some.inj E
      subst E
      exact as_iret 17 C Z rfl dX7_isLetter_17
def f_X7_isDigit (p1 : Int32) : Option (Int32) :=
  am_if (p1 < (nI 48)) (some (0 : Int32)) (am_if ((nI 57) < p1) (some (0 : Int32)) (some (1 : Int32)))
set_option maxRecDepth 100000 in
set_option maxHeartbeats 4000000 in
theorem t_X7_isDigit (p1 : Int32) (s0 : am_S) {z : Int32} (E : f_X7_isDigit p1 = some z) : AS yX7_isDigit cX7_isDigit 1 (some .boolean) 1 [.int p1] s0 (some (.int z)) s0 := by
  unfold f_X7_isDigit at E
  refine as_met (lv := [(0, .int p1)]) (by decide +kernel) (by simp [lg_sl, Value.category]) rfl (fun x C A Z => ?_)
  refine am_iload_n 0 C dX7_isDigit_0 rfl 0 rfl ?_
  refine am_bipush 1 (nI 48) C dX7_isDigit_1 (by decide) ?_
  refine am_icmp_lt 3 16 C dX7_isDigit_3 (by decide) (fun c3 => ?_) (fun c3 => ?_)
  · have E := am_ifT E c3
    refine am_iconst 16 (0 : Int32) C dX7_isDigit_16 (by decide) ?_
    replace E := Option.some.inj E
    subst E
    exact as_iret 17 C Z rfl dX7_isDigit_17
  · have E := am_ifF E c3
    refine am_iload_n 6 C dX7_isDigit_6 rfl 0 rfl ?_
    refine am_bipush 7 (nI 57) C dX7_isDigit_7 (by decide) ?_
    refine am_icmp_gt 9 16 C dX7_isDigit_9 (by decide) (fun c2 => ?_) (fun c2 => ?_)
    · have E := am_ifT E c2
      refine am_iconst 16 (0 : Int32) C dX7_isDigit_16 (by decide) ?_
      replace E := Option.some.inj E
      subst E
      exact as_iret 17 C Z rfl dX7_isDigit_17
    · have E := am_ifF E c2
      refine am_iconst 12 (1 : Int32) C dX7_isDigit_12 (by decide) ?_
      refine am_goto 13 17 C dX7_isDigit_13 (by decide) ?_
      replace E := Option.some.inj E
      subst E
      exact as_iret 17 C Z rfl dX7_isDigit_17
def f_X7_goesOn (p1 : Int32) (p2 : Int32) : Option (Int32) :=
  am_bd (f_X7_isLetter p2) (fun v3 => am_if (v3 = 0) (am_bd (f_X7_isDigit p2) (fun v4 => am_if (v4 = 0) (am_if (p2 = (nI 61)) (am_if (p1 = (nI 60)) (some (1 : Int32)) (am_if (p1 = (nI 62)) (some (1 : Int32)) (some (0 : Int32)))) (some (0 : Int32))) (am_bd (f_X7_isDigit p1) (fun v8 => am_gd (v8 = 0 ∨ v8 = 1) (some v8))))) (am_bd (f_X7_isLetter p1) (fun v11 => am_gd (v11 = 0 ∨ v11 = 1) (some v11))))
set_option maxRecDepth 100000 in
set_option maxHeartbeats 4000000 in
theorem t_X7_goesOn (p1 : Int32) (p2 : Int32) (s0 : am_S) {z : Int32} (E : f_X7_goesOn p1 p2 = some z) : AS yX7_goesOn cX7_goesOn 2 (some .boolean) 2 [.int p1, .int p2] s0 (some (.int z)) s0 := by
  unfold f_X7_goesOn at E
  refine as_met (lv := [(0, .int p1), (1, .int p2)]) (by decide +kernel) (by simp [lg_sl, Value.category]) rfl (fun x C A Z => ?_)
  refine am_iload_n 0 C dX7_goesOn_0 rfl 1 rfl ?_
  obtain ⟨v3, Ec, E⟩ := am_bdE E
  refine as_callS 1 (s2 := s0) (st := []) (st2 := [.int v3]) [.int p2] C A (by decide) ml_X7_47 yc_X7_isLetter ys_X7_isLetter (t_X7_isLetter p2 s0 Ec) rfl rfl (Nat.le_of_ble_eq_true rfl) rfl dX7_goesOn_1 ?_
  refine am_if_eq 4 12 C dX7_goesOn_4 (by decide) (fun c13 => ?_) (fun c13 => ?_)
  · have E := am_ifT E c13
    refine am_iload_n 12 C dX7_goesOn_12 rfl 1 rfl ?_
    obtain ⟨v4, Ec, E⟩ := am_bdE E
    refine as_callS 13 (s2 := s0) (st := []) (st2 := [.int v4]) [.int p2] C A (by decide) ml_X7_51 yc_X7_isDigit ys_X7_isDigit (t_X7_isDigit p2 s0 Ec) rfl rfl (Nat.le_of_ble_eq_true rfl) rfl dX7_goesOn_13 ?_
    refine am_if_eq 16 24 C dX7_goesOn_16 (by decide) (fun c10 => ?_) (fun c10 => ?_)
    · have E := am_ifT E c10
      refine am_iload_n 24 C dX7_goesOn_24 rfl 1 rfl ?_
      refine am_bipush 25 (nI 61) C dX7_goesOn_25 (by decide) ?_
      refine am_icmp_ne 27 46 C dX7_goesOn_27 (by decide) (fun c7 => ?_) (fun c7 => ?_)
      · have E := am_ifF E c7
        refine am_iconst 46 (0 : Int32) C dX7_goesOn_46 (by decide) ?_
        replace E := Option.some.inj E
        subst E
        exact as_iret 47 C Z rfl dX7_goesOn_47
      · have E := am_ifT E c7
        refine am_iload_n 30 C dX7_goesOn_30 rfl 0 rfl ?_
        refine am_bipush 31 (nI 60) C dX7_goesOn_31 (by decide) ?_
        refine am_icmp_eq 33 42 C dX7_goesOn_33 (by decide) (fun c6 => ?_) (fun c6 => ?_)
        · have E := am_ifT E c6
          refine am_iconst 42 (1 : Int32) C dX7_goesOn_42 (by decide) ?_
          refine am_goto 43 47 C dX7_goesOn_43 (by decide) ?_
          replace E := Option.some.inj E
          subst E
          exact as_iret 47 C Z rfl dX7_goesOn_47
        · have E := am_ifF E c6
          refine am_iload_n 36 C dX7_goesOn_36 rfl 0 rfl ?_
          refine am_bipush 37 (nI 62) C dX7_goesOn_37 (by decide) ?_
          refine am_icmp_ne 39 46 C dX7_goesOn_39 (by decide) (fun c5 => ?_) (fun c5 => ?_)
          · have E := am_ifF E c5
            refine am_iconst 46 (0 : Int32) C dX7_goesOn_46 (by decide) ?_
            replace E := Option.some.inj E
            subst E
            exact as_iret 47 C Z rfl dX7_goesOn_47
          · have E := am_ifT E c5
            refine am_iconst 42 (1 : Int32) C dX7_goesOn_42 (by decide) ?_
            refine am_goto 43 47 C dX7_goesOn_43 (by decide) ?_
            replace E := Option.some.inj E
            subst E
            exact as_iret 47 C Z rfl dX7_goesOn_47
    · have E := am_ifF E c10
      refine am_iload_n 19 C dX7_goesOn_19 rfl 0 rfl ?_
      obtain ⟨v8, Ec, E⟩ := am_bdE E
      refine as_callS 20 (s2 := s0) (st := []) (st2 := [.int v8]) [.int p1] C A (by decide) ml_X7_51 yc_X7_isDigit ys_X7_isDigit (t_X7_isDigit p1 s0 Ec) rfl rfl (Nat.le_of_ble_eq_true rfl) rfl dX7_goesOn_20 ?_
      obtain ⟨g9, E⟩ := am_gdE E
      replace E := Option.some.inj E
      subst E
      exact as_iret 23 C Z (am_nb g9) dX7_goesOn_23
  · have E := am_ifF E c13
    refine am_iload_n 7 C dX7_goesOn_7 rfl 0 rfl ?_
    obtain ⟨v11, Ec, E⟩ := am_bdE E
    refine as_callS 8 (s2 := s0) (st := []) (st2 := [.int v11]) [.int p1] C A (by decide) ml_X7_47 yc_X7_isLetter ys_X7_isLetter (t_X7_isLetter p1 s0 Ec) rfl rfl (Nat.le_of_ble_eq_true rfl) rfl dX7_goesOn_8 ?_
    obtain ⟨g12, E⟩ := am_gdE E
    replace E := Option.some.inj E
    subst E
    exact as_iret 11 C Z (am_nb g12) dX7_goesOn_11
def f_X7_kindOf (p1 : Int32) : Option (Int32) :=
  am_bd (f_X7_isLetter p1) (fun v2 => am_if (v2 = 0) (am_bd (f_X7_isDigit p1) (fun v3 => am_if (v3 = 0) (am_if (p1 = (nI 60)) (some (nI 4)) (am_if (p1 = (nI 61)) (some (nI 4)) (am_if (p1 = (nI 62)) (some (nI 4)) (some (nI 5))))) (some (nI 2)))) (some (1 : Int32)))
set_option maxRecDepth 100000 in
set_option maxHeartbeats 4000000 in
theorem t_X7_kindOf (p1 : Int32) (s0 : am_S) {z : Int32} (E : f_X7_kindOf p1 = some z) : AS yX7_kindOf cX7_kindOf 1 (some .int) 2 [.int p1] s0 (some (.int z)) s0 := by
  unfold f_X7_kindOf at E
  refine as_met (lv := [(0, .int p1)]) (by decide +kernel) (by simp [lg_sl, Value.category]) rfl (fun x C A Z => ?_)
  refine am_iload_n 0 C dX7_kindOf_0 rfl 0 rfl ?_
  obtain ⟨v2, Ec, E⟩ := am_bdE E
  refine as_callS 1 (s2 := s0) (st := []) (st2 := [.int v2]) [.int p1] C A (by decide) ml_X7_47 yc_X7_isLetter ys_X7_isLetter (t_X7_isLetter p1 s0 Ec) rfl rfl (Nat.le_of_ble_eq_true rfl) rfl dX7_kindOf_1 ?_
  refine am_if_eq 4 9 C dX7_kindOf_4 (by decide) (fun c8 => ?_) (fun c8 => ?_)
  · have E := am_ifT E c8
    refine am_iload_n 9 C dX7_kindOf_9 rfl 0 rfl ?_
    obtain ⟨v3, Ec, E⟩ := am_bdE E
    refine as_callS 10 (s2 := s0) (st := []) (st2 := [.int v3]) [.int p1] C A (by decide) ml_X7_51 yc_X7_isDigit ys_X7_isDigit (t_X7_isDigit p1 s0 Ec) rfl rfl (Nat.le_of_ble_eq_true rfl) rfl dX7_kindOf_10 ?_
    refine am_if_eq 13 18 C dX7_kindOf_13 (by decide) (fun c7 => ?_) (fun c7 => ?_)
    · have E := am_ifT E c7
      refine am_iload_n 18 C dX7_kindOf_18 rfl 0 rfl ?_
      refine am_bipush 19 (nI 60) C dX7_kindOf_19 (by decide) ?_
      refine am_icmp_eq 21 36 C dX7_kindOf_21 (by decide) (fun c6 => ?_) (fun c6 => ?_)
      · have E := am_ifT E c6
        refine am_iconst 36 (nI 4) C dX7_kindOf_36 (by decide) ?_
        refine am_goto 37 41 C dX7_kindOf_37 (by decide) ?_
        replace E := Option.some.inj E
        subst E
        exact as_iret 41 C Z rfl dX7_kindOf_41
      · have E := am_ifF E c6
        refine am_iload_n 24 C dX7_kindOf_24 rfl 0 rfl ?_
        refine am_bipush 25 (nI 61) C dX7_kindOf_25 (by decide) ?_
        refine am_icmp_eq 27 36 C dX7_kindOf_27 (by decide) (fun c5 => ?_) (fun c5 => ?_)
        · have E := am_ifT E c5
          refine am_iconst 36 (nI 4) C dX7_kindOf_36 (by decide) ?_
          refine am_goto 37 41 C dX7_kindOf_37 (by decide) ?_
          replace E := Option.some.inj E
          subst E
          exact as_iret 41 C Z rfl dX7_kindOf_41
        · have E := am_ifF E c5
          refine am_iload_n 30 C dX7_kindOf_30 rfl 0 rfl ?_
          refine am_bipush 31 (nI 62) C dX7_kindOf_31 (by decide) ?_
          refine am_icmp_ne 33 40 C dX7_kindOf_33 (by decide) (fun c4 => ?_) (fun c4 => ?_)
          · have E := am_ifF E c4
            refine am_iconst 40 (nI 5) C dX7_kindOf_40 (by decide) ?_
            replace E := Option.some.inj E
            subst E
            exact as_iret 41 C Z rfl dX7_kindOf_41
          · have E := am_ifT E c4
            refine am_iconst 36 (nI 4) C dX7_kindOf_36 (by decide) ?_
            refine am_goto 37 41 C dX7_kindOf_37 (by decide) ?_
            replace E := Option.some.inj E
            subst E
            exact as_iret 41 C Z rfl dX7_kindOf_41
    · have E := am_ifF E c7
      refine am_iconst 16 (nI 2) C dX7_kindOf_16 (by decide) ?_
      replace E := Option.some.inj E
      subst E
      exact as_iret 17 C Z rfl dX7_kindOf_17
  · have E := am_ifF E c8
    refine am_iconst 7 (1 : Int32) C dX7_kindOf_7 (by decide) ?_
    replace E := Option.some.inj E
    subst E
    exact as_iret 8 C Z rfl dX7_kindOf_8
def f_X7_begin (p1 : Int32) (p2 : Int32) (s0 : am_S) : Option (am_S) :=
  am_if ((nI 401) ≤ (s0.1 2 3)) (some s0) (am_gd (¬ (s0.1 2 3) < 0 ∧ ((s0.1 2 3)).toNatClampNeg < 401) (am_lt (as_i s0 3 ((s0.1 2 3)).toNatClampNeg p1) (fun s4 => am_gd (¬ (s4.1 2 3) < 0 ∧ ((s4.1 2 3)).toNatClampNeg < 401) (am_lt (as_i s4 4 ((s4.1 2 3)).toNatClampNeg (1 : Int32)) (fun s6 => am_gd (¬ (s6.1 2 3) < 0 ∧ ((s6.1 2 3)).toNatClampNeg < 401) (am_lt (as_i s6 5 ((s6.1 2 3)).toNatClampNeg p2) (fun s8 => am_lt (as_i s8 2 3 ((s8.1 2 3) + (1 : Int32))) (fun s9 => some s9))))))))
set_option maxRecDepth 100000 in
set_option maxHeartbeats 4000000 in
theorem t_X7_begin (p1 : Int32) (p2 : Int32) (s0 : am_S) {z : am_S} (E : f_X7_begin p1 p2 s0 = some z) : AS yX7_begin cX7_begin 3 none 1 [.ref 2, .int p1, .int p2] s0 none z := by
  unfold f_X7_begin at E
  refine as_met (lv := [(0, .ref 2), (1, .int p1), (2, .int p2)]) (by decide +kernel) (by simp [lg_sl, Value.category]) rfl (fun x C A Z => ?_)
  refine am_aload_n 0 C dX7_begin_0 rfl 0 rfl ?_
  refine as_geti 1 C fl_X7_21_6 dX7_begin_1 (by decide) sh_2 ?_
  refine am_aload_n 4 C dX7_begin_4 rfl 0 rfl ?_
  refine as_getr 5 C fl_X7_9_6 dX7_begin_5 (by decide) sh_2 (rf_2_0 _ _) ?_
  refine am_alen 8 (nI 401) C dX7_begin_8 (by decide) sh_3 (by decide) (by decide) ?_
  refine am_icmp_ge 9 52 C dX7_begin_9 (by decide) (fun c10 => ?_) (fun c10 => ?_)
  · have E := am_ifT E c10
    replace E := Option.some.inj E
    subst E
    exact as_vret 52 C Z dX7_begin_52
  · have E := am_ifF E c10
    refine am_aload_n 12 C dX7_begin_12 rfl 0 rfl ?_
    refine as_getr 13 C fl_X7_9_6 dX7_begin_13 (by decide) sh_2 (rf_2_0 _ _) ?_
    refine am_aload_n 16 C dX7_begin_16 rfl 0 rfl ?_
    refine as_geti 17 C fl_X7_21_6 dX7_begin_17 (by decide) sh_2 ?_
    refine am_iload_n 20 C dX7_begin_20 rfl 1 rfl ?_
    obtain ⟨g3, E⟩ := am_gdE E
    obtain ⟨s4, hs4, E⟩ := am_ltE E
    refine as_iast 21 C dX7_begin_21 (by decide) sh_3 g3 hs4 ?_
    refine am_aload_n 22 C dX7_begin_22 rfl 0 rfl ?_
    refine as_getr 23 C fl_X7_15_6 dX7_begin_23 (by decide) sh_2 (rf_2_1 _ _) ?_
    refine am_aload_n 26 C dX7_begin_26 rfl 0 rfl ?_
    refine as_geti 27 C fl_X7_21_6 dX7_begin_27 (by decide) sh_2 ?_
    refine am_iconst 30 (1 : Int32) C dX7_begin_30 (by decide) ?_
    obtain ⟨g5, E⟩ := am_gdE E
    obtain ⟨s6, hs6, E⟩ := am_ltE E
    refine as_iast 31 C dX7_begin_31 (by decide) sh_4 g5 hs6 ?_
    refine am_aload_n 32 C dX7_begin_32 rfl 0 rfl ?_
    refine as_getr 33 C fl_X7_18_6 dX7_begin_33 (by decide) sh_2 (rf_2_2 _ _) ?_
    refine am_aload_n 36 C dX7_begin_36 rfl 0 rfl ?_
    refine as_geti 37 C fl_X7_21_6 dX7_begin_37 (by decide) sh_2 ?_
    refine am_iload_n 40 C dX7_begin_40 rfl 2 rfl ?_
    obtain ⟨g7, E⟩ := am_gdE E
    obtain ⟨s8, hs8, E⟩ := am_ltE E
    refine as_iast 41 C dX7_begin_41 (by decide) sh_5 g7 hs8 ?_
    refine am_aload_n 42 C dX7_begin_42 rfl 0 rfl ?_
    refine am_dup 43 C dX7_begin_43 rfl ?_
    refine as_geti 44 C fl_X7_21_6 dX7_begin_44 (by decide) sh_2 ?_
    refine am_iconst 47 (1 : Int32) C dX7_begin_47 (by decide) ?_
    refine am_iadd 48 C dX7_begin_48 ?_
    obtain ⟨s9, hs9, E⟩ := am_ltE E
    refine as_puti 49 C fl_X7_21_6 dX7_begin_49 (by decide) sh_2 rfl rfl hs9 ?_
    replace E := Option.some.inj E
    subst E
    exact as_vret 52 C Z dX7_begin_52
def j_X7_wordNumber_83 (p1 : Int32) (v8 : Int32) (v9 : Int32) : Option ((Int32 × Int32 × Int32 × Int32) ⊕ (Int32)) :=
  am_lt (v8 + (1 : Int32)) (fun v10 => am_lt (v9 + (1 : Int32)) (fun v11 => some (Sum.inl (v10, p1, (1 : Int32), v11))))
def j_X7_wordNumber_61 (v12 : Int32) (v13 : Int32) (v14 : Int32) : Option ((Int32 × Int32 × Int32 × Int32) ⊕ (Int32)) :=
  am_lt (v13 + (1 : Int32)) (fun v15 => am_lt (v14 + (1 : Int32)) (fun v16 => some (Sum.inl (v12, v15, (0 : Int32), v16))))
def b_X7_wordNumber_11 (p1 : Int32) (p2 : Int32) (s0 : am_S) (v4 : Int32) (v5 : Int32) (v6 : Int32) (v7 : Int32) : Option ((Int32 × Int32 × Int32 × Int32) ⊕ (Int32)) :=
  am_if ((nI 127) ≤ v7) (some (Sum.inr (-1 : Int32))) (am_gd (¬ v7 < 0 ∧ (v7).toNatClampNeg < 127) (am_lt (am_wd.getD (v7).toNatClampNeg 0) (fun v18 => am_if (v18 = (nI 32)) (am_if (v6 = 0) (j_X7_wordNumber_83 p1 v4 v7) (am_if (v5 = p2) (some (Sum.inr v4)) (j_X7_wordNumber_83 p1 v4 v7))) (am_if (v6 = 0) (j_X7_wordNumber_61 v4 v5 v7) (am_if (p2 ≤ v5) (j_X7_wordNumber_61 v4 v5 v7) (am_gd (¬ v5 < 0 ∧ (v5).toNatClampNeg < 400) (am_if ((s0.1 1 (v5).toNatClampNeg) = v18) (am_lt (v5 + (1 : Int32)) (fun v22 => am_lt (v7 + (1 : Int32)) (fun v23 => some (Sum.inl (v4, v22, (1 : Int32), v23))))) (j_X7_wordNumber_61 v4 v5 v7))))))))
def f_X7_wordNumber (p1 : Int32) (p2 : Int32) (s0 : am_S) : Option (Int32) :=
  am_lp (fun (q : Int32 × Int32 × Int32 × Int32) => b_X7_wordNumber_11 p1 p2 s0 q.1 q.2.1 q.2.2.1 q.2.2.2) am_F ((0 : Int32), p1, (1 : Int32), (0 : Int32))
set_option maxRecDepth 100000 in
set_option maxHeartbeats 4000000 in
theorem t_X7_wordNumber (p1 : Int32) (p2 : Int32) (s0 : am_S) {z : Int32} (E : f_X7_wordNumber p1 p2 s0 = some z) : AS yX7_wordNumber cX7_wordNumber 8 (some .int) 6 [.ref 1, .int p1, .int p2] s0 (some (.int z)) s0 := by
  unfold f_X7_wordNumber at E
  refine as_met (lv := [(0, .ref 1), (1, .int p1), (2, .int p2)]) (by decide +kernel) (by simp [lg_sl, Value.category]) rfl (fun x C A Z => ?_)
  refine am_iconst 0 (0 : Int32) C dX7_wordNumber_0 (by decide) ?_
  refine am_istore_n 1 (lv2 := [(3, .int (0 : Int32)), (0, .ref 1), (1, .int p1), (2, .int p2)]) C dX7_wordNumber_1 rfl (by decide) rfl ?_
  refine am_iload_n 2 C dX7_wordNumber_2 rfl 2 rfl ?_
  refine am_istore 3 (lv2 := [(4, .int p1), (3, .int (0 : Int32)), (0, .ref 1), (1, .int p1), (2, .int p2)]) C dX7_wordNumber_3 (by decide) rfl ?_
  refine am_iconst 5 (1 : Int32) C dX7_wordNumber_5 (by decide) ?_
  refine am_istore 6 (lv2 := [(5, .int (1 : Int32)), (4, .int p1), (3, .int (0 : Int32)), (0, .ref 1), (1, .int p1), (2, .int p2)]) C dX7_wordNumber_6 (by decide) rfl ?_
  refine am_iconst 8 (0 : Int32) C dX7_wordNumber_8 (by decide) ?_
  refine am_istore 9 (lv2 := [(6, .int (0 : Int32)), (5, .int (1 : Int32)), (4, .int p1), (3, .int (0 : Int32)), (0, .ref 1), (1, .int p1), (2, .int p2)]) C dX7_wordNumber_9 (by decide) rfl ?_
  have LP3 : ∀ (n : Nat) (v4 : Int32) (v5 : Int32) (v6 : Int32) (v7 : Int32), am_lp (fun (q : Int32 × Int32 × Int32 × Int32) => b_X7_wordNumber_11 p1 p2 s0 q.1 q.2.1 q.2.2.1 q.2.2.2) n (v4, v5, v6, v7) = some z → AX x 0 0 11 [(0, .ref 1), (1, .int p1), (2, .int p2), (3, .int v4), (4, .int v5), (5, .int v6), (6, .int v7)] [] am_N (am_h s0) := by
    intro n
    induction n with
    | zero => intro v4 v5 v6 v7 E; exact (am_lp0 E).elim
    | succ n ih3 =>
      intro v4 v5 v6 v7 E
      obtain ⟨r3, E, Er3⟩ := am_lpE E
      replace E : b_X7_wordNumber_11 p1 p2 s0 v4 v5 v6 v7 = some r3 := E
      unfold b_X7_wordNumber_11 at E
      have K83 : ∀ (v8 : Int32) (v9 : Int32), j_X7_wordNumber_83 p1 v8 v9 = some r3 → AX x 0 0 83 [(0, .ref 1), (1, .int p1), (2, .int p2), (3, .int v8), (6, .int v9)] [] am_N (am_h s0) := by
        intro v8 v9 E
        unfold j_X7_wordNumber_83 at E
        obtain ⟨v10, hv10, E⟩ := am_ltE E
        refine as_iinc 83 (q := (1 : Int32)) (lv2 := [(3, .int v10), (0, .ref 1), (1, .int p1), (2, .int p2), (6, .int v9)]) C dX7_wordNumber_83 3 rfl (by decide) hv10 (by decide) rfl ?_
        refine am_iload_n 86 C dX7_wordNumber_86 rfl 2 rfl ?_
        refine am_istore 87 (lv2 := [(4, .int p1), (3, .int v10), (0, .ref 1), (1, .int p1), (2, .int p2), (6, .int v9)]) C dX7_wordNumber_87 (by decide) rfl ?_
        refine am_iconst 89 (1 : Int32) C dX7_wordNumber_89 (by decide) ?_
        refine am_istore 90 (lv2 := [(5, .int (1 : Int32)), (4, .int p1), (3, .int v10), (0, .ref 1), (1, .int p1), (2, .int p2), (6, .int v9)]) C dX7_wordNumber_90 (by decide) rfl ?_
        obtain ⟨v11, hv11, E⟩ := am_ltE E
        refine as_iinc 92 (q := (1 : Int32)) (lv2 := [(6, .int v11), (5, .int (1 : Int32)), (4, .int p1), (3, .int v10), (0, .ref 1), (1, .int p1), (2, .int p2)]) C dX7_wordNumber_92 6 rfl (by decide) hv11 (by decide) rfl ?_
        refine am_goto 95 11 C dX7_wordNumber_95 (by decide) ?_
        replace E := Option.some.inj E
        replace E := am_exL E Er3
        refine am_lvs [4, 5, 6, 3, 2, 1, 0] rfl ?_
        exact ih3 _ _ _ _ E
      have K61 : ∀ (v12 : Int32) (v13 : Int32) (v14 : Int32), j_X7_wordNumber_61 v12 v13 v14 = some r3 → AX x 0 0 61 [(0, .ref 1), (1, .int p1), (2, .int p2), (3, .int v12), (4, .int v13), (6, .int v14)] [] am_N (am_h s0) := by
        intro v12 v13 v14 E
        unfold j_X7_wordNumber_61 at E
        refine am_iconst 61 (0 : Int32) C dX7_wordNumber_61 (by decide) ?_
        refine am_istore 62 (lv2 := [(5, .int (0 : Int32)), (0, .ref 1), (1, .int p1), (2, .int p2), (3, .int v12), (4, .int v13), (6, .int v14)]) C dX7_wordNumber_62 (by decide) rfl ?_
        obtain ⟨v15, hv15, E⟩ := am_ltE E
        refine as_iinc 64 (q := (1 : Int32)) (lv2 := [(4, .int v15), (5, .int (0 : Int32)), (0, .ref 1), (1, .int p1), (2, .int p2), (3, .int v12), (6, .int v14)]) C dX7_wordNumber_64 5 rfl (by decide) hv15 (by decide) rfl ?_
        refine am_goto 67 92 C dX7_wordNumber_67 (by decide) ?_
        obtain ⟨v16, hv16, E⟩ := am_ltE E
        refine as_iinc 92 (q := (1 : Int32)) (lv2 := [(6, .int v16), (4, .int v15), (5, .int (0 : Int32)), (0, .ref 1), (1, .int p1), (2, .int p2), (3, .int v12)]) C dX7_wordNumber_92 6 rfl (by decide) hv16 (by decide) rfl ?_
        refine am_goto 95 11 C dX7_wordNumber_95 (by decide) ?_
        replace E := Option.some.inj E
        replace E := am_exL E Er3
        refine am_lvs [3, 4, 5, 6, 1, 2, 0] rfl ?_
        exact ih3 _ _ _ _ E
      refine am_iload 11 C dX7_wordNumber_11 6 rfl ?_
      refine as_slen 13 C A (by decide) (Nat.le_of_ble_eq_true rfl) dX7_wordNumber_13 dX7_wordNumber_15 ?_
      refine am_icmp_ge 18 98 C dX7_wordNumber_18 (by decide) (fun c28 => ?_) (fun c28 => ?_)
      · have E := am_ifT E c28
        refine am_iconst 98 (-1 : Int32) C dX7_wordNumber_98 (by decide) ?_
        replace E := Option.some.inj E
        replace E := am_exR E Er3
        subst E
        exact as_iret 99 C Z rfl dX7_wordNumber_99
      · have E := am_ifF E c28
        obtain ⟨g17, E⟩ := am_gdE E
        refine as_schr 21 (j := 6) C A (by decide) (Nat.le_of_ble_eq_true rfl) dX7_wordNumber_21 dX7_wordNumber_23 rfl dX7_wordNumber_25 g17 ?_
        obtain ⟨v18, hv18, E⟩ := am_ltE E
        refine as_nm hv18 ?_
        refine am_istore 28 (lv2 := [(7, .int v18), (0, .ref 1), (1, .int p1), (2, .int p2), (3, .int v4), (4, .int v5), (5, .int v6), (6, .int v7)]) C dX7_wordNumber_28 (by decide) rfl ?_
        refine am_iload 30 C dX7_wordNumber_30 0 rfl ?_
        refine am_bipush 32 (nI 32) C dX7_wordNumber_32 (by decide) ?_
        refine am_icmp_eq 34 70 C dX7_wordNumber_34 (by decide) (fun c27 => ?_) (fun c27 => ?_)
        · have E := am_ifT E c27
          refine am_iload 70 C dX7_wordNumber_70 6 rfl ?_
          refine am_if_eq 72 83 C dX7_wordNumber_72 (by decide) (fun c20 => ?_) (fun c20 => ?_)
          · have E := am_ifT E c20
            refine am_lvs [1, 2, 3, 4, 7] rfl ?_
            exact K83 _ _ E
          · have E := am_ifF E c20
            refine am_iload 75 C dX7_wordNumber_75 5 rfl ?_
            refine am_iload_n 77 C dX7_wordNumber_77 rfl 3 rfl ?_
            refine am_icmp_ne 78 83 C dX7_wordNumber_78 (by decide) (fun c19 => ?_) (fun c19 => ?_)
            · have E := am_ifF E c19
              refine am_lvs [1, 2, 3, 4, 7] rfl ?_
              exact K83 _ _ E
            · have E := am_ifT E c19
              refine am_iload_n 81 C dX7_wordNumber_81 rfl 4 rfl ?_
              replace E := Option.some.inj E
              replace E := am_exR E Er3
              subst E
              exact as_iret 82 C Z rfl dX7_wordNumber_82
        · have E := am_ifF E c27
          refine am_iload 37 C dX7_wordNumber_37 6 rfl ?_
          refine am_if_eq 39 61 C dX7_wordNumber_39 (by decide) (fun c26 => ?_) (fun c26 => ?_)
          · have E := am_ifT E c26
            refine am_lvs [1, 2, 3, 4, 5, 7] rfl ?_
            exact K61 _ _ _ E
          · have E := am_ifF E c26
            refine am_iload 42 C dX7_wordNumber_42 5 rfl ?_
            refine am_iload_n 44 C dX7_wordNumber_44 rfl 3 rfl ?_
            refine am_icmp_ge 45 61 C dX7_wordNumber_45 (by decide) (fun c25 => ?_) (fun c25 => ?_)
            · have E := am_ifT E c25
              refine am_lvs [1, 2, 3, 4, 5, 7] rfl ?_
              exact K61 _ _ _ E
            · have E := am_ifF E c25
              refine am_aload_n 48 C dX7_wordNumber_48 rfl 1 rfl ?_
              refine am_iload 49 C dX7_wordNumber_49 5 rfl ?_
              obtain ⟨g21, E⟩ := am_gdE E
              refine as_bald 51 C dX7_wordNumber_51 (by decide) sh_1 g21 ?_
              refine am_iload 52 C dX7_wordNumber_52 0 rfl ?_
              refine am_icmp_ne 54 61 C dX7_wordNumber_54 (by decide) (fun c24 => ?_) (fun c24 => ?_)
              · have E := am_ifF E c24
                refine am_lvs [1, 2, 3, 4, 5, 7] rfl ?_
                exact K61 _ _ _ E
              · have E := am_ifT E c24
                refine am_iconst 57 (1 : Int32) C dX7_wordNumber_57 (by decide) ?_
                refine am_goto 58 62 C dX7_wordNumber_58 (by decide) ?_
                refine am_istore 62 (lv2 := [(5, .int (1 : Int32)), (7, .int v18), (0, .ref 1), (1, .int p1), (2, .int p2), (3, .int v4), (4, .int v5), (6, .int v7)]) C dX7_wordNumber_62 (by decide) rfl ?_
                obtain ⟨v22, hv22, E⟩ := am_ltE E
                refine as_iinc 64 (q := (1 : Int32)) (lv2 := [(4, .int v22), (5, .int (1 : Int32)), (7, .int v18), (0, .ref 1), (1, .int p1), (2, .int p2), (3, .int v4), (6, .int v7)]) C dX7_wordNumber_64 6 rfl (by decide) hv22 (by decide) rfl ?_
                refine am_goto 67 92 C dX7_wordNumber_67 (by decide) ?_
                obtain ⟨v23, hv23, E⟩ := am_ltE E
                refine as_iinc 92 (q := (1 : Int32)) (lv2 := [(6, .int v23), (4, .int v22), (5, .int (1 : Int32)), (7, .int v18), (0, .ref 1), (1, .int p1), (2, .int p2), (3, .int v4)]) C dX7_wordNumber_92 7 rfl (by decide) hv23 (by decide) rfl ?_
                refine am_goto 95 11 C dX7_wordNumber_95 (by decide) ?_
                replace E := Option.some.inj E
                replace E := am_exL E Er3
                refine am_lvs [4, 5, 6, 7, 1, 2, 0] rfl ?_
                exact ih3 _ _ _ _ E
  refine am_lvs [4, 5, 6, 3, 2, 1, 0] rfl ?_
  exact LP3 am_F _ _ _ _ E
def b_X7_numberOf_5 (p2 : Int32) (s0 : am_S) (v4 : Int32) (v5 : Int32) : Option ((Int32 × Int32) ⊕ (Int32)) :=
  am_if (p2 ≤ v5) (some (Sum.inr v4)) (am_gd (¬ v5 < 0 ∧ (v5).toNatClampNeg < 400) (am_lt ((v4 * (nI 10)) + ((s0.1 1 (v5).toNatClampNeg) - (nI 48))) (fun v7 => am_lt (v5 + (1 : Int32)) (fun v8 => some (Sum.inl (v7, v8))))))
def f_X7_numberOf (p1 : Int32) (p2 : Int32) (s0 : am_S) : Option (Int32) :=
  am_lp (fun (q : Int32 × Int32) => b_X7_numberOf_5 p2 s0 q.1 q.2) am_F ((0 : Int32), p1)
set_option maxRecDepth 100000 in
set_option maxHeartbeats 4000000 in
theorem t_X7_numberOf (p1 : Int32) (p2 : Int32) (s0 : am_S) {z : Int32} (E : f_X7_numberOf p1 p2 s0 = some z) : AS yX7_numberOf cX7_numberOf 5 (some .int) 1 [.ref 1, .int p1, .int p2] s0 (some (.int z)) s0 := by
  unfold f_X7_numberOf at E
  refine as_met (lv := [(0, .ref 1), (1, .int p1), (2, .int p2)]) (by decide +kernel) (by simp [lg_sl, Value.category]) rfl (fun x C A Z => ?_)
  refine am_iconst 0 (0 : Int32) C dX7_numberOf_0 (by decide) ?_
  refine am_istore_n 1 (lv2 := [(3, .int (0 : Int32)), (0, .ref 1), (1, .int p1), (2, .int p2)]) C dX7_numberOf_1 rfl (by decide) rfl ?_
  refine am_iload_n 2 C dX7_numberOf_2 rfl 2 rfl ?_
  refine am_istore 3 (lv2 := [(4, .int p1), (3, .int (0 : Int32)), (0, .ref 1), (1, .int p1), (2, .int p2)]) C dX7_numberOf_3 (by decide) rfl ?_
  have LP3 : ∀ (n : Nat) (v4 : Int32) (v5 : Int32), am_lp (fun (q : Int32 × Int32) => b_X7_numberOf_5 p2 s0 q.1 q.2) n (v4, v5) = some z → AX x 0 0 5 [(0, .ref 1), (2, .int p2), (3, .int v4), (4, .int v5)] [] am_N (am_h s0) := by
    intro n
    induction n with
    | zero => intro v4 v5 E; exact (am_lp0 E).elim
    | succ n ih3 =>
      intro v4 v5 E
      obtain ⟨r3, E, Er3⟩ := am_lpE E
      replace E : b_X7_numberOf_5 p2 s0 v4 v5 = some r3 := E
      unfold b_X7_numberOf_5 at E
      refine am_iload 5 C dX7_numberOf_5 3 rfl ?_
      refine am_iload_n 7 C dX7_numberOf_7 rfl 1 rfl ?_
      refine am_icmp_ge 8 30 C dX7_numberOf_8 (by decide) (fun c9 => ?_) (fun c9 => ?_)
      · have E := am_ifT E c9
        refine am_iload_n 30 C dX7_numberOf_30 rfl 2 rfl ?_
        replace E := Option.some.inj E
        replace E := am_exR E Er3
        subst E
        exact as_iret 31 C Z rfl dX7_numberOf_31
      · have E := am_ifF E c9
        refine am_iload_n 11 C dX7_numberOf_11 rfl 2 rfl ?_
        refine am_bipush 12 (nI 10) C dX7_numberOf_12 (by decide) ?_
        refine am_imul 14 C dX7_numberOf_14 ?_
        refine am_aload_n 15 C dX7_numberOf_15 rfl 0 rfl ?_
        refine am_iload 16 C dX7_numberOf_16 3 rfl ?_
        obtain ⟨g6, E⟩ := am_gdE E
        refine as_bald 18 C dX7_numberOf_18 (by decide) sh_1 g6 ?_
        refine am_bipush 19 (nI 48) C dX7_numberOf_19 (by decide) ?_
        refine am_isub 21 C dX7_numberOf_21 ?_
        refine am_iadd 22 C dX7_numberOf_22 ?_
        obtain ⟨v7, hv7, E⟩ := am_ltE E
        refine as_nm hv7 ?_
        refine am_istore_n 23 (lv2 := [(3, .int v7), (0, .ref 1), (2, .int p2), (4, .int v5)]) C dX7_numberOf_23 rfl (by decide) rfl ?_
        obtain ⟨v8, hv8, E⟩ := am_ltE E
        refine as_iinc 24 (q := (1 : Int32)) (lv2 := [(4, .int v8), (3, .int v7), (0, .ref 1), (2, .int p2)]) C dX7_numberOf_24 3 rfl (by decide) hv8 (by decide) rfl ?_
        refine am_goto 27 5 C dX7_numberOf_27 (by decide) ?_
        replace E := Option.some.inj E
        replace E := am_exL E Er3
        refine am_lvs [2, 3, 1, 0] rfl ?_
        exact ih3 _ _ E
  refine am_lvs [2, 4, 1, 0] rfl ?_
  exact LP3 am_F _ _ E
def f_X7_signStep (p1 : Int32) (p2 : Int32) : Option (Int32) :=
  am_if (p1 = (nI 61)) (some (nI 12)) (am_if (p1 = (nI 60)) (am_if (p2 = (1 : Int32)) (some (nI 10)) (some (nI 11))) (am_if (p2 = (1 : Int32)) (some (nI 14)) (some (nI 13))))
set_option maxRecDepth 100000 in
set_option maxHeartbeats 4000000 in
theorem t_X7_signStep (p1 : Int32) (p2 : Int32) (s0 : am_S) {z : Int32} (E : f_X7_signStep p1 p2 = some z) : AS yX7_signStep cX7_signStep 2 (some .int) 1 [.int p1, .int p2] s0 (some (.int z)) s0 := by
  unfold f_X7_signStep at E
  refine as_met (lv := [(0, .int p1), (1, .int p2)]) (by decide +kernel) (by simp [lg_sl, Value.category]) rfl (fun x C A Z => ?_)
  refine am_iload_n 0 C dX7_signStep_0 rfl 0 rfl ?_
  refine am_bipush 1 (nI 61) C dX7_signStep_1 (by decide) ?_
  refine am_icmp_ne 3 9 C dX7_signStep_3 (by decide) (fun c6 => ?_) (fun c6 => ?_)
  · have E := am_ifF E c6
    refine am_iload_n 9 C dX7_signStep_9 rfl 0 rfl ?_
    refine am_bipush 10 (nI 60) C dX7_signStep_10 (by decide) ?_
    refine am_icmp_ne 12 28 C dX7_signStep_12 (by decide) (fun c5 => ?_) (fun c5 => ?_)
    · have E := am_ifF E c5
      refine am_iload_n 28 C dX7_signStep_28 rfl 1 rfl ?_
      refine am_iconst 29 (1 : Int32) C dX7_signStep_29 (by decide) ?_
      refine am_icmp_ne 30 38 C dX7_signStep_30 (by decide) (fun c3 => ?_) (fun c3 => ?_)
      · have E := am_ifF E c3
        refine am_bipush 38 (nI 13) C dX7_signStep_38 (by decide) ?_
        replace E := Option.some.inj E
        subst E
        exact as_iret 40 C Z rfl dX7_signStep_40
      · have E := am_ifT E c3
        refine am_bipush 33 (nI 14) C dX7_signStep_33 (by decide) ?_
        refine am_goto 35 40 C dX7_signStep_35 (by decide) ?_
        replace E := Option.some.inj E
        subst E
        exact as_iret 40 C Z rfl dX7_signStep_40
    · have E := am_ifT E c5
      refine am_iload_n 15 C dX7_signStep_15 rfl 1 rfl ?_
      refine am_iconst 16 (1 : Int32) C dX7_signStep_16 (by decide) ?_
      refine am_icmp_ne 17 25 C dX7_signStep_17 (by decide) (fun c4 => ?_) (fun c4 => ?_)
      · have E := am_ifF E c4
        refine am_bipush 25 (nI 11) C dX7_signStep_25 (by decide) ?_
        replace E := Option.some.inj E
        subst E
        exact as_iret 27 C Z rfl dX7_signStep_27
      · have E := am_ifT E c4
        refine am_bipush 20 (nI 10) C dX7_signStep_20 (by decide) ?_
        refine am_goto 22 27 C dX7_signStep_22 (by decide) ?_
        replace E := Option.some.inj E
        subst E
        exact as_iret 27 C Z rfl dX7_signStep_27
  · have E := am_ifT E c6
    refine am_bipush 6 (nI 12) C dX7_signStep_6 (by decide) ?_
    replace E := Option.some.inj E
    subst E
    exact as_iret 8 C Z rfl dX7_signStep_8
def f_X7_settleValue (p1 : Int32) (s0 : am_S) : Option (am_S) :=
  am_gd (¬ p1 < 0 ∧ (p1).toNatClampNeg < 401) (am_lt (s0.1 5 (p1).toNatClampNeg) (fun v3 => am_gd (¬ p1 < 0 ∧ (p1).toNatClampNeg < 401) (am_lt (s0.1 4 (p1).toNatClampNeg) (fun v5 => am_gd (¬ p1 < 0 ∧ (p1).toNatClampNeg < 401) (am_lt (s0.1 3 (p1).toNatClampNeg) (fun v7 => am_if (v7 = (1 : Int32)) (am_bd (f_X7_wordNumber v3 (v3 + v5) s0) (fun v8 => am_gd (¬ p1 < 0 ∧ (p1).toNatClampNeg < 401) (am_lt (as_i s0 4 (p1).toNatClampNeg v8) (fun s10 => some s10)))) (am_if (v7 = (nI 2)) (am_if (v5 ≤ (nI 5)) (am_bd (f_X7_numberOf v3 (v3 + v5) s0) (fun v12 => am_gd (¬ p1 < 0 ∧ (p1).toNatClampNeg < 401) (am_lt (as_i s0 4 (p1).toNatClampNeg v12) (fun s14 => some s14)))) (am_gd (¬ p1 < 0 ∧ (p1).toNatClampNeg < 401) (am_lt (as_i s0 3 (p1).toNatClampNeg (nI 3)) (fun s16 => some s16)))) (am_if (v7 = (nI 3)) (am_gd (¬ v3 < 0 ∧ (v3).toNatClampNeg < 400) (am_gd (¬ p1 < 0 ∧ (p1).toNatClampNeg < 401) (am_lt (as_i s0 4 (p1).toNatClampNeg (s0.1 1 (v3).toNatClampNeg)) (fun s21 => some s21)))) (am_if (v7 = (nI 4)) (am_gd (¬ v3 < 0 ∧ (v3).toNatClampNeg < 400) (am_bd (f_X7_signStep (s0.1 1 (v3).toNatClampNeg) v5) (fun v24 => am_gd (¬ p1 < 0 ∧ (p1).toNatClampNeg < 401) (am_lt (as_i s0 4 (p1).toNatClampNeg v24) (fun s26 => some s26))))) (am_gd (¬ v3 < 0 ∧ (v3).toNatClampNeg < 400) (am_gd (¬ p1 < 0 ∧ (p1).toNatClampNeg < 401) (am_lt (as_i s0 4 (p1).toNatClampNeg (s0.1 1 (v3).toNatClampNeg)) (fun s30 => some s30)))))))))))))
set_option maxRecDepth 100000 in
set_option maxHeartbeats 4000000 in
theorem t_X7_settleValue (p1 : Int32) (s0 : am_S) {z : am_S} (E : f_X7_settleValue p1 s0 = some z) : AS yX7_settleValue cX7_settleValue 5 none 7 [.ref 2, .int p1, .ref 1] s0 none z := by
  unfold f_X7_settleValue at E
  refine as_met (lv := [(0, .ref 2), (1, .int p1), (2, .ref 1)]) (by decide +kernel) (by simp [lg_sl, Value.category]) rfl (fun x C A Z => ?_)
  refine am_aload_n 0 C dX7_settleValue_0 rfl 0 rfl ?_
  refine as_getr 1 C fl_X7_18_6 dX7_settleValue_1 (by decide) sh_2 (rf_2_2 _ _) ?_
  refine am_iload_n 4 C dX7_settleValue_4 rfl 1 rfl ?_
  obtain ⟨g2, E⟩ := am_gdE E
  refine as_iald 5 C dX7_settleValue_5 (by decide) sh_5 g2 ?_
  obtain ⟨v3, hv3, E⟩ := am_ltE E
  refine as_nm hv3 ?_
  refine am_istore_n 6 (lv2 := [(3, .int v3), (0, .ref 2), (1, .int p1), (2, .ref 1)]) C dX7_settleValue_6 rfl (by decide) rfl ?_
  refine am_aload_n 7 C dX7_settleValue_7 rfl 1 rfl ?_
  refine as_getr 8 C fl_X7_15_6 dX7_settleValue_8 (by decide) sh_2 (rf_2_1 _ _) ?_
  refine am_iload_n 11 C dX7_settleValue_11 rfl 2 rfl ?_
  obtain ⟨g4, E⟩ := am_gdE E
  refine as_iald 12 C dX7_settleValue_12 (by decide) sh_4 g4 ?_
  obtain ⟨v5, hv5, E⟩ := am_ltE E
  refine as_nm hv5 ?_
  refine am_istore 13 (lv2 := [(4, .int v5), (3, .int v3), (0, .ref 2), (1, .int p1), (2, .ref 1)]) C dX7_settleValue_13 (by decide) rfl ?_
  refine am_aload_n 15 C dX7_settleValue_15 rfl 2 rfl ?_
  refine as_getr 16 C fl_X7_9_6 dX7_settleValue_16 (by decide) sh_2 (rf_2_0 _ _) ?_
  refine am_iload_n 19 C dX7_settleValue_19 rfl 3 rfl ?_
  obtain ⟨g6, E⟩ := am_gdE E
  refine as_iald 20 C dX7_settleValue_20 (by decide) sh_3 g6 ?_
  obtain ⟨v7, hv7, E⟩ := am_ltE E
  refine as_nm hv7 ?_
  by_cases c11 : v7 = (1 : Int32)
  · have E := am_ifT E c11
    refine am_tabIn 21 52 C dX7_settleValue_21 (by rw [c11]; decide) (by rw [c11]; decide) (by rw [c11]; rfl) (by decide) ?_
    refine am_aload_n 52 C dX7_settleValue_52 rfl 2 rfl ?_
    refine as_getr 53 C fl_X7_15_6 dX7_settleValue_53 (by decide) sh_2 (rf_2_1 _ _) ?_
    refine am_iload_n 56 C dX7_settleValue_56 rfl 3 rfl ?_
    refine am_aload_n 57 C dX7_settleValue_57 rfl 4 rfl ?_
    refine am_iload_n 58 C dX7_settleValue_58 rfl 1 rfl ?_
    refine am_iload_n 59 C dX7_settleValue_59 rfl 1 rfl ?_
    refine am_iload 60 C dX7_settleValue_60 0 rfl ?_
    refine am_iadd 62 C dX7_settleValue_62 ?_
    obtain ⟨v8, Ec, E⟩ := am_bdE E
    refine as_callS 63 (s2 := s0) (st := [.int p1, .ref 4]) (st2 := [.int v8, .int p1, .ref 4]) [.ref 1, .int v3, .int (v3 + v5)] C A (by decide) ml_X7_54 yc_X7_wordNumber ys_X7_wordNumber (t_X7_wordNumber v3 (v3 + v5) s0 Ec) rfl rfl (Nat.le_of_ble_eq_true rfl) rfl dX7_settleValue_63 ?_
    obtain ⟨g9, E⟩ := am_gdE E
    obtain ⟨s10, hs10, E⟩ := am_ltE E
    refine as_iast 66 C dX7_settleValue_66 (by decide) sh_4 g9 hs10 ?_
    refine am_goto 67 130 C dX7_settleValue_67 (by decide) ?_
    replace E := Option.some.inj E
    subst E
    exact as_vret 130 C Z dX7_settleValue_130
  · have E := am_ifF E c11
    by_cases c18 : v7 = (nI 2)
    · have E := am_ifT E c18
      refine am_tabIn 21 70 C dX7_settleValue_21 (by rw [c18]; decide) (by rw [c18]; decide) (by rw [c18]; rfl) (by decide) ?_
      refine am_iload 70 C dX7_settleValue_70 0 rfl ?_
      refine am_iconst 72 (nI 5) C dX7_settleValue_72 (by decide) ?_
      refine am_icmp_le 73 86 C dX7_settleValue_73 (by decide) (fun c17 => ?_) (fun c17 => ?_)
      · have E := am_ifT E c17
        refine am_aload_n 86 C dX7_settleValue_86 rfl 2 rfl ?_
        refine as_getr 87 C fl_X7_15_6 dX7_settleValue_87 (by decide) sh_2 (rf_2_1 _ _) ?_
        refine am_iload_n 90 C dX7_settleValue_90 rfl 3 rfl ?_
        refine am_aload_n 91 C dX7_settleValue_91 rfl 4 rfl ?_
        refine am_iload_n 92 C dX7_settleValue_92 rfl 1 rfl ?_
        refine am_iload_n 93 C dX7_settleValue_93 rfl 1 rfl ?_
        refine am_iload 94 C dX7_settleValue_94 0 rfl ?_
        refine am_iadd 96 C dX7_settleValue_96 ?_
        obtain ⟨v12, Ec, E⟩ := am_bdE E
        refine as_callS 97 (s2 := s0) (st := [.int p1, .ref 4]) (st2 := [.int v12, .int p1, .ref 4]) [.ref 1, .int v3, .int (v3 + v5)] C A (by decide) ml_X7_58 yc_X7_numberOf ys_X7_numberOf (t_X7_numberOf v3 (v3 + v5) s0 Ec) rfl rfl (Nat.le_of_ble_eq_true rfl) rfl dX7_settleValue_97 ?_
        obtain ⟨g13, E⟩ := am_gdE E
        obtain ⟨s14, hs14, E⟩ := am_ltE E
        refine as_iast 100 C dX7_settleValue_100 (by decide) sh_4 g13 hs14 ?_
        refine am_goto 101 130 C dX7_settleValue_101 (by decide) ?_
        replace E := Option.some.inj E
        subst E
        exact as_vret 130 C Z dX7_settleValue_130
      · have E := am_ifF E c17
        refine am_aload_n 76 C dX7_settleValue_76 rfl 2 rfl ?_
        refine as_getr 77 C fl_X7_9_6 dX7_settleValue_77 (by decide) sh_2 (rf_2_0 _ _) ?_
        refine am_iload_n 80 C dX7_settleValue_80 rfl 3 rfl ?_
        refine am_iconst 81 (nI 3) C dX7_settleValue_81 (by decide) ?_
        obtain ⟨g15, E⟩ := am_gdE E
        obtain ⟨s16, hs16, E⟩ := am_ltE E
        refine as_iast 82 C dX7_settleValue_82 (by decide) sh_3 g15 hs16 ?_
        refine am_goto 83 130 C dX7_settleValue_83 (by decide) ?_
        replace E := Option.some.inj E
        subst E
        exact as_vret 130 C Z dX7_settleValue_130
    · have E := am_ifF E c18
      by_cases c22 : v7 = (nI 3)
      · have E := am_ifT E c22
        refine am_tabIn 21 121 C dX7_settleValue_21 (by rw [c22]; decide) (by rw [c22]; decide) (by rw [c22]; rfl) (by decide) ?_
        refine am_aload_n 121 C dX7_settleValue_121 rfl 2 rfl ?_
        refine as_getr 122 C fl_X7_15_6 dX7_settleValue_122 (by decide) sh_2 (rf_2_1 _ _) ?_
        refine am_iload_n 125 C dX7_settleValue_125 rfl 3 rfl ?_
        refine am_aload_n 126 C dX7_settleValue_126 rfl 4 rfl ?_
        refine am_iload_n 127 C dX7_settleValue_127 rfl 1 rfl ?_
        obtain ⟨g19, E⟩ := am_gdE E
        refine as_bald 128 C dX7_settleValue_128 (by decide) sh_1 g19 ?_
        obtain ⟨g20, E⟩ := am_gdE E
        obtain ⟨s21, hs21, E⟩ := am_ltE E
        refine as_iast 129 C dX7_settleValue_129 (by decide) sh_4 g20 hs21 ?_
        replace E := Option.some.inj E
        subst E
        exact as_vret 130 C Z dX7_settleValue_130
      · have E := am_ifF E c22
        by_cases c27 : v7 = (nI 4)
        · have E := am_ifT E c27
          refine am_tabIn 21 104 C dX7_settleValue_21 (by rw [c27]; decide) (by rw [c27]; decide) (by rw [c27]; rfl) (by decide) ?_
          refine am_aload_n 104 C dX7_settleValue_104 rfl 2 rfl ?_
          refine as_getr 105 C fl_X7_15_6 dX7_settleValue_105 (by decide) sh_2 (rf_2_1 _ _) ?_
          refine am_iload_n 108 C dX7_settleValue_108 rfl 3 rfl ?_
          refine am_aload_n 109 C dX7_settleValue_109 rfl 4 rfl ?_
          refine am_iload_n 110 C dX7_settleValue_110 rfl 1 rfl ?_
          obtain ⟨g23, E⟩ := am_gdE E
          refine as_bald 111 C dX7_settleValue_111 (by decide) sh_1 g23 ?_
          refine am_iload 112 C dX7_settleValue_112 0 rfl ?_
          obtain ⟨v24, Ec, E⟩ := am_bdE E
          refine as_callS 114 (s2 := s0) (st := [.int p1, .ref 4]) (st2 := [.int v24, .int p1, .ref 4]) [.int (s0.1 1 (v3).toNatClampNeg), .int v5] C A (by decide) ml_X7_61 yc_X7_signStep ys_X7_signStep (t_X7_signStep (s0.1 1 (v3).toNatClampNeg) v5 s0 Ec) rfl rfl (Nat.le_of_ble_eq_true rfl) rfl dX7_settleValue_114 ?_
          obtain ⟨g25, E⟩ := am_gdE E
          obtain ⟨s26, hs26, E⟩ := am_ltE E
          refine as_iast 117 C dX7_settleValue_117 (by decide) sh_4 g25 hs26 ?_
          refine am_goto 118 130 C dX7_settleValue_118 (by decide) ?_
          replace E := Option.some.inj E
          subst E
          exact as_vret 130 C Z dX7_settleValue_130
        · have E := am_ifF E c27
          have ec11 := am_neI c11 1 (by decide)
          have ec18 := am_neI c18 2 (by decide)
          have ec22 := am_neI c22 3 (by decide)
          have ec27 := am_neI c27 4 (by decide)
          refine am_tabOut 21 121 C dX7_settleValue_21 (by omega) (by decide) ?_
          refine am_aload_n 121 C dX7_settleValue_121 rfl 2 rfl ?_
          refine as_getr 122 C fl_X7_15_6 dX7_settleValue_122 (by decide) sh_2 (rf_2_1 _ _) ?_
          refine am_iload_n 125 C dX7_settleValue_125 rfl 3 rfl ?_
          refine am_aload_n 126 C dX7_settleValue_126 rfl 4 rfl ?_
          refine am_iload_n 127 C dX7_settleValue_127 rfl 1 rfl ?_
          obtain ⟨g28, E⟩ := am_gdE E
          refine as_bald 128 C dX7_settleValue_128 (by decide) sh_1 g28 ?_
          obtain ⟨g29, E⟩ := am_gdE E
          obtain ⟨s30, hs30, E⟩ := am_ltE E
          refine as_iast 129 C dX7_settleValue_129 (by decide) sh_4 g29 hs30 ?_
          replace E := Option.some.inj E
          subst E
          exact as_vret 130 C Z dX7_settleValue_130
def j_X7_cut_112 (p1 : Int32) (s2 : am_S) : Option (am_S) :=
  am_bd (f_X7_begin (0 : Int32) p1 s2) (fun s3 => some s3)
def b_X7_cut_92 (p1 : Int32) (v6 : Int32) (s7 : am_S) : Option ((Int32 × am_S) ⊕ (am_S)) :=
  am_if ((s7.1 2 3) ≤ v6) (am_bd (j_X7_cut_112 p1 s7) (fun e8 => some (Sum.inr e8))) (am_bd (f_X7_settleValue v6 s7) (fun s9 => am_lt (v6 + (1 : Int32)) (fun v10 => some (Sum.inl (v10, s9)))))
def j_X7_cut_90 (p1 : Int32) (s4 : am_S) : Option (am_S) :=
  am_lp (fun (q : Int32 × am_S) => b_X7_cut_92 p1 q.1 q.2) am_F ((0 : Int32), s4)
def j_X7_cut_65 (v18 : Int32) (s19 : am_S) : Option ((Int32 × am_S) ⊕ (am_S)) :=
  am_gd (¬ v18 < 0 ∧ (v18).toNatClampNeg < 400) (am_if ((s19.1 1 (v18).toNatClampNeg) = (nI 32)) (am_lt (v18 + (1 : Int32)) (fun v21 => some (Sum.inl (v21, s19)))) (am_gd (¬ v18 < 0 ∧ (v18).toNatClampNeg < 400) (am_bd (f_X7_kindOf (s19.1 1 (v18).toNatClampNeg)) (fun v23 => am_bd (f_X7_begin v23 v18 s19) (fun s24 => am_lt (v18 + (1 : Int32)) (fun v25 => some (Sum.inl (v25, s24))))))))
def b_X7_cut_17 (p1 : Int32) (v16 : Int32) (s17 : am_S) : Option ((Int32 × am_S) ⊕ (am_S)) :=
  am_if (p1 ≤ v16) (am_bd (j_X7_cut_90 p1 s17) (fun e27 => some (Sum.inr e27))) (am_if (v16 ≤ 0) (j_X7_cut_65 v16 s17) (am_if ((s17.1 2 3) ≤ 0) (j_X7_cut_65 v16 s17) (am_lt (v16 - (1 : Int32)) (fun v28 => am_gd (¬ v28 < 0 ∧ (v28).toNatClampNeg < 400) (am_gd (¬ v16 < 0 ∧ (v16).toNatClampNeg < 400) (am_bd (f_X7_goesOn (s17.1 1 (v28).toNatClampNeg) (s17.1 1 (v16).toNatClampNeg)) (fun v31 => am_if (v31 = 0) (j_X7_cut_65 v16 s17) (am_lt ((s17.1 2 3) - (1 : Int32)) (fun v32 => am_gd (¬ v32 < 0 ∧ (v32).toNatClampNeg < 401) (am_gd (¬ v32 < 0 ∧ (v32).toNatClampNeg < 401) (am_lt (as_i s17 4 (v32).toNatClampNeg ((s17.1 4 (v32).toNatClampNeg) + (1 : Int32))) (fun s35 => am_lt (v16 + (1 : Int32)) (fun v36 => some (Sum.inl (v36, s35)))))))))))))))
def f_X7_cut (p1 : Int32) (s0 : am_S) : Option (am_S) :=
  am_lt (as_i s0 2 3 (0 : Int32)) (fun s12 => am_lt (as_i s12 2 4 (0 : Int32)) (fun s13 => am_lt (as_i s13 2 5 (0 : Int32)) (fun s14 => am_lp (fun (q : Int32 × am_S) => b_X7_cut_17 p1 q.1 q.2) am_F ((0 : Int32), s14))))
set_option maxRecDepth 100000 in
set_option maxHeartbeats 4000000 in
theorem t_X7_cut (p1 : Int32) (s0 : am_S) {z : am_S} (E : f_X7_cut p1 s0 = some z) : AS yX7_cut cX7_cut 4 none 8 [.ref 2, .ref 1, .int p1] s0 none z := by
  unfold f_X7_cut at E
  refine as_met (lv := [(0, .ref 2), (1, .ref 1), (2, .int p1)]) (by decide +kernel) (by simp [lg_sl, Value.category]) rfl (fun x C A Z => ?_)
  have K112 : ∀ (s2 : am_S), j_X7_cut_112 p1 s2 = some z → AX x 0 0 112 [(0, .ref 2), (1, .ref 1), (2, .int p1)] [] am_N (am_h s2) := by
    intro s2 E
    unfold j_X7_cut_112 at E
    refine am_aload_n 112 C dX7_cut_112 rfl 0 rfl ?_
    refine am_iconst 113 (0 : Int32) C dX7_cut_113 (by decide) ?_
    refine am_iload_n 114 C dX7_cut_114 rfl 2 rfl ?_
    obtain ⟨s3, Ec, E⟩ := am_bdE E
    refine as_callV 115 (s2 := s3) (st := []) (st2 := []) [.int (0 : Int32), .int p1] C A (by decide) ml_X7_39 yc_X7_begin yv_X7_begin (t_X7_begin (0 : Int32) p1 s2 Ec) (by decide) sh_2 rfl rfl (Nat.le_of_ble_eq_true rfl) rfl dX7_cut_115 ?_
    replace E := Option.some.inj E
    subst E
    exact as_vret 118 C Z dX7_cut_118
  have K90 : ∀ (s4 : am_S), j_X7_cut_90 p1 s4 = some z → AX x 0 0 90 [(0, .ref 2), (1, .ref 1), (2, .int p1)] [] am_N (am_h s4) := by
    intro s4 E
    unfold j_X7_cut_90 at E
    refine am_iconst 90 (0 : Int32) C dX7_cut_90 (by decide) ?_
    refine am_istore_n 91 (lv2 := [(3, .int (0 : Int32)), (0, .ref 2), (1, .ref 1), (2, .int p1)]) C dX7_cut_91 rfl (by decide) rfl ?_
    have LP5 : ∀ (n : Nat) (v6 : Int32) (s7 : am_S), am_lp (fun (q : Int32 × am_S) => b_X7_cut_92 p1 q.1 q.2) n (v6, s7) = some z → AX x 0 0 92 [(0, .ref 2), (1, .ref 1), (2, .int p1), (3, .int v6)] [] am_N (am_h s7) := by
      intro n
      induction n with
      | zero => intro v6 s7 E; exact (am_lp0 E).elim
      | succ n ih5 =>
        intro v6 s7 E
        obtain ⟨r5, E, Er5⟩ := am_lpE E
        replace E : b_X7_cut_92 p1 v6 s7 = some r5 := E
        unfold b_X7_cut_92 at E
        refine am_iload_n 92 C dX7_cut_92 rfl 3 rfl ?_
        refine am_aload_n 93 C dX7_cut_93 rfl 0 rfl ?_
        refine as_geti 94 C fl_X7_21_6 dX7_cut_94 (by decide) sh_2 ?_
        refine am_icmp_ge 97 112 C dX7_cut_97 (by decide) (fun c11 => ?_) (fun c11 => ?_)
        · have E := am_ifT E c11
          obtain ⟨e8, E, E2⟩ := am_bdE E
          replace E2 := Option.some.inj E2
          replace E2 := am_exR E2 Er5
          rw [E2] at E
          refine am_lvs [0, 1, 2] rfl ?_
          exact K112 _ E
        · have E := am_ifF E c11
          refine am_aload_n 100 C dX7_cut_100 rfl 0 rfl ?_
          refine am_iload_n 101 C dX7_cut_101 rfl 3 rfl ?_
          refine am_aload_n 102 C dX7_cut_102 rfl 1 rfl ?_
          obtain ⟨s9, Ec, E⟩ := am_bdE E
          refine as_callV 103 (s2 := s9) (st := []) (st2 := []) [.int v6, .ref 1] C A (by decide) ml_X7_43 yc_X7_settleValue yv_X7_settleValue (t_X7_settleValue v6 s7 Ec) (by decide) sh_2 rfl rfl (Nat.le_of_ble_eq_true rfl) rfl dX7_cut_103 ?_
          obtain ⟨v10, hv10, E⟩ := am_ltE E
          refine as_iinc 106 (q := (1 : Int32)) (lv2 := [(3, .int v10), (0, .ref 2), (1, .ref 1), (2, .int p1)]) C dX7_cut_106 3 rfl (by decide) hv10 (by decide) rfl ?_
          refine am_goto 109 92 C dX7_cut_109 (by decide) ?_
          replace E := Option.some.inj E
          replace E := am_exL E Er5
          refine am_lvs [1, 2, 3, 0] rfl ?_
          exact ih5 _ _ E
    refine am_lvs [1, 2, 3, 0] rfl ?_
    exact LP5 am_F _ _ E
  refine am_aload_n 0 C dX7_cut_0 rfl 0 rfl ?_
  refine am_iconst 1 (0 : Int32) C dX7_cut_1 (by decide) ?_
  obtain ⟨s12, hs12, E⟩ := am_ltE E
  refine as_puti 2 C fl_X7_21_6 dX7_cut_2 (by decide) sh_2 rfl rfl hs12 ?_
  refine am_aload_n 5 C dX7_cut_5 rfl 0 rfl ?_
  refine am_iconst 6 (0 : Int32) C dX7_cut_6 (by decide) ?_
  obtain ⟨s13, hs13, E⟩ := am_ltE E
  refine as_puti 7 C fl_X7_25_6 dX7_cut_7 (by decide) sh_2 rfl rfl hs13 ?_
  refine am_aload_n 10 C dX7_cut_10 rfl 0 rfl ?_
  refine am_iconst 11 (0 : Int32) C dX7_cut_11 (by decide) ?_
  obtain ⟨s14, hs14, E⟩ := am_ltE E
  refine as_puti 12 C fl_X7_28_6 dX7_cut_12 (by decide) sh_2 rfl rfl hs14 ?_
  refine am_iconst 15 (0 : Int32) C dX7_cut_15 (by decide) ?_
  refine am_istore_n 16 (lv2 := [(3, .int (0 : Int32)), (0, .ref 2), (1, .ref 1), (2, .int p1)]) C dX7_cut_16 rfl (by decide) rfl ?_
  have LP15 : ∀ (n : Nat) (v16 : Int32) (s17 : am_S), am_lp (fun (q : Int32 × am_S) => b_X7_cut_17 p1 q.1 q.2) n (v16, s17) = some z → AX x 0 0 17 [(0, .ref 2), (1, .ref 1), (2, .int p1), (3, .int v16)] [] am_N (am_h s17) := by
    intro n
    induction n with
    | zero => intro v16 s17 E; exact (am_lp0 E).elim
    | succ n ih15 =>
      intro v16 s17 E
      obtain ⟨r15, E, Er15⟩ := am_lpE E
      replace E : b_X7_cut_17 p1 v16 s17 = some r15 := E
      unfold b_X7_cut_17 at E
      have K65 : ∀ (v18 : Int32) (s19 : am_S), j_X7_cut_65 v18 s19 = some r15 → AX x 0 0 65 [(0, .ref 2), (1, .ref 1), (2, .int p1), (3, .int v18)] [] am_N (am_h s19) := by
        intro v18 s19 E
        unfold j_X7_cut_65 at E
        refine am_aload_n 65 C dX7_cut_65 rfl 1 rfl ?_
        refine am_iload_n 66 C dX7_cut_66 rfl 3 rfl ?_
        obtain ⟨g20, E⟩ := am_gdE E
        refine as_bald 67 C dX7_cut_67 (by decide) sh_1 g20 ?_
        refine am_bipush 68 (nI 32) C dX7_cut_68 (by decide) ?_
        refine am_icmp_eq 70 84 C dX7_cut_70 (by decide) (fun c26 => ?_) (fun c26 => ?_)
        · have E := am_ifT E c26
          obtain ⟨v21, hv21, E⟩ := am_ltE E
          refine as_iinc 84 (q := (1 : Int32)) (lv2 := [(3, .int v21), (0, .ref 2), (1, .ref 1), (2, .int p1)]) C dX7_cut_84 3 rfl (by decide) hv21 (by decide) rfl ?_
          refine am_goto 87 17 C dX7_cut_87 (by decide) ?_
          replace E := Option.some.inj E
          replace E := am_exL E Er15
          refine am_lvs [1, 2, 3, 0] rfl ?_
          exact ih15 _ _ E
        · have E := am_ifF E c26
          refine am_aload_n 73 C dX7_cut_73 rfl 0 rfl ?_
          refine am_aload_n 74 C dX7_cut_74 rfl 1 rfl ?_
          refine am_iload_n 75 C dX7_cut_75 rfl 3 rfl ?_
          obtain ⟨g22, E⟩ := am_gdE E
          refine as_bald 76 C dX7_cut_76 (by decide) sh_1 g22 ?_
          obtain ⟨v23, Ec, E⟩ := am_bdE E
          refine as_callS 77 (s2 := s19) (st := [.ref 2]) (st2 := [.int v23, .ref 2]) [.int (s19.1 1 (v18).toNatClampNeg)] C A (by decide) ml_X7_35 yc_X7_kindOf ys_X7_kindOf (t_X7_kindOf (s19.1 1 (v18).toNatClampNeg) s19 Ec) rfl rfl (Nat.le_of_ble_eq_true rfl) rfl dX7_cut_77 ?_
          refine am_iload_n 80 C dX7_cut_80 rfl 3 rfl ?_
          obtain ⟨s24, Ec, E⟩ := am_bdE E
          refine as_callV 81 (s2 := s24) (st := []) (st2 := []) [.int v23, .int v18] C A (by decide) ml_X7_39 yc_X7_begin yv_X7_begin (t_X7_begin v23 v18 s19 Ec) (by decide) sh_2 rfl rfl (Nat.le_of_ble_eq_true rfl) rfl dX7_cut_81 ?_
          obtain ⟨v25, hv25, E⟩ := am_ltE E
          refine as_iinc 84 (q := (1 : Int32)) (lv2 := [(3, .int v25), (0, .ref 2), (1, .ref 1), (2, .int p1)]) C dX7_cut_84 3 rfl (by decide) hv25 (by decide) rfl ?_
          refine am_goto 87 17 C dX7_cut_87 (by decide) ?_
          replace E := Option.some.inj E
          replace E := am_exL E Er15
          refine am_lvs [1, 2, 3, 0] rfl ?_
          exact ih15 _ _ E
      refine am_iload_n 17 C dX7_cut_17 rfl 3 rfl ?_
      refine am_iload_n 18 C dX7_cut_18 rfl 2 rfl ?_
      refine am_icmp_ge 19 90 C dX7_cut_19 (by decide) (fun c40 => ?_) (fun c40 => ?_)
      · have E := am_ifT E c40
        obtain ⟨e27, E, E2⟩ := am_bdE E
        replace E2 := Option.some.inj E2
        replace E2 := am_exR E2 Er15
        rw [E2] at E
        refine am_lvs [0, 1, 2] rfl ?_
        exact K90 _ E
      · have E := am_ifF E c40
        refine am_iload_n 22 C dX7_cut_22 rfl 3 rfl ?_
        refine am_if_le 23 65 C dX7_cut_23 (by decide) (fun c39 => ?_) (fun c39 => ?_)
        · have E := am_ifT E c39
          refine am_lvs [0, 1, 2, 3] rfl ?_
          exact K65 _ _ E
        · have E := am_ifF E c39
          refine am_aload_n 26 C dX7_cut_26 rfl 0 rfl ?_
          refine as_geti 27 C fl_X7_21_6 dX7_cut_27 (by decide) sh_2 ?_
          refine am_if_le 30 65 C dX7_cut_30 (by decide) (fun c38 => ?_) (fun c38 => ?_)
          · have E := am_ifT E c38
            refine am_lvs [0, 1, 2, 3] rfl ?_
            exact K65 _ _ E
          · have E := am_ifF E c38
            refine am_aload_n 33 C dX7_cut_33 rfl 1 rfl ?_
            refine am_iload_n 34 C dX7_cut_34 rfl 3 rfl ?_
            refine am_iconst 35 (1 : Int32) C dX7_cut_35 (by decide) ?_
            refine am_isub 36 C dX7_cut_36 ?_
            obtain ⟨v28, hv28, E⟩ := am_ltE E
            refine as_nm hv28 ?_
            obtain ⟨g29, E⟩ := am_gdE E
            refine as_bald 37 C dX7_cut_37 (by decide) sh_1 g29 ?_
            refine am_aload_n 38 C dX7_cut_38 rfl 1 rfl ?_
            refine am_iload_n 39 C dX7_cut_39 rfl 3 rfl ?_
            obtain ⟨g30, E⟩ := am_gdE E
            refine as_bald 40 C dX7_cut_40 (by decide) sh_1 g30 ?_
            obtain ⟨v31, Ec, E⟩ := am_bdE E
            refine as_callS 41 (s2 := s17) (st := []) (st2 := [.int v31]) [.int (s17.1 1 (v28).toNatClampNeg), .int (s17.1 1 (v16).toNatClampNeg)] C A (by decide) ml_X7_31 yc_X7_goesOn ys_X7_goesOn (t_X7_goesOn (s17.1 1 (v28).toNatClampNeg) (s17.1 1 (v16).toNatClampNeg) s17 Ec) rfl rfl (Nat.le_of_ble_eq_true rfl) rfl dX7_cut_41 ?_
            refine am_if_eq 44 65 C dX7_cut_44 (by decide) (fun c37 => ?_) (fun c37 => ?_)
            · have E := am_ifT E c37
              refine am_lvs [0, 1, 2, 3] rfl ?_
              exact K65 _ _ E
            · have E := am_ifF E c37
              refine am_aload_n 47 C dX7_cut_47 rfl 0 rfl ?_
              refine as_getr 48 C fl_X7_15_6 dX7_cut_48 (by decide) sh_2 (rf_2_1 _ _) ?_
              refine am_aload_n 51 C dX7_cut_51 rfl 0 rfl ?_
              refine as_geti 52 C fl_X7_21_6 dX7_cut_52 (by decide) sh_2 ?_
              refine am_iconst 55 (1 : Int32) C dX7_cut_55 (by decide) ?_
              refine am_isub 56 C dX7_cut_56 ?_
              obtain ⟨v32, hv32, E⟩ := am_ltE E
              refine as_nm hv32 ?_
              refine am_dup2 57 C dX7_cut_57 rfl rfl ?_
              obtain ⟨g33, E⟩ := am_gdE E
              refine as_iald 58 C dX7_cut_58 (by decide) sh_4 g33 ?_
              refine am_iconst 59 (1 : Int32) C dX7_cut_59 (by decide) ?_
              refine am_iadd 60 C dX7_cut_60 ?_
              obtain ⟨g34, E⟩ := am_gdE E
              obtain ⟨s35, hs35, E⟩ := am_ltE E
              refine as_iast 61 C dX7_cut_61 (by decide) sh_4 g34 hs35 ?_
              refine am_goto 62 84 C dX7_cut_62 (by decide) ?_
              obtain ⟨v36, hv36, E⟩ := am_ltE E
              refine as_iinc 84 (q := (1 : Int32)) (lv2 := [(3, .int v36), (0, .ref 2), (1, .ref 1), (2, .int p1)]) C dX7_cut_84 3 rfl (by decide) hv36 (by decide) rfl ?_
              refine am_goto 87 17 C dX7_cut_87 (by decide) ?_
              replace E := Option.some.inj E
              replace E := am_exL E Er15
              refine am_lvs [1, 2, 3, 0] rfl ?_
              exact ih15 _ _ E
  refine am_lvs [1, 2, 3, 0] rfl ?_
  exact LP15 am_F _ _ E
def f_X7_refuseNumber  (s0 : am_S) : Option (am_S) :=
  am_if ((s0.1 2 5) = 0) (am_if ((s0.1 2 4) ≤ 0) (some s0) (am_lt ((s0.1 2 4) - (1 : Int32)) (fun v1 => am_gd (¬ v1 < 0 ∧ (v1).toNatClampNeg < 401) (am_lt (as_i s0 2 5 (((1 : Int32) + ((nI 8) * (s0.1 5 (v1).toNatClampNeg))) + (1 : Int32))) (fun s3 => some s3))))) (some s0)
set_option maxRecDepth 100000 in
set_option maxHeartbeats 4000000 in
theorem t_X7_refuseNumber (s0 : am_S) {z : am_S} (E : f_X7_refuseNumber  s0 = some z) : AS yX7_refuseNumber cX7_refuseNumber 1 none 1 [.ref 2] s0 none z := by
  unfold f_X7_refuseNumber at E
  refine as_met (lv := [(0, .ref 2)]) (by decide +kernel) (by simp [lg_sl, Value.category]) rfl (fun x C A Z => ?_)
  refine am_aload_n 0 C dX7_refuseNumber_0 rfl 0 rfl ?_
  refine as_geti 1 C fl_X7_28_6 dX7_refuseNumber_1 (by decide) sh_2 ?_
  refine am_if_ne 4 36 C dX7_refuseNumber_4 (by decide) (fun c5 => ?_) (fun c5 => ?_)
  · have E := am_ifF E c5
    replace E := Option.some.inj E
    subst E
    exact as_vret 36 C Z dX7_refuseNumber_36
  · have E := am_ifT E c5
    refine am_aload_n 7 C dX7_refuseNumber_7 rfl 0 rfl ?_
    refine as_geti 8 C fl_X7_25_6 dX7_refuseNumber_8 (by decide) sh_2 ?_
    refine am_if_le 11 36 C dX7_refuseNumber_11 (by decide) (fun c4 => ?_) (fun c4 => ?_)
    · have E := am_ifT E c4
      replace E := Option.some.inj E
      subst E
      exact as_vret 36 C Z dX7_refuseNumber_36
    · have E := am_ifF E c4
      refine am_aload_n 14 C dX7_refuseNumber_14 rfl 0 rfl ?_
      refine am_iconst 15 (1 : Int32) C dX7_refuseNumber_15 (by decide) ?_
      refine am_bipush 16 (nI 8) C dX7_refuseNumber_16 (by decide) ?_
      refine am_aload_n 18 C dX7_refuseNumber_18 rfl 0 rfl ?_
      refine as_getr 19 C fl_X7_18_6 dX7_refuseNumber_19 (by decide) sh_2 (rf_2_2 _ _) ?_
      refine am_aload_n 22 C dX7_refuseNumber_22 rfl 0 rfl ?_
      refine as_geti 23 C fl_X7_25_6 dX7_refuseNumber_23 (by decide) sh_2 ?_
      refine am_iconst 26 (1 : Int32) C dX7_refuseNumber_26 (by decide) ?_
      refine am_isub 27 C dX7_refuseNumber_27 ?_
      obtain ⟨v1, hv1, E⟩ := am_ltE E
      refine as_nm hv1 ?_
      obtain ⟨g2, E⟩ := am_gdE E
      refine as_iald 28 C dX7_refuseNumber_28 (by decide) sh_5 g2 ?_
      refine am_imul 29 C dX7_refuseNumber_29 ?_
      refine am_iadd 30 C dX7_refuseNumber_30 ?_
      refine am_iconst 31 (1 : Int32) C dX7_refuseNumber_31 (by decide) ?_
      refine am_iadd 32 C dX7_refuseNumber_32 ?_
      obtain ⟨s3, hs3, E⟩ := am_ltE E
      refine as_puti 33 C fl_X7_28_6 dX7_refuseNumber_33 (by decide) sh_2 rfl rfl hs3 ?_
      replace E := Option.some.inj E
      subst E
      exact as_vret 36 C Z dX7_refuseNumber_36
def j_X7_readNumber_79 (s3 : am_S) : Option (Int32 × am_S) :=
  am_bd (f_X7_fail (1 : Int32) s3) (fun s4 => some ((0 : Int32), s4))
def j_X7_readNumber_52 (p1 : Int32) (p2 : Int32) (v5 : Int32) (s6 : am_S) : Option (Int32 × am_S) :=
  am_lt (s6.1 2 4) (fun v7 => am_gd (¬ v7 < 0 ∧ (v7).toNatClampNeg < 401) (am_lt (s6.1 4 (v7).toNatClampNeg) (fun v9 => am_if (v5 = 0) (am_if (v9 < p1) (j_X7_readNumber_79 s6) (am_if (v9 ≤ p2) (am_bd (f_X7_step s6) (fun s10 => some (v9, s10))) (j_X7_readNumber_79 s6))) (j_X7_readNumber_79 s6))))
def j_X7_readNumber_27 (p1 : Int32) (p2 : Int32) (v14 : Int32) (s15 : am_S) : Option (Int32 × am_S) :=
  am_lt (s15.1 2 4) (fun v16 => am_gd (¬ v16 < 0 ∧ (v16).toNatClampNeg < 401) (am_if ((s15.1 3 (v16).toNatClampNeg) = (nI 2)) (j_X7_readNumber_52 p1 p2 v14 s15) (am_if (v14 = 0) (am_bd (f_X7_fail (0 : Int32) s15) (fun s18 => some ((0 : Int32), s18))) (j_X7_readNumber_52 p1 p2 v14 s15))))
def f_X7_readNumber (p1 : Int32) (p2 : Int32) (s0 : am_S) : Option (Int32 × am_S) :=
  am_if ((s0.1 2 5) = 0) (am_lt (s0.1 2 4) (fun v21 => am_gd (¬ v21 < 0 ∧ (v21).toNatClampNeg < 401) (am_if ((s0.1 3 (v21).toNatClampNeg) = (nI 3)) (j_X7_readNumber_27 p1 p2 (1 : Int32) s0) (j_X7_readNumber_27 p1 p2 (0 : Int32) s0)))) (some ((0 : Int32), s0))
set_option maxRecDepth 100000 in
set_option maxHeartbeats 4000000 in
theorem t_X7_readNumber (p1 : Int32) (p2 : Int32) (s0 : am_S) {z : Int32 × am_S} (E : f_X7_readNumber p1 p2 s0 = some z) : AS yX7_readNumber cX7_readNumber 5 (some .int) 2 [.ref 2, .int p1, .int p2] s0 (some (.int z.1)) z.2 := by
  unfold f_X7_readNumber at E
  refine as_met (lv := [(0, .ref 2), (1, .int p1), (2, .int p2)]) (by decide +kernel) (by simp [lg_sl, Value.category]) rfl (fun x C A Z => ?_)
  have K79 : ∀ (s3 : am_S), j_X7_readNumber_79 s3 = some z → AX x 0 0 79 [(0, .ref 2)] [] am_N (am_h s3) := by
    intro s3 E
    unfold j_X7_readNumber_79 at E
    refine am_aload_n 79 C dX7_readNumber_79 rfl 0 rfl ?_
    refine am_iconst 80 (1 : Int32) C dX7_readNumber_80 (by decide) ?_
    obtain ⟨s4, Ec, E⟩ := am_bdE E
    refine as_callV 81 (s2 := s4) (st := []) (st2 := []) [.int (1 : Int32)] C A (by decide) ml_X7_77 yc_X7_fail yv_X7_fail (t_X7_fail (1 : Int32) s3 Ec) (by decide) sh_2 rfl rfl (Nat.le_of_ble_eq_true rfl) rfl dX7_readNumber_81 ?_
    refine am_iconst 84 (0 : Int32) C dX7_readNumber_84 (by decide) ?_
    replace E := Option.some.inj E
    subst E
    exact as_iret 85 C Z rfl dX7_readNumber_85
  have K52 : ∀ (v5 : Int32) (s6 : am_S), j_X7_readNumber_52 p1 p2 v5 s6 = some z → AX x 0 0 52 [(0, .ref 2), (1, .int p1), (2, .int p2), (3, .int v5)] [] am_N (am_h s6) := by
    intro v5 s6 E
    unfold j_X7_readNumber_52 at E
    refine am_aload_n 52 C dX7_readNumber_52 rfl 0 rfl ?_
    refine as_getr 53 C fl_X7_15_6 dX7_readNumber_53 (by decide) sh_2 (rf_2_1 _ _) ?_
    refine am_aload_n 56 C dX7_readNumber_56 rfl 0 rfl ?_
    refine as_geti 57 C fl_X7_25_6 dX7_readNumber_57 (by decide) sh_2 ?_
    obtain ⟨v7, hv7, E⟩ := am_ltE E
    refine as_nm hv7 ?_
    obtain ⟨g8, E⟩ := am_gdE E
    refine as_iald 60 C dX7_readNumber_60 (by decide) sh_4 g8 ?_
    obtain ⟨v9, hv9, E⟩ := am_ltE E
    refine as_nm hv9 ?_
    refine am_istore 61 (lv2 := [(4, .int v9), (0, .ref 2), (1, .int p1), (2, .int p2), (3, .int v5)]) C dX7_readNumber_61 (by decide) rfl ?_
    refine am_iload_n 63 C dX7_readNumber_63 rfl 4 rfl ?_
    refine am_if_ne 64 79 C dX7_readNumber_64 (by decide) (fun c13 => ?_) (fun c13 => ?_)
    · have E := am_ifF E c13
      refine am_lvs [1] rfl ?_
      exact K79 _ E
    · have E := am_ifT E c13
      refine am_iload 67 C dX7_readNumber_67 0 rfl ?_
      refine am_iload_n 69 C dX7_readNumber_69 rfl 2 rfl ?_
      refine am_icmp_lt 70 79 C dX7_readNumber_70 (by decide) (fun c12 => ?_) (fun c12 => ?_)
      · have E := am_ifT E c12
        refine am_lvs [1] rfl ?_
        exact K79 _ E
      · have E := am_ifF E c12
        refine am_iload 73 C dX7_readNumber_73 0 rfl ?_
        refine am_iload_n 75 C dX7_readNumber_75 rfl 3 rfl ?_
        refine am_icmp_le 76 86 C dX7_readNumber_76 (by decide) (fun c11 => ?_) (fun c11 => ?_)
        · have E := am_ifT E c11
          refine am_aload_n 86 C dX7_readNumber_86 rfl 1 rfl ?_
          obtain ⟨s10, Ec, E⟩ := am_bdE E
          refine as_callV 87 (s2 := s10) (st := []) (st2 := []) [] C A (by decide) ml_X7_81 yc_X7_step yv_X7_step (t_X7_step  s6 Ec) (by decide) sh_2 rfl rfl (Nat.le_of_ble_eq_true rfl) rfl dX7_readNumber_87 ?_
          refine am_iload 90 C dX7_readNumber_90 0 rfl ?_
          replace E := Option.some.inj E
          subst E
          exact as_iret 92 C Z rfl dX7_readNumber_92
        · have E := am_ifF E c11
          refine am_lvs [1] rfl ?_
          exact K79 _ E
  have K27 : ∀ (v14 : Int32) (s15 : am_S), j_X7_readNumber_27 p1 p2 v14 s15 = some z → AX x 0 0 27 [(0, .ref 2), (1, .int p1), (2, .int p2)] [.int v14] am_N (am_h s15) := by
    intro v14 s15 E
    unfold j_X7_readNumber_27 at E
    refine am_istore_n 27 (lv2 := [(3, .int v14), (0, .ref 2), (1, .int p1), (2, .int p2)]) C dX7_readNumber_27 rfl (by decide) rfl ?_
    refine am_aload_n 28 C dX7_readNumber_28 rfl 1 rfl ?_
    refine as_getr 29 C fl_X7_9_6 dX7_readNumber_29 (by decide) sh_2 (rf_2_0 _ _) ?_
    refine am_aload_n 32 C dX7_readNumber_32 rfl 1 rfl ?_
    refine as_geti 33 C fl_X7_25_6 dX7_readNumber_33 (by decide) sh_2 ?_
    obtain ⟨v16, hv16, E⟩ := am_ltE E
    refine as_nm hv16 ?_
    obtain ⟨g17, E⟩ := am_gdE E
    refine as_iald 36 C dX7_readNumber_36 (by decide) sh_3 g17 ?_
    refine am_iconst 37 (nI 2) C dX7_readNumber_37 (by decide) ?_
    refine am_icmp_eq 38 52 C dX7_readNumber_38 (by decide) (fun c20 => ?_) (fun c20 => ?_)
    · have E := am_ifT E c20
      refine am_lvs [1, 2, 3, 0] rfl ?_
      exact K52 _ _ E
    · have E := am_ifF E c20
      refine am_iload_n 41 C dX7_readNumber_41 rfl 0 rfl ?_
      refine am_if_ne 42 52 C dX7_readNumber_42 (by decide) (fun c19 => ?_) (fun c19 => ?_)
      · have E := am_ifF E c19
        refine am_lvs [1, 2, 3, 0] rfl ?_
        exact K52 _ _ E
      · have E := am_ifT E c19
        refine am_aload_n 45 C dX7_readNumber_45 rfl 1 rfl ?_
        refine am_iconst 46 (0 : Int32) C dX7_readNumber_46 (by decide) ?_
        obtain ⟨s18, Ec, E⟩ := am_bdE E
        refine as_callV 47 (s2 := s18) (st := []) (st2 := []) [.int (0 : Int32)] C A (by decide) ml_X7_77 yc_X7_fail yv_X7_fail (t_X7_fail (0 : Int32) s15 Ec) (by decide) sh_2 rfl rfl (Nat.le_of_ble_eq_true rfl) rfl dX7_readNumber_47 ?_
        refine am_iconst 50 (0 : Int32) C dX7_readNumber_50 (by decide) ?_
        replace E := Option.some.inj E
        subst E
        exact as_iret 51 C Z rfl dX7_readNumber_51
  refine am_aload_n 0 C dX7_readNumber_0 rfl 0 rfl ?_
  refine as_geti 1 C fl_X7_28_6 dX7_readNumber_1 (by decide) sh_2 ?_
  refine am_if_eq 4 9 C dX7_readNumber_4 (by decide) (fun c24 => ?_) (fun c24 => ?_)
  · have E := am_ifT E c24
    refine am_aload_n 9 C dX7_readNumber_9 rfl 0 rfl ?_
    refine as_getr 10 C fl_X7_9_6 dX7_readNumber_10 (by decide) sh_2 (rf_2_0 _ _) ?_
    refine am_aload_n 13 C dX7_readNumber_13 rfl 0 rfl ?_
    refine as_geti 14 C fl_X7_25_6 dX7_readNumber_14 (by decide) sh_2 ?_
    obtain ⟨v21, hv21, E⟩ := am_ltE E
    refine as_nm hv21 ?_
    obtain ⟨g22, E⟩ := am_gdE E
    refine as_iald 17 C dX7_readNumber_17 (by decide) sh_3 g22 ?_
    refine am_iconst 18 (nI 3) C dX7_readNumber_18 (by decide) ?_
    refine am_icmp_ne 19 26 C dX7_readNumber_19 (by decide) (fun c23 => ?_) (fun c23 => ?_)
    · have E := am_ifF E c23
      refine am_iconst 26 (0 : Int32) C dX7_readNumber_26 (by decide) ?_
      refine am_lvs [0, 1, 2] rfl ?_
      exact K27 _ _ E
    · have E := am_ifT E c23
      refine am_iconst 22 (1 : Int32) C dX7_readNumber_22 (by decide) ?_
      refine am_goto 23 27 C dX7_readNumber_23 (by decide) ?_
      refine am_lvs [0, 1, 2] rfl ?_
      exact K27 _ _ E
  · have E := am_ifF E c24
    refine am_iconst 7 (0 : Int32) C dX7_readNumber_7 (by decide) ?_
    replace E := Option.some.inj E
    subst E
    exact as_iret 8 C Z rfl dX7_readNumber_8
def f_X8_clear  (s0 : am_S) : Option (am_S) :=
  am_lt (as_i s0 6 0 (0 : Int32)) (fun s1 => am_lt (as_i s1 6 1 (0 : Int32)) (fun s2 => am_lt (as_i s2 6 2 (0 : Int32)) (fun s3 => am_lt (as_i s3 6 3 (0 : Int32)) (fun s4 => am_lt (as_i s4 6 6 (0 : Int32)) (fun s5 => am_lt (as_i s5 6 10 (0 : Int32)) (fun s6 => am_lt (as_i s6 6 12 (0 : Int32)) (fun s7 => am_lt (as_i s7 6 14 (0 : Int32)) (fun s8 => am_lt (as_i s8 6 15 (0 : Int32)) (fun s9 => am_bd (f_J7_fill_53178 8 (nI 5) s9) (fun s10 => am_bd (f_J7_fill_53178 11 (0 : Int32) s10) (fun s11 => some s11)))))))))))
set_option maxRecDepth 100000 in
set_option maxHeartbeats 4000000 in
theorem t_X8_clear (s0 : am_S) {z : am_S} (E : f_X8_clear  s0 = some z) : AS yX8_clear cX8_clear 1 none 2 [.ref 6] s0 none z := by
  unfold f_X8_clear at E
  refine as_met (lv := [(0, .ref 6)]) (by decide +kernel) (by simp [lg_sl, Value.category]) rfl (fun x C A Z => ?_)
  refine am_aload_n 0 C dX8_clear_0 rfl 0 rfl ?_
  refine am_iconst 1 (0 : Int32) C dX8_clear_1 (by decide) ?_
  obtain ⟨s1, hs1, E⟩ := am_ltE E
  refine as_puti 2 C fl_X8_33_7 dX8_clear_2 (by decide) sh_6 rfl rfl hs1 ?_
  refine am_aload_n 5 C dX8_clear_5 rfl 0 rfl ?_
  refine am_iconst 6 (0 : Int32) C dX8_clear_6 (by decide) ?_
  obtain ⟨s2, hs2, E⟩ := am_ltE E
  refine as_puti 7 C fl_X8_37_7 dX8_clear_7 (by decide) sh_6 rfl rfl hs2 ?_
  refine am_aload_n 10 C dX8_clear_10 rfl 0 rfl ?_
  refine am_iconst 11 (0 : Int32) C dX8_clear_11 (by decide) ?_
  obtain ⟨s3, hs3, E⟩ := am_ltE E
  refine as_puti 12 C fl_X8_41_7 dX8_clear_12 (by decide) sh_6 rfl rfl hs3 ?_
  refine am_aload_n 15 C dX8_clear_15 rfl 0 rfl ?_
  refine am_iconst 16 (0 : Int32) C dX8_clear_16 (by decide) ?_
  obtain ⟨s4, hs4, E⟩ := am_ltE E
  refine as_puti 17 C fl_X8_44_7 dX8_clear_17 (by decide) sh_6 rfl rfl hs4 ?_
  refine am_aload_n 20 C dX8_clear_20 rfl 0 rfl ?_
  refine am_iconst 21 (0 : Int32) C dX8_clear_21 (by decide) ?_
  obtain ⟨s5, hs5, E⟩ := am_ltE E
  refine as_puti 22 C fl_X8_47_7 dX8_clear_22 (by decide) sh_6 rfl rfl hs5 ?_
  refine am_aload_n 25 C dX8_clear_25 rfl 0 rfl ?_
  refine am_iconst 26 (0 : Int32) C dX8_clear_26 (by decide) ?_
  obtain ⟨s6, hs6, E⟩ := am_ltE E
  refine as_puti 27 C fl_X8_50_7 dX8_clear_27 (by decide) sh_6 rfl rfl hs6 ?_
  refine am_aload_n 30 C dX8_clear_30 rfl 0 rfl ?_
  refine am_iconst 31 (0 : Int32) C dX8_clear_31 (by decide) ?_
  obtain ⟨s7, hs7, E⟩ := am_ltE E
  refine as_puti 32 C fl_X8_53_7 dX8_clear_32 (by decide) sh_6 rfl rfl hs7 ?_
  refine am_aload_n 35 C dX8_clear_35 rfl 0 rfl ?_
  refine am_iconst 36 (0 : Int32) C dX8_clear_36 (by decide) ?_
  obtain ⟨s8, hs8, E⟩ := am_ltE E
  refine as_puti 37 C fl_X8_56_7 dX8_clear_37 (by decide) sh_6 rfl rfl hs8 ?_
  refine am_aload_n 40 C dX8_clear_40 rfl 0 rfl ?_
  refine am_iconst 41 (0 : Int32) C dX8_clear_41 (by decide) ?_
  obtain ⟨s9, hs9, E⟩ := am_ltE E
  refine as_puti 42 C fl_X8_59_7 dX8_clear_42 (by decide) sh_6 rfl rfl hs9 ?_
  refine am_aload_n 45 C dX8_clear_45 rfl 0 rfl ?_
  refine as_getr 46 C fl_X8_15_7 dX8_clear_46 (by decide) sh_6 (rf_6_5 _ _) ?_
  refine am_iconst 49 (nI 5) C dX8_clear_49 (by decide) ?_
  obtain ⟨s10, Ec, E⟩ := am_bdE E
  refine as_callS 50 (s2 := s10) (st := []) (st2 := []) [.ref 8, .int (nI 5)] C A (by decide) ml_X8_62 yc_J7_fill_53178 ys_J7_fill_53178 (t_J7_fill_53178 8 (nI 5) s9 Ec) rfl rfl (Nat.le_of_ble_eq_true rfl) rfl dX8_clear_50 ?_
  refine am_aload_n 53 C dX8_clear_53 rfl 0 rfl ?_
  refine as_getr 54 C fl_X8_24_7 dX8_clear_54 (by decide) sh_6 (rf_6_9 _ _) ?_
  refine am_iconst 57 (0 : Int32) C dX8_clear_57 (by decide) ?_
  obtain ⟨s11, Ec, E⟩ := am_bdE E
  refine as_callS 58 (s2 := s11) (st := []) (st2 := []) [.ref 11, .int (0 : Int32)] C A (by decide) ml_X8_62 yc_J7_fill_53178 ys_J7_fill_53178 (t_J7_fill_53178 11 (0 : Int32) s10 Ec) rfl rfl (Nat.le_of_ble_eq_true rfl) rfl dX8_clear_58 ?_
  replace E := Option.some.inj E
  subst E
  exact as_vret 61 C Z dX8_clear_61
def f_X8_hasPerson (a1 : Nat) (p2 : Int32) (s0 : am_S) : Option (Int32) :=
  am_gd (a1 ∈ am_isT) (am_if (p2 < 0) (some (0 : Int32)) (am_if ((s0.1 a1 3) ≤ p2) (some (0 : Int32)) (some (1 : Int32))))
set_option maxRecDepth 100000 in
set_option maxHeartbeats 4000000 in
theorem t_X8_hasPerson (a1 : Nat) (p2 : Int32) (s0 : am_S) {z : Int32} (E : f_X8_hasPerson a1 p2 s0 = some z) : AS yX8_hasPerson cX8_hasPerson 2 (some .boolean) 1 [.ref a1, .int p2] s0 (some (.int z)) s0 := by
  unfold f_X8_hasPerson at E
  obtain ⟨ma1, E⟩ := am_gdE E
  refine as_met (lv := [(0, .ref a1), (1, .int p2)]) (by decide +kernel) (by simp [lg_sl, Value.category]) rfl (fun x C A Z => ?_)
  refine am_iload_n 0 C dX8_hasPerson_0 rfl 1 rfl ?_
  refine am_if_lt 1 16 C dX8_hasPerson_1 (by decide) (fun c4 => ?_) (fun c4 => ?_)
  · have E := am_ifT E c4
    refine am_iconst 16 (0 : Int32) C dX8_hasPerson_16 (by decide) ?_
    replace E := Option.some.inj E
    subst E
    exact as_iret 17 C Z rfl dX8_hasPerson_17
  · have E := am_ifF E c4
    refine am_iload_n 4 C dX8_hasPerson_4 rfl 1 rfl ?_
    refine am_aload_n 5 C dX8_hasPerson_5 rfl 0 rfl ?_
    refine as_geti 6 C fl_X8_44_7 dX8_hasPerson_6 (iT_l0 _ ma1) (iT_sh _ ma1) ?_
    refine am_icmp_ge 9 16 C dX8_hasPerson_9 (by decide) (fun c3 => ?_) (fun c3 => ?_)
    · have E := am_ifT E c3
      refine am_iconst 16 (0 : Int32) C dX8_hasPerson_16 (by decide) ?_
      replace E := Option.some.inj E
      subst E
      exact as_iret 17 C Z rfl dX8_hasPerson_17
    · have E := am_ifF E c3
      refine am_iconst 12 (1 : Int32) C dX8_hasPerson_12 (by decide) ?_
      refine am_goto 13 17 C dX8_hasPerson_13 (by decide) ?_
      replace E := Option.some.inj E
      subst E
      exact as_iret 17 C Z rfl dX8_hasPerson_17
def f_X8_hasTwo (a1 : Nat) (p2 : Int32) (p3 : Int32) (s0 : am_S) : Option (Int32) :=
  am_gd (a1 ∈ am_isT) (am_if (p2 = p3) (some (0 : Int32)) (am_bd (f_X8_hasPerson a1 p2 s0) (fun v4 => am_if (v4 = 0) (some (0 : Int32)) (am_bd (f_X8_hasPerson a1 p3 s0) (fun v5 => am_if (v5 = 0) (some (0 : Int32)) (some (1 : Int32)))))))
set_option maxRecDepth 100000 in
set_option maxHeartbeats 4000000 in
theorem t_X8_hasTwo (a1 : Nat) (p2 : Int32) (p3 : Int32) (s0 : am_S) {z : Int32} (E : f_X8_hasTwo a1 p2 p3 s0 = some z) : AS yX8_hasTwo cX8_hasTwo 3 (some .boolean) 2 [.ref a1, .int p2, .int p3] s0 (some (.int z)) s0 := by
  unfold f_X8_hasTwo at E
  obtain ⟨ma1, E⟩ := am_gdE E
  refine as_met (lv := [(0, .ref a1), (1, .int p2), (2, .int p3)]) (by decide +kernel) (by simp [lg_sl, Value.category]) rfl (fun x C A Z => ?_)
  refine am_iload_n 0 C dX8_hasTwo_0 rfl 1 rfl ?_
  refine am_iload_n 1 C dX8_hasTwo_1 rfl 2 rfl ?_
  refine am_icmp_eq 2 25 C dX8_hasTwo_2 (by decide) (fun c8 => ?_) (fun c8 => ?_)
  · have E := am_ifT E c8
    refine am_iconst 25 (0 : Int32) C dX8_hasTwo_25 (by decide) ?_
    replace E := Option.some.inj E
    subst E
    exact as_iret 26 C Z rfl dX8_hasTwo_26
  · have E := am_ifF E c8
    refine am_aload_n 5 C dX8_hasTwo_5 rfl 0 rfl ?_
    refine am_iload_n 6 C dX8_hasTwo_6 rfl 1 rfl ?_
    obtain ⟨v4, Ec, E⟩ := am_bdE E
    refine as_callV 7 (s2 := s0) (st := []) (st2 := [.int v4]) [.int p2] C A (by decide) ml_X8_74 yc_X8_hasPerson yv_X8_hasPerson (t_X8_hasPerson a1 p2 s0 Ec) (iT_l0 _ ma1) (iT_sh _ ma1) rfl rfl (Nat.le_of_ble_eq_true rfl) rfl dX8_hasTwo_7 ?_
    refine am_if_eq 10 25 C dX8_hasTwo_10 (by decide) (fun c7 => ?_) (fun c7 => ?_)
    · have E := am_ifT E c7
      refine am_iconst 25 (0 : Int32) C dX8_hasTwo_25 (by decide) ?_
      replace E := Option.some.inj E
      subst E
      exact as_iret 26 C Z rfl dX8_hasTwo_26
    · have E := am_ifF E c7
      refine am_aload_n 13 C dX8_hasTwo_13 rfl 0 rfl ?_
      refine am_iload_n 14 C dX8_hasTwo_14 rfl 2 rfl ?_
      obtain ⟨v5, Ec, E⟩ := am_bdE E
      refine as_callV 15 (s2 := s0) (st := []) (st2 := [.int v5]) [.int p3] C A (by decide) ml_X8_74 yc_X8_hasPerson yv_X8_hasPerson (t_X8_hasPerson a1 p3 s0 Ec) (iT_l0 _ ma1) (iT_sh _ ma1) rfl rfl (Nat.le_of_ble_eq_true rfl) rfl dX8_hasTwo_15 ?_
      refine am_if_eq 18 25 C dX8_hasTwo_18 (by decide) (fun c6 => ?_) (fun c6 => ?_)
      · have E := am_ifT E c6
        refine am_iconst 25 (0 : Int32) C dX8_hasTwo_25 (by decide) ?_
        replace E := Option.some.inj E
        subst E
        exact as_iret 26 C Z rfl dX8_hasTwo_26
      · have E := am_ifF E c6
        refine am_iconst 21 (1 : Int32) C dX8_hasTwo_21 (by decide) ?_
        refine am_goto 22 26 C dX8_hasTwo_22 (by decide) ?_
        replace E := Option.some.inj E
        subst E
        exact as_iret 26 C Z rfl dX8_hasTwo_26
def f_X8_hasFact (p1 : Int32) (s0 : am_S) : Option (Int32) :=
  am_if (p1 < 0) (some (0 : Int32)) (am_if ((s0.1 16 1) ≤ p1) (some (0 : Int32)) (some (1 : Int32)))
set_option maxRecDepth 100000 in
set_option maxHeartbeats 4000000 in
theorem t_X8_hasFact (p1 : Int32) (s0 : am_S) {z : Int32} (E : f_X8_hasFact p1 s0 = some z) : AS yX8_hasFact cX8_hasFact 2 (some .boolean) 1 [.ref 16, .int p1] s0 (some (.int z)) s0 := by
  unfold f_X8_hasFact at E
  refine as_met (lv := [(0, .ref 16), (1, .int p1)]) (by decide +kernel) (by simp [lg_sl, Value.category]) rfl (fun x C A Z => ?_)
  refine am_iload_n 0 C dX8_hasFact_0 rfl 1 rfl ?_
  refine am_if_lt 1 16 C dX8_hasFact_1 (by decide) (fun c3 => ?_) (fun c3 => ?_)
  · have E := am_ifT E c3
    refine am_iconst 16 (0 : Int32) C dX8_hasFact_16 (by decide) ?_
    replace E := Option.some.inj E
    subst E
    exact as_iret 17 C Z rfl dX8_hasFact_17
  · have E := am_ifF E c3
    refine am_iload_n 4 C dX8_hasFact_4 rfl 1 rfl ?_
    refine am_aload_n 5 C dX8_hasFact_5 rfl 0 rfl ?_
    refine as_geti 6 C fl_X8_37_7 dX8_hasFact_6 (by decide) sh_16 ?_
    refine am_icmp_ge 9 16 C dX8_hasFact_9 (by decide) (fun c2 => ?_) (fun c2 => ?_)
    · have E := am_ifT E c2
      refine am_iconst 16 (0 : Int32) C dX8_hasFact_16 (by decide) ?_
      replace E := Option.some.inj E
      subst E
      exact as_iret 17 C Z rfl dX8_hasFact_17
    · have E := am_ifF E c2
      refine am_iconst 12 (1 : Int32) C dX8_hasFact_12 (by decide) ?_
      refine am_goto 13 17 C dX8_hasFact_13 (by decide) ?_
      replace E := Option.some.inj E
      subst E
      exact as_iret 17 C Z rfl dX8_hasFact_17
def f_X8_hasStreet (a1 : Nat) (p2 : Int32) (p3 : Int32) (s0 : am_S) : Option (Int32) :=
  am_gd (a1 ∈ am_isT) (am_bd (f_X8_hasTwo a1 p2 p3 s0) (fun v4 => am_if (v4 = 0) (some (0 : Int32)) (am_gd (¬ p2 < 0 ∧ (p2).toNatClampNeg < 7) (am_bd (f_X11_bit (s0.1 (a1 + 5) (p2).toNatClampNeg) p3) (fun v6 => am_if (v6 = (1 : Int32)) (some (1 : Int32)) (some (0 : Int32)))))))
set_option maxRecDepth 100000 in
set_option maxHeartbeats 4000000 in
theorem t_X8_hasStreet (a1 : Nat) (p2 : Int32) (p3 : Int32) (s0 : am_S) {z : Int32} (E : f_X8_hasStreet a1 p2 p3 s0 = some z) : AS yX8_hasStreet cX8_hasStreet 3 (some .boolean) 3 [.ref a1, .int p2, .int p3] s0 (some (.int z)) s0 := by
  unfold f_X8_hasStreet at E
  obtain ⟨ma1, E⟩ := am_gdE E
  refine as_met (lv := [(0, .ref a1), (1, .int p2), (2, .int p3)]) (by decide +kernel) (by simp [lg_sl, Value.category]) rfl (fun x C A Z => ?_)
  refine am_aload_n 0 C dX8_hasStreet_0 rfl 0 rfl ?_
  refine am_iload_n 1 C dX8_hasStreet_1 rfl 1 rfl ?_
  refine am_iload_n 2 C dX8_hasStreet_2 rfl 2 rfl ?_
  obtain ⟨v4, Ec, E⟩ := am_bdE E
  refine as_callV 3 (s2 := s0) (st := []) (st2 := [.int v4]) [.int p2, .int p3] C A (by decide) ml_X8_78 yc_X8_hasTwo yv_X8_hasTwo (t_X8_hasTwo a1 p2 p3 s0 Ec) (iT_l0 _ ma1) (iT_sh _ ma1) rfl rfl (Nat.le_of_ble_eq_true rfl) rfl dX8_hasStreet_3 ?_
  refine am_if_eq 6 27 C dX8_hasStreet_6 (by decide) (fun c8 => ?_) (fun c8 => ?_)
  · have E := am_ifT E c8
    refine am_iconst 27 (0 : Int32) C dX8_hasStreet_27 (by decide) ?_
    replace E := Option.some.inj E
    subst E
    exact as_iret 28 C Z rfl dX8_hasStreet_28
  · have E := am_ifF E c8
    refine am_aload_n 9 C dX8_hasStreet_9 rfl 0 rfl ?_
    refine as_getr 10 C fl_X8_24_7 dX8_hasStreet_10 (iT_l0 _ ma1) (iT_sh _ ma1) (iT_r9 _ _ _ ma1) ?_
    refine am_iload_n 13 C dX8_hasStreet_13 rfl 1 rfl ?_
    obtain ⟨g5, E⟩ := am_gdE E
    refine as_iald 14 C dX8_hasStreet_14 (iT_l5 _ ma1) (iT_s5 _ ma1) g5 ?_
    refine am_iload_n 15 C dX8_hasStreet_15 rfl 2 rfl ?_
    obtain ⟨v6, Ec, E⟩ := am_bdE E
    refine as_callSN 16 (s2 := s0) (st := []) (st2 := [.int v6]) [.int (s0.1 (a1 + 5) (p2).toNatClampNeg), .int p3] C A (by decide) mn_X8_82 yc_X11_bit ys_X11_bit (t_X11_bit (s0.1 (a1 + 5) (p2).toNatClampNeg) p3 s0 Ec) rfl rfl (Nat.le_of_ble_eq_true rfl) rfl dX8_hasStreet_16 ?_
    refine am_iconst 19 (1 : Int32) C dX8_hasStreet_19 (by decide) ?_
    refine am_icmp_ne 20 27 C dX8_hasStreet_20 (by decide) (fun c7 => ?_) (fun c7 => ?_)
    · have E := am_ifF E c7
      refine am_iconst 27 (0 : Int32) C dX8_hasStreet_27 (by decide) ?_
      replace E := Option.some.inj E
      subst E
      exact as_iret 28 C Z rfl dX8_hasStreet_28
    · have E := am_ifT E c7
      refine am_iconst 23 (1 : Int32) C dX8_hasStreet_23 (by decide) ?_
      refine am_goto 24 28 C dX8_hasStreet_24 (by decide) ?_
      replace E := Option.some.inj E
      subst E
      exact as_iret 28 C Z rfl dX8_hasStreet_28
def f_X8_addStreet (p1 : Int32) (p2 : Int32) (s0 : am_S) : Option (am_S) :=
  am_if ((nI 10) ≤ (s0.1 6 6)) (some s0) (am_gd (¬ (s0.1 6 6) < 0 ∧ ((s0.1 6 6)).toNatClampNeg < 10) (am_lt (as_i s0 9 ((s0.1 6 6)).toNatClampNeg p1) (fun s4 => am_gd (¬ (s4.1 6 6) < 0 ∧ ((s4.1 6 6)).toNatClampNeg < 10) (am_lt (as_i s4 10 ((s4.1 6 6)).toNatClampNeg p2) (fun s6 => am_lt (as_i s6 6 6 ((s6.1 6 6) + (1 : Int32))) (fun s7 => am_gd (¬ p1 < 0 ∧ (p1).toNatClampNeg < 7) (am_gd (¬ p1 < 0 ∧ (p1).toNatClampNeg < 7) (am_lt (as_i s7 11 (p1).toNatClampNeg ((s7.1 11 (p1).toNatClampNeg) ||| ((1 : Int32) <<< (p2 &&& 31)))) (fun s10 => am_gd (¬ p2 < 0 ∧ (p2).toNatClampNeg < 7) (am_gd (¬ p2 < 0 ∧ (p2).toNatClampNeg < 7) (am_lt (as_i s10 11 (p2).toNatClampNeg ((s10.1 11 (p2).toNatClampNeg) ||| ((1 : Int32) <<< (p1 &&& 31)))) (fun s13 => some s13))))))))))))
set_option maxRecDepth 100000 in
set_option maxHeartbeats 4000000 in
theorem t_X8_addStreet (p1 : Int32) (p2 : Int32) (s0 : am_S) {z : am_S} (E : f_X8_addStreet p1 p2 s0 = some z) : AS yX8_addStreet cX8_addStreet 3 none 1 [.ref 6, .int p1, .int p2] s0 none z := by
  unfold f_X8_addStreet at E
  refine as_met (lv := [(0, .ref 6), (1, .int p1), (2, .int p2)]) (by decide +kernel) (by simp [lg_sl, Value.category]) rfl (fun x C A Z => ?_)
  refine am_aload_n 0 C dX8_addStreet_0 rfl 0 rfl ?_
  refine as_geti 1 C fl_X8_47_7 dX8_addStreet_1 (by decide) sh_6 ?_
  refine am_bipush 4 (nI 10) C dX8_addStreet_4 (by decide) ?_
  refine am_icmp_ge 6 63 C dX8_addStreet_6 (by decide) (fun c14 => ?_) (fun c14 => ?_)
  · have E := am_ifT E c14
    replace E := Option.some.inj E
    subst E
    exact as_vret 63 C Z dX8_addStreet_63
  · have E := am_ifF E c14
    refine am_aload_n 9 C dX8_addStreet_9 rfl 0 rfl ?_
    refine as_getr 10 C fl_X8_18_7 dX8_addStreet_10 (by decide) sh_6 (rf_6_7 _ _) ?_
    refine am_aload_n 13 C dX8_addStreet_13 rfl 0 rfl ?_
    refine as_geti 14 C fl_X8_47_7 dX8_addStreet_14 (by decide) sh_6 ?_
    refine am_iload_n 17 C dX8_addStreet_17 rfl 1 rfl ?_
    obtain ⟨g3, E⟩ := am_gdE E
    obtain ⟨s4, hs4, E⟩ := am_ltE E
    refine as_iast 18 C dX8_addStreet_18 (by decide) sh_9 g3 hs4 ?_
    refine am_aload_n 19 C dX8_addStreet_19 rfl 0 rfl ?_
    refine as_getr 20 C fl_X8_21_7 dX8_addStreet_20 (by decide) sh_6 (rf_6_8 _ _) ?_
    refine am_aload_n 23 C dX8_addStreet_23 rfl 0 rfl ?_
    refine as_geti 24 C fl_X8_47_7 dX8_addStreet_24 (by decide) sh_6 ?_
    refine am_iload_n 27 C dX8_addStreet_27 rfl 2 rfl ?_
    obtain ⟨g5, E⟩ := am_gdE E
    obtain ⟨s6, hs6, E⟩ := am_ltE E
    refine as_iast 28 C dX8_addStreet_28 (by decide) sh_10 g5 hs6 ?_
    refine am_aload_n 29 C dX8_addStreet_29 rfl 0 rfl ?_
    refine am_dup 30 C dX8_addStreet_30 rfl ?_
    refine as_geti 31 C fl_X8_47_7 dX8_addStreet_31 (by decide) sh_6 ?_
    refine am_iconst 34 (1 : Int32) C dX8_addStreet_34 (by decide) ?_
    refine am_iadd 35 C dX8_addStreet_35 ?_
    obtain ⟨s7, hs7, E⟩ := am_ltE E
    refine as_puti 36 C fl_X8_47_7 dX8_addStreet_36 (by decide) sh_6 rfl rfl hs7 ?_
    refine am_aload_n 39 C dX8_addStreet_39 rfl 0 rfl ?_
    refine as_getr 40 C fl_X8_24_7 dX8_addStreet_40 (by decide) sh_6 (rf_6_9 _ _) ?_
    refine am_iload_n 43 C dX8_addStreet_43 rfl 1 rfl ?_
    refine am_dup2 44 C dX8_addStreet_44 rfl rfl ?_
    obtain ⟨g8, E⟩ := am_gdE E
    refine as_iald 45 C dX8_addStreet_45 (by decide) sh_11 g8 ?_
    refine am_iconst 46 (1 : Int32) C dX8_addStreet_46 (by decide) ?_
    refine am_iload_n 47 C dX8_addStreet_47 rfl 2 rfl ?_
    refine am_ishl 48 C dX8_addStreet_48 ?_
    refine am_ior 49 C dX8_addStreet_49 ?_
    obtain ⟨g9, E⟩ := am_gdE E
    obtain ⟨s10, hs10, E⟩ := am_ltE E
    refine as_iast 50 C dX8_addStreet_50 (by decide) sh_11 g9 hs10 ?_
    refine am_aload_n 51 C dX8_addStreet_51 rfl 0 rfl ?_
    refine as_getr 52 C fl_X8_24_7 dX8_addStreet_52 (by decide) sh_6 (rf_6_9 _ _) ?_
    refine am_iload_n 55 C dX8_addStreet_55 rfl 2 rfl ?_
    refine am_dup2 56 C dX8_addStreet_56 rfl rfl ?_
    obtain ⟨g11, E⟩ := am_gdE E
    refine as_iald 57 C dX8_addStreet_57 (by decide) sh_11 g11 ?_
    refine am_iconst 58 (1 : Int32) C dX8_addStreet_58 (by decide) ?_
    refine am_iload_n 59 C dX8_addStreet_59 rfl 1 rfl ?_
    refine am_ishl 60 C dX8_addStreet_60 ?_
    refine am_ior 61 C dX8_addStreet_61 ?_
    obtain ⟨g12, E⟩ := am_gdE E
    obtain ⟨s13, hs13, E⟩ := am_ltE E
    refine as_iast 62 C dX8_addStreet_62 (by decide) sh_11 g12 hs13 ?_
    replace E := Option.some.inj E
    subst E
    exact as_vret 63 C Z dX8_addStreet_63
def f_X8_addIf (p1 : Int32) (p2 : Int32) (p3 : Int32) (p4 : Int32) (s0 : am_S) : Option (am_S) :=
  am_if ((nI 10) ≤ (s0.1 6 10)) (some s0) (am_gd (¬ ((nI 4) * (s0.1 6 10)) < 0 ∧ (((nI 4) * (s0.1 6 10))).toNatClampNeg < 40) (am_lt (as_i s0 12 (((nI 4) * (s0.1 6 10))).toNatClampNeg p1) (fun s6 => am_gd (¬ (((nI 4) * (s6.1 6 10)) + (1 : Int32)) < 0 ∧ ((((nI 4) * (s6.1 6 10)) + (1 : Int32))).toNatClampNeg < 40) (am_lt (as_i s6 12 ((((nI 4) * (s6.1 6 10)) + (1 : Int32))).toNatClampNeg p2) (fun s8 => am_gd (¬ (((nI 4) * (s8.1 6 10)) + (nI 2)) < 0 ∧ ((((nI 4) * (s8.1 6 10)) + (nI 2))).toNatClampNeg < 40) (am_lt (as_i s8 12 ((((nI 4) * (s8.1 6 10)) + (nI 2))).toNatClampNeg p3) (fun s10 => am_gd (¬ (((nI 4) * (s10.1 6 10)) + (nI 3)) < 0 ∧ ((((nI 4) * (s10.1 6 10)) + (nI 3))).toNatClampNeg < 40) (am_lt (as_i s10 12 ((((nI 4) * (s10.1 6 10)) + (nI 3))).toNatClampNeg p4) (fun s12 => am_lt (as_i s12 6 10 ((s12.1 6 10) + (1 : Int32))) (fun s13 => some s13))))))))))
set_option maxRecDepth 100000 in
set_option maxHeartbeats 4000000 in
theorem t_X8_addIf (p1 : Int32) (p2 : Int32) (p3 : Int32) (p4 : Int32) (s0 : am_S) {z : am_S} (E : f_X8_addIf p1 p2 p3 p4 s0 = some z) : AS yX8_addIf cX8_addIf 5 none 1 [.ref 6, .int p1, .int p2, .int p3, .int p4] s0 none z := by
  unfold f_X8_addIf at E
  refine as_met (lv := [(0, .ref 6), (1, .int p1), (2, .int p2), (3, .int p3), (4, .int p4)]) (by decide +kernel) (by simp [lg_sl, Value.category]) rfl (fun x C A Z => ?_)
  refine am_aload_n 0 C dX8_addIf_0 rfl 0 rfl ?_
  refine as_geti 1 C fl_X8_50_7 dX8_addIf_1 (by decide) sh_6 ?_
  refine am_bipush 4 (nI 10) C dX8_addIf_4 (by decide) ?_
  refine am_icmp_ge 6 74 C dX8_addIf_6 (by decide) (fun c14 => ?_) (fun c14 => ?_)
  · have E := am_ifT E c14
    replace E := Option.some.inj E
    subst E
    exact as_vret 74 C Z dX8_addIf_74
  · have E := am_ifF E c14
    refine am_aload_n 9 C dX8_addIf_9 rfl 0 rfl ?_
    refine as_getr 10 C fl_X8_27_7 dX8_addIf_10 (by decide) sh_6 (rf_6_11 _ _) ?_
    refine am_iconst 13 (nI 4) C dX8_addIf_13 (by decide) ?_
    refine am_aload_n 14 C dX8_addIf_14 rfl 0 rfl ?_
    refine as_geti 15 C fl_X8_50_7 dX8_addIf_15 (by decide) sh_6 ?_
    refine am_imul 18 C dX8_addIf_18 ?_
    refine am_iload_n 19 C dX8_addIf_19 rfl 1 rfl ?_
    obtain ⟨g5, E⟩ := am_gdE E
    obtain ⟨s6, hs6, E⟩ := am_ltE E
    refine as_iast 20 C dX8_addIf_20 (by decide) sh_12 g5 hs6 ?_
    refine am_aload_n 21 C dX8_addIf_21 rfl 0 rfl ?_
    refine as_getr 22 C fl_X8_27_7 dX8_addIf_22 (by decide) sh_6 (rf_6_11 _ _) ?_
    refine am_iconst 25 (nI 4) C dX8_addIf_25 (by decide) ?_
    refine am_aload_n 26 C dX8_addIf_26 rfl 0 rfl ?_
    refine as_geti 27 C fl_X8_50_7 dX8_addIf_27 (by decide) sh_6 ?_
    refine am_imul 30 C dX8_addIf_30 ?_
    refine am_iconst 31 (1 : Int32) C dX8_addIf_31 (by decide) ?_
    refine am_iadd 32 C dX8_addIf_32 ?_
    refine am_iload_n 33 C dX8_addIf_33 rfl 2 rfl ?_
    obtain ⟨g7, E⟩ := am_gdE E
    obtain ⟨s8, hs8, E⟩ := am_ltE E
    refine as_iast 34 C dX8_addIf_34 (by decide) sh_12 g7 hs8 ?_
    refine am_aload_n 35 C dX8_addIf_35 rfl 0 rfl ?_
    refine as_getr 36 C fl_X8_27_7 dX8_addIf_36 (by decide) sh_6 (rf_6_11 _ _) ?_
    refine am_iconst 39 (nI 4) C dX8_addIf_39 (by decide) ?_
    refine am_aload_n 40 C dX8_addIf_40 rfl 0 rfl ?_
    refine as_geti 41 C fl_X8_50_7 dX8_addIf_41 (by decide) sh_6 ?_
    refine am_imul 44 C dX8_addIf_44 ?_
    refine am_iconst 45 (nI 2) C dX8_addIf_45 (by decide) ?_
    refine am_iadd 46 C dX8_addIf_46 ?_
    refine am_iload_n 47 C dX8_addIf_47 rfl 3 rfl ?_
    obtain ⟨g9, E⟩ := am_gdE E
    obtain ⟨s10, hs10, E⟩ := am_ltE E
    refine as_iast 48 C dX8_addIf_48 (by decide) sh_12 g9 hs10 ?_
    refine am_aload_n 49 C dX8_addIf_49 rfl 0 rfl ?_
    refine as_getr 50 C fl_X8_27_7 dX8_addIf_50 (by decide) sh_6 (rf_6_11 _ _) ?_
    refine am_iconst 53 (nI 4) C dX8_addIf_53 (by decide) ?_
    refine am_aload_n 54 C dX8_addIf_54 rfl 0 rfl ?_
    refine as_geti 55 C fl_X8_50_7 dX8_addIf_55 (by decide) sh_6 ?_
    refine am_imul 58 C dX8_addIf_58 ?_
    refine am_iconst 59 (nI 3) C dX8_addIf_59 (by decide) ?_
    refine am_iadd 60 C dX8_addIf_60 ?_
    refine am_iload 61 C dX8_addIf_61 4 rfl ?_
    obtain ⟨g11, E⟩ := am_gdE E
    obtain ⟨s12, hs12, E⟩ := am_ltE E
    refine as_iast 63 C dX8_addIf_63 (by decide) sh_12 g11 hs12 ?_
    refine am_aload_n 64 C dX8_addIf_64 rfl 0 rfl ?_
    refine am_dup 65 C dX8_addIf_65 rfl ?_
    refine as_geti 66 C fl_X8_50_7 dX8_addIf_66 (by decide) sh_6 ?_
    refine am_iconst 69 (1 : Int32) C dX8_addIf_69 (by decide) ?_
    refine am_iadd 70 C dX8_addIf_70 ?_
    obtain ⟨s13, hs13, E⟩ := am_ltE E
    refine as_puti 71 C fl_X8_50_7 dX8_addIf_71 (by decide) sh_6 rfl rfl hs13 ?_
    replace E := Option.some.inj E
    subst E
    exact as_vret 74 C Z dX8_addIf_74
def f_X8_addHarm (p1 : Int32) (p2 : Int32) (p3 : Int32) (s0 : am_S) : Option (am_S) :=
  am_if ((nI 10) ≤ (s0.1 6 12)) (some s0) (am_gd (¬ ((nI 3) * (s0.1 6 12)) < 0 ∧ (((nI 3) * (s0.1 6 12))).toNatClampNeg < 30) (am_lt (as_i s0 13 (((nI 3) * (s0.1 6 12))).toNatClampNeg p1) (fun s5 => am_gd (¬ (((nI 3) * (s5.1 6 12)) + (1 : Int32)) < 0 ∧ ((((nI 3) * (s5.1 6 12)) + (1 : Int32))).toNatClampNeg < 30) (am_lt (as_i s5 13 ((((nI 3) * (s5.1 6 12)) + (1 : Int32))).toNatClampNeg p2) (fun s7 => am_gd (¬ (((nI 3) * (s7.1 6 12)) + (nI 2)) < 0 ∧ ((((nI 3) * (s7.1 6 12)) + (nI 2))).toNatClampNeg < 30) (am_lt (as_i s7 13 ((((nI 3) * (s7.1 6 12)) + (nI 2))).toNatClampNeg p3) (fun s9 => am_lt (as_i s9 6 12 ((s9.1 6 12) + (1 : Int32))) (fun s10 => some s10))))))))
set_option maxRecDepth 100000 in
set_option maxHeartbeats 4000000 in
theorem t_X8_addHarm (p1 : Int32) (p2 : Int32) (p3 : Int32) (s0 : am_S) {z : am_S} (E : f_X8_addHarm p1 p2 p3 s0 = some z) : AS yX8_addHarm cX8_addHarm 4 none 1 [.ref 6, .int p1, .int p2, .int p3] s0 none z := by
  unfold f_X8_addHarm at E
  refine as_met (lv := [(0, .ref 6), (1, .int p1), (2, .int p2), (3, .int p3)]) (by decide +kernel) (by simp [lg_sl, Value.category]) rfl (fun x C A Z => ?_)
  refine am_aload_n 0 C dX8_addHarm_0 rfl 0 rfl ?_
  refine as_geti 1 C fl_X8_53_7 dX8_addHarm_1 (by decide) sh_6 ?_
  refine am_bipush 4 (nI 10) C dX8_addHarm_4 (by decide) ?_
  refine am_icmp_ge 6 59 C dX8_addHarm_6 (by decide) (fun c11 => ?_) (fun c11 => ?_)
  · have E := am_ifT E c11
    replace E := Option.some.inj E
    subst E
    exact as_vret 59 C Z dX8_addHarm_59
  · have E := am_ifF E c11
    refine am_aload_n 9 C dX8_addHarm_9 rfl 0 rfl ?_
    refine as_getr 10 C fl_X8_30_7 dX8_addHarm_10 (by decide) sh_6 (rf_6_13 _ _) ?_
    refine am_iconst 13 (nI 3) C dX8_addHarm_13 (by decide) ?_
    refine am_aload_n 14 C dX8_addHarm_14 rfl 0 rfl ?_
    refine as_geti 15 C fl_X8_53_7 dX8_addHarm_15 (by decide) sh_6 ?_
    refine am_imul 18 C dX8_addHarm_18 ?_
    refine am_iload_n 19 C dX8_addHarm_19 rfl 1 rfl ?_
    obtain ⟨g4, E⟩ := am_gdE E
    obtain ⟨s5, hs5, E⟩ := am_ltE E
    refine as_iast 20 C dX8_addHarm_20 (by decide) sh_13 g4 hs5 ?_
    refine am_aload_n 21 C dX8_addHarm_21 rfl 0 rfl ?_
    refine as_getr 22 C fl_X8_30_7 dX8_addHarm_22 (by decide) sh_6 (rf_6_13 _ _) ?_
    refine am_iconst 25 (nI 3) C dX8_addHarm_25 (by decide) ?_
    refine am_aload_n 26 C dX8_addHarm_26 rfl 0 rfl ?_
    refine as_geti 27 C fl_X8_53_7 dX8_addHarm_27 (by decide) sh_6 ?_
    refine am_imul 30 C dX8_addHarm_30 ?_
    refine am_iconst 31 (1 : Int32) C dX8_addHarm_31 (by decide) ?_
    refine am_iadd 32 C dX8_addHarm_32 ?_
    refine am_iload_n 33 C dX8_addHarm_33 rfl 2 rfl ?_
    obtain ⟨g6, E⟩ := am_gdE E
    obtain ⟨s7, hs7, E⟩ := am_ltE E
    refine as_iast 34 C dX8_addHarm_34 (by decide) sh_13 g6 hs7 ?_
    refine am_aload_n 35 C dX8_addHarm_35 rfl 0 rfl ?_
    refine as_getr 36 C fl_X8_30_7 dX8_addHarm_36 (by decide) sh_6 (rf_6_13 _ _) ?_
    refine am_iconst 39 (nI 3) C dX8_addHarm_39 (by decide) ?_
    refine am_aload_n 40 C dX8_addHarm_40 rfl 0 rfl ?_
    refine as_geti 41 C fl_X8_53_7 dX8_addHarm_41 (by decide) sh_6 ?_
    refine am_imul 44 C dX8_addHarm_44 ?_
    refine am_iconst 45 (nI 2) C dX8_addHarm_45 (by decide) ?_
    refine am_iadd 46 C dX8_addHarm_46 ?_
    refine am_iload_n 47 C dX8_addHarm_47 rfl 3 rfl ?_
    obtain ⟨g8, E⟩ := am_gdE E
    obtain ⟨s9, hs9, E⟩ := am_ltE E
    refine as_iast 48 C dX8_addHarm_48 (by decide) sh_13 g8 hs9 ?_
    refine am_aload_n 49 C dX8_addHarm_49 rfl 0 rfl ?_
    refine am_dup 50 C dX8_addHarm_50 rfl ?_
    refine as_geti 51 C fl_X8_53_7 dX8_addHarm_51 (by decide) sh_6 ?_
    refine am_iconst 54 (1 : Int32) C dX8_addHarm_54 (by decide) ?_
    refine am_iadd 55 C dX8_addHarm_55 ?_
    obtain ⟨s10, hs10, E⟩ := am_ltE E
    refine as_puti 56 C fl_X8_53_7 dX8_addHarm_56 (by decide) sh_6 rfl rfl hs10 ?_
    replace E := Option.some.inj E
    subst E
    exact as_vret 59 C Z dX8_addHarm_59
