def b_X12_besides_4 (p1 : Int32) (s0 : am_S) (v3 : Int32) (v4 : Int32) : Option ((Int32 × Int32) ⊕ (Int32)) :=
  am_if ((s0.1 258 2) ≤ v4) (some (Sum.inr v3)) (am_if (v4 = p1) (am_lt (v3 ||| (0 : Int32)) (fun v5 => am_lt (v4 + (1 : Int32)) (fun v6 => some (Sum.inl (v5, v6))))) (am_bd (f_X12_streetOf p1 v4 s0) (fun v7 => am_if (v7 < 0) (am_lt (v3 ||| (0 : Int32)) (fun v8 => am_lt (v4 + (1 : Int32)) (fun v9 => some (Sum.inl (v8, v9))))) (am_lt (v3 ||| ((1 : Int32) <<< (v4 &&& 31))) (fun v10 => am_lt (v4 + (1 : Int32)) (fun v11 => some (Sum.inl (v10, v11))))))))
def f_X12_besides (p1 : Int32) (s0 : am_S) : Option (Int32) :=
  am_lp (fun (q : Int32 × Int32) => b_X12_besides_4 p1 s0 q.1 q.2) am_F ((0 : Int32), (0 : Int32))
set_option maxRecDepth 100000 in
set_option maxHeartbeats 4000000 in
theorem t_X12_besides (p1 : Int32) (s0 : am_S) {z : Int32} (E : f_X12_besides p1 s0 = some z) : AS yX12_besides cX12_besides 4 (some .int) 2 [.ref 248, .int p1] s0 (some (.int z)) s0 := by
  unfold f_X12_besides at E
  refine as_met (lv := [(0, .ref 248), (1, .int p1)]) (by decide +kernel) (by simp [lg_sl, Value.category]) rfl (fun x C A Z => ?_)
  refine am_iconst 0 (0 : Int32) C dX12_besides_0 (by decide) ?_
  refine am_istore_n 1 (lv2 := [(2, .int (0 : Int32)), (0, .ref 248), (1, .int p1)]) C dX12_besides_1 rfl (by decide) rfl ?_
  refine am_iconst 2 (0 : Int32) C dX12_besides_2 (by decide) ?_
  refine am_istore_n 3 (lv2 := [(3, .int (0 : Int32)), (2, .int (0 : Int32)), (0, .ref 248), (1, .int p1)]) C dX12_besides_3 rfl (by decide) rfl ?_
  have LP2 : ∀ (n : Nat) (v3 : Int32) (v4 : Int32), am_lp (fun (q : Int32 × Int32) => b_X12_besides_4 p1 s0 q.1 q.2) n (v3, v4) = some z → AX x 0 0 4 [(0, .ref 248), (1, .int p1), (2, .int v3), (3, .int v4)] [] am_N (am_h s0) := by
    intro n
    induction n with
    | zero => intro v3 v4 E; exact (am_lp0 E).elim
    | succ n ih2 =>
      intro v3 v4 E
      obtain ⟨r2, E, Er2⟩ := am_lpE E
      replace E : b_X12_besides_4 p1 s0 v3 v4 = some r2 := E
      unfold b_X12_besides_4 at E
      refine am_iload_n 4 C dX12_besides_4 rfl 3 rfl ?_
      refine am_aload_n 5 C dX12_besides_5 rfl 0 rfl ?_
      refine as_getr 6 C fl_X12_39_11 dX12_besides_6 (by decide) sh_248 (rf_248_20 _ _) ?_
      refine am_iconst 9 (nI 2) C dX12_besides_9 (by decide) ?_
      refine as_ialdK 10 2 C dX12_besides_10 (by decide) sh_258 (by decide) (by decide) ?_
      refine am_icmp_ge 11 44 C dX12_besides_11 (by decide) (fun c14 => ?_) (fun c14 => ?_)
      · have E := am_ifT E c14
        refine am_iload_n 44 C dX12_besides_44 rfl 2 rfl ?_
        replace E := Option.some.inj E
        replace E := am_exR E Er2
        subst E
        exact as_iret 45 C Z rfl dX12_besides_45
      · have E := am_ifF E c14
        refine am_iload_n 14 C dX12_besides_14 rfl 2 rfl ?_
        refine am_iload_n 15 C dX12_besides_15 rfl 3 rfl ?_
        refine am_iload_n 16 C dX12_besides_16 rfl 1 rfl ?_
        refine am_icmp_eq 17 35 C dX12_besides_17 (by decide) (fun c13 => ?_) (fun c13 => ?_)
        · have E := am_ifT E c13
          refine am_iconst 35 (0 : Int32) C dX12_besides_35 (by decide) ?_
          refine am_ior 36 C dX12_besides_36 ?_
          obtain ⟨v5, hv5, E⟩ := am_ltE E
          refine as_nm hv5 ?_
          refine am_istore_n 37 (lv2 := [(2, .int v5), (0, .ref 248), (1, .int p1), (3, .int v4)]) C dX12_besides_37 rfl (by decide) rfl ?_
          obtain ⟨v6, hv6, E⟩ := am_ltE E
          refine as_iinc 38 (q := (1 : Int32)) (lv2 := [(3, .int v6), (2, .int v5), (0, .ref 248), (1, .int p1)]) C dX12_besides_38 3 rfl (by decide) hv6 (by decide) rfl ?_
          refine am_goto 41 4 C dX12_besides_41 (by decide) ?_
          replace E := Option.some.inj E
          replace E := am_exL E Er2
          refine am_lvs [2, 3, 1, 0] rfl ?_
          exact ih2 _ _ E
        · have E := am_ifF E c13
          refine am_aload_n 20 C dX12_besides_20 rfl 0 rfl ?_
          refine am_iload_n 21 C dX12_besides_21 rfl 1 rfl ?_
          refine am_iload_n 22 C dX12_besides_22 rfl 3 rfl ?_
          obtain ⟨v7, Ec, E⟩ := am_bdE E
          refine as_callV 23 (s2 := s0) (st := [.int v3]) (st2 := [.int v7, .int v3]) [.int p1, .int v4] C A (by decide) ml_X12_299 yc_X12_streetOf yv_X12_streetOf (t_X12_streetOf p1 v4 s0 Ec) (by decide) sh_248 rfl rfl (Nat.le_of_ble_eq_true rfl) rfl dX12_besides_23 ?_
          refine am_if_lt 26 35 C dX12_besides_26 (by decide) (fun c12 => ?_) (fun c12 => ?_)
          · have E := am_ifT E c12
            refine am_iconst 35 (0 : Int32) C dX12_besides_35 (by decide) ?_
            refine am_ior 36 C dX12_besides_36 ?_
            obtain ⟨v8, hv8, E⟩ := am_ltE E
            refine as_nm hv8 ?_
            refine am_istore_n 37 (lv2 := [(2, .int v8), (0, .ref 248), (1, .int p1), (3, .int v4)]) C dX12_besides_37 rfl (by decide) rfl ?_
            obtain ⟨v9, hv9, E⟩ := am_ltE E
            refine as_iinc 38 (q := (1 : Int32)) (lv2 := [(3, .int v9), (2, .int v8), (0, .ref 248), (1, .int p1)]) C dX12_besides_38 3 rfl (by decide) hv9 (by decide) rfl ?_
            refine am_goto 41 4 C dX12_besides_41 (by decide) ?_
            replace E := Option.some.inj E
            replace E := am_exL E Er2
            refine am_lvs [2, 3, 1, 0] rfl ?_
            exact ih2 _ _ E
          · have E := am_ifF E c12
            refine am_iconst 29 (1 : Int32) C dX12_besides_29 (by decide) ?_
            refine am_iload_n 30 C dX12_besides_30 rfl 3 rfl ?_
            refine am_ishl 31 C dX12_besides_31 ?_
            refine am_goto 32 36 C dX12_besides_32 (by decide) ?_
            refine am_ior 36 C dX12_besides_36 ?_
            obtain ⟨v10, hv10, E⟩ := am_ltE E
            refine as_nm hv10 ?_
            refine am_istore_n 37 (lv2 := [(2, .int v10), (0, .ref 248), (1, .int p1), (3, .int v4)]) C dX12_besides_37 rfl (by decide) rfl ?_
            obtain ⟨v11, hv11, E⟩ := am_ltE E
            refine as_iinc 38 (q := (1 : Int32)) (lv2 := [(3, .int v11), (2, .int v10), (0, .ref 248), (1, .int p1)]) C dX12_besides_38 3 rfl (by decide) hv11 (by decide) rfl ?_
            refine am_goto 41 4 C dX12_besides_41 (by decide) ?_
            replace E := Option.some.inj E
            replace E := am_exL E Er2
            refine am_lvs [2, 3, 1, 0] rfl ?_
            exact ih2 _ _ E
  refine am_lvs [2, 3, 1, 0] rfl ?_
  exact LP2 am_F _ _ E
def j_X12_charter_16 (p1 : Int32) (s2 : am_S) : Option (Int32 × am_S) :=
  am_lt (s2.1 248 21) (fun v3 => am_lt (as_i s2 248 21 p1) (fun s4 => some (v3, s4)))
def f_X12_charter (p1 : Int32) (s0 : am_S) : Option (Int32 × am_S) :=
  am_if (p1 = (-1 : Int32)) (j_X12_charter_16 p1 s0) (am_bd (f_X12_isRule p1 s0) (fun v5 => am_if (v5 = 0) (some ((-2 : Int32), s0)) (j_X12_charter_16 p1 s0)))
set_option maxRecDepth 100000 in
set_option maxHeartbeats 4000000 in
theorem t_X12_charter (p1 : Int32) (s0 : am_S) {z : Int32 × am_S} (E : f_X12_charter p1 s0 = some z) : AS yX12_charter cX12_charter 3 (some .int) 2 [.ref 248, .int p1] s0 (some (.int z.1)) z.2 := by
  unfold f_X12_charter at E
  refine as_met (lv := [(0, .ref 248), (1, .int p1)]) (by decide +kernel) (by simp [lg_sl, Value.category]) rfl (fun x C A Z => ?_)
  have K16 : ∀ (s2 : am_S), j_X12_charter_16 p1 s2 = some z → AX x 0 0 16 [(0, .ref 248), (1, .int p1)] [] am_N (am_h s2) := by
    intro s2 E
    unfold j_X12_charter_16 at E
    refine am_aload_n 16 C dX12_charter_16 rfl 0 rfl ?_
    refine as_geti 17 C fl_X12_42_11 dX12_charter_17 (by decide) sh_248 ?_
    obtain ⟨v3, hv3, E⟩ := am_ltE E
    refine as_nm hv3 ?_
    refine am_istore_n 20 (lv2 := [(2, .int v3), (0, .ref 248), (1, .int p1)]) C dX12_charter_20 rfl (by decide) rfl ?_
    refine am_aload_n 21 C dX12_charter_21 rfl 1 rfl ?_
    refine am_iload_n 22 C dX12_charter_22 rfl 2 rfl ?_
    obtain ⟨s4, hs4, E⟩ := am_ltE E
    refine as_puti 23 C fl_X12_42_11 dX12_charter_23 (by decide) sh_248 rfl rfl hs4 ?_
    refine am_iload_n 26 C dX12_charter_26 rfl 0 rfl ?_
    replace E := Option.some.inj E
    subst E
    exact as_iret 27 C Z rfl dX12_charter_27
  refine am_iload_n 0 C dX12_charter_0 rfl 1 rfl ?_
  refine am_iconst 1 (-1 : Int32) C dX12_charter_1 (by decide) ?_
  refine am_icmp_eq 2 16 C dX12_charter_2 (by decide) (fun c7 => ?_) (fun c7 => ?_)
  · have E := am_ifT E c7
    refine am_lvs [0, 1] rfl ?_
    exact K16 _ E
  · have E := am_ifF E c7
    refine am_aload_n 5 C dX12_charter_5 rfl 0 rfl ?_
    refine am_iload_n 6 C dX12_charter_6 rfl 1 rfl ?_
    obtain ⟨v5, Ec, E⟩ := am_bdE E
    refine as_callV 7 (s2 := s0) (st := []) (st2 := [.int v5]) [.int p1] C A (by decide) ml_X12_302 yc_X12_isRule yv_X12_isRule (t_X12_isRule p1 s0 Ec) (by decide) sh_248 rfl rfl (Nat.le_of_ble_eq_true rfl) rfl dX12_charter_7 ?_
    refine am_if_ne 10 16 C dX12_charter_10 (by decide) (fun c6 => ?_) (fun c6 => ?_)
    · have E := am_ifF E c6
      refine am_lvs [0, 1] rfl ?_
      exact K16 _ E
    · have E := am_ifT E c6
      refine am_bipush 13 (-2 : Int32) C dX12_charter_13 (by decide) ?_
      replace E := Option.some.inj E
      subst E
      exact as_iret 15 C Z rfl dX12_charter_15
def f_X12_isIfOpen (p1 : Int32) (s0 : am_S) : Option (Int32) :=
  am_lt ((nI 199) + ((nI 4) * p1)) (fun v2 => am_gd (¬ v2 < 0 ∧ (v2).toNatClampNeg < 328) (am_lt (s0.1 258 (v2).toNatClampNeg) (fun v4 => am_gd (¬ v4 < 0 ∧ (v4).toNatClampNeg < 8) (am_lt (v2 + (1 : Int32)) (fun v6 => am_gd (¬ v6 < 0 ∧ (v6).toNatClampNeg < 328) (am_if ((s0.1 259 (v4).toNatClampNeg) = (s0.1 258 (v6).toNatClampNeg)) (am_lt (v2 + (nI 2)) (fun v8 => am_gd (¬ v8 < 0 ∧ (v8).toNatClampNeg < 328) (am_lt (s0.1 258 (v8).toNatClampNeg) (fun v10 => am_gd (¬ v10 < 0 ∧ (v10).toNatClampNeg < 8) (am_if ((s0.1 259 (v10).toNatClampNeg) = (nI 2)) (some (1 : Int32)) (some (0 : Int32))))))) (some (0 : Int32))))))))
set_option maxRecDepth 100000 in
set_option maxHeartbeats 4000000 in
theorem t_X12_isIfOpen (p1 : Int32) (s0 : am_S) {z : Int32} (E : f_X12_isIfOpen p1 s0 = some z) : AS yX12_isIfOpen cX12_isIfOpen 3 (some .boolean) 1 [.ref 248, .int p1] s0 (some (.int z)) s0 := by
  unfold f_X12_isIfOpen at E
  refine as_met (lv := [(0, .ref 248), (1, .int p1)]) (by decide +kernel) (by simp [lg_sl, Value.category]) rfl (fun x C A Z => ?_)
  refine am_sipush 0 (nI 199) C dX12_isIfOpen_0 (by decide) ?_
  refine am_iconst 3 (nI 4) C dX12_isIfOpen_3 (by decide) ?_
  refine am_iload_n 4 C dX12_isIfOpen_4 rfl 1 rfl ?_
  refine am_imul 5 C dX12_isIfOpen_5 ?_
  refine am_iadd 6 C dX12_isIfOpen_6 ?_
  obtain ⟨v2, hv2, E⟩ := am_ltE E
  refine as_nm hv2 ?_
  refine am_istore_n 7 (lv2 := [(2, .int v2), (0, .ref 248), (1, .int p1)]) C dX12_isIfOpen_7 rfl (by decide) rfl ?_
  refine am_aload_n 8 C dX12_isIfOpen_8 rfl 1 rfl ?_
  refine as_getr 9 C fl_X12_46_11 dX12_isIfOpen_9 (by decide) sh_248 (rf_248_23 _ _) ?_
  refine am_aload_n 12 C dX12_isIfOpen_12 rfl 1 rfl ?_
  refine as_getr 13 C fl_X12_39_11 dX12_isIfOpen_13 (by decide) sh_248 (rf_248_20 _ _) ?_
  refine am_iload_n 16 C dX12_isIfOpen_16 rfl 0 rfl ?_
  obtain ⟨g3, E⟩ := am_gdE E
  refine as_iald 17 C dX12_isIfOpen_17 (by decide) sh_258 g3 ?_
  obtain ⟨v4, hv4, E⟩ := am_ltE E
  refine as_nm hv4 ?_
  obtain ⟨g5, E⟩ := am_gdE E
  refine as_iald 18 C dX12_isIfOpen_18 (by decide) sh_259 g5 ?_
  refine am_aload_n 19 C dX12_isIfOpen_19 rfl 1 rfl ?_
  refine as_getr 20 C fl_X12_39_11 dX12_isIfOpen_20 (by decide) sh_248 (rf_248_20 _ _) ?_
  refine am_iload_n 23 C dX12_isIfOpen_23 rfl 0 rfl ?_
  refine am_iconst 24 (1 : Int32) C dX12_isIfOpen_24 (by decide) ?_
  refine am_iadd 25 C dX12_isIfOpen_25 ?_
  obtain ⟨v6, hv6, E⟩ := am_ltE E
  refine as_nm hv6 ?_
  obtain ⟨g7, E⟩ := am_gdE E
  refine as_iald 26 C dX12_isIfOpen_26 (by decide) sh_258 g7 ?_
  refine am_icmp_ne 27 51 C dX12_isIfOpen_27 (by decide) (fun c13 => ?_) (fun c13 => ?_)
  · have E := am_ifF E c13
    refine am_iconst 51 (0 : Int32) C dX12_isIfOpen_51 (by decide) ?_
    replace E := Option.some.inj E
    subst E
    exact as_iret 52 C Z rfl dX12_isIfOpen_52
  · have E := am_ifT E c13
    refine am_aload_n 30 C dX12_isIfOpen_30 rfl 1 rfl ?_
    refine as_getr 31 C fl_X12_46_11 dX12_isIfOpen_31 (by decide) sh_248 (rf_248_23 _ _) ?_
    refine am_aload_n 34 C dX12_isIfOpen_34 rfl 1 rfl ?_
    refine as_getr 35 C fl_X12_39_11 dX12_isIfOpen_35 (by decide) sh_248 (rf_248_20 _ _) ?_
    refine am_iload_n 38 C dX12_isIfOpen_38 rfl 0 rfl ?_
    refine am_iconst 39 (nI 2) C dX12_isIfOpen_39 (by decide) ?_
    refine am_iadd 40 C dX12_isIfOpen_40 ?_
    obtain ⟨v8, hv8, E⟩ := am_ltE E
    refine as_nm hv8 ?_
    obtain ⟨g9, E⟩ := am_gdE E
    refine as_iald 41 C dX12_isIfOpen_41 (by decide) sh_258 g9 ?_
    obtain ⟨v10, hv10, E⟩ := am_ltE E
    refine as_nm hv10 ?_
    obtain ⟨g11, E⟩ := am_gdE E
    refine as_iald 42 C dX12_isIfOpen_42 (by decide) sh_259 g11 ?_
    refine am_iconst 43 (nI 2) C dX12_isIfOpen_43 (by decide) ?_
    refine am_icmp_ne 44 51 C dX12_isIfOpen_44 (by decide) (fun c12 => ?_) (fun c12 => ?_)
    · have E := am_ifF E c12
      refine am_iconst 51 (0 : Int32) C dX12_isIfOpen_51 (by decide) ?_
      replace E := Option.some.inj E
      subst E
      exact as_iret 52 C Z rfl dX12_isIfOpen_52
    · have E := am_ifT E c12
      refine am_iconst 47 (1 : Int32) C dX12_isIfOpen_47 (by decide) ?_
      refine am_goto 48 52 C dX12_isIfOpen_48 (by decide) ?_
      replace E := Option.some.inj E
      subst E
      exact as_iret 52 C Z rfl dX12_isIfOpen_52
def b_X12_believes_32 (v4 : Int32) (s5 : am_S) : Option ((Int32 × am_S) ⊕ (am_S)) :=
  am_if ((s5.1 258 4) ≤ v4) (some (Sum.inr s5)) (am_bd (f_X12_isIfOpen v4 s5) (fun v6 => am_if (v6 = 0) (am_lt (v4 + (1 : Int32)) (fun v7 => some (Sum.inl (v7, s5)))) (am_lt (((nI 199) + ((nI 4) * v4)) + (nI 2)) (fun v8 => am_gd (¬ v8 < 0 ∧ (v8).toNatClampNeg < 328) (am_lt (((nI 199) + ((nI 4) * v4)) + (nI 3)) (fun v10 => am_gd (¬ v10 < 0 ∧ (v10).toNatClampNeg < 328) (am_gd (¬ (s5.1 258 (v8).toNatClampNeg) < 0 ∧ ((s5.1 258 (v8).toNatClampNeg)).toNatClampNeg < 8) (am_lt (as_i s5 259 ((s5.1 258 (v8).toNatClampNeg)).toNatClampNeg (s5.1 258 (v10).toNatClampNeg)) (fun s13 => some (Sum.inl ((0 : Int32), s13)))))))))))
def j_X12_believes_30 (s2 : am_S) : Option (am_S) :=
  am_lp (fun (q : Int32 × am_S) => b_X12_believes_32 q.1 q.2) am_F ((0 : Int32), s2)
def b_X12_believes_2 (p1 : Int32) (v17 : Int32) (s18 : am_S) : Option ((Int32 × am_S) ⊕ (am_S)) :=
  am_if ((s18.1 258 0) ≤ v17) (am_bd (j_X12_believes_30 s18) (fun e19 => some (Sum.inr e19))) (am_bd (f_X12_holdOf p1 v17 s18) (fun v20 => am_gd (¬ v17 < 0 ∧ (v17).toNatClampNeg < 8) (am_lt (as_i s18 259 (v17).toNatClampNeg v20) (fun s22 => am_lt (v17 + (1 : Int32)) (fun v23 => some (Sum.inl (v23, s22)))))))
def f_X12_believes (p1 : Int32) (s0 : am_S) : Option (am_S) :=
  am_lp (fun (q : Int32 × am_S) => b_X12_believes_2 p1 q.1 q.2) am_F ((0 : Int32), s0)
set_option maxRecDepth 100000 in
set_option maxHeartbeats 4000000 in
theorem t_X12_believes (p1 : Int32) (s0 : am_S) {z : am_S} (E : f_X12_believes p1 s0 = some z) : AS yX12_believes cX12_believes 3 none 2 [.ref 248, .int p1] s0 none z := by
  unfold f_X12_believes at E
  refine as_met (lv := [(0, .ref 248), (1, .int p1)]) (by decide +kernel) (by simp [lg_sl, Value.category]) rfl (fun x C A Z => ?_)
  have K30 : ∀ (s2 : am_S), j_X12_believes_30 s2 = some z → AX x 0 0 30 [(0, .ref 248)] [] am_N (am_h s2) := by
    intro s2 E
    unfold j_X12_believes_30 at E
    refine am_iconst 30 (0 : Int32) C dX12_believes_30 (by decide) ?_
    refine am_istore_n 31 (lv2 := [(2, .int (0 : Int32)), (0, .ref 248)]) C dX12_believes_31 rfl (by decide) rfl ?_
    have LP3 : ∀ (n : Nat) (v4 : Int32) (s5 : am_S), am_lp (fun (q : Int32 × am_S) => b_X12_believes_32 q.1 q.2) n (v4, s5) = some z → AX x 0 0 32 [(0, .ref 248), (2, .int v4)] [] am_N (am_h s5) := by
      intro n
      induction n with
      | zero => intro v4 s5 E; exact (am_lp0 E).elim
      | succ n ih3 =>
        intro v4 s5 E
        obtain ⟨r3, E, Er3⟩ := am_lpE E
        replace E : b_X12_believes_32 v4 s5 = some r3 := E
        unfold b_X12_believes_32 at E
        refine am_iload_n 32 C dX12_believes_32 rfl 1 rfl ?_
        refine am_aload_n 33 C dX12_believes_33 rfl 0 rfl ?_
        refine as_getr 34 C fl_X12_39_11 dX12_believes_34 (by decide) sh_248 (rf_248_20 _ _) ?_
        refine am_iconst 37 (nI 4) C dX12_believes_37 (by decide) ?_
        refine as_ialdK 38 4 C dX12_believes_38 (by decide) sh_258 (by decide) (by decide) ?_
        refine am_icmp_ge 39 94 C dX12_believes_39 (by decide) (fun c15 => ?_) (fun c15 => ?_)
        · have E := am_ifT E c15
          replace E := Option.some.inj E
          replace E := am_exR E Er3
          subst E
          exact as_vret 94 C Z dX12_believes_94
        · have E := am_ifF E c15
          refine am_aload_n 42 C dX12_believes_42 rfl 0 rfl ?_
          refine am_iload_n 43 C dX12_believes_43 rfl 1 rfl ?_
          obtain ⟨v6, Ec, E⟩ := am_bdE E
          refine as_callV 44 (s2 := s5) (st := []) (st2 := [.int v6]) [.int v4] C A (by decide) ml_X12_308 yc_X12_isIfOpen yv_X12_isIfOpen (t_X12_isIfOpen v4 s5 Ec) (by decide) sh_248 rfl rfl (Nat.le_of_ble_eq_true rfl) rfl dX12_believes_44 ?_
          refine am_if_eq 47 88 C dX12_believes_47 (by decide) (fun c14 => ?_) (fun c14 => ?_)
          · have E := am_ifT E c14
            obtain ⟨v7, hv7, E⟩ := am_ltE E
            refine as_iinc 88 (q := (1 : Int32)) (lv2 := [(2, .int v7), (0, .ref 248)]) C dX12_believes_88 1 rfl (by decide) hv7 (by decide) rfl ?_
            refine am_goto 91 32 C dX12_believes_91 (by decide) ?_
            replace E := Option.some.inj E
            replace E := am_exL E Er3
            refine am_lvs [1, 0] rfl ?_
            exact ih3 _ _ E
          · have E := am_ifF E c14
            refine am_aload_n 50 C dX12_believes_50 rfl 0 rfl ?_
            refine as_getr 51 C fl_X12_46_11 dX12_believes_51 (by decide) sh_248 (rf_248_23 _ _) ?_
            refine am_aload_n 54 C dX12_believes_54 rfl 0 rfl ?_
            refine as_getr 55 C fl_X12_39_11 dX12_believes_55 (by decide) sh_248 (rf_248_20 _ _) ?_
            refine am_sipush 58 (nI 199) C dX12_believes_58 (by decide) ?_
            refine am_iconst 61 (nI 4) C dX12_believes_61 (by decide) ?_
            refine am_iload_n 62 C dX12_believes_62 rfl 1 rfl ?_
            refine am_imul 63 C dX12_believes_63 ?_
            refine am_iadd 64 C dX12_believes_64 ?_
            refine am_iconst 65 (nI 2) C dX12_believes_65 (by decide) ?_
            refine am_iadd 66 C dX12_believes_66 ?_
            obtain ⟨v8, hv8, E⟩ := am_ltE E
            refine as_nm hv8 ?_
            obtain ⟨g9, E⟩ := am_gdE E
            refine as_iald 67 C dX12_believes_67 (by decide) sh_258 g9 ?_
            refine am_aload_n 68 C dX12_believes_68 rfl 0 rfl ?_
            refine as_getr 69 C fl_X12_39_11 dX12_believes_69 (by decide) sh_248 (rf_248_20 _ _) ?_
            refine am_sipush 72 (nI 199) C dX12_believes_72 (by decide) ?_
            refine am_iconst 75 (nI 4) C dX12_believes_75 (by decide) ?_
            refine am_iload_n 76 C dX12_believes_76 rfl 1 rfl ?_
            refine am_imul 77 C dX12_believes_77 ?_
            refine am_iadd 78 C dX12_believes_78 ?_
            refine am_iconst 79 (nI 3) C dX12_believes_79 (by decide) ?_
            refine am_iadd 80 C dX12_believes_80 ?_
            obtain ⟨v10, hv10, E⟩ := am_ltE E
            refine as_nm hv10 ?_
            obtain ⟨g11, E⟩ := am_gdE E
            refine as_iald 81 C dX12_believes_81 (by decide) sh_258 g11 ?_
            obtain ⟨g12, E⟩ := am_gdE E
            obtain ⟨s13, hs13, E⟩ := am_ltE E
            refine as_iast 82 C dX12_believes_82 (by decide) sh_259 g12 hs13 ?_
            refine am_iconst 83 (0 : Int32) C dX12_believes_83 (by decide) ?_
            refine am_istore_n 84 (lv2 := [(2, .int (0 : Int32)), (0, .ref 248)]) C dX12_believes_84 rfl (by decide) rfl ?_
            refine am_goto 85 32 C dX12_believes_85 (by decide) ?_
            replace E := Option.some.inj E
            replace E := am_exL E Er3
            refine am_lvs [1, 0] rfl ?_
            exact ih3 _ _ E
    refine am_lvs [1, 0] rfl ?_
    exact LP3 am_F _ _ E
  refine am_iconst 0 (0 : Int32) C dX12_believes_0 (by decide) ?_
  refine am_istore_n 1 (lv2 := [(2, .int (0 : Int32)), (0, .ref 248), (1, .int p1)]) C dX12_believes_1 rfl (by decide) rfl ?_
  have LP16 : ∀ (n : Nat) (v17 : Int32) (s18 : am_S), am_lp (fun (q : Int32 × am_S) => b_X12_believes_2 p1 q.1 q.2) n (v17, s18) = some z → AX x 0 0 2 [(0, .ref 248), (1, .int p1), (2, .int v17)] [] am_N (am_h s18) := by
    intro n
    induction n with
    | zero => intro v17 s18 E; exact (am_lp0 E).elim
    | succ n ih16 =>
      intro v17 s18 E
      obtain ⟨r16, E, Er16⟩ := am_lpE E
      replace E : b_X12_believes_2 p1 v17 s18 = some r16 := E
      unfold b_X12_believes_2 at E
      refine am_iload_n 2 C dX12_believes_2 rfl 2 rfl ?_
      refine am_aload_n 3 C dX12_believes_3 rfl 0 rfl ?_
      refine as_getr 4 C fl_X12_39_11 dX12_believes_4 (by decide) sh_248 (rf_248_20 _ _) ?_
      refine am_iconst 7 (0 : Int32) C dX12_believes_7 (by decide) ?_
      refine as_ialdK 8 0 C dX12_believes_8 (by decide) sh_258 (by decide) (by decide) ?_
      refine am_icmp_ge 9 30 C dX12_believes_9 (by decide) (fun c24 => ?_) (fun c24 => ?_)
      · have E := am_ifT E c24
        obtain ⟨e19, E, E2⟩ := am_bdE E
        replace E2 := Option.some.inj E2
        replace E2 := am_exR E2 Er16
        rw [E2] at E
        refine am_lvs [0] rfl ?_
        exact K30 _ E
      · have E := am_ifF E c24
        refine am_aload_n 12 C dX12_believes_12 rfl 0 rfl ?_
        refine as_getr 13 C fl_X12_46_11 dX12_believes_13 (by decide) sh_248 (rf_248_23 _ _) ?_
        refine am_iload_n 16 C dX12_believes_16 rfl 2 rfl ?_
        refine am_aload_n 17 C dX12_believes_17 rfl 0 rfl ?_
        refine am_iload_n 18 C dX12_believes_18 rfl 1 rfl ?_
        refine am_iload_n 19 C dX12_believes_19 rfl 2 rfl ?_
        obtain ⟨v20, Ec, E⟩ := am_bdE E
        refine as_callV 20 (s2 := s18) (st := [.int v17, .ref 259]) (st2 := [.int v20, .int v17, .ref 259]) [.int p1, .int v17] C A (by decide) ml_X12_305 yc_X12_holdOf yv_X12_holdOf (t_X12_holdOf p1 v17 s18 Ec) (by decide) sh_248 rfl rfl (Nat.le_of_ble_eq_true rfl) rfl dX12_believes_20 ?_
        obtain ⟨g21, E⟩ := am_gdE E
        obtain ⟨s22, hs22, E⟩ := am_ltE E
        refine as_iast 23 C dX12_believes_23 (by decide) sh_259 g21 hs22 ?_
        obtain ⟨v23, hv23, E⟩ := am_ltE E
        refine as_iinc 24 (q := (1 : Int32)) (lv2 := [(2, .int v23), (0, .ref 248), (1, .int p1)]) C dX12_believes_24 2 rfl (by decide) hv23 (by decide) rfl ?_
        refine am_goto 27 2 C dX12_believes_27 (by decide) ?_
        replace E := Option.some.inj E
        replace E := am_exL E Er16
        refine am_lvs [1, 2, 0] rfl ?_
        exact ih16 _ _ E
  refine am_lvs [1, 2, 0] rfl ?_
  exact LP16 am_F _ _ E
def b_X12_contradictions_4 (s0 : am_S) (v2 : Int32) (v3 : Int32) : Option ((Int32 × Int32) ⊕ (Int32)) :=
  am_if ((s0.1 258 4) ≤ v3) (some (Sum.inr v2)) (am_lt ((nI 199) + ((nI 4) * v3)) (fun v4 => am_gd (¬ v4 < 0 ∧ (v4).toNatClampNeg < 328) (am_lt (s0.1 258 (v4).toNatClampNeg) (fun v6 => am_gd (¬ v6 < 0 ∧ (v6).toNatClampNeg < 8) (am_lt (v4 + (1 : Int32)) (fun v8 => am_gd (¬ v8 < 0 ∧ (v8).toNatClampNeg < 328) (am_if ((s0.1 259 (v6).toNatClampNeg) = (s0.1 258 (v8).toNatClampNeg)) (am_lt (v4 + (nI 2)) (fun v12 => am_gd (¬ v12 < 0 ∧ (v12).toNatClampNeg < 328) (am_lt (s0.1 258 (v12).toNatClampNeg) (fun v14 => am_gd (¬ v14 < 0 ∧ (v14).toNatClampNeg < 8) (am_lt (v4 + (nI 3)) (fun v16 => am_gd (¬ v16 < 0 ∧ (v16).toNatClampNeg < 328) (am_if ((s0.1 259 (v14).toNatClampNeg) = ((1 : Int32) - (s0.1 258 (v16).toNatClampNeg))) (am_lt (v2 + (1 : Int32)) (fun v20 => am_lt (v3 + (1 : Int32)) (fun v21 => some (Sum.inl (v20, v21))))) (am_lt (v2 + (0 : Int32)) (fun v18 => am_lt (v3 + (1 : Int32)) (fun v19 => some (Sum.inl (v18, v19)))))))))))) (am_lt (v2 + (0 : Int32)) (fun v10 => am_lt (v3 + (1 : Int32)) (fun v11 => some (Sum.inl (v10, v11))))))))))))
def f_X12_contradictions  (s0 : am_S) : Option (Int32) :=
  am_lp (fun (q : Int32 × Int32) => b_X12_contradictions_4 s0 q.1 q.2) am_F ((0 : Int32), (0 : Int32))
set_option maxRecDepth 100000 in
set_option maxHeartbeats 4000000 in
theorem t_X12_contradictions (s0 : am_S) {z : Int32} (E : f_X12_contradictions  s0 = some z) : AS yX12_contradictions cX12_contradictions 4 (some .int) 1 [.ref 248] s0 (some (.int z)) s0 := by
  unfold f_X12_contradictions at E
  refine as_met (lv := [(0, .ref 248)]) (by decide +kernel) (by simp [lg_sl, Value.category]) rfl (fun x C A Z => ?_)
  refine am_iconst 0 (0 : Int32) C dX12_contradictions_0 (by decide) ?_
  refine am_istore_n 1 (lv2 := [(1, .int (0 : Int32)), (0, .ref 248)]) C dX12_contradictions_1 rfl (by decide) rfl ?_
  refine am_iconst 2 (0 : Int32) C dX12_contradictions_2 (by decide) ?_
  refine am_istore_n 3 (lv2 := [(2, .int (0 : Int32)), (1, .int (0 : Int32)), (0, .ref 248)]) C dX12_contradictions_3 rfl (by decide) rfl ?_
  have LP1 : ∀ (n : Nat) (v2 : Int32) (v3 : Int32), am_lp (fun (q : Int32 × Int32) => b_X12_contradictions_4 s0 q.1 q.2) n (v2, v3) = some z → AX x 0 0 4 [(0, .ref 248), (1, .int v2), (2, .int v3)] [] am_N (am_h s0) := by
    intro n
    induction n with
    | zero => intro v2 v3 E; exact (am_lp0 E).elim
    | succ n ih1 =>
      intro v2 v3 E
      obtain ⟨r1, E, Er1⟩ := am_lpE E
      replace E : b_X12_contradictions_4 s0 v2 v3 = some r1 := E
      unfold b_X12_contradictions_4 at E
      refine am_iload_n 4 C dX12_contradictions_4 rfl 2 rfl ?_
      refine am_aload_n 5 C dX12_contradictions_5 rfl 0 rfl ?_
      refine as_getr 6 C fl_X12_39_11 dX12_contradictions_6 (by decide) sh_248 (rf_248_20 _ _) ?_
      refine am_iconst 9 (nI 4) C dX12_contradictions_9 (by decide) ?_
      refine as_ialdK 10 4 C dX12_contradictions_10 (by decide) sh_258 (by decide) (by decide) ?_
      refine am_icmp_ge 11 84 C dX12_contradictions_11 (by decide) (fun c24 => ?_) (fun c24 => ?_)
      · have E := am_ifT E c24
        refine am_iload_n 84 C dX12_contradictions_84 rfl 1 rfl ?_
        replace E := Option.some.inj E
        replace E := am_exR E Er1
        subst E
        exact as_iret 85 C Z rfl dX12_contradictions_85
      · have E := am_ifF E c24
        refine am_sipush 14 (nI 199) C dX12_contradictions_14 (by decide) ?_
        refine am_iconst 17 (nI 4) C dX12_contradictions_17 (by decide) ?_
        refine am_iload_n 18 C dX12_contradictions_18 rfl 2 rfl ?_
        refine am_imul 19 C dX12_contradictions_19 ?_
        refine am_iadd 20 C dX12_contradictions_20 ?_
        obtain ⟨v4, hv4, E⟩ := am_ltE E
        refine as_nm hv4 ?_
        refine am_istore_n 21 (lv2 := [(3, .int v4), (0, .ref 248), (1, .int v2), (2, .int v3)]) C dX12_contradictions_21 rfl (by decide) rfl ?_
        refine am_iload_n 22 C dX12_contradictions_22 rfl 2 rfl ?_
        refine am_aload_n 23 C dX12_contradictions_23 rfl 1 rfl ?_
        refine as_getr 24 C fl_X12_46_11 dX12_contradictions_24 (by decide) sh_248 (rf_248_23 _ _) ?_
        refine am_aload_n 27 C dX12_contradictions_27 rfl 1 rfl ?_
        refine as_getr 28 C fl_X12_39_11 dX12_contradictions_28 (by decide) sh_248 (rf_248_20 _ _) ?_
        refine am_iload_n 31 C dX12_contradictions_31 rfl 0 rfl ?_
        obtain ⟨g5, E⟩ := am_gdE E
        refine as_iald 32 C dX12_contradictions_32 (by decide) sh_258 g5 ?_
        obtain ⟨v6, hv6, E⟩ := am_ltE E
        refine as_nm hv6 ?_
        obtain ⟨g7, E⟩ := am_gdE E
        refine as_iald 33 C dX12_contradictions_33 (by decide) sh_259 g7 ?_
        refine am_aload_n 34 C dX12_contradictions_34 rfl 1 rfl ?_
        refine as_getr 35 C fl_X12_39_11 dX12_contradictions_35 (by decide) sh_248 (rf_248_20 _ _) ?_
        refine am_iload_n 38 C dX12_contradictions_38 rfl 0 rfl ?_
        refine am_iconst 39 (1 : Int32) C dX12_contradictions_39 (by decide) ?_
        refine am_iadd 40 C dX12_contradictions_40 ?_
        obtain ⟨v8, hv8, E⟩ := am_ltE E
        refine as_nm hv8 ?_
        obtain ⟨g9, E⟩ := am_gdE E
        refine as_iald 41 C dX12_contradictions_41 (by decide) sh_258 g9 ?_
        refine am_icmp_ne 42 75 C dX12_contradictions_42 (by decide) (fun c23 => ?_) (fun c23 => ?_)
        · have E := am_ifF E c23
          refine am_iconst 75 (0 : Int32) C dX12_contradictions_75 (by decide) ?_
          refine am_iadd 76 C dX12_contradictions_76 ?_
          obtain ⟨v10, hv10, E⟩ := am_ltE E
          refine as_nm hv10 ?_
          refine am_istore_n 77 (lv2 := [(1, .int v10), (3, .int v4), (0, .ref 248), (2, .int v3)]) C dX12_contradictions_77 rfl (by decide) rfl ?_
          obtain ⟨v11, hv11, E⟩ := am_ltE E
          refine as_iinc 78 (q := (1 : Int32)) (lv2 := [(2, .int v11), (1, .int v10), (3, .int v4), (0, .ref 248)]) C dX12_contradictions_78 3 rfl (by decide) hv11 (by decide) rfl ?_
          refine am_goto 81 4 C dX12_contradictions_81 (by decide) ?_
          replace E := Option.some.inj E
          replace E := am_exL E Er1
          refine am_lvs [3, 1, 0] rfl ?_
          exact ih1 _ _ E
        · have E := am_ifT E c23
          refine am_aload_n 45 C dX12_contradictions_45 rfl 1 rfl ?_
          refine as_getr 46 C fl_X12_46_11 dX12_contradictions_46 (by decide) sh_248 (rf_248_23 _ _) ?_
          refine am_aload_n 49 C dX12_contradictions_49 rfl 1 rfl ?_
          refine as_getr 50 C fl_X12_39_11 dX12_contradictions_50 (by decide) sh_248 (rf_248_20 _ _) ?_
          refine am_iload_n 53 C dX12_contradictions_53 rfl 0 rfl ?_
          refine am_iconst 54 (nI 2) C dX12_contradictions_54 (by decide) ?_
          refine am_iadd 55 C dX12_contradictions_55 ?_
          obtain ⟨v12, hv12, E⟩ := am_ltE E
          refine as_nm hv12 ?_
          obtain ⟨g13, E⟩ := am_gdE E
          refine as_iald 56 C dX12_contradictions_56 (by decide) sh_258 g13 ?_
          obtain ⟨v14, hv14, E⟩ := am_ltE E
          refine as_nm hv14 ?_
          obtain ⟨g15, E⟩ := am_gdE E
          refine as_iald 57 C dX12_contradictions_57 (by decide) sh_259 g15 ?_
          refine am_iconst 58 (1 : Int32) C dX12_contradictions_58 (by decide) ?_
          refine am_aload_n 59 C dX12_contradictions_59 rfl 1 rfl ?_
          refine as_getr 60 C fl_X12_39_11 dX12_contradictions_60 (by decide) sh_248 (rf_248_20 _ _) ?_
          refine am_iload_n 63 C dX12_contradictions_63 rfl 0 rfl ?_
          refine am_iconst 64 (nI 3) C dX12_contradictions_64 (by decide) ?_
          refine am_iadd 65 C dX12_contradictions_65 ?_
          obtain ⟨v16, hv16, E⟩ := am_ltE E
          refine as_nm hv16 ?_
          obtain ⟨g17, E⟩ := am_gdE E
          refine as_iald 66 C dX12_contradictions_66 (by decide) sh_258 g17 ?_
          refine am_isub 67 C dX12_contradictions_67 ?_
          refine am_icmp_ne 68 75 C dX12_contradictions_68 (by decide) (fun c22 => ?_) (fun c22 => ?_)
          · have E := am_ifF E c22
            refine am_iconst 75 (0 : Int32) C dX12_contradictions_75 (by decide) ?_
            refine am_iadd 76 C dX12_contradictions_76 ?_
            obtain ⟨v18, hv18, E⟩ := am_ltE E
            refine as_nm hv18 ?_
            refine am_istore_n 77 (lv2 := [(1, .int v18), (3, .int v4), (0, .ref 248), (2, .int v3)]) C dX12_contradictions_77 rfl (by decide) rfl ?_
            obtain ⟨v19, hv19, E⟩ := am_ltE E
            refine as_iinc 78 (q := (1 : Int32)) (lv2 := [(2, .int v19), (1, .int v18), (3, .int v4), (0, .ref 248)]) C dX12_contradictions_78 3 rfl (by decide) hv19 (by decide) rfl ?_
            refine am_goto 81 4 C dX12_contradictions_81 (by decide) ?_
            replace E := Option.some.inj E
            replace E := am_exL E Er1
            refine am_lvs [3, 1, 0] rfl ?_
            exact ih1 _ _ E
          · have E := am_ifT E c22
            refine am_iconst 71 (1 : Int32) C dX12_contradictions_71 (by decide) ?_
            refine am_goto 72 76 C dX12_contradictions_72 (by decide) ?_
            refine am_iadd 76 C dX12_contradictions_76 ?_
            obtain ⟨v20, hv20, E⟩ := am_ltE E
            refine as_nm hv20 ?_
            refine am_istore_n 77 (lv2 := [(1, .int v20), (3, .int v4), (0, .ref 248), (2, .int v3)]) C dX12_contradictions_77 rfl (by decide) rfl ?_
            obtain ⟨v21, hv21, E⟩ := am_ltE E
            refine as_iinc 78 (q := (1 : Int32)) (lv2 := [(2, .int v21), (1, .int v20), (3, .int v4), (0, .ref 248)]) C dX12_contradictions_78 3 rfl (by decide) hv21 (by decide) rfl ?_
            refine am_goto 81 4 C dX12_contradictions_81 (by decide) ?_
            replace E := Option.some.inj E
            replace E := am_exL E Er1
            refine am_lvs [3, 1, 0] rfl ?_
            exact ih1 _ _ E
  refine am_lvs [2, 1, 0] rfl ?_
  exact LP1 am_F _ _ E
def b_X12_harmBelieved_4 (s0 : am_S) (v2 : Int32) (v3 : Int32) : Option ((Int32 × Int32) ⊕ (Int32)) :=
  am_if ((s0.1 258 5) ≤ v3) (some (Sum.inr v2)) (am_lt ((nI 239) + ((nI 3) * v3)) (fun v4 => am_gd (¬ v4 < 0 ∧ (v4).toNatClampNeg < 328) (am_lt (s0.1 258 (v4).toNatClampNeg) (fun v6 => am_gd (¬ v6 < 0 ∧ (v6).toNatClampNeg < 8) (am_lt (((nI 239) + ((nI 3) * v3)) + (1 : Int32)) (fun v8 => am_gd (¬ v8 < 0 ∧ (v8).toNatClampNeg < 328) (am_if ((s0.1 259 (v6).toNatClampNeg) = (s0.1 258 (v8).toNatClampNeg)) (am_lt (((nI 239) + ((nI 3) * v3)) + (nI 2)) (fun v12 => am_gd (¬ v12 < 0 ∧ (v12).toNatClampNeg < 328) (am_lt (v2 + (s0.1 258 (v12).toNatClampNeg)) (fun v14 => am_lt (v3 + (1 : Int32)) (fun v15 => some (Sum.inl (v14, v15))))))) (am_lt (v2 + (0 : Int32)) (fun v10 => am_lt (v3 + (1 : Int32)) (fun v11 => some (Sum.inl (v10, v11))))))))))))
def f_X12_harmBelieved  (s0 : am_S) : Option (Int32) :=
  am_lp (fun (q : Int32 × Int32) => b_X12_harmBelieved_4 s0 q.1 q.2) am_F ((0 : Int32), (0 : Int32))
set_option maxRecDepth 100000 in
set_option maxHeartbeats 4000000 in
theorem t_X12_harmBelieved (s0 : am_S) {z : Int32} (E : f_X12_harmBelieved  s0 = some z) : AS yX12_harmBelieved cX12_harmBelieved 3 (some .int) 1 [.ref 248] s0 (some (.int z)) s0 := by
  unfold f_X12_harmBelieved at E
  refine as_met (lv := [(0, .ref 248)]) (by decide +kernel) (by simp [lg_sl, Value.category]) rfl (fun x C A Z => ?_)
  refine am_iconst 0 (0 : Int32) C dX12_harmBelieved_0 (by decide) ?_
  refine am_istore_n 1 (lv2 := [(1, .int (0 : Int32)), (0, .ref 248)]) C dX12_harmBelieved_1 rfl (by decide) rfl ?_
  refine am_iconst 2 (0 : Int32) C dX12_harmBelieved_2 (by decide) ?_
  refine am_istore_n 3 (lv2 := [(2, .int (0 : Int32)), (1, .int (0 : Int32)), (0, .ref 248)]) C dX12_harmBelieved_3 rfl (by decide) rfl ?_
  have LP1 : ∀ (n : Nat) (v2 : Int32) (v3 : Int32), am_lp (fun (q : Int32 × Int32) => b_X12_harmBelieved_4 s0 q.1 q.2) n (v2, v3) = some z → AX x 0 0 4 [(0, .ref 248), (1, .int v2), (2, .int v3)] [] am_N (am_h s0) := by
    intro n
    induction n with
    | zero => intro v2 v3 E; exact (am_lp0 E).elim
    | succ n ih1 =>
      intro v2 v3 E
      obtain ⟨r1, E, Er1⟩ := am_lpE E
      replace E : b_X12_harmBelieved_4 s0 v2 v3 = some r1 := E
      unfold b_X12_harmBelieved_4 at E
      refine am_iload_n 4 C dX12_harmBelieved_4 rfl 2 rfl ?_
      refine am_aload_n 5 C dX12_harmBelieved_5 rfl 0 rfl ?_
      refine as_getr 6 C fl_X12_39_11 dX12_harmBelieved_6 (by decide) sh_248 (rf_248_20 _ _) ?_
      refine am_iconst 9 (nI 5) C dX12_harmBelieved_9 (by decide) ?_
      refine as_ialdK 10 5 C dX12_harmBelieved_10 (by decide) sh_258 (by decide) (by decide) ?_
      refine am_icmp_ge 11 75 C dX12_harmBelieved_11 (by decide) (fun c17 => ?_) (fun c17 => ?_)
      · have E := am_ifT E c17
        refine am_iload_n 75 C dX12_harmBelieved_75 rfl 1 rfl ?_
        replace E := Option.some.inj E
        replace E := am_exR E Er1
        subst E
        exact as_iret 76 C Z rfl dX12_harmBelieved_76
      · have E := am_ifF E c17
        refine am_iload_n 14 C dX12_harmBelieved_14 rfl 1 rfl ?_
        refine am_aload_n 15 C dX12_harmBelieved_15 rfl 0 rfl ?_
        refine as_getr 16 C fl_X12_46_11 dX12_harmBelieved_16 (by decide) sh_248 (rf_248_23 _ _) ?_
        refine am_aload_n 19 C dX12_harmBelieved_19 rfl 0 rfl ?_
        refine as_getr 20 C fl_X12_39_11 dX12_harmBelieved_20 (by decide) sh_248 (rf_248_20 _ _) ?_
        refine am_sipush 23 (nI 239) C dX12_harmBelieved_23 (by decide) ?_
        refine am_iconst 26 (nI 3) C dX12_harmBelieved_26 (by decide) ?_
        refine am_iload_n 27 C dX12_harmBelieved_27 rfl 2 rfl ?_
        refine am_imul 28 C dX12_harmBelieved_28 ?_
        refine am_iadd 29 C dX12_harmBelieved_29 ?_
        obtain ⟨v4, hv4, E⟩ := am_ltE E
        refine as_nm hv4 ?_
        obtain ⟨g5, E⟩ := am_gdE E
        refine as_iald 30 C dX12_harmBelieved_30 (by decide) sh_258 g5 ?_
        obtain ⟨v6, hv6, E⟩ := am_ltE E
        refine as_nm hv6 ?_
        obtain ⟨g7, E⟩ := am_gdE E
        refine as_iald 31 C dX12_harmBelieved_31 (by decide) sh_259 g7 ?_
        refine am_aload_n 32 C dX12_harmBelieved_32 rfl 0 rfl ?_
        refine as_getr 33 C fl_X12_39_11 dX12_harmBelieved_33 (by decide) sh_248 (rf_248_20 _ _) ?_
        refine am_sipush 36 (nI 239) C dX12_harmBelieved_36 (by decide) ?_
        refine am_iconst 39 (nI 3) C dX12_harmBelieved_39 (by decide) ?_
        refine am_iload_n 40 C dX12_harmBelieved_40 rfl 2 rfl ?_
        refine am_imul 41 C dX12_harmBelieved_41 ?_
        refine am_iadd 42 C dX12_harmBelieved_42 ?_
        refine am_iconst 43 (1 : Int32) C dX12_harmBelieved_43 (by decide) ?_
        refine am_iadd 44 C dX12_harmBelieved_44 ?_
        obtain ⟨v8, hv8, E⟩ := am_ltE E
        refine as_nm hv8 ?_
        obtain ⟨g9, E⟩ := am_gdE E
        refine as_iald 45 C dX12_harmBelieved_45 (by decide) sh_258 g9 ?_
        refine am_icmp_ne 46 66 C dX12_harmBelieved_46 (by decide) (fun c16 => ?_) (fun c16 => ?_)
        · have E := am_ifF E c16
          refine am_iconst 66 (0 : Int32) C dX12_harmBelieved_66 (by decide) ?_
          refine am_iadd 67 C dX12_harmBelieved_67 ?_
          obtain ⟨v10, hv10, E⟩ := am_ltE E
          refine as_nm hv10 ?_
          refine am_istore_n 68 (lv2 := [(1, .int v10), (0, .ref 248), (2, .int v3)]) C dX12_harmBelieved_68 rfl (by decide) rfl ?_
          obtain ⟨v11, hv11, E⟩ := am_ltE E
          refine as_iinc 69 (q := (1 : Int32)) (lv2 := [(2, .int v11), (1, .int v10), (0, .ref 248)]) C dX12_harmBelieved_69 2 rfl (by decide) hv11 (by decide) rfl ?_
          refine am_goto 72 4 C dX12_harmBelieved_72 (by decide) ?_
          replace E := Option.some.inj E
          replace E := am_exL E Er1
          refine am_lvs [2, 1, 0] rfl ?_
          exact ih1 _ _ E
        · have E := am_ifT E c16
          refine am_aload_n 49 C dX12_harmBelieved_49 rfl 0 rfl ?_
          refine as_getr 50 C fl_X12_39_11 dX12_harmBelieved_50 (by decide) sh_248 (rf_248_20 _ _) ?_
          refine am_sipush 53 (nI 239) C dX12_harmBelieved_53 (by decide) ?_
          refine am_iconst 56 (nI 3) C dX12_harmBelieved_56 (by decide) ?_
          refine am_iload_n 57 C dX12_harmBelieved_57 rfl 2 rfl ?_
          refine am_imul 58 C dX12_harmBelieved_58 ?_
          refine am_iadd 59 C dX12_harmBelieved_59 ?_
          refine am_iconst 60 (nI 2) C dX12_harmBelieved_60 (by decide) ?_
          refine am_iadd 61 C dX12_harmBelieved_61 ?_
          obtain ⟨v12, hv12, E⟩ := am_ltE E
          refine as_nm hv12 ?_
          obtain ⟨g13, E⟩ := am_gdE E
          refine as_iald 62 C dX12_harmBelieved_62 (by decide) sh_258 g13 ?_
          refine am_goto 63 67 C dX12_harmBelieved_63 (by decide) ?_
          refine am_iadd 67 C dX12_harmBelieved_67 ?_
          obtain ⟨v14, hv14, E⟩ := am_ltE E
          refine as_nm hv14 ?_
          refine am_istore_n 68 (lv2 := [(1, .int v14), (0, .ref 248), (2, .int v3)]) C dX12_harmBelieved_68 rfl (by decide) rfl ?_
          obtain ⟨v15, hv15, E⟩ := am_ltE E
          refine as_iinc 69 (q := (1 : Int32)) (lv2 := [(2, .int v15), (1, .int v14), (0, .ref 248)]) C dX12_harmBelieved_69 2 rfl (by decide) hv15 (by decide) rfl ?_
          refine am_goto 72 4 C dX12_harmBelieved_72 (by decide) ?_
          replace E := Option.some.inj E
          replace E := am_exL E Er1
          refine am_lvs [2, 1, 0] rfl ?_
          exact ih1 _ _ E
  refine am_lvs [2, 1, 0] rfl ?_
  exact LP1 am_F _ _ E
def f_X12_harmOf (p1 : Int32) (s0 : am_S) : Option (Int32 × am_S) :=
  am_bd (f_X12_believes p1 s0) (fun s2 => am_bd (f_X12_harmBelieved s2) (fun v3 => some (v3, s2)))
set_option maxRecDepth 100000 in
set_option maxHeartbeats 4000000 in
theorem t_X12_harmOf (p1 : Int32) (s0 : am_S) {z : Int32 × am_S} (E : f_X12_harmOf p1 s0 = some z) : AS yX12_harmOf cX12_harmOf 2 (some .int) 3 [.ref 248, .int p1] s0 (some (.int z.1)) z.2 := by
  unfold f_X12_harmOf at E
  refine as_met (lv := [(0, .ref 248), (1, .int p1)]) (by decide +kernel) (by simp [lg_sl, Value.category]) rfl (fun x C A Z => ?_)
  refine am_aload_n 0 C dX12_harmOf_0 rfl 0 rfl ?_
  refine am_iload_n 1 C dX12_harmOf_1 rfl 1 rfl ?_
  obtain ⟨s2, Ec, E⟩ := am_bdE E
  refine as_callV 2 (s2 := s2) (st := []) (st2 := []) [.int p1] C A (by decide) ml_X12_311 yc_X12_believes yv_X12_believes (t_X12_believes p1 s0 Ec) (by decide) sh_248 rfl rfl (Nat.le_of_ble_eq_true rfl) rfl dX12_harmOf_2 ?_
  refine am_aload_n 5 C dX12_harmOf_5 rfl 0 rfl ?_
  obtain ⟨v3, Ec, E⟩ := am_bdE E
  refine as_callV 6 (s2 := s2) (st := []) (st2 := [.int v3]) [] C A (by decide) ml_X12_314 yc_X12_harmBelieved yv_X12_harmBelieved (t_X12_harmBelieved  s2 Ec) (by decide) sh_248 rfl rfl (Nat.le_of_ble_eq_true rfl) rfl dX12_harmOf_6 ?_
  replace E := Option.some.inj E
  subst E
  exact as_iret 9 C Z rfl dX12_harmOf_9
def b_X12_harmAlone_5 (p1 : Int32) (p2 : Int32) (s0 : am_S) (v4 : Int32) (v5 : Int32) : Option ((Int32 × Int32) ⊕ (Int32)) :=
  am_if ((s0.1 258 5) ≤ v5) (some (Sum.inr v4)) (am_lt ((nI 239) + ((nI 3) * v5)) (fun v6 => am_gd (¬ v6 < 0 ∧ (v6).toNatClampNeg < 328) (am_if ((s0.1 258 (v6).toNatClampNeg) = p1) (am_lt (((nI 239) + ((nI 3) * v5)) + (1 : Int32)) (fun v10 => am_gd (¬ v10 < 0 ∧ (v10).toNatClampNeg < 328) (am_if ((s0.1 258 (v10).toNatClampNeg) = p2) (am_lt (((nI 239) + ((nI 3) * v5)) + (nI 2)) (fun v14 => am_gd (¬ v14 < 0 ∧ (v14).toNatClampNeg < 328) (am_lt (v4 + (s0.1 258 (v14).toNatClampNeg)) (fun v16 => am_lt (v5 + (1 : Int32)) (fun v17 => some (Sum.inl (v16, v17))))))) (am_lt (v4 + (0 : Int32)) (fun v12 => am_lt (v5 + (1 : Int32)) (fun v13 => some (Sum.inl (v12, v13)))))))) (am_lt (v4 + (0 : Int32)) (fun v8 => am_lt (v5 + (1 : Int32)) (fun v9 => some (Sum.inl (v8, v9))))))))
def f_X12_harmAlone (p1 : Int32) (p2 : Int32) (s0 : am_S) : Option (Int32) :=
  am_lp (fun (q : Int32 × Int32) => b_X12_harmAlone_5 p1 p2 s0 q.1 q.2) am_F ((0 : Int32), (0 : Int32))
set_option maxRecDepth 100000 in
set_option maxHeartbeats 4000000 in
theorem t_X12_harmAlone (p1 : Int32) (p2 : Int32) (s0 : am_S) {z : Int32} (E : f_X12_harmAlone p1 p2 s0 = some z) : AS yX12_harmAlone cX12_harmAlone 5 (some .int) 1 [.ref 248, .int p1, .int p2] s0 (some (.int z)) s0 := by
  unfold f_X12_harmAlone at E
  refine as_met (lv := [(0, .ref 248), (1, .int p1), (2, .int p2)]) (by decide +kernel) (by simp [lg_sl, Value.category]) rfl (fun x C A Z => ?_)
  refine am_iconst 0 (0 : Int32) C dX12_harmAlone_0 (by decide) ?_
  refine am_istore_n 1 (lv2 := [(3, .int (0 : Int32)), (0, .ref 248), (1, .int p1), (2, .int p2)]) C dX12_harmAlone_1 rfl (by decide) rfl ?_
  refine am_iconst 2 (0 : Int32) C dX12_harmAlone_2 (by decide) ?_
  refine am_istore 3 (lv2 := [(4, .int (0 : Int32)), (3, .int (0 : Int32)), (0, .ref 248), (1, .int p1), (2, .int p2)]) C dX12_harmAlone_3 (by decide) rfl ?_
  have LP3 : ∀ (n : Nat) (v4 : Int32) (v5 : Int32), am_lp (fun (q : Int32 × Int32) => b_X12_harmAlone_5 p1 p2 s0 q.1 q.2) n (v4, v5) = some z → AX x 0 0 5 [(0, .ref 248), (1, .int p1), (2, .int p2), (3, .int v4), (4, .int v5)] [] am_N (am_h s0) := by
    intro n
    induction n with
    | zero => intro v4 v5 E; exact (am_lp0 E).elim
    | succ n ih3 =>
      intro v4 v5 E
      obtain ⟨r3, E, Er3⟩ := am_lpE E
      replace E : b_X12_harmAlone_5 p1 p2 s0 v4 v5 = some r3 := E
      unfold b_X12_harmAlone_5 at E
      refine am_iload 5 C dX12_harmAlone_5 4 rfl ?_
      refine am_aload_n 7 C dX12_harmAlone_7 rfl 0 rfl ?_
      refine as_getr 8 C fl_X12_39_11 dX12_harmAlone_8 (by decide) sh_248 (rf_248_20 _ _) ?_
      refine am_iconst 11 (nI 5) C dX12_harmAlone_11 (by decide) ?_
      refine as_ialdK 12 5 C dX12_harmAlone_12 (by decide) sh_258 (by decide) (by decide) ?_
      refine am_icmp_ge 13 80 C dX12_harmAlone_13 (by decide) (fun c20 => ?_) (fun c20 => ?_)
      · have E := am_ifT E c20
        refine am_iload_n 80 C dX12_harmAlone_80 rfl 3 rfl ?_
        replace E := Option.some.inj E
        replace E := am_exR E Er3
        subst E
        exact as_iret 81 C Z rfl dX12_harmAlone_81
      · have E := am_ifF E c20
        refine am_iload_n 16 C dX12_harmAlone_16 rfl 3 rfl ?_
        refine am_aload_n 17 C dX12_harmAlone_17 rfl 0 rfl ?_
        refine as_getr 18 C fl_X12_39_11 dX12_harmAlone_18 (by decide) sh_248 (rf_248_20 _ _) ?_
        refine am_sipush 21 (nI 239) C dX12_harmAlone_21 (by decide) ?_
        refine am_iconst 24 (nI 3) C dX12_harmAlone_24 (by decide) ?_
        refine am_iload 25 C dX12_harmAlone_25 4 rfl ?_
        refine am_imul 27 C dX12_harmAlone_27 ?_
        refine am_iadd 28 C dX12_harmAlone_28 ?_
        obtain ⟨v6, hv6, E⟩ := am_ltE E
        refine as_nm hv6 ?_
        obtain ⟨g7, E⟩ := am_gdE E
        refine as_iald 29 C dX12_harmAlone_29 (by decide) sh_258 g7 ?_
        refine am_iload_n 30 C dX12_harmAlone_30 rfl 1 rfl ?_
        refine am_icmp_ne 31 71 C dX12_harmAlone_31 (by decide) (fun c19 => ?_) (fun c19 => ?_)
        · have E := am_ifF E c19
          refine am_iconst 71 (0 : Int32) C dX12_harmAlone_71 (by decide) ?_
          refine am_iadd 72 C dX12_harmAlone_72 ?_
          obtain ⟨v8, hv8, E⟩ := am_ltE E
          refine as_nm hv8 ?_
          refine am_istore_n 73 (lv2 := [(3, .int v8), (0, .ref 248), (1, .int p1), (2, .int p2), (4, .int v5)]) C dX12_harmAlone_73 rfl (by decide) rfl ?_
          obtain ⟨v9, hv9, E⟩ := am_ltE E
          refine as_iinc 74 (q := (1 : Int32)) (lv2 := [(4, .int v9), (3, .int v8), (0, .ref 248), (1, .int p1), (2, .int p2)]) C dX12_harmAlone_74 4 rfl (by decide) hv9 (by decide) rfl ?_
          refine am_goto 77 5 C dX12_harmAlone_77 (by decide) ?_
          replace E := Option.some.inj E
          replace E := am_exL E Er3
          refine am_lvs [2, 3, 4, 1, 0] rfl ?_
          exact ih3 _ _ E
        · have E := am_ifT E c19
          refine am_aload_n 34 C dX12_harmAlone_34 rfl 0 rfl ?_
          refine as_getr 35 C fl_X12_39_11 dX12_harmAlone_35 (by decide) sh_248 (rf_248_20 _ _) ?_
          refine am_sipush 38 (nI 239) C dX12_harmAlone_38 (by decide) ?_
          refine am_iconst 41 (nI 3) C dX12_harmAlone_41 (by decide) ?_
          refine am_iload 42 C dX12_harmAlone_42 4 rfl ?_
          refine am_imul 44 C dX12_harmAlone_44 ?_
          refine am_iadd 45 C dX12_harmAlone_45 ?_
          refine am_iconst 46 (1 : Int32) C dX12_harmAlone_46 (by decide) ?_
          refine am_iadd 47 C dX12_harmAlone_47 ?_
          obtain ⟨v10, hv10, E⟩ := am_ltE E
          refine as_nm hv10 ?_
          obtain ⟨g11, E⟩ := am_gdE E
          refine as_iald 48 C dX12_harmAlone_48 (by decide) sh_258 g11 ?_
          refine am_iload_n 49 C dX12_harmAlone_49 rfl 2 rfl ?_
          refine am_icmp_ne 50 71 C dX12_harmAlone_50 (by decide) (fun c18 => ?_) (fun c18 => ?_)
          · have E := am_ifF E c18
            refine am_iconst 71 (0 : Int32) C dX12_harmAlone_71 (by decide) ?_
            refine am_iadd 72 C dX12_harmAlone_72 ?_
            obtain ⟨v12, hv12, E⟩ := am_ltE E
            refine as_nm hv12 ?_
            refine am_istore_n 73 (lv2 := [(3, .int v12), (0, .ref 248), (1, .int p1), (2, .int p2), (4, .int v5)]) C dX12_harmAlone_73 rfl (by decide) rfl ?_
            obtain ⟨v13, hv13, E⟩ := am_ltE E
            refine as_iinc 74 (q := (1 : Int32)) (lv2 := [(4, .int v13), (3, .int v12), (0, .ref 248), (1, .int p1), (2, .int p2)]) C dX12_harmAlone_74 4 rfl (by decide) hv13 (by decide) rfl ?_
            refine am_goto 77 5 C dX12_harmAlone_77 (by decide) ?_
            replace E := Option.some.inj E
            replace E := am_exL E Er3
            refine am_lvs [2, 3, 4, 1, 0] rfl ?_
            exact ih3 _ _ E
          · have E := am_ifT E c18
            refine am_aload_n 53 C dX12_harmAlone_53 rfl 0 rfl ?_
            refine as_getr 54 C fl_X12_39_11 dX12_harmAlone_54 (by decide) sh_248 (rf_248_20 _ _) ?_
            refine am_sipush 57 (nI 239) C dX12_harmAlone_57 (by decide) ?_
            refine am_iconst 60 (nI 3) C dX12_harmAlone_60 (by decide) ?_
            refine am_iload 61 C dX12_harmAlone_61 4 rfl ?_
            refine am_imul 63 C dX12_harmAlone_63 ?_
            refine am_iadd 64 C dX12_harmAlone_64 ?_
            refine am_iconst 65 (nI 2) C dX12_harmAlone_65 (by decide) ?_
            refine am_iadd 66 C dX12_harmAlone_66 ?_
            obtain ⟨v14, hv14, E⟩ := am_ltE E
            refine as_nm hv14 ?_
            obtain ⟨g15, E⟩ := am_gdE E
            refine as_iald 67 C dX12_harmAlone_67 (by decide) sh_258 g15 ?_
            refine am_goto 68 72 C dX12_harmAlone_68 (by decide) ?_
            refine am_iadd 72 C dX12_harmAlone_72 ?_
            obtain ⟨v16, hv16, E⟩ := am_ltE E
            refine as_nm hv16 ?_
            refine am_istore_n 73 (lv2 := [(3, .int v16), (0, .ref 248), (1, .int p1), (2, .int p2), (4, .int v5)]) C dX12_harmAlone_73 rfl (by decide) rfl ?_
            obtain ⟨v17, hv17, E⟩ := am_ltE E
            refine as_iinc 74 (q := (1 : Int32)) (lv2 := [(4, .int v17), (3, .int v16), (0, .ref 248), (1, .int p1), (2, .int p2)]) C dX12_harmAlone_74 4 rfl (by decide) hv17 (by decide) rfl ?_
            refine am_goto 77 5 C dX12_harmAlone_77 (by decide) ?_
            replace E := Option.some.inj E
            replace E := am_exL E Er3
            refine am_lvs [2, 3, 4, 1, 0] rfl ?_
            exact ih3 _ _ E
  refine am_lvs [2, 3, 4, 1, 0] rfl ?_
  exact LP3 am_F _ _ E
def f_X12_believedOf (p1 : Int32) (p2 : Int32) (s0 : am_S) : Option (Int32 × am_S) :=
  am_bd (f_X12_believes p1 s0) (fun s3 => am_gd (¬ p2 < 0 ∧ (p2).toNatClampNeg < 8) (some ((s3.1 259 (p2).toNatClampNeg), s3)))
set_option maxRecDepth 100000 in
set_option maxHeartbeats 4000000 in
theorem t_X12_believedOf (p1 : Int32) (p2 : Int32) (s0 : am_S) {z : Int32 × am_S} (E : f_X12_believedOf p1 p2 s0 = some z) : AS yX12_believedOf cX12_believedOf 3 (some .int) 3 [.ref 248, .int p1, .int p2] s0 (some (.int z.1)) z.2 := by
  unfold f_X12_believedOf at E
  refine as_met (lv := [(0, .ref 248), (1, .int p1), (2, .int p2)]) (by decide +kernel) (by simp [lg_sl, Value.category]) rfl (fun x C A Z => ?_)
  refine am_aload_n 0 C dX12_believedOf_0 rfl 0 rfl ?_
  refine am_iload_n 1 C dX12_believedOf_1 rfl 1 rfl ?_
  obtain ⟨s3, Ec, E⟩ := am_bdE E
  refine as_callV 2 (s2 := s3) (st := []) (st2 := []) [.int p1] C A (by decide) ml_X12_311 yc_X12_believes yv_X12_believes (t_X12_believes p1 s0 Ec) (by decide) sh_248 rfl rfl (Nat.le_of_ble_eq_true rfl) rfl dX12_believedOf_2 ?_
  refine am_aload_n 5 C dX12_believedOf_5 rfl 0 rfl ?_
  refine as_getr 6 C fl_X12_46_11 dX12_believedOf_6 (by decide) sh_248 (rf_248_23 _ _) ?_
  refine am_iload_n 9 C dX12_believedOf_9 rfl 2 rfl ?_
  obtain ⟨g4, E⟩ := am_gdE E
  refine as_iald 10 C dX12_believedOf_10 (by decide) sh_259 g4 ?_
  replace E := Option.some.inj E
  subst E
  exact as_iret 11 C Z rfl dX12_believedOf_11
def f_X12_holds (p1 : Int32) (p2 : Int32) (p3 : Int32) (s0 : am_S) : Option (Int32 × am_S) :=
  am_bd (f_X12_isPerson p1 s0) (fun v4 => am_if (v4 = 0) (some ((-1 : Int32), s0)) (am_bd (f_X12_isFact p2 s0) (fun v5 => am_if (v5 = 0) (some ((-1 : Int32), s0)) (am_bd (f_X12_in (p3).toInt64 (0 : Int64) (2 : Int64)) (fun v6 => am_if (v6 = 0) (some ((-1 : Int32), s0)) (am_if (p3 = 0) (am_bd (f_X12_holdOf p1 p2 s0) (fun v11 => some (v11, s0))) (am_if (p3 = (1 : Int32)) (am_bd (f_X12_strengthOf p1 p2 s0) (fun v9 => some (v9, s0))) (am_b2 (f_X12_believedOf p1 p2 s0) (fun v7 s8 => some (v7, s8))))))))))
set_option maxRecDepth 100000 in
set_option maxHeartbeats 4000000 in
theorem t_X12_holds (p1 : Int32) (p2 : Int32) (p3 : Int32) (s0 : am_S) {z : Int32 × am_S} (E : f_X12_holds p1 p2 p3 s0 = some z) : AS yX12_holds cX12_holds 4 (some .int) 4 [.ref 248, .int p1, .int p2, .int p3] s0 (some (.int z.1)) z.2 := by
  unfold f_X12_holds at E
  refine as_met (lv := [(0, .ref 248), (1, .int p1), (2, .int p2), (3, .int p3)]) (by decide +kernel) (by simp [lg_sl, Value.category]) rfl (fun x C A Z => ?_)
  refine am_aload_n 0 C dX12_holds_0 rfl 0 rfl ?_
  refine am_iload_n 1 C dX12_holds_1 rfl 1 rfl ?_
  obtain ⟨v4, Ec, E⟩ := am_bdE E
  refine as_callV 2 (s2 := s0) (st := []) (st2 := [.int v4]) [.int p1] C A (by decide) ml_X12_317 yc_X12_isPerson yv_X12_isPerson (t_X12_isPerson p1 s0 Ec) (by decide) sh_248 rfl rfl (Nat.le_of_ble_eq_true rfl) rfl dX12_holds_2 ?_
  refine am_if_eq 5 28 C dX12_holds_5 (by decide) (fun c15 => ?_) (fun c15 => ?_)
  · have E := am_ifT E c15
    refine am_iconst 28 (-1 : Int32) C dX12_holds_28 (by decide) ?_
    replace E := Option.some.inj E
    subst E
    exact as_iret 29 C Z rfl dX12_holds_29
  · have E := am_ifF E c15
    refine am_aload_n 8 C dX12_holds_8 rfl 0 rfl ?_
    refine am_iload_n 9 C dX12_holds_9 rfl 2 rfl ?_
    obtain ⟨v5, Ec, E⟩ := am_bdE E
    refine as_callV 10 (s2 := s0) (st := []) (st2 := [.int v5]) [.int p2] C A (by decide) ml_X12_320 yc_X12_isFact yv_X12_isFact (t_X12_isFact p2 s0 Ec) (by decide) sh_248 rfl rfl (Nat.le_of_ble_eq_true rfl) rfl dX12_holds_10 ?_
    refine am_if_eq 13 28 C dX12_holds_13 (by decide) (fun c14 => ?_) (fun c14 => ?_)
    · have E := am_ifT E c14
      refine am_iconst 28 (-1 : Int32) C dX12_holds_28 (by decide) ?_
      replace E := Option.some.inj E
      subst E
      exact as_iret 29 C Z rfl dX12_holds_29
    · have E := am_ifF E c14
      refine am_iload_n 16 C dX12_holds_16 rfl 3 rfl ?_
      refine am_i2l 17 C dX12_holds_17 ?_
      refine am_lconst 18 (0 : Int64) C dX12_holds_18 (by decide) ?_
      refine am_ldc2 19 C dX12_holds_19 kl_X12_323 ?_
      obtain ⟨v6, Ec, E⟩ := am_bdE E
      refine as_callS 22 (s2 := s0) (st := []) (st2 := [.int v6]) [.long (p3).toInt64, .long (0 : Int64), .long (2 : Int64)] C A (by decide) ml_X12_106 yc_X12_in ys_X12_in (t_X12_in (p3).toInt64 (0 : Int64) (2 : Int64) s0 Ec) rfl rfl (Nat.le_of_ble_eq_true rfl) rfl dX12_holds_22 ?_
      refine am_if_ne 25 30 C dX12_holds_25 (by decide) (fun c13 => ?_) (fun c13 => ?_)
      · have E := am_ifF E c13
        refine am_iload_n 30 C dX12_holds_30 rfl 3 rfl ?_
        refine am_if_ne 31 43 C dX12_holds_31 (by decide) (fun c12 => ?_) (fun c12 => ?_)
        · have E := am_ifF E c12
          refine am_iload_n 43 C dX12_holds_43 rfl 3 rfl ?_
          refine am_iconst 44 (1 : Int32) C dX12_holds_44 (by decide) ?_
          refine am_icmp_ne 45 57 C dX12_holds_45 (by decide) (fun c10 => ?_) (fun c10 => ?_)
          · have E := am_ifF E c10
            refine am_aload_n 57 C dX12_holds_57 rfl 0 rfl ?_
            refine am_iload_n 58 C dX12_holds_58 rfl 1 rfl ?_
            refine am_iload_n 59 C dX12_holds_59 rfl 2 rfl ?_
            obtain ⟨v7, s8, Ec, E⟩ := am_b2E E
            refine as_callV 60 (s2 := s8) (st := []) (st2 := [.int v7]) [.int p1, .int p2] C A (by decide) ml_X12_328 yc_X12_believedOf yv_X12_believedOf (t_X12_believedOf p1 p2 s0 Ec) (by decide) sh_248 rfl rfl (Nat.le_of_ble_eq_true rfl) rfl dX12_holds_60 ?_
            replace E := Option.some.inj E
            subst E
            exact as_iret 63 C Z rfl dX12_holds_63
          · have E := am_ifT E c10
            refine am_aload_n 48 C dX12_holds_48 rfl 0 rfl ?_
            refine am_iload_n 49 C dX12_holds_49 rfl 1 rfl ?_
            refine am_iload_n 50 C dX12_holds_50 rfl 2 rfl ?_
            obtain ⟨v9, Ec, E⟩ := am_bdE E
            refine as_callV 51 (s2 := s0) (st := []) (st2 := [.int v9]) [.int p1, .int p2] C A (by decide) ml_X12_325 yc_X12_strengthOf yv_X12_strengthOf (t_X12_strengthOf p1 p2 s0 Ec) (by decide) sh_248 rfl rfl (Nat.le_of_ble_eq_true rfl) rfl dX12_holds_51 ?_
            refine am_goto 54 63 C dX12_holds_54 (by decide) ?_
            replace E := Option.some.inj E
            subst E
            exact as_iret 63 C Z rfl dX12_holds_63
        · have E := am_ifT E c12
          refine am_aload_n 34 C dX12_holds_34 rfl 0 rfl ?_
          refine am_iload_n 35 C dX12_holds_35 rfl 1 rfl ?_
          refine am_iload_n 36 C dX12_holds_36 rfl 2 rfl ?_
          obtain ⟨v11, Ec, E⟩ := am_bdE E
          refine as_callV 37 (s2 := s0) (st := []) (st2 := [.int v11]) [.int p1, .int p2] C A (by decide) ml_X12_305 yc_X12_holdOf yv_X12_holdOf (t_X12_holdOf p1 p2 s0 Ec) (by decide) sh_248 rfl rfl (Nat.le_of_ble_eq_true rfl) rfl dX12_holds_37 ?_
          refine am_goto 40 63 C dX12_holds_40 (by decide) ?_
          replace E := Option.some.inj E
          subst E
          exact as_iret 63 C Z rfl dX12_holds_63
      · have E := am_ifT E c13
        refine am_iconst 28 (-1 : Int32) C dX12_holds_28 (by decide) ?_
        replace E := Option.some.inj E
        subst E
        exact as_iret 29 C Z rfl dX12_holds_29
def f_X12_person (p1 : Int32) (p2 : Int32) (s0 : am_S) : Option (Int32 × am_S) :=
  am_bd (f_X12_isPerson p1 s0) (fun v3 => am_if (v3 = 0) (some ((-1 : Int32), s0)) (am_bd (f_X12_in (p2).toInt64 (0 : Int64) (4 : Int64)) (fun v4 => am_if (v4 = 0) (some ((-1 : Int32), s0)) (am_bd (f_X12_believes p1 s0) (fun s5 => am_if (p2 = (0 : Int32)) (am_lt ((nI 123) + p1) (fun v6 => am_gd (¬ v6 < 0 ∧ (v6).toNatClampNeg < 328) (some ((s5.1 258 (v6).toNatClampNeg), s5)))) (am_if (p2 = (1 : Int32)) (am_bd (f_X12_harmBelieved s5) (fun v9 => some (v9, s5))) (am_if (p2 = (nI 2)) (am_bd (f_X12_contradictions s5) (fun v11 => some (v11, s5))) (am_if (p2 = (nI 3)) (am_bd (f_X12_besides p1 s5) (fun v13 => some (v13, s5))) (some ((((s5.1 258 269) >>> (p1 &&& 31)) &&& (1 : Int32)), s5))))))))))
set_option maxRecDepth 100000 in
set_option maxHeartbeats 4000000 in
theorem t_X12_person (p1 : Int32) (p2 : Int32) (s0 : am_S) {z : Int32 × am_S} (E : f_X12_person p1 p2 s0 = some z) : AS yX12_person cX12_person 3 (some .int) 3 [.ref 248, .int p1, .int p2] s0 (some (.int z.1)) z.2 := by
  unfold f_X12_person at E
  refine as_met (lv := [(0, .ref 248), (1, .int p1), (2, .int p2)]) (by decide +kernel) (by simp [lg_sl, Value.category]) rfl (fun x C A Z => ?_)
  refine am_aload_n 0 C dX12_person_0 rfl 0 rfl ?_
  refine am_iload_n 1 C dX12_person_1 rfl 1 rfl ?_
  obtain ⟨v3, Ec, E⟩ := am_bdE E
  refine as_callV 2 (s2 := s0) (st := []) (st2 := [.int v3]) [.int p1] C A (by decide) ml_X12_317 yc_X12_isPerson yv_X12_isPerson (t_X12_isPerson p1 s0 Ec) (by decide) sh_248 rfl rfl (Nat.le_of_ble_eq_true rfl) rfl dX12_person_2 ?_
  refine am_if_eq 5 20 C dX12_person_5 (by decide) (fun c16 => ?_) (fun c16 => ?_)
  · have E := am_ifT E c16
    refine am_iconst 20 (-1 : Int32) C dX12_person_20 (by decide) ?_
    replace E := Option.some.inj E
    subst E
    exact as_iret 21 C Z rfl dX12_person_21
  · have E := am_ifF E c16
    refine am_iload_n 8 C dX12_person_8 rfl 2 rfl ?_
    refine am_i2l 9 C dX12_person_9 ?_
    refine am_lconst 10 (0 : Int64) C dX12_person_10 (by decide) ?_
    refine am_ldc2 11 C dX12_person_11 kl_X12_331 ?_
    obtain ⟨v4, Ec, E⟩ := am_bdE E
    refine as_callS 14 (s2 := s0) (st := []) (st2 := [.int v4]) [.long (p2).toInt64, .long (0 : Int64), .long (4 : Int64)] C A (by decide) ml_X12_106 yc_X12_in ys_X12_in (t_X12_in (p2).toInt64 (0 : Int64) (4 : Int64) s0 Ec) rfl rfl (Nat.le_of_ble_eq_true rfl) rfl dX12_person_14 ?_
    refine am_if_ne 17 22 C dX12_person_17 (by decide) (fun c15 => ?_) (fun c15 => ?_)
    · have E := am_ifF E c15
      refine am_aload_n 22 C dX12_person_22 rfl 0 rfl ?_
      refine am_iload_n 23 C dX12_person_23 rfl 1 rfl ?_
      obtain ⟨s5, Ec, E⟩ := am_bdE E
      refine as_callV 24 (s2 := s5) (st := []) (st2 := []) [.int p1] C A (by decide) ml_X12_311 yc_X12_believes yv_X12_believes (t_X12_believes p1 s0 Ec) (by decide) sh_248 rfl rfl (Nat.le_of_ble_eq_true rfl) rfl dX12_person_24 ?_
      refine am_iload_n 27 C dX12_person_27 rfl 2 rfl ?_
      by_cases c8 : p2 = (0 : Int32)
      · have E := am_ifT E c8
        refine am_tabIn 28 60 C dX12_person_28 (by rw [c8]; decide) (by rw [c8]; decide) (by rw [c8]; rfl) (by decide) ?_
        refine am_aload_n 60 C dX12_person_60 rfl 0 rfl ?_
        refine as_getr 61 C fl_X12_39_11 dX12_person_61 (by decide) sh_248 (rf_248_20 _ _) ?_
        refine am_bipush 64 (nI 123) C dX12_person_64 (by decide) ?_
        refine am_iload_n 66 C dX12_person_66 rfl 1 rfl ?_
        refine am_iadd 67 C dX12_person_67 ?_
        obtain ⟨v6, hv6, E⟩ := am_ltE E
        refine as_nm hv6 ?_
        obtain ⟨g7, E⟩ := am_gdE E
        refine as_iald 68 C dX12_person_68 (by decide) sh_258 g7 ?_
        replace E := Option.some.inj E
        subst E
        exact as_iret 69 C Z rfl dX12_person_69
      · have E := am_ifF E c8
        by_cases c10 : p2 = (1 : Int32)
        · have E := am_ifT E c10
          refine am_tabIn 28 70 C dX12_person_28 (by rw [c10]; decide) (by rw [c10]; decide) (by rw [c10]; rfl) (by decide) ?_
          refine am_aload_n 70 C dX12_person_70 rfl 0 rfl ?_
          obtain ⟨v9, Ec, E⟩ := am_bdE E
          refine as_callV 71 (s2 := s5) (st := []) (st2 := [.int v9]) [] C A (by decide) ml_X12_314 yc_X12_harmBelieved yv_X12_harmBelieved (t_X12_harmBelieved  s5 Ec) (by decide) sh_248 rfl rfl (Nat.le_of_ble_eq_true rfl) rfl dX12_person_71 ?_
          replace E := Option.some.inj E
          subst E
          exact as_iret 74 C Z rfl dX12_person_74
        · have E := am_ifF E c10
          by_cases c12 : p2 = (nI 2)
          · have E := am_ifT E c12
            refine am_tabIn 28 75 C dX12_person_28 (by rw [c12]; decide) (by rw [c12]; decide) (by rw [c12]; rfl) (by decide) ?_
            refine am_aload_n 75 C dX12_person_75 rfl 0 rfl ?_
            obtain ⟨v11, Ec, E⟩ := am_bdE E
            refine as_callV 76 (s2 := s5) (st := []) (st2 := [.int v11]) [] C A (by decide) ml_X12_333 yc_X12_contradictions yv_X12_contradictions (t_X12_contradictions  s5 Ec) (by decide) sh_248 rfl rfl (Nat.le_of_ble_eq_true rfl) rfl dX12_person_76 ?_
            replace E := Option.some.inj E
            subst E
            exact as_iret 79 C Z rfl dX12_person_79
          · have E := am_ifF E c12
            by_cases c14 : p2 = (nI 3)
            · have E := am_ifT E c14
              refine am_tabIn 28 80 C dX12_person_28 (by rw [c14]; decide) (by rw [c14]; decide) (by rw [c14]; rfl) (by decide) ?_
              refine am_aload_n 80 C dX12_person_80 rfl 0 rfl ?_
              refine am_iload_n 81 C dX12_person_81 rfl 1 rfl ?_
              obtain ⟨v13, Ec, E⟩ := am_bdE E
              refine as_callV 82 (s2 := s5) (st := []) (st2 := [.int v13]) [.int p1] C A (by decide) ml_X12_336 yc_X12_besides yv_X12_besides (t_X12_besides p1 s5 Ec) (by decide) sh_248 rfl rfl (Nat.le_of_ble_eq_true rfl) rfl dX12_person_82 ?_
              replace E := Option.some.inj E
              subst E
              exact as_iret 85 C Z rfl dX12_person_85
            · have E := am_ifF E c14
              have ec8 := am_neI c8 0 (by decide)
              have ec10 := am_neI c10 1 (by decide)
              have ec12 := am_neI c12 2 (by decide)
              have ec14 := am_neI c14 3 (by decide)
              refine am_tabOut 28 86 C dX12_person_28 (by omega) (by decide) ?_
              refine am_aload_n 86 C dX12_person_86 rfl 0 rfl ?_
              refine as_getr 87 C fl_X12_39_11 dX12_person_87 (by decide) sh_248 (rf_248_20 _ _) ?_
              refine am_sipush 90 (nI 269) C dX12_person_90 (by decide) ?_
              refine as_ialdK 93 269 C dX12_person_93 (by decide) sh_258 (by decide) (by decide) ?_
              refine am_iload_n 94 C dX12_person_94 rfl 1 rfl ?_
              refine am_ishr 95 C dX12_person_95 ?_
              refine am_iconst 96 (1 : Int32) C dX12_person_96 (by decide) ?_
              refine am_iand 97 C dX12_person_97 ?_
              replace E := Option.some.inj E
              subst E
              exact as_iret 98 C Z rfl dX12_person_98
    · have E := am_ifT E c15
      refine am_iconst 20 (-1 : Int32) C dX12_person_20 (by decide) ?_
      replace E := Option.some.inj E
      subst E
      exact as_iret 21 C Z rfl dX12_person_21
def f_X12_trust (p1 : Int32) (p2 : Int32) (s0 : am_S) : Option (Int32) :=
  am_bd (f_X12_isPerson p1 s0) (fun v3 => am_if (v3 = 0) (some (-1 : Int32)) (am_bd (f_X12_isPerson p2 s0) (fun v4 => am_if (v4 = 0) (some (-1 : Int32)) (am_if (p1 = p2) (some (-1 : Int32)) (am_bd (f_X12_trustOf p1 p2 s0) (fun v5 => some v5))))))
set_option maxRecDepth 100000 in
set_option maxHeartbeats 4000000 in
theorem t_X12_trust (p1 : Int32) (p2 : Int32) (s0 : am_S) {z : Int32} (E : f_X12_trust p1 p2 s0 = some z) : AS yX12_trust cX12_trust 3 (some .int) 2 [.ref 248, .int p1, .int p2] s0 (some (.int z)) s0 := by
  unfold f_X12_trust at E
  refine as_met (lv := [(0, .ref 248), (1, .int p1), (2, .int p2)]) (by decide +kernel) (by simp [lg_sl, Value.category]) rfl (fun x C A Z => ?_)
  refine am_aload_n 0 C dX12_trust_0 rfl 0 rfl ?_
  refine am_iload_n 1 C dX12_trust_1 rfl 1 rfl ?_
  obtain ⟨v3, Ec, E⟩ := am_bdE E
  refine as_callV 2 (s2 := s0) (st := []) (st2 := [.int v3]) [.int p1] C A (by decide) ml_X12_317 yc_X12_isPerson yv_X12_isPerson (t_X12_isPerson p1 s0 Ec) (by decide) sh_248 rfl rfl (Nat.le_of_ble_eq_true rfl) rfl dX12_trust_2 ?_
  refine am_if_eq 5 30 C dX12_trust_5 (by decide) (fun c8 => ?_) (fun c8 => ?_)
  · have E := am_ifT E c8
    refine am_iconst 30 (-1 : Int32) C dX12_trust_30 (by decide) ?_
    replace E := Option.some.inj E
    subst E
    exact as_iret 31 C Z rfl dX12_trust_31
  · have E := am_ifF E c8
    refine am_aload_n 8 C dX12_trust_8 rfl 0 rfl ?_
    refine am_iload_n 9 C dX12_trust_9 rfl 2 rfl ?_
    obtain ⟨v4, Ec, E⟩ := am_bdE E
    refine as_callV 10 (s2 := s0) (st := []) (st2 := [.int v4]) [.int p2] C A (by decide) ml_X12_317 yc_X12_isPerson yv_X12_isPerson (t_X12_isPerson p2 s0 Ec) (by decide) sh_248 rfl rfl (Nat.le_of_ble_eq_true rfl) rfl dX12_trust_10 ?_
    refine am_if_eq 13 30 C dX12_trust_13 (by decide) (fun c7 => ?_) (fun c7 => ?_)
    · have E := am_ifT E c7
      refine am_iconst 30 (-1 : Int32) C dX12_trust_30 (by decide) ?_
      replace E := Option.some.inj E
      subst E
      exact as_iret 31 C Z rfl dX12_trust_31
    · have E := am_ifF E c7
      refine am_iload_n 16 C dX12_trust_16 rfl 1 rfl ?_
      refine am_iload_n 17 C dX12_trust_17 rfl 2 rfl ?_
      refine am_icmp_eq 18 30 C dX12_trust_18 (by decide) (fun c6 => ?_) (fun c6 => ?_)
      · have E := am_ifT E c6
        refine am_iconst 30 (-1 : Int32) C dX12_trust_30 (by decide) ?_
        replace E := Option.some.inj E
        subst E
        exact as_iret 31 C Z rfl dX12_trust_31
      · have E := am_ifF E c6
        refine am_aload_n 21 C dX12_trust_21 rfl 0 rfl ?_
        refine am_iload_n 22 C dX12_trust_22 rfl 1 rfl ?_
        refine am_iload_n 23 C dX12_trust_23 rfl 2 rfl ?_
        obtain ⟨v5, Ec, E⟩ := am_bdE E
        refine as_callV 24 (s2 := s0) (st := []) (st2 := [.int v5]) [.int p1, .int p2] C A (by decide) ml_X12_339 yc_X12_trustOf yv_X12_trustOf (t_X12_trustOf p1 p2 s0 Ec) (by decide) sh_248 rfl rfl (Nat.le_of_ble_eq_true rfl) rfl dX12_trust_24 ?_
        refine am_goto 27 31 C dX12_trust_27 (by decide) ?_
        replace E := Option.some.inj E
        subst E
        exact as_iret 31 C Z rfl dX12_trust_31
def j_X12_words_154 (w6 : Int64) (v7 : Int32) (s8 : am_S) : Option (am_S) :=
  am_gd (¬ v7 < 0 ∧ (v7).toNatClampNeg < 14) (am_lt (as_j s8 257 (v7).toNatClampNeg w6) (fun s10 => am_lt (as_j s10 257 12 ((s10.1 258 7)).toInt64) (fun s11 => am_lt (as_j s11 257 13 ((s11.1 258 6)).toInt64) (fun s12 => some s12))))
def f_X12_words (p1 : Int32) (p2 : Int32) (p3 : Int32) (p4 : Int32) (p5 : Int32) (s0 : am_S) : Option (am_S) :=
  am_lt (as_j s0 257 0 (p1).toInt64) (fun s13 => am_lt (as_j s13 257 1 (p2).toInt64) (fun s14 => am_lt (as_j s14 257 2 (p3).toInt64) (fun s15 => am_lt (as_j s15 257 3 (p4).toInt64) (fun s16 => am_bd (f_X12_soOf p3 s16) (fun v17 => am_lt (as_j s16 257 4 (v17).toInt64) (fun s18 => am_b2 (f_X12_believedOf p1 p3 s18) (fun v19 s20 => am_lt (as_j s20 257 5 (v19).toInt64) (fun s21 => am_b2 (f_X12_believedOf p2 p3 s21) (fun v22 s23 => am_lt (as_j s23 257 6 (v22).toInt64) (fun s24 => am_lt ((nI 123) + p2) (fun v25 => am_gd (¬ v25 < 0 ∧ (v25).toNatClampNeg < 328) (am_lt (as_j s24 257 7 ((s24.1 258 (v25).toNatClampNeg)).toInt64) (fun s27 => am_lt (as_j s27 257 8 ((((s27.1 258 269) >>> (p2 &&& 31)) &&& (1 : Int32))).toInt64) (fun s28 => am_bd (f_X12_trustOf p2 p1 s28) (fun v29 => am_lt (as_j s28 257 9 (v29).toInt64) (fun s30 => am_bd (f_X12_harmAlone p3 p4 s30) (fun v31 => am_lt (as_j s30 257 10 (v31).toInt64) (fun s32 => am_if (p5 = 0) (j_X12_words_154 (0 : Int64) (nI 11) s32) (j_X12_words_154 (1 : Int64) (nI 11) s32)))))))))))))))))))
set_option maxRecDepth 100000 in
set_option maxHeartbeats 4000000 in
theorem t_X12_words (p1 : Int32) (p2 : Int32) (p3 : Int32) (p4 : Int32) (p5 : Int32) (s0 : am_S) {z : am_S} (E : f_X12_words p1 p2 p3 p4 p5 s0 = some z) : AS yX12_words cX12_words 6 none 4 [.ref 248, .int p1, .int p2, .int p3, .int p4, .int p5] s0 none z := by
  unfold f_X12_words at E
  refine as_met (lv := [(0, .ref 248), (1, .int p1), (2, .int p2), (3, .int p3), (4, .int p4), (5, .int p5)]) (by decide +kernel) (by simp [lg_sl, Value.category]) rfl (fun x C A Z => ?_)
  have K154 : ∀ (w6 : Int64) (v7 : Int32) (s8 : am_S), j_X12_words_154 w6 v7 s8 = some z → AX x 0 0 154 [(0, .ref 248)] [.long w6, .int v7, .ref 257] am_N (am_h s8) := by
    intro w6 v7 s8 E
    unfold j_X12_words_154 at E
    obtain ⟨g9, E⟩ := am_gdE E
    obtain ⟨s10, hs10, E⟩ := am_ltE E
    refine as_last 154 C dX12_words_154 (by decide) sh_257 g9 hs10 ?_
    refine am_aload_n 155 C dX12_words_155 rfl 0 rfl ?_
    refine as_getr 156 C fl_X12_36_11 dX12_words_156 (by decide) sh_248 (rf_248_19 _ _) ?_
    refine am_bipush 159 (nI 12) C dX12_words_159 (by decide) ?_
    refine am_aload_n 161 C dX12_words_161 rfl 0 rfl ?_
    refine as_getr 162 C fl_X12_39_11 dX12_words_162 (by decide) sh_248 (rf_248_20 _ _) ?_
    refine am_bipush 165 (nI 7) C dX12_words_165 (by decide) ?_
    refine as_ialdK 167 7 C dX12_words_167 (by decide) sh_258 (by decide) (by decide) ?_
    refine am_i2l 168 C dX12_words_168 ?_
    obtain ⟨s11, hs11, E⟩ := am_ltE E
    refine as_lastK 169 12 C dX12_words_169 (by decide) sh_257 (by decide) (by decide) hs11 ?_
    refine am_aload_n 170 C dX12_words_170 rfl 0 rfl ?_
    refine as_getr 171 C fl_X12_36_11 dX12_words_171 (by decide) sh_248 (rf_248_19 _ _) ?_
    refine am_bipush 174 (nI 13) C dX12_words_174 (by decide) ?_
    refine am_aload_n 176 C dX12_words_176 rfl 0 rfl ?_
    refine as_getr 177 C fl_X12_39_11 dX12_words_177 (by decide) sh_248 (rf_248_20 _ _) ?_
    refine am_bipush 180 (nI 6) C dX12_words_180 (by decide) ?_
    refine as_ialdK 182 6 C dX12_words_182 (by decide) sh_258 (by decide) (by decide) ?_
    refine am_i2l 183 C dX12_words_183 ?_
    obtain ⟨s12, hs12, E⟩ := am_ltE E
    refine as_lastK 184 13 C dX12_words_184 (by decide) sh_257 (by decide) (by decide) hs12 ?_
    replace E := Option.some.inj E
    subst E
    exact as_vret 185 C Z dX12_words_185
  refine am_aload_n 0 C dX12_words_0 rfl 0 rfl ?_
  refine as_getr 1 C fl_X12_36_11 dX12_words_1 (by decide) sh_248 (rf_248_19 _ _) ?_
  refine am_iconst 4 (0 : Int32) C dX12_words_4 (by decide) ?_
  refine am_iload_n 5 C dX12_words_5 rfl 1 rfl ?_
  refine am_i2l 6 C dX12_words_6 ?_
  obtain ⟨s13, hs13, E⟩ := am_ltE E
  refine as_lastK 7 0 C dX12_words_7 (by decide) sh_257 (by decide) (by decide) hs13 ?_
  refine am_aload_n 8 C dX12_words_8 rfl 0 rfl ?_
  refine as_getr 9 C fl_X12_36_11 dX12_words_9 (by decide) sh_248 (rf_248_19 _ _) ?_
  refine am_iconst 12 (1 : Int32) C dX12_words_12 (by decide) ?_
  refine am_iload_n 13 C dX12_words_13 rfl 2 rfl ?_
  refine am_i2l 14 C dX12_words_14 ?_
  obtain ⟨s14, hs14, E⟩ := am_ltE E
  refine as_lastK 15 1 C dX12_words_15 (by decide) sh_257 (by decide) (by decide) hs14 ?_
  refine am_aload_n 16 C dX12_words_16 rfl 0 rfl ?_
  refine as_getr 17 C fl_X12_36_11 dX12_words_17 (by decide) sh_248 (rf_248_19 _ _) ?_
  refine am_iconst 20 (nI 2) C dX12_words_20 (by decide) ?_
  refine am_iload_n 21 C dX12_words_21 rfl 3 rfl ?_
  refine am_i2l 22 C dX12_words_22 ?_
  obtain ⟨s15, hs15, E⟩ := am_ltE E
  refine as_lastK 23 2 C dX12_words_23 (by decide) sh_257 (by decide) (by decide) hs15 ?_
  refine am_aload_n 24 C dX12_words_24 rfl 0 rfl ?_
  refine as_getr 25 C fl_X12_36_11 dX12_words_25 (by decide) sh_248 (rf_248_19 _ _) ?_
  refine am_iconst 28 (nI 3) C dX12_words_28 (by decide) ?_
  refine am_iload 29 C dX12_words_29 4 rfl ?_
  refine am_i2l 31 C dX12_words_31 ?_
  obtain ⟨s16, hs16, E⟩ := am_ltE E
  refine as_lastK 32 3 C dX12_words_32 (by decide) sh_257 (by decide) (by decide) hs16 ?_
  refine am_aload_n 33 C dX12_words_33 rfl 0 rfl ?_
  refine as_getr 34 C fl_X12_36_11 dX12_words_34 (by decide) sh_248 (rf_248_19 _ _) ?_
  refine am_iconst 37 (nI 4) C dX12_words_37 (by decide) ?_
  refine am_aload_n 38 C dX12_words_38 rfl 0 rfl ?_
  refine am_iload_n 39 C dX12_words_39 rfl 3 rfl ?_
  obtain ⟨v17, Ec, E⟩ := am_bdE E
  refine as_callV 40 (s2 := s16) (st := [.int (nI 4), .ref 257]) (st2 := [.int v17, .int (nI 4), .ref 257]) [.int p3] C A (by decide) ml_X12_342 yc_X12_soOf yv_X12_soOf (t_X12_soOf p3 s16 Ec) (by decide) sh_248 rfl rfl (Nat.le_of_ble_eq_true rfl) rfl dX12_words_40 ?_
  refine am_i2l 43 C dX12_words_43 ?_
  obtain ⟨s18, hs18, E⟩ := am_ltE E
  refine as_lastK 44 4 C dX12_words_44 (by decide) sh_257 (by decide) (by decide) hs18 ?_
  refine am_aload_n 45 C dX12_words_45 rfl 0 rfl ?_
  refine as_getr 46 C fl_X12_36_11 dX12_words_46 (by decide) sh_248 (rf_248_19 _ _) ?_
  refine am_iconst 49 (nI 5) C dX12_words_49 (by decide) ?_
  refine am_aload_n 50 C dX12_words_50 rfl 0 rfl ?_
  refine am_iload_n 51 C dX12_words_51 rfl 1 rfl ?_
  refine am_iload_n 52 C dX12_words_52 rfl 3 rfl ?_
  obtain ⟨v19, s20, Ec, E⟩ := am_b2E E
  refine as_callV 53 (s2 := s20) (st := [.int (nI 5), .ref 257]) (st2 := [.int v19, .int (nI 5), .ref 257]) [.int p1, .int p3] C A (by decide) ml_X12_328 yc_X12_believedOf yv_X12_believedOf (t_X12_believedOf p1 p3 s18 Ec) (by decide) sh_248 rfl rfl (Nat.le_of_ble_eq_true rfl) rfl dX12_words_53 ?_
  refine am_i2l 56 C dX12_words_56 ?_
  obtain ⟨s21, hs21, E⟩ := am_ltE E
  refine as_lastK 57 5 C dX12_words_57 (by decide) sh_257 (by decide) (by decide) hs21 ?_
  refine am_aload_n 58 C dX12_words_58 rfl 0 rfl ?_
  refine as_getr 59 C fl_X12_36_11 dX12_words_59 (by decide) sh_248 (rf_248_19 _ _) ?_
  refine am_bipush 62 (nI 6) C dX12_words_62 (by decide) ?_
  refine am_aload_n 64 C dX12_words_64 rfl 0 rfl ?_
  refine am_iload_n 65 C dX12_words_65 rfl 2 rfl ?_
  refine am_iload_n 66 C dX12_words_66 rfl 3 rfl ?_
  obtain ⟨v22, s23, Ec, E⟩ := am_b2E E
  refine as_callV 67 (s2 := s23) (st := [.int (nI 6), .ref 257]) (st2 := [.int v22, .int (nI 6), .ref 257]) [.int p2, .int p3] C A (by decide) ml_X12_328 yc_X12_believedOf yv_X12_believedOf (t_X12_believedOf p2 p3 s21 Ec) (by decide) sh_248 rfl rfl (Nat.le_of_ble_eq_true rfl) rfl dX12_words_67 ?_
  refine am_i2l 70 C dX12_words_70 ?_
  obtain ⟨s24, hs24, E⟩ := am_ltE E
  refine as_lastK 71 6 C dX12_words_71 (by decide) sh_257 (by decide) (by decide) hs24 ?_
  refine am_aload_n 72 C dX12_words_72 rfl 0 rfl ?_
  refine as_getr 73 C fl_X12_36_11 dX12_words_73 (by decide) sh_248 (rf_248_19 _ _) ?_
  refine am_bipush 76 (nI 7) C dX12_words_76 (by decide) ?_
  refine am_aload_n 78 C dX12_words_78 rfl 0 rfl ?_
  refine as_getr 79 C fl_X12_39_11 dX12_words_79 (by decide) sh_248 (rf_248_20 _ _) ?_
  refine am_bipush 82 (nI 123) C dX12_words_82 (by decide) ?_
  refine am_iload_n 84 C dX12_words_84 rfl 2 rfl ?_
  refine am_iadd 85 C dX12_words_85 ?_
  obtain ⟨v25, hv25, E⟩ := am_ltE E
  refine as_nm hv25 ?_
  obtain ⟨g26, E⟩ := am_gdE E
  refine as_iald 86 C dX12_words_86 (by decide) sh_258 g26 ?_
  refine am_i2l 87 C dX12_words_87 ?_
  obtain ⟨s27, hs27, E⟩ := am_ltE E
  refine as_lastK 88 7 C dX12_words_88 (by decide) sh_257 (by decide) (by decide) hs27 ?_
  refine am_aload_n 89 C dX12_words_89 rfl 0 rfl ?_
  refine as_getr 90 C fl_X12_36_11 dX12_words_90 (by decide) sh_248 (rf_248_19 _ _) ?_
  refine am_bipush 93 (nI 8) C dX12_words_93 (by decide) ?_
  refine am_aload_n 95 C dX12_words_95 rfl 0 rfl ?_
  refine as_getr 96 C fl_X12_39_11 dX12_words_96 (by decide) sh_248 (rf_248_20 _ _) ?_
  refine am_sipush 99 (nI 269) C dX12_words_99 (by decide) ?_
  refine as_ialdK 102 269 C dX12_words_102 (by decide) sh_258 (by decide) (by decide) ?_
  refine am_iload_n 103 C dX12_words_103 rfl 2 rfl ?_
  refine am_ishr 104 C dX12_words_104 ?_
  refine am_iconst 105 (1 : Int32) C dX12_words_105 (by decide) ?_
  refine am_iand 106 C dX12_words_106 ?_
  refine am_i2l 107 C dX12_words_107 ?_
  obtain ⟨s28, hs28, E⟩ := am_ltE E
  refine as_lastK 108 8 C dX12_words_108 (by decide) sh_257 (by decide) (by decide) hs28 ?_
  refine am_aload_n 109 C dX12_words_109 rfl 0 rfl ?_
  refine as_getr 110 C fl_X12_36_11 dX12_words_110 (by decide) sh_248 (rf_248_19 _ _) ?_
  refine am_bipush 113 (nI 9) C dX12_words_113 (by decide) ?_
  refine am_aload_n 115 C dX12_words_115 rfl 0 rfl ?_
  refine am_iload_n 116 C dX12_words_116 rfl 2 rfl ?_
  refine am_iload_n 117 C dX12_words_117 rfl 1 rfl ?_
  obtain ⟨v29, Ec, E⟩ := am_bdE E
  refine as_callV 118 (s2 := s28) (st := [.int (nI 9), .ref 257]) (st2 := [.int v29, .int (nI 9), .ref 257]) [.int p2, .int p1] C A (by decide) ml_X12_339 yc_X12_trustOf yv_X12_trustOf (t_X12_trustOf p2 p1 s28 Ec) (by decide) sh_248 rfl rfl (Nat.le_of_ble_eq_true rfl) rfl dX12_words_118 ?_
  refine am_i2l 121 C dX12_words_121 ?_
  obtain ⟨s30, hs30, E⟩ := am_ltE E
  refine as_lastK 122 9 C dX12_words_122 (by decide) sh_257 (by decide) (by decide) hs30 ?_
  refine am_aload_n 123 C dX12_words_123 rfl 0 rfl ?_
  refine as_getr 124 C fl_X12_36_11 dX12_words_124 (by decide) sh_248 (rf_248_19 _ _) ?_
  refine am_bipush 127 (nI 10) C dX12_words_127 (by decide) ?_
  refine am_aload_n 129 C dX12_words_129 rfl 0 rfl ?_
  refine am_iload_n 130 C dX12_words_130 rfl 3 rfl ?_
  refine am_iload 131 C dX12_words_131 4 rfl ?_
  obtain ⟨v31, Ec, E⟩ := am_bdE E
  refine as_callV 133 (s2 := s30) (st := [.int (nI 10), .ref 257]) (st2 := [.int v31, .int (nI 10), .ref 257]) [.int p3, .int p4] C A (by decide) ml_X12_345 yc_X12_harmAlone yv_X12_harmAlone (t_X12_harmAlone p3 p4 s30 Ec) (by decide) sh_248 rfl rfl (Nat.le_of_ble_eq_true rfl) rfl dX12_words_133 ?_
  refine am_i2l 136 C dX12_words_136 ?_
  obtain ⟨s32, hs32, E⟩ := am_ltE E
  refine as_lastK 137 10 C dX12_words_137 (by decide) sh_257 (by decide) (by decide) hs32 ?_
  refine am_aload_n 138 C dX12_words_138 rfl 0 rfl ?_
  refine as_getr 139 C fl_X12_36_11 dX12_words_139 (by decide) sh_248 (rf_248_19 _ _) ?_
  refine am_bipush 142 (nI 11) C dX12_words_142 (by decide) ?_
  refine am_iload 144 C dX12_words_144 5 rfl ?_
  refine am_if_eq 146 153 C dX12_words_146 (by decide) (fun c33 => ?_) (fun c33 => ?_)
  · have E := am_ifT E c33
    refine am_lconst 153 (0 : Int64) C dX12_words_153 (by decide) ?_
    refine am_lvs [0] rfl ?_
    exact K154 _ _ _ E
  · have E := am_ifF E c33
    refine am_lconst 149 (1 : Int64) C dX12_words_149 (by decide) ?_
    refine am_goto 150 154 C dX12_words_150 (by decide) ?_
    refine am_lvs [0] rfl ?_
    exact K154 _ _ _ E
def b_X12_hasLies_2 (p1 : Int32) (s0 : am_S) (v3 : Int32) : Option ((Int32) ⊕ (Int32)) :=
  am_gd (¬ p1 < 0 ∧ (p1).toNatClampNeg < 6) (am_if ((s0.1 253 (p1).toNatClampNeg) ≤ v3) (some (Sum.inr (0 : Int32))) (am_lt (((nI 60) * p1) + ((nI 5) * v3)) (fun v5 => am_gd (¬ v5 < 0 ∧ (v5).toNatClampNeg < 360) (am_if ((s0.1 252 (v5).toNatClampNeg) = 0) (some (Sum.inr (1 : Int32))) (am_lt (v3 + (1 : Int32)) (fun v7 => some (Sum.inl v7)))))))
def f_X12_hasLies (p1 : Int32) (s0 : am_S) : Option (Int32) :=
  am_lp (fun (q : Int32) => b_X12_hasLies_2 p1 s0 q) am_F (0 : Int32)
set_option maxRecDepth 100000 in
set_option maxHeartbeats 4000000 in
theorem t_X12_hasLies (p1 : Int32) (s0 : am_S) {z : Int32} (E : f_X12_hasLies p1 s0 = some z) : AS yX12_hasLies cX12_hasLies 3 (some .boolean) 1 [.ref 248, .int p1] s0 (some (.int z)) s0 := by
  unfold f_X12_hasLies at E
  refine as_met (lv := [(0, .ref 248), (1, .int p1)]) (by decide +kernel) (by simp [lg_sl, Value.category]) rfl (fun x C A Z => ?_)
  refine am_iconst 0 (0 : Int32) C dX12_hasLies_0 (by decide) ?_
  refine am_istore_n 1 (lv2 := [(2, .int (0 : Int32)), (0, .ref 248), (1, .int p1)]) C dX12_hasLies_1 rfl (by decide) rfl ?_
  have LP2 : ∀ (n : Nat) (v3 : Int32), am_lp (fun (q : Int32) => b_X12_hasLies_2 p1 s0 q) n v3 = some z → AX x 0 0 2 [(0, .ref 248), (1, .int p1), (2, .int v3)] [] am_N (am_h s0) := by
    intro n
    induction n with
    | zero => intro v3 E; exact (am_lp0 E).elim
    | succ n ih2 =>
      intro v3 E
      obtain ⟨r2, E, Er2⟩ := am_lpE E
      replace E : b_X12_hasLies_2 p1 s0 v3 = some r2 := E
      unfold b_X12_hasLies_2 at E
      refine am_iload_n 2 C dX12_hasLies_2 rfl 2 rfl ?_
      refine am_aload_n 3 C dX12_hasLies_3 rfl 0 rfl ?_
      refine as_getr 4 C fl_X12_23_11 dX12_hasLies_4 (by decide) sh_248 (rf_248_6 _ _) ?_
      refine am_iload_n 7 C dX12_hasLies_7 rfl 1 rfl ?_
      obtain ⟨g4, E⟩ := am_gdE E
      refine as_iald 8 C dX12_hasLies_8 (by decide) sh_253 g4 ?_
      refine am_icmp_ge 9 36 C dX12_hasLies_9 (by decide) (fun c9 => ?_) (fun c9 => ?_)
      · have E := am_ifT E c9
        refine am_iconst 36 (0 : Int32) C dX12_hasLies_36 (by decide) ?_
        replace E := Option.some.inj E
        replace E := am_exR E Er2
        subst E
        exact as_iret 37 C Z rfl dX12_hasLies_37
      · have E := am_ifF E c9
        refine am_aload_n 12 C dX12_hasLies_12 rfl 0 rfl ?_
        refine as_getr 13 C fl_X12_20_11 dX12_hasLies_13 (by decide) sh_248 (rf_248_5 _ _) ?_
        refine am_bipush 16 (nI 60) C dX12_hasLies_16 (by decide) ?_
        refine am_iload_n 18 C dX12_hasLies_18 rfl 1 rfl ?_
        refine am_imul 19 C dX12_hasLies_19 ?_
        refine am_iconst 20 (nI 5) C dX12_hasLies_20 (by decide) ?_
        refine am_iload_n 21 C dX12_hasLies_21 rfl 2 rfl ?_
        refine am_imul 22 C dX12_hasLies_22 ?_
        refine am_iadd 23 C dX12_hasLies_23 ?_
        obtain ⟨v5, hv5, E⟩ := am_ltE E
        refine as_nm hv5 ?_
        obtain ⟨g6, E⟩ := am_gdE E
        refine as_iald 24 C dX12_hasLies_24 (by decide) sh_252 g6 ?_
        refine am_if_ne 25 30 C dX12_hasLies_25 (by decide) (fun c8 => ?_) (fun c8 => ?_)
        · have E := am_ifF E c8
          obtain ⟨v7, hv7, E⟩ := am_ltE E
          refine as_iinc 30 (q := (1 : Int32)) (lv2 := [(2, .int v7), (0, .ref 248), (1, .int p1)]) C dX12_hasLies_30 2 rfl (by decide) hv7 (by decide) rfl ?_
          refine am_goto 33 2 C dX12_hasLies_33 (by decide) ?_
          replace E := Option.some.inj E
          replace E := am_exL E Er2
          refine am_lvs [1, 2, 0] rfl ?_
          exact ih2 _ E
        · have E := am_ifT E c8
          refine am_iconst 28 (1 : Int32) C dX12_hasLies_28 (by decide) ?_
          replace E := Option.some.inj E
          replace E := am_exR E Er2
          subst E
          exact as_iret 29 C Z rfl dX12_hasLies_29
  refine am_lvs [1, 2, 0] rfl ?_
  exact LP2 am_F _ E
def j_X12_isLie_18 (p3 : Int32) (p4 : Int32) (s6 : am_S) : Option (Int32 × am_S) :=
  am_bd (f_X12_soOf p3 s6) (fun v7 => am_if (p4 = v7) (some ((0 : Int32), s6)) (some ((1 : Int32), s6)))
def b_X12_isLie_48 (v12 : Int32) (s13 : am_S) : Option ((Int32 × am_S) ⊕ (Int32 × am_S)) :=
  am_lt (s13.1 248 21) (fun v14 => am_gd (¬ v14 < 0 ∧ (v14).toNatClampNeg < 6) (am_if ((s13.1 253 (v14).toNatClampNeg) ≤ v12) (some (Sum.inr ((0 : Int32), s13))) (am_lt (((nI 60) * (s13.1 248 21)) + ((nI 5) * v12)) (fun v16 => am_gd (¬ v16 < 0 ∧ (v16).toNatClampNeg < 360) (am_if ((s13.1 252 (v16).toNatClampNeg) = 0) (am_lt (v16 + (nI 3)) (fun v19 => am_gd (¬ v19 < 0 ∧ (v19).toNatClampNeg < 360) (am_lt (v16 + (nI 4)) (fun v21 => am_gd (¬ v21 < 0 ∧ (v21).toNatClampNeg < 360) (am_b2 (f_X12_reckons (s13.1 248 21) (s13.1 252 (v19).toNatClampNeg) (s13.1 252 (v21).toNatClampNeg) s13) (fun w23 s24 => am_if ((lg_cmp w23 (1 : Int64)) = 0) (some (Sum.inr ((1 : Int32), s24))) (am_lt (v12 + (1 : Int32)) (fun v25 => some (Sum.inl (v25, s24)))))))))) (am_lt (v12 + (1 : Int32)) (fun v18 => some (Sum.inl (v18, s13)))))))))
def f_X12_isLie (p1 : Int32) (p2 : Int32) (p3 : Int32) (p4 : Int32) (p5 : Int32) (s0 : am_S) : Option (Int32 × am_S) :=
  am_if ((s0.1 248 21) < 0) (j_X12_isLie_18 p3 p4 s0) (am_bd (f_X12_hasLies (s0.1 248 21) s0) (fun v9 => am_if (v9 = 0) (j_X12_isLie_18 p3 p4 s0) (am_bd (f_X12_words p1 p2 p3 p4 p5 s0) (fun s10 => am_lp (fun (q : Int32 × am_S) => b_X12_isLie_48 q.1 q.2) am_F ((0 : Int32), s10)))))
set_option maxRecDepth 100000 in
set_option maxHeartbeats 4000000 in
theorem t_X12_isLie (p1 : Int32) (p2 : Int32) (p3 : Int32) (p4 : Int32) (p5 : Int32) (s0 : am_S) {z : Int32 × am_S} (E : f_X12_isLie p1 p2 p3 p4 p5 s0 = some z) : AS yX12_isLie cX12_isLie 8 (some .boolean) 5 [.ref 248, .int p1, .int p2, .int p3, .int p4, .int p5] s0 (some (.int z.1)) z.2 := by
  unfold f_X12_isLie at E
  refine as_met (lv := [(0, .ref 248), (1, .int p1), (2, .int p2), (3, .int p3), (4, .int p4), (5, .int p5)]) (by decide +kernel) (by simp [lg_sl, Value.category]) rfl (fun x C A Z => ?_)
  have K18 : ∀ (s6 : am_S), j_X12_isLie_18 p3 p4 s6 = some z → AX x 0 0 18 [(0, .ref 248), (3, .int p3), (4, .int p4)] [] am_N (am_h s6) := by
    intro s6 E
    unfold j_X12_isLie_18 at E
    refine am_iload 18 C dX12_isLie_18 2 rfl ?_
    refine am_aload_n 20 C dX12_isLie_20 rfl 0 rfl ?_
    refine am_iload_n 21 C dX12_isLie_21 rfl 1 rfl ?_
    obtain ⟨v7, Ec, E⟩ := am_bdE E
    refine as_callV 22 (s2 := s6) (st := [.int p4]) (st2 := [.int v7, .int p4]) [.int p3] C A (by decide) ml_X12_342 yc_X12_soOf yv_X12_soOf (t_X12_soOf p3 s6 Ec) (by decide) sh_248 rfl rfl (Nat.le_of_ble_eq_true rfl) rfl dX12_isLie_22 ?_
    refine am_icmp_eq 25 32 C dX12_isLie_25 (by decide) (fun c8 => ?_) (fun c8 => ?_)
    · have E := am_ifT E c8
      refine am_iconst 32 (0 : Int32) C dX12_isLie_32 (by decide) ?_
      replace E := Option.some.inj E
      subst E
      exact as_iret 33 C Z rfl dX12_isLie_33
    · have E := am_ifF E c8
      refine am_iconst 28 (1 : Int32) C dX12_isLie_28 (by decide) ?_
      refine am_goto 29 33 C dX12_isLie_29 (by decide) ?_
      replace E := Option.some.inj E
      subst E
      exact as_iret 33 C Z rfl dX12_isLie_33
  refine am_aload_n 0 C dX12_isLie_0 rfl 0 rfl ?_
  refine as_geti 1 C fl_X12_42_11 dX12_isLie_1 (by decide) sh_248 ?_
  refine am_if_lt 4 18 C dX12_isLie_4 (by decide) (fun c30 => ?_) (fun c30 => ?_)
  · have E := am_ifT E c30
    refine am_lvs [0, 3, 4] rfl ?_
    exact K18 _ E
  · have E := am_ifF E c30
    refine am_aload_n 7 C dX12_isLie_7 rfl 0 rfl ?_
    refine am_aload_n 8 C dX12_isLie_8 rfl 0 rfl ?_
    refine as_geti 9 C fl_X12_42_11 dX12_isLie_9 (by decide) sh_248 ?_
    obtain ⟨v9, Ec, E⟩ := am_bdE E
    refine as_callV 12 (s2 := s0) (st := []) (st2 := [.int v9]) [.int (s0.1 248 21)] C A (by decide) ml_X12_348 yc_X12_hasLies yv_X12_hasLies (t_X12_hasLies (s0.1 248 21) s0 Ec) (by decide) sh_248 rfl rfl (Nat.le_of_ble_eq_true rfl) rfl dX12_isLie_12 ?_
    refine am_if_ne 15 34 C dX12_isLie_15 (by decide) (fun c29 => ?_) (fun c29 => ?_)
    · have E := am_ifF E c29
      refine am_aload_n 34 C dX12_isLie_34 rfl 0 rfl ?_
      refine am_iload_n 35 C dX12_isLie_35 rfl 1 rfl ?_
      refine am_iload_n 36 C dX12_isLie_36 rfl 2 rfl ?_
      refine am_iload_n 37 C dX12_isLie_37 rfl 3 rfl ?_
      refine am_iload 38 C dX12_isLie_38 4 rfl ?_
      refine am_iload 40 C dX12_isLie_40 5 rfl ?_
      obtain ⟨s10, Ec, E⟩ := am_bdE E
      refine as_callV 42 (s2 := s10) (st := []) (st2 := []) [.int p1, .int p2, .int p3, .int p4, .int p5] C A (by decide) ml_X12_351 yc_X12_words yv_X12_words (t_X12_words p1 p2 p3 p4 p5 s0 Ec) (by decide) sh_248 rfl rfl (Nat.le_of_ble_eq_true rfl) rfl dX12_isLie_42 ?_
      refine am_iconst 45 (0 : Int32) C dX12_isLie_45 (by decide) ?_
      refine am_istore 46 (lv2 := [(6, .int (0 : Int32)), (0, .ref 248), (1, .int p1), (2, .int p2), (3, .int p3), (4, .int p4), (5, .int p5)]) C dX12_isLie_46 (by decide) rfl ?_
      have LP11 : ∀ (n : Nat) (v12 : Int32) (s13 : am_S), am_lp (fun (q : Int32 × am_S) => b_X12_isLie_48 q.1 q.2) n (v12, s13) = some z → AX x 0 0 48 [(0, .ref 248), (6, .int v12)] [] am_N (am_h s13) := by
        intro n
        induction n with
        | zero => intro v12 s13 E; exact (am_lp0 E).elim
        | succ n ih11 =>
          intro v12 s13 E
          obtain ⟨r11, E, Er11⟩ := am_lpE E
          replace E : b_X12_isLie_48 v12 s13 = some r11 := E
          unfold b_X12_isLie_48 at E
          refine am_iload 48 C dX12_isLie_48 1 rfl ?_
          refine am_aload_n 50 C dX12_isLie_50 rfl 0 rfl ?_
          refine as_getr 51 C fl_X12_23_11 dX12_isLie_51 (by decide) sh_248 (rf_248_6 _ _) ?_
          refine am_aload_n 54 C dX12_isLie_54 rfl 0 rfl ?_
          refine as_geti 55 C fl_X12_42_11 dX12_isLie_55 (by decide) sh_248 ?_
          obtain ⟨v14, hv14, E⟩ := am_ltE E
          refine as_nm hv14 ?_
          obtain ⟨g15, E⟩ := am_gdE E
          refine as_iald 58 C dX12_isLie_58 (by decide) sh_253 g15 ?_
          refine am_icmp_ge 59 125 C dX12_isLie_59 (by decide) (fun c28 => ?_) (fun c28 => ?_)
          · have E := am_ifT E c28
            refine am_iconst 125 (0 : Int32) C dX12_isLie_125 (by decide) ?_
            replace E := Option.some.inj E
            replace E := am_exR E Er11
            subst E
            exact as_iret 126 C Z rfl dX12_isLie_126
          · have E := am_ifF E c28
            refine am_bipush 62 (nI 60) C dX12_isLie_62 (by decide) ?_
            refine am_aload_n 64 C dX12_isLie_64 rfl 0 rfl ?_
            refine as_geti 65 C fl_X12_42_11 dX12_isLie_65 (by decide) sh_248 ?_
            refine am_imul 68 C dX12_isLie_68 ?_
            refine am_iconst 69 (nI 5) C dX12_isLie_69 (by decide) ?_
            refine am_iload 70 C dX12_isLie_70 1 rfl ?_
            refine am_imul 72 C dX12_isLie_72 ?_
            refine am_iadd 73 C dX12_isLie_73 ?_
            obtain ⟨v16, hv16, E⟩ := am_ltE E
            refine as_nm hv16 ?_
            refine am_istore 74 (lv2 := [(7, .int v16), (0, .ref 248), (6, .int v12)]) C dX12_isLie_74 (by decide) rfl ?_
            refine am_aload_n 76 C dX12_isLie_76 rfl 1 rfl ?_
            refine as_getr 77 C fl_X12_20_11 dX12_isLie_77 (by decide) sh_248 (rf_248_5 _ _) ?_
            refine am_iload 80 C dX12_isLie_80 0 rfl ?_
            obtain ⟨g17, E⟩ := am_gdE E
            refine as_iald 82 C dX12_isLie_82 (by decide) sh_252 g17 ?_
            refine am_if_ne 83 119 C dX12_isLie_83 (by decide) (fun c27 => ?_) (fun c27 => ?_)
            · have E := am_ifF E c27
              obtain ⟨v18, hv18, E⟩ := am_ltE E
              refine as_iinc 119 (q := (1 : Int32)) (lv2 := [(6, .int v18), (7, .int v16), (0, .ref 248)]) C dX12_isLie_119 2 rfl (by decide) hv18 (by decide) rfl ?_
              refine am_goto 122 48 C dX12_isLie_122 (by decide) ?_
              replace E := Option.some.inj E
              replace E := am_exL E Er11
              refine am_lvs [2, 0] rfl ?_
              exact ih11 _ _ E
            · have E := am_ifT E c27
              refine am_aload_n 86 C dX12_isLie_86 rfl 1 rfl ?_
              refine am_aload_n 87 C dX12_isLie_87 rfl 1 rfl ?_
              refine as_geti 88 C fl_X12_42_11 dX12_isLie_88 (by decide) sh_248 ?_
              refine am_aload_n 91 C dX12_isLie_91 rfl 1 rfl ?_
              refine as_getr 92 C fl_X12_20_11 dX12_isLie_92 (by decide) sh_248 (rf_248_5 _ _) ?_
              refine am_iload 95 C dX12_isLie_95 0 rfl ?_
              refine am_iconst 97 (nI 3) C dX12_isLie_97 (by decide) ?_
              refine am_iadd 98 C dX12_isLie_98 ?_
              obtain ⟨v19, hv19, E⟩ := am_ltE E
              refine as_nm hv19 ?_
              obtain ⟨g20, E⟩ := am_gdE E
              refine as_iald 99 C dX12_isLie_99 (by decide) sh_252 g20 ?_
              refine am_aload_n 100 C dX12_isLie_100 rfl 1 rfl ?_
              refine as_getr 101 C fl_X12_20_11 dX12_isLie_101 (by decide) sh_248 (rf_248_5 _ _) ?_
              refine am_iload 104 C dX12_isLie_104 0 rfl ?_
              refine am_iconst 106 (nI 4) C dX12_isLie_106 (by decide) ?_
              refine am_iadd 107 C dX12_isLie_107 ?_
              obtain ⟨v21, hv21, E⟩ := am_ltE E
              refine as_nm hv21 ?_
              obtain ⟨g22, E⟩ := am_gdE E
              refine as_iald 108 C dX12_isLie_108 (by decide) sh_252 g22 ?_
              obtain ⟨w23, s24, Ec, E⟩ := am_b2E E
              refine as_callV 109 (s2 := s24) (st := []) (st2 := [.long w23]) [.int (s13.1 248 21), .int (s13.1 252 (v19).toNatClampNeg), .int (s13.1 252 (v21).toNatClampNeg)] C A (by decide) ml_X12_355 yc_X12_reckons yv_X12_reckons (t_X12_reckons (s13.1 248 21) (s13.1 252 (v19).toNatClampNeg) (s13.1 252 (v21).toNatClampNeg) s13 Ec) (by decide) sh_248 rfl rfl (Nat.le_of_ble_eq_true rfl) rfl dX12_isLie_109 ?_
              refine am_lconst 112 (1 : Int64) C dX12_isLie_112 (by decide) ?_
              refine am_lcmp 113 C dX12_isLie_113 ?_
              refine am_if_ne 114 119 C dX12_isLie_114 (by decide) (fun c26 => ?_) (fun c26 => ?_)
              · have E := am_ifF E c26
                obtain ⟨v25, hv25, E⟩ := am_ltE E
                refine as_iinc 119 (q := (1 : Int32)) (lv2 := [(6, .int v25), (7, .int v16), (0, .ref 248)]) C dX12_isLie_119 2 rfl (by decide) hv25 (by decide) rfl ?_
                refine am_goto 122 48 C dX12_isLie_122 (by decide) ?_
                replace E := Option.some.inj E
                replace E := am_exL E Er11
                refine am_lvs [2, 0] rfl ?_
                exact ih11 _ _ E
              · have E := am_ifT E c26
                refine am_iconst 117 (1 : Int32) C dX12_isLie_117 (by decide) ?_
                replace E := Option.some.inj E
                replace E := am_exR E Er11
                subst E
                exact as_iret 118 C Z rfl dX12_isLie_118
      refine am_lvs [1, 0] rfl ?_
      exact LP11 am_F _ _ E
    · have E := am_ifT E c29
      refine am_lvs [0, 3, 4] rfl ?_
      exact K18 _ E
def j_X12_isTold_29 (p2 : Int32) (p3 : Int32) (p4 : Int32) (v5 : Int32) (s6 : am_S) : Option (am_S) :=
  am_bd (f_X12_holdsNow p2 p3 p4 v5 s6) (fun s7 => some s7)
def f_X12_isTold (p1 : Int32) (p2 : Int32) (p3 : Int32) (p4 : Int32) (s0 : am_S) : Option (am_S) :=
  am_bd (f_X12_trustOf p2 p1 s0) (fun v8 => am_bd (f_X12_holdOf p2 p3 s0) (fun v9 => am_if (v9 = (nI 2)) (j_X12_isTold_29 p2 p3 p4 v8 s0) (am_bd (f_X12_strengthOf p2 p3 s0) (fun v10 => am_if (v8 < v10) (some s0) (j_X12_isTold_29 p2 p3 p4 v8 s0)))))
set_option maxRecDepth 100000 in
set_option maxHeartbeats 4000000 in
theorem t_X12_isTold (p1 : Int32) (p2 : Int32) (p3 : Int32) (p4 : Int32) (s0 : am_S) {z : am_S} (E : f_X12_isTold p1 p2 p3 p4 s0 = some z) : AS yX12_isTold cX12_isTold 6 none 2 [.ref 248, .int p1, .int p2, .int p3, .int p4] s0 none z := by
  unfold f_X12_isTold at E
  refine as_met (lv := [(0, .ref 248), (1, .int p1), (2, .int p2), (3, .int p3), (4, .int p4)]) (by decide +kernel) (by simp [lg_sl, Value.category]) rfl (fun x C A Z => ?_)
  have K29 : ∀ (v5 : Int32) (s6 : am_S), j_X12_isTold_29 p2 p3 p4 v5 s6 = some z → AX x 0 0 29 [(0, .ref 248), (2, .int p2), (3, .int p3), (4, .int p4), (5, .int v5)] [] am_N (am_h s6) := by
    intro v5 s6 E
    unfold j_X12_isTold_29 at E
    refine am_aload_n 29 C dX12_isTold_29 rfl 0 rfl ?_
    refine am_iload_n 30 C dX12_isTold_30 rfl 1 rfl ?_
    refine am_iload_n 31 C dX12_isTold_31 rfl 2 rfl ?_
    refine am_iload 32 C dX12_isTold_32 3 rfl ?_
    refine am_iload 34 C dX12_isTold_34 4 rfl ?_
    obtain ⟨s7, Ec, E⟩ := am_bdE E
    refine as_callV 36 (s2 := s7) (st := []) (st2 := []) [.int p2, .int p3, .int p4, .int v5] C A (by decide) ml_X12_359 yc_X12_holdsNow yv_X12_holdsNow (t_X12_holdsNow p2 p3 p4 v5 s6 Ec) (by decide) sh_248 rfl rfl (Nat.le_of_ble_eq_true rfl) rfl dX12_isTold_36 ?_
    replace E := Option.some.inj E
    subst E
    exact as_vret 39 C Z dX12_isTold_39
  refine am_aload_n 0 C dX12_isTold_0 rfl 0 rfl ?_
  refine am_iload_n 1 C dX12_isTold_1 rfl 2 rfl ?_
  refine am_iload_n 2 C dX12_isTold_2 rfl 1 rfl ?_
  obtain ⟨v8, Ec, E⟩ := am_bdE E
  refine as_callV 3 (s2 := s0) (st := []) (st2 := [.int v8]) [.int p2, .int p1] C A (by decide) ml_X12_339 yc_X12_trustOf yv_X12_trustOf (t_X12_trustOf p2 p1 s0 Ec) (by decide) sh_248 rfl rfl (Nat.le_of_ble_eq_true rfl) rfl dX12_isTold_3 ?_
  refine am_istore 6 (lv2 := [(5, .int v8), (0, .ref 248), (1, .int p1), (2, .int p2), (3, .int p3), (4, .int p4)]) C dX12_isTold_6 (by decide) rfl ?_
  refine am_aload_n 8 C dX12_isTold_8 rfl 1 rfl ?_
  refine am_iload_n 9 C dX12_isTold_9 rfl 3 rfl ?_
  refine am_iload_n 10 C dX12_isTold_10 rfl 4 rfl ?_
  obtain ⟨v9, Ec, E⟩ := am_bdE E
  refine as_callV 11 (s2 := s0) (st := []) (st2 := [.int v9]) [.int p2, .int p3] C A (by decide) ml_X12_305 yc_X12_holdOf yv_X12_holdOf (t_X12_holdOf p2 p3 s0 Ec) (by decide) sh_248 rfl rfl (Nat.le_of_ble_eq_true rfl) rfl dX12_isTold_11 ?_
  refine am_iconst 14 (nI 2) C dX12_isTold_14 (by decide) ?_
  refine am_icmp_eq 15 29 C dX12_isTold_15 (by decide) (fun c12 => ?_) (fun c12 => ?_)
  · have E := am_ifT E c12
    refine am_lvs [1, 3, 4, 5, 0] rfl ?_
    exact K29 _ _ E
  · have E := am_ifF E c12
    refine am_iload 18 C dX12_isTold_18 0 rfl ?_
    refine am_aload_n 20 C dX12_isTold_20 rfl 1 rfl ?_
    refine am_iload_n 21 C dX12_isTold_21 rfl 3 rfl ?_
    refine am_iload_n 22 C dX12_isTold_22 rfl 4 rfl ?_
    obtain ⟨v10, Ec, E⟩ := am_bdE E
    refine as_callV 23 (s2 := s0) (st := [.int v8]) (st2 := [.int v10, .int v8]) [.int p2, .int p3] C A (by decide) ml_X12_325 yc_X12_strengthOf yv_X12_strengthOf (t_X12_strengthOf p2 p3 s0 Ec) (by decide) sh_248 rfl rfl (Nat.le_of_ble_eq_true rfl) rfl dX12_isTold_23 ?_
    refine am_icmp_lt 26 39 C dX12_isTold_26 (by decide) (fun c11 => ?_) (fun c11 => ?_)
    · have E := am_ifT E c11
      replace E := Option.some.inj E
      subst E
      exact as_vret 39 C Z dX12_isTold_39
    · have E := am_ifF E c11
      refine am_lvs [1, 3, 4, 5, 0] rfl ?_
      exact K29 _ _ E
def f_X12_says (p1 : Int32) (p2 : Int32) (p3 : Int32) (p4 : Int32) (p5 : Int32) (s0 : am_S) : Option (Int32 × am_S) :=
  am_b2 (f_X12_isLie p1 p2 p3 p4 p5 s0) (fun v6 s7 => am_bd (f_X12_isTold p1 p2 p3 p4 s7) (fun s8 => am_if (v6 = 0) (some ((0 : Int32), s8)) (am_lt ((nI 123) + p2) (fun v9 => am_gd (¬ v9 < 0 ∧ (v9).toNatClampNeg < 328) (am_gd (¬ v9 < 0 ∧ (v9).toNatClampNeg < 328) (am_lt (as_i s8 258 (v9).toNatClampNeg ((s8.1 258 (v9).toNatClampNeg) + (1 : Int32))) (fun s12 => am_lt ((nI 123) + p2) (fun v13 => am_gd (¬ v13 < 0 ∧ (v13).toNatClampNeg < 328) (am_if ((s12.1 258 (v13).toNatClampNeg) = (nI 2)) (am_if (0 ≤ (s12.1 258 9)) (some ((1 : Int32), s12)) (am_lt (as_i s12 258 8 (s12.1 258 7)) (fun s15 => am_lt (as_i s15 258 9 p2) (fun s16 => some ((1 : Int32), s16))))) (some ((1 : Int32), s12)))))))))))
set_option maxRecDepth 100000 in
set_option maxHeartbeats 4000000 in
theorem t_X12_says (p1 : Int32) (p2 : Int32) (p3 : Int32) (p4 : Int32) (p5 : Int32) (s0 : am_S) {z : Int32 × am_S} (E : f_X12_says p1 p2 p3 p4 p5 s0 = some z) : AS yX12_says cX12_says 7 (some .int) 6 [.ref 248, .int p1, .int p2, .int p3, .int p4, .int p5] s0 (some (.int z.1)) z.2 := by
  unfold f_X12_says at E
  refine as_met (lv := [(0, .ref 248), (1, .int p1), (2, .int p2), (3, .int p3), (4, .int p4), (5, .int p5)]) (by decide +kernel) (by simp [lg_sl, Value.category]) rfl (fun x C A Z => ?_)
  refine am_aload_n 0 C dX12_says_0 rfl 0 rfl ?_
  refine am_iload_n 1 C dX12_says_1 rfl 1 rfl ?_
  refine am_iload_n 2 C dX12_says_2 rfl 2 rfl ?_
  refine am_iload_n 3 C dX12_says_3 rfl 3 rfl ?_
  refine am_iload 4 C dX12_says_4 4 rfl ?_
  refine am_iload 6 C dX12_says_6 5 rfl ?_
  obtain ⟨v6, s7, Ec, E⟩ := am_b2E E
  refine as_callV 8 (s2 := s7) (st := []) (st2 := [.int v6]) [.int p1, .int p2, .int p3, .int p4, .int p5] C A (by decide) ml_X12_363 yc_X12_isLie yv_X12_isLie (t_X12_isLie p1 p2 p3 p4 p5 s0 Ec) (by decide) sh_248 rfl rfl (Nat.le_of_ble_eq_true rfl) rfl dX12_says_8 ?_
  refine am_istore 11 (lv2 := [(6, .int v6), (0, .ref 248), (1, .int p1), (2, .int p2), (3, .int p3), (4, .int p4), (5, .int p5)]) C dX12_says_11 (by decide) rfl ?_
  refine am_aload_n 13 C dX12_says_13 rfl 1 rfl ?_
  refine am_iload_n 14 C dX12_says_14 rfl 2 rfl ?_
  refine am_iload_n 15 C dX12_says_15 rfl 3 rfl ?_
  refine am_iload_n 16 C dX12_says_16 rfl 4 rfl ?_
  refine am_iload 17 C dX12_says_17 5 rfl ?_
  obtain ⟨s8, Ec, E⟩ := am_bdE E
  refine as_callV 19 (s2 := s8) (st := []) (st2 := []) [.int p1, .int p2, .int p3, .int p4] C A (by decide) ml_X12_367 yc_X12_isTold yv_X12_isTold (t_X12_isTold p1 p2 p3 p4 s7 Ec) (by decide) sh_248 rfl rfl (Nat.le_of_ble_eq_true rfl) rfl dX12_says_19 ?_
  refine am_iload 22 C dX12_says_22 0 rfl ?_
  refine am_if_ne 24 29 C dX12_says_24 (by decide) (fun c19 => ?_) (fun c19 => ?_)
  · have E := am_ifF E c19
    refine am_aload_n 29 C dX12_says_29 rfl 1 rfl ?_
    refine as_getr 30 C fl_X12_39_11 dX12_says_30 (by decide) sh_248 (rf_248_20 _ _) ?_
    refine am_bipush 33 (nI 123) C dX12_says_33 (by decide) ?_
    refine am_iload_n 35 C dX12_says_35 rfl 3 rfl ?_
    refine am_iadd 36 C dX12_says_36 ?_
    obtain ⟨v9, hv9, E⟩ := am_ltE E
    refine as_nm hv9 ?_
    refine am_dup2 37 C dX12_says_37 rfl rfl ?_
    obtain ⟨g10, E⟩ := am_gdE E
    refine as_iald 38 C dX12_says_38 (by decide) sh_258 g10 ?_
    refine am_iconst 39 (1 : Int32) C dX12_says_39 (by decide) ?_
    refine am_iadd 40 C dX12_says_40 ?_
    obtain ⟨g11, E⟩ := am_gdE E
    obtain ⟨s12, hs12, E⟩ := am_ltE E
    refine as_iast 41 C dX12_says_41 (by decide) sh_258 g11 hs12 ?_
    refine am_aload_n 42 C dX12_says_42 rfl 1 rfl ?_
    refine as_getr 43 C fl_X12_39_11 dX12_says_43 (by decide) sh_248 (rf_248_20 _ _) ?_
    refine am_bipush 46 (nI 123) C dX12_says_46 (by decide) ?_
    refine am_iload_n 48 C dX12_says_48 rfl 3 rfl ?_
    refine am_iadd 49 C dX12_says_49 ?_
    obtain ⟨v13, hv13, E⟩ := am_ltE E
    refine as_nm hv13 ?_
    obtain ⟨g14, E⟩ := am_gdE E
    refine as_iald 50 C dX12_says_50 (by decide) sh_258 g14 ?_
    refine am_iconst 51 (nI 2) C dX12_says_51 (by decide) ?_
    refine am_icmp_ne 52 87 C dX12_says_52 (by decide) (fun c18 => ?_) (fun c18 => ?_)
    · have E := am_ifF E c18
      refine am_iconst 87 (1 : Int32) C dX12_says_87 (by decide) ?_
      replace E := Option.some.inj E
      subst E
      exact as_iret 88 C Z rfl dX12_says_88
    · have E := am_ifT E c18
      refine am_aload_n 55 C dX12_says_55 rfl 1 rfl ?_
      refine as_getr 56 C fl_X12_39_11 dX12_says_56 (by decide) sh_248 (rf_248_20 _ _) ?_
      refine am_bipush 59 (nI 9) C dX12_says_59 (by decide) ?_
      refine as_ialdK 61 9 C dX12_says_61 (by decide) sh_258 (by decide) (by decide) ?_
      refine am_if_ge 62 87 C dX12_says_62 (by decide) (fun c17 => ?_) (fun c17 => ?_)
      · have E := am_ifT E c17
        refine am_iconst 87 (1 : Int32) C dX12_says_87 (by decide) ?_
        replace E := Option.some.inj E
        subst E
        exact as_iret 88 C Z rfl dX12_says_88
      · have E := am_ifF E c17
        refine am_aload_n 65 C dX12_says_65 rfl 1 rfl ?_
        refine as_getr 66 C fl_X12_39_11 dX12_says_66 (by decide) sh_248 (rf_248_20 _ _) ?_
        refine am_bipush 69 (nI 8) C dX12_says_69 (by decide) ?_
        refine am_aload_n 71 C dX12_says_71 rfl 1 rfl ?_
        refine as_getr 72 C fl_X12_39_11 dX12_says_72 (by decide) sh_248 (rf_248_20 _ _) ?_
        refine am_bipush 75 (nI 7) C dX12_says_75 (by decide) ?_
        refine as_ialdK 77 7 C dX12_says_77 (by decide) sh_258 (by decide) (by decide) ?_
        obtain ⟨s15, hs15, E⟩ := am_ltE E
        refine as_iastK 78 8 C dX12_says_78 (by decide) sh_258 (by decide) (by decide) hs15 ?_
        refine am_aload_n 79 C dX12_says_79 rfl 1 rfl ?_
        refine as_getr 80 C fl_X12_39_11 dX12_says_80 (by decide) sh_248 (rf_248_20 _ _) ?_
        refine am_bipush 83 (nI 9) C dX12_says_83 (by decide) ?_
        refine am_iload_n 85 C dX12_says_85 rfl 3 rfl ?_
        obtain ⟨s16, hs16, E⟩ := am_ltE E
        refine as_iastK 86 9 C dX12_says_86 (by decide) sh_258 (by decide) (by decide) hs16 ?_
        refine am_iconst 87 (1 : Int32) C dX12_says_87 (by decide) ?_
        replace E := Option.some.inj E
        subst E
        exact as_iret 88 C Z rfl dX12_says_88
  · have E := am_ifT E c19
    refine am_iconst 27 (0 : Int32) C dX12_says_27 (by decide) ?_
    replace E := Option.some.inj E
    subst E
    exact as_iret 28 C Z rfl dX12_says_28
def f_X12_maySay (p1 : Int32) (p2 : Int32) (p3 : Int32) (p4 : Int32) (s0 : am_S) : Option (Int32) :=
  am_bd (f_X12_isPerson p1 s0) (fun v5 => am_if (v5 = 0) (some (0 : Int32)) (am_bd (f_X12_isPerson p2 s0) (fun v6 => am_if (v6 = 0) (some (0 : Int32)) (am_if (p1 = p2) (some (0 : Int32)) (am_bd (f_X12_streetOf p1 p2 s0) (fun v7 => am_if (v7 < 0) (some (0 : Int32)) (am_bd (f_X12_isFact p3 s0) (fun v8 => am_if (v8 = 0) (some (0 : Int32)) (am_bd (f_X12_in (p4).toInt64 (0 : Int64) (1 : Int64)) (fun v9 => am_if (v9 = 0) (some (0 : Int32)) (some (1 : Int32))))))))))))
set_option maxRecDepth 100000 in
set_option maxHeartbeats 4000000 in
theorem t_X12_maySay (p1 : Int32) (p2 : Int32) (p3 : Int32) (p4 : Int32) (s0 : am_S) {z : Int32} (E : f_X12_maySay p1 p2 p3 p4 s0 = some z) : AS yX12_maySay cX12_maySay 5 (some .boolean) 2 [.ref 248, .int p1, .int p2, .int p3, .int p4] s0 (some (.int z)) s0 := by
  unfold f_X12_maySay at E
  refine as_met (lv := [(0, .ref 248), (1, .int p1), (2, .int p2), (3, .int p3), (4, .int p4)]) (by decide +kernel) (by simp [lg_sl, Value.category]) rfl (fun x C A Z => ?_)
  refine am_aload_n 0 C dX12_maySay_0 rfl 0 rfl ?_
  refine am_iload_n 1 C dX12_maySay_1 rfl 1 rfl ?_
  obtain ⟨v5, Ec, E⟩ := am_bdE E
  refine as_callV 2 (s2 := s0) (st := []) (st2 := [.int v5]) [.int p1] C A (by decide) ml_X12_317 yc_X12_isPerson yv_X12_isPerson (t_X12_isPerson p1 s0 Ec) (by decide) sh_248 rfl rfl (Nat.le_of_ble_eq_true rfl) rfl dX12_maySay_2 ?_
  refine am_if_eq 5 53 C dX12_maySay_5 (by decide) (fun c15 => ?_) (fun c15 => ?_)
  · have E := am_ifT E c15
    refine am_iconst 53 (0 : Int32) C dX12_maySay_53 (by decide) ?_
    replace E := Option.some.inj E
    subst E
    exact as_iret 54 C Z rfl dX12_maySay_54
  · have E := am_ifF E c15
    refine am_aload_n 8 C dX12_maySay_8 rfl 0 rfl ?_
    refine am_iload_n 9 C dX12_maySay_9 rfl 2 rfl ?_
    obtain ⟨v6, Ec, E⟩ := am_bdE E
    refine as_callV 10 (s2 := s0) (st := []) (st2 := [.int v6]) [.int p2] C A (by decide) ml_X12_317 yc_X12_isPerson yv_X12_isPerson (t_X12_isPerson p2 s0 Ec) (by decide) sh_248 rfl rfl (Nat.le_of_ble_eq_true rfl) rfl dX12_maySay_10 ?_
    refine am_if_eq 13 53 C dX12_maySay_13 (by decide) (fun c14 => ?_) (fun c14 => ?_)
    · have E := am_ifT E c14
      refine am_iconst 53 (0 : Int32) C dX12_maySay_53 (by decide) ?_
      replace E := Option.some.inj E
      subst E
      exact as_iret 54 C Z rfl dX12_maySay_54
    · have E := am_ifF E c14
      refine am_iload_n 16 C dX12_maySay_16 rfl 1 rfl ?_
      refine am_iload_n 17 C dX12_maySay_17 rfl 2 rfl ?_
      refine am_icmp_eq 18 53 C dX12_maySay_18 (by decide) (fun c13 => ?_) (fun c13 => ?_)
      · have E := am_ifT E c13
        refine am_iconst 53 (0 : Int32) C dX12_maySay_53 (by decide) ?_
        replace E := Option.some.inj E
        subst E
        exact as_iret 54 C Z rfl dX12_maySay_54
      · have E := am_ifF E c13
        refine am_aload_n 21 C dX12_maySay_21 rfl 0 rfl ?_
        refine am_iload_n 22 C dX12_maySay_22 rfl 1 rfl ?_
        refine am_iload_n 23 C dX12_maySay_23 rfl 2 rfl ?_
        obtain ⟨v7, Ec, E⟩ := am_bdE E
        refine as_callV 24 (s2 := s0) (st := []) (st2 := [.int v7]) [.int p1, .int p2] C A (by decide) ml_X12_299 yc_X12_streetOf yv_X12_streetOf (t_X12_streetOf p1 p2 s0 Ec) (by decide) sh_248 rfl rfl (Nat.le_of_ble_eq_true rfl) rfl dX12_maySay_24 ?_
        refine am_if_lt 27 53 C dX12_maySay_27 (by decide) (fun c12 => ?_) (fun c12 => ?_)
        · have E := am_ifT E c12
          refine am_iconst 53 (0 : Int32) C dX12_maySay_53 (by decide) ?_
          replace E := Option.some.inj E
          subst E
          exact as_iret 54 C Z rfl dX12_maySay_54
        · have E := am_ifF E c12
          refine am_aload_n 30 C dX12_maySay_30 rfl 0 rfl ?_
          refine am_iload_n 31 C dX12_maySay_31 rfl 3 rfl ?_
          obtain ⟨v8, Ec, E⟩ := am_bdE E
          refine as_callV 32 (s2 := s0) (st := []) (st2 := [.int v8]) [.int p3] C A (by decide) ml_X12_320 yc_X12_isFact yv_X12_isFact (t_X12_isFact p3 s0 Ec) (by decide) sh_248 rfl rfl (Nat.le_of_ble_eq_true rfl) rfl dX12_maySay_32 ?_
          refine am_if_eq 35 53 C dX12_maySay_35 (by decide) (fun c11 => ?_) (fun c11 => ?_)
          · have E := am_ifT E c11
            refine am_iconst 53 (0 : Int32) C dX12_maySay_53 (by decide) ?_
            replace E := Option.some.inj E
            subst E
            exact as_iret 54 C Z rfl dX12_maySay_54
          · have E := am_ifF E c11
            refine am_iload 38 C dX12_maySay_38 4 rfl ?_
            refine am_i2l 40 C dX12_maySay_40 ?_
            refine am_lconst 41 (0 : Int64) C dX12_maySay_41 (by decide) ?_
            refine am_lconst 42 (1 : Int64) C dX12_maySay_42 (by decide) ?_
            obtain ⟨v9, Ec, E⟩ := am_bdE E
            refine as_callS 43 (s2 := s0) (st := []) (st2 := [.int v9]) [.long (p4).toInt64, .long (0 : Int64), .long (1 : Int64)] C A (by decide) ml_X12_106 yc_X12_in ys_X12_in (t_X12_in (p4).toInt64 (0 : Int64) (1 : Int64) s0 Ec) rfl rfl (Nat.le_of_ble_eq_true rfl) rfl dX12_maySay_43 ?_
            refine am_if_eq 46 53 C dX12_maySay_46 (by decide) (fun c10 => ?_) (fun c10 => ?_)
            · have E := am_ifT E c10
              refine am_iconst 53 (0 : Int32) C dX12_maySay_53 (by decide) ?_
              replace E := Option.some.inj E
              subst E
              exact as_iret 54 C Z rfl dX12_maySay_54
            · have E := am_ifF E c10
              refine am_iconst 49 (1 : Int32) C dX12_maySay_49 (by decide) ?_
              refine am_goto 50 54 C dX12_maySay_50 (by decide) ?_
              replace E := Option.some.inj E
              subst E
              exact as_iret 54 C Z rfl dX12_maySay_54
def b_X12_keepsAct_54 (v3 : Int32) (s4 : am_S) : Option ((Int32 × am_S) ⊕ (am_S)) :=
  am_if ((nI 130) ≤ v3) (am_lt (as_i s4 248 25 ((s4.1 248 25) + (1 : Int32))) (fun s5 => some (Sum.inr s5))) (am_gd (¬ v3 < 0 ∧ (v3).toNatClampNeg < 328) (am_gd (¬ (((nI 130) * (s4.1 248 25)) + v3) < 0 ∧ ((((nI 130) * (s4.1 248 25)) + v3)).toNatClampNeg < 2600) (am_lt (as_i s4 260 ((((nI 130) * (s4.1 248 25)) + v3)).toNatClampNeg (s4.1 258 (v3).toNatClampNeg)) (fun s8 => am_lt (v3 + (1 : Int32)) (fun v9 => some (Sum.inl (v9, s8)))))))
def j_X12_keepsAct_52 (s1 : am_S) : Option (am_S) :=
  am_lp (fun (q : Int32 × am_S) => b_X12_keepsAct_54 q.1 q.2) am_F ((0 : Int32), s1)
def j_X12_keepsAct_42 (s11 : am_S) : Option (am_S) :=
  am_lt (as_i s11 248 25 ((s11.1 248 25) - (1 : Int32))) (fun s12 => j_X12_keepsAct_52 s12)
def b_X12_keepsAct_13 (v14 : Int32) (s15 : am_S) : Option ((Int32 × am_S) ⊕ (am_S)) :=
  am_if ((nI 2600) ≤ v14) (am_bd (j_X12_keepsAct_42 s15) (fun e16 => some (Sum.inr e16))) (am_gd (¬ v14 < 0 ∧ (v14).toNatClampNeg < 2600) (am_gd (¬ (v14 - (nI 130)) < 0 ∧ ((v14 - (nI 130))).toNatClampNeg < 2600) (am_lt (as_i s15 260 ((v14 - (nI 130))).toNatClampNeg (s15.1 260 (v14).toNatClampNeg)) (fun s19 => am_lt (v14 + (1 : Int32)) (fun v20 => some (Sum.inl (v20, s19)))))))
def f_X12_keepsAct  (s0 : am_S) : Option (am_S) :=
  am_if ((s0.1 248 25) = (nI 20)) (am_lp (fun (q : Int32 × am_S) => b_X12_keepsAct_13 q.1 q.2) am_F ((nI 130), s0)) (j_X12_keepsAct_52 s0)
set_option maxRecDepth 100000 in
set_option maxHeartbeats 4000000 in
theorem t_X12_keepsAct (s0 : am_S) {z : am_S} (E : f_X12_keepsAct  s0 = some z) : AS yX12_keepsAct cX12_keepsAct 2 none 1 [.ref 248] s0 none z := by
  unfold f_X12_keepsAct at E
  refine as_met (lv := [(0, .ref 248)]) (by decide +kernel) (by simp [lg_sl, Value.category]) rfl (fun x C A Z => ?_)
  have K52 : ∀ (s1 : am_S), j_X12_keepsAct_52 s1 = some z → AX x 0 0 52 [(0, .ref 248)] [] am_N (am_h s1) := by
    intro s1 E
    unfold j_X12_keepsAct_52 at E
    refine am_iconst 52 (0 : Int32) C dX12_keepsAct_52 (by decide) ?_
    refine am_istore_n 53 (lv2 := [(1, .int (0 : Int32)), (0, .ref 248)]) C dX12_keepsAct_53 rfl (by decide) rfl ?_
    have LP2 : ∀ (n : Nat) (v3 : Int32) (s4 : am_S), am_lp (fun (q : Int32 × am_S) => b_X12_keepsAct_54 q.1 q.2) n (v3, s4) = some z → AX x 0 0 54 [(0, .ref 248), (1, .int v3)] [] am_N (am_h s4) := by
      intro n
      induction n with
      | zero => intro v3 s4 E; exact (am_lp0 E).elim
      | succ n ih2 =>
        intro v3 s4 E
        obtain ⟨r2, E, Er2⟩ := am_lpE E
        replace E : b_X12_keepsAct_54 v3 s4 = some r2 := E
        unfold b_X12_keepsAct_54 at E
        refine am_iload_n 54 C dX12_keepsAct_54 rfl 1 rfl ?_
        refine am_sipush 55 (nI 130) C dX12_keepsAct_55 (by decide) ?_
        refine am_icmp_ge 58 88 C dX12_keepsAct_58 (by decide) (fun c10 => ?_) (fun c10 => ?_)
        · have E := am_ifT E c10
          refine am_aload_n 88 C dX12_keepsAct_88 rfl 0 rfl ?_
          refine am_dup 89 C dX12_keepsAct_89 rfl ?_
          refine as_geti 90 C fl_X12_281_11 dX12_keepsAct_90 (by decide) sh_248 ?_
          refine am_iconst 93 (1 : Int32) C dX12_keepsAct_93 (by decide) ?_
          refine am_iadd 94 C dX12_keepsAct_94 ?_
          obtain ⟨s5, hs5, E⟩ := am_ltE E
          refine as_puti 95 C fl_X12_281_11 dX12_keepsAct_95 (by decide) sh_248 rfl rfl hs5 ?_
          replace E := Option.some.inj E
          replace E := am_exR E Er2
          subst E
          exact as_vret 98 C Z dX12_keepsAct_98
        · have E := am_ifF E c10
          refine am_aload_n 61 C dX12_keepsAct_61 rfl 0 rfl ?_
          refine as_getr 62 C fl_X12_49_11 dX12_keepsAct_62 (by decide) sh_248 (rf_248_24 _ _) ?_
          refine am_sipush 65 (nI 130) C dX12_keepsAct_65 (by decide) ?_
          refine am_aload_n 68 C dX12_keepsAct_68 rfl 0 rfl ?_
          refine as_geti 69 C fl_X12_281_11 dX12_keepsAct_69 (by decide) sh_248 ?_
          refine am_imul 72 C dX12_keepsAct_72 ?_
          refine am_iload_n 73 C dX12_keepsAct_73 rfl 1 rfl ?_
          refine am_iadd 74 C dX12_keepsAct_74 ?_
          refine am_aload_n 75 C dX12_keepsAct_75 rfl 0 rfl ?_
          refine as_getr 76 C fl_X12_39_11 dX12_keepsAct_76 (by decide) sh_248 (rf_248_20 _ _) ?_
          refine am_iload_n 79 C dX12_keepsAct_79 rfl 1 rfl ?_
          obtain ⟨g6, E⟩ := am_gdE E
          refine as_iald 80 C dX12_keepsAct_80 (by decide) sh_258 g6 ?_
          obtain ⟨g7, E⟩ := am_gdE E
          obtain ⟨s8, hs8, E⟩ := am_ltE E
          refine as_iast 81 C dX12_keepsAct_81 (by decide) sh_260 g7 hs8 ?_
          obtain ⟨v9, hv9, E⟩ := am_ltE E
          refine as_iinc 82 (q := (1 : Int32)) (lv2 := [(1, .int v9), (0, .ref 248)]) C dX12_keepsAct_82 1 rfl (by decide) hv9 (by decide) rfl ?_
          refine am_goto 85 54 C dX12_keepsAct_85 (by decide) ?_
          replace E := Option.some.inj E
          replace E := am_exL E Er2
          refine am_lvs [1, 0] rfl ?_
          exact ih2 _ _ E
    refine am_lvs [1, 0] rfl ?_
    exact LP2 am_F _ _ E
  have K42 : ∀ (s11 : am_S), j_X12_keepsAct_42 s11 = some z → AX x 0 0 42 [(0, .ref 248)] [] am_N (am_h s11) := by
    intro s11 E
    unfold j_X12_keepsAct_42 at E
    refine am_aload_n 42 C dX12_keepsAct_42 rfl 0 rfl ?_
    refine am_dup 43 C dX12_keepsAct_43 rfl ?_
    refine as_geti 44 C fl_X12_281_11 dX12_keepsAct_44 (by decide) sh_248 ?_
    refine am_iconst 47 (1 : Int32) C dX12_keepsAct_47 (by decide) ?_
    refine am_isub 48 C dX12_keepsAct_48 ?_
    obtain ⟨s12, hs12, E⟩ := am_ltE E
    refine as_puti 49 C fl_X12_281_11 dX12_keepsAct_49 (by decide) sh_248 rfl rfl hs12 ?_
    refine am_lvs [0] rfl ?_
    exact K52 _ E
  refine am_aload_n 0 C dX12_keepsAct_0 rfl 0 rfl ?_
  refine as_geti 1 C fl_X12_281_11 dX12_keepsAct_1 (by decide) sh_248 ?_
  refine am_bipush 4 (nI 20) C dX12_keepsAct_4 (by decide) ?_
  refine am_icmp_ne 6 52 C dX12_keepsAct_6 (by decide) (fun c22 => ?_) (fun c22 => ?_)
  · have E := am_ifF E c22
    refine am_lvs [0] rfl ?_
    exact K52 _ E
  · have E := am_ifT E c22
    refine am_sipush 9 (nI 130) C dX12_keepsAct_9 (by decide) ?_
    refine am_istore_n 12 (lv2 := [(1, .int (nI 130)), (0, .ref 248)]) C dX12_keepsAct_12 rfl (by decide) rfl ?_
    have LP13 : ∀ (n : Nat) (v14 : Int32) (s15 : am_S), am_lp (fun (q : Int32 × am_S) => b_X12_keepsAct_13 q.1 q.2) n (v14, s15) = some z → AX x 0 0 13 [(0, .ref 248), (1, .int v14)] [] am_N (am_h s15) := by
      intro n
      induction n with
      | zero => intro v14 s15 E; exact (am_lp0 E).elim
      | succ n ih13 =>
        intro v14 s15 E
        obtain ⟨r13, E, Er13⟩ := am_lpE E
        replace E : b_X12_keepsAct_13 v14 s15 = some r13 := E
        unfold b_X12_keepsAct_13 at E
        refine am_iload_n 13 C dX12_keepsAct_13 rfl 1 rfl ?_
        refine am_sipush 14 (nI 2600) C dX12_keepsAct_14 (by decide) ?_
        refine am_icmp_ge 17 42 C dX12_keepsAct_17 (by decide) (fun c21 => ?_) (fun c21 => ?_)
        · have E := am_ifT E c21
          obtain ⟨e16, E, E2⟩ := am_bdE E
          replace E2 := Option.some.inj E2
          replace E2 := am_exR E2 Er13
          rw [E2] at E
          refine am_lvs [0] rfl ?_
          exact K42 _ E
        · have E := am_ifF E c21
          refine am_aload_n 20 C dX12_keepsAct_20 rfl 0 rfl ?_
          refine as_getr 21 C fl_X12_49_11 dX12_keepsAct_21 (by decide) sh_248 (rf_248_24 _ _) ?_
          refine am_iload_n 24 C dX12_keepsAct_24 rfl 1 rfl ?_
          refine am_sipush 25 (nI 130) C dX12_keepsAct_25 (by decide) ?_
          refine am_isub 28 C dX12_keepsAct_28 ?_
          refine am_aload_n 29 C dX12_keepsAct_29 rfl 0 rfl ?_
          refine as_getr 30 C fl_X12_49_11 dX12_keepsAct_30 (by decide) sh_248 (rf_248_24 _ _) ?_
          refine am_iload_n 33 C dX12_keepsAct_33 rfl 1 rfl ?_
          obtain ⟨g17, E⟩ := am_gdE E
          refine as_iald 34 C dX12_keepsAct_34 (by decide) sh_260 g17 ?_
          obtain ⟨g18, E⟩ := am_gdE E
          obtain ⟨s19, hs19, E⟩ := am_ltE E
          refine as_iast 35 C dX12_keepsAct_35 (by decide) sh_260 g18 hs19 ?_
          obtain ⟨v20, hv20, E⟩ := am_ltE E
          refine as_iinc 36 (q := (1 : Int32)) (lv2 := [(1, .int v20), (0, .ref 248)]) C dX12_keepsAct_36 1 rfl (by decide) hv20 (by decide) rfl ?_
          refine am_goto 39 13 C dX12_keepsAct_39 (by decide) ?_
          replace E := Option.some.inj E
          replace E := am_exL E Er13
          refine am_lvs [1, 0] rfl ?_
          exact ih13 _ _ E
    refine am_lvs [1, 0] rfl ?_
    exact LP13 am_F _ _ E
def b_X12_undo_21 (v3 : Int32) (s4 : am_S) : Option ((Int32 × am_S) ⊕ (Int32 × am_S)) :=
  am_if ((nI 130) ≤ v3) (some (Sum.inr ((s4.1 248 25), s4))) (am_lt (((nI 130) * (s4.1 248 25)) + v3) (fun v5 => am_gd (¬ v5 < 0 ∧ (v5).toNatClampNeg < 2600) (am_gd (¬ v3 < 0 ∧ (v3).toNatClampNeg < 328) (am_lt (as_i s4 258 (v3).toNatClampNeg (s4.1 260 (v5).toNatClampNeg)) (fun s8 => am_lt (v3 + (1 : Int32)) (fun v9 => some (Sum.inl (v9, s8))))))))
def f_X12_undo  (s0 : am_S) : Option (Int32 × am_S) :=
  am_if ((s0.1 248 25) = 0) (some ((-1 : Int32), s0)) (am_lt (as_i s0 248 25 ((s0.1 248 25) - (1 : Int32))) (fun s1 => am_lp (fun (q : Int32 × am_S) => b_X12_undo_21 q.1 q.2) am_F ((0 : Int32), s1)))
set_option maxRecDepth 100000 in
set_option maxHeartbeats 4000000 in
theorem t_X12_undo (s0 : am_S) {z : Int32 × am_S} (E : f_X12_undo  s0 = some z) : AS yX12_undo cX12_undo 2 (some .int) 1 [.ref 248] s0 (some (.int z.1)) z.2 := by
  unfold f_X12_undo at E
  refine as_met (lv := [(0, .ref 248)]) (by decide +kernel) (by simp [lg_sl, Value.category]) rfl (fun x C A Z => ?_)
  refine am_aload_n 0 C dX12_undo_0 rfl 0 rfl ?_
  refine as_geti 1 C fl_X12_281_11 dX12_undo_1 (by decide) sh_248 ?_
  refine am_if_ne 4 9 C dX12_undo_4 (by decide) (fun c11 => ?_) (fun c11 => ?_)
  · have E := am_ifF E c11
    refine am_aload_n 9 C dX12_undo_9 rfl 0 rfl ?_
    refine am_dup 10 C dX12_undo_10 rfl ?_
    refine as_geti 11 C fl_X12_281_11 dX12_undo_11 (by decide) sh_248 ?_
    refine am_iconst 14 (1 : Int32) C dX12_undo_14 (by decide) ?_
    refine am_isub 15 C dX12_undo_15 ?_
    obtain ⟨s1, hs1, E⟩ := am_ltE E
    refine as_puti 16 C fl_X12_281_11 dX12_undo_16 (by decide) sh_248 rfl rfl hs1 ?_
    refine am_iconst 19 (0 : Int32) C dX12_undo_19 (by decide) ?_
    refine am_istore_n 20 (lv2 := [(1, .int (0 : Int32)), (0, .ref 248)]) C dX12_undo_20 rfl (by decide) rfl ?_
    have LP2 : ∀ (n : Nat) (v3 : Int32) (s4 : am_S), am_lp (fun (q : Int32 × am_S) => b_X12_undo_21 q.1 q.2) n (v3, s4) = some z → AX x 0 0 21 [(0, .ref 248), (1, .int v3)] [] am_N (am_h s4) := by
      intro n
      induction n with
      | zero => intro v3 s4 E; exact (am_lp0 E).elim
      | succ n ih2 =>
        intro v3 s4 E
        obtain ⟨r2, E, Er2⟩ := am_lpE E
        replace E : b_X12_undo_21 v3 s4 = some r2 := E
        unfold b_X12_undo_21 at E
        refine am_iload_n 21 C dX12_undo_21 rfl 1 rfl ?_
        refine am_sipush 22 (nI 130) C dX12_undo_22 (by decide) ?_
        refine am_icmp_ge 25 55 C dX12_undo_25 (by decide) (fun c10 => ?_) (fun c10 => ?_)
        · have E := am_ifT E c10
          refine am_aload_n 55 C dX12_undo_55 rfl 0 rfl ?_
          refine as_geti 56 C fl_X12_281_11 dX12_undo_56 (by decide) sh_248 ?_
          replace E := Option.some.inj E
          replace E := am_exR E Er2
          subst E
          exact as_iret 59 C Z rfl dX12_undo_59
        · have E := am_ifF E c10
          refine am_aload_n 28 C dX12_undo_28 rfl 0 rfl ?_
          refine as_getr 29 C fl_X12_39_11 dX12_undo_29 (by decide) sh_248 (rf_248_20 _ _) ?_
          refine am_iload_n 32 C dX12_undo_32 rfl 1 rfl ?_
          refine am_aload_n 33 C dX12_undo_33 rfl 0 rfl ?_
          refine as_getr 34 C fl_X12_49_11 dX12_undo_34 (by decide) sh_248 (rf_248_24 _ _) ?_
          refine am_sipush 37 (nI 130) C dX12_undo_37 (by decide) ?_
          refine am_aload_n 40 C dX12_undo_40 rfl 0 rfl ?_
          refine as_geti 41 C fl_X12_281_11 dX12_undo_41 (by decide) sh_248 ?_
          refine am_imul 44 C dX12_undo_44 ?_
          refine am_iload_n 45 C dX12_undo_45 rfl 1 rfl ?_
          refine am_iadd 46 C dX12_undo_46 ?_
          obtain ⟨v5, hv5, E⟩ := am_ltE E
          refine as_nm hv5 ?_
          obtain ⟨g6, E⟩ := am_gdE E
          refine as_iald 47 C dX12_undo_47 (by decide) sh_260 g6 ?_
          obtain ⟨g7, E⟩ := am_gdE E
          obtain ⟨s8, hs8, E⟩ := am_ltE E
          refine as_iast 48 C dX12_undo_48 (by decide) sh_258 g7 hs8 ?_
          obtain ⟨v9, hv9, E⟩ := am_ltE E
          refine as_iinc 49 (q := (1 : Int32)) (lv2 := [(1, .int v9), (0, .ref 248)]) C dX12_undo_49 1 rfl (by decide) hv9 (by decide) rfl ?_
          refine am_goto 52 21 C dX12_undo_52 (by decide) ?_
          replace E := Option.some.inj E
          replace E := am_exL E Er2
          refine am_lvs [1, 0] rfl ?_
          exact ih2 _ _ E
    refine am_lvs [1, 0] rfl ?_
    exact LP2 am_F _ _ E
  · have E := am_ifT E c11
    refine am_iconst 7 (-1 : Int32) C dX12_undo_7 (by decide) ?_
    replace E := Option.some.inj E
    subst E
    exact as_iret 8 C Z rfl dX12_undo_8
def f_X12_say (p1 : Int32) (p2 : Int32) (p3 : Int32) (p4 : Int32) (s0 : am_S) : Option (Int32 × am_S) :=
  am_bd (f_X12_maySay p1 p2 p3 p4 s0) (fun v5 => am_if (v5 = 0) (some ((-1 : Int32), s0)) (am_bd (f_X12_keepsAct s0) (fun s6 => am_b2 (f_X12_says p1 p2 p3 p4 (0 : Int32) s6) (fun v7 s8 => some (v7, s8)))))
set_option maxRecDepth 100000 in
set_option maxHeartbeats 4000000 in
theorem t_X12_say (p1 : Int32) (p2 : Int32) (p3 : Int32) (p4 : Int32) (s0 : am_S) {z : Int32 × am_S} (E : f_X12_say p1 p2 p3 p4 s0 = some z) : AS yX12_say cX12_say 5 (some .int) 7 [.ref 248, .int p1, .int p2, .int p3, .int p4] s0 (some (.int z.1)) z.2 := by
  unfold f_X12_say at E
  refine as_met (lv := [(0, .ref 248), (1, .int p1), (2, .int p2), (3, .int p3), (4, .int p4)]) (by decide +kernel) (by simp [lg_sl, Value.category]) rfl (fun x C A Z => ?_)
  refine am_aload_n 0 C dX12_say_0 rfl 0 rfl ?_
  refine am_iload_n 1 C dX12_say_1 rfl 1 rfl ?_
  refine am_iload_n 2 C dX12_say_2 rfl 2 rfl ?_
  refine am_iload_n 3 C dX12_say_3 rfl 3 rfl ?_
  refine am_iload 4 C dX12_say_4 4 rfl ?_
  obtain ⟨v5, Ec, E⟩ := am_bdE E
  refine as_callV 6 (s2 := s0) (st := []) (st2 := [.int v5]) [.int p1, .int p2, .int p3, .int p4] C A (by decide) ml_X12_370 yc_X12_maySay yv_X12_maySay (t_X12_maySay p1 p2 p3 p4 s0 Ec) (by decide) sh_248 rfl rfl (Nat.le_of_ble_eq_true rfl) rfl dX12_say_6 ?_
  refine am_if_ne 9 14 C dX12_say_9 (by decide) (fun c9 => ?_) (fun c9 => ?_)
  · have E := am_ifF E c9
    refine am_aload_n 14 C dX12_say_14 rfl 0 rfl ?_
    obtain ⟨s6, Ec, E⟩ := am_bdE E
    refine as_callV 15 (s2 := s6) (st := []) (st2 := []) [] C A (by decide) ml_X12_374 yc_X12_keepsAct yv_X12_keepsAct (t_X12_keepsAct  s0 Ec) (by decide) sh_248 rfl rfl (Nat.le_of_ble_eq_true rfl) rfl dX12_say_15 ?_
    refine am_aload_n 18 C dX12_say_18 rfl 0 rfl ?_
    refine am_iload_n 19 C dX12_say_19 rfl 1 rfl ?_
    refine am_iload_n 20 C dX12_say_20 rfl 2 rfl ?_
    refine am_iload_n 21 C dX12_say_21 rfl 3 rfl ?_
    refine am_iload 22 C dX12_say_22 4 rfl ?_
    refine am_iconst 24 (0 : Int32) C dX12_say_24 (by decide) ?_
    obtain ⟨v7, s8, Ec, E⟩ := am_b2E E
    refine as_callV 25 (s2 := s8) (st := []) (st2 := [.int v7]) [.int p1, .int p2, .int p3, .int p4, .int (0 : Int32)] C A (by decide) ml_X12_377 yc_X12_says yv_X12_says (t_X12_says p1 p2 p3 p4 (0 : Int32) s6 Ec) (by decide) sh_248 rfl rfl (Nat.le_of_ble_eq_true rfl) rfl dX12_say_25 ?_
    replace E := Option.some.inj E
    subst E
    exact as_iret 28 C Z rfl dX12_say_28
  · have E := am_ifT E c9
    refine am_iconst 12 (-1 : Int32) C dX12_say_12 (by decide) ?_
    replace E := Option.some.inj E
    subst E
    exact as_iret 13 C Z rfl dX12_say_13
def f_X12_would (p1 : Int32) (p2 : Int32) (p3 : Int32) (p4 : Int32) (s0 : am_S) : Option (Int32 × am_S) :=
  am_bd (f_X12_maySay p1 p2 p3 p4 s0) (fun v5 => am_if (v5 = 0) (some ((-1 : Int32), s0)) (am_b2 (f_X12_isLie p1 p2 p3 p4 (0 : Int32) s0) (fun v6 s7 => am_if (v6 = 0) (some ((0 : Int32), s7)) (some ((1 : Int32), s7)))))
set_option maxRecDepth 100000 in
set_option maxHeartbeats 4000000 in
theorem t_X12_would (p1 : Int32) (p2 : Int32) (p3 : Int32) (p4 : Int32) (s0 : am_S) {z : Int32 × am_S} (E : f_X12_would p1 p2 p3 p4 s0 = some z) : AS yX12_would cX12_would 5 (some .int) 6 [.ref 248, .int p1, .int p2, .int p3, .int p4] s0 (some (.int z.1)) z.2 := by
  unfold f_X12_would at E
  refine as_met (lv := [(0, .ref 248), (1, .int p1), (2, .int p2), (3, .int p3), (4, .int p4)]) (by decide +kernel) (by simp [lg_sl, Value.category]) rfl (fun x C A Z => ?_)
  refine am_aload_n 0 C dX12_would_0 rfl 0 rfl ?_
  refine am_iload_n 1 C dX12_would_1 rfl 1 rfl ?_
  refine am_iload_n 2 C dX12_would_2 rfl 2 rfl ?_
  refine am_iload_n 3 C dX12_would_3 rfl 3 rfl ?_
  refine am_iload 4 C dX12_would_4 4 rfl ?_
  obtain ⟨v5, Ec, E⟩ := am_bdE E
  refine as_callV 6 (s2 := s0) (st := []) (st2 := [.int v5]) [.int p1, .int p2, .int p3, .int p4] C A (by decide) ml_X12_370 yc_X12_maySay yv_X12_maySay (t_X12_maySay p1 p2 p3 p4 s0 Ec) (by decide) sh_248 rfl rfl (Nat.le_of_ble_eq_true rfl) rfl dX12_would_6 ?_
  refine am_if_ne 9 16 C dX12_would_9 (by decide) (fun c9 => ?_) (fun c9 => ?_)
  · have E := am_ifF E c9
    refine am_aload_n 16 C dX12_would_16 rfl 0 rfl ?_
    refine am_iload_n 17 C dX12_would_17 rfl 1 rfl ?_
    refine am_iload_n 18 C dX12_would_18 rfl 2 rfl ?_
    refine am_iload_n 19 C dX12_would_19 rfl 3 rfl ?_
    refine am_iload 20 C dX12_would_20 4 rfl ?_
    refine am_iconst 22 (0 : Int32) C dX12_would_22 (by decide) ?_
    obtain ⟨v6, s7, Ec, E⟩ := am_b2E E
    refine as_callV 23 (s2 := s7) (st := []) (st2 := [.int v6]) [.int p1, .int p2, .int p3, .int p4, .int (0 : Int32)] C A (by decide) ml_X12_363 yc_X12_isLie yv_X12_isLie (t_X12_isLie p1 p2 p3 p4 (0 : Int32) s0 Ec) (by decide) sh_248 rfl rfl (Nat.le_of_ble_eq_true rfl) rfl dX12_would_23 ?_
    refine am_if_eq 26 33 C dX12_would_26 (by decide) (fun c8 => ?_) (fun c8 => ?_)
    · have E := am_ifT E c8
      refine am_iconst 33 (0 : Int32) C dX12_would_33 (by decide) ?_
      replace E := Option.some.inj E
      subst E
      exact as_iret 34 C Z rfl dX12_would_34
    · have E := am_ifF E c8
      refine am_iconst 29 (1 : Int32) C dX12_would_29 (by decide) ?_
      refine am_goto 30 34 C dX12_would_30 (by decide) ?_
      replace E := Option.some.inj E
      subst E
      exact as_iret 34 C Z rfl dX12_would_34
  · have E := am_ifT E c9
    refine am_iconst 12 (-1 : Int32) C dX12_would_12 (by decide) ?_
    refine am_goto 13 34 C dX12_would_13 (by decide) ?_
    replace E := Option.some.inj E
    subst E
    exact as_iret 34 C Z rfl dX12_would_34
def b_X12_passesOn_5 (p1 : Int32) (p2 : Int32) (v4 : Int32) (v5 : Int32) (s6 : am_S) : Option ((Int32 × Int32 × am_S) ⊕ (Int32 × am_S)) :=
  am_if ((s6.1 258 0) ≤ v5) (some (Sum.inr (v4, s6))) (am_bd (f_X12_holdOf p1 v5 s6) (fun v7 => am_if (v7 = (nI 2)) (am_lt (v5 + (1 : Int32)) (fun v8 => some (Sum.inl (v4, v8, s6)))) (am_bd (f_X12_holdOf p2 v5 s6) (fun v9 => am_if (v7 = v9) (am_lt (v5 + (1 : Int32)) (fun v10 => some (Sum.inl (v4, v10, s6)))) (am_b2 (f_X12_says p1 p2 v5 v7 (1 : Int32) s6) (fun v11 s12 => am_lt (v4 + v11) (fun v13 => am_lt (v5 + (1 : Int32)) (fun v14 => some (Sum.inl (v13, v14, s12))))))))))
def f_X12_passesOn (p1 : Int32) (p2 : Int32) (s0 : am_S) : Option (Int32 × am_S) :=
  am_lp (fun (q : Int32 × Int32 × am_S) => b_X12_passesOn_5 p1 p2 q.1 q.2.1 q.2.2) am_F ((0 : Int32), (0 : Int32), s0)
set_option maxRecDepth 100000 in
set_option maxHeartbeats 4000000 in
theorem t_X12_passesOn (p1 : Int32) (p2 : Int32) (s0 : am_S) {z : Int32 × am_S} (E : f_X12_passesOn p1 p2 s0 = some z) : AS yX12_passesOn cX12_passesOn 6 (some .int) 7 [.ref 248, .int p1, .int p2] s0 (some (.int z.1)) z.2 := by
  unfold f_X12_passesOn at E
  refine as_met (lv := [(0, .ref 248), (1, .int p1), (2, .int p2)]) (by decide +kernel) (by simp [lg_sl, Value.category]) rfl (fun x C A Z => ?_)
  refine am_iconst 0 (0 : Int32) C dX12_passesOn_0 (by decide) ?_
  refine am_istore_n 1 (lv2 := [(3, .int (0 : Int32)), (0, .ref 248), (1, .int p1), (2, .int p2)]) C dX12_passesOn_1 rfl (by decide) rfl ?_
  refine am_iconst 2 (0 : Int32) C dX12_passesOn_2 (by decide) ?_
  refine am_istore 3 (lv2 := [(4, .int (0 : Int32)), (3, .int (0 : Int32)), (0, .ref 248), (1, .int p1), (2, .int p2)]) C dX12_passesOn_3 (by decide) rfl ?_
  have LP3 : ∀ (n : Nat) (v4 : Int32) (v5 : Int32) (s6 : am_S), am_lp (fun (q : Int32 × Int32 × am_S) => b_X12_passesOn_5 p1 p2 q.1 q.2.1 q.2.2) n (v4, v5, s6) = some z → AX x 0 0 5 [(0, .ref 248), (1, .int p1), (2, .int p2), (3, .int v4), (4, .int v5)] [] am_N (am_h s6) := by
    intro n
    induction n with
    | zero => intro v4 v5 s6 E; exact (am_lp0 E).elim
    | succ n ih3 =>
      intro v4 v5 s6 E
      obtain ⟨r3, E, Er3⟩ := am_lpE E
      replace E : b_X12_passesOn_5 p1 p2 v4 v5 s6 = some r3 := E
      unfold b_X12_passesOn_5 at E
      refine am_iload 5 C dX12_passesOn_5 4 rfl ?_
      refine am_aload_n 7 C dX12_passesOn_7 rfl 0 rfl ?_
      refine as_getr 8 C fl_X12_39_11 dX12_passesOn_8 (by decide) sh_248 (rf_248_20 _ _) ?_
      refine am_iconst 11 (0 : Int32) C dX12_passesOn_11 (by decide) ?_
      refine as_ialdK 12 0 C dX12_passesOn_12 (by decide) sh_258 (by decide) (by decide) ?_
      refine am_icmp_ge 13 63 C dX12_passesOn_13 (by decide) (fun c17 => ?_) (fun c17 => ?_)
      · have E := am_ifT E c17
        refine am_iload_n 63 C dX12_passesOn_63 rfl 3 rfl ?_
        replace E := Option.some.inj E
        replace E := am_exR E Er3
        subst E
        exact as_iret 64 C Z rfl dX12_passesOn_64
      · have E := am_ifF E c17
        refine am_aload_n 16 C dX12_passesOn_16 rfl 0 rfl ?_
        refine am_iload_n 17 C dX12_passesOn_17 rfl 1 rfl ?_
        refine am_iload 18 C dX12_passesOn_18 4 rfl ?_
        obtain ⟨v7, Ec, E⟩ := am_bdE E
        refine as_callV 20 (s2 := s6) (st := []) (st2 := [.int v7]) [.int p1, .int v5] C A (by decide) ml_X12_305 yc_X12_holdOf yv_X12_holdOf (t_X12_holdOf p1 v5 s6 Ec) (by decide) sh_248 rfl rfl (Nat.le_of_ble_eq_true rfl) rfl dX12_passesOn_20 ?_
        refine am_istore 23 (lv2 := [(5, .int v7), (0, .ref 248), (1, .int p1), (2, .int p2), (3, .int v4), (4, .int v5)]) C dX12_passesOn_23 (by decide) rfl ?_
        refine am_iload 25 C dX12_passesOn_25 0 rfl ?_
        refine am_iconst 27 (nI 2) C dX12_passesOn_27 (by decide) ?_
        refine am_icmp_eq 28 57 C dX12_passesOn_28 (by decide) (fun c16 => ?_) (fun c16 => ?_)
        · have E := am_ifT E c16
          obtain ⟨v8, hv8, E⟩ := am_ltE E
          refine as_iinc 57 (q := (1 : Int32)) (lv2 := [(4, .int v8), (5, .int v7), (0, .ref 248), (1, .int p1), (2, .int p2), (3, .int v4)]) C dX12_passesOn_57 5 rfl (by decide) hv8 (by decide) rfl ?_
          refine am_goto 60 5 C dX12_passesOn_60 (by decide) ?_
          replace E := Option.some.inj E
          replace E := am_exL E Er3
          refine am_lvs [2, 3, 4, 5, 0] rfl ?_
          exact ih3 _ _ _ E
        · have E := am_ifF E c16
          refine am_iload 31 C dX12_passesOn_31 0 rfl ?_
          refine am_aload_n 33 C dX12_passesOn_33 rfl 1 rfl ?_
          refine am_iload_n 34 C dX12_passesOn_34 rfl 3 rfl ?_
          refine am_iload 35 C dX12_passesOn_35 5 rfl ?_
          obtain ⟨v9, Ec, E⟩ := am_bdE E
          refine as_callV 37 (s2 := s6) (st := [.int v7]) (st2 := [.int v9, .int v7]) [.int p2, .int v5] C A (by decide) ml_X12_305 yc_X12_holdOf yv_X12_holdOf (t_X12_holdOf p2 v5 s6 Ec) (by decide) sh_248 rfl rfl (Nat.le_of_ble_eq_true rfl) rfl dX12_passesOn_37 ?_
          refine am_icmp_eq 40 57 C dX12_passesOn_40 (by decide) (fun c15 => ?_) (fun c15 => ?_)
          · have E := am_ifT E c15
            obtain ⟨v10, hv10, E⟩ := am_ltE E
            refine as_iinc 57 (q := (1 : Int32)) (lv2 := [(4, .int v10), (5, .int v7), (0, .ref 248), (1, .int p1), (2, .int p2), (3, .int v4)]) C dX12_passesOn_57 5 rfl (by decide) hv10 (by decide) rfl ?_
            refine am_goto 60 5 C dX12_passesOn_60 (by decide) ?_
            replace E := Option.some.inj E
            replace E := am_exL E Er3
            refine am_lvs [2, 3, 4, 5, 0] rfl ?_
            exact ih3 _ _ _ E
          · have E := am_ifF E c15
            refine am_iload_n 43 C dX12_passesOn_43 rfl 4 rfl ?_
            refine am_aload_n 44 C dX12_passesOn_44 rfl 1 rfl ?_
            refine am_iload_n 45 C dX12_passesOn_45 rfl 2 rfl ?_
            refine am_iload_n 46 C dX12_passesOn_46 rfl 3 rfl ?_
            refine am_iload 47 C dX12_passesOn_47 5 rfl ?_
            refine am_iload 49 C dX12_passesOn_49 0 rfl ?_
            refine am_iconst 51 (1 : Int32) C dX12_passesOn_51 (by decide) ?_
            obtain ⟨v11, s12, Ec, E⟩ := am_b2E E
            refine as_callV 52 (s2 := s12) (st := [.int v4]) (st2 := [.int v11, .int v4]) [.int p1, .int p2, .int v5, .int v7, .int (1 : Int32)] C A (by decide) ml_X12_377 yc_X12_says yv_X12_says (t_X12_says p1 p2 v5 v7 (1 : Int32) s6 Ec) (by decide) sh_248 rfl rfl (Nat.le_of_ble_eq_true rfl) rfl dX12_passesOn_52 ?_
            refine am_iadd 55 C dX12_passesOn_55 ?_
            obtain ⟨v13, hv13, E⟩ := am_ltE E
            refine as_nm hv13 ?_
            refine am_istore_n 56 (lv2 := [(3, .int v13), (5, .int v7), (0, .ref 248), (1, .int p1), (2, .int p2), (4, .int v5)]) C dX12_passesOn_56 rfl (by decide) rfl ?_
            obtain ⟨v14, hv14, E⟩ := am_ltE E
            refine as_iinc 57 (q := (1 : Int32)) (lv2 := [(4, .int v14), (3, .int v13), (5, .int v7), (0, .ref 248), (1, .int p1), (2, .int p2)]) C dX12_passesOn_57 5 rfl (by decide) hv14 (by decide) rfl ?_
            refine am_goto 60 5 C dX12_passesOn_60 (by decide) ?_
            replace E := Option.some.inj E
            replace E := am_exL E Er3
            refine am_lvs [3, 4, 5, 1, 0] rfl ?_
            exact ih3 _ _ _ E
  refine am_lvs [2, 3, 4, 1, 0] rfl ?_
  exact LP3 am_F _ _ _ E
def j_X12_meet_57 (v3 : Int32) (v4 : Int32) (s5 : am_S) : Option (Int32 × am_S) :=
  am_b2 (f_X12_passesOn v4 v3 s5) (fun v6 s7 => am_b2 (f_X12_passesOn v3 v4 s7) (fun v8 s9 => some ((v6 + v8), s9)))
def j_X12_meet_46 (p1 : Int32) (p2 : Int32) (v10 : Int32) (s11 : am_S) : Option (Int32 × am_S) :=
  am_if (p2 ≤ p1) (j_X12_meet_57 p1 v10 s11) (j_X12_meet_57 p2 v10 s11)
def f_X12_meet (p1 : Int32) (p2 : Int32) (s0 : am_S) : Option (Int32 × am_S) :=
  am_bd (f_X12_isPerson p1 s0) (fun v13 => am_if (v13 = 0) (some ((-1 : Int32), s0)) (am_bd (f_X12_isPerson p2 s0) (fun v14 => am_if (v14 = 0) (some ((-1 : Int32), s0)) (am_if (p1 = p2) (some ((-1 : Int32), s0)) (am_bd (f_X12_streetOf p1 p2 s0) (fun v15 => am_if (0 ≤ v15) (am_bd (f_X12_keepsAct s0) (fun s16 => am_if (p2 ≤ p1) (j_X12_meet_46 p1 p2 p2 s16) (j_X12_meet_46 p1 p2 p1 s16))) (some ((-1 : Int32), s0))))))))
set_option maxRecDepth 100000 in
set_option maxHeartbeats 4000000 in
theorem t_X12_meet (p1 : Int32) (p2 : Int32) (s0 : am_S) {z : Int32 × am_S} (E : f_X12_meet p1 p2 s0 = some z) : AS yX12_meet cX12_meet 6 (some .int) 8 [.ref 248, .int p1, .int p2] s0 (some (.int z.1)) z.2 := by
  unfold f_X12_meet at E
  refine as_met (lv := [(0, .ref 248), (1, .int p1), (2, .int p2)]) (by decide +kernel) (by simp [lg_sl, Value.category]) rfl (fun x C A Z => ?_)
  have K57 : ∀ (v3 : Int32) (v4 : Int32) (s5 : am_S), j_X12_meet_57 v3 v4 s5 = some z → AX x 0 0 57 [(0, .ref 248), (3, .int v4)] [.int v3] am_N (am_h s5) := by
    intro v3 v4 s5 E
    unfold j_X12_meet_57 at E
    refine am_istore 57 (lv2 := [(4, .int v3), (0, .ref 248), (3, .int v4)]) C dX12_meet_57 (by decide) rfl ?_
    refine am_aload_n 59 C dX12_meet_59 rfl 1 rfl ?_
    refine am_iload_n 60 C dX12_meet_60 rfl 2 rfl ?_
    refine am_iload 61 C dX12_meet_61 0 rfl ?_
    obtain ⟨v6, s7, Ec, E⟩ := am_b2E E
    refine as_callV 63 (s2 := s7) (st := []) (st2 := [.int v6]) [.int v4, .int v3] C A (by decide) ml_X12_381 yc_X12_passesOn yv_X12_passesOn (t_X12_passesOn v4 v3 s5 Ec) (by decide) sh_248 rfl rfl (Nat.le_of_ble_eq_true rfl) rfl dX12_meet_63 ?_
    refine am_istore 66 (lv2 := [(5, .int v6), (4, .int v3), (0, .ref 248), (3, .int v4)]) C dX12_meet_66 (by decide) rfl ?_
    refine am_iload 68 C dX12_meet_68 0 rfl ?_
    refine am_aload_n 70 C dX12_meet_70 rfl 2 rfl ?_
    refine am_iload 71 C dX12_meet_71 1 rfl ?_
    refine am_iload_n 73 C dX12_meet_73 rfl 3 rfl ?_
    obtain ⟨v8, s9, Ec, E⟩ := am_b2E E
    refine as_callV 74 (s2 := s9) (st := [.int v6]) (st2 := [.int v8, .int v6]) [.int v3, .int v4] C A (by decide) ml_X12_381 yc_X12_passesOn yv_X12_passesOn (t_X12_passesOn v3 v4 s7 Ec) (by decide) sh_248 rfl rfl (Nat.le_of_ble_eq_true rfl) rfl dX12_meet_74 ?_
    refine am_iadd 77 C dX12_meet_77 ?_
    replace E := Option.some.inj E
    subst E
    exact as_iret 78 C Z rfl dX12_meet_78
  have K46 : ∀ (v10 : Int32) (s11 : am_S), j_X12_meet_46 p1 p2 v10 s11 = some z → AX x 0 0 46 [(0, .ref 248), (1, .int p1), (2, .int p2)] [.int v10] am_N (am_h s11) := by
    intro v10 s11 E
    unfold j_X12_meet_46 at E
    refine am_istore_n 46 (lv2 := [(3, .int v10), (0, .ref 248), (1, .int p1), (2, .int p2)]) C dX12_meet_46 rfl (by decide) rfl ?_
    refine am_iload_n 47 C dX12_meet_47 rfl 2 rfl ?_
    refine am_iload_n 48 C dX12_meet_48 rfl 3 rfl ?_
    refine am_icmp_ge 49 56 C dX12_meet_49 (by decide) (fun c12 => ?_) (fun c12 => ?_)
    · have E := am_ifT E c12
      refine am_iload_n 56 C dX12_meet_56 rfl 2 rfl ?_
      refine am_lvs [1, 0] rfl ?_
      exact K57 _ _ _ E
    · have E := am_ifF E c12
      refine am_iload_n 52 C dX12_meet_52 rfl 3 rfl ?_
      refine am_goto 53 57 C dX12_meet_53 (by decide) ?_
      refine am_lvs [1, 0] rfl ?_
      exact K57 _ _ _ E
  refine am_aload_n 0 C dX12_meet_0 rfl 0 rfl ?_
  refine am_iload_n 1 C dX12_meet_1 rfl 1 rfl ?_
  obtain ⟨v13, Ec, E⟩ := am_bdE E
  refine as_callV 2 (s2 := s0) (st := []) (st2 := [.int v13]) [.int p1] C A (by decide) ml_X12_317 yc_X12_isPerson yv_X12_isPerson (t_X12_isPerson p1 s0 Ec) (by decide) sh_248 rfl rfl (Nat.le_of_ble_eq_true rfl) rfl dX12_meet_2 ?_
  refine am_if_eq 5 30 C dX12_meet_5 (by decide) (fun c21 => ?_) (fun c21 => ?_)
  · have E := am_ifT E c21
    refine am_iconst 30 (-1 : Int32) C dX12_meet_30 (by decide) ?_
    replace E := Option.some.inj E
    subst E
    exact as_iret 31 C Z rfl dX12_meet_31
  · have E := am_ifF E c21
    refine am_aload_n 8 C dX12_meet_8 rfl 0 rfl ?_
    refine am_iload_n 9 C dX12_meet_9 rfl 2 rfl ?_
    obtain ⟨v14, Ec, E⟩ := am_bdE E
    refine as_callV 10 (s2 := s0) (st := []) (st2 := [.int v14]) [.int p2] C A (by decide) ml_X12_317 yc_X12_isPerson yv_X12_isPerson (t_X12_isPerson p2 s0 Ec) (by decide) sh_248 rfl rfl (Nat.le_of_ble_eq_true rfl) rfl dX12_meet_10 ?_
    refine am_if_eq 13 30 C dX12_meet_13 (by decide) (fun c20 => ?_) (fun c20 => ?_)
    · have E := am_ifT E c20
      refine am_iconst 30 (-1 : Int32) C dX12_meet_30 (by decide) ?_
      replace E := Option.some.inj E
      subst E
      exact as_iret 31 C Z rfl dX12_meet_31
    · have E := am_ifF E c20
      refine am_iload_n 16 C dX12_meet_16 rfl 1 rfl ?_
      refine am_iload_n 17 C dX12_meet_17 rfl 2 rfl ?_
      refine am_icmp_eq 18 30 C dX12_meet_18 (by decide) (fun c19 => ?_) (fun c19 => ?_)
      · have E := am_ifT E c19
        refine am_iconst 30 (-1 : Int32) C dX12_meet_30 (by decide) ?_
        replace E := Option.some.inj E
        subst E
        exact as_iret 31 C Z rfl dX12_meet_31
      · have E := am_ifF E c19
        refine am_aload_n 21 C dX12_meet_21 rfl 0 rfl ?_
        refine am_iload_n 22 C dX12_meet_22 rfl 1 rfl ?_
        refine am_iload_n 23 C dX12_meet_23 rfl 2 rfl ?_
        obtain ⟨v15, Ec, E⟩ := am_bdE E
        refine as_callV 24 (s2 := s0) (st := []) (st2 := [.int v15]) [.int p1, .int p2] C A (by decide) ml_X12_299 yc_X12_streetOf yv_X12_streetOf (t_X12_streetOf p1 p2 s0 Ec) (by decide) sh_248 rfl rfl (Nat.le_of_ble_eq_true rfl) rfl dX12_meet_24 ?_
        refine am_if_ge 27 32 C dX12_meet_27 (by decide) (fun c18 => ?_) (fun c18 => ?_)
        · have E := am_ifT E c18
          refine am_aload_n 32 C dX12_meet_32 rfl 0 rfl ?_
          obtain ⟨s16, Ec, E⟩ := am_bdE E
          refine as_callV 33 (s2 := s16) (st := []) (st2 := []) [] C A (by decide) ml_X12_374 yc_X12_keepsAct yv_X12_keepsAct (t_X12_keepsAct  s0 Ec) (by decide) sh_248 rfl rfl (Nat.le_of_ble_eq_true rfl) rfl dX12_meet_33 ?_
          refine am_iload_n 36 C dX12_meet_36 rfl 1 rfl ?_
          refine am_iload_n 37 C dX12_meet_37 rfl 2 rfl ?_
          refine am_icmp_ge 38 45 C dX12_meet_38 (by decide) (fun c17 => ?_) (fun c17 => ?_)
          · have E := am_ifT E c17
            refine am_iload_n 45 C dX12_meet_45 rfl 2 rfl ?_
            refine am_lvs [0, 1, 2] rfl ?_
            exact K46 _ _ E
          · have E := am_ifF E c17
            refine am_iload_n 41 C dX12_meet_41 rfl 1 rfl ?_
            refine am_goto 42 46 C dX12_meet_42 (by decide) ?_
            refine am_lvs [0, 1, 2] rfl ?_
            exact K46 _ _ E
        · have E := am_ifF E c18
          refine am_iconst 30 (-1 : Int32) C dX12_meet_30 (by decide) ?_
          replace E := Option.some.inj E
          subst E
          exact as_iret 31 C Z rfl dX12_meet_31
def f_X12_hour  (s0 : am_S) : Option (Int32 × am_S) :=
  am_bd (f_X12_isTown s0) (fun v1 => am_if (v1 = 0) (some ((-1 : Int32), s0)) (am_if ((s0.1 258 7) = (nI 23)) (some ((-1 : Int32), s0)) (am_bd (f_X12_keepsAct s0) (fun s2 => am_lt (as_i s2 258 7 ((s2.1 258 7) + (1 : Int32))) (fun s3 => some ((s3.1 258 7), s3))))))
set_option maxRecDepth 100000 in
set_option maxHeartbeats 4000000 in
theorem t_X12_hour (s0 : am_S) {z : Int32 × am_S} (E : f_X12_hour  s0 = some z) : AS yX12_hour cX12_hour 1 (some .int) 2 [.ref 248] s0 (some (.int z.1)) z.2 := by
  unfold f_X12_hour at E
  refine as_met (lv := [(0, .ref 248)]) (by decide +kernel) (by simp [lg_sl, Value.category]) rfl (fun x C A Z => ?_)
  refine am_aload_n 0 C dX12_hour_0 rfl 0 rfl ?_
  obtain ⟨v1, Ec, E⟩ := am_bdE E
  refine as_callV 1 (s2 := s0) (st := []) (st2 := [.int v1]) [] C A (by decide) ml_X12_384 yc_X12_isTown yv_X12_isTown (t_X12_isTown  s0 Ec) (by decide) sh_248 rfl rfl (Nat.le_of_ble_eq_true rfl) rfl dX12_hour_1 ?_
  refine am_if_eq 4 19 C dX12_hour_4 (by decide) (fun c5 => ?_) (fun c5 => ?_)
  · have E := am_ifT E c5
    refine am_iconst 19 (-1 : Int32) C dX12_hour_19 (by decide) ?_
    replace E := Option.some.inj E
    subst E
    exact as_iret 20 C Z rfl dX12_hour_20
  · have E := am_ifF E c5
    refine am_aload_n 7 C dX12_hour_7 rfl 0 rfl ?_
    refine as_getr 8 C fl_X12_39_11 dX12_hour_8 (by decide) sh_248 (rf_248_20 _ _) ?_
    refine am_bipush 11 (nI 7) C dX12_hour_11 (by decide) ?_
    refine as_ialdK 13 7 C dX12_hour_13 (by decide) sh_258 (by decide) (by decide) ?_
    refine am_bipush 14 (nI 23) C dX12_hour_14 (by decide) ?_
    refine am_icmp_ne 16 21 C dX12_hour_16 (by decide) (fun c4 => ?_) (fun c4 => ?_)
    · have E := am_ifF E c4
      refine am_aload_n 21 C dX12_hour_21 rfl 0 rfl ?_
      obtain ⟨s2, Ec, E⟩ := am_bdE E
      refine as_callV 22 (s2 := s2) (st := []) (st2 := []) [] C A (by decide) ml_X12_374 yc_X12_keepsAct yv_X12_keepsAct (t_X12_keepsAct  s0 Ec) (by decide) sh_248 rfl rfl (Nat.le_of_ble_eq_true rfl) rfl dX12_hour_22 ?_
      refine am_aload_n 25 C dX12_hour_25 rfl 0 rfl ?_
      refine as_getr 26 C fl_X12_39_11 dX12_hour_26 (by decide) sh_248 (rf_248_20 _ _) ?_
      refine am_bipush 29 (nI 7) C dX12_hour_29 (by decide) ?_
      refine am_dup2 31 C dX12_hour_31 rfl rfl ?_
      refine as_ialdK 32 7 C dX12_hour_32 (by decide) sh_258 (by decide) (by decide) ?_
      refine am_iconst 33 (1 : Int32) C dX12_hour_33 (by decide) ?_
      refine am_iadd 34 C dX12_hour_34 ?_
      obtain ⟨s3, hs3, E⟩ := am_ltE E
      refine as_iastK 35 7 C dX12_hour_35 (by decide) sh_258 (by decide) (by decide) hs3 ?_
      refine am_aload_n 36 C dX12_hour_36 rfl 0 rfl ?_
      refine as_getr 37 C fl_X12_39_11 dX12_hour_37 (by decide) sh_248 (rf_248_20 _ _) ?_
      refine am_bipush 40 (nI 7) C dX12_hour_40 (by decide) ?_
      refine as_ialdK 42 7 C dX12_hour_42 (by decide) sh_258 (by decide) (by decide) ?_
      replace E := Option.some.inj E
      subst E
      exact as_iret 43 C Z rfl dX12_hour_43
    · have E := am_ifT E c4
      refine am_iconst 19 (-1 : Int32) C dX12_hour_19 (by decide) ?_
      replace E := Option.some.inj E
      subst E
      exact as_iret 20 C Z rfl dX12_hour_20
def j_X12_dayComes_110 (v8 : Int32) (s9 : am_S) : Option ((Int32 × am_S) ⊕ (am_S)) :=
  am_lt (v8 + (1 : Int32)) (fun v10 => some (Sum.inl (v10, s9)))
def b_X12_dayComes_59 (v6 : Int32) (v14 : Int32) (s15 : am_S) : Option ((Int32 × am_S) ⊕ ((Int32 × am_S) ⊕ (am_S))) :=
  am_if ((s15.1 258 0) ≤ v14) (am_bd (j_X12_dayComes_110 v6 s15) (fun e16 => some (Sum.inr e16))) (am_if ((s15.1 258 10) = (1 : Int32)) (am_bd (f_X12_holdOf v6 v14 s15) (fun v18 => am_bd (f_X12_soOf v14 s15) (fun v19 => am_if (v18 = ((1 : Int32) - v19)) (am_bd (f_X12_holdsNow v6 v14 (nI 2) (0 : Int32) s15) (fun s21 => am_lt (v14 + (1 : Int32)) (fun v22 => some (Sum.inl (v22, s21))))) (am_lt (v14 + (1 : Int32)) (fun v20 => some (Sum.inl (v20, s15))))))) (am_lt (v14 + (1 : Int32)) (fun v17 => some (Sum.inl (v17, s15)))))
def b_X12_dayComes_37 (v6 : Int32) (s7 : am_S) : Option ((Int32 × am_S) ⊕ (am_S)) :=
  am_if ((s7.1 258 2) ≤ v6) (some (Sum.inr s7)) (am_gd (¬ ((nI 123) + v6) < 0 ∧ (((nI 123) + v6)).toNatClampNeg < 328) (am_lt (as_i s7 258 (((nI 123) + v6)).toNatClampNeg (0 : Int32)) (fun s12 => am_lp (fun (q : Int32 × am_S) => b_X12_dayComes_59 v6 q.1 q.2) am_F ((0 : Int32), s12))))
def f_X12_dayComes  (s0 : am_S) : Option (am_S) :=
  am_lt (as_i s0 258 6 ((s0.1 258 6) + (1 : Int32))) (fun s1 => am_lt (as_i s1 258 7 (0 : Int32)) (fun s2 => am_lt (as_i s2 258 8 (-1 : Int32)) (fun s3 => am_lt (as_i s3 258 9 (-1 : Int32)) (fun s4 => am_lp (fun (q : Int32 × am_S) => b_X12_dayComes_37 q.1 q.2) am_F ((0 : Int32), s4)))))
set_option maxRecDepth 100000 in
set_option maxHeartbeats 4000000 in
theorem t_X12_dayComes (s0 : am_S) {z : am_S} (E : f_X12_dayComes  s0 = some z) : AS yX12_dayComes cX12_dayComes 3 none 2 [.ref 248] s0 none z := by
  unfold f_X12_dayComes at E
  refine as_met (lv := [(0, .ref 248)]) (by decide +kernel) (by simp [lg_sl, Value.category]) rfl (fun x C A Z => ?_)
  refine am_aload_n 0 C dX12_dayComes_0 rfl 0 rfl ?_
  refine as_getr 1 C fl_X12_39_11 dX12_dayComes_1 (by decide) sh_248 (rf_248_20 _ _) ?_
  refine am_bipush 4 (nI 6) C dX12_dayComes_4 (by decide) ?_
  refine am_dup2 6 C dX12_dayComes_6 rfl rfl ?_
  refine as_ialdK 7 6 C dX12_dayComes_7 (by decide) sh_258 (by decide) (by decide) ?_
  refine am_iconst 8 (1 : Int32) C dX12_dayComes_8 (by decide) ?_
  refine am_iadd 9 C dX12_dayComes_9 ?_
  obtain ⟨s1, hs1, E⟩ := am_ltE E
  refine as_iastK 10 6 C dX12_dayComes_10 (by decide) sh_258 (by decide) (by decide) hs1 ?_
  refine am_aload_n 11 C dX12_dayComes_11 rfl 0 rfl ?_
  refine as_getr 12 C fl_X12_39_11 dX12_dayComes_12 (by decide) sh_248 (rf_248_20 _ _) ?_
  refine am_bipush 15 (nI 7) C dX12_dayComes_15 (by decide) ?_
  refine am_iconst 17 (0 : Int32) C dX12_dayComes_17 (by decide) ?_
  obtain ⟨s2, hs2, E⟩ := am_ltE E
  refine as_iastK 18 7 C dX12_dayComes_18 (by decide) sh_258 (by decide) (by decide) hs2 ?_
  refine am_aload_n 19 C dX12_dayComes_19 rfl 0 rfl ?_
  refine as_getr 20 C fl_X12_39_11 dX12_dayComes_20 (by decide) sh_248 (rf_248_20 _ _) ?_
  refine am_bipush 23 (nI 8) C dX12_dayComes_23 (by decide) ?_
  refine am_iconst 25 (-1 : Int32) C dX12_dayComes_25 (by decide) ?_
  obtain ⟨s3, hs3, E⟩ := am_ltE E
  refine as_iastK 26 8 C dX12_dayComes_26 (by decide) sh_258 (by decide) (by decide) hs3 ?_
  refine am_aload_n 27 C dX12_dayComes_27 rfl 0 rfl ?_
  refine as_getr 28 C fl_X12_39_11 dX12_dayComes_28 (by decide) sh_248 (rf_248_20 _ _) ?_
  refine am_bipush 31 (nI 9) C dX12_dayComes_31 (by decide) ?_
  refine am_iconst 33 (-1 : Int32) C dX12_dayComes_33 (by decide) ?_
  obtain ⟨s4, hs4, E⟩ := am_ltE E
  refine as_iastK 34 9 C dX12_dayComes_34 (by decide) sh_258 (by decide) (by decide) hs4 ?_
  refine am_iconst 35 (0 : Int32) C dX12_dayComes_35 (by decide) ?_
  refine am_istore_n 36 (lv2 := [(1, .int (0 : Int32)), (0, .ref 248)]) C dX12_dayComes_36 rfl (by decide) rfl ?_
  have LP5 : ∀ (n : Nat) (v6 : Int32) (s7 : am_S), am_lp (fun (q : Int32 × am_S) => b_X12_dayComes_37 q.1 q.2) n (v6, s7) = some z → AX x 0 0 37 [(0, .ref 248), (1, .int v6)] [] am_N (am_h s7) := by
    intro n
    induction n with
    | zero => intro v6 s7 E; exact (am_lp0 E).elim
    | succ n ih5 =>
      intro v6 s7 E
      obtain ⟨r5, E, Er5⟩ := am_lpE E
      replace E : b_X12_dayComes_37 v6 s7 = some r5 := E
      unfold b_X12_dayComes_37 at E
      have K110 : ∀ (v8 : Int32) (s9 : am_S), j_X12_dayComes_110 v8 s9 = some r5 → AX x 0 0 110 [(0, .ref 248), (1, .int v8)] [] am_N (am_h s9) := by
        intro v8 s9 E
        unfold j_X12_dayComes_110 at E
        obtain ⟨v10, hv10, E⟩ := am_ltE E
        refine as_iinc 110 (q := (1 : Int32)) (lv2 := [(1, .int v10), (0, .ref 248)]) C dX12_dayComes_110 1 rfl (by decide) hv10 (by decide) rfl ?_
        refine am_goto 113 37 C dX12_dayComes_113 (by decide) ?_
        replace E := Option.some.inj E
        replace E := am_exL E Er5
        refine am_lvs [1, 0] rfl ?_
        exact ih5 _ _ E
      refine am_iload_n 37 C dX12_dayComes_37 rfl 1 rfl ?_
      refine am_aload_n 38 C dX12_dayComes_38 rfl 0 rfl ?_
      refine as_getr 39 C fl_X12_39_11 dX12_dayComes_39 (by decide) sh_248 (rf_248_20 _ _) ?_
      refine am_iconst 42 (nI 2) C dX12_dayComes_42 (by decide) ?_
      refine as_ialdK 43 2 C dX12_dayComes_43 (by decide) sh_258 (by decide) (by decide) ?_
      refine am_icmp_ge 44 116 C dX12_dayComes_44 (by decide) (fun c26 => ?_) (fun c26 => ?_)
      · have E := am_ifT E c26
        replace E := Option.some.inj E
        replace E := am_exR E Er5
        subst E
        exact as_vret 116 C Z dX12_dayComes_116
      · have E := am_ifF E c26
        refine am_aload_n 47 C dX12_dayComes_47 rfl 0 rfl ?_
        refine as_getr 48 C fl_X12_39_11 dX12_dayComes_48 (by decide) sh_248 (rf_248_20 _ _) ?_
        refine am_bipush 51 (nI 123) C dX12_dayComes_51 (by decide) ?_
        refine am_iload_n 53 C dX12_dayComes_53 rfl 1 rfl ?_
        refine am_iadd 54 C dX12_dayComes_54 ?_
        refine am_iconst 55 (0 : Int32) C dX12_dayComes_55 (by decide) ?_
        obtain ⟨g11, E⟩ := am_gdE E
        obtain ⟨s12, hs12, E⟩ := am_ltE E
        refine as_iast 56 C dX12_dayComes_56 (by decide) sh_258 g11 hs12 ?_
        refine am_iconst 57 (0 : Int32) C dX12_dayComes_57 (by decide) ?_
        refine am_istore_n 58 (lv2 := [(2, .int (0 : Int32)), (0, .ref 248), (1, .int v6)]) C dX12_dayComes_58 rfl (by decide) rfl ?_
        have LP13 : ∀ (n : Nat) (v14 : Int32) (s15 : am_S), am_lp (fun (q : Int32 × am_S) => b_X12_dayComes_59 v6 q.1 q.2) n (v14, s15) = some r5 → AX x 0 0 59 [(0, .ref 248), (1, .int v6), (2, .int v14)] [] am_N (am_h s15) := by
          intro n
          induction n with
          | zero => intro v14 s15 E; exact (am_lp0 E).elim
          | succ n ih13 =>
            intro v14 s15 E
            obtain ⟨r13, E, Er13⟩ := am_lpE E
            replace E : b_X12_dayComes_59 v6 v14 s15 = some r13 := E
            unfold b_X12_dayComes_59 at E
            refine am_iload_n 59 C dX12_dayComes_59 rfl 2 rfl ?_
            refine am_aload_n 60 C dX12_dayComes_60 rfl 0 rfl ?_
            refine as_getr 61 C fl_X12_39_11 dX12_dayComes_61 (by decide) sh_248 (rf_248_20 _ _) ?_
            refine am_iconst 64 (0 : Int32) C dX12_dayComes_64 (by decide) ?_
            refine as_ialdK 65 0 C dX12_dayComes_65 (by decide) sh_258 (by decide) (by decide) ?_
            refine am_icmp_ge 66 110 C dX12_dayComes_66 (by decide) (fun c25 => ?_) (fun c25 => ?_)
            · have E := am_ifT E c25
              obtain ⟨e16, E, E2⟩ := am_bdE E
              replace E2 := Option.some.inj E2
              replace E2 := am_exR E2 Er13
              rw [E2] at E
              refine am_lvs [0, 1] rfl ?_
              exact K110 _ _ E
            · have E := am_ifF E c25
              refine am_aload_n 69 C dX12_dayComes_69 rfl 0 rfl ?_
              refine as_getr 70 C fl_X12_39_11 dX12_dayComes_70 (by decide) sh_248 (rf_248_20 _ _) ?_
              refine am_bipush 73 (nI 10) C dX12_dayComes_73 (by decide) ?_
              refine as_ialdK 75 10 C dX12_dayComes_75 (by decide) sh_258 (by decide) (by decide) ?_
              refine am_iconst 76 (1 : Int32) C dX12_dayComes_76 (by decide) ?_
              refine am_icmp_ne 77 104 C dX12_dayComes_77 (by decide) (fun c24 => ?_) (fun c24 => ?_)
              · have E := am_ifF E c24
                obtain ⟨v17, hv17, E⟩ := am_ltE E
                refine as_iinc 104 (q := (1 : Int32)) (lv2 := [(2, .int v17), (0, .ref 248), (1, .int v6)]) C dX12_dayComes_104 2 rfl (by decide) hv17 (by decide) rfl ?_
                refine am_goto 107 59 C dX12_dayComes_107 (by decide) ?_
                replace E := Option.some.inj E
                replace E := am_exL E Er13
                refine am_lvs [1, 2, 0] rfl ?_
                exact ih13 _ _ E
              · have E := am_ifT E c24
                refine am_aload_n 80 C dX12_dayComes_80 rfl 0 rfl ?_
                refine am_iload_n 81 C dX12_dayComes_81 rfl 1 rfl ?_
                refine am_iload_n 82 C dX12_dayComes_82 rfl 2 rfl ?_
                obtain ⟨v18, Ec, E⟩ := am_bdE E
                refine as_callV 83 (s2 := s15) (st := []) (st2 := [.int v18]) [.int v6, .int v14] C A (by decide) ml_X12_305 yc_X12_holdOf yv_X12_holdOf (t_X12_holdOf v6 v14 s15 Ec) (by decide) sh_248 rfl rfl (Nat.le_of_ble_eq_true rfl) rfl dX12_dayComes_83 ?_
                refine am_iconst 86 (1 : Int32) C dX12_dayComes_86 (by decide) ?_
                refine am_aload_n 87 C dX12_dayComes_87 rfl 0 rfl ?_
                refine am_iload_n 88 C dX12_dayComes_88 rfl 2 rfl ?_
                obtain ⟨v19, Ec, E⟩ := am_bdE E
                refine as_callV 89 (s2 := s15) (st := [.int (1 : Int32), .int v18]) (st2 := [.int v19, .int (1 : Int32), .int v18]) [.int v14] C A (by decide) ml_X12_342 yc_X12_soOf yv_X12_soOf (t_X12_soOf v14 s15 Ec) (by decide) sh_248 rfl rfl (Nat.le_of_ble_eq_true rfl) rfl dX12_dayComes_89 ?_
                refine am_isub 92 C dX12_dayComes_92 ?_
                refine am_icmp_ne 93 104 C dX12_dayComes_93 (by decide) (fun c23 => ?_) (fun c23 => ?_)
                · have E := am_ifF E c23
                  obtain ⟨v20, hv20, E⟩ := am_ltE E
                  refine as_iinc 104 (q := (1 : Int32)) (lv2 := [(2, .int v20), (0, .ref 248), (1, .int v6)]) C dX12_dayComes_104 2 rfl (by decide) hv20 (by decide) rfl ?_
                  refine am_goto 107 59 C dX12_dayComes_107 (by decide) ?_
                  replace E := Option.some.inj E
                  replace E := am_exL E Er13
                  refine am_lvs [1, 2, 0] rfl ?_
                  exact ih13 _ _ E
                · have E := am_ifT E c23
                  refine am_aload_n 96 C dX12_dayComes_96 rfl 0 rfl ?_
                  refine am_iload_n 97 C dX12_dayComes_97 rfl 1 rfl ?_
                  refine am_iload_n 98 C dX12_dayComes_98 rfl 2 rfl ?_
                  refine am_iconst 99 (nI 2) C dX12_dayComes_99 (by decide) ?_
                  refine am_iconst 100 (0 : Int32) C dX12_dayComes_100 (by decide) ?_
                  obtain ⟨s21, Ec, E⟩ := am_bdE E
                  refine as_callV 101 (s2 := s21) (st := []) (st2 := []) [.int v6, .int v14, .int (nI 2), .int (0 : Int32)] C A (by decide) ml_X12_359 yc_X12_holdsNow yv_X12_holdsNow (t_X12_holdsNow v6 v14 (nI 2) (0 : Int32) s15 Ec) (by decide) sh_248 rfl rfl (Nat.le_of_ble_eq_true rfl) rfl dX12_dayComes_101 ?_
                  obtain ⟨v22, hv22, E⟩ := am_ltE E
                  refine as_iinc 104 (q := (1 : Int32)) (lv2 := [(2, .int v22), (0, .ref 248), (1, .int v6)]) C dX12_dayComes_104 2 rfl (by decide) hv22 (by decide) rfl ?_
                  refine am_goto 107 59 C dX12_dayComes_107 (by decide) ?_
                  replace E := Option.some.inj E
                  replace E := am_exL E Er13
                  refine am_lvs [1, 2, 0] rfl ?_
                  exact ih13 _ _ E
        refine am_lvs [1, 2, 0] rfl ?_
        exact LP13 am_F _ _ E
  refine am_lvs [1, 0] rfl ?_
  exact LP5 am_F _ _ E
def f_X12_midnight  (s0 : am_S) : Option (Int32 × am_S) :=
  am_bd (f_X12_isTown s0) (fun v1 => am_if (v1 = 0) (some ((-1 : Int32), s0)) (am_if ((s0.1 258 6) = (nI 9999)) (some ((-1 : Int32), s0)) (am_bd (f_X12_keepsAct s0) (fun s2 => am_bd (f_X12_dayComes s2) (fun s3 => some ((s3.1 258 6), s3))))))
set_option maxRecDepth 100000 in
set_option maxHeartbeats 4000000 in
theorem t_X12_midnight (s0 : am_S) {z : Int32 × am_S} (E : f_X12_midnight  s0 = some z) : AS yX12_midnight cX12_midnight 1 (some .int) 3 [.ref 248] s0 (some (.int z.1)) z.2 := by
  unfold f_X12_midnight at E
  refine as_met (lv := [(0, .ref 248)]) (by decide +kernel) (by simp [lg_sl, Value.category]) rfl (fun x C A Z => ?_)
  refine am_aload_n 0 C dX12_midnight_0 rfl 0 rfl ?_
  obtain ⟨v1, Ec, E⟩ := am_bdE E
  refine as_callV 1 (s2 := s0) (st := []) (st2 := [.int v1]) [] C A (by decide) ml_X12_384 yc_X12_isTown yv_X12_isTown (t_X12_isTown  s0 Ec) (by decide) sh_248 rfl rfl (Nat.le_of_ble_eq_true rfl) rfl dX12_midnight_1 ?_
  refine am_if_eq 4 20 C dX12_midnight_4 (by decide) (fun c5 => ?_) (fun c5 => ?_)
  · have E := am_ifT E c5
    refine am_iconst 20 (-1 : Int32) C dX12_midnight_20 (by decide) ?_
    replace E := Option.some.inj E
    subst E
    exact as_iret 21 C Z rfl dX12_midnight_21
  · have E := am_ifF E c5
    refine am_aload_n 7 C dX12_midnight_7 rfl 0 rfl ?_
    refine as_getr 8 C fl_X12_39_11 dX12_midnight_8 (by decide) sh_248 (rf_248_20 _ _) ?_
    refine am_bipush 11 (nI 6) C dX12_midnight_11 (by decide) ?_
    refine as_ialdK 13 6 C dX12_midnight_13 (by decide) sh_258 (by decide) (by decide) ?_
    refine am_sipush 14 (nI 9999) C dX12_midnight_14 (by decide) ?_
    refine am_icmp_ne 17 22 C dX12_midnight_17 (by decide) (fun c4 => ?_) (fun c4 => ?_)
    · have E := am_ifF E c4
      refine am_aload_n 22 C dX12_midnight_22 rfl 0 rfl ?_
      obtain ⟨s2, Ec, E⟩ := am_bdE E
      refine as_callV 23 (s2 := s2) (st := []) (st2 := []) [] C A (by decide) ml_X12_374 yc_X12_keepsAct yv_X12_keepsAct (t_X12_keepsAct  s0 Ec) (by decide) sh_248 rfl rfl (Nat.le_of_ble_eq_true rfl) rfl dX12_midnight_23 ?_
      refine am_aload_n 26 C dX12_midnight_26 rfl 0 rfl ?_
      obtain ⟨s3, Ec, E⟩ := am_bdE E
      refine as_callV 27 (s2 := s3) (st := []) (st2 := []) [] C A (by decide) ml_X12_387 yc_X12_dayComes yv_X12_dayComes (t_X12_dayComes  s2 Ec) (by decide) sh_248 rfl rfl (Nat.le_of_ble_eq_true rfl) rfl dX12_midnight_27 ?_
      refine am_aload_n 30 C dX12_midnight_30 rfl 0 rfl ?_
      refine as_getr 31 C fl_X12_39_11 dX12_midnight_31 (by decide) sh_248 (rf_248_20 _ _) ?_
      refine am_bipush 34 (nI 6) C dX12_midnight_34 (by decide) ?_
      refine as_ialdK 36 6 C dX12_midnight_36 (by decide) sh_258 (by decide) (by decide) ?_
      replace E := Option.some.inj E
      subst E
      exact as_iret 37 C Z rfl dX12_midnight_37
    · have E := am_ifT E c4
      refine am_iconst 20 (-1 : Int32) C dX12_midnight_20 (by decide) ?_
      replace E := Option.some.inj E
      subst E
      exact as_iret 21 C Z rfl dX12_midnight_21
def j_X12_summedBy_68 (p1 : Int32) (v2 : Int32) (s3 : am_S) : Option (Int64 × am_S) :=
  am_lt (v2 + (1 : Int32)) (fun v4 => am_gd (¬ v4 < 0 ∧ (v4).toNatClampNeg < 360) (am_lt (v2 + (nI 2)) (fun v6 => am_gd (¬ v6 < 0 ∧ (v6).toNatClampNeg < 360) (am_b2 (f_X12_reckons p1 (s3.1 252 (v4).toNatClampNeg) (s3.1 252 (v6).toNatClampNeg) s3) (fun w8 s9 => some (w8, s9))))))
def b_X12_summedBy_2 (p1 : Int32) (v11 : Int32) (s12 : am_S) : Option ((Int32 × am_S) ⊕ (Int64 × am_S)) :=
  am_gd (¬ p1 < 0 ∧ (p1).toNatClampNeg < 6) (am_if ((s12.1 253 (p1).toNatClampNeg) ≤ v11) (some (Sum.inr ((0 : Int64), s12))) (am_lt (((nI 60) * p1) + ((nI 5) * v11)) (fun v14 => am_gd (¬ v14 < 0 ∧ (v14).toNatClampNeg < 360) (am_if ((s12.1 252 (v14).toNatClampNeg) = (1 : Int32)) (am_lt (v14 + (nI 3)) (fun v17 => am_gd (¬ v17 < 0 ∧ (v17).toNatClampNeg < 360) (am_if ((s12.1 252 (v17).toNatClampNeg) < 0) (am_bd (j_X12_summedBy_68 p1 v14 s12) (fun e19 => some (Sum.inr e19))) (am_lt (v14 + (nI 3)) (fun v20 => am_gd (¬ v20 < 0 ∧ (v20).toNatClampNeg < 360) (am_lt (v14 + (nI 4)) (fun v22 => am_gd (¬ v22 < 0 ∧ (v22).toNatClampNeg < 360) (am_b2 (f_X12_reckons p1 (s12.1 252 (v20).toNatClampNeg) (s12.1 252 (v22).toNatClampNeg) s12) (fun w24 s25 => am_if ((lg_cmp w24 (1 : Int64)) = 0) (am_bd (j_X12_summedBy_68 p1 v14 s25) (fun e27 => some (Sum.inr e27))) (am_lt (v11 + (1 : Int32)) (fun v26 => some (Sum.inl (v26, s25))))))))))))) (am_lt (v11 + (1 : Int32)) (fun v16 => some (Sum.inl (v16, s12))))))))
def f_X12_summedBy (p1 : Int32) (s0 : am_S) : Option (Int64 × am_S) :=
  am_lp (fun (q : Int32 × am_S) => b_X12_summedBy_2 p1 q.1 q.2) am_F ((0 : Int32), s0)
set_option maxRecDepth 100000 in
set_option maxHeartbeats 4000000 in
theorem t_X12_summedBy (p1 : Int32) (s0 : am_S) {z : Int64 × am_S} (E : f_X12_summedBy p1 s0 = some z) : AS yX12_summedBy cX12_summedBy 4 (some .long) 3 [.ref 248, .int p1] s0 (some (.long z.1)) z.2 := by
  unfold f_X12_summedBy at E
  refine as_met (lv := [(0, .ref 248), (1, .int p1)]) (by decide +kernel) (by simp [lg_sl, Value.category]) rfl (fun x C A Z => ?_)
  have K68 : ∀ (v2 : Int32) (s3 : am_S), j_X12_summedBy_68 p1 v2 s3 = some z → AX x 0 0 68 [(0, .ref 248), (1, .int p1), (3, .int v2)] [] am_N (am_h s3) := by
    intro v2 s3 E
    unfold j_X12_summedBy_68 at E
    refine am_aload_n 68 C dX12_summedBy_68 rfl 0 rfl ?_
    refine am_iload_n 69 C dX12_summedBy_69 rfl 1 rfl ?_
    refine am_aload_n 70 C dX12_summedBy_70 rfl 0 rfl ?_
    refine as_getr 71 C fl_X12_20_11 dX12_summedBy_71 (by decide) sh_248 (rf_248_5 _ _) ?_
    refine am_iload_n 74 C dX12_summedBy_74 rfl 2 rfl ?_
    refine am_iconst 75 (1 : Int32) C dX12_summedBy_75 (by decide) ?_
    refine am_iadd 76 C dX12_summedBy_76 ?_
    obtain ⟨v4, hv4, E⟩ := am_ltE E
    refine as_nm hv4 ?_
    obtain ⟨g5, E⟩ := am_gdE E
    refine as_iald 77 C dX12_summedBy_77 (by decide) sh_252 g5 ?_
    refine am_aload_n 78 C dX12_summedBy_78 rfl 0 rfl ?_
    refine as_getr 79 C fl_X12_20_11 dX12_summedBy_79 (by decide) sh_248 (rf_248_5 _ _) ?_
    refine am_iload_n 82 C dX12_summedBy_82 rfl 2 rfl ?_
    refine am_iconst 83 (nI 2) C dX12_summedBy_83 (by decide) ?_
    refine am_iadd 84 C dX12_summedBy_84 ?_
    obtain ⟨v6, hv6, E⟩ := am_ltE E
    refine as_nm hv6 ?_
    obtain ⟨g7, E⟩ := am_gdE E
    refine as_iald 85 C dX12_summedBy_85 (by decide) sh_252 g7 ?_
    obtain ⟨w8, s9, Ec, E⟩ := am_b2E E
    refine as_callV 86 (s2 := s9) (st := []) (st2 := [.long w8]) [.int p1, .int (s3.1 252 (v4).toNatClampNeg), .int (s3.1 252 (v6).toNatClampNeg)] C A (by decide) ml_X12_355 yc_X12_reckons yv_X12_reckons (t_X12_reckons p1 (s3.1 252 (v4).toNatClampNeg) (s3.1 252 (v6).toNatClampNeg) s3 Ec) (by decide) sh_248 rfl rfl (Nat.le_of_ble_eq_true rfl) rfl dX12_summedBy_86 ?_
    replace E := Option.some.inj E
    subst E
    exact as_lret 89 C Z dX12_summedBy_89
  refine am_iconst 0 (0 : Int32) C dX12_summedBy_0 (by decide) ?_
  refine am_istore_n 1 (lv2 := [(2, .int (0 : Int32)), (0, .ref 248), (1, .int p1)]) C dX12_summedBy_1 rfl (by decide) rfl ?_
  have LP10 : ∀ (n : Nat) (v11 : Int32) (s12 : am_S), am_lp (fun (q : Int32 × am_S) => b_X12_summedBy_2 p1 q.1 q.2) n (v11, s12) = some z → AX x 0 0 2 [(0, .ref 248), (1, .int p1), (2, .int v11)] [] am_N (am_h s12) := by
    intro n
    induction n with
    | zero => intro v11 s12 E; exact (am_lp0 E).elim
    | succ n ih10 =>
      intro v11 s12 E
      obtain ⟨r10, E, Er10⟩ := am_lpE E
      replace E : b_X12_summedBy_2 p1 v11 s12 = some r10 := E
      unfold b_X12_summedBy_2 at E
      refine am_iload_n 2 C dX12_summedBy_2 rfl 2 rfl ?_
      refine am_aload_n 3 C dX12_summedBy_3 rfl 0 rfl ?_
      refine as_getr 4 C fl_X12_23_11 dX12_summedBy_4 (by decide) sh_248 (rf_248_6 _ _) ?_
      refine am_iload_n 7 C dX12_summedBy_7 rfl 1 rfl ?_
      obtain ⟨g13, E⟩ := am_gdE E
      refine as_iald 8 C dX12_summedBy_8 (by decide) sh_253 g13 ?_
      refine am_icmp_ge 9 96 C dX12_summedBy_9 (by decide) (fun c31 => ?_) (fun c31 => ?_)
      · have E := am_ifT E c31
        refine am_lconst 96 (0 : Int64) C dX12_summedBy_96 (by decide) ?_
        replace E := Option.some.inj E
        replace E := am_exR E Er10
        subst E
        exact as_lret 97 C Z dX12_summedBy_97
      · have E := am_ifF E c31
        refine am_bipush 12 (nI 60) C dX12_summedBy_12 (by decide) ?_
        refine am_iload_n 14 C dX12_summedBy_14 rfl 1 rfl ?_
        refine am_imul 15 C dX12_summedBy_15 ?_
        refine am_iconst 16 (nI 5) C dX12_summedBy_16 (by decide) ?_
        refine am_iload_n 17 C dX12_summedBy_17 rfl 2 rfl ?_
        refine am_imul 18 C dX12_summedBy_18 ?_
        refine am_iadd 19 C dX12_summedBy_19 ?_
        obtain ⟨v14, hv14, E⟩ := am_ltE E
        refine as_nm hv14 ?_
        refine am_istore_n 20 (lv2 := [(3, .int v14), (0, .ref 248), (1, .int p1), (2, .int v11)]) C dX12_summedBy_20 rfl (by decide) rfl ?_
        refine am_aload_n 21 C dX12_summedBy_21 rfl 1 rfl ?_
        refine as_getr 22 C fl_X12_20_11 dX12_summedBy_22 (by decide) sh_248 (rf_248_5 _ _) ?_
        refine am_iload_n 25 C dX12_summedBy_25 rfl 0 rfl ?_
        obtain ⟨g15, E⟩ := am_gdE E
        refine as_iald 26 C dX12_summedBy_26 (by decide) sh_252 g15 ?_
        refine am_iconst 27 (1 : Int32) C dX12_summedBy_27 (by decide) ?_
        refine am_icmp_ne 28 90 C dX12_summedBy_28 (by decide) (fun c30 => ?_) (fun c30 => ?_)
        · have E := am_ifF E c30
          obtain ⟨v16, hv16, E⟩ := am_ltE E
          refine as_iinc 90 (q := (1 : Int32)) (lv2 := [(2, .int v16), (3, .int v14), (0, .ref 248), (1, .int p1)]) C dX12_summedBy_90 3 rfl (by decide) hv16 (by decide) rfl ?_
          refine am_goto 93 2 C dX12_summedBy_93 (by decide) ?_
          replace E := Option.some.inj E
          replace E := am_exL E Er10
          refine am_lvs [2, 3, 0] rfl ?_
          exact ih10 _ _ E
        · have E := am_ifT E c30
          refine am_aload_n 31 C dX12_summedBy_31 rfl 1 rfl ?_
          refine as_getr 32 C fl_X12_20_11 dX12_summedBy_32 (by decide) sh_248 (rf_248_5 _ _) ?_
          refine am_iload_n 35 C dX12_summedBy_35 rfl 0 rfl ?_
          refine am_iconst 36 (nI 3) C dX12_summedBy_36 (by decide) ?_
          refine am_iadd 37 C dX12_summedBy_37 ?_
          obtain ⟨v17, hv17, E⟩ := am_ltE E
          refine as_nm hv17 ?_
          obtain ⟨g18, E⟩ := am_gdE E
          refine as_iald 38 C dX12_summedBy_38 (by decide) sh_252 g18 ?_
          refine am_if_lt 39 68 C dX12_summedBy_39 (by decide) (fun c29 => ?_) (fun c29 => ?_)
          · have E := am_ifT E c29
            obtain ⟨e19, E, E2⟩ := am_bdE E
            replace E2 := Option.some.inj E2
            replace E2 := am_exR E2 Er10
            rw [E2] at E
            refine am_lvs [1, 2, 0] rfl ?_
            exact K68 _ _ E
          · have E := am_ifF E c29
            refine am_aload_n 42 C dX12_summedBy_42 rfl 1 rfl ?_
            refine am_iload_n 43 C dX12_summedBy_43 rfl 2 rfl ?_
            refine am_aload_n 44 C dX12_summedBy_44 rfl 1 rfl ?_
            refine as_getr 45 C fl_X12_20_11 dX12_summedBy_45 (by decide) sh_248 (rf_248_5 _ _) ?_
            refine am_iload_n 48 C dX12_summedBy_48 rfl 0 rfl ?_
            refine am_iconst 49 (nI 3) C dX12_summedBy_49 (by decide) ?_
            refine am_iadd 50 C dX12_summedBy_50 ?_
            obtain ⟨v20, hv20, E⟩ := am_ltE E
            refine as_nm hv20 ?_
            obtain ⟨g21, E⟩ := am_gdE E
            refine as_iald 51 C dX12_summedBy_51 (by decide) sh_252 g21 ?_
            refine am_aload_n 52 C dX12_summedBy_52 rfl 1 rfl ?_
            refine as_getr 53 C fl_X12_20_11 dX12_summedBy_53 (by decide) sh_248 (rf_248_5 _ _) ?_
            refine am_iload_n 56 C dX12_summedBy_56 rfl 0 rfl ?_
            refine am_iconst 57 (nI 4) C dX12_summedBy_57 (by decide) ?_
            refine am_iadd 58 C dX12_summedBy_58 ?_
            obtain ⟨v22, hv22, E⟩ := am_ltE E
            refine as_nm hv22 ?_
            obtain ⟨g23, E⟩ := am_gdE E
            refine as_iald 59 C dX12_summedBy_59 (by decide) sh_252 g23 ?_
            obtain ⟨w24, s25, Ec, E⟩ := am_b2E E
            refine as_callV 60 (s2 := s25) (st := []) (st2 := [.long w24]) [.int p1, .int (s12.1 252 (v20).toNatClampNeg), .int (s12.1 252 (v22).toNatClampNeg)] C A (by decide) ml_X12_355 yc_X12_reckons yv_X12_reckons (t_X12_reckons p1 (s12.1 252 (v20).toNatClampNeg) (s12.1 252 (v22).toNatClampNeg) s12 Ec) (by decide) sh_248 rfl rfl (Nat.le_of_ble_eq_true rfl) rfl dX12_summedBy_60 ?_
            refine am_lconst 63 (1 : Int64) C dX12_summedBy_63 (by decide) ?_
            refine am_lcmp 64 C dX12_summedBy_64 ?_
            refine am_if_ne 65 90 C dX12_summedBy_65 (by decide) (fun c28 => ?_) (fun c28 => ?_)
            · have E := am_ifF E c28
              obtain ⟨v26, hv26, E⟩ := am_ltE E
              refine as_iinc 90 (q := (1 : Int32)) (lv2 := [(2, .int v26), (3, .int v14), (0, .ref 248), (1, .int p1)]) C dX12_summedBy_90 3 rfl (by decide) hv26 (by decide) rfl ?_
              refine am_goto 93 2 C dX12_summedBy_93 (by decide) ?_
              replace E := Option.some.inj E
              replace E := am_exL E Er10
              refine am_lvs [2, 3, 0] rfl ?_
              exact ih10 _ _ E
            · have E := am_ifT E c28
              obtain ⟨e27, E, E2⟩ := am_bdE E
              replace E2 := Option.some.inj E2
              replace E2 := am_exR E2 Er10
              rw [E2] at E
              refine am_lvs [1, 2, 0] rfl ?_
              exact K68 _ _ E
  refine am_lvs [1, 2, 0] rfl ?_
  exact LP10 am_F _ _ E
def j_X12_passes_144 (v2 : Int32) (s3 : am_S) : Option (Int32 × am_S) :=
  am_if ((s3.1 258 7) = (nI 23)) (am_bd (f_X12_dayComes s3) (fun s5 => some (v2, s5))) (am_lt (as_i s3 258 7 ((s3.1 258 7) + (1 : Int32))) (fun s4 => some (v2, s4)))
def j_X12_passes_117 (v7 : Int32) (v8 : Int32) (s9 : am_S) : Option (Int32 × am_S) :=
  am_if (0 ≤ v8) (am_b2 (f_X12_says v7 (v8 / (nI 16)) ((v8 / (nI 2)) - (v8 / (nI 2)) / (nI 8) * (nI 8)) (v8 - v8 / (nI 2) * (nI 2)) (0 : Int32) s9) (fun v10 s11 => j_X12_passes_144 v10 s11)) (j_X12_passes_144 (0 : Int32) s9)
def b_X12_passes_23 (p1 : Int32) (v14 : Int32) (v16 : Int32) (w17 : Int64) (v18 : Int32) (s19 : am_S) : Option ((Int32 × Int64 × Int32 × am_S) ⊕ (Int32 × am_S)) :=
  am_if (((nI 16) * (s19.1 258 2)) ≤ v18) (am_bd (j_X12_passes_117 v14 v16 s19) (fun e20 => some (Sum.inr e20))) (am_lt (v18 / (nI 16)) (fun v21 => am_lt ((v18 / (nI 2)) - (v18 / (nI 2)) / (nI 8) * (nI 8)) (fun v22 => am_bd (f_X12_maySay v14 v21 v22 (v18 - v18 / (nI 2) * (nI 2)) s19) (fun v23 => am_if (v23 = 0) (am_lt (v18 + (1 : Int32)) (fun v30 => some (Sum.inl (v16, w17, v30, s19)))) (am_bd (f_X12_words v14 v21 v22 (v18 - v18 / (nI 2) * (nI 2)) (0 : Int32) s19) (fun s24 => am_b2 (f_X12_summedBy p1 s24) (fun w25 s26 => am_if (0 < (lg_cmp w25 w17)) (am_lt (v18 + (1 : Int32)) (fun v27 => some (Sum.inl (v18, w25, v27, s26)))) (am_lt (v18 + (1 : Int32)) (fun v28 => some (Sum.inl (v16, w17, v28, s26)))))))))))
def f_X12_passes (p1 : Int32) (s0 : am_S) : Option (Int32 × am_S) :=
  am_gd (¬ (s0.1 258 2) = 0) (am_lt ((s0.1 258 7) - (s0.1 258 7) / (s0.1 258 2) * (s0.1 258 2)) (fun v14 => am_lp (fun (q : Int32 × Int64 × Int32 × am_S) => b_X12_passes_23 p1 v14 q.1 q.2.1 q.2.2.1 q.2.2.2) am_F ((-1 : Int32), (0 : Int64), (0 : Int32), s0)))
set_option maxRecDepth 100000 in
set_option maxHeartbeats 4000000 in
theorem t_X12_passes (p1 : Int32) (s0 : am_S) {z : Int32 × am_S} (E : f_X12_passes p1 s0 = some z) : AS yX12_passes cX12_passes 11 (some .int) 7 [.ref 248, .int p1] s0 (some (.int z.1)) z.2 := by
  unfold f_X12_passes at E
  refine as_met (lv := [(0, .ref 248), (1, .int p1)]) (by decide +kernel) (by simp [lg_sl, Value.category]) rfl (fun x C A Z => ?_)
  have K144 : ∀ (v2 : Int32) (s3 : am_S), j_X12_passes_144 v2 s3 = some z → AX x 0 0 144 [(0, .ref 248)] [.int v2] am_N (am_h s3) := by
    intro v2 s3 E
    unfold j_X12_passes_144 at E
    refine am_istore 144 (lv2 := [(6, .int v2), (0, .ref 248)]) C dX12_passes_144 (by decide) rfl ?_
    refine am_aload_n 146 C dX12_passes_146 rfl 1 rfl ?_
    refine as_getr 147 C fl_X12_39_11 dX12_passes_147 (by decide) sh_248 (rf_248_20 _ _) ?_
    refine am_bipush 150 (nI 7) C dX12_passes_150 (by decide) ?_
    refine as_ialdK 152 7 C dX12_passes_152 (by decide) sh_258 (by decide) (by decide) ?_
    refine am_bipush 153 (nI 23) C dX12_passes_153 (by decide) ?_
    refine am_icmp_ne 155 165 C dX12_passes_155 (by decide) (fun c6 => ?_) (fun c6 => ?_)
    · have E := am_ifF E c6
      refine am_aload_n 165 C dX12_passes_165 rfl 1 rfl ?_
      refine as_getr 166 C fl_X12_39_11 dX12_passes_166 (by decide) sh_248 (rf_248_20 _ _) ?_
      refine am_bipush 169 (nI 7) C dX12_passes_169 (by decide) ?_
      refine am_dup2 171 C dX12_passes_171 rfl rfl ?_
      refine as_ialdK 172 7 C dX12_passes_172 (by decide) sh_258 (by decide) (by decide) ?_
      refine am_iconst 173 (1 : Int32) C dX12_passes_173 (by decide) ?_
      refine am_iadd 174 C dX12_passes_174 ?_
      obtain ⟨s4, hs4, E⟩ := am_ltE E
      refine as_iastK 175 7 C dX12_passes_175 (by decide) sh_258 (by decide) (by decide) hs4 ?_
      refine am_iload 176 C dX12_passes_176 0 rfl ?_
      replace E := Option.some.inj E
      subst E
      exact as_iret 178 C Z rfl dX12_passes_178
    · have E := am_ifT E c6
      refine am_aload_n 158 C dX12_passes_158 rfl 1 rfl ?_
      obtain ⟨s5, Ec, E⟩ := am_bdE E
      refine as_callV 159 (s2 := s5) (st := []) (st2 := []) [] C A (by decide) ml_X12_387 yc_X12_dayComes yv_X12_dayComes (t_X12_dayComes  s3 Ec) (by decide) sh_248 rfl rfl (Nat.le_of_ble_eq_true rfl) rfl dX12_passes_159 ?_
      refine am_goto 162 176 C dX12_passes_162 (by decide) ?_
      refine am_iload 176 C dX12_passes_176 0 rfl ?_
      replace E := Option.some.inj E
      subst E
      exact as_iret 178 C Z rfl dX12_passes_178
  have K117 : ∀ (v7 : Int32) (v8 : Int32) (s9 : am_S), j_X12_passes_117 v7 v8 s9 = some z → AX x 0 0 117 [(0, .ref 248), (2, .int v7), (3, .int v8)] [] am_N (am_h s9) := by
    intro v7 v8 s9 E
    unfold j_X12_passes_117 at E
    refine am_iload_n 117 C dX12_passes_117 rfl 2 rfl ?_
    refine am_if_ge 118 125 C dX12_passes_118 (by decide) (fun c12 => ?_) (fun c12 => ?_)
    · have E := am_ifT E c12
      refine am_aload_n 125 C dX12_passes_125 rfl 0 rfl ?_
      refine am_iload_n 126 C dX12_passes_126 rfl 1 rfl ?_
      refine am_iload_n 127 C dX12_passes_127 rfl 2 rfl ?_
      refine am_bipush 128 (nI 16) C dX12_passes_128 (by decide) ?_
      refine am_idiv 130 C dX12_passes_130 (by decide) ?_
      refine am_iload_n 131 C dX12_passes_131 rfl 2 rfl ?_
      refine am_iconst 132 (nI 2) C dX12_passes_132 (by decide) ?_
      refine am_idiv 133 C dX12_passes_133 (by decide) ?_
      refine am_bipush 134 (nI 8) C dX12_passes_134 (by decide) ?_
      refine am_irem 136 C dX12_passes_136 (by decide) ?_
      refine am_iload_n 137 C dX12_passes_137 rfl 2 rfl ?_
      refine am_iconst 138 (nI 2) C dX12_passes_138 (by decide) ?_
      refine am_irem 139 C dX12_passes_139 (by decide) ?_
      refine am_iconst 140 (0 : Int32) C dX12_passes_140 (by decide) ?_
      obtain ⟨v10, s11, Ec, E⟩ := am_b2E E
      refine as_callV 141 (s2 := s11) (st := []) (st2 := [.int v10]) [.int v7, .int (v8 / (nI 16)), .int ((v8 / (nI 2)) - (v8 / (nI 2)) / (nI 8) * (nI 8)), .int (v8 - v8 / (nI 2) * (nI 2)), .int (0 : Int32)] C A (by decide) ml_X12_377 yc_X12_says yv_X12_says (t_X12_says v7 (v8 / (nI 16)) ((v8 / (nI 2)) - (v8 / (nI 2)) / (nI 8) * (nI 8)) (v8 - v8 / (nI 2) * (nI 2)) (0 : Int32) s9 Ec) (by decide) sh_248 rfl rfl (Nat.le_of_ble_eq_true rfl) rfl dX12_passes_141 ?_
      refine am_lvs [0] rfl ?_
      exact K144 _ _ E
    · have E := am_ifF E c12
      refine am_iconst 121 (0 : Int32) C dX12_passes_121 (by decide) ?_
      refine am_goto 122 144 C dX12_passes_122 (by decide) ?_
      refine am_lvs [0] rfl ?_
      exact K144 _ _ E
  refine am_aload_n 0 C dX12_passes_0 rfl 0 rfl ?_
  refine as_getr 1 C fl_X12_39_11 dX12_passes_1 (by decide) sh_248 (rf_248_20 _ _) ?_
  refine am_bipush 4 (nI 7) C dX12_passes_4 (by decide) ?_
  refine as_ialdK 6 7 C dX12_passes_6 (by decide) sh_258 (by decide) (by decide) ?_
  refine am_aload_n 7 C dX12_passes_7 rfl 0 rfl ?_
  refine as_getr 8 C fl_X12_39_11 dX12_passes_8 (by decide) sh_248 (rf_248_20 _ _) ?_
  refine am_iconst 11 (nI 2) C dX12_passes_11 (by decide) ?_
  refine as_ialdK 12 2 C dX12_passes_12 (by decide) sh_258 (by decide) (by decide) ?_
  obtain ⟨g13, E⟩ := am_gdE E
  refine am_irem 13 C dX12_passes_13 g13 ?_
  obtain ⟨v14, hv14, E⟩ := am_ltE E
  refine as_nm hv14 ?_
  refine am_istore_n 14 (lv2 := [(2, .int v14), (0, .ref 248), (1, .int p1)]) C dX12_passes_14 rfl (by decide) rfl ?_
  refine am_iconst 15 (-1 : Int32) C dX12_passes_15 (by decide) ?_
  refine am_istore_n 16 (lv2 := [(3, .int (-1 : Int32)), (2, .int v14), (0, .ref 248), (1, .int p1)]) C dX12_passes_16 rfl (by decide) rfl ?_
  refine am_lconst 17 (0 : Int64) C dX12_passes_17 (by decide) ?_
  refine am_lstore 18 (lv2 := [(4, .long (0 : Int64)), (3, .int (-1 : Int32)), (2, .int v14), (0, .ref 248), (1, .int p1)]) C dX12_passes_18 (by decide) rfl ?_
  refine am_iconst 20 (0 : Int32) C dX12_passes_20 (by decide) ?_
  refine am_istore 21 (lv2 := [(6, .int (0 : Int32)), (4, .long (0 : Int64)), (3, .int (-1 : Int32)), (2, .int v14), (0, .ref 248), (1, .int p1)]) C dX12_passes_21 (by decide) rfl ?_
  have LP15 : ∀ (n : Nat) (v16 : Int32) (w17 : Int64) (v18 : Int32) (s19 : am_S), am_lp (fun (q : Int32 × Int64 × Int32 × am_S) => b_X12_passes_23 p1 v14 q.1 q.2.1 q.2.2.1 q.2.2.2) n (v16, w17, v18, s19) = some z → AX x 0 0 23 [(0, .ref 248), (1, .int p1), (2, .int v14), (3, .int v16), (4, .long w17), (6, .int v18)] [] am_N (am_h s19) := by
    intro n
    induction n with
    | zero => intro v16 w17 v18 s19 E; exact (am_lp0 E).elim
    | succ n ih15 =>
      intro v16 w17 v18 s19 E
      obtain ⟨r15, E, Er15⟩ := am_lpE E
      replace E : b_X12_passes_23 p1 v14 v16 w17 v18 s19 = some r15 := E
      unfold b_X12_passes_23 at E
      refine am_iload 23 C dX12_passes_23 5 rfl ?_
      refine am_bipush 25 (nI 16) C dX12_passes_25 (by decide) ?_
      refine am_aload_n 27 C dX12_passes_27 rfl 0 rfl ?_
      refine as_getr 28 C fl_X12_39_11 dX12_passes_28 (by decide) sh_248 (rf_248_20 _ _) ?_
      refine am_iconst 31 (nI 2) C dX12_passes_31 (by decide) ?_
      refine as_ialdK 32 2 C dX12_passes_32 (by decide) sh_258 (by decide) (by decide) ?_
      refine am_imul 33 C dX12_passes_33 ?_
      refine am_icmp_ge 34 117 C dX12_passes_34 (by decide) (fun c32 => ?_) (fun c32 => ?_)
      · have E := am_ifT E c32
        obtain ⟨e20, E, E2⟩ := am_bdE E
        replace E2 := Option.some.inj E2
        replace E2 := am_exR E2 Er15
        rw [E2] at E
        refine am_lvs [0, 2, 3] rfl ?_
        exact K117 _ _ _ E
      · have E := am_ifF E c32
        refine am_iload 37 C dX12_passes_37 5 rfl ?_
        refine am_bipush 39 (nI 16) C dX12_passes_39 (by decide) ?_
        refine am_idiv 41 C dX12_passes_41 (by decide) ?_
        obtain ⟨v21, hv21, E⟩ := am_ltE E
        refine as_nm hv21 ?_
        refine am_istore 42 (lv2 := [(7, .int v21), (0, .ref 248), (1, .int p1), (2, .int v14), (3, .int v16), (4, .long w17), (6, .int v18)]) C dX12_passes_42 (by decide) rfl ?_
        refine am_iload 44 C dX12_passes_44 6 rfl ?_
        refine am_iconst 46 (nI 2) C dX12_passes_46 (by decide) ?_
        refine am_idiv 47 C dX12_passes_47 (by decide) ?_
        refine am_bipush 48 (nI 8) C dX12_passes_48 (by decide) ?_
        refine am_irem 50 C dX12_passes_50 (by decide) ?_
        obtain ⟨v22, hv22, E⟩ := am_ltE E
        refine as_nm hv22 ?_
        refine am_istore 51 (lv2 := [(8, .int v22), (7, .int v21), (0, .ref 248), (1, .int p1), (2, .int v14), (3, .int v16), (4, .long w17), (6, .int v18)]) C dX12_passes_51 (by decide) rfl ?_
        refine am_aload_n 53 C dX12_passes_53 rfl 2 rfl ?_
        refine am_iload_n 54 C dX12_passes_54 rfl 4 rfl ?_
        refine am_iload 55 C dX12_passes_55 1 rfl ?_
        refine am_iload 57 C dX12_passes_57 0 rfl ?_
        refine am_iload 59 C dX12_passes_59 7 rfl ?_
        refine am_iconst 61 (nI 2) C dX12_passes_61 (by decide) ?_
        refine am_irem 62 C dX12_passes_62 (by decide) ?_
        obtain ⟨v23, Ec, E⟩ := am_bdE E
        refine as_callV 63 (s2 := s19) (st := []) (st2 := [.int v23]) [.int v14, .int v21, .int v22, .int (v18 - v18 / (nI 2) * (nI 2))] C A (by decide) ml_X12_370 yc_X12_maySay yv_X12_maySay (t_X12_maySay v14 v21 v22 (v18 - v18 / (nI 2) * (nI 2)) s19 Ec) (by decide) sh_248 rfl rfl (Nat.le_of_ble_eq_true rfl) rfl dX12_passes_63 ?_
        refine am_if_ne 66 72 C dX12_passes_66 (by decide) (fun c31 => ?_) (fun c31 => ?_)
        · have E := am_ifF E c31
          refine am_aload_n 72 C dX12_passes_72 rfl 2 rfl ?_
          refine am_iload_n 73 C dX12_passes_73 rfl 4 rfl ?_
          refine am_iload 74 C dX12_passes_74 1 rfl ?_
          refine am_iload 76 C dX12_passes_76 0 rfl ?_
          refine am_iload 78 C dX12_passes_78 7 rfl ?_
          refine am_iconst 80 (nI 2) C dX12_passes_80 (by decide) ?_
          refine am_irem 81 C dX12_passes_81 (by decide) ?_
          refine am_iconst 82 (0 : Int32) C dX12_passes_82 (by decide) ?_
          obtain ⟨s24, Ec, E⟩ := am_bdE E
          refine as_callV 83 (s2 := s24) (st := []) (st2 := []) [.int v14, .int v21, .int v22, .int (v18 - v18 / (nI 2) * (nI 2)), .int (0 : Int32)] C A (by decide) ml_X12_351 yc_X12_words yv_X12_words (t_X12_words v14 v21 v22 (v18 - v18 / (nI 2) * (nI 2)) (0 : Int32) s19 Ec) (by decide) sh_248 rfl rfl (Nat.le_of_ble_eq_true rfl) rfl dX12_passes_83 ?_
          refine am_aload_n 86 C dX12_passes_86 rfl 2 rfl ?_
          refine am_iload_n 87 C dX12_passes_87 rfl 3 rfl ?_
          obtain ⟨w25, s26, Ec, E⟩ := am_b2E E
          refine as_callV 88 (s2 := s26) (st := []) (st2 := [.long w25]) [.int p1] C A (by decide) ml_X12_390 yc_X12_summedBy yv_X12_summedBy (t_X12_summedBy p1 s24 Ec) (by decide) sh_248 rfl rfl (Nat.le_of_ble_eq_true rfl) rfl dX12_passes_88 ?_
          refine am_lstore 91 (lv2 := [(9, .long w25), (8, .int v22), (7, .int v21), (0, .ref 248), (1, .int p1), (2, .int v14), (3, .int v16), (4, .long w17), (6, .int v18)]) C dX12_passes_91 (by decide) rfl ?_
          refine am_lload 93 C dX12_passes_93 0 rfl ?_
          refine am_lload 95 C dX12_passes_95 7 rfl ?_
          refine am_lcmp 97 C dX12_passes_97 ?_
          refine am_if_gt 98 104 C dX12_passes_98 (by decide) (fun c29 => ?_) (fun c29 => ?_)
          · have E := am_ifT E c29
            refine am_iload 104 C dX12_passes_104 8 rfl ?_
            refine am_istore_n 106 (lv2 := [(3, .int v18), (9, .long w25), (8, .int v22), (7, .int v21), (0, .ref 248), (1, .int p1), (2, .int v14), (4, .long w17), (6, .int v18)]) C dX12_passes_106 rfl (by decide) rfl ?_
            refine am_lload 107 C dX12_passes_107 1 rfl ?_
            refine am_lstore 109 (lv2 := [(4, .long w25), (3, .int v18), (9, .long w25), (8, .int v22), (7, .int v21), (0, .ref 248), (1, .int p1), (2, .int v14), (6, .int v18)]) C dX12_passes_109 (by decide) rfl ?_
            obtain ⟨v27, hv27, E⟩ := am_ltE E
            refine as_iinc 111 (q := (1 : Int32)) (lv2 := [(6, .int v27), (4, .long w25), (3, .int v18), (9, .long w25), (8, .int v22), (7, .int v21), (0, .ref 248), (1, .int p1), (2, .int v14)]) C dX12_passes_111 8 rfl (by decide) hv27 (by decide) rfl ?_
            refine am_goto 114 23 C dX12_passes_114 (by decide) ?_
            replace E := Option.some.inj E
            replace E := am_exL E Er15
            refine am_lvs [6, 7, 8, 2, 1, 0] rfl ?_
            exact ih15 _ _ _ _ E
          · have E := am_ifF E c29
            refine am_goto 101 111 C dX12_passes_101 (by decide) ?_
            obtain ⟨v28, hv28, E⟩ := am_ltE E
            refine as_iinc 111 (q := (1 : Int32)) (lv2 := [(6, .int v28), (9, .long w25), (8, .int v22), (7, .int v21), (0, .ref 248), (1, .int p1), (2, .int v14), (3, .int v16), (4, .long w17)]) C dX12_passes_111 8 rfl (by decide) hv28 (by decide) rfl ?_
            refine am_goto 114 23 C dX12_passes_114 (by decide) ?_
            replace E := Option.some.inj E
            replace E := am_exL E Er15
            refine am_lvs [4, 5, 6, 7, 8, 0] rfl ?_
            exact ih15 _ _ _ _ E
        · have E := am_ifT E c31
          refine am_goto 69 111 C dX12_passes_69 (by decide) ?_
          obtain ⟨v30, hv30, E⟩ := am_ltE E
          refine as_iinc 111 (q := (1 : Int32)) (lv2 := [(6, .int v30), (8, .int v22), (7, .int v21), (0, .ref 248), (1, .int p1), (2, .int v14), (3, .int v16), (4, .long w17)]) C dX12_passes_111 7 rfl (by decide) hv30 (by decide) rfl ?_
          refine am_goto 114 23 C dX12_passes_114 (by decide) ?_
          replace E := Option.some.inj E
          replace E := am_exL E Er15
          refine am_lvs [3, 4, 5, 6, 7, 0] rfl ?_
          exact ih15 _ _ _ _ E
  refine am_lvs [4, 5, 3, 2, 1, 0] rfl ?_
  exact LP15 am_F _ _ _ _ E
def b_X12_run_67 (p1 : Int32) (p2 : Int32) (v7 : Int32) (v8 : Int32) (s9 : am_S) : Option ((Int32 × Int32 × am_S) ⊕ (Int32 × am_S)) :=
  am_if (p2 ≤ v8) (some (Sum.inr (v7, s9))) (am_b2 (f_X12_passes p1 s9) (fun v10 s11 => am_lt (v7 + v10) (fun v12 => am_lt (v8 + (1 : Int32)) (fun v13 => some (Sum.inl (v12, v13, s11))))))
def f_X12_run (p1 : Int32) (p2 : Int32) (s0 : am_S) : Option (Int32 × am_S) :=
  am_if ((s0.1 258 2) = 0) (some ((-1 : Int32), s0)) (am_bd (f_X12_isRule p1 s0) (fun v3 => am_if (v3 = 0) (some ((-1 : Int32), s0)) (am_bd (f_X12_in (p2).toInt64 (1 : Int64) (96 : Int64)) (fun v4 => am_if (v4 = 0) (some ((-1 : Int32), s0)) (am_if (((s0.1 258 6) + (((s0.1 258 7) + p2) / (nI 24))) ≤ (nI 9999)) (am_lt (as_i s0 248 25 (0 : Int32)) (fun s5 => am_lp (fun (q : Int32 × Int32 × am_S) => b_X12_run_67 p1 p2 q.1 q.2.1 q.2.2) am_F ((0 : Int32), (0 : Int32), s5))) (some ((-1 : Int32), s0)))))))
set_option maxRecDepth 100000 in
set_option maxHeartbeats 4000000 in
theorem t_X12_run (p1 : Int32) (p2 : Int32) (s0 : am_S) {z : Int32 × am_S} (E : f_X12_run p1 p2 s0 = some z) : AS yX12_run cX12_run 5 (some .int) 8 [.ref 248, .int p1, .int p2] s0 (some (.int z.1)) z.2 := by
  unfold f_X12_run at E
  refine as_met (lv := [(0, .ref 248), (1, .int p1), (2, .int p2)]) (by decide +kernel) (by simp [lg_sl, Value.category]) rfl (fun x C A Z => ?_)
  refine am_aload_n 0 C dX12_run_0 rfl 0 rfl ?_
  refine as_getr 1 C fl_X12_39_11 dX12_run_1 (by decide) sh_248 (rf_248_20 _ _) ?_
  refine am_iconst 4 (nI 2) C dX12_run_4 (by decide) ?_
  refine as_ialdK 5 2 C dX12_run_5 (by decide) sh_258 (by decide) (by decide) ?_
  refine am_if_eq 6 55 C dX12_run_6 (by decide) (fun c18 => ?_) (fun c18 => ?_)
  · have E := am_ifT E c18
    refine am_iconst 55 (-1 : Int32) C dX12_run_55 (by decide) ?_
    replace E := Option.some.inj E
    subst E
    exact as_iret 56 C Z rfl dX12_run_56
  · have E := am_ifF E c18
    refine am_aload_n 9 C dX12_run_9 rfl 0 rfl ?_
    refine am_iload_n 10 C dX12_run_10 rfl 1 rfl ?_
    obtain ⟨v3, Ec, E⟩ := am_bdE E
    refine as_callV 11 (s2 := s0) (st := []) (st2 := [.int v3]) [.int p1] C A (by decide) ml_X12_302 yc_X12_isRule yv_X12_isRule (t_X12_isRule p1 s0 Ec) (by decide) sh_248 rfl rfl (Nat.le_of_ble_eq_true rfl) rfl dX12_run_11 ?_
    refine am_if_eq 14 55 C dX12_run_14 (by decide) (fun c17 => ?_) (fun c17 => ?_)
    · have E := am_ifT E c17
      refine am_iconst 55 (-1 : Int32) C dX12_run_55 (by decide) ?_
      replace E := Option.some.inj E
      subst E
      exact as_iret 56 C Z rfl dX12_run_56
    · have E := am_ifF E c17
      refine am_iload_n 17 C dX12_run_17 rfl 2 rfl ?_
      refine am_i2l 18 C dX12_run_18 ?_
      refine am_lconst 19 (1 : Int64) C dX12_run_19 (by decide) ?_
      refine am_ldc2 20 C dX12_run_20 kl_X12_394 ?_
      obtain ⟨v4, Ec, E⟩ := am_bdE E
      refine as_callS 23 (s2 := s0) (st := []) (st2 := [.int v4]) [.long (p2).toInt64, .long (1 : Int64), .long (96 : Int64)] C A (by decide) ml_X12_106 yc_X12_in ys_X12_in (t_X12_in (p2).toInt64 (1 : Int64) (96 : Int64) s0 Ec) rfl rfl (Nat.le_of_ble_eq_true rfl) rfl dX12_run_23 ?_
      refine am_if_eq 26 55 C dX12_run_26 (by decide) (fun c16 => ?_) (fun c16 => ?_)
      · have E := am_ifT E c16
        refine am_iconst 55 (-1 : Int32) C dX12_run_55 (by decide) ?_
        replace E := Option.some.inj E
        subst E
        exact as_iret 56 C Z rfl dX12_run_56
      · have E := am_ifF E c16
        refine am_aload_n 29 C dX12_run_29 rfl 0 rfl ?_
        refine as_getr 30 C fl_X12_39_11 dX12_run_30 (by decide) sh_248 (rf_248_20 _ _) ?_
        refine am_bipush 33 (nI 6) C dX12_run_33 (by decide) ?_
        refine as_ialdK 35 6 C dX12_run_35 (by decide) sh_258 (by decide) (by decide) ?_
        refine am_aload_n 36 C dX12_run_36 rfl 0 rfl ?_
        refine as_getr 37 C fl_X12_39_11 dX12_run_37 (by decide) sh_248 (rf_248_20 _ _) ?_
        refine am_bipush 40 (nI 7) C dX12_run_40 (by decide) ?_
        refine as_ialdK 42 7 C dX12_run_42 (by decide) sh_258 (by decide) (by decide) ?_
        refine am_iload_n 43 C dX12_run_43 rfl 2 rfl ?_
        refine am_iadd 44 C dX12_run_44 ?_
        refine am_bipush 45 (nI 24) C dX12_run_45 (by decide) ?_
        refine am_idiv 47 C dX12_run_47 (by decide) ?_
        refine am_iadd 48 C dX12_run_48 ?_
        refine am_sipush 49 (nI 9999) C dX12_run_49 (by decide) ?_
        refine am_icmp_le 52 57 C dX12_run_52 (by decide) (fun c15 => ?_) (fun c15 => ?_)
        · have E := am_ifT E c15
          refine am_aload_n 57 C dX12_run_57 rfl 0 rfl ?_
          refine am_iconst 58 (0 : Int32) C dX12_run_58 (by decide) ?_
          obtain ⟨s5, hs5, E⟩ := am_ltE E
          refine as_puti 59 C fl_X12_281_11 dX12_run_59 (by decide) sh_248 rfl rfl hs5 ?_
          refine am_iconst 62 (0 : Int32) C dX12_run_62 (by decide) ?_
          refine am_istore_n 63 (lv2 := [(3, .int (0 : Int32)), (0, .ref 248), (1, .int p1), (2, .int p2)]) C dX12_run_63 rfl (by decide) rfl ?_
          refine am_iconst 64 (0 : Int32) C dX12_run_64 (by decide) ?_
          refine am_istore 65 (lv2 := [(4, .int (0 : Int32)), (3, .int (0 : Int32)), (0, .ref 248), (1, .int p1), (2, .int p2)]) C dX12_run_65 (by decide) rfl ?_
          have LP6 : ∀ (n : Nat) (v7 : Int32) (v8 : Int32) (s9 : am_S), am_lp (fun (q : Int32 × Int32 × am_S) => b_X12_run_67 p1 p2 q.1 q.2.1 q.2.2) n (v7, v8, s9) = some z → AX x 0 0 67 [(0, .ref 248), (1, .int p1), (2, .int p2), (3, .int v7), (4, .int v8)] [] am_N (am_h s9) := by
            intro n
            induction n with
            | zero => intro v7 v8 s9 E; exact (am_lp0 E).elim
            | succ n ih6 =>
              intro v7 v8 s9 E
              obtain ⟨r6, E, Er6⟩ := am_lpE E
              replace E : b_X12_run_67 p1 p2 v7 v8 s9 = some r6 := E
              unfold b_X12_run_67 at E
              refine am_iload 67 C dX12_run_67 4 rfl ?_
              refine am_iload_n 69 C dX12_run_69 rfl 2 rfl ?_
              refine am_icmp_ge 70 87 C dX12_run_70 (by decide) (fun c14 => ?_) (fun c14 => ?_)
              · have E := am_ifT E c14
                refine am_iload_n 87 C dX12_run_87 rfl 3 rfl ?_
                replace E := Option.some.inj E
                replace E := am_exR E Er6
                subst E
                exact as_iret 88 C Z rfl dX12_run_88
              · have E := am_ifF E c14
                refine am_iload_n 73 C dX12_run_73 rfl 3 rfl ?_
                refine am_aload_n 74 C dX12_run_74 rfl 0 rfl ?_
                refine am_iload_n 75 C dX12_run_75 rfl 1 rfl ?_
                obtain ⟨v10, s11, Ec, E⟩ := am_b2E E
                refine as_callV 76 (s2 := s11) (st := [.int v7]) (st2 := [.int v10, .int v7]) [.int p1] C A (by decide) ml_X12_396 yc_X12_passes yv_X12_passes (t_X12_passes p1 s9 Ec) (by decide) sh_248 rfl rfl (Nat.le_of_ble_eq_true rfl) rfl dX12_run_76 ?_
                refine am_iadd 79 C dX12_run_79 ?_
                obtain ⟨v12, hv12, E⟩ := am_ltE E
                refine as_nm hv12 ?_
                refine am_istore_n 80 (lv2 := [(3, .int v12), (0, .ref 248), (1, .int p1), (2, .int p2), (4, .int v8)]) C dX12_run_80 rfl (by decide) rfl ?_
                obtain ⟨v13, hv13, E⟩ := am_ltE E
                refine as_iinc 81 (q := (1 : Int32)) (lv2 := [(4, .int v13), (3, .int v12), (0, .ref 248), (1, .int p1), (2, .int p2)]) C dX12_run_81 4 rfl (by decide) hv13 (by decide) rfl ?_
                refine am_goto 84 67 C dX12_run_84 (by decide) ?_
                replace E := Option.some.inj E
                replace E := am_exL E Er6
                refine am_lvs [2, 3, 4, 1, 0] rfl ?_
                exact ih6 _ _ _ E
          refine am_lvs [2, 3, 4, 1, 0] rfl ?_
          exact LP6 am_F _ _ _ E
        · have E := am_ifF E c15
          refine am_iconst 55 (-1 : Int32) C dX12_run_55 (by decide) ?_
          replace E := Option.some.inj E
          subst E
          exact as_iret 56 C Z rfl dX12_run_56
def f_X12_breach (p1 : Int32) (s0 : am_S) : Option (Int32) :=
  am_bd (f_X12_isTown s0) (fun v2 => am_if (v2 = 0) (some (-1 : Int32)) (am_bd (f_X12_in (p1).toInt64 (0 : Int64) (1 : Int64)) (fun v3 => am_if (v3 = 0) (some (-1 : Int32)) (am_if (0 ≤ (s0.1 258 9)) (am_lt ((nI 8) + p1) (fun v4 => am_gd (¬ v4 < 0 ∧ (v4).toNatClampNeg < 328) (some (s0.1 258 (v4).toNatClampNeg)))) (some (-2 : Int32))))))
set_option maxRecDepth 100000 in
set_option maxHeartbeats 4000000 in
theorem t_X12_breach (p1 : Int32) (s0 : am_S) {z : Int32} (E : f_X12_breach p1 s0 = some z) : AS yX12_breach cX12_breach 2 (some .int) 2 [.ref 248, .int p1] s0 (some (.int z)) s0 := by
  unfold f_X12_breach at E
  refine as_met (lv := [(0, .ref 248), (1, .int p1)]) (by decide +kernel) (by simp [lg_sl, Value.category]) rfl (fun x C A Z => ?_)
  refine am_aload_n 0 C dX12_breach_0 rfl 0 rfl ?_
  obtain ⟨v2, Ec, E⟩ := am_bdE E
  refine as_callV 1 (s2 := s0) (st := []) (st2 := [.int v2]) [] C A (by decide) ml_X12_384 yc_X12_isTown yv_X12_isTown (t_X12_isTown  s0 Ec) (by decide) sh_248 rfl rfl (Nat.le_of_ble_eq_true rfl) rfl dX12_breach_1 ?_
  refine am_if_eq 4 17 C dX12_breach_4 (by decide) (fun c8 => ?_) (fun c8 => ?_)
  · have E := am_ifT E c8
    refine am_iconst 17 (-1 : Int32) C dX12_breach_17 (by decide) ?_
    replace E := Option.some.inj E
    subst E
    exact as_iret 18 C Z rfl dX12_breach_18
  · have E := am_ifF E c8
    refine am_iload_n 7 C dX12_breach_7 rfl 1 rfl ?_
    refine am_i2l 8 C dX12_breach_8 ?_
    refine am_lconst 9 (0 : Int64) C dX12_breach_9 (by decide) ?_
    refine am_lconst 10 (1 : Int64) C dX12_breach_10 (by decide) ?_
    obtain ⟨v3, Ec, E⟩ := am_bdE E
    refine as_callS 11 (s2 := s0) (st := []) (st2 := [.int v3]) [.long (p1).toInt64, .long (0 : Int64), .long (1 : Int64)] C A (by decide) ml_X12_106 yc_X12_in ys_X12_in (t_X12_in (p1).toInt64 (0 : Int64) (1 : Int64) s0 Ec) rfl rfl (Nat.le_of_ble_eq_true rfl) rfl dX12_breach_11 ?_
    refine am_if_ne 14 19 C dX12_breach_14 (by decide) (fun c7 => ?_) (fun c7 => ?_)
    · have E := am_ifF E c7
      refine am_aload_n 19 C dX12_breach_19 rfl 0 rfl ?_
      refine as_getr 20 C fl_X12_39_11 dX12_breach_20 (by decide) sh_248 (rf_248_20 _ _) ?_
      refine am_bipush 23 (nI 9) C dX12_breach_23 (by decide) ?_
      refine as_ialdK 25 9 C dX12_breach_25 (by decide) sh_258 (by decide) (by decide) ?_
      refine am_if_ge 26 34 C dX12_breach_26 (by decide) (fun c6 => ?_) (fun c6 => ?_)
      · have E := am_ifT E c6
        refine am_aload_n 34 C dX12_breach_34 rfl 0 rfl ?_
        refine as_getr 35 C fl_X12_39_11 dX12_breach_35 (by decide) sh_248 (rf_248_20 _ _) ?_
        refine am_bipush 38 (nI 8) C dX12_breach_38 (by decide) ?_
        refine am_iload_n 40 C dX12_breach_40 rfl 1 rfl ?_
        refine am_iadd 41 C dX12_breach_41 ?_
        obtain ⟨v4, hv4, E⟩ := am_ltE E
        refine as_nm hv4 ?_
        obtain ⟨g5, E⟩ := am_gdE E
        refine as_iald 42 C dX12_breach_42 (by decide) sh_258 g5 ?_
        replace E := Option.some.inj E
        subst E
        exact as_iret 43 C Z rfl dX12_breach_43
      · have E := am_ifF E c6
        refine am_bipush 29 (-2 : Int32) C dX12_breach_29 (by decide) ?_
        refine am_goto 31 43 C dX12_breach_31 (by decide) ?_
        replace E := Option.some.inj E
        subst E
        exact as_iret 43 C Z rfl dX12_breach_43
    · have E := am_ifT E c7
      refine am_iconst 17 (-1 : Int32) C dX12_breach_17 (by decide) ?_
      replace E := Option.some.inj E
      subst E
      exact as_iret 18 C Z rfl dX12_breach_18
def b_X12_areTold_2 (p1 : Int32) (s0 : am_S) (v3 : Int32) : Option ((Int32) ⊕ (Int32)) :=
  am_if ((s0.1 258 2) ≤ v3) (some (Sum.inr (1 : Int32))) (am_bd (f_X12_besides v3 s0) (fun v4 => am_if ((v4 &&& p1) = 0) (some (Sum.inr (0 : Int32))) (am_lt (v3 + (1 : Int32)) (fun v5 => some (Sum.inl v5)))))
def f_X12_areTold (p1 : Int32) (s0 : am_S) : Option (Int32) :=
  am_lp (fun (q : Int32) => b_X12_areTold_2 p1 s0 q) am_F (0 : Int32)
set_option maxRecDepth 100000 in
set_option maxHeartbeats 4000000 in
theorem t_X12_areTold (p1 : Int32) (s0 : am_S) {z : Int32} (E : f_X12_areTold p1 s0 = some z) : AS yX12_areTold cX12_areTold 3 (some .boolean) 3 [.ref 248, .int p1] s0 (some (.int z)) s0 := by
  unfold f_X12_areTold at E
  refine as_met (lv := [(0, .ref 248), (1, .int p1)]) (by decide +kernel) (by simp [lg_sl, Value.category]) rfl (fun x C A Z => ?_)
  refine am_iconst 0 (0 : Int32) C dX12_areTold_0 (by decide) ?_
  refine am_istore_n 1 (lv2 := [(2, .int (0 : Int32)), (0, .ref 248), (1, .int p1)]) C dX12_areTold_1 rfl (by decide) rfl ?_
  have LP2 : ∀ (n : Nat) (v3 : Int32), am_lp (fun (q : Int32) => b_X12_areTold_2 p1 s0 q) n v3 = some z → AX x 0 0 2 [(0, .ref 248), (1, .int p1), (2, .int v3)] [] am_N (am_h s0) := by
    intro n
    induction n with
    | zero => intro v3 E; exact (am_lp0 E).elim
    | succ n ih2 =>
      intro v3 E
      obtain ⟨r2, E, Er2⟩ := am_lpE E
      replace E : b_X12_areTold_2 p1 s0 v3 = some r2 := E
      unfold b_X12_areTold_2 at E
      refine am_iload_n 2 C dX12_areTold_2 rfl 2 rfl ?_
      refine am_aload_n 3 C dX12_areTold_3 rfl 0 rfl ?_
      refine as_getr 4 C fl_X12_39_11 dX12_areTold_4 (by decide) sh_248 (rf_248_20 _ _) ?_
      refine am_iconst 7 (nI 2) C dX12_areTold_7 (by decide) ?_
      refine as_ialdK 8 2 C dX12_areTold_8 (by decide) sh_258 (by decide) (by decide) ?_
      refine am_icmp_ge 9 30 C dX12_areTold_9 (by decide) (fun c7 => ?_) (fun c7 => ?_)
      · have E := am_ifT E c7
        refine am_iconst 30 (1 : Int32) C dX12_areTold_30 (by decide) ?_
        replace E := Option.some.inj E
        replace E := am_exR E Er2
        subst E
        exact as_iret 31 C Z rfl dX12_areTold_31
      · have E := am_ifF E c7
        refine am_aload_n 12 C dX12_areTold_12 rfl 0 rfl ?_
        refine am_iload_n 13 C dX12_areTold_13 rfl 2 rfl ?_
        obtain ⟨v4, Ec, E⟩ := am_bdE E
        refine as_callV 14 (s2 := s0) (st := []) (st2 := [.int v4]) [.int v3] C A (by decide) ml_X12_336 yc_X12_besides yv_X12_besides (t_X12_besides v3 s0 Ec) (by decide) sh_248 rfl rfl (Nat.le_of_ble_eq_true rfl) rfl dX12_areTold_14 ?_
        refine am_iload_n 17 C dX12_areTold_17 rfl 1 rfl ?_
        refine am_iand 18 C dX12_areTold_18 ?_
        refine am_if_ne 19 24 C dX12_areTold_19 (by decide) (fun c6 => ?_) (fun c6 => ?_)
        · have E := am_ifF E c6
          obtain ⟨v5, hv5, E⟩ := am_ltE E
          refine as_iinc 24 (q := (1 : Int32)) (lv2 := [(2, .int v5), (0, .ref 248), (1, .int p1)]) C dX12_areTold_24 2 rfl (by decide) hv5 (by decide) rfl ?_
          refine am_goto 27 2 C dX12_areTold_27 (by decide) ?_
          replace E := Option.some.inj E
          replace E := am_exL E Er2
          refine am_lvs [1, 2, 0] rfl ?_
          exact ih2 _ E
        · have E := am_ifT E c6
          refine am_iconst 22 (0 : Int32) C dX12_areTold_22 (by decide) ?_
          replace E := Option.some.inj E
          replace E := am_exR E Er2
          subst E
          exact as_iret 23 C Z rfl dX12_areTold_23
  refine am_lvs [1, 2, 0] rfl ?_
  exact LP2 am_F _ E
def j_X12_tellers_67 (p1 : Int32) (v2 : Int32) : Option (Int32) :=
  am_if (0 ≤ v2) (am_if (p1 = 0) (am_bd (f_X12_bits v2) (fun v3 => some v3)) (some v2)) (some (-2 : Int32))
def j_X12_tellers_51 (s0 : am_S) (v11 : Int32) (v12 : Int32) : Option ((Int32 × Int32) ⊕ (Int32)) :=
  am_bd (f_X12_areTold v12 s0) (fun v13 => am_if (v13 = 0) (am_lt (v12 + (1 : Int32)) (fun v14 => some (Sum.inl (v11, v14)))) (am_lt (v12 + (1 : Int32)) (fun v15 => some (Sum.inl (v12, v15)))))
def b_X12_tellers_24 (p1 : Int32) (s0 : am_S) (v9 : Int32) (v10 : Int32) : Option ((Int32 × Int32) ⊕ (Int32)) :=
  am_if (((1 : Int32) <<< ((s0.1 258 2) &&& 31)) ≤ v10) (am_bd (j_X12_tellers_67 p1 v9) (fun e17 => some (Sum.inr e17))) (am_if (v9 < 0) (j_X12_tellers_51 s0 v9 v10) (am_bd (f_X12_bits v10) (fun v18 => am_bd (f_X12_bits v9) (fun v19 => am_if (v19 ≤ v18) (am_lt (v10 + (1 : Int32)) (fun v20 => some (Sum.inl (v9, v20)))) (j_X12_tellers_51 s0 v9 v10)))))
def f_X12_tellers (p1 : Int32) (s0 : am_S) : Option (Int32) :=
  am_bd (f_X12_isTown s0) (fun v6 => am_if (v6 = 0) (some (-1 : Int32)) (am_bd (f_X12_in (p1).toInt64 (0 : Int64) (1 : Int64)) (fun v7 => am_if (v7 = 0) (some (-1 : Int32)) (am_lp (fun (q : Int32 × Int32) => b_X12_tellers_24 p1 s0 q.1 q.2) am_F ((-2 : Int32), (0 : Int32))))))
set_option maxRecDepth 100000 in
set_option maxHeartbeats 4000000 in
theorem t_X12_tellers (p1 : Int32) (s0 : am_S) {z : Int32} (E : f_X12_tellers p1 s0 = some z) : AS yX12_tellers cX12_tellers 4 (some .int) 4 [.ref 248, .int p1] s0 (some (.int z)) s0 := by
  unfold f_X12_tellers at E
  refine as_met (lv := [(0, .ref 248), (1, .int p1)]) (by decide +kernel) (by simp [lg_sl, Value.category]) rfl (fun x C A Z => ?_)
  have K67 : ∀ (v2 : Int32), j_X12_tellers_67 p1 v2 = some z → AX x 0 0 67 [(0, .ref 248), (1, .int p1), (2, .int v2)] [] am_N (am_h s0) := by
    intro v2 E
    unfold j_X12_tellers_67 at E
    refine am_iload_n 67 C dX12_tellers_67 rfl 2 rfl ?_
    refine am_if_ge 68 76 C dX12_tellers_68 (by decide) (fun c5 => ?_) (fun c5 => ?_)
    · have E := am_ifT E c5
      refine am_iload_n 76 C dX12_tellers_76 rfl 1 rfl ?_
      refine am_if_ne 77 87 C dX12_tellers_77 (by decide) (fun c4 => ?_) (fun c4 => ?_)
      · have E := am_ifF E c4
        refine am_iload_n 87 C dX12_tellers_87 rfl 2 rfl ?_
        replace E := Option.some.inj E
        subst E
        exact as_iret 88 C Z rfl dX12_tellers_88
      · have E := am_ifT E c4
        refine am_iload_n 80 C dX12_tellers_80 rfl 2 rfl ?_
        obtain ⟨v3, Ec, E⟩ := am_bdE E
        refine as_callS 81 (s2 := s0) (st := []) (st2 := [.int v3]) [.int v2] C A (by decide) ml_X12_399 yc_X12_bits ys_X12_bits (t_X12_bits v2 s0 Ec) rfl rfl (Nat.le_of_ble_eq_true rfl) rfl dX12_tellers_81 ?_
        refine am_goto 84 88 C dX12_tellers_84 (by decide) ?_
        replace E := Option.some.inj E
        subst E
        exact as_iret 88 C Z rfl dX12_tellers_88
    · have E := am_ifF E c5
      refine am_bipush 71 (-2 : Int32) C dX12_tellers_71 (by decide) ?_
      refine am_goto 73 88 C dX12_tellers_73 (by decide) ?_
      replace E := Option.some.inj E
      subst E
      exact as_iret 88 C Z rfl dX12_tellers_88
  refine am_aload_n 0 C dX12_tellers_0 rfl 0 rfl ?_
  obtain ⟨v6, Ec, E⟩ := am_bdE E
  refine as_callV 1 (s2 := s0) (st := []) (st2 := [.int v6]) [] C A (by decide) ml_X12_384 yc_X12_isTown yv_X12_isTown (t_X12_isTown  s0 Ec) (by decide) sh_248 rfl rfl (Nat.le_of_ble_eq_true rfl) rfl dX12_tellers_1 ?_
  refine am_if_eq 4 17 C dX12_tellers_4 (by decide) (fun c25 => ?_) (fun c25 => ?_)
  · have E := am_ifT E c25
    refine am_iconst 17 (-1 : Int32) C dX12_tellers_17 (by decide) ?_
    replace E := Option.some.inj E
    subst E
    exact as_iret 18 C Z rfl dX12_tellers_18
  · have E := am_ifF E c25
    refine am_iload_n 7 C dX12_tellers_7 rfl 1 rfl ?_
    refine am_i2l 8 C dX12_tellers_8 ?_
    refine am_lconst 9 (0 : Int64) C dX12_tellers_9 (by decide) ?_
    refine am_lconst 10 (1 : Int64) C dX12_tellers_10 (by decide) ?_
    obtain ⟨v7, Ec, E⟩ := am_bdE E
    refine as_callS 11 (s2 := s0) (st := []) (st2 := [.int v7]) [.long (p1).toInt64, .long (0 : Int64), .long (1 : Int64)] C A (by decide) ml_X12_106 yc_X12_in ys_X12_in (t_X12_in (p1).toInt64 (0 : Int64) (1 : Int64) s0 Ec) rfl rfl (Nat.le_of_ble_eq_true rfl) rfl dX12_tellers_11 ?_
    refine am_if_ne 14 19 C dX12_tellers_14 (by decide) (fun c24 => ?_) (fun c24 => ?_)
    · have E := am_ifF E c24
      refine am_bipush 19 (-2 : Int32) C dX12_tellers_19 (by decide) ?_
      refine am_istore_n 21 (lv2 := [(2, .int (-2 : Int32)), (0, .ref 248), (1, .int p1)]) C dX12_tellers_21 rfl (by decide) rfl ?_
      refine am_iconst 22 (0 : Int32) C dX12_tellers_22 (by decide) ?_
      refine am_istore_n 23 (lv2 := [(3, .int (0 : Int32)), (2, .int (-2 : Int32)), (0, .ref 248), (1, .int p1)]) C dX12_tellers_23 rfl (by decide) rfl ?_
      have LP8 : ∀ (n : Nat) (v9 : Int32) (v10 : Int32), am_lp (fun (q : Int32 × Int32) => b_X12_tellers_24 p1 s0 q.1 q.2) n (v9, v10) = some z → AX x 0 0 24 [(0, .ref 248), (1, .int p1), (2, .int v9), (3, .int v10)] [] am_N (am_h s0) := by
        intro n
        induction n with
        | zero => intro v9 v10 E; exact (am_lp0 E).elim
        | succ n ih8 =>
          intro v9 v10 E
          obtain ⟨r8, E, Er8⟩ := am_lpE E
          replace E : b_X12_tellers_24 p1 s0 v9 v10 = some r8 := E
          unfold b_X12_tellers_24 at E
          have K51 : ∀ (v11 : Int32) (v12 : Int32), j_X12_tellers_51 s0 v11 v12 = some r8 → AX x 0 0 51 [(0, .ref 248), (1, .int p1), (2, .int v11), (3, .int v12)] [] am_N (am_h s0) := by
            intro v11 v12 E
            unfold j_X12_tellers_51 at E
            refine am_aload_n 51 C dX12_tellers_51 rfl 0 rfl ?_
            refine am_iload_n 52 C dX12_tellers_52 rfl 3 rfl ?_
            obtain ⟨v13, Ec, E⟩ := am_bdE E
            refine as_callV 53 (s2 := s0) (st := []) (st2 := [.int v13]) [.int v12] C A (by decide) ml_X12_402 yc_X12_areTold yv_X12_areTold (t_X12_areTold v12 s0 Ec) (by decide) sh_248 rfl rfl (Nat.le_of_ble_eq_true rfl) rfl dX12_tellers_53 ?_
            refine am_if_eq 56 61 C dX12_tellers_56 (by decide) (fun c16 => ?_) (fun c16 => ?_)
            · have E := am_ifT E c16
              obtain ⟨v14, hv14, E⟩ := am_ltE E
              refine as_iinc 61 (q := (1 : Int32)) (lv2 := [(3, .int v14), (0, .ref 248), (1, .int p1), (2, .int v11)]) C dX12_tellers_61 3 rfl (by decide) hv14 (by decide) rfl ?_
              refine am_goto 64 24 C dX12_tellers_64 (by decide) ?_
              replace E := Option.some.inj E
              replace E := am_exL E Er8
              refine am_lvs [1, 2, 3, 0] rfl ?_
              exact ih8 _ _ E
            · have E := am_ifF E c16
              refine am_iload_n 59 C dX12_tellers_59 rfl 3 rfl ?_
              refine am_istore_n 60 (lv2 := [(2, .int v12), (0, .ref 248), (1, .int p1), (3, .int v12)]) C dX12_tellers_60 rfl (by decide) rfl ?_
              obtain ⟨v15, hv15, E⟩ := am_ltE E
              refine as_iinc 61 (q := (1 : Int32)) (lv2 := [(3, .int v15), (2, .int v12), (0, .ref 248), (1, .int p1)]) C dX12_tellers_61 3 rfl (by decide) hv15 (by decide) rfl ?_
              refine am_goto 64 24 C dX12_tellers_64 (by decide) ?_
              replace E := Option.some.inj E
              replace E := am_exL E Er8
              refine am_lvs [2, 3, 1, 0] rfl ?_
              exact ih8 _ _ E
          refine am_iload_n 24 C dX12_tellers_24 rfl 3 rfl ?_
          refine am_iconst 25 (1 : Int32) C dX12_tellers_25 (by decide) ?_
          refine am_aload_n 26 C dX12_tellers_26 rfl 0 rfl ?_
          refine as_getr 27 C fl_X12_39_11 dX12_tellers_27 (by decide) sh_248 (rf_248_20 _ _) ?_
          refine am_iconst 30 (nI 2) C dX12_tellers_30 (by decide) ?_
          refine as_ialdK 31 2 C dX12_tellers_31 (by decide) sh_258 (by decide) (by decide) ?_
          refine am_ishl 32 C dX12_tellers_32 ?_
          refine am_icmp_ge 33 67 C dX12_tellers_33 (by decide) (fun c23 => ?_) (fun c23 => ?_)
          · have E := am_ifT E c23
            obtain ⟨e17, E, E2⟩ := am_bdE E
            replace E2 := Option.some.inj E2
            replace E2 := am_exR E2 Er8
            rw [E2] at E
            refine am_lvs [0, 1, 2] rfl ?_
            exact K67 _ E
          · have E := am_ifF E c23
            refine am_iload_n 36 C dX12_tellers_36 rfl 2 rfl ?_
            refine am_if_lt 37 51 C dX12_tellers_37 (by decide) (fun c22 => ?_) (fun c22 => ?_)
            · have E := am_ifT E c22
              refine am_lvs [0, 1, 2, 3] rfl ?_
              exact K51 _ _ E
            · have E := am_ifF E c22
              refine am_iload_n 40 C dX12_tellers_40 rfl 3 rfl ?_
              obtain ⟨v18, Ec, E⟩ := am_bdE E
              refine as_callS 41 (s2 := s0) (st := []) (st2 := [.int v18]) [.int v10] C A (by decide) ml_X12_399 yc_X12_bits ys_X12_bits (t_X12_bits v10 s0 Ec) rfl rfl (Nat.le_of_ble_eq_true rfl) rfl dX12_tellers_41 ?_
              refine am_iload_n 44 C dX12_tellers_44 rfl 2 rfl ?_
              obtain ⟨v19, Ec, E⟩ := am_bdE E
              refine as_callS 45 (s2 := s0) (st := [.int v18]) (st2 := [.int v19, .int v18]) [.int v9] C A (by decide) ml_X12_399 yc_X12_bits ys_X12_bits (t_X12_bits v9 s0 Ec) rfl rfl (Nat.le_of_ble_eq_true rfl) rfl dX12_tellers_45 ?_
              refine am_icmp_ge 48 61 C dX12_tellers_48 (by decide) (fun c21 => ?_) (fun c21 => ?_)
              · have E := am_ifT E c21
                obtain ⟨v20, hv20, E⟩ := am_ltE E
                refine as_iinc 61 (q := (1 : Int32)) (lv2 := [(3, .int v20), (0, .ref 248), (1, .int p1), (2, .int v9)]) C dX12_tellers_61 3 rfl (by decide) hv20 (by decide) rfl ?_
                refine am_goto 64 24 C dX12_tellers_64 (by decide) ?_
                replace E := Option.some.inj E
                replace E := am_exL E Er8
                refine am_lvs [1, 2, 3, 0] rfl ?_
                exact ih8 _ _ E
              · have E := am_ifF E c21
                refine am_lvs [0, 1, 2, 3] rfl ?_
                exact K51 _ _ E
      refine am_lvs [2, 3, 1, 0] rfl ?_
      exact LP8 am_F _ _ E
    · have E := am_ifT E c24
      refine am_iconst 17 (-1 : Int32) C dX12_tellers_17 (by decide) ?_
      replace E := Option.some.inj E
      subst E
      exact as_iret 18 C Z rfl dX12_tellers_18
def f_X12_harmBehind (p1 : Int32) (p2 : Int32) (p3 : Int32) (s0 : am_S) : Option (Int32 × am_S) :=
  am_bd (f_X12_holdOf p2 p3 s0) (fun v4 => am_bd (f_X12_strengthOf p2 p3 s0) (fun v5 => am_bd (f_X12_soOf p3 s0) (fun v6 => am_bd (f_X12_isTold p1 p2 p3 ((1 : Int32) - v6) s0) (fun s7 => am_b2 (f_X12_harmOf p2 s7) (fun v8 s9 => am_bd (f_X12_holdsNow p2 p3 v4 v5 s9) (fun s10 => some (v8, s10)))))))
set_option maxRecDepth 100000 in
set_option maxHeartbeats 4000000 in
theorem t_X12_harmBehind (p1 : Int32) (p2 : Int32) (p3 : Int32) (s0 : am_S) {z : Int32 × am_S} (E : f_X12_harmBehind p1 p2 p3 s0 = some z) : AS yX12_harmBehind cX12_harmBehind 7 (some .int) 4 [.ref 248, .int p1, .int p2, .int p3] s0 (some (.int z.1)) z.2 := by
  unfold f_X12_harmBehind at E
  refine as_met (lv := [(0, .ref 248), (1, .int p1), (2, .int p2), (3, .int p3)]) (by decide +kernel) (by simp [lg_sl, Value.category]) rfl (fun x C A Z => ?_)
  refine am_aload_n 0 C dX12_harmBehind_0 rfl 0 rfl ?_
  refine am_iload_n 1 C dX12_harmBehind_1 rfl 2 rfl ?_
  refine am_iload_n 2 C dX12_harmBehind_2 rfl 3 rfl ?_
  obtain ⟨v4, Ec, E⟩ := am_bdE E
  refine as_callV 3 (s2 := s0) (st := []) (st2 := [.int v4]) [.int p2, .int p3] C A (by decide) ml_X12_305 yc_X12_holdOf yv_X12_holdOf (t_X12_holdOf p2 p3 s0 Ec) (by decide) sh_248 rfl rfl (Nat.le_of_ble_eq_true rfl) rfl dX12_harmBehind_3 ?_
  refine am_istore 6 (lv2 := [(4, .int v4), (0, .ref 248), (1, .int p1), (2, .int p2), (3, .int p3)]) C dX12_harmBehind_6 (by decide) rfl ?_
  refine am_aload_n 8 C dX12_harmBehind_8 rfl 1 rfl ?_
  refine am_iload_n 9 C dX12_harmBehind_9 rfl 3 rfl ?_
  refine am_iload_n 10 C dX12_harmBehind_10 rfl 4 rfl ?_
  obtain ⟨v5, Ec, E⟩ := am_bdE E
  refine as_callV 11 (s2 := s0) (st := []) (st2 := [.int v5]) [.int p2, .int p3] C A (by decide) ml_X12_325 yc_X12_strengthOf yv_X12_strengthOf (t_X12_strengthOf p2 p3 s0 Ec) (by decide) sh_248 rfl rfl (Nat.le_of_ble_eq_true rfl) rfl dX12_harmBehind_11 ?_
  refine am_istore 14 (lv2 := [(5, .int v5), (4, .int v4), (0, .ref 248), (1, .int p1), (2, .int p2), (3, .int p3)]) C dX12_harmBehind_14 (by decide) rfl ?_
  refine am_aload_n 16 C dX12_harmBehind_16 rfl 2 rfl ?_
  refine am_iload_n 17 C dX12_harmBehind_17 rfl 3 rfl ?_
  refine am_iload_n 18 C dX12_harmBehind_18 rfl 4 rfl ?_
  refine am_iload_n 19 C dX12_harmBehind_19 rfl 5 rfl ?_
  refine am_iconst 20 (1 : Int32) C dX12_harmBehind_20 (by decide) ?_
  refine am_aload_n 21 C dX12_harmBehind_21 rfl 2 rfl ?_
  refine am_iload_n 22 C dX12_harmBehind_22 rfl 5 rfl ?_
  obtain ⟨v6, Ec, E⟩ := am_bdE E
  refine as_callV 23 (s2 := s0) (st := [.int (1 : Int32), .int p3, .int p2, .int p1, .ref 248]) (st2 := [.int v6, .int (1 : Int32), .int p3, .int p2, .int p1, .ref 248]) [.int p3] C A (by decide) ml_X12_342 yc_X12_soOf yv_X12_soOf (t_X12_soOf p3 s0 Ec) (by decide) sh_248 rfl rfl (Nat.le_of_ble_eq_true rfl) rfl dX12_harmBehind_23 ?_
  refine am_isub 26 C dX12_harmBehind_26 ?_
  obtain ⟨s7, Ec, E⟩ := am_bdE E
  refine as_callV 27 (s2 := s7) (st := []) (st2 := []) [.int p1, .int p2, .int p3, .int ((1 : Int32) - v6)] C A (by decide) ml_X12_367 yc_X12_isTold yv_X12_isTold (t_X12_isTold p1 p2 p3 ((1 : Int32) - v6) s0 Ec) (by decide) sh_248 rfl rfl (Nat.le_of_ble_eq_true rfl) rfl dX12_harmBehind_27 ?_
  refine am_aload_n 30 C dX12_harmBehind_30 rfl 2 rfl ?_
  refine am_iload_n 31 C dX12_harmBehind_31 rfl 4 rfl ?_
  obtain ⟨v8, s9, Ec, E⟩ := am_b2E E
  refine as_callV 32 (s2 := s9) (st := []) (st2 := [.int v8]) [.int p2] C A (by decide) ml_X12_405 yc_X12_harmOf yv_X12_harmOf (t_X12_harmOf p2 s7 Ec) (by decide) sh_248 rfl rfl (Nat.le_of_ble_eq_true rfl) rfl dX12_harmBehind_32 ?_
  refine am_istore 35 (lv2 := [(6, .int v8), (5, .int v5), (4, .int v4), (0, .ref 248), (1, .int p1), (2, .int p2), (3, .int p3)]) C dX12_harmBehind_35 (by decide) rfl ?_
  refine am_aload_n 37 C dX12_harmBehind_37 rfl 3 rfl ?_
  refine am_iload_n 38 C dX12_harmBehind_38 rfl 5 rfl ?_
  refine am_iload_n 39 C dX12_harmBehind_39 rfl 6 rfl ?_
  refine am_iload 40 C dX12_harmBehind_40 2 rfl ?_
  refine am_iload 42 C dX12_harmBehind_42 1 rfl ?_
  obtain ⟨s10, Ec, E⟩ := am_bdE E
  refine as_callV 44 (s2 := s10) (st := []) (st2 := []) [.int p2, .int p3, .int v4, .int v5] C A (by decide) ml_X12_359 yc_X12_holdsNow yv_X12_holdsNow (t_X12_holdsNow p2 p3 v4 v5 s9 Ec) (by decide) sh_248 rfl rfl (Nat.le_of_ble_eq_true rfl) rfl dX12_harmBehind_44 ?_
  refine am_iload 47 C dX12_harmBehind_47 0 rfl ?_
  replace E := Option.some.inj E
  subst E
  exact as_iret 49 C Z rfl dX12_harmBehind_49
def b_X12_leastFact_5 (p1 : Int32) (p2 : Int32) (v4 : Int32) (v5 : Int32) (s6 : am_S) : Option ((Int32 × Int32 × am_S) ⊕ (Int32 × am_S)) :=
  am_if ((s6.1 258 0) ≤ v5) (some (Sum.inr (v4, s6))) (am_b2 (f_X12_harmBehind p1 p2 v5 s6) (fun v7 s8 => am_b2 (f_X12_harmBehind p1 p2 v4 s8) (fun v9 s10 => am_if (v9 ≤ v7) (am_lt (v5 + (1 : Int32)) (fun v11 => some (Sum.inl (v4, v11, s10)))) (am_lt (v5 + (1 : Int32)) (fun v12 => some (Sum.inl (v5, v12, s10)))))))
def f_X12_leastFact (p1 : Int32) (p2 : Int32) (s0 : am_S) : Option (Int32 × am_S) :=
  am_lp (fun (q : Int32 × Int32 × am_S) => b_X12_leastFact_5 p1 p2 q.1 q.2.1 q.2.2) am_F ((0 : Int32), (1 : Int32), s0)
set_option maxRecDepth 100000 in
set_option maxHeartbeats 4000000 in
theorem t_X12_leastFact (p1 : Int32) (p2 : Int32) (s0 : am_S) {z : Int32 × am_S} (E : f_X12_leastFact p1 p2 s0 = some z) : AS yX12_leastFact cX12_leastFact 5 (some .int) 5 [.ref 248, .int p1, .int p2] s0 (some (.int z.1)) z.2 := by
  unfold f_X12_leastFact at E
  refine as_met (lv := [(0, .ref 248), (1, .int p1), (2, .int p2)]) (by decide +kernel) (by simp [lg_sl, Value.category]) rfl (fun x C A Z => ?_)
  refine am_iconst 0 (0 : Int32) C dX12_leastFact_0 (by decide) ?_
  refine am_istore_n 1 (lv2 := [(3, .int (0 : Int32)), (0, .ref 248), (1, .int p1), (2, .int p2)]) C dX12_leastFact_1 rfl (by decide) rfl ?_
  refine am_iconst 2 (1 : Int32) C dX12_leastFact_2 (by decide) ?_
  refine am_istore 3 (lv2 := [(4, .int (1 : Int32)), (3, .int (0 : Int32)), (0, .ref 248), (1, .int p1), (2, .int p2)]) C dX12_leastFact_3 (by decide) rfl ?_
  have LP3 : ∀ (n : Nat) (v4 : Int32) (v5 : Int32) (s6 : am_S), am_lp (fun (q : Int32 × Int32 × am_S) => b_X12_leastFact_5 p1 p2 q.1 q.2.1 q.2.2) n (v4, v5, s6) = some z → AX x 0 0 5 [(0, .ref 248), (1, .int p1), (2, .int p2), (3, .int v4), (4, .int v5)] [] am_N (am_h s6) := by
    intro n
    induction n with
    | zero => intro v4 v5 s6 E; exact (am_lp0 E).elim
    | succ n ih3 =>
      intro v4 v5 s6 E
      obtain ⟨r3, E, Er3⟩ := am_lpE E
      replace E : b_X12_leastFact_5 p1 p2 v4 v5 s6 = some r3 := E
      unfold b_X12_leastFact_5 at E
      refine am_iload 5 C dX12_leastFact_5 4 rfl ?_
      refine am_aload_n 7 C dX12_leastFact_7 rfl 0 rfl ?_
      refine as_getr 8 C fl_X12_39_11 dX12_leastFact_8 (by decide) sh_248 (rf_248_20 _ _) ?_
      refine am_iconst 11 (0 : Int32) C dX12_leastFact_11 (by decide) ?_
      refine as_ialdK 12 0 C dX12_leastFact_12 (by decide) sh_258 (by decide) (by decide) ?_
      refine am_icmp_ge 13 43 C dX12_leastFact_13 (by decide) (fun c14 => ?_) (fun c14 => ?_)
      · have E := am_ifT E c14
        refine am_iload_n 43 C dX12_leastFact_43 rfl 3 rfl ?_
        replace E := Option.some.inj E
        replace E := am_exR E Er3
        subst E
        exact as_iret 44 C Z rfl dX12_leastFact_44
      · have E := am_ifF E c14
        refine am_aload_n 16 C dX12_leastFact_16 rfl 0 rfl ?_
        refine am_iload_n 17 C dX12_leastFact_17 rfl 1 rfl ?_
        refine am_iload_n 18 C dX12_leastFact_18 rfl 2 rfl ?_
        refine am_iload 19 C dX12_leastFact_19 4 rfl ?_
        obtain ⟨v7, s8, Ec, E⟩ := am_b2E E
        refine as_callV 21 (s2 := s8) (st := []) (st2 := [.int v7]) [.int p1, .int p2, .int v5] C A (by decide) ml_X12_408 yc_X12_harmBehind yv_X12_harmBehind (t_X12_harmBehind p1 p2 v5 s6 Ec) (by decide) sh_248 rfl rfl (Nat.le_of_ble_eq_true rfl) rfl dX12_leastFact_21 ?_
        refine am_aload_n 24 C dX12_leastFact_24 rfl 0 rfl ?_
        refine am_iload_n 25 C dX12_leastFact_25 rfl 1 rfl ?_
        refine am_iload_n 26 C dX12_leastFact_26 rfl 2 rfl ?_
        refine am_iload_n 27 C dX12_leastFact_27 rfl 3 rfl ?_
        obtain ⟨v9, s10, Ec, E⟩ := am_b2E E
        refine as_callV 28 (s2 := s10) (st := [.int v7]) (st2 := [.int v9, .int v7]) [.int p1, .int p2, .int v4] C A (by decide) ml_X12_408 yc_X12_harmBehind yv_X12_harmBehind (t_X12_harmBehind p1 p2 v4 s8 Ec) (by decide) sh_248 rfl rfl (Nat.le_of_ble_eq_true rfl) rfl dX12_leastFact_28 ?_
        refine am_icmp_ge 31 37 C dX12_leastFact_31 (by decide) (fun c13 => ?_) (fun c13 => ?_)
        · have E := am_ifT E c13
          obtain ⟨v11, hv11, E⟩ := am_ltE E
          refine as_iinc 37 (q := (1 : Int32)) (lv2 := [(4, .int v11), (0, .ref 248), (1, .int p1), (2, .int p2), (3, .int v4)]) C dX12_leastFact_37 4 rfl (by decide) hv11 (by decide) rfl ?_
          refine am_goto 40 5 C dX12_leastFact_40 (by decide) ?_
          replace E := Option.some.inj E
          replace E := am_exL E Er3
          refine am_lvs [1, 2, 3, 4, 0] rfl ?_
          exact ih3 _ _ _ E
        · have E := am_ifF E c13
          refine am_iload 34 C dX12_leastFact_34 4 rfl ?_
          refine am_istore_n 36 (lv2 := [(3, .int v5), (0, .ref 248), (1, .int p1), (2, .int p2), (4, .int v5)]) C dX12_leastFact_36 rfl (by decide) rfl ?_
          obtain ⟨v12, hv12, E⟩ := am_ltE E
          refine as_iinc 37 (q := (1 : Int32)) (lv2 := [(4, .int v12), (3, .int v5), (0, .ref 248), (1, .int p1), (2, .int p2)]) C dX12_leastFact_37 4 rfl (by decide) hv12 (by decide) rfl ?_
          refine am_goto 40 5 C dX12_leastFact_40 (by decide) ?_
          replace E := Option.some.inj E
          replace E := am_exL E Er3
          refine am_lvs [2, 3, 4, 1, 0] rfl ?_
          exact ih3 _ _ _ E
  refine am_lvs [2, 3, 4, 1, 0] rfl ?_
  exact LP3 am_F _ _ _ E
def f_X12_leastLie (p1 : Int32) (p2 : Int32) (p3 : Int32) (s0 : am_S) : Option (Int32 × am_S) :=
  am_bd (f_X12_maySay p1 p2 (0 : Int32) (0 : Int32) s0) (fun v4 => am_if (v4 = 0) (some ((-1 : Int32), s0)) (am_bd (f_X12_in (p3).toInt64 (0 : Int64) (1 : Int64)) (fun v5 => am_if (v5 = 0) (some ((-1 : Int32), s0)) (am_b2 (f_X12_leastFact p1 p2 s0) (fun v6 s7 => am_if (p3 = 0) (some (v6, s7)) (am_b2 (f_X12_harmBehind p1 p2 v6 s7) (fun v8 s9 => some (v8, s9))))))))
set_option maxRecDepth 100000 in
set_option maxHeartbeats 4000000 in
theorem t_X12_leastLie (p1 : Int32) (p2 : Int32) (p3 : Int32) (s0 : am_S) {z : Int32 × am_S} (E : f_X12_leastLie p1 p2 p3 s0 = some z) : AS yX12_leastLie cX12_leastLie 5 (some .int) 6 [.ref 248, .int p1, .int p2, .int p3] s0 (some (.int z.1)) z.2 := by
  unfold f_X12_leastLie at E
  refine as_met (lv := [(0, .ref 248), (1, .int p1), (2, .int p2), (3, .int p3)]) (by decide +kernel) (by simp [lg_sl, Value.category]) rfl (fun x C A Z => ?_)
  refine am_aload_n 0 C dX12_leastLie_0 rfl 0 rfl ?_
  refine am_iload_n 1 C dX12_leastLie_1 rfl 1 rfl ?_
  refine am_iload_n 2 C dX12_leastLie_2 rfl 2 rfl ?_
  refine am_iconst 3 (0 : Int32) C dX12_leastLie_3 (by decide) ?_
  refine am_iconst 4 (0 : Int32) C dX12_leastLie_4 (by decide) ?_
  obtain ⟨v4, Ec, E⟩ := am_bdE E
  refine as_callV 5 (s2 := s0) (st := []) (st2 := [.int v4]) [.int p1, .int p2, .int (0 : Int32), .int (0 : Int32)] C A (by decide) ml_X12_370 yc_X12_maySay yv_X12_maySay (t_X12_maySay p1 p2 (0 : Int32) (0 : Int32) s0 Ec) (by decide) sh_248 rfl rfl (Nat.le_of_ble_eq_true rfl) rfl dX12_leastLie_5 ?_
  refine am_if_eq 8 21 C dX12_leastLie_8 (by decide) (fun c12 => ?_) (fun c12 => ?_)
  · have E := am_ifT E c12
    refine am_iconst 21 (-1 : Int32) C dX12_leastLie_21 (by decide) ?_
    replace E := Option.some.inj E
    subst E
    exact as_iret 22 C Z rfl dX12_leastLie_22
  · have E := am_ifF E c12
    refine am_iload_n 11 C dX12_leastLie_11 rfl 3 rfl ?_
    refine am_i2l 12 C dX12_leastLie_12 ?_
    refine am_lconst 13 (0 : Int64) C dX12_leastLie_13 (by decide) ?_
    refine am_lconst 14 (1 : Int64) C dX12_leastLie_14 (by decide) ?_
    obtain ⟨v5, Ec, E⟩ := am_bdE E
    refine as_callS 15 (s2 := s0) (st := []) (st2 := [.int v5]) [.long (p3).toInt64, .long (0 : Int64), .long (1 : Int64)] C A (by decide) ml_X12_106 yc_X12_in ys_X12_in (t_X12_in (p3).toInt64 (0 : Int64) (1 : Int64) s0 Ec) rfl rfl (Nat.le_of_ble_eq_true rfl) rfl dX12_leastLie_15 ?_
    refine am_if_ne 18 23 C dX12_leastLie_18 (by decide) (fun c11 => ?_) (fun c11 => ?_)
    · have E := am_ifF E c11
      refine am_aload_n 23 C dX12_leastLie_23 rfl 0 rfl ?_
      refine am_iload_n 24 C dX12_leastLie_24 rfl 1 rfl ?_
      refine am_iload_n 25 C dX12_leastLie_25 rfl 2 rfl ?_
      obtain ⟨v6, s7, Ec, E⟩ := am_b2E E
      refine as_callV 26 (s2 := s7) (st := []) (st2 := [.int v6]) [.int p1, .int p2] C A (by decide) ml_X12_412 yc_X12_leastFact yv_X12_leastFact (t_X12_leastFact p1 p2 s0 Ec) (by decide) sh_248 rfl rfl (Nat.le_of_ble_eq_true rfl) rfl dX12_leastLie_26 ?_
      refine am_istore 29 (lv2 := [(4, .int v6), (0, .ref 248), (1, .int p1), (2, .int p2), (3, .int p3)]) C dX12_leastLie_29 (by decide) rfl ?_
      refine am_iload_n 31 C dX12_leastLie_31 rfl 4 rfl ?_
      refine am_if_ne 32 40 C dX12_leastLie_32 (by decide) (fun c10 => ?_) (fun c10 => ?_)
      · have E := am_ifF E c10
        refine am_aload_n 40 C dX12_leastLie_40 rfl 1 rfl ?_
        refine am_iload_n 41 C dX12_leastLie_41 rfl 2 rfl ?_
        refine am_iload_n 42 C dX12_leastLie_42 rfl 3 rfl ?_
        refine am_iload 43 C dX12_leastLie_43 0 rfl ?_
        obtain ⟨v8, s9, Ec, E⟩ := am_b2E E
        refine as_callV 45 (s2 := s9) (st := []) (st2 := [.int v8]) [.int p1, .int p2, .int v6] C A (by decide) ml_X12_408 yc_X12_harmBehind yv_X12_harmBehind (t_X12_harmBehind p1 p2 v6 s7 Ec) (by decide) sh_248 rfl rfl (Nat.le_of_ble_eq_true rfl) rfl dX12_leastLie_45 ?_
        replace E := Option.some.inj E
        subst E
        exact as_iret 48 C Z rfl dX12_leastLie_48
      · have E := am_ifT E c10
        refine am_iload 35 C dX12_leastLie_35 0 rfl ?_
        refine am_goto 37 48 C dX12_leastLie_37 (by decide) ?_
        replace E := Option.some.inj E
        subst E
        exact as_iret 48 C Z rfl dX12_leastLie_48
    · have E := am_ifT E c11
      refine am_iconst 21 (-1 : Int32) C dX12_leastLie_21 (by decide) ?_
      replace E := Option.some.inj E
      subst E
      exact as_iret 22 C Z rfl dX12_leastLie_22
def j_X12_evening_105 (v6 : Int32) (v7 : Int32) (v8 : Int32) (s9 : am_S) : Option ((Int32 × Int32 × am_S) ⊕ (Int32 × am_S)) :=
  am_if (0 ≤ v8) (am_lt (v6 + v8) (fun v10 => am_lt (v7 + (1 : Int32)) (fun v11 => some (Sum.inl (v10, v11, s9))))) (am_b2 (f_X12_harmOf v7 s9) (fun v12 s13 => am_lt (v6 + v12) (fun v14 => am_lt (v7 + (1 : Int32)) (fun v15 => some (Sum.inl (v14, v15, s13))))))
def b_X12_evening_28 (v3 : Int32) (v4 : Int32) (v18 : Int32) (v19 : Int32) (s20 : am_S) : Option ((Int32 × Int32 × am_S) ⊕ ((Int32 × Int32 × am_S) ⊕ (Int32 × am_S))) :=
  am_if ((s20.1 258 2) ≤ v19) (am_bd (j_X12_evening_105 v3 v4 v18 s20) (fun e21 => some (Sum.inr e21))) (am_lt ((nI 123) + v4) (fun v22 => am_gd (¬ v22 < 0 ∧ (v22).toNatClampNeg < 328) (am_if (0 < (s20.1 258 (v22).toNatClampNeg)) (am_lt (v19 + (1 : Int32)) (fun v24 => some (Sum.inl (v18, v24, s20)))) (am_bd (f_X12_maySay v19 v4 (0 : Int32) (0 : Int32) s20) (fun v25 => am_if (v25 = 0) (am_lt (v19 + (1 : Int32)) (fun v35 => some (Sum.inl (v18, v35, s20)))) (am_b2 (f_X12_leastFact v19 v4 s20) (fun v26 s27 => am_b2 (f_X12_harmBehind v19 v4 v26 s27) (fun v28 s29 => am_if (v18 < 0) (am_lt (v19 + (1 : Int32)) (fun v30 => some (Sum.inl (v28, v30, s29)))) (am_if (v18 ≤ v28) (am_lt (v19 + (1 : Int32)) (fun v31 => some (Sum.inl (v18, v31, s29)))) (am_lt (v19 + (1 : Int32)) (fun v32 => some (Sum.inl (v28, v32, s29)))))))))))))
def b_X12_evening_13 (v3 : Int32) (v4 : Int32) (s5 : am_S) : Option ((Int32 × Int32 × am_S) ⊕ (Int32 × am_S)) :=
  am_if ((s5.1 258 2) ≤ v4) (some (Sum.inr (v3, s5))) (am_lp (fun (q : Int32 × Int32 × am_S) => b_X12_evening_28 v3 v4 q.1 q.2.1 q.2.2) am_F ((-1 : Int32), (0 : Int32), s5))
def f_X12_evening  (s0 : am_S) : Option (Int32 × am_S) :=
  am_bd (f_X12_isTown s0) (fun v1 => am_if (v1 = 0) (some ((-1 : Int32), s0)) (am_lp (fun (q : Int32 × Int32 × am_S) => b_X12_evening_13 q.1 q.2.1 q.2.2) am_F ((0 : Int32), (0 : Int32), s0)))
set_option maxRecDepth 100000 in
set_option maxHeartbeats 4000000 in
theorem t_X12_evening (s0 : am_S) {z : Int32 × am_S} (E : f_X12_evening  s0 = some z) : AS yX12_evening cX12_evening 6 (some .int) 6 [.ref 248] s0 (some (.int z.1)) z.2 := by
  unfold f_X12_evening at E
  refine as_met (lv := [(0, .ref 248)]) (by decide +kernel) (by simp [lg_sl, Value.category]) rfl (fun x C A Z => ?_)
  refine am_aload_n 0 C dX12_evening_0 rfl 0 rfl ?_
  obtain ⟨v1, Ec, E⟩ := am_bdE E
  refine as_callV 1 (s2 := s0) (st := []) (st2 := [.int v1]) [] C A (by decide) ml_X12_384 yc_X12_isTown yv_X12_isTown (t_X12_isTown  s0 Ec) (by decide) sh_248 rfl rfl (Nat.le_of_ble_eq_true rfl) rfl dX12_evening_1 ?_
  refine am_if_ne 4 9 C dX12_evening_4 (by decide) (fun c40 => ?_) (fun c40 => ?_)
  · have E := am_ifF E c40
    refine am_iconst 9 (0 : Int32) C dX12_evening_9 (by decide) ?_
    refine am_istore_n 10 (lv2 := [(1, .int (0 : Int32)), (0, .ref 248)]) C dX12_evening_10 rfl (by decide) rfl ?_
    refine am_iconst 11 (0 : Int32) C dX12_evening_11 (by decide) ?_
    refine am_istore_n 12 (lv2 := [(2, .int (0 : Int32)), (1, .int (0 : Int32)), (0, .ref 248)]) C dX12_evening_12 rfl (by decide) rfl ?_
    have LP2 : ∀ (n : Nat) (v3 : Int32) (v4 : Int32) (s5 : am_S), am_lp (fun (q : Int32 × Int32 × am_S) => b_X12_evening_13 q.1 q.2.1 q.2.2) n (v3, v4, s5) = some z → AX x 0 0 13 [(0, .ref 248), (1, .int v3), (2, .int v4)] [] am_N (am_h s5) := by
      intro n
      induction n with
      | zero => intro v3 v4 s5 E; exact (am_lp0 E).elim
      | succ n ih2 =>
        intro v3 v4 s5 E
        obtain ⟨r2, E, Er2⟩ := am_lpE E
        replace E : b_X12_evening_13 v3 v4 s5 = some r2 := E
        unfold b_X12_evening_13 at E
        have K105 : ∀ (v6 : Int32) (v7 : Int32) (v8 : Int32) (s9 : am_S), j_X12_evening_105 v6 v7 v8 s9 = some r2 → AX x 0 0 105 [(0, .ref 248), (1, .int v6), (2, .int v7), (3, .int v8)] [] am_N (am_h s9) := by
          intro v6 v7 v8 s9 E
          unfold j_X12_evening_105 at E
          refine am_iload_n 105 C dX12_evening_105 rfl 1 rfl ?_
          refine am_iload_n 106 C dX12_evening_106 rfl 3 rfl ?_
          refine am_if_ge 107 118 C dX12_evening_107 (by decide) (fun c16 => ?_) (fun c16 => ?_)
          · have E := am_ifT E c16
            refine am_iload_n 118 C dX12_evening_118 rfl 3 rfl ?_
            refine am_iadd 119 C dX12_evening_119 ?_
            obtain ⟨v10, hv10, E⟩ := am_ltE E
            refine as_nm hv10 ?_
            refine am_istore_n 120 (lv2 := [(1, .int v10), (0, .ref 248), (2, .int v7), (3, .int v8)]) C dX12_evening_120 rfl (by decide) rfl ?_
            obtain ⟨v11, hv11, E⟩ := am_ltE E
            refine as_iinc 121 (q := (1 : Int32)) (lv2 := [(2, .int v11), (1, .int v10), (0, .ref 248), (3, .int v8)]) C dX12_evening_121 2 rfl (by decide) hv11 (by decide) rfl ?_
            refine am_goto 124 13 C dX12_evening_124 (by decide) ?_
            replace E := Option.some.inj E
            replace E := am_exL E Er2
            refine am_lvs [2, 1, 0] rfl ?_
            exact ih2 _ _ _ E
          · have E := am_ifF E c16
            refine am_aload_n 110 C dX12_evening_110 rfl 0 rfl ?_
            refine am_iload_n 111 C dX12_evening_111 rfl 2 rfl ?_
            obtain ⟨v12, s13, Ec, E⟩ := am_b2E E
            refine as_callV 112 (s2 := s13) (st := [.int v6]) (st2 := [.int v12, .int v6]) [.int v7] C A (by decide) ml_X12_405 yc_X12_harmOf yv_X12_harmOf (t_X12_harmOf v7 s9 Ec) (by decide) sh_248 rfl rfl (Nat.le_of_ble_eq_true rfl) rfl dX12_evening_112 ?_
            refine am_goto 115 119 C dX12_evening_115 (by decide) ?_
            refine am_iadd 119 C dX12_evening_119 ?_
            obtain ⟨v14, hv14, E⟩ := am_ltE E
            refine as_nm hv14 ?_
            refine am_istore_n 120 (lv2 := [(1, .int v14), (0, .ref 248), (2, .int v7), (3, .int v8)]) C dX12_evening_120 rfl (by decide) rfl ?_
            obtain ⟨v15, hv15, E⟩ := am_ltE E
            refine as_iinc 121 (q := (1 : Int32)) (lv2 := [(2, .int v15), (1, .int v14), (0, .ref 248), (3, .int v8)]) C dX12_evening_121 2 rfl (by decide) hv15 (by decide) rfl ?_
            refine am_goto 124 13 C dX12_evening_124 (by decide) ?_
            replace E := Option.some.inj E
            replace E := am_exL E Er2
            refine am_lvs [2, 1, 0] rfl ?_
            exact ih2 _ _ _ E
        refine am_iload_n 13 C dX12_evening_13 rfl 2 rfl ?_
        refine am_aload_n 14 C dX12_evening_14 rfl 0 rfl ?_
        refine as_getr 15 C fl_X12_39_11 dX12_evening_15 (by decide) sh_248 (rf_248_20 _ _) ?_
        refine am_iconst 18 (nI 2) C dX12_evening_18 (by decide) ?_
        refine as_ialdK 19 2 C dX12_evening_19 (by decide) sh_258 (by decide) (by decide) ?_
        refine am_icmp_ge 20 127 C dX12_evening_20 (by decide) (fun c39 => ?_) (fun c39 => ?_)
        · have E := am_ifT E c39
          refine am_iload_n 127 C dX12_evening_127 rfl 1 rfl ?_
          replace E := Option.some.inj E
          replace E := am_exR E Er2
          subst E
          exact as_iret 128 C Z rfl dX12_evening_128
        · have E := am_ifF E c39
          refine am_iconst 23 (-1 : Int32) C dX12_evening_23 (by decide) ?_
          refine am_istore_n 24 (lv2 := [(3, .int (-1 : Int32)), (0, .ref 248), (1, .int v3), (2, .int v4)]) C dX12_evening_24 rfl (by decide) rfl ?_
          refine am_iconst 25 (0 : Int32) C dX12_evening_25 (by decide) ?_
          refine am_istore 26 (lv2 := [(4, .int (0 : Int32)), (3, .int (-1 : Int32)), (0, .ref 248), (1, .int v3), (2, .int v4)]) C dX12_evening_26 (by decide) rfl ?_
          have LP17 : ∀ (n : Nat) (v18 : Int32) (v19 : Int32) (s20 : am_S), am_lp (fun (q : Int32 × Int32 × am_S) => b_X12_evening_28 v3 v4 q.1 q.2.1 q.2.2) n (v18, v19, s20) = some r2 → AX x 0 0 28 [(0, .ref 248), (1, .int v3), (2, .int v4), (3, .int v18), (4, .int v19)] [] am_N (am_h s20) := by
            intro n
            induction n with
            | zero => intro v18 v19 s20 E; exact (am_lp0 E).elim
            | succ n ih17 =>
              intro v18 v19 s20 E
              obtain ⟨r17, E, Er17⟩ := am_lpE E
              replace E : b_X12_evening_28 v3 v4 v18 v19 s20 = some r17 := E
              unfold b_X12_evening_28 at E
              refine am_iload 28 C dX12_evening_28 4 rfl ?_
              refine am_aload_n 30 C dX12_evening_30 rfl 0 rfl ?_
              refine as_getr 31 C fl_X12_39_11 dX12_evening_31 (by decide) sh_248 (rf_248_20 _ _) ?_
              refine am_iconst 34 (nI 2) C dX12_evening_34 (by decide) ?_
              refine as_ialdK 35 2 C dX12_evening_35 (by decide) sh_258 (by decide) (by decide) ?_
              refine am_icmp_ge 36 105 C dX12_evening_36 (by decide) (fun c38 => ?_) (fun c38 => ?_)
              · have E := am_ifT E c38
                obtain ⟨e21, E, E2⟩ := am_bdE E
                replace E2 := Option.some.inj E2
                replace E2 := am_exR E2 Er17
                rw [E2] at E
                refine am_lvs [0, 1, 2, 3] rfl ?_
                exact K105 _ _ _ _ E
              · have E := am_ifF E c38
                refine am_aload_n 39 C dX12_evening_39 rfl 0 rfl ?_
                refine as_getr 40 C fl_X12_39_11 dX12_evening_40 (by decide) sh_248 (rf_248_20 _ _) ?_
                refine am_bipush 43 (nI 123) C dX12_evening_43 (by decide) ?_
                refine am_iload_n 45 C dX12_evening_45 rfl 2 rfl ?_
                refine am_iadd 46 C dX12_evening_46 ?_
                obtain ⟨v22, hv22, E⟩ := am_ltE E
                refine as_nm hv22 ?_
                obtain ⟨g23, E⟩ := am_gdE E
                refine as_iald 47 C dX12_evening_47 (by decide) sh_258 g23 ?_
                refine am_if_gt 48 99 C dX12_evening_48 (by decide) (fun c37 => ?_) (fun c37 => ?_)
                · have E := am_ifT E c37
                  obtain ⟨v24, hv24, E⟩ := am_ltE E
                  refine as_iinc 99 (q := (1 : Int32)) (lv2 := [(4, .int v24), (0, .ref 248), (1, .int v3), (2, .int v4), (3, .int v18)]) C dX12_evening_99 4 rfl (by decide) hv24 (by decide) rfl ?_
                  refine am_goto 102 28 C dX12_evening_102 (by decide) ?_
                  replace E := Option.some.inj E
                  replace E := am_exL E Er17
                  refine am_lvs [1, 2, 3, 4, 0] rfl ?_
                  exact ih17 _ _ _ E
                · have E := am_ifF E c37
                  refine am_aload_n 51 C dX12_evening_51 rfl 0 rfl ?_
                  refine am_iload 52 C dX12_evening_52 4 rfl ?_
                  refine am_iload_n 54 C dX12_evening_54 rfl 2 rfl ?_
                  refine am_iconst 55 (0 : Int32) C dX12_evening_55 (by decide) ?_
                  refine am_iconst 56 (0 : Int32) C dX12_evening_56 (by decide) ?_
                  obtain ⟨v25, Ec, E⟩ := am_bdE E
                  refine as_callV 57 (s2 := s20) (st := []) (st2 := [.int v25]) [.int v19, .int v4, .int (0 : Int32), .int (0 : Int32)] C A (by decide) ml_X12_370 yc_X12_maySay yv_X12_maySay (t_X12_maySay v19 v4 (0 : Int32) (0 : Int32) s20 Ec) (by decide) sh_248 rfl rfl (Nat.le_of_ble_eq_true rfl) rfl dX12_evening_57 ?_
                  refine am_if_ne 60 66 C dX12_evening_60 (by decide) (fun c36 => ?_) (fun c36 => ?_)
                  · have E := am_ifF E c36
                    refine am_aload_n 66 C dX12_evening_66 rfl 0 rfl ?_
                    refine am_iload 67 C dX12_evening_67 4 rfl ?_
                    refine am_iload_n 69 C dX12_evening_69 rfl 2 rfl ?_
                    refine am_aload_n 70 C dX12_evening_70 rfl 0 rfl ?_
                    refine am_iload 71 C dX12_evening_71 4 rfl ?_
                    refine am_iload_n 73 C dX12_evening_73 rfl 2 rfl ?_
                    obtain ⟨v26, s27, Ec, E⟩ := am_b2E E
                    refine as_callV 74 (s2 := s27) (st := [.int v4, .int v19, .ref 248]) (st2 := [.int v26, .int v4, .int v19, .ref 248]) [.int v19, .int v4] C A (by decide) ml_X12_412 yc_X12_leastFact yv_X12_leastFact (t_X12_leastFact v19 v4 s20 Ec) (by decide) sh_248 rfl rfl (Nat.le_of_ble_eq_true rfl) rfl dX12_evening_74 ?_
                    obtain ⟨v28, s29, Ec, E⟩ := am_b2E E
                    refine as_callV 77 (s2 := s29) (st := []) (st2 := [.int v28]) [.int v19, .int v4, .int v26] C A (by decide) ml_X12_408 yc_X12_harmBehind yv_X12_harmBehind (t_X12_harmBehind v19 v4 v26 s27 Ec) (by decide) sh_248 rfl rfl (Nat.le_of_ble_eq_true rfl) rfl dX12_evening_77 ?_
                    refine am_istore 80 (lv2 := [(5, .int v28), (0, .ref 248), (1, .int v3), (2, .int v4), (3, .int v18), (4, .int v19)]) C dX12_evening_80 (by decide) rfl ?_
                    refine am_iload_n 82 C dX12_evening_82 rfl 4 rfl ?_
                    refine am_if_lt 83 92 C dX12_evening_83 (by decide) (fun c34 => ?_) (fun c34 => ?_)
                    · have E := am_ifT E c34
                      refine am_iload 92 C dX12_evening_92 0 rfl ?_
                      refine am_goto 94 98 C dX12_evening_94 (by decide) ?_
                      refine am_istore_n 98 (lv2 := [(3, .int v28), (5, .int v28), (0, .ref 248), (1, .int v3), (2, .int v4), (4, .int v19)]) C dX12_evening_98 rfl (by decide) rfl ?_
                      obtain ⟨v30, hv30, E⟩ := am_ltE E
                      refine as_iinc 99 (q := (1 : Int32)) (lv2 := [(4, .int v30), (3, .int v28), (5, .int v28), (0, .ref 248), (1, .int v3), (2, .int v4)]) C dX12_evening_99 5 rfl (by decide) hv30 (by decide) rfl ?_
                      refine am_goto 102 28 C dX12_evening_102 (by decide) ?_
                      replace E := Option.some.inj E
                      replace E := am_exL E Er17
                      refine am_lvs [3, 4, 5, 1, 0] rfl ?_
                      exact ih17 _ _ _ E
                    · have E := am_ifF E c34
                      refine am_iload 86 C dX12_evening_86 0 rfl ?_
                      refine am_iload_n 88 C dX12_evening_88 rfl 4 rfl ?_
                      refine am_icmp_ge 89 97 C dX12_evening_89 (by decide) (fun c33 => ?_) (fun c33 => ?_)
                      · have E := am_ifT E c33
                        refine am_iload_n 97 C dX12_evening_97 rfl 4 rfl ?_
                        refine am_istore_n 98 (lv2 := [(3, .int v18), (5, .int v28), (0, .ref 248), (1, .int v3), (2, .int v4), (4, .int v19)]) C dX12_evening_98 rfl (by decide) rfl ?_
                        obtain ⟨v31, hv31, E⟩ := am_ltE E
                        refine as_iinc 99 (q := (1 : Int32)) (lv2 := [(4, .int v31), (3, .int v18), (5, .int v28), (0, .ref 248), (1, .int v3), (2, .int v4)]) C dX12_evening_99 5 rfl (by decide) hv31 (by decide) rfl ?_
                        refine am_goto 102 28 C dX12_evening_102 (by decide) ?_
                        replace E := Option.some.inj E
                        replace E := am_exL E Er17
                        refine am_lvs [3, 4, 5, 1, 0] rfl ?_
                        exact ih17 _ _ _ E
                      · have E := am_ifF E c33
                        refine am_iload 92 C dX12_evening_92 0 rfl ?_
                        refine am_goto 94 98 C dX12_evening_94 (by decide) ?_
                        refine am_istore_n 98 (lv2 := [(3, .int v28), (5, .int v28), (0, .ref 248), (1, .int v3), (2, .int v4), (4, .int v19)]) C dX12_evening_98 rfl (by decide) rfl ?_
                        obtain ⟨v32, hv32, E⟩ := am_ltE E
                        refine as_iinc 99 (q := (1 : Int32)) (lv2 := [(4, .int v32), (3, .int v28), (5, .int v28), (0, .ref 248), (1, .int v3), (2, .int v4)]) C dX12_evening_99 5 rfl (by decide) hv32 (by decide) rfl ?_
                        refine am_goto 102 28 C dX12_evening_102 (by decide) ?_
                        replace E := Option.some.inj E
                        replace E := am_exL E Er17
                        refine am_lvs [3, 4, 5, 1, 0] rfl ?_
                        exact ih17 _ _ _ E
                  · have E := am_ifT E c36
                    refine am_goto 63 99 C dX12_evening_63 (by decide) ?_
                    obtain ⟨v35, hv35, E⟩ := am_ltE E
                    refine as_iinc 99 (q := (1 : Int32)) (lv2 := [(4, .int v35), (0, .ref 248), (1, .int v3), (2, .int v4), (3, .int v18)]) C dX12_evening_99 4 rfl (by decide) hv35 (by decide) rfl ?_
                    refine am_goto 102 28 C dX12_evening_102 (by decide) ?_
                    replace E := Option.some.inj E
                    replace E := am_exL E Er17
                    refine am_lvs [1, 2, 3, 4, 0] rfl ?_
                    exact ih17 _ _ _ E
          refine am_lvs [2, 3, 4, 1, 0] rfl ?_
          exact LP17 am_F _ _ _ E
    refine am_lvs [2, 1, 0] rfl ?_
    exact LP2 am_F _ _ _ E
  · have E := am_ifT E c40
    refine am_iconst 7 (-1 : Int32) C dX12_evening_7 (by decide) ?_
    replace E := Option.some.inj E
    subst E
    exact as_iret 8 C Z rfl dX12_evening_8
def j_X12_stepped_78 (p1 : Int32) (v6 : Int32) (v7 : Int32) (v8 : Int32) (v9 : Int32) (v10 : Int32) : Option ((Int32 × Int32) ⊕ (Int32)) :=
  am_lt (v7 ||| v6) (fun v11 => am_bd (f_X12_isOf p1 v10) (fun v12 => am_if (v12 = 0) (am_lt (v11 ||| (0 : Int32)) (fun v13 => am_lt (v8 + (1 : Int32)) (fun v14 => some (Sum.inl (v13, v14))))) (am_lt (v11 ||| ((1 : Int32) <<< (v9 &&& 31))) (fun v15 => am_lt (v8 + (1 : Int32)) (fun v16 => some (Sum.inl (v15, v16)))))))
def b_X12_stepped_5 (p1 : Int32) (p2 : Int32) (s0 : am_S) (v4 : Int32) (v5 : Int32) : Option ((Int32 × Int32) ⊕ (Int32)) :=
  am_if ((s0.1 258 3) ≤ v5) (some (Sum.inr v4)) (am_bd (f_X12_isOf p2 v5) (fun v18 => am_if (v18 = 0) (am_lt ((nI 179) + ((nI 2) * v5)) (fun v19 => am_gd (¬ v19 < 0 ∧ (v19).toNatClampNeg < 328) (am_lt (s0.1 258 (v19).toNatClampNeg) (fun v21 => am_lt (((nI 179) + ((nI 2) * v5)) + (1 : Int32)) (fun v22 => am_gd (¬ v22 < 0 ∧ (v22).toNatClampNeg < 328) (am_lt (s0.1 258 (v22).toNatClampNeg) (fun v24 => am_bd (f_X12_isOf p1 v21) (fun v25 => am_if (v25 = 0) (j_X12_stepped_78 p1 (0 : Int32) v4 v5 v21 v24) (j_X12_stepped_78 p1 ((1 : Int32) <<< (v24 &&& 31)) v4 v5 v21 v24))))))))) (am_lt (v5 + (1 : Int32)) (fun v27 => some (Sum.inl (v4, v27))))))
def f_X12_stepped (p1 : Int32) (p2 : Int32) (s0 : am_S) : Option (Int32) :=
  am_lp (fun (q : Int32 × Int32) => b_X12_stepped_5 p1 p2 s0 q.1 q.2) am_F (p1, (0 : Int32))
set_option maxRecDepth 100000 in
set_option maxHeartbeats 4000000 in
theorem t_X12_stepped (p1 : Int32) (p2 : Int32) (s0 : am_S) {z : Int32} (E : f_X12_stepped p1 p2 s0 = some z) : AS yX12_stepped cX12_stepped 7 (some .int) 2 [.ref 248, .int p1, .int p2] s0 (some (.int z)) s0 := by
  unfold f_X12_stepped at E
  refine as_met (lv := [(0, .ref 248), (1, .int p1), (2, .int p2)]) (by decide +kernel) (by simp [lg_sl, Value.category]) rfl (fun x C A Z => ?_)
  refine am_iload_n 0 C dX12_stepped_0 rfl 1 rfl ?_
  refine am_istore_n 1 (lv2 := [(3, .int p1), (0, .ref 248), (1, .int p1), (2, .int p2)]) C dX12_stepped_1 rfl (by decide) rfl ?_
  refine am_iconst 2 (0 : Int32) C dX12_stepped_2 (by decide) ?_
  refine am_istore 3 (lv2 := [(4, .int (0 : Int32)), (3, .int p1), (0, .ref 248), (1, .int p1), (2, .int p2)]) C dX12_stepped_3 (by decide) rfl ?_
  have LP3 : ∀ (n : Nat) (v4 : Int32) (v5 : Int32), am_lp (fun (q : Int32 × Int32) => b_X12_stepped_5 p1 p2 s0 q.1 q.2) n (v4, v5) = some z → AX x 0 0 5 [(0, .ref 248), (1, .int p1), (2, .int p2), (3, .int v4), (4, .int v5)] [] am_N (am_h s0) := by
    intro n
    induction n with
    | zero => intro v4 v5 E; exact (am_lp0 E).elim
    | succ n ih3 =>
      intro v4 v5 E
      obtain ⟨r3, E, Er3⟩ := am_lpE E
      replace E : b_X12_stepped_5 p1 p2 s0 v4 v5 = some r3 := E
      unfold b_X12_stepped_5 at E
      have K78 : ∀ (v6 : Int32) (v7 : Int32) (v8 : Int32) (v9 : Int32) (v10 : Int32), j_X12_stepped_78 p1 v6 v7 v8 v9 v10 = some r3 → AX x 0 0 78 [(0, .ref 248), (1, .int p1), (2, .int p2), (4, .int v8), (5, .int v9), (6, .int v10)] [.int v6, .int v7] am_N (am_h s0) := by
        intro v6 v7 v8 v9 v10 E
        unfold j_X12_stepped_78 at E
        refine am_ior 78 C dX12_stepped_78 ?_
        obtain ⟨v11, hv11, E⟩ := am_ltE E
        refine as_nm hv11 ?_
        refine am_istore_n 79 (lv2 := [(3, .int v11), (0, .ref 248), (1, .int p1), (2, .int p2), (4, .int v8), (5, .int v9), (6, .int v10)]) C dX12_stepped_79 rfl (by decide) rfl ?_
        refine am_iload_n 80 C dX12_stepped_80 rfl 0 rfl ?_
        refine am_iload_n 81 C dX12_stepped_81 rfl 2 rfl ?_
        refine am_iload 82 C dX12_stepped_82 6 rfl ?_
        obtain ⟨v12, Ec, E⟩ := am_bdE E
        refine as_callS 84 (s2 := s0) (st := [.int v11]) (st2 := [.int v12, .int v11]) [.int p1, .int v10] C A (by decide) ml_X12_214 yc_X12_isOf ys_X12_isOf (t_X12_isOf p1 v10 s0 Ec) rfl rfl (Nat.le_of_ble_eq_true rfl) rfl dX12_stepped_84 ?_
        refine am_if_eq 87 97 C dX12_stepped_87 (by decide) (fun c17 => ?_) (fun c17 => ?_)
        · have E := am_ifT E c17
          refine am_iconst 97 (0 : Int32) C dX12_stepped_97 (by decide) ?_
          refine am_ior 98 C dX12_stepped_98 ?_
          obtain ⟨v13, hv13, E⟩ := am_ltE E
          refine as_nm hv13 ?_
          refine am_istore_n 99 (lv2 := [(3, .int v13), (0, .ref 248), (1, .int p1), (2, .int p2), (4, .int v8), (5, .int v9), (6, .int v10)]) C dX12_stepped_99 rfl (by decide) rfl ?_
          obtain ⟨v14, hv14, E⟩ := am_ltE E
          refine as_iinc 100 (q := (1 : Int32)) (lv2 := [(4, .int v14), (3, .int v13), (0, .ref 248), (1, .int p1), (2, .int p2), (5, .int v9), (6, .int v10)]) C dX12_stepped_100 4 rfl (by decide) hv14 (by decide) rfl ?_
          refine am_goto 103 5 C dX12_stepped_103 (by decide) ?_
          replace E := Option.some.inj E
          replace E := am_exL E Er3
          refine am_lvs [2, 3, 4, 1, 0] rfl ?_
          exact ih3 _ _ E
        · have E := am_ifF E c17
          refine am_iconst 90 (1 : Int32) C dX12_stepped_90 (by decide) ?_
          refine am_iload 91 C dX12_stepped_91 5 rfl ?_
          refine am_ishl 93 C dX12_stepped_93 ?_
          refine am_goto 94 98 C dX12_stepped_94 (by decide) ?_
          refine am_ior 98 C dX12_stepped_98 ?_
          obtain ⟨v15, hv15, E⟩ := am_ltE E
          refine as_nm hv15 ?_
          refine am_istore_n 99 (lv2 := [(3, .int v15), (0, .ref 248), (1, .int p1), (2, .int p2), (4, .int v8), (5, .int v9), (6, .int v10)]) C dX12_stepped_99 rfl (by decide) rfl ?_
          obtain ⟨v16, hv16, E⟩ := am_ltE E
          refine as_iinc 100 (q := (1 : Int32)) (lv2 := [(4, .int v16), (3, .int v15), (0, .ref 248), (1, .int p1), (2, .int p2), (5, .int v9), (6, .int v10)]) C dX12_stepped_100 4 rfl (by decide) hv16 (by decide) rfl ?_
          refine am_goto 103 5 C dX12_stepped_103 (by decide) ?_
          replace E := Option.some.inj E
          replace E := am_exL E Er3
          refine am_lvs [2, 3, 4, 1, 0] rfl ?_
          exact ih3 _ _ E
      refine am_iload 5 C dX12_stepped_5 4 rfl ?_
      refine am_aload_n 7 C dX12_stepped_7 rfl 0 rfl ?_
      refine as_getr 8 C fl_X12_39_11 dX12_stepped_8 (by decide) sh_248 (rf_248_20 _ _) ?_
      refine am_iconst 11 (nI 3) C dX12_stepped_11 (by decide) ?_
      refine as_ialdK 12 3 C dX12_stepped_12 (by decide) sh_258 (by decide) (by decide) ?_
      refine am_icmp_ge 13 106 C dX12_stepped_13 (by decide) (fun c29 => ?_) (fun c29 => ?_)
      · have E := am_ifT E c29
        refine am_iload_n 106 C dX12_stepped_106 rfl 3 rfl ?_
        replace E := Option.some.inj E
        replace E := am_exR E Er3
        subst E
        exact as_iret 107 C Z rfl dX12_stepped_107
      · have E := am_ifF E c29
        refine am_iload_n 16 C dX12_stepped_16 rfl 2 rfl ?_
        refine am_iload 17 C dX12_stepped_17 4 rfl ?_
        obtain ⟨v18, Ec, E⟩ := am_bdE E
        refine as_callS 19 (s2 := s0) (st := []) (st2 := [.int v18]) [.int p2, .int v5] C A (by decide) ml_X12_214 yc_X12_isOf ys_X12_isOf (t_X12_isOf p2 v5 s0 Ec) rfl rfl (Nat.le_of_ble_eq_true rfl) rfl dX12_stepped_19 ?_
        refine am_if_eq 22 28 C dX12_stepped_22 (by decide) (fun c28 => ?_) (fun c28 => ?_)
        · have E := am_ifT E c28
          refine am_aload_n 28 C dX12_stepped_28 rfl 0 rfl ?_
          refine as_getr 29 C fl_X12_39_11 dX12_stepped_29 (by decide) sh_248 (rf_248_20 _ _) ?_
          refine am_sipush 32 (nI 179) C dX12_stepped_32 (by decide) ?_
          refine am_iconst 35 (nI 2) C dX12_stepped_35 (by decide) ?_
          refine am_iload 36 C dX12_stepped_36 4 rfl ?_
          refine am_imul 38 C dX12_stepped_38 ?_
          refine am_iadd 39 C dX12_stepped_39 ?_
          obtain ⟨v19, hv19, E⟩ := am_ltE E
          refine as_nm hv19 ?_
          obtain ⟨g20, E⟩ := am_gdE E
          refine as_iald 40 C dX12_stepped_40 (by decide) sh_258 g20 ?_
          obtain ⟨v21, hv21, E⟩ := am_ltE E
          refine as_nm hv21 ?_
          refine am_istore 41 (lv2 := [(5, .int v21), (0, .ref 248), (1, .int p1), (2, .int p2), (3, .int v4), (4, .int v5)]) C dX12_stepped_41 (by decide) rfl ?_
          refine am_aload_n 43 C dX12_stepped_43 rfl 1 rfl ?_
          refine as_getr 44 C fl_X12_39_11 dX12_stepped_44 (by decide) sh_248 (rf_248_20 _ _) ?_
          refine am_sipush 47 (nI 179) C dX12_stepped_47 (by decide) ?_
          refine am_iconst 50 (nI 2) C dX12_stepped_50 (by decide) ?_
          refine am_iload 51 C dX12_stepped_51 5 rfl ?_
          refine am_imul 53 C dX12_stepped_53 ?_
          refine am_iadd 54 C dX12_stepped_54 ?_
          refine am_iconst 55 (1 : Int32) C dX12_stepped_55 (by decide) ?_
          refine am_iadd 56 C dX12_stepped_56 ?_
          obtain ⟨v22, hv22, E⟩ := am_ltE E
          refine as_nm hv22 ?_
          obtain ⟨g23, E⟩ := am_gdE E
          refine as_iald 57 C dX12_stepped_57 (by decide) sh_258 g23 ?_
          obtain ⟨v24, hv24, E⟩ := am_ltE E
          refine as_nm hv24 ?_
          refine am_istore 58 (lv2 := [(6, .int v24), (5, .int v21), (0, .ref 248), (1, .int p1), (2, .int p2), (3, .int v4), (4, .int v5)]) C dX12_stepped_58 (by decide) rfl ?_
          refine am_iload_n 60 C dX12_stepped_60 rfl 5 rfl ?_
          refine am_iload_n 61 C dX12_stepped_61 rfl 3 rfl ?_
          refine am_iload 62 C dX12_stepped_62 1 rfl ?_
          obtain ⟨v25, Ec, E⟩ := am_bdE E
          refine as_callS 64 (s2 := s0) (st := [.int v4]) (st2 := [.int v25, .int v4]) [.int p1, .int v21] C A (by decide) ml_X12_214 yc_X12_isOf ys_X12_isOf (t_X12_isOf p1 v21 s0 Ec) rfl rfl (Nat.le_of_ble_eq_true rfl) rfl dX12_stepped_64 ?_
          refine am_if_eq 67 77 C dX12_stepped_67 (by decide) (fun c26 => ?_) (fun c26 => ?_)
          · have E := am_ifT E c26
            refine am_iconst 77 (0 : Int32) C dX12_stepped_77 (by decide) ?_
            refine am_lvs [2, 3, 4, 6, 1, 0] rfl ?_
            exact K78 _ _ _ _ _ E
          · have E := am_ifF E c26
            refine am_iconst 70 (1 : Int32) C dX12_stepped_70 (by decide) ?_
            refine am_iload 71 C dX12_stepped_71 0 rfl ?_
            refine am_ishl 73 C dX12_stepped_73 ?_
            refine am_goto 74 78 C dX12_stepped_74 (by decide) ?_
            refine am_lvs [2, 3, 4, 6, 1, 0] rfl ?_
            exact K78 _ _ _ _ _ E
        · have E := am_ifF E c28
          refine am_goto 25 100 C dX12_stepped_25 (by decide) ?_
          obtain ⟨v27, hv27, E⟩ := am_ltE E
          refine as_iinc 100 (q := (1 : Int32)) (lv2 := [(4, .int v27), (0, .ref 248), (1, .int p1), (2, .int p2), (3, .int v4)]) C dX12_stepped_100 4 rfl (by decide) hv27 (by decide) rfl ?_
          refine am_goto 103 5 C dX12_stepped_103 (by decide) ?_
          replace E := Option.some.inj E
          replace E := am_exL E Er3
          refine am_lvs [1, 2, 3, 4, 0] rfl ?_
          exact ih3 _ _ E
  refine am_lvs [2, 3, 4, 1, 0] rfl ?_
  exact LP3 am_F _ _ E
def j_X12_isParted_30 (p2 : Int32) (v4 : Int32) : Option (Int32) :=
  am_bd (f_X12_isOf v4 p2) (fun v5 => am_if (v5 = 0) (some (1 : Int32)) (some (0 : Int32)))
def b_X12_isParted_8 (p2 : Int32) (p3 : Int32) (s0 : am_S) (v9 : Int32) (v10 : Int32) : Option ((Int32 × Int32) ⊕ (Int32)) :=
  am_if ((nI 7) ≤ v10) (am_bd (j_X12_isParted_30 p2 v9) (fun e11 => some (Sum.inr e11))) (am_bd (f_X12_stepped v9 p3 s0) (fun v12 => am_lt (v10 + (1 : Int32)) (fun v13 => some (Sum.inl (v12, v13)))))
def f_X12_isParted (p1 : Int32) (p2 : Int32) (p3 : Int32) (s0 : am_S) : Option (Int32) :=
  am_lt ((1 : Int32) <<< (p1 &&& 31)) (fun v7 => am_lp (fun (q : Int32 × Int32) => b_X12_isParted_8 p2 p3 s0 q.1 q.2) am_F (v7, (0 : Int32)))
set_option maxRecDepth 100000 in
set_option maxHeartbeats 4000000 in
theorem t_X12_isParted (p1 : Int32) (p2 : Int32) (p3 : Int32) (s0 : am_S) {z : Int32} (E : f_X12_isParted p1 p2 p3 s0 = some z) : AS yX12_isParted cX12_isParted 6 (some .boolean) 3 [.ref 248, .int p1, .int p2, .int p3] s0 (some (.int z)) s0 := by
  unfold f_X12_isParted at E
  refine as_met (lv := [(0, .ref 248), (1, .int p1), (2, .int p2), (3, .int p3)]) (by decide +kernel) (by simp [lg_sl, Value.category]) rfl (fun x C A Z => ?_)
  have K30 : ∀ (v4 : Int32), j_X12_isParted_30 p2 v4 = some z → AX x 0 0 30 [(0, .ref 248), (2, .int p2), (4, .int v4)] [] am_N (am_h s0) := by
    intro v4 E
    unfold j_X12_isParted_30 at E
    refine am_iload 30 C dX12_isParted_30 2 rfl ?_
    refine am_iload_n 32 C dX12_isParted_32 rfl 1 rfl ?_
    obtain ⟨v5, Ec, E⟩ := am_bdE E
    refine as_callS 33 (s2 := s0) (st := []) (st2 := [.int v5]) [.int v4, .int p2] C A (by decide) ml_X12_214 yc_X12_isOf ys_X12_isOf (t_X12_isOf v4 p2 s0 Ec) rfl rfl (Nat.le_of_ble_eq_true rfl) rfl dX12_isParted_33 ?_
    refine am_if_ne 36 43 C dX12_isParted_36 (by decide) (fun c6 => ?_) (fun c6 => ?_)
    · have E := am_ifF E c6
      refine am_iconst 43 (0 : Int32) C dX12_isParted_43 (by decide) ?_
      replace E := Option.some.inj E
      subst E
      exact as_iret 44 C Z rfl dX12_isParted_44
    · have E := am_ifT E c6
      refine am_iconst 39 (1 : Int32) C dX12_isParted_39 (by decide) ?_
      refine am_goto 40 44 C dX12_isParted_40 (by decide) ?_
      replace E := Option.some.inj E
      subst E
      exact as_iret 44 C Z rfl dX12_isParted_44
  refine am_iconst 0 (1 : Int32) C dX12_isParted_0 (by decide) ?_
  refine am_iload_n 1 C dX12_isParted_1 rfl 1 rfl ?_
  refine am_ishl 2 C dX12_isParted_2 ?_
  obtain ⟨v7, hv7, E⟩ := am_ltE E
  refine as_nm hv7 ?_
  refine am_istore 3 (lv2 := [(4, .int v7), (0, .ref 248), (1, .int p1), (2, .int p2), (3, .int p3)]) C dX12_isParted_3 (by decide) rfl ?_
  refine am_iconst 5 (0 : Int32) C dX12_isParted_5 (by decide) ?_
  refine am_istore 6 (lv2 := [(5, .int (0 : Int32)), (4, .int v7), (0, .ref 248), (1, .int p1), (2, .int p2), (3, .int p3)]) C dX12_isParted_6 (by decide) rfl ?_
  have LP8 : ∀ (n : Nat) (v9 : Int32) (v10 : Int32), am_lp (fun (q : Int32 × Int32) => b_X12_isParted_8 p2 p3 s0 q.1 q.2) n (v9, v10) = some z → AX x 0 0 8 [(0, .ref 248), (2, .int p2), (3, .int p3), (4, .int v9), (5, .int v10)] [] am_N (am_h s0) := by
    intro n
    induction n with
    | zero => intro v9 v10 E; exact (am_lp0 E).elim
    | succ n ih8 =>
      intro v9 v10 E
      obtain ⟨r8, E, Er8⟩ := am_lpE E
      replace E : b_X12_isParted_8 p2 p3 s0 v9 v10 = some r8 := E
      unfold b_X12_isParted_8 at E
      refine am_iload 8 C dX12_isParted_8 4 rfl ?_
      refine am_bipush 10 (nI 7) C dX12_isParted_10 (by decide) ?_
      refine am_icmp_ge 12 30 C dX12_isParted_12 (by decide) (fun c14 => ?_) (fun c14 => ?_)
      · have E := am_ifT E c14
        obtain ⟨e11, E, E2⟩ := am_bdE E
        replace E2 := Option.some.inj E2
        replace E2 := am_exR E2 Er8
        rw [E2] at E
        refine am_lvs [0, 1, 3] rfl ?_
        exact K30 _ E
      · have E := am_ifF E c14
        refine am_aload_n 15 C dX12_isParted_15 rfl 0 rfl ?_
        refine am_iload 16 C dX12_isParted_16 3 rfl ?_
        refine am_iload_n 18 C dX12_isParted_18 rfl 2 rfl ?_
        obtain ⟨v12, Ec, E⟩ := am_bdE E
        refine as_callV 19 (s2 := s0) (st := []) (st2 := [.int v12]) [.int v9, .int p3] C A (by decide) ml_X12_415 yc_X12_stepped yv_X12_stepped (t_X12_stepped v9 p3 s0 Ec) (by decide) sh_248 rfl rfl (Nat.le_of_ble_eq_true rfl) rfl dX12_isParted_19 ?_
        refine am_istore 22 (lv2 := [(4, .int v12), (0, .ref 248), (2, .int p2), (3, .int p3), (5, .int v10)]) C dX12_isParted_22 (by decide) rfl ?_
        obtain ⟨v13, hv13, E⟩ := am_ltE E
        refine as_iinc 24 (q := (1 : Int32)) (lv2 := [(5, .int v13), (4, .int v12), (0, .ref 248), (2, .int p2), (3, .int p3)]) C dX12_isParted_24 4 rfl (by decide) hv13 (by decide) rfl ?_
        refine am_goto 27 8 C dX12_isParted_27 (by decide) ?_
        replace E := Option.some.inj E
        replace E := am_exL E Er8
        refine am_lvs [2, 3, 4, 1, 0] rfl ?_
        exact ih8 _ _ E
  refine am_lvs [2, 4, 5, 1, 0] rfl ?_
  exact LP8 am_F _ _ E
def j_X12_walls_88 (p3 : Int32) (v4 : Int32) : Option (Int32) :=
  am_if (p3 = 0) (am_bd (f_X12_bits v4) (fun v5 => some v5)) (some v4)
def b_X12_walls_49 (p1 : Int32) (p2 : Int32) (p3 : Int32) (s0 : am_S) (v12 : Int32) (v13 : Int32) : Option ((Int32 × Int32) ⊕ (Int32)) :=
  am_if (v13 < 0) (am_bd (j_X12_walls_88 p3 v12) (fun e14 => some (Sum.inr e14))) (am_bd (f_X12_bits v13) (fun v15 => am_bd (f_X12_bits v12) (fun v16 => am_if (v16 < v15) (am_lt (v13 + (-1 : Int32)) (fun v17 => some (Sum.inl (v12, v17)))) (am_bd (f_X12_isParted p1 p2 v13 s0) (fun v18 => am_if (v18 = 0) (am_lt (v13 + (-1 : Int32)) (fun v19 => some (Sum.inl (v12, v19)))) (am_lt (v13 + (-1 : Int32)) (fun v20 => some (Sum.inl (v13, v20)))))))))
def f_X12_walls (p1 : Int32) (p2 : Int32) (p3 : Int32) (s0 : am_S) : Option (Int32) :=
  am_bd (f_X12_isPerson p1 s0) (fun v7 => am_if (v7 = 0) (some (-1 : Int32)) (am_bd (f_X12_isPerson p2 s0) (fun v8 => am_if (v8 = 0) (some (-1 : Int32)) (am_if (p1 = p2) (some (-1 : Int32)) (am_bd (f_X12_in (p3).toInt64 (0 : Int64) (1 : Int64)) (fun v9 => am_if (v9 = 0) (some (-1 : Int32)) (am_lt (((1 : Int32) <<< ((s0.1 258 3) &&& 31)) - (1 : Int32)) (fun v10 => am_lp (fun (q : Int32 × Int32) => b_X12_walls_49 p1 p2 p3 s0 q.1 q.2) am_F (v10, v10)))))))))
set_option maxRecDepth 100000 in
set_option maxHeartbeats 4000000 in
theorem t_X12_walls (p1 : Int32) (p2 : Int32) (p3 : Int32) (s0 : am_S) {z : Int32} (E : f_X12_walls p1 p2 p3 s0 = some z) : AS yX12_walls cX12_walls 6 (some .int) 4 [.ref 248, .int p1, .int p2, .int p3] s0 (some (.int z)) s0 := by
  unfold f_X12_walls at E
  refine as_met (lv := [(0, .ref 248), (1, .int p1), (2, .int p2), (3, .int p3)]) (by decide +kernel) (by simp [lg_sl, Value.category]) rfl (fun x C A Z => ?_)
  have K88 : ∀ (v4 : Int32), j_X12_walls_88 p3 v4 = some z → AX x 0 0 88 [(0, .ref 248), (3, .int p3), (4, .int v4)] [] am_N (am_h s0) := by
    intro v4 E
    unfold j_X12_walls_88 at E
    refine am_iload_n 88 C dX12_walls_88 rfl 1 rfl ?_
    refine am_if_ne 89 100 C dX12_walls_89 (by decide) (fun c6 => ?_) (fun c6 => ?_)
    · have E := am_ifF E c6
      refine am_iload 100 C dX12_walls_100 2 rfl ?_
      replace E := Option.some.inj E
      subst E
      exact as_iret 102 C Z rfl dX12_walls_102
    · have E := am_ifT E c6
      refine am_iload 92 C dX12_walls_92 2 rfl ?_
      obtain ⟨v5, Ec, E⟩ := am_bdE E
      refine as_callS 94 (s2 := s0) (st := []) (st2 := [.int v5]) [.int v4] C A (by decide) ml_X12_399 yc_X12_bits ys_X12_bits (t_X12_bits v4 s0 Ec) rfl rfl (Nat.le_of_ble_eq_true rfl) rfl dX12_walls_94 ?_
      refine am_goto 97 102 C dX12_walls_97 (by decide) ?_
      replace E := Option.some.inj E
      subst E
      exact as_iret 102 C Z rfl dX12_walls_102
  refine am_aload_n 0 C dX12_walls_0 rfl 0 rfl ?_
  refine am_iload_n 1 C dX12_walls_1 rfl 1 rfl ?_
  obtain ⟨v7, Ec, E⟩ := am_bdE E
  refine as_callV 2 (s2 := s0) (st := []) (st2 := [.int v7]) [.int p1] C A (by decide) ml_X12_317 yc_X12_isPerson yv_X12_isPerson (t_X12_isPerson p1 s0 Ec) (by decide) sh_248 rfl rfl (Nat.le_of_ble_eq_true rfl) rfl dX12_walls_2 ?_
  refine am_if_eq 5 31 C dX12_walls_5 (by decide) (fun c27 => ?_) (fun c27 => ?_)
  · have E := am_ifT E c27
    refine am_iconst 31 (-1 : Int32) C dX12_walls_31 (by decide) ?_
    replace E := Option.some.inj E
    subst E
    exact as_iret 32 C Z rfl dX12_walls_32
  · have E := am_ifF E c27
    refine am_aload_n 8 C dX12_walls_8 rfl 0 rfl ?_
    refine am_iload_n 9 C dX12_walls_9 rfl 2 rfl ?_
    obtain ⟨v8, Ec, E⟩ := am_bdE E
    refine as_callV 10 (s2 := s0) (st := []) (st2 := [.int v8]) [.int p2] C A (by decide) ml_X12_317 yc_X12_isPerson yv_X12_isPerson (t_X12_isPerson p2 s0 Ec) (by decide) sh_248 rfl rfl (Nat.le_of_ble_eq_true rfl) rfl dX12_walls_10 ?_
    refine am_if_eq 13 31 C dX12_walls_13 (by decide) (fun c26 => ?_) (fun c26 => ?_)
    · have E := am_ifT E c26
      refine am_iconst 31 (-1 : Int32) C dX12_walls_31 (by decide) ?_
      replace E := Option.some.inj E
      subst E
      exact as_iret 32 C Z rfl dX12_walls_32
    · have E := am_ifF E c26
      refine am_iload_n 16 C dX12_walls_16 rfl 1 rfl ?_
      refine am_iload_n 17 C dX12_walls_17 rfl 2 rfl ?_
      refine am_icmp_eq 18 31 C dX12_walls_18 (by decide) (fun c25 => ?_) (fun c25 => ?_)
      · have E := am_ifT E c25
        refine am_iconst 31 (-1 : Int32) C dX12_walls_31 (by decide) ?_
        replace E := Option.some.inj E
        subst E
        exact as_iret 32 C Z rfl dX12_walls_32
      · have E := am_ifF E c25
        refine am_iload_n 21 C dX12_walls_21 rfl 3 rfl ?_
        refine am_i2l 22 C dX12_walls_22 ?_
        refine am_lconst 23 (0 : Int64) C dX12_walls_23 (by decide) ?_
        refine am_lconst 24 (1 : Int64) C dX12_walls_24 (by decide) ?_
        obtain ⟨v9, Ec, E⟩ := am_bdE E
        refine as_callS 25 (s2 := s0) (st := []) (st2 := [.int v9]) [.long (p3).toInt64, .long (0 : Int64), .long (1 : Int64)] C A (by decide) ml_X12_106 yc_X12_in ys_X12_in (t_X12_in (p3).toInt64 (0 : Int64) (1 : Int64) s0 Ec) rfl rfl (Nat.le_of_ble_eq_true rfl) rfl dX12_walls_25 ?_
        refine am_if_ne 28 33 C dX12_walls_28 (by decide) (fun c24 => ?_) (fun c24 => ?_)
        · have E := am_ifF E c24
          refine am_iconst 33 (1 : Int32) C dX12_walls_33 (by decide) ?_
          refine am_aload_n 34 C dX12_walls_34 rfl 0 rfl ?_
          refine as_getr 35 C fl_X12_39_11 dX12_walls_35 (by decide) sh_248 (rf_248_20 _ _) ?_
          refine am_iconst 38 (nI 3) C dX12_walls_38 (by decide) ?_
          refine as_ialdK 39 3 C dX12_walls_39 (by decide) sh_258 (by decide) (by decide) ?_
          refine am_ishl 40 C dX12_walls_40 ?_
          refine am_iconst 41 (1 : Int32) C dX12_walls_41 (by decide) ?_
          refine am_isub 42 C dX12_walls_42 ?_
          obtain ⟨v10, hv10, E⟩ := am_ltE E
          refine as_nm hv10 ?_
          refine am_istore 43 (lv2 := [(4, .int v10), (0, .ref 248), (1, .int p1), (2, .int p2), (3, .int p3)]) C dX12_walls_43 (by decide) rfl ?_
          refine am_iload 45 C dX12_walls_45 0 rfl ?_
          refine am_istore 47 (lv2 := [(5, .int v10), (4, .int v10), (0, .ref 248), (1, .int p1), (2, .int p2), (3, .int p3)]) C dX12_walls_47 (by decide) rfl ?_
          have LP11 : ∀ (n : Nat) (v12 : Int32) (v13 : Int32), am_lp (fun (q : Int32 × Int32) => b_X12_walls_49 p1 p2 p3 s0 q.1 q.2) n (v12, v13) = some z → AX x 0 0 49 [(0, .ref 248), (1, .int p1), (2, .int p2), (3, .int p3), (4, .int v12), (5, .int v13)] [] am_N (am_h s0) := by
            intro n
            induction n with
            | zero => intro v12 v13 E; exact (am_lp0 E).elim
            | succ n ih11 =>
              intro v12 v13 E
              obtain ⟨r11, E, Er11⟩ := am_lpE E
              replace E : b_X12_walls_49 p1 p2 p3 s0 v12 v13 = some r11 := E
              unfold b_X12_walls_49 at E
              refine am_iload 49 C dX12_walls_49 5 rfl ?_
              refine am_if_lt 51 88 C dX12_walls_51 (by decide) (fun c23 => ?_) (fun c23 => ?_)
              · have E := am_ifT E c23
                obtain ⟨e14, E, E2⟩ := am_bdE E
                replace E2 := Option.some.inj E2
                replace E2 := am_exR E2 Er11
                rw [E2] at E
                refine am_lvs [0, 3, 4] rfl ?_
                exact K88 _ E
              · have E := am_ifF E c23
                refine am_iload 54 C dX12_walls_54 5 rfl ?_
                obtain ⟨v15, Ec, E⟩ := am_bdE E
                refine as_callS 56 (s2 := s0) (st := []) (st2 := [.int v15]) [.int v13] C A (by decide) ml_X12_399 yc_X12_bits ys_X12_bits (t_X12_bits v13 s0 Ec) rfl rfl (Nat.le_of_ble_eq_true rfl) rfl dX12_walls_56 ?_
                refine am_iload 59 C dX12_walls_59 4 rfl ?_
                obtain ⟨v16, Ec, E⟩ := am_bdE E
                refine as_callS 61 (s2 := s0) (st := [.int v15]) (st2 := [.int v16, .int v15]) [.int v12] C A (by decide) ml_X12_399 yc_X12_bits ys_X12_bits (t_X12_bits v12 s0 Ec) rfl rfl (Nat.le_of_ble_eq_true rfl) rfl dX12_walls_61 ?_
                refine am_icmp_gt 64 82 C dX12_walls_64 (by decide) (fun c22 => ?_) (fun c22 => ?_)
                · have E := am_ifT E c22
                  obtain ⟨v17, hv17, E⟩ := am_ltE E
                  refine as_iinc 82 (q := (-1 : Int32)) (lv2 := [(5, .int v17), (0, .ref 248), (1, .int p1), (2, .int p2), (3, .int p3), (4, .int v12)]) C dX12_walls_82 5 rfl (by decide) hv17 (by decide) rfl ?_
                  refine am_goto 85 49 C dX12_walls_85 (by decide) ?_
                  replace E := Option.some.inj E
                  replace E := am_exL E Er11
                  refine am_lvs [1, 2, 3, 4, 5, 0] rfl ?_
                  exact ih11 _ _ E
                · have E := am_ifF E c22
                  refine am_aload_n 67 C dX12_walls_67 rfl 0 rfl ?_
                  refine am_iload_n 68 C dX12_walls_68 rfl 1 rfl ?_
                  refine am_iload_n 69 C dX12_walls_69 rfl 2 rfl ?_
                  refine am_iload 70 C dX12_walls_70 5 rfl ?_
                  obtain ⟨v18, Ec, E⟩ := am_bdE E
                  refine as_callV 72 (s2 := s0) (st := []) (st2 := [.int v18]) [.int p1, .int p2, .int v13] C A (by decide) ml_X12_418 yc_X12_isParted yv_X12_isParted (t_X12_isParted p1 p2 v13 s0 Ec) (by decide) sh_248 rfl rfl (Nat.le_of_ble_eq_true rfl) rfl dX12_walls_72 ?_
                  refine am_if_eq 75 82 C dX12_walls_75 (by decide) (fun c21 => ?_) (fun c21 => ?_)
                  · have E := am_ifT E c21
                    obtain ⟨v19, hv19, E⟩ := am_ltE E
                    refine as_iinc 82 (q := (-1 : Int32)) (lv2 := [(5, .int v19), (0, .ref 248), (1, .int p1), (2, .int p2), (3, .int p3), (4, .int v12)]) C dX12_walls_82 5 rfl (by decide) hv19 (by decide) rfl ?_
                    refine am_goto 85 49 C dX12_walls_85 (by decide) ?_
                    replace E := Option.some.inj E
                    replace E := am_exL E Er11
                    refine am_lvs [1, 2, 3, 4, 5, 0] rfl ?_
                    exact ih11 _ _ E
                  · have E := am_ifF E c21
                    refine am_iload 78 C dX12_walls_78 5 rfl ?_
                    refine am_istore 80 (lv2 := [(4, .int v13), (0, .ref 248), (1, .int p1), (2, .int p2), (3, .int p3), (5, .int v13)]) C dX12_walls_80 (by decide) rfl ?_
                    obtain ⟨v20, hv20, E⟩ := am_ltE E
                    refine as_iinc 82 (q := (-1 : Int32)) (lv2 := [(5, .int v20), (4, .int v13), (0, .ref 248), (1, .int p1), (2, .int p2), (3, .int p3)]) C dX12_walls_82 5 rfl (by decide) hv20 (by decide) rfl ?_
                    refine am_goto 85 49 C dX12_walls_85 (by decide) ?_
                    replace E := Option.some.inj E
                    replace E := am_exL E Er11
                    refine am_lvs [2, 3, 4, 5, 1, 0] rfl ?_
                    exact ih11 _ _ E
          refine am_lvs [2, 3, 4, 5, 1, 0] rfl ?_
          exact LP11 am_F _ _ E
        · have E := am_ifT E c24
          refine am_iconst 31 (-1 : Int32) C dX12_walls_31 (by decide) ?_
          replace E := Option.some.inj E
          subst E
          exact as_iret 32 C Z rfl dX12_walls_32
def b_X12_leak_25 (p2 : Int32) (s0 : am_S) (v7 : Int32) (v8 : Int32) : Option ((Int32 × Int32) ⊕ (Int32)) :=
  am_if ((nI 7) ≤ v8) (some (Sum.inr (-2 : Int32))) (am_bd (f_X12_isOf v7 p2) (fun v9 => am_if (v9 = 0) (am_bd (f_X12_stepped v7 (0 : Int32) s0) (fun v10 => am_lt (v8 + (1 : Int32)) (fun v11 => some (Sum.inl (v10, v11))))) (some (Sum.inr v8))))
def f_X12_leak (p1 : Int32) (p2 : Int32) (s0 : am_S) : Option (Int32) :=
  am_bd (f_X12_isPerson p1 s0) (fun v3 => am_if (v3 = 0) (some (-1 : Int32)) (am_bd (f_X12_isPerson p2 s0) (fun v4 => am_if (v4 = 0) (some (-1 : Int32)) (am_lt ((1 : Int32) <<< (p1 &&& 31)) (fun v5 => am_lp (fun (q : Int32 × Int32) => b_X12_leak_25 p2 s0 q.1 q.2) am_F (v5, (0 : Int32)))))))
set_option maxRecDepth 100000 in
set_option maxHeartbeats 4000000 in
theorem t_X12_leak (p1 : Int32) (p2 : Int32) (s0 : am_S) {z : Int32} (E : f_X12_leak p1 p2 s0 = some z) : AS yX12_leak cX12_leak 5 (some .int) 3 [.ref 248, .int p1, .int p2] s0 (some (.int z)) s0 := by
  unfold f_X12_leak at E
  refine as_met (lv := [(0, .ref 248), (1, .int p1), (2, .int p2)]) (by decide +kernel) (by simp [lg_sl, Value.category]) rfl (fun x C A Z => ?_)
  refine am_aload_n 0 C dX12_leak_0 rfl 0 rfl ?_
  refine am_iload_n 1 C dX12_leak_1 rfl 1 rfl ?_
  obtain ⟨v3, Ec, E⟩ := am_bdE E
  refine as_callV 2 (s2 := s0) (st := []) (st2 := [.int v3]) [.int p1] C A (by decide) ml_X12_317 yc_X12_isPerson yv_X12_isPerson (t_X12_isPerson p1 s0 Ec) (by decide) sh_248 rfl rfl (Nat.le_of_ble_eq_true rfl) rfl dX12_leak_2 ?_
  refine am_if_eq 5 16 C dX12_leak_5 (by decide) (fun c15 => ?_) (fun c15 => ?_)
  · have E := am_ifT E c15
    refine am_iconst 16 (-1 : Int32) C dX12_leak_16 (by decide) ?_
    replace E := Option.some.inj E
    subst E
    exact as_iret 17 C Z rfl dX12_leak_17
  · have E := am_ifF E c15
    refine am_aload_n 8 C dX12_leak_8 rfl 0 rfl ?_
    refine am_iload_n 9 C dX12_leak_9 rfl 2 rfl ?_
    obtain ⟨v4, Ec, E⟩ := am_bdE E
    refine as_callV 10 (s2 := s0) (st := []) (st2 := [.int v4]) [.int p2] C A (by decide) ml_X12_317 yc_X12_isPerson yv_X12_isPerson (t_X12_isPerson p2 s0 Ec) (by decide) sh_248 rfl rfl (Nat.le_of_ble_eq_true rfl) rfl dX12_leak_10 ?_
    refine am_if_ne 13 18 C dX12_leak_13 (by decide) (fun c14 => ?_) (fun c14 => ?_)
    · have E := am_ifF E c14
      refine am_iconst 18 (1 : Int32) C dX12_leak_18 (by decide) ?_
      refine am_iload_n 19 C dX12_leak_19 rfl 1 rfl ?_
      refine am_ishl 20 C dX12_leak_20 ?_
      obtain ⟨v5, hv5, E⟩ := am_ltE E
      refine as_nm hv5 ?_
      refine am_istore_n 21 (lv2 := [(3, .int v5), (0, .ref 248), (1, .int p1), (2, .int p2)]) C dX12_leak_21 rfl (by decide) rfl ?_
      refine am_iconst 22 (0 : Int32) C dX12_leak_22 (by decide) ?_
      refine am_istore 23 (lv2 := [(4, .int (0 : Int32)), (3, .int v5), (0, .ref 248), (1, .int p1), (2, .int p2)]) C dX12_leak_23 (by decide) rfl ?_
      have LP6 : ∀ (n : Nat) (v7 : Int32) (v8 : Int32), am_lp (fun (q : Int32 × Int32) => b_X12_leak_25 p2 s0 q.1 q.2) n (v7, v8) = some z → AX x 0 0 25 [(0, .ref 248), (2, .int p2), (3, .int v7), (4, .int v8)] [] am_N (am_h s0) := by
        intro n
        induction n with
        | zero => intro v7 v8 E; exact (am_lp0 E).elim
        | succ n ih6 =>
          intro v7 v8 E
          obtain ⟨r6, E, Er6⟩ := am_lpE E
          replace E : b_X12_leak_25 p2 s0 v7 v8 = some r6 := E
          unfold b_X12_leak_25 at E
          refine am_iload 25 C dX12_leak_25 3 rfl ?_
          refine am_bipush 27 (nI 7) C dX12_leak_27 (by decide) ?_
          refine am_icmp_ge 29 56 C dX12_leak_29 (by decide) (fun c13 => ?_) (fun c13 => ?_)
          · have E := am_ifT E c13
            refine am_bipush 56 (-2 : Int32) C dX12_leak_56 (by decide) ?_
            replace E := Option.some.inj E
            replace E := am_exR E Er6
            subst E
            exact as_iret 58 C Z rfl dX12_leak_58
          · have E := am_ifF E c13
            refine am_iload_n 32 C dX12_leak_32 rfl 2 rfl ?_
            refine am_iload_n 33 C dX12_leak_33 rfl 1 rfl ?_
            obtain ⟨v9, Ec, E⟩ := am_bdE E
            refine as_callS 34 (s2 := s0) (st := []) (st2 := [.int v9]) [.int v7, .int p2] C A (by decide) ml_X12_214 yc_X12_isOf ys_X12_isOf (t_X12_isOf v7 p2 s0 Ec) rfl rfl (Nat.le_of_ble_eq_true rfl) rfl dX12_leak_34 ?_
            refine am_if_eq 37 43 C dX12_leak_37 (by decide) (fun c12 => ?_) (fun c12 => ?_)
            · have E := am_ifT E c12
              refine am_aload_n 43 C dX12_leak_43 rfl 0 rfl ?_
              refine am_iload_n 44 C dX12_leak_44 rfl 2 rfl ?_
              refine am_iconst 45 (0 : Int32) C dX12_leak_45 (by decide) ?_
              obtain ⟨v10, Ec, E⟩ := am_bdE E
              refine as_callV 46 (s2 := s0) (st := []) (st2 := [.int v10]) [.int v7, .int (0 : Int32)] C A (by decide) ml_X12_415 yc_X12_stepped yv_X12_stepped (t_X12_stepped v7 (0 : Int32) s0 Ec) (by decide) sh_248 rfl rfl (Nat.le_of_ble_eq_true rfl) rfl dX12_leak_46 ?_
              refine am_istore_n 49 (lv2 := [(3, .int v10), (0, .ref 248), (2, .int p2), (4, .int v8)]) C dX12_leak_49 rfl (by decide) rfl ?_
              obtain ⟨v11, hv11, E⟩ := am_ltE E
              refine as_iinc 50 (q := (1 : Int32)) (lv2 := [(4, .int v11), (3, .int v10), (0, .ref 248), (2, .int p2)]) C dX12_leak_50 3 rfl (by decide) hv11 (by decide) rfl ?_
              refine am_goto 53 25 C dX12_leak_53 (by decide) ?_
              replace E := Option.some.inj E
              replace E := am_exL E Er6
              refine am_lvs [2, 3, 1, 0] rfl ?_
              exact ih6 _ _ E
            · have E := am_ifF E c12
              refine am_iload 40 C dX12_leak_40 3 rfl ?_
              replace E := Option.some.inj E
              replace E := am_exR E Er6
              subst E
              exact as_iret 42 C Z rfl dX12_leak_42
      refine am_lvs [2, 4, 1, 0] rfl ?_
      exact LP6 am_F _ _ E
    · have E := am_ifT E c14
      refine am_iconst 16 (-1 : Int32) C dX12_leak_16 (by decide) ?_
      replace E := Option.some.inj E
      subst E
      exact as_iret 17 C Z rfl dX12_leak_17
def f_X12_stated (p1 : Int32) (p2 : Int32) (p3 : Int32) (s0 : am_S) : Option (Int32 × am_S) :=
  am_if (p1 = (-1 : Int32)) (am_lt (as_i s0 258 326 (0 : Int32)) (fun s19 => some ((0 : Int32), s19))) (am_bd (f_X12_isPerson p1 s0) (fun v4 => am_if (v4 = 0) (some ((-2 : Int32), s0)) (am_bd (f_X12_isFact p2 s0) (fun v5 => am_if (v5 = 0) (some ((-2 : Int32), s0)) (am_bd (f_X12_in (p3).toInt64 (0 : Int64) (1 : Int64)) (fun v6 => am_if (v6 = 0) (some ((-2 : Int32), s0)) (am_if ((s0.1 258 326) = (nI 12)) (some ((-2 : Int32), s0)) (am_lt ((nI 270) + ((nI 3) * (s0.1 258 326))) (fun v7 => am_gd (¬ v7 < 0 ∧ (v7).toNatClampNeg < 328) (am_lt (as_i s0 258 (v7).toNatClampNeg p1) (fun s9 => am_gd (¬ (v7 + (1 : Int32)) < 0 ∧ ((v7 + (1 : Int32))).toNatClampNeg < 328) (am_lt (as_i s9 258 ((v7 + (1 : Int32))).toNatClampNeg p2) (fun s11 => am_gd (¬ (v7 + (nI 2)) < 0 ∧ ((v7 + (nI 2))).toNatClampNeg < 328) (am_lt (as_i s11 258 ((v7 + (nI 2))).toNatClampNeg p3) (fun s13 => am_lt (as_i s13 258 326 ((s13.1 258 326) + (1 : Int32))) (fun s14 => some ((s14.1 258 326), s14)))))))))))))))))
set_option maxRecDepth 100000 in
set_option maxHeartbeats 4000000 in
theorem t_X12_stated (p1 : Int32) (p2 : Int32) (p3 : Int32) (s0 : am_S) {z : Int32 × am_S} (E : f_X12_stated p1 p2 p3 s0 = some z) : AS yX12_stated cX12_stated 5 (some .int) 2 [.ref 248, .int p1, .int p2, .int p3] s0 (some (.int z.1)) z.2 := by
  unfold f_X12_stated at E
  refine as_met (lv := [(0, .ref 248), (1, .int p1), (2, .int p2), (3, .int p3)]) (by decide +kernel) (by simp [lg_sl, Value.category]) rfl (fun x C A Z => ?_)
  refine am_iload_n 0 C dX12_stated_0 rfl 1 rfl ?_
  refine am_iconst 1 (-1 : Int32) C dX12_stated_1 (by decide) ?_
  refine am_icmp_ne 2 16 C dX12_stated_2 (by decide) (fun c20 => ?_) (fun c20 => ?_)
  · have E := am_ifF E c20
    refine am_aload_n 16 C dX12_stated_16 rfl 0 rfl ?_
    refine am_iload_n 17 C dX12_stated_17 rfl 1 rfl ?_
    obtain ⟨v4, Ec, E⟩ := am_bdE E
    refine as_callV 18 (s2 := s0) (st := []) (st2 := [.int v4]) [.int p1] C A (by decide) ml_X12_317 yc_X12_isPerson yv_X12_isPerson (t_X12_isPerson p1 s0 Ec) (by decide) sh_248 rfl rfl (Nat.le_of_ble_eq_true rfl) rfl dX12_stated_18 ?_
    refine am_if_eq 21 55 C dX12_stated_21 (by decide) (fun c18 => ?_) (fun c18 => ?_)
    · have E := am_ifT E c18
      refine am_bipush 55 (-2 : Int32) C dX12_stated_55 (by decide) ?_
      replace E := Option.some.inj E
      subst E
      exact as_iret 57 C Z rfl dX12_stated_57
    · have E := am_ifF E c18
      refine am_aload_n 24 C dX12_stated_24 rfl 0 rfl ?_
      refine am_iload_n 25 C dX12_stated_25 rfl 2 rfl ?_
      obtain ⟨v5, Ec, E⟩ := am_bdE E
      refine as_callV 26 (s2 := s0) (st := []) (st2 := [.int v5]) [.int p2] C A (by decide) ml_X12_320 yc_X12_isFact yv_X12_isFact (t_X12_isFact p2 s0 Ec) (by decide) sh_248 rfl rfl (Nat.le_of_ble_eq_true rfl) rfl dX12_stated_26 ?_
      refine am_if_eq 29 55 C dX12_stated_29 (by decide) (fun c17 => ?_) (fun c17 => ?_)
      · have E := am_ifT E c17
        refine am_bipush 55 (-2 : Int32) C dX12_stated_55 (by decide) ?_
        replace E := Option.some.inj E
        subst E
        exact as_iret 57 C Z rfl dX12_stated_57
      · have E := am_ifF E c17
        refine am_iload_n 32 C dX12_stated_32 rfl 3 rfl ?_
        refine am_i2l 33 C dX12_stated_33 ?_
        refine am_lconst 34 (0 : Int64) C dX12_stated_34 (by decide) ?_
        refine am_lconst 35 (1 : Int64) C dX12_stated_35 (by decide) ?_
        obtain ⟨v6, Ec, E⟩ := am_bdE E
        refine as_callS 36 (s2 := s0) (st := []) (st2 := [.int v6]) [.long (p3).toInt64, .long (0 : Int64), .long (1 : Int64)] C A (by decide) ml_X12_106 yc_X12_in ys_X12_in (t_X12_in (p3).toInt64 (0 : Int64) (1 : Int64) s0 Ec) rfl rfl (Nat.le_of_ble_eq_true rfl) rfl dX12_stated_36 ?_
        refine am_if_eq 39 55 C dX12_stated_39 (by decide) (fun c16 => ?_) (fun c16 => ?_)
        · have E := am_ifT E c16
          refine am_bipush 55 (-2 : Int32) C dX12_stated_55 (by decide) ?_
          replace E := Option.some.inj E
          subst E
          exact as_iret 57 C Z rfl dX12_stated_57
        · have E := am_ifF E c16
          refine am_aload_n 42 C dX12_stated_42 rfl 0 rfl ?_
          refine as_getr 43 C fl_X12_39_11 dX12_stated_43 (by decide) sh_248 (rf_248_20 _ _) ?_
          refine am_sipush 46 (nI 326) C dX12_stated_46 (by decide) ?_
          refine as_ialdK 49 326 C dX12_stated_49 (by decide) sh_258 (by decide) (by decide) ?_
          refine am_bipush 50 (nI 12) C dX12_stated_50 (by decide) ?_
          refine am_icmp_ne 52 58 C dX12_stated_52 (by decide) (fun c15 => ?_) (fun c15 => ?_)
          · have E := am_ifF E c15
            refine am_sipush 58 (nI 270) C dX12_stated_58 (by decide) ?_
            refine am_iconst 61 (nI 3) C dX12_stated_61 (by decide) ?_
            refine am_aload_n 62 C dX12_stated_62 rfl 0 rfl ?_
            refine as_getr 63 C fl_X12_39_11 dX12_stated_63 (by decide) sh_248 (rf_248_20 _ _) ?_
            refine am_sipush 66 (nI 326) C dX12_stated_66 (by decide) ?_
            refine as_ialdK 69 326 C dX12_stated_69 (by decide) sh_258 (by decide) (by decide) ?_
            refine am_imul 70 C dX12_stated_70 ?_
            refine am_iadd 71 C dX12_stated_71 ?_
            obtain ⟨v7, hv7, E⟩ := am_ltE E
            refine as_nm hv7 ?_
            refine am_istore 72 (lv2 := [(4, .int v7), (0, .ref 248), (1, .int p1), (2, .int p2), (3, .int p3)]) C dX12_stated_72 (by decide) rfl ?_
            refine am_aload_n 74 C dX12_stated_74 rfl 1 rfl ?_
            refine as_getr 75 C fl_X12_39_11 dX12_stated_75 (by decide) sh_248 (rf_248_20 _ _) ?_
            refine am_iload 78 C dX12_stated_78 0 rfl ?_
            refine am_iload_n 80 C dX12_stated_80 rfl 2 rfl ?_
            obtain ⟨g8, E⟩ := am_gdE E
            obtain ⟨s9, hs9, E⟩ := am_ltE E
            refine as_iast 81 C dX12_stated_81 (by decide) sh_258 g8 hs9 ?_
            refine am_aload_n 82 C dX12_stated_82 rfl 1 rfl ?_
            refine as_getr 83 C fl_X12_39_11 dX12_stated_83 (by decide) sh_248 (rf_248_20 _ _) ?_
            refine am_iload 86 C dX12_stated_86 0 rfl ?_
            refine am_iconst 88 (1 : Int32) C dX12_stated_88 (by decide) ?_
            refine am_iadd 89 C dX12_stated_89 ?_
            refine am_iload_n 90 C dX12_stated_90 rfl 3 rfl ?_
            obtain ⟨g10, E⟩ := am_gdE E
            obtain ⟨s11, hs11, E⟩ := am_ltE E
            refine as_iast 91 C dX12_stated_91 (by decide) sh_258 g10 hs11 ?_
            refine am_aload_n 92 C dX12_stated_92 rfl 1 rfl ?_
            refine as_getr 93 C fl_X12_39_11 dX12_stated_93 (by decide) sh_248 (rf_248_20 _ _) ?_
            refine am_iload 96 C dX12_stated_96 0 rfl ?_
            refine am_iconst 98 (nI 2) C dX12_stated_98 (by decide) ?_
            refine am_iadd 99 C dX12_stated_99 ?_
            refine am_iload_n 100 C dX12_stated_100 rfl 4 rfl ?_
            obtain ⟨g12, E⟩ := am_gdE E
            obtain ⟨s13, hs13, E⟩ := am_ltE E
            refine as_iast 101 C dX12_stated_101 (by decide) sh_258 g12 hs13 ?_
            refine am_aload_n 102 C dX12_stated_102 rfl 1 rfl ?_
            refine as_getr 103 C fl_X12_39_11 dX12_stated_103 (by decide) sh_248 (rf_248_20 _ _) ?_
            refine am_sipush 106 (nI 326) C dX12_stated_106 (by decide) ?_
            refine am_dup2 109 C dX12_stated_109 rfl rfl ?_
            refine as_ialdK 110 326 C dX12_stated_110 (by decide) sh_258 (by decide) (by decide) ?_
            refine am_iconst 111 (1 : Int32) C dX12_stated_111 (by decide) ?_
            refine am_iadd 112 C dX12_stated_112 ?_
            obtain ⟨s14, hs14, E⟩ := am_ltE E
            refine as_iastK 113 326 C dX12_stated_113 (by decide) sh_258 (by decide) (by decide) hs14 ?_
            refine am_aload_n 114 C dX12_stated_114 rfl 1 rfl ?_
            refine as_getr 115 C fl_X12_39_11 dX12_stated_115 (by decide) sh_248 (rf_248_20 _ _) ?_
            refine am_sipush 118 (nI 326) C dX12_stated_118 (by decide) ?_
            refine as_ialdK 121 326 C dX12_stated_121 (by decide) sh_258 (by decide) (by decide) ?_
            replace E := Option.some.inj E
            subst E
            exact as_iret 122 C Z rfl dX12_stated_122
          · have E := am_ifT E c15
            refine am_bipush 55 (-2 : Int32) C dX12_stated_55 (by decide) ?_
            replace E := Option.some.inj E
            subst E
            exact as_iret 57 C Z rfl dX12_stated_57
  · have E := am_ifT E c20
    refine am_aload_n 5 C dX12_stated_5 rfl 0 rfl ?_
    refine as_getr 6 C fl_X12_39_11 dX12_stated_6 (by decide) sh_248 (rf_248_20 _ _) ?_
    refine am_sipush 9 (nI 326) C dX12_stated_9 (by decide) ?_
    refine am_iconst 12 (0 : Int32) C dX12_stated_12 (by decide) ?_
    obtain ⟨s19, hs19, E⟩ := am_ltE E
    refine as_iastK 13 326 C dX12_stated_13 (by decide) sh_258 (by decide) (by decide) hs19 ?_
    refine am_iconst 14 (0 : Int32) C dX12_stated_14 (by decide) ?_
    replace E := Option.some.inj E
    subst E
    exact as_iret 15 C Z rfl dX12_stated_15
def b_X12_statedBy_5 (p1 : Int32) (p2 : Int32) (s0 : am_S) (v4 : Int32) (v5 : Int32) : Option ((Int32 × Int32) ⊕ (Int32)) :=
  am_if ((s0.1 258 326) ≤ v5) (some (Sum.inr v4)) (am_lt ((nI 270) + ((nI 3) * v5)) (fun v6 => am_gd (¬ v6 < 0 ∧ (v6).toNatClampNeg < 328) (am_if ((s0.1 258 (v6).toNatClampNeg) = p1) (am_lt (v6 + (1 : Int32)) (fun v9 => am_gd (¬ v9 < 0 ∧ (v9).toNatClampNeg < 328) (am_lt (v6 + (nI 2)) (fun v11 => am_gd (¬ v11 < 0 ∧ (v11).toNatClampNeg < 328) (am_if (((p2 >>> ((s0.1 258 (v9).toNatClampNeg) &&& 31)) &&& (1 : Int32)) = (s0.1 258 (v11).toNatClampNeg)) (am_lt (v4 ||| (1 : Int32)) (fun v15 => am_lt (v5 + (1 : Int32)) (fun v16 => some (Sum.inl (v15, v16))))) (am_lt (v4 ||| (nI 2)) (fun v13 => am_lt (v5 + (1 : Int32)) (fun v14 => some (Sum.inl (v13, v14)))))))))) (am_lt (v5 + (1 : Int32)) (fun v8 => some (Sum.inl (v4, v8)))))))
def f_X12_statedBy (p1 : Int32) (p2 : Int32) (s0 : am_S) : Option (Int32) :=
  am_lp (fun (q : Int32 × Int32) => b_X12_statedBy_5 p1 p2 s0 q.1 q.2) am_F ((0 : Int32), (0 : Int32))
set_option maxRecDepth 100000 in
set_option maxHeartbeats 4000000 in
theorem t_X12_statedBy (p1 : Int32) (p2 : Int32) (s0 : am_S) {z : Int32} (E : f_X12_statedBy p1 p2 s0 = some z) : AS yX12_statedBy cX12_statedBy 6 (some .int) 1 [.ref 248, .int p1, .int p2] s0 (some (.int z)) s0 := by
  unfold f_X12_statedBy at E
  refine as_met (lv := [(0, .ref 248), (1, .int p1), (2, .int p2)]) (by decide +kernel) (by simp [lg_sl, Value.category]) rfl (fun x C A Z => ?_)
  refine am_iconst 0 (0 : Int32) C dX12_statedBy_0 (by decide) ?_
  refine am_istore_n 1 (lv2 := [(3, .int (0 : Int32)), (0, .ref 248), (1, .int p1), (2, .int p2)]) C dX12_statedBy_1 rfl (by decide) rfl ?_
  refine am_iconst 2 (0 : Int32) C dX12_statedBy_2 (by decide) ?_
  refine am_istore 3 (lv2 := [(4, .int (0 : Int32)), (3, .int (0 : Int32)), (0, .ref 248), (1, .int p1), (2, .int p2)]) C dX12_statedBy_3 (by decide) rfl ?_
  have LP3 : ∀ (n : Nat) (v4 : Int32) (v5 : Int32), am_lp (fun (q : Int32 × Int32) => b_X12_statedBy_5 p1 p2 s0 q.1 q.2) n (v4, v5) = some z → AX x 0 0 5 [(0, .ref 248), (1, .int p1), (2, .int p2), (3, .int v4), (4, .int v5)] [] am_N (am_h s0) := by
    intro n
    induction n with
    | zero => intro v4 v5 E; exact (am_lp0 E).elim
    | succ n ih3 =>
      intro v4 v5 E
      obtain ⟨r3, E, Er3⟩ := am_lpE E
      replace E : b_X12_statedBy_5 p1 p2 s0 v4 v5 = some r3 := E
      unfold b_X12_statedBy_5 at E
      refine am_iload 5 C dX12_statedBy_5 4 rfl ?_
      refine am_aload_n 7 C dX12_statedBy_7 rfl 0 rfl ?_
      refine as_getr 8 C fl_X12_39_11 dX12_statedBy_8 (by decide) sh_248 (rf_248_20 _ _) ?_
      refine am_sipush 11 (nI 326) C dX12_statedBy_11 (by decide) ?_
      refine as_ialdK 14 326 C dX12_statedBy_14 (by decide) sh_258 (by decide) (by decide) ?_
      refine am_icmp_ge 15 78 C dX12_statedBy_15 (by decide) (fun c19 => ?_) (fun c19 => ?_)
      · have E := am_ifT E c19
        refine am_iload_n 78 C dX12_statedBy_78 rfl 3 rfl ?_
        replace E := Option.some.inj E
        replace E := am_exR E Er3
        subst E
        exact as_iret 79 C Z rfl dX12_statedBy_79
      · have E := am_ifF E c19
        refine am_sipush 18 (nI 270) C dX12_statedBy_18 (by decide) ?_
        refine am_iconst 21 (nI 3) C dX12_statedBy_21 (by decide) ?_
        refine am_iload 22 C dX12_statedBy_22 4 rfl ?_
        refine am_imul 24 C dX12_statedBy_24 ?_
        refine am_iadd 25 C dX12_statedBy_25 ?_
        obtain ⟨v6, hv6, E⟩ := am_ltE E
        refine as_nm hv6 ?_
        refine am_istore 26 (lv2 := [(5, .int v6), (0, .ref 248), (1, .int p1), (2, .int p2), (3, .int v4), (4, .int v5)]) C dX12_statedBy_26 (by decide) rfl ?_
        refine am_aload_n 28 C dX12_statedBy_28 rfl 1 rfl ?_
        refine as_getr 29 C fl_X12_39_11 dX12_statedBy_29 (by decide) sh_248 (rf_248_20 _ _) ?_
        refine am_iload 32 C dX12_statedBy_32 0 rfl ?_
        obtain ⟨g7, E⟩ := am_gdE E
        refine as_iald 34 C dX12_statedBy_34 (by decide) sh_258 g7 ?_
        refine am_iload_n 35 C dX12_statedBy_35 rfl 2 rfl ?_
        refine am_icmp_ne 36 72 C dX12_statedBy_36 (by decide) (fun c18 => ?_) (fun c18 => ?_)
        · have E := am_ifF E c18
          obtain ⟨v8, hv8, E⟩ := am_ltE E
          refine as_iinc 72 (q := (1 : Int32)) (lv2 := [(4, .int v8), (5, .int v6), (0, .ref 248), (1, .int p1), (2, .int p2), (3, .int v4)]) C dX12_statedBy_72 5 rfl (by decide) hv8 (by decide) rfl ?_
          refine am_goto 75 5 C dX12_statedBy_75 (by decide) ?_
          replace E := Option.some.inj E
          replace E := am_exL E Er3
          refine am_lvs [2, 3, 4, 5, 0] rfl ?_
          exact ih3 _ _ E
        · have E := am_ifT E c18
          refine am_iload_n 39 C dX12_statedBy_39 rfl 4 rfl ?_
          refine am_iload_n 40 C dX12_statedBy_40 rfl 3 rfl ?_
          refine am_aload_n 41 C dX12_statedBy_41 rfl 1 rfl ?_
          refine as_getr 42 C fl_X12_39_11 dX12_statedBy_42 (by decide) sh_248 (rf_248_20 _ _) ?_
          refine am_iload 45 C dX12_statedBy_45 0 rfl ?_
          refine am_iconst 47 (1 : Int32) C dX12_statedBy_47 (by decide) ?_
          refine am_iadd 48 C dX12_statedBy_48 ?_
          obtain ⟨v9, hv9, E⟩ := am_ltE E
          refine as_nm hv9 ?_
          obtain ⟨g10, E⟩ := am_gdE E
          refine as_iald 49 C dX12_statedBy_49 (by decide) sh_258 g10 ?_
          refine am_ishr 50 C dX12_statedBy_50 ?_
          refine am_iconst 51 (1 : Int32) C dX12_statedBy_51 (by decide) ?_
          refine am_iand 52 C dX12_statedBy_52 ?_
          refine am_aload_n 53 C dX12_statedBy_53 rfl 1 rfl ?_
          refine as_getr 54 C fl_X12_39_11 dX12_statedBy_54 (by decide) sh_248 (rf_248_20 _ _) ?_
          refine am_iload 57 C dX12_statedBy_57 0 rfl ?_
          refine am_iconst 59 (nI 2) C dX12_statedBy_59 (by decide) ?_
          refine am_iadd 60 C dX12_statedBy_60 ?_
          obtain ⟨v11, hv11, E⟩ := am_ltE E
          refine as_nm hv11 ?_
          obtain ⟨g12, E⟩ := am_gdE E
          refine as_iald 61 C dX12_statedBy_61 (by decide) sh_258 g12 ?_
          refine am_icmp_ne 62 69 C dX12_statedBy_62 (by decide) (fun c17 => ?_) (fun c17 => ?_)
          · have E := am_ifF E c17
            refine am_iconst 69 (nI 2) C dX12_statedBy_69 (by decide) ?_
            refine am_ior 70 C dX12_statedBy_70 ?_
            obtain ⟨v13, hv13, E⟩ := am_ltE E
            refine as_nm hv13 ?_
            refine am_istore_n 71 (lv2 := [(3, .int v13), (5, .int v6), (0, .ref 248), (1, .int p1), (2, .int p2), (4, .int v5)]) C dX12_statedBy_71 rfl (by decide) rfl ?_
            obtain ⟨v14, hv14, E⟩ := am_ltE E
            refine as_iinc 72 (q := (1 : Int32)) (lv2 := [(4, .int v14), (3, .int v13), (5, .int v6), (0, .ref 248), (1, .int p1), (2, .int p2)]) C dX12_statedBy_72 5 rfl (by decide) hv14 (by decide) rfl ?_
            refine am_goto 75 5 C dX12_statedBy_75 (by decide) ?_
            replace E := Option.some.inj E
            replace E := am_exL E Er3
            refine am_lvs [3, 4, 5, 1, 0] rfl ?_
            exact ih3 _ _ E
          · have E := am_ifT E c17
            refine am_iconst 65 (1 : Int32) C dX12_statedBy_65 (by decide) ?_
            refine am_goto 66 70 C dX12_statedBy_66 (by decide) ?_
            refine am_ior 70 C dX12_statedBy_70 ?_
            obtain ⟨v15, hv15, E⟩ := am_ltE E
            refine as_nm hv15 ?_
            refine am_istore_n 71 (lv2 := [(3, .int v15), (5, .int v6), (0, .ref 248), (1, .int p1), (2, .int p2), (4, .int v5)]) C dX12_statedBy_71 rfl (by decide) rfl ?_
            obtain ⟨v16, hv16, E⟩ := am_ltE E
            refine as_iinc 72 (q := (1 : Int32)) (lv2 := [(4, .int v16), (3, .int v15), (5, .int v6), (0, .ref 248), (1, .int p1), (2, .int p2)]) C dX12_statedBy_72 5 rfl (by decide) hv16 (by decide) rfl ?_
            refine am_goto 75 5 C dX12_statedBy_75 (by decide) ?_
            replace E := Option.some.inj E
            replace E := am_exL E Er3
            refine am_lvs [3, 4, 5, 1, 0] rfl ?_
            exact ih3 _ _ E
  refine am_lvs [2, 3, 4, 1, 0] rfl ?_
  exact LP3 am_F _ _ E
def b_X12_isTruth_2 (p1 : Int32) (s0 : am_S) (v3 : Int32) : Option ((Int32) ⊕ (Int32)) :=
  am_if ((s0.1 258 2) ≤ v3) (some (Sum.inr (1 : Int32))) (am_bd (f_X12_statedBy v3 p1 s0) (fun v4 => am_if (v4 = (nI 3)) (some (Sum.inr (0 : Int32))) (am_lt (v3 + (1 : Int32)) (fun v5 => some (Sum.inl v5)))))
def f_X12_isTruth (p1 : Int32) (s0 : am_S) : Option (Int32) :=
  am_lp (fun (q : Int32) => b_X12_isTruth_2 p1 s0 q) am_F (0 : Int32)
set_option maxRecDepth 100000 in
set_option maxHeartbeats 4000000 in
theorem t_X12_isTruth (p1 : Int32) (s0 : am_S) {z : Int32} (E : f_X12_isTruth p1 s0 = some z) : AS yX12_isTruth cX12_isTruth 3 (some .boolean) 2 [.ref 248, .int p1] s0 (some (.int z)) s0 := by
  unfold f_X12_isTruth at E
  refine as_met (lv := [(0, .ref 248), (1, .int p1)]) (by decide +kernel) (by simp [lg_sl, Value.category]) rfl (fun x C A Z => ?_)
  refine am_iconst 0 (0 : Int32) C dX12_isTruth_0 (by decide) ?_
  refine am_istore_n 1 (lv2 := [(2, .int (0 : Int32)), (0, .ref 248), (1, .int p1)]) C dX12_isTruth_1 rfl (by decide) rfl ?_
  have LP2 : ∀ (n : Nat) (v3 : Int32), am_lp (fun (q : Int32) => b_X12_isTruth_2 p1 s0 q) n v3 = some z → AX x 0 0 2 [(0, .ref 248), (1, .int p1), (2, .int v3)] [] am_N (am_h s0) := by
    intro n
    induction n with
    | zero => intro v3 E; exact (am_lp0 E).elim
    | succ n ih2 =>
      intro v3 E
      obtain ⟨r2, E, Er2⟩ := am_lpE E
      replace E : b_X12_isTruth_2 p1 s0 v3 = some r2 := E
      unfold b_X12_isTruth_2 at E
      refine am_iload_n 2 C dX12_isTruth_2 rfl 2 rfl ?_
      refine am_aload_n 3 C dX12_isTruth_3 rfl 0 rfl ?_
      refine as_getr 4 C fl_X12_39_11 dX12_isTruth_4 (by decide) sh_248 (rf_248_20 _ _) ?_
      refine am_iconst 7 (nI 2) C dX12_isTruth_7 (by decide) ?_
      refine as_ialdK 8 2 C dX12_isTruth_8 (by decide) sh_258 (by decide) (by decide) ?_
      refine am_icmp_ge 9 30 C dX12_isTruth_9 (by decide) (fun c7 => ?_) (fun c7 => ?_)
      · have E := am_ifT E c7
        refine am_iconst 30 (1 : Int32) C dX12_isTruth_30 (by decide) ?_
        replace E := Option.some.inj E
        replace E := am_exR E Er2
        subst E
        exact as_iret 31 C Z rfl dX12_isTruth_31
      · have E := am_ifF E c7
        refine am_aload_n 12 C dX12_isTruth_12 rfl 0 rfl ?_
        refine am_iload_n 13 C dX12_isTruth_13 rfl 2 rfl ?_
        refine am_iload_n 14 C dX12_isTruth_14 rfl 1 rfl ?_
        obtain ⟨v4, Ec, E⟩ := am_bdE E
        refine as_callV 15 (s2 := s0) (st := []) (st2 := [.int v4]) [.int v3, .int p1] C A (by decide) ml_X12_421 yc_X12_statedBy yv_X12_statedBy (t_X12_statedBy v3 p1 s0 Ec) (by decide) sh_248 rfl rfl (Nat.le_of_ble_eq_true rfl) rfl dX12_isTruth_15 ?_
        refine am_iconst 18 (nI 3) C dX12_isTruth_18 (by decide) ?_
        refine am_icmp_ne 19 24 C dX12_isTruth_19 (by decide) (fun c6 => ?_) (fun c6 => ?_)
        · have E := am_ifF E c6
          obtain ⟨v5, hv5, E⟩ := am_ltE E
          refine as_iinc 24 (q := (1 : Int32)) (lv2 := [(2, .int v5), (0, .ref 248), (1, .int p1)]) C dX12_isTruth_24 2 rfl (by decide) hv5 (by decide) rfl ?_
          refine am_goto 27 2 C dX12_isTruth_27 (by decide) ?_
          replace E := Option.some.inj E
          replace E := am_exL E Er2
          refine am_lvs [1, 2, 0] rfl ?_
          exact ih2 _ E
        · have E := am_ifT E c6
          refine am_iconst 22 (0 : Int32) C dX12_isTruth_22 (by decide) ?_
          replace E := Option.some.inj E
          replace E := am_exR E Er2
          subst E
          exact as_iret 23 C Z rfl dX12_isTruth_23
  refine am_lvs [1, 2, 0] rfl ?_
  exact LP2 am_F _ E
def b_X12_peopleOf_5 (p1 : Int32) (p2 : Int32) (s0 : am_S) (v4 : Int32) (v5 : Int32) : Option ((Int32 × Int32) ⊕ (Int32)) :=
  am_if ((s0.1 258 2) ≤ v5) (some (Sum.inr v4)) (am_bd (f_X12_statedBy v5 p2 s0) (fun v6 => am_if (v6 = p1) (am_lt (v4 ||| ((1 : Int32) <<< (v5 &&& 31))) (fun v9 => am_lt (v5 + (1 : Int32)) (fun v10 => some (Sum.inl (v9, v10))))) (am_lt (v4 ||| (0 : Int32)) (fun v7 => am_lt (v5 + (1 : Int32)) (fun v8 => some (Sum.inl (v7, v8)))))))
def f_X12_peopleOf (p1 : Int32) (p2 : Int32) (s0 : am_S) : Option (Int32) :=
  am_lp (fun (q : Int32 × Int32) => b_X12_peopleOf_5 p1 p2 s0 q.1 q.2) am_F ((0 : Int32), (0 : Int32))
set_option maxRecDepth 100000 in
set_option maxHeartbeats 4000000 in
theorem t_X12_peopleOf (p1 : Int32) (p2 : Int32) (s0 : am_S) {z : Int32} (E : f_X12_peopleOf p1 p2 s0 = some z) : AS yX12_peopleOf cX12_peopleOf 5 (some .int) 2 [.ref 248, .int p1, .int p2] s0 (some (.int z)) s0 := by
  unfold f_X12_peopleOf at E
  refine as_met (lv := [(0, .ref 248), (1, .int p1), (2, .int p2)]) (by decide +kernel) (by simp [lg_sl, Value.category]) rfl (fun x C A Z => ?_)
  refine am_iconst 0 (0 : Int32) C dX12_peopleOf_0 (by decide) ?_
  refine am_istore_n 1 (lv2 := [(3, .int (0 : Int32)), (0, .ref 248), (1, .int p1), (2, .int p2)]) C dX12_peopleOf_1 rfl (by decide) rfl ?_
  refine am_iconst 2 (0 : Int32) C dX12_peopleOf_2 (by decide) ?_
  refine am_istore 3 (lv2 := [(4, .int (0 : Int32)), (3, .int (0 : Int32)), (0, .ref 248), (1, .int p1), (2, .int p2)]) C dX12_peopleOf_3 (by decide) rfl ?_
  have LP3 : ∀ (n : Nat) (v4 : Int32) (v5 : Int32), am_lp (fun (q : Int32 × Int32) => b_X12_peopleOf_5 p1 p2 s0 q.1 q.2) n (v4, v5) = some z → AX x 0 0 5 [(0, .ref 248), (1, .int p1), (2, .int p2), (3, .int v4), (4, .int v5)] [] am_N (am_h s0) := by
    intro n
    induction n with
    | zero => intro v4 v5 E; exact (am_lp0 E).elim
    | succ n ih3 =>
      intro v4 v5 E
      obtain ⟨r3, E, Er3⟩ := am_lpE E
      replace E : b_X12_peopleOf_5 p1 p2 s0 v4 v5 = some r3 := E
      unfold b_X12_peopleOf_5 at E
      refine am_iload 5 C dX12_peopleOf_5 4 rfl ?_
      refine am_aload_n 7 C dX12_peopleOf_7 rfl 0 rfl ?_
      refine as_getr 8 C fl_X12_39_11 dX12_peopleOf_8 (by decide) sh_248 (rf_248_20 _ _) ?_
      refine am_iconst 11 (nI 2) C dX12_peopleOf_11 (by decide) ?_
      refine as_ialdK 12 2 C dX12_peopleOf_12 (by decide) sh_258 (by decide) (by decide) ?_
      refine am_icmp_ge 13 44 C dX12_peopleOf_13 (by decide) (fun c12 => ?_) (fun c12 => ?_)
      · have E := am_ifT E c12
        refine am_iload_n 44 C dX12_peopleOf_44 rfl 3 rfl ?_
        replace E := Option.some.inj E
        replace E := am_exR E Er3
        subst E
        exact as_iret 45 C Z rfl dX12_peopleOf_45
      · have E := am_ifF E c12
        refine am_iload_n 16 C dX12_peopleOf_16 rfl 3 rfl ?_
        refine am_aload_n 17 C dX12_peopleOf_17 rfl 0 rfl ?_
        refine am_iload 18 C dX12_peopleOf_18 4 rfl ?_
        refine am_iload_n 20 C dX12_peopleOf_20 rfl 2 rfl ?_
        obtain ⟨v6, Ec, E⟩ := am_bdE E
        refine as_callV 21 (s2 := s0) (st := [.int v4]) (st2 := [.int v6, .int v4]) [.int v5, .int p2] C A (by decide) ml_X12_421 yc_X12_statedBy yv_X12_statedBy (t_X12_statedBy v5 p2 s0 Ec) (by decide) sh_248 rfl rfl (Nat.le_of_ble_eq_true rfl) rfl dX12_peopleOf_21 ?_
        refine am_iload_n 24 C dX12_peopleOf_24 rfl 1 rfl ?_
        refine am_icmp_ne 25 35 C dX12_peopleOf_25 (by decide) (fun c11 => ?_) (fun c11 => ?_)
        · have E := am_ifF E c11
          refine am_iconst 35 (0 : Int32) C dX12_peopleOf_35 (by decide) ?_
          refine am_ior 36 C dX12_peopleOf_36 ?_
          obtain ⟨v7, hv7, E⟩ := am_ltE E
          refine as_nm hv7 ?_
          refine am_istore_n 37 (lv2 := [(3, .int v7), (0, .ref 248), (1, .int p1), (2, .int p2), (4, .int v5)]) C dX12_peopleOf_37 rfl (by decide) rfl ?_
          obtain ⟨v8, hv8, E⟩ := am_ltE E
          refine as_iinc 38 (q := (1 : Int32)) (lv2 := [(4, .int v8), (3, .int v7), (0, .ref 248), (1, .int p1), (2, .int p2)]) C dX12_peopleOf_38 4 rfl (by decide) hv8 (by decide) rfl ?_
          refine am_goto 41 5 C dX12_peopleOf_41 (by decide) ?_
          replace E := Option.some.inj E
          replace E := am_exL E Er3
          refine am_lvs [2, 3, 4, 1, 0] rfl ?_
          exact ih3 _ _ E
        · have E := am_ifT E c11
          refine am_iconst 28 (1 : Int32) C dX12_peopleOf_28 (by decide) ?_
          refine am_iload 29 C dX12_peopleOf_29 4 rfl ?_
          refine am_ishl 31 C dX12_peopleOf_31 ?_
          refine am_goto 32 36 C dX12_peopleOf_32 (by decide) ?_
          refine am_ior 36 C dX12_peopleOf_36 ?_
          obtain ⟨v9, hv9, E⟩ := am_ltE E
          refine as_nm hv9 ?_
          refine am_istore_n 37 (lv2 := [(3, .int v9), (0, .ref 248), (1, .int p1), (2, .int p2), (4, .int v5)]) C dX12_peopleOf_37 rfl (by decide) rfl ?_
          obtain ⟨v10, hv10, E⟩ := am_ltE E
          refine as_iinc 38 (q := (1 : Int32)) (lv2 := [(4, .int v10), (3, .int v9), (0, .ref 248), (1, .int p1), (2, .int p2)]) C dX12_peopleOf_38 4 rfl (by decide) hv10 (by decide) rfl ?_
          refine am_goto 41 5 C dX12_peopleOf_41 (by decide) ?_
          replace E := Option.some.inj E
          replace E := am_exL E Er3
          refine am_lvs [2, 3, 4, 1, 0] rfl ?_
          exact ih3 _ _ E
  refine am_lvs [2, 3, 4, 1, 0] rfl ?_
  exact LP3 am_F _ _ E
def j_X12_truths_126 (p1 : Int32) (v2 : Int32) (v3 : Int32) (v4 : Int32) (v5 : Int32) (v6 : Int32) : Option (Int32) :=
  am_if (p1 = 0) (some v2) (am_if (v2 = 0) (some (0 : Int32)) (am_if (p1 = (1 : Int32)) (some v3) (am_if (p1 = (nI 2)) (some v4) (am_if (p1 = (nI 3)) (some v5) (some v6)))))
def b_X12_truths_59 (p1 : Int32) (s0 : am_S) (v14 : Int32) (v17 : Int32) (v18 : Int32) (v19 : Int32) (v20 : Int32) (v21 : Int32) (v22 : Int32) : Option ((Int32 × Int32 × Int32 × Int32 × Int32 × Int32) ⊕ (Int32)) :=
  am_if (v14 < v22) (am_bd (j_X12_truths_126 p1 v17 v18 v19 v20 v21) (fun e23 => some (Sum.inr e23))) (am_bd (f_X12_isTruth v22 s0) (fun v24 => am_if (v24 = 0) (am_lt (v22 + (1 : Int32)) (fun v33 => some (Sum.inl (v17, v18, v19, v20, v21, v33)))) (am_lt (v17 + (1 : Int32)) (fun v25 => am_lt (v18 &&& v22) (fun v26 => am_lt (v19 &&& (v22 ^^^ (-1 : Int32))) (fun v27 => am_bd (f_X12_peopleOf (nI 2) v22 s0) (fun v28 => am_lt (v20 &&& v28) (fun v29 => am_bd (f_X12_peopleOf (1 : Int32) v22 s0) (fun v30 => am_lt (v21 &&& v30) (fun v31 => am_lt (v22 + (1 : Int32)) (fun v32 => some (Sum.inl (v25, v26, v27, v29, v31, v32)))))))))))))
def f_X12_truths (p1 : Int32) (s0 : am_S) : Option (Int32) :=
  am_bd (f_X12_isTown s0) (fun v12 => am_if (v12 = 0) (some (-1 : Int32)) (am_bd (f_X12_in (p1).toInt64 (0 : Int64) (4 : Int64)) (fun v13 => am_if (v13 = 0) (some (-1 : Int32)) (am_lt (((1 : Int32) <<< ((s0.1 258 0) &&& 31)) - (1 : Int32)) (fun v14 => am_lt (((1 : Int32) <<< ((s0.1 258 2) &&& 31)) - (1 : Int32)) (fun v15 => am_lp (fun (q : Int32 × Int32 × Int32 × Int32 × Int32 × Int32) => b_X12_truths_59 p1 s0 v14 q.1 q.2.1 q.2.2.1 q.2.2.2.1 q.2.2.2.2.1 q.2.2.2.2.2) am_F ((0 : Int32), v14, v14, v15, v15, (0 : Int32))))))))
set_option maxRecDepth 100000 in
set_option maxHeartbeats 4000000 in
theorem t_X12_truths (p1 : Int32) (s0 : am_S) {z : Int32} (E : f_X12_truths p1 s0 = some z) : AS yX12_truths cX12_truths 9 (some .int) 3 [.ref 248, .int p1] s0 (some (.int z)) s0 := by
  unfold f_X12_truths at E
  refine as_met (lv := [(0, .ref 248), (1, .int p1)]) (by decide +kernel) (by simp [lg_sl, Value.category]) rfl (fun x C A Z => ?_)
  have K126 : ∀ (v2 : Int32) (v3 : Int32) (v4 : Int32) (v5 : Int32) (v6 : Int32), j_X12_truths_126 p1 v2 v3 v4 v5 v6 = some z → AX x 0 0 126 [(0, .ref 248), (1, .int p1), (3, .int v2), (4, .int v3), (5, .int v4), (6, .int v5), (7, .int v6)] [] am_N (am_h s0) := by
    intro v2 v3 v4 v5 v6 E
    unfold j_X12_truths_126 at E
    refine am_iload_n 126 C dX12_truths_126 rfl 1 rfl ?_
    refine am_if_ne 127 132 C dX12_truths_127 (by decide) (fun c11 => ?_) (fun c11 => ?_)
    · have E := am_ifF E c11
      refine am_iload_n 132 C dX12_truths_132 rfl 2 rfl ?_
      refine am_if_ne 133 140 C dX12_truths_133 (by decide) (fun c10 => ?_) (fun c10 => ?_)
      · have E := am_ifF E c10
        refine am_iload_n 140 C dX12_truths_140 rfl 1 rfl ?_
        refine am_iconst 141 (1 : Int32) C dX12_truths_141 (by decide) ?_
        refine am_icmp_ne 142 150 C dX12_truths_142 (by decide) (fun c9 => ?_) (fun c9 => ?_)
        · have E := am_ifF E c9
          refine am_iload_n 150 C dX12_truths_150 rfl 1 rfl ?_
          refine am_iconst 151 (nI 2) C dX12_truths_151 (by decide) ?_
          refine am_icmp_ne 152 160 C dX12_truths_152 (by decide) (fun c8 => ?_) (fun c8 => ?_)
          · have E := am_ifF E c8
            refine am_iload_n 160 C dX12_truths_160 rfl 1 rfl ?_
            refine am_iconst 161 (nI 3) C dX12_truths_161 (by decide) ?_
            refine am_icmp_ne 162 170 C dX12_truths_162 (by decide) (fun c7 => ?_) (fun c7 => ?_)
            · have E := am_ifF E c7
              refine am_iload 170 C dX12_truths_170 6 rfl ?_
              replace E := Option.some.inj E
              subst E
              exact as_iret 172 C Z rfl dX12_truths_172
            · have E := am_ifT E c7
              refine am_iload 165 C dX12_truths_165 5 rfl ?_
              refine am_goto 167 172 C dX12_truths_167 (by decide) ?_
              replace E := Option.some.inj E
              subst E
              exact as_iret 172 C Z rfl dX12_truths_172
          · have E := am_ifT E c8
            refine am_iload 155 C dX12_truths_155 4 rfl ?_
            refine am_goto 157 172 C dX12_truths_157 (by decide) ?_
            replace E := Option.some.inj E
            subst E
            exact as_iret 172 C Z rfl dX12_truths_172
        · have E := am_ifT E c9
          refine am_iload 145 C dX12_truths_145 3 rfl ?_
          refine am_goto 147 172 C dX12_truths_147 (by decide) ?_
          replace E := Option.some.inj E
          subst E
          exact as_iret 172 C Z rfl dX12_truths_172
      · have E := am_ifT E c10
        refine am_iconst 136 (0 : Int32) C dX12_truths_136 (by decide) ?_
        refine am_goto 137 172 C dX12_truths_137 (by decide) ?_
        replace E := Option.some.inj E
        subst E
        exact as_iret 172 C Z rfl dX12_truths_172
    · have E := am_ifT E c11
      refine am_iload_n 130 C dX12_truths_130 rfl 2 rfl ?_
      replace E := Option.some.inj E
      subst E
      exact as_iret 131 C Z rfl dX12_truths_131
  refine am_aload_n 0 C dX12_truths_0 rfl 0 rfl ?_
  obtain ⟨v12, Ec, E⟩ := am_bdE E
  refine as_callV 1 (s2 := s0) (st := []) (st2 := [.int v12]) [] C A (by decide) ml_X12_384 yc_X12_isTown yv_X12_isTown (t_X12_isTown  s0 Ec) (by decide) sh_248 rfl rfl (Nat.le_of_ble_eq_true rfl) rfl dX12_truths_1 ?_
  refine am_if_eq 4 19 C dX12_truths_4 (by decide) (fun c37 => ?_) (fun c37 => ?_)
  · have E := am_ifT E c37
    refine am_iconst 19 (-1 : Int32) C dX12_truths_19 (by decide) ?_
    replace E := Option.some.inj E
    subst E
    exact as_iret 20 C Z rfl dX12_truths_20
  · have E := am_ifF E c37
    refine am_iload_n 7 C dX12_truths_7 rfl 1 rfl ?_
    refine am_i2l 8 C dX12_truths_8 ?_
    refine am_lconst 9 (0 : Int64) C dX12_truths_9 (by decide) ?_
    refine am_ldc2 10 C dX12_truths_10 kl_X12_331 ?_
    obtain ⟨v13, Ec, E⟩ := am_bdE E
    refine as_callS 13 (s2 := s0) (st := []) (st2 := [.int v13]) [.long (p1).toInt64, .long (0 : Int64), .long (4 : Int64)] C A (by decide) ml_X12_106 yc_X12_in ys_X12_in (t_X12_in (p1).toInt64 (0 : Int64) (4 : Int64) s0 Ec) rfl rfl (Nat.le_of_ble_eq_true rfl) rfl dX12_truths_13 ?_
    refine am_if_ne 16 21 C dX12_truths_16 (by decide) (fun c36 => ?_) (fun c36 => ?_)
    · have E := am_ifF E c36
      refine am_iconst 21 (1 : Int32) C dX12_truths_21 (by decide) ?_
      refine am_aload_n 22 C dX12_truths_22 rfl 0 rfl ?_
      refine as_getr 23 C fl_X12_39_11 dX12_truths_23 (by decide) sh_248 (rf_248_20 _ _) ?_
      refine am_iconst 26 (0 : Int32) C dX12_truths_26 (by decide) ?_
      refine as_ialdK 27 0 C dX12_truths_27 (by decide) sh_258 (by decide) (by decide) ?_
      refine am_ishl 28 C dX12_truths_28 ?_
      refine am_iconst 29 (1 : Int32) C dX12_truths_29 (by decide) ?_
      refine am_isub 30 C dX12_truths_30 ?_
      obtain ⟨v14, hv14, E⟩ := am_ltE E
      refine as_nm hv14 ?_
      refine am_istore_n 31 (lv2 := [(2, .int v14), (0, .ref 248), (1, .int p1)]) C dX12_truths_31 rfl (by decide) rfl ?_
      refine am_iconst 32 (0 : Int32) C dX12_truths_32 (by decide) ?_
      refine am_istore_n 33 (lv2 := [(3, .int (0 : Int32)), (2, .int v14), (0, .ref 248), (1, .int p1)]) C dX12_truths_33 rfl (by decide) rfl ?_
      refine am_iload_n 34 C dX12_truths_34 rfl 1 rfl ?_
      refine am_istore 35 (lv2 := [(4, .int v14), (3, .int (0 : Int32)), (2, .int v14), (0, .ref 248), (1, .int p1)]) C dX12_truths_35 (by decide) rfl ?_
      refine am_iload_n 37 C dX12_truths_37 rfl 2 rfl ?_
      refine am_istore 38 (lv2 := [(5, .int v14), (4, .int v14), (3, .int (0 : Int32)), (2, .int v14), (0, .ref 248), (1, .int p1)]) C dX12_truths_38 (by decide) rfl ?_
      refine am_iconst 40 (1 : Int32) C dX12_truths_40 (by decide) ?_
      refine am_aload_n 41 C dX12_truths_41 rfl 4 rfl ?_
      refine as_getr 42 C fl_X12_39_11 dX12_truths_42 (by decide) sh_248 (rf_248_20 _ _) ?_
      refine am_iconst 45 (nI 2) C dX12_truths_45 (by decide) ?_
      refine as_ialdK 46 2 C dX12_truths_46 (by decide) sh_258 (by decide) (by decide) ?_
      refine am_ishl 47 C dX12_truths_47 ?_
      refine am_iconst 48 (1 : Int32) C dX12_truths_48 (by decide) ?_
      refine am_isub 49 C dX12_truths_49 ?_
      obtain ⟨v15, hv15, E⟩ := am_ltE E
      refine as_nm hv15 ?_
      refine am_istore 50 (lv2 := [(6, .int v15), (5, .int v14), (4, .int v14), (3, .int (0 : Int32)), (2, .int v14), (0, .ref 248), (1, .int p1)]) C dX12_truths_50 (by decide) rfl ?_
      refine am_iload 52 C dX12_truths_52 0 rfl ?_
      refine am_istore 54 (lv2 := [(7, .int v15), (6, .int v15), (5, .int v14), (4, .int v14), (3, .int (0 : Int32)), (2, .int v14), (0, .ref 248), (1, .int p1)]) C dX12_truths_54 (by decide) rfl ?_
      refine am_iconst 56 (0 : Int32) C dX12_truths_56 (by decide) ?_
      refine am_istore 57 (lv2 := [(8, .int (0 : Int32)), (7, .int v15), (6, .int v15), (5, .int v14), (4, .int v14), (3, .int (0 : Int32)), (2, .int v14), (0, .ref 248), (1, .int p1)]) C dX12_truths_57 (by decide) rfl ?_
      have LP16 : ∀ (n : Nat) (v17 : Int32) (v18 : Int32) (v19 : Int32) (v20 : Int32) (v21 : Int32) (v22 : Int32), am_lp (fun (q : Int32 × Int32 × Int32 × Int32 × Int32 × Int32) => b_X12_truths_59 p1 s0 v14 q.1 q.2.1 q.2.2.1 q.2.2.2.1 q.2.2.2.2.1 q.2.2.2.2.2) n (v17, v18, v19, v20, v21, v22) = some z → AX x 0 0 59 [(0, .ref 248), (1, .int p1), (2, .int v14), (3, .int v17), (4, .int v18), (5, .int v19), (6, .int v20), (7, .int v21), (8, .int v22)] [] am_N (am_h s0) := by
        intro n
        induction n with
        | zero => intro v17 v18 v19 v20 v21 v22 E; exact (am_lp0 E).elim
        | succ n ih16 =>
          intro v17 v18 v19 v20 v21 v22 E
          obtain ⟨r16, E, Er16⟩ := am_lpE E
          replace E : b_X12_truths_59 p1 s0 v14 v17 v18 v19 v20 v21 v22 = some r16 := E
          unfold b_X12_truths_59 at E
          refine am_iload 59 C dX12_truths_59 8 rfl ?_
          refine am_iload_n 61 C dX12_truths_61 rfl 2 rfl ?_
          refine am_icmp_gt 62 126 C dX12_truths_62 (by decide) (fun c35 => ?_) (fun c35 => ?_)
          · have E := am_ifT E c35
            obtain ⟨e23, E, E2⟩ := am_bdE E
            replace E2 := Option.some.inj E2
            replace E2 := am_exR E2 Er16
            rw [E2] at E
            refine am_lvs [0, 1, 3, 4, 5, 6, 7] rfl ?_
            exact K126 _ _ _ _ _ E
          · have E := am_ifF E c35
            refine am_aload_n 65 C dX12_truths_65 rfl 0 rfl ?_
            refine am_iload 66 C dX12_truths_66 8 rfl ?_
            obtain ⟨v24, Ec, E⟩ := am_bdE E
            refine as_callV 68 (s2 := s0) (st := []) (st2 := [.int v24]) [.int v22] C A (by decide) ml_X12_424 yc_X12_isTruth yv_X12_isTruth (t_X12_isTruth v22 s0 Ec) (by decide) sh_248 rfl rfl (Nat.le_of_ble_eq_true rfl) rfl dX12_truths_68 ?_
            refine am_if_ne 71 77 C dX12_truths_71 (by decide) (fun c34 => ?_) (fun c34 => ?_)
            · have E := am_ifF E c34
              obtain ⟨v25, hv25, E⟩ := am_ltE E
              refine as_iinc 77 (q := (1 : Int32)) (lv2 := [(3, .int v25), (0, .ref 248), (1, .int p1), (2, .int v14), (4, .int v18), (5, .int v19), (6, .int v20), (7, .int v21), (8, .int v22)]) C dX12_truths_77 3 rfl (by decide) hv25 (by decide) rfl ?_
              refine am_iload 80 C dX12_truths_80 4 rfl ?_
              refine am_iload 82 C dX12_truths_82 8 rfl ?_
              refine am_iand 84 C dX12_truths_84 ?_
              obtain ⟨v26, hv26, E⟩ := am_ltE E
              refine as_nm hv26 ?_
              refine am_istore 85 (lv2 := [(4, .int v26), (3, .int v25), (0, .ref 248), (1, .int p1), (2, .int v14), (5, .int v19), (6, .int v20), (7, .int v21), (8, .int v22)]) C dX12_truths_85 (by decide) rfl ?_
              refine am_iload 87 C dX12_truths_87 5 rfl ?_
              refine am_iload 89 C dX12_truths_89 8 rfl ?_
              refine am_iconst 91 (-1 : Int32) C dX12_truths_91 (by decide) ?_
              refine am_ixor 92 C dX12_truths_92 ?_
              refine am_iand 93 C dX12_truths_93 ?_
              obtain ⟨v27, hv27, E⟩ := am_ltE E
              refine as_nm hv27 ?_
              refine am_istore 94 (lv2 := [(5, .int v27), (4, .int v26), (3, .int v25), (0, .ref 248), (1, .int p1), (2, .int v14), (6, .int v20), (7, .int v21), (8, .int v22)]) C dX12_truths_94 (by decide) rfl ?_
              refine am_iload 96 C dX12_truths_96 6 rfl ?_
              refine am_aload_n 98 C dX12_truths_98 rfl 3 rfl ?_
              refine am_iconst 99 (nI 2) C dX12_truths_99 (by decide) ?_
              refine am_iload 100 C dX12_truths_100 8 rfl ?_
              obtain ⟨v28, Ec, E⟩ := am_bdE E
              refine as_callV 102 (s2 := s0) (st := [.int v20]) (st2 := [.int v28, .int v20]) [.int (nI 2), .int v22] C A (by decide) ml_X12_427 yc_X12_peopleOf yv_X12_peopleOf (t_X12_peopleOf (nI 2) v22 s0 Ec) (by decide) sh_248 rfl rfl (Nat.le_of_ble_eq_true rfl) rfl dX12_truths_102 ?_
              refine am_iand 105 C dX12_truths_105 ?_
              obtain ⟨v29, hv29, E⟩ := am_ltE E
              refine as_nm hv29 ?_
              refine am_istore 106 (lv2 := [(6, .int v29), (5, .int v27), (4, .int v26), (3, .int v25), (0, .ref 248), (1, .int p1), (2, .int v14), (7, .int v21), (8, .int v22)]) C dX12_truths_106 (by decide) rfl ?_
              refine am_iload 108 C dX12_truths_108 7 rfl ?_
              refine am_aload_n 110 C dX12_truths_110 rfl 4 rfl ?_
              refine am_iconst 111 (1 : Int32) C dX12_truths_111 (by decide) ?_
              refine am_iload 112 C dX12_truths_112 8 rfl ?_
              obtain ⟨v30, Ec, E⟩ := am_bdE E
              refine as_callV 114 (s2 := s0) (st := [.int v21]) (st2 := [.int v30, .int v21]) [.int (1 : Int32), .int v22] C A (by decide) ml_X12_427 yc_X12_peopleOf yv_X12_peopleOf (t_X12_peopleOf (1 : Int32) v22 s0 Ec) (by decide) sh_248 rfl rfl (Nat.le_of_ble_eq_true rfl) rfl dX12_truths_114 ?_
              refine am_iand 117 C dX12_truths_117 ?_
              obtain ⟨v31, hv31, E⟩ := am_ltE E
              refine as_nm hv31 ?_
              refine am_istore 118 (lv2 := [(7, .int v31), (6, .int v29), (5, .int v27), (4, .int v26), (3, .int v25), (0, .ref 248), (1, .int p1), (2, .int v14), (8, .int v22)]) C dX12_truths_118 (by decide) rfl ?_
              obtain ⟨v32, hv32, E⟩ := am_ltE E
              refine as_iinc 120 (q := (1 : Int32)) (lv2 := [(8, .int v32), (7, .int v31), (6, .int v29), (5, .int v27), (4, .int v26), (3, .int v25), (0, .ref 248), (1, .int p1), (2, .int v14)]) C dX12_truths_120 8 rfl (by decide) hv32 (by decide) rfl ?_
              refine am_goto 123 59 C dX12_truths_123 (by decide) ?_
              replace E := Option.some.inj E
              replace E := am_exL E Er16
              refine am_lvs [6, 7, 8, 5, 4, 3, 2, 1, 0] rfl ?_
              exact ih16 _ _ _ _ _ _ E
            · have E := am_ifT E c34
              refine am_goto 74 120 C dX12_truths_74 (by decide) ?_
              obtain ⟨v33, hv33, E⟩ := am_ltE E
              refine as_iinc 120 (q := (1 : Int32)) (lv2 := [(8, .int v33), (0, .ref 248), (1, .int p1), (2, .int v14), (3, .int v17), (4, .int v18), (5, .int v19), (6, .int v20), (7, .int v21)]) C dX12_truths_120 8 rfl (by decide) hv33 (by decide) rfl ?_
              refine am_goto 123 59 C dX12_truths_123 (by decide) ?_
              replace E := Option.some.inj E
              replace E := am_exL E Er16
              refine am_lvs [1, 2, 3, 4, 5, 6, 7, 8, 0] rfl ?_
              exact ih16 _ _ _ _ _ _ E
      refine am_lvs [7, 8, 6, 5, 4, 3, 2, 1, 0] rfl ?_
      exact LP16 am_F _ _ _ _ _ _ E
    · have E := am_ifT E c36
      refine am_iconst 19 (-1 : Int32) C dX12_truths_19 (by decide) ?_
      replace E := Option.some.inj E
      subst E
      exact as_iret 20 C Z rfl dX12_truths_20
def j_X12_ask_145 (p1 : Int32) (v2 : Int32) (v3 : Int32) : Option (Int32) :=
  am_if (v2 < 0) (some v2) (am_if (p1 = 0) (some v2) (some v3))
def j_X12_ask_133 (v12 : Int32) (v13 : Int32) : Option ((Int32 × Int32 × Int32) ⊕ (Int32)) :=
  am_lt (v12 + (1 : Int32)) (fun v14 => some (Sum.inl (v12, v13, v14)))
def j_X12_ask_113 (v15 : Int32) (v16 : Int32) (v17 : Int32) (v18 : Int32) (v19 : Int32) : Option ((Int32 × Int32 × Int32) ⊕ (Int32)) :=
  am_if (v19 = 0) (am_lt (v18 + (1 : Int32)) (fun v20 => some (Sum.inl (v16, v17, v20)))) (am_if (v16 < 0) (j_X12_ask_133 v18 v15) (am_if (v15 < v17) (j_X12_ask_133 v18 v15) (am_lt (v18 + (1 : Int32)) (fun v21 => some (Sum.inl (v16, v17, v21))))))
def j_X12_ask_93 (v25 : Int32) (v26 : Int32) (v27 : Int32) (v28 : Int32) (v29 : Int32) : Option ((Int32 × Int32 × Int32) ⊕ (Int32)) :=
  am_if (v29 ≤ (v28 - v29)) (j_X12_ask_113 (v28 - v29) v25 v26 v27 v28) (j_X12_ask_113 v29 v25 v26 v27 v28)
def b_X12_ask_47 (s0 : am_S) (v9 : Int32) (v10 : Int32) (v11 : Int32) (v33 : Int32) (v34 : Int32) (v35 : Int32) : Option ((Int32 × Int32 × Int32) ⊕ ((Int32 × Int32 × Int32) ⊕ (Int32))) :=
  am_if (((1 : Int32) <<< ((s0.1 258 0) &&& 31)) ≤ v35) (am_bd (j_X12_ask_93 v9 v10 v11 v33 v34) (fun e36 => some (Sum.inr e36))) (am_bd (f_X12_isTruth v35 s0) (fun v37 => am_if (v37 = 0) (am_lt (v35 + (1 : Int32)) (fun v41 => some (Sum.inl (v33, v34, v41)))) (am_lt (v33 + (1 : Int32)) (fun v38 => am_lt (v34 + ((v35 >>> (v11 &&& 31)) &&& (1 : Int32))) (fun v39 => am_lt (v35 + (1 : Int32)) (fun v40 => some (Sum.inl (v38, v39, v40))))))))
def b_X12_ask_27 (p1 : Int32) (s0 : am_S) (v9 : Int32) (v10 : Int32) (v11 : Int32) : Option ((Int32 × Int32 × Int32) ⊕ (Int32)) :=
  am_if ((s0.1 258 0) ≤ v11) (am_bd (j_X12_ask_145 p1 v9 v10) (fun e31 => some (Sum.inr e31))) (am_lp (fun (q : Int32 × Int32 × Int32) => b_X12_ask_47 s0 v9 v10 v11 q.1 q.2.1 q.2.2) am_F ((0 : Int32), (0 : Int32), (0 : Int32)))
def f_X12_ask (p1 : Int32) (s0 : am_S) : Option (Int32) :=
  am_bd (f_X12_isTown s0) (fun v6 => am_if (v6 = 0) (some (-1 : Int32)) (am_bd (f_X12_in (p1).toInt64 (0 : Int64) (1 : Int64)) (fun v7 => am_if (v7 = 0) (some (-1 : Int32)) (am_lp (fun (q : Int32 × Int32 × Int32) => b_X12_ask_27 p1 s0 q.1 q.2.1 q.2.2) am_F ((-2 : Int32), (0 : Int32), (0 : Int32))))))
set_option maxRecDepth 100000 in
set_option maxHeartbeats 4000000 in
theorem t_X12_ask (p1 : Int32) (s0 : am_S) {z : Int32} (E : f_X12_ask p1 s0 = some z) : AS yX12_ask cX12_ask 8 (some .int) 3 [.ref 248, .int p1] s0 (some (.int z)) s0 := by
  unfold f_X12_ask at E
  refine as_met (lv := [(0, .ref 248), (1, .int p1)]) (by decide +kernel) (by simp [lg_sl, Value.category]) rfl (fun x C A Z => ?_)
  have K145 : ∀ (v2 : Int32) (v3 : Int32), j_X12_ask_145 p1 v2 v3 = some z → AX x 0 0 145 [(0, .ref 248), (1, .int p1), (2, .int v2), (3, .int v3)] [] am_N (am_h s0) := by
    intro v2 v3 E
    unfold j_X12_ask_145 at E
    refine am_iload_n 145 C dX12_ask_145 rfl 2 rfl ?_
    refine am_if_lt 146 153 C dX12_ask_146 (by decide) (fun c5 => ?_) (fun c5 => ?_)
    · have E := am_ifT E c5
      refine am_iload_n 153 C dX12_ask_153 rfl 2 rfl ?_
      refine am_goto 154 158 C dX12_ask_154 (by decide) ?_
      replace E := Option.some.inj E
      subst E
      exact as_iret 158 C Z rfl dX12_ask_158
    · have E := am_ifF E c5
      refine am_iload_n 149 C dX12_ask_149 rfl 1 rfl ?_
      refine am_if_ne 150 157 C dX12_ask_150 (by decide) (fun c4 => ?_) (fun c4 => ?_)
      · have E := am_ifF E c4
        refine am_iload_n 157 C dX12_ask_157 rfl 3 rfl ?_
        replace E := Option.some.inj E
        subst E
        exact as_iret 158 C Z rfl dX12_ask_158
      · have E := am_ifT E c4
        refine am_iload_n 153 C dX12_ask_153 rfl 2 rfl ?_
        refine am_goto 154 158 C dX12_ask_154 (by decide) ?_
        replace E := Option.some.inj E
        subst E
        exact as_iret 158 C Z rfl dX12_ask_158
  refine am_aload_n 0 C dX12_ask_0 rfl 0 rfl ?_
  obtain ⟨v6, Ec, E⟩ := am_bdE E
  refine as_callV 1 (s2 := s0) (st := []) (st2 := [.int v6]) [] C A (by decide) ml_X12_384 yc_X12_isTown yv_X12_isTown (t_X12_isTown  s0 Ec) (by decide) sh_248 rfl rfl (Nat.le_of_ble_eq_true rfl) rfl dX12_ask_1 ?_
  refine am_if_eq 4 17 C dX12_ask_4 (by decide) (fun c46 => ?_) (fun c46 => ?_)
  · have E := am_ifT E c46
    refine am_iconst 17 (-1 : Int32) C dX12_ask_17 (by decide) ?_
    replace E := Option.some.inj E
    subst E
    exact as_iret 18 C Z rfl dX12_ask_18
  · have E := am_ifF E c46
    refine am_iload_n 7 C dX12_ask_7 rfl 1 rfl ?_
    refine am_i2l 8 C dX12_ask_8 ?_
    refine am_lconst 9 (0 : Int64) C dX12_ask_9 (by decide) ?_
    refine am_lconst 10 (1 : Int64) C dX12_ask_10 (by decide) ?_
    obtain ⟨v7, Ec, E⟩ := am_bdE E
    refine as_callS 11 (s2 := s0) (st := []) (st2 := [.int v7]) [.long (p1).toInt64, .long (0 : Int64), .long (1 : Int64)] C A (by decide) ml_X12_106 yc_X12_in ys_X12_in (t_X12_in (p1).toInt64 (0 : Int64) (1 : Int64) s0 Ec) rfl rfl (Nat.le_of_ble_eq_true rfl) rfl dX12_ask_11 ?_
    refine am_if_ne 14 19 C dX12_ask_14 (by decide) (fun c45 => ?_) (fun c45 => ?_)
    · have E := am_ifF E c45
      refine am_bipush 19 (-2 : Int32) C dX12_ask_19 (by decide) ?_
      refine am_istore_n 21 (lv2 := [(2, .int (-2 : Int32)), (0, .ref 248), (1, .int p1)]) C dX12_ask_21 rfl (by decide) rfl ?_
      refine am_iconst 22 (0 : Int32) C dX12_ask_22 (by decide) ?_
      refine am_istore_n 23 (lv2 := [(3, .int (0 : Int32)), (2, .int (-2 : Int32)), (0, .ref 248), (1, .int p1)]) C dX12_ask_23 rfl (by decide) rfl ?_
      refine am_iconst 24 (0 : Int32) C dX12_ask_24 (by decide) ?_
      refine am_istore 25 (lv2 := [(4, .int (0 : Int32)), (3, .int (0 : Int32)), (2, .int (-2 : Int32)), (0, .ref 248), (1, .int p1)]) C dX12_ask_25 (by decide) rfl ?_
      have LP8 : ∀ (n : Nat) (v9 : Int32) (v10 : Int32) (v11 : Int32), am_lp (fun (q : Int32 × Int32 × Int32) => b_X12_ask_27 p1 s0 q.1 q.2.1 q.2.2) n (v9, v10, v11) = some z → AX x 0 0 27 [(0, .ref 248), (1, .int p1), (2, .int v9), (3, .int v10), (4, .int v11)] [] am_N (am_h s0) := by
        intro n
        induction n with
        | zero => intro v9 v10 v11 E; exact (am_lp0 E).elim
        | succ n ih8 =>
          intro v9 v10 v11 E
          obtain ⟨r8, E, Er8⟩ := am_lpE E
          replace E : b_X12_ask_27 p1 s0 v9 v10 v11 = some r8 := E
          unfold b_X12_ask_27 at E
          have K133 : ∀ (v12 : Int32) (v13 : Int32), j_X12_ask_133 v12 v13 = some r8 → AX x 0 0 133 [(0, .ref 248), (1, .int p1), (4, .int v12), (7, .int v13)] [] am_N (am_h s0) := by
            intro v12 v13 E
            unfold j_X12_ask_133 at E
            refine am_iload 133 C dX12_ask_133 2 rfl ?_
            refine am_istore_n 135 (lv2 := [(2, .int v12), (0, .ref 248), (1, .int p1), (4, .int v12), (7, .int v13)]) C dX12_ask_135 rfl (by decide) rfl ?_
            refine am_iload 136 C dX12_ask_136 4 rfl ?_
            refine am_istore_n 138 (lv2 := [(3, .int v13), (2, .int v12), (0, .ref 248), (1, .int p1), (4, .int v12), (7, .int v13)]) C dX12_ask_138 rfl (by decide) rfl ?_
            obtain ⟨v14, hv14, E⟩ := am_ltE E
            refine as_iinc 139 (q := (1 : Int32)) (lv2 := [(4, .int v14), (3, .int v13), (2, .int v12), (0, .ref 248), (1, .int p1), (7, .int v13)]) C dX12_ask_139 4 rfl (by decide) hv14 (by decide) rfl ?_
            refine am_goto 142 27 C dX12_ask_142 (by decide) ?_
            replace E := Option.some.inj E
            replace E := am_exL E Er8
            refine am_lvs [3, 4, 2, 1, 0] rfl ?_
            exact ih8 _ _ _ E
          have K113 : ∀ (v15 : Int32) (v16 : Int32) (v17 : Int32) (v18 : Int32) (v19 : Int32), j_X12_ask_113 v15 v16 v17 v18 v19 = some r8 → AX x 0 0 113 [(0, .ref 248), (1, .int p1), (2, .int v16), (3, .int v17), (4, .int v18), (5, .int v19)] [.int v15] am_N (am_h s0) := by
            intro v15 v16 v17 v18 v19 E
            unfold j_X12_ask_113 at E
            refine am_istore 113 (lv2 := [(7, .int v15), (0, .ref 248), (1, .int p1), (2, .int v16), (3, .int v17), (4, .int v18), (5, .int v19)]) C dX12_ask_113 (by decide) rfl ?_
            refine am_iload 115 C dX12_ask_115 6 rfl ?_
            refine am_if_eq 117 139 C dX12_ask_117 (by decide) (fun c24 => ?_) (fun c24 => ?_)
            · have E := am_ifT E c24
              obtain ⟨v20, hv20, E⟩ := am_ltE E
              refine as_iinc 139 (q := (1 : Int32)) (lv2 := [(4, .int v20), (7, .int v15), (0, .ref 248), (1, .int p1), (2, .int v16), (3, .int v17), (5, .int v19)]) C dX12_ask_139 5 rfl (by decide) hv20 (by decide) rfl ?_
              refine am_goto 142 27 C dX12_ask_142 (by decide) ?_
              replace E := Option.some.inj E
              replace E := am_exL E Er8
              refine am_lvs [2, 3, 4, 5, 0] rfl ?_
              exact ih8 _ _ _ E
            · have E := am_ifF E c24
              refine am_iload_n 120 C dX12_ask_120 rfl 3 rfl ?_
              refine am_if_lt 121 133 C dX12_ask_121 (by decide) (fun c23 => ?_) (fun c23 => ?_)
              · have E := am_ifT E c23
                refine am_lvs [1, 2, 5, 0] rfl ?_
                exact K133 _ _ E
              · have E := am_ifF E c23
                refine am_iload 124 C dX12_ask_124 0 rfl ?_
                refine am_iload_n 126 C dX12_ask_126 rfl 4 rfl ?_
                refine am_icmp_lt 127 133 C dX12_ask_127 (by decide) (fun c22 => ?_) (fun c22 => ?_)
                · have E := am_ifT E c22
                  refine am_lvs [1, 2, 5, 0] rfl ?_
                  exact K133 _ _ E
                · have E := am_ifF E c22
                  refine am_goto 130 139 C dX12_ask_130 (by decide) ?_
                  obtain ⟨v21, hv21, E⟩ := am_ltE E
                  refine as_iinc 139 (q := (1 : Int32)) (lv2 := [(4, .int v21), (7, .int v15), (0, .ref 248), (1, .int p1), (2, .int v16), (3, .int v17), (5, .int v19)]) C dX12_ask_139 5 rfl (by decide) hv21 (by decide) rfl ?_
                  refine am_goto 142 27 C dX12_ask_142 (by decide) ?_
                  replace E := Option.some.inj E
                  replace E := am_exL E Er8
                  refine am_lvs [2, 3, 4, 5, 0] rfl ?_
                  exact ih8 _ _ _ E
          have K93 : ∀ (v25 : Int32) (v26 : Int32) (v27 : Int32) (v28 : Int32) (v29 : Int32), j_X12_ask_93 v25 v26 v27 v28 v29 = some r8 → AX x 0 0 93 [(0, .ref 248), (1, .int p1), (2, .int v25), (3, .int v26), (4, .int v27), (5, .int v28), (6, .int v29)] [] am_N (am_h s0) := by
            intro v25 v26 v27 v28 v29 E
            unfold j_X12_ask_93 at E
            refine am_iload 93 C dX12_ask_93 6 rfl ?_
            refine am_iload 95 C dX12_ask_95 5 rfl ?_
            refine am_iload 97 C dX12_ask_97 6 rfl ?_
            refine am_isub 99 C dX12_ask_99 ?_
            refine am_icmp_le 100 108 C dX12_ask_100 (by decide) (fun c30 => ?_) (fun c30 => ?_)
            · have E := am_ifT E c30
              refine am_iload 108 C dX12_ask_108 5 rfl ?_
              refine am_iload 110 C dX12_ask_110 6 rfl ?_
              refine am_isub 112 C dX12_ask_112 ?_
              refine am_lvs [0, 1, 2, 3, 4, 5] rfl ?_
              exact K113 _ _ _ _ _ E
            · have E := am_ifF E c30
              refine am_iload 103 C dX12_ask_103 6 rfl ?_
              refine am_goto 105 113 C dX12_ask_105 (by decide) ?_
              refine am_lvs [0, 1, 2, 3, 4, 5] rfl ?_
              exact K113 _ _ _ _ _ E
          refine am_iload 27 C dX12_ask_27 4 rfl ?_
          refine am_aload_n 29 C dX12_ask_29 rfl 0 rfl ?_
          refine as_getr 30 C fl_X12_39_11 dX12_ask_30 (by decide) sh_248 (rf_248_20 _ _) ?_
          refine am_iconst 33 (0 : Int32) C dX12_ask_33 (by decide) ?_
          refine as_ialdK 34 0 C dX12_ask_34 (by decide) sh_258 (by decide) (by decide) ?_
          refine am_icmp_ge 35 145 C dX12_ask_35 (by decide) (fun c44 => ?_) (fun c44 => ?_)
          · have E := am_ifT E c44
            obtain ⟨e31, E, E2⟩ := am_bdE E
            replace E2 := Option.some.inj E2
            replace E2 := am_exR E2 Er8
            rw [E2] at E
            refine am_lvs [0, 1, 2, 3] rfl ?_
            exact K145 _ _ E
          · have E := am_ifF E c44
            refine am_iconst 38 (0 : Int32) C dX12_ask_38 (by decide) ?_
            refine am_istore 39 (lv2 := [(5, .int (0 : Int32)), (0, .ref 248), (1, .int p1), (2, .int v9), (3, .int v10), (4, .int v11)]) C dX12_ask_39 (by decide) rfl ?_
            refine am_iconst 41 (0 : Int32) C dX12_ask_41 (by decide) ?_
            refine am_istore 42 (lv2 := [(6, .int (0 : Int32)), (5, .int (0 : Int32)), (0, .ref 248), (1, .int p1), (2, .int v9), (3, .int v10), (4, .int v11)]) C dX12_ask_42 (by decide) rfl ?_
            refine am_iconst 44 (0 : Int32) C dX12_ask_44 (by decide) ?_
            refine am_istore 45 (lv2 := [(7, .int (0 : Int32)), (6, .int (0 : Int32)), (5, .int (0 : Int32)), (0, .ref 248), (1, .int p1), (2, .int v9), (3, .int v10), (4, .int v11)]) C dX12_ask_45 (by decide) rfl ?_
            have LP32 : ∀ (n : Nat) (v33 : Int32) (v34 : Int32) (v35 : Int32), am_lp (fun (q : Int32 × Int32 × Int32) => b_X12_ask_47 s0 v9 v10 v11 q.1 q.2.1 q.2.2) n (v33, v34, v35) = some r8 → AX x 0 0 47 [(0, .ref 248), (1, .int p1), (2, .int v9), (3, .int v10), (4, .int v11), (5, .int v33), (6, .int v34), (7, .int v35)] [] am_N (am_h s0) := by
              intro n
              induction n with
              | zero => intro v33 v34 v35 E; exact (am_lp0 E).elim
              | succ n ih32 =>
                intro v33 v34 v35 E
                obtain ⟨r32, E, Er32⟩ := am_lpE E
                replace E : b_X12_ask_47 s0 v9 v10 v11 v33 v34 v35 = some r32 := E
                unfold b_X12_ask_47 at E
                refine am_iload 47 C dX12_ask_47 7 rfl ?_
                refine am_iconst 49 (1 : Int32) C dX12_ask_49 (by decide) ?_
                refine am_aload_n 50 C dX12_ask_50 rfl 0 rfl ?_
                refine as_getr 51 C fl_X12_39_11 dX12_ask_51 (by decide) sh_248 (rf_248_20 _ _) ?_
                refine am_iconst 54 (0 : Int32) C dX12_ask_54 (by decide) ?_
                refine as_ialdK 55 0 C dX12_ask_55 (by decide) sh_258 (by decide) (by decide) ?_
                refine am_ishl 56 C dX12_ask_56 ?_
                refine am_icmp_ge 57 93 C dX12_ask_57 (by decide) (fun c43 => ?_) (fun c43 => ?_)
                · have E := am_ifT E c43
                  obtain ⟨e36, E, E2⟩ := am_bdE E
                  replace E2 := Option.some.inj E2
                  replace E2 := am_exR E2 Er32
                  rw [E2] at E
                  refine am_lvs [0, 1, 2, 3, 4, 5, 6] rfl ?_
                  exact K93 _ _ _ _ _ E
                · have E := am_ifF E c43
                  refine am_aload_n 60 C dX12_ask_60 rfl 0 rfl ?_
                  refine am_iload 61 C dX12_ask_61 7 rfl ?_
                  obtain ⟨v37, Ec, E⟩ := am_bdE E
                  refine as_callV 63 (s2 := s0) (st := []) (st2 := [.int v37]) [.int v35] C A (by decide) ml_X12_424 yc_X12_isTruth yv_X12_isTruth (t_X12_isTruth v35 s0 Ec) (by decide) sh_248 rfl rfl (Nat.le_of_ble_eq_true rfl) rfl dX12_ask_63 ?_
                  refine am_if_ne 66 72 C dX12_ask_66 (by decide) (fun c42 => ?_) (fun c42 => ?_)
                  · have E := am_ifF E c42
                    obtain ⟨v38, hv38, E⟩ := am_ltE E
                    refine as_iinc 72 (q := (1 : Int32)) (lv2 := [(5, .int v38), (0, .ref 248), (1, .int p1), (2, .int v9), (3, .int v10), (4, .int v11), (6, .int v34), (7, .int v35)]) C dX12_ask_72 5 rfl (by decide) hv38 (by decide) rfl ?_
                    refine am_iload 75 C dX12_ask_75 6 rfl ?_
                    refine am_iload 77 C dX12_ask_77 7 rfl ?_
                    refine am_iload 79 C dX12_ask_79 5 rfl ?_
                    refine am_ishr 81 C dX12_ask_81 ?_
                    refine am_iconst 82 (1 : Int32) C dX12_ask_82 (by decide) ?_
                    refine am_iand 83 C dX12_ask_83 ?_
                    refine am_iadd 84 C dX12_ask_84 ?_
                    obtain ⟨v39, hv39, E⟩ := am_ltE E
                    refine as_nm hv39 ?_
                    refine am_istore 85 (lv2 := [(6, .int v39), (5, .int v38), (0, .ref 248), (1, .int p1), (2, .int v9), (3, .int v10), (4, .int v11), (7, .int v35)]) C dX12_ask_85 (by decide) rfl ?_
                    obtain ⟨v40, hv40, E⟩ := am_ltE E
                    refine as_iinc 87 (q := (1 : Int32)) (lv2 := [(7, .int v40), (6, .int v39), (5, .int v38), (0, .ref 248), (1, .int p1), (2, .int v9), (3, .int v10), (4, .int v11)]) C dX12_ask_87 7 rfl (by decide) hv40 (by decide) rfl ?_
                    refine am_goto 90 47 C dX12_ask_90 (by decide) ?_
                    replace E := Option.some.inj E
                    replace E := am_exL E Er32
                    refine am_lvs [3, 4, 5, 6, 7, 2, 1, 0] rfl ?_
                    exact ih32 _ _ _ E
                  · have E := am_ifT E c42
                    refine am_goto 69 87 C dX12_ask_69 (by decide) ?_
                    obtain ⟨v41, hv41, E⟩ := am_ltE E
                    refine as_iinc 87 (q := (1 : Int32)) (lv2 := [(7, .int v41), (0, .ref 248), (1, .int p1), (2, .int v9), (3, .int v10), (4, .int v11), (5, .int v33), (6, .int v34)]) C dX12_ask_87 7 rfl (by decide) hv41 (by decide) rfl ?_
                    refine am_goto 90 47 C dX12_ask_90 (by decide) ?_
                    replace E := Option.some.inj E
                    replace E := am_exL E Er32
                    refine am_lvs [1, 2, 3, 4, 5, 6, 7, 0] rfl ?_
                    exact ih32 _ _ _ E
            refine am_lvs [3, 4, 5, 6, 7, 2, 1, 0] rfl ?_
            exact LP32 am_F _ _ _ E
      refine am_lvs [3, 4, 2, 1, 0] rfl ?_
      exact LP8 am_F _ _ _ E
    · have E := am_ifT E c45
      refine am_iconst 17 (-1 : Int32) C dX12_ask_17 (by decide) ?_
      replace E := Option.some.inj E
      subst E
      exact as_iret 18 C Z rfl dX12_ask_18
def j_X12_tale_93 (v3 : Int32) (v4 : Int32) (s5 : am_S) : Option (Int32 × am_S) :=
  am_gd (¬ v4 < 0 ∧ (v4).toNatClampNeg < 328) (am_lt (as_i s5 258 (v4).toNatClampNeg v3) (fun s7 => am_lt (as_i s7 258 327 ((s7.1 258 327) + (1 : Int32))) (fun s8 => some ((s8.1 258 327), s8))))
def f_X12_tale (p1 : Int32) (p2 : Int32) (s0 : am_S) : Option (Int32 × am_S) :=
  am_if (p1 = (-1 : Int32)) (am_lt (as_i s0 258 327 (0 : Int32)) (fun s15 => some ((0 : Int32), s15))) (am_bd (f_X12_in (p1).toInt64 (0 : Int64) (9 : Int64)) (fun v9 => am_if (v9 = 0) (some ((-2 : Int32), s0)) (am_if ((s0.1 258 327) = (nI 10)) (some ((-2 : Int32), s0)) (am_gd (¬ ((nI 306) + ((nI 2) * (s0.1 258 327))) < 0 ∧ (((nI 306) + ((nI 2) * (s0.1 258 327)))).toNatClampNeg < 328) (am_lt (as_i s0 258 (((nI 306) + ((nI 2) * (s0.1 258 327)))).toNatClampNeg p1) (fun s11 => am_if (p2 = 0) (j_X12_tale_93 (0 : Int32) (((nI 306) + ((nI 2) * (s11.1 258 327))) + (1 : Int32)) s11) (j_X12_tale_93 (1 : Int32) (((nI 306) + ((nI 2) * (s11.1 258 327))) + (1 : Int32)) s11)))))))
set_option maxRecDepth 100000 in
set_option maxHeartbeats 4000000 in
theorem t_X12_tale (p1 : Int32) (p2 : Int32) (s0 : am_S) {z : Int32 × am_S} (E : f_X12_tale p1 p2 s0 = some z) : AS yX12_tale cX12_tale 3 (some .int) 2 [.ref 248, .int p1, .int p2] s0 (some (.int z.1)) z.2 := by
  unfold f_X12_tale at E
  refine as_met (lv := [(0, .ref 248), (1, .int p1), (2, .int p2)]) (by decide +kernel) (by simp [lg_sl, Value.category]) rfl (fun x C A Z => ?_)
  have K93 : ∀ (v3 : Int32) (v4 : Int32) (s5 : am_S), j_X12_tale_93 v3 v4 s5 = some z → AX x 0 0 93 [(0, .ref 248)] [.int v3, .int v4, .ref 258] am_N (am_h s5) := by
    intro v3 v4 s5 E
    unfold j_X12_tale_93 at E
    obtain ⟨g6, E⟩ := am_gdE E
    obtain ⟨s7, hs7, E⟩ := am_ltE E
    refine as_iast 93 C dX12_tale_93 (by decide) sh_258 g6 hs7 ?_
    refine am_aload_n 94 C dX12_tale_94 rfl 0 rfl ?_
    refine as_getr 95 C fl_X12_39_11 dX12_tale_95 (by decide) sh_248 (rf_248_20 _ _) ?_
    refine am_sipush 98 (nI 327) C dX12_tale_98 (by decide) ?_
    refine am_dup2 101 C dX12_tale_101 rfl rfl ?_
    refine as_ialdK 102 327 C dX12_tale_102 (by decide) sh_258 (by decide) (by decide) ?_
    refine am_iconst 103 (1 : Int32) C dX12_tale_103 (by decide) ?_
    refine am_iadd 104 C dX12_tale_104 ?_
    obtain ⟨s8, hs8, E⟩ := am_ltE E
    refine as_iastK 105 327 C dX12_tale_105 (by decide) sh_258 (by decide) (by decide) hs8 ?_
    refine am_aload_n 106 C dX12_tale_106 rfl 0 rfl ?_
    refine as_getr 107 C fl_X12_39_11 dX12_tale_107 (by decide) sh_248 (rf_248_20 _ _) ?_
    refine am_sipush 110 (nI 327) C dX12_tale_110 (by decide) ?_
    refine as_ialdK 113 327 C dX12_tale_113 (by decide) sh_258 (by decide) (by decide) ?_
    replace E := Option.some.inj E
    subst E
    exact as_iret 114 C Z rfl dX12_tale_114
  refine am_iload_n 0 C dX12_tale_0 rfl 1 rfl ?_
  refine am_iconst 1 (-1 : Int32) C dX12_tale_1 (by decide) ?_
  refine am_icmp_ne 2 16 C dX12_tale_2 (by decide) (fun c16 => ?_) (fun c16 => ?_)
  · have E := am_ifF E c16
    refine am_iload_n 16 C dX12_tale_16 rfl 1 rfl ?_
    refine am_i2l 17 C dX12_tale_17 ?_
    refine am_lconst 18 (0 : Int64) C dX12_tale_18 (by decide) ?_
    refine am_ldc2 19 C dX12_tale_19 kl_X12_430 ?_
    obtain ⟨v9, Ec, E⟩ := am_bdE E
    refine as_callS 22 (s2 := s0) (st := []) (st2 := [.int v9]) [.long (p1).toInt64, .long (0 : Int64), .long (9 : Int64)] C A (by decide) ml_X12_106 yc_X12_in ys_X12_in (t_X12_in (p1).toInt64 (0 : Int64) (9 : Int64) s0 Ec) rfl rfl (Nat.le_of_ble_eq_true rfl) rfl dX12_tale_22 ?_
    refine am_if_eq 25 41 C dX12_tale_25 (by decide) (fun c14 => ?_) (fun c14 => ?_)
    · have E := am_ifT E c14
      refine am_bipush 41 (-2 : Int32) C dX12_tale_41 (by decide) ?_
      replace E := Option.some.inj E
      subst E
      exact as_iret 43 C Z rfl dX12_tale_43
    · have E := am_ifF E c14
      refine am_aload_n 28 C dX12_tale_28 rfl 0 rfl ?_
      refine as_getr 29 C fl_X12_39_11 dX12_tale_29 (by decide) sh_248 (rf_248_20 _ _) ?_
      refine am_sipush 32 (nI 327) C dX12_tale_32 (by decide) ?_
      refine as_ialdK 35 327 C dX12_tale_35 (by decide) sh_258 (by decide) (by decide) ?_
      refine am_bipush 36 (nI 10) C dX12_tale_36 (by decide) ?_
      refine am_icmp_ne 38 44 C dX12_tale_38 (by decide) (fun c13 => ?_) (fun c13 => ?_)
      · have E := am_ifF E c13
        refine am_aload_n 44 C dX12_tale_44 rfl 0 rfl ?_
        refine as_getr 45 C fl_X12_39_11 dX12_tale_45 (by decide) sh_248 (rf_248_20 _ _) ?_
        refine am_sipush 48 (nI 306) C dX12_tale_48 (by decide) ?_
        refine am_iconst 51 (nI 2) C dX12_tale_51 (by decide) ?_
        refine am_aload_n 52 C dX12_tale_52 rfl 0 rfl ?_
        refine as_getr 53 C fl_X12_39_11 dX12_tale_53 (by decide) sh_248 (rf_248_20 _ _) ?_
        refine am_sipush 56 (nI 327) C dX12_tale_56 (by decide) ?_
        refine as_ialdK 59 327 C dX12_tale_59 (by decide) sh_258 (by decide) (by decide) ?_
        refine am_imul 60 C dX12_tale_60 ?_
        refine am_iadd 61 C dX12_tale_61 ?_
        refine am_iload_n 62 C dX12_tale_62 rfl 1 rfl ?_
        obtain ⟨g10, E⟩ := am_gdE E
        obtain ⟨s11, hs11, E⟩ := am_ltE E
        refine as_iast 63 C dX12_tale_63 (by decide) sh_258 g10 hs11 ?_
        refine am_aload_n 64 C dX12_tale_64 rfl 0 rfl ?_
        refine as_getr 65 C fl_X12_39_11 dX12_tale_65 (by decide) sh_248 (rf_248_20 _ _) ?_
        refine am_sipush 68 (nI 306) C dX12_tale_68 (by decide) ?_
        refine am_iconst 71 (nI 2) C dX12_tale_71 (by decide) ?_
        refine am_aload_n 72 C dX12_tale_72 rfl 0 rfl ?_
        refine as_getr 73 C fl_X12_39_11 dX12_tale_73 (by decide) sh_248 (rf_248_20 _ _) ?_
        refine am_sipush 76 (nI 327) C dX12_tale_76 (by decide) ?_
        refine as_ialdK 79 327 C dX12_tale_79 (by decide) sh_258 (by decide) (by decide) ?_
        refine am_imul 80 C dX12_tale_80 ?_
        refine am_iadd 81 C dX12_tale_81 ?_
        refine am_iconst 82 (1 : Int32) C dX12_tale_82 (by decide) ?_
        refine am_iadd 83 C dX12_tale_83 ?_
        refine am_iload_n 84 C dX12_tale_84 rfl 2 rfl ?_
        refine am_if_eq 85 92 C dX12_tale_85 (by decide) (fun c12 => ?_) (fun c12 => ?_)
        · have E := am_ifT E c12
          refine am_iconst 92 (0 : Int32) C dX12_tale_92 (by decide) ?_
          refine am_lvs [0] rfl ?_
          exact K93 _ _ _ E
        · have E := am_ifF E c12
          refine am_iconst 88 (1 : Int32) C dX12_tale_88 (by decide) ?_
          refine am_goto 89 93 C dX12_tale_89 (by decide) ?_
          refine am_lvs [0] rfl ?_
          exact K93 _ _ _ E
      · have E := am_ifT E c13
        refine am_bipush 41 (-2 : Int32) C dX12_tale_41 (by decide) ?_
        replace E := Option.some.inj E
        subst E
        exact as_iret 43 C Z rfl dX12_tale_43
  · have E := am_ifT E c16
    refine am_aload_n 5 C dX12_tale_5 rfl 0 rfl ?_
    refine as_getr 6 C fl_X12_39_11 dX12_tale_6 (by decide) sh_248 (rf_248_20 _ _) ?_
    refine am_sipush 9 (nI 327) C dX12_tale_9 (by decide) ?_
    refine am_iconst 12 (0 : Int32) C dX12_tale_12 (by decide) ?_
    obtain ⟨s15, hs15, E⟩ := am_ltE E
    refine as_iastK 13 327 C dX12_tale_13 (by decide) sh_258 (by decide) (by decide) hs15 ?_
    refine am_iconst 14 (0 : Int32) C dX12_tale_14 (by decide) ?_
    replace E := Option.some.inj E
    subst E
    exact as_iret 15 C Z rfl dX12_tale_15
def b_X12_fitsTales_2 (p1 : Int32) (p2 : Int32) (s0 : am_S) (v4 : Int32) : Option ((Int32) ⊕ (Int32)) :=
  am_if ((s0.1 258 327) ≤ v4) (some (Sum.inr (1 : Int32))) (am_lt ((nI 306) + ((nI 2) * v4)) (fun v5 => am_gd (¬ v5 < 0 ∧ (v5).toNatClampNeg < 328) (am_lt (s0.1 258 (v5).toNatClampNeg) (fun v7 => am_if (p2 ≤ v7) (some (Sum.inr (0 : Int32))) (am_lt (((nI 306) + ((nI 2) * v4)) + (1 : Int32)) (fun v8 => am_gd (¬ v8 < 0 ∧ (v8).toNatClampNeg < 328) (am_if (((p1 >>> (v7 &&& 31)) &&& (1 : Int32)) = (s0.1 258 (v8).toNatClampNeg)) (am_lt (v4 + (1 : Int32)) (fun v10 => some (Sum.inl v10))) (some (Sum.inr (0 : Int32))))))))))
def f_X12_fitsTales (p1 : Int32) (p2 : Int32) (s0 : am_S) : Option (Int32) :=
  am_lp (fun (q : Int32) => b_X12_fitsTales_2 p1 p2 s0 q) am_F (0 : Int32)
set_option maxRecDepth 100000 in
set_option maxHeartbeats 4000000 in
theorem t_X12_fitsTales (p1 : Int32) (p2 : Int32) (s0 : am_S) {z : Int32} (E : f_X12_fitsTales p1 p2 s0 = some z) : AS yX12_fitsTales cX12_fitsTales 5 (some .boolean) 1 [.ref 248, .int p1, .int p2] s0 (some (.int z)) s0 := by
  unfold f_X12_fitsTales at E
  refine as_met (lv := [(0, .ref 248), (1, .int p1), (2, .int p2)]) (by decide +kernel) (by simp [lg_sl, Value.category]) rfl (fun x C A Z => ?_)
  refine am_iconst 0 (0 : Int32) C dX12_fitsTales_0 (by decide) ?_
  refine am_istore_n 1 (lv2 := [(3, .int (0 : Int32)), (0, .ref 248), (1, .int p1), (2, .int p2)]) C dX12_fitsTales_1 rfl (by decide) rfl ?_
  have LP3 : ∀ (n : Nat) (v4 : Int32), am_lp (fun (q : Int32) => b_X12_fitsTales_2 p1 p2 s0 q) n v4 = some z → AX x 0 0 2 [(0, .ref 248), (1, .int p1), (2, .int p2), (3, .int v4)] [] am_N (am_h s0) := by
    intro n
    induction n with
    | zero => intro v4 E; exact (am_lp0 E).elim
    | succ n ih3 =>
      intro v4 E
      obtain ⟨r3, E, Er3⟩ := am_lpE E
      replace E : b_X12_fitsTales_2 p1 p2 s0 v4 = some r3 := E
      unfold b_X12_fitsTales_2 at E
      refine am_iload_n 2 C dX12_fitsTales_2 rfl 3 rfl ?_
      refine am_aload_n 3 C dX12_fitsTales_3 rfl 0 rfl ?_
      refine as_getr 4 C fl_X12_39_11 dX12_fitsTales_4 (by decide) sh_248 (rf_248_20 _ _) ?_
      refine am_sipush 7 (nI 327) C dX12_fitsTales_7 (by decide) ?_
      refine as_ialdK 10 327 C dX12_fitsTales_10 (by decide) sh_258 (by decide) (by decide) ?_
      refine am_icmp_ge 11 65 C dX12_fitsTales_11 (by decide) (fun c13 => ?_) (fun c13 => ?_)
      · have E := am_ifT E c13
        refine am_iconst 65 (1 : Int32) C dX12_fitsTales_65 (by decide) ?_
        replace E := Option.some.inj E
        replace E := am_exR E Er3
        subst E
        exact as_iret 66 C Z rfl dX12_fitsTales_66
      · have E := am_ifF E c13
        refine am_aload_n 14 C dX12_fitsTales_14 rfl 0 rfl ?_
        refine as_getr 15 C fl_X12_39_11 dX12_fitsTales_15 (by decide) sh_248 (rf_248_20 _ _) ?_
        refine am_sipush 18 (nI 306) C dX12_fitsTales_18 (by decide) ?_
        refine am_iconst 21 (nI 2) C dX12_fitsTales_21 (by decide) ?_
        refine am_iload_n 22 C dX12_fitsTales_22 rfl 3 rfl ?_
        refine am_imul 23 C dX12_fitsTales_23 ?_
        refine am_iadd 24 C dX12_fitsTales_24 ?_
        obtain ⟨v5, hv5, E⟩ := am_ltE E
        refine as_nm hv5 ?_
        obtain ⟨g6, E⟩ := am_gdE E
        refine as_iald 25 C dX12_fitsTales_25 (by decide) sh_258 g6 ?_
        obtain ⟨v7, hv7, E⟩ := am_ltE E
        refine as_nm hv7 ?_
        refine am_istore 26 (lv2 := [(4, .int v7), (0, .ref 248), (1, .int p1), (2, .int p2), (3, .int v4)]) C dX12_fitsTales_26 (by decide) rfl ?_
        refine am_iload 28 C dX12_fitsTales_28 0 rfl ?_
        refine am_iload_n 30 C dX12_fitsTales_30 rfl 3 rfl ?_
        refine am_icmp_ge 31 57 C dX12_fitsTales_31 (by decide) (fun c12 => ?_) (fun c12 => ?_)
        · have E := am_ifT E c12
          refine am_iconst 57 (0 : Int32) C dX12_fitsTales_57 (by decide) ?_
          replace E := Option.some.inj E
          replace E := am_exR E Er3
          subst E
          exact as_iret 58 C Z rfl dX12_fitsTales_58
        · have E := am_ifF E c12
          refine am_iload_n 34 C dX12_fitsTales_34 rfl 2 rfl ?_
          refine am_iload 35 C dX12_fitsTales_35 0 rfl ?_
          refine am_ishr 37 C dX12_fitsTales_37 ?_
          refine am_iconst 38 (1 : Int32) C dX12_fitsTales_38 (by decide) ?_
          refine am_iand 39 C dX12_fitsTales_39 ?_
          refine am_aload_n 40 C dX12_fitsTales_40 rfl 1 rfl ?_
          refine as_getr 41 C fl_X12_39_11 dX12_fitsTales_41 (by decide) sh_248 (rf_248_20 _ _) ?_
          refine am_sipush 44 (nI 306) C dX12_fitsTales_44 (by decide) ?_
          refine am_iconst 47 (nI 2) C dX12_fitsTales_47 (by decide) ?_
          refine am_iload_n 48 C dX12_fitsTales_48 rfl 4 rfl ?_
          refine am_imul 49 C dX12_fitsTales_49 ?_
          refine am_iadd 50 C dX12_fitsTales_50 ?_
          refine am_iconst 51 (1 : Int32) C dX12_fitsTales_51 (by decide) ?_
          refine am_iadd 52 C dX12_fitsTales_52 ?_
          obtain ⟨v8, hv8, E⟩ := am_ltE E
          refine as_nm hv8 ?_
          obtain ⟨g9, E⟩ := am_gdE E
          refine as_iald 53 C dX12_fitsTales_53 (by decide) sh_258 g9 ?_
          refine am_icmp_eq 54 59 C dX12_fitsTales_54 (by decide) (fun c11 => ?_) (fun c11 => ?_)
          · have E := am_ifT E c11
            obtain ⟨v10, hv10, E⟩ := am_ltE E
            refine as_iinc 59 (q := (1 : Int32)) (lv2 := [(3, .int v10), (4, .int v7), (0, .ref 248), (1, .int p1), (2, .int p2)]) C dX12_fitsTales_59 4 rfl (by decide) hv10 (by decide) rfl ?_
            refine am_goto 62 2 C dX12_fitsTales_62 (by decide) ?_
            replace E := Option.some.inj E
            replace E := am_exL E Er3
            refine am_lvs [2, 3, 4, 0] rfl ?_
            exact ih3 _ E
          · have E := am_ifF E c11
            refine am_iconst 57 (0 : Int32) C dX12_fitsTales_57 (by decide) ?_
            replace E := Option.some.inj E
            replace E := am_exR E Er3
            subst E
            exact as_iret 58 C Z rfl dX12_fitsTales_58
  refine am_lvs [1, 2, 3, 0] rfl ?_
  exact LP3 am_F _ E
def j_X12_schedules_94 (p3 : Int32) (v4 : Int32) (v5 : Int32) : Option (Int32) :=
  am_if (p3 = 0) (some v4) (am_if (v4 = 0) (some (0 : Int32)) (some v5))
def b_X12_schedules_48 (p1 : Int32) (p2 : Int32) (p3 : Int32) (s0 : am_S) (v13 : Int32) (v14 : Int32) (v15 : Int32) : Option ((Int32 × Int32 × Int32) ⊕ (Int32)) :=
  am_if (((1 : Int32) <<< (p1 &&& 31)) ≤ v15) (am_bd (j_X12_schedules_94 p3 v13 v14) (fun e16 => some (Sum.inr e16))) (am_bd (f_X12_bits v15) (fun v17 => am_if (v17 = p2) (am_bd (f_X12_fitsTales v15 p1 s0) (fun v19 => am_if (v19 = 0) (am_lt (v15 + (1 : Int32)) (fun v23 => some (Sum.inl (v13, v14, v23)))) (am_lt (v13 + (1 : Int32)) (fun v20 => am_lt (v14 &&& v15) (fun v21 => am_lt (v15 + (1 : Int32)) (fun v22 => some (Sum.inl (v20, v21, v22)))))))) (am_lt (v15 + (1 : Int32)) (fun v18 => some (Sum.inl (v13, v14, v18))))))
def f_X12_schedules (p1 : Int32) (p2 : Int32) (p3 : Int32) (s0 : am_S) : Option (Int32) :=
  am_bd (f_X12_in (p1).toInt64 (1 : Int64) (10 : Int64)) (fun v8 => am_if (v8 = 0) (some (-1 : Int32)) (am_bd (f_X12_in (p2).toInt64 (0 : Int64) (p1).toInt64) (fun v9 => am_if (v9 = 0) (some (-1 : Int32)) (am_bd (f_X12_in (p3).toInt64 (0 : Int64) (1 : Int64)) (fun v10 => am_if (v10 = 0) (some (-1 : Int32)) (am_lt (((1 : Int32) <<< (p1 &&& 31)) - (1 : Int32)) (fun v11 => am_lp (fun (q : Int32 × Int32 × Int32) => b_X12_schedules_48 p1 p2 p3 s0 q.1 q.2.1 q.2.2) am_F ((0 : Int32), v11, (0 : Int32)))))))))
set_option maxRecDepth 100000 in
set_option maxHeartbeats 4000000 in
theorem t_X12_schedules (p1 : Int32) (p2 : Int32) (p3 : Int32) (s0 : am_S) {z : Int32} (E : f_X12_schedules p1 p2 p3 s0 = some z) : AS yX12_schedules cX12_schedules 7 (some .int) 2 [.ref 248, .int p1, .int p2, .int p3] s0 (some (.int z)) s0 := by
  unfold f_X12_schedules at E
  refine as_met (lv := [(0, .ref 248), (1, .int p1), (2, .int p2), (3, .int p3)]) (by decide +kernel) (by simp [lg_sl, Value.category]) rfl (fun x C A Z => ?_)
  have K94 : ∀ (v4 : Int32) (v5 : Int32), j_X12_schedules_94 p3 v4 v5 = some z → AX x 0 0 94 [(0, .ref 248), (3, .int p3), (4, .int v4), (5, .int v5)] [] am_N (am_h s0) := by
    intro v4 v5 E
    unfold j_X12_schedules_94 at E
    refine am_iload_n 94 C dX12_schedules_94 rfl 1 rfl ?_
    refine am_if_ne 95 103 C dX12_schedules_95 (by decide) (fun c7 => ?_) (fun c7 => ?_)
    · have E := am_ifF E c7
      refine am_iload 103 C dX12_schedules_103 2 rfl ?_
      refine am_if_ne 105 112 C dX12_schedules_105 (by decide) (fun c6 => ?_) (fun c6 => ?_)
      · have E := am_ifF E c6
        refine am_iload 112 C dX12_schedules_112 3 rfl ?_
        replace E := Option.some.inj E
        subst E
        exact as_iret 114 C Z rfl dX12_schedules_114
      · have E := am_ifT E c6
        refine am_iconst 108 (0 : Int32) C dX12_schedules_108 (by decide) ?_
        refine am_goto 109 114 C dX12_schedules_109 (by decide) ?_
        replace E := Option.some.inj E
        subst E
        exact as_iret 114 C Z rfl dX12_schedules_114
    · have E := am_ifT E c7
      refine am_iload 98 C dX12_schedules_98 2 rfl ?_
      refine am_goto 100 114 C dX12_schedules_100 (by decide) ?_
      replace E := Option.some.inj E
      subst E
      exact as_iret 114 C Z rfl dX12_schedules_114
  refine am_iload_n 0 C dX12_schedules_0 rfl 1 rfl ?_
  refine am_i2l 1 C dX12_schedules_1 ?_
  refine am_lconst 2 (1 : Int64) C dX12_schedules_2 (by decide) ?_
  refine am_ldc2 3 C dX12_schedules_3 kl_X12_432 ?_
  obtain ⟨v8, Ec, E⟩ := am_bdE E
  refine as_callS 6 (s2 := s0) (st := []) (st2 := [.int v8]) [.long (p1).toInt64, .long (1 : Int64), .long (10 : Int64)] C A (by decide) ml_X12_106 yc_X12_in ys_X12_in (t_X12_in (p1).toInt64 (1 : Int64) (10 : Int64) s0 Ec) rfl rfl (Nat.le_of_ble_eq_true rfl) rfl dX12_schedules_6 ?_
  refine am_if_eq 9 33 C dX12_schedules_9 (by decide) (fun c29 => ?_) (fun c29 => ?_)
  · have E := am_ifT E c29
    refine am_iconst 33 (-1 : Int32) C dX12_schedules_33 (by decide) ?_
    replace E := Option.some.inj E
    subst E
    exact as_iret 34 C Z rfl dX12_schedules_34
  · have E := am_ifF E c29
    refine am_iload_n 12 C dX12_schedules_12 rfl 2 rfl ?_
    refine am_i2l 13 C dX12_schedules_13 ?_
    refine am_lconst 14 (0 : Int64) C dX12_schedules_14 (by decide) ?_
    refine am_iload_n 15 C dX12_schedules_15 rfl 1 rfl ?_
    refine am_i2l 16 C dX12_schedules_16 ?_
    obtain ⟨v9, Ec, E⟩ := am_bdE E
    refine as_callS 17 (s2 := s0) (st := []) (st2 := [.int v9]) [.long (p2).toInt64, .long (0 : Int64), .long (p1).toInt64] C A (by decide) ml_X12_106 yc_X12_in ys_X12_in (t_X12_in (p2).toInt64 (0 : Int64) (p1).toInt64 s0 Ec) rfl rfl (Nat.le_of_ble_eq_true rfl) rfl dX12_schedules_17 ?_
    refine am_if_eq 20 33 C dX12_schedules_20 (by decide) (fun c28 => ?_) (fun c28 => ?_)
    · have E := am_ifT E c28
      refine am_iconst 33 (-1 : Int32) C dX12_schedules_33 (by decide) ?_
      replace E := Option.some.inj E
      subst E
      exact as_iret 34 C Z rfl dX12_schedules_34
    · have E := am_ifF E c28
      refine am_iload_n 23 C dX12_schedules_23 rfl 3 rfl ?_
      refine am_i2l 24 C dX12_schedules_24 ?_
      refine am_lconst 25 (0 : Int64) C dX12_schedules_25 (by decide) ?_
      refine am_lconst 26 (1 : Int64) C dX12_schedules_26 (by decide) ?_
      obtain ⟨v10, Ec, E⟩ := am_bdE E
      refine as_callS 27 (s2 := s0) (st := []) (st2 := [.int v10]) [.long (p3).toInt64, .long (0 : Int64), .long (1 : Int64)] C A (by decide) ml_X12_106 yc_X12_in ys_X12_in (t_X12_in (p3).toInt64 (0 : Int64) (1 : Int64) s0 Ec) rfl rfl (Nat.le_of_ble_eq_true rfl) rfl dX12_schedules_27 ?_
      refine am_if_ne 30 35 C dX12_schedules_30 (by decide) (fun c27 => ?_) (fun c27 => ?_)
      · have E := am_ifF E c27
        refine am_iconst 35 (0 : Int32) C dX12_schedules_35 (by decide) ?_
        refine am_istore 36 (lv2 := [(4, .int (0 : Int32)), (0, .ref 248), (1, .int p1), (2, .int p2), (3, .int p3)]) C dX12_schedules_36 (by decide) rfl ?_
        refine am_iconst 38 (1 : Int32) C dX12_schedules_38 (by decide) ?_
        refine am_iload_n 39 C dX12_schedules_39 rfl 2 rfl ?_
        refine am_ishl 40 C dX12_schedules_40 ?_
        refine am_iconst 41 (1 : Int32) C dX12_schedules_41 (by decide) ?_
        refine am_isub 42 C dX12_schedules_42 ?_
        obtain ⟨v11, hv11, E⟩ := am_ltE E
        refine as_nm hv11 ?_
        refine am_istore 43 (lv2 := [(5, .int v11), (4, .int (0 : Int32)), (0, .ref 248), (1, .int p1), (2, .int p2), (3, .int p3)]) C dX12_schedules_43 (by decide) rfl ?_
        refine am_iconst 45 (0 : Int32) C dX12_schedules_45 (by decide) ?_
        refine am_istore 46 (lv2 := [(6, .int (0 : Int32)), (5, .int v11), (4, .int (0 : Int32)), (0, .ref 248), (1, .int p1), (2, .int p2), (3, .int p3)]) C dX12_schedules_46 (by decide) rfl ?_
        have LP12 : ∀ (n : Nat) (v13 : Int32) (v14 : Int32) (v15 : Int32), am_lp (fun (q : Int32 × Int32 × Int32) => b_X12_schedules_48 p1 p2 p3 s0 q.1 q.2.1 q.2.2) n (v13, v14, v15) = some z → AX x 0 0 48 [(0, .ref 248), (1, .int p1), (2, .int p2), (3, .int p3), (4, .int v13), (5, .int v14), (6, .int v15)] [] am_N (am_h s0) := by
          intro n
          induction n with
          | zero => intro v13 v14 v15 E; exact (am_lp0 E).elim
          | succ n ih12 =>
            intro v13 v14 v15 E
            obtain ⟨r12, E, Er12⟩ := am_lpE E
            replace E : b_X12_schedules_48 p1 p2 p3 s0 v13 v14 v15 = some r12 := E
            unfold b_X12_schedules_48 at E
            refine am_iload 48 C dX12_schedules_48 6 rfl ?_
            refine am_iconst 50 (1 : Int32) C dX12_schedules_50 (by decide) ?_
            refine am_iload_n 51 C dX12_schedules_51 rfl 1 rfl ?_
            refine am_ishl 52 C dX12_schedules_52 ?_
            refine am_icmp_ge 53 94 C dX12_schedules_53 (by decide) (fun c26 => ?_) (fun c26 => ?_)
            · have E := am_ifT E c26
              obtain ⟨e16, E, E2⟩ := am_bdE E
              replace E2 := Option.some.inj E2
              replace E2 := am_exR E2 Er12
              rw [E2] at E
              refine am_lvs [0, 3, 4, 5] rfl ?_
              exact K94 _ _ E
            · have E := am_ifF E c26
              refine am_iload 56 C dX12_schedules_56 6 rfl ?_
              obtain ⟨v17, Ec, E⟩ := am_bdE E
              refine as_callS 58 (s2 := s0) (st := []) (st2 := [.int v17]) [.int v15] C A (by decide) ml_X12_399 yc_X12_bits ys_X12_bits (t_X12_bits v15 s0 Ec) rfl rfl (Nat.le_of_ble_eq_true rfl) rfl dX12_schedules_58 ?_
              refine am_iload_n 61 C dX12_schedules_61 rfl 2 rfl ?_
              refine am_icmp_ne 62 88 C dX12_schedules_62 (by decide) (fun c25 => ?_) (fun c25 => ?_)
              · have E := am_ifF E c25
                obtain ⟨v18, hv18, E⟩ := am_ltE E
                refine as_iinc 88 (q := (1 : Int32)) (lv2 := [(6, .int v18), (0, .ref 248), (1, .int p1), (2, .int p2), (3, .int p3), (4, .int v13), (5, .int v14)]) C dX12_schedules_88 6 rfl (by decide) hv18 (by decide) rfl ?_
                refine am_goto 91 48 C dX12_schedules_91 (by decide) ?_
                replace E := Option.some.inj E
                replace E := am_exL E Er12
                refine am_lvs [1, 2, 3, 4, 5, 6, 0] rfl ?_
                exact ih12 _ _ _ E
              · have E := am_ifT E c25
                refine am_aload_n 65 C dX12_schedules_65 rfl 0 rfl ?_
                refine am_iload 66 C dX12_schedules_66 6 rfl ?_
                refine am_iload_n 68 C dX12_schedules_68 rfl 1 rfl ?_
                obtain ⟨v19, Ec, E⟩ := am_bdE E
                refine as_callV 69 (s2 := s0) (st := []) (st2 := [.int v19]) [.int v15, .int p1] C A (by decide) ml_X12_434 yc_X12_fitsTales yv_X12_fitsTales (t_X12_fitsTales v15 p1 s0 Ec) (by decide) sh_248 rfl rfl (Nat.le_of_ble_eq_true rfl) rfl dX12_schedules_69 ?_
                refine am_if_ne 72 78 C dX12_schedules_72 (by decide) (fun c24 => ?_) (fun c24 => ?_)
                · have E := am_ifF E c24
                  obtain ⟨v20, hv20, E⟩ := am_ltE E
                  refine as_iinc 78 (q := (1 : Int32)) (lv2 := [(4, .int v20), (0, .ref 248), (1, .int p1), (2, .int p2), (3, .int p3), (5, .int v14), (6, .int v15)]) C dX12_schedules_78 4 rfl (by decide) hv20 (by decide) rfl ?_
                  refine am_iload 81 C dX12_schedules_81 5 rfl ?_
                  refine am_iload 83 C dX12_schedules_83 6 rfl ?_
                  refine am_iand 85 C dX12_schedules_85 ?_
                  obtain ⟨v21, hv21, E⟩ := am_ltE E
                  refine as_nm hv21 ?_
                  refine am_istore 86 (lv2 := [(5, .int v21), (4, .int v20), (0, .ref 248), (1, .int p1), (2, .int p2), (3, .int p3), (6, .int v15)]) C dX12_schedules_86 (by decide) rfl ?_
                  obtain ⟨v22, hv22, E⟩ := am_ltE E
                  refine as_iinc 88 (q := (1 : Int32)) (lv2 := [(6, .int v22), (5, .int v21), (4, .int v20), (0, .ref 248), (1, .int p1), (2, .int p2), (3, .int p3)]) C dX12_schedules_88 6 rfl (by decide) hv22 (by decide) rfl ?_
                  refine am_goto 91 48 C dX12_schedules_91 (by decide) ?_
                  replace E := Option.some.inj E
                  replace E := am_exL E Er12
                  refine am_lvs [3, 4, 5, 6, 2, 1, 0] rfl ?_
                  exact ih12 _ _ _ E
                · have E := am_ifT E c24
                  refine am_goto 75 88 C dX12_schedules_75 (by decide) ?_
                  obtain ⟨v23, hv23, E⟩ := am_ltE E
                  refine as_iinc 88 (q := (1 : Int32)) (lv2 := [(6, .int v23), (0, .ref 248), (1, .int p1), (2, .int p2), (3, .int p3), (4, .int v13), (5, .int v14)]) C dX12_schedules_88 6 rfl (by decide) hv23 (by decide) rfl ?_
                  refine am_goto 91 48 C dX12_schedules_91 (by decide) ?_
                  replace E := Option.some.inj E
                  replace E := am_exL E Er12
                  refine am_lvs [1, 2, 3, 4, 5, 6, 0] rfl ?_
                  exact ih12 _ _ _ E
        refine am_lvs [3, 4, 5, 6, 2, 1, 0] rfl ?_
        exact LP12 am_F _ _ _ E
      · have E := am_ifT E c27
        refine am_iconst 33 (-1 : Int32) C dX12_schedules_33 (by decide) ?_
        replace E := Option.some.inj E
        subst E
        exact as_iret 34 C Z rfl dX12_schedules_34
def f_X12_seed (p1 : Int32) (s0 : am_S) : Option (Int32 × am_S) :=
  am_if (0 ≤ p1) (am_lt (s0.1 248 22) (fun v2 => am_lt (as_i s0 248 22 p1) (fun s3 => some (v2, s3)))) (some ((-1 : Int32), s0))
set_option maxRecDepth 100000 in
set_option maxHeartbeats 4000000 in
theorem t_X12_seed (p1 : Int32) (s0 : am_S) {z : Int32 × am_S} (E : f_X12_seed p1 s0 = some z) : AS yX12_seed cX12_seed 3 (some .int) 1 [.ref 248, .int p1] s0 (some (.int z.1)) z.2 := by
  unfold f_X12_seed at E
  refine as_met (lv := [(0, .ref 248), (1, .int p1)]) (by decide +kernel) (by simp [lg_sl, Value.category]) rfl (fun x C A Z => ?_)
  refine am_iload_n 0 C dX12_seed_0 rfl 1 rfl ?_
  refine am_if_ge 1 6 C dX12_seed_1 (by decide) (fun c4 => ?_) (fun c4 => ?_)
  · have E := am_ifT E c4
    refine am_aload_n 6 C dX12_seed_6 rfl 0 rfl ?_
    refine as_geti 7 C fl_X12_437_11 dX12_seed_7 (by decide) sh_248 ?_
    obtain ⟨v2, hv2, E⟩ := am_ltE E
    refine as_nm hv2 ?_
    refine am_istore_n 10 (lv2 := [(2, .int v2), (0, .ref 248), (1, .int p1)]) C dX12_seed_10 rfl (by decide) rfl ?_
    refine am_aload_n 11 C dX12_seed_11 rfl 1 rfl ?_
    refine am_iload_n 12 C dX12_seed_12 rfl 2 rfl ?_
    obtain ⟨s3, hs3, E⟩ := am_ltE E
    refine as_puti 13 C fl_X12_437_11 dX12_seed_13 (by decide) sh_248 rfl rfl hs3 ?_
    refine am_iload_n 16 C dX12_seed_16 rfl 0 rfl ?_
    replace E := Option.some.inj E
    subst E
    exact as_iret 17 C Z rfl dX12_seed_17
  · have E := am_ifF E c4
    refine am_iconst 4 (-1 : Int32) C dX12_seed_4 (by decide) ?_
    replace E := Option.some.inj E
    subst E
    exact as_iret 5 C Z rfl dX12_seed_5
def f_X12_draw (p1 : Int32) (s0 : am_S) : Option (Int32 × am_S) :=
  am_lt (as_j s0 248 27 ((((s0.2.1 248 27) * (1103515245 : Int64)) + (12345 : Int64)) - (((s0.2.1 248 27) * (1103515245 : Int64)) + (12345 : Int64)) / (2147483648 : Int64) * (2147483648 : Int64))) (fun s2 => am_gd (¬ (p1).toInt64 = 0) (some (((((s2.2.1 248 27) / (65536 : Int64)) - ((s2.2.1 248 27) / (65536 : Int64)) / (p1).toInt64 * (p1).toInt64)).toInt32, s2)))
set_option maxRecDepth 100000 in
set_option maxHeartbeats 4000000 in
theorem t_X12_draw (p1 : Int32) (s0 : am_S) {z : Int32 × am_S} (E : f_X12_draw p1 s0 = some z) : AS yX12_draw cX12_draw 2 (some .int) 1 [.ref 248, .int p1] s0 (some (.int z.1)) z.2 := by
  unfold f_X12_draw at E
  refine as_met (lv := [(0, .ref 248), (1, .int p1)]) (by decide +kernel) (by simp [lg_sl, Value.category]) rfl (fun x C A Z => ?_)
  refine am_aload_n 0 C dX12_draw_0 rfl 0 rfl ?_
  refine am_aload_n 1 C dX12_draw_1 rfl 0 rfl ?_
  refine as_getl 2 C fl_X12_440_11 dX12_draw_2 (by decide) sh_248 ?_
  refine am_ldc2 5 C dX12_draw_5 kl_X12_444 ?_
  refine am_lmul 8 C dX12_draw_8 ?_
  refine am_ldc2 9 C dX12_draw_9 kl_X12_446 ?_
  refine am_ladd 12 C dX12_draw_12 ?_
  refine am_ldc2 13 C dX12_draw_13 kl_X12_448 ?_
  refine am_lrem 16 C dX12_draw_16 (by decide) ?_
  obtain ⟨s2, hs2, E⟩ := am_ltE E
  refine as_putl 17 C fl_X12_440_11 dX12_draw_17 (by decide) sh_248 hs2 ?_
  refine am_aload_n 20 C dX12_draw_20 rfl 0 rfl ?_
  refine as_getl 21 C fl_X12_440_11 dX12_draw_21 (by decide) sh_248 ?_
  refine am_ldc2 24 C dX12_draw_24 kl_X12_450 ?_
  refine am_ldiv 27 C dX12_draw_27 (by decide) ?_
  refine am_iload_n 28 C dX12_draw_28 rfl 1 rfl ?_
  refine am_i2l 29 C dX12_draw_29 ?_
  obtain ⟨g3, E⟩ := am_gdE E
  refine am_lrem 30 C dX12_draw_30 g3 ?_
  refine am_l2i 31 C dX12_draw_31 ?_
  replace E := Option.some.inj E
  subst E
  exact as_iret 32 C Z rfl dX12_draw_32
def j_X12_drawsDay_111 (v6 : Int32) (v7 : Int32) (v8 : Int32) (v9 : Int32) (v10 : Int32) (s11 : am_S) : Option ((Int32 × Int32 × am_S) ⊕ (Int32 × am_S)) :=
  am_b2 (f_X12_draw (s11.1 258 0) s11) (fun v12 s13 => am_b2 (f_X12_draw (nI 2) s13) (fun v14 s15 => am_b2 (f_X12_says v6 ((v9 + v10) - v6) v12 v14 (0 : Int32) s15) (fun v16 s17 => am_lt (v7 + v16) (fun v18 => am_lt (v8 + (1 : Int32)) (fun v19 => some (Sum.inl (v18, v19, s17)))))))
def j_X12_drawsDay_85 (v20 : Int32) (v21 : Int32) (v22 : Int32) (v23 : Int32) (v24 : Int32) (s25 : am_S) : Option ((Int32 × Int32 × am_S) ⊕ (Int32 × am_S)) :=
  am_if (v24 ≤ v23) (am_if (v20 = (0 : Int32)) (j_X12_drawsDay_111 v23 v21 v22 v23 v24 s25) (j_X12_drawsDay_111 v24 v21 v22 v23 v24 s25)) (am_if (v20 = (1 : Int32)) (j_X12_drawsDay_111 v23 v21 v22 v23 v24 s25) (j_X12_drawsDay_111 v24 v21 v22 v23 v24 s25))
def b_X12_drawsDay_8 (v3 : Int32) (v4 : Int32) (s5 : am_S) : Option ((Int32 × Int32 × am_S) ⊕ (Int32 × am_S)) :=
  am_if ((nI 12) ≤ v4) (some (Sum.inr (v3, s5))) (am_if ((s5.1 258 3) ≤ 0) (some (Sum.inr (v3, s5))) (am_lt (as_i s5 258 7 v4) (fun s29 => am_b2 (f_X12_draw (s29.1 258 3) s29) (fun v30 s31 => am_lt ((nI 179) + ((nI 2) * v30)) (fun v32 => am_gd (¬ v32 < 0 ∧ (v32).toNatClampNeg < 328) (am_lt (s31.1 258 (v32).toNatClampNeg) (fun v34 => am_lt (((nI 179) + ((nI 2) * v30)) + (1 : Int32)) (fun v35 => am_gd (¬ v35 < 0 ∧ (v35).toNatClampNeg < 328) (am_lt (s31.1 258 (v35).toNatClampNeg) (fun v37 => am_b2 (f_X12_draw (nI 2) s31) (fun v38 s39 => am_if (v38 = 0) (j_X12_drawsDay_85 (1 : Int32) v3 v4 v34 v37 s39) (j_X12_drawsDay_85 (0 : Int32) v3 v4 v34 v37 s39))))))))))))
def f_X12_drawsDay  (s0 : am_S) : Option (Int32 × am_S) :=
  am_bd (f_X12_dayComes s0) (fun s1 => am_lp (fun (q : Int32 × Int32 × am_S) => b_X12_drawsDay_8 q.1 q.2.1 q.2.2) am_F ((0 : Int32), (0 : Int32), s1))
set_option maxRecDepth 100000 in
set_option maxHeartbeats 4000000 in
theorem t_X12_drawsDay (s0 : am_S) {z : Int32 × am_S} (E : f_X12_drawsDay  s0 = some z) : AS yX12_drawsDay cX12_drawsDay 9 (some .int) 7 [.ref 248] s0 (some (.int z.1)) z.2 := by
  unfold f_X12_drawsDay at E
  refine as_met (lv := [(0, .ref 248)]) (by decide +kernel) (by simp [lg_sl, Value.category]) rfl (fun x C A Z => ?_)
  refine am_iconst 0 (0 : Int32) C dX12_drawsDay_0 (by decide) ?_
  refine am_istore_n 1 (lv2 := [(1, .int (0 : Int32)), (0, .ref 248)]) C dX12_drawsDay_1 rfl (by decide) rfl ?_
  refine am_aload_n 2 C dX12_drawsDay_2 rfl 1 rfl ?_
  obtain ⟨s1, Ec, E⟩ := am_bdE E
  refine as_callV 3 (s2 := s1) (st := []) (st2 := []) [] C A (by decide) ml_X12_387 yc_X12_dayComes yv_X12_dayComes (t_X12_dayComes  s0 Ec) (by decide) sh_248 rfl rfl (Nat.le_of_ble_eq_true rfl) rfl dX12_drawsDay_3 ?_
  refine am_iconst 6 (0 : Int32) C dX12_drawsDay_6 (by decide) ?_
  refine am_istore_n 7 (lv2 := [(2, .int (0 : Int32)), (1, .int (0 : Int32)), (0, .ref 248)]) C dX12_drawsDay_7 rfl (by decide) rfl ?_
  have LP2 : ∀ (n : Nat) (v3 : Int32) (v4 : Int32) (s5 : am_S), am_lp (fun (q : Int32 × Int32 × am_S) => b_X12_drawsDay_8 q.1 q.2.1 q.2.2) n (v3, v4, s5) = some z → AX x 0 0 8 [(0, .ref 248), (1, .int v3), (2, .int v4)] [] am_N (am_h s5) := by
    intro n
    induction n with
    | zero => intro v3 v4 s5 E; exact (am_lp0 E).elim
    | succ n ih2 =>
      intro v3 v4 s5 E
      obtain ⟨r2, E, Er2⟩ := am_lpE E
      replace E : b_X12_drawsDay_8 v3 v4 s5 = some r2 := E
      unfold b_X12_drawsDay_8 at E
      have K111 : ∀ (v6 : Int32) (v7 : Int32) (v8 : Int32) (v9 : Int32) (v10 : Int32) (s11 : am_S), j_X12_drawsDay_111 v6 v7 v8 v9 v10 s11 = some r2 → AX x 0 0 111 [(0, .ref 248), (1, .int v7), (2, .int v8), (4, .int v9), (5, .int v10)] [.int v6] am_N (am_h s11) := by
        intro v6 v7 v8 v9 v10 s11 E
        unfold j_X12_drawsDay_111 at E
        refine am_istore 111 (lv2 := [(7, .int v6), (0, .ref 248), (1, .int v7), (2, .int v8), (4, .int v9), (5, .int v10)]) C dX12_drawsDay_111 (by decide) rfl ?_
        refine am_aload_n 113 C dX12_drawsDay_113 rfl 1 rfl ?_
        refine am_aload_n 114 C dX12_drawsDay_114 rfl 1 rfl ?_
        refine as_getr 115 C fl_X12_39_11 dX12_drawsDay_115 (by decide) sh_248 (rf_248_20 _ _) ?_
        refine am_iconst 118 (0 : Int32) C dX12_drawsDay_118 (by decide) ?_
        refine as_ialdK 119 0 C dX12_drawsDay_119 (by decide) sh_258 (by decide) (by decide) ?_
        obtain ⟨v12, s13, Ec, E⟩ := am_b2E E
        refine as_callV 120 (s2 := s13) (st := []) (st2 := [.int v12]) [.int (s11.1 258 0)] C A (by decide) ml_X12_452 yc_X12_draw yv_X12_draw (t_X12_draw (s11.1 258 0) s11 Ec) (by decide) sh_248 rfl rfl (Nat.le_of_ble_eq_true rfl) rfl dX12_drawsDay_120 ?_
        refine am_istore 123 (lv2 := [(8, .int v12), (7, .int v6), (0, .ref 248), (1, .int v7), (2, .int v8), (4, .int v9), (5, .int v10)]) C dX12_drawsDay_123 (by decide) rfl ?_
        refine am_iload_n 125 C dX12_drawsDay_125 rfl 3 rfl ?_
        refine am_aload_n 126 C dX12_drawsDay_126 rfl 2 rfl ?_
        refine am_iload 127 C dX12_drawsDay_127 1 rfl ?_
        refine am_iload 129 C dX12_drawsDay_129 5 rfl ?_
        refine am_iload 131 C dX12_drawsDay_131 6 rfl ?_
        refine am_iadd 133 C dX12_drawsDay_133 ?_
        refine am_iload 134 C dX12_drawsDay_134 1 rfl ?_
        refine am_isub 136 C dX12_drawsDay_136 ?_
        refine am_iload 137 C dX12_drawsDay_137 0 rfl ?_
        refine am_aload_n 139 C dX12_drawsDay_139 rfl 2 rfl ?_
        refine am_iconst 140 (nI 2) C dX12_drawsDay_140 (by decide) ?_
        obtain ⟨v14, s15, Ec, E⟩ := am_b2E E
        refine as_callV 141 (s2 := s15) (st := [.int v12, .int ((v9 + v10) - v6), .int v6, .ref 248, .int v7]) (st2 := [.int v14, .int v12, .int ((v9 + v10) - v6), .int v6, .ref 248, .int v7]) [.int (nI 2)] C A (by decide) ml_X12_452 yc_X12_draw yv_X12_draw (t_X12_draw (nI 2) s13 Ec) (by decide) sh_248 rfl rfl (Nat.le_of_ble_eq_true rfl) rfl dX12_drawsDay_141 ?_
        refine am_iconst 144 (0 : Int32) C dX12_drawsDay_144 (by decide) ?_
        obtain ⟨v16, s17, Ec, E⟩ := am_b2E E
        refine as_callV 145 (s2 := s17) (st := [.int v7]) (st2 := [.int v16, .int v7]) [.int v6, .int ((v9 + v10) - v6), .int v12, .int v14, .int (0 : Int32)] C A (by decide) ml_X12_377 yc_X12_says yv_X12_says (t_X12_says v6 ((v9 + v10) - v6) v12 v14 (0 : Int32) s15 Ec) (by decide) sh_248 rfl rfl (Nat.le_of_ble_eq_true rfl) rfl dX12_drawsDay_145 ?_
        refine am_iadd 148 C dX12_drawsDay_148 ?_
        obtain ⟨v18, hv18, E⟩ := am_ltE E
        refine as_nm hv18 ?_
        refine am_istore_n 149 (lv2 := [(1, .int v18), (8, .int v12), (7, .int v6), (0, .ref 248), (2, .int v8), (4, .int v9), (5, .int v10)]) C dX12_drawsDay_149 rfl (by decide) rfl ?_
        obtain ⟨v19, hv19, E⟩ := am_ltE E
        refine as_iinc 150 (q := (1 : Int32)) (lv2 := [(2, .int v19), (1, .int v18), (8, .int v12), (7, .int v6), (0, .ref 248), (4, .int v9), (5, .int v10)]) C dX12_drawsDay_150 4 rfl (by decide) hv19 (by decide) rfl ?_
        refine am_goto 153 8 C dX12_drawsDay_153 (by decide) ?_
        replace E := Option.some.inj E
        replace E := am_exL E Er2
        refine am_lvs [4, 1, 0] rfl ?_
        exact ih2 _ _ _ E
      have K85 : ∀ (v20 : Int32) (v21 : Int32) (v22 : Int32) (v23 : Int32) (v24 : Int32) (s25 : am_S), j_X12_drawsDay_85 v20 v21 v22 v23 v24 s25 = some r2 → AX x 0 0 85 [(0, .ref 248), (1, .int v21), (2, .int v22), (4, .int v23), (5, .int v24)] [.int v20] am_N (am_h s25) := by
        intro v20 v21 v22 v23 v24 s25 E
        unfold j_X12_drawsDay_85 at E
        refine am_istore 85 (lv2 := [(6, .int v20), (0, .ref 248), (1, .int v21), (2, .int v22), (4, .int v23), (5, .int v24)]) C dX12_drawsDay_85 (by decide) rfl ?_
        refine am_iload 87 C dX12_drawsDay_87 0 rfl ?_
        refine am_iload 89 C dX12_drawsDay_89 4 rfl ?_
        refine am_iload 91 C dX12_drawsDay_91 5 rfl ?_
        refine am_icmp_ge 93 100 C dX12_drawsDay_93 (by decide) (fun c28 => ?_) (fun c28 => ?_)
        · have E := am_ifT E c28
          refine am_iconst 100 (0 : Int32) C dX12_drawsDay_100 (by decide) ?_
          refine am_icmp_ne 101 109 C dX12_drawsDay_101 (by decide) (fun c26 => ?_) (fun c26 => ?_)
          · have E := am_ifF E c26
            refine am_iload 109 C dX12_drawsDay_109 5 rfl ?_
            refine am_lvs [1, 2, 3, 4, 5] rfl ?_
            exact K111 _ _ _ _ _ _ E
          · have E := am_ifT E c26
            refine am_iload 104 C dX12_drawsDay_104 4 rfl ?_
            refine am_goto 106 111 C dX12_drawsDay_106 (by decide) ?_
            refine am_lvs [1, 2, 3, 4, 5] rfl ?_
            exact K111 _ _ _ _ _ _ E
        · have E := am_ifF E c28
          refine am_iconst 96 (1 : Int32) C dX12_drawsDay_96 (by decide) ?_
          refine am_goto 97 101 C dX12_drawsDay_97 (by decide) ?_
          refine am_icmp_ne 101 109 C dX12_drawsDay_101 (by decide) (fun c27 => ?_) (fun c27 => ?_)
          · have E := am_ifF E c27
            refine am_iload 109 C dX12_drawsDay_109 5 rfl ?_
            refine am_lvs [1, 2, 3, 4, 5] rfl ?_
            exact K111 _ _ _ _ _ _ E
          · have E := am_ifT E c27
            refine am_iload 104 C dX12_drawsDay_104 4 rfl ?_
            refine am_goto 106 111 C dX12_drawsDay_106 (by decide) ?_
            refine am_lvs [1, 2, 3, 4, 5] rfl ?_
            exact K111 _ _ _ _ _ _ E
      refine am_iload_n 8 C dX12_drawsDay_8 rfl 2 rfl ?_
      refine am_bipush 9 (nI 12) C dX12_drawsDay_9 (by decide) ?_
      refine am_icmp_ge 11 156 C dX12_drawsDay_11 (by decide) (fun c42 => ?_) (fun c42 => ?_)
      · have E := am_ifT E c42
        refine am_iload_n 156 C dX12_drawsDay_156 rfl 1 rfl ?_
        replace E := Option.some.inj E
        replace E := am_exR E Er2
        subst E
        exact as_iret 157 C Z rfl dX12_drawsDay_157
      · have E := am_ifF E c42
        refine am_aload_n 14 C dX12_drawsDay_14 rfl 0 rfl ?_
        refine as_getr 15 C fl_X12_39_11 dX12_drawsDay_15 (by decide) sh_248 (rf_248_20 _ _) ?_
        refine am_iconst 18 (nI 3) C dX12_drawsDay_18 (by decide) ?_
        refine as_ialdK 19 3 C dX12_drawsDay_19 (by decide) sh_258 (by decide) (by decide) ?_
        refine am_if_le 20 156 C dX12_drawsDay_20 (by decide) (fun c41 => ?_) (fun c41 => ?_)
        · have E := am_ifT E c41
          refine am_iload_n 156 C dX12_drawsDay_156 rfl 1 rfl ?_
          replace E := Option.some.inj E
          replace E := am_exR E Er2
          subst E
          exact as_iret 157 C Z rfl dX12_drawsDay_157
        · have E := am_ifF E c41
          refine am_aload_n 23 C dX12_drawsDay_23 rfl 0 rfl ?_
          refine as_getr 24 C fl_X12_39_11 dX12_drawsDay_24 (by decide) sh_248 (rf_248_20 _ _) ?_
          refine am_bipush 27 (nI 7) C dX12_drawsDay_27 (by decide) ?_
          refine am_iload_n 29 C dX12_drawsDay_29 rfl 2 rfl ?_
          obtain ⟨s29, hs29, E⟩ := am_ltE E
          refine as_iastK 30 7 C dX12_drawsDay_30 (by decide) sh_258 (by decide) (by decide) hs29 ?_
          refine am_aload_n 31 C dX12_drawsDay_31 rfl 0 rfl ?_
          refine am_aload_n 32 C dX12_drawsDay_32 rfl 0 rfl ?_
          refine as_getr 33 C fl_X12_39_11 dX12_drawsDay_33 (by decide) sh_248 (rf_248_20 _ _) ?_
          refine am_iconst 36 (nI 3) C dX12_drawsDay_36 (by decide) ?_
          refine as_ialdK 37 3 C dX12_drawsDay_37 (by decide) sh_258 (by decide) (by decide) ?_
          obtain ⟨v30, s31, Ec, E⟩ := am_b2E E
          refine as_callV 38 (s2 := s31) (st := []) (st2 := [.int v30]) [.int (s29.1 258 3)] C A (by decide) ml_X12_452 yc_X12_draw yv_X12_draw (t_X12_draw (s29.1 258 3) s29 Ec) (by decide) sh_248 rfl rfl (Nat.le_of_ble_eq_true rfl) rfl dX12_drawsDay_38 ?_
          refine am_istore_n 41 (lv2 := [(3, .int v30), (0, .ref 248), (1, .int v3), (2, .int v4)]) C dX12_drawsDay_41 rfl (by decide) rfl ?_
          refine am_aload_n 42 C dX12_drawsDay_42 rfl 1 rfl ?_
          refine as_getr 43 C fl_X12_39_11 dX12_drawsDay_43 (by decide) sh_248 (rf_248_20 _ _) ?_
          refine am_sipush 46 (nI 179) C dX12_drawsDay_46 (by decide) ?_
          refine am_iconst 49 (nI 2) C dX12_drawsDay_49 (by decide) ?_
          refine am_iload_n 50 C dX12_drawsDay_50 rfl 0 rfl ?_
          refine am_imul 51 C dX12_drawsDay_51 ?_
          refine am_iadd 52 C dX12_drawsDay_52 ?_
          obtain ⟨v32, hv32, E⟩ := am_ltE E
          refine as_nm hv32 ?_
          obtain ⟨g33, E⟩ := am_gdE E
          refine as_iald 53 C dX12_drawsDay_53 (by decide) sh_258 g33 ?_
          obtain ⟨v34, hv34, E⟩ := am_ltE E
          refine as_nm hv34 ?_
          refine am_istore 54 (lv2 := [(4, .int v34), (3, .int v30), (0, .ref 248), (1, .int v3), (2, .int v4)]) C dX12_drawsDay_54 (by decide) rfl ?_
          refine am_aload_n 56 C dX12_drawsDay_56 rfl 2 rfl ?_
          refine as_getr 57 C fl_X12_39_11 dX12_drawsDay_57 (by decide) sh_248 (rf_248_20 _ _) ?_
          refine am_sipush 60 (nI 179) C dX12_drawsDay_60 (by decide) ?_
          refine am_iconst 63 (nI 2) C dX12_drawsDay_63 (by decide) ?_
          refine am_iload_n 64 C dX12_drawsDay_64 rfl 1 rfl ?_
          refine am_imul 65 C dX12_drawsDay_65 ?_
          refine am_iadd 66 C dX12_drawsDay_66 ?_
          refine am_iconst 67 (1 : Int32) C dX12_drawsDay_67 (by decide) ?_
          refine am_iadd 68 C dX12_drawsDay_68 ?_
          obtain ⟨v35, hv35, E⟩ := am_ltE E
          refine as_nm hv35 ?_
          obtain ⟨g36, E⟩ := am_gdE E
          refine as_iald 69 C dX12_drawsDay_69 (by decide) sh_258 g36 ?_
          obtain ⟨v37, hv37, E⟩ := am_ltE E
          refine as_nm hv37 ?_
          refine am_istore 70 (lv2 := [(5, .int v37), (4, .int v34), (3, .int v30), (0, .ref 248), (1, .int v3), (2, .int v4)]) C dX12_drawsDay_70 (by decide) rfl ?_
          refine am_aload_n 72 C dX12_drawsDay_72 rfl 3 rfl ?_
          refine am_iconst 73 (nI 2) C dX12_drawsDay_73 (by decide) ?_
          obtain ⟨v38, s39, Ec, E⟩ := am_b2E E
          refine as_callV 74 (s2 := s39) (st := []) (st2 := [.int v38]) [.int (nI 2)] C A (by decide) ml_X12_452 yc_X12_draw yv_X12_draw (t_X12_draw (nI 2) s31 Ec) (by decide) sh_248 rfl rfl (Nat.le_of_ble_eq_true rfl) rfl dX12_drawsDay_74 ?_
          refine am_if_ne 77 84 C dX12_drawsDay_77 (by decide) (fun c40 => ?_) (fun c40 => ?_)
          · have E := am_ifF E c40
            refine am_iconst 84 (0 : Int32) C dX12_drawsDay_84 (by decide) ?_
            refine am_lvs [3, 4, 5, 1, 0] rfl ?_
            exact K85 _ _ _ _ _ _ E
          · have E := am_ifT E c40
            refine am_iconst 80 (1 : Int32) C dX12_drawsDay_80 (by decide) ?_
            refine am_goto 81 85 C dX12_drawsDay_81 (by decide) ?_
            refine am_lvs [3, 4, 5, 1, 0] rfl ?_
            exact K85 _ _ _ _ _ _ E
  refine am_lvs [2, 1, 0] rfl ?_
  exact LP2 am_F _ _ _ E
def j_X12_years_239 (p3 : Int32) (v4 : Int32) (v5 : Int32) (v6 : Int32) (s7 : am_S) : Option (Int32 × am_S) :=
  am_if (p3 = 0) (some (v4, s7)) (am_if (p3 = (1 : Int32)) (some (v5, s7)) (some (v6, s7)))
def j_X12_years_233 (v20 : Int32) (v21 : Int32) (v22 : Int32) (v23 : Int32) (s24 : am_S) : Option ((Int32 × Int32 × Int32 × Int32 × am_S) ⊕ (Int32 × am_S)) :=
  am_lt (v23 + (1 : Int32)) (fun v25 => some (Sum.inl (v20, v21, v22, v25, s24)))
def b_X12_years_205 (v26 : Int32) (v27 : Int32) (v28 : Int32) (v29 : Int32) (v32 : Int32) (s33 : am_S) : Option ((Int32 × am_S) ⊕ ((Int32 × Int32 × Int32 × Int32 × am_S) ⊕ (Int32 × am_S))) :=
  am_if ((nI 130) ≤ v32) (am_bd (j_X12_years_233 v26 v27 v28 v29 s33) (fun e34 => some (Sum.inr e34))) (am_gd (¬ v32 < 0 ∧ (v32).toNatClampNeg < 130) (am_gd (¬ v32 < 0 ∧ (v32).toNatClampNeg < 328) (am_lt (as_i s33 258 (v32).toNatClampNeg (s33.1 261 (v32).toNatClampNeg)) (fun s37 => am_lt (v32 + (1 : Int32)) (fun v38 => some (Sum.inl (v38, s37)))))))
def j_X12_years_202 (v26 : Int32) (v27 : Int32) (v28 : Int32) (v29 : Int32) (s30 : am_S) : Option ((Int32 × Int32 × Int32 × Int32 × am_S) ⊕ (Int32 × am_S)) :=
  am_lp (fun (q : Int32 × am_S) => b_X12_years_205 v26 v27 v28 v29 q.1 q.2) am_F ((0 : Int32), s30)
def b_X12_years_174 (v40 : Int32) (v41 : Int32) (v43 : Int32) (v46 : Int32) (v47 : Int32) (s48 : am_S) : Option ((Int32 × Int32 × am_S) ⊕ ((Int32 × Int32 × Int32 × Int32 × am_S) ⊕ (Int32 × am_S))) :=
  am_if ((s48.1 258 2) ≤ v47) (am_bd (j_X12_years_202 v40 v41 v46 v43 s48) (fun e49 => some (Sum.inr e49))) (am_b2 (f_X12_harmOf v47 s48) (fun v50 s51 => am_lt (v46 + v50) (fun v52 => am_lt (v47 + (1 : Int32)) (fun v53 => some (Sum.inl (v52, v53, s51))))))
def j_X12_years_171 (v40 : Int32) (v41 : Int32) (v42 : Int32) (v43 : Int32) (s44 : am_S) : Option ((Int32 × Int32 × Int32 × Int32 × am_S) ⊕ (Int32 × am_S)) :=
  am_lp (fun (q : Int32 × Int32 × am_S) => b_X12_years_174 v40 v41 v43 q.1 q.2.1 q.2.2) am_F (v42, (0 : Int32), s44)
def j_X12_years_165 (v61 : Int32) (v62 : Int32) (v63 : Int32) (s64 : am_S) : Option ((Int32 × Int32 × Int32 × am_S) ⊕ ((Int32 × Int32 × Int32 × Int32 × am_S) ⊕ (Int32 × am_S))) :=
  am_lt (v63 + (1 : Int32)) (fun v65 => some (Sum.inl (v61, v62, v65, s64)))
def b_X12_years_124 (s68 : am_S) (v59 : Int32) (v69 : Int32) (v71 : Int32) (v72 : Int32) : Option ((Int32 × Int32) ⊕ ((Int32 × Int32 × Int32 × am_S) ⊕ ((Int32 × Int32 × Int32 × Int32 × am_S) ⊕ (Int32 × am_S)))) :=
  am_if ((s68.1 258 2) ≤ v72) (am_bd (j_X12_years_165 v69 v71 v59 s68) (fun e73 => some (Sum.inr e73))) (am_lt ((nI 123) + v72) (fun v74 => am_gd (¬ v74 < 0 ∧ (v74).toNatClampNeg < 328) (am_if ((s68.1 258 (v74).toNatClampNeg) = (1 : Int32)) (am_lt (v71 + (1 : Int32)) (fun v78 => am_lt (v72 + (1 : Int32)) (fun v79 => some (Sum.inl (v78, v79))))) (am_lt (v71 + (0 : Int32)) (fun v76 => am_lt (v72 + (1 : Int32)) (fun v77 => some (Sum.inl (v76, v77))))))))
def b_X12_years_106 (p2 : Int32) (v17 : Int32) (v18 : Int32) (v57 : Int32) (v58 : Int32) (v59 : Int32) (s60 : am_S) : Option ((Int32 × Int32 × Int32 × am_S) ⊕ ((Int32 × Int32 × Int32 × Int32 × am_S) ⊕ (Int32 × am_S))) :=
  am_if (p2 ≤ v59) (am_bd (j_X12_years_171 v57 v58 v17 v18 s60) (fun e66 => some (Sum.inr e66))) (am_b2 (f_X12_drawsDay s60) (fun v67 s68 => am_lt (v57 + v67) (fun v69 => am_lp (fun (q : Int32 × Int32) => b_X12_years_124 s68 v59 v69 q.1 q.2) am_F (v58, (0 : Int32)))))
def b_X12_years_97 (p1 : Int32) (p2 : Int32) (p3 : Int32) (v15 : Int32) (v16 : Int32) (v17 : Int32) (v18 : Int32) (s19 : am_S) : Option ((Int32 × Int32 × Int32 × Int32 × am_S) ⊕ (Int32 × am_S)) :=
  am_if (p1 ≤ v18) (am_bd (j_X12_years_239 p3 v15 v16 v17 s19) (fun e55 => some (Sum.inr e55))) (am_lp (fun (q : Int32 × Int32 × Int32 × am_S) => b_X12_years_106 p2 v17 v18 q.1 q.2.1 q.2.2.1 q.2.2.2) am_F (v15, v16, (0 : Int32), s19))
def j_X12_years_94 (p1 : Int32) (p2 : Int32) (p3 : Int32) (v10 : Int32) (v11 : Int32) (v12 : Int32) (s13 : am_S) : Option (Int32 × am_S) :=
  am_lp (fun (q : Int32 × Int32 × Int32 × Int32 × am_S) => b_X12_years_97 p1 p2 p3 q.1 q.2.1 q.2.2.1 q.2.2.2.1 q.2.2.2.2) am_F (v10, v11, v12, (0 : Int32), s13)
def b_X12_years_66 (p1 : Int32) (p2 : Int32) (p3 : Int32) (v90 : Int32) (s91 : am_S) : Option ((Int32 × am_S) ⊕ (Int32 × am_S)) :=
  am_if ((nI 130) ≤ v90) (am_bd (j_X12_years_94 p1 p2 p3 (0 : Int32) (0 : Int32) (0 : Int32) s91) (fun e92 => some (Sum.inr e92))) (am_gd (¬ v90 < 0 ∧ (v90).toNatClampNeg < 328) (am_gd (¬ v90 < 0 ∧ (v90).toNatClampNeg < 130) (am_lt (as_i s91 261 (v90).toNatClampNeg (s91.1 258 (v90).toNatClampNeg)) (fun s95 => am_lt (v90 + (1 : Int32)) (fun v96 => some (Sum.inl (v96, s95)))))))
def f_X12_years (p1 : Int32) (p2 : Int32) (p3 : Int32) (s0 : am_S) : Option (Int32 × am_S) :=
  am_bd (f_X12_isTown s0) (fun v84 => am_if (v84 = 0) (some ((-1 : Int32), s0)) (am_bd (f_X12_in (p1).toInt64 (1 : Int64) (10 : Int64)) (fun v85 => am_if (v85 = 0) (some ((-1 : Int32), s0)) (am_bd (f_X12_in (p2).toInt64 (1 : Int64) (20 : Int64)) (fun v86 => am_if (v86 = 0) (some ((-1 : Int32), s0)) (am_bd (f_X12_in (p3).toInt64 (0 : Int64) (2 : Int64)) (fun v87 => am_if (v87 = 0) (some ((-1 : Int32), s0)) (am_lt (as_j s0 248 27 ((s0.1 248 22)).toInt64) (fun s88 => am_lp (fun (q : Int32 × am_S) => b_X12_years_66 p1 p2 p3 q.1 q.2) am_F ((0 : Int32), s88))))))))))
set_option maxRecDepth 100000 in
set_option maxHeartbeats 4000000 in
theorem t_X12_years (p1 : Int32) (p2 : Int32) (p3 : Int32) (s0 : am_S) {z : Int32 × am_S} (E : f_X12_years p1 p2 p3 s0 = some z) : AS yX12_years cX12_years 10 (some .int) 8 [.ref 248, .int p1, .int p2, .int p3] s0 (some (.int z.1)) z.2 := by
  unfold f_X12_years at E
  refine as_met (lv := [(0, .ref 248), (1, .int p1), (2, .int p2), (3, .int p3)]) (by decide +kernel) (by simp [lg_sl, Value.category]) rfl (fun x C A Z => ?_)
  have K239 : ∀ (v4 : Int32) (v5 : Int32) (v6 : Int32) (s7 : am_S), j_X12_years_239 p3 v4 v5 v6 s7 = some z → AX x 0 0 239 [(0, .ref 248), (3, .int p3), (4, .int v4), (5, .int v5), (6, .int v6)] [] am_N (am_h s7) := by
    intro v4 v5 v6 s7 E
    unfold j_X12_years_239 at E
    refine am_iload_n 239 C dX12_years_239 rfl 1 rfl ?_
    refine am_if_ne 240 248 C dX12_years_240 (by decide) (fun c9 => ?_) (fun c9 => ?_)
    · have E := am_ifF E c9
      refine am_iload_n 248 C dX12_years_248 rfl 1 rfl ?_
      refine am_iconst 249 (1 : Int32) C dX12_years_249 (by decide) ?_
      refine am_icmp_ne 250 258 C dX12_years_250 (by decide) (fun c8 => ?_) (fun c8 => ?_)
      · have E := am_ifF E c8
        refine am_iload 258 C dX12_years_258 4 rfl ?_
        replace E := Option.some.inj E
        subst E
        exact as_iret 260 C Z rfl dX12_years_260
      · have E := am_ifT E c8
        refine am_iload 253 C dX12_years_253 3 rfl ?_
        refine am_goto 255 260 C dX12_years_255 (by decide) ?_
        replace E := Option.some.inj E
        subst E
        exact as_iret 260 C Z rfl dX12_years_260
    · have E := am_ifT E c9
      refine am_iload 243 C dX12_years_243 2 rfl ?_
      refine am_goto 245 260 C dX12_years_245 (by decide) ?_
      replace E := Option.some.inj E
      subst E
      exact as_iret 260 C Z rfl dX12_years_260
  have K94 : ∀ (v10 : Int32) (v11 : Int32) (v12 : Int32) (s13 : am_S), j_X12_years_94 p1 p2 p3 v10 v11 v12 s13 = some z → AX x 0 0 94 [(0, .ref 248), (1, .int p1), (2, .int p2), (3, .int p3), (4, .int v10), (5, .int v11), (6, .int v12)] [] am_N (am_h s13) := by
    intro v10 v11 v12 s13 E
    unfold j_X12_years_94 at E
    refine am_iconst 94 (0 : Int32) C dX12_years_94 (by decide) ?_
    refine am_istore 95 (lv2 := [(7, .int (0 : Int32)), (0, .ref 248), (1, .int p1), (2, .int p2), (3, .int p3), (4, .int v10), (5, .int v11), (6, .int v12)]) C dX12_years_95 (by decide) rfl ?_
    have LP14 : ∀ (n : Nat) (v15 : Int32) (v16 : Int32) (v17 : Int32) (v18 : Int32) (s19 : am_S), am_lp (fun (q : Int32 × Int32 × Int32 × Int32 × am_S) => b_X12_years_97 p1 p2 p3 q.1 q.2.1 q.2.2.1 q.2.2.2.1 q.2.2.2.2) n (v15, v16, v17, v18, s19) = some z → AX x 0 0 97 [(0, .ref 248), (1, .int p1), (2, .int p2), (3, .int p3), (4, .int v15), (5, .int v16), (6, .int v17), (7, .int v18)] [] am_N (am_h s19) := by
      intro n
      induction n with
      | zero => intro v15 v16 v17 v18 s19 E; exact (am_lp0 E).elim
      | succ n ih14 =>
        intro v15 v16 v17 v18 s19 E
        obtain ⟨r14, E, Er14⟩ := am_lpE E
        replace E : b_X12_years_97 p1 p2 p3 v15 v16 v17 v18 s19 = some r14 := E
        unfold b_X12_years_97 at E
        have K233 : ∀ (v20 : Int32) (v21 : Int32) (v22 : Int32) (v23 : Int32) (s24 : am_S), j_X12_years_233 v20 v21 v22 v23 s24 = some r14 → AX x 0 0 233 [(0, .ref 248), (1, .int p1), (2, .int p2), (3, .int p3), (4, .int v20), (5, .int v21), (6, .int v22), (7, .int v23)] [] am_N (am_h s24) := by
          intro v20 v21 v22 v23 s24 E
          unfold j_X12_years_233 at E
          obtain ⟨v25, hv25, E⟩ := am_ltE E
          refine as_iinc 233 (q := (1 : Int32)) (lv2 := [(7, .int v25), (0, .ref 248), (1, .int p1), (2, .int p2), (3, .int p3), (4, .int v20), (5, .int v21), (6, .int v22)]) C dX12_years_233 7 rfl (by decide) hv25 (by decide) rfl ?_
          refine am_goto 236 97 C dX12_years_236 (by decide) ?_
          replace E := Option.some.inj E
          replace E := am_exL E Er14
          refine am_lvs [1, 2, 3, 4, 5, 6, 7, 0] rfl ?_
          exact ih14 _ _ _ _ _ E
        have K202 : ∀ (v26 : Int32) (v27 : Int32) (v28 : Int32) (v29 : Int32) (s30 : am_S), j_X12_years_202 v26 v27 v28 v29 s30 = some r14 → AX x 0 0 202 [(0, .ref 248), (1, .int p1), (2, .int p2), (3, .int p3), (4, .int v26), (5, .int v27), (6, .int v28), (7, .int v29)] [] am_N (am_h s30) := by
          intro v26 v27 v28 v29 s30 E
          unfold j_X12_years_202 at E
          refine am_iconst 202 (0 : Int32) C dX12_years_202 (by decide) ?_
          refine am_istore 203 (lv2 := [(8, .int (0 : Int32)), (0, .ref 248), (1, .int p1), (2, .int p2), (3, .int p3), (4, .int v26), (5, .int v27), (6, .int v28), (7, .int v29)]) C dX12_years_203 (by decide) rfl ?_
          have LP31 : ∀ (n : Nat) (v32 : Int32) (s33 : am_S), am_lp (fun (q : Int32 × am_S) => b_X12_years_205 v26 v27 v28 v29 q.1 q.2) n (v32, s33) = some r14 → AX x 0 0 205 [(0, .ref 248), (1, .int p1), (2, .int p2), (3, .int p3), (4, .int v26), (5, .int v27), (6, .int v28), (7, .int v29), (8, .int v32)] [] am_N (am_h s33) := by
            intro n
            induction n with
            | zero => intro v32 s33 E; exact (am_lp0 E).elim
            | succ n ih31 =>
              intro v32 s33 E
              obtain ⟨r31, E, Er31⟩ := am_lpE E
              replace E : b_X12_years_205 v26 v27 v28 v29 v32 s33 = some r31 := E
              unfold b_X12_years_205 at E
              refine am_iload 205 C dX12_years_205 8 rfl ?_
              refine am_sipush 207 (nI 130) C dX12_years_207 (by decide) ?_
              refine am_icmp_ge 210 233 C dX12_years_210 (by decide) (fun c39 => ?_) (fun c39 => ?_)
              · have E := am_ifT E c39
                obtain ⟨e34, E, E2⟩ := am_bdE E
                replace E2 := Option.some.inj E2
                replace E2 := am_exR E2 Er31
                rw [E2] at E
                refine am_lvs [0, 1, 2, 3, 4, 5, 6, 7] rfl ?_
                exact K233 _ _ _ _ _ E
              · have E := am_ifF E c39
                refine am_aload_n 213 C dX12_years_213 rfl 0 rfl ?_
                refine as_getr 214 C fl_X12_39_11 dX12_years_214 (by decide) sh_248 (rf_248_20 _ _) ?_
                refine am_iload 217 C dX12_years_217 8 rfl ?_
                refine am_aload_n 219 C dX12_years_219 rfl 0 rfl ?_
                refine as_getr 220 C fl_X12_52_11 dX12_years_220 (by decide) sh_248 (rf_248_26 _ _) ?_
                refine am_iload 223 C dX12_years_223 8 rfl ?_
                obtain ⟨g35, E⟩ := am_gdE E
                refine as_iald 225 C dX12_years_225 (by decide) sh_261 g35 ?_
                obtain ⟨g36, E⟩ := am_gdE E
                obtain ⟨s37, hs37, E⟩ := am_ltE E
                refine as_iast 226 C dX12_years_226 (by decide) sh_258 g36 hs37 ?_
                obtain ⟨v38, hv38, E⟩ := am_ltE E
                refine as_iinc 227 (q := (1 : Int32)) (lv2 := [(8, .int v38), (0, .ref 248), (1, .int p1), (2, .int p2), (3, .int p3), (4, .int v26), (5, .int v27), (6, .int v28), (7, .int v29)]) C dX12_years_227 8 rfl (by decide) hv38 (by decide) rfl ?_
                refine am_goto 230 205 C dX12_years_230 (by decide) ?_
                replace E := Option.some.inj E
                replace E := am_exL E Er31
                refine am_lvs [1, 2, 3, 4, 5, 6, 7, 8, 0] rfl ?_
                exact ih31 _ _ E
          refine am_lvs [1, 2, 3, 4, 5, 6, 7, 8, 0] rfl ?_
          exact LP31 am_F _ _ E
        have K171 : ∀ (v40 : Int32) (v41 : Int32) (v42 : Int32) (v43 : Int32) (s44 : am_S), j_X12_years_171 v40 v41 v42 v43 s44 = some r14 → AX x 0 0 171 [(0, .ref 248), (1, .int p1), (2, .int p2), (3, .int p3), (4, .int v40), (5, .int v41), (6, .int v42), (7, .int v43)] [] am_N (am_h s44) := by
          intro v40 v41 v42 v43 s44 E
          unfold j_X12_years_171 at E
          refine am_iconst 171 (0 : Int32) C dX12_years_171 (by decide) ?_
          refine am_istore 172 (lv2 := [(8, .int (0 : Int32)), (0, .ref 248), (1, .int p1), (2, .int p2), (3, .int p3), (4, .int v40), (5, .int v41), (6, .int v42), (7, .int v43)]) C dX12_years_172 (by decide) rfl ?_
          have LP45 : ∀ (n : Nat) (v46 : Int32) (v47 : Int32) (s48 : am_S), am_lp (fun (q : Int32 × Int32 × am_S) => b_X12_years_174 v40 v41 v43 q.1 q.2.1 q.2.2) n (v46, v47, s48) = some r14 → AX x 0 0 174 [(0, .ref 248), (1, .int p1), (2, .int p2), (3, .int p3), (4, .int v40), (5, .int v41), (6, .int v46), (7, .int v43), (8, .int v47)] [] am_N (am_h s48) := by
            intro n
            induction n with
            | zero => intro v46 v47 s48 E; exact (am_lp0 E).elim
            | succ n ih45 =>
              intro v46 v47 s48 E
              obtain ⟨r45, E, Er45⟩ := am_lpE E
              replace E : b_X12_years_174 v40 v41 v43 v46 v47 s48 = some r45 := E
              unfold b_X12_years_174 at E
              refine am_iload 174 C dX12_years_174 8 rfl ?_
              refine am_aload_n 176 C dX12_years_176 rfl 0 rfl ?_
              refine as_getr 177 C fl_X12_39_11 dX12_years_177 (by decide) sh_248 (rf_248_20 _ _) ?_
              refine am_iconst 180 (nI 2) C dX12_years_180 (by decide) ?_
              refine as_ialdK 181 2 C dX12_years_181 (by decide) sh_258 (by decide) (by decide) ?_
              refine am_icmp_ge 182 202 C dX12_years_182 (by decide) (fun c54 => ?_) (fun c54 => ?_)
              · have E := am_ifT E c54
                obtain ⟨e49, E, E2⟩ := am_bdE E
                replace E2 := Option.some.inj E2
                replace E2 := am_exR E2 Er45
                rw [E2] at E
                refine am_lvs [0, 1, 2, 3, 4, 5, 6, 7] rfl ?_
                exact K202 _ _ _ _ _ E
              · have E := am_ifF E c54
                refine am_iload 185 C dX12_years_185 6 rfl ?_
                refine am_aload_n 187 C dX12_years_187 rfl 0 rfl ?_
                refine am_iload 188 C dX12_years_188 8 rfl ?_
                obtain ⟨v50, s51, Ec, E⟩ := am_b2E E
                refine as_callV 190 (s2 := s51) (st := [.int v46]) (st2 := [.int v50, .int v46]) [.int v47] C A (by decide) ml_X12_405 yc_X12_harmOf yv_X12_harmOf (t_X12_harmOf v47 s48 Ec) (by decide) sh_248 rfl rfl (Nat.le_of_ble_eq_true rfl) rfl dX12_years_190 ?_
                refine am_iadd 193 C dX12_years_193 ?_
                obtain ⟨v52, hv52, E⟩ := am_ltE E
                refine as_nm hv52 ?_
                refine am_istore 194 (lv2 := [(6, .int v52), (0, .ref 248), (1, .int p1), (2, .int p2), (3, .int p3), (4, .int v40), (5, .int v41), (7, .int v43), (8, .int v47)]) C dX12_years_194 (by decide) rfl ?_
                obtain ⟨v53, hv53, E⟩ := am_ltE E
                refine as_iinc 196 (q := (1 : Int32)) (lv2 := [(8, .int v53), (6, .int v52), (0, .ref 248), (1, .int p1), (2, .int p2), (3, .int p3), (4, .int v40), (5, .int v41), (7, .int v43)]) C dX12_years_196 8 rfl (by decide) hv53 (by decide) rfl ?_
                refine am_goto 199 174 C dX12_years_199 (by decide) ?_
                replace E := Option.some.inj E
                replace E := am_exL E Er45
                refine am_lvs [2, 3, 4, 5, 6, 7, 1, 8, 0] rfl ?_
                exact ih45 _ _ _ E
          refine am_lvs [1, 2, 3, 4, 5, 6, 7, 8, 0] rfl ?_
          exact LP45 am_F _ _ _ E
        refine am_iload 97 C dX12_years_97 7 rfl ?_
        refine am_iload_n 99 C dX12_years_99 rfl 1 rfl ?_
        refine am_icmp_ge 100 239 C dX12_years_100 (by decide) (fun c83 => ?_) (fun c83 => ?_)
        · have E := am_ifT E c83
          obtain ⟨e55, E, E2⟩ := am_bdE E
          replace E2 := Option.some.inj E2
          replace E2 := am_exR E2 Er14
          rw [E2] at E
          refine am_lvs [0, 3, 4, 5, 6] rfl ?_
          exact K239 _ _ _ _ E
        · have E := am_ifF E c83
          refine am_iconst 103 (0 : Int32) C dX12_years_103 (by decide) ?_
          refine am_istore 104 (lv2 := [(8, .int (0 : Int32)), (0, .ref 248), (1, .int p1), (2, .int p2), (3, .int p3), (4, .int v15), (5, .int v16), (6, .int v17), (7, .int v18)]) C dX12_years_104 (by decide) rfl ?_
          have LP56 : ∀ (n : Nat) (v57 : Int32) (v58 : Int32) (v59 : Int32) (s60 : am_S), am_lp (fun (q : Int32 × Int32 × Int32 × am_S) => b_X12_years_106 p2 v17 v18 q.1 q.2.1 q.2.2.1 q.2.2.2) n (v57, v58, v59, s60) = some r14 → AX x 0 0 106 [(0, .ref 248), (1, .int p1), (2, .int p2), (3, .int p3), (4, .int v57), (5, .int v58), (6, .int v17), (7, .int v18), (8, .int v59)] [] am_N (am_h s60) := by
            intro n
            induction n with
            | zero => intro v57 v58 v59 s60 E; exact (am_lp0 E).elim
            | succ n ih56 =>
              intro v57 v58 v59 s60 E
              obtain ⟨r56, E, Er56⟩ := am_lpE E
              replace E : b_X12_years_106 p2 v17 v18 v57 v58 v59 s60 = some r56 := E
              unfold b_X12_years_106 at E
              have K165 : ∀ (v61 : Int32) (v62 : Int32) (v63 : Int32) (s64 : am_S), j_X12_years_165 v61 v62 v63 s64 = some r56 → AX x 0 0 165 [(0, .ref 248), (1, .int p1), (2, .int p2), (3, .int p3), (4, .int v61), (5, .int v62), (6, .int v17), (7, .int v18), (8, .int v63)] [] am_N (am_h s64) := by
                intro v61 v62 v63 s64 E
                unfold j_X12_years_165 at E
                obtain ⟨v65, hv65, E⟩ := am_ltE E
                refine as_iinc 165 (q := (1 : Int32)) (lv2 := [(8, .int v65), (0, .ref 248), (1, .int p1), (2, .int p2), (3, .int p3), (4, .int v61), (5, .int v62), (6, .int v17), (7, .int v18)]) C dX12_years_165 8 rfl (by decide) hv65 (by decide) rfl ?_
                refine am_goto 168 106 C dX12_years_168 (by decide) ?_
                replace E := Option.some.inj E
                replace E := am_exL E Er56
                refine am_lvs [1, 2, 3, 4, 5, 6, 7, 8, 0] rfl ?_
                exact ih56 _ _ _ _ E
              refine am_iload 106 C dX12_years_106 8 rfl ?_
              refine am_iload_n 108 C dX12_years_108 rfl 2 rfl ?_
              refine am_icmp_ge 109 171 C dX12_years_109 (by decide) (fun c82 => ?_) (fun c82 => ?_)
              · have E := am_ifT E c82
                obtain ⟨e66, E, E2⟩ := am_bdE E
                replace E2 := Option.some.inj E2
                replace E2 := am_exR E2 Er56
                rw [E2] at E
                refine am_lvs [0, 1, 2, 3, 4, 5, 6, 7] rfl ?_
                exact K171 _ _ _ _ _ E
              · have E := am_ifF E c82
                refine am_iload 112 C dX12_years_112 4 rfl ?_
                refine am_aload_n 114 C dX12_years_114 rfl 0 rfl ?_
                obtain ⟨v67, s68, Ec, E⟩ := am_b2E E
                refine as_callV 115 (s2 := s68) (st := [.int v57]) (st2 := [.int v67, .int v57]) [] C A (by decide) ml_X12_457 yc_X12_drawsDay yv_X12_drawsDay (t_X12_drawsDay  s60 Ec) (by decide) sh_248 rfl rfl (Nat.le_of_ble_eq_true rfl) rfl dX12_years_115 ?_
                refine am_iadd 118 C dX12_years_118 ?_
                obtain ⟨v69, hv69, E⟩ := am_ltE E
                refine as_nm hv69 ?_
                refine am_istore 119 (lv2 := [(4, .int v69), (0, .ref 248), (1, .int p1), (2, .int p2), (3, .int p3), (5, .int v58), (6, .int v17), (7, .int v18), (8, .int v59)]) C dX12_years_119 (by decide) rfl ?_
                refine am_iconst 121 (0 : Int32) C dX12_years_121 (by decide) ?_
                refine am_istore 122 (lv2 := [(9, .int (0 : Int32)), (4, .int v69), (0, .ref 248), (1, .int p1), (2, .int p2), (3, .int p3), (5, .int v58), (6, .int v17), (7, .int v18), (8, .int v59)]) C dX12_years_122 (by decide) rfl ?_
                have LP70 : ∀ (n : Nat) (v71 : Int32) (v72 : Int32), am_lp (fun (q : Int32 × Int32) => b_X12_years_124 s68 v59 v69 q.1 q.2) n (v71, v72) = some r56 → AX x 0 0 124 [(0, .ref 248), (1, .int p1), (2, .int p2), (3, .int p3), (4, .int v69), (5, .int v71), (6, .int v17), (7, .int v18), (8, .int v59), (9, .int v72)] [] am_N (am_h s68) := by
                  intro n
                  induction n with
                  | zero => intro v71 v72 E; exact (am_lp0 E).elim
                  | succ n ih70 =>
                    intro v71 v72 E
                    obtain ⟨r70, E, Er70⟩ := am_lpE E
                    replace E : b_X12_years_124 s68 v59 v69 v71 v72 = some r70 := E
                    unfold b_X12_years_124 at E
                    refine am_iload 124 C dX12_years_124 9 rfl ?_
                    refine am_aload_n 126 C dX12_years_126 rfl 0 rfl ?_
                    refine as_getr 127 C fl_X12_39_11 dX12_years_127 (by decide) sh_248 (rf_248_20 _ _) ?_
                    refine am_iconst 130 (nI 2) C dX12_years_130 (by decide) ?_
                    refine as_ialdK 131 2 C dX12_years_131 (by decide) sh_258 (by decide) (by decide) ?_
                    refine am_icmp_ge 132 165 C dX12_years_132 (by decide) (fun c81 => ?_) (fun c81 => ?_)
                    · have E := am_ifT E c81
                      obtain ⟨e73, E, E2⟩ := am_bdE E
                      replace E2 := Option.some.inj E2
                      replace E2 := am_exR E2 Er70
                      rw [E2] at E
                      refine am_lvs [0, 1, 2, 3, 4, 5, 6, 7, 8] rfl ?_
                      exact K165 _ _ _ _ E
                    · have E := am_ifF E c81
                      refine am_iload 135 C dX12_years_135 5 rfl ?_
                      refine am_aload_n 137 C dX12_years_137 rfl 0 rfl ?_
                      refine as_getr 138 C fl_X12_39_11 dX12_years_138 (by decide) sh_248 (rf_248_20 _ _) ?_
                      refine am_bipush 141 (nI 123) C dX12_years_141 (by decide) ?_
                      refine am_iload 143 C dX12_years_143 9 rfl ?_
                      refine am_iadd 145 C dX12_years_145 ?_
                      obtain ⟨v74, hv74, E⟩ := am_ltE E
                      refine as_nm hv74 ?_
                      obtain ⟨g75, E⟩ := am_gdE E
                      refine as_iald 146 C dX12_years_146 (by decide) sh_258 g75 ?_
                      refine am_iconst 147 (1 : Int32) C dX12_years_147 (by decide) ?_
                      refine am_icmp_ne 148 155 C dX12_years_148 (by decide) (fun c80 => ?_) (fun c80 => ?_)
                      · have E := am_ifF E c80
                        refine am_iconst 155 (0 : Int32) C dX12_years_155 (by decide) ?_
                        refine am_iadd 156 C dX12_years_156 ?_
                        obtain ⟨v76, hv76, E⟩ := am_ltE E
                        refine as_nm hv76 ?_
                        refine am_istore 157 (lv2 := [(5, .int v76), (0, .ref 248), (1, .int p1), (2, .int p2), (3, .int p3), (4, .int v69), (6, .int v17), (7, .int v18), (8, .int v59), (9, .int v72)]) C dX12_years_157 (by decide) rfl ?_
                        obtain ⟨v77, hv77, E⟩ := am_ltE E
                        refine as_iinc 159 (q := (1 : Int32)) (lv2 := [(9, .int v77), (5, .int v76), (0, .ref 248), (1, .int p1), (2, .int p2), (3, .int p3), (4, .int v69), (6, .int v17), (7, .int v18), (8, .int v59)]) C dX12_years_159 9 rfl (by decide) hv77 (by decide) rfl ?_
                        refine am_goto 162 124 C dX12_years_162 (by decide) ?_
                        replace E := Option.some.inj E
                        replace E := am_exL E Er70
                        refine am_lvs [2, 3, 4, 5, 6, 1, 7, 8, 9, 0] rfl ?_
                        exact ih70 _ _ E
                      · have E := am_ifT E c80
                        refine am_iconst 151 (1 : Int32) C dX12_years_151 (by decide) ?_
                        refine am_goto 152 156 C dX12_years_152 (by decide) ?_
                        refine am_iadd 156 C dX12_years_156 ?_
                        obtain ⟨v78, hv78, E⟩ := am_ltE E
                        refine as_nm hv78 ?_
                        refine am_istore 157 (lv2 := [(5, .int v78), (0, .ref 248), (1, .int p1), (2, .int p2), (3, .int p3), (4, .int v69), (6, .int v17), (7, .int v18), (8, .int v59), (9, .int v72)]) C dX12_years_157 (by decide) rfl ?_
                        obtain ⟨v79, hv79, E⟩ := am_ltE E
                        refine as_iinc 159 (q := (1 : Int32)) (lv2 := [(9, .int v79), (5, .int v78), (0, .ref 248), (1, .int p1), (2, .int p2), (3, .int p3), (4, .int v69), (6, .int v17), (7, .int v18), (8, .int v59)]) C dX12_years_159 9 rfl (by decide) hv79 (by decide) rfl ?_
                        refine am_goto 162 124 C dX12_years_162 (by decide) ?_
                        replace E := Option.some.inj E
                        replace E := am_exL E Er70
                        refine am_lvs [2, 3, 4, 5, 6, 1, 7, 8, 9, 0] rfl ?_
                        exact ih70 _ _ E
                refine am_lvs [2, 3, 4, 5, 1, 6, 7, 8, 9, 0] rfl ?_
                exact LP70 am_F _ _ E
          refine am_lvs [1, 2, 3, 4, 5, 6, 7, 8, 0] rfl ?_
          exact LP56 am_F _ _ _ _ E
    refine am_lvs [1, 2, 3, 4, 5, 6, 7, 0] rfl ?_
    exact LP14 am_F _ _ _ _ _ E
  refine am_aload_n 0 C dX12_years_0 rfl 0 rfl ?_
  obtain ⟨v84, Ec, E⟩ := am_bdE E
  refine as_callV 1 (s2 := s0) (st := []) (st2 := [.int v84]) [] C A (by decide) ml_X12_384 yc_X12_isTown yv_X12_isTown (t_X12_isTown  s0 Ec) (by decide) sh_248 rfl rfl (Nat.le_of_ble_eq_true rfl) rfl dX12_years_1 ?_
  refine am_if_eq 4 43 C dX12_years_4 (by decide) (fun c101 => ?_) (fun c101 => ?_)
  · have E := am_ifT E c101
    refine am_iconst 43 (-1 : Int32) C dX12_years_43 (by decide) ?_
    replace E := Option.some.inj E
    subst E
    exact as_iret 44 C Z rfl dX12_years_44
  · have E := am_ifF E c101
    refine am_iload_n 7 C dX12_years_7 rfl 1 rfl ?_
    refine am_i2l 8 C dX12_years_8 ?_
    refine am_lconst 9 (1 : Int64) C dX12_years_9 (by decide) ?_
    refine am_ldc2 10 C dX12_years_10 kl_X12_432 ?_
    obtain ⟨v85, Ec, E⟩ := am_bdE E
    refine as_callS 13 (s2 := s0) (st := []) (st2 := [.int v85]) [.long (p1).toInt64, .long (1 : Int64), .long (10 : Int64)] C A (by decide) ml_X12_106 yc_X12_in ys_X12_in (t_X12_in (p1).toInt64 (1 : Int64) (10 : Int64) s0 Ec) rfl rfl (Nat.le_of_ble_eq_true rfl) rfl dX12_years_13 ?_
    refine am_if_eq 16 43 C dX12_years_16 (by decide) (fun c100 => ?_) (fun c100 => ?_)
    · have E := am_ifT E c100
      refine am_iconst 43 (-1 : Int32) C dX12_years_43 (by decide) ?_
      replace E := Option.some.inj E
      subst E
      exact as_iret 44 C Z rfl dX12_years_44
    · have E := am_ifF E c100
      refine am_iload_n 19 C dX12_years_19 rfl 2 rfl ?_
      refine am_i2l 20 C dX12_years_20 ?_
      refine am_lconst 21 (1 : Int64) C dX12_years_21 (by decide) ?_
      refine am_ldc2 22 C dX12_years_22 kl_X12_455 ?_
      obtain ⟨v86, Ec, E⟩ := am_bdE E
      refine as_callS 25 (s2 := s0) (st := []) (st2 := [.int v86]) [.long (p2).toInt64, .long (1 : Int64), .long (20 : Int64)] C A (by decide) ml_X12_106 yc_X12_in ys_X12_in (t_X12_in (p2).toInt64 (1 : Int64) (20 : Int64) s0 Ec) rfl rfl (Nat.le_of_ble_eq_true rfl) rfl dX12_years_25 ?_
      refine am_if_eq 28 43 C dX12_years_28 (by decide) (fun c99 => ?_) (fun c99 => ?_)
      · have E := am_ifT E c99
        refine am_iconst 43 (-1 : Int32) C dX12_years_43 (by decide) ?_
        replace E := Option.some.inj E
        subst E
        exact as_iret 44 C Z rfl dX12_years_44
      · have E := am_ifF E c99
        refine am_iload_n 31 C dX12_years_31 rfl 3 rfl ?_
        refine am_i2l 32 C dX12_years_32 ?_
        refine am_lconst 33 (0 : Int64) C dX12_years_33 (by decide) ?_
        refine am_ldc2 34 C dX12_years_34 kl_X12_323 ?_
        obtain ⟨v87, Ec, E⟩ := am_bdE E
        refine as_callS 37 (s2 := s0) (st := []) (st2 := [.int v87]) [.long (p3).toInt64, .long (0 : Int64), .long (2 : Int64)] C A (by decide) ml_X12_106 yc_X12_in ys_X12_in (t_X12_in (p3).toInt64 (0 : Int64) (2 : Int64) s0 Ec) rfl rfl (Nat.le_of_ble_eq_true rfl) rfl dX12_years_37 ?_
        refine am_if_ne 40 45 C dX12_years_40 (by decide) (fun c98 => ?_) (fun c98 => ?_)
        · have E := am_ifF E c98
          refine am_aload_n 45 C dX12_years_45 rfl 0 rfl ?_
          refine am_aload_n 46 C dX12_years_46 rfl 0 rfl ?_
          refine as_geti 47 C fl_X12_437_11 dX12_years_47 (by decide) sh_248 ?_
          refine am_i2l 50 C dX12_years_50 ?_
          obtain ⟨s88, hs88, E⟩ := am_ltE E
          refine as_putl 51 C fl_X12_440_11 dX12_years_51 (by decide) sh_248 hs88 ?_
          refine am_iconst 54 (0 : Int32) C dX12_years_54 (by decide) ?_
          refine am_istore 55 (lv2 := [(4, .int (0 : Int32)), (0, .ref 248), (1, .int p1), (2, .int p2), (3, .int p3)]) C dX12_years_55 (by decide) rfl ?_
          refine am_iconst 57 (0 : Int32) C dX12_years_57 (by decide) ?_
          refine am_istore 58 (lv2 := [(5, .int (0 : Int32)), (4, .int (0 : Int32)), (0, .ref 248), (1, .int p1), (2, .int p2), (3, .int p3)]) C dX12_years_58 (by decide) rfl ?_
          refine am_iconst 60 (0 : Int32) C dX12_years_60 (by decide) ?_
          refine am_istore 61 (lv2 := [(6, .int (0 : Int32)), (5, .int (0 : Int32)), (4, .int (0 : Int32)), (0, .ref 248), (1, .int p1), (2, .int p2), (3, .int p3)]) C dX12_years_61 (by decide) rfl ?_
          refine am_iconst 63 (0 : Int32) C dX12_years_63 (by decide) ?_
          refine am_istore 64 (lv2 := [(7, .int (0 : Int32)), (6, .int (0 : Int32)), (5, .int (0 : Int32)), (4, .int (0 : Int32)), (0, .ref 248), (1, .int p1), (2, .int p2), (3, .int p3)]) C dX12_years_64 (by decide) rfl ?_
          have LP89 : ∀ (n : Nat) (v90 : Int32) (s91 : am_S), am_lp (fun (q : Int32 × am_S) => b_X12_years_66 p1 p2 p3 q.1 q.2) n (v90, s91) = some z → AX x 0 0 66 [(0, .ref 248), (1, .int p1), (2, .int p2), (3, .int p3), (4, .int (0 : Int32)), (5, .int (0 : Int32)), (6, .int (0 : Int32)), (7, .int v90)] [] am_N (am_h s91) := by
            intro n
            induction n with
            | zero => intro v90 s91 E; exact (am_lp0 E).elim
            | succ n ih89 =>
              intro v90 s91 E
              obtain ⟨r89, E, Er89⟩ := am_lpE E
              replace E : b_X12_years_66 p1 p2 p3 v90 s91 = some r89 := E
              unfold b_X12_years_66 at E
              refine am_iload 66 C dX12_years_66 7 rfl ?_
              refine am_sipush 68 (nI 130) C dX12_years_68 (by decide) ?_
              refine am_icmp_ge 71 94 C dX12_years_71 (by decide) (fun c97 => ?_) (fun c97 => ?_)
              · have E := am_ifT E c97
                obtain ⟨e92, E, E2⟩ := am_bdE E
                replace E2 := Option.some.inj E2
                replace E2 := am_exR E2 Er89
                rw [E2] at E
                refine am_lvs [0, 1, 2, 3, 4, 5, 6] rfl ?_
                exact K94 _ _ _ _ E
              · have E := am_ifF E c97
                refine am_aload_n 74 C dX12_years_74 rfl 0 rfl ?_
                refine as_getr 75 C fl_X12_52_11 dX12_years_75 (by decide) sh_248 (rf_248_26 _ _) ?_
                refine am_iload 78 C dX12_years_78 7 rfl ?_
                refine am_aload_n 80 C dX12_years_80 rfl 0 rfl ?_
                refine as_getr 81 C fl_X12_39_11 dX12_years_81 (by decide) sh_248 (rf_248_20 _ _) ?_
                refine am_iload 84 C dX12_years_84 7 rfl ?_
                obtain ⟨g93, E⟩ := am_gdE E
                refine as_iald 86 C dX12_years_86 (by decide) sh_258 g93 ?_
                obtain ⟨g94, E⟩ := am_gdE E
                obtain ⟨s95, hs95, E⟩ := am_ltE E
                refine as_iast 87 C dX12_years_87 (by decide) sh_261 g94 hs95 ?_
                obtain ⟨v96, hv96, E⟩ := am_ltE E
                refine as_iinc 88 (q := (1 : Int32)) (lv2 := [(7, .int v96), (0, .ref 248), (1, .int p1), (2, .int p2), (3, .int p3), (4, .int (0 : Int32)), (5, .int (0 : Int32)), (6, .int (0 : Int32))]) C dX12_years_88 7 rfl (by decide) hv96 (by decide) rfl ?_
                refine am_goto 91 66 C dX12_years_91 (by decide) ?_
                replace E := Option.some.inj E
                replace E := am_exL E Er89
                refine am_lvs [1, 2, 3, 4, 5, 6, 7, 0] rfl ?_
                exact ih89 _ _ E
          refine am_lvs [4, 5, 6, 7, 3, 2, 1, 0] rfl ?_
          exact LP89 am_F _ _ E
        · have E := am_ifT E c98
          refine am_iconst 43 (-1 : Int32) C dX12_years_43 (by decide) ?_
          replace E := Option.some.inj E
          subst E
          exact as_iret 44 C Z rfl dX12_years_44
def b_X12_count_102 (s0 : am_S) (v17 : Int32) (v18 : Int32) : Option ((Int32 × Int32) ⊕ (Int32 × am_S)) :=
  am_if ((s0.1 258 2) ≤ v18) (some (Sum.inr (v17, s0))) (am_lt ((nI 123) + v18) (fun v19 => am_gd (¬ v19 < 0 ∧ (v19).toNatClampNeg < 328) (am_lt (v17 + (s0.1 258 (v19).toNatClampNeg)) (fun v21 => am_lt (v18 + (1 : Int32)) (fun v22 => some (Sum.inl (v21, v22)))))))
def b_X12_count_134 (v26 : Int32) (v27 : Int32) (s28 : am_S) : Option ((Int32 × Int32 × am_S) ⊕ (Int32 × am_S)) :=
  am_if ((s28.1 258 2) ≤ v27) (some (Sum.inr (v26, s28))) (am_b2 (f_X12_harmOf v27 s28) (fun v29 s30 => am_lt (v26 + v29) (fun v31 => am_lt (v27 + (1 : Int32)) (fun v32 => some (Sum.inl (v31, v32, s30))))))
def f_X12_count (p1 : Int32) (s0 : am_S) : Option (Int32 × am_S) :=
  am_if (p1 = (0 : Int32)) (am_gd (¬ p1 < 0 ∧ (p1).toNatClampNeg < 328) (some ((s0.1 258 (p1).toNatClampNeg), s0))) (am_if (p1 = (1 : Int32)) (am_gd (¬ p1 < 0 ∧ (p1).toNatClampNeg < 328) (some ((s0.1 258 (p1).toNatClampNeg), s0))) (am_if (p1 = (nI 2)) (am_gd (¬ p1 < 0 ∧ (p1).toNatClampNeg < 328) (some ((s0.1 258 (p1).toNatClampNeg), s0))) (am_if (p1 = (nI 3)) (am_gd (¬ p1 < 0 ∧ (p1).toNatClampNeg < 328) (some ((s0.1 258 (p1).toNatClampNeg), s0))) (am_if (p1 = (nI 4)) (some ((s0.1 248 2), s0)) (am_if (p1 = (nI 5)) (some ((s0.1 248 21), s0)) (am_if (p1 = (nI 6)) (am_gd (¬ p1 < 0 ∧ (p1).toNatClampNeg < 328) (some ((s0.1 258 (p1).toNatClampNeg), s0))) (am_if (p1 = (nI 7)) (am_gd (¬ p1 < 0 ∧ (p1).toNatClampNeg < 328) (some ((s0.1 258 (p1).toNatClampNeg), s0))) (am_if (p1 = (nI 8)) (am_lp (fun (q : Int32 × Int32) => b_X12_count_102 s0 q.1 q.2) am_F ((0 : Int32), (0 : Int32))) (am_if (p1 = (nI 9)) (am_lp (fun (q : Int32 × Int32 × am_S) => b_X12_count_134 q.1 q.2.1 q.2.2) am_F ((0 : Int32), (0 : Int32), s0)) (am_if (p1 = (nI 10)) (some ((s0.1 258 326), s0)) (am_if (p1 = (nI 11)) (some ((s0.1 258 327), s0)) (am_if (p1 = (nI 12)) (some ((s0.1 248 25), s0)) (am_if (p1 = (nI 13)) (some ((s0.1 248 22), s0)) (am_if (p1 = (nI 14)) (some ((s0.1 248 1), s0)) (some ((-1 : Int32), s0))))))))))))))))
set_option maxRecDepth 100000 in
set_option maxHeartbeats 4000000 in
theorem t_X12_count (p1 : Int32) (s0 : am_S) {z : Int32 × am_S} (E : f_X12_count p1 s0 = some z) : AS yX12_count cX12_count 4 (some .int) 4 [.ref 248, .int p1] s0 (some (.int z.1)) z.2 := by
  unfold f_X12_count at E
  refine as_met (lv := [(0, .ref 248), (1, .int p1)]) (by decide +kernel) (by simp [lg_sl, Value.category]) rfl (fun x C A Z => ?_)
  refine am_iconst 0 (0 : Int32) C dX12_count_0 (by decide) ?_
  refine am_istore_n 1 (lv2 := [(2, .int (0 : Int32)), (0, .ref 248), (1, .int p1)]) C dX12_count_1 rfl (by decide) rfl ?_
  refine am_iload_n 2 C dX12_count_2 rfl 2 rfl ?_
  by_cases c3 : p1 = (0 : Int32)
  · have E := am_ifT E c3
    refine am_tabIn 3 76 C dX12_count_3 (by rw [c3]; decide) (by rw [c3]; decide) (by rw [c3]; rfl) (by decide) ?_
    refine am_aload_n 76 C dX12_count_76 rfl 1 rfl ?_
    refine as_getr 77 C fl_X12_39_11 dX12_count_77 (by decide) sh_248 (rf_248_20 _ _) ?_
    refine am_iload_n 80 C dX12_count_80 rfl 2 rfl ?_
    obtain ⟨g2, E⟩ := am_gdE E
    refine as_iald 81 C dX12_count_81 (by decide) sh_258 g2 ?_
    replace E := Option.some.inj E
    subst E
    exact as_iret 82 C Z rfl dX12_count_82
  · have E := am_ifF E c3
    by_cases c5 : p1 = (1 : Int32)
    · have E := am_ifT E c5
      refine am_tabIn 3 76 C dX12_count_3 (by rw [c5]; decide) (by rw [c5]; decide) (by rw [c5]; rfl) (by decide) ?_
      refine am_aload_n 76 C dX12_count_76 rfl 1 rfl ?_
      refine as_getr 77 C fl_X12_39_11 dX12_count_77 (by decide) sh_248 (rf_248_20 _ _) ?_
      refine am_iload_n 80 C dX12_count_80 rfl 2 rfl ?_
      obtain ⟨g4, E⟩ := am_gdE E
      refine as_iald 81 C dX12_count_81 (by decide) sh_258 g4 ?_
      replace E := Option.some.inj E
      subst E
      exact as_iret 82 C Z rfl dX12_count_82
    · have E := am_ifF E c5
      by_cases c7 : p1 = (nI 2)
      · have E := am_ifT E c7
        refine am_tabIn 3 76 C dX12_count_3 (by rw [c7]; decide) (by rw [c7]; decide) (by rw [c7]; rfl) (by decide) ?_
        refine am_aload_n 76 C dX12_count_76 rfl 1 rfl ?_
        refine as_getr 77 C fl_X12_39_11 dX12_count_77 (by decide) sh_248 (rf_248_20 _ _) ?_
        refine am_iload_n 80 C dX12_count_80 rfl 2 rfl ?_
        obtain ⟨g6, E⟩ := am_gdE E
        refine as_iald 81 C dX12_count_81 (by decide) sh_258 g6 ?_
        replace E := Option.some.inj E
        subst E
        exact as_iret 82 C Z rfl dX12_count_82
      · have E := am_ifF E c7
        by_cases c9 : p1 = (nI 3)
        · have E := am_ifT E c9
          refine am_tabIn 3 76 C dX12_count_3 (by rw [c9]; decide) (by rw [c9]; decide) (by rw [c9]; rfl) (by decide) ?_
          refine am_aload_n 76 C dX12_count_76 rfl 1 rfl ?_
          refine as_getr 77 C fl_X12_39_11 dX12_count_77 (by decide) sh_248 (rf_248_20 _ _) ?_
          refine am_iload_n 80 C dX12_count_80 rfl 2 rfl ?_
          obtain ⟨g8, E⟩ := am_gdE E
          refine as_iald 81 C dX12_count_81 (by decide) sh_258 g8 ?_
          replace E := Option.some.inj E
          subst E
          exact as_iret 82 C Z rfl dX12_count_82
        · have E := am_ifF E c9
          by_cases c10 : p1 = (nI 4)
          · have E := am_ifT E c10
            refine am_tabIn 3 83 C dX12_count_3 (by rw [c10]; decide) (by rw [c10]; decide) (by rw [c10]; rfl) (by decide) ?_
            refine am_aload_n 83 C dX12_count_83 rfl 1 rfl ?_
            refine as_geti 84 C fl_X12_275_11 dX12_count_84 (by decide) sh_248 ?_
            replace E := Option.some.inj E
            subst E
            exact as_iret 87 C Z rfl dX12_count_87
          · have E := am_ifF E c10
            by_cases c11 : p1 = (nI 5)
            · have E := am_ifT E c11
              refine am_tabIn 3 88 C dX12_count_3 (by rw [c11]; decide) (by rw [c11]; decide) (by rw [c11]; rfl) (by decide) ?_
              refine am_aload_n 88 C dX12_count_88 rfl 1 rfl ?_
              refine as_geti 89 C fl_X12_42_11 dX12_count_89 (by decide) sh_248 ?_
              replace E := Option.some.inj E
              subst E
              exact as_iret 92 C Z rfl dX12_count_92
            · have E := am_ifF E c11
              by_cases c13 : p1 = (nI 6)
              · have E := am_ifT E c13
                refine am_tabIn 3 93 C dX12_count_3 (by rw [c13]; decide) (by rw [c13]; decide) (by rw [c13]; rfl) (by decide) ?_
                refine am_aload_n 93 C dX12_count_93 rfl 1 rfl ?_
                refine as_getr 94 C fl_X12_39_11 dX12_count_94 (by decide) sh_248 (rf_248_20 _ _) ?_
                refine am_iload_n 97 C dX12_count_97 rfl 2 rfl ?_
                obtain ⟨g12, E⟩ := am_gdE E
                refine as_iald 98 C dX12_count_98 (by decide) sh_258 g12 ?_
                replace E := Option.some.inj E
                subst E
                exact as_iret 99 C Z rfl dX12_count_99
              · have E := am_ifF E c13
                by_cases c15 : p1 = (nI 7)
                · have E := am_ifT E c15
                  refine am_tabIn 3 93 C dX12_count_3 (by rw [c15]; decide) (by rw [c15]; decide) (by rw [c15]; rfl) (by decide) ?_
                  refine am_aload_n 93 C dX12_count_93 rfl 1 rfl ?_
                  refine as_getr 94 C fl_X12_39_11 dX12_count_94 (by decide) sh_248 (rf_248_20 _ _) ?_
                  refine am_iload_n 97 C dX12_count_97 rfl 2 rfl ?_
                  obtain ⟨g14, E⟩ := am_gdE E
                  refine as_iald 98 C dX12_count_98 (by decide) sh_258 g14 ?_
                  replace E := Option.some.inj E
                  subst E
                  exact as_iret 99 C Z rfl dX12_count_99
                · have E := am_ifF E c15
                  by_cases c24 : p1 = (nI 8)
                  · have E := am_ifT E c24
                    refine am_tabIn 3 100 C dX12_count_3 (by rw [c24]; decide) (by rw [c24]; decide) (by rw [c24]; rfl) (by decide) ?_
                    refine am_iconst 100 (0 : Int32) C dX12_count_100 (by decide) ?_
                    refine am_istore_n 101 (lv2 := [(3, .int (0 : Int32)), (2, .int (0 : Int32)), (0, .ref 248), (1, .int p1)]) C dX12_count_101 rfl (by decide) rfl ?_
                    have LP16 : ∀ (n : Nat) (v17 : Int32) (v18 : Int32), am_lp (fun (q : Int32 × Int32) => b_X12_count_102 s0 q.1 q.2) n (v17, v18) = some z → AX x 0 0 102 [(0, .ref 248), (2, .int v17), (3, .int v18)] [] am_N (am_h s0) := by
                      intro n
                      induction n with
                      | zero => intro v17 v18 E; exact (am_lp0 E).elim
                      | succ n ih16 =>
                        intro v17 v18 E
                        obtain ⟨r16, E, Er16⟩ := am_lpE E
                        replace E : b_X12_count_102 s0 v17 v18 = some r16 := E
                        unfold b_X12_count_102 at E
                        refine am_iload_n 102 C dX12_count_102 rfl 2 rfl ?_
                        refine am_aload_n 103 C dX12_count_103 rfl 0 rfl ?_
                        refine as_getr 104 C fl_X12_39_11 dX12_count_104 (by decide) sh_248 (rf_248_20 _ _) ?_
                        refine am_iconst 107 (nI 2) C dX12_count_107 (by decide) ?_
                        refine as_ialdK 108 2 C dX12_count_108 (by decide) sh_258 (by decide) (by decide) ?_
                        refine am_icmp_ge 109 130 C dX12_count_109 (by decide) (fun c23 => ?_) (fun c23 => ?_)
                        · have E := am_ifT E c23
                          refine am_iload_n 130 C dX12_count_130 rfl 1 rfl ?_
                          replace E := Option.some.inj E
                          replace E := am_exR E Er16
                          subst E
                          exact as_iret 131 C Z rfl dX12_count_131
                        · have E := am_ifF E c23
                          refine am_iload_n 112 C dX12_count_112 rfl 1 rfl ?_
                          refine am_aload_n 113 C dX12_count_113 rfl 0 rfl ?_
                          refine as_getr 114 C fl_X12_39_11 dX12_count_114 (by decide) sh_248 (rf_248_20 _ _) ?_
                          refine am_bipush 117 (nI 123) C dX12_count_117 (by decide) ?_
                          refine am_iload_n 119 C dX12_count_119 rfl 2 rfl ?_
                          refine am_iadd 120 C dX12_count_120 ?_
                          obtain ⟨v19, hv19, E⟩ := am_ltE E
                          refine as_nm hv19 ?_
                          obtain ⟨g20, E⟩ := am_gdE E
                          refine as_iald 121 C dX12_count_121 (by decide) sh_258 g20 ?_
                          refine am_iadd 122 C dX12_count_122 ?_
                          obtain ⟨v21, hv21, E⟩ := am_ltE E
                          refine as_nm hv21 ?_
                          refine am_istore_n 123 (lv2 := [(2, .int v21), (0, .ref 248), (3, .int v18)]) C dX12_count_123 rfl (by decide) rfl ?_
                          obtain ⟨v22, hv22, E⟩ := am_ltE E
                          refine as_iinc 124 (q := (1 : Int32)) (lv2 := [(3, .int v22), (2, .int v21), (0, .ref 248)]) C dX12_count_124 2 rfl (by decide) hv22 (by decide) rfl ?_
                          refine am_goto 127 102 C dX12_count_127 (by decide) ?_
                          replace E := Option.some.inj E
                          replace E := am_exL E Er16
                          refine am_lvs [2, 1, 0] rfl ?_
                          exact ih16 _ _ E
                    refine am_lvs [2, 1, 0] rfl ?_
                    exact LP16 am_F _ _ E
                  · have E := am_ifF E c24
                    by_cases c34 : p1 = (nI 9)
                    · have E := am_ifT E c34
                      refine am_tabIn 3 132 C dX12_count_3 (by rw [c34]; decide) (by rw [c34]; decide) (by rw [c34]; rfl) (by decide) ?_
                      refine am_iconst 132 (0 : Int32) C dX12_count_132 (by decide) ?_
                      refine am_istore_n 133 (lv2 := [(3, .int (0 : Int32)), (2, .int (0 : Int32)), (0, .ref 248), (1, .int p1)]) C dX12_count_133 rfl (by decide) rfl ?_
                      have LP25 : ∀ (n : Nat) (v26 : Int32) (v27 : Int32) (s28 : am_S), am_lp (fun (q : Int32 × Int32 × am_S) => b_X12_count_134 q.1 q.2.1 q.2.2) n (v26, v27, s28) = some z → AX x 0 0 134 [(0, .ref 248), (2, .int v26), (3, .int v27)] [] am_N (am_h s28) := by
                        intro n
                        induction n with
                        | zero => intro v26 v27 s28 E; exact (am_lp0 E).elim
                        | succ n ih25 =>
                          intro v26 v27 s28 E
                          obtain ⟨r25, E, Er25⟩ := am_lpE E
                          replace E : b_X12_count_134 v26 v27 s28 = some r25 := E
                          unfold b_X12_count_134 at E
                          refine am_iload_n 134 C dX12_count_134 rfl 2 rfl ?_
                          refine am_aload_n 135 C dX12_count_135 rfl 0 rfl ?_
                          refine as_getr 136 C fl_X12_39_11 dX12_count_136 (by decide) sh_248 (rf_248_20 _ _) ?_
                          refine am_iconst 139 (nI 2) C dX12_count_139 (by decide) ?_
                          refine as_ialdK 140 2 C dX12_count_140 (by decide) sh_258 (by decide) (by decide) ?_
                          refine am_icmp_ge 141 158 C dX12_count_141 (by decide) (fun c33 => ?_) (fun c33 => ?_)
                          · have E := am_ifT E c33
                            refine am_iload_n 158 C dX12_count_158 rfl 1 rfl ?_
                            replace E := Option.some.inj E
                            replace E := am_exR E Er25
                            subst E
                            exact as_iret 159 C Z rfl dX12_count_159
                          · have E := am_ifF E c33
                            refine am_iload_n 144 C dX12_count_144 rfl 1 rfl ?_
                            refine am_aload_n 145 C dX12_count_145 rfl 0 rfl ?_
                            refine am_iload_n 146 C dX12_count_146 rfl 2 rfl ?_
                            obtain ⟨v29, s30, Ec, E⟩ := am_b2E E
                            refine as_callV 147 (s2 := s30) (st := [.int v26]) (st2 := [.int v29, .int v26]) [.int v27] C A (by decide) ml_X12_405 yc_X12_harmOf yv_X12_harmOf (t_X12_harmOf v27 s28 Ec) (by decide) sh_248 rfl rfl (Nat.le_of_ble_eq_true rfl) rfl dX12_count_147 ?_
                            refine am_iadd 150 C dX12_count_150 ?_
                            obtain ⟨v31, hv31, E⟩ := am_ltE E
                            refine as_nm hv31 ?_
                            refine am_istore_n 151 (lv2 := [(2, .int v31), (0, .ref 248), (3, .int v27)]) C dX12_count_151 rfl (by decide) rfl ?_
                            obtain ⟨v32, hv32, E⟩ := am_ltE E
                            refine as_iinc 152 (q := (1 : Int32)) (lv2 := [(3, .int v32), (2, .int v31), (0, .ref 248)]) C dX12_count_152 2 rfl (by decide) hv32 (by decide) rfl ?_
                            refine am_goto 155 134 C dX12_count_155 (by decide) ?_
                            replace E := Option.some.inj E
                            replace E := am_exL E Er25
                            refine am_lvs [2, 1, 0] rfl ?_
                            exact ih25 _ _ _ E
                      refine am_lvs [2, 1, 0] rfl ?_
                      exact LP25 am_F _ _ _ E
                    · have E := am_ifF E c34
                      by_cases c35 : p1 = (nI 10)
                      · have E := am_ifT E c35
                        refine am_tabIn 3 160 C dX12_count_3 (by rw [c35]; decide) (by rw [c35]; decide) (by rw [c35]; rfl) (by decide) ?_
                        refine am_aload_n 160 C dX12_count_160 rfl 1 rfl ?_
                        refine as_getr 161 C fl_X12_39_11 dX12_count_161 (by decide) sh_248 (rf_248_20 _ _) ?_
                        refine am_sipush 164 (nI 326) C dX12_count_164 (by decide) ?_
                        refine as_ialdK 167 326 C dX12_count_167 (by decide) sh_258 (by decide) (by decide) ?_
                        replace E := Option.some.inj E
                        subst E
                        exact as_iret 168 C Z rfl dX12_count_168
                      · have E := am_ifF E c35
                        by_cases c36 : p1 = (nI 11)
                        · have E := am_ifT E c36
                          refine am_tabIn 3 169 C dX12_count_3 (by rw [c36]; decide) (by rw [c36]; decide) (by rw [c36]; rfl) (by decide) ?_
                          refine am_aload_n 169 C dX12_count_169 rfl 1 rfl ?_
                          refine as_getr 170 C fl_X12_39_11 dX12_count_170 (by decide) sh_248 (rf_248_20 _ _) ?_
                          refine am_sipush 173 (nI 327) C dX12_count_173 (by decide) ?_
                          refine as_ialdK 176 327 C dX12_count_176 (by decide) sh_258 (by decide) (by decide) ?_
                          replace E := Option.some.inj E
                          subst E
                          exact as_iret 177 C Z rfl dX12_count_177
                        · have E := am_ifF E c36
                          by_cases c37 : p1 = (nI 12)
                          · have E := am_ifT E c37
                            refine am_tabIn 3 178 C dX12_count_3 (by rw [c37]; decide) (by rw [c37]; decide) (by rw [c37]; rfl) (by decide) ?_
                            refine am_aload_n 178 C dX12_count_178 rfl 1 rfl ?_
                            refine as_geti 179 C fl_X12_281_11 dX12_count_179 (by decide) sh_248 ?_
                            replace E := Option.some.inj E
                            subst E
                            exact as_iret 182 C Z rfl dX12_count_182
                          · have E := am_ifF E c37
                            by_cases c38 : p1 = (nI 13)
                            · have E := am_ifT E c38
                              refine am_tabIn 3 183 C dX12_count_3 (by rw [c38]; decide) (by rw [c38]; decide) (by rw [c38]; rfl) (by decide) ?_
                              refine am_aload_n 183 C dX12_count_183 rfl 1 rfl ?_
                              refine as_geti 184 C fl_X12_437_11 dX12_count_184 (by decide) sh_248 ?_
                              replace E := Option.some.inj E
                              subst E
                              exact as_iret 187 C Z rfl dX12_count_187
                            · have E := am_ifF E c38
                              by_cases c39 : p1 = (nI 14)
                              · have E := am_ifT E c39
                                refine am_tabIn 3 188 C dX12_count_3 (by rw [c39]; decide) (by rw [c39]; decide) (by rw [c39]; rfl) (by decide) ?_
                                refine am_aload_n 188 C dX12_count_188 rfl 1 rfl ?_
                                refine as_geti 189 C fl_X12_68_11 dX12_count_189 (by decide) sh_248 ?_
                                replace E := Option.some.inj E
                                subst E
                                exact as_iret 192 C Z rfl dX12_count_192
                              · have E := am_ifF E c39
                                have ec3 := am_neI c3 0 (by decide)
                                have ec5 := am_neI c5 1 (by decide)
                                have ec7 := am_neI c7 2 (by decide)
                                have ec9 := am_neI c9 3 (by decide)
                                have ec10 := am_neI c10 4 (by decide)
                                have ec11 := am_neI c11 5 (by decide)
                                have ec13 := am_neI c13 6 (by decide)
                                have ec15 := am_neI c15 7 (by decide)
                                have ec24 := am_neI c24 8 (by decide)
                                have ec34 := am_neI c34 9 (by decide)
                                have ec35 := am_neI c35 10 (by decide)
                                have ec36 := am_neI c36 11 (by decide)
                                have ec37 := am_neI c37 12 (by decide)
                                have ec38 := am_neI c38 13 (by decide)
                                have ec39 := am_neI c39 14 (by decide)
                                refine am_tabOut 3 193 C dX12_count_3 (by omega) (by decide) ?_
                                refine am_iconst 193 (-1 : Int32) C dX12_count_193 (by decide) ?_
                                replace E := Option.some.inj E
                                subst E
                                exact as_iret 194 C Z rfl dX12_count_194
def b_X12_image_43 (p1 : Int32) (v10 : Int32) (s11 : am_S) : Option ((Int32 × am_S) ⊕ (Int32 × am_S)) :=
  am_if ((nI 328) ≤ v10) (some (Sum.inr ((s11.1 258 6), s11))) (am_gd (¬ v10 < 0 ∧ (v10).toNatClampNeg < 328) (am_gd (¬ (((nI 328) * p1) + v10) < 0 ∧ ((((nI 328) * p1) + v10)).toNatClampNeg < 1312) (am_lt (as_i s11 262 ((((nI 328) * p1) + v10)).toNatClampNeg (s11.1 258 (v10).toNatClampNeg)) (fun s14 => am_lt (v10 + (1 : Int32)) (fun v15 => some (Sum.inl (v15, s14)))))))
def f_X12_image (p1 : Int32) (s0 : am_S) : Option (Int32 × am_S) :=
  am_bd (f_X12_in (p1).toInt64 (0 : Int64) (3 : Int64)) (fun v2 => am_if (v2 = 0) (some ((-1 : Int32), s0)) (am_gd (¬ p1 < 0 ∧ (p1).toNatClampNeg < 4) (am_lt (as_i s0 265 (p1).toNatClampNeg (vp_nar .boolean (1 : Int32))) (fun s4 => am_gd (¬ p1 < 0 ∧ (p1).toNatClampNeg < 4) (am_lt (as_i s4 263 (p1).toNatClampNeg (s4.1 248 21)) (fun s6 => am_gd (¬ p1 < 0 ∧ (p1).toNatClampNeg < 4) (am_lt (as_i s6 264 (p1).toNatClampNeg (s6.1 248 22)) (fun s8 => am_lp (fun (q : Int32 × am_S) => b_X12_image_43 p1 q.1 q.2) am_F ((0 : Int32), s8)))))))))
set_option maxRecDepth 100000 in
set_option maxHeartbeats 4000000 in
theorem t_X12_image (p1 : Int32) (s0 : am_S) {z : Int32 × am_S} (E : f_X12_image p1 s0 = some z) : AS yX12_image cX12_image 3 (some .int) 2 [.ref 248, .int p1] s0 (some (.int z.1)) z.2 := by
  unfold f_X12_image at E
  refine as_met (lv := [(0, .ref 248), (1, .int p1)]) (by decide +kernel) (by simp [lg_sl, Value.category]) rfl (fun x C A Z => ?_)
  refine am_iload_n 0 C dX12_image_0 rfl 1 rfl ?_
  refine am_i2l 1 C dX12_image_1 ?_
  refine am_lconst 2 (0 : Int64) C dX12_image_2 (by decide) ?_
  refine am_ldc2 3 C dX12_image_3 kl_X12_460 ?_
  obtain ⟨v2, Ec, E⟩ := am_bdE E
  refine as_callS 6 (s2 := s0) (st := []) (st2 := [.int v2]) [.long (p1).toInt64, .long (0 : Int64), .long (3 : Int64)] C A (by decide) ml_X12_106 yc_X12_in ys_X12_in (t_X12_in (p1).toInt64 (0 : Int64) (3 : Int64) s0 Ec) rfl rfl (Nat.le_of_ble_eq_true rfl) rfl dX12_image_6 ?_
  refine am_if_ne 9 14 C dX12_image_9 (by decide) (fun c17 => ?_) (fun c17 => ?_)
  · have E := am_ifF E c17
    refine am_aload_n 14 C dX12_image_14 rfl 0 rfl ?_
    refine as_getr 15 C fl_X12_64_11 dX12_image_15 (by decide) sh_248 (rf_248_31 _ _) ?_
    refine am_iload_n 18 C dX12_image_18 rfl 1 rfl ?_
    refine am_iconst 19 (1 : Int32) C dX12_image_19 (by decide) ?_
    obtain ⟨g3, E⟩ := am_gdE E
    obtain ⟨s4, hs4, E⟩ := am_ltE E
    refine as_zast 20 C dX12_image_20 (by decide) sh_265 g3 hs4 ?_
    refine am_aload_n 21 C dX12_image_21 rfl 0 rfl ?_
    refine as_getr 22 C fl_X12_58_11 dX12_image_22 (by decide) sh_248 (rf_248_29 _ _) ?_
    refine am_iload_n 25 C dX12_image_25 rfl 1 rfl ?_
    refine am_aload_n 26 C dX12_image_26 rfl 0 rfl ?_
    refine as_geti 27 C fl_X12_42_11 dX12_image_27 (by decide) sh_248 ?_
    obtain ⟨g5, E⟩ := am_gdE E
    obtain ⟨s6, hs6, E⟩ := am_ltE E
    refine as_iast 30 C dX12_image_30 (by decide) sh_263 g5 hs6 ?_
    refine am_aload_n 31 C dX12_image_31 rfl 0 rfl ?_
    refine as_getr 32 C fl_X12_61_11 dX12_image_32 (by decide) sh_248 (rf_248_30 _ _) ?_
    refine am_iload_n 35 C dX12_image_35 rfl 1 rfl ?_
    refine am_aload_n 36 C dX12_image_36 rfl 0 rfl ?_
    refine as_geti 37 C fl_X12_437_11 dX12_image_37 (by decide) sh_248 ?_
    obtain ⟨g7, E⟩ := am_gdE E
    obtain ⟨s8, hs8, E⟩ := am_ltE E
    refine as_iast 40 C dX12_image_40 (by decide) sh_264 g7 hs8 ?_
    refine am_iconst 41 (0 : Int32) C dX12_image_41 (by decide) ?_
    refine am_istore_n 42 (lv2 := [(2, .int (0 : Int32)), (0, .ref 248), (1, .int p1)]) C dX12_image_42 rfl (by decide) rfl ?_
    have LP9 : ∀ (n : Nat) (v10 : Int32) (s11 : am_S), am_lp (fun (q : Int32 × am_S) => b_X12_image_43 p1 q.1 q.2) n (v10, s11) = some z → AX x 0 0 43 [(0, .ref 248), (1, .int p1), (2, .int v10)] [] am_N (am_h s11) := by
      intro n
      induction n with
      | zero => intro v10 s11 E; exact (am_lp0 E).elim
      | succ n ih9 =>
        intro v10 s11 E
        obtain ⟨r9, E, Er9⟩ := am_lpE E
        replace E : b_X12_image_43 p1 v10 s11 = some r9 := E
        unfold b_X12_image_43 at E
        refine am_iload_n 43 C dX12_image_43 rfl 2 rfl ?_
        refine am_sipush 44 (nI 328) C dX12_image_44 (by decide) ?_
        refine am_icmp_ge 47 74 C dX12_image_47 (by decide) (fun c16 => ?_) (fun c16 => ?_)
        · have E := am_ifT E c16
          refine am_aload_n 74 C dX12_image_74 rfl 0 rfl ?_
          refine as_getr 75 C fl_X12_39_11 dX12_image_75 (by decide) sh_248 (rf_248_20 _ _) ?_
          refine am_bipush 78 (nI 6) C dX12_image_78 (by decide) ?_
          refine as_ialdK 80 6 C dX12_image_80 (by decide) sh_258 (by decide) (by decide) ?_
          replace E := Option.some.inj E
          replace E := am_exR E Er9
          subst E
          exact as_iret 81 C Z rfl dX12_image_81
        · have E := am_ifF E c16
          refine am_aload_n 50 C dX12_image_50 rfl 0 rfl ?_
          refine as_getr 51 C fl_X12_55_11 dX12_image_51 (by decide) sh_248 (rf_248_28 _ _) ?_
          refine am_sipush 54 (nI 328) C dX12_image_54 (by decide) ?_
          refine am_iload_n 57 C dX12_image_57 rfl 1 rfl ?_
          refine am_imul 58 C dX12_image_58 ?_
          refine am_iload_n 59 C dX12_image_59 rfl 2 rfl ?_
          refine am_iadd 60 C dX12_image_60 ?_
          refine am_aload_n 61 C dX12_image_61 rfl 0 rfl ?_
          refine as_getr 62 C fl_X12_39_11 dX12_image_62 (by decide) sh_248 (rf_248_20 _ _) ?_
          refine am_iload_n 65 C dX12_image_65 rfl 2 rfl ?_
          obtain ⟨g12, E⟩ := am_gdE E
          refine as_iald 66 C dX12_image_66 (by decide) sh_258 g12 ?_
          obtain ⟨g13, E⟩ := am_gdE E
          obtain ⟨s14, hs14, E⟩ := am_ltE E
          refine as_iast 67 C dX12_image_67 (by decide) sh_262 g13 hs14 ?_
          obtain ⟨v15, hv15, E⟩ := am_ltE E
          refine as_iinc 68 (q := (1 : Int32)) (lv2 := [(2, .int v15), (0, .ref 248), (1, .int p1)]) C dX12_image_68 2 rfl (by decide) hv15 (by decide) rfl ?_
          refine am_goto 71 43 C dX12_image_71 (by decide) ?_
          replace E := Option.some.inj E
          replace E := am_exL E Er9
          refine am_lvs [1, 2, 0] rfl ?_
          exact ih9 _ _ E
    refine am_lvs [1, 2, 0] rfl ?_
    exact LP9 am_F _ _ E
  · have E := am_ifT E c17
    refine am_iconst 12 (-1 : Int32) C dX12_image_12 (by decide) ?_
    replace E := Option.some.inj E
    subst E
    exact as_iret 13 C Z rfl dX12_image_13
def b_X12_back_50 (p1 : Int32) (v10 : Int32) (s11 : am_S) : Option ((Int32 × am_S) ⊕ (Int32 × am_S)) :=
  am_if ((nI 328) ≤ v10) (some (Sum.inr ((s11.1 258 6), s11))) (am_lt (((nI 328) * p1) + v10) (fun v12 => am_gd (¬ v12 < 0 ∧ (v12).toNatClampNeg < 1312) (am_gd (¬ v10 < 0 ∧ (v10).toNatClampNeg < 328) (am_lt (as_i s11 258 (v10).toNatClampNeg (s11.1 262 (v12).toNatClampNeg)) (fun s15 => am_lt (v10 + (1 : Int32)) (fun v16 => some (Sum.inl (v16, s15))))))))
def f_X12_back (p1 : Int32) (s0 : am_S) : Option (Int32 × am_S) :=
  am_bd (f_X12_in (p1).toInt64 (0 : Int64) (3 : Int64)) (fun v2 => am_if (v2 = 0) (some ((-1 : Int32), s0)) (am_gd (¬ p1 < 0 ∧ (p1).toNatClampNeg < 4) (am_if ((s0.1 265 (p1).toNatClampNeg) = 0) (some ((-1 : Int32), s0)) (am_gd (¬ p1 < 0 ∧ (p1).toNatClampNeg < 4) (am_lt (as_i s0 248 21 (s0.1 263 (p1).toNatClampNeg)) (fun s5 => am_gd (¬ p1 < 0 ∧ (p1).toNatClampNeg < 4) (am_lt (as_i s5 248 22 (s5.1 264 (p1).toNatClampNeg)) (fun s7 => am_lt (as_i s7 248 25 (0 : Int32)) (fun s8 => am_lp (fun (q : Int32 × am_S) => b_X12_back_50 p1 q.1 q.2) am_F ((0 : Int32), s8))))))))))
set_option maxRecDepth 100000 in
set_option maxHeartbeats 4000000 in
theorem t_X12_back (p1 : Int32) (s0 : am_S) {z : Int32 × am_S} (E : f_X12_back p1 s0 = some z) : AS yX12_back cX12_back 3 (some .int) 2 [.ref 248, .int p1] s0 (some (.int z.1)) z.2 := by
  unfold f_X12_back at E
  refine as_met (lv := [(0, .ref 248), (1, .int p1)]) (by decide +kernel) (by simp [lg_sl, Value.category]) rfl (fun x C A Z => ?_)
  refine am_iload_n 0 C dX12_back_0 rfl 1 rfl ?_
  refine am_i2l 1 C dX12_back_1 ?_
  refine am_lconst 2 (0 : Int64) C dX12_back_2 (by decide) ?_
  refine am_ldc2 3 C dX12_back_3 kl_X12_460 ?_
  obtain ⟨v2, Ec, E⟩ := am_bdE E
  refine as_callS 6 (s2 := s0) (st := []) (st2 := [.int v2]) [.long (p1).toInt64, .long (0 : Int64), .long (3 : Int64)] C A (by decide) ml_X12_106 yc_X12_in ys_X12_in (t_X12_in (p1).toInt64 (0 : Int64) (3 : Int64) s0 Ec) rfl rfl (Nat.le_of_ble_eq_true rfl) rfl dX12_back_6 ?_
  refine am_if_eq 9 21 C dX12_back_9 (by decide) (fun c19 => ?_) (fun c19 => ?_)
  · have E := am_ifT E c19
    refine am_iconst 21 (-1 : Int32) C dX12_back_21 (by decide) ?_
    replace E := Option.some.inj E
    subst E
    exact as_iret 22 C Z rfl dX12_back_22
  · have E := am_ifF E c19
    refine am_aload_n 12 C dX12_back_12 rfl 0 rfl ?_
    refine as_getr 13 C fl_X12_64_11 dX12_back_13 (by decide) sh_248 (rf_248_31 _ _) ?_
    refine am_iload_n 16 C dX12_back_16 rfl 1 rfl ?_
    obtain ⟨g3, E⟩ := am_gdE E
    refine as_zald 17 C dX12_back_17 (by decide) sh_265 g3 ?_
    refine am_if_ne 18 23 C dX12_back_18 (by decide) (fun c18 => ?_) (fun c18 => ?_)
    · have E := am_ifF E c18
      refine am_aload_n 23 C dX12_back_23 rfl 0 rfl ?_
      refine am_aload_n 24 C dX12_back_24 rfl 0 rfl ?_
      refine as_getr 25 C fl_X12_58_11 dX12_back_25 (by decide) sh_248 (rf_248_29 _ _) ?_
      refine am_iload_n 28 C dX12_back_28 rfl 1 rfl ?_
      obtain ⟨g4, E⟩ := am_gdE E
      refine as_iald 29 C dX12_back_29 (by decide) sh_263 g4 ?_
      obtain ⟨s5, hs5, E⟩ := am_ltE E
      refine as_puti 30 C fl_X12_42_11 dX12_back_30 (by decide) sh_248 rfl rfl hs5 ?_
      refine am_aload_n 33 C dX12_back_33 rfl 0 rfl ?_
      refine am_aload_n 34 C dX12_back_34 rfl 0 rfl ?_
      refine as_getr 35 C fl_X12_61_11 dX12_back_35 (by decide) sh_248 (rf_248_30 _ _) ?_
      refine am_iload_n 38 C dX12_back_38 rfl 1 rfl ?_
      obtain ⟨g6, E⟩ := am_gdE E
      refine as_iald 39 C dX12_back_39 (by decide) sh_264 g6 ?_
      obtain ⟨s7, hs7, E⟩ := am_ltE E
      refine as_puti 40 C fl_X12_437_11 dX12_back_40 (by decide) sh_248 rfl rfl hs7 ?_
      refine am_aload_n 43 C dX12_back_43 rfl 0 rfl ?_
      refine am_iconst 44 (0 : Int32) C dX12_back_44 (by decide) ?_
      obtain ⟨s8, hs8, E⟩ := am_ltE E
      refine as_puti 45 C fl_X12_281_11 dX12_back_45 (by decide) sh_248 rfl rfl hs8 ?_
      refine am_iconst 48 (0 : Int32) C dX12_back_48 (by decide) ?_
      refine am_istore_n 49 (lv2 := [(2, .int (0 : Int32)), (0, .ref 248), (1, .int p1)]) C dX12_back_49 rfl (by decide) rfl ?_
      have LP9 : ∀ (n : Nat) (v10 : Int32) (s11 : am_S), am_lp (fun (q : Int32 × am_S) => b_X12_back_50 p1 q.1 q.2) n (v10, s11) = some z → AX x 0 0 50 [(0, .ref 248), (1, .int p1), (2, .int v10)] [] am_N (am_h s11) := by
        intro n
        induction n with
        | zero => intro v10 s11 E; exact (am_lp0 E).elim
        | succ n ih9 =>
          intro v10 s11 E
          obtain ⟨r9, E, Er9⟩ := am_lpE E
          replace E : b_X12_back_50 p1 v10 s11 = some r9 := E
          unfold b_X12_back_50 at E
          refine am_iload_n 50 C dX12_back_50 rfl 2 rfl ?_
          refine am_sipush 51 (nI 328) C dX12_back_51 (by decide) ?_
          refine am_icmp_ge 54 81 C dX12_back_54 (by decide) (fun c17 => ?_) (fun c17 => ?_)
          · have E := am_ifT E c17
            refine am_aload_n 81 C dX12_back_81 rfl 0 rfl ?_
            refine as_getr 82 C fl_X12_39_11 dX12_back_82 (by decide) sh_248 (rf_248_20 _ _) ?_
            refine am_bipush 85 (nI 6) C dX12_back_85 (by decide) ?_
            refine as_ialdK 87 6 C dX12_back_87 (by decide) sh_258 (by decide) (by decide) ?_
            replace E := Option.some.inj E
            replace E := am_exR E Er9
            subst E
            exact as_iret 88 C Z rfl dX12_back_88
          · have E := am_ifF E c17
            refine am_aload_n 57 C dX12_back_57 rfl 0 rfl ?_
            refine as_getr 58 C fl_X12_39_11 dX12_back_58 (by decide) sh_248 (rf_248_20 _ _) ?_
            refine am_iload_n 61 C dX12_back_61 rfl 2 rfl ?_
            refine am_aload_n 62 C dX12_back_62 rfl 0 rfl ?_
            refine as_getr 63 C fl_X12_55_11 dX12_back_63 (by decide) sh_248 (rf_248_28 _ _) ?_
            refine am_sipush 66 (nI 328) C dX12_back_66 (by decide) ?_
            refine am_iload_n 69 C dX12_back_69 rfl 1 rfl ?_
            refine am_imul 70 C dX12_back_70 ?_
            refine am_iload_n 71 C dX12_back_71 rfl 2 rfl ?_
            refine am_iadd 72 C dX12_back_72 ?_
            obtain ⟨v12, hv12, E⟩ := am_ltE E
            refine as_nm hv12 ?_
            obtain ⟨g13, E⟩ := am_gdE E
            refine as_iald 73 C dX12_back_73 (by decide) sh_262 g13 ?_
            obtain ⟨g14, E⟩ := am_gdE E
            obtain ⟨s15, hs15, E⟩ := am_ltE E
            refine as_iast 74 C dX12_back_74 (by decide) sh_258 g14 hs15 ?_
            obtain ⟨v16, hv16, E⟩ := am_ltE E
            refine as_iinc 75 (q := (1 : Int32)) (lv2 := [(2, .int v16), (0, .ref 248), (1, .int p1)]) C dX12_back_75 2 rfl (by decide) hv16 (by decide) rfl ?_
            refine am_goto 78 50 C dX12_back_78 (by decide) ?_
            replace E := Option.some.inj E
            replace E := am_exL E Er9
            refine am_lvs [1, 2, 0] rfl ?_
            exact ih9 _ _ E
      refine am_lvs [1, 2, 0] rfl ?_
      exact LP9 am_F _ _ E
    · have E := am_ifT E c18
      refine am_iconst 21 (-1 : Int32) C dX12_back_21 (by decide) ?_
      replace E := Option.some.inj E
      subst E
      exact as_iret 22 C Z rfl dX12_back_22
