def j_X8_contradictionsOf_46 (a1 : Nat) (p2 : Int32) (s0 : am_S) (v6 : Int32) (v7 : Int32) (v8 : Int32) : Option ((Int32 × Int32) ⊕ (Int32)) :=
  am_if (v6 = 0) (am_lt (v8 + (1 : Int32)) (fun v9 => some (Sum.inl (v7, v9)))) (am_lt (((nI 4) * v8) + (nI 2)) (fun v10 => am_gd (¬ v10 < 0 ∧ (v10).toNatClampNeg < 40) (am_lt (p2 + (s0.1 22 (v10).toNatClampNeg)) (fun v12 => am_gd (¬ v12 < 0 ∧ (v12).toNatClampNeg < (am_sh a1).2) (am_lt (((nI 4) * v8) + (nI 3)) (fun v14 => am_gd (¬ v14 < 0 ∧ (v14).toNatClampNeg < 40) (am_if ((s0.1 a1 (v12).toNatClampNeg) = (s0.1 22 (v14).toNatClampNeg)) (am_lt (v8 + (1 : Int32)) (fun v16 => some (Sum.inl (v7, v16)))) (am_lt (v7 + (1 : Int32)) (fun v17 => am_lt (v8 + (1 : Int32)) (fun v18 => some (Sum.inl (v17, v18))))))))))))
def b_X8_contradictionsOf_5 (a1 : Nat) (p2 : Int32) (s0 : am_S) (v4 : Int32) (v5 : Int32) : Option ((Int32 × Int32) ⊕ (Int32)) :=
  am_if ((s0.1 16 10) ≤ v5) (some (Sum.inr v4)) (am_lt ((nI 4) * v5) (fun v21 => am_gd (¬ v21 < 0 ∧ (v21).toNatClampNeg < 40) (am_lt (p2 + (s0.1 22 (v21).toNatClampNeg)) (fun v23 => am_gd (¬ v23 < 0 ∧ (v23).toNatClampNeg < (am_sh a1).2) (am_lt (((nI 4) * v5) + (1 : Int32)) (fun v25 => am_gd (¬ v25 < 0 ∧ (v25).toNatClampNeg < 40) (am_if ((s0.1 a1 (v23).toNatClampNeg) = (s0.1 22 (v25).toNatClampNeg)) (j_X8_contradictionsOf_46 a1 p2 s0 (1 : Int32) v4 v5) (j_X8_contradictionsOf_46 a1 p2 s0 (0 : Int32) v4 v5))))))))
def f_X8_contradictionsOf (a1 : Nat) (p2 : Int32) (s0 : am_S) : Option (Int32) :=
  am_gd (am_sh a1 = (13, (am_sh a1).2) ∧ a1 < am_N) (am_lp (fun (q : Int32 × Int32) => b_X8_contradictionsOf_5 a1 p2 s0 q.1 q.2) am_F ((0 : Int32), (0 : Int32)))
set_option maxRecDepth 100000 in
set_option maxHeartbeats 4000000 in
theorem t_X8_contradictionsOf (a1 : Nat) (p2 : Int32) (s0 : am_S) {z : Int32} (E : f_X8_contradictionsOf a1 p2 s0 = some z) : AS yX8_contradictionsOf cX8_contradictionsOf 6 (some .int) 1 [.ref 16, .ref a1, .int p2] s0 (some (.int z)) s0 := by
  unfold f_X8_contradictionsOf at E
  obtain ⟨ma1, E⟩ := am_gdE E
  refine as_met (lv := [(0, .ref 16), (1, .ref a1), (2, .int p2)]) (by decide +kernel) (by simp [lg_sl, Value.category]) rfl (fun x C A Z => ?_)
  refine am_iconst 0 (0 : Int32) C dX8_contradictionsOf_0 (by decide) ?_
  refine am_istore_n 1 (lv2 := [(3, .int (0 : Int32)), (0, .ref 16), (1, .ref a1), (2, .int p2)]) C dX8_contradictionsOf_1 rfl (by decide) rfl ?_
  refine am_iconst 2 (0 : Int32) C dX8_contradictionsOf_2 (by decide) ?_
  refine am_istore 3 (lv2 := [(4, .int (0 : Int32)), (3, .int (0 : Int32)), (0, .ref 16), (1, .ref a1), (2, .int p2)]) C dX8_contradictionsOf_3 (by decide) rfl ?_
  have LP3 : ∀ (n : Nat) (v4 : Int32) (v5 : Int32), am_lp (fun (q : Int32 × Int32) => b_X8_contradictionsOf_5 a1 p2 s0 q.1 q.2) n (v4, v5) = some z → AX x 0 0 5 [(0, .ref 16), (1, .ref a1), (2, .int p2), (3, .int v4), (4, .int v5)] [] am_N (am_h s0) := by
    intro n
    induction n with
    | zero => intro v4 v5 E; exact (am_lp0 E).elim
    | succ n ih3 =>
      intro v4 v5 E
      obtain ⟨r3, E, Er3⟩ := am_lpE E
      replace E : b_X8_contradictionsOf_5 a1 p2 s0 v4 v5 = some r3 := E
      unfold b_X8_contradictionsOf_5 at E
      have K46 : ∀ (v6 : Int32) (v7 : Int32) (v8 : Int32), j_X8_contradictionsOf_46 a1 p2 s0 v6 v7 v8 = some r3 → AX x 0 0 46 [(0, .ref 16), (1, .ref a1), (2, .int p2), (3, .int v7), (4, .int v8)] [.int v6] am_N (am_h s0) := by
        intro v6 v7 v8 E
        unfold j_X8_contradictionsOf_46 at E
        refine am_istore 46 (lv2 := [(5, .int v6), (0, .ref 16), (1, .ref a1), (2, .int p2), (3, .int v7), (4, .int v8)]) C dX8_contradictionsOf_46 (by decide) rfl ?_
        refine am_iload 48 C dX8_contradictionsOf_48 0 rfl ?_
        refine am_if_eq 50 85 C dX8_contradictionsOf_50 (by decide) (fun c20 => ?_) (fun c20 => ?_)
        · have E := am_ifT E c20
          obtain ⟨v9, hv9, E⟩ := am_ltE E
          refine as_iinc 85 (q := (1 : Int32)) (lv2 := [(4, .int v9), (5, .int v6), (0, .ref 16), (1, .ref a1), (2, .int p2), (3, .int v7)]) C dX8_contradictionsOf_85 5 rfl (by decide) hv9 (by decide) rfl ?_
          refine am_goto 88 5 C dX8_contradictionsOf_88 (by decide) ?_
          replace E := Option.some.inj E
          replace E := am_exL E Er3
          refine am_lvs [2, 3, 4, 5, 0] rfl ?_
          exact ih3 _ _ E
        · have E := am_ifF E c20
          refine am_aload_n 53 C dX8_contradictionsOf_53 rfl 2 rfl ?_
          refine am_iload_n 54 C dX8_contradictionsOf_54 rfl 3 rfl ?_
          refine am_aload_n 55 C dX8_contradictionsOf_55 rfl 1 rfl ?_
          refine as_getr 56 C fl_X8_27_7 dX8_contradictionsOf_56 (by decide) sh_16 (rf_16_11 _ _) ?_
          refine am_iconst 59 (nI 4) C dX8_contradictionsOf_59 (by decide) ?_
          refine am_iload 60 C dX8_contradictionsOf_60 5 rfl ?_
          refine am_imul 62 C dX8_contradictionsOf_62 ?_
          refine am_iconst 63 (nI 2) C dX8_contradictionsOf_63 (by decide) ?_
          refine am_iadd 64 C dX8_contradictionsOf_64 ?_
          obtain ⟨v10, hv10, E⟩ := am_ltE E
          refine as_nm hv10 ?_
          obtain ⟨g11, E⟩ := am_gdE E
          refine as_iald 65 C dX8_contradictionsOf_65 (by decide) sh_22 g11 ?_
          refine am_iadd 66 C dX8_contradictionsOf_66 ?_
          obtain ⟨v12, hv12, E⟩ := am_ltE E
          refine as_nm hv12 ?_
          obtain ⟨g13, E⟩ := am_gdE E
          refine as_iald 67 C dX8_contradictionsOf_67 ma1.2 ma1.1 g13 ?_
          refine am_aload_n 68 C dX8_contradictionsOf_68 rfl 1 rfl ?_
          refine as_getr 69 C fl_X8_27_7 dX8_contradictionsOf_69 (by decide) sh_16 (rf_16_11 _ _) ?_
          refine am_iconst 72 (nI 4) C dX8_contradictionsOf_72 (by decide) ?_
          refine am_iload 73 C dX8_contradictionsOf_73 5 rfl ?_
          refine am_imul 75 C dX8_contradictionsOf_75 ?_
          refine am_iconst 76 (nI 3) C dX8_contradictionsOf_76 (by decide) ?_
          refine am_iadd 77 C dX8_contradictionsOf_77 ?_
          obtain ⟨v14, hv14, E⟩ := am_ltE E
          refine as_nm hv14 ?_
          obtain ⟨g15, E⟩ := am_gdE E
          refine as_iald 78 C dX8_contradictionsOf_78 (by decide) sh_22 g15 ?_
          refine am_icmp_eq 79 85 C dX8_contradictionsOf_79 (by decide) (fun c19 => ?_) (fun c19 => ?_)
          · have E := am_ifT E c19
            obtain ⟨v16, hv16, E⟩ := am_ltE E
            refine as_iinc 85 (q := (1 : Int32)) (lv2 := [(4, .int v16), (5, .int v6), (0, .ref 16), (1, .ref a1), (2, .int p2), (3, .int v7)]) C dX8_contradictionsOf_85 5 rfl (by decide) hv16 (by decide) rfl ?_
            refine am_goto 88 5 C dX8_contradictionsOf_88 (by decide) ?_
            replace E := Option.some.inj E
            replace E := am_exL E Er3
            refine am_lvs [2, 3, 4, 5, 0] rfl ?_
            exact ih3 _ _ E
          · have E := am_ifF E c19
            obtain ⟨v17, hv17, E⟩ := am_ltE E
            refine as_iinc 82 (q := (1 : Int32)) (lv2 := [(3, .int v17), (5, .int v6), (0, .ref 16), (1, .ref a1), (2, .int p2), (4, .int v8)]) C dX8_contradictionsOf_82 4 rfl (by decide) hv17 (by decide) rfl ?_
            obtain ⟨v18, hv18, E⟩ := am_ltE E
            refine as_iinc 85 (q := (1 : Int32)) (lv2 := [(4, .int v18), (3, .int v17), (5, .int v6), (0, .ref 16), (1, .ref a1), (2, .int p2)]) C dX8_contradictionsOf_85 5 rfl (by decide) hv18 (by decide) rfl ?_
            refine am_goto 88 5 C dX8_contradictionsOf_88 (by decide) ?_
            replace E := Option.some.inj E
            replace E := am_exL E Er3
            refine am_lvs [3, 4, 5, 1, 0] rfl ?_
            exact ih3 _ _ E
      refine am_iload 5 C dX8_contradictionsOf_5 4 rfl ?_
      refine am_aload_n 7 C dX8_contradictionsOf_7 rfl 0 rfl ?_
      refine as_geti 8 C fl_X8_50_7 dX8_contradictionsOf_8 (by decide) sh_16 ?_
      refine am_icmp_ge 11 91 C dX8_contradictionsOf_11 (by decide) (fun c28 => ?_) (fun c28 => ?_)
      · have E := am_ifT E c28
        refine am_iload_n 91 C dX8_contradictionsOf_91 rfl 3 rfl ?_
        replace E := Option.some.inj E
        replace E := am_exR E Er3
        subst E
        exact as_iret 92 C Z rfl dX8_contradictionsOf_92
      · have E := am_ifF E c28
        refine am_aload_n 14 C dX8_contradictionsOf_14 rfl 1 rfl ?_
        refine am_iload_n 15 C dX8_contradictionsOf_15 rfl 2 rfl ?_
        refine am_aload_n 16 C dX8_contradictionsOf_16 rfl 0 rfl ?_
        refine as_getr 17 C fl_X8_27_7 dX8_contradictionsOf_17 (by decide) sh_16 (rf_16_11 _ _) ?_
        refine am_iconst 20 (nI 4) C dX8_contradictionsOf_20 (by decide) ?_
        refine am_iload 21 C dX8_contradictionsOf_21 4 rfl ?_
        refine am_imul 23 C dX8_contradictionsOf_23 ?_
        obtain ⟨v21, hv21, E⟩ := am_ltE E
        refine as_nm hv21 ?_
        obtain ⟨g22, E⟩ := am_gdE E
        refine as_iald 24 C dX8_contradictionsOf_24 (by decide) sh_22 g22 ?_
        refine am_iadd 25 C dX8_contradictionsOf_25 ?_
        obtain ⟨v23, hv23, E⟩ := am_ltE E
        refine as_nm hv23 ?_
        obtain ⟨g24, E⟩ := am_gdE E
        refine as_iald 26 C dX8_contradictionsOf_26 ma1.2 ma1.1 g24 ?_
        refine am_aload_n 27 C dX8_contradictionsOf_27 rfl 0 rfl ?_
        refine as_getr 28 C fl_X8_27_7 dX8_contradictionsOf_28 (by decide) sh_16 (rf_16_11 _ _) ?_
        refine am_iconst 31 (nI 4) C dX8_contradictionsOf_31 (by decide) ?_
        refine am_iload 32 C dX8_contradictionsOf_32 4 rfl ?_
        refine am_imul 34 C dX8_contradictionsOf_34 ?_
        refine am_iconst 35 (1 : Int32) C dX8_contradictionsOf_35 (by decide) ?_
        refine am_iadd 36 C dX8_contradictionsOf_36 ?_
        obtain ⟨v25, hv25, E⟩ := am_ltE E
        refine as_nm hv25 ?_
        obtain ⟨g26, E⟩ := am_gdE E
        refine as_iald 37 C dX8_contradictionsOf_37 (by decide) sh_22 g26 ?_
        refine am_icmp_ne 38 45 C dX8_contradictionsOf_38 (by decide) (fun c27 => ?_) (fun c27 => ?_)
        · have E := am_ifF E c27
          refine am_iconst 45 (0 : Int32) C dX8_contradictionsOf_45 (by decide) ?_
          refine am_lvs [0, 1, 2, 3, 4] rfl ?_
          exact K46 _ _ _ E
        · have E := am_ifT E c27
          refine am_iconst 41 (1 : Int32) C dX8_contradictionsOf_41 (by decide) ?_
          refine am_goto 42 46 C dX8_contradictionsOf_42 (by decide) ?_
          refine am_lvs [0, 1, 2, 3, 4] rfl ?_
          exact K46 _ _ _ E
  refine am_lvs [2, 3, 4, 1, 0] rfl ?_
  exact LP3 am_F _ _ E
def b_X8_reachesAll_2 (p1 : Int32) (s0 : am_S) (v3 : Int32) : Option ((Int32) ⊕ (Int32)) :=
  am_if ((s0.1 16 3) ≤ v3) (some (Sum.inr (1 : Int32))) (am_gd (¬ v3 < 0 ∧ (v3).toNatClampNeg < 7) (am_if (((s0.1 21 (v3).toNatClampNeg) &&& p1) = 0) (some (Sum.inr (0 : Int32))) (am_lt (v3 + (1 : Int32)) (fun v5 => some (Sum.inl v5)))))
def f_X8_reachesAll (p1 : Int32) (s0 : am_S) : Option (Int32) :=
  am_lp (fun (q : Int32) => b_X8_reachesAll_2 p1 s0 q) am_F (0 : Int32)
set_option maxRecDepth 100000 in
set_option maxHeartbeats 4000000 in
theorem t_X8_reachesAll (p1 : Int32) (s0 : am_S) {z : Int32} (E : f_X8_reachesAll p1 s0 = some z) : AS yX8_reachesAll cX8_reachesAll 3 (some .boolean) 1 [.ref 16, .int p1] s0 (some (.int z)) s0 := by
  unfold f_X8_reachesAll at E
  refine as_met (lv := [(0, .ref 16), (1, .int p1)]) (by decide +kernel) (by simp [lg_sl, Value.category]) rfl (fun x C A Z => ?_)
  refine am_iconst 0 (0 : Int32) C dX8_reachesAll_0 (by decide) ?_
  refine am_istore_n 1 (lv2 := [(2, .int (0 : Int32)), (0, .ref 16), (1, .int p1)]) C dX8_reachesAll_1 rfl (by decide) rfl ?_
  have LP2 : ∀ (n : Nat) (v3 : Int32), am_lp (fun (q : Int32) => b_X8_reachesAll_2 p1 s0 q) n v3 = some z → AX x 0 0 2 [(0, .ref 16), (1, .int p1), (2, .int v3)] [] am_N (am_h s0) := by
    intro n
    induction n with
    | zero => intro v3 E; exact (am_lp0 E).elim
    | succ n ih2 =>
      intro v3 E
      obtain ⟨r2, E, Er2⟩ := am_lpE E
      replace E : b_X8_reachesAll_2 p1 s0 v3 = some r2 := E
      unfold b_X8_reachesAll_2 at E
      refine am_iload_n 2 C dX8_reachesAll_2 rfl 2 rfl ?_
      refine am_aload_n 3 C dX8_reachesAll_3 rfl 0 rfl ?_
      refine as_geti 4 C fl_X8_44_7 dX8_reachesAll_4 (by decide) sh_16 ?_
      refine am_icmp_ge 7 29 C dX8_reachesAll_7 (by decide) (fun c7 => ?_) (fun c7 => ?_)
      · have E := am_ifT E c7
        refine am_iconst 29 (1 : Int32) C dX8_reachesAll_29 (by decide) ?_
        replace E := Option.some.inj E
        replace E := am_exR E Er2
        subst E
        exact as_iret 30 C Z rfl dX8_reachesAll_30
      · have E := am_ifF E c7
        refine am_aload_n 10 C dX8_reachesAll_10 rfl 0 rfl ?_
        refine as_getr 11 C fl_X8_24_7 dX8_reachesAll_11 (by decide) sh_16 (rf_16_9 _ _) ?_
        refine am_iload_n 14 C dX8_reachesAll_14 rfl 2 rfl ?_
        obtain ⟨g4, E⟩ := am_gdE E
        refine as_iald 15 C dX8_reachesAll_15 (by decide) sh_21 g4 ?_
        refine am_iload_n 16 C dX8_reachesAll_16 rfl 1 rfl ?_
        refine am_iand 17 C dX8_reachesAll_17 ?_
        refine am_if_ne 18 23 C dX8_reachesAll_18 (by decide) (fun c6 => ?_) (fun c6 => ?_)
        · have E := am_ifF E c6
          obtain ⟨v5, hv5, E⟩ := am_ltE E
          refine as_iinc 23 (q := (1 : Int32)) (lv2 := [(2, .int v5), (0, .ref 16), (1, .int p1)]) C dX8_reachesAll_23 2 rfl (by decide) hv5 (by decide) rfl ?_
          refine am_goto 26 2 C dX8_reachesAll_26 (by decide) ?_
          replace E := Option.some.inj E
          replace E := am_exL E Er2
          refine am_lvs [1, 2, 0] rfl ?_
          exact ih2 _ E
        · have E := am_ifT E c6
          refine am_iconst 21 (0 : Int32) C dX8_reachesAll_21 (by decide) ?_
          replace E := Option.some.inj E
          replace E := am_exR E Er2
          subst E
          exact as_iret 22 C Z rfl dX8_reachesAll_22
  refine am_lvs [1, 2, 0] rfl ?_
  exact LP2 am_F _ E
def b_X8_spread_5 (p1 : Int32) (p2 : Int32) (s0 : am_S) (v4 : Int32) (v5 : Int32) : Option ((Int32 × Int32) ⊕ (Int32)) :=
  am_if ((s0.1 16 6) ≤ v5) (some (Sum.inr v4)) (am_bd (f_X11_bit p2 v5) (fun v6 => am_if (v6 = 0) (am_gd (¬ v5 < 0 ∧ (v5).toNatClampNeg < 10) (am_gd (¬ v5 < 0 ∧ (v5).toNatClampNeg < 10) (am_lt (((1 : Int32) <<< ((s0.1 19 (v5).toNatClampNeg) &&& 31)) ||| ((1 : Int32) <<< ((s0.1 20 (v5).toNatClampNeg) &&& 31))) (fun v10 => am_if ((p1 &&& v10) = 0) (am_lt (v4 ||| (0 : Int32)) (fun v11 => am_lt (v5 + (1 : Int32)) (fun v12 => some (Sum.inl (v11, v12))))) (am_lt (v4 ||| v10) (fun v13 => am_lt (v5 + (1 : Int32)) (fun v14 => some (Sum.inl (v13, v14))))))))) (am_lt (v5 + (1 : Int32)) (fun v7 => some (Sum.inl (v4, v7))))))
def f_X8_spread (p1 : Int32) (p2 : Int32) (s0 : am_S) : Option (Int32) :=
  am_lp (fun (q : Int32 × Int32) => b_X8_spread_5 p1 p2 s0 q.1 q.2) am_F (p1, (0 : Int32))
set_option maxRecDepth 100000 in
set_option maxHeartbeats 4000000 in
theorem t_X8_spread (p1 : Int32) (p2 : Int32) (s0 : am_S) {z : Int32} (E : f_X8_spread p1 p2 s0 = some z) : AS yX8_spread cX8_spread 6 (some .int) 2 [.ref 16, .int p1, .int p2] s0 (some (.int z)) s0 := by
  unfold f_X8_spread at E
  refine as_met (lv := [(0, .ref 16), (1, .int p1), (2, .int p2)]) (by decide +kernel) (by simp [lg_sl, Value.category]) rfl (fun x C A Z => ?_)
  refine am_iload_n 0 C dX8_spread_0 rfl 1 rfl ?_
  refine am_istore_n 1 (lv2 := [(3, .int p1), (0, .ref 16), (1, .int p1), (2, .int p2)]) C dX8_spread_1 rfl (by decide) rfl ?_
  refine am_iconst 2 (0 : Int32) C dX8_spread_2 (by decide) ?_
  refine am_istore 3 (lv2 := [(4, .int (0 : Int32)), (3, .int p1), (0, .ref 16), (1, .int p1), (2, .int p2)]) C dX8_spread_3 (by decide) rfl ?_
  have LP3 : ∀ (n : Nat) (v4 : Int32) (v5 : Int32), am_lp (fun (q : Int32 × Int32) => b_X8_spread_5 p1 p2 s0 q.1 q.2) n (v4, v5) = some z → AX x 0 0 5 [(0, .ref 16), (1, .int p1), (2, .int p2), (3, .int v4), (4, .int v5)] [] am_N (am_h s0) := by
    intro n
    induction n with
    | zero => intro v4 v5 E; exact (am_lp0 E).elim
    | succ n ih3 =>
      intro v4 v5 E
      obtain ⟨r3, E, Er3⟩ := am_lpE E
      replace E : b_X8_spread_5 p1 p2 s0 v4 v5 = some r3 := E
      unfold b_X8_spread_5 at E
      refine am_iload 5 C dX8_spread_5 4 rfl ?_
      refine am_aload_n 7 C dX8_spread_7 rfl 0 rfl ?_
      refine as_geti 8 C fl_X8_47_7 dX8_spread_8 (by decide) sh_16 ?_
      refine am_icmp_ge 11 66 C dX8_spread_11 (by decide) (fun c17 => ?_) (fun c17 => ?_)
      · have E := am_ifT E c17
        refine am_iload_n 66 C dX8_spread_66 rfl 3 rfl ?_
        replace E := Option.some.inj E
        replace E := am_exR E Er3
        subst E
        exact as_iret 67 C Z rfl dX8_spread_67
      · have E := am_ifF E c17
        refine am_iload_n 14 C dX8_spread_14 rfl 2 rfl ?_
        refine am_iload 15 C dX8_spread_15 4 rfl ?_
        obtain ⟨v6, Ec, E⟩ := am_bdE E
        refine as_callSN 17 (s2 := s0) (st := []) (st2 := [.int v6]) [.int p2, .int v5] C A (by decide) mn_X8_82 yc_X11_bit ys_X11_bit (t_X11_bit p2 v5 s0 Ec) rfl rfl (Nat.le_of_ble_eq_true rfl) rfl dX8_spread_17 ?_
        refine am_if_ne 20 60 C dX8_spread_20 (by decide) (fun c16 => ?_) (fun c16 => ?_)
        · have E := am_ifF E c16
          obtain ⟨v7, hv7, E⟩ := am_ltE E
          refine as_iinc 60 (q := (1 : Int32)) (lv2 := [(4, .int v7), (0, .ref 16), (1, .int p1), (2, .int p2), (3, .int v4)]) C dX8_spread_60 4 rfl (by decide) hv7 (by decide) rfl ?_
          refine am_goto 63 5 C dX8_spread_63 (by decide) ?_
          replace E := Option.some.inj E
          replace E := am_exL E Er3
          refine am_lvs [1, 2, 3, 4, 0] rfl ?_
          exact ih3 _ _ E
        · have E := am_ifT E c16
          refine am_iconst 23 (1 : Int32) C dX8_spread_23 (by decide) ?_
          refine am_aload_n 24 C dX8_spread_24 rfl 0 rfl ?_
          refine as_getr 25 C fl_X8_18_7 dX8_spread_25 (by decide) sh_16 (rf_16_7 _ _) ?_
          refine am_iload 28 C dX8_spread_28 4 rfl ?_
          obtain ⟨g8, E⟩ := am_gdE E
          refine as_iald 30 C dX8_spread_30 (by decide) sh_19 g8 ?_
          refine am_ishl 31 C dX8_spread_31 ?_
          refine am_iconst 32 (1 : Int32) C dX8_spread_32 (by decide) ?_
          refine am_aload_n 33 C dX8_spread_33 rfl 0 rfl ?_
          refine as_getr 34 C fl_X8_21_7 dX8_spread_34 (by decide) sh_16 (rf_16_8 _ _) ?_
          refine am_iload 37 C dX8_spread_37 4 rfl ?_
          obtain ⟨g9, E⟩ := am_gdE E
          refine as_iald 39 C dX8_spread_39 (by decide) sh_20 g9 ?_
          refine am_ishl 40 C dX8_spread_40 ?_
          refine am_ior 41 C dX8_spread_41 ?_
          obtain ⟨v10, hv10, E⟩ := am_ltE E
          refine as_nm hv10 ?_
          refine am_istore 42 (lv2 := [(5, .int v10), (0, .ref 16), (1, .int p1), (2, .int p2), (3, .int v4), (4, .int v5)]) C dX8_spread_42 (by decide) rfl ?_
          refine am_iload_n 44 C dX8_spread_44 rfl 4 rfl ?_
          refine am_iload_n 45 C dX8_spread_45 rfl 2 rfl ?_
          refine am_iload 46 C dX8_spread_46 0 rfl ?_
          refine am_iand 48 C dX8_spread_48 ?_
          refine am_if_eq 49 57 C dX8_spread_49 (by decide) (fun c15 => ?_) (fun c15 => ?_)
          · have E := am_ifT E c15
            refine am_iconst 57 (0 : Int32) C dX8_spread_57 (by decide) ?_
            refine am_ior 58 C dX8_spread_58 ?_
            obtain ⟨v11, hv11, E⟩ := am_ltE E
            refine as_nm hv11 ?_
            refine am_istore_n 59 (lv2 := [(3, .int v11), (5, .int v10), (0, .ref 16), (1, .int p1), (2, .int p2), (4, .int v5)]) C dX8_spread_59 rfl (by decide) rfl ?_
            obtain ⟨v12, hv12, E⟩ := am_ltE E
            refine as_iinc 60 (q := (1 : Int32)) (lv2 := [(4, .int v12), (3, .int v11), (5, .int v10), (0, .ref 16), (1, .int p1), (2, .int p2)]) C dX8_spread_60 5 rfl (by decide) hv12 (by decide) rfl ?_
            refine am_goto 63 5 C dX8_spread_63 (by decide) ?_
            replace E := Option.some.inj E
            replace E := am_exL E Er3
            refine am_lvs [3, 4, 5, 1, 0] rfl ?_
            exact ih3 _ _ E
          · have E := am_ifF E c15
            refine am_iload 52 C dX8_spread_52 0 rfl ?_
            refine am_goto 54 58 C dX8_spread_54 (by decide) ?_
            refine am_ior 58 C dX8_spread_58 ?_
            obtain ⟨v13, hv13, E⟩ := am_ltE E
            refine as_nm hv13 ?_
            refine am_istore_n 59 (lv2 := [(3, .int v13), (5, .int v10), (0, .ref 16), (1, .int p1), (2, .int p2), (4, .int v5)]) C dX8_spread_59 rfl (by decide) rfl ?_
            obtain ⟨v14, hv14, E⟩ := am_ltE E
            refine as_iinc 60 (q := (1 : Int32)) (lv2 := [(4, .int v14), (3, .int v13), (5, .int v10), (0, .ref 16), (1, .int p1), (2, .int p2)]) C dX8_spread_60 5 rfl (by decide) hv14 (by decide) rfl ?_
            refine am_goto 63 5 C dX8_spread_63 (by decide) ?_
            replace E := Option.some.inj E
            replace E := am_exL E Er3
            refine am_lvs [3, 4, 5, 1, 0] rfl ?_
            exact ih3 _ _ E
  refine am_lvs [2, 3, 4, 1, 0] rfl ?_
  exact LP3 am_F _ _ E
def b_X8_distance_8 (p2 : Int32) (p3 : Int32) (s0 : am_S) (v6 : Int32) (v7 : Int32) : Option ((Int32 × Int32) ⊕ (Int32)) :=
  am_if ((nI 7) ≤ v7) (some (Sum.inr (-2 : Int32))) (am_bd (f_X11_bit v6 p2) (fun v8 => am_if (v8 = (1 : Int32)) (some (Sum.inr v7)) (am_bd (f_X8_spread v6 p3 s0) (fun v9 => am_lt (v7 + (1 : Int32)) (fun v10 => some (Sum.inl (v9, v10)))))))
def f_X8_distance (p1 : Int32) (p2 : Int32) (p3 : Int32) (s0 : am_S) : Option (Int32) :=
  am_lt ((1 : Int32) <<< (p1 &&& 31)) (fun v4 => am_lp (fun (q : Int32 × Int32) => b_X8_distance_8 p2 p3 s0 q.1 q.2) am_F (v4, (0 : Int32)))
set_option maxRecDepth 100000 in
set_option maxHeartbeats 4000000 in
theorem t_X8_distance (p1 : Int32) (p2 : Int32) (p3 : Int32) (s0 : am_S) {z : Int32} (E : f_X8_distance p1 p2 p3 s0 = some z) : AS yX8_distance cX8_distance 6 (some .int) 3 [.ref 16, .int p1, .int p2, .int p3] s0 (some (.int z)) s0 := by
  unfold f_X8_distance at E
  refine as_met (lv := [(0, .ref 16), (1, .int p1), (2, .int p2), (3, .int p3)]) (by decide +kernel) (by simp [lg_sl, Value.category]) rfl (fun x C A Z => ?_)
  refine am_iconst 0 (1 : Int32) C dX8_distance_0 (by decide) ?_
  refine am_iload_n 1 C dX8_distance_1 rfl 1 rfl ?_
  refine am_ishl 2 C dX8_distance_2 ?_
  obtain ⟨v4, hv4, E⟩ := am_ltE E
  refine as_nm hv4 ?_
  refine am_istore 3 (lv2 := [(4, .int v4), (0, .ref 16), (1, .int p1), (2, .int p2), (3, .int p3)]) C dX8_distance_3 (by decide) rfl ?_
  refine am_iconst 5 (0 : Int32) C dX8_distance_5 (by decide) ?_
  refine am_istore 6 (lv2 := [(5, .int (0 : Int32)), (4, .int v4), (0, .ref 16), (1, .int p1), (2, .int p2), (3, .int p3)]) C dX8_distance_6 (by decide) rfl ?_
  have LP5 : ∀ (n : Nat) (v6 : Int32) (v7 : Int32), am_lp (fun (q : Int32 × Int32) => b_X8_distance_8 p2 p3 s0 q.1 q.2) n (v6, v7) = some z → AX x 0 0 8 [(0, .ref 16), (2, .int p2), (3, .int p3), (4, .int v6), (5, .int v7)] [] am_N (am_h s0) := by
    intro n
    induction n with
    | zero => intro v6 v7 E; exact (am_lp0 E).elim
    | succ n ih5 =>
      intro v6 v7 E
      obtain ⟨r5, E, Er5⟩ := am_lpE E
      replace E : b_X8_distance_8 p2 p3 s0 v6 v7 = some r5 := E
      unfold b_X8_distance_8 at E
      refine am_iload 8 C dX8_distance_8 4 rfl ?_
      refine am_bipush 10 (nI 7) C dX8_distance_10 (by decide) ?_
      refine am_icmp_ge 12 43 C dX8_distance_12 (by decide) (fun c12 => ?_) (fun c12 => ?_)
      · have E := am_ifT E c12
        refine am_bipush 43 (-2 : Int32) C dX8_distance_43 (by decide) ?_
        replace E := Option.some.inj E
        replace E := am_exR E Er5
        subst E
        exact as_iret 45 C Z rfl dX8_distance_45
      · have E := am_ifF E c12
        refine am_iload 15 C dX8_distance_15 3 rfl ?_
        refine am_iload_n 17 C dX8_distance_17 rfl 1 rfl ?_
        obtain ⟨v8, Ec, E⟩ := am_bdE E
        refine as_callSN 18 (s2 := s0) (st := []) (st2 := [.int v8]) [.int v6, .int p2] C A (by decide) mn_X8_82 yc_X11_bit ys_X11_bit (t_X11_bit v6 p2 s0 Ec) rfl rfl (Nat.le_of_ble_eq_true rfl) rfl dX8_distance_18 ?_
        refine am_iconst 21 (1 : Int32) C dX8_distance_21 (by decide) ?_
        refine am_icmp_ne 22 28 C dX8_distance_22 (by decide) (fun c11 => ?_) (fun c11 => ?_)
        · have E := am_ifF E c11
          refine am_aload_n 28 C dX8_distance_28 rfl 0 rfl ?_
          refine am_iload 29 C dX8_distance_29 3 rfl ?_
          refine am_iload_n 31 C dX8_distance_31 rfl 2 rfl ?_
          obtain ⟨v9, Ec, E⟩ := am_bdE E
          refine as_callV 32 (s2 := s0) (st := []) (st2 := [.int v9]) [.int v6, .int p3] C A (by decide) ml_X8_90 yc_X8_spread yv_X8_spread (t_X8_spread v6 p3 s0 Ec) (by decide) sh_16 rfl rfl (Nat.le_of_ble_eq_true rfl) rfl dX8_distance_32 ?_
          refine am_istore 35 (lv2 := [(4, .int v9), (0, .ref 16), (2, .int p2), (3, .int p3), (5, .int v7)]) C dX8_distance_35 (by decide) rfl ?_
          obtain ⟨v10, hv10, E⟩ := am_ltE E
          refine as_iinc 37 (q := (1 : Int32)) (lv2 := [(5, .int v10), (4, .int v9), (0, .ref 16), (2, .int p2), (3, .int p3)]) C dX8_distance_37 4 rfl (by decide) hv10 (by decide) rfl ?_
          refine am_goto 40 8 C dX8_distance_40 (by decide) ?_
          replace E := Option.some.inj E
          replace E := am_exL E Er5
          refine am_lvs [2, 3, 4, 1, 0] rfl ?_
          exact ih5 _ _ E
        · have E := am_ifT E c11
          refine am_iload 25 C dX8_distance_25 4 rfl ?_
          replace E := Option.some.inj E
          replace E := am_exR E Er5
          subst E
          exact as_iret 27 C Z rfl dX8_distance_27
  refine am_lvs [2, 4, 5, 1, 0] rfl ?_
  exact LP5 am_F _ _ E
def f_X9_begin  (s0 : am_S) : Option (am_S) :=
  am_bd (f_X8_clear s0) (fun s1 => some s1)
set_option maxRecDepth 100000 in
set_option maxHeartbeats 4000000 in
theorem t_X9_begin (s0 : am_S) {z : am_S} (E : f_X9_begin  s0 = some z) : AS yX9_begin cX9_begin 2 none 3 [.ref 246, .ref 6] s0 none z := by
  unfold f_X9_begin at E
  refine as_met (lv := [(0, .ref 246), (1, .ref 6)]) (by decide +kernel) (by simp [lg_sl, Value.category]) rfl (fun x C A Z => ?_)
  refine am_aload_n 0 C dX9_begin_0 rfl 0 rfl ?_
  refine am_aload_n 1 C dX9_begin_1 rfl 1 rfl ?_
  refine as_putw 2 C fl_X9_9_8 dX9_begin_2 sh_246 ?_
  refine am_aload_n 5 C dX9_begin_5 rfl 0 rfl ?_
  refine as_getr 6 C fl_X9_9_8 dX9_begin_6 (by decide) sh_246 (rf_246_1 _ _) ?_
  obtain ⟨s1, Ec, E⟩ := am_bdE E
  refine as_callV 9 (s2 := s1) (st := []) (st2 := []) [] C A (by decide) ml_X9_15 yc_X8_clear yv_X8_clear (t_X8_clear  s0 Ec) (by decide) sh_6 rfl rfl (Nat.le_of_ble_eq_true rfl) rfl dX9_begin_9 ?_
  replace E := Option.some.inj E
  subst E
  exact as_vret 12 C Z dX9_begin_12
def f_X9_isOneTooMany (p1 : Int32) (p2 : Int32) (s0 : am_S) : Option (Int32) :=
  am_if (p2 = 0) (am_if (p1 = 0) (some (0 : Int32)) (some (1 : Int32))) (am_if (p1 = (0 : Int32)) (some (1 : Int32)) (am_if (p1 = (1 : Int32)) (am_if ((s0.1 6 3) < (nI 7)) (some (0 : Int32)) (some (1 : Int32))) (am_if (p1 = (nI 2)) (some (0 : Int32)) (am_if (p1 = (nI 3)) (am_if ((s0.1 6 6) < (nI 10)) (some (0 : Int32)) (some (1 : Int32))) (am_if (p1 = (nI 4)) (am_if ((s0.1 6 10) < (nI 10)) (some (0 : Int32)) (some (1 : Int32))) (am_if (p1 = (nI 5)) (am_if ((s0.1 6 12) < (nI 10)) (some (0 : Int32)) (some (1 : Int32))) (am_if (p1 = (nI 6)) (some (0 : Int32)) (am_if (p1 = (nI 7)) (am_gd ((s0.1 6 15) = 0 ∨ (s0.1 6 15) = 1) (some (s0.1 6 15))) (some (0 : Int32))))))))))
set_option maxRecDepth 100000 in
set_option maxHeartbeats 4000000 in
theorem t_X9_isOneTooMany (p1 : Int32) (p2 : Int32) (s0 : am_S) {z : Int32} (E : f_X9_isOneTooMany p1 p2 s0 = some z) : AS yX9_isOneTooMany cX9_isOneTooMany 3 (some .boolean) 1 [.ref 246, .int p1, .int p2] s0 (some (.int z)) s0 := by
  unfold f_X9_isOneTooMany at E
  refine as_met (lv := [(0, .ref 246), (1, .int p1), (2, .int p2)]) (by decide +kernel) (by simp [lg_sl, Value.category]) rfl (fun x C A Z => ?_)
  refine am_iload_n 0 C dX9_isOneTooMany_0 rfl 2 rfl ?_
  refine am_if_ne 1 14 C dX9_isOneTooMany_1 (by decide) (fun c17 => ?_) (fun c17 => ?_)
  · have E := am_ifF E c17
    refine am_iload_n 14 C dX9_isOneTooMany_14 rfl 1 rfl ?_
    by_cases c3 : p1 = (0 : Int32)
    · have E := am_ifT E c3
      refine am_tabIn 15 60 C dX9_isOneTooMany_15 (by rw [c3]; decide) (by rw [c3]; decide) (by rw [c3]; rfl) (by decide) ?_
      refine am_iconst 60 (1 : Int32) C dX9_isOneTooMany_60 (by decide) ?_
      replace E := Option.some.inj E
      subst E
      exact as_iret 61 C Z rfl dX9_isOneTooMany_61
    · have E := am_ifF E c3
      by_cases c5 : p1 = (1 : Int32)
      · have E := am_ifT E c5
        refine am_tabIn 15 62 C dX9_isOneTooMany_15 (by rw [c5]; decide) (by rw [c5]; decide) (by rw [c5]; rfl) (by decide) ?_
        refine am_aload_n 62 C dX9_isOneTooMany_62 rfl 0 rfl ?_
        refine as_getr 63 C fl_X9_9_8 dX9_isOneTooMany_63 (by decide) sh_246 (rf_246_1 _ _) ?_
        refine as_geti 66 C fl_X9_45_7 dX9_isOneTooMany_66 (by decide) sh_6 ?_
        refine am_bipush 69 (nI 7) C dX9_isOneTooMany_69 (by decide) ?_
        refine am_icmp_lt 71 78 C dX9_isOneTooMany_71 (by decide) (fun c4 => ?_) (fun c4 => ?_)
        · have E := am_ifT E c4
          refine am_iconst 78 (0 : Int32) C dX9_isOneTooMany_78 (by decide) ?_
          replace E := Option.some.inj E
          subst E
          exact as_iret 79 C Z rfl dX9_isOneTooMany_79
        · have E := am_ifF E c4
          refine am_iconst 74 (1 : Int32) C dX9_isOneTooMany_74 (by decide) ?_
          refine am_goto 75 79 C dX9_isOneTooMany_75 (by decide) ?_
          replace E := Option.some.inj E
          subst E
          exact as_iret 79 C Z rfl dX9_isOneTooMany_79
      · have E := am_ifF E c5
        by_cases c6 : p1 = (nI 2)
        · have E := am_ifT E c6
          refine am_tabIn 15 142 C dX9_isOneTooMany_15 (by rw [c6]; decide) (by rw [c6]; decide) (by rw [c6]; rfl) (by decide) ?_
          refine am_iconst 142 (0 : Int32) C dX9_isOneTooMany_142 (by decide) ?_
          replace E := Option.some.inj E
          subst E
          exact as_iret 143 C Z rfl dX9_isOneTooMany_143
        · have E := am_ifF E c6
          by_cases c8 : p1 = (nI 3)
          · have E := am_ifT E c8
            refine am_tabIn 15 80 C dX9_isOneTooMany_15 (by rw [c8]; decide) (by rw [c8]; decide) (by rw [c8]; rfl) (by decide) ?_
            refine am_aload_n 80 C dX9_isOneTooMany_80 rfl 0 rfl ?_
            refine as_getr 81 C fl_X9_9_8 dX9_isOneTooMany_81 (by decide) sh_246 (rf_246_1 _ _) ?_
            refine as_geti 84 C fl_X9_49_7 dX9_isOneTooMany_84 (by decide) sh_6 ?_
            refine am_bipush 87 (nI 10) C dX9_isOneTooMany_87 (by decide) ?_
            refine am_icmp_lt 89 96 C dX9_isOneTooMany_89 (by decide) (fun c7 => ?_) (fun c7 => ?_)
            · have E := am_ifT E c7
              refine am_iconst 96 (0 : Int32) C dX9_isOneTooMany_96 (by decide) ?_
              replace E := Option.some.inj E
              subst E
              exact as_iret 97 C Z rfl dX9_isOneTooMany_97
            · have E := am_ifF E c7
              refine am_iconst 92 (1 : Int32) C dX9_isOneTooMany_92 (by decide) ?_
              refine am_goto 93 97 C dX9_isOneTooMany_93 (by decide) ?_
              replace E := Option.some.inj E
              subst E
              exact as_iret 97 C Z rfl dX9_isOneTooMany_97
          · have E := am_ifF E c8
            by_cases c10 : p1 = (nI 4)
            · have E := am_ifT E c10
              refine am_tabIn 15 98 C dX9_isOneTooMany_15 (by rw [c10]; decide) (by rw [c10]; decide) (by rw [c10]; rfl) (by decide) ?_
              refine am_aload_n 98 C dX9_isOneTooMany_98 rfl 0 rfl ?_
              refine as_getr 99 C fl_X9_9_8 dX9_isOneTooMany_99 (by decide) sh_246 (rf_246_1 _ _) ?_
              refine as_geti 102 C fl_X9_52_7 dX9_isOneTooMany_102 (by decide) sh_6 ?_
              refine am_bipush 105 (nI 10) C dX9_isOneTooMany_105 (by decide) ?_
              refine am_icmp_lt 107 114 C dX9_isOneTooMany_107 (by decide) (fun c9 => ?_) (fun c9 => ?_)
              · have E := am_ifT E c9
                refine am_iconst 114 (0 : Int32) C dX9_isOneTooMany_114 (by decide) ?_
                replace E := Option.some.inj E
                subst E
                exact as_iret 115 C Z rfl dX9_isOneTooMany_115
              · have E := am_ifF E c9
                refine am_iconst 110 (1 : Int32) C dX9_isOneTooMany_110 (by decide) ?_
                refine am_goto 111 115 C dX9_isOneTooMany_111 (by decide) ?_
                replace E := Option.some.inj E
                subst E
                exact as_iret 115 C Z rfl dX9_isOneTooMany_115
            · have E := am_ifF E c10
              by_cases c12 : p1 = (nI 5)
              · have E := am_ifT E c12
                refine am_tabIn 15 116 C dX9_isOneTooMany_15 (by rw [c12]; decide) (by rw [c12]; decide) (by rw [c12]; rfl) (by decide) ?_
                refine am_aload_n 116 C dX9_isOneTooMany_116 rfl 0 rfl ?_
                refine as_getr 117 C fl_X9_9_8 dX9_isOneTooMany_117 (by decide) sh_246 (rf_246_1 _ _) ?_
                refine as_geti 120 C fl_X9_55_7 dX9_isOneTooMany_120 (by decide) sh_6 ?_
                refine am_bipush 123 (nI 10) C dX9_isOneTooMany_123 (by decide) ?_
                refine am_icmp_lt 125 132 C dX9_isOneTooMany_125 (by decide) (fun c11 => ?_) (fun c11 => ?_)
                · have E := am_ifT E c11
                  refine am_iconst 132 (0 : Int32) C dX9_isOneTooMany_132 (by decide) ?_
                  replace E := Option.some.inj E
                  subst E
                  exact as_iret 133 C Z rfl dX9_isOneTooMany_133
                · have E := am_ifF E c11
                  refine am_iconst 128 (1 : Int32) C dX9_isOneTooMany_128 (by decide) ?_
                  refine am_goto 129 133 C dX9_isOneTooMany_129 (by decide) ?_
                  replace E := Option.some.inj E
                  subst E
                  exact as_iret 133 C Z rfl dX9_isOneTooMany_133
              · have E := am_ifF E c12
                by_cases c13 : p1 = (nI 6)
                · have E := am_ifT E c13
                  refine am_tabIn 15 142 C dX9_isOneTooMany_15 (by rw [c13]; decide) (by rw [c13]; decide) (by rw [c13]; rfl) (by decide) ?_
                  refine am_iconst 142 (0 : Int32) C dX9_isOneTooMany_142 (by decide) ?_
                  replace E := Option.some.inj E
                  subst E
                  exact as_iret 143 C Z rfl dX9_isOneTooMany_143
                · have E := am_ifF E c13
                  by_cases c15 : p1 = (nI 7)
                  · have E := am_ifT E c15
                    refine am_tabIn 15 134 C dX9_isOneTooMany_15 (by rw [c15]; decide) (by rw [c15]; decide) (by rw [c15]; rfl) (by decide) ?_
                    refine am_aload_n 134 C dX9_isOneTooMany_134 rfl 0 rfl ?_
                    refine as_getr 135 C fl_X9_9_8 dX9_isOneTooMany_135 (by decide) sh_246 (rf_246_1 _ _) ?_
                    refine as_geti 138 C fl_X9_58_7 dX9_isOneTooMany_138 (by decide) sh_6 ?_
                    obtain ⟨g14, E⟩ := am_gdE E
                    replace E := Option.some.inj E
                    subst E
                    exact as_iret 141 C Z (am_nb g14) dX9_isOneTooMany_141
                  · have E := am_ifF E c15
                    have ec3 := am_neI c3 0 (by decide)
                    have ec5 := am_neI c5 1 (by decide)
                    have ec6 := am_neI c6 2 (by decide)
                    have ec8 := am_neI c8 3 (by decide)
                    have ec10 := am_neI c10 4 (by decide)
                    have ec12 := am_neI c12 5 (by decide)
                    have ec13 := am_neI c13 6 (by decide)
                    have ec15 := am_neI c15 7 (by decide)
                    refine am_tabOut 15 142 C dX9_isOneTooMany_15 (by omega) (by decide) ?_
                    refine am_iconst 142 (0 : Int32) C dX9_isOneTooMany_142 (by decide) ?_
                    replace E := Option.some.inj E
                    subst E
                    exact as_iret 143 C Z rfl dX9_isOneTooMany_143
  · have E := am_ifT E c17
    refine am_iload_n 4 C dX9_isOneTooMany_4 rfl 1 rfl ?_
    refine am_if_eq 5 12 C dX9_isOneTooMany_5 (by decide) (fun c16 => ?_) (fun c16 => ?_)
    · have E := am_ifT E c16
      refine am_iconst 12 (0 : Int32) C dX9_isOneTooMany_12 (by decide) ?_
      replace E := Option.some.inj E
      subst E
      exact as_iret 13 C Z rfl dX9_isOneTooMany_13
    · have E := am_ifF E c16
      refine am_iconst 8 (1 : Int32) C dX9_isOneTooMany_8 (by decide) ?_
      refine am_goto 9 13 C dX9_isOneTooMany_9 (by decide) ?_
      replace E := Option.some.inj E
      subst E
      exact as_iret 13 C Z rfl dX9_isOneTooMany_13
def f_X9_readFacts  (s0 : am_S) : Option (am_S) :=
  am_b2 (f_X7_readNumber (1 : Int32) (nI 8) s0) (fun v1 s2 => am_b2 (f_X7_readNumber (0 : Int32) (((1 : Int32) <<< (v1 &&& 31)) - (1 : Int32)) s2) (fun v3 s4 => am_lt (as_i s4 6 1 v1) (fun s5 => am_lt (as_i s5 6 2 v3) (fun s6 => some s6))))
set_option maxRecDepth 100000 in
set_option maxHeartbeats 4000000 in
theorem t_X9_readFacts (s0 : am_S) {z : am_S} (E : f_X9_readFacts  s0 = some z) : AS yX9_readFacts cX9_readFacts 3 none 3 [.ref 246] s0 none z := by
  unfold f_X9_readFacts at E
  refine as_met (lv := [(0, .ref 246)]) (by decide +kernel) (by simp [lg_sl, Value.category]) rfl (fun x C A Z => ?_)
  refine am_aload_n 0 C dX9_readFacts_0 rfl 0 rfl ?_
  refine as_getr 1 C fl_X9_21_8 dX9_readFacts_1 (by decide) sh_246 (rf_246_0 _ _) ?_
  refine am_iconst 4 (1 : Int32) C dX9_readFacts_4 (by decide) ?_
  refine am_bipush 5 (nI 8) C dX9_readFacts_5 (by decide) ?_
  obtain ⟨v1, s2, Ec, E⟩ := am_b2E E
  refine as_callV 7 (s2 := s2) (st := []) (st2 := [.int v1]) [.int (1 : Int32), .int (nI 8)] C A (by decide) ml_X9_83 yc_X7_readNumber yv_X7_readNumber (t_X7_readNumber (1 : Int32) (nI 8) s0 Ec) (by decide) sh_2 rfl rfl (Nat.le_of_ble_eq_true rfl) rfl dX9_readFacts_7 ?_
  refine am_istore_n 10 (lv2 := [(1, .int v1), (0, .ref 246)]) C dX9_readFacts_10 rfl (by decide) rfl ?_
  refine am_aload_n 11 C dX9_readFacts_11 rfl 1 rfl ?_
  refine as_getr 12 C fl_X9_21_8 dX9_readFacts_12 (by decide) sh_246 (rf_246_0 _ _) ?_
  refine am_iconst 15 (0 : Int32) C dX9_readFacts_15 (by decide) ?_
  refine am_iconst 16 (1 : Int32) C dX9_readFacts_16 (by decide) ?_
  refine am_iload_n 17 C dX9_readFacts_17 rfl 0 rfl ?_
  refine am_ishl 18 C dX9_readFacts_18 ?_
  refine am_iconst 19 (1 : Int32) C dX9_readFacts_19 (by decide) ?_
  refine am_isub 20 C dX9_readFacts_20 ?_
  obtain ⟨v3, s4, Ec, E⟩ := am_b2E E
  refine as_callV 21 (s2 := s4) (st := []) (st2 := [.int v3]) [.int (0 : Int32), .int (((1 : Int32) <<< (v1 &&& 31)) - (1 : Int32))] C A (by decide) ml_X9_83 yc_X7_readNumber yv_X7_readNumber (t_X7_readNumber (0 : Int32) (((1 : Int32) <<< (v1 &&& 31)) - (1 : Int32)) s2 Ec) (by decide) sh_2 rfl rfl (Nat.le_of_ble_eq_true rfl) rfl dX9_readFacts_21 ?_
  refine am_istore_n 24 (lv2 := [(2, .int v3), (1, .int v1), (0, .ref 246)]) C dX9_readFacts_24 rfl (by decide) rfl ?_
  refine am_aload_n 25 C dX9_readFacts_25 rfl 2 rfl ?_
  refine as_getr 26 C fl_X9_9_8 dX9_readFacts_26 (by decide) sh_246 (rf_246_1 _ _) ?_
  refine am_iload_n 29 C dX9_readFacts_29 rfl 1 rfl ?_
  obtain ⟨s5, hs5, E⟩ := am_ltE E
  refine as_puti 30 C fl_X9_87_7 dX9_readFacts_30 (by decide) sh_6 rfl rfl hs5 ?_
  refine am_aload_n 33 C dX9_readFacts_33 rfl 2 rfl ?_
  refine as_getr 34 C fl_X9_9_8 dX9_readFacts_34 (by decide) sh_246 (rf_246_1 _ _) ?_
  refine am_iload_n 37 C dX9_readFacts_37 rfl 0 rfl ?_
  obtain ⟨s6, hs6, E⟩ := am_ltE E
  refine as_puti 38 C fl_X9_90_7 dX9_readFacts_38 (by decide) sh_6 rfl rfl hs6 ?_
  replace E := Option.some.inj E
  subst E
  exact as_vret 41 C Z dX9_readFacts_41
def f_X9_readPerson  (s0 : am_S) : Option (am_S) :=
  am_b2 (f_X7_readNumber (0 : Int32) (((1 : Int32) <<< ((s0.1 6 1) &&& 31)) - (1 : Int32)) s0) (fun v1 s2 => am_bd (f_X7_fine s2) (fun v3 => am_if (v3 = 0) (some s2) (am_gd (¬ (s2.1 6 3) < 0 ∧ ((s2.1 6 3)).toNatClampNeg < 7) (am_lt (as_i s2 7 ((s2.1 6 3)).toNatClampNeg v1) (fun s5 => am_lt (as_i s5 6 3 ((s5.1 6 3) + (1 : Int32))) (fun s6 => some s6))))))
set_option maxRecDepth 100000 in
set_option maxHeartbeats 4000000 in
theorem t_X9_readPerson (s0 : am_S) {z : am_S} (E : f_X9_readPerson  s0 = some z) : AS yX9_readPerson cX9_readPerson 2 none 3 [.ref 246] s0 none z := by
  unfold f_X9_readPerson at E
  refine as_met (lv := [(0, .ref 246)]) (by decide +kernel) (by simp [lg_sl, Value.category]) rfl (fun x C A Z => ?_)
  refine am_aload_n 0 C dX9_readPerson_0 rfl 0 rfl ?_
  refine as_getr 1 C fl_X9_21_8 dX9_readPerson_1 (by decide) sh_246 (rf_246_0 _ _) ?_
  refine am_iconst 4 (0 : Int32) C dX9_readPerson_4 (by decide) ?_
  refine am_iconst 5 (1 : Int32) C dX9_readPerson_5 (by decide) ?_
  refine am_aload_n 6 C dX9_readPerson_6 rfl 0 rfl ?_
  refine as_getr 7 C fl_X9_9_8 dX9_readPerson_7 (by decide) sh_246 (rf_246_1 _ _) ?_
  refine as_geti 10 C fl_X9_87_7 dX9_readPerson_10 (by decide) sh_6 ?_
  refine am_ishl 13 C dX9_readPerson_13 ?_
  refine am_iconst 14 (1 : Int32) C dX9_readPerson_14 (by decide) ?_
  refine am_isub 15 C dX9_readPerson_15 ?_
  obtain ⟨v1, s2, Ec, E⟩ := am_b2E E
  refine as_callV 16 (s2 := s2) (st := []) (st2 := [.int v1]) [.int (0 : Int32), .int (((1 : Int32) <<< ((s0.1 6 1) &&& 31)) - (1 : Int32))] C A (by decide) ml_X9_83 yc_X7_readNumber yv_X7_readNumber (t_X7_readNumber (0 : Int32) (((1 : Int32) <<< ((s0.1 6 1) &&& 31)) - (1 : Int32)) s0 Ec) (by decide) sh_2 rfl rfl (Nat.le_of_ble_eq_true rfl) rfl dX9_readPerson_16 ?_
  refine am_istore_n 19 (lv2 := [(1, .int v1), (0, .ref 246)]) C dX9_readPerson_19 rfl (by decide) rfl ?_
  refine am_aload_n 20 C dX9_readPerson_20 rfl 1 rfl ?_
  refine as_getr 21 C fl_X9_21_8 dX9_readPerson_21 (by decide) sh_246 (rf_246_0 _ _) ?_
  obtain ⟨v3, Ec, E⟩ := am_bdE E
  refine as_callV 24 (s2 := s2) (st := []) (st2 := [.int v3]) [] C A (by decide) ml_X9_93 yc_X7_fine yv_X7_fine (t_X7_fine  s2 Ec) (by decide) sh_2 rfl rfl (Nat.le_of_ble_eq_true rfl) rfl dX9_readPerson_24 ?_
  refine am_if_eq 27 59 C dX9_readPerson_27 (by decide) (fun c7 => ?_) (fun c7 => ?_)
  · have E := am_ifT E c7
    replace E := Option.some.inj E
    subst E
    exact as_vret 59 C Z dX9_readPerson_59
  · have E := am_ifF E c7
    refine am_aload_n 30 C dX9_readPerson_30 rfl 1 rfl ?_
    refine as_getr 31 C fl_X9_9_8 dX9_readPerson_31 (by decide) sh_246 (rf_246_1 _ _) ?_
    refine as_getr 34 C fl_X9_97_7 dX9_readPerson_34 (by decide) sh_6 (rf_6_4 _ _) ?_
    refine am_aload_n 37 C dX9_readPerson_37 rfl 1 rfl ?_
    refine as_getr 38 C fl_X9_9_8 dX9_readPerson_38 (by decide) sh_246 (rf_246_1 _ _) ?_
    refine as_geti 41 C fl_X9_45_7 dX9_readPerson_41 (by decide) sh_6 ?_
    refine am_iload_n 44 C dX9_readPerson_44 rfl 0 rfl ?_
    obtain ⟨g4, E⟩ := am_gdE E
    obtain ⟨s5, hs5, E⟩ := am_ltE E
    refine as_iast 45 C dX9_readPerson_45 (by decide) sh_7 g4 hs5 ?_
    refine am_aload_n 46 C dX9_readPerson_46 rfl 1 rfl ?_
    refine as_getr 47 C fl_X9_9_8 dX9_readPerson_47 (by decide) sh_246 (rf_246_1 _ _) ?_
    refine am_dup 50 C dX9_readPerson_50 rfl ?_
    refine as_geti 51 C fl_X9_45_7 dX9_readPerson_51 (by decide) sh_6 ?_
    refine am_iconst 54 (1 : Int32) C dX9_readPerson_54 (by decide) ?_
    refine am_iadd 55 C dX9_readPerson_55 ?_
    obtain ⟨s6, hs6, E⟩ := am_ltE E
    refine as_puti 56 C fl_X9_45_7 dX9_readPerson_56 (by decide) sh_6 rfl rfl hs6 ?_
    replace E := Option.some.inj E
    subst E
    exact as_vret 59 C Z dX9_readPerson_59
def j_X9_readTrust_48 (v1 : Int32) (v2 : Int32) (s3 : am_S) : Option (am_S) :=
  am_b2 (f_X7_readNumber (0 : Int32) (nI 9) s3) (fun v4 s5 => am_bd (f_X7_fine s5) (fun v6 => am_if (v6 = 0) (some s5) (am_gd (¬ ((v1 * (nI 7)) + v2) < 0 ∧ (((v1 * (nI 7)) + v2)).toNatClampNeg < 49) (am_lt (as_i s5 8 (((v1 * (nI 7)) + v2)).toNatClampNeg v4) (fun s8 => some s8)))))
def f_X9_readTrust  (s0 : am_S) : Option (am_S) :=
  am_b2 (f_X7_readNumber (0 : Int32) ((s0.1 6 3) - (1 : Int32)) s0) (fun v10 s11 => am_b2 (f_X7_readNumber (0 : Int32) ((s11.1 6 3) - (1 : Int32)) s11) (fun v12 s13 => am_if (v10 = v12) (am_bd (f_X7_refuseNumber s13) (fun s14 => j_X9_readTrust_48 v10 v12 s14)) (j_X9_readTrust_48 v10 v12 s13)))
set_option maxRecDepth 100000 in
set_option maxHeartbeats 4000000 in
theorem t_X9_readTrust (s0 : am_S) {z : am_S} (E : f_X9_readTrust  s0 = some z) : AS yX9_readTrust cX9_readTrust 4 none 3 [.ref 246] s0 none z := by
  unfold f_X9_readTrust at E
  refine as_met (lv := [(0, .ref 246)]) (by decide +kernel) (by simp [lg_sl, Value.category]) rfl (fun x C A Z => ?_)
  have K48 : ∀ (v1 : Int32) (v2 : Int32) (s3 : am_S), j_X9_readTrust_48 v1 v2 s3 = some z → AX x 0 0 48 [(0, .ref 246), (1, .int v1), (2, .int v2)] [] am_N (am_h s3) := by
    intro v1 v2 s3 E
    unfold j_X9_readTrust_48 at E
    refine am_aload_n 48 C dX9_readTrust_48 rfl 0 rfl ?_
    refine as_getr 49 C fl_X9_21_8 dX9_readTrust_49 (by decide) sh_246 (rf_246_0 _ _) ?_
    refine am_iconst 52 (0 : Int32) C dX9_readTrust_52 (by decide) ?_
    refine am_bipush 53 (nI 9) C dX9_readTrust_53 (by decide) ?_
    obtain ⟨v4, s5, Ec, E⟩ := am_b2E E
    refine as_callV 55 (s2 := s5) (st := []) (st2 := [.int v4]) [.int (0 : Int32), .int (nI 9)] C A (by decide) ml_X9_83 yc_X7_readNumber yv_X7_readNumber (t_X7_readNumber (0 : Int32) (nI 9) s3 Ec) (by decide) sh_2 rfl rfl (Nat.le_of_ble_eq_true rfl) rfl dX9_readTrust_55 ?_
    refine am_istore_n 58 (lv2 := [(3, .int v4), (0, .ref 246), (1, .int v1), (2, .int v2)]) C dX9_readTrust_58 rfl (by decide) rfl ?_
    refine am_aload_n 59 C dX9_readTrust_59 rfl 1 rfl ?_
    refine as_getr 60 C fl_X9_21_8 dX9_readTrust_60 (by decide) sh_246 (rf_246_0 _ _) ?_
    obtain ⟨v6, Ec, E⟩ := am_bdE E
    refine as_callV 63 (s2 := s5) (st := []) (st2 := [.int v6]) [] C A (by decide) ml_X9_93 yc_X7_fine yv_X7_fine (t_X7_fine  s5 Ec) (by decide) sh_2 rfl rfl (Nat.le_of_ble_eq_true rfl) rfl dX9_readTrust_63 ?_
    refine am_if_eq 66 84 C dX9_readTrust_66 (by decide) (fun c9 => ?_) (fun c9 => ?_)
    · have E := am_ifT E c9
      replace E := Option.some.inj E
      subst E
      exact as_vret 84 C Z dX9_readTrust_84
    · have E := am_ifF E c9
      refine am_aload_n 69 C dX9_readTrust_69 rfl 1 rfl ?_
      refine as_getr 70 C fl_X9_9_8 dX9_readTrust_70 (by decide) sh_246 (rf_246_1 _ _) ?_
      refine as_getr 73 C fl_X9_104_7 dX9_readTrust_73 (by decide) sh_6 (rf_6_5 _ _) ?_
      refine am_iload_n 76 C dX9_readTrust_76 rfl 2 rfl ?_
      refine am_bipush 77 (nI 7) C dX9_readTrust_77 (by decide) ?_
      refine am_imul 79 C dX9_readTrust_79 ?_
      refine am_iload_n 80 C dX9_readTrust_80 rfl 3 rfl ?_
      refine am_iadd 81 C dX9_readTrust_81 ?_
      refine am_iload_n 82 C dX9_readTrust_82 rfl 0 rfl ?_
      obtain ⟨g7, E⟩ := am_gdE E
      obtain ⟨s8, hs8, E⟩ := am_ltE E
      refine as_iast 83 C dX9_readTrust_83 (by decide) sh_8 g7 hs8 ?_
      replace E := Option.some.inj E
      subst E
      exact as_vret 84 C Z dX9_readTrust_84
  refine am_aload_n 0 C dX9_readTrust_0 rfl 0 rfl ?_
  refine as_getr 1 C fl_X9_21_8 dX9_readTrust_1 (by decide) sh_246 (rf_246_0 _ _) ?_
  refine am_iconst 4 (0 : Int32) C dX9_readTrust_4 (by decide) ?_
  refine am_aload_n 5 C dX9_readTrust_5 rfl 0 rfl ?_
  refine as_getr 6 C fl_X9_9_8 dX9_readTrust_6 (by decide) sh_246 (rf_246_1 _ _) ?_
  refine as_geti 9 C fl_X9_45_7 dX9_readTrust_9 (by decide) sh_6 ?_
  refine am_iconst 12 (1 : Int32) C dX9_readTrust_12 (by decide) ?_
  refine am_isub 13 C dX9_readTrust_13 ?_
  obtain ⟨v10, s11, Ec, E⟩ := am_b2E E
  refine as_callV 14 (s2 := s11) (st := []) (st2 := [.int v10]) [.int (0 : Int32), .int ((s0.1 6 3) - (1 : Int32))] C A (by decide) ml_X9_83 yc_X7_readNumber yv_X7_readNumber (t_X7_readNumber (0 : Int32) ((s0.1 6 3) - (1 : Int32)) s0 Ec) (by decide) sh_2 rfl rfl (Nat.le_of_ble_eq_true rfl) rfl dX9_readTrust_14 ?_
  refine am_istore_n 17 (lv2 := [(1, .int v10), (0, .ref 246)]) C dX9_readTrust_17 rfl (by decide) rfl ?_
  refine am_aload_n 18 C dX9_readTrust_18 rfl 1 rfl ?_
  refine as_getr 19 C fl_X9_21_8 dX9_readTrust_19 (by decide) sh_246 (rf_246_0 _ _) ?_
  refine am_iconst 22 (0 : Int32) C dX9_readTrust_22 (by decide) ?_
  refine am_aload_n 23 C dX9_readTrust_23 rfl 1 rfl ?_
  refine as_getr 24 C fl_X9_9_8 dX9_readTrust_24 (by decide) sh_246 (rf_246_1 _ _) ?_
  refine as_geti 27 C fl_X9_45_7 dX9_readTrust_27 (by decide) sh_6 ?_
  refine am_iconst 30 (1 : Int32) C dX9_readTrust_30 (by decide) ?_
  refine am_isub 31 C dX9_readTrust_31 ?_
  obtain ⟨v12, s13, Ec, E⟩ := am_b2E E
  refine as_callV 32 (s2 := s13) (st := []) (st2 := [.int v12]) [.int (0 : Int32), .int ((s11.1 6 3) - (1 : Int32))] C A (by decide) ml_X9_83 yc_X7_readNumber yv_X7_readNumber (t_X7_readNumber (0 : Int32) ((s11.1 6 3) - (1 : Int32)) s11 Ec) (by decide) sh_2 rfl rfl (Nat.le_of_ble_eq_true rfl) rfl dX9_readTrust_32 ?_
  refine am_istore_n 35 (lv2 := [(2, .int v12), (1, .int v10), (0, .ref 246)]) C dX9_readTrust_35 rfl (by decide) rfl ?_
  refine am_iload_n 36 C dX9_readTrust_36 rfl 1 rfl ?_
  refine am_iload_n 37 C dX9_readTrust_37 rfl 0 rfl ?_
  refine am_icmp_ne 38 48 C dX9_readTrust_38 (by decide) (fun c15 => ?_) (fun c15 => ?_)
  · have E := am_ifF E c15
    refine am_lvs [2, 1, 0] rfl ?_
    exact K48 _ _ _ E
  · have E := am_ifT E c15
    refine am_aload_n 41 C dX9_readTrust_41 rfl 2 rfl ?_
    refine as_getr 42 C fl_X9_21_8 dX9_readTrust_42 (by decide) sh_246 (rf_246_0 _ _) ?_
    obtain ⟨s14, Ec, E⟩ := am_bdE E
    refine as_callV 45 (s2 := s14) (st := []) (st2 := []) [] C A (by decide) ml_X9_101 yc_X7_refuseNumber yv_X7_refuseNumber (t_X7_refuseNumber  s13 Ec) (by decide) sh_2 rfl rfl (Nat.le_of_ble_eq_true rfl) rfl dX9_readTrust_45 ?_
    refine am_lvs [2, 1, 0] rfl ?_
    exact K48 _ _ _ E
def j_X9_readStreet_60 (v1 : Int32) (v2 : Int32) (s3 : am_S) : Option (am_S) :=
  am_bd (f_X7_fine s3) (fun v4 => am_if (v4 = 0) (some s3) (am_bd (f_X8_addStreet v1 v2 s3) (fun s5 => some s5)))
def j_X9_readStreet_53 (v7 : Int32) (v8 : Int32) (s9 : am_S) : Option (am_S) :=
  am_bd (f_X7_refuseNumber s9) (fun s10 => j_X9_readStreet_60 v7 v8 s10)
def f_X9_readStreet  (s0 : am_S) : Option (am_S) :=
  am_b2 (f_X7_readNumber (0 : Int32) ((s0.1 6 3) - (1 : Int32)) s0) (fun v11 s12 => am_b2 (f_X7_readNumber (0 : Int32) ((s12.1 6 3) - (1 : Int32)) s12) (fun v13 s14 => am_if (v11 = v13) (j_X9_readStreet_53 v11 v13 s14) (am_bd (f_X8_hasStreet 6 v11 v13 s14) (fun v15 => am_if (v15 = 0) (j_X9_readStreet_60 v11 v13 s14) (j_X9_readStreet_53 v11 v13 s14)))))
set_option maxRecDepth 100000 in
set_option maxHeartbeats 4000000 in
theorem t_X9_readStreet (s0 : am_S) {z : am_S} (E : f_X9_readStreet  s0 = some z) : AS yX9_readStreet cX9_readStreet 3 none 4 [.ref 246] s0 none z := by
  unfold f_X9_readStreet at E
  refine as_met (lv := [(0, .ref 246)]) (by decide +kernel) (by simp [lg_sl, Value.category]) rfl (fun x C A Z => ?_)
  have K60 : ∀ (v1 : Int32) (v2 : Int32) (s3 : am_S), j_X9_readStreet_60 v1 v2 s3 = some z → AX x 0 0 60 [(0, .ref 246), (1, .int v1), (2, .int v2)] [] am_N (am_h s3) := by
    intro v1 v2 s3 E
    unfold j_X9_readStreet_60 at E
    refine am_aload_n 60 C dX9_readStreet_60 rfl 0 rfl ?_
    refine as_getr 61 C fl_X9_21_8 dX9_readStreet_61 (by decide) sh_246 (rf_246_0 _ _) ?_
    obtain ⟨v4, Ec, E⟩ := am_bdE E
    refine as_callV 64 (s2 := s3) (st := []) (st2 := [.int v4]) [] C A (by decide) ml_X9_93 yc_X7_fine yv_X7_fine (t_X7_fine  s3 Ec) (by decide) sh_2 rfl rfl (Nat.le_of_ble_eq_true rfl) rfl dX9_readStreet_64 ?_
    refine am_if_eq 67 79 C dX9_readStreet_67 (by decide) (fun c6 => ?_) (fun c6 => ?_)
    · have E := am_ifT E c6
      replace E := Option.some.inj E
      subst E
      exact as_vret 79 C Z dX9_readStreet_79
    · have E := am_ifF E c6
      refine am_aload_n 70 C dX9_readStreet_70 rfl 0 rfl ?_
      refine as_getr 71 C fl_X9_9_8 dX9_readStreet_71 (by decide) sh_246 (rf_246_1 _ _) ?_
      refine am_iload_n 74 C dX9_readStreet_74 rfl 1 rfl ?_
      refine am_iload_n 75 C dX9_readStreet_75 rfl 2 rfl ?_
      obtain ⟨s5, Ec, E⟩ := am_bdE E
      refine as_callV 76 (s2 := s5) (st := []) (st2 := []) [.int v1, .int v2] C A (by decide) ml_X9_110 yc_X8_addStreet yv_X8_addStreet (t_X8_addStreet v1 v2 s3 Ec) (by decide) sh_6 rfl rfl (Nat.le_of_ble_eq_true rfl) rfl dX9_readStreet_76 ?_
      replace E := Option.some.inj E
      subst E
      exact as_vret 79 C Z dX9_readStreet_79
  have K53 : ∀ (v7 : Int32) (v8 : Int32) (s9 : am_S), j_X9_readStreet_53 v7 v8 s9 = some z → AX x 0 0 53 [(0, .ref 246), (1, .int v7), (2, .int v8)] [] am_N (am_h s9) := by
    intro v7 v8 s9 E
    unfold j_X9_readStreet_53 at E
    refine am_aload_n 53 C dX9_readStreet_53 rfl 0 rfl ?_
    refine as_getr 54 C fl_X9_21_8 dX9_readStreet_54 (by decide) sh_246 (rf_246_0 _ _) ?_
    obtain ⟨s10, Ec, E⟩ := am_bdE E
    refine as_callV 57 (s2 := s10) (st := []) (st2 := []) [] C A (by decide) ml_X9_101 yc_X7_refuseNumber yv_X7_refuseNumber (t_X7_refuseNumber  s9 Ec) (by decide) sh_2 rfl rfl (Nat.le_of_ble_eq_true rfl) rfl dX9_readStreet_57 ?_
    refine am_lvs [0, 1, 2] rfl ?_
    exact K60 _ _ _ E
  refine am_aload_n 0 C dX9_readStreet_0 rfl 0 rfl ?_
  refine as_getr 1 C fl_X9_21_8 dX9_readStreet_1 (by decide) sh_246 (rf_246_0 _ _) ?_
  refine am_iconst 4 (0 : Int32) C dX9_readStreet_4 (by decide) ?_
  refine am_aload_n 5 C dX9_readStreet_5 rfl 0 rfl ?_
  refine as_getr 6 C fl_X9_9_8 dX9_readStreet_6 (by decide) sh_246 (rf_246_1 _ _) ?_
  refine as_geti 9 C fl_X9_45_7 dX9_readStreet_9 (by decide) sh_6 ?_
  refine am_iconst 12 (1 : Int32) C dX9_readStreet_12 (by decide) ?_
  refine am_isub 13 C dX9_readStreet_13 ?_
  obtain ⟨v11, s12, Ec, E⟩ := am_b2E E
  refine as_callV 14 (s2 := s12) (st := []) (st2 := [.int v11]) [.int (0 : Int32), .int ((s0.1 6 3) - (1 : Int32))] C A (by decide) ml_X9_83 yc_X7_readNumber yv_X7_readNumber (t_X7_readNumber (0 : Int32) ((s0.1 6 3) - (1 : Int32)) s0 Ec) (by decide) sh_2 rfl rfl (Nat.le_of_ble_eq_true rfl) rfl dX9_readStreet_14 ?_
  refine am_istore_n 17 (lv2 := [(1, .int v11), (0, .ref 246)]) C dX9_readStreet_17 rfl (by decide) rfl ?_
  refine am_aload_n 18 C dX9_readStreet_18 rfl 1 rfl ?_
  refine as_getr 19 C fl_X9_21_8 dX9_readStreet_19 (by decide) sh_246 (rf_246_0 _ _) ?_
  refine am_iconst 22 (0 : Int32) C dX9_readStreet_22 (by decide) ?_
  refine am_aload_n 23 C dX9_readStreet_23 rfl 1 rfl ?_
  refine as_getr 24 C fl_X9_9_8 dX9_readStreet_24 (by decide) sh_246 (rf_246_1 _ _) ?_
  refine as_geti 27 C fl_X9_45_7 dX9_readStreet_27 (by decide) sh_6 ?_
  refine am_iconst 30 (1 : Int32) C dX9_readStreet_30 (by decide) ?_
  refine am_isub 31 C dX9_readStreet_31 ?_
  obtain ⟨v13, s14, Ec, E⟩ := am_b2E E
  refine as_callV 32 (s2 := s14) (st := []) (st2 := [.int v13]) [.int (0 : Int32), .int ((s12.1 6 3) - (1 : Int32))] C A (by decide) ml_X9_83 yc_X7_readNumber yv_X7_readNumber (t_X7_readNumber (0 : Int32) ((s12.1 6 3) - (1 : Int32)) s12 Ec) (by decide) sh_2 rfl rfl (Nat.le_of_ble_eq_true rfl) rfl dX9_readStreet_32 ?_
  refine am_istore_n 35 (lv2 := [(2, .int v13), (1, .int v11), (0, .ref 246)]) C dX9_readStreet_35 rfl (by decide) rfl ?_
  refine am_iload_n 36 C dX9_readStreet_36 rfl 1 rfl ?_
  refine am_iload_n 37 C dX9_readStreet_37 rfl 0 rfl ?_
  refine am_icmp_eq 38 53 C dX9_readStreet_38 (by decide) (fun c17 => ?_) (fun c17 => ?_)
  · have E := am_ifT E c17
    refine am_lvs [2, 1, 0] rfl ?_
    exact K53 _ _ _ E
  · have E := am_ifF E c17
    refine am_aload_n 41 C dX9_readStreet_41 rfl 2 rfl ?_
    refine as_getr 42 C fl_X9_9_8 dX9_readStreet_42 (by decide) sh_246 (rf_246_1 _ _) ?_
    refine am_iload_n 45 C dX9_readStreet_45 rfl 1 rfl ?_
    refine am_iload_n 46 C dX9_readStreet_46 rfl 0 rfl ?_
    obtain ⟨v15, Ec, E⟩ := am_bdE E
    refine as_callV 47 (s2 := s14) (st := []) (st2 := [.int v15]) [.int v11, .int v13] C A (by decide) ml_X9_107 yc_X8_hasStreet yv_X8_hasStreet (t_X8_hasStreet 6 v11 v13 s14 Ec) (by decide) sh_6 rfl rfl (Nat.le_of_ble_eq_true rfl) rfl dX9_readStreet_47 ?_
    refine am_if_eq 50 60 C dX9_readStreet_50 (by decide) (fun c16 => ?_) (fun c16 => ?_)
    · have E := am_ifT E c16
      refine am_lvs [2, 1, 0] rfl ?_
      exact K60 _ _ _ E
    · have E := am_ifF E c16
      refine am_lvs [2, 1, 0] rfl ?_
      exact K53 _ _ _ E
def j_X9_readIf_58 (v1 : Int32) (v2 : Int32) (v3 : Int32) (s4 : am_S) : Option (am_S) :=
  am_b2 (f_X7_readNumber (0 : Int32) (1 : Int32) s4) (fun v5 s6 => am_bd (f_X7_fine s6) (fun v7 => am_if (v7 = 0) (some s6) (am_bd (f_X8_addIf v1 v2 v3 v5 s6) (fun s8 => some s8))))
def f_X9_readIf  (s0 : am_S) : Option (am_S) :=
  am_b2 (f_X7_readNumber (0 : Int32) ((s0.1 6 1) - (1 : Int32)) s0) (fun v10 s11 => am_b2 (f_X7_readNumber (0 : Int32) (1 : Int32) s11) (fun v12 s13 => am_b2 (f_X7_readNumber (0 : Int32) ((s13.1 6 1) - (1 : Int32)) s13) (fun v14 s15 => am_if (v10 = v14) (am_bd (f_X7_refuseNumber s15) (fun s16 => j_X9_readIf_58 v10 v12 v14 s16)) (j_X9_readIf_58 v10 v12 v14 s15))))
set_option maxRecDepth 100000 in
set_option maxHeartbeats 4000000 in
theorem t_X9_readIf (s0 : am_S) {z : am_S} (E : f_X9_readIf  s0 = some z) : AS yX9_readIf cX9_readIf 5 none 3 [.ref 246] s0 none z := by
  unfold f_X9_readIf at E
  refine as_met (lv := [(0, .ref 246)]) (by decide +kernel) (by simp [lg_sl, Value.category]) rfl (fun x C A Z => ?_)
  have K58 : ∀ (v1 : Int32) (v2 : Int32) (v3 : Int32) (s4 : am_S), j_X9_readIf_58 v1 v2 v3 s4 = some z → AX x 0 0 58 [(0, .ref 246), (1, .int v1), (2, .int v2), (3, .int v3)] [] am_N (am_h s4) := by
    intro v1 v2 v3 s4 E
    unfold j_X9_readIf_58 at E
    refine am_aload_n 58 C dX9_readIf_58 rfl 0 rfl ?_
    refine as_getr 59 C fl_X9_21_8 dX9_readIf_59 (by decide) sh_246 (rf_246_0 _ _) ?_
    refine am_iconst 62 (0 : Int32) C dX9_readIf_62 (by decide) ?_
    refine am_iconst 63 (1 : Int32) C dX9_readIf_63 (by decide) ?_
    obtain ⟨v5, s6, Ec, E⟩ := am_b2E E
    refine as_callV 64 (s2 := s6) (st := []) (st2 := [.int v5]) [.int (0 : Int32), .int (1 : Int32)] C A (by decide) ml_X9_83 yc_X7_readNumber yv_X7_readNumber (t_X7_readNumber (0 : Int32) (1 : Int32) s4 Ec) (by decide) sh_2 rfl rfl (Nat.le_of_ble_eq_true rfl) rfl dX9_readIf_64 ?_
    refine am_istore 67 (lv2 := [(4, .int v5), (0, .ref 246), (1, .int v1), (2, .int v2), (3, .int v3)]) C dX9_readIf_67 (by decide) rfl ?_
    refine am_aload_n 69 C dX9_readIf_69 rfl 1 rfl ?_
    refine as_getr 70 C fl_X9_21_8 dX9_readIf_70 (by decide) sh_246 (rf_246_0 _ _) ?_
    obtain ⟨v7, Ec, E⟩ := am_bdE E
    refine as_callV 73 (s2 := s6) (st := []) (st2 := [.int v7]) [] C A (by decide) ml_X9_93 yc_X7_fine yv_X7_fine (t_X7_fine  s6 Ec) (by decide) sh_2 rfl rfl (Nat.le_of_ble_eq_true rfl) rfl dX9_readIf_73 ?_
    refine am_if_eq 76 91 C dX9_readIf_76 (by decide) (fun c9 => ?_) (fun c9 => ?_)
    · have E := am_ifT E c9
      replace E := Option.some.inj E
      subst E
      exact as_vret 91 C Z dX9_readIf_91
    · have E := am_ifF E c9
      refine am_aload_n 79 C dX9_readIf_79 rfl 1 rfl ?_
      refine as_getr 80 C fl_X9_9_8 dX9_readIf_80 (by decide) sh_246 (rf_246_1 _ _) ?_
      refine am_iload_n 83 C dX9_readIf_83 rfl 2 rfl ?_
      refine am_iload_n 84 C dX9_readIf_84 rfl 3 rfl ?_
      refine am_iload_n 85 C dX9_readIf_85 rfl 4 rfl ?_
      refine am_iload 86 C dX9_readIf_86 0 rfl ?_
      obtain ⟨s8, Ec, E⟩ := am_bdE E
      refine as_callV 88 (s2 := s8) (st := []) (st2 := []) [.int v1, .int v2, .int v3, .int v5] C A (by decide) ml_X9_114 yc_X8_addIf yv_X8_addIf (t_X8_addIf v1 v2 v3 v5 s6 Ec) (by decide) sh_6 rfl rfl (Nat.le_of_ble_eq_true rfl) rfl dX9_readIf_88 ?_
      replace E := Option.some.inj E
      subst E
      exact as_vret 91 C Z dX9_readIf_91
  refine am_aload_n 0 C dX9_readIf_0 rfl 0 rfl ?_
  refine as_getr 1 C fl_X9_21_8 dX9_readIf_1 (by decide) sh_246 (rf_246_0 _ _) ?_
  refine am_iconst 4 (0 : Int32) C dX9_readIf_4 (by decide) ?_
  refine am_aload_n 5 C dX9_readIf_5 rfl 0 rfl ?_
  refine as_getr 6 C fl_X9_9_8 dX9_readIf_6 (by decide) sh_246 (rf_246_1 _ _) ?_
  refine as_geti 9 C fl_X9_87_7 dX9_readIf_9 (by decide) sh_6 ?_
  refine am_iconst 12 (1 : Int32) C dX9_readIf_12 (by decide) ?_
  refine am_isub 13 C dX9_readIf_13 ?_
  obtain ⟨v10, s11, Ec, E⟩ := am_b2E E
  refine as_callV 14 (s2 := s11) (st := []) (st2 := [.int v10]) [.int (0 : Int32), .int ((s0.1 6 1) - (1 : Int32))] C A (by decide) ml_X9_83 yc_X7_readNumber yv_X7_readNumber (t_X7_readNumber (0 : Int32) ((s0.1 6 1) - (1 : Int32)) s0 Ec) (by decide) sh_2 rfl rfl (Nat.le_of_ble_eq_true rfl) rfl dX9_readIf_14 ?_
  refine am_istore_n 17 (lv2 := [(1, .int v10), (0, .ref 246)]) C dX9_readIf_17 rfl (by decide) rfl ?_
  refine am_aload_n 18 C dX9_readIf_18 rfl 1 rfl ?_
  refine as_getr 19 C fl_X9_21_8 dX9_readIf_19 (by decide) sh_246 (rf_246_0 _ _) ?_
  refine am_iconst 22 (0 : Int32) C dX9_readIf_22 (by decide) ?_
  refine am_iconst 23 (1 : Int32) C dX9_readIf_23 (by decide) ?_
  obtain ⟨v12, s13, Ec, E⟩ := am_b2E E
  refine as_callV 24 (s2 := s13) (st := []) (st2 := [.int v12]) [.int (0 : Int32), .int (1 : Int32)] C A (by decide) ml_X9_83 yc_X7_readNumber yv_X7_readNumber (t_X7_readNumber (0 : Int32) (1 : Int32) s11 Ec) (by decide) sh_2 rfl rfl (Nat.le_of_ble_eq_true rfl) rfl dX9_readIf_24 ?_
  refine am_istore_n 27 (lv2 := [(2, .int v12), (1, .int v10), (0, .ref 246)]) C dX9_readIf_27 rfl (by decide) rfl ?_
  refine am_aload_n 28 C dX9_readIf_28 rfl 2 rfl ?_
  refine as_getr 29 C fl_X9_21_8 dX9_readIf_29 (by decide) sh_246 (rf_246_0 _ _) ?_
  refine am_iconst 32 (0 : Int32) C dX9_readIf_32 (by decide) ?_
  refine am_aload_n 33 C dX9_readIf_33 rfl 2 rfl ?_
  refine as_getr 34 C fl_X9_9_8 dX9_readIf_34 (by decide) sh_246 (rf_246_1 _ _) ?_
  refine as_geti 37 C fl_X9_87_7 dX9_readIf_37 (by decide) sh_6 ?_
  refine am_iconst 40 (1 : Int32) C dX9_readIf_40 (by decide) ?_
  refine am_isub 41 C dX9_readIf_41 ?_
  obtain ⟨v14, s15, Ec, E⟩ := am_b2E E
  refine as_callV 42 (s2 := s15) (st := []) (st2 := [.int v14]) [.int (0 : Int32), .int ((s13.1 6 1) - (1 : Int32))] C A (by decide) ml_X9_83 yc_X7_readNumber yv_X7_readNumber (t_X7_readNumber (0 : Int32) ((s13.1 6 1) - (1 : Int32)) s13 Ec) (by decide) sh_2 rfl rfl (Nat.le_of_ble_eq_true rfl) rfl dX9_readIf_42 ?_
  refine am_istore_n 45 (lv2 := [(3, .int v14), (2, .int v12), (1, .int v10), (0, .ref 246)]) C dX9_readIf_45 rfl (by decide) rfl ?_
  refine am_iload_n 46 C dX9_readIf_46 rfl 2 rfl ?_
  refine am_iload_n 47 C dX9_readIf_47 rfl 0 rfl ?_
  refine am_icmp_ne 48 58 C dX9_readIf_48 (by decide) (fun c17 => ?_) (fun c17 => ?_)
  · have E := am_ifF E c17
    refine am_lvs [3, 2, 1, 0] rfl ?_
    exact K58 _ _ _ _ E
  · have E := am_ifT E c17
    refine am_aload_n 51 C dX9_readIf_51 rfl 3 rfl ?_
    refine as_getr 52 C fl_X9_21_8 dX9_readIf_52 (by decide) sh_246 (rf_246_0 _ _) ?_
    obtain ⟨s16, Ec, E⟩ := am_bdE E
    refine as_callV 55 (s2 := s16) (st := []) (st2 := []) [] C A (by decide) ml_X9_101 yc_X7_refuseNumber yv_X7_refuseNumber (t_X7_refuseNumber  s15 Ec) (by decide) sh_2 rfl rfl (Nat.le_of_ble_eq_true rfl) rfl dX9_readIf_55 ?_
    refine am_lvs [3, 2, 1, 0] rfl ?_
    exact K58 _ _ _ _ E
def f_X9_readHarm  (s0 : am_S) : Option (am_S) :=
  am_b2 (f_X7_readNumber (0 : Int32) ((s0.1 6 1) - (1 : Int32)) s0) (fun v1 s2 => am_b2 (f_X7_readNumber (0 : Int32) (1 : Int32) s2) (fun v3 s4 => am_b2 (f_X7_readNumber (1 : Int32) (nI 99) s4) (fun v5 s6 => am_bd (f_X7_fine s6) (fun v7 => am_if (v7 = 0) (some s6) (am_bd (f_X8_addHarm v1 v3 v5 s6) (fun s8 => some s8))))))
set_option maxRecDepth 100000 in
set_option maxHeartbeats 4000000 in
theorem t_X9_readHarm (s0 : am_S) {z : am_S} (E : f_X9_readHarm  s0 = some z) : AS yX9_readHarm cX9_readHarm 4 none 3 [.ref 246] s0 none z := by
  unfold f_X9_readHarm at E
  refine as_met (lv := [(0, .ref 246)]) (by decide +kernel) (by simp [lg_sl, Value.category]) rfl (fun x C A Z => ?_)
  refine am_aload_n 0 C dX9_readHarm_0 rfl 0 rfl ?_
  refine as_getr 1 C fl_X9_21_8 dX9_readHarm_1 (by decide) sh_246 (rf_246_0 _ _) ?_
  refine am_iconst 4 (0 : Int32) C dX9_readHarm_4 (by decide) ?_
  refine am_aload_n 5 C dX9_readHarm_5 rfl 0 rfl ?_
  refine as_getr 6 C fl_X9_9_8 dX9_readHarm_6 (by decide) sh_246 (rf_246_1 _ _) ?_
  refine as_geti 9 C fl_X9_87_7 dX9_readHarm_9 (by decide) sh_6 ?_
  refine am_iconst 12 (1 : Int32) C dX9_readHarm_12 (by decide) ?_
  refine am_isub 13 C dX9_readHarm_13 ?_
  obtain ⟨v1, s2, Ec, E⟩ := am_b2E E
  refine as_callV 14 (s2 := s2) (st := []) (st2 := [.int v1]) [.int (0 : Int32), .int ((s0.1 6 1) - (1 : Int32))] C A (by decide) ml_X9_83 yc_X7_readNumber yv_X7_readNumber (t_X7_readNumber (0 : Int32) ((s0.1 6 1) - (1 : Int32)) s0 Ec) (by decide) sh_2 rfl rfl (Nat.le_of_ble_eq_true rfl) rfl dX9_readHarm_14 ?_
  refine am_istore_n 17 (lv2 := [(1, .int v1), (0, .ref 246)]) C dX9_readHarm_17 rfl (by decide) rfl ?_
  refine am_aload_n 18 C dX9_readHarm_18 rfl 1 rfl ?_
  refine as_getr 19 C fl_X9_21_8 dX9_readHarm_19 (by decide) sh_246 (rf_246_0 _ _) ?_
  refine am_iconst 22 (0 : Int32) C dX9_readHarm_22 (by decide) ?_
  refine am_iconst 23 (1 : Int32) C dX9_readHarm_23 (by decide) ?_
  obtain ⟨v3, s4, Ec, E⟩ := am_b2E E
  refine as_callV 24 (s2 := s4) (st := []) (st2 := [.int v3]) [.int (0 : Int32), .int (1 : Int32)] C A (by decide) ml_X9_83 yc_X7_readNumber yv_X7_readNumber (t_X7_readNumber (0 : Int32) (1 : Int32) s2 Ec) (by decide) sh_2 rfl rfl (Nat.le_of_ble_eq_true rfl) rfl dX9_readHarm_24 ?_
  refine am_istore_n 27 (lv2 := [(2, .int v3), (1, .int v1), (0, .ref 246)]) C dX9_readHarm_27 rfl (by decide) rfl ?_
  refine am_aload_n 28 C dX9_readHarm_28 rfl 2 rfl ?_
  refine as_getr 29 C fl_X9_21_8 dX9_readHarm_29 (by decide) sh_246 (rf_246_0 _ _) ?_
  refine am_iconst 32 (1 : Int32) C dX9_readHarm_32 (by decide) ?_
  refine am_bipush 33 (nI 99) C dX9_readHarm_33 (by decide) ?_
  obtain ⟨v5, s6, Ec, E⟩ := am_b2E E
  refine as_callV 35 (s2 := s6) (st := []) (st2 := [.int v5]) [.int (1 : Int32), .int (nI 99)] C A (by decide) ml_X9_83 yc_X7_readNumber yv_X7_readNumber (t_X7_readNumber (1 : Int32) (nI 99) s4 Ec) (by decide) sh_2 rfl rfl (Nat.le_of_ble_eq_true rfl) rfl dX9_readHarm_35 ?_
  refine am_istore_n 38 (lv2 := [(3, .int v5), (2, .int v3), (1, .int v1), (0, .ref 246)]) C dX9_readHarm_38 rfl (by decide) rfl ?_
  refine am_aload_n 39 C dX9_readHarm_39 rfl 3 rfl ?_
  refine as_getr 40 C fl_X9_21_8 dX9_readHarm_40 (by decide) sh_246 (rf_246_0 _ _) ?_
  obtain ⟨v7, Ec, E⟩ := am_bdE E
  refine as_callV 43 (s2 := s6) (st := []) (st2 := [.int v7]) [] C A (by decide) ml_X9_93 yc_X7_fine yv_X7_fine (t_X7_fine  s6 Ec) (by decide) sh_2 rfl rfl (Nat.le_of_ble_eq_true rfl) rfl dX9_readHarm_43 ?_
  refine am_if_eq 46 59 C dX9_readHarm_46 (by decide) (fun c9 => ?_) (fun c9 => ?_)
  · have E := am_ifT E c9
    replace E := Option.some.inj E
    subst E
    exact as_vret 59 C Z dX9_readHarm_59
  · have E := am_ifF E c9
    refine am_aload_n 49 C dX9_readHarm_49 rfl 3 rfl ?_
    refine as_getr 50 C fl_X9_9_8 dX9_readHarm_50 (by decide) sh_246 (rf_246_1 _ _) ?_
    refine am_iload_n 53 C dX9_readHarm_53 rfl 2 rfl ?_
    refine am_iload_n 54 C dX9_readHarm_54 rfl 1 rfl ?_
    refine am_iload_n 55 C dX9_readHarm_55 rfl 0 rfl ?_
    obtain ⟨s8, Ec, E⟩ := am_bdE E
    refine as_callV 56 (s2 := s8) (st := []) (st2 := []) [.int v1, .int v3, .int v5] C A (by decide) ml_X9_118 yc_X8_addHarm yv_X8_addHarm (t_X8_addHarm v1 v3 v5 s6 Ec) (by decide) sh_6 rfl rfl (Nat.le_of_ble_eq_true rfl) rfl dX9_readHarm_56 ?_
    replace E := Option.some.inj E
    subst E
    exact as_vret 59 C Z dX9_readHarm_59
def f_X9_readChild  (s0 : am_S) : Option (am_S) :=
  am_b2 (f_X7_readNumber (0 : Int32) ((s0.1 6 3) - (1 : Int32)) s0) (fun v1 s2 => am_bd (f_X7_fine s2) (fun v3 => am_if (v3 = 0) (some s2) (am_lt (as_i s2 6 14 ((s2.1 6 14) ||| ((1 : Int32) <<< (v1 &&& 31)))) (fun s4 => some s4))))
set_option maxRecDepth 100000 in
set_option maxHeartbeats 4000000 in
theorem t_X9_readChild (s0 : am_S) {z : am_S} (E : f_X9_readChild  s0 = some z) : AS yX9_readChild cX9_readChild 2 none 3 [.ref 246] s0 none z := by
  unfold f_X9_readChild at E
  refine as_met (lv := [(0, .ref 246)]) (by decide +kernel) (by simp [lg_sl, Value.category]) rfl (fun x C A Z => ?_)
  refine am_aload_n 0 C dX9_readChild_0 rfl 0 rfl ?_
  refine as_getr 1 C fl_X9_21_8 dX9_readChild_1 (by decide) sh_246 (rf_246_0 _ _) ?_
  refine am_iconst 4 (0 : Int32) C dX9_readChild_4 (by decide) ?_
  refine am_aload_n 5 C dX9_readChild_5 rfl 0 rfl ?_
  refine as_getr 6 C fl_X9_9_8 dX9_readChild_6 (by decide) sh_246 (rf_246_1 _ _) ?_
  refine as_geti 9 C fl_X9_45_7 dX9_readChild_9 (by decide) sh_6 ?_
  refine am_iconst 12 (1 : Int32) C dX9_readChild_12 (by decide) ?_
  refine am_isub 13 C dX9_readChild_13 ?_
  obtain ⟨v1, s2, Ec, E⟩ := am_b2E E
  refine as_callV 14 (s2 := s2) (st := []) (st2 := [.int v1]) [.int (0 : Int32), .int ((s0.1 6 3) - (1 : Int32))] C A (by decide) ml_X9_83 yc_X7_readNumber yv_X7_readNumber (t_X7_readNumber (0 : Int32) ((s0.1 6 3) - (1 : Int32)) s0 Ec) (by decide) sh_2 rfl rfl (Nat.le_of_ble_eq_true rfl) rfl dX9_readChild_14 ?_
  refine am_istore_n 17 (lv2 := [(1, .int v1), (0, .ref 246)]) C dX9_readChild_17 rfl (by decide) rfl ?_
  refine am_aload_n 18 C dX9_readChild_18 rfl 1 rfl ?_
  refine as_getr 19 C fl_X9_21_8 dX9_readChild_19 (by decide) sh_246 (rf_246_0 _ _) ?_
  obtain ⟨v3, Ec, E⟩ := am_bdE E
  refine as_callV 22 (s2 := s2) (st := []) (st2 := [.int v3]) [] C A (by decide) ml_X9_93 yc_X7_fine yv_X7_fine (t_X7_fine  s2 Ec) (by decide) sh_2 rfl rfl (Nat.le_of_ble_eq_true rfl) rfl dX9_readChild_22 ?_
  refine am_if_eq 25 43 C dX9_readChild_25 (by decide) (fun c5 => ?_) (fun c5 => ?_)
  · have E := am_ifT E c5
    replace E := Option.some.inj E
    subst E
    exact as_vret 43 C Z dX9_readChild_43
  · have E := am_ifF E c5
    refine am_aload_n 28 C dX9_readChild_28 rfl 1 rfl ?_
    refine as_getr 29 C fl_X9_9_8 dX9_readChild_29 (by decide) sh_246 (rf_246_1 _ _) ?_
    refine am_dup 32 C dX9_readChild_32 rfl ?_
    refine as_geti 33 C fl_X9_122_7 dX9_readChild_33 (by decide) sh_6 ?_
    refine am_iconst 36 (1 : Int32) C dX9_readChild_36 (by decide) ?_
    refine am_iload_n 37 C dX9_readChild_37 rfl 0 rfl ?_
    refine am_ishl 38 C dX9_readChild_38 ?_
    refine am_ior 39 C dX9_readChild_39 ?_
    obtain ⟨s4, hs4, E⟩ := am_ltE E
    refine as_puti 40 C fl_X9_122_7 dX9_readChild_40 (by decide) sh_6 rfl rfl hs4 ?_
    replace E := Option.some.inj E
    subst E
    exact as_vret 43 C Z dX9_readChild_43
def f_X9_readBehind (p1 : Int32) (s0 : am_S) : Option (am_S) :=
  am_if (p1 = (0 : Int32)) (am_bd (f_X9_readFacts s0) (fun s2 => some s2)) (am_if (p1 = (1 : Int32)) (am_bd (f_X9_readPerson s0) (fun s4 => some s4)) (am_if (p1 = (nI 2)) (am_bd (f_X9_readTrust s0) (fun s6 => some s6)) (am_if (p1 = (nI 3)) (am_bd (f_X9_readStreet s0) (fun s8 => some s8)) (am_if (p1 = (nI 4)) (am_bd (f_X9_readIf s0) (fun s10 => some s10)) (am_if (p1 = (nI 5)) (am_bd (f_X9_readHarm s0) (fun s12 => some s12)) (am_if (p1 = (nI 6)) (am_bd (f_X9_readChild s0) (fun s14 => some s14)) (am_lt (as_i s0 6 15 (1 : Int32)) (fun s16 => some s16))))))))
set_option maxRecDepth 100000 in
set_option maxHeartbeats 4000000 in
theorem t_X9_readBehind (p1 : Int32) (s0 : am_S) {z : am_S} (E : f_X9_readBehind p1 s0 = some z) : AS yX9_readBehind cX9_readBehind 2 none 5 [.ref 246, .int p1] s0 none z := by
  unfold f_X9_readBehind at E
  refine as_met (lv := [(0, .ref 246), (1, .int p1)]) (by decide +kernel) (by simp [lg_sl, Value.category]) rfl (fun x C A Z => ?_)
  refine am_iload_n 0 C dX9_readBehind_0 rfl 1 rfl ?_
  by_cases c3 : p1 = (0 : Int32)
  · have E := am_ifT E c3
    refine am_tabIn 1 44 C dX9_readBehind_1 (by rw [c3]; decide) (by rw [c3]; decide) (by rw [c3]; rfl) (by decide) ?_
    refine am_aload_n 44 C dX9_readBehind_44 rfl 0 rfl ?_
    obtain ⟨s2, Ec, E⟩ := am_bdE E
    refine as_callV 45 (s2 := s2) (st := []) (st2 := []) [] C A (by decide) ml_X9_62 yc_X9_readFacts yv_X9_readFacts (t_X9_readFacts  s0 Ec) (by decide) sh_246 rfl rfl (Nat.le_of_ble_eq_true rfl) rfl dX9_readBehind_45 ?_
    refine am_goto 48 101 C dX9_readBehind_48 (by decide) ?_
    replace E := Option.some.inj E
    subst E
    exact as_vret 101 C Z dX9_readBehind_101
  · have E := am_ifF E c3
    by_cases c5 : p1 = (1 : Int32)
    · have E := am_ifT E c5
      refine am_tabIn 1 51 C dX9_readBehind_1 (by rw [c5]; decide) (by rw [c5]; decide) (by rw [c5]; rfl) (by decide) ?_
      refine am_aload_n 51 C dX9_readBehind_51 rfl 0 rfl ?_
      obtain ⟨s4, Ec, E⟩ := am_bdE E
      refine as_callV 52 (s2 := s4) (st := []) (st2 := []) [] C A (by decide) ml_X9_65 yc_X9_readPerson yv_X9_readPerson (t_X9_readPerson  s0 Ec) (by decide) sh_246 rfl rfl (Nat.le_of_ble_eq_true rfl) rfl dX9_readBehind_52 ?_
      refine am_goto 55 101 C dX9_readBehind_55 (by decide) ?_
      replace E := Option.some.inj E
      subst E
      exact as_vret 101 C Z dX9_readBehind_101
    · have E := am_ifF E c5
      by_cases c7 : p1 = (nI 2)
      · have E := am_ifT E c7
        refine am_tabIn 1 58 C dX9_readBehind_1 (by rw [c7]; decide) (by rw [c7]; decide) (by rw [c7]; rfl) (by decide) ?_
        refine am_aload_n 58 C dX9_readBehind_58 rfl 0 rfl ?_
        obtain ⟨s6, Ec, E⟩ := am_bdE E
        refine as_callV 59 (s2 := s6) (st := []) (st2 := []) [] C A (by decide) ml_X9_68 yc_X9_readTrust yv_X9_readTrust (t_X9_readTrust  s0 Ec) (by decide) sh_246 rfl rfl (Nat.le_of_ble_eq_true rfl) rfl dX9_readBehind_59 ?_
        refine am_goto 62 101 C dX9_readBehind_62 (by decide) ?_
        replace E := Option.some.inj E
        subst E
        exact as_vret 101 C Z dX9_readBehind_101
      · have E := am_ifF E c7
        by_cases c9 : p1 = (nI 3)
        · have E := am_ifT E c9
          refine am_tabIn 1 65 C dX9_readBehind_1 (by rw [c9]; decide) (by rw [c9]; decide) (by rw [c9]; rfl) (by decide) ?_
          refine am_aload_n 65 C dX9_readBehind_65 rfl 0 rfl ?_
          obtain ⟨s8, Ec, E⟩ := am_bdE E
          refine as_callV 66 (s2 := s8) (st := []) (st2 := []) [] C A (by decide) ml_X9_71 yc_X9_readStreet yv_X9_readStreet (t_X9_readStreet  s0 Ec) (by decide) sh_246 rfl rfl (Nat.le_of_ble_eq_true rfl) rfl dX9_readBehind_66 ?_
          refine am_goto 69 101 C dX9_readBehind_69 (by decide) ?_
          replace E := Option.some.inj E
          subst E
          exact as_vret 101 C Z dX9_readBehind_101
        · have E := am_ifF E c9
          by_cases c11 : p1 = (nI 4)
          · have E := am_ifT E c11
            refine am_tabIn 1 72 C dX9_readBehind_1 (by rw [c11]; decide) (by rw [c11]; decide) (by rw [c11]; rfl) (by decide) ?_
            refine am_aload_n 72 C dX9_readBehind_72 rfl 0 rfl ?_
            obtain ⟨s10, Ec, E⟩ := am_bdE E
            refine as_callV 73 (s2 := s10) (st := []) (st2 := []) [] C A (by decide) ml_X9_74 yc_X9_readIf yv_X9_readIf (t_X9_readIf  s0 Ec) (by decide) sh_246 rfl rfl (Nat.le_of_ble_eq_true rfl) rfl dX9_readBehind_73 ?_
            refine am_goto 76 101 C dX9_readBehind_76 (by decide) ?_
            replace E := Option.some.inj E
            subst E
            exact as_vret 101 C Z dX9_readBehind_101
          · have E := am_ifF E c11
            by_cases c13 : p1 = (nI 5)
            · have E := am_ifT E c13
              refine am_tabIn 1 79 C dX9_readBehind_1 (by rw [c13]; decide) (by rw [c13]; decide) (by rw [c13]; rfl) (by decide) ?_
              refine am_aload_n 79 C dX9_readBehind_79 rfl 0 rfl ?_
              obtain ⟨s12, Ec, E⟩ := am_bdE E
              refine as_callV 80 (s2 := s12) (st := []) (st2 := []) [] C A (by decide) ml_X9_77 yc_X9_readHarm yv_X9_readHarm (t_X9_readHarm  s0 Ec) (by decide) sh_246 rfl rfl (Nat.le_of_ble_eq_true rfl) rfl dX9_readBehind_80 ?_
              refine am_goto 83 101 C dX9_readBehind_83 (by decide) ?_
              replace E := Option.some.inj E
              subst E
              exact as_vret 101 C Z dX9_readBehind_101
            · have E := am_ifF E c13
              by_cases c15 : p1 = (nI 6)
              · have E := am_ifT E c15
                refine am_tabIn 1 86 C dX9_readBehind_1 (by rw [c15]; decide) (by rw [c15]; decide) (by rw [c15]; rfl) (by decide) ?_
                refine am_aload_n 86 C dX9_readBehind_86 rfl 0 rfl ?_
                obtain ⟨s14, Ec, E⟩ := am_bdE E
                refine as_callV 87 (s2 := s14) (st := []) (st2 := []) [] C A (by decide) ml_X9_80 yc_X9_readChild yv_X9_readChild (t_X9_readChild  s0 Ec) (by decide) sh_246 rfl rfl (Nat.le_of_ble_eq_true rfl) rfl dX9_readBehind_87 ?_
                refine am_goto 90 101 C dX9_readBehind_90 (by decide) ?_
                replace E := Option.some.inj E
                subst E
                exact as_vret 101 C Z dX9_readBehind_101
              · have E := am_ifF E c15
                have ec3 := am_neI c3 0 (by decide)
                have ec5 := am_neI c5 1 (by decide)
                have ec7 := am_neI c7 2 (by decide)
                have ec9 := am_neI c9 3 (by decide)
                have ec11 := am_neI c11 4 (by decide)
                have ec13 := am_neI c13 5 (by decide)
                have ec15 := am_neI c15 6 (by decide)
                refine am_tabOut 1 93 C dX9_readBehind_1 (by omega) (by decide) ?_
                refine am_aload_n 93 C dX9_readBehind_93 rfl 0 rfl ?_
                refine as_getr 94 C fl_X9_9_8 dX9_readBehind_94 (by decide) sh_246 (rf_246_1 _ _) ?_
                refine am_iconst 97 (1 : Int32) C dX9_readBehind_97 (by decide) ?_
                obtain ⟨s16, hs16, E⟩ := am_ltE E
                refine as_puti 98 C fl_X9_58_7 dX9_readBehind_98 (by decide) sh_6 rfl rfl hs16 ?_
                replace E := Option.some.inj E
                subst E
                exact as_vret 101 C Z dX9_readBehind_101
def b_X10_addWay_55 (p1 : Int32) (v10 : Int32) (s11 : am_S) : Option ((Int32 × am_S) ⊕ (am_S)) :=
  am_if ((nI 8) ≤ v10) (some (Sum.inr s11)) (am_gd (¬ v10 < 0 ∧ (v10).toNatClampNeg < 8) (am_bd (f_X11_bit p1 v10) (fun v13 => am_gd (¬ v10 < 0 ∧ (v10).toNatClampNeg < 8) (am_lt (as_i s11 136 (v10).toNatClampNeg ((s11.1 136 (v10).toNatClampNeg) + v13)) (fun s15 => am_lt (v10 + (1 : Int32)) (fun v16 => some (Sum.inl (v16, s15))))))))
def f_X10_addWay (p1 : Int32) (p2 : Int32) (p3 : Int32) (s0 : am_S) : Option (am_S) :=
  am_lt (as_i s0 135 0 ((s0.1 135 0) + (1 : Int32))) (fun s4 => am_lt (as_i s4 135 1 ((s4.1 135 1) &&& p1)) (fun s5 => am_lt (as_i s5 135 2 ((s5.1 135 2) &&& (p1 ^^^ (-1 : Int32)))) (fun s6 => am_lt (as_i s6 135 3 ((s6.1 135 3) &&& p2)) (fun s7 => am_lt (as_i s7 135 4 ((s7.1 135 4) &&& p3)) (fun s8 => am_lp (fun (q : Int32 × am_S) => b_X10_addWay_55 p1 q.1 q.2) am_F ((0 : Int32), s8))))))
set_option maxRecDepth 100000 in
set_option maxHeartbeats 4000000 in
theorem t_X10_addWay (p1 : Int32) (p2 : Int32) (p3 : Int32) (s0 : am_S) {z : am_S} (E : f_X10_addWay p1 p2 p3 s0 = some z) : AS yX10_addWay cX10_addWay 5 none 2 [.ref 135, .int p1, .int p2, .int p3] s0 none z := by
  unfold f_X10_addWay at E
  refine as_met (lv := [(0, .ref 135), (1, .int p1), (2, .int p2), (3, .int p3)]) (by decide +kernel) (by simp [lg_sl, Value.category]) rfl (fun x C A Z => ?_)
  refine am_aload_n 0 C dX10_addWay_0 rfl 0 rfl ?_
  refine am_dup 1 C dX10_addWay_1 rfl ?_
  refine as_geti 2 C fl_X10_27_9 dX10_addWay_2 (by decide) sh_135 ?_
  refine am_iconst 5 (1 : Int32) C dX10_addWay_5 (by decide) ?_
  refine am_iadd 6 C dX10_addWay_6 ?_
  obtain ⟨s4, hs4, E⟩ := am_ltE E
  refine as_puti 7 C fl_X10_27_9 dX10_addWay_7 (by decide) sh_135 rfl rfl hs4 ?_
  refine am_aload_n 10 C dX10_addWay_10 rfl 0 rfl ?_
  refine am_dup 11 C dX10_addWay_11 rfl ?_
  refine as_geti 12 C fl_X10_30_9 dX10_addWay_12 (by decide) sh_135 ?_
  refine am_iload_n 15 C dX10_addWay_15 rfl 1 rfl ?_
  refine am_iand 16 C dX10_addWay_16 ?_
  obtain ⟨s5, hs5, E⟩ := am_ltE E
  refine as_puti 17 C fl_X10_30_9 dX10_addWay_17 (by decide) sh_135 rfl rfl hs5 ?_
  refine am_aload_n 20 C dX10_addWay_20 rfl 0 rfl ?_
  refine am_dup 21 C dX10_addWay_21 rfl ?_
  refine as_geti 22 C fl_X10_33_9 dX10_addWay_22 (by decide) sh_135 ?_
  refine am_iload_n 25 C dX10_addWay_25 rfl 1 rfl ?_
  refine am_iconst 26 (-1 : Int32) C dX10_addWay_26 (by decide) ?_
  refine am_ixor 27 C dX10_addWay_27 ?_
  refine am_iand 28 C dX10_addWay_28 ?_
  obtain ⟨s6, hs6, E⟩ := am_ltE E
  refine as_puti 29 C fl_X10_33_9 dX10_addWay_29 (by decide) sh_135 rfl rfl hs6 ?_
  refine am_aload_n 32 C dX10_addWay_32 rfl 0 rfl ?_
  refine am_dup 33 C dX10_addWay_33 rfl ?_
  refine as_geti 34 C fl_X10_36_9 dX10_addWay_34 (by decide) sh_135 ?_
  refine am_iload_n 37 C dX10_addWay_37 rfl 2 rfl ?_
  refine am_iand 38 C dX10_addWay_38 ?_
  obtain ⟨s7, hs7, E⟩ := am_ltE E
  refine as_puti 39 C fl_X10_36_9 dX10_addWay_39 (by decide) sh_135 rfl rfl hs7 ?_
  refine am_aload_n 42 C dX10_addWay_42 rfl 0 rfl ?_
  refine am_dup 43 C dX10_addWay_43 rfl ?_
  refine as_geti 44 C fl_X10_39_9 dX10_addWay_44 (by decide) sh_135 ?_
  refine am_iload_n 47 C dX10_addWay_47 rfl 3 rfl ?_
  refine am_iand 48 C dX10_addWay_48 ?_
  obtain ⟨s8, hs8, E⟩ := am_ltE E
  refine as_puti 49 C fl_X10_39_9 dX10_addWay_49 (by decide) sh_135 rfl rfl hs8 ?_
  refine am_iconst 52 (0 : Int32) C dX10_addWay_52 (by decide) ?_
  refine am_istore 53 (lv2 := [(4, .int (0 : Int32)), (0, .ref 135), (1, .int p1), (2, .int p2), (3, .int p3)]) C dX10_addWay_53 (by decide) rfl ?_
  have LP9 : ∀ (n : Nat) (v10 : Int32) (s11 : am_S), am_lp (fun (q : Int32 × am_S) => b_X10_addWay_55 p1 q.1 q.2) n (v10, s11) = some z → AX x 0 0 55 [(0, .ref 135), (1, .int p1), (4, .int v10)] [] am_N (am_h s11) := by
    intro n
    induction n with
    | zero => intro v10 s11 E; exact (am_lp0 E).elim
    | succ n ih9 =>
      intro v10 s11 E
      obtain ⟨r9, E, Er9⟩ := am_lpE E
      replace E : b_X10_addWay_55 p1 v10 s11 = some r9 := E
      unfold b_X10_addWay_55 at E
      refine am_iload 55 C dX10_addWay_55 2 rfl ?_
      refine am_bipush 57 (nI 8) C dX10_addWay_57 (by decide) ?_
      refine am_icmp_ge 59 84 C dX10_addWay_59 (by decide) (fun c17 => ?_) (fun c17 => ?_)
      · have E := am_ifT E c17
        replace E := Option.some.inj E
        replace E := am_exR E Er9
        subst E
        exact as_vret 84 C Z dX10_addWay_84
      · have E := am_ifF E c17
        refine am_aload_n 62 C dX10_addWay_62 rfl 0 rfl ?_
        refine as_getr 63 C fl_X10_9_9 dX10_addWay_63 (by decide) sh_135 (rf_135_5 _ _) ?_
        refine am_iload 66 C dX10_addWay_66 2 rfl ?_
        refine am_dup2 68 C dX10_addWay_68 rfl rfl ?_
        obtain ⟨g12, E⟩ := am_gdE E
        refine as_iald 69 C dX10_addWay_69 (by decide) sh_136 g12 ?_
        refine am_iload_n 70 C dX10_addWay_70 rfl 1 rfl ?_
        refine am_iload 71 C dX10_addWay_71 2 rfl ?_
        obtain ⟨v13, Ec, E⟩ := am_bdE E
        refine as_callSN 73 (s2 := s11) (st := [.int (s11.1 136 (v10).toNatClampNeg), .int v10, .ref 136]) (st2 := [.int v13, .int (s11.1 136 (v10).toNatClampNeg), .int v10, .ref 136]) [.int p1, .int v10] C A (by decide) mn_X10_58 yc_X11_bit ys_X11_bit (t_X11_bit p1 v10 s11 Ec) rfl rfl (Nat.le_of_ble_eq_true rfl) rfl dX10_addWay_73 ?_
        refine am_iadd 76 C dX10_addWay_76 ?_
        obtain ⟨g14, E⟩ := am_gdE E
        obtain ⟨s15, hs15, E⟩ := am_ltE E
        refine as_iast 77 C dX10_addWay_77 (by decide) sh_136 g14 hs15 ?_
        obtain ⟨v16, hv16, E⟩ := am_ltE E
        refine as_iinc 78 (q := (1 : Int32)) (lv2 := [(4, .int v16), (0, .ref 135), (1, .int p1)]) C dX10_addWay_78 2 rfl (by decide) hv16 (by decide) rfl ?_
        refine am_goto 81 55 C dX10_addWay_81 (by decide) ?_
        replace E := Option.some.inj E
        replace E := am_exL E Er9
        refine am_lvs [1, 2, 0] rfl ?_
        exact ih9 _ _ E
  refine am_lvs [1, 2, 0] rfl ?_
  exact LP9 am_F _ _ E
def j_X10_weighWay_80 (p1 : Int32) (v2 : Int32) (v3 : Int32) (s4 : am_S) : Option (am_S) :=
  am_if ((v2 &&& v3) = 0) (am_bd (f_X10_addWay p1 v2 v3 s4) (fun s5 => some s5)) (some s4)
def b_X10_weighWay_8 (p1 : Int32) (s0 : am_S) (v8 : Int32) (v9 : Int32) (v10 : Int32) : Option ((Int32 × Int32 × Int32) ⊕ (am_S)) :=
  am_if ((s0.1 15 4) ≤ v10) (am_bd (j_X10_weighWay_80 p1 v8 v9 s0) (fun e11 => some (Sum.inr e11))) (am_lt ((nI 3) * v10) (fun v12 => am_gd (¬ v12 < 0 ∧ (v12).toNatClampNeg < 36) (am_lt ((1 : Int32) <<< ((s0.1 29 (v12).toNatClampNeg) &&& 31)) (fun v14 => am_lt (((nI 3) * v10) + (1 : Int32)) (fun v15 => am_gd (¬ v15 < 0 ∧ (v15).toNatClampNeg < 36) (am_bd (f_X11_bit p1 (s0.1 29 (v15).toNatClampNeg)) (fun v17 => am_lt (((nI 3) * v10) + (nI 2)) (fun v18 => am_gd (¬ v18 < 0 ∧ (v18).toNatClampNeg < 36) (am_if (v17 = (s0.1 29 (v18).toNatClampNeg)) (am_lt (v9 ||| v14) (fun v22 => am_lt (v10 + (1 : Int32)) (fun v23 => some (Sum.inl (v8, v22, v23))))) (am_lt (v8 ||| v14) (fun v20 => am_lt (v10 + (1 : Int32)) (fun v21 => some (Sum.inl (v20, v9, v21))))))))))))))
def f_X10_weighWay (p1 : Int32) (s0 : am_S) : Option (am_S) :=
  am_lp (fun (q : Int32 × Int32 × Int32) => b_X10_weighWay_8 p1 s0 q.1 q.2.1 q.2.2) am_F ((0 : Int32), (0 : Int32), (0 : Int32))
set_option maxRecDepth 100000 in
set_option maxHeartbeats 4000000 in
theorem t_X10_weighWay (p1 : Int32) (s0 : am_S) {z : am_S} (E : f_X10_weighWay p1 s0 = some z) : AS yX10_weighWay cX10_weighWay 7 none 3 [.ref 135, .ref 15, .int p1] s0 none z := by
  unfold f_X10_weighWay at E
  refine as_met (lv := [(0, .ref 135), (1, .ref 15), (2, .int p1)]) (by decide +kernel) (by simp [lg_sl, Value.category]) rfl (fun x C A Z => ?_)
  have K80 : ∀ (v2 : Int32) (v3 : Int32) (s4 : am_S), j_X10_weighWay_80 p1 v2 v3 s4 = some z → AX x 0 0 80 [(0, .ref 135), (1, .ref 15), (2, .int p1), (3, .int v2), (4, .int v3)] [] am_N (am_h s4) := by
    intro v2 v3 s4 E
    unfold j_X10_weighWay_80 at E
    refine am_iload_n 80 C dX10_weighWay_80 rfl 3 rfl ?_
    refine am_iload 81 C dX10_weighWay_81 4 rfl ?_
    refine am_iand 83 C dX10_weighWay_83 ?_
    refine am_if_ne 84 95 C dX10_weighWay_84 (by decide) (fun c6 => ?_) (fun c6 => ?_)
    · have E := am_ifF E c6
      replace E := Option.some.inj E
      subst E
      exact as_vret 95 C Z dX10_weighWay_95
    · have E := am_ifT E c6
      refine am_aload_n 87 C dX10_weighWay_87 rfl 0 rfl ?_
      refine am_iload_n 88 C dX10_weighWay_88 rfl 2 rfl ?_
      refine am_iload_n 89 C dX10_weighWay_89 rfl 3 rfl ?_
      refine am_iload 90 C dX10_weighWay_90 4 rfl ?_
      obtain ⟨s5, Ec, E⟩ := am_bdE E
      refine as_callV 92 (s2 := s5) (st := []) (st2 := []) [.int p1, .int v2, .int v3] C A (by decide) ml_X10_62 yc_X10_addWay yv_X10_addWay (t_X10_addWay p1 v2 v3 s4 Ec) (by decide) sh_135 rfl rfl (Nat.le_of_ble_eq_true rfl) rfl dX10_weighWay_92 ?_
      replace E := Option.some.inj E
      subst E
      exact as_vret 95 C Z dX10_weighWay_95
  refine am_iconst 0 (0 : Int32) C dX10_weighWay_0 (by decide) ?_
  refine am_istore_n 1 (lv2 := [(3, .int (0 : Int32)), (0, .ref 135), (1, .ref 15), (2, .int p1)]) C dX10_weighWay_1 rfl (by decide) rfl ?_
  refine am_iconst 2 (0 : Int32) C dX10_weighWay_2 (by decide) ?_
  refine am_istore 3 (lv2 := [(4, .int (0 : Int32)), (3, .int (0 : Int32)), (0, .ref 135), (1, .ref 15), (2, .int p1)]) C dX10_weighWay_3 (by decide) rfl ?_
  refine am_iconst 5 (0 : Int32) C dX10_weighWay_5 (by decide) ?_
  refine am_istore 6 (lv2 := [(5, .int (0 : Int32)), (4, .int (0 : Int32)), (3, .int (0 : Int32)), (0, .ref 135), (1, .ref 15), (2, .int p1)]) C dX10_weighWay_6 (by decide) rfl ?_
  have LP7 : ∀ (n : Nat) (v8 : Int32) (v9 : Int32) (v10 : Int32), am_lp (fun (q : Int32 × Int32 × Int32) => b_X10_weighWay_8 p1 s0 q.1 q.2.1 q.2.2) n (v8, v9, v10) = some z → AX x 0 0 8 [(0, .ref 135), (1, .ref 15), (2, .int p1), (3, .int v8), (4, .int v9), (5, .int v10)] [] am_N (am_h s0) := by
    intro n
    induction n with
    | zero => intro v8 v9 v10 E; exact (am_lp0 E).elim
    | succ n ih7 =>
      intro v8 v9 v10 E
      obtain ⟨r7, E, Er7⟩ := am_lpE E
      replace E : b_X10_weighWay_8 p1 s0 v8 v9 v10 = some r7 := E
      unfold b_X10_weighWay_8 at E
      refine am_iload 8 C dX10_weighWay_8 5 rfl ?_
      refine am_aload_n 10 C dX10_weighWay_10 rfl 1 rfl ?_
      refine as_geti 11 C fl_X10_52_4 dX10_weighWay_11 (by decide) sh_15 ?_
      refine am_icmp_ge 14 80 C dX10_weighWay_14 (by decide) (fun c25 => ?_) (fun c25 => ?_)
      · have E := am_ifT E c25
        obtain ⟨e11, E, E2⟩ := am_bdE E
        replace E2 := Option.some.inj E2
        replace E2 := am_exR E2 Er7
        rw [E2] at E
        refine am_lvs [0, 1, 2, 3, 4] rfl ?_
        exact K80 _ _ _ E
      · have E := am_ifF E c25
        refine am_iconst 17 (1 : Int32) C dX10_weighWay_17 (by decide) ?_
        refine am_aload_n 18 C dX10_weighWay_18 rfl 1 rfl ?_
        refine as_getr 19 C fl_X10_55_4 dX10_weighWay_19 (by decide) sh_15 (rf_15_5 _ _) ?_
        refine am_iconst 22 (nI 3) C dX10_weighWay_22 (by decide) ?_
        refine am_iload 23 C dX10_weighWay_23 5 rfl ?_
        refine am_imul 25 C dX10_weighWay_25 ?_
        obtain ⟨v12, hv12, E⟩ := am_ltE E
        refine as_nm hv12 ?_
        obtain ⟨g13, E⟩ := am_gdE E
        refine as_iald 26 C dX10_weighWay_26 (by decide) sh_29 g13 ?_
        refine am_ishl 27 C dX10_weighWay_27 ?_
        obtain ⟨v14, hv14, E⟩ := am_ltE E
        refine as_nm hv14 ?_
        refine am_istore 28 (lv2 := [(6, .int v14), (0, .ref 135), (1, .ref 15), (2, .int p1), (3, .int v8), (4, .int v9), (5, .int v10)]) C dX10_weighWay_28 (by decide) rfl ?_
        refine am_iload_n 30 C dX10_weighWay_30 rfl 3 rfl ?_
        refine am_aload_n 31 C dX10_weighWay_31 rfl 2 rfl ?_
        refine as_getr 32 C fl_X10_55_4 dX10_weighWay_32 (by decide) sh_15 (rf_15_5 _ _) ?_
        refine am_iconst 35 (nI 3) C dX10_weighWay_35 (by decide) ?_
        refine am_iload 36 C dX10_weighWay_36 6 rfl ?_
        refine am_imul 38 C dX10_weighWay_38 ?_
        refine am_iconst 39 (1 : Int32) C dX10_weighWay_39 (by decide) ?_
        refine am_iadd 40 C dX10_weighWay_40 ?_
        obtain ⟨v15, hv15, E⟩ := am_ltE E
        refine as_nm hv15 ?_
        obtain ⟨g16, E⟩ := am_gdE E
        refine as_iald 41 C dX10_weighWay_41 (by decide) sh_29 g16 ?_
        obtain ⟨v17, Ec, E⟩ := am_bdE E
        refine as_callSN 42 (s2 := s0) (st := []) (st2 := [.int v17]) [.int p1, .int (s0.1 29 (v15).toNatClampNeg)] C A (by decide) mn_X10_58 yc_X11_bit ys_X11_bit (t_X11_bit p1 (s0.1 29 (v15).toNatClampNeg) s0 Ec) rfl rfl (Nat.le_of_ble_eq_true rfl) rfl dX10_weighWay_42 ?_
        refine am_aload_n 45 C dX10_weighWay_45 rfl 2 rfl ?_
        refine as_getr 46 C fl_X10_55_4 dX10_weighWay_46 (by decide) sh_15 (rf_15_5 _ _) ?_
        refine am_iconst 49 (nI 3) C dX10_weighWay_49 (by decide) ?_
        refine am_iload 50 C dX10_weighWay_50 6 rfl ?_
        refine am_imul 52 C dX10_weighWay_52 ?_
        refine am_iconst 53 (nI 2) C dX10_weighWay_53 (by decide) ?_
        refine am_iadd 54 C dX10_weighWay_54 ?_
        obtain ⟨v18, hv18, E⟩ := am_ltE E
        refine as_nm hv18 ?_
        obtain ⟨g19, E⟩ := am_gdE E
        refine as_iald 55 C dX10_weighWay_55 (by decide) sh_29 g19 ?_
        refine am_icmp_ne 56 69 C dX10_weighWay_56 (by decide) (fun c24 => ?_) (fun c24 => ?_)
        · have E := am_ifF E c24
          refine am_iload_n 69 C dX10_weighWay_69 rfl 4 rfl ?_
          refine am_iload 70 C dX10_weighWay_70 0 rfl ?_
          refine am_ior 72 C dX10_weighWay_72 ?_
          obtain ⟨v20, hv20, E⟩ := am_ltE E
          refine as_nm hv20 ?_
          refine am_istore_n 73 (lv2 := [(3, .int v20), (6, .int v14), (0, .ref 135), (1, .ref 15), (2, .int p1), (4, .int v9), (5, .int v10)]) C dX10_weighWay_73 rfl (by decide) rfl ?_
          obtain ⟨v21, hv21, E⟩ := am_ltE E
          refine as_iinc 74 (q := (1 : Int32)) (lv2 := [(5, .int v21), (3, .int v20), (6, .int v14), (0, .ref 135), (1, .ref 15), (2, .int p1), (4, .int v9)]) C dX10_weighWay_74 6 rfl (by decide) hv21 (by decide) rfl ?_
          refine am_goto 77 8 C dX10_weighWay_77 (by decide) ?_
          replace E := Option.some.inj E
          replace E := am_exL E Er7
          refine am_lvs [3, 4, 5, 1, 6, 0] rfl ?_
          exact ih7 _ _ _ E
        · have E := am_ifT E c24
          refine am_iload 59 C dX10_weighWay_59 5 rfl ?_
          refine am_iload 61 C dX10_weighWay_61 0 rfl ?_
          refine am_ior 63 C dX10_weighWay_63 ?_
          obtain ⟨v22, hv22, E⟩ := am_ltE E
          refine as_nm hv22 ?_
          refine am_istore 64 (lv2 := [(4, .int v22), (6, .int v14), (0, .ref 135), (1, .ref 15), (2, .int p1), (3, .int v8), (5, .int v10)]) C dX10_weighWay_64 (by decide) rfl ?_
          refine am_goto 66 74 C dX10_weighWay_66 (by decide) ?_
          obtain ⟨v23, hv23, E⟩ := am_ltE E
          refine as_iinc 74 (q := (1 : Int32)) (lv2 := [(5, .int v23), (4, .int v22), (6, .int v14), (0, .ref 135), (1, .ref 15), (2, .int p1), (3, .int v8)]) C dX10_weighWay_74 6 rfl (by decide) hv23 (by decide) rfl ?_
          refine am_goto 77 8 C dX10_weighWay_77 (by decide) ?_
          replace E := Option.some.inj E
          replace E := am_exL E Er7
          refine am_lvs [3, 4, 5, 6, 1, 0] rfl ?_
          exact ih7 _ _ _ E
  refine am_lvs [3, 4, 5, 2, 1, 0] rfl ?_
  exact LP7 am_F _ _ _ E
def b_X10_weigh_51 (v1 : Int32) (v9 : Int32) (s10 : am_S) : Option ((Int32 × am_S) ⊕ (am_S)) :=
  am_if (v1 < v9) (some (Sum.inr s10)) (am_bd (f_X10_weighWay v9 s10) (fun s11 => am_lt (v9 + (1 : Int32)) (fun v12 => some (Sum.inl (v12, s11)))))
def f_X10_weigh  (s0 : am_S) : Option (am_S) :=
  am_lt (((1 : Int32) <<< ((s0.1 16 1) &&& 31)) - (1 : Int32)) (fun v1 => am_lt (as_i s0 135 0 (0 : Int32)) (fun s2 => am_lt (as_i s2 135 1 v1) (fun s3 => am_lt (as_i s3 135 2 v1) (fun s4 => am_lt (as_i s4 135 3 (nI 127)) (fun s5 => am_lt (as_i s5 135 4 (s5.1 135 3)) (fun s6 => am_bd (f_J7_fill_53178 136 (0 : Int32) s6) (fun s7 => am_lp (fun (q : Int32 × am_S) => b_X10_weigh_51 v1 q.1 q.2) am_F ((0 : Int32), s7))))))))
set_option maxRecDepth 100000 in
set_option maxHeartbeats 4000000 in
theorem t_X10_weigh (s0 : am_S) {z : am_S} (E : f_X10_weigh  s0 = some z) : AS yX10_weigh cX10_weigh 4 none 4 [.ref 135, .ref 15] s0 none z := by
  unfold f_X10_weigh at E
  refine as_met (lv := [(0, .ref 135), (1, .ref 15)]) (by decide +kernel) (by simp [lg_sl, Value.category]) rfl (fun x C A Z => ?_)
  refine am_iconst 0 (1 : Int32) C dX10_weigh_0 (by decide) ?_
  refine am_aload_n 1 C dX10_weigh_1 rfl 1 rfl ?_
  refine as_getr 2 C fl_X10_15_4 dX10_weigh_2 (by decide) sh_15 (rf_15_0 _ _) ?_
  refine as_geti 5 C fl_X10_21_7 dX10_weigh_5 (by decide) sh_16 ?_
  refine am_ishl 8 C dX10_weigh_8 ?_
  refine am_iconst 9 (1 : Int32) C dX10_weigh_9 (by decide) ?_
  refine am_isub 10 C dX10_weigh_10 ?_
  obtain ⟨v1, hv1, E⟩ := am_ltE E
  refine as_nm hv1 ?_
  refine am_istore_n 11 (lv2 := [(2, .int v1), (0, .ref 135), (1, .ref 15)]) C dX10_weigh_11 rfl (by decide) rfl ?_
  refine am_aload_n 12 C dX10_weigh_12 rfl 1 rfl ?_
  refine am_iconst 13 (0 : Int32) C dX10_weigh_13 (by decide) ?_
  obtain ⟨s2, hs2, E⟩ := am_ltE E
  refine as_puti 14 C fl_X10_27_9 dX10_weigh_14 (by decide) sh_135 rfl rfl hs2 ?_
  refine am_aload_n 17 C dX10_weigh_17 rfl 1 rfl ?_
  refine am_iload_n 18 C dX10_weigh_18 rfl 0 rfl ?_
  obtain ⟨s3, hs3, E⟩ := am_ltE E
  refine as_puti 19 C fl_X10_30_9 dX10_weigh_19 (by decide) sh_135 rfl rfl hs3 ?_
  refine am_aload_n 22 C dX10_weigh_22 rfl 1 rfl ?_
  refine am_iload_n 23 C dX10_weigh_23 rfl 0 rfl ?_
  obtain ⟨s4, hs4, E⟩ := am_ltE E
  refine as_puti 24 C fl_X10_33_9 dX10_weigh_24 (by decide) sh_135 rfl rfl hs4 ?_
  refine am_aload_n 27 C dX10_weigh_27 rfl 1 rfl ?_
  refine am_bipush 28 (nI 127) C dX10_weigh_28 (by decide) ?_
  obtain ⟨s5, hs5, E⟩ := am_ltE E
  refine as_puti 30 C fl_X10_36_9 dX10_weigh_30 (by decide) sh_135 rfl rfl hs5 ?_
  refine am_aload_n 33 C dX10_weigh_33 rfl 1 rfl ?_
  refine am_aload_n 34 C dX10_weigh_34 rfl 1 rfl ?_
  refine as_geti 35 C fl_X10_36_9 dX10_weigh_35 (by decide) sh_135 ?_
  obtain ⟨s6, hs6, E⟩ := am_ltE E
  refine as_puti 38 C fl_X10_39_9 dX10_weigh_38 (by decide) sh_135 rfl rfl hs6 ?_
  refine am_aload_n 41 C dX10_weigh_41 rfl 1 rfl ?_
  refine as_getr 42 C fl_X10_9_9 dX10_weigh_42 (by decide) sh_135 (rf_135_5 _ _) ?_
  refine am_iconst 45 (0 : Int32) C dX10_weigh_45 (by decide) ?_
  obtain ⟨s7, Ec, E⟩ := am_bdE E
  refine as_callS 46 (s2 := s7) (st := []) (st2 := []) [.ref 136, .int (0 : Int32)] C A (by decide) ml_X10_42 yc_J7_fill_53178 ys_J7_fill_53178 (t_J7_fill_53178 136 (0 : Int32) s6 Ec) rfl rfl (Nat.le_of_ble_eq_true rfl) rfl dX10_weigh_46 ?_
  refine am_iconst 49 (0 : Int32) C dX10_weigh_49 (by decide) ?_
  refine am_istore_n 50 (lv2 := [(3, .int (0 : Int32)), (2, .int v1), (0, .ref 135), (1, .ref 15)]) C dX10_weigh_50 rfl (by decide) rfl ?_
  have LP8 : ∀ (n : Nat) (v9 : Int32) (s10 : am_S), am_lp (fun (q : Int32 × am_S) => b_X10_weigh_51 v1 q.1 q.2) n (v9, s10) = some z → AX x 0 0 51 [(0, .ref 135), (1, .ref 15), (2, .int v1), (3, .int v9)] [] am_N (am_h s10) := by
    intro n
    induction n with
    | zero => intro v9 s10 E; exact (am_lp0 E).elim
    | succ n ih8 =>
      intro v9 s10 E
      obtain ⟨r8, E, Er8⟩ := am_lpE E
      replace E : b_X10_weigh_51 v1 v9 s10 = some r8 := E
      unfold b_X10_weigh_51 at E
      refine am_iload_n 51 C dX10_weigh_51 rfl 3 rfl ?_
      refine am_iload_n 52 C dX10_weigh_52 rfl 2 rfl ?_
      refine am_icmp_gt 53 68 C dX10_weigh_53 (by decide) (fun c13 => ?_) (fun c13 => ?_)
      · have E := am_ifT E c13
        replace E := Option.some.inj E
        replace E := am_exR E Er8
        subst E
        exact as_vret 68 C Z dX10_weigh_68
      · have E := am_ifF E c13
        refine am_aload_n 56 C dX10_weigh_56 rfl 0 rfl ?_
        refine am_aload_n 57 C dX10_weigh_57 rfl 1 rfl ?_
        refine am_iload_n 58 C dX10_weigh_58 rfl 3 rfl ?_
        obtain ⟨s11, Ec, E⟩ := am_bdE E
        refine as_callV 59 (s2 := s11) (st := []) (st2 := []) [.ref 15, .int v9] C A (by decide) ml_X10_48 yc_X10_weighWay yv_X10_weighWay (t_X10_weighWay v9 s10 Ec) (by decide) sh_135 rfl rfl (Nat.le_of_ble_eq_true rfl) rfl dX10_weigh_59 ?_
        obtain ⟨v12, hv12, E⟩ := am_ltE E
        refine as_iinc 62 (q := (1 : Int32)) (lv2 := [(3, .int v12), (0, .ref 135), (1, .ref 15), (2, .int v1)]) C dX10_weigh_62 3 rfl (by decide) hv12 (by decide) rfl ?_
        refine am_goto 65 51 C dX10_weigh_65 (by decide) ?_
        replace E := Option.some.inj E
        replace E := am_exL E Er8
        refine am_lvs [1, 2, 3, 0] rfl ?_
        exact ih8 _ _ E
  refine am_lvs [2, 3, 1, 0] rfl ?_
  exact LP8 am_F _ _ E
def f_X10_mostAgreeing (p1 : Int32) (s0 : am_S) : Option (Int32) :=
  am_gd (¬ p1 < 0 ∧ (p1).toNatClampNeg < 8) (am_gd (¬ p1 < 0 ∧ (p1).toNatClampNeg < 8) (some (if (s0.1 136 (p1).toNatClampNeg) < ((s0.1 135 0) - (s0.1 136 (p1).toNatClampNeg)) then ((s0.1 135 0) - (s0.1 136 (p1).toNatClampNeg)) else (s0.1 136 (p1).toNatClampNeg))))
set_option maxRecDepth 100000 in
set_option maxHeartbeats 4000000 in
theorem t_X10_mostAgreeing (p1 : Int32) (s0 : am_S) {z : Int32} (E : f_X10_mostAgreeing p1 s0 = some z) : AS yX10_mostAgreeing cX10_mostAgreeing 2 (some .int) 2 [.ref 135, .int p1] s0 (some (.int z)) s0 := by
  unfold f_X10_mostAgreeing at E
  refine as_met (lv := [(0, .ref 135), (1, .int p1)]) (by decide +kernel) (by simp [lg_sl, Value.category]) rfl (fun x C A Z => ?_)
  refine am_aload_n 0 C dX10_mostAgreeing_0 rfl 0 rfl ?_
  refine as_getr 1 C fl_X10_9_9 dX10_mostAgreeing_1 (by decide) sh_135 (rf_135_5 _ _) ?_
  refine am_iload_n 4 C dX10_mostAgreeing_4 rfl 1 rfl ?_
  obtain ⟨g2, E⟩ := am_gdE E
  refine as_iald 5 C dX10_mostAgreeing_5 (by decide) sh_136 g2 ?_
  refine am_aload_n 6 C dX10_mostAgreeing_6 rfl 0 rfl ?_
  refine as_geti 7 C fl_X10_27_9 dX10_mostAgreeing_7 (by decide) sh_135 ?_
  refine am_aload_n 10 C dX10_mostAgreeing_10 rfl 0 rfl ?_
  refine as_getr 11 C fl_X10_9_9 dX10_mostAgreeing_11 (by decide) sh_135 (rf_135_5 _ _) ?_
  refine am_iload_n 14 C dX10_mostAgreeing_14 rfl 1 rfl ?_
  obtain ⟨g3, E⟩ := am_gdE E
  refine as_iald 15 C dX10_mostAgreeing_15 (by decide) sh_136 g3 ?_
  refine am_isub 16 C dX10_mostAgreeing_16 ?_
  refine as_max 17 C A (by decide) ml_X10_66 (Nat.le_of_ble_eq_true rfl) dX10_mostAgreeing_17 ?_
  replace E := Option.some.inj E
  subst E
  exact as_iret 20 C Z rfl dX10_mostAgreeing_20
def b_X11_addBytes_3 (p1 : Int32) (v3 : Int32) (s4 : am_S) : Option ((Int32 × am_S) ⊕ (am_S)) :=
  am_if (v3 < 0) (some (Sum.inr s4)) (am_if ((nI 400) ≤ (s4.1 0 1)) (am_lt (v3 + (-8 : Int32)) (fun v5 => some (Sum.inl (v5, s4)))) (am_gd (¬ (s4.1 0 1) < 0 ∧ ((s4.1 0 1)).toNatClampNeg < 400) (am_lt (as_i s4 1 ((s4.1 0 1)).toNatClampNeg (vp_nar .byte ((p1 >>> (v3 &&& 31))).toInt8.toInt32)) (fun s7 => am_lt (as_i s7 0 1 ((s7.1 0 1) + (1 : Int32))) (fun s8 => am_lt (v3 + (-8 : Int32)) (fun v9 => some (Sum.inl (v9, s8))))))))
def f_X11_addBytes (p1 : Int32) (s0 : am_S) : Option (am_S) :=
  am_lp (fun (q : Int32 × am_S) => b_X11_addBytes_3 p1 q.1 q.2) am_F ((nI 24), s0)
set_option maxRecDepth 100000 in
set_option maxHeartbeats 4000000 in
theorem t_X11_addBytes (p1 : Int32) (s0 : am_S) {z : am_S} (E : f_X11_addBytes p1 s0 = some z) : AS yX11_addBytes cX11_addBytes 3 none 1 [.ref 0, .int p1] s0 none z := by
  unfold f_X11_addBytes at E
  refine as_met (lv := [(0, .ref 0), (1, .int p1)]) (by decide +kernel) (by simp [lg_sl, Value.category]) rfl (fun x C A Z => ?_)
  refine am_bipush 0 (nI 24) C dX11_addBytes_0 (by decide) ?_
  refine am_istore_n 2 (lv2 := [(2, .int (nI 24)), (0, .ref 0), (1, .int p1)]) C dX11_addBytes_2 rfl (by decide) rfl ?_
  have LP2 : ∀ (n : Nat) (v3 : Int32) (s4 : am_S), am_lp (fun (q : Int32 × am_S) => b_X11_addBytes_3 p1 q.1 q.2) n (v3, s4) = some z → AX x 0 0 3 [(0, .ref 0), (1, .int p1), (2, .int v3)] [] am_N (am_h s4) := by
    intro n
    induction n with
    | zero => intro v3 s4 E; exact (am_lp0 E).elim
    | succ n ih2 =>
      intro v3 s4 E
      obtain ⟨r2, E, Er2⟩ := am_lpE E
      replace E : b_X11_addBytes_3 p1 v3 s4 = some r2 := E
      unfold b_X11_addBytes_3 at E
      refine am_iload_n 3 C dX11_addBytes_3 rfl 2 rfl ?_
      refine am_if_lt 4 46 C dX11_addBytes_4 (by decide) (fun c11 => ?_) (fun c11 => ?_)
      · have E := am_ifT E c11
        replace E := Option.some.inj E
        replace E := am_exR E Er2
        subst E
        exact as_vret 46 C Z dX11_addBytes_46
      · have E := am_ifF E c11
        refine am_aload_n 7 C dX11_addBytes_7 rfl 0 rfl ?_
        refine as_geti 8 C fl_X11_109_10 dX11_addBytes_8 (by decide) sh_0 ?_
        refine am_sipush 11 (nI 400) C dX11_addBytes_11 (by decide) ?_
        refine am_icmp_ge 14 40 C dX11_addBytes_14 (by decide) (fun c10 => ?_) (fun c10 => ?_)
        · have E := am_ifT E c10
          obtain ⟨v5, hv5, E⟩ := am_ltE E
          refine as_iinc 40 (q := (-8 : Int32)) (lv2 := [(2, .int v5), (0, .ref 0), (1, .int p1)]) C dX11_addBytes_40 2 rfl (by decide) hv5 (by decide) rfl ?_
          refine am_goto 43 3 C dX11_addBytes_43 (by decide) ?_
          replace E := Option.some.inj E
          replace E := am_exL E Er2
          refine am_lvs [1, 2, 0] rfl ?_
          exact ih2 _ _ E
        · have E := am_ifF E c10
          refine am_aload_n 17 C dX11_addBytes_17 rfl 0 rfl ?_
          refine as_getr 18 C fl_X11_9_10 dX11_addBytes_18 (by decide) sh_0 (rf_0_0 _ _) ?_
          refine am_aload_n 21 C dX11_addBytes_21 rfl 0 rfl ?_
          refine as_geti 22 C fl_X11_109_10 dX11_addBytes_22 (by decide) sh_0 ?_
          refine am_iload_n 25 C dX11_addBytes_25 rfl 1 rfl ?_
          refine am_iload_n 26 C dX11_addBytes_26 rfl 2 rfl ?_
          refine am_ishr 27 C dX11_addBytes_27 ?_
          refine am_i2b 28 C dX11_addBytes_28 ?_
          obtain ⟨g6, E⟩ := am_gdE E
          obtain ⟨s7, hs7, E⟩ := am_ltE E
          refine as_bast 29 C dX11_addBytes_29 (by decide) sh_1 g6 hs7 ?_
          refine am_aload_n 30 C dX11_addBytes_30 rfl 0 rfl ?_
          refine am_dup 31 C dX11_addBytes_31 rfl ?_
          refine as_geti 32 C fl_X11_109_10 dX11_addBytes_32 (by decide) sh_0 ?_
          refine am_iconst 35 (1 : Int32) C dX11_addBytes_35 (by decide) ?_
          refine am_iadd 36 C dX11_addBytes_36 ?_
          obtain ⟨s8, hs8, E⟩ := am_ltE E
          refine as_puti 37 C fl_X11_109_10 dX11_addBytes_37 (by decide) sh_0 rfl rfl hs8 ?_
          obtain ⟨v9, hv9, E⟩ := am_ltE E
          refine as_iinc 40 (q := (-8 : Int32)) (lv2 := [(2, .int v9), (0, .ref 0), (1, .int p1)]) C dX11_addBytes_40 2 rfl (by decide) hv9 (by decide) rfl ?_
          refine am_goto 43 3 C dX11_addBytes_43 (by decide) ?_
          replace E := Option.some.inj E
          replace E := am_exL E Er2
          refine am_lvs [1, 2, 0] rfl ?_
          exact ih2 _ _ E
  refine am_lvs [1, 2, 0] rfl ?_
  exact LP2 am_F _ _ E
def f_X11_feed (p1 : Int32) (p2 : Int32) (p3 : Int32) (p4 : Int32) (p5 : Int32) (s0 : am_S) : Option (Int32 × am_S) :=
  am_if (((s0.1 0 1) + (nI 20)) ≤ (nI 400)) (am_bd (f_X11_addBytes p1 s0) (fun s6 => am_bd (f_X11_addBytes p2 s6) (fun s7 => am_bd (f_X11_addBytes p3 s7) (fun s8 => am_bd (f_X11_addBytes p4 s8) (fun s9 => am_bd (f_X11_addBytes p5 s9) (fun s10 => some ((s10.1 0 1), s10))))))) (some ((-1 : Int32), s0))
set_option maxRecDepth 100000 in
set_option maxHeartbeats 4000000 in
theorem t_X11_feed (p1 : Int32) (p2 : Int32) (p3 : Int32) (p4 : Int32) (p5 : Int32) (s0 : am_S) {z : Int32 × am_S} (E : f_X11_feed p1 p2 p3 p4 p5 s0 = some z) : AS yX11_feed cX11_feed 6 (some .int) 2 [.ref 0, .int p1, .int p2, .int p3, .int p4, .int p5] s0 (some (.int z.1)) z.2 := by
  unfold f_X11_feed at E
  refine as_met (lv := [(0, .ref 0), (1, .int p1), (2, .int p2), (3, .int p3), (4, .int p4), (5, .int p5)]) (by decide +kernel) (by simp [lg_sl, Value.category]) rfl (fun x C A Z => ?_)
  refine am_aload_n 0 C dX11_feed_0 rfl 0 rfl ?_
  refine as_geti 1 C fl_X11_109_10 dX11_feed_1 (by decide) sh_0 ?_
  refine am_bipush 4 (nI 20) C dX11_feed_4 (by decide) ?_
  refine am_iadd 6 C dX11_feed_6 ?_
  refine am_sipush 7 (nI 400) C dX11_feed_7 (by decide) ?_
  refine am_icmp_le 10 15 C dX11_feed_10 (by decide) (fun c11 => ?_) (fun c11 => ?_)
  · have E := am_ifT E c11
    refine am_aload_n 15 C dX11_feed_15 rfl 0 rfl ?_
    refine am_iload_n 16 C dX11_feed_16 rfl 1 rfl ?_
    obtain ⟨s6, Ec, E⟩ := am_bdE E
    refine as_callV 17 (s2 := s6) (st := []) (st2 := []) [.int p1] C A (by decide) ml_X11_113 yc_X11_addBytes yv_X11_addBytes (t_X11_addBytes p1 s0 Ec) (by decide) sh_0 rfl rfl (Nat.le_of_ble_eq_true rfl) rfl dX11_feed_17 ?_
    refine am_aload_n 20 C dX11_feed_20 rfl 0 rfl ?_
    refine am_iload_n 21 C dX11_feed_21 rfl 2 rfl ?_
    obtain ⟨s7, Ec, E⟩ := am_bdE E
    refine as_callV 22 (s2 := s7) (st := []) (st2 := []) [.int p2] C A (by decide) ml_X11_113 yc_X11_addBytes yv_X11_addBytes (t_X11_addBytes p2 s6 Ec) (by decide) sh_0 rfl rfl (Nat.le_of_ble_eq_true rfl) rfl dX11_feed_22 ?_
    refine am_aload_n 25 C dX11_feed_25 rfl 0 rfl ?_
    refine am_iload_n 26 C dX11_feed_26 rfl 3 rfl ?_
    obtain ⟨s8, Ec, E⟩ := am_bdE E
    refine as_callV 27 (s2 := s8) (st := []) (st2 := []) [.int p3] C A (by decide) ml_X11_113 yc_X11_addBytes yv_X11_addBytes (t_X11_addBytes p3 s7 Ec) (by decide) sh_0 rfl rfl (Nat.le_of_ble_eq_true rfl) rfl dX11_feed_27 ?_
    refine am_aload_n 30 C dX11_feed_30 rfl 0 rfl ?_
    refine am_iload 31 C dX11_feed_31 4 rfl ?_
    obtain ⟨s9, Ec, E⟩ := am_bdE E
    refine as_callV 33 (s2 := s9) (st := []) (st2 := []) [.int p4] C A (by decide) ml_X11_113 yc_X11_addBytes yv_X11_addBytes (t_X11_addBytes p4 s8 Ec) (by decide) sh_0 rfl rfl (Nat.le_of_ble_eq_true rfl) rfl dX11_feed_33 ?_
    refine am_aload_n 36 C dX11_feed_36 rfl 0 rfl ?_
    refine am_iload 37 C dX11_feed_37 5 rfl ?_
    obtain ⟨s10, Ec, E⟩ := am_bdE E
    refine as_callV 39 (s2 := s10) (st := []) (st2 := []) [.int p5] C A (by decide) ml_X11_113 yc_X11_addBytes yv_X11_addBytes (t_X11_addBytes p5 s9 Ec) (by decide) sh_0 rfl rfl (Nat.le_of_ble_eq_true rfl) rfl dX11_feed_39 ?_
    refine am_aload_n 42 C dX11_feed_42 rfl 0 rfl ?_
    refine as_geti 43 C fl_X11_109_10 dX11_feed_43 (by decide) sh_0 ?_
    replace E := Option.some.inj E
    subst E
    exact as_iret 46 C Z rfl dX11_feed_46
  · have E := am_ifF E c11
    refine am_iconst 13 (-1 : Int32) C dX11_feed_13 (by decide) ?_
    replace E := Option.some.inj E
    subst E
    exact as_iret 14 C Z rfl dX11_feed_14
def f_X11_end (p1 : Int32) (s0 : am_S) : Option (Int32 × am_S) :=
  am_if (p1 < 0) (some ((-1 : Int32), s0)) (am_if (p1 ≤ (s0.1 0 1)) (am_lt (as_i s0 0 1 p1) (fun s2 => some (p1, s2))) (some ((-1 : Int32), s0)))
set_option maxRecDepth 100000 in
set_option maxHeartbeats 4000000 in
theorem t_X11_end (p1 : Int32) (s0 : am_S) {z : Int32 × am_S} (E : f_X11_end p1 s0 = some z) : AS yX11_end cX11_end 2 (some .int) 1 [.ref 0, .int p1] s0 (some (.int z.1)) z.2 := by
  unfold f_X11_end at E
  refine as_met (lv := [(0, .ref 0), (1, .int p1)]) (by decide +kernel) (by simp [lg_sl, Value.category]) rfl (fun x C A Z => ?_)
  refine am_iload_n 0 C dX11_end_0 rfl 1 rfl ?_
  refine am_if_lt 1 12 C dX11_end_1 (by decide) (fun c4 => ?_) (fun c4 => ?_)
  · have E := am_ifT E c4
    refine am_iconst 12 (-1 : Int32) C dX11_end_12 (by decide) ?_
    replace E := Option.some.inj E
    subst E
    exact as_iret 13 C Z rfl dX11_end_13
  · have E := am_ifF E c4
    refine am_iload_n 4 C dX11_end_4 rfl 1 rfl ?_
    refine am_aload_n 5 C dX11_end_5 rfl 0 rfl ?_
    refine as_geti 6 C fl_X11_109_10 dX11_end_6 (by decide) sh_0 ?_
    refine am_icmp_le 9 14 C dX11_end_9 (by decide) (fun c3 => ?_) (fun c3 => ?_)
    · have E := am_ifT E c3
      refine am_aload_n 14 C dX11_end_14 rfl 0 rfl ?_
      refine am_iload_n 15 C dX11_end_15 rfl 1 rfl ?_
      obtain ⟨s2, hs2, E⟩ := am_ltE E
      refine as_puti 16 C fl_X11_109_10 dX11_end_16 (by decide) sh_0 rfl rfl hs2 ?_
      refine am_iload_n 19 C dX11_end_19 rfl 1 rfl ?_
      replace E := Option.some.inj E
      subst E
      exact as_iret 20 C Z rfl dX11_end_20
    · have E := am_ifF E c3
      refine am_iconst 12 (-1 : Int32) C dX11_end_12 (by decide) ?_
      replace E := Option.some.inj E
      subst E
      exact as_iret 13 C Z rfl dX11_end_13
def f_X11_hasRule (p1 : Int32) (s0 : am_S) : Option (Int32) :=
  am_if (p1 < 0) (some (0 : Int32)) (am_if ((s0.1 0 5) ≤ p1) (some (0 : Int32)) (some (1 : Int32)))
set_option maxRecDepth 100000 in
set_option maxHeartbeats 4000000 in
theorem t_X11_hasRule (p1 : Int32) (s0 : am_S) {z : Int32} (E : f_X11_hasRule p1 s0 = some z) : AS yX11_hasRule cX11_hasRule 2 (some .boolean) 1 [.ref 0, .int p1] s0 (some (.int z)) s0 := by
  unfold f_X11_hasRule at E
  refine as_met (lv := [(0, .ref 0), (1, .int p1)]) (by decide +kernel) (by simp [lg_sl, Value.category]) rfl (fun x C A Z => ?_)
  refine am_iload_n 0 C dX11_hasRule_0 rfl 1 rfl ?_
  refine am_if_lt 1 16 C dX11_hasRule_1 (by decide) (fun c3 => ?_) (fun c3 => ?_)
  · have E := am_ifT E c3
    refine am_iconst 16 (0 : Int32) C dX11_hasRule_16 (by decide) ?_
    replace E := Option.some.inj E
    subst E
    exact as_iret 17 C Z rfl dX11_hasRule_17
  · have E := am_ifF E c3
    refine am_iload_n 4 C dX11_hasRule_4 rfl 1 rfl ?_
    refine am_aload_n 5 C dX11_hasRule_5 rfl 0 rfl ?_
    refine as_geti 6 C fl_X11_138_10 dX11_hasRule_6 (by decide) sh_0 ?_
    refine am_icmp_ge 9 16 C dX11_hasRule_9 (by decide) (fun c2 => ?_) (fun c2 => ?_)
    · have E := am_ifT E c2
      refine am_iconst 16 (0 : Int32) C dX11_hasRule_16 (by decide) ?_
      replace E := Option.some.inj E
      subst E
      exact as_iret 17 C Z rfl dX11_hasRule_17
    · have E := am_ifF E c2
      refine am_iconst 12 (1 : Int32) C dX11_hasRule_12 (by decide) ?_
      refine am_goto 13 17 C dX11_hasRule_13 (by decide) ?_
      replace E := Option.some.inj E
      subst E
      exact as_iret 17 C Z rfl dX11_hasRule_17
def j_X11_charter_16 (p1 : Int32) (s2 : am_S) : Option (Int32 × am_S) :=
  am_lt (s2.1 15 2) (fun v3 => am_lt (as_i s2 15 2 p1) (fun s4 => some (v3, s4)))
def f_X11_charter (p1 : Int32) (s0 : am_S) : Option (Int32 × am_S) :=
  am_if (p1 = (-1 : Int32)) (j_X11_charter_16 p1 s0) (am_bd (f_X11_hasRule p1 s0) (fun v5 => am_if (v5 = 0) (some ((-2 : Int32), s0)) (j_X11_charter_16 p1 s0)))
set_option maxRecDepth 100000 in
set_option maxHeartbeats 4000000 in
theorem t_X11_charter (p1 : Int32) (s0 : am_S) {z : Int32 × am_S} (E : f_X11_charter p1 s0 = some z) : AS yX11_charter cX11_charter 3 (some .int) 2 [.ref 0, .int p1] s0 (some (.int z.1)) z.2 := by
  unfold f_X11_charter at E
  refine as_met (lv := [(0, .ref 0), (1, .int p1)]) (by decide +kernel) (by simp [lg_sl, Value.category]) rfl (fun x C A Z => ?_)
  have K16 : ∀ (s2 : am_S), j_X11_charter_16 p1 s2 = some z → AX x 0 0 16 [(0, .ref 0), (1, .int p1)] [] am_N (am_h s2) := by
    intro s2 E
    unfold j_X11_charter_16 at E
    refine am_aload_n 16 C dX11_charter_16 rfl 0 rfl ?_
    refine as_getr 17 C fl_X11_36_10 dX11_charter_17 (by decide) sh_0 (rf_0_8 _ _) ?_
    refine as_geti 20 C fl_X11_149_4 dX11_charter_20 (by decide) sh_15 ?_
    obtain ⟨v3, hv3, E⟩ := am_ltE E
    refine as_nm hv3 ?_
    refine am_istore_n 23 (lv2 := [(2, .int v3), (0, .ref 0), (1, .int p1)]) C dX11_charter_23 rfl (by decide) rfl ?_
    refine am_aload_n 24 C dX11_charter_24 rfl 1 rfl ?_
    refine as_getr 25 C fl_X11_36_10 dX11_charter_25 (by decide) sh_0 (rf_0_8 _ _) ?_
    refine am_iload_n 28 C dX11_charter_28 rfl 2 rfl ?_
    obtain ⟨s4, hs4, E⟩ := am_ltE E
    refine as_puti 29 C fl_X11_149_4 dX11_charter_29 (by decide) sh_15 rfl rfl hs4 ?_
    refine am_iload_n 32 C dX11_charter_32 rfl 0 rfl ?_
    replace E := Option.some.inj E
    subst E
    exact as_iret 33 C Z rfl dX11_charter_33
  refine am_iload_n 0 C dX11_charter_0 rfl 1 rfl ?_
  refine am_iconst 1 (-1 : Int32) C dX11_charter_1 (by decide) ?_
  refine am_icmp_eq 2 16 C dX11_charter_2 (by decide) (fun c7 => ?_) (fun c7 => ?_)
  · have E := am_ifT E c7
    refine am_lvs [0, 1] rfl ?_
    exact K16 _ E
  · have E := am_ifF E c7
    refine am_aload_n 5 C dX11_charter_5 rfl 0 rfl ?_
    refine am_iload_n 6 C dX11_charter_6 rfl 1 rfl ?_
    obtain ⟨v5, Ec, E⟩ := am_bdE E
    refine as_callV 7 (s2 := s0) (st := []) (st2 := [.int v5]) [.int p1] C A (by decide) ml_X11_145 yc_X11_hasRule yv_X11_hasRule (t_X11_hasRule p1 s0 Ec) (by decide) sh_0 rfl rfl (Nat.le_of_ble_eq_true rfl) rfl dX11_charter_7 ?_
    refine am_if_ne 10 16 C dX11_charter_10 (by decide) (fun c6 => ?_) (fun c6 => ?_)
    · have E := am_ifF E c6
      refine am_lvs [0, 1] rfl ?_
      exact K16 _ E
    · have E := am_ifT E c6
      refine am_bipush 13 (-2 : Int32) C dX11_charter_13 (by decide) ?_
      replace E := Option.some.inj E
      subst E
      exact as_iret 15 C Z rfl dX11_charter_15
def f_X11_holds (p1 : Int32) (p2 : Int32) (p3 : Int32) (s0 : am_S) : Option (Int32) :=
  am_bd (f_X8_hasPerson 16 p1 s0) (fun v4 => am_if (v4 = 0) (some (-1 : Int32)) (am_bd (f_X8_hasFact p2 s0) (fun v5 => am_if (v5 = 0) (some (-1 : Int32)) (am_lt ((p1 * (nI 8)) + p2) (fun v6 => am_if (p3 = (0 : Int32)) (am_gd (¬ v6 < 0 ∧ (v6).toNatClampNeg < 56) (some (s0.1 25 (v6).toNatClampNeg))) (am_if (p3 = (1 : Int32)) (am_gd (¬ v6 < 0 ∧ (v6).toNatClampNeg < 56) (some (s0.1 26 (v6).toNatClampNeg))) (am_if (p3 = (nI 2)) (am_gd (¬ v6 < 0 ∧ (v6).toNatClampNeg < 56) (some (s0.1 27 (v6).toNatClampNeg))) (some (-1 : Int32)))))))))
set_option maxRecDepth 100000 in
set_option maxHeartbeats 4000000 in
theorem t_X11_holds (p1 : Int32) (p2 : Int32) (p3 : Int32) (s0 : am_S) {z : Int32} (E : f_X11_holds p1 p2 p3 s0 = some z) : AS yX11_holds cX11_holds 5 (some .int) 2 [.ref 0, .int p1, .int p2, .int p3] s0 (some (.int z)) s0 := by
  unfold f_X11_holds at E
  refine as_met (lv := [(0, .ref 0), (1, .int p1), (2, .int p2), (3, .int p3)]) (by decide +kernel) (by simp [lg_sl, Value.category]) rfl (fun x C A Z => ?_)
  refine am_aload_n 0 C dX11_holds_0 rfl 0 rfl ?_
  refine as_getr 1 C fl_X11_36_10 dX11_holds_1 (by decide) sh_0 (rf_0_8 _ _) ?_
  refine as_getr 4 C fl_X11_57_4 dX11_holds_4 (by decide) sh_15 (rf_15_0 _ _) ?_
  refine am_iload_n 7 C dX11_holds_7 rfl 1 rfl ?_
  obtain ⟨v4, Ec, E⟩ := am_bdE E
  refine as_callV 8 (s2 := s0) (st := []) (st2 := [.int v4]) [.int p1] C A (by decide) ml_X11_152 yc_X8_hasPerson yv_X8_hasPerson (t_X8_hasPerson 16 p1 s0 Ec) (by decide) sh_16 rfl rfl (Nat.le_of_ble_eq_true rfl) rfl dX11_holds_8 ?_
  refine am_if_eq 11 28 C dX11_holds_11 (by decide) (fun c14 => ?_) (fun c14 => ?_)
  · have E := am_ifT E c14
    refine am_iconst 28 (-1 : Int32) C dX11_holds_28 (by decide) ?_
    replace E := Option.some.inj E
    subst E
    exact as_iret 29 C Z rfl dX11_holds_29
  · have E := am_ifF E c14
    refine am_aload_n 14 C dX11_holds_14 rfl 0 rfl ?_
    refine as_getr 15 C fl_X11_36_10 dX11_holds_15 (by decide) sh_0 (rf_0_8 _ _) ?_
    refine as_getr 18 C fl_X11_57_4 dX11_holds_18 (by decide) sh_15 (rf_15_0 _ _) ?_
    refine am_iload_n 21 C dX11_holds_21 rfl 2 rfl ?_
    obtain ⟨v5, Ec, E⟩ := am_bdE E
    refine as_callV 22 (s2 := s0) (st := []) (st2 := [.int v5]) [.int p2] C A (by decide) ml_X11_155 yc_X8_hasFact yv_X8_hasFact (t_X8_hasFact p2 s0 Ec) (by decide) sh_16 rfl rfl (Nat.le_of_ble_eq_true rfl) rfl dX11_holds_22 ?_
    refine am_if_ne 25 30 C dX11_holds_25 (by decide) (fun c13 => ?_) (fun c13 => ?_)
    · have E := am_ifF E c13
      refine am_iload_n 30 C dX11_holds_30 rfl 1 rfl ?_
      refine am_bipush 31 (nI 8) C dX11_holds_31 (by decide) ?_
      refine am_imul 33 C dX11_holds_33 ?_
      refine am_iload_n 34 C dX11_holds_34 rfl 2 rfl ?_
      refine am_iadd 35 C dX11_holds_35 ?_
      obtain ⟨v6, hv6, E⟩ := am_ltE E
      refine as_nm hv6 ?_
      refine am_istore 36 (lv2 := [(4, .int v6), (0, .ref 0), (1, .int p1), (2, .int p2), (3, .int p3)]) C dX11_holds_36 (by decide) rfl ?_
      refine am_iload_n 38 C dX11_holds_38 rfl 4 rfl ?_
      by_cases c8 : p3 = (0 : Int32)
      · have E := am_ifT E c8
        refine am_tabIn 39 64 C dX11_holds_39 (by rw [c8]; decide) (by rw [c8]; decide) (by rw [c8]; rfl) (by decide) ?_
        refine am_aload_n 64 C dX11_holds_64 rfl 1 rfl ?_
        refine as_getr 65 C fl_X11_36_10 dX11_holds_65 (by decide) sh_0 (rf_0_8 _ _) ?_
        refine as_getr 68 C fl_X11_60_4 dX11_holds_68 (by decide) sh_15 (rf_15_1 _ _) ?_
        refine as_getr 71 C fl_X11_158_1 dX11_holds_71 (by decide) sh_24 (rf_24_0 _ _) ?_
        refine am_iload 74 C dX11_holds_74 0 rfl ?_
        obtain ⟨g7, E⟩ := am_gdE E
        refine as_iald 76 C dX11_holds_76 (by decide) sh_25 g7 ?_
        replace E := Option.some.inj E
        subst E
        exact as_iret 77 C Z rfl dX11_holds_77
      · have E := am_ifF E c8
        by_cases c10 : p3 = (1 : Int32)
        · have E := am_ifT E c10
          refine am_tabIn 39 78 C dX11_holds_39 (by rw [c10]; decide) (by rw [c10]; decide) (by rw [c10]; rfl) (by decide) ?_
          refine am_aload_n 78 C dX11_holds_78 rfl 1 rfl ?_
          refine as_getr 79 C fl_X11_36_10 dX11_holds_79 (by decide) sh_0 (rf_0_8 _ _) ?_
          refine as_getr 82 C fl_X11_60_4 dX11_holds_82 (by decide) sh_15 (rf_15_1 _ _) ?_
          refine as_getr 85 C fl_X11_161_1 dX11_holds_85 (by decide) sh_24 (rf_24_1 _ _) ?_
          refine am_iload 88 C dX11_holds_88 0 rfl ?_
          obtain ⟨g9, E⟩ := am_gdE E
          refine as_iald 90 C dX11_holds_90 (by decide) sh_26 g9 ?_
          replace E := Option.some.inj E
          subst E
          exact as_iret 91 C Z rfl dX11_holds_91
        · have E := am_ifF E c10
          by_cases c12 : p3 = (nI 2)
          · have E := am_ifT E c12
            refine am_tabIn 39 92 C dX11_holds_39 (by rw [c12]; decide) (by rw [c12]; decide) (by rw [c12]; rfl) (by decide) ?_
            refine am_aload_n 92 C dX11_holds_92 rfl 1 rfl ?_
            refine as_getr 93 C fl_X11_36_10 dX11_holds_93 (by decide) sh_0 (rf_0_8 _ _) ?_
            refine as_getr 96 C fl_X11_60_4 dX11_holds_96 (by decide) sh_15 (rf_15_1 _ _) ?_
            refine as_getr 99 C fl_X11_164_1 dX11_holds_99 (by decide) sh_24 (rf_24_2 _ _) ?_
            refine am_iload 102 C dX11_holds_102 0 rfl ?_
            obtain ⟨g11, E⟩ := am_gdE E
            refine as_iald 104 C dX11_holds_104 (by decide) sh_27 g11 ?_
            replace E := Option.some.inj E
            subst E
            exact as_iret 105 C Z rfl dX11_holds_105
          · have E := am_ifF E c12
            have ec8 := am_neI c8 0 (by decide)
            have ec10 := am_neI c10 1 (by decide)
            have ec12 := am_neI c12 2 (by decide)
            refine am_tabOut 39 106 C dX11_holds_39 (by omega) (by decide) ?_
            refine am_iconst 106 (-1 : Int32) C dX11_holds_106 (by decide) ?_
            replace E := Option.some.inj E
            subst E
            exact as_iret 107 C Z rfl dX11_holds_107
    · have E := am_ifT E c13
      refine am_iconst 28 (-1 : Int32) C dX11_holds_28 (by decide) ?_
      replace E := Option.some.inj E
      subst E
      exact as_iret 29 C Z rfl dX11_holds_29
def f_X11_person (p1 : Int32) (p2 : Int32) (s0 : am_S) : Option (Int32) :=
  am_bd (f_X8_hasPerson 16 p1 s0) (fun v3 => am_if (v3 = 0) (some (-1 : Int32)) (am_if (p2 = (0 : Int32)) (am_gd (¬ p1 < 0 ∧ (p1).toNatClampNeg < 7) (some (s0.1 28 (p1).toNatClampNeg))) (am_if (p2 = (1 : Int32)) (am_bd (f_X8_harmOf 27 (p1 * (nI 8)) s0) (fun v6 => some v6)) (am_if (p2 = (nI 2)) (am_bd (f_X8_contradictionsOf 27 (p1 * (nI 8)) s0) (fun v8 => some v8)) (am_if (p2 = (nI 3)) (am_gd (¬ p1 < 0 ∧ (p1).toNatClampNeg < 7) (some (s0.1 21 (p1).toNatClampNeg))) (am_if (p2 = (nI 4)) (am_bd (f_X11_bit (s0.1 16 14) p1) (fun v12 => some v12)) (some (-1 : Int32))))))))
set_option maxRecDepth 100000 in
set_option maxHeartbeats 4000000 in
theorem t_X11_person (p1 : Int32) (p2 : Int32) (s0 : am_S) {z : Int32} (E : f_X11_person p1 p2 s0 = some z) : AS yX11_person cX11_person 3 (some .int) 2 [.ref 0, .int p1, .int p2] s0 (some (.int z)) s0 := by
  unfold f_X11_person at E
  refine as_met (lv := [(0, .ref 0), (1, .int p1), (2, .int p2)]) (by decide +kernel) (by simp [lg_sl, Value.category]) rfl (fun x C A Z => ?_)
  refine am_aload_n 0 C dX11_person_0 rfl 0 rfl ?_
  refine as_getr 1 C fl_X11_36_10 dX11_person_1 (by decide) sh_0 (rf_0_8 _ _) ?_
  refine as_getr 4 C fl_X11_57_4 dX11_person_4 (by decide) sh_15 (rf_15_0 _ _) ?_
  refine am_iload_n 7 C dX11_person_7 rfl 1 rfl ?_
  obtain ⟨v3, Ec, E⟩ := am_bdE E
  refine as_callV 8 (s2 := s0) (st := []) (st2 := [.int v3]) [.int p1] C A (by decide) ml_X11_152 yc_X8_hasPerson yv_X8_hasPerson (t_X8_hasPerson 16 p1 s0 Ec) (by decide) sh_16 rfl rfl (Nat.le_of_ble_eq_true rfl) rfl dX11_person_8 ?_
  refine am_if_ne 11 16 C dX11_person_11 (by decide) (fun c14 => ?_) (fun c14 => ?_)
  · have E := am_ifF E c14
    refine am_iload_n 16 C dX11_person_16 rfl 2 rfl ?_
    by_cases c5 : p2 = (0 : Int32)
    · have E := am_ifT E c5
      refine am_tabIn 17 52 C dX11_person_17 (by rw [c5]; decide) (by rw [c5]; decide) (by rw [c5]; rfl) (by decide) ?_
      refine am_aload_n 52 C dX11_person_52 rfl 0 rfl ?_
      refine as_getr 53 C fl_X11_36_10 dX11_person_53 (by decide) sh_0 (rf_0_8 _ _) ?_
      refine as_getr 56 C fl_X11_60_4 dX11_person_56 (by decide) sh_15 (rf_15_1 _ _) ?_
      refine as_getr 59 C fl_X11_167_1 dX11_person_59 (by decide) sh_24 (rf_24_3 _ _) ?_
      refine am_iload_n 62 C dX11_person_62 rfl 1 rfl ?_
      obtain ⟨g4, E⟩ := am_gdE E
      refine as_iald 63 C dX11_person_63 (by decide) sh_28 g4 ?_
      replace E := Option.some.inj E
      subst E
      exact as_iret 64 C Z rfl dX11_person_64
    · have E := am_ifF E c5
      by_cases c7 : p2 = (1 : Int32)
      · have E := am_ifT E c7
        refine am_tabIn 17 65 C dX11_person_17 (by rw [c7]; decide) (by rw [c7]; decide) (by rw [c7]; rfl) (by decide) ?_
        refine am_aload_n 65 C dX11_person_65 rfl 0 rfl ?_
        refine as_getr 66 C fl_X11_36_10 dX11_person_66 (by decide) sh_0 (rf_0_8 _ _) ?_
        refine as_getr 69 C fl_X11_57_4 dX11_person_69 (by decide) sh_15 (rf_15_0 _ _) ?_
        refine am_aload_n 72 C dX11_person_72 rfl 0 rfl ?_
        refine as_getr 73 C fl_X11_36_10 dX11_person_73 (by decide) sh_0 (rf_0_8 _ _) ?_
        refine as_getr 76 C fl_X11_60_4 dX11_person_76 (by decide) sh_15 (rf_15_1 _ _) ?_
        refine as_getr 79 C fl_X11_164_1 dX11_person_79 (by decide) sh_24 (rf_24_2 _ _) ?_
        refine am_iload_n 82 C dX11_person_82 rfl 1 rfl ?_
        refine am_bipush 83 (nI 8) C dX11_person_83 (by decide) ?_
        refine am_imul 85 C dX11_person_85 ?_
        obtain ⟨v6, Ec, E⟩ := am_bdE E
        refine as_callV 86 (s2 := s0) (st := []) (st2 := [.int v6]) [.ref 27, .int (p1 * (nI 8))] C A (by decide) ml_X11_170 yc_X8_harmOf yv_X8_harmOf (t_X8_harmOf 27 (p1 * (nI 8)) s0 Ec) (by decide) sh_16 rfl rfl (Nat.le_of_ble_eq_true rfl) rfl dX11_person_86 ?_
        replace E := Option.some.inj E
        subst E
        exact as_iret 89 C Z rfl dX11_person_89
      · have E := am_ifF E c7
        by_cases c9 : p2 = (nI 2)
        · have E := am_ifT E c9
          refine am_tabIn 17 90 C dX11_person_17 (by rw [c9]; decide) (by rw [c9]; decide) (by rw [c9]; rfl) (by decide) ?_
          refine am_aload_n 90 C dX11_person_90 rfl 0 rfl ?_
          refine as_getr 91 C fl_X11_36_10 dX11_person_91 (by decide) sh_0 (rf_0_8 _ _) ?_
          refine as_getr 94 C fl_X11_57_4 dX11_person_94 (by decide) sh_15 (rf_15_0 _ _) ?_
          refine am_aload_n 97 C dX11_person_97 rfl 0 rfl ?_
          refine as_getr 98 C fl_X11_36_10 dX11_person_98 (by decide) sh_0 (rf_0_8 _ _) ?_
          refine as_getr 101 C fl_X11_60_4 dX11_person_101 (by decide) sh_15 (rf_15_1 _ _) ?_
          refine as_getr 104 C fl_X11_164_1 dX11_person_104 (by decide) sh_24 (rf_24_2 _ _) ?_
          refine am_iload_n 107 C dX11_person_107 rfl 1 rfl ?_
          refine am_bipush 108 (nI 8) C dX11_person_108 (by decide) ?_
          refine am_imul 110 C dX11_person_110 ?_
          obtain ⟨v8, Ec, E⟩ := am_bdE E
          refine as_callV 111 (s2 := s0) (st := []) (st2 := [.int v8]) [.ref 27, .int (p1 * (nI 8))] C A (by decide) ml_X11_174 yc_X8_contradictionsOf yv_X8_contradictionsOf (t_X8_contradictionsOf 27 (p1 * (nI 8)) s0 Ec) (by decide) sh_16 rfl rfl (Nat.le_of_ble_eq_true rfl) rfl dX11_person_111 ?_
          replace E := Option.some.inj E
          subst E
          exact as_iret 114 C Z rfl dX11_person_114
        · have E := am_ifF E c9
          by_cases c11 : p2 = (nI 3)
          · have E := am_ifT E c11
            refine am_tabIn 17 115 C dX11_person_17 (by rw [c11]; decide) (by rw [c11]; decide) (by rw [c11]; rfl) (by decide) ?_
            refine am_aload_n 115 C dX11_person_115 rfl 0 rfl ?_
            refine as_getr 116 C fl_X11_36_10 dX11_person_116 (by decide) sh_0 (rf_0_8 _ _) ?_
            refine as_getr 119 C fl_X11_57_4 dX11_person_119 (by decide) sh_15 (rf_15_0 _ _) ?_
            refine as_getr 122 C fl_X11_177_7 dX11_person_122 (by decide) sh_16 (rf_16_9 _ _) ?_
            refine am_iload_n 125 C dX11_person_125 rfl 1 rfl ?_
            obtain ⟨g10, E⟩ := am_gdE E
            refine as_iald 126 C dX11_person_126 (by decide) sh_21 g10 ?_
            replace E := Option.some.inj E
            subst E
            exact as_iret 127 C Z rfl dX11_person_127
          · have E := am_ifF E c11
            by_cases c13 : p2 = (nI 4)
            · have E := am_ifT E c13
              refine am_tabIn 17 128 C dX11_person_17 (by rw [c13]; decide) (by rw [c13]; decide) (by rw [c13]; rfl) (by decide) ?_
              refine am_aload_n 128 C dX11_person_128 rfl 0 rfl ?_
              refine as_getr 129 C fl_X11_36_10 dX11_person_129 (by decide) sh_0 (rf_0_8 _ _) ?_
              refine as_getr 132 C fl_X11_57_4 dX11_person_132 (by decide) sh_15 (rf_15_0 _ _) ?_
              refine as_geti 135 C fl_X11_180_7 dX11_person_135 (by decide) sh_16 ?_
              refine am_iload_n 138 C dX11_person_138 rfl 1 rfl ?_
              obtain ⟨v12, Ec, E⟩ := am_bdE E
              refine as_callS 139 (s2 := s0) (st := []) (st2 := [.int v12]) [.int (s0.1 16 14), .int p1] C A (by decide) ml_X11_183 yc_X11_bit ys_X11_bit (t_X11_bit (s0.1 16 14) p1 s0 Ec) rfl rfl (Nat.le_of_ble_eq_true rfl) rfl dX11_person_139 ?_
              replace E := Option.some.inj E
              subst E
              exact as_iret 142 C Z rfl dX11_person_142
            · have E := am_ifF E c13
              have ec5 := am_neI c5 0 (by decide)
              have ec7 := am_neI c7 1 (by decide)
              have ec9 := am_neI c9 2 (by decide)
              have ec11 := am_neI c11 3 (by decide)
              have ec13 := am_neI c13 4 (by decide)
              refine am_tabOut 17 143 C dX11_person_17 (by omega) (by decide) ?_
              refine am_iconst 143 (-1 : Int32) C dX11_person_143 (by decide) ?_
              replace E := Option.some.inj E
              subst E
              exact as_iret 144 C Z rfl dX11_person_144
  · have E := am_ifT E c14
    refine am_iconst 14 (-1 : Int32) C dX11_person_14 (by decide) ?_
    replace E := Option.some.inj E
    subst E
    exact as_iret 15 C Z rfl dX11_person_15
def f_X11_trust (p1 : Int32) (p2 : Int32) (s0 : am_S) : Option (Int32) :=
  am_bd (f_X8_hasTwo 16 p1 p2 s0) (fun v3 => am_if (v3 = 0) (some (-1 : Int32)) (am_lt ((p1 * (nI 7)) + p2) (fun v4 => am_gd (¬ v4 < 0 ∧ (v4).toNatClampNeg < 49) (some (s0.1 18 (v4).toNatClampNeg)))))
set_option maxRecDepth 100000 in
set_option maxHeartbeats 4000000 in
theorem t_X11_trust (p1 : Int32) (p2 : Int32) (s0 : am_S) {z : Int32} (E : f_X11_trust p1 p2 s0 = some z) : AS yX11_trust cX11_trust 3 (some .int) 3 [.ref 0, .int p1, .int p2] s0 (some (.int z)) s0 := by
  unfold f_X11_trust at E
  refine as_met (lv := [(0, .ref 0), (1, .int p1), (2, .int p2)]) (by decide +kernel) (by simp [lg_sl, Value.category]) rfl (fun x C A Z => ?_)
  refine am_aload_n 0 C dX11_trust_0 rfl 0 rfl ?_
  refine as_getr 1 C fl_X11_36_10 dX11_trust_1 (by decide) sh_0 (rf_0_8 _ _) ?_
  refine as_getr 4 C fl_X11_57_4 dX11_trust_4 (by decide) sh_15 (rf_15_0 _ _) ?_
  refine am_iload_n 7 C dX11_trust_7 rfl 1 rfl ?_
  refine am_iload_n 8 C dX11_trust_8 rfl 2 rfl ?_
  obtain ⟨v3, Ec, E⟩ := am_bdE E
  refine as_callV 9 (s2 := s0) (st := []) (st2 := [.int v3]) [.int p1, .int p2] C A (by decide) ml_X11_187 yc_X8_hasTwo yv_X8_hasTwo (t_X8_hasTwo 16 p1 p2 s0 Ec) (by decide) sh_16 rfl rfl (Nat.le_of_ble_eq_true rfl) rfl dX11_trust_9 ?_
  refine am_if_ne 12 17 C dX11_trust_12 (by decide) (fun c6 => ?_) (fun c6 => ?_)
  · have E := am_ifF E c6
    refine am_aload_n 17 C dX11_trust_17 rfl 0 rfl ?_
    refine as_getr 18 C fl_X11_36_10 dX11_trust_18 (by decide) sh_0 (rf_0_8 _ _) ?_
    refine as_getr 21 C fl_X11_57_4 dX11_trust_21 (by decide) sh_15 (rf_15_0 _ _) ?_
    refine as_getr 24 C fl_X11_191_7 dX11_trust_24 (by decide) sh_16 (rf_16_5 _ _) ?_
    refine am_iload_n 27 C dX11_trust_27 rfl 1 rfl ?_
    refine am_bipush 28 (nI 7) C dX11_trust_28 (by decide) ?_
    refine am_imul 30 C dX11_trust_30 ?_
    refine am_iload_n 31 C dX11_trust_31 rfl 2 rfl ?_
    refine am_iadd 32 C dX11_trust_32 ?_
    obtain ⟨v4, hv4, E⟩ := am_ltE E
    refine as_nm hv4 ?_
    obtain ⟨g5, E⟩ := am_gdE E
    refine as_iald 33 C dX11_trust_33 (by decide) sh_18 g5 ?_
    replace E := Option.some.inj E
    subst E
    exact as_iret 34 C Z rfl dX11_trust_34
  · have E := am_ifT E c6
    refine am_iconst 15 (-1 : Int32) C dX11_trust_15 (by decide) ?_
    replace E := Option.some.inj E
    subst E
    exact as_iret 16 C Z rfl dX11_trust_16
def f_X11_count (p1 : Int32) (s0 : am_S) : Option (Int32) :=
  am_if (p1 = (0 : Int32)) (some (s0.1 16 1)) (am_if (p1 = (1 : Int32)) (some (s0.1 16 2)) (am_if (p1 = (nI 2)) (some (s0.1 16 3)) (am_if (p1 = (nI 3)) (some (s0.1 16 6)) (am_if (p1 = (nI 4)) (some (s0.1 0 5)) (am_if (p1 = (nI 5)) (some (s0.1 15 2)) (am_if (p1 = (nI 6)) (some (s0.1 24 4)) (am_if (p1 = (nI 7)) (some (s0.1 24 5)) (am_if (p1 = (nI 8)) (am_bd (f_X2_liesOfDay 24 s0) (fun v10 => some v10)) (am_if (p1 = (nI 9)) (am_bd (f_X2_harmOfAll 24 s0) (fun v12 => some v12)) (am_if (p1 = (nI 10)) (some (s0.1 15 4)) (am_if (p1 = (nI 11)) (some (s0.1 15 6)) (am_if (p1 = (nI 12)) (some (s0.1 32 2)) (am_if (p1 = (nI 13)) (some (s0.1 15 3)) (am_if (p1 = (nI 14)) (some (s0.1 0 1)) (some (-1 : Int32))))))))))))))))
set_option maxRecDepth 100000 in
set_option maxHeartbeats 4000000 in
theorem t_X11_count (p1 : Int32) (s0 : am_S) {z : Int32} (E : f_X11_count p1 s0 = some z) : AS yX11_count cX11_count 2 (some .int) 3 [.ref 0, .int p1] s0 (some (.int z)) s0 := by
  unfold f_X11_count at E
  refine as_met (lv := [(0, .ref 0), (1, .int p1)]) (by decide +kernel) (by simp [lg_sl, Value.category]) rfl (fun x C A Z => ?_)
  refine am_iload_n 0 C dX11_count_0 rfl 1 rfl ?_
  by_cases c2 : p1 = (0 : Int32)
  · have E := am_ifT E c2
    refine am_tabIn 1 76 C dX11_count_1 (by rw [c2]; decide) (by rw [c2]; decide) (by rw [c2]; rfl) (by decide) ?_
    refine am_aload_n 76 C dX11_count_76 rfl 0 rfl ?_
    refine as_getr 77 C fl_X11_36_10 dX11_count_77 (by decide) sh_0 (rf_0_8 _ _) ?_
    refine as_getr 80 C fl_X11_57_4 dX11_count_80 (by decide) sh_15 (rf_15_0 _ _) ?_
    refine as_geti 83 C fl_X11_194_7 dX11_count_83 (by decide) sh_16 ?_
    replace E := Option.some.inj E
    subst E
    exact as_iret 86 C Z rfl dX11_count_86
  · have E := am_ifF E c2
    by_cases c3 : p1 = (1 : Int32)
    · have E := am_ifT E c3
      refine am_tabIn 1 87 C dX11_count_1 (by rw [c3]; decide) (by rw [c3]; decide) (by rw [c3]; rfl) (by decide) ?_
      refine am_aload_n 87 C dX11_count_87 rfl 0 rfl ?_
      refine as_getr 88 C fl_X11_36_10 dX11_count_88 (by decide) sh_0 (rf_0_8 _ _) ?_
      refine as_getr 91 C fl_X11_57_4 dX11_count_91 (by decide) sh_15 (rf_15_0 _ _) ?_
      refine as_geti 94 C fl_X11_197_7 dX11_count_94 (by decide) sh_16 ?_
      replace E := Option.some.inj E
      subst E
      exact as_iret 97 C Z rfl dX11_count_97
    · have E := am_ifF E c3
      by_cases c4 : p1 = (nI 2)
      · have E := am_ifT E c4
        refine am_tabIn 1 98 C dX11_count_1 (by rw [c4]; decide) (by rw [c4]; decide) (by rw [c4]; rfl) (by decide) ?_
        refine am_aload_n 98 C dX11_count_98 rfl 0 rfl ?_
        refine as_getr 99 C fl_X11_36_10 dX11_count_99 (by decide) sh_0 (rf_0_8 _ _) ?_
        refine as_getr 102 C fl_X11_57_4 dX11_count_102 (by decide) sh_15 (rf_15_0 _ _) ?_
        refine as_geti 105 C fl_X11_135_7 dX11_count_105 (by decide) sh_16 ?_
        replace E := Option.some.inj E
        subst E
        exact as_iret 108 C Z rfl dX11_count_108
      · have E := am_ifF E c4
        by_cases c5 : p1 = (nI 3)
        · have E := am_ifT E c5
          refine am_tabIn 1 109 C dX11_count_1 (by rw [c5]; decide) (by rw [c5]; decide) (by rw [c5]; rfl) (by decide) ?_
          refine am_aload_n 109 C dX11_count_109 rfl 0 rfl ?_
          refine as_getr 110 C fl_X11_36_10 dX11_count_110 (by decide) sh_0 (rf_0_8 _ _) ?_
          refine as_getr 113 C fl_X11_57_4 dX11_count_113 (by decide) sh_15 (rf_15_0 _ _) ?_
          refine as_geti 116 C fl_X11_200_7 dX11_count_116 (by decide) sh_16 ?_
          replace E := Option.some.inj E
          subst E
          exact as_iret 119 C Z rfl dX11_count_119
        · have E := am_ifF E c5
          by_cases c6 : p1 = (nI 4)
          · have E := am_ifT E c6
            refine am_tabIn 1 120 C dX11_count_1 (by rw [c6]; decide) (by rw [c6]; decide) (by rw [c6]; rfl) (by decide) ?_
            refine am_aload_n 120 C dX11_count_120 rfl 0 rfl ?_
            refine as_geti 121 C fl_X11_138_10 dX11_count_121 (by decide) sh_0 ?_
            replace E := Option.some.inj E
            subst E
            exact as_iret 124 C Z rfl dX11_count_124
          · have E := am_ifF E c6
            by_cases c7 : p1 = (nI 5)
            · have E := am_ifT E c7
              refine am_tabIn 1 125 C dX11_count_1 (by rw [c7]; decide) (by rw [c7]; decide) (by rw [c7]; rfl) (by decide) ?_
              refine am_aload_n 125 C dX11_count_125 rfl 0 rfl ?_
              refine as_getr 126 C fl_X11_36_10 dX11_count_126 (by decide) sh_0 (rf_0_8 _ _) ?_
              refine as_geti 129 C fl_X11_149_4 dX11_count_129 (by decide) sh_15 ?_
              replace E := Option.some.inj E
              subst E
              exact as_iret 132 C Z rfl dX11_count_132
            · have E := am_ifF E c7
              by_cases c8 : p1 = (nI 6)
              · have E := am_ifT E c8
                refine am_tabIn 1 133 C dX11_count_1 (by rw [c8]; decide) (by rw [c8]; decide) (by rw [c8]; rfl) (by decide) ?_
                refine am_aload_n 133 C dX11_count_133 rfl 0 rfl ?_
                refine as_getr 134 C fl_X11_36_10 dX11_count_134 (by decide) sh_0 (rf_0_8 _ _) ?_
                refine as_getr 137 C fl_X11_60_4 dX11_count_137 (by decide) sh_15 (rf_15_1 _ _) ?_
                refine as_geti 140 C fl_X11_203_1 dX11_count_140 (by decide) sh_24 ?_
                replace E := Option.some.inj E
                subst E
                exact as_iret 143 C Z rfl dX11_count_143
              · have E := am_ifF E c8
                by_cases c9 : p1 = (nI 7)
                · have E := am_ifT E c9
                  refine am_tabIn 1 144 C dX11_count_1 (by rw [c9]; decide) (by rw [c9]; decide) (by rw [c9]; rfl) (by decide) ?_
                  refine am_aload_n 144 C dX11_count_144 rfl 0 rfl ?_
                  refine as_getr 145 C fl_X11_36_10 dX11_count_145 (by decide) sh_0 (rf_0_8 _ _) ?_
                  refine as_getr 148 C fl_X11_60_4 dX11_count_148 (by decide) sh_15 (rf_15_1 _ _) ?_
                  refine as_geti 151 C fl_X11_206_1 dX11_count_151 (by decide) sh_24 ?_
                  replace E := Option.some.inj E
                  subst E
                  exact as_iret 154 C Z rfl dX11_count_154
                · have E := am_ifF E c9
                  by_cases c11 : p1 = (nI 8)
                  · have E := am_ifT E c11
                    refine am_tabIn 1 155 C dX11_count_1 (by rw [c11]; decide) (by rw [c11]; decide) (by rw [c11]; rfl) (by decide) ?_
                    refine am_aload_n 155 C dX11_count_155 rfl 0 rfl ?_
                    refine as_getr 156 C fl_X11_36_10 dX11_count_156 (by decide) sh_0 (rf_0_8 _ _) ?_
                    refine as_getr 159 C fl_X11_60_4 dX11_count_159 (by decide) sh_15 (rf_15_1 _ _) ?_
                    obtain ⟨v10, Ec, E⟩ := am_bdE E
                    refine as_callV 162 (s2 := s0) (st := []) (st2 := [.int v10]) [] C A (by decide) ml_X11_209 yc_X2_liesOfDay yv_X2_liesOfDay (t_X2_liesOfDay 24 s0 Ec) (by decide) sh_24 rfl rfl (Nat.le_of_ble_eq_true rfl) rfl dX11_count_162 ?_
                    replace E := Option.some.inj E
                    subst E
                    exact as_iret 165 C Z rfl dX11_count_165
                  · have E := am_ifF E c11
                    by_cases c13 : p1 = (nI 9)
                    · have E := am_ifT E c13
                      refine am_tabIn 1 166 C dX11_count_1 (by rw [c13]; decide) (by rw [c13]; decide) (by rw [c13]; rfl) (by decide) ?_
                      refine am_aload_n 166 C dX11_count_166 rfl 0 rfl ?_
                      refine as_getr 167 C fl_X11_36_10 dX11_count_167 (by decide) sh_0 (rf_0_8 _ _) ?_
                      refine as_getr 170 C fl_X11_60_4 dX11_count_170 (by decide) sh_15 (rf_15_1 _ _) ?_
                      refine am_aload_n 173 C dX11_count_173 rfl 0 rfl ?_
                      refine as_getr 174 C fl_X11_36_10 dX11_count_174 (by decide) sh_0 (rf_0_8 _ _) ?_
                      refine as_getr 177 C fl_X11_57_4 dX11_count_177 (by decide) sh_15 (rf_15_0 _ _) ?_
                      obtain ⟨v12, Ec, E⟩ := am_bdE E
                      refine as_callV 180 (s2 := s0) (st := []) (st2 := [.int v12]) [.ref 16] C A (by decide) ml_X11_213 yc_X2_harmOfAll yv_X2_harmOfAll (t_X2_harmOfAll 24 s0 Ec) (by decide) sh_24 rfl rfl (Nat.le_of_ble_eq_true rfl) rfl dX11_count_180 ?_
                      replace E := Option.some.inj E
                      subst E
                      exact as_iret 183 C Z rfl dX11_count_183
                    · have E := am_ifF E c13
                      by_cases c14 : p1 = (nI 10)
                      · have E := am_ifT E c14
                        refine am_tabIn 1 184 C dX11_count_1 (by rw [c14]; decide) (by rw [c14]; decide) (by rw [c14]; rfl) (by decide) ?_
                        refine am_aload_n 184 C dX11_count_184 rfl 0 rfl ?_
                        refine as_getr 185 C fl_X11_36_10 dX11_count_185 (by decide) sh_0 (rf_0_8 _ _) ?_
                        refine as_geti 188 C fl_X11_217_4 dX11_count_188 (by decide) sh_15 ?_
                        replace E := Option.some.inj E
                        subst E
                        exact as_iret 191 C Z rfl dX11_count_191
                      · have E := am_ifF E c14
                        by_cases c15 : p1 = (nI 11)
                        · have E := am_ifT E c15
                          refine am_tabIn 1 192 C dX11_count_1 (by rw [c15]; decide) (by rw [c15]; decide) (by rw [c15]; rfl) (by decide) ?_
                          refine am_aload_n 192 C dX11_count_192 rfl 0 rfl ?_
                          refine as_getr 193 C fl_X11_36_10 dX11_count_193 (by decide) sh_0 (rf_0_8 _ _) ?_
                          refine as_geti 196 C fl_X11_220_4 dX11_count_196 (by decide) sh_15 ?_
                          replace E := Option.some.inj E
                          subst E
                          exact as_iret 199 C Z rfl dX11_count_199
                        · have E := am_ifF E c15
                          by_cases c16 : p1 = (nI 12)
                          · have E := am_ifT E c16
                            refine am_tabIn 1 200 C dX11_count_1 (by rw [c16]; decide) (by rw [c16]; decide) (by rw [c16]; rfl) (by decide) ?_
                            refine am_aload_n 200 C dX11_count_200 rfl 0 rfl ?_
                            refine as_getr 201 C fl_X11_51_10 dX11_count_201 (by decide) sh_0 (rf_0_11 _ _) ?_
                            refine as_geti 204 C fl_X11_223_0 dX11_count_204 (by decide) sh_32 ?_
                            replace E := Option.some.inj E
                            subst E
                            exact as_iret 207 C Z rfl dX11_count_207
                          · have E := am_ifF E c16
                            by_cases c17 : p1 = (nI 13)
                            · have E := am_ifT E c17
                              refine am_tabIn 1 208 C dX11_count_1 (by rw [c17]; decide) (by rw [c17]; decide) (by rw [c17]; rfl) (by decide) ?_
                              refine am_aload_n 208 C dX11_count_208 rfl 0 rfl ?_
                              refine as_getr 209 C fl_X11_36_10 dX11_count_209 (by decide) sh_0 (rf_0_8 _ _) ?_
                              refine as_geti 212 C fl_X11_226_4 dX11_count_212 (by decide) sh_15 ?_
                              replace E := Option.some.inj E
                              subst E
                              exact as_iret 215 C Z rfl dX11_count_215
                            · have E := am_ifF E c17
                              by_cases c18 : p1 = (nI 14)
                              · have E := am_ifT E c18
                                refine am_tabIn 1 216 C dX11_count_1 (by rw [c18]; decide) (by rw [c18]; decide) (by rw [c18]; rfl) (by decide) ?_
                                refine am_aload_n 216 C dX11_count_216 rfl 0 rfl ?_
                                refine as_geti 217 C fl_X11_109_10 dX11_count_217 (by decide) sh_0 ?_
                                replace E := Option.some.inj E
                                subst E
                                exact as_iret 220 C Z rfl dX11_count_220
                              · have E := am_ifF E c18
                                have ec2 := am_neI c2 0 (by decide)
                                have ec3 := am_neI c3 1 (by decide)
                                have ec4 := am_neI c4 2 (by decide)
                                have ec5 := am_neI c5 3 (by decide)
                                have ec6 := am_neI c6 4 (by decide)
                                have ec7 := am_neI c7 5 (by decide)
                                have ec8 := am_neI c8 6 (by decide)
                                have ec9 := am_neI c9 7 (by decide)
                                have ec11 := am_neI c11 8 (by decide)
                                have ec13 := am_neI c13 9 (by decide)
                                have ec14 := am_neI c14 10 (by decide)
                                have ec15 := am_neI c15 11 (by decide)
                                have ec16 := am_neI c16 12 (by decide)
                                have ec17 := am_neI c17 13 (by decide)
                                have ec18 := am_neI c18 14 (by decide)
                                refine am_tabOut 1 221 C dX11_count_1 (by omega) (by decide) ?_
                                refine am_iconst 221 (-1 : Int32) C dX11_count_221 (by decide) ?_
                                replace E := Option.some.inj E
                                subst E
                                exact as_iret 222 C Z rfl dX11_count_222
def f_X11_isBit (p1 : Int32) : Option (Int32) :=
  am_if (p1 = 0) (some (1 : Int32)) (am_if (p1 = (1 : Int32)) (some (1 : Int32)) (some (0 : Int32)))
set_option maxRecDepth 100000 in
set_option maxHeartbeats 4000000 in
theorem t_X11_isBit (p1 : Int32) (s0 : am_S) {z : Int32} (E : f_X11_isBit p1 = some z) : AS yX11_isBit cX11_isBit 1 (some .boolean) 1 [.int p1] s0 (some (.int z)) s0 := by
  unfold f_X11_isBit at E
  refine as_met (lv := [(0, .int p1)]) (by decide +kernel) (by simp [lg_sl, Value.category]) rfl (fun x C A Z => ?_)
  refine am_iload_n 0 C dX11_isBit_0 rfl 0 rfl ?_
  refine am_if_eq 1 9 C dX11_isBit_1 (by decide) (fun c3 => ?_) (fun c3 => ?_)
  · have E := am_ifT E c3
    refine am_iconst 9 (1 : Int32) C dX11_isBit_9 (by decide) ?_
    refine am_goto 10 14 C dX11_isBit_10 (by decide) ?_
    replace E := Option.some.inj E
    subst E
    exact as_iret 14 C Z rfl dX11_isBit_14
  · have E := am_ifF E c3
    refine am_iload_n 4 C dX11_isBit_4 rfl 0 rfl ?_
    refine am_iconst 5 (1 : Int32) C dX11_isBit_5 (by decide) ?_
    refine am_icmp_ne 6 13 C dX11_isBit_6 (by decide) (fun c2 => ?_) (fun c2 => ?_)
    · have E := am_ifF E c2
      refine am_iconst 13 (0 : Int32) C dX11_isBit_13 (by decide) ?_
      replace E := Option.some.inj E
      subst E
      exact as_iret 14 C Z rfl dX11_isBit_14
    · have E := am_ifT E c2
      refine am_iconst 9 (1 : Int32) C dX11_isBit_9 (by decide) ?_
      refine am_goto 10 14 C dX11_isBit_10 (by decide) ?_
      replace E := Option.some.inj E
      subst E
      exact as_iret 14 C Z rfl dX11_isBit_14
def f_X11_canSay (p1 : Int32) (p2 : Int32) (p3 : Int32) (p4 : Int32) (s0 : am_S) : Option (Int32) :=
  am_bd (f_X8_hasStreet 16 p1 p2 s0) (fun v5 => am_if (v5 = 0) (some (0 : Int32)) (am_bd (f_X8_hasFact p3 s0) (fun v6 => am_if (v6 = 0) (some (0 : Int32)) (am_bd (f_X11_isBit p4) (fun v7 => am_if (v7 = 0) (some (0 : Int32)) (some (1 : Int32)))))))
set_option maxRecDepth 100000 in
set_option maxHeartbeats 4000000 in
theorem t_X11_canSay (p1 : Int32) (p2 : Int32) (p3 : Int32) (p4 : Int32) (s0 : am_S) {z : Int32} (E : f_X11_canSay p1 p2 p3 p4 s0 = some z) : AS yX11_canSay cX11_canSay 5 (some .boolean) 4 [.ref 0, .int p1, .int p2, .int p3, .int p4] s0 (some (.int z)) s0 := by
  unfold f_X11_canSay at E
  refine as_met (lv := [(0, .ref 0), (1, .int p1), (2, .int p2), (3, .int p3), (4, .int p4)]) (by decide +kernel) (by simp [lg_sl, Value.category]) rfl (fun x C A Z => ?_)
  refine am_aload_n 0 C dX11_canSay_0 rfl 0 rfl ?_
  refine as_getr 1 C fl_X11_36_10 dX11_canSay_1 (by decide) sh_0 (rf_0_8 _ _) ?_
  refine as_getr 4 C fl_X11_57_4 dX11_canSay_4 (by decide) sh_15 (rf_15_0 _ _) ?_
  refine am_iload_n 7 C dX11_canSay_7 rfl 1 rfl ?_
  refine am_iload_n 8 C dX11_canSay_8 rfl 2 rfl ?_
  obtain ⟨v5, Ec, E⟩ := am_bdE E
  refine as_callV 9 (s2 := s0) (st := []) (st2 := [.int v5]) [.int p1, .int p2] C A (by decide) ml_X11_248 yc_X8_hasStreet yv_X8_hasStreet (t_X8_hasStreet 16 p1 p2 s0 Ec) (by decide) sh_16 rfl rfl (Nat.le_of_ble_eq_true rfl) rfl dX11_canSay_9 ?_
  refine am_if_eq 12 41 C dX11_canSay_12 (by decide) (fun c10 => ?_) (fun c10 => ?_)
  · have E := am_ifT E c10
    refine am_iconst 41 (0 : Int32) C dX11_canSay_41 (by decide) ?_
    replace E := Option.some.inj E
    subst E
    exact as_iret 42 C Z rfl dX11_canSay_42
  · have E := am_ifF E c10
    refine am_aload_n 15 C dX11_canSay_15 rfl 0 rfl ?_
    refine as_getr 16 C fl_X11_36_10 dX11_canSay_16 (by decide) sh_0 (rf_0_8 _ _) ?_
    refine as_getr 19 C fl_X11_57_4 dX11_canSay_19 (by decide) sh_15 (rf_15_0 _ _) ?_
    refine am_iload_n 22 C dX11_canSay_22 rfl 3 rfl ?_
    obtain ⟨v6, Ec, E⟩ := am_bdE E
    refine as_callV 23 (s2 := s0) (st := []) (st2 := [.int v6]) [.int p3] C A (by decide) ml_X11_155 yc_X8_hasFact yv_X8_hasFact (t_X8_hasFact p3 s0 Ec) (by decide) sh_16 rfl rfl (Nat.le_of_ble_eq_true rfl) rfl dX11_canSay_23 ?_
    refine am_if_eq 26 41 C dX11_canSay_26 (by decide) (fun c9 => ?_) (fun c9 => ?_)
    · have E := am_ifT E c9
      refine am_iconst 41 (0 : Int32) C dX11_canSay_41 (by decide) ?_
      replace E := Option.some.inj E
      subst E
      exact as_iret 42 C Z rfl dX11_canSay_42
    · have E := am_ifF E c9
      refine am_iload 29 C dX11_canSay_29 4 rfl ?_
      obtain ⟨v7, Ec, E⟩ := am_bdE E
      refine as_callS 31 (s2 := s0) (st := []) (st2 := [.int v7]) [.int p4] C A (by decide) ml_X11_284 yc_X11_isBit ys_X11_isBit (t_X11_isBit p4 s0 Ec) rfl rfl (Nat.le_of_ble_eq_true rfl) rfl dX11_canSay_31 ?_
      refine am_if_eq 34 41 C dX11_canSay_34 (by decide) (fun c8 => ?_) (fun c8 => ?_)
      · have E := am_ifT E c8
        refine am_iconst 41 (0 : Int32) C dX11_canSay_41 (by decide) ?_
        replace E := Option.some.inj E
        subst E
        exact as_iret 42 C Z rfl dX11_canSay_42
      · have E := am_ifF E c8
        refine am_iconst 37 (1 : Int32) C dX11_canSay_37 (by decide) ?_
        refine am_goto 38 42 C dX11_canSay_38 (by decide) ?_
        replace E := Option.some.inj E
        subst E
        exact as_iret 42 C Z rfl dX11_canSay_42
def f_X11_prepare (a1 : Nat) (p2 : Int32) (p3 : Int32) (p4 : Int32) (p5 : Int32) (s0 : am_S) : Option (am_S) :=
  am_gd (a1 ∈ am_isL) (am_lt (as_t s0 a1) (fun s6 => am_lt (as_i s6 134 2 p2) (fun s7 => am_lt (as_i s7 134 3 p3) (fun s8 => am_lt (as_i s8 134 4 p4) (fun s9 => am_lt (as_i s9 134 5 p5) (fun s10 => am_lt (as_i s10 134 6 (0 : Int32)) (fun s11 => some s11)))))))
set_option maxRecDepth 100000 in
set_option maxHeartbeats 4000000 in
theorem t_X11_prepare (a1 : Nat) (p2 : Int32) (p3 : Int32) (p4 : Int32) (p5 : Int32) (s0 : am_S) {z : am_S} (E : f_X11_prepare a1 p2 p3 p4 p5 s0 = some z) : AS yX11_prepare cX11_prepare 6 none 1 [.ref 0, .ref a1, .int p2, .int p3, .int p4, .int p5] s0 none z := by
  unfold f_X11_prepare at E
  obtain ⟨ma1, E⟩ := am_gdE E
  refine as_met (lv := [(0, .ref 0), (1, .ref a1), (2, .int p2), (3, .int p3), (4, .int p4), (5, .int p5)]) (by decide +kernel) (by simp [lg_sl, Value.category]) rfl (fun x C A Z => ?_)
  refine am_aload_n 0 C dX11_prepare_0 rfl 0 rfl ?_
  refine as_getr 1 C fl_X11_67_10 dX11_prepare_1 (by decide) sh_0 (rf_0_12 _ _) ?_
  refine am_aload_n 4 C dX11_prepare_4 rfl 1 rfl ?_
  obtain ⟨s6, hs6, E⟩ := am_ltE E
  refine as_putt 5 C fl_X11_287_5 dX11_prepare_5 sh_134 hs6 ?_
  refine am_aload_n 8 C dX11_prepare_8 rfl 0 rfl ?_
  refine as_getr 9 C fl_X11_67_10 dX11_prepare_9 (by decide) sh_0 (rf_0_12 _ _) ?_
  refine am_iload_n 12 C dX11_prepare_12 rfl 2 rfl ?_
  obtain ⟨s7, hs7, E⟩ := am_ltE E
  refine as_puti 13 C fl_X11_288_5 dX11_prepare_13 (by decide) sh_134 rfl rfl hs7 ?_
  refine am_aload_n 16 C dX11_prepare_16 rfl 0 rfl ?_
  refine as_getr 17 C fl_X11_67_10 dX11_prepare_17 (by decide) sh_0 (rf_0_12 _ _) ?_
  refine am_iload_n 20 C dX11_prepare_20 rfl 3 rfl ?_
  obtain ⟨s8, hs8, E⟩ := am_ltE E
  refine as_puti 21 C fl_X11_291_5 dX11_prepare_21 (by decide) sh_134 rfl rfl hs8 ?_
  refine am_aload_n 24 C dX11_prepare_24 rfl 0 rfl ?_
  refine as_getr 25 C fl_X11_67_10 dX11_prepare_25 (by decide) sh_0 (rf_0_12 _ _) ?_
  refine am_iload 28 C dX11_prepare_28 4 rfl ?_
  obtain ⟨s9, hs9, E⟩ := am_ltE E
  refine as_puti 30 C fl_X11_294_5 dX11_prepare_30 (by decide) sh_134 rfl rfl hs9 ?_
  refine am_aload_n 33 C dX11_prepare_33 rfl 0 rfl ?_
  refine as_getr 34 C fl_X11_67_10 dX11_prepare_34 (by decide) sh_0 (rf_0_12 _ _) ?_
  refine am_iload 37 C dX11_prepare_37 5 rfl ?_
  obtain ⟨s10, hs10, E⟩ := am_ltE E
  refine as_puti 39 C fl_X11_297_5 dX11_prepare_39 (by decide) sh_134 rfl rfl hs10 ?_
  refine am_aload_n 42 C dX11_prepare_42 rfl 0 rfl ?_
  refine as_getr 43 C fl_X11_67_10 dX11_prepare_43 (by decide) sh_0 (rf_0_12 _ _) ?_
  refine am_iconst 46 (0 : Int32) C dX11_prepare_46 (by decide) ?_
  obtain ⟨s11, hs11, E⟩ := am_ltE E
  refine as_puti 47 C fl_X11_300_5 dX11_prepare_47 (by decide) sh_134 rfl rfl hs11 ?_
  replace E := Option.some.inj E
  subst E
  exact as_vret 50 C Z dX11_prepare_50
def j_X11_isLie_42 (s1 : am_S) : Option (Int32 × am_S) :=
  am_bd (f_X11_bit (s1.1 16 2) (s1.1 134 4)) (fun v2 => am_if ((s1.1 134 5) = v2) (some ((0 : Int32), s1)) (some ((1 : Int32), s1)))
def f_X11_isLie  (s0 : am_S) : Option (Int32 × am_S) :=
  am_lt (s0.1 15 2) (fun v4 => am_bd (f_X11_hasRule v4 s0) (fun v5 => am_if (v5 = 0) (j_X11_isLie_42 s0) (am_gd (¬ v4 < 0 ∧ (v4).toNatClampNeg < 6) (am_lt (144 + 7 * (v4).toNatClampNeg) (fun q7 => am_if ((s0.1 q7 9) = 0) (j_X11_isLie_42 s0) (am_gd (¬ v4 < 0 ∧ (v4).toNatClampNeg < 6) (am_lt (144 + 7 * (v4).toNatClampNeg) (fun q9 => am_b2 (f_X3_findsLie q9 s0) (fun v10 s11 => am_gd (v10 = 0 ∨ v10 = 1) (some (v10, s11)))))))))))
set_option maxRecDepth 100000 in
set_option maxHeartbeats 4000000 in
theorem t_X11_isLie (s0 : am_S) {z : Int32 × am_S} (E : f_X11_isLie  s0 = some z) : AS yX11_isLie cX11_isLie 2 (some .boolean) 5 [.ref 0] s0 (some (.int z.1)) z.2 := by
  unfold f_X11_isLie at E
  refine as_met (lv := [(0, .ref 0)]) (by decide +kernel) (by simp [lg_sl, Value.category]) rfl (fun x C A Z => ?_)
  have K42 : ∀ (s1 : am_S), j_X11_isLie_42 s1 = some z → AX x 0 0 42 [(0, .ref 0)] [] am_N (am_h s1) := by
    intro s1 E
    unfold j_X11_isLie_42 at E
    refine am_aload_n 42 C dX11_isLie_42 rfl 0 rfl ?_
    refine as_getr 43 C fl_X11_67_10 dX11_isLie_43 (by decide) sh_0 (rf_0_12 _ _) ?_
    refine as_geti 46 C fl_X11_297_5 dX11_isLie_46 (by decide) sh_134 ?_
    refine am_aload_n 49 C dX11_isLie_49 rfl 0 rfl ?_
    refine as_getr 50 C fl_X11_36_10 dX11_isLie_50 (by decide) sh_0 (rf_0_8 _ _) ?_
    refine as_getr 53 C fl_X11_57_4 dX11_isLie_53 (by decide) sh_15 (rf_15_0 _ _) ?_
    refine as_geti 56 C fl_X11_197_7 dX11_isLie_56 (by decide) sh_16 ?_
    refine am_aload_n 59 C dX11_isLie_59 rfl 0 rfl ?_
    refine as_getr 60 C fl_X11_67_10 dX11_isLie_60 (by decide) sh_0 (rf_0_12 _ _) ?_
    refine as_geti 63 C fl_X11_294_5 dX11_isLie_63 (by decide) sh_134 ?_
    obtain ⟨v2, Ec, E⟩ := am_bdE E
    refine as_callS 66 (s2 := s1) (st := [.int (s1.1 134 5)]) (st2 := [.int v2, .int (s1.1 134 5)]) [.int (s1.1 16 2), .int (s1.1 134 4)] C A (by decide) ml_X11_183 yc_X11_bit ys_X11_bit (t_X11_bit (s1.1 16 2) (s1.1 134 4) s1 Ec) rfl rfl (Nat.le_of_ble_eq_true rfl) rfl dX11_isLie_66 ?_
    refine am_icmp_eq 69 76 C dX11_isLie_69 (by decide) (fun c3 => ?_) (fun c3 => ?_)
    · have E := am_ifT E c3
      refine am_iconst 76 (0 : Int32) C dX11_isLie_76 (by decide) ?_
      replace E := Option.some.inj E
      subst E
      exact as_iret 77 C Z rfl dX11_isLie_77
    · have E := am_ifF E c3
      refine am_iconst 72 (1 : Int32) C dX11_isLie_72 (by decide) ?_
      refine am_goto 73 77 C dX11_isLie_73 (by decide) ?_
      replace E := Option.some.inj E
      subst E
      exact as_iret 77 C Z rfl dX11_isLie_77
  refine am_aload_n 0 C dX11_isLie_0 rfl 0 rfl ?_
  refine as_getr 1 C fl_X11_36_10 dX11_isLie_1 (by decide) sh_0 (rf_0_8 _ _) ?_
  refine as_geti 4 C fl_X11_149_4 dX11_isLie_4 (by decide) sh_15 ?_
  obtain ⟨v4, hv4, E⟩ := am_ltE E
  refine as_nm hv4 ?_
  refine am_istore_n 7 (lv2 := [(1, .int v4), (0, .ref 0)]) C dX11_isLie_7 rfl (by decide) rfl ?_
  refine am_aload_n 8 C dX11_isLie_8 rfl 1 rfl ?_
  refine am_iload_n 9 C dX11_isLie_9 rfl 0 rfl ?_
  obtain ⟨v5, Ec, E⟩ := am_bdE E
  refine as_callV 10 (s2 := s0) (st := []) (st2 := [.int v5]) [.int v4] C A (by decide) ml_X11_145 yc_X11_hasRule yv_X11_hasRule (t_X11_hasRule v4 s0 Ec) (by decide) sh_0 rfl rfl (Nat.le_of_ble_eq_true rfl) rfl dX11_isLie_10 ?_
  refine am_if_eq 13 42 C dX11_isLie_13 (by decide) (fun c14 => ?_) (fun c14 => ?_)
  · have E := am_ifT E c14
    refine am_lvs [1] rfl ?_
    exact K42 _ E
  · have E := am_ifF E c14
    refine am_aload_n 16 C dX11_isLie_16 rfl 1 rfl ?_
    refine as_getr 17 C fl_X11_29_10 dX11_isLie_17 (by decide) sh_0 (rf_0_4 _ _) ?_
    refine am_iload_n 20 C dX11_isLie_20 rfl 0 rfl ?_
    obtain ⟨g6, E⟩ := am_gdE E
    refine as_aald 21 (q := 144 + 7 * (v4).toNatClampNeg) C dX11_isLie_21 (by decide) sh_14 (by decide) g6 (fun t u => ra_14 t u _ (g6).2) ?_
    obtain ⟨q7, hq7, E⟩ := am_ltE E
    refine as_nmr hq7 ?_
    have mq7 : q7 ∈ am_isR := by rw [hq7]; exact rb_14 _ (g6).2
    refine as_geti 22 C fl_X11_310_2 dX11_isLie_22 (iR_l0 _ mq7) (iR_sh _ mq7) ?_
    refine am_if_eq 25 42 C dX11_isLie_25 (by decide) (fun c13 => ?_) (fun c13 => ?_)
    · have E := am_ifT E c13
      refine am_lvs [1] rfl ?_
      exact K42 _ E
    · have E := am_ifF E c13
      refine am_aload_n 28 C dX11_isLie_28 rfl 1 rfl ?_
      refine as_getr 29 C fl_X11_29_10 dX11_isLie_29 (by decide) sh_0 (rf_0_4 _ _) ?_
      refine am_iload_n 32 C dX11_isLie_32 rfl 0 rfl ?_
      obtain ⟨g8, E⟩ := am_gdE E
      refine as_aald 33 (q := 144 + 7 * (v4).toNatClampNeg) C dX11_isLie_33 (by decide) sh_14 (by decide) g8 (fun t u => ra_14 t u _ (g8).2) ?_
      obtain ⟨q9, hq9, E⟩ := am_ltE E
      refine as_nmr hq9 ?_
      have mq9 : q9 ∈ am_isR := by rw [hq9]; exact rb_14 _ (g8).2
      refine am_aload_n 34 C dX11_isLie_34 rfl 1 rfl ?_
      refine as_getr 35 C fl_X11_67_10 dX11_isLie_35 (by decide) sh_0 (rf_0_12 _ _) ?_
      obtain ⟨v10, s11, Ec, E⟩ := am_b2E E
      refine as_callV 38 (s2 := s11) (st := []) (st2 := [.int v10]) [.ref 134] C A (by decide) ml_X11_313 yc_X3_findsLie yv_X3_findsLie (t_X3_findsLie q9 s0 Ec) (iR_l0 _ mq9) (iR_sh _ mq9) rfl rfl (Nat.le_of_ble_eq_true rfl) rfl dX11_isLie_38 ?_
      obtain ⟨g12, E⟩ := am_gdE E
      replace E := Option.some.inj E
      subst E
      exact as_iret 41 C Z (am_nb g12) dX11_isLie_41
def j_X11_speak_26 (v1 : Int32) (s2 : am_S) : Option (Int32 × am_S) :=
  am_lt s2.2.2.1 (fun q3 => am_gd (q3 ∈ am_isL) (am_bd (f_X2_hear q3 s2) (fun s4 => am_if (v1 = 0) (some ((0 : Int32), s4)) (some ((1 : Int32), s4)))))
def f_X11_speak  (s0 : am_S) : Option (Int32 × am_S) :=
  am_b2 (f_X11_isLie s0) (fun v6 s7 => am_if (v6 = 0) (j_X11_speak_26 v6 s7) (am_lt s7.2.2.1 (fun q8 => am_gd (q8 ∈ am_isL) (am_bd (f_X2_countLie q8 (s7.1 134 3) s7) (fun s9 => j_X11_speak_26 v6 s9)))))
set_option maxRecDepth 100000 in
set_option maxHeartbeats 4000000 in
theorem t_X11_speak (s0 : am_S) {z : Int32 × am_S} (E : f_X11_speak  s0 = some z) : AS yX11_speak cX11_speak 2 (some .int) 6 [.ref 0] s0 (some (.int z.1)) z.2 := by
  unfold f_X11_speak at E
  refine as_met (lv := [(0, .ref 0)]) (by decide +kernel) (by simp [lg_sl, Value.category]) rfl (fun x C A Z => ?_)
  have K26 : ∀ (v1 : Int32) (s2 : am_S), j_X11_speak_26 v1 s2 = some z → AX x 0 0 26 [(0, .ref 0), (1, .int v1)] [] am_N (am_h s2) := by
    intro v1 s2 E
    unfold j_X11_speak_26 at E
    refine am_aload_n 26 C dX11_speak_26 rfl 0 rfl ?_
    refine as_getr 27 C fl_X11_67_10 dX11_speak_27 (by decide) sh_0 (rf_0_12 _ _) ?_
    refine as_getr 30 C fl_X11_287_5 dX11_speak_30 (by decide) sh_134 (rf_134_1 _ _) ?_
    obtain ⟨q3, hq3, E⟩ := am_ltE E
    refine as_nmr hq3 ?_
    obtain ⟨mq3, E⟩ := am_gdE E
    refine am_aload_n 33 C dX11_speak_33 rfl 0 rfl ?_
    refine as_getr 34 C fl_X11_67_10 dX11_speak_34 (by decide) sh_0 (rf_0_12 _ _) ?_
    obtain ⟨s4, Ec, E⟩ := am_bdE E
    refine as_callV 37 (s2 := s4) (st := []) (st2 := []) [.ref 134] C A (by decide) ml_X11_306 yc_X2_hear yv_X2_hear (t_X2_hear q3 s2 Ec) (iL_l0 _ mq3) (iL_sh _ mq3) rfl rfl (Nat.le_of_ble_eq_true rfl) rfl dX11_speak_37 ?_
    refine am_iload_n 40 C dX11_speak_40 rfl 1 rfl ?_
    refine am_if_eq 41 48 C dX11_speak_41 (by decide) (fun c5 => ?_) (fun c5 => ?_)
    · have E := am_ifT E c5
      refine am_iconst 48 (0 : Int32) C dX11_speak_48 (by decide) ?_
      replace E := Option.some.inj E
      subst E
      exact as_iret 49 C Z rfl dX11_speak_49
    · have E := am_ifF E c5
      refine am_iconst 44 (1 : Int32) C dX11_speak_44 (by decide) ?_
      refine am_goto 45 49 C dX11_speak_45 (by decide) ?_
      replace E := Option.some.inj E
      subst E
      exact as_iret 49 C Z rfl dX11_speak_49
  refine am_aload_n 0 C dX11_speak_0 rfl 0 rfl ?_
  obtain ⟨v6, s7, Ec, E⟩ := am_b2E E
  refine as_callV 1 (s2 := s7) (st := []) (st2 := [.int v6]) [] C A (by decide) ml_X11_244 yc_X11_isLie yv_X11_isLie (t_X11_isLie  s0 Ec) (by decide) sh_0 rfl rfl (Nat.le_of_ble_eq_true rfl) rfl dX11_speak_1 ?_
  refine am_istore_n 4 (lv2 := [(1, .int v6), (0, .ref 0)]) C dX11_speak_4 rfl (by decide) rfl ?_
  refine am_iload_n 5 C dX11_speak_5 rfl 0 rfl ?_
  refine am_if_eq 6 26 C dX11_speak_6 (by decide) (fun c10 => ?_) (fun c10 => ?_)
  · have E := am_ifT E c10
    refine am_lvs [1, 0] rfl ?_
    exact K26 _ _ E
  · have E := am_ifF E c10
    refine am_aload_n 9 C dX11_speak_9 rfl 1 rfl ?_
    refine as_getr 10 C fl_X11_67_10 dX11_speak_10 (by decide) sh_0 (rf_0_12 _ _) ?_
    refine as_getr 13 C fl_X11_287_5 dX11_speak_13 (by decide) sh_134 (rf_134_1 _ _) ?_
    obtain ⟨q8, hq8, E⟩ := am_ltE E
    refine as_nmr hq8 ?_
    obtain ⟨mq8, E⟩ := am_gdE E
    refine am_aload_n 16 C dX11_speak_16 rfl 1 rfl ?_
    refine as_getr 17 C fl_X11_67_10 dX11_speak_17 (by decide) sh_0 (rf_0_12 _ _) ?_
    refine as_geti 20 C fl_X11_291_5 dX11_speak_20 (by decide) sh_134 ?_
    obtain ⟨s9, Ec, E⟩ := am_bdE E
    refine as_callV 23 (s2 := s9) (st := []) (st2 := []) [.int (s7.1 134 3)] C A (by decide) ml_X11_303 yc_X2_countLie yv_X2_countLie (t_X2_countLie q8 (s7.1 134 3) s7 Ec) (iL_l0 _ mq8) (iL_sh _ mq8) rfl rfl (Nat.le_of_ble_eq_true rfl) rfl dX11_speak_23 ?_
    refine am_lvs [1, 0] rfl ?_
    exact K26 _ _ E
def f_X11_say (p1 : Int32) (p2 : Int32) (p3 : Int32) (p4 : Int32) (s0 : am_S) : Option (Int32 × am_S) :=
  am_bd (f_X11_canSay p1 p2 p3 p4 s0) (fun v5 => am_if (v5 = 0) (some ((-1 : Int32), s0)) (am_bd (f_X0_keep s0) (fun s6 => am_bd (f_X11_prepare 24 p1 p2 p3 p4 s6) (fun s7 => am_b2 (f_X11_speak s7) (fun v8 s9 => some (v8, s9))))))
set_option maxRecDepth 100000 in
set_option maxHeartbeats 4000000 in
theorem t_X11_say (p1 : Int32) (p2 : Int32) (p3 : Int32) (p4 : Int32) (s0 : am_S) {z : Int32 × am_S} (E : f_X11_say p1 p2 p3 p4 s0 = some z) : AS yX11_say cX11_say 5 (some .int) 7 [.ref 0, .int p1, .int p2, .int p3, .int p4] s0 (some (.int z.1)) z.2 := by
  unfold f_X11_say at E
  refine as_met (lv := [(0, .ref 0), (1, .int p1), (2, .int p2), (3, .int p3), (4, .int p4)]) (by decide +kernel) (by simp [lg_sl, Value.category]) rfl (fun x C A Z => ?_)
  refine am_aload_n 0 C dX11_say_0 rfl 0 rfl ?_
  refine am_iload_n 1 C dX11_say_1 rfl 1 rfl ?_
  refine am_iload_n 2 C dX11_say_2 rfl 2 rfl ?_
  refine am_iload_n 3 C dX11_say_3 rfl 3 rfl ?_
  refine am_iload 4 C dX11_say_4 4 rfl ?_
  obtain ⟨v5, Ec, E⟩ := am_bdE E
  refine as_callV 6 (s2 := s0) (st := []) (st2 := [.int v5]) [.int p1, .int p2, .int p3, .int p4] C A (by decide) ml_X11_229 yc_X11_canSay yv_X11_canSay (t_X11_canSay p1 p2 p3 p4 s0 Ec) (by decide) sh_0 rfl rfl (Nat.le_of_ble_eq_true rfl) rfl dX11_say_6 ?_
  refine am_if_ne 9 14 C dX11_say_9 (by decide) (fun c10 => ?_) (fun c10 => ?_)
  · have E := am_ifF E c10
    refine am_aload_n 14 C dX11_say_14 rfl 0 rfl ?_
    refine as_getr 15 C fl_X11_51_10 dX11_say_15 (by decide) sh_0 (rf_0_11 _ _) ?_
    refine am_aload_n 18 C dX11_say_18 rfl 0 rfl ?_
    refine as_getr 19 C fl_X11_36_10 dX11_say_19 (by decide) sh_0 (rf_0_8 _ _) ?_
    refine as_getr 22 C fl_X11_60_4 dX11_say_22 (by decide) sh_15 (rf_15_1 _ _) ?_
    obtain ⟨s6, Ec, E⟩ := am_bdE E
    refine as_callV 25 (s2 := s6) (st := []) (st2 := []) [.ref 24] C A (by decide) ml_X11_233 yc_X0_keep yv_X0_keep (t_X0_keep  s0 Ec) (by decide) sh_32 rfl rfl (Nat.le_of_ble_eq_true rfl) rfl dX11_say_25 ?_
    refine am_aload_n 28 C dX11_say_28 rfl 0 rfl ?_
    refine am_aload_n 29 C dX11_say_29 rfl 0 rfl ?_
    refine as_getr 30 C fl_X11_36_10 dX11_say_30 (by decide) sh_0 (rf_0_8 _ _) ?_
    refine as_getr 33 C fl_X11_60_4 dX11_say_33 (by decide) sh_15 (rf_15_1 _ _) ?_
    refine am_iload_n 36 C dX11_say_36 rfl 1 rfl ?_
    refine am_iload_n 37 C dX11_say_37 rfl 2 rfl ?_
    refine am_iload_n 38 C dX11_say_38 rfl 3 rfl ?_
    refine am_iload 39 C dX11_say_39 4 rfl ?_
    obtain ⟨s7, Ec, E⟩ := am_bdE E
    refine as_callV 41 (s2 := s7) (st := []) (st2 := []) [.ref 24, .int p1, .int p2, .int p3, .int p4] C A (by decide) ml_X11_237 yc_X11_prepare yv_X11_prepare (t_X11_prepare 24 p1 p2 p3 p4 s6 Ec) (by decide) sh_0 rfl rfl (Nat.le_of_ble_eq_true rfl) rfl dX11_say_41 ?_
    refine am_aload_n 44 C dX11_say_44 rfl 0 rfl ?_
    obtain ⟨v8, s9, Ec, E⟩ := am_b2E E
    refine as_callV 45 (s2 := s9) (st := []) (st2 := [.int v8]) [] C A (by decide) ml_X11_241 yc_X11_speak yv_X11_speak (t_X11_speak  s7 Ec) (by decide) sh_0 rfl rfl (Nat.le_of_ble_eq_true rfl) rfl dX11_say_45 ?_
    replace E := Option.some.inj E
    subst E
    exact as_iret 48 C Z rfl dX11_say_48
  · have E := am_ifT E c10
    refine am_iconst 12 (-1 : Int32) C dX11_say_12 (by decide) ?_
    replace E := Option.some.inj E
    subst E
    exact as_iret 13 C Z rfl dX11_say_13
def f_X11_would (p1 : Int32) (p2 : Int32) (p3 : Int32) (p4 : Int32) (s0 : am_S) : Option (Int32 × am_S) :=
  am_bd (f_X11_canSay p1 p2 p3 p4 s0) (fun v5 => am_if (v5 = 0) (some ((-1 : Int32), s0)) (am_bd (f_X11_prepare 24 p1 p2 p3 p4 s0) (fun s6 => am_b2 (f_X11_isLie s6) (fun v7 s8 => am_if (v7 = 0) (some ((0 : Int32), s8)) (some ((1 : Int32), s8))))))
set_option maxRecDepth 100000 in
set_option maxHeartbeats 4000000 in
theorem t_X11_would (p1 : Int32) (p2 : Int32) (p3 : Int32) (p4 : Int32) (s0 : am_S) {z : Int32 × am_S} (E : f_X11_would p1 p2 p3 p4 s0 = some z) : AS yX11_would cX11_would 5 (some .int) 6 [.ref 0, .int p1, .int p2, .int p3, .int p4] s0 (some (.int z.1)) z.2 := by
  unfold f_X11_would at E
  refine as_met (lv := [(0, .ref 0), (1, .int p1), (2, .int p2), (3, .int p3), (4, .int p4)]) (by decide +kernel) (by simp [lg_sl, Value.category]) rfl (fun x C A Z => ?_)
  refine am_aload_n 0 C dX11_would_0 rfl 0 rfl ?_
  refine am_iload_n 1 C dX11_would_1 rfl 1 rfl ?_
  refine am_iload_n 2 C dX11_would_2 rfl 2 rfl ?_
  refine am_iload_n 3 C dX11_would_3 rfl 3 rfl ?_
  refine am_iload 4 C dX11_would_4 4 rfl ?_
  obtain ⟨v5, Ec, E⟩ := am_bdE E
  refine as_callV 6 (s2 := s0) (st := []) (st2 := [.int v5]) [.int p1, .int p2, .int p3, .int p4] C A (by decide) ml_X11_229 yc_X11_canSay yv_X11_canSay (t_X11_canSay p1 p2 p3 p4 s0 Ec) (by decide) sh_0 rfl rfl (Nat.le_of_ble_eq_true rfl) rfl dX11_would_6 ?_
  refine am_if_ne 9 14 C dX11_would_9 (by decide) (fun c10 => ?_) (fun c10 => ?_)
  · have E := am_ifF E c10
    refine am_aload_n 14 C dX11_would_14 rfl 0 rfl ?_
    refine am_aload_n 15 C dX11_would_15 rfl 0 rfl ?_
    refine as_getr 16 C fl_X11_36_10 dX11_would_16 (by decide) sh_0 (rf_0_8 _ _) ?_
    refine as_getr 19 C fl_X11_60_4 dX11_would_19 (by decide) sh_15 (rf_15_1 _ _) ?_
    refine am_iload_n 22 C dX11_would_22 rfl 1 rfl ?_
    refine am_iload_n 23 C dX11_would_23 rfl 2 rfl ?_
    refine am_iload_n 24 C dX11_would_24 rfl 3 rfl ?_
    refine am_iload 25 C dX11_would_25 4 rfl ?_
    obtain ⟨s6, Ec, E⟩ := am_bdE E
    refine as_callV 27 (s2 := s6) (st := []) (st2 := []) [.ref 24, .int p1, .int p2, .int p3, .int p4] C A (by decide) ml_X11_237 yc_X11_prepare yv_X11_prepare (t_X11_prepare 24 p1 p2 p3 p4 s0 Ec) (by decide) sh_0 rfl rfl (Nat.le_of_ble_eq_true rfl) rfl dX11_would_27 ?_
    refine am_aload_n 30 C dX11_would_30 rfl 0 rfl ?_
    obtain ⟨v7, s8, Ec, E⟩ := am_b2E E
    refine as_callV 31 (s2 := s8) (st := []) (st2 := [.int v7]) [] C A (by decide) ml_X11_244 yc_X11_isLie yv_X11_isLie (t_X11_isLie  s6 Ec) (by decide) sh_0 rfl rfl (Nat.le_of_ble_eq_true rfl) rfl dX11_would_31 ?_
    refine am_if_eq 34 41 C dX11_would_34 (by decide) (fun c9 => ?_) (fun c9 => ?_)
    · have E := am_ifT E c9
      refine am_iconst 41 (0 : Int32) C dX11_would_41 (by decide) ?_
      replace E := Option.some.inj E
      subst E
      exact as_iret 42 C Z rfl dX11_would_42
    · have E := am_ifF E c9
      refine am_iconst 37 (1 : Int32) C dX11_would_37 (by decide) ?_
      refine am_goto 38 42 C dX11_would_38 (by decide) ?_
      replace E := Option.some.inj E
      subst E
      exact as_iret 42 C Z rfl dX11_would_42
  · have E := am_ifT E c10
    refine am_iconst 12 (-1 : Int32) C dX11_would_12 (by decide) ?_
    replace E := Option.some.inj E
    subst E
    exact as_iret 13 C Z rfl dX11_would_13
def b_X11_tellAll_5 (p1 : Int32) (p2 : Int32) (v4 : Int32) (v5 : Int32) (s6 : am_S) : Option ((Int32 × Int32 × am_S) ⊕ (Int32 × am_S)) :=
  am_if ((s6.1 16 1) ≤ v5) (some (Sum.inr (v4, s6))) (am_lt ((p1 * (nI 8)) + v5) (fun v7 => am_gd (¬ v7 < 0 ∧ (v7).toNatClampNeg < 56) (am_lt (s6.1 25 (v7).toNatClampNeg) (fun v9 => am_if (v9 = (nI 2)) (am_lt (v5 + (1 : Int32)) (fun v10 => some (Sum.inl (v4, v10, s6)))) (am_lt ((p2 * (nI 8)) + v5) (fun v11 => am_gd (¬ v11 < 0 ∧ (v11).toNatClampNeg < 56) (am_if (v9 = (s6.1 25 (v11).toNatClampNeg)) (am_lt (v5 + (1 : Int32)) (fun v13 => some (Sum.inl (v4, v13, s6)))) (am_bd (f_X11_prepare 24 p1 p2 v5 v9 s6) (fun s14 => am_lt (as_i s14 134 6 (1 : Int32)) (fun s15 => am_b2 (f_X11_speak s15) (fun v16 s17 => am_lt (v4 + v16) (fun v18 => am_lt (v5 + (1 : Int32)) (fun v19 => some (Sum.inl (v18, v19, s17)))))))))))))))
def f_X11_tellAll (p1 : Int32) (p2 : Int32) (s0 : am_S) : Option (Int32 × am_S) :=
  am_lp (fun (q : Int32 × Int32 × am_S) => b_X11_tellAll_5 p1 p2 q.1 q.2.1 q.2.2) am_F ((0 : Int32), (0 : Int32), s0)
set_option maxRecDepth 100000 in
set_option maxHeartbeats 4000000 in
theorem t_X11_tellAll (p1 : Int32) (p2 : Int32) (s0 : am_S) {z : Int32 × am_S} (E : f_X11_tellAll p1 p2 s0 = some z) : AS yX11_tellAll cX11_tellAll 6 (some .int) 7 [.ref 0, .int p1, .int p2] s0 (some (.int z.1)) z.2 := by
  unfold f_X11_tellAll at E
  refine as_met (lv := [(0, .ref 0), (1, .int p1), (2, .int p2)]) (by decide +kernel) (by simp [lg_sl, Value.category]) rfl (fun x C A Z => ?_)
  refine am_iconst 0 (0 : Int32) C dX11_tellAll_0 (by decide) ?_
  refine am_istore_n 1 (lv2 := [(3, .int (0 : Int32)), (0, .ref 0), (1, .int p1), (2, .int p2)]) C dX11_tellAll_1 rfl (by decide) rfl ?_
  refine am_iconst 2 (0 : Int32) C dX11_tellAll_2 (by decide) ?_
  refine am_istore 3 (lv2 := [(4, .int (0 : Int32)), (3, .int (0 : Int32)), (0, .ref 0), (1, .int p1), (2, .int p2)]) C dX11_tellAll_3 (by decide) rfl ?_
  have LP3 : ∀ (n : Nat) (v4 : Int32) (v5 : Int32) (s6 : am_S), am_lp (fun (q : Int32 × Int32 × am_S) => b_X11_tellAll_5 p1 p2 q.1 q.2.1 q.2.2) n (v4, v5, s6) = some z → AX x 0 0 5 [(0, .ref 0), (1, .int p1), (2, .int p2), (3, .int v4), (4, .int v5)] [] am_N (am_h s6) := by
    intro n
    induction n with
    | zero => intro v4 v5 s6 E; exact (am_lp0 E).elim
    | succ n ih3 =>
      intro v4 v5 s6 E
      obtain ⟨r3, E, Er3⟩ := am_lpE E
      replace E : b_X11_tellAll_5 p1 p2 v4 v5 s6 = some r3 := E
      unfold b_X11_tellAll_5 at E
      refine am_iload 5 C dX11_tellAll_5 4 rfl ?_
      refine am_aload_n 7 C dX11_tellAll_7 rfl 0 rfl ?_
      refine as_getr 8 C fl_X11_36_10 dX11_tellAll_8 (by decide) sh_0 (rf_0_8 _ _) ?_
      refine as_getr 11 C fl_X11_57_4 dX11_tellAll_11 (by decide) sh_15 (rf_15_0 _ _) ?_
      refine as_geti 14 C fl_X11_194_7 dX11_tellAll_14 (by decide) sh_16 ?_
      refine am_icmp_ge 17 107 C dX11_tellAll_17 (by decide) (fun c22 => ?_) (fun c22 => ?_)
      · have E := am_ifT E c22
        refine am_iload_n 107 C dX11_tellAll_107 rfl 3 rfl ?_
        replace E := Option.some.inj E
        replace E := am_exR E Er3
        subst E
        exact as_iret 108 C Z rfl dX11_tellAll_108
      · have E := am_ifF E c22
        refine am_aload_n 20 C dX11_tellAll_20 rfl 0 rfl ?_
        refine as_getr 21 C fl_X11_36_10 dX11_tellAll_21 (by decide) sh_0 (rf_0_8 _ _) ?_
        refine as_getr 24 C fl_X11_60_4 dX11_tellAll_24 (by decide) sh_15 (rf_15_1 _ _) ?_
        refine as_getr 27 C fl_X11_158_1 dX11_tellAll_27 (by decide) sh_24 (rf_24_0 _ _) ?_
        refine am_iload_n 30 C dX11_tellAll_30 rfl 1 rfl ?_
        refine am_bipush 31 (nI 8) C dX11_tellAll_31 (by decide) ?_
        refine am_imul 33 C dX11_tellAll_33 ?_
        refine am_iload 34 C dX11_tellAll_34 4 rfl ?_
        refine am_iadd 36 C dX11_tellAll_36 ?_
        obtain ⟨v7, hv7, E⟩ := am_ltE E
        refine as_nm hv7 ?_
        obtain ⟨g8, E⟩ := am_gdE E
        refine as_iald 37 C dX11_tellAll_37 (by decide) sh_25 g8 ?_
        obtain ⟨v9, hv9, E⟩ := am_ltE E
        refine as_nm hv9 ?_
        refine am_istore 38 (lv2 := [(5, .int v9), (0, .ref 0), (1, .int p1), (2, .int p2), (3, .int v4), (4, .int v5)]) C dX11_tellAll_38 (by decide) rfl ?_
        refine am_iload 40 C dX11_tellAll_40 0 rfl ?_
        refine am_iconst 42 (nI 2) C dX11_tellAll_42 (by decide) ?_
        refine am_icmp_eq 43 101 C dX11_tellAll_43 (by decide) (fun c21 => ?_) (fun c21 => ?_)
        · have E := am_ifT E c21
          obtain ⟨v10, hv10, E⟩ := am_ltE E
          refine as_iinc 101 (q := (1 : Int32)) (lv2 := [(4, .int v10), (5, .int v9), (0, .ref 0), (1, .int p1), (2, .int p2), (3, .int v4)]) C dX11_tellAll_101 5 rfl (by decide) hv10 (by decide) rfl ?_
          refine am_goto 104 5 C dX11_tellAll_104 (by decide) ?_
          replace E := Option.some.inj E
          replace E := am_exL E Er3
          refine am_lvs [2, 3, 4, 5, 0] rfl ?_
          exact ih3 _ _ _ E
        · have E := am_ifF E c21
          refine am_iload 46 C dX11_tellAll_46 0 rfl ?_
          refine am_aload_n 48 C dX11_tellAll_48 rfl 1 rfl ?_
          refine as_getr 49 C fl_X11_36_10 dX11_tellAll_49 (by decide) sh_0 (rf_0_8 _ _) ?_
          refine as_getr 52 C fl_X11_60_4 dX11_tellAll_52 (by decide) sh_15 (rf_15_1 _ _) ?_
          refine as_getr 55 C fl_X11_158_1 dX11_tellAll_55 (by decide) sh_24 (rf_24_0 _ _) ?_
          refine am_iload_n 58 C dX11_tellAll_58 rfl 3 rfl ?_
          refine am_bipush 59 (nI 8) C dX11_tellAll_59 (by decide) ?_
          refine am_imul 61 C dX11_tellAll_61 ?_
          refine am_iload 62 C dX11_tellAll_62 5 rfl ?_
          refine am_iadd 64 C dX11_tellAll_64 ?_
          obtain ⟨v11, hv11, E⟩ := am_ltE E
          refine as_nm hv11 ?_
          obtain ⟨g12, E⟩ := am_gdE E
          refine as_iald 65 C dX11_tellAll_65 (by decide) sh_25 g12 ?_
          refine am_icmp_eq 66 101 C dX11_tellAll_66 (by decide) (fun c20 => ?_) (fun c20 => ?_)
          · have E := am_ifT E c20
            obtain ⟨v13, hv13, E⟩ := am_ltE E
            refine as_iinc 101 (q := (1 : Int32)) (lv2 := [(4, .int v13), (5, .int v9), (0, .ref 0), (1, .int p1), (2, .int p2), (3, .int v4)]) C dX11_tellAll_101 5 rfl (by decide) hv13 (by decide) rfl ?_
            refine am_goto 104 5 C dX11_tellAll_104 (by decide) ?_
            replace E := Option.some.inj E
            replace E := am_exL E Er3
            refine am_lvs [2, 3, 4, 5, 0] rfl ?_
            exact ih3 _ _ _ E
          · have E := am_ifF E c20
            refine am_aload_n 69 C dX11_tellAll_69 rfl 1 rfl ?_
            refine am_aload_n 70 C dX11_tellAll_70 rfl 1 rfl ?_
            refine as_getr 71 C fl_X11_36_10 dX11_tellAll_71 (by decide) sh_0 (rf_0_8 _ _) ?_
            refine as_getr 74 C fl_X11_60_4 dX11_tellAll_74 (by decide) sh_15 (rf_15_1 _ _) ?_
            refine am_iload_n 77 C dX11_tellAll_77 rfl 2 rfl ?_
            refine am_iload_n 78 C dX11_tellAll_78 rfl 3 rfl ?_
            refine am_iload 79 C dX11_tellAll_79 5 rfl ?_
            refine am_iload 81 C dX11_tellAll_81 0 rfl ?_
            obtain ⟨s14, Ec, E⟩ := am_bdE E
            refine as_callV 83 (s2 := s14) (st := []) (st2 := []) [.ref 24, .int p1, .int p2, .int v5, .int v9] C A (by decide) ml_X11_237 yc_X11_prepare yv_X11_prepare (t_X11_prepare 24 p1 p2 v5 v9 s6 Ec) (by decide) sh_0 rfl rfl (Nat.le_of_ble_eq_true rfl) rfl dX11_tellAll_83 ?_
            refine am_aload_n 86 C dX11_tellAll_86 rfl 1 rfl ?_
            refine as_getr 87 C fl_X11_67_10 dX11_tellAll_87 (by decide) sh_0 (rf_0_12 _ _) ?_
            refine am_iconst 90 (1 : Int32) C dX11_tellAll_90 (by decide) ?_
            obtain ⟨s15, hs15, E⟩ := am_ltE E
            refine as_puti 91 C fl_X11_300_5 dX11_tellAll_91 (by decide) sh_134 rfl rfl hs15 ?_
            refine am_iload_n 94 C dX11_tellAll_94 rfl 4 rfl ?_
            refine am_aload_n 95 C dX11_tellAll_95 rfl 1 rfl ?_
            obtain ⟨v16, s17, Ec, E⟩ := am_b2E E
            refine as_callV 96 (s2 := s17) (st := [.int v4]) (st2 := [.int v16, .int v4]) [] C A (by decide) ml_X11_241 yc_X11_speak yv_X11_speak (t_X11_speak  s15 Ec) (by decide) sh_0 rfl rfl (Nat.le_of_ble_eq_true rfl) rfl dX11_tellAll_96 ?_
            refine am_iadd 99 C dX11_tellAll_99 ?_
            obtain ⟨v18, hv18, E⟩ := am_ltE E
            refine as_nm hv18 ?_
            refine am_istore_n 100 (lv2 := [(3, .int v18), (5, .int v9), (0, .ref 0), (1, .int p1), (2, .int p2), (4, .int v5)]) C dX11_tellAll_100 rfl (by decide) rfl ?_
            obtain ⟨v19, hv19, E⟩ := am_ltE E
            refine as_iinc 101 (q := (1 : Int32)) (lv2 := [(4, .int v19), (3, .int v18), (5, .int v9), (0, .ref 0), (1, .int p1), (2, .int p2)]) C dX11_tellAll_101 5 rfl (by decide) hv19 (by decide) rfl ?_
            refine am_goto 104 5 C dX11_tellAll_104 (by decide) ?_
            replace E := Option.some.inj E
            replace E := am_exL E Er3
            refine am_lvs [3, 4, 5, 1, 0] rfl ?_
            exact ih3 _ _ _ E
  refine am_lvs [2, 3, 4, 1, 0] rfl ?_
  exact LP3 am_F _ _ _ E
def f_X11_meet (p1 : Int32) (p2 : Int32) (s0 : am_S) : Option (Int32 × am_S) :=
  am_bd (f_X8_hasStreet 16 p1 p2 s0) (fun v3 => am_if (v3 = 0) (some ((-1 : Int32), s0)) (am_bd (f_X0_keep s0) (fun s4 => am_lt (if p2 < p1 then p2 else p1) (fun v5 => am_lt (if p1 < p2 then p2 else p1) (fun v6 => am_b2 (f_X11_tellAll v5 v6 s4) (fun v7 s8 => am_b2 (f_X11_tellAll v6 v5 s8) (fun v9 s10 => some ((v7 + v9), s10))))))))
set_option maxRecDepth 100000 in
set_option maxHeartbeats 4000000 in
theorem t_X11_meet (p1 : Int32) (p2 : Int32) (s0 : am_S) {z : Int32 × am_S} (E : f_X11_meet p1 p2 s0 = some z) : AS yX11_meet cX11_meet 6 (some .int) 8 [.ref 0, .int p1, .int p2] s0 (some (.int z.1)) z.2 := by
  unfold f_X11_meet at E
  refine as_met (lv := [(0, .ref 0), (1, .int p1), (2, .int p2)]) (by decide +kernel) (by simp [lg_sl, Value.category]) rfl (fun x C A Z => ?_)
  refine am_aload_n 0 C dX11_meet_0 rfl 0 rfl ?_
  refine as_getr 1 C fl_X11_36_10 dX11_meet_1 (by decide) sh_0 (rf_0_8 _ _) ?_
  refine as_getr 4 C fl_X11_57_4 dX11_meet_4 (by decide) sh_15 (rf_15_0 _ _) ?_
  refine am_iload_n 7 C dX11_meet_7 rfl 1 rfl ?_
  refine am_iload_n 8 C dX11_meet_8 rfl 2 rfl ?_
  obtain ⟨v3, Ec, E⟩ := am_bdE E
  refine as_callV 9 (s2 := s0) (st := []) (st2 := [.int v3]) [.int p1, .int p2] C A (by decide) ml_X11_248 yc_X8_hasStreet yv_X8_hasStreet (t_X8_hasStreet 16 p1 p2 s0 Ec) (by decide) sh_16 rfl rfl (Nat.le_of_ble_eq_true rfl) rfl dX11_meet_9 ?_
  refine am_if_ne 12 17 C dX11_meet_12 (by decide) (fun c11 => ?_) (fun c11 => ?_)
  · have E := am_ifF E c11
    refine am_aload_n 17 C dX11_meet_17 rfl 0 rfl ?_
    refine as_getr 18 C fl_X11_51_10 dX11_meet_18 (by decide) sh_0 (rf_0_11 _ _) ?_
    refine am_aload_n 21 C dX11_meet_21 rfl 0 rfl ?_
    refine as_getr 22 C fl_X11_36_10 dX11_meet_22 (by decide) sh_0 (rf_0_8 _ _) ?_
    refine as_getr 25 C fl_X11_60_4 dX11_meet_25 (by decide) sh_15 (rf_15_1 _ _) ?_
    obtain ⟨s4, Ec, E⟩ := am_bdE E
    refine as_callV 28 (s2 := s4) (st := []) (st2 := []) [.ref 24] C A (by decide) ml_X11_233 yc_X0_keep yv_X0_keep (t_X0_keep  s0 Ec) (by decide) sh_32 rfl rfl (Nat.le_of_ble_eq_true rfl) rfl dX11_meet_28 ?_
    refine am_iload_n 31 C dX11_meet_31 rfl 1 rfl ?_
    refine am_iload_n 32 C dX11_meet_32 rfl 2 rfl ?_
    refine as_min 33 C A (by decide) ml_X11_251 (Nat.le_of_ble_eq_true rfl) dX11_meet_33 ?_
    obtain ⟨v5, hv5, E⟩ := am_ltE E
    refine as_nm hv5 ?_
    refine am_istore_n 36 (lv2 := [(3, .int v5), (0, .ref 0), (1, .int p1), (2, .int p2)]) C dX11_meet_36 rfl (by decide) rfl ?_
    refine am_iload_n 37 C dX11_meet_37 rfl 2 rfl ?_
    refine am_iload_n 38 C dX11_meet_38 rfl 3 rfl ?_
    refine as_max 39 C A (by decide) ml_X11_256 (Nat.le_of_ble_eq_true rfl) dX11_meet_39 ?_
    obtain ⟨v6, hv6, E⟩ := am_ltE E
    refine as_nm hv6 ?_
    refine am_istore 42 (lv2 := [(4, .int v6), (3, .int v5), (0, .ref 0), (1, .int p1), (2, .int p2)]) C dX11_meet_42 (by decide) rfl ?_
    refine am_aload_n 44 C dX11_meet_44 rfl 2 rfl ?_
    refine am_iload_n 45 C dX11_meet_45 rfl 1 rfl ?_
    refine am_iload 46 C dX11_meet_46 0 rfl ?_
    obtain ⟨v7, s8, Ec, E⟩ := am_b2E E
    refine as_callV 48 (s2 := s8) (st := []) (st2 := [.int v7]) [.int v5, .int v6] C A (by decide) ml_X11_259 yc_X11_tellAll yv_X11_tellAll (t_X11_tellAll v5 v6 s4 Ec) (by decide) sh_0 rfl rfl (Nat.le_of_ble_eq_true rfl) rfl dX11_meet_48 ?_
    refine am_istore 51 (lv2 := [(5, .int v7), (4, .int v6), (3, .int v5), (0, .ref 0), (1, .int p1), (2, .int p2)]) C dX11_meet_51 (by decide) rfl ?_
    refine am_iload 53 C dX11_meet_53 0 rfl ?_
    refine am_aload_n 55 C dX11_meet_55 rfl 3 rfl ?_
    refine am_iload 56 C dX11_meet_56 1 rfl ?_
    refine am_iload_n 58 C dX11_meet_58 rfl 2 rfl ?_
    obtain ⟨v9, s10, Ec, E⟩ := am_b2E E
    refine as_callV 59 (s2 := s10) (st := [.int v7]) (st2 := [.int v9, .int v7]) [.int v6, .int v5] C A (by decide) ml_X11_259 yc_X11_tellAll yv_X11_tellAll (t_X11_tellAll v6 v5 s8 Ec) (by decide) sh_0 rfl rfl (Nat.le_of_ble_eq_true rfl) rfl dX11_meet_59 ?_
    refine am_iadd 62 C dX11_meet_62 ?_
    replace E := Option.some.inj E
    subst E
    exact as_iret 63 C Z rfl dX11_meet_63
  · have E := am_ifT E c11
    refine am_iconst 15 (-1 : Int32) C dX11_meet_15 (by decide) ?_
    replace E := Option.some.inj E
    subst E
    exact as_iret 16 C Z rfl dX11_meet_16
def f_X11_hour  (s0 : am_S) : Option (Int32 × am_S) :=
  am_if ((s0.1 16 0) = 0) (some ((-1 : Int32), s0)) (am_if ((s0.1 24 5) < (nI 23)) (am_bd (f_X0_keep s0) (fun s1 => am_lt (as_i s1 24 5 ((s1.1 24 5) + (1 : Int32))) (fun s2 => some ((s2.1 24 5), s2)))) (some ((-1 : Int32), s0)))
set_option maxRecDepth 100000 in
set_option maxHeartbeats 4000000 in
theorem t_X11_hour (s0 : am_S) {z : Int32 × am_S} (E : f_X11_hour  s0 = some z) : AS yX11_hour cX11_hour 1 (some .int) 4 [.ref 0] s0 (some (.int z.1)) z.2 := by
  unfold f_X11_hour at E
  refine as_met (lv := [(0, .ref 0)]) (by decide +kernel) (by simp [lg_sl, Value.category]) rfl (fun x C A Z => ?_)
  refine am_aload_n 0 C dX11_hour_0 rfl 0 rfl ?_
  refine as_getr 1 C fl_X11_36_10 dX11_hour_1 (by decide) sh_0 (rf_0_8 _ _) ?_
  refine as_getr 4 C fl_X11_57_4 dX11_hour_4 (by decide) sh_15 (rf_15_0 _ _) ?_
  refine as_geti 7 C fl_X11_262_7 dX11_hour_7 (by decide) sh_16 ?_
  refine am_if_eq 10 28 C dX11_hour_10 (by decide) (fun c4 => ?_) (fun c4 => ?_)
  · have E := am_ifT E c4
    refine am_iconst 28 (-1 : Int32) C dX11_hour_28 (by decide) ?_
    replace E := Option.some.inj E
    subst E
    exact as_iret 29 C Z rfl dX11_hour_29
  · have E := am_ifF E c4
    refine am_aload_n 13 C dX11_hour_13 rfl 0 rfl ?_
    refine as_getr 14 C fl_X11_36_10 dX11_hour_14 (by decide) sh_0 (rf_0_8 _ _) ?_
    refine as_getr 17 C fl_X11_60_4 dX11_hour_17 (by decide) sh_15 (rf_15_1 _ _) ?_
    refine as_geti 20 C fl_X11_206_1 dX11_hour_20 (by decide) sh_24 ?_
    refine am_bipush 23 (nI 23) C dX11_hour_23 (by decide) ?_
    refine am_icmp_lt 25 30 C dX11_hour_25 (by decide) (fun c3 => ?_) (fun c3 => ?_)
    · have E := am_ifT E c3
      refine am_aload_n 30 C dX11_hour_30 rfl 0 rfl ?_
      refine as_getr 31 C fl_X11_51_10 dX11_hour_31 (by decide) sh_0 (rf_0_11 _ _) ?_
      refine am_aload_n 34 C dX11_hour_34 rfl 0 rfl ?_
      refine as_getr 35 C fl_X11_36_10 dX11_hour_35 (by decide) sh_0 (rf_0_8 _ _) ?_
      refine as_getr 38 C fl_X11_60_4 dX11_hour_38 (by decide) sh_15 (rf_15_1 _ _) ?_
      obtain ⟨s1, Ec, E⟩ := am_bdE E
      refine as_callV 41 (s2 := s1) (st := []) (st2 := []) [.ref 24] C A (by decide) ml_X11_233 yc_X0_keep yv_X0_keep (t_X0_keep  s0 Ec) (by decide) sh_32 rfl rfl (Nat.le_of_ble_eq_true rfl) rfl dX11_hour_41 ?_
      refine am_aload_n 44 C dX11_hour_44 rfl 0 rfl ?_
      refine as_getr 45 C fl_X11_36_10 dX11_hour_45 (by decide) sh_0 (rf_0_8 _ _) ?_
      refine as_getr 48 C fl_X11_60_4 dX11_hour_48 (by decide) sh_15 (rf_15_1 _ _) ?_
      refine am_dup 51 C dX11_hour_51 rfl ?_
      refine as_geti 52 C fl_X11_206_1 dX11_hour_52 (by decide) sh_24 ?_
      refine am_iconst 55 (1 : Int32) C dX11_hour_55 (by decide) ?_
      refine am_iadd 56 C dX11_hour_56 ?_
      obtain ⟨s2, hs2, E⟩ := am_ltE E
      refine as_puti 57 C fl_X11_206_1 dX11_hour_57 (by decide) sh_24 rfl rfl hs2 ?_
      refine am_aload_n 60 C dX11_hour_60 rfl 0 rfl ?_
      refine as_getr 61 C fl_X11_36_10 dX11_hour_61 (by decide) sh_0 (rf_0_8 _ _) ?_
      refine as_getr 64 C fl_X11_60_4 dX11_hour_64 (by decide) sh_15 (rf_15_1 _ _) ?_
      refine as_geti 67 C fl_X11_206_1 dX11_hour_67 (by decide) sh_24 ?_
      replace E := Option.some.inj E
      subst E
      exact as_iret 70 C Z rfl dX11_hour_70
    · have E := am_ifF E c3
      refine am_iconst 28 (-1 : Int32) C dX11_hour_28 (by decide) ?_
      replace E := Option.some.inj E
      subst E
      exact as_iret 29 C Z rfl dX11_hour_29
def f_X11_midnight  (s0 : am_S) : Option (Int32 × am_S) :=
  am_if ((s0.1 16 0) = 0) (some ((-1 : Int32), s0)) (am_if ((s0.1 24 4) < (nI 9999)) (am_bd (f_X0_keep s0) (fun s1 => am_bd (f_X2_beginDay 24 s1) (fun s2 => some ((s2.1 24 4), s2)))) (some ((-1 : Int32), s0)))
set_option maxRecDepth 100000 in
set_option maxHeartbeats 4000000 in
theorem t_X11_midnight (s0 : am_S) {z : Int32 × am_S} (E : f_X11_midnight  s0 = some z) : AS yX11_midnight cX11_midnight 1 (some .int) 6 [.ref 0] s0 (some (.int z.1)) z.2 := by
  unfold f_X11_midnight at E
  refine as_met (lv := [(0, .ref 0)]) (by decide +kernel) (by simp [lg_sl, Value.category]) rfl (fun x C A Z => ?_)
  refine am_aload_n 0 C dX11_midnight_0 rfl 0 rfl ?_
  refine as_getr 1 C fl_X11_36_10 dX11_midnight_1 (by decide) sh_0 (rf_0_8 _ _) ?_
  refine as_getr 4 C fl_X11_57_4 dX11_midnight_4 (by decide) sh_15 (rf_15_0 _ _) ?_
  refine as_geti 7 C fl_X11_262_7 dX11_midnight_7 (by decide) sh_16 ?_
  refine am_if_eq 10 29 C dX11_midnight_10 (by decide) (fun c4 => ?_) (fun c4 => ?_)
  · have E := am_ifT E c4
    refine am_iconst 29 (-1 : Int32) C dX11_midnight_29 (by decide) ?_
    replace E := Option.some.inj E
    subst E
    exact as_iret 30 C Z rfl dX11_midnight_30
  · have E := am_ifF E c4
    refine am_aload_n 13 C dX11_midnight_13 rfl 0 rfl ?_
    refine as_getr 14 C fl_X11_36_10 dX11_midnight_14 (by decide) sh_0 (rf_0_8 _ _) ?_
    refine as_getr 17 C fl_X11_60_4 dX11_midnight_17 (by decide) sh_15 (rf_15_1 _ _) ?_
    refine as_geti 20 C fl_X11_203_1 dX11_midnight_20 (by decide) sh_24 ?_
    refine am_sipush 23 (nI 9999) C dX11_midnight_23 (by decide) ?_
    refine am_icmp_lt 26 31 C dX11_midnight_26 (by decide) (fun c3 => ?_) (fun c3 => ?_)
    · have E := am_ifT E c3
      refine am_aload_n 31 C dX11_midnight_31 rfl 0 rfl ?_
      refine as_getr 32 C fl_X11_51_10 dX11_midnight_32 (by decide) sh_0 (rf_0_11 _ _) ?_
      refine am_aload_n 35 C dX11_midnight_35 rfl 0 rfl ?_
      refine as_getr 36 C fl_X11_36_10 dX11_midnight_36 (by decide) sh_0 (rf_0_8 _ _) ?_
      refine as_getr 39 C fl_X11_60_4 dX11_midnight_39 (by decide) sh_15 (rf_15_1 _ _) ?_
      obtain ⟨s1, Ec, E⟩ := am_bdE E
      refine as_callV 42 (s2 := s1) (st := []) (st2 := []) [.ref 24] C A (by decide) ml_X11_233 yc_X0_keep yv_X0_keep (t_X0_keep  s0 Ec) (by decide) sh_32 rfl rfl (Nat.le_of_ble_eq_true rfl) rfl dX11_midnight_42 ?_
      refine am_aload_n 45 C dX11_midnight_45 rfl 0 rfl ?_
      refine as_getr 46 C fl_X11_36_10 dX11_midnight_46 (by decide) sh_0 (rf_0_8 _ _) ?_
      refine as_getr 49 C fl_X11_60_4 dX11_midnight_49 (by decide) sh_15 (rf_15_1 _ _) ?_
      refine am_aload_n 52 C dX11_midnight_52 rfl 0 rfl ?_
      refine as_getr 53 C fl_X11_36_10 dX11_midnight_53 (by decide) sh_0 (rf_0_8 _ _) ?_
      refine as_getr 56 C fl_X11_57_4 dX11_midnight_56 (by decide) sh_15 (rf_15_0 _ _) ?_
      obtain ⟨s2, Ec, E⟩ := am_bdE E
      refine as_callV 59 (s2 := s2) (st := []) (st2 := []) [.ref 16] C A (by decide) ml_X11_266 yc_X2_beginDay yv_X2_beginDay (t_X2_beginDay 24 s1 Ec) (by decide) sh_24 rfl rfl (Nat.le_of_ble_eq_true rfl) rfl dX11_midnight_59 ?_
      refine am_aload_n 62 C dX11_midnight_62 rfl 0 rfl ?_
      refine as_getr 63 C fl_X11_36_10 dX11_midnight_63 (by decide) sh_0 (rf_0_8 _ _) ?_
      refine as_getr 66 C fl_X11_60_4 dX11_midnight_66 (by decide) sh_15 (rf_15_1 _ _) ?_
      refine as_geti 69 C fl_X11_203_1 dX11_midnight_69 (by decide) sh_24 ?_
      replace E := Option.some.inj E
      subst E
      exact as_iret 72 C Z rfl dX11_midnight_72
    · have E := am_ifF E c3
      refine am_iconst 29 (-1 : Int32) C dX11_midnight_29 (by decide) ?_
      replace E := Option.some.inj E
      subst E
      exact as_iret 30 C Z rfl dX11_midnight_30
def f_X11_undo  (s0 : am_S) : Option (Int32 × am_S) :=
  am_if ((s0.1 32 2) = 0) (some ((-1 : Int32), s0)) (am_bd (f_X0_takeBack s0) (fun s1 => some ((s1.1 32 2), s1)))
set_option maxRecDepth 100000 in
set_option maxHeartbeats 4000000 in
theorem t_X11_undo (s0 : am_S) {z : Int32 × am_S} (E : f_X11_undo  s0 = some z) : AS yX11_undo cX11_undo 1 (some .int) 4 [.ref 0] s0 (some (.int z.1)) z.2 := by
  unfold f_X11_undo at E
  refine as_met (lv := [(0, .ref 0)]) (by decide +kernel) (by simp [lg_sl, Value.category]) rfl (fun x C A Z => ?_)
  refine am_aload_n 0 C dX11_undo_0 rfl 0 rfl ?_
  refine as_getr 1 C fl_X11_51_10 dX11_undo_1 (by decide) sh_0 (rf_0_11 _ _) ?_
  refine as_geti 4 C fl_X11_223_0 dX11_undo_4 (by decide) sh_32 ?_
  refine am_if_ne 7 12 C dX11_undo_7 (by decide) (fun c2 => ?_) (fun c2 => ?_)
  · have E := am_ifF E c2
    refine am_aload_n 12 C dX11_undo_12 rfl 0 rfl ?_
    refine as_getr 13 C fl_X11_51_10 dX11_undo_13 (by decide) sh_0 (rf_0_11 _ _) ?_
    refine am_aload_n 16 C dX11_undo_16 rfl 0 rfl ?_
    refine as_getr 17 C fl_X11_36_10 dX11_undo_17 (by decide) sh_0 (rf_0_8 _ _) ?_
    refine as_getr 20 C fl_X11_60_4 dX11_undo_20 (by decide) sh_15 (rf_15_1 _ _) ?_
    obtain ⟨s1, Ec, E⟩ := am_bdE E
    refine as_callV 23 (s2 := s1) (st := []) (st2 := []) [.ref 24] C A (by decide) ml_X11_269 yc_X0_takeBack yv_X0_takeBack (t_X0_takeBack  s0 Ec) (by decide) sh_32 rfl rfl (Nat.le_of_ble_eq_true rfl) rfl dX11_undo_23 ?_
    refine am_aload_n 26 C dX11_undo_26 rfl 0 rfl ?_
    refine as_getr 27 C fl_X11_51_10 dX11_undo_27 (by decide) sh_0 (rf_0_11 _ _) ?_
    refine as_geti 30 C fl_X11_223_0 dX11_undo_30 (by decide) sh_32 ?_
    replace E := Option.some.inj E
    subst E
    exact as_iret 33 C Z rfl dX11_undo_33
  · have E := am_ifT E c2
    refine am_iconst 10 (-1 : Int32) C dX11_undo_10 (by decide) ?_
    replace E := Option.some.inj E
    subst E
    exact as_iret 11 C Z rfl dX11_undo_11
def j_X11_chooseSaying_143 (p2 : Int32) (v3 : Int32) (v4 : Int32) (v5 : Int32) (s6 : am_S) : Option (Int32 × am_S) :=
  am_if (v3 = (-1 : Int32)) (some ((0 : Int32), s6)) (am_bd (f_X11_prepare 24 p2 v3 v4 v5 s6) (fun s7 => some ((1 : Int32), s7)))
def j_X11_chooseSaying_137 (w16 : Int64) (v17 : Int32) (v18 : Int32) (v19 : Int32) (v20 : Int32) (s21 : am_S) : Option ((Int64 × Int32 × Int32 × Int32 × Int32 × am_S) ⊕ (Int32 × am_S)) :=
  am_lt (v20 + (1 : Int32)) (fun v22 => some (Sum.inl (w16, v17, v18, v19, v22, s21)))
def b_X11_chooseSaying_66 (a1 : Nat) (p2 : Int32) (v23 : Int32) (v28 : Int32) (w31 : Int64) (v32 : Int32) (v33 : Int32) (v34 : Int32) (v35 : Int32) (s36 : am_S) : Option ((Int64 × Int32 × Int32 × Int32 × Int32 × am_S) ⊕ ((Int64 × Int32 × Int32 × Int32 × Int32 × am_S) ⊕ (Int32 × am_S))) :=
  am_if (v23 ≤ v35) (am_bd (j_X11_chooseSaying_137 w31 v32 v33 v34 v28 s36) (fun e37 => some (Sum.inr e37))) (am_bd (f_X11_prepare 24 p2 v28 (v35 >>> ((1 : Int32) &&& 31)) (v35 &&& (1 : Int32)) s36) (fun s38 => am_b2 (f_X3_scoreOf a1 s38) (fun w39 s40 => am_if ((lg_cmp w39 w31) ≤ 0) (am_lt (v35 + (1 : Int32)) (fun v41 => some (Sum.inl (w31, v32, v33, v34, v41, s40)))) (am_lt (v35 >>> ((1 : Int32) &&& 31)) (fun v42 => am_lt (v35 &&& (1 : Int32)) (fun v43 => am_lt (v35 + (1 : Int32)) (fun v44 => some (Sum.inl (w39, v28, v42, v43, v44, s40)))))))))
def j_X11_chooseSaying_61 (a1 : Nat) (p2 : Int32) (v23 : Int32) (w24 : Int64) (v25 : Int32) (v26 : Int32) (v27 : Int32) (v28 : Int32) (s29 : am_S) : Option ((Int64 × Int32 × Int32 × Int32 × Int32 × am_S) ⊕ (Int32 × am_S)) :=
  am_lp (fun (q : Int64 × Int32 × Int32 × Int32 × Int32 × am_S) => b_X11_chooseSaying_66 a1 p2 v23 v28 q.1 q.2.1 q.2.2.1 q.2.2.2.1 q.2.2.2.2.1 q.2.2.2.2.2) am_F (w24, v25, v26, v27, (0 : Int32), s29)
def b_X11_chooseSaying_14 (a1 : Nat) (p2 : Int32) (w10 : Int64) (v11 : Int32) (v12 : Int32) (v13 : Int32) (v14 : Int32) (s15 : am_S) : Option ((Int64 × Int32 × Int32 × Int32 × Int32 × am_S) ⊕ (Int32 × am_S)) :=
  am_if ((s15.1 16 3) ≤ v14) (am_bd (j_X11_chooseSaying_143 p2 v11 v12 v13 s15) (fun e47 => some (Sum.inr e47))) (am_bd (f_X8_hasStreet 16 p2 v14 s15) (fun v48 => am_if (v48 = 0) (j_X11_chooseSaying_61 a1 p2 (0 : Int32) w10 v11 v12 v13 v14 s15) (j_X11_chooseSaying_61 a1 p2 ((nI 2) * (s15.1 16 1)) w10 v11 v12 v13 v14 s15)))
def f_X11_chooseSaying (a1 : Nat) (p2 : Int32) (s0 : am_S) : Option (Int32 × am_S) :=
  am_gd (a1 ∈ am_isR) (am_lp (fun (q : Int64 × Int32 × Int32 × Int32 × Int32 × am_S) => b_X11_chooseSaying_14 a1 p2 q.1 q.2.1 q.2.2.1 q.2.2.2.1 q.2.2.2.2.1 q.2.2.2.2.2) am_F ((0 : Int64), (-1 : Int32), (0 : Int32), (0 : Int32), (0 : Int32), s0))
set_option maxRecDepth 100000 in
set_option maxHeartbeats 4000000 in
theorem t_X11_chooseSaying (a1 : Nat) (p2 : Int32) (s0 : am_S) {z : Int32 × am_S} (E : f_X11_chooseSaying a1 p2 s0 = some z) : AS yX11_chooseSaying cX11_chooseSaying 13 (some .boolean) 5 [.ref 0, .ref a1, .int p2] s0 (some (.int z.1)) z.2 := by
  unfold f_X11_chooseSaying at E
  obtain ⟨ma1, E⟩ := am_gdE E
  refine as_met (lv := [(0, .ref 0), (1, .ref a1), (2, .int p2)]) (by decide +kernel) (by simp [lg_sl, Value.category]) rfl (fun x C A Z => ?_)
  have K143 : ∀ (v3 : Int32) (v4 : Int32) (v5 : Int32) (s6 : am_S), j_X11_chooseSaying_143 p2 v3 v4 v5 s6 = some z → AX x 0 0 143 [(0, .ref 0), (1, .ref a1), (2, .int p2), (5, .int v3), (6, .int v4), (7, .int v5)] [] am_N (am_h s6) := by
    intro v3 v4 v5 s6 E
    unfold j_X11_chooseSaying_143 at E
    refine am_iload 143 C dX11_chooseSaying_143 3 rfl ?_
    refine am_iconst 145 (-1 : Int32) C dX11_chooseSaying_145 (by decide) ?_
    refine am_icmp_ne 146 151 C dX11_chooseSaying_146 (by decide) (fun c8 => ?_) (fun c8 => ?_)
    · have E := am_ifF E c8
      refine am_aload_n 151 C dX11_chooseSaying_151 rfl 0 rfl ?_
      refine am_aload_n 152 C dX11_chooseSaying_152 rfl 0 rfl ?_
      refine as_getr 153 C fl_X11_36_10 dX11_chooseSaying_153 (by decide) sh_0 (rf_0_8 _ _) ?_
      refine as_getr 156 C fl_X11_60_4 dX11_chooseSaying_156 (by decide) sh_15 (rf_15_1 _ _) ?_
      refine am_iload_n 159 C dX11_chooseSaying_159 rfl 2 rfl ?_
      refine am_iload 160 C dX11_chooseSaying_160 3 rfl ?_
      refine am_iload 162 C dX11_chooseSaying_162 4 rfl ?_
      refine am_iload 164 C dX11_chooseSaying_164 5 rfl ?_
      obtain ⟨s7, Ec, E⟩ := am_bdE E
      refine as_callV 166 (s2 := s7) (st := []) (st2 := []) [.ref 24, .int p2, .int v3, .int v4, .int v5] C A (by decide) ml_X11_237 yc_X11_prepare yv_X11_prepare (t_X11_prepare 24 p2 v3 v4 v5 s6 Ec) (by decide) sh_0 rfl rfl (Nat.le_of_ble_eq_true rfl) rfl dX11_chooseSaying_166 ?_
      refine am_iconst 169 (1 : Int32) C dX11_chooseSaying_169 (by decide) ?_
      replace E := Option.some.inj E
      subst E
      exact as_iret 170 C Z rfl dX11_chooseSaying_170
    · have E := am_ifT E c8
      refine am_iconst 149 (0 : Int32) C dX11_chooseSaying_149 (by decide) ?_
      replace E := Option.some.inj E
      subst E
      exact as_iret 150 C Z rfl dX11_chooseSaying_150
  refine am_lconst 0 (0 : Int64) C dX11_chooseSaying_0 (by decide) ?_
  refine am_lstore_n 1 (lv2 := [(3, .long (0 : Int64)), (0, .ref 0), (1, .ref a1), (2, .int p2)]) C dX11_chooseSaying_1 rfl (by decide) rfl ?_
  refine am_iconst 2 (-1 : Int32) C dX11_chooseSaying_2 (by decide) ?_
  refine am_istore 3 (lv2 := [(5, .int (-1 : Int32)), (3, .long (0 : Int64)), (0, .ref 0), (1, .ref a1), (2, .int p2)]) C dX11_chooseSaying_3 (by decide) rfl ?_
  refine am_iconst 5 (0 : Int32) C dX11_chooseSaying_5 (by decide) ?_
  refine am_istore 6 (lv2 := [(6, .int (0 : Int32)), (5, .int (-1 : Int32)), (3, .long (0 : Int64)), (0, .ref 0), (1, .ref a1), (2, .int p2)]) C dX11_chooseSaying_6 (by decide) rfl ?_
  refine am_iconst 8 (0 : Int32) C dX11_chooseSaying_8 (by decide) ?_
  refine am_istore 9 (lv2 := [(7, .int (0 : Int32)), (6, .int (0 : Int32)), (5, .int (-1 : Int32)), (3, .long (0 : Int64)), (0, .ref 0), (1, .ref a1), (2, .int p2)]) C dX11_chooseSaying_9 (by decide) rfl ?_
  refine am_iconst 11 (0 : Int32) C dX11_chooseSaying_11 (by decide) ?_
  refine am_istore 12 (lv2 := [(8, .int (0 : Int32)), (7, .int (0 : Int32)), (6, .int (0 : Int32)), (5, .int (-1 : Int32)), (3, .long (0 : Int64)), (0, .ref 0), (1, .ref a1), (2, .int p2)]) C dX11_chooseSaying_12 (by decide) rfl ?_
  have LP9 : ∀ (n : Nat) (w10 : Int64) (v11 : Int32) (v12 : Int32) (v13 : Int32) (v14 : Int32) (s15 : am_S), am_lp (fun (q : Int64 × Int32 × Int32 × Int32 × Int32 × am_S) => b_X11_chooseSaying_14 a1 p2 q.1 q.2.1 q.2.2.1 q.2.2.2.1 q.2.2.2.2.1 q.2.2.2.2.2) n (w10, v11, v12, v13, v14, s15) = some z → AX x 0 0 14 [(0, .ref 0), (1, .ref a1), (2, .int p2), (3, .long w10), (5, .int v11), (6, .int v12), (7, .int v13), (8, .int v14)] [] am_N (am_h s15) := by
    intro n
    induction n with
    | zero => intro w10 v11 v12 v13 v14 s15 E; exact (am_lp0 E).elim
    | succ n ih9 =>
      intro w10 v11 v12 v13 v14 s15 E
      obtain ⟨r9, E, Er9⟩ := am_lpE E
      replace E : b_X11_chooseSaying_14 a1 p2 w10 v11 v12 v13 v14 s15 = some r9 := E
      unfold b_X11_chooseSaying_14 at E
      have K137 : ∀ (w16 : Int64) (v17 : Int32) (v18 : Int32) (v19 : Int32) (v20 : Int32) (s21 : am_S), j_X11_chooseSaying_137 w16 v17 v18 v19 v20 s21 = some r9 → AX x 0 0 137 [(0, .ref 0), (1, .ref a1), (2, .int p2), (3, .long w16), (5, .int v17), (6, .int v18), (7, .int v19), (8, .int v20)] [] am_N (am_h s21) := by
        intro w16 v17 v18 v19 v20 s21 E
        unfold j_X11_chooseSaying_137 at E
        obtain ⟨v22, hv22, E⟩ := am_ltE E
        refine as_iinc 137 (q := (1 : Int32)) (lv2 := [(8, .int v22), (0, .ref 0), (1, .ref a1), (2, .int p2), (3, .long w16), (5, .int v17), (6, .int v18), (7, .int v19)]) C dX11_chooseSaying_137 7 rfl (by decide) hv22 (by decide) rfl ?_
        refine am_goto 140 14 C dX11_chooseSaying_140 (by decide) ?_
        replace E := Option.some.inj E
        replace E := am_exL E Er9
        refine am_lvs [1, 2, 3, 4, 5, 6, 7, 0] rfl ?_
        exact ih9 _ _ _ _ _ _ E
      have K61 : ∀ (v23 : Int32) (w24 : Int64) (v25 : Int32) (v26 : Int32) (v27 : Int32) (v28 : Int32) (s29 : am_S), j_X11_chooseSaying_61 a1 p2 v23 w24 v25 v26 v27 v28 s29 = some r9 → AX x 0 0 61 [(0, .ref 0), (1, .ref a1), (2, .int p2), (3, .long w24), (5, .int v25), (6, .int v26), (7, .int v27), (8, .int v28)] [.int v23] am_N (am_h s29) := by
        intro v23 w24 v25 v26 v27 v28 s29 E
        unfold j_X11_chooseSaying_61 at E
        refine am_istore 61 (lv2 := [(9, .int v23), (0, .ref 0), (1, .ref a1), (2, .int p2), (3, .long w24), (5, .int v25), (6, .int v26), (7, .int v27), (8, .int v28)]) C dX11_chooseSaying_61 (by decide) rfl ?_
        refine am_iconst 63 (0 : Int32) C dX11_chooseSaying_63 (by decide) ?_
        refine am_istore 64 (lv2 := [(10, .int (0 : Int32)), (9, .int v23), (0, .ref 0), (1, .ref a1), (2, .int p2), (3, .long w24), (5, .int v25), (6, .int v26), (7, .int v27), (8, .int v28)]) C dX11_chooseSaying_64 (by decide) rfl ?_
        have LP30 : ∀ (n : Nat) (w31 : Int64) (v32 : Int32) (v33 : Int32) (v34 : Int32) (v35 : Int32) (s36 : am_S), am_lp (fun (q : Int64 × Int32 × Int32 × Int32 × Int32 × am_S) => b_X11_chooseSaying_66 a1 p2 v23 v28 q.1 q.2.1 q.2.2.1 q.2.2.2.1 q.2.2.2.2.1 q.2.2.2.2.2) n (w31, v32, v33, v34, v35, s36) = some r9 → AX x 0 0 66 [(0, .ref 0), (1, .ref a1), (2, .int p2), (3, .long w31), (5, .int v32), (6, .int v33), (7, .int v34), (8, .int v28), (9, .int v23), (10, .int v35)] [] am_N (am_h s36) := by
          intro n
          induction n with
          | zero => intro w31 v32 v33 v34 v35 s36 E; exact (am_lp0 E).elim
          | succ n ih30 =>
            intro w31 v32 v33 v34 v35 s36 E
            obtain ⟨r30, E, Er30⟩ := am_lpE E
            replace E : b_X11_chooseSaying_66 a1 p2 v23 v28 w31 v32 v33 v34 v35 s36 = some r30 := E
            unfold b_X11_chooseSaying_66 at E
            refine am_iload 66 C dX11_chooseSaying_66 9 rfl ?_
            refine am_iload 68 C dX11_chooseSaying_68 8 rfl ?_
            refine am_icmp_ge 70 137 C dX11_chooseSaying_70 (by decide) (fun c46 => ?_) (fun c46 => ?_)
            · have E := am_ifT E c46
              obtain ⟨e37, E, E2⟩ := am_bdE E
              replace E2 := Option.some.inj E2
              replace E2 := am_exR E2 Er30
              rw [E2] at E
              refine am_lvs [0, 1, 2, 3, 4, 5, 6, 7] rfl ?_
              exact K137 _ _ _ _ _ _ E
            · have E := am_ifF E c46
              refine am_aload_n 73 C dX11_chooseSaying_73 rfl 0 rfl ?_
              refine am_aload_n 74 C dX11_chooseSaying_74 rfl 0 rfl ?_
              refine as_getr 75 C fl_X11_36_10 dX11_chooseSaying_75 (by decide) sh_0 (rf_0_8 _ _) ?_
              refine as_getr 78 C fl_X11_60_4 dX11_chooseSaying_78 (by decide) sh_15 (rf_15_1 _ _) ?_
              refine am_iload_n 81 C dX11_chooseSaying_81 rfl 2 rfl ?_
              refine am_iload 82 C dX11_chooseSaying_82 7 rfl ?_
              refine am_iload 84 C dX11_chooseSaying_84 9 rfl ?_
              refine am_iconst 86 (1 : Int32) C dX11_chooseSaying_86 (by decide) ?_
              refine am_ishr 87 C dX11_chooseSaying_87 ?_
              refine am_iload 88 C dX11_chooseSaying_88 9 rfl ?_
              refine am_iconst 90 (1 : Int32) C dX11_chooseSaying_90 (by decide) ?_
              refine am_iand 91 C dX11_chooseSaying_91 ?_
              obtain ⟨s38, Ec, E⟩ := am_bdE E
              refine as_callV 92 (s2 := s38) (st := []) (st2 := []) [.ref 24, .int p2, .int v28, .int (v35 >>> ((1 : Int32) &&& 31)), .int (v35 &&& (1 : Int32))] C A (by decide) ml_X11_237 yc_X11_prepare yv_X11_prepare (t_X11_prepare 24 p2 v28 (v35 >>> ((1 : Int32) &&& 31)) (v35 &&& (1 : Int32)) s36 Ec) (by decide) sh_0 rfl rfl (Nat.le_of_ble_eq_true rfl) rfl dX11_chooseSaying_92 ?_
              refine am_aload_n 95 C dX11_chooseSaying_95 rfl 1 rfl ?_
              refine am_aload_n 96 C dX11_chooseSaying_96 rfl 0 rfl ?_
              refine as_getr 97 C fl_X11_67_10 dX11_chooseSaying_97 (by decide) sh_0 (rf_0_12 _ _) ?_
              obtain ⟨w39, s40, Ec, E⟩ := am_b2E E
              refine as_callV 100 (s2 := s40) (st := []) (st2 := [.long w39]) [.ref 134] C A (by decide) ml_X11_280 yc_X3_scoreOf yv_X3_scoreOf (t_X3_scoreOf a1 s38 Ec) (iR_l0 _ ma1) (iR_sh _ ma1) rfl rfl (Nat.le_of_ble_eq_true rfl) rfl dX11_chooseSaying_100 ?_
              refine am_lstore 103 (lv2 := [(11, .long w39), (0, .ref 0), (1, .ref a1), (2, .int p2), (3, .long w31), (5, .int v32), (6, .int v33), (7, .int v34), (8, .int v28), (9, .int v23), (10, .int v35)]) C dX11_chooseSaying_103 (by decide) rfl ?_
              refine am_lload 105 C dX11_chooseSaying_105 0 rfl ?_
              refine am_lload_n 107 C dX11_chooseSaying_107 rfl 4 rfl ?_
              refine am_lcmp 108 C dX11_chooseSaying_108 ?_
              refine am_if_le 109 131 C dX11_chooseSaying_109 (by decide) (fun c45 => ?_) (fun c45 => ?_)
              · have E := am_ifT E c45
                obtain ⟨v41, hv41, E⟩ := am_ltE E
                refine as_iinc 131 (q := (1 : Int32)) (lv2 := [(10, .int v41), (11, .long w39), (0, .ref 0), (1, .ref a1), (2, .int p2), (3, .long w31), (5, .int v32), (6, .int v33), (7, .int v34), (8, .int v28), (9, .int v23)]) C dX11_chooseSaying_131 10 rfl (by decide) hv41 (by decide) rfl ?_
                refine am_goto 134 66 C dX11_chooseSaying_134 (by decide) ?_
                replace E := Option.some.inj E
                replace E := am_exL E Er30
                refine am_lvs [2, 3, 4, 5, 6, 7, 8, 9, 10, 0] rfl ?_
                exact ih30 _ _ _ _ _ _ E
              · have E := am_ifF E c45
                refine am_lload 112 C dX11_chooseSaying_112 0 rfl ?_
                refine am_lstore_n 114 (lv2 := [(3, .long w39), (11, .long w39), (0, .ref 0), (1, .ref a1), (2, .int p2), (5, .int v32), (6, .int v33), (7, .int v34), (8, .int v28), (9, .int v23), (10, .int v35)]) C dX11_chooseSaying_114 rfl (by decide) rfl ?_
                refine am_iload 115 C dX11_chooseSaying_115 8 rfl ?_
                refine am_istore 117 (lv2 := [(5, .int v28), (3, .long w39), (11, .long w39), (0, .ref 0), (1, .ref a1), (2, .int p2), (6, .int v33), (7, .int v34), (8, .int v28), (9, .int v23), (10, .int v35)]) C dX11_chooseSaying_117 (by decide) rfl ?_
                refine am_iload 119 C dX11_chooseSaying_119 10 rfl ?_
                refine am_iconst 121 (1 : Int32) C dX11_chooseSaying_121 (by decide) ?_
                refine am_ishr 122 C dX11_chooseSaying_122 ?_
                obtain ⟨v42, hv42, E⟩ := am_ltE E
                refine as_nm hv42 ?_
                refine am_istore 123 (lv2 := [(6, .int v42), (5, .int v28), (3, .long w39), (11, .long w39), (0, .ref 0), (1, .ref a1), (2, .int p2), (7, .int v34), (8, .int v28), (9, .int v23), (10, .int v35)]) C dX11_chooseSaying_123 (by decide) rfl ?_
                refine am_iload 125 C dX11_chooseSaying_125 10 rfl ?_
                refine am_iconst 127 (1 : Int32) C dX11_chooseSaying_127 (by decide) ?_
                refine am_iand 128 C dX11_chooseSaying_128 ?_
                obtain ⟨v43, hv43, E⟩ := am_ltE E
                refine as_nm hv43 ?_
                refine am_istore 129 (lv2 := [(7, .int v43), (6, .int v42), (5, .int v28), (3, .long w39), (11, .long w39), (0, .ref 0), (1, .ref a1), (2, .int p2), (8, .int v28), (9, .int v23), (10, .int v35)]) C dX11_chooseSaying_129 (by decide) rfl ?_
                obtain ⟨v44, hv44, E⟩ := am_ltE E
                refine as_iinc 131 (q := (1 : Int32)) (lv2 := [(10, .int v44), (7, .int v43), (6, .int v42), (5, .int v28), (3, .long w39), (11, .long w39), (0, .ref 0), (1, .ref a1), (2, .int p2), (8, .int v28), (9, .int v23)]) C dX11_chooseSaying_131 10 rfl (by decide) hv44 (by decide) rfl ?_
                refine am_goto 134 66 C dX11_chooseSaying_134 (by decide) ?_
                replace E := Option.some.inj E
                replace E := am_exL E Er30
                refine am_lvs [6, 7, 8, 4, 3, 2, 1, 9, 10, 0] rfl ?_
                exact ih30 _ _ _ _ _ _ E
        refine am_lvs [2, 3, 4, 5, 6, 7, 8, 9, 1, 0] rfl ?_
        exact LP30 am_F _ _ _ _ _ _ E
      refine am_iload 14 C dX11_chooseSaying_14 7 rfl ?_
      refine am_aload_n 16 C dX11_chooseSaying_16 rfl 0 rfl ?_
      refine as_getr 17 C fl_X11_36_10 dX11_chooseSaying_17 (by decide) sh_0 (rf_0_8 _ _) ?_
      refine as_getr 20 C fl_X11_57_4 dX11_chooseSaying_20 (by decide) sh_15 (rf_15_0 _ _) ?_
      refine as_geti 23 C fl_X11_135_7 dX11_chooseSaying_23 (by decide) sh_16 ?_
      refine am_icmp_ge 26 143 C dX11_chooseSaying_26 (by decide) (fun c50 => ?_) (fun c50 => ?_)
      · have E := am_ifT E c50
        obtain ⟨e47, E, E2⟩ := am_bdE E
        replace E2 := Option.some.inj E2
        replace E2 := am_exR E2 Er9
        rw [E2] at E
        refine am_lvs [0, 1, 2, 4, 5, 6] rfl ?_
        exact K143 _ _ _ _ E
      · have E := am_ifF E c50
        refine am_aload_n 29 C dX11_chooseSaying_29 rfl 0 rfl ?_
        refine as_getr 30 C fl_X11_36_10 dX11_chooseSaying_30 (by decide) sh_0 (rf_0_8 _ _) ?_
        refine as_getr 33 C fl_X11_57_4 dX11_chooseSaying_33 (by decide) sh_15 (rf_15_0 _ _) ?_
        refine am_iload_n 36 C dX11_chooseSaying_36 rfl 2 rfl ?_
        refine am_iload 37 C dX11_chooseSaying_37 7 rfl ?_
        obtain ⟨v48, Ec, E⟩ := am_bdE E
        refine as_callV 39 (s2 := s15) (st := []) (st2 := [.int v48]) [.int p2, .int v14] C A (by decide) ml_X11_248 yc_X8_hasStreet yv_X8_hasStreet (t_X8_hasStreet 16 p2 v14 s15 Ec) (by decide) sh_16 rfl rfl (Nat.le_of_ble_eq_true rfl) rfl dX11_chooseSaying_39 ?_
        refine am_if_eq 42 60 C dX11_chooseSaying_42 (by decide) (fun c49 => ?_) (fun c49 => ?_)
        · have E := am_ifT E c49
          refine am_iconst 60 (0 : Int32) C dX11_chooseSaying_60 (by decide) ?_
          refine am_lvs [0, 1, 2, 3, 4, 5, 6, 7] rfl ?_
          exact K61 _ _ _ _ _ _ _ E
        · have E := am_ifF E c49
          refine am_iconst 45 (nI 2) C dX11_chooseSaying_45 (by decide) ?_
          refine am_aload_n 46 C dX11_chooseSaying_46 rfl 0 rfl ?_
          refine as_getr 47 C fl_X11_36_10 dX11_chooseSaying_47 (by decide) sh_0 (rf_0_8 _ _) ?_
          refine as_getr 50 C fl_X11_57_4 dX11_chooseSaying_50 (by decide) sh_15 (rf_15_0 _ _) ?_
          refine as_geti 53 C fl_X11_194_7 dX11_chooseSaying_53 (by decide) sh_16 ?_
          refine am_imul 56 C dX11_chooseSaying_56 ?_
          refine am_goto 57 61 C dX11_chooseSaying_57 (by decide) ?_
          refine am_lvs [0, 1, 2, 3, 4, 5, 6, 7] rfl ?_
          exact K61 _ _ _ _ _ _ _ E
  refine am_lvs [5, 6, 7, 4, 3, 2, 1, 0] rfl ?_
  exact LP9 am_F _ _ _ _ _ _ E
def j_X11_liveHour_47 (v2 : Int32) (s3 : am_S) : Option (Int32 × am_S) :=
  am_if ((s3.1 24 5) < (nI 23)) (am_lt (as_i s3 24 5 ((s3.1 24 5) + (1 : Int32))) (fun s4 => some (v2, s4))) (am_bd (f_X2_beginDay 24 s3) (fun s5 => some (v2, s5)))
def f_X11_liveHour (a1 : Nat) (s0 : am_S) : Option (Int32 × am_S) :=
  am_gd (a1 ∈ am_isR) (am_lt (s0.1 16 3) (fun v7 => am_if (v7 = 0) (some ((0 : Int32), s0)) (am_gd (¬ v7 = 0) (am_b2 (f_X11_chooseSaying a1 ((s0.1 24 5) - (s0.1 24 5) / v7 * v7) s0) (fun v9 s10 => am_if (v9 = 0) (j_X11_liveHour_47 (0 : Int32) s10) (am_b2 (f_X11_speak s10) (fun v11 s12 => j_X11_liveHour_47 v11 s12)))))))
set_option maxRecDepth 100000 in
set_option maxHeartbeats 4000000 in
theorem t_X11_liveHour (a1 : Nat) (s0 : am_S) {z : Int32 × am_S} (E : f_X11_liveHour a1 s0 = some z) : AS yX11_liveHour cX11_liveHour 5 (some .int) 7 [.ref 0, .ref a1] s0 (some (.int z.1)) z.2 := by
  unfold f_X11_liveHour at E
  obtain ⟨ma1, E⟩ := am_gdE E
  refine as_met (lv := [(0, .ref 0), (1, .ref a1)]) (by decide +kernel) (by simp [lg_sl, Value.category]) rfl (fun x C A Z => ?_)
  have K47 : ∀ (v2 : Int32) (s3 : am_S), j_X11_liveHour_47 v2 s3 = some z → AX x 0 0 47 [(0, .ref 0), (1, .ref a1)] [.int v2] am_N (am_h s3) := by
    intro v2 s3 E
    unfold j_X11_liveHour_47 at E
    refine am_istore 47 (lv2 := [(4, .int v2), (0, .ref 0), (1, .ref a1)]) C dX11_liveHour_47 (by decide) rfl ?_
    refine am_aload_n 49 C dX11_liveHour_49 rfl 1 rfl ?_
    refine as_getr 50 C fl_X11_36_10 dX11_liveHour_50 (by decide) sh_0 (rf_0_8 _ _) ?_
    refine as_getr 53 C fl_X11_60_4 dX11_liveHour_53 (by decide) sh_15 (rf_15_1 _ _) ?_
    refine as_geti 56 C fl_X11_206_1 dX11_liveHour_56 (by decide) sh_24 ?_
    refine am_bipush 59 (nI 23) C dX11_liveHour_59 (by decide) ?_
    refine am_icmp_lt 61 84 C dX11_liveHour_61 (by decide) (fun c6 => ?_) (fun c6 => ?_)
    · have E := am_ifT E c6
      refine am_aload_n 84 C dX11_liveHour_84 rfl 1 rfl ?_
      refine as_getr 85 C fl_X11_36_10 dX11_liveHour_85 (by decide) sh_0 (rf_0_8 _ _) ?_
      refine as_getr 88 C fl_X11_60_4 dX11_liveHour_88 (by decide) sh_15 (rf_15_1 _ _) ?_
      refine am_dup 91 C dX11_liveHour_91 rfl ?_
      refine as_geti 92 C fl_X11_206_1 dX11_liveHour_92 (by decide) sh_24 ?_
      refine am_iconst 95 (1 : Int32) C dX11_liveHour_95 (by decide) ?_
      refine am_iadd 96 C dX11_liveHour_96 ?_
      obtain ⟨s4, hs4, E⟩ := am_ltE E
      refine as_puti 97 C fl_X11_206_1 dX11_liveHour_97 (by decide) sh_24 rfl rfl hs4 ?_
      refine am_iload 100 C dX11_liveHour_100 0 rfl ?_
      replace E := Option.some.inj E
      subst E
      exact as_iret 102 C Z rfl dX11_liveHour_102
    · have E := am_ifF E c6
      refine am_aload_n 64 C dX11_liveHour_64 rfl 1 rfl ?_
      refine as_getr 65 C fl_X11_36_10 dX11_liveHour_65 (by decide) sh_0 (rf_0_8 _ _) ?_
      refine as_getr 68 C fl_X11_60_4 dX11_liveHour_68 (by decide) sh_15 (rf_15_1 _ _) ?_
      refine am_aload_n 71 C dX11_liveHour_71 rfl 1 rfl ?_
      refine as_getr 72 C fl_X11_36_10 dX11_liveHour_72 (by decide) sh_0 (rf_0_8 _ _) ?_
      refine as_getr 75 C fl_X11_57_4 dX11_liveHour_75 (by decide) sh_15 (rf_15_0 _ _) ?_
      obtain ⟨s5, Ec, E⟩ := am_bdE E
      refine as_callV 78 (s2 := s5) (st := []) (st2 := []) [.ref 16] C A (by decide) ml_X11_266 yc_X2_beginDay yv_X2_beginDay (t_X2_beginDay 24 s3 Ec) (by decide) sh_24 rfl rfl (Nat.le_of_ble_eq_true rfl) rfl dX11_liveHour_78 ?_
      refine am_goto 81 100 C dX11_liveHour_81 (by decide) ?_
      refine am_iload 100 C dX11_liveHour_100 0 rfl ?_
      replace E := Option.some.inj E
      subst E
      exact as_iret 102 C Z rfl dX11_liveHour_102
  refine am_aload_n 0 C dX11_liveHour_0 rfl 0 rfl ?_
  refine as_getr 1 C fl_X11_36_10 dX11_liveHour_1 (by decide) sh_0 (rf_0_8 _ _) ?_
  refine as_getr 4 C fl_X11_57_4 dX11_liveHour_4 (by decide) sh_15 (rf_15_0 _ _) ?_
  refine as_geti 7 C fl_X11_135_7 dX11_liveHour_7 (by decide) sh_16 ?_
  obtain ⟨v7, hv7, E⟩ := am_ltE E
  refine as_nm hv7 ?_
  refine am_istore_n 10 (lv2 := [(2, .int v7), (0, .ref 0), (1, .ref a1)]) C dX11_liveHour_10 rfl (by decide) rfl ?_
  refine am_iload_n 11 C dX11_liveHour_11 rfl 0 rfl ?_
  refine am_if_ne 12 17 C dX11_liveHour_12 (by decide) (fun c14 => ?_) (fun c14 => ?_)
  · have E := am_ifF E c14
    refine am_aload_n 17 C dX11_liveHour_17 rfl 1 rfl ?_
    refine am_aload_n 18 C dX11_liveHour_18 rfl 2 rfl ?_
    refine am_aload_n 19 C dX11_liveHour_19 rfl 1 rfl ?_
    refine as_getr 20 C fl_X11_36_10 dX11_liveHour_20 (by decide) sh_0 (rf_0_8 _ _) ?_
    refine as_getr 23 C fl_X11_60_4 dX11_liveHour_23 (by decide) sh_15 (rf_15_1 _ _) ?_
    refine as_geti 26 C fl_X11_206_1 dX11_liveHour_26 (by decide) sh_24 ?_
    refine am_iload_n 29 C dX11_liveHour_29 rfl 0 rfl ?_
    obtain ⟨g8, E⟩ := am_gdE E
    refine am_irem 30 C dX11_liveHour_30 g8 ?_
    obtain ⟨v9, s10, Ec, E⟩ := am_b2E E
    refine as_callV 31 (s2 := s10) (st := []) (st2 := [.int v9]) [.ref a1, .int ((s0.1 24 5) - (s0.1 24 5) / v7 * v7)] C A (by decide) ml_X11_276 yc_X11_chooseSaying yv_X11_chooseSaying (t_X11_chooseSaying a1 ((s0.1 24 5) - (s0.1 24 5) / v7 * v7) s0 Ec) (by decide) sh_0 rfl rfl (Nat.le_of_ble_eq_true rfl) rfl dX11_liveHour_31 ?_
    refine am_istore_n 34 (lv2 := [(3, .int v9), (2, .int v7), (0, .ref 0), (1, .ref a1)]) C dX11_liveHour_34 rfl (by decide) rfl ?_
    refine am_iload_n 35 C dX11_liveHour_35 rfl 0 rfl ?_
    refine am_if_eq 36 46 C dX11_liveHour_36 (by decide) (fun c13 => ?_) (fun c13 => ?_)
    · have E := am_ifT E c13
      refine am_iconst 46 (0 : Int32) C dX11_liveHour_46 (by decide) ?_
      refine am_lvs [2, 3] rfl ?_
      exact K47 _ _ E
    · have E := am_ifF E c13
      refine am_aload_n 39 C dX11_liveHour_39 rfl 2 rfl ?_
      obtain ⟨v11, s12, Ec, E⟩ := am_b2E E
      refine as_callV 40 (s2 := s12) (st := []) (st2 := [.int v11]) [] C A (by decide) ml_X11_241 yc_X11_speak yv_X11_speak (t_X11_speak  s10 Ec) (by decide) sh_0 rfl rfl (Nat.le_of_ble_eq_true rfl) rfl dX11_liveHour_40 ?_
      refine am_goto 43 47 C dX11_liveHour_43 (by decide) ?_
      refine am_lvs [2, 3] rfl ?_
      exact K47 _ _ E
  · have E := am_ifT E c14
    refine am_iconst 15 (0 : Int32) C dX11_liveHour_15 (by decide) ?_
    replace E := Option.some.inj E
    subst E
    exact as_iret 16 C Z rfl dX11_liveHour_16
def b_X11_run_80 (p1 : Int32) (p2 : Int32) (v6 : Int32) (v7 : Int32) (s8 : am_S) : Option ((Int32 × Int32 × am_S) ⊕ (Int32 × am_S)) :=
  am_if (p2 ≤ v7) (some (Sum.inr (v6, s8))) (am_gd (¬ p1 < 0 ∧ (p1).toNatClampNeg < 6) (am_lt (144 + 7 * (p1).toNatClampNeg) (fun q10 => am_b2 (f_X11_liveHour q10 s8) (fun v11 s12 => am_lt (v6 + v11) (fun v13 => am_lt (v7 + (1 : Int32)) (fun v14 => some (Sum.inl (v13, v14, s12))))))))
def f_X11_run (p1 : Int32) (p2 : Int32) (s0 : am_S) : Option (Int32 × am_S) :=
  am_if ((s0.1 16 3) = 0) (some ((-1 : Int32), s0)) (am_bd (f_X11_hasRule p1 s0) (fun v3 => am_if (v3 = 0) (some ((-1 : Int32), s0)) (am_if (p2 < (1 : Int32)) (some ((-1 : Int32), s0)) (am_if (p2 ≤ (nI 96)) (am_if (((s0.1 24 4) + (((s0.1 24 5) + p2) / (nI 24))) ≤ (nI 9999)) (am_bd (f_X0_forget s0) (fun s4 => am_lp (fun (q : Int32 × Int32 × am_S) => b_X11_run_80 p1 p2 q.1 q.2.1 q.2.2) am_F ((0 : Int32), (0 : Int32), s4))) (some ((-1 : Int32), s0))) (some ((-1 : Int32), s0))))))
set_option maxRecDepth 100000 in
set_option maxHeartbeats 4000000 in
theorem t_X11_run (p1 : Int32) (p2 : Int32) (s0 : am_S) {z : Int32 × am_S} (E : f_X11_run p1 p2 s0 = some z) : AS yX11_run cX11_run 5 (some .int) 8 [.ref 0, .int p1, .int p2] s0 (some (.int z.1)) z.2 := by
  unfold f_X11_run at E
  refine as_met (lv := [(0, .ref 0), (1, .int p1), (2, .int p2)]) (by decide +kernel) (by simp [lg_sl, Value.category]) rfl (fun x C A Z => ?_)
  refine am_aload_n 0 C dX11_run_0 rfl 0 rfl ?_
  refine as_getr 1 C fl_X11_36_10 dX11_run_1 (by decide) sh_0 (rf_0_8 _ _) ?_
  refine as_getr 4 C fl_X11_57_4 dX11_run_4 (by decide) sh_15 (rf_15_0 _ _) ?_
  refine as_geti 7 C fl_X11_135_7 dX11_run_7 (by decide) sh_16 ?_
  refine am_if_eq 10 32 C dX11_run_10 (by decide) (fun c20 => ?_) (fun c20 => ?_)
  · have E := am_ifT E c20
    refine am_iconst 32 (-1 : Int32) C dX11_run_32 (by decide) ?_
    replace E := Option.some.inj E
    subst E
    exact as_iret 33 C Z rfl dX11_run_33
  · have E := am_ifF E c20
    refine am_aload_n 13 C dX11_run_13 rfl 0 rfl ?_
    refine am_iload_n 14 C dX11_run_14 rfl 1 rfl ?_
    obtain ⟨v3, Ec, E⟩ := am_bdE E
    refine as_callV 15 (s2 := s0) (st := []) (st2 := [.int v3]) [.int p1] C A (by decide) ml_X11_145 yc_X11_hasRule yv_X11_hasRule (t_X11_hasRule p1 s0 Ec) (by decide) sh_0 rfl rfl (Nat.le_of_ble_eq_true rfl) rfl dX11_run_15 ?_
    refine am_if_eq 18 32 C dX11_run_18 (by decide) (fun c19 => ?_) (fun c19 => ?_)
    · have E := am_ifT E c19
      refine am_iconst 32 (-1 : Int32) C dX11_run_32 (by decide) ?_
      replace E := Option.some.inj E
      subst E
      exact as_iret 33 C Z rfl dX11_run_33
    · have E := am_ifF E c19
      refine am_iload_n 21 C dX11_run_21 rfl 2 rfl ?_
      refine am_iconst 22 (1 : Int32) C dX11_run_22 (by decide) ?_
      refine am_icmp_lt 23 32 C dX11_run_23 (by decide) (fun c18 => ?_) (fun c18 => ?_)
      · have E := am_ifT E c18
        refine am_iconst 32 (-1 : Int32) C dX11_run_32 (by decide) ?_
        replace E := Option.some.inj E
        subst E
        exact as_iret 33 C Z rfl dX11_run_33
      · have E := am_ifF E c18
        refine am_iload_n 26 C dX11_run_26 rfl 2 rfl ?_
        refine am_bipush 27 (nI 96) C dX11_run_27 (by decide) ?_
        refine am_icmp_le 29 34 C dX11_run_29 (by decide) (fun c17 => ?_) (fun c17 => ?_)
        · have E := am_ifT E c17
          refine am_aload_n 34 C dX11_run_34 rfl 0 rfl ?_
          refine as_getr 35 C fl_X11_36_10 dX11_run_35 (by decide) sh_0 (rf_0_8 _ _) ?_
          refine as_getr 38 C fl_X11_60_4 dX11_run_38 (by decide) sh_15 (rf_15_1 _ _) ?_
          refine as_geti 41 C fl_X11_203_1 dX11_run_41 (by decide) sh_24 ?_
          refine am_aload_n 44 C dX11_run_44 rfl 0 rfl ?_
          refine as_getr 45 C fl_X11_36_10 dX11_run_45 (by decide) sh_0 (rf_0_8 _ _) ?_
          refine as_getr 48 C fl_X11_60_4 dX11_run_48 (by decide) sh_15 (rf_15_1 _ _) ?_
          refine as_geti 51 C fl_X11_206_1 dX11_run_51 (by decide) sh_24 ?_
          refine am_iload_n 54 C dX11_run_54 rfl 2 rfl ?_
          refine am_iadd 55 C dX11_run_55 ?_
          refine am_bipush 56 (nI 24) C dX11_run_56 (by decide) ?_
          refine am_idiv 58 C dX11_run_58 (by decide) ?_
          refine am_iadd 59 C dX11_run_59 ?_
          refine am_sipush 60 (nI 9999) C dX11_run_60 (by decide) ?_
          refine am_icmp_le 63 68 C dX11_run_63 (by decide) (fun c16 => ?_) (fun c16 => ?_)
          · have E := am_ifT E c16
            refine am_aload_n 68 C dX11_run_68 rfl 0 rfl ?_
            refine as_getr 69 C fl_X11_51_10 dX11_run_69 (by decide) sh_0 (rf_0_11 _ _) ?_
            obtain ⟨s4, Ec, E⟩ := am_bdE E
            refine as_callV 72 (s2 := s4) (st := []) (st2 := []) [] C A (by decide) ml_X11_132 yc_X0_forget yv_X0_forget (t_X0_forget  s0 Ec) (by decide) sh_32 rfl rfl (Nat.le_of_ble_eq_true rfl) rfl dX11_run_72 ?_
            refine am_iconst 75 (0 : Int32) C dX11_run_75 (by decide) ?_
            refine am_istore_n 76 (lv2 := [(3, .int (0 : Int32)), (0, .ref 0), (1, .int p1), (2, .int p2)]) C dX11_run_76 rfl (by decide) rfl ?_
            refine am_iconst 77 (0 : Int32) C dX11_run_77 (by decide) ?_
            refine am_istore 78 (lv2 := [(4, .int (0 : Int32)), (3, .int (0 : Int32)), (0, .ref 0), (1, .int p1), (2, .int p2)]) C dX11_run_78 (by decide) rfl ?_
            have LP5 : ∀ (n : Nat) (v6 : Int32) (v7 : Int32) (s8 : am_S), am_lp (fun (q : Int32 × Int32 × am_S) => b_X11_run_80 p1 p2 q.1 q.2.1 q.2.2) n (v6, v7, s8) = some z → AX x 0 0 80 [(0, .ref 0), (1, .int p1), (2, .int p2), (3, .int v6), (4, .int v7)] [] am_N (am_h s8) := by
              intro n
              induction n with
              | zero => intro v6 v7 s8 E; exact (am_lp0 E).elim
              | succ n ih5 =>
                intro v6 v7 s8 E
                obtain ⟨r5, E, Er5⟩ := am_lpE E
                replace E : b_X11_run_80 p1 p2 v6 v7 s8 = some r5 := E
                unfold b_X11_run_80 at E
                refine am_iload 80 C dX11_run_80 4 rfl ?_
                refine am_iload_n 82 C dX11_run_82 rfl 2 rfl ?_
                refine am_icmp_ge 83 105 C dX11_run_83 (by decide) (fun c15 => ?_) (fun c15 => ?_)
                · have E := am_ifT E c15
                  refine am_iload_n 105 C dX11_run_105 rfl 3 rfl ?_
                  replace E := Option.some.inj E
                  replace E := am_exR E Er5
                  subst E
                  exact as_iret 106 C Z rfl dX11_run_106
                · have E := am_ifF E c15
                  refine am_iload_n 86 C dX11_run_86 rfl 3 rfl ?_
                  refine am_aload_n 87 C dX11_run_87 rfl 0 rfl ?_
                  refine am_aload_n 88 C dX11_run_88 rfl 0 rfl ?_
                  refine as_getr 89 C fl_X11_29_10 dX11_run_89 (by decide) sh_0 (rf_0_4 _ _) ?_
                  refine am_iload_n 92 C dX11_run_92 rfl 1 rfl ?_
                  obtain ⟨g9, E⟩ := am_gdE E
                  refine as_aald 93 (q := 144 + 7 * (p1).toNatClampNeg) C dX11_run_93 (by decide) sh_14 (by decide) g9 (fun t u => ra_14 t u _ (g9).2) ?_
                  obtain ⟨q10, hq10, E⟩ := am_ltE E
                  refine as_nmr hq10 ?_
                  have mq10 : q10 ∈ am_isR := by rw [hq10]; exact rb_14 _ (g9).2
                  obtain ⟨v11, s12, Ec, E⟩ := am_b2E E
                  refine as_callV 94 (s2 := s12) (st := [.int v6]) (st2 := [.int v11, .int v6]) [.ref q10] C A (by decide) ml_X11_272 yc_X11_liveHour yv_X11_liveHour (t_X11_liveHour q10 s8 Ec) (by decide) sh_0 rfl rfl (Nat.le_of_ble_eq_true rfl) rfl dX11_run_94 ?_
                  refine am_iadd 97 C dX11_run_97 ?_
                  obtain ⟨v13, hv13, E⟩ := am_ltE E
                  refine as_nm hv13 ?_
                  refine am_istore_n 98 (lv2 := [(3, .int v13), (0, .ref 0), (1, .int p1), (2, .int p2), (4, .int v7)]) C dX11_run_98 rfl (by decide) rfl ?_
                  obtain ⟨v14, hv14, E⟩ := am_ltE E
                  refine as_iinc 99 (q := (1 : Int32)) (lv2 := [(4, .int v14), (3, .int v13), (0, .ref 0), (1, .int p1), (2, .int p2)]) C dX11_run_99 4 rfl (by decide) hv14 (by decide) rfl ?_
                  refine am_goto 102 80 C dX11_run_102 (by decide) ?_
                  replace E := Option.some.inj E
                  replace E := am_exL E Er5
                  refine am_lvs [2, 3, 4, 1, 0] rfl ?_
                  exact ih5 _ _ _ E
            refine am_lvs [2, 3, 4, 1, 0] rfl ?_
            exact LP5 am_F _ _ _ E
          · have E := am_ifF E c16
            refine am_iconst 66 (-1 : Int32) C dX11_run_66 (by decide) ?_
            replace E := Option.some.inj E
            subst E
            exact as_iret 67 C Z rfl dX11_run_67
        · have E := am_ifF E c17
          refine am_iconst 32 (-1 : Int32) C dX11_run_32 (by decide) ?_
          replace E := Option.some.inj E
          subst E
          exact as_iret 33 C Z rfl dX11_run_33
def f_X11_breach (p1 : Int32) (s0 : am_S) : Option (Int32) :=
  am_if ((s0.1 16 0) = 0) (some (-1 : Int32)) (am_bd (f_X11_isBit p1) (fun v2 => am_if (v2 = 0) (some (-1 : Int32)) (am_if ((s0.1 24 7) = (-1 : Int32)) (some (-2 : Int32)) (am_if (p1 = 0) (some (s0.1 24 6)) (some (s0.1 24 7))))))
set_option maxRecDepth 100000 in
set_option maxHeartbeats 4000000 in
theorem t_X11_breach (p1 : Int32) (s0 : am_S) {z : Int32} (E : f_X11_breach p1 s0 = some z) : AS yX11_breach cX11_breach 2 (some .int) 2 [.ref 0, .int p1] s0 (some (.int z)) s0 := by
  unfold f_X11_breach at E
  refine as_met (lv := [(0, .ref 0), (1, .int p1)]) (by decide +kernel) (by simp [lg_sl, Value.category]) rfl (fun x C A Z => ?_)
  refine am_aload_n 0 C dX11_breach_0 rfl 0 rfl ?_
  refine as_getr 1 C fl_X11_36_10 dX11_breach_1 (by decide) sh_0 (rf_0_8 _ _) ?_
  refine as_getr 4 C fl_X11_57_4 dX11_breach_4 (by decide) sh_15 (rf_15_0 _ _) ?_
  refine as_geti 7 C fl_X11_262_7 dX11_breach_7 (by decide) sh_16 ?_
  refine am_if_eq 10 20 C dX11_breach_10 (by decide) (fun c6 => ?_) (fun c6 => ?_)
  · have E := am_ifT E c6
    refine am_iconst 20 (-1 : Int32) C dX11_breach_20 (by decide) ?_
    replace E := Option.some.inj E
    subst E
    exact as_iret 21 C Z rfl dX11_breach_21
  · have E := am_ifF E c6
    refine am_iload_n 13 C dX11_breach_13 rfl 1 rfl ?_
    obtain ⟨v2, Ec, E⟩ := am_bdE E
    refine as_callS 14 (s2 := s0) (st := []) (st2 := [.int v2]) [.int p1] C A (by decide) ml_X11_284 yc_X11_isBit ys_X11_isBit (t_X11_isBit p1 s0 Ec) rfl rfl (Nat.le_of_ble_eq_true rfl) rfl dX11_breach_14 ?_
    refine am_if_ne 17 22 C dX11_breach_17 (by decide) (fun c5 => ?_) (fun c5 => ?_)
    · have E := am_ifF E c5
      refine am_aload_n 22 C dX11_breach_22 rfl 0 rfl ?_
      refine as_getr 23 C fl_X11_36_10 dX11_breach_23 (by decide) sh_0 (rf_0_8 _ _) ?_
      refine as_getr 26 C fl_X11_60_4 dX11_breach_26 (by decide) sh_15 (rf_15_1 _ _) ?_
      refine as_geti 29 C fl_X11_317_1 dX11_breach_29 (by decide) sh_24 ?_
      refine am_iconst 32 (-1 : Int32) C dX11_breach_32 (by decide) ?_
      refine am_icmp_ne 33 39 C dX11_breach_33 (by decide) (fun c4 => ?_) (fun c4 => ?_)
      · have E := am_ifF E c4
        refine am_iload_n 39 C dX11_breach_39 rfl 1 rfl ?_
        refine am_if_ne 40 56 C dX11_breach_40 (by decide) (fun c3 => ?_) (fun c3 => ?_)
        · have E := am_ifF E c3
          refine am_aload_n 56 C dX11_breach_56 rfl 0 rfl ?_
          refine as_getr 57 C fl_X11_36_10 dX11_breach_57 (by decide) sh_0 (rf_0_8 _ _) ?_
          refine as_getr 60 C fl_X11_60_4 dX11_breach_60 (by decide) sh_15 (rf_15_1 _ _) ?_
          refine as_geti 63 C fl_X11_317_1 dX11_breach_63 (by decide) sh_24 ?_
          replace E := Option.some.inj E
          subst E
          exact as_iret 66 C Z rfl dX11_breach_66
        · have E := am_ifT E c3
          refine am_aload_n 43 C dX11_breach_43 rfl 0 rfl ?_
          refine as_getr 44 C fl_X11_36_10 dX11_breach_44 (by decide) sh_0 (rf_0_8 _ _) ?_
          refine as_getr 47 C fl_X11_60_4 dX11_breach_47 (by decide) sh_15 (rf_15_1 _ _) ?_
          refine as_geti 50 C fl_X11_320_1 dX11_breach_50 (by decide) sh_24 ?_
          refine am_goto 53 66 C dX11_breach_53 (by decide) ?_
          replace E := Option.some.inj E
          subst E
          exact as_iret 66 C Z rfl dX11_breach_66
      · have E := am_ifT E c4
        refine am_bipush 36 (-2 : Int32) C dX11_breach_36 (by decide) ?_
        replace E := Option.some.inj E
        subst E
        exact as_iret 38 C Z rfl dX11_breach_38
    · have E := am_ifT E c5
      refine am_iconst 20 (-1 : Int32) C dX11_breach_20 (by decide) ?_
      replace E := Option.some.inj E
      subst E
      exact as_iret 21 C Z rfl dX11_breach_21
def f_J6_bitCount_0f7a4 (p1 : Int32) : Option (Int32) :=
  am_lt (p1 - (((p1).toUInt32 >>> (((1 : Int32)).toUInt32 &&& Int32.toUInt32 31)).toInt32 &&& (nI 1431655765))) (fun v2 => am_lt ((v2 &&& (nI 858993459)) + (((v2).toUInt32 >>> (((nI 2)).toUInt32 &&& Int32.toUInt32 31)).toInt32 &&& (nI 858993459))) (fun v3 => am_lt ((v3 + ((v3).toUInt32 >>> (((nI 4)).toUInt32 &&& Int32.toUInt32 31)).toInt32) &&& (nI 252645135)) (fun v4 => am_lt (v4 + ((v4).toUInt32 >>> (((nI 8)).toUInt32 &&& Int32.toUInt32 31)).toInt32) (fun v5 => am_lt (v5 + ((v5).toUInt32 >>> (((nI 16)).toUInt32 &&& Int32.toUInt32 31)).toInt32) (fun v6 => some (v6 &&& (nI 63)))))))
set_option maxRecDepth 100000 in
set_option maxHeartbeats 4000000 in
theorem t_J6_bitCount_0f7a4 (p1 : Int32) (s0 : am_S) {z : Int32} (E : f_J6_bitCount_0f7a4 p1 = some z) : AS yJ6_bitCount_0f7a4 cJ6_bitCount_0f7a4 1 (some .int) 1 [.int p1] s0 (some (.int z)) s0 := by
  unfold f_J6_bitCount_0f7a4 at E
  refine as_met (lv := [(0, .int p1)]) (by decide +kernel) (by simp [lg_sl, Value.category]) rfl (fun x C A Z => ?_)
  refine am_iload_n 0 C dJ6_bitCount_0f7a4_0 rfl 0 rfl ?_
  refine am_iload_n 1 C dJ6_bitCount_0f7a4_1 rfl 0 rfl ?_
  refine am_iconst 2 (1 : Int32) C dJ6_bitCount_0f7a4_2 (by decide) ?_
  refine am_iushr 3 C dJ6_bitCount_0f7a4_3 ?_
  refine am_ldcw 4 C dJ6_bitCount_0f7a4_4 ki_J6_265 ?_
  refine am_iand 7 C dJ6_bitCount_0f7a4_7 ?_
  refine am_isub 8 C dJ6_bitCount_0f7a4_8 ?_
  obtain ⟨v2, hv2, E⟩ := am_ltE E
  refine as_nm hv2 ?_
  refine am_istore_n 9 (lv2 := [(0, .int v2)]) C dJ6_bitCount_0f7a4_9 rfl (by decide) rfl ?_
  refine am_iload_n 10 C dJ6_bitCount_0f7a4_10 rfl 0 rfl ?_
  refine am_ldcw 11 C dJ6_bitCount_0f7a4_11 ki_J6_266 ?_
  refine am_iand 14 C dJ6_bitCount_0f7a4_14 ?_
  refine am_iload_n 15 C dJ6_bitCount_0f7a4_15 rfl 0 rfl ?_
  refine am_iconst 16 (nI 2) C dJ6_bitCount_0f7a4_16 (by decide) ?_
  refine am_iushr 17 C dJ6_bitCount_0f7a4_17 ?_
  refine am_ldcw 18 C dJ6_bitCount_0f7a4_18 ki_J6_266 ?_
  refine am_iand 21 C dJ6_bitCount_0f7a4_21 ?_
  refine am_iadd 22 C dJ6_bitCount_0f7a4_22 ?_
  obtain ⟨v3, hv3, E⟩ := am_ltE E
  refine as_nm hv3 ?_
  refine am_istore_n 23 (lv2 := [(0, .int v3)]) C dJ6_bitCount_0f7a4_23 rfl (by decide) rfl ?_
  refine am_iload_n 24 C dJ6_bitCount_0f7a4_24 rfl 0 rfl ?_
  refine am_iload_n 25 C dJ6_bitCount_0f7a4_25 rfl 0 rfl ?_
  refine am_iconst 26 (nI 4) C dJ6_bitCount_0f7a4_26 (by decide) ?_
  refine am_iushr 27 C dJ6_bitCount_0f7a4_27 ?_
  refine am_iadd 28 C dJ6_bitCount_0f7a4_28 ?_
  refine am_ldcw 29 C dJ6_bitCount_0f7a4_29 ki_J6_267 ?_
  refine am_iand 32 C dJ6_bitCount_0f7a4_32 ?_
  obtain ⟨v4, hv4, E⟩ := am_ltE E
  refine as_nm hv4 ?_
  refine am_istore_n 33 (lv2 := [(0, .int v4)]) C dJ6_bitCount_0f7a4_33 rfl (by decide) rfl ?_
  refine am_iload_n 34 C dJ6_bitCount_0f7a4_34 rfl 0 rfl ?_
  refine am_iload_n 35 C dJ6_bitCount_0f7a4_35 rfl 0 rfl ?_
  refine am_bipush 36 (nI 8) C dJ6_bitCount_0f7a4_36 (by decide) ?_
  refine am_iushr 38 C dJ6_bitCount_0f7a4_38 ?_
  refine am_iadd 39 C dJ6_bitCount_0f7a4_39 ?_
  obtain ⟨v5, hv5, E⟩ := am_ltE E
  refine as_nm hv5 ?_
  refine am_istore_n 40 (lv2 := [(0, .int v5)]) C dJ6_bitCount_0f7a4_40 rfl (by decide) rfl ?_
  refine am_iload_n 41 C dJ6_bitCount_0f7a4_41 rfl 0 rfl ?_
  refine am_iload_n 42 C dJ6_bitCount_0f7a4_42 rfl 0 rfl ?_
  refine am_bipush 43 (nI 16) C dJ6_bitCount_0f7a4_43 (by decide) ?_
  refine am_iushr 45 C dJ6_bitCount_0f7a4_45 ?_
  refine am_iadd 46 C dJ6_bitCount_0f7a4_46 ?_
  obtain ⟨v6, hv6, E⟩ := am_ltE E
  refine as_nm hv6 ?_
  refine am_istore_n 47 (lv2 := [(0, .int v6)]) C dJ6_bitCount_0f7a4_47 rfl (by decide) rfl ?_
  refine am_iload_n 48 C dJ6_bitCount_0f7a4_48 rfl 0 rfl ?_
  refine am_bipush 49 (nI 63) C dJ6_bitCount_0f7a4_49 (by decide) ?_
  refine am_iand 51 C dJ6_bitCount_0f7a4_51 ?_
  replace E := Option.some.inj E
  subst E
  exact as_iret 52 C Z rfl dJ6_bitCount_0f7a4_52
def j_X11_tellers_88 (p1 : Int32) (v2 : Int32) (v3 : Int32) : Option (Int32) :=
  am_if (v3 = (-2 : Int32)) (some v3) (am_if (p1 = (1 : Int32)) (some v3) (some v2))
def b_X11_tellers_31 (p1 : Int32) (s0 : am_S) (v8 : Int32) (v9 : Int32) (v10 : Int32) : Option ((Int32 × Int32 × Int32) ⊕ (Int32)) :=
  am_if (((1 : Int32) <<< ((s0.1 16 3) &&& 31)) ≤ v10) (am_bd (j_X11_tellers_88 p1 v8 v9) (fun e11 => some (Sum.inr e11))) (am_bd (f_J6_bitCount_0f7a4 v10) (fun v12 => am_if (v8 ≤ v12) (am_lt (v10 + (1 : Int32)) (fun v13 => some (Sum.inl (v8, v9, v13)))) (am_bd (f_X8_reachesAll v10 s0) (fun v14 => am_if (v14 = 0) (am_lt (v10 + (1 : Int32)) (fun v15 => some (Sum.inl (v8, v9, v15)))) (am_lt (v10 + (1 : Int32)) (fun v16 => some (Sum.inl (v12, v10, v16))))))))
def f_X11_tellers (p1 : Int32) (s0 : am_S) : Option (Int32) :=
  am_if ((s0.1 16 0) = 0) (some (-1 : Int32)) (am_bd (f_X11_isBit p1) (fun v6 => am_if (v6 = 0) (some (-1 : Int32)) (am_lp (fun (q : Int32 × Int32 × Int32) => b_X11_tellers_31 p1 s0 q.1 q.2.1 q.2.2) am_F ((nI 8), (-2 : Int32), (0 : Int32)))))
set_option maxRecDepth 100000 in
set_option maxHeartbeats 4000000 in
theorem t_X11_tellers (p1 : Int32) (s0 : am_S) {z : Int32} (E : f_X11_tellers p1 s0 = some z) : AS yX11_tellers cX11_tellers 6 (some .int) 2 [.ref 0, .int p1] s0 (some (.int z)) s0 := by
  unfold f_X11_tellers at E
  refine as_met (lv := [(0, .ref 0), (1, .int p1)]) (by decide +kernel) (by simp [lg_sl, Value.category]) rfl (fun x C A Z => ?_)
  have K88 : ∀ (v2 : Int32) (v3 : Int32), j_X11_tellers_88 p1 v2 v3 = some z → AX x 0 0 88 [(0, .ref 0), (1, .int p1), (2, .int v2), (3, .int v3)] [] am_N (am_h s0) := by
    intro v2 v3 E
    unfold j_X11_tellers_88 at E
    refine am_iload_n 88 C dX11_tellers_88 rfl 3 rfl ?_
    refine am_bipush 89 (-2 : Int32) C dX11_tellers_89 (by decide) ?_
    refine am_icmp_eq 91 99 C dX11_tellers_91 (by decide) (fun c5 => ?_) (fun c5 => ?_)
    · have E := am_ifT E c5
      refine am_iload_n 99 C dX11_tellers_99 rfl 3 rfl ?_
      refine am_goto 100 104 C dX11_tellers_100 (by decide) ?_
      replace E := Option.some.inj E
      subst E
      exact as_iret 104 C Z rfl dX11_tellers_104
    · have E := am_ifF E c5
      refine am_iload_n 94 C dX11_tellers_94 rfl 1 rfl ?_
      refine am_iconst 95 (1 : Int32) C dX11_tellers_95 (by decide) ?_
      refine am_icmp_ne 96 103 C dX11_tellers_96 (by decide) (fun c4 => ?_) (fun c4 => ?_)
      · have E := am_ifF E c4
        refine am_iload_n 103 C dX11_tellers_103 rfl 2 rfl ?_
        replace E := Option.some.inj E
        subst E
        exact as_iret 104 C Z rfl dX11_tellers_104
      · have E := am_ifT E c4
        refine am_iload_n 99 C dX11_tellers_99 rfl 3 rfl ?_
        refine am_goto 100 104 C dX11_tellers_100 (by decide) ?_
        replace E := Option.some.inj E
        subst E
        exact as_iret 104 C Z rfl dX11_tellers_104
  refine am_aload_n 0 C dX11_tellers_0 rfl 0 rfl ?_
  refine as_getr 1 C fl_X11_36_10 dX11_tellers_1 (by decide) sh_0 (rf_0_8 _ _) ?_
  refine as_getr 4 C fl_X11_57_4 dX11_tellers_4 (by decide) sh_15 (rf_15_0 _ _) ?_
  refine as_geti 7 C fl_X11_262_7 dX11_tellers_7 (by decide) sh_16 ?_
  refine am_if_eq 10 20 C dX11_tellers_10 (by decide) (fun c21 => ?_) (fun c21 => ?_)
  · have E := am_ifT E c21
    refine am_iconst 20 (-1 : Int32) C dX11_tellers_20 (by decide) ?_
    replace E := Option.some.inj E
    subst E
    exact as_iret 21 C Z rfl dX11_tellers_21
  · have E := am_ifF E c21
    refine am_iload_n 13 C dX11_tellers_13 rfl 1 rfl ?_
    obtain ⟨v6, Ec, E⟩ := am_bdE E
    refine as_callS 14 (s2 := s0) (st := []) (st2 := [.int v6]) [.int p1] C A (by decide) ml_X11_284 yc_X11_isBit ys_X11_isBit (t_X11_isBit p1 s0 Ec) rfl rfl (Nat.le_of_ble_eq_true rfl) rfl dX11_tellers_14 ?_
    refine am_if_ne 17 22 C dX11_tellers_17 (by decide) (fun c20 => ?_) (fun c20 => ?_)
    · have E := am_ifF E c20
      refine am_bipush 22 (nI 8) C dX11_tellers_22 (by decide) ?_
      refine am_istore_n 24 (lv2 := [(2, .int (nI 8)), (0, .ref 0), (1, .int p1)]) C dX11_tellers_24 rfl (by decide) rfl ?_
      refine am_bipush 25 (-2 : Int32) C dX11_tellers_25 (by decide) ?_
      refine am_istore_n 27 (lv2 := [(3, .int (-2 : Int32)), (2, .int (nI 8)), (0, .ref 0), (1, .int p1)]) C dX11_tellers_27 rfl (by decide) rfl ?_
      refine am_iconst 28 (0 : Int32) C dX11_tellers_28 (by decide) ?_
      refine am_istore 29 (lv2 := [(4, .int (0 : Int32)), (3, .int (-2 : Int32)), (2, .int (nI 8)), (0, .ref 0), (1, .int p1)]) C dX11_tellers_29 (by decide) rfl ?_
      have LP7 : ∀ (n : Nat) (v8 : Int32) (v9 : Int32) (v10 : Int32), am_lp (fun (q : Int32 × Int32 × Int32) => b_X11_tellers_31 p1 s0 q.1 q.2.1 q.2.2) n (v8, v9, v10) = some z → AX x 0 0 31 [(0, .ref 0), (1, .int p1), (2, .int v8), (3, .int v9), (4, .int v10)] [] am_N (am_h s0) := by
        intro n
        induction n with
        | zero => intro v8 v9 v10 E; exact (am_lp0 E).elim
        | succ n ih7 =>
          intro v8 v9 v10 E
          obtain ⟨r7, E, Er7⟩ := am_lpE E
          replace E : b_X11_tellers_31 p1 s0 v8 v9 v10 = some r7 := E
          unfold b_X11_tellers_31 at E
          refine am_iload 31 C dX11_tellers_31 4 rfl ?_
          refine am_iconst 33 (1 : Int32) C dX11_tellers_33 (by decide) ?_
          refine am_aload_n 34 C dX11_tellers_34 rfl 0 rfl ?_
          refine as_getr 35 C fl_X11_36_10 dX11_tellers_35 (by decide) sh_0 (rf_0_8 _ _) ?_
          refine as_getr 38 C fl_X11_57_4 dX11_tellers_38 (by decide) sh_15 (rf_15_0 _ _) ?_
          refine as_geti 41 C fl_X11_135_7 dX11_tellers_41 (by decide) sh_16 ?_
          refine am_ishl 44 C dX11_tellers_44 ?_
          refine am_icmp_ge 45 88 C dX11_tellers_45 (by decide) (fun c19 => ?_) (fun c19 => ?_)
          · have E := am_ifT E c19
            obtain ⟨e11, E, E2⟩ := am_bdE E
            replace E2 := Option.some.inj E2
            replace E2 := am_exR E2 Er7
            rw [E2] at E
            refine am_lvs [0, 1, 2, 3] rfl ?_
            exact K88 _ _ E
          · have E := am_ifF E c19
            refine am_iload 48 C dX11_tellers_48 4 rfl ?_
            obtain ⟨v12, Ec, E⟩ := am_bdE E
            refine as_callS 50 (s2 := s0) (st := []) (st2 := [.int v12]) [.int v10] C A (by decide) ml_X11_323 yc_J6_bitCount_0f7a4 ys_J6_bitCount_0f7a4 (t_J6_bitCount_0f7a4 v10 s0 Ec) rfl rfl (Nat.le_of_ble_eq_true rfl) rfl dX11_tellers_50 ?_
            refine am_istore 53 (lv2 := [(5, .int v12), (0, .ref 0), (1, .int p1), (2, .int v8), (3, .int v9), (4, .int v10)]) C dX11_tellers_53 (by decide) rfl ?_
            refine am_iload 55 C dX11_tellers_55 0 rfl ?_
            refine am_iload_n 57 C dX11_tellers_57 rfl 3 rfl ?_
            refine am_icmp_ge 58 82 C dX11_tellers_58 (by decide) (fun c18 => ?_) (fun c18 => ?_)
            · have E := am_ifT E c18
              obtain ⟨v13, hv13, E⟩ := am_ltE E
              refine as_iinc 82 (q := (1 : Int32)) (lv2 := [(4, .int v13), (5, .int v12), (0, .ref 0), (1, .int p1), (2, .int v8), (3, .int v9)]) C dX11_tellers_82 5 rfl (by decide) hv13 (by decide) rfl ?_
              refine am_goto 85 31 C dX11_tellers_85 (by decide) ?_
              replace E := Option.some.inj E
              replace E := am_exL E Er7
              refine am_lvs [2, 3, 4, 5, 0] rfl ?_
              exact ih7 _ _ _ E
            · have E := am_ifF E c18
              refine am_aload_n 61 C dX11_tellers_61 rfl 1 rfl ?_
              refine as_getr 62 C fl_X11_36_10 dX11_tellers_62 (by decide) sh_0 (rf_0_8 _ _) ?_
              refine as_getr 65 C fl_X11_57_4 dX11_tellers_65 (by decide) sh_15 (rf_15_0 _ _) ?_
              refine am_iload 68 C dX11_tellers_68 5 rfl ?_
              obtain ⟨v14, Ec, E⟩ := am_bdE E
              refine as_callV 70 (s2 := s0) (st := []) (st2 := [.int v14]) [.int v10] C A (by decide) ml_X11_328 yc_X8_reachesAll yv_X8_reachesAll (t_X8_reachesAll v10 s0 Ec) (by decide) sh_16 rfl rfl (Nat.le_of_ble_eq_true rfl) rfl dX11_tellers_70 ?_
              refine am_if_eq 73 82 C dX11_tellers_73 (by decide) (fun c17 => ?_) (fun c17 => ?_)
              · have E := am_ifT E c17
                obtain ⟨v15, hv15, E⟩ := am_ltE E
                refine as_iinc 82 (q := (1 : Int32)) (lv2 := [(4, .int v15), (5, .int v12), (0, .ref 0), (1, .int p1), (2, .int v8), (3, .int v9)]) C dX11_tellers_82 5 rfl (by decide) hv15 (by decide) rfl ?_
                refine am_goto 85 31 C dX11_tellers_85 (by decide) ?_
                replace E := Option.some.inj E
                replace E := am_exL E Er7
                refine am_lvs [2, 3, 4, 5, 0] rfl ?_
                exact ih7 _ _ _ E
              · have E := am_ifF E c17
                refine am_iload 76 C dX11_tellers_76 0 rfl ?_
                refine am_istore_n 78 (lv2 := [(2, .int v12), (5, .int v12), (0, .ref 0), (1, .int p1), (3, .int v9), (4, .int v10)]) C dX11_tellers_78 rfl (by decide) rfl ?_
                refine am_iload 79 C dX11_tellers_79 5 rfl ?_
                refine am_istore_n 81 (lv2 := [(3, .int v10), (2, .int v12), (5, .int v12), (0, .ref 0), (1, .int p1), (4, .int v10)]) C dX11_tellers_81 rfl (by decide) rfl ?_
                obtain ⟨v16, hv16, E⟩ := am_ltE E
                refine as_iinc 82 (q := (1 : Int32)) (lv2 := [(4, .int v16), (3, .int v10), (2, .int v12), (5, .int v12), (0, .ref 0), (1, .int p1)]) C dX11_tellers_82 5 rfl (by decide) hv16 (by decide) rfl ?_
                refine am_goto 85 31 C dX11_tellers_85 (by decide) ?_
                replace E := Option.some.inj E
                replace E := am_exL E Er7
                refine am_lvs [4, 5, 2, 1, 0] rfl ?_
                exact ih7 _ _ _ E
      refine am_lvs [3, 4, 2, 1, 0] rfl ?_
      exact LP7 am_F _ _ _ E
    · have E := am_ifT E c20
      refine am_iconst 20 (-1 : Int32) C dX11_tellers_20 (by decide) ?_
      replace E := Option.some.inj E
      subst E
      exact as_iret 21 C Z rfl dX11_tellers_21
def j_X11_harmBehindLie_69 (s4 : am_S) : Option (Int32 × am_S) :=
  am_bd (f_X8_addWhatFollows 142 (0 : Int32) s4) (fun s5 => am_bd (f_X8_harmOf 142 (0 : Int32) s5) (fun v6 => some (v6, s5)))
def f_X11_harmBehindLie (p1 : Int32) (p2 : Int32) (p3 : Int32) (s0 : am_S) : Option (Int32 × am_S) :=
  am_gd (¬ (p2 * (nI 8)) < 0 ∧ ¬ (0 : Int32) < 0 ∧ ¬ (nI 8) < 0 ∧ ((p2 * (nI 8))).toNatClampNeg + ((nI 8)).toNatClampNeg ≤ 56 ∧ ((0 : Int32)).toNatClampNeg + ((nI 8)).toNatClampNeg ≤ 8) (am_lt (as_w s0 142 (va_cpy (s0.1 25) (s0.1 142) ((p2 * (nI 8))).toNatClampNeg 0 8)) (fun s7 => am_bd (f_X2_accepts 24 p1 p2 p3 s7) (fun v9 => am_if (v9 = 0) (j_X11_harmBehindLie_69 s7) (am_bd (f_X11_bit (s7.1 16 2) p3) (fun v10 => am_gd (¬ p3 < 0 ∧ (p3).toNatClampNeg < 8) (am_lt (as_i s7 142 (p3).toNatClampNeg ((1 : Int32) - v10)) (fun s12 => j_X11_harmBehindLie_69 s12)))))))
set_option maxRecDepth 100000 in
set_option maxHeartbeats 4000000 in
theorem t_X11_harmBehindLie (p1 : Int32) (p2 : Int32) (p3 : Int32) (s0 : am_S) {z : Int32 × am_S} (E : f_X11_harmBehindLie p1 p2 p3 s0 = some z) : AS yX11_harmBehindLie cX11_harmBehindLie 4 (some .int) 3 [.ref 0, .int p1, .int p2, .int p3] s0 (some (.int z.1)) z.2 := by
  unfold f_X11_harmBehindLie at E
  refine as_met (lv := [(0, .ref 0), (1, .int p1), (2, .int p2), (3, .int p3)]) (by decide +kernel) (by simp [lg_sl, Value.category]) rfl (fun x C A Z => ?_)
  have K69 : ∀ (s4 : am_S), j_X11_harmBehindLie_69 s4 = some z → AX x 0 0 69 [(0, .ref 0)] [] am_N (am_h s4) := by
    intro s4 E
    unfold j_X11_harmBehindLie_69 at E
    refine am_aload_n 69 C dX11_harmBehindLie_69 rfl 0 rfl ?_
    refine as_getr 70 C fl_X11_36_10 dX11_harmBehindLie_70 (by decide) sh_0 (rf_0_8 _ _) ?_
    refine as_getr 73 C fl_X11_57_4 dX11_harmBehindLie_73 (by decide) sh_15 (rf_15_0 _ _) ?_
    refine am_aload_n 76 C dX11_harmBehindLie_76 rfl 0 rfl ?_
    refine as_getr 77 C fl_X11_84_10 dX11_harmBehindLie_77 (by decide) sh_0 (rf_0_16 _ _) ?_
    refine am_iconst 80 (0 : Int32) C dX11_harmBehindLie_80 (by decide) ?_
    obtain ⟨s5, Ec, E⟩ := am_bdE E
    refine as_callV 81 (s2 := s5) (st := []) (st2 := []) [.ref 142, .int (0 : Int32)] C A (by decide) ml_X11_348 yc_X8_addWhatFollows yv_X8_addWhatFollows (t_X8_addWhatFollows 142 (0 : Int32) s4 Ec) (by decide) sh_16 rfl rfl (Nat.le_of_ble_eq_true rfl) rfl dX11_harmBehindLie_81 ?_
    refine am_aload_n 84 C dX11_harmBehindLie_84 rfl 0 rfl ?_
    refine as_getr 85 C fl_X11_36_10 dX11_harmBehindLie_85 (by decide) sh_0 (rf_0_8 _ _) ?_
    refine as_getr 88 C fl_X11_57_4 dX11_harmBehindLie_88 (by decide) sh_15 (rf_15_0 _ _) ?_
    refine am_aload_n 91 C dX11_harmBehindLie_91 rfl 0 rfl ?_
    refine as_getr 92 C fl_X11_84_10 dX11_harmBehindLie_92 (by decide) sh_0 (rf_0_16 _ _) ?_
    refine am_iconst 95 (0 : Int32) C dX11_harmBehindLie_95 (by decide) ?_
    obtain ⟨v6, Ec, E⟩ := am_bdE E
    refine as_callV 96 (s2 := s5) (st := []) (st2 := [.int v6]) [.ref 142, .int (0 : Int32)] C A (by decide) ml_X11_170 yc_X8_harmOf yv_X8_harmOf (t_X8_harmOf 142 (0 : Int32) s5 Ec) (by decide) sh_16 rfl rfl (Nat.le_of_ble_eq_true rfl) rfl dX11_harmBehindLie_96 ?_
    replace E := Option.some.inj E
    subst E
    exact as_iret 99 C Z rfl dX11_harmBehindLie_99
  refine am_aload_n 0 C dX11_harmBehindLie_0 rfl 0 rfl ?_
  refine as_getr 1 C fl_X11_36_10 dX11_harmBehindLie_1 (by decide) sh_0 (rf_0_8 _ _) ?_
  refine as_getr 4 C fl_X11_60_4 dX11_harmBehindLie_4 (by decide) sh_15 (rf_15_1 _ _) ?_
  refine as_getr 7 C fl_X11_158_1 dX11_harmBehindLie_7 (by decide) sh_24 (rf_24_0 _ _) ?_
  refine am_iload_n 10 C dX11_harmBehindLie_10 rfl 2 rfl ?_
  refine am_bipush 11 (nI 8) C dX11_harmBehindLie_11 (by decide) ?_
  refine am_imul 13 C dX11_harmBehindLie_13 ?_
  refine am_aload_n 14 C dX11_harmBehindLie_14 rfl 0 rfl ?_
  refine as_getr 15 C fl_X11_84_10 dX11_harmBehindLie_15 (by decide) sh_0 (rf_0_16 _ _) ?_
  refine am_iconst 18 (0 : Int32) C dX11_harmBehindLie_18 (by decide) ?_
  refine am_bipush 19 (nI 8) C dX11_harmBehindLie_19 (by decide) ?_
  obtain ⟨g8, E⟩ := am_gdE E
  obtain ⟨s7, hs7, E⟩ := am_ltE E
  refine as_copyK 21 ((p2 * (nI 8))).toNatClampNeg 0 8 C A (by decide) ml_X11_338 (by decide) (by decide) sh_25 sh_142 g8 rfl (by decide) (by decide) (Nat.le_of_ble_eq_true rfl) dX11_harmBehindLie_21 hs7 ?_
  refine am_aload_n 24 C dX11_harmBehindLie_24 rfl 0 rfl ?_
  refine as_getr 25 C fl_X11_36_10 dX11_harmBehindLie_25 (by decide) sh_0 (rf_0_8 _ _) ?_
  refine as_getr 28 C fl_X11_60_4 dX11_harmBehindLie_28 (by decide) sh_15 (rf_15_1 _ _) ?_
  refine am_aload_n 31 C dX11_harmBehindLie_31 rfl 0 rfl ?_
  refine as_getr 32 C fl_X11_36_10 dX11_harmBehindLie_32 (by decide) sh_0 (rf_0_8 _ _) ?_
  refine as_getr 35 C fl_X11_57_4 dX11_harmBehindLie_35 (by decide) sh_15 (rf_15_0 _ _) ?_
  refine am_iload_n 38 C dX11_harmBehindLie_38 rfl 1 rfl ?_
  refine am_iload_n 39 C dX11_harmBehindLie_39 rfl 2 rfl ?_
  refine am_iload_n 40 C dX11_harmBehindLie_40 rfl 3 rfl ?_
  obtain ⟨v9, Ec, E⟩ := am_bdE E
  refine as_callV 41 (s2 := s7) (st := []) (st2 := [.int v9]) [.ref 16, .int p1, .int p2, .int p3] C A (by decide) ml_X11_344 yc_X2_accepts yv_X2_accepts (t_X2_accepts 24 p1 p2 p3 s7 Ec) (by decide) sh_24 rfl rfl (Nat.le_of_ble_eq_true rfl) rfl dX11_harmBehindLie_41 ?_
  refine am_if_eq 44 69 C dX11_harmBehindLie_44 (by decide) (fun c13 => ?_) (fun c13 => ?_)
  · have E := am_ifT E c13
    refine am_lvs [0] rfl ?_
    exact K69 _ E
  · have E := am_ifF E c13
    refine am_aload_n 47 C dX11_harmBehindLie_47 rfl 0 rfl ?_
    refine as_getr 48 C fl_X11_84_10 dX11_harmBehindLie_48 (by decide) sh_0 (rf_0_16 _ _) ?_
    refine am_iload_n 51 C dX11_harmBehindLie_51 rfl 3 rfl ?_
    refine am_iconst 52 (1 : Int32) C dX11_harmBehindLie_52 (by decide) ?_
    refine am_aload_n 53 C dX11_harmBehindLie_53 rfl 0 rfl ?_
    refine as_getr 54 C fl_X11_36_10 dX11_harmBehindLie_54 (by decide) sh_0 (rf_0_8 _ _) ?_
    refine as_getr 57 C fl_X11_57_4 dX11_harmBehindLie_57 (by decide) sh_15 (rf_15_0 _ _) ?_
    refine as_geti 60 C fl_X11_197_7 dX11_harmBehindLie_60 (by decide) sh_16 ?_
    refine am_iload_n 63 C dX11_harmBehindLie_63 rfl 3 rfl ?_
    obtain ⟨v10, Ec, E⟩ := am_bdE E
    refine as_callS 64 (s2 := s7) (st := [.int (1 : Int32), .int p3, .ref 142]) (st2 := [.int v10, .int (1 : Int32), .int p3, .ref 142]) [.int (s7.1 16 2), .int p3] C A (by decide) ml_X11_183 yc_X11_bit ys_X11_bit (t_X11_bit (s7.1 16 2) p3 s7 Ec) rfl rfl (Nat.le_of_ble_eq_true rfl) rfl dX11_harmBehindLie_64 ?_
    refine am_isub 67 C dX11_harmBehindLie_67 ?_
    obtain ⟨g11, E⟩ := am_gdE E
    obtain ⟨s12, hs12, E⟩ := am_ltE E
    refine as_iast 68 C dX11_harmBehindLie_68 (by decide) sh_142 g11 hs12 ?_
    refine am_lvs [0] rfl ?_
    exact K69 _ E
def b_X11_leastLieFact_14 (p1 : Int32) (p2 : Int32) (v6 : Int32) (v7 : Int32) (v8 : Int32) (s9 : am_S) : Option ((Int32 × Int32 × Int32 × am_S) ⊕ (Int32 × am_S)) :=
  am_if ((s9.1 16 1) ≤ v8) (some (Sum.inr (v6, s9))) (am_b2 (f_X11_harmBehindLie p1 p2 v8 s9) (fun v10 s11 => am_if (v7 ≤ v10) (am_lt (v8 + (1 : Int32)) (fun v12 => some (Sum.inl (v6, v7, v12, s11)))) (am_lt (v8 + (1 : Int32)) (fun v13 => some (Sum.inl (v8, v10, v13, s11))))))
def f_X11_leastLieFact (p1 : Int32) (p2 : Int32) (s0 : am_S) : Option (Int32 × am_S) :=
  am_b2 (f_X11_harmBehindLie p1 p2 (0 : Int32) s0) (fun v3 s4 => am_lp (fun (q : Int32 × Int32 × Int32 × am_S) => b_X11_leastLieFact_14 p1 p2 q.1 q.2.1 q.2.2.1 q.2.2.2) am_F ((0 : Int32), v3, (1 : Int32), s4))
set_option maxRecDepth 100000 in
set_option maxHeartbeats 4000000 in
theorem t_X11_leastLieFact (p1 : Int32) (p2 : Int32) (s0 : am_S) {z : Int32 × am_S} (E : f_X11_leastLieFact p1 p2 s0 = some z) : AS yX11_leastLieFact cX11_leastLieFact 7 (some .int) 4 [.ref 0, .int p1, .int p2] s0 (some (.int z.1)) z.2 := by
  unfold f_X11_leastLieFact at E
  refine as_met (lv := [(0, .ref 0), (1, .int p1), (2, .int p2)]) (by decide +kernel) (by simp [lg_sl, Value.category]) rfl (fun x C A Z => ?_)
  refine am_iconst 0 (0 : Int32) C dX11_leastLieFact_0 (by decide) ?_
  refine am_istore_n 1 (lv2 := [(3, .int (0 : Int32)), (0, .ref 0), (1, .int p1), (2, .int p2)]) C dX11_leastLieFact_1 rfl (by decide) rfl ?_
  refine am_aload_n 2 C dX11_leastLieFact_2 rfl 1 rfl ?_
  refine am_iload_n 3 C dX11_leastLieFact_3 rfl 2 rfl ?_
  refine am_iload_n 4 C dX11_leastLieFact_4 rfl 3 rfl ?_
  refine am_iconst 5 (0 : Int32) C dX11_leastLieFact_5 (by decide) ?_
  obtain ⟨v3, s4, Ec, E⟩ := am_b2E E
  refine as_callV 6 (s2 := s4) (st := []) (st2 := [.int v3]) [.int p1, .int p2, .int (0 : Int32)] C A (by decide) ml_X11_334 yc_X11_harmBehindLie yv_X11_harmBehindLie (t_X11_harmBehindLie p1 p2 (0 : Int32) s0 Ec) (by decide) sh_0 rfl rfl (Nat.le_of_ble_eq_true rfl) rfl dX11_leastLieFact_6 ?_
  refine am_istore 9 (lv2 := [(4, .int v3), (3, .int (0 : Int32)), (0, .ref 0), (1, .int p1), (2, .int p2)]) C dX11_leastLieFact_9 (by decide) rfl ?_
  refine am_iconst 11 (1 : Int32) C dX11_leastLieFact_11 (by decide) ?_
  refine am_istore 12 (lv2 := [(5, .int (1 : Int32)), (4, .int v3), (3, .int (0 : Int32)), (0, .ref 0), (1, .int p1), (2, .int p2)]) C dX11_leastLieFact_12 (by decide) rfl ?_
  have LP5 : ∀ (n : Nat) (v6 : Int32) (v7 : Int32) (v8 : Int32) (s9 : am_S), am_lp (fun (q : Int32 × Int32 × Int32 × am_S) => b_X11_leastLieFact_14 p1 p2 q.1 q.2.1 q.2.2.1 q.2.2.2) n (v6, v7, v8, s9) = some z → AX x 0 0 14 [(0, .ref 0), (1, .int p1), (2, .int p2), (3, .int v6), (4, .int v7), (5, .int v8)] [] am_N (am_h s9) := by
    intro n
    induction n with
    | zero => intro v6 v7 v8 s9 E; exact (am_lp0 E).elim
    | succ n ih5 =>
      intro v6 v7 v8 s9 E
      obtain ⟨r5, E, Er5⟩ := am_lpE E
      replace E : b_X11_leastLieFact_14 p1 p2 v6 v7 v8 s9 = some r5 := E
      unfold b_X11_leastLieFact_14 at E
      refine am_iload 14 C dX11_leastLieFact_14 5 rfl ?_
      refine am_aload_n 16 C dX11_leastLieFact_16 rfl 0 rfl ?_
      refine as_getr 17 C fl_X11_36_10 dX11_leastLieFact_17 (by decide) sh_0 (rf_0_8 _ _) ?_
      refine as_getr 20 C fl_X11_57_4 dX11_leastLieFact_20 (by decide) sh_15 (rf_15_0 _ _) ?_
      refine as_geti 23 C fl_X11_194_7 dX11_leastLieFact_23 (by decide) sh_16 ?_
      refine am_icmp_ge 26 59 C dX11_leastLieFact_26 (by decide) (fun c15 => ?_) (fun c15 => ?_)
      · have E := am_ifT E c15
        refine am_iload_n 59 C dX11_leastLieFact_59 rfl 3 rfl ?_
        replace E := Option.some.inj E
        replace E := am_exR E Er5
        subst E
        exact as_iret 60 C Z rfl dX11_leastLieFact_60
      · have E := am_ifF E c15
        refine am_aload_n 29 C dX11_leastLieFact_29 rfl 0 rfl ?_
        refine am_iload_n 30 C dX11_leastLieFact_30 rfl 1 rfl ?_
        refine am_iload_n 31 C dX11_leastLieFact_31 rfl 2 rfl ?_
        refine am_iload 32 C dX11_leastLieFact_32 5 rfl ?_
        obtain ⟨v10, s11, Ec, E⟩ := am_b2E E
        refine as_callV 34 (s2 := s11) (st := []) (st2 := [.int v10]) [.int p1, .int p2, .int v8] C A (by decide) ml_X11_334 yc_X11_harmBehindLie yv_X11_harmBehindLie (t_X11_harmBehindLie p1 p2 v8 s9 Ec) (by decide) sh_0 rfl rfl (Nat.le_of_ble_eq_true rfl) rfl dX11_leastLieFact_34 ?_
        refine am_istore 37 (lv2 := [(6, .int v10), (0, .ref 0), (1, .int p1), (2, .int p2), (3, .int v6), (4, .int v7), (5, .int v8)]) C dX11_leastLieFact_37 (by decide) rfl ?_
        refine am_iload 39 C dX11_leastLieFact_39 0 rfl ?_
        refine am_iload 41 C dX11_leastLieFact_41 5 rfl ?_
        refine am_icmp_ge 43 53 C dX11_leastLieFact_43 (by decide) (fun c14 => ?_) (fun c14 => ?_)
        · have E := am_ifT E c14
          obtain ⟨v12, hv12, E⟩ := am_ltE E
          refine as_iinc 53 (q := (1 : Int32)) (lv2 := [(5, .int v12), (6, .int v10), (0, .ref 0), (1, .int p1), (2, .int p2), (3, .int v6), (4, .int v7)]) C dX11_leastLieFact_53 6 rfl (by decide) hv12 (by decide) rfl ?_
          refine am_goto 56 14 C dX11_leastLieFact_56 (by decide) ?_
          replace E := Option.some.inj E
          replace E := am_exL E Er5
          refine am_lvs [2, 3, 4, 5, 6, 0] rfl ?_
          exact ih5 _ _ _ _ E
        · have E := am_ifF E c14
          refine am_iload 46 C dX11_leastLieFact_46 0 rfl ?_
          refine am_istore 48 (lv2 := [(4, .int v10), (6, .int v10), (0, .ref 0), (1, .int p1), (2, .int p2), (3, .int v6), (5, .int v8)]) C dX11_leastLieFact_48 (by decide) rfl ?_
          refine am_iload 50 C dX11_leastLieFact_50 6 rfl ?_
          refine am_istore_n 52 (lv2 := [(3, .int v8), (4, .int v10), (6, .int v10), (0, .ref 0), (1, .int p1), (2, .int p2), (5, .int v8)]) C dX11_leastLieFact_52 rfl (by decide) rfl ?_
          obtain ⟨v13, hv13, E⟩ := am_ltE E
          refine as_iinc 53 (q := (1 : Int32)) (lv2 := [(5, .int v13), (3, .int v8), (4, .int v10), (6, .int v10), (0, .ref 0), (1, .int p1), (2, .int p2)]) C dX11_leastLieFact_53 6 rfl (by decide) hv13 (by decide) rfl ?_
          refine am_goto 56 14 C dX11_leastLieFact_56 (by decide) ?_
          replace E := Option.some.inj E
          replace E := am_exL E Er5
          refine am_lvs [4, 5, 6, 1, 2, 0] rfl ?_
          exact ih5 _ _ _ _ E
  refine am_lvs [3, 4, 5, 2, 1, 0] rfl ?_
  exact LP5 am_F _ _ _ _ E
def f_X11_leastLie (p1 : Int32) (p2 : Int32) (p3 : Int32) (s0 : am_S) : Option (Int32 × am_S) :=
  am_bd (f_X8_hasStreet 16 p1 p2 s0) (fun v4 => am_if (v4 = 0) (some ((-1 : Int32), s0)) (am_bd (f_X11_isBit p3) (fun v5 => am_if (v5 = 0) (some ((-1 : Int32), s0)) (am_b2 (f_X11_leastLieFact p1 p2 s0) (fun v6 s7 => am_if (p3 = 0) (some (v6, s7)) (am_b2 (f_X11_harmBehindLie p1 p2 v6 s7) (fun v8 s9 => some (v8, s9))))))))
set_option maxRecDepth 100000 in
set_option maxHeartbeats 4000000 in
theorem t_X11_leastLie (p1 : Int32) (p2 : Int32) (p3 : Int32) (s0 : am_S) {z : Int32 × am_S} (E : f_X11_leastLie p1 p2 p3 s0 = some z) : AS yX11_leastLie cX11_leastLie 5 (some .int) 5 [.ref 0, .int p1, .int p2, .int p3] s0 (some (.int z.1)) z.2 := by
  unfold f_X11_leastLie at E
  refine as_met (lv := [(0, .ref 0), (1, .int p1), (2, .int p2), (3, .int p3)]) (by decide +kernel) (by simp [lg_sl, Value.category]) rfl (fun x C A Z => ?_)
  refine am_aload_n 0 C dX11_leastLie_0 rfl 0 rfl ?_
  refine as_getr 1 C fl_X11_36_10 dX11_leastLie_1 (by decide) sh_0 (rf_0_8 _ _) ?_
  refine as_getr 4 C fl_X11_57_4 dX11_leastLie_4 (by decide) sh_15 (rf_15_0 _ _) ?_
  refine am_iload_n 7 C dX11_leastLie_7 rfl 1 rfl ?_
  refine am_iload_n 8 C dX11_leastLie_8 rfl 2 rfl ?_
  obtain ⟨v4, Ec, E⟩ := am_bdE E
  refine as_callV 9 (s2 := s0) (st := []) (st2 := [.int v4]) [.int p1, .int p2] C A (by decide) ml_X11_248 yc_X8_hasStreet yv_X8_hasStreet (t_X8_hasStreet 16 p1 p2 s0 Ec) (by decide) sh_16 rfl rfl (Nat.le_of_ble_eq_true rfl) rfl dX11_leastLie_9 ?_
  refine am_if_eq 12 22 C dX11_leastLie_12 (by decide) (fun c12 => ?_) (fun c12 => ?_)
  · have E := am_ifT E c12
    refine am_iconst 22 (-1 : Int32) C dX11_leastLie_22 (by decide) ?_
    replace E := Option.some.inj E
    subst E
    exact as_iret 23 C Z rfl dX11_leastLie_23
  · have E := am_ifF E c12
    refine am_iload_n 15 C dX11_leastLie_15 rfl 3 rfl ?_
    obtain ⟨v5, Ec, E⟩ := am_bdE E
    refine as_callS 16 (s2 := s0) (st := []) (st2 := [.int v5]) [.int p3] C A (by decide) ml_X11_284 yc_X11_isBit ys_X11_isBit (t_X11_isBit p3 s0 Ec) rfl rfl (Nat.le_of_ble_eq_true rfl) rfl dX11_leastLie_16 ?_
    refine am_if_ne 19 24 C dX11_leastLie_19 (by decide) (fun c11 => ?_) (fun c11 => ?_)
    · have E := am_ifF E c11
      refine am_aload_n 24 C dX11_leastLie_24 rfl 0 rfl ?_
      refine am_iload_n 25 C dX11_leastLie_25 rfl 1 rfl ?_
      refine am_iload_n 26 C dX11_leastLie_26 rfl 2 rfl ?_
      obtain ⟨v6, s7, Ec, E⟩ := am_b2E E
      refine as_callV 27 (s2 := s7) (st := []) (st2 := [.int v6]) [.int p1, .int p2] C A (by decide) ml_X11_331 yc_X11_leastLieFact yv_X11_leastLieFact (t_X11_leastLieFact p1 p2 s0 Ec) (by decide) sh_0 rfl rfl (Nat.le_of_ble_eq_true rfl) rfl dX11_leastLie_27 ?_
      refine am_istore 30 (lv2 := [(4, .int v6), (0, .ref 0), (1, .int p1), (2, .int p2), (3, .int p3)]) C dX11_leastLie_30 (by decide) rfl ?_
      refine am_iload_n 32 C dX11_leastLie_32 rfl 4 rfl ?_
      refine am_if_ne 33 41 C dX11_leastLie_33 (by decide) (fun c10 => ?_) (fun c10 => ?_)
      · have E := am_ifF E c10
        refine am_aload_n 41 C dX11_leastLie_41 rfl 1 rfl ?_
        refine am_iload_n 42 C dX11_leastLie_42 rfl 2 rfl ?_
        refine am_iload_n 43 C dX11_leastLie_43 rfl 3 rfl ?_
        refine am_iload 44 C dX11_leastLie_44 0 rfl ?_
        obtain ⟨v8, s9, Ec, E⟩ := am_b2E E
        refine as_callV 46 (s2 := s9) (st := []) (st2 := [.int v8]) [.int p1, .int p2, .int v6] C A (by decide) ml_X11_334 yc_X11_harmBehindLie yv_X11_harmBehindLie (t_X11_harmBehindLie p1 p2 v6 s7 Ec) (by decide) sh_0 rfl rfl (Nat.le_of_ble_eq_true rfl) rfl dX11_leastLie_46 ?_
        replace E := Option.some.inj E
        subst E
        exact as_iret 49 C Z rfl dX11_leastLie_49
      · have E := am_ifT E c10
        refine am_iload 36 C dX11_leastLie_36 0 rfl ?_
        refine am_goto 38 49 C dX11_leastLie_38 (by decide) ?_
        replace E := Option.some.inj E
        subst E
        exact as_iret 49 C Z rfl dX11_leastLie_49
    · have E := am_ifT E c11
      refine am_iconst 22 (-1 : Int32) C dX11_leastLie_22 (by decide) ?_
      replace E := Option.some.inj E
      subst E
      exact as_iret 23 C Z rfl dX11_leastLie_23
def b_X11_eveningHarm_62 (p1 : Int32) (v6 : Int32) (v7 : Int32) (s8 : am_S) : Option ((Int32 × Int32 × am_S) ⊕ (Int32 × am_S)) :=
  am_if ((s8.1 16 3) ≤ v7) (some (Sum.inr (v6, s8))) (am_bd (f_X8_hasStreet 16 v7 p1 s8) (fun v9 => am_if (v9 = 0) (am_lt (v7 + (1 : Int32)) (fun v10 => some (Sum.inl (v6, v10, s8)))) (am_b2 (f_X11_leastLieFact v7 p1 s8) (fun v11 s12 => am_b2 (f_X11_harmBehindLie v7 p1 v11 s12) (fun v13 s14 => am_if (v6 = (-1 : Int32)) (am_lt (v7 + (1 : Int32)) (fun v17 => some (Sum.inl (v13, v17, s14)))) (am_lt (if v13 < v6 then v13 else v6) (fun v15 => am_lt (v7 + (1 : Int32)) (fun v16 => some (Sum.inl (v15, v16, s14))))))))))
def f_X11_eveningHarm (p1 : Int32) (s0 : am_S) : Option (Int32 × am_S) :=
  am_bd (f_X8_harmOf 27 (p1 * (nI 8)) s0) (fun v2 => am_gd (¬ p1 < 0 ∧ (p1).toNatClampNeg < 7) (am_if (0 < (s0.1 28 (p1).toNatClampNeg)) (some (v2, s0)) (am_gd (¬ p1 < 0 ∧ (p1).toNatClampNeg < 7) (am_if ((s0.1 21 (p1).toNatClampNeg) = 0) (some (v2, s0)) (am_lp (fun (q : Int32 × Int32 × am_S) => b_X11_eveningHarm_62 p1 q.1 q.2.1 q.2.2) am_F ((-1 : Int32), (0 : Int32), s0))))))
set_option maxRecDepth 100000 in
set_option maxHeartbeats 4000000 in
theorem t_X11_eveningHarm (p1 : Int32) (s0 : am_S) {z : Int32 × am_S} (E : f_X11_eveningHarm p1 s0 = some z) : AS yX11_eveningHarm cX11_eveningHarm 7 (some .int) 5 [.ref 0, .int p1] s0 (some (.int z.1)) z.2 := by
  unfold f_X11_eveningHarm at E
  refine as_met (lv := [(0, .ref 0), (1, .int p1)]) (by decide +kernel) (by simp [lg_sl, Value.category]) rfl (fun x C A Z => ?_)
  refine am_aload_n 0 C dX11_eveningHarm_0 rfl 0 rfl ?_
  refine as_getr 1 C fl_X11_36_10 dX11_eveningHarm_1 (by decide) sh_0 (rf_0_8 _ _) ?_
  refine as_getr 4 C fl_X11_57_4 dX11_eveningHarm_4 (by decide) sh_15 (rf_15_0 _ _) ?_
  refine am_aload_n 7 C dX11_eveningHarm_7 rfl 0 rfl ?_
  refine as_getr 8 C fl_X11_36_10 dX11_eveningHarm_8 (by decide) sh_0 (rf_0_8 _ _) ?_
  refine as_getr 11 C fl_X11_60_4 dX11_eveningHarm_11 (by decide) sh_15 (rf_15_1 _ _) ?_
  refine as_getr 14 C fl_X11_164_1 dX11_eveningHarm_14 (by decide) sh_24 (rf_24_2 _ _) ?_
  refine am_iload_n 17 C dX11_eveningHarm_17 rfl 1 rfl ?_
  refine am_bipush 18 (nI 8) C dX11_eveningHarm_18 (by decide) ?_
  refine am_imul 20 C dX11_eveningHarm_20 ?_
  obtain ⟨v2, Ec, E⟩ := am_bdE E
  refine as_callV 21 (s2 := s0) (st := []) (st2 := [.int v2]) [.ref 27, .int (p1 * (nI 8))] C A (by decide) ml_X11_170 yc_X8_harmOf yv_X8_harmOf (t_X8_harmOf 27 (p1 * (nI 8)) s0 Ec) (by decide) sh_16 rfl rfl (Nat.le_of_ble_eq_true rfl) rfl dX11_eveningHarm_21 ?_
  refine am_istore_n 24 (lv2 := [(2, .int v2), (0, .ref 0), (1, .int p1)]) C dX11_eveningHarm_24 rfl (by decide) rfl ?_
  refine am_aload_n 25 C dX11_eveningHarm_25 rfl 1 rfl ?_
  refine as_getr 26 C fl_X11_36_10 dX11_eveningHarm_26 (by decide) sh_0 (rf_0_8 _ _) ?_
  refine as_getr 29 C fl_X11_60_4 dX11_eveningHarm_29 (by decide) sh_15 (rf_15_1 _ _) ?_
  refine as_getr 32 C fl_X11_167_1 dX11_eveningHarm_32 (by decide) sh_24 (rf_24_3 _ _) ?_
  refine am_iload_n 35 C dX11_eveningHarm_35 rfl 2 rfl ?_
  obtain ⟨g3, E⟩ := am_gdE E
  refine as_iald 36 C dX11_eveningHarm_36 (by decide) sh_28 g3 ?_
  refine am_if_gt 37 55 C dX11_eveningHarm_37 (by decide) (fun c22 => ?_) (fun c22 => ?_)
  · have E := am_ifT E c22
    refine am_iload_n 55 C dX11_eveningHarm_55 rfl 0 rfl ?_
    replace E := Option.some.inj E
    subst E
    exact as_iret 56 C Z rfl dX11_eveningHarm_56
  · have E := am_ifF E c22
    refine am_aload_n 40 C dX11_eveningHarm_40 rfl 1 rfl ?_
    refine as_getr 41 C fl_X11_36_10 dX11_eveningHarm_41 (by decide) sh_0 (rf_0_8 _ _) ?_
    refine as_getr 44 C fl_X11_57_4 dX11_eveningHarm_44 (by decide) sh_15 (rf_15_0 _ _) ?_
    refine as_getr 47 C fl_X11_177_7 dX11_eveningHarm_47 (by decide) sh_16 (rf_16_9 _ _) ?_
    refine am_iload_n 50 C dX11_eveningHarm_50 rfl 2 rfl ?_
    obtain ⟨g4, E⟩ := am_gdE E
    refine as_iald 51 C dX11_eveningHarm_51 (by decide) sh_21 g4 ?_
    refine am_if_ne 52 57 C dX11_eveningHarm_52 (by decide) (fun c21 => ?_) (fun c21 => ?_)
    · have E := am_ifF E c21
      refine am_iconst 57 (-1 : Int32) C dX11_eveningHarm_57 (by decide) ?_
      refine am_istore_n 58 (lv2 := [(3, .int (-1 : Int32)), (2, .int v2), (0, .ref 0), (1, .int p1)]) C dX11_eveningHarm_58 rfl (by decide) rfl ?_
      refine am_iconst 59 (0 : Int32) C dX11_eveningHarm_59 (by decide) ?_
      refine am_istore 60 (lv2 := [(4, .int (0 : Int32)), (3, .int (-1 : Int32)), (2, .int v2), (0, .ref 0), (1, .int p1)]) C dX11_eveningHarm_60 (by decide) rfl ?_
      have LP5 : ∀ (n : Nat) (v6 : Int32) (v7 : Int32) (s8 : am_S), am_lp (fun (q : Int32 × Int32 × am_S) => b_X11_eveningHarm_62 p1 q.1 q.2.1 q.2.2) n (v6, v7, s8) = some z → AX x 0 0 62 [(0, .ref 0), (1, .int p1), (3, .int v6), (4, .int v7)] [] am_N (am_h s8) := by
        intro n
        induction n with
        | zero => intro v6 v7 s8 E; exact (am_lp0 E).elim
        | succ n ih5 =>
          intro v6 v7 s8 E
          obtain ⟨r5, E, Er5⟩ := am_lpE E
          replace E : b_X11_eveningHarm_62 p1 v6 v7 s8 = some r5 := E
          unfold b_X11_eveningHarm_62 at E
          refine am_iload 62 C dX11_eveningHarm_62 3 rfl ?_
          refine am_aload_n 64 C dX11_eveningHarm_64 rfl 0 rfl ?_
          refine as_getr 65 C fl_X11_36_10 dX11_eveningHarm_65 (by decide) sh_0 (rf_0_8 _ _) ?_
          refine as_getr 68 C fl_X11_57_4 dX11_eveningHarm_68 (by decide) sh_15 (rf_15_0 _ _) ?_
          refine as_geti 71 C fl_X11_135_7 dX11_eveningHarm_71 (by decide) sh_16 ?_
          refine am_icmp_ge 74 136 C dX11_eveningHarm_74 (by decide) (fun c20 => ?_) (fun c20 => ?_)
          · have E := am_ifT E c20
            refine am_iload_n 136 C dX11_eveningHarm_136 rfl 2 rfl ?_
            replace E := Option.some.inj E
            replace E := am_exR E Er5
            subst E
            exact as_iret 137 C Z rfl dX11_eveningHarm_137
          · have E := am_ifF E c20
            refine am_aload_n 77 C dX11_eveningHarm_77 rfl 0 rfl ?_
            refine as_getr 78 C fl_X11_36_10 dX11_eveningHarm_78 (by decide) sh_0 (rf_0_8 _ _) ?_
            refine as_getr 81 C fl_X11_57_4 dX11_eveningHarm_81 (by decide) sh_15 (rf_15_0 _ _) ?_
            refine am_iload 84 C dX11_eveningHarm_84 3 rfl ?_
            refine am_iload_n 86 C dX11_eveningHarm_86 rfl 1 rfl ?_
            obtain ⟨v9, Ec, E⟩ := am_bdE E
            refine as_callV 87 (s2 := s8) (st := []) (st2 := [.int v9]) [.int v7, .int p1] C A (by decide) ml_X11_248 yc_X8_hasStreet yv_X8_hasStreet (t_X8_hasStreet 16 v7 p1 s8 Ec) (by decide) sh_16 rfl rfl (Nat.le_of_ble_eq_true rfl) rfl dX11_eveningHarm_87 ?_
            refine am_if_eq 90 130 C dX11_eveningHarm_90 (by decide) (fun c19 => ?_) (fun c19 => ?_)
            · have E := am_ifT E c19
              obtain ⟨v10, hv10, E⟩ := am_ltE E
              refine as_iinc 130 (q := (1 : Int32)) (lv2 := [(4, .int v10), (0, .ref 0), (1, .int p1), (3, .int v6)]) C dX11_eveningHarm_130 3 rfl (by decide) hv10 (by decide) rfl ?_
              refine am_goto 133 62 C dX11_eveningHarm_133 (by decide) ?_
              replace E := Option.some.inj E
              replace E := am_exL E Er5
              refine am_lvs [1, 2, 3, 0] rfl ?_
              exact ih5 _ _ _ E
            · have E := am_ifF E c19
              refine am_aload_n 93 C dX11_eveningHarm_93 rfl 0 rfl ?_
              refine am_iload 94 C dX11_eveningHarm_94 3 rfl ?_
              refine am_iload_n 96 C dX11_eveningHarm_96 rfl 1 rfl ?_
              obtain ⟨v11, s12, Ec, E⟩ := am_b2E E
              refine as_callV 97 (s2 := s12) (st := []) (st2 := [.int v11]) [.int v7, .int p1] C A (by decide) ml_X11_331 yc_X11_leastLieFact yv_X11_leastLieFact (t_X11_leastLieFact v7 p1 s8 Ec) (by decide) sh_0 rfl rfl (Nat.le_of_ble_eq_true rfl) rfl dX11_eveningHarm_97 ?_
              refine am_istore 100 (lv2 := [(5, .int v11), (0, .ref 0), (1, .int p1), (3, .int v6), (4, .int v7)]) C dX11_eveningHarm_100 (by decide) rfl ?_
              refine am_aload_n 102 C dX11_eveningHarm_102 rfl 1 rfl ?_
              refine am_iload 103 C dX11_eveningHarm_103 4 rfl ?_
              refine am_iload_n 105 C dX11_eveningHarm_105 rfl 2 rfl ?_
              refine am_iload 106 C dX11_eveningHarm_106 0 rfl ?_
              obtain ⟨v13, s14, Ec, E⟩ := am_b2E E
              refine as_callV 108 (s2 := s14) (st := []) (st2 := [.int v13]) [.int v7, .int p1, .int v11] C A (by decide) ml_X11_334 yc_X11_harmBehindLie yv_X11_harmBehindLie (t_X11_harmBehindLie v7 p1 v11 s12 Ec) (by decide) sh_0 rfl rfl (Nat.le_of_ble_eq_true rfl) rfl dX11_eveningHarm_108 ?_
              refine am_istore 111 (lv2 := [(6, .int v13), (5, .int v11), (0, .ref 0), (1, .int p1), (3, .int v6), (4, .int v7)]) C dX11_eveningHarm_111 (by decide) rfl ?_
              refine am_iload_n 113 C dX11_eveningHarm_113 rfl 4 rfl ?_
              refine am_iconst 114 (-1 : Int32) C dX11_eveningHarm_114 (by decide) ?_
              refine am_icmp_ne 115 123 C dX11_eveningHarm_115 (by decide) (fun c18 => ?_) (fun c18 => ?_)
              · have E := am_ifF E c18
                refine am_iload_n 123 C dX11_eveningHarm_123 rfl 4 rfl ?_
                refine am_iload 124 C dX11_eveningHarm_124 0 rfl ?_
                refine as_min 126 C A (by decide) ml_X11_251 (Nat.le_of_ble_eq_true rfl) dX11_eveningHarm_126 ?_
                obtain ⟨v15, hv15, E⟩ := am_ltE E
                refine as_nm hv15 ?_
                refine am_istore_n 129 (lv2 := [(3, .int v15), (6, .int v13), (5, .int v11), (0, .ref 0), (1, .int p1), (4, .int v7)]) C dX11_eveningHarm_129 rfl (by decide) rfl ?_
                obtain ⟨v16, hv16, E⟩ := am_ltE E
                refine as_iinc 130 (q := (1 : Int32)) (lv2 := [(4, .int v16), (3, .int v15), (6, .int v13), (5, .int v11), (0, .ref 0), (1, .int p1)]) C dX11_eveningHarm_130 5 rfl (by decide) hv16 (by decide) rfl ?_
                refine am_goto 133 62 C dX11_eveningHarm_133 (by decide) ?_
                replace E := Option.some.inj E
                replace E := am_exL E Er5
                refine am_lvs [4, 5, 1, 0] rfl ?_
                exact ih5 _ _ _ E
              · have E := am_ifT E c18
                refine am_iload 118 C dX11_eveningHarm_118 0 rfl ?_
                refine am_goto 120 129 C dX11_eveningHarm_120 (by decide) ?_
                refine am_istore_n 129 (lv2 := [(3, .int v13), (6, .int v13), (5, .int v11), (0, .ref 0), (1, .int p1), (4, .int v7)]) C dX11_eveningHarm_129 rfl (by decide) rfl ?_
                obtain ⟨v17, hv17, E⟩ := am_ltE E
                refine as_iinc 130 (q := (1 : Int32)) (lv2 := [(4, .int v17), (3, .int v13), (6, .int v13), (5, .int v11), (0, .ref 0), (1, .int p1)]) C dX11_eveningHarm_130 5 rfl (by decide) hv17 (by decide) rfl ?_
                refine am_goto 133 62 C dX11_eveningHarm_133 (by decide) ?_
                replace E := Option.some.inj E
                replace E := am_exL E Er5
                refine am_lvs [4, 5, 1, 0] rfl ?_
                exact ih5 _ _ _ E
      refine am_lvs [3, 4, 1, 0] rfl ?_
      exact LP5 am_F _ _ _ E
    · have E := am_ifT E c21
      refine am_iload_n 55 C dX11_eveningHarm_55 rfl 0 rfl ?_
      replace E := Option.some.inj E
      subst E
      exact as_iret 56 C Z rfl dX11_eveningHarm_56
def b_X11_evening_19 (v2 : Int32) (v3 : Int32) (s4 : am_S) : Option ((Int32 × Int32 × am_S) ⊕ (Int32 × am_S)) :=
  am_if ((s4.1 16 3) ≤ v3) (some (Sum.inr (v2, s4))) (am_b2 (f_X11_eveningHarm v3 s4) (fun v5 s6 => am_lt (v2 + v5) (fun v7 => am_lt (v3 + (1 : Int32)) (fun v8 => some (Sum.inl (v7, v8, s6))))))
def f_X11_evening  (s0 : am_S) : Option (Int32 × am_S) :=
  am_if ((s0.1 16 0) = 0) (some ((-1 : Int32), s0)) (am_lp (fun (q : Int32 × Int32 × am_S) => b_X11_evening_19 q.1 q.2.1 q.2.2) am_F ((0 : Int32), (0 : Int32), s0))
set_option maxRecDepth 100000 in
set_option maxHeartbeats 4000000 in
theorem t_X11_evening (s0 : am_S) {z : Int32 × am_S} (E : f_X11_evening  s0 = some z) : AS yX11_evening cX11_evening 3 (some .int) 6 [.ref 0] s0 (some (.int z.1)) z.2 := by
  unfold f_X11_evening at E
  refine as_met (lv := [(0, .ref 0)]) (by decide +kernel) (by simp [lg_sl, Value.category]) rfl (fun x C A Z => ?_)
  refine am_aload_n 0 C dX11_evening_0 rfl 0 rfl ?_
  refine as_getr 1 C fl_X11_36_10 dX11_evening_1 (by decide) sh_0 (rf_0_8 _ _) ?_
  refine as_getr 4 C fl_X11_57_4 dX11_evening_4 (by decide) sh_15 (rf_15_0 _ _) ?_
  refine as_geti 7 C fl_X11_262_7 dX11_evening_7 (by decide) sh_16 ?_
  refine am_if_ne 10 15 C dX11_evening_10 (by decide) (fun c10 => ?_) (fun c10 => ?_)
  · have E := am_ifF E c10
    refine am_iconst 15 (0 : Int32) C dX11_evening_15 (by decide) ?_
    refine am_istore_n 16 (lv2 := [(1, .int (0 : Int32)), (0, .ref 0)]) C dX11_evening_16 rfl (by decide) rfl ?_
    refine am_iconst 17 (0 : Int32) C dX11_evening_17 (by decide) ?_
    refine am_istore_n 18 (lv2 := [(2, .int (0 : Int32)), (1, .int (0 : Int32)), (0, .ref 0)]) C dX11_evening_18 rfl (by decide) rfl ?_
    have LP1 : ∀ (n : Nat) (v2 : Int32) (v3 : Int32) (s4 : am_S), am_lp (fun (q : Int32 × Int32 × am_S) => b_X11_evening_19 q.1 q.2.1 q.2.2) n (v2, v3, s4) = some z → AX x 0 0 19 [(0, .ref 0), (1, .int v2), (2, .int v3)] [] am_N (am_h s4) := by
      intro n
      induction n with
      | zero => intro v2 v3 s4 E; exact (am_lp0 E).elim
      | succ n ih1 =>
        intro v2 v3 s4 E
        obtain ⟨r1, E, Er1⟩ := am_lpE E
        replace E : b_X11_evening_19 v2 v3 s4 = some r1 := E
        unfold b_X11_evening_19 at E
        refine am_iload_n 19 C dX11_evening_19 rfl 2 rfl ?_
        refine am_aload_n 20 C dX11_evening_20 rfl 0 rfl ?_
        refine as_getr 21 C fl_X11_36_10 dX11_evening_21 (by decide) sh_0 (rf_0_8 _ _) ?_
        refine as_getr 24 C fl_X11_57_4 dX11_evening_24 (by decide) sh_15 (rf_15_0 _ _) ?_
        refine as_geti 27 C fl_X11_135_7 dX11_evening_27 (by decide) sh_16 ?_
        refine am_icmp_ge 30 47 C dX11_evening_30 (by decide) (fun c9 => ?_) (fun c9 => ?_)
        · have E := am_ifT E c9
          refine am_iload_n 47 C dX11_evening_47 rfl 1 rfl ?_
          replace E := Option.some.inj E
          replace E := am_exR E Er1
          subst E
          exact as_iret 48 C Z rfl dX11_evening_48
        · have E := am_ifF E c9
          refine am_iload_n 33 C dX11_evening_33 rfl 1 rfl ?_
          refine am_aload_n 34 C dX11_evening_34 rfl 0 rfl ?_
          refine am_iload_n 35 C dX11_evening_35 rfl 2 rfl ?_
          obtain ⟨v5, s6, Ec, E⟩ := am_b2E E
          refine as_callV 36 (s2 := s6) (st := [.int v2]) (st2 := [.int v5, .int v2]) [.int v3] C A (by decide) ml_X11_352 yc_X11_eveningHarm yv_X11_eveningHarm (t_X11_eveningHarm v3 s4 Ec) (by decide) sh_0 rfl rfl (Nat.le_of_ble_eq_true rfl) rfl dX11_evening_36 ?_
          refine am_iadd 39 C dX11_evening_39 ?_
          obtain ⟨v7, hv7, E⟩ := am_ltE E
          refine as_nm hv7 ?_
          refine am_istore_n 40 (lv2 := [(1, .int v7), (0, .ref 0), (2, .int v3)]) C dX11_evening_40 rfl (by decide) rfl ?_
          obtain ⟨v8, hv8, E⟩ := am_ltE E
          refine as_iinc 41 (q := (1 : Int32)) (lv2 := [(2, .int v8), (1, .int v7), (0, .ref 0)]) C dX11_evening_41 2 rfl (by decide) hv8 (by decide) rfl ?_
          refine am_goto 44 19 C dX11_evening_44 (by decide) ?_
          replace E := Option.some.inj E
          replace E := am_exL E Er1
          refine am_lvs [2, 1, 0] rfl ?_
          exact ih1 _ _ _ E
    refine am_lvs [2, 1, 0] rfl ?_
    exact LP1 am_F _ _ _ E
  · have E := am_ifT E c10
    refine am_iconst 13 (-1 : Int32) C dX11_evening_13 (by decide) ?_
    replace E := Option.some.inj E
    subst E
    exact as_iret 14 C Z rfl dX11_evening_14
def b_X11_walls_34 (p1 : Int32) (p2 : Int32) (p3 : Int32) (s0 : am_S) (v7 : Int32) (v8 : Int32) (v9 : Int32) : Option ((Int32 × Int32 × Int32) ⊕ (Int32)) :=
  am_if (((1 : Int32) <<< ((s0.1 16 6) &&& 31)) ≤ v9) (am_if (p3 = 0) (some (Sum.inr v7)) (some (Sum.inr v8))) (am_bd (f_J6_bitCount_0f7a4 v9) (fun v11 => am_if (v7 ≤ v11) (am_lt (v9 + (1 : Int32)) (fun v12 => some (Sum.inl (v7, v8, v12)))) (am_bd (f_X8_distance p1 p2 v9 s0) (fun v13 => am_if (v13 = (-2 : Int32)) (am_lt (v9 + (1 : Int32)) (fun v15 => some (Sum.inl (v11, v9, v15)))) (am_lt (v9 + (1 : Int32)) (fun v14 => some (Sum.inl (v7, v8, v14))))))))
def f_X11_walls (p1 : Int32) (p2 : Int32) (p3 : Int32) (s0 : am_S) : Option (Int32) :=
  am_bd (f_X8_hasTwo 16 p1 p2 s0) (fun v4 => am_if (v4 = 0) (some (-1 : Int32)) (am_bd (f_X11_isBit p3) (fun v5 => am_if (v5 = 0) (some (-1 : Int32)) (am_lp (fun (q : Int32 × Int32 × Int32) => b_X11_walls_34 p1 p2 p3 s0 q.1 q.2.1 q.2.2) am_F ((nI 11), (0 : Int32), (0 : Int32))))))
set_option maxRecDepth 100000 in
set_option maxHeartbeats 4000000 in
theorem t_X11_walls (p1 : Int32) (p2 : Int32) (p3 : Int32) (s0 : am_S) {z : Int32} (E : f_X11_walls p1 p2 p3 s0 = some z) : AS yX11_walls cX11_walls 8 (some .int) 4 [.ref 0, .int p1, .int p2, .int p3] s0 (some (.int z)) s0 := by
  unfold f_X11_walls at E
  refine as_met (lv := [(0, .ref 0), (1, .int p1), (2, .int p2), (3, .int p3)]) (by decide +kernel) (by simp [lg_sl, Value.category]) rfl (fun x C A Z => ?_)
  refine am_aload_n 0 C dX11_walls_0 rfl 0 rfl ?_
  refine as_getr 1 C fl_X11_36_10 dX11_walls_1 (by decide) sh_0 (rf_0_8 _ _) ?_
  refine as_getr 4 C fl_X11_57_4 dX11_walls_4 (by decide) sh_15 (rf_15_0 _ _) ?_
  refine am_iload_n 7 C dX11_walls_7 rfl 1 rfl ?_
  refine am_iload_n 8 C dX11_walls_8 rfl 2 rfl ?_
  obtain ⟨v4, Ec, E⟩ := am_bdE E
  refine as_callV 9 (s2 := s0) (st := []) (st2 := [.int v4]) [.int p1, .int p2] C A (by decide) ml_X11_187 yc_X8_hasTwo yv_X8_hasTwo (t_X8_hasTwo 16 p1 p2 s0 Ec) (by decide) sh_16 rfl rfl (Nat.le_of_ble_eq_true rfl) rfl dX11_walls_9 ?_
  refine am_if_eq 12 22 C dX11_walls_12 (by decide) (fun c20 => ?_) (fun c20 => ?_)
  · have E := am_ifT E c20
    refine am_iconst 22 (-1 : Int32) C dX11_walls_22 (by decide) ?_
    replace E := Option.some.inj E
    subst E
    exact as_iret 23 C Z rfl dX11_walls_23
  · have E := am_ifF E c20
    refine am_iload_n 15 C dX11_walls_15 rfl 3 rfl ?_
    obtain ⟨v5, Ec, E⟩ := am_bdE E
    refine as_callS 16 (s2 := s0) (st := []) (st2 := [.int v5]) [.int p3] C A (by decide) ml_X11_284 yc_X11_isBit ys_X11_isBit (t_X11_isBit p3 s0 Ec) rfl rfl (Nat.le_of_ble_eq_true rfl) rfl dX11_walls_16 ?_
    refine am_if_ne 19 24 C dX11_walls_19 (by decide) (fun c19 => ?_) (fun c19 => ?_)
    · have E := am_ifF E c19
      refine am_bipush 24 (nI 11) C dX11_walls_24 (by decide) ?_
      refine am_istore 26 (lv2 := [(4, .int (nI 11)), (0, .ref 0), (1, .int p1), (2, .int p2), (3, .int p3)]) C dX11_walls_26 (by decide) rfl ?_
      refine am_iconst 28 (0 : Int32) C dX11_walls_28 (by decide) ?_
      refine am_istore 29 (lv2 := [(5, .int (0 : Int32)), (4, .int (nI 11)), (0, .ref 0), (1, .int p1), (2, .int p2), (3, .int p3)]) C dX11_walls_29 (by decide) rfl ?_
      refine am_iconst 31 (0 : Int32) C dX11_walls_31 (by decide) ?_
      refine am_istore 32 (lv2 := [(6, .int (0 : Int32)), (5, .int (0 : Int32)), (4, .int (nI 11)), (0, .ref 0), (1, .int p1), (2, .int p2), (3, .int p3)]) C dX11_walls_32 (by decide) rfl ?_
      have LP6 : ∀ (n : Nat) (v7 : Int32) (v8 : Int32) (v9 : Int32), am_lp (fun (q : Int32 × Int32 × Int32) => b_X11_walls_34 p1 p2 p3 s0 q.1 q.2.1 q.2.2) n (v7, v8, v9) = some z → AX x 0 0 34 [(0, .ref 0), (1, .int p1), (2, .int p2), (3, .int p3), (4, .int v7), (5, .int v8), (6, .int v9)] [] am_N (am_h s0) := by
        intro n
        induction n with
        | zero => intro v7 v8 v9 E; exact (am_lp0 E).elim
        | succ n ih6 =>
          intro v7 v8 v9 E
          obtain ⟨r6, E, Er6⟩ := am_lpE E
          replace E : b_X11_walls_34 p1 p2 p3 s0 v7 v8 v9 = some r6 := E
          unfold b_X11_walls_34 at E
          refine am_iload 34 C dX11_walls_34 6 rfl ?_
          refine am_iconst 36 (1 : Int32) C dX11_walls_36 (by decide) ?_
          refine am_aload_n 37 C dX11_walls_37 rfl 0 rfl ?_
          refine as_getr 38 C fl_X11_36_10 dX11_walls_38 (by decide) sh_0 (rf_0_8 _ _) ?_
          refine as_getr 41 C fl_X11_57_4 dX11_walls_41 (by decide) sh_15 (rf_15_0 _ _) ?_
          refine as_geti 44 C fl_X11_200_7 dX11_walls_44 (by decide) sh_16 ?_
          refine am_ishl 47 C dX11_walls_47 ?_
          refine am_icmp_ge 48 98 C dX11_walls_48 (by decide) (fun c18 => ?_) (fun c18 => ?_)
          · have E := am_ifT E c18
            refine am_iload_n 98 C dX11_walls_98 rfl 3 rfl ?_
            refine am_if_ne 99 107 C dX11_walls_99 (by decide) (fun c10 => ?_) (fun c10 => ?_)
            · have E := am_ifF E c10
              refine am_iload 107 C dX11_walls_107 5 rfl ?_
              replace E := Option.some.inj E
              replace E := am_exR E Er6
              subst E
              exact as_iret 109 C Z rfl dX11_walls_109
            · have E := am_ifT E c10
              refine am_iload 102 C dX11_walls_102 4 rfl ?_
              refine am_goto 104 109 C dX11_walls_104 (by decide) ?_
              replace E := Option.some.inj E
              replace E := am_exR E Er6
              subst E
              exact as_iret 109 C Z rfl dX11_walls_109
          · have E := am_ifF E c18
            refine am_iload 51 C dX11_walls_51 6 rfl ?_
            obtain ⟨v11, Ec, E⟩ := am_bdE E
            refine as_callS 53 (s2 := s0) (st := []) (st2 := [.int v11]) [.int v9] C A (by decide) ml_X11_323 yc_J6_bitCount_0f7a4 ys_J6_bitCount_0f7a4 (t_J6_bitCount_0f7a4 v9 s0 Ec) rfl rfl (Nat.le_of_ble_eq_true rfl) rfl dX11_walls_53 ?_
            refine am_istore 56 (lv2 := [(7, .int v11), (0, .ref 0), (1, .int p1), (2, .int p2), (3, .int p3), (4, .int v7), (5, .int v8), (6, .int v9)]) C dX11_walls_56 (by decide) rfl ?_
            refine am_iload 58 C dX11_walls_58 0 rfl ?_
            refine am_iload 60 C dX11_walls_60 5 rfl ?_
            refine am_icmp_ge 62 92 C dX11_walls_62 (by decide) (fun c17 => ?_) (fun c17 => ?_)
            · have E := am_ifT E c17
              obtain ⟨v12, hv12, E⟩ := am_ltE E
              refine as_iinc 92 (q := (1 : Int32)) (lv2 := [(6, .int v12), (7, .int v11), (0, .ref 0), (1, .int p1), (2, .int p2), (3, .int p3), (4, .int v7), (5, .int v8)]) C dX11_walls_92 7 rfl (by decide) hv12 (by decide) rfl ?_
              refine am_goto 95 34 C dX11_walls_95 (by decide) ?_
              replace E := Option.some.inj E
              replace E := am_exL E Er6
              refine am_lvs [2, 3, 4, 5, 6, 7, 0] rfl ?_
              exact ih6 _ _ _ E
            · have E := am_ifF E c17
              refine am_aload_n 65 C dX11_walls_65 rfl 1 rfl ?_
              refine as_getr 66 C fl_X11_36_10 dX11_walls_66 (by decide) sh_0 (rf_0_8 _ _) ?_
              refine as_getr 69 C fl_X11_57_4 dX11_walls_69 (by decide) sh_15 (rf_15_0 _ _) ?_
              refine am_iload_n 72 C dX11_walls_72 rfl 2 rfl ?_
              refine am_iload_n 73 C dX11_walls_73 rfl 3 rfl ?_
              refine am_iload 74 C dX11_walls_74 7 rfl ?_
              obtain ⟨v13, Ec, E⟩ := am_bdE E
              refine as_callV 76 (s2 := s0) (st := []) (st2 := [.int v13]) [.int p1, .int p2, .int v9] C A (by decide) ml_X11_355 yc_X8_distance yv_X8_distance (t_X8_distance p1 p2 v9 s0 Ec) (by decide) sh_16 rfl rfl (Nat.le_of_ble_eq_true rfl) rfl dX11_walls_76 ?_
              refine am_bipush 79 (-2 : Int32) C dX11_walls_79 (by decide) ?_
              refine am_icmp_ne 81 92 C dX11_walls_81 (by decide) (fun c16 => ?_) (fun c16 => ?_)
              · have E := am_ifF E c16
                obtain ⟨v14, hv14, E⟩ := am_ltE E
                refine as_iinc 92 (q := (1 : Int32)) (lv2 := [(6, .int v14), (7, .int v11), (0, .ref 0), (1, .int p1), (2, .int p2), (3, .int p3), (4, .int v7), (5, .int v8)]) C dX11_walls_92 7 rfl (by decide) hv14 (by decide) rfl ?_
                refine am_goto 95 34 C dX11_walls_95 (by decide) ?_
                replace E := Option.some.inj E
                replace E := am_exL E Er6
                refine am_lvs [2, 3, 4, 5, 6, 7, 0] rfl ?_
                exact ih6 _ _ _ E
              · have E := am_ifT E c16
                refine am_iload 84 C dX11_walls_84 0 rfl ?_
                refine am_istore 86 (lv2 := [(4, .int v11), (7, .int v11), (0, .ref 0), (1, .int p1), (2, .int p2), (3, .int p3), (5, .int v8), (6, .int v9)]) C dX11_walls_86 (by decide) rfl ?_
                refine am_iload 88 C dX11_walls_88 7 rfl ?_
                refine am_istore 90 (lv2 := [(5, .int v9), (4, .int v11), (7, .int v11), (0, .ref 0), (1, .int p1), (2, .int p2), (3, .int p3), (6, .int v9)]) C dX11_walls_90 (by decide) rfl ?_
                obtain ⟨v15, hv15, E⟩ := am_ltE E
                refine as_iinc 92 (q := (1 : Int32)) (lv2 := [(6, .int v15), (5, .int v9), (4, .int v11), (7, .int v11), (0, .ref 0), (1, .int p1), (2, .int p2), (3, .int p3)]) C dX11_walls_92 7 rfl (by decide) hv15 (by decide) rfl ?_
                refine am_goto 95 34 C dX11_walls_95 (by decide) ?_
                replace E := Option.some.inj E
                replace E := am_exL E Er6
                refine am_lvs [4, 5, 6, 7, 2, 1, 0] rfl ?_
                exact ih6 _ _ _ E
      refine am_lvs [3, 4, 5, 6, 2, 1, 0] rfl ?_
      exact LP6 am_F _ _ _ E
    · have E := am_ifT E c19
      refine am_iconst 22 (-1 : Int32) C dX11_walls_22 (by decide) ?_
      replace E := Option.some.inj E
      subst E
      exact as_iret 23 C Z rfl dX11_walls_23
def f_X11_leak (p1 : Int32) (p2 : Int32) (s0 : am_S) : Option (Int32) :=
  am_bd (f_X8_hasPerson 16 p1 s0) (fun v3 => am_if (v3 = 0) (some (-1 : Int32)) (am_bd (f_X8_hasPerson 16 p2 s0) (fun v4 => am_if (v4 = 0) (some (-1 : Int32)) (am_bd (f_X8_distance p1 p2 (0 : Int32) s0) (fun v5 => some v5)))))
set_option maxRecDepth 100000 in
set_option maxHeartbeats 4000000 in
theorem t_X11_leak (p1 : Int32) (p2 : Int32) (s0 : am_S) {z : Int32} (E : f_X11_leak p1 p2 s0 = some z) : AS yX11_leak cX11_leak 3 (some .int) 4 [.ref 0, .int p1, .int p2] s0 (some (.int z)) s0 := by
  unfold f_X11_leak at E
  refine as_met (lv := [(0, .ref 0), (1, .int p1), (2, .int p2)]) (by decide +kernel) (by simp [lg_sl, Value.category]) rfl (fun x C A Z => ?_)
  refine am_aload_n 0 C dX11_leak_0 rfl 0 rfl ?_
  refine as_getr 1 C fl_X11_36_10 dX11_leak_1 (by decide) sh_0 (rf_0_8 _ _) ?_
  refine as_getr 4 C fl_X11_57_4 dX11_leak_4 (by decide) sh_15 (rf_15_0 _ _) ?_
  refine am_iload_n 7 C dX11_leak_7 rfl 1 rfl ?_
  obtain ⟨v3, Ec, E⟩ := am_bdE E
  refine as_callV 8 (s2 := s0) (st := []) (st2 := [.int v3]) [.int p1] C A (by decide) ml_X11_152 yc_X8_hasPerson yv_X8_hasPerson (t_X8_hasPerson 16 p1 s0 Ec) (by decide) sh_16 rfl rfl (Nat.le_of_ble_eq_true rfl) rfl dX11_leak_8 ?_
  refine am_if_eq 11 28 C dX11_leak_11 (by decide) (fun c7 => ?_) (fun c7 => ?_)
  · have E := am_ifT E c7
    refine am_iconst 28 (-1 : Int32) C dX11_leak_28 (by decide) ?_
    replace E := Option.some.inj E
    subst E
    exact as_iret 29 C Z rfl dX11_leak_29
  · have E := am_ifF E c7
    refine am_aload_n 14 C dX11_leak_14 rfl 0 rfl ?_
    refine as_getr 15 C fl_X11_36_10 dX11_leak_15 (by decide) sh_0 (rf_0_8 _ _) ?_
    refine as_getr 18 C fl_X11_57_4 dX11_leak_18 (by decide) sh_15 (rf_15_0 _ _) ?_
    refine am_iload_n 21 C dX11_leak_21 rfl 2 rfl ?_
    obtain ⟨v4, Ec, E⟩ := am_bdE E
    refine as_callV 22 (s2 := s0) (st := []) (st2 := [.int v4]) [.int p2] C A (by decide) ml_X11_152 yc_X8_hasPerson yv_X8_hasPerson (t_X8_hasPerson 16 p2 s0 Ec) (by decide) sh_16 rfl rfl (Nat.le_of_ble_eq_true rfl) rfl dX11_leak_22 ?_
    refine am_if_ne 25 30 C dX11_leak_25 (by decide) (fun c6 => ?_) (fun c6 => ?_)
    · have E := am_ifF E c6
      refine am_aload_n 30 C dX11_leak_30 rfl 0 rfl ?_
      refine as_getr 31 C fl_X11_36_10 dX11_leak_31 (by decide) sh_0 (rf_0_8 _ _) ?_
      refine as_getr 34 C fl_X11_57_4 dX11_leak_34 (by decide) sh_15 (rf_15_0 _ _) ?_
      refine am_iload_n 37 C dX11_leak_37 rfl 1 rfl ?_
      refine am_iload_n 38 C dX11_leak_38 rfl 2 rfl ?_
      refine am_iconst 39 (0 : Int32) C dX11_leak_39 (by decide) ?_
      obtain ⟨v5, Ec, E⟩ := am_bdE E
      refine as_callV 40 (s2 := s0) (st := []) (st2 := [.int v5]) [.int p1, .int p2, .int (0 : Int32)] C A (by decide) ml_X11_355 yc_X8_distance yv_X8_distance (t_X8_distance p1 p2 (0 : Int32) s0 Ec) (by decide) sh_16 rfl rfl (Nat.le_of_ble_eq_true rfl) rfl dX11_leak_40 ?_
      replace E := Option.some.inj E
      subst E
      exact as_iret 43 C Z rfl dX11_leak_43
    · have E := am_ifT E c6
      refine am_iconst 28 (-1 : Int32) C dX11_leak_28 (by decide) ?_
      replace E := Option.some.inj E
      subst E
      exact as_iret 29 C Z rfl dX11_leak_29
def j_X11_stated_55 (p1 : Int32) (p2 : Int32) (p3 : Int32) (v4 : Int32) (s5 : am_S) : Option (Int32 × am_S) :=
  am_if (v4 = 0) (some ((-2 : Int32), s5)) (am_if ((s5.1 15 4) < (nI 12)) (am_bd (f_X5_addStated p1 p2 p3 s5) (fun s6 => some ((s6.1 15 4), s6))) (some ((-2 : Int32), s5)))
def f_X11_stated (p1 : Int32) (p2 : Int32) (p3 : Int32) (s0 : am_S) : Option (Int32 × am_S) :=
  am_if (p1 = (-1 : Int32)) (am_lt (as_i s0 15 4 (0 : Int32)) (fun s15 => some ((0 : Int32), s15))) (am_bd (f_X8_hasPerson 16 p1 s0) (fun v9 => am_if (v9 = 0) (j_X11_stated_55 p1 p2 p3 (0 : Int32) s0) (am_bd (f_X8_hasFact p2 s0) (fun v10 => am_if (v10 = 0) (j_X11_stated_55 p1 p2 p3 (0 : Int32) s0) (am_bd (f_X11_isBit p3) (fun v11 => am_if (v11 = 0) (j_X11_stated_55 p1 p2 p3 (0 : Int32) s0) (j_X11_stated_55 p1 p2 p3 (1 : Int32) s0)))))))
set_option maxRecDepth 100000 in
set_option maxHeartbeats 4000000 in
theorem t_X11_stated (p1 : Int32) (p2 : Int32) (p3 : Int32) (s0 : am_S) {z : Int32 × am_S} (E : f_X11_stated p1 p2 p3 s0 = some z) : AS yX11_stated cX11_stated 5 (some .int) 2 [.ref 0, .int p1, .int p2, .int p3] s0 (some (.int z.1)) z.2 := by
  unfold f_X11_stated at E
  refine as_met (lv := [(0, .ref 0), (1, .int p1), (2, .int p2), (3, .int p3)]) (by decide +kernel) (by simp [lg_sl, Value.category]) rfl (fun x C A Z => ?_)
  have K55 : ∀ (v4 : Int32) (s5 : am_S), j_X11_stated_55 p1 p2 p3 v4 s5 = some z → AX x 0 0 55 [(0, .ref 0), (1, .int p1), (2, .int p2), (3, .int p3)] [.int v4] am_N (am_h s5) := by
    intro v4 s5 E
    unfold j_X11_stated_55 at E
    refine am_istore 55 (lv2 := [(4, .int v4), (0, .ref 0), (1, .int p1), (2, .int p2), (3, .int p3)]) C dX11_stated_55 (by decide) rfl ?_
    refine am_iload 57 C dX11_stated_57 0 rfl ?_
    refine am_if_eq 59 74 C dX11_stated_59 (by decide) (fun c8 => ?_) (fun c8 => ?_)
    · have E := am_ifT E c8
      refine am_bipush 74 (-2 : Int32) C dX11_stated_74 (by decide) ?_
      replace E := Option.some.inj E
      subst E
      exact as_iret 76 C Z rfl dX11_stated_76
    · have E := am_ifF E c8
      refine am_aload_n 62 C dX11_stated_62 rfl 1 rfl ?_
      refine as_getr 63 C fl_X11_36_10 dX11_stated_63 (by decide) sh_0 (rf_0_8 _ _) ?_
      refine as_geti 66 C fl_X11_217_4 dX11_stated_66 (by decide) sh_15 ?_
      refine am_bipush 69 (nI 12) C dX11_stated_69 (by decide) ?_
      refine am_icmp_lt 71 77 C dX11_stated_71 (by decide) (fun c7 => ?_) (fun c7 => ?_)
      · have E := am_ifT E c7
        refine am_aload_n 77 C dX11_stated_77 rfl 1 rfl ?_
        refine as_getr 78 C fl_X11_36_10 dX11_stated_78 (by decide) sh_0 (rf_0_8 _ _) ?_
        refine am_iload_n 81 C dX11_stated_81 rfl 2 rfl ?_
        refine am_iload_n 82 C dX11_stated_82 rfl 3 rfl ?_
        refine am_iload_n 83 C dX11_stated_83 rfl 4 rfl ?_
        obtain ⟨s6, Ec, E⟩ := am_bdE E
        refine as_callV 84 (s2 := s6) (st := []) (st2 := []) [.int p1, .int p2, .int p3] C A (by decide) ml_X11_358 yc_X5_addStated yv_X5_addStated (t_X5_addStated p1 p2 p3 s5 Ec) (by decide) sh_15 rfl rfl (Nat.le_of_ble_eq_true rfl) rfl dX11_stated_84 ?_
        refine am_aload_n 87 C dX11_stated_87 rfl 1 rfl ?_
        refine as_getr 88 C fl_X11_36_10 dX11_stated_88 (by decide) sh_0 (rf_0_8 _ _) ?_
        refine as_geti 91 C fl_X11_217_4 dX11_stated_91 (by decide) sh_15 ?_
        replace E := Option.some.inj E
        subst E
        exact as_iret 94 C Z rfl dX11_stated_94
      · have E := am_ifF E c7
        refine am_bipush 74 (-2 : Int32) C dX11_stated_74 (by decide) ?_
        replace E := Option.some.inj E
        subst E
        exact as_iret 76 C Z rfl dX11_stated_76
  refine am_iload_n 0 C dX11_stated_0 rfl 1 rfl ?_
  refine am_iconst 1 (-1 : Int32) C dX11_stated_1 (by decide) ?_
  refine am_icmp_ne 2 15 C dX11_stated_2 (by decide) (fun c16 => ?_) (fun c16 => ?_)
  · have E := am_ifF E c16
    refine am_aload_n 15 C dX11_stated_15 rfl 0 rfl ?_
    refine as_getr 16 C fl_X11_36_10 dX11_stated_16 (by decide) sh_0 (rf_0_8 _ _) ?_
    refine as_getr 19 C fl_X11_57_4 dX11_stated_19 (by decide) sh_15 (rf_15_0 _ _) ?_
    refine am_iload_n 22 C dX11_stated_22 rfl 1 rfl ?_
    obtain ⟨v9, Ec, E⟩ := am_bdE E
    refine as_callV 23 (s2 := s0) (st := []) (st2 := [.int v9]) [.int p1] C A (by decide) ml_X11_152 yc_X8_hasPerson yv_X8_hasPerson (t_X8_hasPerson 16 p1 s0 Ec) (by decide) sh_16 rfl rfl (Nat.le_of_ble_eq_true rfl) rfl dX11_stated_23 ?_
    refine am_if_eq 26 54 C dX11_stated_26 (by decide) (fun c14 => ?_) (fun c14 => ?_)
    · have E := am_ifT E c14
      refine am_iconst 54 (0 : Int32) C dX11_stated_54 (by decide) ?_
      refine am_lvs [0, 1, 2, 3] rfl ?_
      exact K55 _ _ E
    · have E := am_ifF E c14
      refine am_aload_n 29 C dX11_stated_29 rfl 0 rfl ?_
      refine as_getr 30 C fl_X11_36_10 dX11_stated_30 (by decide) sh_0 (rf_0_8 _ _) ?_
      refine as_getr 33 C fl_X11_57_4 dX11_stated_33 (by decide) sh_15 (rf_15_0 _ _) ?_
      refine am_iload_n 36 C dX11_stated_36 rfl 2 rfl ?_
      obtain ⟨v10, Ec, E⟩ := am_bdE E
      refine as_callV 37 (s2 := s0) (st := []) (st2 := [.int v10]) [.int p2] C A (by decide) ml_X11_155 yc_X8_hasFact yv_X8_hasFact (t_X8_hasFact p2 s0 Ec) (by decide) sh_16 rfl rfl (Nat.le_of_ble_eq_true rfl) rfl dX11_stated_37 ?_
      refine am_if_eq 40 54 C dX11_stated_40 (by decide) (fun c13 => ?_) (fun c13 => ?_)
      · have E := am_ifT E c13
        refine am_iconst 54 (0 : Int32) C dX11_stated_54 (by decide) ?_
        refine am_lvs [0, 1, 2, 3] rfl ?_
        exact K55 _ _ E
      · have E := am_ifF E c13
        refine am_iload_n 43 C dX11_stated_43 rfl 3 rfl ?_
        obtain ⟨v11, Ec, E⟩ := am_bdE E
        refine as_callS 44 (s2 := s0) (st := []) (st2 := [.int v11]) [.int p3] C A (by decide) ml_X11_284 yc_X11_isBit ys_X11_isBit (t_X11_isBit p3 s0 Ec) rfl rfl (Nat.le_of_ble_eq_true rfl) rfl dX11_stated_44 ?_
        refine am_if_eq 47 54 C dX11_stated_47 (by decide) (fun c12 => ?_) (fun c12 => ?_)
        · have E := am_ifT E c12
          refine am_iconst 54 (0 : Int32) C dX11_stated_54 (by decide) ?_
          refine am_lvs [0, 1, 2, 3] rfl ?_
          exact K55 _ _ E
        · have E := am_ifF E c12
          refine am_iconst 50 (1 : Int32) C dX11_stated_50 (by decide) ?_
          refine am_goto 51 55 C dX11_stated_51 (by decide) ?_
          refine am_lvs [0, 1, 2, 3] rfl ?_
          exact K55 _ _ E
  · have E := am_ifT E c16
    refine am_aload_n 5 C dX11_stated_5 rfl 0 rfl ?_
    refine as_getr 6 C fl_X11_36_10 dX11_stated_6 (by decide) sh_0 (rf_0_8 _ _) ?_
    refine am_iconst 9 (0 : Int32) C dX11_stated_9 (by decide) ?_
    obtain ⟨s15, hs15, E⟩ := am_ltE E
    refine as_puti 10 C fl_X11_217_4 dX11_stated_10 (by decide) sh_15 rfl rfl hs15 ?_
    refine am_iconst 13 (0 : Int32) C dX11_stated_13 (by decide) ?_
    replace E := Option.some.inj E
    subst E
    exact as_iret 14 C Z rfl dX11_stated_14
def f_X11_truths (p1 : Int32) (s0 : am_S) : Option (Int32 × am_S) :=
  am_if ((s0.1 16 0) = 0) (some ((-1 : Int32), s0)) (am_if (p1 < 0) (some ((-1 : Int32), s0)) (am_if (p1 ≤ (nI 4)) (am_bd (f_X10_weigh s0) (fun s2 => am_if ((s2.1 135 0) = 0) (some ((0 : Int32), s2)) (am_if (p1 = (0 : Int32)) (some ((s2.1 135 0), s2)) (am_if (p1 = (1 : Int32)) (some ((s2.1 135 1), s2)) (am_if (p1 = (nI 2)) (some ((s2.1 135 2), s2)) (am_if (p1 = (nI 3)) (some ((s2.1 135 3), s2)) (some ((s2.1 135 4), s2)))))))) (some ((-1 : Int32), s0))))
set_option maxRecDepth 100000 in
set_option maxHeartbeats 4000000 in
theorem t_X11_truths (p1 : Int32) (s0 : am_S) {z : Int32 × am_S} (E : f_X11_truths p1 s0 = some z) : AS yX11_truths cX11_truths 2 (some .int) 5 [.ref 0, .int p1] s0 (some (.int z.1)) z.2 := by
  unfold f_X11_truths at E
  refine as_met (lv := [(0, .ref 0), (1, .int p1)]) (by decide +kernel) (by simp [lg_sl, Value.category]) rfl (fun x C A Z => ?_)
  refine am_aload_n 0 C dX11_truths_0 rfl 0 rfl ?_
  refine as_getr 1 C fl_X11_36_10 dX11_truths_1 (by decide) sh_0 (rf_0_8 _ _) ?_
  refine as_getr 4 C fl_X11_57_4 dX11_truths_4 (by decide) sh_15 (rf_15_0 _ _) ?_
  refine as_geti 7 C fl_X11_262_7 dX11_truths_7 (by decide) sh_16 ?_
  refine am_if_eq 10 22 C dX11_truths_10 (by decide) (fun c10 => ?_) (fun c10 => ?_)
  · have E := am_ifT E c10
    refine am_iconst 22 (-1 : Int32) C dX11_truths_22 (by decide) ?_
    replace E := Option.some.inj E
    subst E
    exact as_iret 23 C Z rfl dX11_truths_23
  · have E := am_ifF E c10
    refine am_iload_n 13 C dX11_truths_13 rfl 1 rfl ?_
    refine am_if_lt 14 22 C dX11_truths_14 (by decide) (fun c9 => ?_) (fun c9 => ?_)
    · have E := am_ifT E c9
      refine am_iconst 22 (-1 : Int32) C dX11_truths_22 (by decide) ?_
      replace E := Option.some.inj E
      subst E
      exact as_iret 23 C Z rfl dX11_truths_23
    · have E := am_ifF E c9
      refine am_iload_n 17 C dX11_truths_17 rfl 1 rfl ?_
      refine am_iconst 18 (nI 4) C dX11_truths_18 (by decide) ?_
      refine am_icmp_le 19 24 C dX11_truths_19 (by decide) (fun c8 => ?_) (fun c8 => ?_)
      · have E := am_ifT E c8
        refine am_aload_n 24 C dX11_truths_24 rfl 0 rfl ?_
        refine as_getr 25 C fl_X11_74_10 dX11_truths_25 (by decide) sh_0 (rf_0_13 _ _) ?_
        refine am_aload_n 28 C dX11_truths_28 rfl 0 rfl ?_
        refine as_getr 29 C fl_X11_36_10 dX11_truths_29 (by decide) sh_0 (rf_0_8 _ _) ?_
        obtain ⟨s2, Ec, E⟩ := am_bdE E
        refine as_callV 32 (s2 := s2) (st := []) (st2 := []) [.ref 15] C A (by decide) ml_X11_362 yc_X10_weigh yv_X10_weigh (t_X10_weigh  s0 Ec) (by decide) sh_135 rfl rfl (Nat.le_of_ble_eq_true rfl) rfl dX11_truths_32 ?_
        refine am_aload_n 35 C dX11_truths_35 rfl 0 rfl ?_
        refine as_getr 36 C fl_X11_74_10 dX11_truths_36 (by decide) sh_0 (rf_0_13 _ _) ?_
        refine as_geti 39 C fl_X11_366_9 dX11_truths_39 (by decide) sh_135 ?_
        refine am_if_ne 42 47 C dX11_truths_42 (by decide) (fun c7 => ?_) (fun c7 => ?_)
        · have E := am_ifF E c7
          refine am_iload_n 47 C dX11_truths_47 rfl 1 rfl ?_
          by_cases c3 : p1 = (0 : Int32)
          · have E := am_ifT E c3
            refine am_tabIn 48 80 C dX11_truths_48 (by rw [c3]; decide) (by rw [c3]; decide) (by rw [c3]; rfl) (by decide) ?_
            refine am_aload_n 80 C dX11_truths_80 rfl 0 rfl ?_
            refine as_getr 81 C fl_X11_74_10 dX11_truths_81 (by decide) sh_0 (rf_0_13 _ _) ?_
            refine as_geti 84 C fl_X11_366_9 dX11_truths_84 (by decide) sh_135 ?_
            replace E := Option.some.inj E
            subst E
            exact as_iret 87 C Z rfl dX11_truths_87
          · have E := am_ifF E c3
            by_cases c4 : p1 = (1 : Int32)
            · have E := am_ifT E c4
              refine am_tabIn 48 88 C dX11_truths_48 (by rw [c4]; decide) (by rw [c4]; decide) (by rw [c4]; rfl) (by decide) ?_
              refine am_aload_n 88 C dX11_truths_88 rfl 0 rfl ?_
              refine as_getr 89 C fl_X11_74_10 dX11_truths_89 (by decide) sh_0 (rf_0_13 _ _) ?_
              refine as_geti 92 C fl_X11_369_9 dX11_truths_92 (by decide) sh_135 ?_
              replace E := Option.some.inj E
              subst E
              exact as_iret 95 C Z rfl dX11_truths_95
            · have E := am_ifF E c4
              by_cases c5 : p1 = (nI 2)
              · have E := am_ifT E c5
                refine am_tabIn 48 96 C dX11_truths_48 (by rw [c5]; decide) (by rw [c5]; decide) (by rw [c5]; rfl) (by decide) ?_
                refine am_aload_n 96 C dX11_truths_96 rfl 0 rfl ?_
                refine as_getr 97 C fl_X11_74_10 dX11_truths_97 (by decide) sh_0 (rf_0_13 _ _) ?_
                refine as_geti 100 C fl_X11_372_9 dX11_truths_100 (by decide) sh_135 ?_
                replace E := Option.some.inj E
                subst E
                exact as_iret 103 C Z rfl dX11_truths_103
              · have E := am_ifF E c5
                by_cases c6 : p1 = (nI 3)
                · have E := am_ifT E c6
                  refine am_tabIn 48 104 C dX11_truths_48 (by rw [c6]; decide) (by rw [c6]; decide) (by rw [c6]; rfl) (by decide) ?_
                  refine am_aload_n 104 C dX11_truths_104 rfl 0 rfl ?_
                  refine as_getr 105 C fl_X11_74_10 dX11_truths_105 (by decide) sh_0 (rf_0_13 _ _) ?_
                  refine as_geti 108 C fl_X11_375_9 dX11_truths_108 (by decide) sh_135 ?_
                  replace E := Option.some.inj E
                  subst E
                  exact as_iret 111 C Z rfl dX11_truths_111
                · have E := am_ifF E c6
                  have ec3 := am_neI c3 0 (by decide)
                  have ec4 := am_neI c4 1 (by decide)
                  have ec5 := am_neI c5 2 (by decide)
                  have ec6 := am_neI c6 3 (by decide)
                  refine am_tabOut 48 112 C dX11_truths_48 (by omega) (by decide) ?_
                  refine am_aload_n 112 C dX11_truths_112 rfl 0 rfl ?_
                  refine as_getr 113 C fl_X11_74_10 dX11_truths_113 (by decide) sh_0 (rf_0_13 _ _) ?_
                  refine as_geti 116 C fl_X11_378_9 dX11_truths_116 (by decide) sh_135 ?_
                  replace E := Option.some.inj E
                  subst E
                  exact as_iret 119 C Z rfl dX11_truths_119
        · have E := am_ifT E c7
          refine am_iconst 45 (0 : Int32) C dX11_truths_45 (by decide) ?_
          replace E := Option.some.inj E
          subst E
          exact as_iret 46 C Z rfl dX11_truths_46
      · have E := am_ifF E c8
        refine am_iconst 22 (-1 : Int32) C dX11_truths_22 (by decide) ?_
        replace E := Option.some.inj E
        subst E
        exact as_iret 23 C Z rfl dX11_truths_23
def j_X11_ask_91 (p1 : Int32) (v2 : Int32) (s3 : am_S) : Option (Int32 × am_S) :=
  am_if (p1 = 0) (some (v2, s3)) (am_bd (f_X10_mostAgreeing v2 s3) (fun v4 => some (v4, s3)))
def b_X11_ask_50 (p1 : Int32) (s7 : am_S) (v9 : Int32) (v10 : Int32) : Option ((Int32 × Int32) ⊕ (Int32 × am_S)) :=
  am_if ((s7.1 16 1) ≤ v10) (am_bd (j_X11_ask_91 p1 v9 s7) (fun e11 => some (Sum.inr e11))) (am_bd (f_X10_mostAgreeing v10 s7) (fun v12 => am_bd (f_X10_mostAgreeing v9 s7) (fun v13 => am_if (v13 ≤ v12) (am_lt (v10 + (1 : Int32)) (fun v14 => some (Sum.inl (v9, v14)))) (am_lt (v10 + (1 : Int32)) (fun v15 => some (Sum.inl (v10, v15)))))))
def f_X11_ask (p1 : Int32) (s0 : am_S) : Option (Int32 × am_S) :=
  am_if ((s0.1 16 0) = 0) (some ((-1 : Int32), s0)) (am_bd (f_X11_isBit p1) (fun v6 => am_if (v6 = 0) (some ((-1 : Int32), s0)) (am_bd (f_X10_weigh s0) (fun s7 => am_if ((s7.1 135 0) = 0) (some ((-2 : Int32), s7)) (am_lp (fun (q : Int32 × Int32) => b_X11_ask_50 p1 s7 q.1 q.2) am_F ((0 : Int32), (1 : Int32)))))))
set_option maxRecDepth 100000 in
set_option maxHeartbeats 4000000 in
theorem t_X11_ask (p1 : Int32) (s0 : am_S) {z : Int32 × am_S} (E : f_X11_ask p1 s0 = some z) : AS yX11_ask cX11_ask 4 (some .int) 5 [.ref 0, .int p1] s0 (some (.int z.1)) z.2 := by
  unfold f_X11_ask at E
  refine as_met (lv := [(0, .ref 0), (1, .int p1)]) (by decide +kernel) (by simp [lg_sl, Value.category]) rfl (fun x C A Z => ?_)
  have K91 : ∀ (v2 : Int32) (s3 : am_S), j_X11_ask_91 p1 v2 s3 = some z → AX x 0 0 91 [(0, .ref 0), (1, .int p1), (2, .int v2)] [] am_N (am_h s3) := by
    intro v2 s3 E
    unfold j_X11_ask_91 at E
    refine am_iload_n 91 C dX11_ask_91 rfl 1 rfl ?_
    refine am_if_ne 92 99 C dX11_ask_92 (by decide) (fun c5 => ?_) (fun c5 => ?_)
    · have E := am_ifF E c5
      refine am_aload_n 99 C dX11_ask_99 rfl 0 rfl ?_
      refine as_getr 100 C fl_X11_74_10 dX11_ask_100 (by decide) sh_0 (rf_0_13 _ _) ?_
      refine am_iload_n 103 C dX11_ask_103 rfl 2 rfl ?_
      obtain ⟨v4, Ec, E⟩ := am_bdE E
      refine as_callV 104 (s2 := s3) (st := []) (st2 := [.int v4]) [.int v2] C A (by decide) ml_X11_381 yc_X10_mostAgreeing yv_X10_mostAgreeing (t_X10_mostAgreeing v2 s3 Ec) (by decide) sh_135 rfl rfl (Nat.le_of_ble_eq_true rfl) rfl dX11_ask_104 ?_
      replace E := Option.some.inj E
      subst E
      exact as_iret 107 C Z rfl dX11_ask_107
    · have E := am_ifT E c5
      refine am_iload_n 95 C dX11_ask_95 rfl 2 rfl ?_
      refine am_goto 96 107 C dX11_ask_96 (by decide) ?_
      replace E := Option.some.inj E
      subst E
      exact as_iret 107 C Z rfl dX11_ask_107
  refine am_aload_n 0 C dX11_ask_0 rfl 0 rfl ?_
  refine as_getr 1 C fl_X11_36_10 dX11_ask_1 (by decide) sh_0 (rf_0_8 _ _) ?_
  refine as_getr 4 C fl_X11_57_4 dX11_ask_4 (by decide) sh_15 (rf_15_0 _ _) ?_
  refine as_geti 7 C fl_X11_262_7 dX11_ask_7 (by decide) sh_16 ?_
  refine am_if_eq 10 20 C dX11_ask_10 (by decide) (fun c20 => ?_) (fun c20 => ?_)
  · have E := am_ifT E c20
    refine am_iconst 20 (-1 : Int32) C dX11_ask_20 (by decide) ?_
    replace E := Option.some.inj E
    subst E
    exact as_iret 21 C Z rfl dX11_ask_21
  · have E := am_ifF E c20
    refine am_iload_n 13 C dX11_ask_13 rfl 1 rfl ?_
    obtain ⟨v6, Ec, E⟩ := am_bdE E
    refine as_callS 14 (s2 := s0) (st := []) (st2 := [.int v6]) [.int p1] C A (by decide) ml_X11_284 yc_X11_isBit ys_X11_isBit (t_X11_isBit p1 s0 Ec) rfl rfl (Nat.le_of_ble_eq_true rfl) rfl dX11_ask_14 ?_
    refine am_if_ne 17 22 C dX11_ask_17 (by decide) (fun c19 => ?_) (fun c19 => ?_)
    · have E := am_ifF E c19
      refine am_aload_n 22 C dX11_ask_22 rfl 0 rfl ?_
      refine as_getr 23 C fl_X11_74_10 dX11_ask_23 (by decide) sh_0 (rf_0_13 _ _) ?_
      refine am_aload_n 26 C dX11_ask_26 rfl 0 rfl ?_
      refine as_getr 27 C fl_X11_36_10 dX11_ask_27 (by decide) sh_0 (rf_0_8 _ _) ?_
      obtain ⟨s7, Ec, E⟩ := am_bdE E
      refine as_callV 30 (s2 := s7) (st := []) (st2 := []) [.ref 15] C A (by decide) ml_X11_362 yc_X10_weigh yv_X10_weigh (t_X10_weigh  s0 Ec) (by decide) sh_135 rfl rfl (Nat.le_of_ble_eq_true rfl) rfl dX11_ask_30 ?_
      refine am_aload_n 33 C dX11_ask_33 rfl 0 rfl ?_
      refine as_getr 34 C fl_X11_74_10 dX11_ask_34 (by decide) sh_0 (rf_0_13 _ _) ?_
      refine as_geti 37 C fl_X11_366_9 dX11_ask_37 (by decide) sh_135 ?_
      refine am_if_ne 40 46 C dX11_ask_40 (by decide) (fun c18 => ?_) (fun c18 => ?_)
      · have E := am_ifF E c18
        refine am_iconst 46 (0 : Int32) C dX11_ask_46 (by decide) ?_
        refine am_istore_n 47 (lv2 := [(2, .int (0 : Int32)), (0, .ref 0), (1, .int p1)]) C dX11_ask_47 rfl (by decide) rfl ?_
        refine am_iconst 48 (1 : Int32) C dX11_ask_48 (by decide) ?_
        refine am_istore_n 49 (lv2 := [(3, .int (1 : Int32)), (2, .int (0 : Int32)), (0, .ref 0), (1, .int p1)]) C dX11_ask_49 rfl (by decide) rfl ?_
        have LP8 : ∀ (n : Nat) (v9 : Int32) (v10 : Int32), am_lp (fun (q : Int32 × Int32) => b_X11_ask_50 p1 s7 q.1 q.2) n (v9, v10) = some z → AX x 0 0 50 [(0, .ref 0), (1, .int p1), (2, .int v9), (3, .int v10)] [] am_N (am_h s7) := by
          intro n
          induction n with
          | zero => intro v9 v10 E; exact (am_lp0 E).elim
          | succ n ih8 =>
            intro v9 v10 E
            obtain ⟨r8, E, Er8⟩ := am_lpE E
            replace E : b_X11_ask_50 p1 s7 v9 v10 = some r8 := E
            unfold b_X11_ask_50 at E
            refine am_iload_n 50 C dX11_ask_50 rfl 3 rfl ?_
            refine am_aload_n 51 C dX11_ask_51 rfl 0 rfl ?_
            refine as_getr 52 C fl_X11_36_10 dX11_ask_52 (by decide) sh_0 (rf_0_8 _ _) ?_
            refine as_getr 55 C fl_X11_57_4 dX11_ask_55 (by decide) sh_15 (rf_15_0 _ _) ?_
            refine as_geti 58 C fl_X11_194_7 dX11_ask_58 (by decide) sh_16 ?_
            refine am_icmp_ge 61 91 C dX11_ask_61 (by decide) (fun c17 => ?_) (fun c17 => ?_)
            · have E := am_ifT E c17
              obtain ⟨e11, E, E2⟩ := am_bdE E
              replace E2 := Option.some.inj E2
              replace E2 := am_exR E2 Er8
              rw [E2] at E
              refine am_lvs [0, 1, 2] rfl ?_
              exact K91 _ _ E
            · have E := am_ifF E c17
              refine am_aload_n 64 C dX11_ask_64 rfl 0 rfl ?_
              refine as_getr 65 C fl_X11_74_10 dX11_ask_65 (by decide) sh_0 (rf_0_13 _ _) ?_
              refine am_iload_n 68 C dX11_ask_68 rfl 3 rfl ?_
              obtain ⟨v12, Ec, E⟩ := am_bdE E
              refine as_callV 69 (s2 := s7) (st := []) (st2 := [.int v12]) [.int v10] C A (by decide) ml_X11_381 yc_X10_mostAgreeing yv_X10_mostAgreeing (t_X10_mostAgreeing v10 s7 Ec) (by decide) sh_135 rfl rfl (Nat.le_of_ble_eq_true rfl) rfl dX11_ask_69 ?_
              refine am_aload_n 72 C dX11_ask_72 rfl 0 rfl ?_
              refine as_getr 73 C fl_X11_74_10 dX11_ask_73 (by decide) sh_0 (rf_0_13 _ _) ?_
              refine am_iload_n 76 C dX11_ask_76 rfl 2 rfl ?_
              obtain ⟨v13, Ec, E⟩ := am_bdE E
              refine as_callV 77 (s2 := s7) (st := [.int v12]) (st2 := [.int v13, .int v12]) [.int v9] C A (by decide) ml_X11_381 yc_X10_mostAgreeing yv_X10_mostAgreeing (t_X10_mostAgreeing v9 s7 Ec) (by decide) sh_135 rfl rfl (Nat.le_of_ble_eq_true rfl) rfl dX11_ask_77 ?_
              refine am_icmp_ge 80 85 C dX11_ask_80 (by decide) (fun c16 => ?_) (fun c16 => ?_)
              · have E := am_ifT E c16
                obtain ⟨v14, hv14, E⟩ := am_ltE E
                refine as_iinc 85 (q := (1 : Int32)) (lv2 := [(3, .int v14), (0, .ref 0), (1, .int p1), (2, .int v9)]) C dX11_ask_85 3 rfl (by decide) hv14 (by decide) rfl ?_
                refine am_goto 88 50 C dX11_ask_88 (by decide) ?_
                replace E := Option.some.inj E
                replace E := am_exL E Er8
                refine am_lvs [1, 2, 3, 0] rfl ?_
                exact ih8 _ _ E
              · have E := am_ifF E c16
                refine am_iload_n 83 C dX11_ask_83 rfl 3 rfl ?_
                refine am_istore_n 84 (lv2 := [(2, .int v10), (0, .ref 0), (1, .int p1), (3, .int v10)]) C dX11_ask_84 rfl (by decide) rfl ?_
                obtain ⟨v15, hv15, E⟩ := am_ltE E
                refine as_iinc 85 (q := (1 : Int32)) (lv2 := [(3, .int v15), (2, .int v10), (0, .ref 0), (1, .int p1)]) C dX11_ask_85 3 rfl (by decide) hv15 (by decide) rfl ?_
                refine am_goto 88 50 C dX11_ask_88 (by decide) ?_
                replace E := Option.some.inj E
                replace E := am_exL E Er8
                refine am_lvs [2, 3, 1, 0] rfl ?_
                exact ih8 _ _ E
        refine am_lvs [2, 3, 1, 0] rfl ?_
        exact LP8 am_F _ _ E
      · have E := am_ifT E c18
        refine am_bipush 43 (-2 : Int32) C dX11_ask_43 (by decide) ?_
        replace E := Option.some.inj E
        subst E
        exact as_iret 45 C Z rfl dX11_ask_45
    · have E := am_ifT E c19
      refine am_iconst 20 (-1 : Int32) C dX11_ask_20 (by decide) ?_
      replace E := Option.some.inj E
      subst E
      exact as_iret 21 C Z rfl dX11_ask_21
def f_X11_tale (p1 : Int32) (p2 : Int32) (s0 : am_S) : Option (Int32 × am_S) :=
  am_if (p1 = (-1 : Int32)) (am_bd (f_X5_forgetTales s0) (fun s7 => some ((0 : Int32), s7))) (am_if (p1 < 0) (some ((-2 : Int32), s0)) (am_if ((nI 10) ≤ p1) (some ((-2 : Int32), s0)) (am_if ((s0.1 15 6) < (nI 10)) (am_bd (f_X5_addTale p1 p2 s0) (fun s3 => some ((s3.1 15 6), s3))) (some ((-2 : Int32), s0)))))
set_option maxRecDepth 100000 in
set_option maxHeartbeats 4000000 in
theorem t_X11_tale (p1 : Int32) (p2 : Int32) (s0 : am_S) {z : Int32 × am_S} (E : f_X11_tale p1 p2 s0 = some z) : AS yX11_tale cX11_tale 3 (some .int) 2 [.ref 0, .int p1, .int p2] s0 (some (.int z.1)) z.2 := by
  unfold f_X11_tale at E
  refine as_met (lv := [(0, .ref 0), (1, .int p1), (2, .int p2)]) (by decide +kernel) (by simp [lg_sl, Value.category]) rfl (fun x C A Z => ?_)
  refine am_iload_n 0 C dX11_tale_0 rfl 1 rfl ?_
  refine am_iconst 1 (-1 : Int32) C dX11_tale_1 (by decide) ?_
  refine am_icmp_ne 2 14 C dX11_tale_2 (by decide) (fun c8 => ?_) (fun c8 => ?_)
  · have E := am_ifF E c8
    refine am_iload_n 14 C dX11_tale_14 rfl 1 rfl ?_
    refine am_if_lt 15 36 C dX11_tale_15 (by decide) (fun c6 => ?_) (fun c6 => ?_)
    · have E := am_ifT E c6
      refine am_bipush 36 (-2 : Int32) C dX11_tale_36 (by decide) ?_
      replace E := Option.some.inj E
      subst E
      exact as_iret 38 C Z rfl dX11_tale_38
    · have E := am_ifF E c6
      refine am_iload_n 18 C dX11_tale_18 rfl 1 rfl ?_
      refine am_bipush 19 (nI 10) C dX11_tale_19 (by decide) ?_
      refine am_icmp_ge 21 36 C dX11_tale_21 (by decide) (fun c5 => ?_) (fun c5 => ?_)
      · have E := am_ifT E c5
        refine am_bipush 36 (-2 : Int32) C dX11_tale_36 (by decide) ?_
        replace E := Option.some.inj E
        subst E
        exact as_iret 38 C Z rfl dX11_tale_38
      · have E := am_ifF E c5
        refine am_aload_n 24 C dX11_tale_24 rfl 0 rfl ?_
        refine as_getr 25 C fl_X11_36_10 dX11_tale_25 (by decide) sh_0 (rf_0_8 _ _) ?_
        refine as_geti 28 C fl_X11_220_4 dX11_tale_28 (by decide) sh_15 ?_
        refine am_bipush 31 (nI 10) C dX11_tale_31 (by decide) ?_
        refine am_icmp_lt 33 39 C dX11_tale_33 (by decide) (fun c4 => ?_) (fun c4 => ?_)
        · have E := am_ifT E c4
          refine am_aload_n 39 C dX11_tale_39 rfl 0 rfl ?_
          refine as_getr 40 C fl_X11_36_10 dX11_tale_40 (by decide) sh_0 (rf_0_8 _ _) ?_
          refine am_iload_n 43 C dX11_tale_43 rfl 1 rfl ?_
          refine am_iload_n 44 C dX11_tale_44 rfl 2 rfl ?_
          obtain ⟨s3, Ec, E⟩ := am_bdE E
          refine as_callV 45 (s2 := s3) (st := []) (st2 := []) [.int p1, .int p2] C A (by decide) ml_X11_387 yc_X5_addTale yv_X5_addTale (t_X5_addTale p1 p2 s0 Ec) (by decide) sh_15 rfl rfl (Nat.le_of_ble_eq_true rfl) rfl dX11_tale_45 ?_
          refine am_aload_n 48 C dX11_tale_48 rfl 0 rfl ?_
          refine as_getr 49 C fl_X11_36_10 dX11_tale_49 (by decide) sh_0 (rf_0_8 _ _) ?_
          refine as_geti 52 C fl_X11_220_4 dX11_tale_52 (by decide) sh_15 ?_
          replace E := Option.some.inj E
          subst E
          exact as_iret 55 C Z rfl dX11_tale_55
        · have E := am_ifF E c4
          refine am_bipush 36 (-2 : Int32) C dX11_tale_36 (by decide) ?_
          replace E := Option.some.inj E
          subst E
          exact as_iret 38 C Z rfl dX11_tale_38
  · have E := am_ifT E c8
    refine am_aload_n 5 C dX11_tale_5 rfl 0 rfl ?_
    refine as_getr 6 C fl_X11_36_10 dX11_tale_6 (by decide) sh_0 (rf_0_8 _ _) ?_
    obtain ⟨s7, Ec, E⟩ := am_bdE E
    refine as_callV 9 (s2 := s7) (st := []) (st2 := []) [] C A (by decide) ml_X11_384 yc_X5_forgetTales yv_X5_forgetTales (t_X5_forgetTales  s0 Ec) (by decide) sh_15 rfl rfl (Nat.le_of_ble_eq_true rfl) rfl dX11_tale_9 ?_
    refine am_iconst 12 (0 : Int32) C dX11_tale_12 (by decide) ?_
    replace E := Option.some.inj E
    subst E
    exact as_iret 13 C Z rfl dX11_tale_13
def j_X11_schedules_92 (p3 : Int32) (v4 : Int32) (v5 : Int32) : Option (Int32) :=
  am_if (v4 = 0) (some (0 : Int32)) (am_if (p3 = 0) (some v4) (some v5))
def b_X11_schedules_46 (p2 : Int32) (p3 : Int32) (s0 : am_S) (v9 : Int32) (v11 : Int32) (v12 : Int32) (v13 : Int32) : Option ((Int32 × Int32 × Int32) ⊕ (Int32)) :=
  am_if (v9 < v13) (am_bd (j_X11_schedules_92 p3 v11 v12) (fun e14 => some (Sum.inr e14))) (am_bd (f_J6_bitCount_0f7a4 v13) (fun v15 => am_if (v15 = p2) (am_bd (f_X5_fitsTales v13 v9 s0) (fun v17 => am_if (v17 = 0) (am_lt (v13 + (1 : Int32)) (fun v18 => some (Sum.inl (v11, v12, v18)))) (am_lt (v11 + (1 : Int32)) (fun v19 => am_lt (v12 &&& v13) (fun v20 => am_lt (v13 + (1 : Int32)) (fun v21 => some (Sum.inl (v19, v20, v21)))))))) (am_lt (v13 + (1 : Int32)) (fun v16 => some (Sum.inl (v11, v12, v16))))))
def f_X11_schedules (p1 : Int32) (p2 : Int32) (p3 : Int32) (s0 : am_S) : Option (Int32) :=
  am_if (p1 < (1 : Int32)) (some (-1 : Int32)) (am_if ((nI 10) < p1) (some (-1 : Int32)) (am_if (p2 < 0) (some (-1 : Int32)) (am_if (p1 < p2) (some (-1 : Int32)) (am_bd (f_X11_isBit p3) (fun v8 => am_if (v8 = 0) (some (-1 : Int32)) (am_lt (((1 : Int32) <<< (p1 &&& 31)) - (1 : Int32)) (fun v9 => am_lp (fun (q : Int32 × Int32 × Int32) => b_X11_schedules_46 p2 p3 s0 v9 q.1 q.2.1 q.2.2) am_F ((0 : Int32), v9, (0 : Int32)))))))))
set_option maxRecDepth 100000 in
set_option maxHeartbeats 4000000 in
theorem t_X11_schedules (p1 : Int32) (p2 : Int32) (p3 : Int32) (s0 : am_S) {z : Int32} (E : f_X11_schedules p1 p2 p3 s0 = some z) : AS yX11_schedules cX11_schedules 8 (some .int) 2 [.ref 0, .int p1, .int p2, .int p3] s0 (some (.int z)) s0 := by
  unfold f_X11_schedules at E
  refine as_met (lv := [(0, .ref 0), (1, .int p1), (2, .int p2), (3, .int p3)]) (by decide +kernel) (by simp [lg_sl, Value.category]) rfl (fun x C A Z => ?_)
  have K92 : ∀ (v4 : Int32) (v5 : Int32), j_X11_schedules_92 p3 v4 v5 = some z → AX x 0 0 92 [(0, .ref 0), (3, .int p3), (5, .int v4), (6, .int v5)] [] am_N (am_h s0) := by
    intro v4 v5 E
    unfold j_X11_schedules_92 at E
    refine am_iload 92 C dX11_schedules_92 2 rfl ?_
    refine am_if_ne 94 99 C dX11_schedules_94 (by decide) (fun c7 => ?_) (fun c7 => ?_)
    · have E := am_ifF E c7
      refine am_iload_n 99 C dX11_schedules_99 rfl 1 rfl ?_
      refine am_if_ne 100 108 C dX11_schedules_100 (by decide) (fun c6 => ?_) (fun c6 => ?_)
      · have E := am_ifF E c6
        refine am_iload 108 C dX11_schedules_108 3 rfl ?_
        replace E := Option.some.inj E
        subst E
        exact as_iret 110 C Z rfl dX11_schedules_110
      · have E := am_ifT E c6
        refine am_iload 103 C dX11_schedules_103 2 rfl ?_
        refine am_goto 105 110 C dX11_schedules_105 (by decide) ?_
        replace E := Option.some.inj E
        subst E
        exact as_iret 110 C Z rfl dX11_schedules_110
    · have E := am_ifT E c7
      refine am_iconst 97 (0 : Int32) C dX11_schedules_97 (by decide) ?_
      replace E := Option.some.inj E
      subst E
      exact as_iret 98 C Z rfl dX11_schedules_98
  refine am_iload_n 0 C dX11_schedules_0 rfl 1 rfl ?_
  refine am_iconst 1 (1 : Int32) C dX11_schedules_1 (by decide) ?_
  refine am_icmp_lt 2 27 C dX11_schedules_2 (by decide) (fun c29 => ?_) (fun c29 => ?_)
  · have E := am_ifT E c29
    refine am_iconst 27 (-1 : Int32) C dX11_schedules_27 (by decide) ?_
    replace E := Option.some.inj E
    subst E
    exact as_iret 28 C Z rfl dX11_schedules_28
  · have E := am_ifF E c29
    refine am_iload_n 5 C dX11_schedules_5 rfl 1 rfl ?_
    refine am_bipush 6 (nI 10) C dX11_schedules_6 (by decide) ?_
    refine am_icmp_gt 8 27 C dX11_schedules_8 (by decide) (fun c28 => ?_) (fun c28 => ?_)
    · have E := am_ifT E c28
      refine am_iconst 27 (-1 : Int32) C dX11_schedules_27 (by decide) ?_
      replace E := Option.some.inj E
      subst E
      exact as_iret 28 C Z rfl dX11_schedules_28
    · have E := am_ifF E c28
      refine am_iload_n 11 C dX11_schedules_11 rfl 2 rfl ?_
      refine am_if_lt 12 27 C dX11_schedules_12 (by decide) (fun c27 => ?_) (fun c27 => ?_)
      · have E := am_ifT E c27
        refine am_iconst 27 (-1 : Int32) C dX11_schedules_27 (by decide) ?_
        replace E := Option.some.inj E
        subst E
        exact as_iret 28 C Z rfl dX11_schedules_28
      · have E := am_ifF E c27
        refine am_iload_n 15 C dX11_schedules_15 rfl 2 rfl ?_
        refine am_iload_n 16 C dX11_schedules_16 rfl 1 rfl ?_
        refine am_icmp_gt 17 27 C dX11_schedules_17 (by decide) (fun c26 => ?_) (fun c26 => ?_)
        · have E := am_ifT E c26
          refine am_iconst 27 (-1 : Int32) C dX11_schedules_27 (by decide) ?_
          replace E := Option.some.inj E
          subst E
          exact as_iret 28 C Z rfl dX11_schedules_28
        · have E := am_ifF E c26
          refine am_iload_n 20 C dX11_schedules_20 rfl 3 rfl ?_
          obtain ⟨v8, Ec, E⟩ := am_bdE E
          refine as_callS 21 (s2 := s0) (st := []) (st2 := [.int v8]) [.int p3] C A (by decide) ml_X11_284 yc_X11_isBit ys_X11_isBit (t_X11_isBit p3 s0 Ec) rfl rfl (Nat.le_of_ble_eq_true rfl) rfl dX11_schedules_21 ?_
          refine am_if_ne 24 29 C dX11_schedules_24 (by decide) (fun c25 => ?_) (fun c25 => ?_)
          · have E := am_ifF E c25
            refine am_iconst 29 (1 : Int32) C dX11_schedules_29 (by decide) ?_
            refine am_iload_n 30 C dX11_schedules_30 rfl 1 rfl ?_
            refine am_ishl 31 C dX11_schedules_31 ?_
            refine am_iconst 32 (1 : Int32) C dX11_schedules_32 (by decide) ?_
            refine am_isub 33 C dX11_schedules_33 ?_
            obtain ⟨v9, hv9, E⟩ := am_ltE E
            refine as_nm hv9 ?_
            refine am_istore 34 (lv2 := [(4, .int v9), (0, .ref 0), (1, .int p1), (2, .int p2), (3, .int p3)]) C dX11_schedules_34 (by decide) rfl ?_
            refine am_iconst 36 (0 : Int32) C dX11_schedules_36 (by decide) ?_
            refine am_istore 37 (lv2 := [(5, .int (0 : Int32)), (4, .int v9), (0, .ref 0), (1, .int p1), (2, .int p2), (3, .int p3)]) C dX11_schedules_37 (by decide) rfl ?_
            refine am_iload 39 C dX11_schedules_39 1 rfl ?_
            refine am_istore 41 (lv2 := [(6, .int v9), (5, .int (0 : Int32)), (4, .int v9), (0, .ref 0), (1, .int p1), (2, .int p2), (3, .int p3)]) C dX11_schedules_41 (by decide) rfl ?_
            refine am_iconst 43 (0 : Int32) C dX11_schedules_43 (by decide) ?_
            refine am_istore 44 (lv2 := [(7, .int (0 : Int32)), (6, .int v9), (5, .int (0 : Int32)), (4, .int v9), (0, .ref 0), (1, .int p1), (2, .int p2), (3, .int p3)]) C dX11_schedules_44 (by decide) rfl ?_
            have LP10 : ∀ (n : Nat) (v11 : Int32) (v12 : Int32) (v13 : Int32), am_lp (fun (q : Int32 × Int32 × Int32) => b_X11_schedules_46 p2 p3 s0 v9 q.1 q.2.1 q.2.2) n (v11, v12, v13) = some z → AX x 0 0 46 [(0, .ref 0), (2, .int p2), (3, .int p3), (4, .int v9), (5, .int v11), (6, .int v12), (7, .int v13)] [] am_N (am_h s0) := by
              intro n
              induction n with
              | zero => intro v11 v12 v13 E; exact (am_lp0 E).elim
              | succ n ih10 =>
                intro v11 v12 v13 E
                obtain ⟨r10, E, Er10⟩ := am_lpE E
                replace E : b_X11_schedules_46 p2 p3 s0 v9 v11 v12 v13 = some r10 := E
                unfold b_X11_schedules_46 at E
                refine am_iload 46 C dX11_schedules_46 6 rfl ?_
                refine am_iload 48 C dX11_schedules_48 3 rfl ?_
                refine am_icmp_gt 50 92 C dX11_schedules_50 (by decide) (fun c24 => ?_) (fun c24 => ?_)
                · have E := am_ifT E c24
                  obtain ⟨e14, E, E2⟩ := am_bdE E
                  replace E2 := Option.some.inj E2
                  replace E2 := am_exR E2 Er10
                  rw [E2] at E
                  refine am_lvs [0, 2, 4, 5] rfl ?_
                  exact K92 _ _ E
                · have E := am_ifF E c24
                  refine am_iload 53 C dX11_schedules_53 6 rfl ?_
                  obtain ⟨v15, Ec, E⟩ := am_bdE E
                  refine as_callS 55 (s2 := s0) (st := []) (st2 := [.int v15]) [.int v13] C A (by decide) ml_X11_323 yc_J6_bitCount_0f7a4 ys_J6_bitCount_0f7a4 (t_J6_bitCount_0f7a4 v13 s0 Ec) rfl rfl (Nat.le_of_ble_eq_true rfl) rfl dX11_schedules_55 ?_
                  refine am_iload_n 58 C dX11_schedules_58 rfl 1 rfl ?_
                  refine am_icmp_ne 59 86 C dX11_schedules_59 (by decide) (fun c23 => ?_) (fun c23 => ?_)
                  · have E := am_ifF E c23
                    obtain ⟨v16, hv16, E⟩ := am_ltE E
                    refine as_iinc 86 (q := (1 : Int32)) (lv2 := [(7, .int v16), (0, .ref 0), (2, .int p2), (3, .int p3), (4, .int v9), (5, .int v11), (6, .int v12)]) C dX11_schedules_86 6 rfl (by decide) hv16 (by decide) rfl ?_
                    refine am_goto 89 46 C dX11_schedules_89 (by decide) ?_
                    replace E := Option.some.inj E
                    replace E := am_exL E Er10
                    refine am_lvs [1, 2, 3, 4, 5, 6, 0] rfl ?_
                    exact ih10 _ _ _ E
                  · have E := am_ifT E c23
                    refine am_aload_n 62 C dX11_schedules_62 rfl 0 rfl ?_
                    refine as_getr 63 C fl_X11_36_10 dX11_schedules_63 (by decide) sh_0 (rf_0_8 _ _) ?_
                    refine am_iload 66 C dX11_schedules_66 6 rfl ?_
                    refine am_iload 68 C dX11_schedules_68 3 rfl ?_
                    obtain ⟨v17, Ec, E⟩ := am_bdE E
                    refine as_callV 70 (s2 := s0) (st := []) (st2 := [.int v17]) [.int v13, .int v9] C A (by decide) ml_X11_391 yc_X5_fitsTales yv_X5_fitsTales (t_X5_fitsTales v13 v9 s0 Ec) (by decide) sh_15 rfl rfl (Nat.le_of_ble_eq_true rfl) rfl dX11_schedules_70 ?_
                    refine am_if_eq 73 86 C dX11_schedules_73 (by decide) (fun c22 => ?_) (fun c22 => ?_)
                    · have E := am_ifT E c22
                      obtain ⟨v18, hv18, E⟩ := am_ltE E
                      refine as_iinc 86 (q := (1 : Int32)) (lv2 := [(7, .int v18), (0, .ref 0), (2, .int p2), (3, .int p3), (4, .int v9), (5, .int v11), (6, .int v12)]) C dX11_schedules_86 6 rfl (by decide) hv18 (by decide) rfl ?_
                      refine am_goto 89 46 C dX11_schedules_89 (by decide) ?_
                      replace E := Option.some.inj E
                      replace E := am_exL E Er10
                      refine am_lvs [1, 2, 3, 4, 5, 6, 0] rfl ?_
                      exact ih10 _ _ _ E
                    · have E := am_ifF E c22
                      obtain ⟨v19, hv19, E⟩ := am_ltE E
                      refine as_iinc 76 (q := (1 : Int32)) (lv2 := [(5, .int v19), (0, .ref 0), (2, .int p2), (3, .int p3), (4, .int v9), (6, .int v12), (7, .int v13)]) C dX11_schedules_76 4 rfl (by decide) hv19 (by decide) rfl ?_
                      refine am_iload 79 C dX11_schedules_79 5 rfl ?_
                      refine am_iload 81 C dX11_schedules_81 6 rfl ?_
                      refine am_iand 83 C dX11_schedules_83 ?_
                      obtain ⟨v20, hv20, E⟩ := am_ltE E
                      refine as_nm hv20 ?_
                      refine am_istore 84 (lv2 := [(6, .int v20), (5, .int v19), (0, .ref 0), (2, .int p2), (3, .int p3), (4, .int v9), (7, .int v13)]) C dX11_schedules_84 (by decide) rfl ?_
                      obtain ⟨v21, hv21, E⟩ := am_ltE E
                      refine as_iinc 86 (q := (1 : Int32)) (lv2 := [(7, .int v21), (6, .int v20), (5, .int v19), (0, .ref 0), (2, .int p2), (3, .int p3), (4, .int v9)]) C dX11_schedules_86 6 rfl (by decide) hv21 (by decide) rfl ?_
                      refine am_goto 89 46 C dX11_schedules_89 (by decide) ?_
                      replace E := Option.some.inj E
                      replace E := am_exL E Er10
                      refine am_lvs [3, 4, 5, 6, 2, 1, 0] rfl ?_
                      exact ih10 _ _ _ E
            refine am_lvs [4, 6, 7, 3, 2, 1, 0] rfl ?_
            exact LP10 am_F _ _ _ E
          · have E := am_ifT E c25
            refine am_iconst 27 (-1 : Int32) C dX11_schedules_27 (by decide) ?_
            replace E := Option.some.inj E
            subst E
            exact as_iret 28 C Z rfl dX11_schedules_28
def f_X11_seed (p1 : Int32) (s0 : am_S) : Option (Int32 × am_S) :=
  am_if (0 ≤ p1) (am_lt (s0.1 15 3) (fun v2 => am_lt (as_i s0 15 3 p1) (fun s3 => some (v2, s3)))) (some ((-1 : Int32), s0))
set_option maxRecDepth 100000 in
set_option maxHeartbeats 4000000 in
theorem t_X11_seed (p1 : Int32) (s0 : am_S) {z : Int32 × am_S} (E : f_X11_seed p1 s0 = some z) : AS yX11_seed cX11_seed 3 (some .int) 1 [.ref 0, .int p1] s0 (some (.int z.1)) z.2 := by
  unfold f_X11_seed at E
  refine as_met (lv := [(0, .ref 0), (1, .int p1)]) (by decide +kernel) (by simp [lg_sl, Value.category]) rfl (fun x C A Z => ?_)
  refine am_iload_n 0 C dX11_seed_0 rfl 1 rfl ?_
  refine am_if_ge 1 6 C dX11_seed_1 (by decide) (fun c4 => ?_) (fun c4 => ?_)
  · have E := am_ifT E c4
    refine am_aload_n 6 C dX11_seed_6 rfl 0 rfl ?_
    refine as_getr 7 C fl_X11_36_10 dX11_seed_7 (by decide) sh_0 (rf_0_8 _ _) ?_
    refine as_geti 10 C fl_X11_226_4 dX11_seed_10 (by decide) sh_15 ?_
    obtain ⟨v2, hv2, E⟩ := am_ltE E
    refine as_nm hv2 ?_
    refine am_istore_n 13 (lv2 := [(2, .int v2), (0, .ref 0), (1, .int p1)]) C dX11_seed_13 rfl (by decide) rfl ?_
    refine am_aload_n 14 C dX11_seed_14 rfl 1 rfl ?_
    refine as_getr 15 C fl_X11_36_10 dX11_seed_15 (by decide) sh_0 (rf_0_8 _ _) ?_
    refine am_iload_n 18 C dX11_seed_18 rfl 2 rfl ?_
    obtain ⟨s3, hs3, E⟩ := am_ltE E
    refine as_puti 19 C fl_X11_226_4 dX11_seed_19 (by decide) sh_15 rfl rfl hs3 ?_
    refine am_iload_n 22 C dX11_seed_22 rfl 0 rfl ?_
    replace E := Option.some.inj E
    subst E
    exact as_iret 23 C Z rfl dX11_seed_23
  · have E := am_ifF E c4
    refine am_iconst 4 (-1 : Int32) C dX11_seed_4 (by decide) ?_
    replace E := Option.some.inj E
    subst E
    exact as_iret 5 C Z rfl dX11_seed_5
def f_X11_draw  (s0 : am_S) : Option (Int32 × am_S) :=
  am_lt (as_i s0 0 15 ((((((s0.1 0 15)).toInt64 * (1103515245 : Int64)) + (12345 : Int64)) - ((((s0.1 0 15)).toInt64 * (1103515245 : Int64)) + (12345 : Int64)) / (2147483648 : Int64) * (2147483648 : Int64))).toInt32) (fun s1 => some (((s1.1 0 15) / (nI 65536)), s1))
set_option maxRecDepth 100000 in
set_option maxHeartbeats 4000000 in
theorem t_X11_draw (s0 : am_S) {z : Int32 × am_S} (E : f_X11_draw  s0 = some z) : AS yX11_draw cX11_draw 1 (some .int) 1 [.ref 0] s0 (some (.int z.1)) z.2 := by
  unfold f_X11_draw at E
  refine as_met (lv := [(0, .ref 0)]) (by decide +kernel) (by simp [lg_sl, Value.category]) rfl (fun x C A Z => ?_)
  refine am_aload_n 0 C dX11_draw_0 rfl 0 rfl ?_
  refine am_aload_n 1 C dX11_draw_1 rfl 0 rfl ?_
  refine as_geti 2 C fl_X11_394_10 dX11_draw_2 (by decide) sh_0 ?_
  refine am_i2l 5 C dX11_draw_5 ?_
  refine am_ldc2 6 C dX11_draw_6 kl_X11_415 ?_
  refine am_lmul 9 C dX11_draw_9 ?_
  refine am_ldc2 10 C dX11_draw_10 kl_X11_417 ?_
  refine am_ladd 13 C dX11_draw_13 ?_
  refine am_ldc2 14 C dX11_draw_14 kl_X11_419 ?_
  refine am_lrem 17 C dX11_draw_17 (by decide) ?_
  refine am_l2i 18 C dX11_draw_18 ?_
  obtain ⟨s1, hs1, E⟩ := am_ltE E
  refine as_puti 19 C fl_X11_394_10 dX11_draw_19 (by decide) sh_0 rfl rfl hs1 ?_
  refine am_aload_n 22 C dX11_draw_22 rfl 0 rfl ?_
  refine as_geti 23 C fl_X11_394_10 dX11_draw_23 (by decide) sh_0 ?_
  refine am_ldcw 26 C dX11_draw_26 ki_X11_421 ?_
  refine am_idiv 29 C dX11_draw_29 (by decide) ?_
  replace E := Option.some.inj E
  subst E
  exact as_iret 30 C Z rfl dX11_draw_30
def j_X11_tryDay_220 (p1 : Int32) (s2 : am_S) : Option (Int32 × am_S) :=
  am_if (p1 = (0 : Int32)) (am_bd (f_X2_liesOfDay 137 s2) (fun v3 => some (v3, s2))) (am_if (p1 = (1 : Int32)) (am_bd (f_X2_liedToOnce 137 s2) (fun v5 => some (v5, s2))) (some ((0 : Int32), s2)))
def j_X11_tryDay_202 (v14 : Int32) (v15 : Int32) (v16 : Int32) (v17 : Int32) (v18 : Int32) (s19 : am_S) : Option ((Int32 × am_S) ⊕ (Int32 × am_S)) :=
  am_bd (f_X11_prepare 137 v15 v14 v17 v18 s19) (fun s20 => am_b2 (f_X11_speak s20) (fun v21 s22 => am_lt (v16 + (1 : Int32)) (fun v23 => some (Sum.inl (v23, s22)))))
def j_X11_tryDay_93 (v9 : Int32) (v24 : Int32) (v25 : Int32) (v26 : Int32) (s27 : am_S) : Option ((Int32 × am_S) ⊕ (Int32 × am_S)) :=
  am_b2 (f_X11_draw s27) (fun v28 s29 => am_gd (¬ v9 = 0) (am_lt (v28 - v28 / v9 * v9) (fun v31 => am_b2 (f_X11_draw s29) (fun v32 s33 => am_lt (v32 - v32 / (nI 2) * (nI 2)) (fun v34 => am_gd (¬ v26 < 0 ∧ (v26).toNatClampNeg < 10) (am_gd (¬ v26 < 0 ∧ (v26).toNatClampNeg < 10) (am_lt (if (s33.1 20 (v26).toNatClampNeg) < (s33.1 19 (v26).toNatClampNeg) then (s33.1 20 (v26).toNatClampNeg) else (s33.1 19 (v26).toNatClampNeg)) (fun v37 => am_gd (¬ v26 < 0 ∧ (v26).toNatClampNeg < 10) (am_gd (¬ v26 < 0 ∧ (v26).toNatClampNeg < 10) (am_lt (if (s33.1 19 (v26).toNatClampNeg) < (s33.1 20 (v26).toNatClampNeg) then (s33.1 20 (v26).toNatClampNeg) else (s33.1 19 (v26).toNatClampNeg)) (fun v40 => am_if (v24 = 0) (am_if (v24 = 0) (j_X11_tryDay_202 v37 v40 v25 v31 v34 s33) (j_X11_tryDay_202 v40 v40 v25 v31 v34 s33)) (am_if (v24 = 0) (j_X11_tryDay_202 v37 v37 v25 v31 v34 s33) (j_X11_tryDay_202 v40 v37 v25 v31 v34 s33)))))))))))))
def b_X11_tryDay_55 (p1 : Int32) (v7 : Int32) (v8 : Int32) (v9 : Int32) (v12 : Int32) (s13 : am_S) : Option ((Int32 × am_S) ⊕ (Int32 × am_S)) :=
  am_if (v7 ≤ v12) (am_bd (j_X11_tryDay_220 p1 s13) (fun e44 => some (Sum.inr e44))) (am_lt (as_i s13 137 5 v12) (fun s45 => am_b2 (f_X11_draw s45) (fun v46 s47 => am_gd (¬ v8 = 0) (am_lt (v46 - v46 / v8 * v8) (fun v49 => am_b2 (f_X11_draw s47) (fun v50 s51 => am_if ((v50 - v50 / (nI 2) * (nI 2)) = 0) (j_X11_tryDay_93 v9 (1 : Int32) v12 v49 s51) (j_X11_tryDay_93 v9 (0 : Int32) v12 v49 s51)))))))
def j_X11_tryDay_50 (p1 : Int32) (v7 : Int32) (v8 : Int32) (v9 : Int32) (s10 : am_S) : Option (Int32 × am_S) :=
  am_lp (fun (q : Int32 × am_S) => b_X11_tryDay_55 p1 v7 v8 v9 q.1 q.2) am_F ((0 : Int32), s10)
def f_X11_tryDay (p1 : Int32) (s0 : am_S) : Option (Int32 × am_S) :=
  am_bd (f_X2_beginDay 137 s0) (fun s54 => am_lt (s54.1 16 6) (fun v55 => am_lt (s54.1 16 1) (fun v56 => am_if (v55 ≤ 0) (j_X11_tryDay_50 p1 (0 : Int32) v55 v56 s54) (am_if (v56 ≤ 0) (j_X11_tryDay_50 p1 (0 : Int32) v55 v56 s54) (j_X11_tryDay_50 p1 (nI 12) v55 v56 s54)))))
set_option maxRecDepth 100000 in
set_option maxHeartbeats 4000000 in
theorem t_X11_tryDay (p1 : Int32) (s0 : am_S) {z : Int32 × am_S} (E : f_X11_tryDay p1 s0 = some z) : AS yX11_tryDay cX11_tryDay 12 (some .int) 7 [.ref 0, .int p1] s0 (some (.int z.1)) z.2 := by
  unfold f_X11_tryDay at E
  refine as_met (lv := [(0, .ref 0), (1, .int p1)]) (by decide +kernel) (by simp [lg_sl, Value.category]) rfl (fun x C A Z => ?_)
  have K220 : ∀ (s2 : am_S), j_X11_tryDay_220 p1 s2 = some z → AX x 0 0 220 [(0, .ref 0), (1, .int p1)] [] am_N (am_h s2) := by
    intro s2 E
    unfold j_X11_tryDay_220 at E
    refine am_iload_n 220 C dX11_tryDay_220 rfl 1 rfl ?_
    by_cases c4 : p1 = (0 : Int32)
    · have E := am_ifT E c4
      refine am_lookup 221 248 C dX11_tryDay_221 (by decide) (by rw [c4] <;> rfl) (by decide) ?_
      refine am_aload_n 248 C dX11_tryDay_248 rfl 0 rfl ?_
      refine as_getr 249 C fl_X11_81_10 dX11_tryDay_249 (by decide) sh_0 (rf_0_14 _ _) ?_
      obtain ⟨v3, Ec, E⟩ := am_bdE E
      refine as_callV 252 (s2 := s2) (st := []) (st2 := [.int v3]) [] C A (by decide) ml_X11_209 yc_X2_liesOfDay yv_X2_liesOfDay (t_X2_liesOfDay 137 s2 Ec) (by decide) sh_137 rfl rfl (Nat.le_of_ble_eq_true rfl) rfl dX11_tryDay_252 ?_
      replace E := Option.some.inj E
      subst E
      exact as_iret 255 C Z rfl dX11_tryDay_255
    · have E := am_ifF E c4
      by_cases c6 : p1 = (1 : Int32)
      · have E := am_ifT E c6
        refine am_lookup 221 256 C dX11_tryDay_221 (by decide) (by rw [c6] <;> rfl) (by decide) ?_
        refine am_aload_n 256 C dX11_tryDay_256 rfl 0 rfl ?_
        refine as_getr 257 C fl_X11_81_10 dX11_tryDay_257 (by decide) sh_0 (rf_0_14 _ _) ?_
        obtain ⟨v5, Ec, E⟩ := am_bdE E
        refine as_callV 260 (s2 := s2) (st := []) (st2 := [.int v5]) [] C A (by decide) ml_X11_412 yc_X2_liedToOnce yv_X2_liedToOnce (t_X2_liedToOnce 137 s2 Ec) (by decide) sh_137 rfl rfl (Nat.le_of_ble_eq_true rfl) rfl dX11_tryDay_260 ?_
        replace E := Option.some.inj E
        subst E
        exact as_iret 263 C Z rfl dX11_tryDay_263
      · have E := am_ifF E c6
        have ec4 := am_neI c4 0 (by decide)
        have ec6 := am_neI c6 1 (by decide)
        refine am_lookup 221 264 (off := 43) C dX11_tryDay_221 (by decide) (by simp [Op.lookupswitch.offset, ec4, ec4.symm, ec6, ec6.symm]) (by decide) ?_
        refine am_iconst 264 (0 : Int32) C dX11_tryDay_264 (by decide) ?_
        replace E := Option.some.inj E
        subst E
        exact as_iret 265 C Z rfl dX11_tryDay_265
  have K50 : ∀ (v7 : Int32) (v8 : Int32) (v9 : Int32) (s10 : am_S), j_X11_tryDay_50 p1 v7 v8 v9 s10 = some z → AX x 0 0 50 [(0, .ref 0), (1, .int p1), (2, .int v8), (3, .int v9)] [.int v7] am_N (am_h s10) := by
    intro v7 v8 v9 s10 E
    unfold j_X11_tryDay_50 at E
    refine am_istore 50 (lv2 := [(4, .int v7), (0, .ref 0), (1, .int p1), (2, .int v8), (3, .int v9)]) C dX11_tryDay_50 (by decide) rfl ?_
    refine am_iconst 52 (0 : Int32) C dX11_tryDay_52 (by decide) ?_
    refine am_istore 53 (lv2 := [(5, .int (0 : Int32)), (4, .int v7), (0, .ref 0), (1, .int p1), (2, .int v8), (3, .int v9)]) C dX11_tryDay_53 (by decide) rfl ?_
    have LP11 : ∀ (n : Nat) (v12 : Int32) (s13 : am_S), am_lp (fun (q : Int32 × am_S) => b_X11_tryDay_55 p1 v7 v8 v9 q.1 q.2) n (v12, s13) = some z → AX x 0 0 55 [(0, .ref 0), (1, .int p1), (2, .int v8), (3, .int v9), (4, .int v7), (5, .int v12)] [] am_N (am_h s13) := by
      intro n
      induction n with
      | zero => intro v12 s13 E; exact (am_lp0 E).elim
      | succ n ih11 =>
        intro v12 s13 E
        obtain ⟨r11, E, Er11⟩ := am_lpE E
        replace E : b_X11_tryDay_55 p1 v7 v8 v9 v12 s13 = some r11 := E
        unfold b_X11_tryDay_55 at E
        have K202 : ∀ (v14 : Int32) (v15 : Int32) (v16 : Int32) (v17 : Int32) (v18 : Int32) (s19 : am_S), j_X11_tryDay_202 v14 v15 v16 v17 v18 s19 = some r11 → AX x 0 0 202 [(0, .ref 0), (1, .int p1), (2, .int v8), (3, .int v9), (4, .int v7), (5, .int v16), (8, .int v17), (9, .int v18)] [.int v14, .int v15, .ref 137, .ref 0] am_N (am_h s19) := by
          intro v14 v15 v16 v17 v18 s19 E
          unfold j_X11_tryDay_202 at E
          refine am_iload 202 C dX11_tryDay_202 6 rfl ?_
          refine am_iload 204 C dX11_tryDay_204 7 rfl ?_
          obtain ⟨s20, Ec, E⟩ := am_bdE E
          refine as_callV 206 (s2 := s20) (st := []) (st2 := []) [.ref 137, .int v15, .int v14, .int v17, .int v18] C A (by decide) ml_X11_237 yc_X11_prepare yv_X11_prepare (t_X11_prepare 137 v15 v14 v17 v18 s19 Ec) (by decide) sh_0 rfl rfl (Nat.le_of_ble_eq_true rfl) rfl dX11_tryDay_206 ?_
          refine am_aload_n 209 C dX11_tryDay_209 rfl 0 rfl ?_
          obtain ⟨v21, s22, Ec, E⟩ := am_b2E E
          refine as_callV 210 (s2 := s22) (st := []) (st2 := [.int v21]) [] C A (by decide) ml_X11_241 yc_X11_speak yv_X11_speak (t_X11_speak  s20 Ec) (by decide) sh_0 rfl rfl (Nat.le_of_ble_eq_true rfl) rfl dX11_tryDay_210 ?_
          refine am_pop 213 C dX11_tryDay_213 rfl ?_
          obtain ⟨v23, hv23, E⟩ := am_ltE E
          refine as_iinc 214 (q := (1 : Int32)) (lv2 := [(5, .int v23), (0, .ref 0), (1, .int p1), (2, .int v8), (3, .int v9), (4, .int v7), (8, .int v17), (9, .int v18)]) C dX11_tryDay_214 5 rfl (by decide) hv23 (by decide) rfl ?_
          refine am_goto 217 55 C dX11_tryDay_217 (by decide) ?_
          replace E := Option.some.inj E
          replace E := am_exL E Er11
          refine am_lvs [1, 2, 3, 4, 5, 0] rfl ?_
          exact ih11 _ _ E
        have K93 : ∀ (v24 : Int32) (v25 : Int32) (v26 : Int32) (s27 : am_S), j_X11_tryDay_93 v9 v24 v25 v26 s27 = some r11 → AX x 0 0 93 [(0, .ref 0), (1, .int p1), (2, .int v8), (3, .int v9), (4, .int v7), (5, .int v25), (6, .int v26)] [.int v24] am_N (am_h s27) := by
          intro v24 v25 v26 s27 E
          unfold j_X11_tryDay_93 at E
          refine am_istore 93 (lv2 := [(7, .int v24), (0, .ref 0), (1, .int p1), (2, .int v8), (3, .int v9), (4, .int v7), (5, .int v25), (6, .int v26)]) C dX11_tryDay_93 (by decide) rfl ?_
          refine am_aload_n 95 C dX11_tryDay_95 rfl 1 rfl ?_
          obtain ⟨v28, s29, Ec, E⟩ := am_b2E E
          refine as_callV 96 (s2 := s29) (st := []) (st2 := [.int v28]) [] C A (by decide) ml_X11_403 yc_X11_draw yv_X11_draw (t_X11_draw  s27 Ec) (by decide) sh_0 rfl rfl (Nat.le_of_ble_eq_true rfl) rfl dX11_tryDay_96 ?_
          refine am_iload_n 99 C dX11_tryDay_99 rfl 4 rfl ?_
          obtain ⟨g30, E⟩ := am_gdE E
          refine am_irem 100 C dX11_tryDay_100 g30 ?_
          obtain ⟨v31, hv31, E⟩ := am_ltE E
          refine as_nm hv31 ?_
          refine am_istore 101 (lv2 := [(8, .int v31), (7, .int v24), (0, .ref 0), (1, .int p1), (2, .int v8), (3, .int v9), (4, .int v7), (5, .int v25), (6, .int v26)]) C dX11_tryDay_101 (by decide) rfl ?_
          refine am_aload_n 103 C dX11_tryDay_103 rfl 2 rfl ?_
          obtain ⟨v32, s33, Ec, E⟩ := am_b2E E
          refine as_callV 104 (s2 := s33) (st := []) (st2 := [.int v32]) [] C A (by decide) ml_X11_403 yc_X11_draw yv_X11_draw (t_X11_draw  s29 Ec) (by decide) sh_0 rfl rfl (Nat.le_of_ble_eq_true rfl) rfl dX11_tryDay_104 ?_
          refine am_iconst 107 (nI 2) C dX11_tryDay_107 (by decide) ?_
          refine am_irem 108 C dX11_tryDay_108 (by decide) ?_
          obtain ⟨v34, hv34, E⟩ := am_ltE E
          refine as_nm hv34 ?_
          refine am_istore 109 (lv2 := [(9, .int v34), (8, .int v31), (7, .int v24), (0, .ref 0), (1, .int p1), (2, .int v8), (3, .int v9), (4, .int v7), (5, .int v25), (6, .int v26)]) C dX11_tryDay_109 (by decide) rfl ?_
          refine am_aload_n 111 C dX11_tryDay_111 rfl 3 rfl ?_
          refine as_getr 112 C fl_X11_36_10 dX11_tryDay_112 (by decide) sh_0 (rf_0_8 _ _) ?_
          refine as_getr 115 C fl_X11_57_4 dX11_tryDay_115 (by decide) sh_15 (rf_15_0 _ _) ?_
          refine as_getr 118 C fl_X11_406_7 dX11_tryDay_118 (by decide) sh_16 (rf_16_7 _ _) ?_
          refine am_iload 121 C dX11_tryDay_121 9 rfl ?_
          obtain ⟨g35, E⟩ := am_gdE E
          refine as_iald 123 C dX11_tryDay_123 (by decide) sh_19 g35 ?_
          refine am_aload_n 124 C dX11_tryDay_124 rfl 3 rfl ?_
          refine as_getr 125 C fl_X11_36_10 dX11_tryDay_125 (by decide) sh_0 (rf_0_8 _ _) ?_
          refine as_getr 128 C fl_X11_57_4 dX11_tryDay_128 (by decide) sh_15 (rf_15_0 _ _) ?_
          refine as_getr 131 C fl_X11_409_7 dX11_tryDay_131 (by decide) sh_16 (rf_16_8 _ _) ?_
          refine am_iload 134 C dX11_tryDay_134 9 rfl ?_
          obtain ⟨g36, E⟩ := am_gdE E
          refine as_iald 136 C dX11_tryDay_136 (by decide) sh_20 g36 ?_
          refine as_min 137 C A (by decide) ml_X11_251 (Nat.le_of_ble_eq_true rfl) dX11_tryDay_137 ?_
          obtain ⟨v37, hv37, E⟩ := am_ltE E
          refine as_nm hv37 ?_
          refine am_istore 140 (lv2 := [(10, .int v37), (9, .int v34), (8, .int v31), (7, .int v24), (0, .ref 0), (1, .int p1), (2, .int v8), (3, .int v9), (4, .int v7), (5, .int v25), (6, .int v26)]) C dX11_tryDay_140 (by decide) rfl ?_
          refine am_aload_n 142 C dX11_tryDay_142 rfl 4 rfl ?_
          refine as_getr 143 C fl_X11_36_10 dX11_tryDay_143 (by decide) sh_0 (rf_0_8 _ _) ?_
          refine as_getr 146 C fl_X11_57_4 dX11_tryDay_146 (by decide) sh_15 (rf_15_0 _ _) ?_
          refine as_getr 149 C fl_X11_406_7 dX11_tryDay_149 (by decide) sh_16 (rf_16_7 _ _) ?_
          refine am_iload 152 C dX11_tryDay_152 10 rfl ?_
          obtain ⟨g38, E⟩ := am_gdE E
          refine as_iald 154 C dX11_tryDay_154 (by decide) sh_19 g38 ?_
          refine am_aload_n 155 C dX11_tryDay_155 rfl 4 rfl ?_
          refine as_getr 156 C fl_X11_36_10 dX11_tryDay_156 (by decide) sh_0 (rf_0_8 _ _) ?_
          refine as_getr 159 C fl_X11_57_4 dX11_tryDay_159 (by decide) sh_15 (rf_15_0 _ _) ?_
          refine as_getr 162 C fl_X11_409_7 dX11_tryDay_162 (by decide) sh_16 (rf_16_8 _ _) ?_
          refine am_iload 165 C dX11_tryDay_165 10 rfl ?_
          obtain ⟨g39, E⟩ := am_gdE E
          refine as_iald 167 C dX11_tryDay_167 (by decide) sh_20 g39 ?_
          refine as_max 168 C A (by decide) ml_X11_256 (Nat.le_of_ble_eq_true rfl) dX11_tryDay_168 ?_
          obtain ⟨v40, hv40, E⟩ := am_ltE E
          refine as_nm hv40 ?_
          refine am_istore 171 (lv2 := [(11, .int v40), (10, .int v37), (9, .int v34), (8, .int v31), (7, .int v24), (0, .ref 0), (1, .int p1), (2, .int v8), (3, .int v9), (4, .int v7), (5, .int v25), (6, .int v26)]) C dX11_tryDay_171 (by decide) rfl ?_
          refine am_aload_n 173 C dX11_tryDay_173 rfl 5 rfl ?_
          refine am_aload_n 174 C dX11_tryDay_174 rfl 5 rfl ?_
          refine as_getr 175 C fl_X11_81_10 dX11_tryDay_175 (by decide) sh_0 (rf_0_14 _ _) ?_
          refine am_iload 178 C dX11_tryDay_178 4 rfl ?_
          refine am_if_eq 180 188 C dX11_tryDay_180 (by decide) (fun c43 => ?_) (fun c43 => ?_)
          · have E := am_ifT E c43
            refine am_iload 188 C dX11_tryDay_188 0 rfl ?_
            refine am_iload 190 C dX11_tryDay_190 4 rfl ?_
            refine am_if_eq 192 200 C dX11_tryDay_192 (by decide) (fun c41 => ?_) (fun c41 => ?_)
            · have E := am_ifT E c41
              refine am_iload 200 C dX11_tryDay_200 1 rfl ?_
              refine am_lvs [5, 6, 7, 8, 9, 10, 3, 2] rfl ?_
              exact K202 _ _ _ _ _ _ E
            · have E := am_ifF E c41
              refine am_iload 195 C dX11_tryDay_195 0 rfl ?_
              refine am_goto 197 202 C dX11_tryDay_197 (by decide) ?_
              refine am_lvs [5, 6, 7, 8, 9, 10, 3, 2] rfl ?_
              exact K202 _ _ _ _ _ _ E
          · have E := am_ifF E c43
            refine am_iload 183 C dX11_tryDay_183 1 rfl ?_
            refine am_goto 185 190 C dX11_tryDay_185 (by decide) ?_
            refine am_iload 190 C dX11_tryDay_190 4 rfl ?_
            refine am_if_eq 192 200 C dX11_tryDay_192 (by decide) (fun c42 => ?_) (fun c42 => ?_)
            · have E := am_ifT E c42
              refine am_iload 200 C dX11_tryDay_200 1 rfl ?_
              refine am_lvs [5, 6, 7, 8, 9, 10, 3, 2] rfl ?_
              exact K202 _ _ _ _ _ _ E
            · have E := am_ifF E c42
              refine am_iload 195 C dX11_tryDay_195 0 rfl ?_
              refine am_goto 197 202 C dX11_tryDay_197 (by decide) ?_
              refine am_lvs [5, 6, 7, 8, 9, 10, 3, 2] rfl ?_
              exact K202 _ _ _ _ _ _ E
        refine am_iload 55 C dX11_tryDay_55 5 rfl ?_
        refine am_iload 57 C dX11_tryDay_57 4 rfl ?_
        refine am_icmp_ge 59 220 C dX11_tryDay_59 (by decide) (fun c53 => ?_) (fun c53 => ?_)
        · have E := am_ifT E c53
          obtain ⟨e44, E, E2⟩ := am_bdE E
          replace E2 := Option.some.inj E2
          replace E2 := am_exR E2 Er11
          rw [E2] at E
          refine am_lvs [0, 1] rfl ?_
          exact K220 _ E
        · have E := am_ifF E c53
          refine am_aload_n 62 C dX11_tryDay_62 rfl 0 rfl ?_
          refine as_getr 63 C fl_X11_81_10 dX11_tryDay_63 (by decide) sh_0 (rf_0_14 _ _) ?_
          refine am_iload 66 C dX11_tryDay_66 5 rfl ?_
          obtain ⟨s45, hs45, E⟩ := am_ltE E
          refine as_puti 68 C fl_X11_206_1 dX11_tryDay_68 (by decide) sh_137 rfl rfl hs45 ?_
          refine am_aload_n 71 C dX11_tryDay_71 rfl 0 rfl ?_
          obtain ⟨v46, s47, Ec, E⟩ := am_b2E E
          refine as_callV 72 (s2 := s47) (st := []) (st2 := [.int v46]) [] C A (by decide) ml_X11_403 yc_X11_draw yv_X11_draw (t_X11_draw  s45 Ec) (by decide) sh_0 rfl rfl (Nat.le_of_ble_eq_true rfl) rfl dX11_tryDay_72 ?_
          refine am_iload_n 75 C dX11_tryDay_75 rfl 2 rfl ?_
          obtain ⟨g48, E⟩ := am_gdE E
          refine am_irem 76 C dX11_tryDay_76 g48 ?_
          obtain ⟨v49, hv49, E⟩ := am_ltE E
          refine as_nm hv49 ?_
          refine am_istore 77 (lv2 := [(6, .int v49), (0, .ref 0), (1, .int p1), (2, .int v8), (3, .int v9), (4, .int v7), (5, .int v12)]) C dX11_tryDay_77 (by decide) rfl ?_
          refine am_aload_n 79 C dX11_tryDay_79 rfl 1 rfl ?_
          obtain ⟨v50, s51, Ec, E⟩ := am_b2E E
          refine as_callV 80 (s2 := s51) (st := []) (st2 := [.int v50]) [] C A (by decide) ml_X11_403 yc_X11_draw yv_X11_draw (t_X11_draw  s47 Ec) (by decide) sh_0 rfl rfl (Nat.le_of_ble_eq_true rfl) rfl dX11_tryDay_80 ?_
          refine am_iconst 83 (nI 2) C dX11_tryDay_83 (by decide) ?_
          refine am_irem 84 C dX11_tryDay_84 (by decide) ?_
          refine am_if_ne 85 92 C dX11_tryDay_85 (by decide) (fun c52 => ?_) (fun c52 => ?_)
          · have E := am_ifF E c52
            refine am_iconst 92 (0 : Int32) C dX11_tryDay_92 (by decide) ?_
            refine am_lvs [1, 2, 3, 4, 5, 6, 0] rfl ?_
            exact K93 _ _ _ _ E
          · have E := am_ifT E c52
            refine am_iconst 88 (1 : Int32) C dX11_tryDay_88 (by decide) ?_
            refine am_goto 89 93 C dX11_tryDay_89 (by decide) ?_
            refine am_lvs [1, 2, 3, 4, 5, 6, 0] rfl ?_
            exact K93 _ _ _ _ E
    refine am_lvs [2, 3, 4, 5, 1, 0] rfl ?_
    exact LP11 am_F _ _ E
  refine am_aload_n 0 C dX11_tryDay_0 rfl 0 rfl ?_
  refine as_getr 1 C fl_X11_81_10 dX11_tryDay_1 (by decide) sh_0 (rf_0_14 _ _) ?_
  refine am_aload_n 4 C dX11_tryDay_4 rfl 0 rfl ?_
  refine as_getr 5 C fl_X11_36_10 dX11_tryDay_5 (by decide) sh_0 (rf_0_8 _ _) ?_
  refine as_getr 8 C fl_X11_57_4 dX11_tryDay_8 (by decide) sh_15 (rf_15_0 _ _) ?_
  obtain ⟨s54, Ec, E⟩ := am_bdE E
  refine as_callV 11 (s2 := s54) (st := []) (st2 := []) [.ref 16] C A (by decide) ml_X11_266 yc_X2_beginDay yv_X2_beginDay (t_X2_beginDay 137 s0 Ec) (by decide) sh_137 rfl rfl (Nat.le_of_ble_eq_true rfl) rfl dX11_tryDay_11 ?_
  refine am_aload_n 14 C dX11_tryDay_14 rfl 0 rfl ?_
  refine as_getr 15 C fl_X11_36_10 dX11_tryDay_15 (by decide) sh_0 (rf_0_8 _ _) ?_
  refine as_getr 18 C fl_X11_57_4 dX11_tryDay_18 (by decide) sh_15 (rf_15_0 _ _) ?_
  refine as_geti 21 C fl_X11_200_7 dX11_tryDay_21 (by decide) sh_16 ?_
  obtain ⟨v55, hv55, E⟩ := am_ltE E
  refine as_nm hv55 ?_
  refine am_istore_n 24 (lv2 := [(2, .int v55), (0, .ref 0), (1, .int p1)]) C dX11_tryDay_24 rfl (by decide) rfl ?_
  refine am_aload_n 25 C dX11_tryDay_25 rfl 1 rfl ?_
  refine as_getr 26 C fl_X11_36_10 dX11_tryDay_26 (by decide) sh_0 (rf_0_8 _ _) ?_
  refine as_getr 29 C fl_X11_57_4 dX11_tryDay_29 (by decide) sh_15 (rf_15_0 _ _) ?_
  refine as_geti 32 C fl_X11_194_7 dX11_tryDay_32 (by decide) sh_16 ?_
  obtain ⟨v56, hv56, E⟩ := am_ltE E
  refine as_nm hv56 ?_
  refine am_istore_n 35 (lv2 := [(3, .int v56), (2, .int v55), (0, .ref 0), (1, .int p1)]) C dX11_tryDay_35 rfl (by decide) rfl ?_
  refine am_iload_n 36 C dX11_tryDay_36 rfl 1 rfl ?_
  refine am_if_le 37 49 C dX11_tryDay_37 (by decide) (fun c58 => ?_) (fun c58 => ?_)
  · have E := am_ifT E c58
    refine am_iconst 49 (0 : Int32) C dX11_tryDay_49 (by decide) ?_
    refine am_lvs [2, 3, 1, 0] rfl ?_
    exact K50 _ _ _ _ E
  · have E := am_ifF E c58
    refine am_iload_n 40 C dX11_tryDay_40 rfl 0 rfl ?_
    refine am_if_le 41 49 C dX11_tryDay_41 (by decide) (fun c57 => ?_) (fun c57 => ?_)
    · have E := am_ifT E c57
      refine am_iconst 49 (0 : Int32) C dX11_tryDay_49 (by decide) ?_
      refine am_lvs [2, 3, 1, 0] rfl ?_
      exact K50 _ _ _ _ E
    · have E := am_ifF E c57
      refine am_bipush 44 (nI 12) C dX11_tryDay_44 (by decide) ?_
      refine am_goto 46 50 C dX11_tryDay_46 (by decide) ?_
      refine am_lvs [2, 3, 1, 0] rfl ?_
      exact K50 _ _ _ _ E
def j_X11_years_120 (p3 : Int32) (v11 : Int32) (v12 : Int32) (s13 : am_S) : Option ((Int32 × Int32 × am_S) ⊕ (Int32 × am_S)) :=
  am_if (p3 = (nI 2)) (am_bd (f_X2_harmOfAll 137 s13) (fun v16 => am_lt (v11 + v16) (fun v17 => am_lt (v12 + (1 : Int32)) (fun v18 => some (Sum.inl (v17, v18, s13)))))) (am_lt (v11 + (0 : Int32)) (fun v14 => am_lt (v12 + (1 : Int32)) (fun v15 => some (Sum.inl (v14, v15, s13)))))
def b_X11_years_98 (p2 : Int32) (p3 : Int32) (v9 : Int32) (v22 : Int32) (v23 : Int32) (s24 : am_S) : Option ((Int32 × Int32 × am_S) ⊕ ((Int32 × Int32 × am_S) ⊕ (Int32 × am_S))) :=
  am_if (p2 ≤ v23) (am_bd (j_X11_years_120 p3 v22 v9 s24) (fun e25 => some (Sum.inr e25))) (am_b2 (f_X11_tryDay p3 s24) (fun v26 s27 => am_lt (v22 + v26) (fun v28 => am_lt (v23 + (1 : Int32)) (fun v29 => some (Sum.inl (v28, v29, s27))))))
def b_X11_years_75 (p1 : Int32) (p2 : Int32) (p3 : Int32) (v8 : Int32) (v9 : Int32) (s10 : am_S) : Option ((Int32 × Int32 × am_S) ⊕ (Int32 × am_S)) :=
  am_if (p1 ≤ v9) (some (Sum.inr (v8, s10))) (am_bd (f_X2_copyFrom 137 24 s10) (fun s20 => am_lp (fun (q : Int32 × Int32 × am_S) => b_X11_years_98 p2 p3 v9 q.1 q.2.1 q.2.2) am_F (v8, (0 : Int32), s20)))
def j_X11_years_36 (p1 : Int32) (p2 : Int32) (p3 : Int32) (v4 : Int32) (s5 : am_S) : Option (Int32 × am_S) :=
  am_if ((s5.1 16 0) = 0) (some ((-1 : Int32), s5)) (am_if (v4 = 0) (some ((-1 : Int32), s5)) (am_lt (as_i s5 0 15 (s5.1 15 3)) (fun s6 => am_lp (fun (q : Int32 × Int32 × am_S) => b_X11_years_75 p1 p2 p3 q.1 q.2.1 q.2.2) am_F ((0 : Int32), (0 : Int32), s6))))
def f_X11_years (p1 : Int32) (p2 : Int32) (p3 : Int32) (s0 : am_S) : Option (Int32 × am_S) :=
  am_if (p1 < (1 : Int32)) (j_X11_years_36 p1 p2 p3 (0 : Int32) s0) (am_if ((nI 10) < p1) (j_X11_years_36 p1 p2 p3 (0 : Int32) s0) (am_if (p2 < (1 : Int32)) (j_X11_years_36 p1 p2 p3 (0 : Int32) s0) (am_if ((nI 20) < p2) (j_X11_years_36 p1 p2 p3 (0 : Int32) s0) (am_if (p3 < 0) (j_X11_years_36 p1 p2 p3 (0 : Int32) s0) (am_if ((nI 2) < p3) (j_X11_years_36 p1 p2 p3 (0 : Int32) s0) (j_X11_years_36 p1 p2 p3 (1 : Int32) s0))))))
set_option maxRecDepth 100000 in
set_option maxHeartbeats 4000000 in
theorem t_X11_years (p1 : Int32) (p2 : Int32) (p3 : Int32) (s0 : am_S) {z : Int32 × am_S} (E : f_X11_years p1 p2 p3 s0 = some z) : AS yX11_years cX11_years 8 (some .int) 8 [.ref 0, .int p1, .int p2, .int p3] s0 (some (.int z.1)) z.2 := by
  unfold f_X11_years at E
  refine as_met (lv := [(0, .ref 0), (1, .int p1), (2, .int p2), (3, .int p3)]) (by decide +kernel) (by simp [lg_sl, Value.category]) rfl (fun x C A Z => ?_)
  have K36 : ∀ (v4 : Int32) (s5 : am_S), j_X11_years_36 p1 p2 p3 v4 s5 = some z → AX x 0 0 36 [(0, .ref 0), (1, .int p1), (2, .int p2), (3, .int p3)] [.int v4] am_N (am_h s5) := by
    intro v4 s5 E
    unfold j_X11_years_36 at E
    refine am_istore 36 (lv2 := [(4, .int v4), (0, .ref 0), (1, .int p1), (2, .int p2), (3, .int p3)]) C dX11_years_36 (by decide) rfl ?_
    refine am_aload_n 38 C dX11_years_38 rfl 1 rfl ?_
    refine as_getr 39 C fl_X11_36_10 dX11_years_39 (by decide) sh_0 (rf_0_8 _ _) ?_
    refine as_getr 42 C fl_X11_57_4 dX11_years_42 (by decide) sh_15 (rf_15_0 _ _) ?_
    refine as_geti 45 C fl_X11_262_7 dX11_years_45 (by decide) sh_16 ?_
    refine am_if_eq 48 56 C dX11_years_48 (by decide) (fun c33 => ?_) (fun c33 => ?_)
    · have E := am_ifT E c33
      refine am_iconst 56 (-1 : Int32) C dX11_years_56 (by decide) ?_
      replace E := Option.some.inj E
      subst E
      exact as_iret 57 C Z rfl dX11_years_57
    · have E := am_ifF E c33
      refine am_iload 51 C dX11_years_51 0 rfl ?_
      refine am_if_ne 53 58 C dX11_years_53 (by decide) (fun c32 => ?_) (fun c32 => ?_)
      · have E := am_ifF E c32
        refine am_aload_n 58 C dX11_years_58 rfl 1 rfl ?_
        refine am_aload_n 59 C dX11_years_59 rfl 1 rfl ?_
        refine as_getr 60 C fl_X11_36_10 dX11_years_60 (by decide) sh_0 (rf_0_8 _ _) ?_
        refine as_geti 63 C fl_X11_226_4 dX11_years_63 (by decide) sh_15 ?_
        obtain ⟨s6, hs6, E⟩ := am_ltE E
        refine as_puti 66 C fl_X11_394_10 dX11_years_66 (by decide) sh_0 rfl rfl hs6 ?_
        refine am_iconst 69 (0 : Int32) C dX11_years_69 (by decide) ?_
        refine am_istore 70 (lv2 := [(5, .int (0 : Int32)), (4, .int v4), (0, .ref 0), (1, .int p1), (2, .int p2), (3, .int p3)]) C dX11_years_70 (by decide) rfl ?_
        refine am_iconst 72 (0 : Int32) C dX11_years_72 (by decide) ?_
        refine am_istore 73 (lv2 := [(6, .int (0 : Int32)), (5, .int (0 : Int32)), (4, .int v4), (0, .ref 0), (1, .int p1), (2, .int p2), (3, .int p3)]) C dX11_years_73 (by decide) rfl ?_
        have LP7 : ∀ (n : Nat) (v8 : Int32) (v9 : Int32) (s10 : am_S), am_lp (fun (q : Int32 × Int32 × am_S) => b_X11_years_75 p1 p2 p3 q.1 q.2.1 q.2.2) n (v8, v9, s10) = some z → AX x 0 0 75 [(0, .ref 0), (1, .int p1), (2, .int p2), (3, .int p3), (5, .int v8), (6, .int v9)] [] am_N (am_h s10) := by
          intro n
          induction n with
          | zero => intro v8 v9 s10 E; exact (am_lp0 E).elim
          | succ n ih7 =>
            intro v8 v9 s10 E
            obtain ⟨r7, E, Er7⟩ := am_lpE E
            replace E : b_X11_years_75 p1 p2 p3 v8 v9 s10 = some r7 := E
            unfold b_X11_years_75 at E
            have K120 : ∀ (v11 : Int32) (v12 : Int32) (s13 : am_S), j_X11_years_120 p3 v11 v12 s13 = some r7 → AX x 0 0 120 [(0, .ref 0), (1, .int p1), (2, .int p2), (3, .int p3), (5, .int v11), (6, .int v12)] [] am_N (am_h s13) := by
              intro v11 v12 s13 E
              unfold j_X11_years_120 at E
              refine am_iload 120 C dX11_years_120 4 rfl ?_
              refine am_iload_n 122 C dX11_years_122 rfl 3 rfl ?_
              refine am_iconst 123 (nI 2) C dX11_years_123 (by decide) ?_
              refine am_icmp_ne 124 144 C dX11_years_124 (by decide) (fun c19 => ?_) (fun c19 => ?_)
              · have E := am_ifF E c19
                refine am_iconst 144 (0 : Int32) C dX11_years_144 (by decide) ?_
                refine am_iadd 145 C dX11_years_145 ?_
                obtain ⟨v14, hv14, E⟩ := am_ltE E
                refine as_nm hv14 ?_
                refine am_istore 146 (lv2 := [(5, .int v14), (0, .ref 0), (1, .int p1), (2, .int p2), (3, .int p3), (6, .int v12)]) C dX11_years_146 (by decide) rfl ?_
                obtain ⟨v15, hv15, E⟩ := am_ltE E
                refine as_iinc 148 (q := (1 : Int32)) (lv2 := [(6, .int v15), (5, .int v14), (0, .ref 0), (1, .int p1), (2, .int p2), (3, .int p3)]) C dX11_years_148 5 rfl (by decide) hv15 (by decide) rfl ?_
                refine am_goto 151 75 C dX11_years_151 (by decide) ?_
                replace E := Option.some.inj E
                replace E := am_exL E Er7
                refine am_lvs [2, 3, 4, 5, 1, 0] rfl ?_
                exact ih7 _ _ _ E
              · have E := am_ifT E c19
                refine am_aload_n 127 C dX11_years_127 rfl 0 rfl ?_
                refine as_getr 128 C fl_X11_81_10 dX11_years_128 (by decide) sh_0 (rf_0_14 _ _) ?_
                refine am_aload_n 131 C dX11_years_131 rfl 0 rfl ?_
                refine as_getr 132 C fl_X11_36_10 dX11_years_132 (by decide) sh_0 (rf_0_8 _ _) ?_
                refine as_getr 135 C fl_X11_57_4 dX11_years_135 (by decide) sh_15 (rf_15_0 _ _) ?_
                obtain ⟨v16, Ec, E⟩ := am_bdE E
                refine as_callV 138 (s2 := s13) (st := [.int v11]) (st2 := [.int v16, .int v11]) [.ref 16] C A (by decide) ml_X11_213 yc_X2_harmOfAll yv_X2_harmOfAll (t_X2_harmOfAll 137 s13 Ec) (by decide) sh_137 rfl rfl (Nat.le_of_ble_eq_true rfl) rfl dX11_years_138 ?_
                refine am_goto 141 145 C dX11_years_141 (by decide) ?_
                refine am_iadd 145 C dX11_years_145 ?_
                obtain ⟨v17, hv17, E⟩ := am_ltE E
                refine as_nm hv17 ?_
                refine am_istore 146 (lv2 := [(5, .int v17), (0, .ref 0), (1, .int p1), (2, .int p2), (3, .int p3), (6, .int v12)]) C dX11_years_146 (by decide) rfl ?_
                obtain ⟨v18, hv18, E⟩ := am_ltE E
                refine as_iinc 148 (q := (1 : Int32)) (lv2 := [(6, .int v18), (5, .int v17), (0, .ref 0), (1, .int p1), (2, .int p2), (3, .int p3)]) C dX11_years_148 5 rfl (by decide) hv18 (by decide) rfl ?_
                refine am_goto 151 75 C dX11_years_151 (by decide) ?_
                replace E := Option.some.inj E
                replace E := am_exL E Er7
                refine am_lvs [2, 3, 4, 5, 1, 0] rfl ?_
                exact ih7 _ _ _ E
            refine am_iload 75 C dX11_years_75 5 rfl ?_
            refine am_iload_n 77 C dX11_years_77 rfl 1 rfl ?_
            refine am_icmp_ge 78 154 C dX11_years_78 (by decide) (fun c31 => ?_) (fun c31 => ?_)
            · have E := am_ifT E c31
              refine am_iload 154 C dX11_years_154 4 rfl ?_
              replace E := Option.some.inj E
              replace E := am_exR E Er7
              subst E
              exact as_iret 156 C Z rfl dX11_years_156
            · have E := am_ifF E c31
              refine am_aload_n 81 C dX11_years_81 rfl 0 rfl ?_
              refine as_getr 82 C fl_X11_81_10 dX11_years_82 (by decide) sh_0 (rf_0_14 _ _) ?_
              refine am_aload_n 85 C dX11_years_85 rfl 0 rfl ?_
              refine as_getr 86 C fl_X11_36_10 dX11_years_86 (by decide) sh_0 (rf_0_8 _ _) ?_
              refine as_getr 89 C fl_X11_60_4 dX11_years_89 (by decide) sh_15 (rf_15_1 _ _) ?_
              obtain ⟨s20, Ec, E⟩ := am_bdE E
              refine as_callV 92 (s2 := s20) (st := []) (st2 := []) [.ref 24] C A (by decide) ml_X11_397 yc_X2_copyFrom yv_X2_copyFrom (t_X2_copyFrom 137 24 s10 Ec) (by decide) sh_137 rfl rfl (Nat.le_of_ble_eq_true rfl) rfl dX11_years_92 ?_
              refine am_iconst 95 (0 : Int32) C dX11_years_95 (by decide) ?_
              refine am_istore 96 (lv2 := [(7, .int (0 : Int32)), (0, .ref 0), (1, .int p1), (2, .int p2), (3, .int p3), (5, .int v8), (6, .int v9)]) C dX11_years_96 (by decide) rfl ?_
              have LP21 : ∀ (n : Nat) (v22 : Int32) (v23 : Int32) (s24 : am_S), am_lp (fun (q : Int32 × Int32 × am_S) => b_X11_years_98 p2 p3 v9 q.1 q.2.1 q.2.2) n (v22, v23, s24) = some r7 → AX x 0 0 98 [(0, .ref 0), (1, .int p1), (2, .int p2), (3, .int p3), (5, .int v22), (6, .int v9), (7, .int v23)] [] am_N (am_h s24) := by
                intro n
                induction n with
                | zero => intro v22 v23 s24 E; exact (am_lp0 E).elim
                | succ n ih21 =>
                  intro v22 v23 s24 E
                  obtain ⟨r21, E, Er21⟩ := am_lpE E
                  replace E : b_X11_years_98 p2 p3 v9 v22 v23 s24 = some r21 := E
                  unfold b_X11_years_98 at E
                  refine am_iload 98 C dX11_years_98 6 rfl ?_
                  refine am_iload_n 100 C dX11_years_100 rfl 2 rfl ?_
                  refine am_icmp_ge 101 120 C dX11_years_101 (by decide) (fun c30 => ?_) (fun c30 => ?_)
                  · have E := am_ifT E c30
                    obtain ⟨e25, E, E2⟩ := am_bdE E
                    replace E2 := Option.some.inj E2
                    replace E2 := am_exR E2 Er21
                    rw [E2] at E
                    refine am_lvs [0, 1, 2, 3, 4, 5] rfl ?_
                    exact K120 _ _ _ E
                  · have E := am_ifF E c30
                    refine am_iload 104 C dX11_years_104 4 rfl ?_
                    refine am_aload_n 106 C dX11_years_106 rfl 0 rfl ?_
                    refine am_iload_n 107 C dX11_years_107 rfl 3 rfl ?_
                    obtain ⟨v26, s27, Ec, E⟩ := am_b2E E
                    refine as_callV 108 (s2 := s27) (st := [.int v22]) (st2 := [.int v26, .int v22]) [.int p3] C A (by decide) ml_X11_400 yc_X11_tryDay yv_X11_tryDay (t_X11_tryDay p3 s24 Ec) (by decide) sh_0 rfl rfl (Nat.le_of_ble_eq_true rfl) rfl dX11_years_108 ?_
                    refine am_iadd 111 C dX11_years_111 ?_
                    obtain ⟨v28, hv28, E⟩ := am_ltE E
                    refine as_nm hv28 ?_
                    refine am_istore 112 (lv2 := [(5, .int v28), (0, .ref 0), (1, .int p1), (2, .int p2), (3, .int p3), (6, .int v9), (7, .int v23)]) C dX11_years_112 (by decide) rfl ?_
                    obtain ⟨v29, hv29, E⟩ := am_ltE E
                    refine as_iinc 114 (q := (1 : Int32)) (lv2 := [(7, .int v29), (5, .int v28), (0, .ref 0), (1, .int p1), (2, .int p2), (3, .int p3), (6, .int v9)]) C dX11_years_114 6 rfl (by decide) hv29 (by decide) rfl ?_
                    refine am_goto 117 98 C dX11_years_117 (by decide) ?_
                    replace E := Option.some.inj E
                    replace E := am_exL E Er21
                    refine am_lvs [2, 3, 4, 5, 1, 6, 0] rfl ?_
                    exact ih21 _ _ _ E
              refine am_lvs [1, 2, 3, 4, 5, 6, 0] rfl ?_
              exact LP21 am_F _ _ _ E
        refine am_lvs [3, 4, 5, 6, 1, 0] rfl ?_
        exact LP7 am_F _ _ _ E
      · have E := am_ifT E c32
        refine am_iconst 56 (-1 : Int32) C dX11_years_56 (by decide) ?_
        replace E := Option.some.inj E
        subst E
        exact as_iret 57 C Z rfl dX11_years_57
  refine am_iload_n 0 C dX11_years_0 rfl 1 rfl ?_
  refine am_iconst 1 (1 : Int32) C dX11_years_1 (by decide) ?_
  refine am_icmp_lt 2 35 C dX11_years_2 (by decide) (fun c39 => ?_) (fun c39 => ?_)
  · have E := am_ifT E c39
    refine am_iconst 35 (0 : Int32) C dX11_years_35 (by decide) ?_
    refine am_lvs [0, 1, 2, 3] rfl ?_
    exact K36 _ _ E
  · have E := am_ifF E c39
    refine am_iload_n 5 C dX11_years_5 rfl 1 rfl ?_
    refine am_bipush 6 (nI 10) C dX11_years_6 (by decide) ?_
    refine am_icmp_gt 8 35 C dX11_years_8 (by decide) (fun c38 => ?_) (fun c38 => ?_)
    · have E := am_ifT E c38
      refine am_iconst 35 (0 : Int32) C dX11_years_35 (by decide) ?_
      refine am_lvs [0, 1, 2, 3] rfl ?_
      exact K36 _ _ E
    · have E := am_ifF E c38
      refine am_iload_n 11 C dX11_years_11 rfl 2 rfl ?_
      refine am_iconst 12 (1 : Int32) C dX11_years_12 (by decide) ?_
      refine am_icmp_lt 13 35 C dX11_years_13 (by decide) (fun c37 => ?_) (fun c37 => ?_)
      · have E := am_ifT E c37
        refine am_iconst 35 (0 : Int32) C dX11_years_35 (by decide) ?_
        refine am_lvs [0, 1, 2, 3] rfl ?_
        exact K36 _ _ E
      · have E := am_ifF E c37
        refine am_iload_n 16 C dX11_years_16 rfl 2 rfl ?_
        refine am_bipush 17 (nI 20) C dX11_years_17 (by decide) ?_
        refine am_icmp_gt 19 35 C dX11_years_19 (by decide) (fun c36 => ?_) (fun c36 => ?_)
        · have E := am_ifT E c36
          refine am_iconst 35 (0 : Int32) C dX11_years_35 (by decide) ?_
          refine am_lvs [0, 1, 2, 3] rfl ?_
          exact K36 _ _ E
        · have E := am_ifF E c36
          refine am_iload_n 22 C dX11_years_22 rfl 3 rfl ?_
          refine am_if_lt 23 35 C dX11_years_23 (by decide) (fun c35 => ?_) (fun c35 => ?_)
          · have E := am_ifT E c35
            refine am_iconst 35 (0 : Int32) C dX11_years_35 (by decide) ?_
            refine am_lvs [0, 1, 2, 3] rfl ?_
            exact K36 _ _ E
          · have E := am_ifF E c35
            refine am_iload_n 26 C dX11_years_26 rfl 3 rfl ?_
            refine am_iconst 27 (nI 2) C dX11_years_27 (by decide) ?_
            refine am_icmp_gt 28 35 C dX11_years_28 (by decide) (fun c34 => ?_) (fun c34 => ?_)
            · have E := am_ifT E c34
              refine am_iconst 35 (0 : Int32) C dX11_years_35 (by decide) ?_
              refine am_lvs [0, 1, 2, 3] rfl ?_
              exact K36 _ _ E
            · have E := am_ifF E c34
              refine am_iconst 31 (1 : Int32) C dX11_years_31 (by decide) ?_
              refine am_goto 32 36 C dX11_years_32 (by decide) ?_
              refine am_lvs [0, 1, 2, 3] rfl ?_
              exact K36 _ _ E
def f_X11_image (p1 : Int32) (s0 : am_S) : Option (Int32 × am_S) :=
  am_if (p1 < 0) (some ((-1 : Int32), s0)) (am_if (p1 < (nI 4)) (am_gd (¬ p1 < 0 ∧ (p1).toNatClampNeg < 4) (am_lt (186 + 15 * (p1).toNatClampNeg) (fun q3 => am_bd (f_X5_copyFrom q3 15 s0) (fun s4 => am_gd (¬ p1 < 0 ∧ (p1).toNatClampNeg < 4) (am_lt (as_i s4 31 (p1).toNatClampNeg (vp_nar .boolean (1 : Int32))) (fun s6 => some ((s6.1 24 4), s6))))))) (some ((-1 : Int32), s0)))
set_option maxRecDepth 100000 in
set_option maxHeartbeats 4000000 in
theorem t_X11_image (p1 : Int32) (s0 : am_S) {z : Int32 × am_S} (E : f_X11_image p1 s0 = some z) : AS yX11_image cX11_image 2 (some .int) 4 [.ref 0, .int p1] s0 (some (.int z.1)) z.2 := by
  unfold f_X11_image at E
  refine as_met (lv := [(0, .ref 0), (1, .int p1)]) (by decide +kernel) (by simp [lg_sl, Value.category]) rfl (fun x C A Z => ?_)
  refine am_iload_n 0 C dX11_image_0 rfl 1 rfl ?_
  refine am_if_lt 1 9 C dX11_image_1 (by decide) (fun c8 => ?_) (fun c8 => ?_)
  · have E := am_ifT E c8
    refine am_iconst 9 (-1 : Int32) C dX11_image_9 (by decide) ?_
    replace E := Option.some.inj E
    subst E
    exact as_iret 10 C Z rfl dX11_image_10
  · have E := am_ifF E c8
    refine am_iload_n 4 C dX11_image_4 rfl 1 rfl ?_
    refine am_iconst 5 (nI 4) C dX11_image_5 (by decide) ?_
    refine am_icmp_lt 6 11 C dX11_image_6 (by decide) (fun c7 => ?_) (fun c7 => ?_)
    · have E := am_ifT E c7
      refine am_aload_n 11 C dX11_image_11 rfl 0 rfl ?_
      refine as_getr 12 C fl_X11_40_10 dX11_image_12 (by decide) sh_0 (rf_0_9 _ _) ?_
      refine am_iload_n 15 C dX11_image_15 rfl 1 rfl ?_
      obtain ⟨g2, E⟩ := am_gdE E
      refine as_aald 16 (q := 186 + 15 * (p1).toNatClampNeg) C dX11_image_16 (by decide) sh_30 (by decide) g2 (fun t u => ra_30 t u _ (g2).2) ?_
      obtain ⟨q3, hq3, E⟩ := am_ltE E
      refine as_nmr hq3 ?_
      have mq3 : q3 ∈ am_isS := by rw [hq3]; exact rb_30 _ (g2).2
      refine am_aload_n 17 C dX11_image_17 rfl 0 rfl ?_
      refine as_getr 18 C fl_X11_36_10 dX11_image_18 (by decide) sh_0 (rf_0_8 _ _) ?_
      obtain ⟨s4, Ec, E⟩ := am_bdE E
      refine as_callV 21 (s2 := s4) (st := []) (st2 := []) [.ref 15] C A (by decide) ml_X11_422 yc_X5_copyFrom yv_X5_copyFrom (t_X5_copyFrom q3 15 s0 Ec) (iS_l0 _ mq3) (iS_sh _ mq3) rfl rfl (Nat.le_of_ble_eq_true rfl) rfl dX11_image_21 ?_
      refine am_aload_n 24 C dX11_image_24 rfl 0 rfl ?_
      refine as_getr 25 C fl_X11_44_10 dX11_image_25 (by decide) sh_0 (rf_0_10 _ _) ?_
      refine am_iload_n 28 C dX11_image_28 rfl 1 rfl ?_
      refine am_iconst 29 (1 : Int32) C dX11_image_29 (by decide) ?_
      obtain ⟨g5, E⟩ := am_gdE E
      obtain ⟨s6, hs6, E⟩ := am_ltE E
      refine as_zast 30 C dX11_image_30 (by decide) sh_31 g5 hs6 ?_
      refine am_aload_n 31 C dX11_image_31 rfl 0 rfl ?_
      refine as_getr 32 C fl_X11_36_10 dX11_image_32 (by decide) sh_0 (rf_0_8 _ _) ?_
      refine as_getr 35 C fl_X11_60_4 dX11_image_35 (by decide) sh_15 (rf_15_1 _ _) ?_
      refine as_geti 38 C fl_X11_203_1 dX11_image_38 (by decide) sh_24 ?_
      replace E := Option.some.inj E
      subst E
      exact as_iret 41 C Z rfl dX11_image_41
    · have E := am_ifF E c7
      refine am_iconst 9 (-1 : Int32) C dX11_image_9 (by decide) ?_
      replace E := Option.some.inj E
      subst E
      exact as_iret 10 C Z rfl dX11_image_10
def f_X11_back (p1 : Int32) (s0 : am_S) : Option (Int32 × am_S) :=
  am_if (p1 < 0) (some ((-1 : Int32), s0)) (am_if ((nI 4) ≤ p1) (some ((-1 : Int32), s0)) (am_gd (¬ p1 < 0 ∧ (p1).toNatClampNeg < 4) (am_if ((s0.1 31 (p1).toNatClampNeg) = 0) (some ((-1 : Int32), s0)) (am_gd (¬ p1 < 0 ∧ (p1).toNatClampNeg < 4) (am_lt (186 + 15 * (p1).toNatClampNeg) (fun q4 => am_bd (f_X5_copyFrom 15 q4 s0) (fun s5 => am_bd (f_X0_forget s5) (fun s6 => some ((s6.1 24 4), s6)))))))))
set_option maxRecDepth 100000 in
set_option maxHeartbeats 4000000 in
theorem t_X11_back (p1 : Int32) (s0 : am_S) {z : Int32 × am_S} (E : f_X11_back p1 s0 = some z) : AS yX11_back cX11_back 2 (some .int) 4 [.ref 0, .int p1] s0 (some (.int z.1)) z.2 := by
  unfold f_X11_back at E
  refine as_met (lv := [(0, .ref 0), (1, .int p1)]) (by decide +kernel) (by simp [lg_sl, Value.category]) rfl (fun x C A Z => ?_)
  refine am_iload_n 0 C dX11_back_0 rfl 1 rfl ?_
  refine am_if_lt 1 18 C dX11_back_1 (by decide) (fun c9 => ?_) (fun c9 => ?_)
  · have E := am_ifT E c9
    refine am_iconst 18 (-1 : Int32) C dX11_back_18 (by decide) ?_
    replace E := Option.some.inj E
    subst E
    exact as_iret 19 C Z rfl dX11_back_19
  · have E := am_ifF E c9
    refine am_iload_n 4 C dX11_back_4 rfl 1 rfl ?_
    refine am_iconst 5 (nI 4) C dX11_back_5 (by decide) ?_
    refine am_icmp_ge 6 18 C dX11_back_6 (by decide) (fun c8 => ?_) (fun c8 => ?_)
    · have E := am_ifT E c8
      refine am_iconst 18 (-1 : Int32) C dX11_back_18 (by decide) ?_
      replace E := Option.some.inj E
      subst E
      exact as_iret 19 C Z rfl dX11_back_19
    · have E := am_ifF E c8
      refine am_aload_n 9 C dX11_back_9 rfl 0 rfl ?_
      refine as_getr 10 C fl_X11_44_10 dX11_back_10 (by decide) sh_0 (rf_0_10 _ _) ?_
      refine am_iload_n 13 C dX11_back_13 rfl 1 rfl ?_
      obtain ⟨g2, E⟩ := am_gdE E
      refine as_zald 14 C dX11_back_14 (by decide) sh_31 g2 ?_
      refine am_if_ne 15 20 C dX11_back_15 (by decide) (fun c7 => ?_) (fun c7 => ?_)
      · have E := am_ifF E c7
        refine am_aload_n 20 C dX11_back_20 rfl 0 rfl ?_
        refine as_getr 21 C fl_X11_36_10 dX11_back_21 (by decide) sh_0 (rf_0_8 _ _) ?_
        refine am_aload_n 24 C dX11_back_24 rfl 0 rfl ?_
        refine as_getr 25 C fl_X11_40_10 dX11_back_25 (by decide) sh_0 (rf_0_9 _ _) ?_
        refine am_iload_n 28 C dX11_back_28 rfl 1 rfl ?_
        obtain ⟨g3, E⟩ := am_gdE E
        refine as_aald 29 (q := 186 + 15 * (p1).toNatClampNeg) C dX11_back_29 (by decide) sh_30 (by decide) g3 (fun t u => ra_30 t u _ (g3).2) ?_
        obtain ⟨q4, hq4, E⟩ := am_ltE E
        refine as_nmr hq4 ?_
        have mq4 : q4 ∈ am_isS := by rw [hq4]; exact rb_30 _ (g3).2
        obtain ⟨s5, Ec, E⟩ := am_bdE E
        refine as_callV 30 (s2 := s5) (st := []) (st2 := []) [.ref q4] C A (by decide) ml_X11_422 yc_X5_copyFrom yv_X5_copyFrom (t_X5_copyFrom 15 q4 s0 Ec) (by decide) sh_15 rfl rfl (Nat.le_of_ble_eq_true rfl) rfl dX11_back_30 ?_
        refine am_aload_n 33 C dX11_back_33 rfl 0 rfl ?_
        refine as_getr 34 C fl_X11_51_10 dX11_back_34 (by decide) sh_0 (rf_0_11 _ _) ?_
        obtain ⟨s6, Ec, E⟩ := am_bdE E
        refine as_callV 37 (s2 := s6) (st := []) (st2 := []) [] C A (by decide) ml_X11_132 yc_X0_forget yv_X0_forget (t_X0_forget  s5 Ec) (by decide) sh_32 rfl rfl (Nat.le_of_ble_eq_true rfl) rfl dX11_back_37 ?_
        refine am_aload_n 40 C dX11_back_40 rfl 0 rfl ?_
        refine as_getr 41 C fl_X11_36_10 dX11_back_41 (by decide) sh_0 (rf_0_8 _ _) ?_
        refine as_getr 44 C fl_X11_60_4 dX11_back_44 (by decide) sh_15 (rf_15_1 _ _) ?_
        refine as_geti 47 C fl_X11_203_1 dX11_back_47 (by decide) sh_24 ?_
        replace E := Option.some.inj E
        subst E
        exact as_iret 50 C Z rfl dX11_back_50
      · have E := am_ifT E c7
        refine am_iconst 18 (-1 : Int32) C dX11_back_18 (by decide) ?_
        replace E := Option.some.inj E
        subst E
        exact as_iret 19 C Z rfl dX11_back_19
def j_X4_readTest_123 (v2 : Int32) (s3 : am_S) : Option (am_S) :=
  am_if (v2 = 0) (some s3) (am_lt s3.2.2.2 (fun q4 => am_gd (q4 ∈ am_isR) (am_bd (f_X3_addStep q4 (nI 4) (0 : Int32) s3) (fun s5 => some s5))))
def j_X4_readTest_90 (rf : Int32 → am_S → Option am_S) (p1 : Int32) (v12 : Int32) (v13 : Int32) (v14 : Int32) (s15 : am_S) : Option ((Int32 × Int32 × am_S) ⊕ (am_S)) :=
  am_bd (f_X7_step s15) (fun s16 => am_bd (rf p1 s16) (fun s17 => am_if (v14 = 0) (am_lt s17.2.2.2 (fun q19 => am_gd (q19 ∈ am_isR) (am_bd (f_X3_addStep q19 (nI 3) (0 : Int32) s17) (fun s20 => am_lt (v13 + (1 : Int32)) (fun v21 => some (Sum.inl (v12, v21, s20))))))) (am_lt (v13 + (1 : Int32)) (fun v18 => some (Sum.inl (v12, v18, s17))))))
def j_X4_readTest_76 (rf : Int32 → am_S → Option am_S) (p1 : Int32) (v23 : Int32) (v24 : Int32) (v25 : Int32) (s26 : am_S) : Option ((Int32 × Int32 × am_S) ⊕ (am_S)) :=
  am_if (v23 = 0) (am_if (v25 = 0) (j_X4_readTest_90 rf p1 (0 : Int32) v24 v25 s26) (j_X4_readTest_90 rf p1 (1 : Int32) v24 v25 s26)) (j_X4_readTest_90 rf p1 (1 : Int32) v24 v25 s26)
def j_X4_readTest_56 (rf : Int32 → am_S → Option am_S) (p1 : Int32) (v29 : Int32) (v30 : Int32) (v31 : Int32) (s32 : am_S) : Option ((Int32 × Int32 × am_S) ⊕ (am_S)) :=
  am_if (v29 = 0) (j_X4_readTest_76 rf p1 v30 v31 v29 s32) (am_if (v30 = 0) (j_X4_readTest_76 rf p1 v30 v31 v29 s32) (am_lt s32.2.2.2 (fun q33 => am_gd (q33 ∈ am_isR) (am_bd (f_X3_addStep q33 (nI 4) (0 : Int32) s32) (fun s34 => j_X4_readTest_76 rf p1 v30 v31 v29 s34)))))
def b_X4_readTest_9 (rf : Int32 → am_S → Option am_S) (p1 : Int32) (v9 : Int32) (v10 : Int32) (s11 : am_S) : Option ((Int32 × Int32 × am_S) ⊕ (am_S)) :=
  am_if ((nI 400) ≤ v10) (am_bd (j_X4_readTest_123 v9 s11) (fun e37 => some (Sum.inr e37))) (am_bd (f_X7_fine s11) (fun v38 => am_if (v38 = 0) (am_bd (j_X4_readTest_123 v9 s11) (fun e39 => some (Sum.inr e39))) (am_bd (f_X7_wordHere s11) (fun v40 => am_bd (f_X4_isJoint v40) (fun v41 => am_if (v41 = 0) (am_bd (j_X4_readTest_123 v9 s11) (fun e42 => some (Sum.inr e42))) (am_bd (f_X7_wordHere s11) (fun v43 => am_if (v43 = (nI 10)) (j_X4_readTest_56 rf p1 (1 : Int32) v9 v10 s11) (j_X4_readTest_56 rf p1 (0 : Int32) v9 v10 s11))))))))
def f_X4_readTest (rf : Int32 → am_S → Option am_S) (p1 : Int32) (s0 : am_S) : Option (am_S) :=
  am_bd (rf p1 s0) (fun s7 => am_lp (fun (q : Int32 × Int32 × am_S) => b_X4_readTest_9 rf p1 q.1 q.2.1 q.2.2) am_F ((0 : Int32), (0 : Int32), s7))
set_option maxRecDepth 100000 in
set_option maxHeartbeats 4000000 in
theorem t_X4_readTest (rf : Int32 → am_S → Option am_S) (dk : Nat) (hdk : 4 ≤ dk) (hrf : ∀ (v : Int32) (s : am_S) {s2 : am_S}, rf v s = some s2 → AS yX4_readFact cX4_readFact 5 none dk [.ref 247, .int v] s none s2) (p1 : Int32) (s0 : am_S) {z : am_S} (E : f_X4_readTest rf p1 s0 = some z) : AS yX4_readTest cX4_readTest 5 none (dk + 1) [.ref 247, .int p1] s0 none z := by
  unfold f_X4_readTest at E
  refine as_met (lv := [(0, .ref 247), (1, .int p1)]) (by decide +kernel) (by simp [lg_sl, Value.category]) rfl (fun x C A Z => ?_)
  have K123 : ∀ (v2 : Int32) (s3 : am_S), j_X4_readTest_123 v2 s3 = some z → AX x 0 0 123 [(0, .ref 247), (2, .int v2)] [] am_N (am_h s3) := by
    intro v2 s3 E
    unfold j_X4_readTest_123 at E
    refine am_iload_n 123 C dX4_readTest_123 rfl 1 rfl ?_
    refine am_if_eq 124 136 C dX4_readTest_124 (by decide) (fun c6 => ?_) (fun c6 => ?_)
    · have E := am_ifT E c6
      replace E := Option.some.inj E
      subst E
      exact as_vret 136 C Z dX4_readTest_136
    · have E := am_ifF E c6
      refine am_aload_n 127 C dX4_readTest_127 rfl 0 rfl ?_
      refine as_getr 128 C fl_X4_9_3 dX4_readTest_128 (by decide) sh_247 (rf_247_1 _ _) ?_
      obtain ⟨q4, hq4, E⟩ := am_ltE E
      refine as_nmr hq4 ?_
      obtain ⟨mq4, E⟩ := am_gdE E
      refine am_iconst 131 (nI 4) C dX4_readTest_131 (by decide) ?_
      refine am_iconst 132 (0 : Int32) C dX4_readTest_132 (by decide) ?_
      obtain ⟨s5, Ec, E⟩ := am_bdE E
      refine as_callV 133 (s2 := s5) (st := []) (st2 := []) [.int (nI 4), .int (0 : Int32)] C A (by omega) ml_X4_66 yc_X3_addStep yv_X3_addStep (t_X3_addStep q4 (nI 4) (0 : Int32) s3 Ec) (iR_l0 _ mq4) (iR_sh _ mq4) rfl rfl (Nat.le_of_ble_eq_true rfl) rfl dX4_readTest_133 ?_
      replace E := Option.some.inj E
      subst E
      exact as_vret 136 C Z dX4_readTest_136
  refine am_aload_n 0 C dX4_readTest_0 rfl 0 rfl ?_
  refine am_iload_n 1 C dX4_readTest_1 rfl 1 rfl ?_
  obtain ⟨s7, Ec, E⟩ := am_bdE E
  refine as_callV 2 (s2 := s7) (st := []) (st2 := []) [.int p1] C A (by omega) ml_X4_59 yc_X4_readFact yv_X4_readFact (hrf p1 s0 Ec) (by decide) sh_247 rfl rfl (Nat.le_of_ble_eq_true rfl) rfl dX4_readTest_2 ?_
  refine am_iconst 5 (0 : Int32) C dX4_readTest_5 (by decide) ?_
  refine am_istore_n 6 (lv2 := [(2, .int (0 : Int32)), (0, .ref 247), (1, .int p1)]) C dX4_readTest_6 rfl (by decide) rfl ?_
  refine am_iconst 7 (0 : Int32) C dX4_readTest_7 (by decide) ?_
  refine am_istore_n 8 (lv2 := [(3, .int (0 : Int32)), (2, .int (0 : Int32)), (0, .ref 247), (1, .int p1)]) C dX4_readTest_8 rfl (by decide) rfl ?_
  have LP8 : ∀ (n : Nat) (v9 : Int32) (v10 : Int32) (s11 : am_S), am_lp (fun (q : Int32 × Int32 × am_S) => b_X4_readTest_9 rf p1 q.1 q.2.1 q.2.2) n (v9, v10, s11) = some z → AX x 0 0 9 [(0, .ref 247), (1, .int p1), (2, .int v9), (3, .int v10)] [] am_N (am_h s11) := by
    intro n
    induction n with
    | zero => intro v9 v10 s11 E; exact (am_lp0 E).elim
    | succ n ih8 =>
      intro v9 v10 s11 E
      obtain ⟨r8, E, Er8⟩ := am_lpE E
      replace E : b_X4_readTest_9 rf p1 v9 v10 s11 = some r8 := E
      unfold b_X4_readTest_9 at E
      have K90 : ∀ (v12 : Int32) (v13 : Int32) (v14 : Int32) (s15 : am_S), j_X4_readTest_90 rf p1 v12 v13 v14 s15 = some r8 → AX x 0 0 90 [(0, .ref 247), (1, .int p1), (3, .int v13), (4, .int v14)] [.int v12] am_N (am_h s15) := by
        intro v12 v13 v14 s15 E
        unfold j_X4_readTest_90 at E
        refine am_istore_n 90 (lv2 := [(2, .int v12), (0, .ref 247), (1, .int p1), (3, .int v13), (4, .int v14)]) C dX4_readTest_90 rfl (by decide) rfl ?_
        refine am_aload_n 91 C dX4_readTest_91 rfl 1 rfl ?_
        refine as_getr 92 C fl_X4_25_3 dX4_readTest_92 (by decide) sh_247 (rf_247_0 _ _) ?_
        obtain ⟨s16, Ec, E⟩ := am_bdE E
        refine as_callV 95 (s2 := s16) (st := []) (st2 := []) [] C A (by omega) ml_X4_39 yc_X7_step yv_X7_step (t_X7_step  s15 Ec) (by decide) sh_2 rfl rfl (Nat.le_of_ble_eq_true rfl) rfl dX4_readTest_95 ?_
        refine am_aload_n 98 C dX4_readTest_98 rfl 1 rfl ?_
        refine am_iload_n 99 C dX4_readTest_99 rfl 2 rfl ?_
        obtain ⟨s17, Ec, E⟩ := am_bdE E
        refine as_callV 100 (s2 := s17) (st := []) (st2 := []) [.int p1] C A (by omega) ml_X4_59 yc_X4_readFact yv_X4_readFact (hrf p1 s16 Ec) (by decide) sh_247 rfl rfl (Nat.le_of_ble_eq_true rfl) rfl dX4_readTest_100 ?_
        refine am_iload 103 C dX4_readTest_103 4 rfl ?_
        refine am_if_ne 105 117 C dX4_readTest_105 (by decide) (fun c22 => ?_) (fun c22 => ?_)
        · have E := am_ifF E c22
          obtain ⟨v18, hv18, E⟩ := am_ltE E
          refine as_iinc 117 (q := (1 : Int32)) (lv2 := [(3, .int v18), (2, .int v12), (0, .ref 247), (1, .int p1), (4, .int v14)]) C dX4_readTest_117 3 rfl (by decide) hv18 (by decide) rfl ?_
          refine am_goto 120 9 C dX4_readTest_120 (by decide) ?_
          replace E := Option.some.inj E
          replace E := am_exL E Er8
          refine am_lvs [2, 3, 1, 0] rfl ?_
          exact ih8 _ _ _ E
        · have E := am_ifT E c22
          refine am_aload_n 108 C dX4_readTest_108 rfl 1 rfl ?_
          refine as_getr 109 C fl_X4_9_3 dX4_readTest_109 (by decide) sh_247 (rf_247_1 _ _) ?_
          obtain ⟨q19, hq19, E⟩ := am_ltE E
          refine as_nmr hq19 ?_
          obtain ⟨mq19, E⟩ := am_gdE E
          refine am_iconst 112 (nI 3) C dX4_readTest_112 (by decide) ?_
          refine am_iconst 113 (0 : Int32) C dX4_readTest_113 (by decide) ?_
          obtain ⟨s20, Ec, E⟩ := am_bdE E
          refine as_callV 114 (s2 := s20) (st := []) (st2 := []) [.int (nI 3), .int (0 : Int32)] C A (by omega) ml_X4_66 yc_X3_addStep yv_X3_addStep (t_X3_addStep q19 (nI 3) (0 : Int32) s17 Ec) (iR_l0 _ mq19) (iR_sh _ mq19) rfl rfl (Nat.le_of_ble_eq_true rfl) rfl dX4_readTest_114 ?_
          obtain ⟨v21, hv21, E⟩ := am_ltE E
          refine as_iinc 117 (q := (1 : Int32)) (lv2 := [(3, .int v21), (2, .int v12), (0, .ref 247), (1, .int p1), (4, .int v14)]) C dX4_readTest_117 3 rfl (by decide) hv21 (by decide) rfl ?_
          refine am_goto 120 9 C dX4_readTest_120 (by decide) ?_
          replace E := Option.some.inj E
          replace E := am_exL E Er8
          refine am_lvs [2, 3, 1, 0] rfl ?_
          exact ih8 _ _ _ E
      have K76 : ∀ (v23 : Int32) (v24 : Int32) (v25 : Int32) (s26 : am_S), j_X4_readTest_76 rf p1 v23 v24 v25 s26 = some r8 → AX x 0 0 76 [(0, .ref 247), (1, .int p1), (2, .int v23), (3, .int v24), (4, .int v25)] [] am_N (am_h s26) := by
        intro v23 v24 v25 s26 E
        unfold j_X4_readTest_76 at E
        refine am_iload_n 76 C dX4_readTest_76 rfl 2 rfl ?_
        refine am_if_ne 77 85 C dX4_readTest_77 (by decide) (fun c28 => ?_) (fun c28 => ?_)
        · have E := am_ifF E c28
          refine am_iconst 85 (1 : Int32) C dX4_readTest_85 (by decide) ?_
          refine am_goto 86 90 C dX4_readTest_86 (by decide) ?_
          refine am_lvs [0, 1, 3, 4] rfl ?_
          exact K90 _ _ _ _ E
        · have E := am_ifT E c28
          refine am_iload 80 C dX4_readTest_80 4 rfl ?_
          refine am_if_eq 82 89 C dX4_readTest_82 (by decide) (fun c27 => ?_) (fun c27 => ?_)
          · have E := am_ifT E c27
            refine am_iconst 89 (0 : Int32) C dX4_readTest_89 (by decide) ?_
            refine am_lvs [0, 1, 3, 4] rfl ?_
            exact K90 _ _ _ _ E
          · have E := am_ifF E c27
            refine am_iconst 85 (1 : Int32) C dX4_readTest_85 (by decide) ?_
            refine am_goto 86 90 C dX4_readTest_86 (by decide) ?_
            refine am_lvs [0, 1, 3, 4] rfl ?_
            exact K90 _ _ _ _ E
      have K56 : ∀ (v29 : Int32) (v30 : Int32) (v31 : Int32) (s32 : am_S), j_X4_readTest_56 rf p1 v29 v30 v31 s32 = some r8 → AX x 0 0 56 [(0, .ref 247), (1, .int p1), (2, .int v30), (3, .int v31)] [.int v29] am_N (am_h s32) := by
        intro v29 v30 v31 s32 E
        unfold j_X4_readTest_56 at E
        refine am_istore 56 (lv2 := [(4, .int v29), (0, .ref 247), (1, .int p1), (2, .int v30), (3, .int v31)]) C dX4_readTest_56 (by decide) rfl ?_
        refine am_iload 58 C dX4_readTest_58 0 rfl ?_
        refine am_if_eq 60 76 C dX4_readTest_60 (by decide) (fun c36 => ?_) (fun c36 => ?_)
        · have E := am_ifT E c36
          refine am_lvs [1, 2, 3, 4, 0] rfl ?_
          exact K76 _ _ _ _ E
        · have E := am_ifF E c36
          refine am_iload_n 63 C dX4_readTest_63 rfl 3 rfl ?_
          refine am_if_eq 64 76 C dX4_readTest_64 (by decide) (fun c35 => ?_) (fun c35 => ?_)
          · have E := am_ifT E c35
            refine am_lvs [1, 2, 3, 4, 0] rfl ?_
            exact K76 _ _ _ _ E
          · have E := am_ifF E c35
            refine am_aload_n 67 C dX4_readTest_67 rfl 1 rfl ?_
            refine as_getr 68 C fl_X4_9_3 dX4_readTest_68 (by decide) sh_247 (rf_247_1 _ _) ?_
            obtain ⟨q33, hq33, E⟩ := am_ltE E
            refine as_nmr hq33 ?_
            obtain ⟨mq33, E⟩ := am_gdE E
            refine am_iconst 71 (nI 4) C dX4_readTest_71 (by decide) ?_
            refine am_iconst 72 (0 : Int32) C dX4_readTest_72 (by decide) ?_
            obtain ⟨s34, Ec, E⟩ := am_bdE E
            refine as_callV 73 (s2 := s34) (st := []) (st2 := []) [.int (nI 4), .int (0 : Int32)] C A (by omega) ml_X4_66 yc_X3_addStep yv_X3_addStep (t_X3_addStep q33 (nI 4) (0 : Int32) s32 Ec) (iR_l0 _ mq33) (iR_sh _ mq33) rfl rfl (Nat.le_of_ble_eq_true rfl) rfl dX4_readTest_73 ?_
            refine am_lvs [1, 2, 3, 4, 0] rfl ?_
            exact K76 _ _ _ _ E
      refine am_iload_n 9 C dX4_readTest_9 rfl 3 rfl ?_
      refine am_sipush 10 (nI 400) C dX4_readTest_10 (by decide) ?_
      refine am_icmp_ge 13 123 C dX4_readTest_13 (by decide) (fun c47 => ?_) (fun c47 => ?_)
      · have E := am_ifT E c47
        obtain ⟨e37, E, E2⟩ := am_bdE E
        replace E2 := Option.some.inj E2
        replace E2 := am_exR E2 Er8
        rw [E2] at E
        refine am_lvs [0, 2] rfl ?_
        exact K123 _ _ E
      · have E := am_ifF E c47
        refine am_aload_n 16 C dX4_readTest_16 rfl 0 rfl ?_
        refine as_getr 17 C fl_X4_25_3 dX4_readTest_17 (by decide) sh_247 (rf_247_0 _ _) ?_
        obtain ⟨v38, Ec, E⟩ := am_bdE E
        refine as_callV 20 (s2 := s11) (st := []) (st2 := [.int v38]) [] C A (by omega) ml_X4_51 yc_X7_fine yv_X7_fine (t_X7_fine  s11 Ec) (by decide) sh_2 rfl rfl (Nat.le_of_ble_eq_true rfl) rfl dX4_readTest_20 ?_
        refine am_if_eq 23 123 C dX4_readTest_23 (by decide) (fun c46 => ?_) (fun c46 => ?_)
        · have E := am_ifT E c46
          obtain ⟨e39, E, E2⟩ := am_bdE E
          replace E2 := Option.some.inj E2
          replace E2 := am_exR E2 Er8
          rw [E2] at E
          refine am_lvs [0, 2] rfl ?_
          exact K123 _ _ E
        · have E := am_ifF E c46
          refine am_aload_n 26 C dX4_readTest_26 rfl 0 rfl ?_
          refine as_getr 27 C fl_X4_25_3 dX4_readTest_27 (by decide) sh_247 (rf_247_0 _ _) ?_
          obtain ⟨v40, Ec, E⟩ := am_bdE E
          refine as_callV 30 (s2 := s11) (st := []) (st2 := [.int v40]) [] C A (by omega) ml_X4_29 yc_X7_wordHere yv_X7_wordHere (t_X7_wordHere  s11 Ec) (by decide) sh_2 rfl rfl (Nat.le_of_ble_eq_true rfl) rfl dX4_readTest_30 ?_
          obtain ⟨v41, Ec, E⟩ := am_bdE E
          refine as_callS 33 (s2 := s11) (st := []) (st2 := [.int v41]) [.int v40] C A (by omega) ml_X4_62 yc_X4_isJoint ys_X4_isJoint (t_X4_isJoint v40 s11 Ec) rfl rfl (Nat.le_of_ble_eq_true rfl) rfl dX4_readTest_33 ?_
          refine am_if_eq 36 123 C dX4_readTest_36 (by decide) (fun c45 => ?_) (fun c45 => ?_)
          · have E := am_ifT E c45
            obtain ⟨e42, E, E2⟩ := am_bdE E
            replace E2 := Option.some.inj E2
            replace E2 := am_exR E2 Er8
            rw [E2] at E
            refine am_lvs [0, 2] rfl ?_
            exact K123 _ _ E
          · have E := am_ifF E c45
            refine am_aload_n 39 C dX4_readTest_39 rfl 0 rfl ?_
            refine as_getr 40 C fl_X4_25_3 dX4_readTest_40 (by decide) sh_247 (rf_247_0 _ _) ?_
            obtain ⟨v43, Ec, E⟩ := am_bdE E
            refine as_callV 43 (s2 := s11) (st := []) (st2 := [.int v43]) [] C A (by omega) ml_X4_29 yc_X7_wordHere yv_X7_wordHere (t_X7_wordHere  s11 Ec) (by decide) sh_2 rfl rfl (Nat.le_of_ble_eq_true rfl) rfl dX4_readTest_43 ?_
            refine am_bipush 46 (nI 10) C dX4_readTest_46 (by decide) ?_
            refine am_icmp_ne 48 55 C dX4_readTest_48 (by decide) (fun c44 => ?_) (fun c44 => ?_)
            · have E := am_ifF E c44
              refine am_iconst 55 (0 : Int32) C dX4_readTest_55 (by decide) ?_
              refine am_lvs [0, 1, 2, 3] rfl ?_
              exact K56 _ _ _ _ E
            · have E := am_ifT E c44
              refine am_iconst 51 (1 : Int32) C dX4_readTest_51 (by decide) ?_
              refine am_goto 52 56 C dX4_readTest_52 (by decide) ?_
              refine am_lvs [0, 1, 2, 3] rfl ?_
              exact K56 _ _ _ _ E
  refine am_lvs [2, 3, 1, 0] rfl ?_
  exact LP8 am_F _ _ _ E
def j_X4_readFact_61 (rf : Int32 → am_S → Option am_S) (rt : Int32 → am_S → Option am_S) (p1 : Int32) (v2 : Int32) (v3 : Int32) (s4 : am_S) : Option (am_S) :=
  am_if (v2 = 0) (am_if (v3 = 0) (am_bd (f_X4_readSum s4) (fun s5 => am_b2 (f_X4_readSign s5) (fun v6 s7 => am_bd (f_X4_readSum s7) (fun s8 => am_lt s8.2.2.2 (fun q9 => am_gd (q9 ∈ am_isR) (am_bd (f_X3_addStep q9 v6 (0 : Int32) s8) (fun s10 => some s10))))))) (am_bd (f_X7_step s4) (fun s11 => am_bd (rt (p1 + (1 : Int32)) s11) (fun s12 => am_bd (f_X4_readClosing s12) (fun s13 => some s13))))) (am_bd (f_X7_step s4) (fun s15 => am_bd (rf (p1 + (1 : Int32)) s15) (fun s16 => am_lt s16.2.2.2 (fun q17 => am_gd (q17 ∈ am_isR) (am_bd (f_X3_addStep q17 (nI 2) (0 : Int32) s16) (fun s18 => some s18))))))
def j_X4_readFact_39 (rf : Int32 → am_S → Option am_S) (rt : Int32 → am_S → Option am_S) (p1 : Int32) (v20 : Int32) (v21 : Int32) (s22 : am_S) : Option (am_S) :=
  am_if (v20 = 0) (j_X4_readFact_61 rf rt p1 v21 v20 s22) (am_if (p1 < (nI 10)) (j_X4_readFact_61 rf rt p1 v21 v20 s22) (am_bd (f_X7_fail (nI 2) s22) (fun s23 => some s23)))
def j_X4_readFact_17 (rf : Int32 → am_S → Option am_S) (rt : Int32 → am_S → Option am_S) (p1 : Int32) (v26 : Int32) (s27 : am_S) : Option (am_S) :=
  am_if (v26 = 0) (am_bd (f_X7_isByte (nI 91) s27) (fun v28 => am_if (v28 = 0) (j_X4_readFact_39 rf rt p1 (0 : Int32) v26 s27) (j_X4_readFact_39 rf rt p1 (1 : Int32) v26 s27))) (j_X4_readFact_39 rf rt p1 (1 : Int32) v26 s27)
def f_X4_readFact (rf : Int32 → am_S → Option am_S) (rt : Int32 → am_S → Option am_S) (p1 : Int32) (s0 : am_S) : Option (am_S) :=
  am_bd (f_X7_wordHere s0) (fun v31 => am_if (v31 = (nI 12)) (j_X4_readFact_17 rf rt p1 (1 : Int32) s0) (j_X4_readFact_17 rf rt p1 (0 : Int32) s0))
set_option maxRecDepth 100000 in
set_option maxHeartbeats 4000000 in
theorem t_X4_readFact (rf : Int32 → am_S → Option am_S) (rt : Int32 → am_S → Option am_S) (dk : Nat) (hdk : 4 ≤ dk) (hrf : ∀ (v : Int32) (s : am_S) {s2 : am_S}, rf v s = some s2 → AS yX4_readFact cX4_readFact 5 none dk [.ref 247, .int v] s none s2) (hrt : ∀ (v : Int32) (s : am_S) {s2 : am_S}, rt v s = some s2 → AS yX4_readTest cX4_readTest 5 none (dk + 1) [.ref 247, .int v] s none s2) (p1 : Int32) (s0 : am_S) {z : am_S} (E : f_X4_readFact rf rt p1 s0 = some z) : AS yX4_readFact cX4_readFact 5 none (dk + 2) [.ref 247, .int p1] s0 none z := by
  unfold f_X4_readFact at E
  refine as_met (lv := [(0, .ref 247), (1, .int p1)]) (by decide +kernel) (by simp [lg_sl, Value.category]) rfl (fun x C A Z => ?_)
  have K61 : ∀ (v2 : Int32) (v3 : Int32) (s4 : am_S), j_X4_readFact_61 rf rt p1 v2 v3 s4 = some z → AX x 0 0 61 [(0, .ref 247), (1, .int p1), (2, .int v2), (3, .int v3)] [] am_N (am_h s4) := by
    intro v2 v3 s4 E
    unfold j_X4_readFact_61 at E
    refine am_iload_n 61 C dX4_readFact_61 rfl 2 rfl ?_
    refine am_if_eq 62 91 C dX4_readFact_62 (by decide) (fun c19 => ?_) (fun c19 => ?_)
    · have E := am_ifT E c19
      refine am_iload_n 91 C dX4_readFact_91 rfl 3 rfl ?_
      refine am_if_eq 92 116 C dX4_readFact_92 (by decide) (fun c14 => ?_) (fun c14 => ?_)
      · have E := am_ifT E c14
        refine am_aload_n 116 C dX4_readFact_116 rfl 0 rfl ?_
        obtain ⟨s5, Ec, E⟩ := am_bdE E
        refine as_callV 117 (s2 := s5) (st := []) (st2 := []) [] C A (by omega) ml_X4_45 yc_X4_readSum yv_X4_readSum (t_X4_readSum  s4 Ec) (by decide) sh_247 rfl rfl (Nat.le_of_ble_eq_true rfl) rfl dX4_readFact_117 ?_
        refine am_aload_n 120 C dX4_readFact_120 rfl 0 rfl ?_
        obtain ⟨v6, s7, Ec, E⟩ := am_b2E E
        refine as_callV 121 (s2 := s7) (st := []) (st2 := [.int v6]) [] C A (by omega) ml_X4_76 yc_X4_readSign yv_X4_readSign (t_X4_readSign  s5 Ec) (by decide) sh_247 rfl rfl (Nat.le_of_ble_eq_true rfl) rfl dX4_readFact_121 ?_
        refine am_istore 124 (lv2 := [(4, .int v6), (0, .ref 247), (1, .int p1), (2, .int v2), (3, .int v3)]) C dX4_readFact_124 (by decide) rfl ?_
        refine am_aload_n 126 C dX4_readFact_126 rfl 1 rfl ?_
        obtain ⟨s8, Ec, E⟩ := am_bdE E
        refine as_callV 127 (s2 := s8) (st := []) (st2 := []) [] C A (by omega) ml_X4_45 yc_X4_readSum yv_X4_readSum (t_X4_readSum  s7 Ec) (by decide) sh_247 rfl rfl (Nat.le_of_ble_eq_true rfl) rfl dX4_readFact_127 ?_
        refine am_aload_n 130 C dX4_readFact_130 rfl 1 rfl ?_
        refine as_getr 131 C fl_X4_9_3 dX4_readFact_131 (by decide) sh_247 (rf_247_1 _ _) ?_
        obtain ⟨q9, hq9, E⟩ := am_ltE E
        refine as_nmr hq9 ?_
        obtain ⟨mq9, E⟩ := am_gdE E
        refine am_iload 134 C dX4_readFact_134 0 rfl ?_
        refine am_iconst 136 (0 : Int32) C dX4_readFact_136 (by decide) ?_
        obtain ⟨s10, Ec, E⟩ := am_bdE E
        refine as_callV 137 (s2 := s10) (st := []) (st2 := []) [.int v6, .int (0 : Int32)] C A (by omega) ml_X4_66 yc_X3_addStep yv_X3_addStep (t_X3_addStep q9 v6 (0 : Int32) s8 Ec) (iR_l0 _ mq9) (iR_sh _ mq9) rfl rfl (Nat.le_of_ble_eq_true rfl) rfl dX4_readFact_137 ?_
        replace E := Option.some.inj E
        subst E
        exact as_vret 140 C Z dX4_readFact_140
      · have E := am_ifF E c14
        refine am_aload_n 95 C dX4_readFact_95 rfl 0 rfl ?_
        refine as_getr 96 C fl_X4_25_3 dX4_readFact_96 (by decide) sh_247 (rf_247_0 _ _) ?_
        obtain ⟨s11, Ec, E⟩ := am_bdE E
        refine as_callV 99 (s2 := s11) (st := []) (st2 := []) [] C A (by omega) ml_X4_39 yc_X7_step yv_X7_step (t_X7_step  s4 Ec) (by decide) sh_2 rfl rfl (Nat.le_of_ble_eq_true rfl) rfl dX4_readFact_99 ?_
        refine am_aload_n 102 C dX4_readFact_102 rfl 0 rfl ?_
        refine am_iload_n 103 C dX4_readFact_103 rfl 1 rfl ?_
        refine am_iconst 104 (1 : Int32) C dX4_readFact_104 (by decide) ?_
        refine am_iadd 105 C dX4_readFact_105 ?_
        obtain ⟨s12, Ec, E⟩ := am_bdE E
        refine as_callV 106 (s2 := s12) (st := []) (st2 := []) [.int (p1 + (1 : Int32))] C A (by omega) ml_X4_48 yc_X4_readTest yv_X4_readTest (hrt (p1 + (1 : Int32)) s11 Ec) (by decide) sh_247 rfl rfl (Nat.le_of_ble_eq_true rfl) rfl dX4_readFact_106 ?_
        refine am_aload_n 109 C dX4_readFact_109 rfl 0 rfl ?_
        obtain ⟨s13, Ec, E⟩ := am_bdE E
        refine as_callV 110 (s2 := s13) (st := []) (st2 := []) [] C A (by omega) ml_X4_73 yc_X4_readClosing yv_X4_readClosing (t_X4_readClosing  s12 Ec) (by decide) sh_247 rfl rfl (Nat.le_of_ble_eq_true rfl) rfl dX4_readFact_110 ?_
        refine am_goto 113 140 C dX4_readFact_113 (by decide) ?_
        replace E := Option.some.inj E
        subst E
        exact as_vret 140 C Z dX4_readFact_140
    · have E := am_ifF E c19
      refine am_aload_n 65 C dX4_readFact_65 rfl 0 rfl ?_
      refine as_getr 66 C fl_X4_25_3 dX4_readFact_66 (by decide) sh_247 (rf_247_0 _ _) ?_
      obtain ⟨s15, Ec, E⟩ := am_bdE E
      refine as_callV 69 (s2 := s15) (st := []) (st2 := []) [] C A (by omega) ml_X4_39 yc_X7_step yv_X7_step (t_X7_step  s4 Ec) (by decide) sh_2 rfl rfl (Nat.le_of_ble_eq_true rfl) rfl dX4_readFact_69 ?_
      refine am_aload_n 72 C dX4_readFact_72 rfl 0 rfl ?_
      refine am_iload_n 73 C dX4_readFact_73 rfl 1 rfl ?_
      refine am_iconst 74 (1 : Int32) C dX4_readFact_74 (by decide) ?_
      refine am_iadd 75 C dX4_readFact_75 ?_
      obtain ⟨s16, Ec, E⟩ := am_bdE E
      refine as_callV 76 (s2 := s16) (st := []) (st2 := []) [.int (p1 + (1 : Int32))] C A (by omega) ml_X4_59 yc_X4_readFact yv_X4_readFact (hrf (p1 + (1 : Int32)) s15 Ec) (by decide) sh_247 rfl rfl (Nat.le_of_ble_eq_true rfl) rfl dX4_readFact_76 ?_
      refine am_aload_n 79 C dX4_readFact_79 rfl 0 rfl ?_
      refine as_getr 80 C fl_X4_9_3 dX4_readFact_80 (by decide) sh_247 (rf_247_1 _ _) ?_
      obtain ⟨q17, hq17, E⟩ := am_ltE E
      refine as_nmr hq17 ?_
      obtain ⟨mq17, E⟩ := am_gdE E
      refine am_iconst 83 (nI 2) C dX4_readFact_83 (by decide) ?_
      refine am_iconst 84 (0 : Int32) C dX4_readFact_84 (by decide) ?_
      obtain ⟨s18, Ec, E⟩ := am_bdE E
      refine as_callV 85 (s2 := s18) (st := []) (st2 := []) [.int (nI 2), .int (0 : Int32)] C A (by omega) ml_X4_66 yc_X3_addStep yv_X3_addStep (t_X3_addStep q17 (nI 2) (0 : Int32) s16 Ec) (iR_l0 _ mq17) (iR_sh _ mq17) rfl rfl (Nat.le_of_ble_eq_true rfl) rfl dX4_readFact_85 ?_
      refine am_goto 88 140 C dX4_readFact_88 (by decide) ?_
      replace E := Option.some.inj E
      subst E
      exact as_vret 140 C Z dX4_readFact_140
  have K39 : ∀ (v20 : Int32) (v21 : Int32) (s22 : am_S), j_X4_readFact_39 rf rt p1 v20 v21 s22 = some z → AX x 0 0 39 [(0, .ref 247), (1, .int p1), (2, .int v21)] [.int v20] am_N (am_h s22) := by
    intro v20 v21 s22 E
    unfold j_X4_readFact_39 at E
    refine am_istore_n 39 (lv2 := [(3, .int v20), (0, .ref 247), (1, .int p1), (2, .int v21)]) C dX4_readFact_39 rfl (by decide) rfl ?_
    refine am_iload_n 40 C dX4_readFact_40 rfl 0 rfl ?_
    refine am_if_eq 41 61 C dX4_readFact_41 (by decide) (fun c25 => ?_) (fun c25 => ?_)
    · have E := am_ifT E c25
      refine am_lvs [1, 2, 3, 0] rfl ?_
      exact K61 _ _ _ E
    · have E := am_ifF E c25
      refine am_iload_n 44 C dX4_readFact_44 rfl 2 rfl ?_
      refine am_bipush 45 (nI 10) C dX4_readFact_45 (by decide) ?_
      refine am_icmp_lt 47 61 C dX4_readFact_47 (by decide) (fun c24 => ?_) (fun c24 => ?_)
      · have E := am_ifT E c24
        refine am_lvs [1, 2, 3, 0] rfl ?_
        exact K61 _ _ _ E
      · have E := am_ifF E c24
        refine am_aload_n 50 C dX4_readFact_50 rfl 1 rfl ?_
        refine as_getr 51 C fl_X4_25_3 dX4_readFact_51 (by decide) sh_247 (rf_247_0 _ _) ?_
        refine am_iconst 54 (nI 2) C dX4_readFact_54 (by decide) ?_
        obtain ⟨s23, Ec, E⟩ := am_bdE E
        refine as_callV 55 (s2 := s23) (st := []) (st2 := []) [.int (nI 2)] C A (by omega) ml_X4_35 yc_X7_fail yv_X7_fail (t_X7_fail (nI 2) s22 Ec) (by decide) sh_2 rfl rfl (Nat.le_of_ble_eq_true rfl) rfl dX4_readFact_55 ?_
        refine am_goto 58 140 C dX4_readFact_58 (by decide) ?_
        replace E := Option.some.inj E
        subst E
        exact as_vret 140 C Z dX4_readFact_140
  have K17 : ∀ (v26 : Int32) (s27 : am_S), j_X4_readFact_17 rf rt p1 v26 s27 = some z → AX x 0 0 17 [(0, .ref 247), (1, .int p1)] [.int v26] am_N (am_h s27) := by
    intro v26 s27 E
    unfold j_X4_readFact_17 at E
    refine am_istore_n 17 (lv2 := [(2, .int v26), (0, .ref 247), (1, .int p1)]) C dX4_readFact_17 rfl (by decide) rfl ?_
    refine am_iload_n 18 C dX4_readFact_18 rfl 0 rfl ?_
    refine am_if_ne 19 34 C dX4_readFact_19 (by decide) (fun c30 => ?_) (fun c30 => ?_)
    · have E := am_ifF E c30
      refine am_iconst 34 (1 : Int32) C dX4_readFact_34 (by decide) ?_
      refine am_goto 35 39 C dX4_readFact_35 (by decide) ?_
      refine am_lvs [1, 2, 0] rfl ?_
      exact K39 _ _ _ E
    · have E := am_ifT E c30
      refine am_aload_n 22 C dX4_readFact_22 rfl 1 rfl ?_
      refine as_getr 23 C fl_X4_25_3 dX4_readFact_23 (by decide) sh_247 (rf_247_0 _ _) ?_
      refine am_bipush 26 (nI 91) C dX4_readFact_26 (by decide) ?_
      obtain ⟨v28, Ec, E⟩ := am_bdE E
      refine as_callV 28 (s2 := s27) (st := []) (st2 := [.int v28]) [.int (nI 91)] C A (by omega) ml_X4_70 yc_X7_isByte yv_X7_isByte (t_X7_isByte (nI 91) s27 Ec) (by decide) sh_2 rfl rfl (Nat.le_of_ble_eq_true rfl) rfl dX4_readFact_28 ?_
      refine am_if_eq 31 38 C dX4_readFact_31 (by decide) (fun c29 => ?_) (fun c29 => ?_)
      · have E := am_ifT E c29
        refine am_iconst 38 (0 : Int32) C dX4_readFact_38 (by decide) ?_
        refine am_lvs [1, 2, 0] rfl ?_
        exact K39 _ _ _ E
      · have E := am_ifF E c29
        refine am_iconst 34 (1 : Int32) C dX4_readFact_34 (by decide) ?_
        refine am_goto 35 39 C dX4_readFact_35 (by decide) ?_
        refine am_lvs [1, 2, 0] rfl ?_
        exact K39 _ _ _ E
  refine am_aload_n 0 C dX4_readFact_0 rfl 0 rfl ?_
  refine as_getr 1 C fl_X4_25_3 dX4_readFact_1 (by decide) sh_247 (rf_247_0 _ _) ?_
  obtain ⟨v31, Ec, E⟩ := am_bdE E
  refine as_callV 4 (s2 := s0) (st := []) (st2 := [.int v31]) [] C A (by omega) ml_X4_29 yc_X7_wordHere yv_X7_wordHere (t_X7_wordHere  s0 Ec) (by decide) sh_2 rfl rfl (Nat.le_of_ble_eq_true rfl) rfl dX4_readFact_4 ?_
  refine am_bipush 7 (nI 12) C dX4_readFact_7 (by decide) ?_
  refine am_icmp_ne 9 16 C dX4_readFact_9 (by decide) (fun c32 => ?_) (fun c32 => ?_)
  · have E := am_ifF E c32
    refine am_iconst 16 (0 : Int32) C dX4_readFact_16 (by decide) ?_
    refine am_lvs [0, 1] rfl ?_
    exact K17 _ _ E
  · have E := am_ifT E c32
    refine am_iconst 12 (1 : Int32) C dX4_readFact_12 (by decide) ?_
    refine am_goto 13 17 C dX4_readFact_13 (by decide) ?_
    refine am_lvs [0, 1] rfl ?_
    exact K17 _ _ E
def f_X4_rf : Nat → Int32 → am_S → Option am_S
  | 0, _, _ => none
  | k + 1, v, s => f_X4_readFact (f_X4_rf k) (f_X4_readTest (f_X4_rf k)) v s
theorem t_X4_rf : ∀ (k : Nat) (v : Int32) (s : am_S) {s2 : am_S}, f_X4_rf k v s = some s2 → AS yX4_readFact cX4_readFact 5 none (4 + 2 * k) [.ref 247, .int v] s none s2 := by
  intro k
  induction k with
  | zero => intro v s s2 E; cases E
  | succ k ih =>
    intro v s s2 E
    exact t_X4_readFact (f_X4_rf k) (f_X4_readTest (f_X4_rf k)) (4 + 2 * k) (by omega) ih (fun v s {s2} E => t_X4_readTest (f_X4_rf k) (4 + 2 * k) (by omega) ih v s E) v s E
def f_X4_rT (v : Int32) (s : am_S) : Option am_S := f_X4_readTest (f_X4_rf 12) v s
theorem t_X4_rT (v : Int32) (s : am_S) {s2 : am_S} (E : f_X4_rT v s = some s2) : AS yX4_readTest cX4_readTest 5 none 29 [.ref 247, .int v] s none s2 := t_X4_readTest (f_X4_rf 12) 28 (by decide) (t_X4_rf 12) v s E
def j_X4_readClause_125 (v2 : Int32) (v3 : Int32) (v4 : Int32) (s5 : am_S) : Option (am_S) :=
  am_bd (f_X7_fine s5) (fun v6 => am_if (v6 = 0) (some s5) (am_lt s5.2.2.2 (fun q7 => am_gd (q7 ∈ am_isR) (am_if (v2 = (nI 8)) (am_bd (f_X3_addClause q7 (1 : Int32) v3 v4 s5) (fun s9 => some s9)) (am_bd (f_X3_addClause q7 (0 : Int32) v3 v4 s5) (fun s8 => some s8))))))
def j_X4_readClause_69 (v12 : Int32) (v13 : Int32) (s14 : am_S) : Option (am_S) :=
  am_lt s14.2.2.2 (fun q15 => am_gd (q15 ∈ am_isR) (am_lt (s14.1 q15 3) (fun v16 => am_if (v12 = (nI 8)) (am_bd (f_X4_rT (0 : Int32) s14) (fun s23 => j_X4_readClause_125 v12 v13 v16 s23)) (am_bd (f_X7_fine s14) (fun v17 => am_if (v17 = 0) (j_X4_readClause_125 v12 v13 v16 s14) (am_bd (f_X7_wordHere s14) (fun v18 => am_if (v18 = (nI 4)) (am_bd (f_X7_step s14) (fun s19 => am_bd (f_X4_rT (0 : Int32) s19) (fun s20 => j_X4_readClause_125 v12 v13 v16 s20))) (j_X4_readClause_125 v12 v13 v16 s14))))))))
def j_X4_readClause_29 (p1 : Int32) (v25 : Int32) (s26 : am_S) : Option (am_S) :=
  am_if (p1 < (nI 12)) (am_bd (f_X7_step s26) (fun s27 => am_lt s27.2.2.2 (fun q28 => am_gd (q28 ∈ am_isR) (am_lt (s27.1 q28 3) (fun v29 => am_if (v25 = (nI 9)) (am_bd (f_X4_readSum s27) (fun s30 => j_X4_readClause_69 v25 v29 s30)) (j_X4_readClause_69 v25 v29 s27)))))) (am_bd (f_X7_fail (nI 4) s26) (fun s32 => some s32))
def f_X4_readClause (p1 : Int32) (s0 : am_S) : Option (am_S) :=
  am_bd (f_X7_wordHere s0) (fun v34 => am_if (v34 = (nI 8)) (j_X4_readClause_29 p1 v34 s0) (am_if (v34 = (nI 9)) (j_X4_readClause_29 p1 v34 s0) (am_bd (f_X7_fail (0 : Int32) s0) (fun s35 => some s35))))
set_option maxRecDepth 100000 in
set_option maxHeartbeats 4000000 in
theorem t_X4_readClause (p1 : Int32) (s0 : am_S) {z : am_S} (E : f_X4_readClause p1 s0 = some z) : AS yX4_readClause cX4_readClause 5 none 30 [.ref 247, .int p1] s0 none z := by
  unfold f_X4_readClause at E
  refine as_met (lv := [(0, .ref 247), (1, .int p1)]) (by decide +kernel) (by simp [lg_sl, Value.category]) rfl (fun x C A Z => ?_)
  have K125 : ∀ (v2 : Int32) (v3 : Int32) (v4 : Int32) (s5 : am_S), j_X4_readClause_125 v2 v3 v4 s5 = some z → AX x 0 0 125 [(0, .ref 247), (2, .int v2), (3, .int v3), (4, .int v4)] [] am_N (am_h s5) := by
    intro v2 v3 v4 s5 E
    unfold j_X4_readClause_125 at E
    refine am_aload_n 125 C dX4_readClause_125 rfl 0 rfl ?_
    refine as_getr 126 C fl_X4_25_3 dX4_readClause_126 (by decide) sh_247 (rf_247_0 _ _) ?_
    obtain ⟨v6, Ec, E⟩ := am_bdE E
    refine as_callV 129 (s2 := s5) (st := []) (st2 := [.int v6]) [] C A (by decide) ml_X4_51 yc_X7_fine yv_X7_fine (t_X7_fine  s5 Ec) (by decide) sh_2 rfl rfl (Nat.le_of_ble_eq_true rfl) rfl dX4_readClause_129 ?_
    refine am_if_eq 132 156 C dX4_readClause_132 (by decide) (fun c11 => ?_) (fun c11 => ?_)
    · have E := am_ifT E c11
      replace E := Option.some.inj E
      subst E
      exact as_vret 156 C Z dX4_readClause_156
    · have E := am_ifF E c11
      refine am_aload_n 135 C dX4_readClause_135 rfl 0 rfl ?_
      refine as_getr 136 C fl_X4_9_3 dX4_readClause_136 (by decide) sh_247 (rf_247_1 _ _) ?_
      obtain ⟨q7, hq7, E⟩ := am_ltE E
      refine as_nmr hq7 ?_
      obtain ⟨mq7, E⟩ := am_gdE E
      refine am_iload_n 139 C dX4_readClause_139 rfl 1 rfl ?_
      refine am_bipush 140 (nI 8) C dX4_readClause_140 (by decide) ?_
      refine am_icmp_ne 142 149 C dX4_readClause_142 (by decide) (fun c10 => ?_) (fun c10 => ?_)
      · have E := am_ifF E c10
        refine am_iconst 149 (0 : Int32) C dX4_readClause_149 (by decide) ?_
        refine am_iload_n 150 C dX4_readClause_150 rfl 2 rfl ?_
        refine am_iload 151 C dX4_readClause_151 3 rfl ?_
        obtain ⟨s8, Ec, E⟩ := am_bdE E
        refine as_callV 153 (s2 := s8) (st := []) (st2 := []) [.int (0 : Int32), .int v3, .int v4] C A (by decide) ml_X4_55 yc_X3_addClause yv_X3_addClause (t_X3_addClause q7 (0 : Int32) v3 v4 s5 Ec) (iR_l0 _ mq7) (iR_sh _ mq7) rfl rfl (Nat.le_of_ble_eq_true rfl) rfl dX4_readClause_153 ?_
        replace E := Option.some.inj E
        subst E
        exact as_vret 156 C Z dX4_readClause_156
      · have E := am_ifT E c10
        refine am_iconst 145 (1 : Int32) C dX4_readClause_145 (by decide) ?_
        refine am_goto 146 150 C dX4_readClause_146 (by decide) ?_
        refine am_iload_n 150 C dX4_readClause_150 rfl 2 rfl ?_
        refine am_iload 151 C dX4_readClause_151 3 rfl ?_
        obtain ⟨s9, Ec, E⟩ := am_bdE E
        refine as_callV 153 (s2 := s9) (st := []) (st2 := []) [.int (1 : Int32), .int v3, .int v4] C A (by decide) ml_X4_55 yc_X3_addClause yv_X3_addClause (t_X3_addClause q7 (1 : Int32) v3 v4 s5 Ec) (iR_l0 _ mq7) (iR_sh _ mq7) rfl rfl (Nat.le_of_ble_eq_true rfl) rfl dX4_readClause_153 ?_
        replace E := Option.some.inj E
        subst E
        exact as_vret 156 C Z dX4_readClause_156
  have K69 : ∀ (v12 : Int32) (v13 : Int32) (s14 : am_S), j_X4_readClause_69 v12 v13 s14 = some z → AX x 0 0 69 [(0, .ref 247), (2, .int v12), (3, .int v13)] [] am_N (am_h s14) := by
    intro v12 v13 s14 E
    unfold j_X4_readClause_69 at E
    refine am_aload_n 69 C dX4_readClause_69 rfl 0 rfl ?_
    refine as_getr 70 C fl_X4_9_3 dX4_readClause_70 (by decide) sh_247 (rf_247_1 _ _) ?_
    obtain ⟨q15, hq15, E⟩ := am_ltE E
    refine as_nmr hq15 ?_
    obtain ⟨mq15, E⟩ := am_gdE E
    refine as_geti 73 C fl_X4_42_2 dX4_readClause_73 (iR_l0 _ mq15) (iR_sh _ mq15) ?_
    obtain ⟨v16, hv16, E⟩ := am_ltE E
    refine as_nm hv16 ?_
    refine am_istore 76 (lv2 := [(4, .int v16), (0, .ref 247), (2, .int v12), (3, .int v13)]) C dX4_readClause_76 (by decide) rfl ?_
    refine am_iload_n 78 C dX4_readClause_78 rfl 2 rfl ?_
    refine am_bipush 79 (nI 8) C dX4_readClause_79 (by decide) ?_
    refine am_icmp_ne 81 92 C dX4_readClause_81 (by decide) (fun c24 => ?_) (fun c24 => ?_)
    · have E := am_ifF E c24
      refine am_aload_n 92 C dX4_readClause_92 rfl 1 rfl ?_
      refine as_getr 93 C fl_X4_25_3 dX4_readClause_93 (by decide) sh_247 (rf_247_0 _ _) ?_
      obtain ⟨v17, Ec, E⟩ := am_bdE E
      refine as_callV 96 (s2 := s14) (st := []) (st2 := [.int v17]) [] C A (by decide) ml_X4_51 yc_X7_fine yv_X7_fine (t_X7_fine  s14 Ec) (by decide) sh_2 rfl rfl (Nat.le_of_ble_eq_true rfl) rfl dX4_readClause_96 ?_
      refine am_if_eq 99 125 C dX4_readClause_99 (by decide) (fun c22 => ?_) (fun c22 => ?_)
      · have E := am_ifT E c22
        refine am_lvs [1, 2, 3, 0] rfl ?_
        exact K125 _ _ _ _ E
      · have E := am_ifF E c22
        refine am_aload_n 102 C dX4_readClause_102 rfl 1 rfl ?_
        refine as_getr 103 C fl_X4_25_3 dX4_readClause_103 (by decide) sh_247 (rf_247_0 _ _) ?_
        obtain ⟨v18, Ec, E⟩ := am_bdE E
        refine as_callV 106 (s2 := s14) (st := []) (st2 := [.int v18]) [] C A (by decide) ml_X4_29 yc_X7_wordHere yv_X7_wordHere (t_X7_wordHere  s14 Ec) (by decide) sh_2 rfl rfl (Nat.le_of_ble_eq_true rfl) rfl dX4_readClause_106 ?_
        refine am_iconst 109 (nI 4) C dX4_readClause_109 (by decide) ?_
        refine am_icmp_ne 110 125 C dX4_readClause_110 (by decide) (fun c21 => ?_) (fun c21 => ?_)
        · have E := am_ifF E c21
          refine am_lvs [1, 2, 3, 0] rfl ?_
          exact K125 _ _ _ _ E
        · have E := am_ifT E c21
          refine am_aload_n 113 C dX4_readClause_113 rfl 1 rfl ?_
          refine as_getr 114 C fl_X4_25_3 dX4_readClause_114 (by decide) sh_247 (rf_247_0 _ _) ?_
          obtain ⟨s19, Ec, E⟩ := am_bdE E
          refine as_callV 117 (s2 := s19) (st := []) (st2 := []) [] C A (by decide) ml_X4_39 yc_X7_step yv_X7_step (t_X7_step  s14 Ec) (by decide) sh_2 rfl rfl (Nat.le_of_ble_eq_true rfl) rfl dX4_readClause_117 ?_
          refine am_aload_n 120 C dX4_readClause_120 rfl 1 rfl ?_
          refine am_iconst 121 (0 : Int32) C dX4_readClause_121 (by decide) ?_
          obtain ⟨s20, Ec, E⟩ := am_bdE E
          refine as_callV 122 (s2 := s20) (st := []) (st2 := []) [.int (0 : Int32)] C A (by decide) ml_X4_48 yc_X4_readTest yv_X4_readTest (t_X4_rT (0 : Int32) s19 Ec) (by decide) sh_247 rfl rfl (Nat.le_of_ble_eq_true rfl) rfl dX4_readClause_122 ?_
          refine am_lvs [1, 2, 3, 0] rfl ?_
          exact K125 _ _ _ _ E
    · have E := am_ifT E c24
      refine am_aload_n 84 C dX4_readClause_84 rfl 1 rfl ?_
      refine am_iconst 85 (0 : Int32) C dX4_readClause_85 (by decide) ?_
      obtain ⟨s23, Ec, E⟩ := am_bdE E
      refine as_callV 86 (s2 := s23) (st := []) (st2 := []) [.int (0 : Int32)] C A (by decide) ml_X4_48 yc_X4_readTest yv_X4_readTest (t_X4_rT (0 : Int32) s14 Ec) (by decide) sh_247 rfl rfl (Nat.le_of_ble_eq_true rfl) rfl dX4_readClause_86 ?_
      refine am_goto 89 125 C dX4_readClause_89 (by decide) ?_
      refine am_lvs [1, 2, 3, 0] rfl ?_
      exact K125 _ _ _ _ E
  have K29 : ∀ (v25 : Int32) (s26 : am_S), j_X4_readClause_29 p1 v25 s26 = some z → AX x 0 0 29 [(0, .ref 247), (1, .int p1), (2, .int v25)] [] am_N (am_h s26) := by
    intro v25 s26 E
    unfold j_X4_readClause_29 at E
    refine am_iload_n 29 C dX4_readClause_29 rfl 1 rfl ?_
    refine am_bipush 30 (nI 12) C dX4_readClause_30 (by decide) ?_
    refine am_icmp_lt 32 44 C dX4_readClause_32 (by decide) (fun c33 => ?_) (fun c33 => ?_)
    · have E := am_ifT E c33
      refine am_aload_n 44 C dX4_readClause_44 rfl 0 rfl ?_
      refine as_getr 45 C fl_X4_25_3 dX4_readClause_45 (by decide) sh_247 (rf_247_0 _ _) ?_
      obtain ⟨s27, Ec, E⟩ := am_bdE E
      refine as_callV 48 (s2 := s27) (st := []) (st2 := []) [] C A (by decide) ml_X4_39 yc_X7_step yv_X7_step (t_X7_step  s26 Ec) (by decide) sh_2 rfl rfl (Nat.le_of_ble_eq_true rfl) rfl dX4_readClause_48 ?_
      refine am_aload_n 51 C dX4_readClause_51 rfl 0 rfl ?_
      refine as_getr 52 C fl_X4_9_3 dX4_readClause_52 (by decide) sh_247 (rf_247_1 _ _) ?_
      obtain ⟨q28, hq28, E⟩ := am_ltE E
      refine as_nmr hq28 ?_
      obtain ⟨mq28, E⟩ := am_gdE E
      refine as_geti 55 C fl_X4_42_2 dX4_readClause_55 (iR_l0 _ mq28) (iR_sh _ mq28) ?_
      obtain ⟨v29, hv29, E⟩ := am_ltE E
      refine as_nm hv29 ?_
      refine am_istore_n 58 (lv2 := [(3, .int v29), (0, .ref 247), (1, .int p1), (2, .int v25)]) C dX4_readClause_58 rfl (by decide) rfl ?_
      refine am_iload_n 59 C dX4_readClause_59 rfl 3 rfl ?_
      refine am_bipush 60 (nI 9) C dX4_readClause_60 (by decide) ?_
      refine am_icmp_ne 62 69 C dX4_readClause_62 (by decide) (fun c31 => ?_) (fun c31 => ?_)
      · have E := am_ifF E c31
        refine am_lvs [1, 3, 0] rfl ?_
        exact K69 _ _ _ E
      · have E := am_ifT E c31
        refine am_aload_n 65 C dX4_readClause_65 rfl 1 rfl ?_
        obtain ⟨s30, Ec, E⟩ := am_bdE E
        refine as_callV 66 (s2 := s30) (st := []) (st2 := []) [] C A (by decide) ml_X4_45 yc_X4_readSum yv_X4_readSum (t_X4_readSum  s27 Ec) (by decide) sh_247 rfl rfl (Nat.le_of_ble_eq_true rfl) rfl dX4_readClause_66 ?_
        refine am_lvs [1, 3, 0] rfl ?_
        exact K69 _ _ _ E
    · have E := am_ifF E c33
      refine am_aload_n 35 C dX4_readClause_35 rfl 0 rfl ?_
      refine as_getr 36 C fl_X4_25_3 dX4_readClause_36 (by decide) sh_247 (rf_247_0 _ _) ?_
      refine am_iconst 39 (nI 4) C dX4_readClause_39 (by decide) ?_
      obtain ⟨s32, Ec, E⟩ := am_bdE E
      refine as_callV 40 (s2 := s32) (st := []) (st2 := []) [.int (nI 4)] C A (by decide) ml_X4_35 yc_X7_fail yv_X7_fail (t_X7_fail (nI 4) s26 Ec) (by decide) sh_2 rfl rfl (Nat.le_of_ble_eq_true rfl) rfl dX4_readClause_40 ?_
      replace E := Option.some.inj E
      subst E
      exact as_vret 43 C Z dX4_readClause_43
  refine am_aload_n 0 C dX4_readClause_0 rfl 0 rfl ?_
  refine as_getr 1 C fl_X4_25_3 dX4_readClause_1 (by decide) sh_247 (rf_247_0 _ _) ?_
  obtain ⟨v34, Ec, E⟩ := am_bdE E
  refine as_callV 4 (s2 := s0) (st := []) (st2 := [.int v34]) [] C A (by decide) ml_X4_29 yc_X7_wordHere yv_X7_wordHere (t_X7_wordHere  s0 Ec) (by decide) sh_2 rfl rfl (Nat.le_of_ble_eq_true rfl) rfl dX4_readClause_4 ?_
  refine am_istore_n 7 (lv2 := [(2, .int v34), (0, .ref 247), (1, .int p1)]) C dX4_readClause_7 rfl (by decide) rfl ?_
  refine am_iload_n 8 C dX4_readClause_8 rfl 0 rfl ?_
  refine am_bipush 9 (nI 8) C dX4_readClause_9 (by decide) ?_
  refine am_icmp_eq 11 29 C dX4_readClause_11 (by decide) (fun c37 => ?_) (fun c37 => ?_)
  · have E := am_ifT E c37
    refine am_lvs [1, 2, 0] rfl ?_
    exact K29 _ _ E
  · have E := am_ifF E c37
    refine am_iload_n 14 C dX4_readClause_14 rfl 0 rfl ?_
    refine am_bipush 15 (nI 9) C dX4_readClause_15 (by decide) ?_
    refine am_icmp_eq 17 29 C dX4_readClause_17 (by decide) (fun c36 => ?_) (fun c36 => ?_)
    · have E := am_ifT E c36
      refine am_lvs [1, 2, 0] rfl ?_
      exact K29 _ _ E
    · have E := am_ifF E c36
      refine am_aload_n 20 C dX4_readClause_20 rfl 1 rfl ?_
      refine as_getr 21 C fl_X4_25_3 dX4_readClause_21 (by decide) sh_247 (rf_247_0 _ _) ?_
      refine am_iconst 24 (0 : Int32) C dX4_readClause_24 (by decide) ?_
      obtain ⟨s35, Ec, E⟩ := am_bdE E
      refine as_callV 25 (s2 := s35) (st := []) (st2 := []) [.int (0 : Int32)] C A (by decide) ml_X4_35 yc_X7_fail yv_X7_fail (t_X7_fail (0 : Int32) s0 Ec) (by decide) sh_2 rfl rfl (Nat.le_of_ble_eq_true rfl) rfl dX4_readClause_25 ?_
      replace E := Option.some.inj E
      subst E
      exact as_vret 28 C Z dX4_readClause_28
def j_X9_readClause_44 (s2 : am_S) : Option (am_S) :=
  am_bd (f_X7_fail (nI 4) s2) (fun s3 => some s3)
def j_X9_readClause_18 (s4 : am_S) : Option (am_S) :=
  am_bd (f_X7_fail (0 : Int32) s4) (fun s5 => some s5)
def f_X9_readClause (p1 : Int32) (s0 : am_S) : Option (am_S) :=
  am_bd (f_X7_wordHere s0) (fun v6 => am_if (v6 < 0) (j_X9_readClause_18 s0) (am_if (v6 ≤ (nI 7)) (am_if ((nI 40) ≤ p1) (j_X9_readClause_44 s0) (am_bd (f_X9_isOneTooMany v6 p1 s0) (fun v7 => am_if (v7 = 0) (am_bd (f_X7_step s0) (fun s8 => am_bd (f_X9_readBehind v6 s8) (fun s9 => some s9))) (j_X9_readClause_44 s0)))) (j_X9_readClause_18 s0)))
set_option maxRecDepth 100000 in
set_option maxHeartbeats 4000000 in
theorem t_X9_readClause (p1 : Int32) (s0 : am_S) {z : am_S} (E : f_X9_readClause p1 s0 = some z) : AS yX9_readClause cX9_readClause 3 none 6 [.ref 246, .int p1] s0 none z := by
  unfold f_X9_readClause at E
  refine as_met (lv := [(0, .ref 246), (1, .int p1)]) (by decide +kernel) (by simp [lg_sl, Value.category]) rfl (fun x C A Z => ?_)
  have K44 : ∀ (s2 : am_S), j_X9_readClause_44 s2 = some z → AX x 0 0 44 [(0, .ref 246)] [] am_N (am_h s2) := by
    intro s2 E
    unfold j_X9_readClause_44 at E
    refine am_aload_n 44 C dX9_readClause_44 rfl 0 rfl ?_
    refine as_getr 45 C fl_X9_21_8 dX9_readClause_45 (by decide) sh_246 (rf_246_0 _ _) ?_
    refine am_iconst 48 (nI 4) C dX9_readClause_48 (by decide) ?_
    obtain ⟨s3, Ec, E⟩ := am_bdE E
    refine as_callV 49 (s2 := s3) (st := []) (st2 := []) [.int (nI 4)] C A (by decide) ml_X9_31 yc_X7_fail yv_X7_fail (t_X7_fail (nI 4) s2 Ec) (by decide) sh_2 rfl rfl (Nat.le_of_ble_eq_true rfl) rfl dX9_readClause_49 ?_
    refine am_goto 52 67 C dX9_readClause_52 (by decide) ?_
    replace E := Option.some.inj E
    subst E
    exact as_vret 67 C Z dX9_readClause_67
  have K18 : ∀ (s4 : am_S), j_X9_readClause_18 s4 = some z → AX x 0 0 18 [(0, .ref 246)] [] am_N (am_h s4) := by
    intro s4 E
    unfold j_X9_readClause_18 at E
    refine am_aload_n 18 C dX9_readClause_18 rfl 0 rfl ?_
    refine as_getr 19 C fl_X9_21_8 dX9_readClause_19 (by decide) sh_246 (rf_246_0 _ _) ?_
    refine am_iconst 22 (0 : Int32) C dX9_readClause_22 (by decide) ?_
    obtain ⟨s5, Ec, E⟩ := am_bdE E
    refine as_callV 23 (s2 := s5) (st := []) (st2 := []) [.int (0 : Int32)] C A (by decide) ml_X9_31 yc_X7_fail yv_X7_fail (t_X7_fail (0 : Int32) s4 Ec) (by decide) sh_2 rfl rfl (Nat.le_of_ble_eq_true rfl) rfl dX9_readClause_23 ?_
    refine am_goto 26 67 C dX9_readClause_26 (by decide) ?_
    replace E := Option.some.inj E
    subst E
    exact as_vret 67 C Z dX9_readClause_67
  refine am_aload_n 0 C dX9_readClause_0 rfl 0 rfl ?_
  refine as_getr 1 C fl_X9_21_8 dX9_readClause_1 (by decide) sh_246 (rf_246_0 _ _) ?_
  obtain ⟨v6, Ec, E⟩ := am_bdE E
  refine as_callV 4 (s2 := s0) (st := []) (st2 := [.int v6]) [] C A (by decide) ml_X9_25 yc_X7_wordHere yv_X7_wordHere (t_X7_wordHere  s0 Ec) (by decide) sh_2 rfl rfl (Nat.le_of_ble_eq_true rfl) rfl dX9_readClause_4 ?_
  refine am_istore_n 7 (lv2 := [(2, .int v6), (0, .ref 246), (1, .int p1)]) C dX9_readClause_7 rfl (by decide) rfl ?_
  refine am_iload_n 8 C dX9_readClause_8 rfl 0 rfl ?_
  refine am_if_lt 9 18 C dX9_readClause_9 (by decide) (fun c13 => ?_) (fun c13 => ?_)
  · have E := am_ifT E c13
    refine am_lvs [1] rfl ?_
    exact K18 _ E
  · have E := am_ifF E c13
    refine am_iload_n 12 C dX9_readClause_12 rfl 0 rfl ?_
    refine am_bipush 13 (nI 7) C dX9_readClause_13 (by decide) ?_
    refine am_icmp_le 15 29 C dX9_readClause_15 (by decide) (fun c12 => ?_) (fun c12 => ?_)
    · have E := am_ifT E c12
      refine am_iload_n 29 C dX9_readClause_29 rfl 2 rfl ?_
      refine am_bipush 30 (nI 40) C dX9_readClause_30 (by decide) ?_
      refine am_icmp_ge 32 44 C dX9_readClause_32 (by decide) (fun c11 => ?_) (fun c11 => ?_)
      · have E := am_ifT E c11
        refine am_lvs [1] rfl ?_
        exact K44 _ E
      · have E := am_ifF E c11
        refine am_aload_n 35 C dX9_readClause_35 rfl 1 rfl ?_
        refine am_iload_n 36 C dX9_readClause_36 rfl 0 rfl ?_
        refine am_iload_n 37 C dX9_readClause_37 rfl 2 rfl ?_
        obtain ⟨v7, Ec, E⟩ := am_bdE E
        refine as_callV 38 (s2 := s0) (st := []) (st2 := [.int v7]) [.int v6, .int p1] C A (by decide) ml_X9_35 yc_X9_isOneTooMany yv_X9_isOneTooMany (t_X9_isOneTooMany v6 p1 s0 Ec) (by decide) sh_246 rfl rfl (Nat.le_of_ble_eq_true rfl) rfl dX9_readClause_38 ?_
        refine am_if_eq 41 55 C dX9_readClause_41 (by decide) (fun c10 => ?_) (fun c10 => ?_)
        · have E := am_ifT E c10
          refine am_aload_n 55 C dX9_readClause_55 rfl 1 rfl ?_
          refine as_getr 56 C fl_X9_21_8 dX9_readClause_56 (by decide) sh_246 (rf_246_0 _ _) ?_
          obtain ⟨s8, Ec, E⟩ := am_bdE E
          refine as_callV 59 (s2 := s8) (st := []) (st2 := []) [] C A (by decide) ml_X9_39 yc_X7_step yv_X7_step (t_X7_step  s0 Ec) (by decide) sh_2 rfl rfl (Nat.le_of_ble_eq_true rfl) rfl dX9_readClause_59 ?_
          refine am_aload_n 62 C dX9_readClause_62 rfl 1 rfl ?_
          refine am_iload_n 63 C dX9_readClause_63 rfl 0 rfl ?_
          obtain ⟨s9, Ec, E⟩ := am_bdE E
          refine as_callV 64 (s2 := s9) (st := []) (st2 := []) [.int v6] C A (by decide) ml_X9_42 yc_X9_readBehind yv_X9_readBehind (t_X9_readBehind v6 s8 Ec) (by decide) sh_246 rfl rfl (Nat.le_of_ble_eq_true rfl) rfl dX9_readClause_64 ?_
          replace E := Option.some.inj E
          subst E
          exact as_vret 67 C Z dX9_readClause_67
        · have E := am_ifF E c10
          refine am_lvs [1] rfl ?_
          exact K44 _ E
    · have E := am_ifF E c12
      refine am_lvs [1] rfl ?_
      exact K18 _ E
theorem vu_X1_15_246 : Cond.methodLink RX1 15 (⟨"DailyLie$ClauseReader", "readClause", "(I)V"⟩ : MethodName) ∈ am_tbl ∧ Cond.sameMethod "DailyLie$ClauseReader" "DailyLie$ClauseReader" "readClause" "(I)V" ∈ am_tbl ∧ Cond.selects "DailyLie$TownReader" (⟨"DailyLie$ClauseReader", "readClause", "(I)V"⟩ : MethodName) yX9_readClause ∈ am_tbl ∧ Cond.instanceMethod yX9_readClause ∈ am_tbl ∧ Cond.declares ⟨"DailyLie$ClauseReader", "readClause", "(I)V"⟩ ∈ am_nest ∧ (("DailyLie$ClauseReader" : String) ≠ "java/lang/invoke/MethodHandle" ∧ ("DailyLie$ClauseReader" : String) ≠ "java/lang/invoke/VarHandle" ∧ (parseMethodDescriptor "(I)V").map (fun d => d.parameters.length) = some 1) ∧ ∃ q : vw_C, vwCl[8]? = some q ∧ q.1 = "DailyLie$TownReader" ∧ 8 < 12 := ⟨am_in 688 (by decide +kernel) rfl, am_in 690 (by decide +kernel) rfl, am_in 764 (by decide +kernel) rfl, am_in 765 (by decide +kernel) rfl, am_inN 689 (by decide +kernel) rfl, ⟨by decide +kernel, by decide +kernel, by decide +kernel⟩, _, rfl, rfl, by decide⟩
theorem vu_X1_15_247 : Cond.methodLink RX1 15 (⟨"DailyLie$ClauseReader", "readClause", "(I)V"⟩ : MethodName) ∈ am_tbl ∧ Cond.sameMethod "DailyLie$ClauseReader" "DailyLie$ClauseReader" "readClause" "(I)V" ∈ am_tbl ∧ Cond.selects "DailyLie$RuleReader" (⟨"DailyLie$ClauseReader", "readClause", "(I)V"⟩ : MethodName) yX4_readClause ∈ am_tbl ∧ Cond.instanceMethod yX4_readClause ∈ am_tbl ∧ Cond.declares ⟨"DailyLie$ClauseReader", "readClause", "(I)V"⟩ ∈ am_nest ∧ (("DailyLie$ClauseReader" : String) ≠ "java/lang/invoke/MethodHandle" ∧ ("DailyLie$ClauseReader" : String) ≠ "java/lang/invoke/VarHandle" ∧ (parseMethodDescriptor "(I)V").map (fun d => d.parameters.length) = some 1) ∧ ∃ q : vw_C, vwCl[3]? = some q ∧ q.1 = "DailyLie$RuleReader" ∧ 3 < 12 := ⟨am_in 688 (by decide +kernel) rfl, am_in 690 (by decide +kernel) rfl, am_in 691 (by decide +kernel) rfl, am_in 692 (by decide +kernel) rfl, am_inN 689 (by decide +kernel) rfl, ⟨by decide +kernel, by decide +kernel, by decide +kernel⟩, _, rfl, rfl, by decide⟩
theorem vu_X11_125_246 : Cond.methodLink RX11 125 (⟨"DailyLie$TownReader", "readClauses", "(I)I"⟩ : MethodName) ∈ am_tbl ∧ Cond.sameMethod "DailyLie$TownReader" "DailyLie$ClauseReader" "readClauses" "(I)I" ∈ am_tbl ∧ Cond.selects "DailyLie$TownReader" (⟨"DailyLie$TownReader", "readClauses", "(I)I"⟩ : MethodName) yX1_readClauses ∈ am_tbl ∧ Cond.instanceMethod yX1_readClauses ∈ am_tbl ∧ Cond.declares ⟨"DailyLie$ClauseReader", "readClauses", "(I)I"⟩ ∈ am_nest ∧ (("DailyLie$ClauseReader" : String) ≠ "java/lang/invoke/MethodHandle" ∧ ("DailyLie$ClauseReader" : String) ≠ "java/lang/invoke/VarHandle" ∧ (parseMethodDescriptor "(I)I").map (fun d => d.parameters.length) = some 1) ∧ ∃ q : vw_C, vwCl[8]? = some q ∧ q.1 = "DailyLie$TownReader" ∧ 8 < 12 := ⟨am_in 682 (by decide +kernel) rfl, am_in 683 (by decide +kernel) rfl, am_in 685 (by decide +kernel) rfl, am_in 686 (by decide +kernel) rfl, am_inN 684 (by decide +kernel) rfl, ⟨by decide +kernel, by decide +kernel, by decide +kernel⟩, _, rfl, rfl, by decide⟩
theorem vu_X11_144_247 : Cond.methodLink RX11 144 (⟨"DailyLie$RuleReader", "readClauses", "(I)I"⟩ : MethodName) ∈ am_tbl ∧ Cond.sameMethod "DailyLie$RuleReader" "DailyLie$ClauseReader" "readClauses" "(I)I" ∈ am_tbl ∧ Cond.selects "DailyLie$RuleReader" (⟨"DailyLie$RuleReader", "readClauses", "(I)I"⟩ : MethodName) yX1_readClauses ∈ am_tbl ∧ Cond.instanceMethod yX1_readClauses ∈ am_tbl ∧ Cond.declares ⟨"DailyLie$ClauseReader", "readClauses", "(I)I"⟩ ∈ am_nest ∧ (("DailyLie$ClauseReader" : String) ≠ "java/lang/invoke/MethodHandle" ∧ ("DailyLie$ClauseReader" : String) ≠ "java/lang/invoke/VarHandle" ∧ (parseMethodDescriptor "(I)I").map (fun d => d.parameters.length) = some 1) ∧ ∃ q : vw_C, vwCl[3]? = some q ∧ q.1 = "DailyLie$RuleReader" ∧ 3 < 12 := ⟨am_in 903 (by decide +kernel) rfl, am_in 904 (by decide +kernel) rfl, am_in 905 (by decide +kernel) rfl, am_in 686 (by decide +kernel) rfl, am_inN 684 (by decide +kernel) rfl, ⟨by decide +kernel, by decide +kernel, by decide +kernel⟩, _, rfl, rfl, by decide⟩
def j_X1_readClauses_246_52 (s2 : am_S) : Option (Int32 × am_S) :=
  am_bd (f_X7_kindHere s2) (fun v3 => am_if (v3 = 0) (some ((s2.1 2 5), s2)) (am_bd (f_X7_fail (0 : Int32) s2) (fun s4 => some ((s4.1 2 5), s4))))
def b_X1_readClauses_246_7 (p1 : Int32) (v8 : Int32) (s9 : am_S) : Option ((Int32 × am_S) ⊕ (Int32 × am_S)) :=
  am_if (p1 < v8) (am_bd (j_X1_readClauses_246_52 s9) (fun e10 => some (Sum.inr e10))) (am_bd (f_X7_fine s9) (fun v11 => am_if (v11 = 0) (am_bd (j_X1_readClauses_246_52 s9) (fun e12 => some (Sum.inr e12))) (am_bd (f_X7_isByte (nI 59) s9) (fun v13 => am_if (v13 = 0) (am_bd (j_X1_readClauses_246_52 s9) (fun e14 => some (Sum.inr e14))) (am_bd (f_X7_step s9) (fun s15 => am_bd (f_X9_readClause v8 s15) (fun s16 => am_lt (v8 + (1 : Int32)) (fun v17 => some (Sum.inl (v17, s16))))))))))
def f_X1_readClauses_246 (p1 : Int32) (s0 : am_S) : Option (Int32 × am_S) :=
  am_bd (f_X9_readClause (0 : Int32) s0) (fun s6 => am_lp (fun (q : Int32 × am_S) => b_X1_readClauses_246_7 p1 q.1 q.2) am_F ((1 : Int32), s6))
set_option maxRecDepth 100000 in
set_option maxHeartbeats 4000000 in
theorem t_X1_readClauses_246 (p1 : Int32) (s0 : am_S) {z : Int32 × am_S} (E : f_X1_readClauses_246 p1 s0 = some z) : AS yX1_readClauses cX1_readClauses 3 (some .int) 7 [.ref 246, .int p1] s0 (some (.int z.1)) z.2 := by
  unfold f_X1_readClauses_246 at E
  refine as_met (lv := [(0, .ref 246), (1, .int p1)]) (by decide +kernel) (by simp [lg_sl, Value.category]) rfl (fun x C A Z => ?_)
  have K52 : ∀ (s2 : am_S), j_X1_readClauses_246_52 s2 = some z → AX x 0 0 52 [(0, .ref 246)] [] am_N (am_h s2) := by
    intro s2 E
    unfold j_X1_readClauses_246_52 at E
    refine am_aload_n 52 C dX1_readClauses_52 rfl 0 rfl ?_
    refine as_getr 53 C fl_X1_9_8 dX1_readClauses_53 (by decide) sh_246 (rf_246_0 _ _) ?_
    obtain ⟨v3, Ec, E⟩ := am_bdE E
    refine as_callV 56 (s2 := s2) (st := []) (st2 := [.int v3]) [] C A (by decide) ml_X1_32 yc_X7_kindHere yv_X7_kindHere (t_X7_kindHere  s2 Ec) (by decide) sh_2 rfl rfl (Nat.le_of_ble_eq_true rfl) rfl dX1_readClauses_56 ?_
    refine am_if_eq 59 70 C dX1_readClauses_59 (by decide) (fun c5 => ?_) (fun c5 => ?_)
    · have E := am_ifT E c5
      refine am_aload_n 70 C dX1_readClauses_70 rfl 0 rfl ?_
      refine as_getr 71 C fl_X1_9_8 dX1_readClauses_71 (by decide) sh_246 (rf_246_0 _ _) ?_
      refine as_geti 74 C fl_X1_39_6 dX1_readClauses_74 (by decide) sh_2 ?_
      replace E := Option.some.inj E
      subst E
      exact as_iret 77 C Z rfl dX1_readClauses_77
    · have E := am_ifF E c5
      refine am_aload_n 62 C dX1_readClauses_62 rfl 0 rfl ?_
      refine as_getr 63 C fl_X1_9_8 dX1_readClauses_63 (by decide) sh_246 (rf_246_0 _ _) ?_
      refine am_iconst 66 (0 : Int32) C dX1_readClauses_66 (by decide) ?_
      obtain ⟨s4, Ec, E⟩ := am_bdE E
      refine as_callV 67 (s2 := s4) (st := []) (st2 := []) [.int (0 : Int32)] C A (by decide) ml_X1_36 yc_X7_fail yv_X7_fail (t_X7_fail (0 : Int32) s2 Ec) (by decide) sh_2 rfl rfl (Nat.le_of_ble_eq_true rfl) rfl dX1_readClauses_67 ?_
      refine am_aload_n 70 C dX1_readClauses_70 rfl 0 rfl ?_
      refine as_getr 71 C fl_X1_9_8 dX1_readClauses_71 (by decide) sh_246 (rf_246_0 _ _) ?_
      refine as_geti 74 C fl_X1_39_6 dX1_readClauses_74 (by decide) sh_2 ?_
      replace E := Option.some.inj E
      subst E
      exact as_iret 77 C Z rfl dX1_readClauses_77
  refine am_aload_n 0 C dX1_readClauses_0 rfl 0 rfl ?_
  refine am_iconst 1 (0 : Int32) C dX1_readClauses_1 (by decide) ?_
  obtain ⟨s6, Ec, E⟩ := am_bdE E
  refine as_callU 2 (s2 := s6) (st := []) (st2 := []) [.int (0 : Int32)] C A (by decide) yc_X9_readClause vu_X1_15_246 (t_X9_readClause (0 : Int32) s0 Ec) (by decide) sh_246 rfl rfl (Nat.le_of_ble_eq_true rfl) rfl dX1_readClauses_2 ?_
  refine am_iconst 5 (1 : Int32) C dX1_readClauses_5 (by decide) ?_
  refine am_istore_n 6 (lv2 := [(2, .int (1 : Int32)), (0, .ref 246), (1, .int p1)]) C dX1_readClauses_6 rfl (by decide) rfl ?_
  have LP7 : ∀ (n : Nat) (v8 : Int32) (s9 : am_S), am_lp (fun (q : Int32 × am_S) => b_X1_readClauses_246_7 p1 q.1 q.2) n (v8, s9) = some z → AX x 0 0 7 [(0, .ref 246), (1, .int p1), (2, .int v8)] [] am_N (am_h s9) := by
    intro n
    induction n with
    | zero => intro v8 s9 E; exact (am_lp0 E).elim
    | succ n ih7 =>
      intro v8 s9 E
      obtain ⟨r7, E, Er7⟩ := am_lpE E
      replace E : b_X1_readClauses_246_7 p1 v8 s9 = some r7 := E
      unfold b_X1_readClauses_246_7 at E
      refine am_iload_n 7 C dX1_readClauses_7 rfl 2 rfl ?_
      refine am_iload_n 8 C dX1_readClauses_8 rfl 1 rfl ?_
      refine am_icmp_gt 9 52 C dX1_readClauses_9 (by decide) (fun c20 => ?_) (fun c20 => ?_)
      · have E := am_ifT E c20
        obtain ⟨e10, E, E2⟩ := am_bdE E
        replace E2 := Option.some.inj E2
        replace E2 := am_exR E2 Er7
        rw [E2] at E
        refine am_lvs [0] rfl ?_
        exact K52 _ E
      · have E := am_ifF E c20
        refine am_aload_n 12 C dX1_readClauses_12 rfl 0 rfl ?_
        refine as_getr 13 C fl_X1_9_8 dX1_readClauses_13 (by decide) sh_246 (rf_246_0 _ _) ?_
        obtain ⟨v11, Ec, E⟩ := am_bdE E
        refine as_callV 16 (s2 := s9) (st := []) (st2 := [.int v11]) [] C A (by decide) ml_X1_19 yc_X7_fine yv_X7_fine (t_X7_fine  s9 Ec) (by decide) sh_2 rfl rfl (Nat.le_of_ble_eq_true rfl) rfl dX1_readClauses_16 ?_
        refine am_if_eq 19 52 C dX1_readClauses_19 (by decide) (fun c19 => ?_) (fun c19 => ?_)
        · have E := am_ifT E c19
          obtain ⟨e12, E, E2⟩ := am_bdE E
          replace E2 := Option.some.inj E2
          replace E2 := am_exR E2 Er7
          rw [E2] at E
          refine am_lvs [0] rfl ?_
          exact K52 _ E
        · have E := am_ifF E c19
          refine am_aload_n 22 C dX1_readClauses_22 rfl 0 rfl ?_
          refine as_getr 23 C fl_X1_9_8 dX1_readClauses_23 (by decide) sh_246 (rf_246_0 _ _) ?_
          refine am_bipush 26 (nI 59) C dX1_readClauses_26 (by decide) ?_
          obtain ⟨v13, Ec, E⟩ := am_bdE E
          refine as_callV 28 (s2 := s9) (st := []) (st2 := [.int v13]) [.int (nI 59)] C A (by decide) ml_X1_25 yc_X7_isByte yv_X7_isByte (t_X7_isByte (nI 59) s9 Ec) (by decide) sh_2 rfl rfl (Nat.le_of_ble_eq_true rfl) rfl dX1_readClauses_28 ?_
          refine am_if_eq 31 52 C dX1_readClauses_31 (by decide) (fun c18 => ?_) (fun c18 => ?_)
          · have E := am_ifT E c18
            obtain ⟨e14, E, E2⟩ := am_bdE E
            replace E2 := Option.some.inj E2
            replace E2 := am_exR E2 Er7
            rw [E2] at E
            refine am_lvs [0] rfl ?_
            exact K52 _ E
          · have E := am_ifF E c18
            refine am_aload_n 34 C dX1_readClauses_34 rfl 0 rfl ?_
            refine as_getr 35 C fl_X1_9_8 dX1_readClauses_35 (by decide) sh_246 (rf_246_0 _ _) ?_
            obtain ⟨s15, Ec, E⟩ := am_bdE E
            refine as_callV 38 (s2 := s15) (st := []) (st2 := []) [] C A (by decide) ml_X1_29 yc_X7_step yv_X7_step (t_X7_step  s9 Ec) (by decide) sh_2 rfl rfl (Nat.le_of_ble_eq_true rfl) rfl dX1_readClauses_38 ?_
            refine am_aload_n 41 C dX1_readClauses_41 rfl 0 rfl ?_
            refine am_iload_n 42 C dX1_readClauses_42 rfl 2 rfl ?_
            obtain ⟨s16, Ec, E⟩ := am_bdE E
            refine as_callU 43 (s2 := s16) (st := []) (st2 := []) [.int v8] C A (by decide) yc_X9_readClause vu_X1_15_246 (t_X9_readClause v8 s15 Ec) (by decide) sh_246 rfl rfl (Nat.le_of_ble_eq_true rfl) rfl dX1_readClauses_43 ?_
            obtain ⟨v17, hv17, E⟩ := am_ltE E
            refine as_iinc 46 (q := (1 : Int32)) (lv2 := [(2, .int v17), (0, .ref 246), (1, .int p1)]) C dX1_readClauses_46 2 rfl (by decide) hv17 (by decide) rfl ?_
            refine am_goto 49 7 C dX1_readClauses_49 (by decide) ?_
            replace E := Option.some.inj E
            replace E := am_exL E Er7
            refine am_lvs [1, 2, 0] rfl ?_
            exact ih7 _ _ E
  refine am_lvs [1, 2, 0] rfl ?_
  exact LP7 am_F _ _ E
def j_X1_readClauses_247_52 (s2 : am_S) : Option (Int32 × am_S) :=
  am_bd (f_X7_kindHere s2) (fun v3 => am_if (v3 = 0) (some ((s2.1 2 5), s2)) (am_bd (f_X7_fail (0 : Int32) s2) (fun s4 => some ((s4.1 2 5), s4))))
def b_X1_readClauses_247_7 (p1 : Int32) (v8 : Int32) (s9 : am_S) : Option ((Int32 × am_S) ⊕ (Int32 × am_S)) :=
  am_if (p1 < v8) (am_bd (j_X1_readClauses_247_52 s9) (fun e10 => some (Sum.inr e10))) (am_bd (f_X7_fine s9) (fun v11 => am_if (v11 = 0) (am_bd (j_X1_readClauses_247_52 s9) (fun e12 => some (Sum.inr e12))) (am_bd (f_X7_isByte (nI 59) s9) (fun v13 => am_if (v13 = 0) (am_bd (j_X1_readClauses_247_52 s9) (fun e14 => some (Sum.inr e14))) (am_bd (f_X7_step s9) (fun s15 => am_bd (f_X4_readClause v8 s15) (fun s16 => am_lt (v8 + (1 : Int32)) (fun v17 => some (Sum.inl (v17, s16))))))))))
def f_X1_readClauses_247 (p1 : Int32) (s0 : am_S) : Option (Int32 × am_S) :=
  am_bd (f_X4_readClause (0 : Int32) s0) (fun s6 => am_lp (fun (q : Int32 × am_S) => b_X1_readClauses_247_7 p1 q.1 q.2) am_F ((1 : Int32), s6))
set_option maxRecDepth 100000 in
set_option maxHeartbeats 4000000 in
theorem t_X1_readClauses_247 (p1 : Int32) (s0 : am_S) {z : Int32 × am_S} (E : f_X1_readClauses_247 p1 s0 = some z) : AS yX1_readClauses cX1_readClauses 3 (some .int) 31 [.ref 247, .int p1] s0 (some (.int z.1)) z.2 := by
  unfold f_X1_readClauses_247 at E
  refine as_met (lv := [(0, .ref 247), (1, .int p1)]) (by decide +kernel) (by simp [lg_sl, Value.category]) rfl (fun x C A Z => ?_)
  have K52 : ∀ (s2 : am_S), j_X1_readClauses_247_52 s2 = some z → AX x 0 0 52 [(0, .ref 247)] [] am_N (am_h s2) := by
    intro s2 E
    unfold j_X1_readClauses_247_52 at E
    refine am_aload_n 52 C dX1_readClauses_52 rfl 0 rfl ?_
    refine as_getr 53 C fl_X1_9_3 dX1_readClauses_53 (by decide) sh_247 (rf_247_0 _ _) ?_
    obtain ⟨v3, Ec, E⟩ := am_bdE E
    refine as_callV 56 (s2 := s2) (st := []) (st2 := [.int v3]) [] C A (by decide) ml_X1_32 yc_X7_kindHere yv_X7_kindHere (t_X7_kindHere  s2 Ec) (by decide) sh_2 rfl rfl (Nat.le_of_ble_eq_true rfl) rfl dX1_readClauses_56 ?_
    refine am_if_eq 59 70 C dX1_readClauses_59 (by decide) (fun c5 => ?_) (fun c5 => ?_)
    · have E := am_ifT E c5
      refine am_aload_n 70 C dX1_readClauses_70 rfl 0 rfl ?_
      refine as_getr 71 C fl_X1_9_3 dX1_readClauses_71 (by decide) sh_247 (rf_247_0 _ _) ?_
      refine as_geti 74 C fl_X1_39_6 dX1_readClauses_74 (by decide) sh_2 ?_
      replace E := Option.some.inj E
      subst E
      exact as_iret 77 C Z rfl dX1_readClauses_77
    · have E := am_ifF E c5
      refine am_aload_n 62 C dX1_readClauses_62 rfl 0 rfl ?_
      refine as_getr 63 C fl_X1_9_3 dX1_readClauses_63 (by decide) sh_247 (rf_247_0 _ _) ?_
      refine am_iconst 66 (0 : Int32) C dX1_readClauses_66 (by decide) ?_
      obtain ⟨s4, Ec, E⟩ := am_bdE E
      refine as_callV 67 (s2 := s4) (st := []) (st2 := []) [.int (0 : Int32)] C A (by decide) ml_X1_36 yc_X7_fail yv_X7_fail (t_X7_fail (0 : Int32) s2 Ec) (by decide) sh_2 rfl rfl (Nat.le_of_ble_eq_true rfl) rfl dX1_readClauses_67 ?_
      refine am_aload_n 70 C dX1_readClauses_70 rfl 0 rfl ?_
      refine as_getr 71 C fl_X1_9_3 dX1_readClauses_71 (by decide) sh_247 (rf_247_0 _ _) ?_
      refine as_geti 74 C fl_X1_39_6 dX1_readClauses_74 (by decide) sh_2 ?_
      replace E := Option.some.inj E
      subst E
      exact as_iret 77 C Z rfl dX1_readClauses_77
  refine am_aload_n 0 C dX1_readClauses_0 rfl 0 rfl ?_
  refine am_iconst 1 (0 : Int32) C dX1_readClauses_1 (by decide) ?_
  obtain ⟨s6, Ec, E⟩ := am_bdE E
  refine as_callU 2 (s2 := s6) (st := []) (st2 := []) [.int (0 : Int32)] C A (by decide) yc_X4_readClause vu_X1_15_247 (t_X4_readClause (0 : Int32) s0 Ec) (by decide) sh_247 rfl rfl (Nat.le_of_ble_eq_true rfl) rfl dX1_readClauses_2 ?_
  refine am_iconst 5 (1 : Int32) C dX1_readClauses_5 (by decide) ?_
  refine am_istore_n 6 (lv2 := [(2, .int (1 : Int32)), (0, .ref 247), (1, .int p1)]) C dX1_readClauses_6 rfl (by decide) rfl ?_
  have LP7 : ∀ (n : Nat) (v8 : Int32) (s9 : am_S), am_lp (fun (q : Int32 × am_S) => b_X1_readClauses_247_7 p1 q.1 q.2) n (v8, s9) = some z → AX x 0 0 7 [(0, .ref 247), (1, .int p1), (2, .int v8)] [] am_N (am_h s9) := by
    intro n
    induction n with
    | zero => intro v8 s9 E; exact (am_lp0 E).elim
    | succ n ih7 =>
      intro v8 s9 E
      obtain ⟨r7, E, Er7⟩ := am_lpE E
      replace E : b_X1_readClauses_247_7 p1 v8 s9 = some r7 := E
      unfold b_X1_readClauses_247_7 at E
      refine am_iload_n 7 C dX1_readClauses_7 rfl 2 rfl ?_
      refine am_iload_n 8 C dX1_readClauses_8 rfl 1 rfl ?_
      refine am_icmp_gt 9 52 C dX1_readClauses_9 (by decide) (fun c20 => ?_) (fun c20 => ?_)
      · have E := am_ifT E c20
        obtain ⟨e10, E, E2⟩ := am_bdE E
        replace E2 := Option.some.inj E2
        replace E2 := am_exR E2 Er7
        rw [E2] at E
        refine am_lvs [0] rfl ?_
        exact K52 _ E
      · have E := am_ifF E c20
        refine am_aload_n 12 C dX1_readClauses_12 rfl 0 rfl ?_
        refine as_getr 13 C fl_X1_9_3 dX1_readClauses_13 (by decide) sh_247 (rf_247_0 _ _) ?_
        obtain ⟨v11, Ec, E⟩ := am_bdE E
        refine as_callV 16 (s2 := s9) (st := []) (st2 := [.int v11]) [] C A (by decide) ml_X1_19 yc_X7_fine yv_X7_fine (t_X7_fine  s9 Ec) (by decide) sh_2 rfl rfl (Nat.le_of_ble_eq_true rfl) rfl dX1_readClauses_16 ?_
        refine am_if_eq 19 52 C dX1_readClauses_19 (by decide) (fun c19 => ?_) (fun c19 => ?_)
        · have E := am_ifT E c19
          obtain ⟨e12, E, E2⟩ := am_bdE E
          replace E2 := Option.some.inj E2
          replace E2 := am_exR E2 Er7
          rw [E2] at E
          refine am_lvs [0] rfl ?_
          exact K52 _ E
        · have E := am_ifF E c19
          refine am_aload_n 22 C dX1_readClauses_22 rfl 0 rfl ?_
          refine as_getr 23 C fl_X1_9_3 dX1_readClauses_23 (by decide) sh_247 (rf_247_0 _ _) ?_
          refine am_bipush 26 (nI 59) C dX1_readClauses_26 (by decide) ?_
          obtain ⟨v13, Ec, E⟩ := am_bdE E
          refine as_callV 28 (s2 := s9) (st := []) (st2 := [.int v13]) [.int (nI 59)] C A (by decide) ml_X1_25 yc_X7_isByte yv_X7_isByte (t_X7_isByte (nI 59) s9 Ec) (by decide) sh_2 rfl rfl (Nat.le_of_ble_eq_true rfl) rfl dX1_readClauses_28 ?_
          refine am_if_eq 31 52 C dX1_readClauses_31 (by decide) (fun c18 => ?_) (fun c18 => ?_)
          · have E := am_ifT E c18
            obtain ⟨e14, E, E2⟩ := am_bdE E
            replace E2 := Option.some.inj E2
            replace E2 := am_exR E2 Er7
            rw [E2] at E
            refine am_lvs [0] rfl ?_
            exact K52 _ E
          · have E := am_ifF E c18
            refine am_aload_n 34 C dX1_readClauses_34 rfl 0 rfl ?_
            refine as_getr 35 C fl_X1_9_3 dX1_readClauses_35 (by decide) sh_247 (rf_247_0 _ _) ?_
            obtain ⟨s15, Ec, E⟩ := am_bdE E
            refine as_callV 38 (s2 := s15) (st := []) (st2 := []) [] C A (by decide) ml_X1_29 yc_X7_step yv_X7_step (t_X7_step  s9 Ec) (by decide) sh_2 rfl rfl (Nat.le_of_ble_eq_true rfl) rfl dX1_readClauses_38 ?_
            refine am_aload_n 41 C dX1_readClauses_41 rfl 0 rfl ?_
            refine am_iload_n 42 C dX1_readClauses_42 rfl 2 rfl ?_
            obtain ⟨s16, Ec, E⟩ := am_bdE E
            refine as_callU 43 (s2 := s16) (st := []) (st2 := []) [.int v8] C A (by decide) yc_X4_readClause vu_X1_15_247 (t_X4_readClause v8 s15 Ec) (by decide) sh_247 rfl rfl (Nat.le_of_ble_eq_true rfl) rfl dX1_readClauses_43 ?_
            obtain ⟨v17, hv17, E⟩ := am_ltE E
            refine as_iinc 46 (q := (1 : Int32)) (lv2 := [(2, .int v17), (0, .ref 247), (1, .int p1)]) C dX1_readClauses_46 2 rfl (by decide) hv17 (by decide) rfl ?_
            refine am_goto 49 7 C dX1_readClauses_49 (by decide) ?_
            replace E := Option.some.inj E
            replace E := am_exL E Er7
            refine am_lvs [1, 2, 0] rfl ?_
            exact ih7 _ _ E
  refine am_lvs [1, 2, 0] rfl ?_
  exact LP7 am_F _ _ E
def f_X11_town  (s0 : am_S) : Option (Int32 × am_S) :=
  am_bd (f_X7_cut (s0.1 0 1) s0) (fun s1 => am_lt (as_i s1 0 1 (0 : Int32)) (fun s2 => am_bd (f_X9_begin s2) (fun s3 => am_b2 (f_X1_readClauses_246 (nI 40) s3) (fun v4 s5 => am_if (v4 = 0) (am_bd (f_X5_settle s5) (fun s6 => am_bd (f_X0_forget s6) (fun s7 => some ((s7.1 16 3), s7)))) (some (((-2 : Int32) - v4), s5))))))
set_option maxRecDepth 100000 in
set_option maxHeartbeats 4000000 in
theorem t_X11_town (s0 : am_S) {z : Int32 × am_S} (E : f_X11_town  s0 = some z) : AS yX11_town cX11_town 2 (some .int) 9 [.ref 0] s0 (some (.int z.1)) z.2 := by
  unfold f_X11_town at E
  refine as_met (lv := [(0, .ref 0)]) (by decide +kernel) (by simp [lg_sl, Value.category]) rfl (fun x C A Z => ?_)
  refine am_aload_n 0 C dX11_town_0 rfl 0 rfl ?_
  refine as_getr 1 C fl_X11_16_10 dX11_town_1 (by decide) sh_0 (rf_0_2 _ _) ?_
  refine am_aload_n 4 C dX11_town_4 rfl 0 rfl ?_
  refine as_getr 5 C fl_X11_9_10 dX11_town_5 (by decide) sh_0 (rf_0_0 _ _) ?_
  refine am_aload_n 8 C dX11_town_8 rfl 0 rfl ?_
  refine as_geti 9 C fl_X11_109_10 dX11_town_9 (by decide) sh_0 ?_
  obtain ⟨s1, Ec, E⟩ := am_bdE E
  refine as_callV 12 (s2 := s1) (st := []) (st2 := []) [.ref 1, .int (s0.1 0 1)] C A (by decide) ml_X11_117 yc_X7_cut yv_X7_cut (t_X7_cut (s0.1 0 1) s0 Ec) (by decide) sh_2 rfl rfl (Nat.le_of_ble_eq_true rfl) rfl dX11_town_12 ?_
  refine am_aload_n 15 C dX11_town_15 rfl 0 rfl ?_
  refine am_iconst 16 (0 : Int32) C dX11_town_16 (by decide) ?_
  obtain ⟨s2, hs2, E⟩ := am_ltE E
  refine as_puti 17 C fl_X11_109_10 dX11_town_17 (by decide) sh_0 rfl rfl hs2 ?_
  refine am_aload_n 20 C dX11_town_20 rfl 0 rfl ?_
  refine as_getr 21 C fl_X11_96_10 dX11_town_21 (by decide) sh_0 (rf_0_6 _ _) ?_
  refine am_aload_n 24 C dX11_town_24 rfl 0 rfl ?_
  refine as_getr 25 C fl_X11_23_10 dX11_town_25 (by decide) sh_0 (rf_0_3 _ _) ?_
  obtain ⟨s3, Ec, E⟩ := am_bdE E
  refine as_callV 28 (s2 := s3) (st := []) (st2 := []) [.ref 6] C A (by decide) ml_X11_121 yc_X9_begin yv_X9_begin (t_X9_begin  s2 Ec) (by decide) sh_246 rfl rfl (Nat.le_of_ble_eq_true rfl) rfl dX11_town_28 ?_
  refine am_aload_n 31 C dX11_town_31 rfl 0 rfl ?_
  refine as_getr 32 C fl_X11_96_10 dX11_town_32 (by decide) sh_0 (rf_0_6 _ _) ?_
  refine am_bipush 35 (nI 40) C dX11_town_35 (by decide) ?_
  obtain ⟨v4, s5, Ec, E⟩ := am_b2E E
  refine as_callU 37 (s2 := s5) (st := []) (st2 := [.int v4]) [.int (nI 40)] C A (by decide) yc_X1_readClauses vu_X11_125_246 (t_X1_readClauses_246 (nI 40) s3 Ec) (by decide) sh_246 rfl rfl (Nat.le_of_ble_eq_true rfl) rfl dX11_town_37 ?_
  refine am_istore_n 40 (lv2 := [(1, .int v4), (0, .ref 0)]) C dX11_town_40 rfl (by decide) rfl ?_
  refine am_iload_n 41 C dX11_town_41 rfl 0 rfl ?_
  refine am_if_eq 42 50 C dX11_town_42 (by decide) (fun c8 => ?_) (fun c8 => ?_)
  · have E := am_ifT E c8
    refine am_aload_n 50 C dX11_town_50 rfl 1 rfl ?_
    refine as_getr 51 C fl_X11_36_10 dX11_town_51 (by decide) sh_0 (rf_0_8 _ _) ?_
    refine am_aload_n 54 C dX11_town_54 rfl 1 rfl ?_
    refine as_getr 55 C fl_X11_23_10 dX11_town_55 (by decide) sh_0 (rf_0_3 _ _) ?_
    obtain ⟨s6, Ec, E⟩ := am_bdE E
    refine as_callV 58 (s2 := s6) (st := []) (st2 := []) [.ref 6] C A (by decide) ml_X11_129 yc_X5_settle yv_X5_settle (t_X5_settle  s5 Ec) (by decide) sh_15 rfl rfl (Nat.le_of_ble_eq_true rfl) rfl dX11_town_58 ?_
    refine am_aload_n 61 C dX11_town_61 rfl 1 rfl ?_
    refine as_getr 62 C fl_X11_51_10 dX11_town_62 (by decide) sh_0 (rf_0_11 _ _) ?_
    obtain ⟨s7, Ec, E⟩ := am_bdE E
    refine as_callV 65 (s2 := s7) (st := []) (st2 := []) [] C A (by decide) ml_X11_132 yc_X0_forget yv_X0_forget (t_X0_forget  s6 Ec) (by decide) sh_32 rfl rfl (Nat.le_of_ble_eq_true rfl) rfl dX11_town_65 ?_
    refine am_aload_n 68 C dX11_town_68 rfl 1 rfl ?_
    refine as_getr 69 C fl_X11_36_10 dX11_town_69 (by decide) sh_0 (rf_0_8 _ _) ?_
    refine as_getr 72 C fl_X11_57_4 dX11_town_72 (by decide) sh_15 (rf_15_0 _ _) ?_
    refine as_geti 75 C fl_X11_135_7 dX11_town_75 (by decide) sh_16 ?_
    replace E := Option.some.inj E
    subst E
    exact as_iret 78 C Z rfl dX11_town_78
  · have E := am_ifF E c8
    refine am_bipush 45 (-2 : Int32) C dX11_town_45 (by decide) ?_
    refine am_iload_n 47 C dX11_town_47 rfl 0 rfl ?_
    refine am_isub 48 C dX11_town_48 ?_
    replace E := Option.some.inj E
    subst E
    exact as_iret 49 C Z rfl dX11_town_49
def f_X11_rule  (s0 : am_S) : Option (Int32 × am_S) :=
  am_if ((s0.1 0 5) < (nI 6)) (am_bd (f_X7_cut (s0.1 0 1) s0) (fun s1 => am_lt (as_i s1 0 1 (0 : Int32)) (fun s2 => am_lt (s2.1 0 5) (fun v3 => am_gd (¬ v3 < 0 ∧ (v3).toNatClampNeg < 6) (am_lt (144 + 7 * (v3).toNatClampNeg) (fun q5 => am_bd (f_X4_begin q5 s2) (fun s6 => am_b2 (f_X1_readClauses_247 (nI 12) s6) (fun v7 s8 => am_if (v7 = 0) (am_lt (as_i s8 0 5 ((s8.1 0 5) + (1 : Int32))) (fun s9 => some (((s9.1 0 5) - (1 : Int32)), s9))) (some (((-2 : Int32) - v7), s8)))))))))) (some ((-1 : Int32), s0))
set_option maxRecDepth 100000 in
set_option maxHeartbeats 4000000 in
theorem t_X11_rule (s0 : am_S) {z : Int32 × am_S} (E : f_X11_rule  s0 = some z) : AS yX11_rule cX11_rule 2 (some .int) 32 [.ref 0] s0 (some (.int z.1)) z.2 := by
  unfold f_X11_rule at E
  refine as_met (lv := [(0, .ref 0)]) (by decide +kernel) (by simp [lg_sl, Value.category]) rfl (fun x C A Z => ?_)
  refine am_aload_n 0 C dX11_rule_0 rfl 0 rfl ?_
  refine as_geti 1 C fl_X11_138_10 dX11_rule_1 (by decide) sh_0 ?_
  refine am_bipush 4 (nI 6) C dX11_rule_4 (by decide) ?_
  refine am_icmp_lt 6 11 C dX11_rule_6 (by decide) (fun c11 => ?_) (fun c11 => ?_)
  · have E := am_ifT E c11
    refine am_aload_n 11 C dX11_rule_11 rfl 0 rfl ?_
    refine as_getr 12 C fl_X11_16_10 dX11_rule_12 (by decide) sh_0 (rf_0_2 _ _) ?_
    refine am_aload_n 15 C dX11_rule_15 rfl 0 rfl ?_
    refine as_getr 16 C fl_X11_9_10 dX11_rule_16 (by decide) sh_0 (rf_0_0 _ _) ?_
    refine am_aload_n 19 C dX11_rule_19 rfl 0 rfl ?_
    refine as_geti 20 C fl_X11_109_10 dX11_rule_20 (by decide) sh_0 ?_
    obtain ⟨s1, Ec, E⟩ := am_bdE E
    refine as_callV 23 (s2 := s1) (st := []) (st2 := []) [.ref 1, .int (s0.1 0 1)] C A (by decide) ml_X11_117 yc_X7_cut yv_X7_cut (t_X7_cut (s0.1 0 1) s0 Ec) (by decide) sh_2 rfl rfl (Nat.le_of_ble_eq_true rfl) rfl dX11_rule_23 ?_
    refine am_aload_n 26 C dX11_rule_26 rfl 0 rfl ?_
    refine am_iconst 27 (0 : Int32) C dX11_rule_27 (by decide) ?_
    obtain ⟨s2, hs2, E⟩ := am_ltE E
    refine as_puti 28 C fl_X11_109_10 dX11_rule_28 (by decide) sh_0 rfl rfl hs2 ?_
    refine am_aload_n 31 C dX11_rule_31 rfl 0 rfl ?_
    refine as_getr 32 C fl_X11_105_10 dX11_rule_32 (by decide) sh_0 (rf_0_7 _ _) ?_
    refine am_aload_n 35 C dX11_rule_35 rfl 0 rfl ?_
    refine as_getr 36 C fl_X11_29_10 dX11_rule_36 (by decide) sh_0 (rf_0_4 _ _) ?_
    refine am_aload_n 39 C dX11_rule_39 rfl 0 rfl ?_
    refine as_geti 40 C fl_X11_138_10 dX11_rule_40 (by decide) sh_0 ?_
    obtain ⟨v3, hv3, E⟩ := am_ltE E
    refine as_nm hv3 ?_
    obtain ⟨g4, E⟩ := am_gdE E
    refine as_aald 43 (q := 144 + 7 * (v3).toNatClampNeg) C dX11_rule_43 (by decide) sh_14 (by decide) g4 (fun t u => ra_14 t u _ (g4).2) ?_
    obtain ⟨q5, hq5, E⟩ := am_ltE E
    refine as_nmr hq5 ?_
    have mq5 : q5 ∈ am_isR := by rw [hq5]; exact rb_14 _ (g4).2
    obtain ⟨s6, Ec, E⟩ := am_bdE E
    refine as_callV 44 (s2 := s6) (st := []) (st2 := []) [.ref q5] C A (by decide) ml_X11_141 yc_X4_begin yv_X4_begin (t_X4_begin q5 s2 Ec) (by decide) sh_247 rfl rfl (Nat.le_of_ble_eq_true rfl) rfl dX11_rule_44 ?_
    refine am_aload_n 47 C dX11_rule_47 rfl 0 rfl ?_
    refine as_getr 48 C fl_X11_105_10 dX11_rule_48 (by decide) sh_0 (rf_0_7 _ _) ?_
    refine am_bipush 51 (nI 12) C dX11_rule_51 (by decide) ?_
    obtain ⟨v7, s8, Ec, E⟩ := am_b2E E
    refine as_callU 53 (s2 := s8) (st := []) (st2 := [.int v7]) [.int (nI 12)] C A (by decide) yc_X1_readClauses vu_X11_144_247 (t_X1_readClauses_247 (nI 12) s6 Ec) (by decide) sh_247 rfl rfl (Nat.le_of_ble_eq_true rfl) rfl dX11_rule_53 ?_
    refine am_istore_n 56 (lv2 := [(1, .int v7), (0, .ref 0)]) C dX11_rule_56 rfl (by decide) rfl ?_
    refine am_iload_n 57 C dX11_rule_57 rfl 0 rfl ?_
    refine am_if_eq 58 66 C dX11_rule_58 (by decide) (fun c10 => ?_) (fun c10 => ?_)
    · have E := am_ifT E c10
      refine am_aload_n 66 C dX11_rule_66 rfl 1 rfl ?_
      refine am_dup 67 C dX11_rule_67 rfl ?_
      refine as_geti 68 C fl_X11_138_10 dX11_rule_68 (by decide) sh_0 ?_
      refine am_iconst 71 (1 : Int32) C dX11_rule_71 (by decide) ?_
      refine am_iadd 72 C dX11_rule_72 ?_
      obtain ⟨s9, hs9, E⟩ := am_ltE E
      refine as_puti 73 C fl_X11_138_10 dX11_rule_73 (by decide) sh_0 rfl rfl hs9 ?_
      refine am_aload_n 76 C dX11_rule_76 rfl 1 rfl ?_
      refine as_geti 77 C fl_X11_138_10 dX11_rule_77 (by decide) sh_0 ?_
      refine am_iconst 80 (1 : Int32) C dX11_rule_80 (by decide) ?_
      refine am_isub 81 C dX11_rule_81 ?_
      replace E := Option.some.inj E
      subst E
      exact as_iret 82 C Z rfl dX11_rule_82
    · have E := am_ifF E c10
      refine am_bipush 61 (-2 : Int32) C dX11_rule_61 (by decide) ?_
      refine am_iload_n 63 C dX11_rule_63 rfl 0 rfl ?_
      refine am_isub 64 C dX11_rule_64 ?_
      replace E := Option.some.inj E
      subst E
      exact as_iret 65 C Z rfl dX11_rule_65
  · have E := am_ifF E c11
    refine am_iconst 9 (-1 : Int32) C dX11_rule_9 (by decide) ?_
    replace E := Option.some.inj E
    subst E
    exact as_iret 10 C Z rfl dX11_rule_10
