/-! the class reads values, sums, signs -/
def rdy (n : Nat) (st : PS) : Prop := st.1 ≤ n ∧ st.2.1 ≤ 60 ∧ st.2.2.length ≤ st.1
theorem gs.ln {n x : Nat} {A : List Bool} {st0 st : PS} (h : gs n A x st0 st) (h0 : st0.2.2.length ≤ st0.1) : st.2.2.length + x ≤ st.1 := by
  obtain ⟨h1, h2, h3, l, h4, h5, h6, h7⟩ := h
  rw [h4, List.length_append]
  omega
theorem gs.rd {n x : Nat} {A : List Bool} {st0 st : PS} (h : gs n A x st0 st) (h0 : rdy n st0) : rdy n st := ⟨h.ix, h.kx, by have := h.ln h0.2.2; omega⟩
/-- what stays while a rule is read -/
def EN (c : Nat → Int32) (T n a : Nat) (s0 : am_S) : Prop := T ≤ 400 ∧ n ≤ T ∧ tp c T n = T ∧ a ∈ am_isR ∧ s0.2.2.2 = a
section CV
variable {c : Nat → Int32} {T n a : Nat} {s0 : am_S}
theorem c_84F {v : Int32} {s : am_S} (h : ¬ s.1 2 5 = 0) : j_X4_readValue_84 v s = some s := by
  unfold j_X4_readValue_84
  rw [c_fine, am_bds, am_b0 h]
theorem c_84 {st : PS} {s : am_S} (E : EN c T n a s0) (hi : st.1 < n) (hl : st.2.2.length ≤ st.1) (h : CS c T n a s0 st s) {v : Int32} {d w : Nat} (hv : (v = 0 ∧ d = 1) ∨ (¬ v = 0 ∧ d = 0)) (hw : VL c T (tp c T st.1) = nI w) : ∃ s2, j_X4_readValue_84 v s = some s2 ∧ CS c T n a s0 (nxt (mor (emi d w st))) s2 := by
  obtain ⟨hT, hnT, hn1, ha, hq⟩ := E
  have hm := h.mo ha
  have hr : (as_i s 247 2 (nI (st.2.1 + 1))).2.2.2 = a := hm.rf hq
  obtain ⟨s2, r1, r2⟩ := hm.ad ha (by show st.2.2.length < 400; omega) d w
  have h4 : s2.1 2 4 = nI st.1 := r2.1
  have r3 := r2.stp ha (st.1 + 1)
  refine ⟨as_i s2 2 4 (nI (st.1 + 1)), ?_, r3⟩
  unfold j_X4_readValue_84
  rw [c_fine, am_bds, am_b1 h.2.1, h.2.2.1, nI_1, am_ltd, am_ltd, hr, am_gdt ha]
  have hvh : f_X7_valueHere (as_i s 247 2 (nI (st.2.1 + 1))) = some (nI w) := by rw [c_valueHere hm.2.2.2.2.2 (by omega) hm.1 (show st.1 ≤ n by omega)]; exact congrArg some hw
  rcases hv with ⟨e1, e2⟩ | ⟨e1, e2⟩
  · subst e2
    rw [am_ift e1, hvh, am_bds, show (1 : Int32) = nI 1 from rfl, r1, am_bds, tk_step r2.2.2.2.2.2 (by omega) h4 hi, am_bds]
  · subst e2
    rw [am_iff e1, hvh, am_bds, show (0 : Int32) = nI 0 from rfl, r1, am_bds, tk_step r2.2.2.2.2.2 (by omega) h4 hi, am_bds]
theorem isVWI {w : Nat} (hw : w ≤ 24) : f_X4_isValueWord (wnI w) = some (b01 (isVW w = true)) := by
  have key : ∀ w, w < 25 → f_X4_isValueWord (wnI w) = some (b01 (isVW w = true)) := by decide +kernel
  exact key w (by omega)
theorem c_readValue {st : PS} {s : am_S} (E : EN c T n a s0) (hr : rdy n st) (h : CS c T n a s0 st s) : CO c T n a s0 (aVal c T st) (f_X4_readValue s) := by
  obtain ⟨hT, hnT, hn1, ha, hq⟩ := id E
  have kh := c_kindHere h.2.2.2.2.2 (by omega) h.1 hr.1
  have whr := c_wordHere h.2.2.2.2.2 (by omega) h.1 hr.1
  have f84 : ∀ k v, k ≤ 4 → ∃ s2, am_bd (f_X7_fail (nI k) s) (fun s26 => j_X4_readValue_84 v s26) = some s2 ∧ CF c T n a s0 (fau c T st.1 k) s2 := fun k v hk => by
    obtain ⟨s2, r1, r2⟩ := h.fl ha (by omega) hr.1 (by have := hr.2.2; have := hr.1; omega) k
    exact ⟨s2, by rw [r1, am_bds, c_84F (r2.ne (fauK hT _ hk))], r2⟩
  have k67 : ∀ (v : Int32) (d w : Nat), ((v = 0 ∧ d = 1) ∨ (¬ v = 0 ∧ d = 0)) → VL c T (tp c T st.1) = nI w → st.1 < n → CO c T n a s0 (if st.2.1 < 60 then .ok (nxt (mor (emi d w st))) else .error (fau c T st.1 3)) (j_X4_readValue_67 v s) := fun v d w hv hw hi => by
    unfold j_X4_readValue_67
    rw [h.2.2.1]
    by_cases ck : st.2.1 < 60
    · rw [if_pos ck, am_ift (nI_lt ck (by decide))]
      exact c_84 E hi hr.2.2 h hv hw
    · rw [if_neg ck, am_iff (by rw [nI_ltI (by have := hr.2.1; omega) (by decide)]; exact ck)]
      exact f84 3 v (by decide)
  unfold f_X4_readValue aVal j_X4_readValue_16
  rw [kh, am_bds]
  by_cases c3 : kd c T st.1 = 3
  · rw [if_pos c3, am_iff (by rw [kdI (by decide)]; omega), am_bds, am_ift ((kdI (by decide)).mpr c3)]
    exact f84 1 0 (by decide)
  · rw [if_neg c3]
    have n3 : ¬ nI (kd c T st.1) = nI 3 := fun z => c3 ((kdI (by decide)).mp z)
    by_cases c2 : kd c T st.1 = 2
    · rw [if_pos c2, am_ift ((kdI (by decide)).mpr c2), am_bds, am_iff n3, am_iff (by decide)]
      exact k67 1 0 (nvo c T st.1) (Or.inr ⟨by decide, rfl⟩) (VL_2 c2) (kd_lt hn1 hr.1 (by omega))
    · rw [if_neg c2, am_iff (fun z => c2 ((kdI (by decide)).mp z)), am_bds, am_iff n3, am_ift rfl, whr, am_bds, isVWI (wd_le _), am_bds]
      by_cases cw : isVW (wo c T st.1) = true
      · rw [if_pos cw, am_b1 cw]
        have w24 := isVW_24 cw
        refine k67 0 1 (wo c T st.1) (Or.inl ⟨rfl, rfl⟩) ?_ (wo_lt hn1 hr.1 w24)
        have k1 : KD c T (tp c T st.1) = 1 := by
          have := (atW_wd (c := c) (T := T) w24).mpr rfl
          exact KD_1.mpr ⟨this.1, this.2.1⟩
        rw [VL_1 k1]
        have : wn c (tp c T st.1) (en c T (tp c T st.1)) = wo c T st.1 := by unfold wo wd; rw [if_pos k1]
        rw [this]
        unfold wnI
        rw [if_pos w24]
      · rw [if_neg cw, am_b0 cw]
        exact f84 0 0 (by decide)
theorem c_readValueF {e : Nat} {s : am_S} (E : EN c T n a s0) (he : erK e) (h : CF c T n a s0 e s) : f_X4_readValue s = some s := by
  obtain ⟨hT, hnT, hn1, ha, hq⟩ := E
  obtain ⟨i, hi, h4⟩ := h.2.1
  have hne := h.ne he
  have kh := c_kindHere h.2.2.2.2 (by omega) h4 hi
  have whr := c_wordHere h.2.2.2.2 (by omega) h4 hi
  have f : ∀ k v, am_bd (f_X7_fail k s) (fun s26 => j_X4_readValue_84 v s26) = some s := fun k v => by rw [c_failF hne, am_bds, c_84F hne]
  have k67 : ∀ v, j_X4_readValue_67 v s = some s := fun v => by
    unfold j_X4_readValue_67
    by_cases z : s.1 247 2 < nI 60
    · rw [am_ift z, c_84F hne]
    · rw [am_iff z, f]
  have k16 : ∀ v, j_X4_readValue_16 v s = some s := fun v => by
    unfold j_X4_readValue_16
    rw [kh, am_bds]
    by_cases z : nI (kd c T i) = nI 3
    · rw [am_ift z, f]
    · rw [am_iff z]
      by_cases y : v = 0
      · rw [am_ift y, whr, am_bds, isVWI (wd_le _), am_bds]
        by_cases x : isVW (wo c T i) = true
        · rw [am_b1 x, k67]
        · rw [am_b0 x, f]
      · rw [am_iff y, k67]
  unfold f_X4_readValue
  rw [kh, am_bds]
  by_cases z : nI (kd c T i) = nI 2
  · rw [am_ift z, k16]
  · rw [am_iff z, k16]
def wI (w : Nat) : Int32 := if w = 0 then -1 else nI w
theorem plBs : plB 43 ∧ plB 45 ∧ plB 42 ∧ plB 47 ∧ plB 37 ∧ plB 91 ∧ plB 93 ∧ plB 59 := by decide
theorem aop_eq {i : Nat} (hp : tp c T i < T) : aop c T i = if c (tp c T i) = nI 43 then 5 else if c (tp c T i) = nI 45 then 6 else if c (tp c T i) = nI 42 then 7 else if c (tp c T i) = nI 47 then 8 else if c (tp c T i) = nI 37 then 9 else 0 := by
  unfold aop bt atB
  simp only [hp, true_and]
theorem c_arith {s : am_S} {i : Nat} (h : tokAt c T n s) (hn : n ≤ 400) (h4 : s.1 2 4 = nI i) (hi : i ≤ n) : f_X4_arithmeticStep s = some (wI (aop c T i)) := by
  unfold f_X4_arithmeticStep
  rw [c_kindHere h hn h4 hi, am_bds, c_valueHere h hn h4 hi, am_bds]
  obtain ⟨b1, b2, b3, b4, b5, _⟩ := plBs
  by_cases k : kd c T i = 5
  · rw [am_ift ((kdI (by decide)).mpr k), VL_5 k, aop_eq (KD_5.mp k).1]
    generalize c (tp c T i) = v
    by_cases e : v = nI 37
    · subst e; rw [am_ift rfl]; decide
    · rw [am_iff e]
      by_cases e38 : v = nI 38
      · subst e38; rw [am_ift rfl]; decide
      · rw [am_iff e38]
        by_cases e39 : v = nI 39
        · subst e39; rw [am_ift rfl]; decide
        · rw [am_iff e39]
          by_cases e40 : v = nI 40
          · subst e40; rw [am_ift rfl]; decide
          · rw [am_iff e40]
            by_cases e41 : v = nI 41
            · subst e41; rw [am_ift rfl]; decide
            · rw [am_iff e41]
              by_cases e42 : v = nI 42
              · subst e42; rw [am_ift rfl]; decide
              · rw [am_iff e42]
                by_cases e43 : v = nI 43
                · subst e43; rw [am_ift rfl]; decide
                · rw [am_iff e43]
                  by_cases e44 : v = nI 44
                  · subst e44; rw [am_ift rfl]; decide
                  · rw [am_iff e44]
                    by_cases e45 : v = nI 45
                    · subst e45; rw [am_ift rfl]; decide
                    · rw [am_iff e45]
                      by_cases e46 : v = nI 46
                      · subst e46; rw [am_ift rfl]; decide
                      · rw [am_iff e46]
                        by_cases e47 : v = nI 47
                        · subst e47; rw [am_ift rfl]; decide
                        · rw [am_iff e47, if_neg e43, if_neg e45, if_neg e42, if_neg e47, if_neg e]
                          rfl
  · rw [am_iff (fun z => k ((kdI (by decide)).mp z))]
    have nb : ∀ b, plB b → ¬ bt c T i b := fun b hb z => k (atB_KD hb |>.mpr z).1
    unfold aop
    rw [if_neg (nb _ b1), if_neg (nb _ b2), if_neg (nb _ b3), if_neg (nb _ b4), if_neg (nb _ b5)]
    rfl
theorem c_112 {st : PS} {s : am_S} (E : EN c T n a s0) {w : Nat} (hw : w = 0 ∨ (5 ≤ w ∧ w ≤ 9)) (hl : st.2.2.length < 400) (h : CS c T n a s0 st s) : ∃ s2, j_X4_readSum_112 (wI w) s = some s2 ∧ CS c T n a s0 (emw w st) s2 := by
  obtain ⟨hT, hnT, hn1, ha, hq⟩ := E
  unfold j_X4_readSum_112 emw wI
  by_cases w0 : w = 0
  · rw [if_pos w0, am_ift rfl, if_pos w0]
    exact ⟨s, rfl, h⟩
  · rw [if_neg w0, if_neg w0, am_iff (fun z => by
      have := nI_pos (n := w) (by omega)
      rw [z] at this
      exact absurd (by decide) this), am_ltd, h.rf hq, am_gdt ha]
    obtain ⟨s2, r1, r2⟩ := h.ad ha hl w 0
    exact ⟨s2, by rw [show (0 : Int32) = nI 0 from rfl, r1, am_bds], r2⟩
theorem c_112F {e : Nat} {s : am_S} (E : EN c T n a s0) (v : Int32) (h : CF c T n a s0 e s) : ∃ s2, j_X4_readSum_112 v s = some s2 ∧ CF c T n a s0 e s2 := by
  obtain ⟨hT, hnT, hn1, ha, hq⟩ := E
  unfold j_X4_readSum_112
  by_cases w0 : v = -1
  · rw [am_ift w0]
    exact ⟨s, rfl, h⟩
  · rw [am_iff w0, am_ltd, h.rf hq, am_gdt ha]
    obtain ⟨s2, r1, r2⟩ := h.ad ha v 0
    exact ⟨s2, by rw [r1, am_bds], r2⟩
theorem c_sumLF {e : Nat} {s : am_S} (E : EN c T n a s0) (he : erK e) (h : CF c T n a s0 e s) (v : Int32) {j F : Nat} (hj : j < 400) : ∃ s2, am_lp (fun (q : Int32 × Int32 × am_S) => b_X4_readSum_8 q.1 q.2.1 q.2.2) (F + 1) (v, nI j, s) = some s2 ∧ CF c T n a s0 e s2 := by
  obtain ⟨s2, r1, r2⟩ := c_112F E v h
  refine ⟨s2, am_lp_inr ?_, r2⟩
  dsimp only
  unfold b_X4_readSum_8
  rw [am_iff (nI_ge hj (by decide)), c_fine, am_bds, am_b0 (h.ne he), r1, am_bds]
theorem c_sumL (E : EN c T n a s0) : ∀ (f F w j : Nat) (st : PS) (s : am_S), (w = 0 ∨ (5 ≤ w ∧ w ≤ 9)) → n < st.1 + f → f ≤ F → j < st.1 → rdy n st → st.2.2.length + (if w = 0 then 0 else 1) ≤ st.1 → CS c T n a s0 st s → CO c T n a s0 (aSumL c T f w st) (am_lp (fun (q : Int32 × Int32 × am_S) => b_X4_readSum_8 q.1 q.2.1 q.2.2) F (wI w, nI j, s)) := by
  obtain ⟨hT, hnT, hn1, ha, hq⟩ := id E
  intro f
  induction f with
  | zero => intro F w j st s _ hf _ _ hr; have := hr.1; omega
  | succ f ih =>
    intro F w j st s hw hf hF hj hr hl h
    have hi := hr.1
    obtain ⟨F, rfl⟩ : ∃ F', F = F' + 1 := ⟨F - 1, by omega⟩
    have ar := c_arith h.2.2.2.2.2 (by omega) h.1 hi
    rw [aSumL]
    by_cases c0 : aop c T st.1 = 0
    · rw [if_pos c0]
      have hl4 : w = 0 ∨ st.2.2.length < 400 := by
        rcases hw with z | z
        · exact Or.inl z
        · right; rw [if_neg (by omega)] at hl; omega
      have fin : ∃ s2, j_X4_readSum_112 (wI w) s = some s2 ∧ CS c T n a s0 (emw w st) s2 := by
        rcases hl4 with z | z
        · refine ⟨s, ?_, ?_⟩
          · unfold j_X4_readSum_112 wI
            rw [if_pos z, am_ift rfl]
          · unfold emw; rw [if_pos z]; exact h
        · exact c_112 E hw z h
      obtain ⟨s2, r1, r2⟩ := fin
      refine ⟨s2, am_lp_inr ?_, r2⟩
      dsimp only
      unfold b_X4_readSum_8 j_X4_readSum_35
      rw [am_iff (nI_ge (by omega) (by decide)), c_fine, am_bds, am_b1 h.2.1, ar, am_bds, am_ift (by rw [c0]; rfl), r1, am_bds]
    · rw [if_neg c0]
      have r := aop_r (c := c) (T := T) st.1
      have lt := aop_lt hn1 hi c0
      obtain ⟨o, ho⟩ : ∃ o, aop c T st.1 = o := ⟨_, rfl⟩
      rw [ho] at c0 r ar ⊢
      have oI : wI o = nI o := by unfold wI; rw [if_neg c0]
      have on1 : ¬ nI o = (-1 : Int32) := fun z => by
        have := nI_pos (n := o) (by omega)
        rw [z] at this
        exact absurd (by decide) this
      by_cases c7 : o < 7
      · rw [if_pos c7]
        -- the pending one is laid, then the value read
        obtain ⟨s1, r1, r2⟩ : ∃ s1, (am_if (wI w = (-1 : Int32)) (some s) (am_lt s.2.2.2 (fun q32 => am_gd (q32 ∈ am_isR) (f_X3_addStep q32 (wI w) (0 : Int32) s)))) = some s1 ∧ CS c T n a s0 (emw w st) s1 := by
          by_cases w0 : w = 0
          · refine ⟨s, ?_, ?_⟩
            · rw [am_ift (by rw [w0]; rfl)]
            · unfold emw; rw [if_pos w0]; exact h
          · rw [if_neg w0] at hl
            obtain ⟨s1, r1, r2⟩ := h.ad ha (by omega : st.2.2.length < 400) w 0
            have wn1 : ¬ wI w = (-1 : Int32) := fun z => by
              unfold wI at z
              rw [if_neg w0] at z
              have := nI_pos (n := w) (by omega)
              rw [z] at this
              exact absurd (by decide) this
            refine ⟨s1, ?_, ?_⟩
            · rw [am_iff wn1, am_ltd, h.rf hq, am_gdt ha, show wI w = nI w by unfold wI; rw [if_neg w0], show (0 : Int32) = nI 0 from rfl, r1]
            · unfold emw; rw [if_neg w0]; exact r2
        have ei := emw_ix w st
        have r3 := r2.stp ha ((emw w st).1 + 1)
        have rd3 : rdy n (nxt (emw w st)) := by
          refine ⟨by show (emw w st).1 + 1 ≤ n; rw [ei.1]; exact lt, by show (emw w st).2.1 ≤ 60; rw [ei.2]; exact hr.2.1, ?_⟩
          show (emw w st).2.2.length ≤ (emw w st).1 + 1
          rw [ei.1]
          unfold emw
          split
          · rename_i z; rw [if_pos z] at hl; omega
          · rename_i z; rw [if_neg z] at hl
            show (st.2.2 ++ [(w, 0)]).length ≤ st.1 + 1
            rw [List.length_append]
            show st.2.2.length + 1 ≤ _
            omega
        have V := c_readValue E rd3 r3
        have vg := aVal_g hT hn1 (st := nxt (emw w st)) rd3.1 rd3.2.1
        have st1 : f_X7_step s1 = some (as_i s1 2 4 (nI ((emw w st).1 + 1))) := tk_step r2.2.2.2.2.2 (by omega) r2.1 (by rw [ei.1]; exact lt)
        have body : b_X4_readSum_8 (wI w) (nI j) s = am_bd (f_X4_readValue (as_i s1 2 4 (nI ((emw w st).1 + 1)))) (fun s19 => some (.inl (wI o, nI (j + 1), s19))) := by
          unfold b_X4_readSum_8
          rw [am_iff (nI_ge (by omega) (by decide)), c_fine, am_bds, am_b1 h.2.1, ar, am_bds, oI, am_iff on1, am_ift (nI_lt c7 (by decide))]
          unfold j_X4_readSum_49
          rw [am_ift rfl]
          have k80 : ∀ x : am_S, j_X4_readSum_80 (nI o) (nI j) (nI o) 0 x = am_bd (f_X7_step x) (fun s18 => am_bd (f_X4_readValue s18) (fun s19 => some (.inl (nI o, nI (j + 1), s19)))) := fun x => by
            unfold j_X4_readSum_80
            simp only [am_ift, am_ltd, nI_1]
          by_cases w0 : wI w = (-1 : Int32)
          · rw [am_ift w0] at r1 ⊢
            rw [am_ift rfl, k80]
            rw [Option.some.injEq] at r1
            rw [r1, st1, am_bds]
          · rw [am_iff w0] at r1 ⊢
            rw [am_ltd, h.rf hq, am_gdt ha] at r1 ⊢
            rw [r1, am_bds, am_ift rfl, k80, st1, am_bds]
        cases hv : aVal c T (nxt (emw w st)) with
        | error e =>
          rw [hv] at V vg
          obtain ⟨s2, q1, q2⟩ := V
          rw [rb_e]
          have hstep : (fun (q : Int32 × Int32 × am_S) => b_X4_readSum_8 q.1 q.2.1 q.2.2) (wI w, nI j, s) = some (.inl (wI o, nI (j + 1), s2)) := by
            dsimp only
            rw [body, q1, am_bds]
          rw [am_lp_inl hstep]
          obtain ⟨F, rfl⟩ : ∃ F', F = F' + 1 := ⟨F - 1, by omega⟩
          exact c_sumLF E vg q2 _ (by omega)
        | ok st2 =>
          rw [hv] at V vg
          obtain ⟨s2, q1, q2⟩ := V
          rw [rb_o]
          have hstep : (fun (q : Int32 × Int32 × am_S) => b_X4_readSum_8 q.1 q.2.1 q.2.2) (wI w, nI j, s) = some (.inl (wI o, nI (j + 1), s2)) := by
            dsimp only
            rw [body, q1, am_bds]
          rw [am_lp_inl hstep]
          have vg2 : gs n [false] 0 (nxt (emw w st)) st2 := vg
          have up := vg2.up
          have up2 : st.1 + 1 ≤ st2.1 := by
            have : (emw w st).1 + 1 ≤ st2.1 := by simpa [nxt] using up
            rw [ei.1] at this; exact this
          have up3 : st.1 + 2 ≤ st2.1 := by
            obtain ⟨_, _, _, l, _, g5, _, g7⟩ := vg2
            have : l ≠ [] := fun z => by
              have := g7 [] (by have := vg.2.1; simp; omega)
              rw [z] at this
              simp [rl] at this
            have : 0 < l.length := List.length_pos_iff.mpr this
            have : l.length + ((emw w st).1 + 1) ≤ st2.1 := by simpa [nxt] using g5
            rw [ei.1] at this
            omega
          refine ih F o (j + 1) st2 s2 (Or.inr (by omega)) (by omega) (by omega) (by omega) (vg2.rd rd3) ?_ q2
          rw [if_neg c0]
          have := vg2.ln (by
            show (emw w st).2.2.length ≤ (emw w st).1 + 1
            exact rd3.2.2)
          obtain ⟨_, _, _, l, g4, g5, _, _⟩ := vg2
          have e1 : st2.2.2.length = (emw w st).2.2.length + l.length := by
            have : st2.2.2 = (emw w st).2.2 ++ l := g4
            rw [this, List.length_append]
          have e2 : l.length + ((emw w st).1 + 1) ≤ st2.1 := by simpa [nxt] using g5
          have e3 : (emw w st).2.2.length ≤ st.1 := by
            unfold emw
            split
            · rename_i z; rw [if_pos z] at hl; omega
            · rename_i z; rw [if_neg z] at hl
              show (st.2.2 ++ [(w, 0)]).length ≤ st.1
              rw [List.length_append]
              show st.2.2.length + 1 ≤ _
              omega
          rw [ei.1] at e2
          omega
      · rw [if_neg c7]
        have r3 := h.stp ha (st.1 + 1)
        have rd3 : rdy n (nxt st) := ⟨lt, hr.2.1, by show st.2.2.length ≤ st.1 + 1; have := hr.2.2; omega⟩
        have V := c_readValue E rd3 r3
        have vg := aVal_g hT hn1 (st := nxt st) rd3.1 rd3.2.1
        have st1 : f_X7_step s = some (as_i s 2 4 (nI (st.1 + 1))) := tk_step h.2.2.2.2.2 (by omega) h.1 lt
        have body : b_X4_readSum_8 (wI w) (nI j) s = am_bd (f_X4_readValue (as_i s 2 4 (nI (st.1 + 1)))) (fun s19 => am_lt s19.2.2.2 (fun q21 => am_gd (q21 ∈ am_isR) (am_bd (f_X3_addStep q21 (nI o) (0 : Int32) s19) (fun s22 => some (.inl (wI w, nI (j + 1), s22)))))) := by
          unfold b_X4_readSum_8
          rw [am_iff (nI_ge (by omega) (by decide)), c_fine, am_bds, am_b1 h.2.1, ar, am_bds, oI, am_iff on1, am_iff (by rw [nI_ltI (by omega) (by decide)]; exact c7)]
          unfold j_X4_readSum_49 j_X4_readSum_80
          rw [am_iff (by decide), am_iff (by decide), st1, am_bds]
          congr 1
          funext s19
          rw [am_iff (by decide)]
          congr 1
          funext q21
          congr 2
          funext s22
          rw [am_ltd, nI_1]
        cases hv : aVal c T (nxt st) with
        | error e =>
          rw [hv] at V vg
          obtain ⟨s2, q1, q2⟩ := V
          obtain ⟨s3, q3, q4⟩ := q2.ad ha (nI o) 0
          rw [rb_e]
          have hstep : (fun (q : Int32 × Int32 × am_S) => b_X4_readSum_8 q.1 q.2.1 q.2.2) (wI w, nI j, s) = some (.inl (wI w, nI (j + 1), s3)) := by
            dsimp only
            rw [body, q1, am_bds, am_ltd, q2.rf hq, am_gdt ha, q3, am_bds]
          rw [am_lp_inl hstep]
          obtain ⟨F, rfl⟩ : ∃ F', F = F' + 1 := ⟨F - 1, by omega⟩
          exact c_sumLF E vg q4 _ (by omega)
        | ok st2 =>
          rw [hv] at V vg
          obtain ⟨s2, q1, q2⟩ := V
          rw [rb_o]
          have vg2 : gs n [false] 0 (nxt st) st2 := vg
          obtain ⟨_, _, _, l, g4, g5, _, g7⟩ := id vg2
          have e1 : st2.2.2.length = st.2.2.length + l.length := by
            have : st2.2.2 = st.2.2 ++ l := g4
            rw [this, List.length_append]
          have e2 : l.length + (st.1 + 1) ≤ st2.1 := by simpa [nxt] using g5
          have l0 : 0 < l.length := List.length_pos_iff.mpr (fun z => by
            have := g7 [] (by have := vg2.2.1; simp; omega)
            rw [z] at this
            simp [rl] at this)
          have i2 := vg2.ix
          obtain ⟨s3, q3, q4⟩ := q2.ad ha (by omega : st2.2.2.length < 400) o 0
          have hstep : (fun (q : Int32 × Int32 × am_S) => b_X4_readSum_8 q.1 q.2.1 q.2.2) (wI w, nI j, s) = some (.inl (wI w, nI (j + 1), s3)) := by
            dsimp only
            rw [body, q1, am_bds, am_ltd, q2.rf hq, am_gdt ha, show (0 : Int32) = nI 0 from rfl, q3, am_bds]
          rw [am_lp_inl hstep]
          have len : (emi o 0 st2).2.2.length = st2.2.2.length + 1 := by
            show (st2.2.2 ++ [(o, 0)]).length = _
            rw [List.length_append]
            rfl
          refine ih F w (j + 1) (emi o 0 st2) s3 hw (show n < st2.1 + f by omega) (by omega) (show j + 1 < st2.1 by omega) ⟨i2, vg2.kx, ?_⟩ ?_ q4
          · rw [len]
            show _ ≤ st2.1
            split at hl <;> omega
          · rw [len]
            show _ ≤ st2.1
            omega
theorem c_readSum {st : PS} {s : am_S} (E : EN c T n a s0) (hr : rdy n st) (h : CS c T n a s0 st s) : CO c T n a s0 (aSum c T st) (f_X4_readSum s) := by
  obtain ⟨hT, hnT, hn1, ha, hq⟩ := id E
  have e4 : am_F = 4000 := rfl
  have V := c_readValue E hr h
  have vg := aVal_g hT hn1 (st := st) hr.1 hr.2.1
  unfold aSum f_X4_readSum
  cases hv : aVal c T st with
  | error e =>
    rw [hv] at V vg
    obtain ⟨s2, q1, q2⟩ := V
    rw [rb_e, q1, am_bds]
    exact c_sumLF E vg q2 _ (j := 0) (by omega)
  | ok st2 =>
    rw [hv] at V vg
    obtain ⟨s2, q1, q2⟩ := V
    have vg2 : gs n [false] 0 st st2 := vg
    rw [rb_o, q1, am_bds]
    refine c_sumL E 401 am_F 0 0 st2 s2 (Or.inl rfl) (by omega) (by omega) ?_ (vg2.rd hr) ?_ q2
    · obtain ⟨_, _, _, l, g4, g5, _, g7⟩ := vg2
      have l0 : 0 < l.length := List.length_pos_iff.mpr (fun z => by
        have := g7 [] (by have := vg.2.1; simp; omega)
        rw [z] at this
        simp [rl] at this)
      omega
    · exact vg2.ln hr.2.2
theorem c_readSumF {e : Nat} {s : am_S} (E : EN c T n a s0) (he : erK e) (h : CF c T n a s0 e s) : ∃ s2, f_X4_readSum s = some s2 ∧ CF c T n a s0 e s2 := by
  have e4 : am_F = 4000 := rfl
  unfold f_X4_readSum
  rw [c_readValueF E he h, am_bds]
  exact c_sumLF E he h _ (j := 0) (by omega)
end CV
