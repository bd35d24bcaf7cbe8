/-! the class reads facts and tests -/
section CG
variable {c : Nat → Int32} {T n a : Nat} {s0 : am_S}
theorem c_readSign {st : PS} {s : am_S} (E : EN c T n a s0) (hr : rdy n st) (h : CS c T n a s0 st s) : (∃ e s2 v, aSgn c T st = .error e ∧ f_X4_readSign s = some (v, s2) ∧ CF c T n a s0 e s2) ∨ (∃ s2, aSgn c T st = .ok (nxt (mor st)) ∧ f_X4_readSign s = some (nI (sgn c T (tp c T st.1)), s2) ∧ CS c T n a s0 (nxt (mor st)) s2) := by
  obtain ⟨hT, hnT, hn1, ha, hq⟩ := id E
  have kh := c_kindHere h.2.2.2.2.2 (by omega) h.1 hr.1
  have vh := c_valueHere h.2.2.2.2.2 (by omega) h.1 hr.1
  have f47 : ∀ k v, k ≤ 4 → ∃ s2, am_bd (f_X7_fail (nI k) s) (fun s26 => j_X4_readSign_47 v s26) = some (v, s2) ∧ CF c T n a s0 (fau c T st.1 k) s2 := fun k v hk => by
    obtain ⟨s2, r1, r2⟩ := h.fl ha (by omega) hr.1 (by have := hr.2.2; have := hr.1; omega) k
    refine ⟨s2, ?_, r2⟩
    rw [r1, am_bds]
    unfold j_X4_readSign_47
    rw [c_fine, am_bds, am_b0 (r2.ne (fauK hT _ hk))]
  unfold f_X4_readSign aSgn
  rw [vh, am_bds, kh, am_bds]
  by_cases c4 : kd c T st.1 = 4
  · rw [if_pos c4, am_ift ((kdI (by decide)).mpr c4), h.2.2.1]
    by_cases ck : st.2.1 < 60
    · rw [if_pos ck, am_ift (nI_lt ck (by decide)), VL_4 c4]
      right
      have hm := h.mo ha
      have r3 := hm.stp ha (st.1 + 1)
      refine ⟨_, rfl, ?_, r3⟩
      unfold j_X4_readSign_47
      rw [c_fine, am_bds, am_b1 h.2.1, h.2.2.1, nI_1, am_ltd, tk_step hm.2.2.2.2.2 (by omega) hm.1 (show st.1 < n from kd_lt hn1 hr.1 (by omega)), am_bds]
      rfl
    · rw [if_neg ck, am_iff (by rw [nI_ltI (by have := hr.2.1; omega) (by decide)]; exact ck)]
      left
      obtain ⟨s2, r1, r2⟩ := f47 3 (VL c T (tp c T st.1)) (by decide)
      exact ⟨_, s2, _, rfl, r1, r2⟩
  · rw [if_neg c4, am_iff (fun z => c4 ((kdI (by decide)).mp z))]
    left
    obtain ⟨s2, r1, r2⟩ := f47 0 (VL c T (tp c T st.1)) (by decide)
    exact ⟨_, s2, _, rfl, r1, r2⟩
theorem c_readSignF {e : Nat} {s : am_S} (E : EN c T n a s0) (he : erK e) (h : CF c T n a s0 e s) : ∃ v, f_X4_readSign s = some (v, s) := by
  obtain ⟨hT, hnT, hn1, ha, hq⟩ := E
  obtain ⟨i, hi, h4⟩ := h.2.1
  have hne := h.ne he
  have k47 : ∀ v, j_X4_readSign_47 v s = some (v, s) := fun v => by
    unfold j_X4_readSign_47
    rw [c_fine, am_bds, am_b0 hne]
  refine ⟨VL c T (tp c T i), ?_⟩
  unfold f_X4_readSign
  rw [c_valueHere h.2.2.2.2 (by omega) h4 hi, am_bds, c_kindHere h.2.2.2.2 (by omega) h4 hi, am_bds]
  by_cases z : nI (kd c T i) = nI 4
  · rw [am_ift z]
    by_cases y : s.1 247 2 < nI 60
    · rw [am_ift y, k47]
    · rw [am_iff y, c_failF hne, am_bds, k47]
  · rw [am_iff z, c_failF hne, am_bds, k47]
def c61 (s4 : am_S) : Option am_S := am_bd (f_X4_readSum s4) (fun s5 => am_b2 (f_X4_readSign s5) (fun v6 s7 => am_bd (f_X4_readSum s7) (fun s8 => am_lt s8.2.2.2 (fun q9 => am_gd (q9 ∈ am_isR) (am_bd (f_X3_addStep q9 v6 (0 : Int32) s8) (fun s10 => some s10))))))
theorem c_61F {e : Nat} {s s5 : am_S} (E : EN c T n a s0) (he : erK e) (h : CF c T n a s0 e s) (v : Int32) : ∃ s2, am_bd (f_X4_readSum s) (fun s8 => am_lt s8.2.2.2 (fun q9 => am_gd (q9 ∈ am_isR) (am_bd (f_X3_addStep q9 v (0 : Int32) s8) (fun s10 => some s10)))) = some s2 ∧ CF c T n a s0 e s2 := by
  obtain ⟨hT, hnT, hn1, ha, hq⟩ := id E
  obtain ⟨s3, r1, r2⟩ := c_readSumF E he h
  obtain ⟨s4, r3, r4⟩ := r2.ad ha v 0
  exact ⟨s4, by rw [r1, am_bds, am_ltd, r2.rf hq, am_gdt ha, r3, am_bds], r4⟩
theorem c_cmp {st : PS} {s : am_S} (E : EN c T n a s0) (hr : rdy n st) (h : CS c T n a s0 st s) : CO c T n a s0 (aCmp c T st) (c61 s) := by
  obtain ⟨hT, hnT, hn1, ha, hq⟩ := id E
  have V := c_readSum E hr h
  have vg := aSum_g hT hnT hn1 (st := st) hr.1 hr.2.1
  unfold aCmp c61
  cases hv : aSum c T st with
  | error e =>
    rw [hv] at V vg
    obtain ⟨s2, q1, q2⟩ := V
    obtain ⟨v, q3⟩ := c_readSignF E vg q2
    rw [rb_e, q1, am_bds, q3, am_b2s]
    exact c_61F (s5 := s) E vg q2 v
  | ok st1 =>
    rw [hv] at V vg
    obtain ⟨s1, q1, q2⟩ := V
    have g1 : gs n [false] 0 st st1 := vg
    rw [rb_o, q1, am_bds]
    rcases c_readSign E (g1.rd hr) q2 with ⟨e, s2, v, p1, p2, p3⟩ | ⟨s2, p1, p2, p3⟩
    · have he : erK e := by
        unfold aSgn at p1
        split at p1
        · split at p1
          · cases p1
          · cases p1; exact fauK hT _ (by decide)
        · cases p1; exact fauK hT _ (by decide)
      rw [p1, rb_e, p2, am_b2s]
      exact c_61F (s5 := s) E he p3 v
    · rw [p1, rb_o, p2, am_b2s]
      have c4 : kd c T st1.1 = 4 ∧ st1.2.1 < 60 := by
        unfold aSgn at p1
        split at p1
        · rename_i z
          split at p1
          · rename_i y; exact ⟨z, y⟩
          · cases p1
        · cases p1
      have g2 : gs n [false] 1 st (nxt (mor st1)) := (g1.mo c4.2).nx (kd_lt hn1 g1.ix (by show kd c T st1.1 ≠ 0; omega))
      have W := c_readSum E (g2.rd hr) p3
      have wg := aSum_g hT hnT hn1 (st := nxt (mor st1)) g2.ix g2.kx
      cases hw : aSum c T (nxt (mor st1)) with
      | error e =>
        rw [hw] at W wg
        obtain ⟨s3, r1, r2⟩ := W
        obtain ⟨s4, r3, r4⟩ := r2.ad ha (nI (sgn c T (tp c T st1.1))) 0
        rw [rb_e]
        exact ⟨s4, by rw [r1, am_bds, am_ltd, r2.rf hq, am_gdt ha, r3, am_bds], r4⟩
      | ok st3 =>
        rw [hw] at W wg
        obtain ⟨s3, r1, r2⟩ := W
        have g3 : gs n ([false] ++ [false]) 1 st st3 := g2.cm wg
        have ln := g3.ln hr.2.2
        have ix := g3.ix
        obtain ⟨s4, r3, r4⟩ := r2.ad ha (by omega : st3.2.2.length < 400) (sgn c T (tp c T st1.1)) 0
        rw [rb_o]
        exact ⟨s4, by rw [r1, am_bds, am_ltd, r2.rf hq, am_gdt ha, show (0 : Int32) = nI 0 from rfl, r3, am_bds], r4⟩
theorem isJI {w : Nat} (hw : w ≤ 24) : f_X4_isJoint (wnI w) = some (b01 (w = 10 ∨ w = 11)) := by
  have key : ∀ w, w < 25 → f_X4_isJoint (wnI w) = some (b01 (w = 10 ∨ w = 11)) := by decide +kernel
  exact key w (by omega)
theorem wnI_eq {w k : Nat} (hk : k < 24) : wnI w = nI k ↔ w = k := by
  unfold wnI
  by_cases h : w < 24
  · rw [if_pos h, nI_eq (by omega) (by omega)]
  · rw [if_neg h]
    refine ⟨fun z => ?_, fun z => by omega⟩
    have := nI_pos (n := k) (by omega)
    rw [← z] at this
    exact absurd (by decide) this
def eo (o : Bool) (st : PS) : PS := if o then emi 4 0 st else st
theorem c_123 {st : PS} {s : am_S} (E : EN c T n a s0) {o : Bool} (hl : st.2.2.length + (if o then 1 else 0) ≤ 400) (h : CS c T n a s0 st s) : ∃ s2, j_X4_readTest_123 (b01 (o = true)) s = some s2 ∧ CS c T n a s0 (eo o st) s2 := by
  obtain ⟨hT, hnT, hn1, ha, hq⟩ := E
  unfold j_X4_readTest_123 eo
  cases o with
  | false =>
    rw [am_ift (b01_f (by decide))]
    exact ⟨s, rfl, h⟩
  | true =>
    have hl2 : st.2.2.length + 1 ≤ 400 := hl
    rw [am_iff (by rw [b01_t rfl]; decide), am_ltd, h.rf hq, am_gdt ha]
    obtain ⟨s2, r1, r2⟩ := h.ad ha (by omega) 4 0
    exact ⟨s2, by rw [show (0 : Int32) = nI 0 from rfl, r1, am_bds], r2⟩
theorem c_123F {e : Nat} {s : am_S} (E : EN c T n a s0) (v : Int32) (h : CF c T n a s0 e s) : ∃ s2, j_X4_readTest_123 v s = some s2 ∧ CF c T n a s0 e s2 := by
  obtain ⟨hT, hnT, hn1, ha, hq⟩ := E
  unfold j_X4_readTest_123
  by_cases w0 : v = 0
  · rw [am_ift w0]
    exact ⟨s, rfl, h⟩
  · rw [am_iff w0, am_ltd, h.rf hq, am_gdt ha]
    obtain ⟨s2, r1, r2⟩ := h.ad ha (nI 4) 0
    exact ⟨s2, by rw [r1, am_bds], r2⟩
theorem c_tesLF {rf : Int32 → am_S → Option am_S} {d : Int32} {e : Nat} {s : am_S} (E : EN c T n a s0) (he : erK e) (h : CF c T n a s0 e s) (v : Int32) {j F : Nat} (hj : j < 400) : ∃ s2, am_lp (fun (q : Int32 × Int32 × am_S) => b_X4_readTest_9 rf d q.1 q.2.1 q.2.2) (F + 1) (v, nI j, s) = some s2 ∧ CF c T n a s0 e s2 := by
  obtain ⟨s2, r1, r2⟩ := c_123F E v h
  refine ⟨s2, am_lp_inr ?_, r2⟩
  dsimp only
  unfold b_X4_readTest_9
  rw [am_iff (nI_ge hj (by decide)), c_fine, am_bds, am_b0 (h.ne he), r1, am_bds]
theorem gs.l0 {A : List Bool} {b : Bool} {st0 st : PS} (h : gs n (b :: A) 0 st0 st) : st0.1 + 1 ≤ st.1 := by
  obtain ⟨_, h2, _, l, g4, g5, _, g7⟩ := h
  have l0 : 0 < l.length := List.length_pos_iff.mpr (fun z => by
    have := g7 [] (by simp; omega)
    rw [z] at this
    simp [rl] at this)
  omega
theorem c_tesL {rf : Int32 → am_S → Option am_S} {ra : PS → Except Nat PS} {d : Int32} (E : EN c T n a s0) (hg : ∀ st : PS, st.1 ≤ n → st.2.1 ≤ 60 → gE n [true] st (ra st)) (hs : ∀ (st : PS) (s : am_S), rdy n st → CS c T n a s0 st s → CO c T n a s0 (ra st) (rf d s)) : ∀ (f F j : Nat) (o : Bool) (st : PS) (s : am_S), n < st.1 + f → f ≤ F → j < st.1 → rdy n st → st.2.2.length + (if o then 1 else 0) ≤ st.1 → CS c T n a s0 st s → CO c T n a s0 (aTesL c T ra f o st) (am_lp (fun (q : Int32 × Int32 × am_S) => b_X4_readTest_9 rf d q.1 q.2.1 q.2.2) F (b01 (o = true), nI j, s)) := by
  obtain ⟨hT, hnT, hn1, ha, hq⟩ := id E
  intro f
  induction f with
  | zero => intro F j o st s hf _ _ hr; have := hr.1; omega
  | succ f ih =>
    intro F j o st s hf hF hj hr hl h
    have hi := hr.1
    obtain ⟨F, rfl⟩ : ∃ F', F = F' + 1 := ⟨F - 1, by omega⟩
    have wh := c_wordHere h.2.2.2.2.2 (by omega) h.1 hi
    have head : b_X4_readTest_9 rf d (b01 (o = true)) (nI j) s = am_if (b01 (wo c T st.1 = 10 ∨ wo c T st.1 = 11) = 0) (am_bd (j_X4_readTest_123 (b01 (o = true)) s) (fun e42 => some (Sum.inr e42))) (am_if (wnI (wo c T st.1) = (nI 10)) (j_X4_readTest_56 rf d (1 : Int32) (b01 (o = true)) (nI j) s) (j_X4_readTest_56 rf d (0 : Int32) (b01 (o = true)) (nI j) s)) := by
      unfold b_X4_readTest_9
      rw [am_iff (nI_ge (by omega) (by decide)), c_fine, am_bds, am_b1 h.2.1, wh, am_bds, isJI (wd_le _), am_bds, am_bds]
    rw [aTesL]
    by_cases c1 : wo c T st.1 = 10
    · rw [if_pos c1]
      have lt := wo_lt hn1 hi (by omega)
      obtain ⟨s1, r1, r2⟩ := c_123 E (o := o) (by omega) h
      have ei : (eo o st).1 = st.1 ∧ (eo o st).2.1 = st.2.1 := by cases o <;> exact ⟨rfl, rfl⟩
      have el : (eo o st).2.2.length ≤ st.1 := by
        cases o with
        | false => exact hr.2.2
        | true =>
          show (st.2.2 ++ [(4, 0)]).length ≤ st.1
          rw [List.length_append]
          exact hl
      have r3 := r2.stp ha ((eo o st).1 + 1)
      have rd3 : rdy n (nxt (eo o st)) := ⟨by show (eo o st).1 + 1 ≤ n; omega, by show (eo o st).2.1 ≤ 60; rw [ei.2]; exact hr.2.1, by show (eo o st).2.2.length ≤ (eo o st).1 + 1; omega⟩
      have V := hs _ _ rd3 r3
      have vg := hg _ rd3.1 rd3.2.1
      have st1 : f_X7_step s1 = some (as_i s1 2 4 (nI ((eo o st).1 + 1))) := tk_step r2.2.2.2.2.2 (by omega) r2.1 (by omega)
      have body : b_X4_readTest_9 rf d (b01 (o = true)) (nI j) s = am_bd (rf d (as_i s1 2 4 (nI ((eo o st).1 + 1)))) (fun s17 => some (.inl (b01 (true = true), nI (j + 1), s17))) := by
        rw [head, am_b1 (Or.inl c1), am_ift ((wnI_eq (by decide)).mpr c1)]
        have k90 : ∀ x : am_S, j_X4_readTest_90 rf d 1 (nI j) 1 x = am_bd (f_X7_step x) (fun s16 => am_bd (rf d s16) (fun s17 => some (.inl (b01 (true = true), nI (j + 1), s17)))) := fun x => by
          unfold j_X4_readTest_90
          have e1 : ¬ (1 : Int32) = 0 := by decide
          congr 1
          funext s16
          congr 1
          funext s17
          rw [am_iff e1, am_ltd, nI_1, b01_t rfl]
        unfold j_X4_readTest_56 j_X4_readTest_76
        unfold j_X4_readTest_123 at r1
        cases o with
        | false =>
          rw [am_ift (b01_f (by decide))] at r1
          rw [am_iff (by decide), am_ift (b01_f (by decide)), am_ift (b01_f (by decide)), am_iff (by decide), k90]
          rw [Option.some.injEq] at r1
          rw [r1, st1, am_bds]
        | true =>
          have t1 : ¬ b01 ((true : Bool) = true) = 0 := by rw [b01_t rfl]; decide
          rw [am_iff t1, am_ltd, h.rf hq, am_gdt ha] at r1
          rw [am_iff (by decide), am_iff t1, am_ltd, h.rf hq, am_gdt ha]
          obtain ⟨y, y1, y2⟩ := am_bdE r1
          rw [Option.some.injEq] at y2
          rw [y1, am_bds, am_iff t1, k90, y2, st1, am_bds]
      have eq : (if o then emi 4 0 st else st) = eo o st := rfl
      rw [eq]
      cases hv : ra (nxt (eo o st)) with
      | error e =>
        rw [hv] at V vg
        obtain ⟨s2, q1, q2⟩ := V
        have hstep : (fun (q : Int32 × Int32 × am_S) => b_X4_readTest_9 rf d q.1 q.2.1 q.2.2) (b01 (o = true), nI j, s) = some (.inl (b01 (true = true), nI (j + 1), s2)) := by
          dsimp only
          rw [body, q1, am_bds]
        rw [rb_e, am_lp_inl hstep]
        obtain ⟨F, rfl⟩ : ∃ F', F = F' + 1 := ⟨F - 1, by omega⟩
        exact c_tesLF E vg q2 _ (by omega)
      | ok st2 =>
        rw [hv] at V vg
        obtain ⟨s2, q1, q2⟩ := V
        have hstep : (fun (q : Int32 × Int32 × am_S) => b_X4_readTest_9 rf d q.1 q.2.1 q.2.2) (b01 (o = true), nI j, s) = some (.inl (b01 (true = true), nI (j + 1), s2)) := by
          dsimp only
          rw [body, q1, am_bds]
        rw [rb_o, am_lp_inl hstep]
        have g2 : gs n [true] 0 (nxt (eo o st)) st2 := vg
        have u2 : (eo o st).1 + 1 + 1 ≤ st2.1 := g2.l0
        refine ih F (j + 1) true st2 s2 (by omega) (by omega) (by omega) (g2.rd rd3) ?_ q2
        obtain ⟨_, _, _, l, g4, g5, _, _⟩ := g2
        have e1 : st2.2.2.length = (eo o st).2.2.length + l.length := by
          have : st2.2.2 = (eo o st).2.2 ++ l := g4
          rw [this, List.length_append]
        have e2 : l.length + ((eo o st).1 + 1) ≤ st2.1 := by simpa [nxt] using g5
        show st2.2.2.length + 1 ≤ st2.1
        omega
    · rw [if_neg c1]
      by_cases c2 : wo c T st.1 = 11
      · rw [if_pos c2]
        have lt := wo_lt hn1 hi (by omega)
        have r3 := h.stp ha (st.1 + 1)
        have rd3 : rdy n (nxt st) := ⟨lt, hr.2.1, by show st.2.2.length ≤ st.1 + 1; have := hr.2.2; omega⟩
        have V := hs _ _ rd3 r3
        have vg := hg _ rd3.1 rd3.2.1
        have st1 : f_X7_step s = some (as_i s 2 4 (nI (st.1 + 1))) := tk_step h.2.2.2.2.2 (by omega) h.1 lt
        have body : b_X4_readTest_9 rf d (b01 (o = true)) (nI j) s = am_bd (rf d (as_i s 2 4 (nI (st.1 + 1)))) (fun s17 => am_lt s17.2.2.2 (fun q19 => am_gd (q19 ∈ am_isR) (am_bd (f_X3_addStep q19 (nI 3) (0 : Int32) s17) (fun s20 => some (.inl (b01 (o = true), nI (j + 1), s20)))))) := by
          rw [head, am_b1 (Or.inr c2), am_iff (fun z => c1 ((wnI_eq (by decide)).mp z))]
          have k90 : ∀ u : Int32, j_X4_readTest_90 rf d u (nI j) 0 s = am_bd (rf d (as_i s 2 4 (nI (st.1 + 1)))) (fun s17 => am_lt s17.2.2.2 (fun q19 => am_gd (q19 ∈ am_isR) (am_bd (f_X3_addStep q19 (nI 3) (0 : Int32) s17) (fun s20 => some (.inl (u, nI (j + 1), s20)))))) := fun u => by
            unfold j_X4_readTest_90
            rw [st1, am_bds]
            congr 1
            funext s17
            rw [am_ift rfl]
            congr 1
            funext q19
            congr 2
            funext s20
            rw [am_ltd, nI_1]
          unfold j_X4_readTest_56 j_X4_readTest_76
          rw [am_ift rfl]
          cases o with
          | false =>
            rw [am_ift (b01_f (by decide)), am_ift rfl, k90, b01_f (by decide)]
          | true =>
            have t1 : ¬ b01 ((true : Bool) = true) = 0 := by rw [b01_t rfl]; decide
            rw [am_iff t1, k90, b01_t rfl]
        cases hv : ra (nxt st) with
        | error e =>
          rw [hv] at V vg
          obtain ⟨s2, q1, q2⟩ := V
          obtain ⟨s3, q3, q4⟩ := q2.ad ha (nI 3) 0
          have hstep : (fun (q : Int32 × Int32 × am_S) => b_X4_readTest_9 rf d q.1 q.2.1 q.2.2) (b01 (o = true), nI j, s) = some (.inl (b01 (o = true), nI (j + 1), s3)) := by
            dsimp only
            rw [body, q1, am_bds, am_ltd, q2.rf hq, am_gdt ha, q3, am_bds]
          rw [rb_e, am_lp_inl hstep]
          obtain ⟨F, rfl⟩ : ∃ F', F = F' + 1 := ⟨F - 1, by omega⟩
          exact c_tesLF E vg q4 _ (by omega)
        | ok st2 =>
          rw [hv] at V vg
          obtain ⟨s2, q1, q2⟩ := V
          have g2 : gs n [true] 0 (nxt st) st2 := vg
          have u2 : st.1 + 1 + 1 ≤ st2.1 := g2.l0
          obtain ⟨_, _, _, l, g4, g5, _, _⟩ := id g2
          have e1 : st2.2.2.length = st.2.2.length + l.length := by
            have : st2.2.2 = st.2.2 ++ l := g4
            rw [this, List.length_append]
          have e2 : l.length + (st.1 + 1) ≤ st2.1 := by simpa [nxt] using g5
          have i2 := g2.ix
          have hl' := hr.2.2
          obtain ⟨s3, q3, q4⟩ := q2.ad ha (by omega : st2.2.2.length < 400) 3 0
          have hstep : (fun (q : Int32 × Int32 × am_S) => b_X4_readTest_9 rf d q.1 q.2.1 q.2.2) (b01 (o = true), nI j, s) = some (.inl (b01 (o = true), nI (j + 1), s3)) := by
            dsimp only
            rw [body, q1, am_bds, am_ltd, q2.rf hq, am_gdt ha, show (0 : Int32) = nI 0 from rfl, q3, am_bds]
          rw [rb_o, am_lp_inl hstep]
          have len : (emi 3 0 st2).2.2.length = st2.2.2.length + 1 := by
            show (st2.2.2 ++ [(3, 0)]).length = _
            rw [List.length_append]
            rfl
          refine ih F (j + 1) o (emi 3 0 st2) s3 (show n < st2.1 + f by omega) (by omega) (show j + 1 < st2.1 by omega) ⟨i2, g2.kx, ?_⟩ ?_ q4
          · rw [len]
            show _ ≤ st2.1
            omega
          · rw [len]
            show _ ≤ st2.1
            omega
      · rw [if_neg c2]
        obtain ⟨s1, r1, r2⟩ := c_123 E (o := o) (by omega) h
        refine ⟨s1, am_lp_inr ?_, r2⟩
        dsimp only
        rw [head, am_b0 (by omega), r1, am_bds]
theorem c_tes {rf : Int32 → am_S → Option am_S} {ra : PS → Except Nat PS} {d : Int32} (E : EN c T n a s0) (hg : ∀ st : PS, st.1 ≤ n → st.2.1 ≤ 60 → gE n [true] st (ra st)) (hs : ∀ (st : PS) (s : am_S), rdy n st → CS c T n a s0 st s → CO c T n a s0 (ra st) (rf d s)) {st : PS} {s : am_S} (hr : rdy n st) (h : CS c T n a s0 st s) : CO c T n a s0 (aTes c T ra st) (f_X4_readTest rf d s) := by
  obtain ⟨hT, hnT, hn1, ha, hq⟩ := id E
  have e4 : am_F = 4000 := rfl
  have V := hs _ _ hr h
  have vg := hg st hr.1 hr.2.1
  unfold aTes f_X4_readTest
  cases hv : ra st with
  | error e =>
    rw [hv] at V vg
    obtain ⟨s2, q1, q2⟩ := V
    rw [rb_e, q1, am_bds]
    exact c_tesLF E vg q2 _ (j := 0) (by omega)
  | ok st2 =>
    rw [hv] at V vg
    obtain ⟨s2, q1, q2⟩ := V
    have g2 : gs n [true] 0 st st2 := vg
    rw [rb_o, q1, am_bds]
    have := c_tesL E hg hs 401 am_F 0 false st2 s2 (by omega) (by omega) (by have := g2.l0; omega) (g2.rd hr) (g2.ln hr.2.2) q2
    rw [b01_f (by decide)] at this
    exact this
theorem c_fac (E : EN c T n a s0) : ∀ (g : Nat), g ≤ 10 → ∀ (st : PS) (s : am_S), rdy n st → CS c T n a s0 st s → CO c T n a s0 (aFac c T g st) (f_X4_rf (g + 2) (nI (10 - g)) s) := by
  obtain ⟨hT, hnT, hn1, ha, hq⟩ := id E
  have wh := fun (st : PS) (s : am_S) (hr : rdy n st) (h : CS c T n a s0 st s) => c_wordHere h.2.2.2.2.2 (by omega) h.1 hr.1
  have bh := fun (st : PS) (s : am_S) (hr : rdy n st) (h : CS c T n a s0 st s) => c_isByte h.2.2.2.2.2 (by omega) h.1 hr.1 plBs.2.2.2.2.2.1
  have cmp : ∀ (rf rt : Int32 → am_S → Option am_S) (p : Int32) (st : PS) (s : am_S), rdy n st → CS c T n a s0 st s → ¬ wo c T st.1 = 12 → ¬ bt c T st.1 91 → CO c T n a s0 (aCmp c T st) (f_X4_readFact rf rt p s) := fun rf rt p st s hr h z1 z2 => by
    unfold f_X4_readFact
    rw [wh st s hr h, am_bds, am_iff (fun z => z1 ((wnI_eq (by decide)).mp z))]
    unfold j_X4_readFact_17
    rw [am_ift rfl, bh st s hr h, am_bds, am_b0 z2]
    unfold j_X4_readFact_39 j_X4_readFact_61
    rw [am_ift rfl, am_ift rfl, am_ift rfl]
    exact c_cmp E hr h
  intro g
  induction g with
  | zero =>
    intro _ st s hr h
    rw [aFac]
    show CO c T n a s0 _ (f_X4_readFact (f_X4_rf 1) (f_X4_readTest (f_X4_rf 1)) (nI 10) s)
    by_cases z : wo c T st.1 = 12 ∨ bt c T st.1 91
    · rw [if_pos z]
      obtain ⟨s2, r1, r2⟩ := h.fl ha (by omega) hr.1 (by have := hr.2.2; have := hr.1; omega) 2
      refine ⟨s2, ?_, r2⟩
      unfold f_X4_readFact
      rw [wh st s hr h, am_bds]
      have k39 : ∀ v, j_X4_readFact_39 (f_X4_rf 1) (f_X4_readTest (f_X4_rf 1)) (nI 10) 1 v s = some s2 := fun v => by
        unfold j_X4_readFact_39
        rw [am_iff (by decide), am_iff (by decide), r1, am_bds]
      by_cases z1 : wo c T st.1 = 12
      · rw [am_ift ((wnI_eq (by decide)).mpr z1)]
        unfold j_X4_readFact_17
        rw [am_iff (by decide), k39]
      · have z2 : bt c T st.1 91 := by
          rcases z with y | y
          · exact absurd y z1
          · exact y
        rw [am_iff (fun y => z1 ((wnI_eq (by decide)).mp y))]
        unfold j_X4_readFact_17
        rw [am_ift rfl, bh st s hr h, am_bds, am_b1 z2, k39]
    · rw [if_neg z]
      exact cmp _ _ _ st s hr h (fun y => z (Or.inl y)) (fun y => z (Or.inr y))
  | succ g ih =>
    intro hg st s hr h
    rw [aFac]
    show CO c T n a s0 _ (f_X4_readFact (f_X4_rf (g + 2)) (f_X4_readTest (f_X4_rf (g + 2))) (nI (10 - (g + 1))) s)
    have d1 : nI (10 - (g + 1)) + 1 = nI (10 - g) := by rw [nI_1]; congr 1; omega
    have dl : nI (10 - (g + 1)) < nI 10 := nI_lt (by omega) (by decide)
    have ih' := ih (by omega)
    by_cases z1 : wo c T st.1 = 12
    · rw [if_pos z1]
      have lt := wo_lt hn1 hr.1 (show wo c T st.1 < 24 by omega)
      have r3 := h.stp ha (st.1 + 1)
      have rd3 : rdy n (nxt st) := ⟨lt, hr.2.1, by show st.2.2.length ≤ st.1 + 1; have := hr.2.2; omega⟩
      have V := ih' _ _ rd3 r3
      have vg := aFac_g hT hnT hn1 g _ rd3.1 rd3.2.1
      have body : f_X4_readFact (f_X4_rf (g + 2)) (f_X4_readTest (f_X4_rf (g + 2))) (nI (10 - (g + 1))) s = am_bd (f_X4_rf (g + 2) (nI (10 - g)) (as_i s 2 4 (nI (st.1 + 1)))) (fun s16 => am_lt s16.2.2.2 (fun q17 => am_gd (q17 ∈ am_isR) (am_bd (f_X3_addStep q17 (nI 2) (0 : Int32) s16) (fun s18 => some s18)))) := by
        unfold f_X4_readFact
        rw [wh st s hr h, am_bds, am_ift ((wnI_eq (by decide)).mpr z1)]
        unfold j_X4_readFact_17
        rw [am_iff (by decide)]
        unfold j_X4_readFact_39
        rw [am_iff (by decide), am_ift dl]
        unfold j_X4_readFact_61
        rw [am_iff (by decide), tk_step h.2.2.2.2.2 (by omega) h.1 lt, am_bds, d1]
      rw [body]
      cases hv : aFac c T g (nxt st) with
      | error e =>
        rw [hv] at V vg
        obtain ⟨s2, q1, q2⟩ := V
        obtain ⟨s3, q3, q4⟩ := q2.ad ha (nI 2) 0
        rw [rb_e]
        exact ⟨s3, by rw [q1, am_bds, am_ltd, q2.rf hq, am_gdt ha, q3, am_bds], q4⟩
      | ok st2 =>
        rw [hv] at V vg
        obtain ⟨s2, q1, q2⟩ := V
        have g2 : gs n [true] 0 (nxt st) st2 := vg
        have g3 : gs n [true] 1 st st2 := by
          have := ((gs.rf hr.1 hr.2.1).nx lt).cm g2
          exact this
        have ln := g3.ln hr.2.2
        have ix := g3.ix
        obtain ⟨s3, q3, q4⟩ := q2.ad ha (by omega : st2.2.2.length < 400) 2 0
        rw [rb_o]
        exact ⟨s3, by rw [q1, am_bds, am_ltd, q2.rf hq, am_gdt ha, show (0 : Int32) = nI 0 from rfl, q3, am_bds], q4⟩
    · rw [if_neg z1]
      by_cases z2 : bt c T st.1 91
      · rw [if_pos z2]
        have lt := bt_lt hn1 hr.1 z2
        have r3 := h.stp ha (st.1 + 1)
        have rd3 : rdy n (nxt st) := ⟨lt, hr.2.1, by show st.2.2.length ≤ st.1 + 1; have := hr.2.2; omega⟩
        have V := c_tes E (aFac_g hT hnT hn1 g) ih' rd3 r3
        have vg := aTes_g hT hnT hn1 (aFac_g hT hnT hn1 g) (st := nxt st) rd3.1 rd3.2.1
        have body : f_X4_readFact (f_X4_rf (g + 2)) (f_X4_readTest (f_X4_rf (g + 2))) (nI (10 - (g + 1))) s = am_bd (f_X4_readTest (f_X4_rf (g + 2)) (nI (10 - g)) (as_i s 2 4 (nI (st.1 + 1)))) (fun s12 => am_bd (f_X4_readClosing s12) (fun s13 => some s13)) := by
          unfold f_X4_readFact
          rw [wh st s hr h, am_bds, am_iff (fun y => z1 ((wnI_eq (by decide)).mp y))]
          unfold j_X4_readFact_17
          rw [am_ift rfl, bh st s hr h, am_bds, am_b1 z2]
          unfold j_X4_readFact_39
          rw [am_iff (by decide), am_ift dl]
          unfold j_X4_readFact_61
          rw [am_ift rfl, am_iff (by decide), tk_step h.2.2.2.2.2 (by omega) h.1 lt, am_bds, d1]
        rw [body]
        cases hv : aTes c T (aFac c T g) (nxt st) with
        | error e =>
          rw [hv] at V vg
          obtain ⟨s2, q1, q2⟩ := V
          obtain ⟨i, hi, h4⟩ := q2.2.1
          rw [rb_e, q1, am_bds]
          unfold f_X4_readClosing
          rw [c_isByte q2.2.2.2.2 (by omega) h4 hi plBs.2.2.2.2.2.2.1, am_bds]
          by_cases y : bt c T i 93
          · obtain ⟨j, j1, j2⟩ := tk_stepF q2.2.2.2.2 (by omega) h4 hi
            rw [am_b1 y, j2, am_bds, am_bds]
            have r := isR_r a ha
            obtain ⟨k1, k2, ⟨L, k3, k4⟩, k5, k6⟩ := q2
            refine ⟨_, rfl, ?_, ⟨j, j1, as_i3⟩, ⟨L, k3, ?_⟩, k5.ti (Or.inl ⟨rfl, Or.inl rfl⟩), k6.f2 (frm.i s2 ⟨rfl, Or.inl rfl⟩)⟩
            · rw [as_i2 (by decide)]; exact k1
            · rw [as_i1 (by omega)]; exact k4
          · rw [am_b0 y, c_failF (q2.ne vg), am_bds, am_bds]
            exact ⟨s2, rfl, q2⟩
        | ok st2 =>
          rw [hv] at V vg
          obtain ⟨s2, q1, q2⟩ := V
          have g2 : gs n [true] 0 (nxt st) st2 := vg
          have rd2 := g2.rd rd3
          rw [rb_o, q1, am_bds]
          unfold aClo f_X4_readClosing
          rw [c_isByte q2.2.2.2.2.2 (by omega) q2.1 rd2.1 plBs.2.2.2.2.2.2.1, am_bds]
          by_cases y : bt c T st2.1 93
          · rw [if_pos y, am_b1 y, tk_step q2.2.2.2.2.2 (by omega) q2.1 (bt_lt hn1 rd2.1 y), am_bds, am_bds]
            exact ⟨_, rfl, q2.stp ha (st2.1 + 1)⟩
          · rw [if_neg y, am_b0 y]
            obtain ⟨s3, r1, r2⟩ := q2.fl ha (by omega) rd2.1 (by have := rd2.2.2; have := rd2.1; omega) 0
            rw [show (0 : Int32) = nI 0 from rfl, r1, am_bds, am_bds]
            exact ⟨s3, rfl, r2⟩
      · rw [if_neg z2]
        exact cmp _ _ _ st s hr h z1 z2
theorem c_top (E : EN c T n a s0) {st : PS} {s : am_S} (hr : rdy n st) (h : CS c T n a s0 st s) : CO c T n a s0 (aTop c T st) (f_X4_rT 0 s) := c_tes E (aFac_g E.1 E.2.1 E.2.2.1 10) (fun st s => c_fac E 10 (by decide) st s) hr h
end CG
