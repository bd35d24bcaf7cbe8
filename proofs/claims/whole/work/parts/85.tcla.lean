/-! a clause of a town, in both -/
section TX6
variable {c : Nat → Int32} {T n : Nat}
def STT (c : Nat → Int32) (T n j i : Nat) (s y : am_S) : Prop := TC c T n i s ∧ TD c T i y ∧ i ≤ n ∧ y.1 248 14 = nI j ∧ y.1 248 11 = nI 6 ∧ ((j = 0 ∧ T00 (y.1 254) s) ∨ (0 < j ∧ ∃ F O P S I H C, 0 < F ∧ TWN (y.1 254) F O P S I H C ∧ dC (y.1 254) s F O P S I H))
def TE (n : Nat) (s0 y0 : am_S) (rc : Option am_S) (rm : Option (Int32 × am_S)) : Prop := ∃ e s2 y2, erK e ∧ rc = some s2 ∧ rm = some ((0 : Int32), y2) ∧ s2.1 2 5 = nI e ∧ (∃ j, j ≤ n ∧ s2.1 2 4 = nI j) ∧ y2.1 248 9 = nI e ∧ frm PTn s0 s2 ∧ frm PX y0 y2
def TG (c : Nat → Int32) (T n j i : Nat) (s0 y0 : am_S) (rc : Option am_S) (rm : Option (Int32 × am_S)) : Prop := TE n s0 y0 rc rm ∨ (j < 40 ∧ ∃ i2 s2 y2, rc = some s2 ∧ rm = some ((1 : Int32), y2) ∧ STT c T n (j + 1) i2 s2 y2 ∧ i + 1 ≤ i2 ∧ frm PTn s0 s2 ∧ frm PX y0 y2)
theorem m_townW {x : am_S} {p : Nat} (h : tx c T x) (hT : T ≤ 400) (hp : p ≤ T) (hs : sk c T p = p) (h8 : x.1 248 8 = nI p) : f_X12_isTownWord x = some (b01 (wd c T p < 8), x) := by
  have iw := m_iw h hT hp hs h8
  have j45 : ∀ b : Prop, ∀ _ : Decidable b, (b ↔ wd c T p < 4) → j_X12_isTownWord_45 (b01 b) x = some (b01 (wd c T p < 8), x) := fun b _ hb => by
    unfold j_X12_isTownWord_45
    by_cases z : b
    · rw [am_b1 z, b01_t (show wd c T p < 8 by have := hb.mp z; omega)]
    · have z4 : ¬ wd c T p < 4 := fun y => z (hb.mpr y)
      rw [am_b0 z, iw 4 26982 (by decide) rfl, am_b2s]
      by_cases a4 : wd c T p = 4
      · rw [am_b1 a4, b01_t (by omega)]
      · rw [am_b0 a4, iw 5 1751216749 (by decide) rfl, am_b2s]
        by_cases a5 : wd c T p = 5
        · rw [am_b1 a5, b01_t (by omega)]
        · rw [am_b0 a5, iw 6 426953501796 (by decide) rfl, am_b2s]
          by_cases a6 : wd c T p = 6
          · rw [am_b1 a6, b01_t (by omega)]
          · rw [am_b0 a6, iw 7 27988560030557044 (by decide) rfl, am_b2s]
            by_cases a7 : wd c T p = 7
            · rw [am_b1 a7, b01_t (by omega)]
            · rw [am_b0 a7, b01_f (by omega)]
  have jt : wd c T p < 4 → j_X12_isTownWord_45 (1 : Int32) x = some (b01 (wd c T p < 8), x) := fun z => by
    have := j45 True inferInstance ⟨fun _ => z, fun _ => trivial⟩
    rw [b01_t trivial] at this
    exact this
  have jf : ¬ wd c T p < 4 → j_X12_isTownWord_45 (0 : Int32) x = some (b01 (wd c T p < 8), x) := fun z => by
    have := j45 False inferInstance ⟨fun y => y.elim, fun y => absurd y z⟩
    rw [b01_f (fun y => y)] at this
    exact this
  unfold f_X12_isTownWord
  rw [iw 0 439720572019 (by decide) rfl, am_b2s]
  by_cases a0 : wd c T p = 0
  · rw [am_b1 a0, jt (by omega)]
  · rw [am_b0 a0, iw 1 123581014175598 (by decide) rfl, am_b2s]
    by_cases a1 : wd c T p = 1
    · rw [am_b1 a1, jt (by omega)]
    · rw [am_b0 a1, iw 2 500136506228 (by decide) rfl, am_b2s]
      by_cases a2 : wd c T p = 2
      · rw [am_b1 a2, jt (by omega)]
      · rw [am_b0 a2, iw 3 126943972648308 (by decide) rfl, am_b2s]
        by_cases a3 : wd c T p = 3
        · rw [am_b1 a3, jt (by omega)]
        · rw [am_b0 a3, jf (by omega)]
theorem gdw {v : Int32} {y : am_S} {rm : Option (Int32 × am_S)} (h : rm = some (v, y)) (hv : v = 0 ∨ v = 1) : am_b2 rm (fun v s => am_gd (v = 0 ∨ v = 1) (some (v, s))) = some (v, y) := by rw [h, am_b2s, am_gdt hv]
theorem wnI_lt {w : Nat} (hw : w ≤ 24) : (wnI w < 0 ↔ w = 24) ∧ (w < 24 → wnI w = nI w) := by
  unfold wnI
  by_cases h : w < 24
  · rw [if_pos h]
    exact ⟨⟨fun z => absurd z (nI_pos (by omega)), fun z => by omega⟩, fun _ => rfl⟩
  · rw [if_neg h]
    exact ⟨⟨fun _ => by omega, fun _ => by decide⟩, fun z => absurd z h⟩
theorem tw_clause {j i : Nat} {s y : am_S} (hT : T ≤ 400) (hnT : n ≤ T) (hn1 : tp c T n = T) (hj : j ≤ 40) (h : STT c T n j i s y) : TG c T n j i s y (f_X9_readClause (nI j) s) (f_X12_clauseHere y) := by
  obtain ⟨hs, hy, hi, h14, h11, hst⟩ := h
  obtain ⟨g1, g2⟩ := hy.see hT
  have hyt := hy.2.2
  -- the reference stands at the token
  generalize hx : as_i y 248 8 (nI (tp c T i)) = x at *
  have x8 : x.1 248 8 = nI (tp c T i) := by rw [← hx, as_i3]
  have x14 : x.1 248 14 = nI j := by rw [← hx, as_i2 (by decide)]; exact h14
  have x11 : x.1 248 11 = nI 6 := by rw [← hx, as_i2 (by decide)]; exact h11
  have x54 : x.1 254 = y.1 254 := by rw [← hx, as_i1 (by decide)]
  have fx : frm PX y x := by rw [← hx]; exact frm.i y (Or.inl (Or.inl ⟨rfl, Or.inl rfl⟩))
  have wh := c_wordHere hs.2.2 (by omega) hs.1 hi
  have w24 := wd_le (c := c) (T := T) (tp c T i)
  obtain ⟨wn1, wn2⟩ := wnI_lt w24
  have mh : f_X12_clauseHere y = am_if (b01 (wd c T (tp c T i) < 8) = 0) (j_X12_clauseHere_59 (nI (tp c T i)) x) (j_X12_clauseHere_81 (nI 40) (nI j) (nI (tp c T i)) 1 x) := by
    unfold f_X12_clauseHere j_X12_clauseHere_24
    rw [g1, am_b2s, x8, am_ltd, x11, am_ift rfl, am_iff (by decide), m_townW g2.2.2 hT (tp_le _) (tp_sk hT i) x8, am_b2s]
    unfold j_X12_clauseHere_66
    rw [am_iff (show ¬ (1 : Int32) = 0 by decide), x14]
  rw [mh]
  unfold f_X9_readClause
  rw [wh, am_bds]
  have cfl : ∀ k, k ≤ 4 → f_X7_fail (nI k) s = some (as_i s 2 5 (nI (fau c T i k))) := fun k hk => c_fail hs.2.2 (by omega) hs.1 hi hs.2.1
  have err : ∀ k, k ≤ 4 → ∀ rc rm, ∀ z : am_S, frm PX y z → z.1 248 9 = 0 → rc = some (as_i s 2 5 (nI (fau c T i k))) → rm = some ((0 : Int32), as_i z 248 9 (nI (fau c T i k))) → TG c T n j i s y rc rm := fun k hk rc rm z fz h9 h1 h2 => by
    left
    exact ⟨fau c T i k, _, _, fauK hT i hk, h1, h2, as_i3, ⟨i, hi, by rw [as_i2 (by decide)]; exact hs.1⟩, as_i3, frm.i s PT25, fz.ti (Or.inl (Or.inl ⟨rfl, Or.inr (Or.inl rfl)⟩))⟩
  have mfl : ∀ k (z : am_S), z.1 248 9 = 0 → f_X12_fails (nI k) (nI (tp c T i)) z = some ((0 : Int32), as_i z 248 9 (nI (fau c T i k))) := fun k z h9 => m_fails0 h9
  by_cases w8 : wd c T (tp c T i) < 8
  · have wI' := wn2 (by omega)
    have w8o : wo c T i < 8 := w8
    rw [wI', am_iff (nI_pos (by omega)), am_ift (show nI (wo c T i) ≤ nI 7 from nI_le (by omega) (by decide)), am_b1 w8]
    have lt : i < n := wo_lt hn1 hi (show wo c T i < 24 by omega)
    have aw := (atW_wd (c := c) (T := T) (p := tp c T i) (show wd c T (tp c T i) < 24 by omega)).mpr rfl
    by_cases j40 : j = 40
    · rw [am_ift (show nI 40 ≤ nI j from nI_le (by omega) (by omega))]
      unfold j_X9_readClause_44 j_X12_clauseHere_81
      refine err 4 (by decide) _ _ x fx g2.2.1 (by rw [cfl 4 (by decide), am_bds]) ?_
      rw [am_ift (by rw [j40]), mfl 4 x g2.2.1, am_b2s, am_gdt (Or.inl rfl)]
    · rw [am_iff (show ¬ nI 40 ≤ nI j from nI_ge (by omega) (by decide))]
      -- one clause more
      generalize hz : as_i x 248 14 (nI (j + 1)) = z
      have z8 : z.1 248 8 = nI (tp c T i) := by rw [← hz, as_i2 (by decide)]; exact x8
      have z9 : z.1 248 9 = 0 := by rw [← hz, as_i2 (by decide)]; exact g2.2.1
      have z14 : z.1 248 14 = nI (j + 1) := by rw [← hz, as_i3]
      have z11 : z.1 248 11 = nI 6 := by rw [← hz, as_i2 (by decide)]; exact x11
      have z54 : z.1 254 = y.1 254 := by rw [← hz, as_i1 (by decide)]; exact x54
      have ztx : tx c T z := by rw [← hz]; exact g2.2.2.i 248 14 _ (by decide)
      have fz : frm PX y z := by rw [← hz]; exact fx.ti (Or.inr ⟨rfl, rfl⟩)
      have iw := m_iw ztx hT (tp_le _) (tp_sk hT i) z8
      have m81 : j_X12_clauseHere_81 (nI 40) (nI j) (nI (tp c T i)) 1 x = am_b2 (f_X12_townLineHere (nI (tp c T i)) z) (fun v15 s16 => am_gd (v15 = 0 ∨ v15 = 1) (some (v15, s16))) := by
        unfold j_X12_clauseHere_81
        rw [am_iff (by rw [nI_eq (by omega) (by decide)]; exact j40), x14, nI_1, am_ltd, hz, am_iff (by decide)]
      -- the word gone by
      have pw := m_passWord ztx hT (tp_le _) z8
      have we : wE c T (tp c T i) = en c T (tp c T i) := by unfold wE; rw [if_pos ⟨aw.1, aw.2.1⟩]
      rw [we] at pw
      have hy1 : TD c T (i + 1) (as_i z 248 8 (nI (en c T (tp c T i)))) := ⟨⟨_, en_le aw.1, as_i3, tp_nx aw.1⟩, by rw [as_i2 (by decide)]; exact z9, ztx.i 248 8 _ (by decide)⟩
      generalize hu : as_i z 248 8 (nI (en c T (tp c T i))) = u at *
      have u54 : u.1 254 = y.1 254 := by rw [← hu, as_i1 (by decide)]; exact z54
      have fu : frm PX y u := by rw [← hu]; exact fz.ti (Or.inl (Or.inl ⟨rfl, Or.inl rfl⟩))
      have u14 : u.1 248 14 = nI (j + 1) := by rw [← hu, as_i2 (by decide)]; exact z14
      have u11 : u.1 248 11 = nI 6 := by rw [← hu, as_i2 (by decide)]; exact z11
      have hs1 : TC c T n (i + 1) (as_i s 2 4 (nI (i + 1))) := ⟨as_i3, by rw [as_i2 (by decide)]; exact hs.2.1, hs.2.2.f2 (frm.i s ⟨rfl, Or.inl rfl⟩)⟩
      have stp := tk_step hs.2.2 (by omega) hs.1 lt
      have s6 : ∀ b, b ≠ 2 → (as_i s 2 4 (nI (i + 1))).1 b = s.1 b := fun b hb => as_i1 hb
      rw [m81]
      -- what a clause gives
      have wrap : ∀ rm rc rm0, OUT c T n (as_i s 2 4 (nI (i + 1))) u (i + 1) rc rm → (∀ r, rm = some r → (r.1 = 0 ∨ r.1 = 1) → rm0 = some r) → TG c T n j i s y rc rm0 := fun rm rc rm0 o hr => by
        rcases o with ⟨e, s2, y2, k1, k2, k3, k4, k5, k6, k7, k8⟩ | ⟨i2, s2, y2, F, O, P, S, I, H, C, k1, k2, k3, k4, k5, k6, k7, k8, k9, ka, kb⟩
        · left
          exact ⟨e, s2, y2, k1, k2, hr _ k3 (Or.inl rfl), k4, k5, k6, (frm.i s PT24).tr k7, fu.tr (k8.mo (fun _ _ z => Or.inl z))⟩
        · right
          exact ⟨by omega, i2, s2, y2, k1, hr _ k2 (Or.inr rfl), ⟨k3, k4, k6, by rw [kb.1 248 14 (by unfold PWn; omega)]; exact u14, by rw [kb.1 248 11 (by unfold PWn; omega)]; exact u11, Or.inr ⟨by omega, F, O, P, S, I, H, C, k7, k8, k9⟩⟩, k5, (frm.i s PT24).tr ka, fu.tr (kb.mo (fun _ _ z => Or.inl z))⟩
      have gg : ∀ rm (r : Int32 × am_S), rm = some r → (r.1 = 0 ∨ r.1 = 1) → am_b2 (am_b2 rm (fun v s => am_gd (v = 0 ∨ v = 1) (some (v, s)))) (fun v15 s16 => am_gd (v15 = 0 ∨ v15 = 1) (some (v15, s16))) = some r := fun rm r h1 h2 => by
        obtain ⟨v, q⟩ := r
        rw [h1, am_b2s, am_gdt h2, am_b2s, am_gdt h2]
      have e4 : ∀ q : am_S, q.1 248 9 = 0 → am_b2 (am_b2 (am_b2 (f_X12_fails (nI 4) (nI (tp c T i)) q) (fun v4 s5 => am_gd (v4 = 0 ∨ v4 = 1) (some (v4, s5)))) (fun v s => am_gd (v = 0 ∨ v = 1) (some (v, s)))) (fun v15 s16 => am_gd (v15 = 0 ∨ v15 = 1) (some (v15, s16))) = some ((0 : Int32), as_i q 248 9 (nI (fau c T i 4))) := fun q h9 => by
        rw [mfl 4 q h9, am_b2s, am_gdt (Or.inl rfl), am_b2s, am_gdt (Or.inl rfl), am_b2s, am_gdt (Or.inl rfl)]
      have e4' : ∀ q : am_S, q.1 248 9 = 0 → am_b2 (am_b2 (f_X12_fails (nI 4) (nI (tp c T i)) q) (fun v4 s5 => am_gd (v4 = 0 ∨ v4 = 1) (some (v4, s5)))) (fun v15 s16 => am_gd (v15 = 0 ∨ v15 = 1) (some (v15, s16))) = some ((0 : Int32), as_i q 248 9 (nI (fau c T i 4))) := fun q h9 => by
        rw [mfl 4 q h9, am_b2s, am_gdt (Or.inl rfl), am_b2s, am_gdt (Or.inl rfl)]
      have c4 : j_X9_readClause_44 s = some (as_i s 2 5 (nI (fau c T i 4))) := by
        unfold j_X9_readClause_44
        rw [cfl 4 (by decide), am_bds]
      rcases hst with ⟨j0, t00⟩ | ⟨jp, F, O, P, S, I, H, C, hF, W, D⟩
      · -- the first clause
        have y0 : z.1 254 0 = 0 := by rw [z54]; exact t00.1 0 (by decide)
        by_cases a0 : wo c T i = 0
        · have tooM : f_X9_isOneTooMany (nI (wo c T i)) (nI j) s = some 0 := by
            unfold f_X9_isOneTooMany
            rw [am_ift (by rw [j0]; rfl), am_ift (by rw [a0]; rfl)]
          rw [tooM, am_bds, am_ift rfl, stp, am_bds]
          have rbh : f_X9_readBehind (nI (wo c T i)) (as_i s 2 4 (nI (i + 1))) = am_bd (f_X9_readFacts (as_i s 2 4 (nI (i + 1)))) (fun s2 => some s2) := by
            unfold f_X9_readBehind
            rw [am_ift (by rw [a0]; rfl)]
          have tl : f_X12_townLineHere (nI (tp c T i)) z = am_b2 (f_X12_areFactsHere (nI (tp c T i)) z) (fun v47 s48 => am_gd (v47 = 0 ∨ v47 = 1) (some (v47, s48))) := by
            unfold f_X12_townLineHere
            rw [iw 0 439720572019 (by decide) rfl, am_b2s, am_b1 (show wd c T (tp c T i) = 0 from a0)]
          rw [rbh, tl]
          have af : f_X12_areFactsHere (nI (tp c T i)) z = (am_b2 (f_X12_cellHere (0 : Int32) (1 : Int32) (nI 8) u) (fun v3 s4 => am_if (v3 = 0) (some ((0 : Int32), s4)) (am_b2 (f_X12_cellHere (1 : Int32) (0 : Int32) (((1 : Int32) <<< ((s4.1 254 0) &&& 31)) - (1 : Int32)) s4) (fun v5 s6 => am_if (v5 = 0) (some ((0 : Int32), s6)) (am_lp (fun (q : Int32 × am_S) => b_X12_areFactsHere_54 q.1 q.2) am_F ((0 : Int32), s6)))))) := by
            unfold f_X12_areFactsHere
            rw [am_ift (by rw [y0]; decide), pw, am_bds]
          rw [af]
          have o := tw_facts hT hnT hn1 hs1 hy1 lt (by
            rw [u54]
            obtain ⟨t1, t2, t3, t4, t5, t6, t7, t8, t9, ta, tb⟩ := t00
            exact ⟨t1, t2, by rw [s6 6 (by decide)]; exact t3, by rw [s6 6 (by decide)]; exact t4, by rw [s6 6 (by decide)]; exact t5, by rw [s6 6 (by decide)]; exact t6, by rw [s6 6 (by decide)]; exact t7, by rw [s6 6 (by decide)]; exact t8, by rw [s6 6 (by decide)]; exact t9, fun q hq => by rw [s6 8 (by decide)]; exact ta q hq, fun q hq => by rw [s6 11 (by decide)]; exact tb q hq⟩)
          refine wrap _ _ _ ?_ (fun r h1 h2 => gg _ r h1 h2)
          have e0 : am_bd (am_bd (f_X9_readFacts (as_i s 2 4 (nI (i + 1)))) (fun s2 => some s2)) (fun s9 => some s9) = f_X9_readFacts (as_i s 2 4 (nI (i + 1))) := by cases f_X9_readFacts (as_i s 2 4 (nI (i + 1))) <;> rfl
          rw [e0]
          exact o
        · have tooM : f_X9_isOneTooMany (nI (wo c T i)) (nI j) s = some 1 := by
            unfold f_X9_isOneTooMany
            rw [am_ift (by rw [j0]; rfl), am_iff (show ¬ nI (wo c T i) = (0 : Int32) by rw [show (0 : Int32) = nI 0 from rfl, nI_eq (by omega) (by decide)]; exact a0)]
          have tl : f_X12_townLineHere (nI (tp c T i)) z = am_b2 (f_X12_fails (nI 4) (nI (tp c T i)) z) (fun v4 s5 => am_gd (v4 = 0 ∨ v4 = 1) (some (v4, s5))) := by
            unfold f_X12_townLineHere
            rw [iw 0 439720572019 (by decide) rfl, am_b2s, am_b0 (show ¬ wd c T (tp c T i) = 0 from a0), am_ift y0]
          rw [tooM, am_bds, am_iff (show ¬ (1 : Int32) = 0 by decide), tl, e4' z z9, c4]
          exact err 4 (by decide) _ _ z fz z9 rfl rfl
      · -- a later one
        have D1 : dC (u.1 254) (as_i s 2 4 (nI (i + 1))) F O P S I H := by
          rw [u54]
          obtain ⟨⟨d0, d1, d2, d3, d4, d5, d6, d7, d8⟩, dt, ds, di, dh, dp_⟩ := D
          exact ⟨⟨by rw [s6 6 (by decide)]; exact d0, by rw [s6 6 (by decide)]; exact d1, by rw [s6 6 (by decide)]; exact d2, by rw [s6 6 (by decide)]; exact d3, by rw [s6 6 (by decide)]; exact d4, by rw [s6 6 (by decide)]; exact d5, by rw [s6 6 (by decide)]; exact d6, by rw [s6 6 (by decide)]; exact d7, by rw [s6 6 (by decide)]; exact d8⟩, fun q hq => by rw [s6 8 (by decide)]; exact dt q hq, ds.cg (fun _ _ _ => rfl) (s6 9 (by decide)) (s6 10 (by decide)) (s6 11 (by decide)), fun q hq => by rw [s6 12 (by decide)]; exact di q hq, fun q hq => by rw [s6 13 (by decide)]; exact dh q hq, dp_.cg (by have := W.2.2.1.2; omega) (fun _ _ _ => rfl) (s6 7 (by decide))⟩
        have W1 : TWN (u.1 254) F O P S I H C := by rw [u54]; exact W
        obtain ⟨w0, w1, w2, w3, w4, w5, w6, w7, w8', w9, wa, wb, wc, wd_⟩ := W
        obtain ⟨⟨d0, d1, d2, d3, d4, d5, d6, d7, d8⟩, dt, ds, di, dh, dp_⟩ := D
        have y0 : ¬ z.1 254 0 = 0 := by
          rw [z54, w0.1, show (0 : Int32) = nI 0 from rfl, nI_eq (by omega) (by decide)]; omega
        have jn : ¬ nI j = (0 : Int32) := by rw [show (0 : Int32) = nI 0 from rfl, nI_eq (by omega) (by decide)]; omega
        have cases8 : wo c T i = 0 ∨ wo c T i = 1 ∨ wo c T i = 2 ∨ wo c T i = 3 ∨ wo c T i = 4 ∨ wo c T i = 5 ∨ wo c T i = 6 ∨ wo c T i = 7 := by
          have : wo c T i < 8 := w8
          omega
        have wne : ∀ k, wo c T i ≠ k → ¬ wd c T (tp c T i) = k := fun k hk => hk
        rcases cases8 with a | a | a | a | a | a | a | a
        · have tooM : f_X9_isOneTooMany (nI (wo c T i)) (nI j) s = some 1 := by
            unfold f_X9_isOneTooMany
            rw [am_iff jn, am_ift (by rw [a]; rfl)]
          have tl : f_X12_townLineHere (nI (tp c T i)) z = am_b2 (am_b2 (f_X12_fails (nI 4) (nI (tp c T i)) z) (fun v4 s5 => am_gd (v4 = 0 ∨ v4 = 1) (some (v4, s5)))) (fun v47 s48 => am_gd (v47 = 0 ∨ v47 = 1) (some (v47, s48))) := by
            unfold f_X12_townLineHere f_X12_areFactsHere
            rw [iw 0 439720572019 (by decide) rfl, am_b2s, am_b1 (show wd c T (tp c T i) = 0 from a), am_iff (show ¬ z.1 254 0 ≤ 0 by rw [z54, w0.1, show (0 : Int32) = nI 0 from rfl, nI_leI (by omega) (by decide)]; omega)]
          rw [tooM, am_bds, am_iff (show ¬ (1 : Int32) = 0 by decide), tl, e4 z z9, c4]
          exact err 4 (by decide) _ _ z fz z9 rfl rfl
        · have tl : f_X12_townLineHere (nI (tp c T i)) z = am_b2 (f_X12_isPersonHere (nI (tp c T i)) z) (fun v s => am_gd (v = 0 ∨ v = 1) (some (v, s))) := by
            unfold f_X12_townLineHere
            rw [iw 0 439720572019 (by decide) rfl, am_b2s, am_b0 (wne 0 (by omega)), am_iff y0, iw 1 123581014175598 (by decide) rfl, am_b2s, am_b1 (show wd c T (tp c T i) = 1 from a)]
          have rbh : am_bd (f_X9_readBehind (nI (wo c T i)) (as_i s 2 4 (nI (i + 1)))) (fun s9 => some s9) = f_X9_readPerson (as_i s 2 4 (nI (i + 1))) := by
            unfold f_X9_readBehind
            rw [am_iff (show ¬ nI (wo c T i) = (0 : Int32) by rw [a]; decide), am_ift (show nI (wo c T i) = (1 : Int32) from congrArg nI a)]
            cases f_X9_readPerson (as_i s 2 4 (nI (i + 1))) <;> rfl
          by_cases lm : P < 7
          · have tooM : f_X9_isOneTooMany (nI (wo c T i)) (nI j) s = some 0 := by
              unfold f_X9_isOneTooMany
              rw [am_iff jn, am_iff (show ¬ nI (wo c T i) = (0 : Int32) by rw [a]; decide), am_ift (show nI (wo c T i) = (1 : Int32) from congrArg nI a), d3, w2.1, am_ift (nI_lt lm (by decide))]
            have mx := show f_X12_isPersonHere (nI (tp c T i)) z = am_bd (some u) _ by unfold f_X12_isPersonHere; rw [z54, w2.1, am_iff (by rw [nI_eq (by have := w2.2; omega) (by decide)]; omega), pw]
            rw [am_bds] at mx
            rw [tooM, am_bds, am_ift rfl, stp, am_bds, rbh, tl, mx]
            exact wrap _ _ _ (tw_person hT hnT hn1 hs1 hy1 lt hF (by have := w2.2; omega) W1 D1) (fun r h1 h2 => gg _ r h1 h2)
          · have tooM : f_X9_isOneTooMany (nI (wo c T i)) (nI j) s = some 1 := by
              unfold f_X9_isOneTooMany
              rw [am_iff jn, am_iff (show ¬ nI (wo c T i) = (0 : Int32) by rw [a]; decide), am_ift (show nI (wo c T i) = (1 : Int32) from congrArg nI a), d3, w2.1, am_iff (by rw [nI_ltI (by have := w2.2; omega) (by decide)]; exact lm)]
            have mx : f_X12_isPersonHere (nI (tp c T i)) z = am_b2 (f_X12_fails (nI 4) (nI (tp c T i)) z) (fun v4 s5 => am_gd (v4 = 0 ∨ v4 = 1) (some (v4, s5))) := by
              unfold f_X12_isPersonHere
              rw [z54, w2.1, am_ift (by rw [show P = 7 by have := w2.2; omega])]
            rw [tooM, am_bds, am_iff (show ¬ (1 : Int32) = 0 by decide), tl, mx, e4 z z9, c4]
            exact err 4 (by decide) _ _ z fz z9 rfl rfl
        · have tl : f_X12_townLineHere (nI (tp c T i)) z = am_b2 (f_X12_isTrustHere z) (fun v s => am_gd (v = 0 ∨ v = 1) (some (v, s))) := by
            unfold f_X12_townLineHere
            rw [iw 0 439720572019 (by decide) rfl, am_b2s, am_b0 (wne 0 (by omega)), am_iff y0, iw 1 123581014175598 (by decide) rfl, am_b2s, am_b0 (wne 1 (by omega)), iw 2 500136506228 (by decide) rfl, am_b2s, am_b1 (show wd c T (tp c T i) = 2 from a)]
          have rbh : am_bd (f_X9_readBehind (nI (wo c T i)) (as_i s 2 4 (nI (i + 1)))) (fun s9 => some s9) = f_X9_readTrust (as_i s 2 4 (nI (i + 1))) := by
            unfold f_X9_readBehind
            rw [am_iff (show ¬ nI (wo c T i) = (0 : Int32) by rw [a]; decide), am_iff (show ¬ nI (wo c T i) = (1 : Int32) by rw [a]; decide), am_ift (show nI (wo c T i) = (nI 2) from congrArg nI a)]
            cases f_X9_readTrust (as_i s 2 4 (nI (i + 1))) <;> rfl
          have tooM : f_X9_isOneTooMany (nI (wo c T i)) (nI j) s = some 0 := by
            unfold f_X9_isOneTooMany
            rw [am_iff jn, am_iff (show ¬ nI (wo c T i) = (0 : Int32) by rw [a]; decide), am_iff (show ¬ nI (wo c T i) = (1 : Int32) by rw [a]; decide), am_ift (show nI (wo c T i) = (nI 2) from congrArg nI a)]
          have mx := show f_X12_isTrustHere z = am_bd (some u) _ by unfold f_X12_isTrustHere; rw [pw]
          rw [am_bds] at mx
          rw [tooM, am_bds, am_ift rfl, stp, am_bds, rbh, tl, mx]
          exact wrap _ _ _ (tw_trust hT hnT hn1 hs1 hy1 lt hF W1 D1) (fun r h1 h2 => gg _ r h1 h2)
        · have tl : f_X12_townLineHere (nI (tp c T i)) z = am_b2 (f_X12_isStreetHere (nI (tp c T i)) z) (fun v s => am_gd (v = 0 ∨ v = 1) (some (v, s))) := by
            unfold f_X12_townLineHere
            rw [iw 0 439720572019 (by decide) rfl, am_b2s, am_b0 (wne 0 (by omega)), am_iff y0, iw 1 123581014175598 (by decide) rfl, am_b2s, am_b0 (wne 1 (by omega)), iw 2 500136506228 (by decide) rfl, am_b2s, am_b0 (wne 2 (by omega)), iw 3 126943972648308 (by decide) rfl, am_b2s, am_b1 (show wd c T (tp c T i) = 3 from a)]
          have rbh : am_bd (f_X9_readBehind (nI (wo c T i)) (as_i s 2 4 (nI (i + 1)))) (fun s9 => some s9) = f_X9_readStreet (as_i s 2 4 (nI (i + 1))) := by
            unfold f_X9_readBehind
            rw [am_iff (show ¬ nI (wo c T i) = (0 : Int32) by rw [a]; decide), am_iff (show ¬ nI (wo c T i) = (1 : Int32) by rw [a]; decide), am_iff (show ¬ nI (wo c T i) = (nI 2) by rw [a]; decide), am_ift (show nI (wo c T i) = (nI 3) from congrArg nI a)]
            cases f_X9_readStreet (as_i s 2 4 (nI (i + 1))) <;> rfl
          by_cases lm : S < 10
          · have tooM : f_X9_isOneTooMany (nI (wo c T i)) (nI j) s = some 0 := by
              unfold f_X9_isOneTooMany
              rw [am_iff jn, am_iff (show ¬ nI (wo c T i) = (0 : Int32) by rw [a]; decide), am_iff (show ¬ nI (wo c T i) = (1 : Int32) by rw [a]; decide), am_iff (show ¬ nI (wo c T i) = (nI 2) by rw [a]; decide), am_ift (show nI (wo c T i) = (nI 3) from congrArg nI a), d4, w3.1, am_ift (nI_lt lm (by decide))]
            have mx := show f_X12_isStreetHere (nI (tp c T i)) z = am_bd (some u) _ by unfold f_X12_isStreetHere; rw [z54, w3.1, am_iff (by rw [nI_eq (by have := w3.2; omega) (by decide)]; omega), pw]
            rw [am_bds] at mx
            rw [tooM, am_bds, am_ift rfl, stp, am_bds, rbh, tl, mx]
            exact wrap _ _ _ (tw_street hT hnT hn1 hs1 hy1 lt hF (by have := w3.2; omega) W1 D1) (fun r h1 h2 => gg _ r h1 h2)
          · have tooM : f_X9_isOneTooMany (nI (wo c T i)) (nI j) s = some 1 := by
              unfold f_X9_isOneTooMany
              rw [am_iff jn, am_iff (show ¬ nI (wo c T i) = (0 : Int32) by rw [a]; decide), am_iff (show ¬ nI (wo c T i) = (1 : Int32) by rw [a]; decide), am_iff (show ¬ nI (wo c T i) = (nI 2) by rw [a]; decide), am_ift (show nI (wo c T i) = (nI 3) from congrArg nI a), d4, w3.1, am_iff (by rw [nI_ltI (by have := w3.2; omega) (by decide)]; exact lm)]
            have mx : f_X12_isStreetHere (nI (tp c T i)) z = am_b2 (f_X12_fails (nI 4) (nI (tp c T i)) z) (fun v4 s5 => am_gd (v4 = 0 ∨ v4 = 1) (some (v4, s5))) := by
              unfold f_X12_isStreetHere
              rw [z54, w3.1, am_ift (by rw [show S = 10 by have := w3.2; omega])]
            rw [tooM, am_bds, am_iff (show ¬ (1 : Int32) = 0 by decide), tl, mx, e4 z z9, c4]
            exact err 4 (by decide) _ _ z fz z9 rfl rfl
        · have tl : f_X12_townLineHere (nI (tp c T i)) z = am_b2 (f_X12_isIfHere (nI (tp c T i)) z) (fun v s => am_gd (v = 0 ∨ v = 1) (some (v, s))) := by
            unfold f_X12_townLineHere
            rw [iw 0 439720572019 (by decide) rfl, am_b2s, am_b0 (wne 0 (by omega)), am_iff y0, iw 1 123581014175598 (by decide) rfl, am_b2s, am_b0 (wne 1 (by omega)), iw 2 500136506228 (by decide) rfl, am_b2s, am_b0 (wne 2 (by omega)), iw 3 126943972648308 (by decide) rfl, am_b2s, am_b0 (wne 3 (by omega)), iw 4 26982 (by decide) rfl, am_b2s, am_b1 (show wd c T (tp c T i) = 4 from a)]
          have rbh : am_bd (f_X9_readBehind (nI (wo c T i)) (as_i s 2 4 (nI (i + 1)))) (fun s9 => some s9) = f_X9_readIf (as_i s 2 4 (nI (i + 1))) := by
            unfold f_X9_readBehind
            rw [am_iff (show ¬ nI (wo c T i) = (0 : Int32) by rw [a]; decide), am_iff (show ¬ nI (wo c T i) = (1 : Int32) by rw [a]; decide), am_iff (show ¬ nI (wo c T i) = (nI 2) by rw [a]; decide), am_iff (show ¬ nI (wo c T i) = (nI 3) by rw [a]; decide), am_ift (show nI (wo c T i) = (nI 4) from congrArg nI a)]
            cases f_X9_readIf (as_i s 2 4 (nI (i + 1))) <;> rfl
          by_cases lm : I < 10
          · have tooM : f_X9_isOneTooMany (nI (wo c T i)) (nI j) s = some 0 := by
              unfold f_X9_isOneTooMany
              rw [am_iff jn, am_iff (show ¬ nI (wo c T i) = (0 : Int32) by rw [a]; decide), am_iff (show ¬ nI (wo c T i) = (1 : Int32) by rw [a]; decide), am_iff (show ¬ nI (wo c T i) = (nI 2) by rw [a]; decide), am_iff (show ¬ nI (wo c T i) = (nI 3) by rw [a]; decide), am_ift (show nI (wo c T i) = (nI 4) from congrArg nI a), d5, w4.1, am_ift (nI_lt lm (by decide))]
            have mx := show f_X12_isIfHere (nI (tp c T i)) z = am_bd (some u) _ by unfold f_X12_isIfHere; rw [z54, w4.1, am_iff (by rw [nI_eq (by have := w4.2; omega) (by decide)]; omega), pw]
            rw [am_bds] at mx
            rw [tooM, am_bds, am_ift rfl, stp, am_bds, rbh, tl, mx]
            exact wrap _ _ _ (tw_if hT hnT hn1 hs1 hy1 lt hF (by have := w4.2; omega) W1 D1) (fun r h1 h2 => gg _ r h1 h2)
          · have tooM : f_X9_isOneTooMany (nI (wo c T i)) (nI j) s = some 1 := by
              unfold f_X9_isOneTooMany
              rw [am_iff jn, am_iff (show ¬ nI (wo c T i) = (0 : Int32) by rw [a]; decide), am_iff (show ¬ nI (wo c T i) = (1 : Int32) by rw [a]; decide), am_iff (show ¬ nI (wo c T i) = (nI 2) by rw [a]; decide), am_iff (show ¬ nI (wo c T i) = (nI 3) by rw [a]; decide), am_ift (show nI (wo c T i) = (nI 4) from congrArg nI a), d5, w4.1, am_iff (by rw [nI_ltI (by have := w4.2; omega) (by decide)]; exact lm)]
            have mx : f_X12_isIfHere (nI (tp c T i)) z = am_b2 (f_X12_fails (nI 4) (nI (tp c T i)) z) (fun v4 s5 => am_gd (v4 = 0 ∨ v4 = 1) (some (v4, s5))) := by
              unfold f_X12_isIfHere
              rw [z54, w4.1, am_ift (by rw [show I = 10 by have := w4.2; omega])]
            rw [tooM, am_bds, am_iff (show ¬ (1 : Int32) = 0 by decide), tl, mx, e4 z z9, c4]
            exact err 4 (by decide) _ _ z fz z9 rfl rfl
        · have tl : f_X12_townLineHere (nI (tp c T i)) z = am_b2 (f_X12_isHarmHere (nI (tp c T i)) z) (fun v s => am_gd (v = 0 ∨ v = 1) (some (v, s))) := by
            unfold f_X12_townLineHere
            rw [iw 0 439720572019 (by decide) rfl, am_b2s, am_b0 (wne 0 (by omega)), am_iff y0, iw 1 123581014175598 (by decide) rfl, am_b2s, am_b0 (wne 1 (by omega)), iw 2 500136506228 (by decide) rfl, am_b2s, am_b0 (wne 2 (by omega)), iw 3 126943972648308 (by decide) rfl, am_b2s, am_b0 (wne 3 (by omega)), iw 4 26982 (by decide) rfl, am_b2s, am_b0 (wne 4 (by omega)), iw 5 1751216749 (by decide) rfl, am_b2s, am_b1 (show wd c T (tp c T i) = 5 from a)]
          have rbh : am_bd (f_X9_readBehind (nI (wo c T i)) (as_i s 2 4 (nI (i + 1)))) (fun s9 => some s9) = f_X9_readHarm (as_i s 2 4 (nI (i + 1))) := by
            unfold f_X9_readBehind
            rw [am_iff (show ¬ nI (wo c T i) = (0 : Int32) by rw [a]; decide), am_iff (show ¬ nI (wo c T i) = (1 : Int32) by rw [a]; decide), am_iff (show ¬ nI (wo c T i) = (nI 2) by rw [a]; decide), am_iff (show ¬ nI (wo c T i) = (nI 3) by rw [a]; decide), am_iff (show ¬ nI (wo c T i) = (nI 4) by rw [a]; decide), am_ift (show nI (wo c T i) = (nI 5) from congrArg nI a)]
            cases f_X9_readHarm (as_i s 2 4 (nI (i + 1))) <;> rfl
          by_cases lm : H < 10
          · have tooM : f_X9_isOneTooMany (nI (wo c T i)) (nI j) s = some 0 := by
              unfold f_X9_isOneTooMany
              rw [am_iff jn, am_iff (show ¬ nI (wo c T i) = (0 : Int32) by rw [a]; decide), am_iff (show ¬ nI (wo c T i) = (1 : Int32) by rw [a]; decide), am_iff (show ¬ nI (wo c T i) = (nI 2) by rw [a]; decide), am_iff (show ¬ nI (wo c T i) = (nI 3) by rw [a]; decide), am_iff (show ¬ nI (wo c T i) = (nI 4) by rw [a]; decide), am_ift (show nI (wo c T i) = (nI 5) from congrArg nI a), d6, w5.1, am_ift (nI_lt lm (by decide))]
            have mx := show f_X12_isHarmHere (nI (tp c T i)) z = am_bd (some u) _ by unfold f_X12_isHarmHere; rw [z54, w5.1, am_iff (by rw [nI_eq (by have := w5.2; omega) (by decide)]; omega), pw]
            rw [am_bds] at mx
            rw [tooM, am_bds, am_ift rfl, stp, am_bds, rbh, tl, mx]
            exact wrap _ _ _ (tw_harm hT hnT hn1 hs1 hy1 lt hF (by have := w5.2; omega) W1 D1) (fun r h1 h2 => gg _ r h1 h2)
          · have tooM : f_X9_isOneTooMany (nI (wo c T i)) (nI j) s = some 1 := by
              unfold f_X9_isOneTooMany
              rw [am_iff jn, am_iff (show ¬ nI (wo c T i) = (0 : Int32) by rw [a]; decide), am_iff (show ¬ nI (wo c T i) = (1 : Int32) by rw [a]; decide), am_iff (show ¬ nI (wo c T i) = (nI 2) by rw [a]; decide), am_iff (show ¬ nI (wo c T i) = (nI 3) by rw [a]; decide), am_iff (show ¬ nI (wo c T i) = (nI 4) by rw [a]; decide), am_ift (show nI (wo c T i) = (nI 5) from congrArg nI a), d6, w5.1, am_iff (by rw [nI_ltI (by have := w5.2; omega) (by decide)]; exact lm)]
            have mx : f_X12_isHarmHere (nI (tp c T i)) z = am_b2 (f_X12_fails (nI 4) (nI (tp c T i)) z) (fun v4 s5 => am_gd (v4 = 0 ∨ v4 = 1) (some (v4, s5))) := by
              unfold f_X12_isHarmHere
              rw [z54, w5.1, am_ift (by rw [show H = 10 by have := w5.2; omega])]
            rw [tooM, am_bds, am_iff (show ¬ (1 : Int32) = 0 by decide), tl, mx, e4 z z9, c4]
            exact err 4 (by decide) _ _ z fz z9 rfl rfl
        · have tl : f_X12_townLineHere (nI (tp c T i)) z = am_b2 (f_X12_isChildHere z) (fun v s => am_gd (v = 0 ∨ v = 1) (some (v, s))) := by
            unfold f_X12_townLineHere
            rw [iw 0 439720572019 (by decide) rfl, am_b2s, am_b0 (wne 0 (by omega)), am_iff y0, iw 1 123581014175598 (by decide) rfl, am_b2s, am_b0 (wne 1 (by omega)), iw 2 500136506228 (by decide) rfl, am_b2s, am_b0 (wne 2 (by omega)), iw 3 126943972648308 (by decide) rfl, am_b2s, am_b0 (wne 3 (by omega)), iw 4 26982 (by decide) rfl, am_b2s, am_b0 (wne 4 (by omega)), iw 5 1751216749 (by decide) rfl, am_b2s, am_b0 (wne 5 (by omega)), iw 6 426953501796 (by decide) rfl, am_b2s, am_b1 (show wd c T (tp c T i) = 6 from a)]
          have rbh : am_bd (f_X9_readBehind (nI (wo c T i)) (as_i s 2 4 (nI (i + 1)))) (fun s9 => some s9) = f_X9_readChild (as_i s 2 4 (nI (i + 1))) := by
            unfold f_X9_readBehind
            rw [am_iff (show ¬ nI (wo c T i) = (0 : Int32) by rw [a]; decide), am_iff (show ¬ nI (wo c T i) = (1 : Int32) by rw [a]; decide), am_iff (show ¬ nI (wo c T i) = (nI 2) by rw [a]; decide), am_iff (show ¬ nI (wo c T i) = (nI 3) by rw [a]; decide), am_iff (show ¬ nI (wo c T i) = (nI 4) by rw [a]; decide), am_iff (show ¬ nI (wo c T i) = (nI 5) by rw [a]; decide), am_ift (show nI (wo c T i) = (nI 6) from congrArg nI a)]
            cases f_X9_readChild (as_i s 2 4 (nI (i + 1))) <;> rfl
          have tooM : f_X9_isOneTooMany (nI (wo c T i)) (nI j) s = some 0 := by
            unfold f_X9_isOneTooMany
            rw [am_iff jn, am_iff (show ¬ nI (wo c T i) = (0 : Int32) by rw [a]; decide), am_iff (show ¬ nI (wo c T i) = (1 : Int32) by rw [a]; decide), am_iff (show ¬ nI (wo c T i) = (nI 2) by rw [a]; decide), am_iff (show ¬ nI (wo c T i) = (nI 3) by rw [a]; decide), am_iff (show ¬ nI (wo c T i) = (nI 4) by rw [a]; decide), am_iff (show ¬ nI (wo c T i) = (nI 5) by rw [a]; decide), am_ift (show nI (wo c T i) = (nI 6) from congrArg nI a)]
          have mx := show f_X12_isChildHere z = am_bd (some u) _ by unfold f_X12_isChildHere; rw [pw]
          rw [am_bds] at mx
          rw [tooM, am_bds, am_ift rfl, stp, am_bds, rbh, tl, mx]
          exact wrap _ _ _ (tw_child hT hnT hn1 hs1 hy1 lt hF W1 D1) (fun r h1 h2 => gg _ r h1 h2)
        · have tl : f_X12_townLineHere (nI (tp c T i)) z = am_b2 (f_X12_isCorrectHere (nI (tp c T i)) z) (fun v s => am_gd (v = 0 ∨ v = 1) (some (v, s))) := by
            unfold f_X12_townLineHere
            rw [iw 0 439720572019 (by decide) rfl, am_b2s, am_b0 (wne 0 (by omega)), am_iff y0, iw 1 123581014175598 (by decide) rfl, am_b2s, am_b0 (wne 1 (by omega)), iw 2 500136506228 (by decide) rfl, am_b2s, am_b0 (wne 2 (by omega)), iw 3 126943972648308 (by decide) rfl, am_b2s, am_b0 (wne 3 (by omega)), iw 4 26982 (by decide) rfl, am_b2s, am_b0 (wne 4 (by omega)), iw 5 1751216749 (by decide) rfl, am_b2s, am_b0 (wne 5 (by omega)), iw 6 426953501796 (by decide) rfl, am_b2s, am_b0 (wne 6 (by omega))]
          have rbh : am_bd (f_X9_readBehind (nI (wo c T i)) (as_i s 2 4 (nI (i + 1)))) (fun s9 => some s9) = am_lt (as_i (as_i s 2 4 (nI (i + 1))) 6 15 (1 : Int32)) (fun s16 => some s16) := by
            unfold f_X9_readBehind
            rw [am_iff (show ¬ nI (wo c T i) = (0 : Int32) by rw [a]; decide), am_iff (show ¬ nI (wo c T i) = (1 : Int32) by rw [a]; decide), am_iff (show ¬ nI (wo c T i) = (nI 2) by rw [a]; decide), am_iff (show ¬ nI (wo c T i) = (nI 3) by rw [a]; decide), am_iff (show ¬ nI (wo c T i) = (nI 4) by rw [a]; decide), am_iff (show ¬ nI (wo c T i) = (nI 5) by rw [a]; decide), am_iff (show ¬ nI (wo c T i) = (nI 6) by rw [a]; decide)]
            rfl
          rcases w7 with lm | lm
          · have tooM : f_X9_isOneTooMany (nI (wo c T i)) (nI j) s = some 0 := by
              unfold f_X9_isOneTooMany
              rw [am_iff jn, am_iff (show ¬ nI (wo c T i) = (0 : Int32) by rw [a]; decide), am_iff (show ¬ nI (wo c T i) = (1 : Int32) by rw [a]; decide), am_iff (show ¬ nI (wo c T i) = (nI 2) by rw [a]; decide), am_iff (show ¬ nI (wo c T i) = (nI 3) by rw [a]; decide), am_iff (show ¬ nI (wo c T i) = (nI 4) by rw [a]; decide), am_iff (show ¬ nI (wo c T i) = (nI 5) by rw [a]; decide), am_iff (show ¬ nI (wo c T i) = (nI 6) by rw [a]; decide), am_ift (show nI (wo c T i) = (nI 7) from congrArg nI a), d8, lm, am_gdt (Or.inl rfl)]
            have mx := show f_X12_isCorrectHere (nI (tp c T i)) z = am_bd (some u) _ by unfold f_X12_isCorrectHere; rw [z54, lm, am_iff (by decide), pw]
            rw [am_bds] at mx
            rw [tooM, am_bds, am_ift rfl, stp, am_bds, rbh, tl, mx]
            exact wrap _ _ _ (tw_correct hs1 hy1 lt hF W1 D1) (fun r h1 h2 => gg _ r h1 h2)
          · have tooM : f_X9_isOneTooMany (nI (wo c T i)) (nI j) s = some 1 := by
              unfold f_X9_isOneTooMany
              rw [am_iff jn, am_iff (show ¬ nI (wo c T i) = (0 : Int32) by rw [a]; decide), am_iff (show ¬ nI (wo c T i) = (1 : Int32) by rw [a]; decide), am_iff (show ¬ nI (wo c T i) = (nI 2) by rw [a]; decide), am_iff (show ¬ nI (wo c T i) = (nI 3) by rw [a]; decide), am_iff (show ¬ nI (wo c T i) = (nI 4) by rw [a]; decide), am_iff (show ¬ nI (wo c T i) = (nI 5) by rw [a]; decide), am_iff (show ¬ nI (wo c T i) = (nI 6) by rw [a]; decide), am_ift (show nI (wo c T i) = (nI 7) from congrArg nI a), d8, lm, am_gdt (Or.inr rfl)]
            have mx : f_X12_isCorrectHere (nI (tp c T i)) z = am_b2 (f_X12_fails (nI 4) (nI (tp c T i)) z) (fun v4 s5 => am_gd (v4 = 0 ∨ v4 = 1) (some (v4, s5))) := by
              unfold f_X12_isCorrectHere
              rw [z54, lm, am_ift rfl]
            rw [tooM, am_bds, am_iff (show ¬ (1 : Int32) = 0 by decide), tl, mx, e4 z z9, c4]
            exact err 4 (by decide) _ _ z fz z9 rfl rfl
  · have rc0 : am_if (wnI (wo c T i) < 0) (j_X9_readClause_18 s) (am_if (wnI (wo c T i) ≤ (nI 7)) (am_if ((nI 40) ≤ nI j) (j_X9_readClause_44 s) (am_bd (f_X9_isOneTooMany (wnI (wo c T i)) (nI j) s) (fun v7 => am_if (v7 = 0) (am_bd (f_X7_step s) (fun s8 => am_bd (f_X9_readBehind (wnI (wo c T i)) s8) (fun s9 => some s9))) (j_X9_readClause_44 s)))) (j_X9_readClause_18 s)) = j_X9_readClause_18 s := by
      by_cases z : wo c T i = 24
      · rw [am_ift (wn1.mpr z)]
      · have wl : wo c T i < 24 := by have : wo c T i ≤ 24 := w24; omega
        rw [am_iff (fun y => z (wn1.mp y)), am_iff]
        rw [show wnI (wo c T i) = nI (wo c T i) from wn2 wl, nI_leI (by omega) (by decide)]
        show ¬ wd c T (tp c T i) ≤ 7
        omega
    rw [rc0, am_b0 w8]
    unfold j_X9_readClause_18 j_X12_clauseHere_59
    have m0 := mfl 0 x g2.2.1
    rw [show (nI 0 : Int32) = (0 : Int32) from rfl] at m0
    have c0' := cfl 0 (by decide)
    rw [show (nI 0 : Int32) = (0 : Int32) from rfl] at c0'
    exact err 0 (by decide) _ _ x fx g2.2.1 (by rw [c0', am_bds]) (by rw [m0, am_b2s, am_gdt (Or.inl rfl)])
end TX6
