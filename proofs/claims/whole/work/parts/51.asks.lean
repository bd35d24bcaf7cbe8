/-! truths, ask: the reference; the steps -/
def sv (a b : Bool) : Nat := match a, b with
  | false, false => 0
  | true, false => 1
  | false, true => 2
  | true, true => 3
theorem sv_or1 (a b : Bool) : nI (sv a b) ||| 1 = nI (sv true b) := by cases a <;> cases b <;> decide
theorem sv_or2 (a b : Bool) : nI (sv a b) ||| nI 2 = nI (sv a true) := by cases a <;> cases b <;> decide
theorem m_statedBy {m : Nat → Int32} {s : am_S} {p way : Nat} (hm : s.1 258 = m) (w : wfT m) (sw : wfS m) (hp : p < 7) (hway : way < 256) : f_X12_statedBy (nI p) (nI way) s = some (nI (sv (rtP m way (mN m 326) p) (lyP m way (mN m 326) p))) := by
  have hP := w.P7
  have hF := w.F8
  have hc := sw.1.2
  have e4 : am_F = 4000 := rfl
  unfold f_X12_statedBy
  refine am_lp_run (F := am_F) (fun i => (nI (sv (rtP m way i p) (lyP m way i p)), nI i)) (mN m 326) (fun i hi => ?_) ?_ (by omega)
  · obtain ⟨w1, w2, w3⟩ := sw.2.2.1 i hi
    have l1 := w1.2
    have l2 := w2.2
    dsimp only
    unfold b_X12_statedBy_5
    rw [hm, sw.1.1, am_iff (nI_ge hi (by omega))]
    simp (disch := omega) only [am_ltd, pk_mul, nI_add, nI_1, gd2, cL]
    rw [w1.e, w2.e, bitb (by omega) (by omega), rtP_1, lyP_1]
    by_cases c : mN m (270 + 3 * i) = p
    · rw [am_ift (by rw [c]), decide_eq_true c.symm, Bool.true_and, Bool.true_and]
      by_cases c2 : b01 (way.testBit (mN m (270 + 3 * i + 1)) = true) = m (270 + 3 * i + 2)
      · have ec : eqS m way i = true := decide_eq_true c2
        rw [am_ift c2, ec, sv_or1]
        simp
      · have ec : eqS m way i = false := decide_eq_false c2
        rw [am_iff c2, ec, sv_or2]
        simp
    · rw [am_iff (by rw [nI_eq (by omega) (by omega)]; exact c), decide_eq_false (fun z => c z.symm), Bool.false_and, Bool.false_and, Bool.or_false, Bool.or_false]
  · dsimp only
    unfold b_X12_statedBy_5
    rw [hm, sw.1.1, am_ift (nI_le (Nat.le_refl _) (by omega))]
theorem m_isTruth {m : Nat → Int32} {s : am_S} {way : Nat} (hm : s.1 258 = m) (w : wfT m) (sw : wfS m) (hway : way < 256) : f_X12_isTruth (nI way) s = some (b01 (okW m way = true)) := by
  have hP := w.P7
  have e4 : am_F = 4000 := rfl
  unfold f_X12_isTruth
  have key := lp_ind (body := fun (q : Int32) => b_X12_isTruth_2 (nI way) s q) (mP m) (fun i x => x = nI i ∧ ∀ p, p < i → ¬ (rtP m way (mN m 326) p = true ∧ lyP m way (mN m 326) p = true)) (fun e => e = b01 (okW m way = true)) ?_ ?_ (F := am_F) (by omega) (0 : Int32) ⟨rfl, fun c hc => by omega⟩
  · obtain ⟨e, h1, rfl⟩ := key
    exact h1
  · rintro i hi x ⟨rfl, h4⟩
    unfold b_X12_isTruth_2
    rw [hm, w.P1, am_iff (nI_ge hi (by omega)), m_statedBy hm w sw (by omega) hway, am_bds]
    by_cases c : rtP m way (mN m 326) i = true ∧ lyP m way (mN m 326) i = true
    · right
      refine ⟨_, am_ift (by rw [c.1, c.2]; rfl), (b01_f ?_).symm⟩
      rw [okW_iff w sw]
      exact fun z => z i hi c
    · left
      refine ⟨nI (i + 1), ?_, rfl, fun p hp => ?_⟩
      · rw [am_iff, am_ltd, nI_1]
        cases h1 : rtP m way (mN m 326) i <;> cases h2 : lyP m way (mN m 326) i
        · decide
        · decide
        · decide
        · exact absurd ⟨h1, h2⟩ c
      · by_cases e : p = i
        · subst e; exact c
        · exact h4 p (by omega)
  · rintro x ⟨rfl, h4⟩
    refine ⟨1, ?_, (b01_t ((okW_iff w sw).mpr h4)).symm⟩
    unfold b_X12_isTruth_2
    rw [hm, w.P1, am_ift (nI_le (Nat.le_refl _) (by omega))]
theorem m_peopleOf {m : Nat → Int32} {s : am_S} {way : Nat} (hm : s.1 258 = m) (w : wfT m) (sw : wfS m) (hway : way < 256) (hok : okW m way = true) : f_X12_peopleOf (nI 2) (nI way) s = some (nI (lyB m way)) ∧ f_X12_peopleOf 1 (nI way) s = some (nI (rtB m way)) := by
  have hP := w.P7
  have e4 : am_F = 4000 := rfl
  have hk := (okW_iff w sw).mp hok
  have gen : ∀ (u : Int32) (Q : Nat → Bool), (∀ p, p < mP m → (nI (sv (rtP m way (mN m 326) p) (lyP m way (mN m 326) p)) = u ↔ Q p = true)) → f_X12_peopleOf u (nI way) s = some (nI (bitsOf Q (mP m))) := by
    intro u Q hQ
    unfold f_X12_peopleOf
    refine am_lp_run (F := am_F) (fun i => (nI (bitsOf Q i), nI i)) (mP m) (fun i hi => ?_) ?_ (by omega)
    · dsimp only
      unfold b_X12_peopleOf_5
      rw [hm, w.P1, am_iff (nI_ge hi (by omega)), m_statedBy hm w sw (by omega) hway, am_bds, am_ltd, nI_1, am_ltd, nI0, am_ltd]
      have es : bitsOf Q (i + 1) = bitsOf Q i + (if Q i then 2 ^ i else 0) := rfl
      by_cases c : Q i = true
      · rw [am_ift ((hQ i hi).mpr c), sh_l (by omega), or_pow (bitsOf_lt Q i), es, if_pos c]
      · rw [am_iff (fun z => c ((hQ i hi).mp z)), es, if_neg c]
        rfl
    · dsimp only
      unfold b_X12_peopleOf_5
      rw [hm, w.P1, am_ift (nI_le (Nat.le_refl _) (by omega))]
  constructor
  · rw [gen (nI 2) (lyP m way (mN m 326)) (fun p hp => ?_)]
    · unfold lyB
      have := bitsOf_more (P := lyP m way (mN m 326)) (n := mP m) (7 - mP m) (fun i h1 _ => lyP_out w sw h1)
      rw [← this, show mP m + (7 - mP m) = 7 by omega]
    · have := hk p hp
      cases h1 : rtP m way (mN m 326) p <;> cases h2 : lyP m way (mN m 326) p
      · decide
      · decide
      · decide
      · exact absurd ⟨h1, h2⟩ this
  · rw [gen 1 (rtP m way (mN m 326)) (fun p hp => ?_)]
    · unfold rtB
      have := bitsOf_more (P := rtP m way (mN m 326)) (n := mP m) (7 - mP m) (fun i h1 _ => rtP_out w sw h1)
      rw [← this, show mP m + (7 - mP m) = 7 by omega]
    · have := hk p hp
      cases h1 : rtP m way (mN m 326) p <;> cases h2 : lyP m way (mN m 326) p
      · decide
      · decide
      · decide
      · exact absurd ⟨h1, h2⟩ this
theorem mask_eq {P x : Nat} (h : P ≤ 7) (hx : x < 2 ^ P) : nI (2 ^ P - 1) &&& nI x = nI x := by
  rw [nI_and, Nat.and_comm, Nat.and_two_pow_sub_one_eq_mod, Nat.mod_eq_of_lt hx]
theorem lyB_lt {m : Nat → Int32} {way : Nat} (w : wfT m) (sw : wfS m) : lyB m way < 2 ^ mP m ∧ rtB m way < 2 ^ mP m := by
  have hP := w.P7
  constructor
  · unfold lyB
    have := bitsOf_more (P := lyP m way (mN m 326)) (n := mP m) (7 - mP m) (fun i h1 _ => lyP_out w sw h1)
    rw [show mP m + (7 - mP m) = 7 by omega] at this
    rw [this]
    exact bitsOf_lt _ _
  · unfold rtB
    have := bitsOf_more (P := rtP m way (mN m 326)) (n := mP m) (7 - mP m) (fun i h1 _ => rtP_out w sw h1)
    rw [show mP m + (7 - mP m) = 7 by omega] at this
    rw [this]
    exact bitsOf_lt _ _
theorem prot135 {s s2 : am_S} (h : ∀ c, c ≠ 135 → c ≠ 136 → s2.1 c = s.1 c) (g : s2.2 = s.2) : prot s s2 := by
  refine ⟨fun a ha => h a (fun e => by subst e; unfold isPr at ha; omega) (fun e => by subst e; unfold isPr at ha; omega), by rw [h 0 (by decide) (by decide)], by rw [h 0 (by decide) (by decide)], by rw [h 248 (by decide) (by decide)], by rw [h 248 (by decide) (by decide)], by rw [h 248 (by decide) (by decide)], by rw [h 248 (by decide) (by decide)], by rw [h 248 (by decide) (by decide)], fun z => ?_⟩
  unfold pRef at z ⊢
  rw [g]
  exact z
theorem st_truths : LS_truths Inv := by
  intro k s p hk hI
  obtain ⟨rn, h⟩ := hI
  have h := InvR_mono h
  have w := h.w
  have sw := h.s
  have hF := w.F8
  have hP := w.P7
  have e4 : am_F = 4000 := rfl
  unfold f_X11_truths
  by_cases h0 : 0 < mF (s.1 258)
  · rw [am_iff (fun z => (town0 h).mp z h0)]
    by_cases h1 : inP p 5
    · obtain ⟨s2, g1, g2, g3, v0, v1, v2, v3, v4, -⟩ := c_weigh w sw h.t h.c.2.2.1 h.c.2.2.2.2.2.2
      have em : s2.1 258 = s.1 258 := g2 258 (by decide) (by decide)
      have hI2 := InvR_prot h (prot135 g2 g3)
      have h2F : 2 ^ mF (s.1 258) ≤ 256 := pow_le (k := 8) hF
      have hpos : 0 < 2 ^ mF (s.1 258) := Nat.two_pow_pos _
      have e1 : nI (2 ^ mF (s.1 258)) - 1 = nI (2 ^ mF (s.1 258) - 1) := pk_sub (b := 1) (by omega)
      have hposP : 0 < 2 ^ mP (s.1 258) := Nat.two_pow_pos _
      have h2P : 2 ^ mP (s.1 258) ≤ 128 := pow_le (k := 7) hP
      have e2 : nI (2 ^ mP (s.1 258)) - 1 = nI (2 ^ mP (s.1 258) - 1) := pk_sub (b := 1) (by omega)
      have ly := foB_eq (ok := okW (s.1 258)) (a := nI 127) (b := nI (2 ^ mP (s.1 258) - 1)) (g := lyB (s.1 258)) (fun i => by
        have hl := (lyB_lt (way := i) w sw).1
        rw [mask_eq hP hl]
        exact mask_eq (P := 7) (Nat.le_refl _) (bitsOf_lt _ 7)) (2 ^ mF (s.1 258))
      have rt := foB_eq (ok := okW (s.1 258)) (a := nI 127) (b := nI (2 ^ mP (s.1 258) - 1)) (g := rtB (s.1 258)) (fun i => by
        have hl := (lyB_lt (way := i) w sw).2
        rw [mask_eq hP hl]
        exact mask_eq (P := 7) (Nat.le_refl _) (bitsOf_lt _ 7)) (2 ^ mF (s.1 258))
      obtain ⟨n, n1, n2, n3⟩ := foW_n (okW (s.1 258)) (2 ^ mF (s.1 258))
      have kc : am_if (p < 0) (some ((-1 : Int32), s)) (am_if (p ≤ (nI 4)) (am_bd (f_X10_weigh s) (fun s2 => am_if ((s2.1 135 0) = 0) (some ((0 : Int32), s2)) (am_if (p = (0 : Int32)) (some ((s2.1 135 0), s2)) (am_if (p = (1 : Int32)) (some ((s2.1 135 1), s2)) (am_if (p = (nI 2)) (some ((s2.1 135 2), s2)) (am_if (p = (nI 3)) (some ((s2.1 135 3), s2)) (some ((s2.1 135 4), s2)))))))) (some ((-1 : Int32), s))) = am_if (nI n = 0) (some (0, s2)) (am_if (p = 0) (some (nI n, s2)) (am_if (p = 1) (some (s2.1 135 1, s2)) (am_if (p = nI 2) (some (s2.1 135 2, s2)) (am_if (p = nI 3) (some (s2.1 135 3, s2)) (some (s2.1 135 4, s2)))))) := by
        rw [am_iff h1.1, am_ift (by obtain ⟨j, hj, rfl⟩ := inP_of h1 (by decide); exact nI_le (by omega) (by decide)), g1, am_bds, v0, n2]
      rw [kc]
      have km : f_X12_truths p s2 = j_X12_truths_126 p (nI n) (foS (okW (s.1 258)) (nI (2 ^ mF (s.1 258) - 1)) (2 ^ mF (s.1 258))) (foN (okW (s.1 258)) (nI (2 ^ mF (s.1 258) - 1)) (2 ^ mF (s.1 258))) (foB (okW (s.1 258)) (nI (2 ^ mP (s.1 258) - 1)) (lyB (s.1 258)) (2 ^ mF (s.1 258))) (foB (okW (s.1 258)) (nI (2 ^ mP (s.1 258) - 1)) (rtB (s.1 258)) (2 ^ mF (s.1 258))) := by
        unfold f_X12_truths
        rw [m_isTown (F := mF (s.1 258)) (by rw [em]; exact w.F1) (by omega), am_bds, am_b1 h0, m_in0 p 4 (by decide) 4 rfl, am_bds, am_b1 h1, em, w.F1, w.P1, sh_l (by omega), sh_l (by omega), e1, e2, am_ltd, am_ltd]
        obtain ⟨e, he⟩ : ∃ e, j_X12_truths_126 p (nI n) (foS (okW (s.1 258)) (nI (2 ^ mF (s.1 258) - 1)) (2 ^ mF (s.1 258))) (foN (okW (s.1 258)) (nI (2 ^ mF (s.1 258) - 1)) (2 ^ mF (s.1 258))) (foB (okW (s.1 258)) (nI (2 ^ mP (s.1 258) - 1)) (lyB (s.1 258)) (2 ^ mF (s.1 258))) (foB (okW (s.1 258)) (nI (2 ^ mP (s.1 258) - 1)) (rtB (s.1 258)) (2 ^ mF (s.1 258))) = some e := by
          unfold j_X12_truths_126
          simp only [am_ifd]
          repeat' split
          all_goals exact ⟨_, rfl⟩
        rw [he]
        generalize 2 ^ mF (s.1 258) = N at *
        refine am_lp_run (F := am_F) (fun i => (foW (okW (s.1 258)) i, foS (okW (s.1 258)) (nI (N - 1)) i, foN (okW (s.1 258)) (nI (N - 1)) i, foB (okW (s.1 258)) (nI (2 ^ mP (s.1 258) - 1)) (lyB (s.1 258)) i, foB (okW (s.1 258)) (nI (2 ^ mP (s.1 258) - 1)) (rtB (s.1 258)) i, nI i)) N (fun i hi => ?_) ?_ (by omega)
        · dsimp only
          unfold b_X12_truths_59
          rw [am_iff (nI_nlt (by omega) (by omega)), m_isTruth em w sw (by omega), am_bds]
          by_cases c : okW (s.1 258) i = true
          · obtain ⟨q1, q2⟩ := m_peopleOf em w sw (way := i) (by omega) c
            rw [am_b1 c, am_ltd, am_ltd, am_ltd, q1, am_bds, am_ltd, q2, am_bds, am_ltd, am_ltd, nI_1, foW_t c, foS_t c, foN_t c, foB_t c, foB_t c]
          · rw [am_b0 c, am_ltd, nI_1]
            show _ = some (Sum.inl (fo _ _ _ (i + 1), fo _ _ _ (i + 1), fo _ _ _ (i + 1), fo _ _ _ (i + 1), fo _ _ _ (i + 1), nI (i + 1)))
            rw [fo_f c, fo_f c, fo_f c, fo_f c, fo_f c]
        · dsimp only
          unfold b_X12_truths_59
          rw [am_ift (nI_lt (by omega) (by omega)), n2, he, am_bds]
      unfold j_X12_truths_126 at km
      by_cases hn : n = 0
      · subst hn
        rw [am_ift (by decide)]
        refine ⟨0, s2, rfl, km.trans ?_, rn, hI2⟩
        by_cases c : p = 0
        · rw [am_ift c]; rfl
        · rw [am_iff c, am_ift (by decide)]
      · have hne : ¬ nI n = 0 := nI_ne0 (by omega) (by omega)
        have hex : ¬ ∀ j, j < 2 ^ mF (s.1 258) → okW (s.1 258) j = false := by
          intro z
          have : foW (okW (s.1 258)) (2 ^ mF (s.1 258)) = 0 := by
            have gen : ∀ i, i ≤ 2 ^ mF (s.1 258) → foW (okW (s.1 258)) i = 0 := by
              intro i
              induction i with
              | zero => intro _; rfl
              | succ i ih =>
                intro hi
                show fo _ _ _ (i + 1) = 0
                rw [fo_f (by rw [z i (by omega)]; decide)]
                exact ih (by omega)
            exact gen _ (Nat.le_refl _)
          rw [n2] at this
          exact hne this
        have ly : s2.1 135 3 = _ := v3.trans (ly.resolve_right (fun z => hex z.1))
        have rt : s2.1 135 4 = _ := v4.trans (rt.resolve_right (fun z => hex z.1))
        rw [am_iff hne, ly, rt, v1, v2]
        rw [am_iff hne] at km
        by_cases c0 : p = 0
        · rw [am_ift c0] at km ⊢; exact ⟨_, s2, rfl, km, rn, hI2⟩
        rw [am_iff c0] at km ⊢
        by_cases c1 : p = 1
        · rw [am_ift c1] at km ⊢; exact ⟨_, s2, rfl, km, rn, hI2⟩
        rw [am_iff c1] at km ⊢
        by_cases c2 : p = nI 2
        · rw [am_ift c2] at km ⊢; exact ⟨_, s2, rfl, km, rn, hI2⟩
        rw [am_iff c2] at km ⊢
        by_cases c3 : p = nI 3
        · rw [am_ift c3] at km ⊢; exact ⟨_, s2, rfl, km, rn, hI2⟩
        rw [am_iff c3] at km ⊢
        exact ⟨_, s2, rfl, km, rn, hI2⟩
    · refine ⟨-1, s, ?_, ?_, rn, h⟩
      · by_cases c : p < 0
        · rw [am_ift c]
        · rw [am_iff c, am_iff]
          intro z
          obtain ⟨j, hj, rfl⟩ := nI_of2 (x := p) (M := nI 4) (n := 4) rfl c z
          exact h1 (inP_nI (by omega) (by decide))
      · unfold f_X12_truths
        rw [m_isTown w.F1 (by omega), am_bds, am_b1 h0, m_in0 p 4 (by decide) 4 rfl, am_bds, am_b0 h1]
  · refine ⟨-1, s, am_ift ((town0 h).mpr h0), ?_, rn, h⟩
    unfold f_X12_truths
    rw [m_isTown w.F1 (by omega), am_bds, am_b0 h0]
/-- how many agree at most -/
def maV (w o : Int32) : Int32 := if o < w - o then w - o else o
def bA (g : Nat → Int32) : Nat → Nat
  | 0 => 0
  | i + 1 => if i = 0 then 0 else if g i < g (bA g i) then i else bA g i
theorem bA_lt (g : Nat → Int32) : ∀ i, bA g i ≤ i - 1
  | 0 => Nat.le_refl _
  | i + 1 => by
    have := bA_lt g i
    rw [bA]
    split
    · omega
    · split <;> omega
theorem st_ask : LS_ask Inv := by
  intro k s p hk hI
  obtain ⟨rn, h⟩ := hI
  have h := InvR_mono h
  have w := h.w
  have sw := h.s
  have hF := w.F8
  have e4 : am_F = 4000 := rfl
  unfold f_X11_ask
  by_cases h0 : 0 < mF (s.1 258)
  · rw [am_iff (fun z => (town0 h).mp z h0), c_isBit, am_bds]
    by_cases h1 : p = 0 ∨ p = 1
    · obtain ⟨s2, g1, g2, g3, v0, -, -, -, -, v5⟩ := c_weigh w sw h.t h.c.2.2.1 h.c.2.2.2.2.2.2
      have em : s2.1 258 = s.1 258 := g2 258 (by decide) (by decide)
      have hI2 := InvR_prot h (prot135 g2 g3)
      have h2F : 2 ^ mF (s.1 258) ≤ 256 := pow_le (k := 8) hF
      have hpos : 0 < 2 ^ mF (s.1 258) := Nat.two_pow_pos _
      generalize hm : s.1 258 = m at *
      generalize hN : 2 ^ mF m = N at *
      generalize hW : foW (okW m) N = W at *
      have inner : ∀ (a b : Int32) (f : Nat) (e : (Int32 × Int32 × Int32) ⊕ Int32), f < mF m → j_X12_ask_93 a b (nI f) W (foF (okW m) f N) = some e → am_lp (fun (q : Int32 × Int32 × Int32) => b_X12_ask_47 s2 a b (nI f) q.1 q.2.1 q.2.2) am_F ((0 : Int32), (0 : Int32), (0 : Int32)) = some e := by
        intro a b f e hf he
        refine am_lp_run (F := am_F) (fun i => (foW (okW m) i, foF (okW m) f i, nI i)) N (fun i hi => ?_) ?_ (by omega)
        · dsimp only
          unfold b_X12_ask_47
          rw [em, w.F1, sh_l (by omega), hN, am_iff (nI_ge hi (by omega)), m_isTruth em w sw (by omega), am_bds]
          by_cases c : okW m i = true
          · rw [am_b1 c, am_ltd, am_ltd, am_ltd, nI_1, foW_t c, foF_t c]
          · rw [am_b0 c, am_ltd, nI_1]
            show _ = some (Sum.inl (fo _ _ _ (i + 1), fo _ _ _ (i + 1), nI (i + 1)))
            rw [fo_f c, fo_f c]
        · dsimp only
          unfold b_X12_ask_47
          rw [em, w.F1, sh_l (by omega), hN, am_ift (nI_le (Nat.le_refl _) (by omega)), hW, he, am_bds]
      have j93 : ∀ (a b : Int32) (f : Nat), j_X12_ask_93 a b (nI f) W (foF (okW m) f N) = j_X12_ask_113 (maV W (foF (okW m) f N)) a b (nI f) W := by
        intro a b f
        unfold j_X12_ask_93 maV
        by_cases c : foF (okW m) f N ≤ W - foF (okW m) f N
        · rw [am_ift c]
          by_cases c2 : foF (okW m) f N < W - foF (okW m) f N
          · rw [if_pos c2]
          · have : W - foF (okW m) f N = foF (okW m) f N := Int32.le_antisymm (Int32.not_lt.mp c2) c
            rw [this, if_neg (by rw [this] at c2; exact c2)]
        · rw [am_iff c, if_neg (fun z => c (Int32.le_of_lt z))]
      have mref : ∀ e, (W = 0 → e = -2) → (W ≠ 0 → e = if p = 0 then nI (bA (fun f => maV W (foF (okW m) f N)) (mF m)) else maV W (foF (okW m) (bA (fun f => maV W (foF (okW m) f N)) (mF m)) N)) → f_X12_ask p s2 = some e := by
        intro e he1 he2
        unfold f_X12_ask
        rw [m_isTown (F := mF m) (by rw [em]; exact w.F1) (by omega), am_bds, am_b1 h0, m_in01, am_bds, am_b1 h1]
        by_cases cW : W = 0
        · rw [he1 cW]
          refine am_lp_run (F := am_F) (fun i => (-2, 0, nI i)) (mF m) (fun i hi => ?_) ?_ (by omega)
          · dsimp only
            unfold b_X12_ask_27
            rw [em, w.F1, am_iff (nI_ge hi (by omega))]
            refine inner (-2) 0 i _ hi ?_
            rw [j93]
            unfold j_X12_ask_113
            rw [am_ift cW, am_ltd, nI_1]
          · dsimp only
            unfold b_X12_ask_27 j_X12_ask_145
            rw [em, w.F1, am_ift (nI_le (Nat.le_refl _) (by omega)), am_ift (by decide), am_bds]
        · rw [he2 cW]
          refine am_lp_run (F := am_F) (fun i => (if i = 0 then -2 else nI (bA (fun f => maV W (foF (okW m) f N)) i), if i = 0 then 0 else maV W (foF (okW m) (bA (fun f => maV W (foF (okW m) f N)) i) N), nI i)) (mF m) (fun i hi => ?_) ?_ (by omega)
          · dsimp only
            unfold b_X12_ask_27
            rw [em, w.F1, am_iff (nI_ge hi (by omega))]
            refine inner _ _ i _ hi ?_
            rw [j93]
            unfold j_X12_ask_113 j_X12_ask_133
            have hb := bA_lt (fun f => maV W (foF (okW m) f N)) i
            rw [am_iff cW, am_ltd, nI_1, if_neg (by omega : ¬ i + 1 = 0), if_neg (by omega : ¬ i + 1 = 0), bA]
            by_cases ci : i = 0
            · subst ci
              rw [if_pos rfl, if_pos rfl, if_pos rfl, am_ift (by decide)]
            · rw [if_neg ci, if_neg ci, if_neg ci, am_iff (nI_pos (by omega))]
              by_cases cc : maV W (foF (okW m) i N) < maV W (foF (okW m) (bA (fun f => maV W (foF (okW m) f N)) i) N)
              · rw [am_ift cc, if_pos cc]
              · rw [am_iff cc, if_neg cc, am_ltd]
          · dsimp only
            unfold b_X12_ask_27 j_X12_ask_145
            have hb := bA_lt (fun f => maV W (foF (okW m) f N)) (mF m)
            rw [em, w.F1, am_ift (nI_le (Nat.le_refl _) (by omega)), if_neg (by omega), if_neg (by omega), am_iff (nI_pos (by omega))]
            rcases h1 with rfl | rfl
            · rw [am_ift rfl, am_bds, if_pos rfl]
            · rw [am_iff (by decide), am_bds, if_neg (by decide)]
      rw [am_b1 h1, g1, am_bds, v0]
      by_cases cW : W = 0
      · rw [am_ift cW]
        exact ⟨-2, s2, rfl, mref (-2) (fun _ => rfl) (fun z => absurd cW z), rn, hI2⟩
      · rw [am_iff cW]
        have ma : ∀ f, f < 8 → f_X10_mostAgreeing (nI f) s2 = some (maV W (foF (okW m) f N)) := by
          intro f hf
          unfold f_X10_mostAgreeing
          rw [gd_nI hf (by decide), gd_nI hf (by decide), cL (by omega), v0, v5 f hf]
          rfl
        refine ⟨if p = 0 then nI (bA (fun f => maV W (foF (okW m) f N)) (mF m)) else maV W (foF (okW m) (bA (fun f => maV W (foF (okW m) f N)) (mF m)) N), s2, ?_, mref _ (fun z => absurd z cW) (fun _ => rfl), rn, hI2⟩
        have t16 : s2.1 16 1 = nI (mF m) := by rw [g2 16 (by decide) (by decide)]; exact h.t.F (by rw [hm]; exact w) |>.trans (by rw [hm])
        have key := am_lp_run (body := fun (q : Int32 × Int32) => b_X11_ask_50 p s2 q.1 q.2) (F := am_F) (e := (if p = 0 then nI (bA (fun f => maV W (foF (okW m) f N)) (mF m)) else maV W (foF (okW m) (bA (fun f => maV W (foF (okW m) f N)) (mF m)) N), s2)) (fun i => (nI (bA (fun f => maV W (foF (okW m) f N)) (i + 1)), nI (i + 1))) (mF m - 1) (fun i hi => by
          have hb := bA_lt (fun f => maV W (foF (okW m) f N)) (i + 1)
          dsimp only
          unfold b_X11_ask_50
          rw [t16, am_iff (nI_ge (by omega) (by omega)), ma (i + 1) (by omega), am_bds, ma _ (by omega), am_bds, am_ltd, nI_1, am_ltd]
          have : bA (fun f => maV W (foF (okW m) f N)) (i + 1 + 1) = if maV W (foF (okW m) (i + 1) N) < maV W (foF (okW m) (bA (fun f => maV W (foF (okW m) f N)) (i + 1)) N) then i + 1 else bA (fun f => maV W (foF (okW m) f N)) (i + 1) := by
            rw [bA, if_neg (by omega)]
          rw [this]
          by_cases cc : maV W (foF (okW m) (i + 1) N) < maV W (foF (okW m) (bA (fun f => maV W (foF (okW m) f N)) (i + 1)) N)
          · rw [am_iff (Int32.not_le.mpr cc), if_pos cc]
          · rw [am_ift (Int32.not_lt.mp cc), if_neg cc]) (by
          have hb := bA_lt (fun f => maV W (foF (okW m) f N)) (mF m)
          dsimp only
          unfold b_X11_ask_50 j_X11_ask_91
          rw [show mF m - 1 + 1 = mF m by omega, t16, am_ift (nI_le (Nat.le_refl _) (by omega)), ma _ (by omega), am_bds]
          rcases h1 with rfl | rfl
          · rw [am_ift rfl, am_bds, if_pos rfl]
          · rw [am_iff (by decide), am_bds, if_neg (by decide)]) (by omega)
        exact key
    · refine ⟨-1, s, am_b0 h1, ?_, rn, h⟩
      unfold f_X12_ask
      rw [m_isTown w.F1 (by omega), am_bds, am_b1 h0, m_in01, am_bds, am_b0 h1]
  · refine ⟨-1, s, am_ift ((town0 h).mpr h0), ?_, rn, h⟩
    unfold f_X12_ask
    rw [m_isTown w.F1 (by omega), am_bds, am_b0 h0]
