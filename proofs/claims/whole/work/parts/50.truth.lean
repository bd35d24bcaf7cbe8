/-! truths, ask -/
def eqS (m : Nat → Int32) (way i : Nat) : Bool := decide (b01 (way.testBit (mN m (270 + 3 * i + 1)) = true) = m (270 + 3 * i + 2))
def rtP (m : Nat → Int32) (way c p : Nat) : Bool := (List.range c).any (fun i => decide (p = mN m (270 + 3 * i)) && eqS m way i)
def lyP (m : Nat → Int32) (way c p : Nat) : Bool := (List.range c).any (fun i => decide (p = mN m (270 + 3 * i)) && !eqS m way i)
theorem rtP_1 (m : Nat → Int32) (way c p : Nat) : rtP m way (c + 1) p = (rtP m way c p || (decide (p = mN m (270 + 3 * c)) && eqS m way c)) := by
  unfold rtP
  rw [List.range_succ, List.any_append]
  simp
theorem lyP_1 (m : Nat → Int32) (way c p : Nat) : lyP m way (c + 1) p = (lyP m way c p || (decide (p = mN m (270 + 3 * c)) && !eqS m way c)) := by
  unfold lyP
  rw [List.range_succ, List.any_append]
  simp
def rtB (m : Nat → Int32) (way : Nat) : Nat := bitsOf (rtP m way (mN m 326)) 7
def lyB (m : Nat → Int32) (way : Nat) : Nat := bitsOf (lyP m way (mN m 326)) 7
def okW (m : Nat → Int32) (way : Nat) : Bool := decide (lyB m way &&& rtB m way = 0)
theorem rtP_out {m : Nat → Int32} {way p : Nat} (w : wfT m) (sw : wfS m) (hp : mP m ≤ p) : rtP m way (mN m 326) p = false := by
  unfold rtP
  rw [List.any_eq_false]
  intro i hi
  have := (sw.2.2.1 i (List.mem_range.mp hi)).1.2
  have : ¬ p = mN m (270 + 3 * i) := by omega
  simp [this]
theorem lyP_out {m : Nat → Int32} {way p : Nat} (w : wfT m) (sw : wfS m) (hp : mP m ≤ p) : lyP m way (mN m 326) p = false := by
  unfold lyP
  rw [List.any_eq_false]
  intro i hi
  have := (sw.2.2.1 i (List.mem_range.mp hi)).1.2
  have : ¬ p = mN m (270 + 3 * i) := by omega
  simp [this]
theorem okW_iff {m : Nat → Int32} {way : Nat} (w : wfT m) (sw : wfS m) : okW m way = true ↔ ∀ p, p < mP m → ¬ (rtP m way (mN m 326) p = true ∧ lyP m way (mN m 326) p = true) := by
  have hP := w.P7
  unfold okW lyB rtB
  rw [decide_eq_true_eq, and_zb]
  constructor
  · rintro h p hp ⟨h1, h2⟩
    have := h p (by rw [bitsOf_bit, h2, decide_eq_true (by omega : p < 7)]; rfl)
    rw [bitsOf_bit, h1, decide_eq_true (by omega : p < 7)] at this
    exact absurd this (by decide)
  · intro h p hp
    rw [bitsOf_bit, Bool.and_eq_true] at hp
    by_cases c : p < mP m
    · have := h p c
      rw [bitsOf_bit]
      by_cases c2 : rtP m way (mN m 326) p = true
      · exact absurd ⟨c2, hp.2⟩ this
      · have : rtP m way (mN m 326) p = false := by simpa using c2
        rw [this, Bool.and_false]
    · rw [lyP_out w sw (by omega)] at hp
      exact absurd hp.2 (by decide)
/-- the class: who is right, who lies -/
theorem c_weighW {m : Nat → Int32} {s e : am_S} {way : Nat} (w : wfT m) (sw : wfS m) (h4 : s.1 15 4 = m 326) (h29 : ∀ j, j < 3 * mN m 326 → s.1 29 j = m (270 + j)) (hway : way < 256) (hj : j_X10_weighWay_80 (nI way) (nI (lyB m way)) (nI (rtB m way)) s = some e) : f_X10_weighWay (nI way) s = some e := by
  have hP := w.P7
  have hF := w.F8
  have hc := sw.1.2
  have e4 : am_F = 4000 := rfl
  unfold f_X10_weighWay
  have e0 : ((0 : Int32), (0 : Int32), (0 : Int32)) = (nI (bitsOf (lyP m way 0) 7), nI (bitsOf (rtP m way 0) 7), nI 0) := rfl
  rw [e0]
  refine am_lp_run (F := am_F) (fun i => (nI (bitsOf (lyP m way i) 7), nI (bitsOf (rtP m way i) 7), nI i)) (mN m 326) (fun i hi => ?_) ?_ (by omega)
  · obtain ⟨w1, w2, w3⟩ := sw.2.2.1 i hi
    have l1 := w1.2
    have l2 := w2.2
    dsimp only
    unfold b_X10_weighWay_8
    rw [h4, sw.1.1, am_iff (nI_ge hi (by omega))]
    simp (disch := omega) only [am_ltd, pk_mul, nI_add, nI_1, gd2, cL]
    rw [h29 (3 * i) (by omega), h29 (3 * i + 1) (by omega), h29 (3 * i + 2) (by omega), show 270 + (3 * i + 1) = 270 + 3 * i + 1 by omega, show 270 + (3 * i + 2) = 270 + 3 * i + 2 by omega, w1.e, w2.e, c_bit, am_bds, bitb (by omega) (by omega), or_bit (by omega) (by decide), or_bit (by omega) (by decide)]
    have er : bitsOf (rtP m way (i + 1)) 7 = bitsOf (fun p => rtP m way i p || (decide (p = mN m (270 + 3 * i)) && eqS m way i)) 7 := bitsOf_congr 7 (fun p _ => rtP_1 m way i p)
    have el : bitsOf (lyP m way (i + 1)) 7 = bitsOf (fun p => lyP m way i p || (decide (p = mN m (270 + 3 * i)) && !eqS m way i)) 7 := bitsOf_congr 7 (fun p _ => lyP_1 m way i p)
    rw [er, el]
    by_cases c : b01 (way.testBit (mN m (270 + 3 * i + 1)) = true) = m (270 + 3 * i + 2)
    · have ec : eqS m way i = true := decide_eq_true c
      rw [am_ift c, ec]
      simp
    · have ec : eqS m way i = false := decide_eq_false c
      rw [am_iff c, ec]
      simp
  · dsimp only
    unfold b_X10_weighWay_8
    rw [h4, sw.1.1, am_ift (nI_le (Nat.le_refl _) (by omega))]
    show am_bd (j_X10_weighWay_80 (nI way) (nI (lyB m way)) (nI (rtB m way)) s) _ = _
    rw [hj, am_bds]
theorem c_addWay {x : am_S} {way : Nat} {l r : Int32} : ∃ x2, f_X10_addWay (nI way) l r x = some x2 ∧ (∀ c, c ≠ 135 → c ≠ 136 → x2.1 c = x.1 c) ∧ x2.2 = x.2 ∧ x2.1 135 0 = x.1 135 0 + 1 ∧ x2.1 135 1 = x.1 135 1 &&& nI way ∧ x2.1 135 2 = x.1 135 2 &&& (nI way ^^^ (-1 : Int32)) ∧ x2.1 135 3 = x.1 135 3 &&& l ∧ x2.1 135 4 = x.1 135 4 &&& r ∧ ∀ f, f < 8 → x2.1 136 f = x.1 136 f + ((nI way >>> (nI f &&& 31)) &&& 1) := by
  have e4 : am_F = 4000 := rfl
  unfold f_X10_addWay
  rw [am_ltd, am_ltd, am_ltd, am_ltd, am_ltd]
  generalize hs8 : as_i (as_i (as_i (as_i (as_i x 135 0 (x.1 135 0 + 1)) 135 1 ((as_i x 135 0 (x.1 135 0 + 1)).1 135 1 &&& nI way)) 135 2 ((as_i (as_i x 135 0 (x.1 135 0 + 1)) 135 1 ((as_i x 135 0 (x.1 135 0 + 1)).1 135 1 &&& nI way)).1 135 2 &&& (nI way ^^^ (-1 : Int32)))) 135 3 ((as_i (as_i (as_i x 135 0 (x.1 135 0 + 1)) 135 1 ((as_i x 135 0 (x.1 135 0 + 1)).1 135 1 &&& nI way)) 135 2 ((as_i (as_i x 135 0 (x.1 135 0 + 1)) 135 1 ((as_i x 135 0 (x.1 135 0 + 1)).1 135 1 &&& nI way)).1 135 2 &&& (nI way ^^^ (-1 : Int32)))).1 135 3 &&& l)) 135 4 ((as_i (as_i (as_i (as_i x 135 0 (x.1 135 0 + 1)) 135 1 ((as_i x 135 0 (x.1 135 0 + 1)).1 135 1 &&& nI way)) 135 2 ((as_i (as_i x 135 0 (x.1 135 0 + 1)) 135 1 ((as_i x 135 0 (x.1 135 0 + 1)).1 135 1 &&& nI way)).1 135 2 &&& (nI way ^^^ (-1 : Int32)))) 135 3 ((as_i (as_i (as_i x 135 0 (x.1 135 0 + 1)) 135 1 ((as_i x 135 0 (x.1 135 0 + 1)).1 135 1 &&& nI way)) 135 2 ((as_i (as_i x 135 0 (x.1 135 0 + 1)) 135 1 ((as_i x 135 0 (x.1 135 0 + 1)).1 135 1 &&& nI way)).1 135 2 &&& (nI way ^^^ (-1 : Int32)))).1 135 3 &&& l)).1 135 4 &&& r) = s8
  have o8 : ∀ c, c ≠ 135 → s8.1 c = x.1 c := fun c hc => by rw [← hs8, as_i1 hc, as_i1 hc, as_i1 hc, as_i1 hc, as_i1 hc]
  have z8 : s8.2 = x.2 := by rw [← hs8, as_i4, as_i4, as_i4, as_i4, as_i4]
  have v0 : s8.1 135 0 = x.1 135 0 + 1 := by rw [← hs8, as_i2 (by decide), as_i2 (by decide), as_i2 (by decide), as_i2 (by decide), as_i3]
  have v1 : s8.1 135 1 = x.1 135 1 &&& nI way := by rw [← hs8, as_i2 (by decide), as_i2 (by decide), as_i2 (by decide), as_i3, as_i2 (by decide)]
  have v2 : s8.1 135 2 = x.1 135 2 &&& (nI way ^^^ (-1 : Int32)) := by rw [← hs8, as_i2 (by decide), as_i2 (by decide), as_i3, as_i2 (by decide), as_i2 (by decide)]
  have v3 : s8.1 135 3 = x.1 135 3 &&& l := by rw [← hs8, as_i2 (by decide), as_i3, as_i2 (by decide), as_i2 (by decide), as_i2 (by decide)]
  have v4 : s8.1 135 4 = x.1 135 4 &&& r := by rw [← hs8, as_i3, as_i2 (by decide), as_i2 (by decide), as_i2 (by decide), as_i2 (by decide)]
  clear hs8
  have hrun := am_lp_run (body := fun (q : Int32 × am_S) => b_X10_addWay_55 (nI way) q.1 q.2) (F := am_F) (e := as_w s8 136 (fun f => if f < 8 then s8.1 136 f + ((nI way >>> (nI f &&& 31)) &&& 1) else s8.1 136 f)) (fun i => (nI i, as_w s8 136 (fun f => if f < i then s8.1 136 f + ((nI way >>> (nI f &&& 31)) &&& 1) else s8.1 136 f))) 8 (fun i hi => by
    dsimp only
    unfold b_X10_addWay_55
    rw [am_iff (nI_ge hi (by decide)), gd_nI hi (by decide), c_bit, am_bds, gd_nI hi (by decide), cL (by omega), am_ltd, am_ltd, nI_1, as_w3, as_iw, if_neg (by omega)]
    congr 4
    funext f
    by_cases e : f = i
    · subst e; rw [upd_s, if_pos (by omega)]
    · rw [upd_n e]
      by_cases e2 : f < i
      · rw [if_pos e2, if_pos (by omega)]
      · rw [if_neg e2, if_neg (by omega)]) (by
    dsimp only
    unfold b_X10_addWay_55
    rw [am_ift (by decide)]) (by omega)
  have e0 : (fun f => if f < 0 then s8.1 136 f + ((nI way >>> (nI f &&& 31)) &&& 1) else s8.1 136 f) = s8.1 136 := by
    funext f
    exact if_neg (by omega)
  rw [e0, as_w_self] at hrun
  refine ⟨_, hrun, fun c c1 c2 => by rw [as_w1 c2, o8 c c1], z8, by rw [as_w1 (by decide)]; exact v0, by rw [as_w1 (by decide)]; exact v1, by rw [as_w1 (by decide)]; exact v2, by rw [as_w1 (by decide)]; exact v3, by rw [as_w1 (by decide)]; exact v4, fun f hf => ?_⟩
  rw [as_w3, if_pos hf, o8 136 (by decide)]
/-- folding over ways that can be -/
def fo (ok : Nat → Bool) (init : Int32) (op : Int32 → Nat → Int32) : Nat → Int32
  | 0 => init
  | i + 1 => if ok i = true then op (fo ok init op i) i else fo ok init op i
theorem fo_t {ok : Nat → Bool} {init : Int32} {op : Int32 → Nat → Int32} {i : Nat} (h : ok i = true) : fo ok init op (i + 1) = op (fo ok init op i) i := if_pos h
theorem fo_f {ok : Nat → Bool} {init : Int32} {op : Int32 → Nat → Int32} {i : Nat} (h : ¬ ok i = true) : fo ok init op (i + 1) = fo ok init op i := if_neg h
abbrev foW (ok : Nat → Bool) : Nat → Int32 := fo ok 0 (fun a _ => a + 1)
abbrev foS (ok : Nat → Bool) (A : Int32) : Nat → Int32 := fo ok A (fun a i => a &&& nI i)
abbrev foN (ok : Nat → Bool) (A : Int32) : Nat → Int32 := fo ok A (fun a i => a &&& (nI i ^^^ (-1 : Int32)))
abbrev foB (ok : Nat → Bool) (A : Int32) (g : Nat → Nat) : Nat → Int32 := fo ok A (fun a i => a &&& nI (g i))
abbrev foF (ok : Nat → Bool) (f : Nat) : Nat → Int32 := fo ok 0 (fun a i => a + ((nI i >>> (nI f &&& 31)) &&& 1))
theorem foW_t {ok : Nat → Bool} {i : Nat} (h : ok i = true) : foW ok (i + 1) = foW ok i + 1 := if_pos h
theorem foS_t {ok : Nat → Bool} {A : Int32} {i : Nat} (h : ok i = true) : foS ok A (i + 1) = foS ok A i &&& nI i := if_pos h
theorem foN_t {ok : Nat → Bool} {A : Int32} {i : Nat} (h : ok i = true) : foN ok A (i + 1) = foN ok A i &&& (nI i ^^^ (-1 : Int32)) := if_pos h
theorem foB_t {ok : Nat → Bool} {A : Int32} {g : Nat → Nat} {i : Nat} (h : ok i = true) : foB ok A g (i + 1) = foB ok A g i &&& nI (g i) := if_pos h
theorem foF_t {ok : Nat → Bool} {f : Nat} {i : Nat} (h : ok i = true) : foF ok f (i + 1) = foF ok f i + ((nI i >>> (nI f &&& 31)) &&& 1) := if_pos h
theorem foW_n (ok : Nat → Bool) : ∀ i, ∃ n, n ≤ i ∧ foW ok i = nI n ∧ (n = 0 → ∀ j, j < i → ok j = false)
  | 0 => ⟨0, Nat.le_refl _, rfl, fun _ j hj => by omega⟩
  | i + 1 => by
    obtain ⟨n, h1, h2, h3⟩ := foW_n ok i
    by_cases c : ok i = true
    · exact ⟨n + 1, by omega, by show fo ok 0 _ (i + 1) = _; rw [fo_t c]; show foW ok i + 1 = _; rw [h2, nI_1], fun z => by omega⟩
    · refine ⟨n, by omega, by show fo ok 0 _ (i + 1) = _; rw [fo_f c]; exact h2, fun z j hj => ?_⟩
      by_cases e : j = i
      · subst e; simpa using c
      · exact h3 z j (by omega)
theorem foB_eq {ok : Nat → Bool} {a b : Int32} {g : Nat → Nat} (h : ∀ i, a &&& nI (g i) = b &&& nI (g i)) : ∀ i, foB ok a g i = foB ok b g i ∨ ((∀ j, j < i → ok j = false) ∧ foB ok a g i = a ∧ foB ok b g i = b)
  | 0 => Or.inr ⟨fun j hj => by omega, rfl, rfl⟩
  | i + 1 => by
    by_cases c : ok i = true
    · left
      show fo ok a _ (i + 1) = fo ok b _ (i + 1)
      rw [fo_t c, fo_t c]
      rcases foB_eq h i with z | ⟨-, z2, z3⟩
      · show foB ok a g i &&& _ = foB ok b g i &&& _
        rw [z]
      · show foB ok a g i &&& _ = foB ok b g i &&& _
        rw [z2, z3, h i]
    · rcases foB_eq (ok := ok) h i with z | ⟨z1, z2, z3⟩
      · left
        show fo ok a _ (i + 1) = fo ok b _ (i + 1)
        rw [fo_f c, fo_f c]
        exact z
      · right
        refine ⟨fun j hj => ?_, ?_, ?_⟩
        · by_cases e : j = i
          · subst e; simpa using c
          · exact z1 j (by omega)
        · show fo ok a _ (i + 1) = a
          rw [fo_f c]; exact z2
        · show fo ok b _ (i + 1) = b
          rw [fo_f c]; exact z3
theorem c_weigh {m : Nat → Int32} {s : am_S} (w : wfT m) (sw : wfS m) (t : townAt m s) (h4 : s.1 15 4 = m 326) (h29 : ∀ j, j < 3 * mN m 326 → s.1 29 j = m (270 + j)) : ∃ s2, f_X10_weigh s = some s2 ∧ (∀ c, c ≠ 135 → c ≠ 136 → s2.1 c = s.1 c) ∧ s2.2 = s.2 ∧ s2.1 135 0 = foW (okW m) (2 ^ mF m) ∧ s2.1 135 1 = foS (okW m) (nI (2 ^ mF m - 1)) (2 ^ mF m) ∧ s2.1 135 2 = foN (okW m) (nI (2 ^ mF m - 1)) (2 ^ mF m) ∧ s2.1 135 3 = foB (okW m) (nI 127) (lyB m) (2 ^ mF m) ∧ s2.1 135 4 = foB (okW m) (nI 127) (rtB m) (2 ^ mF m) ∧ ∀ f, f < 8 → s2.1 136 f = foF (okW m) f (2 ^ mF m) := by
  have hF := w.F8
  have h2F : 2 ^ mF m ≤ 256 := pow_le (k := 8) hF
  have hpos : 0 < 2 ^ mF m := Nat.two_pow_pos _
  have e4 : am_F = 4000 := rfl
  have e1 : nI (2 ^ mF m) - 1 = nI (2 ^ mF m - 1) := pk_sub (b := 1) (by omega)
  unfold f_X10_weigh
  rw [t.F w, sh_l (by omega), e1]
  generalize 2 ^ mF m = N at *
  simp only [am_ltd]
  generalize hs6 : as_i (as_i (as_i (as_i (as_i s 135 0 0) 135 1 (nI (N - 1))) 135 2 (nI (N - 1))) 135 3 (nI 127)) 135 4 ((as_i (as_i (as_i (as_i s 135 0 0) 135 1 (nI (N - 1))) 135 2 (nI (N - 1))) 135 3 (nI 127)).1 135 3) = s6
  have o6 : ∀ c, c ≠ 135 → s6.1 c = s.1 c := fun c hc => by rw [← hs6, as_i1 hc, as_i1 hc, as_i1 hc, as_i1 hc, as_i1 hc]
  have z6 : s6.2 = s.2 := by rw [← hs6, as_i4, as_i4, as_i4, as_i4, as_i4]
  have v0 : s6.1 135 0 = 0 := by rw [← hs6, as_i2 (by decide), as_i2 (by decide), as_i2 (by decide), as_i2 (by decide), as_i3]
  have v1 : s6.1 135 1 = nI (N - 1) := by rw [← hs6, as_i2 (by decide), as_i2 (by decide), as_i2 (by decide), as_i3]
  have v2 : s6.1 135 2 = nI (N - 1) := by rw [← hs6, as_i2 (by decide), as_i2 (by decide), as_i3]
  have v3 : s6.1 135 3 = nI 127 := by rw [← hs6, as_i2 (by decide), as_i3]
  have v4 : s6.1 135 4 = nI 127 := by rw [← hs6, as_i3, as_i3]
  rw [c_fill (a := 136) (len := 8) (by decide) (by decide) (by decide), am_bds]
  have key := lp_ind (body := fun (q : Int32 × am_S) => b_X10_weigh_51 (nI (N - 1)) q.1 q.2) N (fun i q => q.1 = nI i ∧ (∀ c, c ≠ 135 → c ≠ 136 → q.2.1 c = s.1 c) ∧ q.2.2 = s.2 ∧ q.2.1 135 0 = foW (okW m) i ∧ q.2.1 135 1 = foS (okW m) (nI (N - 1)) i ∧ q.2.1 135 2 = foN (okW m) (nI (N - 1)) i ∧ q.2.1 135 3 = foB (okW m) (nI 127) (lyB m) i ∧ q.2.1 135 4 = foB (okW m) (nI 127) (rtB m) i ∧ ∀ f, f < 8 → q.2.1 136 f = foF (okW m) f i) (fun s2 => (∀ c, c ≠ 135 → c ≠ 136 → s2.1 c = s.1 c) ∧ s2.2 = s.2 ∧ s2.1 135 0 = foW (okW m) N ∧ s2.1 135 1 = foS (okW m) (nI (N - 1)) N ∧ s2.1 135 2 = foN (okW m) (nI (N - 1)) N ∧ s2.1 135 3 = foB (okW m) (nI 127) (lyB m) N ∧ s2.1 135 4 = foB (okW m) (nI 127) (rtB m) N ∧ ∀ f, f < 8 → s2.1 136 f = foF (okW m) f N) ?_ ?_ (F := am_F) (by omega) ((0 : Int32), as_w s6 136 (cpv (s6.1 136) 0 8 (fun _ => 0))) ⟨rfl, fun c c1 c2 => by dsimp only; rw [as_w1 c2, o6 c c1], z6, by dsimp only; rw [as_w1 (by decide)]; exact v0, by dsimp only; rw [as_w1 (by decide)]; exact v1, by dsimp only; rw [as_w1 (by decide)]; exact v2, by dsimp only; rw [as_w1 (by decide)]; exact v3, by dsimp only; rw [as_w1 (by decide)]; exact v4, fun f hf => by dsimp only; rw [as_w3, cpv_in (by omega) (by omega)]; rfl⟩
  · obtain ⟨s2, g1, g2⟩ := key
    exact ⟨s2, g1, g2⟩
  · rintro i hi ⟨q, x⟩ ⟨h1, o, z, x0, x1, x2, x3, x4, x5⟩
    dsimp only at h1 o z x0 x1 x2 x3 x4 x5
    subst h1
    left
    have hj : j_X10_weighWay_80 (nI i) (nI (lyB m i)) (nI (rtB m i)) x = am_if (b01 (okW m i = true) = 0) (some x) (f_X10_addWay (nI i) (nI (lyB m i)) (nI (rtB m i)) x) := by
      unfold j_X10_weighWay_80
      have hz : (nI (lyB m i) &&& nI (rtB m i) = 0) ↔ okW m i = true := by
        unfold okW
        rw [decide_eq_true_eq]
        exact and_z (bitsOf_lt _ 7)
      by_cases c : okW m i = true
      · rw [am_ift (hz.mpr c), am_b1 c]
        cases f_X10_addWay (nI i) (nI (lyB m i)) (nI (rtB m i)) x with
        | none => rfl
        | some e => rfl
      · rw [am_iff (fun y => c (hz.mp y)), am_b0 c]
    by_cases c : okW m i = true
    · obtain ⟨y, a1, a2, a3, a4, a5, a6, a7, a8, a9⟩ := c_addWay (x := x) (way := i) (l := nI (lyB m i)) (r := nI (rtB m i))
      rw [am_b1 c, a1] at hj
      refine ⟨(nI (i + 1), y), ?_, rfl, fun d d1 d2 => by dsimp only; rw [a2 d d1 d2, o d d1 d2], a3.trans z, ?_, ?_, ?_, ?_, ?_, fun f hf => ?_⟩
      · dsimp only
        unfold b_X10_weigh_51
        rw [am_iff (nI_nlt (by omega) (by omega)), c_weighW w sw (by rw [o 15 (by decide) (by decide)]; exact h4) (by rw [o 29 (by decide) (by decide)]; exact h29) (by omega) hj, am_bds, am_ltd, nI_1]
      · dsimp only; rw [a4, x0]; exact (foW_t c).symm
      · dsimp only; rw [a5, x1]; exact (foS_t c).symm
      · dsimp only; rw [a6, x2]; exact (foN_t c).symm
      · dsimp only; rw [a7, x3]; exact (foB_t c).symm
      · dsimp only; rw [a8, x4]; exact (foB_t c).symm
      · dsimp only; rw [a9 f hf, x5 f hf]; exact (foF_t c).symm
    · rw [am_b0 c] at hj
      refine ⟨(nI (i + 1), x), ?_, rfl, o, z, ?_, ?_, ?_, ?_, ?_, fun f hf => ?_⟩
      · dsimp only
        unfold b_X10_weigh_51
        rw [am_iff (nI_nlt (by omega) (by omega)), c_weighW w sw (by rw [o 15 (by decide) (by decide)]; exact h4) (by rw [o 29 (by decide) (by decide)]; exact h29) (by omega) hj, am_bds, am_ltd, nI_1]
      · dsimp only; rw [x0]; exact (fo_f c).symm
      · dsimp only; rw [x1]; exact (fo_f c).symm
      · dsimp only; rw [x2]; exact (fo_f c).symm
      · dsimp only; rw [x3]; exact (fo_f c).symm
      · dsimp only; rw [x4]; exact (fo_f c).symm
      · dsimp only; rw [x5 f hf]; exact (fo_f c).symm
  · rintro ⟨q, x⟩ ⟨h1, o, z, x0, x1, x2, x3, x4, x5⟩
    dsimp only at h1 o z x0 x1 x2 x3 x4 x5
    subst h1
    refine ⟨x, ?_, o, z, x0, x1, x2, x3, x4, x5⟩
    dsimp only
    unfold b_X10_weigh_51
    rw [am_ift (nI_lt (by omega) (by omega))]
