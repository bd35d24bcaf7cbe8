/-! something is said, in both -/
theorem upd_comm {g : Nat → Int32} {a b : Nat} {x y : Int32} (h : a ≠ b) : upd (upd g a x) b y = upd (upd g b y) a x := by
  funext q
  by_cases c1 : q = a
  · subst c1; rw [upd_n h, upd_s, upd_s]
  · rw [upd_n c1]
    by_cases c2 : q = b
    · subst c2; rw [upd_s, upd_s]
    · rw [upd_n c2, upd_n c2, upd_n c1]
def liedM (m : Nat → Int32) (j : Nat) : Nat → Int32 := if m (123 + j) + 1 = nI 2 ∧ m 9 < 0 then upd (upd (upd m (123 + j) (m (123 + j) + 1)) 8 (m 7)) 9 (nI j) else upd m (123 + j) (m (123 + j) + 1)
def toldM (m : Nat → Int32) (i j f : Nat) (v : Int32) : Nat → Int32 := if m (11 + 16 * j + 2 * f) = nI 2 ∨ ¬ m (130 + (7 * j + i)) < m (11 + 16 * j + 2 * f + 1) then upd (upd m (11 + 16 * j + 2 * f) v) (11 + 16 * j + 2 * f + 1) (m (130 + (7 * j + i))) else m
def saidM (m : Nat → Int32) (i j f : Nat) (v : Int32) (lie : Bool) : Nat → Int32 := toldM (if lie then liedM m j else m) i j f v
theorem liedM_n {m : Nat → Int32} {j q : Nat} (h1 : q ≠ 8) (h2 : q ≠ 9) (h3 : q ≠ 123 + j) : liedM m j q = m q := by
  unfold liedM
  split
  · rw [upd_n h2, upd_n h1, upd_n h3]
  · rw [upd_n h3]
theorem liedM_at {m : Nat → Int32} {j : Nat} : liedM m j (123 + j) = m (123 + j) + 1 := by
  unfold liedM
  split
  · rw [upd_n (by omega), upd_n (by omega), upd_s]
  · rw [upd_s]
theorem toldM_n {m : Nat → Int32} {i j f q : Nat} {v : Int32} (h1 : q ≠ 11 + 16 * j + 2 * f) (h2 : q ≠ 11 + 16 * j + 2 * f + 1) : toldM m i j f v q = m q := by
  unfold toldM
  split
  · rw [upd_n h2, upd_n h1]
  · rfl
theorem liedM_agL {m : Nat → Int32} {j : Nat} (hj : j < 7) : agL m (liedM m j) := fun q hq => liedM_n (by omega) (by omega) (by omega)
theorem toldM_agL {m : Nat → Int32} {i j f : Nat} {v : Int32} (hj : j < 7) (hf : f < 8) : agL m (toldM m i j f v) := fun q hq => toldM_n (by omega) (by omega)
theorem lied_told {m : Nat → Int32} {i j f : Nat} {v : Int32} (hj : j < 7) (hf : f < 8) : liedM (toldM m i j f v) j = toldM (liedM m j) i j f v := by
  have c0 : ∀ q, q ≠ 11 + 16 * j + 2 * f → q ≠ 11 + 16 * j + 2 * f + 1 → toldM m i j f v q = m q := fun q h1 h2 => toldM_n h1 h2
  have d0 : ∀ q, q ≠ 8 → q ≠ 9 → q ≠ 123 + j → liedM m j q = m q := fun q h1 h2 h3 => liedM_n h1 h2 h3
  unfold liedM
  rw [c0 (123 + j) (by omega) (by omega), c0 9 (by omega) (by omega), c0 7 (by omega) (by omega)]
  have e1 : toldM (liedM m j) i j f v = if m (11 + 16 * j + 2 * f) = nI 2 ∨ ¬ m (130 + (7 * j + i)) < m (11 + 16 * j + 2 * f + 1) then upd (upd (liedM m j) (11 + 16 * j + 2 * f) v) (11 + 16 * j + 2 * f + 1) (m (130 + (7 * j + i))) else liedM m j := by
    unfold toldM
    rw [d0 (11 + 16 * j + 2 * f) (by omega) (by omega) (by omega), d0 (11 + 16 * j + 2 * f + 1) (by omega) (by omega) (by omega), d0 (130 + (7 * j + i)) (by omega) (by omega) (by omega)]
  have e2 : ∀ M, (M = if m (123 + j) + 1 = nI 2 ∧ m 9 < 0 then upd (upd (upd m (123 + j) (m (123 + j) + 1)) 8 (m 7)) 9 (nI j) else upd m (123 + j) (m (123 + j) + 1)) → toldM M i j f v = if m (11 + 16 * j + 2 * f) = nI 2 ∨ ¬ m (130 + (7 * j + i)) < m (11 + 16 * j + 2 * f + 1) then upd (upd M (11 + 16 * j + 2 * f) v) (11 + 16 * j + 2 * f + 1) (m (130 + (7 * j + i))) else M := fun M hM => by
    have : M = liedM m j := hM
    rw [this]
    exact e1
  rw [e2 _ rfl]
  unfold toldM
  by_cases t : m (11 + 16 * j + 2 * f) = nI 2 ∨ ¬ m (130 + (7 * j + i)) < m (11 + 16 * j + 2 * f + 1)
  · rw [if_pos t, if_pos t]
    by_cases b : m (123 + j) + 1 = nI 2 ∧ m 9 < 0
    · rw [if_pos b, if_pos b, upd_comm (a := 11 + 16 * j + 2 * f + 1) (b := 123 + j) (by omega), upd_comm (a := 11 + 16 * j + 2 * f + 1) (b := 8) (by omega), upd_comm (a := 11 + 16 * j + 2 * f + 1) (b := 9) (by omega), upd_comm (a := 11 + 16 * j + 2 * f) (b := 123 + j) (by omega), upd_comm (a := 11 + 16 * j + 2 * f) (b := 8) (by omega), upd_comm (a := 11 + 16 * j + 2 * f) (b := 9) (by omega)]
    · rw [if_neg b, if_neg b, upd_comm (a := 11 + 16 * j + 2 * f + 1) (b := 123 + j) (by omega), upd_comm (a := 11 + 16 * j + 2 * f) (b := 123 + j) (by omega)]
  · rw [if_neg t, if_neg t]
/-- the reference: something is told -/
theorem m_isTold {m : Nat → Int32} {s : am_S} {i j f : Nat} {v : Int32} (hi : i < 7) (hj : j < 7) (hf : f < 8) : f_X12_isTold (nI i) (nI j) (nI f) v (as_w s 258 m) = some (as_w s 258 (toldM m i j f v)) := by
  unfold f_X12_isTold j_X12_isTold_29 toldM
  rw [m_trustOf hj hi, am_bds, m_holdOf hj hf, am_bds, m_strengthOf hj hf, am_bds, as_w3, m_holdsNow hj hf, am_bds, as_iw, as_iw]
  by_cases c : m (11 + 16 * j + 2 * f) = nI 2
  · rw [am_ift c, if_pos (Or.inl c)]
  · rw [am_iff c]
    by_cases c2 : m (130 + (7 * j + i)) < m (11 + 16 * j + 2 * f + 1)
    · rw [am_ift c2, if_neg (fun z => z.elim c (fun z => z c2))]
    · rw [am_iff c2, if_pos (Or.inr c2)]
/-- the class: somebody was lied to -/
theorem c_countLie {k : Nat} {m : Nat → Int32} {x : am_S} {L j : Nat} (w : wfT m) (lk : wfL k m) (hL : L ∈ am_isL) (l : lifeAt m x L) (hj : j < mP m) : ∃ x2, f_X2_countLie L (nI j) x = some x2 ∧ lifeAt (liedM m j) x2 L ∧ (∀ c, c ≠ L → c ≠ L + 4 → x2.1 c = x.1 c) ∧ x2.2 = x.2 := by
  have h24 := iL_ge L hL
  have hP := w.P7
  have h0 : 0 < mF m := w.fp (by omega)
  have agl := liedM_agL (m := m) (j := j) (by omega)
  have ag : agH m (liedM m j) ∨ True := Or.inr trivial
  have e4 : x.1 (L + 4) j = m (123 + j) := by rw [l.li (by omega), if_pos hj]
  have e7 : x.1 L 7 = m 9 := (l.2.2.1 h0).1
  have e9 : (m 9 < 0) ↔ m 9 = -1 := by
    rcases lk.2.2.1 h0 with c | c
    · rw [c]; decide
    · have := c.2
      have := nI_pos (n := mN m 9) (by omega)
      rw [c.e]
      exact ⟨fun z => absurd z this, fun z => by rw [z] at this; exact absurd (by decide) this⟩
  have held : ∀ p f, p < mP m → f < mF m → liedM m j (11 + 16 * p + 2 * f) = m (11 + 16 * p + 2 * f) ∧ liedM m j (11 + 16 * p + 2 * f + 1) = m (11 + 16 * p + 2 * f + 1) := fun p f hp hf => by
    have := w.F8
    exact ⟨liedM_n (by omega) (by omega) (by omega), liedM_n (by omega) (by omega) (by omega)⟩
  have fin : ∀ k0 k4 : Nat → Int32, k0 4 = m 6 → k0 5 = m 7 → (k0 7 = liedM m j 9 ∧ (liedM m j 9 ≠ -1 → k0 6 = liedM m j 8)) → (∀ p, p < 7 → k4 p = if p = j then m (123 + j) + 1 else x.1 (L + 4) p) → clL (liedM m j) k0 (x.1 (L + 1)) (x.1 (L + 2)) (x.1 (L + 3)) k4 := by
    intro k0 k4 q1 q2 q3 q4
    refine ⟨by rw [q1, liedM_n (by decide) (by decide) (by omega)], by rw [q2, liedM_n (by decide) (by decide) (by omega)], fun _ => q3, fun p hp => ?_, fun p f hp hf => ?_, fun p f hp hf => ?_⟩
    · rw [q4 p hp, agl.t.mP]
      by_cases e : p = j
      · subst e; rw [if_pos rfl, if_pos hj, liedM_at]
      · rw [if_neg e, l.li hp]
        by_cases e2 : p < mP m
        · rw [if_pos e2, if_pos e2, liedM_n (by omega) (by omega) (by omega)]
        · rw [if_neg e2, if_neg e2]
    · rw [agl.t.mP] at hp
      rw [heldR_eq agl.t w (fun f hf => (held p f hp hf).1), bel_eq agl.t w (fun f hf => (held p f hp hf).1)]
      exact l.2.2.2.2.1 p f hp hf
    · rw [agl.t.mP] at hp
      rw [agl.t.mF] at hf
      rw [(held p f hp hf).2]
      exact l.2.2.2.2.2 p f hp hf
  have e0 : f_X2_countLie L (nI j) x = am_if (m (123 + j) + 1 = nI 2) (am_if (m 9 = -1) (some (as_i (as_i (as_i x (L + 4) j (m (123 + j) + 1)) L 6 (m 7)) L 7 (nI j))) (some (as_i x (L + 4) j (m (123 + j) + 1)))) (some (as_i x (L + 4) j (m (123 + j) + 1))) := by
    unfold f_X2_countLie
    rw [am_gdt hL, gd_nI (by omega) (by decide), gd_nI (by omega) (by decide), cL (by omega), am_ltd, gd2 (by omega) (by decide), as_i3, e4, as_i1 (by omega : L ≠ L + 4), e7, l.hr, am_ltd, am_ltd]
  have k4 : ∀ p, p < 7 → (as_i x (L + 4) j (m (123 + j) + 1)).1 (L + 4) p = if p = j then m (123 + j) + 1 else x.1 (L + 4) p := fun p hp => by
    by_cases e : p = j
    · subst e; rw [as_i3, if_pos rfl]
    · rw [as_i2 e, if_neg e]
  by_cases c1 : m (123 + j) + 1 = nI 2
  · by_cases c2 : m 9 = -1
    · rw [am_ift c1, am_ift c2] at e0
      refine ⟨_, e0, ?_, fun c h1 h2 => by rw [as_i1 h1, as_i1 h1, as_i1 h2], rfl⟩
      have m9 : liedM m j 9 = nI j := by
        unfold liedM
        rw [if_pos ⟨c1, e9.mpr c2⟩, upd_s]
      have m8 : liedM m j 8 = m 7 := by
        unfold liedM
        rw [if_pos ⟨c1, e9.mpr c2⟩, upd_n (by decide), upd_s]
      unfold lifeAt
      rw [as_i1 (by omega : L + 1 ≠ L), as_i1 (by omega : L + 1 ≠ L), as_i1 (by omega : L + 1 ≠ L + 4), as_i1 (by omega : L + 2 ≠ L), as_i1 (by omega : L + 2 ≠ L), as_i1 (by omega : L + 2 ≠ L + 4), as_i1 (by omega : L + 3 ≠ L), as_i1 (by omega : L + 3 ≠ L), as_i1 (by omega : L + 3 ≠ L + 4), as_i1 (by omega : L + 4 ≠ L), as_i1 (by omega : L + 4 ≠ L)]
      refine fin _ _ ?_ ?_ ⟨by rw [as_i3, m9], fun _ => by rw [as_i2 (by decide), as_i3, m8]⟩ k4
      · rw [as_i2 (by decide), as_i2 (by decide), as_i1 (by omega), l.day]
      · rw [as_i2 (by decide), as_i2 (by decide), as_i1 (by omega), l.hr]
    · rw [am_ift c1, am_iff c2] at e0
      refine ⟨_, e0, ?_, fun c h1 h2 => by rw [as_i1 h2], rfl⟩
      have mm : ∀ q, q ≠ 123 + j → liedM m j q = m q := fun q hq => by
        unfold liedM
        rw [if_neg (fun z => c2 (e9.mp z.2)), upd_n hq]
      unfold lifeAt
      rw [as_i1 (by omega : L + 1 ≠ L + 4), as_i1 (by omega : L + 2 ≠ L + 4), as_i1 (by omega : L + 3 ≠ L + 4), as_i1 (by omega : L ≠ L + 4)]
      refine fin _ _ l.day l.hr ?_ k4
      rw [mm 9 (by omega), mm 8 (by omega)]
      exact l.2.2.1 h0
  · rw [am_iff c1] at e0
    refine ⟨_, e0, ?_, fun c h1 h2 => by rw [as_i1 h2], rfl⟩
    have mm : ∀ q, q ≠ 123 + j → liedM m j q = m q := fun q hq => by
      unfold liedM
      rw [if_neg (fun z => c1 z.1), upd_n hq]
    unfold lifeAt
    rw [as_i1 (by omega : L + 1 ≠ L + 4), as_i1 (by omega : L + 2 ≠ L + 4), as_i1 (by omega : L + 3 ≠ L + 4), as_i1 (by omega : L ≠ L + 4)]
    refine fin _ _ l.day l.hr ?_ k4
    rw [mm 9 (by omega), mm 8 (by omega)]
    exact l.2.2.1 h0
theorem c_accepts {m : Nat → Int32} {x : am_S} {L i j f : Nat} (w : wfT m) (t : townAt m x) (hL : L ∈ am_isL) (l : lifeAt m x L) (hi : i < mP m) (hj : j < mP m) (hf : f < mF m) : f_X2_accepts L (nI i) (nI j) (nI f) x = some (b01 (m (11 + 16 * j + 2 * f) = nI 2 ∨ ¬ m (130 + (7 * j + i)) < m (11 + 16 * j + 2 * f + 1))) := by
  have hP := w.P7
  have hF := w.F8
  have e1 : x.1 (L + 1) (j * 8 + f) = m (11 + 16 * j + 2 * f) := by
    rw [show j * 8 + f = 8 * j + f by omega, l.hd hj (by omega)]
    unfold heldR
    rw [if_pos hf]
  have e2 : x.1 (L + 2) (j * 8 + f) = m (11 + 16 * j + 2 * f + 1) := by rw [show j * 8 + f = 8 * j + f by omega, l.stg hj hf]
  have e3 : x.1 18 (j * 7 + i) = m (130 + (7 * j + i)) := by rw [show j * 7 + i = 7 * j + i by omega, t.T (by omega) _ (by omega)]
  unfold f_X2_accepts
  rw [am_gdt hL]
  simp (disch := omega) only [am_ltd, pk_mul, nI_add, gd2, cL]
  rw [e1, e2, e3]
  by_cases c : m (11 + 16 * j + 2 * f) = nI 2
  · rw [am_ift c, b01_t (Or.inl c)]
  · rw [am_iff c]
    by_cases c2 : m (130 + (7 * j + i)) < m (11 + 16 * j + 2 * f + 1)
    · rw [am_ift c2, b01_f (fun z => z.elim c (fun z => z c2))]
    · rw [am_iff c2, b01_t (Or.inr c2)]
theorem c_hear {m : Nat → Int32} {x : am_S} {L i j f : Nat} {v z : Int32} (w : wfT m) (t : townAt m x) (hL : L ∈ am_isL) (l : lifeAt m x L) (tk : talkAt x i j f v z) (hi : i < mP m) (hj : j < mP m) (hf : f < mF m) (hL2 : L + 5 ≤ 134 ∨ 135 ≤ L) : ∃ x2, f_X2_hear L x = some x2 ∧ lifeAt (toldM m i j f v) x2 L ∧ (∀ c, (c < L ∨ L + 5 ≤ c) → x2.1 c = x.1 c) ∧ x2.2 = x.2 := by
  have h24 := iL_ge L hL
  have hP := w.P7
  have hF := w.F8
  obtain ⟨t2, t3, t4, t5, t6⟩ := tk
  have ag := toldM_agL (m := m) (i := i) (j := j) (f := f) (v := v) (by omega) (by omega)
  unfold f_X2_hear
  rw [am_gdt hL, t2, t3, t4, c_accepts w t hL l hi hj hf, am_bds]
  by_cases c : m (11 + 16 * j + 2 * f) = nI 2 ∨ ¬ m (130 + (7 * j + i)) < m (11 + 16 * j + 2 * f + 1)
  · rw [am_b1 c]
    simp (disch := omega) only [am_ltd, pk_mul, nI_add, gd2, cL]
    rw [t5, as_i1 (show 134 ≠ L + 1 by omega), t3, t2]
    simp (disch := omega) only [am_ltd, pk_mul, nI_add, gd2, cL]
    rw [as_i1 (show 134 ≠ L + 2 by omega), as_i1 (show 134 ≠ L + 1 by omega), t3, as_i1 (show 18 ≠ L + 1 by omega), show j * 7 + i = 7 * j + i by omega, t.T (by omega) _ (by omega), show j * 8 + f = 8 * j + f by omega]
    have em : toldM m i j f v = upd (upd m (11 + 16 * j + 2 * f) v) (11 + 16 * j + 2 * f + 1) (m (130 + (7 * j + i))) := by
      unfold toldM
      rw [if_pos c]
    generalize hy : as_i (as_i x (L + 1) (8 * j + f) v) (L + 2) (8 * j + f) (m (130 + (7 * j + i))) = y
    have oy : ∀ c, c ≠ L + 1 → c ≠ L + 2 → y.1 c = x.1 c := fun c c1 c2 => by rw [← hy, as_i1 c2, as_i1 c1]
    have hh : ∀ f2, f2 < 8 → y.1 (L + 1) (8 * j + f2) = heldR (toldM m i j f v) j f2 := fun f2 hf2 => by
      rw [← hy, as_i1 (by omega)]
      by_cases e : f2 = f
      · subst e
        rw [as_i3]
        unfold heldR
        rw [ag.t.mF, if_pos hf, em, upd_n (by omega), upd_s]
      · rw [as_i2 (by omega), l.hd hj hf2]
        unfold heldR
        rw [ag.t.mF]
        by_cases e2 : f2 < mF m
        · rw [if_pos e2, if_pos e2, em, upd_n (by omega), upd_n (by omega)]
        · rw [if_neg e2, if_neg e2]
    obtain ⟨u, u1, u2, u3, u4, u5⟩ := c_conclude (s := y) w (townAt_of t (fun c c1 c2 => oy c (by omega) (by omega))).okC hL (p := j) (by omega) hh
    rw [u1, am_bds]
    have z0 : y.2 = x.2 := by rw [← hy]; rfl
    refine ⟨u, rfl, ?_, fun c hc => by rw [u2 c (by omega), oy c (by omega) (by omega)], u3.trans z0⟩
    have same : ∀ p f2, p < mP m → f2 < mF m → p ≠ j → toldM m i j f v (11 + 16 * p + 2 * f2) = m (11 + 16 * p + 2 * f2) ∧ toldM m i j f v (11 + 16 * p + 2 * f2 + 1) = m (11 + 16 * p + 2 * f2 + 1) := fun p f2 hp hf2 hpj => ⟨toldM_n (by omega) (by omega), toldM_n (by omega) (by omega)⟩
    refine ⟨?_, ?_, fun h0 => ?_, fun p hp => ?_, fun p f2 hp hf2 => ?_, fun p f2 hp hf2 => ?_⟩
    · rw [u2 L (by omega), oy L (by omega) (by omega), toldM_n (by omega) (by omega), l.day]
    · rw [u2 L (by omega), oy L (by omega) (by omega), toldM_n (by omega) (by omega), l.hr]
    · rw [ag.t.mF] at h0
      rw [u2 L (by omega), oy L (by omega) (by omega), toldM_n (by omega) (by omega), toldM_n (by omega) (by omega)]
      exact l.2.2.1 h0
    · rw [u2 (L + 4) (by omega), oy (L + 4) (by omega) (by omega), toldM_n (by omega) (by omega), ag.t.mP]
      exact l.li hp
    · rw [ag.t.mP] at hp
      rw [u2 (L + 1) (by omega)]
      by_cases e : p = j
      · subst e
        refine ⟨hh f2 hf2, ?_⟩
        rw [u5 f2 hf2]
        unfold bel
        rw [folN_eq ag.t w]
      · rw [u4 _ (by omega), oy (L + 3) (by omega) (by omega), ← hy, as_i1 (by omega), as_i2 (by omega), heldR_eq ag.t w (fun f3 hf3 => (same p f3 hp hf3 e).1), bel_eq ag.t w (fun f3 hf3 => (same p f3 hp hf3 e).1)]
        exact l.2.2.2.2.1 p f2 hp hf2
    · rw [ag.t.mP] at hp
      rw [ag.t.mF] at hf2
      rw [u2 (L + 2) (by omega), ← hy]
      by_cases e : p = j ∧ f2 = f
      · obtain ⟨rfl, rfl⟩ := e
        rw [as_i3, em, upd_s]
      · rw [as_i2 (by omega), as_i1 (by omega), l.stg hp hf2, toldM_n (by omega) (by omega)]
  · rw [am_b0 c]
    have em : toldM m i j f v = m := by
      unfold toldM
      rw [if_neg c]
    rw [em]
    exact ⟨x, rfl, l, fun _ _ => rfl, rfl⟩
theorem wfL_lied {k : Nat} {m : Nat → Int32} {j : Nat} (w : wfT m) (lk : wfL k m) (hj : j < mP m) : wfL k (liedM m j) := by
  have hP := w.P7
  have hF := w.F8
  have agl := liedM_agL (m := m) (j := j) (by omega)
  refine ⟨isN_eq (liedM_n (by decide) (by decide) (by omega)) rfl lk.1, isN_eq (liedM_n (by decide) (by decide) (by omega)) rfl lk.2.1, fun h0 => ?_, fun p f hp hf => ?_⟩
  · by_cases c : m (123 + j) + 1 = nI 2 ∧ m 9 < 0
    · refine Or.inr (isN_nI (n := j) ?_ (by rw [agl.t.mP]; exact hj) (by rw [agl.t.mP]; omega))
      unfold liedM
      rw [if_pos c, upd_s]
    · have e9 : liedM m j 9 = m 9 := by
        unfold liedM
        rw [if_neg c, upd_n (by omega)]
      rw [agl.t.mF] at h0
      rcases lk.2.2.1 h0 with d | d
      · exact Or.inl (e9.trans d)
      · exact Or.inr (isN_eq e9 agl.t.mP d)
  · rw [agl.t.mP] at hp
    rw [agl.t.mF] at hf
    have e1 : liedM m j (11 + 16 * p + 2 * f) = m (11 + 16 * p + 2 * f) := liedM_n (by omega) (by omega) (by omega)
    have e2 : liedM m j (11 + 16 * p + 2 * f + 1) = m (11 + 16 * p + 2 * f + 1) := liedM_n (by omega) (by omega) (by omega)
    have := lk.2.2.2 p f hp hf
    exact ⟨by rw [e1]; exact this.1, isN_eq e2 rfl this.2.1, by rw [e1, e2]; exact this.2.2⟩
theorem wfL_told {k : Nat} {m : Nat → Int32} {i j f : Nat} {v : Int32} (w : wfT m) (lk : wfL k m) (hi : i < mP m) (hj : j < mP m) (hf : f < mF m) (hv : v = 0 ∨ v = 1) : wfL k (toldM m i j f v) := by
  have hP := w.P7
  have hF := w.F8
  have ag := toldM_agL (m := m) (i := i) (j := j) (f := f) (v := v) (by omega) (by omega)
  refine ⟨isN_eq (toldM_n (by omega) (by omega)) rfl lk.1, isN_eq (toldM_n (by omega) (by omega)) rfl lk.2.1, fun h0 => ?_, fun p f2 hp hf2 => ?_⟩
  · rw [ag.t.mF] at h0
    have e9 : toldM m i j f v 9 = m 9 := toldM_n (by omega) (by omega)
    rcases lk.2.2.1 h0 with d | d
    · exact Or.inl (e9.trans d)
    · exact Or.inr (isN_eq e9 ag.t.mP d)
  · rw [ag.t.mP] at hp
    rw [ag.t.mF] at hf2
    have g := lk.2.2.2 p f2 hp hf2
    by_cases e : p = j ∧ f2 = f
    · obtain ⟨rfl, rfl⟩ := e
      by_cases c : m (11 + 16 * p + 2 * f2) = nI 2 ∨ ¬ m (130 + (7 * p + i)) < m (11 + 16 * p + 2 * f2 + 1)
      · have em : toldM m i p f2 v = upd (upd m (11 + 16 * p + 2 * f2) v) (11 + 16 * p + 2 * f2 + 1) (m (130 + (7 * p + i))) := by
          unfold toldM
          rw [if_pos c]
        have tr := w.tr (7 * p + i) (by omega) (by omega)
        have trl := tr.2
        rw [em]
        refine ⟨?_, isN_nI (n := mN m (130 + (7 * p + i))) (by rw [upd_s]; exact tr.e) (by omega) (by decide), fun z => ?_⟩
        · rw [upd_n (by omega), upd_s]
          rcases hv with h | h
          · exact Or.inl h
          · exact Or.inr (Or.inl h)
        · rw [upd_n (by omega), upd_s] at z
          rcases hv with h | h <;> rw [h] at z <;> exact absurd z (by decide)
      · have em : toldM m i p f2 v = m := by
          unfold toldM
          rw [if_neg c]
        rw [em]
        exact g
    · have e1 : toldM m i j f v (11 + 16 * p + 2 * f2) = m (11 + 16 * p + 2 * f2) := toldM_n (by omega) (by omega)
      have e2 : toldM m i j f v (11 + 16 * p + 2 * f2 + 1) = m (11 + 16 * p + 2 * f2 + 1) := toldM_n (by omega) (by omega)
      exact ⟨by rw [e1]; exact g.1, isN_eq e2 rfl g.2.1, by rw [e1, e2]; exact g.2.2⟩
/-- said, by both -/
theorem say_both {k : Nat} {m : Nat → Int32} {s : am_S} {rn : Nat} {ch : Int32} {i j f : Nat} {v z : Int32} (hrn : rn ≤ 6) (hR : ∀ r, r < rn → pRule r s) (h5 : s.1 0 5 = nI rn) (hch : ch = -1 ∨ ∃ r, r < rn ∧ ch = nI r) (w : wfT m) (lk : wfL k m) (hi : i < mP m) (hj : j < mP m) (hf : f < mF m) (hv : v = 0 ∨ v = 1) (hz : z = 0 ∨ z = 1) : ∃ (lie : Bool), agL m (saidM m i j f v lie) ∧ wfL k (saidM m i j f v lie) ∧
    (∀ x : am_S, ruS s x → x.1 15 2 = ch → clJ m x i j f v z → (x.2.2.1 + 5 ≤ 134 ∨ 135 ≤ x.2.2.1) → ∃ x2, f_X11_speak x = some (b01 (lie = true), x2) ∧ lifeAt (saidM m i j f v lie) x2 x.2.2.1 ∧ (∀ c, (c < x.2.2.1 ∨ x.2.2.1 + 5 ≤ c) → x2.1 c = x.1 c) ∧ x2.2.2 = x.2.2) ∧
    (∀ y : am_S, ruM s y → y.1 258 = m → y.1 248 21 = ch → ∃ y2, f_X12_says (nI i) (nI j) (nI f) v z y = some (b01 (lie = true), y2) ∧ y2.1 258 = saidM m i j f v lie ∧ (∀ a, a ≠ 248 → a ≠ 258 → a ≠ 259 → y2.1 a = y.1 a) ∧ (∀ q, q ≠ 18 → y2.1 248 q = y.1 248 q) ∧ y2.2.2 = y.2.2 ∧ y2.2.1 248 = y.2.1 248) := by
  have hP := w.P7
  have hF := w.F8
  obtain ⟨lie, hc, hm⟩ := lie_both (v := v) hrn hR h5 hch w hi hj hf hz
  have wl : wfT (if lie then liedM m j else m) ∧ wfL k (if lie then liedM m j else m) ∧ agL m (if lie then liedM m j else m) := by
    cases lie with
    | true => exact ⟨wfT_eq (liedM_agL (by omega)).t w, wfL_lied w lk hj, liedM_agL (by omega)⟩
    | false => exact ⟨w, lk, agL.rf m⟩
  obtain ⟨w1, w2, w3⟩ := wl
  refine ⟨lie, w3.tr (toldM_agL (by omega) (by omega)), wfL_told w1 w2 (by rw [w3.t.mP]; exact hi) (by rw [w3.t.mP]; exact hj) (by rw [w3.t.mF]; exact hf) hv, fun x x1 x2 x3 x4 => ?_, fun y y1 y2 y3 => ?_⟩
  · obtain ⟨x5, g1, g2, g3⟩ := hc x x1 x2 x3
    obtain ⟨c1, c2, c3, c4⟩ := x3
    have L24 := iL_ge _ c2
    generalize hLL : x.2.2.1 = L at *
    have q5 : x5.2.2.1 = L := by rw [g3]; exact hLL
    have t5 : townAt m x5 := townAt_of c1 (fun c _ _ => by rw [g2])
    have l5 : lifeAt m x5 L := lifeAt_of c3 (fun c _ _ => by rw [g2])
    have k5 : talkAt x5 i j f v z := by
      unfold talkAt at c4 ⊢
      rw [g2]
      exact c4
    have j26 : ∀ u : am_S, u.2.2.1 = L → townAt (if lie then liedM m j else m) u → lifeAt (if lie then liedM m j else m) u L → talkAt u i j f v z → ∃ u2, j_X11_speak_26 (b01 (lie = true)) u = some (b01 (lie = true), u2) ∧ lifeAt (saidM m i j f v lie) u2 L ∧ (∀ c, (c < L ∨ L + 5 ≤ c) → u2.1 c = u.1 c) ∧ u2.2.2 = u.2.2 := by
      intro u u1 u2 u3 u4
      obtain ⟨a, a1, a2, a3, a4⟩ := c_hear w1 u2 c2 u3 u4 (by rw [w3.t.mP]; exact hi) (by rw [w3.t.mP]; exact hj) (by rw [w3.t.mF]; exact hf) x4
      refine ⟨a, ?_, a2, a3, by rw [a4]⟩
      unfold j_X11_speak_26
      rw [am_ltd, u1, am_gdt c2, a1, am_bds]
      by_cases c : lie = true
      · rw [am_b1 c, b01_t c]
      · rw [am_b0 c, b01_f c]
    unfold f_X11_speak
    rw [g1, am_b2s]
    by_cases c : lie = true
    · rw [am_b1 c, am_ltd, q5, am_gdt c2, k5.2.1]
      obtain ⟨b, b1, b2, b3, b4⟩ := c_countLie w lk c2 l5 hj
      rw [b1, am_bds]
      have wm : (if lie then liedM m j else m) = liedM m j := if_pos c
      obtain ⟨u2, d1, d2, d3, d4⟩ := j26 b (by rw [b4]; exact q5) (by rw [wm]; exact clT_eq (liedM_agL (m := m) (j := j) (by omega)).t w (townAt_of t5 (fun c e1 e2 => b3 c (by omega) (by omega)))) (by rw [wm]; exact b2) (by
        unfold talkAt at k5 ⊢
        rw [b3 134 (by omega) (by omega)]
        exact k5)
      exact ⟨u2, d1, d2, fun c hc => by rw [d3 c hc, b3 c (by omega) (by omega), g2], by rw [d4, b4, g3]⟩
    · have wm : (if lie then liedM m j else m) = m := if_neg c
      rw [am_b0 c]
      obtain ⟨u2, d1, d2, d3, d4⟩ := j26 x5 q5 (by rw [wm]; exact t5) (by rw [wm]; exact l5) k5
      exact ⟨u2, d1, d2, fun c hc => by rw [d3 c hc, g2], by rw [d4, g3]⟩
  · obtain ⟨y4, g1, g2, g3, g4, g5⟩ := hm y y1 y2 y3
    have m4 : y4.1 258 = m := by rw [g2 258 (by decide) (by decide)]; exact y2
    have e4 : y4 = as_w y4 258 m := by rw [← m4, as_w_self]
    have it := m_isTold (m := m) (s := y4) (i := i) (j := j) (f := f) (v := v) (by omega) (by omega) (by omega)
    rw [← e4] at it
    unfold f_X12_says
    rw [g1, am_b2s, it, am_bds]
    by_cases c : lie = true
    · rw [am_b1 c, b01_t c]
      simp (disch := omega) only [am_ltd, nI_add, gd2, cL]
      rw [as_w3, as_iw, as_w3, upd_s]
      have es : saidM m i j f v lie = liedM (toldM m i j f v) j := by
        unfold saidM
        rw [if_pos c, lied_told (by omega) (by omega)]
      have n9 : upd (toldM m i j f v) (123 + j) (toldM m i j f v (123 + j) + 1) 9 = toldM m i j f v 9 := upd_n (by omega)
      have n7 : upd (toldM m i j f v) (123 + j) (toldM m i j f v (123 + j) + 1) 7 = toldM m i j f v 7 := upd_n (by omega)
      rw [n9, n7]
      by_cases b1 : toldM m i j f v (123 + j) + 1 = nI 2
      · rw [am_ift b1]
        by_cases b2 : toldM m i j f v 9 < 0
        · rw [am_iff (Int32.not_le.mpr b2), as_iw, as_iw]
          refine ⟨_, rfl, ?_, fun a a1 a2 a3 => by rw [as_w1 a2, g2 a a1 a3], fun q hq => by rw [as_w1 (by decide), g3 q hq], g4, g5⟩
          rw [as_w3, es]
          unfold liedM
          rw [if_pos ⟨b1, b2⟩]
        · rw [am_ift (Int32.not_lt.mp b2)]
          refine ⟨_, rfl, ?_, fun a a1 a2 a3 => by rw [as_w1 a2, g2 a a1 a3], fun q hq => by rw [as_w1 (by decide), g3 q hq], g4, g5⟩
          rw [as_w3, es]
          unfold liedM
          rw [if_neg (fun z => b2 z.2)]
      · rw [am_iff b1]
        refine ⟨_, rfl, ?_, fun a a1 a2 a3 => by rw [as_w1 a2, g2 a a1 a3], fun q hq => by rw [as_w1 (by decide), g3 q hq], g4, g5⟩
        rw [as_w3, es]
        unfold liedM
        rw [if_neg (fun z => b1 z.1)]
    · rw [am_b0 c, b01_f c]
      refine ⟨_, rfl, ?_, fun a a1 a2 a3 => by rw [as_w1 a2, g2 a a1 a3], fun q hq => by rw [as_w1 (by decide), g3 q hq], g4, g5⟩
      rw [as_w3]
      unfold saidM
      rw [if_neg c]
