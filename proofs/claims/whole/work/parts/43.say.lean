/-! say, would, meet -/
theorem c_prepare {L : Nat} {s : am_S} {p q f v : Int32} (hL : L ∈ am_isL) : ∃ x, f_X11_prepare L p q f v s = some x ∧ (∀ c, c ≠ 134 → x.1 c = s.1 c) ∧ x.2.2 = (L, s.2.2.2) ∧ x.1 134 2 = p ∧ x.1 134 3 = q ∧ x.1 134 4 = f ∧ x.1 134 5 = v ∧ x.1 134 6 = 0 := by
  refine ⟨as_i (as_i (as_i (as_i (as_i (as_t s L) 134 2 p) 134 3 q) 134 4 f) 134 5 v) 134 6 0, ?_, fun c hc => ?_, rfl, ?_, ?_, ?_, ?_, ?_⟩
  · unfold f_X11_prepare
    rw [am_gdt hL, am_ltd, am_ltd, am_ltd, am_ltd, am_ltd, am_ltd]
  · rw [as_i1 hc, as_i1 hc, as_i1 hc, as_i1 hc, as_i1 hc, as_t1]
  · rw [as_i2 (by decide), as_i2 (by decide), as_i2 (by decide), as_i2 (by decide), as_i3]
  · rw [as_i2 (by decide), as_i2 (by decide), as_i2 (by decide), as_i3]
  · rw [as_i2 (by decide), as_i2 (by decide), as_i3]
  · rw [as_i2 (by decide), as_i3]
  · rw [as_i3]
theorem InvR.ch {k rn : Nat} {s : am_S} (h : InvR k rn s) : s.1 248 21 = -1 ∨ ∃ r, r < rn ∧ s.1 248 21 = nI r := h.2.2.2.2.2.1.2.2.2.2.2.2.1
theorem InvR.rf {k rn : Nat} {s : am_S} (h : InvR k rn s) : pRef s := h.2.2.2.2.2.2.2.2
theorem InvR.ru {k rn : Nat} {s : am_S} (h : InvR k rn s) : ∀ r, r < rn → pRule r s := h.2.2.2.1
theorem pRef_of {s x : am_S} (h : pRef s) (g : (x.2.2.1 = 24 ∨ x.2.2.1 = 137) ∧ x.2.2.2 = s.2.2.2) : pRef x := ⟨g.1, by rw [g.2]; exact h.2⟩
theorem st_would : LS_would Inv := by
  intro k s p q f v hk hI
  obtain ⟨rn, h⟩ := hI
  have h := InvR_mono h
  have w := h.w
  have hP := w.P7
  have hF := w.F8
  unfold f_X11_would f_X12_would
  rw [c_canSay w h.t, am_bds]
  by_cases c : stB (s.1 258) p q = true ∧ inP f (mF (s.1 258)) ∧ (v = 0 ∨ v = 1)
  · rw [am_b1 c]
    obtain ⟨c1, c2, c3⟩ := c
    obtain ⟨i, j, hi, hj, rfl, rfl, -, -⟩ := stB_of w c1
    obtain ⟨f, hf, rfl⟩ := inP_of c2 (by omega)
    obtain ⟨x, x1, x2, x3, x4, x5, x6, x7, x8⟩ := c_prepare (s := s) (p := nI i) (q := nI j) (f := nI f) (v := v) (show 24 ∈ am_isL by decide)
    obtain ⟨L, hc, hm⟩ := lie_both (v := v) (z := 0) h.1 h.ru h.2.1 h.ch w hi hj hf (Or.inl rfl)
    obtain ⟨x9, g1, g2, g3⟩ := hc x ⟨fun a a1 a2 => x2 a (by omega), by rw [x2 0 (by decide)]⟩ (by rw [x2 15 (by decide)]; exact h.c.1) ⟨townAt_of h.t (fun c c1 c2 => x2 c (by omega)), by rw [x3]; exact (by decide : 24 ∈ am_isL), by rw [x3]; exact lifeAt_of h.f (fun c c1 c2 => x2 c (by omega)), x4, x5, x6, x7, x8⟩
    have m9 : x9.1 258 = s.1 258 := by rw [g2, x2 258 (by decide)]
    obtain ⟨y, k1, k2, k3, k4, -⟩ := hm x9 ⟨by rw [g2, x2 250 (by decide)], by rw [g2, x2 252 (by decide)], by rw [g2, x2 253 (by decide)]⟩ m9 (by rw [g2, x2 248 (by decide)])
    rw [x1, am_bds, g1, am_b2s]
    have pr : prot s y := by
      refine ⟨fun a ha => ?_, ?_, ?_, ?_, ?_, ?_, ?_, ?_, fun z => pRef_of z ⟨?_, ?_⟩⟩
      · have a1 : a ≠ 248 := fun e => by subst e; unfold isPr at ha; omega
        have a2 : a ≠ 259 := fun e => by subst e; unfold isPr at ha; omega
        have a3 : a ≠ 134 := fun e => by subst e; unfold isPr at ha; omega
        rw [k2 a a1 a2, g2, x2 a a3]
      · rw [k2 0 (by decide) (by decide), g2, x2 0 (by decide)]
      · rw [k2 0 (by decide) (by decide), g2, x2 0 (by decide)]
      · rw [k3 1 (by decide), g2, x2 248 (by decide)]
      · rw [k3 2 (by decide), g2, x2 248 (by decide)]
      · rw [k3 21 (by decide), g2, x2 248 (by decide)]
      · rw [k3 22 (by decide), g2, x2 248 (by decide)]
      · rw [k3 25 (by decide), g2, x2 248 (by decide)]
      · rw [k4, g3, x3]
        exact Or.inl rfl
      · rw [k4, g3, x3]
    refine ⟨b01 (L = true), x9, y, ?_, ?_, rn, InvR_prot h pr⟩
    · by_cases l : L = true
      · rw [am_b1 l, b01_t l]
      · rw [am_b0 l, b01_f l]
    · rw [m_maySay w m9, am_bds, am_b1 ⟨c1, c2, c3⟩, k1, am_b2s]
      by_cases l : L = true
      · rw [am_b1 l, b01_t l]
      · rw [am_b0 l, b01_f l]
  · rw [am_b0 c]
    exact ⟨-1, s, s, rfl, by rw [m_maySay w rfl, am_bds, am_b0 c], rn, h⟩
theorem st_say : LS_say Inv := by
  intro k s p q f v hk hI
  obtain ⟨rn, h⟩ := hI
  have h := InvR_mono h
  have w := h.w
  have hP := w.P7
  have hF := w.F8
  unfold f_X11_say f_X12_say
  rw [c_canSay w h.t, am_bds]
  by_cases c : stB (s.1 258) p q = true ∧ inP f (mF (s.1 258)) ∧ (v = 0 ∨ v = 1)
  · rw [am_b1 c]
    obtain ⟨c1, c2, c3⟩ := c
    obtain ⟨i, j, hi, hj, rfl, rfl, -, -⟩ := stB_of w c1
    obtain ⟨f, hf, rfl⟩ := inP_of c2 (by omega)
    obtain ⟨s1, g1, g2, g3, g4⟩ := keep_both rfl w h.f h.l h.a
    obtain ⟨x, x1, x2, x3, x4, x5, x6, x7, x8⟩ := c_prepare (s := s1) (p := nI i) (q := nI j) (f := nI f) (v := v) (show 24 ∈ am_isL by decide)
    have o1 : ∀ c, c ≠ 134 → (c < 32 ∨ c = 33 ∨ 134 ≤ c) → x.1 c = s.1 c := fun c c1 c2 => by rw [x2 c c1, g2 c c2]
    obtain ⟨lie, ag, lw, hc, hm⟩ := say_both (v := v) (z := 0) h.1 h.ru h.2.1 h.ch w h.l hi hj hf c3 (Or.inl rfl)
    have xL : x.2.2.1 = 24 := by rw [x3]
    obtain ⟨u, u1, u2, u3, u4⟩ := hc x ⟨fun a a1 a2 => o1 a (by omega) (by omega), by rw [o1 0 (by decide) (by omega)]⟩ (by rw [o1 15 (by decide) (by omega)]; exact h.c.1) ⟨townAt_of h.t (fun c c1 c2 => o1 c (by omega) (by omega)), by rw [xL]; decide, by rw [xL]; exact lifeAt_of h.f (fun c c1 c2 => o1 c (by omega) (by omega)), x4, x5, x6, x7, x8⟩ (by rw [xL]; omega)
    rw [xL] at u2 u3
    have o2 : ∀ c, c ≠ 134 → (c < 24 ∨ (29 ≤ c ∧ c < 32) ∨ c = 33 ∨ 134 ≤ c) → u.1 c = s.1 c := fun c c1 c2 => by rw [u3 c (by omega), o1 c c1 (by omega)]
    obtain ⟨t, t1, t2, t3, t4, t5⟩ := g4 u (fun c hc => by rw [u3 c (by omega), x2 c (by omega)]) (o2 260 (by omega) (by omega)) (o2 258 (by omega) (by omega)) (by rw [o2 248 (by omega) (by omega)])
    have mt : t.1 258 = s.1 258 := by rw [t2 258 (by decide) (by decide), o2 258 (by omega) (by omega)]
    have o3 : ∀ c, c ≠ 134 → c ≠ 260 → c ≠ 248 → (c < 24 ∨ (29 ≤ c ∧ c < 32) ∨ c = 33 ∨ 134 ≤ c) → t.1 c = s.1 c := fun c c1 c2 c3 c4 => by rw [t2 c c2 c3, o2 c c1 c4]
    obtain ⟨y, y1, y2, y3, y4, y5, -⟩ := hm t ⟨o3 250 (by omega) (by omega) (by omega) (by omega), o3 252 (by omega) (by omega) (by omega) (by omega), o3 253 (by omega) (by omega) (by omega) (by omega)⟩ mt (by rw [t3 21 (by decide), o2 248 (by omega) (by omega)])
    rw [g1, am_bds, x1, am_bds, u1, am_b2s]
    refine ⟨_, u, y, rfl, ?_, rn, ?_⟩
    · rw [m_maySay w (o2 258 (by omega) (by omega)), am_bds, am_b1 ⟨c1, c2, c3⟩, t1, am_bds, y1, am_b2s]
    · have o4 : ∀ c, c ≠ 134 → c ≠ 248 → c ≠ 258 → c ≠ 259 → c ≠ 260 → (c < 24 ∨ (29 ≤ c ∧ c < 32) ∨ c = 33 ∨ 134 ≤ c) → y.1 c = s.1 c := fun c c1 c2 c3 c4 c5 c6 => by rw [y3 c c2 c3 c4, o3 c c1 c5 c2 c6]
      have o5 : ∀ q, q ≠ 18 → q ≠ 25 → y.1 248 q = s.1 248 q := fun q q1 q2 => by rw [y4 q q1, t3 q q2, o2 248 (by omega) (by omega)]
      refine InvR_act (k := k + 1) h ⟨fun c hp c1 c2 c3 c4 => ?_, by rw [o4 0 (by omega) (by omega) (by omega) (by omega) (by omega) (by omega)], by rw [o4 0 (by omega) (by omega) (by omega) (by omega) (by omega) (by omega)], o5 1 (by decide) (by decide), o5 2 (by decide) (by decide), fun z => pRef_of z ⟨?_, ?_⟩⟩ (fun c hc => o4 c (by omega) (by omega) (by omega) (by omega) (by omega) (by omega)) (o5 21 (by decide) (by decide)) (o5 22 (by decide) (by decide)) (by rw [y2]; exact ag) (by rw [y2]; exact lw) (by rw [y2]; exact lifeAt_of u2 (fun c c1 c2 => by rw [y3 c (by omega) (by omega) (by omega), t2 c (by omega) (by omega)])) (pActsM_of t5 (fun c hc => y3 c (by omega) (by omega) (by omega)) (y4 25 (by decide))) rfl
      · have a1 : c ≠ 248 := fun e => by subst e; unfold isPr at hp; omega
        have a2 : c ≠ 259 := fun e => by subst e; unfold isPr at hp; omega
        have a3 : c ≠ 134 := fun e => by subst e; unfold isPr at hp; omega
        exact o4 c a3 a1 c3 a2 c4 (by omega)
      · rw [y5, t4, u4, x3]
        exact Or.inl rfl
      · rw [y5, t4, u4, x3, g3]
  · rw [am_b0 c]
    exact ⟨-1, s, s, rfl, by rw [m_maySay w rfl, am_bds, am_b0 c], rn, h⟩
/-- what the class's and the reference's states keep while somebody speaks -/
def frC (x x2 : am_S) : Prop := (∀ c, (c < 24 ∨ 29 ≤ c) → c ≠ 134 → x2.1 c = x.1 c) ∧ x2.2.2.2 = x.2.2.2 ∧ (x2.2.2.1 = 24 ∨ x2.2.2.1 = x.2.2.1)
def frM (y y2 : am_S) : Prop := (∀ a, a ≠ 248 → a ≠ 258 → a ≠ 259 → y2.1 a = y.1 a) ∧ (∀ q, q ≠ 18 → y2.1 248 q = y.1 248 q) ∧ y2.2.2 = y.2.2
theorem frC.rf (x : am_S) : frC x x := ⟨fun _ _ _ => rfl, rfl, Or.inr rfl⟩
theorem frM.rf (x : am_S) : frM x x := ⟨fun _ _ _ _ => rfl, fun _ _ => rfl, rfl⟩
theorem frC.tr {x y z : am_S} (h : frC x y) (g : frC y z) : frC x z := ⟨fun c c1 c2 => (g.1 c c1 c2).trans (h.1 c c1 c2), g.2.1.trans h.2.1, by
  rcases g.2.2 with e | e
  · exact Or.inl e
  · rw [e]; exact h.2.2⟩
theorem frM.tr {x y z : am_S} (h : frM x y) (g : frM y z) : frM x z := ⟨fun a a1 a2 a3 => (g.1 a a1 a2 a3).trans (h.1 a a1 a2 a3), fun q hq => (g.2.1 q hq).trans (h.2.1 q hq), g.2.2.trans h.2.2⟩
/-- the class, ready to speak of m -/
def rdC (s : am_S) (ch : Int32) (m : Nat → Int32) (x : am_S) : Prop := ruS s x ∧ x.1 15 2 = ch ∧ townAt m x ∧ lifeAt m x 24
def rdM (s : am_S) (ch : Int32) (m : Nat → Int32) (y : am_S) : Prop := ruM s y ∧ y.1 258 = m ∧ y.1 248 21 = ch
theorem rdC_next {s x x2 : am_S} {ch : Int32} {m n : Nat → Int32} (w : wfT m) (h : rdC s ch m x) (g : frC x x2) (a : agL m n) (l : lifeAt n x2 24) : rdC s ch n x2 := by
  refine ⟨⟨fun c c1 c2 => by rw [g.1 c (by omega) (by omega)]; exact h.1.1 c c1 c2, by rw [g.1 0 (by omega) (by omega)]; exact h.1.2⟩, by rw [g.1 15 (by omega) (by omega)]; exact h.2.1, clT_eq a.t w (townAt_of h.2.2.1 (fun c c1 c2 => g.1 c (by omega) (by omega))), l⟩
theorem rdM_next {s y y2 : am_S} {ch : Int32} {m n : Nat → Int32} (h : rdM s ch m y) (g : frM y y2) (e : y2.1 258 = n) : rdM s ch n y2 := ⟨⟨by rw [g.1 250 (by decide) (by decide) (by decide)]; exact h.1.1, by rw [g.1 252 (by decide) (by decide) (by decide)]; exact h.1.2.1, by rw [g.1 253 (by decide) (by decide) (by decide)]; exact h.1.2.2⟩, e, by rw [g.2.1 21 (by decide)]; exact h.2.2⟩
theorem saidM_67 {m : Nat → Int32} {i j f : Nat} {v : Int32} {lie : Bool} (hj : j < 7) (hf : f < 8) : saidM m i j f v lie 6 = m 6 ∧ saidM m i j f v lie 7 = m 7 := by
  unfold saidM
  rw [toldM_n (by omega) (by omega), toldM_n (by omega) (by omega)]
  cases lie with
  | false => exact ⟨rfl, rfl⟩
  | true => exact ⟨liedM_n (by decide) (by decide) (by omega), liedM_n (by decide) (by decide) (by omega)⟩
/-- one speaks by hand or in a meeting: both, at the life there is -/
theorem speak24 {k : Nat} {m : Nat → Int32} {s : am_S} {rn : Nat} {ch : Int32} {i j f : Nat} {v z : Int32} (hrn : rn ≤ 6) (hR : ∀ r, r < rn → pRule r s) (h5 : s.1 0 5 = nI rn) (hch : ch = -1 ∨ ∃ r, r < rn ∧ ch = nI r) (w : wfT m) (lk : wfL k m) (hi : i < mP m) (hj : j < mP m) (hf : f < mF m) (hv : v = 0 ∨ v = 1) (hz : z = 0 ∨ z = 1) : ∃ (d : Int32) (m2 : Nat → Int32), agL m m2 ∧ wfL k m2 ∧ (m2 6 = m 6 ∧ m2 7 = m 7) ∧
    (∀ x, rdC s ch m x → talkAt x i j f v z → x.2.2.1 = 24 → ∃ x2, f_X11_speak x = some (d, x2) ∧ lifeAt m2 x2 24 ∧ frC x x2) ∧
    (∀ y, rdM s ch m y → ∃ y2, f_X12_says (nI i) (nI j) (nI f) v z y = some (d, y2) ∧ y2.1 258 = m2 ∧ frM y y2) := by
  obtain ⟨lie, ag, lw, hc, hm⟩ := say_both hrn hR h5 hch w lk hi hj hf hv hz
  have hP := w.P7
  have hF := w.F8
  refine ⟨b01 (lie = true), saidM m i j f v lie, ag, lw, saidM_67 (by omega) (by omega), fun x x1 x2 x3 => ?_, fun y y1 => ?_⟩
  · obtain ⟨u, u1, u2, u3, u4⟩ := hc x x1.1 x1.2.1 ⟨x1.2.2.1, by rw [x3]; decide, by rw [x3]; exact x1.2.2.2, x2⟩ (by rw [x3]; omega)
    rw [x3] at u2 u3
    exact ⟨u, u1, u2, fun c c1 c2 => u3 c (by omega), by rw [u4], Or.inr (by rw [u4])⟩
  · obtain ⟨y2, k1, k2, k3, k4, k5, -⟩ := hm y y1.1 y1.2.1 y1.2.2
    exact ⟨y2, k1, k2, k3, k4, k5⟩
theorem tell_both {k : Nat} {s : am_S} {rn : Nat} {ch : Int32} {i j P F0 : Nat} (hrn : rn ≤ 6) (hR : ∀ r, r < rn → pRule r s) (h5 : s.1 0 5 = nI rn) (hch : ch = -1 ∨ ∃ r, r < rn ∧ ch = nI r) (hi : i < P) (hj : j < P) : ∀ (n f : Nat) (m : Nat → Int32), f + n = F0 → mF m = F0 → mP m = P → wfT m → wfL k m → ∃ (d : Int32) (m2 : Nat → Int32), agL m m2 ∧ wfL k m2 ∧
    (∀ x acc F, rdC s ch m x → n < F → ∃ x2, am_lp (fun (q : Int32 × Int32 × am_S) => b_X11_tellAll_5 (nI i) (nI j) q.1 q.2.1 q.2.2) F (acc, nI f, x) = some (acc + d, x2) ∧ lifeAt m2 x2 24 ∧ frC x x2) ∧
    (∀ y acc F, rdM s ch m y → n < F → ∃ y2, am_lp (fun (q : Int32 × Int32 × am_S) => b_X12_passesOn_5 (nI i) (nI j) q.1 q.2.1 q.2.2) F (acc, nI f, y) = some (acc + d, y2) ∧ y2.1 258 = m2 ∧ frM y y2) := by
  intro n
  induction n with
  | zero =>
    intro f m hn eF eP w lk
    have hF := w.F8
    refine ⟨0, m, agL.rf m, lk, fun x acc F x1 hF1 => ⟨x, ?_, x1.2.2.2, frC.rf x⟩, fun y acc F y1 hF1 => ⟨y, ?_, y1.2.1, frM.rf y⟩⟩
    · obtain ⟨F', rfl⟩ : ∃ F', F = F' + 1 := ⟨F - 1, by omega⟩
      refine am_lp_inr ?_
      dsimp only
      unfold b_X11_tellAll_5
      rw [x1.2.2.1.F w, am_ift (nI_le (by omega) (by omega)), az]
    · obtain ⟨F', rfl⟩ : ∃ F', F = F' + 1 := ⟨F - 1, by omega⟩
      refine am_lp_inr ?_
      dsimp only
      unfold b_X12_passesOn_5
      rw [y1.2.1, w.F1, am_ift (nI_le (by omega) (by omega)), az]
  | succ n ih =>
    intro f m hn eF eP w lk
    have hF := w.F8
    have hP := w.P7
    have hf : f < mF m := by omega
    have hiP : i < mP m := by omega
    have hjP : j < mP m := by omega
    obtain ⟨hH, -, -⟩ := lk.2.2.2 i f hiP hf
    have bc : ∀ (x : am_S) (acc : Int32), rdC s ch m x → b_X11_tellAll_5 (nI i) (nI j) acc (nI f) x = am_if (m (11 + 16 * i + 2 * f) = nI 2) (some (.inl (acc, nI (f + 1), x))) (am_if (m (11 + 16 * i + 2 * f) = m (11 + 16 * j + 2 * f)) (some (.inl (acc, nI (f + 1), x))) (am_bd (f_X11_prepare 24 (nI i) (nI j) (nI f) (m (11 + 16 * i + 2 * f)) x) (fun s14 => am_lt (as_i s14 134 6 (1 : Int32)) (fun s15 => am_b2 (f_X11_speak s15) (fun v16 s17 => am_lt (acc + v16) (fun v18 => am_lt (nI f + (1 : Int32)) (fun v19 => some (Sum.inl (v18, v19, s17))))))))) := by
      intro x acc x1
      have e1 : x.1 25 (i * 8 + f) = m (11 + 16 * i + 2 * f) := by
        have : x.1 25 (8 * i + f) = heldR m i f := x1.2.2.2.hd hiP (by omega)
        rw [show i * 8 + f = 8 * i + f by omega, this]
        unfold heldR
        rw [if_pos hf]
      have e2 : x.1 25 (j * 8 + f) = m (11 + 16 * j + 2 * f) := by
        have : x.1 25 (8 * j + f) = heldR m j f := x1.2.2.2.hd hjP (by omega)
        rw [show j * 8 + f = 8 * j + f by omega, this]
        unfold heldR
        rw [if_pos hf]
      unfold b_X11_tellAll_5
      rw [x1.2.2.1.F w, am_iff (nI_ge hf (by omega))]
      simp (disch := omega) only [am_ltd, pk_mul, nI_add, nI_1, gd2, cL]
      rw [e1, e2]
    have bm : ∀ (y : am_S) (acc : Int32), rdM s ch m y → b_X12_passesOn_5 (nI i) (nI j) acc (nI f) y = am_if (m (11 + 16 * i + 2 * f) = nI 2) (some (.inl (acc, nI (f + 1), y))) (am_if (m (11 + 16 * i + 2 * f) = m (11 + 16 * j + 2 * f)) (some (.inl (acc, nI (f + 1), y))) (am_b2 (f_X12_says (nI i) (nI j) (nI f) (m (11 + 16 * i + 2 * f)) (1 : Int32) y) (fun v11 s12 => am_lt (acc + v11) (fun v13 => am_lt (nI f + (1 : Int32)) (fun v14 => some (Sum.inl (v13, v14, s12))))))) := by
      intro y acc y1
      unfold b_X12_passesOn_5
      rw [y1.2.1, w.F1, am_iff (nI_ge hf (by omega)), m_holdOf (by omega) (by omega), am_bds, m_holdOf (by omega) (by omega), am_bds, y1.2.1, am_ltd, nI_1]
    by_cases cs : m (11 + 16 * i + 2 * f) = nI 2 ∨ m (11 + 16 * i + 2 * f) = m (11 + 16 * j + 2 * f)
    · obtain ⟨d, m2, a1, a2, a3, a4⟩ := ih (f + 1) m (by omega) eF eP w lk
      refine ⟨d, m2, a1, a2, fun x acc F x1 hF1 => ?_, fun y acc F y1 hF1 => ?_⟩
      · obtain ⟨F', rfl⟩ : ∃ F', F = F' + 1 := ⟨F - 1, by omega⟩
        obtain ⟨x2, k1, k2, k3⟩ := a3 x acc F' x1 (by omega)
        refine ⟨x2, ?_, k2, k3⟩
        rw [am_lp_inl (s2 := (acc, nI (f + 1), x))]
        · exact k1
        · dsimp only
          rw [bc x acc x1]
          rcases cs with c | c
          · rw [am_ift c]
          · by_cases c0 : m (11 + 16 * i + 2 * f) = nI 2
            · rw [am_ift c0]
            · rw [am_iff c0, am_ift c]
      · obtain ⟨F', rfl⟩ : ∃ F', F = F' + 1 := ⟨F - 1, by omega⟩
        obtain ⟨y2, k1, k2, k3⟩ := a4 y acc F' y1 (by omega)
        refine ⟨y2, ?_, k2, k3⟩
        rw [am_lp_inl (s2 := (acc, nI (f + 1), y))]
        · exact k1
        · dsimp only
          rw [bm y acc y1]
          rcases cs with c | c
          · rw [am_ift c]
          · by_cases c0 : m (11 + 16 * i + 2 * f) = nI 2
            · rw [am_ift c0]
            · rw [am_iff c0, am_ift c]
    · have n1 : ¬ m (11 + 16 * i + 2 * f) = nI 2 := fun z => cs (Or.inl z)
      have n2 : ¬ m (11 + 16 * i + 2 * f) = m (11 + 16 * j + 2 * f) := fun z => cs (Or.inr z)
      have hv : m (11 + 16 * i + 2 * f) = 0 ∨ m (11 + 16 * i + 2 * f) = 1 := by
        rcases hH with z | z | z
        · exact Or.inl z
        · exact Or.inr z
        · exact absurd z n1
      obtain ⟨d1, m1, b1, b2, -, b3, b4⟩ := speak24 (z := 1) hrn hR h5 hch w lk hiP hjP hf hv (Or.inr rfl)
      obtain ⟨d, m2, a1, a2, a3, a4⟩ := ih (f + 1) m1 (by omega) (by rw [b1.t.mF]; exact eF) (by rw [b1.t.mP]; exact eP) (wfT_eq b1.t w) b2
      refine ⟨d1 + d, m2, b1.tr a1, a2, fun x acc F x1 hF1 => ?_, fun y acc F y1 hF1 => ?_⟩
      · obtain ⟨F', rfl⟩ : ∃ F', F = F' + 1 := ⟨F - 1, by omega⟩
        obtain ⟨u, u1, u2, u3, u4, u5, u6, u7, u8⟩ := c_prepare (s := x) (p := nI i) (q := nI j) (f := nI f) (v := m (11 + 16 * i + 2 * f)) (show 24 ∈ am_isL by decide)
        have fu : frC x (as_i u 134 6 1) := ⟨fun c c1 c2 => by rw [as_i1 c2, u2 c c2], by rw [as_i4, u3], Or.inl (by rw [as_i4, u3])⟩
        obtain ⟨x2, k1, k2, k3⟩ := b3 (as_i u 134 6 1) (rdC_next w x1 fu (agL.rf m) (lifeAt_of x1.2.2.2 (fun c c1 c2 => by rw [as_i1 (by omega), u2 c (by omega)]))) ⟨by rw [as_i2 (by decide)]; exact u4, by rw [as_i2 (by decide)]; exact u5, by rw [as_i2 (by decide)]; exact u6, by rw [as_i2 (by decide)]; exact u7, as_i3⟩ (by rw [as_i4, u3])
        have f2 := fu.tr k3
        obtain ⟨x3, l1, l2, l3⟩ := a3 x2 (acc + d1) F' (rdC_next w x1 f2 b1 k2) (by omega)
        refine ⟨x3, ?_, l2, f2.tr l3⟩
        rw [am_lp_inl (s2 := (acc + d1, nI (f + 1), x2))]
        · rw [l1, Int32.add_assoc]
        · dsimp only
          rw [bc x acc x1, am_iff n1, am_iff n2, u1, am_bds, am_ltd, k1, am_b2s, am_ltd, am_ltd, nI_1]
      · obtain ⟨F', rfl⟩ : ∃ F', F = F' + 1 := ⟨F - 1, by omega⟩
        obtain ⟨y2, k1, k2, k3⟩ := b4 y y1
        obtain ⟨y3, l1, l2, l3⟩ := a4 y2 (acc + d1) F' (rdM_next y1 k3 k2) (by omega)
        refine ⟨y3, ?_, l2, k3.tr l3⟩
        rw [am_lp_inl (s2 := (acc + d1, nI (f + 1), y2))]
        · rw [l1, Int32.add_assoc]
        · dsimp only
          rw [bm y acc y1, am_iff n1, am_iff n2, k1, am_b2s, am_ltd, am_ltd, nI_1]
theorem m_meet0 {m : Nat → Int32} {s : am_S} {p q : Int32} (w : wfT m) (hm : s.1 258 = m) : f_X12_meet p q s = am_if (b01 (stB m p q = true) = 0) (some ((-1 : Int32), s)) (am_bd (f_X12_keepsAct s) (fun s16 => am_if (q ≤ p) (j_X12_meet_46 p q q s16) (j_X12_meet_46 p q p s16))) := by
  have hP1 : s.1 258 2 = nI (mP m) := by rw [hm]; exact w.P1
  unfold f_X12_meet
  rw [m_isPerson hP1, am_bds]
  by_cases h1 : inP p (mP m)
  · rw [am_b1 h1, m_isPerson hP1, am_bds]
    by_cases h2 : inP q (mP m)
    · rw [am_b1 h2]
      by_cases h3 : p = q
      · rw [am_ift h3, am_b0 (fun z => stB_ne w z h3)]
      · rw [am_iff h3]
        obtain ⟨u, g1, g2⟩ := m_street w hm h1 h2
        rw [g1, am_bds]
        by_cases h4 : stB m p q = true
        · rw [am_ift (Int32.not_lt.mp (g2.mpr h4)), am_b1 h4]
        · rw [am_iff (fun z => h4 (g2.mp (Int32.not_lt.mpr z))), am_b0 h4]
    · rw [am_b0 h2, am_b0 (fun z => h2 (stB_in z).2)]
  · rw [am_b0 h1, am_b0 (fun z => h1 (stB_in z).1)]
theorem st_meet : LS_meet Inv := by
  intro k s p q hk hI
  obtain ⟨rn, h⟩ := hI
  have h := InvR_mono h
  have w := h.w
  have hP := w.P7
  have hF := w.F8
  have e4 : am_F = 4000 := rfl
  by_cases c : stB (s.1 258) p q = true
  · obtain ⟨i, j, hi, hj, rfl, rfl, -, hij⟩ := stB_of w c
    obtain ⟨s1, g1, g2, g3, g4⟩ := keep_both rfl w h.f h.l h.a
    obtain ⟨a, b, ha, hb, eC, eM⟩ : ∃ a b : Nat, a < mP (s.1 258) ∧ b < mP (s.1 258) ∧ ((if nI j < nI i then nI j else nI i) = nI a ∧ (if nI i < nI j then nI j else nI i) = nI b) ∧ ∀ y, am_if (nI j ≤ nI i) (j_X12_meet_46 (nI i) (nI j) (nI j) y) (j_X12_meet_46 (nI i) (nI j) (nI i) y) = j_X12_meet_57 (nI b) (nI a) y := by
      by_cases hlt : i < j
      · refine ⟨i, j, hi, hj, ⟨if_neg (nI_nlt (by omega) (by omega)), if_pos (nI_lt hlt (by omega))⟩, fun y => ?_⟩
        unfold j_X12_meet_46
        rw [am_iff (nI_ge hlt (by omega)), am_iff (nI_ge hlt (by omega))]
      · refine ⟨j, i, hj, hi, ⟨if_pos (nI_lt (by omega) (by omega)), if_neg (nI_nlt (by omega) (by omega))⟩, fun y => ?_⟩
        unfold j_X12_meet_46
        rw [am_ift (nI_le (by omega) (by omega)), am_ift (nI_le (by omega) (by omega))]
    obtain ⟨d1, m1, a1, a2, a3, a4⟩ := tell_both (i := a) (j := b) h.1 h.ru h.2.1 h.ch ha hb (mF (s.1 258)) 0 (s.1 258) (by omega) rfl rfl w h.l
    have w1 := wfT_eq a1.t w
    obtain ⟨d2, m2, b1, b2, b3, b4⟩ := tell_both (i := b) (j := a) h.1 h.ru h.2.1 h.ch hb ha (mF (s.1 258)) 0 m1 (by omega) a1.t.mF a1.t.mP w1 a2
    have r1 : rdC s (s.1 248 21) (s.1 258) s1 := ⟨⟨fun c c1 c2 => g2 c (by omega), by rw [g2 0 (by omega)]⟩, by rw [g2 15 (by omega)]; exact h.c.1, townAt_of h.t (fun c c1 c2 => g2 c (by omega)), lifeAt_of h.f (fun c c1 c2 => g2 c (by omega))⟩
    obtain ⟨x1, k1, k2, k3⟩ := a3 s1 0 am_F r1 (by omega)
    have r2 := rdC_next w r1 k3 a1 k2
    obtain ⟨x2, l1, l2, l3⟩ := b3 x1 0 am_F r2 (by omega)
    have fx := k3.tr l3
    have e1 : f_X11_meet (nI i) (nI j) s = some (0 + d1 + (0 + d2), x2) := by
      unfold f_X11_meet f_X11_tellAll
      rw [c_hasStreet w h.t, am_bds, am_b1 c, g1, am_bds, eC.1, eC.2, am_ltd, am_ltd, show (0 : Int32) = nI 0 from rfl, show nI 0 = nI 0 from rfl]
      have k1' : am_lp (fun (q : Int32 × Int32 × am_S) => b_X11_tellAll_5 (nI a) (nI b) q.1 q.2.1 q.2.2) am_F (nI 0, nI 0, s1) = some (0 + d1, x1) := k1
      have l1' : am_lp (fun (q : Int32 × Int32 × am_S) => b_X11_tellAll_5 (nI b) (nI a) q.1 q.2.1 q.2.2) am_F (nI 0, nI 0, x1) = some (0 + d2, x2) := l1
      rw [k1', am_b2s, l1', am_b2s]
      rfl
    have o2 : ∀ c, c ≠ 134 → (c < 24 ∨ (29 ≤ c ∧ c < 32) ∨ c = 33 ∨ 134 ≤ c) → x2.1 c = s.1 c := fun c c1 c2 => by rw [fx.1 c (by omega) c1, g2 c (by omega)]
    obtain ⟨t, t1, t2, t3, t4, t5⟩ := g4 x2 (fun c hc => fx.1 c (by omega) (by omega)) (o2 260 (by omega) (by omega)) (o2 258 (by omega) (by omega)) (by rw [o2 248 (by omega) (by omega)])
    have mt : t.1 258 = s.1 258 := by rw [t2 258 (by decide) (by decide), o2 258 (by omega) (by omega)]
    have o3 : ∀ c, c ≠ 134 → c ≠ 260 → c ≠ 248 → (c < 24 ∨ (29 ≤ c ∧ c < 32) ∨ c = 33 ∨ 134 ≤ c) → t.1 c = s.1 c := fun c c1 c2 c3 c4 => by rw [t2 c c2 c3, o2 c c1 c4]
    have r3 : rdM s (s.1 248 21) (s.1 258) t := ⟨⟨o3 250 (by omega) (by omega) (by omega) (by omega), o3 252 (by omega) (by omega) (by omega) (by omega), o3 253 (by omega) (by omega) (by omega) (by omega)⟩, mt, by rw [t3 21 (by decide), o2 248 (by omega) (by omega)]⟩
    obtain ⟨y1, p1, p2, p3⟩ := a4 t 0 am_F r3 (by omega)
    obtain ⟨y2, q1, q2, q3⟩ := b4 y1 0 am_F (rdM_next r3 p3 p2) (by omega)
    have fy := p3.tr q3
    refine ⟨_, x2, y2, e1, ?_, rn, ?_⟩
    · rw [m_meet0 w (o2 258 (by omega) (by omega)), am_b1 c, t1, am_bds, eM]
      unfold j_X12_meet_57 f_X12_passesOn
      have p1' : am_lp (fun (q : Int32 × Int32 × am_S) => b_X12_passesOn_5 (nI a) (nI b) q.1 q.2.1 q.2.2) am_F ((0 : Int32), (0 : Int32), t) = some (0 + d1, y1) := p1
      have q1' : am_lp (fun (q : Int32 × Int32 × am_S) => b_X12_passesOn_5 (nI b) (nI a) q.1 q.2.1 q.2.2) am_F ((0 : Int32), (0 : Int32), y1) = some (0 + d2, y2) := q1
      rw [p1', am_b2s, q1', am_b2s]
    · have o4 : ∀ c, c ≠ 134 → c ≠ 248 → c ≠ 258 → c ≠ 259 → c ≠ 260 → (c < 24 ∨ (29 ≤ c ∧ c < 32) ∨ c = 33 ∨ 134 ≤ c) → y2.1 c = s.1 c := fun c c1 c2 c3 c4 c5 c6 => by rw [fy.1 c c2 c3 c4, o3 c c1 c5 c2 c6]
      have o5 : ∀ q, q ≠ 18 → q ≠ 25 → y2.1 248 q = s.1 248 q := fun q q1 q2 => by rw [fy.2.1 q q1, t3 q q2, o2 248 (by omega) (by omega)]
      refine InvR_act (k := k + 1) h ⟨fun c hp c1 c2 c3 c4 => ?_, by rw [o4 0 (by omega) (by omega) (by omega) (by omega) (by omega) (by omega)], by rw [o4 0 (by omega) (by omega) (by omega) (by omega) (by omega) (by omega)], o5 1 (by decide) (by decide), o5 2 (by decide) (by decide), fun z => pRef_of z ⟨?_, ?_⟩⟩ (fun c hc => o4 c (by omega) (by omega) (by omega) (by omega) (by omega) (by omega)) (o5 21 (by decide) (by decide)) (o5 22 (by decide) (by decide)) (by rw [q2]; exact a1.tr b1) (by rw [q2]; exact b2) (by rw [q2]; exact lifeAt_of l2 (fun c c1 c2 => by rw [fy.1 c (by omega) (by omega) (by omega), t2 c (by omega) (by omega)])) (pActsM_of t5 (fun c hc => fy.1 c (by omega) (by omega) (by omega)) (fy.2.1 25 (by decide))) rfl
      · have a1 : c ≠ 248 := fun e => by subst e; unfold isPr at hp; omega
        have a2 : c ≠ 259 := fun e => by subst e; unfold isPr at hp; omega
        have a3 : c ≠ 134 := fun e => by subst e; unfold isPr at hp; omega
        exact o4 c a3 a1 c3 a2 c4 (by omega)
      · rw [fy.2.2, t4]
        rcases fx.2.2 with e | e
        · exact Or.inl e
        · rw [e, g3]; exact z.1
      · rw [fy.2.2, t4, fx.2.1, g3]
  · refine ⟨-1, s, s, ?_, ?_, rn, h⟩
    · unfold f_X11_meet
      rw [c_hasStreet w h.t, am_bds, am_b0 c]
    · rw [m_meet0 w rfl, am_b0 c]
