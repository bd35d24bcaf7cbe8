/-! the acts that may be undone -/
def pActsM (k : Nat) (m : Nat → Int32) (s : am_S) : Prop := ∃ a n, a < 20 ∧ n ≤ 20 ∧ s.1 32 1 = nI a ∧ s.1 32 2 = nI n ∧ s.1 248 25 = nI n ∧ ∀ i, i < n → sameT m (fun j => s.1 260 (130 * i + j)) ∧ wfL k (mx m (fun j => s.1 260 (130 * i + j))) ∧
  clL (mx m (fun j => s.1 260 (130 * i + j))) (s.1 (34 + 5 * ((a + i) % 20))) (s.1 (35 + 5 * ((a + i) % 20))) (s.1 (36 + 5 * ((a + i) % 20))) (s.1 (37 + 5 * ((a + i) % 20))) (s.1 (38 + 5 * ((a + i) % 20)))
/-- rows that agree but in what an act changes -/
def agL (m n : Nat → Int32) : Prop := ∀ j, (j < 6 ∨ j = 10 ∨ 130 ≤ j) → n j = m j
theorem agL.rf (m : Nat → Int32) : agL m m := fun _ _ => rfl
theorem agL.tr {m n o : Nat → Int32} (h : agL m n) (g : agL n o) : agL m o := fun j hj => (g j hj).trans (h j hj)
theorem agL.t {m n : Nat → Int32} (h : agL m n) : agT m n := fun j hj => h j (by unfold tc at hj; omega)
theorem mx_agL {m n : Nat → Int32} (h : agL m n) (r : Nat → Int32) : mx n r = mx m r := by
  funext j
  by_cases c : j < 130
  · rw [mx_lo c, mx_lo c]
  · rw [mx_hi (by omega), mx_hi (by omega), h j (by omega)]
theorem sameT_agL {m n r : Nat → Int32} (h : agL m n) (g : sameT m r) : sameT n r := by
  obtain ⟨y0, y1, y2, y3, y4, y5, y10⟩ := g
  exact ⟨by rw [h 0 (by omega)]; exact y0, by rw [h 1 (by omega)]; exact y1, by rw [h 2 (by omega)]; exact y2, by rw [h 3 (by omega)]; exact y3, by rw [h 4 (by omega)]; exact y4, by rw [h 5 (by omega)]; exact y5, by rw [h 10 (by omega)]; exact y10⟩
theorem pActsM_agL {k : Nat} {m n : Nat → Int32} {s : am_S} (h : agL m n) (g : pActsM k m s) : pActsM k n s := by
  obtain ⟨a, c, ha, hn, h1, h2, h3, h4⟩ := g
  refine ⟨a, c, ha, hn, h1, h2, h3, fun i hi => ?_⟩
  have h4 := h4 i hi
  rw [mx_agL h]
  exact ⟨sameT_agL h h4.1, h4.2⟩
theorem pActsM_of {k : Nat} {m : Nat → Int32} {s s2 : am_S} (h : pActsM k m s) (g : ∀ a, (a = 260 ∨ a = 32 ∨ (34 ≤ a ∧ a < 134)) → s2.1 a = s.1 a) (g2 : s2.1 248 25 = s.1 248 25) : pActsM k m s2 := by
  obtain ⟨a, n, ha, hn, h1, h2, h3, h4⟩ := h
  refine ⟨a, n, ha, hn, by rw [g 32 (by omega)]; exact h1, by rw [g 32 (by omega)]; exact h2, g2.trans h3, fun i hi => ?_⟩
  have h4 := h4 i hi
  have hb : (a + i) % 20 < 20 := Nat.mod_lt _ (by decide)
  rw [g 260 (by omega), g (34 + 5 * ((a + i) % 20)) (by omega), g (35 + 5 * ((a + i) % 20)) (by omega), g (36 + 5 * ((a + i) % 20)) (by omega), g (37 + 5 * ((a + i) % 20)) (by omega), g (38 + 5 * ((a + i) % 20)) (by omega)]
  exact h4
theorem wfS_agL {m n : Nat → Int32} (h : agL m n) (sw : wfS m) : wfS n := by
  obtain ⟨s1, s2, s3, s4⟩ := sw
  refine ⟨isN_eq (h 326 (by omega)) rfl s1, isN_eq (h 327 (by omega)) rfl s2, fun i hi => ?_, fun i hi => ?_⟩
  · rw [mN_eq (h 326 (by omega))] at hi
    obtain ⟨a, b, c⟩ := s3 i hi
    exact ⟨isN_eq (h _ (by omega)) (mN_eq (h 2 (by omega))) a, isN_eq (h _ (by omega)) (mN_eq (h 0 (by omega))) b, by rw [h _ (by omega)]; exact c⟩
  · rw [mN_eq (h 327 (by omega))] at hi
    obtain ⟨a, b⟩ := s4 i hi
    exact ⟨isN_eq (h _ (by omega)) rfl a, by rw [h _ (by omega)]; exact b⟩
theorem clS_agL {m n q0 q1 : Nat → Int32} {ch x : Int32} (h : agL m n) (sw : wfS m) (c : clS m q0 q1 ch x) : clS n q0 q1 ch x := by
  obtain ⟨e1, e2, e3, e4, e5, e6, e7⟩ := c
  refine ⟨e1, e2, by rw [h 326 (by omega)]; exact e3, by rw [h 327 (by omega)]; exact e4, by rw [taleBits_eq (fun j _ _ => h j (by omega)) sw.2.1.2]; exact e5, by rw [taleBits_eq (fun j _ _ => h j (by omega)) sw.2.1.2]; exact e6, fun j hj => ?_⟩
  rw [mN_eq (h 326 (by omega))] at hj
  rw [h _ (by omega)]
  exact e7 j hj
/-- what stands behind an act -/
theorem InvR_act {k k2 rn : Nat} {s s2 : am_S} (h : InvR k2 rn s) (g : protN s s2) (gc : ∀ a, (a = 15 ∨ (16 ≤ a ∧ a < 24) ∨ a = 29) → s2.1 a = s.1 a) (g1 : s2.1 248 21 = s.1 248 21) (g2 : s2.1 248 22 = s.1 248 22) (hm : agL (s.1 258) (s2.1 258)) (hl : wfL k (s2.1 258)) (hf : lifeAt (s2.1 258) s2 24) (ha : pActsM k (s.1 258) s2) (hk : k2 = k) : InvR k rn s2 := by
  subst hk
  refine InvR_N h g ?_ (pActsM_agL hm ha)
  obtain ⟨n1, n2, n3, n4, n5, n6, n9, n10⟩ := h.2.2.2.2.2.1
  unfold pNow
  rw [gc 16 (by omega), gc 18 (by omega), gc 19 (by omega), gc 20 (by omega), gc 21 (by omega), gc 22 (by omega), gc 23 (by omega), gc 15 (by omega), gc 29 (by omega), g1, g2]
  exact ⟨wfT_eq hm.t n1, hl, wfS_agL hm n3, clT_eq hm.t n1 n4, hf, clS_agL hm n3 n6, n9, n10⟩
theorem kept_is {x : Nat} (h : x < 20) : 34 + 5 * x ∈ am_isL := by
  have : ∀ x, x < 20 → 34 + 5 * x ∈ am_isL := by decide +kernel
  exact this x h
theorem c_keep {m : Nat → Int32} {s : am_S} {a n : Nat} (w : wfT m) (l : lifeAt m s 24) (h1 : s.1 32 1 = nI a) (h2 : s.1 32 2 = nI n) (ha : a < 20) (hn : n ≤ 20) : ∃ s1, f_X0_keep s = some s1 ∧ lifeAt m s1 (34 + 5 * ((a + n) % 20)) ∧ (∀ c, c ≠ 32 → (c < 34 + 5 * ((a + n) % 20) ∨ 34 + 5 * ((a + n) % 20) + 5 ≤ c) → s1.1 c = s.1 c) ∧ s1.2 = s.2 ∧ s1.1 32 1 = nI (if n < 20 then a else (a + 1) % 20) ∧ s1.1 32 2 = nI (if n < 20 then n + 1 else 20) := by
  have hx : (a + n) % 20 < 20 := Nat.mod_lt _ (by decide)
  obtain ⟨s4, g1, g2, g3, g4⟩ := c_copyLife (kept_is hx) (show 24 ∈ am_isL by decide) (by omega) w l
  have e0 : f_X0_keep s = am_if ((nI 20) ≤ (s4.1 32 2)) (am_lt (as_i s4 32 1 (((s4.1 32 1) + (1 : Int32)) - ((s4.1 32 1) + (1 : Int32)) / (nI 20) * (nI 20))) (fun s5 => some s5)) (am_lt (as_i s4 32 2 ((s4.1 32 2) + (1 : Int32))) (fun s6 => some s6)) := by
    unfold f_X0_keep
    rw [h1, h2, nI_add, pk_rem (by omega) (by decide) (by decide), am_ltd, gd_nI hx (by decide), cL (by omega), am_ltd, g1, am_bds]
  rw [g3 32 (by omega), h1, h2] at e0
  by_cases c : n < 20
  · rw [am_iff (nI_ge c (by decide)), am_ltd, nI_1] at e0
    refine ⟨_, e0, ?_, fun b b1 b2 => by rw [as_i1 b1, g3 b b2], g4, ?_, ?_⟩
    · unfold lifeAt at g2 ⊢
      rw [as_i1 (by omega), as_i1 (by omega), as_i1 (by omega), as_i1 (by omega), as_i1 (by omega)]
      exact g2
    · rw [as_i2 (by decide), g3 32 (by omega), h1, if_pos c]
    · rw [as_i3, if_pos c]
  · rw [am_ift (nI_le (by omega) (by omega)), am_ltd, nI_1, pk_rem (by omega) (by decide) (by decide)] at e0
    refine ⟨_, e0, ?_, fun b b1 b2 => by rw [as_i1 b1, g3 b b2], g4, ?_, ?_⟩
    · unfold lifeAt at g2 ⊢
      rw [as_i1 (by omega), as_i1 (by omega), as_i1 (by omega), as_i1 (by omega), as_i1 (by omega)]
      exact g2
    · rw [as_i3, if_neg c]
    · rw [as_i2 (by decide), g3 32 (by omega), h2, if_neg c, show n = 20 by omega]
theorem m_keeps2 {s : am_S} {n : Nat} (h : s.1 248 25 = nI n) (hn : n < 20) : j_X12_keepsAct_52 s = some (as_i (as_w s 260 (cpv (s.1 260) (130 * n) 130 (s.1 258))) 248 25 (nI (n + 1))) := by
  unfold j_X12_keepsAct_52
  refine lp_copyR 260 130 (130 * n) (s.1 258) s (fun j hj g => ?_) ?_ (by decide)
  · dsimp only
    unfold b_X12_keepsAct_54
    rw [am_iff (nI_ge hj (by decide)), gd_nI (by omega) (by decide), as_w1 (by decide : (248 : Nat) ≠ 260), h]
    simp (disch := omega) only [am_ltd, pk_mul, nI_add, nI_1, gd2, cL]
    rw [as_w1 (by decide : (258 : Nat) ≠ 260)]
  · dsimp only
    unfold b_X12_keepsAct_54
    rw [am_ift (by decide), am_ltd, as_w1 (by decide : (248 : Nat) ≠ 260), h, nI_1]
def shR (g : Nat → Int32) (i : Nat) : Nat → Int32 := fun j => if j < i then g (j + 130) else g j
theorem shR_1 (g : Nat → Int32) (i : Nat) : upd (shR g i) i (g (130 + i)) = shR g (i + 1) := by
  funext j
  by_cases c : j = i
  · subst c
    rw [upd_s]
    unfold shR
    rw [if_pos (by omega), Nat.add_comm]
  · rw [upd_n c]
    unfold shR
    by_cases c2 : j < i
    · rw [if_pos c2, if_pos (by omega)]
    · rw [if_neg c2, if_neg (by omega)]
theorem shR_x {g : Nat → Int32} {i j : Nat} (h : i ≤ j) : shR g i j = g j := if_neg (by omega)
theorem m_keepsF {s : am_S} (h : s.1 248 25 = nI 20) : f_X12_keepsAct s = j_X12_keepsAct_52 (as_i (as_w s 260 (shR (s.1 260) 2470)) 248 25 (nI 19)) := by
  have e4 : am_F = 4000 := rfl
  have hj : j_X12_keepsAct_42 (as_w s 260 (shR (s.1 260) 2470)) = j_X12_keepsAct_52 (as_i (as_w s 260 (shR (s.1 260) 2470)) 248 25 (nI 19)) := by
    unfold j_X12_keepsAct_42
    rw [am_ltd, as_w1 (by decide : (248 : Nat) ≠ 260), h]
    rfl
  have hz := m_keeps2 (s := as_i (as_w s 260 (shR (s.1 260) 2470)) 248 25 (nI 19)) (n := 19) as_i3 (by decide)
  generalize hw : as_i (as_w (as_i (as_w s 260 (shR (s.1 260) 2470)) 248 25 (nI 19)) 260 (cpv ((as_i (as_w s 260 (shR (s.1 260) 2470)) 248 25 (nI 19)).1 260) (130 * 19) 130 ((as_i (as_w s 260 (shR (s.1 260) 2470)) 248 25 (nI 19)).1 258))) 248 25 (nI (19 + 1)) = z at hz
  unfold f_X12_keepsAct
  rw [am_ift h]
  have key := am_lp_run (body := fun (q : Int32 × am_S) => b_X12_keepsAct_13 q.1 q.2) (e := z) (fun i => (nI (130 + i), as_w s 260 (shR (s.1 260) i))) 2470 (fun i hi => by
    dsimp only
    unfold b_X12_keepsAct_13
    rw [am_iff (nI_ge (by omega) (by decide)), pk_sub (by omega)]
    simp (disch := omega) only [am_ltd, pk_mul, nI_add, nI_1, gd2, cL]
    rw [as_w3, shR_x (by omega), as_iw, show 130 + i - 130 = i by omega, shR_1, show 130 + (i + 1) = 130 + i + 1 from rfl]) (by
    dsimp only
    unfold b_X12_keepsAct_13
    rw [am_ift (nI_le (by omega) (by decide)), hj, hz, am_bds]) (F := am_F) (by omega)
  have e0 : shR (s.1 260) 0 = s.1 260 := by
    funext j
    exact if_neg (by omega)
  rw [hz]
  rw [e0, as_w_self] at key
  exact key
theorem m_keepsAct {s : am_S} {n : Nat} (h : s.1 248 25 = nI n) (hn : n ≤ 20) : ∃ s2, f_X12_keepsAct s = some s2 ∧ s2.1 248 25 = nI (if n < 20 then n + 1 else 20) ∧ (∀ i j, i < (if n < 20 then n + 1 else 20) → j < 130 → s2.1 260 (130 * i + j) = if i + 1 = (if n < 20 then n + 1 else 20) then s.1 258 j else s.1 260 (130 * (if n < 20 then i else i + 1) + j)) ∧ (∀ c, c ≠ 260 → c ≠ 248 → s2.1 c = s.1 c) ∧ (∀ j, j ≠ 25 → s2.1 248 j = s.1 248 j) ∧ s2.2 = s.2 := by
  by_cases c : n < 20
  · rw [if_pos c]
    refine ⟨as_i (as_w s 260 (cpv (s.1 260) (130 * n) 130 (s.1 258))) 248 25 (nI (n + 1)), ?_, as_i3, fun i j hi hj => ?_, fun b b1 b2 => by rw [as_i1 b2, as_w1 b1], fun j hj => by rw [as_i2 hj, as_w1 (by decide)], rfl⟩
    · unfold f_X12_keepsAct
      rw [am_iff (by rw [h, nI_eq (by omega) (by decide)]; omega)]
      exact m_keeps2 h c
    · rw [as_i1 (by decide), as_w3]
      by_cases e : i = n
      · subst e
        rw [cpv_in (by omega) (by omega), if_pos rfl, show 130 * i + j - 130 * i = j by omega]
      · rw [cpv_out (by omega), if_neg (by omega), if_pos c]
  · have e20 : n = 20 := by omega
    subst e20
    rw [if_neg c]
    refine ⟨_, (m_keepsF h).trans (m_keeps2 (n := 19) as_i3 (by decide)), as_i3, fun i j hi hj => ?_, fun b b1 b2 => by rw [as_i1 b2, as_w1 b1, as_i1 b2, as_w1 b1], fun j hj => by rw [as_i2 hj, as_w1 (by decide), as_i2 hj, as_w1 (by decide)], rfl⟩
    rw [as_i1 (by decide), as_w3, as_i1 (by decide : (258 : Nat) ≠ 248), as_w1 (by decide : (258 : Nat) ≠ 260), as_i1 (by decide : (260 : Nat) ≠ 248), as_w3]
    by_cases e : i = 19
    · subst e
      rw [cpv_in (by omega) (by omega), if_pos rfl, show 130 * 19 + j - 130 * 19 = j by omega]
    · rw [cpv_out (by omega), if_neg (by omega), if_neg c]
      unfold shR
      rw [if_pos (by omega), show 130 * i + j + 130 = 130 * (i + 1) + j by omega]
/-- both keep -/
theorem keep_both {k : Nat} {m : Nat → Int32} {s : am_S} (hm : s.1 258 = m) (w : wfT m) (l : lifeAt m s 24) (lk : wfL k m) (hA : pActsM k m s) : ∃ s1, f_X0_keep s = some s1 ∧ (∀ c, (c < 32 ∨ c = 33 ∨ 134 ≤ c) → s1.1 c = s.1 c) ∧ s1.2 = s.2 ∧
    ∀ t : am_S, (∀ c, (c = 32 ∨ (34 ≤ c ∧ c < 134)) → t.1 c = s1.1 c) → t.1 260 = s.1 260 → t.1 258 = m → t.1 248 25 = s.1 248 25 → ∃ t2, f_X12_keepsAct t = some t2 ∧ (∀ c, c ≠ 260 → c ≠ 248 → t2.1 c = t.1 c) ∧ (∀ j, j ≠ 25 → t2.1 248 j = t.1 248 j) ∧ t2.2 = t.2 ∧ pActsM k m t2 := by
  obtain ⟨a, n, ha, hn, h1, h2, h3, h4⟩ := hA
  have hx : (a + n) % 20 < 20 := Nat.mod_lt _ (by decide)
  obtain ⟨s1, g1, g2, g3, g4, g5, g6⟩ := c_keep w l h1 h2 ha hn
  refine ⟨s1, g1, fun c hc => g3 c (by omega) (by omega), g4, fun t t1 t2 t3 t4 => ?_⟩
  obtain ⟨u, u1, u2, u3, u4, u5, u6⟩ := m_keepsAct (s := t) (n := n) (by rw [t4]; exact h3) hn
  refine ⟨u, u1, u4, u5, u6, ?_⟩
  generalize hn2 : (if n < 20 then n + 1 else 20) = n2 at *
  generalize ha2 : (if n < 20 then a else (a + 1) % 20) = a2 at *
  have ha2' : a2 < 20 := by rw [← ha2]; split; exact ha; exact Nat.mod_lt _ (by decide)
  have hn2' : n2 ≤ 20 := by rw [← hn2]; split <;> omega
  have o32 : u.1 32 = s1.1 32 := by rw [u4 32 (by decide) (by decide), t1 32 (by omega)]
  refine ⟨a2, n2, ha2', hn2', by rw [o32, g5], by rw [o32, g6], u2, fun i hi => ?_⟩
  have hy : (a2 + i) % 20 < 20 := Nat.mod_lt _ (by decide)
  have oc : ∀ c, 34 ≤ c → c < 134 → u.1 c = s1.1 c := fun c c1 c2 => by rw [u4 c (by omega) (by omega), t1 c (by omega)]
  rw [oc (34 + 5 * ((a2 + i) % 20)) (by omega) (by omega), oc (35 + 5 * ((a2 + i) % 20)) (by omega) (by omega), oc (36 + 5 * ((a2 + i) % 20)) (by omega) (by omega), oc (37 + 5 * ((a2 + i) % 20)) (by omega) (by omega), oc (38 + 5 * ((a2 + i) % 20)) (by omega) (by omega)]
  by_cases c : i + 1 = n2
  · have ej : ∀ j, j < 130 → u.1 260 (130 * i + j) = m j := fun j hj => by rw [u3 i j hi hj, if_pos c, t3]
    have em : mx m (fun j => u.1 260 (130 * i + j)) = m := by
      funext j
      by_cases cj : j < 130
      · rw [mx_lo cj, ej j cj]
      · rw [mx_hi (by omega)]
    have ex : (a2 + i) % 20 = (a + n) % 20 := by
      by_cases c20 : n < 20
      · rw [if_pos c20] at hn2 ha2
        rw [← ha2, show i = n by omega]
      · rw [if_neg c20] at hn2 ha2
        rw [← ha2, show i = 19 by omega, show n = 20 by omega]
        omega
    rw [em, ex]
    refine ⟨⟨ej 0 (by omega), ej 1 (by omega), ej 2 (by omega), ej 3 (by omega), ej 4 (by omega), ej 5 (by omega), ej 10 (by omega)⟩, lk, ?_⟩
    unfold lifeAt at g2
    rw [show 34 + 5 * ((a + n) % 20) + 1 = 35 + 5 * ((a + n) % 20) by omega, show 34 + 5 * ((a + n) % 20) + 2 = 36 + 5 * ((a + n) % 20) by omega, show 34 + 5 * ((a + n) % 20) + 3 = 37 + 5 * ((a + n) % 20) by omega, show 34 + 5 * ((a + n) % 20) + 4 = 38 + 5 * ((a + n) % 20) by omega] at g2
    exact g2
  · obtain ⟨i2, hi2, e1, e2⟩ : ∃ i2, i2 < n ∧ (∀ j, j < 130 → u.1 260 (130 * i + j) = s.1 260 (130 * i2 + j)) ∧ (a2 + i) % 20 = (a + i2) % 20 ∧ (a + i2) % 20 ≠ (a + n) % 20 := by
      by_cases c20 : n < 20
      · refine ⟨i, by rw [if_pos c20] at hn2; omega, fun j hj => by rw [u3 i j hi hj, if_neg c, if_pos c20, t2], ?_, ?_⟩
        · rw [if_pos c20] at ha2
          rw [ha2]
        · rw [if_pos c20] at hn2
          omega
      · refine ⟨i + 1, by rw [if_neg c20] at hn2; omega, fun j hj => by rw [u3 i j hi hj, if_neg c, if_neg c20, t2], ?_, ?_⟩
        · rw [if_neg c20] at ha2
          rw [← ha2]
          omega
        · rw [if_neg c20] at hn2
          omega
    obtain ⟨x1, x2, x3⟩ := h4 i2 hi2
    have em : mx m (fun j => u.1 260 (130 * i + j)) = mx m (fun j => s.1 260 (130 * i2 + j)) := by
      funext j
      by_cases cj : j < 130
      · rw [mx_lo cj, mx_lo cj, e1 j cj]
      · rw [mx_hi (by omega), mx_hi (by omega)]
    rw [em, e2.1]
    have hz : (a + i2) % 20 < 20 := Nat.mod_lt _ (by decide)
    have os : ∀ q, 34 + 5 * ((a + i2) % 20) ≤ q → q < 34 + 5 * ((a + i2) % 20) + 5 → s1.1 q = s.1 q := fun q q1 q2 => g3 q (by omega) (by have := e2.2; omega)
    rw [os (34 + 5 * ((a + i2) % 20)) (by omega) (by omega), os (35 + 5 * ((a + i2) % 20)) (by omega) (by omega), os (36 + 5 * ((a + i2) % 20)) (by omega) (by omega), os (37 + 5 * ((a + i2) % 20)) (by omega) (by omega), os (38 + 5 * ((a + i2) % 20)) (by omega) (by omega)]
    obtain ⟨y0, y1, y2, y3, y4, y5, y10⟩ := x1
    exact ⟨⟨(e1 0 (by omega)).trans y0, (e1 1 (by omega)).trans y1, (e1 2 (by omega)).trans y2, (e1 3 (by omega)).trans y3, (e1 4 (by omega)).trans y4, (e1 5 (by omega)).trans y5, (e1 10 (by omega)).trans y10⟩, x2, x3⟩
