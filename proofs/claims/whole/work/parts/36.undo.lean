/-! undo, hour -/
def agH (m n : Nat → Int32) : Prop := ∀ j, (j < 6 ∨ (10 ≤ j ∧ j < 123) ∨ 130 ≤ j) → n j = m j
theorem agH.l {m n : Nat → Int32} (h : agH m n) : agL m n := fun j hj => h j (by omega)
theorem bel_agL {m n : Nat → Int32} (h : agL m n) (w : wfT m) {p : Nat} (hh : ∀ f, f < mF m → n (11 + 16 * p + 2 * f) = m (11 + 16 * p + 2 * f)) : bel n p = bel m p := bel_eq h.t w hh
theorem clL_hd {m n l0 l1 l2 l3 l4 k0 k4 : Nat → Int32} (h : agH m n) (w : wfT m) (c : clL m l0 l1 l2 l3 l4) (e1 : k0 4 = n 6) (e2 : k0 5 = n 7) (e3 : 0 < mF n → k0 7 = n 9 ∧ (n 9 ≠ -1 → k0 6 = n 8)) (e4 : ∀ p, p < 7 → k4 p = if p < mP n then n (123 + p) else 0) : clL n k0 l1 l2 l3 k4 := by
  have hP := w.P7
  have hF := w.F8
  obtain ⟨c1, c2, c3, c4, c5, c6⟩ := c
  refine ⟨e1, e2, e3, e4, fun p f hp hf => ?_, fun p f hp hf => ?_⟩
  · rw [h.l.t.mP] at hp
    rw [heldR_eq h.l.t w (fun f hf => h _ (by omega)), bel_eq h.l.t w (fun f hf => h _ (by omega))]
    exact c5 p f hp hf
  · rw [h.l.t.mP] at hp
    rw [h.l.t.mF] at hf
    rw [h _ (by omega)]
    exact c6 p f hp hf
theorem wfL_hd {k k2 : Nat} {m n : Nat → Int32} (h : agH m n) (w : wfT m) (l : wfL k m) (e1 : isN n 6 (4 * k2 + 1)) (e2 : isN n 7 24) (e3 : 0 < mF n → n 9 = -1 ∨ isN n 9 (mP n)) : wfL k2 n := by
  have hP := w.P7
  have hF := w.F8
  refine ⟨e1, e2, e3, fun p f hp hf => ?_⟩
  rw [h.l.t.mP] at hp
  rw [h.l.t.mF] at hf
  have := l.2.2.2 p f hp hf
  exact ⟨by rw [h _ (by omega)]; exact this.1, isN_eq (h _ (by omega)) rfl this.2.1, by rw [h _ (by omega), h _ (by omega)]; exact this.2.2⟩
theorem InvR.a {k rn : Nat} {s : am_S} (h : InvR k rn s) : pActsM k (s.1 258) s := h.2.2.2.2.2.2.2.1
theorem mx_agL2 {m r : Nat → Int32} (h : sameT m r) : agL m (mx m r) := fun j hj => by
  by_cases c : 130 ≤ j
  · rw [mx_hi c]
  · exact mx_agT h j (by unfold tc; omega)
theorem nI_pr {n : Nat} : nI (n + 1) - 1 = nI n := nI_pred n
theorem st_undo : LS_undo Inv := by
  intro k s hk hI
  obtain ⟨rn, h⟩ := hI
  have h := InvR_mono h
  obtain ⟨a, n, ha, hn, h1, h2, h3, h4⟩ := h.a
  rcases Nat.eq_zero_or_pos n with rfl | hpos
  · refine ⟨-1, s, s, ?_, ?_, rn, h⟩
    · unfold f_X11_undo
      rw [h2, am_ift (by decide)]
    · unfold f_X12_undo
      rw [h3, am_ift (by decide)]
  · obtain ⟨q, rfl⟩ : ∃ q, n = q + 1 := ⟨n - 1, by omega⟩
    have hx : (a + q) % 20 < 20 := Nat.mod_lt _ (by decide)
    obtain ⟨x1, x2, x3⟩ := h4 q (by omega)
    have w := h.w
    have wx := wfT_eq (mx_agT x1) w
    generalize hm : mx (s.1 258) (fun j => s.1 260 (130 * q + j)) = m at *
    generalize hs0 : as_i s 32 2 (nI q) = s0
    have o0 : ∀ c, c ≠ 32 → s0.1 c = s.1 c := fun c hc => by rw [← hs0, as_i1 hc]
    have lx : lifeAt m s0 (34 + 5 * ((a + q) % 20)) := by
      unfold lifeAt
      rw [show 34 + 5 * ((a + q) % 20) + 1 = 35 + 5 * ((a + q) % 20) by omega, show 34 + 5 * ((a + q) % 20) + 2 = 36 + 5 * ((a + q) % 20) by omega, show 34 + 5 * ((a + q) % 20) + 3 = 37 + 5 * ((a + q) % 20) by omega, show 34 + 5 * ((a + q) % 20) + 4 = 38 + 5 * ((a + q) % 20) by omega, o0 _ (by omega), o0 _ (by omega), o0 _ (by omega), o0 _ (by omega), o0 _ (by omega)]
      exact x3
    obtain ⟨s1, g1, g2, g3, g4⟩ := c_copyLife (show 24 ∈ am_isL by decide) (kept_is hx) (by omega) wx lx
    have e1 : f_X11_undo s = some (nI q, s1) := by
      unfold f_X11_undo f_X0_takeBack
      rw [h2, am_iff (nI_ne0 (by omega) (by omega)), am_iff (nI_nle (by omega) (by omega)), nI_pr, am_ltd, hs0]
      have z1 : s0.1 32 1 = nI a := by rw [← hs0, as_i2 (by decide), h1]
      have z2 : s0.1 32 2 = nI q := by rw [← hs0, as_i3]
      rw [z1, z2, nI_add, pk_rem (by omega) (by decide) (by decide), am_ltd, gd_nI hx (by decide), cL (by omega), am_ltd, g1, am_bds, am_bds, g3 32 (by omega), z2]
    have o1 : ∀ c, c ≠ 32 → (c < 24 ∨ 29 ≤ c) → s1.1 c = s.1 c := fun c c1 c2 => by rw [g3 c (by omega), o0 c c1]
    have e2 : f_X12_undo s1 = some (nI q, as_w (as_i s1 248 25 (nI q)) 258 m) := by
      unfold f_X12_undo
      rw [o1 248 (by omega) (by omega), h3, am_iff (nI_ne0 (by omega) (by omega)), nI_pr, am_ltd]
      have em : cpv ((as_i s1 248 25 (nI q)).1 258) 0 130 (fun j => s.1 260 (130 * q + j)) = m := by
        rw [as_i1 (by decide), o1 258 (by omega) (by omega), ← hm]
        funext j
        by_cases c : j < 130
        · rw [cpv_in (by omega) (by omega), mx_lo c, Nat.sub_zero]
        · rw [cpv_out (by omega), mx_hi (by omega)]
      rw [← em]
      refine lp_copyR 258 130 0 (fun j => s.1 260 (130 * q + j)) _ (fun j hj g => ?_) ?_ (by decide)
      · dsimp only
        unfold b_X12_undo_21
        rw [am_iff (nI_ge hj (by decide)), as_w1 (by decide : (248 : Nat) ≠ 258), as_i3]
        simp (disch := omega) only [am_ltd, pk_mul, nI_add, nI_1, gd2, cL]
        rw [as_w1 (by decide : (260 : Nat) ≠ 258), as_i1 (by decide : (260 : Nat) ≠ 248), o1 260 (by omega) (by omega), Nat.zero_add]
      · dsimp only
        unfold b_X12_undo_21
        rw [am_ift (by decide), as_w1 (by decide : (248 : Nat) ≠ 258), as_i3]
    generalize hs2 : as_w (as_i s1 248 25 (nI q)) 258 m = s2 at e2
    refine ⟨_, s1, s2, e1, e2, rn, ?_⟩
    have o2 : ∀ c, c ≠ 248 → c ≠ 258 → s2.1 c = s1.1 c := fun c c1 c2 => by rw [← hs2, as_w1 c2, as_i1 c1]
    have o3 : ∀ j, j ≠ 25 → s2.1 248 j = s.1 248 j := fun j hj => by rw [← hs2, as_w1 (by decide), as_i2 hj, o1 248 (by omega) (by omega)]
    have m2 : s2.1 258 = m := by rw [← hs2, as_w3]
    refine InvR_act (k := k + 1) h ⟨fun c hp c1 c2 c3 c4 => by
      have : c ≠ 248 := fun z => by subst z; unfold isPr at hp; omega
      rw [o2 c this c3, o1 c (by omega) (by omega)], by rw [o2 0 (by omega) (by omega), o1 0 (by omega) (by omega)], by rw [o2 0 (by omega) (by omega), o1 0 (by omega) (by omega)], o3 1 (by decide), o3 2 (by decide), fun z => by unfold pRef at z ⊢; rw [← hs2, as_w4, as_i4, g4, ← hs0, as_i4]; exact z⟩ (fun c hc => by rw [o2 c (by omega) (by omega), o1 c (by omega) (by omega)]) (o3 21 (by decide)) (o3 22 (by decide)) (by rw [m2, ← hm]; exact mx_agL2 x1) (by rw [m2]; exact x2) ?_ ⟨a, q, ha, by omega, ?_, ?_, ?_, fun i hi => ?_⟩ rfl
    · rw [m2]
      unfold lifeAt at g2 ⊢
      rw [o2 24 (by decide) (by decide), o2 (24 + 1) (by decide) (by decide), o2 (24 + 2) (by decide) (by decide), o2 (24 + 3) (by decide) (by decide), o2 (24 + 4) (by decide) (by decide)]
      exact g2
    · rw [o2 32 (by decide) (by decide), g3 32 (by omega), ← hs0, as_i2 (by decide), h1]
    · rw [o2 32 (by decide) (by decide), g3 32 (by omega), ← hs0, as_i3]
    · rw [← hs2, as_w1 (by decide), as_i3]
    · have hb : (a + i) % 20 < 20 := Nat.mod_lt _ (by decide)
      have oo : ∀ c, (c = 260 ∨ (34 ≤ c ∧ c < 134)) → s2.1 c = s.1 c := fun c hc => by rw [o2 c (by omega) (by omega), o1 c (by omega) (by omega)]
      rw [oo 260 (by omega), oo (34 + 5 * ((a + i) % 20)) (by omega), oo (35 + 5 * ((a + i) % 20)) (by omega), oo (36 + 5 * ((a + i) % 20)) (by omega), oo (37 + 5 * ((a + i) % 20)) (by omega), oo (38 + 5 * ((a + i) % 20)) (by omega)]
      exact h4 i (by omega)
theorem lifeAt_of {m : Nat → Int32} {s s2 : am_S} {L : Nat} (h : lifeAt m s L) (g : ∀ c, L ≤ c → c < L + 5 → s2.1 c = s.1 c) : lifeAt m s2 L := by
  unfold lifeAt at h ⊢
  rw [g L (by omega) (by omega), g (L + 1) (by omega) (by omega), g (L + 2) (by omega) (by omega), g (L + 3) (by omega) (by omega), g (L + 4) (by omega) (by omega)]
  exact h
theorem townAt_of {m : Nat → Int32} {s s2 : am_S} (h : townAt m s) (g : ∀ c, 16 ≤ c → c < 24 → s2.1 c = s.1 c) : townAt m s2 := by
  unfold townAt at h ⊢
  rw [g 16 (by omega) (by omega), g 18 (by omega) (by omega), g 19 (by omega) (by omega), g 20 (by omega) (by omega), g 21 (by omega) (by omega), g 22 (by omega) (by omega), g 23 (by omega) (by omega)]
  exact h
/-- the hour goes by: in both -/
def hourM (m : Nat → Int32) : Nat → Int32 := upd m 7 (m 7 + 1)
theorem hourM_ag (m : Nat → Int32) : agH m (hourM m) := fun j hj => upd_n (by omega)
theorem lifeAt_hour {m : Nat → Int32} {s : am_S} {L : Nat} (w : wfT m) (l : lifeAt m s L) : lifeAt (hourM m) (as_i s L 5 (s.1 L 5 + 1)) L := by
  have hu : ∀ j, j ≠ 7 → hourM m j = m j := fun j hj => upd_n hj
  have z : clL (hourM m) ((as_i s L 5 (s.1 L 5 + 1)).1 L) (s.1 (L + 1)) (s.1 (L + 2)) (s.1 (L + 3)) (s.1 (L + 4)) := by
    refine clL_hd (hourM_ag m) w l ?_ ?_ (fun h0 => ?_) (fun p hp => ?_)
    · rw [as_i2 (by decide), hu 6 (by decide), l.1]
    · rw [as_i3, l.2.1]
      exact upd_s.symm
    · rw [(hourM_ag m).l.t.mF] at h0
      rw [as_i2 (by decide), as_i2 (by decide), hu 9 (by decide), hu 8 (by decide)]
      exact l.2.2.1 h0
    · rw [(hourM_ag m).l.t.mP, hu _ (by omega)]
      exact l.li hp
  unfold lifeAt
  rw [as_i1 (by omega : L + 1 ≠ L), as_i1 (by omega : L + 2 ≠ L), as_i1 (by omega : L + 3 ≠ L), as_i1 (by omega : L + 4 ≠ L)]
  exact z
theorem wfL_hour {k : Nat} {m : Nat → Int32} (w : wfT m) (l : wfL k m) (h : mN m 7 < 23) : wfL k (hourM m) := by
  have hu : ∀ j, j ≠ 7 → hourM m j = m j := fun j hj => upd_n hj
  have e : hourM m 7 = nI (mN m 7 + 1) := by
    unfold hourM
    rw [upd_s, l.2.1.e, nI_1]
  refine wfL_hd (hourM_ag m) w l (isN_eq (hu 6 (by decide)) rfl l.1) (isN_nI e (by omega) (by decide)) (fun h0 => ?_)
  rw [(hourM_ag m).l.t.mF] at h0
  rcases l.2.2.1 h0 with c | c
  · exact Or.inl (by rw [hu 9 (by decide)]; exact c)
  · exact Or.inr (isN_eq (hu 9 (by decide)) (hourM_ag m).l.t.mP c)
theorem st_hour : LS_hour Inv := by
  intro k s hk hI
  obtain ⟨rn, h⟩ := hI
  have h := InvR_mono h
  have w := h.w
  have hF := w.F8
  have hr := h.l.2.1
  have hr2 := hr.2
  have e5 : s.1 24 5 = nI (mN (s.1 258) 7) := h.f.hr.trans hr.e
  by_cases h0 : 0 < mF (s.1 258)
  · by_cases h23 : mN (s.1 258) 7 < 23
    · obtain ⟨s1, g1, g2, g3, g4⟩ := keep_both rfl w h.f h.l h.a
      have e1 : f_X11_hour s = some (nI (mN (s.1 258) 7 + 1), as_i s1 24 5 (nI (mN (s.1 258) 7 + 1))) := by
        unfold f_X11_hour
        rw [am_iff (fun z => (town0 h).mp z h0), e5, am_ift (nI_lt h23 (by decide)), g1, am_bds, g2 24 (by omega), e5, nI_1, am_ltd, as_i3]
      generalize hs2 : as_i s1 24 5 (nI (mN (s.1 258) 7 + 1)) = s2 at e1
      have o2 : ∀ c, c ≠ 24 → s2.1 c = s1.1 c := fun c hc => by rw [← hs2, as_i1 hc]
      have o3 : ∀ c, c ≠ 24 → (c < 32 ∨ c = 33 ∨ 134 ≤ c) → s2.1 c = s.1 c := fun c c1 c2 => by rw [o2 c c1, g2 c c2]
      obtain ⟨t2, u1, u2, u3, u4, u5⟩ := g4 s2 (fun c hc => o2 c (by omega)) (o3 260 (by omega) (by omega)) (o3 258 (by omega) (by omega)) (by rw [o3 248 (by omega) (by omega)])
      have em : t2.1 258 = s.1 258 := by rw [u2 258 (by decide) (by decide), o3 258 (by omega) (by omega)]
      have e2 : f_X12_hour s2 = some (nI (mN (s.1 258) 7 + 1), as_i t2 258 7 (nI (mN (s.1 258) 7 + 1))) := by
        unfold f_X12_hour
        rw [m_isTown (F := mF (s.1 258)) (by rw [o3 258 (by omega) (by omega)]; exact w.F1) (by omega), am_bds, am_b1 h0, o3 258 (by omega) (by omega), hr.e, am_iff (by rw [nI_eq (by omega) (by decide)]; omega), u1, am_bds, em, hr.e, nI_1, am_ltd, as_i3]
      generalize hs3 : as_i t2 258 7 (nI (mN (s.1 258) 7 + 1)) = s3 at e2
      refine ⟨_, s2, s3, e1, e2, rn, ?_⟩
      have m3 : s3.1 258 = hourM (s.1 258) := by
        rw [← hs3]
        funext j
        unfold hourM
        by_cases c : j = 7
        · subst c
          rw [as_i3, upd_s, hr.e, nI_1]
        · rw [as_i2 c, upd_n c, em]
      have o4 : ∀ c, c ≠ 258 → s3.1 c = t2.1 c := fun c hc => by rw [← hs3, as_i1 hc]
      have o5 : ∀ c, c ≠ 24 → c ≠ 258 → c ≠ 260 → c ≠ 248 → (c < 32 ∨ c = 33 ∨ 134 ≤ c) → s3.1 c = s.1 c := fun c c1 c2 c3 c4 c5 => by rw [o4 c c2, u2 c c3 c4, o3 c c1 c5]
      have o6 : ∀ j, j ≠ 25 → s3.1 248 j = s.1 248 j := fun j hj => by rw [o4 248 (by decide), u3 j hj, o3 248 (by omega) (by omega)]
      refine InvR_act (k := k + 1) h ⟨fun c hp c1 c2 c3 c4 => by
        have : c ≠ 248 := fun z => by subst z; unfold isPr at hp; omega
        exact o5 c (by omega) c3 c4 this (by omega), by rw [o5 0 (by omega) (by omega) (by omega) (by omega) (by omega)], by rw [o5 0 (by omega) (by omega) (by omega) (by omega) (by omega)], o6 1 (by decide), o6 2 (by decide), fun z => by unfold pRef at z ⊢; rw [← hs3, as_i4, u4, ← hs2, as_i4, g3]; exact z⟩ (fun c hc => o5 c (by omega) (by omega) (by omega) (by omega) (by omega)) (o6 21 (by decide)) (o6 22 (by decide)) (by rw [m3]; exact (hourM_ag _).l) (by rw [m3]; exact wfL_hour w h.l h23) ?_ (pActsM_of u5 (fun c hc => o4 c (by omega)) (by rw [o4 248 (by decide)])) rfl
      rw [m3]
      refine lifeAt_of (lifeAt_hour w h.f) (fun c c1 c2 => ?_)
      rw [o4 c (by omega), u2 c (by omega) (by omega), ← hs2, e5, nI_1]
      by_cases c24 : c = 24
      · subst c24
        funext j
        by_cases cj : j = 5
        · subst cj; rw [as_i3, as_i3]
        · rw [as_i2 cj, as_i2 cj, g2 24 (by omega)]
      · rw [as_i1 c24, as_i1 c24, g2 c (by omega)]
    · have h23 : mN (s.1 258) 7 = 23 := by omega
      refine ⟨-1, s, s, ?_, ?_, rn, h⟩
      · unfold f_X11_hour
        rw [am_iff (fun z => (town0 h).mp z h0), e5, h23, am_iff (by decide)]
      · unfold f_X12_hour
        rw [m_isTown w.F1 (by omega), am_bds, am_b1 h0, hr.e, h23, am_ift rfl]
  · refine ⟨-1, s, s, ?_, ?_, rn, h⟩
    · unfold f_X11_hour
      rw [am_ift ((town0 h).mpr h0)]
    · unfold f_X12_hour
      rw [m_isTown w.F1 (by omega), am_bds, am_b0 h0]
