/-! image, back -/
theorem nar1 : vp_nar .boolean (1 : Int32) = 1 := by decide
theorem img_is {i : Nat} (h : i < 4) : 186 + 15 * i ∈ am_isS := by
  have : i = 0 ∨ i = 1 ∨ i = 2 ∨ i = 3 := by omega
  rcases this with rfl | rfl | rfl | rfl <;> decide
theorem clT.b0 {m t0 t2 t3 t4 t5 t6 t7 : Nat → Int32} (c : clT m t0 t2 t3 t4 t5 t6 t7) : t0 0 = 0 ∨ t0 0 = 1 := by
  rw [c.1]
  split
  · exact Or.inr rfl
  · exact Or.inl rfl
theorem clT.b15 {m t0 t2 t3 t4 t5 t6 t7 : Nat → Int32} (w : wfT m) (c : clT m t0 t2 t3 t4 t5 t6 t7) : t0 15 = 0 ∨ t0 15 = 1 := by
  rw [c.2.2.2.2.2.2.2.2.1]
  exact w.2.2.2.2.2.2.2.1
theorem m_image {s : am_S} {i : Nat} (hi : i < 4) : f_X12_image (nI i) s = some (s.1 258 6, as_w (as_i (as_i (as_i s 265 i 1) 263 i (s.1 248 21)) 264 i (s.1 248 22)) 262 (cpv (s.1 262) (328 * i) 328 (s.1 258))) := by
  unfold f_X12_image
  rw [m_in0 (nI i) 3 (by decide) 3 rfl, am_bds, am_b1 (inP_nI hi (by decide)), gd_nI hi (by decide), cL (by omega), am_ltd, gd2 hi (by decide), am_ltd, gd2 hi (by decide), am_ltd, nar1, as_i1 (by decide : (248 : Nat) ≠ 265), as_i1 (by decide : (248 : Nat) ≠ 263), as_i1 (by decide : (248 : Nat) ≠ 265)]
  refine lp_copyR 262 328 (328 * i) (s.1 258) _ (fun j hj g => ?_) ?_ (by decide)
  · dsimp only
    unfold b_X12_image_43
    rw [am_iff (nI_ge hj (by decide)), gd_nI hj (by decide)]
    simp (disch := omega) only [am_ltd, pk_mul, nI_add, nI_1, gd2, cL]
    rw [as_w1 (by decide : (258 : Nat) ≠ 262), as_i1 (by decide : (258 : Nat) ≠ 264), as_i1 (by decide : (258 : Nat) ≠ 263), as_i1 (by decide : (258 : Nat) ≠ 265)]
  · dsimp only
    unfold b_X12_image_43
    rw [am_ift (by decide), as_w1 (by decide : (258 : Nat) ≠ 262), as_i1 (by decide : (258 : Nat) ≠ 264), as_i1 (by decide : (258 : Nat) ≠ 263), as_i1 (by decide : (258 : Nat) ≠ 265), as_i1 (by decide : (262 : Nat) ≠ 264), as_i1 (by decide : (262 : Nat) ≠ 263), as_i1 (by decide : (262 : Nat) ≠ 265)]
theorem st_image : LS_image Inv := by
  intro k s p hk hI
  obtain ⟨rn, h⟩ := hI
  have h := InvR_mono h
  by_cases h1 : inP p 4
  · obtain ⟨i, hi, rfl⟩ := inP_of h1 (by decide)
    have hn := h.2.2.2.2.2.1
    have hb : sitAt (k + 1) rn (s.1 258) (s.1 248 21) (s.1 248 22) s 15 := hn
    obtain ⟨s4, g1, g2, g3, g4⟩ := c_copyS (img_is hi) (show 15 ∈ am_isS by decide) (by omega) s (clT.b0 h.t) (clT.b15 h.w h.t)
    have hx := sitAt_cp hb g2
    have e1 : f_X11_image (nI i) s = some (s.1 24 4, as_i s4 31 i 1) := by
      unfold f_X11_image
      rw [am_iff (nI_pos (by omega)), am_ift (nI_lt hi (by decide)), gd_nI hi (by decide), cL (by omega), am_ltd, g1, am_bds, gd2 hi (by decide), am_ltd, nar1, as_i1 (by decide : (24 : Nat) ≠ 31), g3 24 (by omega)]
    generalize hs1 : as_i s4 31 i 1 = s1 at e1
    have o1 : ∀ c, c ≠ 31 → (c < 186 + 15 * i ∨ 186 + 15 * i + 15 ≤ c) → s1.1 c = s.1 c := fun c c1 c2 => by rw [← hs1, as_i1 c1, g3 c c2]
    have e2 := m_image (s := s1) hi
    generalize hs2 : as_w (as_i (as_i (as_i s1 265 i 1) 263 i (s1.1 248 21)) 264 i (s1.1 248 22)) 262 (cpv (s1.1 262) (328 * i) 328 (s1.1 258)) = s2 at e2
    refine ⟨s.1 24 4, s1, s2, e1, ?_, rn, ?_⟩
    · rw [e2, o1 258 (by omega) (by omega), h.f.day]
    · skip
      have o2 : ∀ c, c ≠ 262 → c ≠ 263 → c ≠ 264 → c ≠ 265 → s2.1 c = s1.1 c := fun c c1 c2 c3 c4 => by rw [← hs2, as_w1 c1, as_i1 c3, as_i1 c2, as_i1 c4]
      have o3 : ∀ c, c < 186 → c ≠ 31 → s2.1 c = s.1 c := fun c c1 c2 => by rw [o2 c (by omega) (by omega) (by omega) (by omega), o1 c c2 (by omega)]
      have o4 : ∀ c, 246 ≤ c → c ≠ 262 → c ≠ 263 → c ≠ 264 → c ≠ 265 → s2.1 c = s.1 c := fun c c0 c1 c2 c3 c4 => by rw [o2 c c1 c2 c3 c4, o1 c (by omega) (by omega)]
      have r2 : s2.2 = s.2 := by rw [← hs2, as_w4, as_i4, as_i4, as_i4, ← hs1, as_i4, g4]
      obtain ⟨x1, x2, x3, x4, x5, x6, x7, x8, x9⟩ := h
      refine ⟨x1, by rw [o3 0 (by omega) (by omega)]; exact x2, by rw [o4 248 (by omega) (by omega) (by omega) (by omega) (by omega)]; exact x3, fun r hr => ?_, ?_, ?_, fun y hy => ?_, pActs_of x8 (fun a ha => by rcases ha with rfl | rfl | rfl | ha; exact o4 258 (by omega) (by omega) (by omega) (by omega) (by omega); exact o4 260 (by omega) (by omega) (by omega) (by omega) (by omega); exact o3 32 (by omega) (by omega); exact o3 a (by omega) (by omega)) (by rw [o4 248 (by omega) (by omega) (by omega) (by omega) (by omega)]), by unfold pRef at x9 ⊢; rw [r2]; exact x9⟩
      · have x4 := x4 r hr
        unfold pRule at x4 ⊢
        rw [o3 (144 + 7 * r) (by omega) (by omega), o3 (145 + 7 * r) (by omega) (by omega), o3 (146 + 7 * r) (by omega) (by omega), o3 (147 + 7 * r) (by omega) (by omega), o3 (148 + 7 * r) (by omega) (by omega), o3 (149 + 7 * r) (by omega) (by omega), o3 (150 + 7 * r) (by omega) (by omega), o4 250 (by omega) (by omega) (by omega) (by omega) (by omega), o4 252 (by omega) (by omega) (by omega) (by omega) (by omega), o4 253 (by omega) (by omega) (by omega) (by omega) (by omega)]
        exact x4
      · unfold pTape at x5 ⊢
        rw [o3 1 (by omega) (by omega), o3 0 (by omega) (by omega), o4 249 (by omega) (by omega) (by omega) (by omega) (by omega), o4 248 (by omega) (by omega) (by omega) (by omega) (by omega)]
        exact x5
      · unfold pNow at x6 ⊢
        rw [o4 258 (by omega) (by omega) (by omega) (by omega) (by omega), o4 248 (by omega) (by omega) (by omega) (by omega) (by omega), o3 16 (by omega) (by omega), o3 18 (by omega) (by omega), o3 19 (by omega) (by omega), o3 20 (by omega) (by omega), o3 21 (by omega) (by omega), o3 22 (by omega) (by omega), o3 23 (by omega) (by omega), o3 24 (by omega) (by omega), o3 25 (by omega) (by omega), o3 26 (by omega) (by omega), o3 27 (by omega) (by omega), o3 28 (by omega) (by omega), o3 15 (by omega) (by omega), o3 29 (by omega) (by omega)]
        exact x6
      · have y31 : s2.1 31 = upd (s.1 31) i 1 := by
          rw [o2 31 (by omega) (by omega) (by omega) (by omega), ← hs1]
          funext j
          by_cases c : j = i
          · subst c; rw [as_i3, upd_s]
          · rw [as_i2 c, upd_n c, g3 31 (by omega)]
        have y265 : s2.1 265 = upd (s.1 265) i 1 := by
          rw [← hs2, as_w1 (by decide), as_i1 (by decide), as_i1 (by decide)]
          funext j
          by_cases c : j = i
          · subst c; rw [as_i3, upd_s]
          · rw [as_i2 c, upd_n c, o1 265 (by omega) (by omega)]
        have y263 : s2.1 263 = upd (s.1 263) i (s.1 248 21) := by
          rw [← hs2, as_w1 (by decide), as_i1 (by decide)]
          funext j
          by_cases c : j = i
          · subst c; rw [as_i3, upd_s, o1 248 (by omega) (by omega)]
          · rw [as_i2 c, upd_n c, as_i1 (by decide), o1 263 (by omega) (by omega)]
        have y264 : s2.1 264 = upd (s.1 264) i (s.1 248 22) := by
          rw [← hs2, as_w1 (by decide)]
          funext j
          by_cases c : j = i
          · subst c; rw [as_i3, upd_s, o1 248 (by omega) (by omega)]
          · rw [as_i2 c, upd_n c, as_i1 (by decide), as_i1 (by decide), o1 264 (by omega) (by omega)]
        have y262 : s2.1 262 = cpv (s.1 262) (328 * i) 328 (s.1 258) := by
          rw [← hs2, as_w3, o1 262 (by omega) (by omega), o1 258 (by omega) (by omega)]
        rw [y31, y265, y263, y264, y262]
        by_cases c : y = i
        · subst c
          rw [upd_s, upd_s, upd_s, upd_s]
          refine ⟨rfl, Or.inr rfl, fun _ => ?_⟩
          rw [← sitAt_img]
          have hz : sitAt (k + 1) rn (s.1 258) (s.1 248 21) (s.1 248 22) s2 (186 + 15 * y) := sitAt_cp (b := 186 + 15 * y) hx (fun i2 j2 hc => by
            rw [o2 _ (by unfold cpd at hc; omega) (by unfold cpd at hc; omega) (by unfold cpd at hc; omega) (by unfold cpd at hc; omega), ← hs1, as_i1 (by omega)])
          exact sitR_m (fun j hj => by rw [cpv_in (by omega) (by omega), show 328 * y + j - 328 * y = j by omega]) hz
        · have x7 := x7 y hy
          rw [upd_n c, upd_n c, upd_n c, upd_n c]
          refine ⟨x7.1, x7.2.1, fun z => ?_⟩
          have x8 := x7.2.2 z
          have o5 : ∀ q, 186 + 15 * y ≤ q → q < 186 + 15 * y + 15 → s2.1 q = s.1 q := fun q q1 q2 => by rw [o2 q (by omega) (by omega) (by omega) (by omega), o1 q (by omega) (by omega)]
          rw [o5 (187 + 15 * y) (by omega) (by omega), o5 (189 + 15 * y) (by omega) (by omega), o5 (190 + 15 * y) (by omega) (by omega), o5 (191 + 15 * y) (by omega) (by omega), o5 (192 + 15 * y) (by omega) (by omega), o5 (193 + 15 * y) (by omega) (by omega), o5 (194 + 15 * y) (by omega) (by omega), o5 (195 + 15 * y) (by omega) (by omega), o5 (196 + 15 * y) (by omega) (by omega), o5 (197 + 15 * y) (by omega) (by omega), o5 (198 + 15 * y) (by omega) (by omega), o5 (199 + 15 * y) (by omega) (by omega), o5 (186 + 15 * y) (by omega) (by omega), o5 (200 + 15 * y) (by omega) (by omega)]
          exact sitR_m (fun j hj => by rw [cpv_out (by omega)]) x8
  · refine ⟨-1, s, s, ?_, ?_, rn, h⟩
    · unfold f_X11_image
      by_cases c : p < 0
      · rw [am_ift c]
      · rw [am_iff c, am_iff (fun z => h1 ⟨c, Int32.not_le.mpr z⟩)]
    · unfold f_X12_image
      rw [m_in0 p 3 (by decide) 3 rfl, am_bds, am_b0 h1]
theorem m_back {s : am_S} {i : Nat} (hi : i < 4) (hm : s.1 265 i = 1) : f_X12_back (nI i) s = some (s.1 262 (328 * i + 6), as_w (as_i (as_i (as_i s 248 21 (s.1 263 i)) 248 22 (s.1 264 i)) 248 25 0) 258 (cpv (s.1 258) 0 328 (fun j => s.1 262 (328 * i + j)))) := by
  unfold f_X12_back
  rw [m_in0 (nI i) 3 (by decide) 3 rfl, am_bds, am_b1 (inP_nI hi (by decide)), gd_nI hi (by decide), cL (by omega), hm, am_iff (by decide), gd2 hi (by decide), am_ltd, gd2 hi (by decide), am_ltd, am_ltd, as_i1 (by decide : (264 : Nat) ≠ 248)]
  refine lp_copyR 258 328 0 (fun j => s.1 262 (328 * i + j)) _ (fun j hj g => ?_) ?_ (by decide)
  · dsimp only
    unfold b_X12_back_50
    rw [am_iff (nI_ge hj (by decide))]
    simp (disch := omega) only [am_ltd, pk_mul, nI_add, nI_1, gd2, cL]
    rw [as_w1 (by decide : (262 : Nat) ≠ 258), as_i1 (by decide : (262 : Nat) ≠ 248), as_i1 (by decide : (262 : Nat) ≠ 248), as_i1 (by decide : (262 : Nat) ≠ 248), Nat.zero_add]
  · dsimp only
    unfold b_X12_back_50
    rw [am_ift (by decide), as_w3, cpv_in (by decide) (by decide), as_i1 (by decide : (258 : Nat) ≠ 248), as_i1 (by decide : (258 : Nat) ≠ 248), as_i1 (by decide : (258 : Nat) ≠ 248)]
theorem st_back : LS_back Inv := by
  intro k s p hk hI
  obtain ⟨rn, h⟩ := hI
  have h := InvR_mono h
  by_cases h1 : inP p 4
  · obtain ⟨i, hi, rfl⟩ := inP_of h1 (by decide)
    obtain ⟨v1, v2, v3⟩ := h.2.2.2.2.2.2.1 i hi
    rcases v2 with v2 | v2
    · refine ⟨-1, s, s, ?_, ?_, rn, h⟩
      · unfold f_X11_back
        rw [am_iff (nI_pos (by omega)), am_iff (nI_ge hi (by decide)), gd_nI hi (by decide), cL (by omega), am_ift v2]
      · unfold f_X12_back
        rw [m_in0 (nI i) 3 (by decide) 3 rfl, am_bds, am_b1 h1, gd_nI hi (by decide), cL (by omega), am_ift (v1.symm.trans v2)]
    · have v3 := sitAt_img.mpr (v3 v2)
      obtain ⟨s4, g1, g2, g3, g4⟩ := c_copyS (show 15 ∈ am_isS by decide) (img_is hi) (by omega) s (clT.b0 v3.2.2.2.1) (clT.b15 v3.1 v3.2.2.2.1)
      have hx := sitAt_cp v3 g2
      generalize hs1 : as_i (as_i s4 32 1 0) 32 2 0 = s1
      have e1 : f_X11_back (nI i) s = some (s.1 262 (328 * i + 6), s1) := by
        unfold f_X11_back f_X0_forget
        rw [am_iff (nI_pos (by omega)), am_iff (nI_ge hi (by decide)), gd_nI hi (by decide), cL (by omega), am_iff (by rw [v2]; decide), gd2 hi (by decide), am_ltd, g1, am_bds, am_ltd, am_ltd, am_bds, hs1, ← hs1, as_i1 (by decide : (24 : Nat) ≠ 32), as_i1 (by decide : (24 : Nat) ≠ 32)]
        have d1 : s4.1 24 4 = s.1 262 (328 * i + 6) := hx.2.2.2.2.1.1
        rw [d1]
      have o1 : ∀ c, c ≠ 32 → (c < 15 ∨ 30 ≤ c) → s1.1 c = s.1 c := fun c c1 c2 => by rw [← hs1, as_i1 c1, as_i1 c1, g3 c (by omega)]
      have e2 := m_back (s := s1) hi (by rw [o1 265 (by omega) (by omega), ← v1]; exact v2)
      generalize hs2 : as_w (as_i (as_i (as_i s1 248 21 (s1.1 263 i)) 248 22 (s1.1 264 i)) 248 25 0) 258 (cpv (s1.1 258) 0 328 (fun j => s1.1 262 (328 * i + j))) = s2 at e2
      refine ⟨_, s1, s2, e1, by rw [e2, o1 262 (by omega) (by omega)], rn, ?_⟩
      have o2 : ∀ c, c ≠ 248 → c ≠ 258 → s2.1 c = s1.1 c := fun c c1 c2 => by rw [← hs2, as_w1 c2, as_i1 c1, as_i1 c1, as_i1 c1]
      have o3 : ∀ j, j ≠ 21 → j ≠ 22 → j ≠ 25 → s2.1 248 j = s.1 248 j := fun j c1 c2 c3 => by rw [← hs2, as_w1 (by decide), as_i2 c3, as_i2 c2, as_i2 c1, o1 248 (by omega) (by omega)]
      have r2 : s2.2 = s.2 := by rw [← hs2, as_w4, as_i4, as_i4, as_i4, ← hs1, as_i4, as_i4, g4]
      have y21 : s2.1 248 21 = s.1 263 i := by rw [← hs2, as_w1 (by decide), as_i2 (by decide), as_i2 (by decide), as_i3, o1 263 (by omega) (by omega)]
      have y22 : s2.1 248 22 = s.1 264 i := by rw [← hs2, as_w1 (by decide), as_i2 (by decide), as_i3, o1 264 (by omega) (by omega)]
      have y25 : s2.1 248 25 = nI 0 := by rw [← hs2, as_w1 (by decide), as_i3]; rfl
      refine InvR_N h ⟨fun a hp c1 c2 c3 c4 => by
        have : a ≠ 248 := fun z => by subst z; unfold isPr at hp; omega
        rw [o2 a this c3, o1 a (by omega) (by omega)], by rw [o2 0 (by omega) (by omega), o1 0 (by omega) (by omega)], by rw [o2 0 (by omega) (by omega), o1 0 (by omega) (by omega)], o3 1 (by decide) (by decide) (by decide), o3 2 (by decide) (by decide) (by decide), fun z => by unfold pRef at z ⊢; rw [r2]; exact z⟩ ?_ ⟨0, 0, by decide, by decide, ?_, ?_, y25, fun i hi => by omega⟩
      · have hz : sitAt (k + 1) rn (fun j => s.1 262 (328 * i + j)) (s.1 263 i) (s.1 264 i) s2 15 := sitAt_cp (b := 15) hx (fun i2 j2 hc => by
          rw [o2 _ (by unfold cpd at hc; omega) (by unfold cpd at hc; omega), ← hs1, as_i1 (by unfold cpd at hc; omega), as_i1 (by unfold cpd at hc; omega)])
        unfold pNow
        rw [y21, y22]
        exact sitR_m (fun j hj => by rw [← hs2, as_w3, cpv_in (by omega) (by omega), Nat.sub_zero, o1 262 (by omega) (by omega)]) hz
      · rw [o2 32 (by omega) (by omega), ← hs1, as_i2 (by decide), as_i3]; rfl
      · rw [o2 32 (by omega) (by omega), ← hs1, as_i3]; rfl
  · refine ⟨-1, s, s, ?_, ?_, rn, h⟩
    · unfold f_X11_back
      by_cases c : p < 0
      · rw [am_ift c]
      · rw [am_iff c, am_ift (Classical.byContradiction (fun z => h1 ⟨c, z⟩))]
    · unfold f_X12_back
      rw [m_in0 p 3 (by decide) 3 rfl, am_bds, am_b0 h1]
