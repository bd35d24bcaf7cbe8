/-! bytes behind a tape -/
def pushL (o t : Nat) : List Int32 → Nat → am_S → am_S
  | [], _, s => s
  | v :: l, T, s => pushL o t l (T + 1) (as_i (as_i s t T v) o 1 (nI (T + 1)))
theorem pushL_app (o t : Nat) (l l2 : List Int32) : ∀ (T : Nat) (s : am_S), pushL o t (l ++ l2) T s = pushL o t l2 (T + l.length) (pushL o t l T s) := by
  induction l with
  | nil => intro T s; rfl
  | cons v l ih =>
    intro T s
    show pushL o t (l ++ l2) (T + 1) _ = _
    rw [ih, List.length_cons, show T + (l.length + 1) = T + 1 + l.length by omega]
    rfl
theorem pushL_len {o t : Nat} (hot : o ≠ t) (l : List Int32) : ∀ (T : Nat) (s : am_S), s.1 o 1 = nI T → (pushL o t l T s).1 o 1 = nI (T + l.length) := by
  induction l with
  | nil => intro T s h; exact h
  | cons v l ih =>
    intro T s h
    show (pushL o t l (T + 1) _).1 o 1 = _
    rw [ih (T + 1) _ as_i3, List.length_cons, show T + 1 + l.length = T + (l.length + 1) by omega]
theorem pushL_row {o t : Nat} (hot : o ≠ t) (l : List Int32) : ∀ (T : Nat) (s : am_S) (j : Nat), (pushL o t l T s).1 t j = if T ≤ j ∧ j < T + l.length then l.getD (j - T) 0 else s.1 t j := by
  induction l with
  | nil =>
    intro T s j
    rw [if_neg (by rw [List.length_nil]; omega)]
    rfl
  | cons v l ih =>
    intro T s j
    show (pushL o t l (T + 1) _).1 t j = _
    rw [ih, List.length_cons]
    by_cases h1 : T + 1 ≤ j ∧ j < T + 1 + l.length
    · rw [if_pos h1, if_pos (by omega), show j - T = (j - (T + 1)) + 1 by omega]
      rfl
    · rw [if_neg h1, as_i1 (Ne.symm hot)]
      by_cases h2 : j = T
      · subst h2
        rw [as_i3, if_pos (by omega), Nat.sub_self]
        rfl
      · rw [as_i2 h2, if_neg (by omega)]
theorem pushL_oth {o t a : Nat} (h1 : a ≠ o) (h2 : a ≠ t) (l : List Int32) : ∀ (T : Nat) (s : am_S), (pushL o t l T s).1 a = s.1 a := by
  induction l with
  | nil => intro T s; rfl
  | cons v l ih =>
    intro T s
    show (pushL o t l (T + 1) _).1 a = _
    rw [ih, as_i1 h1, as_i1 h2]
theorem pushL_fld {o t j : Nat} (hot : o ≠ t) (hj : j ≠ 1) (l : List Int32) : ∀ (T : Nat) (s : am_S), (pushL o t l T s).1 o j = s.1 o j := by
  induction l with
  | nil => intro T s; rfl
  | cons v l ih =>
    intro T s
    show (pushL o t l (T + 1) _).1 o j = _
    rw [ih, as_i2 hj, as_i1 hot]
theorem pushL_snd {o t : Nat} (l : List Int32) : ∀ (T : Nat) (s : am_S), (pushL o t l T s).2 = s.2 := by
  induction l with
  | nil => intro T s; rfl
  | cons v l ih =>
    intro T s
    show (pushL o t l (T + 1) _).2 = _
    rw [ih]
    rfl
def bv (p v : Int32) : Int32 := vp_nar .byte ((p >>> (v &&& 31))).toInt8.toInt32
def bs (p : Int32) : List Int32 := [bv p 24, bv p 16, bv p 8, bv p 0]
theorem bv_nar (p v : Int32) : vp_nar .byte (bv p v) = bv p v := by
  unfold bv
  rw [pk_vb, pk_vb]
theorem am_lp_inl {σ ε : Type} {body : σ → Option (σ ⊕ ε)} {n : Nat} {s s2 : σ} (h : body s = some (.inl s2)) : am_lp body (n + 1) s = am_lp body n s2 := by
  rw [am_lp, h]
theorem am_lp_inr {σ ε : Type} {body : σ → Option (σ ⊕ ε)} {n : Nat} {s : σ} {e : ε} (h : body s = some (.inr e)) : am_lp body (n + 1) s = some e := by
  rw [am_lp, h]
theorem c_addB {p : Int32} (v v2 : Int32) {s : am_S} {T : Nat} (h : s.1 0 1 = nI T) (hT : T < 400) (hv : ¬ v < 0) (hv2 : v + (-8) = v2) : b_X11_addBytes_3 p v s = some (.inl (v2, as_i (as_i s 1 T (bv p v)) 0 1 (nI (T + 1)))) := by
  unfold b_X11_addBytes_3
  rw [am_iff hv, h, am_iff (nI_ge (b := 400) hT (by decide)), am_gdt ⟨nI_pos (by omega), by rw [nI_clamp (by omega)]; exact hT⟩]
  simp only [am_ltd]
  rw [nI_clamp (by omega), as_i1 (by decide : (0 : Nat) ≠ 1), h, nI_1, hv2]
  rfl
theorem c_addBytes {p : Int32} {s : am_S} {T : Nat} (h : s.1 0 1 = nI T) (hT : T + 4 ≤ 400) : f_X11_addBytes p s = some (pushL 0 1 (bs p) T s) := by
  unfold f_X11_addBytes
  rw [am_lp_inl (n := 3999) (c_addB 24 16 h (by omega) (by decide) (by decide)), am_lp_inl (n := 3998) (c_addB 16 8 (T := T + 1) as_i3 (by omega) (by decide) (by decide)), am_lp_inl (n := 3997) (c_addB 8 0 (T := T + 2) as_i3 (by omega) (by decide) (by decide)), am_lp_inl (n := 3996) (c_addB 0 (-8) (T := T + 3) as_i3 (by omega) (by decide) (by decide))]
  exact am_lp_inr (n := 3995) (am_ift (show (-8 : Int32) < 0 by decide))
theorem m_fourB {p : Int32} (v v2 : Int32) {s : am_S} {T : Nat} (h : s.1 248 1 = nI T) (hT : T < 400) (hv : ¬ v < 0) (hv2 : v + (-8) = v2) : b_X12_four_3 p v s = some (.inl (v2, as_i (as_i s 249 T (bv p v)) 248 1 (nI (T + 1)))) := by
  unfold b_X12_four_3
  rw [am_iff hv, h, am_gdt ⟨nI_pos (by omega), by rw [nI_clamp (by omega)]; exact hT⟩]
  simp only [am_ltd]
  rw [nI_clamp (by omega), as_i1 (by decide : (248 : Nat) ≠ 249), h, nI_1, hv2]
  rfl
theorem m_four {p : Int32} {s : am_S} {T : Nat} (h : s.1 248 1 = nI T) (hT : T + 4 ≤ 400) : f_X12_four p s = some (pushL 248 249 (bs p) T s) := by
  unfold f_X12_four
  rw [am_lp_inl (n := 3999) (m_fourB 24 16 h (by omega) (by decide) (by decide)), am_lp_inl (n := 3998) (m_fourB 16 8 (T := T + 1) as_i3 (by omega) (by decide) (by decide)), am_lp_inl (n := 3997) (m_fourB 8 0 (T := T + 2) as_i3 (by omega) (by decide) (by decide)), am_lp_inl (n := 3996) (m_fourB 0 (-8) (T := T + 3) as_i3 (by omega) (by decide) (by decide))]
  exact am_lp_inr (n := 3995) (am_ift (show (-8 : Int32) < 0 by decide))
def bs5 (a b c d e : Int32) : List Int32 := bs a ++ (bs b ++ (bs c ++ (bs d ++ bs e)))
theorem c_feed {a b c d e : Int32} {s : am_S} {T : Nat} (h : s.1 0 1 = nI T) (hT : T + 20 ≤ 400) : f_X11_feed a b c d e s = some (nI (T + 20), pushL 0 1 (bs5 a b c d e) T s) := by
  unfold f_X11_feed
  rw [am_ift (by rw [h]; exact (show nI T + nI 20 ≤ nI 400 by rw [nI_add, nI_leI (by omega) (by decide)]; omega))]
  have h1 : (pushL 0 1 (bs a) (T) s).1 0 1 = nI (T + 4) := pushL_len (o := 0) (t := 1) (by decide) (bs a) (T) _ h
  have h2 : (pushL 0 1 (bs b) (T + 4) (pushL 0 1 (bs a) (T) s)).1 0 1 = nI (T + 4 + 4) := pushL_len (o := 0) (t := 1) (by decide) (bs b) (T + 4) _ h1
  have h3 : (pushL 0 1 (bs c) (T + 4 + 4) (pushL 0 1 (bs b) (T + 4) (pushL 0 1 (bs a) (T) s))).1 0 1 = nI (T + 4 + 4 + 4) := pushL_len (o := 0) (t := 1) (by decide) (bs c) (T + 4 + 4) _ h2
  have h4 : (pushL 0 1 (bs d) (T + 4 + 4 + 4) (pushL 0 1 (bs c) (T + 4 + 4) (pushL 0 1 (bs b) (T + 4) (pushL 0 1 (bs a) (T) s)))).1 0 1 = nI (T + 4 + 4 + 4 + 4) := pushL_len (o := 0) (t := 1) (by decide) (bs d) (T + 4 + 4 + 4) _ h3
  have h5 : (pushL 0 1 (bs e) (T + 4 + 4 + 4 + 4) (pushL 0 1 (bs d) (T + 4 + 4 + 4) (pushL 0 1 (bs c) (T + 4 + 4) (pushL 0 1 (bs b) (T + 4) (pushL 0 1 (bs a) (T) s))))).1 0 1 = nI (T + 4 + 4 + 4 + 4 + 4) := pushL_len (o := 0) (t := 1) (by decide) (bs e) (T + 4 + 4 + 4 + 4) _ h4
  rw [c_addBytes h (by omega), am_bds, c_addBytes h1 (show T + 4 + 4 ≤ 400 by omega), am_bds, c_addBytes h2 (show T + 4 + 4 + 4 ≤ 400 by omega), am_bds, c_addBytes h3 (show T + 4 + 4 + 4 + 4 ≤ 400 by omega), am_bds, c_addBytes h4 (show T + 4 + 4 + 4 + 4 + 4 ≤ 400 by omega), am_bds]
  have ee : pushL 0 1 (bs5 a b c d e) T s = pushL 0 1 (bs e) (T + (bs a).length + (bs b).length + (bs c).length + (bs d).length) (pushL 0 1 (bs d) (T + (bs a).length + (bs b).length + (bs c).length) (pushL 0 1 (bs c) (T + (bs a).length + (bs b).length) (pushL 0 1 (bs b) (T + (bs a).length) (pushL 0 1 (bs a) T s)))) := by
    unfold bs5
    rw [pushL_app, pushL_app, pushL_app, pushL_app]
  rw [ee]
  have h6 : (pushL 0 1 (bs e) (T + 4 + 4 + 4 + 4) (pushL 0 1 (bs d) (T + 4 + 4 + 4) (pushL 0 1 (bs c) (T + 4 + 4) (pushL 0 1 (bs b) (T + 4) (pushL 0 1 (bs a) T s))))).1 0 1 = nI (T + 20) := h5
  exact congrArg some (Prod.ext h6 rfl)
theorem m_feed {a b c d e : Int32} {s : am_S} {T : Nat} (h : s.1 248 1 = nI T) (hT : T + 20 ≤ 400) : f_X12_feed a b c d e s = some (nI (T + 20), pushL 248 249 (bs5 a b c d e) T s) := by
  unfold f_X12_feed
  rw [am_ift (by rw [h]; exact (show nI T + nI 20 ≤ nI 400 by rw [nI_add, nI_leI (by omega) (by decide)]; omega))]
  have h1 : (pushL 248 249 (bs a) (T) s).1 248 1 = nI (T + 4) := pushL_len (o := 248) (t := 249) (by decide) (bs a) (T) _ h
  have h2 : (pushL 248 249 (bs b) (T + 4) (pushL 248 249 (bs a) (T) s)).1 248 1 = nI (T + 4 + 4) := pushL_len (o := 248) (t := 249) (by decide) (bs b) (T + 4) _ h1
  have h3 : (pushL 248 249 (bs c) (T + 4 + 4) (pushL 248 249 (bs b) (T + 4) (pushL 248 249 (bs a) (T) s))).1 248 1 = nI (T + 4 + 4 + 4) := pushL_len (o := 248) (t := 249) (by decide) (bs c) (T + 4 + 4) _ h2
  have h4 : (pushL 248 249 (bs d) (T + 4 + 4 + 4) (pushL 248 249 (bs c) (T + 4 + 4) (pushL 248 249 (bs b) (T + 4) (pushL 248 249 (bs a) (T) s)))).1 248 1 = nI (T + 4 + 4 + 4 + 4) := pushL_len (o := 248) (t := 249) (by decide) (bs d) (T + 4 + 4 + 4) _ h3
  have h5 : (pushL 248 249 (bs e) (T + 4 + 4 + 4 + 4) (pushL 248 249 (bs d) (T + 4 + 4 + 4) (pushL 248 249 (bs c) (T + 4 + 4) (pushL 248 249 (bs b) (T + 4) (pushL 248 249 (bs a) (T) s))))).1 248 1 = nI (T + 4 + 4 + 4 + 4 + 4) := pushL_len (o := 248) (t := 249) (by decide) (bs e) (T + 4 + 4 + 4 + 4) _ h4
  rw [m_four h (by omega), am_bds, m_four h1 (show T + 4 + 4 ≤ 400 by omega), am_bds, m_four h2 (show T + 4 + 4 + 4 ≤ 400 by omega), am_bds, m_four h3 (show T + 4 + 4 + 4 + 4 ≤ 400 by omega), am_bds, m_four h4 (show T + 4 + 4 + 4 + 4 + 4 ≤ 400 by omega), am_bds]
  have ee : pushL 248 249 (bs5 a b c d e) T s = pushL 248 249 (bs e) (T + (bs a).length + (bs b).length + (bs c).length + (bs d).length) (pushL 248 249 (bs d) (T + (bs a).length + (bs b).length + (bs c).length) (pushL 248 249 (bs c) (T + (bs a).length + (bs b).length) (pushL 248 249 (bs b) (T + (bs a).length) (pushL 248 249 (bs a) T s)))) := by
    unfold bs5
    rw [pushL_app, pushL_app, pushL_app, pushL_app]
  rw [ee]
  have h6 : (pushL 248 249 (bs e) (T + 4 + 4 + 4 + 4) (pushL 248 249 (bs d) (T + 4 + 4 + 4) (pushL 248 249 (bs c) (T + 4 + 4) (pushL 248 249 (bs b) (T + 4) (pushL 248 249 (bs a) T s))))).1 248 1 = nI (T + 20) := h5
  exact congrArg some (Prod.ext h6 rfl)
theorem bs5_nar (a b c d e : Int32) : ∀ v ∈ bs5 a b c d e, vp_nar .byte v = v := by
  intro v hv
  simp only [bs5, bs, List.mem_append, List.mem_cons, List.not_mem_nil, or_false] at hv
  rcases hv with (rfl | rfl | rfl | rfl) | (rfl | rfl | rfl | rfl) | (rfl | rfl | rfl | rfl) | (rfl | rfl | rfl | rfl) | (rfl | rfl | rfl | rfl) <;> exact bv_nar _ _
theorem st_feed : LS_feed Inv := by
  intro k s a b c d e hk hI
  obtain ⟨rn, h⟩ := hI
  have h := InvR_mono h
  obtain ⟨T, t1, t2, t3, t4⟩ := h.2.2.2.2.1
  by_cases hT : T + 20 ≤ 400
  · have e1 : (pushL 0 1 (bs5 a b c d e) T s).1 248 1 = nI T := by rw [pushL_oth (by decide) (by decide)]; exact t3
    refine ⟨nI (T + 20), _, _, c_feed t2 hT, m_feed e1 hT, rn, ?_⟩
    have hl : (bs5 a b c d e).length = 20 := rfl
    refine InvR_tape h (fun x x0 x1 x2 x3 => by rw [pushL_oth x2 x3, pushL_oth x0 x1]) (by rw [pushL_oth (by decide) (by decide), pushL_fld (by decide) (by decide)]) (fun j hj => by rw [pushL_fld (by decide) hj, pushL_oth (by decide) (by decide)]) (by rw [pushL_snd, pushL_snd]) ⟨T + 20, hT, ?_, ?_, fun j hj => ?_⟩
    · rw [pushL_oth (by decide) (by decide), pushL_len (by decide) _ _ _ t2, hl]
    · rw [pushL_len (by decide) _ _ _ e1, hl]
    · rw [pushL_oth (o := 248) (t := 249) (a := 1) (by decide) (by decide), pushL_row (by decide), pushL_row (by decide), pushL_oth (o := 0) (t := 1) (a := 249) (by decide) (by decide), hl]
      by_cases hj2 : T ≤ j ∧ j < T + 20
      · rw [if_pos hj2, if_pos hj2]
        refine ⟨rfl, bs5_nar a b c d e _ ?_⟩
        rw [List.getD_eq_getElem?_getD, List.getElem?_eq_getElem (by rw [hl]; omega)]
        exact List.getElem_mem _
      · rw [if_neg hj2, if_neg hj2]
        exact t4 j (by omega)
  · unfold f_X11_feed f_X12_feed
    have hn : ¬ nI T + 20 ≤ 400 := by
      show ¬ nI T + nI 20 ≤ nI 400
      rw [nI_add, nI_leI (by omega) (by decide)]
      omega
    refine ⟨-1, s, s, am_iff (by rw [t2]; exact hn), am_iff (by rw [t3]; exact hn), rn, h⟩
