/-! the reference's stack settled -/
section MR
variable {c : Nat → Int32} {T n t : Nat} {s0 : am_S}
theorem mem_gD {l : List Nat} {e : Nat} : e ∈ l ↔ ∃ j, j < l.length ∧ l.getD j 0 = e := by
  rw [List.mem_iff_getElem]
  constructor
  · rintro ⟨j, hj, h⟩
    exact ⟨j, hj, by rw [List.getD_eq_getElem?_getD, List.getElem?_eq_getElem hj]; exact h⟩
  · rintro ⟨j, hj, h⟩
    refine ⟨j, hj, ?_⟩
    rw [List.getD_eq_getElem?_getD, List.getElem?_eq_getElem hj] at h
    exact h
theorem gD_ok {l : List Nat} (h : okS4 l) {j : Nat} (hj : j < l.length) : l.getD j 0 = 91 ∨ l.getD j 0 = 11 ∨ l.getD j 0 = 12 ∨ l.getD j 0 = 13 := h _ (mem_gD.mpr ⟨j, hj, rfl⟩)
theorem m_isInside {l : List Nat} {s : am_S} (h : stO l s) (hl : l.length ≤ 400) : f_X12_isInside s = some (b01 (91 ∈ l)) := by
  have e4 : am_F = 4000 := rfl
  unfold f_X12_isInside
  obtain ⟨e, h1, h2⟩ := lp_ind (body := fun (q : Int32) => b_X12_isInside_2 s q) l.length (fun i q => q = nI i ∧ ∀ j, j < i → l.getD j 0 ≠ 91) (fun e => e = b01 (91 ∈ l)) (fun i hi q hq => by
    obtain ⟨rfl, hq2⟩ := hq
    try dsimp only
    unfold b_X12_isInside_2
    rw [h.1, am_iff (nI_ge hi (by omega)), gd_nI (by omega) (by decide), cL (by omega), h.2.2.2 i hi]
    have g := gD_ok h.2.2.1 hi
    by_cases z : l.getD i 0 = 91
    · right
      rw [am_ift (by rw [z])]
      exact ⟨_, rfl, (b01_t (mem_gD.mpr ⟨i, hi, z⟩)).symm⟩
    · left
      rw [am_iff (by rw [nI_eq (by omega) (by decide)]; exact z), am_ltd, nI_1]
      refine ⟨_, rfl, rfl, fun j hj => ?_⟩
      by_cases y : j = i
      · rw [y]; exact z
      · exact hq2 j (by omega)) (fun q hq => by
    obtain ⟨rfl, hq2⟩ := hq
    try dsimp only
    unfold b_X12_isInside_2
    rw [h.1, am_ift (nI_le (Nat.le_refl _) (by omega))]
    refine ⟨_, rfl, (b01_f (fun z => ?_)).symm⟩
    obtain ⟨j, j1, j2⟩ := mem_gD.mp z
    exact hq2 j j1 j2) (F := am_F) (by omega) 0 ⟨rfl, fun j hj => by omega⟩
  rw [h1, h2]
def strg (e : Nat) : Nat := if e = 13 then 1 else if e = 12 then 2 else if e = 11 then 3 else 0
def dO (e : Nat) : Nat := if e = 11 then 2 else if e = 12 then 3 else 4
theorem m_strength {e : Nat} (h : e = 91 ∨ e = 11 ∨ e = 12 ∨ e = 13) : f_X12_strength (nI e) = some (nI (strg e)) := by
  rcases h with rfl | rfl | rfl | rfl <;> decide
theorem opM_dO {e : Nat} (h : e = 11 ∨ e = 12 ∨ e = 13) : e + 16 * 0 = opM (dO e) 0 := by
  rcases h with rfl | rfl | rfl <;> rfl
abbrev SB (v : Nat) : am_S → Option (am_S ⊕ am_S) := fun (q : am_S) => b_X12_settles_0 (nI v) q
theorem m_set0 {st : PS} {l : List Nat} {s : am_S} {v F : Nat} (h : MT c T t s0 st l s) (hl : l.length ≤ 400) (hv : v ≤ 3) (hs : l = [] ∨ ∃ l2 e, l = l2 ++ [e] ∧ strg e < v) : am_lp (SB v) (F + 1) s = some s := by
  refine am_lp_inr ?_
  show b_X12_settles_0 (nI v) s = _
  unfold b_X12_settles_0
  rcases hs with rfl | ⟨l2, e, rfl, he⟩
  · rw [h.2.1.1, am_ift (by decide)]
  · have h16 : s.1 248 16 = nI (l2.length + 1) := by rw [h.2.1.1, List.length_append]; rfl
    rw [List.length_append] at hl
    have hl2 : l2.length + 1 ≤ 400 := hl
    have top : s.1 255 l2.length = nI e := by rw [h.2.1.2.2.2 _ (by rw [List.length_append]; simp), getD_sn, if_pos rfl]
    have ok := h.2.1.2.2.1 e (List.mem_append.mpr (Or.inr (List.mem_singleton.mpr rfl)))
    rw [h16, am_iff (by rw [show (0 : Int32) = nI 0 from rfl, nI_leI (by omega) (by decide)]; omega), nI_pr, am_ltd, gd_nI (by omega) (by decide), cL (by omega), top, m_strength ok, am_bds, am_ift (nI_lt he (by omega))]
theorem m_set1 {st : PS} {l : List Nat} {e : Nat} {s : am_S} {v F : Nat} (E : EM c T n t) (h : MT c T t s0 st (l ++ [e]) s) (hl : l.length < 400) (hL : st.2.2.length < 400) (he : e = 11 ∨ e = 12 ∨ e = 13) (hs : v ≤ strg e) : ∃ s2, am_lp (SB v) (F + 1) s = am_lp (SB v) F s2 ∧ MT c T t s0 (emi (dO e) 0 st) l s2 ∧ s2.1 248 8 = s.1 248 8 := by
  obtain ⟨hm, ho, hf⟩ := h
  have h16 : s.1 248 16 = nI (l.length + 1) := by rw [ho.1, List.length_append]; rfl
  have top : s.1 255 l.length = nI e := by rw [ho.2.2.2 _ (by rw [List.length_append]; simp), getD_sn, if_pos rfl]
  have ok : e = 91 ∨ e = 11 ∨ e = 12 ∨ e = 13 := Or.inr he
  have f7 : frm (fun b j => b = 248 ∧ (j = 13 ∨ j = 16)) s (as_i s 248 16 (nI l.length)) := frm.i s ⟨rfl, Or.inr rfl⟩
  have m7 : MS c T t (as_i s 248 16 (nI l.length)) st (as_i s 248 16 (nI l.length)) := by
    obtain ⟨⟨r, r1, r2, r3⟩, h2, h3, h4, h5, h6, h7⟩ := hm
    refine ⟨⟨r, r1, by rw [as_i2 (by decide)]; exact r2, r3⟩, by rw [as_i2 (by decide)]; exact h2, by rw [as_i2 (by decide)]; exact h3, h4.mv (as_i1 (by decide)) (as_i1 (by decide)), frm.rf _ _, h6.i 248 16 _ (by decide), by rw [as_i2 (by decide)]; exact h7⟩
  obtain ⟨s10, p1, p2, p3⟩ := m7.pt E hL (dO e) 0 (x := e) (y := 0) (opM_dO he)
  have p1' : f_X12_puts (nI e) (0 : Int32) (as_i s 248 16 (nI l.length)) = some s10 := p1
  have q55 : s10.1 255 = s.1 255 := by rw [p3.row (fun j => show ¬ (255 = 250 ∨ 255 = 251) by decide), as_i1 (by decide)]
  have q16 : s10.1 248 16 = nI l.length := by rw [p3.1 248 16 (show ¬ (248 = 250 ∨ 248 = 251) by decide), as_i3]
  have q13 : s10.1 248 13 = nI (dp (l ++ [e])) := by rw [p3.1 248 13 (show ¬ (248 = 250 ∨ 248 = 251) by decide), as_i2 (by decide)]; exact ho.2.1
  have q8 : s10.1 248 8 = s.1 248 8 := by rw [p3.1 248 8 (show ¬ (248 = 250 ∨ 248 = 251) by decide), as_i2 (by decide)]
  have okl : okS4 l := fun x hx => ho.2.2.1 x (List.mem_append.mpr (Or.inl hx))
  have rows : ∀ j, j < l.length → s.1 255 j = nI (l.getD j 0) := fun j hj => by rw [ho.2.2.2 j (by rw [List.length_append]; omega), getD_sn, if_neg (by omega), if_pos hj]
  have fr10 : frm (PT t) s0 s10 := (hf.tr (f7.mo (fun b j z => Or.inr (Or.inl z)))).tr (p2.2.2.2.2.1.mo (fun _ _ z => Or.inl z))
  have body : ∀ s2, (am_if (nI e = nI 11) (some (Sum.inl (as_i s10 248 13 (s10.1 248 13 - 1)))) (some (Sum.inl s10)) : Option (am_S ⊕ am_S)) = some (Sum.inl s2) → am_lp (SB v) (F + 1) s = am_lp (SB v) F s2 := fun s2 hs2 => by
    refine am_lp_inl ?_
    show b_X12_settles_0 (nI v) s = _
    unfold b_X12_settles_0
    rw [h16, am_iff (by rw [show (0 : Int32) = nI 0 from rfl, nI_leI (by omega) (by decide)]; omega), nI_pr, am_ltd, gd_nI (by omega) (by decide), cL (by omega), top, m_strength ok, am_bds, am_iff (by
      have : strg e ≤ 3 := by unfold strg; split; decide; split; decide; split <;> decide
      rw [nI_ltI (by omega) (by omega)]; omega), am_ltd, as_i3, am_ltd, gd_nI (by omega) (by decide), cL (by omega), as_i1 (show (255 : Nat) ≠ 248 by decide), top, p1', am_bds, q16, am_ltd, gd_nI (by omega) (by decide), cL (by omega), q55, top, am_ltd]
    exact hs2
  by_cases e11 : e = 11
  · refine ⟨as_i s10 248 13 (s10.1 248 13 - 1), body _ (am_ift (by rw [e11])), ⟨?_, ⟨?_, ?_, okl, fun j hj => ?_⟩, fr10.ti (Or.inr (Or.inl ⟨rfl, Or.inl rfl⟩))⟩, by rw [as_i2 (by decide)]; exact q8⟩
    · obtain ⟨⟨r, r1, r2, r3⟩, h2, h3, h4, h5, h6, h7⟩ := p2
      exact ⟨⟨r, r1, by rw [as_i2 (by decide)]; exact r2, r3⟩, by rw [as_i2 (by decide)]; exact h2, by rw [as_i2 (by decide)]; exact h3, h4.mv (as_i1 (by decide)) (as_i1 (by decide)), frm.rf _ _, h6.i 248 13 _ (by decide), by rw [as_i2 (by decide)]; exact h7⟩
    · rw [as_i2 (by decide)]; exact q16
    · rw [as_i3, q13, dp_sn, if_pos (Or.inr e11), nI_pr]
    · rw [as_i1 (by decide), q55]; exact rows j hj
  · refine ⟨s10, body _ (am_iff (by rw [nI_eq (by omega) (by decide)]; exact e11)), ⟨p2.rb, ⟨q16, ?_, okl, fun j hj => ?_⟩, fr10⟩, q8⟩
    · rw [q13, dp_sn, if_neg (by omega), Nat.add_zero]
    · rw [q55]; exact rows j hj
def oO (o : Bool) : List Nat := if o then [13] else []
def oA (a : Bool) : List Nat := if a then [12] else []
def ema (a : Bool) (st : PS) : PS := if a then emi 3 0 st else st
def bas (l : List Nat) : Prop := l = [] ∨ ∃ l2, l = l2 ++ [91]
theorem len_emi (d v : Nat) (st : PS) : (emi d v st).2.2.length = st.2.2.length + 1 := by
  show (st.2.2 ++ [(d, v)]).length = _
  rw [List.length_append]
  rfl
theorem m_settle1 {st : PS} {l : List Nat} {o a : Bool} {s : am_S} (E : EM c T n t) (hb : bas l) (h : MT c T t s0 st (l ++ oO o ++ oA a) s) (hl : l.length + (oO o).length + (oA a).length ≤ 400) (hL : st.2.2.length + (oO o).length + (oA a).length ≤ 400) : ∃ s2, f_X12_settles 1 s = some s2 ∧ MT c T t s0 (eo o (ema a st)) l s2 ∧ s2.1 248 8 = s.1 248 8 := by
  have sb : l = [] ∨ ∃ l2 e, l = l2 ++ [e] ∧ strg e < 1 := by
    rcases hb with rfl | ⟨l2, rfl⟩
    · exact Or.inl rfl
    · exact Or.inr ⟨l2, 91, rfl, by decide⟩
  show ∃ s2, am_lp (SB 1) 4000 s = some s2 ∧ _
  have st1 : ∀ (st : PS) (s : am_S) (F : Nat), MT c T t s0 st (l ++ oO o) s → st.2.2.length + (oO o).length ≤ 400 → ∃ s2, am_lp (SB 1) (F + 2) s = some s2 ∧ MT c T t s0 (eo o st) l s2 ∧ s2.1 248 8 = s.1 248 8 := fun st s F h hL => by
    cases o with
    | false =>
      have h' : MT c T t s0 st l s := by rw [show l ++ oO false = l from List.append_nil l] at h; exact h
      exact ⟨s, m_set0 h' (by omega) (by decide) sb, h', rfl⟩
    | true =>
      have hL' : st.2.2.length + 1 ≤ 400 := hL
      have h1 : (oO true).length = 1 := rfl
      obtain ⟨s2, q1, q2, q3⟩ := m_set1 (v := 1) (F := F + 1) E h (by omega) (by omega) (Or.inr (Or.inr rfl)) (by decide)
      exact ⟨s2, by rw [q1]; exact m_set0 q2 (by omega) (by decide) sb, q2, q3⟩
  cases a with
  | false =>
    have h' : MT c T t s0 st (l ++ oO o) s := by rw [show l ++ oO o ++ oA false = l ++ oO o from List.append_nil _] at h; exact h
    exact st1 st s 3998 h' (by omega)
  | true =>
    have hL' : st.2.2.length + (oO o).length + 1 ≤ 400 := hL
    have h1 : (oA true).length = 1 := rfl
    obtain ⟨s2, q1, q2, q3⟩ := m_set1 (v := 1) (F := 3999) E h (by rw [List.length_append]; omega) (by omega) (Or.inr (Or.inl rfl)) (by decide)
    obtain ⟨s3, r1, r2, r3⟩ := st1 _ s2 3997 q2 (by show (emi 3 0 st).2.2.length + _ ≤ 400; rw [len_emi]; omega)
    exact ⟨s3, by rw [q1]; exact r1, r2, r3.trans q3⟩
theorem m_settle2 {st : PS} {l : List Nat} {o a : Bool} {s : am_S} (E : EM c T n t) (hb : bas l) (h : MT c T t s0 st (l ++ oO o ++ oA a) s) (hl : l.length + (oO o).length + (oA a).length ≤ 400) (hL : st.2.2.length + (oA a).length ≤ 400) : ∃ s2, f_X12_settles (nI 2) s = some s2 ∧ MT c T t s0 (ema a st) (l ++ oO o) s2 := by
  have sb : l ++ oO o = [] ∨ ∃ l2 e, l ++ oO o = l2 ++ [e] ∧ strg e < 2 := by
    cases o with
    | true => exact Or.inr ⟨l, 13, rfl, by decide⟩
    | false =>
      rw [show l ++ oO false = l from List.append_nil l]
      rcases hb with rfl | ⟨l2, rfl⟩
      · exact Or.inl rfl
      · exact Or.inr ⟨l2, 91, rfl, by decide⟩
  have ho : (oO o).length ≤ 1 := by cases o <;> decide
  show ∃ s2, am_lp (SB 2) 4000 s = some s2 ∧ _
  cases a with
  | false =>
    have h' : MT c T t s0 st (l ++ oO o) s := by rw [show l ++ oO o ++ oA false = l ++ oO o from List.append_nil _] at h; exact h
    exact ⟨s, m_set0 h' (by rw [List.length_append]; omega) (by decide) sb, h'⟩
  | true =>
    have hL' : st.2.2.length + 1 ≤ 400 := hL
    have h1 : (oA true).length = 1 := rfl
    obtain ⟨s2, q1, q2, _⟩ := m_set1 (v := 2) (F := 3999) E h (by rw [List.length_append]; omega) (by omega) (Or.inr (Or.inl rfl)) (by decide)
    exact ⟨s2, by rw [q1]; exact m_set0 q2 (by rw [List.length_append]; omega) (by decide) sb, q2⟩
/-- opening -/
theorem m_opens {st : PS} {l : List Nat} {x : am_S} {e : Nat} (h : MT c T t s0 st l x) (h8 : x.1 248 8 = nI (tp c T st.1)) (he : e = 91 ∨ e = 11) (hl : l.length < 400) : (dp l = 10 ∧ ∃ s2, f_X12_opens (nI e) x = some ((0 : Int32), s2) ∧ MG t s0 (fau c T st.1 2) s2) ∨ (¬ dp l = 10 ∧ ∃ s2, f_X12_opens (nI e) x = some ((1 : Int32), s2) ∧ MT c T t s0 st (l ++ [e]) s2 ∧ s2.1 248 8 = nI (tp c T st.1)) := by
  have dl := dp_le l
  unfold f_X12_opens
  rw [h.2.1.2.1]
  by_cases d : dp l = 10
  · left
    obtain ⟨f1, f2⟩ := h.1.fl st.1 2
    refine ⟨d, _, ?_, h.er f2⟩
    rw [am_ift (by rw [d]), h8, f1, am_b2s, am_gdt (Or.inl rfl)]
  · right
    refine ⟨d, as_i (as_i (as_i x 248 13 (nI (dp l + 1))) 255 l.length (nI e)) 248 16 (nI (l.length + 1)), ?_, h.ps (by omega) (((frm.i x (Or.inl ⟨rfl, Or.inl rfl⟩)).ti (Or.inr rfl)).ti (Or.inl ⟨rfl, Or.inr rfl⟩)) as_i3 ?_ (fun j => ?_), ?_⟩
    · have x16 : (as_i x 248 13 (nI (dp l + 1))).1 248 16 = nI l.length := by rw [as_i2 (by decide)]; exact h.2.1.1
      rw [am_iff (by rw [nI_eq (by omega) (by decide)]; exact d), nI_1, am_ltd, x16, gd_nI hl (by decide), cL (by omega), am_ltd, as_i1 (show (248 : Nat) ≠ 255 by decide), x16, nI_1, am_ltd]
    · rw [as_i2 (by decide), as_i1 (by decide), as_i3, dp_sn, if_pos he]
    · rw [as_i1 (by decide), rd_i]
      by_cases z : j = l.length
      · rw [if_pos ⟨rfl, z⟩, if_pos z]
      · rw [if_neg (fun y => z y.2), if_neg z, as_i1 (by decide)]
    · rw [as_i2 (by decide), as_i1 (by decide), as_i2 (by decide)]; exact h8
theorem MT.pl {st : PS} {l : List Nat} {s : am_S} (h : MT c T t s0 st l s) (i r : Nat) (hr : r ≤ T) (hs : sk c T r = tp c T i) : MT c T t s0 (i, st.2) l (as_i s 248 8 (nI r)) := h.of (h.1.pl i r hr hs)
theorem m_facB {st : PS} {l : List Nat} {s : am_S} (E : EM c T n t) (hr : st.1 ≤ n) (h : MT c T t s0 st l s) (hl : st.1 < n → l.length < 400) : ((wo c T st.1 = 12 ∨ bt c T st.1 91) ∧ dp l = 10 ∧ ∃ s2, b_X12_fact_2 1 s = some (Sum.inr ((0 : Int32), s2)) ∧ MG t s0 (fau c T st.1 2) s2) ∨ (¬ dp l = 10 ∧ wo c T st.1 = 12 ∧ ∃ s2, b_X12_fact_2 1 s = some (Sum.inl ((1 : Int32), s2)) ∧ MT c T t s0 (nxt st) (l ++ [11]) s2) ∨ (¬ dp l = 10 ∧ ¬ wo c T st.1 = 12 ∧ bt c T st.1 91 ∧ ∃ s2, b_X12_fact_2 1 s = some (Sum.inl ((1 : Int32), s2)) ∧ MT c T t s0 (nxt st) (l ++ [91]) s2) ∨ (¬ wo c T st.1 = 12 ∧ ¬ bt c T st.1 91 ∧ ∃ x, b_X12_fact_2 1 s = some (Sum.inl ((0 : Int32), x)) ∧ MT c T t s0 st l x) := by
  obtain ⟨hT, hnT, hn1, ht, hb⟩ := id E
  obtain ⟨v1, v2⟩ := h.1.see E
  have hx := h.of v2
  generalize hxe : as_i s 248 8 (nI (tp c T st.1)) = x at *
  have x8 : x.1 248 8 = nI (tp c T st.1) := by rw [← hxe, as_i3]
  have iw := m_iw hx.1.2.2.2.2.2.1 hT (tp_le _) (tp_sk hT _) x8 12 7237492 (by decide) rfl
  unfold b_X12_fact_2
  rw [am_iff (by decide), v1, am_b2s, iw, am_b2s]
  by_cases w12 : wo c T st.1 = 12
  · rw [am_b1 w12]
    have lt := wo_lt hn1 hr (show wo c T st.1 < 24 by omega)
    have aw := (atW_wd (c := c) (T := T) (p := tp c T st.1) (by decide : 12 < 24)).mpr w12
    rcases m_opens hx x8 (Or.inr rfl) (hl lt) with ⟨d, s2, q1, q2⟩ | ⟨d, s2, q1, q2, q3⟩
    · left
      refine ⟨Or.inl w12, d, s2, ?_, q2⟩
      rw [q1, am_b2s, am_ift rfl]
    · right; left
      have pw := m_passWord q2.1.2.2.2.2.2.1 hT (tp_le _) q3
      have we : wE c T (tp c T st.1) = en c T (tp c T st.1) := by unfold wE; rw [if_pos ⟨aw.1, aw.2.1⟩]
      rw [we] at pw
      refine ⟨d, w12, as_i s2 248 8 (nI (en c T (tp c T st.1))), ?_, q2.pl (st.1 + 1) _ (en_le aw.1) (tp_nx aw.1)⟩
      rw [q1, am_b2s, am_iff (by decide), pw, am_bds]
  · rw [am_b0 w12]
    by_cases b91 : bt c T st.1 91
    · rw [am_ift ((seeV_b hb (by decide)).mpr b91)]
      have lt := bt_lt hn1 hr b91
      rcases m_opens hx x8 (Or.inl rfl) (hl lt) with ⟨d, s2, q1, q2⟩ | ⟨d, s2, q1, q2, q3⟩
      · left
        refine ⟨Or.inr b91, d, s2, ?_, q2⟩
        rw [q1, am_b2s, am_ift rfl]
      · right; right; left
        refine ⟨d, w12, b91, as_i s2 248 8 (nI (tp c T st.1 + 1)), ?_, q2.of (q2.1.nb E b91 plBs.2.2.2.2.2.1)⟩
        rw [q1, am_b2s, am_iff (by decide), q3, nI_1, am_ltd]
    · right; right; right
      refine ⟨w12, b91, x, ?_, hx⟩
      rw [am_iff (fun z => b91 ((seeV_b hb (by decide)).mp z))]
end MR
