/-! numbers of a town, in both -/
def PTn (b j : Nat) : Prop := P2 b j ∨ (6 ≤ b ∧ b ≤ 13)
def PWn (b j : Nat) : Prop := (b = 248 ∧ (j = 8 ∨ j = 9 ∨ j = 10)) ∨ b = 254
def PX (b j : Nat) : Prop := PWn b j ∨ (b = 248 ∧ j = 14)
section TT
variable {c : Nat → Int32} {T n : Nat}
def TC (c : Nat → Int32) (T n i : Nat) (s : am_S) : Prop := s.1 2 4 = nI i ∧ s.1 2 5 = 0 ∧ tokAt c T n s
def TD (c : Nat → Int32) (T i : Nat) (s : am_S) : Prop := (∃ r, r ≤ T ∧ s.1 248 8 = nI r ∧ sk c T r = tp c T i) ∧ s.1 248 9 = 0 ∧ tx c T s
theorem TC.f {P : Nat → Nat → Prop} {i : Nat} {s s2 : am_S} (h : TC c T n i s) (g : frm P s s2) (h2 : ∀ b j, P b j → 6 ≤ b) : TC c T n i s2 := by
  have e : ∀ b j, b < 6 → s2.1 b j = s.1 b j := fun b j hb => g.1 b j (fun z => by have := h2 b j z; omega)
  refine ⟨(e 2 4 (by decide)).trans h.1, (e 2 5 (by decide)).trans h.2.1, (e 2 3 (by decide)).trans h.2.2.1, fun q hq => ?_⟩
  rw [e 3 q (by decide), e 4 q (by decide), e 5 q (by decide)]
  exact h.2.2.2 q hq
theorem TD.f {i : Nat} {s s2 : am_S} (h : TD c T i s) (g : frm (fun b j => b = 254 ∨ (b = 248 ∧ j = 10)) s s2) : TD c T i s2 := by
  obtain ⟨⟨r, r1, r2, r3⟩, h2, h3⟩ := h
  refine ⟨⟨r, r1, (g.1 248 8 (by show ¬ (248 = 254 ∨ (248 = 248 ∧ 8 = 10)); decide)).trans r2, r3⟩, (g.1 248 9 (by show ¬ (248 = 254 ∨ (248 = 248 ∧ 9 = 10)); decide)).trans h2, h3.f g (by show ¬ (248 = 254 ∨ (248 = 248 ∧ 1 = 10)); decide) (fun j => by show ¬ (249 = 254 ∨ (249 = 248 ∧ j = 10)); omega)⟩
theorem nF_K (hT : T ≤ 400) (i : Nat) : erK (nF c T (tp c T i)) := by
  have := tp_le (c := c) (T := T) i
  unfold nF erK
  split <;> omega
theorem c_num {i : Nat} {s : am_S} {lo hi : Int32} (hT : T ≤ 400) (hnT : n ≤ T) (hn1 : tp c T n = T) (h : TC c T n i s) (hi2 : i ≤ n) : (okN c T (tp c T i) lo hi ∧ i < n ∧ f_X7_readNumber lo hi s = some (VL c T (tp c T i), as_i s 2 4 (nI (i + 1))) ∧ TC c T n (i + 1) (as_i s 2 4 (nI (i + 1)))) ∨ (¬ okN c T (tp c T i) lo hi ∧ f_X7_readNumber lo hi s = some ((0 : Int32), as_i s 2 5 (nI (nF c T (tp c T i))))) := by
  obtain ⟨h4, h5, ht⟩ := h
  have hk := (ht.2 i hi2).1
  have hv := (ht.2 i hi2).2.1
  have e3 : nI (KD c T (tp c T i)) = nI 3 ↔ KD c T (tp c T i) = 3 := kdI (i := i) (by decide)
  have e2 : nI (KD c T (tp c T i)) = nI 2 ↔ KD c T (tp c T i) = 2 := kdI (i := i) (by decide)
  have f1 : f_X7_fail (1 : Int32) s = some (as_i s 2 5 (nI (fau c T i 1))) := c_fail (k := 1) ht (by omega) h4 hi2 h5
  have f0 : f_X7_fail (0 : Int32) s = some (as_i s 2 5 (nI (fau c T i 0))) := c_fail (k := 0) ht (by omega) h4 hi2 h5
  unfold f_X7_readNumber
  rw [am_ift h5, am_ltd, h4, gd_nI (by omega) (by decide), cL (by omega), hk]
  by_cases k3 : KD c T (tp c T i) = 3
  · right
    refine ⟨fun z => by have := z.1; omega, ?_⟩
    rw [am_ift (e3.mpr k3)]
    unfold j_X7_readNumber_27 j_X7_readNumber_52 j_X7_readNumber_79
    rw [am_ltd, h4, gd_nI (by omega) (by decide), cL (by omega), hk, am_iff (fun z => by have := e2.mp z; omega), am_iff (by decide), am_ltd, gd_nI (by omega) (by decide), am_ltd, am_iff (by decide), f1, am_bds]
    unfold nF fau
    rw [if_pos (Or.inr k3)]
  · rw [am_iff (fun z => k3 (e3.mp z))]
    unfold j_X7_readNumber_27
    rw [am_ltd, h4, gd_nI (by omega) (by decide), cL (by omega), hk]
    by_cases k2 : KD c T (tp c T i) = 2
    · rw [am_ift (e2.mpr k2)]
      unfold j_X7_readNumber_52 j_X7_readNumber_79
      rw [am_ltd, h4, gd_nI (by omega) (by decide), cL (by omega), hv, am_ltd, am_ift rfl]
      have lt := kd_lt hn1 hi2 (show kd c T i ≠ 0 by show KD c T (tp c T i) ≠ 0; omega)
      have nf : nF c T (tp c T i) = fau c T i 1 := by unfold nF fau; rw [if_pos (Or.inl k2)]
      by_cases c1 : VL c T (tp c T i) < lo
      · right
        refine ⟨fun z => absurd z.2.1 (Int32.not_le.mpr c1), ?_⟩
        rw [am_ift c1, f1, am_bds, nf]
      · rw [am_iff c1]
        by_cases c2 : VL c T (tp c T i) ≤ hi
        · left
          refine ⟨⟨k2, Int32.not_lt.mp c1, c2⟩, lt, ?_, as_i3, ?_, ht.f2 (frm.i s ⟨rfl, Or.inl rfl⟩)⟩
          · rw [am_ift c2, tk_step ht (by omega) h4 lt, am_bds]
          · rw [as_i2 (by decide)]; exact h5
        · right
          refine ⟨fun z => c2 z.2.2, ?_⟩
          rw [am_iff c2, f1, am_bds, nf]
    · right
      refine ⟨fun z => k2 z.1, ?_⟩
      rw [am_iff (fun z => k2 (e2.mp z)), am_ift rfl, f0, am_bds]
      unfold nF fau
      rw [if_neg (fun z => z.elim k2 k3)]
theorem c_numF {s : am_S} {lo hi : Int32} (h : ¬ s.1 2 5 = 0) : f_X7_readNumber lo hi s = some ((0 : Int32), s) := by
  unfold f_X7_readNumber
  rw [am_iff h]
theorem c_refF {s : am_S} (h : ¬ s.1 2 5 = 0) : f_X7_refuseNumber s = some s := by
  unfold f_X7_refuseNumber
  rw [am_iff h]
theorem c_ref {i : Nat} {s : am_S} (hn : n ≤ 400) (h : TC c T n (i + 1) s) (hi : i + 1 ≤ n) : f_X7_refuseNumber s = some (as_i s 2 5 (nI (fau c T i 1))) := by
  obtain ⟨h4, h5, ht⟩ := h
  unfold f_X7_refuseNumber
  rw [am_ift h5, h4, am_iff (by rw [show (0 : Int32) = nI 0 from rfl, nI_leI (by omega) (by decide)]; omega), nI_pr, am_ltd, gd_nI (by omega) (by decide), cL (by omega), (ht.2 i (by omega)).2.2, show ((1 : Int32) + nI 8 * nI (tp c T i)) + 1 = nI (8 * tp c T i + 1 + 1) from flt _ 1, am_ltd]
  rfl
theorem m_num {i : Nat} {s : am_S} {lo hi : Int32} (hT : T ≤ 400) (h : TD c T i s) : (okN c T (tp c T i) lo hi ∧ ∃ s2, f_X12_numberHere lo hi s = some ((1 : Int32), s2) ∧ TD c T (i + 1) s2 ∧ s2.1 248 10 = VL c T (tp c T i) ∧ frm P8 s s2) ∨ (¬ okN c T (tp c T i) lo hi ∧ ∃ s2, f_X12_numberHere lo hi s = some ((0 : Int32), s2) ∧ s2.1 248 9 = nI (nF c T (tp c T i)) ∧ frm P8 s s2) := by
  obtain ⟨⟨r, r1, r2, r3⟩, h2, h3⟩ := h
  obtain ⟨s2, f, hh⟩ := m_number (lo := lo) (hi := hi) h3 hT r1 r2 h2
  rw [r3] at hh
  rcases hh with ⟨a1, a2, a3, a4, a5⟩ | ⟨a1, a2, a3⟩
  · left
    have lt := (KD_2.mp a1.1).1
    exact ⟨a1, s2, a2, ⟨⟨_, en_le lt, a3, tp_nx lt⟩, a4, h3.f f (by unfold P8; omega) (by unfold P8; intro j; omega)⟩, a5, f⟩
  · right
    exact ⟨a1, s2, a2, a3, f⟩
theorem P8W {b j : Nat} (h : P8 b j) : PWn b j := by unfold P8 at h; unfold PWn; omega
theorem m_cell {i cell : Nat} {s : am_S} {lo hi : Int32} (hT : T ≤ 400) (hc : cell < 270) (h : TD c T i s) : (okN c T (tp c T i) lo hi ∧ ∃ s2, f_X12_cellHere (nI cell) lo hi s = some ((1 : Int32), s2) ∧ TD c T (i + 1) s2 ∧ s2.1 254 = upd (s.1 254) cell (VL c T (tp c T i)) ∧ frm PWn s s2) ∨ (¬ okN c T (tp c T i) lo hi ∧ ∃ s2, f_X12_cellHere (nI cell) lo hi s = some ((0 : Int32), s2) ∧ s2.1 248 9 = nI (nF c T (tp c T i)) ∧ frm PWn s s2) := by
  unfold f_X12_cellHere
  rcases m_num (lo := lo) (hi := hi) hT h with ⟨a1, s2, a2, a3, a4, a5⟩ | ⟨a1, s2, a2, a3, a4⟩
  · left
    refine ⟨a1, as_i s2 254 cell (VL c T (tp c T i)), ?_, a3.f (frm.i s2 (Or.inl rfl)), ?_, (a5.mo (fun _ _ => P8W)).ti (Or.inr rfl)⟩
    · rw [a2, am_b2s, am_iff (by decide), gd_nI hc (by decide), cL (by omega), a4, am_ltd]
    · rw [row_i, a5.row (by unfold P8; intro j; omega)]
  · right
    exact ⟨a1, s2, by rw [a2, am_b2s, am_ift rfl], a3, a4.mo (fun _ _ => P8W)⟩
theorem m_other {i cell un : Nat} {s : am_S} {hi : Int32} (hT : T ≤ 400) (hc : cell < 270) (hu : un < 270) (hcu : un ≠ cell) (h : TD c T i s) : (okN c T (tp c T i) 0 hi ∧ ¬ VL c T (tp c T i) = s.1 254 un ∧ ∃ s2, f_X12_otherHere (nI cell) (nI un) hi s = some ((1 : Int32), s2) ∧ TD c T (i + 1) s2 ∧ s2.1 254 = upd (s.1 254) cell (VL c T (tp c T i)) ∧ frm PWn s s2) ∨ (okN c T (tp c T i) 0 hi ∧ VL c T (tp c T i) = s.1 254 un ∧ ∃ s2, f_X12_otherHere (nI cell) (nI un) hi s = some ((0 : Int32), s2) ∧ s2.1 248 9 = nI (fau c T i 1) ∧ frm PWn s s2) ∨ (¬ okN c T (tp c T i) 0 hi ∧ ∃ s2, f_X12_otherHere (nI cell) (nI un) hi s = some ((0 : Int32), s2) ∧ s2.1 248 9 = nI (nF c T (tp c T i)) ∧ frm PWn s s2) := by
  obtain ⟨⟨r, r1, r2, r3⟩, h2, h3⟩ := id h
  have se := m_see h3 hT r1 r2
  rw [r3] at se
  have p88 : PWn 248 8 := Or.inl ⟨rfl, Or.inl rfl⟩
  have hx : TD c T i (as_i s 248 8 (nI (tp c T i))) := ⟨⟨_, tp_le _, as_i3, tp_sk hT i⟩, by rw [as_i2 (by decide)]; exact h2, h3.i 248 8 _ (by decide)⟩
  have x54 : (as_i s 248 8 (nI (tp c T i))).1 254 = s.1 254 := as_i1 (by decide)
  unfold f_X12_otherHere
  rw [se, am_b2s, as_i3, am_ltd]
  rcases m_cell (cell := cell) (lo := 0) (hi := hi) hT hc hx with ⟨a1, s2, a2, a3, a4, a5⟩ | ⟨a1, s2, a2, a3, a4⟩
  · rw [x54] at a4
    have g1 : s2.1 254 cell = VL c T (tp c T i) := by rw [a4, upd_s]
    have g2 : s2.1 254 un = s.1 254 un := by rw [a4, upd_n hcu]
    rw [a2, am_b2s, am_iff (by decide), gd_nI hc (by decide), gd_nI hu (by decide), cL (by omega), cL (by omega), g1, g2]
    by_cases z : VL c T (tp c T i) = s.1 254 un
    · right; left
      refine ⟨a1, z, as_i s2 248 9 (nI (fau c T i 1)), ?_, as_i3, ((frm.i s p88).tr a5).ti (Or.inl ⟨rfl, Or.inr (Or.inl rfl)⟩)⟩
      have fl : f_X12_fails (1 : Int32) (nI (tp c T i)) s2 = some ((0 : Int32), as_i s2 248 9 (nI (fau c T i 1))) := m_fails0 (k := 1) a3.2.1
      rw [am_ift z, fl, am_b2s, am_ift rfl]
    · left
      exact ⟨a1, z, s2, am_iff z, a3, a4, (frm.i s p88).tr a5⟩
  · right; right
    exact ⟨a1, s2, by rw [a2, am_b2s, am_ift rfl], a3, (frm.i s p88).tr a4⟩
/-- small numbers that were read -/
theorem ok_le {p h : Nat} {lo : Int32} (hT : T ≤ 400) (hh : h < 2 ^ 31) (o : okN c T p lo (nI h)) : ∃ v, VL c T p = nI v ∧ v ≤ h ∧ v < 100000 := by
  have k := o.1
  refine ⟨_, VL_2 k, ?_, nv_ok hT k⟩
  have := o.2.2
  rw [VL_2 k, nI_leI (by have := nv_ok hT k; omega) hh] at this
  exact this
theorem ok_lt {p P : Nat} {lo : Int32} (hT : T ≤ 400) (hP : P < 2 ^ 31) (o : okN c T p lo (nI P - 1)) : ∃ v, VL c T p = nI v ∧ v < P := by
  cases P with
  | zero =>
    exfalso
    have k := o.1
    have := o.2.2
    rw [VL_2 k] at this
    have b := nI_pos' (n := nv c p (en c T p - p)) (by have := nv_ok hT k; omega)
    have e : nI 0 - 1 = (-1 : Int32) := by decide
    rw [e] at this
    exact absurd (Int32.le_trans b this) (by decide)
  | succ P =>
    rw [nI_pr] at o
    obtain ⟨v, v1, v2, _⟩ := ok_le hT (by omega) o
    exact ⟨v, v1, by omega⟩
end TT
