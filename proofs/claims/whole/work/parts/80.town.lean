/-! a town as it is read, in both -/
def pSt (m : Nat → Int32) (P S : Nat) : Prop := ∀ i, i < S → ∃ a b, m (179 + 2 * i) = nI a ∧ m (179 + 2 * i + 1) = nI b ∧ a < P ∧ b < P ∧ a ≠ b
def pFi (m : Nat → Int32) (F I : Nat) : Prop := ∀ i, i < I → ∃ a b, m (199 + 4 * i) = nI a ∧ a < F ∧ isZ (m (199 + 4 * i + 1)) ∧ m (199 + 4 * i + 2) = nI b ∧ b < F ∧ isZ (m (199 + 4 * i + 3))
def pFh (m : Nat → Int32) (F H : Nat) : Prop := ∀ i, i < H → ∃ a v, m (239 + 3 * i) = nI a ∧ a < F ∧ isZ (m (239 + 3 * i + 1)) ∧ m (239 + 3 * i + 2) = nI v ∧ v < 100
def pTr (m : Nat → Int32) : Prop := ∀ j, j < 49 → ∃ v, m (130 + j) = nI v ∧ v < 10
def TWN (m : Nat → Int32) (F O P S I H C : Nat) : Prop :=
  (m 0 = nI F ∧ F < 9) ∧ (m 1 = nI O ∧ O < 2 ^ F) ∧ (m 2 = nI P ∧ P < 8) ∧ (m 3 = nI S ∧ S < 11) ∧ (m 4 = nI I ∧ I < 11) ∧ (m 5 = nI H ∧ H < 11) ∧ (m 269 = nI C ∧ C < 128) ∧ isZ (m 10) ∧ pSt m P S ∧ pFi m F I ∧ pFh m F H ∧ pTr m ∧ m 6 = 0 ∧ m 7 = 0
def stE (m : Nat → Int32) (S p q : Nat) : Bool := (List.range S).any (fun i => joins m i p q)
def cHd (m : Nat → Int32) (s : am_S) : Prop := s.1 6 0 = 0 ∧ s.1 6 1 = m 0 ∧ s.1 6 2 = m 1 ∧ s.1 6 3 = m 2 ∧ s.1 6 6 = m 3 ∧ s.1 6 10 = m 4 ∧ s.1 6 12 = m 5 ∧ s.1 6 14 = m 269 ∧ s.1 6 15 = m 10
def cTr (m : Nat → Int32) (s : am_S) : Prop := ∀ j, j < 49 → s.1 8 j = m (130 + j)
def cSt (m : Nat → Int32) (s : am_S) (S : Nat) : Prop := (∀ i, i < S → s.1 9 i = m (179 + 2 * i) ∧ s.1 10 i = m (179 + 2 * i + 1)) ∧ ∀ p, p < 7 → s.1 11 p = nI (bitsOf (fun q => stE m S p q) 7)
def cIf (m : Nat → Int32) (s : am_S) (I : Nat) : Prop := ∀ j, j < 4 * I → s.1 12 j = m (199 + j)
def cHa (m : Nat → Int32) (s : am_S) (H : Nat) : Prop := ∀ j, j < 3 * H → s.1 13 j = m (239 + j)
def cPe (m : Nat → Int32) (s : am_S) (F O P : Nat) : Prop := ∀ p, p < P → ∃ kn, kn < 2 ^ F ∧ s.1 7 p = nI kn ∧ m (123 + p) = 0 ∧ ∀ f, f < 8 → m (11 + 16 * p + 2 * f) = (if kn.testBit f = true then nI (O / 2 ^ f % 2) else nI 2) ∧ m (11 + 16 * p + 2 * f + 1) = (if kn.testBit f = true then nI 10 else 0)
def dC (m : Nat → Int32) (s : am_S) (F O P S I H : Nat) : Prop := cHd m s ∧ cTr m s ∧ cSt m s S ∧ cIf m s I ∧ cHa m s H ∧ cPe m s F O P
theorem pSt.cg {m m2 : Nat → Int32} {P S P2 : Nat} (h : pSt m P S) (hS : S ≤ 10) (hP : P ≤ P2) (e : ∀ j, 179 ≤ j → j < 179 + 2 * S → m2 j = m j) : pSt m2 P2 S := fun i hi => by
  obtain ⟨a, b, h1, h2, h3, h4, h5⟩ := h i hi
  exact ⟨a, b, by rw [e _ (by omega) (by omega)]; exact h1, by rw [e _ (by omega) (by omega)]; exact h2, by omega, by omega, h5⟩
theorem pFi.cg {m m2 : Nat → Int32} {F I : Nat} (h : pFi m F I) (e : ∀ j, 199 ≤ j → j < 199 + 4 * I → m2 j = m j) : pFi m2 F I := fun i hi => by
  obtain ⟨a, b, h1, h2, h3, h4, h5, h6⟩ := h i hi
  exact ⟨a, b, by rw [e _ (by omega) (by omega)]; exact h1, h2, by rw [e _ (by omega) (by omega)]; exact h3, by rw [e _ (by omega) (by omega)]; exact h4, h5, by rw [e _ (by omega) (by omega)]; exact h6⟩
theorem pFh.cg {m m2 : Nat → Int32} {F H : Nat} (h : pFh m F H) (e : ∀ j, 239 ≤ j → j < 239 + 3 * H → m2 j = m j) : pFh m2 F H := fun i hi => by
  obtain ⟨a, b, h1, h2, h3, h4, h5⟩ := h i hi
  exact ⟨a, b, by rw [e _ (by omega) (by omega)]; exact h1, h2, by rw [e _ (by omega) (by omega)]; exact h3, by rw [e _ (by omega) (by omega)]; exact h4, h5⟩
theorem pTr.cg {m m2 : Nat → Int32} (h : pTr m) (e : ∀ j, 130 ≤ j → j < 179 → m2 j = m j) : pTr m2 := fun j hj => by
  rw [e _ (by omega) (by omega)]
  exact h j hj
theorem joins_cg {m m2 : Nat → Int32} {i p q : Nat} (e1 : m2 (179 + 2 * i) = m (179 + 2 * i)) (e2 : m2 (179 + 2 * i + 1) = m (179 + 2 * i + 1)) : joins m2 i p q = joins m i p q := by
  unfold joins
  rw [show mA m2 i = mA m i from mN_eq e1, show mB m2 i = mB m i from mN_eq e2]
theorem stE_cg {m m2 : Nat → Int32} {S p q : Nat} (e : ∀ j, 179 ≤ j → j < 179 + 2 * S → m2 j = m j) : stE m2 S p q = stE m S p q := by
  unfold stE
  rw [Bool.eq_iff_iff, List.any_eq_true, List.any_eq_true]
  constructor
  · rintro ⟨i, hi, h⟩
    have := List.mem_range.mp hi
    rw [joins_cg (e _ (by omega) (by omega)) (e _ (by omega) (by omega))] at h
    exact ⟨i, hi, h⟩
  · rintro ⟨i, hi, h⟩
    have := List.mem_range.mp hi
    refine ⟨i, hi, ?_⟩
    rw [joins_cg (e _ (by omega) (by omega)) (e _ (by omega) (by omega))]
    exact h
theorem cSt.cg {m m2 : Nat → Int32} {s s2 : am_S} {S : Nat} (h : cSt m s S) (e : ∀ j, 179 ≤ j → j < 179 + 2 * S → m2 j = m j) (e9 : s2.1 9 = s.1 9) (e10 : s2.1 10 = s.1 10) (e11 : s2.1 11 = s.1 11) : cSt m2 s2 S := by
  refine ⟨fun i hi => ?_, fun p hp => ?_⟩
  · rw [e9, e10, e _ (by omega) (by omega), e _ (by omega) (by omega)]; exact h.1 i hi
  · rw [e11, h.2 p hp]
    congr 1
    exact bitsOf_congr 7 (fun q _ => (stE_cg e).symm)
theorem cPe.cg {m m2 : Nat → Int32} {s s2 : am_S} {F O P : Nat} (h : cPe m s F O P) (hP : P ≤ 7) (e : ∀ j, 11 ≤ j → j < 130 → m2 j = m j) (e7 : s2.1 7 = s.1 7) : cPe m2 s2 F O P := fun p hp => by
  obtain ⟨kn, h1, h2, h3, h4⟩ := h p hp
  refine ⟨kn, h1, by rw [e7]; exact h2, by rw [e _ (by omega) (by omega)]; exact h3, fun f hf => ?_⟩
  rw [e _ (by omega) (by omega), e _ (by omega) (by omega)]
  exact h4 f hf
section TW
variable {c : Nat → Int32} {T n : Nat}
def OUT (c : Nat → Int32) (T n : Nat) (s0 y0 : am_S) (i0 : Nat) (rc : Option am_S) (rm : Option (Int32 × am_S)) : Prop :=
  (∃ e s2 y2, erK e ∧ rc = some s2 ∧ rm = some ((0 : Int32), y2) ∧ s2.1 2 5 = nI e ∧ (∃ j, j ≤ n ∧ s2.1 2 4 = nI j) ∧ y2.1 248 9 = nI e ∧ frm PTn s0 s2 ∧ frm PWn y0 y2) ∨
  (∃ i s2 y2 F O P S I H C, rc = some s2 ∧ rm = some ((1 : Int32), y2) ∧ TC c T n i s2 ∧ TD c T i y2 ∧ i0 ≤ i ∧ i ≤ n ∧ 0 < F ∧ TWN (y2.1 254) F O P S I H C ∧ dC (y2.1 254) s2 F O P S I H ∧ frm PTn s0 s2 ∧ frm PWn y0 y2)
theorem PT24 : PTn 2 4 := Or.inl ⟨rfl, Or.inl rfl⟩
theorem PT25 : PTn 2 5 := Or.inl ⟨rfl, Or.inr rfl⟩
theorem PTd {b j : Nat} (h : 6 ≤ b ∧ b ≤ 13) : PTn b j := Or.inr h
theorem out_e {s0 y0 s y : am_S} {i0 i e : Nat} {rc : Option am_S} {rm : Option (Int32 × am_S)} (he : erK e) (hi : i ≤ n) (h4 : s.1 2 4 = nI i) (hs : frm PTn s0 s) (hy : frm PWn y0 y) (h9 : y.1 248 9 = nI e) (h1 : rc = some (as_i s 2 5 (nI e))) (h2 : rm = some ((0 : Int32), y)) : OUT c T n s0 y0 i0 rc rm := Or.inl ⟨e, _, y, he, h1, h2, as_i3, ⟨i, hi, by rw [as_i2 (by decide)]; exact h4⟩, h9, hs.ti PT25, hy⟩
theorem fl5 {s : am_S} {e : Nat} (he : erK e) : ¬ (as_i s 2 5 (nI e)).1 2 5 = 0 := by rw [as_i3]; exact he.ne
theorem fauK1 (hT : T ≤ 400) (i : Nat) : erK (fau c T i 1) := fauK hT i (by decide)
/-- child -/
theorem tw_child {i F O P S I H C : Nat} {s y : am_S} (hT : T ≤ 400) (hnT : n ≤ T) (hn1 : tp c T n = T) (hs : TC c T n i s) (hy : TD c T i y) (hi : i ≤ n) (hF : 0 < F) (W : TWN (y.1 254) F O P S I H C) (D : dC (y.1 254) s F O P S I H) : OUT c T n s y i (f_X9_readChild s) (am_b2 (f_X12_numberHere (0 : Int32) ((y.1 254 2) - (1 : Int32)) y) (fun v2 s3 => am_if (v2 = 0) (some ((0 : Int32), s3)) (am_lt (as_i s3 254 269 ((s3.1 254 269) ||| ((1 : Int32) <<< ((s3.1 248 10) &&& 31)))) (fun s4 => some ((1 : Int32), s4))))) := by
  obtain ⟨w0, w1, w2, w3, w4, w5, w6, w7, w8, w9, wa, wb, wc, wd_⟩ := W
  obtain ⟨⟨d0, d1, d2, d3, d4, d5, d6, d7, d8⟩, dt, ds, di, dh, dp_⟩ := D
  unfold f_X9_readChild
  rw [d3, w2.1]
  rcases c_num (lo := 0) (hi := nI P - 1) hT hnT hn1 hs hi with ⟨o, lt, q1, q2⟩ | ⟨o, q1⟩
  · rcases m_num (lo := 0) (hi := nI P - 1) hT hy with ⟨_, y2, r1, r2, r3, r4⟩ | ⟨z, _⟩
    · obtain ⟨v, v1, v2⟩ := ok_lt hT (by omega) o
      have e54 : y2.1 254 = y.1 254 := r4.row (by unfold P8; intro j; omega)
      have orr : nI C ||| ((1 : Int32) <<< (nI v &&& 31)) = nI (C ||| 2 ^ v) := by rw [sh_l (by omega), nI_or]
      have lt2 : C ||| 2 ^ v < 128 := Nat.or_lt_two_pow (n := 7) w6.2 (Nat.pow_lt_pow_right (by decide) (by omega))
      have x14 : (as_i s 2 4 (nI (i + 1))).1 6 14 = nI C := by rw [as_i1 (by decide), d7, w6.1]
      right
      refine ⟨i + 1, as_i (as_i s 2 4 (nI (i + 1))) 6 14 (nI (C ||| 2 ^ v)), as_i y2 254 269 (nI (C ||| 2 ^ v)), F, O, P, S, I, H, C ||| 2 ^ v, ?_, ?_, q2.f (frm.i _ (P := fun b j => b = 6) rfl) (by intro b j z; have : b = 6 := z; omega), r2.f (frm.i y2 (Or.inl rfl)), by omega, lt, hF, ?_, ?_, (frm.i s PT24).ti (PTd (by decide)), (r4.mo (fun _ _ => P8W)).ti (Or.inr rfl)⟩
      · rw [q1, am_b2s, c_fine, am_bds, am_b1 q2.2.1, v1, x14, orr, am_ltd]
      · rw [r1, am_b2s, am_iff (by decide), e54, w6.1, r3, v1, orr, am_ltd]
      · rw [row_i, e54]
        have u : ∀ j, j ≠ 269 → upd (y.1 254) 269 (nI (C ||| 2 ^ v)) j = y.1 254 j := fun j hj => upd_n hj
        exact ⟨⟨by rw [u _ (by decide)]; exact w0.1, w0.2⟩, ⟨by rw [u _ (by decide)]; exact w1.1, w1.2⟩, ⟨by rw [u _ (by decide)]; exact w2.1, w2.2⟩, ⟨by rw [u _ (by decide)]; exact w3.1, w3.2⟩, ⟨by rw [u _ (by decide)]; exact w4.1, w4.2⟩, ⟨by rw [u _ (by decide)]; exact w5.1, w5.2⟩, ⟨upd_s, lt2⟩, by rw [u _ (by decide)]; exact w7, w8.cg (by omega) (Nat.le_refl _) (fun j j1 j2 => u j (by omega)), w9.cg (fun j j1 j2 => u j (by omega)), wa.cg (fun j j1 j2 => u j (by omega)), wb.cg (fun j j1 j2 => u j (by omega)), by rw [u _ (by decide)]; exact wc, by rw [u _ (by decide)]; exact wd_⟩
      · rw [row_i, e54]
        have u : ∀ j, j ≠ 269 → upd (y.1 254) 269 (nI (C ||| 2 ^ v)) j = y.1 254 j := fun j hj => upd_n hj
        have a6 : ∀ j, j ≠ 14 → (as_i (as_i s 2 4 (nI (i + 1))) 6 14 (nI (C ||| 2 ^ v))).1 6 j = s.1 6 j := fun j hj => by rw [as_i2 hj, as_i1 (by decide)]
        have ar : ∀ b, b ≠ 2 → b ≠ 6 → (as_i (as_i s 2 4 (nI (i + 1))) 6 14 (nI (C ||| 2 ^ v))).1 b = s.1 b := fun b b1 b2 => by rw [as_i1 b2, as_i1 b1]
        refine ⟨⟨by rw [a6 _ (by decide)]; exact d0, by rw [a6 _ (by decide), u _ (by decide)]; exact d1, by rw [a6 _ (by decide), u _ (by decide)]; exact d2, by rw [a6 _ (by decide), u _ (by decide)]; exact d3, by rw [a6 _ (by decide), u _ (by decide)]; exact d4, by rw [a6 _ (by decide), u _ (by decide)]; exact d5, by rw [a6 _ (by decide), u _ (by decide)]; exact d6, by rw [as_i3, upd_s], by rw [a6 _ (by decide), u _ (by decide)]; exact d8⟩, fun j hj => ?_, ds.cg (fun j j1 j2 => u j (by omega)) (ar _ (by decide) (by decide)) (ar _ (by decide) (by decide)) (ar _ (by decide) (by decide)), fun j hj => ?_, fun j hj => ?_, dp_.cg (by omega) (fun j j1 j2 => u j (by omega)) (ar _ (by decide) (by decide))⟩
        · rw [ar 8 (by decide) (by decide), u _ (by omega)]; exact dt j hj
        · rw [ar 12 (by decide) (by decide), u _ (by omega)]; exact di j hj
        · rw [ar 13 (by decide) (by decide), u _ (by omega)]; exact dh j hj
    · exact absurd o z
  · rcases m_num (lo := 0) (hi := nI P - 1) hT hy with ⟨z, _⟩ | ⟨_, y2, r1, r2, r3⟩
    · exact absurd z o
    · refine out_e (nF_K hT i) hi hs.1 (frm.rf _ _) (r3.mo (fun _ _ => P8W)) r2 ?_ (by rw [r1, am_b2s, am_ift rfl])
      rw [q1, am_b2s, c_fine, am_bds, am_b0 (fl5 (nF_K hT i))]
end TW
