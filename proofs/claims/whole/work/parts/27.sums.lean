def sumI (g : Nat → Int32) : Nat → Int32
  | 0 => 0
  | n + 1 => sumI g n + g n
theorem sumI_congr {g g2 : Nat → Int32} : ∀ n, (∀ i, i < n → g i = g2 i) → sumI g n = sumI g2 n
  | 0, _ => rfl
  | n + 1, h => by rw [sumI, sumI, sumI_congr n (fun i hi => h i (by omega)), h n (by omega)]
theorem lp_sum {body : Int32 × Int32 → Option ((Int32 × Int32) ⊕ Int32)} (g : Nat → Int32) (n : Nat) (hs : ∀ i, i < n → ∀ acc, body (acc, nI i) = some (.inl (acc + g i, nI (i + 1)))) (he : ∀ acc, body (acc, nI n) = some (.inr acc)) (hn : n < 4000) : am_lp body am_F ((0 : Int32), (0 : Int32)) = some (sumI g n) :=
  am_lp_run (fun i => (sumI g i, nI i)) n (fun i hi => hs i hi _) (he _) (show n < am_F from hn)
theorem az (a : Int32) : a + 0 = a := Int32.add_zero a
/-- harms are of the facts there are -/
def okH (m : Nat → Int32) : Prop := mF m ≤ 8 ∧ mH m ≤ 10 ∧ m 5 = nI (mH m) ∧ ∀ i, i < mH m → isN m (239 + 3 * i) (mF m)
theorem wfT.okH {m : Nat → Int32} (h : wfT m) : okH m := ⟨by have := h.1.2; unfold mF; omega, by have := h.2.2.2.2.2.1.2; unfold mH; omega, h.2.2.2.2.2.1.1, fun i hi => (h.2.2.2.2.2.2.2.2.2.2.2.1 i hi).1⟩
def okCH (m : Nat → Int32) (s : am_S) : Prop := s.1 16 12 = m 5 ∧ ∀ j, j < 3 * mH m → s.1 23 j = m (239 + j)
def hg (m B : Nat → Int32) (i : Nat) : Int32 := if B (mN m (239 + 3 * i)) = m (239 + 3 * i + 1) then m (239 + 3 * i + 2) else 0
def harmB (m B : Nat → Int32) : Int32 := sumI (hg m B) (mH m)
theorem harmB_congr {m B B2 : Nat → Int32} (ho : okH m) (h : ∀ f, f < mF m → B f = B2 f) : harmB m B = harmB m B2 := sumI_congr _ (fun i hi => by unfold hg; rw [h _ (ho.2.2.2 i hi).2])
theorem m_harmBelieved {m : Nat → Int32} {s : am_S} (hm : s.1 258 = m) (ho : okH m) : f_X12_harmBelieved s = some (harmB m (s.1 259)) := by
  have hF := ho.1
  have hH := ho.2.1
  unfold f_X12_harmBelieved
  refine lp_sum (hg m (s.1 259)) (mH m) (fun i hi acc => ?_) (fun acc => ?_) (by omega)
  · have h1 := ho.2.2.2 i hi
    have l1 := h1.2
    dsimp only
    unfold b_X12_harmBelieved_4
    rw [hm, ho.2.2.1, am_iff (nI_ge hi (by omega))]
    simp (disch := omega) only [am_ltd, pk_mul, nI_add, nI_1, gd2, cL]
    rw [h1.e]
    simp (disch := omega) only [gd2, cL]
    unfold hg
    by_cases c : s.1 259 (mN m (239 + 3 * i)) = m (239 + 3 * i + 1)
    · rw [am_ift c, if_pos c]
    · rw [am_iff c, if_neg c]
  · dsimp only
    unfold b_X12_harmBelieved_4
    rw [hm, ho.2.2.1, am_ift (nI_le (Nat.le_refl _) (by omega))]
theorem c_harmOf {m : Nat → Int32} {s : am_S} {a fr len : Nat} {b : Nat → Int32} (ho : okH m) (hc : okCH m s) (ha : am_sh a = (13, len) ∧ a < am_N) (hl : fr + 8 ≤ len) (hlen : len < 2 ^ 31) (hb : ∀ f, f < 8 → s.1 a (fr + f) = b f) : f_X8_harmOf a (nI fr) s = some (harmB m b) := by
  have hF := ho.1
  have hH := ho.2.1
  have hsh : am_sh a = (13, (am_sh a).2) := by rw [ha.1]
  have hlen2 : (am_sh a).2 = len := by rw [ha.1]
  unfold f_X8_harmOf
  rw [am_gdt ⟨hsh, ha.2⟩]
  refine lp_sum (hg m b) (mH m) (fun i hi acc => ?_) (fun acc => ?_) (by omega)
  · have h1 := ho.2.2.2 i hi
    have l1 := h1.2
    dsimp only
    unfold b_X8_harmOf_5
    rw [hc.1, ho.2.2.1, am_iff (nI_ge hi (by omega)), hlen2]
    simp (disch := omega) only [am_ltd, pk_mul, nI_add, nI_1, gd2, cL]
    have f0 : s.1 23 (3 * i) = nI (mN m (239 + 3 * i)) := (hc.2 (3 * i) (by omega)).trans h1.e
    have f1 : s.1 23 (3 * i + 1) = m (239 + 3 * i + 1) := hc.2 (3 * i + 1) (by omega)
    have f2 : s.1 23 (3 * i + 2) = m (239 + 3 * i + 2) := hc.2 (3 * i + 2) (by omega)
    rw [f0, f1, f2]
    simp (disch := omega) only [nI_add, gd2, cL]
    rw [hb _ (by omega)]
    unfold hg
    by_cases c : b (mN m (239 + 3 * i)) = m (239 + 3 * i + 1)
    · rw [am_ift c, if_pos c]
    · rw [am_iff c, if_neg c, az]
  · dsimp only
    unfold b_X8_harmOf_5
    rw [hc.1, ho.2.2.1, am_ift (nI_le (Nat.le_refl _) (by omega))]
/-- the harm of one fact told so, alone -/
def ha1 (m : Nat → Int32) (f v : Int32) (i : Nat) : Int32 := if m (239 + 3 * i) = f ∧ m (239 + 3 * i + 1) = v then m (239 + 3 * i + 2) else 0
def harmA (m : Nat → Int32) (f v : Int32) : Int32 := sumI (ha1 m f v) (mH m)
theorem m_harmAlone {m : Nat → Int32} {s : am_S} {f v : Int32} (hm : s.1 258 = m) (ho : okH m) : f_X12_harmAlone f v s = some (harmA m f v) := by
  have hF := ho.1
  have hH := ho.2.1
  unfold f_X12_harmAlone
  refine lp_sum (ha1 m f v) (mH m) (fun i hi acc => ?_) (fun acc => ?_) (by omega)
  · dsimp only
    unfold b_X12_harmAlone_5
    rw [hm, ho.2.2.1, am_iff (nI_ge hi (by omega))]
    simp (disch := omega) only [am_ltd, pk_mul, nI_add, nI_1, gd2, cL]
    unfold ha1
    by_cases c : m (239 + 3 * i) = f
    · rw [am_ift c]
      by_cases c2 : m (239 + 3 * i + 1) = v
      · rw [am_ift c2, if_pos ⟨c, c2⟩]
      · rw [am_iff c2, if_neg (fun z => c2 z.2)]
    · rw [am_iff c, if_neg (fun z => c z.1)]
  · dsimp only
    unfold b_X12_harmAlone_5
    rw [hm, ho.2.2.1, am_ift (nI_le (Nat.le_refl _) (by omega))]
theorem c_harmOfFact {m : Nat → Int32} {s : am_S} {f v : Int32} (hc : okCH m s) (ho : okH m) : f_X8_harmOfFact f v s = some (harmA m f v) := by
  have hF := ho.1
  have hH := ho.2.1
  unfold f_X8_harmOfFact
  refine lp_sum (ha1 m f v) (mH m) (fun i hi acc => ?_) (fun acc => ?_) (by omega)
  · dsimp only
    unfold b_X8_harmOfFact_5
    rw [hc.1, ho.2.2.1, am_iff (nI_ge hi (by omega))]
    simp (disch := omega) only [am_ltd, pk_mul, nI_add, nI_1, gd2, cL]
    have f0 : s.1 23 (3 * i) = m (239 + 3 * i) := hc.2 (3 * i) (by omega)
    have f1 : s.1 23 (3 * i + 1) = m (239 + 3 * i + 1) := hc.2 (3 * i + 1) (by omega)
    have f2 : s.1 23 (3 * i + 2) = m (239 + 3 * i + 2) := hc.2 (3 * i + 2) (by omega)
    rw [f0, f1, f2]
    unfold ha1
    by_cases c : m (239 + 3 * i) = f
    · rw [am_ift c]
      by_cases c2 : m (239 + 3 * i + 1) = v
      · rw [am_ift c2, if_pos ⟨c, c2⟩]
      · rw [am_iff c2, if_neg (fun z => c2 z.2), az]
    · rw [am_iff c, if_neg (fun z => c z.1), az]
  · dsimp only
    unfold b_X8_harmOfFact_5
    rw [hc.1, ho.2.2.1, am_ift (nI_le (Nat.le_refl _) (by omega))]
/-! what beliefs are -/
theorem folN_done {m : Nat → Int32} (ho : okIf m) : ∀ (n : Nat) (b : Nat → Int32), c2 (mF m) b ≤ n → firstIf m (folN m n b) = none := by
  intro n
  induction n with
  | zero =>
    intro b h
    have h0 : c2 (mF m) b = 0 := by omega
    refine firstIf_none (fun i hi => ?_)
    obtain ⟨h1, h2, h3, h4⟩ := ho.2.2.2.2 i hi
    have key : ∀ n g, g < n → c2 n b = 0 → b g ≠ nI 2 := by
      intro n
      induction n with
      | zero => intro g hg; omega
      | succ n ih =>
        intro g hg hz
        unfold c2 at hz
        by_cases e : g = n
        · subst e
          intro z
          rw [if_pos z] at hz
          omega
        · exact ih g (by omega) (by omega)
    have hne := key (mF m) _ h3.2 h0
    show openIf m b i = false
    simp [openIf, hne]
  | succ n ih =>
    intro b h
    cases hfi : firstIf m b with
    | none => rw [folN, hfi]; exact hfi
    | some i =>
      have hfi2 := hfi
      unfold firstIf at hfi2
      rw [List.find?_range_eq_some] at hfi2
      obtain ⟨h1, h2, -⟩ := hfi2
      have hi := List.mem_range.mp h2
      obtain ⟨g1, g2, g3, g4⟩ := ho.2.2.2.2 i hi
      have hB2 : b (mN m (199 + 4 * i + 2)) = nI 2 := by simp [openIf] at h1; exact h1.2
      have hv : m (199 + 4 * i + 3) ≠ nI 2 := by rcases g4 with h | h <;> rw [h] <;> decide
      have hcu := c2_upd hB2 hv (mF m) g3.2
      have e : folN m (n + 1) b = folN m n (upd b (mN m (199 + 4 * i + 2)) (m (199 + 4 * i + 3))) := by rw [folN, hfi]
      rw [e]
      exact ih _ (by omega)
theorem folN_H {m : Nat → Int32} (ho : okIf m) : ∀ (n : Nat) (b : Nat → Int32), (∀ f, isH (b f)) → ∀ f, isH (folN m n b f) := by
  intro n
  induction n with
  | zero => intro b h; exact h
  | succ n ih =>
    intro b h
    cases hfi : firstIf m b with
    | none => rw [folN, hfi]; exact h
    | some i =>
      have hfi2 := hfi
      unfold firstIf at hfi2
      rw [List.find?_range_eq_some] at hfi2
      have hi := List.mem_range.mp hfi2.2.1
      obtain ⟨g1, g2, g3, g4⟩ := ho.2.2.2.2 i hi
      have e : folN m (n + 1) b = folN m n (upd b (mN m (199 + 4 * i + 2)) (m (199 + 4 * i + 3))) := by rw [folN, hfi]
      rw [e]
      refine ih _ (fun f => ?_)
      by_cases c : f = mN m (199 + 4 * i + 2)
      · rw [c, upd_s]
        rcases g4 with h | h <;> rw [h]
        · exact Or.inl rfl
        · exact Or.inr (Or.inl rfl)
      · rw [upd_n c]
        exact h f
theorem bel_done {m : Nat → Int32} (ho : okIf m) (p : Nat) : firstIf m (bel m p) = none := folN_done ho 8 _ (by have := c2_le (heldR m p) (mF m); have := ho.1; omega)
theorem bel_H {m : Nat → Int32} {k p : Nat} (ho : okIf m) (hL : wfL k m) (hp : p < mP m) : ∀ f, isH (bel m p f) := folN_H ho 8 _ (fun f => by
  unfold heldR
  by_cases h : f < mF m
  · rw [if_pos h]; exact (hL.2.2.2 p f hp h).1
  · rw [if_neg h]; exact Or.inr (Or.inr rfl))
/-- contradictions -/
def cg (m B : Nat → Int32) (i : Nat) : Int32 := if B (mN m (199 + 4 * i)) = m (199 + 4 * i + 1) ∧ B (mN m (199 + 4 * i + 2)) ≠ m (199 + 4 * i + 3) then 1 else 0
def conB (m B : Nat → Int32) : Int32 := sumI (cg m B) (mI m)
theorem conB_congr {m B B2 : Nat → Int32} (ho : okIf m) (h : ∀ f, f < mF m → B f = B2 f) : conB m B = conB m B2 := sumI_congr _ (fun i hi => by unfold cg; rw [h _ (ho.2.2.2.2 i hi).1.2, h _ (ho.2.2.2.2 i hi).2.2.1.2])
theorem c_contradictionsOf {m : Nat → Int32} {s : am_S} {a fr len : Nat} {b : Nat → Int32} (ho : okIf m) (hc : okC m s) (ha : am_sh a = (13, len) ∧ a < am_N) (hl : fr + 8 ≤ len) (hlen : len < 2 ^ 31) (hb : ∀ f, f < 8 → s.1 a (fr + f) = b f) : f_X8_contradictionsOf a (nI fr) s = some (conB m b) := by
  have hF := ho.1
  have hI := ho.2.1
  have hsh : am_sh a = (13, (am_sh a).2) := by rw [ha.1]
  have hlen2 : (am_sh a).2 = len := by rw [ha.1]
  unfold f_X8_contradictionsOf
  rw [am_gdt ⟨hsh, ha.2⟩]
  refine lp_sum (cg m b) (mI m) (fun i hi acc => ?_) (fun acc => ?_) (by omega)
  · obtain ⟨h1, h2, h3, h4⟩ := ho.2.2.2.2 i hi
    have l1 := h1.2
    have l3 := h3.2
    dsimp only
    unfold b_X8_contradictionsOf_5 j_X8_contradictionsOf_46
    rw [hc.1, ho.2.2.2.1, am_iff (nI_ge hi (by omega)), hlen2]
    simp (disch := omega) only [am_ltd, pk_mul, nI_add, nI_1, gd2, cL]
    have f0 : s.1 22 (4 * i) = nI (mN m (199 + 4 * i)) := (hc.2 (4 * i) (by omega)).trans h1.e
    have f1 : s.1 22 (4 * i + 1) = m (199 + 4 * i + 1) := hc.2 (4 * i + 1) (by omega)
    have f2 : s.1 22 (4 * i + 2) = nI (mN m (199 + 4 * i + 2)) := (hc.2 (4 * i + 2) (by omega)).trans h3.e
    have f3 : s.1 22 (4 * i + 3) = m (199 + 4 * i + 3) := hc.2 (4 * i + 3) (by omega)
    rw [f0, f1, f2, f3]
    simp (disch := omega) only [nI_add, gd2, cL]
    rw [hb _ (by omega), hb _ (by omega)]
    unfold cg
    by_cases c1 : b (mN m (199 + 4 * i)) = m (199 + 4 * i + 1)
    · rw [am_ift c1, am_iff (by decide)]
      by_cases c3 : b (mN m (199 + 4 * i + 2)) = m (199 + 4 * i + 3)
      · rw [am_ift c3, if_neg (fun z => z.2 c3), az]
      · rw [am_iff c3, if_pos ⟨c1, c3⟩]
    · rw [am_iff c1, am_ift trivial, if_neg (fun z => c1 z.1), az]
  · dsimp only
    unfold b_X8_contradictionsOf_5
    rw [hc.1, ho.2.2.2.1, am_ift (nI_le (Nat.le_refl _) (by omega))]
theorem m_contradictions {m : Nat → Int32} {s : am_S} (hm : s.1 258 = m) (ho : okIf m) {B : Nat → Int32} (hB : ∀ f, f < mF m → s.1 259 f = B f) (hd : firstIf m B = none) (hH : ∀ f, isH (B f)) : f_X12_contradictions s = some (conB m B) := by
  have hF := ho.1
  have hI := ho.2.1
  unfold f_X12_contradictions
  refine lp_sum (cg m B) (mI m) (fun i hi acc => ?_) (fun acc => ?_) (by omega)
  · obtain ⟨h1, h2, h3, h4⟩ := ho.2.2.2.2 i hi
    have l1 := h1.2
    have l3 := h3.2
    dsimp only
    unfold b_X12_contradictions_4
    rw [hm, ho.2.2.2.1, am_iff (nI_ge hi (by omega))]
    simp (disch := omega) only [am_ltd, pk_mul, nI_add, nI_1, gd2, cL]
    rw [h1.e, h3.e]
    simp (disch := omega) only [gd2, cL]
    rw [hB _ l1, hB _ l3]
    unfold cg
    by_cases c1 : B (mN m (199 + 4 * i)) = m (199 + 4 * i + 1)
    · rw [am_ift c1]
      have hn2 : B (mN m (199 + 4 * i + 2)) ≠ nI 2 := by
        unfold firstIf at hd
        rw [List.find?_eq_none] at hd
        have := hd i (List.mem_range.mpr hi)
        intro z
        exact this (by simp [openIf, c1, z])
      have hiff : B (mN m (199 + 4 * i + 2)) = 1 - m (199 + 4 * i + 3) ↔ B (mN m (199 + 4 * i + 2)) ≠ m (199 + 4 * i + 3) := by
        rcases hH (mN m (199 + 4 * i + 2)) with e | e | e
        · rw [e]
          rcases h4 with h | h <;> rw [h] <;> decide
        · rw [e]
          rcases h4 with h | h <;> rw [h] <;> decide
        · exact absurd e hn2
      by_cases c3 : B (mN m (199 + 4 * i + 2)) = 1 - m (199 + 4 * i + 3)
      · rw [am_ift c3, if_pos ⟨c1, hiff.mp c3⟩]
      · rw [am_iff c3, if_neg (fun z => c3 (hiff.mpr z.2))]
    · rw [am_iff c1, if_neg (fun z => c1 z.1)]
  · dsimp only
    unfold b_X12_contradictions_4
    rw [hm, ho.2.2.2.1, am_ift (nI_le (Nat.le_refl _) (by omega))]
