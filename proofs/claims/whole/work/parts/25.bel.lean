/-! reckoning with small numbers -/
theorem aL3 (a : Nat) : 1 + nI a = nI (1 + a) := nI_add 1 a
theorem gd_nI {α : Type} {n b : Nat} {X : Option α} (h : n < b) (hb : b < 2 ^ 31) : am_gd (¬ nI n < 0 ∧ (nI n).toNatClampNeg < b) X = X := am_gdt ⟨nI_pos (by omega), by rw [nI_clamp (by omega)]; exact h⟩
theorem gd2 {α : Type} {n b : Nat} {X : Option α} {inst : Decidable (¬ nI n < 0 ∧ n < b)} (h : n < b) (hb : b < 2 ^ 31) : @am_gd α (¬ nI n < 0 ∧ n < b) inst X = X := am_gdt ⟨nI_pos (by omega), h⟩
theorem cL {n : Nat} (h : n < 2 ^ 31) : (nI n).toNatClampNeg = n := nI_clamp h
theorem as_iw (s : am_S) (a : Nat) (g : Nat → Int32) (k : Nat) (v : Int32) : as_i (as_w s a g) a k v = as_w s a (upd g k v) := by
  unfold as_i as_w
  congr 1
  funext x j
  by_cases h : x = a
  · subst h
    by_cases h2 : j = k <;> simp [am_up, am_rw, upd, h2]
  · simp [am_up, am_rw, h]
theorem as_w_self (s : am_S) (a : Nat) : as_w s a (s.1 a) = s := by
  unfold as_w
  have : am_rw s.1 a (s.1 a) = s.1 := by
    funext x
    by_cases h : x = a
    · subst h; simp [am_rw]
    · simp [am_rw, h]
  rw [this]
theorem as_i_eq_w (s : am_S) (a k : Nat) (v : Int32) : as_i s a k v = as_w s a (upd (s.1 a) k v) := by
  rw [← as_iw, as_w_self]
theorem isN.e {m : Nat → Int32} {j b : Nat} (h : isN m j b) : m j = nI (mN m j) := h.1
theorem upd_s {f : Nat → Int32} {k : Nat} {v : Int32} : upd f k v k = v := pk_us
theorem upd_n {f : Nat → Int32} {k j : Nat} {v : Int32} (h : j ≠ k) : upd f k v j = f j := pk_un h
/-! how many facts nothing is believed of -/
def c2 : Nat → (Nat → Int32) → Nat
  | 0, _ => 0
  | n + 1, B => c2 n B + (if B n = nI 2 then 1 else 0)
theorem c2_le (B : Nat → Int32) : ∀ n, c2 n B ≤ n
  | 0 => Nat.le_refl _
  | n + 1 => by
    have := c2_le B n
    unfold c2
    split <;> omega
theorem c2_congr {B B2 : Nat → Int32} : ∀ n, (∀ j, j < n → B j = B2 j) → c2 n B = c2 n B2
  | 0, _ => rfl
  | n + 1, h => by
    unfold c2
    rw [c2_congr n (fun j hj => h j (by omega)), h n (by omega)]
theorem c2_upd {B : Nat → Int32} {g : Nat} {v : Int32} (hg : B g = nI 2) (hv : v ≠ nI 2) : ∀ n, g < n → c2 n (upd B g v) + 1 = c2 n B
  | 0, h => by omega
  | n + 1, h => by
    unfold c2
    by_cases e : g = n
    · subst e
      rw [upd_s, if_neg hv, if_pos hg, c2_congr g (fun j hj => upd_n (by omega))]
    · rw [upd_n (Ne.symm e)]
      have := c2_upd hg hv n (by omega)
      omega
/-- ifs are of the facts there are -/
def okIf (m : Nat → Int32) : Prop := mF m ≤ 8 ∧ mI m ≤ 10 ∧ m 0 = nI (mF m) ∧ m 4 = nI (mI m) ∧ ∀ i, i < mI m → isN m (199 + 4 * i) (mF m) ∧ isZ (m (199 + 4 * i + 1)) ∧ isN m (199 + 4 * i + 2) (mF m) ∧ isZ (m (199 + 4 * i + 3))
theorem wfT.okIf {m : Nat → Int32} (h : wfT m) : okIf m := ⟨by have := h.1.2; unfold mF; omega, by have := h.2.2.2.2.1.2; unfold mI; omega, h.1.1, h.2.2.2.2.1.1, h.2.2.2.2.2.2.2.2.2.2.1⟩
theorem firstIf_none {m b : Nat → Int32} (h : ∀ i, i < mI m → openIf m b i = false) : firstIf m b = none := by
  unfold firstIf
  rw [List.find?_eq_none]
  intro i hi
  rw [h i (List.mem_range.mp hi)]
  decide
theorem firstIf_some {m b : Nat → Int32} {i : Nat} (hi : i < mI m) (h : openIf m b i = true) (h2 : ∀ j, j < i → openIf m b j = false) : firstIf m b = some i := by
  unfold firstIf
  rw [List.find?_range_eq_some]
  exact ⟨h, List.mem_range.mpr hi, fun j hj => by rw [h2 j hj]; rfl⟩
theorem openIf_congr {m b b2 : Nat → Int32} (ho : okIf m) (hb : ∀ f, f < mF m → b f = b2 f) {i : Nat} (hi : i < mI m) : openIf m b i = openIf m b2 i := by
  obtain ⟨h1, -, h3, -⟩ := ho.2.2.2.2 i hi
  unfold openIf
  rw [hb _ h1.2, hb _ h3.2]
/-- the reference: is an if open -/
theorem m_isIfOpen {m : Nat → Int32} {s : am_S} {i : Nat} (hm : s.1 258 = m) (ho : okIf m) (hi : i < mI m) : f_X12_isIfOpen (nI i) s = some (b01 (openIf m (s.1 259) i = true)) := by
  obtain ⟨h1, h2, h3, h4⟩ := ho.2.2.2.2 i hi
  have hF := ho.1
  have hI := ho.2.1
  have l1 := h1.2
  have l3 := h3.2
  unfold f_X12_isIfOpen
  simp (disch := omega) only [am_ltd, pk_mul, nI_add, nI_1, gd2, cL, hm]
  rw [h1.e, h3.e]
  simp (disch := omega) only [gd2, cL]
  by_cases c1 : s.1 259 (mN m (199 + 4 * i)) = m (199 + 4 * i + 1)
  · rw [am_ift c1]
    by_cases c3 : s.1 259 (mN m (199 + 4 * i + 2)) = nI 2
    · rw [am_ift c3, b01_t (by simp [openIf, c1, c3])]
    · rw [am_iff c3, b01_f (by simp [openIf, c3])]
  · rw [am_iff c1, b01_f (by simp [openIf, c1])]
theorem m_holdOf {s : am_S} {p f : Nat} (hp : p < 7) (hf : f < 8) : f_X12_holdOf (nI p) (nI f) s = some (s.1 258 (11 + 16 * p + 2 * f)) := by
  unfold f_X12_holdOf
  simp (disch := omega) only [am_ltd, pk_mul, nI_add, nI_1, gd2, cL]
theorem m_strengthOf {s : am_S} {p f : Nat} (hp : p < 7) (hf : f < 8) : f_X12_strengthOf (nI p) (nI f) s = some (s.1 258 (11 + 16 * p + 2 * f + 1)) := by
  unfold f_X12_strengthOf
  simp (disch := omega) only [am_ltd, pk_mul, nI_add, nI_1, gd2, cL]
/-- the reference's own round of beliefs -/
theorem m_bel2 {m : Nat → Int32} {s : am_S} (hm : s.1 258 = m) (ho : okIf m) {B0 : Nat → Int32} {n0 : Nat} (hn : c2 (mF m) B0 ≤ n0) : ∃ B, j_X12_believes_30 (as_w s 259 B0) = some (as_w s 259 B) ∧ ∀ b, (∀ f, f < mF m → b f = B0 f) → ∀ f, f < mF m → B f = folN m n0 b f := by
  unfold j_X12_believes_30
  have hF := ho.1
  have hI := ho.2.1
  have key := am_lp_inv (body := fun (q : Int32 × am_S) => b_X12_believes_32 q.1 q.2)
    (fun q => ∃ j B n, j ≤ mI m ∧ q = (nI j, as_w s 259 B) ∧ c2 (mF m) B ≤ n ∧ (∀ i, i < j → openIf m B i = false) ∧ ∀ b, (∀ f, f < mF m → b f = B0 f) → ∃ b2, (∀ f, f < mF m → b2 f = B f) ∧ folN m n0 b = folN m n b2)
    (fun e => ∃ B, e = as_w s 259 B ∧ ∀ b, (∀ f, f < mF m → b f = B0 f) → ∀ f, f < mF m → B f = folN m n0 b f)
    (fun q => c2 (mF m) (q.2.1 259) * 11 + (10 - q.1.toNatClampNeg)) ?_ am_F ((0 : Int32), as_w s 259 B0) ⟨0, B0, n0, Nat.zero_le _, rfl, hn, fun i hi => by omega, fun b hb => ⟨b, hb, rfl⟩⟩ ?_
  · obtain ⟨e, h1, B, rfl, h2⟩ := key
    exact ⟨B, h1, h2⟩
  · rintro q ⟨j, B, n, hj, rfl, hc, hop, hfo⟩
    have hm2 : (as_w s 259 B).1 258 = m := by rw [as_w1 (by decide)]; exact hm
    have h259 : (as_w s 259 B).1 259 = B := as_w3
    dsimp only
    by_cases hjI : mI m ≤ j
    · right
      refine ⟨as_w s 259 B, ?_, B, rfl, fun b hb f hf => ?_⟩
      · unfold b_X12_believes_32
        rw [hm2, am_ift]
        rw [ho.2.2.2.1]
        exact nI_le hjI (by omega)
      · obtain ⟨b2, hb2, e⟩ := hfo b hb
        have hnone : firstIf m b2 = none := firstIf_none (fun i hi => by rw [openIf_congr ho hb2 hi]; exact hop i (by omega))
        have : folN m n b2 = b2 := by
          cases n with
          | zero => rfl
          | succ n => unfold folN; rw [hnone]
        rw [e, this, hb2 f hf]
    · left
      have hj' : j < mI m := by omega
      obtain ⟨g1, g2, g3, g4⟩ := ho.2.2.2.2 j hj'
      have l3 := g3.2
      have e4 : ¬ m 4 ≤ nI j := by
        rw [ho.2.2.2.1]
        exact nI_ge hj' (by omega)
      by_cases hopen : openIf m B j = true
      · have hB2 : B (mN m (199 + 4 * j + 2)) = nI 2 := by
          simp [openIf] at hopen
          exact hopen.2
        have hv : m (199 + 4 * j + 3) ≠ nI 2 := by
          rcases g4 with h | h <;> rw [h] <;> decide
        have hcu := c2_upd hB2 hv (mF m) l3
        refine ⟨(0, as_w s 259 (upd B (mN m (199 + 4 * j + 2)) (m (199 + 4 * j + 3)))), ?_, ⟨0, _, n - 1, Nat.zero_le _, rfl, by omega, fun i hi => by omega, fun b hb => ?_⟩, ?_⟩
        · unfold b_X12_believes_32
          rw [hm2, am_iff e4, m_isIfOpen hm2 ho hj', am_bds, h259, am_iff (by rw [b01_eq0]; exact fun z => z hopen)]
          simp (disch := omega) only [am_ltd, pk_mul, nI_add, nI_1, gd2, cL]
          rw [g3.e]
          simp (disch := omega) only [gd2, cL]
          rw [as_iw]
        · obtain ⟨b2, hb2, e⟩ := hfo b hb
          refine ⟨upd b2 (mN m (199 + 4 * j + 2)) (m (199 + 4 * j + 3)), fun f hf => ?_, ?_⟩
          · by_cases h : f = mN m (199 + 4 * j + 2)
            · rw [h, upd_s, upd_s]
            · rw [upd_n h, upd_n h, hb2 f hf]
          · rw [e]
            obtain ⟨n', rfl⟩ : ∃ n', n = n' + 1 := ⟨n - 1, by omega⟩
            rw [folN, firstIf_some hj' (by rw [openIf_congr ho hb2 hj']; exact hopen) (fun i hi => by rw [openIf_congr ho hb2 (by omega)]; exact hop i hi)]
            rfl
        · show c2 (mF m) ((as_w s 259 _).1 259) * 11 + (10 - (0 : Int32).toNatClampNeg) < c2 (mF m) ((as_w s 259 B).1 259) * 11 + (10 - (nI j).toNatClampNeg)
          rw [as_w3, as_w3, cL (by omega), show (0 : Int32).toNatClampNeg = 0 from rfl]
          omega
      · have hopen : openIf m B j = false := by simpa using hopen
        refine ⟨(nI (j + 1), as_w s 259 B), ?_, ⟨j + 1, B, n, by omega, rfl, hc, fun i hi => ?_, hfo⟩, ?_⟩
        · unfold b_X12_believes_32
          rw [hm2, am_iff e4, m_isIfOpen hm2 ho hj', am_bds, h259, am_ift (by rw [b01_eq0, hopen]; decide)]
          simp only [am_ltd, nI_1]
        · by_cases h : i = j
          · rw [h]; exact hopen
          · exact hop i (by omega)
        · show c2 (mF m) ((as_w s 259 B).1 259) * 11 + (10 - (nI (j + 1)).toNatClampNeg) < c2 (mF m) ((as_w s 259 B).1 259) * 11 + (10 - (nI j).toNatClampNeg)
          rw [cL (by omega), cL (by omega)]
          omega
  · show c2 (mF m) ((as_w s 259 B0).1 259) * 11 + (10 - (0 : Int32).toNatClampNeg) < am_F
    have := c2_le ((as_w s 259 B0).1 259) (mF m)
    have e : am_F = 4000 := rfl
    omega
