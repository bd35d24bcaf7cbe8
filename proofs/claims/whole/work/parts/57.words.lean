/-! words of a text -/
theorem am_lp_skip {σ ε : Type} {body : σ → Option (σ ⊕ ε)} (f : Nat → σ) (m : Nat) (hs : ∀ i, i < m → body (f i) = some (.inl (f (i + 1)))) (F : Nat) : am_lp body (F + m) (f 0) = am_lp body F (f m) := by
  have key : ∀ d i, i + d = m → am_lp body (F + d) (f i) = am_lp body F (f m) := by
    intro d
    induction d with
    | zero => intro i hi; rw [show i = m by omega]; rfl
    | succ d ih =>
      intro i hi
      rw [show F + (d + 1) = (F + d) + 1 by omega, am_lp_inl (hs i (by omega)), ih (i + 1) (by omega)]
  exact key m 0 (by omega)
section TZ
variable {c : Nat → Int32} {T : Nat}
theorem en_LE (hT : T ≤ 400) {p : Nat} (h : LE (c p) = true) : (∀ q, p ≤ q → q < en c T p → LE (c q) = true) ∧ (en c T p < T → LE (c (en c T p)) = false) := by
  have key : ∀ q, p ≤ q → q < en c T p → LE (c q) = true := by
    intro q
    induction q with
    | zero => intro h1 _; rw [show 0 = p by omega]; exact h
    | succ q ih =>
      intro h1 h2
      by_cases e : q + 1 = p
      · rw [e]; exact h
      · have a := ih (by omega) (by omega)
        have b := (en_go (by omega : p < q + 1) h2).2
        rw [show q + 1 - 1 = q by omega, gO_LE a] at b
        exact b
  refine ⟨key, fun hl => ?_⟩
  have g := en_gt (c := c) (T := T) p
  have := en_no hT p hl
  rw [gO_LE (key (en c T p - 1) (by omega) (by omega))] at this
  exact this
theorem en_DI (hT : T ≤ 400) {p : Nat} (h : DI (c p) = true) : (∀ q, p ≤ q → q < en c T p → DI (c q) = true) ∧ (en c T p < T → DI (c (en c T p)) = false) := by
  have key : ∀ q, p ≤ q → q < en c T p → DI (c q) = true := by
    intro q
    induction q with
    | zero => intro h1 _; rw [show 0 = p by omega]; exact h
    | succ q ih =>
      intro h1 h2
      by_cases e : q + 1 = p
      · rw [e]; exact h
      · have a := ih (by omega) (by omega)
        have b := (en_go (by omega : p < q + 1) h2).2
        rw [show q + 1 - 1 = q by omega, gO_DI a] at b
        exact b
  refine ⟨key, fun hl => ?_⟩
  have g := en_gt (c := c) (T := T) p
  have := en_no hT p hl
  rw [gO_DI (key (en c T p - 1) (by omega) (by omega))] at this
  exact this
/-- a byte that is neither letter nor digit -/
theorem en_oth (hT : T ≤ 400) {p : Nat} (hp : p < T) (h1 : LE (c p) = false) (h2 : DI (c p) = false) : en c T p = if p + 1 < T ∧ c (p + 1) = nI 61 ∧ (c p = nI 60 ∨ c p = nI 62) then p + 2 else p + 1 := by
  have g0 : ∀ h, gO (c p) h = (decide (h = nI 61) && (decide (c p = nI 60) || decide (c p = nI 62))) := fun h => gO_no h1 h2
  have B := goP_B (c := c) (T := T)
  by_cases cc : p + 1 < T ∧ c (p + 1) = nI 61 ∧ (c p = nI 60 ∨ c p = nI 62)
  · rw [if_pos cc]
    refine wh_eq B (by omega) (by omega) (fun r r1 r2 => ?_) ?_
    · have : r = p + 1 := by omega
      subst this
      unfold goP
      rw [decide_eq_true cc.1, Nat.add_sub_cancel, g0, cc.2.1]
      rcases cc.2.2 with z | z <;> simp [z]
    · unfold goP
      rw [show p + 2 - 1 = p + 1 by omega, cc.2.1, gO_no (LE_nI (by decide) (by decide)) (DI_nI (by decide) (by decide))]
      rw [show decide (nI 61 = nI 60) = false by decide, show decide (nI 61 = nI 62) = false by decide]
      simp
  · rw [if_neg cc]
    refine wh_here ?_
    unfold goP
    rw [Nat.add_sub_cancel, g0]
    by_cases z1 : p + 1 < T
    · by_cases z2 : c (p + 1) = nI 61
      · have z3 : ¬ (c p = nI 60 ∨ c p = nI 62) := fun z => cc ⟨z1, z2, z⟩
        have z4 : ¬ c p = nI 60 := fun z => z3 (Or.inl z)
        have z5 : ¬ c p = nI 62 := fun z => z3 (Or.inr z)
        simp [z4, z5]
      · simp [z2]
    · simp [z1]
end TZ
def wO : List Nat := [0, 6, 13, 19, 26, 29, 34, 40, 48, 52, 56, 59, 63, 67, 74, 81, 86, 91, 94, 100, 106, 111, 118, 123, 127]
def wL : List Nat := [5, 6, 5, 6, 2, 4, 5, 7, 3, 3, 2, 3, 3, 6, 6, 4, 4, 2, 5, 5, 4, 6, 4, 3]
def wC (k j : Nat) : Int32 := am_wd.getD (wO.getD k 0 + j) 0
theorem wtab : ∀ k, k < 24 → wO.getD k 0 + wL.getD k 0 < 127 ∧ wC k (wL.getD k 0) = nI 32 ∧ (∀ j, j < wL.getD k 0 → wC k j ≠ nI 32 ∧ LE (wC k j) = true) ∧ wO.getD (k + 1) 0 = wO.getD k 0 + wL.getD k 0 + 1 ∧ wL.getD k 0 < 8 ∧ 0 < wL.getD k 0 := by decide +kernel
/-- the bytes from p to e are word k -/
def mtw (c : Nat → Int32) (p e k : Nat) : Bool := decide (e = p + wL.getD k 0) && (List.range (wL.getD k 0)).all (fun j => decide (c (p + j) = wC k j))
theorem mtw_iff {c : Nat → Int32} {p e k : Nat} : mtw c p e k = true ↔ e = p + wL.getD k 0 ∧ ∀ j, j < wL.getD k 0 → c (p + j) = wC k j := by
  unfold mtw
  rw [Bool.and_eq_true, decide_eq_true_eq, List.all_eq_true]
  constructor
  · rintro ⟨h1, h2⟩
    exact ⟨h1, fun j hj => by simpa using h2 j (List.mem_range.mpr hj)⟩
  · rintro ⟨h1, h2⟩
    exact ⟨h1, fun j hj => by simpa using h2 j (List.mem_range.mp hj)⟩
def wn (c : Nat → Int32) (p e : Nat) : Nat := ((List.range 24).find? (mtw c p e)).getD 24
def wnI (w : Nat) : Int32 := if w < 24 then nI w else -1
theorem wdist : ∀ k, k < 24 → ∀ q, q < 24 → wL.getD k 0 = wL.getD q 0 → (∀ j, j < wL.getD k 0 → wC k j = wC q j) → k = q := by decide +kernel
theorem wn_iff {c : Nat → Int32} {p e k : Nat} (hk : k < 24) : wn c p e = k ↔ mtw c p e k = true := by
  unfold wn
  cases hf : (List.range 24).find? (mtw c p e) with
  | none =>
    rw [List.find?_eq_none] at hf
    have := hf k (List.mem_range.mpr hk)
    show 24 = k ↔ _
    exact ⟨fun z => by omega, fun z => absurd z this⟩
  | some q =>
    rw [List.find?_range_eq_some] at hf
    have hq := List.mem_range.mp hf.2.1
    show q = k ↔ _
    refine ⟨fun z => by rw [← z]; exact hf.1, fun z => ?_⟩
    obtain ⟨a1, a2⟩ := mtw_iff.mp hf.1
    obtain ⟨b1, b2⟩ := mtw_iff.mp z
    exact wdist q hq k hk (by omega) (fun j hj => by rw [← a2 j hj, b2 j (by omega)])
theorem wn_le (c : Nat → Int32) (p e : Nat) : wn c p e ≤ 24 := by
  unfold wn
  cases hf : (List.range 24).find? (mtw c p e) with
  | none => exact Nat.le_refl _
  | some q =>
    rw [List.find?_range_eq_some] at hf
    have hq := List.mem_range.mp hf.2.1
    show q ≤ 24
    omega
theorem wn_none {c : Nat → Int32} {p e : Nat} (h : ∀ k, k < 24 → mtw c p e k = false) : wn c p e = 24 := by
  unfold wn
  have : (List.range 24).find? (mtw c p e) = none := by
    rw [List.find?_eq_none]
    intro k hk
    rw [h k (List.mem_range.mp hk)]
    decide
  rw [this]
  rfl
def smB (c : Nat → Int32) (p e k j : Nat) : Bool := (List.range j).all (fun i => decide (p + i < e ∧ c (p + i) = wC k i))
theorem smB_iff {c : Nat → Int32} {p e k j : Nat} : smB c p e k j = true ↔ ∀ i, i < j → p + i < e ∧ c (p + i) = wC k i := by
  unfold smB
  rw [List.all_eq_true]
  exact ⟨fun h i hi => by simpa using h i (List.mem_range.mpr hi), fun h i hi => by simpa using h i (List.mem_range.mp hi)⟩
theorem c_wordNumber {c : Nat → Int32} {T p e : Nat} {s : am_S} (hc : ∀ j, j < T → s.1 1 j = c j) (hT : T ≤ 400) (he : e ≤ T) (hp : p ≤ e) : f_X7_wordNumber (nI p) (nI e) s = some (wnI (wn c p e)) := by
  have e4 : am_F = 4000 := rfl
  have seg : ∀ k, k < 24 → ∀ F, am_lp (fun (q : Int32 × Int32 × Int32 × Int32) => b_X7_wordNumber_11 (nI p) (nI e) s q.1 q.2.1 q.2.2.1 q.2.2.2) (F + 1 + wL.getD k 0) (nI k, nI p, 1, nI (wO.getD k 0)) = if mtw c p e k = true then some (nI k) else am_lp (fun (q : Int32 × Int32 × Int32 × Int32) => b_X7_wordNumber_11 (nI p) (nI e) s q.1 q.2.1 q.2.2.1 q.2.2.2) F (nI (k + 1), nI p, 1, nI (wO.getD (k + 1) 0)) := by
    intro k hk F
    obtain ⟨t1, t2, t3, t4, t5, t6⟩ := wtab k hk
    have e0 : ((nI k, nI p, 1, nI (wO.getD k 0)) : Int32 × Int32 × Int32 × Int32) = (nI k, nI (p + 0), b01 (smB c p e k 0 = true), nI (wO.getD k 0 + 0)) := by
      rw [b01_t (smB_iff.mpr (fun i hi => by omega))]
      rfl
    rw [e0, am_lp_skip (fun j => (nI k, nI (p + j), b01 (smB c p e k j = true), nI (wO.getD k 0 + j))) (wL.getD k 0) (fun j hj => ?_) (F + 1)]
    · have hlast : (fun (q : Int32 × Int32 × Int32 × Int32) => b_X7_wordNumber_11 (nI p) (nI e) s q.1 q.2.1 q.2.2.1 q.2.2.2) (nI k, nI (p + wL.getD k 0), b01 (smB c p e k (wL.getD k 0) = true), nI (wO.getD k 0 + wL.getD k 0)) = if mtw c p e k = true then some (.inr (nI k)) else some (.inl (nI (k + 1), nI p, 1, nI (wO.getD (k + 1) 0))) := by
        dsimp only
        unfold b_X7_wordNumber_11 j_X7_wordNumber_83
        rw [am_iff (nI_ge t1 (by decide)), gd_nI t1 (by decide), cL (by omega), am_ltd, show am_wd.getD (wO.getD k 0 + wL.getD k 0) 0 = wC k (wL.getD k 0) from rfl, am_ift t2, am_ltd, nI_1, am_ltd, nI_1, t4]
        by_cases cm : mtw c p e k = true
        · obtain ⟨m1, m2⟩ := mtw_iff.mp cm
          rw [am_b1 (smB_iff.mpr (fun i hi => ⟨by omega, m2 i hi⟩)), am_ift (by rw [m1]), if_pos cm]
        · rw [if_neg cm]
          by_cases cs : smB c p e k (wL.getD k 0) = true
          · rw [am_b1 cs, am_iff]
            rw [nI_eq (by omega) (by omega)]
            exact fun z => cm (mtw_iff.mpr ⟨z.symm, fun j hj => (smB_iff.mp cs j hj).2⟩)
          · rw [am_b0 cs]
      by_cases cm : mtw c p e k = true
      · rw [if_pos cm] at hlast ⊢
        exact am_lp_inr hlast
      · rw [if_neg cm] at hlast ⊢
        exact am_lp_inl hlast
    · obtain ⟨n1, n2⟩ := t3 j hj
      dsimp only
      unfold b_X7_wordNumber_11 j_X7_wordNumber_61
      rw [am_iff (nI_ge (by omega) (by decide)), gd_nI (by omega) (by decide), cL (by omega), am_ltd, show am_wd.getD (wO.getD k 0 + j) 0 = wC k j from rfl, am_iff n1, am_ltd, nI_1, am_ltd, nI_1]
      have e1 : p + (j + 1) = p + j + 1 := by omega
      have e2 : wO.getD k 0 + (j + 1) = wO.getD k 0 + j + 1 := by omega
      rw [e1, e2]
      by_cases cs : smB c p e k j = true
      · rw [am_b1 cs]
        by_cases cl : p + j < e
        · rw [am_iff (nI_ge cl (by omega)), gd_nI (by omega) (by decide), cL (by omega), hc _ (by omega), am_ltd, am_ltd]
          by_cases cb : c (p + j) = wC k j
          · rw [am_ift cb, b01_t (smB_iff.mpr (fun i hi => by
              by_cases ei : i = j
              · subst ei; exact ⟨cl, cb⟩
              · exact smB_iff.mp cs i (by omega)))]
          · rw [am_iff cb, b01_f (fun z => cb (smB_iff.mp z j (by omega)).2)]
        · rw [am_ift (nI_le (by omega) (by omega)), b01_f (fun z => cl (smB_iff.mp z j (by omega)).1)]
      · rw [am_b0 cs, b01_f (fun z => cs (smB_iff.mpr (fun i hi => smB_iff.mp z i (by omega))))]
  have main : ∀ d k F, k + d = 24 → 127 - wO.getD k 0 < F → (∀ q, q < k → mtw c p e q = false) → am_lp (fun (q : Int32 × Int32 × Int32 × Int32) => b_X7_wordNumber_11 (nI p) (nI e) s q.1 q.2.1 q.2.2.1 q.2.2.2) F (nI k, nI p, 1, nI (wO.getD k 0)) = some (wnI (wn c p e)) := by
    intro d
    induction d with
    | zero =>
      intro k F hk hF hno
      obtain ⟨F', rfl⟩ : ∃ F', F = F' + 1 := ⟨F - 1, by omega⟩
      have : k = 24 := by omega
      subst this
      rw [wn_none hno]
      refine am_lp_inr ?_
      dsimp only
      unfold b_X7_wordNumber_11
      rw [am_ift (by decide)]
      rfl
    | succ d ih =>
      intro k F hk hF hno
      obtain ⟨t1, t2, t3, t4, t5, t6⟩ := wtab k (by omega)
      obtain ⟨F', rfl⟩ : ∃ F', F = F' + 1 + wL.getD k 0 := ⟨F - 1 - wL.getD k 0, by omega⟩
      rw [seg k (by omega) F']
      by_cases cm : mtw c p e k = true
      · rw [if_pos cm, (wn_iff (by omega)).mpr cm]
        unfold wnI
        rw [if_pos (by omega)]
      · rw [if_neg cm]
        refine ih (k + 1) F' (by omega) (by omega) (fun q hq => ?_)
        by_cases eq : q = k
        · subst eq; simpa using cm
        · exact hno q (by omega)
  exact main 24 0 am_F (by omega) (by rw [e4]; decide) (fun q hq => by omega)
