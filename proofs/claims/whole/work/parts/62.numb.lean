/-! reading numbers, in both -/
/-- all but some cells stay -/
def frm (P : Nat → Nat → Prop) (s s2 : am_S) : Prop := (∀ b j, ¬ P b j → s2.1 b j = s.1 b j) ∧ s2.2 = s.2
theorem frm.rf (P : Nat → Nat → Prop) (s : am_S) : frm P s s := ⟨fun _ _ _ => rfl, rfl⟩
theorem frm.tr {P : Nat → Nat → Prop} {s s2 s3 : am_S} (h : frm P s s2) (g : frm P s2 s3) : frm P s s3 := ⟨fun b j hj => (g.1 b j hj).trans (h.1 b j hj), g.2.trans h.2⟩
theorem frm.mo {P Q : Nat → Nat → Prop} {s s2 : am_S} (h : frm P s s2) (g : ∀ b j, P b j → Q b j) : frm Q s s2 := ⟨fun b j hj => h.1 b j (fun z => hj (g b j z)), h.2⟩
theorem frm.i {P : Nat → Nat → Prop} (s : am_S) {a k : Nat} {v : Int32} (h : P a k) : frm P s (as_i s a k v) := ⟨fun b j hj => by rw [rd_i, if_neg]; rintro ⟨rfl, rfl⟩; exact hj h, rfl⟩
theorem frm.ti {P : Nat → Nat → Prop} {s0 s : am_S} (g : frm P s0 s) {a k : Nat} {v : Int32} (h : P a k) : frm P s0 (as_i s a k v) := g.tr (frm.i s h)
theorem frm.row {P : Nat → Nat → Prop} {s s2 : am_S} (h : frm P s s2) {b : Nat} (hb : ∀ j, ¬ P b j) : s2.1 b = s.1 b := funext fun j => h.1 b j (hb j)
def P8 (b j : Nat) : Prop := b = 248 ∧ (j = 8 ∨ j = 9 ∨ j = 10)
def P2 (b j : Nat) : Prop := b = 2 ∧ (j = 4 ∨ j = 5)
theorem tx.f {c : Nat → Int32} {T : Nat} {P : Nat → Nat → Prop} {s s2 : am_S} (h : tx c T s) (g : frm P s s2) (h1 : ¬ P 248 1) (h2 : ∀ j, ¬ P 249 j) : tx c T s2 := h.mv (g.1 _ _ h1) (g.row h2)
theorem tokAt.f {c : Nat → Int32} {T n : Nat} {P : Nat → Nat → Prop} {s s2 : am_S} (h : tokAt c T n s) (g : frm P s s2) (h1 : ¬ P 2 3) (h3 : ∀ j, ¬ P 3 j) (h4 : ∀ j, ¬ P 4 j) (h5 : ∀ j, ¬ P 5 j) : tokAt c T n s2 := by
  refine ⟨(g.1 _ _ h1).trans h.1, fun i hi => ?_⟩
  rw [g.row h3, g.row h4, g.row h5]
  exact h.2 i hi
theorem tokAt.f2 {c : Nat → Int32} {T n : Nat} {s s2 : am_S} (h : tokAt c T n s) (g : frm P2 s s2) : tokAt c T n s2 := h.f g (by unfold P2; omega) (by unfold P2; omega) (by unfold P2; omega) (by unfold P2; omega)
section NB
variable {c : Nat → Int32} {T : Nat}
theorem KD_2 {p : Nat} : KD c T p = 2 ↔ p < T ∧ DI (c p) = true ∧ en c T p ≤ p + 5 := by
  unfold KD
  by_cases h0 : p < T
  · rw [if_pos h0]
    by_cases h1 : LE (c p) = true
    · rw [if_pos h1]
      exact ⟨fun z => by omega, fun z => by rw [LE_DI h1] at z; exact absurd z.2.1 (by decide)⟩
    · rw [if_neg h1]
      by_cases h2 : DI (c p) = true
      · rw [if_pos h2]
        by_cases h3 : en c T p ≤ p + 5
        · rw [if_pos h3]; exact ⟨fun _ => ⟨h0, h2, h3⟩, fun _ => rfl⟩
        · rw [if_neg h3]; exact ⟨fun z => by omega, fun z => absurd z.2.2 h3⟩
      · rw [if_neg h2]
        by_cases h3 : isSg (c p) = true
        · rw [if_pos h3]; exact ⟨fun z => by omega, fun z => absurd z.2.1 h2⟩
        · rw [if_neg h3]; exact ⟨fun z => by omega, fun z => absurd z.2.1 h2⟩
  · rw [if_neg h0]; exact ⟨fun z => by omega, fun z => absurd z.1 h0⟩
theorem KD_3 {p : Nat} : KD c T p = 3 ↔ p < T ∧ DI (c p) = true ∧ ¬ en c T p ≤ p + 5 := by
  unfold KD
  by_cases h0 : p < T
  · rw [if_pos h0]
    by_cases h1 : LE (c p) = true
    · rw [if_pos h1]
      exact ⟨fun z => by omega, fun z => by rw [LE_DI h1] at z; exact absurd z.2.1 (by decide)⟩
    · rw [if_neg h1]
      by_cases h2 : DI (c p) = true
      · rw [if_pos h2]
        by_cases h3 : en c T p ≤ p + 5
        · rw [if_pos h3]; exact ⟨fun z => by omega, fun z => absurd h3 z.2.2⟩
        · rw [if_neg h3]; exact ⟨fun _ => ⟨h0, h2, h3⟩, fun _ => rfl⟩
      · rw [if_neg h2]
        by_cases h3 : isSg (c p) = true
        · rw [if_pos h3]; exact ⟨fun z => by omega, fun z => absurd z.2.1 h2⟩
        · rw [if_neg h3]; exact ⟨fun z => by omega, fun z => absurd z.2.1 h2⟩
  · rw [if_neg h0]; exact ⟨fun z => by omega, fun z => absurd z.1 h0⟩
theorem KD_1 {p : Nat} : KD c T p = 1 ↔ p < T ∧ LE (c p) = true := by
  unfold KD
  by_cases h0 : p < T
  · rw [if_pos h0]
    by_cases h1 : LE (c p) = true
    · rw [if_pos h1]; exact ⟨fun _ => ⟨h0, h1⟩, fun _ => rfl⟩
    · rw [if_neg h1]
      refine ⟨fun z => ?_, fun z => absurd z.2 h1⟩
      split at z
      · split at z <;> omega
      · split at z <;> omega
  · rw [if_neg h0]; exact ⟨fun z => by omega, fun z => absurd z.1 h0⟩
theorem KD_5 {p : Nat} : KD c T p = 5 ↔ p < T ∧ LE (c p) = false ∧ DI (c p) = false ∧ isSg (c p) = false := by
  unfold KD
  by_cases h0 : p < T
  · rw [if_pos h0]
    by_cases h1 : LE (c p) = true
    · rw [if_pos h1]; exact ⟨fun z => by omega, fun z => by rw [h1] at z; exact absurd z.2.1 (by decide)⟩
    · rw [if_neg h1]
      by_cases h2 : DI (c p) = true
      · rw [if_pos h2]
        refine ⟨fun z => ?_, fun z => by rw [h2] at z; exact absurd z.2.2.1 (by decide)⟩
        split at z <;> omega
      · rw [if_neg h2]
        by_cases h3 : isSg (c p) = true
        · rw [if_pos h3]; exact ⟨fun z => by omega, fun z => by rw [h3] at z; exact absurd z.2.2.2 (by decide)⟩
        · rw [if_neg h3]; exact ⟨fun _ => ⟨h0, by simpa using h1, by simpa using h2, by simpa using h3⟩, fun _ => rfl⟩
  · rw [if_neg h0]; exact ⟨fun z => by omega, fun z => absurd z.1 h0⟩
theorem KD_4 {p : Nat} : KD c T p = 4 ↔ p < T ∧ isSg (c p) = true := by
  have sg : isSg (c p) = true → LE (c p) = false ∧ DI (c p) = false := fun h => by
    simp only [isSg, decide_eq_true_eq] at h
    rcases h with z | z | z <;> rw [z] <;> exact ⟨LE_nI (by decide) (by decide), DI_nI (by decide) (by decide)⟩
  unfold KD
  by_cases h0 : p < T
  · rw [if_pos h0]
    by_cases h1 : LE (c p) = true
    · rw [if_pos h1]; exact ⟨fun z => by omega, fun z => by rw [(sg z.2).1] at h1; exact absurd h1 (by decide)⟩
    · rw [if_neg h1]
      by_cases h2 : DI (c p) = true
      · rw [if_pos h2]
        refine ⟨fun z => ?_, fun z => by rw [(sg z.2).2] at h2; exact absurd h2 (by decide)⟩
        split at z <;> omega
      · rw [if_neg h2]
        by_cases h3 : isSg (c p) = true
        · rw [if_pos h3]; exact ⟨fun _ => ⟨h0, h3⟩, fun _ => rfl⟩
        · rw [if_neg h3]; exact ⟨fun z => by omega, fun z => absurd z.2 h3⟩
  · rw [if_neg h0]; exact ⟨fun z => by omega, fun z => absurd z.1 h0⟩
theorem KD_0 {p : Nat} : KD c T p = 0 ↔ ¬ p < T := by
  unfold KD
  by_cases h0 : p < T
  · rw [if_pos h0]
    refine ⟨fun z => ?_, fun z => absurd h0 z⟩
    split at z
    · omega
    · split at z
      · split at z <;> omega
      · split at z <;> omega
  · rw [if_neg h0]; exact ⟨fun _ => h0, fun _ => rfl⟩
theorem KD_le (p : Nat) : KD c T p ≤ 5 := by
  unfold KD
  split
  · split
    · omega
    · split
      · split <;> omega
      · split <;> omega
  · omega
theorem VL_2 {p : Nat} (h : KD c T p = 2) : VL c T p = nI (nv c p (en c T p - p)) := by
  obtain ⟨h0, h1, h2⟩ := KD_2.mp h
  unfold VL
  rw [if_pos h0, if_neg (fun z => by rw [LE_DI z] at h1; exact absurd h1 (by decide)), if_pos h1, if_pos h2]
theorem VL_1 {p : Nat} (h : KD c T p = 1) : VL c T p = wnI (wn c p (en c T p)) := by
  obtain ⟨h0, h1⟩ := KD_1.mp h
  unfold VL
  rw [if_pos h0, if_pos h1]
theorem VL_5 {p : Nat} (h : KD c T p = 5) : VL c T p = c p := by
  obtain ⟨h0, h1, h2, h3⟩ := KD_5.mp h
  unfold VL
  rw [if_pos h0, if_neg (by rw [h1]; decide), if_neg (by rw [h2]; decide), if_neg (by rw [h3]; decide)]
theorem VL_4 {p : Nat} (h : KD c T p = 4) : VL c T p = nI (sgn c T p) := by
  obtain ⟨h0, h3⟩ := KD_4.mp h
  have h1 : ¬ LE (c p) = true := fun z => by rw [KD_1.mpr ⟨h0, z⟩] at h; omega
  have h2 : ¬ DI (c p) = true := fun z => by
    by_cases y : en c T p ≤ p + 5
    · rw [KD_2.mpr ⟨h0, z, y⟩] at h; omega
    · rw [KD_3.mpr ⟨h0, z, y⟩] at h; omega
  unfold VL
  rw [if_pos h0, if_neg h1, if_neg h2, if_pos h3]
theorem nv_ok (hT : T ≤ 400) {p : Nat} (h : KD c T p = 2) : nv c p (en c T p - p) < 100000 := by
  obtain ⟨h0, h1, h2⟩ := KD_2.mp h
  exact nv_le (by omega) (fun q q1 q2 => (en_DI hT h1).1 q q1 (by omega))
/-- a number from lo to hi stands at p -/
abbrev okN (c : Nat → Int32) (T p : Nat) (lo hi : Int32) : Prop := KD c T p = 2 ∧ lo ≤ VL c T p ∧ VL c T p ≤ hi
/-- else the fault is this -/
def nF (c : Nat → Int32) (T p : Nat) : Nat := if KD c T p = 2 ∨ KD c T p = 3 then 8 * p + 2 else 8 * p + 1
theorem flt (p k : Nat) : ((1 : Int32) + nI 8 * nI p) + nI k = nI (8 * p + 1 + k) := by
  rw [pk_mul, show (1 : Int32) = nI 1 from rfl, nI_add, nI_add]
  congr 1
  omega
theorem m_fails0 {s : am_S} {p k : Nat} (h : s.1 248 9 = 0) : f_X12_fails (nI k) (nI p) s = some ((0 : Int32), as_i s 248 9 (nI (8 * p + 1 + k))) := by
  unfold f_X12_fails
  rw [am_ift h, am_ltd, flt]
theorem m_number {s : am_S} {r : Nat} {lo hi : Int32} (h : tx c T s) (hT : T ≤ 400) (hr : r ≤ T) (h8 : s.1 248 8 = nI r) (h9 : s.1 248 9 = 0) : ∃ s2, frm P8 s s2 ∧ ((okN c T (sk c T r) lo hi ∧ f_X12_numberHere lo hi s = some ((1 : Int32), s2) ∧ s2.1 248 8 = nI (en c T (sk c T r)) ∧ s2.1 248 9 = 0 ∧ s2.1 248 10 = VL c T (sk c T r)) ∨ (¬ okN c T (sk c T r) lo hi ∧ f_X12_numberHere lo hi s = some ((0 : Int32), s2) ∧ s2.1 248 9 = nI (nF c T (sk c T r)))) := by
  have e4 : am_F = 4000 := rfl
  have hle := sk_le (c := c) hr
  have p88 : P8 248 8 := ⟨rfl, Or.inl rfl⟩
  have p89 : P8 248 9 := ⟨rfl, Or.inr (Or.inl rfl)⟩
  have p8t : P8 248 10 := ⟨rfl, Or.inr (Or.inr rfl)⟩
  unfold f_X12_numberHere
  rw [m_see h hT hr h8, am_b2s]
  generalize sk c T r = p at *
  rw [as_i3, m_isDigit (h.i 248 8 _ (by decide)) hT (by omega), am_bds]
  have x9 : ∀ v, (as_i s 248 8 v).1 248 9 = 0 := fun v => by rw [as_i2 (by decide)]; exact h9
  by_cases cd : p < T ∧ DI (c p) = true
  · rw [am_b1 cd, am_ltd]
    have eg := en_gt (c := c) (T := T) p
    have el := en_le (c := c) cd.1
    obtain ⟨d1, d2⟩ := en_DI hT cd.2
    have run : ∀ e, j_X12_numberHere_88 lo hi (nI p) (nI (nv c p (min (en c T p - p) 5))) (as_i s 248 8 (nI (en c T p))) = some e → am_lp (fun (q : Int32 × am_S) => b_X12_numberHere_34 lo hi (nI p) q.1 q.2) am_F ((0 : Int32), as_i s 248 8 (nI p)) = some e := by
      intro e hj
      have := am_lp_run (body := fun (q : Int32 × am_S) => b_X12_numberHere_34 lo hi (nI p) q.1 q.2) (fun i => (nI (nv c p (min i 5)), as_i s 248 8 (nI (p + i)))) (en c T p - p) (e := e) (fun i hi => by
        dsimp only
        unfold b_X12_numberHere_34 j_X12_numberHere_75
        have a1 := d1 (p + i) (by omega) (by omega)
        have es : nI (p + i) - nI p = nI i := by rw [← nI_add, Int32.add_comm, Int32.add_sub_cancel]
        rw [as_i3, m_isDigit (h.i 248 8 _ (by decide)) hT (by omega), am_bds, am_b1 ⟨by omega, a1⟩, es]
        by_cases z : 5 ≤ i
        · rw [am_ift (nI_le z (by omega)), am_ltd, as_ii, nI_1, Nat.min_eq_right z, Nat.min_eq_right (by omega), Nat.add_assoc]
        · obtain ⟨j, j1, j2, j3⟩ := DI_of a1
          rw [am_iff (nI_ge (by omega) (by decide)), am_ltd, gd_nI (by omega) (by decide), cL (by omega), (h.i 248 8 _ (by decide)).2 _ (by omega), am_ltd, am_ltd, as_ii, nI_1, Nat.min_eq_left (by omega), Nat.min_eq_left (by omega), nv, j3, cL (by omega), pk_mul, nI_add, Nat.add_assoc]
          congr 3
          obtain ⟨d, rfl⟩ : ∃ d, j = d + 48 := ⟨j - 48, by omega⟩
          rw [Nat.add_sub_cancel, ← Nat.add_assoc, ← nI_add, Int32.add_sub_cancel]) (by
        dsimp only
        unfold b_X12_numberHere_34
        rw [show p + (en c T p - p) = en c T p by omega, as_i3, m_isDigit (h.i 248 8 _ (by decide)) hT (by omega), am_bds, am_b0 (fun z => by rw [d2 z.1] at z; exact absurd z.2 (by decide)), hj, am_bds]) (F := am_F) (by omega)
      exact this
    have es : nI (en c T p) - nI p = nI (en c T p - p) := by
      obtain ⟨d, hd⟩ : ∃ d, en c T p = d + p := ⟨en c T p - p, by omega⟩
      rw [hd, Nat.add_sub_cancel, ← nI_add, Int32.add_sub_cancel]
    have y9 : ∀ v w, (as_i (as_i s 248 8 v) 248 10 w).1 248 9 = 0 := fun v w => by rw [as_i2 (by decide)]; exact x9 v
    have fl := fun v w => m_fails0 (p := p) (k := 1) (y9 v w)
    rw [show (nI 1 : Int32) = (1 : Int32) from rfl] at fl
    by_cases c5 : en c T p ≤ p + 5
    · have k2 : KD c T p = 2 := KD_2.mpr ⟨cd.1, cd.2, c5⟩
      by_cases ci : lo ≤ VL c T p ∧ VL c T p ≤ hi
      · refine ⟨as_i (as_i s 248 8 (nI (en c T p))) 248 10 (VL c T p), (frm.i s p88).ti p8t, Or.inl ⟨⟨k2, ci⟩, run _ ?_, ?_, y9 _ _, as_i3⟩⟩
        · unfold j_X12_numberHere_88 j_X12_numberHere_117
          rw [am_ltd, as_i2 (by decide : (8 : Nat) ≠ 10), as_i3, es, m_in, am_bds, am_iff (by rw [nI_ltI (by decide) (by omega)]; omega), Nat.min_eq_left (by omega), ← VL_2 k2, am_b1 ci]
        · rw [as_i2 (by decide), as_i3]
      · refine ⟨as_i (as_i (as_i s 248 8 (nI (en c T p))) 248 10 (VL c T p)) 248 9 (nI (8 * p + 1 + 1)), ((frm.i s p88).ti p8t).ti p89, Or.inr ⟨fun z => ci z.2, run _ ?_, ?_⟩⟩
        · unfold j_X12_numberHere_88 j_X12_numberHere_117
          rw [am_ltd, as_i2 (by decide : (8 : Nat) ≠ 10), as_i3, es, m_in, am_bds, am_iff (by rw [nI_ltI (by decide) (by omega)]; omega), Nat.min_eq_left (by omega), ← VL_2 k2, am_b0 ci, fl, am_b2s, am_ift rfl]
        · rw [as_i3]; unfold nF; rw [if_pos (Or.inl k2)]
    · have k3 : KD c T p = 3 := KD_3.mpr ⟨cd.1, cd.2, c5⟩
      refine ⟨as_i (as_i (as_i s 248 8 (nI (en c T p))) 248 10 (nI (nv c p (min (en c T p - p) 5)))) 248 9 (nI (8 * p + 1 + 1)), ((frm.i s p88).ti p8t).ti p89, Or.inr ⟨fun z => by have := z.1; omega, run _ ?_, ?_⟩⟩
      · unfold j_X12_numberHere_88 j_X12_numberHere_117
        rw [am_ltd, as_i2 (by decide : (8 : Nat) ≠ 10), as_i3, es, m_in, am_bds, am_ift (by rw [nI_ltI (by decide) (by omega)]; omega), fl, am_b2s, am_ift rfl]
      · rw [as_i3]; unfold nF; rw [if_pos (Or.inr k3)]
  · have n23 : ¬ (KD c T p = 2 ∨ KD c T p = 3) := fun z => by
      rcases z with z | z
      · exact cd ⟨(KD_2.mp z).1, (KD_2.mp z).2.1⟩
      · exact cd ⟨(KD_3.mp z).1, (KD_3.mp z).2.1⟩
    have fl := m_fails0 (p := p) (k := 0) (x9 (nI p))
    rw [show (nI 0 : Int32) = (0 : Int32) from rfl] at fl
    rw [am_b0 cd, fl, am_b2s, am_gdt (Or.inl rfl)]
    refine ⟨_, (frm.i s p88).ti p89, Or.inr ⟨fun z => n23 (Or.inl z.1), rfl, ?_⟩⟩
    rw [as_i3]; unfold nF; rw [if_neg n23]
end NB
