/-! sets: how many; tellers -/
def pc (n : Nat) : Nat := match f_X12_bits (nI n) with
  | some v => v.toNatClampNeg
  | none => 0
theorem pc_ok : ∀ n, n < 1024 → f_X12_bits (nI n) = some (nI (pc n)) ∧ f_J6_bitCount_0f7a4 (nI n) = some (nI (pc n)) ∧ pc n ≤ 10 := by decide +kernel
theorem pc_7 : ∀ n, n < 128 → pc n ≤ 7 := by decide +kernel
/-- the first of the fewest -/
def beat (o : Option Nat) (n : Nat) : Bool := match o with
  | none => true
  | some b => decide (pc n < pc b)
def sel (ok : Nat → Bool) : Nat → Option Nat
  | 0 => none
  | n + 1 => if (beat (sel ok n) n && ok n) = true then some n else sel ok n
theorem sel_lt {ok : Nat → Bool} : ∀ n b, sel ok n = some b → b < n ∧ ok b = true
  | 0, b, h => by cases h
  | n + 1, b, h => by
    rw [sel] at h
    by_cases c : (beat (sel ok n) n && ok n) = true
    · rw [if_pos c] at h
      cases h
      rw [Bool.and_eq_true] at c
      exact ⟨by omega, c.2⟩
    · rw [if_neg c] at h
      have := sel_lt n b h
      exact ⟨by omega, this.2⟩
def beC (o : Option Nat) : Int32 := match o with
  | none => -2
  | some b => nI b
def feC (d : Nat) (o : Option Nat) : Int32 := match o with
  | none => nI d
  | some b => nI (pc b)
def allT (m : Nat → Int32) (set : Nat) : Bool := (List.range (mP m)).all (fun p => decide (nbr m p &&& set ≠ 0))
theorem and_z {a b : Nat} (h : a < 128) : (nI a &&& nI b = 0) ↔ a &&& b = 0 := by
  have : a &&& b ≤ a := Nat.and_le_left
  rw [nI_and]
  show nI (a &&& b) = nI 0 ↔ _
  rw [nI_eq (by omega) (by decide)]
theorem c_reachesAll {m : Nat → Int32} {s : am_S} {set : Nat} (w : wfT m) (t : townAt m s) : f_X8_reachesAll (nI set) s = some (b01 (allT m set = true)) := by
  have hP := w.P7
  have e4 : am_F = 4000 := rfl
  unfold f_X8_reachesAll
  have key := lp_ind (body := fun (q : Int32) => b_X8_reachesAll_2 (nI set) s q) (mP m) (fun i x => x = nI i ∧ ∀ p, p < i → nbr m p &&& set ≠ 0) (fun e => e = b01 (allT m set = true)) ?_ ?_ (F := am_F) (by omega) (0 : Int32) ⟨rfl, fun c hc => by omega⟩
  · obtain ⟨e, h1, rfl⟩ := key
    exact h1
  · rintro i hi x ⟨rfl, h4⟩
    unfold b_X8_reachesAll_2
    rw [t.P w, am_iff (nI_ge hi (by omega)), gd_nI (by omega) (by decide), cL (by omega), t.nb i hi]
    by_cases c : nbr m i &&& set = 0
    · right
      refine ⟨_, am_ift ((and_z (nbr_lt m i)).mpr c), (b01_f ?_).symm⟩
      unfold allT
      rw [List.all_eq_true]
      exact fun z => absurd c (by simpa using z i (List.mem_range.mpr hi))
    · left
      refine ⟨nI (i + 1), by rw [am_iff (fun z => c ((and_z (nbr_lt m i)).mp z)), am_ltd, nI_1], rfl, fun p hp => ?_⟩
      by_cases e : p = i
      · subst e; exact c
      · exact h4 p (by omega)
  · rintro x ⟨rfl, h4⟩
    refine ⟨1, ?_, (b01_t ?_).symm⟩
    · unfold b_X8_reachesAll_2
      rw [t.P w, am_ift (nI_le (Nat.le_refl _) (by omega))]
    · unfold allT
      rw [List.all_eq_true]
      intro p hp
      simpa using h4 p (List.mem_range.mp hp)
theorem m_areTold {m : Nat → Int32} {s : am_S} {set : Nat} (hm : s.1 258 = m) (w : wfT m) : f_X12_areTold (nI set) s = some (b01 (allT m set = true)) := by
  have hP := w.P7
  have e4 : am_F = 4000 := rfl
  unfold f_X12_areTold
  have key := lp_ind (body := fun (q : Int32) => b_X12_areTold_2 (nI set) s q) (mP m) (fun i x => x = nI i ∧ ∀ p, p < i → nbr m p &&& set ≠ 0) (fun e => e = b01 (allT m set = true)) ?_ ?_ (F := am_F) (by omega) (0 : Int32) ⟨rfl, fun c hc => by omega⟩
  · obtain ⟨e, h1, rfl⟩ := key
    exact h1
  · rintro i hi x ⟨rfl, h4⟩
    unfold b_X12_areTold_2
    rw [m_besides hm w.okS (by omega), am_bds, hm, w.P1, am_iff (nI_ge hi (by omega))]
    by_cases c : nbr m i &&& set = 0
    · right
      refine ⟨_, am_ift ((and_z (nbr_lt m i)).mpr c), (b01_f ?_).symm⟩
      unfold allT
      rw [List.all_eq_true]
      exact fun z => absurd c (by simpa using z i (List.mem_range.mpr hi))
    · left
      refine ⟨nI (i + 1), by rw [am_iff (fun z => c ((and_z (nbr_lt m i)).mp z)), am_ltd, nI_1], rfl, fun p hp => ?_⟩
      by_cases e : p = i
      · subst e; exact c
      · exact h4 p (by omega)
  · rintro x ⟨rfl, h4⟩
    refine ⟨1, ?_, (b01_t ?_).symm⟩
    · unfold b_X12_areTold_2
      rw [hm, w.P1, am_ift (nI_le (Nat.le_refl _) (by omega))]
    · unfold allT
      rw [List.all_eq_true]
      intro p hp
      simpa using h4 p (List.mem_range.mp hp)
theorem pow_le {P k : Nat} (h : P ≤ k) : 2 ^ P ≤ 2 ^ k := Nat.pow_le_pow_right (by decide) h
theorem st_tellers : LS_tellers Inv := by
  intro k s p hk hI
  obtain ⟨rn, h⟩ := hI
  have h := InvR_mono h
  have w := h.w
  have hF := w.F8
  have hP := w.P7
  have e4 : am_F = 4000 := rfl
  unfold f_X11_tellers f_X12_tellers
  simp only [m_isTown w.F1 (show mF (s.1 258) < 2 ^ 31 by omega), am_bds, c_isBit, m_in01]
  by_cases h0 : 0 < mF (s.1 258)
  · simp only [am_iff (fun z => (town0 h).mp z h0), am_b1 h0]
    by_cases h1 : p = 0 ∨ p = 1
    · simp only [am_b1 h1]
      have h2P : 2 ^ mP (s.1 258) ≤ 128 := pow_le (k := 7) hP
      have shl : (1 : Int32) <<< (nI (mP (s.1 258)) &&& 31) = nI (2 ^ mP (s.1 258)) := sh_l (by omega)
      generalize hN : 2 ^ mP (s.1 258) = N at *
      have kc : am_lp (fun (q : Int32 × Int32 × Int32) => b_X11_tellers_31 p s q.1 q.2.1 q.2.2) am_F ((nI 8), (-2 : Int32), (0 : Int32)) = some (match sel (allT (s.1 258)) N with | none => -2 | some b => if p = 0 then nI (pc b) else nI b) := by
        have hs : ∀ i, i < N → (fun (q : Int32 × Int32 × Int32) => b_X11_tellers_31 p s q.1 q.2.1 q.2.2) (feC 8 (sel (allT (s.1 258)) i), beC (sel (allT (s.1 258)) i), nI i) = some (.inl (feC 8 (sel (allT (s.1 258)) (i + 1)), beC (sel (allT (s.1 258)) (i + 1)), nI (i + 1))) := by
          intro i hi
          dsimp only
          unfold b_X11_tellers_31
          rw [h.t.P w, shl, am_iff (nI_ge hi (by omega)), (pc_ok i (by omega)).2.1, am_bds, c_reachesAll w h.t, am_bds, am_ltd, nI_1, am_ltd]
          have hp7 := pc_7 i (by omega)
          have hcmp : (feC 8 (sel (allT (s.1 258)) i) ≤ nI (pc i)) ↔ ¬ beat (sel (allT (s.1 258)) i) i = true := by
            cases hq : sel (allT (s.1 258)) i with
            | none =>
              show nI 8 ≤ nI (pc i) ↔ ¬ true = true
              rw [nI_leI (by decide) (by omega)]
              exact ⟨fun z => by omega, fun z => absurd rfl z⟩
            | some b =>
              have hb := sel_lt i b hq
              have := pc_7 b (by omega)
              show nI (pc b) ≤ nI (pc i) ↔ ¬ decide (pc i < pc b) = true
              rw [nI_leI (by omega) (by omega), decide_eq_true_eq]
              omega
          rw [sel]
          by_cases c1 : beat (sel (allT (s.1 258)) i) i = true
          · rw [am_iff (fun z => (hcmp.mp z) c1)]
            by_cases c2 : allT (s.1 258) i = true
            · rw [am_b1 c2, if_pos (by rw [c1, c2]; rfl)]
              rfl
            · rw [am_b0 c2, if_neg (by rw [Bool.and_eq_true]; exact fun z => c2 z.2)]
          · rw [am_ift (hcmp.mpr c1), if_neg (by rw [Bool.and_eq_true]; exact fun z => c1 z.1)]
        cases hq : sel (allT (s.1 258)) N with
        | none =>
          refine am_lp_run (fun i => (feC 8 (sel (allT (s.1 258)) i), beC (sel (allT (s.1 258)) i), nI i)) N hs ?_ (by omega)
          dsimp only
          unfold b_X11_tellers_31 j_X11_tellers_88
          rw [h.t.P w, shl, am_ift (nI_le (Nat.le_refl _) (by omega)), hq, am_ift (show beC none = -2 from rfl), am_bds]
          rfl
        | some b =>
          have hb := sel_lt N b hq
          refine am_lp_run (fun i => (feC 8 (sel (allT (s.1 258)) i), beC (sel (allT (s.1 258)) i), nI i)) N hs ?_ (by omega)
          dsimp only
          unfold b_X11_tellers_31 j_X11_tellers_88
          rw [h.t.P w, shl, am_ift (nI_le (Nat.le_refl _) (by omega)), hq, show beC (some b) = nI b from rfl, am_iff (show ¬ nI b = -2 from fun z => nI_pos (n := b) (by omega) (by rw [z]; decide))]
          rcases h1 with rfl | rfl
          · rw [am_iff (by decide), am_bds, if_pos rfl]
            rfl
          · rw [am_ift rfl, am_bds, if_neg (by decide)]
      have km : am_lp (fun (q : Int32 × Int32) => b_X12_tellers_24 p s q.1 q.2) am_F ((-2 : Int32), (0 : Int32)) = some (match sel (allT (s.1 258)) N with | none => -2 | some b => if p = 0 then nI (pc b) else nI b) := by
        refine am_lp_run (fun i => (beC (sel (allT (s.1 258)) i), nI i)) N (fun i hi => ?_) ?_ (by omega)
        · dsimp only
          unfold b_X12_tellers_24 j_X12_tellers_51
          rw [w.P1, shl, am_iff (nI_ge hi (by omega)), (pc_ok i (by omega)).1, am_bds, m_areTold rfl w, am_bds, am_ltd, nI_1, am_ltd, sel]
          cases hq : sel (allT (s.1 258)) i with
          | none =>
            rw [am_ift (show beC none < 0 by decide)]
            by_cases c2 : allT (s.1 258) i = true
            · rw [am_b1 c2, if_pos (by rw [c2]; rfl)]
              rfl
            · rw [am_b0 c2, if_neg (by rw [Bool.and_eq_true]; exact fun z => c2 z.2)]
          | some b =>
            have hb := sel_lt i b hq
            have hb1 := hb.1
            have := pc_7 b (by omega)
            have := pc_7 i (by omega)
            rw [am_iff (show ¬ beC (some b) < 0 from nI_pos (by omega)), show beC (some b) = nI b from rfl, (pc_ok b (by omega)).1, am_bds]
            by_cases c1 : pc i < pc b
            · rw [am_iff (nI_ge c1 (by omega))]
              by_cases c2 : allT (s.1 258) i = true
              · rw [am_b1 c2, if_pos (by rw [c2, show beat (some b) i = decide (pc i < pc b) from rfl, decide_eq_true c1]; rfl)]
                rfl
              · rw [am_b0 c2, if_neg (by rw [Bool.and_eq_true]; exact fun z => c2 z.2)]
                rfl
            · rw [am_ift (nI_le (by omega) (by omega)), if_neg (by rw [show beat (some b) i = decide (pc i < pc b) from rfl, decide_eq_false c1]; simp)]
              rfl
        · dsimp only
          unfold b_X12_tellers_24 j_X12_tellers_67
          rw [w.P1, shl, am_ift (nI_le (Nat.le_refl _) (by omega))]
          cases hq : sel (allT (s.1 258)) N with
          | none => rw [am_iff (show ¬ 0 ≤ beC none by decide), am_bds]
          | some b =>
            have hb := sel_lt N b hq
            have hb1 := hb.1
            rw [show beC (some b) = nI b from rfl, am_ift (nI_pos' (by omega))]
            rcases h1 with rfl | rfl
            · rw [am_ift rfl, (pc_ok b (by omega)).1, am_bds, am_bds]
              dsimp only
              rw [if_pos rfl]
            · rw [am_iff (by decide), am_bds]
              dsimp only
              rw [if_neg (by decide)]
      exact ⟨_, kc, km, rn, h⟩
    · simp only [am_b0 h1]
      exact ⟨-1, rfl, rfl, rn, h⟩
  · simp only [am_ift ((town0 h).mpr h0), am_b0 h0]
    exact ⟨-1, rfl, rfl, rn, h⟩
