/-! all steps; the beginning -/
theorem steps_all : LW Inv := ⟨st_feed, st_end, st_town, st_rule, st_charter, st_holds, st_person, st_trust, st_say, st_would, st_meet, st_hour, st_midnight, st_undo, st_run, st_breach, st_tellers, st_leastLie, st_evening, st_walls, st_leak, st_stated, st_truths, st_ask, st_tale, st_schedules, st_seed, st_years, st_count, st_image, st_back⟩
theorem am_li_0 {l : List (Nat × Nat × Int32)} {a k : Nat} (h : ∀ w ∈ l, ¬ (a = w.1 ∧ k = w.2.1)) : am_li l a k = 0 := by
  induction l with
  | nil => rfl
  | cons w l ih =>
    rw [am_li, if_neg (h w List.mem_cons_self)]
    exact ih (fun x hx => h x (List.mem_cons_of_mem _ hx))
theorem am_wi_f : ∀ w ∈ am_wi, w.2.1 = 7 ∨ (w.1 = 248 ∧ w.2.1 = 21) ∨ (w.1 = 15 ∧ w.2.1 = 2) ∨ (186 ≤ w.1 ∧ w.1 ≤ 231) := by decide +kernel
theorem am_wi_g : ∀ w ∈ am_wi, w.1 ≠ 258 ∧ w.1 ≠ 28 ∧ w.1 ≠ 31 ∧ w.1 ≠ 265 ∧ w.1 ≠ 16 ∧ w.1 ≠ 32 ∧ w.1 ≠ 0 := by decide +kernel
theorem s0_c {a k : Nat} (h : a = 258 ∨ a = 28 ∨ a = 31 ∨ a = 265 ∨ a = 16 ∨ a = 32 ∨ a = 0) : am_s0.1 a k = 0 := am_li_0 (fun w hw z => by
  have := am_wi_g w hw
  omega)
theorem s0_k {a k : Nat} (h7 : k ≠ 7) (h1 : ¬ (a = 248 ∧ k = 21)) (h2 : ¬ (a = 15 ∧ k = 2)) (h3 : ¬ (186 ≤ a ∧ a ≤ 231)) : am_s0.1 a k = 0 := am_li_0 (fun w hw z => by
  have := am_wi_f w hw
  omega)
theorem s0_15 : am_s0.1 15 2 = -1 ∧ am_s0.1 248 21 = -1 ∧ am_s0.1 15 7 = 0 := by decide +kernel
theorem Inv_0 : Inv 0 am_s0 := by
  have hm : am_s0.1 258 = fun _ => 0 := funext fun j => s0_c (Or.inl rfl)
  have n0 : ∀ j, mN (fun _ : Nat => (0 : Int32)) j = 0 := fun j => mN_nI (n := 0) rfl (by decide)
  have i0 : ∀ j b, 0 < b → isN (fun _ : Nat => (0 : Int32)) j b := fun j b hb => ⟨by rw [n0]; rfl, by rw [n0]; exact hb⟩
  refine ⟨0, by decide, s0_c (by decide), s0_k (by decide) (by decide) (by decide) (by decide), fun r hr => by omega, ⟨0, by decide, s0_c (by decide), s0_k (by decide) (by decide) (by decide) (by decide), fun j hj => by omega⟩, ?_, fun i hi => ⟨by rw [s0_c (by decide), s0_c (by decide)], Or.inl (s0_c (by decide)), fun z => ?_⟩, ⟨0, 0, by decide, by decide, s0_c (by decide), s0_c (by decide), s0_k (by decide) (by decide) (by decide) (by decide), fun i hi => by omega⟩, Or.inl rfl, by decide +kernel⟩
  · unfold pNow
    rw [hm]
    refine ⟨⟨i0 _ _ (by decide), i0 _ _ (Nat.two_pow_pos _), i0 _ _ (by decide), i0 _ _ (by decide), i0 _ _ (by decide), i0 _ _ (by decide), i0 _ _ (by decide), Or.inl rfl, fun _ => ⟨n0 _, n0 _, n0 _, n0 _⟩, fun i hi => ?_, fun i hi => ?_, fun i hi => ?_, fun j hj z => ?_⟩, ⟨i0 _ _ (by decide), i0 _ _ (by decide), fun z => ?_, fun p f hp hf => ?_⟩, ⟨i0 _ _ (by decide), i0 _ _ (by decide), fun i hi => ?_, fun i hi => ?_⟩, ⟨?_, ?_, ?_, ?_, ?_, ?_, ?_, ?_, ?_, fun z => ?_, fun i hi => ?_, fun p hp => ?_, fun j hj => ?_, fun j hj => ?_⟩, ⟨?_, ?_, fun z => ?_, fun p hp => ?_, fun p f hp hf => ?_, fun p f hp hf => ?_⟩, ⟨?_, ?_, ?_, ?_, ?_, ?_, fun j hj => ?_⟩, Or.inl s0_15.2.1, ?_⟩
    · rw [show mS (fun _ : Nat => (0 : Int32)) = 0 from n0 3] at hi; omega
    · rw [show mI (fun _ : Nat => (0 : Int32)) = 0 from n0 4] at hi; omega
    · rw [show mH (fun _ : Nat => (0 : Int32)) = 0 from n0 5] at hi; omega
    · rw [show mF (fun _ : Nat => (0 : Int32)) = 0 from n0 0] at z; omega
    · rw [show mF (fun _ : Nat => (0 : Int32)) = 0 from n0 0] at z; omega
    · rw [show mP (fun _ : Nat => (0 : Int32)) = 0 from n0 2] at hp; omega
    · rw [n0] at hi; omega
    · rw [n0] at hi; omega
    · rw [show mF (fun _ : Nat => (0 : Int32)) = 0 from n0 0, if_neg (by decide)]; exact s0_c (by decide)
    · exact s0_c (by decide)
    · exact s0_c (by decide)
    · exact s0_c (by decide)
    · exact s0_c (by decide)
    · exact s0_c (by decide)
    · exact s0_c (by decide)
    · exact s0_c (by decide)
    · exact s0_c (by decide)
    · rw [show mF (fun _ : Nat => (0 : Int32)) = 0 from n0 0] at z; omega
    · rw [show mS (fun _ : Nat => (0 : Int32)) = 0 from n0 3] at hi; omega
    · rw [show mP (fun _ : Nat => (0 : Int32)) = 0 from n0 2] at hp; omega
    · rw [show mI (fun _ : Nat => (0 : Int32)) = 0 from n0 4] at hj; omega
    · rw [show mH (fun _ : Nat => (0 : Int32)) = 0 from n0 5] at hj; omega
    · exact s0_k (by decide) (by decide) (by decide) (by decide)
    · exact s0_k (by decide) (by decide) (by decide) (by decide)
    · rw [show mF (fun _ : Nat => (0 : Int32)) = 0 from n0 0] at z; omega
    · rw [show mP (fun _ : Nat => (0 : Int32)) = 0 from n0 2, if_neg (by omega)]; exact s0_c (by decide)
    · rw [show mP (fun _ : Nat => (0 : Int32)) = 0 from n0 2] at hp; omega
    · rw [show mP (fun _ : Nat => (0 : Int32)) = 0 from n0 2] at hp; omega
    · exact s0_15.1.trans s0_15.2.1.symm
    · rw [s0_k (by decide) (by decide) (by decide) (by decide), s0_k (by decide) (by decide) (by decide) (by decide)]
    · exact s0_k (by decide) (by decide) (by decide) (by decide)
    · exact s0_k (by decide) (by decide) (by decide) (by decide)
    · rw [s0_15.2.2, taleBits0 rfl]; rfl
    · rw [taleBits0 rfl]; exact s0_k (by decide) (by decide) (by decide) (by decide)
    · rw [n0] at hj; omega
    · rw [s0_k (by decide) (by decide) (by decide) (by decide)]; decide
  · rw [s0_c (by decide)] at z
    exact absurd z (by decide)
