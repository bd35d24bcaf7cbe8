/-! clauses of a town, in both: person, facts -/
def pF (m : Nat → Int32) (P v O : Nat) : Nat → (Nat → Int32)
  | 0 => m
  | k + 1 => upd (upd (pF m P v O k) (11 + 16 * P + 2 * k) (if v.testBit k = true then nI (O / 2 ^ k % 2) else nI 2)) (11 + 16 * P + 2 * k + 1) (if v.testBit k = true then nI 10 else 0)
theorem pF_out {m : Nat → Int32} {P v O j : Nat} : ∀ k, (j < 11 + 16 * P ∨ 11 + 16 * P + 2 * k ≤ j) → pF m P v O k j = m j
  | 0, _ => rfl
  | k + 1, h => by rw [pF, upd_n (by omega), upd_n (by omega), pF_out k (by omega)]
theorem pF_in {m : Nat → Int32} {P v O f : Nat} : ∀ k, f < k → pF m P v O k (11 + 16 * P + 2 * f) = (if v.testBit f = true then nI (O / 2 ^ f % 2) else nI 2) ∧ pF m P v O k (11 + 16 * P + 2 * f + 1) = (if v.testBit f = true then nI 10 else 0)
  | 0, h => by omega
  | k + 1, h => by
    rw [pF]
    by_cases e : f = k
    · subst e
      exact ⟨by rw [upd_n (by omega), upd_s], upd_s⟩
    · obtain ⟨h1, h2⟩ := pF_in (m := m) (P := P) (v := v) (O := O) (f := f) k (by omega)
      exact ⟨by rw [upd_n (by omega), upd_n (by omega)]; exact h1, by rw [upd_n (by omega), upd_n (by omega)]; exact h2⟩
theorem m_person {x : am_S} {m : Nat → Int32} {P v O : Nat} (hm : x.1 254 = m) (hP : P < 7) (h2 : m 2 = nI P) (h1 : m 1 = nI O) (hO : O < 256) (hv : v < 256) (h10 : x.1 248 10 = nI v) : am_lp (fun (q : Int32 × am_S) => b_X12_isPersonHere_44 q.1 q.2) am_F ((0 : Int32), x) = some ((1 : Int32), as_i (as_i (as_w x 254 (pF m P v O 8)) 254 (123 + P) 0) 254 2 (nI (P + 1))) := by
  have e4 : am_F = 4000 := rfl
  have run := am_lp_run (body := fun (q : Int32 × am_S) => b_X12_isPersonHere_44 q.1 q.2) (fun k => (nI k, as_w x 254 (pF m P v O k))) 8 (e := ((1 : Int32), as_i (as_i (as_w x 254 (pF m P v O 8)) 254 (123 + P) 0) 254 2 (nI (P + 1)))) (fun k hk => by
    try dsimp only
    have a2 : ∀ w : Nat → Int32, w 2 = nI P → (as_w x 254 w).1 254 2 = nI P := fun w hw => by rw [as_w3]; exact hw
    have p2 : pF m P v O k 2 = nI P := by rw [pF_out k (by omega)]; exact h2
    have p1 : pF m P v O k 1 = nI O := by rw [pF_out k (by omega)]; exact h1
    have a10 : (as_w x 254 (pF m P v O k)).1 248 10 = nI v := by rw [as_w1 (by decide)]; exact h10
    have a1 : (as_w x 254 (pF m P v O k)).1 254 1 = nI O := by rw [as_w3]; exact p1
    have b2 : ∀ u : Int32, (as_w x 254 (upd (pF m P v O k) (11 + 16 * P + 2 * k) u)).1 254 2 = nI P := fun u => a2 _ (by rw [upd_n (by omega)]; exact p2)
    unfold b_X12_isPersonHere_44 f_X12_isOf j_X12_isPersonHere_97
    rw [am_iff (nI_ge hk (by decide)), a10, bitb (by omega) (by omega), a1, bit1 (by omega) (by omega), a2 _ p2, pk_mul, pk_mul, nI_add, nI_add]
    by_cases z : v.testBit k = true
    · rw [am_ift (b01_t z), am_bds, am_iff (by decide), gd_nI (by omega) (by decide), cL (by omega), as_iw, am_ltd, am_iff (by decide), b2, pk_mul, nI_add, nI_add, nI_1, gd_nI (by omega) (by decide), cL (by omega), as_iw, am_ltd, nI_1, am_ltd, pF, if_pos z, if_pos z]
    · rw [am_iff (by rw [b01_f z]; decide), am_bds, am_ift rfl, gd_nI (by omega) (by decide), cL (by omega), as_iw, am_ltd, am_ift rfl, b2, pk_mul, nI_add, nI_add, nI_1, gd_nI (by omega) (by decide), cL (by omega), as_iw, am_ltd, nI_1, am_ltd, pF, if_neg z, if_neg z]) (by
    try dsimp only
    have p2 : (as_w x 254 (pF m P v O 8)).1 254 2 = nI P := by rw [as_w3, pF_out 8 (by omega)]; exact h2
    unfold b_X12_isPersonHere_44 j_X12_isPersonHere_137
    rw [am_ift (by decide), p2, nI_add, gd_nI (by omega) (by decide), cL (by omega), am_ltd, as_i2 (show (2 : Nat) ≠ 123 + P by omega), p2, nI_1, am_ltd, am_bds]) (F := am_F) (by omega)
  have e0 : as_w x 254 (pF m P v O 0) = x := by
    show as_w x 254 m = x
    rw [← hm, as_w_self]
  try dsimp only at run
  rw [e0] at run
  exact run
section TX5
variable {c : Nat → Int32} {T n : Nat}
theorem shT {F : Nat} (h : F < 9) : ((1 : Int32) <<< (nI F &&& 31)) - 1 = nI (2 ^ F) - 1 := by rw [sh_l (by omega)]
theorem p2_9 {F : Nat} (h : F < 9) : 2 ^ F ≤ 256 := by
  have : (2 : Nat) ^ F ≤ 2 ^ 8 := Nat.pow_le_pow_right (by decide) (by omega)
  simpa using this
theorem tw_person {i F O P S I H C : Nat} {s y : am_S} (hT : T ≤ 400) (hnT : n ≤ T) (hn1 : tp c T n = T) (hs : TC c T n i s) (hy : TD c T i y) (hi : i ≤ n) (hF : 0 < F) (hP : P < 7) (W : TWN (y.1 254) F O P S I H C) (D : dC (y.1 254) s F O P S I H) : OUT c T n s y i (f_X9_readPerson s) (am_b2 (f_X12_numberHere (0 : Int32) (((1 : Int32) <<< ((y.1 254 0) &&& 31)) - (1 : Int32)) y) (fun v7 s8 => am_if (v7 = 0) (some ((0 : Int32), s8)) (am_lp (fun (q : Int32 × am_S) => b_X12_isPersonHere_44 q.1 q.2) am_F ((0 : Int32), s8)))) := by
  obtain ⟨w0, w1, w2, w3, w4, w5, w6, w7, w8, w9, wa, wb, wc, wd_⟩ := W
  obtain ⟨⟨d0, d1, d2, d3, d4, d5, d6, d7, d8⟩, dt, ds, di, dh, dp_⟩ := D
  have pf := p2_9 w0.2
  have hO := w1.2
  unfold f_X9_readPerson
  rw [d1, w0.1, shT w0.2]
  rcases c_num (lo := 0) (hi := nI (2 ^ F) - 1) hT hnT hn1 hs hi with ⟨o, lt, q1, q2⟩ | ⟨o, q1⟩
  · rcases m_num (lo := 0) (hi := nI (2 ^ F) - 1) hT hy with ⟨_, y2, r1, r2, r3, r4⟩ | ⟨z, _⟩
    · obtain ⟨v, v1, v2⟩ := ok_lt hT (by omega) o
      have e54 : y2.1 254 = y.1 254 := r4.row (by unfold P8; intro j; omega)
      have mp := m_person (x := y2) (m := y.1 254) (P := P) (v := v) (O := O) e54 hP w2.1 w1.1 (by omega) (by omega) (by rw [r3, v1])
      have x3 : (as_i s 2 4 (nI (i + 1))).1 6 3 = nI P := by rw [as_i1 (by decide), d3]; exact w2.1
      have x3b : (as_i (as_i s 2 4 (nI (i + 1))) 7 P (nI v)).1 6 3 = nI P := by rw [as_i1 (by decide)]; exact x3
      generalize hz : as_i (as_i (as_w y2 254 (pF (y.1 254) P v O 8)) 254 (123 + P) 0) 254 2 (nI (P + 1)) = z at *
      have row : z.1 254 = upd (upd (pF (y.1 254) P v O 8) (123 + P) 0) 2 (nI (P + 1)) := by rw [← hz, row_i, row_i, as_w3]
      have mm : ∀ j, j ≠ 2 → j ≠ 123 + P → (j < 11 + 16 * P ∨ 11 + 16 * P + 16 ≤ j) → z.1 254 j = y.1 254 j := fun j j1 j2 j3 => by rw [row, upd_n j1, upd_n j2, pF_out 8 (by omega)]
      have fz : frm (fun b j => b = 254 ∨ (b = 248 ∧ j = 10)) y2 z := by
        rw [← hz]
        refine ⟨fun b j hb => ?_, rfl⟩
        have hb2 : b ≠ 254 := fun e => hb (Or.inl e)
        rw [as_i1 hb2, as_i1 hb2, as_w1 hb2]
      have a6 : ∀ j, j ≠ 3 → (as_i (as_i (as_i s 2 4 (nI (i + 1))) 7 P (nI v)) 6 3 (nI (P + 1))).1 6 j = s.1 6 j := fun j hj => by rw [as_i2 hj, as_i1 (by decide), as_i1 (by decide)]
      have ar : ∀ b, b ≠ 2 → b ≠ 6 → b ≠ 7 → (as_i (as_i (as_i s 2 4 (nI (i + 1))) 7 P (nI v)) 6 3 (nI (P + 1))).1 b = s.1 b := fun b b1 b2 b3 => by rw [as_i1 b2, as_i1 b3, as_i1 b1]
      right
      refine ⟨i + 1, as_i (as_i (as_i s 2 4 (nI (i + 1))) 7 P (nI v)) 6 3 (nI (P + 1)), z, F, O, P + 1, S, I, H, C, ?_, ?_, q2.f (P := fun b j => b = 6 ∨ b = 7) ((frm.i _ (Or.inr rfl)).ti (Or.inl rfl)) (by intro b j z; have : b = 6 ∨ b = 7 := z; omega), r2.f fz, by omega, lt, hF, ?_, ?_, ((frm.i s PT24).ti (PTd (by decide))).ti (PTd (by decide)), (r4.mo (fun _ _ => P8W)).tr (fz.mo (fun b j z => by unfold PWn; omega))⟩
      · rw [q1, am_b2s, c_fine, am_bds, am_b1 q2.2.1, x3, gd_nI hP (by decide), cL (by omega), v1, am_ltd, x3b, nI_1, am_ltd]
      · rw [r1, am_b2s, am_iff (by decide), mp]
      · exact ⟨⟨by rw [mm _ (by decide) (by omega) (by omega)]; exact w0.1, w0.2⟩, ⟨by rw [mm _ (by decide) (by omega) (by omega)]; exact w1.1, w1.2⟩, ⟨by rw [row, upd_s], by omega⟩, ⟨by rw [mm _ (by decide) (by omega) (by omega)]; exact w3.1, w3.2⟩, ⟨by rw [mm _ (by decide) (by omega) (by omega)]; exact w4.1, w4.2⟩, ⟨by rw [mm _ (by decide) (by omega) (by omega)]; exact w5.1, w5.2⟩, ⟨by rw [mm _ (by decide) (by omega) (by omega)]; exact w6.1, w6.2⟩, by rw [mm _ (by decide) (by omega) (by omega)]; exact w7, w8.cg (by omega) (by omega) (fun j j1 j2 => mm j (by omega) (by omega) (by omega)), w9.cg (fun j j1 j2 => mm j (by omega) (by omega) (by omega)), wa.cg (fun j j1 j2 => mm j (by omega) (by omega) (by omega)), wb.cg (fun j j1 j2 => mm j (by omega) (by omega) (by omega)), by rw [mm _ (by decide) (by omega) (by omega)]; exact wc, by rw [mm _ (by decide) (by omega) (by omega)]; exact wd_⟩
      · refine ⟨⟨by rw [a6 _ (by decide)]; exact d0, by rw [a6 _ (by decide), mm _ (by decide) (by omega) (by omega)]; exact d1, by rw [a6 _ (by decide), mm _ (by decide) (by omega) (by omega)]; exact d2, by rw [as_i3, row, upd_s], by rw [a6 _ (by decide), mm _ (by decide) (by omega) (by omega)]; exact d4, by rw [a6 _ (by decide), mm _ (by decide) (by omega) (by omega)]; exact d5, by rw [a6 _ (by decide), mm _ (by decide) (by omega) (by omega)]; exact d6, by rw [a6 _ (by decide), mm _ (by decide) (by omega) (by omega)]; exact d7, by rw [a6 _ (by decide), mm _ (by decide) (by omega) (by omega)]; exact d8⟩, fun j hj => ?_, ds.cg (fun j j1 j2 => mm j (by omega) (by omega) (by omega)) (ar _ (by decide) (by decide) (by decide)) (ar _ (by decide) (by decide) (by decide)) (ar _ (by decide) (by decide) (by decide)), fun j hj => ?_, fun j hj => ?_, fun p hp => ?_⟩
        · rw [ar 8 (by decide) (by decide) (by decide), mm _ (by omega) (by omega) (by omega)]; exact dt j hj
        · rw [ar 12 (by decide) (by decide) (by decide), mm _ (by omega) (by omega) (by omega)]; exact di j hj
        · rw [ar 13 (by decide) (by decide) (by decide), mm _ (by omega) (by omega) (by omega)]; exact dh j hj
        · have z7 : ∀ j, (as_i (as_i (as_i s 2 4 (nI (i + 1))) 7 P (nI v)) 6 3 (nI (P + 1))).1 7 j = if j = P then nI v else s.1 7 j := fun j => by
            rw [as_i1 (by decide), rd_i, as_i1 (by decide)]
            simp only [true_and]
          by_cases e : p = P
          · subst e
            refine ⟨v, v2, by rw [z7, if_pos rfl], by rw [row, upd_n (by omega), upd_s], fun f hf => ?_⟩
            obtain ⟨p1, p2⟩ := pF_in (m := y.1 254) (P := p) (v := v) (O := O) (f := f) 8 hf
            exact ⟨by rw [row, upd_n (by omega), upd_n (by omega)]; exact p1, by rw [row, upd_n (by omega), upd_n (by omega)]; exact p2⟩
          · obtain ⟨kn, k1, k2, k3, k4⟩ := dp_ p (by omega)
            refine ⟨kn, k1, by rw [z7, if_neg e]; exact k2, by rw [mm _ (by omega) (by omega) (by omega)]; exact k3, fun f hf => ?_⟩
            rw [mm _ (by omega) (by omega) (by omega), mm _ (by omega) (by omega) (by omega)]
            exact k4 f hf
    · exact absurd o z
  · rcases m_num (lo := 0) (hi := nI (2 ^ F) - 1) hT hy with ⟨z, _⟩ | ⟨_, y2, r1, r2, r3⟩
    · exact absurd z o
    · refine out_e (nF_K hT i) hi hs.1 (frm.rf _ _) (r3.mo (fun _ _ => P8W)) r2 ?_ (by rw [r1, am_b2s, am_ift rfl])
      rw [q1, am_b2s, c_fine, am_bds, am_b0 (fl5 (nF_K hT i))]
/-- nothing was told yet -/
def T00 (m : Nat → Int32) (s : am_S) : Prop := (∀ j, j < 11 → m j = 0) ∧ m 269 = 0 ∧ s.1 6 0 = 0 ∧ s.1 6 3 = 0 ∧ s.1 6 6 = 0 ∧ s.1 6 10 = 0 ∧ s.1 6 12 = 0 ∧ s.1 6 14 = 0 ∧ s.1 6 15 = 0 ∧ (∀ j, j < 49 → s.1 8 j = nI 5) ∧ ∀ p, p < 7 → s.1 11 p = 0
theorem m_facts5 {x : am_S} : am_lp (fun (q : Int32 × am_S) => b_X12_areFactsHere_54 q.1 q.2) am_F ((0 : Int32), x) = some ((1 : Int32), as_w x 254 (cpv (x.1 254) 130 49 (fun _ => nI 5))) := by
  refine lp_copyR 254 49 130 (fun _ => nI 5) x (fun j hj g => ?_) ?_ (by decide)
  · dsimp only
    unfold b_X12_areFactsHere_54
    rw [am_iff (nI_ge hj (by decide)), nI_add, gd_nI (by omega) (by decide), cL (by omega), am_ltd, nI_1, am_ltd]
  · dsimp only
    unfold b_X12_areFactsHere_54
    rw [am_ift (by decide)]
theorem tw_facts {i : Nat} {s y : am_S} (hT : T ≤ 400) (hnT : n ≤ T) (hn1 : tp c T n = T) (hs : TC c T n i s) (hy : TD c T i y) (hi : i ≤ n) (D : T00 (y.1 254) s) : OUT c T n s y i (f_X9_readFacts s) (am_b2 (f_X12_cellHere (0 : Int32) (1 : Int32) (nI 8) y) (fun v3 s4 => am_if (v3 = 0) (some ((0 : Int32), s4)) (am_b2 (f_X12_cellHere (1 : Int32) (0 : Int32) (((1 : Int32) <<< ((s4.1 254 0) &&& 31)) - (1 : Int32)) s4) (fun v5 s6 => am_if (v5 = 0) (some ((0 : Int32), s6)) (am_lp (fun (q : Int32 × am_S) => b_X12_areFactsHere_54 q.1 q.2) am_F ((0 : Int32), s6)))))) := by
  obtain ⟨t1, t2, t3, t4, t5, t6, t7, t8, t9, ta, tb⟩ := D
  have z0 : ∀ j, j < 11 → y.1 254 j = nI 0 := fun j hj => t1 j hj
  have err : ∀ (x : am_S) (e : Nat) (v w : Int32), erK e → (∃ j, j ≤ n ∧ x.1 2 4 = nI j) → frm PTn s x → ∀ y2, y2.1 248 9 = nI e → frm PWn y y2 → ∀ rc rm, rc = some (as_i (as_i (as_i x 2 5 (nI e)) 6 1 v) 6 2 w) → rm = some ((0 : Int32), y2) → OUT c T n s y i rc rm := fun x e v w he hx fx y2 h9 fy rc rm h1 h2 => by
    left
    refine ⟨e, _, y2, he, h1, h2, ?_, ?_, h9, ((fx.ti PT25).ti (PTd (by decide))).ti (PTd (by decide)), fy⟩
    · rw [as_i1 (by decide), as_i1 (by decide), as_i3]
    · obtain ⟨j, j1, j2⟩ := hx
      exact ⟨j, j1, by rw [as_i1 (by decide), as_i1 (by decide), as_i2 (by decide)]; exact j2⟩
  unfold f_X9_readFacts
  rcases c_num (lo := 1) (hi := nI 8) hT hnT hn1 hs hi with ⟨o, lt, q1, q2⟩ | ⟨o, q1⟩
  · rcases m_cell (cell := 0) (lo := 1) (hi := nI 8) hT (by decide) hy with ⟨_, y1, r1, r2, r3, r4⟩ | ⟨z, _⟩
    · obtain ⟨F, a1, a2, _⟩ := ok_le hT (by decide) o
      have hF : 0 < F := by
        have := o.2.1
        rw [a1, show (1 : Int32) = nI 1 from rfl, nI_leI (by decide) (by omega)] at this
        omega
      have pf := p2_9 (show F < 9 by omega)
      have r1' : f_X12_cellHere (0 : Int32) (1 : Int32) (nI 8) y = some ((1 : Int32), y1) := r1
      have y10 : y1.1 254 0 = nI F := by rw [r3, upd_s, a1]
      rw [q1, am_b2s, a1, shT (by omega), r1', am_b2s, am_iff (show ¬ (1 : Int32) = 0 by decide), y10, shT (by omega)]
      rcases c_num (lo := 0) (hi := nI (2 ^ F) - 1) hT hnT hn1 q2 (by omega) with ⟨o2, lt2, q3, q4⟩ | ⟨o2, q3⟩
      · rcases m_cell (cell := 1) (lo := 0) (hi := nI (2 ^ F) - 1) hT (by decide) r2 with ⟨_, y2, u1, u2, u3, u4⟩ | ⟨z, _⟩
        · obtain ⟨O, b1, b2⟩ := ok_lt hT (by omega) o2
          have u1' : f_X12_cellHere (1 : Int32) (0 : Int32) (nI (2 ^ F) - 1) y1 = some ((1 : Int32), y2) := u1
          have em : y2.1 254 = upd (upd (y.1 254) 0 (nI F)) 1 (nI O) := by rw [u3, r3, a1, b1]
          have row : (as_w y2 254 (cpv (y2.1 254) 130 49 (fun _ => nI 5))).1 254 = cpv (y2.1 254) 130 49 (fun _ => nI 5) := as_w3
          have mm : ∀ j, 2 ≤ j → (j < 130 ∨ 179 ≤ j) → cpv (y2.1 254) 130 49 (fun _ => nI 5) j = y.1 254 j := fun j j1 j2 => by rw [cpv_out (by omega), em, upd_n (by omega), upd_n (by omega)]
          have m0 : cpv (y2.1 254) 130 49 (fun _ => nI 5) 0 = nI F := by rw [cpv_out (by omega), em, upd_n (by decide), upd_s]
          have m1 : cpv (y2.1 254) 130 49 (fun _ => nI 5) 1 = nI O := by rw [cpv_out (by omega), em, upd_s]
          have fz : frm (fun b j => b = 254 ∨ (b = 248 ∧ j = 10)) y2 (as_w y2 254 (cpv (y2.1 254) 130 49 (fun _ => nI 5))) := ⟨fun b j hb => by rw [as_w1 (fun e => hb (Or.inl e))], rfl⟩
          generalize hx : as_i (as_i (as_i (as_i s 2 4 (nI (i + 1))) 2 4 (nI (i + 1 + 1))) 6 1 (nI F)) 6 2 (nI O) = x
          have a6 : ∀ j, j ≠ 1 → j ≠ 2 → x.1 6 j = s.1 6 j := fun j j1 j2 => by rw [← hx, as_i2 j2, as_i2 j1, as_i1 (by decide), as_i1 (by decide)]
          have ar : ∀ b, b ≠ 2 → b ≠ 6 → x.1 b = s.1 b := fun b b1 b2 => by rw [← hx, as_i1 b2, as_i1 b2, as_i1 b1, as_i1 b1]
          have sb : ∀ m p, bitsOf (fun q => stE m 0 p q) 7 = 0 := fun m p => by
            have : (fun q => stE m 0 p q) = fun _ => false := by
              funext q
              unfold stE
              simp
            rw [this]
            decide
          right
          refine ⟨i + 1 + 1, x, as_w y2 254 (cpv (y2.1 254) 130 49 (fun _ => nI 5)), F, O, 0, 0, 0, 0, 0, ?_, ?_, ?_, u2.f fz, by omega, by omega, hF, ?_, ?_, ?_, (r4.tr u4).tr (fz.mo (fun b j z => by unfold PWn; omega))⟩
          · rw [q3, am_b2s, b1, am_ltd, am_ltd, hx]
          · rw [u1', am_b2s, am_iff (by decide), m_facts5]
          · rw [← hx]
            exact q4.f (P := fun b _ => b = 6) ((frm.i (P := fun b _ => b = 6) _ rfl).ti rfl) (by intro b j z; have : b = 6 := z; omega)
          · rw [row]
            refine ⟨⟨m0, by omega⟩, ⟨m1, b2⟩, ⟨by rw [mm _ (by decide) (by omega)]; exact z0 2 (by decide), by decide⟩, ⟨by rw [mm _ (by decide) (by omega)]; exact z0 3 (by decide), by decide⟩, ⟨by rw [mm _ (by decide) (by omega)]; exact z0 4 (by decide), by decide⟩, ⟨by rw [mm _ (by decide) (by omega)]; exact z0 5 (by decide), by decide⟩, ⟨by rw [mm _ (by decide) (by omega)]; exact t2, by decide⟩, Or.inl (by rw [mm _ (by decide) (by omega)]; exact t1 10 (by decide)), fun j hj => by omega, fun j hj => by omega, fun j hj => by omega, fun j hj => ⟨5, by rw [cpv_in (by omega) (by omega)], by decide⟩, by rw [mm _ (by decide) (by omega)]; exact t1 6 (by decide), by rw [mm _ (by decide) (by omega)]; exact t1 7 (by decide)⟩
          · rw [row]
            refine ⟨⟨by rw [a6 _ (by decide) (by decide)]; exact t3, by rw [m0, ← hx, as_i2 (by decide), as_i3], by rw [m1, ← hx, as_i3], ?_, ?_, ?_, ?_, ?_, ?_⟩, fun j hj => ?_, ⟨fun j hj => by omega, fun p hp => ?_⟩, fun j hj => by omega, fun j hj => by omega, fun p hp => by omega⟩
            · rw [a6 _ (by decide) (by decide), mm _ (by decide) (by omega), t4, t1 2 (by decide)]
            · rw [a6 _ (by decide) (by decide), mm _ (by decide) (by omega), t5, t1 3 (by decide)]
            · rw [a6 _ (by decide) (by decide), mm _ (by decide) (by omega), t6, t1 4 (by decide)]
            · rw [a6 _ (by decide) (by decide), mm _ (by decide) (by omega), t7, t1 5 (by decide)]
            · rw [a6 _ (by decide) (by decide), mm _ (by decide) (by omega), t8, t2]
            · rw [a6 _ (by decide) (by decide), mm _ (by decide) (by omega), t9, t1 10 (by decide)]
            · rw [ar 8 (by decide) (by decide), ta j hj, cpv_in (by omega) (by omega)]
            · rw [ar 11 (by decide) (by decide), tb p hp, sb]
              rfl
          · rw [← hx]
            exact (((frm.i s PT24).ti PT24).ti (PTd (by decide))).ti (PTd (by decide))
        · exact absurd o2 z
      · rcases m_cell (cell := 1) (lo := 0) (hi := nI (2 ^ F) - 1) hT (by decide) r2 with ⟨z, _⟩ | ⟨_, y2, u1, u2, u3⟩
        · exact absurd z o2
        · have u1' : f_X12_cellHere (1 : Int32) (0 : Int32) (nI (2 ^ F) - 1) y1 = some ((0 : Int32), y2) := u1
          exact err _ _ (nI F) 0 (nF_K hT (i + 1)) ⟨i + 1, by omega, q2.1⟩ (frm.i s PT24) y2 u2 (r4.tr u3) _ _ (by rw [q3, am_b2s, am_ltd, am_ltd]) (by rw [u1', am_b2s, am_ift rfl])
    · exact absurd o z
  · rcases m_cell (cell := 0) (lo := 1) (hi := nI 8) hT (by decide) hy with ⟨z, _⟩ | ⟨_, y2, r1, r2, r3⟩
    · exact absurd z o
    · have r1' : f_X12_cellHere (0 : Int32) (1 : Int32) (nI 8) y = some ((0 : Int32), y2) := r1
      exact err _ _ 0 0 (nF_K hT i) ⟨i, hi, hs.1⟩ (frm.rf _ _) y2 r2 r3 _ _ (by rw [q1, am_b2s, c_numF (fl5 (nF_K hT _)), am_b2s, am_ltd, am_ltd]) (by rw [r1', am_b2s, am_ift rfl])
end TX5
