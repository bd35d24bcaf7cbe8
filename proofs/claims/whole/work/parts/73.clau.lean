/-! a test as a whole; clauses -/
section ME
variable {c : Nat → Int32} {T n t : Nat}
theorem m_tested {b0 : am_S} {st : PS} {s : am_S} (E : EM c T n t) (hr : rdy n st) (h : MS c T t b0 st s) : (∃ e s2, aTop c T st = .error e ∧ f_X12_tested s = some ((0 : Int32), s2) ∧ MG t s e s2) ∨ (∃ st2 s2, aTop c T st = .ok st2 ∧ f_X12_tested s = some ((1 : Int32), s2) ∧ MT c T t s st2 [] s2) := by
  obtain ⟨hT, hnT, hn1, ht, hby⟩ := id E
  have e4 : am_F = 4000 := rfl
  have hi := hr.1
  have f1 : frm (PT t) s (as_i (as_i s 248 16 0) 248 13 0) := (frm.i s (Or.inr (Or.inl ⟨rfl, Or.inr rfl⟩))).ti (Or.inr (Or.inl ⟨rfl, Or.inl rfl⟩))
  have m0 : MT c T t s st [] (as_i (as_i s 248 16 0) 248 13 0) := by
    obtain ⟨⟨r, r1, r2, r3⟩, h2, h3, h4, h5, h6, h7⟩ := h
    have r48 : ∀ k, k ≠ 13 → k ≠ 16 → (as_i (as_i s 248 16 0) 248 13 0).1 248 k = s.1 248 k := fun k z1 z2 => by rw [as_i2 z1, as_i2 z2]
    refine ⟨⟨⟨r, r1, (r48 8 (by decide) (by decide)).trans r2, r3⟩, (r48 9 (by decide) (by decide)).trans h2, (r48 12 (by decide) (by decide)).trans h3, h4.mv (by rw [as_i1 (by decide), as_i1 (by decide)]) (by rw [as_i1 (by decide), as_i1 (by decide)]), frm.rf _ _, h6.mv (r48 1 (by decide) (by decide)) (by rw [as_i1 (by decide), as_i1 (by decide)]), (r48 11 (by decide) (by decide)).trans h7⟩, ⟨?_, as_i3, fun e he => by simp at he, fun j hj => by simp at hj⟩, f1⟩
    rw [as_i2 (by decide), as_i3]
    rfl
  have run : f_X12_tested s = iNN 3999 am_F (as_i (as_i s 248 16 0) 248 13 0) := by
    unfold f_X12_tested
    rw [am_ltd, am_ltd]
    exact lp_tB 3999 _
  have V := m_tes E (m_fac (s0 := s) E 10 (by decide)) (l := []) (Or.inl rfl) rfl (F := 3999) (Ff := am_F) hr (Nat.zero_le _) (by show st.2.2.length + 0 ≤ st.1; have := hr.2.2; omega) m0 (by omega) (by omega)
  have vg := aTop_g hT hnT hn1 (st := st) hr.1 hr.2.1
  rw [run]
  unfold aTop at vg ⊢
  cases hv : aTes c T (aFac c T 10) st with
  | error e =>
    rw [hv] at V
    obtain ⟨s2, q1, q2⟩ := V
    exact Or.inl ⟨e, s2, rfl, q1, q2⟩
  | ok st2 =>
    rw [hv] at V vg
    right
    obtain ⟨s3, F', Fc', o, a, st3, y1, y2, y3, y4, y5, y6, y7, y8, y9⟩ := V
    have ai := ema_ix a st3
    have ao := eo_ix o (ema a st3)
    have i3 : st3.1 = st2.1 := by rw [y3, ao.1, ai.1]
    have g2 : gs n [true] 0 st st2 := vg
    have i2 := g2.ix
    obtain ⟨F', rfl⟩ : ∃ F'', F' = F'' + 1 := ⟨F' - 1, by omega⟩
    obtain ⟨Fc', rfl⟩ : ∃ F'', Fc' = F'' + 1 := ⟨Fc' - 1, by omega⟩
    have ni : ¬ 91 ∈ ([] : List Nat) ++ oO o ++ oA a := by cases o <;> cases a <;> decide
    have y9' : 0 + (oO o).length + (oA a).length ≤ st3.1 := y9
    have lL : (([] : List Nat) ++ oO o ++ oA a).length ≤ 400 := by
      rw [List.length_append, List.length_append]
      show 0 + (oO o).length + (oA a).length ≤ 400
      omega
    obtain ⟨x, x1, x2, x3⟩ := aFT_end (F := F') (Fc := Fc') E y2 lL (Or.inr ni) (by rw [i3]; exact y4) (by rw [i3]; exact y5)
    obtain ⟨s4, w1, w2, _⟩ := m_settle1 E (Or.inl rfl) x1 (by show 0 + (oO o).length + (oA a).length ≤ 400; omega) (by omega)
    refine ⟨st2, s4, rfl, ?_, by rw [y3]; exact w2⟩
    rw [y1, x3]
    unfold j_X12_tested_112
    rw [m_isInside x1.2.1 lL, am_bds, am_b0 ni, w1, am_bds]
end ME
/-- a clause: 0 lie, 1 say; where its sum, its test and what follows begin -/
abbrev CLA : Type := Nat × Nat × Nat × Nat
section AC
variable (c : Nat → Int32) (T : Nat)
def aCla (j : Nat) (st : PS) : Except Nat (PS × CLA) :=
  if wo c T st.1 = 8 then (if j < 12 then rb (aTop c T (nxt st)) (fun s2 => .ok (s2, (0, st.2.2.length, st.2.2.length, s2.2.2.length))) else .error (fau c T st.1 4))
  else if wo c T st.1 = 9 then (if j < 12 then rb (aSum c T (nxt st)) (fun s2 => if wo c T s2.1 = 4 then rb (aTop c T (nxt s2)) (fun s3 => .ok (s3, (1, st.2.2.length, s2.2.2.length, s3.2.2.length))) else .ok (s2, (1, st.2.2.length, s2.2.2.length, s2.2.2.length))) else .error (fau c T st.1 4))
  else .error (fau c T st.1 0)
def aAll : Nat → PS → List CLA → Except Nat (PS × List CLA)
  | 0, _, _ => .error 0
  | f + 1, st, cl => if bt c T st.1 59 then rb (aCla c T cl.length (nxt st)) (fun x => aAll f x.1 (cl ++ [x.2]))
    else if kd c T st.1 = 0 then .ok (st, cl) else .error (fau c T st.1 0)
def aRul : Except Nat (PS × List CLA) := rb (aCla c T 0 (0, 0, [])) (fun x => aAll c T 401 x.1 [x.2])
end AC
def Dof (L : List (Nat × Nat)) (i : Nat) : Nat := (L.getD i (0, 0)).1
def cOK (L : List (Nat × Nat)) (r : CLA) : Prop := r.1 ≤ 1 ∧ r.2.1 ≤ r.2.2.1 ∧ r.2.2.1 ≤ r.2.2.2 ∧ r.2.2.2 ≤ L.length ∧ (r.1 = 0 → r.2.1 = r.2.2.1 ∧ r.2.2.1 < r.2.2.2) ∧ (r.1 = 1 → runT (Dof L) r.2.1 (r.2.2.1 - r.2.1) [] = some [false]) ∧ (r.2.2.1 < r.2.2.2 → runT (Dof L) r.2.2.1 (r.2.2.2 - r.2.2.1) [] = some [true])
theorem runT_congr {D D2 : Nat → Nat} : ∀ (n b : Nat) (st : List Bool), (∀ i, b ≤ i → i < b + n → D i = D2 i) → runT D b n st = runT D2 b n st
  | 0, _, _, _ => rfl
  | n + 1, b, st, h => by
    rw [runT, runT, h b (Nat.le_refl _) (by omega)]
    cases stepT (D2 b) st with
    | none => rfl
    | some st2 =>
      dsimp only
      split
      · exact runT_congr n (b + 1) st2 (fun i h1 h2 => h i (by omega) (by omega))
      · rfl
theorem runT_rl {D : Nat → Nat} : ∀ (l : List (Nat × Nat)) (b : Nat) (st : List Bool), (∀ i, i < l.length → D (b + i) = (l.getD i (0, 0)).1) → runT D b l.length st = rl l st
  | [], _, _, _ => rfl
  | e :: l, b, st, h => by
    have h0 := h 0 (by simp)
    have h0' : D b = e.1 := by simpa using h0
    rw [List.length_cons, runT, rl, h0']
    cases stepT e.1 st with
    | none => rfl
    | some st2 =>
      dsimp only
      split
      · refine runT_rl l (b + 1) st2 (fun i hi => ?_)
        have := h (i + 1) (by rw [List.length_cons]; omega)
        rw [show b + 1 + i = b + (i + 1) by omega, this]
        rfl
      · rfl
theorem Dof_app {L l : List (Nat × Nat)} {i : Nat} (h : i < L.length) : Dof (L ++ l) i = Dof L i := by
  unfold Dof
  rw [List.getD_eq_getElem?_getD, List.getD_eq_getElem?_getD, List.getElem?_append_left h]
theorem Dof_mid {L l m : List (Nat × Nat)} {i : Nat} (h : i < l.length) : Dof (L ++ l ++ m) (L.length + i) = (l.getD i (0, 0)).1 := by
  unfold Dof
  rw [List.getD_eq_getElem?_getD, List.getD_eq_getElem?_getD, List.getElem?_append_left (by rw [List.length_append]; omega), List.getElem?_append_right (by omega), Nat.add_sub_cancel_left]
theorem cOK.app {L l : List (Nat × Nat)} {r : CLA} (h : cOK L r) : cOK (L ++ l) r := by
  obtain ⟨h1, h2, h3, h4, h5, h6, h7⟩ := h
  refine ⟨h1, h2, h3, by rw [List.length_append]; omega, h5, fun z => ?_, fun z => ?_⟩
  · rw [← h6 z]
    exact runT_congr _ _ _ (fun i i1 i2 => Dof_app (by omega))
  · rw [← h7 z]
    exact runT_congr _ _ _ (fun i i1 i2 => Dof_app (by omega))
/-- at the end of a clause -/
def aIn (n : Nat) (st : PS) (cl : List CLA) : Prop := rdy n st ∧ (∀ e ∈ st.2.2, opK e) ∧ cl.length ≤ 12 ∧ ∀ r ∈ cl, cOK st.2.2 r
section AD
variable {c : Nat → Int32} {T n : Nat}
theorem gs.ls {b : Bool} {st0 st : PS} (h : gs n [b] 0 st0 st) : ∃ l, st.2.2 = st0.2.2 ++ l ∧ (∀ e ∈ l, opK e) ∧ 0 < l.length ∧ rl l [] = some [b] := by
  obtain ⟨h1, h2, h3, l, h4, h5, h6, h7⟩ := h
  have := h7 [] (by simp; omega)
  refine ⟨l, h4, h6, List.length_pos_iff.mpr (fun z => ?_), this⟩
  rw [z] at this
  simp [rl] at this
def clE (n : Nat) (st0 : PS) (j : Nat) (o : Except Nat (PS × CLA)) : Prop := match o with
  | .error e => erK e
  | .ok x => j < 12 ∧ st0.1 + 1 ≤ x.1.1 ∧ rdy n x.1 ∧ ∃ l, x.1.2.2 = st0.2.2 ++ l ∧ (∀ e ∈ l, opK e) ∧ cOK x.1.2.2 x.2
theorem aCla_g (hT : T ≤ 400) (hnT : n ≤ T) (hn1 : tp c T n = T) {st : PS} (hr : rdy n st) (j : Nat) : clE n st j (aCla c T j st) := by
  have rd1 : st.1 < n → rdy n (nxt st) := fun lt => ⟨lt, hr.2.1, by show st.2.2.length ≤ st.1 + 1; have := hr.2.2; omega⟩
  unfold aCla
  by_cases w8 : wo c T st.1 = 8
  · rw [if_pos w8]
    by_cases hj : j < 12
    · rw [if_pos hj]
      have lt := wo_lt hn1 hr.1 (show wo c T st.1 < 24 by omega)
      have r1 := rd1 lt
      have v := aTop_g hT hnT hn1 (st := nxt st) r1.1 r1.2.1
      cases hv : aTop c T (nxt st) with
      | error e => rw [hv] at v; exact v
      | ok s2 =>
        rw [hv] at v
        have g : gs n [true] 0 (nxt st) s2 := v
        obtain ⟨l, l1, l2, l3, l4⟩ := g.ls
        have l1' : s2.2.2 = st.2.2 ++ l := l1
        rw [rb_o]
        refine ⟨hj, by have : st.1 + 1 + 1 ≤ s2.1 := g.l0; show st.1 + 1 ≤ s2.1; omega, g.rd r1, l, l1', l2, Nat.zero_le _, Nat.le_refl _, ?_, Nat.le_refl _, fun _ => ⟨rfl, ?_⟩, fun z => absurd (show (0 : Nat) = 1 from z) (by decide), fun _ => ?_⟩
        · show st.2.2.length ≤ s2.2.2.length
          rw [l1', List.length_append]; omega
        · show st.2.2.length < s2.2.2.length
          rw [l1', List.length_append]; omega
        · show runT (Dof s2.2.2) st.2.2.length (s2.2.2.length - st.2.2.length) [] = some [true]
          rw [← l4, show s2.2.2.length - st.2.2.length = l.length by rw [l1', List.length_append]; omega]
          refine runT_rl l _ _ (fun i hi => ?_)
          have := Dof_mid (L := st.2.2) (m := []) hi
          rw [List.append_nil, ← l1'] at this
          exact this
    · rw [if_neg hj]; exact fauK hT _ (by decide)
  · rw [if_neg w8]
    by_cases w9 : wo c T st.1 = 9
    · rw [if_pos w9]
      by_cases hj : j < 12
      · rw [if_pos hj]
        have lt := wo_lt hn1 hr.1 (show wo c T st.1 < 24 by omega)
        have r1 := rd1 lt
        have v := aSum_g hT hnT hn1 (st := nxt st) r1.1 r1.2.1
        cases hv : aSum c T (nxt st) with
        | error e => rw [hv] at v; exact v
        | ok s2 =>
          rw [hv] at v
          have g : gs n [false] 0 (nxt st) s2 := v
          obtain ⟨l, l1, l2, l3, l4⟩ := g.ls
          have l1' : s2.2.2 = st.2.2 ++ l := l1
          have u2 : st.1 + 1 + 1 ≤ s2.1 := g.l0
          have r2 := g.rd r1
          rw [rb_o]
          by_cases w4 : wo c T s2.1 = 4
          · rw [if_pos w4]
            have lt2 := wo_lt hn1 r2.1 (show wo c T s2.1 < 24 by omega)
            have r3 : rdy n (nxt s2) := ⟨lt2, r2.2.1, by show s2.2.2.length ≤ s2.1 + 1; have := r2.2.2; omega⟩
            have v3 := aTop_g hT hnT hn1 (st := nxt s2) r3.1 r3.2.1
            cases hw : aTop c T (nxt s2) with
            | error e => rw [hw] at v3; exact v3
            | ok s3 =>
              rw [hw] at v3
              have g3 : gs n [true] 0 (nxt s2) s3 := v3
              obtain ⟨m, m1, m2, m3, m4⟩ := g3.ls
              have m1' : s3.2.2 = s2.2.2 ++ m := m1
              have u3 : s2.1 + 1 + 1 ≤ s3.1 := g3.l0
              rw [rb_o]
              refine ⟨hj, by show st.1 + 1 ≤ s3.1; omega, g3.rd r3, l ++ m, by show s3.2.2 = _; rw [m1', l1', List.append_assoc], fun e he => ?_, Nat.le_refl _, ?_, ?_, Nat.le_refl _, fun z => absurd (show (1 : Nat) = 0 from z) (by decide), fun _ => ?_, fun _ => ?_⟩
              · rcases List.mem_append.mp he with z | z
                · exact l2 e z
                · exact m2 e z
              · show st.2.2.length ≤ s2.2.2.length
                rw [l1', List.length_append]; omega
              · show s2.2.2.length ≤ s3.2.2.length
                rw [m1', List.length_append]; omega
              · show runT (Dof s3.2.2) st.2.2.length (s2.2.2.length - st.2.2.length) [] = some [false]
                rw [← l4, show s2.2.2.length - st.2.2.length = l.length by rw [l1', List.length_append]; omega]
                refine runT_rl l _ _ (fun i hi => ?_)
                have := Dof_mid (L := st.2.2) (m := m) hi
                rw [← l1', ← m1'] at this
                exact this
              · show runT (Dof s3.2.2) s2.2.2.length (s3.2.2.length - s2.2.2.length) [] = some [true]
                rw [← m4, show s3.2.2.length - s2.2.2.length = m.length by rw [m1', List.length_append]; omega]
                refine runT_rl m _ _ (fun i hi => ?_)
                have := Dof_mid (L := s2.2.2) (m := []) hi
                rw [List.append_nil, ← m1'] at this
                exact this
          · rw [if_neg w4]
            refine ⟨hj, by show st.1 + 1 ≤ s2.1; omega, r2, l, l1', l2, Nat.le_refl _, ?_, Nat.le_refl _, Nat.le_refl _, fun z => absurd (show (1 : Nat) = 0 from z) (by decide), fun _ => ?_, fun z => absurd (show s2.2.2.length < s2.2.2.length from z) (by omega)⟩
            · show st.2.2.length ≤ s2.2.2.length
              rw [l1', List.length_append]; omega
            · show runT (Dof s2.2.2) st.2.2.length (s2.2.2.length - st.2.2.length) [] = some [false]
              rw [← l4, show s2.2.2.length - st.2.2.length = l.length by rw [l1', List.length_append]; omega]
              refine runT_rl l _ _ (fun i hi => ?_)
              have := Dof_mid (L := st.2.2) (m := []) hi
              rw [List.append_nil, ← l1'] at this
              exact this
      · rw [if_neg hj]; exact fauK hT _ (by decide)
    · rw [if_neg w9]; exact fauK hT _ (by decide)
theorem aIn.nx {st : PS} {cl : List CLA} {x : PS × CLA} {st1 : PS} (h : aIn n st cl) (h1 : st1.2.2 = st.2.2) (g : clE n st1 cl.length (.ok x)) : aIn n x.1 (cl ++ [x.2]) := by
  obtain ⟨g1, g2, g3, l, g4, g5, g6⟩ := g
  rw [h1] at g4
  refine ⟨g3, fun e he => ?_, by rw [List.length_append]; exact g1, fun r hr => ?_⟩
  · rw [g4] at he
    rcases List.mem_append.mp he with z | z
    · exact h.2.1 e z
    · exact g5 e z
  · rcases List.mem_append.mp hr with z | z
    · rw [g4]; exact (h.2.2.2 r z).app
    · rw [List.mem_singleton.mp z]; exact g6
end AD
