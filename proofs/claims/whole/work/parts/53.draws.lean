/-! draws; an hour drawn -/
def nx (X : Nat) : Nat := (X * 1103515245 + 12345) % 2147483648
theorem nx_lt (X : Nat) : nx X < 2147483648 := Nat.mod_lt _ (by decide)
theorem nx_l {X : Nat} (hX : X < 2147483648) : lN X * (1103515245 : Int64) + (12345 : Int64) - (lN X * (1103515245 : Int64) + (12345 : Int64)) / (2147483648 : Int64) * (2147483648 : Int64) = lN (nx X) := by
  rw [show (1103515245 : Int64) = lN 1103515245 from rfl, show (12345 : Int64) = lN 12345 from rfl, show (2147483648 : Int64) = lN 2147483648 from rfl, lN_mul, lN_add, pk_lRem (by omega) (by decide) (by decide)]
  rfl
theorem c_draw {s : am_S} {X : Nat} (h : s.1 0 15 = nI X) (hX : X < 2147483648) : f_X11_draw s = some (nI (nx X / 65536), as_i s 0 15 (nI (nx X))) := by
  have hn := nx_lt X
  unfold f_X11_draw
  rw [h, nI_l (by omega), nx_l hX, lN_i, am_ltd, as_i3, pk_div (by omega) (by decide) (by decide)]
theorem m_draw {s : am_S} {X n : Nat} (h : s.2.1 248 27 = lN X) (hX : X < 2147483648) (hn : 0 < n) (hn2 : n < 2 ^ 31) : f_X12_draw (nI n) s = some (nI (nx X / 65536 % n), as_j s 248 27 (lN (nx X))) := by
  have hx := nx_lt X
  unfold f_X12_draw
  have hne : ¬ (nI n).toInt64 = 0 := by
    rw [nI_l hn2]
    show ¬ lN n = lN 0
    rw [pk_lEQ (by omega) (by decide)]
    omega
  rw [h, nx_l hX, am_ltd, am_gdt hne, jl1, nI_l hn2, show (65536 : Int64) = lN 65536 from rfl, pk_lDiv (by omega) (by decide) (by decide), pk_lRem (by omega) hn (by omega), lN_i]
/-- the class, ready to try a life out -/
def rdT (s : am_S) (ch : Int32) (m : Nat → Int32) (x : am_S) : Prop := ruS s x ∧ x.1 15 2 = ch ∧ townAt m x ∧ lifeAt m x 137
def frT (x y : am_S) : Prop := (∀ c, c ≠ 0 → c ≠ 134 → (c < 137 ∨ 142 ≤ c) → y.1 c = x.1 c) ∧ (∀ q, q ≠ 15 → y.1 0 q = x.1 0 q) ∧ y.2.2.2 = x.2.2.2 ∧ (y.2.2.1 = 137 ∨ y.2.2.1 = x.2.2.1)
theorem frT.rf (x : am_S) : frT x x := ⟨fun _ _ _ _ => rfl, fun _ _ => rfl, rfl, Or.inr rfl⟩
theorem frT.tr {x y z : am_S} (h : frT x y) (g : frT y z) : frT x z := ⟨fun c c1 c2 c3 => (g.1 c c1 c2 c3).trans (h.1 c c1 c2 c3), fun q hq => (g.2.1 q hq).trans (h.2.1 q hq), g.2.2.1.trans h.2.2.1, by
  rcases g.2.2.2 with e | e
  · exact Or.inl e
  · rw [e]; exact h.2.2.2⟩
theorem frT_0 (x : am_S) (v : Int32) : frT x (as_i x 0 15 v) := ⟨fun _ h _ _ => as_i1 h, fun _ h => as_i2 h, rfl, Or.inr rfl⟩
theorem rdT_next {s x x2 : am_S} {ch : Int32} {m n : Nat → Int32} (w : wfT m) (h : rdT s ch m x) (g : frT x x2) (a : agL m n) (l : lifeAt n x2 137) : rdT s ch n x2 := by
  refine ⟨⟨fun c c1 c2 => by rw [g.1 c (by omega) (by omega) (by omega)]; exact h.1.1 c c1 c2, by rw [g.2.1 5 (by decide)]; exact h.1.2⟩, by rw [g.1 15 (by omega) (by omega) (by omega)]; exact h.2.1, clT_eq a.t w (townAt_of h.2.2.1 (fun c c1 c2 => g.1 c (by omega) (by omega) (by omega))), l⟩
theorem lifeAt_0 {m : Nat → Int32} {x : am_S} {v : Int32} (h : lifeAt m x 137) : lifeAt m (as_i x 0 15 v) 137 := lifeAt_of h (fun c c1 c2 => as_i1 (by omega))
/-- the hour is set -/
def setH (m : Nat → Int32) (h : Nat) : Nat → Int32 := upd m 7 (nI h)
theorem setH_ag (m : Nat → Int32) (h : Nat) : agH m (setH m h) := fun j hj => upd_n (by omega)
theorem setH_n {m : Nat → Int32} {h q : Nat} (hq : q ≠ 7) : setH m h q = m q := upd_n hq
theorem lifeAt_setH {m : Nat → Int32} {x : am_S} {L h : Nat} (w : wfT m) (l : lifeAt m x L) : lifeAt (setH m h) (as_i x L 5 (nI h)) L := by
  have z : clL (setH m h) ((as_i x L 5 (nI h)).1 L) (x.1 (L + 1)) (x.1 (L + 2)) (x.1 (L + 3)) (x.1 (L + 4)) := by
    refine clL_hd (setH_ag m h) w l ?_ ?_ (fun h0 => ?_) (fun p hp => ?_)
    · rw [as_i2 (by decide), setH_n (by decide), l.1]
    · rw [as_i3]
      exact upd_s.symm
    · rw [(setH_ag m h).l.t.mF] at h0
      rw [as_i2 (by decide), as_i2 (by decide), setH_n (by decide), setH_n (by decide)]
      exact l.2.2.1 h0
    · rw [(setH_ag m h).l.t.mP, setH_n (by omega)]
      exact l.li hp
  unfold lifeAt
  rw [as_i1 (by omega : L + 1 ≠ L), as_i1 (by omega : L + 2 ≠ L), as_i1 (by omega : L + 3 ≠ L), as_i1 (by omega : L + 4 ≠ L)]
  exact z
theorem wfL_setH {K : Nat} {m : Nat → Int32} {h : Nat} (w : wfT m) (l : wfL K m) (hh : h < 24) : wfL K (setH m h) := by
  refine wfL_hd (setH_ag m h) w l (isN_eq (setH_n (by decide)) rfl l.1) (isN_nI (n := h) upd_s hh (by decide)) (fun h0 => ?_)
  rw [(setH_ag m h).l.t.mF] at h0
  rcases l.2.2.1 h0 with c | c
  · exact Or.inl (by rw [setH_n (by decide)]; exact c)
  · exact Or.inr (isN_eq (setH_n (by decide)) (setH_ag m h).l.t.mP c)
/-- lies of the day -/
theorem sumI_add1 {g g2 : Nat → Int32} {j : Nat} (h : g2 j = g j + 1) (h2 : ∀ i, i ≠ j → g2 i = g i) : ∀ n, j < n → sumI g2 n = sumI g n + 1
  | 0, hj => by omega
  | n + 1, hj => by
    rw [sumI, sumI]
    by_cases e : j = n
    · subst e
      rw [h, sumI_congr j (fun i hi => h2 i (by omega)), Int32.add_assoc]
    · rw [h2 n (fun z => e z.symm), sumI_add1 h h2 n (by omega), Int32.add_assoc, Int32.add_comm 1, Int32.add_assoc]
theorem liesM_said {m : Nat → Int32} {i j f : Nat} {v : Int32} {lie : Bool} (w : wfT m) (hj : j < mP m) (hf : f < 8) : liesM (saidM m i j f v lie) = liesM m + b01 (lie = true) := by
  have hP := w.P7
  have ag : agL m (saidM m i j f v lie) := by
    unfold saidM
    cases lie with
    | false => exact toldM_agL (by omega) hf
    | true => exact (liedM_agL (by omega)).tr (toldM_agL (by omega) hf)
  have e : ∀ p, p < 7 → saidM m i j f v lie (123 + p) = (if lie then liedM m j else m) (123 + p) := fun p hp => by
    unfold saidM
    exact toldM_n (by omega) (by omega)
  unfold liesM
  rw [ag.t.mP]
  cases lie with
  | false =>
    rw [b01_f (by decide), az]
    exact sumI_congr _ (fun p hp => e p (by omega))
  | true =>
    rw [b01_t rfl]
    have e2 : sumI (fun p => saidM m i j f v true (123 + p)) (mP m) = sumI (fun p => liedM m j (123 + p)) (mP m) := sumI_congr _ (fun p hp => e p (by omega))
    rw [e2]
    exact sumI_add1 (j := j) liedM_at (fun p hp => by
      by_cases c : p < 7
      · exact liedM_n (by omega) (by omega) (by omega)
      · exact liedM_n (by omega) (by omega) (by omega)) (mP m) hj
theorem c_drawE {s : am_S} {X X1 q : Nat} (h : s.1 0 15 = nI X) (hX : X < 2147483648) (e1 : nx X = X1) (e2 : nx X / 65536 = q) : ∃ s2, f_X11_draw s = some (nI q, s2) ∧ frT s s2 ∧ (∀ c, c ≠ 0 → s2.1 c = s.1 c) ∧ s2.1 0 15 = nI X1 ∧ s2.2 = s.2 := by
  refine ⟨as_i s 0 15 (nI (nx X)), c_draw h hX |>.trans (by rw [e2]), frT_0 _ _, fun c hc => as_i1 hc, ?_, rfl⟩
  rw [as_i3, e1]
theorem m_drawE {s : am_S} {X X1 n r : Nat} (h : s.2.1 248 27 = lN X) (hX : X < 2147483648) (hn : 0 < n) (hn2 : n < 2 ^ 31) (e1 : nx X = X1) (e2 : nx X / 65536 % n = r) : ∃ s2, f_X12_draw (nI n) s = some (nI r, s2) ∧ s2.1 = s.1 ∧ s2.2.2 = s.2.2 ∧ s2.2.1 248 27 = lN X1 := by
  refine ⟨as_j s 248 27 (lN (nx X)), m_draw h hX hn hn2 |>.trans (by rw [e2]), rfl, rfl, ?_⟩
  rw [jl1, e1]
/-- who tells whom, of a street -/
theorem whom {P a b fl : Nat} (ha : a < P) (hb : b < P) (hab : a ≠ b) (hP : P ≤ 7) : ∃ i j, i < P ∧ j < P ∧
      (∀ (v25 v31 v34 : Int32) (s33 : am_S), (am_lt (if nI b < nI a then nI b else nI a) (fun v37 => am_lt (if nI a < nI b then nI b else nI a) (fun v40 => am_if ((if fl = 0 then (1 : Int32) else 0) = 0) (am_if ((if fl = 0 then (1 : Int32) else 0) = 0) (j_X11_tryDay_202 v37 v40 v25 v31 v34 s33) (j_X11_tryDay_202 v40 v40 v25 v31 v34 s33)) (am_if ((if fl = 0 then (1 : Int32) else 0) = 0) (j_X11_tryDay_202 v37 v37 v25 v31 v34 s33) (j_X11_tryDay_202 v40 v37 v25 v31 v34 s33))))) = j_X11_tryDay_202 (nI j) (nI i) v25 v31 v34 s33) ∧
      (∀ (v21 v22 : Int32) (s25 : am_S), j_X12_drawsDay_85 (if fl = 0 then (1 : Int32) else 0) v21 v22 (nI a) (nI b) s25 = j_X12_drawsDay_111 (nI i) v21 v22 (nI a) (nI b) s25) ∧ (nI a + nI b) - nI i = nI j := by
  by_cases cf : fl = 0
  · by_cases cl : a < b
    · refine ⟨a, b, ha, hb, fun v25 v31 v34 s33 => ?_, fun v21 v22 s25 => ?_, ?_⟩
      · rw [if_neg (nI_nlt (by omega) (by omega)), if_pos (nI_lt cl (by omega)), if_pos cf, am_ltd, am_ltd, am_iff (by decide), am_iff (by decide)]
      · unfold j_X12_drawsDay_85
        rw [am_iff (nI_ge cl (by omega)), if_pos cf, am_ift rfl]
      · rw [nI_add, pk_sub (by omega), show a + b - a = b by omega]
    · refine ⟨b, a, hb, ha, fun v25 v31 v34 s33 => ?_, fun v21 v22 s25 => ?_, ?_⟩
      · rw [if_pos (nI_lt (by omega) (by omega)), if_neg (nI_nlt (by omega) (by omega)), if_pos cf, am_ltd, am_ltd, am_iff (by decide), am_iff (by decide)]
      · unfold j_X12_drawsDay_85
        rw [am_ift (nI_le (by omega) (by omega)), if_pos cf, am_iff (by decide)]
      · rw [nI_add, pk_sub (by omega), show a + b - b = a by omega]
  · by_cases cl : a < b
    · refine ⟨b, a, hb, ha, fun v25 v31 v34 s33 => ?_, fun v21 v22 s25 => ?_, ?_⟩
      · rw [if_neg (nI_nlt (by omega) (by omega)), if_pos (nI_lt cl (by omega)), if_neg cf, am_ltd, am_ltd, am_ift rfl, am_ift rfl]
      · unfold j_X12_drawsDay_85
        rw [am_iff (nI_ge cl (by omega)), if_neg cf, am_iff (by decide)]
      · rw [nI_add, pk_sub (by omega), show a + b - b = a by omega]
    · refine ⟨a, b, ha, hb, fun v25 v31 v34 s33 => ?_, fun v21 v22 s25 => ?_, ?_⟩
      · rw [if_pos (nI_lt (by omega) (by omega)), if_neg (nI_nlt (by omega) (by omega)), if_neg cf, am_ltd, am_ltd, am_ift rfl, am_ift rfl]
      · unfold j_X12_drawsDay_85
        rw [am_ift (nI_le (by omega) (by omega)), if_neg cf, am_ift rfl]
      · rw [nI_add, pk_sub (by omega), show a + b - a = b by omega]
theorem hourTn {K : Nat} {m : Nat → Int32} {s : am_S} {rn : Nat} {ch : Int32} {X h X1 X2 X3 X4 q1 q2 q3 q4 st fl fa sa : Nat} (hrn : rn ≤ 6) (hR : ∀ r, r < rn → pRule r s) (h5 : s.1 0 5 = nI rn) (hch : ch = -1 ∨ ∃ r, r < rn ∧ ch = nI r) (w : wfT m) (lk : wfL K m) (hS : 0 < mS m) (hF0 : 0 < mF m) (hX : X < 2147483648) (hh : h < 12)
    (e1 : nx X = X1) (e2 : nx X1 = X2) (e3 : nx X2 = X3) (e4 : nx X3 = X4) (p1 : nx X / 65536 = q1) (p2 : nx X1 / 65536 = q2) (p3 : nx X2 / 65536 = q3) (p4 : nx X3 / 65536 = q4) (k1 : q1 % mS m = st) (k2 : q2 % 2 = fl) (k3 : q3 % mF m = fa) (k4 : q4 % 2 = sa) (b1 : X1 < 2147483648) (b2 : X2 < 2147483648) (b3 : X3 < 2147483648) (c1 : q1 < 2147483648) (c2 : q2 < 2147483648) (c3 : q3 < 2147483648) (c4 : q4 < 2147483648) (hst : st < mS m) (hfl : fl < 2) (hfa : fa < mF m) (hsa : sa < 2) : ∃ (d : Int32) (m2 : Nat → Int32), agL m m2 ∧ wfL K m2 ∧ m2 6 = m 6 ∧ liesM m2 = liesM m + d ∧
    (∀ x p1, rdT s ch m x → x.1 0 15 = nI X → ∃ x2, b_X11_tryDay_55 p1 (nI 12) (nI (mS m)) (nI (mF m)) (nI h) x = some (.inl (nI (h + 1), x2)) ∧ lifeAt m2 x2 137 ∧ frT x x2 ∧ x2.1 0 15 = nI X4) ∧
    (∀ y acc, rdM s ch m y → y.2.1 248 27 = lN X → ∃ y2, b_X12_drawsDay_8 acc (nI h) y = some (.inl (acc + d, nI (h + 1), y2)) ∧ y2.1 258 = m2 ∧ frM y y2 ∧ y2.2.1 248 27 = lN X4) := by
  have hP := w.P7
  have hF := w.F8
  have hS10 := w.S10
  obtain ⟨n1, n2, n3⟩ := w.okS.2.2.2.2 _ hst
  have l1 : mA m st < mP m := n1.2
  have l2 : mB m st < mP m := n2.2
  have w1 : m (179 + 2 * st) = nI (mA m st) := n1.e
  have w2 : m (179 + 2 * st + 1) = nI (mB m st) := n2.e
  generalize mA m st = a at *
  generalize mB m st = b at *
  obtain ⟨i, j, hi, hj, hc, hmm, hij⟩ := whom (fl := fl) l1 l2 n3 hP
  have agh := setH_ag m h
  have wh := wfT_eq agh.l.t w
  have hv : nI sa = 0 ∨ nI sa = 1 := by
    have : sa = 0 ∨ sa = 1 := by omega
    rcases this with e | e <;> rw [e]
    · exact Or.inl rfl
    · exact Or.inr rfl
  obtain ⟨lie, ag, lw, kc, km⟩ := say_both (m := setH m h) (i := i) (j := j) (f := fa) (v := nI sa) (z := 0) hrn hR h5 hch wh (wfL_setH w lk (by omega)) (by rw [agh.l.t.mP]; exact hi) (by rw [agh.l.t.mP]; exact hj) (by rw [agh.l.t.mF]; exact hfa) hv (Or.inl rfl)
  have hl0 : liesM (setH m h) = liesM m := by
    unfold liesM
    rw [agh.l.t.mP]
    exact sumI_congr _ (fun p hp => setH_n (by omega))
  refine ⟨b01 (lie = true), saidM (setH m h) i j fa (nI sa) lie, agh.l.tr ag, lw, ?_, ?_, fun x pp hx h0 => ?_, fun y acc hy h0 => ?_⟩
  · rw [(saidM_67 (by omega) (by omega)).1, setH_n (by decide)]
  · rw [liesM_said wh (by rw [agh.l.t.mP]; exact hj) (by omega), hl0]
  · generalize hx1 : as_i x 137 5 (nI h) = x1
    have f1 : frT x x1 := by
      rw [← hx1]
      exact ⟨fun c c1 c2 c3 => as_i1 (by omega), fun q hq => by rw [as_i1 (by decide)], rfl, Or.inr rfl⟩
    have r1 : rdT s ch (setH m h) x1 := rdT_next w hx f1 agh.l (by rw [← hx1]; exact lifeAt_setH w hx.2.2.2)
    have v0 : x1.1 0 15 = nI X := by rw [← hx1, as_i1 (by decide)]; exact h0
    obtain ⟨y1, d1, fr1, o1, v1, z1⟩ := c_drawE v0 hX e1 p1
    obtain ⟨y2, d2, fr2, o2, v2, z2⟩ := c_drawE v1 b1 e2 p2
    obtain ⟨y3, d3, fr3, o3, v3, z3⟩ := c_drawE v2 b2 e3 p3
    obtain ⟨x4, d4, fr4, o4, v4, z4⟩ := c_drawE v3 b3 e4 p4
    have f4 : frT x1 x4 := ((fr1.tr fr2).tr fr3).tr fr4
    have oo : ∀ c, c ≠ 0 → x4.1 c = x1.1 c := fun c hc => by rw [o4 c hc, o3 c hc, o2 c hc, o1 c hc]
    obtain ⟨g19, g20⟩ := r1.2.2.1.st st (by rw [agh.l.t.mS]; exact hst)
    have e19 : x4.1 19 st = nI a := by rw [oo 19 (by decide), g19, setH_n (by omega)]; exact w1
    have e20 : x4.1 20 st = nI b := by rw [oo 20 (by decide), g20, setH_n (by omega)]; exact w2
    have r4 : rdT s ch (setH m h) x4 := rdT_next wh r1 f4 (agL.rf _) (lifeAt_of r1.2.2.2 (fun c c1 c2 => oo c (by omega)))
    have j93 : ∀ v24 : Int32, v24 = (if fl = 0 then (1 : Int32) else 0) → j_X11_tryDay_93 (nI (mF m)) v24 (nI h) (nI st) y2 = j_X11_tryDay_202 (nI j) (nI i) (nI h) (nI fa) (nI sa) x4 := by
      intro v24 hv24
      unfold j_X11_tryDay_93
      rw [d3, am_b2s, am_gdt (nI_ne0 hF0 (by omega)), pk_rem (by omega) hF0 (by omega), k3, am_ltd, d4, am_b2s, pk_rem (by omega) (by decide) (by decide), k4, am_ltd, gd_nI (by omega) (by decide), gd_nI (by omega) (by decide), cL (by omega), e19, e20, ← hc (nI h) (nI fa) (nI sa) x4, hv24]
      simp (disch := omega) only [am_ltd, gd2]
    obtain ⟨u, u1, u2, u3, u4, u5, u6, u7, u8⟩ := c_prepare (s := x4) (p := nI i) (q := nI j) (f := nI fa) (v := nI sa) (show 137 ∈ am_isL by decide)
    have uL : u.2.2.1 = 137 := by rw [u3]
    have fu : frT x4 u := ⟨fun c c1 c2 c3 => u2 c c2, fun q hq => by rw [u2 0 (by decide)], by rw [u3], Or.inl uL⟩
    have ru : rdT s ch (setH m h) u := rdT_next wh r4 fu (agL.rf _) (lifeAt_of r4.2.2.2 (fun c c1 c2 => u2 c (by omega)))
    obtain ⟨z, zz1, zz2, zz3, zz4⟩ := kc u ru.1 ru.2.1 ⟨ru.2.2.1, by rw [uL]; decide, by rw [uL]; exact ru.2.2.2, u4, u5, u6, u7, u8⟩ (by rw [uL]; omega)
    rw [uL] at zz2 zz3
    have fz : frT u z := ⟨fun c c1 c2 c3 => zz3 c (by omega), fun q hq => by rw [zz3 0 (by omega)], by rw [zz4], Or.inr (by rw [zz4])⟩
    refine ⟨z, ?_, zz2, ((f1.tr f4).tr fu).tr fz, by rw [zz3 0 (by omega), u2 0 (by decide)]; exact v4⟩
    have e202 : j_X11_tryDay_202 (nI j) (nI i) (nI h) (nI fa) (nI sa) x4 = some (.inl (nI (h + 1), z)) := by
      unfold j_X11_tryDay_202
      rw [u1, am_bds, zz1, am_b2s, am_ltd, nI_1]
    unfold b_X11_tryDay_55
    rw [am_iff (nI_ge hh (by decide)), am_ltd, hx1, d1, am_b2s, am_gdt (nI_ne0 hS (by omega)), pk_rem (by omega) hS (by omega), k1, am_ltd, d2, am_b2s, pk_rem (by omega) (by decide) (by decide), k2]
    by_cases cf : fl = 0
    · rw [am_ift (by rw [cf]; decide), j93 1 (by rw [if_pos cf]), e202]
    · rw [am_iff (nI_ne0 (by omega) (by omega)), j93 0 (by rw [if_neg cf]), e202]
  · generalize hy0 : as_i y 258 7 (nI h) = y0
    have m0 : y0.1 258 = setH m h := by
      rw [← hy0]
      funext q
      unfold setH
      by_cases e : q = 7
      · subst e; rw [as_i3, upd_s]
      · rw [as_i2 e, upd_n e, hy.2.1]
    have a0 : ∀ c, c ≠ 258 → y0.1 c = y.1 c := fun c hc => by rw [← hy0, as_i1 hc]
    have z0 : y0.2 = y.2 := by rw [← hy0, as_i4]
    have v0 : y0.2.1 248 27 = lN X := by rw [z0]; exact h0
    obtain ⟨y1, d1, o1, t1, v1⟩ := m_drawE (n := mS m) (r := st) v0 hX hS (by omega) e1 (by rw [p1]; exact k1)
    obtain ⟨y2, d2, o2, t2, v2⟩ := m_drawE (n := 2) (r := fl) v1 b1 (by decide) (by decide) e2 (by rw [p2]; exact k2)
    obtain ⟨y3, d3, o3, t3, v3⟩ := m_drawE (n := mF m) (r := fa) v2 b2 hF0 (by omega) e3 (by rw [p3]; exact k3)
    obtain ⟨y4, d4, o4, t4, v4⟩ := m_drawE (n := 2) (r := sa) v3 b3 (by decide) (by decide) e4 (by rw [p4]; exact k4)
    have oo : y4.1 = y0.1 := by rw [o4, o3, o2, o1]
    have tt : y4.2.2 = y.2.2 := by rw [t4, t3, t2, t1, z0]
    obtain ⟨y5, r1, r2, r3, r4, r5, r6⟩ := km y4 ⟨by rw [oo, a0 250 (by decide)]; exact hy.1.1, by rw [oo, a0 252 (by decide)]; exact hy.1.2.1, by rw [oo, a0 253 (by decide)]; exact hy.1.2.2⟩ (by rw [oo]; exact m0) (by rw [oo, a0 248 (by decide)]; exact hy.2.2)
    refine ⟨y5, ?_, r2, ⟨fun c c1 c2 c3 => by rw [r3 c c1 c2 c3, oo, a0 c c2], fun q hq => by rw [r4 q hq, oo, a0 248 (by decide)], r5.trans tt⟩, by rw [r6]; exact v4⟩
    have e111 : j_X12_drawsDay_111 (nI i) acc (nI h) (nI a) (nI b) y2 = some (.inl (acc + b01 (lie = true), nI (h + 1), y5)) := by
      have hF1 : y2.1 258 0 = nI (mF m) := by
        rw [o2, o1, m0, setH_n (by decide)]
        exact w.F1
      unfold j_X12_drawsDay_111
      rw [hF1, hij, d3, am_b2s, d4, am_b2s, r1, am_b2s, am_ltd, am_ltd, nI_1]
    have hS1 : y0.1 258 3 = nI (mS m) := by
      rw [m0, setH_n (by decide)]
      exact w.S1
    unfold b_X12_drawsDay_8
    rw [am_iff (nI_ge hh (by decide)), hy.2.1, am_iff (by rw [w.S1]; exact nI_nle hS (by omega)), am_ltd, hy0, hS1, d1, am_b2s, pk_mul, nI_add, am_ltd, gd_nI (by omega) (by decide), cL (by omega), am_ltd, nI_1, am_ltd, gd_nI (by omega) (by decide), cL (by omega), am_ltd]
    rw [o1, m0, setH_n (by omega), setH_n (by omega), w1, w2, d2, am_b2s]
    have pick : am_if (nI fl = 0) (j_X12_drawsDay_85 (1 : Int32) acc (nI h) (nI a) (nI b) y2) (j_X12_drawsDay_85 (0 : Int32) acc (nI h) (nI a) (nI b) y2) = j_X12_drawsDay_111 (nI i) acc (nI h) (nI a) (nI b) y2 := by
      rw [← hmm acc (nI h) y2]
      by_cases cf : fl = 0
      · rw [am_ift (by rw [cf]; decide), if_pos cf]
      · rw [am_iff (nI_ne0 (by omega) (by omega)), if_neg cf]
    rw [pick, e111]
theorem hourT {K : Nat} {m : Nat → Int32} {s : am_S} {rn : Nat} {ch : Int32} {X h : Nat} (hrn : rn ≤ 6) (hR : ∀ r, r < rn → pRule r s) (h5 : s.1 0 5 = nI rn) (hch : ch = -1 ∨ ∃ r, r < rn ∧ ch = nI r) (w : wfT m) (lk : wfL K m) (hS : 0 < mS m) (hF0 : 0 < mF m) (hX : X < 2147483648) (hh : h < 12) : ∃ (d : Int32) (m2 : Nat → Int32) (X2 : Nat), agL m m2 ∧ wfL K m2 ∧ m2 6 = m 6 ∧ liesM m2 = liesM m + d ∧ X2 < 2147483648 ∧
    (∀ x p1, rdT s ch m x → x.1 0 15 = nI X → ∃ x2, b_X11_tryDay_55 p1 (nI 12) (nI (mS m)) (nI (mF m)) (nI h) x = some (.inl (nI (h + 1), x2)) ∧ lifeAt m2 x2 137 ∧ frT x x2 ∧ x2.1 0 15 = nI X2) ∧
    (∀ y acc, rdM s ch m y → y.2.1 248 27 = lN X → ∃ y2, b_X12_drawsDay_8 acc (nI h) y = some (.inl (acc + d, nI (h + 1), y2)) ∧ y2.1 258 = m2 ∧ frM y y2 ∧ y2.2.1 248 27 = lN X2) := by
  obtain ⟨X1, e1⟩ : ∃ X1, nx X = X1 := ⟨_, rfl⟩
  obtain ⟨X2, e2⟩ : ∃ X2, nx X1 = X2 := ⟨_, rfl⟩
  obtain ⟨X3, e3⟩ : ∃ X3, nx X2 = X3 := ⟨_, rfl⟩
  obtain ⟨X4, e4⟩ : ∃ X4, nx X3 = X4 := ⟨_, rfl⟩
  have b1 : X1 < 2147483648 := by rw [← e1]; exact nx_lt X
  have b2 : X2 < 2147483648 := by rw [← e2]; exact nx_lt X1
  have b3 : X3 < 2147483648 := by rw [← e3]; exact nx_lt X2
  have b4 : X4 < 2147483648 := by rw [← e4]; exact nx_lt X3
  have dl : ∀ z : Nat, z < 2147483648 → z / 65536 < 2147483648 := fun z hz => Nat.lt_of_le_of_lt (Nat.div_le_self _ _) hz
  obtain ⟨d, m2, g1, g2, g3, g4, g5, g6⟩ := hourTn (K := K) (m := m) (s := s) (ch := ch) (h := h) (q1 := X1 / 65536) (q2 := X2 / 65536) (q3 := X3 / 65536) (q4 := X4 / 65536) (st := X1 / 65536 % mS m) (fl := X2 / 65536 % 2) (fa := X3 / 65536 % mF m) (sa := X4 / 65536 % 2) hrn hR h5 hch w lk hS hF0 hX hh e1 e2 e3 e4 (by rw [e1]) (by rw [e2]) (by rw [e3]) (by rw [e4]) (Eq.refl _) (Eq.refl _) (Eq.refl _) (Eq.refl _) b1 b2 b3 (dl _ b1) (dl _ b2) (dl _ b3) (dl _ b4) (Nat.mod_lt _ hS) (Nat.mod_lt _ (by decide)) (Nat.mod_lt _ hF0) (Nat.mod_lt _ (by decide))
  exact ⟨d, m2, X4, g1, g2, g3, g4, b4, g5, g6⟩
