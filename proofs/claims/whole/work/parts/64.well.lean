/-! what is read is well made -/
def opK (e : Nat × Nat) : Prop := e.1 ≤ 14 ∧ e.2 < 100000 ∧ (e.1 = 1 → okWord e.2)
def rl : List (Nat × Nat) → List Bool → Option (List Bool)
  | [], st => some st
  | e :: l, st => match stepT e.1 st with
    | none => none
    | some st2 => if st2.length ≤ 64 then rl l st2 else none
theorem rl_app : ∀ (l1 l2 : List (Nat × Nat)) (st : List Bool), rl (l1 ++ l2) st = (rl l1 st).bind (rl l2)
  | [], l2, st => rfl
  | e :: l1, l2, st => by
    rw [List.cons_append, rl, rl]
    cases stepT e.1 st with
    | none => rfl
    | some st2 =>
      dsimp only
      split
      · exact rl_app l1 l2 st2
      · rfl
def erK (e : Nat) : Prop := 0 < e ∧ e < 4000
/-- from st0 to st steps were laid that put A on the stack; x more may be laid -/
def gs (n : Nat) (A : List Bool) (x : Nat) (st0 st : PS) : Prop := st.1 ≤ n ∧ st.2.1 ≤ 60 ∧ st0.2.1 + A.length ≤ st.2.1 ∧ ∃ l, st.2.2 = st0.2.2 ++ l ∧ l.length + st0.1 + x ≤ st.1 ∧ (∀ e ∈ l, opK e) ∧ ∀ stk : List Bool, stk.length + (st.2.1 - st0.2.1) ≤ 64 → rl l stk = some (A ++ stk)
theorem gs.rf {n : Nat} {st : PS} (h1 : st.1 ≤ n) (h2 : st.2.1 ≤ 60) : gs n [] 0 st st := ⟨h1, h2, by simp, [], by simp, by simp, fun e he => by simp at he, fun stk _ => rfl⟩
theorem gs.cm {n x : Nat} {A B : List Bool} {st0 st st2 : PS} (h : gs n A x st0 st) (g : gs n B 0 st st2) : gs n (B ++ A) x st0 st2 := by
  obtain ⟨h1, h2, h3, l, h4, h5, h6, h7⟩ := h
  obtain ⟨g1, g2, g3, l2, g4, g5, g6, g7⟩ := g
  refine ⟨g1, g2, by rw [List.length_append]; omega, l ++ l2, by rw [g4, h4, List.append_assoc], by rw [List.length_append]; omega, fun e he => ?_, fun stk hs => ?_⟩
  · rcases List.mem_append.mp he with z | z
    · exact h6 e z
    · exact g6 e z
  · rw [rl_app, h7 stk (by omega)]
    show rl l2 (A ++ stk) = _
    rw [g7 (A ++ stk) (by rw [List.length_append]; omega), List.append_assoc]
theorem gs.nx {n x : Nat} {A : List Bool} {st0 st : PS} (h : gs n A x st0 st) (hn : st.1 < n) : gs n A (x + 1) st0 (nxt st) := by
  obtain ⟨h1, h2, h3, l, h4, h5, h6, h7⟩ := h
  exact ⟨hn, h2, h3, l, h4, by show _ ≤ st.1 + 1; omega, h6, h7⟩
theorem gs.le {n x y : Nat} {A : List Bool} {st0 st : PS} (h : gs n A x st0 st) (hx : y ≤ x) : gs n A y st0 st := by
  obtain ⟨h1, h2, h3, l, h4, h5, h6, h7⟩ := h
  exact ⟨h1, h2, h3, l, h4, by omega, h6, h7⟩
theorem gs.mo {n x : Nat} {A : List Bool} {st0 st : PS} (h : gs n A x st0 st) (hk : st.2.1 < 60) : gs n A x st0 (mor st) := by
  obtain ⟨h1, h2, h3, l, h4, h5, h6, h7⟩ := h
  exact ⟨h1, hk, by show _ ≤ st.2.1 + 1; omega, l, h4, h5, h6, fun stk hs => h7 stk (by have : stk.length + (st.2.1 + 1 - st0.2.1) ≤ 64 := hs; omega)⟩
theorem gs.em {n x d v : Nat} {A B : List Bool} {st0 st : PS} (h : gs n A (x + 1) st0 st) (ho : opK (d, v)) (hs : ∀ stk, stepT d (A ++ stk) = some (B ++ stk)) (hl : B.length ≤ A.length) : gs n B x st0 (emi d v st) := by
  obtain ⟨h1, h2, h3, l, h4, h5, h6, h7⟩ := h
  refine ⟨h1, h2, by show _ ≤ st.2.1; omega, l ++ [(d, v)], ?_, ?_, fun e he => ?_, fun stk hk => ?_⟩
  · show st.2.2 ++ [(d, v)] = _
    rw [h4, List.append_assoc]
  · rw [List.length_append]
    show l.length + 1 + st0.1 + x ≤ st.1
    omega
  · rcases List.mem_append.mp he with z | z
    · exact h6 e z
    · rw [List.mem_singleton.mp z]; exact ho
  · have hk2 : stk.length + (st.2.1 - st0.2.1) ≤ 64 := hk
    rw [rl_app, h7 stk hk2]
    show rl [(d, v)] (A ++ stk) = _
    rw [rl, hs]
    dsimp only
    rw [if_pos (by rw [List.length_append]; omega)]
    rfl
/-- the outcome is well made -/
def gE (n : Nat) (A : List Bool) (st0 : PS) (o : Except Nat PS) : Prop := match o with
  | .error e => erK e
  | .ok st => gs n A 0 st0 st
section WM
variable {c : Nat → Int32} {T n : Nat}
theorem fauK (hT : T ≤ 400) (i : Nat) {k : Nat} (hk : k ≤ 4) : erK (fau c T i k) := by
  have := tp_le (c := c) (T := T) i
  unfold erK fau
  omega
theorem tp_lt (hn1 : tp c T n = T) {i : Nat} (hi : i ≤ n) (h : tp c T i < T) : i < n := by
  rcases Nat.lt_or_ge i n with z | z
  · exact z
  · rw [show i = n by omega] at h; omega
theorem kd_lt (hn1 : tp c T n = T) {i : Nat} (hi : i ≤ n) (h : kd c T i ≠ 0) : i < n := tp_lt hn1 hi (by
  rcases Nat.lt_or_ge (tp c T i) T with z | z
  · exact z
  · exact absurd (KD_0.mpr (by omega)) h)
theorem wo_lt (hn1 : tp c T n = T) {i : Nat} (hi : i ≤ n) (h : wo c T i < 24) : i < n := tp_lt hn1 hi (wd_T h)
theorem bt_lt (hn1 : tp c T n = T) {i b : Nat} (hi : i ≤ n) (h : bt c T i b) : i < n := tp_lt hn1 hi h.1
theorem aop_lt (hn1 : tp c T n = T) {i : Nat} (hi : i ≤ n) (h : aop c T i ≠ 0) : i < n := by
  unfold aop at h
  split at h
  · rename_i z; exact bt_lt hn1 hi z
  · split at h
    · rename_i z; exact bt_lt hn1 hi z
    · split at h
      · rename_i z; exact bt_lt hn1 hi z
      · split at h
        · rename_i z; exact bt_lt hn1 hi z
        · split at h
          · rename_i z; exact bt_lt hn1 hi z
          · exact absurd rfl h
theorem aop_r (i : Nat) : aop c T i = 0 ∨ (5 ≤ aop c T i ∧ aop c T i ≤ 9) := by
  unfold aop
  split
  · omega
  · split
    · omega
    · split
      · omega
      · split
        · omega
        · split <;> omega
theorem isVW_ok {w : Nat} : isVW w = true ↔ okWord w := by unfold isVW okWord; exact decide_eq_true_iff
theorem isVW_24 {w : Nat} (h : isVW w = true) : w < 24 := by
  have := isVW_ok.mp h
  unfold okWord at this
  omega
theorem aVal_g (hT : T ≤ 400) (hn1 : tp c T n = T) {st : PS} (hi : st.1 ≤ n) (hk : st.2.1 ≤ 60) : gE n [false] st (aVal c T st) := by
  have val : ∀ d v, d < 2 → opK (d, v) → st.1 < n → st.2.1 < 60 → gs n [false] 0 st (nxt (mor (emi d v st))) := fun d v hd ho h1 h2 => by
    refine ⟨h1, h2, by show _ ≤ st.2.1 + 1; simp, [(d, v)], rfl, by show _ ≤ st.1 + 1; simp; omega, fun e he => by rw [List.mem_singleton.mp he]; exact ho, fun stk hs => ?_⟩
    have hs2 : stk.length + (st.2.1 + 1 - st.2.1) ≤ 64 := hs
    rw [rl]
    unfold stepT
    rw [if_pos hd]
    dsimp only
    rw [if_pos (by rw [List.length_cons]; omega)]
    rfl
  unfold aVal
  by_cases c3 : kd c T st.1 = 3
  · rw [if_pos c3]; exact fauK hT _ (by decide)
  · rw [if_neg c3]
    by_cases c2 : kd c T st.1 = 2
    · rw [if_pos c2]
      by_cases ck : st.2.1 < 60
      · rw [if_pos ck]
        exact val 0 _ (by decide) ⟨Nat.zero_le _, nv_ok hT c2, fun z => absurd (show (0 : Nat) = 1 from z) (by decide)⟩ (kd_lt hn1 hi (by omega)) ck
      · rw [if_neg ck]; exact fauK hT _ (by decide)
    · rw [if_neg c2]
      by_cases cw : isVW (wo c T st.1) = true
      · rw [if_pos cw]
        have w24 := isVW_24 cw
        by_cases ck : st.2.1 < 60
        · rw [if_pos ck]
          exact val 1 _ (by decide) ⟨by show 1 ≤ 14; decide, by show wo c T st.1 < 100000; omega, fun _ => isVW_ok.mp cw⟩ (wo_lt hn1 hi w24) ck
        · rw [if_neg ck]; exact fauK hT _ (by decide)
      · rw [if_neg cw]; exact fauK hT _ (by decide)
theorem st_ar {o : Nat} (h : 5 ≤ o ∧ o ≤ 9) (stk : List Bool) : stepT o (false :: false :: stk) = some (false :: stk) := by
  unfold stepT
  rw [if_neg (by omega)]
  try dsimp only
  rw [if_neg (by omega)]
  try dsimp only
  rw [if_neg (by omega)]
  simp
  omega
theorem st_cm {o : Nat} (h : 10 ≤ o ∧ o ≤ 14) (stk : List Bool) : stepT o (false :: false :: stk) = some (true :: stk) := by
  unfold stepT
  rw [if_neg (by omega)]
  try dsimp only
  rw [if_neg (by omega)]
  try dsimp only
  rw [if_neg (by omega)]
  simp
  omega
theorem opK_0 {d : Nat} (h : 2 ≤ d ∧ d ≤ 14) : opK (d, 0) := ⟨h.2, by show 0 < 100000; decide, fun z => by have : d = 1 := z; omega⟩
theorem gs.ix {x : Nat} {A : List Bool} {st0 st : PS} (h : gs n A x st0 st) : st.1 ≤ n := h.1
theorem gs.kx {x : Nat} {A : List Bool} {st0 st : PS} (h : gs n A x st0 st) : st.2.1 ≤ 60 := h.2.1
theorem gs.up {x : Nat} {A : List Bool} {st0 st : PS} (h : gs n A x st0 st) : st0.1 + x ≤ st.1 := by
  obtain ⟨h1, h2, h3, l, h4, h5, h6, h7⟩ := h
  omega
theorem emw_ix (w : Nat) (st : PS) : (emw w st).1 = st.1 ∧ (emw w st).2.1 = st.2.1 := by
  unfold emw
  split
  · exact ⟨rfl, rfl⟩
  · exact ⟨rfl, rfl⟩
theorem gs.ew {w : Nat} {st0 st : PS} (hw : w = 0 ∨ (5 ≤ w ∧ w ≤ 9)) (h : gs n (if w = 0 then [false] else [false, false]) (if w = 0 then 0 else 1) st0 st) : gs n [false] 0 st0 (emw w st) := by
  unfold emw
  by_cases w0 : w = 0
  · rw [if_pos w0] at h ⊢
    rw [if_pos w0] at h
    exact h
  · rw [if_neg w0] at h ⊢
    rw [if_neg w0] at h
    exact h.em (opK_0 (by omega)) (fun stk => st_ar (by omega) stk) (by decide)
theorem aSumL_g (hT : T ≤ 400) (hn1 : tp c T n = T) : ∀ (f w : Nat) (st0 st : PS), (w = 0 ∨ (5 ≤ w ∧ w ≤ 9)) → n < st.1 + f → gs n (if w = 0 then [false] else [false, false]) (if w = 0 then 0 else 1) st0 st → gE n [false] st0 (aSumL c T f w st) := by
  intro f
  induction f with
  | zero => intro w st0 st hw hf h; have := h.ix; omega
  | succ f ih =>
    intro w st0 st hw hf h
    rw [aSumL]
    by_cases c0 : aop c T st.1 = 0
    · rw [if_pos c0]; exact h.ew hw
    · rw [if_neg c0]
      have r := aop_r (c := c) (T := T) st.1
      have lt := aop_lt hn1 h.ix c0
      by_cases c7 : aop c T st.1 < 7
      · rw [if_pos c7]
        have h1 := (h.ew hw).nx (by rw [(emw_ix w st).1]; exact lt)
        have v := aVal_g hT hn1 (st := nxt (emw w st)) h1.ix h1.kx
        cases hv : aVal c T (nxt (emw w st)) with
        | error e => rw [hv] at v; exact v
        | ok s2 =>
          rw [hv] at v
          have v2 : gs n [false] 0 (nxt (emw w st)) s2 := v
          rw [rb_o]
          refine ih _ st0 s2 (Or.inr (by omega)) ?_ ?_
          · have := v2.up
            have : (emw w st).1 + 1 ≤ s2.1 := by simpa [nxt] using this
            rw [(emw_ix w st).1] at this
            omega
          · rw [if_neg (by omega), if_neg (by omega)]
            exact h1.cm v2
      · rw [if_neg c7]
        have h1 := h.nx lt
        have v := aVal_g hT hn1 (st := nxt st) h1.ix h1.kx
        cases hv : aVal c T (nxt st) with
        | error e => rw [hv] at v; exact v
        | ok s2 =>
          rw [hv] at v
          have v2 : gs n [false] 0 (nxt st) s2 := v
          rw [rb_o]
          refine ih _ st0 _ hw ?_ ?_
          · have := v2.up
            have : st.1 + 1 ≤ s2.1 := by simpa [nxt] using this
            show n < s2.1 + f
            omega
          · have := h1.cm v2
            refine gs.em this (opK_0 (by omega)) (fun stk => ?_) (by simp)
            by_cases w0 : w = 0
            · rw [if_pos w0]; exact st_ar (by omega) stk
            · rw [if_neg w0]; exact st_ar (by omega) (false :: stk)
theorem aSum_g (hT : T ≤ 400) (hnT : n ≤ T) (hn1 : tp c T n = T) {st : PS} (hi : st.1 ≤ n) (hk : st.2.1 ≤ 60) : gE n [false] st (aSum c T st) := by
  unfold aSum
  have v := aVal_g hT hn1 (st := st) hi hk
  cases hv : aVal c T st with
  | error e => rw [hv] at v; exact v
  | ok s2 =>
    rw [hv] at v
    rw [rb_o]
    exact aSumL_g hT hn1 401 0 st s2 (Or.inl rfl) (by omega) v
theorem sgn_r (p : Nat) : 10 ≤ sgn c T p ∧ sgn c T p ≤ 14 := by
  unfold sgn
  split
  · omega
  · split
    · split <;> omega
    · split <;> omega
theorem aCmp_g (hT : T ≤ 400) (hnT : n ≤ T) (hn1 : tp c T n = T) {st : PS} (hi : st.1 ≤ n) (hk : st.2.1 ≤ 60) : gE n [true] st (aCmp c T st) := by
  unfold aCmp
  have v := aSum_g hT hnT hn1 (st := st) hi hk
  cases hv : aSum c T st with
  | error e => rw [hv] at v; exact v
  | ok s1 =>
    rw [hv] at v
    have v1 : gs n [false] 0 st s1 := v
    rw [rb_o]
    unfold aSgn
    by_cases c4 : kd c T s1.1 = 4
    · rw [if_pos c4]
      by_cases ck : s1.2.1 < 60
      · rw [if_pos ck, rb_o]
        have h2 : gs n [false] 1 st (nxt (mor s1)) := (v1.mo ck).nx (kd_lt hn1 v1.ix (by show kd c T s1.1 ≠ 0; omega))
        have v3 := aSum_g hT hnT hn1 (st := nxt (mor s1)) h2.ix h2.kx
        cases hw : aSum c T (nxt (mor s1)) with
        | error e => rw [hw] at v3; exact v3
        | ok s3 =>
          rw [hw] at v3
          rw [rb_o]
          have h3 : gs n ([false] ++ [false]) 1 st s3 := h2.cm v3
          have sr := sgn_r (c := c) (T := T) (tp c T s1.1)
          exact h3.em (opK_0 (by omega)) (fun stk => st_cm sr stk) (by decide)
      · rw [if_neg ck]; exact fauK hT _ (by decide)
    · rw [if_neg c4]; exact fauK hT _ (by decide)
theorem gs.eo {o : Bool} {st0 st : PS} (h : gs n (if o then [true, true] else [true]) (if o then 1 else 0) st0 st) : gs n [true] 0 st0 (if o then emi 4 0 st else st) := by
  cases o with
  | false => exact h
  | true => exact h.em (opK_0 (by decide)) (fun stk => rfl) (by decide)
theorem aTesL_g (hT : T ≤ 400) (hn1 : tp c T n = T) {rf : PS → Except Nat PS} (hrf : ∀ st : PS, st.1 ≤ n → st.2.1 ≤ 60 → gE n [true] st (rf st)) : ∀ (f : Nat) (o : Bool) (st0 st : PS), n < st.1 + f → gs n (if o then [true, true] else [true]) (if o then 1 else 0) st0 st → gE n [true] st0 (aTesL c T rf f o st) := by
  intro f
  induction f with
  | zero => intro o st0 st hf h; have := h.ix; omega
  | succ f ih =>
    intro o st0 st hf h
    rw [aTesL]
    by_cases c1 : wo c T st.1 = 10
    · rw [if_pos c1]
      have lt := wo_lt hn1 h.ix (by omega)
      have ix : (if o then emi 4 0 st else st).1 = st.1 := by cases o <;> rfl
      have h1 := h.eo.nx (by rw [ix]; exact lt)
      have v := hrf _ h1.ix h1.kx
      cases hv : rf (nxt (if o then emi 4 0 st else st)) with
      | error e => rw [hv] at v; exact v
      | ok s2 =>
        rw [hv] at v
        have v2 : gs n [true] 0 (nxt (if o then emi 4 0 st else st)) s2 := v
        rw [rb_o]
        refine ih true st0 s2 ?_ (h1.cm v2)
        have := v2.up
        have : (if o then emi 4 0 st else st).1 + 1 ≤ s2.1 := by simpa [nxt] using this
        omega
    · rw [if_neg c1]
      by_cases c2 : wo c T st.1 = 11
      · rw [if_pos c2]
        have lt := wo_lt hn1 h.ix (by omega)
        have h1 := h.nx lt
        have v := hrf _ h1.ix h1.kx
        cases hv : rf (nxt st) with
        | error e => rw [hv] at v; exact v
        | ok s2 =>
          rw [hv] at v
          have v2 : gs n [true] 0 (nxt st) s2 := v
          rw [rb_o]
          refine ih o st0 _ ?_ ?_
          · have := v2.up
            have : st.1 + 1 ≤ s2.1 := by simpa [nxt] using this
            show n < s2.1 + f
            omega
          · refine gs.em (h1.cm v2) (opK_0 (by decide)) (fun stk => ?_) (by simp)
            cases o <;> rfl
      · rw [if_neg c2]; exact h.eo
theorem aTes_g (hT : T ≤ 400) (hnT : n ≤ T) (hn1 : tp c T n = T) {rf : PS → Except Nat PS} (hrf : ∀ st : PS, st.1 ≤ n → st.2.1 ≤ 60 → gE n [true] st (rf st)) {st : PS} (hi : st.1 ≤ n) (hk : st.2.1 ≤ 60) : gE n [true] st (aTes c T rf st) := by
  unfold aTes
  have v := hrf st hi hk
  cases hv : rf st with
  | error e => rw [hv] at v; exact v
  | ok s2 =>
    rw [hv] at v
    rw [rb_o]
    exact aTesL_g hT hn1 hrf 401 false st s2 (by omega) v
theorem aFac_g (hT : T ≤ 400) (hnT : n ≤ T) (hn1 : tp c T n = T) : ∀ (g : Nat) (st : PS), st.1 ≤ n → st.2.1 ≤ 60 → gE n [true] st (aFac c T g st) := by
  intro g
  induction g with
  | zero =>
    intro st hi hk
    rw [aFac]
    split
    · exact fauK hT _ (by decide)
    · exact aCmp_g hT hnT hn1 hi hk
  | succ g ih =>
    intro st hi hk
    rw [aFac]
    by_cases c1 : wo c T st.1 = 12
    · rw [if_pos c1]
      have h1 := (gs.rf hi hk).nx (wo_lt hn1 hi (by omega))
      have v := ih _ h1.ix h1.kx
      cases hv : aFac c T g (nxt st) with
      | error e => rw [hv] at v; exact v
      | ok s2 =>
        rw [hv] at v
        rw [rb_o]
        exact gs.em (h1.cm v) (opK_0 (by decide)) (fun stk => rfl) (by decide)
    · rw [if_neg c1]
      by_cases c2 : bt c T st.1 91
      · rw [if_pos c2]
        have h1 := (gs.rf hi hk).nx (bt_lt hn1 hi c2)
        have v := aTes_g hT hnT hn1 ih (st := nxt st) h1.ix h1.kx
        cases hv : aTes c T (aFac c T g) (nxt st) with
        | error e => rw [hv] at v; exact v
        | ok s2 =>
          rw [hv] at v
          have v2 : gs n [true] 0 (nxt st) s2 := v
          rw [rb_o]
          unfold aClo
          by_cases c3 : bt c T s2.1 93
          · rw [if_pos c3]
            exact ((h1.cm v2).nx (bt_lt hn1 v2.ix c3)).le (by omega)
          · rw [if_neg c3]; exact fauK hT _ (by decide)
      · rw [if_neg c2]; exact aCmp_g hT hnT hn1 hi hk
theorem aTop_g (hT : T ≤ 400) (hnT : n ≤ T) (hn1 : tp c T n = T) {st : PS} (hi : st.1 ≤ n) (hk : st.2.1 ≤ 60) : gE n [true] st (aTop c T st) := aTes_g hT hnT hn1 (aFac_g hT hnT hn1 10) hi hk
end WM
