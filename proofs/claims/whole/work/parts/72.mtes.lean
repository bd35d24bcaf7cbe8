/-! the reference reads tests -/
section MZ
variable {c : Nat → Int32} {T n t : Nat} {s0 : am_S}
abbrev tB : Int32 × am_S → Option ((Int32 × am_S) ⊕ (Int32 × am_S)) := fun (q : Int32 × am_S) => b_X12_tested_12 q.1 q.2
abbrev fB : Int32 × am_S → Option ((Int32 × am_S) ⊕ (Int32 × am_S)) := fun (q : Int32 × am_S) => b_X12_fact_2 q.1 q.2
abbrev cB : am_S → Option (am_S ⊕ am_S) := fun (q : am_S) => b_X12_closes_5 q
def rST (s33 : am_S) : Option ((Int32 × am_S) ⊕ (Int32 × am_S)) := am_b2 (f_X12_isWord (6385252 : Int64) s33) (fun v34 s35 => am_if (v34 = 0) (am_b2 (f_X12_isWord (28530 : Int64) s35) (fun v36 s37 => am_if (v36 = 0) (j_X12_tested_54 (0 : Int32) s37) (j_X12_tested_54 (1 : Int32) s37))) (j_X12_tested_54 (1 : Int32) s35))
def cNT (F : Nat) (r : Option ((Int32 × am_S) ⊕ (Int32 × am_S))) : Option (Int32 × am_S) := match r with
  | none => none
  | some (.inl q) => am_lp tB F q
  | some (.inr e) => some e
def aFT (F Fc : Nat) (s : am_S) : Option (Int32 × am_S) := cNT F (am_bd (am_lp cB Fc s) rST)
def cLO (F Fc Fs : Nat) (s : am_S) : Option (Int32 × am_S) := cNT F (am_bd (am_bd (am_lp (SB 3) Fs s) (fun s1 => am_lp cB Fc s1)) rST)
def iNN (F Ff : Nat) (s : am_S) : Option (Int32 × am_S) := cNT F (am_b2 (am_lp fB Ff ((1 : Int32), s)) (fun v31 s32 => am_if (v31 = 0) (some (Sum.inr ((0 : Int32), s32))) (am_bd (f_X12_closes s32) rST)))
theorem lp_cNT (F : Nat) (q : Int32 × am_S) : am_lp tB (F + 1) q = cNT F (tB q) := by
  cases h : tB q with
  | none =>
    unfold am_lp
    rw [h]
    rfl
  | some r =>
    cases r with
    | inl q2 => exact am_lp_inl h
    | inr e => exact am_lp_inr h
theorem lp_tB (F : Nat) (s : am_S) : am_lp tB (F + 1) ((1 : Int32), s) = iNN F am_F s := by
  rw [lp_cNT]
  unfold iNN
  congr 1
theorem iNN_in {F Ff : Nat} {s s2 : am_S} (h : b_X12_fact_2 1 s = some (Sum.inl ((1 : Int32), s2))) : iNN F (Ff + 1) s = iNN F Ff s2 := by
  unfold iNN
  rw [am_lp_inl (body := fB) h]
theorem iNN_er {F Ff : Nat} {s s2 : am_S} (h : b_X12_fact_2 1 s = some (Sum.inr ((0 : Int32), s2))) : iNN F (Ff + 1) s = some ((0 : Int32), s2) := by
  unfold iNN
  rw [am_lp_inr (body := fB) h, am_b2s, am_ift rfl]
  rfl
theorem iNN_cm {F Ff : Nat} {s x : am_S} (h : b_X12_fact_2 1 s = some (Sum.inl ((0 : Int32), x))) {v : Int32} {s2 : am_S} (hc : f_X12_compare x = some (v, s2)) (hv : v = 0 ∨ v = 1) : iNN F (Ff + 2) s = if v = 0 then some ((0 : Int32), s2) else cLO F am_F am_F s2 := by
  unfold iNN
  have h2 : fB ((0 : Int32), x) = some (Sum.inr (v, s2)) := by
    show b_X12_fact_2 0 x = _
    unfold b_X12_fact_2 j_X12_fact_75
    rw [am_ift rfl, hc, am_b2s, am_gdt hv, am_bds]
  rw [am_lp_inl (body := fB) h, am_lp_inr (body := fB) h2, am_b2s]
  by_cases z : v = 0
  · rw [am_ift z, if_pos z]
    rfl
  · rw [am_iff z, if_neg z]
    rfl
theorem lp_bdl {body : am_S → Option (am_S ⊕ am_S)} {A : Option am_S} {z : am_S} (F : Nat) (h : body z = am_bd A (fun s => some (Sum.inl s))) : am_lp body (F + 1) z = am_bd A (fun s => am_lp body F s) := by
  cases A with
  | none =>
    have : body z = none := h
    unfold am_lp
    rw [this]
    rfl
  | some y =>
    rw [am_bds] at h ⊢
    exact am_lp_inl h
/-- a fact was read, with this stack below -/
def FO (c : Nat → Int32) (T n t : Nat) (s0 : am_S) (l : List Nat) (o : Except Nat PS) (X : Option (Int32 × am_S)) : Prop := match o with
  | .error e => ∃ s, X = some ((0 : Int32), s) ∧ MG t s0 e s
  | .ok st => ∃ s F Fc Fs, X = cLO F Fc Fs s ∧ MT c T t s0 st l s ∧ n < st.1 + F ∧ n < st.1 + Fc ∧ l.length < Fs
/-- a test was read, what waits not yet laid -/
def TO (c : Nat → Int32) (T n t : Nat) (s0 : am_S) (l : List Nat) (o : Except Nat PS) (X : Option (Int32 × am_S)) : Prop := match o with
  | .error e => ∃ s, X = some ((0 : Int32), s) ∧ MG t s0 e s
  | .ok st => ∃ s F Fc o a st2, X = aFT F Fc s ∧ MT c T t s0 st2 (l ++ oO o ++ oA a) s ∧ st = eo o (ema a st2) ∧ ¬ wo c T st.1 = 10 ∧ ¬ wo c T st.1 = 11 ∧ n < st.1 + F ∧ n < st.1 + Fc ∧ st2.2.2.length + (oO o).length + (oA a).length ≤ st2.1 ∧ l.length + (oO o).length + (oA a).length ≤ st2.1
def em (l : List Nat) : Nat := (l.filter (fun e => !(e == 91))).length
theorem em_sn (l : List Nat) (e : Nat) : em (l ++ [e]) = em l + (if e = 91 then 0 else 1) := by
  unfold em
  rw [List.filter_append, List.length_append]
  congr 1
  by_cases h : e = 91
  · rw [if_pos h, h]; rfl
  · rw [if_neg h]; simp [h]
theorem em_le (l : List Nat) : em l ≤ l.length := List.length_filter_le _ _
def FLs (c : Nat → Int32) (T n t : Nat) (s0 : am_S) (g : Nat) : Prop := ∀ (st : PS) (l : List Nat) (s : am_S) (F Ff : Nat), dp l + g = 10 → rdy n st → l.length ≤ st.1 → st.2.2.length + em l ≤ st.1 → MT c T t s0 st l s → n < st.1 + F → n + 2 < st.1 + Ff → FO c T n t s0 l (aFac c T g st) (iNN F Ff s)
theorem eo_ix (o : Bool) (st : PS) : (eo o st).1 = st.1 ∧ (eo o st).2.1 = st.2.1 ∧ (eo o st).2.2.length = st.2.2.length + (oO o).length := by
  cases o with
  | false => exact ⟨rfl, rfl, rfl⟩
  | true => exact ⟨rfl, rfl, len_emi 4 0 st⟩
theorem ema_ix (a : Bool) (st : PS) : (ema a st).1 = st.1 ∧ (ema a st).2.1 = st.2.1 ∧ (ema a st).2.2.length = st.2.2.length + (oA a).length := by
  cases a with
  | false => exact ⟨rfl, rfl, rfl⟩
  | true => exact ⟨rfl, rfl, len_emi 3 0 st⟩
theorem em_o (l : List Nat) (o : Bool) : em (l ++ oO o) = em l + (oO o).length ∧ dp (l ++ oO o) = dp l := by
  cases o with
  | false => rw [show l ++ oO false = l from List.append_nil l]; exact ⟨rfl, rfl⟩
  | true => exact ⟨em_sn l 13, by rw [show l ++ oO true = l ++ [13] from rfl, dp_sn]; rfl⟩
theorem em_a (l : List Nat) (a : Bool) : em (l ++ oA a) = em l + (oA a).length ∧ dp (l ++ oA a) = dp l := by
  cases a with
  | false => rw [show l ++ oA false = l from List.append_nil l]; exact ⟨rfl, rfl⟩
  | true => exact ⟨em_sn l 12, by rw [show l ++ oA true = l ++ [12] from rfl, dp_sn]; rfl⟩
/-- where no bracket closes, the words decide -/
theorem m_cB0 {st : PS} {l : List Nat} {s : am_S} {Fc : Nat} (E : EM c T n t) (h : MT c T t s0 st l s) (hl : l.length ≤ 400) (h93 : ¬ bt c T st.1 93 ∨ ¬ 91 ∈ l) : am_lp cB (Fc + 1) s = some (as_i s 248 8 (nI (tp c T st.1))) := by
  obtain ⟨hT, hnT, hn1, ht, hb⟩ := id E
  obtain ⟨v1, v2⟩ := h.1.see E
  have hx := h.of v2
  refine am_lp_inr ?_
  show b_X12_closes_5 s = _
  unfold b_X12_closes_5
  rw [v1, am_b2s]
  by_cases z : bt c T st.1 93
  · have ni : ¬ 91 ∈ l := by
      rcases h93 with y | y
      · exact absurd z y
      · exact y
    rw [am_ift ((seeV_b hb (by decide)).mpr z), m_isInside hx.2.1 hl, am_bds, am_b0 ni]
  · rw [am_iff (fun y => z ((seeV_b hb (by decide)).mp y))]
theorem m_rST {st : PS} {l : List Nat} {x : am_S} (E : EM c T n t) (h : MT c T t s0 st l x) (h8 : x.1 248 8 = nI (tp c T st.1)) : rST x = if wo c T st.1 = 11 then j_X12_tested_76 (nI 12) 1 x else if wo c T st.1 = 10 then j_X12_tested_76 (nI 13) 1 x else some (Sum.inl ((0 : Int32), x)) := by
  obtain ⟨hT, hnT, hn1, ht, hb⟩ := id E
  have iw := m_iw h.1.2.2.2.2.2.1 hT (tp_le _) (tp_sk hT st.1) h8
  unfold rST
  rw [iw 11 6385252 (by decide) rfl, am_b2s]
  by_cases w11 : wo c T st.1 = 11
  · rw [am_b1 w11, if_pos w11]
    unfold j_X12_tested_54
    rw [am_iff (by decide), iw 11 6385252 (by decide) rfl, am_b2s, am_b1 w11]
  · rw [am_b0 w11, if_neg w11, iw 10 28530 (by decide) rfl, am_b2s]
    by_cases w10 : wo c T st.1 = 10
    · rw [am_b1 w10, if_pos w10]
      unfold j_X12_tested_54
      rw [am_iff (by decide), iw 11 6385252 (by decide) rfl, am_b2s, am_b0 w11]
    · rw [am_b0 w10, if_neg w10]
      unfold j_X12_tested_54
      rw [am_ift rfl]
/-- a joint: what waits is laid as far as it must, the joint waits -/
theorem m_76 {st st2 : PS} {l l2 : List Nat} {x : am_S} {k e : Nat} {v : Int32} (E : EM c T n t) (h : MT c T t s0 st l x) (h8 : x.1 248 8 = nI (tp c T st.1)) (hw : wo c T st.1 = k) (hk : k < 24) (he : e = 12 ∨ e = 13) (hl2 : l2.length < 400) (hset : ∀ s : am_S, MT c T t s0 (nxt st) l s → ∃ s2, f_X12_settles (nI (strg e)) s = some s2 ∧ MT c T t s0 st2 l2 s2) : ∃ s2, j_X12_tested_76 (nI e) v x = some (Sum.inl (v, s2)) ∧ MT c T t s0 st2 (l2 ++ [e]) s2 := by
  obtain ⟨hT, hnT, hn1, ht, hb⟩ := id E
  have aw := (atW_wd (c := c) (T := T) (p := tp c T st.1) hk).mpr hw
  have pw := m_passWord h.1.2.2.2.2.2.1 hT (tp_le _) h8
  have we : wE c T (tp c T st.1) = en c T (tp c T st.1) := by unfold wE; rw [if_pos ⟨aw.1, aw.2.1⟩]
  rw [we] at pw
  have h2 : MT c T t s0 (nxt st) l (as_i x 248 8 (nI (en c T (tp c T st.1)))) := h.pl (st.1 + 1) _ (en_le aw.1) (tp_nx aw.1)
  obtain ⟨s2, q1, q2⟩ := hset _ h2
  have ok : e = 91 ∨ e = 11 ∨ e = 12 ∨ e = 13 := by omega
  refine ⟨as_i (as_i s2 255 l2.length (nI e)) 248 16 (nI (l2.length + 1)), ?_, q2.ps ok ((frm.i s2 (Or.inr rfl)).ti (Or.inl ⟨rfl, Or.inr rfl⟩)) as_i3 ?_ (fun j => ?_)⟩
  · unfold j_X12_tested_76
    rw [pw, am_bds, m_strength ok, am_bds, q1, am_bds, q2.2.1.1, gd_nI hl2 (by decide), cL (by omega), am_ltd, as_i1 (show (248 : Nat) ≠ 255 by decide), q2.2.1.1, nI_1, am_ltd]
  · rw [as_i2 (by decide), as_i1 (by decide), q2.2.1.2.1, dp_sn, if_neg (by omega), Nat.add_zero]
  · rw [as_i1 (by decide), rd_i]
    by_cases z : j = l2.length
    · rw [if_pos ⟨rfl, z⟩, if_pos z]
    · rw [if_neg (fun y => z y.2), if_neg z]
/-- nothing settled at once -/
theorem cLO_0 {st : PS} {l : List Nat} {e F Fc Fs : Nat} {s : am_S} (h : MT c T t s0 st (l ++ [e]) s) (he : e = 12 ∨ e = 13) (hl : l.length < 400) : cLO F Fc (Fs + 1) s = aFT F Fc s := by
  unfold cLO aFT
  rw [m_set0 h (by rw [List.length_append]; show l.length + 1 ≤ 400; omega) (by decide) (Or.inr ⟨l, e, rfl, by rcases he with rfl | rfl <;> decide⟩), am_bds]
theorem m_tesL (E : EM c T n t) {g : Nat} (hF : FLs c T n t s0 g) {l : List Nat} (hb : bas l) (hd : dp l + g = 10) : ∀ (f : Nat) (o a : Bool) (st : PS) (s : am_S) (F Fc : Nat), n < st.1 + f → rdy n st → l.length + (oO o).length + (oA a).length ≤ st.1 → st.2.2.length + em l + (oO o).length + (oA a).length ≤ st.1 → MT c T t s0 st (l ++ oO o ++ oA a) s → n < st.1 + F → n < st.1 + Fc → TO c T n t s0 l (aTesL c T (aFac c T g) f o (ema a st)) (aFT F Fc s) := by
  obtain ⟨hT, hnT, hn1, ht, hby⟩ := id E
  intro f
  induction f with
  | zero => intro o a st s F Fc hf hr; have := hr.1; omega
  | succ f ih =>
    intro o a st s F Fc hf hr hl hL h hFu hFc
    have hi := hr.1
    obtain ⟨F, rfl⟩ : ∃ F', F = F' + 1 := ⟨F - 1, by omega⟩
    obtain ⟨Fc, rfl⟩ : ∃ F', Fc = F' + 1 := ⟨Fc - 1, by omega⟩
    have ai := ema_ix a st
    have ao := eo_ix o (ema a st)
    have lL : (l ++ oO o ++ oA a).length ≤ 400 := by rw [List.length_append, List.length_append]; omega
    rw [aTesL, ai.1]
    have hx : MT c T t s0 st (l ++ oO o ++ oA a) (as_i s 248 8 (nI (tp c T st.1))) := h.of (h.1.see E).2
    have x8 : (as_i s 248 8 (nI (tp c T st.1))).1 248 8 = nI (tp c T st.1) := as_i3
    have e4 : am_F = 4000 := rfl
    have n93 : ∀ k, k < 24 → wo c T st.1 = k → ¬ bt c T st.1 93 := fun k hk hw z => by
      have k5 := (atB_KD plBs.2.2.2.2.2.2.1 |>.mpr z).1
      have := (atW_wd (c := c) (T := T) (p := tp c T st.1) hk).mpr hw
      rw [KD_1.mpr ⟨this.1, this.2.1⟩] at k5
      omega
    by_cases w10 : wo c T st.1 = 10
    · have lt := wo_lt hn1 hi (show wo c T st.1 < 24 by omega)
      rw [if_pos w10]
      obtain ⟨s2, q1, q2⟩ := m_76 (v := 1) (e := 13) (st2 := nxt (eo o (ema a st))) (l2 := l) E hx x8 w10 (by decide) (Or.inr rfl) (by omega) (fun s hs => by
        obtain ⟨s2, r1, r2, _⟩ := m_settle1 E hb hs (by omega) (show st.2.2.length + (oO o).length + (oA a).length ≤ 400 by omega)
        have e1 : eo o (ema a (nxt st)) = nxt (eo o (ema a st)) := by cases o <;> cases a <;> rfl
        rw [e1] at r2
        exact ⟨s2, r1, r2⟩)
      have step : aFT (F + 1) (Fc + 1) s = iNN F am_F s2 := by
        unfold aFT
        rw [m_cB0 E h lL (Or.inl (n93 10 (by decide) w10)), am_bds, m_rST E hx x8, if_neg (by omega), if_pos w10, q1]
        exact lp_tB F s2
      rw [step]
      have rd1 : rdy n (nxt (eo o (ema a st))) := ⟨by show (eo o (ema a st)).1 + 1 ≤ n; omega, by show (eo o (ema a st)).2.1 ≤ 60; rw [ao.2.1, ai.2.1]; exact hr.2.1, by show (eo o (ema a st)).2.2.length ≤ (eo o (ema a st)).1 + 1; omega⟩
      have V := hF (nxt (eo o (ema a st))) (l ++ [13]) s2 F am_F (by rw [dp_sn]; exact hd) rd1 (by rw [List.length_append]; show l.length + 1 ≤ (eo o (ema a st)).1 + 1; omega) (by rw [em_sn]; show (eo o (ema a st)).2.2.length + (em l + 1) ≤ (eo o (ema a st)).1 + 1; omega) q2 (by show n < (eo o (ema a st)).1 + 1 + F; omega) (by show n + 2 < (eo o (ema a st)).1 + 1 + am_F; omega)
      have vg := aFac_g hT hnT hn1 g (nxt (eo o (ema a st))) rd1.1 rd1.2.1
      have eq : (if o then emi 4 0 (ema a st) else ema a st) = eo o (ema a st) := rfl
      rw [eq]
      cases hv : aFac c T g (nxt (eo o (ema a st))) with
      | error e =>
        rw [hv] at V
        rw [rb_e]
        exact V
      | ok st2 =>
        rw [hv] at V vg
        obtain ⟨s3, F', Fc', Fs', z1, z2, z3, z4, z5⟩ := V
        obtain ⟨Fs', rfl⟩ : ∃ F'', Fs' = F'' + 1 := ⟨Fs' - 1, by omega⟩
        rw [rb_o, z1, cLO_0 z2 (Or.inr rfl) (by omega)]
        have g2 : gs n [true] 0 (nxt (eo o (ema a st))) st2 := vg
        have u2 : (eo o (ema a st)).1 + 1 + 1 ≤ st2.1 := g2.l0
        obtain ⟨_, _, _, lx, g4, g5, _, _⟩ := id g2
        have e1 : st2.2.2.length = (eo o (ema a st)).2.2.length + lx.length := by
          have : st2.2.2 = (eo o (ema a st)).2.2 ++ lx := g4
          rw [this, List.length_append]
        have e2 : lx.length + ((eo o (ema a st)).1 + 1) ≤ st2.1 := by simpa [nxt] using g5
        exact ih true false st2 s3 F' Fc' (by omega) (g2.rd rd1) (by show l.length + 1 + 0 ≤ st2.1; omega) (by show st2.2.2.length + em l + 1 + 0 ≤ st2.1; omega) (by rw [show l ++ oO true ++ oA false = l ++ [13] from List.append_nil _]; exact z2) z3 z4
    · rw [if_neg w10]
      by_cases w11 : wo c T st.1 = 11
      · have lt := wo_lt hn1 hi (show wo c T st.1 < 24 by omega)
        rw [if_pos w11]
        have llo : (l ++ oO o).length = l.length + (oO o).length := List.length_append
        obtain ⟨s2, q1, q2⟩ := m_76 (v := 1) (e := 12) (st2 := nxt (ema a st)) (l2 := l ++ oO o) E hx x8 w11 (by decide) (Or.inl rfl) (by omega) (fun s hs => by
          have := m_settle2 E hb hs (by omega) (show st.2.2.length + (oA a).length ≤ 400 by omega)
          have e1 : ema a (nxt st) = nxt (ema a st) := by cases a <;> rfl
          rw [e1] at this
          exact this)
        have step : aFT (F + 1) (Fc + 1) s = iNN F am_F s2 := by
          unfold aFT
          rw [m_cB0 E h lL (Or.inl (n93 11 (by decide) w11)), am_bds, m_rST E hx x8, if_pos w11, q1]
          exact lp_tB F s2
        rw [step]
        have rd1 : rdy n (nxt (ema a st)) := ⟨by show (ema a st).1 + 1 ≤ n; omega, by show (ema a st).2.1 ≤ 60; rw [ai.2.1]; exact hr.2.1, by show (ema a st).2.2.length ≤ (ema a st).1 + 1; omega⟩
        have eo' := em_o l o
        have V := hF (nxt (ema a st)) (l ++ oO o ++ [12]) s2 F am_F (by rw [dp_sn, eo'.2]; exact hd) rd1 (by rw [List.length_append, llo]; show l.length + (oO o).length + 1 ≤ (ema a st).1 + 1; omega) (by rw [em_sn, eo'.1]; show (ema a st).2.2.length + (em l + (oO o).length + 1) ≤ (ema a st).1 + 1; omega) q2 (by show n < (ema a st).1 + 1 + F; omega) (by show n + 2 < (ema a st).1 + 1 + am_F; omega)
        have vg := aFac_g hT hnT hn1 g (nxt (ema a st)) rd1.1 rd1.2.1
        cases hv : aFac c T g (nxt (ema a st)) with
        | error e =>
          rw [hv] at V
          rw [rb_e]
          exact V
        | ok st2 =>
          rw [hv] at V vg
          obtain ⟨s3, F', Fc', Fs', z1, z2, z3, z4, z5⟩ := V
          obtain ⟨Fs', rfl⟩ : ∃ F'', Fs' = F'' + 1 := ⟨Fs' - 1, by omega⟩
          rw [rb_o, z1, cLO_0 z2 (Or.inl rfl) (by omega)]
          have g2 : gs n [true] 0 (nxt (ema a st)) st2 := vg
          have u2 : (ema a st).1 + 1 + 1 ≤ st2.1 := g2.l0
          obtain ⟨_, _, _, lx, g4, g5, _, _⟩ := id g2
          have e1 : st2.2.2.length = (ema a st).2.2.length + lx.length := by
            have : st2.2.2 = (ema a st).2.2 ++ lx := g4
            rw [this, List.length_append]
          have e2 : lx.length + ((ema a st).1 + 1) ≤ st2.1 := by simpa [nxt] using g5
          exact ih o true st2 s3 F' Fc' (by omega) (g2.rd rd1) (by show l.length + (oO o).length + 1 ≤ st2.1; omega) (by show st2.2.2.length + em l + (oO o).length + 1 ≤ st2.1; omega) z2 z3 z4
      · rw [if_neg w11]
        refine ⟨s, F + 1, Fc + 1, o, a, st, rfl, h, rfl, ?_, ?_, ?_, ?_, ?_, hl⟩
        · show ¬ wo c T (eo o (ema a st)).1 = 10
          rw [ao.1, ai.1]; exact w10
        · show ¬ wo c T (eo o (ema a st)).1 = 11
          rw [ao.1, ai.1]; exact w11
        · show n < (eo o (ema a st)).1 + (F + 1)
          omega
        · show n < (eo o (ema a st)).1 + (Fc + 1)
          omega
        · have := em_le l
          omega
theorem m_tes (E : EM c T n t) {g : Nat} (hF : FLs c T n t s0 g) {l : List Nat} (hb : bas l) (hd : dp l + g = 10) {st : PS} {s : am_S} {F Ff : Nat} (hr : rdy n st) (hl : l.length ≤ st.1) (hL : st.2.2.length + em l ≤ st.1) (h : MT c T t s0 st l s) (h1 : n < st.1 + F) (h2 : n + 2 < st.1 + Ff) : TO c T n t s0 l (aTes c T (aFac c T g) st) (iNN F Ff s) := by
  obtain ⟨hT, hnT, hn1, ht, hby⟩ := id E
  have V := hF st l s F Ff hd hr hl hL h h1 h2
  have vg := aFac_g hT hnT hn1 g st hr.1 hr.2.1
  unfold aTes
  cases hv : aFac c T g st with
  | error e =>
    rw [hv] at V
    rw [rb_e]
    exact V
  | ok st2 =>
    rw [hv] at V vg
    obtain ⟨s3, F', Fc', Fs', z1, z2, z3, z4, z5⟩ := V
    have g2 : gs n [true] 0 st st2 := vg
    have u2 := g2.l0
    have i2 := g2.ix
    rw [rb_o, z1]
    have cl : cLO F' Fc' Fs' s3 = aFT F' Fc' s3 := by
      obtain ⟨Fs', rfl⟩ : ∃ F'', Fs' = F'' + 1 := ⟨Fs' - 1, by omega⟩
      unfold cLO aFT
      rw [m_set0 z2 (by omega) (by decide) (by
        rcases hb with rfl | ⟨l2, rfl⟩
        · exact Or.inl rfl
        · exact Or.inr ⟨l2, 91, rfl, by decide⟩), am_bds]
    rw [cl]
    obtain ⟨_, _, _, lx, g4, g5, _, _⟩ := id g2
    have e1 : st2.2.2.length = st.2.2.length + lx.length := by rw [g4, List.length_append]
    exact m_tesL E hF hb hd 401 false false st2 s3 F' Fc' (by omega) (g2.rd hr) (by show l.length + 0 + 0 ≤ st2.1; omega) (by show st2.2.2.length + em l + 0 + 0 ≤ st2.1; omega) (by rw [show l ++ oO false ++ oA false = l by rw [show l ++ oO false = l from List.append_nil _]; exact List.append_nil _]; exact z2) z3 z4
/-- at the end of a test that no bracket closes -/
theorem aFT_end {st : PS} {l : List Nat} {s : am_S} {F Fc : Nat} (E : EM c T n t) (h : MT c T t s0 st l s) (hl : l.length ≤ 400) (h93 : ¬ bt c T st.1 93 ∨ ¬ 91 ∈ l) (w10 : ¬ wo c T st.1 = 10) (w11 : ¬ wo c T st.1 = 11) : ∃ x, MT c T t s0 st l x ∧ x.1 248 8 = nI (tp c T st.1) ∧ aFT (F + 1) (Fc + 1) s = j_X12_tested_112 x := by
  have hx : MT c T t s0 st l (as_i s 248 8 (nI (tp c T st.1))) := h.of (h.1.see E).2
  have x8 : (as_i s 248 8 (nI (tp c T st.1))).1 248 8 = nI (tp c T st.1) := as_i3
  refine ⟨_, hx, x8, ?_⟩
  unfold aFT
  rw [m_cB0 E h hl h93, am_bds, m_rST E hx x8, if_neg w11, if_neg w10]
  show am_lp tB (F + 1) ((0 : Int32), _) = _
  have : tB ((0 : Int32), as_i s 248 8 (nI (tp c T st.1))) = am_bd (j_X12_tested_112 (as_i s 248 8 (nI (tp c T st.1)))) (fun e30 => some (Sum.inr e30)) := by
    show b_X12_tested_12 0 _ = _
    unfold b_X12_tested_12
    rw [am_ift rfl]
  cases hj : j_X12_tested_112 (as_i s 248 8 (nI (tp c T st.1))) with
  | none =>
    rw [hj] at this
    unfold am_lp
    rw [this]
    rfl
  | some e =>
    rw [hj, am_bds] at this
    exact am_lp_inr this
theorem m_fac (E : EM c T n t) : ∀ g, g ≤ 10 → FLs c T n t s0 g := by
  obtain ⟨hT, hnT, hn1, ht, hby⟩ := id E
  have e4 : am_F = 4000 := rfl
  have cmp : ∀ (st : PS) (l : List Nat) (s : am_S) (F Ff : Nat), rdy n st → l.length ≤ st.1 → n < st.1 + F → n + 2 < st.1 + Ff → (∃ x, b_X12_fact_2 1 s = some (Sum.inl ((0 : Int32), x)) ∧ MT c T t s0 st l x) → FO c T n t s0 l (aCmp c T st) (iNN F Ff s) := fun st l s F Ff hr hl h1 h2 hx => by
    obtain ⟨x, x1, x2⟩ := hx
    have hi := hr.1
    obtain ⟨Ff, rfl⟩ : ∃ F', Ff = F' + 2 := ⟨Ff - 2, by omega⟩
    have V := m_cmp E hr x2.1
    have vg := aCmp_g hT hnT hn1 (st := st) hr.1 hr.2.1
    cases hv : aCmp c T st with
    | error e =>
      rw [hv] at V
      obtain ⟨s2, q1, q2⟩ := V
      rw [iNN_cm x1 q1 (Or.inl rfl), if_pos rfl]
      exact ⟨s2, rfl, x2.er q2⟩
    | ok st2 =>
      rw [hv] at V vg
      obtain ⟨s2, q1, q2⟩ := V
      have g2 : gs n [true] 0 st st2 := vg
      have u2 := g2.l0
      rw [iNN_cm x1 q1 (Or.inr rfl), if_neg (by decide)]
      exact ⟨s2, F, am_F, am_F, rfl, x2.of q2, by omega, by omega, by omega⟩
  intro g
  induction g with
  | zero =>
    intro _ st l s F Ff hd hr hl hL h h1 h2
    have hi := hr.1
    rw [aFac]
    rcases m_facB E hr.1 h (fun z => by omega) with ⟨z1, z2, s2, z3, z4⟩ | ⟨z1, _⟩ | ⟨z1, _⟩ | ⟨z1, z2, z3⟩
    · rw [if_pos z1]
      obtain ⟨Ff, rfl⟩ : ∃ F', Ff = F' + 1 := ⟨Ff - 1, by omega⟩
      exact ⟨s2, iNN_er z3, z4⟩
    · exact absurd (by omega) z1
    · exact absurd (by omega) z1
    · rw [if_neg (fun z => z.elim z1 z2)]
      exact cmp st l s F Ff hr hl h1 h2 z3
  | succ g ih =>
    intro hg st l s F Ff hd hr hl hL h h1 h2
    have hi := hr.1
    have ih' := ih (by omega)
    rw [aFac]
    rcases m_facB E hr.1 h (fun z => by omega) with ⟨z1, z2, s2, z3, z4⟩ | ⟨z1, z2, s2, z3, z4⟩ | ⟨z1, z2, z3, s2, z4, z5⟩ | ⟨z1, z2, z3⟩
    · omega
    · rw [if_pos z2]
      have lt := wo_lt hn1 hi (show wo c T st.1 < 24 by omega)
      obtain ⟨Ff, rfl⟩ : ∃ F', Ff = F' + 1 := ⟨Ff - 1, by omega⟩
      rw [iNN_in z3]
      have rd1 : rdy n (nxt st) := ⟨lt, hr.2.1, by show st.2.2.length ≤ st.1 + 1; have := hr.2.2; omega⟩
      have V := ih' (nxt st) (l ++ [11]) s2 F Ff (by rw [dp_sn]; show dp l + 1 + g = 10; omega) rd1 (by rw [List.length_append]; show l.length + 1 ≤ st.1 + 1; omega) (by rw [em_sn]; show st.2.2.length + (em l + 1) ≤ st.1 + 1; omega) z4 (by show n < st.1 + 1 + F; omega) (by show n + 2 < st.1 + 1 + Ff; omega)
      have vg := aFac_g hT hnT hn1 g (nxt st) rd1.1 rd1.2.1
      cases hv : aFac c T g (nxt st) with
      | error e =>
        rw [hv] at V
        rw [rb_e]
        exact V
      | ok st2 =>
        rw [hv] at V vg
        obtain ⟨s3, F', Fc', Fs', y1, y2, y3, y4, y5⟩ := V
        have y5' : l.length + 1 < Fs' := by rw [List.length_append] at y5; exact y5
        obtain ⟨Fs', rfl⟩ : ∃ F'', Fs' = F'' + 1 := ⟨Fs' - 1, by omega⟩
        have g2 : gs n [true] 0 (nxt st) st2 := vg
        have u2 : st.1 + 1 + 1 ≤ st2.1 := g2.l0
        have i2 := g2.ix
        obtain ⟨_, _, _, lx, g4, g5, _, _⟩ := id g2
        have e1 : st2.2.2.length = st.2.2.length + lx.length := by
          have : st2.2.2 = st.2.2 ++ lx := g4
          rw [this, List.length_append]
        have e2 : lx.length + (st.1 + 1) ≤ st2.1 := by simpa [nxt] using g5
        obtain ⟨s4, w1, w2, _⟩ := m_set1 (v := 3) (F := Fs') E y2 (by omega) (by omega) (Or.inl rfl) (by decide)
        rw [rb_o, y1]
        refine ⟨s4, F', Fc', Fs', ?_, w2, y3, y4, by omega⟩
        unfold cLO
        rw [w1]
    · rw [if_neg z2, if_pos z3]
      have lt := bt_lt hn1 hi z3
      obtain ⟨Ff, rfl⟩ : ∃ F', Ff = F' + 1 := ⟨Ff - 1, by omega⟩
      rw [iNN_in z4]
      have rd1 : rdy n (nxt st) := ⟨lt, hr.2.1, by show st.2.2.length ≤ st.1 + 1; have := hr.2.2; omega⟩
      have V := m_tes E ih' (l := l ++ [91]) (Or.inr ⟨l, rfl⟩) (by rw [dp_sn]; show dp l + 1 + g = 10; omega) (F := F) (Ff := Ff) rd1 (by rw [List.length_append]; show l.length + 1 ≤ st.1 + 1; omega) (by rw [em_sn]; show st.2.2.length + (em l + 0) ≤ st.1 + 1; omega) z5 (by show n < st.1 + 1 + F; omega) (by show n + 2 < st.1 + 1 + Ff; omega)
      have vg := aTes_g hT hnT hn1 (aFac_g hT hnT hn1 g) (st := nxt st) rd1.1 rd1.2.1
      cases hv : aTes c T (aFac c T g) (nxt st) with
      | error e =>
        rw [hv] at V
        rw [rb_e]
        exact V
      | ok st2 =>
        rw [hv] at V vg
        obtain ⟨s3, F', Fc', o, a, st3, y1, y2, y3, y4, y5, y6, y7, y8, y9⟩ := V
        have ai := ema_ix a st3
        have ao := eo_ix o (ema a st3)
        have o1 : (oO o).length ≤ 1 := by cases o <;> decide
        have a1 : (oA a).length ≤ 1 := by cases a <;> decide
        have i3 : st3.1 = st2.1 := by rw [y3, ao.1, ai.1]
        have g2 : gs n [true] 0 (nxt st) st2 := vg
        have u2 : st.1 + 1 + 1 ≤ st2.1 := g2.l0
        have i2 := g2.ix
        have in91 : 91 ∈ l ++ [91] ++ oO o ++ oA a := by simp
        have lL : (l ++ [91] ++ oO o ++ oA a).length ≤ 400 := by
          rw [List.length_append, List.length_append]
          omega
        obtain ⟨F', rfl⟩ : ∃ F'', F' = F'' + 1 := ⟨F' - 1, by omega⟩
        obtain ⟨Fc', rfl⟩ : ∃ F'', Fc' = F'' + 1 := ⟨Fc' - 1, by omega⟩
        rw [rb_o, y1]
        unfold aClo
        by_cases b93 : bt c T st2.1 93
        · rw [if_pos b93]
          have b93' : bt c T st3.1 93 := by rw [i3]; exact b93
          have lt2 := bt_lt hn1 i2 b93
          obtain ⟨v1, v2⟩ := y2.1.see E
          have hx := y2.of v2
          obtain ⟨s4, w1, w2, w8⟩ := m_settle1 E (Or.inr ⟨l, rfl⟩) hx (by
            rw [List.length_append, List.length_append] at lL; exact lL) (by omega)
          rw [← y3] at w2
          -- the bracket goes
          have w3 : MT c T t s0 st2 l (as_i (as_i s4 248 16 (s4.1 248 16 - 1)) 248 13 ((as_i s4 248 16 (s4.1 248 16 - 1)).1 248 13 - 1)) := by
            have k16 : s4.1 248 16 = nI (l.length + 1) := by rw [w2.2.1.1, List.length_append]; rfl
            have k13 : s4.1 248 13 = nI (dp l + 1) := by rw [w2.2.1.2.1, dp_sn]; rfl
            refine w2.pp ((frm.i s4 ⟨rfl, Or.inr rfl⟩).ti ⟨rfl, Or.inl rfl⟩) ?_ ?_
            · rw [as_i2 (by decide), as_i3, k16, nI_pr]
            · rw [as_i3, as_i2 (by decide), k13, nI_pr]
          have b932 : bt c T st2.1 93 := b93
          have y8' : (as_i (as_i s4 248 16 (s4.1 248 16 - 1)) 248 13 ((as_i s4 248 16 (s4.1 248 16 - 1)).1 248 13 - 1)).1 248 8 = nI (tp c T st2.1) := by
            rw [as_i2 (by decide), as_i2 (by decide), w8, as_i3, i3]
          have w4 := w3.of (w3.1.nb E b932 plBs.2.2.2.2.2.2.1)
          refine ⟨as_i (as_i (as_i s4 248 16 (s4.1 248 16 - 1)) 248 13 ((as_i s4 248 16 (s4.1 248 16 - 1)).1 248 13 - 1)) 248 8 (nI (tp c T st2.1 + 1)), F' + 1, Fc', am_F, ?_, w4, by show n < st2.1 + 1 + (F' + 1); omega, by show n < st2.1 + 1 + Fc'; omega, by rw [List.length_append] at y9; have : l.length + 1 + (oO o).length + (oA a).length ≤ st3.1 := y9; omega⟩
          have hbody : cB s3 = am_bd (f_X12_settles (nI 3) (as_i (as_i (as_i s4 248 16 (s4.1 248 16 - 1)) 248 13 ((as_i s4 248 16 (s4.1 248 16 - 1)).1 248 13 - 1)) 248 8 (nI (tp c T st2.1 + 1)))) (fun s11 => some (Sum.inl s11)) := by
            show b_X12_closes_5 s3 = _
            unfold b_X12_closes_5
            rw [v1, am_b2s, am_ift ((seeV_b hby (by decide)).mpr b93'), m_isInside hx.2.1 lL, am_bds, am_b1 in91, w1, am_bds, am_ltd, am_ltd, y8', nI_1, am_ltd]
          unfold aFT cLO
          rw [lp_bdl Fc' hbody]
          rfl
        · rw [if_neg b93]
          have b93' : ¬ bt c T st3.1 93 := by rw [i3]; exact b93
          obtain ⟨x, x1, x2, x3⟩ := aFT_end (F := F') (Fc := Fc') E y2 lL (Or.inl b93') (by rw [i3]; exact y4) (by rw [i3]; exact y5)
          rw [x3]
          unfold j_X12_tested_112
          obtain ⟨v1, v2⟩ := x1.1.see E
          rw [m_isInside x1.2.1 lL, am_bds, am_b1 in91, x1.1.se E x2, am_b2s]
          obtain ⟨f1, f2⟩ := x1.1.fl st3.1 0
          have f1' : f_X12_fails (0 : Int32) (nI (tp c T st3.1)) x = _ := f1
          rw [x2, f1', am_b2s, am_gdt (Or.inl rfl)]
          rw [i3] at f2 ⊢
          exact ⟨_, rfl, x1.er f2⟩
    · rw [if_neg z1, if_neg z2]
      exact cmp st l s F Ff hr hl h1 h2 z3
end MZ
