/-! a day comes -/
theorem lp_ind {σ ε : Type} {body : σ → Option (σ ⊕ ε)} (n : Nat) (R : Nat → σ → Prop) (Q : ε → Prop) (hs : ∀ i, i < n → ∀ x, R i x → (∃ x2, body x = some (.inl x2) ∧ R (i + 1) x2) ∨ (∃ e, body x = some (.inr e) ∧ Q e)) (he : ∀ x, R n x → ∃ e, body x = some (.inr e) ∧ Q e) {F : Nat} (hn : n < F) (x : σ) (h : R 0 x) : ∃ e, am_lp body F x = some e ∧ Q e := by
  have key : ∀ d i, i + d = n → ∀ F, d < F → ∀ x, R i x → ∃ e, am_lp body F x = some e ∧ Q e := by
    intro d
    induction d with
    | zero =>
      intro i hi F hF x hx
      obtain ⟨F', rfl⟩ : ∃ F', F = F' + 1 := ⟨F - 1, by omega⟩
      rw [show i = n by omega] at hx
      obtain ⟨e, h1, h2⟩ := he x hx
      exact ⟨e, am_lp_inr h1, h2⟩
    | succ d ih =>
      intro i hi F hF x hx
      obtain ⟨F', rfl⟩ : ∃ F', F = F' + 1 := ⟨F - 1, by omega⟩
      rcases hs i (by omega) x hx with ⟨x2, h1, h2⟩ | ⟨e, h1, h2⟩
      · rw [am_lp_inl h1]
        exact ih (i + 1) (by omega) F' (by omega) x2 h2
      · exact ⟨e, am_lp_inr h1, h2⟩
  exact key n 0 (by omega) F hn x h
def soM (m : Nat → Int32) (f : Nat) : Int32 := (m 1 >>> (nI f &&& 31)) &&& 1
theorem soM_z {m : Nat → Int32} (w : wfT m) {f : Nat} (hf : f < 32) : soM m f = 0 ∨ soM m f = 1 := by
  unfold soM
  have := w.O9
  rw [w.O1, bitb (by omega) hf]
  exact b01_z
def corF (p : Nat) : Nat → (Nat → Int32) → (Nat → Int32)
  | 0, m => m
  | n + 1, m => if corF p n m 10 = 1 ∧ corF p n m (11 + 16 * p + 2 * n) = 1 - soM (corF p n m) n then upd (upd (corF p n m) (11 + 16 * p + 2 * n) (nI 2)) (11 + 16 * p + 2 * n + 1) 0 else corF p n m
def dayP (F : Nat) : Nat → (Nat → Int32) → (Nat → Int32)
  | 0, m => m
  | p + 1, m => corF p F (upd (dayP F p m) (123 + p) 0)
def dayM (m : Nat → Int32) : Nat → Int32 := dayP (mF m) (mP m) (upd (upd (upd (upd m 6 (m 6 + 1)) 7 0) 8 (-1)) 9 (-1))
theorem corF_out {p : Nat} {m : Nat → Int32} {j : Nat} : ∀ n, (j < 11 + 16 * p ∨ 11 + 16 * p + 2 * n ≤ j) → corF p n m j = m j
  | 0, _ => rfl
  | n + 1, h => by
    unfold corF
    split
    · rw [upd_n (by omega), upd_n (by omega), corF_out n (by omega)]
    · rw [corF_out n (by omega)]
theorem corF_in {p : Nat} {m : Nat → Int32} {f : Nat} : ∀ n, f < n → (corF p n m (11 + 16 * p + 2 * f) = if m 10 = 1 ∧ m (11 + 16 * p + 2 * f) = 1 - soM m f then nI 2 else m (11 + 16 * p + 2 * f)) ∧ (corF p n m (11 + 16 * p + 2 * f + 1) = if m 10 = 1 ∧ m (11 + 16 * p + 2 * f) = 1 - soM m f then 0 else m (11 + 16 * p + 2 * f + 1))
  | 0, h => by omega
  | n + 1, h => by
    by_cases e : f = n
    · subst e
      have x1 : corF p f m 10 = m 10 := corF_out f (by omega)
      have x2 : corF p f m (11 + 16 * p + 2 * f) = m (11 + 16 * p + 2 * f) := corF_out f (by omega)
      have x3 : corF p f m (11 + 16 * p + 2 * f + 1) = m (11 + 16 * p + 2 * f + 1) := corF_out f (by omega)
      have x4 : soM (corF p f m) f = soM m f := by unfold soM; rw [corF_out f (by omega)]
      unfold corF
      rw [x1, x2, x4]
      by_cases c : m 10 = 1 ∧ m (11 + 16 * p + 2 * f) = 1 - soM m f
      · rw [if_pos c, if_pos c, if_pos c, upd_s, upd_n (by omega), upd_s]
        exact ⟨rfl, rfl⟩
      · rw [if_neg c, if_neg c, if_neg c]
        exact ⟨x2, x3⟩
    · have ih := corF_in (p := p) (m := m) (f := f) n (by omega)
      unfold corF
      split
      · rw [upd_n (by omega), upd_n (by omega), upd_n (by omega), upd_n (by omega)]
        exact ih
      · exact ih
theorem dayP_out {F : Nat} {m : Nat → Int32} {j : Nat} (hF : F ≤ 8) : ∀ n, n ≤ 7 → (j < 11 ∨ (11 + 16 * n ≤ j ∧ j < 123) ∨ 123 + n ≤ j) → dayP F n m j = m j
  | 0, _, _ => rfl
  | n + 1, h, hj => by
    unfold dayP
    rw [corF_out F (by omega), upd_n (by omega), dayP_out hF n (by omega) (by omega)]
theorem dayP_in {F : Nat} {m : Nat → Int32} {p : Nat} (hF : F ≤ 8) : ∀ n, n ≤ 7 → p < n → dayP F n m (123 + p) = 0 ∧ ∀ f, f < F → (dayP F n m (11 + 16 * p + 2 * f) = if m 10 = 1 ∧ m (11 + 16 * p + 2 * f) = 1 - soM m f then nI 2 else m (11 + 16 * p + 2 * f)) ∧ (dayP F n m (11 + 16 * p + 2 * f + 1) = if m 10 = 1 ∧ m (11 + 16 * p + 2 * f) = 1 - soM m f then 0 else m (11 + 16 * p + 2 * f + 1))
  | 0, _, h => by omega
  | n + 1, h7, h => by
    by_cases e : p = n
    · subst e
      refine ⟨by unfold dayP; rw [corF_out F (by omega), upd_s], fun f hf => ?_⟩
      have x : ∀ j, (j < 11 ∨ (11 + 16 * p ≤ j ∧ j < 123) ∨ 123 + p + 1 ≤ j) → upd (dayP F p m) (123 + p) 0 j = m j := fun j hj => by rw [upd_n (by omega), dayP_out hF p (by omega) (by omega)]
      have x4 : soM (upd (dayP F p m) (123 + p) 0) f = soM m f := by unfold soM; rw [x 1 (by omega)]
      have := corF_in (p := p) (m := upd (dayP F p m) (123 + p) 0) (f := f) F hf
      rw [x 10 (by omega), x (11 + 16 * p + 2 * f) (by omega), x (11 + 16 * p + 2 * f + 1) (by omega), x4] at this
      exact this
    · obtain ⟨ih1, ih2⟩ := dayP_in (F := F) (m := m) (p := p) hF n (by omega) (by omega)
      unfold dayP
      refine ⟨by rw [corF_out F (by omega), upd_n (by omega)]; exact ih1, fun f hf => ?_⟩
      rw [corF_out F (by omega), upd_n (by omega), corF_out F (by omega), upd_n (by omega)]
      exact ih2 f hf
theorem dayM_ag {m : Nat → Int32} (w : wfT m) : agL m (dayM m) := fun j hj => by
  have hP := w.P7
  unfold dayM
  rw [dayP_out w.F8 _ hP (by omega), upd_n (by omega), upd_n (by omega), upd_n (by omega), upd_n (by omega)]
theorem dayM_hd {m : Nat → Int32} (w : wfT m) : dayM m 6 = m 6 + 1 ∧ dayM m 7 = 0 ∧ dayM m 8 = -1 ∧ dayM m 9 = -1 := by
  have hP := w.P7
  have hF := w.F8
  unfold dayM
  refine ⟨?_, ?_, ?_, ?_⟩ <;> rw [dayP_out hF _ hP (by omega)]
  · rw [upd_n (by omega), upd_n (by omega), upd_n (by omega), upd_s]
  · rw [upd_n (by omega), upd_n (by omega), upd_s]
  · rw [upd_n (by omega), upd_s]
  · rw [upd_s]
theorem dayM_in {m : Nat → Int32} (w : wfT m) {p : Nat} (hp : p < mP m) : dayM m (123 + p) = 0 ∧ ∀ f, f < mF m → (dayM m (11 + 16 * p + 2 * f) = if m 10 = 1 ∧ m (11 + 16 * p + 2 * f) = 1 - soM m f then nI 2 else m (11 + 16 * p + 2 * f)) ∧ (dayM m (11 + 16 * p + 2 * f + 1) = if m 10 = 1 ∧ m (11 + 16 * p + 2 * f) = 1 - soM m f then 0 else m (11 + 16 * p + 2 * f + 1)) := by
  have hP := w.P7
  have hF := w.F8
  generalize hz : upd (upd (upd (upd m 6 (m 6 + 1)) 7 0) 8 (-1)) 9 (-1) = z
  have e : ∀ j, (j < 6 ∨ 10 ≤ j) → z j = m j := fun j hj => by rw [← hz, upd_n (by omega), upd_n (by omega), upd_n (by omega), upd_n (by omega)]
  obtain ⟨h1, h2⟩ := dayP_in (F := mF m) (m := z) (p := p) hF (mP m) hP hp
  unfold dayM
  rw [hz]
  refine ⟨h1, fun f hf => ?_⟩
  have := h2 f hf
  have x4 : soM z f = soM m f := by unfold soM; rw [e 1 (by omega)]
  rw [e 10 (by omega), e _ (by omega), e _ (by omega), x4] at this
  exact this
theorem m_holdsNow {s : am_S} {p f : Nat} {v u : Int32} (hp : p < 7) (hf : f < 8) : f_X12_holdsNow (nI p) (nI f) v u s = some (as_i (as_i s 258 (11 + 16 * p + 2 * f) v) 258 (11 + 16 * p + 2 * f + 1) u) := by
  unfold f_X12_holdsNow
  simp (disch := omega) only [am_ltd, pk_mul, nI_add, nI_1, gd2, cL]
theorem m_soOf {s : am_S} {f : Nat} : f_X12_soOf (nI f) s = some (soM (s.1 258) f) := rfl
theorem m_day1 {s : am_S} {p : Nat} (m : Nat → Int32) (hp : p < 7) (h0 : m 0 = nI (mF m)) (hF : mF m ≤ 8) : am_lp (fun (q : Int32 × am_S) => b_X12_dayComes_59 (nI p) q.1 q.2) am_F ((0 : Int32), as_w s 258 m) = some (.inl (nI (p + 1), as_w s 258 (corF p (mF m) m))) := by
  have e4 : am_F = 4000 := rfl
  refine am_lp_run (fun i => (nI i, as_w s 258 (corF p i m))) (mF m) (fun i hi => ?_) ?_ (by omega)
  · dsimp only
    unfold b_X12_dayComes_59
    rw [as_w3, corF_out i (by omega), h0, am_iff (nI_ge hi (by omega))]
    by_cases c : corF p i m 10 = 1
    · rw [am_ift c, m_holdOf hp (by omega), am_bds, m_soOf, am_bds, as_w3]
      by_cases c2 : corF p i m (11 + 16 * p + 2 * i) = 1 - soM (corF p i m) i
      · rw [am_ift c2, m_holdsNow hp (by omega), am_bds, am_ltd, nI_1, as_iw, as_iw]
        have : corF p (i + 1) m = upd (upd (corF p i m) (11 + 16 * p + 2 * i) (nI 2)) (11 + 16 * p + 2 * i + 1) 0 := if_pos ⟨c, c2⟩
        rw [this]
      · rw [am_iff c2, am_ltd, nI_1]
        have : corF p (i + 1) m = corF p i m := if_neg (fun z => c2 z.2)
        rw [this]
    · rw [am_iff c, am_ltd, nI_1]
      have : corF p (i + 1) m = corF p i m := if_neg (fun z => c z.1)
      rw [this]
  · dsimp only
    unfold b_X12_dayComes_59 j_X12_dayComes_110
    rw [as_w3, corF_out (mF m) (by omega), h0, am_ift (nI_le (Nat.le_refl _) (by omega)), am_ltd, nI_1, am_bds]
theorem mF_eq {m n : Nat → Int32} (h : n 0 = m 0) : mF n = mF m := mN_eq h
theorem m_dayComes {s : am_S} {m : Nat → Int32} (hm : s.1 258 = m) (w : wfT m) : f_X12_dayComes s = some (as_w s 258 (dayM m)) := by
  have hP := w.P7
  have hF := w.F8
  have e4 : am_F = 4000 := rfl
  have es : s = as_w s 258 m := by rw [← hm, as_w_self]
  unfold f_X12_dayComes
  rw [es]
  simp only [am_ltd, as_iw, as_w3]
  generalize hz : upd (upd (upd (upd m 6 (m 6 + 1)) 7 0) 8 (-1)) 9 (-1) = z
  have e : ∀ j, (j < 6 ∨ 10 ≤ j) → z j = m j := fun j hj => by rw [← hz, upd_n (by omega), upd_n (by omega), upd_n (by omega), upd_n (by omega)]
  have ed : dayM m = dayP (mF m) (mP m) z := by unfold dayM; rw [hz]
  have ew : as_w (as_w s 258 m) 258 (dayM m) = as_w s 258 (dayM m) := by rw [← es]
  rw [ew, ed]
  refine am_lp_run (fun i => (nI i, as_w s 258 (dayP (mF m) i z))) (mP m) (fun i hi => ?_) ?_ (by omega)
  · dsimp only
    have x0 : dayP (mF m) i z 0 = m 0 := by rw [dayP_out hF i (by omega) (by omega), e 0 (by omega)]
    have x2 : dayP (mF m) i z 2 = m 2 := by rw [dayP_out hF i (by omega) (by omega), e 2 (by omega)]
    unfold b_X12_dayComes_37
    rw [as_w3, x2, w.P1, am_iff (nI_ge hi (by omega))]
    simp (disch := omega) only [am_ltd, pk_mul, nI_add, nI_1, gd2, cL]
    rw [as_iw]
    have y0 : upd (dayP (mF m) i z) (123 + i) 0 0 = m 0 := by rw [upd_n (by omega), x0]
    rw [m_day1 _ (by omega) (by rw [mF_eq y0, y0]; exact w.F1) (by rw [mF_eq y0]; exact hF), mF_eq y0]
    rfl
  · dsimp only
    have x2 : dayP (mF m) (mP m) z 2 = m 2 := by rw [dayP_out hF _ (by omega) (by omega), e 2 (by omega)]
    unfold b_X12_dayComes_37
    rw [as_w3, x2, w.P1, am_ift (nI_le (Nat.le_refl _) (by omega))]
theorem iL_ge : ∀ a ∈ am_isL, 24 ≤ a := by decide +kernel
theorem c_fill {a len : Nat} {v : Int32} {s : am_S} (ha : am_sh a = (13, len)) (hn : a < am_N) (hl : len < 4000) : f_J7_fill_53178 a v s = some (as_w s a (cpv (s.1 a) 0 len (fun _ => v))) := by
  unfold f_J7_fill_53178
  rw [am_gdt ⟨by rw [ha], hn⟩, am_ltd, ha]
  refine lp_copyR a len 0 (fun _ => v) s (fun j hj g => ?_) ?_ hl
  · dsimp only
    unfold b_J7_fill_53178_5
    rw [show Int32.ofNat len = nI len from rfl, am_iff (nI_ge hj (by omega)), ha]
    simp (disch := omega) only [am_ltd, nI_1, cL, gd2]
    rw [Nat.zero_add]
  · dsimp only
    unfold b_J7_fill_53178_5
    rw [show Int32.ofNat len = nI len from rfl, am_ift (nI_le (Nat.le_refl _) (by omega))]
theorem folN_congr {m : Nat → Int32} (ho : okIf m) : ∀ (d : Nat) (b b2 : Nat → Int32), (∀ f, f < 8 → b f = b2 f) → ∀ f, f < 8 → folN m d b f = folN m d b2 f := by
  intro d
  induction d with
  | zero => intro b b2 h; exact h
  | succ d ih =>
    intro b b2 h
    have hF := ho.1
    have e : firstIf m b2 = firstIf m b := by
      cases hf : firstIf m b with
      | none =>
        refine firstIf_none (fun i hi => ?_)
        rw [← openIf_congr ho (fun f hf => h f (by omega)) hi]
        unfold firstIf at hf
        rw [List.find?_eq_none] at hf
        simpa using hf i (List.mem_range.mpr hi)
      | some i =>
        unfold firstIf at hf
        rw [List.find?_range_eq_some] at hf
        obtain ⟨h1, h2, h3⟩ := hf
        have hi := List.mem_range.mp h2
        refine firstIf_some hi (by rw [← openIf_congr ho (fun f hf => h f (by omega)) hi]; exact h1) (fun j hj => ?_)
        rw [← openIf_congr ho (fun f hf => h f (by omega)) (by omega)]
        simpa using h3 j hj
    unfold folN
    rw [e]
    cases hf : firstIf m b with
    | none => exact h
    | some i =>
      refine ih _ _ (fun f hf => ?_)
      by_cases c : f = mN m (199 + 4 * i + 2)
      · subst c; rw [upd_s, upd_s]
      · rw [upd_n c, upd_n c, h f hf]
theorem c_conclude {m : Nat → Int32} {s : am_S} {L p : Nat} {b : Nat → Int32} (w : wfT m) (c : okC m s) (hL : L ∈ am_isL) (hp : p < 7) (hb : ∀ f, f < 8 → s.1 (L + 1) (8 * p + f) = b f) : ∃ s2, f_X2_conclude L (nI p) s = some s2 ∧ (∀ c, c ≠ L + 3 → s2.1 c = s.1 c) ∧ s2.2 = s.2 ∧ (∀ j, (j < 8 * p ∨ 8 * p + 8 ≤ j) → s2.1 (L + 3) j = s.1 (L + 3) j) ∧ ∀ f, f < 8 → s2.1 (L + 3) (8 * p + f) = folN m 8 b f := by
  have h24 := iL_ge L hL
  have e1 : va_cpy (s.1 (L + 1)) (s.1 (L + 3)) (8 * p) (8 * p) 8 = emb (s.1 (L + 3)) (8 * p) (fun f => s.1 (L + 1) (8 * p + f)) := by
    funext j
    unfold emb
    by_cases q : 8 * p ≤ j ∧ j < 8 * p + 8
    · rw [pk_cpy_in q.1 q.2, if_pos q]
    · rw [pk_cpy_out (by omega), if_neg q]
  refine ⟨as_w s (L + 3) (emb (s.1 (L + 3)) (8 * p) (folN m 8 (fun f => s.1 (L + 1) (8 * p + f)))), ?_, fun c hc => as_w1 hc, rfl, fun j hj => ?_, fun f hf => ?_⟩
  · unfold f_X2_conclude
    rw [am_gdt hL, pk_mul, show p * 8 = 8 * p by omega, am_gdt ⟨nI_pos (by omega), nI_pos (by omega), nI_pos (by decide), by rw [cL (by omega), cL (by decide)]; omega, by rw [cL (by omega), cL (by decide)]; omega⟩, cL (by omega), am_ltd, e1, c_addWhatFollows w.okIf c ⟨iL_s3 L hL, iL_l3 L hL⟩ (by omega) (by omega) (by omega) (by decide), am_bds]
  · rw [as_w3]
    unfold emb
    rw [if_neg (by omega)]
  · rw [as_w3, emb_at hf]
    exact folN_congr w.okIf 8 _ _ hb f hf
/-- part of the class's life, from a person on -/
def lifeQ (m : Nat → Int32) (x : am_S) (L q : Nat) : Prop := (∀ f, f < 8 → x.1 (L + 1) (8 * q + f) = heldR m q f ∧ x.1 (L + 3) (8 * q + f) = bel m q f) ∧ ∀ f, f < mF m → x.1 (L + 2) (8 * q + f) = m (11 + 16 * q + 2 * f + 1)
theorem c_correct1 {k : Nat} {m : Nat → Int32} {s : am_S} {L p : Nat} (w : wfT m) (hk : m 10 = 1) (lk : wfL k m) (t : townAt m s) (hL : L ∈ am_isL) (hp : p < mP m) (l : lifeQ m s L p) : ∃ s2, am_lp (fun (q : Int32 × am_S) => b_X2_correctAll_12 L (nI p) q.1 q.2) am_F ((0 : Int32), s) = some (.inl (nI (p + 1), s2)) ∧ (∀ c, c ≠ L + 1 → c ≠ L + 2 → c ≠ L + 3 → s2.1 c = s.1 c) ∧ s2.2 = s.2 ∧ (∀ i j, (j < 8 * p ∨ 8 * p + 8 ≤ j) → s2.1 (L + i) j = s.1 (L + i) j) ∧ lifeQ (dayM m) s2 L p := by
  have h24 := iL_ge L hL
  have hP := w.P7
  have hF := w.F8
  have e4 : am_F = 4000 := rfl
  have ag := dayM_ag w
  obtain ⟨-, dI⟩ := dayM_in w hp
  have dI : ∀ f, f < mF m → dayM m (11 + 16 * p + 2 * f) = (if m (11 + 16 * p + 2 * f) = 1 - soM m f then nI 2 else m (11 + 16 * p + 2 * f)) ∧ dayM m (11 + 16 * p + 2 * f + 1) = (if m (11 + 16 * p + 2 * f) = 1 - soM m f then 0 else m (11 + 16 * p + 2 * f + 1)) := fun f hf => by
    have := dI f hf
    by_cases c : m (11 + 16 * p + 2 * f) = 1 - soM m f
    · rw [if_pos ⟨hk, c⟩, if_pos ⟨hk, c⟩] at this
      rw [if_pos c, if_pos c]
      exact this
    · rw [if_neg (fun z => c z.2), if_neg (fun z => c z.2)] at this
      rw [if_neg c, if_neg c]
      exact this
  have key := lp_ind (body := fun (q : Int32 × am_S) => b_X2_correctAll_12 L (nI p) q.1 q.2) (mF m) (fun i x => x.1 = nI i ∧ (∀ c, c ≠ L + 1 → c ≠ L + 2 → x.2.1 c = s.1 c) ∧ x.2.2 = s.2 ∧ (∀ i j, (j < 8 * p ∨ 8 * p + 8 ≤ j) → x.2.1 (L + i) j = s.1 (L + i) j) ∧ (∀ f, f < 8 → x.2.1 (L + 1) (8 * p + f) = if f < i then heldR (dayM m) p f else heldR m p f) ∧ (∀ f, f < mF m → x.2.1 (L + 2) (8 * p + f) = if f < i then dayM m (11 + 16 * p + 2 * f + 1) else m (11 + 16 * p + 2 * f + 1))) (fun e => ∃ s2, e = .inl (nI (p + 1), s2) ∧ (∀ c, c ≠ L + 1 → c ≠ L + 2 → c ≠ L + 3 → s2.1 c = s.1 c) ∧ s2.2 = s.2 ∧ (∀ i j, (j < 8 * p ∨ 8 * p + 8 ≤ j) → s2.1 (L + i) j = s.1 (L + i) j) ∧ lifeQ (dayM m) s2 L p) ?_ ?_ (F := am_F) (by omega) ((0 : Int32), s) ⟨rfl, fun _ _ _ => rfl, rfl, fun _ _ _ => rfl, fun f hf => by rw [if_neg (by omega)]; exact (l.1 f hf).1, fun f hf => by rw [if_neg (by omega)]; exact l.2 f hf⟩
  · obtain ⟨e, k1, s2, rfl, k2⟩ := key
    exact ⟨s2, k1, k2⟩
  · rintro i hi ⟨v, x⟩ ⟨h1, h2, h3, h4, h5, h6⟩
    dsimp only at h1 h2 h3 h4 h5 h6
    subst h1
    left
    dsimp only
    have tx : townAt m x := townAt_of t (fun c c1 c2 => h2 c (by omega) (by omega))
    unfold b_X2_correctAll_12
    rw [tx.F w, am_iff (nI_ge hi (by omega)), tx.so, c_bit]
    simp (disch := omega) only [am_ltd, pk_mul, nI_add, nI_1, gd2, cL, am_bds]
    rw [show p * 8 + i = 8 * p + i by omega, h5 i (by omega), if_neg (by omega)]
    have hh : heldR m p i = m (11 + 16 * p + 2 * i) := if_pos hi
    have hh2 : heldR (dayM m) p i = dayM m (11 + 16 * p + 2 * i) := by
      unfold heldR
      rw [ag.t.mF, if_pos hi]
    obtain ⟨d1, d2⟩ := dI i hi
    obtain ⟨w1, w2, w3⟩ := lk.2.2.2 p i hp hi
    rw [show (m 1 >>> (nI i &&& 31)) &&& 1 = soM m i from rfl, hh]
    by_cases c : m (11 + 16 * p + 2 * i) = soM m i
    · have cn : m (11 + 16 * p + 2 * i) ≠ 1 - soM m i := by
        rw [c]
        rcases soM_z w (f := i) (by omega) with z | z <;> rw [z] <;> decide
      rw [if_neg cn] at d1 d2
      rw [am_ift c]
      refine ⟨_, rfl, rfl, h2, h3, h4, fun f hf => ?_, fun f hf => ?_⟩
      · dsimp only
        rw [h5 f hf]
        by_cases e : f = i
        · subst e
          rw [if_neg (by omega), if_pos (by omega), hh, hh2, d1]
        · by_cases e2 : f < i
          · rw [if_pos e2, if_pos (by omega)]
          · rw [if_neg e2, if_neg (by omega)]
      · dsimp only
        rw [h6 f hf]
        by_cases e : f = i
        · subst e
          rw [if_neg (by omega), if_pos (by omega), d2]
        · by_cases e2 : f < i
          · rw [if_pos e2, if_pos (by omega)]
          · rw [if_neg e2, if_neg (by omega)]
    · have cz : dayM m (11 + 16 * p + 2 * i) = nI 2 ∧ dayM m (11 + 16 * p + 2 * i + 1) = 0 := by
        by_cases cq : m (11 + 16 * p + 2 * i) = 1 - soM m i
        · rw [if_pos cq] at d1 d2
          exact ⟨d1, d2⟩
        · rw [if_neg cq] at d1 d2
          have c2 : m (11 + 16 * p + 2 * i) = nI 2 := by
            rcases w1 with z | z | z
            · exfalso
              rcases soM_z w (f := i) (by omega) with y | y
              · exact c (z.trans y.symm)
              · exact cq (by rw [z, y]; decide)
            · exfalso
              rcases soM_z w (f := i) (by omega) with y | y
              · exact cq (by rw [z, y]; decide)
              · exact c (z.trans y.symm)
            · exact z
          exact ⟨d1.trans c2, d2.trans (w3 c2)⟩
      rw [am_iff c]
      refine ⟨_, rfl, rfl, fun c c1 c2 => ?_, h3, fun a j hj => ?_, fun f hf => ?_, fun f hf => ?_⟩
      · dsimp only
        rw [as_i1 c2, as_i1 c1, h2 c c1 c2]
      · dsimp only
        rw [← h4 a j hj]
        by_cases a2 : a = 2
        · subst a2
          rw [as_i2 (by omega), as_i1 (by omega)]
        · rw [as_i1 (by omega)]
          by_cases a1 : a = 1
          · subst a1
            rw [as_i2 (by omega)]
          · rw [as_i1 (by omega)]
      · dsimp only
        rw [as_i1 (by omega)]
        by_cases e : f = i
        · subst e
          rw [as_i3, if_pos (by omega), hh2, cz.1]
        · rw [as_i2 (by omega), h5 f hf]
          by_cases e2 : f < i
          · rw [if_pos e2, if_pos (by omega)]
          · rw [if_neg e2, if_neg (by omega)]
      · dsimp only
        by_cases e : f = i
        · subst e
          rw [as_i3, if_pos (by omega), cz.2]
        · rw [as_i2 (by omega), as_i1 (by omega), h6 f hf]
          by_cases e2 : f < i
          · rw [if_pos e2, if_pos (by omega)]
          · rw [if_neg e2, if_neg (by omega)]
  · rintro ⟨v, x⟩ ⟨h1, h2, h3, h4, h5, h6⟩
    dsimp only at h1 h2 h3 h4 h5 h6
    subst h1
    have tx : townAt m x := townAt_of t (fun c c1 c2 => h2 c (by omega) (by omega))
    have hall : ∀ f, f < 8 → x.1 (L + 1) (8 * p + f) = heldR (dayM m) p f := fun f hf => by
      rw [h5 f hf]
      by_cases e : f < mF m
      · rw [if_pos e]
      · rw [if_neg e]
        unfold heldR
        rw [ag.t.mF, if_neg e, if_neg e]
    obtain ⟨y, y1, y2, y3, y4, y5⟩ := c_conclude w tx.okC hL (p := p) (by omega) hall
    refine ⟨.inl (nI (p + 1), y), ?_, y, rfl, fun c c1 c2 c3 => by rw [y2 c c3, h2 c c1 c2], y3.trans h3, fun a j hj => ?_, fun f hf => ⟨?_, ?_⟩, fun f hf => ?_⟩
    · dsimp only
      unfold b_X2_correctAll_12 j_X2_correctAll_68
      rw [tx.F w, am_ift (nI_le (Nat.le_refl _) (by omega)), y1, am_bds, am_ltd, nI_1, am_bds]
    · by_cases a3 : a = 3
      · subst a3
        rw [y4 j hj, h4 3 j hj]
      · rw [y2 _ (by omega), h4 a j hj]
    · rw [y2 _ (by omega), hall f hf]
    · rw [y5 f hf]
      unfold bel
      rw [folN_eq ag.t w]
    · rw [ag.t.mF] at hf
      rw [y2 _ (by omega), h6 f hf, if_pos hf]
