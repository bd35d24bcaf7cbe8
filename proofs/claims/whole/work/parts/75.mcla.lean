/-! the reference reads clauses of a rule -/
def PN (t b j : Nat) : Prop := PT t b j ∨ (b = 248 ∧ j = 14) ∨ (b = 252 ∧ 60 * t ≤ j) ∨ (b = 253 ∧ j = t)
def mRow (t j : Nat) (r : CLA) (s : am_S) : Prop := s.1 252 (60 * t + 5 * j) = nI r.1 ∧ s.1 252 (60 * t + 5 * j + 1) = nI r.2.1 ∧ s.1 252 (60 * t + 5 * j + 2) = nI r.2.2.1 ∧ s.1 252 (60 * t + 5 * j + 3) = (if r.2.2.1 < r.2.2.2 then nI r.2.2.1 else -1) ∧ s.1 252 (60 * t + 5 * j + 4) = nI r.2.2.2
theorem row_i (s : am_S) (a k : Nat) (v : Int32) : (as_i s a k v).1 a = upd (s.1 a) k v := by rw [as_i_eq_w, as_w3]
section MI
variable {c : Nat → Int32} {T n t : Nat} {s0 : am_S}
def MC (c : Nat → Int32) (T t : Nat) (s0 : am_S) (st : PS) (cl : List CLA) (s : am_S) : Prop := MS c T t s st s ∧ s.1 248 14 = nI cl.length ∧ s.1 253 t = nI cl.length ∧ (∀ j, j < cl.length → mRow t j (cl.getD j c0) s) ∧ frm (PN t) s0 s
def MH (t : Nat) (s0 : am_S) (e : Nat) (s : am_S) : Prop := s.1 248 9 = nI e ∧ frm (PN t) s0 s
theorem MS.w {b0 : am_S} {st : PS} {s : am_S} (h : MS c T t b0 st s) (b k : Nat) (v : Int32) (hb : b = 252 ∨ b = 253 ∨ (b = 248 ∧ k = 14)) : MS c T t (as_i s b k v) st (as_i s b k v) := by
  obtain ⟨⟨r, r1, r2, r3⟩, h2, h3, h4, h5, h6, h7⟩ := h
  have r48 : ∀ j, j ≠ 14 → (as_i s b k v).1 248 j = s.1 248 j := fun j hj => by rw [rd_i, if_neg (by omega)]
  have rw_ : ∀ q, q ≠ 252 → q ≠ 253 → q ≠ 248 → (as_i s b k v).1 q = s.1 q := fun q q1 q2 q3 => as_i1 (by omega)
  exact ⟨⟨r, r1, (r48 8 (by decide)).trans r2, r3⟩, (r48 9 (by decide)).trans h2, (r48 12 (by decide)).trans h3, h4.mv (rw_ _ (by decide) (by decide) (by decide)) (rw_ _ (by decide) (by decide) (by decide)), frm.rf _ _, h6.mv (r48 1 (by decide)) (rw_ _ (by decide) (by decide) (by decide)), (r48 11 (by decide)).trans h7⟩
theorem PN_252 {j : Nat} (h : 60 * t ≤ j) : PN t 252 j := Or.inr (Or.inr (Or.inl ⟨rfl, h⟩))
theorem m_128 {b0 : am_S} {st : PS} {s : am_S} {m : Nat} (ht : t < 6) (hm : m < 12) (h : MS c T t b0 st s) (h53 : s.1 253 t = nI m) : ∃ s2, j_X12_isDoingHere_128 (nI (60 * t + 5 * m)) s = some ((1 : Int32), s2) ∧ MS c T t s2 st s2 ∧ s2.1 252 = upd (s.1 252) (60 * t + 5 * m + 4) (nI st.2.2.length) ∧ s2.1 253 t = nI (m + 1) ∧ s2.1 248 14 = s.1 248 14 ∧ frm (PN t) s s2 := by
  have h1 := h.w 252 (60 * t + 5 * m + 4) (nI st.2.2.length) (Or.inl rfl)
  have h2 := h1.w 253 t (nI (m + 1)) (Or.inr (Or.inl rfl))
  refine ⟨_, ?_, h2, ?_, as_i3, ?_, (frm.i s (PN_252 (by omega))).ti (Or.inr (Or.inr (Or.inr ⟨rfl, rfl⟩)))⟩
  · unfold j_X12_isDoingHere_128
    rw [h.2.2.2.2.2.2, am_ltd, gd_nI (by omega) (by decide), cL (by omega), nI_add, gd_nI (by omega) (by decide), cL (by omega), h.2.2.2.1.1, am_ltd, h1.2.2.2.2.2.2, am_ltd, gd_nI ht (by decide), gd_nI ht (by decide), cL (by omega), as_i1 (show (253 : Nat) ≠ 252 by decide), h53, nI_1, am_ltd]
  · rw [as_i1 (by decide), row_i]
  · rw [as_i1 (by decide), as_i1 (by decide)]
theorem PT_N {b j : Nat} (h : PT t b j) : PN t b j := Or.inl h
theorem PM_N {b j : Nat} (h : PM t b j) : PN t b j := Or.inl (Or.inl h)
theorem PT_253 {s s2 : am_S} (f : frm (PT t) s s2) : s2.1 253 = s.1 253 ∧ s2.1 252 = s.1 252 ∧ s2.1 248 14 = s.1 248 14 := ⟨f.row (by unfold PT PM; intro j; omega), f.row (by unfold PT PM; intro j; omega), f.1 _ _ (by unfold PT PM; omega)⟩
theorem m_102 {b0 : am_S} {st : PS} {s : am_S} {m : Nat} (E : EM c T n t) (hm : m < 12) (hr : rdy n st) (h : MS c T t b0 st s) (h53 : s.1 253 t = nI m) : (∃ e s2, aTop c T st = .error e ∧ j_X12_isDoingHere_102 (nI (60 * t + 5 * m)) s = some ((0 : Int32), s2) ∧ MH t s e s2) ∨ (∃ st2 s2, aTop c T st = .ok st2 ∧ j_X12_isDoingHere_102 (nI (60 * t + 5 * m)) s = some ((1 : Int32), s2) ∧ MS c T t s2 st2 s2 ∧ s2.1 252 = upd (upd (s.1 252) (60 * t + 5 * m + 3) (nI st.2.2.length)) (60 * t + 5 * m + 4) (nI st2.2.2.length) ∧ s2.1 253 t = nI (m + 1) ∧ s2.1 248 14 = s.1 248 14 ∧ frm (PN t) s s2) := by
  have ht := E.2.2.2.1
  have h1 := h.w 252 (60 * t + 5 * m + 3) (nI st.2.2.length) (Or.inl rfl)
  have f1 : frm (PN t) s (as_i s 252 (60 * t + 5 * m + 3) (nI st.2.2.length)) := frm.i s (PN_252 (by omega))
  have hd : ∀ v s2, f_X12_tested (as_i s 252 (60 * t + 5 * m + 3) (nI st.2.2.length)) = some (v, s2) → j_X12_isDoingHere_102 (nI (60 * t + 5 * m)) s = am_if (v = 0) (some ((0 : Int32), s2)) (j_X12_isDoingHere_128 (nI (60 * t + 5 * m)) s2) := fun v s2 q => by
    unfold j_X12_isDoingHere_102
    rw [h.2.2.2.2.2.2, am_ltd, gd_nI (by omega) (by decide), cL (by omega), nI_add, gd_nI (by omega) (by decide), cL (by omega), h.2.2.2.1.1, am_ltd, q, am_b2s]
  rcases m_tested E hr h1 with ⟨e, s2, q1, q2, q3⟩ | ⟨st2, s2, q1, q2, q3⟩
  · left
    exact ⟨e, s2, q1, by rw [hd _ _ q2, am_ift rfl], q3.1, f1.tr (q3.2.mo (fun _ _ => PT_N))⟩
  · right
    obtain ⟨p1, p2, p3⟩ := PT_253 q3.2.2
    obtain ⟨s3, r1, r2, r3, r4, r5, r6⟩ := m_128 ht hm q3.1 (by rw [p1, as_i1 (by decide)]; exact h53)
    refine ⟨st2, s3, q1, by rw [hd _ _ q2, am_iff (by decide), r1], r2, ?_, r4, ?_, (f1.tr (q3.2.2.mo (fun _ _ => PT_N))).tr r6⟩
    · rw [r3, p2, row_i]
    · rw [r5, p3, as_i1 (by decide)]
theorem m_takesIf {b0 : am_S} {st : PS} {s : am_S} (E : EM c T n t) (h : MS c T t b0 st s) : (wo c T st.1 = 4 ∧ ∃ s2, f_X12_takesWord (26982 : Int64) s = some ((1 : Int32), s2) ∧ MS c T t s (nxt st) s2) ∨ (¬ wo c T st.1 = 4 ∧ ∃ s2, f_X12_takesWord (26982 : Int64) s = some ((0 : Int32), s2) ∧ MS c T t s st s2) := by
  obtain ⟨hT, hnT, hn1, ht, hb⟩ := id E
  obtain ⟨r, r1, r2, r3⟩ := h.1
  have iw := m_isWord h.2.2.2.2.2.1 hT r1 r2 (k := 4) (by decide) 26982 rfl
  rw [r3] at iw
  have hx := h.rb.pl st.1 _ (tp_le _) (tp_sk hT st.1)
  unfold f_X12_takesWord
  rw [iw, am_b2s]
  by_cases w : wo c T st.1 = 4
  · left
    have aw := (atW_wd (c := c) (T := T) (p := tp c T st.1) (by decide : 4 < 24)).mpr w
    have pw := m_passWord hx.2.2.2.2.2.1 hT (tp_le _) as_i3
    have we : wE c T (tp c T st.1) = en c T (tp c T st.1) := by unfold wE; rw [if_pos ⟨aw.1, aw.2.1⟩]
    rw [we] at pw
    refine ⟨w, _, ?_, hx.pl (st.1 + 1) _ (en_le aw.1) (tp_nx aw.1)⟩
    rw [am_b1 aw, pw, am_bds]
  · right
    refine ⟨w, _, ?_, hx⟩
    rw [am_b0 (fun z => w ((atW_wd (by decide)).mp z))]
/-- a sum's clause behind its sum, a test's behind its word -/
theorem m_62 {b0 : am_S} {st : PS} {s : am_S} {m K : Nat} (E : EM c T n t) (hm : m < 12) (hr : rdy n st) (h : MS c T t b0 st s) (h53 : s.1 253 t = nI m) (hK : K ≤ 1) (o : Except Nat PS) (ho : o = if K = 0 then aTop c T st else if wo c T st.1 = 4 then aTop c T (nxt st) else .ok st) : (∃ e s2, o = .error e ∧ j_X12_isDoingHere_62 (nI K) (nI (60 * t + 5 * m)) s = some ((0 : Int32), s2) ∧ MH t s e s2) ∨ (∃ st2 s2 R, o = .ok st2 ∧ j_X12_isDoingHere_62 (nI K) (nI (60 * t + 5 * m)) s = some ((1 : Int32), s2) ∧ MS c T t s2 st2 s2 ∧ s2.1 252 = upd (upd R (60 * t + 5 * m + 3) (if K = 0 ∨ wo c T st.1 = 4 then nI st.2.2.length else -1)) (60 * t + 5 * m + 4) (nI st2.2.2.length) ∧ R (60 * t + 5 * m + 2) = nI st.2.2.length ∧ (∀ j, j ≠ 60 * t + 5 * m + 2 → j ≠ 60 * t + 5 * m + 3 → R j = s.1 252 j) ∧ s2.1 253 t = nI (m + 1) ∧ s2.1 248 14 = s.1 248 14 ∧ frm (PN t) s s2) := by
  obtain ⟨hT, hnT, hn1, ht, hb⟩ := id E
  have h1 := h.w 252 (60 * t + 5 * m + 2) (nI st.2.2.length) (Or.inl rfl)
  have h2 := h1.w 252 (60 * t + 5 * m + 3) (-1) (Or.inl rfl)
  generalize hx : as_i (as_i s 252 (60 * t + 5 * m + 2) (nI st.2.2.length)) 252 (60 * t + 5 * m + 3) (-1) = x at *
  have fx : frm (PN t) s x := by rw [← hx]; exact (frm.i s (PN_252 (by omega))).ti (PN_252 (by omega))
  have x52 : x.1 252 = upd (upd (s.1 252) (60 * t + 5 * m + 2) (nI st.2.2.length)) (60 * t + 5 * m + 3) (-1) := by rw [← hx, row_i, row_i]
  have x53 : x.1 253 t = nI m := by rw [← hx, as_i1 (by decide), as_i1 (by decide)]; exact h53
  have x14 : x.1 248 14 = s.1 248 14 := by rw [← hx, as_i1 (by decide), as_i1 (by decide)]
  have hd : j_X12_isDoingHere_62 (nI K) (nI (60 * t + 5 * m)) s = am_if (nI K = 0) (j_X12_isDoingHere_102 (nI (60 * t + 5 * m)) x) (am_b2 (f_X12_takesWord (26982 : Int64) x) (fun v29 s30 => am_if (v29 = 0) (j_X12_isDoingHere_128 (nI (60 * t + 5 * m)) s30) (j_X12_isDoingHere_102 (nI (60 * t + 5 * m)) s30))) := by
    unfold j_X12_isDoingHere_62
    rw [h.2.2.2.2.2.2, am_ltd, gd_nI (by omega) (by decide), cL (by omega), nI_add, gd_nI (by omega) (by decide), cL (by omega), h.2.2.2.1.1, am_ltd, nI_add, gd_nI (by omega) (by decide), cL (by omega), am_ltd, hx]
  rw [hd]
  have Rf : ∀ v : Int32, upd (x.1 252) (60 * t + 5 * m + 3) v = upd (upd (s.1 252) (60 * t + 5 * m + 2) (nI st.2.2.length)) (60 * t + 5 * m + 3) v := fun v => by
    rw [x52]
    funext j
    by_cases z : j = 60 * t + 5 * m + 3
    · rw [z, upd_s, upd_s]
    · rw [upd_n z, upd_n z, upd_n z]
  have R2 : upd (s.1 252) (60 * t + 5 * m + 2) (nI st.2.2.length) (60 * t + 5 * m + 2) = nI st.2.2.length := upd_s
  have R3 : ∀ j, j ≠ 60 * t + 5 * m + 2 → j ≠ 60 * t + 5 * m + 3 → upd (s.1 252) (60 * t + 5 * m + 2) (nI st.2.2.length) j = s.1 252 j := fun j z _ => upd_n z
  have hKK : K = 0 ∨ K = 1 := by omega
  rcases hKK with rfl | rfl
  · rw [am_ift (show nI 0 = (0 : Int32) from rfl)]
    rw [if_pos rfl] at ho
    rw [if_pos (Or.inl rfl)]
    rcases m_102 E hm hr h2 x53 with ⟨e, s2, q1, q2, q3, q4⟩ | ⟨st2, s2, q1, q2, q3, q4, q5, q6, q7⟩
    · left
      exact ⟨e, s2, ho.trans q1, q2, q3, fx.tr q4⟩
    · right
      exact ⟨st2, s2, _, ho.trans q1, q2, q3, by rw [q4, Rf], R2, R3, q5, q6.trans x14, fx.tr q7⟩
  · rw [am_iff (by decide)]
    rw [if_neg (by decide)] at ho
    rcases m_takesIf E h2 with ⟨w, y, y1, y2⟩ | ⟨w, y, y1, y2⟩
    · rw [if_pos w] at ho
      rw [if_pos (Or.inr w), y1, am_b2s, am_iff (by decide)]
      have lt2 := wo_lt hn1 hr.1 (show wo c T st.1 < 24 by omega)
      have r3 : rdy n (nxt st) := ⟨lt2, hr.2.1, by show st.2.2.length ≤ st.1 + 1; have := hr.2.2; omega⟩
      obtain ⟨p1, p2, p3⟩ := PT_253 (t := t) (y2.2.2.2.2.1.mo (fun _ _ z => Or.inl z))
      have fy : frm (PN t) s y := fx.tr (y2.2.2.2.2.1.mo (fun _ _ => PM_N))
      rcases m_102 E hm r3 y2 (by rw [p1]; exact x53) with ⟨e, s2, q1, q2, q3, q4⟩ | ⟨st2, s2, q1, q2, q3, q4, q5, q6, q7⟩
      · left
        exact ⟨e, s2, ho.trans q1, q2, q3, fy.tr q4⟩
      · right
        exact ⟨st2, s2, _, ho.trans q1, q2, q3, by rw [q4, p2]; show upd (upd (x.1 252) _ (nI st.2.2.length)) _ _ = _; rw [Rf], R2, R3, q5, (q6.trans p3).trans x14, fy.tr q7⟩
    · rw [if_neg w] at ho
      rw [if_neg (by omega), y1, am_b2s, am_ift rfl]
      obtain ⟨p1, p2, p3⟩ := PT_253 (t := t) (y2.2.2.2.2.1.mo (fun _ _ z => Or.inl z))
      have fy : frm (PN t) s y := fx.tr (y2.2.2.2.2.1.mo (fun _ _ => PM_N))
      obtain ⟨s3, r1, r2, r3, r4, r5, r6⟩ := m_128 ht hm y2 (by rw [p1]; exact x53)
      right
      exact ⟨st, s3, _, ho, r1, r2, by rw [r3, p2, x52], R2, R3, r4, (r5.trans p3).trans x14, fy.tr r6⟩
end MI
