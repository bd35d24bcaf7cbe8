/-! tokens as both see them; what reads them, apart from both -/
def wd (c : Nat → Int32) (T p : Nat) : Nat := if KD c T p = 1 then wn c p (en c T p) else 24
abbrev atB (c : Nat → Int32) (T p b : Nat) : Prop := p < T ∧ c p = nI b
/-- neither a letter nor a digit nor of a sign -/
abbrev plB (b : Nat) : Prop := b < 128 ∧ LE (nI b) = false ∧ DI (nI b) = false ∧ isSg (nI b) = false
theorem i8all : ∀ j, j < 256 → ((Int8.ofNat j).toInt32 &&& nI 255 = nI j) ∧ (j < 128 → (Int8.ofNat j).toInt32 = nI j) ∧ (128 ≤ j → (Int8.ofNat j).toInt32 < 0) := by decide +kernel
theorem byte_of {v : Int32} (h : vp_nar .byte v = v) : ∃ j, j < 256 ∧ v = (Int8.ofNat j).toInt32 := by
  have h2 : v.toInt8.toInt32 = v := h
  refine ⟨v.toInt8.toBitVec.toNat, v.toInt8.toBitVec.isLt, ?_⟩
  have : Int8.ofNat v.toInt8.toBitVec.toNat = v.toInt8 := by
    apply Int8.toBitVec_inj.mp
    show BitVec.ofNat 8 v.toInt8.toBitVec.toNat = v.toInt8.toBitVec
    apply BitVec.eq_of_toNat_eq
    rw [BitVec.toNat_ofNat]
    exact Nat.mod_eq_of_lt v.toInt8.toBitVec.isLt
  rw [this, h2]
theorem byte_and {v : Int32} (h : vp_nar .byte v = v) {b : Nat} (hb : b < 128) : v &&& nI 255 = nI b ↔ v = nI b := by
  obtain ⟨j, hj, rfl⟩ := byte_of h
  obtain ⟨h1, h2, h3⟩ := i8all j hj
  rw [h1, nI_eq (by omega) (by omega)]
  constructor
  · rintro rfl; exact h2 hb
  · intro e
    rcases Nat.lt_or_ge j 128 with z | z
    · rw [h2 z, nI_eq (by omega) (by omega)] at e; exact e
    · have := h3 z
      rw [e] at this
      exact absurd this (nI_pos (by omega))
section AB
variable {c : Nat → Int32} {T : Nat}
theorem seeV_b (hb : ∀ j, j < T → vp_nar .byte (c j) = c j) {p b : Nat} (h : b < 128) : seeV c T p = nI b ↔ atB c T p b := by
  unfold seeV atB
  by_cases z : p < T
  · rw [if_pos z, byte_and (hb p z) h]; exact ⟨fun y => ⟨z, y⟩, fun y => y.2⟩
  · rw [if_neg z]
    refine ⟨fun y => ?_, fun y => absurd y.1 z⟩
    have := nI_pos (n := b) (by omega)
    rw [← y] at this
    exact absurd (by decide) this
theorem seeV_e {p : Nat} (hb : ∀ j, j < T → vp_nar .byte (c j) = c j) : seeV c T p = -1 ↔ ¬ p < T := by
  unfold seeV
  by_cases z : p < T
  · rw [if_pos z]
    obtain ⟨j, hj, e⟩ := byte_of (hb p z)
    rw [e, (i8all j hj).1]
    refine ⟨fun y => ?_, fun y => absurd z y⟩
    have := nI_pos (n := j) (by omega)
    rw [y] at this
    exact absurd (by decide) this
  · rw [if_neg z]; exact ⟨fun _ => z, fun _ => rfl⟩
theorem atB_KD {p b : Nat} (h : plB b) : (KD c T p = 5 ∧ VL c T p = nI b) ↔ atB c T p b := by
  constructor
  · rintro ⟨h1, h2⟩
    rw [VL_5 h1] at h2
    exact ⟨(KD_5.mp h1).1, h2⟩
  · rintro ⟨h1, h2⟩
    have : KD c T p = 5 := KD_5.mpr ⟨h1, by rw [h2]; exact h.2.1, by rw [h2]; exact h.2.2.1, by rw [h2]; exact h.2.2.2⟩
    exact ⟨this, by rw [VL_5 this]; exact h2⟩
theorem atW_wd {p k : Nat} (hk : k < 24) : atW c T p k ↔ wd c T p = k := by
  unfold atW wd
  by_cases h : KD c T p = 1
  · rw [if_pos h]
    obtain ⟨h1, h2⟩ := KD_1.mp h
    exact ⟨fun z => z.2.2, fun z => ⟨h1, h2, z⟩⟩
  · rw [if_neg h]
    exact ⟨fun z => absurd (KD_1.mpr ⟨z.1, z.2.1⟩) h, fun z => by omega⟩
theorem wd_le (p : Nat) : wd c T p ≤ 24 := by
  unfold wd
  split
  · exact wn_le _ _ _
  · exact Nat.le_refl _
theorem wd_T {p : Nat} (h : wd c T p < 24) : p < T := ((atW_wd h).mpr rfl).1
end AB
/-- where the text is read, values and signs read, steps laid -/
abbrev PS : Type := Nat × Nat × List (Nat × Nat)
def rb {α β : Type} (o : Except Nat α) (f : α → Except Nat β) : Except Nat β := match o with
  | .error e => .error e
  | .ok a => f a
theorem rb_e {α β : Type} (e : Nat) (f : α → Except Nat β) : rb (.error e) f = .error e := rfl
theorem rb_o {α β : Type} (a : α) (f : α → Except Nat β) : rb (.ok a) f = f a := rfl
def emi (d v : Nat) (st : PS) : PS := (st.1, st.2.1, st.2.2 ++ [(d, v)])
def nxt (st : PS) : PS := (st.1 + 1, st.2)
/-- a value or sign more -/
def mor (st : PS) : PS := (st.1, st.2.1 + 1, st.2.2)
def isVW (w : Nat) : Bool := decide (w = 2 ∨ w = 5 ∨ w = 6 ∨ (13 ≤ w ∧ w < 24))
section AP
variable (c : Nat → Int32) (T : Nat)
abbrev kd (i : Nat) : Nat := KD c T (tp c T i)
abbrev wo (i : Nat) : Nat := wd c T (tp c T i)
abbrev bt (i b : Nat) : Prop := atB c T (tp c T i) b
def fau (i k : Nat) : Nat := 8 * tp c T i + 1 + k
def nvo (i : Nat) : Nat := nv c (tp c T i) (en c T (tp c T i) - tp c T i)
def aop (i : Nat) : Nat := if bt c T i 43 then 5 else if bt c T i 45 then 6 else if bt c T i 42 then 7 else if bt c T i 47 then 8 else if bt c T i 37 then 9 else 0
def aVal (st : PS) : Except Nat PS :=
  if kd c T st.1 = 3 then .error (fau c T st.1 1)
  else if kd c T st.1 = 2 then (if st.2.1 < 60 then .ok (nxt (mor (emi 0 (nvo c T st.1) st))) else .error (fau c T st.1 3))
  else if isVW (wo c T st.1) = true then (if st.2.1 < 60 then .ok (nxt (mor (emi 1 (wo c T st.1) st))) else .error (fau c T st.1 3))
  else .error (fau c T st.1 0)
def emw (w : Nat) (st : PS) : PS := if w = 0 then st else emi w 0 st
def aSumL : Nat → Nat → PS → Except Nat PS
  | 0, _, _ => .error 0
  | f + 1, w, st => if aop c T st.1 = 0 then .ok (emw w st)
    else if aop c T st.1 < 7 then rb (aVal c T (nxt (emw w st))) (fun s2 => aSumL f (aop c T st.1) s2)
    else rb (aVal c T (nxt st)) (fun s2 => aSumL f w (emi (aop c T st.1) 0 s2))
def aSum (st : PS) : Except Nat PS := rb (aVal c T st) (fun s2 => aSumL c T 401 0 s2)
def aSgn (st : PS) : Except Nat PS := if kd c T st.1 = 4 then (if st.2.1 < 60 then .ok (nxt (mor st)) else .error (fau c T st.1 3)) else .error (fau c T st.1 0)
def aCmp (st : PS) : Except Nat PS := rb (aSum c T st) (fun s1 => rb (aSgn c T s1) (fun s2 => rb (aSum c T s2) (fun s3 => .ok (emi (sgn c T (tp c T s1.1)) 0 s3))))
/-- what stands behind the first fact of a test; o: an or waits -/
def aTesL (rf : PS → Except Nat PS) : Nat → Bool → PS → Except Nat PS
  | 0, _, _ => .error 0
  | f + 1, o, st => if wo c T st.1 = 10 then rb (rf (nxt (if o then emi 4 0 st else st))) (fun s2 => aTesL rf f true s2)
    else if wo c T st.1 = 11 then rb (rf (nxt st)) (fun s2 => aTesL rf f o (emi 3 0 s2))
    else .ok (if o then emi 4 0 st else st)
def aTes (rf : PS → Except Nat PS) (st : PS) : Except Nat PS := rb (rf st) (fun s2 => aTesL c T rf 401 false s2)
def aClo (st : PS) : Except Nat PS := if bt c T st.1 93 then .ok (nxt st) else .error (fau c T st.1 0)
/-- a fact, g deep at most -/
def aFac : Nat → PS → Except Nat PS
  | 0, st => if wo c T st.1 = 12 ∨ bt c T st.1 91 then .error (fau c T st.1 2) else aCmp c T st
  | g + 1, st => if wo c T st.1 = 12 then rb (aFac g (nxt st)) (fun s2 => .ok (emi 2 0 s2))
    else if bt c T st.1 91 then rb (aTes c T (aFac g) (nxt st)) (fun s2 => aClo c T s2)
    else aCmp c T st
def aTop (st : PS) : Except Nat PS := aTes c T (aFac c T 10) st
end AP
