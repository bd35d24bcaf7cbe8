/-! the reference: bytes, runs, words -/
theorem as_i_self {s : am_S} {a k : Nat} {v : Int32} (h : s.1 a k = v) : as_i s a k v = s := by
  have : upd (s.1 a) k v = s.1 a := by
    funext j
    by_cases e : j = k
    · subst e; rw [upd_s, h]
    · rw [upd_n e]
  rw [as_i_eq_w, this, as_w_self]
theorem as_ii (s : am_S) (a k : Nat) (v w : Int32) : as_i (as_i s a k v) a k w = as_i s a k w := by
  unfold as_i
  congr 1
  funext b j
  by_cases e : b = a
  · subst e
    by_cases e2 : j = k <;> simp [am_up, e2]
  · simp [am_up, e]
/-- the text that the reference reads -/
def tx (c : Nat → Int32) (T : Nat) (s : am_S) : Prop := s.1 248 1 = nI T ∧ ∀ j, j < T → s.1 249 j = c j
theorem tx.mv {c : Nat → Int32} {T : Nat} {s s2 : am_S} (h : tx c T s) (h1 : s2.1 248 1 = s.1 248 1) (h2 : s2.1 249 = s.1 249) : tx c T s2 := ⟨h1.trans h.1, fun j hj => by rw [h2]; exact h.2 j hj⟩
theorem tx.i {c : Nat → Int32} {T : Nat} {s : am_S} (h : tx c T s) (a k : Nat) (v : Int32) (hk : (a = 248 → k ≠ 1) ∧ a ≠ 249) : tx c T (as_i s a k v) := h.mv (by rw [rd_i, if_neg (fun z => hk.1 z.1.symm z.2.symm)]) (as_i1 (Ne.symm hk.2))
def seeV (c : Nat → Int32) (T p : Nat) : Int32 := if p < T then c p &&& nI 255 else -1
section MW
variable {c : Nat → Int32} {T : Nat}
theorem m_see {s : am_S} {r : Nat} (h : tx c T s) (hT : T ≤ 400) (hr : r ≤ T) (h8 : s.1 248 8 = nI r) : f_X12_see s = some (seeV c T (sk c T r), as_i s 248 8 (nI (sk c T r))) := by
  have e4 : am_F = 4000 := rfl
  have hge := sk_ge (c := c) (T := T) r
  have hle := sk_le (c := c) hr
  have hx : ∀ v, tx c T (as_i s 248 8 v) := fun v => h.i 248 8 v (by decide)
  unfold f_X12_see
  have := am_lp_run (body := fun (q : am_S) => b_X12_see_0 q) (fun i => as_i s 248 8 (nI (r + i))) (sk c T r - r) (e := (seeV c T (sk c T r), as_i s 248 8 (nI (sk c T r)))) (fun i hi => by
    try dsimp only
    unfold b_X12_see_0
    obtain ⟨a1, a2⟩ := sk_sp (c := c) (T := T) (r := r) (q := r + i) (by omega) (by omega)
    rw [as_i3, (hx _).1, am_iff (nI_ge a1 (by omega)), am_ltd, gd_nI (by omega) (by decide), cL (by omega), (hx _).2 _ a1, am_ift a2, am_ltd, as_ii, nI_1, Nat.add_assoc]) (by
    try dsimp only
    rw [show r + (sk c T r - r) = sk c T r by omega]
    unfold b_X12_see_0 j_X12_see_38
    unfold seeV
    by_cases z : sk c T r < T
    · rw [as_i3, (hx _).1, am_iff (nI_ge z (by omega)), am_ltd, gd_nI (by omega) (by decide), cL (by omega), (hx _).2 _ z, am_iff (sk_no hT r z), am_iff (nI_ge z (by omega)), am_ltd, gd_nI (by omega) (by decide), am_bds, if_pos z, cL (by omega), (hx _).2 _ z]
    · rw [as_i3, (hx _).1, am_ift (nI_le (by omega) (by omega)), am_ift (nI_le (by omega) (by omega)), am_bds, if_neg z]) (F := am_F) (by omega)
  rw [Nat.add_zero, as_i_self h8] at this
  exact this
theorem m_isDigit {s : am_S} {q : Nat} (h : tx c T s) (hT : T ≤ 400) (hq : q < 2 ^ 31) : f_X12_isDigit (nI q) s = some (b01 (q < T ∧ DI (c q) = true)) := by
  unfold f_X12_isDigit
  rw [h.1]
  by_cases z : q < T
  · rw [am_iff (nI_ge z (by omega)), gd_nI (by omega) (by decide), cL (by omega), h.2 q z, gd2 (by omega) (by decide)]
    unfold DI
    by_cases c1 : c q < nI 48
    · rw [am_ift c1, b01_f (by simp [c1])]
    · rw [am_iff c1]
      by_cases c2 : nI 57 < c q
      · rw [am_ift c2, b01_f (by simp [c2])]
      · rw [am_iff c2, b01_t (by simp [z, c1, c2])]
  · rw [am_ift (nI_le (by omega) hq), b01_f (fun y => z y.1)]
theorem m_isLetter {s : am_S} {q : Nat} (h : tx c T s) (hT : T ≤ 400) (hq : q < 2 ^ 31) : f_X12_isLetter (nI q) s = some (b01 (q < T ∧ LE (c q) = true)) := by
  unfold f_X12_isLetter
  rw [h.1]
  by_cases z : q < T
  · rw [am_iff (nI_ge z (by omega)), gd_nI (by omega) (by decide), cL (by omega), h.2 q z, gd2 (by omega) (by decide)]
    unfold LE
    by_cases c1 : c q < nI 97
    · rw [am_ift c1, b01_f (by simp [c1])]
    · rw [am_iff c1]
      by_cases c2 : nI 122 < c q
      · rw [am_ift c2, b01_f (by simp [c2])]
      · rw [am_iff c2, b01_t (by simp [z, c1, c2])]
  · rw [am_ift (nI_le (by omega) hq), b01_f (fun y => z y.1)]
/-- where the letters from p on end -/
def wE (c : Nat → Int32) (T p : Nat) : Nat := if p < T ∧ LE (c p) = true then en c T p else p
theorem wE_ge {p : Nat} : p ≤ wE c T p := by
  unfold wE
  split
  · exact Nat.le_of_lt (en_gt _)
  · exact Nat.le_refl _
theorem wE_le {p : Nat} (hp : p ≤ T) : wE c T p ≤ T := by
  unfold wE
  split
  · rename_i z; exact en_le z.1
  · exact hp
theorem wE_in (hT : T ≤ 400) {p q : Nat} (h1 : p ≤ q) (h2 : q < wE c T p) : q < T ∧ LE (c q) = true := by
  unfold wE at h2
  by_cases z : p < T ∧ LE (c p) = true
  · rw [if_pos z] at h2
    exact ⟨Nat.lt_of_lt_of_le h2 (en_le z.1), (en_LE hT z.2).1 q h1 h2⟩
  · rw [if_neg z] at h2; omega
theorem wE_out (hT : T ≤ 400) (p : Nat) : ¬ (wE c T p < T ∧ LE (c (wE c T p)) = true) := by
  unfold wE
  by_cases z : p < T ∧ LE (c p) = true
  · rw [if_pos z]
    rintro ⟨z1, z2⟩
    rw [(en_LE hT z.2).2 z1] at z2
    exact absurd z2 (by decide)
  · rw [if_neg z]; exact z
theorem m_passWord {s : am_S} {p : Nat} (h : tx c T s) (hT : T ≤ 400) (hp : p ≤ T) (h8 : s.1 248 8 = nI p) : f_X12_passWord s = some (as_i s 248 8 (nI (wE c T p))) := by
  have e4 : am_F = 4000 := rfl
  have hge := wE_ge (c := c) (T := T) (p := p)
  have hle := wE_le (c := c) hp
  have hx : ∀ v, tx c T (as_i s 248 8 v) := fun v => h.i 248 8 v (by decide)
  unfold f_X12_passWord
  have := am_lp_run (body := fun (q : am_S) => b_X12_passWord_0 q) (fun i => as_i s 248 8 (nI (p + i))) (wE c T p - p) (e := as_i s 248 8 (nI (wE c T p))) (fun i hi => by
    try dsimp only
    unfold b_X12_passWord_0
    rw [as_i3, m_isLetter (hx _) hT (by omega), am_bds, am_b1 (wE_in hT (p := p) (by omega) (by omega)), am_ltd, as_ii, nI_1, Nat.add_assoc]) (by
    try dsimp only
    rw [show p + (wE c T p - p) = wE c T p by omega]
    unfold b_X12_passWord_0
    rw [as_i3, m_isLetter (hx _) hT (by omega), am_bds, am_b0 (wE_out hT p)]) (F := am_F) (by omega)
  rw [Nat.add_zero, as_i_self h8] at this
  exact this
/-- letters as a number -/
def accG (g : Nat → Int32) : Nat → Int64
  | 0 => 0
  | n + 1 => (accG g n <<< ((nI 8).toInt64 &&& 63)) ||| (g n).toInt64
def accN (g : Nat → Int32) : Nat → Nat
  | 0 => 0
  | n + 1 => 256 * accN g n + (g n).toNatClampNeg
theorem shor {a j : Nat} (ha : a < 2 ^ 48) (hj : j < 256) : (Int64.ofNat a <<< ((nI 8).toInt64 &&& 63)) ||| (nI j).toInt64 = Int64.ofNat (256 * a + j) := by
  have e8 : ((nI 8).toInt64 &&& 63) = (8 : Int64) := by decide
  have ej : (nI j).toInt64 = Int64.ofNat j := Int64.toInt_inj.mp (by rw [l_of, nI_toInt (by omega), Int64.toInt_ofNat_of_lt (by omega)])
  rw [e8, ej]
  apply Int64.toBitVec_inj.mp
  rw [Int64.toBitVec_or, Int64.toBitVec_shiftLeft]
  show (BitVec.ofNat 64 a <<< ((8 : Int64).toBitVec.smod 64)) ||| BitVec.ofNat 64 j = BitVec.ofNat 64 (256 * a + j)
  rw [show ((8 : Int64).toBitVec.smod 64) = 8#64 by decide]
  apply BitVec.eq_of_toNat_eq
  rw [BitVec.toNat_or, BitVec.shiftLeft_eq', BitVec.toNat_shiftLeft, BitVec.toNat_ofNat, BitVec.toNat_ofNat, BitVec.toNat_ofNat, BitVec.toNat_ofNat]
  rw [Nat.mod_eq_of_lt (by omega : a < 2 ^ 64), Nat.mod_eq_of_lt (by omega : j < 2 ^ 64), Nat.mod_eq_of_lt (by omega : 256 * a + j < 2 ^ 64), Nat.mod_eq_of_lt (by decide : 8 < 2 ^ 64), Nat.mod_eq_of_lt (by rw [Nat.shiftLeft_eq]; omega), ← Nat.shiftLeft_add_eq_or_of_lt (by omega : j < 2 ^ 8), Nat.shiftLeft_eq]
  omega
theorem accN_lt {g : Nat → Int32} : ∀ n, (∀ i, i < n → LE (g i) = true) → accN g n < 256 ^ n
  | 0, _ => by simp [accN]
  | n + 1, h => by
    have ih := accN_lt n (fun i hi => h i (by omega))
    obtain ⟨j, j1, j2, j3⟩ := LE_of (h n (by omega))
    rw [accN, j3, cL (by omega), Nat.pow_succ]
    omega
theorem p256 {n m : Nat} (h : n ≤ m) : 256 ^ n ≤ 256 ^ m := Nat.pow_le_pow_right (by decide) h
theorem accG_N {g : Nat → Int32} : ∀ n, n < 8 → (∀ i, i < n → LE (g i) = true) → accG g n = Int64.ofNat (accN g n)
  | 0, _, _ => rfl
  | n + 1, hn, h => by
    have ih := accG_N n (by omega) (fun i hi => h i (by omega))
    have lt := accN_lt n (fun i hi => h i (by omega))
    have l6 := p256 (n := n) (m := 6) (by omega)
    obtain ⟨j, j1, j2, j3⟩ := LE_of (h n (by omega))
    have : (256 : Nat) ^ 6 = 2 ^ 48 := by decide
    rw [accG, accN, ih, j3, shor (by omega) (by omega), cL (by omega)]
theorem accN_inj {g h : Nat → Int32} : ∀ n m, (∀ i, i < n → LE (g i) = true) → (∀ i, i < m → LE (h i) = true) → accN g n = accN h m → n = m ∧ ∀ i, i < n → g i = h i
  | 0, 0, _, _, _ => ⟨rfl, fun i hi => by omega⟩
  | 0, m + 1, _, hh, e => by
    obtain ⟨j, j1, j2, j3⟩ := LE_of (hh m (by omega))
    rw [accN, accN, j3, cL (by omega)] at e
    omega
  | n + 1, 0, hg, _, e => by
    obtain ⟨j, j1, j2, j3⟩ := LE_of (hg n (by omega))
    rw [accN, accN, j3, cL (by omega)] at e
    omega
  | n + 1, m + 1, hg, hh, e => by
    obtain ⟨j, j1, j2, j3⟩ := LE_of (hg n (by omega))
    obtain ⟨k, k1, k2, k3⟩ := LE_of (hh m (by omega))
    rw [accN, accN, j3, k3, cL (by omega), cL (by omega)] at e
    have e1 : accN g n = accN h m := by omega
    have e2 : j = k := by omega
    obtain ⟨a1, a2⟩ := accN_inj n m (fun i hi => hg i (by omega)) (fun i hi => hh i (by omega)) e1
    refine ⟨by omega, fun i hi => ?_⟩
    by_cases z : i = n
    · subst z; rw [j3, a1, k3, e2]
    · exact a2 i (by omega)
theorem accG_congr {g h : Nat → Int32} : ∀ n, (∀ i, i < n → g i = h i) → accG g n = accG h n
  | 0, _ => rfl
  | n + 1, e => by rw [accG, accG, accG_congr n (fun i hi => e i (by omega)), e n (by omega)]
def WK : List Int64 := [439720572019, 123581014175598, 500136506228, 126943972648308, 26982, 1751216749, 426953501796, 27988560030557044, 7104869, 7561593, 28530, 6385252, 7237492, 127978959562098, 114784635872626, 1717658484, 1935763812, 29551, 448545973363, 448377483876, 1818846579, 126879297138276, 1752135026, 6578553]
theorem WK_acc : ∀ k, k < 24 → accG (wC k) (wL.getD k 0) = WK.getD k 0 := by decide +kernel
/-- word k stands at p -/
abbrev atW (c : Nat → Int32) (T p k : Nat) : Prop := p < T ∧ LE (c p) = true ∧ wn c p (en c T p) = k
theorem m_isWord {s : am_S} {r k : Nat} (h : tx c T s) (hT : T ≤ 400) (hr : r ≤ T) (h8 : s.1 248 8 = nI r) (hk : k < 24) (w : Int64) (hw : WK.getD k 0 = w) : f_X12_isWord w s = some (b01 (atW c T (sk c T r) k), as_i s 248 8 (nI (sk c T r))) := by
  have e4 : am_F = 4000 := rfl
  have hle := sk_le (c := c) hr
  unfold f_X12_isWord
  rw [m_see h hT hr h8, am_b2s]
  generalize hp : sk c T r = p at *
  have hx : tx c T (as_i s 248 8 (nI p)) := h.i 248 8 _ (by decide)
  have h8x : (as_i s 248 8 (nI p)).1 248 8 = nI p := as_i3
  generalize hsx : as_i s 248 8 (nI p) = x at *
  have wge := wE_ge (c := c) (T := T) (p := p)
  have wle := wE_le (c := c) (T := T) (p := p) hle
  have hl : ∀ i, i < wE c T p - p → LE (c (p + i)) = true := fun i hi => (wE_in hT (p := p) (by omega) (by omega)).2
  have res : j_X12_isWord_56 w (accG (fun i => c (p + i)) (min (wE c T p - p) 8)) (nI (wE c T p - p)) x = some (b01 (atW c T p k), x) := by
    unfold j_X12_isWord_56
    by_cases z0 : wE c T p = p
    · rw [am_ift (by rw [z0, Nat.sub_self]; decide), b01_f]
      rintro ⟨a1, a2, _⟩
      unfold wE at z0
      rw [if_pos ⟨a1, a2⟩] at z0
      have := en_gt (c := c) (T := T) p
      omega
    · have z1 : p < T ∧ LE (c p) = true := by
        by_cases y : p < T ∧ LE (c p) = true
        · exact y
        · unfold wE at z0; rw [if_neg y] at z0; exact absurd rfl z0
      have z2 : wE c T p = en c T p := by unfold wE; rw [if_pos z1]
      obtain ⟨t1, t2, t3, t4, t5, t6⟩ := wtab k hk
      rw [am_iff (by rw [show (0 : Int32) = nI 0 from rfl, nI_leI (by omega) (by decide)]; omega)]
      by_cases z8 : 8 ≤ wE c T p - p
      · rw [am_ift (nI_le z8 (by omega)), b01_f]
        rintro ⟨_, _, a3⟩
        have := (mtw_iff.mp ((wn_iff hk).mp a3)).1
        omega
      · rw [am_iff (nI_ge (by omega) (by decide)), Nat.min_eq_left (by omega)]
        have key : accG (fun i => c (p + i)) (wE c T p - p) = w ↔ atW c T p k := by
          constructor
          · intro e
            rw [← hw, ← WK_acc k hk, accG_N _ (by omega) hl, accG_N _ t5 (fun i hi => (t3 i hi).2)] at e
            have l7 := p256 (n := wE c T p - p) (m := 7) (by omega)
            have l7' := p256 (n := wL.getD k 0) (m := 7) (by omega)
            have q1 := accN_lt (g := fun i => c (p + i)) _ hl
            have q2 := accN_lt (g := wC k) (wL.getD k 0) (fun i hi => (t3 i hi).2)
            have : (256 : Nat) ^ 7 = 2 ^ 56 := by decide
            have e2 := congrArg Int64.toInt e
            rw [Int64.toInt_ofNat_of_lt (by omega), Int64.toInt_ofNat_of_lt (by omega)] at e2
            obtain ⟨a1, a2⟩ := accN_inj _ _ hl (fun i hi => (t3 i hi).2) (Int.ofNat.inj e2)
            exact ⟨z1.1, z1.2, (wn_iff hk).mpr (mtw_iff.mpr ⟨by omega, fun j hj => a2 j (by omega)⟩)⟩
          · rintro ⟨_, _, a3⟩
            obtain ⟨b1, b2⟩ := mtw_iff.mp ((wn_iff hk).mp a3)
            rw [← hw, ← WK_acc k hk, z2, b1, Nat.add_sub_cancel_left]
            exact accG_congr _ b2
        by_cases y : accG (fun i => c (p + i)) (wE c T p - p) = w
        · rw [am_ift (by rw [y]; unfold lg_cmp; simp), b01_t (key.mp y)]
        · rw [am_iff, b01_f (fun z => y (key.mpr z))]
          intro z
          have n1 := mt lg_lt.mpr (a := accG (fun i => c (p + i)) (wE c T p - p) < w) (by rw [z]; decide)
          have n2 := mt lg_gt.mpr (a := w < accG (fun i => c (p + i)) (wE c T p - p)) (by rw [z]; decide)
          exact y (Int64.le_antisymm (Int64.not_lt.mp n2) (Int64.not_lt.mp n1))
  have := am_lp_run (body := fun (q : Int64 × Int32) => b_X12_isWord_10 x w q.1 q.2) (fun i => (accG (fun i => c (p + i)) (min i 8), nI i)) (wE c T p - p) (e := (b01 (atW c T p k), x)) (fun i hi => by
    try dsimp only
    unfold b_X12_isWord_10
    have a1 := wE_in (c := c) hT (p := p) (q := p + i) (by omega) (by omega)
    rw [h8x, nI_add, m_isLetter hx hT (by omega), am_bds, am_b1 a1]
    by_cases z : 8 ≤ i
    · rw [am_ift (nI_le z (by omega)), am_ltd, nI_1, Nat.min_eq_right z, Nat.min_eq_right (by omega)]
    · rw [am_iff (nI_ge (by omega) (by decide)), am_ltd, gd_nI (by omega) (by decide), cL (by omega), hx.2 _ a1.1, am_ltd, am_ltd, nI_1, Nat.min_eq_left (by omega), Nat.min_eq_left (by omega)]
      rfl) (by
    try dsimp only
    unfold b_X12_isWord_10
    rw [h8x, nI_add, show p + (wE c T p - p) = wE c T p by omega, m_isLetter hx hT (by omega), am_bds, am_b0 (wE_out hT p), res, am_bds]) (F := am_F) (by omega)
  exact this
end MW
