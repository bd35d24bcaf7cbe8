/-! a saying's words, in both -/
theorem jl1 {s : am_S} {a k : Nat} {v : Int64} : (as_j s a k v).2.1 a k = v := am_up_at
theorem jl2 {s : am_S} {a k j : Nat} {v : Int64} (h : j ≠ k) : (as_j s a k v).2.1 a j = s.2.1 a j := am_up_k h
theorem jl3 {s : am_S} {a k b : Nat} {v : Int64} (h : b ≠ a) : (as_j s a k v).2.1 b = s.2.1 b := am_up_ne h
def wv (m : Nat → Int32) (i j f : Nat) (v : Int32) (z : Int64) (q : Nat) : Int64 := match q with
  | 0 => (nI i).toInt64
  | 1 => (nI j).toInt64
  | 2 => (nI f).toInt64
  | 3 => v.toInt64
  | 4 => (soM m f).toInt64
  | 5 => (bel m i f).toInt64
  | 6 => (bel m j f).toInt64
  | 7 => (m (123 + j)).toInt64
  | 8 => ((m 269 >>> (nI j &&& 31)) &&& 1).toInt64
  | 9 => (m (130 + (7 * j + i))).toInt64
  | 10 => (harmA m (nI f) v).toInt64
  | 11 => z
  | 12 => (m 7).toInt64
  | _ => (m 6).toInt64
theorem wv_7 {m : Nat → Int32} {i j f : Nat} {v : Int32} {z : Int64} : wv m i j f v z 7 = (m (123 + j)).toInt64 := rfl
theorem wv_8 {m : Nat → Int32} {i j f : Nat} {v : Int32} {z : Int64} : wv m i j f v z 8 = ((m 269 >>> (nI j &&& 31)) &&& 1).toInt64 := rfl
theorem wv_9 {m : Nat → Int32} {i j f : Nat} {v : Int32} {z : Int64} : wv m i j f v z 9 = (m (130 + (7 * j + i))).toInt64 := rfl
theorem wv_10 {m : Nat → Int32} {i j f : Nat} {v : Int32} {z : Int64} : wv m i j f v z 10 = (harmA m (nI f) v).toInt64 := rfl
theorem q14 {q : Nat} (h : q < 14) : q = 0 ∨ q = 1 ∨ q = 2 ∨ q = 3 ∨ q = 4 ∨ q = 5 ∨ q = 6 ∨ q = 7 ∨ q = 8 ∨ q = 9 ∨ q = 10 ∨ q = 11 ∨ q = 12 ∨ q = 13 := by omega
theorem m_wordsF {m : Nat → Int32} {s x : am_S} {i j f : Nat} {v : Int32} {z u : Int64} (x1 : x.1 258 = m) (x2 : ∀ a, a ≠ 259 → x.1 a = s.1 a) (x3 : x.2.2 = s.2.2) (x5 : ∀ a, a ≠ 257 → x.2.1 a = s.2.1 a) (x4 : ∀ q, q < 11 → x.2.1 257 q = wv m i j f v z q) (hu : u = z) : ∃ s2, j_X12_words_154 u (nI 11) x = some s2 ∧ (∀ a, a ≠ 259 → s2.1 a = s.1 a) ∧ s2.2.2 = s.2.2 ∧ (∀ a, a ≠ 257 → s2.2.1 a = s.2.1 a) ∧ ∀ q, q < 14 → s2.2.1 257 q = wv m i j f v z q := by
  refine ⟨as_j (as_j (as_j x 257 11 u) 257 12 (x.1 258 7).toInt64) 257 13 (x.1 258 6).toInt64, ?_, fun a ha => x2 a ha, x3, fun a ha => by rw [jl3 ha, jl3 ha, jl3 ha, x5 a ha], fun q hq => ?_⟩
  · unfold j_X12_words_154
    rw [gd_nI (by decide) (by decide), cL (by decide), am_ltd, am_ltd, am_ltd, as_j1, as_j1, as_j1]
  · by_cases c : q < 11
    · rw [jl2 (by omega), jl2 (by omega), jl2 (by omega), x4 q c]
    · have : q = 11 ∨ q = 12 ∨ q = 13 := by omega
      rcases this with rfl | rfl | rfl
      · rw [jl2 (by decide), jl2 (by decide), jl1, hu]
        rfl
      · rw [jl2 (by decide), jl1, x1]
        rfl
      · rw [jl1, x1]
        rfl
theorem m_words {m : Nat → Int32} {s : am_S} {i j f : Nat} {v p5 : Int32} (hm : s.1 258 = m) (w : wfT m) (hi : i < mP m) (hj : j < mP m) (hf : f < mF m) : ∃ s2, f_X12_words (nI i) (nI j) (nI f) v p5 s = some s2 ∧ (∀ a, a ≠ 259 → s2.1 a = s.1 a) ∧ s2.2.2 = s.2.2 ∧ (∀ a, a ≠ 257 → s2.2.1 a = s.2.1 a) ∧ ∀ q, q < 14 → s2.2.1 257 q = wv m i j f v (if p5 = 0 then 0 else 1) q := by
  have hP := w.P7
  have hF := w.F8
  obtain ⟨G, hG⟩ : ∃ G : Nat → am_S → (Nat → Int32), ∀ p x, p < 7 → x.1 258 = m → f_X12_believedOf (nI p) (nI f) x = some (bel m p f, as_w x 259 (G p x)) := by
    have h : ∀ p x, ∃ B, p < 7 → x.1 258 = m → f_X12_believedOf (nI p) (nI f) x = some (bel m p f, as_w x 259 B) := fun p x => by
      by_cases c : p < 7 ∧ x.1 258 = m
      · obtain ⟨B, hB⟩ := m_believedOf c.2 w c.1 hf
        exact ⟨B, fun _ _ => hB⟩
      · exact ⟨fun _ => 0, fun c1 c2 => absurd ⟨c1, c2⟩ c⟩
    exact ⟨fun p x => Classical.choose (h p x), fun p x => Classical.choose_spec (h p x)⟩
  have hw9 : ∀ (a k : Nat) (u : Int64) (x : am_S), x.1 258 = m → (as_j x a k u).1 258 = m := fun _ _ _ _ h => h
  have hw8 : ∀ (g : Nat → Int32) (x : am_S), x.1 258 = m → (as_w x 259 g).1 258 = m := fun g x h => by rw [as_w1 (by decide)]; exact h
  have fin : ∀ x : am_S, x.1 258 = m → (∀ a, a ≠ 259 → x.1 a = s.1 a) → x.2.2 = s.2.2 → (∀ a, a ≠ 257 → x.2.1 a = s.2.1 a) → (∀ q, q < 11 → x.2.1 257 q = wv m i j f v (if p5 = 0 then 0 else 1) q) → ∀ u : Int64, u = (if p5 = 0 then 0 else 1) → ∃ s2, j_X12_words_154 u (nI 11) x = some s2 ∧ (∀ a, a ≠ 259 → s2.1 a = s.1 a) ∧ s2.2.2 = s.2.2 ∧ (∀ a, a ≠ 257 → s2.2.1 a = s.2.1 a) ∧ ∀ q, q < 14 → s2.2.1 257 q = wv m i j f v (if p5 = 0 then 0 else 1) q := fun x x1 x2 x3 x5 x4 u hu => m_wordsF x1 x2 x3 x5 x4 hu
  unfold f_X12_words
  rw [am_ltd, am_ltd, am_ltd, am_ltd, m_soOf, am_bds, am_ltd]
  generalize hs0 : as_j (as_j (as_j (as_j s 257 0 (nI i).toInt64) 257 1 (nI j).toInt64) 257 2 (nI f).toInt64) 257 3 v.toInt64 = s0
  have a0 : s0.1 = s.1 := by rw [← hs0, as_j1, as_j1, as_j1, as_j1]
  have b0 : s0.2.2 = s.2.2 := by rw [← hs0, as_j4, as_j4, as_j4, as_j4]
  have c0 : ∀ q, q < 4 → s0.2.1 257 q = wv m i j f v (if p5 = 0 then 0 else 1) q := fun q hq => by
    have : q = 0 ∨ q = 1 ∨ q = 2 ∨ q = 3 := by omega
    rw [← hs0]
    rcases this with rfl | rfl | rfl | rfl
    · rw [jl2 (by decide), jl2 (by decide), jl2 (by decide), jl1]; rfl
    · rw [jl2 (by decide), jl2 (by decide), jl1]; rfl
    · rw [jl2 (by decide), jl1]; rfl
    · rw [jl1]; rfl
  have m0 : s0.1 258 = m := by rw [a0]; exact hm
  have d0 : ∀ a, a ≠ 257 → s0.2.1 a = s.2.1 a := fun a ha => by rw [← hs0, jl3 ha, jl3 ha, jl3 ha, jl3 ha]
  rw [m0, hG i _ (by omega) (hw9 _ _ _ _ m0), am_b2s, am_ltd]
  generalize hs1 : as_j (as_w (as_j s0 257 4 (soM m f).toInt64) 259 (G i (as_j s0 257 4 (soM m f).toInt64))) 257 5 (bel m i f).toInt64 = s1
  have a1 : ∀ a, a ≠ 259 → s1.1 a = s.1 a := fun a ha => by
    rw [← hs1, as_j1, as_w1 ha, as_j1, a0]
  have b1 : s1.2.2 = s.2.2 := by rw [← hs1, as_j4, as_w4, as_j4, b0]
  have c1 : ∀ q, q < 6 → s1.2.1 257 q = wv m i j f v (if p5 = 0 then 0 else 1) q := fun q hq => by
    rw [← hs1]
    by_cases q5 : q = 5
    · subst q5; rw [jl1]; rfl
    · rw [jl2 q5, as_w4]
      by_cases q4 : q = 4
      · subst q4; rw [jl1]; rfl
      · rw [jl2 q4, c0 q (by omega)]
  have m1 : s1.1 258 = m := by rw [a1 258 (by decide)]; exact hm
  have d1 : ∀ a, a ≠ 257 → s1.2.1 a = s.2.1 a := fun a ha => by rw [← hs1, jl3 ha, as_w4, jl3 ha, d0 a ha]
  rw [hG j _ (by omega) m1, am_b2s, am_ltd, nI_add, am_ltd, gd_nI (by omega) (by decide), cL (by omega), am_ltd, am_ltd]
  have m2 : ∀ u, (as_j (as_w s1 259 (G j s1)) 257 6 u).1 258 = m := fun u => hw9 _ _ _ _ (hw8 _ _ m1)
  generalize hs2 : as_j (as_w s1 259 (G j s1)) 257 6 (bel m j f).toInt64 = s2
  have m2 : s2.1 258 = m := by rw [← hs2]; exact m2 _
  have a2 : ∀ a, a ≠ 259 → s2.1 a = s.1 a := fun a ha => by rw [← hs2, as_j1, as_w1 ha, a1 a ha]
  have b2 : s2.2.2 = s.2.2 := by rw [← hs2, as_j4, as_w4, b1]
  have c2 : ∀ q, q < 7 → s2.2.1 257 q = wv m i j f v (if p5 = 0 then 0 else 1) q := fun q hq => by
    rw [← hs2]
    by_cases q6 : q = 6
    · subst q6; rw [jl1]; rfl
    · rw [jl2 q6, as_w4, c1 q (by omega)]
  have d2 : ∀ a, a ≠ 257 → s2.2.1 a = s.2.1 a := fun a ha => by rw [← hs2, jl3 ha, as_w4, d1 a ha]
  rw [as_j1, m2, m_trustOf (by omega) (by omega), am_bds, am_ltd]
  rw [as_j1, as_j1, m2, m_harmAlone (m := m) (hw9 _ _ _ _ (hw9 _ _ _ _ (hw9 _ _ _ _ m2))) w.okH, am_bds, am_ltd]
  generalize hs3 : as_j (as_j (as_j (as_j s2 257 7 (m (123 + j)).toInt64) 257 8 ((m 269 >>> (nI j &&& 31)) &&& 1).toInt64) 257 9 (m (130 + (7 * j + i))).toInt64) 257 10 (harmA m (nI f) v).toInt64 = s3
  have a3 : s3.1 = s2.1 := by rw [← hs3, as_j1, as_j1, as_j1, as_j1]
  have b3 : s3.2.2 = s.2.2 := by rw [← hs3, as_j4, as_j4, as_j4, as_j4, b2]
  have c3 : ∀ q, q < 11 → s3.2.1 257 q = wv m i j f v (if p5 = 0 then 0 else 1) q := fun q hq => by
    rw [← hs3]
    by_cases q10 : q = 10
    · subst q10; rw [jl1, wv_10]
    · rw [jl2 q10]
      by_cases q9 : q = 9
      · subst q9; rw [jl1, wv_9]
      · rw [jl2 q9]
        by_cases q8 : q = 8
        · subst q8; rw [jl1, wv_8]
        · rw [jl2 q8]
          by_cases q7 : q = 7
          · subst q7; rw [jl1, wv_7]
          · rw [jl2 q7, c2 q (by omega)]
  have d3 : ∀ a, a ≠ 257 → s3.2.1 a = s.2.1 a := fun a ha => by rw [← hs3, jl3 ha, jl3 ha, jl3 ha, jl3 ha, d2 a ha]
  by_cases hp : p5 = 0
  · rw [am_ift hp]
    exact fin s3 (by rw [a3]; exact m2) (fun a ha => by rw [a3]; exact a2 a ha) b3 d3 c3 0 (if_pos hp).symm
  · rw [am_iff hp]
    exact fin s3 (by rw [a3]; exact m2) (fun a ha => by rw [a3]; exact a2 a ha) b3 d3 c3 1 (if_neg hp).symm
/-- what the class's talk is of -/
def talkAt (s : am_S) (i j f : Nat) (v z : Int32) : Prop := s.1 134 2 = nI i ∧ s.1 134 3 = nI j ∧ s.1 134 4 = nI f ∧ s.1 134 5 = v ∧ s.1 134 6 = z
theorem c_valueOf {m : Nat → Int32} {s : am_S} {i j f : Nat} {v z : Int32} (W : wfT m) (t : townAt m s) (hL : s.2.2.1 ∈ am_isL) (l : lifeAt m s s.2.2.1) (k : talkAt s i j f v z) (hi : i < mP m) (hj : j < mP m) (hf : f < mF m) {w : Nat} (hw : okWord w) : f_X6_valueOf (nI w) s = some (wv m i j f v z.toInt64 (wordM w)) := by
  have hP := W.P7
  have hF := W.F8
  obtain ⟨k2, k3, k4, k5, k6⟩ := k
  have h0 : 0 < mF m := by omega
  have hw : w = 2 ∨ w = 5 ∨ w = 6 ∨ w = 13 ∨ w = 14 ∨ w = 15 ∨ w = 16 ∨ w = 17 ∨ w = 18 ∨ w = 19 ∨ w = 20 ∨ w = 21 ∨ w = 22 ∨ w = 23 := by unfold okWord at hw; omega
  unfold f_X6_valueOf
  rw [k2, k3, k4, k5, k6]
  generalize hLL : s.2.2.1 = L at *
  rcases hw with rfl | rfl | rfl | rfl | rfl | rfl | rfl | rfl | rfl | rfl | rfl | rfl | rfl | rfl
  · rw [am_ift rfl]
    simp (disch := omega) only [am_ltd, pk_mul, nI_add, nI_1, gd2, cL]
    rw [t.T h0 _ (by omega), show j * 7 + i = 7 * j + i by omega]
    rfl
  · repeat rw [am_iff (by decide)]
    rw [am_ift rfl, c_harmOfFact t.okCH W.okH, am_bds]
    rfl
  · repeat rw [am_iff (by decide)]
    rw [am_ift rfl, c_bit, am_bds, t.C]
    rfl
  · repeat rw [am_iff (by decide)]
    rw [am_ift rfl]
    rfl
  · repeat rw [am_iff (by decide)]
    rw [am_ift rfl]
    rfl
  · repeat rw [am_iff (by decide)]
    rw [am_ift rfl]
    rfl
  · repeat rw [am_iff (by decide)]
    rw [am_ift rfl]
    rfl
  · repeat rw [am_iff (by decide)]
    rw [am_ift rfl, c_bit, am_bds, t.so]
    rfl
  · repeat rw [am_iff (by decide)]
    rw [am_ift rfl, am_ltd, am_gdt hL]
    simp (disch := omega) only [am_ltd, pk_mul, nI_add, nI_1, gd2, cL]
    rw [show i * 8 + f = 8 * i + f by omega, l.bl hi (by omega)]
    rfl
  · repeat rw [am_iff (by decide)]
    rw [am_ift rfl, am_ltd, am_gdt hL]
    simp (disch := omega) only [am_ltd, pk_mul, nI_add, nI_1, gd2, cL]
    rw [show j * 8 + f = 8 * j + f by omega, l.bl hj (by omega)]
    rfl
  · repeat rw [am_iff (by decide)]
    rw [am_ift rfl, am_ltd, am_gdt hL]
    simp (disch := omega) only [am_ltd, gd2, cL]
    rw [l.li (by omega), if_pos hj]
    rfl
  · repeat rw [am_iff (by decide)]
    rw [am_ift rfl]
    rfl
  · repeat rw [am_iff (by decide)]
    rw [am_ift rfl, am_ltd, am_gdt hL, l.hr]
    rfl
  · repeat rw [am_iff (by decide)]
    rw [am_ltd, am_gdt hL, l.day]
    rfl
