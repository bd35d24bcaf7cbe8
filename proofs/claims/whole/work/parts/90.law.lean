/-! THE CLAIM OUT OF ONE WALK OF THE LAW'S BODY. Your part is whole_start (and what it stands on); all else here is the same for every law, but numbers. -/
def R_law : String := "DailyLieLaw"
def lw_P (b : Addr) (xs : List Int32) (args : Array Value) (s : State) : Prop := args = #[.ref b] ∧ s.IntsAt b xs ∧ xs.length ≤ 3072 ∧ (Jvm.Cond.and given_1 narrow_1).before args s = true
def lw_Q (_ : Array Value) (s : State) (o : Outcome) (t : State) : Prop := o = .returned (some (.int 1)) ∧ Framed s o t [] 600000 7302250
def lw_Z (below : List Frame) (a : Array Value) (s : State) : State → Prop := fun t => ∃ o, t.status = .running ∧ Ended t below o ∧ lw_Q a s o t
/-- the law's own end, with 1 on the stack, nothing written that was there before, its room as the claim has it -/
theorem lw_ret {p : Program} {l : Launch} {e : Env} {s : State} {m : MethodId} {below : List Frame} {meth : Method} {c : Code} {b : Nat} (hx : p.tables.exec = Jvm.exec) (hb : c.code = code) (hr : meth.sig.returnType = ret) (hlocks : meth.locks = false) {pc : Nat} {H : Heap} {ls : Array Slot} (hdg : decode code pc = .ok (.ireturn, 1)) : W p l e room_1 s m #[Value.ref b] below meth c H [] 600000 7302250 (lw_Z below #[Value.ref b] s) (F0 m pc ls [.int 1]) := by
  intro T hT X
  obtain ⟨fs, hret, hrun, hended, hW, hframe⟩ := X.leave (v := some (.int 1)) (hlocks := hlocks) (fun h => by rw [hr] at h; cases h)
  have hmeth' : T.vm.method? m = some meth := X.method'
  refine ⟨T.setFrames fs, ?_, .returned (some (.int 1)), hrun, hended, rfl, ⟨_, rfl⟩, hW, hframe⟩
  jvm_step X.here [X.here.top, hx, hb, hdg, hmeth', hr, ret, narrow_b1]
  (try refine ⟨rfl, ?_⟩); (try refine ⟨rfl, ?_⟩)
  first | (intro acts; rw [hret _ acts rfl rfl rfl]) | rw [hret _ _ rfl rfl rfl]
  exact Steps.refl _
/-- what holds at the law's entry: the machine, the code, the tables' words (any of lw_tbl by 'hts w (by decide +kernel)'), the script of L ints xs at the cell b, what the Statement gives of the start (any of its parts by flat_of_before) -/
def lw_At (p : Program) (s : State) (m : MethodId) (meth : Method) (c : Code) (b L : Nat) (xs : Nat → Int32) : Prop :=
  p.tables.exec = Jvm.exec ∧ c.code = code ∧ meth.sig.returnType = ret ∧ c.maxLocals = 4 ∧ s.vm.findClass R_law = some m.cls ∧ (∀ w ∈ lw_tbl, w.before #[Value.ref b] s = true) ∧ va_X b L xs s s.heap ∧ b < s.heap.size ∧ meth.locks = false ∧ (Jvm.Cond.and given_1 narrow_1).before #[Value.ref b] s = true
section AML
variable {x : am_X} {own : String} {cc : ByteArray} {nL ce sl n : Nat} {lv : List (Nat × Value)} {st : List Value} {h : am_H}
/-- the script: L ints xs at the cell b0, outside -/
def AV (x : am_X) (b0 L : Nat) (xs : Nat → Int32) : Prop := match x with
  | (_, _, _, _, s, _, _, _, _, _, b, _, _, _) => va_X b0 L xs s s.heap ∧ b0 < s.heap.size ∧ ¬ b ≤ b0
theorem al_len (pc : Nat) {b0 L : Nat} {xs : Nat → Int32} (C : AC x own cc nL) (V : AV x b0 L xs) (d : decode cc pc = .ok (.arraylength, 1)) (kk : AX x ce sl (pc + 1) lv (.int (Int32.ofNat L) :: st) n h) : AX x ce sl pc lv (.retAddr b0 :: st) n h := by
  obtain ⟨p, l, e, R, s, m, args, below, meth, c, b, D, cs, Q⟩ := x
  intro H ls locs i1 i2 i3 i4 i5 i6
  exact va_slen C.1 C.2.1 V.1 V.2.1 V.2.2 i5 d (kk H ls locs i1 i2 i3 i4 i5 i6)
theorem al_ld (pc : Nat) {b0 L : Nat} {xs : Nat → Int32} {i : Int32} (C : AC x own cc nL) (V : AV x b0 L xs) (hin : ¬ i < 0 ∧ i.toNatClampNeg < L) (d : decode cc pc = .ok (.iaload, 1)) (kk : AX x ce sl (pc + 1) lv (.int (xs i.toNatClampNeg) :: st) n h) : AX x ce sl pc lv (.int i :: .retAddr b0 :: st) n h := by
  obtain ⟨p, l, e, R, s, m, args, below, meth, c, b, D, cs, Q⟩ := x
  intro H ls locs i1 i2 i3 i4 i5 i6
  exact va_sld C.1 C.2.1 V.1 V.2.1 V.2.2 i5 (am_vin hin) d (kk H ls locs i1 i2 i3 i4 i5 i6)
theorem al_callV (pc : Nat) {idx d2 a ci np l : Nat} {y : MethodName} {cc2 : ByteArray} {nL2 : Nat} {rt : Option FieldType} {r : Option Value} {s s2 : am_S} (As : List Value) {stk st2 : List Value} (C : AC x own cc nL) (A : AR x 1000 80000 ce sl) (hd : d2 + 1 ≤ 1000) (L : Cond.methodLink own idx y ∈ am_tbl) (Y : AYc y cc2 nL2 rt np) (V : AYv y ci) (hM : AS y cc2 nL2 rt d2 (.ref a :: As) s r s2) (ha : a < am_N) (hs : am_sh a = (ci, l)) (hnp : As.length = np) (hst : stk = As.reverse ++ .ref a :: st) (hsum : (st.map fun v => v.category).sum ≤ 8) (hst2 : r.toList ++ st = st2) (d : decode cc pc = .ok (.invokevirtual idx, 3)) (kk : AX x ce sl (pc + 3) lv st2 am_N (am_h s2)) : AX x ce sl pc lv stk am_N (am_h s) := am_callV (mc := 0) (ms := 0) pc As C (A.lc hd (by omega) (Nat.le_refl _) (Nat.le_refl _)) L Y V hM rfl ha (congrArg Prod.fst hs) hnp hst hsum hst2 d kk
end AML
set_option maxRecDepth 100000 in
set_option maxHeartbeats 16000000 in
theorem law_loop {x : am_X} {b0 L : Nat} {xs : Nat → Int32} (Inv : Nat → am_S → Prop) (hL : L ≤ 3072) (C : AC x RL cL_law 4) (A : AR x 1000 80000 266 21249) (V : AV x b0 L xs) (hS : LW Inv) (hmono : ∀ k s, Inv k s → Inv (k + 1) s)
    (hend : ∀ (lv : List (Nat × Value)) (s : am_S), AX x 266 21249 1127 lv [] am_N (am_h s)) :
    ∀ (f k : Nat) (s : am_S), 6 * k ≤ L + 6 → L + 6 - 6 * k < f → Inv k s → AX x 266 21249 18 [(3, .int (nI (6 * k))), (0, .retAddr b0), (1, .ref 0), (2, .ref 248)] [] am_N (am_h s) := by
  intro f
  induction f with
  | zero => intro k s _ h _; omega
  | succ f ih =>
    intro k s hk0 hf hI
    generalize hie : nI (6 * k) = i
    refine am_iload_n 18 C dL_law_18 rfl 0 rfl ?_
    refine am_aload_nX 19 C dL_law_19 rfl 1 rfl ?_
    refine al_len 20 C V dL_law_20 ?_
    refine am_bipush 21 (6 : Int32) C dL_law_21 (by decide) ?_
    refine am_isub 23 C dL_law_23 ?_
    refine am_icmp_gt 24 1127 C dL_law_24 (by decide) (fun c => hend _ s) (fun c => ?_)
    have hin : 6 * k + 6 ≤ L := by
      rcases Nat.lt_or_ge L (6 * k + 6) with h | h
      · exfalso
        apply c
        rw [← hie]
        have e1 : (Int32.ofNat L - 6).toInt = (L : Int) - 6 := pk_sub_toInt (a := L) (b := 6) (by omega) (by omega)
        have e2 : (nI (6 * k)).toInt = ((6 * k : Nat) : Int) := nI_toInt (by omega)
        rw [Int32.lt_iff_toInt_lt, e1, e2]
        omega
      · exact h
    have hk : k < 512 := by omega
    have hix : ∀ j : Nat, j < 6 → ¬ (i + Int32.ofNat j) < 0 ∧ (i + Int32.ofNat j).toNatClampNeg < L := by
      intro j hj
      have e : i + Int32.ofNat j = nI (6 * k + j) := by rw [← hie]; exact nI_add _ _
      rw [e]
      exact ⟨nI_pos (by omega), by rw [nI_clamp (by omega)]; omega⟩
    have hi0 : ¬ i < 0 ∧ i.toNatClampNeg < L := by
      rw [← hie]
      exact ⟨nI_pos (by omega), by rw [nI_clamp (by omega)]; omega⟩
    have next : ∀ s2 : am_S, Inv (k + 1) s2 → AX x 266 21249 1121 [(3, .int i), (0, .retAddr b0), (1, .ref 0), (2, .ref 248)] [] am_N (am_h s2) := by
      intro s2 h2
      refine am_iinc 1121 (nI (6 * (k + 1))) (lv2 := [(3, .int (nI (6 * (k + 1)))), (0, .retAddr b0), (1, .ref 0), (2, .ref 248)]) C dL_law_1121 0 rfl (by rw [← hie]; exact nI_add (6 * k) 6) (by decide) rfl ?_
      refine am_goto 1124 18 C dL_law_1124 (by decide) ?_
      exact ih (k + 1) s2 (by omega) (by omega) h2
    refine am_aload_nX 27 C dL_law_27 rfl 1 rfl ?_
    refine am_iload_n 28 C dL_law_28 rfl 0 rfl ?_
    refine al_ld 29 C V hi0 dL_law_29 ?_
    refine am_bipush 30 (31 : Int32) C dL_law_30 (by decide) ?_
    refine am_iand 32 C dL_law_32 ?_
    generalize xs i.toNatClampNeg &&& 31 = u
    by_cases c0 : u = (0 : Int32)
    · refine am_tabIn 33 172 C dL_law_33 (by rw [c0]; decide) (by rw [c0]; decide) (by rw [c0]; rfl) (by decide) ?_
      obtain ⟨r, s1, s2, E1, E2, hI2⟩ := hS.1 k s (xs (i + 1).toNatClampNeg) (xs (i + 2).toNatClampNeg) (xs (i + 3).toNatClampNeg) (xs (i + 4).toNatClampNeg) (xs (i + 5).toNatClampNeg) hk hI
      refine am_aload_n 172 C dL_law_172 rfl 2 rfl ?_
      refine am_aload_nX 173 C dL_law_173 rfl 1 rfl ?_
      refine am_iload_n 174 C dL_law_174 rfl 0 rfl ?_
      refine am_iconst 175 (1 : Int32) C dL_law_175 (by decide) ?_
      refine am_iadd 176 C dL_law_176 ?_
      refine al_ld 177 C V (hix 1 (by decide)) dL_law_177 ?_
      refine am_aload_nX 178 C dL_law_178 rfl 1 rfl ?_
      refine am_iload_n 179 C dL_law_179 rfl 0 rfl ?_
      refine am_iconst 180 (2 : Int32) C dL_law_180 (by decide) ?_
      refine am_iadd 181 C dL_law_181 ?_
      refine al_ld 182 C V (hix 2 (by decide)) dL_law_182 ?_
      refine am_aload_nX 183 C dL_law_183 rfl 1 rfl ?_
      refine am_iload_n 184 C dL_law_184 rfl 0 rfl ?_
      refine am_iconst 185 (3 : Int32) C dL_law_185 (by decide) ?_
      refine am_iadd 186 C dL_law_186 ?_
      refine al_ld 187 C V (hix 3 (by decide)) dL_law_187 ?_
      refine am_aload_nX 188 C dL_law_188 rfl 1 rfl ?_
      refine am_iload_n 189 C dL_law_189 rfl 0 rfl ?_
      refine am_iconst 190 (4 : Int32) C dL_law_190 (by decide) ?_
      refine am_iadd 191 C dL_law_191 ?_
      refine al_ld 192 C V (hix 4 (by decide)) dL_law_192 ?_
      refine am_aload_nX 193 C dL_law_193 rfl 1 rfl ?_
      refine am_iload_n 194 C dL_law_194 rfl 0 rfl ?_
      refine am_iconst 195 (5 : Int32) C dL_law_195 (by decide) ?_
      refine am_iadd 196 C dL_law_196 ?_
      refine al_ld 197 C V (hix 5 (by decide)) dL_law_197 ?_
      refine al_callV 198 (s2 := s1) (st := []) (st2 := (.int r :: [])) [.int (xs (i + 1).toNatClampNeg), .int (xs (i + 2).toNatClampNeg), .int (xs (i + 3).toNatClampNeg), .int (xs (i + 4).toNatClampNeg), .int (xs (i + 5).toNatClampNeg)] C A (by decide) ml_L_13 yc_X11_feed yv_X11_feed (t_X11_feed (xs (i + 1).toNatClampNeg) (xs (i + 2).toNatClampNeg) (xs (i + 3).toNatClampNeg) (xs (i + 4).toNatClampNeg) (xs (i + 5).toNatClampNeg) s E1) (by decide) sh_0 rfl rfl (Nat.le_of_ble_eq_true rfl) rfl dL_law_198 ?_
      refine am_aload_n 201 C dL_law_201 rfl 3 rfl ?_
      refine am_aload_nX 202 C dL_law_202 rfl 1 rfl ?_
      refine am_iload_n 203 C dL_law_203 rfl 0 rfl ?_
      refine am_iconst 204 (1 : Int32) C dL_law_204 (by decide) ?_
      refine am_iadd 205 C dL_law_205 ?_
      refine al_ld 206 C V (hix 1 (by decide)) dL_law_206 ?_
      refine am_aload_nX 207 C dL_law_207 rfl 1 rfl ?_
      refine am_iload_n 208 C dL_law_208 rfl 0 rfl ?_
      refine am_iconst 209 (2 : Int32) C dL_law_209 (by decide) ?_
      refine am_iadd 210 C dL_law_210 ?_
      refine al_ld 211 C V (hix 2 (by decide)) dL_law_211 ?_
      refine am_aload_nX 212 C dL_law_212 rfl 1 rfl ?_
      refine am_iload_n 213 C dL_law_213 rfl 0 rfl ?_
      refine am_iconst 214 (3 : Int32) C dL_law_214 (by decide) ?_
      refine am_iadd 215 C dL_law_215 ?_
      refine al_ld 216 C V (hix 3 (by decide)) dL_law_216 ?_
      refine am_aload_nX 217 C dL_law_217 rfl 1 rfl ?_
      refine am_iload_n 218 C dL_law_218 rfl 0 rfl ?_
      refine am_iconst 219 (4 : Int32) C dL_law_219 (by decide) ?_
      refine am_iadd 220 C dL_law_220 ?_
      refine al_ld 221 C V (hix 4 (by decide)) dL_law_221 ?_
      refine am_aload_nX 222 C dL_law_222 rfl 1 rfl ?_
      refine am_iload_n 223 C dL_law_223 rfl 0 rfl ?_
      refine am_iconst 224 (5 : Int32) C dL_law_224 (by decide) ?_
      refine am_iadd 225 C dL_law_225 ?_
      refine al_ld 226 C V (hix 5 (by decide)) dL_law_226 ?_
      refine al_callV 227 (s2 := s2) (st := [.int r]) (st2 := (.int r :: [.int r])) [.int (xs (i + 1).toNatClampNeg), .int (xs (i + 2).toNatClampNeg), .int (xs (i + 3).toNatClampNeg), .int (xs (i + 4).toNatClampNeg), .int (xs (i + 5).toNatClampNeg)] C A (by decide) ml_L_17 yc_X12_feed yv_X12_feed (t_X12_feed (xs (i + 1).toNatClampNeg) (xs (i + 2).toNatClampNeg) (xs (i + 3).toNatClampNeg) (xs (i + 4).toNatClampNeg) (xs (i + 5).toNatClampNeg) s1 E2) (by decide) sh_248 rfl rfl (Nat.le_of_ble_eq_true rfl) rfl dL_law_227 ?_
      refine am_icmp_eq 230 1121 C dL_law_230 (by decide) (fun _ => ?_) (fun q => absurd rfl q)
      exact next s2 hI2
    by_cases c1 : u = (1 : Int32)
    · refine am_tabIn 33 235 C dL_law_33 (by rw [c1]; decide) (by rw [c1]; decide) (by rw [c1]; rfl) (by decide) ?_
      obtain ⟨r, s1, s2, E1, E2, hI2⟩ := hS.2.1 k s (xs (i + 1).toNatClampNeg) hk hI
      refine am_aload_n 235 C dL_law_235 rfl 2 rfl ?_
      refine am_aload_nX 236 C dL_law_236 rfl 1 rfl ?_
      refine am_iload_n 237 C dL_law_237 rfl 0 rfl ?_
      refine am_iconst 238 (1 : Int32) C dL_law_238 (by decide) ?_
      refine am_iadd 239 C dL_law_239 ?_
      refine al_ld 240 C V (hix 1 (by decide)) dL_law_240 ?_
      refine al_callV 241 (s2 := s1) (st := []) (st2 := (.int r :: [])) [.int (xs (i + 1).toNatClampNeg)] C A (by decide) ml_L_18 yc_X11_end yv_X11_end (t_X11_end (xs (i + 1).toNatClampNeg) s E1) (by decide) sh_0 rfl rfl (Nat.le_of_ble_eq_true rfl) rfl dL_law_241 ?_
      refine am_aload_n 244 C dL_law_244 rfl 3 rfl ?_
      refine am_aload_nX 245 C dL_law_245 rfl 1 rfl ?_
      refine am_iload_n 246 C dL_law_246 rfl 0 rfl ?_
      refine am_iconst 247 (1 : Int32) C dL_law_247 (by decide) ?_
      refine am_iadd 248 C dL_law_248 ?_
      refine al_ld 249 C V (hix 1 (by decide)) dL_law_249 ?_
      refine al_callV 250 (s2 := s2) (st := [.int r]) (st2 := (.int r :: [.int r])) [.int (xs (i + 1).toNatClampNeg)] C A (by decide) ml_L_22 yc_X12_end yv_X12_end (t_X12_end (xs (i + 1).toNatClampNeg) s1 E2) (by decide) sh_248 rfl rfl (Nat.le_of_ble_eq_true rfl) rfl dL_law_250 ?_
      refine am_icmp_eq 253 1121 C dL_law_253 (by decide) (fun _ => ?_) (fun q => absurd rfl q)
      exact next s2 hI2
    by_cases c2 : u = (2 : Int32)
    · refine am_tabIn 33 258 C dL_law_33 (by rw [c2]; decide) (by rw [c2]; decide) (by rw [c2]; rfl) (by decide) ?_
      obtain ⟨r, s1, s2, E1, E2, hI2⟩ := hS.2.2.1 k s  hk hI
      refine am_aload_n 258 C dL_law_258 rfl 2 rfl ?_
      refine al_callV 259 (s2 := s1) (st := []) (st2 := (.int r :: [])) [] C A (by decide) ml_L_23 yc_X11_town yv_X11_town (t_X11_town  s E1) (by decide) sh_0 rfl rfl (Nat.le_of_ble_eq_true rfl) rfl dL_law_259 ?_
      refine am_aload_n 262 C dL_law_262 rfl 3 rfl ?_
      refine al_callV 263 (s2 := s2) (st := [.int r]) (st2 := (.int r :: [.int r])) [] C A (by decide) ml_L_27 yc_X12_town yv_X12_town (t_X12_town  s1 E2) (by decide) sh_248 rfl rfl (Nat.le_of_ble_eq_true rfl) rfl dL_law_263 ?_
      refine am_icmp_eq 266 1121 C dL_law_266 (by decide) (fun _ => ?_) (fun q => absurd rfl q)
      exact next s2 hI2
    by_cases c3 : u = (3 : Int32)
    · refine am_tabIn 33 271 C dL_law_33 (by rw [c3]; decide) (by rw [c3]; decide) (by rw [c3]; rfl) (by decide) ?_
      obtain ⟨r, s1, s2, E1, E2, hI2⟩ := hS.2.2.2.1 k s  hk hI
      refine am_aload_n 271 C dL_law_271 rfl 2 rfl ?_
      refine al_callV 272 (s2 := s1) (st := []) (st2 := (.int r :: [])) [] C A (by decide) ml_L_28 yc_X11_rule yv_X11_rule (t_X11_rule  s E1) (by decide) sh_0 rfl rfl (Nat.le_of_ble_eq_true rfl) rfl dL_law_272 ?_
      refine am_aload_n 275 C dL_law_275 rfl 3 rfl ?_
      refine al_callV 276 (s2 := s2) (st := [.int r]) (st2 := (.int r :: [.int r])) [] C A (by decide) ml_L_31 yc_X12_rule yv_X12_rule (t_X12_rule  s1 E2) (by decide) sh_248 rfl rfl (Nat.le_of_ble_eq_true rfl) rfl dL_law_276 ?_
      refine am_icmp_eq 279 1121 C dL_law_279 (by decide) (fun _ => ?_) (fun q => absurd rfl q)
      exact next s2 hI2
    by_cases c4 : u = (4 : Int32)
    · refine am_tabIn 33 284 C dL_law_33 (by rw [c4]; decide) (by rw [c4]; decide) (by rw [c4]; rfl) (by decide) ?_
      obtain ⟨r, s1, s2, E1, E2, hI2⟩ := hS.2.2.2.2.1 k s (xs (i + 1).toNatClampNeg) hk hI
      refine am_aload_n 284 C dL_law_284 rfl 2 rfl ?_
      refine am_aload_nX 285 C dL_law_285 rfl 1 rfl ?_
      refine am_iload_n 286 C dL_law_286 rfl 0 rfl ?_
      refine am_iconst 287 (1 : Int32) C dL_law_287 (by decide) ?_
      refine am_iadd 288 C dL_law_288 ?_
      refine al_ld 289 C V (hix 1 (by decide)) dL_law_289 ?_
      refine al_callV 290 (s2 := s1) (st := []) (st2 := (.int r :: [])) [.int (xs (i + 1).toNatClampNeg)] C A (by decide) ml_L_32 yc_X11_charter yv_X11_charter (t_X11_charter (xs (i + 1).toNatClampNeg) s E1) (by decide) sh_0 rfl rfl (Nat.le_of_ble_eq_true rfl) rfl dL_law_290 ?_
      refine am_aload_n 293 C dL_law_293 rfl 3 rfl ?_
      refine am_aload_nX 294 C dL_law_294 rfl 1 rfl ?_
      refine am_iload_n 295 C dL_law_295 rfl 0 rfl ?_
      refine am_iconst 296 (1 : Int32) C dL_law_296 (by decide) ?_
      refine am_iadd 297 C dL_law_297 ?_
      refine al_ld 298 C V (hix 1 (by decide)) dL_law_298 ?_
      refine al_callV 299 (s2 := s2) (st := [.int r]) (st2 := (.int r :: [.int r])) [.int (xs (i + 1).toNatClampNeg)] C A (by decide) ml_L_35 yc_X12_charter yv_X12_charter (t_X12_charter (xs (i + 1).toNatClampNeg) s1 E2) (by decide) sh_248 rfl rfl (Nat.le_of_ble_eq_true rfl) rfl dL_law_299 ?_
      refine am_icmp_eq 302 1121 C dL_law_302 (by decide) (fun _ => ?_) (fun q => absurd rfl q)
      exact next s2 hI2
    by_cases c5 : u = (5 : Int32)
    · refine am_tabIn 33 307 C dL_law_33 (by rw [c5]; decide) (by rw [c5]; decide) (by rw [c5]; rfl) (by decide) ?_
      obtain ⟨r, s2, E1, E2, hI2⟩ := hS.2.2.2.2.2.1 k s (xs (i + 1).toNatClampNeg) (xs (i + 2).toNatClampNeg) (xs (i + 3).toNatClampNeg) hk hI
      refine am_aload_n 307 C dL_law_307 rfl 2 rfl ?_
      refine am_aload_nX 308 C dL_law_308 rfl 1 rfl ?_
      refine am_iload_n 309 C dL_law_309 rfl 0 rfl ?_
      refine am_iconst 310 (1 : Int32) C dL_law_310 (by decide) ?_
      refine am_iadd 311 C dL_law_311 ?_
      refine al_ld 312 C V (hix 1 (by decide)) dL_law_312 ?_
      refine am_aload_nX 313 C dL_law_313 rfl 1 rfl ?_
      refine am_iload_n 314 C dL_law_314 rfl 0 rfl ?_
      refine am_iconst 315 (2 : Int32) C dL_law_315 (by decide) ?_
      refine am_iadd 316 C dL_law_316 ?_
      refine al_ld 317 C V (hix 2 (by decide)) dL_law_317 ?_
      refine am_aload_nX 318 C dL_law_318 rfl 1 rfl ?_
      refine am_iload_n 319 C dL_law_319 rfl 0 rfl ?_
      refine am_iconst 320 (3 : Int32) C dL_law_320 (by decide) ?_
      refine am_iadd 321 C dL_law_321 ?_
      refine al_ld 322 C V (hix 3 (by decide)) dL_law_322 ?_
      refine al_callV 323 (s2 := s) (st := []) (st2 := (.int r :: [])) [.int (xs (i + 1).toNatClampNeg), .int (xs (i + 2).toNatClampNeg), .int (xs (i + 3).toNatClampNeg)] C A (by decide) ml_L_36 yc_X11_holds yv_X11_holds (t_X11_holds (xs (i + 1).toNatClampNeg) (xs (i + 2).toNatClampNeg) (xs (i + 3).toNatClampNeg) s E1) (by decide) sh_0 rfl rfl (Nat.le_of_ble_eq_true rfl) rfl dL_law_323 ?_
      refine am_aload_n 326 C dL_law_326 rfl 3 rfl ?_
      refine am_aload_nX 327 C dL_law_327 rfl 1 rfl ?_
      refine am_iload_n 328 C dL_law_328 rfl 0 rfl ?_
      refine am_iconst 329 (1 : Int32) C dL_law_329 (by decide) ?_
      refine am_iadd 330 C dL_law_330 ?_
      refine al_ld 331 C V (hix 1 (by decide)) dL_law_331 ?_
      refine am_aload_nX 332 C dL_law_332 rfl 1 rfl ?_
      refine am_iload_n 333 C dL_law_333 rfl 0 rfl ?_
      refine am_iconst 334 (2 : Int32) C dL_law_334 (by decide) ?_
      refine am_iadd 335 C dL_law_335 ?_
      refine al_ld 336 C V (hix 2 (by decide)) dL_law_336 ?_
      refine am_aload_nX 337 C dL_law_337 rfl 1 rfl ?_
      refine am_iload_n 338 C dL_law_338 rfl 0 rfl ?_
      refine am_iconst 339 (3 : Int32) C dL_law_339 (by decide) ?_
      refine am_iadd 340 C dL_law_340 ?_
      refine al_ld 341 C V (hix 3 (by decide)) dL_law_341 ?_
      refine al_callV 342 (s2 := s2) (st := [.int r]) (st2 := (.int r :: [.int r])) [.int (xs (i + 1).toNatClampNeg), .int (xs (i + 2).toNatClampNeg), .int (xs (i + 3).toNatClampNeg)] C A (by decide) ml_L_40 yc_X12_holds yv_X12_holds (t_X12_holds (xs (i + 1).toNatClampNeg) (xs (i + 2).toNatClampNeg) (xs (i + 3).toNatClampNeg) s E2) (by decide) sh_248 rfl rfl (Nat.le_of_ble_eq_true rfl) rfl dL_law_342 ?_
      refine am_icmp_eq 345 1121 C dL_law_345 (by decide) (fun _ => ?_) (fun q => absurd rfl q)
      exact next s2 hI2
    by_cases c6 : u = (6 : Int32)
    · refine am_tabIn 33 350 C dL_law_33 (by rw [c6]; decide) (by rw [c6]; decide) (by rw [c6]; rfl) (by decide) ?_
      obtain ⟨r, s2, E1, E2, hI2⟩ := hS.2.2.2.2.2.2.1 k s (xs (i + 1).toNatClampNeg) (xs (i + 2).toNatClampNeg) hk hI
      refine am_aload_n 350 C dL_law_350 rfl 2 rfl ?_
      refine am_aload_nX 351 C dL_law_351 rfl 1 rfl ?_
      refine am_iload_n 352 C dL_law_352 rfl 0 rfl ?_
      refine am_iconst 353 (1 : Int32) C dL_law_353 (by decide) ?_
      refine am_iadd 354 C dL_law_354 ?_
      refine al_ld 355 C V (hix 1 (by decide)) dL_law_355 ?_
      refine am_aload_nX 356 C dL_law_356 rfl 1 rfl ?_
      refine am_iload_n 357 C dL_law_357 rfl 0 rfl ?_
      refine am_iconst 358 (2 : Int32) C dL_law_358 (by decide) ?_
      refine am_iadd 359 C dL_law_359 ?_
      refine al_ld 360 C V (hix 2 (by decide)) dL_law_360 ?_
      refine al_callV 361 (s2 := s) (st := []) (st2 := (.int r :: [])) [.int (xs (i + 1).toNatClampNeg), .int (xs (i + 2).toNatClampNeg)] C A (by decide) ml_L_41 yc_X11_person yv_X11_person (t_X11_person (xs (i + 1).toNatClampNeg) (xs (i + 2).toNatClampNeg) s E1) (by decide) sh_0 rfl rfl (Nat.le_of_ble_eq_true rfl) rfl dL_law_361 ?_
      refine am_aload_n 364 C dL_law_364 rfl 3 rfl ?_
      refine am_aload_nX 365 C dL_law_365 rfl 1 rfl ?_
      refine am_iload_n 366 C dL_law_366 rfl 0 rfl ?_
      refine am_iconst 367 (1 : Int32) C dL_law_367 (by decide) ?_
      refine am_iadd 368 C dL_law_368 ?_
      refine al_ld 369 C V (hix 1 (by decide)) dL_law_369 ?_
      refine am_aload_nX 370 C dL_law_370 rfl 1 rfl ?_
      refine am_iload_n 371 C dL_law_371 rfl 0 rfl ?_
      refine am_iconst 372 (2 : Int32) C dL_law_372 (by decide) ?_
      refine am_iadd 373 C dL_law_373 ?_
      refine al_ld 374 C V (hix 2 (by decide)) dL_law_374 ?_
      refine al_callV 375 (s2 := s2) (st := [.int r]) (st2 := (.int r :: [.int r])) [.int (xs (i + 1).toNatClampNeg), .int (xs (i + 2).toNatClampNeg)] C A (by decide) ml_L_45 yc_X12_person yv_X12_person (t_X12_person (xs (i + 1).toNatClampNeg) (xs (i + 2).toNatClampNeg) s E2) (by decide) sh_248 rfl rfl (Nat.le_of_ble_eq_true rfl) rfl dL_law_375 ?_
      refine am_icmp_eq 378 1121 C dL_law_378 (by decide) (fun _ => ?_) (fun q => absurd rfl q)
      exact next s2 hI2
    by_cases c7 : u = (7 : Int32)
    · refine am_tabIn 33 383 C dL_law_33 (by rw [c7]; decide) (by rw [c7]; decide) (by rw [c7]; rfl) (by decide) ?_
      obtain ⟨r, E1, E2, hI2⟩ := hS.2.2.2.2.2.2.2.1 k s (xs (i + 1).toNatClampNeg) (xs (i + 2).toNatClampNeg) hk hI
      refine am_aload_n 383 C dL_law_383 rfl 2 rfl ?_
      refine am_aload_nX 384 C dL_law_384 rfl 1 rfl ?_
      refine am_iload_n 385 C dL_law_385 rfl 0 rfl ?_
      refine am_iconst 386 (1 : Int32) C dL_law_386 (by decide) ?_
      refine am_iadd 387 C dL_law_387 ?_
      refine al_ld 388 C V (hix 1 (by decide)) dL_law_388 ?_
      refine am_aload_nX 389 C dL_law_389 rfl 1 rfl ?_
      refine am_iload_n 390 C dL_law_390 rfl 0 rfl ?_
      refine am_iconst 391 (2 : Int32) C dL_law_391 (by decide) ?_
      refine am_iadd 392 C dL_law_392 ?_
      refine al_ld 393 C V (hix 2 (by decide)) dL_law_393 ?_
      refine al_callV 394 (s2 := s) (st := []) (st2 := (.int r :: [])) [.int (xs (i + 1).toNatClampNeg), .int (xs (i + 2).toNatClampNeg)] C A (by decide) ml_L_46 yc_X11_trust yv_X11_trust (t_X11_trust (xs (i + 1).toNatClampNeg) (xs (i + 2).toNatClampNeg) s E1) (by decide) sh_0 rfl rfl (Nat.le_of_ble_eq_true rfl) rfl dL_law_394 ?_
      refine am_aload_n 397 C dL_law_397 rfl 3 rfl ?_
      refine am_aload_nX 398 C dL_law_398 rfl 1 rfl ?_
      refine am_iload_n 399 C dL_law_399 rfl 0 rfl ?_
      refine am_iconst 400 (1 : Int32) C dL_law_400 (by decide) ?_
      refine am_iadd 401 C dL_law_401 ?_
      refine al_ld 402 C V (hix 1 (by decide)) dL_law_402 ?_
      refine am_aload_nX 403 C dL_law_403 rfl 1 rfl ?_
      refine am_iload_n 404 C dL_law_404 rfl 0 rfl ?_
      refine am_iconst 405 (2 : Int32) C dL_law_405 (by decide) ?_
      refine am_iadd 406 C dL_law_406 ?_
      refine al_ld 407 C V (hix 2 (by decide)) dL_law_407 ?_
      refine al_callV 408 (s2 := s) (st := [.int r]) (st2 := (.int r :: [.int r])) [.int (xs (i + 1).toNatClampNeg), .int (xs (i + 2).toNatClampNeg)] C A (by decide) ml_L_49 yc_X12_trust yv_X12_trust (t_X12_trust (xs (i + 1).toNatClampNeg) (xs (i + 2).toNatClampNeg) s E2) (by decide) sh_248 rfl rfl (Nat.le_of_ble_eq_true rfl) rfl dL_law_408 ?_
      refine am_icmp_eq 411 1121 C dL_law_411 (by decide) (fun _ => ?_) (fun q => absurd rfl q)
      exact next s hI2
    by_cases c8 : u = (8 : Int32)
    · refine am_tabIn 33 416 C dL_law_33 (by rw [c8]; decide) (by rw [c8]; decide) (by rw [c8]; rfl) (by decide) ?_
      obtain ⟨r, s1, s2, E1, E2, hI2⟩ := hS.2.2.2.2.2.2.2.2.1 k s (xs (i + 1).toNatClampNeg) (xs (i + 2).toNatClampNeg) (xs (i + 3).toNatClampNeg) (xs (i + 4).toNatClampNeg) hk hI
      refine am_aload_n 416 C dL_law_416 rfl 2 rfl ?_
      refine am_aload_nX 417 C dL_law_417 rfl 1 rfl ?_
      refine am_iload_n 418 C dL_law_418 rfl 0 rfl ?_
      refine am_iconst 419 (1 : Int32) C dL_law_419 (by decide) ?_
      refine am_iadd 420 C dL_law_420 ?_
      refine al_ld 421 C V (hix 1 (by decide)) dL_law_421 ?_
      refine am_aload_nX 422 C dL_law_422 rfl 1 rfl ?_
      refine am_iload_n 423 C dL_law_423 rfl 0 rfl ?_
      refine am_iconst 424 (2 : Int32) C dL_law_424 (by decide) ?_
      refine am_iadd 425 C dL_law_425 ?_
      refine al_ld 426 C V (hix 2 (by decide)) dL_law_426 ?_
      refine am_aload_nX 427 C dL_law_427 rfl 1 rfl ?_
      refine am_iload_n 428 C dL_law_428 rfl 0 rfl ?_
      refine am_iconst 429 (3 : Int32) C dL_law_429 (by decide) ?_
      refine am_iadd 430 C dL_law_430 ?_
      refine al_ld 431 C V (hix 3 (by decide)) dL_law_431 ?_
      refine am_aload_nX 432 C dL_law_432 rfl 1 rfl ?_
      refine am_iload_n 433 C dL_law_433 rfl 0 rfl ?_
      refine am_iconst 434 (4 : Int32) C dL_law_434 (by decide) ?_
      refine am_iadd 435 C dL_law_435 ?_
      refine al_ld 436 C V (hix 4 (by decide)) dL_law_436 ?_
      refine al_callV 437 (s2 := s1) (st := []) (st2 := (.int r :: [])) [.int (xs (i + 1).toNatClampNeg), .int (xs (i + 2).toNatClampNeg), .int (xs (i + 3).toNatClampNeg), .int (xs (i + 4).toNatClampNeg)] C A (by decide) ml_L_50 yc_X11_say yv_X11_say (t_X11_say (xs (i + 1).toNatClampNeg) (xs (i + 2).toNatClampNeg) (xs (i + 3).toNatClampNeg) (xs (i + 4).toNatClampNeg) s E1) (by decide) sh_0 rfl rfl (Nat.le_of_ble_eq_true rfl) rfl dL_law_437 ?_
      refine am_aload_n 440 C dL_law_440 rfl 3 rfl ?_
      refine am_aload_nX 441 C dL_law_441 rfl 1 rfl ?_
      refine am_iload_n 442 C dL_law_442 rfl 0 rfl ?_
      refine am_iconst 443 (1 : Int32) C dL_law_443 (by decide) ?_
      refine am_iadd 444 C dL_law_444 ?_
      refine al_ld 445 C V (hix 1 (by decide)) dL_law_445 ?_
      refine am_aload_nX 446 C dL_law_446 rfl 1 rfl ?_
      refine am_iload_n 447 C dL_law_447 rfl 0 rfl ?_
      refine am_iconst 448 (2 : Int32) C dL_law_448 (by decide) ?_
      refine am_iadd 449 C dL_law_449 ?_
      refine al_ld 450 C V (hix 2 (by decide)) dL_law_450 ?_
      refine am_aload_nX 451 C dL_law_451 rfl 1 rfl ?_
      refine am_iload_n 452 C dL_law_452 rfl 0 rfl ?_
      refine am_iconst 453 (3 : Int32) C dL_law_453 (by decide) ?_
      refine am_iadd 454 C dL_law_454 ?_
      refine al_ld 455 C V (hix 3 (by decide)) dL_law_455 ?_
      refine am_aload_nX 456 C dL_law_456 rfl 1 rfl ?_
      refine am_iload_n 457 C dL_law_457 rfl 0 rfl ?_
      refine am_iconst 458 (4 : Int32) C dL_law_458 (by decide) ?_
      refine am_iadd 459 C dL_law_459 ?_
      refine al_ld 460 C V (hix 4 (by decide)) dL_law_460 ?_
      refine al_callV 461 (s2 := s2) (st := [.int r]) (st2 := (.int r :: [.int r])) [.int (xs (i + 1).toNatClampNeg), .int (xs (i + 2).toNatClampNeg), .int (xs (i + 3).toNatClampNeg), .int (xs (i + 4).toNatClampNeg)] C A (by decide) ml_L_54 yc_X12_say yv_X12_say (t_X12_say (xs (i + 1).toNatClampNeg) (xs (i + 2).toNatClampNeg) (xs (i + 3).toNatClampNeg) (xs (i + 4).toNatClampNeg) s1 E2) (by decide) sh_248 rfl rfl (Nat.le_of_ble_eq_true rfl) rfl dL_law_461 ?_
      refine am_icmp_eq 464 1121 C dL_law_464 (by decide) (fun _ => ?_) (fun q => absurd rfl q)
      exact next s2 hI2
    by_cases c9 : u = (9 : Int32)
    · refine am_tabIn 33 469 C dL_law_33 (by rw [c9]; decide) (by rw [c9]; decide) (by rw [c9]; rfl) (by decide) ?_
      obtain ⟨r, s1, s2, E1, E2, hI2⟩ := hS.2.2.2.2.2.2.2.2.2.1 k s (xs (i + 1).toNatClampNeg) (xs (i + 2).toNatClampNeg) (xs (i + 3).toNatClampNeg) (xs (i + 4).toNatClampNeg) hk hI
      refine am_aload_n 469 C dL_law_469 rfl 2 rfl ?_
      refine am_aload_nX 470 C dL_law_470 rfl 1 rfl ?_
      refine am_iload_n 471 C dL_law_471 rfl 0 rfl ?_
      refine am_iconst 472 (1 : Int32) C dL_law_472 (by decide) ?_
      refine am_iadd 473 C dL_law_473 ?_
      refine al_ld 474 C V (hix 1 (by decide)) dL_law_474 ?_
      refine am_aload_nX 475 C dL_law_475 rfl 1 rfl ?_
      refine am_iload_n 476 C dL_law_476 rfl 0 rfl ?_
      refine am_iconst 477 (2 : Int32) C dL_law_477 (by decide) ?_
      refine am_iadd 478 C dL_law_478 ?_
      refine al_ld 479 C V (hix 2 (by decide)) dL_law_479 ?_
      refine am_aload_nX 480 C dL_law_480 rfl 1 rfl ?_
      refine am_iload_n 481 C dL_law_481 rfl 0 rfl ?_
      refine am_iconst 482 (3 : Int32) C dL_law_482 (by decide) ?_
      refine am_iadd 483 C dL_law_483 ?_
      refine al_ld 484 C V (hix 3 (by decide)) dL_law_484 ?_
      refine am_aload_nX 485 C dL_law_485 rfl 1 rfl ?_
      refine am_iload_n 486 C dL_law_486 rfl 0 rfl ?_
      refine am_iconst 487 (4 : Int32) C dL_law_487 (by decide) ?_
      refine am_iadd 488 C dL_law_488 ?_
      refine al_ld 489 C V (hix 4 (by decide)) dL_law_489 ?_
      refine al_callV 490 (s2 := s1) (st := []) (st2 := (.int r :: [])) [.int (xs (i + 1).toNatClampNeg), .int (xs (i + 2).toNatClampNeg), .int (xs (i + 3).toNatClampNeg), .int (xs (i + 4).toNatClampNeg)] C A (by decide) ml_L_55 yc_X11_would yv_X11_would (t_X11_would (xs (i + 1).toNatClampNeg) (xs (i + 2).toNatClampNeg) (xs (i + 3).toNatClampNeg) (xs (i + 4).toNatClampNeg) s E1) (by decide) sh_0 rfl rfl (Nat.le_of_ble_eq_true rfl) rfl dL_law_490 ?_
      refine am_aload_n 493 C dL_law_493 rfl 3 rfl ?_
      refine am_aload_nX 494 C dL_law_494 rfl 1 rfl ?_
      refine am_iload_n 495 C dL_law_495 rfl 0 rfl ?_
      refine am_iconst 496 (1 : Int32) C dL_law_496 (by decide) ?_
      refine am_iadd 497 C dL_law_497 ?_
      refine al_ld 498 C V (hix 1 (by decide)) dL_law_498 ?_
      refine am_aload_nX 499 C dL_law_499 rfl 1 rfl ?_
      refine am_iload_n 500 C dL_law_500 rfl 0 rfl ?_
      refine am_iconst 501 (2 : Int32) C dL_law_501 (by decide) ?_
      refine am_iadd 502 C dL_law_502 ?_
      refine al_ld 503 C V (hix 2 (by decide)) dL_law_503 ?_
      refine am_aload_nX 504 C dL_law_504 rfl 1 rfl ?_
      refine am_iload_n 505 C dL_law_505 rfl 0 rfl ?_
      refine am_iconst 506 (3 : Int32) C dL_law_506 (by decide) ?_
      refine am_iadd 507 C dL_law_507 ?_
      refine al_ld 508 C V (hix 3 (by decide)) dL_law_508 ?_
      refine am_aload_nX 509 C dL_law_509 rfl 1 rfl ?_
      refine am_iload_n 510 C dL_law_510 rfl 0 rfl ?_
      refine am_iconst 511 (4 : Int32) C dL_law_511 (by decide) ?_
      refine am_iadd 512 C dL_law_512 ?_
      refine al_ld 513 C V (hix 4 (by decide)) dL_law_513 ?_
      refine al_callV 514 (s2 := s2) (st := [.int r]) (st2 := (.int r :: [.int r])) [.int (xs (i + 1).toNatClampNeg), .int (xs (i + 2).toNatClampNeg), .int (xs (i + 3).toNatClampNeg), .int (xs (i + 4).toNatClampNeg)] C A (by decide) ml_L_58 yc_X12_would yv_X12_would (t_X12_would (xs (i + 1).toNatClampNeg) (xs (i + 2).toNatClampNeg) (xs (i + 3).toNatClampNeg) (xs (i + 4).toNatClampNeg) s1 E2) (by decide) sh_248 rfl rfl (Nat.le_of_ble_eq_true rfl) rfl dL_law_514 ?_
      refine am_icmp_eq 517 1121 C dL_law_517 (by decide) (fun _ => ?_) (fun q => absurd rfl q)
      exact next s2 hI2
    by_cases c10 : u = (10 : Int32)
    · refine am_tabIn 33 522 C dL_law_33 (by rw [c10]; decide) (by rw [c10]; decide) (by rw [c10]; rfl) (by decide) ?_
      obtain ⟨r, s1, s2, E1, E2, hI2⟩ := hS.2.2.2.2.2.2.2.2.2.2.1 k s (xs (i + 1).toNatClampNeg) (xs (i + 2).toNatClampNeg) hk hI
      refine am_aload_n 522 C dL_law_522 rfl 2 rfl ?_
      refine am_aload_nX 523 C dL_law_523 rfl 1 rfl ?_
      refine am_iload_n 524 C dL_law_524 rfl 0 rfl ?_
      refine am_iconst 525 (1 : Int32) C dL_law_525 (by decide) ?_
      refine am_iadd 526 C dL_law_526 ?_
      refine al_ld 527 C V (hix 1 (by decide)) dL_law_527 ?_
      refine am_aload_nX 528 C dL_law_528 rfl 1 rfl ?_
      refine am_iload_n 529 C dL_law_529 rfl 0 rfl ?_
      refine am_iconst 530 (2 : Int32) C dL_law_530 (by decide) ?_
      refine am_iadd 531 C dL_law_531 ?_
      refine al_ld 532 C V (hix 2 (by decide)) dL_law_532 ?_
      refine al_callV 533 (s2 := s1) (st := []) (st2 := (.int r :: [])) [.int (xs (i + 1).toNatClampNeg), .int (xs (i + 2).toNatClampNeg)] C A (by decide) ml_L_59 yc_X11_meet yv_X11_meet (t_X11_meet (xs (i + 1).toNatClampNeg) (xs (i + 2).toNatClampNeg) s E1) (by decide) sh_0 rfl rfl (Nat.le_of_ble_eq_true rfl) rfl dL_law_533 ?_
      refine am_aload_n 536 C dL_law_536 rfl 3 rfl ?_
      refine am_aload_nX 537 C dL_law_537 rfl 1 rfl ?_
      refine am_iload_n 538 C dL_law_538 rfl 0 rfl ?_
      refine am_iconst 539 (1 : Int32) C dL_law_539 (by decide) ?_
      refine am_iadd 540 C dL_law_540 ?_
      refine al_ld 541 C V (hix 1 (by decide)) dL_law_541 ?_
      refine am_aload_nX 542 C dL_law_542 rfl 1 rfl ?_
      refine am_iload_n 543 C dL_law_543 rfl 0 rfl ?_
      refine am_iconst 544 (2 : Int32) C dL_law_544 (by decide) ?_
      refine am_iadd 545 C dL_law_545 ?_
      refine al_ld 546 C V (hix 2 (by decide)) dL_law_546 ?_
      refine al_callV 547 (s2 := s2) (st := [.int r]) (st2 := (.int r :: [.int r])) [.int (xs (i + 1).toNatClampNeg), .int (xs (i + 2).toNatClampNeg)] C A (by decide) ml_L_62 yc_X12_meet yv_X12_meet (t_X12_meet (xs (i + 1).toNatClampNeg) (xs (i + 2).toNatClampNeg) s1 E2) (by decide) sh_248 rfl rfl (Nat.le_of_ble_eq_true rfl) rfl dL_law_547 ?_
      refine am_icmp_eq 550 1121 C dL_law_550 (by decide) (fun _ => ?_) (fun q => absurd rfl q)
      exact next s2 hI2
    by_cases c11 : u = (11 : Int32)
    · refine am_tabIn 33 555 C dL_law_33 (by rw [c11]; decide) (by rw [c11]; decide) (by rw [c11]; rfl) (by decide) ?_
      obtain ⟨r, s1, s2, E1, E2, hI2⟩ := hS.2.2.2.2.2.2.2.2.2.2.2.1 k s  hk hI
      refine am_aload_n 555 C dL_law_555 rfl 2 rfl ?_
      refine al_callV 556 (s2 := s1) (st := []) (st2 := (.int r :: [])) [] C A (by decide) ml_L_63 yc_X11_hour yv_X11_hour (t_X11_hour  s E1) (by decide) sh_0 rfl rfl (Nat.le_of_ble_eq_true rfl) rfl dL_law_556 ?_
      refine am_aload_n 559 C dL_law_559 rfl 3 rfl ?_
      refine al_callV 560 (s2 := s2) (st := [.int r]) (st2 := (.int r :: [.int r])) [] C A (by decide) ml_L_66 yc_X12_hour yv_X12_hour (t_X12_hour  s1 E2) (by decide) sh_248 rfl rfl (Nat.le_of_ble_eq_true rfl) rfl dL_law_560 ?_
      refine am_icmp_eq 563 1121 C dL_law_563 (by decide) (fun _ => ?_) (fun q => absurd rfl q)
      exact next s2 hI2
    by_cases c12 : u = (12 : Int32)
    · refine am_tabIn 33 568 C dL_law_33 (by rw [c12]; decide) (by rw [c12]; decide) (by rw [c12]; rfl) (by decide) ?_
      obtain ⟨r, s1, s2, E1, E2, hI2⟩ := hS.2.2.2.2.2.2.2.2.2.2.2.2.1 k s  hk hI
      refine am_aload_n 568 C dL_law_568 rfl 2 rfl ?_
      refine al_callV 569 (s2 := s1) (st := []) (st2 := (.int r :: [])) [] C A (by decide) ml_L_67 yc_X11_midnight yv_X11_midnight (t_X11_midnight  s E1) (by decide) sh_0 rfl rfl (Nat.le_of_ble_eq_true rfl) rfl dL_law_569 ?_
      refine am_aload_n 572 C dL_law_572 rfl 3 rfl ?_
      refine al_callV 573 (s2 := s2) (st := [.int r]) (st2 := (.int r :: [.int r])) [] C A (by decide) ml_L_70 yc_X12_midnight yv_X12_midnight (t_X12_midnight  s1 E2) (by decide) sh_248 rfl rfl (Nat.le_of_ble_eq_true rfl) rfl dL_law_573 ?_
      refine am_icmp_eq 576 1121 C dL_law_576 (by decide) (fun _ => ?_) (fun q => absurd rfl q)
      exact next s2 hI2
    by_cases c13 : u = (13 : Int32)
    · refine am_tabIn 33 581 C dL_law_33 (by rw [c13]; decide) (by rw [c13]; decide) (by rw [c13]; rfl) (by decide) ?_
      obtain ⟨r, s1, s2, E1, E2, hI2⟩ := hS.2.2.2.2.2.2.2.2.2.2.2.2.2.1 k s  hk hI
      refine am_aload_n 581 C dL_law_581 rfl 2 rfl ?_
      refine al_callV 582 (s2 := s1) (st := []) (st2 := (.int r :: [])) [] C A (by decide) ml_L_71 yc_X11_undo yv_X11_undo (t_X11_undo  s E1) (by decide) sh_0 rfl rfl (Nat.le_of_ble_eq_true rfl) rfl dL_law_582 ?_
      refine am_aload_n 585 C dL_law_585 rfl 3 rfl ?_
      refine al_callV 586 (s2 := s2) (st := [.int r]) (st2 := (.int r :: [.int r])) [] C A (by decide) ml_L_74 yc_X12_undo yv_X12_undo (t_X12_undo  s1 E2) (by decide) sh_248 rfl rfl (Nat.le_of_ble_eq_true rfl) rfl dL_law_586 ?_
      refine am_icmp_eq 589 1121 C dL_law_589 (by decide) (fun _ => ?_) (fun q => absurd rfl q)
      exact next s2 hI2
    by_cases c14 : u = (14 : Int32)
    · refine am_tabIn 33 594 C dL_law_33 (by rw [c14]; decide) (by rw [c14]; decide) (by rw [c14]; rfl) (by decide) ?_
      obtain ⟨r, s1, s2, E1, E2, hI2⟩ := hS.2.2.2.2.2.2.2.2.2.2.2.2.2.2.1 k s (xs (i + 1).toNatClampNeg) (xs (i + 2).toNatClampNeg) hk hI
      refine am_aload_n 594 C dL_law_594 rfl 2 rfl ?_
      refine am_aload_nX 595 C dL_law_595 rfl 1 rfl ?_
      refine am_iload_n 596 C dL_law_596 rfl 0 rfl ?_
      refine am_iconst 597 (1 : Int32) C dL_law_597 (by decide) ?_
      refine am_iadd 598 C dL_law_598 ?_
      refine al_ld 599 C V (hix 1 (by decide)) dL_law_599 ?_
      refine am_aload_nX 600 C dL_law_600 rfl 1 rfl ?_
      refine am_iload_n 601 C dL_law_601 rfl 0 rfl ?_
      refine am_iconst 602 (2 : Int32) C dL_law_602 (by decide) ?_
      refine am_iadd 603 C dL_law_603 ?_
      refine al_ld 604 C V (hix 2 (by decide)) dL_law_604 ?_
      refine al_callV 605 (s2 := s1) (st := []) (st2 := (.int r :: [])) [.int (xs (i + 1).toNatClampNeg), .int (xs (i + 2).toNatClampNeg)] C A (by decide) ml_L_75 yc_X11_run yv_X11_run (t_X11_run (xs (i + 1).toNatClampNeg) (xs (i + 2).toNatClampNeg) s E1) (by decide) sh_0 rfl rfl (Nat.le_of_ble_eq_true rfl) rfl dL_law_605 ?_
      refine am_aload_n 608 C dL_law_608 rfl 3 rfl ?_
      refine am_aload_nX 609 C dL_law_609 rfl 1 rfl ?_
      refine am_iload_n 610 C dL_law_610 rfl 0 rfl ?_
      refine am_iconst 611 (1 : Int32) C dL_law_611 (by decide) ?_
      refine am_iadd 612 C dL_law_612 ?_
      refine al_ld 613 C V (hix 1 (by decide)) dL_law_613 ?_
      refine am_aload_nX 614 C dL_law_614 rfl 1 rfl ?_
      refine am_iload_n 615 C dL_law_615 rfl 0 rfl ?_
      refine am_iconst 616 (2 : Int32) C dL_law_616 (by decide) ?_
      refine am_iadd 617 C dL_law_617 ?_
      refine al_ld 618 C V (hix 2 (by decide)) dL_law_618 ?_
      refine al_callV 619 (s2 := s2) (st := [.int r]) (st2 := (.int r :: [.int r])) [.int (xs (i + 1).toNatClampNeg), .int (xs (i + 2).toNatClampNeg)] C A (by decide) ml_L_78 yc_X12_run yv_X12_run (t_X12_run (xs (i + 1).toNatClampNeg) (xs (i + 2).toNatClampNeg) s1 E2) (by decide) sh_248 rfl rfl (Nat.le_of_ble_eq_true rfl) rfl dL_law_619 ?_
      refine am_icmp_eq 622 1121 C dL_law_622 (by decide) (fun _ => ?_) (fun q => absurd rfl q)
      exact next s2 hI2
    by_cases c15 : u = (15 : Int32)
    · refine am_tabIn 33 627 C dL_law_33 (by rw [c15]; decide) (by rw [c15]; decide) (by rw [c15]; rfl) (by decide) ?_
      obtain ⟨r, E1, E2, hI2⟩ := hS.2.2.2.2.2.2.2.2.2.2.2.2.2.2.2.1 k s (xs (i + 1).toNatClampNeg) hk hI
      refine am_aload_n 627 C dL_law_627 rfl 2 rfl ?_
      refine am_aload_nX 628 C dL_law_628 rfl 1 rfl ?_
      refine am_iload_n 629 C dL_law_629 rfl 0 rfl ?_
      refine am_iconst 630 (1 : Int32) C dL_law_630 (by decide) ?_
      refine am_iadd 631 C dL_law_631 ?_
      refine al_ld 632 C V (hix 1 (by decide)) dL_law_632 ?_
      refine al_callV 633 (s2 := s) (st := []) (st2 := (.int r :: [])) [.int (xs (i + 1).toNatClampNeg)] C A (by decide) ml_L_79 yc_X11_breach yv_X11_breach (t_X11_breach (xs (i + 1).toNatClampNeg) s E1) (by decide) sh_0 rfl rfl (Nat.le_of_ble_eq_true rfl) rfl dL_law_633 ?_
      refine am_aload_n 636 C dL_law_636 rfl 3 rfl ?_
      refine am_aload_nX 637 C dL_law_637 rfl 1 rfl ?_
      refine am_iload_n 638 C dL_law_638 rfl 0 rfl ?_
      refine am_iconst 639 (1 : Int32) C dL_law_639 (by decide) ?_
      refine am_iadd 640 C dL_law_640 ?_
      refine al_ld 641 C V (hix 1 (by decide)) dL_law_641 ?_
      refine al_callV 642 (s2 := s) (st := [.int r]) (st2 := (.int r :: [.int r])) [.int (xs (i + 1).toNatClampNeg)] C A (by decide) ml_L_82 yc_X12_breach yv_X12_breach (t_X12_breach (xs (i + 1).toNatClampNeg) s E2) (by decide) sh_248 rfl rfl (Nat.le_of_ble_eq_true rfl) rfl dL_law_642 ?_
      refine am_icmp_eq 645 1121 C dL_law_645 (by decide) (fun _ => ?_) (fun q => absurd rfl q)
      exact next s hI2
    by_cases c16 : u = (16 : Int32)
    · refine am_tabIn 33 650 C dL_law_33 (by rw [c16]; decide) (by rw [c16]; decide) (by rw [c16]; rfl) (by decide) ?_
      obtain ⟨r, E1, E2, hI2⟩ := hS.2.2.2.2.2.2.2.2.2.2.2.2.2.2.2.2.1 k s (xs (i + 1).toNatClampNeg) hk hI
      refine am_aload_n 650 C dL_law_650 rfl 2 rfl ?_
      refine am_aload_nX 651 C dL_law_651 rfl 1 rfl ?_
      refine am_iload_n 652 C dL_law_652 rfl 0 rfl ?_
      refine am_iconst 653 (1 : Int32) C dL_law_653 (by decide) ?_
      refine am_iadd 654 C dL_law_654 ?_
      refine al_ld 655 C V (hix 1 (by decide)) dL_law_655 ?_
      refine al_callV 656 (s2 := s) (st := []) (st2 := (.int r :: [])) [.int (xs (i + 1).toNatClampNeg)] C A (by decide) ml_L_83 yc_X11_tellers yv_X11_tellers (t_X11_tellers (xs (i + 1).toNatClampNeg) s E1) (by decide) sh_0 rfl rfl (Nat.le_of_ble_eq_true rfl) rfl dL_law_656 ?_
      refine am_aload_n 659 C dL_law_659 rfl 3 rfl ?_
      refine am_aload_nX 660 C dL_law_660 rfl 1 rfl ?_
      refine am_iload_n 661 C dL_law_661 rfl 0 rfl ?_
      refine am_iconst 662 (1 : Int32) C dL_law_662 (by decide) ?_
      refine am_iadd 663 C dL_law_663 ?_
      refine al_ld 664 C V (hix 1 (by decide)) dL_law_664 ?_
      refine al_callV 665 (s2 := s) (st := [.int r]) (st2 := (.int r :: [.int r])) [.int (xs (i + 1).toNatClampNeg)] C A (by decide) ml_L_86 yc_X12_tellers yv_X12_tellers (t_X12_tellers (xs (i + 1).toNatClampNeg) s E2) (by decide) sh_248 rfl rfl (Nat.le_of_ble_eq_true rfl) rfl dL_law_665 ?_
      refine am_icmp_eq 668 1121 C dL_law_668 (by decide) (fun _ => ?_) (fun q => absurd rfl q)
      exact next s hI2
    by_cases c17 : u = (17 : Int32)
    · refine am_tabIn 33 673 C dL_law_33 (by rw [c17]; decide) (by rw [c17]; decide) (by rw [c17]; rfl) (by decide) ?_
      obtain ⟨r, s1, s2, E1, E2, hI2⟩ := hS.2.2.2.2.2.2.2.2.2.2.2.2.2.2.2.2.2.1 k s (xs (i + 1).toNatClampNeg) (xs (i + 2).toNatClampNeg) (xs (i + 3).toNatClampNeg) hk hI
      refine am_aload_n 673 C dL_law_673 rfl 2 rfl ?_
      refine am_aload_nX 674 C dL_law_674 rfl 1 rfl ?_
      refine am_iload_n 675 C dL_law_675 rfl 0 rfl ?_
      refine am_iconst 676 (1 : Int32) C dL_law_676 (by decide) ?_
      refine am_iadd 677 C dL_law_677 ?_
      refine al_ld 678 C V (hix 1 (by decide)) dL_law_678 ?_
      refine am_aload_nX 679 C dL_law_679 rfl 1 rfl ?_
      refine am_iload_n 680 C dL_law_680 rfl 0 rfl ?_
      refine am_iconst 681 (2 : Int32) C dL_law_681 (by decide) ?_
      refine am_iadd 682 C dL_law_682 ?_
      refine al_ld 683 C V (hix 2 (by decide)) dL_law_683 ?_
      refine am_aload_nX 684 C dL_law_684 rfl 1 rfl ?_
      refine am_iload_n 685 C dL_law_685 rfl 0 rfl ?_
      refine am_iconst 686 (3 : Int32) C dL_law_686 (by decide) ?_
      refine am_iadd 687 C dL_law_687 ?_
      refine al_ld 688 C V (hix 3 (by decide)) dL_law_688 ?_
      refine al_callV 689 (s2 := s1) (st := []) (st2 := (.int r :: [])) [.int (xs (i + 1).toNatClampNeg), .int (xs (i + 2).toNatClampNeg), .int (xs (i + 3).toNatClampNeg)] C A (by decide) ml_L_87 yc_X11_leastLie yv_X11_leastLie (t_X11_leastLie (xs (i + 1).toNatClampNeg) (xs (i + 2).toNatClampNeg) (xs (i + 3).toNatClampNeg) s E1) (by decide) sh_0 rfl rfl (Nat.le_of_ble_eq_true rfl) rfl dL_law_689 ?_
      refine am_aload_n 692 C dL_law_692 rfl 3 rfl ?_
      refine am_aload_nX 693 C dL_law_693 rfl 1 rfl ?_
      refine am_iload_n 694 C dL_law_694 rfl 0 rfl ?_
      refine am_iconst 695 (1 : Int32) C dL_law_695 (by decide) ?_
      refine am_iadd 696 C dL_law_696 ?_
      refine al_ld 697 C V (hix 1 (by decide)) dL_law_697 ?_
      refine am_aload_nX 698 C dL_law_698 rfl 1 rfl ?_
      refine am_iload_n 699 C dL_law_699 rfl 0 rfl ?_
      refine am_iconst 700 (2 : Int32) C dL_law_700 (by decide) ?_
      refine am_iadd 701 C dL_law_701 ?_
      refine al_ld 702 C V (hix 2 (by decide)) dL_law_702 ?_
      refine am_aload_nX 703 C dL_law_703 rfl 1 rfl ?_
      refine am_iload_n 704 C dL_law_704 rfl 0 rfl ?_
      refine am_iconst 705 (3 : Int32) C dL_law_705 (by decide) ?_
      refine am_iadd 706 C dL_law_706 ?_
      refine al_ld 707 C V (hix 3 (by decide)) dL_law_707 ?_
      refine al_callV 708 (s2 := s2) (st := [.int r]) (st2 := (.int r :: [.int r])) [.int (xs (i + 1).toNatClampNeg), .int (xs (i + 2).toNatClampNeg), .int (xs (i + 3).toNatClampNeg)] C A (by decide) ml_L_90 yc_X12_leastLie yv_X12_leastLie (t_X12_leastLie (xs (i + 1).toNatClampNeg) (xs (i + 2).toNatClampNeg) (xs (i + 3).toNatClampNeg) s1 E2) (by decide) sh_248 rfl rfl (Nat.le_of_ble_eq_true rfl) rfl dL_law_708 ?_
      refine am_icmp_eq 711 1121 C dL_law_711 (by decide) (fun _ => ?_) (fun q => absurd rfl q)
      exact next s2 hI2
    by_cases c18 : u = (18 : Int32)
    · refine am_tabIn 33 716 C dL_law_33 (by rw [c18]; decide) (by rw [c18]; decide) (by rw [c18]; rfl) (by decide) ?_
      obtain ⟨r, s1, s2, E1, E2, hI2⟩ := hS.2.2.2.2.2.2.2.2.2.2.2.2.2.2.2.2.2.2.1 k s  hk hI
      refine am_aload_n 716 C dL_law_716 rfl 2 rfl ?_
      refine al_callV 717 (s2 := s1) (st := []) (st2 := (.int r :: [])) [] C A (by decide) ml_L_91 yc_X11_evening yv_X11_evening (t_X11_evening  s E1) (by decide) sh_0 rfl rfl (Nat.le_of_ble_eq_true rfl) rfl dL_law_717 ?_
      refine am_aload_n 720 C dL_law_720 rfl 3 rfl ?_
      refine al_callV 721 (s2 := s2) (st := [.int r]) (st2 := (.int r :: [.int r])) [] C A (by decide) ml_L_94 yc_X12_evening yv_X12_evening (t_X12_evening  s1 E2) (by decide) sh_248 rfl rfl (Nat.le_of_ble_eq_true rfl) rfl dL_law_721 ?_
      refine am_icmp_eq 724 1121 C dL_law_724 (by decide) (fun _ => ?_) (fun q => absurd rfl q)
      exact next s2 hI2
    by_cases c19 : u = (19 : Int32)
    · refine am_tabIn 33 729 C dL_law_33 (by rw [c19]; decide) (by rw [c19]; decide) (by rw [c19]; rfl) (by decide) ?_
      obtain ⟨r, E1, E2, hI2⟩ := hS.2.2.2.2.2.2.2.2.2.2.2.2.2.2.2.2.2.2.2.1 k s (xs (i + 1).toNatClampNeg) (xs (i + 2).toNatClampNeg) (xs (i + 3).toNatClampNeg) hk hI
      refine am_aload_n 729 C dL_law_729 rfl 2 rfl ?_
      refine am_aload_nX 730 C dL_law_730 rfl 1 rfl ?_
      refine am_iload_n 731 C dL_law_731 rfl 0 rfl ?_
      refine am_iconst 732 (1 : Int32) C dL_law_732 (by decide) ?_
      refine am_iadd 733 C dL_law_733 ?_
      refine al_ld 734 C V (hix 1 (by decide)) dL_law_734 ?_
      refine am_aload_nX 735 C dL_law_735 rfl 1 rfl ?_
      refine am_iload_n 736 C dL_law_736 rfl 0 rfl ?_
      refine am_iconst 737 (2 : Int32) C dL_law_737 (by decide) ?_
      refine am_iadd 738 C dL_law_738 ?_
      refine al_ld 739 C V (hix 2 (by decide)) dL_law_739 ?_
      refine am_aload_nX 740 C dL_law_740 rfl 1 rfl ?_
      refine am_iload_n 741 C dL_law_741 rfl 0 rfl ?_
      refine am_iconst 742 (3 : Int32) C dL_law_742 (by decide) ?_
      refine am_iadd 743 C dL_law_743 ?_
      refine al_ld 744 C V (hix 3 (by decide)) dL_law_744 ?_
      refine al_callV 745 (s2 := s) (st := []) (st2 := (.int r :: [])) [.int (xs (i + 1).toNatClampNeg), .int (xs (i + 2).toNatClampNeg), .int (xs (i + 3).toNatClampNeg)] C A (by decide) ml_L_95 yc_X11_walls yv_X11_walls (t_X11_walls (xs (i + 1).toNatClampNeg) (xs (i + 2).toNatClampNeg) (xs (i + 3).toNatClampNeg) s E1) (by decide) sh_0 rfl rfl (Nat.le_of_ble_eq_true rfl) rfl dL_law_745 ?_
      refine am_aload_n 748 C dL_law_748 rfl 3 rfl ?_
      refine am_aload_nX 749 C dL_law_749 rfl 1 rfl ?_
      refine am_iload_n 750 C dL_law_750 rfl 0 rfl ?_
      refine am_iconst 751 (1 : Int32) C dL_law_751 (by decide) ?_
      refine am_iadd 752 C dL_law_752 ?_
      refine al_ld 753 C V (hix 1 (by decide)) dL_law_753 ?_
      refine am_aload_nX 754 C dL_law_754 rfl 1 rfl ?_
      refine am_iload_n 755 C dL_law_755 rfl 0 rfl ?_
      refine am_iconst 756 (2 : Int32) C dL_law_756 (by decide) ?_
      refine am_iadd 757 C dL_law_757 ?_
      refine al_ld 758 C V (hix 2 (by decide)) dL_law_758 ?_
      refine am_aload_nX 759 C dL_law_759 rfl 1 rfl ?_
      refine am_iload_n 760 C dL_law_760 rfl 0 rfl ?_
      refine am_iconst 761 (3 : Int32) C dL_law_761 (by decide) ?_
      refine am_iadd 762 C dL_law_762 ?_
      refine al_ld 763 C V (hix 3 (by decide)) dL_law_763 ?_
      refine al_callV 764 (s2 := s) (st := [.int r]) (st2 := (.int r :: [.int r])) [.int (xs (i + 1).toNatClampNeg), .int (xs (i + 2).toNatClampNeg), .int (xs (i + 3).toNatClampNeg)] C A (by decide) ml_L_98 yc_X12_walls yv_X12_walls (t_X12_walls (xs (i + 1).toNatClampNeg) (xs (i + 2).toNatClampNeg) (xs (i + 3).toNatClampNeg) s E2) (by decide) sh_248 rfl rfl (Nat.le_of_ble_eq_true rfl) rfl dL_law_764 ?_
      refine am_icmp_eq 767 1121 C dL_law_767 (by decide) (fun _ => ?_) (fun q => absurd rfl q)
      exact next s hI2
    by_cases c20 : u = (20 : Int32)
    · refine am_tabIn 33 772 C dL_law_33 (by rw [c20]; decide) (by rw [c20]; decide) (by rw [c20]; rfl) (by decide) ?_
      obtain ⟨r, E1, E2, hI2⟩ := hS.2.2.2.2.2.2.2.2.2.2.2.2.2.2.2.2.2.2.2.2.1 k s (xs (i + 1).toNatClampNeg) (xs (i + 2).toNatClampNeg) hk hI
      refine am_aload_n 772 C dL_law_772 rfl 2 rfl ?_
      refine am_aload_nX 773 C dL_law_773 rfl 1 rfl ?_
      refine am_iload_n 774 C dL_law_774 rfl 0 rfl ?_
      refine am_iconst 775 (1 : Int32) C dL_law_775 (by decide) ?_
      refine am_iadd 776 C dL_law_776 ?_
      refine al_ld 777 C V (hix 1 (by decide)) dL_law_777 ?_
      refine am_aload_nX 778 C dL_law_778 rfl 1 rfl ?_
      refine am_iload_n 779 C dL_law_779 rfl 0 rfl ?_
      refine am_iconst 780 (2 : Int32) C dL_law_780 (by decide) ?_
      refine am_iadd 781 C dL_law_781 ?_
      refine al_ld 782 C V (hix 2 (by decide)) dL_law_782 ?_
      refine al_callV 783 (s2 := s) (st := []) (st2 := (.int r :: [])) [.int (xs (i + 1).toNatClampNeg), .int (xs (i + 2).toNatClampNeg)] C A (by decide) ml_L_99 yc_X11_leak yv_X11_leak (t_X11_leak (xs (i + 1).toNatClampNeg) (xs (i + 2).toNatClampNeg) s E1) (by decide) sh_0 rfl rfl (Nat.le_of_ble_eq_true rfl) rfl dL_law_783 ?_
      refine am_aload_n 786 C dL_law_786 rfl 3 rfl ?_
      refine am_aload_nX 787 C dL_law_787 rfl 1 rfl ?_
      refine am_iload_n 788 C dL_law_788 rfl 0 rfl ?_
      refine am_iconst 789 (1 : Int32) C dL_law_789 (by decide) ?_
      refine am_iadd 790 C dL_law_790 ?_
      refine al_ld 791 C V (hix 1 (by decide)) dL_law_791 ?_
      refine am_aload_nX 792 C dL_law_792 rfl 1 rfl ?_
      refine am_iload_n 793 C dL_law_793 rfl 0 rfl ?_
      refine am_iconst 794 (2 : Int32) C dL_law_794 (by decide) ?_
      refine am_iadd 795 C dL_law_795 ?_
      refine al_ld 796 C V (hix 2 (by decide)) dL_law_796 ?_
      refine al_callV 797 (s2 := s) (st := [.int r]) (st2 := (.int r :: [.int r])) [.int (xs (i + 1).toNatClampNeg), .int (xs (i + 2).toNatClampNeg)] C A (by decide) ml_L_102 yc_X12_leak yv_X12_leak (t_X12_leak (xs (i + 1).toNatClampNeg) (xs (i + 2).toNatClampNeg) s E2) (by decide) sh_248 rfl rfl (Nat.le_of_ble_eq_true rfl) rfl dL_law_797 ?_
      refine am_icmp_eq 800 1121 C dL_law_800 (by decide) (fun _ => ?_) (fun q => absurd rfl q)
      exact next s hI2
    by_cases c21 : u = (21 : Int32)
    · refine am_tabIn 33 805 C dL_law_33 (by rw [c21]; decide) (by rw [c21]; decide) (by rw [c21]; rfl) (by decide) ?_
      obtain ⟨r, s1, s2, E1, E2, hI2⟩ := hS.2.2.2.2.2.2.2.2.2.2.2.2.2.2.2.2.2.2.2.2.2.1 k s (xs (i + 1).toNatClampNeg) (xs (i + 2).toNatClampNeg) (xs (i + 3).toNatClampNeg) hk hI
      refine am_aload_n 805 C dL_law_805 rfl 2 rfl ?_
      refine am_aload_nX 806 C dL_law_806 rfl 1 rfl ?_
      refine am_iload_n 807 C dL_law_807 rfl 0 rfl ?_
      refine am_iconst 808 (1 : Int32) C dL_law_808 (by decide) ?_
      refine am_iadd 809 C dL_law_809 ?_
      refine al_ld 810 C V (hix 1 (by decide)) dL_law_810 ?_
      refine am_aload_nX 811 C dL_law_811 rfl 1 rfl ?_
      refine am_iload_n 812 C dL_law_812 rfl 0 rfl ?_
      refine am_iconst 813 (2 : Int32) C dL_law_813 (by decide) ?_
      refine am_iadd 814 C dL_law_814 ?_
      refine al_ld 815 C V (hix 2 (by decide)) dL_law_815 ?_
      refine am_aload_nX 816 C dL_law_816 rfl 1 rfl ?_
      refine am_iload_n 817 C dL_law_817 rfl 0 rfl ?_
      refine am_iconst 818 (3 : Int32) C dL_law_818 (by decide) ?_
      refine am_iadd 819 C dL_law_819 ?_
      refine al_ld 820 C V (hix 3 (by decide)) dL_law_820 ?_
      refine al_callV 821 (s2 := s1) (st := []) (st2 := (.int r :: [])) [.int (xs (i + 1).toNatClampNeg), .int (xs (i + 2).toNatClampNeg), .int (xs (i + 3).toNatClampNeg)] C A (by decide) ml_L_103 yc_X11_stated yv_X11_stated (t_X11_stated (xs (i + 1).toNatClampNeg) (xs (i + 2).toNatClampNeg) (xs (i + 3).toNatClampNeg) s E1) (by decide) sh_0 rfl rfl (Nat.le_of_ble_eq_true rfl) rfl dL_law_821 ?_
      refine am_aload_n 824 C dL_law_824 rfl 3 rfl ?_
      refine am_aload_nX 825 C dL_law_825 rfl 1 rfl ?_
      refine am_iload_n 826 C dL_law_826 rfl 0 rfl ?_
      refine am_iconst 827 (1 : Int32) C dL_law_827 (by decide) ?_
      refine am_iadd 828 C dL_law_828 ?_
      refine al_ld 829 C V (hix 1 (by decide)) dL_law_829 ?_
      refine am_aload_nX 830 C dL_law_830 rfl 1 rfl ?_
      refine am_iload_n 831 C dL_law_831 rfl 0 rfl ?_
      refine am_iconst 832 (2 : Int32) C dL_law_832 (by decide) ?_
      refine am_iadd 833 C dL_law_833 ?_
      refine al_ld 834 C V (hix 2 (by decide)) dL_law_834 ?_
      refine am_aload_nX 835 C dL_law_835 rfl 1 rfl ?_
      refine am_iload_n 836 C dL_law_836 rfl 0 rfl ?_
      refine am_iconst 837 (3 : Int32) C dL_law_837 (by decide) ?_
      refine am_iadd 838 C dL_law_838 ?_
      refine al_ld 839 C V (hix 3 (by decide)) dL_law_839 ?_
      refine al_callV 840 (s2 := s2) (st := [.int r]) (st2 := (.int r :: [.int r])) [.int (xs (i + 1).toNatClampNeg), .int (xs (i + 2).toNatClampNeg), .int (xs (i + 3).toNatClampNeg)] C A (by decide) ml_L_106 yc_X12_stated yv_X12_stated (t_X12_stated (xs (i + 1).toNatClampNeg) (xs (i + 2).toNatClampNeg) (xs (i + 3).toNatClampNeg) s1 E2) (by decide) sh_248 rfl rfl (Nat.le_of_ble_eq_true rfl) rfl dL_law_840 ?_
      refine am_icmp_eq 843 1121 C dL_law_843 (by decide) (fun _ => ?_) (fun q => absurd rfl q)
      exact next s2 hI2
    by_cases c22 : u = (22 : Int32)
    · refine am_tabIn 33 848 C dL_law_33 (by rw [c22]; decide) (by rw [c22]; decide) (by rw [c22]; rfl) (by decide) ?_
      obtain ⟨r, s1, E1, E2, hI2⟩ := hS.2.2.2.2.2.2.2.2.2.2.2.2.2.2.2.2.2.2.2.2.2.2.1 k s (xs (i + 1).toNatClampNeg) hk hI
      refine am_aload_n 848 C dL_law_848 rfl 2 rfl ?_
      refine am_aload_nX 849 C dL_law_849 rfl 1 rfl ?_
      refine am_iload_n 850 C dL_law_850 rfl 0 rfl ?_
      refine am_iconst 851 (1 : Int32) C dL_law_851 (by decide) ?_
      refine am_iadd 852 C dL_law_852 ?_
      refine al_ld 853 C V (hix 1 (by decide)) dL_law_853 ?_
      refine al_callV 854 (s2 := s1) (st := []) (st2 := (.int r :: [])) [.int (xs (i + 1).toNatClampNeg)] C A (by decide) ml_L_107 yc_X11_truths yv_X11_truths (t_X11_truths (xs (i + 1).toNatClampNeg) s E1) (by decide) sh_0 rfl rfl (Nat.le_of_ble_eq_true rfl) rfl dL_law_854 ?_
      refine am_aload_n 857 C dL_law_857 rfl 3 rfl ?_
      refine am_aload_nX 858 C dL_law_858 rfl 1 rfl ?_
      refine am_iload_n 859 C dL_law_859 rfl 0 rfl ?_
      refine am_iconst 860 (1 : Int32) C dL_law_860 (by decide) ?_
      refine am_iadd 861 C dL_law_861 ?_
      refine al_ld 862 C V (hix 1 (by decide)) dL_law_862 ?_
      refine al_callV 863 (s2 := s1) (st := [.int r]) (st2 := (.int r :: [.int r])) [.int (xs (i + 1).toNatClampNeg)] C A (by decide) ml_L_110 yc_X12_truths yv_X12_truths (t_X12_truths (xs (i + 1).toNatClampNeg) s1 E2) (by decide) sh_248 rfl rfl (Nat.le_of_ble_eq_true rfl) rfl dL_law_863 ?_
      refine am_icmp_eq 866 1121 C dL_law_866 (by decide) (fun _ => ?_) (fun q => absurd rfl q)
      exact next s1 hI2
    by_cases c23 : u = (23 : Int32)
    · refine am_tabIn 33 871 C dL_law_33 (by rw [c23]; decide) (by rw [c23]; decide) (by rw [c23]; rfl) (by decide) ?_
      obtain ⟨r, s1, E1, E2, hI2⟩ := hS.2.2.2.2.2.2.2.2.2.2.2.2.2.2.2.2.2.2.2.2.2.2.2.1 k s (xs (i + 1).toNatClampNeg) hk hI
      refine am_aload_n 871 C dL_law_871 rfl 2 rfl ?_
      refine am_aload_nX 872 C dL_law_872 rfl 1 rfl ?_
      refine am_iload_n 873 C dL_law_873 rfl 0 rfl ?_
      refine am_iconst 874 (1 : Int32) C dL_law_874 (by decide) ?_
      refine am_iadd 875 C dL_law_875 ?_
      refine al_ld 876 C V (hix 1 (by decide)) dL_law_876 ?_
      refine al_callV 877 (s2 := s1) (st := []) (st2 := (.int r :: [])) [.int (xs (i + 1).toNatClampNeg)] C A (by decide) ml_L_111 yc_X11_ask yv_X11_ask (t_X11_ask (xs (i + 1).toNatClampNeg) s E1) (by decide) sh_0 rfl rfl (Nat.le_of_ble_eq_true rfl) rfl dL_law_877 ?_
      refine am_aload_n 880 C dL_law_880 rfl 3 rfl ?_
      refine am_aload_nX 881 C dL_law_881 rfl 1 rfl ?_
      refine am_iload_n 882 C dL_law_882 rfl 0 rfl ?_
      refine am_iconst 883 (1 : Int32) C dL_law_883 (by decide) ?_
      refine am_iadd 884 C dL_law_884 ?_
      refine al_ld 885 C V (hix 1 (by decide)) dL_law_885 ?_
      refine al_callV 886 (s2 := s1) (st := [.int r]) (st2 := (.int r :: [.int r])) [.int (xs (i + 1).toNatClampNeg)] C A (by decide) ml_L_114 yc_X12_ask yv_X12_ask (t_X12_ask (xs (i + 1).toNatClampNeg) s1 E2) (by decide) sh_248 rfl rfl (Nat.le_of_ble_eq_true rfl) rfl dL_law_886 ?_
      refine am_icmp_eq 889 1121 C dL_law_889 (by decide) (fun _ => ?_) (fun q => absurd rfl q)
      exact next s1 hI2
    by_cases c24 : u = (24 : Int32)
    · refine am_tabIn 33 894 C dL_law_33 (by rw [c24]; decide) (by rw [c24]; decide) (by rw [c24]; rfl) (by decide) ?_
      refine am_aload_n 894 C dL_law_894 rfl 2 rfl ?_
      refine am_aload_nX 895 C dL_law_895 rfl 1 rfl ?_
      refine am_iload_n 896 C dL_law_896 rfl 0 rfl ?_
      refine am_iconst 897 (1 : Int32) C dL_law_897 (by decide) ?_
      refine am_iadd 898 C dL_law_898 ?_
      refine al_ld 899 C V (hix 1 (by decide)) dL_law_899 ?_
      refine am_aload_nX 900 C dL_law_900 rfl 1 rfl ?_
      refine am_iload_n 901 C dL_law_901 rfl 0 rfl ?_
      refine am_iconst 902 (2 : Int32) C dL_law_902 (by decide) ?_
      refine am_iadd 903 C dL_law_903 ?_
      refine al_ld 904 C V (hix 2 (by decide)) dL_law_904 ?_
      have key : ∀ v : Int32, (v = 0 ∨ v = 1) → ((xs (i + 2).toNatClampNeg = 0 ∧ v = 0) ∨ (¬ xs (i + 2).toNatClampNeg = 0 ∧ v = 1)) → AX x 266 21249 913 [(3, .int i), (0, .retAddr b0), (1, .ref 0), (2, .ref 248)] [.int v, .int (xs (i + 1).toNatClampNeg), .ref 0] am_N (am_h s) := by
        intro v hv hz
        obtain ⟨r, s1, s2, E1, E2, hI2⟩ := hS.2.2.2.2.2.2.2.2.2.2.2.2.2.2.2.2.2.2.2.2.2.2.2.2.1 k s (xs (i + 1).toNatClampNeg) v hv hk hI
        refine al_callV 913 (s2 := s1) (st := []) (st2 := (.int r :: [])) [.int (xs (i + 1).toNatClampNeg), .int v] C A (by decide) ml_L_115 yc_X11_tale yv_X11_tale (t_X11_tale (xs (i + 1).toNatClampNeg) v s E1) (by decide) sh_0 rfl rfl (Nat.le_of_ble_eq_true rfl) rfl dL_law_913 ?_
        refine am_aload_n 916 C dL_law_916 rfl 3 rfl ?_
        refine am_aload_nX 917 C dL_law_917 rfl 1 rfl ?_
        refine am_iload_n 918 C dL_law_918 rfl 0 rfl ?_
        refine am_iconst 919 (1 : Int32) C dL_law_919 (by decide) ?_
        refine am_iadd 920 C dL_law_920 ?_
        refine al_ld 921 C V (hix 1 (by decide)) dL_law_921 ?_
        refine am_aload_nX 922 C dL_law_922 rfl 1 rfl ?_
        refine am_iload_n 923 C dL_law_923 rfl 0 rfl ?_
        refine am_iconst 924 (2 : Int32) C dL_law_924 (by decide) ?_
        refine am_iadd 925 C dL_law_925 ?_
        refine al_ld 926 C V (hix 2 (by decide)) dL_law_926 ?_
        have fin : AX x 266 21249 935 [(3, .int i), (0, .retAddr b0), (1, .ref 0), (2, .ref 248)] [.int v, .int (xs (i + 1).toNatClampNeg), .ref 248, .int r] am_N (am_h s1) := by
          refine al_callV 935 (s2 := s2) (st := [.int r]) (st2 := (.int r :: [.int r])) [.int (xs (i + 1).toNatClampNeg), .int v] C A (by decide) ml_L_119 yc_X12_tale yv_X12_tale (t_X12_tale (xs (i + 1).toNatClampNeg) v s1 E2) (by decide) sh_248 rfl rfl (Nat.le_of_ble_eq_true rfl) rfl dL_law_935 ?_
          refine am_icmp_eq 938 1121 C dL_law_938 (by decide) (fun _ => ?_) (fun q => absurd rfl q)
          exact next s2 hI2
        refine am_if_eq 927 934 C dL_law_927 (by decide) (fun c => ?_) (fun c => ?_)
        · refine am_iconst 934 (0 : Int32) C dL_law_934 (by decide) ?_
          rcases hz with ⟨_, rfl⟩ | ⟨h, _⟩
          · exact fin
          · exact absurd c h
        · refine am_iconst 930 (1 : Int32) C dL_law_930 (by decide) ?_
          refine am_goto 931 935 C dL_law_931 (by decide) ?_
          rcases hz with ⟨h, _⟩ | ⟨_, rfl⟩
          · exact absurd h c
          · exact fin
      refine am_if_eq 905 912 C dL_law_905 (by decide) (fun c => ?_) (fun c => ?_)
      · refine am_iconst 912 (0 : Int32) C dL_law_912 (by decide) ?_
        exact key 0 (Or.inl rfl) (Or.inl ⟨c, rfl⟩)
      · refine am_iconst 908 (1 : Int32) C dL_law_908 (by decide) ?_
        refine am_goto 909 913 C dL_law_909 (by decide) ?_
        exact key 1 (Or.inr rfl) (Or.inr ⟨c, rfl⟩)
    by_cases c25 : u = (25 : Int32)
    · refine am_tabIn 33 943 C dL_law_33 (by rw [c25]; decide) (by rw [c25]; decide) (by rw [c25]; rfl) (by decide) ?_
      obtain ⟨r, E1, E2, hI2⟩ := hS.2.2.2.2.2.2.2.2.2.2.2.2.2.2.2.2.2.2.2.2.2.2.2.2.2.1 k s (xs (i + 1).toNatClampNeg) (xs (i + 2).toNatClampNeg) (xs (i + 3).toNatClampNeg) hk hI
      refine am_aload_n 943 C dL_law_943 rfl 2 rfl ?_
      refine am_aload_nX 944 C dL_law_944 rfl 1 rfl ?_
      refine am_iload_n 945 C dL_law_945 rfl 0 rfl ?_
      refine am_iconst 946 (1 : Int32) C dL_law_946 (by decide) ?_
      refine am_iadd 947 C dL_law_947 ?_
      refine al_ld 948 C V (hix 1 (by decide)) dL_law_948 ?_
      refine am_aload_nX 949 C dL_law_949 rfl 1 rfl ?_
      refine am_iload_n 950 C dL_law_950 rfl 0 rfl ?_
      refine am_iconst 951 (2 : Int32) C dL_law_951 (by decide) ?_
      refine am_iadd 952 C dL_law_952 ?_
      refine al_ld 953 C V (hix 2 (by decide)) dL_law_953 ?_
      refine am_aload_nX 954 C dL_law_954 rfl 1 rfl ?_
      refine am_iload_n 955 C dL_law_955 rfl 0 rfl ?_
      refine am_iconst 956 (3 : Int32) C dL_law_956 (by decide) ?_
      refine am_iadd 957 C dL_law_957 ?_
      refine al_ld 958 C V (hix 3 (by decide)) dL_law_958 ?_
      refine al_callV 959 (s2 := s) (st := []) (st2 := (.int r :: [])) [.int (xs (i + 1).toNatClampNeg), .int (xs (i + 2).toNatClampNeg), .int (xs (i + 3).toNatClampNeg)] C A (by decide) ml_L_120 yc_X11_schedules yv_X11_schedules (t_X11_schedules (xs (i + 1).toNatClampNeg) (xs (i + 2).toNatClampNeg) (xs (i + 3).toNatClampNeg) s E1) (by decide) sh_0 rfl rfl (Nat.le_of_ble_eq_true rfl) rfl dL_law_959 ?_
      refine am_aload_n 962 C dL_law_962 rfl 3 rfl ?_
      refine am_aload_nX 963 C dL_law_963 rfl 1 rfl ?_
      refine am_iload_n 964 C dL_law_964 rfl 0 rfl ?_
      refine am_iconst 965 (1 : Int32) C dL_law_965 (by decide) ?_
      refine am_iadd 966 C dL_law_966 ?_
      refine al_ld 967 C V (hix 1 (by decide)) dL_law_967 ?_
      refine am_aload_nX 968 C dL_law_968 rfl 1 rfl ?_
      refine am_iload_n 969 C dL_law_969 rfl 0 rfl ?_
      refine am_iconst 970 (2 : Int32) C dL_law_970 (by decide) ?_
      refine am_iadd 971 C dL_law_971 ?_
      refine al_ld 972 C V (hix 2 (by decide)) dL_law_972 ?_
      refine am_aload_nX 973 C dL_law_973 rfl 1 rfl ?_
      refine am_iload_n 974 C dL_law_974 rfl 0 rfl ?_
      refine am_iconst 975 (3 : Int32) C dL_law_975 (by decide) ?_
      refine am_iadd 976 C dL_law_976 ?_
      refine al_ld 977 C V (hix 3 (by decide)) dL_law_977 ?_
      refine al_callV 978 (s2 := s) (st := [.int r]) (st2 := (.int r :: [.int r])) [.int (xs (i + 1).toNatClampNeg), .int (xs (i + 2).toNatClampNeg), .int (xs (i + 3).toNatClampNeg)] C A (by decide) ml_L_123 yc_X12_schedules yv_X12_schedules (t_X12_schedules (xs (i + 1).toNatClampNeg) (xs (i + 2).toNatClampNeg) (xs (i + 3).toNatClampNeg) s E2) (by decide) sh_248 rfl rfl (Nat.le_of_ble_eq_true rfl) rfl dL_law_978 ?_
      refine am_icmp_eq 981 1121 C dL_law_981 (by decide) (fun _ => ?_) (fun q => absurd rfl q)
      exact next s hI2
    by_cases c26 : u = (26 : Int32)
    · refine am_tabIn 33 986 C dL_law_33 (by rw [c26]; decide) (by rw [c26]; decide) (by rw [c26]; rfl) (by decide) ?_
      obtain ⟨r, s1, s2, E1, E2, hI2⟩ := hS.2.2.2.2.2.2.2.2.2.2.2.2.2.2.2.2.2.2.2.2.2.2.2.2.2.2.1 k s (xs (i + 1).toNatClampNeg) hk hI
      refine am_aload_n 986 C dL_law_986 rfl 2 rfl ?_
      refine am_aload_nX 987 C dL_law_987 rfl 1 rfl ?_
      refine am_iload_n 988 C dL_law_988 rfl 0 rfl ?_
      refine am_iconst 989 (1 : Int32) C dL_law_989 (by decide) ?_
      refine am_iadd 990 C dL_law_990 ?_
      refine al_ld 991 C V (hix 1 (by decide)) dL_law_991 ?_
      refine al_callV 992 (s2 := s1) (st := []) (st2 := (.int r :: [])) [.int (xs (i + 1).toNatClampNeg)] C A (by decide) ml_L_124 yc_X11_seed yv_X11_seed (t_X11_seed (xs (i + 1).toNatClampNeg) s E1) (by decide) sh_0 rfl rfl (Nat.le_of_ble_eq_true rfl) rfl dL_law_992 ?_
      refine am_aload_n 995 C dL_law_995 rfl 3 rfl ?_
      refine am_aload_nX 996 C dL_law_996 rfl 1 rfl ?_
      refine am_iload_n 997 C dL_law_997 rfl 0 rfl ?_
      refine am_iconst 998 (1 : Int32) C dL_law_998 (by decide) ?_
      refine am_iadd 999 C dL_law_999 ?_
      refine al_ld 1000 C V (hix 1 (by decide)) dL_law_1000 ?_
      refine al_callV 1001 (s2 := s2) (st := [.int r]) (st2 := (.int r :: [.int r])) [.int (xs (i + 1).toNatClampNeg)] C A (by decide) ml_L_127 yc_X12_seed yv_X12_seed (t_X12_seed (xs (i + 1).toNatClampNeg) s1 E2) (by decide) sh_248 rfl rfl (Nat.le_of_ble_eq_true rfl) rfl dL_law_1001 ?_
      refine am_icmp_eq 1004 1121 C dL_law_1004 (by decide) (fun _ => ?_) (fun q => absurd rfl q)
      exact next s2 hI2
    by_cases c27 : u = (27 : Int32)
    · refine am_tabIn 33 1009 C dL_law_33 (by rw [c27]; decide) (by rw [c27]; decide) (by rw [c27]; rfl) (by decide) ?_
      obtain ⟨r, s1, s2, E1, E2, hI2⟩ := hS.2.2.2.2.2.2.2.2.2.2.2.2.2.2.2.2.2.2.2.2.2.2.2.2.2.2.2.1 k s (xs (i + 1).toNatClampNeg) (xs (i + 2).toNatClampNeg) (xs (i + 3).toNatClampNeg) hk hI
      refine am_aload_n 1009 C dL_law_1009 rfl 2 rfl ?_
      refine am_aload_nX 1010 C dL_law_1010 rfl 1 rfl ?_
      refine am_iload_n 1011 C dL_law_1011 rfl 0 rfl ?_
      refine am_iconst 1012 (1 : Int32) C dL_law_1012 (by decide) ?_
      refine am_iadd 1013 C dL_law_1013 ?_
      refine al_ld 1014 C V (hix 1 (by decide)) dL_law_1014 ?_
      refine am_aload_nX 1015 C dL_law_1015 rfl 1 rfl ?_
      refine am_iload_n 1016 C dL_law_1016 rfl 0 rfl ?_
      refine am_iconst 1017 (2 : Int32) C dL_law_1017 (by decide) ?_
      refine am_iadd 1018 C dL_law_1018 ?_
      refine al_ld 1019 C V (hix 2 (by decide)) dL_law_1019 ?_
      refine am_aload_nX 1020 C dL_law_1020 rfl 1 rfl ?_
      refine am_iload_n 1021 C dL_law_1021 rfl 0 rfl ?_
      refine am_iconst 1022 (3 : Int32) C dL_law_1022 (by decide) ?_
      refine am_iadd 1023 C dL_law_1023 ?_
      refine al_ld 1024 C V (hix 3 (by decide)) dL_law_1024 ?_
      refine al_callV 1025 (s2 := s1) (st := []) (st2 := (.int r :: [])) [.int (xs (i + 1).toNatClampNeg), .int (xs (i + 2).toNatClampNeg), .int (xs (i + 3).toNatClampNeg)] C A (by decide) ml_L_128 yc_X11_years yv_X11_years (t_X11_years (xs (i + 1).toNatClampNeg) (xs (i + 2).toNatClampNeg) (xs (i + 3).toNatClampNeg) s E1) (by decide) sh_0 rfl rfl (Nat.le_of_ble_eq_true rfl) rfl dL_law_1025 ?_
      refine am_aload_n 1028 C dL_law_1028 rfl 3 rfl ?_
      refine am_aload_nX 1029 C dL_law_1029 rfl 1 rfl ?_
      refine am_iload_n 1030 C dL_law_1030 rfl 0 rfl ?_
      refine am_iconst 1031 (1 : Int32) C dL_law_1031 (by decide) ?_
      refine am_iadd 1032 C dL_law_1032 ?_
      refine al_ld 1033 C V (hix 1 (by decide)) dL_law_1033 ?_
      refine am_aload_nX 1034 C dL_law_1034 rfl 1 rfl ?_
      refine am_iload_n 1035 C dL_law_1035 rfl 0 rfl ?_
      refine am_iconst 1036 (2 : Int32) C dL_law_1036 (by decide) ?_
      refine am_iadd 1037 C dL_law_1037 ?_
      refine al_ld 1038 C V (hix 2 (by decide)) dL_law_1038 ?_
      refine am_aload_nX 1039 C dL_law_1039 rfl 1 rfl ?_
      refine am_iload_n 1040 C dL_law_1040 rfl 0 rfl ?_
      refine am_iconst 1041 (3 : Int32) C dL_law_1041 (by decide) ?_
      refine am_iadd 1042 C dL_law_1042 ?_
      refine al_ld 1043 C V (hix 3 (by decide)) dL_law_1043 ?_
      refine al_callV 1044 (s2 := s2) (st := [.int r]) (st2 := (.int r :: [.int r])) [.int (xs (i + 1).toNatClampNeg), .int (xs (i + 2).toNatClampNeg), .int (xs (i + 3).toNatClampNeg)] C A (by decide) ml_L_131 yc_X12_years yv_X12_years (t_X12_years (xs (i + 1).toNatClampNeg) (xs (i + 2).toNatClampNeg) (xs (i + 3).toNatClampNeg) s1 E2) (by decide) sh_248 rfl rfl (Nat.le_of_ble_eq_true rfl) rfl dL_law_1044 ?_
      refine am_icmp_eq 1047 1121 C dL_law_1047 (by decide) (fun _ => ?_) (fun q => absurd rfl q)
      exact next s2 hI2
    by_cases c28 : u = (28 : Int32)
    · refine am_tabIn 33 1052 C dL_law_33 (by rw [c28]; decide) (by rw [c28]; decide) (by rw [c28]; rfl) (by decide) ?_
      obtain ⟨r, s2, E1, E2, hI2⟩ := hS.2.2.2.2.2.2.2.2.2.2.2.2.2.2.2.2.2.2.2.2.2.2.2.2.2.2.2.2.1 k s (xs (i + 1).toNatClampNeg) hk hI
      refine am_aload_n 1052 C dL_law_1052 rfl 2 rfl ?_
      refine am_aload_nX 1053 C dL_law_1053 rfl 1 rfl ?_
      refine am_iload_n 1054 C dL_law_1054 rfl 0 rfl ?_
      refine am_iconst 1055 (1 : Int32) C dL_law_1055 (by decide) ?_
      refine am_iadd 1056 C dL_law_1056 ?_
      refine al_ld 1057 C V (hix 1 (by decide)) dL_law_1057 ?_
      refine al_callV 1058 (s2 := s) (st := []) (st2 := (.int r :: [])) [.int (xs (i + 1).toNatClampNeg)] C A (by decide) ml_L_132 yc_X11_count yv_X11_count (t_X11_count (xs (i + 1).toNatClampNeg) s E1) (by decide) sh_0 rfl rfl (Nat.le_of_ble_eq_true rfl) rfl dL_law_1058 ?_
      refine am_aload_n 1061 C dL_law_1061 rfl 3 rfl ?_
      refine am_aload_nX 1062 C dL_law_1062 rfl 1 rfl ?_
      refine am_iload_n 1063 C dL_law_1063 rfl 0 rfl ?_
      refine am_iconst 1064 (1 : Int32) C dL_law_1064 (by decide) ?_
      refine am_iadd 1065 C dL_law_1065 ?_
      refine al_ld 1066 C V (hix 1 (by decide)) dL_law_1066 ?_
      refine al_callV 1067 (s2 := s2) (st := [.int r]) (st2 := (.int r :: [.int r])) [.int (xs (i + 1).toNatClampNeg)] C A (by decide) ml_L_135 yc_X12_count yv_X12_count (t_X12_count (xs (i + 1).toNatClampNeg) s E2) (by decide) sh_248 rfl rfl (Nat.le_of_ble_eq_true rfl) rfl dL_law_1067 ?_
      refine am_icmp_eq 1070 1121 C dL_law_1070 (by decide) (fun _ => ?_) (fun q => absurd rfl q)
      exact next s2 hI2
    by_cases c29 : u = (29 : Int32)
    · refine am_tabIn 33 1075 C dL_law_33 (by rw [c29]; decide) (by rw [c29]; decide) (by rw [c29]; rfl) (by decide) ?_
      obtain ⟨r, s1, s2, E1, E2, hI2⟩ := hS.2.2.2.2.2.2.2.2.2.2.2.2.2.2.2.2.2.2.2.2.2.2.2.2.2.2.2.2.2.1 k s (xs (i + 1).toNatClampNeg) hk hI
      refine am_aload_n 1075 C dL_law_1075 rfl 2 rfl ?_
      refine am_aload_nX 1076 C dL_law_1076 rfl 1 rfl ?_
      refine am_iload_n 1077 C dL_law_1077 rfl 0 rfl ?_
      refine am_iconst 1078 (1 : Int32) C dL_law_1078 (by decide) ?_
      refine am_iadd 1079 C dL_law_1079 ?_
      refine al_ld 1080 C V (hix 1 (by decide)) dL_law_1080 ?_
      refine al_callV 1081 (s2 := s1) (st := []) (st2 := (.int r :: [])) [.int (xs (i + 1).toNatClampNeg)] C A (by decide) ml_L_136 yc_X11_image yv_X11_image (t_X11_image (xs (i + 1).toNatClampNeg) s E1) (by decide) sh_0 rfl rfl (Nat.le_of_ble_eq_true rfl) rfl dL_law_1081 ?_
      refine am_aload_n 1084 C dL_law_1084 rfl 3 rfl ?_
      refine am_aload_nX 1085 C dL_law_1085 rfl 1 rfl ?_
      refine am_iload_n 1086 C dL_law_1086 rfl 0 rfl ?_
      refine am_iconst 1087 (1 : Int32) C dL_law_1087 (by decide) ?_
      refine am_iadd 1088 C dL_law_1088 ?_
      refine al_ld 1089 C V (hix 1 (by decide)) dL_law_1089 ?_
      refine al_callV 1090 (s2 := s2) (st := [.int r]) (st2 := (.int r :: [.int r])) [.int (xs (i + 1).toNatClampNeg)] C A (by decide) ml_L_139 yc_X12_image yv_X12_image (t_X12_image (xs (i + 1).toNatClampNeg) s1 E2) (by decide) sh_248 rfl rfl (Nat.le_of_ble_eq_true rfl) rfl dL_law_1090 ?_
      refine am_icmp_eq 1093 1121 C dL_law_1093 (by decide) (fun _ => ?_) (fun q => absurd rfl q)
      exact next s2 hI2
    by_cases c30 : u = (30 : Int32)
    · refine am_tabIn 33 1098 C dL_law_33 (by rw [c30]; decide) (by rw [c30]; decide) (by rw [c30]; rfl) (by decide) ?_
      obtain ⟨r, s1, s2, E1, E2, hI2⟩ := hS.2.2.2.2.2.2.2.2.2.2.2.2.2.2.2.2.2.2.2.2.2.2.2.2.2.2.2.2.2.2 k s (xs (i + 1).toNatClampNeg) hk hI
      refine am_aload_n 1098 C dL_law_1098 rfl 2 rfl ?_
      refine am_aload_nX 1099 C dL_law_1099 rfl 1 rfl ?_
      refine am_iload_n 1100 C dL_law_1100 rfl 0 rfl ?_
      refine am_iconst 1101 (1 : Int32) C dL_law_1101 (by decide) ?_
      refine am_iadd 1102 C dL_law_1102 ?_
      refine al_ld 1103 C V (hix 1 (by decide)) dL_law_1103 ?_
      refine al_callV 1104 (s2 := s1) (st := []) (st2 := (.int r :: [])) [.int (xs (i + 1).toNatClampNeg)] C A (by decide) ml_L_140 yc_X11_back yv_X11_back (t_X11_back (xs (i + 1).toNatClampNeg) s E1) (by decide) sh_0 rfl rfl (Nat.le_of_ble_eq_true rfl) rfl dL_law_1104 ?_
      refine am_aload_n 1107 C dL_law_1107 rfl 3 rfl ?_
      refine am_aload_nX 1108 C dL_law_1108 rfl 1 rfl ?_
      refine am_iload_n 1109 C dL_law_1109 rfl 0 rfl ?_
      refine am_iconst 1110 (1 : Int32) C dL_law_1110 (by decide) ?_
      refine am_iadd 1111 C dL_law_1111 ?_
      refine al_ld 1112 C V (hix 1 (by decide)) dL_law_1112 ?_
      refine al_callV 1113 (s2 := s2) (st := [.int r]) (st2 := (.int r :: [.int r])) [.int (xs (i + 1).toNatClampNeg)] C A (by decide) ml_L_143 yc_X12_back yv_X12_back (t_X12_back (xs (i + 1).toNatClampNeg) s1 E2) (by decide) sh_248 rfl rfl (Nat.le_of_ble_eq_true rfl) rfl dL_law_1113 ?_
      refine am_icmp_eq 1116 1121 C dL_law_1116 (by decide) (fun _ => ?_) (fun q => absurd rfl q)
      exact next s2 hI2
    have e0 := am_neI c0 0 (by decide)
    have e1 := am_neI c1 1 (by decide)
    have e2 := am_neI c2 2 (by decide)
    have e3 := am_neI c3 3 (by decide)
    have e4 := am_neI c4 4 (by decide)
    have e5 := am_neI c5 5 (by decide)
    have e6 := am_neI c6 6 (by decide)
    have e7 := am_neI c7 7 (by decide)
    have e8 := am_neI c8 8 (by decide)
    have e9 := am_neI c9 9 (by decide)
    have e10 := am_neI c10 10 (by decide)
    have e11 := am_neI c11 11 (by decide)
    have e12 := am_neI c12 12 (by decide)
    have e13 := am_neI c13 13 (by decide)
    have e14 := am_neI c14 14 (by decide)
    have e15 := am_neI c15 15 (by decide)
    have e16 := am_neI c16 16 (by decide)
    have e17 := am_neI c17 17 (by decide)
    have e18 := am_neI c18 18 (by decide)
    have e19 := am_neI c19 19 (by decide)
    have e20 := am_neI c20 20 (by decide)
    have e21 := am_neI c21 21 (by decide)
    have e22 := am_neI c22 22 (by decide)
    have e23 := am_neI c23 23 (by decide)
    have e24 := am_neI c24 24 (by decide)
    have e25 := am_neI c25 25 (by decide)
    have e26 := am_neI c26 26 (by decide)
    have e27 := am_neI c27 27 (by decide)
    have e28 := am_neI c28 28 (by decide)
    have e29 := am_neI c29 29 (by decide)
    have e30 := am_neI c30 30 (by decide)
    refine am_tabOut 33 1121 C dL_law_33 (by omega) (by decide) ?_
    exact next s (hmono k s hI)
