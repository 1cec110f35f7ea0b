set_option maxHeartbeats 4000000 in
set_option maxRecDepth 100000 in
theorem G3_isThing_J36_ok {p : Program} {e : Env} {s : State} {m : MethodId} {args : Array Value} {below : List Frame} {meth : Method} {c : Code} {l : Launch} {φ : Nat → Nat} {tc : Nat → ClassId} {D : va_G} {s0 : State} {dR : Nat} (C : CX p s m args meth c φ tc D (AX φ) s0 cX3_isThing RX3 3) (hd : G3_isThing_dep ≤ dR) (hr : meth.sig.returnType = (some .boolean))   {q0 : Int32} {q1 : Int32} {Q : Int32 → MM → Prop}  {μ : MM}    (h : G3_isThing_J36 q0 q1 μ Q) : WX p l e (rmX dR) s m args below meth c φ tc D (AX φ) 3 0 0 (MQ below (QX φ tc D (QI Q)) args s 0 0 (AX φ)) 36 [] [.int q0, .int q1] μ := by
  unfold G3_isThing_J36 at h
  refine x_icmp_ne (tgt := 43) C dX3_isThing_36 (by decide) (fun c7 => ?_) (fun c7 => ?_)
  · have h := h.1 c7
    refine x_iconst (v := 0) C (by decide) dX3_isThing_43 ?_
    exact x_zret C hr bo_0 dX3_isThing_44 ⟨_, rfl, h⟩
  · have h := h.2 c7
    refine x_iconst (v := 1) C (by decide) dX3_isThing_39 ?_
    refine x_goto (tgt := 44) C dX3_isThing_40 (by decide) ?_
    exact x_zret C hr bo_1 dX3_isThing_44 ⟨_, rfl, h⟩
set_option maxHeartbeats 4000000 in
set_option maxRecDepth 100000 in
theorem G3_isThing_met {l : Launch} {φ : Nat → Nat} {tc : Nat → ClassId} {D : va_G} {s0 : State} (hG : GX φ tc D s0) {dR : Nat} (hd : G3_isThing_dep ≤ dR) {v0 : Int32} {v1 : Int32} {μ : MM} {Q : Int32 → MM → Prop}  (h : G3_isThing v0 v1 μ Q) : MX l φ tc D s0 dR yX3_isThing cX3_isThing 3 (some .boolean) [.int v0, .int v1] μ (QI Q) := by
  refine MX.of (own := RX3) hG plX3 rfl (Nat.le_of_ble_eq_true rfl) (fun p e s m args below meth c C hr => ?_)
  refine x_sub [(0, .int v0), (1, .int v1)] [0, 1] rfl ?_
  unfold G3_isThing at h
  refine x_ldcS (i := 0) C (by decide) rfl rfl dX3_isThing_0 ?_
  refine x_iload_n C rfl 0 rfl dX3_isThing_2 ?_
  refine x_i2c C dX3_isThing_3 ?_
  refine x_callVS (dC := GJ0_indexOf_0f7a4_dep) (i := 0) (as := [.int ((v0.toUInt32 % 65536).toInt32)]) (st := []) C rX kX (Nat.le_trans (Nat.le_of_ble_eq_true rfl) hd) (Nat.le_of_ble_eq_true rfl) (by decide) rfl tw_3_50 tw_3_49 tw_3_48 tc_3_51 tw_1_18 hyJ0 hnJ0_indexOf_0f7a4 rfl (Nat.le_of_ble_eq_true rfl) dX3_isThing_4 (GJ0_indexOf_0f7a4_met C.2.2.2.2.2.2.2.1 (Nat.le_refl _) (by decide) h) (fun r0 μ3 hq => ?_)
  obtain ⟨r4, rfl, h⟩ := hq
  refine x_st [.int r4] rfl ?_
  refine x_istore_n C [(2, .int r4), (0, .int v0), (1, .int v1)] rfl (Nat.le_of_ble_eq_true rfl) rfl dX3_isThing_7 ?_
  refine x_iload_n C rfl 0 rfl dX3_isThing_8 ?_
  refine x_bipush (v := 10) C (by decide) dX3_isThing_9 ?_
  refine x_icmp_ge (tgt := 24) C dX3_isThing_11 (by decide) (fun c5 => ?_) (fun c5 => ?_)
  · have h := h.1 c5
    refine x_iload_n C rfl 2 rfl dX3_isThing_24 ?_
    refine x_iload_n C rfl 0 rfl dX3_isThing_25 ?_
    refine x_bipush (v := 13) C (by decide) dX3_isThing_26 ?_
    refine x_icmp_eq (tgt := 35) C dX3_isThing_28 (by decide) (fun c6 => ?_) (fun c6 => ?_)
    · have h := h.1 c6
      refine x_iconst (v := 0) C (by decide) dX3_isThing_35 ?_
      refine x_sub [] [] rfl ?_
      exact G3_isThing_J36_ok C hd hr  h
    · have h := h.2 c6
      refine x_iconst (v := 1) C (by decide) dX3_isThing_31 ?_
      refine x_goto (tgt := 36) C dX3_isThing_32 (by decide) ?_
      refine x_sub [] [] rfl ?_
      exact G3_isThing_J36_ok C hd hr  h
  · have h := h.2 c5
    refine x_iload_n C rfl 0 rfl dX3_isThing_14 ?_
    refine x_if_lt (tgt := 22) C dX3_isThing_15 (by decide) (fun c8 => ?_) (fun c8 => ?_)
    · have h := h.1 c8
      refine x_iconst (v := 0) C (by decide) dX3_isThing_22 ?_
      exact x_zret C hr bo_0 dX3_isThing_23 ⟨_, rfl, h⟩
    · have h := h.2 c8
      refine x_iconst (v := 1) C (by decide) dX3_isThing_18 ?_
      refine x_goto (tgt := 23) C dX3_isThing_19 (by decide) ?_
      exact x_zret C hr bo_1 dX3_isThing_23 ⟨_, rfl, h⟩
set_option maxHeartbeats 4000000 in
set_option maxRecDepth 100000 in
theorem G3_firstWrong_J203_ok {p : Program} {e : Env} {s : State} {m : MethodId} {args : Array Value} {below : List Frame} {meth : Method} {c : Code} {l : Launch} {φ : Nat → Nat} {tc : Nat → ClassId} {D : va_G} {s0 : State} {dR : Nat} (C : CX p s m args meth c φ tc D (AX φ) s0 cX3_firstWrong RX3 10) (hd : G3_firstWrong_dep ≤ dR) (hr : meth.sig.returnType = (some .int))  {a0 : Nat} {p1 : Int32} {p2 : Int32} {p4 : Int32} {p5 : Int32} {p6 : Int32} {p7 : Int32} {p8 : Int32} {p9 : Int32} {Q : Int32 → MM → Prop} {K28 : Int32 × Int32 × Int32 × Int32 × Int32 × MM → Prop} {μ : MM} (o_a0 : Ob a0 13)  (hK28 : ∀ (z3 : Int32) (z4 : Int32) (z5 : Int32) (z6 : Int32) (z8 : Int32) (zμ : MM), K28 (z3, z4, z5, z6, z8, zμ) → WX p l e (rmX dR) s m args below meth c φ tc D (AX φ) 10 0 0 (MQ below (QX φ tc D (QI Q)) args s 0 0 (AX φ)) 28 [(0, .ref a0), (1, .int p1), (2, .int p2), (3, .int z3), (4, .int z4), (5, .int z5), (6, .int z6), (7, .int p7), (8, .int z8)] [] zμ) (h : G3_firstWrong_J203 a0 p1 p2 p4 p5 p6 p7 p8 p9 μ K28 Q) : WX p l e (rmX dR) s m args below meth c φ tc D (AX φ) 10 0 0 (MQ below (QX φ tc D (QI Q)) args s 0 0 (AX φ)) 203 [(0, .ref a0), (1, .int p1), (2, .int p2), (4, .int p4), (5, .int p5), (6, .int p6), (7, .int p7), (8, .int p8), (9, .int p9)] [] μ := by
  unfold G3_firstWrong_J203 at h
  refine x_iload C 8 rfl dX3_firstWrong_203 ?_
  refine x_callS (dC := G3_isJoining_dep) (as := [.int p9]) (st := []) C rX kX (Nat.le_trans (Nat.le_of_ble_eq_true rfl) hd) (Nat.le_of_ble_eq_true rfl) tw_3_138 tw_3_137 tc_3_139 tw_1_4 hyX3 hnX3_isJoining rfl (Nat.le_of_ble_eq_true rfl) dX3_firstWrong_205 (G3_isJoining_met C.2.2.2.2.2.2.2.1 (Nat.le_refl _)  h) (fun r0 μ37 hq => ?_)
  obtain ⟨r38, rfl, h⟩ := hq
  refine x_st [.int r38] rfl ?_
  refine x_if_eq (tgt := 250) C dX3_firstWrong_208 (by decide) (fun c39 => ?_) (fun c39 => ?_)
  · have h := h.1 c39
    refine x_iload C 7 rfl dX3_firstWrong_250 ?_
    exact x_iret C hr dX3_firstWrong_252 ⟨_, rfl, h⟩
  · have h := h.2 c39
    refine x_iload C 8 rfl dX3_firstWrong_211 ?_
    refine x_callS (dC := G3_strength_dep) (as := [.int p9]) (st := []) C rX kX (Nat.le_trans (Nat.le_of_ble_eq_true rfl) hd) (Nat.le_of_ble_eq_true rfl) tw_3_135 tw_3_134 tc_3_136 tw_1_4 hyX3 hnX3_strength rfl (Nat.le_of_ble_eq_true rfl) dX3_firstWrong_213 (G3_strength_met C.2.2.2.2.2.2.2.1 (Nat.le_refl _)  h) (fun r0 μ40 hq => ?_)
    obtain ⟨r41, rfl, h⟩ := hq
    refine x_st [.int r41] rfl ?_
    refine x_iconst (v := 3) C (by decide) dX3_firstWrong_216 ?_
    refine x_icmp_eq (tgt := 250) C dX3_firstWrong_217 (by decide) (fun c42 => ?_) (fun c42 => ?_)
    · have h := h.1 c42
      refine x_iload C 7 rfl dX3_firstWrong_250 ?_
      exact x_iret C hr dX3_firstWrong_252 ⟨_, rfl, h⟩
    · have h := h.2 c42
      refine x_iload C 8 rfl dX3_firstWrong_220 ?_
      refine x_callS (dC := G3_strength_dep) (as := [.int p9]) (st := []) C rX kX (Nat.le_trans (Nat.le_of_ble_eq_true rfl) hd) (Nat.le_of_ble_eq_true rfl) tw_3_135 tw_3_134 tc_3_136 tw_1_4 hyX3 hnX3_strength rfl (Nat.le_of_ble_eq_true rfl) dX3_firstWrong_222 (G3_strength_met C.2.2.2.2.2.2.2.1 (Nat.le_refl _)  h) (fun r0 μ43 hq => ?_)
      obtain ⟨r44, rfl, h⟩ := hq
      refine x_st [.int r44] rfl ?_
      refine x_iconst (v := 3) C (by decide) dX3_firstWrong_225 ?_
      refine x_icmp_ge (tgt := 241) C dX3_firstWrong_226 (by decide) (fun c45 => ?_) (fun c45 => ?_)
      · have h := h.1 c45
        refine x_iload C 5 rfl dX3_firstWrong_241 ?_
        refine x_istore C [(6, .int p6), (0, .ref a0), (1, .int p1), (2, .int p2), (4, .int p4), (5, .int p5), (7, .int p7), (8, .int p8), (9, .int p9)] (Nat.le_of_ble_eq_true rfl) rfl dX3_firstWrong_243 ?_
        refine x_iconst (v := 1) C (by decide) dX3_firstWrong_245 ?_
        refine x_istore_n C [(3, .int 1), (6, .int p6), (0, .ref a0), (1, .int p1), (2, .int p2), (4, .int p4), (5, .int p5), (7, .int p7), (8, .int p8), (9, .int p9)] rfl (Nat.le_of_ble_eq_true rfl) rfl dX3_firstWrong_246 ?_
        refine x_goto (tgt := 253) C dX3_firstWrong_247 (by decide) ?_
        refine x_iinc (v := (p8 + 1)) C [(8, .int (p8 + 1)), (3, .int 1), (6, .int p6), (0, .ref a0), (1, .int p1), (2, .int p2), (4, .int p4), (5, .int p5), (7, .int p7), (9, .int p9)] 8 rfl (congrArg (fun z => p8 + z) (by decide : Int32.ofInt (1) = 1)) (Nat.le_of_ble_eq_true rfl) rfl dX3_firstWrong_253 ?_
        refine x_goto (tgt := 28) C dX3_firstWrong_256 (by decide) ?_
        refine x_sub [(0, .ref a0), (1, .int p1), (2, .int p2), (3, .int 1), (4, .int p4), (5, .int p5), (6, .int p6), (7, .int p7), (8, .int (p8 + 1))] [3, 4, 5, 1, 6, 7, 2, 8, 0] rfl ?_
        exact hK28 _ _ _ _ _ _ h
      · have h := h.2 c45
        refine x_iload C 5 rfl dX3_firstWrong_229 ?_
        refine x_iconst (v := 1) C (by decide) dX3_firstWrong_231 ?_
        refine x_iload C 4 rfl dX3_firstWrong_232 ?_
        refine x_ishl C dX3_firstWrong_234 ?_
        refine x_iconst (v := (-1)) C (by decide) dX3_firstWrong_235 ?_
        refine x_ixor C dX3_firstWrong_236 ?_
        refine x_iand C dX3_firstWrong_237 ?_
        refine x_goto (tgt := 243) C dX3_firstWrong_238 (by decide) ?_
        refine x_topi (fun y46 e_y46 => ?_)
        have h := h y46 e_y46
        refine x_istore C [(6, .int y46), (0, .ref a0), (1, .int p1), (2, .int p2), (4, .int p4), (5, .int p5), (7, .int p7), (8, .int p8), (9, .int p9)] (Nat.le_of_ble_eq_true rfl) rfl dX3_firstWrong_243 ?_
        refine x_iconst (v := 1) C (by decide) dX3_firstWrong_245 ?_
        refine x_istore_n C [(3, .int 1), (6, .int y46), (0, .ref a0), (1, .int p1), (2, .int p2), (4, .int p4), (5, .int p5), (7, .int p7), (8, .int p8), (9, .int p9)] rfl (Nat.le_of_ble_eq_true rfl) rfl dX3_firstWrong_246 ?_
        refine x_goto (tgt := 253) C dX3_firstWrong_247 (by decide) ?_
        refine x_iinc (v := (p8 + 1)) C [(8, .int (p8 + 1)), (3, .int 1), (6, .int y46), (0, .ref a0), (1, .int p1), (2, .int p2), (4, .int p4), (5, .int p5), (7, .int p7), (9, .int p9)] 8 rfl (congrArg (fun z => p8 + z) (by decide : Int32.ofInt (1) = 1)) (Nat.le_of_ble_eq_true rfl) rfl dX3_firstWrong_253 ?_
        refine x_goto (tgt := 28) C dX3_firstWrong_256 (by decide) ?_
        refine x_sub [(0, .ref a0), (1, .int p1), (2, .int p2), (3, .int 1), (4, .int p4), (5, .int p5), (6, .int y46), (7, .int p7), (8, .int (p8 + 1))] [3, 4, 5, 1, 6, 7, 2, 8, 0] rfl ?_
        exact hK28 _ _ _ _ _ _ h
set_option maxHeartbeats 4000000 in
set_option maxRecDepth 100000 in
theorem G3_firstWrong_J170_ok {p : Program} {e : Env} {s : State} {m : MethodId} {args : Array Value} {below : List Frame} {meth : Method} {c : Code} {l : Launch} {φ : Nat → Nat} {tc : Nat → ClassId} {D : va_G} {s0 : State} {dR : Nat} (C : CX p s m args meth c φ tc D (AX φ) s0 cX3_firstWrong RX3 10) (hd : G3_firstWrong_dep ≤ dR) (hr : meth.sig.returnType = (some .int))  {a0 : Nat} {p1 : Int32} {p2 : Int32} {p4 : Int32} {p5 : Int32} {p6 : Int32} {p7 : Int32} {p8 : Int32} {p9 : Int32} {Q : Int32 → MM → Prop} {K28 : Int32 × Int32 × Int32 × Int32 × Int32 × MM → Prop} {μ : MM} (o_a0 : Ob a0 13)  (hK28 : ∀ (z3 : Int32) (z4 : Int32) (z5 : Int32) (z6 : Int32) (z8 : Int32) (zμ : MM), K28 (z3, z4, z5, z6, z8, zμ) → WX p l e (rmX dR) s m args below meth c φ tc D (AX φ) 10 0 0 (MQ below (QX φ tc D (QI Q)) args s 0 0 (AX φ)) 28 [(0, .ref a0), (1, .int p1), (2, .int p2), (3, .int z3), (4, .int z4), (5, .int z5), (6, .int z6), (7, .int p7), (8, .int z8)] [] zμ) (h : G3_firstWrong_J170 a0 p1 p2 p4 p5 p6 p7 p8 p9 μ K28 Q) : WX p l e (rmX dR) s m args below meth c φ tc D (AX φ) 10 0 0 (MQ below (QX φ tc D (QI Q)) args s 0 0 (AX φ)) 170 [(0, .ref a0), (1, .int p1), (2, .int p2), (4, .int p4), (5, .int p5), (6, .int p6), (7, .int p7), (8, .int p8), (9, .int p9)] [] μ := by
  unfold G3_firstWrong_J170 at h
  refine x_iload C 8 rfl dX3_firstWrong_170 ?_
  refine x_callS (dC := G3_strength_dep) (as := [.int p9]) (st := []) C rX kX (Nat.le_trans (Nat.le_of_ble_eq_true rfl) hd) (Nat.le_of_ble_eq_true rfl) tw_3_135 tw_3_134 tc_3_136 tw_1_4 hyX3 hnX3_strength rfl (Nat.le_of_ble_eq_true rfl) dX3_firstWrong_172 (G3_strength_met C.2.2.2.2.2.2.2.1 (Nat.le_refl _)  h) (fun r0 μ34 hq => ?_)
  obtain ⟨r35, rfl, h⟩ := hq
  refine x_st [.int r35] rfl ?_
  refine x_iconst (v := 3) C (by decide) dX3_firstWrong_175 ?_
  refine x_icmp_ne (tgt := 203) C dX3_firstWrong_176 (by decide) (fun c36 => ?_) (fun c36 => ?_)
  · have h := h.1 c36
    exact G3_firstWrong_J203_ok C hd hr o_a0 hK28 h
  · have h := h.2 c36
    refine x_iload C 5 rfl dX3_firstWrong_179 ?_
    refine x_iload C 4 rfl dX3_firstWrong_181 ?_
    refine x_ishr C dX3_firstWrong_183 ?_
    refine x_iconst (v := 1) C (by decide) dX3_firstWrong_184 ?_
    refine x_iand C dX3_firstWrong_185 ?_
    refine x_if_ne (tgt := 203) C dX3_firstWrong_186 (by decide) (fun c47 => ?_) (fun c47 => ?_)
    · have h := h.1 c47
      exact G3_firstWrong_J203_ok C hd hr o_a0 hK28 h
    · have h := h.2 c47
      refine x_iload C 5 rfl dX3_firstWrong_189 ?_
      refine x_iconst (v := 1) C (by decide) dX3_firstWrong_191 ?_
      refine x_iload C 4 rfl dX3_firstWrong_192 ?_
      refine x_ishl C dX3_firstWrong_194 ?_
      refine x_ior C dX3_firstWrong_195 ?_
      refine x_topi (fun y48 e_y48 => ?_)
      have h := h y48 e_y48
      refine x_istore C [(6, .int y48), (0, .ref a0), (1, .int p1), (2, .int p2), (4, .int p4), (5, .int p5), (7, .int p7), (8, .int p8), (9, .int p9)] (Nat.le_of_ble_eq_true rfl) rfl dX3_firstWrong_196 ?_
      refine x_iconst (v := 1) C (by decide) dX3_firstWrong_198 ?_
      refine x_istore_n C [(3, .int 1), (6, .int y48), (0, .ref a0), (1, .int p1), (2, .int p2), (4, .int p4), (5, .int p5), (7, .int p7), (8, .int p8), (9, .int p9)] rfl (Nat.le_of_ble_eq_true rfl) rfl dX3_firstWrong_199 ?_
      refine x_goto (tgt := 253) C dX3_firstWrong_200 (by decide) ?_
      refine x_iinc (v := (p8 + 1)) C [(8, .int (p8 + 1)), (3, .int 1), (6, .int y48), (0, .ref a0), (1, .int p1), (2, .int p2), (4, .int p4), (5, .int p5), (7, .int p7), (9, .int p9)] 8 rfl (congrArg (fun z => p8 + z) (by decide : Int32.ofInt (1) = 1)) (Nat.le_of_ble_eq_true rfl) rfl dX3_firstWrong_253 ?_
      refine x_goto (tgt := 28) C dX3_firstWrong_256 (by decide) ?_
      refine x_sub [(0, .ref a0), (1, .int p1), (2, .int p2), (3, .int 1), (4, .int p4), (5, .int p5), (6, .int y48), (7, .int p7), (8, .int (p8 + 1))] [3, 4, 5, 1, 6, 7, 2, 8, 0] rfl ?_
      exact hK28 _ _ _ _ _ _ h
set_option maxHeartbeats 4000000 in
set_option maxRecDepth 100000 in
theorem G3_firstWrong_J149_ok {p : Program} {e : Env} {s : State} {m : MethodId} {args : Array Value} {below : List Frame} {meth : Method} {c : Code} {l : Launch} {φ : Nat → Nat} {tc : Nat → ClassId} {D : va_G} {s0 : State} {dR : Nat} (C : CX p s m args meth c φ tc D (AX φ) s0 cX3_firstWrong RX3 10) (hd : G3_firstWrong_dep ≤ dR) (hr : meth.sig.returnType = (some .int))  {a0 : Nat} {p1 : Int32} {p2 : Int32} {p3 : Int32} {p4 : Int32} {p5 : Int32} {p6 : Int32} {p7 : Int32} {p8 : Int32} {p9 : Int32} {Q : Int32 → MM → Prop} {K28 : Int32 × Int32 × Int32 × Int32 × Int32 × MM → Prop} {μ : MM} (o_a0 : Ob a0 13)  (hK28 : ∀ (z3 : Int32) (z4 : Int32) (z5 : Int32) (z6 : Int32) (z8 : Int32) (zμ : MM), K28 (z3, z4, z5, z6, z8, zμ) → WX p l e (rmX dR) s m args below meth c φ tc D (AX φ) 10 0 0 (MQ below (QX φ tc D (QI Q)) args s 0 0 (AX φ)) 28 [(0, .ref a0), (1, .int p1), (2, .int p2), (3, .int z3), (4, .int z4), (5, .int z5), (6, .int z6), (7, .int p7), (8, .int z8)] [] zμ) (h : G3_firstWrong_J149 a0 p1 p2 p3 p4 p5 p6 p7 p8 p9 μ K28 Q) : WX p l e (rmX dR) s m args below meth c φ tc D (AX φ) 10 0 0 (MQ below (QX φ tc D (QI Q)) args s 0 0 (AX φ)) 149 [(0, .ref a0), (1, .int p1), (2, .int p2), (3, .int p3), (4, .int p4), (5, .int p5), (6, .int p6), (7, .int p7), (8, .int p8), (9, .int p9)] [] μ := by
  unfold G3_firstWrong_J149 at h
  refine x_iload C 9 rfl dX3_firstWrong_149 ?_
  refine x_bipush (v := 41) C (by decide) dX3_firstWrong_151 ?_
  refine x_icmp_ne (tgt := 170) C dX3_firstWrong_153 (by decide) (fun c33 => ?_) (fun c33 => ?_)
  · have h := h.1 c33
    refine x_sub [(0, .ref a0), (1, .int p1), (2, .int p2), (4, .int p4), (5, .int p5), (6, .int p6), (7, .int p7), (8, .int p8), (9, .int p9)] [0, 1, 2, 4, 5, 6, 7, 8, 9] rfl ?_
    exact G3_firstWrong_J170_ok C hd hr o_a0 hK28 h
  · have h := h.2 c33
    refine x_iload C 5 rfl dX3_firstWrong_156 ?_
    refine x_if_le (tgt := 170) C dX3_firstWrong_158 (by decide) (fun c49 => ?_) (fun c49 => ?_)
    · have h := h.1 c49
      refine x_sub [(0, .ref a0), (1, .int p1), (2, .int p2), (4, .int p4), (5, .int p5), (6, .int p6), (7, .int p7), (8, .int p8), (9, .int p9)] [0, 1, 2, 4, 5, 6, 7, 8, 9] rfl ?_
      exact G3_firstWrong_J170_ok C hd hr o_a0 hK28 h
    · have h := h.2 c49
      refine x_iinc (v := (p5 + (-1))) C [(5, .int (p5 + (-1))), (0, .ref a0), (1, .int p1), (2, .int p2), (3, .int p3), (4, .int p4), (6, .int p6), (7, .int p7), (8, .int p8), (9, .int p9)] 5 rfl (congrArg (fun z => p5 + z) (by decide : Int32.ofInt (-1) = (-1))) (Nat.le_of_ble_eq_true rfl) rfl dX3_firstWrong_161 ?_
      refine x_iconst (v := 3) C (by decide) dX3_firstWrong_164 ?_
      refine x_istore C [(4, .int 3), (5, .int (p5 + (-1))), (0, .ref a0), (1, .int p1), (2, .int p2), (3, .int p3), (6, .int p6), (7, .int p7), (8, .int p8), (9, .int p9)] (Nat.le_of_ble_eq_true rfl) rfl dX3_firstWrong_165 ?_
      refine x_goto (tgt := 253) C dX3_firstWrong_167 (by decide) ?_
      refine x_iinc (v := (p8 + 1)) C [(8, .int (p8 + 1)), (4, .int 3), (5, .int (p5 + (-1))), (0, .ref a0), (1, .int p1), (2, .int p2), (3, .int p3), (6, .int p6), (7, .int p7), (9, .int p9)] 8 rfl (congrArg (fun z => p8 + z) (by decide : Int32.ofInt (1) = 1)) (Nat.le_of_ble_eq_true rfl) rfl dX3_firstWrong_253 ?_
      refine x_goto (tgt := 28) C dX3_firstWrong_256 (by decide) ?_
      refine x_sub [(0, .ref a0), (1, .int p1), (2, .int p2), (3, .int p3), (4, .int 3), (5, .int (p5 + (-1))), (6, .int p6), (7, .int p7), (8, .int (p8 + 1))] [3, 4, 5, 6, 1, 2, 7, 8, 0] rfl ?_
      exact hK28 _ _ _ _ _ _ h
set_option maxHeartbeats 4000000 in
set_option maxRecDepth 100000 in
theorem G3_firstWrong_J92_ok {p : Program} {e : Env} {s : State} {m : MethodId} {args : Array Value} {below : List Frame} {meth : Method} {c : Code} {l : Launch} {φ : Nat → Nat} {tc : Nat → ClassId} {D : va_G} {s0 : State} {dR : Nat} (C : CX p s m args meth c φ tc D (AX φ) s0 cX3_firstWrong RX3 10) (hd : G3_firstWrong_dep ≤ dR) (hr : meth.sig.returnType = (some .int))  {a0 : Nat} {p1 : Int32} {p2 : Int32} {p5 : Int32} {p6 : Int32} {p7 : Int32} {p8 : Int32} {p9 : Int32} {Q : Int32 → MM → Prop} {K28 : Int32 × Int32 × Int32 × Int32 × Int32 × MM → Prop} {μ : MM} (o_a0 : Ob a0 13)  (hK28 : ∀ (z3 : Int32) (z4 : Int32) (z5 : Int32) (z6 : Int32) (z8 : Int32) (zμ : MM), K28 (z3, z4, z5, z6, z8, zμ) → WX p l e (rmX dR) s m args below meth c φ tc D (AX φ) 10 0 0 (MQ below (QX φ tc D (QI Q)) args s 0 0 (AX φ)) 28 [(0, .ref a0), (1, .int p1), (2, .int p2), (3, .int z3), (4, .int z4), (5, .int z5), (6, .int z6), (7, .int p7), (8, .int z8)] [] zμ) (h : G3_firstWrong_J92 a0 p1 p2 p5 p6 p7 p8 p9 μ K28 Q) : WX p l e (rmX dR) s m args below meth c φ tc D (AX φ) 10 0 0 (MQ below (QX φ tc D (QI Q)) args s 0 0 (AX φ)) 92 [(0, .ref a0), (1, .int p1), (2, .int p2), (5, .int p5), (6, .int p6), (7, .int p7), (8, .int p8), (9, .int p9)] [] μ := by
  unfold G3_firstWrong_J92 at h
  refine x_iload C 7 rfl dX3_firstWrong_92 ?_
  refine x_callS (dC := G3_isDigit_dep) (as := [.int p9]) (st := []) C rX kX (Nat.le_trans (Nat.le_of_ble_eq_true rfl) hd) (Nat.le_of_ble_eq_true rfl) tw_3_42 tw_3_41 tc_3_43 tw_1_4 hyX3 hnX3_isDigit rfl (Nat.le_of_ble_eq_true rfl) dX3_firstWrong_94 (G3_isDigit_met C.2.2.2.2.2.2.2.1 (Nat.le_refl _)  h) (fun r0 μ55 hq => ?_)
  obtain ⟨r56, rfl, h⟩ := hq
  refine x_st [.int r56] rfl ?_
  refine x_if_eq (tgt := 104) C dX3_firstWrong_97 (by decide) (fun c57 => ?_) (fun c57 => ?_)
  · have h := h.1 c57
    refine x_iconst (v := 3) C (by decide) dX3_firstWrong_104 ?_
    refine x_istore C [(4, .int 3), (0, .ref a0), (1, .int p1), (2, .int p2), (5, .int p5), (6, .int p6), (7, .int p7), (8, .int p8), (9, .int p9)] (Nat.le_of_ble_eq_true rfl) rfl dX3_firstWrong_105 ?_
    refine x_iconst (v := 0) C (by decide) dX3_firstWrong_107 ?_
    refine x_istore_n C [(3, .int 0), (4, .int 3), (0, .ref a0), (1, .int p1), (2, .int p2), (5, .int p5), (6, .int p6), (7, .int p7), (8, .int p8), (9, .int p9)] rfl (Nat.le_of_ble_eq_true rfl) rfl dX3_firstWrong_108 ?_
    refine x_goto (tgt := 253) C dX3_firstWrong_109 (by decide) ?_
    refine x_iinc (v := (p8 + 1)) C [(8, .int (p8 + 1)), (3, .int 0), (4, .int 3), (0, .ref a0), (1, .int p1), (2, .int p2), (5, .int p5), (6, .int p6), (7, .int p7), (9, .int p9)] 8 rfl (congrArg (fun z => p8 + z) (by decide : Int32.ofInt (1) = 1)) (Nat.le_of_ble_eq_true rfl) rfl dX3_firstWrong_253 ?_
    refine x_goto (tgt := 28) C dX3_firstWrong_256 (by decide) ?_
    refine x_sub [(0, .ref a0), (1, .int p1), (2, .int p2), (3, .int 0), (4, .int 3), (5, .int p5), (6, .int p6), (7, .int p7), (8, .int (p8 + 1))] [3, 4, 5, 1, 2, 6, 7, 8, 0] rfl ?_
    exact hK28 _ _ _ _ _ _ h
  · have h := h.2 c57
    refine x_iconst (v := 1) C (by decide) dX3_firstWrong_100 ?_
    refine x_goto (tgt := 105) C dX3_firstWrong_101 (by decide) ?_
    refine x_istore C [(4, .int 1), (0, .ref a0), (1, .int p1), (2, .int p2), (5, .int p5), (6, .int p6), (7, .int p7), (8, .int p8), (9, .int p9)] (Nat.le_of_ble_eq_true rfl) rfl dX3_firstWrong_105 ?_
    refine x_iconst (v := 0) C (by decide) dX3_firstWrong_107 ?_
    refine x_istore_n C [(3, .int 0), (4, .int 1), (0, .ref a0), (1, .int p1), (2, .int p2), (5, .int p5), (6, .int p6), (7, .int p7), (8, .int p8), (9, .int p9)] rfl (Nat.le_of_ble_eq_true rfl) rfl dX3_firstWrong_108 ?_
    refine x_goto (tgt := 253) C dX3_firstWrong_109 (by decide) ?_
    refine x_iinc (v := (p8 + 1)) C [(8, .int (p8 + 1)), (3, .int 0), (4, .int 1), (0, .ref a0), (1, .int p1), (2, .int p2), (5, .int p5), (6, .int p6), (7, .int p7), (9, .int p9)] 8 rfl (congrArg (fun z => p8 + z) (by decide : Int32.ofInt (1) = 1)) (Nat.le_of_ble_eq_true rfl) rfl dX3_firstWrong_253 ?_
    refine x_goto (tgt := 28) C dX3_firstWrong_256 (by decide) ?_
    refine x_sub [(0, .ref a0), (1, .int p1), (2, .int p2), (3, .int 0), (4, .int 1), (5, .int p5), (6, .int p6), (7, .int p7), (8, .int (p8 + 1))] [3, 4, 5, 1, 2, 6, 7, 8, 0] rfl ?_
    exact hK28 _ _ _ _ _ _ h
set_option maxHeartbeats 4000000 in
set_option maxRecDepth 100000 in
theorem G3_firstWrong_J75_ok {p : Program} {e : Env} {s : State} {m : MethodId} {args : Array Value} {below : List Frame} {meth : Method} {c : Code} {l : Launch} {φ : Nat → Nat} {tc : Nat → ClassId} {D : va_G} {s0 : State} {dR : Nat} (C : CX p s m args meth c φ tc D (AX φ) s0 cX3_firstWrong RX3 10) (hd : G3_firstWrong_dep ≤ dR) (hr : meth.sig.returnType = (some .int))  {a0 : Nat} {p1 : Int32} {p2 : Int32} {p3 : Int32} {p4 : Int32} {p5 : Int32} {p6 : Int32} {p7 : Int32} {p8 : Int32} {p9 : Int32} {Q : Int32 → MM → Prop} {K28 : Int32 × Int32 × Int32 × Int32 × Int32 × MM → Prop} {μ : MM} (o_a0 : Ob a0 13)  (hK28 : ∀ (z3 : Int32) (z4 : Int32) (z5 : Int32) (z6 : Int32) (z8 : Int32) (zμ : MM), K28 (z3, z4, z5, z6, z8, zμ) → WX p l e (rmX dR) s m args below meth c φ tc D (AX φ) 10 0 0 (MQ below (QX φ tc D (QI Q)) args s 0 0 (AX φ)) 28 [(0, .ref a0), (1, .int p1), (2, .int p2), (3, .int z3), (4, .int z4), (5, .int z5), (6, .int z6), (7, .int p7), (8, .int z8)] [] zμ) (h : G3_firstWrong_J75 a0 p1 p2 p3 p4 p5 p6 p7 p8 p9 μ K28 Q) : WX p l e (rmX dR) s m args below meth c φ tc D (AX φ) 10 0 0 (MQ below (QX φ tc D (QI Q)) args s 0 0 (AX φ)) 75 [(0, .ref a0), (1, .int p1), (2, .int p2), (3, .int p3), (4, .int p4), (5, .int p5), (6, .int p6), (7, .int p7), (8, .int p8), (9, .int p9)] [] μ := by
  unfold G3_firstWrong_J75 at h
  refine x_iload C 9 rfl dX3_firstWrong_75 ?_
  refine x_callS (dC := G3_isDigit_dep) (as := [.int p9]) (st := []) C rX kX (Nat.le_trans (Nat.le_of_ble_eq_true rfl) hd) (Nat.le_of_ble_eq_true rfl) tw_3_42 tw_3_41 tc_3_43 tw_1_4 hyX3 hnX3_isDigit rfl (Nat.le_of_ble_eq_true rfl) dX3_firstWrong_77 (G3_isDigit_met C.2.2.2.2.2.2.2.1 (Nat.le_refl _)  h) (fun r0 μ52 hq => ?_)
  obtain ⟨r53, rfl, h⟩ := hq
  refine x_st [.int r53] rfl ?_
  refine x_if_ne (tgt := 92) C dX3_firstWrong_80 (by decide) (fun c54 => ?_) (fun c54 => ?_)
  · have h := h.1 c54
    refine x_sub [(0, .ref a0), (1, .int p1), (2, .int p2), (5, .int p5), (6, .int p6), (7, .int p7), (8, .int p8), (9, .int p9)] [0, 1, 2, 5, 6, 7, 8, 9] rfl ?_
    exact G3_firstWrong_J92_ok C hd hr o_a0 hK28 h
  · have h := h.2 c54
    refine x_iload C 9 rfl dX3_firstWrong_83 ?_
    refine x_iload_n C rfl 2 rfl dX3_firstWrong_85 ?_
    refine x_callS (dC := G3_isThing_dep) (as := [.int p9, .int p2]) (st := []) C rX kX (Nat.le_trans (Nat.le_of_ble_eq_true rfl) hd) (Nat.le_of_ble_eq_true rfl) tw_3_45 tw_3_44 tc_3_46 tw_1_4 hyX3 hnX3_isThing rfl (Nat.le_of_ble_eq_true rfl) dX3_firstWrong_86 (G3_isThing_met C.2.2.2.2.2.2.2.1 (Nat.le_refl _)  h) (fun r0 μ58 hq => ?_)
    obtain ⟨r59, rfl, h⟩ := hq
    refine x_st [.int r59] rfl ?_
    refine x_if_eq (tgt := 112) C dX3_firstWrong_89 (by decide) (fun c60 => ?_) (fun c60 => ?_)
    · have h := h.1 c60
      refine x_iload C 9 rfl dX3_firstWrong_112 ?_
      refine x_bipush (v := 33) C (by decide) dX3_firstWrong_114 ?_
      refine x_icmp_eq (tgt := 253) C dX3_firstWrong_116 (by decide) (fun c61 => ?_) (fun c61 => ?_)
      · have h := h.1 c61
        refine x_iinc (v := (p8 + 1)) C [(8, .int (p8 + 1)), (0, .ref a0), (1, .int p1), (2, .int p2), (3, .int p3), (4, .int p4), (5, .int p5), (6, .int p6), (7, .int p7), (9, .int p9)] 8 rfl (congrArg (fun z => p8 + z) (by decide : Int32.ofInt (1) = 1)) (Nat.le_of_ble_eq_true rfl) rfl dX3_firstWrong_253 ?_
        refine x_goto (tgt := 28) C dX3_firstWrong_256 (by decide) ?_
        refine x_sub [(0, .ref a0), (1, .int p1), (2, .int p2), (3, .int p3), (4, .int p4), (5, .int p5), (6, .int p6), (7, .int p7), (8, .int (p8 + 1))] [1, 2, 3, 4, 5, 6, 7, 8, 0] rfl ?_
        exact hK28 _ _ _ _ _ _ h
      · have h := h.2 c61
        refine x_iload C 9 rfl dX3_firstWrong_119 ?_
        refine x_bipush (v := 45) C (by decide) dX3_firstWrong_121 ?_
        refine x_icmp_eq (tgt := 253) C dX3_firstWrong_123 (by decide) (fun c62 => ?_) (fun c62 => ?_)
        · have h := h.1 c62
          refine x_iinc (v := (p8 + 1)) C [(8, .int (p8 + 1)), (0, .ref a0), (1, .int p1), (2, .int p2), (3, .int p3), (4, .int p4), (5, .int p5), (6, .int p6), (7, .int p7), (9, .int p9)] 8 rfl (congrArg (fun z => p8 + z) (by decide : Int32.ofInt (1) = 1)) (Nat.le_of_ble_eq_true rfl) rfl dX3_firstWrong_253 ?_
          refine x_goto (tgt := 28) C dX3_firstWrong_256 (by decide) ?_
          refine x_sub [(0, .ref a0), (1, .int p1), (2, .int p2), (3, .int p3), (4, .int p4), (5, .int p5), (6, .int p6), (7, .int p7), (8, .int (p8 + 1))] [1, 2, 3, 4, 5, 6, 7, 8, 0] rfl ?_
          exact hK28 _ _ _ _ _ _ h
        · have h := h.2 c62
          refine x_iload C 8 rfl dX3_firstWrong_126 ?_
          exact x_iret C hr dX3_firstWrong_128 ⟨_, rfl, h⟩
    · have h := h.2 c60
      refine x_sub [(0, .ref a0), (1, .int p1), (2, .int p2), (5, .int p5), (6, .int p6), (7, .int p7), (8, .int p8), (9, .int p9)] [0, 1, 2, 5, 6, 7, 8, 9] rfl ?_
      exact G3_firstWrong_J92_ok C hd hr o_a0 hK28 h
set_option maxHeartbeats 4000000 in
set_option maxRecDepth 100000 in
theorem G3_firstWrong_L28_b {p : Program} {e : Env} {s : State} {m : MethodId} {args : Array Value} {below : List Frame} {meth : Method} {c : Code} {l : Launch} {φ : Nat → Nat} {tc : Nat → ClassId} {D : va_G} {s0 : State} {dR : Nat} (C : CX p s m args meth c φ tc D (AX φ) s0 cX3_firstWrong RX3 10) (hd : G3_firstWrong_dep ≤ dR) (hr : meth.sig.returnType = (some .int)) {a0 : Nat} {p1 : Int32} {p2 : Int32} {p7 : Int32} {Q : Int32 → MM → Prop} {K28 : Int32 × Int32 × Int32 × Int32 × Int32 × MM → Prop} {x : Int32 × Int32 × Int32 × Int32 × Int32 × MM} (o_a0 : Ob a0 13)  (hK28 : ∀ (z3 : Int32) (z4 : Int32) (z5 : Int32) (z6 : Int32) (z8 : Int32) (zμ : MM), K28 (z3, z4, z5, z6, z8, zμ) → WX p l e (rmX dR) s m args below meth c φ tc D (AX φ) 10 0 0 (MQ below (QX φ tc D (QI Q)) args s 0 0 (AX φ)) 28 [(0, .ref a0), (1, .int p1), (2, .int p2), (3, .int z3), (4, .int z4), (5, .int z5), (6, .int z6), (7, .int p7), (8, .int z8)] [] zμ) (h : G3_firstWrong_L28 a0 p1 p2 p7 Q K28 x) : WX p l e (rmX dR) s m args below meth c φ tc D (AX φ) 10 0 0 (MQ below (QX φ tc D (QI Q)) args s 0 0 (AX φ)) 28 [(0, .ref a0), (1, .int p1), (2, .int p2), (3, .int x.1), (4, .int x.2.1), (5, .int x.2.2.1), (6, .int x.2.2.2.1), (7, .int p7), (8, .int x.2.2.2.2.1)] [] x.2.2.2.2.2 := by
  unfold G3_firstWrong_L28 at h
  refine x_iload C 8 rfl dX3_firstWrong_28 ?_
  refine x_iload C 7 rfl dX3_firstWrong_30 ?_
  refine x_icmp_ge (tgt := 259) C dX3_firstWrong_32 (by decide) (fun c23 => ?_) (fun c23 => ?_)
  · have h := h.1 c23
    refine x_iload_n C rfl 1 rfl dX3_firstWrong_259 ?_
    refine x_bipush (v := 40) C (by decide) dX3_firstWrong_260 ?_
    refine x_icmp_le (tgt := 268) C dX3_firstWrong_262 (by decide) (fun c24 => ?_) (fun c24 => ?_)
    · have h := h.1 c24
      refine x_iload_n C rfl 3 rfl dX3_firstWrong_268 ?_
      refine x_if_ne (tgt := 277) C dX3_firstWrong_269 (by decide) (fun c25 => ?_) (fun c25 => ?_)
      · have h := h.1 c25
        refine x_iload_n C rfl 1 rfl dX3_firstWrong_277 ?_
        refine x_goto (tgt := 282) C dX3_firstWrong_278 (by decide) ?_
        exact x_iret C hr dX3_firstWrong_282 ⟨_, rfl, h⟩
      · have h := h.2 c25
        refine x_iload C 5 rfl dX3_firstWrong_272 ?_
        refine x_if_le (tgt := 281) C dX3_firstWrong_274 (by decide) (fun c26 => ?_) (fun c26 => ?_)
        · have h := h.1 c26
          refine x_iconst (v := (-1)) C (by decide) dX3_firstWrong_281 ?_
          exact x_iret C hr dX3_firstWrong_282 ⟨_, rfl, h⟩
        · have h := h.2 c26
          refine x_iload_n C rfl 1 rfl dX3_firstWrong_277 ?_
          refine x_goto (tgt := 282) C dX3_firstWrong_278 (by decide) ?_
          exact x_iret C hr dX3_firstWrong_282 ⟨_, rfl, h⟩
    · have h := h.2 c24
      refine x_bipush (v := 40) C (by decide) dX3_firstWrong_265 ?_
      exact x_iret C hr dX3_firstWrong_267 ⟨_, rfl, h⟩
  · have h := h.2 c23
    refine x_aload_n C rfl 0 rfl dX3_firstWrong_35 ?_
    refine x_iload C 8 rfl dX3_firstWrong_36 ?_
    obtain ⟨c27, h⟩ := h
    refine x_iald C o_a0.1 o_a0.2 c27 rfl dX3_firstWrong_38 ?_
    refine x_topi (fun y28 e_y28 => ?_)
    have h := h y28 e_y28
    refine x_istore C [(9, .int y28), (0, .ref a0), (1, .int p1), (2, .int p2), (3, .int x.1), (4, .int x.2.1), (5, .int x.2.2.1), (6, .int x.2.2.2.1), (7, .int p7), (8, .int x.2.2.2.2.1)] (Nat.le_of_ble_eq_true rfl) rfl dX3_firstWrong_39 ?_
    refine x_iload_n C rfl 4 rfl dX3_firstWrong_41 ?_
    refine x_if_eq (tgt := 129) C dX3_firstWrong_42 (by decide) (fun c29 => ?_) (fun c29 => ?_)
    · have h := h.1 c29
      refine x_iload C 0 rfl dX3_firstWrong_129 ?_
      refine x_callS (dC := G3_isDigit_dep) (as := [.int y28]) (st := []) C rX kX (Nat.le_trans (Nat.le_of_ble_eq_true rfl) hd) (Nat.le_of_ble_eq_true rfl) tw_3_42 tw_3_41 tc_3_43 tw_1_4 hyX3 hnX3_isDigit rfl (Nat.le_of_ble_eq_true rfl) dX3_firstWrong_131 (G3_isDigit_met C.2.2.2.2.2.2.2.1 (Nat.le_refl _)  h) (fun r0 μ30 hq => ?_)
      obtain ⟨r31, rfl, h⟩ := hq
      refine x_st [.int r31] rfl ?_
      refine x_if_eq (tgt := 149) C dX3_firstWrong_134 (by decide) (fun c32 => ?_) (fun c32 => ?_)
      · have h := h.1 c32
        refine x_sub [(0, .ref a0), (1, .int p1), (2, .int p2), (3, .int x.1), (4, .int x.2.1), (5, .int x.2.2.1), (6, .int x.2.2.2.1), (7, .int p7), (8, .int x.2.2.2.2.1), (9, .int y28)] [1, 2, 3, 4, 5, 6, 7, 8, 9, 0] rfl ?_
        exact G3_firstWrong_J149_ok C hd hr o_a0 hK28 h
      · have h := h.2 c32
        refine x_iload C 5 rfl dX3_firstWrong_137 ?_
        refine x_iconst (v := 3) C (by decide) dX3_firstWrong_139 ?_
        refine x_icmp_ge (tgt := 149) C dX3_firstWrong_140 (by decide) (fun c50 => ?_) (fun c50 => ?_)
        · have h := h.1 c50
          refine x_sub [(0, .ref a0), (1, .int p1), (2, .int p2), (3, .int x.1), (4, .int x.2.1), (5, .int x.2.2.1), (6, .int x.2.2.2.1), (7, .int p7), (8, .int x.2.2.2.2.1), (9, .int y28)] [1, 2, 3, 4, 5, 6, 7, 8, 9, 0] rfl ?_
          exact G3_firstWrong_J149_ok C hd hr o_a0 hK28 h
        · have h := h.2 c50
          refine x_iinc (v := (x.2.1 + 1)) C [(4, .int (x.2.1 + 1)), (9, .int y28), (0, .ref a0), (1, .int p1), (2, .int p2), (3, .int x.1), (5, .int x.2.2.1), (6, .int x.2.2.2.1), (7, .int p7), (8, .int x.2.2.2.2.1)] 5 rfl (congrArg (fun z => x.2.1 + z) (by decide : Int32.ofInt (1) = 1)) (Nat.le_of_ble_eq_true rfl) rfl dX3_firstWrong_143 ?_
          refine x_goto (tgt := 253) C dX3_firstWrong_146 (by decide) ?_
          refine x_iinc (v := (x.2.2.2.2.1 + 1)) C [(8, .int (x.2.2.2.2.1 + 1)), (4, .int (x.2.1 + 1)), (9, .int y28), (0, .ref a0), (1, .int p1), (2, .int p2), (3, .int x.1), (5, .int x.2.2.1), (6, .int x.2.2.2.1), (7, .int p7)] 9 rfl (congrArg (fun z => x.2.2.2.2.1 + z) (by decide : Int32.ofInt (1) = 1)) (Nat.le_of_ble_eq_true rfl) rfl dX3_firstWrong_253 ?_
          refine x_goto (tgt := 28) C dX3_firstWrong_256 (by decide) ?_
          refine x_sub [(0, .ref a0), (1, .int p1), (2, .int p2), (3, .int x.1), (4, .int (x.2.1 + 1)), (5, .int x.2.2.1), (6, .int x.2.2.2.1), (7, .int p7), (8, .int (x.2.2.2.2.1 + 1))] [3, 4, 5, 6, 1, 7, 8, 9, 0] rfl ?_
          exact hK28 _ _ _ _ _ _ h
    · have h := h.2 c29
      refine x_iload C 0 rfl dX3_firstWrong_45 ?_
      refine x_bipush (v := 40) C (by decide) dX3_firstWrong_47 ?_
      refine x_icmp_ne (tgt := 75) C dX3_firstWrong_49 (by decide) (fun c51 => ?_) (fun c51 => ?_)
      · have h := h.1 c51
        refine x_sub [(0, .ref a0), (1, .int p1), (2, .int p2), (3, .int x.1), (4, .int x.2.1), (5, .int x.2.2.1), (6, .int x.2.2.2.1), (7, .int p7), (8, .int x.2.2.2.2.1), (9, .int y28)] [1, 2, 3, 4, 5, 6, 7, 8, 9, 0] rfl ?_
        exact G3_firstWrong_J75_ok C hd hr o_a0 hK28 h
      · have h := h.2 c51
        refine x_iload C 6 rfl dX3_firstWrong_52 ?_
        refine x_iconst (v := 5) C (by decide) dX3_firstWrong_54 ?_
        refine x_icmp_ge (tgt := 75) C dX3_firstWrong_55 (by decide) (fun c63 => ?_) (fun c63 => ?_)
        · have h := h.1 c63
          refine x_sub [(0, .ref a0), (1, .int p1), (2, .int p2), (3, .int x.1), (4, .int x.2.1), (5, .int x.2.2.1), (6, .int x.2.2.2.1), (7, .int p7), (8, .int x.2.2.2.2.1), (9, .int y28)] [1, 2, 3, 4, 5, 6, 7, 8, 9, 0] rfl ?_
          exact G3_firstWrong_J75_ok C hd hr o_a0 hK28 h
        · have h := h.2 c63
          refine x_iinc (v := (x.2.2.1 + 1)) C [(5, .int (x.2.2.1 + 1)), (9, .int y28), (0, .ref a0), (1, .int p1), (2, .int p2), (3, .int x.1), (4, .int x.2.1), (6, .int x.2.2.2.1), (7, .int p7), (8, .int x.2.2.2.2.1)] 6 rfl (congrArg (fun z => x.2.2.1 + z) (by decide : Int32.ofInt (1) = 1)) (Nat.le_of_ble_eq_true rfl) rfl dX3_firstWrong_58 ?_
          refine x_iload C 7 rfl dX3_firstWrong_61 ?_
          refine x_iconst (v := 1) C (by decide) dX3_firstWrong_63 ?_
          refine x_iload C 0 rfl dX3_firstWrong_64 ?_
          refine x_ishl C dX3_firstWrong_66 ?_
          refine x_iconst (v := (-1)) C (by decide) dX3_firstWrong_67 ?_
          refine x_ixor C dX3_firstWrong_68 ?_
          refine x_iand C dX3_firstWrong_69 ?_
          refine x_topi (fun y64 e_y64 => ?_)
          have h := h y64 e_y64
          refine x_istore C [(6, .int y64), (5, .int (x.2.2.1 + 1)), (9, .int y28), (0, .ref a0), (1, .int p1), (2, .int p2), (3, .int x.1), (4, .int x.2.1), (7, .int p7), (8, .int x.2.2.2.2.1)] (Nat.le_of_ble_eq_true rfl) rfl dX3_firstWrong_70 ?_
          refine x_goto (tgt := 253) C dX3_firstWrong_72 (by decide) ?_
          refine x_iinc (v := (x.2.2.2.2.1 + 1)) C [(8, .int (x.2.2.2.2.1 + 1)), (6, .int y64), (5, .int (x.2.2.1 + 1)), (9, .int y28), (0, .ref a0), (1, .int p1), (2, .int p2), (3, .int x.1), (4, .int x.2.1), (7, .int p7)] 9 rfl (congrArg (fun z => x.2.2.2.2.1 + z) (by decide : Int32.ofInt (1) = 1)) (Nat.le_of_ble_eq_true rfl) rfl dX3_firstWrong_253 ?_
          refine x_goto (tgt := 28) C dX3_firstWrong_256 (by decide) ?_
          refine x_sub [(0, .ref a0), (1, .int p1), (2, .int p2), (3, .int x.1), (4, .int x.2.1), (5, .int (x.2.2.1 + 1)), (6, .int y64), (7, .int p7), (8, .int (x.2.2.2.2.1 + 1))] [4, 5, 6, 7, 8, 2, 1, 9, 0] rfl ?_
          exact hK28 _ _ _ _ _ _ h
theorem G3_firstWrong_L28_ok {p : Program} {e : Env} {s : State} {m : MethodId} {args : Array Value} {below : List Frame} {meth : Method} {c : Code} {l : Launch} {φ : Nat → Nat} {tc : Nat → ClassId} {D : va_G} {s0 : State} {dR : Nat} (C : CX p s m args meth c φ tc D (AX φ) s0 cX3_firstWrong RX3 10) (hd : G3_firstWrong_dep ≤ dR) (hr : meth.sig.returnType = (some .int)) {a0 : Nat} {p1 : Int32} {p2 : Int32} {p7 : Int32} {Q : Int32 → MM → Prop}  {x : Int32 × Int32 × Int32 × Int32 × Int32 × MM} (o_a0 : Ob a0 13)   (h : Lp (G3_firstWrong_L28 a0 p1 p2 p7 Q) x) : WX p l e (rmX dR) s m args below meth c φ tc D (AX φ) 10 0 0 (MQ below (QX φ tc D (QI Q)) args s 0 0 (AX φ)) 28 [(0, .ref a0), (1, .int p1), (2, .int p2), (3, .int x.1), (4, .int x.2.1), (5, .int x.2.2.1), (6, .int x.2.2.2.1), (7, .int p7), (8, .int x.2.2.2.2.1)] [] x.2.2.2.2.2 := by
  obtain ⟨n, h⟩ := h
  induction n generalizing x with
  | zero => exact h.elim
  | succ n ih => exact G3_firstWrong_L28_b C hd hr o_a0  (fun z3 z4 z5 z6 z8 zμ hz => by have q := ih hz; exact q) h
set_option maxHeartbeats 4000000 in
set_option maxRecDepth 100000 in
theorem G3_firstWrong_met {l : Launch} {φ : Nat → Nat} {tc : Nat → ClassId} {D : va_G} {s0 : State} (hG : GX φ tc D s0) {dR : Nat} (hd : G3_firstWrong_dep ≤ dR) {a0 : Nat} {v1 : Int32} {v2 : Int32} {μ : MM} {Q : Int32 → MM → Prop} (o_a0 : Ob a0 13) (h : G3_firstWrong a0 v1 v2 μ Q) : MX l φ tc D s0 dR yX3_firstWrong cX3_firstWrong 10 (some .int) [.ref a0, .int v1, .int v2] μ (QI Q) := by
  refine MX.of (own := RX3) hG plX3 rfl (Nat.le_of_ble_eq_true rfl) (fun p e s m args below meth c C hr => ?_)
  refine x_sub [(0, .ref a0), (1, .int v1), (2, .int v2)] [0, 1, 2] rfl ?_
  unfold G3_firstWrong at h
  refine x_iconst (v := 1) C (by decide) dX3_firstWrong_0 ?_
  refine x_istore_n C [(3, .int 1), (0, .ref a0), (1, .int v1), (2, .int v2)] rfl (Nat.le_of_ble_eq_true rfl) rfl dX3_firstWrong_1 ?_
  refine x_iconst (v := 0) C (by decide) dX3_firstWrong_2 ?_
  refine x_istore C [(4, .int 0), (3, .int 1), (0, .ref a0), (1, .int v1), (2, .int v2)] (Nat.le_of_ble_eq_true rfl) rfl dX3_firstWrong_3 ?_
  refine x_iconst (v := 0) C (by decide) dX3_firstWrong_5 ?_
  refine x_istore C [(5, .int 0), (4, .int 0), (3, .int 1), (0, .ref a0), (1, .int v1), (2, .int v2)] (Nat.le_of_ble_eq_true rfl) rfl dX3_firstWrong_6 ?_
  refine x_iconst (v := 0) C (by decide) dX3_firstWrong_8 ?_
  refine x_istore C [(6, .int 0), (5, .int 0), (4, .int 0), (3, .int 1), (0, .ref a0), (1, .int v1), (2, .int v2)] (Nat.le_of_ble_eq_true rfl) rfl dX3_firstWrong_9 ?_
  refine x_iload_n C rfl 5 rfl dX3_firstWrong_11 ?_
  refine x_bipush (v := 40) C (by decide) dX3_firstWrong_12 ?_
  refine x_icmp_ge (tgt := 21) C dX3_firstWrong_14 (by decide) (fun c22 => ?_) (fun c22 => ?_)
  · have h := h.1 c22
    refine x_bipush (v := 40) C (by decide) dX3_firstWrong_21 ?_
    refine x_istore C [(7, .int 40), (6, .int 0), (5, .int 0), (4, .int 0), (3, .int 1), (0, .ref a0), (1, .int v1), (2, .int v2)] (Nat.le_of_ble_eq_true rfl) rfl dX3_firstWrong_23 ?_
    refine x_iconst (v := 0) C (by decide) dX3_firstWrong_25 ?_
    refine x_istore C [(8, .int 0), (7, .int 40), (6, .int 0), (5, .int 0), (4, .int 0), (3, .int 1), (0, .ref a0), (1, .int v1), (2, .int v2)] (Nat.le_of_ble_eq_true rfl) rfl dX3_firstWrong_26 ?_
    refine x_sub [(0, .ref a0), (1, .int v1), (2, .int v2), (3, .int 1), (4, .int 0), (5, .int 0), (6, .int 0), (7, .int 40), (8, .int 0)] [6, 7, 8, 5, 4, 3, 2, 1, 0] rfl ?_
    exact G3_firstWrong_L28_ok C hd hr o_a0 h
  · have h := h.2 c22
    refine x_iload_n C rfl 5 rfl dX3_firstWrong_17 ?_
    refine x_goto (tgt := 23) C dX3_firstWrong_18 (by decide) ?_
    refine x_istore C [(7, .int v1), (6, .int 0), (5, .int 0), (4, .int 0), (3, .int 1), (0, .ref a0), (1, .int v1), (2, .int v2)] (Nat.le_of_ble_eq_true rfl) rfl dX3_firstWrong_23 ?_
    refine x_iconst (v := 0) C (by decide) dX3_firstWrong_25 ?_
    refine x_istore C [(8, .int 0), (7, .int v1), (6, .int 0), (5, .int 0), (4, .int 0), (3, .int 1), (0, .ref a0), (1, .int v1), (2, .int v2)] (Nat.le_of_ble_eq_true rfl) rfl dX3_firstWrong_26 ?_
    refine x_sub [(0, .ref a0), (1, .int v1), (2, .int v2), (3, .int 1), (4, .int 0), (5, .int 0), (6, .int 0), (7, .int v1), (8, .int 0)] [6, 7, 8, 5, 4, 3, 2, 1, 0] rfl ?_
    exact G3_firstWrong_L28_ok C hd hr o_a0 h
set_option maxHeartbeats 4000000 in
set_option maxRecDepth 100000 in
theorem G11_takeText_met {l : Launch} {φ : Nat → Nat} {tc : Nat → ClassId} {D : va_G} {s0 : State} (hG : GX φ tc D s0) {dR : Nat} (hd : G11_takeText_dep ≤ dR) {a1 : Nat} {v2 : Int32} {v3 : Int32} {μ : MM} {Q : Int32 → MM → Prop} (o_a1 : Ob a1 17) (h : G11_takeText a1 v2 v3 μ Q) : MX l φ tc D s0 dR yX11_takeText cX11_takeText 6 (some .int) [.ref 0, .ref a1, .int v2, .int v3] μ (QI Q) := by
  refine MX.of (own := RX11) hG plX11 rfl (Nat.le_of_ble_eq_true rfl) (fun p e s m args below meth c C hr => ?_)
  refine x_sub [(0, .ref 0), (1, .ref a1), (2, .int v2), (3, .int v3)] [0, 1, 2, 3] rfl ?_
  unfold G11_takeText at h
  refine x_aload_n C rfl 0 rfl dX11_takeText_0 ?_
  refine x_getI C (j := 8) ob0.1 ob0.2 (Nat.le_of_ble_eq_true rfl) (Nat.le_of_ble_eq_true rfl) (Or.inl rfl) tw_2_171 dX11_takeText_1 ?_
  refine x_topi (fun y10 e_y10 => ?_)
  have h := h y10 e_y10
  refine x_istore C [(4, .int y10), (0, .ref 0), (1, .ref a1), (2, .int v2), (3, .int v3)] (Nat.le_of_ble_eq_true rfl) rfl dX11_takeText_4 ?_
  refine x_aload_n C rfl 1 rfl dX11_takeText_6 ?_
  refine x_iconst (v := 0) C (by decide) dX11_takeText_7 ?_
  refine x_putI C (j := 8) ob0.1 ob0.2 (Nat.le_of_ble_eq_true rfl) (Nat.le_of_ble_eq_true rfl) (Or.inl rfl) rfl rfl rfl tw_2_171 dX11_takeText_8 ?_
  refine x_mu (fun μ11 e_μ11 => ?_)
  have h := h μ11 e_μ11
  refine x_iload_n C rfl 3 rfl dX11_takeText_11 ?_
  refine x_iconst (v := 0) C (by decide) dX11_takeText_12 ?_
  refine x_iconst (v := 5) C (by decide) dX11_takeText_13 ?_
  refine x_callS (dC := G11_within_dep) (as := [.int v2, .int 0, .int 5]) (st := []) C rX kX (Nat.le_trans (Nat.le_of_ble_eq_true rfl) hd) (Nat.le_of_ble_eq_true rfl) tw_2_196 tw_2_195 tc_2_197 tw_1_1 hyX11 hnX11_within rfl (Nat.le_of_ble_eq_true rfl) dX11_takeText_14 (G11_within_met C.2.2.2.2.2.2.2.1 (Nat.le_refl _)  h) (fun r0 μ12 hq => ?_)
  obtain ⟨r13, rfl, h⟩ := hq
  refine x_st [.int r13] rfl ?_
  refine x_if_ne (tgt := 23) C dX11_takeText_17 (by decide) (fun c14 => ?_) (fun c14 => ?_)
  · have h := h.1 c14
    refine x_aload_n C rfl 1 rfl dX11_takeText_23 ?_
    refine x_getR (r := 357) C (j := 7) ob0.1 ob0.2 (Nat.le_of_ble_eq_true rfl) (Nat.le_of_ble_eq_true rfl) (fun _ _ _ => rfl) r_0_7 tw_2_170 dX11_takeText_24 ?_
    refine x_iload C 0 rfl dX11_takeText_27 ?_
    refine x_iload_n C rfl 4 rfl dX11_takeText_29 ?_
    refine x_callSN (dC := G3_firstWrong_dep) (as := [.ref 357, .int y10, .int v3]) (st := []) C rX kX (Nat.le_trans (Nat.le_of_ble_eq_true rfl) hd) (Nat.le_of_ble_eq_true rfl) tw_3_39 tw_3_38 tc_3_40 tw_1_4 hyX3 hnX3_firstWrong rfl (Nat.le_of_ble_eq_true rfl) dX11_takeText_30 (G3_firstWrong_met C.2.2.2.2.2.2.2.1 (Nat.le_refl _) ob357 h) (fun r0 μ15 hq => ?_)
    obtain ⟨r16, rfl, h⟩ := hq
    refine x_st [.int r16] rfl ?_
    refine x_istore C [(5, .int r16), (4, .int y10), (0, .ref 0), (1, .ref a1), (2, .int v2), (3, .int v3)] (Nat.le_of_ble_eq_true rfl) rfl dX11_takeText_33 ?_
    refine x_iload C 0 rfl dX11_takeText_35 ?_
    refine x_iconst (v := (-1)) C (by decide) dX11_takeText_37 ?_
    refine x_icmp_eq (tgt := 46) C dX11_takeText_38 (by decide) (fun c17 => ?_) (fun c17 => ?_)
    · have h := h.1 c17
      refine x_aload_n C rfl 3 rfl dX11_takeText_46 ?_
      refine x_iload_n C rfl 4 rfl dX11_takeText_47 ?_
      obtain ⟨c18, r19, e_r19, o_r19, h⟩ := h
      refine x_aald (r := r19) C o_a1.1 (by rw [o_a1.2]; decide) (by rw [o_a1.2]; decide) c18 rfl (SR_arr o_a1 (by decide) e_r19) dX11_takeText_48 ?_
      refine x_aload_n C rfl 2 rfl dX11_takeText_49 ?_
      refine x_getR (r := 357) C (j := 7) ob0.1 ob0.2 (Nat.le_of_ble_eq_true rfl) (Nat.le_of_ble_eq_true rfl) (fun _ _ _ => rfl) r_0_7 tw_2_170 dX11_takeText_50 ?_
      refine x_iload C 1 rfl dX11_takeText_53 ?_
      refine x_callVN (dC := G3_become_dep) (as := [.ref 357, .int y10]) (st := []) C rX kX (Nat.le_trans (Nat.le_of_ble_eq_true rfl) hd) (Nat.le_of_ble_eq_true rfl) o_r19.1 o_r19.2 (Nat.le_of_ble_eq_true rfl) rfl ts_1_13 tw_3_143 tw_3_141 tc_3_144 tw_1_4 hyX3 hnX3_become rfl (Nat.le_of_ble_eq_true rfl) dX11_takeText_55 (G3_become_met C.2.2.2.2.2.2.2.1 (Nat.le_refl _) o_r19 ob357 h) (fun r0 μ20 hq => ?_)
      obtain ⟨rfl, h⟩ := hq
      refine x_st [] rfl ?_
      refine x_iconst (v := 0) C (by decide) dX11_takeText_58 ?_
      exact x_iret C hr dX11_takeText_59 ⟨_, rfl, h⟩
    · have h := h.2 c17
      refine x_iconst (v := (-1)) C (by decide) dX11_takeText_41 ?_
      refine x_iload C 0 rfl dX11_takeText_42 ?_
      refine x_isub C dX11_takeText_44 ?_
      exact x_iret C hr dX11_takeText_45 ⟨_, rfl, h⟩
  · have h := h.2 c14
    refine x_bipush (v := (-100)) C (by decide) dX11_takeText_20 ?_
    exact x_iret C hr dX11_takeText_22 ⟨_, rfl, h⟩
set_option maxHeartbeats 4000000 in
set_option maxRecDepth 100000 in
theorem G11_law_met {l : Launch} {φ : Nat → Nat} {tc : Nat → ClassId} {D : va_G} {s0 : State} (hG : GX φ tc D s0) {dR : Nat} (hd : G11_law_dep ≤ dR) {v1 : Int32} {μ : MM} {Q : Int32 → MM → Prop}  (h : G11_law v1 μ Q) : MX l φ tc D s0 dR yX11_law cX11_law 2 (some .int) [.ref 0, .int v1] μ (QI Q) := by
  refine MX.of (own := RX11) hG plX11 rfl (Nat.le_of_ble_eq_true rfl) (fun p e s m args below meth c C hr => ?_)
  refine x_sub [(0, .ref 0), (1, .int v1)] [0, 1] rfl ?_
  unfold G11_law at h
  refine x_aload_n C rfl 0 rfl dX11_law_0 ?_
  refine x_aload_n C rfl 0 rfl dX11_law_1 ?_
  refine x_getR (r := 1) C (j := 0) ob0.1 ob0.2 (Nat.le_of_ble_eq_true rfl) (Nat.le_of_ble_eq_true rfl) (fun _ _ _ => rfl) r_0_0 tw_2_163 dX11_law_2 ?_
  refine x_getRN (r := 10) C (j := 11) ob1.1 ob1.2 (Nat.le_of_ble_eq_true rfl) (Nat.le_of_ble_eq_true rfl) (fun _ _ _ => rfl) r_1_11 tw_1_157 dX11_law_5 ?_
  refine x_iload_n C rfl 1 rfl dX11_law_8 ?_
  refine x_iconst (v := 1) C (by decide) dX11_law_9 ?_
  refine x_callV (dC := G11_takeText_dep) (as := [.ref 10, .int v1, .int 1]) (st := []) C rX kX (Nat.le_trans (Nat.le_of_ble_eq_true rfl) hd) (Nat.le_of_ble_eq_true rfl) ob0.1 ob0.2 (Nat.le_of_ble_eq_true rfl) rfl ts_1_12 tw_3_36 tw_3_34 tc_3_37 tw_1_1 hyX11 hnX11_takeText rfl (Nat.le_of_ble_eq_true rfl) dX11_law_10 (G11_takeText_met C.2.2.2.2.2.2.2.1 (Nat.le_refl _) ob10 h) (fun r0 μ3 hq => ?_)
  obtain ⟨r4, rfl, h⟩ := hq
  refine x_st [.int r4] rfl ?_
  exact x_iret C hr dX11_law_13 ⟨_, rfl, h⟩
set_option maxHeartbeats 4000000 in
set_option maxRecDepth 100000 in
theorem G11_filter_met {l : Launch} {φ : Nat → Nat} {tc : Nat → ClassId} {D : va_G} {s0 : State} (hG : GX φ tc D s0) {dR : Nat} (hd : G11_filter_dep ≤ dR) {v1 : Int32} {μ : MM} {Q : Int32 → MM → Prop}  (h : G11_filter v1 μ Q) : MX l φ tc D s0 dR yX11_filter cX11_filter 2 (some .int) [.ref 0, .int v1] μ (QI Q) := by
  refine MX.of (own := RX11) hG plX11 rfl (Nat.le_of_ble_eq_true rfl) (fun p e s m args below meth c C hr => ?_)
  refine x_sub [(0, .ref 0), (1, .int v1)] [0, 1] rfl ?_
  unfold G11_filter at h
  refine x_aload_n C rfl 0 rfl dX11_filter_0 ?_
  refine x_aload_n C rfl 0 rfl dX11_filter_1 ?_
  refine x_getR (r := 1) C (j := 0) ob0.1 ob0.2 (Nat.le_of_ble_eq_true rfl) (Nat.le_of_ble_eq_true rfl) (fun _ _ _ => rfl) r_0_0 tw_2_163 dX11_filter_2 ?_
  refine x_getRN (r := 11) C (j := 12) ob1.1 ob1.2 (Nat.le_of_ble_eq_true rfl) (Nat.le_of_ble_eq_true rfl) (fun _ _ _ => rfl) r_1_12 tw_1_159 dX11_filter_5 ?_
  refine x_iload_n C rfl 1 rfl dX11_filter_8 ?_
  refine x_iconst (v := 0) C (by decide) dX11_filter_9 ?_
  refine x_callV (dC := G11_takeText_dep) (as := [.ref 11, .int v1, .int 0]) (st := []) C rX kX (Nat.le_trans (Nat.le_of_ble_eq_true rfl) hd) (Nat.le_of_ble_eq_true rfl) ob0.1 ob0.2 (Nat.le_of_ble_eq_true rfl) rfl ts_1_12 tw_3_36 tw_3_34 tc_3_37 tw_1_1 hyX11 hnX11_takeText rfl (Nat.le_of_ble_eq_true rfl) dX11_filter_10 (G11_takeText_met C.2.2.2.2.2.2.2.1 (Nat.le_refl _) ob11 h) (fun r0 μ3 hq => ?_)
  obtain ⟨r4, rfl, h⟩ := hq
  refine x_st [.int r4] rfl ?_
  exact x_iret C hr dX11_filter_13 ⟨_, rfl, h⟩
set_option maxHeartbeats 4000000 in
set_option maxRecDepth 100000 in
theorem G3_isTold_met {l : Launch} {φ : Nat → Nat} {tc : Nat → ClassId} {D : va_G} {s0 : State} (hG : GX φ tc D s0) {dR : Nat} (hd : G3_isTold_dep ≤ dR) {t : Nat} {μ : MM} {Q : Int32 → MM → Prop} (o_t : Ob t 3) (h : G3_isTold t μ Q) : MX l φ tc D s0 dR yX3_isTold cX3_isTold 1 (some .boolean) [.ref t] μ (QI Q) := by
  refine MX.of (own := RX3) hG plX3 rfl (Nat.le_of_ble_eq_true rfl) (fun p e s m args below meth c C hr => ?_)
  refine x_sub [(0, .ref t)] [0] rfl ?_
  unfold G3_isTold at h
  refine x_aload_n C rfl 0 rfl dX3_isTold_0 ?_
  refine x_getI C (j := 1) o_t.1 o_t.2 (Nat.le_of_ble_eq_true rfl) (Nat.le_of_ble_eq_true rfl) (Or.inl rfl) tw_1_110 dX3_isTold_1 ?_
  refine x_if_le (tgt := 11) C dX3_isTold_4 (by decide) (fun c1 => ?_) (fun c1 => ?_)
  · have h := h.1 c1
    refine x_iconst (v := 0) C (by decide) dX3_isTold_11 ?_
    exact x_zret C hr bo_0 dX3_isTold_12 ⟨_, rfl, h⟩
  · have h := h.2 c1
    refine x_iconst (v := 1) C (by decide) dX3_isTold_7 ?_
    refine x_goto (tgt := 12) C dX3_isTold_8 (by decide) ?_
    exact x_zret C hr bo_1 dX3_isTold_12 ⟨_, rfl, h⟩
set_option maxHeartbeats 4000000 in
set_option maxRecDepth 100000 in
theorem G10_isLaw_J25_ok {p : Program} {e : Env} {s : State} {m : MethodId} {args : Array Value} {below : List Frame} {meth : Method} {c : Code} {l : Launch} {φ : Nat → Nat} {tc : Nat → ClassId} {D : va_G} {s0 : State} {dR : Nat} (C : CX p s m args meth c φ tc D (AX φ) s0 cX10_isLaw RX10 2) (hd : G10_isLaw_dep ≤ dR) (hr : meth.sig.returnType = (some .boolean))    {Q : Int32 → MM → Prop}  {μ : MM}    (h : G10_isLaw_J25 μ Q) : WX p l e (rmX dR) s m args below meth c φ tc D (AX φ) 2 0 0 (MQ below (QX φ tc D (QI Q)) args s 0 0 (AX φ)) 25 [] [] μ := by
  unfold G10_isLaw_J25 at h
  refine x_iconst (v := 0) C (by decide) dX10_isLaw_25 ?_
  exact x_zret C hr bo_0 dX10_isLaw_26 ⟨_, rfl, h⟩
set_option maxHeartbeats 4000000 in
set_option maxRecDepth 100000 in
theorem G10_isLaw_met {l : Launch} {φ : Nat → Nat} {tc : Nat → ClassId} {D : va_G} {s0 : State} (hG : GX φ tc D s0) {dR : Nat} (hd : G10_isLaw_dep ≤ dR) {v1 : Int32} {μ : MM} {Q : Int32 → MM → Prop}  (h : G10_isLaw v1 μ Q) : MX l φ tc D s0 dR yX10_isLaw cX10_isLaw 2 (some .boolean) [.ref 1, .int v1] μ (QI Q) := by
  refine MX.of (own := RX10) hG plX10 rfl (Nat.le_of_ble_eq_true rfl) (fun p e s m args below meth c C hr => ?_)
  refine x_sub [(0, .ref 1), (1, .int v1)] [0, 1] rfl ?_
  unfold G10_isLaw at h
  refine x_iload_n C rfl 1 rfl dX10_isLaw_0 ?_
  refine x_iconst (v := 0) C (by decide) dX10_isLaw_1 ?_
  refine x_iconst (v := 5) C (by decide) dX10_isLaw_2 ?_
  refine x_callSN (dC := G11_within_dep) (as := [.int v1, .int 0, .int 5]) (st := []) C rX kX (Nat.le_trans (Nat.le_of_ble_eq_true rfl) hd) (Nat.le_of_ble_eq_true rfl) tw_2_196 tw_3_190 tc_2_197 tw_1_1 hyX11 hnX11_within rfl (Nat.le_of_ble_eq_true rfl) dX10_isLaw_3 (G11_within_met C.2.2.2.2.2.2.2.1 (Nat.le_refl _)  h) (fun r0 μ6 hq => ?_)
  obtain ⟨r7, rfl, h⟩ := hq
  refine x_st [.int r7] rfl ?_
  refine x_if_eq (tgt := 25) C dX10_isLaw_6 (by decide) (fun c8 => ?_) (fun c8 => ?_)
  · have h := h.1 c8
    refine x_sub [] [] rfl ?_
    exact G10_isLaw_J25_ok C hd hr  h
  · have h := h.2 c8
    refine x_aload_n C rfl 0 rfl dX10_isLaw_9 ?_
    refine x_getR (r := 10) C (j := 11) ob1.1 ob1.2 (Nat.le_of_ble_eq_true rfl) (Nat.le_of_ble_eq_true rfl) (fun _ _ _ => rfl) r_1_11 tw_1_155 dX10_isLaw_10 ?_
    refine x_iload_n C rfl 1 rfl dX10_isLaw_13 ?_
    obtain ⟨c9, h⟩ := h
    refine x_aald (r := (115 + 6 * v1.toNatClampNeg)) C ob10.1 (by decide) (by decide) c9 rfl (rA10 c9) dX10_isLaw_14 ?_
    refine x_callVN (dC := G3_isTold_dep) (as := []) (st := []) C rX kX (Nat.le_trans (Nat.le_of_ble_eq_true rfl) hd) (Nat.le_of_ble_eq_true rfl) (obA10 c9).1 (obA10 c9).2 (Nat.le_of_ble_eq_true rfl) rfl ts_2_7 tw_3_193 tw_3_191 tc_3_194 tw_1_4 hyX3 hnX3_isTold rfl (Nat.le_of_ble_eq_true rfl) dX10_isLaw_15 (G3_isTold_met C.2.2.2.2.2.2.2.1 (Nat.le_refl _) (obA10 c9) h) (fun r0 μ10 hq => ?_)
    obtain ⟨r11, rfl, h⟩ := hq
    refine x_st [.int r11] rfl ?_
    refine x_if_eq (tgt := 25) C dX10_isLaw_18 (by decide) (fun c12 => ?_) (fun c12 => ?_)
    · have h := h.1 c12
      refine x_sub [] [] rfl ?_
      exact G10_isLaw_J25_ok C hd hr  h
    · have h := h.2 c12
      refine x_iconst (v := 1) C (by decide) dX10_isLaw_21 ?_
      refine x_goto (tgt := 26) C dX10_isLaw_22 (by decide) ?_
      exact x_zret C hr bo_1 dX10_isLaw_26 ⟨_, rfl, h⟩
set_option maxHeartbeats 4000000 in
set_option maxRecDepth 100000 in
theorem G3_joined_J94_ok {p : Program} {e : Env} {s : State} {m : MethodId} {args : Array Value} {below : List Frame} {meth : Method} {c : Code} {l : Launch} {φ : Nat → Nat} {tc : Nat → ClassId} {D : va_G} {s0 : State} {dR : Nat} (C : CX p s m args meth c φ tc D (AX φ) s0 cX3_joined RX3 3) (hd : G3_joined_dep ≤ dR) (hr : meth.sig.returnType = (some .int))    {Q : Int32 → MM → Prop}  {μ : MM}    (h : G3_joined_J94 μ Q) : WX p l e (rmX dR) s m args below meth c φ tc D (AX φ) 3 0 0 (MQ below (QX φ tc D (QI Q)) args s 0 0 (AX φ)) 94 [] [] μ := by
  unfold G3_joined_J94 at h
  refine x_iconst (v := 0) C (by decide) dX3_joined_94 ?_
  exact x_iret C hr dX3_joined_95 ⟨_, rfl, h⟩
set_option maxHeartbeats 4000000 in
set_option maxRecDepth 100000 in
theorem G3_joined_met {l : Launch} {φ : Nat → Nat} {tc : Nat → ClassId} {D : va_G} {s0 : State} (hG : GX φ tc D s0) {dR : Nat} (hd : G3_joined_dep ≤ dR) {v0 : Int32} {v1 : Int32} {v2 : Int32} {μ : MM} {Q : Int32 → MM → Prop}  (h : G3_joined v0 v1 v2 μ Q) : MX l φ tc D s0 dR yX3_joined cX3_joined 3 (some .int) [.int v0, .int v1, .int v2] μ (QI Q) := by
  refine MX.of (own := RX3) hG plX3 rfl (Nat.le_of_ble_eq_true rfl) (fun p e s m args below meth c C hr => ?_)
  refine x_sub [(0, .int v0), (1, .int v1), (2, .int v2)] [0, 1, 2] rfl ?_
  unfold G3_joined at h
  refine x_iload_n C rfl 1 rfl dX3_joined_0 ?_
  by_cases c1 : v1 = 38
  · have h := h.1 c1
    refine x_look (tgt := 82) C dX3_joined_1 (by decide) (off := 81) (by rw [c1]; decide) (by decide) ?_
    refine x_iload_n C rfl 0 rfl dX3_joined_82 ?_
    refine x_if_eq (tgt := 94) C dX3_joined_83 (by decide) (fun c2 => ?_) (fun c2 => ?_)
    · have h := h.1 c2
      refine x_sub [] [] rfl ?_
      exact G3_joined_J94_ok C hd hr  h
    · have h := h.2 c2
      refine x_iload_n C rfl 2 rfl dX3_joined_86 ?_
      refine x_if_eq (tgt := 94) C dX3_joined_87 (by decide) (fun c3 => ?_) (fun c3 => ?_)
      · have h := h.1 c3
        refine x_sub [] [] rfl ?_
        exact G3_joined_J94_ok C hd hr  h
      · have h := h.2 c3
        refine x_iconst (v := 1) C (by decide) dX3_joined_90 ?_
        refine x_goto (tgt := 95) C dX3_joined_91 (by decide) ?_
        exact x_iret C hr dX3_joined_95 ⟨_, rfl, h⟩
  have h := h.2
  by_cases c4 : v1 = 43
  · have h := h.1 c4
    refine x_look (tgt := 129) C dX3_joined_1 (by decide) (off := 128) (by rw [c4]; decide) (by decide) ?_
    refine x_iload_n C rfl 0 rfl dX3_joined_129 ?_
    refine x_iload_n C rfl 2 rfl dX3_joined_130 ?_
    refine x_iadd C dX3_joined_131 ?_
    exact x_iret C hr dX3_joined_132 ⟨_, rfl, h⟩
  have h := h.2
  by_cases c5 : v1 = 45
  · have h := h.1 c5
    refine x_look (tgt := 133) C dX3_joined_1 (by decide) (off := 132) (by rw [c5]; decide) (by decide) ?_
    refine x_iload_n C rfl 0 rfl dX3_joined_133 ?_
    refine x_iload_n C rfl 2 rfl dX3_joined_134 ?_
    refine x_isub C dX3_joined_135 ?_
    exact x_iret C hr dX3_joined_136 ⟨_, rfl, h⟩
  have h := h.2
  by_cases c6 : v1 = 60
  · have h := h.1 c6
    refine x_look (tgt := 96) C dX3_joined_1 (by decide) (off := 95) (by rw [c6]; decide) (by decide) ?_
    refine x_iload_n C rfl 0 rfl dX3_joined_96 ?_
    refine x_iload_n C rfl 2 rfl dX3_joined_97 ?_
    refine x_icmp_ge (tgt := 105) C dX3_joined_98 (by decide) (fun c7 => ?_) (fun c7 => ?_)
    · have h := h.1 c7
      refine x_iconst (v := 0) C (by decide) dX3_joined_105 ?_
      exact x_iret C hr dX3_joined_106 ⟨_, rfl, h⟩
    · have h := h.2 c7
      refine x_iconst (v := 1) C (by decide) dX3_joined_101 ?_
      refine x_goto (tgt := 106) C dX3_joined_102 (by decide) ?_
      exact x_iret C hr dX3_joined_106 ⟨_, rfl, h⟩
  have h := h.2
  by_cases c8 : v1 = 61
  · have h := h.1 c8
    refine x_look (tgt := 118) C dX3_joined_1 (by decide) (off := 117) (by rw [c8]; decide) (by decide) ?_
    refine x_iload_n C rfl 0 rfl dX3_joined_118 ?_
    refine x_iload_n C rfl 2 rfl dX3_joined_119 ?_
    refine x_icmp_ne (tgt := 127) C dX3_joined_120 (by decide) (fun c9 => ?_) (fun c9 => ?_)
    · have h := h.1 c9
      refine x_iconst (v := 0) C (by decide) dX3_joined_127 ?_
      exact x_iret C hr dX3_joined_128 ⟨_, rfl, h⟩
    · have h := h.2 c9
      refine x_iconst (v := 1) C (by decide) dX3_joined_123 ?_
      refine x_goto (tgt := 128) C dX3_joined_124 (by decide) ?_
      exact x_iret C hr dX3_joined_128 ⟨_, rfl, h⟩
  have h := h.2
  by_cases c10 : v1 = 62
  · have h := h.1 c10
    refine x_look (tgt := 107) C dX3_joined_1 (by decide) (off := 106) (by rw [c10]; decide) (by decide) ?_
    refine x_iload_n C rfl 0 rfl dX3_joined_107 ?_
    refine x_iload_n C rfl 2 rfl dX3_joined_108 ?_
    refine x_icmp_le (tgt := 116) C dX3_joined_109 (by decide) (fun c11 => ?_) (fun c11 => ?_)
    · have h := h.1 c11
      refine x_iconst (v := 0) C (by decide) dX3_joined_116 ?_
      exact x_iret C hr dX3_joined_117 ⟨_, rfl, h⟩
    · have h := h.2 c11
      refine x_iconst (v := 1) C (by decide) dX3_joined_112 ?_
      refine x_goto (tgt := 117) C dX3_joined_113 (by decide) ?_
      exact x_iret C hr dX3_joined_117 ⟨_, rfl, h⟩
  have h := h.2
  by_cases c12 : v1 = 124
  · have h := h.1 c12
    refine x_look (tgt := 68) C dX3_joined_1 (by decide) (off := 67) (by rw [c12]; decide) (by decide) ?_
    refine x_iload_n C rfl 0 rfl dX3_joined_68 ?_
    refine x_if_ne (tgt := 76) C dX3_joined_69 (by decide) (fun c13 => ?_) (fun c13 => ?_)
    · have h := h.1 c13
      refine x_iconst (v := 1) C (by decide) dX3_joined_76 ?_
      refine x_goto (tgt := 81) C dX3_joined_77 (by decide) ?_
      exact x_iret C hr dX3_joined_81 ⟨_, rfl, h⟩
    · have h := h.2 c13
      refine x_iload_n C rfl 2 rfl dX3_joined_72 ?_
      refine x_if_eq (tgt := 80) C dX3_joined_73 (by decide) (fun c14 => ?_) (fun c14 => ?_)
      · have h := h.1 c14
        refine x_iconst (v := 0) C (by decide) dX3_joined_80 ?_
        exact x_iret C hr dX3_joined_81 ⟨_, rfl, h⟩
      · have h := h.2 c14
        refine x_iconst (v := 1) C (by decide) dX3_joined_76 ?_
        refine x_goto (tgt := 81) C dX3_joined_77 (by decide) ?_
        exact x_iret C hr dX3_joined_81 ⟨_, rfl, h⟩
  have h := h.2
  have h := h c1 c4 c5 c6 c8 c10 c12
  refine x_look (tgt := 137) C dX3_joined_1 (by decide) (off := 136) (by show Op.lookupswitch.offset [(38, 81), (43, 128), (45, 132), (60, 95), (61, 117), (62, 106), (124, 67)] 136 _ = 136; rw [lv_osw c1 (by decide), lv_osw c4 (by decide), lv_osw c5 (by decide), lv_osw c6 (by decide), lv_osw c8 (by decide), lv_osw c10 (by decide), lv_osw c12 (by decide)]; rfl) (by decide) ?_
  refine x_iload_n C rfl 0 rfl dX3_joined_137 ?_
  refine x_iload_n C rfl 2 rfl dX3_joined_138 ?_
  refine x_imul C dX3_joined_139 ?_
  exact x_iret C hr dX3_joined_140 ⟨_, rfl, h⟩
set_option maxHeartbeats 4000000 in
set_option maxRecDepth 100000 in
theorem G3_operate_J21_ok {p : Program} {e : Env} {s : State} {m : MethodId} {args : Array Value} {below : List Frame} {meth : Method} {c : Code} {l : Launch} {φ : Nat → Nat} {tc : Nat → ClassId} {D : va_G} {s0 : State} {dR : Nat} (C : CX p s m args meth c φ tc D (AX φ) s0 cX3_operate RX3 3) (hd : G3_operate_dep ≤ dR) (hr : meth.sig.returnType = none)  {t : Nat} {q0 : Int32} {Q : MM → Prop}  {μ : MM} (o_t : Ob t 3)   (h : G3_operate_J21 t q0 μ Q) : WX p l e (rmX dR) s m args below meth c φ tc D (AX φ) 3 0 0 (MQ below (QX φ tc D (QV Q)) args s 0 0 (AX φ)) 21 [] [.int q0, .ref t] μ := by
  unfold G3_operate_J21 at h
  refine x_callV (dC := G3_push_dep) (as := [.int q0]) (st := []) C rX kX (Nat.le_trans (Nat.le_of_ble_eq_true rfl) hd) (Nat.le_of_ble_eq_true rfl) o_t.1 o_t.2 (Nat.le_of_ble_eq_true rfl) rfl ts_2_0 tw_3_155 tw_3_153 tc_3_156 tw_1_4 hyX3 hnX3_push rfl (Nat.le_of_ble_eq_true rfl) dX3_operate_21 (G3_push_met C.2.2.2.2.2.2.2.1 (Nat.le_refl _) o_t h) (fun r0 μ21 hq => ?_)
  obtain ⟨rfl, h⟩ := hq
  refine x_st [] rfl ?_
  refine x_goto (tgt := 55) C dX3_operate_24 (by decide) ?_
  exact x_vret C hr dX3_operate_55 ⟨rfl, h⟩
set_option maxHeartbeats 4000000 in
set_option maxRecDepth 100000 in
theorem G3_operate_met {l : Launch} {φ : Nat → Nat} {tc : Nat → ClassId} {D : va_G} {s0 : State} (hG : GX φ tc D s0) {dR : Nat} (hd : G3_operate_dep ≤ dR) {t : Nat} {v1 : Int32} {μ : MM} {Q : MM → Prop} (o_t : Ob t 3) (h : G3_operate t v1 μ Q) : MX l φ tc D s0 dR yX3_operate cX3_operate 3 none [.ref t, .int v1] μ (QV Q) := by
  refine MX.of (own := RX3) hG plX3 rfl (Nat.le_of_ble_eq_true rfl) (fun p e s m args below meth c C hr => ?_)
  refine x_sub [(0, .ref t), (1, .int v1)] [0, 1] rfl ?_
  unfold G3_operate at h
  refine x_aload_n C rfl 0 rfl dX3_operate_0 ?_
  refine x_callV (dC := G3_pop_dep) (as := []) (st := []) C rX kX (Nat.le_trans (Nat.le_of_ble_eq_true rfl) hd) (Nat.le_of_ble_eq_true rfl) o_t.1 o_t.2 (Nat.le_of_ble_eq_true rfl) rfl ts_2_2 tw_3_163 tw_3_161 tc_3_164 tw_1_4 hyX3 hnX3_pop rfl (Nat.le_of_ble_eq_true rfl) dX3_operate_1 (G3_pop_met C.2.2.2.2.2.2.2.1 (Nat.le_refl _) o_t h) (fun r0 μ10 hq => ?_)
  obtain ⟨r11, rfl, h⟩ := hq
  refine x_st [.int r11] rfl ?_
  refine x_istore_n C [(2, .int r11), (0, .ref t), (1, .int v1)] rfl (Nat.le_of_ble_eq_true rfl) rfl dX3_operate_4 ?_
  refine x_iload_n C rfl 2 rfl dX3_operate_5 ?_
  refine x_bipush (v := 33) C (by decide) dX3_operate_6 ?_
  refine x_icmp_ne (tgt := 27) C dX3_operate_8 (by decide) (fun c12 => ?_) (fun c12 => ?_)
  · have h := h.1 c12
    refine x_iload_n C rfl 2 rfl dX3_operate_27 ?_
    refine x_bipush (v := 126) C (by decide) dX3_operate_28 ?_
    refine x_icmp_ne (tgt := 42) C dX3_operate_30 (by decide) (fun c13 => ?_) (fun c13 => ?_)
    · have h := h.1 c13
      refine x_aload_n C rfl 1 rfl dX3_operate_42 ?_
      refine x_aload_n C rfl 1 rfl dX3_operate_43 ?_
      refine x_callV (dC := G3_pop_dep) (as := []) (st := [.ref t]) C rX kX (Nat.le_trans (Nat.le_of_ble_eq_true rfl) hd) (Nat.le_of_ble_eq_true rfl) o_t.1 o_t.2 (Nat.le_of_ble_eq_true rfl) rfl ts_2_2 tw_3_163 tw_3_161 tc_3_164 tw_1_4 hyX3 hnX3_pop rfl (Nat.le_of_ble_eq_true rfl) dX3_operate_44 (G3_pop_met C.2.2.2.2.2.2.2.1 (Nat.le_refl _) o_t h) (fun r0 μ14 hq => ?_)
      obtain ⟨r15, rfl, h⟩ := hq
      refine x_st [.int r15, .ref t] rfl ?_
      refine x_iload_n C rfl 2 rfl dX3_operate_47 ?_
      refine x_iload_n C rfl 0 rfl dX3_operate_48 ?_
      refine x_callS (dC := G3_joined_dep) (as := [.int r15, .int v1, .int r11]) (st := [.ref t]) C rX kX (Nat.le_trans (Nat.le_of_ble_eq_true rfl) hd) (Nat.le_of_ble_eq_true rfl) tw_3_216 tw_3_215 tc_3_217 tw_1_4 hyX3 hnX3_joined rfl (Nat.le_of_ble_eq_true rfl) dX3_operate_49 (G3_joined_met C.2.2.2.2.2.2.2.1 (Nat.le_refl _)  h) (fun r0 μ16 hq => ?_)
      obtain ⟨r17, rfl, h⟩ := hq
      refine x_st [.int r17, .ref t] rfl ?_
      refine x_callV (dC := G3_push_dep) (as := [.int r17]) (st := []) C rX kX (Nat.le_trans (Nat.le_of_ble_eq_true rfl) hd) (Nat.le_of_ble_eq_true rfl) o_t.1 o_t.2 (Nat.le_of_ble_eq_true rfl) rfl ts_2_0 tw_3_155 tw_3_153 tc_3_156 tw_1_4 hyX3 hnX3_push rfl (Nat.le_of_ble_eq_true rfl) dX3_operate_52 (G3_push_met C.2.2.2.2.2.2.2.1 (Nat.le_refl _) o_t h) (fun r0 μ18 hq => ?_)
      obtain ⟨rfl, h⟩ := hq
      refine x_st [] rfl ?_
      exact x_vret C hr dX3_operate_55 ⟨rfl, h⟩
    · have h := h.2 c13
      refine x_aload_n C rfl 1 rfl dX3_operate_33 ?_
      refine x_iload_n C rfl 0 rfl dX3_operate_34 ?_
      refine x_ineg C dX3_operate_35 ?_
      refine x_callV (dC := G3_push_dep) (as := [.int (-r11)]) (st := []) C rX kX (Nat.le_trans (Nat.le_of_ble_eq_true rfl) hd) (Nat.le_of_ble_eq_true rfl) o_t.1 o_t.2 (Nat.le_of_ble_eq_true rfl) rfl ts_2_0 tw_3_155 tw_3_153 tc_3_156 tw_1_4 hyX3 hnX3_push rfl (Nat.le_of_ble_eq_true rfl) dX3_operate_36 (G3_push_met C.2.2.2.2.2.2.2.1 (Nat.le_refl _) o_t h) (fun r0 μ19 hq => ?_)
      obtain ⟨rfl, h⟩ := hq
      refine x_st [] rfl ?_
      refine x_goto (tgt := 55) C dX3_operate_39 (by decide) ?_
      exact x_vret C hr dX3_operate_55 ⟨rfl, h⟩
  · have h := h.2 c12
    refine x_aload_n C rfl 1 rfl dX3_operate_11 ?_
    refine x_iload_n C rfl 0 rfl dX3_operate_12 ?_
    refine x_if_ne (tgt := 20) C dX3_operate_13 (by decide) (fun c20 => ?_) (fun c20 => ?_)
    · have h := h.1 c20
      refine x_iconst (v := 0) C (by decide) dX3_operate_20 ?_
      refine x_sub [] [] rfl ?_
      exact G3_operate_J21_ok C hd hr o_t h
    · have h := h.2 c20
      refine x_iconst (v := 1) C (by decide) dX3_operate_16 ?_
      refine x_goto (tgt := 21) C dX3_operate_17 (by decide) ?_
      refine x_sub [] [] rfl ?_
      exact G3_operate_J21_ok C hd hr o_t h
set_option maxHeartbeats 4000000 in
set_option maxRecDepth 100000 in
theorem G3_result_L7_b {p : Program} {e : Env} {s : State} {m : MethodId} {args : Array Value} {below : List Frame} {meth : Method} {c : Code} {l : Launch} {φ : Nat → Nat} {tc : Nat → ClassId} {D : va_G} {s0 : State} {dR : Nat} (C : CX p s m args meth c φ tc D (AX φ) s0 cX3_result RX3 4) (hd : G3_result_dep ≤ dR) (hr : meth.sig.returnType = (some .int)) {t : Nat} {a1 : Nat}  {Q : Int32 → MM → Prop} {K7 : Int32 × MM → Prop} {x : Int32 × MM} (o_t : Ob t 3) (o_a1 : Ob a1 13)  (hK7 : ∀ (z2 : Int32) (zμ : MM), K7 (z2, zμ) → WX p l e (rmX dR) s m args below meth c φ tc D (AX φ) 4 0 0 (MQ below (QX φ tc D (QI Q)) args s 0 0 (AX φ)) 7 [(0, .ref t), (1, .ref a1), (2, .int z2)] [] zμ) (h : G3_result_L7 t a1 Q K7 x) : WX p l e (rmX dR) s m args below meth c φ tc D (AX φ) 4 0 0 (MQ below (QX φ tc D (QI Q)) args s 0 0 (AX φ)) 7 [(0, .ref t), (1, .ref a1), (2, .int x.1)] [] x.2 := by
  unfold G3_result_L7 at h
  refine x_iload_n C rfl 2 rfl dX3_result_7 ?_
  refine x_aload_n C rfl 0 rfl dX3_result_8 ?_
  refine x_getI C (j := 1) o_t.1 o_t.2 (Nat.le_of_ble_eq_true rfl) (Nat.le_of_ble_eq_true rfl) (Or.inl rfl) tw_1_110 dX3_result_9 ?_
  refine x_icmp_ge (tgt := 77) C dX3_result_12 (by decide) (fun c11 => ?_) (fun c11 => ?_)
  · have h := h.1 c11
    refine x_aload_n C rfl 0 rfl dX3_result_77 ?_
    refine x_callV (dC := G3_pop_dep) (as := []) (st := []) C rX kX (Nat.le_trans (Nat.le_of_ble_eq_true rfl) hd) (Nat.le_of_ble_eq_true rfl) o_t.1 o_t.2 (Nat.le_of_ble_eq_true rfl) rfl ts_2_2 tw_3_163 tw_3_161 tc_3_164 tw_1_4 hyX3 hnX3_pop rfl (Nat.le_of_ble_eq_true rfl) dX3_result_78 (G3_pop_met C.2.2.2.2.2.2.2.1 (Nat.le_refl _) o_t h) (fun r0 μ12 hq => ?_)
    obtain ⟨r13, rfl, h⟩ := hq
    refine x_st [.int r13] rfl ?_
    exact x_iret C hr dX3_result_81 ⟨_, rfl, h⟩
  · have h := h.2 c11
    refine x_aload_n C rfl 0 rfl dX3_result_15 ?_
    refine x_getR (r := (t + 1)) C (j := 0) o_t.1 o_t.2 (Nat.le_of_ble_eq_true rfl) (Nat.le_of_ble_eq_true rfl) (fun _ _ _ => rfl) (rF3_0 o_t) tw_1_109 dX3_result_16 ?_
    refine x_iload_n C rfl 2 rfl dX3_result_19 ?_
    obtain ⟨c14, h⟩ := h
    refine x_iald C (obF3_0 o_t).1 (obF3_0 o_t).2 (by rw [lnF3_0 o_t]; exact c14) rfl dX3_result_20 ?_
    refine x_topi (fun y15 e_y15 => ?_)
    have h := h y15 e_y15
    refine x_istore_n C [(3, .int y15), (0, .ref t), (1, .ref a1), (2, .int x.1)] rfl (Nat.le_of_ble_eq_true rfl) rfl dX3_result_21 ?_
    refine x_iload_n C rfl 0 rfl dX3_result_22 ?_
    refine x_if_ge (tgt := 35) C dX3_result_23 (by decide) (fun c16 => ?_) (fun c16 => ?_)
    · have h := h.1 c16
      refine x_iload_n C rfl 0 rfl dX3_result_35 ?_
      refine x_sipush (v := 1000) C (by decide) dX3_result_36 ?_
      refine x_icmp_ge (tgt := 50) C dX3_result_39 (by decide) (fun c17 => ?_) (fun c17 => ?_)
      · have h := h.1 c17
        refine x_iload_n C rfl 0 rfl dX3_result_50 ?_
        refine x_sipush (v := 1000) C (by decide) dX3_result_51 ?_
        refine x_isub C dX3_result_54 ?_
        refine x_aload_n C rfl 2 rfl dX3_result_55 ?_
        refine x_alen C o_a1.1 (by rw [o_a1.2]; decide) rfl (by rw [o_a1.2]; decide) dX3_result_56 ?_
        refine x_icmp_ge (tgt := 71) C dX3_result_57 (by decide) (fun c18 => ?_) (fun c18 => ?_)
        · have h := h.1 c18
          refine x_iinc (v := (x.1 + 1)) C [(2, .int (x.1 + 1)), (3, .int y15), (0, .ref t), (1, .ref a1)] 3 rfl (congrArg (fun z => x.1 + z) (by decide : Int32.ofInt (1) = 1)) (Nat.le_of_ble_eq_true rfl) rfl dX3_result_71 ?_
          refine x_goto (tgt := 7) C dX3_result_74 (by decide) ?_
          refine x_sub [(0, .ref t), (1, .ref a1), (2, .int (x.1 + 1))] [2, 3, 0] rfl ?_
          exact hK7 _ _ h
        · have h := h.2 c18
          refine x_aload_n C rfl 1 rfl dX3_result_60 ?_
          refine x_aload_n C rfl 2 rfl dX3_result_61 ?_
          refine x_iload_n C rfl 0 rfl dX3_result_62 ?_
          refine x_sipush (v := 1000) C (by decide) dX3_result_63 ?_
          refine x_isub C dX3_result_66 ?_
          obtain ⟨c19, h⟩ := h
          refine x_iald C o_a1.1 o_a1.2 c19 rfl dX3_result_67 ?_
          refine x_callV (dC := G3_push_dep) (as := [.int (gI x.2 a1 ((y15 - 1000).toNatClampNeg))]) (st := []) C rX kX (Nat.le_trans (Nat.le_of_ble_eq_true rfl) hd) (Nat.le_of_ble_eq_true rfl) o_t.1 o_t.2 (Nat.le_of_ble_eq_true rfl) rfl ts_2_0 tw_3_155 tw_3_153 tc_3_156 tw_1_4 hyX3 hnX3_push rfl (Nat.le_of_ble_eq_true rfl) dX3_result_68 (G3_push_met C.2.2.2.2.2.2.2.1 (Nat.le_refl _) o_t h) (fun r0 μ20 hq => ?_)
          obtain ⟨rfl, h⟩ := hq
          refine x_st [] rfl ?_
          refine x_iinc (v := (x.1 + 1)) C [(2, .int (x.1 + 1)), (3, .int y15), (0, .ref t), (1, .ref a1)] 3 rfl (congrArg (fun z => x.1 + z) (by decide : Int32.ofInt (1) = 1)) (Nat.le_of_ble_eq_true rfl) rfl dX3_result_71 ?_
          refine x_goto (tgt := 7) C dX3_result_74 (by decide) ?_
          refine x_sub [(0, .ref t), (1, .ref a1), (2, .int (x.1 + 1))] [2, 3, 0] rfl ?_
          exact hK7 _ _ h
      · have h := h.2 c17
        refine x_aload_n C rfl 1 rfl dX3_result_42 ?_
        refine x_iload_n C rfl 0 rfl dX3_result_43 ?_
        refine x_callV (dC := G3_push_dep) (as := [.int y15]) (st := []) C rX kX (Nat.le_trans (Nat.le_of_ble_eq_true rfl) hd) (Nat.le_of_ble_eq_true rfl) o_t.1 o_t.2 (Nat.le_of_ble_eq_true rfl) rfl ts_2_0 tw_3_155 tw_3_153 tc_3_156 tw_1_4 hyX3 hnX3_push rfl (Nat.le_of_ble_eq_true rfl) dX3_result_44 (G3_push_met C.2.2.2.2.2.2.2.1 (Nat.le_refl _) o_t h) (fun r0 μ21 hq => ?_)
        obtain ⟨rfl, h⟩ := hq
        refine x_st [] rfl ?_
        refine x_goto (tgt := 71) C dX3_result_47 (by decide) ?_
        refine x_iinc (v := (x.1 + 1)) C [(2, .int (x.1 + 1)), (3, .int y15), (0, .ref t), (1, .ref a1)] 3 rfl (congrArg (fun z => x.1 + z) (by decide : Int32.ofInt (1) = 1)) (Nat.le_of_ble_eq_true rfl) rfl dX3_result_71 ?_
        refine x_goto (tgt := 7) C dX3_result_74 (by decide) ?_
        refine x_sub [(0, .ref t), (1, .ref a1), (2, .int (x.1 + 1))] [2, 3, 0] rfl ?_
        exact hK7 _ _ h
    · have h := h.2 c16
      refine x_aload_n C rfl 1 rfl dX3_result_26 ?_
      refine x_iload_n C rfl 0 rfl dX3_result_27 ?_
      refine x_ineg C dX3_result_28 ?_
      refine x_callV (dC := G3_operate_dep) (as := [.int (-y15)]) (st := []) C rX kX (Nat.le_trans (Nat.le_of_ble_eq_true rfl) hd) (Nat.le_of_ble_eq_true rfl) o_t.1 o_t.2 (Nat.le_of_ble_eq_true rfl) rfl ts_2_12 tw_3_213 tw_3_211 tc_3_214 tw_1_4 hyX3 hnX3_operate rfl (Nat.le_of_ble_eq_true rfl) dX3_result_29 (G3_operate_met C.2.2.2.2.2.2.2.1 (Nat.le_refl _) o_t h) (fun r0 μ22 hq => ?_)
      obtain ⟨rfl, h⟩ := hq
      refine x_st [] rfl ?_
      refine x_goto (tgt := 71) C dX3_result_32 (by decide) ?_
      refine x_iinc (v := (x.1 + 1)) C [(2, .int (x.1 + 1)), (3, .int y15), (0, .ref t), (1, .ref a1)] 3 rfl (congrArg (fun z => x.1 + z) (by decide : Int32.ofInt (1) = 1)) (Nat.le_of_ble_eq_true rfl) rfl dX3_result_71 ?_
      refine x_goto (tgt := 7) C dX3_result_74 (by decide) ?_
      refine x_sub [(0, .ref t), (1, .ref a1), (2, .int (x.1 + 1))] [2, 3, 0] rfl ?_
      exact hK7 _ _ h
theorem G3_result_L7_ok {p : Program} {e : Env} {s : State} {m : MethodId} {args : Array Value} {below : List Frame} {meth : Method} {c : Code} {l : Launch} {φ : Nat → Nat} {tc : Nat → ClassId} {D : va_G} {s0 : State} {dR : Nat} (C : CX p s m args meth c φ tc D (AX φ) s0 cX3_result RX3 4) (hd : G3_result_dep ≤ dR) (hr : meth.sig.returnType = (some .int)) {t : Nat} {a1 : Nat}  {Q : Int32 → MM → Prop}  {x : Int32 × MM} (o_t : Ob t 3) (o_a1 : Ob a1 13)   (h : Lp (G3_result_L7 t a1 Q) x) : WX p l e (rmX dR) s m args below meth c φ tc D (AX φ) 4 0 0 (MQ below (QX φ tc D (QI Q)) args s 0 0 (AX φ)) 7 [(0, .ref t), (1, .ref a1), (2, .int x.1)] [] x.2 := by
  obtain ⟨n, h⟩ := h
  induction n generalizing x with
  | zero => exact h.elim
  | succ n ih => exact G3_result_L7_b C hd hr o_t o_a1  (fun z2 zμ hz => by have q := ih hz; exact q) h
set_option maxHeartbeats 4000000 in
set_option maxRecDepth 100000 in
theorem G3_result_met {l : Launch} {φ : Nat → Nat} {tc : Nat → ClassId} {D : va_G} {s0 : State} (hG : GX φ tc D s0) {dR : Nat} (hd : G3_result_dep ≤ dR) {t : Nat} {a1 : Nat} {μ : MM} {Q : Int32 → MM → Prop} (o_t : Ob t 3) (o_a1 : Ob a1 13) (h : G3_result t a1 μ Q) : MX l φ tc D s0 dR yX3_result cX3_result 4 (some .int) [.ref t, .ref a1] μ (QI Q) := by
  refine MX.of (own := RX3) hG plX3 rfl (Nat.le_of_ble_eq_true rfl) (fun p e s m args below meth c C hr => ?_)
  refine x_sub [(0, .ref t), (1, .ref a1)] [0, 1] rfl ?_
  unfold G3_result at h
  refine x_aload_n C rfl 0 rfl dX3_result_0 ?_
  refine x_iconst (v := 0) C (by decide) dX3_result_1 ?_
  refine x_putI C (j := 3) o_t.1 o_t.2 (Nat.le_of_ble_eq_true rfl) (Nat.le_of_ble_eq_true rfl) (Or.inl rfl) rfl rfl rfl tw_1_112 dX3_result_2 ?_
  refine x_mu (fun μ10 e_μ10 => ?_)
  have h := h μ10 e_μ10
  refine x_iconst (v := 0) C (by decide) dX3_result_5 ?_
  refine x_istore_n C [(2, .int 0), (0, .ref t), (1, .ref a1)] rfl (Nat.le_of_ble_eq_true rfl) rfl dX3_result_6 ?_
  refine x_sub [(0, .ref t), (1, .ref a1), (2, .int 0)] [1, 2, 0] rfl ?_
  exact G3_result_L7_ok C hd hr o_t o_a1 h
set_option maxHeartbeats 4000000 in
set_option maxRecDepth 100000 in
theorem G10_lookAt_met {l : Launch} {φ : Nat → Nat} {tc : Nat → ClassId} {D : va_G} {s0 : State} (hG : GX φ tc D s0) {dR : Nat} (hd : G10_lookAt_dep ≤ dR) {a1 : Nat} {μ : MM} {Q : MM → Prop} (o_a1 : Ob a1 5) (h : G10_lookAt a1 μ Q) : MX l φ tc D s0 dR yX10_lookAt cX10_lookAt 2 none [.ref 1, .ref a1] μ (QV Q) := by
  refine MX.of (own := RX10) hG plX10 rfl (Nat.le_of_ble_eq_true rfl) (fun p e s m args below meth c C hr => ?_)
  refine x_sub [(0, .ref 1), (1, .ref a1)] [0, 1] rfl ?_
  unfold G10_lookAt at h
  refine x_aload_n C rfl 0 rfl dX10_lookAt_0 ?_
  refine x_getR (r := 12) C (j := 13) ob1.1 ob1.2 (Nat.le_of_ble_eq_true rfl) (Nat.le_of_ble_eq_true rfl) (fun _ _ _ => rfl) r_1_13 tw_1_160 dX10_lookAt_1 ?_
  refine x_iconst (v := 0) C (by decide) dX10_lookAt_4 ?_
  refine x_aload_n C rfl 1 rfl dX10_lookAt_5 ?_
  refine x_getIN C (j := 2) o_a1.1 o_a1.2 (Nat.le_of_ble_eq_true rfl) (Nat.le_of_ble_eq_true rfl) (Or.inl rfl) tw_1_60 dX10_lookAt_6 ?_
  refine x_iast C ob12.1 ob12.2 (by unfold vp_in; decide) (j := 0) (by decide) dX10_lookAt_9 ?_
  refine x_mu (fun μ22 e_μ22 => ?_)
  have h := h μ22 e_μ22
  refine x_aload_n C rfl 0 rfl dX10_lookAt_10 ?_
  refine x_getR (r := 12) C (j := 13) ob1.1 ob1.2 (Nat.le_of_ble_eq_true rfl) (Nat.le_of_ble_eq_true rfl) (fun _ _ _ => rfl) r_1_13 tw_1_160 dX10_lookAt_11 ?_
  refine x_iconst (v := 1) C (by decide) dX10_lookAt_14 ?_
  refine x_aload_n C rfl 1 rfl dX10_lookAt_15 ?_
  refine x_getIN C (j := 3) o_a1.1 o_a1.2 (Nat.le_of_ble_eq_true rfl) (Nat.le_of_ble_eq_true rfl) (Or.inl rfl) tw_1_63 dX10_lookAt_16 ?_
  refine x_iast C ob12.1 ob12.2 (by unfold vp_in; decide) (j := 1) (by decide) dX10_lookAt_19 ?_
  refine x_mu (fun μ23 e_μ23 => ?_)
  have h := h μ23 e_μ23
  refine x_aload_n C rfl 0 rfl dX10_lookAt_20 ?_
  refine x_getR (r := 12) C (j := 13) ob1.1 ob1.2 (Nat.le_of_ble_eq_true rfl) (Nat.le_of_ble_eq_true rfl) (fun _ _ _ => rfl) r_1_13 tw_1_160 dX10_lookAt_21 ?_
  refine x_iconst (v := 2) C (by decide) dX10_lookAt_24 ?_
  refine x_aload_n C rfl 1 rfl dX10_lookAt_25 ?_
  refine x_getIN C (j := 4) o_a1.1 o_a1.2 (Nat.le_of_ble_eq_true rfl) (Nat.le_of_ble_eq_true rfl) (Or.inl rfl) tw_1_66 dX10_lookAt_26 ?_
  refine x_iast C ob12.1 ob12.2 (by unfold vp_in; decide) (j := 2) (by decide) dX10_lookAt_29 ?_
  refine x_mu (fun μ24 e_μ24 => ?_)
  have h := h μ24 e_μ24
  refine x_aload_n C rfl 0 rfl dX10_lookAt_30 ?_
  refine x_getR (r := 12) C (j := 13) ob1.1 ob1.2 (Nat.le_of_ble_eq_true rfl) (Nat.le_of_ble_eq_true rfl) (fun _ _ _ => rfl) r_1_13 tw_1_160 dX10_lookAt_31 ?_
  refine x_iconst (v := 3) C (by decide) dX10_lookAt_34 ?_
  refine x_aload_n C rfl 1 rfl dX10_lookAt_35 ?_
  refine x_getIN C (j := 5) o_a1.1 o_a1.2 (Nat.le_of_ble_eq_true rfl) (Nat.le_of_ble_eq_true rfl) (Or.inl rfl) tw_1_68 dX10_lookAt_36 ?_
  refine x_iast C ob12.1 ob12.2 (by unfold vp_in; decide) (j := 3) (by decide) dX10_lookAt_39 ?_
  refine x_mu (fun μ25 e_μ25 => ?_)
  have h := h μ25 e_μ25
  refine x_aload_n C rfl 0 rfl dX10_lookAt_40 ?_
  refine x_getR (r := 12) C (j := 13) ob1.1 ob1.2 (Nat.le_of_ble_eq_true rfl) (Nat.le_of_ble_eq_true rfl) (fun _ _ _ => rfl) r_1_13 tw_1_160 dX10_lookAt_41 ?_
  refine x_iconst (v := 4) C (by decide) dX10_lookAt_44 ?_
  refine x_aload_n C rfl 0 rfl dX10_lookAt_45 ?_
  refine x_getR (r := 2) C (j := 0) ob1.1 ob1.2 (Nat.le_of_ble_eq_true rfl) (Nat.le_of_ble_eq_true rfl) (fun _ _ _ => rfl) r_1_0 tw_1_122 dX10_lookAt_46 ?_
  refine x_aload_n C rfl 1 rfl dX10_lookAt_49 ?_
  refine x_getIN C (j := 1) o_a1.1 o_a1.2 (Nat.le_of_ble_eq_true rfl) (Nat.le_of_ble_eq_true rfl) (Or.inl rfl) tw_1_56 dX10_lookAt_50 ?_
  obtain ⟨c26, h⟩ := h
  refine x_iald C ob2.1 ob2.2 c26 rfl dX10_lookAt_53 ?_
  refine x_iast C ob12.1 ob12.2 (by unfold vp_in; decide) (j := 4) (by decide) dX10_lookAt_54 ?_
  refine x_mu (fun μ27 e_μ27 => ?_)
  have h := h μ27 e_μ27
  refine x_aload_n C rfl 0 rfl dX10_lookAt_55 ?_
  refine x_getR (r := 12) C (j := 13) ob1.1 ob1.2 (Nat.le_of_ble_eq_true rfl) (Nat.le_of_ble_eq_true rfl) (fun _ _ _ => rfl) r_1_13 tw_1_160 dX10_lookAt_56 ?_
  refine x_iconst (v := 5) C (by decide) dX10_lookAt_59 ?_
  refine x_aload_n C rfl 0 rfl dX10_lookAt_60 ?_
  refine x_getR (r := 3) C (j := 1) ob1.1 ob1.2 (Nat.le_of_ble_eq_true rfl) (Nat.le_of_ble_eq_true rfl) (fun _ _ _ => rfl) r_1_1 tw_1_124 dX10_lookAt_61 ?_
  refine x_aload_n C rfl 1 rfl dX10_lookAt_64 ?_
  refine x_getIN C (j := 1) o_a1.1 o_a1.2 (Nat.le_of_ble_eq_true rfl) (Nat.le_of_ble_eq_true rfl) (Or.inl rfl) tw_1_56 dX10_lookAt_65 ?_
  obtain ⟨c28, h⟩ := h
  refine x_iald C ob3.1 ob3.2 c28 rfl dX10_lookAt_68 ?_
  refine x_iast C ob12.1 ob12.2 (by unfold vp_in; decide) (j := 5) (by decide) dX10_lookAt_69 ?_
  refine x_mu (fun μ29 e_μ29 => ?_)
  have h := h μ29 e_μ29
  refine x_aload_n C rfl 0 rfl dX10_lookAt_70 ?_
  refine x_getR (r := 12) C (j := 13) ob1.1 ob1.2 (Nat.le_of_ble_eq_true rfl) (Nat.le_of_ble_eq_true rfl) (fun _ _ _ => rfl) r_1_13 tw_1_160 dX10_lookAt_71 ?_
  refine x_bipush (v := 6) C (by decide) dX10_lookAt_74 ?_
  refine x_aload_n C rfl 0 rfl dX10_lookAt_76 ?_
  refine x_getR (r := 4) C (j := 2) ob1.1 ob1.2 (Nat.le_of_ble_eq_true rfl) (Nat.le_of_ble_eq_true rfl) (fun _ _ _ => rfl) r_1_2 tw_1_126 dX10_lookAt_77 ?_
  refine x_aload_n C rfl 1 rfl dX10_lookAt_80 ?_
  refine x_getIN C (j := 1) o_a1.1 o_a1.2 (Nat.le_of_ble_eq_true rfl) (Nat.le_of_ble_eq_true rfl) (Or.inl rfl) tw_1_56 dX10_lookAt_81 ?_
  obtain ⟨c30, h⟩ := h
  refine x_iald C ob4.1 ob4.2 c30 rfl dX10_lookAt_84 ?_
  refine x_iast C ob12.1 ob12.2 (by unfold vp_in; decide) (j := 6) (by decide) dX10_lookAt_85 ?_
  refine x_mu (fun μ31 e_μ31 => ?_)
  have h := h μ31 e_μ31
  refine x_aload_n C rfl 0 rfl dX10_lookAt_86 ?_
  refine x_getR (r := 12) C (j := 13) ob1.1 ob1.2 (Nat.le_of_ble_eq_true rfl) (Nat.le_of_ble_eq_true rfl) (fun _ _ _ => rfl) r_1_13 tw_1_160 dX10_lookAt_87 ?_
  refine x_bipush (v := 7) C (by decide) dX10_lookAt_90 ?_
  refine x_aload_n C rfl 0 rfl dX10_lookAt_92 ?_
  refine x_getR (r := 5) C (j := 3) ob1.1 ob1.2 (Nat.le_of_ble_eq_true rfl) (Nat.le_of_ble_eq_true rfl) (fun _ _ _ => rfl) r_1_3 tw_1_128 dX10_lookAt_93 ?_
  refine x_aload_n C rfl 1 rfl dX10_lookAt_96 ?_
  refine x_getIN C (j := 1) o_a1.1 o_a1.2 (Nat.le_of_ble_eq_true rfl) (Nat.le_of_ble_eq_true rfl) (Or.inl rfl) tw_1_56 dX10_lookAt_97 ?_
  obtain ⟨c32, h⟩ := h
  refine x_iald C ob5.1 ob5.2 c32 rfl dX10_lookAt_100 ?_
  refine x_iast C ob12.1 ob12.2 (by unfold vp_in; decide) (j := 7) (by decide) dX10_lookAt_101 ?_
  refine x_mu (fun μ33 e_μ33 => ?_)
  have h := h μ33 e_μ33
  refine x_aload_n C rfl 0 rfl dX10_lookAt_102 ?_
  refine x_getR (r := 12) C (j := 13) ob1.1 ob1.2 (Nat.le_of_ble_eq_true rfl) (Nat.le_of_ble_eq_true rfl) (fun _ _ _ => rfl) r_1_13 tw_1_160 dX10_lookAt_103 ?_
  refine x_bipush (v := 8) C (by decide) dX10_lookAt_106 ?_
  refine x_aload_n C rfl 0 rfl dX10_lookAt_108 ?_
  refine x_getR (r := 6) C (j := 5) ob1.1 ob1.2 (Nat.le_of_ble_eq_true rfl) (Nat.le_of_ble_eq_true rfl) (fun _ _ _ => rfl) r_1_5 tw_1_133 dX10_lookAt_109 ?_
  refine x_aload_n C rfl 1 rfl dX10_lookAt_112 ?_
  refine x_getIN C (j := 0) o_a1.1 o_a1.2 (Nat.le_of_ble_eq_true rfl) (Nat.le_of_ble_eq_true rfl) (Or.inl rfl) tw_1_54 dX10_lookAt_113 ?_
  obtain ⟨c34, h⟩ := h
  refine x_iald C ob6.1 ob6.2 c34 rfl dX10_lookAt_116 ?_
  refine x_iast C ob12.1 ob12.2 (by unfold vp_in; decide) (j := 8) (by decide) dX10_lookAt_117 ?_
  refine x_mu (fun μ35 e_μ35 => ?_)
  have h := h μ35 e_μ35
  refine x_aload_n C rfl 0 rfl dX10_lookAt_118 ?_
  refine x_getR (r := 12) C (j := 13) ob1.1 ob1.2 (Nat.le_of_ble_eq_true rfl) (Nat.le_of_ble_eq_true rfl) (fun _ _ _ => rfl) r_1_13 tw_1_160 dX10_lookAt_119 ?_
  refine x_bipush (v := 9) C (by decide) dX10_lookAt_122 ?_
  refine x_aload_n C rfl 0 rfl dX10_lookAt_124 ?_
  refine x_getR (r := 7) C (j := 6) ob1.1 ob1.2 (Nat.le_of_ble_eq_true rfl) (Nat.le_of_ble_eq_true rfl) (fun _ _ _ => rfl) r_1_6 tw_1_135 dX10_lookAt_125 ?_
  refine x_aload_n C rfl 1 rfl dX10_lookAt_128 ?_
  refine x_getIN C (j := 0) o_a1.1 o_a1.2 (Nat.le_of_ble_eq_true rfl) (Nat.le_of_ble_eq_true rfl) (Or.inl rfl) tw_1_54 dX10_lookAt_129 ?_
  obtain ⟨c36, h⟩ := h
  refine x_iald C ob7.1 ob7.2 c36 rfl dX10_lookAt_132 ?_
  refine x_iast C ob12.1 ob12.2 (by unfold vp_in; decide) (j := 9) (by decide) dX10_lookAt_133 ?_
  refine x_mu (fun μ37 e_μ37 => ?_)
  have h := h μ37 e_μ37
  refine x_aload_n C rfl 0 rfl dX10_lookAt_134 ?_
  refine x_getR (r := 12) C (j := 13) ob1.1 ob1.2 (Nat.le_of_ble_eq_true rfl) (Nat.le_of_ble_eq_true rfl) (fun _ _ _ => rfl) r_1_13 tw_1_160 dX10_lookAt_135 ?_
  refine x_bipush (v := 10) C (by decide) dX10_lookAt_138 ?_
  refine x_iconst (v := 0) C (by decide) dX10_lookAt_140 ?_
  refine x_iast C ob12.1 ob12.2 (by unfold vp_in; decide) (j := 10) (by decide) dX10_lookAt_141 ?_
  refine x_mu (fun μ38 e_μ38 => ?_)
  have h := h μ38 e_μ38
  refine x_aload_n C rfl 0 rfl dX10_lookAt_142 ?_
  refine x_getR (r := 12) C (j := 13) ob1.1 ob1.2 (Nat.le_of_ble_eq_true rfl) (Nat.le_of_ble_eq_true rfl) (fun _ _ _ => rfl) r_1_13 tw_1_160 dX10_lookAt_143 ?_
  refine x_bipush (v := 11) C (by decide) dX10_lookAt_146 ?_
  refine x_iconst (v := 0) C (by decide) dX10_lookAt_148 ?_
  refine x_iast C ob12.1 ob12.2 (by unfold vp_in; decide) (j := 11) (by decide) dX10_lookAt_149 ?_
  refine x_mu (fun μ39 e_μ39 => ?_)
  have h := h μ39 e_μ39
  refine x_aload_n C rfl 0 rfl dX10_lookAt_150 ?_
  refine x_getR (r := 12) C (j := 13) ob1.1 ob1.2 (Nat.le_of_ble_eq_true rfl) (Nat.le_of_ble_eq_true rfl) (fun _ _ _ => rfl) r_1_13 tw_1_160 dX10_lookAt_151 ?_
  refine x_bipush (v := 12) C (by decide) dX10_lookAt_154 ?_
  refine x_iconst (v := 0) C (by decide) dX10_lookAt_156 ?_
  refine x_iast C ob12.1 ob12.2 (by unfold vp_in; decide) (j := 12) (by decide) dX10_lookAt_157 ?_
  refine x_mu (fun μ40 e_μ40 => ?_)
  have h := h μ40 e_μ40
  refine x_aload_n C rfl 0 rfl dX10_lookAt_158 ?_
  refine x_getR (r := 12) C (j := 13) ob1.1 ob1.2 (Nat.le_of_ble_eq_true rfl) (Nat.le_of_ble_eq_true rfl) (fun _ _ _ => rfl) r_1_13 tw_1_160 dX10_lookAt_159 ?_
  refine x_bipush (v := 13) C (by decide) dX10_lookAt_162 ?_
  refine x_aload_n C rfl 1 rfl dX10_lookAt_164 ?_
  refine x_getIN C (j := 7) o_a1.1 o_a1.2 (Nat.le_of_ble_eq_true rfl) (Nat.le_of_ble_eq_true rfl) (Or.inr rfl) tw_1_80 dX10_lookAt_165 ?_
  refine x_if_eq (tgt := 175) C dX10_lookAt_168 (by decide) (fun c41 => ?_) (fun c41 => ?_)
  · have h := h.1 c41
    refine x_iconst (v := 0) C (by decide) dX10_lookAt_175 ?_
    refine x_iast C ob12.1 ob12.2 (by unfold vp_in; decide) (j := 13) (by decide) dX10_lookAt_176 ?_
    refine x_mu (fun μ42 e_μ42 => ?_)
    have h := h μ42 e_μ42
    exact x_vret C hr dX10_lookAt_177 ⟨rfl, h⟩
  · have h := h.2 c41
    refine x_iconst (v := 1) C (by decide) dX10_lookAt_171 ?_
    refine x_goto (tgt := 176) C dX10_lookAt_172 (by decide) ?_
    refine x_iast C ob12.1 ob12.2 (by unfold vp_in; decide) (j := 13) (by decide) dX10_lookAt_176 ?_
    refine x_mu (fun μ43 e_μ43 => ?_)
    have h := h μ43 e_μ43
    exact x_vret C hr dX10_lookAt_177 ⟨rfl, h⟩
set_option maxHeartbeats 4000000 in
set_option maxRecDepth 100000 in
theorem G10_lookAtHouse_J99_ok {p : Program} {e : Env} {s : State} {m : MethodId} {args : Array Value} {below : List Frame} {meth : Method} {c : Code} {l : Launch} {φ : Nat → Nat} {tc : Nat → ClassId} {D : va_G} {s0 : State} {dR : Nat} (C : CX p s m args meth c φ tc D (AX φ) s0 cX10_lookAtHouse RX10 4) (hd : G10_lookAtHouse_dep ≤ dR) (hr : meth.sig.returnType = none)   {p1 : Int32} {p2 : Int32} {q0 : Int32} {q1 : Int32} {Q : MM → Prop} {K2 : Int32 × MM → Prop} {μ : MM}   (hK2 : ∀ (z2 : Int32) (zμ : MM), K2 (z2, zμ) → WX p l e (rmX dR) s m args below meth c φ tc D (AX φ) 4 0 0 (MQ below (QX φ tc D (QV Q)) args s 0 0 (AX φ)) 2 [(0, .ref 1), (1, .int p1), (2, .int z2)] [] zμ) (h : G10_lookAtHouse_J99 p1 p2 q0 q1 μ K2 Q) : WX p l e (rmX dR) s m args below meth c φ tc D (AX φ) 4 0 0 (MQ below (QX φ tc D (QV Q)) args s 0 0 (AX φ)) 99 [(0, .ref 1), (1, .int p1), (2, .int p2)] [.int q0, .int q1, .ref 12] μ := by
  unfold G10_lookAtHouse_J99 at h
  obtain ⟨c16, h⟩ := h
  refine x_iast C ob12.1 ob12.2 c16 rfl dX10_lookAtHouse_99 ?_
  refine x_mu (fun μ17 e_μ17 => ?_)
  have h := h μ17 e_μ17
  refine x_iinc (v := (p2 + 1)) C [(2, .int (p2 + 1)), (0, .ref 1), (1, .int p1)] 2 rfl (congrArg (fun z => p2 + z) (by decide : Int32.ofInt (1) = 1)) (Nat.le_of_ble_eq_true rfl) rfl dX10_lookAtHouse_100 ?_
  refine x_goto (tgt := 2) C dX10_lookAtHouse_103 (by decide) ?_
  refine x_sub [(0, .ref 1), (1, .int p1), (2, .int (p2 + 1))] [1, 2, 0] rfl ?_
  exact hK2 _ _ h
set_option maxHeartbeats 4000000 in
set_option maxRecDepth 100000 in
theorem G10_lookAtHouse_J52_ok {p : Program} {e : Env} {s : State} {m : MethodId} {args : Array Value} {below : List Frame} {meth : Method} {c : Code} {l : Launch} {φ : Nat → Nat} {tc : Nat → ClassId} {D : va_G} {s0 : State} {dR : Nat} (C : CX p s m args meth c φ tc D (AX φ) s0 cX10_lookAtHouse RX10 4) (hd : G10_lookAtHouse_dep ≤ dR) (hr : meth.sig.returnType = none)   {p1 : Int32} {p2 : Int32} {p3 : Nat} {q0 : Int32} {q1 : Int32} {q2 : Int32} {Q : MM → Prop} {K2 : Int32 × MM → Prop} {μ : MM}  (o_p3 : Ob p3 5) (hK2 : ∀ (z2 : Int32) (zμ : MM), K2 (z2, zμ) → WX p l e (rmX dR) s m args below meth c φ tc D (AX φ) 4 0 0 (MQ below (QX φ tc D (QV Q)) args s 0 0 (AX φ)) 2 [(0, .ref 1), (1, .int p1), (2, .int z2)] [] zμ) (h : G10_lookAtHouse_J52 p1 p2 p3 q0 q1 q2 μ K2 Q) : WX p l e (rmX dR) s m args below meth c φ tc D (AX φ) 4 0 0 (MQ below (QX φ tc D (QV Q)) args s 0 0 (AX φ)) 52 [(0, .ref 1), (1, .int p1), (2, .int p2), (3, .ref p3)] [.int q0, .int q1, .int q2, .ref 12] μ := by
  unfold G10_lookAtHouse_J52 at h
  refine x_iadd C dX10_lookAtHouse_52 ?_
  obtain ⟨c12, h⟩ := h
  refine x_iast C ob12.1 ob12.2 c12 rfl dX10_lookAtHouse_53 ?_
  refine x_mu (fun μ13 e_μ13 => ?_)
  have h := h μ13 e_μ13
  refine x_aload_n C rfl 0 rfl dX10_lookAtHouse_54 ?_
  refine x_getR (r := 12) C (j := 13) ob1.1 ob1.2 (Nat.le_of_ble_eq_true rfl) (Nat.le_of_ble_eq_true rfl) (fun _ _ _ => rfl) r_1_13 tw_1_160 dX10_lookAtHouse_55 ?_
  refine x_bipush (v := 11) C (by decide) dX10_lookAtHouse_58 ?_
  refine x_dup2_11 C rfl rfl dX10_lookAtHouse_60 ?_
  refine x_iald C ob12.1 ob12.2 (by unfold vp_in; decide) (j := 11) (by decide) dX10_lookAtHouse_61 ?_
  refine x_iconst (v := 1) C (by decide) dX10_lookAtHouse_62 ?_
  refine x_iadd C dX10_lookAtHouse_63 ?_
  refine x_iast C ob12.1 ob12.2 (by unfold vp_in; decide) (j := 11) (by decide) dX10_lookAtHouse_64 ?_
  refine x_mu (fun μ14 e_μ14 => ?_)
  have h := h μ14 e_μ14
  refine x_aload_n C rfl 0 rfl dX10_lookAtHouse_65 ?_
  refine x_getR (r := 12) C (j := 13) ob1.1 ob1.2 (Nat.le_of_ble_eq_true rfl) (Nat.le_of_ble_eq_true rfl) (fun _ _ _ => rfl) r_1_13 tw_1_160 dX10_lookAtHouse_66 ?_
  refine x_bipush (v := 12) C (by decide) dX10_lookAtHouse_69 ?_
  refine x_aload_n C rfl 3 rfl dX10_lookAtHouse_71 ?_
  refine x_getIN C (j := 2) o_p3.1 o_p3.2 (Nat.le_of_ble_eq_true rfl) (Nat.le_of_ble_eq_true rfl) (Or.inl rfl) tw_1_60 dX10_lookAtHouse_72 ?_
  refine x_aload_n C rfl 0 rfl dX10_lookAtHouse_75 ?_
  refine x_getR (r := 12) C (j := 13) ob1.1 ob1.2 (Nat.le_of_ble_eq_true rfl) (Nat.le_of_ble_eq_true rfl) (fun _ _ _ => rfl) r_1_13 tw_1_160 dX10_lookAtHouse_76 ?_
  refine x_bipush (v := 12) C (by decide) dX10_lookAtHouse_79 ?_
  refine x_iald C ob12.1 ob12.2 (by unfold vp_in; decide) (j := 12) (by decide) dX10_lookAtHouse_81 ?_
  refine x_icmp_le (tgt := 92) C dX10_lookAtHouse_82 (by decide) (fun c15 => ?_) (fun c15 => ?_)
  · have h := h.1 c15
    refine x_aload_n C rfl 0 rfl dX10_lookAtHouse_92 ?_
    refine x_getR (r := 12) C (j := 13) ob1.1 ob1.2 (Nat.le_of_ble_eq_true rfl) (Nat.le_of_ble_eq_true rfl) (fun _ _ _ => rfl) r_1_13 tw_1_160 dX10_lookAtHouse_93 ?_
    refine x_bipush (v := 12) C (by decide) dX10_lookAtHouse_96 ?_
    refine x_iald C ob12.1 ob12.2 (by unfold vp_in; decide) (j := 12) (by decide) dX10_lookAtHouse_98 ?_
    refine x_sub [(0, .ref 1), (1, .int p1), (2, .int p2)] [0, 1, 2] rfl ?_
    exact G10_lookAtHouse_J99_ok C hd hr hK2 h
  · have h := h.2 c15
    refine x_aload_n C rfl 3 rfl dX10_lookAtHouse_85 ?_
    refine x_getIN C (j := 2) o_p3.1 o_p3.2 (Nat.le_of_ble_eq_true rfl) (Nat.le_of_ble_eq_true rfl) (Or.inl rfl) tw_1_60 dX10_lookAtHouse_86 ?_
    refine x_goto (tgt := 99) C dX10_lookAtHouse_89 (by decide) ?_
    refine x_sub [(0, .ref 1), (1, .int p1), (2, .int p2)] [0, 1, 2] rfl ?_
    exact G10_lookAtHouse_J99_ok C hd hr hK2 h
set_option maxHeartbeats 4000000 in
set_option maxRecDepth 100000 in
theorem G10_lookAtHouse_L2_b {p : Program} {e : Env} {s : State} {m : MethodId} {args : Array Value} {below : List Frame} {meth : Method} {c : Code} {l : Launch} {φ : Nat → Nat} {tc : Nat → ClassId} {D : va_G} {s0 : State} {dR : Nat} (C : CX p s m args meth c φ tc D (AX φ) s0 cX10_lookAtHouse RX10 4) (hd : G10_lookAtHouse_dep ≤ dR) (hr : meth.sig.returnType = none)  {p1 : Int32} {Q : MM → Prop} {K2 : Int32 × MM → Prop} {x : Int32 × MM}   (hK2 : ∀ (z2 : Int32) (zμ : MM), K2 (z2, zμ) → WX p l e (rmX dR) s m args below meth c φ tc D (AX φ) 4 0 0 (MQ below (QX φ tc D (QV Q)) args s 0 0 (AX φ)) 2 [(0, .ref 1), (1, .int p1), (2, .int z2)] [] zμ) (h : G10_lookAtHouse_L2 p1 Q K2 x) : WX p l e (rmX dR) s m args below meth c φ tc D (AX φ) 4 0 0 (MQ below (QX φ tc D (QV Q)) args s 0 0 (AX φ)) 2 [(0, .ref 1), (1, .int p1), (2, .int x.1)] [] x.2 := by
  unfold G10_lookAtHouse_L2 at h
  refine x_iload_n C rfl 2 rfl dX10_lookAtHouse_2 ?_
  refine x_aload_n C rfl 0 rfl dX10_lookAtHouse_3 ?_
  refine x_getI C (j := 10) ob1.1 ob1.2 (Nat.le_of_ble_eq_true rfl) (Nat.le_of_ble_eq_true rfl) (Or.inl rfl) tw_1_153 dX10_lookAtHouse_4 ?_
  refine x_icmp_ge (tgt := 106) C dX10_lookAtHouse_7 (by decide) (fun c7 => ?_) (fun c7 => ?_)
  · have h := h.1 c7
    exact x_vret C hr dX10_lookAtHouse_106 ⟨rfl, h⟩
  · have h := h.2 c7
    refine x_aload_n C rfl 0 rfl dX10_lookAtHouse_10 ?_
    refine x_getR (r := 9) C (j := 9) ob1.1 ob1.2 (Nat.le_of_ble_eq_true rfl) (Nat.le_of_ble_eq_true rfl) (fun _ _ _ => rfl) r_1_9 tw_1_143 dX10_lookAtHouse_11 ?_
    refine x_iload_n C rfl 2 rfl dX10_lookAtHouse_14 ?_
    obtain ⟨c8, h⟩ := h
    refine x_aald (r := (19 + x.1.toNatClampNeg)) C ob9.1 (by decide) (by decide) c8 rfl (rA9 c8) dX10_lookAtHouse_15 ?_
    refine x_astore_n C [(3, .ref (19 + x.1.toNatClampNeg)), (0, .ref 1), (1, .int p1), (2, .int x.1)] rfl (Nat.le_of_ble_eq_true rfl) rfl dX10_lookAtHouse_16 ?_
    refine x_aload_n C rfl 0 rfl dX10_lookAtHouse_17 ?_
    refine x_getIN C (j := 0) (obA9 c8).1 (obA9 c8).2 (Nat.le_of_ble_eq_true rfl) (Nat.le_of_ble_eq_true rfl) (Or.inl rfl) tw_1_54 dX10_lookAtHouse_18 ?_
    refine x_iload_n C rfl 2 rfl dX10_lookAtHouse_21 ?_
    refine x_icmp_ne (tgt := 100) C dX10_lookAtHouse_22 (by decide) (fun c9 => ?_) (fun c9 => ?_)
    · have h := h.1 c9
      refine x_iinc (v := (x.1 + 1)) C [(2, .int (x.1 + 1)), (3, .ref (19 + x.1.toNatClampNeg)), (0, .ref 1), (1, .int p1)] 3 rfl (congrArg (fun z => x.1 + z) (by decide : Int32.ofInt (1) = 1)) (Nat.le_of_ble_eq_true rfl) rfl dX10_lookAtHouse_100 ?_
      refine x_goto (tgt := 2) C dX10_lookAtHouse_103 (by decide) ?_
      refine x_sub [(0, .ref 1), (1, .int p1), (2, .int (x.1 + 1))] [2, 3, 0] rfl ?_
      exact hK2 _ _ h
    · have h := h.2 c9
      refine x_aload_n C rfl 0 rfl dX10_lookAtHouse_25 ?_
      refine x_getIN C (j := 6) (obA9 c8).1 (obA9 c8).2 (Nat.le_of_ble_eq_true rfl) (Nat.le_of_ble_eq_true rfl) (Or.inr rfl) tw_1_74 dX10_lookAtHouse_26 ?_
      refine x_if_eq (tgt := 100) C dX10_lookAtHouse_29 (by decide) (fun c10 => ?_) (fun c10 => ?_)
      · have h := h.1 c10
        refine x_iinc (v := (x.1 + 1)) C [(2, .int (x.1 + 1)), (3, .ref (19 + x.1.toNatClampNeg)), (0, .ref 1), (1, .int p1)] 3 rfl (congrArg (fun z => x.1 + z) (by decide : Int32.ofInt (1) = 1)) (Nat.le_of_ble_eq_true rfl) rfl dX10_lookAtHouse_100 ?_
        refine x_goto (tgt := 2) C dX10_lookAtHouse_103 (by decide) ?_
        refine x_sub [(0, .ref 1), (1, .int p1), (2, .int (x.1 + 1))] [2, 3, 0] rfl ?_
        exact hK2 _ _ h
      · have h := h.2 c10
        refine x_aload_n C rfl 1 rfl dX10_lookAtHouse_32 ?_
        refine x_getR (r := 12) C (j := 13) ob1.1 ob1.2 (Nat.le_of_ble_eq_true rfl) (Nat.le_of_ble_eq_true rfl) (fun _ _ _ => rfl) r_1_13 tw_1_160 dX10_lookAtHouse_33 ?_
        refine x_bipush (v := 10) C (by decide) dX10_lookAtHouse_36 ?_
        refine x_dup2_11 C rfl rfl dX10_lookAtHouse_38 ?_
        refine x_iald C ob12.1 ob12.2 (by unfold vp_in; decide) (j := 10) (by decide) dX10_lookAtHouse_39 ?_
        refine x_aload_n C rfl 0 rfl dX10_lookAtHouse_40 ?_
        refine x_getIN C (j := 7) (obA9 c8).1 (obA9 c8).2 (Nat.le_of_ble_eq_true rfl) (Nat.le_of_ble_eq_true rfl) (Or.inr rfl) tw_1_80 dX10_lookAtHouse_41 ?_
        refine x_if_eq (tgt := 51) C dX10_lookAtHouse_44 (by decide) (fun c11 => ?_) (fun c11 => ?_)
        · have h := h.1 c11
          refine x_iconst (v := 0) C (by decide) dX10_lookAtHouse_51 ?_
          refine x_sub [(0, .ref 1), (1, .int p1), (2, .int x.1), (3, .ref (19 + x.1.toNatClampNeg))] [1, 2, 3, 0] rfl ?_
          exact G10_lookAtHouse_J52_ok C hd hr (obA9 c8) hK2 h
        · have h := h.2 c11
          refine x_iconst (v := 1) C (by decide) dX10_lookAtHouse_47 ?_
          refine x_goto (tgt := 52) C dX10_lookAtHouse_48 (by decide) ?_
          refine x_sub [(0, .ref 1), (1, .int p1), (2, .int x.1), (3, .ref (19 + x.1.toNatClampNeg))] [1, 2, 3, 0] rfl ?_
          exact G10_lookAtHouse_J52_ok C hd hr (obA9 c8) hK2 h
theorem G10_lookAtHouse_L2_ok {p : Program} {e : Env} {s : State} {m : MethodId} {args : Array Value} {below : List Frame} {meth : Method} {c : Code} {l : Launch} {φ : Nat → Nat} {tc : Nat → ClassId} {D : va_G} {s0 : State} {dR : Nat} (C : CX p s m args meth c φ tc D (AX φ) s0 cX10_lookAtHouse RX10 4) (hd : G10_lookAtHouse_dep ≤ dR) (hr : meth.sig.returnType = none)  {p1 : Int32} {Q : MM → Prop}  {x : Int32 × MM}    (h : Lp (G10_lookAtHouse_L2 p1 Q) x) : WX p l e (rmX dR) s m args below meth c φ tc D (AX φ) 4 0 0 (MQ below (QX φ tc D (QV Q)) args s 0 0 (AX φ)) 2 [(0, .ref 1), (1, .int p1), (2, .int x.1)] [] x.2 := by
  obtain ⟨n, h⟩ := h
  induction n generalizing x with
  | zero => exact h.elim
  | succ n ih => exact G10_lookAtHouse_L2_b C hd hr   (fun z2 zμ hz => by have q := ih hz; exact q) h
set_option maxHeartbeats 4000000 in
set_option maxRecDepth 100000 in
theorem G10_lookAtHouse_met {l : Launch} {φ : Nat → Nat} {tc : Nat → ClassId} {D : va_G} {s0 : State} (hG : GX φ tc D s0) {dR : Nat} (hd : G10_lookAtHouse_dep ≤ dR) {v1 : Int32} {μ : MM} {Q : MM → Prop}  (h : G10_lookAtHouse v1 μ Q) : MX l φ tc D s0 dR yX10_lookAtHouse cX10_lookAtHouse 4 none [.ref 1, .int v1] μ (QV Q) := by
  refine MX.of (own := RX10) hG plX10 rfl (Nat.le_of_ble_eq_true rfl) (fun p e s m args below meth c C hr => ?_)
  refine x_sub [(0, .ref 1), (1, .int v1)] [0, 1] rfl ?_
  unfold G10_lookAtHouse at h
  refine x_iconst (v := 0) C (by decide) dX10_lookAtHouse_0 ?_
  refine x_istore_n C [(2, .int 0), (0, .ref 1), (1, .int v1)] rfl (Nat.le_of_ble_eq_true rfl) rfl dX10_lookAtHouse_1 ?_
  refine x_sub [(0, .ref 1), (1, .int v1), (2, .int 0)] [1, 2, 0] rfl ?_
  exact G10_lookAtHouse_L2_ok C hd hr  h
set_option maxHeartbeats 4000000 in
set_option maxRecDepth 100000 in
theorem G10_lawFor_met {l : Launch} {φ : Nat → Nat} {tc : Nat → ClassId} {D : va_G} {s0 : State} (hG : GX φ tc D s0) {dR : Nat} (hd : G10_lawFor_dep ≤ dR) {v1 : Int32} {a2 : Nat} {μ : MM} {Q : Int32 → MM → Prop} (o_a2 : Ob a2 5) (h : G10_lawFor v1 a2 μ Q) : MX l φ tc D s0 dR yX10_lawFor cX10_lawFor 3 (some .int) [.ref 1, .int v1, .ref a2] μ (QI Q) := by
  refine MX.of (own := RX10) hG plX10 rfl (Nat.le_of_ble_eq_true rfl) (fun p e s m args below meth c C hr => ?_)
  refine x_sub [(0, .ref 1), (1, .int v1), (2, .ref a2)] [0, 1, 2] rfl ?_
  unfold G10_lawFor at h
  refine x_aload_n C rfl 0 rfl dX10_lawFor_0 ?_
  refine x_aload_n C rfl 2 rfl dX10_lawFor_1 ?_
  refine x_callV (dC := G10_lookAt_dep) (as := [.ref a2]) (st := []) C rX kX (Nat.le_trans (Nat.le_of_ble_eq_true rfl) hd) (Nat.le_of_ble_eq_true rfl) ob1.1 ob1.2 (Nat.le_of_ble_eq_true rfl) rfl ts_2_9 tw_3_201 tw_3_199 tc_3_202 tw_1_2 hyX10 hnX10_lookAt rfl (Nat.le_of_ble_eq_true rfl) dX10_lawFor_2 (G10_lookAt_met C.2.2.2.2.2.2.2.1 (Nat.le_refl _) o_a2 h) (fun r0 μ6 hq => ?_)
  obtain ⟨rfl, h⟩ := hq
  refine x_st [] rfl ?_
  refine x_aload_n C rfl 0 rfl dX10_lawFor_5 ?_
  refine x_aload_n C rfl 2 rfl dX10_lawFor_6 ?_
  refine x_getIN C (j := 0) o_a2.1 o_a2.2 (Nat.le_of_ble_eq_true rfl) (Nat.le_of_ble_eq_true rfl) (Or.inl rfl) tw_1_54 dX10_lawFor_7 ?_
  refine x_callV (dC := G10_lookAtHouse_dep) (as := [.int (gI μ6 a2 0)]) (st := []) C rX kX (Nat.le_trans (Nat.le_of_ble_eq_true rfl) hd) (Nat.le_of_ble_eq_true rfl) ob1.1 ob1.2 (Nat.le_of_ble_eq_true rfl) rfl ts_2_10 tw_3_205 tw_3_203 tc_3_206 tw_1_2 hyX10 hnX10_lookAtHouse rfl (Nat.le_of_ble_eq_true rfl) dX10_lawFor_10 (G10_lookAtHouse_met C.2.2.2.2.2.2.2.1 (Nat.le_refl _)  h) (fun r0 μ7 hq => ?_)
  obtain ⟨rfl, h⟩ := hq
  refine x_st [] rfl ?_
  refine x_aload_n C rfl 0 rfl dX10_lawFor_13 ?_
  refine x_getR (r := 10) C (j := 11) ob1.1 ob1.2 (Nat.le_of_ble_eq_true rfl) (Nat.le_of_ble_eq_true rfl) (fun _ _ _ => rfl) r_1_11 tw_1_155 dX10_lawFor_14 ?_
  refine x_iload_n C rfl 1 rfl dX10_lawFor_17 ?_
  obtain ⟨c8, h⟩ := h
  refine x_aald (r := (115 + 6 * v1.toNatClampNeg)) C ob10.1 (by decide) (by decide) c8 rfl (rA10 c8) dX10_lawFor_18 ?_
  refine x_aload_n C rfl 0 rfl dX10_lawFor_19 ?_
  refine x_getR (r := 12) C (j := 13) ob1.1 ob1.2 (Nat.le_of_ble_eq_true rfl) (Nat.le_of_ble_eq_true rfl) (fun _ _ _ => rfl) r_1_13 tw_1_160 dX10_lawFor_20 ?_
  refine x_callVN (dC := G3_result_dep) (as := [.ref 12]) (st := []) C rX kX (Nat.le_trans (Nat.le_of_ble_eq_true rfl) hd) (Nat.le_of_ble_eq_true rfl) (obA10 c8).1 (obA10 c8).2 (Nat.le_of_ble_eq_true rfl) rfl ts_2_11 tw_3_209 tw_3_207 tc_3_210 tw_1_4 hyX3 hnX3_result rfl (Nat.le_of_ble_eq_true rfl) dX10_lawFor_23 (G3_result_met C.2.2.2.2.2.2.2.1 (Nat.le_refl _) (obA10 c8) ob12 h) (fun r0 μ9 hq => ?_)
  obtain ⟨r10, rfl, h⟩ := hq
  refine x_st [.int r10] rfl ?_
  exact x_iret C hr dX10_lawFor_26 ⟨_, rfl, h⟩
set_option maxHeartbeats 4000000 in
set_option maxRecDepth 100000 in
theorem G11_value_J22_ok {p : Program} {e : Env} {s : State} {m : MethodId} {args : Array Value} {below : List Frame} {meth : Method} {c : Code} {l : Launch} {φ : Nat → Nat} {tc : Nat → ClassId} {D : va_G} {s0 : State} {dR : Nat} (C : CX p s m args meth c φ tc D (AX φ) s0 cX11_value RX11 3) (hd : G11_value_dep ≤ dR) (hr : meth.sig.returnType = (some .int)) {X : MM → Prop} (hfl : l.stackTraces = false) (hxt : ∀ x ∈ c.exceptionTable.toList, False)   {Q : Int32 → MM → Prop}  {μ : MM}    (h : G11_value_J22 μ Q X) : WX p l e (rmE dR) s m args below meth c φ tc D (AX φ) 3 0 0 (vx_MQ below (QX φ tc D (QI Q)) (XCX φ tc D X) args s 1 6 (AX φ)) 22 [] [] μ := by
  unfold G11_value_J22 at h
  exact x_throwS C hfl hxt (i := 2) (by decide) rfl rfl rfl (Nat.le_trans (Nat.le_of_ble_eq_true rfl) hd) dX11_value_22 dX11_value_25 dX11_value_26 dX11_value_28 dX11_value_31 h
set_option maxHeartbeats 4000000 in
set_option maxRecDepth 100000 in
theorem G11_value_met {l : Launch} {φ : Nat → Nat} {tc : Nat → ClassId} {D : va_G} {s0 : State} {X : MM → Prop} (hfl : l.stackTraces = false) (hG : GX φ tc D s0) {dR : Nat} (hd : G11_value_dep ≤ dR) {v1 : Int32} {v2 : Int32} {μ : MM} {Q : Int32 → MM → Prop}  (h : G11_value v1 v2 μ Q X) : MXX l φ tc D s0 dR yX11_value cX11_value 3 (some .int) [.ref 0, .int v1, .int v2] μ (QI Q) X := by
  refine MXX.of (own := RX11) hG plX11 rfl (Nat.le_of_ble_eq_true rfl) (fun p e s m args below meth c C hr hxt => ?_)
  refine x_sub [(0, .ref 0), (1, .int v1), (2, .int v2)] [0, 1, 2] rfl ?_
  unfold G11_value at h
  refine x_aload_n C rfl 0 rfl dX11_value_0 ?_
  refine x_getR (r := 1) C (j := 0) ob0.1 ob0.2 (Nat.le_of_ble_eq_true rfl) (Nat.le_of_ble_eq_true rfl) (fun _ _ _ => rfl) r_0_0 tw_2_163 dX11_value_1 ?_
  refine x_iload_n C rfl 2 rfl dX11_value_4 ?_
  refine x_callVN (dC := G10_isLetter_dep) (as := [.int v2]) (st := []) C rE kX (Nat.le_trans (Nat.le_of_ble_eq_true rfl) hd) (Nat.le_of_ble_eq_true rfl) ob1.1 ob1.2 (Nat.le_of_ble_eq_true rfl) rfl ts_2_14 tw_3_228 tw_3_226 tc_3_229 tw_1_2 hyX10 hnX10_isLetter rfl (Nat.le_of_ble_eq_true rfl) dX11_value_5 (G10_isLetter_met C.2.2.2.2.2.2.2.1 (Nat.le_refl _)  h) (fun r0 μ8 hq => ?_)
  obtain ⟨r9, rfl, h⟩ := hq
  refine x_st [.int r9] rfl ?_
  refine x_if_eq (tgt := 22) C dX11_value_8 (by decide) (fun c10 => ?_) (fun c10 => ?_)
  · have h := h.1 c10
    refine x_sub [] [] rfl ?_
    exact G11_value_J22_ok C hd hr hfl hxt  h
  · have h := h.2 c10
    refine x_aload_n C rfl 0 rfl dX11_value_11 ?_
    refine x_getR (r := 1) C (j := 0) ob0.1 ob0.2 (Nat.le_of_ble_eq_true rfl) (Nat.le_of_ble_eq_true rfl) (fun _ _ _ => rfl) r_0_0 tw_2_163 dX11_value_12 ?_
    refine x_iload_n C rfl 1 rfl dX11_value_15 ?_
    refine x_callVN (dC := G10_isLaw_dep) (as := [.int v1]) (st := []) C rE kX (Nat.le_trans (Nat.le_of_ble_eq_true rfl) hd) (Nat.le_of_ble_eq_true rfl) ob1.1 ob1.2 (Nat.le_of_ble_eq_true rfl) rfl ts_2_6 tw_3_188 tw_6_163 tc_3_189 tw_1_2 hyX10 hnX10_isLaw rfl (Nat.le_of_ble_eq_true rfl) dX11_value_16 (G10_isLaw_met C.2.2.2.2.2.2.2.1 (Nat.le_refl _)  h) (fun r0 μ11 hq => ?_)
    obtain ⟨r12, rfl, h⟩ := hq
    refine x_st [.int r12] rfl ?_
    refine x_if_ne (tgt := 32) C dX11_value_19 (by decide) (fun c13 => ?_) (fun c13 => ?_)
    · have h := h.1 c13
      refine x_aload_n C rfl 0 rfl dX11_value_32 ?_
      refine x_getR (r := 1) C (j := 0) ob0.1 ob0.2 (Nat.le_of_ble_eq_true rfl) (Nat.le_of_ble_eq_true rfl) (fun _ _ _ => rfl) r_0_0 tw_2_163 dX11_value_33 ?_
      refine x_iload_n C rfl 1 rfl dX11_value_36 ?_
      refine x_aload_n C rfl 0 rfl dX11_value_37 ?_
      refine x_getR (r := 1) C (j := 0) ob0.1 ob0.2 (Nat.le_of_ble_eq_true rfl) (Nat.le_of_ble_eq_true rfl) (fun _ _ _ => rfl) r_0_0 tw_2_163 dX11_value_38 ?_
      refine x_getRN (r := 9) C (j := 9) ob1.1 ob1.2 (Nat.le_of_ble_eq_true rfl) (Nat.le_of_ble_eq_true rfl) (fun _ _ _ => rfl) r_1_9 tw_1_148 dX11_value_41 ?_
      refine x_iload_n C rfl 2 rfl dX11_value_44 ?_
      obtain ⟨c14, h⟩ := h
      refine x_aald (r := (19 + v2.toNatClampNeg)) C ob9.1 (by decide) (by decide) c14 rfl (rA9 c14) dX11_value_45 ?_
      refine x_callVN (dC := G10_lawFor_dep) (as := [.int v1, .ref (19 + v2.toNatClampNeg)]) (st := []) C rE kX (Nat.le_trans (Nat.le_of_ble_eq_true rfl) hd) (Nat.le_of_ble_eq_true rfl) ob1.1 ob1.2 (Nat.le_of_ble_eq_true rfl) rfl ts_2_8 tw_3_197 tw_6_165 tc_3_198 tw_1_2 hyX10 hnX10_lawFor rfl (Nat.le_of_ble_eq_true rfl) dX11_value_46 (G10_lawFor_met C.2.2.2.2.2.2.2.1 (Nat.le_refl _) (obA9 c14) h) (fun r0 μ15 hq => ?_)
      obtain ⟨r16, rfl, h⟩ := hq
      refine x_st [.int r16] rfl ?_
      exact x_iretX C hr dX11_value_49 ⟨_, rfl, h⟩
    · have h := h.2 c13
      refine x_sub [] [] rfl ?_
      exact G11_value_J22_ok C hd hr hfl hxt  h
set_option maxHeartbeats 4000000 in
set_option maxRecDepth 100000 in
theorem G5_becomeRead_met {l : Launch} {φ : Nat → Nat} {tc : Nat → ClassId} {D : va_G} {s0 : State} (hG : GX φ tc D s0) {dR : Nat} (hd : G5_becomeRead_dep ≤ dR) {t : Nat} {v1 : Int32} {μ : MM} {Q : MM → Prop} (o_t : Ob t 5) (h : G5_becomeRead t v1 μ Q) : MX l φ tc D s0 dR yX5_becomeRead cX5_becomeRead 2 none [.ref t, .int v1] μ (QV Q) := by
  refine MX.of (own := RX5) hG plX5 rfl (Nat.le_of_ble_eq_true rfl) (fun p e s m args below meth c C hr => ?_)
  refine x_sub [(0, .ref t), (1, .int v1)] [0, 1] rfl ?_
  unfold G5_becomeRead at h
  refine x_aload_n C rfl 0 rfl dX5_becomeRead_0 ?_
  refine x_iconst (v := 1) C (by decide) dX5_becomeRead_1 ?_
  refine x_putI C (j := 6) o_t.1 o_t.2 (Nat.le_of_ble_eq_true rfl) (Nat.le_of_ble_eq_true rfl) (Or.inr rfl) rfl (bo_nar bo_1) (bo_fit bo_1) tw_1_70 dX5_becomeRead_2 ?_
  refine x_mu (fun μ4 e_μ4 => ?_)
  have h := h μ4 e_μ4
  refine x_aload_n C rfl 0 rfl dX5_becomeRead_5 ?_
  refine x_iload_n C rfl 1 rfl dX5_becomeRead_6 ?_
  obtain ⟨c5, h⟩ := h
  refine x_putI C (j := 7) o_t.1 o_t.2 (Nat.le_of_ble_eq_true rfl) (Nat.le_of_ble_eq_true rfl) (Or.inr rfl) rfl (bo_nar c5) (bo_fit c5) tw_1_77 dX5_becomeRead_7 ?_
  refine x_mu (fun μ6 e_μ6 => ?_)
  have h := h μ6 e_μ6
  exact x_vret C hr dX5_becomeRead_10 ⟨rfl, h⟩
set_option maxHeartbeats 4000000 in
set_option maxRecDepth 100000 in
theorem G10_isRungByHouse_J41_ok {p : Program} {e : Env} {s : State} {m : MethodId} {args : Array Value} {below : List Frame} {meth : Method} {c : Code} {l : Launch} {φ : Nat → Nat} {tc : Nat → ClassId} {D : va_G} {s0 : State} {dR : Nat} (C : CX p s m args meth c φ tc D (AX φ) s0 cX10_isRungByHouse RX10 4) (hd : G10_isRungByHouse_dep ≤ dR) (hr : meth.sig.returnType = (some .boolean))  {a1 : Nat} {q0 : Int32} {Q : Int32 → MM → Prop}  {μ : MM} (o_a1 : Ob a1 5)   (h : G10_isRungByHouse_J41 a1 q0 μ Q) : WX p l e (rmX dR) s m args below meth c φ tc D (AX φ) 4 0 0 (MQ below (QX φ tc D (QI Q)) args s 0 0 (AX φ)) 41 [(1, .ref a1)] [.int q0, .ref a1] μ := by
  unfold G10_isRungByHouse_J41 at h
  refine x_callVN (dC := G5_becomeRead_dep) (as := [.int q0]) (st := []) C rX kX (Nat.le_trans (Nat.le_of_ble_eq_true rfl) hd) (Nat.le_of_ble_eq_true rfl) o_a1.1 o_a1.2 (Nat.le_of_ble_eq_true rfl) rfl ts_2_13 tw_3_220 tw_3_218 tc_3_221 tw_1_3 hyX5 hnX5_becomeRead rfl (Nat.le_of_ble_eq_true rfl) dX10_isRungByHouse_41 (G5_becomeRead_met C.2.2.2.2.2.2.2.1 (Nat.le_refl _) o_a1 h) (fun r0 μ17 hq => ?_)
  obtain ⟨rfl, h⟩ := hq
  refine x_st [] rfl ?_
  refine x_aload_n C rfl 0 rfl dX10_isRungByHouse_44 ?_
  refine x_getIN C (j := 7) o_a1.1 o_a1.2 (Nat.le_of_ble_eq_true rfl) (Nat.le_of_ble_eq_true rfl) (Or.inr rfl) tw_1_80 dX10_isRungByHouse_45 ?_
  exact x_zret C hr h.1 dX10_isRungByHouse_48 ⟨_, rfl, h.2⟩
set_option maxHeartbeats 4000000 in
set_option maxRecDepth 100000 in
theorem G10_isRungByHouse_J40_ok {p : Program} {e : Env} {s : State} {m : MethodId} {args : Array Value} {below : List Frame} {meth : Method} {c : Code} {l : Launch} {φ : Nat → Nat} {tc : Nat → ClassId} {D : va_G} {s0 : State} {dR : Nat} (C : CX p s m args meth c φ tc D (AX φ) s0 cX10_isRungByHouse RX10 4) (hd : G10_isRungByHouse_dep ≤ dR) (hr : meth.sig.returnType = (some .boolean))  {a1 : Nat}  {Q : Int32 → MM → Prop}  {μ : MM} (o_a1 : Ob a1 5)   (h : G10_isRungByHouse_J40 a1 μ Q) : WX p l e (rmX dR) s m args below meth c φ tc D (AX φ) 4 0 0 (MQ below (QX φ tc D (QI Q)) args s 0 0 (AX φ)) 40 [(1, .ref a1)] [.ref a1] μ := by
  unfold G10_isRungByHouse_J40 at h
  refine x_iconst (v := 0) C (by decide) dX10_isRungByHouse_40 ?_
  exact G10_isRungByHouse_J41_ok C hd hr o_a1 h
set_option maxHeartbeats 4000000 in
set_option maxRecDepth 100000 in
theorem G10_isRungByHouse_met {l : Launch} {φ : Nat → Nat} {tc : Nat → ClassId} {D : va_G} {s0 : State} (hG : GX φ tc D s0) {dR : Nat} (hd : G10_isRungByHouse_dep ≤ dR) {a1 : Nat} {μ : MM} {Q : Int32 → MM → Prop} (o_a1 : Ob a1 5) (h : G10_isRungByHouse a1 μ Q) : MX l φ tc D s0 dR yX10_isRungByHouse cX10_isRungByHouse 4 (some .boolean) [.ref 1, .ref a1] μ (QI Q) := by
  refine MX.of (own := RX10) hG plX10 rfl (Nat.le_of_ble_eq_true rfl) (fun p e s m args below meth c C hr => ?_)
  refine x_sub [(0, .ref 1), (1, .ref a1)] [0, 1] rfl ?_
  unfold G10_isRungByHouse at h
  refine x_aload_n C rfl 0 rfl dX10_isRungByHouse_0 ?_
  refine x_bipush (v := 100) C (by decide) dX10_isRungByHouse_1 ?_
  refine x_callV (dC := G10_draw_dep) (as := [.int 100]) (st := []) C rX kX (Nat.le_trans (Nat.le_of_ble_eq_true rfl) hd) (Nat.le_of_ble_eq_true rfl) ob1.1 ob1.2 (Nat.le_of_ble_eq_true rfl) rfl ts_1_9 tw_3_10 tw_3_8 tc_3_11 tw_1_2 hyX10 hnX10_draw rfl (Nat.le_of_ble_eq_true rfl) dX10_isRungByHouse_3 (G10_draw_met C.2.2.2.2.2.2.2.1 (Nat.le_refl _)  h) (fun r0 μ10 hq => ?_)
  obtain ⟨r11, rfl, h⟩ := hq
  refine x_st [.int r11] rfl ?_
  refine x_istore_n C [(2, .int r11), (0, .ref 1), (1, .ref a1)] rfl (Nat.le_of_ble_eq_true rfl) rfl dX10_isRungByHouse_6 ?_
  refine x_aload_n C rfl 1 rfl dX10_isRungByHouse_7 ?_
  refine x_getR (r := 8) C (j := 7) ob1.1 ob1.2 (Nat.le_of_ble_eq_true rfl) (Nat.le_of_ble_eq_true rfl) (fun _ _ _ => rfl) r_1_7 tw_1_137 dX10_isRungByHouse_8 ?_
  refine x_aload_n C rfl 2 rfl dX10_isRungByHouse_11 ?_
  refine x_getIN C (j := 0) o_a1.1 o_a1.2 (Nat.le_of_ble_eq_true rfl) (Nat.le_of_ble_eq_true rfl) (Or.inl rfl) tw_1_54 dX10_isRungByHouse_12 ?_
  obtain ⟨c12, h⟩ := h
  refine x_iald C ob8.1 ob8.2 c12 rfl dX10_isRungByHouse_15 ?_
  refine x_topi (fun y13 e_y13 => ?_)
  have h := h y13 e_y13
  refine x_istore_n C [(3, .int y13), (2, .int r11), (0, .ref 1), (1, .ref a1)] rfl (Nat.le_of_ble_eq_true rfl) rfl dX10_isRungByHouse_16 ?_
  refine x_aload_n C rfl 3 rfl dX10_isRungByHouse_17 ?_
  refine x_aload_n C rfl 2 rfl dX10_isRungByHouse_18 ?_
  refine x_iload_n C rfl 0 rfl dX10_isRungByHouse_19 ?_
  refine x_callV (dC := G10_isLaw_dep) (as := [.int y13]) (st := [.ref a1]) C rX kX (Nat.le_trans (Nat.le_of_ble_eq_true rfl) hd) (Nat.le_of_ble_eq_true rfl) ob1.1 ob1.2 (Nat.le_of_ble_eq_true rfl) rfl ts_2_6 tw_3_188 tw_3_186 tc_3_189 tw_1_2 hyX10 hnX10_isLaw rfl (Nat.le_of_ble_eq_true rfl) dX10_isRungByHouse_20 (G10_isLaw_met C.2.2.2.2.2.2.2.1 (Nat.le_refl _)  h) (fun r0 μ14 hq => ?_)
  obtain ⟨r15, rfl, h⟩ := hq
  refine x_st [.int r15, .ref a1] rfl ?_
  refine x_if_eq (tgt := 40) C dX10_isRungByHouse_23 (by decide) (fun c16 => ?_) (fun c16 => ?_)
  · have h := h.1 c16
    refine x_sub [(1, .ref a1)] [3] rfl ?_
    exact G10_isRungByHouse_J40_ok C hd hr o_a1 h
  · have h := h.2 c16
    refine x_iload_n C rfl 1 rfl dX10_isRungByHouse_26 ?_
    refine x_aload_n C rfl 2 rfl dX10_isRungByHouse_27 ?_
    refine x_iload_n C rfl 0 rfl dX10_isRungByHouse_28 ?_
    refine x_aload_n C rfl 3 rfl dX10_isRungByHouse_29 ?_
    refine x_callV (dC := G10_lawFor_dep) (as := [.int y13, .ref a1]) (st := [.int r11, .ref a1]) C rX kX (Nat.le_trans (Nat.le_of_ble_eq_true rfl) hd) (Nat.le_of_ble_eq_true rfl) ob1.1 ob1.2 (Nat.le_of_ble_eq_true rfl) rfl ts_2_8 tw_3_197 tw_3_195 tc_3_198 tw_1_2 hyX10 hnX10_lawFor rfl (Nat.le_of_ble_eq_true rfl) dX10_isRungByHouse_30 (G10_lawFor_met C.2.2.2.2.2.2.2.1 (Nat.le_refl _) o_a1 h) (fun r0 μ18 hq => ?_)
    obtain ⟨r19, rfl, h⟩ := hq
    refine x_st [.int r19, .int r11, .ref a1] rfl ?_
    refine x_icmp_ge (tgt := 40) C dX10_isRungByHouse_33 (by decide) (fun c20 => ?_) (fun c20 => ?_)
    · have h := h.1 c20
      refine x_sub [(1, .ref a1)] [3] rfl ?_
      exact G10_isRungByHouse_J40_ok C hd hr o_a1 h
    · have h := h.2 c20
      refine x_iconst (v := 1) C (by decide) dX10_isRungByHouse_36 ?_
      refine x_goto (tgt := 41) C dX10_isRungByHouse_37 (by decide) ?_
      refine x_sub [(1, .ref a1)] [3] rfl ?_
      exact G10_isRungByHouse_J41_ok C hd hr o_a1 h
set_option maxHeartbeats 4000000 in
set_option maxRecDepth 100000 in
theorem G10_nextUnread_J50_ok {p : Program} {e : Env} {s : State} {m : MethodId} {args : Array Value} {below : List Frame} {meth : Method} {c : Code} {l : Launch} {φ : Nat → Nat} {tc : Nat → ClassId} {D : va_G} {s0 : State} {dR : Nat} (C : CX p s m args meth c φ tc D (AX φ) s0 cX10_nextUnread RX10 3) (hd : G10_nextUnread_dep ≤ dR) (hr : meth.sig.returnType = (some .int))   {p2 : Int32} {Q : Int32 → MM → Prop} {K4 : Int32 × Int32 × MM → Prop} {μ : MM}   (hK4 : ∀ (z1 : Int32) (z2 : Int32) (zμ : MM), K4 (z1, z2, zμ) → WX p l e (rmX dR) s m args below meth c φ tc D (AX φ) 3 0 0 (MQ below (QX φ tc D (QI Q)) args s 0 0 (AX φ)) 4 [(0, .ref 1), (1, .int z1), (2, .int z2)] [] zμ) (h : G10_nextUnread_J50 p2 μ K4 Q) : WX p l e (rmX dR) s m args below meth c φ tc D (AX φ) 3 0 0 (MQ below (QX φ tc D (QI Q)) args s 0 0 (AX φ)) 50 [(0, .ref 1), (2, .int p2)] [] μ := by
  unfold G10_nextUnread_J50 at h
  refine x_iload_n C rfl 1 rfl dX10_nextUnread_50 ?_
  refine x_istore_n C [(1, .int p2), (0, .ref 1), (2, .int p2)] rfl (Nat.le_of_ble_eq_true rfl) rfl dX10_nextUnread_51 ?_
  refine x_iinc (v := (p2 + 1)) C [(2, .int (p2 + 1)), (1, .int p2), (0, .ref 1)] 2 rfl (congrArg (fun z => p2 + z) (by decide : Int32.ofInt (1) = 1)) (Nat.le_of_ble_eq_true rfl) rfl dX10_nextUnread_52 ?_
  refine x_goto (tgt := 4) C dX10_nextUnread_55 (by decide) ?_
  refine x_sub [(0, .ref 1), (1, .int p2), (2, .int (p2 + 1))] [2, 1, 0] rfl ?_
  exact hK4 _ _ _ h
set_option maxHeartbeats 4000000 in
set_option maxRecDepth 100000 in
theorem G10_nextUnread_L4_b {p : Program} {e : Env} {s : State} {m : MethodId} {args : Array Value} {below : List Frame} {meth : Method} {c : Code} {l : Launch} {φ : Nat → Nat} {tc : Nat → ClassId} {D : va_G} {s0 : State} {dR : Nat} (C : CX p s m args meth c φ tc D (AX φ) s0 cX10_nextUnread RX10 3) (hd : G10_nextUnread_dep ≤ dR) (hr : meth.sig.returnType = (some .int))   {Q : Int32 → MM → Prop} {K4 : Int32 × Int32 × MM → Prop} {x : Int32 × Int32 × MM}   (hK4 : ∀ (z1 : Int32) (z2 : Int32) (zμ : MM), K4 (z1, z2, zμ) → WX p l e (rmX dR) s m args below meth c φ tc D (AX φ) 3 0 0 (MQ below (QX φ tc D (QI Q)) args s 0 0 (AX φ)) 4 [(0, .ref 1), (1, .int z1), (2, .int z2)] [] zμ) (h : G10_nextUnread_L4  Q K4 x) : WX p l e (rmX dR) s m args below meth c φ tc D (AX φ) 3 0 0 (MQ below (QX φ tc D (QI Q)) args s 0 0 (AX φ)) 4 [(0, .ref 1), (1, .int x.1), (2, .int x.2.1)] [] x.2.2 := by
  unfold G10_nextUnread_L4 at h
  refine x_iload_n C rfl 2 rfl dX10_nextUnread_4 ?_
  refine x_aload_n C rfl 0 rfl dX10_nextUnread_5 ?_
  refine x_getI C (j := 10) ob1.1 ob1.2 (Nat.le_of_ble_eq_true rfl) (Nat.le_of_ble_eq_true rfl) (Or.inl rfl) tw_1_153 dX10_nextUnread_6 ?_
  refine x_icmp_ge (tgt := 58) C dX10_nextUnread_9 (by decide) (fun c4 => ?_) (fun c4 => ?_)
  · have h := h.1 c4
    refine x_iload_n C rfl 1 rfl dX10_nextUnread_58 ?_
    exact x_iret C hr dX10_nextUnread_59 ⟨_, rfl, h⟩
  · have h := h.2 c4
    refine x_aload_n C rfl 0 rfl dX10_nextUnread_12 ?_
    refine x_getR (r := 9) C (j := 9) ob1.1 ob1.2 (Nat.le_of_ble_eq_true rfl) (Nat.le_of_ble_eq_true rfl) (fun _ _ _ => rfl) r_1_9 tw_1_143 dX10_nextUnread_13 ?_
    refine x_iload_n C rfl 2 rfl dX10_nextUnread_16 ?_
    obtain ⟨c5, h⟩ := h
    refine x_aald (r := (19 + x.2.1.toNatClampNeg)) C ob9.1 (by decide) (by decide) c5 rfl (rA9 c5) dX10_nextUnread_17 ?_
    refine x_getIN C (j := 6) (obA9 c5).1 (obA9 c5).2 (Nat.le_of_ble_eq_true rfl) (Nat.le_of_ble_eq_true rfl) (Or.inr rfl) tw_1_74 dX10_nextUnread_18 ?_
    refine x_if_ne (tgt := 52) C dX10_nextUnread_21 (by decide) (fun c6 => ?_) (fun c6 => ?_)
    · have h := h.1 c6
      refine x_iinc (v := (x.2.1 + 1)) C [(2, .int (x.2.1 + 1)), (0, .ref 1), (1, .int x.1)] 2 rfl (congrArg (fun z => x.2.1 + z) (by decide : Int32.ofInt (1) = 1)) (Nat.le_of_ble_eq_true rfl) rfl dX10_nextUnread_52 ?_
      refine x_goto (tgt := 4) C dX10_nextUnread_55 (by decide) ?_
      refine x_sub [(0, .ref 1), (1, .int x.1), (2, .int (x.2.1 + 1))] [1, 2, 0] rfl ?_
      exact hK4 _ _ _ h
    · have h := h.2 c6
      refine x_iload_n C rfl 1 rfl dX10_nextUnread_24 ?_
      refine x_iconst (v := (-1)) C (by decide) dX10_nextUnread_25 ?_
      refine x_icmp_eq (tgt := 50) C dX10_nextUnread_26 (by decide) (fun c7 => ?_) (fun c7 => ?_)
      · have h := h.1 c7
        refine x_sub [(0, .ref 1), (2, .int x.2.1)] [0, 2] rfl ?_
        exact G10_nextUnread_J50_ok C hd hr hK4 h
      · have h := h.2 c7
        refine x_aload_n C rfl 0 rfl dX10_nextUnread_29 ?_
        refine x_getR (r := 9) C (j := 9) ob1.1 ob1.2 (Nat.le_of_ble_eq_true rfl) (Nat.le_of_ble_eq_true rfl) (fun _ _ _ => rfl) r_1_9 tw_1_143 dX10_nextUnread_30 ?_
        refine x_iload_n C rfl 2 rfl dX10_nextUnread_33 ?_
        obtain ⟨c8, h⟩ := h
        refine x_aald (r := (19 + x.2.1.toNatClampNeg)) C ob9.1 (by decide) (by decide) c8 rfl (rA9 c8) dX10_nextUnread_34 ?_
        refine x_getIN C (j := 5) (obA9 c8).1 (obA9 c8).2 (Nat.le_of_ble_eq_true rfl) (Nat.le_of_ble_eq_true rfl) (Or.inl rfl) tw_1_68 dX10_nextUnread_35 ?_
        refine x_aload_n C rfl 0 rfl dX10_nextUnread_38 ?_
        refine x_getR (r := 9) C (j := 9) ob1.1 ob1.2 (Nat.le_of_ble_eq_true rfl) (Nat.le_of_ble_eq_true rfl) (fun _ _ _ => rfl) r_1_9 tw_1_143 dX10_nextUnread_39 ?_
        refine x_iload_n C rfl 1 rfl dX10_nextUnread_42 ?_
        obtain ⟨c9, h⟩ := h
        refine x_aald (r := (19 + x.1.toNatClampNeg)) C ob9.1 (by decide) (by decide) c9 rfl (rA9 c9) dX10_nextUnread_43 ?_
        refine x_getIN C (j := 5) (obA9 c9).1 (obA9 c9).2 (Nat.le_of_ble_eq_true rfl) (Nat.le_of_ble_eq_true rfl) (Or.inl rfl) tw_1_68 dX10_nextUnread_44 ?_
        refine x_icmp_ge (tgt := 52) C dX10_nextUnread_47 (by decide) (fun c10 => ?_) (fun c10 => ?_)
        · have h := h.1 c10
          refine x_iinc (v := (x.2.1 + 1)) C [(2, .int (x.2.1 + 1)), (0, .ref 1), (1, .int x.1)] 2 rfl (congrArg (fun z => x.2.1 + z) (by decide : Int32.ofInt (1) = 1)) (Nat.le_of_ble_eq_true rfl) rfl dX10_nextUnread_52 ?_
          refine x_goto (tgt := 4) C dX10_nextUnread_55 (by decide) ?_
          refine x_sub [(0, .ref 1), (1, .int x.1), (2, .int (x.2.1 + 1))] [1, 2, 0] rfl ?_
          exact hK4 _ _ _ h
        · have h := h.2 c10
          refine x_sub [(0, .ref 1), (2, .int x.2.1)] [0, 2] rfl ?_
          exact G10_nextUnread_J50_ok C hd hr hK4 h
theorem G10_nextUnread_L4_ok {p : Program} {e : Env} {s : State} {m : MethodId} {args : Array Value} {below : List Frame} {meth : Method} {c : Code} {l : Launch} {φ : Nat → Nat} {tc : Nat → ClassId} {D : va_G} {s0 : State} {dR : Nat} (C : CX p s m args meth c φ tc D (AX φ) s0 cX10_nextUnread RX10 3) (hd : G10_nextUnread_dep ≤ dR) (hr : meth.sig.returnType = (some .int))   {Q : Int32 → MM → Prop}  {x : Int32 × Int32 × MM}    (h : Lp (G10_nextUnread_L4  Q) x) : WX p l e (rmX dR) s m args below meth c φ tc D (AX φ) 3 0 0 (MQ below (QX φ tc D (QI Q)) args s 0 0 (AX φ)) 4 [(0, .ref 1), (1, .int x.1), (2, .int x.2.1)] [] x.2.2 := by
  obtain ⟨n, h⟩ := h
  induction n generalizing x with
  | zero => exact h.elim
  | succ n ih => exact G10_nextUnread_L4_b C hd hr   (fun z1 z2 zμ hz => by have q := ih hz; exact q) h
set_option maxHeartbeats 4000000 in
set_option maxRecDepth 100000 in
theorem G10_nextUnread_met {l : Launch} {φ : Nat → Nat} {tc : Nat → ClassId} {D : va_G} {s0 : State} (hG : GX φ tc D s0) {dR : Nat} (hd : G10_nextUnread_dep ≤ dR)  {μ : MM} {Q : Int32 → MM → Prop}  (h : G10_nextUnread  μ Q) : MX l φ tc D s0 dR yX10_nextUnread cX10_nextUnread 3 (some .int) [.ref 1] μ (QI Q) := by
  refine MX.of (own := RX10) hG plX10 rfl (Nat.le_of_ble_eq_true rfl) (fun p e s m args below meth c C hr => ?_)
  refine x_sub [(0, .ref 1)] [0] rfl ?_
  unfold G10_nextUnread at h
  refine x_iconst (v := (-1)) C (by decide) dX10_nextUnread_0 ?_
  refine x_istore_n C [(1, .int (-1)), (0, .ref 1)] rfl (Nat.le_of_ble_eq_true rfl) rfl dX10_nextUnread_1 ?_
  refine x_iconst (v := 0) C (by decide) dX10_nextUnread_2 ?_
  refine x_istore_n C [(2, .int 0), (1, .int (-1)), (0, .ref 1)] rfl (Nat.le_of_ble_eq_true rfl) rfl dX10_nextUnread_3 ?_
  refine x_sub [(0, .ref 1), (1, .int (-1)), (2, .int 0)] [2, 1, 0] rfl ?_
  exact G10_nextUnread_L4_ok C hd hr  h
set_option maxHeartbeats 4000000 in
set_option maxRecDepth 100000 in
theorem G10_readNext_L4_b {p : Program} {e : Env} {s : State} {m : MethodId} {args : Array Value} {below : List Frame} {meth : Method} {c : Code} {l : Launch} {φ : Nat → Nat} {tc : Nat → ClassId} {D : va_G} {s0 : State} {dR : Nat} (C : CX p s m args meth c φ tc D (AX φ) s0 cX10_readNext RX10 5) (hd : G10_readNext_dep ≤ dR) (hr : meth.sig.returnType = (some .int))  {p1 : Int32} {Q : Int32 → MM → Prop} {K4 : Int32 × Int32 × MM → Prop} {x : Int32 × Int32 × MM}   (hK4 : ∀ (z2 : Int32) (z3 : Int32) (zμ : MM), K4 (z2, z3, zμ) → WX p l e (rmX dR) s m args below meth c φ tc D (AX φ) 5 0 0 (MQ below (QX φ tc D (QI Q)) args s 0 0 (AX φ)) 4 [(0, .ref 1), (1, .int p1), (2, .int z2), (3, .int z3)] [] zμ) (h : G10_readNext_L4 p1 Q K4 x) : WX p l e (rmX dR) s m args below meth c φ tc D (AX φ) 5 0 0 (MQ below (QX φ tc D (QI Q)) args s 0 0 (AX φ)) 4 [(0, .ref 1), (1, .int p1), (2, .int x.1), (3, .int x.2.1)] [] x.2.2 := by
  unfold G10_readNext_L4 at h
  refine x_iload_n C rfl 3 rfl dX10_readNext_4 ?_
  refine x_iload_n C rfl 1 rfl dX10_readNext_5 ?_
  refine x_icmp_ge (tgt := 52) C dX10_readNext_6 (by decide) (fun c8 => ?_) (fun c8 => ?_)
  · have h := h.1 c8
    refine x_iload_n C rfl 2 rfl dX10_readNext_52 ?_
    exact x_iret C hr dX10_readNext_53 ⟨_, rfl, h⟩
  · have h := h.2 c8
    refine x_aload_n C rfl 0 rfl dX10_readNext_9 ?_
    refine x_callV (dC := G10_nextUnread_dep) (as := []) (st := []) C rX kX (Nat.le_trans (Nat.le_of_ble_eq_true rfl) hd) (Nat.le_of_ble_eq_true rfl) ob1.1 ob1.2 (Nat.le_of_ble_eq_true rfl) rfl ts_2_4 tw_3_180 tw_3_178 tc_3_181 tw_1_2 hyX10 hnX10_nextUnread rfl (Nat.le_of_ble_eq_true rfl) dX10_readNext_10 (G10_nextUnread_met C.2.2.2.2.2.2.2.1 (Nat.le_refl _)  h) (fun r0 μ9 hq => ?_)
    obtain ⟨r10, rfl, h⟩ := hq
    refine x_st [.int r10] rfl ?_
    refine x_istore C [(4, .int r10), (0, .ref 1), (1, .int p1), (2, .int x.1), (3, .int x.2.1)] (Nat.le_of_ble_eq_true rfl) rfl dX10_readNext_13 ?_
    refine x_iload C 0 rfl dX10_readNext_15 ?_
    refine x_iconst (v := (-1)) C (by decide) dX10_readNext_17 ?_
    refine x_icmp_ne (tgt := 24) C dX10_readNext_18 (by decide) (fun c11 => ?_) (fun c11 => ?_)
    · have h := h.1 c11
      refine x_iload_n C rfl 3 rfl dX10_readNext_24 ?_
      refine x_aload_n C rfl 1 rfl dX10_readNext_25 ?_
      refine x_aload_n C rfl 1 rfl dX10_readNext_26 ?_
      refine x_getR (r := 9) C (j := 9) ob1.1 ob1.2 (Nat.le_of_ble_eq_true rfl) (Nat.le_of_ble_eq_true rfl) (fun _ _ _ => rfl) r_1_9 tw_1_143 dX10_readNext_27 ?_
      refine x_iload C 0 rfl dX10_readNext_30 ?_
      obtain ⟨c12, h⟩ := h
      refine x_aald (r := (19 + r10.toNatClampNeg)) C ob9.1 (by decide) (by decide) c12 rfl (rA9 c12) dX10_readNext_32 ?_
      refine x_callV (dC := G10_isRungByHouse_dep) (as := [.ref (19 + r10.toNatClampNeg)]) (st := [.int x.1]) C rX kX (Nat.le_trans (Nat.le_of_ble_eq_true rfl) hd) (Nat.le_of_ble_eq_true rfl) ob1.1 ob1.2 (Nat.le_of_ble_eq_true rfl) rfl ts_2_5 tw_3_184 tw_3_182 tc_3_185 tw_1_2 hyX10 hnX10_isRungByHouse rfl (Nat.le_of_ble_eq_true rfl) dX10_readNext_33 (G10_isRungByHouse_met C.2.2.2.2.2.2.2.1 (Nat.le_refl _) (obA9 c12) h) (fun r0 μ13 hq => ?_)
      obtain ⟨r14, rfl, h⟩ := hq
      refine x_st [.int r14, .int x.1] rfl ?_
      refine x_if_eq (tgt := 43) C dX10_readNext_36 (by decide) (fun c15 => ?_) (fun c15 => ?_)
      · have h := h.1 c15
        refine x_iconst (v := 0) C (by decide) dX10_readNext_43 ?_
        refine x_iadd C dX10_readNext_44 ?_
        refine x_topi (fun y16 e_y16 => ?_)
        have h := h y16 e_y16
        refine x_istore_n C [(2, .int y16), (4, .int r10), (0, .ref 1), (1, .int p1), (3, .int x.2.1)] rfl (Nat.le_of_ble_eq_true rfl) rfl dX10_readNext_45 ?_
        refine x_iinc (v := (x.2.1 + 1)) C [(3, .int (x.2.1 + 1)), (2, .int y16), (4, .int r10), (0, .ref 1), (1, .int p1)] 4 rfl (congrArg (fun z => x.2.1 + z) (by decide : Int32.ofInt (1) = 1)) (Nat.le_of_ble_eq_true rfl) rfl dX10_readNext_46 ?_
        refine x_goto (tgt := 4) C dX10_readNext_49 (by decide) ?_
        refine x_sub [(0, .ref 1), (1, .int p1), (2, .int y16), (3, .int (x.2.1 + 1))] [3, 4, 1, 0] rfl ?_
        exact hK4 _ _ _ h
      · have h := h.2 c15
        refine x_iconst (v := 1) C (by decide) dX10_readNext_39 ?_
        refine x_goto (tgt := 44) C dX10_readNext_40 (by decide) ?_
        refine x_iadd C dX10_readNext_44 ?_
        refine x_topi (fun y17 e_y17 => ?_)
        have h := h y17 e_y17
        refine x_istore_n C [(2, .int y17), (4, .int r10), (0, .ref 1), (1, .int p1), (3, .int x.2.1)] rfl (Nat.le_of_ble_eq_true rfl) rfl dX10_readNext_45 ?_
        refine x_iinc (v := (x.2.1 + 1)) C [(3, .int (x.2.1 + 1)), (2, .int y17), (4, .int r10), (0, .ref 1), (1, .int p1)] 4 rfl (congrArg (fun z => x.2.1 + z) (by decide : Int32.ofInt (1) = 1)) (Nat.le_of_ble_eq_true rfl) rfl dX10_readNext_46 ?_
        refine x_goto (tgt := 4) C dX10_readNext_49 (by decide) ?_
        refine x_sub [(0, .ref 1), (1, .int p1), (2, .int y17), (3, .int (x.2.1 + 1))] [3, 4, 1, 0] rfl ?_
        exact hK4 _ _ _ h
    · have h := h.2 c11
      refine x_goto (tgt := 52) C dX10_readNext_21 (by decide) ?_
      refine x_iload_n C rfl 3 rfl dX10_readNext_52 ?_
      exact x_iret C hr dX10_readNext_53 ⟨_, rfl, h⟩
theorem G10_readNext_L4_ok {p : Program} {e : Env} {s : State} {m : MethodId} {args : Array Value} {below : List Frame} {meth : Method} {c : Code} {l : Launch} {φ : Nat → Nat} {tc : Nat → ClassId} {D : va_G} {s0 : State} {dR : Nat} (C : CX p s m args meth c φ tc D (AX φ) s0 cX10_readNext RX10 5) (hd : G10_readNext_dep ≤ dR) (hr : meth.sig.returnType = (some .int))  {p1 : Int32} {Q : Int32 → MM → Prop}  {x : Int32 × Int32 × MM}    (h : Lp (G10_readNext_L4 p1 Q) x) : WX p l e (rmX dR) s m args below meth c φ tc D (AX φ) 5 0 0 (MQ below (QX φ tc D (QI Q)) args s 0 0 (AX φ)) 4 [(0, .ref 1), (1, .int p1), (2, .int x.1), (3, .int x.2.1)] [] x.2.2 := by
  obtain ⟨n, h⟩ := h
  induction n generalizing x with
  | zero => exact h.elim
  | succ n ih => exact G10_readNext_L4_b C hd hr   (fun z2 z3 zμ hz => by have q := ih hz; exact q) h
set_option maxHeartbeats 4000000 in
set_option maxRecDepth 100000 in
theorem G10_readNext_met {l : Launch} {φ : Nat → Nat} {tc : Nat → ClassId} {D : va_G} {s0 : State} (hG : GX φ tc D s0) {dR : Nat} (hd : G10_readNext_dep ≤ dR) {v1 : Int32} {μ : MM} {Q : Int32 → MM → Prop}  (h : G10_readNext v1 μ Q) : MX l φ tc D s0 dR yX10_readNext cX10_readNext 5 (some .int) [.ref 1, .int v1] μ (QI Q) := by
  refine MX.of (own := RX10) hG plX10 rfl (Nat.le_of_ble_eq_true rfl) (fun p e s m args below meth c C hr => ?_)
  refine x_sub [(0, .ref 1), (1, .int v1)] [0, 1] rfl ?_
  unfold G10_readNext at h
  refine x_iconst (v := 0) C (by decide) dX10_readNext_0 ?_
  refine x_istore_n C [(2, .int 0), (0, .ref 1), (1, .int v1)] rfl (Nat.le_of_ble_eq_true rfl) rfl dX10_readNext_1 ?_
  refine x_iconst (v := 0) C (by decide) dX10_readNext_2 ?_
  refine x_istore_n C [(3, .int 0), (2, .int 0), (0, .ref 1), (1, .int v1)] rfl (Nat.le_of_ble_eq_true rfl) rfl dX10_readNext_3 ?_
  refine x_sub [(0, .ref 1), (1, .int v1), (2, .int 0), (3, .int 0)] [2, 3, 1, 0] rfl ?_
  exact G10_readNext_L4_ok C hd hr  h
set_option maxHeartbeats 4000000 in
set_option maxRecDepth 100000 in
theorem G11_read_met {l : Launch} {φ : Nat → Nat} {tc : Nat → ClassId} {D : va_G} {s0 : State} (hG : GX φ tc D s0) {dR : Nat} (hd : G11_read_dep ≤ dR) {v1 : Int32} {μ : MM} {Q : Int32 → MM → Prop}  (h : G11_read v1 μ Q) : MX l φ tc D s0 dR yX11_read cX11_read 2 (some .int) [.ref 0, .int v1] μ (QI Q) := by
  refine MX.of (own := RX11) hG plX11 rfl (Nat.le_of_ble_eq_true rfl) (fun p e s m args below meth c C hr => ?_)
  refine x_sub [(0, .ref 0), (1, .int v1)] [0, 1] rfl ?_
  unfold G11_read at h
  refine x_iload_n C rfl 1 rfl dX11_read_0 ?_
  refine x_iconst (v := 0) C (by decide) dX11_read_1 ?_
  refine x_bipush (v := 96) C (by decide) dX11_read_2 ?_
  refine x_callS (dC := G11_within_dep) (as := [.int v1, .int 0, .int 96]) (st := []) C rX kX (Nat.le_trans (Nat.le_of_ble_eq_true rfl) hd) (Nat.le_of_ble_eq_true rfl) tw_2_196 tw_2_195 tc_2_197 tw_1_1 hyX11 hnX11_within rfl (Nat.le_of_ble_eq_true rfl) dX11_read_4 (G11_within_met C.2.2.2.2.2.2.2.1 (Nat.le_refl _)  h) (fun r0 μ5 hq => ?_)
  obtain ⟨r6, rfl, h⟩ := hq
  refine x_st [.int r6] rfl ?_
  refine x_if_eq (tgt := 21) C dX11_read_7 (by decide) (fun c7 => ?_) (fun c7 => ?_)
  · have h := h.1 c7
    refine x_iconst (v := (-1)) C (by decide) dX11_read_21 ?_
    exact x_iret C hr dX11_read_22 ⟨_, rfl, h⟩
  · have h := h.2 c7
    refine x_aload_n C rfl 0 rfl dX11_read_10 ?_
    refine x_getR (r := 1) C (j := 0) ob0.1 ob0.2 (Nat.le_of_ble_eq_true rfl) (Nat.le_of_ble_eq_true rfl) (fun _ _ _ => rfl) r_0_0 tw_2_163 dX11_read_11 ?_
    refine x_iload_n C rfl 1 rfl dX11_read_14 ?_
    refine x_callVN (dC := G10_readNext_dep) (as := [.int v1]) (st := []) C rX kX (Nat.le_trans (Nat.le_of_ble_eq_true rfl) hd) (Nat.le_of_ble_eq_true rfl) ob1.1 ob1.2 (Nat.le_of_ble_eq_true rfl) rfl ts_2_3 tw_3_176 tw_3_174 tc_3_177 tw_1_2 hyX10 hnX10_readNext rfl (Nat.le_of_ble_eq_true rfl) dX11_read_15 (G10_readNext_met C.2.2.2.2.2.2.2.1 (Nat.le_refl _)  h) (fun r0 μ8 hq => ?_)
    obtain ⟨r9, rfl, h⟩ := hq
    refine x_st [.int r9] rfl ?_
    refine x_goto (tgt := 22) C dX11_read_18 (by decide) ?_
    exact x_iret C hr dX11_read_22 ⟨_, rfl, h⟩
set_option maxHeartbeats 4000000 in
set_option maxRecDepth 100000 in
theorem G11_ring_met {l : Launch} {φ : Nat → Nat} {tc : Nat → ClassId} {D : va_G} {s0 : State} (hG : GX φ tc D s0) {dR : Nat} (hd : G11_ring_dep ≤ dR) {v1 : Int32} {v2 : Int32} {μ : MM} {Q : Int32 → MM → Prop}  (h : G11_ring v1 v2 μ Q) : MX l φ tc D s0 dR yX11_ring cX11_ring 3 (some .boolean) [.ref 0, .int v1, .int v2] μ (QI Q) := by
  refine MX.of (own := RX11) hG plX11 rfl (Nat.le_of_ble_eq_true rfl) (fun p e s m args below meth c C hr => ?_)
  refine x_sub [(0, .ref 0), (1, .int v1), (2, .int v2)] [0, 1, 2] rfl ?_
  unfold G11_ring at h
  refine x_aload_n C rfl 0 rfl dX11_ring_0 ?_
  refine x_getR (r := 1) C (j := 0) ob0.1 ob0.2 (Nat.le_of_ble_eq_true rfl) (Nat.le_of_ble_eq_true rfl) (fun _ _ _ => rfl) r_0_0 tw_2_163 dX11_ring_1 ?_
  refine x_iload_n C rfl 1 rfl dX11_ring_4 ?_
  refine x_callVN (dC := G10_isLetter_dep) (as := [.int v1]) (st := []) C rX kX (Nat.le_trans (Nat.le_of_ble_eq_true rfl) hd) (Nat.le_of_ble_eq_true rfl) ob1.1 ob1.2 (Nat.le_of_ble_eq_true rfl) rfl ts_2_14 tw_3_228 tw_3_226 tc_3_229 tw_1_2 hyX10 hnX10_isLetter rfl (Nat.le_of_ble_eq_true rfl) dX11_ring_5 (G10_isLetter_met C.2.2.2.2.2.2.2.1 (Nat.le_refl _)  h) (fun r0 μ6 hq => ?_)
  obtain ⟨r7, rfl, h⟩ := hq
  refine x_st [.int r7] rfl ?_
  refine x_if_eq (tgt := 26) C dX11_ring_8 (by decide) (fun c8 => ?_) (fun c8 => ?_)
  · have h := h.1 c8
    refine x_iconst (v := 0) C (by decide) dX11_ring_26 ?_
    exact x_zret C hr bo_0 dX11_ring_27 ⟨_, rfl, h⟩
  · have h := h.2 c8
    refine x_aload_n C rfl 0 rfl dX11_ring_11 ?_
    refine x_getR (r := 1) C (j := 0) ob0.1 ob0.2 (Nat.le_of_ble_eq_true rfl) (Nat.le_of_ble_eq_true rfl) (fun _ _ _ => rfl) r_0_0 tw_2_163 dX11_ring_12 ?_
    refine x_getRN (r := 9) C (j := 9) ob1.1 ob1.2 (Nat.le_of_ble_eq_true rfl) (Nat.le_of_ble_eq_true rfl) (fun _ _ _ => rfl) r_1_9 tw_1_148 dX11_ring_15 ?_
    refine x_iload_n C rfl 1 rfl dX11_ring_18 ?_
    obtain ⟨c9, h⟩ := h
    refine x_aald (r := (19 + v1.toNatClampNeg)) C ob9.1 (by decide) (by decide) c9 rfl (rA9 c9) dX11_ring_19 ?_
    refine x_getIN C (j := 6) (obA9 c9).1 (obA9 c9).2 (Nat.le_of_ble_eq_true rfl) (Nat.le_of_ble_eq_true rfl) (Or.inr rfl) tw_1_73 dX11_ring_20 ?_
    refine x_if_eq (tgt := 28) C dX11_ring_23 (by decide) (fun c10 => ?_) (fun c10 => ?_)
    · have h := h.1 c10
      refine x_aload_n C rfl 0 rfl dX11_ring_28 ?_
      refine x_getR (r := 1) C (j := 0) ob0.1 ob0.2 (Nat.le_of_ble_eq_true rfl) (Nat.le_of_ble_eq_true rfl) (fun _ _ _ => rfl) r_0_0 tw_2_163 dX11_ring_29 ?_
      refine x_getRN (r := 9) C (j := 9) ob1.1 ob1.2 (Nat.le_of_ble_eq_true rfl) (Nat.le_of_ble_eq_true rfl) (fun _ _ _ => rfl) r_1_9 tw_1_148 dX11_ring_32 ?_
      refine x_iload_n C rfl 1 rfl dX11_ring_35 ?_
      obtain ⟨c11, h⟩ := h
      refine x_aald (r := (19 + v1.toNatClampNeg)) C ob9.1 (by decide) (by decide) c11 rfl (rA9 c11) dX11_ring_36 ?_
      refine x_iload_n C rfl 2 rfl dX11_ring_37 ?_
      refine x_callVN (dC := G5_becomeRead_dep) (as := [.int v2]) (st := []) C rX kX (Nat.le_trans (Nat.le_of_ble_eq_true rfl) hd) (Nat.le_of_ble_eq_true rfl) (obA9 c11).1 (obA9 c11).2 (Nat.le_of_ble_eq_true rfl) rfl ts_2_13 tw_3_220 tw_3_230 tc_3_221 tw_1_3 hyX5 hnX5_becomeRead rfl (Nat.le_of_ble_eq_true rfl) dX11_ring_38 (G5_becomeRead_met C.2.2.2.2.2.2.2.1 (Nat.le_refl _) (obA9 c11) h) (fun r0 μ12 hq => ?_)
      obtain ⟨rfl, h⟩ := hq
      refine x_st [] rfl ?_
      refine x_iconst (v := 1) C (by decide) dX11_ring_41 ?_
      exact x_zret C hr bo_1 dX11_ring_42 ⟨_, rfl, h⟩
    · have h := h.2 c10
      refine x_iconst (v := 0) C (by decide) dX11_ring_26 ?_
      exact x_zret C hr bo_0 dX11_ring_27 ⟨_, rfl, h⟩
set_option maxHeartbeats 4000000 in
set_option maxRecDepth 100000 in
theorem G10_readAllWithoutRings_L4_b {p : Program} {e : Env} {s : State} {m : MethodId} {args : Array Value} {below : List Frame} {meth : Method} {c : Code} {l : Launch} {φ : Nat → Nat} {tc : Nat → ClassId} {D : va_G} {s0 : State} {dR : Nat} (C : CX p s m args meth c φ tc D (AX φ) s0 cX10_readAllWithoutRings RX10 3) (hd : G10_readAllWithoutRings_dep ≤ dR) (hr : meth.sig.returnType = (some .int))   {Q : Int32 → MM → Prop} {K4 : Int32 × Int32 × MM → Prop} {x : Int32 × Int32 × MM}   (hK4 : ∀ (z1 : Int32) (z2 : Int32) (zμ : MM), K4 (z1, z2, zμ) → WX p l e (rmX dR) s m args below meth c φ tc D (AX φ) 3 0 0 (MQ below (QX φ tc D (QI Q)) args s 0 0 (AX φ)) 4 [(0, .ref 1), (1, .int z1), (2, .int z2)] [] zμ) (h : G10_readAllWithoutRings_L4  Q K4 x) : WX p l e (rmX dR) s m args below meth c φ tc D (AX φ) 3 0 0 (MQ below (QX φ tc D (QI Q)) args s 0 0 (AX φ)) 4 [(0, .ref 1), (1, .int x.1), (2, .int x.2.1)] [] x.2.2 := by
  unfold G10_readAllWithoutRings_L4 at h
  refine x_iload_n C rfl 2 rfl dX10_readAllWithoutRings_4 ?_
  refine x_aload_n C rfl 0 rfl dX10_readAllWithoutRings_5 ?_
  refine x_getI C (j := 10) ob1.1 ob1.2 (Nat.le_of_ble_eq_true rfl) (Nat.le_of_ble_eq_true rfl) (Or.inl rfl) tw_1_153 dX10_readAllWithoutRings_6 ?_
  refine x_icmp_ge (tgt := 43) C dX10_readAllWithoutRings_9 (by decide) (fun c4 => ?_) (fun c4 => ?_)
  · have h := h.1 c4
    refine x_iload_n C rfl 1 rfl dX10_readAllWithoutRings_43 ?_
    exact x_iret C hr dX10_readAllWithoutRings_44 ⟨_, rfl, h⟩
  · have h := h.2 c4
    refine x_aload_n C rfl 0 rfl dX10_readAllWithoutRings_12 ?_
    refine x_getR (r := 9) C (j := 9) ob1.1 ob1.2 (Nat.le_of_ble_eq_true rfl) (Nat.le_of_ble_eq_true rfl) (fun _ _ _ => rfl) r_1_9 tw_1_143 dX10_readAllWithoutRings_13 ?_
    refine x_iload_n C rfl 2 rfl dX10_readAllWithoutRings_16 ?_
    obtain ⟨c5, h⟩ := h
    refine x_aald (r := (19 + x.2.1.toNatClampNeg)) C ob9.1 (by decide) (by decide) c5 rfl (rA9 c5) dX10_readAllWithoutRings_17 ?_
    refine x_getIN C (j := 6) (obA9 c5).1 (obA9 c5).2 (Nat.le_of_ble_eq_true rfl) (Nat.le_of_ble_eq_true rfl) (Or.inr rfl) tw_1_74 dX10_readAllWithoutRings_18 ?_
    refine x_if_ne (tgt := 37) C dX10_readAllWithoutRings_21 (by decide) (fun c6 => ?_) (fun c6 => ?_)
    · have h := h.1 c6
      refine x_iinc (v := (x.2.1 + 1)) C [(2, .int (x.2.1 + 1)), (0, .ref 1), (1, .int x.1)] 2 rfl (congrArg (fun z => x.2.1 + z) (by decide : Int32.ofInt (1) = 1)) (Nat.le_of_ble_eq_true rfl) rfl dX10_readAllWithoutRings_37 ?_
      refine x_goto (tgt := 4) C dX10_readAllWithoutRings_40 (by decide) ?_
      refine x_sub [(0, .ref 1), (1, .int x.1), (2, .int (x.2.1 + 1))] [1, 2, 0] rfl ?_
      exact hK4 _ _ _ h
    · have h := h.2 c6
      refine x_aload_n C rfl 0 rfl dX10_readAllWithoutRings_24 ?_
      refine x_getR (r := 9) C (j := 9) ob1.1 ob1.2 (Nat.le_of_ble_eq_true rfl) (Nat.le_of_ble_eq_true rfl) (fun _ _ _ => rfl) r_1_9 tw_1_143 dX10_readAllWithoutRings_25 ?_
      refine x_iload_n C rfl 2 rfl dX10_readAllWithoutRings_28 ?_
      obtain ⟨c7, h⟩ := h
      refine x_aald (r := (19 + x.2.1.toNatClampNeg)) C ob9.1 (by decide) (by decide) c7 rfl (rA9 c7) dX10_readAllWithoutRings_29 ?_
      refine x_iconst (v := 0) C (by decide) dX10_readAllWithoutRings_30 ?_
      refine x_callVN (dC := G5_becomeRead_dep) (as := [.int 0]) (st := []) C rX kX (Nat.le_trans (Nat.le_of_ble_eq_true rfl) hd) (Nat.le_of_ble_eq_true rfl) (obA9 c7).1 (obA9 c7).2 (Nat.le_of_ble_eq_true rfl) rfl ts_2_13 tw_3_220 tw_3_218 tc_3_221 tw_1_3 hyX5 hnX5_becomeRead rfl (Nat.le_of_ble_eq_true rfl) dX10_readAllWithoutRings_31 (G5_becomeRead_met C.2.2.2.2.2.2.2.1 (Nat.le_refl _) (obA9 c7) h) (fun r0 μ8 hq => ?_)
      obtain ⟨rfl, h⟩ := hq
      refine x_st [] rfl ?_
      refine x_iinc (v := (x.1 + 1)) C [(1, .int (x.1 + 1)), (0, .ref 1), (2, .int x.2.1)] 1 rfl (congrArg (fun z => x.1 + z) (by decide : Int32.ofInt (1) = 1)) (Nat.le_of_ble_eq_true rfl) rfl dX10_readAllWithoutRings_34 ?_
      refine x_iinc (v := (x.2.1 + 1)) C [(2, .int (x.2.1 + 1)), (1, .int (x.1 + 1)), (0, .ref 1)] 2 rfl (congrArg (fun z => x.2.1 + z) (by decide : Int32.ofInt (1) = 1)) (Nat.le_of_ble_eq_true rfl) rfl dX10_readAllWithoutRings_37 ?_
      refine x_goto (tgt := 4) C dX10_readAllWithoutRings_40 (by decide) ?_
      refine x_sub [(0, .ref 1), (1, .int (x.1 + 1)), (2, .int (x.2.1 + 1))] [2, 1, 0] rfl ?_
      exact hK4 _ _ _ h
theorem G10_readAllWithoutRings_L4_ok {p : Program} {e : Env} {s : State} {m : MethodId} {args : Array Value} {below : List Frame} {meth : Method} {c : Code} {l : Launch} {φ : Nat → Nat} {tc : Nat → ClassId} {D : va_G} {s0 : State} {dR : Nat} (C : CX p s m args meth c φ tc D (AX φ) s0 cX10_readAllWithoutRings RX10 3) (hd : G10_readAllWithoutRings_dep ≤ dR) (hr : meth.sig.returnType = (some .int))   {Q : Int32 → MM → Prop}  {x : Int32 × Int32 × MM}    (h : Lp (G10_readAllWithoutRings_L4  Q) x) : WX p l e (rmX dR) s m args below meth c φ tc D (AX φ) 3 0 0 (MQ below (QX φ tc D (QI Q)) args s 0 0 (AX φ)) 4 [(0, .ref 1), (1, .int x.1), (2, .int x.2.1)] [] x.2.2 := by
  obtain ⟨n, h⟩ := h
  induction n generalizing x with
  | zero => exact h.elim
  | succ n ih => exact G10_readAllWithoutRings_L4_b C hd hr   (fun z1 z2 zμ hz => by have q := ih hz; exact q) h
set_option maxHeartbeats 4000000 in
set_option maxRecDepth 100000 in
theorem G10_readAllWithoutRings_met {l : Launch} {φ : Nat → Nat} {tc : Nat → ClassId} {D : va_G} {s0 : State} (hG : GX φ tc D s0) {dR : Nat} (hd : G10_readAllWithoutRings_dep ≤ dR)  {μ : MM} {Q : Int32 → MM → Prop}  (h : G10_readAllWithoutRings  μ Q) : MX l φ tc D s0 dR yX10_readAllWithoutRings cX10_readAllWithoutRings 3 (some .int) [.ref 1] μ (QI Q) := by
  refine MX.of (own := RX10) hG plX10 rfl (Nat.le_of_ble_eq_true rfl) (fun p e s m args below meth c C hr => ?_)
  refine x_sub [(0, .ref 1)] [0] rfl ?_
  unfold G10_readAllWithoutRings at h
  refine x_iconst (v := 0) C (by decide) dX10_readAllWithoutRings_0 ?_
  refine x_istore_n C [(1, .int 0), (0, .ref 1)] rfl (Nat.le_of_ble_eq_true rfl) rfl dX10_readAllWithoutRings_1 ?_
  refine x_iconst (v := 0) C (by decide) dX10_readAllWithoutRings_2 ?_
  refine x_istore_n C [(2, .int 0), (1, .int 0), (0, .ref 1)] rfl (Nat.le_of_ble_eq_true rfl) rfl dX10_readAllWithoutRings_3 ?_
  refine x_sub [(0, .ref 1), (1, .int 0), (2, .int 0)] [2, 1, 0] rfl ?_
  exact G10_readAllWithoutRings_L4_ok C hd hr  h
set_option maxHeartbeats 4000000 in
set_option maxRecDepth 100000 in
theorem G10_asHeld_met {l : Launch} {φ : Nat → Nat} {tc : Nat → ClassId} {D : va_G} {s0 : State} (hG : GX φ tc D s0) {dR : Nat} (hd : G10_asHeld_dep ≤ dR) {v0 : Int32} {v1 : Int32} {μ : MM} {Q : Int32 → MM → Prop}  (h : G10_asHeld v0 v1 μ Q) : MX l φ tc D s0 dR yX10_asHeld cX10_asHeld 2 (some .int) [.int v0, .int v1] μ (QI Q) := by
  refine MX.of (own := RX10) hG plX10 rfl (Nat.le_of_ble_eq_true rfl) (fun p e s m args below meth c C hr => ?_)
  refine x_sub [(0, .int v0), (1, .int v1)] [0, 1] rfl ?_
  unfold G10_asHeld at h
  refine x_iload_n C rfl 0 rfl dX10_asHeld_0 ?_
  by_cases c1 : v0 = 0
  · have h := h.1 c1
    refine x_look (tgt := 28) C dX10_asHeld_1 (by decide) (off := 27) (by rw [c1]; decide) (by decide) ?_
    refine x_iload_n C rfl 1 rfl dX10_asHeld_28 ?_
    refine x_i2b C dX10_asHeld_29 ?_
    exact x_iret C hr dX10_asHeld_30 ⟨_, rfl, h⟩
  have h := h.2
  by_cases c2 : v0 = 1
  · have h := h.1 c2
    refine x_look (tgt := 31) C dX10_asHeld_1 (by decide) (off := 30) (by rw [c2]; decide) (by decide) ?_
    refine x_iload_n C rfl 1 rfl dX10_asHeld_31 ?_
    refine x_i2s C dX10_asHeld_32 ?_
    exact x_iret C hr dX10_asHeld_33 ⟨_, rfl, h⟩
  have h := h.2
  have h := h c1 c2
  refine x_look (tgt := 34) C dX10_asHeld_1 (by decide) (off := 33) (by show Op.lookupswitch.offset [(0, 27), (1, 30)] 33 _ = 33; rw [lv_osw c1 (by decide), lv_osw c2 (by decide)]; rfl) (by decide) ?_
  refine x_iload_n C rfl 1 rfl dX10_asHeld_34 ?_
  exact x_iret C hr dX10_asHeld_35 ⟨_, rfl, h⟩
set_option maxHeartbeats 4000000 in
set_option maxRecDepth 100000 in
theorem G10_readAsBoxed_J69_ok {p : Program} {e : Env} {s : State} {m : MethodId} {args : Array Value} {below : List Frame} {meth : Method} {c : Code} {l : Launch} {φ : Nat → Nat} {tc : Nat → ClassId} {D : va_G} {s0 : State} {dR : Nat} (C : CX p s m args meth c φ tc D (AX φ) s0 cX10_readAsBoxed RX10 8) (hd : G10_readAsBoxed_dep ≤ dR) (hr : meth.sig.returnType = (some .int))   {p1 : Int32} {p2 : Int32} {p3 : Int32} {p4 : Int32} {p5 : Int32} {p6 : Int32} {q0 : Int32} {q1 : Nat} {Q : Int32 → MM → Prop} {K6 : Int32 × Int32 × MM → Prop} {μ : MM}  (o_q1 : Ob q1 5) (hK6 : ∀ (z5 : Int32) (z6 : Int32) (zμ : MM), K6 (z5, z6, zμ) → WX p l e (rmX dR) s m args below meth c φ tc D (AX φ) 8 0 0 (MQ below (QX φ tc D (QI Q)) args s 0 0 (AX φ)) 6 [(0, .ref 1), (1, .int p1), (2, .int p2), (3, .int p3), (4, .int p4), (5, .int z5), (6, .int z6)] [] zμ) (h : G10_readAsBoxed_J69 p1 p2 p3 p4 p5 p6 q0 q1 μ K6 Q) : WX p l e (rmX dR) s m args below meth c φ tc D (AX φ) 8 0 0 (MQ below (QX φ tc D (QI Q)) args s 0 0 (AX φ)) 69 [(0, .ref 1), (1, .int p1), (2, .int p2), (3, .int p3), (4, .int p4), (5, .int p5), (6, .int p6)] [.int q0, .ref q1] μ := by
  unfold G10_readAsBoxed_J69 at h
  refine x_callVN (dC := G5_becomeRead_dep) (as := [.int q0]) (st := []) C rX kX (Nat.le_trans (Nat.le_of_ble_eq_true rfl) hd) (Nat.le_of_ble_eq_true rfl) o_q1.1 o_q1.2 (Nat.le_of_ble_eq_true rfl) rfl ts_2_13 tw_3_220 tw_3_218 tc_3_221 tw_1_3 hyX5 hnX5_becomeRead rfl (Nat.le_of_ble_eq_true rfl) dX10_readAsBoxed_69 (G5_becomeRead_met C.2.2.2.2.2.2.2.1 (Nat.le_refl _) o_q1 h) (fun r0 μ15 hq => ?_)
  obtain ⟨rfl, h⟩ := hq
  refine x_st [] rfl ?_
  refine x_iinc (v := (p5 + 1)) C [(5, .int (p5 + 1)), (0, .ref 1), (1, .int p1), (2, .int p2), (3, .int p3), (4, .int p4), (6, .int p6)] 5 rfl (congrArg (fun z => p5 + z) (by decide : Int32.ofInt (1) = 1)) (Nat.le_of_ble_eq_true rfl) rfl dX10_readAsBoxed_72 ?_
  refine x_iinc (v := (p6 + 1)) C [(6, .int (p6 + 1)), (5, .int (p5 + 1)), (0, .ref 1), (1, .int p1), (2, .int p2), (3, .int p3), (4, .int p4)] 6 rfl (congrArg (fun z => p6 + z) (by decide : Int32.ofInt (1) = 1)) (Nat.le_of_ble_eq_true rfl) rfl dX10_readAsBoxed_75 ?_
  refine x_goto (tgt := 6) C dX10_readAsBoxed_78 (by decide) ?_
  refine x_sub [(0, .ref 1), (1, .int p1), (2, .int p2), (3, .int p3), (4, .int p4), (5, .int (p5 + 1)), (6, .int (p6 + 1))] [2, 3, 4, 5, 6, 1, 0] rfl ?_
  exact hK6 _ _ _ h
set_option maxHeartbeats 4000000 in
set_option maxRecDepth 100000 in
theorem G10_readAsBoxed_L6_b {p : Program} {e : Env} {s : State} {m : MethodId} {args : Array Value} {below : List Frame} {meth : Method} {c : Code} {l : Launch} {φ : Nat → Nat} {tc : Nat → ClassId} {D : va_G} {s0 : State} {dR : Nat} (C : CX p s m args meth c φ tc D (AX φ) s0 cX10_readAsBoxed RX10 8) (hd : G10_readAsBoxed_dep ≤ dR) (hr : meth.sig.returnType = (some .int))  {p1 : Int32} {p2 : Int32} {p3 : Int32} {p4 : Int32} {Q : Int32 → MM → Prop} {K6 : Int32 × Int32 × MM → Prop} {x : Int32 × Int32 × MM}   (hK6 : ∀ (z5 : Int32) (z6 : Int32) (zμ : MM), K6 (z5, z6, zμ) → WX p l e (rmX dR) s m args below meth c φ tc D (AX φ) 8 0 0 (MQ below (QX φ tc D (QI Q)) args s 0 0 (AX φ)) 6 [(0, .ref 1), (1, .int p1), (2, .int p2), (3, .int p3), (4, .int p4), (5, .int z5), (6, .int z6)] [] zμ) (h : G10_readAsBoxed_L6 p1 p2 p3 p4 Q K6 x) : WX p l e (rmX dR) s m args below meth c φ tc D (AX φ) 8 0 0 (MQ below (QX φ tc D (QI Q)) args s 0 0 (AX φ)) 6 [(0, .ref 1), (1, .int p1), (2, .int p2), (3, .int p3), (4, .int p4), (5, .int x.1), (6, .int x.2.1)] [] x.2.2 := by
  unfold G10_readAsBoxed_L6 at h
  refine x_iload C 6 rfl dX10_readAsBoxed_6 ?_
  refine x_iload_n C rfl 2 rfl dX10_readAsBoxed_8 ?_
  refine x_icmp_ge (tgt := 81) C dX10_readAsBoxed_9 (by decide) (fun c6 => ?_) (fun c6 => ?_)
  · have h := h.1 c6
    refine x_iload C 5 rfl dX10_readAsBoxed_81 ?_
    exact x_iret C hr dX10_readAsBoxed_83 ⟨_, rfl, h⟩
  · have h := h.2 c6
    refine x_iload C 6 rfl dX10_readAsBoxed_12 ?_
    refine x_aload_n C rfl 0 rfl dX10_readAsBoxed_14 ?_
    refine x_getI C (j := 10) ob1.1 ob1.2 (Nat.le_of_ble_eq_true rfl) (Nat.le_of_ble_eq_true rfl) (Or.inl rfl) tw_1_153 dX10_readAsBoxed_15 ?_
    refine x_icmp_ge (tgt := 81) C dX10_readAsBoxed_18 (by decide) (fun c7 => ?_) (fun c7 => ?_)
    · have h := h.1 c7
      refine x_iload C 5 rfl dX10_readAsBoxed_81 ?_
      exact x_iret C hr dX10_readAsBoxed_83 ⟨_, rfl, h⟩
    · have h := h.2 c7
      refine x_iload_n C rfl 1 rfl dX10_readAsBoxed_21 ?_
      refine x_iload_n C rfl 3 rfl dX10_readAsBoxed_22 ?_
      refine x_iload C 6 rfl dX10_readAsBoxed_23 ?_
      refine x_iload C 4 rfl dX10_readAsBoxed_25 ?_
      refine x_imul C dX10_readAsBoxed_27 ?_
      refine x_iadd C dX10_readAsBoxed_28 ?_
      refine x_callS (dC := G10_asHeld_dep) (as := [.int p1, .int (p3 + (x.2.1 * p4))]) (st := []) C rX kX (Nat.le_trans (Nat.le_of_ble_eq_true rfl) hd) (Nat.le_of_ble_eq_true rfl) tw_4_4 tw_4_3 tc_4_5 tw_1_2 hyX10 hnX10_asHeld rfl (Nat.le_of_ble_eq_true rfl) dX10_readAsBoxed_29 (G10_asHeld_met C.2.2.2.2.2.2.2.1 (Nat.le_refl _)  h) (fun r0 μ8 hq => ?_)
      obtain ⟨r9, rfl, h⟩ := hq
      refine x_st [.int r9] rfl ?_
      refine x_istore C [(7, .int r9), (0, .ref 1), (1, .int p1), (2, .int p2), (3, .int p3), (4, .int p4), (5, .int x.1), (6, .int x.2.1)] (Nat.le_of_ble_eq_true rfl) rfl dX10_readAsBoxed_32 ?_
      refine x_aload_n C rfl 1 rfl dX10_readAsBoxed_34 ?_
      refine x_getR (r := 9) C (j := 9) ob1.1 ob1.2 (Nat.le_of_ble_eq_true rfl) (Nat.le_of_ble_eq_true rfl) (fun _ _ _ => rfl) r_1_9 tw_1_143 dX10_readAsBoxed_35 ?_
      refine x_iload C 7 rfl dX10_readAsBoxed_38 ?_
      obtain ⟨c10, h⟩ := h
      refine x_aald (r := (19 + x.2.1.toNatClampNeg)) C ob9.1 (by decide) (by decide) c10 rfl (rA9 c10) dX10_readAsBoxed_40 ?_
      refine x_getIN C (j := 6) (obA9 c10).1 (obA9 c10).2 (Nat.le_of_ble_eq_true rfl) (Nat.le_of_ble_eq_true rfl) (Or.inr rfl) tw_1_74 dX10_readAsBoxed_41 ?_
      refine x_if_ne (tgt := 75) C dX10_readAsBoxed_44 (by decide) (fun c11 => ?_) (fun c11 => ?_)
      · have h := h.1 c11
        refine x_iinc (v := (x.2.1 + 1)) C [(6, .int (x.2.1 + 1)), (7, .int r9), (0, .ref 1), (1, .int p1), (2, .int p2), (3, .int p3), (4, .int p4), (5, .int x.1)] 7 rfl (congrArg (fun z => x.2.1 + z) (by decide : Int32.ofInt (1) = 1)) (Nat.le_of_ble_eq_true rfl) rfl dX10_readAsBoxed_75 ?_
        refine x_goto (tgt := 6) C dX10_readAsBoxed_78 (by decide) ?_
        refine x_sub [(0, .ref 1), (1, .int p1), (2, .int p2), (3, .int p3), (4, .int p4), (5, .int x.1), (6, .int (x.2.1 + 1))] [2, 3, 4, 5, 6, 7, 0] rfl ?_
        exact hK6 _ _ _ h
      · have h := h.2 c11
        refine x_iload C 0 rfl dX10_readAsBoxed_47 ?_
        refine x_if_lt (tgt := 75) C dX10_readAsBoxed_49 (by decide) (fun c12 => ?_) (fun c12 => ?_)
        · have h := h.1 c12
          refine x_iinc (v := (x.2.1 + 1)) C [(6, .int (x.2.1 + 1)), (7, .int r9), (0, .ref 1), (1, .int p1), (2, .int p2), (3, .int p3), (4, .int p4), (5, .int x.1)] 7 rfl (congrArg (fun z => x.2.1 + z) (by decide : Int32.ofInt (1) = 1)) (Nat.le_of_ble_eq_true rfl) rfl dX10_readAsBoxed_75 ?_
          refine x_goto (tgt := 6) C dX10_readAsBoxed_78 (by decide) ?_
          refine x_sub [(0, .ref 1), (1, .int p1), (2, .int p2), (3, .int p3), (4, .int p4), (5, .int x.1), (6, .int (x.2.1 + 1))] [2, 3, 4, 5, 6, 7, 0] rfl ?_
          exact hK6 _ _ _ h
        · have h := h.2 c12
          refine x_aload_n C rfl 1 rfl dX10_readAsBoxed_52 ?_
          refine x_getR (r := 9) C (j := 9) ob1.1 ob1.2 (Nat.le_of_ble_eq_true rfl) (Nat.le_of_ble_eq_true rfl) (fun _ _ _ => rfl) r_1_9 tw_1_143 dX10_readAsBoxed_53 ?_
          refine x_iload C 7 rfl dX10_readAsBoxed_56 ?_
          obtain ⟨c13, h⟩ := h
          refine x_aald (r := (19 + x.2.1.toNatClampNeg)) C ob9.1 (by decide) (by decide) c13 rfl (rA9 c13) dX10_readAsBoxed_58 ?_
          refine x_iload C 0 rfl dX10_readAsBoxed_59 ?_
          refine x_if_le (tgt := 68) C dX10_readAsBoxed_61 (by decide) (fun c14 => ?_) (fun c14 => ?_)
          · have h := h.1 c14
            refine x_iconst (v := 0) C (by decide) dX10_readAsBoxed_68 ?_
            refine x_sub [(0, .ref 1), (1, .int p1), (2, .int p2), (3, .int p3), (4, .int p4), (5, .int x.1), (6, .int x.2.1)] [1, 2, 3, 4, 5, 6, 7] rfl ?_
            exact G10_readAsBoxed_J69_ok C hd hr (obA9 c13) hK6 h
          · have h := h.2 c14
            refine x_iconst (v := 1) C (by decide) dX10_readAsBoxed_64 ?_
            refine x_goto (tgt := 69) C dX10_readAsBoxed_65 (by decide) ?_
            refine x_sub [(0, .ref 1), (1, .int p1), (2, .int p2), (3, .int p3), (4, .int p4), (5, .int x.1), (6, .int x.2.1)] [1, 2, 3, 4, 5, 6, 7] rfl ?_
            exact G10_readAsBoxed_J69_ok C hd hr (obA9 c13) hK6 h
theorem G10_readAsBoxed_L6_ok {p : Program} {e : Env} {s : State} {m : MethodId} {args : Array Value} {below : List Frame} {meth : Method} {c : Code} {l : Launch} {φ : Nat → Nat} {tc : Nat → ClassId} {D : va_G} {s0 : State} {dR : Nat} (C : CX p s m args meth c φ tc D (AX φ) s0 cX10_readAsBoxed RX10 8) (hd : G10_readAsBoxed_dep ≤ dR) (hr : meth.sig.returnType = (some .int))  {p1 : Int32} {p2 : Int32} {p3 : Int32} {p4 : Int32} {Q : Int32 → MM → Prop}  {x : Int32 × Int32 × MM}    (h : Lp (G10_readAsBoxed_L6 p1 p2 p3 p4 Q) x) : WX p l e (rmX dR) s m args below meth c φ tc D (AX φ) 8 0 0 (MQ below (QX φ tc D (QI Q)) args s 0 0 (AX φ)) 6 [(0, .ref 1), (1, .int p1), (2, .int p2), (3, .int p3), (4, .int p4), (5, .int x.1), (6, .int x.2.1)] [] x.2.2 := by
  obtain ⟨n, h⟩ := h
  induction n generalizing x with
  | zero => exact h.elim
  | succ n ih => exact G10_readAsBoxed_L6_b C hd hr   (fun z5 z6 zμ hz => by have q := ih hz; exact q) h
set_option maxHeartbeats 4000000 in
set_option maxRecDepth 100000 in
theorem G10_readAsBoxed_met {l : Launch} {φ : Nat → Nat} {tc : Nat → ClassId} {D : va_G} {s0 : State} (hG : GX φ tc D s0) {dR : Nat} (hd : G10_readAsBoxed_dep ≤ dR) {v1 : Int32} {v2 : Int32} {v3 : Int32} {v4 : Int32} {μ : MM} {Q : Int32 → MM → Prop}  (h : G10_readAsBoxed v1 v2 v3 v4 μ Q) : MX l φ tc D s0 dR yX10_readAsBoxed cX10_readAsBoxed 8 (some .int) [.ref 1, .int v1, .int v2, .int v3, .int v4] μ (QI Q) := by
  refine MX.of (own := RX10) hG plX10 rfl (Nat.le_of_ble_eq_true rfl) (fun p e s m args below meth c C hr => ?_)
  refine x_sub [(0, .ref 1), (1, .int v1), (2, .int v2), (3, .int v3), (4, .int v4)] [0, 1, 2, 3, 4] rfl ?_
  unfold G10_readAsBoxed at h
  refine x_iconst (v := 0) C (by decide) dX10_readAsBoxed_0 ?_
  refine x_istore C [(5, .int 0), (0, .ref 1), (1, .int v1), (2, .int v2), (3, .int v3), (4, .int v4)] (Nat.le_of_ble_eq_true rfl) rfl dX10_readAsBoxed_1 ?_
  refine x_iconst (v := 0) C (by decide) dX10_readAsBoxed_3 ?_
  refine x_istore C [(6, .int 0), (5, .int 0), (0, .ref 1), (1, .int v1), (2, .int v2), (3, .int v3), (4, .int v4)] (Nat.le_of_ble_eq_true rfl) rfl dX10_readAsBoxed_4 ?_
  refine x_sub [(0, .ref 1), (1, .int v1), (2, .int v2), (3, .int v3), (4, .int v4), (5, .int 0), (6, .int 0)] [2, 3, 4, 5, 6, 1, 0] rfl ?_
  exact G10_readAsBoxed_L6_ok C hd hr  h
set_option maxHeartbeats 4000000 in
set_option maxRecDepth 100000 in
theorem G11_box_met {l : Launch} {φ : Nat → Nat} {tc : Nat → ClassId} {D : va_G} {s0 : State} (hG : GX φ tc D s0) {dR : Nat} (hd : G11_box_dep ≤ dR) {v1 : Int32} {v2 : Int32} {v3 : Int32} {v4 : Int32} {μ : MM} {Q : Int32 → MM → Prop}  (h : G11_box v1 v2 v3 v4 μ Q) : MX l φ tc D s0 dR yX11_box cX11_box 5 (some .int) [.ref 0, .int v1, .int v2, .int v3, .int v4] μ (QI Q) := by
  refine MX.of (own := RX11) hG plX11 rfl (Nat.le_of_ble_eq_true rfl) (fun p e s m args below meth c C hr => ?_)
  refine x_sub [(0, .ref 0), (1, .int v1), (2, .int v2), (3, .int v3), (4, .int v4)] [0, 1, 2, 3, 4] rfl ?_
  unfold G11_box at h
  refine x_iload_n C rfl 1 rfl dX11_box_0 ?_
  refine x_iconst (v := 0) C (by decide) dX11_box_1 ?_
  refine x_iconst (v := 3) C (by decide) dX11_box_2 ?_
  refine x_callS (dC := G11_within_dep) (as := [.int v1, .int 0, .int 3]) (st := []) C rX kX (Nat.le_trans (Nat.le_of_ble_eq_true rfl) hd) (Nat.le_of_ble_eq_true rfl) tw_2_196 tw_2_195 tc_2_197 tw_1_1 hyX11 hnX11_within rfl (Nat.le_of_ble_eq_true rfl) dX11_box_3 (G11_within_met C.2.2.2.2.2.2.2.1 (Nat.le_refl _)  h) (fun r0 μ7 hq => ?_)
  obtain ⟨r8, rfl, h⟩ := hq
  refine x_st [.int r8] rfl ?_
  refine x_if_eq (tgt := 15) C dX11_box_6 (by decide) (fun c9 => ?_) (fun c9 => ?_)
  · have h := h.1 c9
    refine x_iconst (v := (-1)) C (by decide) dX11_box_15 ?_
    exact x_iret C hr dX11_box_16 ⟨_, rfl, h⟩
  · have h := h.2 c9
    refine x_iload_n C rfl 2 rfl dX11_box_9 ?_
    refine x_bipush (v := 96) C (by decide) dX11_box_10 ?_
    refine x_icmp_le (tgt := 17) C dX11_box_12 (by decide) (fun c10 => ?_) (fun c10 => ?_)
    · have h := h.1 c10
      refine x_iload_n C rfl 1 rfl dX11_box_17 ?_
      refine x_iconst (v := 3) C (by decide) dX11_box_18 ?_
      refine x_icmp_ne (tgt := 30) C dX11_box_19 (by decide) (fun c11 => ?_) (fun c11 => ?_)
      · have h := h.1 c11
        refine x_iload_n C rfl 2 rfl dX11_box_30 ?_
        refine x_if_ge (tgt := 39) C dX11_box_31 (by decide) (fun c12 => ?_) (fun c12 => ?_)
        · have h := h.1 c12
          refine x_aload_n C rfl 0 rfl dX11_box_39 ?_
          refine x_getR (r := 1) C (j := 0) ob0.1 ob0.2 (Nat.le_of_ble_eq_true rfl) (Nat.le_of_ble_eq_true rfl) (fun _ _ _ => rfl) r_0_0 tw_2_163 dX11_box_40 ?_
          refine x_iload_n C rfl 1 rfl dX11_box_43 ?_
          refine x_iload_n C rfl 2 rfl dX11_box_44 ?_
          refine x_iload_n C rfl 3 rfl dX11_box_45 ?_
          refine x_iload C 4 rfl dX11_box_46 ?_
          refine x_callVN (dC := G10_readAsBoxed_dep) (as := [.int v1, .int v2, .int v3, .int v4]) (st := []) C rX kX (Nat.le_trans (Nat.le_of_ble_eq_true rfl) hd) (Nat.le_of_ble_eq_true rfl) ob1.1 ob1.2 (Nat.le_of_ble_eq_true rfl) rfl ts_3_0 tw_4_1 tw_3_239 tc_4_2 tw_1_2 hyX10 hnX10_readAsBoxed rfl (Nat.le_of_ble_eq_true rfl) dX11_box_48 (G10_readAsBoxed_met C.2.2.2.2.2.2.2.1 (Nat.le_refl _)  h) (fun r0 μ13 hq => ?_)
          obtain ⟨r14, rfl, h⟩ := hq
          refine x_st [.int r14] rfl ?_
          exact x_iret C hr dX11_box_51 ⟨_, rfl, h⟩
        · have h := h.2 c12
          refine x_bipush (v := (-2)) C (by decide) dX11_box_34 ?_
          refine x_goto (tgt := 51) C dX11_box_36 (by decide) ?_
          exact x_iret C hr dX11_box_51 ⟨_, rfl, h⟩
      · have h := h.2 c11
        refine x_aload_n C rfl 0 rfl dX11_box_22 ?_
        refine x_getR (r := 1) C (j := 0) ob0.1 ob0.2 (Nat.le_of_ble_eq_true rfl) (Nat.le_of_ble_eq_true rfl) (fun _ _ _ => rfl) r_0_0 tw_2_163 dX11_box_23 ?_
        refine x_callVN (dC := G10_readAllWithoutRings_dep) (as := []) (st := []) C rX kX (Nat.le_trans (Nat.le_of_ble_eq_true rfl) hd) (Nat.le_of_ble_eq_true rfl) ob1.1 ob1.2 (Nat.le_of_ble_eq_true rfl) rfl ts_2_15 tw_3_237 tw_3_235 tc_3_238 tw_1_2 hyX10 hnX10_readAllWithoutRings rfl (Nat.le_of_ble_eq_true rfl) dX11_box_26 (G10_readAllWithoutRings_met C.2.2.2.2.2.2.2.1 (Nat.le_refl _)  h) (fun r0 μ15 hq => ?_)
        obtain ⟨r16, rfl, h⟩ := hq
        refine x_st [.int r16] rfl ?_
        exact x_iret C hr dX11_box_29 ⟨_, rfl, h⟩
    · have h := h.2 c10
      refine x_iconst (v := (-1)) C (by decide) dX11_box_15 ?_
      exact x_iret C hr dX11_box_16 ⟨_, rfl, h⟩
set_option maxHeartbeats 4000000 in
set_option maxRecDepth 100000 in
theorem G11_after_met {l : Launch} {φ : Nat → Nat} {tc : Nat → ClassId} {D : va_G} {s0 : State} (hG : GX φ tc D s0) {dR : Nat} (hd : G11_after_dep ≤ dR) {v1 : Int32} {v2 : Int32} {μ : MM} {Q : Int32 → MM → Prop}  (h : G11_after v1 v2 μ Q) : MX l φ tc D s0 dR yX11_after cX11_after 4 (some .int) [.ref 0, .int v1, .int v2] μ (QI Q) := by
  refine MX.of (own := RX11) hG plX11 rfl (Nat.le_of_ble_eq_true rfl) (fun p e s m args below meth c C hr => ?_)
  refine x_sub [(0, .ref 0), (1, .int v1), (2, .int v2)] [0, 1, 2] rfl ?_
  unfold G11_after at h
  refine x_aload_n C rfl 0 rfl dX11_after_0 ?_
  refine x_getR (r := 1) C (j := 0) ob0.1 ob0.2 (Nat.le_of_ble_eq_true rfl) (Nat.le_of_ble_eq_true rfl) (fun _ _ _ => rfl) r_0_0 tw_2_163 dX11_after_1 ?_
  refine x_iload_n C rfl 1 rfl dX11_after_4 ?_
  refine x_callVN (dC := G10_isLetter_dep) (as := [.int v1]) (st := []) C rX kX (Nat.le_trans (Nat.le_of_ble_eq_true rfl) hd) (Nat.le_of_ble_eq_true rfl) ob1.1 ob1.2 (Nat.le_of_ble_eq_true rfl) rfl ts_2_14 tw_3_228 tw_3_226 tc_3_229 tw_1_2 hyX10 hnX10_isLetter rfl (Nat.le_of_ble_eq_true rfl) dX11_after_5 (G10_isLetter_met C.2.2.2.2.2.2.2.1 (Nat.le_refl _)  h) (fun r0 μ10 hq => ?_)
  obtain ⟨r11, rfl, h⟩ := hq
  refine x_st [.int r11] rfl ?_
  refine x_if_eq (tgt := 35) C dX11_after_8 (by decide) (fun c12 => ?_) (fun c12 => ?_)
  · have h := h.1 c12
    refine x_iconst (v := (-1)) C (by decide) dX11_after_35 ?_
    exact x_iret C hr dX11_after_36 ⟨_, rfl, h⟩
  · have h := h.2 c12
    refine x_aload_n C rfl 0 rfl dX11_after_11 ?_
    refine x_getR (r := 1) C (j := 0) ob0.1 ob0.2 (Nat.le_of_ble_eq_true rfl) (Nat.le_of_ble_eq_true rfl) (fun _ _ _ => rfl) r_0_0 tw_2_163 dX11_after_12 ?_
    refine x_getRN (r := 9) C (j := 9) ob1.1 ob1.2 (Nat.le_of_ble_eq_true rfl) (Nat.le_of_ble_eq_true rfl) (fun _ _ _ => rfl) r_1_9 tw_1_148 dX11_after_15 ?_
    refine x_iload_n C rfl 1 rfl dX11_after_18 ?_
    obtain ⟨c13, h⟩ := h
    refine x_aald (r := (19 + v1.toNatClampNeg)) C ob9.1 (by decide) (by decide) c13 rfl (rA9 c13) dX11_after_19 ?_
    refine x_getIN C (j := 7) (obA9 c13).1 (obA9 c13).2 (Nat.le_of_ble_eq_true rfl) (Nat.le_of_ble_eq_true rfl) (Or.inr rfl) tw_1_79 dX11_after_20 ?_
    refine x_if_eq (tgt := 35) C dX11_after_23 (by decide) (fun c14 => ?_) (fun c14 => ?_)
    · have h := h.1 c14
      refine x_iconst (v := (-1)) C (by decide) dX11_after_35 ?_
      exact x_iret C hr dX11_after_36 ⟨_, rfl, h⟩
    · have h := h.2 c14
      refine x_iload_n C rfl 2 rfl dX11_after_26 ?_
      refine x_iconst (v := 0) C (by decide) dX11_after_27 ?_
      refine x_iconst (v := 2) C (by decide) dX11_after_28 ?_
      refine x_callS (dC := G11_within_dep) (as := [.int v2, .int 0, .int 2]) (st := []) C rX kX (Nat.le_trans (Nat.le_of_ble_eq_true rfl) hd) (Nat.le_of_ble_eq_true rfl) tw_2_196 tw_2_195 tc_2_197 tw_1_1 hyX11 hnX11_within rfl (Nat.le_of_ble_eq_true rfl) dX11_after_29 (G11_within_met C.2.2.2.2.2.2.2.1 (Nat.le_refl _)  h) (fun r0 μ15 hq => ?_)
      obtain ⟨r16, rfl, h⟩ := hq
      refine x_st [.int r16] rfl ?_
      refine x_if_ne (tgt := 37) C dX11_after_32 (by decide) (fun c17 => ?_) (fun c17 => ?_)
      · have h := h.1 c17
        refine x_aload_n C rfl 0 rfl dX11_after_37 ?_
        refine x_getR (r := 1) C (j := 0) ob0.1 ob0.2 (Nat.le_of_ble_eq_true rfl) (Nat.le_of_ble_eq_true rfl) (fun _ _ _ => rfl) r_0_0 tw_2_163 dX11_after_38 ?_
        refine x_getRN (r := 9) C (j := 9) ob1.1 ob1.2 (Nat.le_of_ble_eq_true rfl) (Nat.le_of_ble_eq_true rfl) (fun _ _ _ => rfl) r_1_9 tw_1_148 dX11_after_41 ?_
        refine x_iload_n C rfl 1 rfl dX11_after_44 ?_
        obtain ⟨c18, h⟩ := h
        refine x_aald (r := (19 + v1.toNatClampNeg)) C ob9.1 (by decide) (by decide) c18 rfl (rA9 c18) dX11_after_45 ?_
        refine x_getIN C (j := 8) (obA9 c18).1 (obA9 c18).2 (Nat.le_of_ble_eq_true rfl) (Nat.le_of_ble_eq_true rfl) (Or.inl rfl) tw_1_83 dX11_after_46 ?_
        refine x_topi (fun y19 e_y19 => ?_)
        have h := h y19 e_y19
        refine x_istore_n C [(3, .int y19), (0, .ref 0), (1, .int v1), (2, .int v2)] rfl (Nat.le_of_ble_eq_true rfl) rfl dX11_after_49 ?_
        refine x_aload_n C rfl 1 rfl dX11_after_50 ?_
        refine x_getR (r := 1) C (j := 0) ob0.1 ob0.2 (Nat.le_of_ble_eq_true rfl) (Nat.le_of_ble_eq_true rfl) (fun _ _ _ => rfl) r_0_0 tw_2_163 dX11_after_51 ?_
        refine x_getRN (r := 9) C (j := 9) ob1.1 ob1.2 (Nat.le_of_ble_eq_true rfl) (Nat.le_of_ble_eq_true rfl) (fun _ _ _ => rfl) r_1_9 tw_1_148 dX11_after_54 ?_
        refine x_iload_n C rfl 2 rfl dX11_after_57 ?_
        obtain ⟨c20, h⟩ := h
        refine x_aald (r := (19 + v1.toNatClampNeg)) C ob9.1 (by decide) (by decide) c20 rfl (rA9 c20) dX11_after_58 ?_
        refine x_iload_n C rfl 3 rfl dX11_after_59 ?_
        refine x_putIN C (j := 8) (obA9 c20).1 (obA9 c20).2 (Nat.le_of_ble_eq_true rfl) (Nat.le_of_ble_eq_true rfl) (Or.inl rfl) rfl rfl rfl tw_1_83 dX11_after_60 ?_
        refine x_mu (fun μ21 e_μ21 => ?_)
        have h := h μ21 e_μ21
        refine x_iload_n C rfl 0 rfl dX11_after_63 ?_
        exact x_iret C hr dX11_after_64 ⟨_, rfl, h⟩
      · have h := h.2 c17
        refine x_iconst (v := (-1)) C (by decide) dX11_after_35 ?_
        exact x_iret C hr dX11_after_36 ⟨_, rfl, h⟩
set_option maxHeartbeats 4000000 in
set_option maxRecDepth 100000 in
theorem G11_seed_met {l : Launch} {φ : Nat → Nat} {tc : Nat → ClassId} {D : va_G} {s0 : State} (hG : GX φ tc D s0) {dR : Nat} (hd : G11_seed_dep ≤ dR) {v1 : Int32} {μ : MM} {Q : Int32 → MM → Prop}  (h : G11_seed v1 μ Q) : MX l φ tc D s0 dR yX11_seed cX11_seed 3 (some .int) [.ref 0, .int v1] μ (QI Q) := by
  refine MX.of (own := RX11) hG plX11 rfl (Nat.le_of_ble_eq_true rfl) (fun p e s m args below meth c C hr => ?_)
  refine x_sub [(0, .ref 0), (1, .int v1)] [0, 1] rfl ?_
  unfold G11_seed at h
  refine x_aload_n C rfl 0 rfl dX11_seed_0 ?_
  refine x_getR (r := 1) C (j := 0) ob0.1 ob0.2 (Nat.le_of_ble_eq_true rfl) (Nat.le_of_ble_eq_true rfl) (fun _ _ _ => rfl) r_0_0 tw_2_163 dX11_seed_1 ?_
  refine x_getIN C (j := 14) ob1.1 ob1.2 (Nat.le_of_ble_eq_true rfl) (Nat.le_of_ble_eq_true rfl) (Or.inl rfl) tw_1_163 dX11_seed_4 ?_
  refine x_topi (fun y3 e_y3 => ?_)
  have h := h y3 e_y3
  refine x_istore_n C [(2, .int y3), (0, .ref 0), (1, .int v1)] rfl (Nat.le_of_ble_eq_true rfl) rfl dX11_seed_7 ?_
  refine x_aload_n C rfl 1 rfl dX11_seed_8 ?_
  refine x_getR (r := 1) C (j := 0) ob0.1 ob0.2 (Nat.le_of_ble_eq_true rfl) (Nat.le_of_ble_eq_true rfl) (fun _ _ _ => rfl) r_0_0 tw_2_163 dX11_seed_9 ?_
  refine x_iload_n C rfl 2 rfl dX11_seed_12 ?_
  refine x_putIN C (j := 14) ob1.1 ob1.2 (Nat.le_of_ble_eq_true rfl) (Nat.le_of_ble_eq_true rfl) (Or.inl rfl) rfl rfl rfl tw_1_163 dX11_seed_13 ?_
  refine x_mu (fun μ4 e_μ4 => ?_)
  have h := h μ4 e_μ4
  refine x_iload_n C rfl 0 rfl dX11_seed_16 ?_
  exact x_iret C hr dX11_seed_17 ⟨_, rfl, h⟩
set_option maxHeartbeats 4000000 in
set_option maxRecDepth 100000 in
theorem G11_greatestDivisor_L31_b {p : Program} {e : Env} {s : State} {m : MethodId} {args : Array Value} {below : List Frame} {meth : Method} {c : Code} {l : Launch} {φ : Nat → Nat} {tc : Nat → ClassId} {D : va_G} {s0 : State} {dR : Nat} (C : CX p s m args meth c φ tc D (AX φ) s0 cX11_greatestDivisor RX11 11) (hd : G11_greatestDivisor_dep ≤ dR) (hr : meth.sig.returnType = (some .long))   {Q : Int64 → MM → Prop} {K31 : Int64 × Int64 × Int32 × MM → Prop} {x : Int64 × Int64 × Int32 × MM}   (hK31 : ∀ (z4 : Int64) (z6 : Int64) (z8 : Int32) (zμ : MM), K31 (z4, z6, z8, zμ) → WX p l e (rmX dR) s m args below meth c φ tc D (AX φ) 11 0 0 (MQ below (QX φ tc D (QJ Q)) args s 0 0 (AX φ)) 31 [(4, .long z4), (6, .long z6), (8, .int z8)] [] zμ) (h : G11_greatestDivisor_L31  Q K31 x) : WX p l e (rmX dR) s m args below meth c φ tc D (AX φ) 11 0 0 (MQ below (QX φ tc D (QJ Q)) args s 0 0 (AX φ)) 31 [(4, .long x.1), (6, .long x.2.1), (8, .int x.2.2.1)] [] x.2.2.2 := by
  unfold G11_greatestDivisor_L31 at h
  refine x_iload C 2 rfl dX11_greatestDivisor_31 ?_
  refine x_bipush (v := 100) C (by decide) dX11_greatestDivisor_33 ?_
  refine x_icmp_ge (tgt := 66) C dX11_greatestDivisor_35 (by decide) (fun c6 => ?_) (fun c6 => ?_)
  · have h := h.1 c6
    refine x_lload C 0 rfl dX11_greatestDivisor_66 ?_
    exact x_lret C hr dX11_greatestDivisor_68 ⟨_, rfl, h⟩
  · have h := h.2 c6
    refine x_lload C 1 rfl dX11_greatestDivisor_38 ?_
    refine x_lconst (v := 0) C (by decide) dX11_greatestDivisor_40 ?_
    refine x_lcmp C dX11_greatestDivisor_41 ?_
    refine x_if_eq (tgt := 66) C dX11_greatestDivisor_42 (by decide) (fun c7 => ?_) (fun c7 => ?_)
    · have h := h.1 c7
      refine x_lload C 0 rfl dX11_greatestDivisor_66 ?_
      exact x_lret C hr dX11_greatestDivisor_68 ⟨_, rfl, h⟩
    · have h := h.2 c7
      refine x_lload C 0 rfl dX11_greatestDivisor_45 ?_
      refine x_lload C 1 rfl dX11_greatestDivisor_47 ?_
      obtain ⟨c8, h⟩ := h
      refine x_lrem C c8 dX11_greatestDivisor_49 ?_
      refine x_topl (fun y9 e_y9 => ?_)
      have h := h y9 e_y9
      refine x_lstore C [(9, .long y9), (4, .long x.1), (6, .long x.2.1), (8, .int x.2.2.1)] (Nat.le_of_ble_eq_true rfl) rfl dX11_greatestDivisor_50 ?_
      refine x_lload C 2 rfl dX11_greatestDivisor_52 ?_
      refine x_lstore C [(4, .long x.2.1), (9, .long y9), (6, .long x.2.1), (8, .int x.2.2.1)] (Nat.le_of_ble_eq_true rfl) rfl dX11_greatestDivisor_54 ?_
      refine x_lload C 1 rfl dX11_greatestDivisor_56 ?_
      refine x_lstore C [(6, .long y9), (4, .long x.2.1), (9, .long y9), (8, .int x.2.2.1)] (Nat.le_of_ble_eq_true rfl) rfl dX11_greatestDivisor_58 ?_
      refine x_iinc (v := (x.2.2.1 + 1)) C [(8, .int (x.2.2.1 + 1)), (6, .long y9), (4, .long x.2.1), (9, .long y9)] 3 rfl (congrArg (fun z => x.2.2.1 + z) (by decide : Int32.ofInt (1) = 1)) (Nat.le_of_ble_eq_true rfl) rfl dX11_greatestDivisor_60 ?_
      refine x_goto (tgt := 31) C dX11_greatestDivisor_63 (by decide) ?_
      refine x_sub [(4, .long x.2.1), (6, .long y9), (8, .int (x.2.2.1 + 1))] [2, 1, 0] rfl ?_
      exact hK31 _ _ _ _ h
theorem G11_greatestDivisor_L31_ok {p : Program} {e : Env} {s : State} {m : MethodId} {args : Array Value} {below : List Frame} {meth : Method} {c : Code} {l : Launch} {φ : Nat → Nat} {tc : Nat → ClassId} {D : va_G} {s0 : State} {dR : Nat} (C : CX p s m args meth c φ tc D (AX φ) s0 cX11_greatestDivisor RX11 11) (hd : G11_greatestDivisor_dep ≤ dR) (hr : meth.sig.returnType = (some .long))   {Q : Int64 → MM → Prop}  {x : Int64 × Int64 × Int32 × MM}    (h : Lp (G11_greatestDivisor_L31  Q) x) : WX p l e (rmX dR) s m args below meth c φ tc D (AX φ) 11 0 0 (MQ below (QX φ tc D (QJ Q)) args s 0 0 (AX φ)) 31 [(4, .long x.1), (6, .long x.2.1), (8, .int x.2.2.1)] [] x.2.2.2 := by
  obtain ⟨n, h⟩ := h
  induction n generalizing x with
  | zero => exact h.elim
  | succ n ih => exact G11_greatestDivisor_L31_b C hd hr   (fun z4 z6 z8 zμ hz => by have q := ih hz; exact q) h
set_option maxHeartbeats 4000000 in
set_option maxRecDepth 100000 in
theorem G11_greatestDivisor_J12_ok {p : Program} {e : Env} {s : State} {m : MethodId} {args : Array Value} {below : List Frame} {meth : Method} {c : Code} {l : Launch} {φ : Nat → Nat} {tc : Nat → ClassId} {D : va_G} {s0 : State} {dR : Nat} (C : CX p s m args meth c φ tc D (AX φ) s0 cX11_greatestDivisor RX11 11) (hd : G11_greatestDivisor_dep ≤ dR) (hr : meth.sig.returnType = (some .long))   {p2 : Int64} {q0 : Int64} {Q : Int64 → MM → Prop}  {μ : MM}    (h : G11_greatestDivisor_J12 p2 q0 μ Q) : WX p l e (rmX dR) s m args below meth c φ tc D (AX φ) 11 0 0 (MQ below (QX φ tc D (QJ Q)) args s 0 0 (AX φ)) 12 [(2, .long p2)] [.long q0] μ := by
  unfold G11_greatestDivisor_J12 at h
  refine x_lstore C [(4, .long q0), (2, .long p2)] (Nat.le_of_ble_eq_true rfl) rfl dX11_greatestDivisor_12 ?_
  refine x_lload_n C rfl 1 rfl dX11_greatestDivisor_14 ?_
  refine x_lconst (v := 0) C (by decide) dX11_greatestDivisor_15 ?_
  refine x_lcmp C dX11_greatestDivisor_16 ?_
  refine x_if_ge (tgt := 25) C dX11_greatestDivisor_17 (by decide) (fun c5 => ?_) (fun c5 => ?_)
  · have h := h.1 c5
    refine x_lload_n C rfl 1 rfl dX11_greatestDivisor_25 ?_
    refine x_lstore C [(6, .long p2), (4, .long q0), (2, .long p2)] (Nat.le_of_ble_eq_true rfl) rfl dX11_greatestDivisor_26 ?_
    refine x_iconst (v := 0) C (by decide) dX11_greatestDivisor_28 ?_
    refine x_istore C [(8, .int 0), (6, .long p2), (4, .long q0), (2, .long p2)] (Nat.le_of_ble_eq_true rfl) rfl dX11_greatestDivisor_29 ?_
    refine x_sub [(4, .long q0), (6, .long p2), (8, .int 0)] [2, 1, 0] rfl ?_
    exact G11_greatestDivisor_L31_ok C hd hr  h
  · have h := h.2 c5
    refine x_lload_n C rfl 1 rfl dX11_greatestDivisor_20 ?_
    refine x_lneg C dX11_greatestDivisor_21 ?_
    refine x_goto (tgt := 26) C dX11_greatestDivisor_22 (by decide) ?_
    refine x_topl (fun y10 e_y10 => ?_)
    have h := h y10 e_y10
    refine x_lstore C [(6, .long y10), (4, .long q0), (2, .long p2)] (Nat.le_of_ble_eq_true rfl) rfl dX11_greatestDivisor_26 ?_
    refine x_iconst (v := 0) C (by decide) dX11_greatestDivisor_28 ?_
    refine x_istore C [(8, .int 0), (6, .long y10), (4, .long q0), (2, .long p2)] (Nat.le_of_ble_eq_true rfl) rfl dX11_greatestDivisor_29 ?_
    refine x_sub [(4, .long q0), (6, .long y10), (8, .int 0)] [2, 1, 0] rfl ?_
    exact G11_greatestDivisor_L31_ok C hd hr  h
set_option maxHeartbeats 4000000 in
set_option maxRecDepth 100000 in
theorem G11_greatestDivisor_met {l : Launch} {φ : Nat → Nat} {tc : Nat → ClassId} {D : va_G} {s0 : State} (hG : GX φ tc D s0) {dR : Nat} (hd : G11_greatestDivisor_dep ≤ dR) {v0 : Int64} {v2 : Int64} {μ : MM} {Q : Int64 → MM → Prop}  (h : G11_greatestDivisor v0 v2 μ Q) : MX l φ tc D s0 dR yX11_greatestDivisor cX11_greatestDivisor 11 (some .long) [.long v0, .long v2] μ (QJ Q) := by
  refine MX.of (own := RX11) hG plX11 rfl (Nat.le_of_ble_eq_true rfl) (fun p e s m args below meth c C hr => ?_)
  refine x_sub [(0, .long v0), (2, .long v2)] [0, 1] rfl ?_
  unfold G11_greatestDivisor at h
  refine x_lload_n C rfl 0 rfl dX11_greatestDivisor_0 ?_
  refine x_lconst (v := 0) C (by decide) dX11_greatestDivisor_1 ?_
  refine x_lcmp C dX11_greatestDivisor_2 ?_
  refine x_if_ge (tgt := 11) C dX11_greatestDivisor_3 (by decide) (fun c4 => ?_) (fun c4 => ?_)
  · have h := h.1 c4
    refine x_lload_n C rfl 0 rfl dX11_greatestDivisor_11 ?_
    refine x_sub [(2, .long v2)] [1] rfl ?_
    exact G11_greatestDivisor_J12_ok C hd hr  h
  · have h := h.2 c4
    refine x_lload_n C rfl 0 rfl dX11_greatestDivisor_6 ?_
    refine x_lneg C dX11_greatestDivisor_7 ?_
    refine x_goto (tgt := 12) C dX11_greatestDivisor_8 (by decide) ?_
    refine x_sub [(2, .long v2)] [1] rfl ?_
    exact G11_greatestDivisor_J12_ok C hd hr  h
set_option maxHeartbeats 4000000 in
set_option maxRecDepth 100000 in
theorem G7_add_met {l : Launch} {φ : Nat → Nat} {tc : Nat → ClassId} {D : va_G} {s0 : State} (hG : GX φ tc D s0) {dR : Nat} (hd : G7_add_dep ≤ dR) {v1 : Int64} {μ : MM} {Q : MM → Prop}  (h : G7_add v1 μ Q) : MX l φ tc D s0 dR yX7_add cX7_add 3 none [.ref 151, .long v1] μ (QV Q) := by
  refine MX.of (own := RX7) hG plX7 rfl (Nat.le_of_ble_eq_true rfl) (fun p e s m args below meth c C hr => ?_)
  refine x_sub [(0, .ref 151), (1, .long v1)] [0, 1] rfl ?_
  unfold G7_add at h
  refine x_aload_n C rfl 0 rfl dX7_add_0 ?_
  refine x_getI C (j := 1) ob151.1 ob151.2 (Nat.le_of_ble_eq_true rfl) (Nat.le_of_ble_eq_true rfl) (Or.inl rfl) tw_1_212 dX7_add_1 ?_
  refine x_bipush (v := 10) C (by decide) dX7_add_4 ?_
  refine x_icmp_ge (tgt := 29) C dX7_add_6 (by decide) (fun c4 => ?_) (fun c4 => ?_)
  · have h := h.1 c4
    exact x_vret C hr dX7_add_29 ⟨rfl, h⟩
  · have h := h.2 c4
    refine x_aload_n C rfl 0 rfl dX7_add_9 ?_
    refine x_getR (r := 152) C (j := 0) ob151.1 ob151.2 (Nat.le_of_ble_eq_true rfl) (Nat.le_of_ble_eq_true rfl) (fun _ _ _ => rfl) r_151_0 tw_1_210 dX7_add_10 ?_
    refine x_aload_n C rfl 0 rfl dX7_add_13 ?_
    refine x_getI C (j := 1) ob151.1 ob151.2 (Nat.le_of_ble_eq_true rfl) (Nat.le_of_ble_eq_true rfl) (Or.inl rfl) tw_1_212 dX7_add_14 ?_
    refine x_lload_n C rfl 1 rfl dX7_add_17 ?_
    obtain ⟨c5, h⟩ := h
    refine x_last C ob152.1 ob152.2 c5 rfl dX7_add_18 ?_
    refine x_mu (fun μ6 e_μ6 => ?_)
    have h := h μ6 e_μ6
    refine x_aload_n C rfl 0 rfl dX7_add_19 ?_
    refine x_dup C rfl dX7_add_20 ?_
    refine x_getI C (j := 1) ob151.1 ob151.2 (Nat.le_of_ble_eq_true rfl) (Nat.le_of_ble_eq_true rfl) (Or.inl rfl) tw_1_212 dX7_add_21 ?_
    refine x_iconst (v := 1) C (by decide) dX7_add_24 ?_
    refine x_iadd C dX7_add_25 ?_
    refine x_putI C (j := 1) ob151.1 ob151.2 (Nat.le_of_ble_eq_true rfl) (Nat.le_of_ble_eq_true rfl) (Or.inl rfl) rfl rfl rfl tw_1_212 dX7_add_26 ?_
    refine x_mu (fun μ7 e_μ7 => ?_)
    have h := h μ7 e_μ7
    exact x_vret C hr dX7_add_29 ⟨rfl, h⟩
set_option maxHeartbeats 4000000 in
set_option maxRecDepth 100000 in
theorem G7_addFraction_met {l : Launch} {φ : Nat → Nat} {tc : Nat → ClassId} {D : va_G} {s0 : State} (hG : GX φ tc D s0) {dR : Nat} (hd : G7_addFraction_dep ≤ dR) {v1 : Int64} {v3 : Int64} {μ : MM} {Q : MM → Prop}  (h : G7_addFraction v1 v3 μ Q) : MX l φ tc D s0 dR yX7_addFraction cX7_addFraction 7 none [.ref 151, .long v1, .long v3] μ (QV Q) := by
  refine MX.of (own := RX7) hG plX7 rfl (Nat.le_of_ble_eq_true rfl) (fun p e s m args below meth c C hr => ?_)
  refine x_sub [(0, .ref 151), (1, .long v1), (3, .long v3)] [0, 1, 2] rfl ?_
  unfold G7_addFraction at h
  refine x_lload_n C rfl 1 rfl dX7_addFraction_0 ?_
  refine x_lload_n C rfl 2 rfl dX7_addFraction_1 ?_
  refine x_callSN (dC := G11_greatestDivisor_dep) (as := [.long v1, .long v3]) (st := []) C rX kX (Nat.le_trans (Nat.le_of_ble_eq_true rfl) hd) (Nat.le_of_ble_eq_true rfl) tw_4_59 tw_4_58 tc_4_60 tw_1_1 hyX11 hnX11_greatestDivisor rfl (Nat.le_of_ble_eq_true rfl) dX7_addFraction_2 (G11_greatestDivisor_met C.2.2.2.2.2.2.2.1 (Nat.le_refl _)  h) (fun r0 μ7 hq => ?_)
  obtain ⟨r8, rfl, h⟩ := hq
  refine x_st [.long r8] rfl ?_
  refine x_lstore C [(5, .long r8), (0, .ref 151), (1, .long v1), (3, .long v3)] (Nat.le_of_ble_eq_true rfl) rfl dX7_addFraction_5 ?_
  refine x_lload C 0 rfl dX7_addFraction_7 ?_
  refine x_lconst (v := 0) C (by decide) dX7_addFraction_9 ?_
  refine x_lcmp C dX7_addFraction_10 ?_
  refine x_if_eq (tgt := 30) C dX7_addFraction_11 (by decide) (fun c9 => ?_) (fun c9 => ?_)
  · have h := h.1 c9
    exact x_vret C hr dX7_addFraction_30 ⟨rfl, h⟩
  · have h := h.2 c9
    refine x_aload_n C rfl 1 rfl dX7_addFraction_14 ?_
    refine x_lload_n C rfl 2 rfl dX7_addFraction_15 ?_
    refine x_lload C 0 rfl dX7_addFraction_16 ?_
    obtain ⟨c10, h⟩ := h
    refine x_ldiv C c10 dX7_addFraction_18 ?_
    refine x_callV (dC := G7_add_dep) (as := [.long (v1 / r8)]) (st := []) C rX kX (Nat.le_trans (Nat.le_of_ble_eq_true rfl) hd) (Nat.le_of_ble_eq_true rfl) ob151.1 ob151.2 (Nat.le_of_ble_eq_true rfl) rfl ts_3_11 tw_4_63 tw_4_61 tc_4_64 tw_1_5 hyX7 hnX7_add rfl (Nat.le_of_ble_eq_true rfl) dX7_addFraction_19 (G7_add_met C.2.2.2.2.2.2.2.1 (Nat.le_refl _)  h) (fun r0 μ11 hq => ?_)
    obtain ⟨rfl, h⟩ := hq
    refine x_st [] rfl ?_
    refine x_aload_n C rfl 1 rfl dX7_addFraction_22 ?_
    refine x_lload_n C rfl 3 rfl dX7_addFraction_23 ?_
    refine x_lload C 0 rfl dX7_addFraction_24 ?_
    obtain ⟨c12, h⟩ := h
    refine x_ldiv C c12 dX7_addFraction_26 ?_
    refine x_callV (dC := G7_add_dep) (as := [.long (v3 / r8)]) (st := []) C rX kX (Nat.le_trans (Nat.le_of_ble_eq_true rfl) hd) (Nat.le_of_ble_eq_true rfl) ob151.1 ob151.2 (Nat.le_of_ble_eq_true rfl) rfl ts_3_11 tw_4_63 tw_4_61 tc_4_64 tw_1_5 hyX7 hnX7_add rfl (Nat.le_of_ble_eq_true rfl) dX7_addFraction_27 (G7_add_met C.2.2.2.2.2.2.2.1 (Nat.le_refl _)  h) (fun r0 μ13 hq => ?_)
    obtain ⟨rfl, h⟩ := hq
    refine x_st [] rfl ?_
    exact x_vret C hr dX7_addFraction_30 ⟨rfl, h⟩
set_option maxHeartbeats 4000000 in
set_option maxRecDepth 100000 in
theorem G7_clear_met {l : Launch} {φ : Nat → Nat} {tc : Nat → ClassId} {D : va_G} {s0 : State} (hG : GX φ tc D s0) {dR : Nat} (hd : G7_clear_dep ≤ dR)  {μ : MM} {Q : MM → Prop}  (h : G7_clear  μ Q) : MX l φ tc D s0 dR yX7_clear cX7_clear 1 none [.ref 151] μ (QV Q) := by
  refine MX.of (own := RX7) hG plX7 rfl (Nat.le_of_ble_eq_true rfl) (fun p e s m args below meth c C hr => ?_)
  refine x_sub [(0, .ref 151)] [0] rfl ?_
  unfold G7_clear at h
  refine x_aload_n C rfl 0 rfl dX7_clear_0 ?_
  refine x_iconst (v := 0) C (by decide) dX7_clear_1 ?_
  refine x_putI C (j := 1) ob151.1 ob151.2 (Nat.le_of_ble_eq_true rfl) (Nat.le_of_ble_eq_true rfl) (Or.inl rfl) rfl rfl rfl tw_1_212 dX7_clear_2 ?_
  refine x_mu (fun μ2 e_μ2 => ?_)
  have h := h μ2 e_μ2
  exact x_vret C hr dX7_clear_5 ⟨rfl, h⟩
set_option maxHeartbeats 4000000 in
set_option maxRecDepth 100000 in
theorem G9_clear_met {l : Launch} {φ : Nat → Nat} {tc : Nat → ClassId} {D : va_G} {s0 : State} (hG : GX φ tc D s0) {dR : Nat} (hd : G9_clear_dep ≤ dR) {t : Nat} {μ : MM} {Q : MM → Prop} (o_t : Ob t 9) (h : G9_clear t μ Q) : MX l φ tc D s0 dR yX9_clear cX9_clear 1 none [.ref t] μ (QV Q) := by
  refine MX.of (own := RX9) hG plX9 rfl (Nat.le_of_ble_eq_true rfl) (fun p e s m args below meth c C hr => ?_)
  refine x_sub [(0, .ref t)] [0] rfl ?_
  unfold G9_clear at h
  refine x_aload_n C rfl 0 rfl dX9_clear_0 ?_
  refine x_getR (r := (t + 1)) C (j := 0) o_t.1 o_t.2 (Nat.le_of_ble_eq_true rfl) (Nat.le_of_ble_eq_true rfl) (fun _ _ _ => rfl) (rF9_0 o_t) tw_1_232 dX9_clear_1 ?_
  refine x_iconst (v := 0) C (by decide) dX9_clear_4 ?_
  refine x_iconst (v := 0) C (by decide) dX9_clear_5 ?_
  refine x_iast C (obF9_0 o_t).1 (obF9_0 o_t).2 (by rw [lnF9_0 o_t]; unfold vp_in; decide) (j := 0) (by decide) dX9_clear_6 ?_
  refine x_mu (fun μ5 e_μ5 => ?_)
  have h := h μ5 e_μ5
  refine x_aload_n C rfl 0 rfl dX9_clear_7 ?_
  refine x_getR (r := (t + 1)) C (j := 0) o_t.1 o_t.2 (Nat.le_of_ble_eq_true rfl) (Nat.le_of_ble_eq_true rfl) (fun _ _ _ => rfl) (rF9_0 o_t) tw_1_232 dX9_clear_8 ?_
  refine x_iconst (v := 1) C (by decide) dX9_clear_11 ?_
  refine x_iconst (v := 0) C (by decide) dX9_clear_12 ?_
  refine x_iast C (obF9_0 o_t).1 (obF9_0 o_t).2 (by rw [lnF9_0 o_t]; unfold vp_in; decide) (j := 1) (by decide) dX9_clear_13 ?_
  refine x_mu (fun μ6 e_μ6 => ?_)
  have h := h μ6 e_μ6
  refine x_aload_n C rfl 0 rfl dX9_clear_14 ?_
  refine x_getR (r := (t + 2)) C (j := 1) o_t.1 o_t.2 (Nat.le_of_ble_eq_true rfl) (Nat.le_of_ble_eq_true rfl) (fun _ _ _ => rfl) (rF9_1 o_t) tw_1_235 dX9_clear_15 ?_
  refine x_iconst (v := 0) C (by decide) dX9_clear_18 ?_
  refine x_iconst (v := 0) C (by decide) dX9_clear_19 ?_
  refine x_iast C (obF9_1 o_t).1 (obF9_1 o_t).2 (by rw [lnF9_1 o_t]; unfold vp_in; decide) (j := 0) (by decide) dX9_clear_20 ?_
  refine x_mu (fun μ7 e_μ7 => ?_)
  have h := h μ7 e_μ7
  refine x_aload_n C rfl 0 rfl dX9_clear_21 ?_
  refine x_getR (r := (t + 2)) C (j := 1) o_t.1 o_t.2 (Nat.le_of_ble_eq_true rfl) (Nat.le_of_ble_eq_true rfl) (fun _ _ _ => rfl) (rF9_1 o_t) tw_1_235 dX9_clear_22 ?_
  refine x_iconst (v := 1) C (by decide) dX9_clear_25 ?_
  refine x_iconst (v := 0) C (by decide) dX9_clear_26 ?_
  refine x_iast C (obF9_1 o_t).1 (obF9_1 o_t).2 (by rw [lnF9_1 o_t]; unfold vp_in; decide) (j := 1) (by decide) dX9_clear_27 ?_
  refine x_mu (fun μ8 e_μ8 => ?_)
  have h := h μ8 e_μ8
  exact x_vret C hr dX9_clear_28 ⟨rfl, h⟩
