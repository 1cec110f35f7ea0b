set_option maxHeartbeats 4000000 in
set_option maxRecDepth 100000 in
theorem G12_readMany_L4_b {p : Program} {e : Env} {s : State} {m : MethodId} {args : Array Value} {below : List Frame} {meth : Method} {c : Code} {l : Launch} {φ : Nat → Nat} {tc : Nat → ClassId} {D : va_G} {s0 : State} {dR : Nat} (C : CX p s m args meth c φ tc D (AX φ) s0 cX12_readMany RX12 3) (hd : G12_readMany_dep ≤ dR) (hr : meth.sig.returnType = (some .int))   {Q : Int32 → MM → Prop} {K4 : Int32 × Int32 × MM → Prop} {x : Int32 × Int32 × MM}   (hK4 : ∀ (z1 : Int32) (z2 : Int32) (zμ : MM), K4 (z1, z2, zμ) → WX p l e (rmX dR) s m args below meth c φ tc D (AX φ) 3 0 0 (MQ below (QX φ tc D (QI Q)) args s 0 0 (AX φ)) 4 [(0, .ref 358), (1, .int z1), (2, .int z2)] [] zμ) (h : G12_readMany_L4  Q K4 x) : WX p l e (rmX dR) s m args below meth c φ tc D (AX φ) 3 0 0 (MQ below (QX φ tc D (QI Q)) args s 0 0 (AX φ)) 4 [(0, .ref 358), (1, .int x.1), (2, .int x.2.1)] [] x.2.2 := by
  unfold G12_readMany_L4 at h
  refine x_iload_n C rfl 2 rfl dX12_readMany_4 ?_
  refine x_aload_n C rfl 0 rfl dX12_readMany_5 ?_
  refine x_getI C (j := 12) ob358.1 ob358.2 (Nat.le_of_ble_eq_true rfl) (Nat.le_of_ble_eq_true rfl) (Or.inl rfl) tw_8_218 dX12_readMany_6 ?_
  refine x_icmp_ge (tgt := 30) C dX12_readMany_9 (by decide) (fun c5 => ?_) (fun c5 => ?_)
  · have h := h.1 c5
    refine x_iload_n C rfl 1 rfl dX12_readMany_30 ?_
    exact x_iret C hr dX12_readMany_31 ⟨_, rfl, h⟩
  · have h := h.2 c5
    refine x_iload_n C rfl 1 rfl dX12_readMany_12 ?_
    refine x_aload_n C rfl 0 rfl dX12_readMany_13 ?_
    refine x_getR (r := 373) C (j := 19) ob358.1 ob358.2 (Nat.le_of_ble_eq_true rfl) (Nat.le_of_ble_eq_true rfl) (fun _ _ _ => rfl) r_358_19 tw_8_225 dX12_readMany_14 ?_
    refine x_iload_n C rfl 2 rfl dX12_readMany_17 ?_
    obtain ⟨c6, h⟩ := h
    refine x_zald C ob373.1 ob373.2 c6 rfl dX12_readMany_18 ?_
    refine x_callS (dC := G12_flag_dep) (as := [.int (gI x.2.2 373 x.2.1.toNatClampNeg)]) (st := [.int x.1]) C rX kX (Nat.le_trans (Nat.le_of_ble_eq_true rfl) hd) (Nat.le_of_ble_eq_true rfl) tw_6_212 tw_6_211 tc_6_213 tw_1_13 hyX12 hnX12_flag rfl (Nat.le_of_ble_eq_true rfl) dX12_readMany_19 (G12_flag_met C.2.2.2.2.2.2.2.1 (Nat.le_refl _)  h) (fun r0 μ7 hq => ?_)
    obtain ⟨r8, rfl, h⟩ := hq
    refine x_st [.int r8, .int x.1] rfl ?_
    refine x_iadd C dX12_readMany_22 ?_
    refine x_topi (fun y9 e_y9 => ?_)
    have h := h y9 e_y9
    refine x_istore_n C [(1, .int y9), (0, .ref 358), (2, .int x.2.1)] rfl (Nat.le_of_ble_eq_true rfl) rfl dX12_readMany_23 ?_
    refine x_iinc (v := (x.2.1 + 1)) C [(2, .int (x.2.1 + 1)), (1, .int y9), (0, .ref 358)] 2 rfl (congrArg (fun z => x.2.1 + z) (by decide : Int32.ofInt (1) = 1)) (Nat.le_of_ble_eq_true rfl) rfl dX12_readMany_24 ?_
    refine x_goto (tgt := 4) C dX12_readMany_27 (by decide) ?_
    refine x_sub [(0, .ref 358), (1, .int y9), (2, .int (x.2.1 + 1))] [2, 1, 0] rfl ?_
    exact hK4 _ _ _ h
theorem G12_readMany_L4_ok {p : Program} {e : Env} {s : State} {m : MethodId} {args : Array Value} {below : List Frame} {meth : Method} {c : Code} {l : Launch} {φ : Nat → Nat} {tc : Nat → ClassId} {D : va_G} {s0 : State} {dR : Nat} (C : CX p s m args meth c φ tc D (AX φ) s0 cX12_readMany RX12 3) (hd : G12_readMany_dep ≤ dR) (hr : meth.sig.returnType = (some .int))   {Q : Int32 → MM → Prop}  {x : Int32 × Int32 × MM}    (h : Lp (G12_readMany_L4  Q) x) : WX p l e (rmX dR) s m args below meth c φ tc D (AX φ) 3 0 0 (MQ below (QX φ tc D (QI Q)) args s 0 0 (AX φ)) 4 [(0, .ref 358), (1, .int x.1), (2, .int x.2.1)] [] x.2.2 := by
  obtain ⟨n, h⟩ := h
  induction n generalizing x with
  | zero => exact h.elim
  | succ n ih => exact G12_readMany_L4_b C hd hr   (fun z1 z2 zμ hz => by have q := ih hz; exact q) h
set_option maxHeartbeats 4000000 in
set_option maxRecDepth 100000 in
theorem G12_readMany_met {l : Launch} {φ : Nat → Nat} {tc : Nat → ClassId} {D : va_G} {s0 : State} (hG : GX φ tc D s0) {dR : Nat} (hd : G12_readMany_dep ≤ dR)  {μ : MM} {Q : Int32 → MM → Prop}  (h : G12_readMany  μ Q) : MX l φ tc D s0 dR yX12_readMany cX12_readMany 3 (some .int) [.ref 358] μ (QI Q) := by
  refine MX.of (own := RX12) hG plX12 rfl (Nat.le_of_ble_eq_true rfl) (fun p e s m args below meth c C hr => ?_)
  refine x_sub [(0, .ref 358)] [0] rfl ?_
  unfold G12_readMany at h
  refine x_iconst (v := 0) C (by decide) dX12_readMany_0 ?_
  refine x_istore_n C [(1, .int 0), (0, .ref 358)] rfl (Nat.le_of_ble_eq_true rfl) rfl dX12_readMany_1 ?_
  refine x_iconst (v := 0) C (by decide) dX12_readMany_2 ?_
  refine x_istore_n C [(2, .int 0), (1, .int 0), (0, .ref 358)] rfl (Nat.le_of_ble_eq_true rfl) rfl dX12_readMany_3 ?_
  refine x_sub [(0, .ref 358), (1, .int 0), (2, .int 0)] [2, 1, 0] rfl ?_
  exact G12_readMany_L4_ok C hd hr  h
set_option maxHeartbeats 4000000 in
set_option maxRecDepth 100000 in
theorem G12_weighs_J223_ok {p : Program} {e : Env} {s : State} {m : MethodId} {args : Array Value} {below : List Frame} {meth : Method} {c : Code} {l : Launch} {φ : Nat → Nat} {tc : Nat → ClassId} {D : va_G} {s0 : State} {dR : Nat} (C : CX p s m args meth c φ tc D (AX φ) s0 cX12_weighs RX12 22) (hd : G12_weighs_dep ≤ dR) (hr : meth.sig.returnType = (some .int))   {p1 : Int64} {p3 : Int64} {p14 : Int32} {p16 : Int64} {p18 : Int64} {p20 : Int64} {Q : Int32 → MM → Prop} {K85 : Int32 × Int64 × Int64 × Int64 × Int64 × Int32 × MM → Prop} {μ : MM}   (hK85 : ∀ (z5 : Int32) (z6 : Int64) (z8 : Int64) (z10 : Int64) (z12 : Int64) (z14 : Int32) (zμ : MM), K85 (z5, z6, z8, z10, z12, z14, zμ) → WX p l e (rmX dR) s m args below meth c φ tc D (AX φ) 22 0 0 (MQ below (QX φ tc D (QI Q)) args s 0 0 (AX φ)) 85 [(0, .ref 358), (1, .long p1), (3, .long p3), (5, .int z5), (6, .long z6), (8, .long z8), (10, .long z10), (12, .long z12), (14, .int z14)] [] zμ) (h : G12_weighs_J223 p1 p3 p14 p16 p18 p20 μ K85 Q) : WX p l e (rmX dR) s m args below meth c φ tc D (AX φ) 22 0 0 (MQ below (QX φ tc D (QI Q)) args s 0 0 (AX φ)) 223 [(0, .ref 358), (1, .long p1), (3, .long p3), (14, .int p14), (16, .long p16), (18, .long p18), (20, .long p20)] [] μ := by
  unfold G12_weighs_J223 at h
  refine x_iload C 3 rfl dX12_weighs_223 ?_
  refine x_istore C [(5, .int p14), (0, .ref 358), (1, .long p1), (3, .long p3), (14, .int p14), (16, .long p16), (18, .long p18), (20, .long p20)] (Nat.le_of_ble_eq_true rfl) rfl dX12_weighs_225 ?_
  refine x_lload C 7 rfl dX12_weighs_227 ?_
  refine x_lstore C [(6, .long p20), (5, .int p14), (0, .ref 358), (1, .long p1), (3, .long p3), (14, .int p14), (16, .long p16), (18, .long p18), (20, .long p20)] (Nat.le_of_ble_eq_true rfl) rfl dX12_weighs_229 ?_
  refine x_lload C 7 rfl dX12_weighs_231 ?_
  refine x_lstore C [(8, .long p18), (6, .long p20), (5, .int p14), (0, .ref 358), (1, .long p1), (3, .long p3), (14, .int p14), (16, .long p16), (18, .long p18), (20, .long p20)] (Nat.le_of_ble_eq_true rfl) rfl dX12_weighs_233 ?_
  refine x_lload C 7 rfl dX12_weighs_235 ?_
  refine x_lstore C [(10, .long p16), (8, .long p18), (6, .long p20), (5, .int p14), (0, .ref 358), (1, .long p1), (3, .long p3), (14, .int p14), (16, .long p16), (18, .long p18), (20, .long p20)] (Nat.le_of_ble_eq_true rfl) rfl dX12_weighs_237 ?_
  refine x_lload C 9 rfl dX12_weighs_239 ?_
  refine x_lstore C [(12, .long p18), (10, .long p16), (8, .long p18), (6, .long p20), (5, .int p14), (0, .ref 358), (1, .long p1), (3, .long p3), (14, .int p14), (16, .long p16), (18, .long p18), (20, .long p20)] (Nat.le_of_ble_eq_true rfl) rfl dX12_weighs_241 ?_
  refine x_iinc (v := (p14 + 1)) C [(14, .int (p14 + 1)), (12, .long p18), (10, .long p16), (8, .long p18), (6, .long p20), (5, .int p14), (0, .ref 358), (1, .long p1), (3, .long p3), (16, .long p16), (18, .long p18), (20, .long p20)] 8 rfl (congrArg (fun z => p14 + z) (by decide : Int32.ofInt (1) = 1)) (Nat.le_of_ble_eq_true rfl) rfl dX12_weighs_243 ?_
  refine x_goto (tgt := 85) C dX12_weighs_246 (by decide) ?_
  refine x_sub [(0, .ref 358), (1, .long p1), (3, .long p3), (5, .int p14), (6, .long p20), (8, .long p18), (10, .long p16), (12, .long p18), (14, .int (p14 + 1))] [6, 7, 8, 5, 4, 3, 2, 1, 0] rfl ?_
  exact hK85 _ _ _ _ _ _ _ h
set_option maxHeartbeats 4000000 in
set_option maxRecDepth 100000 in
theorem G12_weighs_J133_ok {p : Program} {e : Env} {s : State} {m : MethodId} {args : Array Value} {below : List Frame} {meth : Method} {c : Code} {l : Launch} {φ : Nat → Nat} {tc : Nat → ClassId} {D : va_G} {s0 : State} {dR : Nat} (C : CX p s m args meth c φ tc D (AX φ) s0 cX12_weighs RX12 22) (hd : G12_weighs_dep ≤ dR) (hr : meth.sig.returnType = (some .int))   {p1 : Int64} {p3 : Int64} {p5 : Int32} {p6 : Int64} {p8 : Int64} {p10 : Int64} {p12 : Int64} {p14 : Int32} {q0 : Int32} {Q : Int32 → MM → Prop} {K85 : Int32 × Int64 × Int64 × Int64 × Int64 × Int32 × MM → Prop} {μ : MM}   (hK85 : ∀ (z5 : Int32) (z6 : Int64) (z8 : Int64) (z10 : Int64) (z12 : Int64) (z14 : Int32) (zμ : MM), K85 (z5, z6, z8, z10, z12, z14, zμ) → WX p l e (rmX dR) s m args below meth c φ tc D (AX φ) 22 0 0 (MQ below (QX φ tc D (QI Q)) args s 0 0 (AX φ)) 85 [(0, .ref 358), (1, .long p1), (3, .long p3), (5, .int z5), (6, .long z6), (8, .long z8), (10, .long z10), (12, .long z12), (14, .int z14)] [] zμ) (h : G12_weighs_J133 p1 p3 p5 p6 p8 p10 p12 p14 q0 μ K85 Q) : WX p l e (rmX dR) s m args below meth c φ tc D (AX φ) 22 0 0 (MQ below (QX φ tc D (QI Q)) args s 0 0 (AX φ)) 133 [(0, .ref 358), (1, .long p1), (3, .long p3), (5, .int p5), (6, .long p6), (8, .long p8), (10, .long p10), (12, .long p12), (14, .int p14)] [.int q0] μ := by
  unfold G12_weighs_J133 at h
  refine x_istore C [(15, .int q0), (0, .ref 358), (1, .long p1), (3, .long p3), (5, .int p5), (6, .long p6), (8, .long p8), (10, .long p10), (12, .long p12), (14, .int p14)] (Nat.le_of_ble_eq_true rfl) rfl dX12_weighs_133 ?_
  refine x_iload C 0 rfl dX12_weighs_135 ?_
  refine x_if_ne (tgt := 143) C dX12_weighs_137 (by decide) (fun c32 => ?_) (fun c32 => ?_)
  · have h := h.1 c32
    refine x_aload_n C rfl 1 rfl dX12_weighs_143 ?_
    refine x_getR (r := 382) C (j := 37) ob358.1 ob358.2 (Nat.le_of_ble_eq_true rfl) (Nat.le_of_ble_eq_true rfl) (fun _ _ _ => rfl) r_358_37 tw_9_3 dX12_weighs_144 ?_
    refine x_iconst (v := 0) C (by decide) dX12_weighs_147 ?_
    refine x_iald C ob382.1 ob382.2 (by unfold vp_in; decide) (j := 0) (by decide) dX12_weighs_148 ?_
    refine x_aload_n C rfl 1 rfl dX12_weighs_149 ?_
    refine x_getR (r := 381) C (j := 36) ob358.1 ob358.2 (Nat.le_of_ble_eq_true rfl) (Nat.le_of_ble_eq_true rfl) (fun _ _ _ => rfl) r_358_36 tw_9_2 dX12_weighs_150 ?_
    refine x_iconst (v := 1) C (by decide) dX12_weighs_153 ?_
    refine x_iald C ob381.1 ob381.2 (by unfold vp_in; decide) (j := 1) (by decide) dX12_weighs_154 ?_
    refine x_imul C dX12_weighs_155 ?_
    refine x_aload_n C rfl 1 rfl dX12_weighs_156 ?_
    refine x_getR (r := 382) C (j := 37) ob358.1 ob358.2 (Nat.le_of_ble_eq_true rfl) (Nat.le_of_ble_eq_true rfl) (fun _ _ _ => rfl) r_358_37 tw_9_3 dX12_weighs_157 ?_
    refine x_iconst (v := 1) C (by decide) dX12_weighs_160 ?_
    refine x_iald C ob382.1 ob382.2 (by unfold vp_in; decide) (j := 1) (by decide) dX12_weighs_161 ?_
    refine x_aload_n C rfl 1 rfl dX12_weighs_162 ?_
    refine x_getR (r := 381) C (j := 36) ob358.1 ob358.2 (Nat.le_of_ble_eq_true rfl) (Nat.le_of_ble_eq_true rfl) (fun _ _ _ => rfl) r_358_36 tw_9_2 dX12_weighs_163 ?_
    refine x_iconst (v := 0) C (by decide) dX12_weighs_166 ?_
    refine x_iald C ob381.1 ob381.2 (by unfold vp_in; decide) (j := 0) (by decide) dX12_weighs_167 ?_
    refine x_imul C dX12_weighs_168 ?_
    refine x_isub C dX12_weighs_169 ?_
    refine x_i2l C dX12_weighs_170 ?_
    refine x_topl (fun y33 e_y33 => ?_)
    have h := h y33 e_y33
    refine x_lstore C [(16, .long y33), (15, .int q0), (0, .ref 358), (1, .long p1), (3, .long p3), (5, .int p5), (6, .long p6), (8, .long p8), (10, .long p10), (12, .long p12), (14, .int p14)] (Nat.le_of_ble_eq_true rfl) rfl dX12_weighs_171 ?_
    refine x_aload_n C rfl 2 rfl dX12_weighs_173 ?_
    refine x_getR (r := 381) C (j := 36) ob358.1 ob358.2 (Nat.le_of_ble_eq_true rfl) (Nat.le_of_ble_eq_true rfl) (fun _ _ _ => rfl) r_358_36 tw_9_2 dX12_weighs_174 ?_
    refine x_iconst (v := 0) C (by decide) dX12_weighs_177 ?_
    refine x_iald C ob381.1 ob381.2 (by unfold vp_in; decide) (j := 0) (by decide) dX12_weighs_178 ?_
    refine x_i2l C dX12_weighs_179 ?_
    refine x_aload_n C rfl 2 rfl dX12_weighs_180 ?_
    refine x_getR (r := 381) C (j := 36) ob358.1 ob358.2 (Nat.le_of_ble_eq_true rfl) (Nat.le_of_ble_eq_true rfl) (fun _ _ _ => rfl) r_358_36 tw_9_2 dX12_weighs_181 ?_
    refine x_iconst (v := 1) C (by decide) dX12_weighs_184 ?_
    refine x_iald C ob381.1 ob381.2 (by unfold vp_in; decide) (j := 1) (by decide) dX12_weighs_185 ?_
    refine x_i2l C dX12_weighs_186 ?_
    refine x_lmul C dX12_weighs_187 ?_
    refine x_topl (fun y34 e_y34 => ?_)
    have h := h y34 e_y34
    refine x_lstore C [(18, .long y34), (16, .long y33), (15, .int q0), (0, .ref 358), (1, .long p1), (3, .long p3), (5, .int p5), (6, .long p6), (8, .long p8), (10, .long p10), (12, .long p12), (14, .int p14)] (Nat.le_of_ble_eq_true rfl) rfl dX12_weighs_188 ?_
    refine x_lload C 1 rfl dX12_weighs_190 ?_
    refine x_lload_n C rfl 5 rfl dX12_weighs_192 ?_
    refine x_lmul C dX12_weighs_193 ?_
    refine x_lload_n C rfl 4 rfl dX12_weighs_194 ?_
    refine x_lload C 0 rfl dX12_weighs_195 ?_
    refine x_lmul C dX12_weighs_197 ?_
    refine x_lsub C dX12_weighs_198 ?_
    refine x_mlabs C rX kX (Nat.le_trans (Nat.le_of_ble_eq_true rfl) hd) tw_7_186 tw_7_187 tw_1_20 (Nat.le_of_ble_eq_true rfl) dX12_weighs_199 ?_
    refine x_topl (fun y35 e_y35 => ?_)
    have h := h y35 e_y35
    refine x_lstore C [(20, .long y35), (18, .long y34), (16, .long y33), (15, .int q0), (0, .ref 358), (1, .long p1), (3, .long p3), (5, .int p5), (6, .long p6), (8, .long p8), (10, .long p10), (12, .long p12), (14, .int p14)] (Nat.le_of_ble_eq_true rfl) rfl dX12_weighs_202 ?_
    refine x_iload C 7 rfl dX12_weighs_204 ?_
    refine x_if_lt (tgt := 223) C dX12_weighs_206 (by decide) (fun c36 => ?_) (fun c36 => ?_)
    · have h := h.1 c36
      refine x_sub [(0, .ref 358), (1, .long p1), (3, .long p3), (14, .int p14), (16, .long y33), (18, .long y34), (20, .long y35)] [4, 5, 6, 12, 2, 1, 0] rfl ?_
      exact G12_weighs_J223_ok C hd hr hK85 h
    · have h := h.2 c36
      refine x_lload C 0 rfl dX12_weighs_209 ?_
      refine x_lload C 9 rfl dX12_weighs_211 ?_
      refine x_lmul C dX12_weighs_213 ?_
      refine x_lload C 8 rfl dX12_weighs_214 ?_
      refine x_lload C 1 rfl dX12_weighs_216 ?_
      refine x_lmul C dX12_weighs_218 ?_
      refine x_lcmp C dX12_weighs_219 ?_
      refine x_if_le (tgt := 243) C dX12_weighs_220 (by decide) (fun c37 => ?_) (fun c37 => ?_)
      · have h := h.1 c37
        refine x_iinc (v := (p14 + 1)) C [(14, .int (p14 + 1)), (20, .long y35), (18, .long y34), (16, .long y33), (15, .int q0), (0, .ref 358), (1, .long p1), (3, .long p3), (5, .int p5), (6, .long p6), (8, .long p8), (10, .long p10), (12, .long p12)] 12 rfl (congrArg (fun z => p14 + z) (by decide : Int32.ofInt (1) = 1)) (Nat.le_of_ble_eq_true rfl) rfl dX12_weighs_243 ?_
        refine x_goto (tgt := 85) C dX12_weighs_246 (by decide) ?_
        refine x_sub [(0, .ref 358), (1, .long p1), (3, .long p3), (5, .int p5), (6, .long p6), (8, .long p8), (10, .long p10), (12, .long p12), (14, .int (p14 + 1))] [5, 6, 7, 8, 9, 10, 11, 12, 0] rfl ?_
        exact hK85 _ _ _ _ _ _ _ h
      · have h := h.2 c37
        refine x_sub [(0, .ref 358), (1, .long p1), (3, .long p3), (14, .int p14), (16, .long y33), (18, .long y34), (20, .long y35)] [4, 5, 6, 12, 2, 1, 0] rfl ?_
        exact G12_weighs_J223_ok C hd hr hK85 h
  · have h := h.2 c32
    refine x_goto (tgt := 243) C dX12_weighs_140 (by decide) ?_
    refine x_iinc (v := (p14 + 1)) C [(14, .int (p14 + 1)), (15, .int q0), (0, .ref 358), (1, .long p1), (3, .long p3), (5, .int p5), (6, .long p6), (8, .long p8), (10, .long p10), (12, .long p12)] 9 rfl (congrArg (fun z => p14 + z) (by decide : Int32.ofInt (1) = 1)) (Nat.le_of_ble_eq_true rfl) rfl dX12_weighs_243 ?_
    refine x_goto (tgt := 85) C dX12_weighs_246 (by decide) ?_
    refine x_sub [(0, .ref 358), (1, .long p1), (3, .long p3), (5, .int p5), (6, .long p6), (8, .long p8), (10, .long p10), (12, .long p12), (14, .int (p14 + 1))] [2, 3, 4, 5, 6, 7, 8, 9, 0] rfl ?_
    exact hK85 _ _ _ _ _ _ _ h
set_option maxHeartbeats 4000000 in
set_option maxRecDepth 100000 in
theorem G12_weighs_J132_ok {p : Program} {e : Env} {s : State} {m : MethodId} {args : Array Value} {below : List Frame} {meth : Method} {c : Code} {l : Launch} {φ : Nat → Nat} {tc : Nat → ClassId} {D : va_G} {s0 : State} {dR : Nat} (C : CX p s m args meth c φ tc D (AX φ) s0 cX12_weighs RX12 22) (hd : G12_weighs_dep ≤ dR) (hr : meth.sig.returnType = (some .int))   {p1 : Int64} {p3 : Int64} {p5 : Int32} {p6 : Int64} {p8 : Int64} {p10 : Int64} {p12 : Int64} {p14 : Int32} {Q : Int32 → MM → Prop} {K85 : Int32 × Int64 × Int64 × Int64 × Int64 × Int32 × MM → Prop} {μ : MM}   (hK85 : ∀ (z5 : Int32) (z6 : Int64) (z8 : Int64) (z10 : Int64) (z12 : Int64) (z14 : Int32) (zμ : MM), K85 (z5, z6, z8, z10, z12, z14, zμ) → WX p l e (rmX dR) s m args below meth c φ tc D (AX φ) 22 0 0 (MQ below (QX φ tc D (QI Q)) args s 0 0 (AX φ)) 85 [(0, .ref 358), (1, .long p1), (3, .long p3), (5, .int z5), (6, .long z6), (8, .long z8), (10, .long z10), (12, .long z12), (14, .int z14)] [] zμ) (h : G12_weighs_J132 p1 p3 p5 p6 p8 p10 p12 p14 μ K85 Q) : WX p l e (rmX dR) s m args below meth c φ tc D (AX φ) 22 0 0 (MQ below (QX φ tc D (QI Q)) args s 0 0 (AX φ)) 132 [(0, .ref 358), (1, .long p1), (3, .long p3), (5, .int p5), (6, .long p6), (8, .long p8), (10, .long p10), (12, .long p12), (14, .int p14)] [] μ := by
  unfold G12_weighs_J132 at h
  refine x_iconst (v := 0) C (by decide) dX12_weighs_132 ?_
  exact G12_weighs_J133_ok C hd hr hK85 h
set_option maxHeartbeats 4000000 in
set_option maxRecDepth 100000 in
theorem G12_weighs_L85_b {p : Program} {e : Env} {s : State} {m : MethodId} {args : Array Value} {below : List Frame} {meth : Method} {c : Code} {l : Launch} {φ : Nat → Nat} {tc : Nat → ClassId} {D : va_G} {s0 : State} {dR : Nat} (C : CX p s m args meth c φ tc D (AX φ) s0 cX12_weighs RX12 22) (hd : G12_weighs_dep ≤ dR) (hr : meth.sig.returnType = (some .int))  {p1 : Int64} {p3 : Int64} {Q : Int32 → MM → Prop} {K85 : Int32 × Int64 × Int64 × Int64 × Int64 × Int32 × MM → Prop} {x : Int32 × Int64 × Int64 × Int64 × Int64 × Int32 × MM}   (hK85 : ∀ (z5 : Int32) (z6 : Int64) (z8 : Int64) (z10 : Int64) (z12 : Int64) (z14 : Int32) (zμ : MM), K85 (z5, z6, z8, z10, z12, z14, zμ) → WX p l e (rmX dR) s m args below meth c φ tc D (AX φ) 22 0 0 (MQ below (QX φ tc D (QI Q)) args s 0 0 (AX φ)) 85 [(0, .ref 358), (1, .long p1), (3, .long p3), (5, .int z5), (6, .long z6), (8, .long z8), (10, .long z10), (12, .long z12), (14, .int z14)] [] zμ) (h : G12_weighs_L85 p1 p3 Q K85 x) : WX p l e (rmX dR) s m args below meth c φ tc D (AX φ) 22 0 0 (MQ below (QX φ tc D (QI Q)) args s 0 0 (AX φ)) 85 [(0, .ref 358), (1, .long p1), (3, .long p3), (5, .int x.1), (6, .long x.2.1), (8, .long x.2.2.1), (10, .long x.2.2.2.1), (12, .long x.2.2.2.2.1), (14, .int x.2.2.2.2.2.1)] [] x.2.2.2.2.2.2 := by
  unfold G12_weighs_L85 at h
  refine x_iload C 8 rfl dX12_weighs_85 ?_
  refine x_aload_n C rfl 0 rfl dX12_weighs_87 ?_
  refine x_getI C (j := 8) ob358.1 ob358.2 (Nat.le_of_ble_eq_true rfl) (Nat.le_of_ble_eq_true rfl) (Or.inl rfl) tw_8_214 dX12_weighs_88 ?_
  refine x_icmp_ge (tgt := 249) C dX12_weighs_91 (by decide) (fun c24 => ?_) (fun c24 => ?_)
  · have h := h.1 c24
    refine x_iload C 3 rfl dX12_weighs_249 ?_
    refine x_if_lt (tgt := 267) C dX12_weighs_251 (by decide) (fun c25 => ?_) (fun c25 => ?_)
    · have h := h.1 c25
      refine x_iload C 3 rfl dX12_weighs_267 ?_
      exact x_iret C hr dX12_weighs_269 ⟨_, rfl, h⟩
    · have h := h.2 c25
      refine x_aload_n C rfl 0 rfl dX12_weighs_254 ?_
      refine x_iconst (v := 0) C (by decide) dX12_weighs_255 ?_
      refine x_putI C (j := 1) ob358.1 ob358.2 (Nat.le_of_ble_eq_true rfl) (Nat.le_of_ble_eq_true rfl) (Or.inl rfl) rfl rfl rfl tw_8_207 dX12_weighs_256 ?_
      refine x_mu (fun μ26 e_μ26 => ?_)
      have h := h μ26 e_μ26
      refine x_aload_n C rfl 0 rfl dX12_weighs_259 ?_
      refine x_lload C 6 rfl dX12_weighs_260 ?_
      refine x_lload C 7 rfl dX12_weighs_262 ?_
      refine x_callV (dC := G12_entersFraction_dep) (as := [.long x.2.2.2.1, .long x.2.2.2.2.1]) (st := []) C rX kX (Nat.le_trans (Nat.le_of_ble_eq_true rfl) hd) (Nat.le_of_ble_eq_true rfl) ob358.1 ob358.2 (Nat.le_of_ble_eq_true rfl) rfl ts_10_0 tw_7_154 tw_7_152 tc_7_155 tw_1_13 hyX12 hnX12_entersFraction rfl (Nat.le_of_ble_eq_true rfl) dX12_weighs_264 (G12_entersFraction_met C.2.2.2.2.2.2.2.1 (Nat.le_refl _)  h) (fun r0 μ27 hq => ?_)
      obtain ⟨rfl, h⟩ := hq
      refine x_st [] rfl ?_
      refine x_iload C 3 rfl dX12_weighs_267 ?_
      exact x_iret C hr dX12_weighs_269 ⟨_, rfl, h⟩
  · have h := h.2 c24
    refine x_aload_n C rfl 0 rfl dX12_weighs_94 ?_
    refine x_iconst (v := (-1)) C (by decide) dX12_weighs_95 ?_
    refine x_iload C 8 rfl dX12_weighs_96 ?_
    refine x_callV (dC := G12_counts_dep) (as := [.int (-1), .int x.2.2.2.2.2.1]) (st := []) C rX kX (Nat.le_trans (Nat.le_of_ble_eq_true rfl) hd) (Nat.le_of_ble_eq_true rfl) ob358.1 ob358.2 (Nat.le_of_ble_eq_true rfl) rfl ts_9_13 tw_7_142 tw_7_140 tc_7_143 tw_1_13 hyX12 hnX12_counts rfl (Nat.le_of_ble_eq_true rfl) dX12_weighs_98 (G12_counts_met C.2.2.2.2.2.2.2.1 (Nat.le_refl _)  h) (fun r0 μ28 hq => ?_)
    obtain ⟨rfl, h⟩ := hq
    refine x_st [] rfl ?_
    refine x_aload_n C rfl 0 rfl dX12_weighs_101 ?_
    refine x_callV (dC := G12_areBoth_dep) (as := []) (st := []) C rX kX (Nat.le_trans (Nat.le_of_ble_eq_true rfl) hd) (Nat.le_of_ble_eq_true rfl) ob358.1 ob358.2 (Nat.le_of_ble_eq_true rfl) rfl ts_10_2 tw_7_169 tw_7_167 tc_7_170 tw_1_13 hyX12 hnX12_areBoth rfl (Nat.le_of_ble_eq_true rfl) dX12_weighs_102 (G12_areBoth_met C.2.2.2.2.2.2.2.1 (Nat.le_refl _)  h) (fun r0 μ29 hq => ?_)
    obtain ⟨r30, rfl, h⟩ := hq
    refine x_st [.int r30] rfl ?_
    refine x_if_eq (tgt := 132) C dX12_weighs_105 (by decide) (fun c31 => ?_) (fun c31 => ?_)
    · have h := h.1 c31
      exact G12_weighs_J132_ok C hd hr hK85 h
    · have h := h.2 c31
      refine x_aload_n C rfl 0 rfl dX12_weighs_108 ?_
      refine x_getR (r := 381) C (j := 36) ob358.1 ob358.2 (Nat.le_of_ble_eq_true rfl) (Nat.le_of_ble_eq_true rfl) (fun _ _ _ => rfl) r_358_36 tw_9_2 dX12_weighs_109 ?_
      refine x_iconst (v := 0) C (by decide) dX12_weighs_112 ?_
      refine x_iald C ob381.1 ob381.2 (by unfold vp_in; decide) (j := 0) (by decide) dX12_weighs_113 ?_
      refine x_aload_n C rfl 0 rfl dX12_weighs_114 ?_
      refine x_getR (r := 381) C (j := 36) ob358.1 ob358.2 (Nat.le_of_ble_eq_true rfl) (Nat.le_of_ble_eq_true rfl) (fun _ _ _ => rfl) r_358_36 tw_9_2 dX12_weighs_115 ?_
      refine x_iconst (v := 1) C (by decide) dX12_weighs_118 ?_
      refine x_iald C ob381.1 ob381.2 (by unfold vp_in; decide) (j := 1) (by decide) dX12_weighs_119 ?_
      refine x_iadd C dX12_weighs_120 ?_
      refine x_aload_n C rfl 0 rfl dX12_weighs_121 ?_
      refine x_callV (dC := G12_readMany_dep) (as := []) (st := [.int ((gI μ29 381 0) + (gI μ29 381 1))]) C rX kX (Nat.le_trans (Nat.le_of_ble_eq_true rfl) hd) (Nat.le_of_ble_eq_true rfl) ob358.1 ob358.2 (Nat.le_of_ble_eq_true rfl) rfl ts_10_3 tw_7_184 tw_7_182 tc_7_185 tw_1_13 hyX12 hnX12_readMany rfl (Nat.le_of_ble_eq_true rfl) dX12_weighs_122 (G12_readMany_met C.2.2.2.2.2.2.2.1 (Nat.le_refl _)  h) (fun r0 μ38 hq => ?_)
      obtain ⟨r39, rfl, h⟩ := hq
      refine x_st [.int r39, .int ((gI μ29 381 0) + (gI μ29 381 1))] rfl ?_
      refine x_icmp_ge (tgt := 132) C dX12_weighs_125 (by decide) (fun c40 => ?_) (fun c40 => ?_)
      · have h := h.1 c40
        exact G12_weighs_J132_ok C hd hr hK85 h
      · have h := h.2 c40
        refine x_iconst (v := 1) C (by decide) dX12_weighs_128 ?_
        refine x_goto (tgt := 133) C dX12_weighs_129 (by decide) ?_
        exact G12_weighs_J133_ok C hd hr hK85 h
theorem G12_weighs_L85_ok {p : Program} {e : Env} {s : State} {m : MethodId} {args : Array Value} {below : List Frame} {meth : Method} {c : Code} {l : Launch} {φ : Nat → Nat} {tc : Nat → ClassId} {D : va_G} {s0 : State} {dR : Nat} (C : CX p s m args meth c φ tc D (AX φ) s0 cX12_weighs RX12 22) (hd : G12_weighs_dep ≤ dR) (hr : meth.sig.returnType = (some .int))  {p1 : Int64} {p3 : Int64} {Q : Int32 → MM → Prop}  {x : Int32 × Int64 × Int64 × Int64 × Int64 × Int32 × MM}    (h : Lp (G12_weighs_L85 p1 p3 Q) x) : WX p l e (rmX dR) s m args below meth c φ tc D (AX φ) 22 0 0 (MQ below (QX φ tc D (QI Q)) args s 0 0 (AX φ)) 85 [(0, .ref 358), (1, .long p1), (3, .long p3), (5, .int x.1), (6, .long x.2.1), (8, .long x.2.2.1), (10, .long x.2.2.2.1), (12, .long x.2.2.2.2.1), (14, .int x.2.2.2.2.2.1)] [] x.2.2.2.2.2.2 := by
  obtain ⟨n, h⟩ := h
  induction n generalizing x with
  | zero => exact h.elim
  | succ n ih => exact G12_weighs_L85_b C hd hr   (fun z5 z6 z8 z10 z12 z14 zμ hz => by have q := ih hz; exact q) h
set_option maxHeartbeats 4000000 in
set_option maxRecDepth 100000 in
theorem G12_weighs_met {l : Launch} {φ : Nat → Nat} {tc : Nat → ClassId} {D : va_G} {s0 : State} (hG : GX φ tc D s0) {dR : Nat} (hd : G12_weighs_dep ≤ dR)  {μ : MM} {Q : Int32 → MM → Prop}  (h : G12_weighs  μ Q) : MX l φ tc D s0 dR yX12_weighs cX12_weighs 22 (some .int) [.ref 358] μ (QI Q) := by
  refine MX.of (own := RX12) hG plX12 rfl (Nat.le_of_ble_eq_true rfl) (fun p e s m args below meth c C hr => ?_)
  refine x_sub [(0, .ref 358)] [0] rfl ?_
  unfold G12_weighs at h
  refine x_aload_n C rfl 0 rfl dX12_weighs_0 ?_
  refine x_iconst (v := 0) C (by decide) dX12_weighs_1 ?_
  refine x_putI C (j := 0) ob358.1 ob358.2 (Nat.le_of_ble_eq_true rfl) (Nat.le_of_ble_eq_true rfl) (Or.inl rfl) rfl rfl rfl tw_8_206 dX12_weighs_2 ?_
  refine x_mu (fun μ17 e_μ17 => ?_)
  have h := h μ17 e_μ17
  refine x_aload_n C rfl 0 rfl dX12_weighs_5 ?_
  refine x_iconst (v := (-1)) C (by decide) dX12_weighs_6 ?_
  refine x_iconst (v := (-1)) C (by decide) dX12_weighs_7 ?_
  refine x_callV (dC := G12_counts_dep) (as := [.int (-1), .int (-1)]) (st := []) C rX kX (Nat.le_trans (Nat.le_of_ble_eq_true rfl) hd) (Nat.le_of_ble_eq_true rfl) ob358.1 ob358.2 (Nat.le_of_ble_eq_true rfl) rfl ts_9_13 tw_7_142 tw_7_140 tc_7_143 tw_1_13 hyX12 hnX12_counts rfl (Nat.le_of_ble_eq_true rfl) dX12_weighs_8 (G12_counts_met C.2.2.2.2.2.2.2.1 (Nat.le_refl _)  h) (fun r0 μ18 hq => ?_)
  obtain ⟨rfl, h⟩ := hq
  refine x_st [] rfl ?_
  refine x_aload_n C rfl 0 rfl dX12_weighs_11 ?_
  refine x_callV (dC := G12_areBoth_dep) (as := []) (st := []) C rX kX (Nat.le_trans (Nat.le_of_ble_eq_true rfl) hd) (Nat.le_of_ble_eq_true rfl) ob358.1 ob358.2 (Nat.le_of_ble_eq_true rfl) rfl ts_10_2 tw_7_169 tw_7_167 tc_7_170 tw_1_13 hyX12 hnX12_areBoth rfl (Nat.le_of_ble_eq_true rfl) dX12_weighs_12 (G12_areBoth_met C.2.2.2.2.2.2.2.1 (Nat.le_refl _)  h) (fun r0 μ19 hq => ?_)
  obtain ⟨r20, rfl, h⟩ := hq
  refine x_st [.int r20] rfl ?_
  refine x_if_ne (tgt := 21) C dX12_weighs_15 (by decide) (fun c21 => ?_) (fun c21 => ?_)
  · have h := h.1 c21
    refine x_aload_n C rfl 0 rfl dX12_weighs_21 ?_
    refine x_getR (r := 382) C (j := 37) ob358.1 ob358.2 (Nat.le_of_ble_eq_true rfl) (Nat.le_of_ble_eq_true rfl) (fun _ _ _ => rfl) r_358_37 tw_9_3 dX12_weighs_22 ?_
    refine x_iconst (v := 0) C (by decide) dX12_weighs_25 ?_
    refine x_iald C ob382.1 ob382.2 (by unfold vp_in; decide) (j := 0) (by decide) dX12_weighs_26 ?_
    refine x_aload_n C rfl 0 rfl dX12_weighs_27 ?_
    refine x_getR (r := 381) C (j := 36) ob358.1 ob358.2 (Nat.le_of_ble_eq_true rfl) (Nat.le_of_ble_eq_true rfl) (fun _ _ _ => rfl) r_358_36 tw_9_2 dX12_weighs_28 ?_
    refine x_iconst (v := 1) C (by decide) dX12_weighs_31 ?_
    refine x_iald C ob381.1 ob381.2 (by unfold vp_in; decide) (j := 1) (by decide) dX12_weighs_32 ?_
    refine x_imul C dX12_weighs_33 ?_
    refine x_aload_n C rfl 0 rfl dX12_weighs_34 ?_
    refine x_getR (r := 382) C (j := 37) ob358.1 ob358.2 (Nat.le_of_ble_eq_true rfl) (Nat.le_of_ble_eq_true rfl) (fun _ _ _ => rfl) r_358_37 tw_9_3 dX12_weighs_35 ?_
    refine x_iconst (v := 1) C (by decide) dX12_weighs_38 ?_
    refine x_iald C ob382.1 ob382.2 (by unfold vp_in; decide) (j := 1) (by decide) dX12_weighs_39 ?_
    refine x_aload_n C rfl 0 rfl dX12_weighs_40 ?_
    refine x_getR (r := 381) C (j := 36) ob358.1 ob358.2 (Nat.le_of_ble_eq_true rfl) (Nat.le_of_ble_eq_true rfl) (fun _ _ _ => rfl) r_358_36 tw_9_2 dX12_weighs_41 ?_
    refine x_iconst (v := 0) C (by decide) dX12_weighs_44 ?_
    refine x_iald C ob381.1 ob381.2 (by unfold vp_in; decide) (j := 0) (by decide) dX12_weighs_45 ?_
    refine x_imul C dX12_weighs_46 ?_
    refine x_isub C dX12_weighs_47 ?_
    refine x_i2l C dX12_weighs_48 ?_
    refine x_topl (fun y22 e_y22 => ?_)
    have h := h y22 e_y22
    refine x_lstore_n C [(1, .long y22), (0, .ref 358)] rfl (Nat.le_of_ble_eq_true rfl) rfl dX12_weighs_49 ?_
    refine x_aload_n C rfl 1 rfl dX12_weighs_50 ?_
    refine x_getR (r := 381) C (j := 36) ob358.1 ob358.2 (Nat.le_of_ble_eq_true rfl) (Nat.le_of_ble_eq_true rfl) (fun _ _ _ => rfl) r_358_36 tw_9_2 dX12_weighs_51 ?_
    refine x_iconst (v := 0) C (by decide) dX12_weighs_54 ?_
    refine x_iald C ob381.1 ob381.2 (by unfold vp_in; decide) (j := 0) (by decide) dX12_weighs_55 ?_
    refine x_i2l C dX12_weighs_56 ?_
    refine x_aload_n C rfl 1 rfl dX12_weighs_57 ?_
    refine x_getR (r := 381) C (j := 36) ob358.1 ob358.2 (Nat.le_of_ble_eq_true rfl) (Nat.le_of_ble_eq_true rfl) (fun _ _ _ => rfl) r_358_36 tw_9_2 dX12_weighs_58 ?_
    refine x_iconst (v := 1) C (by decide) dX12_weighs_61 ?_
    refine x_iald C ob381.1 ob381.2 (by unfold vp_in; decide) (j := 1) (by decide) dX12_weighs_62 ?_
    refine x_i2l C dX12_weighs_63 ?_
    refine x_lmul C dX12_weighs_64 ?_
    refine x_topl (fun y23 e_y23 => ?_)
    have h := h y23 e_y23
    refine x_lstore_n C [(3, .long y23), (1, .long y22), (0, .ref 358)] rfl (Nat.le_of_ble_eq_true rfl) rfl dX12_weighs_65 ?_
    refine x_bipush (v := (-2)) C (by decide) dX12_weighs_66 ?_
    refine x_istore C [(5, .int (-2)), (3, .long y23), (1, .long y22), (0, .ref 358)] (Nat.le_of_ble_eq_true rfl) rfl dX12_weighs_68 ?_
    refine x_lconst (v := 0) C (by decide) dX12_weighs_70 ?_
    refine x_lstore C [(6, .long 0), (5, .int (-2)), (3, .long y23), (1, .long y22), (0, .ref 358)] (Nat.le_of_ble_eq_true rfl) rfl dX12_weighs_71 ?_
    refine x_lconst (v := 1) C (by decide) dX12_weighs_73 ?_
    refine x_lstore C [(8, .long 1), (6, .long 0), (5, .int (-2)), (3, .long y23), (1, .long y22), (0, .ref 358)] (Nat.le_of_ble_eq_true rfl) rfl dX12_weighs_74 ?_
    refine x_lconst (v := 0) C (by decide) dX12_weighs_76 ?_
    refine x_lstore C [(10, .long 0), (8, .long 1), (6, .long 0), (5, .int (-2)), (3, .long y23), (1, .long y22), (0, .ref 358)] (Nat.le_of_ble_eq_true rfl) rfl dX12_weighs_77 ?_
    refine x_lconst (v := 1) C (by decide) dX12_weighs_79 ?_
    refine x_lstore C [(12, .long 1), (10, .long 0), (8, .long 1), (6, .long 0), (5, .int (-2)), (3, .long y23), (1, .long y22), (0, .ref 358)] (Nat.le_of_ble_eq_true rfl) rfl dX12_weighs_80 ?_
    refine x_iconst (v := 0) C (by decide) dX12_weighs_82 ?_
    refine x_istore C [(14, .int 0), (12, .long 1), (10, .long 0), (8, .long 1), (6, .long 0), (5, .int (-2)), (3, .long y23), (1, .long y22), (0, .ref 358)] (Nat.le_of_ble_eq_true rfl) rfl dX12_weighs_83 ?_
    refine x_sub [(0, .ref 358), (1, .long y22), (3, .long y23), (5, .int (-2)), (6, .long 0), (8, .long 1), (10, .long 0), (12, .long 1), (14, .int 0)] [8, 7, 6, 5, 4, 3, 2, 1, 0] rfl ?_
    exact G12_weighs_L85_ok C hd hr  h
  · have h := h.2 c21
    refine x_bipush (v := (-2)) C (by decide) dX12_weighs_18 ?_
    exact x_iret C hr dX12_weighs_20 ⟨_, rfl, h⟩
set_option maxHeartbeats 4000000 in
set_option maxRecDepth 100000 in
theorem G12_countsNames_J96_ok {p : Program} {e : Env} {s : State} {m : MethodId} {args : Array Value} {below : List Frame} {meth : Method} {c : Code} {l : Launch} {φ : Nat → Nat} {tc : Nat → ClassId} {D : va_G} {s0 : State} {dR : Nat} (C : CX p s m args meth c φ tc D (AX φ) s0 cX12_countsNames RX12 2) (hd : G12_countsNames_dep ≤ dR) (hr : meth.sig.returnType = none)   {p1 : Int32} {q0 : Int32} {q1 : Int32} {q2 : Int32} {Q : MM → Prop} {K30 : Int32 × MM → Prop} {μ : MM}   (hK30 : ∀ (z1 : Int32) (zμ : MM), K30 (z1, zμ) → WX p l e (rmX dR) s m args below meth c φ tc D (AX φ) 2 0 0 (MQ below (QX φ tc D (QV Q)) args s 0 0 (AX φ)) 30 [(0, .ref 358), (1, .int z1)] [] zμ) (h : G12_countsNames_J96 p1 q0 q1 q2 μ K30 Q) : WX p l e (rmX dR) s m args below meth c φ tc D (AX φ) 2 0 0 (MQ below (QX φ tc D (QV Q)) args s 0 0 (AX φ)) 96 [(0, .ref 358), (1, .int p1)] [.int q0, .int q1, .int q2, .ref 386] μ := by
  unfold G12_countsNames_J96 at h
  refine x_callS (dC := G12_flag_dep) (as := [.int q0]) (st := [.int q1, .int q2, .ref 386]) C rX kX (Nat.le_trans (Nat.le_of_ble_eq_true rfl) hd) (Nat.le_of_ble_eq_true rfl) tw_6_212 tw_6_211 tc_6_213 tw_1_13 hyX12 hnX12_flag rfl (Nat.le_of_ble_eq_true rfl) dX12_countsNames_96 (G12_flag_met C.2.2.2.2.2.2.2.1 (Nat.le_refl _)  h) (fun r0 μ33 hq => ?_)
  obtain ⟨r34, rfl, h⟩ := hq
  refine x_st [.int r34, .int q1, .int q2, .ref 386] rfl ?_
  refine x_iadd C dX12_countsNames_99 ?_
  obtain ⟨c35, h⟩ := h
  refine x_iast C ob386.1 ob386.2 c35 rfl dX12_countsNames_100 ?_
  refine x_mu (fun μ36 e_μ36 => ?_)
  have h := h μ36 e_μ36
  refine x_iinc (v := (p1 + 1)) C [(1, .int (p1 + 1)), (0, .ref 358)] 1 rfl (congrArg (fun z => p1 + z) (by decide : Int32.ofInt (1) = 1)) (Nat.le_of_ble_eq_true rfl) rfl dX12_countsNames_101 ?_
  refine x_goto (tgt := 30) C dX12_countsNames_104 (by decide) ?_
  refine x_sub [(0, .ref 358), (1, .int (p1 + 1))] [1, 0] rfl ?_
  exact hK30 _ _ h
set_option maxHeartbeats 4000000 in
set_option maxRecDepth 100000 in
theorem G12_countsNames_J95_ok {p : Program} {e : Env} {s : State} {m : MethodId} {args : Array Value} {below : List Frame} {meth : Method} {c : Code} {l : Launch} {φ : Nat → Nat} {tc : Nat → ClassId} {D : va_G} {s0 : State} {dR : Nat} (C : CX p s m args meth c φ tc D (AX φ) s0 cX12_countsNames RX12 2) (hd : G12_countsNames_dep ≤ dR) (hr : meth.sig.returnType = none)   {p1 : Int32} {q0 : Int32} {q1 : Int32} {Q : MM → Prop} {K30 : Int32 × MM → Prop} {μ : MM}   (hK30 : ∀ (z1 : Int32) (zμ : MM), K30 (z1, zμ) → WX p l e (rmX dR) s m args below meth c φ tc D (AX φ) 2 0 0 (MQ below (QX φ tc D (QV Q)) args s 0 0 (AX φ)) 30 [(0, .ref 358), (1, .int z1)] [] zμ) (h : G12_countsNames_J95 p1 q0 q1 μ K30 Q) : WX p l e (rmX dR) s m args below meth c φ tc D (AX φ) 2 0 0 (MQ below (QX φ tc D (QV Q)) args s 0 0 (AX φ)) 95 [(0, .ref 358), (1, .int p1)] [.int q0, .int q1, .ref 386] μ := by
  unfold G12_countsNames_J95 at h
  refine x_iconst (v := 0) C (by decide) dX12_countsNames_95 ?_
  exact G12_countsNames_J96_ok C hd hr hK30 h
set_option maxHeartbeats 4000000 in
set_option maxRecDepth 100000 in
theorem G12_countsNames_L30_b {p : Program} {e : Env} {s : State} {m : MethodId} {args : Array Value} {below : List Frame} {meth : Method} {c : Code} {l : Launch} {φ : Nat → Nat} {tc : Nat → ClassId} {D : va_G} {s0 : State} {dR : Nat} (C : CX p s m args meth c φ tc D (AX φ) s0 cX12_countsNames RX12 2) (hd : G12_countsNames_dep ≤ dR) (hr : meth.sig.returnType = none)   {Q : MM → Prop} {K30 : Int32 × MM → Prop} {x : Int32 × MM}   (hK30 : ∀ (z1 : Int32) (zμ : MM), K30 (z1, zμ) → WX p l e (rmX dR) s m args below meth c φ tc D (AX φ) 2 0 0 (MQ below (QX φ tc D (QV Q)) args s 0 0 (AX φ)) 30 [(0, .ref 358), (1, .int z1)] [] zμ) (h : G12_countsNames_L30  Q K30 x) : WX p l e (rmX dR) s m args below meth c φ tc D (AX φ) 2 0 0 (MQ below (QX φ tc D (QV Q)) args s 0 0 (AX φ)) 30 [(0, .ref 358), (1, .int x.1)] [] x.2 := by
  unfold G12_countsNames_L30 at h
  refine x_iload_n C rfl 1 rfl dX12_countsNames_30 ?_
  refine x_aload_n C rfl 0 rfl dX12_countsNames_31 ?_
  refine x_getI C (j := 12) ob358.1 ob358.2 (Nat.le_of_ble_eq_true rfl) (Nat.le_of_ble_eq_true rfl) (Or.inl rfl) tw_8_218 dX12_countsNames_32 ?_
  refine x_icmp_ge (tgt := 107) C dX12_countsNames_35 (by decide) (fun c21 => ?_) (fun c21 => ?_)
  · have h := h.1 c21
    exact x_vret C hr dX12_countsNames_107 ⟨rfl, h⟩
  · have h := h.2 c21
    refine x_aload_n C rfl 0 rfl dX12_countsNames_38 ?_
    refine x_getR (r := 385) C (j := 40) ob358.1 ob358.2 (Nat.le_of_ble_eq_true rfl) (Nat.le_of_ble_eq_true rfl) (fun _ _ _ => rfl) r_358_40 tw_9_6 dX12_countsNames_39 ?_
    refine x_aload_n C rfl 0 rfl dX12_countsNames_42 ?_
    refine x_getR (r := 368) C (j := 14) ob358.1 ob358.2 (Nat.le_of_ble_eq_true rfl) (Nat.le_of_ble_eq_true rfl) (fun _ _ _ => rfl) r_358_14 tw_8_220 dX12_countsNames_43 ?_
    refine x_iload_n C rfl 1 rfl dX12_countsNames_46 ?_
    obtain ⟨c22, h⟩ := h
    refine x_iald C ob368.1 ob368.2 c22 rfl dX12_countsNames_47 ?_
    refine x_dup2_11 C rfl rfl dX12_countsNames_48 ?_
    obtain ⟨c23, h⟩ := h
    refine x_iald C ob385.1 ob385.2 c23 rfl dX12_countsNames_49 ?_
    refine x_aload_n C rfl 0 rfl dX12_countsNames_50 ?_
    refine x_getR (r := 373) C (j := 19) ob358.1 ob358.2 (Nat.le_of_ble_eq_true rfl) (Nat.le_of_ble_eq_true rfl) (fun _ _ _ => rfl) r_358_19 tw_8_225 dX12_countsNames_51 ?_
    refine x_iload_n C rfl 1 rfl dX12_countsNames_54 ?_
    obtain ⟨c24, h⟩ := h
    refine x_zald C ob373.1 ob373.2 c24 rfl dX12_countsNames_55 ?_
    refine x_callS (dC := G12_flag_dep) (as := [.int (gI x.2 373 x.1.toNatClampNeg)]) (st := [.int (gI x.2 385 ((gI x.2 368 x.1.toNatClampNeg).toNatClampNeg)), .int (gI x.2 368 x.1.toNatClampNeg), .ref 385]) C rX kX (Nat.le_trans (Nat.le_of_ble_eq_true rfl) hd) (Nat.le_of_ble_eq_true rfl) tw_6_212 tw_6_211 tc_6_213 tw_1_13 hyX12 hnX12_flag rfl (Nat.le_of_ble_eq_true rfl) dX12_countsNames_56 (G12_flag_met C.2.2.2.2.2.2.2.1 (Nat.le_refl _)  h) (fun r0 μ25 hq => ?_)
    obtain ⟨r26, rfl, h⟩ := hq
    refine x_st [.int r26, .int (gI x.2 385 ((gI x.2 368 x.1.toNatClampNeg).toNatClampNeg)), .int (gI x.2 368 x.1.toNatClampNeg), .ref 385] rfl ?_
    refine x_iadd C dX12_countsNames_59 ?_
    obtain ⟨c27, h⟩ := h
    refine x_iast C ob385.1 ob385.2 c27 rfl dX12_countsNames_60 ?_
    refine x_mu (fun μ28 e_μ28 => ?_)
    have h := h μ28 e_μ28
    refine x_aload_n C rfl 0 rfl dX12_countsNames_61 ?_
    refine x_getR (r := 386) C (j := 41) ob358.1 ob358.2 (Nat.le_of_ble_eq_true rfl) (Nat.le_of_ble_eq_true rfl) (fun _ _ _ => rfl) r_358_41 tw_9_7 dX12_countsNames_62 ?_
    refine x_aload_n C rfl 0 rfl dX12_countsNames_65 ?_
    refine x_getR (r := 368) C (j := 14) ob358.1 ob358.2 (Nat.le_of_ble_eq_true rfl) (Nat.le_of_ble_eq_true rfl) (fun _ _ _ => rfl) r_358_14 tw_8_220 dX12_countsNames_66 ?_
    refine x_iload_n C rfl 1 rfl dX12_countsNames_69 ?_
    obtain ⟨c29, h⟩ := h
    refine x_iald C ob368.1 ob368.2 c29 rfl dX12_countsNames_70 ?_
    refine x_dup2_11 C rfl rfl dX12_countsNames_71 ?_
    obtain ⟨c30, h⟩ := h
    refine x_iald C ob386.1 ob386.2 c30 rfl dX12_countsNames_72 ?_
    refine x_aload_n C rfl 0 rfl dX12_countsNames_73 ?_
    refine x_getR (r := 373) C (j := 19) ob358.1 ob358.2 (Nat.le_of_ble_eq_true rfl) (Nat.le_of_ble_eq_true rfl) (fun _ _ _ => rfl) r_358_19 tw_8_225 dX12_countsNames_74 ?_
    refine x_iload_n C rfl 1 rfl dX12_countsNames_77 ?_
    obtain ⟨c31, h⟩ := h
    refine x_zald C ob373.1 ob373.2 c31 rfl dX12_countsNames_78 ?_
    refine x_if_eq (tgt := 95) C dX12_countsNames_79 (by decide) (fun c32 => ?_) (fun c32 => ?_)
    · have h := h.1 c32
      exact G12_countsNames_J95_ok C hd hr hK30 h
    · have h := h.2 c32
      refine x_aload_n C rfl 0 rfl dX12_countsNames_82 ?_
      refine x_getR (r := 374) C (j := 20) ob358.1 ob358.2 (Nat.le_of_ble_eq_true rfl) (Nat.le_of_ble_eq_true rfl) (fun _ _ _ => rfl) r_358_20 tw_8_226 dX12_countsNames_83 ?_
      refine x_iload_n C rfl 1 rfl dX12_countsNames_86 ?_
      obtain ⟨c37, h⟩ := h
      refine x_zald C ob374.1 ob374.2 c37 rfl dX12_countsNames_87 ?_
      refine x_if_eq (tgt := 95) C dX12_countsNames_88 (by decide) (fun c38 => ?_) (fun c38 => ?_)
      · have h := h.1 c38
        exact G12_countsNames_J95_ok C hd hr hK30 h
      · have h := h.2 c38
        refine x_iconst (v := 1) C (by decide) dX12_countsNames_91 ?_
        refine x_goto (tgt := 96) C dX12_countsNames_92 (by decide) ?_
        exact G12_countsNames_J96_ok C hd hr hK30 h
theorem G12_countsNames_L30_ok {p : Program} {e : Env} {s : State} {m : MethodId} {args : Array Value} {below : List Frame} {meth : Method} {c : Code} {l : Launch} {φ : Nat → Nat} {tc : Nat → ClassId} {D : va_G} {s0 : State} {dR : Nat} (C : CX p s m args meth c φ tc D (AX φ) s0 cX12_countsNames RX12 2) (hd : G12_countsNames_dep ≤ dR) (hr : meth.sig.returnType = none)   {Q : MM → Prop}  {x : Int32 × MM}    (h : Lp (G12_countsNames_L30  Q) x) : WX p l e (rmX dR) s m args below meth c φ tc D (AX φ) 2 0 0 (MQ below (QX φ tc D (QV Q)) args s 0 0 (AX φ)) 30 [(0, .ref 358), (1, .int x.1)] [] x.2 := by
  obtain ⟨n, h⟩ := h
  induction n generalizing x with
  | zero => exact h.elim
  | succ n ih => exact G12_countsNames_L30_b C hd hr   (fun z1 zμ hz => by have q := ih hz; exact q) h
set_option maxHeartbeats 4000000 in
set_option maxRecDepth 100000 in
theorem G12_countsNames_L2_b {p : Program} {e : Env} {s : State} {m : MethodId} {args : Array Value} {below : List Frame} {meth : Method} {c : Code} {l : Launch} {φ : Nat → Nat} {tc : Nat → ClassId} {D : va_G} {s0 : State} {dR : Nat} (C : CX p s m args meth c φ tc D (AX φ) s0 cX12_countsNames RX12 2) (hd : G12_countsNames_dep ≤ dR) (hr : meth.sig.returnType = none)   {Q : MM → Prop} {K2 : Int32 × MM → Prop} {x : Int32 × MM}   (hK2 : ∀ (z1 : Int32) (zμ : MM), K2 (z1, zμ) → WX p l e (rmX dR) s m args below meth c φ tc D (AX φ) 2 0 0 (MQ below (QX φ tc D (QV Q)) args s 0 0 (AX φ)) 2 [(0, .ref 358), (1, .int z1)] [] zμ) (h : G12_countsNames_L2  Q K2 x) : WX p l e (rmX dR) s m args below meth c φ tc D (AX φ) 2 0 0 (MQ below (QX φ tc D (QV Q)) args s 0 0 (AX φ)) 2 [(0, .ref 358), (1, .int x.1)] [] x.2 := by
  unfold G12_countsNames_L2 at h
  refine x_iload_n C rfl 1 rfl dX12_countsNames_2 ?_
  refine x_bipush (v := 12) C (by decide) dX12_countsNames_3 ?_
  refine x_icmp_ge (tgt := 28) C dX12_countsNames_5 (by decide) (fun c20 => ?_) (fun c20 => ?_)
  · have h := h.1 c20
    refine x_iconst (v := 0) C (by decide) dX12_countsNames_28 ?_
    refine x_istore_n C [(1, .int 0), (0, .ref 358)] rfl (Nat.le_of_ble_eq_true rfl) rfl dX12_countsNames_29 ?_
    refine x_sub [(0, .ref 358), (1, .int 0)] [1, 0] rfl ?_
    exact G12_countsNames_L30_ok C hd hr  h
  · have h := h.2 c20
    refine x_aload_n C rfl 0 rfl dX12_countsNames_8 ?_
    refine x_getR (r := 385) C (j := 40) ob358.1 ob358.2 (Nat.le_of_ble_eq_true rfl) (Nat.le_of_ble_eq_true rfl) (fun _ _ _ => rfl) r_358_40 tw_9_6 dX12_countsNames_9 ?_
    refine x_iload_n C rfl 1 rfl dX12_countsNames_12 ?_
    refine x_iconst (v := 0) C (by decide) dX12_countsNames_13 ?_
    obtain ⟨c39, h⟩ := h
    refine x_iast C ob385.1 ob385.2 c39 rfl dX12_countsNames_14 ?_
    refine x_mu (fun μ40 e_μ40 => ?_)
    have h := h μ40 e_μ40
    refine x_aload_n C rfl 0 rfl dX12_countsNames_15 ?_
    refine x_getR (r := 386) C (j := 41) ob358.1 ob358.2 (Nat.le_of_ble_eq_true rfl) (Nat.le_of_ble_eq_true rfl) (fun _ _ _ => rfl) r_358_41 tw_9_7 dX12_countsNames_16 ?_
    refine x_iload_n C rfl 1 rfl dX12_countsNames_19 ?_
    refine x_iconst (v := 0) C (by decide) dX12_countsNames_20 ?_
    obtain ⟨c41, h⟩ := h
    refine x_iast C ob386.1 ob386.2 c41 rfl dX12_countsNames_21 ?_
    refine x_mu (fun μ42 e_μ42 => ?_)
    have h := h μ42 e_μ42
    refine x_iinc (v := (x.1 + 1)) C [(1, .int (x.1 + 1)), (0, .ref 358)] 1 rfl (congrArg (fun z => x.1 + z) (by decide : Int32.ofInt (1) = 1)) (Nat.le_of_ble_eq_true rfl) rfl dX12_countsNames_22 ?_
    refine x_goto (tgt := 2) C dX12_countsNames_25 (by decide) ?_
    refine x_sub [(0, .ref 358), (1, .int (x.1 + 1))] [1, 0] rfl ?_
    exact hK2 _ _ h
theorem G12_countsNames_L2_ok {p : Program} {e : Env} {s : State} {m : MethodId} {args : Array Value} {below : List Frame} {meth : Method} {c : Code} {l : Launch} {φ : Nat → Nat} {tc : Nat → ClassId} {D : va_G} {s0 : State} {dR : Nat} (C : CX p s m args meth c φ tc D (AX φ) s0 cX12_countsNames RX12 2) (hd : G12_countsNames_dep ≤ dR) (hr : meth.sig.returnType = none)   {Q : MM → Prop}  {x : Int32 × MM}    (h : Lp (G12_countsNames_L2  Q) x) : WX p l e (rmX dR) s m args below meth c φ tc D (AX φ) 2 0 0 (MQ below (QX φ tc D (QV Q)) args s 0 0 (AX φ)) 2 [(0, .ref 358), (1, .int x.1)] [] x.2 := by
  obtain ⟨n, h⟩ := h
  induction n generalizing x with
  | zero => exact h.elim
  | succ n ih => exact G12_countsNames_L2_b C hd hr   (fun z1 zμ hz => by have q := ih hz; exact q) h
set_option maxHeartbeats 4000000 in
set_option maxRecDepth 100000 in
theorem G12_countsNames_met {l : Launch} {φ : Nat → Nat} {tc : Nat → ClassId} {D : va_G} {s0 : State} (hG : GX φ tc D s0) {dR : Nat} (hd : G12_countsNames_dep ≤ dR)  {μ : MM} {Q : MM → Prop}  (h : G12_countsNames  μ Q) : MX l φ tc D s0 dR yX12_countsNames cX12_countsNames 2 none [.ref 358] μ (QV Q) := by
  refine MX.of (own := RX12) hG plX12 rfl (Nat.le_of_ble_eq_true rfl) (fun p e s m args below meth c C hr => ?_)
  refine x_sub [(0, .ref 358)] [0] rfl ?_
  unfold G12_countsNames at h
  refine x_iconst (v := 0) C (by decide) dX12_countsNames_0 ?_
  refine x_istore_n C [(1, .int 0), (0, .ref 358)] rfl (Nat.le_of_ble_eq_true rfl) rfl dX12_countsNames_1 ?_
  refine x_sub [(0, .ref 358), (1, .int 0)] [1, 0] rfl ?_
  exact G12_countsNames_L2_ok C hd hr  h
set_option maxHeartbeats 4000000 in
set_option maxRecDepth 100000 in
theorem G12_names_met {l : Launch} {φ : Nat → Nat} {tc : Nat → ClassId} {D : va_G} {s0 : State} (hG : GX φ tc D s0) {dR : Nat} (hd : G12_names_dep ≤ dR) {v1 : Int32} {μ : MM} {Q : Int32 → MM → Prop}  (h : G12_names v1 μ Q) : MX l φ tc D s0 dR yX12_names cX12_names 2 (some .int) [.ref 358, .int v1] μ (QI Q) := by
  refine MX.of (own := RX12) hG plX12 rfl (Nat.le_of_ble_eq_true rfl) (fun p e s m args below meth c C hr => ?_)
  refine x_sub [(0, .ref 358), (1, .int v1)] [0, 1] rfl ?_
  unfold G12_names at h
  refine x_aload_n C rfl 0 rfl dX12_names_0 ?_
  refine x_iconst (v := 0) C (by decide) dX12_names_1 ?_
  refine x_putI C (j := 0) ob358.1 ob358.2 (Nat.le_of_ble_eq_true rfl) (Nat.le_of_ble_eq_true rfl) (Or.inl rfl) rfl rfl rfl tw_8_206 dX12_names_2 ?_
  refine x_mu (fun μ12 e_μ12 => ?_)
  have h := h μ12 e_μ12
  refine x_aload_n C rfl 0 rfl dX12_names_5 ?_
  refine x_iload_n C rfl 1 rfl dX12_names_6 ?_
  refine x_callV (dC := G12_isName_dep) (as := [.int v1]) (st := []) C rX kX (Nat.le_trans (Nat.le_of_ble_eq_true rfl) hd) (Nat.le_of_ble_eq_true rfl) ob358.1 ob358.2 (Nat.le_of_ble_eq_true rfl) rfl ts_8_9 tw_6_203 tw_6_201 tc_6_204 tw_1_13 hyX12 hnX12_isName rfl (Nat.le_of_ble_eq_true rfl) dX12_names_7 (G12_isName_met C.2.2.2.2.2.2.2.1 (Nat.le_refl _)  h) (fun r0 μ13 hq => ?_)
  obtain ⟨r14, rfl, h⟩ := hq
  refine x_st [.int r14] rfl ?_
  refine x_if_ne (tgt := 15) C dX12_names_10 (by decide) (fun c15 => ?_) (fun c15 => ?_)
  · have h := h.1 c15
    refine x_aload_n C rfl 0 rfl dX12_names_15 ?_
    refine x_callV (dC := G12_countsNames_dep) (as := []) (st := []) C rX kX (Nat.le_trans (Nat.le_of_ble_eq_true rfl) hd) (Nat.le_of_ble_eq_true rfl) ob358.1 ob358.2 (Nat.le_of_ble_eq_true rfl) rfl ts_10_4 tw_7_195 tw_7_193 tc_7_196 tw_1_13 hyX12 hnX12_countsNames rfl (Nat.le_of_ble_eq_true rfl) dX12_names_16 (G12_countsNames_met C.2.2.2.2.2.2.2.1 (Nat.le_refl _)  h) (fun r0 μ16 hq => ?_)
    obtain ⟨rfl, h⟩ := hq
    refine x_st [] rfl ?_
    refine x_aload_n C rfl 0 rfl dX12_names_19 ?_
    refine x_iconst (v := 0) C (by decide) dX12_names_20 ?_
    refine x_putI C (j := 1) ob358.1 ob358.2 (Nat.le_of_ble_eq_true rfl) (Nat.le_of_ble_eq_true rfl) (Or.inl rfl) rfl rfl rfl tw_8_207 dX12_names_21 ?_
    refine x_mu (fun μ17 e_μ17 => ?_)
    have h := h μ17 e_μ17
    refine x_aload_n C rfl 0 rfl dX12_names_24 ?_
    refine x_getR (r := 385) C (j := 40) ob358.1 ob358.2 (Nat.le_of_ble_eq_true rfl) (Nat.le_of_ble_eq_true rfl) (fun _ _ _ => rfl) r_358_40 tw_9_6 dX12_names_25 ?_
    refine x_iload_n C rfl 1 rfl dX12_names_28 ?_
    obtain ⟨c18, h⟩ := h
    refine x_iald C ob385.1 ob385.2 c18 rfl dX12_names_29 ?_
    refine x_if_le (tgt := 51) C dX12_names_30 (by decide) (fun c19 => ?_) (fun c19 => ?_)
    · have h := h.1 c19
      refine x_aload_n C rfl 0 rfl dX12_names_51 ?_
      refine x_getR (r := 385) C (j := 40) ob358.1 ob358.2 (Nat.le_of_ble_eq_true rfl) (Nat.le_of_ble_eq_true rfl) (fun _ _ _ => rfl) r_358_40 tw_9_6 dX12_names_52 ?_
      refine x_iload_n C rfl 1 rfl dX12_names_55 ?_
      obtain ⟨c20, h⟩ := h
      refine x_iald C ob385.1 ob385.2 c20 rfl dX12_names_56 ?_
      exact x_iret C hr dX12_names_57 ⟨_, rfl, h⟩
    · have h := h.2 c19
      refine x_aload_n C rfl 0 rfl dX12_names_33 ?_
      refine x_aload_n C rfl 0 rfl dX12_names_34 ?_
      refine x_getR (r := 386) C (j := 41) ob358.1 ob358.2 (Nat.le_of_ble_eq_true rfl) (Nat.le_of_ble_eq_true rfl) (fun _ _ _ => rfl) r_358_41 tw_9_7 dX12_names_35 ?_
      refine x_iload_n C rfl 1 rfl dX12_names_38 ?_
      obtain ⟨c21, h⟩ := h
      refine x_iald C ob386.1 ob386.2 c21 rfl dX12_names_39 ?_
      refine x_i2l C dX12_names_40 ?_
      refine x_aload_n C rfl 0 rfl dX12_names_41 ?_
      refine x_getR (r := 385) C (j := 40) ob358.1 ob358.2 (Nat.le_of_ble_eq_true rfl) (Nat.le_of_ble_eq_true rfl) (fun _ _ _ => rfl) r_358_40 tw_9_6 dX12_names_42 ?_
      refine x_iload_n C rfl 1 rfl dX12_names_45 ?_
      obtain ⟨c22, h⟩ := h
      refine x_iald C ob385.1 ob385.2 c22 rfl dX12_names_46 ?_
      refine x_i2l C dX12_names_47 ?_
      refine x_callV (dC := G12_entersFraction_dep) (as := [.long ((gI μ17 386 v1.toNatClampNeg).toInt64), .long ((gI μ17 385 v1.toNatClampNeg).toInt64)]) (st := []) C rX kX (Nat.le_trans (Nat.le_of_ble_eq_true rfl) hd) (Nat.le_of_ble_eq_true rfl) ob358.1 ob358.2 (Nat.le_of_ble_eq_true rfl) rfl ts_10_0 tw_7_154 tw_7_152 tc_7_155 tw_1_13 hyX12 hnX12_entersFraction rfl (Nat.le_of_ble_eq_true rfl) dX12_names_48 (G12_entersFraction_met C.2.2.2.2.2.2.2.1 (Nat.le_refl _)  h) (fun r0 μ23 hq => ?_)
      obtain ⟨rfl, h⟩ := hq
      refine x_st [] rfl ?_
      refine x_aload_n C rfl 0 rfl dX12_names_51 ?_
      refine x_getR (r := 385) C (j := 40) ob358.1 ob358.2 (Nat.le_of_ble_eq_true rfl) (Nat.le_of_ble_eq_true rfl) (fun _ _ _ => rfl) r_358_40 tw_9_6 dX12_names_52 ?_
      refine x_iload_n C rfl 1 rfl dX12_names_55 ?_
      obtain ⟨c24, h⟩ := h
      refine x_iald C ob385.1 ob385.2 c24 rfl dX12_names_56 ?_
      exact x_iret C hr dX12_names_57 ⟨_, rfl, h⟩
  · have h := h.2 c15
    refine x_iconst (v := (-1)) C (by decide) dX12_names_13 ?_
    exact x_iret C hr dX12_names_14 ⟨_, rfl, h⟩
set_option maxHeartbeats 4000000 in
set_option maxRecDepth 100000 in
theorem G12_drawn_J313_ok {p : Program} {e : Env} {s : State} {m : MethodId} {args : Array Value} {below : List Frame} {meth : Method} {c : Code} {l : Launch} {φ : Nat → Nat} {tc : Nat → ClassId} {D : va_G} {s0 : State} {dR : Nat} (C : CX p s m args meth c φ tc D (AX φ) s0 cX12_drawn RX12 14) (hd : G12_drawn_dep ≤ dR) (hr : meth.sig.returnType = (some .int))   {p1 : Int64} {p4 : Int32} {p5 : Int64} {p7 : Int32} {p9 : Int32} {q0 : Int32} {q1 : Int32} {Q : Int32 → MM → Prop} {K169 : Int32 × Int32 × Int32 × MM → Prop} {μ : MM}   (hK169 : ∀ (z7 : Int32) (z8 : Int32) (z9 : Int32) (zμ : MM), K169 (z7, z8, z9, zμ) → WX p l e (rmX dR) s m args below meth c φ tc D (AX φ) 14 0 0 (MQ below (QX φ tc D (QI Q)) args s 0 0 (AX φ)) 169 [(0, .ref 358), (1, .long p1), (4, .int p4), (5, .long p5), (7, .int z7), (8, .int z8), (9, .int z9)] [] zμ) (h : G12_drawn_J313 p1 p4 p5 p7 p9 q0 q1 μ K169 Q) : WX p l e (rmX dR) s m args below meth c φ tc D (AX φ) 14 0 0 (MQ below (QX φ tc D (QI Q)) args s 0 0 (AX φ)) 313 [(0, .ref 358), (1, .long p1), (4, .int p4), (5, .long p5), (7, .int p7), (9, .int p9)] [.int q0, .int q1] μ := by
  unfold G12_drawn_J313 at h
  refine x_callS (dC := G12_flag_dep) (as := [.int q0]) (st := [.int q1]) C rX kX (Nat.le_trans (Nat.le_of_ble_eq_true rfl) hd) (Nat.le_of_ble_eq_true rfl) tw_6_212 tw_6_211 tc_6_213 tw_1_13 hyX12 hnX12_flag rfl (Nat.le_of_ble_eq_true rfl) dX12_drawn_313 (G12_flag_met C.2.2.2.2.2.2.2.1 (Nat.le_refl _)  h) (fun r0 μ52 hq => ?_)
  obtain ⟨r53, rfl, h⟩ := hq
  refine x_st [.int r53, .int q1] rfl ?_
  refine x_iadd C dX12_drawn_316 ?_
  refine x_topi (fun y54 e_y54 => ?_)
  have h := h y54 e_y54
  refine x_istore C [(8, .int y54), (0, .ref 358), (1, .long p1), (4, .int p4), (5, .long p5), (7, .int p7), (9, .int p9)] (Nat.le_of_ble_eq_true rfl) rfl dX12_drawn_317 ?_
  refine x_iinc (v := (p9 + 1)) C [(9, .int (p9 + 1)), (8, .int y54), (0, .ref 358), (1, .long p1), (4, .int p4), (5, .long p5), (7, .int p7)] 6 rfl (congrArg (fun z => p9 + z) (by decide : Int32.ofInt (1) = 1)) (Nat.le_of_ble_eq_true rfl) rfl dX12_drawn_319 ?_
  refine x_goto (tgt := 169) C dX12_drawn_322 (by decide) ?_
  refine x_sub [(0, .ref 358), (1, .long p1), (4, .int p4), (5, .long p5), (7, .int p7), (8, .int y54), (9, .int (p9 + 1))] [2, 3, 4, 5, 6, 1, 0] rfl ?_
  exact hK169 _ _ _ _ h
set_option maxHeartbeats 4000000 in
set_option maxRecDepth 100000 in
theorem G12_drawn_J312_ok {p : Program} {e : Env} {s : State} {m : MethodId} {args : Array Value} {below : List Frame} {meth : Method} {c : Code} {l : Launch} {φ : Nat → Nat} {tc : Nat → ClassId} {D : va_G} {s0 : State} {dR : Nat} (C : CX p s m args meth c φ tc D (AX φ) s0 cX12_drawn RX12 14) (hd : G12_drawn_dep ≤ dR) (hr : meth.sig.returnType = (some .int))   {p1 : Int64} {p4 : Int32} {p5 : Int64} {p7 : Int32} {p9 : Int32} {q0 : Int32} {Q : Int32 → MM → Prop} {K169 : Int32 × Int32 × Int32 × MM → Prop} {μ : MM}   (hK169 : ∀ (z7 : Int32) (z8 : Int32) (z9 : Int32) (zμ : MM), K169 (z7, z8, z9, zμ) → WX p l e (rmX dR) s m args below meth c φ tc D (AX φ) 14 0 0 (MQ below (QX φ tc D (QI Q)) args s 0 0 (AX φ)) 169 [(0, .ref 358), (1, .long p1), (4, .int p4), (5, .long p5), (7, .int z7), (8, .int z8), (9, .int z9)] [] zμ) (h : G12_drawn_J312 p1 p4 p5 p7 p9 q0 μ K169 Q) : WX p l e (rmX dR) s m args below meth c φ tc D (AX φ) 14 0 0 (MQ below (QX φ tc D (QI Q)) args s 0 0 (AX φ)) 312 [(0, .ref 358), (1, .long p1), (4, .int p4), (5, .long p5), (7, .int p7), (9, .int p9)] [.int q0] μ := by
  unfold G12_drawn_J312 at h
  refine x_iconst (v := 0) C (by decide) dX12_drawn_312 ?_
  exact G12_drawn_J313_ok C hd hr hK169 h
set_option maxHeartbeats 4000000 in
set_option maxRecDepth 100000 in
theorem G12_drawn_J283_ok {p : Program} {e : Env} {s : State} {m : MethodId} {args : Array Value} {below : List Frame} {meth : Method} {c : Code} {l : Launch} {φ : Nat → Nat} {tc : Nat → ClassId} {D : va_G} {s0 : State} {dR : Nat} (C : CX p s m args meth c φ tc D (AX φ) s0 cX12_drawn RX12 14) (hd : G12_drawn_dep ≤ dR) (hr : meth.sig.returnType = (some .int))   {p1 : Int64} {p4 : Int32} {p5 : Int64} {p7 : Int32} {p8 : Int32} {p9 : Int32} {p10 : Int32} {p11 : Int64} {Q : Int32 → MM → Prop} {K169 : Int32 × Int32 × Int32 × MM → Prop} {μ : MM}   (hK169 : ∀ (z7 : Int32) (z8 : Int32) (z9 : Int32) (zμ : MM), K169 (z7, z8, z9, zμ) → WX p l e (rmX dR) s m args below meth c φ tc D (AX φ) 14 0 0 (MQ below (QX φ tc D (QI Q)) args s 0 0 (AX φ)) 169 [(0, .ref 358), (1, .long p1), (4, .int p4), (5, .long p5), (7, .int z7), (8, .int z8), (9, .int z9)] [] zμ) (h : G12_drawn_J283 p1 p4 p5 p7 p8 p9 p10 p11 μ K169 Q) : WX p l e (rmX dR) s m args below meth c φ tc D (AX φ) 14 0 0 (MQ below (QX φ tc D (QI Q)) args s 0 0 (AX φ)) 283 [(0, .ref 358), (1, .long p1), (4, .int p4), (5, .long p5), (7, .int p7), (8, .int p8), (9, .int p9), (10, .int p10), (11, .long p11)] [] μ := by
  unfold G12_drawn_J283 at h
  refine x_iload C 4 rfl dX12_drawn_283 ?_
  refine x_iload C 7 rfl dX12_drawn_285 ?_
  refine x_callS (dC := G12_flag_dep) (as := [.int p10]) (st := [.int p7]) C rX kX (Nat.le_trans (Nat.le_of_ble_eq_true rfl) hd) (Nat.le_of_ble_eq_true rfl) tw_6_212 tw_6_211 tc_6_213 tw_1_13 hyX12 hnX12_flag rfl (Nat.le_of_ble_eq_true rfl) dX12_drawn_287 (G12_flag_met C.2.2.2.2.2.2.2.1 (Nat.le_refl _)  h) (fun r0 μ48 hq => ?_)
  obtain ⟨r49, rfl, h⟩ := hq
  refine x_st [.int r49, .int p7] rfl ?_
  refine x_iadd C dX12_drawn_290 ?_
  refine x_topi (fun y50 e_y50 => ?_)
  have h := h y50 e_y50
  refine x_istore C [(7, .int y50), (0, .ref 358), (1, .long p1), (4, .int p4), (5, .long p5), (8, .int p8), (9, .int p9), (10, .int p10), (11, .long p11)] (Nat.le_of_ble_eq_true rfl) rfl dX12_drawn_291 ?_
  refine x_iload C 5 rfl dX12_drawn_293 ?_
  refine x_iload C 7 rfl dX12_drawn_295 ?_
  refine x_if_eq (tgt := 312) C dX12_drawn_297 (by decide) (fun c51 => ?_) (fun c51 => ?_)
  · have h := h.1 c51
    refine x_sub [(0, .ref 358), (1, .long p1), (4, .int p4), (5, .long p5), (7, .int y50), (9, .int p9)] [1, 2, 3, 4, 0, 6] rfl ?_
    exact G12_drawn_J312_ok C hd hr hK169 h
  · have h := h.2 c51
    refine x_lload C 8 rfl dX12_drawn_300 ?_
    refine x_lload C 4 rfl dX12_drawn_302 ?_
    refine x_lcmp C dX12_drawn_304 ?_
    refine x_if_gt (tgt := 312) C dX12_drawn_305 (by decide) (fun c55 => ?_) (fun c55 => ?_)
    · have h := h.1 c55
      refine x_sub [(0, .ref 358), (1, .long p1), (4, .int p4), (5, .long p5), (7, .int y50), (9, .int p9)] [1, 2, 3, 4, 0, 6] rfl ?_
      exact G12_drawn_J312_ok C hd hr hK169 h
    · have h := h.2 c55
      refine x_iconst (v := 1) C (by decide) dX12_drawn_308 ?_
      refine x_goto (tgt := 313) C dX12_drawn_309 (by decide) ?_
      refine x_sub [(0, .ref 358), (1, .long p1), (4, .int p4), (5, .long p5), (7, .int y50), (9, .int p9)] [1, 2, 3, 4, 0, 6] rfl ?_
      exact G12_drawn_J313_ok C hd hr hK169 h
set_option maxHeartbeats 4000000 in
set_option maxRecDepth 100000 in
theorem G12_drawn_J274_ok {p : Program} {e : Env} {s : State} {m : MethodId} {args : Array Value} {below : List Frame} {meth : Method} {c : Code} {l : Launch} {φ : Nat → Nat} {tc : Nat → ClassId} {D : va_G} {s0 : State} {dR : Nat} (C : CX p s m args meth c φ tc D (AX φ) s0 cX12_drawn RX12 14) (hd : G12_drawn_dep ≤ dR) (hr : meth.sig.returnType = (some .int))   {p1 : Int64} {p4 : Int32} {p5 : Int64} {p7 : Int32} {p8 : Int32} {p9 : Int32} {p10 : Int32} {p13 : Int32} {q0 : Int64} {q1 : Int64} {Q : Int32 → MM → Prop} {K169 : Int32 × Int32 × Int32 × MM → Prop} {K203 : Int32 × Int64 × Int32 × MM → Prop} {μ : MM}   (hK169 : ∀ (z7 : Int32) (z8 : Int32) (z9 : Int32) (zμ : MM), K169 (z7, z8, z9, zμ) → WX p l e (rmX dR) s m args below meth c φ tc D (AX φ) 14 0 0 (MQ below (QX φ tc D (QI Q)) args s 0 0 (AX φ)) 169 [(0, .ref 358), (1, .long p1), (4, .int p4), (5, .long p5), (7, .int z7), (8, .int z8), (9, .int z9)] [] zμ) (hK203 : ∀ (z10 : Int32) (z11 : Int64) (z13 : Int32) (zμ : MM), K203 (z10, z11, z13, zμ) → WX p l e (rmX dR) s m args below meth c φ tc D (AX φ) 14 0 0 (MQ below (QX φ tc D (QI Q)) args s 0 0 (AX φ)) 203 [(0, .ref 358), (1, .long p1), (4, .int p4), (5, .long p5), (7, .int p7), (8, .int p8), (9, .int p9), (10, .int z10), (11, .long z11), (13, .int z13)] [] zμ) (h : G12_drawn_J274 p1 p4 p5 p7 p8 p9 p10 p13 q0 q1 μ K169 K203 Q) : WX p l e (rmX dR) s m args below meth c φ tc D (AX φ) 14 0 0 (MQ below (QX φ tc D (QI Q)) args s 0 0 (AX φ)) 274 [(0, .ref 358), (1, .long p1), (4, .int p4), (5, .long p5), (7, .int p7), (8, .int p8), (9, .int p9), (10, .int p10), (13, .int p13)] [.long q0, .long q1] μ := by
  unfold G12_drawn_J274 at h
  refine x_ladd C dX12_drawn_274 ?_
  refine x_topl (fun y63 e_y63 => ?_)
  have h := h y63 e_y63
  refine x_lstore C [(11, .long y63), (0, .ref 358), (1, .long p1), (4, .int p4), (5, .long p5), (7, .int p7), (8, .int p8), (9, .int p9), (10, .int p10), (13, .int p13)] (Nat.le_of_ble_eq_true rfl) rfl dX12_drawn_275 ?_
  refine x_iinc (v := (p13 + 1)) C [(13, .int (p13 + 1)), (11, .long y63), (0, .ref 358), (1, .long p1), (4, .int p4), (5, .long p5), (7, .int p7), (8, .int p8), (9, .int p9), (10, .int p10)] 9 rfl (congrArg (fun z => p13 + z) (by decide : Int32.ofInt (1) = 1)) (Nat.le_of_ble_eq_true rfl) rfl dX12_drawn_277 ?_
  refine x_goto (tgt := 203) C dX12_drawn_280 (by decide) ?_
  refine x_sub [(0, .ref 358), (1, .long p1), (4, .int p4), (5, .long p5), (7, .int p7), (8, .int p8), (9, .int p9), (10, .int p10), (11, .long y63), (13, .int (p13 + 1))] [2, 3, 4, 5, 6, 7, 8, 9, 1, 0] rfl ?_
  exact hK203 _ _ _ _ h
set_option maxHeartbeats 4000000 in
set_option maxRecDepth 100000 in
theorem G12_drawn_J242_ok {p : Program} {e : Env} {s : State} {m : MethodId} {args : Array Value} {below : List Frame} {meth : Method} {c : Code} {l : Launch} {φ : Nat → Nat} {tc : Nat → ClassId} {D : va_G} {s0 : State} {dR : Nat} (C : CX p s m args meth c φ tc D (AX φ) s0 cX12_drawn RX12 14) (hd : G12_drawn_dep ≤ dR) (hr : meth.sig.returnType = (some .int))   {p1 : Int64} {p4 : Int32} {p5 : Int64} {p7 : Int32} {p8 : Int32} {p9 : Int32} {p11 : Int64} {p13 : Int32} {q0 : Int32} {Q : Int32 → MM → Prop} {K169 : Int32 × Int32 × Int32 × MM → Prop} {K203 : Int32 × Int64 × Int32 × MM → Prop} {μ : MM}   (hK169 : ∀ (z7 : Int32) (z8 : Int32) (z9 : Int32) (zμ : MM), K169 (z7, z8, z9, zμ) → WX p l e (rmX dR) s m args below meth c φ tc D (AX φ) 14 0 0 (MQ below (QX φ tc D (QI Q)) args s 0 0 (AX φ)) 169 [(0, .ref 358), (1, .long p1), (4, .int p4), (5, .long p5), (7, .int z7), (8, .int z8), (9, .int z9)] [] zμ) (hK203 : ∀ (z10 : Int32) (z11 : Int64) (z13 : Int32) (zμ : MM), K203 (z10, z11, z13, zμ) → WX p l e (rmX dR) s m args below meth c φ tc D (AX φ) 14 0 0 (MQ below (QX φ tc D (QI Q)) args s 0 0 (AX φ)) 203 [(0, .ref 358), (1, .long p1), (4, .int p4), (5, .long p5), (7, .int p7), (8, .int p8), (9, .int p9), (10, .int z10), (11, .long z11), (13, .int z13)] [] zμ) (h : G12_drawn_J242 p1 p4 p5 p7 p8 p9 p11 p13 q0 μ K169 K203 Q) : WX p l e (rmX dR) s m args below meth c φ tc D (AX φ) 14 0 0 (MQ below (QX φ tc D (QI Q)) args s 0 0 (AX φ)) 242 [(0, .ref 358), (1, .long p1), (4, .int p4), (5, .long p5), (7, .int p7), (8, .int p8), (9, .int p9), (11, .long p11), (13, .int p13)] [.int q0] μ := by
  unfold G12_drawn_J242 at h
  refine x_istore C [(10, .int q0), (0, .ref 358), (1, .long p1), (4, .int p4), (5, .long p5), (7, .int p7), (8, .int p8), (9, .int p9), (11, .long p11), (13, .int p13)] (Nat.le_of_ble_eq_true rfl) rfl dX12_drawn_242 ?_
  refine x_lload C 8 rfl dX12_drawn_244 ?_
  refine x_iload C 0 rfl dX12_drawn_246 ?_
  refine x_if_eq (tgt := 273) C dX12_drawn_248 (by decide) (fun c62 => ?_) (fun c62 => ?_)
  · have h := h.1 c62
    refine x_lconst (v := 0) C (by decide) dX12_drawn_273 ?_
    refine x_sub [(0, .ref 358), (1, .long p1), (4, .int p4), (5, .long p5), (7, .int p7), (8, .int p8), (9, .int p9), (10, .int q0), (13, .int p13)] [1, 2, 3, 4, 5, 6, 7, 0, 9] rfl ?_
    exact G12_drawn_J274_ok C hd hr hK169 hK203 h
  · have h := h.2 c62
    refine x_lload_n C rfl 2 rfl dX12_drawn_251 ?_
    refine x_aload_n C rfl 1 rfl dX12_drawn_252 ?_
    refine x_getR (r := 385) C (j := 40) ob358.1 ob358.2 (Nat.le_of_ble_eq_true rfl) (Nat.le_of_ble_eq_true rfl) (fun _ _ _ => rfl) r_358_40 tw_9_6 dX12_drawn_253 ?_
    refine x_iload C 9 rfl dX12_drawn_256 ?_
    obtain ⟨c64, h⟩ := h
    refine x_iald C ob385.1 ob385.2 c64 rfl dX12_drawn_258 ?_
    refine x_i2l C dX12_drawn_259 ?_
    obtain ⟨c65, h⟩ := h
    refine x_ldiv C c65 dX12_drawn_260 ?_
    refine x_aload_n C rfl 1 rfl dX12_drawn_261 ?_
    refine x_getR (r := 386) C (j := 41) ob358.1 ob358.2 (Nat.le_of_ble_eq_true rfl) (Nat.le_of_ble_eq_true rfl) (fun _ _ _ => rfl) r_358_41 tw_9_7 dX12_drawn_262 ?_
    refine x_iload C 9 rfl dX12_drawn_265 ?_
    obtain ⟨c66, h⟩ := h
    refine x_iald C ob386.1 ob386.2 c66 rfl dX12_drawn_267 ?_
    refine x_i2l C dX12_drawn_268 ?_
    refine x_lmul C dX12_drawn_269 ?_
    refine x_goto (tgt := 274) C dX12_drawn_270 (by decide) ?_
    refine x_sub [(0, .ref 358), (1, .long p1), (4, .int p4), (5, .long p5), (7, .int p7), (8, .int p8), (9, .int p9), (10, .int q0), (13, .int p13)] [1, 2, 3, 4, 5, 6, 7, 0, 9] rfl ?_
    exact G12_drawn_J274_ok C hd hr hK169 hK203 h
set_option maxHeartbeats 4000000 in
set_option maxRecDepth 100000 in
theorem G12_drawn_L203_b {p : Program} {e : Env} {s : State} {m : MethodId} {args : Array Value} {below : List Frame} {meth : Method} {c : Code} {l : Launch} {φ : Nat → Nat} {tc : Nat → ClassId} {D : va_G} {s0 : State} {dR : Nat} (C : CX p s m args meth c φ tc D (AX φ) s0 cX12_drawn RX12 14) (hd : G12_drawn_dep ≤ dR) (hr : meth.sig.returnType = (some .int))  {p1 : Int64} {p4 : Int32} {p5 : Int64} {p7 : Int32} {p8 : Int32} {p9 : Int32} {Q : Int32 → MM → Prop} {K169 : Int32 × Int32 × Int32 × MM → Prop} {K203 : Int32 × Int64 × Int32 × MM → Prop} {x : Int32 × Int64 × Int32 × MM}   (hK169 : ∀ (z7 : Int32) (z8 : Int32) (z9 : Int32) (zμ : MM), K169 (z7, z8, z9, zμ) → WX p l e (rmX dR) s m args below meth c φ tc D (AX φ) 14 0 0 (MQ below (QX φ tc D (QI Q)) args s 0 0 (AX φ)) 169 [(0, .ref 358), (1, .long p1), (4, .int p4), (5, .long p5), (7, .int z7), (8, .int z8), (9, .int z9)] [] zμ) (hK203 : ∀ (z10 : Int32) (z11 : Int64) (z13 : Int32) (zμ : MM), K203 (z10, z11, z13, zμ) → WX p l e (rmX dR) s m args below meth c φ tc D (AX φ) 14 0 0 (MQ below (QX φ tc D (QI Q)) args s 0 0 (AX φ)) 203 [(0, .ref 358), (1, .long p1), (4, .int p4), (5, .long p5), (7, .int p7), (8, .int p8), (9, .int p9), (10, .int z10), (11, .long z11), (13, .int z13)] [] zμ) (h : G12_drawn_L203 p1 p4 p5 p7 p8 p9 K169 Q K203 x) : WX p l e (rmX dR) s m args below meth c φ tc D (AX φ) 14 0 0 (MQ below (QX φ tc D (QI Q)) args s 0 0 (AX φ)) 203 [(0, .ref 358), (1, .long p1), (4, .int p4), (5, .long p5), (7, .int p7), (8, .int p8), (9, .int p9), (10, .int x.1), (11, .long x.2.1), (13, .int x.2.2.1)] [] x.2.2.2 := by
  unfold G12_drawn_L203 at h
  refine x_iload C 9 rfl dX12_drawn_203 ?_
  refine x_aload_n C rfl 0 rfl dX12_drawn_205 ?_
  refine x_getI C (j := 3) ob358.1 ob358.2 (Nat.le_of_ble_eq_true rfl) (Nat.le_of_ble_eq_true rfl) (Or.inl rfl) tw_8_209 dX12_drawn_206 ?_
  refine x_icmp_ge (tgt := 283) C dX12_drawn_209 (by decide) (fun c47 => ?_) (fun c47 => ?_)
  · have h := h.1 c47
    refine x_sub [(0, .ref 358), (1, .long p1), (4, .int p4), (5, .long p5), (7, .int p7), (8, .int p8), (9, .int p9), (10, .int x.1), (11, .long x.2.1)] [0, 1, 2, 3, 4, 5, 6, 7, 8] rfl ?_
    exact G12_drawn_J283_ok C hd hr hK169 h
  · have h := h.2 c47
    refine x_iload C 7 rfl dX12_drawn_212 ?_
    refine x_if_eq (tgt := 283) C dX12_drawn_214 (by decide) (fun c56 => ?_) (fun c56 => ?_)
    · have h := h.1 c56
      refine x_sub [(0, .ref 358), (1, .long p1), (4, .int p4), (5, .long p5), (7, .int p7), (8, .int p8), (9, .int p9), (10, .int x.1), (11, .long x.2.1)] [0, 1, 2, 3, 4, 5, 6, 7, 8] rfl ?_
      exact G12_drawn_J283_ok C hd hr hK169 h
    · have h := h.2 c56
      refine x_iload C 6 rfl dX12_drawn_217 ?_
      refine x_iload C 9 rfl dX12_drawn_219 ?_
      refine x_callS (dC := G12_has_dep) (as := [.int p9, .int x.2.2.1]) (st := []) C rX kX (Nat.le_trans (Nat.le_of_ble_eq_true rfl) hd) (Nat.le_of_ble_eq_true rfl) tw_7_203 tw_7_202 tc_7_204 tw_1_13 hyX12 hnX12_has rfl (Nat.le_of_ble_eq_true rfl) dX12_drawn_221 (G12_has_met C.2.2.2.2.2.2.2.1 (Nat.le_refl _)  h) (fun r0 μ57 hq => ?_)
      obtain ⟨r58, rfl, h⟩ := hq
      refine x_st [.int r58] rfl ?_
      refine x_if_eq (tgt := 277) C dX12_drawn_224 (by decide) (fun c59 => ?_) (fun c59 => ?_)
      · have h := h.1 c59
        refine x_iinc (v := (x.2.2.1 + 1)) C [(13, .int (x.2.2.1 + 1)), (0, .ref 358), (1, .long p1), (4, .int p4), (5, .long p5), (7, .int p7), (8, .int p8), (9, .int p9), (10, .int x.1), (11, .long x.2.1)] 9 rfl (congrArg (fun z => x.2.2.1 + z) (by decide : Int32.ofInt (1) = 1)) (Nat.le_of_ble_eq_true rfl) rfl dX12_drawn_277 ?_
        refine x_goto (tgt := 203) C dX12_drawn_280 (by decide) ?_
        refine x_sub [(0, .ref 358), (1, .long p1), (4, .int p4), (5, .long p5), (7, .int p7), (8, .int p8), (9, .int p9), (10, .int x.1), (11, .long x.2.1), (13, .int (x.2.2.1 + 1))] [1, 2, 3, 4, 5, 6, 7, 8, 9, 0] rfl ?_
        exact hK203 _ _ _ _ h
      · have h := h.2 c59
        refine x_aload_n C rfl 0 rfl dX12_drawn_227 ?_
        refine x_getR (r := 385) C (j := 40) ob358.1 ob358.2 (Nat.le_of_ble_eq_true rfl) (Nat.le_of_ble_eq_true rfl) (fun _ _ _ => rfl) r_358_40 tw_9_6 dX12_drawn_228 ?_
        refine x_iload C 9 rfl dX12_drawn_231 ?_
        obtain ⟨c60, h⟩ := h
        refine x_iald C ob385.1 ob385.2 c60 rfl dX12_drawn_233 ?_
        refine x_if_le (tgt := 241) C dX12_drawn_234 (by decide) (fun c61 => ?_) (fun c61 => ?_)
        · have h := h.1 c61
          refine x_iconst (v := 0) C (by decide) dX12_drawn_241 ?_
          refine x_sub [(0, .ref 358), (1, .long p1), (4, .int p4), (5, .long p5), (7, .int p7), (8, .int p8), (9, .int p9), (11, .long x.2.1), (13, .int x.2.2.1)] [0, 1, 2, 3, 4, 5, 6, 8, 9] rfl ?_
          exact G12_drawn_J242_ok C hd hr hK169 hK203 h
        · have h := h.2 c61
          refine x_iconst (v := 1) C (by decide) dX12_drawn_237 ?_
          refine x_goto (tgt := 242) C dX12_drawn_238 (by decide) ?_
          refine x_sub [(0, .ref 358), (1, .long p1), (4, .int p4), (5, .long p5), (7, .int p7), (8, .int p8), (9, .int p9), (11, .long x.2.1), (13, .int x.2.2.1)] [0, 1, 2, 3, 4, 5, 6, 8, 9] rfl ?_
          exact G12_drawn_J242_ok C hd hr hK169 hK203 h
theorem G12_drawn_L203_ok {p : Program} {e : Env} {s : State} {m : MethodId} {args : Array Value} {below : List Frame} {meth : Method} {c : Code} {l : Launch} {φ : Nat → Nat} {tc : Nat → ClassId} {D : va_G} {s0 : State} {dR : Nat} (C : CX p s m args meth c φ tc D (AX φ) s0 cX12_drawn RX12 14) (hd : G12_drawn_dep ≤ dR) (hr : meth.sig.returnType = (some .int))  {p1 : Int64} {p4 : Int32} {p5 : Int64} {p7 : Int32} {p8 : Int32} {p9 : Int32} {Q : Int32 → MM → Prop} {K169 : Int32 × Int32 × Int32 × MM → Prop} {x : Int32 × Int64 × Int32 × MM}   (hK169 : ∀ (z7 : Int32) (z8 : Int32) (z9 : Int32) (zμ : MM), K169 (z7, z8, z9, zμ) → WX p l e (rmX dR) s m args below meth c φ tc D (AX φ) 14 0 0 (MQ below (QX φ tc D (QI Q)) args s 0 0 (AX φ)) 169 [(0, .ref 358), (1, .long p1), (4, .int p4), (5, .long p5), (7, .int z7), (8, .int z8), (9, .int z9)] [] zμ) (h : Lp (G12_drawn_L203 p1 p4 p5 p7 p8 p9 K169 Q) x) : WX p l e (rmX dR) s m args below meth c φ tc D (AX φ) 14 0 0 (MQ below (QX φ tc D (QI Q)) args s 0 0 (AX φ)) 203 [(0, .ref 358), (1, .long p1), (4, .int p4), (5, .long p5), (7, .int p7), (8, .int p8), (9, .int p9), (10, .int x.1), (11, .long x.2.1), (13, .int x.2.2.1)] [] x.2.2.2 := by
  obtain ⟨n, h⟩ := h
  induction n generalizing x with
  | zero => exact h.elim
  | succ n ih => exact G12_drawn_L203_b C hd hr  hK169 (fun z10 z11 z13 zμ hz => by have q := ih hz; exact q) h
set_option maxHeartbeats 4000000 in
set_option maxRecDepth 100000 in
theorem G12_drawn_L169_b {p : Program} {e : Env} {s : State} {m : MethodId} {args : Array Value} {below : List Frame} {meth : Method} {c : Code} {l : Launch} {φ : Nat → Nat} {tc : Nat → ClassId} {D : va_G} {s0 : State} {dR : Nat} (C : CX p s m args meth c φ tc D (AX φ) s0 cX12_drawn RX12 14) (hd : G12_drawn_dep ≤ dR) (hr : meth.sig.returnType = (some .int))  {p1 : Int64} {p4 : Int32} {p5 : Int64} {Q : Int32 → MM → Prop} {K169 : Int32 × Int32 × Int32 × MM → Prop} {x : Int32 × Int32 × Int32 × MM}   (hK169 : ∀ (z7 : Int32) (z8 : Int32) (z9 : Int32) (zμ : MM), K169 (z7, z8, z9, zμ) → WX p l e (rmX dR) s m args below meth c φ tc D (AX φ) 14 0 0 (MQ below (QX φ tc D (QI Q)) args s 0 0 (AX φ)) 169 [(0, .ref 358), (1, .long p1), (4, .int p4), (5, .long p5), (7, .int z7), (8, .int z8), (9, .int z9)] [] zμ) (h : G12_drawn_L169 p1 p4 p5 Q K169 x) : WX p l e (rmX dR) s m args below meth c φ tc D (AX φ) 14 0 0 (MQ below (QX φ tc D (QI Q)) args s 0 0 (AX φ)) 169 [(0, .ref 358), (1, .long p1), (4, .int p4), (5, .long p5), (7, .int x.1), (8, .int x.2.1), (9, .int x.2.2.1)] [] x.2.2.2 := by
  unfold G12_drawn_L169 at h
  refine x_iload C 6 rfl dX12_drawn_169 ?_
  refine x_iconst (v := 1) C (by decide) dX12_drawn_171 ?_
  refine x_aload_n C rfl 0 rfl dX12_drawn_172 ?_
  refine x_getI C (j := 3) ob358.1 ob358.2 (Nat.le_of_ble_eq_true rfl) (Nat.le_of_ble_eq_true rfl) (Or.inl rfl) tw_8_209 dX12_drawn_173 ?_
  refine x_ishl C dX12_drawn_176 ?_
  refine x_icmp_ge (tgt := 325) C dX12_drawn_177 (by decide) (fun c41 => ?_) (fun c41 => ?_)
  · have h := h.1 c41
    refine x_aload_n C rfl 0 rfl dX12_drawn_325 ?_
    refine x_iconst (v := 0) C (by decide) dX12_drawn_326 ?_
    refine x_putI C (j := 1) ob358.1 ob358.2 (Nat.le_of_ble_eq_true rfl) (Nat.le_of_ble_eq_true rfl) (Or.inl rfl) rfl rfl rfl tw_8_207 dX12_drawn_327 ?_
    refine x_mu (fun μ42 e_μ42 => ?_)
    have h := h μ42 e_μ42
    refine x_aload_n C rfl 0 rfl dX12_drawn_330 ?_
    refine x_iload C 5 rfl dX12_drawn_331 ?_
    refine x_i2l C dX12_drawn_333 ?_
    refine x_iload C 4 rfl dX12_drawn_334 ?_
    refine x_i2l C dX12_drawn_336 ?_
    refine x_callV (dC := G12_entersFraction_dep) (as := [.long (x.2.1.toInt64), .long (x.1.toInt64)]) (st := []) C rX kX (Nat.le_trans (Nat.le_of_ble_eq_true rfl) hd) (Nat.le_of_ble_eq_true rfl) ob358.1 ob358.2 (Nat.le_of_ble_eq_true rfl) rfl ts_10_0 tw_7_154 tw_7_152 tc_7_155 tw_1_13 hyX12 hnX12_entersFraction rfl (Nat.le_of_ble_eq_true rfl) dX12_drawn_337 (G12_entersFraction_met C.2.2.2.2.2.2.2.1 (Nat.le_refl _)  h) (fun r0 μ43 hq => ?_)
    obtain ⟨rfl, h⟩ := hq
    refine x_st [] rfl ?_
    refine x_iconst (v := 0) C (by decide) dX12_drawn_340 ?_
    exact x_iret C hr dX12_drawn_341 ⟨_, rfl, h⟩
  · have h := h.2 c41
    refine x_iload C 6 rfl dX12_drawn_180 ?_
    refine x_callS (dC := GJ6_bitCount_0f7a4_dep) (as := [.int x.2.2.1]) (st := []) C rX kX (Nat.le_trans (Nat.le_of_ble_eq_true rfl) hd) (Nat.le_of_ble_eq_true rfl) tw_4_148 tw_7_201 tc_4_149 tw_1_24 hyJ6 hnJ6_bitCount_0f7a4 rfl (Nat.le_of_ble_eq_true rfl) dX12_drawn_182 (GJ6_bitCount_0f7a4_met C.2.2.2.2.2.2.2.1 (Nat.le_refl _)  h) (fun r0 μ44 hq => ?_)
    obtain ⟨r45, rfl, h⟩ := hq
    refine x_st [.int r45] rfl ?_
    refine x_iload C 2 rfl dX12_drawn_185 ?_
    refine x_icmp_ne (tgt := 194) C dX12_drawn_187 (by decide) (fun c46 => ?_) (fun c46 => ?_)
    · have h := h.1 c46
      refine x_iconst (v := 0) C (by decide) dX12_drawn_194 ?_
      refine x_istore C [(10, .int 0), (0, .ref 358), (1, .long p1), (4, .int p4), (5, .long p5), (7, .int x.1), (8, .int x.2.1), (9, .int x.2.2.1)] (Nat.le_of_ble_eq_true rfl) rfl dX12_drawn_195 ?_
      refine x_lconst (v := 0) C (by decide) dX12_drawn_197 ?_
      refine x_lstore C [(11, .long 0), (10, .int 0), (0, .ref 358), (1, .long p1), (4, .int p4), (5, .long p5), (7, .int x.1), (8, .int x.2.1), (9, .int x.2.2.1)] (Nat.le_of_ble_eq_true rfl) rfl dX12_drawn_198 ?_
      refine x_iconst (v := 0) C (by decide) dX12_drawn_200 ?_
      refine x_istore C [(13, .int 0), (11, .long 0), (10, .int 0), (0, .ref 358), (1, .long p1), (4, .int p4), (5, .long p5), (7, .int x.1), (8, .int x.2.1), (9, .int x.2.2.1)] (Nat.le_of_ble_eq_true rfl) rfl dX12_drawn_201 ?_
      refine x_sub [(0, .ref 358), (1, .long p1), (4, .int p4), (5, .long p5), (7, .int x.1), (8, .int x.2.1), (9, .int x.2.2.1), (10, .int 0), (11, .long 0), (13, .int 0)] [3, 4, 5, 6, 7, 8, 9, 2, 1, 0] rfl ?_
      exact G12_drawn_L203_ok C hd hr hK169 h
    · have h := h.2 c46
      refine x_iconst (v := 1) C (by decide) dX12_drawn_190 ?_
      refine x_goto (tgt := 195) C dX12_drawn_191 (by decide) ?_
      refine x_istore C [(10, .int 1), (0, .ref 358), (1, .long p1), (4, .int p4), (5, .long p5), (7, .int x.1), (8, .int x.2.1), (9, .int x.2.2.1)] (Nat.le_of_ble_eq_true rfl) rfl dX12_drawn_195 ?_
      refine x_lconst (v := 0) C (by decide) dX12_drawn_197 ?_
      refine x_lstore C [(11, .long 0), (10, .int 1), (0, .ref 358), (1, .long p1), (4, .int p4), (5, .long p5), (7, .int x.1), (8, .int x.2.1), (9, .int x.2.2.1)] (Nat.le_of_ble_eq_true rfl) rfl dX12_drawn_198 ?_
      refine x_iconst (v := 0) C (by decide) dX12_drawn_200 ?_
      refine x_istore C [(13, .int 0), (11, .long 0), (10, .int 1), (0, .ref 358), (1, .long p1), (4, .int p4), (5, .long p5), (7, .int x.1), (8, .int x.2.1), (9, .int x.2.2.1)] (Nat.le_of_ble_eq_true rfl) rfl dX12_drawn_201 ?_
      refine x_sub [(0, .ref 358), (1, .long p1), (4, .int p4), (5, .long p5), (7, .int x.1), (8, .int x.2.1), (9, .int x.2.2.1), (10, .int 1), (11, .long 0), (13, .int 0)] [3, 4, 5, 6, 7, 8, 9, 2, 1, 0] rfl ?_
      exact G12_drawn_L203_ok C hd hr hK169 h
theorem G12_drawn_L169_ok {p : Program} {e : Env} {s : State} {m : MethodId} {args : Array Value} {below : List Frame} {meth : Method} {c : Code} {l : Launch} {φ : Nat → Nat} {tc : Nat → ClassId} {D : va_G} {s0 : State} {dR : Nat} (C : CX p s m args meth c φ tc D (AX φ) s0 cX12_drawn RX12 14) (hd : G12_drawn_dep ≤ dR) (hr : meth.sig.returnType = (some .int))  {p1 : Int64} {p4 : Int32} {p5 : Int64} {Q : Int32 → MM → Prop}  {x : Int32 × Int32 × Int32 × MM}    (h : Lp (G12_drawn_L169 p1 p4 p5 Q) x) : WX p l e (rmX dR) s m args below meth c φ tc D (AX φ) 14 0 0 (MQ below (QX φ tc D (QI Q)) args s 0 0 (AX φ)) 169 [(0, .ref 358), (1, .long p1), (4, .int p4), (5, .long p5), (7, .int x.1), (8, .int x.2.1), (9, .int x.2.2.1)] [] x.2.2.2 := by
  obtain ⟨n, h⟩ := h
  induction n generalizing x with
  | zero => exact h.elim
  | succ n ih => exact G12_drawn_L169_b C hd hr   (fun z7 z8 z9 zμ hz => by have q := ih hz; exact q) h
set_option maxHeartbeats 4000000 in
set_option maxRecDepth 100000 in
theorem G12_drawn_J150_ok {p : Program} {e : Env} {s : State} {m : MethodId} {args : Array Value} {below : List Frame} {meth : Method} {c : Code} {l : Launch} {φ : Nat → Nat} {tc : Nat → ClassId} {D : va_G} {s0 : State} {dR : Nat} (C : CX p s m args meth c φ tc D (AX φ) s0 cX12_drawn RX12 14) (hd : G12_drawn_dep ≤ dR) (hr : meth.sig.returnType = (some .int))   {p1 : Int64} {p4 : Int32} {p7 : Int32} {q0 : Int64} {Q : Int32 → MM → Prop} {K96 : Int64 × Int32 × MM → Prop} {μ : MM}   (hK96 : ∀ (z5 : Int64) (z7 : Int32) (zμ : MM), K96 (z5, z7, zμ) → WX p l e (rmX dR) s m args below meth c φ tc D (AX φ) 14 0 0 (MQ below (QX φ tc D (QI Q)) args s 0 0 (AX φ)) 96 [(0, .ref 358), (1, .long p1), (4, .int p4), (5, .long z5), (7, .int z7)] [] zμ) (h : G12_drawn_J150 p1 p4 p7 q0 μ K96 Q) : WX p l e (rmX dR) s m args below meth c φ tc D (AX φ) 14 0 0 (MQ below (QX φ tc D (QI Q)) args s 0 0 (AX φ)) 150 [(0, .ref 358), (1, .long p1), (4, .int p4), (7, .int p7)] [.long q0] μ := by
  unfold G12_drawn_J150 at h
  refine x_lconst (v := 0) C (by decide) dX12_drawn_150 ?_
  refine x_ladd C dX12_drawn_151 ?_
  refine x_topl (fun y69 e_y69 => ?_)
  have h := h y69 e_y69
  refine x_lstore C [(5, .long y69), (0, .ref 358), (1, .long p1), (4, .int p4), (7, .int p7)] (Nat.le_of_ble_eq_true rfl) rfl dX12_drawn_152 ?_
  refine x_iinc (v := (p7 + 1)) C [(7, .int (p7 + 1)), (5, .long y69), (0, .ref 358), (1, .long p1), (4, .int p4)] 4 rfl (congrArg (fun z => p7 + z) (by decide : Int32.ofInt (1) = 1)) (Nat.le_of_ble_eq_true rfl) rfl dX12_drawn_154 ?_
  refine x_goto (tgt := 96) C dX12_drawn_157 (by decide) ?_
  refine x_sub [(0, .ref 358), (1, .long p1), (4, .int p4), (5, .long y69), (7, .int (p7 + 1))] [2, 3, 4, 1, 0] rfl ?_
  exact hK96 _ _ _ h
set_option maxHeartbeats 4000000 in
set_option maxRecDepth 100000 in
theorem G12_drawn_L96_b {p : Program} {e : Env} {s : State} {m : MethodId} {args : Array Value} {below : List Frame} {meth : Method} {c : Code} {l : Launch} {φ : Nat → Nat} {tc : Nat → ClassId} {D : va_G} {s0 : State} {dR : Nat} (C : CX p s m args meth c φ tc D (AX φ) s0 cX12_drawn RX12 14) (hd : G12_drawn_dep ≤ dR) (hr : meth.sig.returnType = (some .int))  {p1 : Int64} {p4 : Int32} {Q : Int32 → MM → Prop} {K96 : Int64 × Int32 × MM → Prop} {x : Int64 × Int32 × MM}   (hK96 : ∀ (z5 : Int64) (z7 : Int32) (zμ : MM), K96 (z5, z7, zμ) → WX p l e (rmX dR) s m args below meth c φ tc D (AX φ) 14 0 0 (MQ below (QX φ tc D (QI Q)) args s 0 0 (AX φ)) 96 [(0, .ref 358), (1, .long p1), (4, .int p4), (5, .long z5), (7, .int z7)] [] zμ) (h : G12_drawn_L96 p1 p4 Q K96 x) : WX p l e (rmX dR) s m args below meth c φ tc D (AX φ) 14 0 0 (MQ below (QX φ tc D (QI Q)) args s 0 0 (AX φ)) 96 [(0, .ref 358), (1, .long p1), (4, .int p4), (5, .long x.1), (7, .int x.2.1)] [] x.2.2 := by
  unfold G12_drawn_L96 at h
  refine x_iload C 4 rfl dX12_drawn_96 ?_
  refine x_aload_n C rfl 0 rfl dX12_drawn_98 ?_
  refine x_getI C (j := 3) ob358.1 ob358.2 (Nat.le_of_ble_eq_true rfl) (Nat.le_of_ble_eq_true rfl) (Or.inl rfl) tw_8_209 dX12_drawn_99 ?_
  refine x_icmp_ge (tgt := 160) C dX12_drawn_102 (by decide) (fun c40 => ?_) (fun c40 => ?_)
  · have h := h.1 c40
    refine x_iconst (v := 0) C (by decide) dX12_drawn_160 ?_
    refine x_istore C [(7, .int 0), (0, .ref 358), (1, .long p1), (4, .int p4), (5, .long x.1)] (Nat.le_of_ble_eq_true rfl) rfl dX12_drawn_161 ?_
    refine x_iconst (v := 0) C (by decide) dX12_drawn_163 ?_
    refine x_istore C [(8, .int 0), (7, .int 0), (0, .ref 358), (1, .long p1), (4, .int p4), (5, .long x.1)] (Nat.le_of_ble_eq_true rfl) rfl dX12_drawn_164 ?_
    refine x_iconst (v := 0) C (by decide) dX12_drawn_166 ?_
    refine x_istore C [(9, .int 0), (8, .int 0), (7, .int 0), (0, .ref 358), (1, .long p1), (4, .int p4), (5, .long x.1)] (Nat.le_of_ble_eq_true rfl) rfl dX12_drawn_167 ?_
    refine x_sub [(0, .ref 358), (1, .long p1), (4, .int p4), (5, .long x.1), (7, .int 0), (8, .int 0), (9, .int 0)] [3, 4, 5, 6, 2, 1, 0] rfl ?_
    exact G12_drawn_L169_ok C hd hr  h
  · have h := h.2 c40
    refine x_lload C 3 rfl dX12_drawn_105 ?_
    refine x_aload_n C rfl 0 rfl dX12_drawn_107 ?_
    refine x_getR (r := 385) C (j := 40) ob358.1 ob358.2 (Nat.le_of_ble_eq_true rfl) (Nat.le_of_ble_eq_true rfl) (fun _ _ _ => rfl) r_358_40 tw_9_6 dX12_drawn_108 ?_
    refine x_iload C 4 rfl dX12_drawn_111 ?_
    obtain ⟨c67, h⟩ := h
    refine x_iald C ob385.1 ob385.2 c67 rfl dX12_drawn_113 ?_
    refine x_if_le (tgt := 150) C dX12_drawn_114 (by decide) (fun c68 => ?_) (fun c68 => ?_)
    · have h := h.1 c68
      refine x_sub [(0, .ref 358), (1, .long p1), (4, .int p4), (7, .int x.2.1)] [0, 1, 2, 4] rfl ?_
      exact G12_drawn_J150_ok C hd hr hK96 h
    · have h := h.2 c68
      refine x_aload_n C rfl 0 rfl dX12_drawn_117 ?_
      refine x_getR (r := 360) C (j := 4) ob358.1 ob358.2 (Nat.le_of_ble_eq_true rfl) (Nat.le_of_ble_eq_true rfl) (fun _ _ _ => rfl) r_358_4 tw_8_210 dX12_drawn_118 ?_
      refine x_iload C 4 rfl dX12_drawn_121 ?_
      obtain ⟨c70, h⟩ := h
      refine x_iald C ob360.1 ob360.2 c70 rfl dX12_drawn_123 ?_
      refine x_iconst (v := 1) C (by decide) dX12_drawn_124 ?_
      refine x_icmp_ne (tgt := 150) C dX12_drawn_125 (by decide) (fun c71 => ?_) (fun c71 => ?_)
      · have h := h.1 c71
        refine x_sub [(0, .ref 358), (1, .long p1), (4, .int p4), (7, .int x.2.1)] [0, 1, 2, 4] rfl ?_
        exact G12_drawn_J150_ok C hd hr hK96 h
      · have h := h.2 c71
        refine x_lload_n C rfl 1 rfl dX12_drawn_128 ?_
        refine x_aload_n C rfl 0 rfl dX12_drawn_129 ?_
        refine x_getR (r := 385) C (j := 40) ob358.1 ob358.2 (Nat.le_of_ble_eq_true rfl) (Nat.le_of_ble_eq_true rfl) (fun _ _ _ => rfl) r_358_40 tw_9_6 dX12_drawn_130 ?_
        refine x_iload C 4 rfl dX12_drawn_133 ?_
        obtain ⟨c72, h⟩ := h
        refine x_iald C ob385.1 ob385.2 c72 rfl dX12_drawn_135 ?_
        refine x_i2l C dX12_drawn_136 ?_
        obtain ⟨c73, h⟩ := h
        refine x_ldiv C c73 dX12_drawn_137 ?_
        refine x_aload_n C rfl 0 rfl dX12_drawn_138 ?_
        refine x_getR (r := 386) C (j := 41) ob358.1 ob358.2 (Nat.le_of_ble_eq_true rfl) (Nat.le_of_ble_eq_true rfl) (fun _ _ _ => rfl) r_358_41 tw_9_7 dX12_drawn_139 ?_
        refine x_iload C 4 rfl dX12_drawn_142 ?_
        obtain ⟨c74, h⟩ := h
        refine x_iald C ob386.1 ob386.2 c74 rfl dX12_drawn_144 ?_
        refine x_i2l C dX12_drawn_145 ?_
        refine x_lmul C dX12_drawn_146 ?_
        refine x_goto (tgt := 151) C dX12_drawn_147 (by decide) ?_
        refine x_ladd C dX12_drawn_151 ?_
        refine x_topl (fun y75 e_y75 => ?_)
        have h := h y75 e_y75
        refine x_lstore C [(5, .long y75), (0, .ref 358), (1, .long p1), (4, .int p4), (7, .int x.2.1)] (Nat.le_of_ble_eq_true rfl) rfl dX12_drawn_152 ?_
        refine x_iinc (v := (x.2.1 + 1)) C [(7, .int (x.2.1 + 1)), (5, .long y75), (0, .ref 358), (1, .long p1), (4, .int p4)] 4 rfl (congrArg (fun z => x.2.1 + z) (by decide : Int32.ofInt (1) = 1)) (Nat.le_of_ble_eq_true rfl) rfl dX12_drawn_154 ?_
        refine x_goto (tgt := 96) C dX12_drawn_157 (by decide) ?_
        refine x_sub [(0, .ref 358), (1, .long p1), (4, .int p4), (5, .long y75), (7, .int (x.2.1 + 1))] [2, 3, 4, 1, 0] rfl ?_
        exact hK96 _ _ _ h
theorem G12_drawn_L96_ok {p : Program} {e : Env} {s : State} {m : MethodId} {args : Array Value} {below : List Frame} {meth : Method} {c : Code} {l : Launch} {φ : Nat → Nat} {tc : Nat → ClassId} {D : va_G} {s0 : State} {dR : Nat} (C : CX p s m args meth c φ tc D (AX φ) s0 cX12_drawn RX12 14) (hd : G12_drawn_dep ≤ dR) (hr : meth.sig.returnType = (some .int))  {p1 : Int64} {p4 : Int32} {Q : Int32 → MM → Prop}  {x : Int64 × Int32 × MM}    (h : Lp (G12_drawn_L96 p1 p4 Q) x) : WX p l e (rmX dR) s m args below meth c φ tc D (AX φ) 14 0 0 (MQ below (QX φ tc D (QI Q)) args s 0 0 (AX φ)) 96 [(0, .ref 358), (1, .long p1), (4, .int p4), (5, .long x.1), (7, .int x.2.1)] [] x.2.2 := by
  obtain ⟨n, h⟩ := h
  induction n generalizing x with
  | zero => exact h.elim
  | succ n ih => exact G12_drawn_L96_b C hd hr   (fun z5 z7 zμ hz => by have q := ih hz; exact q) h
set_option maxHeartbeats 4000000 in
set_option maxRecDepth 100000 in
theorem G12_drawn_L19_b {p : Program} {e : Env} {s : State} {m : MethodId} {args : Array Value} {below : List Frame} {meth : Method} {c : Code} {l : Launch} {φ : Nat → Nat} {tc : Nat → ClassId} {D : va_G} {s0 : State} {dR : Nat} (C : CX p s m args meth c φ tc D (AX φ) s0 cX12_drawn RX12 14) (hd : G12_drawn_dep ≤ dR) (hr : meth.sig.returnType = (some .int))   {Q : Int32 → MM → Prop} {K19 : Int64 × Int32 × Int32 × Int32 × MM → Prop} {x : Int64 × Int32 × Int32 × Int32 × MM}   (hK19 : ∀ (z1 : Int64) (z3 : Int32) (z4 : Int32) (z5 : Int32) (zμ : MM), K19 (z1, z3, z4, z5, zμ) → WX p l e (rmX dR) s m args below meth c φ tc D (AX φ) 14 0 0 (MQ below (QX φ tc D (QI Q)) args s 0 0 (AX φ)) 19 [(0, .ref 358), (1, .long z1), (3, .int z3), (4, .int z4), (5, .int z5)] [] zμ) (h : G12_drawn_L19  Q K19 x) : WX p l e (rmX dR) s m args below meth c φ tc D (AX φ) 14 0 0 (MQ below (QX φ tc D (QI Q)) args s 0 0 (AX φ)) 19 [(0, .ref 358), (1, .long x.1), (3, .int x.2.1), (4, .int x.2.2.1), (5, .int x.2.2.2.1)] [] x.2.2.2.2 := by
  unfold G12_drawn_L19 at h
  refine x_iload C 4 rfl dX12_drawn_19 ?_
  refine x_aload_n C rfl 0 rfl dX12_drawn_21 ?_
  refine x_getI C (j := 3) ob358.1 ob358.2 (Nat.le_of_ble_eq_true rfl) (Nat.le_of_ble_eq_true rfl) (Or.inl rfl) tw_8_209 dX12_drawn_22 ?_
  refine x_icmp_ge (tgt := 83) C dX12_drawn_25 (by decide) (fun c38 => ?_) (fun c38 => ?_)
  · have h := h.1 c38
    refine x_iload_n C rfl 2 rfl dX12_drawn_83 ?_
    refine x_if_ne (tgt := 90) C dX12_drawn_84 (by decide) (fun c39 => ?_) (fun c39 => ?_)
    · have h := h.1 c39
      refine x_lconst (v := 0) C (by decide) dX12_drawn_90 ?_
      refine x_lstore C [(5, .long 0), (0, .ref 358), (1, .long x.1), (3, .int x.2.1), (4, .int x.2.2.1)] (Nat.le_of_ble_eq_true rfl) rfl dX12_drawn_91 ?_
      refine x_iconst (v := 0) C (by decide) dX12_drawn_93 ?_
      refine x_istore C [(7, .int 0), (5, .long 0), (0, .ref 358), (1, .long x.1), (3, .int x.2.1), (4, .int x.2.2.1)] (Nat.le_of_ble_eq_true rfl) rfl dX12_drawn_94 ?_
      refine x_sub [(0, .ref 358), (1, .long x.1), (4, .int x.2.2.1), (5, .long 0), (7, .int 0)] [2, 3, 5, 1, 0] rfl ?_
      exact G12_drawn_L96_ok C hd hr  h
    · have h := h.2 c39
      refine x_bipush (v := (-2)) C (by decide) dX12_drawn_87 ?_
      exact x_iret C hr dX12_drawn_89 ⟨_, rfl, h⟩
  · have h := h.2 c38
    refine x_aload_n C rfl 0 rfl dX12_drawn_28 ?_
    refine x_getR (r := 385) C (j := 40) ob358.1 ob358.2 (Nat.le_of_ble_eq_true rfl) (Nat.le_of_ble_eq_true rfl) (fun _ _ _ => rfl) r_358_40 tw_9_6 dX12_drawn_29 ?_
    refine x_iload C 4 rfl dX12_drawn_32 ?_
    obtain ⟨c76, h⟩ := h
    refine x_iald C ob385.1 ob385.2 c76 rfl dX12_drawn_34 ?_
    refine x_if_le (tgt := 77) C dX12_drawn_35 (by decide) (fun c77 => ?_) (fun c77 => ?_)
    · have h := h.1 c77
      refine x_iinc (v := (x.2.2.2.1 + 1)) C [(5, .int (x.2.2.2.1 + 1)), (0, .ref 358), (1, .long x.1), (3, .int x.2.1), (4, .int x.2.2.1)] 4 rfl (congrArg (fun z => x.2.2.2.1 + z) (by decide : Int32.ofInt (1) = 1)) (Nat.le_of_ble_eq_true rfl) rfl dX12_drawn_77 ?_
      refine x_goto (tgt := 19) C dX12_drawn_80 (by decide) ?_
      refine x_sub [(0, .ref 358), (1, .long x.1), (3, .int x.2.1), (4, .int x.2.2.1), (5, .int (x.2.2.2.1 + 1))] [1, 2, 3, 4, 0] rfl ?_
      exact hK19 _ _ _ _ _ h
    · have h := h.2 c77
      refine x_lload_n C rfl 1 rfl dX12_drawn_38 ?_
      refine x_lload_n C rfl 1 rfl dX12_drawn_39 ?_
      refine x_aload_n C rfl 0 rfl dX12_drawn_40 ?_
      refine x_getR (r := 385) C (j := 40) ob358.1 ob358.2 (Nat.le_of_ble_eq_true rfl) (Nat.le_of_ble_eq_true rfl) (fun _ _ _ => rfl) r_358_40 tw_9_6 dX12_drawn_41 ?_
      refine x_iload C 4 rfl dX12_drawn_44 ?_
      obtain ⟨c78, h⟩ := h
      refine x_iald C ob385.1 ob385.2 c78 rfl dX12_drawn_46 ?_
      refine x_i2l C dX12_drawn_47 ?_
      refine x_callS (dC := G12_common_dep) (as := [.long x.1, .long ((gI x.2.2.2.2 385 x.2.2.2.1.toNatClampNeg).toInt64)]) (st := [.long x.1]) C rX kX (Nat.le_trans (Nat.le_of_ble_eq_true rfl) hd) (Nat.le_of_ble_eq_true rfl) tw_7_157 tw_7_156 tc_7_158 tw_1_13 hyX12 hnX12_common rfl (Nat.le_of_ble_eq_true rfl) dX12_drawn_48 (G12_common_met C.2.2.2.2.2.2.2.1 (Nat.le_refl _)  h) (fun r0 μ79 hq => ?_)
      obtain ⟨r80, rfl, h⟩ := hq
      refine x_st [.long r80, .long x.1] rfl ?_
      obtain ⟨c81, h⟩ := h
      refine x_ldiv C c81 dX12_drawn_51 ?_
      refine x_aload_n C rfl 0 rfl dX12_drawn_52 ?_
      refine x_getR (r := 385) C (j := 40) ob358.1 ob358.2 (Nat.le_of_ble_eq_true rfl) (Nat.le_of_ble_eq_true rfl) (fun _ _ _ => rfl) r_358_40 tw_9_6 dX12_drawn_53 ?_
      refine x_iload C 4 rfl dX12_drawn_56 ?_
      obtain ⟨c82, h⟩ := h
      refine x_iald C ob385.1 ob385.2 c82 rfl dX12_drawn_58 ?_
      refine x_i2l C dX12_drawn_59 ?_
      refine x_lmul C dX12_drawn_60 ?_
      refine x_topl (fun y83 e_y83 => ?_)
      have h := h y83 e_y83
      refine x_lstore_n C [(1, .long y83), (0, .ref 358), (3, .int x.2.1), (4, .int x.2.2.1), (5, .int x.2.2.2.1)] rfl (Nat.le_of_ble_eq_true rfl) rfl dX12_drawn_61 ?_
      refine x_iinc (v := (x.2.1 + 1)) C [(3, .int (x.2.1 + 1)), (1, .long y83), (0, .ref 358), (4, .int x.2.2.1), (5, .int x.2.2.2.1)] 2 rfl (congrArg (fun z => x.2.1 + z) (by decide : Int32.ofInt (1) = 1)) (Nat.le_of_ble_eq_true rfl) rfl dX12_drawn_62 ?_
      refine x_iload C 3 rfl dX12_drawn_65 ?_
      refine x_aload_n C rfl 2 rfl dX12_drawn_67 ?_
      refine x_getR (r := 360) C (j := 4) ob358.1 ob358.2 (Nat.le_of_ble_eq_true rfl) (Nat.le_of_ble_eq_true rfl) (fun _ _ _ => rfl) r_358_4 tw_8_210 dX12_drawn_68 ?_
      refine x_iload C 4 rfl dX12_drawn_71 ?_
      obtain ⟨c84, h⟩ := h
      refine x_iald C ob360.1 ob360.2 c84 rfl dX12_drawn_73 ?_
      refine x_iadd C dX12_drawn_74 ?_
      refine x_topi (fun y85 e_y85 => ?_)
      have h := h y85 e_y85
      refine x_istore C [(4, .int y85), (3, .int (x.2.1 + 1)), (1, .long y83), (0, .ref 358), (5, .int x.2.2.2.1)] (Nat.le_of_ble_eq_true rfl) rfl dX12_drawn_75 ?_
      refine x_iinc (v := (x.2.2.2.1 + 1)) C [(5, .int (x.2.2.2.1 + 1)), (4, .int y85), (3, .int (x.2.1 + 1)), (1, .long y83), (0, .ref 358)] 4 rfl (congrArg (fun z => x.2.2.2.1 + z) (by decide : Int32.ofInt (1) = 1)) (Nat.le_of_ble_eq_true rfl) rfl dX12_drawn_77 ?_
      refine x_goto (tgt := 19) C dX12_drawn_80 (by decide) ?_
      refine x_sub [(0, .ref 358), (1, .long y83), (3, .int (x.2.1 + 1)), (4, .int y85), (5, .int (x.2.2.2.1 + 1))] [4, 3, 2, 1, 0] rfl ?_
      exact hK19 _ _ _ _ _ h
theorem G12_drawn_L19_ok {p : Program} {e : Env} {s : State} {m : MethodId} {args : Array Value} {below : List Frame} {meth : Method} {c : Code} {l : Launch} {φ : Nat → Nat} {tc : Nat → ClassId} {D : va_G} {s0 : State} {dR : Nat} (C : CX p s m args meth c φ tc D (AX φ) s0 cX12_drawn RX12 14) (hd : G12_drawn_dep ≤ dR) (hr : meth.sig.returnType = (some .int))   {Q : Int32 → MM → Prop}  {x : Int64 × Int32 × Int32 × Int32 × MM}    (h : Lp (G12_drawn_L19  Q) x) : WX p l e (rmX dR) s m args below meth c φ tc D (AX φ) 14 0 0 (MQ below (QX φ tc D (QI Q)) args s 0 0 (AX φ)) 19 [(0, .ref 358), (1, .long x.1), (3, .int x.2.1), (4, .int x.2.2.1), (5, .int x.2.2.2.1)] [] x.2.2.2.2 := by
  obtain ⟨n, h⟩ := h
  induction n generalizing x with
  | zero => exact h.elim
  | succ n ih => exact G12_drawn_L19_b C hd hr   (fun z1 z3 z4 z5 zμ hz => by have q := ih hz; exact q) h
set_option maxHeartbeats 4000000 in
set_option maxRecDepth 100000 in
theorem G12_drawn_met {l : Launch} {φ : Nat → Nat} {tc : Nat → ClassId} {D : va_G} {s0 : State} (hG : GX φ tc D s0) {dR : Nat} (hd : G12_drawn_dep ≤ dR)  {μ : MM} {Q : Int32 → MM → Prop}  (h : G12_drawn  μ Q) : MX l φ tc D s0 dR yX12_drawn cX12_drawn 14 (some .int) [.ref 358] μ (QI Q) := by
  refine MX.of (own := RX12) hG plX12 rfl (Nat.le_of_ble_eq_true rfl) (fun p e s m args below meth c C hr => ?_)
  refine x_sub [(0, .ref 358)] [0] rfl ?_
  unfold G12_drawn at h
  refine x_aload_n C rfl 0 rfl dX12_drawn_0 ?_
  refine x_iconst (v := 0) C (by decide) dX12_drawn_1 ?_
  refine x_putI C (j := 0) ob358.1 ob358.2 (Nat.le_of_ble_eq_true rfl) (Nat.le_of_ble_eq_true rfl) (Or.inl rfl) rfl rfl rfl tw_8_206 dX12_drawn_2 ?_
  refine x_mu (fun μ36 e_μ36 => ?_)
  have h := h μ36 e_μ36
  refine x_aload_n C rfl 0 rfl dX12_drawn_5 ?_
  refine x_callV (dC := G12_countsNames_dep) (as := []) (st := []) C rX kX (Nat.le_trans (Nat.le_of_ble_eq_true rfl) hd) (Nat.le_of_ble_eq_true rfl) ob358.1 ob358.2 (Nat.le_of_ble_eq_true rfl) rfl ts_10_4 tw_7_195 tw_7_193 tc_7_196 tw_1_13 hyX12 hnX12_countsNames rfl (Nat.le_of_ble_eq_true rfl) dX12_drawn_6 (G12_countsNames_met C.2.2.2.2.2.2.2.1 (Nat.le_refl _)  h) (fun r0 μ37 hq => ?_)
  obtain ⟨rfl, h⟩ := hq
  refine x_st [] rfl ?_
  refine x_lconst (v := 1) C (by decide) dX12_drawn_9 ?_
  refine x_lstore_n C [(1, .long 1), (0, .ref 358)] rfl (Nat.le_of_ble_eq_true rfl) rfl dX12_drawn_10 ?_
  refine x_iconst (v := 0) C (by decide) dX12_drawn_11 ?_
  refine x_istore_n C [(3, .int 0), (1, .long 1), (0, .ref 358)] rfl (Nat.le_of_ble_eq_true rfl) rfl dX12_drawn_12 ?_
  refine x_iconst (v := 0) C (by decide) dX12_drawn_13 ?_
  refine x_istore C [(4, .int 0), (3, .int 0), (1, .long 1), (0, .ref 358)] (Nat.le_of_ble_eq_true rfl) rfl dX12_drawn_14 ?_
  refine x_iconst (v := 0) C (by decide) dX12_drawn_16 ?_
  refine x_istore C [(5, .int 0), (4, .int 0), (3, .int 0), (1, .long 1), (0, .ref 358)] (Nat.le_of_ble_eq_true rfl) rfl dX12_drawn_17 ?_
  refine x_sub [(0, .ref 358), (1, .long 1), (3, .int 0), (4, .int 0), (5, .int 0)] [4, 3, 2, 1, 0] rfl ?_
  exact G12_drawn_L19_ok C hd hr  h
set_option maxHeartbeats 4000000 in
set_option maxRecDepth 100000 in
theorem G12_saysOf_met {l : Launch} {φ : Nat → Nat} {tc : Nat → ClassId} {D : va_G} {s0 : State} (hG : GX φ tc D s0) {dR : Nat} (hd : G12_saysOf_dep ≤ dR) {v1 : Int32} {v2 : Int32} {μ : MM} {Q : Int32 → MM → Prop}  (h : G12_saysOf v1 v2 μ Q) : MX l φ tc D s0 dR yX12_saysOf cX12_saysOf 3 (some .int) [.ref 358, .int v1, .int v2] μ (QI Q) := by
  refine MX.of (own := RX12) hG plX12 rfl (Nat.le_of_ble_eq_true rfl) (fun p e s m args below meth c C hr => ?_)
  refine x_sub [(0, .ref 358), (1, .int v1), (2, .int v2)] [0, 1, 2] rfl ?_
  unfold G12_saysOf at h
  refine x_iload_n C rfl 1 rfl dX12_saysOf_0 ?_
  refine x_if_ne (tgt := 13) C dX12_saysOf_1 (by decide) (fun c5 => ?_) (fun c5 => ?_)
  · have h := h.1 c5
    refine x_iload_n C rfl 1 rfl dX12_saysOf_13 ?_
    refine x_iconst (v := 1) C (by decide) dX12_saysOf_14 ?_
    refine x_icmp_ne (tgt := 27) C dX12_saysOf_15 (by decide) (fun c6 => ?_) (fun c6 => ?_)
    · have h := h.1 c6
      refine x_iload_n C rfl 1 rfl dX12_saysOf_27 ?_
      refine x_iconst (v := 2) C (by decide) dX12_saysOf_28 ?_
      refine x_icmp_ne (tgt := 41) C dX12_saysOf_29 (by decide) (fun c7 => ?_) (fun c7 => ?_)
      · have h := h.1 c7
        refine x_aload_n C rfl 0 rfl dX12_saysOf_41 ?_
        refine x_getR (r := 363) C (j := 7) ob358.1 ob358.2 (Nat.le_of_ble_eq_true rfl) (Nat.le_of_ble_eq_true rfl) (fun _ _ _ => rfl) r_358_7 tw_8_213 dX12_saysOf_42 ?_
        refine x_iload_n C rfl 2 rfl dX12_saysOf_45 ?_
        obtain ⟨c8, h⟩ := h
        refine x_iald C ob363.1 ob363.2 c8 rfl dX12_saysOf_46 ?_
        exact x_iret C hr dX12_saysOf_47 ⟨_, rfl, h⟩
      · have h := h.2 c7
        refine x_aload_n C rfl 0 rfl dX12_saysOf_32 ?_
        refine x_getR (r := 362) C (j := 6) ob358.1 ob358.2 (Nat.le_of_ble_eq_true rfl) (Nat.le_of_ble_eq_true rfl) (fun _ _ _ => rfl) r_358_6 tw_8_212 dX12_saysOf_33 ?_
        refine x_iload_n C rfl 2 rfl dX12_saysOf_36 ?_
        obtain ⟨c9, h⟩ := h
        refine x_iald C ob362.1 ob362.2 c9 rfl dX12_saysOf_37 ?_
        refine x_goto (tgt := 47) C dX12_saysOf_38 (by decide) ?_
        exact x_iret C hr dX12_saysOf_47 ⟨_, rfl, h⟩
    · have h := h.2 c6
      refine x_aload_n C rfl 0 rfl dX12_saysOf_18 ?_
      refine x_getR (r := 361) C (j := 5) ob358.1 ob358.2 (Nat.le_of_ble_eq_true rfl) (Nat.le_of_ble_eq_true rfl) (fun _ _ _ => rfl) r_358_5 tw_8_211 dX12_saysOf_19 ?_
      refine x_iload_n C rfl 2 rfl dX12_saysOf_22 ?_
      obtain ⟨c10, h⟩ := h
      refine x_iald C ob361.1 ob361.2 c10 rfl dX12_saysOf_23 ?_
      refine x_goto (tgt := 47) C dX12_saysOf_24 (by decide) ?_
      exact x_iret C hr dX12_saysOf_47 ⟨_, rfl, h⟩
  · have h := h.2 c5
    refine x_aload_n C rfl 0 rfl dX12_saysOf_4 ?_
    refine x_getR (r := 360) C (j := 4) ob358.1 ob358.2 (Nat.le_of_ble_eq_true rfl) (Nat.le_of_ble_eq_true rfl) (fun _ _ _ => rfl) r_358_4 tw_8_210 dX12_saysOf_5 ?_
    refine x_iload_n C rfl 2 rfl dX12_saysOf_8 ?_
    obtain ⟨c11, h⟩ := h
    refine x_iald C ob360.1 ob360.2 c11 rfl dX12_saysOf_9 ?_
    refine x_goto (tgt := 47) C dX12_saysOf_10 (by decide) ?_
    exact x_iret C hr dX12_saysOf_47 ⟨_, rfl, h⟩
set_option maxHeartbeats 4000000 in
set_option maxRecDepth 100000 in
theorem G12_compares_met {l : Launch} {φ : Nat → Nat} {tc : Nat → ClassId} {D : va_G} {s0 : State} (hG : GX φ tc D s0) {dR : Nat} (hd : G12_compares_dep ≤ dR) {v1 : Int32} {v2 : Int32} {μ : MM} {Q : Int32 → MM → Prop}  (h : G12_compares v1 v2 μ Q) : MX l φ tc D s0 dR yX12_compares cX12_compares 3 (some .int) [.ref 358, .int v1, .int v2] μ (QI Q) := by
  refine MX.of (own := RX12) hG plX12 rfl (Nat.le_of_ble_eq_true rfl) (fun p e s m args below meth c C hr => ?_)
  refine x_sub [(0, .ref 358), (1, .int v1), (2, .int v2)] [0, 1, 2] rfl ?_
  unfold G12_compares at h
  refine x_aload_n C rfl 0 rfl dX12_compares_0 ?_
  refine x_getR (r := 386) C (j := 41) ob358.1 ob358.2 (Nat.le_of_ble_eq_true rfl) (Nat.le_of_ble_eq_true rfl) (fun _ _ _ => rfl) r_358_41 tw_9_7 dX12_compares_1 ?_
  refine x_iload_n C rfl 1 rfl dX12_compares_4 ?_
  obtain ⟨c7, h⟩ := h
  refine x_iald C ob386.1 ob386.2 c7 rfl dX12_compares_5 ?_
  refine x_aload_n C rfl 0 rfl dX12_compares_6 ?_
  refine x_getR (r := 385) C (j := 40) ob358.1 ob358.2 (Nat.le_of_ble_eq_true rfl) (Nat.le_of_ble_eq_true rfl) (fun _ _ _ => rfl) r_358_40 tw_9_6 dX12_compares_7 ?_
  refine x_iload_n C rfl 2 rfl dX12_compares_10 ?_
  obtain ⟨c8, h⟩ := h
  refine x_iald C ob385.1 ob385.2 c8 rfl dX12_compares_11 ?_
  refine x_imul C dX12_compares_12 ?_
  refine x_aload_n C rfl 0 rfl dX12_compares_13 ?_
  refine x_getR (r := 386) C (j := 41) ob358.1 ob358.2 (Nat.le_of_ble_eq_true rfl) (Nat.le_of_ble_eq_true rfl) (fun _ _ _ => rfl) r_358_41 tw_9_7 dX12_compares_14 ?_
  refine x_iload_n C rfl 2 rfl dX12_compares_17 ?_
  obtain ⟨c9, h⟩ := h
  refine x_iald C ob386.1 ob386.2 c9 rfl dX12_compares_18 ?_
  refine x_aload_n C rfl 0 rfl dX12_compares_19 ?_
  refine x_getR (r := 385) C (j := 40) ob358.1 ob358.2 (Nat.le_of_ble_eq_true rfl) (Nat.le_of_ble_eq_true rfl) (fun _ _ _ => rfl) r_358_40 tw_9_6 dX12_compares_20 ?_
  refine x_iload_n C rfl 1 rfl dX12_compares_23 ?_
  obtain ⟨c10, h⟩ := h
  refine x_iald C ob385.1 ob385.2 c10 rfl dX12_compares_24 ?_
  refine x_imul C dX12_compares_25 ?_
  refine x_callS (dC := GJ6_compare_7cf53_dep) (as := [.int ((gI μ 386 v1.toNatClampNeg) * (gI μ 385 v2.toNatClampNeg)), .int ((gI μ 386 v2.toNatClampNeg) * (gI μ 385 v1.toNatClampNeg))]) (st := []) C rX kX (Nat.le_trans (Nat.le_of_ble_eq_true rfl) hd) (Nat.le_of_ble_eq_true rfl) tw_4_174 tw_7_224 tc_4_175 tw_1_24 hyJ6 hnJ6_compare_7cf53 rfl (Nat.le_of_ble_eq_true rfl) dX12_compares_26 (GJ6_compare_7cf53_met C.2.2.2.2.2.2.2.1 (Nat.le_refl _)  h) (fun r0 μ11 hq => ?_)
  obtain ⟨r12, rfl, h⟩ := hq
  refine x_st [.int r12] rfl ?_
  exact x_iret C hr dX12_compares_29 ⟨_, rfl, h⟩
set_option maxHeartbeats 4000000 in
set_option maxRecDepth 100000 in
theorem GJ6_signum_0f7a4_met {l : Launch} {φ : Nat → Nat} {tc : Nat → ClassId} {D : va_G} {s0 : State} (hG : GX φ tc D s0) {dR : Nat} (hd : GJ6_signum_0f7a4_dep ≤ dR) {v0 : Int32} {μ : MM} {Q : Int32 → MM → Prop}  (h : GJ6_signum_0f7a4 v0 μ Q) : MX l φ tc D s0 dR yJ6_signum_0f7a4 cJ6_signum_0f7a4 1 (some .int) [.int v0] μ (QI Q) := by
  refine MX.of (own := RJ6) hG plJ6 rfl (Nat.le_of_ble_eq_true rfl) (fun p e s m args below meth c C hr => ?_)
  refine x_sub [(0, .int v0)] [0] rfl ?_
  unfold GJ6_signum_0f7a4 at h
  refine x_iload_n C rfl 0 rfl dJ6_signum_0f7a4_0 ?_
  refine x_bipush (v := 31) C (by decide) dJ6_signum_0f7a4_1 ?_
  refine x_ishr C dJ6_signum_0f7a4_3 ?_
  refine x_iload_n C rfl 0 rfl dJ6_signum_0f7a4_4 ?_
  refine x_ineg C dJ6_signum_0f7a4_5 ?_
  refine x_bipush (v := 31) C (by decide) dJ6_signum_0f7a4_6 ?_
  refine x_iushr C dJ6_signum_0f7a4_8 ?_
  refine x_ior C dJ6_signum_0f7a4_9 ?_
  exact x_iret C hr dJ6_signum_0f7a4_10 ⟨_, rfl, h⟩
set_option maxHeartbeats 4000000 in
set_option maxRecDepth 100000 in
theorem G12_pairsOf_J137_ok {p : Program} {e : Env} {s : State} {m : MethodId} {args : Array Value} {below : List Frame} {meth : Method} {c : Code} {l : Launch} {φ : Nat → Nat} {tc : Nat → ClassId} {D : va_G} {s0 : State} {dR : Nat} (C : CX p s m args meth c φ tc D (AX φ) s0 cX12_pairsOf RX12 5) (hd : G12_pairsOf_dep ≤ dR) (hr : meth.sig.returnType = none)   {p1 : Int32} {p2 : Int32} {p3 : Int32} {q0 : Int32} {q1 : Int32} {Q : MM → Prop} {K17 : Int32 × MM → Prop} {K27 : Int32 × MM → Prop} {μ : MM}   (hK17 : ∀ (z2 : Int32) (zμ : MM), K17 (z2, zμ) → WX p l e (rmX dR) s m args below meth c φ tc D (AX φ) 5 0 0 (MQ below (QX φ tc D (QV Q)) args s 0 0 (AX φ)) 17 [(0, .ref 358), (1, .int p1), (2, .int z2)] [] zμ) (hK27 : ∀ (z3 : Int32) (zμ : MM), K27 (z3, zμ) → WX p l e (rmX dR) s m args below meth c φ tc D (AX φ) 5 0 0 (MQ below (QX φ tc D (QV Q)) args s 0 0 (AX φ)) 27 [(0, .ref 358), (1, .int p1), (2, .int p2), (3, .int z3)] [] zμ) (h : G12_pairsOf_J137 p1 p2 p3 q0 q1 μ K17 K27 Q) : WX p l e (rmX dR) s m args below meth c φ tc D (AX φ) 5 0 0 (MQ below (QX φ tc D (QV Q)) args s 0 0 (AX φ)) 137 [(0, .ref 358), (1, .int p1), (2, .int p2), (3, .int p3)] [.int q0, .int q1, .ref 358] μ := by
  unfold G12_pairsOf_J137 at h
  refine x_callS (dC := G12_flag_dep) (as := [.int q0]) (st := [.int q1, .ref 358]) C rX kX (Nat.le_trans (Nat.le_of_ble_eq_true rfl) hd) (Nat.le_of_ble_eq_true rfl) tw_6_212 tw_6_211 tc_6_213 tw_1_13 hyX12 hnX12_flag rfl (Nat.le_of_ble_eq_true rfl) dX12_pairsOf_137 (G12_flag_met C.2.2.2.2.2.2.2.1 (Nat.le_refl _)  h) (fun r0 μ51 hq => ?_)
  obtain ⟨r52, rfl, h⟩ := hq
  refine x_st [.int r52, .int q1, .ref 358] rfl ?_
  refine x_iadd C dX12_pairsOf_140 ?_
  refine x_putI C (j := 44) ob358.1 ob358.2 (Nat.le_of_ble_eq_true rfl) (Nat.le_of_ble_eq_true rfl) (Or.inl rfl) rfl rfl rfl tw_9_10 dX12_pairsOf_141 ?_
  refine x_mu (fun μ53 e_μ53 => ?_)
  have h := h μ53 e_μ53
  refine x_iinc (v := (p3 + 1)) C [(3, .int (p3 + 1)), (0, .ref 358), (1, .int p1), (2, .int p2)] 3 rfl (congrArg (fun z => p3 + z) (by decide : Int32.ofInt (1) = 1)) (Nat.le_of_ble_eq_true rfl) rfl dX12_pairsOf_144 ?_
  refine x_goto (tgt := 27) C dX12_pairsOf_147 (by decide) ?_
  refine x_sub [(0, .ref 358), (1, .int p1), (2, .int p2), (3, .int (p3 + 1))] [1, 2, 3, 0] rfl ?_
  exact hK27 _ _ h
set_option maxHeartbeats 4000000 in
set_option maxRecDepth 100000 in
theorem G12_pairsOf_J115_ok {p : Program} {e : Env} {s : State} {m : MethodId} {args : Array Value} {below : List Frame} {meth : Method} {c : Code} {l : Launch} {φ : Nat → Nat} {tc : Nat → ClassId} {D : va_G} {s0 : State} {dR : Nat} (C : CX p s m args meth c φ tc D (AX φ) s0 cX12_pairsOf RX12 5) (hd : G12_pairsOf_dep ≤ dR) (hr : meth.sig.returnType = none)   {p1 : Int32} {p2 : Int32} {p3 : Int32} {p4 : Int32} {q0 : Int32} {q1 : Int32} {Q : MM → Prop} {K17 : Int32 × MM → Prop} {K27 : Int32 × MM → Prop} {μ : MM}   (hK17 : ∀ (z2 : Int32) (zμ : MM), K17 (z2, zμ) → WX p l e (rmX dR) s m args below meth c φ tc D (AX φ) 5 0 0 (MQ below (QX φ tc D (QV Q)) args s 0 0 (AX φ)) 17 [(0, .ref 358), (1, .int p1), (2, .int z2)] [] zμ) (hK27 : ∀ (z3 : Int32) (zμ : MM), K27 (z3, zμ) → WX p l e (rmX dR) s m args below meth c φ tc D (AX φ) 5 0 0 (MQ below (QX φ tc D (QV Q)) args s 0 0 (AX φ)) 27 [(0, .ref 358), (1, .int p1), (2, .int p2), (3, .int z3)] [] zμ) (h : G12_pairsOf_J115 p1 p2 p3 p4 q0 q1 μ K17 K27 Q) : WX p l e (rmX dR) s m args below meth c φ tc D (AX φ) 5 0 0 (MQ below (QX φ tc D (QV Q)) args s 0 0 (AX φ)) 115 [(0, .ref 358), (1, .int p1), (2, .int p2), (3, .int p3), (4, .int p4)] [.int q0, .int q1, .ref 358] μ := by
  unfold G12_pairsOf_J115 at h
  refine x_callS (dC := G12_flag_dep) (as := [.int q0]) (st := [.int q1, .ref 358]) C rX kX (Nat.le_trans (Nat.le_of_ble_eq_true rfl) hd) (Nat.le_of_ble_eq_true rfl) tw_6_212 tw_6_211 tc_6_213 tw_1_13 hyX12 hnX12_flag rfl (Nat.le_of_ble_eq_true rfl) dX12_pairsOf_115 (G12_flag_met C.2.2.2.2.2.2.2.1 (Nat.le_refl _)  h) (fun r0 μ47 hq => ?_)
  obtain ⟨r48, rfl, h⟩ := hq
  refine x_st [.int r48, .int q1, .ref 358] rfl ?_
  refine x_iadd C dX12_pairsOf_118 ?_
  refine x_putI C (j := 43) ob358.1 ob358.2 (Nat.le_of_ble_eq_true rfl) (Nat.le_of_ble_eq_true rfl) (Or.inl rfl) rfl rfl rfl tw_9_9 dX12_pairsOf_119 ?_
  refine x_mu (fun μ49 e_μ49 => ?_)
  have h := h μ49 e_μ49
  refine x_aload_n C rfl 0 rfl dX12_pairsOf_122 ?_
  refine x_dup C rfl dX12_pairsOf_123 ?_
  refine x_getI C (j := 44) ob358.1 ob358.2 (Nat.le_of_ble_eq_true rfl) (Nat.le_of_ble_eq_true rfl) (Or.inl rfl) tw_9_10 dX12_pairsOf_124 ?_
  refine x_iload C 4 rfl dX12_pairsOf_127 ?_
  refine x_if_ne (tgt := 136) C dX12_pairsOf_129 (by decide) (fun c50 => ?_) (fun c50 => ?_)
  · have h := h.1 c50
    refine x_iconst (v := 0) C (by decide) dX12_pairsOf_136 ?_
    refine x_sub [(0, .ref 358), (1, .int p1), (2, .int p2), (3, .int p3)] [0, 1, 2, 3] rfl ?_
    exact G12_pairsOf_J137_ok C hd hr hK17 hK27 h
  · have h := h.2 c50
    refine x_iconst (v := 1) C (by decide) dX12_pairsOf_132 ?_
    refine x_goto (tgt := 137) C dX12_pairsOf_133 (by decide) ?_
    refine x_sub [(0, .ref 358), (1, .int p1), (2, .int p2), (3, .int p3)] [0, 1, 2, 3] rfl ?_
    exact G12_pairsOf_J137_ok C hd hr hK17 hK27 h
set_option maxHeartbeats 4000000 in
set_option maxRecDepth 100000 in
theorem G12_pairsOf_J93_ok {p : Program} {e : Env} {s : State} {m : MethodId} {args : Array Value} {below : List Frame} {meth : Method} {c : Code} {l : Launch} {φ : Nat → Nat} {tc : Nat → ClassId} {D : va_G} {s0 : State} {dR : Nat} (C : CX p s m args meth c φ tc D (AX φ) s0 cX12_pairsOf RX12 5) (hd : G12_pairsOf_dep ≤ dR) (hr : meth.sig.returnType = none)   {p1 : Int32} {p2 : Int32} {p3 : Int32} {p4 : Int32} {q0 : Int32} {q1 : Int32} {Q : MM → Prop} {K17 : Int32 × MM → Prop} {K27 : Int32 × MM → Prop} {μ : MM}   (hK17 : ∀ (z2 : Int32) (zμ : MM), K17 (z2, zμ) → WX p l e (rmX dR) s m args below meth c φ tc D (AX φ) 5 0 0 (MQ below (QX φ tc D (QV Q)) args s 0 0 (AX φ)) 17 [(0, .ref 358), (1, .int p1), (2, .int z2)] [] zμ) (hK27 : ∀ (z3 : Int32) (zμ : MM), K27 (z3, zμ) → WX p l e (rmX dR) s m args below meth c φ tc D (AX φ) 5 0 0 (MQ below (QX φ tc D (QV Q)) args s 0 0 (AX φ)) 27 [(0, .ref 358), (1, .int p1), (2, .int p2), (3, .int z3)] [] zμ) (h : G12_pairsOf_J93 p1 p2 p3 p4 q0 q1 μ K17 K27 Q) : WX p l e (rmX dR) s m args below meth c φ tc D (AX φ) 5 0 0 (MQ below (QX φ tc D (QV Q)) args s 0 0 (AX φ)) 93 [(0, .ref 358), (1, .int p1), (2, .int p2), (3, .int p3), (4, .int p4)] [.int q0, .int q1, .ref 358] μ := by
  unfold G12_pairsOf_J93 at h
  refine x_callS (dC := G12_flag_dep) (as := [.int q0]) (st := [.int q1, .ref 358]) C rX kX (Nat.le_trans (Nat.le_of_ble_eq_true rfl) hd) (Nat.le_of_ble_eq_true rfl) tw_6_212 tw_6_211 tc_6_213 tw_1_13 hyX12 hnX12_flag rfl (Nat.le_of_ble_eq_true rfl) dX12_pairsOf_93 (G12_flag_met C.2.2.2.2.2.2.2.1 (Nat.le_refl _)  h) (fun r0 μ43 hq => ?_)
  obtain ⟨r44, rfl, h⟩ := hq
  refine x_st [.int r44, .int q1, .ref 358] rfl ?_
  refine x_iadd C dX12_pairsOf_96 ?_
  refine x_putI C (j := 42) ob358.1 ob358.2 (Nat.le_of_ble_eq_true rfl) (Nat.le_of_ble_eq_true rfl) (Or.inl rfl) rfl rfl rfl tw_9_8 dX12_pairsOf_97 ?_
  refine x_mu (fun μ45 e_μ45 => ?_)
  have h := h μ45 e_μ45
  refine x_aload_n C rfl 0 rfl dX12_pairsOf_100 ?_
  refine x_dup C rfl dX12_pairsOf_101 ?_
  refine x_getI C (j := 43) ob358.1 ob358.2 (Nat.le_of_ble_eq_true rfl) (Nat.le_of_ble_eq_true rfl) (Or.inl rfl) tw_9_9 dX12_pairsOf_102 ?_
  refine x_iload C 4 rfl dX12_pairsOf_105 ?_
  refine x_if_ge (tgt := 114) C dX12_pairsOf_107 (by decide) (fun c46 => ?_) (fun c46 => ?_)
  · have h := h.1 c46
    refine x_iconst (v := 0) C (by decide) dX12_pairsOf_114 ?_
    exact G12_pairsOf_J115_ok C hd hr hK17 hK27 h
  · have h := h.2 c46
    refine x_iconst (v := 1) C (by decide) dX12_pairsOf_110 ?_
    refine x_goto (tgt := 115) C dX12_pairsOf_111 (by decide) ?_
    exact G12_pairsOf_J115_ok C hd hr hK17 hK27 h
set_option maxHeartbeats 4000000 in
set_option maxRecDepth 100000 in
theorem G12_pairsOf_L27_b {p : Program} {e : Env} {s : State} {m : MethodId} {args : Array Value} {below : List Frame} {meth : Method} {c : Code} {l : Launch} {φ : Nat → Nat} {tc : Nat → ClassId} {D : va_G} {s0 : State} {dR : Nat} (C : CX p s m args meth c φ tc D (AX φ) s0 cX12_pairsOf RX12 5) (hd : G12_pairsOf_dep ≤ dR) (hr : meth.sig.returnType = none)  {p1 : Int32} {p2 : Int32} {Q : MM → Prop} {K17 : Int32 × MM → Prop} {K27 : Int32 × MM → Prop} {x : Int32 × MM}   (hK17 : ∀ (z2 : Int32) (zμ : MM), K17 (z2, zμ) → WX p l e (rmX dR) s m args below meth c φ tc D (AX φ) 5 0 0 (MQ below (QX φ tc D (QV Q)) args s 0 0 (AX φ)) 17 [(0, .ref 358), (1, .int p1), (2, .int z2)] [] zμ) (hK27 : ∀ (z3 : Int32) (zμ : MM), K27 (z3, zμ) → WX p l e (rmX dR) s m args below meth c φ tc D (AX φ) 5 0 0 (MQ below (QX φ tc D (QV Q)) args s 0 0 (AX φ)) 27 [(0, .ref 358), (1, .int p1), (2, .int p2), (3, .int z3)] [] zμ) (h : G12_pairsOf_L27 p1 p2 K17 Q K27 x) : WX p l e (rmX dR) s m args below meth c φ tc D (AX φ) 5 0 0 (MQ below (QX φ tc D (QV Q)) args s 0 0 (AX φ)) 27 [(0, .ref 358), (1, .int p1), (2, .int p2), (3, .int x.1)] [] x.2 := by
  unfold G12_pairsOf_L27 at h
  refine x_iload_n C rfl 3 rfl dX12_pairsOf_27 ?_
  refine x_iload_n C rfl 2 rfl dX12_pairsOf_28 ?_
  refine x_icmp_ge (tgt := 150) C dX12_pairsOf_29 (by decide) (fun c28 => ?_) (fun c28 => ?_)
  · have h := h.1 c28
    refine x_iinc (v := (p2 + 1)) C [(2, .int (p2 + 1)), (0, .ref 358), (1, .int p1), (3, .int x.1)] 2 rfl (congrArg (fun z => p2 + z) (by decide : Int32.ofInt (1) = 1)) (Nat.le_of_ble_eq_true rfl) rfl dX12_pairsOf_150 ?_
    refine x_goto (tgt := 17) C dX12_pairsOf_153 (by decide) ?_
    refine x_sub [(0, .ref 358), (1, .int p1), (2, .int (p2 + 1))] [1, 2, 0] rfl ?_
    exact hK17 _ _ h
  · have h := h.2 c28
    refine x_aload_n C rfl 0 rfl dX12_pairsOf_32 ?_
    refine x_getR (r := 385) C (j := 40) ob358.1 ob358.2 (Nat.le_of_ble_eq_true rfl) (Nat.le_of_ble_eq_true rfl) (fun _ _ _ => rfl) r_358_40 tw_9_6 dX12_pairsOf_33 ?_
    refine x_iload_n C rfl 2 rfl dX12_pairsOf_36 ?_
    obtain ⟨c29, h⟩ := h
    refine x_iald C ob385.1 ob385.2 c29 rfl dX12_pairsOf_37 ?_
    refine x_if_eq (tgt := 144) C dX12_pairsOf_38 (by decide) (fun c30 => ?_) (fun c30 => ?_)
    · have h := h.1 c30
      refine x_iinc (v := (x.1 + 1)) C [(3, .int (x.1 + 1)), (0, .ref 358), (1, .int p1), (2, .int p2)] 3 rfl (congrArg (fun z => x.1 + z) (by decide : Int32.ofInt (1) = 1)) (Nat.le_of_ble_eq_true rfl) rfl dX12_pairsOf_144 ?_
      refine x_goto (tgt := 27) C dX12_pairsOf_147 (by decide) ?_
      refine x_sub [(0, .ref 358), (1, .int p1), (2, .int p2), (3, .int (x.1 + 1))] [1, 2, 3, 0] rfl ?_
      exact hK27 _ _ h
    · have h := h.2 c30
      refine x_aload_n C rfl 0 rfl dX12_pairsOf_41 ?_
      refine x_getR (r := 385) C (j := 40) ob358.1 ob358.2 (Nat.le_of_ble_eq_true rfl) (Nat.le_of_ble_eq_true rfl) (fun _ _ _ => rfl) r_358_40 tw_9_6 dX12_pairsOf_42 ?_
      refine x_iload_n C rfl 3 rfl dX12_pairsOf_45 ?_
      obtain ⟨c31, h⟩ := h
      refine x_iald C ob385.1 ob385.2 c31 rfl dX12_pairsOf_46 ?_
      refine x_if_ne (tgt := 53) C dX12_pairsOf_47 (by decide) (fun c32 => ?_) (fun c32 => ?_)
      · have h := h.1 c32
        refine x_aload_n C rfl 0 rfl dX12_pairsOf_53 ?_
        refine x_iload_n C rfl 1 rfl dX12_pairsOf_54 ?_
        refine x_iload_n C rfl 2 rfl dX12_pairsOf_55 ?_
        refine x_callV (dC := G12_saysOf_dep) (as := [.int p1, .int p2]) (st := []) C rX kX (Nat.le_trans (Nat.le_of_ble_eq_true rfl) hd) (Nat.le_of_ble_eq_true rfl) ob358.1 ob358.2 (Nat.le_of_ble_eq_true rfl) rfl ts_10_6 tw_7_215 tw_7_213 tc_7_216 tw_1_13 hyX12 hnX12_saysOf rfl (Nat.le_of_ble_eq_true rfl) dX12_pairsOf_56 (G12_saysOf_met C.2.2.2.2.2.2.2.1 (Nat.le_refl _)  h) (fun r0 μ33 hq => ?_)
        obtain ⟨r34, rfl, h⟩ := hq
        refine x_st [.int r34] rfl ?_
        refine x_aload_n C rfl 0 rfl dX12_pairsOf_59 ?_
        refine x_iload_n C rfl 1 rfl dX12_pairsOf_60 ?_
        refine x_iload_n C rfl 3 rfl dX12_pairsOf_61 ?_
        refine x_callV (dC := G12_saysOf_dep) (as := [.int p1, .int x.1]) (st := [.int r34]) C rX kX (Nat.le_trans (Nat.le_of_ble_eq_true rfl) hd) (Nat.le_of_ble_eq_true rfl) ob358.1 ob358.2 (Nat.le_of_ble_eq_true rfl) rfl ts_10_6 tw_7_215 tw_7_213 tc_7_216 tw_1_13 hyX12 hnX12_saysOf rfl (Nat.le_of_ble_eq_true rfl) dX12_pairsOf_62 (G12_saysOf_met C.2.2.2.2.2.2.2.1 (Nat.le_refl _)  h) (fun r0 μ35 hq => ?_)
        obtain ⟨r36, rfl, h⟩ := hq
        refine x_st [.int r36, .int r34] rfl ?_
        refine x_isub C dX12_pairsOf_65 ?_
        refine x_callS (dC := GJ6_signum_0f7a4_dep) (as := [.int (r34 - r36)]) (st := []) C rX kX (Nat.le_trans (Nat.le_of_ble_eq_true rfl) hd) (Nat.le_of_ble_eq_true rfl) tw_7_218 tw_7_217 tc_7_219 tw_1_24 hyJ6 hnJ6_signum_0f7a4 rfl (Nat.le_of_ble_eq_true rfl) dX12_pairsOf_66 (GJ6_signum_0f7a4_met C.2.2.2.2.2.2.2.1 (Nat.le_refl _)  h) (fun r0 μ37 hq => ?_)
        obtain ⟨r38, rfl, h⟩ := hq
        refine x_st [.int r38] rfl ?_
        refine x_aload_n C rfl 0 rfl dX12_pairsOf_69 ?_
        refine x_iload_n C rfl 2 rfl dX12_pairsOf_70 ?_
        refine x_iload_n C rfl 3 rfl dX12_pairsOf_71 ?_
        refine x_callV (dC := G12_compares_dep) (as := [.int p2, .int x.1]) (st := [.int r38]) C rX kX (Nat.le_trans (Nat.le_of_ble_eq_true rfl) hd) (Nat.le_of_ble_eq_true rfl) ob358.1 ob358.2 (Nat.le_of_ble_eq_true rfl) rfl ts_10_7 tw_7_222 tw_7_220 tc_7_223 tw_1_13 hyX12 hnX12_compares rfl (Nat.le_of_ble_eq_true rfl) dX12_pairsOf_72 (G12_compares_met C.2.2.2.2.2.2.2.1 (Nat.le_refl _)  h) (fun r0 μ39 hq => ?_)
        obtain ⟨r40, rfl, h⟩ := hq
        refine x_st [.int r40, .int r38] rfl ?_
        refine x_imul C dX12_pairsOf_75 ?_
        refine x_topi (fun y41 e_y41 => ?_)
        have h := h y41 e_y41
        refine x_istore C [(4, .int y41), (0, .ref 358), (1, .int p1), (2, .int p2), (3, .int x.1)] (Nat.le_of_ble_eq_true rfl) rfl dX12_pairsOf_76 ?_
        refine x_aload_n C rfl 1 rfl dX12_pairsOf_78 ?_
        refine x_dup C rfl dX12_pairsOf_79 ?_
        refine x_getI C (j := 42) ob358.1 ob358.2 (Nat.le_of_ble_eq_true rfl) (Nat.le_of_ble_eq_true rfl) (Or.inl rfl) tw_9_8 dX12_pairsOf_80 ?_
        refine x_iload C 0 rfl dX12_pairsOf_83 ?_
        refine x_if_le (tgt := 92) C dX12_pairsOf_85 (by decide) (fun c42 => ?_) (fun c42 => ?_)
        · have h := h.1 c42
          refine x_iconst (v := 0) C (by decide) dX12_pairsOf_92 ?_
          refine x_sub [(0, .ref 358), (1, .int p1), (2, .int p2), (3, .int x.1), (4, .int y41)] [1, 2, 3, 4, 0] rfl ?_
          exact G12_pairsOf_J93_ok C hd hr hK17 hK27 h
        · have h := h.2 c42
          refine x_iconst (v := 1) C (by decide) dX12_pairsOf_88 ?_
          refine x_goto (tgt := 93) C dX12_pairsOf_89 (by decide) ?_
          refine x_sub [(0, .ref 358), (1, .int p1), (2, .int p2), (3, .int x.1), (4, .int y41)] [1, 2, 3, 4, 0] rfl ?_
          exact G12_pairsOf_J93_ok C hd hr hK17 hK27 h
      · have h := h.2 c32
        refine x_goto (tgt := 144) C dX12_pairsOf_50 (by decide) ?_
        refine x_iinc (v := (x.1 + 1)) C [(3, .int (x.1 + 1)), (0, .ref 358), (1, .int p1), (2, .int p2)] 3 rfl (congrArg (fun z => x.1 + z) (by decide : Int32.ofInt (1) = 1)) (Nat.le_of_ble_eq_true rfl) rfl dX12_pairsOf_144 ?_
        refine x_goto (tgt := 27) C dX12_pairsOf_147 (by decide) ?_
        refine x_sub [(0, .ref 358), (1, .int p1), (2, .int p2), (3, .int (x.1 + 1))] [1, 2, 3, 0] rfl ?_
        exact hK27 _ _ h
theorem G12_pairsOf_L27_ok {p : Program} {e : Env} {s : State} {m : MethodId} {args : Array Value} {below : List Frame} {meth : Method} {c : Code} {l : Launch} {φ : Nat → Nat} {tc : Nat → ClassId} {D : va_G} {s0 : State} {dR : Nat} (C : CX p s m args meth c φ tc D (AX φ) s0 cX12_pairsOf RX12 5) (hd : G12_pairsOf_dep ≤ dR) (hr : meth.sig.returnType = none)  {p1 : Int32} {p2 : Int32} {Q : MM → Prop} {K17 : Int32 × MM → Prop} {x : Int32 × MM}   (hK17 : ∀ (z2 : Int32) (zμ : MM), K17 (z2, zμ) → WX p l e (rmX dR) s m args below meth c φ tc D (AX φ) 5 0 0 (MQ below (QX φ tc D (QV Q)) args s 0 0 (AX φ)) 17 [(0, .ref 358), (1, .int p1), (2, .int z2)] [] zμ) (h : Lp (G12_pairsOf_L27 p1 p2 K17 Q) x) : WX p l e (rmX dR) s m args below meth c φ tc D (AX φ) 5 0 0 (MQ below (QX φ tc D (QV Q)) args s 0 0 (AX φ)) 27 [(0, .ref 358), (1, .int p1), (2, .int p2), (3, .int x.1)] [] x.2 := by
  obtain ⟨n, h⟩ := h
  induction n generalizing x with
  | zero => exact h.elim
  | succ n ih => exact G12_pairsOf_L27_b C hd hr  hK17 (fun z3 zμ hz => by have q := ih hz; exact q) h
set_option maxHeartbeats 4000000 in
set_option maxRecDepth 100000 in
theorem G12_pairsOf_L17_b {p : Program} {e : Env} {s : State} {m : MethodId} {args : Array Value} {below : List Frame} {meth : Method} {c : Code} {l : Launch} {φ : Nat → Nat} {tc : Nat → ClassId} {D : va_G} {s0 : State} {dR : Nat} (C : CX p s m args meth c φ tc D (AX φ) s0 cX12_pairsOf RX12 5) (hd : G12_pairsOf_dep ≤ dR) (hr : meth.sig.returnType = none)  {p1 : Int32} {Q : MM → Prop} {K17 : Int32 × MM → Prop} {x : Int32 × MM}   (hK17 : ∀ (z2 : Int32) (zμ : MM), K17 (z2, zμ) → WX p l e (rmX dR) s m args below meth c φ tc D (AX φ) 5 0 0 (MQ below (QX φ tc D (QV Q)) args s 0 0 (AX φ)) 17 [(0, .ref 358), (1, .int p1), (2, .int z2)] [] zμ) (h : G12_pairsOf_L17 p1 Q K17 x) : WX p l e (rmX dR) s m args below meth c φ tc D (AX φ) 5 0 0 (MQ below (QX φ tc D (QV Q)) args s 0 0 (AX φ)) 17 [(0, .ref 358), (1, .int p1), (2, .int x.1)] [] x.2 := by
  unfold G12_pairsOf_L17 at h
  refine x_iload_n C rfl 2 rfl dX12_pairsOf_17 ?_
  refine x_aload_n C rfl 0 rfl dX12_pairsOf_18 ?_
  refine x_getI C (j := 3) ob358.1 ob358.2 (Nat.le_of_ble_eq_true rfl) (Nat.le_of_ble_eq_true rfl) (Or.inl rfl) tw_8_209 dX12_pairsOf_19 ?_
  refine x_icmp_ge (tgt := 156) C dX12_pairsOf_22 (by decide) (fun c27 => ?_) (fun c27 => ?_)
  · have h := h.1 c27
    exact x_vret C hr dX12_pairsOf_156 ⟨rfl, h⟩
  · have h := h.2 c27
    refine x_iconst (v := 0) C (by decide) dX12_pairsOf_25 ?_
    refine x_istore_n C [(3, .int 0), (0, .ref 358), (1, .int p1), (2, .int x.1)] rfl (Nat.le_of_ble_eq_true rfl) rfl dX12_pairsOf_26 ?_
    refine x_sub [(0, .ref 358), (1, .int p1), (2, .int x.1), (3, .int 0)] [1, 2, 3, 0] rfl ?_
    exact G12_pairsOf_L27_ok C hd hr hK17 h
theorem G12_pairsOf_L17_ok {p : Program} {e : Env} {s : State} {m : MethodId} {args : Array Value} {below : List Frame} {meth : Method} {c : Code} {l : Launch} {φ : Nat → Nat} {tc : Nat → ClassId} {D : va_G} {s0 : State} {dR : Nat} (C : CX p s m args meth c φ tc D (AX φ) s0 cX12_pairsOf RX12 5) (hd : G12_pairsOf_dep ≤ dR) (hr : meth.sig.returnType = none)  {p1 : Int32} {Q : MM → Prop}  {x : Int32 × MM}    (h : Lp (G12_pairsOf_L17 p1 Q) x) : WX p l e (rmX dR) s m args below meth c φ tc D (AX φ) 5 0 0 (MQ below (QX φ tc D (QV Q)) args s 0 0 (AX φ)) 17 [(0, .ref 358), (1, .int p1), (2, .int x.1)] [] x.2 := by
  obtain ⟨n, h⟩ := h
  induction n generalizing x with
  | zero => exact h.elim
  | succ n ih => exact G12_pairsOf_L17_b C hd hr   (fun z2 zμ hz => by have q := ih hz; exact q) h
set_option maxHeartbeats 4000000 in
set_option maxRecDepth 100000 in
theorem G12_pairsOf_met {l : Launch} {φ : Nat → Nat} {tc : Nat → ClassId} {D : va_G} {s0 : State} (hG : GX φ tc D s0) {dR : Nat} (hd : G12_pairsOf_dep ≤ dR) {v1 : Int32} {μ : MM} {Q : MM → Prop}  (h : G12_pairsOf v1 μ Q) : MX l φ tc D s0 dR yX12_pairsOf cX12_pairsOf 5 none [.ref 358, .int v1] μ (QV Q) := by
  refine MX.of (own := RX12) hG plX12 rfl (Nat.le_of_ble_eq_true rfl) (fun p e s m args below meth c C hr => ?_)
  refine x_sub [(0, .ref 358), (1, .int v1)] [0, 1] rfl ?_
  unfold G12_pairsOf at h
  refine x_aload_n C rfl 0 rfl dX12_pairsOf_0 ?_
  refine x_iconst (v := 0) C (by decide) dX12_pairsOf_1 ?_
  refine x_putI C (j := 42) ob358.1 ob358.2 (Nat.le_of_ble_eq_true rfl) (Nat.le_of_ble_eq_true rfl) (Or.inl rfl) rfl rfl rfl tw_9_8 dX12_pairsOf_2 ?_
  refine x_mu (fun μ24 e_μ24 => ?_)
  have h := h μ24 e_μ24
  refine x_aload_n C rfl 0 rfl dX12_pairsOf_5 ?_
  refine x_iconst (v := 0) C (by decide) dX12_pairsOf_6 ?_
  refine x_putI C (j := 43) ob358.1 ob358.2 (Nat.le_of_ble_eq_true rfl) (Nat.le_of_ble_eq_true rfl) (Or.inl rfl) rfl rfl rfl tw_9_9 dX12_pairsOf_7 ?_
  refine x_mu (fun μ25 e_μ25 => ?_)
  have h := h μ25 e_μ25
  refine x_aload_n C rfl 0 rfl dX12_pairsOf_10 ?_
  refine x_iconst (v := 0) C (by decide) dX12_pairsOf_11 ?_
  refine x_putI C (j := 44) ob358.1 ob358.2 (Nat.le_of_ble_eq_true rfl) (Nat.le_of_ble_eq_true rfl) (Or.inl rfl) rfl rfl rfl tw_9_10 dX12_pairsOf_12 ?_
  refine x_mu (fun μ26 e_μ26 => ?_)
  have h := h μ26 e_μ26
  refine x_iconst (v := 0) C (by decide) dX12_pairsOf_15 ?_
  refine x_istore_n C [(2, .int 0), (0, .ref 358), (1, .int v1)] rfl (Nat.le_of_ble_eq_true rfl) rfl dX12_pairsOf_16 ?_
  refine x_sub [(0, .ref 358), (1, .int v1), (2, .int 0)] [1, 2, 0] rfl ?_
  exact G12_pairsOf_L17_ok C hd hr  h
set_option maxHeartbeats 4000000 in
set_option maxRecDepth 100000 in
theorem G12_goes_met {l : Launch} {φ : Nat → Nat} {tc : Nat → ClassId} {D : va_G} {s0 : State} (hG : GX φ tc D s0) {dR : Nat} (hd : G12_goes_dep ≤ dR) {v1 : Int32} {μ : MM} {Q : Int32 → MM → Prop}  (h : G12_goes v1 μ Q) : MX l φ tc D s0 dR yX12_goes cX12_goes 2 (some .int) [.ref 358, .int v1] μ (QI Q) := by
  refine MX.of (own := RX12) hG plX12 rfl (Nat.le_of_ble_eq_true rfl) (fun p e s m args below meth c C hr => ?_)
  refine x_sub [(0, .ref 358), (1, .int v1)] [0, 1] rfl ?_
  unfold G12_goes at h
  refine x_aload_n C rfl 0 rfl dX12_goes_0 ?_
  refine x_iconst (v := 0) C (by decide) dX12_goes_1 ?_
  refine x_putI C (j := 0) ob358.1 ob358.2 (Nat.le_of_ble_eq_true rfl) (Nat.le_of_ble_eq_true rfl) (Or.inl rfl) rfl rfl rfl tw_8_206 dX12_goes_2 ?_
  refine x_mu (fun μ9 e_μ9 => ?_)
  have h := h μ9 e_μ9
  refine x_iload_n C rfl 1 rfl dX12_goes_5 ?_
  refine x_i2l C dX12_goes_6 ?_
  refine x_lconst (v := 0) C (by decide) dX12_goes_7 ?_
  refine x_ldc2 (v := 3) C tw_6_190 dX12_goes_8 ?_
  refine x_callS (dC := G12_in_dep) (as := [.long (v1.toInt64), .long 0, .long 3]) (st := []) C rX kX (Nat.le_trans (Nat.le_of_ble_eq_true rfl) hd) (Nat.le_of_ble_eq_true rfl) tw_6_183 tw_6_182 tc_6_184 tw_1_13 hyX12 hnX12_in rfl (Nat.le_of_ble_eq_true rfl) dX12_goes_11 (G12_in_met C.2.2.2.2.2.2.2.1 (Nat.le_refl _)  h) (fun r0 μ10 hq => ?_)
  obtain ⟨r11, rfl, h⟩ := hq
  refine x_st [.int r11] rfl ?_
  refine x_if_ne (tgt := 19) C dX12_goes_14 (by decide) (fun c12 => ?_) (fun c12 => ?_)
  · have h := h.1 c12
    refine x_aload_n C rfl 0 rfl dX12_goes_19 ?_
    refine x_callV (dC := G12_countsNames_dep) (as := []) (st := []) C rX kX (Nat.le_trans (Nat.le_of_ble_eq_true rfl) hd) (Nat.le_of_ble_eq_true rfl) ob358.1 ob358.2 (Nat.le_of_ble_eq_true rfl) rfl ts_10_4 tw_7_195 tw_7_193 tc_7_196 tw_1_13 hyX12 hnX12_countsNames rfl (Nat.le_of_ble_eq_true rfl) dX12_goes_20 (G12_countsNames_met C.2.2.2.2.2.2.2.1 (Nat.le_refl _)  h) (fun r0 μ13 hq => ?_)
    obtain ⟨rfl, h⟩ := hq
    refine x_st [] rfl ?_
    refine x_aload_n C rfl 0 rfl dX12_goes_23 ?_
    refine x_iload_n C rfl 1 rfl dX12_goes_24 ?_
    refine x_callV (dC := G12_pairsOf_dep) (as := [.int v1]) (st := []) C rX kX (Nat.le_trans (Nat.le_of_ble_eq_true rfl) hd) (Nat.le_of_ble_eq_true rfl) ob358.1 ob358.2 (Nat.le_of_ble_eq_true rfl) rfl ts_10_5 tw_7_211 tw_7_209 tc_7_212 tw_1_13 hyX12 hnX12_pairsOf rfl (Nat.le_of_ble_eq_true rfl) dX12_goes_25 (G12_pairsOf_met C.2.2.2.2.2.2.2.1 (Nat.le_refl _)  h) (fun r0 μ14 hq => ?_)
    obtain ⟨rfl, h⟩ := hq
    refine x_st [] rfl ?_
    refine x_aload_n C rfl 0 rfl dX12_goes_28 ?_
    refine x_iconst (v := 0) C (by decide) dX12_goes_29 ?_
    refine x_putI C (j := 1) ob358.1 ob358.2 (Nat.le_of_ble_eq_true rfl) (Nat.le_of_ble_eq_true rfl) (Or.inl rfl) rfl rfl rfl tw_8_207 dX12_goes_30 ?_
    refine x_mu (fun μ15 e_μ15 => ?_)
    have h := h μ15 e_μ15
    refine x_aload_n C rfl 0 rfl dX12_goes_33 ?_
    refine x_aload_n C rfl 0 rfl dX12_goes_34 ?_
    refine x_getI C (j := 43) ob358.1 ob358.2 (Nat.le_of_ble_eq_true rfl) (Nat.le_of_ble_eq_true rfl) (Or.inl rfl) tw_9_9 dX12_goes_35 ?_
    refine x_i2l C dX12_goes_38 ?_
    refine x_callV (dC := G12_enters_dep) (as := [.long ((gI μ15 358 43).toInt64)]) (st := []) C rX kX (Nat.le_trans (Nat.le_of_ble_eq_true rfl) hd) (Nat.le_of_ble_eq_true rfl) ob358.1 ob358.2 (Nat.le_of_ble_eq_true rfl) rfl ts_10_1 tw_7_161 tw_7_159 tc_7_162 tw_1_13 hyX12 hnX12_enters rfl (Nat.le_of_ble_eq_true rfl) dX12_goes_39 (G12_enters_met C.2.2.2.2.2.2.2.1 (Nat.le_refl _)  h) (fun r0 μ16 hq => ?_)
    obtain ⟨rfl, h⟩ := hq
    refine x_st [] rfl ?_
    refine x_aload_n C rfl 0 rfl dX12_goes_42 ?_
    refine x_aload_n C rfl 0 rfl dX12_goes_43 ?_
    refine x_getI C (j := 44) ob358.1 ob358.2 (Nat.le_of_ble_eq_true rfl) (Nat.le_of_ble_eq_true rfl) (Or.inl rfl) tw_9_10 dX12_goes_44 ?_
    refine x_i2l C dX12_goes_47 ?_
    refine x_callV (dC := G12_enters_dep) (as := [.long ((gI μ16 358 44).toInt64)]) (st := []) C rX kX (Nat.le_trans (Nat.le_of_ble_eq_true rfl) hd) (Nat.le_of_ble_eq_true rfl) ob358.1 ob358.2 (Nat.le_of_ble_eq_true rfl) rfl ts_10_1 tw_7_161 tw_7_159 tc_7_162 tw_1_13 hyX12 hnX12_enters rfl (Nat.le_of_ble_eq_true rfl) dX12_goes_48 (G12_enters_met C.2.2.2.2.2.2.2.1 (Nat.le_refl _)  h) (fun r0 μ17 hq => ?_)
    obtain ⟨rfl, h⟩ := hq
    refine x_st [] rfl ?_
    refine x_aload_n C rfl 0 rfl dX12_goes_51 ?_
    refine x_getI C (j := 42) ob358.1 ob358.2 (Nat.le_of_ble_eq_true rfl) (Nat.le_of_ble_eq_true rfl) (Or.inl rfl) tw_9_8 dX12_goes_52 ?_
    exact x_iret C hr dX12_goes_55 ⟨_, rfl, h⟩
  · have h := h.2 c12
    refine x_iconst (v := (-1)) C (by decide) dX12_goes_17 ?_
    exact x_iret C hr dX12_goes_18 ⟨_, rfl, h⟩
set_option maxHeartbeats 4000000 in
set_option maxRecDepth 100000 in
theorem G12_says_J52_ok {p : Program} {e : Env} {s : State} {m : MethodId} {args : Array Value} {below : List Frame} {meth : Method} {c : Code} {l : Launch} {φ : Nat → Nat} {tc : Nat → ClassId} {D : va_G} {s0 : State} {dR : Nat} (C : CX p s m args meth c φ tc D (AX φ) s0 cX12_says RX12 5) (hd : G12_says_dep ≤ dR) (hr : meth.sig.returnType = (some .int))   {p3 : Int32} {p4 : Int32} {Q : Int32 → MM → Prop} {K15 : Int32 × Int32 × Int32 × MM → Prop} {μ : MM}   (hK15 : ∀ (z1 : Int32) (z2 : Int32) (z3 : Int32) (zμ : MM), K15 (z1, z2, z3, zμ) → WX p l e (rmX dR) s m args below meth c φ tc D (AX φ) 5 0 0 (MQ below (QX φ tc D (QI Q)) args s 0 0 (AX φ)) 15 [(0, .ref 358), (1, .int z1), (2, .int z2), (3, .int z3)] [] zμ) (h : G12_says_J52 p3 p4 μ K15 Q) : WX p l e (rmX dR) s m args below meth c φ tc D (AX φ) 5 0 0 (MQ below (QX φ tc D (QI Q)) args s 0 0 (AX φ)) 52 [(0, .ref 358), (3, .int p3), (4, .int p4)] [] μ := by
  unfold G12_says_J52 at h
  refine x_iload_n C rfl 1 rfl dX12_says_52 ?_
  refine x_istore_n C [(1, .int p3), (0, .ref 358), (3, .int p3), (4, .int p4)] rfl (Nat.le_of_ble_eq_true rfl) rfl dX12_says_53 ?_
  refine x_iload C 3 rfl dX12_says_54 ?_
  refine x_istore_n C [(2, .int p4), (1, .int p3), (0, .ref 358), (3, .int p3), (4, .int p4)] rfl (Nat.le_of_ble_eq_true rfl) rfl dX12_says_56 ?_
  refine x_iinc (v := (p3 + 1)) C [(3, .int (p3 + 1)), (2, .int p4), (1, .int p3), (0, .ref 358), (4, .int p4)] 3 rfl (congrArg (fun z => p3 + z) (by decide : Int32.ofInt (1) = 1)) (Nat.le_of_ble_eq_true rfl) rfl dX12_says_57 ?_
  refine x_goto (tgt := 15) C dX12_says_60 (by decide) ?_
  refine x_sub [(0, .ref 358), (1, .int p3), (2, .int p4), (3, .int (p3 + 1))] [3, 2, 1, 0] rfl ?_
  exact hK15 _ _ _ _ h
set_option maxHeartbeats 4000000 in
set_option maxRecDepth 100000 in
theorem G12_says_L15_b {p : Program} {e : Env} {s : State} {m : MethodId} {args : Array Value} {below : List Frame} {meth : Method} {c : Code} {l : Launch} {φ : Nat → Nat} {tc : Nat → ClassId} {D : va_G} {s0 : State} {dR : Nat} (C : CX p s m args meth c φ tc D (AX φ) s0 cX12_says RX12 5) (hd : G12_says_dep ≤ dR) (hr : meth.sig.returnType = (some .int))   {Q : Int32 → MM → Prop} {K15 : Int32 × Int32 × Int32 × MM → Prop} {x : Int32 × Int32 × Int32 × MM}   (hK15 : ∀ (z1 : Int32) (z2 : Int32) (z3 : Int32) (zμ : MM), K15 (z1, z2, z3, zμ) → WX p l e (rmX dR) s m args below meth c φ tc D (AX φ) 5 0 0 (MQ below (QX φ tc D (QI Q)) args s 0 0 (AX φ)) 15 [(0, .ref 358), (1, .int z1), (2, .int z2), (3, .int z3)] [] zμ) (h : G12_says_L15  Q K15 x) : WX p l e (rmX dR) s m args below meth c φ tc D (AX φ) 5 0 0 (MQ below (QX φ tc D (QI Q)) args s 0 0 (AX φ)) 15 [(0, .ref 358), (1, .int x.1), (2, .int x.2.1), (3, .int x.2.2.1)] [] x.2.2.2 := by
  unfold G12_says_L15 at h
  refine x_iload_n C rfl 3 rfl dX12_says_15 ?_
  refine x_iconst (v := 4) C (by decide) dX12_says_16 ?_
  refine x_icmp_ge (tgt := 63) C dX12_says_17 (by decide) (fun c9 => ?_) (fun c9 => ?_)
  · have h := h.1 c9
    refine x_aload_n C rfl 0 rfl dX12_says_63 ?_
    refine x_iconst (v := 0) C (by decide) dX12_says_64 ?_
    refine x_putI C (j := 1) ob358.1 ob358.2 (Nat.le_of_ble_eq_true rfl) (Nat.le_of_ble_eq_true rfl) (Or.inl rfl) rfl rfl rfl tw_8_207 dX12_says_65 ?_
    refine x_mu (fun μ10 e_μ10 => ?_)
    have h := h μ10 e_μ10
    refine x_aload_n C rfl 0 rfl dX12_says_68 ?_
    refine x_iload_n C rfl 2 rfl dX12_says_69 ?_
    refine x_i2l C dX12_says_70 ?_
    refine x_callV (dC := G12_enters_dep) (as := [.long (x.2.1.toInt64)]) (st := []) C rX kX (Nat.le_trans (Nat.le_of_ble_eq_true rfl) hd) (Nat.le_of_ble_eq_true rfl) ob358.1 ob358.2 (Nat.le_of_ble_eq_true rfl) rfl ts_10_1 tw_7_161 tw_7_159 tc_7_162 tw_1_13 hyX12 hnX12_enters rfl (Nat.le_of_ble_eq_true rfl) dX12_says_71 (G12_enters_met C.2.2.2.2.2.2.2.1 (Nat.le_refl _)  h) (fun r0 μ11 hq => ?_)
    obtain ⟨rfl, h⟩ := hq
    refine x_st [] rfl ?_
    refine x_iload_n C rfl 1 rfl dX12_says_74 ?_
    exact x_iret C hr dX12_says_75 ⟨_, rfl, h⟩
  · have h := h.2 c9
    refine x_aload_n C rfl 0 rfl dX12_says_20 ?_
    refine x_iload_n C rfl 3 rfl dX12_says_21 ?_
    refine x_callV (dC := G12_pairsOf_dep) (as := [.int x.2.2.1]) (st := []) C rX kX (Nat.le_trans (Nat.le_of_ble_eq_true rfl) hd) (Nat.le_of_ble_eq_true rfl) ob358.1 ob358.2 (Nat.le_of_ble_eq_true rfl) rfl ts_10_5 tw_7_211 tw_7_209 tc_7_212 tw_1_13 hyX12 hnX12_pairsOf rfl (Nat.le_of_ble_eq_true rfl) dX12_says_22 (G12_pairsOf_met C.2.2.2.2.2.2.2.1 (Nat.le_refl _)  h) (fun r0 μ12 hq => ?_)
    obtain ⟨rfl, h⟩ := hq
    refine x_st [] rfl ?_
    refine x_aload_n C rfl 0 rfl dX12_says_25 ?_
    refine x_getI C (j := 42) ob358.1 ob358.2 (Nat.le_of_ble_eq_true rfl) (Nat.le_of_ble_eq_true rfl) (Or.inl rfl) tw_9_8 dX12_says_26 ?_
    refine x_aload_n C rfl 0 rfl dX12_says_29 ?_
    refine x_getI C (j := 43) ob358.1 ob358.2 (Nat.le_of_ble_eq_true rfl) (Nat.le_of_ble_eq_true rfl) (Or.inl rfl) tw_9_9 dX12_says_30 ?_
    refine x_isub C dX12_says_33 ?_
    refine x_topi (fun y13 e_y13 => ?_)
    have h := h y13 e_y13
    refine x_istore C [(4, .int y13), (0, .ref 358), (1, .int x.1), (2, .int x.2.1), (3, .int x.2.2.1)] (Nat.le_of_ble_eq_true rfl) rfl dX12_says_34 ?_
    refine x_iload_n C rfl 4 rfl dX12_says_36 ?_
    refine x_if_eq (tgt := 52) C dX12_says_37 (by decide) (fun c14 => ?_) (fun c14 => ?_)
    · have h := h.1 c14
      refine x_sub [(0, .ref 358), (3, .int x.2.2.1), (4, .int y13)] [1, 4, 0] rfl ?_
      exact G12_says_J52_ok C hd hr hK15 h
    · have h := h.2 c14
      refine x_iload C 0 rfl dX12_says_40 ?_
      refine x_mabs C rX kX (Nat.le_trans (Nat.le_of_ble_eq_true rfl) hd) tw_7_229 tw_4_189 tw_1_20 (Nat.le_of_ble_eq_true rfl) dX12_says_42 ?_
      refine x_iload_n C rfl 3 rfl dX12_says_45 ?_
      refine x_mabs C rX kX (Nat.le_trans (Nat.le_of_ble_eq_true rfl) hd) tw_7_229 tw_4_189 tw_1_20 (Nat.le_of_ble_eq_true rfl) dX12_says_46 ?_
      refine x_icmp_le (tgt := 57) C dX12_says_49 (by decide) (fun c15 => ?_) (fun c15 => ?_)
      · have h := h.1 c15
        refine x_iinc (v := (x.2.2.1 + 1)) C [(3, .int (x.2.2.1 + 1)), (4, .int y13), (0, .ref 358), (1, .int x.1), (2, .int x.2.1)] 4 rfl (congrArg (fun z => x.2.2.1 + z) (by decide : Int32.ofInt (1) = 1)) (Nat.le_of_ble_eq_true rfl) rfl dX12_says_57 ?_
        refine x_goto (tgt := 15) C dX12_says_60 (by decide) ?_
        refine x_sub [(0, .ref 358), (1, .int x.1), (2, .int x.2.1), (3, .int (x.2.2.1 + 1))] [2, 3, 4, 0] rfl ?_
        exact hK15 _ _ _ _ h
      · have h := h.2 c15
        refine x_sub [(0, .ref 358), (3, .int x.2.2.1), (4, .int y13)] [1, 4, 0] rfl ?_
        exact G12_says_J52_ok C hd hr hK15 h
theorem G12_says_L15_ok {p : Program} {e : Env} {s : State} {m : MethodId} {args : Array Value} {below : List Frame} {meth : Method} {c : Code} {l : Launch} {φ : Nat → Nat} {tc : Nat → ClassId} {D : va_G} {s0 : State} {dR : Nat} (C : CX p s m args meth c φ tc D (AX φ) s0 cX12_says RX12 5) (hd : G12_says_dep ≤ dR) (hr : meth.sig.returnType = (some .int))   {Q : Int32 → MM → Prop}  {x : Int32 × Int32 × Int32 × MM}    (h : Lp (G12_says_L15  Q) x) : WX p l e (rmX dR) s m args below meth c φ tc D (AX φ) 5 0 0 (MQ below (QX φ tc D (QI Q)) args s 0 0 (AX φ)) 15 [(0, .ref 358), (1, .int x.1), (2, .int x.2.1), (3, .int x.2.2.1)] [] x.2.2.2 := by
  obtain ⟨n, h⟩ := h
  induction n generalizing x with
  | zero => exact h.elim
  | succ n ih => exact G12_says_L15_b C hd hr   (fun z1 z2 z3 zμ hz => by have q := ih hz; exact q) h
set_option maxHeartbeats 4000000 in
set_option maxRecDepth 100000 in
theorem G12_says_met {l : Launch} {φ : Nat → Nat} {tc : Nat → ClassId} {D : va_G} {s0 : State} (hG : GX φ tc D s0) {dR : Nat} (hd : G12_says_dep ≤ dR)  {μ : MM} {Q : Int32 → MM → Prop}  (h : G12_says  μ Q) : MX l φ tc D s0 dR yX12_says cX12_says 5 (some .int) [.ref 358] μ (QI Q) := by
  refine MX.of (own := RX12) hG plX12 rfl (Nat.le_of_ble_eq_true rfl) (fun p e s m args below meth c C hr => ?_)
  refine x_sub [(0, .ref 358)] [0] rfl ?_
  unfold G12_says at h
  refine x_aload_n C rfl 0 rfl dX12_says_0 ?_
  refine x_iconst (v := 0) C (by decide) dX12_says_1 ?_
  refine x_putI C (j := 0) ob358.1 ob358.2 (Nat.le_of_ble_eq_true rfl) (Nat.le_of_ble_eq_true rfl) (Or.inl rfl) rfl rfl rfl tw_8_206 dX12_says_2 ?_
  refine x_mu (fun μ7 e_μ7 => ?_)
  have h := h μ7 e_μ7
  refine x_aload_n C rfl 0 rfl dX12_says_5 ?_
  refine x_callV (dC := G12_countsNames_dep) (as := []) (st := []) C rX kX (Nat.le_trans (Nat.le_of_ble_eq_true rfl) hd) (Nat.le_of_ble_eq_true rfl) ob358.1 ob358.2 (Nat.le_of_ble_eq_true rfl) rfl ts_10_4 tw_7_195 tw_7_193 tc_7_196 tw_1_13 hyX12 hnX12_countsNames rfl (Nat.le_of_ble_eq_true rfl) dX12_says_6 (G12_countsNames_met C.2.2.2.2.2.2.2.1 (Nat.le_refl _)  h) (fun r0 μ8 hq => ?_)
  obtain ⟨rfl, h⟩ := hq
  refine x_st [] rfl ?_
  refine x_iconst (v := 0) C (by decide) dX12_says_9 ?_
  refine x_istore_n C [(1, .int 0), (0, .ref 358)] rfl (Nat.le_of_ble_eq_true rfl) rfl dX12_says_10 ?_
  refine x_iconst (v := 0) C (by decide) dX12_says_11 ?_
  refine x_istore_n C [(2, .int 0), (1, .int 0), (0, .ref 358)] rfl (Nat.le_of_ble_eq_true rfl) rfl dX12_says_12 ?_
  refine x_iconst (v := 0) C (by decide) dX12_says_13 ?_
  refine x_istore_n C [(3, .int 0), (2, .int 0), (1, .int 0), (0, .ref 358)] rfl (Nat.le_of_ble_eq_true rfl) rfl dX12_says_14 ?_
  refine x_sub [(0, .ref 358), (1, .int 0), (2, .int 0), (3, .int 0)] [3, 2, 1, 0] rfl ?_
  exact G12_says_L15_ok C hd hr  h
set_option maxHeartbeats 4000000 in
set_option maxRecDepth 100000 in
theorem G12_child_J182_ok {p : Program} {e : Env} {s : State} {m : MethodId} {args : Array Value} {below : List Frame} {meth : Method} {c : Code} {l : Launch} {φ : Nat → Nat} {tc : Nat → ClassId} {D : va_G} {s0 : State} {dR : Nat} (C : CX p s m args meth c φ tc D (AX φ) s0 cX12_child RX12 8) (hd : G12_child_dep ≤ dR) (hr : meth.sig.returnType = (some .int))   {p1 : Int32} {p2 : Int32} {p3 : Int32} {p5 : Int32} {p6 : Int32} {q0 : Int32} {q1 : Int32} {Q : Int32 → MM → Prop} {K33 : Int32 × Int32 × Int32 × Int32 × MM → Prop} {K45 : Int32 × Int32 × Int32 × Int32 × MM → Prop} {μ : MM}   (hK33 : ∀ (z2 : Int32) (z3 : Int32) (z4 : Int32) (z5 : Int32) (zμ : MM), K33 (z2, z3, z4, z5, zμ) → WX p l e (rmX dR) s m args below meth c φ tc D (AX φ) 8 0 0 (MQ below (QX φ tc D (QI Q)) args s 0 0 (AX φ)) 33 [(0, .ref 358), (1, .int p1), (2, .int z2), (3, .int z3), (4, .int z4), (5, .int z5)] [] zμ) (hK45 : ∀ (z2 : Int32) (z3 : Int32) (z4 : Int32) (z6 : Int32) (zμ : MM), K45 (z2, z3, z4, z6, zμ) → WX p l e (rmX dR) s m args below meth c φ tc D (AX φ) 8 0 0 (MQ below (QX φ tc D (QI Q)) args s 0 0 (AX φ)) 45 [(0, .ref 358), (1, .int p1), (2, .int z2), (3, .int z3), (4, .int z4), (5, .int p5), (6, .int z6)] [] zμ) (h : G12_child_J182 p1 p2 p3 p5 p6 q0 q1 μ K33 K45 Q) : WX p l e (rmX dR) s m args below meth c φ tc D (AX φ) 8 0 0 (MQ below (QX φ tc D (QI Q)) args s 0 0 (AX φ)) 182 [(0, .ref 358), (1, .int p1), (2, .int p2), (3, .int p3), (5, .int p5), (6, .int p6)] [.int q0, .int q1] μ := by
  unfold G12_child_J182 at h
  refine x_callS (dC := G12_flag_dep) (as := [.int q0]) (st := [.int q1]) C rX kX (Nat.le_trans (Nat.le_of_ble_eq_true rfl) hd) (Nat.le_of_ble_eq_true rfl) tw_6_212 tw_6_211 tc_6_213 tw_1_13 hyX12 hnX12_flag rfl (Nat.le_of_ble_eq_true rfl) dX12_child_182 (G12_flag_met C.2.2.2.2.2.2.2.1 (Nat.le_refl _)  h) (fun r0 μ53 hq => ?_)
  obtain ⟨r54, rfl, h⟩ := hq
  refine x_st [.int r54, .int q1] rfl ?_
  refine x_iadd C dX12_child_185 ?_
  refine x_topi (fun y55 e_y55 => ?_)
  have h := h y55 e_y55
  refine x_istore C [(4, .int y55), (0, .ref 358), (1, .int p1), (2, .int p2), (3, .int p3), (5, .int p5), (6, .int p6)] (Nat.le_of_ble_eq_true rfl) rfl dX12_child_186 ?_
  refine x_iinc (v := (p6 + 1)) C [(6, .int (p6 + 1)), (4, .int y55), (0, .ref 358), (1, .int p1), (2, .int p2), (3, .int p3), (5, .int p5)] 6 rfl (congrArg (fun z => p6 + z) (by decide : Int32.ofInt (1) = 1)) (Nat.le_of_ble_eq_true rfl) rfl dX12_child_188 ?_
  refine x_goto (tgt := 45) C dX12_child_191 (by decide) ?_
  refine x_sub [(0, .ref 358), (1, .int p1), (2, .int p2), (3, .int p3), (4, .int y55), (5, .int p5), (6, .int (p6 + 1))] [2, 3, 4, 5, 1, 6, 0] rfl ?_
  exact hK45 _ _ _ _ _ h
set_option maxHeartbeats 4000000 in
set_option maxRecDepth 100000 in
theorem G12_child_J159_ok {p : Program} {e : Env} {s : State} {m : MethodId} {args : Array Value} {below : List Frame} {meth : Method} {c : Code} {l : Launch} {φ : Nat → Nat} {tc : Nat → ClassId} {D : va_G} {s0 : State} {dR : Nat} (C : CX p s m args meth c φ tc D (AX φ) s0 cX12_child RX12 8) (hd : G12_child_dep ≤ dR) (hr : meth.sig.returnType = (some .int))   {p1 : Int32} {p2 : Int32} {p4 : Int32} {p5 : Int32} {p6 : Int32} {q0 : Int32} {q1 : Int32} {Q : Int32 → MM → Prop} {K33 : Int32 × Int32 × Int32 × Int32 × MM → Prop} {K45 : Int32 × Int32 × Int32 × Int32 × MM → Prop} {μ : MM}   (hK33 : ∀ (z2 : Int32) (z3 : Int32) (z4 : Int32) (z5 : Int32) (zμ : MM), K33 (z2, z3, z4, z5, zμ) → WX p l e (rmX dR) s m args below meth c φ tc D (AX φ) 8 0 0 (MQ below (QX φ tc D (QI Q)) args s 0 0 (AX φ)) 33 [(0, .ref 358), (1, .int p1), (2, .int z2), (3, .int z3), (4, .int z4), (5, .int z5)] [] zμ) (hK45 : ∀ (z2 : Int32) (z3 : Int32) (z4 : Int32) (z6 : Int32) (zμ : MM), K45 (z2, z3, z4, z6, zμ) → WX p l e (rmX dR) s m args below meth c φ tc D (AX φ) 8 0 0 (MQ below (QX φ tc D (QI Q)) args s 0 0 (AX φ)) 45 [(0, .ref 358), (1, .int p1), (2, .int z2), (3, .int z3), (4, .int z4), (5, .int p5), (6, .int z6)] [] zμ) (h : G12_child_J159 p1 p2 p4 p5 p6 q0 q1 μ K33 K45 Q) : WX p l e (rmX dR) s m args below meth c φ tc D (AX φ) 8 0 0 (MQ below (QX φ tc D (QI Q)) args s 0 0 (AX φ)) 159 [(0, .ref 358), (1, .int p1), (2, .int p2), (4, .int p4), (5, .int p5), (6, .int p6)] [.int q0, .int q1] μ := by
  unfold G12_child_J159 at h
  refine x_callS (dC := G12_flag_dep) (as := [.int q0]) (st := [.int q1]) C rX kX (Nat.le_trans (Nat.le_of_ble_eq_true rfl) hd) (Nat.le_of_ble_eq_true rfl) tw_6_212 tw_6_211 tc_6_213 tw_1_13 hyX12 hnX12_flag rfl (Nat.le_of_ble_eq_true rfl) dX12_child_159 (G12_flag_met C.2.2.2.2.2.2.2.1 (Nat.le_refl _)  h) (fun r0 μ47 hq => ?_)
  obtain ⟨r48, rfl, h⟩ := hq
  refine x_st [.int r48, .int q1] rfl ?_
  refine x_iadd C dX12_child_162 ?_
  refine x_topi (fun y49 e_y49 => ?_)
  have h := h y49 e_y49
  refine x_istore_n C [(3, .int y49), (0, .ref 358), (1, .int p1), (2, .int p2), (4, .int p4), (5, .int p5), (6, .int p6)] rfl (Nat.le_of_ble_eq_true rfl) rfl dX12_child_163 ?_
  refine x_iload C 4 rfl dX12_child_164 ?_
  refine x_aload_n C rfl 1 rfl dX12_child_166 ?_
  refine x_iload C 5 rfl dX12_child_167 ?_
  refine x_iload C 6 rfl dX12_child_169 ?_
  refine x_callV (dC := G12_compares_dep) (as := [.int p5, .int p6]) (st := [.int p4]) C rX kX (Nat.le_trans (Nat.le_of_ble_eq_true rfl) hd) (Nat.le_of_ble_eq_true rfl) ob358.1 ob358.2 (Nat.le_of_ble_eq_true rfl) rfl ts_10_7 tw_7_222 tw_7_220 tc_7_223 tw_1_13 hyX12 hnX12_compares rfl (Nat.le_of_ble_eq_true rfl) dX12_child_171 (G12_compares_met C.2.2.2.2.2.2.2.1 (Nat.le_refl _)  h) (fun r0 μ50 hq => ?_)
  obtain ⟨r51, rfl, h⟩ := hq
  refine x_st [.int r51, .int p4] rfl ?_
  refine x_if_ge (tgt := 181) C dX12_child_174 (by decide) (fun c52 => ?_) (fun c52 => ?_)
  · have h := h.1 c52
    refine x_iconst (v := 0) C (by decide) dX12_child_181 ?_
    refine x_sub [(0, .ref 358), (1, .int p1), (2, .int p2), (3, .int y49), (5, .int p5), (6, .int p6)] [1, 2, 3, 0, 5, 6] rfl ?_
    exact G12_child_J182_ok C hd hr hK33 hK45 h
  · have h := h.2 c52
    refine x_iconst (v := 1) C (by decide) dX12_child_177 ?_
    refine x_goto (tgt := 182) C dX12_child_178 (by decide) ?_
    refine x_sub [(0, .ref 358), (1, .int p1), (2, .int p2), (3, .int y49), (5, .int p5), (6, .int p6)] [1, 2, 3, 0, 5, 6] rfl ?_
    exact G12_child_J182_ok C hd hr hK33 hK45 h
set_option maxHeartbeats 4000000 in
set_option maxRecDepth 100000 in
theorem G12_child_J112_ok {p : Program} {e : Env} {s : State} {m : MethodId} {args : Array Value} {below : List Frame} {meth : Method} {c : Code} {l : Launch} {φ : Nat → Nat} {tc : Nat → ClassId} {D : va_G} {s0 : State} {dR : Nat} (C : CX p s m args meth c φ tc D (AX φ) s0 cX12_child RX12 8) (hd : G12_child_dep ≤ dR) (hr : meth.sig.returnType = (some .int))   {p1 : Int32} {p2 : Int32} {p3 : Int32} {p4 : Int32} {p5 : Int32} {p6 : Int32} {q0 : Int32} {Q : Int32 → MM → Prop} {K33 : Int32 × Int32 × Int32 × Int32 × MM → Prop} {K45 : Int32 × Int32 × Int32 × Int32 × MM → Prop} {μ : MM}   (hK33 : ∀ (z2 : Int32) (z3 : Int32) (z4 : Int32) (z5 : Int32) (zμ : MM), K33 (z2, z3, z4, z5, zμ) → WX p l e (rmX dR) s m args below meth c φ tc D (AX φ) 8 0 0 (MQ below (QX φ tc D (QI Q)) args s 0 0 (AX φ)) 33 [(0, .ref 358), (1, .int p1), (2, .int z2), (3, .int z3), (4, .int z4), (5, .int z5)] [] zμ) (hK45 : ∀ (z2 : Int32) (z3 : Int32) (z4 : Int32) (z6 : Int32) (zμ : MM), K45 (z2, z3, z4, z6, zμ) → WX p l e (rmX dR) s m args below meth c φ tc D (AX φ) 8 0 0 (MQ below (QX φ tc D (QI Q)) args s 0 0 (AX φ)) 45 [(0, .ref 358), (1, .int p1), (2, .int z2), (3, .int z3), (4, .int z4), (5, .int p5), (6, .int z6)] [] zμ) (h : G12_child_J112 p1 p2 p3 p4 p5 p6 q0 μ K33 K45 Q) : WX p l e (rmX dR) s m args below meth c φ tc D (AX φ) 8 0 0 (MQ below (QX φ tc D (QI Q)) args s 0 0 (AX φ)) 112 [(0, .ref 358), (1, .int p1), (2, .int p2), (3, .int p3), (4, .int p4), (5, .int p5), (6, .int p6)] [.int q0] μ := by
  unfold G12_child_J112 at h
  refine x_istore C [(7, .int q0), (0, .ref 358), (1, .int p1), (2, .int p2), (3, .int p3), (4, .int p4), (5, .int p5), (6, .int p6)] (Nat.le_of_ble_eq_true rfl) rfl dX12_child_112 ?_
  refine x_iload C 0 rfl dX12_child_114 ?_
  refine x_if_eq (tgt := 188) C dX12_child_116 (by decide) (fun c39 => ?_) (fun c39 => ?_)
  · have h := h.1 c39
    refine x_iinc (v := (p6 + 1)) C [(6, .int (p6 + 1)), (7, .int q0), (0, .ref 358), (1, .int p1), (2, .int p2), (3, .int p3), (4, .int p4), (5, .int p5)] 7 rfl (congrArg (fun z => p6 + z) (by decide : Int32.ofInt (1) = 1)) (Nat.le_of_ble_eq_true rfl) rfl dX12_child_188 ?_
    refine x_goto (tgt := 45) C dX12_child_191 (by decide) ?_
    refine x_sub [(0, .ref 358), (1, .int p1), (2, .int p2), (3, .int p3), (4, .int p4), (5, .int p5), (6, .int (p6 + 1))] [2, 3, 4, 5, 6, 7, 0] rfl ?_
    exact hK45 _ _ _ _ _ h
  · have h := h.2 c39
    refine x_aload_n C rfl 1 rfl dX12_child_119 ?_
    refine x_getR (r := 385) C (j := 40) ob358.1 ob358.2 (Nat.le_of_ble_eq_true rfl) (Nat.le_of_ble_eq_true rfl) (fun _ _ _ => rfl) r_358_40 tw_9_6 dX12_child_120 ?_
    refine x_iload C 6 rfl dX12_child_123 ?_
    obtain ⟨c40, h⟩ := h
    refine x_iald C ob385.1 ob385.2 c40 rfl dX12_child_125 ?_
    refine x_if_le (tgt := 188) C dX12_child_126 (by decide) (fun c41 => ?_) (fun c41 => ?_)
    · have h := h.1 c41
      refine x_iinc (v := (p6 + 1)) C [(6, .int (p6 + 1)), (7, .int q0), (0, .ref 358), (1, .int p1), (2, .int p2), (3, .int p3), (4, .int p4), (5, .int p5)] 7 rfl (congrArg (fun z => p6 + z) (by decide : Int32.ofInt (1) = 1)) (Nat.le_of_ble_eq_true rfl) rfl dX12_child_188 ?_
      refine x_goto (tgt := 45) C dX12_child_191 (by decide) ?_
      refine x_sub [(0, .ref 358), (1, .int p1), (2, .int p2), (3, .int p3), (4, .int p4), (5, .int p5), (6, .int (p6 + 1))] [2, 3, 4, 5, 6, 7, 0] rfl ?_
      exact hK45 _ _ _ _ _ h
    · have h := h.2 c41
      refine x_aload_n C rfl 1 rfl dX12_child_129 ?_
      refine x_getR (r := 385) C (j := 40) ob358.1 ob358.2 (Nat.le_of_ble_eq_true rfl) (Nat.le_of_ble_eq_true rfl) (fun _ _ _ => rfl) r_358_40 tw_9_6 dX12_child_130 ?_
      refine x_iload C 7 rfl dX12_child_133 ?_
      obtain ⟨c42, h⟩ := h
      refine x_iald C ob385.1 ob385.2 c42 rfl dX12_child_135 ?_
      refine x_if_le (tgt := 188) C dX12_child_136 (by decide) (fun c43 => ?_) (fun c43 => ?_)
      · have h := h.1 c43
        refine x_iinc (v := (p6 + 1)) C [(6, .int (p6 + 1)), (7, .int q0), (0, .ref 358), (1, .int p1), (2, .int p2), (3, .int p3), (4, .int p4), (5, .int p5)] 7 rfl (congrArg (fun z => p6 + z) (by decide : Int32.ofInt (1) = 1)) (Nat.le_of_ble_eq_true rfl) rfl dX12_child_188 ?_
        refine x_goto (tgt := 45) C dX12_child_191 (by decide) ?_
        refine x_sub [(0, .ref 358), (1, .int p1), (2, .int p2), (3, .int p3), (4, .int p4), (5, .int p5), (6, .int (p6 + 1))] [2, 3, 4, 5, 6, 7, 0] rfl ?_
        exact hK45 _ _ _ _ _ h
      · have h := h.2 c43
        refine x_iinc (v := (p2 + 1)) C [(2, .int (p2 + 1)), (7, .int q0), (0, .ref 358), (1, .int p1), (3, .int p3), (4, .int p4), (5, .int p5), (6, .int p6)] 3 rfl (congrArg (fun z => p2 + z) (by decide : Int32.ofInt (1) = 1)) (Nat.le_of_ble_eq_true rfl) rfl dX12_child_139 ?_
        refine x_iload_n C rfl 4 rfl dX12_child_142 ?_
        refine x_aload_n C rfl 2 rfl dX12_child_143 ?_
        refine x_iload C 6 rfl dX12_child_144 ?_
        refine x_iload C 7 rfl dX12_child_146 ?_
        refine x_callV (dC := G12_compares_dep) (as := [.int p5, .int p6]) (st := [.int p3]) C rX kX (Nat.le_trans (Nat.le_of_ble_eq_true rfl) hd) (Nat.le_of_ble_eq_true rfl) ob358.1 ob358.2 (Nat.le_of_ble_eq_true rfl) rfl ts_10_7 tw_7_222 tw_7_220 tc_7_223 tw_1_13 hyX12 hnX12_compares rfl (Nat.le_of_ble_eq_true rfl) dX12_child_148 (G12_compares_met C.2.2.2.2.2.2.2.1 (Nat.le_refl _)  h) (fun r0 μ44 hq => ?_)
        obtain ⟨r45, rfl, h⟩ := hq
        refine x_st [.int r45, .int p3] rfl ?_
        refine x_if_le (tgt := 158) C dX12_child_151 (by decide) (fun c46 => ?_) (fun c46 => ?_)
        · have h := h.1 c46
          refine x_iconst (v := 0) C (by decide) dX12_child_158 ?_
          refine x_sub [(0, .ref 358), (1, .int p1), (2, .int (p2 + 1)), (4, .int p4), (5, .int p5), (6, .int p6)] [2, 3, 0, 5, 6, 7] rfl ?_
          exact G12_child_J159_ok C hd hr hK33 hK45 h
        · have h := h.2 c46
          refine x_iconst (v := 1) C (by decide) dX12_child_154 ?_
          refine x_goto (tgt := 159) C dX12_child_155 (by decide) ?_
          refine x_sub [(0, .ref 358), (1, .int p1), (2, .int (p2 + 1)), (4, .int p4), (5, .int p5), (6, .int p6)] [2, 3, 0, 5, 6, 7] rfl ?_
          exact G12_child_J159_ok C hd hr hK33 hK45 h
set_option maxHeartbeats 4000000 in
set_option maxRecDepth 100000 in
theorem G12_child_J111_ok {p : Program} {e : Env} {s : State} {m : MethodId} {args : Array Value} {below : List Frame} {meth : Method} {c : Code} {l : Launch} {φ : Nat → Nat} {tc : Nat → ClassId} {D : va_G} {s0 : State} {dR : Nat} (C : CX p s m args meth c φ tc D (AX φ) s0 cX12_child RX12 8) (hd : G12_child_dep ≤ dR) (hr : meth.sig.returnType = (some .int))   {p1 : Int32} {p2 : Int32} {p3 : Int32} {p4 : Int32} {p5 : Int32} {p6 : Int32} {Q : Int32 → MM → Prop} {K33 : Int32 × Int32 × Int32 × Int32 × MM → Prop} {K45 : Int32 × Int32 × Int32 × Int32 × MM → Prop} {μ : MM}   (hK33 : ∀ (z2 : Int32) (z3 : Int32) (z4 : Int32) (z5 : Int32) (zμ : MM), K33 (z2, z3, z4, z5, zμ) → WX p l e (rmX dR) s m args below meth c φ tc D (AX φ) 8 0 0 (MQ below (QX φ tc D (QI Q)) args s 0 0 (AX φ)) 33 [(0, .ref 358), (1, .int p1), (2, .int z2), (3, .int z3), (4, .int z4), (5, .int z5)] [] zμ) (hK45 : ∀ (z2 : Int32) (z3 : Int32) (z4 : Int32) (z6 : Int32) (zμ : MM), K45 (z2, z3, z4, z6, zμ) → WX p l e (rmX dR) s m args below meth c φ tc D (AX φ) 8 0 0 (MQ below (QX φ tc D (QI Q)) args s 0 0 (AX φ)) 45 [(0, .ref 358), (1, .int p1), (2, .int z2), (3, .int z3), (4, .int z4), (5, .int p5), (6, .int z6)] [] zμ) (h : G12_child_J111 p1 p2 p3 p4 p5 p6 μ K33 K45 Q) : WX p l e (rmX dR) s m args below meth c φ tc D (AX φ) 8 0 0 (MQ below (QX φ tc D (QI Q)) args s 0 0 (AX φ)) 111 [(0, .ref 358), (1, .int p1), (2, .int p2), (3, .int p3), (4, .int p4), (5, .int p5), (6, .int p6)] [] μ := by
  unfold G12_child_J111 at h
  refine x_iconst (v := 0) C (by decide) dX12_child_111 ?_
  exact G12_child_J112_ok C hd hr hK33 hK45 h
set_option maxHeartbeats 4000000 in
set_option maxRecDepth 100000 in
theorem G12_child_L45_b {p : Program} {e : Env} {s : State} {m : MethodId} {args : Array Value} {below : List Frame} {meth : Method} {c : Code} {l : Launch} {φ : Nat → Nat} {tc : Nat → ClassId} {D : va_G} {s0 : State} {dR : Nat} (C : CX p s m args meth c φ tc D (AX φ) s0 cX12_child RX12 8) (hd : G12_child_dep ≤ dR) (hr : meth.sig.returnType = (some .int))  {p1 : Int32} {p5 : Int32} {Q : Int32 → MM → Prop} {K33 : Int32 × Int32 × Int32 × Int32 × MM → Prop} {K45 : Int32 × Int32 × Int32 × Int32 × MM → Prop} {x : Int32 × Int32 × Int32 × Int32 × MM}   (hK33 : ∀ (z2 : Int32) (z3 : Int32) (z4 : Int32) (z5 : Int32) (zμ : MM), K33 (z2, z3, z4, z5, zμ) → WX p l e (rmX dR) s m args below meth c φ tc D (AX φ) 8 0 0 (MQ below (QX φ tc D (QI Q)) args s 0 0 (AX φ)) 33 [(0, .ref 358), (1, .int p1), (2, .int z2), (3, .int z3), (4, .int z4), (5, .int z5)] [] zμ) (hK45 : ∀ (z2 : Int32) (z3 : Int32) (z4 : Int32) (z6 : Int32) (zμ : MM), K45 (z2, z3, z4, z6, zμ) → WX p l e (rmX dR) s m args below meth c φ tc D (AX φ) 8 0 0 (MQ below (QX φ tc D (QI Q)) args s 0 0 (AX φ)) 45 [(0, .ref 358), (1, .int p1), (2, .int z2), (3, .int z3), (4, .int z4), (5, .int p5), (6, .int z6)] [] zμ) (h : G12_child_L45 p1 p5 K33 Q K45 x) : WX p l e (rmX dR) s m args below meth c φ tc D (AX φ) 8 0 0 (MQ below (QX φ tc D (QI Q)) args s 0 0 (AX φ)) 45 [(0, .ref 358), (1, .int p1), (2, .int x.1), (3, .int x.2.1), (4, .int x.2.2.1), (5, .int p5), (6, .int x.2.2.2.1)] [] x.2.2.2.2 := by
  unfold G12_child_L45 at h
  refine x_iload C 6 rfl dX12_child_45 ?_
  refine x_aload_n C rfl 0 rfl dX12_child_47 ?_
  refine x_getI C (j := 3) ob358.1 ob358.2 (Nat.le_of_ble_eq_true rfl) (Nat.le_of_ble_eq_true rfl) (Or.inl rfl) tw_8_209 dX12_child_48 ?_
  refine x_icmp_ge (tgt := 194) C dX12_child_51 (by decide) (fun c35 => ?_) (fun c35 => ?_)
  · have h := h.1 c35
    refine x_iinc (v := (p5 + 1)) C [(5, .int (p5 + 1)), (0, .ref 358), (1, .int p1), (2, .int x.1), (3, .int x.2.1), (4, .int x.2.2.1), (6, .int x.2.2.2.1)] 5 rfl (congrArg (fun z => p5 + z) (by decide : Int32.ofInt (1) = 1)) (Nat.le_of_ble_eq_true rfl) rfl dX12_child_194 ?_
    refine x_goto (tgt := 33) C dX12_child_197 (by decide) ?_
    refine x_sub [(0, .ref 358), (1, .int p1), (2, .int x.1), (3, .int x.2.1), (4, .int x.2.2.1), (5, .int (p5 + 1))] [1, 2, 3, 4, 5, 0] rfl ?_
    exact hK33 _ _ _ _ _ h
  · have h := h.2 c35
    refine x_aload_n C rfl 0 rfl dX12_child_54 ?_
    refine x_getR (r := 360) C (j := 4) ob358.1 ob358.2 (Nat.le_of_ble_eq_true rfl) (Nat.le_of_ble_eq_true rfl) (fun _ _ _ => rfl) r_358_4 tw_8_210 dX12_child_55 ?_
    refine x_iload C 5 rfl dX12_child_58 ?_
    obtain ⟨c36, h⟩ := h
    refine x_iald C ob360.1 ob360.2 c36 rfl dX12_child_60 ?_
    refine x_aload_n C rfl 0 rfl dX12_child_61 ?_
    refine x_getR (r := 360) C (j := 4) ob358.1 ob358.2 (Nat.le_of_ble_eq_true rfl) (Nat.le_of_ble_eq_true rfl) (fun _ _ _ => rfl) r_358_4 tw_8_210 dX12_child_62 ?_
    refine x_iload C 6 rfl dX12_child_65 ?_
    obtain ⟨c37, h⟩ := h
    refine x_iald C ob360.1 ob360.2 c37 rfl dX12_child_67 ?_
    refine x_icmp_ne (tgt := 111) C dX12_child_68 (by decide) (fun c38 => ?_) (fun c38 => ?_)
    · have h := h.1 c38
      exact G12_child_J111_ok C hd hr hK33 hK45 h
    · have h := h.2 c38
      refine x_aload_n C rfl 0 rfl dX12_child_71 ?_
      refine x_getR (r := 361) C (j := 5) ob358.1 ob358.2 (Nat.le_of_ble_eq_true rfl) (Nat.le_of_ble_eq_true rfl) (fun _ _ _ => rfl) r_358_5 tw_8_211 dX12_child_72 ?_
      refine x_iload C 5 rfl dX12_child_75 ?_
      obtain ⟨c56, h⟩ := h
      refine x_iald C ob361.1 ob361.2 c56 rfl dX12_child_77 ?_
      refine x_aload_n C rfl 0 rfl dX12_child_78 ?_
      refine x_getR (r := 361) C (j := 5) ob358.1 ob358.2 (Nat.le_of_ble_eq_true rfl) (Nat.le_of_ble_eq_true rfl) (fun _ _ _ => rfl) r_358_5 tw_8_211 dX12_child_79 ?_
      refine x_iload C 6 rfl dX12_child_82 ?_
      obtain ⟨c57, h⟩ := h
      refine x_iald C ob361.1 ob361.2 c57 rfl dX12_child_84 ?_
      refine x_icmp_ne (tgt := 111) C dX12_child_85 (by decide) (fun c58 => ?_) (fun c58 => ?_)
      · have h := h.1 c58
        exact G12_child_J111_ok C hd hr hK33 hK45 h
      · have h := h.2 c58
        refine x_aload_n C rfl 0 rfl dX12_child_88 ?_
        refine x_getR (r := 362) C (j := 6) ob358.1 ob358.2 (Nat.le_of_ble_eq_true rfl) (Nat.le_of_ble_eq_true rfl) (fun _ _ _ => rfl) r_358_6 tw_8_212 dX12_child_89 ?_
        refine x_iload C 5 rfl dX12_child_92 ?_
        obtain ⟨c59, h⟩ := h
        refine x_iald C ob362.1 ob362.2 c59 rfl dX12_child_94 ?_
        refine x_aload_n C rfl 0 rfl dX12_child_95 ?_
        refine x_getR (r := 362) C (j := 6) ob358.1 ob358.2 (Nat.le_of_ble_eq_true rfl) (Nat.le_of_ble_eq_true rfl) (fun _ _ _ => rfl) r_358_6 tw_8_212 dX12_child_96 ?_
        refine x_iload C 6 rfl dX12_child_99 ?_
        obtain ⟨c60, h⟩ := h
        refine x_iald C ob362.1 ob362.2 c60 rfl dX12_child_101 ?_
        refine x_isub C dX12_child_102 ?_
        refine x_iload_n C rfl 1 rfl dX12_child_103 ?_
        refine x_icmp_lt (tgt := 111) C dX12_child_104 (by decide) (fun c61 => ?_) (fun c61 => ?_)
        · have h := h.1 c61
          exact G12_child_J111_ok C hd hr hK33 hK45 h
        · have h := h.2 c61
          refine x_iconst (v := 1) C (by decide) dX12_child_107 ?_
          refine x_goto (tgt := 112) C dX12_child_108 (by decide) ?_
          exact G12_child_J112_ok C hd hr hK33 hK45 h
theorem G12_child_L45_ok {p : Program} {e : Env} {s : State} {m : MethodId} {args : Array Value} {below : List Frame} {meth : Method} {c : Code} {l : Launch} {φ : Nat → Nat} {tc : Nat → ClassId} {D : va_G} {s0 : State} {dR : Nat} (C : CX p s m args meth c φ tc D (AX φ) s0 cX12_child RX12 8) (hd : G12_child_dep ≤ dR) (hr : meth.sig.returnType = (some .int))  {p1 : Int32} {p5 : Int32} {Q : Int32 → MM → Prop} {K33 : Int32 × Int32 × Int32 × Int32 × MM → Prop} {x : Int32 × Int32 × Int32 × Int32 × MM}   (hK33 : ∀ (z2 : Int32) (z3 : Int32) (z4 : Int32) (z5 : Int32) (zμ : MM), K33 (z2, z3, z4, z5, zμ) → WX p l e (rmX dR) s m args below meth c φ tc D (AX φ) 8 0 0 (MQ below (QX φ tc D (QI Q)) args s 0 0 (AX φ)) 33 [(0, .ref 358), (1, .int p1), (2, .int z2), (3, .int z3), (4, .int z4), (5, .int z5)] [] zμ) (h : Lp (G12_child_L45 p1 p5 K33 Q) x) : WX p l e (rmX dR) s m args below meth c φ tc D (AX φ) 8 0 0 (MQ below (QX φ tc D (QI Q)) args s 0 0 (AX φ)) 45 [(0, .ref 358), (1, .int p1), (2, .int x.1), (3, .int x.2.1), (4, .int x.2.2.1), (5, .int p5), (6, .int x.2.2.2.1)] [] x.2.2.2.2 := by
  obtain ⟨n, h⟩ := h
  induction n generalizing x with
  | zero => exact h.elim
  | succ n ih => exact G12_child_L45_b C hd hr  hK33 (fun z2 z3 z4 z6 zμ hz => by have q := ih hz; exact q) h
set_option maxHeartbeats 4000000 in
set_option maxRecDepth 100000 in
theorem G12_child_L33_b {p : Program} {e : Env} {s : State} {m : MethodId} {args : Array Value} {below : List Frame} {meth : Method} {c : Code} {l : Launch} {φ : Nat → Nat} {tc : Nat → ClassId} {D : va_G} {s0 : State} {dR : Nat} (C : CX p s m args meth c φ tc D (AX φ) s0 cX12_child RX12 8) (hd : G12_child_dep ≤ dR) (hr : meth.sig.returnType = (some .int))  {p1 : Int32} {Q : Int32 → MM → Prop} {K33 : Int32 × Int32 × Int32 × Int32 × MM → Prop} {x : Int32 × Int32 × Int32 × Int32 × MM}   (hK33 : ∀ (z2 : Int32) (z3 : Int32) (z4 : Int32) (z5 : Int32) (zμ : MM), K33 (z2, z3, z4, z5, zμ) → WX p l e (rmX dR) s m args below meth c φ tc D (AX φ) 8 0 0 (MQ below (QX φ tc D (QI Q)) args s 0 0 (AX φ)) 33 [(0, .ref 358), (1, .int p1), (2, .int z2), (3, .int z3), (4, .int z4), (5, .int z5)] [] zμ) (h : G12_child_L33 p1 Q K33 x) : WX p l e (rmX dR) s m args below meth c φ tc D (AX φ) 8 0 0 (MQ below (QX φ tc D (QI Q)) args s 0 0 (AX φ)) 33 [(0, .ref 358), (1, .int p1), (2, .int x.1), (3, .int x.2.1), (4, .int x.2.2.1), (5, .int x.2.2.2.1)] [] x.2.2.2.2 := by
  unfold G12_child_L33 at h
  refine x_iload C 5 rfl dX12_child_33 ?_
  refine x_aload_n C rfl 0 rfl dX12_child_35 ?_
  refine x_getI C (j := 3) ob358.1 ob358.2 (Nat.le_of_ble_eq_true rfl) (Nat.le_of_ble_eq_true rfl) (Or.inl rfl) tw_8_209 dX12_child_36 ?_
  refine x_icmp_ge (tgt := 200) C dX12_child_39 (by decide) (fun c31 => ?_) (fun c31 => ?_)
  · have h := h.1 c31
    refine x_aload_n C rfl 0 rfl dX12_child_200 ?_
    refine x_iconst (v := 0) C (by decide) dX12_child_201 ?_
    refine x_putI C (j := 1) ob358.1 ob358.2 (Nat.le_of_ble_eq_true rfl) (Nat.le_of_ble_eq_true rfl) (Or.inl rfl) rfl rfl rfl tw_8_207 dX12_child_202 ?_
    refine x_mu (fun μ32 e_μ32 => ?_)
    have h := h μ32 e_μ32
    refine x_aload_n C rfl 0 rfl dX12_child_205 ?_
    refine x_iload_n C rfl 2 rfl dX12_child_206 ?_
    refine x_i2l C dX12_child_207 ?_
    refine x_callV (dC := G12_enters_dep) (as := [.long (x.1.toInt64)]) (st := []) C rX kX (Nat.le_trans (Nat.le_of_ble_eq_true rfl) hd) (Nat.le_of_ble_eq_true rfl) ob358.1 ob358.2 (Nat.le_of_ble_eq_true rfl) rfl ts_10_1 tw_7_161 tw_7_159 tc_7_162 tw_1_13 hyX12 hnX12_enters rfl (Nat.le_of_ble_eq_true rfl) dX12_child_208 (G12_enters_met C.2.2.2.2.2.2.2.1 (Nat.le_refl _)  h) (fun r0 μ33 hq => ?_)
    obtain ⟨rfl, h⟩ := hq
    refine x_st [] rfl ?_
    refine x_aload_n C rfl 0 rfl dX12_child_211 ?_
    refine x_iload C 4 rfl dX12_child_212 ?_
    refine x_i2l C dX12_child_214 ?_
    refine x_callV (dC := G12_enters_dep) (as := [.long (x.2.2.1.toInt64)]) (st := []) C rX kX (Nat.le_trans (Nat.le_of_ble_eq_true rfl) hd) (Nat.le_of_ble_eq_true rfl) ob358.1 ob358.2 (Nat.le_of_ble_eq_true rfl) rfl ts_10_1 tw_7_161 tw_7_159 tc_7_162 tw_1_13 hyX12 hnX12_enters rfl (Nat.le_of_ble_eq_true rfl) dX12_child_215 (G12_enters_met C.2.2.2.2.2.2.2.1 (Nat.le_refl _)  h) (fun r0 μ34 hq => ?_)
    obtain ⟨rfl, h⟩ := hq
    refine x_st [] rfl ?_
    refine x_iload_n C rfl 3 rfl dX12_child_218 ?_
    exact x_iret C hr dX12_child_219 ⟨_, rfl, h⟩
  · have h := h.2 c31
    refine x_iconst (v := 0) C (by decide) dX12_child_42 ?_
    refine x_istore C [(6, .int 0), (0, .ref 358), (1, .int p1), (2, .int x.1), (3, .int x.2.1), (4, .int x.2.2.1), (5, .int x.2.2.2.1)] (Nat.le_of_ble_eq_true rfl) rfl dX12_child_43 ?_
    refine x_sub [(0, .ref 358), (1, .int p1), (2, .int x.1), (3, .int x.2.1), (4, .int x.2.2.1), (5, .int x.2.2.2.1), (6, .int 0)] [1, 2, 3, 4, 5, 6, 0] rfl ?_
    exact G12_child_L45_ok C hd hr hK33 h
theorem G12_child_L33_ok {p : Program} {e : Env} {s : State} {m : MethodId} {args : Array Value} {below : List Frame} {meth : Method} {c : Code} {l : Launch} {φ : Nat → Nat} {tc : Nat → ClassId} {D : va_G} {s0 : State} {dR : Nat} (C : CX p s m args meth c φ tc D (AX φ) s0 cX12_child RX12 8) (hd : G12_child_dep ≤ dR) (hr : meth.sig.returnType = (some .int))  {p1 : Int32} {Q : Int32 → MM → Prop}  {x : Int32 × Int32 × Int32 × Int32 × MM}    (h : Lp (G12_child_L33 p1 Q) x) : WX p l e (rmX dR) s m args below meth c φ tc D (AX φ) 8 0 0 (MQ below (QX φ tc D (QI Q)) args s 0 0 (AX φ)) 33 [(0, .ref 358), (1, .int p1), (2, .int x.1), (3, .int x.2.1), (4, .int x.2.2.1), (5, .int x.2.2.2.1)] [] x.2.2.2.2 := by
  obtain ⟨n, h⟩ := h
  induction n generalizing x with
  | zero => exact h.elim
  | succ n ih => exact G12_child_L33_b C hd hr   (fun z2 z3 z4 z5 zμ hz => by have q := ih hz; exact q) h
set_option maxHeartbeats 4000000 in
set_option maxRecDepth 100000 in
theorem G12_child_met {l : Launch} {φ : Nat → Nat} {tc : Nat → ClassId} {D : va_G} {s0 : State} (hG : GX φ tc D s0) {dR : Nat} (hd : G12_child_dep ≤ dR) {v1 : Int32} {μ : MM} {Q : Int32 → MM → Prop}  (h : G12_child v1 μ Q) : MX l φ tc D s0 dR yX12_child cX12_child 8 (some .int) [.ref 358, .int v1] μ (QI Q) := by
  refine MX.of (own := RX12) hG plX12 rfl (Nat.le_of_ble_eq_true rfl) (fun p e s m args below meth c C hr => ?_)
  refine x_sub [(0, .ref 358), (1, .int v1)] [0, 1] rfl ?_
  unfold G12_child at h
  refine x_aload_n C rfl 0 rfl dX12_child_0 ?_
  refine x_iconst (v := 0) C (by decide) dX12_child_1 ?_
  refine x_putI C (j := 0) ob358.1 ob358.2 (Nat.le_of_ble_eq_true rfl) (Nat.le_of_ble_eq_true rfl) (Or.inl rfl) rfl rfl rfl tw_8_206 dX12_child_2 ?_
  refine x_mu (fun μ26 e_μ26 => ?_)
  have h := h μ26 e_μ26
  refine x_iload_n C rfl 1 rfl dX12_child_5 ?_
  refine x_i2l C dX12_child_6 ?_
  refine x_lconst (v := 1) C (by decide) dX12_child_7 ?_
  refine x_ldc2 (v := 9) C tw_6_185 dX12_child_8 ?_
  refine x_callS (dC := G12_in_dep) (as := [.long (v1.toInt64), .long 1, .long 9]) (st := []) C rX kX (Nat.le_trans (Nat.le_of_ble_eq_true rfl) hd) (Nat.le_of_ble_eq_true rfl) tw_6_183 tw_6_182 tc_6_184 tw_1_13 hyX12 hnX12_in rfl (Nat.le_of_ble_eq_true rfl) dX12_child_11 (G12_in_met C.2.2.2.2.2.2.2.1 (Nat.le_refl _)  h) (fun r0 μ27 hq => ?_)
  obtain ⟨r28, rfl, h⟩ := hq
  refine x_st [.int r28] rfl ?_
  refine x_if_ne (tgt := 19) C dX12_child_14 (by decide) (fun c29 => ?_) (fun c29 => ?_)
  · have h := h.1 c29
    refine x_aload_n C rfl 0 rfl dX12_child_19 ?_
    refine x_callV (dC := G12_countsNames_dep) (as := []) (st := []) C rX kX (Nat.le_trans (Nat.le_of_ble_eq_true rfl) hd) (Nat.le_of_ble_eq_true rfl) ob358.1 ob358.2 (Nat.le_of_ble_eq_true rfl) rfl ts_10_4 tw_7_195 tw_7_193 tc_7_196 tw_1_13 hyX12 hnX12_countsNames rfl (Nat.le_of_ble_eq_true rfl) dX12_child_20 (G12_countsNames_met C.2.2.2.2.2.2.2.1 (Nat.le_refl _)  h) (fun r0 μ30 hq => ?_)
    obtain ⟨rfl, h⟩ := hq
    refine x_st [] rfl ?_
    refine x_iconst (v := 0) C (by decide) dX12_child_23 ?_
    refine x_istore_n C [(2, .int 0), (0, .ref 358), (1, .int v1)] rfl (Nat.le_of_ble_eq_true rfl) rfl dX12_child_24 ?_
    refine x_iconst (v := 0) C (by decide) dX12_child_25 ?_
    refine x_istore_n C [(3, .int 0), (2, .int 0), (0, .ref 358), (1, .int v1)] rfl (Nat.le_of_ble_eq_true rfl) rfl dX12_child_26 ?_
    refine x_iconst (v := 0) C (by decide) dX12_child_27 ?_
    refine x_istore C [(4, .int 0), (3, .int 0), (2, .int 0), (0, .ref 358), (1, .int v1)] (Nat.le_of_ble_eq_true rfl) rfl dX12_child_28 ?_
    refine x_iconst (v := 0) C (by decide) dX12_child_30 ?_
    refine x_istore C [(5, .int 0), (4, .int 0), (3, .int 0), (2, .int 0), (0, .ref 358), (1, .int v1)] (Nat.le_of_ble_eq_true rfl) rfl dX12_child_31 ?_
    refine x_sub [(0, .ref 358), (1, .int v1), (2, .int 0), (3, .int 0), (4, .int 0), (5, .int 0)] [4, 5, 3, 2, 1, 0] rfl ?_
    exact G12_child_L33_ok C hd hr  h
  · have h := h.2 c29
    refine x_iconst (v := (-1)) C (by decide) dX12_child_17 ?_
    exact x_iret C hr dX12_child_18 ⟨_, rfl, h⟩
set_option maxHeartbeats 4000000 in
set_option maxRecDepth 100000 in
theorem G12_countsHouse_L29_b {p : Program} {e : Env} {s : State} {m : MethodId} {args : Array Value} {below : List Frame} {meth : Method} {c : Code} {l : Launch} {φ : Nat → Nat} {tc : Nat → ClassId} {D : va_G} {s0 : State} {dR : Nat} (C : CX p s m args meth c φ tc D (AX φ) s0 cX12_countsHouse RX12 3) (hd : G12_countsHouse_dep ≤ dR) (hr : meth.sig.returnType = (some .int))  {p1 : Int32} {Q : Int32 → MM → Prop} {K29 : Int32 × MM → Prop} {x : Int32 × MM}   (hK29 : ∀ (z2 : Int32) (zμ : MM), K29 (z2, zμ) → WX p l e (rmX dR) s m args below meth c φ tc D (AX φ) 3 0 0 (MQ below (QX φ tc D (QI Q)) args s 0 0 (AX φ)) 29 [(0, .ref 358), (1, .int p1), (2, .int z2)] [] zμ) (h : G12_countsHouse_L29 p1 Q K29 x) : WX p l e (rmX dR) s m args below meth c φ tc D (AX φ) 3 0 0 (MQ below (QX φ tc D (QI Q)) args s 0 0 (AX φ)) 29 [(0, .ref 358), (1, .int p1), (2, .int x.1)] [] x.2 := by
  unfold G12_countsHouse_L29 at h
  refine x_iload_n C rfl 2 rfl dX12_countsHouse_29 ?_
  refine x_aload_n C rfl 0 rfl dX12_countsHouse_30 ?_
  refine x_getI C (j := 12) ob358.1 ob358.2 (Nat.le_of_ble_eq_true rfl) (Nat.le_of_ble_eq_true rfl) (Or.inl rfl) tw_8_218 dX12_countsHouse_31 ?_
  refine x_icmp_ge (tgt := 98) C dX12_countsHouse_34 (by decide) (fun c21 => ?_) (fun c21 => ?_)
  · have h := h.1 c21
    refine x_aload_n C rfl 0 rfl dX12_countsHouse_98 ?_
    refine x_getR (r := 390) C (j := 48) ob358.1 ob358.2 (Nat.le_of_ble_eq_true rfl) (Nat.le_of_ble_eq_true rfl) (fun _ _ _ => rfl) r_358_48 tw_9_14 dX12_countsHouse_99 ?_
    refine x_iconst (v := 0) C (by decide) dX12_countsHouse_102 ?_
    refine x_iald C ob390.1 ob390.2 (by unfold vp_in; decide) (j := 0) (by decide) dX12_countsHouse_103 ?_
    refine x_aload_n C rfl 0 rfl dX12_countsHouse_104 ?_
    refine x_getR (r := 390) C (j := 48) ob358.1 ob358.2 (Nat.le_of_ble_eq_true rfl) (Nat.le_of_ble_eq_true rfl) (fun _ _ _ => rfl) r_358_48 tw_9_14 dX12_countsHouse_105 ?_
    refine x_iconst (v := 1) C (by decide) dX12_countsHouse_108 ?_
    refine x_iald C ob390.1 ob390.2 (by unfold vp_in; decide) (j := 1) (by decide) dX12_countsHouse_109 ?_
    refine x_iadd C dX12_countsHouse_110 ?_
    exact x_iret C hr dX12_countsHouse_111 ⟨_, rfl, h⟩
  · have h := h.2 c21
    refine x_aload_n C rfl 0 rfl dX12_countsHouse_37 ?_
    refine x_getR (r := 367) C (j := 13) ob358.1 ob358.2 (Nat.le_of_ble_eq_true rfl) (Nat.le_of_ble_eq_true rfl) (fun _ _ _ => rfl) r_358_13 tw_8_219 dX12_countsHouse_38 ?_
    refine x_iload_n C rfl 2 rfl dX12_countsHouse_41 ?_
    obtain ⟨c22, h⟩ := h
    refine x_iald C ob367.1 ob367.2 c22 rfl dX12_countsHouse_42 ?_
    refine x_iload_n C rfl 1 rfl dX12_countsHouse_43 ?_
    refine x_icmp_ne (tgt := 92) C dX12_countsHouse_44 (by decide) (fun c23 => ?_) (fun c23 => ?_)
    · have h := h.1 c23
      refine x_iinc (v := (x.1 + 1)) C [(2, .int (x.1 + 1)), (0, .ref 358), (1, .int p1)] 2 rfl (congrArg (fun z => x.1 + z) (by decide : Int32.ofInt (1) = 1)) (Nat.le_of_ble_eq_true rfl) rfl dX12_countsHouse_92 ?_
      refine x_goto (tgt := 29) C dX12_countsHouse_95 (by decide) ?_
      refine x_sub [(0, .ref 358), (1, .int p1), (2, .int (x.1 + 1))] [1, 2, 0] rfl ?_
      exact hK29 _ _ h
    · have h := h.2 c23
      refine x_aload_n C rfl 0 rfl dX12_countsHouse_47 ?_
      refine x_getR (r := 373) C (j := 19) ob358.1 ob358.2 (Nat.le_of_ble_eq_true rfl) (Nat.le_of_ble_eq_true rfl) (fun _ _ _ => rfl) r_358_19 tw_8_225 dX12_countsHouse_48 ?_
      refine x_iload_n C rfl 2 rfl dX12_countsHouse_51 ?_
      obtain ⟨c24, h⟩ := h
      refine x_zald C ob373.1 ob373.2 c24 rfl dX12_countsHouse_52 ?_
      refine x_if_eq (tgt := 92) C dX12_countsHouse_53 (by decide) (fun c25 => ?_) (fun c25 => ?_)
      · have h := h.1 c25
        refine x_iinc (v := (x.1 + 1)) C [(2, .int (x.1 + 1)), (0, .ref 358), (1, .int p1)] 2 rfl (congrArg (fun z => x.1 + z) (by decide : Int32.ofInt (1) = 1)) (Nat.le_of_ble_eq_true rfl) rfl dX12_countsHouse_92 ?_
        refine x_goto (tgt := 29) C dX12_countsHouse_95 (by decide) ?_
        refine x_sub [(0, .ref 358), (1, .int p1), (2, .int (x.1 + 1))] [1, 2, 0] rfl ?_
        exact hK29 _ _ h
      · have h := h.2 c25
        refine x_aload_n C rfl 0 rfl dX12_countsHouse_56 ?_
        refine x_getR (r := 390) C (j := 48) ob358.1 ob358.2 (Nat.le_of_ble_eq_true rfl) (Nat.le_of_ble_eq_true rfl) (fun _ _ _ => rfl) r_358_48 tw_9_14 dX12_countsHouse_57 ?_
        refine x_aload_n C rfl 0 rfl dX12_countsHouse_60 ?_
        refine x_iload_n C rfl 2 rfl dX12_countsHouse_61 ?_
        refine x_callV (dC := G12_peopleOf_dep) (as := [.int x.1]) (st := [.ref 390]) C rX kX (Nat.le_trans (Nat.le_of_ble_eq_true rfl) hd) (Nat.le_of_ble_eq_true rfl) ob358.1 ob358.2 (Nat.le_of_ble_eq_true rfl) rfl ts_9_15 tw_7_150 tw_7_148 tc_7_151 tw_1_13 hyX12 hnX12_peopleOf rfl (Nat.le_of_ble_eq_true rfl) dX12_countsHouse_62 (G12_peopleOf_met C.2.2.2.2.2.2.2.1 (Nat.le_refl _)  h) (fun r0 μ26 hq => ?_)
        obtain ⟨r27, rfl, h⟩ := hq
        refine x_st [.int r27, .ref 390] rfl ?_
        refine x_dup2_11 C rfl rfl dX12_countsHouse_65 ?_
        obtain ⟨c28, h⟩ := h
        refine x_iald C ob390.1 ob390.2 c28 rfl dX12_countsHouse_66 ?_
        refine x_iconst (v := 1) C (by decide) dX12_countsHouse_67 ?_
        refine x_iadd C dX12_countsHouse_68 ?_
        obtain ⟨c29, h⟩ := h
        refine x_iast C ob390.1 ob390.2 c29 rfl dX12_countsHouse_69 ?_
        refine x_mu (fun μ30 e_μ30 => ?_)
        have h := h μ30 e_μ30
        refine x_aload_n C rfl 0 rfl dX12_countsHouse_70 ?_
        refine x_getR (r := 391) C (j := 49) ob358.1 ob358.2 (Nat.le_of_ble_eq_true rfl) (Nat.le_of_ble_eq_true rfl) (fun _ _ _ => rfl) r_358_49 tw_9_15 dX12_countsHouse_71 ?_
        refine x_aload_n C rfl 0 rfl dX12_countsHouse_74 ?_
        refine x_iload_n C rfl 2 rfl dX12_countsHouse_75 ?_
        refine x_callV (dC := G12_peopleOf_dep) (as := [.int x.1]) (st := [.ref 391]) C rX kX (Nat.le_trans (Nat.le_of_ble_eq_true rfl) hd) (Nat.le_of_ble_eq_true rfl) ob358.1 ob358.2 (Nat.le_of_ble_eq_true rfl) rfl ts_9_15 tw_7_150 tw_7_148 tc_7_151 tw_1_13 hyX12 hnX12_peopleOf rfl (Nat.le_of_ble_eq_true rfl) dX12_countsHouse_76 (G12_peopleOf_met C.2.2.2.2.2.2.2.1 (Nat.le_refl _)  h) (fun r0 μ31 hq => ?_)
        obtain ⟨r32, rfl, h⟩ := hq
        refine x_st [.int r32, .ref 391] rfl ?_
        refine x_dup2_11 C rfl rfl dX12_countsHouse_79 ?_
        obtain ⟨c33, h⟩ := h
        refine x_iald C ob391.1 ob391.2 c33 rfl dX12_countsHouse_80 ?_
        refine x_aload_n C rfl 0 rfl dX12_countsHouse_81 ?_
        refine x_getR (r := 374) C (j := 20) ob358.1 ob358.2 (Nat.le_of_ble_eq_true rfl) (Nat.le_of_ble_eq_true rfl) (fun _ _ _ => rfl) r_358_20 tw_8_226 dX12_countsHouse_82 ?_
        refine x_iload_n C rfl 2 rfl dX12_countsHouse_85 ?_
        obtain ⟨c34, h⟩ := h
        refine x_zald C ob374.1 ob374.2 c34 rfl dX12_countsHouse_86 ?_
        refine x_callS (dC := G12_flag_dep) (as := [.int (gI μ31 374 x.1.toNatClampNeg)]) (st := [.int (gI μ31 391 r32.toNatClampNeg), .int r32, .ref 391]) C rX kX (Nat.le_trans (Nat.le_of_ble_eq_true rfl) hd) (Nat.le_of_ble_eq_true rfl) tw_6_212 tw_6_211 tc_6_213 tw_1_13 hyX12 hnX12_flag rfl (Nat.le_of_ble_eq_true rfl) dX12_countsHouse_87 (G12_flag_met C.2.2.2.2.2.2.2.1 (Nat.le_refl _)  h) (fun r0 μ35 hq => ?_)
        obtain ⟨r36, rfl, h⟩ := hq
        refine x_st [.int r36, .int (gI μ31 391 r32.toNatClampNeg), .int r32, .ref 391] rfl ?_
        refine x_iadd C dX12_countsHouse_90 ?_
        obtain ⟨c37, h⟩ := h
        refine x_iast C ob391.1 ob391.2 c37 rfl dX12_countsHouse_91 ?_
        refine x_mu (fun μ38 e_μ38 => ?_)
        have h := h μ38 e_μ38
        refine x_iinc (v := (x.1 + 1)) C [(2, .int (x.1 + 1)), (0, .ref 358), (1, .int p1)] 2 rfl (congrArg (fun z => x.1 + z) (by decide : Int32.ofInt (1) = 1)) (Nat.le_of_ble_eq_true rfl) rfl dX12_countsHouse_92 ?_
        refine x_goto (tgt := 29) C dX12_countsHouse_95 (by decide) ?_
        refine x_sub [(0, .ref 358), (1, .int p1), (2, .int (x.1 + 1))] [1, 2, 0] rfl ?_
        exact hK29 _ _ h
theorem G12_countsHouse_L29_ok {p : Program} {e : Env} {s : State} {m : MethodId} {args : Array Value} {below : List Frame} {meth : Method} {c : Code} {l : Launch} {φ : Nat → Nat} {tc : Nat → ClassId} {D : va_G} {s0 : State} {dR : Nat} (C : CX p s m args meth c φ tc D (AX φ) s0 cX12_countsHouse RX12 3) (hd : G12_countsHouse_dep ≤ dR) (hr : meth.sig.returnType = (some .int))  {p1 : Int32} {Q : Int32 → MM → Prop}  {x : Int32 × MM}    (h : Lp (G12_countsHouse_L29 p1 Q) x) : WX p l e (rmX dR) s m args below meth c φ tc D (AX φ) 3 0 0 (MQ below (QX φ tc D (QI Q)) args s 0 0 (AX φ)) 29 [(0, .ref 358), (1, .int p1), (2, .int x.1)] [] x.2 := by
  obtain ⟨n, h⟩ := h
  induction n generalizing x with
  | zero => exact h.elim
  | succ n ih => exact G12_countsHouse_L29_b C hd hr   (fun z2 zμ hz => by have q := ih hz; exact q) h
set_option maxHeartbeats 4000000 in
set_option maxRecDepth 100000 in
theorem G12_countsHouse_L2_b {p : Program} {e : Env} {s : State} {m : MethodId} {args : Array Value} {below : List Frame} {meth : Method} {c : Code} {l : Launch} {φ : Nat → Nat} {tc : Nat → ClassId} {D : va_G} {s0 : State} {dR : Nat} (C : CX p s m args meth c φ tc D (AX φ) s0 cX12_countsHouse RX12 3) (hd : G12_countsHouse_dep ≤ dR) (hr : meth.sig.returnType = (some .int))  {p1 : Int32} {Q : Int32 → MM → Prop} {K2 : Int32 × MM → Prop} {x : Int32 × MM}   (hK2 : ∀ (z2 : Int32) (zμ : MM), K2 (z2, zμ) → WX p l e (rmX dR) s m args below meth c φ tc D (AX φ) 3 0 0 (MQ below (QX φ tc D (QI Q)) args s 0 0 (AX φ)) 2 [(0, .ref 358), (1, .int p1), (2, .int z2)] [] zμ) (h : G12_countsHouse_L2 p1 Q K2 x) : WX p l e (rmX dR) s m args below meth c φ tc D (AX φ) 3 0 0 (MQ below (QX φ tc D (QI Q)) args s 0 0 (AX φ)) 2 [(0, .ref 358), (1, .int p1), (2, .int x.1)] [] x.2 := by
  unfold G12_countsHouse_L2 at h
  refine x_iload_n C rfl 2 rfl dX12_countsHouse_2 ?_
  refine x_iconst (v := 2) C (by decide) dX12_countsHouse_3 ?_
  refine x_icmp_ge (tgt := 27) C dX12_countsHouse_4 (by decide) (fun c20 => ?_) (fun c20 => ?_)
  · have h := h.1 c20
    refine x_iconst (v := 0) C (by decide) dX12_countsHouse_27 ?_
    refine x_istore_n C [(2, .int 0), (0, .ref 358), (1, .int p1)] rfl (Nat.le_of_ble_eq_true rfl) rfl dX12_countsHouse_28 ?_
    refine x_sub [(0, .ref 358), (1, .int p1), (2, .int 0)] [1, 2, 0] rfl ?_
    exact G12_countsHouse_L29_ok C hd hr  h
  · have h := h.2 c20
    refine x_aload_n C rfl 0 rfl dX12_countsHouse_7 ?_
    refine x_getR (r := 390) C (j := 48) ob358.1 ob358.2 (Nat.le_of_ble_eq_true rfl) (Nat.le_of_ble_eq_true rfl) (fun _ _ _ => rfl) r_358_48 tw_9_14 dX12_countsHouse_8 ?_
    refine x_iload_n C rfl 2 rfl dX12_countsHouse_11 ?_
    refine x_iconst (v := 0) C (by decide) dX12_countsHouse_12 ?_
    obtain ⟨c39, h⟩ := h
    refine x_iast C ob390.1 ob390.2 c39 rfl dX12_countsHouse_13 ?_
    refine x_mu (fun μ40 e_μ40 => ?_)
    have h := h μ40 e_μ40
    refine x_aload_n C rfl 0 rfl dX12_countsHouse_14 ?_
    refine x_getR (r := 391) C (j := 49) ob358.1 ob358.2 (Nat.le_of_ble_eq_true rfl) (Nat.le_of_ble_eq_true rfl) (fun _ _ _ => rfl) r_358_49 tw_9_15 dX12_countsHouse_15 ?_
    refine x_iload_n C rfl 2 rfl dX12_countsHouse_18 ?_
    refine x_iconst (v := 0) C (by decide) dX12_countsHouse_19 ?_
    obtain ⟨c41, h⟩ := h
    refine x_iast C ob391.1 ob391.2 c41 rfl dX12_countsHouse_20 ?_
    refine x_mu (fun μ42 e_μ42 => ?_)
    have h := h μ42 e_μ42
    refine x_iinc (v := (x.1 + 1)) C [(2, .int (x.1 + 1)), (0, .ref 358), (1, .int p1)] 2 rfl (congrArg (fun z => x.1 + z) (by decide : Int32.ofInt (1) = 1)) (Nat.le_of_ble_eq_true rfl) rfl dX12_countsHouse_21 ?_
    refine x_goto (tgt := 2) C dX12_countsHouse_24 (by decide) ?_
    refine x_sub [(0, .ref 358), (1, .int p1), (2, .int (x.1 + 1))] [1, 2, 0] rfl ?_
    exact hK2 _ _ h
theorem G12_countsHouse_L2_ok {p : Program} {e : Env} {s : State} {m : MethodId} {args : Array Value} {below : List Frame} {meth : Method} {c : Code} {l : Launch} {φ : Nat → Nat} {tc : Nat → ClassId} {D : va_G} {s0 : State} {dR : Nat} (C : CX p s m args meth c φ tc D (AX φ) s0 cX12_countsHouse RX12 3) (hd : G12_countsHouse_dep ≤ dR) (hr : meth.sig.returnType = (some .int))  {p1 : Int32} {Q : Int32 → MM → Prop}  {x : Int32 × MM}    (h : Lp (G12_countsHouse_L2 p1 Q) x) : WX p l e (rmX dR) s m args below meth c φ tc D (AX φ) 3 0 0 (MQ below (QX φ tc D (QI Q)) args s 0 0 (AX φ)) 2 [(0, .ref 358), (1, .int p1), (2, .int x.1)] [] x.2 := by
  obtain ⟨n, h⟩ := h
  induction n generalizing x with
  | zero => exact h.elim
  | succ n ih => exact G12_countsHouse_L2_b C hd hr   (fun z2 zμ hz => by have q := ih hz; exact q) h
set_option maxHeartbeats 4000000 in
set_option maxRecDepth 100000 in
theorem G12_countsHouse_met {l : Launch} {φ : Nat → Nat} {tc : Nat → ClassId} {D : va_G} {s0 : State} (hG : GX φ tc D s0) {dR : Nat} (hd : G12_countsHouse_dep ≤ dR) {v1 : Int32} {μ : MM} {Q : Int32 → MM → Prop}  (h : G12_countsHouse v1 μ Q) : MX l φ tc D s0 dR yX12_countsHouse cX12_countsHouse 3 (some .int) [.ref 358, .int v1] μ (QI Q) := by
  refine MX.of (own := RX12) hG plX12 rfl (Nat.le_of_ble_eq_true rfl) (fun p e s m args below meth c C hr => ?_)
  refine x_sub [(0, .ref 358), (1, .int v1)] [0, 1] rfl ?_
  unfold G12_countsHouse at h
  refine x_iconst (v := 0) C (by decide) dX12_countsHouse_0 ?_
  refine x_istore_n C [(2, .int 0), (0, .ref 358), (1, .int v1)] rfl (Nat.le_of_ble_eq_true rfl) rfl dX12_countsHouse_1 ?_
  refine x_sub [(0, .ref 358), (1, .int v1), (2, .int 0)] [1, 2, 0] rfl ?_
  exact G12_countsHouse_L2_ok C hd hr  h
set_option maxHeartbeats 4000000 in
set_option maxRecDepth 100000 in
theorem G12_table_J80_ok {p : Program} {e : Env} {s : State} {m : MethodId} {args : Array Value} {below : List Frame} {meth : Method} {c : Code} {l : Launch} {φ : Nat → Nat} {tc : Nat → ClassId} {D : va_G} {s0 : State} {dR : Nat} (C : CX p s m args meth c φ tc D (AX φ) s0 cX12_table RX12 5) (hd : G12_table_dep ≤ dR) (hr : meth.sig.returnType = (some .int))   {p1 : Int32} {p2 : Int32} {p4 : Int32} {q0 : Int32} {q1 : Int32} {Q : Int32 → MM → Prop} {K36 : Int32 × Int32 × MM → Prop} {μ : MM}   (hK36 : ∀ (z3 : Int32) (z4 : Int32) (zμ : MM), K36 (z3, z4, zμ) → WX p l e (rmX dR) s m args below meth c φ tc D (AX φ) 5 0 0 (MQ below (QX φ tc D (QI Q)) args s 0 0 (AX φ)) 36 [(0, .ref 358), (1, .int p1), (2, .int p2), (3, .int z3), (4, .int z4)] [] zμ) (h : G12_table_J80 p1 p2 p4 q0 q1 μ K36 Q) : WX p l e (rmX dR) s m args below meth c φ tc D (AX φ) 5 0 0 (MQ below (QX φ tc D (QI Q)) args s 0 0 (AX φ)) 80 [(0, .ref 358), (1, .int p1), (2, .int p2), (4, .int p4)] [.int q0, .int q1] μ := by
  unfold G12_table_J80 at h
  refine x_callS (dC := G12_flag_dep) (as := [.int q0]) (st := [.int q1]) C rX kX (Nat.le_trans (Nat.le_of_ble_eq_true rfl) hd) (Nat.le_of_ble_eq_true rfl) tw_6_212 tw_6_211 tc_6_213 tw_1_13 hyX12 hnX12_flag rfl (Nat.le_of_ble_eq_true rfl) dX12_table_80 (G12_flag_met C.2.2.2.2.2.2.2.1 (Nat.le_refl _)  h) (fun r0 μ22 hq => ?_)
  obtain ⟨r23, rfl, h⟩ := hq
  refine x_st [.int r23, .int q1] rfl ?_
  refine x_iadd C dX12_table_83 ?_
  refine x_topi (fun y24 e_y24 => ?_)
  have h := h y24 e_y24
  refine x_istore_n C [(3, .int y24), (0, .ref 358), (1, .int p1), (2, .int p2), (4, .int p4)] rfl (Nat.le_of_ble_eq_true rfl) rfl dX12_table_84 ?_
  refine x_iinc (v := (p4 + 1)) C [(4, .int (p4 + 1)), (3, .int y24), (0, .ref 358), (1, .int p1), (2, .int p2)] 4 rfl (congrArg (fun z => p4 + z) (by decide : Int32.ofInt (1) = 1)) (Nat.le_of_ble_eq_true rfl) rfl dX12_table_85 ?_
  refine x_goto (tgt := 36) C dX12_table_88 (by decide) ?_
  refine x_sub [(0, .ref 358), (1, .int p1), (2, .int p2), (3, .int y24), (4, .int (p4 + 1))] [2, 3, 4, 1, 0] rfl ?_
  exact hK36 _ _ _ h
set_option maxHeartbeats 4000000 in
set_option maxRecDepth 100000 in
theorem G12_table_J79_ok {p : Program} {e : Env} {s : State} {m : MethodId} {args : Array Value} {below : List Frame} {meth : Method} {c : Code} {l : Launch} {φ : Nat → Nat} {tc : Nat → ClassId} {D : va_G} {s0 : State} {dR : Nat} (C : CX p s m args meth c φ tc D (AX φ) s0 cX12_table RX12 5) (hd : G12_table_dep ≤ dR) (hr : meth.sig.returnType = (some .int))   {p1 : Int32} {p2 : Int32} {p4 : Int32} {q0 : Int32} {Q : Int32 → MM → Prop} {K36 : Int32 × Int32 × MM → Prop} {μ : MM}   (hK36 : ∀ (z3 : Int32) (z4 : Int32) (zμ : MM), K36 (z3, z4, zμ) → WX p l e (rmX dR) s m args below meth c φ tc D (AX φ) 5 0 0 (MQ below (QX φ tc D (QI Q)) args s 0 0 (AX φ)) 36 [(0, .ref 358), (1, .int p1), (2, .int p2), (3, .int z3), (4, .int z4)] [] zμ) (h : G12_table_J79 p1 p2 p4 q0 μ K36 Q) : WX p l e (rmX dR) s m args below meth c φ tc D (AX φ) 5 0 0 (MQ below (QX φ tc D (QI Q)) args s 0 0 (AX φ)) 79 [(0, .ref 358), (1, .int p1), (2, .int p2), (4, .int p4)] [.int q0] μ := by
  unfold G12_table_J79 at h
  refine x_iconst (v := 0) C (by decide) dX12_table_79 ?_
  exact G12_table_J80_ok C hd hr hK36 h
set_option maxHeartbeats 4000000 in
set_option maxRecDepth 100000 in
theorem G12_table_L36_b {p : Program} {e : Env} {s : State} {m : MethodId} {args : Array Value} {below : List Frame} {meth : Method} {c : Code} {l : Launch} {φ : Nat → Nat} {tc : Nat → ClassId} {D : va_G} {s0 : State} {dR : Nat} (C : CX p s m args meth c φ tc D (AX φ) s0 cX12_table RX12 5) (hd : G12_table_dep ≤ dR) (hr : meth.sig.returnType = (some .int))  {p1 : Int32} {p2 : Int32} {Q : Int32 → MM → Prop} {K36 : Int32 × Int32 × MM → Prop} {x : Int32 × Int32 × MM}   (hK36 : ∀ (z3 : Int32) (z4 : Int32) (zμ : MM), K36 (z3, z4, zμ) → WX p l e (rmX dR) s m args below meth c φ tc D (AX φ) 5 0 0 (MQ below (QX φ tc D (QI Q)) args s 0 0 (AX φ)) 36 [(0, .ref 358), (1, .int p1), (2, .int p2), (3, .int z3), (4, .int z4)] [] zμ) (h : G12_table_L36 p1 p2 Q K36 x) : WX p l e (rmX dR) s m args below meth c φ tc D (AX φ) 5 0 0 (MQ below (QX φ tc D (QI Q)) args s 0 0 (AX φ)) 36 [(0, .ref 358), (1, .int p1), (2, .int p2), (3, .int x.1), (4, .int x.2.1)] [] x.2.2 := by
  unfold G12_table_L36 at h
  refine x_iload C 4 rfl dX12_table_36 ?_
  refine x_aload_n C rfl 0 rfl dX12_table_38 ?_
  refine x_getI C (j := 8) ob358.1 ob358.2 (Nat.le_of_ble_eq_true rfl) (Nat.le_of_ble_eq_true rfl) (Or.inl rfl) tw_8_214 dX12_table_39 ?_
  refine x_icmp_ge (tgt := 91) C dX12_table_42 (by decide) (fun c18 => ?_) (fun c18 => ?_)
  · have h := h.1 c18
    refine x_iload_n C rfl 3 rfl dX12_table_91 ?_
    exact x_iret C hr dX12_table_92 ⟨_, rfl, h⟩
  · have h := h.2 c18
    refine x_iload_n C rfl 3 rfl dX12_table_45 ?_
    refine x_aload_n C rfl 0 rfl dX12_table_46 ?_
    refine x_iload C 4 rfl dX12_table_47 ?_
    refine x_callV (dC := G12_countsHouse_dep) (as := [.int x.2.1]) (st := [.int x.1]) C rX kX (Nat.le_trans (Nat.le_of_ble_eq_true rfl) hd) (Nat.le_of_ble_eq_true rfl) ob358.1 ob358.2 (Nat.le_of_ble_eq_true rfl) rfl ts_10_8 tw_8_1 tw_7_239 tc_8_2 tw_1_13 hyX12 hnX12_countsHouse rfl (Nat.le_of_ble_eq_true rfl) dX12_table_49 (G12_countsHouse_met C.2.2.2.2.2.2.2.1 (Nat.le_refl _)  h) (fun r0 μ19 hq => ?_)
    obtain ⟨r20, rfl, h⟩ := hq
    refine x_st [.int r20, .int x.1] rfl ?_
    refine x_if_le (tgt := 79) C dX12_table_52 (by decide) (fun c21 => ?_) (fun c21 => ?_)
    · have h := h.1 c21
      refine x_sub [(0, .ref 358), (1, .int p1), (2, .int p2), (4, .int x.2.1)] [0, 1, 2, 4] rfl ?_
      exact G12_table_J79_ok C hd hr hK36 h
    · have h := h.2 c21
      refine x_aload_n C rfl 0 rfl dX12_table_55 ?_
      refine x_getR (r := 391) C (j := 49) ob358.1 ob358.2 (Nat.le_of_ble_eq_true rfl) (Nat.le_of_ble_eq_true rfl) (fun _ _ _ => rfl) r_358_49 tw_9_15 dX12_table_56 ?_
      refine x_iconst (v := 0) C (by decide) dX12_table_59 ?_
      refine x_iald C ob391.1 ob391.2 (by unfold vp_in; decide) (j := 0) (by decide) dX12_table_60 ?_
      refine x_iload_n C rfl 1 rfl dX12_table_61 ?_
      refine x_icmp_ne (tgt := 79) C dX12_table_62 (by decide) (fun c25 => ?_) (fun c25 => ?_)
      · have h := h.1 c25
        refine x_sub [(0, .ref 358), (1, .int p1), (2, .int p2), (4, .int x.2.1)] [0, 1, 2, 4] rfl ?_
        exact G12_table_J79_ok C hd hr hK36 h
      · have h := h.2 c25
        refine x_aload_n C rfl 0 rfl dX12_table_65 ?_
        refine x_getR (r := 391) C (j := 49) ob358.1 ob358.2 (Nat.le_of_ble_eq_true rfl) (Nat.le_of_ble_eq_true rfl) (fun _ _ _ => rfl) r_358_49 tw_9_15 dX12_table_66 ?_
        refine x_iconst (v := 1) C (by decide) dX12_table_69 ?_
        refine x_iald C ob391.1 ob391.2 (by unfold vp_in; decide) (j := 1) (by decide) dX12_table_70 ?_
        refine x_iload_n C rfl 2 rfl dX12_table_71 ?_
        refine x_icmp_ne (tgt := 79) C dX12_table_72 (by decide) (fun c26 => ?_) (fun c26 => ?_)
        · have h := h.1 c26
          refine x_sub [(0, .ref 358), (1, .int p1), (2, .int p2), (4, .int x.2.1)] [0, 1, 2, 4] rfl ?_
          exact G12_table_J79_ok C hd hr hK36 h
        · have h := h.2 c26
          refine x_iconst (v := 1) C (by decide) dX12_table_75 ?_
          refine x_goto (tgt := 80) C dX12_table_76 (by decide) ?_
          refine x_sub [(0, .ref 358), (1, .int p1), (2, .int p2), (4, .int x.2.1)] [0, 1, 2, 4] rfl ?_
          exact G12_table_J80_ok C hd hr hK36 h
theorem G12_table_L36_ok {p : Program} {e : Env} {s : State} {m : MethodId} {args : Array Value} {below : List Frame} {meth : Method} {c : Code} {l : Launch} {φ : Nat → Nat} {tc : Nat → ClassId} {D : va_G} {s0 : State} {dR : Nat} (C : CX p s m args meth c φ tc D (AX φ) s0 cX12_table RX12 5) (hd : G12_table_dep ≤ dR) (hr : meth.sig.returnType = (some .int))  {p1 : Int32} {p2 : Int32} {Q : Int32 → MM → Prop}  {x : Int32 × Int32 × MM}    (h : Lp (G12_table_L36 p1 p2 Q) x) : WX p l e (rmX dR) s m args below meth c φ tc D (AX φ) 5 0 0 (MQ below (QX φ tc D (QI Q)) args s 0 0 (AX φ)) 36 [(0, .ref 358), (1, .int p1), (2, .int p2), (3, .int x.1), (4, .int x.2.1)] [] x.2.2 := by
  obtain ⟨n, h⟩ := h
  induction n generalizing x with
  | zero => exact h.elim
  | succ n ih => exact G12_table_L36_b C hd hr   (fun z3 z4 zμ hz => by have q := ih hz; exact q) h
set_option maxHeartbeats 4000000 in
set_option maxRecDepth 100000 in
theorem G12_table_met {l : Launch} {φ : Nat → Nat} {tc : Nat → ClassId} {D : va_G} {s0 : State} (hG : GX φ tc D s0) {dR : Nat} (hd : G12_table_dep ≤ dR) {v1 : Int32} {v2 : Int32} {μ : MM} {Q : Int32 → MM → Prop}  (h : G12_table v1 v2 μ Q) : MX l φ tc D s0 dR yX12_table cX12_table 5 (some .int) [.ref 358, .int v1, .int v2] μ (QI Q) := by
  refine MX.of (own := RX12) hG plX12 rfl (Nat.le_of_ble_eq_true rfl) (fun p e s m args below meth c C hr => ?_)
  refine x_sub [(0, .ref 358), (1, .int v1), (2, .int v2)] [0, 1, 2] rfl ?_
  unfold G12_table at h
  refine x_aload_n C rfl 0 rfl dX12_table_0 ?_
  refine x_iconst (v := 0) C (by decide) dX12_table_1 ?_
  refine x_putI C (j := 0) ob358.1 ob358.2 (Nat.le_of_ble_eq_true rfl) (Nat.le_of_ble_eq_true rfl) (Or.inl rfl) rfl rfl rfl tw_8_206 dX12_table_2 ?_
  refine x_mu (fun μ11 e_μ11 => ?_)
  have h := h μ11 e_μ11
  refine x_iload_n C rfl 1 rfl dX12_table_5 ?_
  refine x_i2l C dX12_table_6 ?_
  refine x_lconst (v := 0) C (by decide) dX12_table_7 ?_
  refine x_ldc2 (v := 4) C tw_7_238 dX12_table_8 ?_
  refine x_callS (dC := G12_in_dep) (as := [.long (v1.toInt64), .long 0, .long 4]) (st := []) C rX kX (Nat.le_trans (Nat.le_of_ble_eq_true rfl) hd) (Nat.le_of_ble_eq_true rfl) tw_6_183 tw_6_182 tc_6_184 tw_1_13 hyX12 hnX12_in rfl (Nat.le_of_ble_eq_true rfl) dX12_table_11 (G12_in_met C.2.2.2.2.2.2.2.1 (Nat.le_refl _)  h) (fun r0 μ12 hq => ?_)
  obtain ⟨r13, rfl, h⟩ := hq
  refine x_st [.int r13] rfl ?_
  refine x_if_eq (tgt := 29) C dX12_table_14 (by decide) (fun c14 => ?_) (fun c14 => ?_)
  · have h := h.1 c14
    refine x_iconst (v := (-1)) C (by decide) dX12_table_29 ?_
    exact x_iret C hr dX12_table_30 ⟨_, rfl, h⟩
  · have h := h.2 c14
    refine x_iload_n C rfl 2 rfl dX12_table_17 ?_
    refine x_i2l C dX12_table_18 ?_
    refine x_lconst (v := 0) C (by decide) dX12_table_19 ?_
    refine x_ldc2 (v := 4) C tw_7_238 dX12_table_20 ?_
    refine x_callS (dC := G12_in_dep) (as := [.long (v2.toInt64), .long 0, .long 4]) (st := []) C rX kX (Nat.le_trans (Nat.le_of_ble_eq_true rfl) hd) (Nat.le_of_ble_eq_true rfl) tw_6_183 tw_6_182 tc_6_184 tw_1_13 hyX12 hnX12_in rfl (Nat.le_of_ble_eq_true rfl) dX12_table_23 (G12_in_met C.2.2.2.2.2.2.2.1 (Nat.le_refl _)  h) (fun r0 μ15 hq => ?_)
    obtain ⟨r16, rfl, h⟩ := hq
    refine x_st [.int r16] rfl ?_
    refine x_if_ne (tgt := 31) C dX12_table_26 (by decide) (fun c17 => ?_) (fun c17 => ?_)
    · have h := h.1 c17
      refine x_iconst (v := 0) C (by decide) dX12_table_31 ?_
      refine x_istore_n C [(3, .int 0), (0, .ref 358), (1, .int v1), (2, .int v2)] rfl (Nat.le_of_ble_eq_true rfl) rfl dX12_table_32 ?_
      refine x_iconst (v := 0) C (by decide) dX12_table_33 ?_
      refine x_istore C [(4, .int 0), (3, .int 0), (0, .ref 358), (1, .int v1), (2, .int v2)] (Nat.le_of_ble_eq_true rfl) rfl dX12_table_34 ?_
      refine x_sub [(0, .ref 358), (1, .int v1), (2, .int v2), (3, .int 0), (4, .int 0)] [2, 3, 4, 1, 0] rfl ?_
      exact G12_table_L36_ok C hd hr  h
    · have h := h.2 c17
      refine x_iconst (v := (-1)) C (by decide) dX12_table_29 ?_
      exact x_iret C hr dX12_table_30 ⟨_, rfl, h⟩
