set_option maxHeartbeats 4000000 in
set_option maxRecDepth 100000 in
theorem G12_keep_L41_b {p : Program} {e : Env} {s : State} {m : MethodId} {args : Array Value} {below : List Frame} {meth : Method} {c : Code} {l : Launch} {φ : Nat → Nat} {tc : Nat → ClassId} {D : va_G} {s0 : State} {dR : Nat} (C : CX p s m args meth c φ tc D s0 cX12_keep RX12 3) (hd : G12_keep_dep ≤ dR) (hr : meth.sig.returnType = (some .boolean))  {p1 : Int32} {Q : Int32 → MM → Prop} {K41 : Int32 × MM → Prop} {x : Int32 × MM}   (hK41 : ∀ (z2 : Int32) (zμ : MM), K41 (z2, zμ) → WX p l e (rmX dR) s m args below meth c φ tc D 3 (MQ below (QX φ tc D (QI Q)) args s 0 0 (AX φ)) 41 [(0, .ref 358), (1, .int p1), (2, .int z2)] [] zμ) (h : G12_keep_L41 p1 Q K41 x) : WX p l e (rmX dR) s m args below meth c φ tc D 3 (MQ below (QX φ tc D (QI Q)) args s 0 0 (AX φ)) 41 [(0, .ref 358), (1, .int p1), (2, .int x.1)] [] x.2 := by
  unfold G12_keep_L41 at h
  refine x_iload_n C rfl 2 rfl dX12_keep_41 ?_
  refine x_aload_n C rfl 0 rfl dX12_keep_42 ?_
  refine x_getI C (j := 12) ob358.1 ob358.2 (Nat.le_of_ble_eq_true rfl) (Nat.le_of_ble_eq_true rfl) (Or.inl rfl) tw_8_218 dX12_keep_43 ?_
  refine x_icmp_ge (tgt := 96) C dX12_keep_46 (by decide) (fun c25 => ?_) (fun c25 => ?_)
  · have h := h.1 c25
    refine x_iconst (v := 1) C (by decide) dX12_keep_96 ?_
    exact x_zret C hr bo_1 dX12_keep_97 ⟨_, rfl, h⟩
  · have h := h.2 c25
    refine x_aload_n C rfl 0 rfl dX12_keep_49 ?_
    refine x_getR (r := 409) C (j := 70) ob358.1 ob358.2 (Nat.le_of_ble_eq_true rfl) (Nat.le_of_ble_eq_true rfl) (fun _ _ _ => rfl) r_358_70 tw_9_36 dX12_keep_50 ?_
    refine x_bipush (v := 96) C (by decide) dX12_keep_53 ?_
    refine x_iload_n C rfl 1 rfl dX12_keep_55 ?_
    refine x_imul C dX12_keep_56 ?_
    refine x_iload_n C rfl 2 rfl dX12_keep_57 ?_
    refine x_iadd C dX12_keep_58 ?_
    refine x_aload_n C rfl 0 rfl dX12_keep_59 ?_
    refine x_getR (r := 373) C (j := 19) ob358.1 ob358.2 (Nat.le_of_ble_eq_true rfl) (Nat.le_of_ble_eq_true rfl) (fun _ _ _ => rfl) r_358_19 tw_8_225 dX12_keep_60 ?_
    refine x_iload_n C rfl 2 rfl dX12_keep_63 ?_
    obtain ⟨c26, h⟩ := h
    refine x_zald C ob373.1 ob373.2 c26 rfl dX12_keep_64 ?_
    refine x_callS (dC := G12_flag_dep) (as := [.int (gI x.2 373 x.1.toNatClampNeg)]) (st := [.int ((96 * p1) + x.1), .ref 409]) C rfl (Nat.le_trans (Nat.le_of_ble_eq_true rfl) hd) (Nat.le_of_ble_eq_true rfl) tw_6_212 tw_6_211 tc_6_213 tw_1_13 hyX12 hnX12_flag rfl (Nat.le_of_ble_eq_true rfl) dX12_keep_65 (G12_flag_met C.2.2.2.2.2.2.2.1 (Nat.le_refl _)  h) (fun r0 μ27 hq => ?_)
    obtain ⟨r28, rfl, h⟩ := hq
    refine x_st [.int r28, .int ((96 * p1) + x.1), .ref 409] rfl ?_
    refine x_iconst (v := 2) C (by decide) dX12_keep_68 ?_
    refine x_aload_n C rfl 0 rfl dX12_keep_69 ?_
    refine x_getR (r := 374) C (j := 20) ob358.1 ob358.2 (Nat.le_of_ble_eq_true rfl) (Nat.le_of_ble_eq_true rfl) (fun _ _ _ => rfl) r_358_20 tw_8_226 dX12_keep_70 ?_
    refine x_iload_n C rfl 2 rfl dX12_keep_73 ?_
    obtain ⟨c29, h⟩ := h
    refine x_zald C ob374.1 ob374.2 c29 rfl dX12_keep_74 ?_
    refine x_callS (dC := G12_flag_dep) (as := [.int (gI μ27 374 x.1.toNatClampNeg)]) (st := [.int 2, .int r28, .int ((96 * p1) + x.1), .ref 409]) C rfl (Nat.le_trans (Nat.le_of_ble_eq_true rfl) hd) (Nat.le_of_ble_eq_true rfl) tw_6_212 tw_6_211 tc_6_213 tw_1_13 hyX12 hnX12_flag rfl (Nat.le_of_ble_eq_true rfl) dX12_keep_75 (G12_flag_met C.2.2.2.2.2.2.2.1 (Nat.le_refl _)  h) (fun r0 μ30 hq => ?_)
    obtain ⟨r31, rfl, h⟩ := hq
    refine x_st [.int r31, .int 2, .int r28, .int ((96 * p1) + x.1), .ref 409] rfl ?_
    refine x_imul C dX12_keep_78 ?_
    refine x_iadd C dX12_keep_79 ?_
    refine x_iconst (v := 4) C (by decide) dX12_keep_80 ?_
    refine x_aload_n C rfl 0 rfl dX12_keep_81 ?_
    refine x_getR (r := 375) C (j := 21) ob358.1 ob358.2 (Nat.le_of_ble_eq_true rfl) (Nat.le_of_ble_eq_true rfl) (fun _ _ _ => rfl) r_358_21 tw_8_227 dX12_keep_82 ?_
    refine x_iload_n C rfl 2 rfl dX12_keep_85 ?_
    obtain ⟨c32, h⟩ := h
    refine x_iald C ob375.1 ob375.2 c32 rfl dX12_keep_86 ?_
    refine x_imul C dX12_keep_87 ?_
    refine x_iadd C dX12_keep_88 ?_
    obtain ⟨c33, h⟩ := h
    refine x_iast C ob409.1 ob409.2 c33 rfl dX12_keep_89 ?_
    refine x_mu (fun μ34 e_μ34 => ?_)
    have h := h μ34 e_μ34
    refine x_iinc (v := (x.1 + 1)) C [(2, .int (x.1 + 1)), (0, .ref 358), (1, .int p1)] 2 rfl (congrArg (fun z => x.1 + z) (by decide : Int32.ofInt (1) = 1)) (Nat.le_of_ble_eq_true rfl) rfl dX12_keep_90 ?_
    refine x_goto (tgt := 41) C dX12_keep_93 (by decide) ?_
    refine x_sub [(0, .ref 358), (1, .int p1), (2, .int (x.1 + 1))] [1, 2, 0] rfl ?_
    exact hK41 _ _ h
theorem G12_keep_L41_ok {p : Program} {e : Env} {s : State} {m : MethodId} {args : Array Value} {below : List Frame} {meth : Method} {c : Code} {l : Launch} {φ : Nat → Nat} {tc : Nat → ClassId} {D : va_G} {s0 : State} {dR : Nat} (C : CX p s m args meth c φ tc D s0 cX12_keep RX12 3) (hd : G12_keep_dep ≤ dR) (hr : meth.sig.returnType = (some .boolean))  {p1 : Int32} {Q : Int32 → MM → Prop}  {x : Int32 × MM}    (h : Lp (G12_keep_L41 p1 Q) x) : WX p l e (rmX dR) s m args below meth c φ tc D 3 (MQ below (QX φ tc D (QI Q)) args s 0 0 (AX φ)) 41 [(0, .ref 358), (1, .int p1), (2, .int x.1)] [] x.2 := by
  obtain ⟨n, h⟩ := h
  induction n generalizing x with
  | zero => exact h.elim
  | succ n ih => exact G12_keep_L41_b C hd hr   (fun z2 zμ hz => by have q := ih hz; exact q) h
set_option maxHeartbeats 4000000 in
set_option maxRecDepth 100000 in
theorem G12_keep_met {l : Launch} {φ : Nat → Nat} {tc : Nat → ClassId} {D : va_G} {s0 : State} (hG : GX φ tc D s0) {dR : Nat} (hd : G12_keep_dep ≤ dR) {v1 : Int32} {μ : MM} {Q : Int32 → MM → Prop}  (h : G12_keep v1 μ Q) : MX l φ tc D s0 dR yX12_keep cX12_keep 3 (some .boolean) [.ref 358, .int v1] μ (QI Q) := by
  refine MX.of (own := RX12) hG plX12 rfl (Nat.le_of_ble_eq_true rfl) (fun p e s m args below meth c C hr => ?_)
  refine x_sub [(0, .ref 358), (1, .int v1)] [0, 1] rfl ?_
  unfold G12_keep at h
  refine x_aload_n C rfl 0 rfl dX12_keep_0 ?_
  refine x_iconst (v := 0) C (by decide) dX12_keep_1 ?_
  refine x_putI C (j := 0) ob358.1 ob358.2 (Nat.le_of_ble_eq_true rfl) (Nat.le_of_ble_eq_true rfl) (Or.inl rfl) rfl rfl rfl tw_8_206 dX12_keep_2 ?_
  refine x_mu (fun μ17 e_μ17 => ?_)
  have h := h μ17 e_μ17
  refine x_iload_n C rfl 1 rfl dX12_keep_5 ?_
  refine x_i2l C dX12_keep_6 ?_
  refine x_lconst (v := 0) C (by decide) dX12_keep_7 ?_
  refine x_ldc2 (v := 2) C tw_7_127 dX12_keep_8 ?_
  refine x_callS (dC := G12_in_dep) (as := [.long (v1.toInt64), .long 0, .long 2]) (st := []) C rfl (Nat.le_trans (Nat.le_of_ble_eq_true rfl) hd) (Nat.le_of_ble_eq_true rfl) tw_6_183 tw_6_182 tc_6_184 tw_1_13 hyX12 hnX12_in rfl (Nat.le_of_ble_eq_true rfl) dX12_keep_11 (G12_in_met C.2.2.2.2.2.2.2.1 (Nat.le_refl _)  h) (fun r0 μ18 hq => ?_)
  obtain ⟨r19, rfl, h⟩ := hq
  refine x_st [.int r19] rfl ?_
  refine x_if_ne (tgt := 19) C dX12_keep_14 (by decide) (fun c20 => ?_) (fun c20 => ?_)
  · have h := h.1 c20
    refine x_aload_n C rfl 0 rfl dX12_keep_19 ?_
    refine x_getR (r := 407) C (j := 68) ob358.1 ob358.2 (Nat.le_of_ble_eq_true rfl) (Nat.le_of_ble_eq_true rfl) (fun _ _ _ => rfl) r_358_68 tw_9_34 dX12_keep_20 ?_
    refine x_iload_n C rfl 1 rfl dX12_keep_23 ?_
    refine x_aload_n C rfl 0 rfl dX12_keep_24 ?_
    refine x_getI C (j := 12) ob358.1 ob358.2 (Nat.le_of_ble_eq_true rfl) (Nat.le_of_ble_eq_true rfl) (Or.inl rfl) tw_8_218 dX12_keep_25 ?_
    obtain ⟨c21, h⟩ := h
    refine x_iast C ob407.1 ob407.2 c21 rfl dX12_keep_28 ?_
    refine x_mu (fun μ22 e_μ22 => ?_)
    have h := h μ22 e_μ22
    refine x_aload_n C rfl 0 rfl dX12_keep_29 ?_
    refine x_getR (r := 408) C (j := 69) ob358.1 ob358.2 (Nat.le_of_ble_eq_true rfl) (Nat.le_of_ble_eq_true rfl) (fun _ _ _ => rfl) r_358_69 tw_9_35 dX12_keep_30 ?_
    refine x_iload_n C rfl 1 rfl dX12_keep_33 ?_
    refine x_aload_n C rfl 0 rfl dX12_keep_34 ?_
    refine x_getI C (j := 22) ob358.1 ob358.2 (Nat.le_of_ble_eq_true rfl) (Nat.le_of_ble_eq_true rfl) (Or.inl rfl) tw_8_228 dX12_keep_35 ?_
    obtain ⟨c23, h⟩ := h
    refine x_iast C ob408.1 ob408.2 c23 rfl dX12_keep_38 ?_
    refine x_mu (fun μ24 e_μ24 => ?_)
    have h := h μ24 e_μ24
    refine x_iconst (v := 0) C (by decide) dX12_keep_39 ?_
    refine x_istore_n C [(2, .int 0), (0, .ref 358), (1, .int v1)] rfl (Nat.le_of_ble_eq_true rfl) rfl dX12_keep_40 ?_
    refine x_sub [(0, .ref 358), (1, .int v1), (2, .int 0)] [1, 2, 0] rfl ?_
    exact G12_keep_L41_ok C hd hr  h
  · have h := h.2 c20
    refine x_iconst (v := 0) C (by decide) dX12_keep_17 ?_
    exact x_zret C hr bo_0 dX12_keep_18 ⟨_, rfl, h⟩
set_option maxHeartbeats 4000000 in
set_option maxRecDepth 100000 in
theorem G12_again_L68_b {p : Program} {e : Env} {s : State} {m : MethodId} {args : Array Value} {below : List Frame} {meth : Method} {c : Code} {l : Launch} {φ : Nat → Nat} {tc : Nat → ClassId} {D : va_G} {s0 : State} {dR : Nat} (C : CX p s m args meth c φ tc D s0 cX12_again RX12 4) (hd : G12_again_dep ≤ dR) (hr : meth.sig.returnType = (some .boolean))  {p1 : Int32} {Q : Int32 → MM → Prop} {K68 : Int32 × MM → Prop} {x : Int32 × MM}   (hK68 : ∀ (z2 : Int32) (zμ : MM), K68 (z2, zμ) → WX p l e (rmX dR) s m args below meth c φ tc D 4 (MQ below (QX φ tc D (QI Q)) args s 0 0 (AX φ)) 68 [(0, .ref 358), (1, .int p1), (2, .int z2)] [] zμ) (h : G12_again_L68 p1 Q K68 x) : WX p l e (rmX dR) s m args below meth c φ tc D 4 (MQ below (QX φ tc D (QI Q)) args s 0 0 (AX φ)) 68 [(0, .ref 358), (1, .int p1), (2, .int x.1)] [] x.2 := by
  unfold G12_again_L68 at h
  refine x_iload_n C rfl 2 rfl dX12_again_68 ?_
  refine x_aload_n C rfl 0 rfl dX12_again_69 ?_
  refine x_getI C (j := 12) ob358.1 ob358.2 (Nat.le_of_ble_eq_true rfl) (Nat.le_of_ble_eq_true rfl) (Or.inl rfl) tw_8_218 dX12_again_70 ?_
  refine x_icmp_ge (tgt := 125) C dX12_again_73 (by decide) (fun c35 => ?_) (fun c35 => ?_)
  · have h := h.1 c35
    refine x_iconst (v := 1) C (by decide) dX12_again_125 ?_
    exact x_zret C hr bo_1 dX12_again_126 ⟨_, rfl, h⟩
  · have h := h.2 c35
    refine x_aload_n C rfl 0 rfl dX12_again_76 ?_
    refine x_getR (r := 409) C (j := 70) ob358.1 ob358.2 (Nat.le_of_ble_eq_true rfl) (Nat.le_of_ble_eq_true rfl) (fun _ _ _ => rfl) r_358_70 tw_9_36 dX12_again_77 ?_
    refine x_bipush (v := 96) C (by decide) dX12_again_80 ?_
    refine x_iload_n C rfl 1 rfl dX12_again_82 ?_
    refine x_imul C dX12_again_83 ?_
    refine x_iload_n C rfl 2 rfl dX12_again_84 ?_
    refine x_iadd C dX12_again_85 ?_
    obtain ⟨c36, h⟩ := h
    refine x_iald C ob409.1 ob409.2 c36 rfl dX12_again_86 ?_
    refine x_topi (fun y37 e_y37 => ?_)
    have h := h y37 e_y37
    refine x_istore_n C [(3, .int y37), (0, .ref 358), (1, .int p1), (2, .int x.1)] rfl (Nat.le_of_ble_eq_true rfl) rfl dX12_again_87 ?_
    refine x_aload_n C rfl 1 rfl dX12_again_88 ?_
    refine x_getR (r := 373) C (j := 19) ob358.1 ob358.2 (Nat.le_of_ble_eq_true rfl) (Nat.le_of_ble_eq_true rfl) (fun _ _ _ => rfl) r_358_19 tw_8_225 dX12_again_89 ?_
    refine x_iload_n C rfl 3 rfl dX12_again_92 ?_
    refine x_iload_n C rfl 0 rfl dX12_again_93 ?_
    refine x_iconst (v := 0) C (by decide) dX12_again_94 ?_
    refine x_callS (dC := G12_has_dep) (as := [.int y37, .int 0]) (st := [.int x.1, .ref 373]) C rfl (Nat.le_trans (Nat.le_of_ble_eq_true rfl) hd) (Nat.le_of_ble_eq_true rfl) tw_7_203 tw_7_202 tc_7_204 tw_1_13 hyX12 hnX12_has rfl (Nat.le_of_ble_eq_true rfl) dX12_again_95 (G12_has_met C.2.2.2.2.2.2.2.1 (Nat.le_refl _)  h) (fun r0 μ38 hq => ?_)
    obtain ⟨r39, rfl, h⟩ := hq
    refine x_st [.int r39, .int x.1, .ref 373] rfl ?_
    obtain ⟨c40, h⟩ := h
    refine x_zast C ob373.1 ob373.2 c40 rfl dX12_again_98 ?_
    refine x_mu (fun μ41 e_μ41 => ?_)
    have h := h μ41 e_μ41
    refine x_aload_n C rfl 1 rfl dX12_again_99 ?_
    refine x_getR (r := 374) C (j := 20) ob358.1 ob358.2 (Nat.le_of_ble_eq_true rfl) (Nat.le_of_ble_eq_true rfl) (fun _ _ _ => rfl) r_358_20 tw_8_226 dX12_again_100 ?_
    refine x_iload_n C rfl 3 rfl dX12_again_103 ?_
    refine x_iload_n C rfl 0 rfl dX12_again_104 ?_
    refine x_iconst (v := 1) C (by decide) dX12_again_105 ?_
    refine x_callS (dC := G12_has_dep) (as := [.int y37, .int 1]) (st := [.int x.1, .ref 374]) C rfl (Nat.le_trans (Nat.le_of_ble_eq_true rfl) hd) (Nat.le_of_ble_eq_true rfl) tw_7_203 tw_7_202 tc_7_204 tw_1_13 hyX12 hnX12_has rfl (Nat.le_of_ble_eq_true rfl) dX12_again_106 (G12_has_met C.2.2.2.2.2.2.2.1 (Nat.le_refl _)  h) (fun r0 μ42 hq => ?_)
    obtain ⟨r43, rfl, h⟩ := hq
    refine x_st [.int r43, .int x.1, .ref 374] rfl ?_
    obtain ⟨c44, h⟩ := h
    refine x_zast C ob374.1 ob374.2 c44 rfl dX12_again_109 ?_
    refine x_mu (fun μ45 e_μ45 => ?_)
    have h := h μ45 e_μ45
    refine x_aload_n C rfl 1 rfl dX12_again_110 ?_
    refine x_getR (r := 375) C (j := 21) ob358.1 ob358.2 (Nat.le_of_ble_eq_true rfl) (Nat.le_of_ble_eq_true rfl) (fun _ _ _ => rfl) r_358_21 tw_8_227 dX12_again_111 ?_
    refine x_iload_n C rfl 3 rfl dX12_again_114 ?_
    refine x_iload_n C rfl 0 rfl dX12_again_115 ?_
    refine x_iconst (v := 2) C (by decide) dX12_again_116 ?_
    refine x_ishr C dX12_again_117 ?_
    obtain ⟨c46, h⟩ := h
    refine x_iast C ob375.1 ob375.2 c46 rfl dX12_again_118 ?_
    refine x_mu (fun μ47 e_μ47 => ?_)
    have h := h μ47 e_μ47
    refine x_iinc (v := (x.1 + 1)) C [(2, .int (x.1 + 1)), (3, .int y37), (0, .ref 358), (1, .int p1)] 3 rfl (congrArg (fun z => x.1 + z) (by decide : Int32.ofInt (1) = 1)) (Nat.le_of_ble_eq_true rfl) rfl dX12_again_119 ?_
    refine x_goto (tgt := 68) C dX12_again_122 (by decide) ?_
    refine x_sub [(0, .ref 358), (1, .int p1), (2, .int (x.1 + 1))] [2, 3, 0] rfl ?_
    exact hK68 _ _ h
theorem G12_again_L68_ok {p : Program} {e : Env} {s : State} {m : MethodId} {args : Array Value} {below : List Frame} {meth : Method} {c : Code} {l : Launch} {φ : Nat → Nat} {tc : Nat → ClassId} {D : va_G} {s0 : State} {dR : Nat} (C : CX p s m args meth c φ tc D s0 cX12_again RX12 4) (hd : G12_again_dep ≤ dR) (hr : meth.sig.returnType = (some .boolean))  {p1 : Int32} {Q : Int32 → MM → Prop}  {x : Int32 × MM}    (h : Lp (G12_again_L68 p1 Q) x) : WX p l e (rmX dR) s m args below meth c φ tc D 4 (MQ below (QX φ tc D (QI Q)) args s 0 0 (AX φ)) 68 [(0, .ref 358), (1, .int p1), (2, .int x.1)] [] x.2 := by
  obtain ⟨n, h⟩ := h
  induction n generalizing x with
  | zero => exact h.elim
  | succ n ih => exact G12_again_L68_b C hd hr   (fun z2 zμ hz => by have q := ih hz; exact q) h
set_option maxHeartbeats 4000000 in
set_option maxRecDepth 100000 in
theorem G12_again_met {l : Launch} {φ : Nat → Nat} {tc : Nat → ClassId} {D : va_G} {s0 : State} (hG : GX φ tc D s0) {dR : Nat} (hd : G12_again_dep ≤ dR) {v1 : Int32} {μ : MM} {Q : Int32 → MM → Prop}  (h : G12_again v1 μ Q) : MX l φ tc D s0 dR yX12_again cX12_again 4 (some .boolean) [.ref 358, .int v1] μ (QI Q) := by
  refine MX.of (own := RX12) hG plX12 rfl (Nat.le_of_ble_eq_true rfl) (fun p e s m args below meth c C hr => ?_)
  refine x_sub [(0, .ref 358), (1, .int v1)] [0, 1] rfl ?_
  unfold G12_again at h
  refine x_aload_n C rfl 0 rfl dX12_again_0 ?_
  refine x_iconst (v := 0) C (by decide) dX12_again_1 ?_
  refine x_putI C (j := 0) ob358.1 ob358.2 (Nat.le_of_ble_eq_true rfl) (Nat.le_of_ble_eq_true rfl) (Or.inl rfl) rfl rfl rfl tw_8_206 dX12_again_2 ?_
  refine x_mu (fun μ22 e_μ22 => ?_)
  have h := h μ22 e_μ22
  refine x_iload_n C rfl 1 rfl dX12_again_5 ?_
  refine x_i2l C dX12_again_6 ?_
  refine x_lconst (v := 0) C (by decide) dX12_again_7 ?_
  refine x_ldc2 (v := 2) C tw_7_127 dX12_again_8 ?_
  refine x_callS (dC := G12_in_dep) (as := [.long (v1.toInt64), .long 0, .long 2]) (st := []) C rfl (Nat.le_trans (Nat.le_of_ble_eq_true rfl) hd) (Nat.le_of_ble_eq_true rfl) tw_6_183 tw_6_182 tc_6_184 tw_1_13 hyX12 hnX12_in rfl (Nat.le_of_ble_eq_true rfl) dX12_again_11 (G12_in_met C.2.2.2.2.2.2.2.1 (Nat.le_refl _)  h) (fun r0 μ23 hq => ?_)
  obtain ⟨r24, rfl, h⟩ := hq
  refine x_st [.int r24] rfl ?_
  refine x_if_eq (tgt := 39) C dX12_again_14 (by decide) (fun c25 => ?_) (fun c25 => ?_)
  · have h := h.1 c25
    refine x_iconst (v := 0) C (by decide) dX12_again_39 ?_
    exact x_zret C hr bo_0 dX12_again_40 ⟨_, rfl, h⟩
  · have h := h.2 c25
    refine x_aload_n C rfl 0 rfl dX12_again_17 ?_
    refine x_getR (r := 407) C (j := 68) ob358.1 ob358.2 (Nat.le_of_ble_eq_true rfl) (Nat.le_of_ble_eq_true rfl) (fun _ _ _ => rfl) r_358_68 tw_9_34 dX12_again_18 ?_
    refine x_iload_n C rfl 1 rfl dX12_again_21 ?_
    obtain ⟨c26, h⟩ := h
    refine x_iald C ob407.1 ob407.2 c26 rfl dX12_again_22 ?_
    refine x_if_lt (tgt := 39) C dX12_again_23 (by decide) (fun c27 => ?_) (fun c27 => ?_)
    · have h := h.1 c27
      refine x_iconst (v := 0) C (by decide) dX12_again_39 ?_
      exact x_zret C hr bo_0 dX12_again_40 ⟨_, rfl, h⟩
    · have h := h.2 c27
      refine x_aload_n C rfl 0 rfl dX12_again_26 ?_
      refine x_getR (r := 407) C (j := 68) ob358.1 ob358.2 (Nat.le_of_ble_eq_true rfl) (Nat.le_of_ble_eq_true rfl) (fun _ _ _ => rfl) r_358_68 tw_9_34 dX12_again_27 ?_
      refine x_iload_n C rfl 1 rfl dX12_again_30 ?_
      obtain ⟨c28, h⟩ := h
      refine x_iald C ob407.1 ob407.2 c28 rfl dX12_again_31 ?_
      refine x_aload_n C rfl 0 rfl dX12_again_32 ?_
      refine x_getI C (j := 12) ob358.1 ob358.2 (Nat.le_of_ble_eq_true rfl) (Nat.le_of_ble_eq_true rfl) (Or.inl rfl) tw_8_218 dX12_again_33 ?_
      refine x_icmp_le (tgt := 41) C dX12_again_36 (by decide) (fun c29 => ?_) (fun c29 => ?_)
      · have h := h.1 c29
        refine x_aload_n C rfl 0 rfl dX12_again_41 ?_
        refine x_aload_n C rfl 0 rfl dX12_again_42 ?_
        refine x_getR (r := 407) C (j := 68) ob358.1 ob358.2 (Nat.le_of_ble_eq_true rfl) (Nat.le_of_ble_eq_true rfl) (fun _ _ _ => rfl) r_358_68 tw_9_34 dX12_again_43 ?_
        refine x_iload_n C rfl 1 rfl dX12_again_46 ?_
        obtain ⟨c30, h⟩ := h
        refine x_iald C ob407.1 ob407.2 c30 rfl dX12_again_47 ?_
        refine x_putI C (j := 12) ob358.1 ob358.2 (Nat.le_of_ble_eq_true rfl) (Nat.le_of_ble_eq_true rfl) (Or.inl rfl) rfl rfl rfl tw_8_218 dX12_again_48 ?_
        refine x_mu (fun μ31 e_μ31 => ?_)
        have h := h μ31 e_μ31
        refine x_aload_n C rfl 0 rfl dX12_again_51 ?_
        refine x_aload_n C rfl 0 rfl dX12_again_52 ?_
        refine x_getR (r := 408) C (j := 69) ob358.1 ob358.2 (Nat.le_of_ble_eq_true rfl) (Nat.le_of_ble_eq_true rfl) (fun _ _ _ => rfl) r_358_69 tw_9_35 dX12_again_53 ?_
        refine x_iload_n C rfl 1 rfl dX12_again_56 ?_
        obtain ⟨c32, h⟩ := h
        refine x_iald C ob408.1 ob408.2 c32 rfl dX12_again_57 ?_
        refine x_putI C (j := 22) ob358.1 ob358.2 (Nat.le_of_ble_eq_true rfl) (Nat.le_of_ble_eq_true rfl) (Or.inl rfl) rfl rfl rfl tw_8_228 dX12_again_58 ?_
        refine x_mu (fun μ33 e_μ33 => ?_)
        have h := h μ33 e_μ33
        refine x_aload_n C rfl 0 rfl dX12_again_61 ?_
        refine x_iconst (v := 0) C (by decide) dX12_again_62 ?_
        refine x_putI C (j := 61) ob358.1 ob358.2 (Nat.le_of_ble_eq_true rfl) (Nat.le_of_ble_eq_true rfl) (Or.inl rfl) rfl rfl rfl tw_9_27 dX12_again_63 ?_
        refine x_mu (fun μ34 e_μ34 => ?_)
        have h := h μ34 e_μ34
        refine x_iconst (v := 0) C (by decide) dX12_again_66 ?_
        refine x_istore_n C [(2, .int 0), (0, .ref 358), (1, .int v1)] rfl (Nat.le_of_ble_eq_true rfl) rfl dX12_again_67 ?_
        refine x_sub [(0, .ref 358), (1, .int v1), (2, .int 0)] [1, 2, 0] rfl ?_
        exact G12_again_L68_ok C hd hr  h
      · have h := h.2 c29
        refine x_iconst (v := 0) C (by decide) dX12_again_39 ?_
        exact x_zret C hr bo_0 dX12_again_40 ⟨_, rfl, h⟩
set_option maxHeartbeats 4000000 in
set_option maxRecDepth 100000 in
theorem G12_toldBits_L4_b {p : Program} {e : Env} {s : State} {m : MethodId} {args : Array Value} {below : List Frame} {meth : Method} {c : Code} {l : Launch} {φ : Nat → Nat} {tc : Nat → ClassId} {D : va_G} {s0 : State} {dR : Nat} (C : CX p s m args meth c φ tc D s0 cX12_toldBits RX12 4) (hd : G12_toldBits_dep ≤ dR) (hr : meth.sig.returnType = (some .int))  {p1 : Int32} {Q : Int32 → MM → Prop} {K4 : Int32 × Int32 × MM → Prop} {x : Int32 × Int32 × MM}   (hK4 : ∀ (z2 : Int32) (z3 : Int32) (zμ : MM), K4 (z2, z3, zμ) → WX p l e (rmX dR) s m args below meth c φ tc D 4 (MQ below (QX φ tc D (QI Q)) args s 0 0 (AX φ)) 4 [(0, .ref 358), (1, .int p1), (2, .int z2), (3, .int z3)] [] zμ) (h : G12_toldBits_L4 p1 Q K4 x) : WX p l e (rmX dR) s m args below meth c φ tc D 4 (MQ below (QX φ tc D (QI Q)) args s 0 0 (AX φ)) 4 [(0, .ref 358), (1, .int p1), (2, .int x.1), (3, .int x.2.1)] [] x.2.2 := by
  unfold G12_toldBits_L4 at h
  refine x_iload_n C rfl 3 rfl dX12_toldBits_4 ?_
  refine x_bipush (v := 6) C (by decide) dX12_toldBits_5 ?_
  refine x_icmp_ge (tgt := 37) C dX12_toldBits_7 (by decide) (fun c2 => ?_) (fun c2 => ?_)
  · have h := h.1 c2
    refine x_iload_n C rfl 2 rfl dX12_toldBits_37 ?_
    exact x_iret C hr dX12_toldBits_38 ⟨_, rfl, h⟩
  · have h := h.2 c2
    refine x_iload_n C rfl 2 rfl dX12_toldBits_10 ?_
    refine x_aload_n C rfl 0 rfl dX12_toldBits_11 ?_
    refine x_getR (r := 378) C (j := 25) ob358.1 ob358.2 (Nat.le_of_ble_eq_true rfl) (Nat.le_of_ble_eq_true rfl) (fun _ _ _ => rfl) r_358_25 tw_8_231 dX12_toldBits_12 ?_
    refine x_iload_n C rfl 1 rfl dX12_toldBits_15 ?_
    refine x_iload_n C rfl 3 rfl dX12_toldBits_16 ?_
    refine x_iadd C dX12_toldBits_17 ?_
    obtain ⟨c3, h⟩ := h
    refine x_iald C ob378.1 ob378.2 c3 rfl dX12_toldBits_18 ?_
    refine x_if_le (tgt := 28) C dX12_toldBits_19 (by decide) (fun c4 => ?_) (fun c4 => ?_)
    · have h := h.1 c4
      refine x_iconst (v := 0) C (by decide) dX12_toldBits_28 ?_
      refine x_ior C dX12_toldBits_29 ?_
      refine x_topi (fun y5 e_y5 => ?_)
      have h := h y5 e_y5
      refine x_istore_n C [(2, .int y5), (0, .ref 358), (1, .int p1), (3, .int x.2.1)] rfl (Nat.le_of_ble_eq_true rfl) rfl dX12_toldBits_30 ?_
      refine x_iinc (v := (x.2.1 + 1)) C [(3, .int (x.2.1 + 1)), (2, .int y5), (0, .ref 358), (1, .int p1)] 3 rfl (congrArg (fun z => x.2.1 + z) (by decide : Int32.ofInt (1) = 1)) (Nat.le_of_ble_eq_true rfl) rfl dX12_toldBits_31 ?_
      refine x_goto (tgt := 4) C dX12_toldBits_34 (by decide) ?_
      refine x_sub [(0, .ref 358), (1, .int p1), (2, .int y5), (3, .int (x.2.1 + 1))] [2, 3, 1, 0] rfl ?_
      exact hK4 _ _ _ h
    · have h := h.2 c4
      refine x_iconst (v := 1) C (by decide) dX12_toldBits_22 ?_
      refine x_iload_n C rfl 3 rfl dX12_toldBits_23 ?_
      refine x_ishl C dX12_toldBits_24 ?_
      refine x_goto (tgt := 29) C dX12_toldBits_25 (by decide) ?_
      refine x_ior C dX12_toldBits_29 ?_
      refine x_topi (fun y6 e_y6 => ?_)
      have h := h y6 e_y6
      refine x_istore_n C [(2, .int y6), (0, .ref 358), (1, .int p1), (3, .int x.2.1)] rfl (Nat.le_of_ble_eq_true rfl) rfl dX12_toldBits_30 ?_
      refine x_iinc (v := (x.2.1 + 1)) C [(3, .int (x.2.1 + 1)), (2, .int y6), (0, .ref 358), (1, .int p1)] 3 rfl (congrArg (fun z => x.2.1 + z) (by decide : Int32.ofInt (1) = 1)) (Nat.le_of_ble_eq_true rfl) rfl dX12_toldBits_31 ?_
      refine x_goto (tgt := 4) C dX12_toldBits_34 (by decide) ?_
      refine x_sub [(0, .ref 358), (1, .int p1), (2, .int y6), (3, .int (x.2.1 + 1))] [2, 3, 1, 0] rfl ?_
      exact hK4 _ _ _ h
theorem G12_toldBits_L4_ok {p : Program} {e : Env} {s : State} {m : MethodId} {args : Array Value} {below : List Frame} {meth : Method} {c : Code} {l : Launch} {φ : Nat → Nat} {tc : Nat → ClassId} {D : va_G} {s0 : State} {dR : Nat} (C : CX p s m args meth c φ tc D s0 cX12_toldBits RX12 4) (hd : G12_toldBits_dep ≤ dR) (hr : meth.sig.returnType = (some .int))  {p1 : Int32} {Q : Int32 → MM → Prop}  {x : Int32 × Int32 × MM}    (h : Lp (G12_toldBits_L4 p1 Q) x) : WX p l e (rmX dR) s m args below meth c φ tc D 4 (MQ below (QX φ tc D (QI Q)) args s 0 0 (AX φ)) 4 [(0, .ref 358), (1, .int p1), (2, .int x.1), (3, .int x.2.1)] [] x.2.2 := by
  obtain ⟨n, h⟩ := h
  induction n generalizing x with
  | zero => exact h.elim
  | succ n ih => exact G12_toldBits_L4_b C hd hr   (fun z2 z3 zμ hz => by have q := ih hz; exact q) h
set_option maxHeartbeats 4000000 in
set_option maxRecDepth 100000 in
theorem G12_toldBits_met {l : Launch} {φ : Nat → Nat} {tc : Nat → ClassId} {D : va_G} {s0 : State} (hG : GX φ tc D s0) {dR : Nat} (hd : G12_toldBits_dep ≤ dR) {v1 : Int32} {μ : MM} {Q : Int32 → MM → Prop}  (h : G12_toldBits v1 μ Q) : MX l φ tc D s0 dR yX12_toldBits cX12_toldBits 4 (some .int) [.ref 358, .int v1] μ (QI Q) := by
  refine MX.of (own := RX12) hG plX12 rfl (Nat.le_of_ble_eq_true rfl) (fun p e s m args below meth c C hr => ?_)
  refine x_sub [(0, .ref 358), (1, .int v1)] [0, 1] rfl ?_
  unfold G12_toldBits at h
  refine x_iconst (v := 0) C (by decide) dX12_toldBits_0 ?_
  refine x_istore_n C [(2, .int 0), (0, .ref 358), (1, .int v1)] rfl (Nat.le_of_ble_eq_true rfl) rfl dX12_toldBits_1 ?_
  refine x_iconst (v := 0) C (by decide) dX12_toldBits_2 ?_
  refine x_istore_n C [(3, .int 0), (2, .int 0), (0, .ref 358), (1, .int v1)] rfl (Nat.le_of_ble_eq_true rfl) rfl dX12_toldBits_3 ?_
  refine x_sub [(0, .ref 358), (1, .int v1), (2, .int 0), (3, .int 0)] [2, 3, 1, 0] rfl ?_
  exact G12_toldBits_L4_ok C hd hr  h
set_option maxHeartbeats 4000000 in
set_option maxRecDepth 100000 in
theorem G12_rungMany_J36_ok {p : Program} {e : Env} {s : State} {m : MethodId} {args : Array Value} {below : List Frame} {meth : Method} {c : Code} {l : Launch} {φ : Nat → Nat} {tc : Nat → ClassId} {D : va_G} {s0 : State} {dR : Nat} (C : CX p s m args meth c φ tc D s0 cX12_rungMany RX12 3) (hd : G12_rungMany_dep ≤ dR) (hr : meth.sig.returnType = (some .int))  {p2 : Int32} {q0 : Int32} {q1 : Int32} {Q : Int32 → MM → Prop} {K4 : Int32 × Int32 × MM → Prop} {μ : MM}   (hK4 : ∀ (z1 : Int32) (z2 : Int32) (zμ : MM), K4 (z1, z2, zμ) → WX p l e (rmX dR) s m args below meth c φ tc D 3 (MQ below (QX φ tc D (QI Q)) args s 0 0 (AX φ)) 4 [(0, .ref 358), (1, .int z1), (2, .int z2)] [] zμ) (h : G12_rungMany_J36 p2 q0 q1 μ K4 Q) : WX p l e (rmX dR) s m args below meth c φ tc D 3 (MQ below (QX φ tc D (QI Q)) args s 0 0 (AX φ)) 36 [(0, .ref 358), (2, .int p2)] [.int q0, .int q1] μ := by
  unfold G12_rungMany_J36 at h
  refine x_callS (dC := G12_flag_dep) (as := [.int q0]) (st := [.int q1]) C rfl (Nat.le_trans (Nat.le_of_ble_eq_true rfl) hd) (Nat.le_of_ble_eq_true rfl) tw_6_212 tw_6_211 tc_6_213 tw_1_13 hyX12 hnX12_flag rfl (Nat.le_of_ble_eq_true rfl) dX12_rungMany_36 (G12_flag_met C.2.2.2.2.2.2.2.1 (Nat.le_refl _)  h) (fun r0 μ8 hq => ?_)
  obtain ⟨r9, rfl, h⟩ := hq
  refine x_st [.int r9, .int q1] rfl ?_
  refine x_iadd C dX12_rungMany_39 ?_
  refine x_topi (fun y10 e_y10 => ?_)
  have h := h y10 e_y10
  refine x_istore_n C [(1, .int y10), (0, .ref 358), (2, .int p2)] rfl (Nat.le_of_ble_eq_true rfl) rfl dX12_rungMany_40 ?_
  refine x_iinc (v := (p2 + 1)) C [(2, .int (p2 + 1)), (1, .int y10), (0, .ref 358)] 2 rfl (congrArg (fun z => p2 + z) (by decide : Int32.ofInt (1) = 1)) (Nat.le_of_ble_eq_true rfl) rfl dX12_rungMany_41 ?_
  refine x_goto (tgt := 4) C dX12_rungMany_44 (by decide) ?_
  refine x_sub [(0, .ref 358), (1, .int y10), (2, .int (p2 + 1))] [2, 1, 0] rfl ?_
  exact hK4 _ _ _ h
set_option maxHeartbeats 4000000 in
set_option maxRecDepth 100000 in
theorem G12_rungMany_J35_ok {p : Program} {e : Env} {s : State} {m : MethodId} {args : Array Value} {below : List Frame} {meth : Method} {c : Code} {l : Launch} {φ : Nat → Nat} {tc : Nat → ClassId} {D : va_G} {s0 : State} {dR : Nat} (C : CX p s m args meth c φ tc D s0 cX12_rungMany RX12 3) (hd : G12_rungMany_dep ≤ dR) (hr : meth.sig.returnType = (some .int))  {p2 : Int32} {q0 : Int32} {Q : Int32 → MM → Prop} {K4 : Int32 × Int32 × MM → Prop} {μ : MM}   (hK4 : ∀ (z1 : Int32) (z2 : Int32) (zμ : MM), K4 (z1, z2, zμ) → WX p l e (rmX dR) s m args below meth c φ tc D 3 (MQ below (QX φ tc D (QI Q)) args s 0 0 (AX φ)) 4 [(0, .ref 358), (1, .int z1), (2, .int z2)] [] zμ) (h : G12_rungMany_J35 p2 q0 μ K4 Q) : WX p l e (rmX dR) s m args below meth c φ tc D 3 (MQ below (QX φ tc D (QI Q)) args s 0 0 (AX φ)) 35 [(0, .ref 358), (2, .int p2)] [.int q0] μ := by
  unfold G12_rungMany_J35 at h
  refine x_iconst (v := 0) C (by decide) dX12_rungMany_35 ?_
  exact G12_rungMany_J36_ok C hd hr hK4 h
set_option maxHeartbeats 4000000 in
set_option maxRecDepth 100000 in
theorem G12_rungMany_L4_b {p : Program} {e : Env} {s : State} {m : MethodId} {args : Array Value} {below : List Frame} {meth : Method} {c : Code} {l : Launch} {φ : Nat → Nat} {tc : Nat → ClassId} {D : va_G} {s0 : State} {dR : Nat} (C : CX p s m args meth c φ tc D s0 cX12_rungMany RX12 3) (hd : G12_rungMany_dep ≤ dR) (hr : meth.sig.returnType = (some .int))   {Q : Int32 → MM → Prop} {K4 : Int32 × Int32 × MM → Prop} {x : Int32 × Int32 × MM}   (hK4 : ∀ (z1 : Int32) (z2 : Int32) (zμ : MM), K4 (z1, z2, zμ) → WX p l e (rmX dR) s m args below meth c φ tc D 3 (MQ below (QX φ tc D (QI Q)) args s 0 0 (AX φ)) 4 [(0, .ref 358), (1, .int z1), (2, .int z2)] [] zμ) (h : G12_rungMany_L4  Q K4 x) : WX p l e (rmX dR) s m args below meth c φ tc D 3 (MQ below (QX φ tc D (QI Q)) args s 0 0 (AX φ)) 4 [(0, .ref 358), (1, .int x.1), (2, .int x.2.1)] [] x.2.2 := by
  unfold G12_rungMany_L4 at h
  refine x_iload_n C rfl 2 rfl dX12_rungMany_4 ?_
  refine x_aload_n C rfl 0 rfl dX12_rungMany_5 ?_
  refine x_getI C (j := 12) ob358.1 ob358.2 (Nat.le_of_ble_eq_true rfl) (Nat.le_of_ble_eq_true rfl) (Or.inl rfl) tw_8_218 dX12_rungMany_6 ?_
  refine x_icmp_ge (tgt := 47) C dX12_rungMany_9 (by decide) (fun c5 => ?_) (fun c5 => ?_)
  · have h := h.1 c5
    refine x_iload_n C rfl 1 rfl dX12_rungMany_47 ?_
    exact x_iret C hr dX12_rungMany_48 ⟨_, rfl, h⟩
  · have h := h.2 c5
    refine x_iload_n C rfl 1 rfl dX12_rungMany_12 ?_
    refine x_aload_n C rfl 0 rfl dX12_rungMany_13 ?_
    refine x_getR (r := 373) C (j := 19) ob358.1 ob358.2 (Nat.le_of_ble_eq_true rfl) (Nat.le_of_ble_eq_true rfl) (fun _ _ _ => rfl) r_358_19 tw_8_225 dX12_rungMany_14 ?_
    refine x_iload_n C rfl 2 rfl dX12_rungMany_17 ?_
    obtain ⟨c6, h⟩ := h
    refine x_zald C ob373.1 ob373.2 c6 rfl dX12_rungMany_18 ?_
    refine x_if_eq (tgt := 35) C dX12_rungMany_19 (by decide) (fun c7 => ?_) (fun c7 => ?_)
    · have h := h.1 c7
      refine x_sub [(0, .ref 358), (2, .int x.2.1)] [0, 2] rfl ?_
      exact G12_rungMany_J35_ok C hd hr hK4 h
    · have h := h.2 c7
      refine x_aload_n C rfl 0 rfl dX12_rungMany_22 ?_
      refine x_getR (r := 374) C (j := 20) ob358.1 ob358.2 (Nat.le_of_ble_eq_true rfl) (Nat.le_of_ble_eq_true rfl) (fun _ _ _ => rfl) r_358_20 tw_8_226 dX12_rungMany_23 ?_
      refine x_iload_n C rfl 2 rfl dX12_rungMany_26 ?_
      obtain ⟨c11, h⟩ := h
      refine x_zald C ob374.1 ob374.2 c11 rfl dX12_rungMany_27 ?_
      refine x_if_eq (tgt := 35) C dX12_rungMany_28 (by decide) (fun c12 => ?_) (fun c12 => ?_)
      · have h := h.1 c12
        refine x_sub [(0, .ref 358), (2, .int x.2.1)] [0, 2] rfl ?_
        exact G12_rungMany_J35_ok C hd hr hK4 h
      · have h := h.2 c12
        refine x_iconst (v := 1) C (by decide) dX12_rungMany_31 ?_
        refine x_goto (tgt := 36) C dX12_rungMany_32 (by decide) ?_
        refine x_sub [(0, .ref 358), (2, .int x.2.1)] [0, 2] rfl ?_
        exact G12_rungMany_J36_ok C hd hr hK4 h
theorem G12_rungMany_L4_ok {p : Program} {e : Env} {s : State} {m : MethodId} {args : Array Value} {below : List Frame} {meth : Method} {c : Code} {l : Launch} {φ : Nat → Nat} {tc : Nat → ClassId} {D : va_G} {s0 : State} {dR : Nat} (C : CX p s m args meth c φ tc D s0 cX12_rungMany RX12 3) (hd : G12_rungMany_dep ≤ dR) (hr : meth.sig.returnType = (some .int))   {Q : Int32 → MM → Prop}  {x : Int32 × Int32 × MM}    (h : Lp (G12_rungMany_L4  Q) x) : WX p l e (rmX dR) s m args below meth c φ tc D 3 (MQ below (QX φ tc D (QI Q)) args s 0 0 (AX φ)) 4 [(0, .ref 358), (1, .int x.1), (2, .int x.2.1)] [] x.2.2 := by
  obtain ⟨n, h⟩ := h
  induction n generalizing x with
  | zero => exact h.elim
  | succ n ih => exact G12_rungMany_L4_b C hd hr   (fun z1 z2 zμ hz => by have q := ih hz; exact q) h
set_option maxHeartbeats 4000000 in
set_option maxRecDepth 100000 in
theorem G12_rungMany_met {l : Launch} {φ : Nat → Nat} {tc : Nat → ClassId} {D : va_G} {s0 : State} (hG : GX φ tc D s0) {dR : Nat} (hd : G12_rungMany_dep ≤ dR)  {μ : MM} {Q : Int32 → MM → Prop}  (h : G12_rungMany  μ Q) : MX l φ tc D s0 dR yX12_rungMany cX12_rungMany 3 (some .int) [.ref 358] μ (QI Q) := by
  refine MX.of (own := RX12) hG plX12 rfl (Nat.le_of_ble_eq_true rfl) (fun p e s m args below meth c C hr => ?_)
  refine x_sub [(0, .ref 358)] [0] rfl ?_
  unfold G12_rungMany at h
  refine x_iconst (v := 0) C (by decide) dX12_rungMany_0 ?_
  refine x_istore_n C [(1, .int 0), (0, .ref 358)] rfl (Nat.le_of_ble_eq_true rfl) rfl dX12_rungMany_1 ?_
  refine x_iconst (v := 0) C (by decide) dX12_rungMany_2 ?_
  refine x_istore_n C [(2, .int 0), (1, .int 0), (0, .ref 358)] rfl (Nat.le_of_ble_eq_true rfl) rfl dX12_rungMany_3 ?_
  refine x_sub [(0, .ref 358), (1, .int 0), (2, .int 0)] [2, 1, 0] rfl ?_
  exact G12_rungMany_L4_ok C hd hr  h
set_option maxHeartbeats 4000000 in
set_option maxRecDepth 100000 in
theorem G12_count_met {l : Launch} {φ : Nat → Nat} {tc : Nat → ClassId} {D : va_G} {s0 : State} (hG : GX φ tc D s0) {dR : Nat} (hd : G12_count_dep ≤ dR) {v1 : Int32} {μ : MM} {Q : Int32 → MM → Prop}  (h : G12_count v1 μ Q) : MX l φ tc D s0 dR yX12_count cX12_count 2 (some .int) [.ref 358, .int v1] μ (QI Q) := by
  refine MX.of (own := RX12) hG plX12 rfl (Nat.le_of_ble_eq_true rfl) (fun p e s m args below meth c C hr => ?_)
  refine x_sub [(0, .ref 358), (1, .int v1)] [0, 1] rfl ?_
  unfold G12_count at h
  refine x_aload_n C rfl 0 rfl dX12_count_0 ?_
  refine x_iconst (v := 0) C (by decide) dX12_count_1 ?_
  refine x_putI C (j := 0) ob358.1 ob358.2 (Nat.le_of_ble_eq_true rfl) (Nat.le_of_ble_eq_true rfl) (Or.inl rfl) rfl rfl rfl tw_8_206 dX12_count_2 ?_
  refine x_mu (fun μ10 e_μ10 => ?_)
  have h := h μ10 e_μ10
  refine x_iload_n C rfl 1 rfl dX12_count_5 ?_
  by_cases c11 : v1 = 0
  · have h := h.1 c11
    refine x_tIn (tgt := 60) C dX12_count_6 (by rw [c11]; decide) (by rw [c11]; decide) (by rw [c11]; rfl) (by decide) ?_
    refine x_aload_n C rfl 0 rfl dX12_count_60 ?_
    refine x_getI C (j := 3) ob358.1 ob358.2 (Nat.le_of_ble_eq_true rfl) (Nat.le_of_ble_eq_true rfl) (Or.inl rfl) tw_8_209 dX12_count_61 ?_
    exact x_iret C hr dX12_count_64 ⟨_, rfl, h⟩
  have h := h.2
  by_cases c12 : v1 = 1
  · have h := h.1 c12
    refine x_tIn (tgt := 65) C dX12_count_6 (by rw [c12]; decide) (by rw [c12]; decide) (by rw [c12]; rfl) (by decide) ?_
    refine x_aload_n C rfl 0 rfl dX12_count_65 ?_
    refine x_getI C (j := 8) ob358.1 ob358.2 (Nat.le_of_ble_eq_true rfl) (Nat.le_of_ble_eq_true rfl) (Or.inl rfl) tw_8_214 dX12_count_66 ?_
    exact x_iret C hr dX12_count_69 ⟨_, rfl, h⟩
  have h := h.2
  by_cases c13 : v1 = 2
  · have h := h.1 c13
    refine x_tIn (tgt := 70) C dX12_count_6 (by rw [c13]; decide) (by rw [c13]; decide) (by rw [c13]; rfl) (by decide) ?_
    refine x_aload_n C rfl 0 rfl dX12_count_70 ?_
    refine x_getI C (j := 12) ob358.1 ob358.2 (Nat.le_of_ble_eq_true rfl) (Nat.le_of_ble_eq_true rfl) (Or.inl rfl) tw_8_218 dX12_count_71 ?_
    exact x_iret C hr dX12_count_74 ⟨_, rfl, h⟩
  have h := h.2
  by_cases c14 : v1 = 3
  · have h := h.1 c14
    refine x_tIn (tgt := 75) C dX12_count_6 (by rw [c14]; decide) (by rw [c14]; decide) (by rw [c14]; rfl) (by decide) ?_
    refine x_aload_n C rfl 0 rfl dX12_count_75 ?_
    refine x_callV (dC := G12_readMany_dep) (as := []) (st := []) C rfl (Nat.le_trans (Nat.le_of_ble_eq_true rfl) hd) (Nat.le_of_ble_eq_true rfl) ob358.1 ob358.2 (Nat.le_of_ble_eq_true rfl) rfl ts_10_3 tw_7_184 tw_7_182 tc_7_185 tw_1_13 hyX12 hnX12_readMany rfl (Nat.le_of_ble_eq_true rfl) dX12_count_76 (G12_readMany_met C.2.2.2.2.2.2.2.1 (Nat.le_refl _)  h) (fun r0 μ15 hq => ?_)
    obtain ⟨r16, rfl, h⟩ := hq
    refine x_st [.int r16] rfl ?_
    exact x_iret C hr dX12_count_79 ⟨_, rfl, h⟩
  have h := h.2
  by_cases c17 : v1 = 4
  · have h := h.1 c17
    refine x_tIn (tgt := 80) C dX12_count_6 (by rw [c17]; decide) (by rw [c17]; decide) (by rw [c17]; rfl) (by decide) ?_
    refine x_aload_n C rfl 0 rfl dX12_count_80 ?_
    refine x_callV (dC := G12_rungMany_dep) (as := []) (st := []) C rfl (Nat.le_trans (Nat.le_of_ble_eq_true rfl) hd) (Nat.le_of_ble_eq_true rfl) ob358.1 ob358.2 (Nat.le_of_ble_eq_true rfl) rfl ts_11_10 tw_8_195 tw_8_193 tc_8_196 tw_1_13 hyX12 hnX12_rungMany rfl (Nat.le_of_ble_eq_true rfl) dX12_count_81 (G12_rungMany_met C.2.2.2.2.2.2.2.1 (Nat.le_refl _)  h) (fun r0 μ18 hq => ?_)
    obtain ⟨r19, rfl, h⟩ := hq
    refine x_st [.int r19] rfl ?_
    exact x_iret C hr dX12_count_84 ⟨_, rfl, h⟩
  have h := h.2
  by_cases c20 : v1 = 5
  · have h := h.1 c20
    refine x_tIn (tgt := 85) C dX12_count_6 (by rw [c20]; decide) (by rw [c20]; decide) (by rw [c20]; rfl) (by decide) ?_
    refine x_aload_n C rfl 0 rfl dX12_count_85 ?_
    refine x_iconst (v := 0) C (by decide) dX12_count_86 ?_
    refine x_callV (dC := G12_toldBits_dep) (as := [.int 0]) (st := []) C rfl (Nat.le_trans (Nat.le_of_ble_eq_true rfl) hd) (Nat.le_of_ble_eq_true rfl) ob358.1 ob358.2 (Nat.le_of_ble_eq_true rfl) rfl ts_11_11 tw_8_199 tw_8_197 tc_8_200 tw_1_13 hyX12 hnX12_toldBits rfl (Nat.le_of_ble_eq_true rfl) dX12_count_87 (G12_toldBits_met C.2.2.2.2.2.2.2.1 (Nat.le_refl _)  h) (fun r0 μ21 hq => ?_)
    obtain ⟨r22, rfl, h⟩ := hq
    refine x_st [.int r22] rfl ?_
    exact x_iret C hr dX12_count_90 ⟨_, rfl, h⟩
  have h := h.2
  by_cases c23 : v1 = 6
  · have h := h.1 c23
    refine x_tIn (tgt := 91) C dX12_count_6 (by rw [c23]; decide) (by rw [c23]; decide) (by rw [c23]; rfl) (by decide) ?_
    refine x_aload_n C rfl 0 rfl dX12_count_91 ?_
    refine x_bipush (v := 6) C (by decide) dX12_count_92 ?_
    refine x_callV (dC := G12_toldBits_dep) (as := [.int 6]) (st := []) C rfl (Nat.le_trans (Nat.le_of_ble_eq_true rfl) hd) (Nat.le_of_ble_eq_true rfl) ob358.1 ob358.2 (Nat.le_of_ble_eq_true rfl) rfl ts_11_11 tw_8_199 tw_8_197 tc_8_200 tw_1_13 hyX12 hnX12_toldBits rfl (Nat.le_of_ble_eq_true rfl) dX12_count_94 (G12_toldBits_met C.2.2.2.2.2.2.2.1 (Nat.le_refl _)  h) (fun r0 μ24 hq => ?_)
    obtain ⟨r25, rfl, h⟩ := hq
    refine x_st [.int r25] rfl ?_
    exact x_iret C hr dX12_count_97 ⟨_, rfl, h⟩
  have h := h.2
  by_cases c26 : v1 = 7
  · have h := h.1 c26
    refine x_tIn (tgt := 98) C dX12_count_6 (by rw [c26]; decide) (by rw [c26]; decide) (by rw [c26]; rfl) (by decide) ?_
    refine x_aload_n C rfl 0 rfl dX12_count_98 ?_
    refine x_getI C (j := 61) ob358.1 ob358.2 (Nat.le_of_ble_eq_true rfl) (Nat.le_of_ble_eq_true rfl) (Or.inl rfl) tw_9_27 dX12_count_99 ?_
    exact x_iret C hr dX12_count_102 ⟨_, rfl, h⟩
  have h := h.2
  by_cases c27 : v1 = 8
  · have h := h.1 c27
    refine x_tIn (tgt := 103) C dX12_count_6 (by rw [c27]; decide) (by rw [c27]; decide) (by rw [c27]; rfl) (by decide) ?_
    refine x_aload_n C rfl 0 rfl dX12_count_103 ?_
    refine x_getI C (j := 1) ob358.1 ob358.2 (Nat.le_of_ble_eq_true rfl) (Nat.le_of_ble_eq_true rfl) (Or.inl rfl) tw_8_207 dX12_count_104 ?_
    exact x_iret C hr dX12_count_107 ⟨_, rfl, h⟩
  have h := h.2
  by_cases c28 : v1 = 9
  · have h := h.1 c28
    refine x_tIn (tgt := 108) C dX12_count_6 (by rw [c28]; decide) (by rw [c28]; decide) (by rw [c28]; rfl) (by decide) ?_
    refine x_aload_n C rfl 0 rfl dX12_count_108 ?_
    refine x_getI C (j := 28) ob358.1 ob358.2 (Nat.le_of_ble_eq_true rfl) (Nat.le_of_ble_eq_true rfl) (Or.inl rfl) tw_8_234 dX12_count_109 ?_
    exact x_iret C hr dX12_count_112 ⟨_, rfl, h⟩
  have h := h.2
  have h := h c11 c12 c13 c14 c17 c20 c23 c26 c27 c28
  have n_c11 := lv_neT (a := 0) c11 (by decide)
  have n_c12 := lv_neT (a := 1) c12 (by decide)
  have n_c13 := lv_neT (a := 2) c13 (by decide)
  have n_c14 := lv_neT (a := 3) c14 (by decide)
  have n_c17 := lv_neT (a := 4) c17 (by decide)
  have n_c20 := lv_neT (a := 5) c20 (by decide)
  have n_c23 := lv_neT (a := 6) c23 (by decide)
  have n_c26 := lv_neT (a := 7) c26 (by decide)
  have n_c27 := lv_neT (a := 8) c27 (by decide)
  have n_c28 := lv_neT (a := 9) c28 (by decide)
  refine x_tOut (tgt := 113) C dX12_count_6 (by omega) (by decide) ?_
  refine x_iconst (v := (-1)) C (by decide) dX12_count_113 ?_
  exact x_iret C hr dX12_count_114 ⟨_, rfl, h⟩
set_option maxHeartbeats 4000000 in
set_option maxRecDepth 100000 in
theorem G12_row_met {l : Launch} {φ : Nat → Nat} {tc : Nat → ClassId} {D : va_G} {s0 : State} (hG : GX φ tc D s0) {dR : Nat} (hd : G12_row_dep ≤ dR) {v1 : Int32} {μ : MM} {Q : Int64 → MM → Prop}  (h : G12_row v1 μ Q) : MX l φ tc D s0 dR yX12_row cX12_row 2 (some .long) [.ref 358, .int v1] μ (QJ Q) := by
  refine MX.of (own := RX12) hG plX12 rfl (Nat.le_of_ble_eq_true rfl) (fun p e s m args below meth c C hr => ?_)
  refine x_sub [(0, .ref 358), (1, .int v1)] [0, 1] rfl ?_
  unfold G12_row at h
  refine x_aload_n C rfl 0 rfl dX12_row_0 ?_
  refine x_iconst (v := 0) C (by decide) dX12_row_1 ?_
  refine x_putI C (j := 0) ob358.1 ob358.2 (Nat.le_of_ble_eq_true rfl) (Nat.le_of_ble_eq_true rfl) (Or.inl rfl) rfl rfl rfl tw_8_206 dX12_row_2 ?_
  refine x_mu (fun μ6 e_μ6 => ?_)
  have h := h μ6 e_μ6
  refine x_iload_n C rfl 1 rfl dX12_row_5 ?_
  refine x_i2l C dX12_row_6 ?_
  refine x_lconst (v := 0) C (by decide) dX12_row_7 ?_
  refine x_aload_n C rfl 0 rfl dX12_row_8 ?_
  refine x_getI C (j := 1) ob358.1 ob358.2 (Nat.le_of_ble_eq_true rfl) (Nat.le_of_ble_eq_true rfl) (Or.inl rfl) tw_8_207 dX12_row_9 ?_
  refine x_iconst (v := 1) C (by decide) dX12_row_12 ?_
  refine x_isub C dX12_row_13 ?_
  refine x_i2l C dX12_row_14 ?_
  refine x_callS (dC := G12_in_dep) (as := [.long (v1.toInt64), .long 0, .long (((gI μ6 358 1) - 1).toInt64)]) (st := []) C rfl (Nat.le_trans (Nat.le_of_ble_eq_true rfl) hd) (Nat.le_of_ble_eq_true rfl) tw_6_183 tw_6_182 tc_6_184 tw_1_13 hyX12 hnX12_in rfl (Nat.le_of_ble_eq_true rfl) dX12_row_15 (G12_in_met C.2.2.2.2.2.2.2.1 (Nat.le_refl _)  h) (fun r0 μ7 hq => ?_)
  obtain ⟨r8, rfl, h⟩ := hq
  refine x_st [.int r8] rfl ?_
  refine x_if_ne (tgt := 28) C dX12_row_18 (by decide) (fun c9 => ?_) (fun c9 => ?_)
  · have h := h.1 c9
    refine x_aload_n C rfl 0 rfl dX12_row_28 ?_
    refine x_getR (r := 359) C (j := 2) ob358.1 ob358.2 (Nat.le_of_ble_eq_true rfl) (Nat.le_of_ble_eq_true rfl) (fun _ _ _ => rfl) r_358_2 tw_8_208 dX12_row_29 ?_
    refine x_iload_n C rfl 1 rfl dX12_row_32 ?_
    obtain ⟨c10, h⟩ := h
    refine x_lald C ob359.1 ob359.2 c10 rfl dX12_row_33 ?_
    exact x_lret C hr dX12_row_34 ⟨_, rfl, h⟩
  · have h := h.2 c9
    refine x_aload_n C rfl 0 rfl dX12_row_21 ?_
    refine x_iconst (v := 1) C (by decide) dX12_row_22 ?_
    refine x_putI C (j := 0) ob358.1 ob358.2 (Nat.le_of_ble_eq_true rfl) (Nat.le_of_ble_eq_true rfl) (Or.inl rfl) rfl rfl rfl tw_8_206 dX12_row_23 ?_
    refine x_mu (fun μ11 e_μ11 => ?_)
    have h := h μ11 e_μ11
    refine x_lconst (v := 0) C (by decide) dX12_row_26 ?_
    exact x_lret C hr dX12_row_27 ⟨_, rfl, h⟩
set_option maxHeartbeats 4000000 in
set_option maxRecDepth 100000 in
theorem G3_isDigit_J16_ok {p : Program} {e : Env} {s : State} {m : MethodId} {args : Array Value} {below : List Frame} {meth : Method} {c : Code} {l : Launch} {φ : Nat → Nat} {tc : Nat → ClassId} {D : va_G} {s0 : State} {dR : Nat} (C : CX p s m args meth c φ tc D s0 cX3_isDigit RX3 1) (hd : G3_isDigit_dep ≤ dR) (hr : meth.sig.returnType = (some .boolean))   {Q : Int32 → MM → Prop}  {μ : MM}    (h : G3_isDigit_J16 μ Q) : WX p l e (rmX dR) s m args below meth c φ tc D 1 (MQ below (QX φ tc D (QI Q)) args s 0 0 (AX φ)) 16 [] [] μ := by
  unfold G3_isDigit_J16 at h
  refine x_iconst (v := 0) C (by decide) dX3_isDigit_16 ?_
  exact x_zret C hr bo_0 dX3_isDigit_17 ⟨_, rfl, h⟩
set_option maxHeartbeats 4000000 in
set_option maxRecDepth 100000 in
theorem G3_isDigit_met {l : Launch} {φ : Nat → Nat} {tc : Nat → ClassId} {D : va_G} {s0 : State} (hG : GX φ tc D s0) {dR : Nat} (hd : G3_isDigit_dep ≤ dR) {v0 : Int32} {μ : MM} {Q : Int32 → MM → Prop}  (h : G3_isDigit v0 μ Q) : MX l φ tc D s0 dR yX3_isDigit cX3_isDigit 1 (some .boolean) [.int v0] μ (QI Q) := by
  refine MX.of (own := RX3) hG plX3 rfl (Nat.le_of_ble_eq_true rfl) (fun p e s m args below meth c C hr => ?_)
  refine x_sub [(0, .int v0)] [0] rfl ?_
  unfold G3_isDigit at h
  refine x_iload_n C rfl 0 rfl dX3_isDigit_0 ?_
  refine x_bipush (v := 48) C (by decide) dX3_isDigit_1 ?_
  refine x_icmp_lt (tgt := 16) C dX3_isDigit_3 (by decide) (fun c1 => ?_) (fun c1 => ?_)
  · have h := h.1 c1
    refine x_sub [] [] rfl ?_
    exact G3_isDigit_J16_ok C hd hr  h
  · have h := h.2 c1
    refine x_iload_n C rfl 0 rfl dX3_isDigit_6 ?_
    refine x_bipush (v := 57) C (by decide) dX3_isDigit_7 ?_
    refine x_icmp_gt (tgt := 16) C dX3_isDigit_9 (by decide) (fun c2 => ?_) (fun c2 => ?_)
    · have h := h.1 c2
      refine x_sub [] [] rfl ?_
      exact G3_isDigit_J16_ok C hd hr  h
    · have h := h.2 c2
      refine x_iconst (v := 1) C (by decide) dX3_isDigit_12 ?_
      refine x_goto (tgt := 17) C dX3_isDigit_13 (by decide) ?_
      exact x_zret C hr bo_1 dX3_isDigit_17 ⟨_, rfl, h⟩
set_option maxHeartbeats 4000000 in
set_option maxRecDepth 100000 in
theorem G3_strength_met {l : Launch} {φ : Nat → Nat} {tc : Nat → ClassId} {D : va_G} {s0 : State} (hG : GX φ tc D s0) {dR : Nat} (hd : G3_strength_dep ≤ dR) {v0 : Int32} {μ : MM} {Q : Int32 → MM → Prop}  (h : G3_strength v0 μ Q) : MX l φ tc D s0 dR yX3_strength cX3_strength 1 (some .int) [.int v0] μ (QI Q) := by
  refine MX.of (own := RX3) hG plX3 rfl (Nat.le_of_ble_eq_true rfl) (fun p e s m args below meth c C hr => ?_)
  refine x_sub [(0, .int v0)] [0] rfl ?_
  unfold G3_strength at h
  refine x_iload_n C rfl 0 rfl dX3_strength_0 ?_
  by_cases c1 : v0 = 33
  · have h := h.1 c1
    refine x_look (tgt := 102) C dX3_strength_1 (by decide) (off := 101) (by rw [c1]; decide) (by decide) ?_
    refine x_bipush (v := 6) C (by decide) dX3_strength_102 ?_
    exact x_iret C hr dX3_strength_104 ⟨_, rfl, h⟩
  have h := h.2
  by_cases c2 : v0 = 38
  · have h := h.1 c2
    refine x_look (tgt := 94) C dX3_strength_1 (by decide) (off := 93) (by rw [c2]; decide) (by decide) ?_
    refine x_iconst (v := 2) C (by decide) dX3_strength_94 ?_
    exact x_iret C hr dX3_strength_95 ⟨_, rfl, h⟩
  have h := h.2
  by_cases c3 : v0 = 42
  · have h := h.1 c3
    refine x_look (tgt := 100) C dX3_strength_1 (by decide) (off := 99) (by rw [c3]; decide) (by decide) ?_
    refine x_iconst (v := 5) C (by decide) dX3_strength_100 ?_
    exact x_iret C hr dX3_strength_101 ⟨_, rfl, h⟩
  have h := h.2
  by_cases c4 : v0 = 43
  · have h := h.1 c4
    refine x_look (tgt := 98) C dX3_strength_1 (by decide) (off := 97) (by rw [c4]; decide) (by decide) ?_
    refine x_iconst (v := 4) C (by decide) dX3_strength_98 ?_
    exact x_iret C hr dX3_strength_99 ⟨_, rfl, h⟩
  have h := h.2
  by_cases c5 : v0 = 45
  · have h := h.1 c5
    refine x_look (tgt := 98) C dX3_strength_1 (by decide) (off := 97) (by rw [c5]; decide) (by decide) ?_
    refine x_iconst (v := 4) C (by decide) dX3_strength_98 ?_
    exact x_iret C hr dX3_strength_99 ⟨_, rfl, h⟩
  have h := h.2
  by_cases c6 : v0 = 60
  · have h := h.1 c6
    refine x_look (tgt := 96) C dX3_strength_1 (by decide) (off := 95) (by rw [c6]; decide) (by decide) ?_
    refine x_iconst (v := 3) C (by decide) dX3_strength_96 ?_
    exact x_iret C hr dX3_strength_97 ⟨_, rfl, h⟩
  have h := h.2
  by_cases c7 : v0 = 61
  · have h := h.1 c7
    refine x_look (tgt := 96) C dX3_strength_1 (by decide) (off := 95) (by rw [c7]; decide) (by decide) ?_
    refine x_iconst (v := 3) C (by decide) dX3_strength_96 ?_
    exact x_iret C hr dX3_strength_97 ⟨_, rfl, h⟩
  have h := h.2
  by_cases c8 : v0 = 62
  · have h := h.1 c8
    refine x_look (tgt := 96) C dX3_strength_1 (by decide) (off := 95) (by rw [c8]; decide) (by decide) ?_
    refine x_iconst (v := 3) C (by decide) dX3_strength_96 ?_
    exact x_iret C hr dX3_strength_97 ⟨_, rfl, h⟩
  have h := h.2
  by_cases c9 : v0 = 124
  · have h := h.1 c9
    refine x_look (tgt := 92) C dX3_strength_1 (by decide) (off := 91) (by rw [c9]; decide) (by decide) ?_
    refine x_iconst (v := 1) C (by decide) dX3_strength_92 ?_
    exact x_iret C hr dX3_strength_93 ⟨_, rfl, h⟩
  have h := h.2
  by_cases c10 : v0 = 126
  · have h := h.1 c10
    refine x_look (tgt := 102) C dX3_strength_1 (by decide) (off := 101) (by rw [c10]; decide) (by decide) ?_
    refine x_bipush (v := 6) C (by decide) dX3_strength_102 ?_
    exact x_iret C hr dX3_strength_104 ⟨_, rfl, h⟩
  have h := h.2
  have h := h c1 c2 c3 c4 c5 c6 c7 c8 c9 c10
  refine x_look (tgt := 105) C dX3_strength_1 (by decide) (off := 104) (by show Op.lookupswitch.offset [(33, 101), (38, 93), (42, 99), (43, 97), (45, 97), (60, 95), (61, 95), (62, 95), (124, 91), (126, 101)] 104 _ = 104; rw [lv_osw c1 (by decide), lv_osw c2 (by decide), lv_osw c3 (by decide), lv_osw c4 (by decide), lv_osw c5 (by decide), lv_osw c6 (by decide), lv_osw c7 (by decide), lv_osw c8 (by decide), lv_osw c9 (by decide), lv_osw c10 (by decide)]; rfl) (by decide) ?_
  refine x_iconst (v := 0) C (by decide) dX3_strength_105 ?_
  exact x_iret C hr dX3_strength_106 ⟨_, rfl, h⟩
set_option maxHeartbeats 4000000 in
set_option maxRecDepth 100000 in
theorem G3_isJoining_met {l : Launch} {φ : Nat → Nat} {tc : Nat → ClassId} {D : va_G} {s0 : State} (hG : GX φ tc D s0) {dR : Nat} (hd : G3_isJoining_dep ≤ dR) {v0 : Int32} {μ : MM} {Q : Int32 → MM → Prop}  (h : G3_isJoining v0 μ Q) : MX l φ tc D s0 dR yX3_isJoining cX3_isJoining 1 (some .boolean) [.int v0] μ (QI Q) := by
  refine MX.of (own := RX3) hG plX3 rfl (Nat.le_of_ble_eq_true rfl) (fun p e s m args below meth c C hr => ?_)
  refine x_sub [(0, .int v0)] [0] rfl ?_
  unfold G3_isJoining at h
  refine x_iload_n C rfl 0 rfl dX3_isJoining_0 ?_
  refine x_callS (dC := G3_strength_dep) (as := [.int v0]) (st := []) C rfl (Nat.le_trans (Nat.le_of_ble_eq_true rfl) hd) (Nat.le_of_ble_eq_true rfl) tw_3_135 tw_3_134 tc_3_136 tw_1_4 hyX3 hnX3_strength rfl (Nat.le_of_ble_eq_true rfl) dX3_isJoining_1 (G3_strength_met C.2.2.2.2.2.2.2.1 (Nat.le_refl _)  h) (fun r0 μ5 hq => ?_)
  obtain ⟨r6, rfl, h⟩ := hq
  refine x_st [.int r6] rfl ?_
  refine x_iconst (v := 1) C (by decide) dX3_isJoining_4 ?_
  refine x_iconst (v := 5) C (by decide) dX3_isJoining_5 ?_
  refine x_callSN (dC := G11_within_dep) (as := [.int r6, .int 1, .int 5]) (st := []) C rfl (Nat.le_trans (Nat.le_of_ble_eq_true rfl) hd) (Nat.le_of_ble_eq_true rfl) tw_2_196 tw_3_140 tc_2_197 tw_1_1 hyX11 hnX11_within rfl (Nat.le_of_ble_eq_true rfl) dX3_isJoining_6 (G11_within_met C.2.2.2.2.2.2.2.1 (Nat.le_refl _)  h) (fun r0 μ7 hq => ?_)
  obtain ⟨r8, rfl, h⟩ := hq
  refine x_st [.int r8] rfl ?_
  exact x_zret C hr h.1 dX3_isJoining_9 ⟨_, rfl, h.2⟩
set_option maxHeartbeats 4000000 in
set_option maxRecDepth 100000 in
theorem G3_put_met {l : Launch} {φ : Nat → Nat} {tc : Nat → ClassId} {D : va_G} {s0 : State} (hG : GX φ tc D s0) {dR : Nat} (hd : G3_put_dep ≤ dR) {t : Nat} {v1 : Int32} {μ : MM} {Q : MM → Prop} (o_t : Ob t 3) (h : G3_put t v1 μ Q) : MX l φ tc D s0 dR yX3_put cX3_put 2 none [.ref t, .int v1] μ (QV Q) := by
  refine MX.of (own := RX3) hG plX3 rfl (Nat.le_of_ble_eq_true rfl) (fun p e s m args below meth c C hr => ?_)
  refine x_sub [(0, .ref t), (1, .int v1)] [0, 1] rfl ?_
  unfold G3_put at h
  refine x_aload_n C rfl 0 rfl dX3_put_0 ?_
  refine x_getI C (j := 1) o_t.1 o_t.2 (Nat.le_of_ble_eq_true rfl) (Nat.le_of_ble_eq_true rfl) (Or.inl rfl) tw_1_110 dX3_put_1 ?_
  refine x_bipush (v := 40) C (by decide) dX3_put_4 ?_
  refine x_icmp_ge (tgt := 29) C dX3_put_6 (by decide) (fun c4 => ?_) (fun c4 => ?_)
  · have h := h.1 c4
    exact x_vret C hr dX3_put_29 ⟨rfl, h⟩
  · have h := h.2 c4
    refine x_aload_n C rfl 0 rfl dX3_put_9 ?_
    refine x_getR (r := (t + 1)) C (j := 0) o_t.1 o_t.2 (Nat.le_of_ble_eq_true rfl) (Nat.le_of_ble_eq_true rfl) (fun _ _ _ => rfl) (rF3_0 o_t) tw_1_109 dX3_put_10 ?_
    refine x_aload_n C rfl 0 rfl dX3_put_13 ?_
    refine x_getI C (j := 1) o_t.1 o_t.2 (Nat.le_of_ble_eq_true rfl) (Nat.le_of_ble_eq_true rfl) (Or.inl rfl) tw_1_110 dX3_put_14 ?_
    refine x_iload_n C rfl 1 rfl dX3_put_17 ?_
    obtain ⟨c5, h⟩ := h
    refine x_iast C (obF3_0 o_t).1 (obF3_0 o_t).2 (by rw [lnF3_0 o_t]; exact c5) rfl dX3_put_18 ?_
    refine x_mu (fun μ6 e_μ6 => ?_)
    have h := h μ6 e_μ6
    refine x_aload_n C rfl 0 rfl dX3_put_19 ?_
    refine x_dup C rfl dX3_put_20 ?_
    refine x_getI C (j := 1) o_t.1 o_t.2 (Nat.le_of_ble_eq_true rfl) (Nat.le_of_ble_eq_true rfl) (Or.inl rfl) tw_1_110 dX3_put_21 ?_
    refine x_iconst (v := 1) C (by decide) dX3_put_24 ?_
    refine x_iadd C dX3_put_25 ?_
    refine x_putI C (j := 1) o_t.1 o_t.2 (Nat.le_of_ble_eq_true rfl) (Nat.le_of_ble_eq_true rfl) (Or.inl rfl) rfl rfl rfl tw_1_110 dX3_put_26 ?_
    refine x_mu (fun μ7 e_μ7 => ?_)
    have h := h μ7 e_μ7
    exact x_vret C hr dX3_put_29 ⟨rfl, h⟩
set_option maxHeartbeats 4000000 in
set_option maxRecDepth 100000 in
theorem G3_putDigit_J41_ok {p : Program} {e : Env} {s : State} {m : MethodId} {args : Array Value} {below : List Frame} {meth : Method} {c : Code} {l : Launch} {φ : Nat → Nat} {tc : Nat → ClassId} {D : va_G} {s0 : State} {dR : Nat} (C : CX p s m args meth c φ tc D s0 cX3_putDigit RX3 3) (hd : G3_putDigit_dep ≤ dR) (hr : meth.sig.returnType = none) {t : Nat} {p1 : Int32} {Q : MM → Prop}  {μ : MM} (o_t : Ob t 3)   (h : G3_putDigit_J41 t p1 μ Q) : WX p l e (rmX dR) s m args below meth c φ tc D 3 (MQ below (QX φ tc D (QV Q)) args s 0 0 (AX φ)) 41 [(0, .ref t), (1, .int p1)] [] μ := by
  unfold G3_putDigit_J41 at h
  refine x_aload_n C rfl 0 rfl dX3_putDigit_41 ?_
  refine x_iload_n C rfl 1 rfl dX3_putDigit_42 ?_
  refine x_callV (dC := G3_put_dep) (as := [.int p1]) (st := []) C rfl (Nat.le_trans (Nat.le_of_ble_eq_true rfl) hd) (Nat.le_of_ble_eq_true rfl) o_t.1 o_t.2 (Nat.le_of_ble_eq_true rfl) rfl ts_1_15 tw_3_151 tw_3_149 tc_3_152 tw_1_4 hyX3 hnX3_put rfl (Nat.le_of_ble_eq_true rfl) dX3_putDigit_43 (G3_put_met C.2.2.2.2.2.2.2.1 (Nat.le_refl _) o_t h) (fun r0 μ6 hq => ?_)
  obtain ⟨rfl, h⟩ := hq
  refine x_st [] rfl ?_
  exact x_vret C hr dX3_putDigit_46 ⟨rfl, h⟩
set_option maxHeartbeats 4000000 in
set_option maxRecDepth 100000 in
theorem G3_putDigit_met {l : Launch} {φ : Nat → Nat} {tc : Nat → ClassId} {D : va_G} {s0 : State} (hG : GX φ tc D s0) {dR : Nat} (hd : G3_putDigit_dep ≤ dR) {t : Nat} {v1 : Int32} {v2 : Int32} {μ : MM} {Q : MM → Prop} (o_t : Ob t 3) (h : G3_putDigit t v1 v2 μ Q) : MX l φ tc D s0 dR yX3_putDigit cX3_putDigit 3 none [.ref t, .int v1, .int v2] μ (QV Q) := by
  refine MX.of (own := RX3) hG plX3 rfl (Nat.le_of_ble_eq_true rfl) (fun p e s m args below meth c C hr => ?_)
  refine x_sub [(0, .ref t), (1, .int v1), (2, .int v2)] [0, 1, 2] rfl ?_
  unfold G3_putDigit at h
  refine x_iload_n C rfl 2 rfl dX3_putDigit_0 ?_
  refine x_if_eq (tgt := 41) C dX3_putDigit_1 (by decide) (fun c5 => ?_) (fun c5 => ?_)
  · have h := h.1 c5
    refine x_sub [(0, .ref t), (1, .int v1)] [0, 1] rfl ?_
    exact G3_putDigit_J41_ok C hd hr o_t h
  · have h := h.2 c5
    refine x_aload_n C rfl 0 rfl dX3_putDigit_4 ?_
    refine x_getI C (j := 1) o_t.1 o_t.2 (Nat.le_of_ble_eq_true rfl) (Nat.le_of_ble_eq_true rfl) (Or.inl rfl) tw_1_110 dX3_putDigit_5 ?_
    refine x_if_le (tgt := 41) C dX3_putDigit_8 (by decide) (fun c7 => ?_) (fun c7 => ?_)
    · have h := h.1 c7
      refine x_sub [(0, .ref t), (1, .int v1)] [0, 1] rfl ?_
      exact G3_putDigit_J41_ok C hd hr o_t h
    · have h := h.2 c7
      refine x_aload_n C rfl 0 rfl dX3_putDigit_11 ?_
      refine x_getR (r := (t + 1)) C (j := 0) o_t.1 o_t.2 (Nat.le_of_ble_eq_true rfl) (Nat.le_of_ble_eq_true rfl) (fun _ _ _ => rfl) (rF3_0 o_t) tw_1_109 dX3_putDigit_12 ?_
      refine x_aload_n C rfl 0 rfl dX3_putDigit_15 ?_
      refine x_getI C (j := 1) o_t.1 o_t.2 (Nat.le_of_ble_eq_true rfl) (Nat.le_of_ble_eq_true rfl) (Or.inl rfl) tw_1_110 dX3_putDigit_16 ?_
      refine x_iconst (v := 1) C (by decide) dX3_putDigit_19 ?_
      refine x_isub C dX3_putDigit_20 ?_
      refine x_aload_n C rfl 0 rfl dX3_putDigit_21 ?_
      refine x_getR (r := (t + 1)) C (j := 0) o_t.1 o_t.2 (Nat.le_of_ble_eq_true rfl) (Nat.le_of_ble_eq_true rfl) (fun _ _ _ => rfl) (rF3_0 o_t) tw_1_109 dX3_putDigit_22 ?_
      refine x_aload_n C rfl 0 rfl dX3_putDigit_25 ?_
      refine x_getI C (j := 1) o_t.1 o_t.2 (Nat.le_of_ble_eq_true rfl) (Nat.le_of_ble_eq_true rfl) (Or.inl rfl) tw_1_110 dX3_putDigit_26 ?_
      refine x_iconst (v := 1) C (by decide) dX3_putDigit_29 ?_
      refine x_isub C dX3_putDigit_30 ?_
      obtain ⟨c8, h⟩ := h
      refine x_iald C (obF3_0 o_t).1 (obF3_0 o_t).2 (by rw [lnF3_0 o_t]; exact c8) rfl dX3_putDigit_31 ?_
      refine x_bipush (v := 10) C (by decide) dX3_putDigit_32 ?_
      refine x_imul C dX3_putDigit_34 ?_
      refine x_iload_n C rfl 1 rfl dX3_putDigit_35 ?_
      refine x_iadd C dX3_putDigit_36 ?_
      obtain ⟨c9, h⟩ := h
      refine x_iast C (obF3_0 o_t).1 (obF3_0 o_t).2 (by rw [lnF3_0 o_t]; exact c9) rfl dX3_putDigit_37 ?_
      refine x_mu (fun μ10 e_μ10 => ?_)
      have h := h μ10 e_μ10
      refine x_goto (tgt := 46) C dX3_putDigit_38 (by decide) ?_
      exact x_vret C hr dX3_putDigit_46 ⟨rfl, h⟩
set_option maxHeartbeats 4000000 in
set_option maxRecDepth 100000 in
theorem G3_putStronger_L0_b {p : Program} {e : Env} {s : State} {m : MethodId} {args : Array Value} {below : List Frame} {meth : Method} {c : Code} {l : Launch} {φ : Nat → Nat} {tc : Nat → ClassId} {D : va_G} {s0 : State} {dR : Nat} (C : CX p s m args meth c φ tc D s0 cX3_putStronger RX3 2) (hd : G3_putStronger_dep ≤ dR) (hr : meth.sig.returnType = none) {t : Nat} {p1 : Int32} {Q : MM → Prop} {K0 : MM → Prop} {x : MM} (o_t : Ob t 3)  (hK0 : ∀ (zμ : MM), K0 zμ → WX p l e (rmX dR) s m args below meth c φ tc D 2 (MQ below (QX φ tc D (QV Q)) args s 0 0 (AX φ)) 0 [(0, .ref t), (1, .int p1)] [] zμ) (h : G3_putStronger_L0 t p1 Q K0 x) : WX p l e (rmX dR) s m args below meth c φ tc D 2 (MQ below (QX φ tc D (QV Q)) args s 0 0 (AX φ)) 0 [(0, .ref t), (1, .int p1)] [] x := by
  unfold G3_putStronger_L0 at h
  refine x_aload_n C rfl 0 rfl dX3_putStronger_0 ?_
  refine x_getI C (j := 3) o_t.1 o_t.2 (Nat.le_of_ble_eq_true rfl) (Nat.le_of_ble_eq_true rfl) (Or.inl rfl) tw_1_112 dX3_putStronger_1 ?_
  refine x_if_le (tgt := 37) C dX3_putStronger_4 (by decide) (fun c7 => ?_) (fun c7 => ?_)
  · have h := h.1 c7
    exact x_vret C hr dX3_putStronger_37 ⟨rfl, h⟩
  · have h := h.2 c7
    refine x_aload_n C rfl 0 rfl dX3_putStronger_7 ?_
    refine x_getR (r := (t + 2)) C (j := 2) o_t.1 o_t.2 (Nat.le_of_ble_eq_true rfl) (Nat.le_of_ble_eq_true rfl) (fun _ _ _ => rfl) (rF3_2 o_t) tw_1_111 dX3_putStronger_8 ?_
    refine x_aload_n C rfl 0 rfl dX3_putStronger_11 ?_
    refine x_getI C (j := 3) o_t.1 o_t.2 (Nat.le_of_ble_eq_true rfl) (Nat.le_of_ble_eq_true rfl) (Or.inl rfl) tw_1_112 dX3_putStronger_12 ?_
    refine x_iconst (v := 1) C (by decide) dX3_putStronger_15 ?_
    refine x_isub C dX3_putStronger_16 ?_
    obtain ⟨c8, h⟩ := h
    refine x_iald C (obF3_2 o_t).1 (obF3_2 o_t).2 (by rw [lnF3_2 o_t]; exact c8) rfl dX3_putStronger_17 ?_
    refine x_callS (dC := G3_strength_dep) (as := [.int (gI x (t + 2) (((gI x t 3) - 1).toNatClampNeg))]) (st := []) C rfl (Nat.le_trans (Nat.le_of_ble_eq_true rfl) hd) (Nat.le_of_ble_eq_true rfl) tw_3_135 tw_3_134 tc_3_136 tw_1_4 hyX3 hnX3_strength rfl (Nat.le_of_ble_eq_true rfl) dX3_putStronger_18 (G3_strength_met C.2.2.2.2.2.2.2.1 (Nat.le_refl _)  h) (fun r0 μ9 hq => ?_)
    obtain ⟨r10, rfl, h⟩ := hq
    refine x_st [.int r10] rfl ?_
    refine x_iload_n C rfl 1 rfl dX3_putStronger_21 ?_
    refine x_icmp_lt (tgt := 37) C dX3_putStronger_22 (by decide) (fun c11 => ?_) (fun c11 => ?_)
    · have h := h.1 c11
      exact x_vret C hr dX3_putStronger_37 ⟨rfl, h⟩
    · have h := h.2 c11
      refine x_aload_n C rfl 0 rfl dX3_putStronger_25 ?_
      refine x_aload_n C rfl 0 rfl dX3_putStronger_26 ?_
      refine x_callV (dC := G3_pop_dep) (as := []) (st := [.ref t]) C rfl (Nat.le_trans (Nat.le_of_ble_eq_true rfl) hd) (Nat.le_of_ble_eq_true rfl) o_t.1 o_t.2 (Nat.le_of_ble_eq_true rfl) rfl ts_2_2 tw_3_163 tw_3_161 tc_3_164 tw_1_4 hyX3 hnX3_pop rfl (Nat.le_of_ble_eq_true rfl) dX3_putStronger_27 (G3_pop_met C.2.2.2.2.2.2.2.1 (Nat.le_refl _) o_t h) (fun r0 μ12 hq => ?_)
      obtain ⟨r13, rfl, h⟩ := hq
      refine x_st [.int r13, .ref t] rfl ?_
      refine x_ineg C dX3_putStronger_30 ?_
      refine x_callV (dC := G3_put_dep) (as := [.int (-r13)]) (st := []) C rfl (Nat.le_trans (Nat.le_of_ble_eq_true rfl) hd) (Nat.le_of_ble_eq_true rfl) o_t.1 o_t.2 (Nat.le_of_ble_eq_true rfl) rfl ts_1_15 tw_3_151 tw_3_149 tc_3_152 tw_1_4 hyX3 hnX3_put rfl (Nat.le_of_ble_eq_true rfl) dX3_putStronger_31 (G3_put_met C.2.2.2.2.2.2.2.1 (Nat.le_refl _) o_t h) (fun r0 μ14 hq => ?_)
      obtain ⟨rfl, h⟩ := hq
      refine x_st [] rfl ?_
      refine x_goto (tgt := 0) C dX3_putStronger_34 (by decide) ?_
      exact hK0 _ h
theorem G3_putStronger_L0_ok {p : Program} {e : Env} {s : State} {m : MethodId} {args : Array Value} {below : List Frame} {meth : Method} {c : Code} {l : Launch} {φ : Nat → Nat} {tc : Nat → ClassId} {D : va_G} {s0 : State} {dR : Nat} (C : CX p s m args meth c φ tc D s0 cX3_putStronger RX3 2) (hd : G3_putStronger_dep ≤ dR) (hr : meth.sig.returnType = none) {t : Nat} {p1 : Int32} {Q : MM → Prop}  {x : MM} (o_t : Ob t 3)   (h : Lp (G3_putStronger_L0 t p1 Q) x) : WX p l e (rmX dR) s m args below meth c φ tc D 2 (MQ below (QX φ tc D (QV Q)) args s 0 0 (AX φ)) 0 [(0, .ref t), (1, .int p1)] [] x := by
  obtain ⟨n, h⟩ := h
  induction n generalizing x with
  | zero => exact h.elim
  | succ n ih => exact G3_putStronger_L0_b C hd hr o_t  (fun zμ hz => by have q := ih hz; exact q) h
set_option maxHeartbeats 4000000 in
set_option maxRecDepth 100000 in
theorem G3_putStronger_met {l : Launch} {φ : Nat → Nat} {tc : Nat → ClassId} {D : va_G} {s0 : State} (hG : GX φ tc D s0) {dR : Nat} (hd : G3_putStronger_dep ≤ dR) {t : Nat} {v1 : Int32} {μ : MM} {Q : MM → Prop} (o_t : Ob t 3) (h : G3_putStronger t v1 μ Q) : MX l φ tc D s0 dR yX3_putStronger cX3_putStronger 2 none [.ref t, .int v1] μ (QV Q) := by
  refine MX.of (own := RX3) hG plX3 rfl (Nat.le_of_ble_eq_true rfl) (fun p e s m args below meth c C hr => ?_)
  refine x_sub [(0, .ref t), (1, .int v1)] [0, 1] rfl ?_
  unfold G3_putStronger at h
  exact G3_putStronger_L0_ok C hd hr o_t h
set_option maxHeartbeats 4000000 in
set_option maxRecDepth 100000 in
theorem G5_told_met {l : Launch} {φ : Nat → Nat} {tc : Nat → ClassId} {D : va_G} {s0 : State} (hG : GX φ tc D s0) {dR : Nat} (hd : G5_told_dep ≤ dR) {t : Nat} {v1 : Int32} {μ : MM} {Q : Int32 → MM → Prop} (o_t : Ob t 5) (h : G5_told t v1 μ Q) : MX l φ tc D s0 dR yX5_told cX5_told 2 (some .int) [.ref t, .int v1] μ (QI Q) := by
  refine MX.of (own := RX5) hG plX5 rfl (Nat.le_of_ble_eq_true rfl) (fun p e s m args below meth c C hr => ?_)
  refine x_sub [(0, .ref t), (1, .int v1)] [0, 1] rfl ?_
  unfold G5_told at h
  refine x_iload_n C rfl 1 rfl dX5_told_0 ?_
  by_cases c1 : v1 = 0
  · have h := h.1 c1
    refine x_tIn (tgt := 48) C dX5_told_1 (by rw [c1]; decide) (by rw [c1]; decide) (by rw [c1]; rfl) (by decide) ?_
    refine x_aload_n C rfl 0 rfl dX5_told_48 ?_
    refine x_getI C (j := 0) o_t.1 o_t.2 (Nat.le_of_ble_eq_true rfl) (Nat.le_of_ble_eq_true rfl) (Or.inl rfl) tw_1_53 dX5_told_49 ?_
    exact x_iret C hr dX5_told_52 ⟨_, rfl, h⟩
  have h := h.2
  by_cases c2 : v1 = 1
  · have h := h.1 c2
    refine x_tIn (tgt := 53) C dX5_told_1 (by rw [c2]; decide) (by rw [c2]; decide) (by rw [c2]; rfl) (by decide) ?_
    refine x_aload_n C rfl 0 rfl dX5_told_53 ?_
    refine x_getI C (j := 1) o_t.1 o_t.2 (Nat.le_of_ble_eq_true rfl) (Nat.le_of_ble_eq_true rfl) (Or.inl rfl) tw_1_55 dX5_told_54 ?_
    exact x_iret C hr dX5_told_57 ⟨_, rfl, h⟩
  have h := h.2
  by_cases c3 : v1 = 2
  · have h := h.1 c3
    refine x_tIn (tgt := 58) C dX5_told_1 (by rw [c3]; decide) (by rw [c3]; decide) (by rw [c3]; rfl) (by decide) ?_
    refine x_aload_n C rfl 0 rfl dX5_told_58 ?_
    refine x_getI C (j := 2) o_t.1 o_t.2 (Nat.le_of_ble_eq_true rfl) (Nat.le_of_ble_eq_true rfl) (Or.inl rfl) tw_1_58 dX5_told_59 ?_
    exact x_iret C hr dX5_told_62 ⟨_, rfl, h⟩
  have h := h.2
  by_cases c4 : v1 = 3
  · have h := h.1 c4
    refine x_tIn (tgt := 63) C dX5_told_1 (by rw [c4]; decide) (by rw [c4]; decide) (by rw [c4]; rfl) (by decide) ?_
    refine x_aload_n C rfl 0 rfl dX5_told_63 ?_
    refine x_getI C (j := 3) o_t.1 o_t.2 (Nat.le_of_ble_eq_true rfl) (Nat.le_of_ble_eq_true rfl) (Or.inl rfl) tw_1_62 dX5_told_64 ?_
    exact x_iret C hr dX5_told_67 ⟨_, rfl, h⟩
  have h := h.2
  by_cases c5 : v1 = 4
  · have h := h.1 c5
    refine x_tIn (tgt := 68) C dX5_told_1 (by rw [c5]; decide) (by rw [c5]; decide) (by rw [c5]; rfl) (by decide) ?_
    refine x_aload_n C rfl 0 rfl dX5_told_68 ?_
    refine x_getI C (j := 4) o_t.1 o_t.2 (Nat.le_of_ble_eq_true rfl) (Nat.le_of_ble_eq_true rfl) (Or.inl rfl) tw_1_65 dX5_told_69 ?_
    exact x_iret C hr dX5_told_72 ⟨_, rfl, h⟩
  have h := h.2
  by_cases c6 : v1 = 5
  · have h := h.1 c6
    refine x_tIn (tgt := 73) C dX5_told_1 (by rw [c6]; decide) (by rw [c6]; decide) (by rw [c6]; rfl) (by decide) ?_
    refine x_aload_n C rfl 0 rfl dX5_told_73 ?_
    refine x_getI C (j := 5) o_t.1 o_t.2 (Nat.le_of_ble_eq_true rfl) (Nat.le_of_ble_eq_true rfl) (Or.inl rfl) tw_1_67 dX5_told_74 ?_
    exact x_iret C hr dX5_told_77 ⟨_, rfl, h⟩
  have h := h.2
  by_cases c7 : v1 = 6
  · have h := h.1 c7
    refine x_tIn (tgt := 78) C dX5_told_1 (by rw [c7]; decide) (by rw [c7]; decide) (by rw [c7]; rfl) (by decide) ?_
    refine x_aload_n C rfl 0 rfl dX5_told_78 ?_
    refine x_getI C (j := 6) o_t.1 o_t.2 (Nat.le_of_ble_eq_true rfl) (Nat.le_of_ble_eq_true rfl) (Or.inr rfl) tw_1_70 dX5_told_79 ?_
    refine x_if_eq (tgt := 89) C dX5_told_82 (by decide) (fun c8 => ?_) (fun c8 => ?_)
    · have h := h.1 c8
      refine x_iconst (v := 0) C (by decide) dX5_told_89 ?_
      exact x_iret C hr dX5_told_90 ⟨_, rfl, h⟩
    · have h := h.2 c8
      refine x_iconst (v := 1) C (by decide) dX5_told_85 ?_
      refine x_goto (tgt := 90) C dX5_told_86 (by decide) ?_
      exact x_iret C hr dX5_told_90 ⟨_, rfl, h⟩
  have h := h.2
  by_cases c9 : v1 = 7
  · have h := h.1 c9
    refine x_tIn (tgt := 91) C dX5_told_1 (by rw [c9]; decide) (by rw [c9]; decide) (by rw [c9]; rfl) (by decide) ?_
    refine x_aload_n C rfl 0 rfl dX5_told_91 ?_
    refine x_getI C (j := 7) o_t.1 o_t.2 (Nat.le_of_ble_eq_true rfl) (Nat.le_of_ble_eq_true rfl) (Or.inr rfl) tw_1_77 dX5_told_92 ?_
    refine x_if_eq (tgt := 102) C dX5_told_95 (by decide) (fun c10 => ?_) (fun c10 => ?_)
    · have h := h.1 c10
      refine x_iconst (v := 0) C (by decide) dX5_told_102 ?_
      exact x_iret C hr dX5_told_103 ⟨_, rfl, h⟩
    · have h := h.2 c10
      refine x_iconst (v := 1) C (by decide) dX5_told_98 ?_
      refine x_goto (tgt := 103) C dX5_told_99 (by decide) ?_
      exact x_iret C hr dX5_told_103 ⟨_, rfl, h⟩
  have h := h.2
  have h := h c1 c2 c3 c4 c5 c6 c7 c9
  have n_c1 := lv_neT (a := 0) c1 (by decide)
  have n_c2 := lv_neT (a := 1) c2 (by decide)
  have n_c3 := lv_neT (a := 2) c3 (by decide)
  have n_c4 := lv_neT (a := 3) c4 (by decide)
  have n_c5 := lv_neT (a := 4) c5 (by decide)
  have n_c6 := lv_neT (a := 5) c6 (by decide)
  have n_c7 := lv_neT (a := 6) c7 (by decide)
  have n_c9 := lv_neT (a := 7) c9 (by decide)
  refine x_tOut (tgt := 104) C dX5_told_1 (by omega) (by decide) ?_
  refine x_aload_n C rfl 0 rfl dX5_told_104 ?_
  refine x_getI C (j := 8) o_t.1 o_t.2 (Nat.le_of_ble_eq_true rfl) (Nat.le_of_ble_eq_true rfl) (Or.inl rfl) tw_1_81 dX5_told_105 ?_
  exact x_iret C hr dX5_told_108 ⟨_, rfl, h⟩
set_option maxHeartbeats 4000000 in
set_option maxRecDepth 100000 in
theorem G10_isFree_L3_b {p : Program} {e : Env} {s : State} {m : MethodId} {args : Array Value} {below : List Frame} {meth : Method} {c : Code} {l : Launch} {φ : Nat → Nat} {tc : Nat → ClassId} {D : va_G} {s0 : State} {dR : Nat} (C : CX p s m args meth c φ tc D s0 cX10_isFree RX10 5) (hd : G10_isFree_dep ≤ dR) (hr : meth.sig.returnType = (some .boolean))  {p1 : Int32} {p2 : Int32} {p3 : Int32} {Q : Int32 → MM → Prop} {K3 : Int32 × MM → Prop} {x : Int32 × MM}   (hK3 : ∀ (z4 : Int32) (zμ : MM), K3 (z4, zμ) → WX p l e (rmX dR) s m args below meth c φ tc D 5 (MQ below (QX φ tc D (QI Q)) args s 0 0 (AX φ)) 3 [(0, .ref 1), (1, .int p1), (2, .int p2), (3, .int p3), (4, .int z4)] [] zμ) (h : G10_isFree_L3 p1 p2 p3 Q K3 x) : WX p l e (rmX dR) s m args below meth c φ tc D 5 (MQ below (QX φ tc D (QI Q)) args s 0 0 (AX φ)) 3 [(0, .ref 1), (1, .int p1), (2, .int p2), (3, .int p3), (4, .int x.1)] [] x.2 := by
  unfold G10_isFree_L3 at h
  refine x_iload C 4 rfl dX10_isFree_3 ?_
  refine x_aload_n C rfl 0 rfl dX10_isFree_5 ?_
  refine x_getI C (j := 10) ob1.1 ob1.2 (Nat.le_of_ble_eq_true rfl) (Nat.le_of_ble_eq_true rfl) (Or.inl rfl) tw_1_153 dX10_isFree_6 ?_
  refine x_icmp_ge (tgt := 48) C dX10_isFree_9 (by decide) (fun c4 => ?_) (fun c4 => ?_)
  · have h := h.1 c4
    refine x_aload_n C rfl 0 rfl dX10_isFree_48 ?_
    refine x_getR (r := 2) C (j := 0) ob1.1 ob1.2 (Nat.le_of_ble_eq_true rfl) (Nat.le_of_ble_eq_true rfl) (fun _ _ _ => rfl) r_1_0 tw_1_122 dX10_isFree_49 ?_
    refine x_iload_n C rfl 1 rfl dX10_isFree_52 ?_
    obtain ⟨c5, h⟩ := h
    refine x_iald C ob2.1 ob2.2 c5 rfl dX10_isFree_53 ?_
    refine x_iload_n C rfl 3 rfl dX10_isFree_54 ?_
    refine x_icmp_ne (tgt := 62) C dX10_isFree_55 (by decide) (fun c6 => ?_) (fun c6 => ?_)
    · have h := h.1 c6
      refine x_iconst (v := 0) C (by decide) dX10_isFree_62 ?_
      exact x_zret C hr bo_0 dX10_isFree_63 ⟨_, rfl, h⟩
    · have h := h.2 c6
      refine x_iconst (v := 1) C (by decide) dX10_isFree_58 ?_
      refine x_goto (tgt := 63) C dX10_isFree_59 (by decide) ?_
      exact x_zret C hr bo_1 dX10_isFree_63 ⟨_, rfl, h⟩
  · have h := h.2 c4
    refine x_aload_n C rfl 0 rfl dX10_isFree_12 ?_
    refine x_getR (r := 9) C (j := 9) ob1.1 ob1.2 (Nat.le_of_ble_eq_true rfl) (Nat.le_of_ble_eq_true rfl) (fun _ _ _ => rfl) r_1_9 tw_1_143 dX10_isFree_13 ?_
    refine x_iload C 4 rfl dX10_isFree_16 ?_
    obtain ⟨c7, h⟩ := h
    refine x_aald (r := (19 + x.1.toNatClampNeg)) C ob9.1 (by decide) (by decide) c7 rfl (rA9 c7) dX10_isFree_18 ?_
    refine x_getIN C (j := 0) (obA9 c7).1 (obA9 c7).2 (Nat.le_of_ble_eq_true rfl) (Nat.le_of_ble_eq_true rfl) (Or.inl rfl) tw_1_54 dX10_isFree_19 ?_
    refine x_iload_n C rfl 2 rfl dX10_isFree_22 ?_
    refine x_icmp_ne (tgt := 42) C dX10_isFree_23 (by decide) (fun c8 => ?_) (fun c8 => ?_)
    · have h := h.1 c8
      refine x_iinc (v := (x.1 + 1)) C [(4, .int (x.1 + 1)), (0, .ref 1), (1, .int p1), (2, .int p2), (3, .int p3)] 4 rfl (congrArg (fun z => x.1 + z) (by decide : Int32.ofInt (1) = 1)) (Nat.le_of_ble_eq_true rfl) rfl dX10_isFree_42 ?_
      refine x_goto (tgt := 3) C dX10_isFree_45 (by decide) ?_
      refine x_sub [(0, .ref 1), (1, .int p1), (2, .int p2), (3, .int p3), (4, .int (x.1 + 1))] [1, 2, 3, 4, 0] rfl ?_
      exact hK3 _ _ h
    · have h := h.2 c8
      refine x_aload_n C rfl 0 rfl dX10_isFree_26 ?_
      refine x_getR (r := 9) C (j := 9) ob1.1 ob1.2 (Nat.le_of_ble_eq_true rfl) (Nat.le_of_ble_eq_true rfl) (fun _ _ _ => rfl) r_1_9 tw_1_143 dX10_isFree_27 ?_
      refine x_iload C 4 rfl dX10_isFree_30 ?_
      obtain ⟨c9, h⟩ := h
      refine x_aald (r := (19 + x.1.toNatClampNeg)) C ob9.1 (by decide) (by decide) c9 rfl (rA9 c9) dX10_isFree_32 ?_
      refine x_getIN C (j := 1) (obA9 c9).1 (obA9 c9).2 (Nat.le_of_ble_eq_true rfl) (Nat.le_of_ble_eq_true rfl) (Or.inl rfl) tw_1_56 dX10_isFree_33 ?_
      refine x_iload_n C rfl 1 rfl dX10_isFree_36 ?_
      refine x_icmp_ne (tgt := 42) C dX10_isFree_37 (by decide) (fun c10 => ?_) (fun c10 => ?_)
      · have h := h.1 c10
        refine x_iinc (v := (x.1 + 1)) C [(4, .int (x.1 + 1)), (0, .ref 1), (1, .int p1), (2, .int p2), (3, .int p3)] 4 rfl (congrArg (fun z => x.1 + z) (by decide : Int32.ofInt (1) = 1)) (Nat.le_of_ble_eq_true rfl) rfl dX10_isFree_42 ?_
        refine x_goto (tgt := 3) C dX10_isFree_45 (by decide) ?_
        refine x_sub [(0, .ref 1), (1, .int p1), (2, .int p2), (3, .int p3), (4, .int (x.1 + 1))] [1, 2, 3, 4, 0] rfl ?_
        exact hK3 _ _ h
      · have h := h.2 c10
        refine x_iconst (v := 0) C (by decide) dX10_isFree_40 ?_
        exact x_zret C hr bo_0 dX10_isFree_41 ⟨_, rfl, h⟩
theorem G10_isFree_L3_ok {p : Program} {e : Env} {s : State} {m : MethodId} {args : Array Value} {below : List Frame} {meth : Method} {c : Code} {l : Launch} {φ : Nat → Nat} {tc : Nat → ClassId} {D : va_G} {s0 : State} {dR : Nat} (C : CX p s m args meth c φ tc D s0 cX10_isFree RX10 5) (hd : G10_isFree_dep ≤ dR) (hr : meth.sig.returnType = (some .boolean))  {p1 : Int32} {p2 : Int32} {p3 : Int32} {Q : Int32 → MM → Prop}  {x : Int32 × MM}    (h : Lp (G10_isFree_L3 p1 p2 p3 Q) x) : WX p l e (rmX dR) s m args below meth c φ tc D 5 (MQ below (QX φ tc D (QI Q)) args s 0 0 (AX φ)) 3 [(0, .ref 1), (1, .int p1), (2, .int p2), (3, .int p3), (4, .int x.1)] [] x.2 := by
  obtain ⟨n, h⟩ := h
  induction n generalizing x with
  | zero => exact h.elim
  | succ n ih => exact G10_isFree_L3_b C hd hr   (fun z4 zμ hz => by have q := ih hz; exact q) h
set_option maxHeartbeats 4000000 in
set_option maxRecDepth 100000 in
theorem G10_isFree_met {l : Launch} {φ : Nat → Nat} {tc : Nat → ClassId} {D : va_G} {s0 : State} (hG : GX φ tc D s0) {dR : Nat} (hd : G10_isFree_dep ≤ dR) {v1 : Int32} {v2 : Int32} {v3 : Int32} {μ : MM} {Q : Int32 → MM → Prop}  (h : G10_isFree v1 v2 v3 μ Q) : MX l φ tc D s0 dR yX10_isFree cX10_isFree 5 (some .boolean) [.ref 1, .int v1, .int v2, .int v3] μ (QI Q) := by
  refine MX.of (own := RX10) hG plX10 rfl (Nat.le_of_ble_eq_true rfl) (fun p e s m args below meth c C hr => ?_)
  refine x_sub [(0, .ref 1), (1, .int v1), (2, .int v2), (3, .int v3)] [0, 1, 2, 3] rfl ?_
  unfold G10_isFree at h
  refine x_iconst (v := 0) C (by decide) dX10_isFree_0 ?_
  refine x_istore C [(4, .int 0), (0, .ref 1), (1, .int v1), (2, .int v2), (3, .int v3)] (Nat.le_of_ble_eq_true rfl) rfl dX10_isFree_1 ?_
  refine x_sub [(0, .ref 1), (1, .int v1), (2, .int v2), (3, .int v3), (4, .int 0)] [1, 2, 3, 4, 0] rfl ?_
  exact G10_isFree_L3_ok C hd hr  h
set_option maxHeartbeats 4000000 in
set_option maxRecDepth 100000 in
theorem G10_drawName_L49_b {p : Program} {e : Env} {s : State} {m : MethodId} {args : Array Value} {below : List Frame} {meth : Method} {c : Code} {l : Launch} {φ : Nat → Nat} {tc : Nat → ClassId} {D : va_G} {s0 : State} {dR : Nat} (C : CX p s m args meth c φ tc D s0 cX10_drawName RX10 6) (hd : G10_drawName_dep ≤ dR) (hr : meth.sig.returnType = (some .int))  {p1 : Int32} {p2 : Int32} {Q : Int32 → MM → Prop} {K49 : Int32 × Int32 × MM → Prop} {x : Int32 × Int32 × MM}   (hK49 : ∀ (z4 : Int32) (z5 : Int32) (zμ : MM), K49 (z4, z5, zμ) → WX p l e (rmX dR) s m args below meth c φ tc D 6 (MQ below (QX φ tc D (QI Q)) args s 0 0 (AX φ)) 49 [(0, .ref 1), (1, .int p1), (2, .int p2), (4, .int z4), (5, .int z5)] [] zμ) (h : G10_drawName_L49 p1 p2 Q K49 x) : WX p l e (rmX dR) s m args below meth c φ tc D 6 (MQ below (QX φ tc D (QI Q)) args s 0 0 (AX φ)) 49 [(0, .ref 1), (1, .int p1), (2, .int p2), (4, .int x.1), (5, .int x.2.1)] [] x.2.2 := by
  unfold G10_drawName_L49 at h
  refine x_iload C 4 rfl dX10_drawName_49 ?_
  refine x_aload_n C rfl 0 rfl dX10_drawName_51 ?_
  refine x_getI C (j := 4) ob1.1 ob1.2 (Nat.le_of_ble_eq_true rfl) (Nat.le_of_ble_eq_true rfl) (Or.inl rfl) tw_1_130 dX10_drawName_52 ?_
  refine x_icmp_ge (tgt := 86) C dX10_drawName_55 (by decide) (fun c10 => ?_) (fun c10 => ?_)
  · have h := h.1 c10
    refine x_iconst (v := 0) C (by decide) dX10_drawName_86 ?_
    exact x_iret C hr dX10_drawName_87 ⟨_, rfl, h⟩
  · have h := h.2 c10
    refine x_aload_n C rfl 0 rfl dX10_drawName_58 ?_
    refine x_iload C 4 rfl dX10_drawName_59 ?_
    refine x_iload_n C rfl 1 rfl dX10_drawName_61 ?_
    refine x_iload_n C rfl 2 rfl dX10_drawName_62 ?_
    refine x_callV (dC := G10_isFree_dep) (as := [.int x.2.1, .int p1, .int p2]) (st := []) C rfl (Nat.le_trans (Nat.le_of_ble_eq_true rfl) hd) (Nat.le_of_ble_eq_true rfl) ob1.1 ob1.2 (Nat.le_of_ble_eq_true rfl) rfl ts_1_11 tw_3_19 tw_3_17 tc_3_20 tw_1_2 hyX10 hnX10_isFree rfl (Nat.le_of_ble_eq_true rfl) dX10_drawName_63 (G10_isFree_met C.2.2.2.2.2.2.2.1 (Nat.le_refl _)  h) (fun r0 μ11 hq => ?_)
    obtain ⟨r12, rfl, h⟩ := hq
    refine x_st [.int r12] rfl ?_
    refine x_if_eq (tgt := 80) C dX10_drawName_66 (by decide) (fun c13 => ?_) (fun c13 => ?_)
    · have h := h.1 c13
      refine x_iinc (v := (x.2.1 + 1)) C [(5, .int (x.2.1 + 1)), (0, .ref 1), (1, .int p1), (2, .int p2), (4, .int x.1)] 4 rfl (congrArg (fun z => x.2.1 + z) (by decide : Int32.ofInt (1) = 1)) (Nat.le_of_ble_eq_true rfl) rfl dX10_drawName_80 ?_
      refine x_goto (tgt := 49) C dX10_drawName_83 (by decide) ?_
      refine x_sub [(0, .ref 1), (1, .int p1), (2, .int p2), (4, .int x.1), (5, .int (x.2.1 + 1))] [1, 2, 3, 4, 0] rfl ?_
      exact hK49 _ _ _ h
    · have h := h.2 c13
      refine x_iload C 3 rfl dX10_drawName_69 ?_
      refine x_if_ne (tgt := 77) C dX10_drawName_71 (by decide) (fun c14 => ?_) (fun c14 => ?_)
      · have h := h.1 c14
        refine x_iinc (v := (x.1 + (-1))) C [(4, .int (x.1 + (-1))), (0, .ref 1), (1, .int p1), (2, .int p2), (5, .int x.2.1)] 3 rfl (congrArg (fun z => x.1 + z) (by decide : Int32.ofInt (-1) = (-1))) (Nat.le_of_ble_eq_true rfl) rfl dX10_drawName_77 ?_
        refine x_iinc (v := (x.2.1 + 1)) C [(5, .int (x.2.1 + 1)), (4, .int (x.1 + (-1))), (0, .ref 1), (1, .int p1), (2, .int p2)] 4 rfl (congrArg (fun z => x.2.1 + z) (by decide : Int32.ofInt (1) = 1)) (Nat.le_of_ble_eq_true rfl) rfl dX10_drawName_80 ?_
        refine x_goto (tgt := 49) C dX10_drawName_83 (by decide) ?_
        refine x_sub [(0, .ref 1), (1, .int p1), (2, .int p2), (4, .int (x.1 + (-1))), (5, .int (x.2.1 + 1))] [2, 3, 4, 1, 0] rfl ?_
        exact hK49 _ _ _ h
      · have h := h.2 c14
        refine x_iload C 4 rfl dX10_drawName_74 ?_
        exact x_iret C hr dX10_drawName_76 ⟨_, rfl, h⟩
theorem G10_drawName_L49_ok {p : Program} {e : Env} {s : State} {m : MethodId} {args : Array Value} {below : List Frame} {meth : Method} {c : Code} {l : Launch} {φ : Nat → Nat} {tc : Nat → ClassId} {D : va_G} {s0 : State} {dR : Nat} (C : CX p s m args meth c φ tc D s0 cX10_drawName RX10 6) (hd : G10_drawName_dep ≤ dR) (hr : meth.sig.returnType = (some .int))  {p1 : Int32} {p2 : Int32} {Q : Int32 → MM → Prop}  {x : Int32 × Int32 × MM}    (h : Lp (G10_drawName_L49 p1 p2 Q) x) : WX p l e (rmX dR) s m args below meth c φ tc D 6 (MQ below (QX φ tc D (QI Q)) args s 0 0 (AX φ)) 49 [(0, .ref 1), (1, .int p1), (2, .int p2), (4, .int x.1), (5, .int x.2.1)] [] x.2.2 := by
  obtain ⟨n, h⟩ := h
  induction n generalizing x with
  | zero => exact h.elim
  | succ n ih => exact G10_drawName_L49_b C hd hr   (fun z4 z5 zμ hz => by have q := ih hz; exact q) h
set_option maxHeartbeats 4000000 in
set_option maxRecDepth 100000 in
theorem G10_drawName_L5_b {p : Program} {e : Env} {s : State} {m : MethodId} {args : Array Value} {below : List Frame} {meth : Method} {c : Code} {l : Launch} {φ : Nat → Nat} {tc : Nat → ClassId} {D : va_G} {s0 : State} {dR : Nat} (C : CX p s m args meth c φ tc D s0 cX10_drawName RX10 6) (hd : G10_drawName_dep ≤ dR) (hr : meth.sig.returnType = (some .int))  {p1 : Int32} {p2 : Int32} {Q : Int32 → MM → Prop} {K5 : Int32 × Int32 × MM → Prop} {x : Int32 × Int32 × MM}   (hK5 : ∀ (z3 : Int32) (z4 : Int32) (zμ : MM), K5 (z3, z4, zμ) → WX p l e (rmX dR) s m args below meth c φ tc D 6 (MQ below (QX φ tc D (QI Q)) args s 0 0 (AX φ)) 5 [(0, .ref 1), (1, .int p1), (2, .int p2), (3, .int z3), (4, .int z4)] [] zμ) (h : G10_drawName_L5 p1 p2 Q K5 x) : WX p l e (rmX dR) s m args below meth c φ tc D 6 (MQ below (QX φ tc D (QI Q)) args s 0 0 (AX φ)) 5 [(0, .ref 1), (1, .int p1), (2, .int p2), (3, .int x.1), (4, .int x.2.1)] [] x.2.2 := by
  unfold G10_drawName_L5 at h
  refine x_iload C 4 rfl dX10_drawName_5 ?_
  refine x_aload_n C rfl 0 rfl dX10_drawName_7 ?_
  refine x_getI C (j := 4) ob1.1 ob1.2 (Nat.le_of_ble_eq_true rfl) (Nat.le_of_ble_eq_true rfl) (Or.inl rfl) tw_1_130 dX10_drawName_8 ?_
  refine x_icmp_ge (tgt := 39) C dX10_drawName_11 (by decide) (fun c7 => ?_) (fun c7 => ?_)
  · have h := h.1 c7
    refine x_aload_n C rfl 0 rfl dX10_drawName_39 ?_
    refine x_iload_n C rfl 3 rfl dX10_drawName_40 ?_
    refine x_callV (dC := G10_draw_dep) (as := [.int x.1]) (st := []) C rfl (Nat.le_trans (Nat.le_of_ble_eq_true rfl) hd) (Nat.le_of_ble_eq_true rfl) ob1.1 ob1.2 (Nat.le_of_ble_eq_true rfl) rfl ts_1_9 tw_3_10 tw_3_8 tc_3_11 tw_1_2 hyX10 hnX10_draw rfl (Nat.le_of_ble_eq_true rfl) dX10_drawName_41 (G10_draw_met C.2.2.2.2.2.2.2.1 (Nat.le_refl _)  h) (fun r0 μ8 hq => ?_)
    obtain ⟨r9, rfl, h⟩ := hq
    refine x_st [.int r9] rfl ?_
    refine x_istore C [(4, .int r9), (0, .ref 1), (1, .int p1), (2, .int p2), (3, .int x.1)] (Nat.le_of_ble_eq_true rfl) rfl dX10_drawName_44 ?_
    refine x_iconst (v := 0) C (by decide) dX10_drawName_46 ?_
    refine x_istore C [(5, .int 0), (4, .int r9), (0, .ref 1), (1, .int p1), (2, .int p2), (3, .int x.1)] (Nat.le_of_ble_eq_true rfl) rfl dX10_drawName_47 ?_
    refine x_sub [(0, .ref 1), (1, .int p1), (2, .int p2), (4, .int r9), (5, .int 0)] [2, 3, 4, 1, 0] rfl ?_
    exact G10_drawName_L49_ok C hd hr  h
  · have h := h.2 c7
    refine x_iload_n C rfl 3 rfl dX10_drawName_14 ?_
    refine x_aload_n C rfl 0 rfl dX10_drawName_15 ?_
    refine x_iload C 4 rfl dX10_drawName_16 ?_
    refine x_iload_n C rfl 1 rfl dX10_drawName_18 ?_
    refine x_iload_n C rfl 2 rfl dX10_drawName_19 ?_
    refine x_callV (dC := G10_isFree_dep) (as := [.int x.2.1, .int p1, .int p2]) (st := [.int x.1]) C rfl (Nat.le_trans (Nat.le_of_ble_eq_true rfl) hd) (Nat.le_of_ble_eq_true rfl) ob1.1 ob1.2 (Nat.le_of_ble_eq_true rfl) rfl ts_1_11 tw_3_19 tw_3_17 tc_3_20 tw_1_2 hyX10 hnX10_isFree rfl (Nat.le_of_ble_eq_true rfl) dX10_drawName_20 (G10_isFree_met C.2.2.2.2.2.2.2.1 (Nat.le_refl _)  h) (fun r0 μ15 hq => ?_)
    obtain ⟨r16, rfl, h⟩ := hq
    refine x_st [.int r16, .int x.1] rfl ?_
    refine x_if_eq (tgt := 30) C dX10_drawName_23 (by decide) (fun c17 => ?_) (fun c17 => ?_)
    · have h := h.1 c17
      refine x_iconst (v := 0) C (by decide) dX10_drawName_30 ?_
      refine x_iadd C dX10_drawName_31 ?_
      refine x_topi (fun y18 e_y18 => ?_)
      have h := h y18 e_y18
      refine x_istore_n C [(3, .int y18), (0, .ref 1), (1, .int p1), (2, .int p2), (4, .int x.2.1)] rfl (Nat.le_of_ble_eq_true rfl) rfl dX10_drawName_32 ?_
      refine x_iinc (v := (x.2.1 + 1)) C [(4, .int (x.2.1 + 1)), (3, .int y18), (0, .ref 1), (1, .int p1), (2, .int p2)] 4 rfl (congrArg (fun z => x.2.1 + z) (by decide : Int32.ofInt (1) = 1)) (Nat.le_of_ble_eq_true rfl) rfl dX10_drawName_33 ?_
      refine x_goto (tgt := 5) C dX10_drawName_36 (by decide) ?_
      refine x_sub [(0, .ref 1), (1, .int p1), (2, .int p2), (3, .int y18), (4, .int (x.2.1 + 1))] [2, 3, 4, 1, 0] rfl ?_
      exact hK5 _ _ _ h
    · have h := h.2 c17
      refine x_iconst (v := 1) C (by decide) dX10_drawName_26 ?_
      refine x_goto (tgt := 31) C dX10_drawName_27 (by decide) ?_
      refine x_iadd C dX10_drawName_31 ?_
      refine x_topi (fun y19 e_y19 => ?_)
      have h := h y19 e_y19
      refine x_istore_n C [(3, .int y19), (0, .ref 1), (1, .int p1), (2, .int p2), (4, .int x.2.1)] rfl (Nat.le_of_ble_eq_true rfl) rfl dX10_drawName_32 ?_
      refine x_iinc (v := (x.2.1 + 1)) C [(4, .int (x.2.1 + 1)), (3, .int y19), (0, .ref 1), (1, .int p1), (2, .int p2)] 4 rfl (congrArg (fun z => x.2.1 + z) (by decide : Int32.ofInt (1) = 1)) (Nat.le_of_ble_eq_true rfl) rfl dX10_drawName_33 ?_
      refine x_goto (tgt := 5) C dX10_drawName_36 (by decide) ?_
      refine x_sub [(0, .ref 1), (1, .int p1), (2, .int p2), (3, .int y19), (4, .int (x.2.1 + 1))] [2, 3, 4, 1, 0] rfl ?_
      exact hK5 _ _ _ h
theorem G10_drawName_L5_ok {p : Program} {e : Env} {s : State} {m : MethodId} {args : Array Value} {below : List Frame} {meth : Method} {c : Code} {l : Launch} {φ : Nat → Nat} {tc : Nat → ClassId} {D : va_G} {s0 : State} {dR : Nat} (C : CX p s m args meth c φ tc D s0 cX10_drawName RX10 6) (hd : G10_drawName_dep ≤ dR) (hr : meth.sig.returnType = (some .int))  {p1 : Int32} {p2 : Int32} {Q : Int32 → MM → Prop}  {x : Int32 × Int32 × MM}    (h : Lp (G10_drawName_L5 p1 p2 Q) x) : WX p l e (rmX dR) s m args below meth c φ tc D 6 (MQ below (QX φ tc D (QI Q)) args s 0 0 (AX φ)) 5 [(0, .ref 1), (1, .int p1), (2, .int p2), (3, .int x.1), (4, .int x.2.1)] [] x.2.2 := by
  obtain ⟨n, h⟩ := h
  induction n generalizing x with
  | zero => exact h.elim
  | succ n ih => exact G10_drawName_L5_b C hd hr   (fun z3 z4 zμ hz => by have q := ih hz; exact q) h
set_option maxHeartbeats 4000000 in
set_option maxRecDepth 100000 in
theorem G10_drawName_met {l : Launch} {φ : Nat → Nat} {tc : Nat → ClassId} {D : va_G} {s0 : State} (hG : GX φ tc D s0) {dR : Nat} (hd : G10_drawName_dep ≤ dR) {v1 : Int32} {v2 : Int32} {μ : MM} {Q : Int32 → MM → Prop}  (h : G10_drawName v1 v2 μ Q) : MX l φ tc D s0 dR yX10_drawName cX10_drawName 6 (some .int) [.ref 1, .int v1, .int v2] μ (QI Q) := by
  refine MX.of (own := RX10) hG plX10 rfl (Nat.le_of_ble_eq_true rfl) (fun p e s m args below meth c C hr => ?_)
  refine x_sub [(0, .ref 1), (1, .int v1), (2, .int v2)] [0, 1, 2] rfl ?_
  unfold G10_drawName at h
  refine x_iconst (v := 0) C (by decide) dX10_drawName_0 ?_
  refine x_istore_n C [(3, .int 0), (0, .ref 1), (1, .int v1), (2, .int v2)] rfl (Nat.le_of_ble_eq_true rfl) rfl dX10_drawName_1 ?_
  refine x_iconst (v := 0) C (by decide) dX10_drawName_2 ?_
  refine x_istore C [(4, .int 0), (3, .int 0), (0, .ref 1), (1, .int v1), (2, .int v2)] (Nat.le_of_ble_eq_true rfl) rfl dX10_drawName_3 ?_
  refine x_sub [(0, .ref 1), (1, .int v1), (2, .int v2), (3, .int 0), (4, .int 0)] [2, 3, 4, 1, 0] rfl ?_
  exact G10_drawName_L5_ok C hd hr  h
set_option maxHeartbeats 4000000 in
set_option maxRecDepth 100000 in
theorem G10_namesOf_L4_b {p : Program} {e : Env} {s : State} {m : MethodId} {args : Array Value} {below : List Frame} {meth : Method} {c : Code} {l : Launch} {φ : Nat → Nat} {tc : Nat → ClassId} {D : va_G} {s0 : State} {dR : Nat} (C : CX p s m args meth c φ tc D s0 cX10_namesOf RX10 4) (hd : G10_namesOf_dep ≤ dR) (hr : meth.sig.returnType = (some .int))  {p1 : Int32} {Q : Int32 → MM → Prop} {K4 : Int32 × Int32 × MM → Prop} {x : Int32 × Int32 × MM}   (hK4 : ∀ (z2 : Int32) (z3 : Int32) (zμ : MM), K4 (z2, z3, zμ) → WX p l e (rmX dR) s m args below meth c φ tc D 4 (MQ below (QX φ tc D (QI Q)) args s 0 0 (AX φ)) 4 [(0, .ref 1), (1, .int p1), (2, .int z2), (3, .int z3)] [] zμ) (h : G10_namesOf_L4 p1 Q K4 x) : WX p l e (rmX dR) s m args below meth c φ tc D 4 (MQ below (QX φ tc D (QI Q)) args s 0 0 (AX φ)) 4 [(0, .ref 1), (1, .int p1), (2, .int x.1), (3, .int x.2.1)] [] x.2.2 := by
  unfold G10_namesOf_L4 at h
  refine x_iload_n C rfl 3 rfl dX10_namesOf_4 ?_
  refine x_aload_n C rfl 0 rfl dX10_namesOf_5 ?_
  refine x_getI C (j := 4) ob1.1 ob1.2 (Nat.le_of_ble_eq_true rfl) (Nat.le_of_ble_eq_true rfl) (Or.inl rfl) tw_1_130 dX10_namesOf_6 ?_
  refine x_icmp_ge (tgt := 36) C dX10_namesOf_9 (by decide) (fun c2 => ?_) (fun c2 => ?_)
  · have h := h.1 c2
    refine x_iload_n C rfl 2 rfl dX10_namesOf_36 ?_
    exact x_iret C hr dX10_namesOf_37 ⟨_, rfl, h⟩
  · have h := h.2 c2
    refine x_iload_n C rfl 2 rfl dX10_namesOf_12 ?_
    refine x_aload_n C rfl 0 rfl dX10_namesOf_13 ?_
    refine x_getR (r := 2) C (j := 0) ob1.1 ob1.2 (Nat.le_of_ble_eq_true rfl) (Nat.le_of_ble_eq_true rfl) (fun _ _ _ => rfl) r_1_0 tw_1_122 dX10_namesOf_14 ?_
    refine x_iload_n C rfl 3 rfl dX10_namesOf_17 ?_
    obtain ⟨c3, h⟩ := h
    refine x_iald C ob2.1 ob2.2 c3 rfl dX10_namesOf_18 ?_
    refine x_iload_n C rfl 1 rfl dX10_namesOf_19 ?_
    refine x_icmp_ne (tgt := 27) C dX10_namesOf_20 (by decide) (fun c4 => ?_) (fun c4 => ?_)
    · have h := h.1 c4
      refine x_iconst (v := 0) C (by decide) dX10_namesOf_27 ?_
      refine x_iadd C dX10_namesOf_28 ?_
      refine x_topi (fun y5 e_y5 => ?_)
      have h := h y5 e_y5
      refine x_istore_n C [(2, .int y5), (0, .ref 1), (1, .int p1), (3, .int x.2.1)] rfl (Nat.le_of_ble_eq_true rfl) rfl dX10_namesOf_29 ?_
      refine x_iinc (v := (x.2.1 + 1)) C [(3, .int (x.2.1 + 1)), (2, .int y5), (0, .ref 1), (1, .int p1)] 3 rfl (congrArg (fun z => x.2.1 + z) (by decide : Int32.ofInt (1) = 1)) (Nat.le_of_ble_eq_true rfl) rfl dX10_namesOf_30 ?_
      refine x_goto (tgt := 4) C dX10_namesOf_33 (by decide) ?_
      refine x_sub [(0, .ref 1), (1, .int p1), (2, .int y5), (3, .int (x.2.1 + 1))] [2, 3, 1, 0] rfl ?_
      exact hK4 _ _ _ h
    · have h := h.2 c4
      refine x_iconst (v := 1) C (by decide) dX10_namesOf_23 ?_
      refine x_goto (tgt := 28) C dX10_namesOf_24 (by decide) ?_
      refine x_iadd C dX10_namesOf_28 ?_
      refine x_topi (fun y6 e_y6 => ?_)
      have h := h y6 e_y6
      refine x_istore_n C [(2, .int y6), (0, .ref 1), (1, .int p1), (3, .int x.2.1)] rfl (Nat.le_of_ble_eq_true rfl) rfl dX10_namesOf_29 ?_
      refine x_iinc (v := (x.2.1 + 1)) C [(3, .int (x.2.1 + 1)), (2, .int y6), (0, .ref 1), (1, .int p1)] 3 rfl (congrArg (fun z => x.2.1 + z) (by decide : Int32.ofInt (1) = 1)) (Nat.le_of_ble_eq_true rfl) rfl dX10_namesOf_30 ?_
      refine x_goto (tgt := 4) C dX10_namesOf_33 (by decide) ?_
      refine x_sub [(0, .ref 1), (1, .int p1), (2, .int y6), (3, .int (x.2.1 + 1))] [2, 3, 1, 0] rfl ?_
      exact hK4 _ _ _ h
theorem G10_namesOf_L4_ok {p : Program} {e : Env} {s : State} {m : MethodId} {args : Array Value} {below : List Frame} {meth : Method} {c : Code} {l : Launch} {φ : Nat → Nat} {tc : Nat → ClassId} {D : va_G} {s0 : State} {dR : Nat} (C : CX p s m args meth c φ tc D s0 cX10_namesOf RX10 4) (hd : G10_namesOf_dep ≤ dR) (hr : meth.sig.returnType = (some .int))  {p1 : Int32} {Q : Int32 → MM → Prop}  {x : Int32 × Int32 × MM}    (h : Lp (G10_namesOf_L4 p1 Q) x) : WX p l e (rmX dR) s m args below meth c φ tc D 4 (MQ below (QX φ tc D (QI Q)) args s 0 0 (AX φ)) 4 [(0, .ref 1), (1, .int p1), (2, .int x.1), (3, .int x.2.1)] [] x.2.2 := by
  obtain ⟨n, h⟩ := h
  induction n generalizing x with
  | zero => exact h.elim
  | succ n ih => exact G10_namesOf_L4_b C hd hr   (fun z2 z3 zμ hz => by have q := ih hz; exact q) h
set_option maxHeartbeats 4000000 in
set_option maxRecDepth 100000 in
theorem G10_namesOf_met {l : Launch} {φ : Nat → Nat} {tc : Nat → ClassId} {D : va_G} {s0 : State} (hG : GX φ tc D s0) {dR : Nat} (hd : G10_namesOf_dep ≤ dR) {v1 : Int32} {μ : MM} {Q : Int32 → MM → Prop}  (h : G10_namesOf v1 μ Q) : MX l φ tc D s0 dR yX10_namesOf cX10_namesOf 4 (some .int) [.ref 1, .int v1] μ (QI Q) := by
  refine MX.of (own := RX10) hG plX10 rfl (Nat.le_of_ble_eq_true rfl) (fun p e s m args below meth c C hr => ?_)
  refine x_sub [(0, .ref 1), (1, .int v1)] [0, 1] rfl ?_
  unfold G10_namesOf at h
  refine x_iconst (v := 0) C (by decide) dX10_namesOf_0 ?_
  refine x_istore_n C [(2, .int 0), (0, .ref 1), (1, .int v1)] rfl (Nat.le_of_ble_eq_true rfl) rfl dX10_namesOf_1 ?_
  refine x_iconst (v := 0) C (by decide) dX10_namesOf_2 ?_
  refine x_istore_n C [(3, .int 0), (2, .int 0), (0, .ref 1), (1, .int v1)] rfl (Nat.le_of_ble_eq_true rfl) rfl dX10_namesOf_3 ?_
  refine x_sub [(0, .ref 1), (1, .int v1), (2, .int 0), (3, .int 0)] [2, 3, 1, 0] rfl ?_
  exact G10_namesOf_L4_ok C hd hr  h
