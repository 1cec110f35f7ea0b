set_option maxHeartbeats 4000000 in
set_option maxRecDepth 100000 in
theorem G12_saysOf_met {l : Launch} {φ : Nat → Nat} {tc : Nat → ClassId} {D : va_G} {s0 : State} (hG : GX φ tc D s0) {dR : Nat} (hd : G12_saysOf_dep ≤ dR) {v1 : Int32} {v2 : Int32} {μ : MM} {Q : Int32 → MM → Prop}  (h : G12_saysOf v1 v2 μ Q) : MX l φ tc D s0 dR yX12_saysOf cX12_saysOf 3 (some .int) [.ref 358, .int v1, .int v2] μ (QI Q) := by
  refine MX.of (own := RX12) hG plX12 rfl (Nat.le_of_ble_eq_true rfl) (fun p e s m args below meth c C hr => ?_)
  refine x_sub [(0, .ref 358), (1, .int v1), (2, .int v2)] [0, 1, 2] rfl ?_
  unfold G12_saysOf at h
  refine x_iload_n C rfl 1 rfl dX12_saysOf_0 ?_
  refine x_if_ne (tgt := 13) C dX12_saysOf_1 (by decide) (fun c5 => ?_) (fun c5 => ?_)
  · have h := h.1 c5
    refine x_iload_n C rfl 1 rfl dX12_saysOf_13 ?_
    refine x_iconst (v := 1) C (by decide) dX12_saysOf_14 ?_
    refine x_icmp_ne (tgt := 27) C dX12_saysOf_15 (by decide) (fun c6 => ?_) (fun c6 => ?_)
    · have h := h.1 c6
      refine x_iload_n C rfl 1 rfl dX12_saysOf_27 ?_
      refine x_iconst (v := 2) C (by decide) dX12_saysOf_28 ?_
      refine x_icmp_ne (tgt := 41) C dX12_saysOf_29 (by decide) (fun c7 => ?_) (fun c7 => ?_)
      · have h := h.1 c7
        refine x_aload_n C rfl 0 rfl dX12_saysOf_41 ?_
        refine x_getR (r := 363) C (j := 7) ob358.1 ob358.2 (Nat.le_of_ble_eq_true rfl) (Nat.le_of_ble_eq_true rfl) (fun _ _ _ => rfl) r_358_7 tw_8_213 dX12_saysOf_42 ?_
        refine x_iload_n C rfl 2 rfl dX12_saysOf_45 ?_
        obtain ⟨c8, h⟩ := h
        refine x_iald C ob363.1 ob363.2 c8 rfl dX12_saysOf_46 ?_
        exact x_iret C hr dX12_saysOf_47 ⟨_, rfl, h⟩
      · have h := h.2 c7
        refine x_aload_n C rfl 0 rfl dX12_saysOf_32 ?_
        refine x_getR (r := 362) C (j := 6) ob358.1 ob358.2 (Nat.le_of_ble_eq_true rfl) (Nat.le_of_ble_eq_true rfl) (fun _ _ _ => rfl) r_358_6 tw_8_212 dX12_saysOf_33 ?_
        refine x_iload_n C rfl 2 rfl dX12_saysOf_36 ?_
        obtain ⟨c9, h⟩ := h
        refine x_iald C ob362.1 ob362.2 c9 rfl dX12_saysOf_37 ?_
        refine x_goto (tgt := 47) C dX12_saysOf_38 (by decide) ?_
        exact x_iret C hr dX12_saysOf_47 ⟨_, rfl, h⟩
    · have h := h.2 c6
      refine x_aload_n C rfl 0 rfl dX12_saysOf_18 ?_
      refine x_getR (r := 361) C (j := 5) ob358.1 ob358.2 (Nat.le_of_ble_eq_true rfl) (Nat.le_of_ble_eq_true rfl) (fun _ _ _ => rfl) r_358_5 tw_8_211 dX12_saysOf_19 ?_
      refine x_iload_n C rfl 2 rfl dX12_saysOf_22 ?_
      obtain ⟨c10, h⟩ := h
      refine x_iald C ob361.1 ob361.2 c10 rfl dX12_saysOf_23 ?_
      refine x_goto (tgt := 47) C dX12_saysOf_24 (by decide) ?_
      exact x_iret C hr dX12_saysOf_47 ⟨_, rfl, h⟩
  · have h := h.2 c5
    refine x_aload_n C rfl 0 rfl dX12_saysOf_4 ?_
    refine x_getR (r := 360) C (j := 4) ob358.1 ob358.2 (Nat.le_of_ble_eq_true rfl) (Nat.le_of_ble_eq_true rfl) (fun _ _ _ => rfl) r_358_4 tw_8_210 dX12_saysOf_5 ?_
    refine x_iload_n C rfl 2 rfl dX12_saysOf_8 ?_
    obtain ⟨c11, h⟩ := h
    refine x_iald C ob360.1 ob360.2 c11 rfl dX12_saysOf_9 ?_
    refine x_goto (tgt := 47) C dX12_saysOf_10 (by decide) ?_
    exact x_iret C hr dX12_saysOf_47 ⟨_, rfl, h⟩
set_option maxHeartbeats 4000000 in
set_option maxRecDepth 100000 in
theorem G12_compares_met {l : Launch} {φ : Nat → Nat} {tc : Nat → ClassId} {D : va_G} {s0 : State} (hG : GX φ tc D s0) {dR : Nat} (hd : G12_compares_dep ≤ dR) {v1 : Int32} {v2 : Int32} {μ : MM} {Q : Int32 → MM → Prop}  (h : G12_compares v1 v2 μ Q) : MX l φ tc D s0 dR yX12_compares cX12_compares 3 (some .int) [.ref 358, .int v1, .int v2] μ (QI Q) := by
  refine MX.of (own := RX12) hG plX12 rfl (Nat.le_of_ble_eq_true rfl) (fun p e s m args below meth c C hr => ?_)
  refine x_sub [(0, .ref 358), (1, .int v1), (2, .int v2)] [0, 1, 2] rfl ?_
  unfold G12_compares at h
  refine x_aload_n C rfl 0 rfl dX12_compares_0 ?_
  refine x_getR (r := 386) C (j := 41) ob358.1 ob358.2 (Nat.le_of_ble_eq_true rfl) (Nat.le_of_ble_eq_true rfl) (fun _ _ _ => rfl) r_358_41 tw_9_7 dX12_compares_1 ?_
  refine x_iload_n C rfl 1 rfl dX12_compares_4 ?_
  obtain ⟨c7, h⟩ := h
  refine x_iald C ob386.1 ob386.2 c7 rfl dX12_compares_5 ?_
  refine x_aload_n C rfl 0 rfl dX12_compares_6 ?_
  refine x_getR (r := 385) C (j := 40) ob358.1 ob358.2 (Nat.le_of_ble_eq_true rfl) (Nat.le_of_ble_eq_true rfl) (fun _ _ _ => rfl) r_358_40 tw_9_6 dX12_compares_7 ?_
  refine x_iload_n C rfl 2 rfl dX12_compares_10 ?_
  obtain ⟨c8, h⟩ := h
  refine x_iald C ob385.1 ob385.2 c8 rfl dX12_compares_11 ?_
  refine x_imul C dX12_compares_12 ?_
  refine x_aload_n C rfl 0 rfl dX12_compares_13 ?_
  refine x_getR (r := 386) C (j := 41) ob358.1 ob358.2 (Nat.le_of_ble_eq_true rfl) (Nat.le_of_ble_eq_true rfl) (fun _ _ _ => rfl) r_358_41 tw_9_7 dX12_compares_14 ?_
  refine x_iload_n C rfl 2 rfl dX12_compares_17 ?_
  obtain ⟨c9, h⟩ := h
  refine x_iald C ob386.1 ob386.2 c9 rfl dX12_compares_18 ?_
  refine x_aload_n C rfl 0 rfl dX12_compares_19 ?_
  refine x_getR (r := 385) C (j := 40) ob358.1 ob358.2 (Nat.le_of_ble_eq_true rfl) (Nat.le_of_ble_eq_true rfl) (fun _ _ _ => rfl) r_358_40 tw_9_6 dX12_compares_20 ?_
  refine x_iload_n C rfl 1 rfl dX12_compares_23 ?_
  obtain ⟨c10, h⟩ := h
  refine x_iald C ob385.1 ob385.2 c10 rfl dX12_compares_24 ?_
  refine x_imul C dX12_compares_25 ?_
  refine x_callS (dC := GJ6_compare_7cf53_dep) (as := [.int ((gI μ 386 v1.toNatClampNeg) * (gI μ 385 v2.toNatClampNeg)), .int ((gI μ 386 v2.toNatClampNeg) * (gI μ 385 v1.toNatClampNeg))]) (st := []) C rfl (Nat.le_trans (Nat.le_of_ble_eq_true rfl) hd) (Nat.le_of_ble_eq_true rfl) tw_4_174 tw_7_224 tc_4_175 tw_1_24 hyJ6 hnJ6_compare_7cf53 rfl (Nat.le_of_ble_eq_true rfl) dX12_compares_26 (GJ6_compare_7cf53_met C.2.2.2.2.2.2.2.1 (Nat.le_refl _)  h) (fun r0 μ11 hq => ?_)
  obtain ⟨r12, rfl, h⟩ := hq
  refine x_st [.int r12] rfl ?_
  exact x_iret C hr dX12_compares_29 ⟨_, rfl, h⟩
set_option maxHeartbeats 4000000 in
set_option maxRecDepth 100000 in
theorem GJ6_signum_0f7a4_met {l : Launch} {φ : Nat → Nat} {tc : Nat → ClassId} {D : va_G} {s0 : State} (hG : GX φ tc D s0) {dR : Nat} (hd : GJ6_signum_0f7a4_dep ≤ dR) {v0 : Int32} {μ : MM} {Q : Int32 → MM → Prop}  (h : GJ6_signum_0f7a4 v0 μ Q) : MX l φ tc D s0 dR yJ6_signum_0f7a4 cJ6_signum_0f7a4 1 (some .int) [.int v0] μ (QI Q) := by
  refine MX.of (own := RJ6) hG plJ6 rfl (Nat.le_of_ble_eq_true rfl) (fun p e s m args below meth c C hr => ?_)
  refine x_sub [(0, .int v0)] [0] rfl ?_
  unfold GJ6_signum_0f7a4 at h
  refine x_iload_n C rfl 0 rfl dJ6_signum_0f7a4_0 ?_
  refine x_bipush (v := 31) C (by decide) dJ6_signum_0f7a4_1 ?_
  refine x_ishr C dJ6_signum_0f7a4_3 ?_
  refine x_iload_n C rfl 0 rfl dJ6_signum_0f7a4_4 ?_
  refine x_ineg C dJ6_signum_0f7a4_5 ?_
  refine x_bipush (v := 31) C (by decide) dJ6_signum_0f7a4_6 ?_
  refine x_iushr C dJ6_signum_0f7a4_8 ?_
  refine x_ior C dJ6_signum_0f7a4_9 ?_
  exact x_iret C hr dJ6_signum_0f7a4_10 ⟨_, rfl, h⟩
set_option maxHeartbeats 4000000 in
set_option maxRecDepth 100000 in
theorem G12_pairsOf_J137_ok {p : Program} {e : Env} {s : State} {m : MethodId} {args : Array Value} {below : List Frame} {meth : Method} {c : Code} {l : Launch} {φ : Nat → Nat} {tc : Nat → ClassId} {D : va_G} {s0 : State} {dR : Nat} (C : CX p s m args meth c φ tc D s0 cX12_pairsOf RX12 5) (hd : G12_pairsOf_dep ≤ dR) (hr : meth.sig.returnType = none)  {p1 : Int32} {p2 : Int32} {p3 : Int32} {q0 : Int32} {q1 : Int32} {Q : MM → Prop} {K17 : Int32 × MM → Prop} {K27 : Int32 × MM → Prop} {μ : MM}   (hK17 : ∀ (z2 : Int32) (zμ : MM), K17 (z2, zμ) → WX p l e (rmX dR) s m args below meth c φ tc D 5 (MQ below (QX φ tc D (QV Q)) args s 0 0 (AX φ)) 17 [(0, .ref 358), (1, .int p1), (2, .int z2)] [] zμ) (hK27 : ∀ (z3 : Int32) (zμ : MM), K27 (z3, zμ) → WX p l e (rmX dR) s m args below meth c φ tc D 5 (MQ below (QX φ tc D (QV Q)) args s 0 0 (AX φ)) 27 [(0, .ref 358), (1, .int p1), (2, .int p2), (3, .int z3)] [] zμ) (h : G12_pairsOf_J137 p1 p2 p3 q0 q1 μ K17 K27 Q) : WX p l e (rmX dR) s m args below meth c φ tc D 5 (MQ below (QX φ tc D (QV Q)) args s 0 0 (AX φ)) 137 [(0, .ref 358), (1, .int p1), (2, .int p2), (3, .int p3)] [.int q0, .int q1, .ref 358] μ := by
  unfold G12_pairsOf_J137 at h
  refine x_callS (dC := G12_flag_dep) (as := [.int q0]) (st := [.int q1, .ref 358]) C rfl (Nat.le_trans (Nat.le_of_ble_eq_true rfl) hd) (Nat.le_of_ble_eq_true rfl) tw_6_212 tw_6_211 tc_6_213 tw_1_13 hyX12 hnX12_flag rfl (Nat.le_of_ble_eq_true rfl) dX12_pairsOf_137 (G12_flag_met C.2.2.2.2.2.2.2.1 (Nat.le_refl _)  h) (fun r0 μ50 hq => ?_)
  obtain ⟨r51, rfl, h⟩ := hq
  refine x_st [.int r51, .int q1, .ref 358] rfl ?_
  refine x_iadd C dX12_pairsOf_140 ?_
  refine x_putI C (j := 44) ob358.1 ob358.2 (Nat.le_of_ble_eq_true rfl) (Nat.le_of_ble_eq_true rfl) (Or.inl rfl) rfl rfl rfl tw_9_10 dX12_pairsOf_141 ?_
  refine x_mu (fun μ52 e_μ52 => ?_)
  have h := h μ52 e_μ52
  refine x_iinc (v := (p3 + 1)) C [(3, .int (p3 + 1)), (0, .ref 358), (1, .int p1), (2, .int p2)] 3 rfl (congrArg (fun z => p3 + z) (by decide : Int32.ofInt (1) = 1)) (Nat.le_of_ble_eq_true rfl) rfl dX12_pairsOf_144 ?_
  refine x_goto (tgt := 27) C dX12_pairsOf_147 (by decide) ?_
  refine x_sub [(0, .ref 358), (1, .int p1), (2, .int p2), (3, .int (p3 + 1))] [1, 2, 3, 0] rfl ?_
  exact hK27 _ _ h
set_option maxHeartbeats 4000000 in
set_option maxRecDepth 100000 in
theorem G12_pairsOf_J115_ok {p : Program} {e : Env} {s : State} {m : MethodId} {args : Array Value} {below : List Frame} {meth : Method} {c : Code} {l : Launch} {φ : Nat → Nat} {tc : Nat → ClassId} {D : va_G} {s0 : State} {dR : Nat} (C : CX p s m args meth c φ tc D s0 cX12_pairsOf RX12 5) (hd : G12_pairsOf_dep ≤ dR) (hr : meth.sig.returnType = none)  {p1 : Int32} {p2 : Int32} {p3 : Int32} {p4 : Int32} {q0 : Int32} {q1 : Int32} {Q : MM → Prop} {K17 : Int32 × MM → Prop} {K27 : Int32 × MM → Prop} {μ : MM}   (hK17 : ∀ (z2 : Int32) (zμ : MM), K17 (z2, zμ) → WX p l e (rmX dR) s m args below meth c φ tc D 5 (MQ below (QX φ tc D (QV Q)) args s 0 0 (AX φ)) 17 [(0, .ref 358), (1, .int p1), (2, .int z2)] [] zμ) (hK27 : ∀ (z3 : Int32) (zμ : MM), K27 (z3, zμ) → WX p l e (rmX dR) s m args below meth c φ tc D 5 (MQ below (QX φ tc D (QV Q)) args s 0 0 (AX φ)) 27 [(0, .ref 358), (1, .int p1), (2, .int p2), (3, .int z3)] [] zμ) (h : G12_pairsOf_J115 p1 p2 p3 p4 q0 q1 μ K17 K27 Q) : WX p l e (rmX dR) s m args below meth c φ tc D 5 (MQ below (QX φ tc D (QV Q)) args s 0 0 (AX φ)) 115 [(0, .ref 358), (1, .int p1), (2, .int p2), (3, .int p3), (4, .int p4)] [.int q0, .int q1, .ref 358] μ := by
  unfold G12_pairsOf_J115 at h
  refine x_callS (dC := G12_flag_dep) (as := [.int q0]) (st := [.int q1, .ref 358]) C rfl (Nat.le_trans (Nat.le_of_ble_eq_true rfl) hd) (Nat.le_of_ble_eq_true rfl) tw_6_212 tw_6_211 tc_6_213 tw_1_13 hyX12 hnX12_flag rfl (Nat.le_of_ble_eq_true rfl) dX12_pairsOf_115 (G12_flag_met C.2.2.2.2.2.2.2.1 (Nat.le_refl _)  h) (fun r0 μ46 hq => ?_)
  obtain ⟨r47, rfl, h⟩ := hq
  refine x_st [.int r47, .int q1, .ref 358] rfl ?_
  refine x_iadd C dX12_pairsOf_118 ?_
  refine x_putI C (j := 43) ob358.1 ob358.2 (Nat.le_of_ble_eq_true rfl) (Nat.le_of_ble_eq_true rfl) (Or.inl rfl) rfl rfl rfl tw_9_9 dX12_pairsOf_119 ?_
  refine x_mu (fun μ48 e_μ48 => ?_)
  have h := h μ48 e_μ48
  refine x_aload_n C rfl 0 rfl dX12_pairsOf_122 ?_
  refine x_dup C rfl dX12_pairsOf_123 ?_
  refine x_getI C (j := 44) ob358.1 ob358.2 (Nat.le_of_ble_eq_true rfl) (Nat.le_of_ble_eq_true rfl) (Or.inl rfl) tw_9_10 dX12_pairsOf_124 ?_
  refine x_iload C 4 rfl dX12_pairsOf_127 ?_
  refine x_if_ne (tgt := 136) C dX12_pairsOf_129 (by decide) (fun c49 => ?_) (fun c49 => ?_)
  · have h := h.1 c49
    refine x_iconst (v := 0) C (by decide) dX12_pairsOf_136 ?_
    refine x_sub [(0, .ref 358), (1, .int p1), (2, .int p2), (3, .int p3)] [0, 1, 2, 3] rfl ?_
    exact G12_pairsOf_J137_ok C hd hr hK17 hK27 h
  · have h := h.2 c49
    refine x_iconst (v := 1) C (by decide) dX12_pairsOf_132 ?_
    refine x_goto (tgt := 137) C dX12_pairsOf_133 (by decide) ?_
    refine x_sub [(0, .ref 358), (1, .int p1), (2, .int p2), (3, .int p3)] [0, 1, 2, 3] rfl ?_
    exact G12_pairsOf_J137_ok C hd hr hK17 hK27 h
set_option maxHeartbeats 4000000 in
set_option maxRecDepth 100000 in
theorem G12_pairsOf_J93_ok {p : Program} {e : Env} {s : State} {m : MethodId} {args : Array Value} {below : List Frame} {meth : Method} {c : Code} {l : Launch} {φ : Nat → Nat} {tc : Nat → ClassId} {D : va_G} {s0 : State} {dR : Nat} (C : CX p s m args meth c φ tc D s0 cX12_pairsOf RX12 5) (hd : G12_pairsOf_dep ≤ dR) (hr : meth.sig.returnType = none)  {p1 : Int32} {p2 : Int32} {p3 : Int32} {p4 : Int32} {q0 : Int32} {q1 : Int32} {Q : MM → Prop} {K17 : Int32 × MM → Prop} {K27 : Int32 × MM → Prop} {μ : MM}   (hK17 : ∀ (z2 : Int32) (zμ : MM), K17 (z2, zμ) → WX p l e (rmX dR) s m args below meth c φ tc D 5 (MQ below (QX φ tc D (QV Q)) args s 0 0 (AX φ)) 17 [(0, .ref 358), (1, .int p1), (2, .int z2)] [] zμ) (hK27 : ∀ (z3 : Int32) (zμ : MM), K27 (z3, zμ) → WX p l e (rmX dR) s m args below meth c φ tc D 5 (MQ below (QX φ tc D (QV Q)) args s 0 0 (AX φ)) 27 [(0, .ref 358), (1, .int p1), (2, .int p2), (3, .int z3)] [] zμ) (h : G12_pairsOf_J93 p1 p2 p3 p4 q0 q1 μ K17 K27 Q) : WX p l e (rmX dR) s m args below meth c φ tc D 5 (MQ below (QX φ tc D (QV Q)) args s 0 0 (AX φ)) 93 [(0, .ref 358), (1, .int p1), (2, .int p2), (3, .int p3), (4, .int p4)] [.int q0, .int q1, .ref 358] μ := by
  unfold G12_pairsOf_J93 at h
  refine x_callS (dC := G12_flag_dep) (as := [.int q0]) (st := [.int q1, .ref 358]) C rfl (Nat.le_trans (Nat.le_of_ble_eq_true rfl) hd) (Nat.le_of_ble_eq_true rfl) tw_6_212 tw_6_211 tc_6_213 tw_1_13 hyX12 hnX12_flag rfl (Nat.le_of_ble_eq_true rfl) dX12_pairsOf_93 (G12_flag_met C.2.2.2.2.2.2.2.1 (Nat.le_refl _)  h) (fun r0 μ42 hq => ?_)
  obtain ⟨r43, rfl, h⟩ := hq
  refine x_st [.int r43, .int q1, .ref 358] rfl ?_
  refine x_iadd C dX12_pairsOf_96 ?_
  refine x_putI C (j := 42) ob358.1 ob358.2 (Nat.le_of_ble_eq_true rfl) (Nat.le_of_ble_eq_true rfl) (Or.inl rfl) rfl rfl rfl tw_9_8 dX12_pairsOf_97 ?_
  refine x_mu (fun μ44 e_μ44 => ?_)
  have h := h μ44 e_μ44
  refine x_aload_n C rfl 0 rfl dX12_pairsOf_100 ?_
  refine x_dup C rfl dX12_pairsOf_101 ?_
  refine x_getI C (j := 43) ob358.1 ob358.2 (Nat.le_of_ble_eq_true rfl) (Nat.le_of_ble_eq_true rfl) (Or.inl rfl) tw_9_9 dX12_pairsOf_102 ?_
  refine x_iload C 4 rfl dX12_pairsOf_105 ?_
  refine x_if_ge (tgt := 114) C dX12_pairsOf_107 (by decide) (fun c45 => ?_) (fun c45 => ?_)
  · have h := h.1 c45
    refine x_iconst (v := 0) C (by decide) dX12_pairsOf_114 ?_
    exact G12_pairsOf_J115_ok C hd hr hK17 hK27 h
  · have h := h.2 c45
    refine x_iconst (v := 1) C (by decide) dX12_pairsOf_110 ?_
    refine x_goto (tgt := 115) C dX12_pairsOf_111 (by decide) ?_
    exact G12_pairsOf_J115_ok C hd hr hK17 hK27 h
set_option maxHeartbeats 4000000 in
set_option maxRecDepth 100000 in
theorem G12_pairsOf_L27_b {p : Program} {e : Env} {s : State} {m : MethodId} {args : Array Value} {below : List Frame} {meth : Method} {c : Code} {l : Launch} {φ : Nat → Nat} {tc : Nat → ClassId} {D : va_G} {s0 : State} {dR : Nat} (C : CX p s m args meth c φ tc D s0 cX12_pairsOf RX12 5) (hd : G12_pairsOf_dep ≤ dR) (hr : meth.sig.returnType = none)  {p1 : Int32} {p2 : Int32} {Q : MM → Prop} {K17 : Int32 × MM → Prop} {K27 : Int32 × MM → Prop} {x : Int32 × MM}   (hK17 : ∀ (z2 : Int32) (zμ : MM), K17 (z2, zμ) → WX p l e (rmX dR) s m args below meth c φ tc D 5 (MQ below (QX φ tc D (QV Q)) args s 0 0 (AX φ)) 17 [(0, .ref 358), (1, .int p1), (2, .int z2)] [] zμ) (hK27 : ∀ (z3 : Int32) (zμ : MM), K27 (z3, zμ) → WX p l e (rmX dR) s m args below meth c φ tc D 5 (MQ below (QX φ tc D (QV Q)) args s 0 0 (AX φ)) 27 [(0, .ref 358), (1, .int p1), (2, .int p2), (3, .int z3)] [] zμ) (h : G12_pairsOf_L27 p1 p2 K17 Q K27 x) : WX p l e (rmX dR) s m args below meth c φ tc D 5 (MQ below (QX φ tc D (QV Q)) args s 0 0 (AX φ)) 27 [(0, .ref 358), (1, .int p1), (2, .int p2), (3, .int x.1)] [] x.2 := by
  unfold G12_pairsOf_L27 at h
  refine x_iload_n C rfl 3 rfl dX12_pairsOf_27 ?_
  refine x_iload_n C rfl 2 rfl dX12_pairsOf_28 ?_
  refine x_icmp_ge (tgt := 150) C dX12_pairsOf_29 (by decide) (fun c27 => ?_) (fun c27 => ?_)
  · have h := h.1 c27
    refine x_iinc (v := (p2 + 1)) C [(2, .int (p2 + 1)), (0, .ref 358), (1, .int p1), (3, .int x.1)] 2 rfl (congrArg (fun z => p2 + z) (by decide : Int32.ofInt (1) = 1)) (Nat.le_of_ble_eq_true rfl) rfl dX12_pairsOf_150 ?_
    refine x_goto (tgt := 17) C dX12_pairsOf_153 (by decide) ?_
    refine x_sub [(0, .ref 358), (1, .int p1), (2, .int (p2 + 1))] [1, 2, 0] rfl ?_
    exact hK17 _ _ h
  · have h := h.2 c27
    refine x_aload_n C rfl 0 rfl dX12_pairsOf_32 ?_
    refine x_getR (r := 385) C (j := 40) ob358.1 ob358.2 (Nat.le_of_ble_eq_true rfl) (Nat.le_of_ble_eq_true rfl) (fun _ _ _ => rfl) r_358_40 tw_9_6 dX12_pairsOf_33 ?_
    refine x_iload_n C rfl 2 rfl dX12_pairsOf_36 ?_
    obtain ⟨c28, h⟩ := h
    refine x_iald C ob385.1 ob385.2 c28 rfl dX12_pairsOf_37 ?_
    refine x_if_eq (tgt := 144) C dX12_pairsOf_38 (by decide) (fun c29 => ?_) (fun c29 => ?_)
    · have h := h.1 c29
      refine x_iinc (v := (x.1 + 1)) C [(3, .int (x.1 + 1)), (0, .ref 358), (1, .int p1), (2, .int p2)] 3 rfl (congrArg (fun z => x.1 + z) (by decide : Int32.ofInt (1) = 1)) (Nat.le_of_ble_eq_true rfl) rfl dX12_pairsOf_144 ?_
      refine x_goto (tgt := 27) C dX12_pairsOf_147 (by decide) ?_
      refine x_sub [(0, .ref 358), (1, .int p1), (2, .int p2), (3, .int (x.1 + 1))] [1, 2, 3, 0] rfl ?_
      exact hK27 _ _ h
    · have h := h.2 c29
      refine x_aload_n C rfl 0 rfl dX12_pairsOf_41 ?_
      refine x_getR (r := 385) C (j := 40) ob358.1 ob358.2 (Nat.le_of_ble_eq_true rfl) (Nat.le_of_ble_eq_true rfl) (fun _ _ _ => rfl) r_358_40 tw_9_6 dX12_pairsOf_42 ?_
      refine x_iload_n C rfl 3 rfl dX12_pairsOf_45 ?_
      obtain ⟨c30, h⟩ := h
      refine x_iald C ob385.1 ob385.2 c30 rfl dX12_pairsOf_46 ?_
      refine x_if_ne (tgt := 53) C dX12_pairsOf_47 (by decide) (fun c31 => ?_) (fun c31 => ?_)
      · have h := h.1 c31
        refine x_aload_n C rfl 0 rfl dX12_pairsOf_53 ?_
        refine x_iload_n C rfl 1 rfl dX12_pairsOf_54 ?_
        refine x_iload_n C rfl 2 rfl dX12_pairsOf_55 ?_
        refine x_callV (dC := G12_saysOf_dep) (as := [.int p1, .int p2]) (st := []) C rfl (Nat.le_trans (Nat.le_of_ble_eq_true rfl) hd) (Nat.le_of_ble_eq_true rfl) ob358.1 ob358.2 (Nat.le_of_ble_eq_true rfl) rfl ts_10_6 tw_7_215 tw_7_213 tc_7_216 tw_1_13 hyX12 hnX12_saysOf rfl (Nat.le_of_ble_eq_true rfl) dX12_pairsOf_56 (G12_saysOf_met C.2.2.2.2.2.2.2.1 (Nat.le_refl _)  h) (fun r0 μ32 hq => ?_)
        obtain ⟨r33, rfl, h⟩ := hq
        refine x_st [.int r33] rfl ?_
        refine x_aload_n C rfl 0 rfl dX12_pairsOf_59 ?_
        refine x_iload_n C rfl 1 rfl dX12_pairsOf_60 ?_
        refine x_iload_n C rfl 3 rfl dX12_pairsOf_61 ?_
        refine x_callV (dC := G12_saysOf_dep) (as := [.int p1, .int x.1]) (st := [.int r33]) C rfl (Nat.le_trans (Nat.le_of_ble_eq_true rfl) hd) (Nat.le_of_ble_eq_true rfl) ob358.1 ob358.2 (Nat.le_of_ble_eq_true rfl) rfl ts_10_6 tw_7_215 tw_7_213 tc_7_216 tw_1_13 hyX12 hnX12_saysOf rfl (Nat.le_of_ble_eq_true rfl) dX12_pairsOf_62 (G12_saysOf_met C.2.2.2.2.2.2.2.1 (Nat.le_refl _)  h) (fun r0 μ34 hq => ?_)
        obtain ⟨r35, rfl, h⟩ := hq
        refine x_st [.int r35, .int r33] rfl ?_
        refine x_isub C dX12_pairsOf_65 ?_
        refine x_callS (dC := GJ6_signum_0f7a4_dep) (as := [.int (r33 - r35)]) (st := []) C rfl (Nat.le_trans (Nat.le_of_ble_eq_true rfl) hd) (Nat.le_of_ble_eq_true rfl) tw_7_218 tw_7_217 tc_7_219 tw_1_24 hyJ6 hnJ6_signum_0f7a4 rfl (Nat.le_of_ble_eq_true rfl) dX12_pairsOf_66 (GJ6_signum_0f7a4_met C.2.2.2.2.2.2.2.1 (Nat.le_refl _)  h) (fun r0 μ36 hq => ?_)
        obtain ⟨r37, rfl, h⟩ := hq
        refine x_st [.int r37] rfl ?_
        refine x_aload_n C rfl 0 rfl dX12_pairsOf_69 ?_
        refine x_iload_n C rfl 2 rfl dX12_pairsOf_70 ?_
        refine x_iload_n C rfl 3 rfl dX12_pairsOf_71 ?_
        refine x_callV (dC := G12_compares_dep) (as := [.int p2, .int x.1]) (st := [.int r37]) C rfl (Nat.le_trans (Nat.le_of_ble_eq_true rfl) hd) (Nat.le_of_ble_eq_true rfl) ob358.1 ob358.2 (Nat.le_of_ble_eq_true rfl) rfl ts_10_7 tw_7_222 tw_7_220 tc_7_223 tw_1_13 hyX12 hnX12_compares rfl (Nat.le_of_ble_eq_true rfl) dX12_pairsOf_72 (G12_compares_met C.2.2.2.2.2.2.2.1 (Nat.le_refl _)  h) (fun r0 μ38 hq => ?_)
        obtain ⟨r39, rfl, h⟩ := hq
        refine x_st [.int r39, .int r37] rfl ?_
        refine x_imul C dX12_pairsOf_75 ?_
        refine x_topi (fun y40 e_y40 => ?_)
        have h := h y40 e_y40
        refine x_istore C [(4, .int y40), (0, .ref 358), (1, .int p1), (2, .int p2), (3, .int x.1)] (Nat.le_of_ble_eq_true rfl) rfl dX12_pairsOf_76 ?_
        refine x_aload_n C rfl 1 rfl dX12_pairsOf_78 ?_
        refine x_dup C rfl dX12_pairsOf_79 ?_
        refine x_getI C (j := 42) ob358.1 ob358.2 (Nat.le_of_ble_eq_true rfl) (Nat.le_of_ble_eq_true rfl) (Or.inl rfl) tw_9_8 dX12_pairsOf_80 ?_
        refine x_iload C 0 rfl dX12_pairsOf_83 ?_
        refine x_if_le (tgt := 92) C dX12_pairsOf_85 (by decide) (fun c41 => ?_) (fun c41 => ?_)
        · have h := h.1 c41
          refine x_iconst (v := 0) C (by decide) dX12_pairsOf_92 ?_
          refine x_sub [(0, .ref 358), (1, .int p1), (2, .int p2), (3, .int x.1), (4, .int y40)] [1, 2, 3, 4, 0] rfl ?_
          exact G12_pairsOf_J93_ok C hd hr hK17 hK27 h
        · have h := h.2 c41
          refine x_iconst (v := 1) C (by decide) dX12_pairsOf_88 ?_
          refine x_goto (tgt := 93) C dX12_pairsOf_89 (by decide) ?_
          refine x_sub [(0, .ref 358), (1, .int p1), (2, .int p2), (3, .int x.1), (4, .int y40)] [1, 2, 3, 4, 0] rfl ?_
          exact G12_pairsOf_J93_ok C hd hr hK17 hK27 h
      · have h := h.2 c31
        refine x_goto (tgt := 144) C dX12_pairsOf_50 (by decide) ?_
        refine x_iinc (v := (x.1 + 1)) C [(3, .int (x.1 + 1)), (0, .ref 358), (1, .int p1), (2, .int p2)] 3 rfl (congrArg (fun z => x.1 + z) (by decide : Int32.ofInt (1) = 1)) (Nat.le_of_ble_eq_true rfl) rfl dX12_pairsOf_144 ?_
        refine x_goto (tgt := 27) C dX12_pairsOf_147 (by decide) ?_
        refine x_sub [(0, .ref 358), (1, .int p1), (2, .int p2), (3, .int (x.1 + 1))] [1, 2, 3, 0] rfl ?_
        exact hK27 _ _ h
theorem G12_pairsOf_L27_ok {p : Program} {e : Env} {s : State} {m : MethodId} {args : Array Value} {below : List Frame} {meth : Method} {c : Code} {l : Launch} {φ : Nat → Nat} {tc : Nat → ClassId} {D : va_G} {s0 : State} {dR : Nat} (C : CX p s m args meth c φ tc D s0 cX12_pairsOf RX12 5) (hd : G12_pairsOf_dep ≤ dR) (hr : meth.sig.returnType = none)  {p1 : Int32} {p2 : Int32} {Q : MM → Prop} {K17 : Int32 × MM → Prop} {x : Int32 × MM}   (hK17 : ∀ (z2 : Int32) (zμ : MM), K17 (z2, zμ) → WX p l e (rmX dR) s m args below meth c φ tc D 5 (MQ below (QX φ tc D (QV Q)) args s 0 0 (AX φ)) 17 [(0, .ref 358), (1, .int p1), (2, .int z2)] [] zμ) (h : Lp (G12_pairsOf_L27 p1 p2 K17 Q) x) : WX p l e (rmX dR) s m args below meth c φ tc D 5 (MQ below (QX φ tc D (QV Q)) args s 0 0 (AX φ)) 27 [(0, .ref 358), (1, .int p1), (2, .int p2), (3, .int x.1)] [] x.2 := by
  obtain ⟨n, h⟩ := h
  induction n generalizing x with
  | zero => exact h.elim
  | succ n ih => exact G12_pairsOf_L27_b C hd hr  hK17 (fun z3 zμ hz => by have q := ih hz; exact q) h
set_option maxHeartbeats 4000000 in
set_option maxRecDepth 100000 in
theorem G12_pairsOf_L17_b {p : Program} {e : Env} {s : State} {m : MethodId} {args : Array Value} {below : List Frame} {meth : Method} {c : Code} {l : Launch} {φ : Nat → Nat} {tc : Nat → ClassId} {D : va_G} {s0 : State} {dR : Nat} (C : CX p s m args meth c φ tc D s0 cX12_pairsOf RX12 5) (hd : G12_pairsOf_dep ≤ dR) (hr : meth.sig.returnType = none)  {p1 : Int32} {Q : MM → Prop} {K17 : Int32 × MM → Prop} {x : Int32 × MM}   (hK17 : ∀ (z2 : Int32) (zμ : MM), K17 (z2, zμ) → WX p l e (rmX dR) s m args below meth c φ tc D 5 (MQ below (QX φ tc D (QV Q)) args s 0 0 (AX φ)) 17 [(0, .ref 358), (1, .int p1), (2, .int z2)] [] zμ) (h : G12_pairsOf_L17 p1 Q K17 x) : WX p l e (rmX dR) s m args below meth c φ tc D 5 (MQ below (QX φ tc D (QV Q)) args s 0 0 (AX φ)) 17 [(0, .ref 358), (1, .int p1), (2, .int x.1)] [] x.2 := by
  unfold G12_pairsOf_L17 at h
  refine x_iload_n C rfl 2 rfl dX12_pairsOf_17 ?_
  refine x_aload_n C rfl 0 rfl dX12_pairsOf_18 ?_
  refine x_getI C (j := 3) ob358.1 ob358.2 (Nat.le_of_ble_eq_true rfl) (Nat.le_of_ble_eq_true rfl) (Or.inl rfl) tw_8_209 dX12_pairsOf_19 ?_
  refine x_icmp_ge (tgt := 156) C dX12_pairsOf_22 (by decide) (fun c26 => ?_) (fun c26 => ?_)
  · have h := h.1 c26
    exact x_vret C hr dX12_pairsOf_156 ⟨rfl, h⟩
  · have h := h.2 c26
    refine x_iconst (v := 0) C (by decide) dX12_pairsOf_25 ?_
    refine x_istore_n C [(3, .int 0), (0, .ref 358), (1, .int p1), (2, .int x.1)] rfl (Nat.le_of_ble_eq_true rfl) rfl dX12_pairsOf_26 ?_
    refine x_sub [(0, .ref 358), (1, .int p1), (2, .int x.1), (3, .int 0)] [1, 2, 3, 0] rfl ?_
    exact G12_pairsOf_L27_ok C hd hr hK17 h
theorem G12_pairsOf_L17_ok {p : Program} {e : Env} {s : State} {m : MethodId} {args : Array Value} {below : List Frame} {meth : Method} {c : Code} {l : Launch} {φ : Nat → Nat} {tc : Nat → ClassId} {D : va_G} {s0 : State} {dR : Nat} (C : CX p s m args meth c φ tc D s0 cX12_pairsOf RX12 5) (hd : G12_pairsOf_dep ≤ dR) (hr : meth.sig.returnType = none)  {p1 : Int32} {Q : MM → Prop}  {x : Int32 × MM}    (h : Lp (G12_pairsOf_L17 p1 Q) x) : WX p l e (rmX dR) s m args below meth c φ tc D 5 (MQ below (QX φ tc D (QV Q)) args s 0 0 (AX φ)) 17 [(0, .ref 358), (1, .int p1), (2, .int x.1)] [] x.2 := by
  obtain ⟨n, h⟩ := h
  induction n generalizing x with
  | zero => exact h.elim
  | succ n ih => exact G12_pairsOf_L17_b C hd hr   (fun z2 zμ hz => by have q := ih hz; exact q) h
set_option maxHeartbeats 4000000 in
set_option maxRecDepth 100000 in
theorem G12_pairsOf_met {l : Launch} {φ : Nat → Nat} {tc : Nat → ClassId} {D : va_G} {s0 : State} (hG : GX φ tc D s0) {dR : Nat} (hd : G12_pairsOf_dep ≤ dR) {v1 : Int32} {μ : MM} {Q : MM → Prop}  (h : G12_pairsOf v1 μ Q) : MX l φ tc D s0 dR yX12_pairsOf cX12_pairsOf 5 none [.ref 358, .int v1] μ (QV Q) := by
  refine MX.of (own := RX12) hG plX12 rfl (Nat.le_of_ble_eq_true rfl) (fun p e s m args below meth c C hr => ?_)
  refine x_sub [(0, .ref 358), (1, .int v1)] [0, 1] rfl ?_
  unfold G12_pairsOf at h
  refine x_aload_n C rfl 0 rfl dX12_pairsOf_0 ?_
  refine x_iconst (v := 0) C (by decide) dX12_pairsOf_1 ?_
  refine x_putI C (j := 42) ob358.1 ob358.2 (Nat.le_of_ble_eq_true rfl) (Nat.le_of_ble_eq_true rfl) (Or.inl rfl) rfl rfl rfl tw_9_8 dX12_pairsOf_2 ?_
  refine x_mu (fun μ23 e_μ23 => ?_)
  have h := h μ23 e_μ23
  refine x_aload_n C rfl 0 rfl dX12_pairsOf_5 ?_
  refine x_iconst (v := 0) C (by decide) dX12_pairsOf_6 ?_
  refine x_putI C (j := 43) ob358.1 ob358.2 (Nat.le_of_ble_eq_true rfl) (Nat.le_of_ble_eq_true rfl) (Or.inl rfl) rfl rfl rfl tw_9_9 dX12_pairsOf_7 ?_
  refine x_mu (fun μ24 e_μ24 => ?_)
  have h := h μ24 e_μ24
  refine x_aload_n C rfl 0 rfl dX12_pairsOf_10 ?_
  refine x_iconst (v := 0) C (by decide) dX12_pairsOf_11 ?_
  refine x_putI C (j := 44) ob358.1 ob358.2 (Nat.le_of_ble_eq_true rfl) (Nat.le_of_ble_eq_true rfl) (Or.inl rfl) rfl rfl rfl tw_9_10 dX12_pairsOf_12 ?_
  refine x_mu (fun μ25 e_μ25 => ?_)
  have h := h μ25 e_μ25
  refine x_iconst (v := 0) C (by decide) dX12_pairsOf_15 ?_
  refine x_istore_n C [(2, .int 0), (0, .ref 358), (1, .int v1)] rfl (Nat.le_of_ble_eq_true rfl) rfl dX12_pairsOf_16 ?_
  refine x_sub [(0, .ref 358), (1, .int v1), (2, .int 0)] [1, 2, 0] rfl ?_
  exact G12_pairsOf_L17_ok C hd hr  h
set_option maxHeartbeats 4000000 in
set_option maxRecDepth 100000 in
theorem G12_goes_met {l : Launch} {φ : Nat → Nat} {tc : Nat → ClassId} {D : va_G} {s0 : State} (hG : GX φ tc D s0) {dR : Nat} (hd : G12_goes_dep ≤ dR) {v1 : Int32} {μ : MM} {Q : Int32 → MM → Prop}  (h : G12_goes v1 μ Q) : MX l φ tc D s0 dR yX12_goes cX12_goes 2 (some .int) [.ref 358, .int v1] μ (QI Q) := by
  refine MX.of (own := RX12) hG plX12 rfl (Nat.le_of_ble_eq_true rfl) (fun p e s m args below meth c C hr => ?_)
  refine x_sub [(0, .ref 358), (1, .int v1)] [0, 1] rfl ?_
  unfold G12_goes at h
  refine x_aload_n C rfl 0 rfl dX12_goes_0 ?_
  refine x_iconst (v := 0) C (by decide) dX12_goes_1 ?_
  refine x_putI C (j := 0) ob358.1 ob358.2 (Nat.le_of_ble_eq_true rfl) (Nat.le_of_ble_eq_true rfl) (Or.inl rfl) rfl rfl rfl tw_8_206 dX12_goes_2 ?_
  refine x_mu (fun μ9 e_μ9 => ?_)
  have h := h μ9 e_μ9
  refine x_iload_n C rfl 1 rfl dX12_goes_5 ?_
  refine x_i2l C dX12_goes_6 ?_
  refine x_lconst (v := 0) C (by decide) dX12_goes_7 ?_
  refine x_ldc2 (v := 3) C tw_6_190 dX12_goes_8 ?_
  refine x_callS (dC := G12_in_dep) (as := [.long (v1.toInt64), .long 0, .long 3]) (st := []) C rfl (Nat.le_trans (Nat.le_of_ble_eq_true rfl) hd) (Nat.le_of_ble_eq_true rfl) tw_6_183 tw_6_182 tc_6_184 tw_1_13 hyX12 hnX12_in rfl (Nat.le_of_ble_eq_true rfl) dX12_goes_11 (G12_in_met C.2.2.2.2.2.2.2.1 (Nat.le_refl _)  h) (fun r0 μ10 hq => ?_)
  obtain ⟨r11, rfl, h⟩ := hq
  refine x_st [.int r11] rfl ?_
  refine x_if_ne (tgt := 19) C dX12_goes_14 (by decide) (fun c12 => ?_) (fun c12 => ?_)
  · have h := h.1 c12
    refine x_aload_n C rfl 0 rfl dX12_goes_19 ?_
    refine x_callV (dC := G12_countsNames_dep) (as := []) (st := []) C rfl (Nat.le_trans (Nat.le_of_ble_eq_true rfl) hd) (Nat.le_of_ble_eq_true rfl) ob358.1 ob358.2 (Nat.le_of_ble_eq_true rfl) rfl ts_10_4 tw_7_195 tw_7_193 tc_7_196 tw_1_13 hyX12 hnX12_countsNames rfl (Nat.le_of_ble_eq_true rfl) dX12_goes_20 (G12_countsNames_met C.2.2.2.2.2.2.2.1 (Nat.le_refl _)  h) (fun r0 μ13 hq => ?_)
    obtain ⟨rfl, h⟩ := hq
    refine x_st [] rfl ?_
    refine x_aload_n C rfl 0 rfl dX12_goes_23 ?_
    refine x_iload_n C rfl 1 rfl dX12_goes_24 ?_
    refine x_callV (dC := G12_pairsOf_dep) (as := [.int v1]) (st := []) C rfl (Nat.le_trans (Nat.le_of_ble_eq_true rfl) hd) (Nat.le_of_ble_eq_true rfl) ob358.1 ob358.2 (Nat.le_of_ble_eq_true rfl) rfl ts_10_5 tw_7_211 tw_7_209 tc_7_212 tw_1_13 hyX12 hnX12_pairsOf rfl (Nat.le_of_ble_eq_true rfl) dX12_goes_25 (G12_pairsOf_met C.2.2.2.2.2.2.2.1 (Nat.le_refl _)  h) (fun r0 μ14 hq => ?_)
    obtain ⟨rfl, h⟩ := hq
    refine x_st [] rfl ?_
    refine x_aload_n C rfl 0 rfl dX12_goes_28 ?_
    refine x_iconst (v := 0) C (by decide) dX12_goes_29 ?_
    refine x_putI C (j := 1) ob358.1 ob358.2 (Nat.le_of_ble_eq_true rfl) (Nat.le_of_ble_eq_true rfl) (Or.inl rfl) rfl rfl rfl tw_8_207 dX12_goes_30 ?_
    refine x_mu (fun μ15 e_μ15 => ?_)
    have h := h μ15 e_μ15
    refine x_aload_n C rfl 0 rfl dX12_goes_33 ?_
    refine x_aload_n C rfl 0 rfl dX12_goes_34 ?_
    refine x_getI C (j := 43) ob358.1 ob358.2 (Nat.le_of_ble_eq_true rfl) (Nat.le_of_ble_eq_true rfl) (Or.inl rfl) tw_9_9 dX12_goes_35 ?_
    refine x_i2l C dX12_goes_38 ?_
    refine x_callV (dC := G12_enters_dep) (as := [.long ((gI μ15 358 43).toInt64)]) (st := []) C rfl (Nat.le_trans (Nat.le_of_ble_eq_true rfl) hd) (Nat.le_of_ble_eq_true rfl) ob358.1 ob358.2 (Nat.le_of_ble_eq_true rfl) rfl ts_10_1 tw_7_161 tw_7_159 tc_7_162 tw_1_13 hyX12 hnX12_enters rfl (Nat.le_of_ble_eq_true rfl) dX12_goes_39 (G12_enters_met C.2.2.2.2.2.2.2.1 (Nat.le_refl _)  h) (fun r0 μ16 hq => ?_)
    obtain ⟨rfl, h⟩ := hq
    refine x_st [] rfl ?_
    refine x_aload_n C rfl 0 rfl dX12_goes_42 ?_
    refine x_aload_n C rfl 0 rfl dX12_goes_43 ?_
    refine x_getI C (j := 44) ob358.1 ob358.2 (Nat.le_of_ble_eq_true rfl) (Nat.le_of_ble_eq_true rfl) (Or.inl rfl) tw_9_10 dX12_goes_44 ?_
    refine x_i2l C dX12_goes_47 ?_
    refine x_callV (dC := G12_enters_dep) (as := [.long ((gI μ16 358 44).toInt64)]) (st := []) C rfl (Nat.le_trans (Nat.le_of_ble_eq_true rfl) hd) (Nat.le_of_ble_eq_true rfl) ob358.1 ob358.2 (Nat.le_of_ble_eq_true rfl) rfl ts_10_1 tw_7_161 tw_7_159 tc_7_162 tw_1_13 hyX12 hnX12_enters rfl (Nat.le_of_ble_eq_true rfl) dX12_goes_48 (G12_enters_met C.2.2.2.2.2.2.2.1 (Nat.le_refl _)  h) (fun r0 μ17 hq => ?_)
    obtain ⟨rfl, h⟩ := hq
    refine x_st [] rfl ?_
    refine x_aload_n C rfl 0 rfl dX12_goes_51 ?_
    refine x_getI C (j := 42) ob358.1 ob358.2 (Nat.le_of_ble_eq_true rfl) (Nat.le_of_ble_eq_true rfl) (Or.inl rfl) tw_9_8 dX12_goes_52 ?_
    exact x_iret C hr dX12_goes_55 ⟨_, rfl, h⟩
  · have h := h.2 c12
    refine x_iconst (v := (-1)) C (by decide) dX12_goes_17 ?_
    exact x_iret C hr dX12_goes_18 ⟨_, rfl, h⟩
set_option maxHeartbeats 4000000 in
set_option maxRecDepth 100000 in
theorem G12_says_J52_ok {p : Program} {e : Env} {s : State} {m : MethodId} {args : Array Value} {below : List Frame} {meth : Method} {c : Code} {l : Launch} {φ : Nat → Nat} {tc : Nat → ClassId} {D : va_G} {s0 : State} {dR : Nat} (C : CX p s m args meth c φ tc D s0 cX12_says RX12 5) (hd : G12_says_dep ≤ dR) (hr : meth.sig.returnType = (some .int))  {p3 : Int32} {p4 : Int32} {Q : Int32 → MM → Prop} {K15 : Int32 × Int32 × Int32 × MM → Prop} {μ : MM}   (hK15 : ∀ (z1 : Int32) (z2 : Int32) (z3 : Int32) (zμ : MM), K15 (z1, z2, z3, zμ) → WX p l e (rmX dR) s m args below meth c φ tc D 5 (MQ below (QX φ tc D (QI Q)) args s 0 0 (AX φ)) 15 [(0, .ref 358), (1, .int z1), (2, .int z2), (3, .int z3)] [] zμ) (h : G12_says_J52 p3 p4 μ K15 Q) : WX p l e (rmX dR) s m args below meth c φ tc D 5 (MQ below (QX φ tc D (QI Q)) args s 0 0 (AX φ)) 52 [(0, .ref 358), (3, .int p3), (4, .int p4)] [] μ := by
  unfold G12_says_J52 at h
  refine x_iload_n C rfl 1 rfl dX12_says_52 ?_
  refine x_istore_n C [(1, .int p3), (0, .ref 358), (3, .int p3), (4, .int p4)] rfl (Nat.le_of_ble_eq_true rfl) rfl dX12_says_53 ?_
  refine x_iload C 3 rfl dX12_says_54 ?_
  refine x_istore_n C [(2, .int p4), (1, .int p3), (0, .ref 358), (3, .int p3), (4, .int p4)] rfl (Nat.le_of_ble_eq_true rfl) rfl dX12_says_56 ?_
  refine x_iinc (v := (p3 + 1)) C [(3, .int (p3 + 1)), (2, .int p4), (1, .int p3), (0, .ref 358), (4, .int p4)] 3 rfl (congrArg (fun z => p3 + z) (by decide : Int32.ofInt (1) = 1)) (Nat.le_of_ble_eq_true rfl) rfl dX12_says_57 ?_
  refine x_goto (tgt := 15) C dX12_says_60 (by decide) ?_
  refine x_sub [(0, .ref 358), (1, .int p3), (2, .int p4), (3, .int (p3 + 1))] [3, 2, 1, 0] rfl ?_
  exact hK15 _ _ _ _ h
set_option maxHeartbeats 4000000 in
set_option maxRecDepth 100000 in
theorem G12_says_L15_b {p : Program} {e : Env} {s : State} {m : MethodId} {args : Array Value} {below : List Frame} {meth : Method} {c : Code} {l : Launch} {φ : Nat → Nat} {tc : Nat → ClassId} {D : va_G} {s0 : State} {dR : Nat} (C : CX p s m args meth c φ tc D s0 cX12_says RX12 5) (hd : G12_says_dep ≤ dR) (hr : meth.sig.returnType = (some .int))   {Q : Int32 → MM → Prop} {K15 : Int32 × Int32 × Int32 × MM → Prop} {x : Int32 × Int32 × Int32 × MM}   (hK15 : ∀ (z1 : Int32) (z2 : Int32) (z3 : Int32) (zμ : MM), K15 (z1, z2, z3, zμ) → WX p l e (rmX dR) s m args below meth c φ tc D 5 (MQ below (QX φ tc D (QI Q)) args s 0 0 (AX φ)) 15 [(0, .ref 358), (1, .int z1), (2, .int z2), (3, .int z3)] [] zμ) (h : G12_says_L15  Q K15 x) : WX p l e (rmX dR) s m args below meth c φ tc D 5 (MQ below (QX φ tc D (QI Q)) args s 0 0 (AX φ)) 15 [(0, .ref 358), (1, .int x.1), (2, .int x.2.1), (3, .int x.2.2.1)] [] x.2.2.2 := by
  unfold G12_says_L15 at h
  refine x_iload_n C rfl 3 rfl dX12_says_15 ?_
  refine x_iconst (v := 4) C (by decide) dX12_says_16 ?_
  refine x_icmp_ge (tgt := 63) C dX12_says_17 (by decide) (fun c8 => ?_) (fun c8 => ?_)
  · have h := h.1 c8
    refine x_aload_n C rfl 0 rfl dX12_says_63 ?_
    refine x_iconst (v := 0) C (by decide) dX12_says_64 ?_
    refine x_putI C (j := 1) ob358.1 ob358.2 (Nat.le_of_ble_eq_true rfl) (Nat.le_of_ble_eq_true rfl) (Or.inl rfl) rfl rfl rfl tw_8_207 dX12_says_65 ?_
    refine x_mu (fun μ9 e_μ9 => ?_)
    have h := h μ9 e_μ9
    refine x_aload_n C rfl 0 rfl dX12_says_68 ?_
    refine x_iload_n C rfl 2 rfl dX12_says_69 ?_
    refine x_i2l C dX12_says_70 ?_
    refine x_callV (dC := G12_enters_dep) (as := [.long (x.2.1.toInt64)]) (st := []) C rfl (Nat.le_trans (Nat.le_of_ble_eq_true rfl) hd) (Nat.le_of_ble_eq_true rfl) ob358.1 ob358.2 (Nat.le_of_ble_eq_true rfl) rfl ts_10_1 tw_7_161 tw_7_159 tc_7_162 tw_1_13 hyX12 hnX12_enters rfl (Nat.le_of_ble_eq_true rfl) dX12_says_71 (G12_enters_met C.2.2.2.2.2.2.2.1 (Nat.le_refl _)  h) (fun r0 μ10 hq => ?_)
    obtain ⟨rfl, h⟩ := hq
    refine x_st [] rfl ?_
    refine x_iload_n C rfl 1 rfl dX12_says_74 ?_
    exact x_iret C hr dX12_says_75 ⟨_, rfl, h⟩
  · have h := h.2 c8
    refine x_aload_n C rfl 0 rfl dX12_says_20 ?_
    refine x_iload_n C rfl 3 rfl dX12_says_21 ?_
    refine x_callV (dC := G12_pairsOf_dep) (as := [.int x.2.2.1]) (st := []) C rfl (Nat.le_trans (Nat.le_of_ble_eq_true rfl) hd) (Nat.le_of_ble_eq_true rfl) ob358.1 ob358.2 (Nat.le_of_ble_eq_true rfl) rfl ts_10_5 tw_7_211 tw_7_209 tc_7_212 tw_1_13 hyX12 hnX12_pairsOf rfl (Nat.le_of_ble_eq_true rfl) dX12_says_22 (G12_pairsOf_met C.2.2.2.2.2.2.2.1 (Nat.le_refl _)  h) (fun r0 μ11 hq => ?_)
    obtain ⟨rfl, h⟩ := hq
    refine x_st [] rfl ?_
    refine x_aload_n C rfl 0 rfl dX12_says_25 ?_
    refine x_getI C (j := 42) ob358.1 ob358.2 (Nat.le_of_ble_eq_true rfl) (Nat.le_of_ble_eq_true rfl) (Or.inl rfl) tw_9_8 dX12_says_26 ?_
    refine x_aload_n C rfl 0 rfl dX12_says_29 ?_
    refine x_getI C (j := 43) ob358.1 ob358.2 (Nat.le_of_ble_eq_true rfl) (Nat.le_of_ble_eq_true rfl) (Or.inl rfl) tw_9_9 dX12_says_30 ?_
    refine x_isub C dX12_says_33 ?_
    refine x_topi (fun y12 e_y12 => ?_)
    have h := h y12 e_y12
    refine x_istore C [(4, .int y12), (0, .ref 358), (1, .int x.1), (2, .int x.2.1), (3, .int x.2.2.1)] (Nat.le_of_ble_eq_true rfl) rfl dX12_says_34 ?_
    refine x_iload_n C rfl 4 rfl dX12_says_36 ?_
    refine x_if_eq (tgt := 52) C dX12_says_37 (by decide) (fun c13 => ?_) (fun c13 => ?_)
    · have h := h.1 c13
      refine x_sub [(0, .ref 358), (3, .int x.2.2.1), (4, .int y12)] [1, 4, 0] rfl ?_
      exact G12_says_J52_ok C hd hr hK15 h
    · have h := h.2 c13
      refine x_iload C 0 rfl dX12_says_40 ?_
      refine x_mabs C rfl (Nat.le_trans (Nat.le_of_ble_eq_true rfl) hd) tw_7_229 tw_4_189 tw_1_20 (Nat.le_of_ble_eq_true rfl) dX12_says_42 ?_
      refine x_iload_n C rfl 3 rfl dX12_says_45 ?_
      refine x_mabs C rfl (Nat.le_trans (Nat.le_of_ble_eq_true rfl) hd) tw_7_229 tw_4_189 tw_1_20 (Nat.le_of_ble_eq_true rfl) dX12_says_46 ?_
      refine x_icmp_le (tgt := 57) C dX12_says_49 (by decide) (fun c14 => ?_) (fun c14 => ?_)
      · have h := h.1 c14
        refine x_iinc (v := (x.2.2.1 + 1)) C [(3, .int (x.2.2.1 + 1)), (4, .int y12), (0, .ref 358), (1, .int x.1), (2, .int x.2.1)] 4 rfl (congrArg (fun z => x.2.2.1 + z) (by decide : Int32.ofInt (1) = 1)) (Nat.le_of_ble_eq_true rfl) rfl dX12_says_57 ?_
        refine x_goto (tgt := 15) C dX12_says_60 (by decide) ?_
        refine x_sub [(0, .ref 358), (1, .int x.1), (2, .int x.2.1), (3, .int (x.2.2.1 + 1))] [2, 3, 4, 0] rfl ?_
        exact hK15 _ _ _ _ h
      · have h := h.2 c14
        refine x_sub [(0, .ref 358), (3, .int x.2.2.1), (4, .int y12)] [1, 4, 0] rfl ?_
        exact G12_says_J52_ok C hd hr hK15 h
theorem G12_says_L15_ok {p : Program} {e : Env} {s : State} {m : MethodId} {args : Array Value} {below : List Frame} {meth : Method} {c : Code} {l : Launch} {φ : Nat → Nat} {tc : Nat → ClassId} {D : va_G} {s0 : State} {dR : Nat} (C : CX p s m args meth c φ tc D s0 cX12_says RX12 5) (hd : G12_says_dep ≤ dR) (hr : meth.sig.returnType = (some .int))   {Q : Int32 → MM → Prop}  {x : Int32 × Int32 × Int32 × MM}    (h : Lp (G12_says_L15  Q) x) : WX p l e (rmX dR) s m args below meth c φ tc D 5 (MQ below (QX φ tc D (QI Q)) args s 0 0 (AX φ)) 15 [(0, .ref 358), (1, .int x.1), (2, .int x.2.1), (3, .int x.2.2.1)] [] x.2.2.2 := by
  obtain ⟨n, h⟩ := h
  induction n generalizing x with
  | zero => exact h.elim
  | succ n ih => exact G12_says_L15_b C hd hr   (fun z1 z2 z3 zμ hz => by have q := ih hz; exact q) h
set_option maxHeartbeats 4000000 in
set_option maxRecDepth 100000 in
theorem G12_says_met {l : Launch} {φ : Nat → Nat} {tc : Nat → ClassId} {D : va_G} {s0 : State} (hG : GX φ tc D s0) {dR : Nat} (hd : G12_says_dep ≤ dR)  {μ : MM} {Q : Int32 → MM → Prop}  (h : G12_says  μ Q) : MX l φ tc D s0 dR yX12_says cX12_says 5 (some .int) [.ref 358] μ (QI Q) := by
  refine MX.of (own := RX12) hG plX12 rfl (Nat.le_of_ble_eq_true rfl) (fun p e s m args below meth c C hr => ?_)
  refine x_sub [(0, .ref 358)] [0] rfl ?_
  unfold G12_says at h
  refine x_aload_n C rfl 0 rfl dX12_says_0 ?_
  refine x_iconst (v := 0) C (by decide) dX12_says_1 ?_
  refine x_putI C (j := 0) ob358.1 ob358.2 (Nat.le_of_ble_eq_true rfl) (Nat.le_of_ble_eq_true rfl) (Or.inl rfl) rfl rfl rfl tw_8_206 dX12_says_2 ?_
  refine x_mu (fun μ6 e_μ6 => ?_)
  have h := h μ6 e_μ6
  refine x_aload_n C rfl 0 rfl dX12_says_5 ?_
  refine x_callV (dC := G12_countsNames_dep) (as := []) (st := []) C rfl (Nat.le_trans (Nat.le_of_ble_eq_true rfl) hd) (Nat.le_of_ble_eq_true rfl) ob358.1 ob358.2 (Nat.le_of_ble_eq_true rfl) rfl ts_10_4 tw_7_195 tw_7_193 tc_7_196 tw_1_13 hyX12 hnX12_countsNames rfl (Nat.le_of_ble_eq_true rfl) dX12_says_6 (G12_countsNames_met C.2.2.2.2.2.2.2.1 (Nat.le_refl _)  h) (fun r0 μ7 hq => ?_)
  obtain ⟨rfl, h⟩ := hq
  refine x_st [] rfl ?_
  refine x_iconst (v := 0) C (by decide) dX12_says_9 ?_
  refine x_istore_n C [(1, .int 0), (0, .ref 358)] rfl (Nat.le_of_ble_eq_true rfl) rfl dX12_says_10 ?_
  refine x_iconst (v := 0) C (by decide) dX12_says_11 ?_
  refine x_istore_n C [(2, .int 0), (1, .int 0), (0, .ref 358)] rfl (Nat.le_of_ble_eq_true rfl) rfl dX12_says_12 ?_
  refine x_iconst (v := 0) C (by decide) dX12_says_13 ?_
  refine x_istore_n C [(3, .int 0), (2, .int 0), (1, .int 0), (0, .ref 358)] rfl (Nat.le_of_ble_eq_true rfl) rfl dX12_says_14 ?_
  refine x_sub [(0, .ref 358), (1, .int 0), (2, .int 0), (3, .int 0)] [3, 2, 1, 0] rfl ?_
  exact G12_says_L15_ok C hd hr  h
set_option maxHeartbeats 4000000 in
set_option maxRecDepth 100000 in
theorem G12_child_J182_ok {p : Program} {e : Env} {s : State} {m : MethodId} {args : Array Value} {below : List Frame} {meth : Method} {c : Code} {l : Launch} {φ : Nat → Nat} {tc : Nat → ClassId} {D : va_G} {s0 : State} {dR : Nat} (C : CX p s m args meth c φ tc D s0 cX12_child RX12 8) (hd : G12_child_dep ≤ dR) (hr : meth.sig.returnType = (some .int))  {p1 : Int32} {p2 : Int32} {p3 : Int32} {p5 : Int32} {p6 : Int32} {q0 : Int32} {q1 : Int32} {Q : Int32 → MM → Prop} {K33 : Int32 × Int32 × Int32 × Int32 × MM → Prop} {K45 : Int32 × Int32 × Int32 × Int32 × MM → Prop} {μ : MM}   (hK33 : ∀ (z2 : Int32) (z3 : Int32) (z4 : Int32) (z5 : Int32) (zμ : MM), K33 (z2, z3, z4, z5, zμ) → WX p l e (rmX dR) s m args below meth c φ tc D 8 (MQ below (QX φ tc D (QI Q)) args s 0 0 (AX φ)) 33 [(0, .ref 358), (1, .int p1), (2, .int z2), (3, .int z3), (4, .int z4), (5, .int z5)] [] zμ) (hK45 : ∀ (z2 : Int32) (z3 : Int32) (z4 : Int32) (z6 : Int32) (zμ : MM), K45 (z2, z3, z4, z6, zμ) → WX p l e (rmX dR) s m args below meth c φ tc D 8 (MQ below (QX φ tc D (QI Q)) args s 0 0 (AX φ)) 45 [(0, .ref 358), (1, .int p1), (2, .int z2), (3, .int z3), (4, .int z4), (5, .int p5), (6, .int z6)] [] zμ) (h : G12_child_J182 p1 p2 p3 p5 p6 q0 q1 μ K33 K45 Q) : WX p l e (rmX dR) s m args below meth c φ tc D 8 (MQ below (QX φ tc D (QI Q)) args s 0 0 (AX φ)) 182 [(0, .ref 358), (1, .int p1), (2, .int p2), (3, .int p3), (5, .int p5), (6, .int p6)] [.int q0, .int q1] μ := by
  unfold G12_child_J182 at h
  refine x_callS (dC := G12_flag_dep) (as := [.int q0]) (st := [.int q1]) C rfl (Nat.le_trans (Nat.le_of_ble_eq_true rfl) hd) (Nat.le_of_ble_eq_true rfl) tw_6_212 tw_6_211 tc_6_213 tw_1_13 hyX12 hnX12_flag rfl (Nat.le_of_ble_eq_true rfl) dX12_child_182 (G12_flag_met C.2.2.2.2.2.2.2.1 (Nat.le_refl _)  h) (fun r0 μ51 hq => ?_)
  obtain ⟨r52, rfl, h⟩ := hq
  refine x_st [.int r52, .int q1] rfl ?_
  refine x_iadd C dX12_child_185 ?_
  refine x_topi (fun y53 e_y53 => ?_)
  have h := h y53 e_y53
  refine x_istore C [(4, .int y53), (0, .ref 358), (1, .int p1), (2, .int p2), (3, .int p3), (5, .int p5), (6, .int p6)] (Nat.le_of_ble_eq_true rfl) rfl dX12_child_186 ?_
  refine x_iinc (v := (p6 + 1)) C [(6, .int (p6 + 1)), (4, .int y53), (0, .ref 358), (1, .int p1), (2, .int p2), (3, .int p3), (5, .int p5)] 6 rfl (congrArg (fun z => p6 + z) (by decide : Int32.ofInt (1) = 1)) (Nat.le_of_ble_eq_true rfl) rfl dX12_child_188 ?_
  refine x_goto (tgt := 45) C dX12_child_191 (by decide) ?_
  refine x_sub [(0, .ref 358), (1, .int p1), (2, .int p2), (3, .int p3), (4, .int y53), (5, .int p5), (6, .int (p6 + 1))] [2, 3, 4, 5, 1, 6, 0] rfl ?_
  exact hK45 _ _ _ _ _ h
set_option maxHeartbeats 4000000 in
set_option maxRecDepth 100000 in
theorem G12_child_J159_ok {p : Program} {e : Env} {s : State} {m : MethodId} {args : Array Value} {below : List Frame} {meth : Method} {c : Code} {l : Launch} {φ : Nat → Nat} {tc : Nat → ClassId} {D : va_G} {s0 : State} {dR : Nat} (C : CX p s m args meth c φ tc D s0 cX12_child RX12 8) (hd : G12_child_dep ≤ dR) (hr : meth.sig.returnType = (some .int))  {p1 : Int32} {p2 : Int32} {p4 : Int32} {p5 : Int32} {p6 : Int32} {q0 : Int32} {q1 : Int32} {Q : Int32 → MM → Prop} {K33 : Int32 × Int32 × Int32 × Int32 × MM → Prop} {K45 : Int32 × Int32 × Int32 × Int32 × MM → Prop} {μ : MM}   (hK33 : ∀ (z2 : Int32) (z3 : Int32) (z4 : Int32) (z5 : Int32) (zμ : MM), K33 (z2, z3, z4, z5, zμ) → WX p l e (rmX dR) s m args below meth c φ tc D 8 (MQ below (QX φ tc D (QI Q)) args s 0 0 (AX φ)) 33 [(0, .ref 358), (1, .int p1), (2, .int z2), (3, .int z3), (4, .int z4), (5, .int z5)] [] zμ) (hK45 : ∀ (z2 : Int32) (z3 : Int32) (z4 : Int32) (z6 : Int32) (zμ : MM), K45 (z2, z3, z4, z6, zμ) → WX p l e (rmX dR) s m args below meth c φ tc D 8 (MQ below (QX φ tc D (QI Q)) args s 0 0 (AX φ)) 45 [(0, .ref 358), (1, .int p1), (2, .int z2), (3, .int z3), (4, .int z4), (5, .int p5), (6, .int z6)] [] zμ) (h : G12_child_J159 p1 p2 p4 p5 p6 q0 q1 μ K33 K45 Q) : WX p l e (rmX dR) s m args below meth c φ tc D 8 (MQ below (QX φ tc D (QI Q)) args s 0 0 (AX φ)) 159 [(0, .ref 358), (1, .int p1), (2, .int p2), (4, .int p4), (5, .int p5), (6, .int p6)] [.int q0, .int q1] μ := by
  unfold G12_child_J159 at h
  refine x_callS (dC := G12_flag_dep) (as := [.int q0]) (st := [.int q1]) C rfl (Nat.le_trans (Nat.le_of_ble_eq_true rfl) hd) (Nat.le_of_ble_eq_true rfl) tw_6_212 tw_6_211 tc_6_213 tw_1_13 hyX12 hnX12_flag rfl (Nat.le_of_ble_eq_true rfl) dX12_child_159 (G12_flag_met C.2.2.2.2.2.2.2.1 (Nat.le_refl _)  h) (fun r0 μ45 hq => ?_)
  obtain ⟨r46, rfl, h⟩ := hq
  refine x_st [.int r46, .int q1] rfl ?_
  refine x_iadd C dX12_child_162 ?_
  refine x_topi (fun y47 e_y47 => ?_)
  have h := h y47 e_y47
  refine x_istore_n C [(3, .int y47), (0, .ref 358), (1, .int p1), (2, .int p2), (4, .int p4), (5, .int p5), (6, .int p6)] rfl (Nat.le_of_ble_eq_true rfl) rfl dX12_child_163 ?_
  refine x_iload C 4 rfl dX12_child_164 ?_
  refine x_aload_n C rfl 1 rfl dX12_child_166 ?_
  refine x_iload C 5 rfl dX12_child_167 ?_
  refine x_iload C 6 rfl dX12_child_169 ?_
  refine x_callV (dC := G12_compares_dep) (as := [.int p5, .int p6]) (st := [.int p4]) C rfl (Nat.le_trans (Nat.le_of_ble_eq_true rfl) hd) (Nat.le_of_ble_eq_true rfl) ob358.1 ob358.2 (Nat.le_of_ble_eq_true rfl) rfl ts_10_7 tw_7_222 tw_7_220 tc_7_223 tw_1_13 hyX12 hnX12_compares rfl (Nat.le_of_ble_eq_true rfl) dX12_child_171 (G12_compares_met C.2.2.2.2.2.2.2.1 (Nat.le_refl _)  h) (fun r0 μ48 hq => ?_)
  obtain ⟨r49, rfl, h⟩ := hq
  refine x_st [.int r49, .int p4] rfl ?_
  refine x_if_ge (tgt := 181) C dX12_child_174 (by decide) (fun c50 => ?_) (fun c50 => ?_)
  · have h := h.1 c50
    refine x_iconst (v := 0) C (by decide) dX12_child_181 ?_
    refine x_sub [(0, .ref 358), (1, .int p1), (2, .int p2), (3, .int y47), (5, .int p5), (6, .int p6)] [1, 2, 3, 0, 5, 6] rfl ?_
    exact G12_child_J182_ok C hd hr hK33 hK45 h
  · have h := h.2 c50
    refine x_iconst (v := 1) C (by decide) dX12_child_177 ?_
    refine x_goto (tgt := 182) C dX12_child_178 (by decide) ?_
    refine x_sub [(0, .ref 358), (1, .int p1), (2, .int p2), (3, .int y47), (5, .int p5), (6, .int p6)] [1, 2, 3, 0, 5, 6] rfl ?_
    exact G12_child_J182_ok C hd hr hK33 hK45 h
set_option maxHeartbeats 4000000 in
set_option maxRecDepth 100000 in
theorem G12_child_J112_ok {p : Program} {e : Env} {s : State} {m : MethodId} {args : Array Value} {below : List Frame} {meth : Method} {c : Code} {l : Launch} {φ : Nat → Nat} {tc : Nat → ClassId} {D : va_G} {s0 : State} {dR : Nat} (C : CX p s m args meth c φ tc D s0 cX12_child RX12 8) (hd : G12_child_dep ≤ dR) (hr : meth.sig.returnType = (some .int))  {p1 : Int32} {p2 : Int32} {p3 : Int32} {p4 : Int32} {p5 : Int32} {p6 : Int32} {q0 : Int32} {Q : Int32 → MM → Prop} {K33 : Int32 × Int32 × Int32 × Int32 × MM → Prop} {K45 : Int32 × Int32 × Int32 × Int32 × MM → Prop} {μ : MM}   (hK33 : ∀ (z2 : Int32) (z3 : Int32) (z4 : Int32) (z5 : Int32) (zμ : MM), K33 (z2, z3, z4, z5, zμ) → WX p l e (rmX dR) s m args below meth c φ tc D 8 (MQ below (QX φ tc D (QI Q)) args s 0 0 (AX φ)) 33 [(0, .ref 358), (1, .int p1), (2, .int z2), (3, .int z3), (4, .int z4), (5, .int z5)] [] zμ) (hK45 : ∀ (z2 : Int32) (z3 : Int32) (z4 : Int32) (z6 : Int32) (zμ : MM), K45 (z2, z3, z4, z6, zμ) → WX p l e (rmX dR) s m args below meth c φ tc D 8 (MQ below (QX φ tc D (QI Q)) args s 0 0 (AX φ)) 45 [(0, .ref 358), (1, .int p1), (2, .int z2), (3, .int z3), (4, .int z4), (5, .int p5), (6, .int z6)] [] zμ) (h : G12_child_J112 p1 p2 p3 p4 p5 p6 q0 μ K33 K45 Q) : WX p l e (rmX dR) s m args below meth c φ tc D 8 (MQ below (QX φ tc D (QI Q)) args s 0 0 (AX φ)) 112 [(0, .ref 358), (1, .int p1), (2, .int p2), (3, .int p3), (4, .int p4), (5, .int p5), (6, .int p6)] [.int q0] μ := by
  unfold G12_child_J112 at h
  refine x_istore C [(7, .int q0), (0, .ref 358), (1, .int p1), (2, .int p2), (3, .int p3), (4, .int p4), (5, .int p5), (6, .int p6)] (Nat.le_of_ble_eq_true rfl) rfl dX12_child_112 ?_
  refine x_iload C 0 rfl dX12_child_114 ?_
  refine x_if_eq (tgt := 188) C dX12_child_116 (by decide) (fun c37 => ?_) (fun c37 => ?_)
  · have h := h.1 c37
    refine x_iinc (v := (p6 + 1)) C [(6, .int (p6 + 1)), (7, .int q0), (0, .ref 358), (1, .int p1), (2, .int p2), (3, .int p3), (4, .int p4), (5, .int p5)] 7 rfl (congrArg (fun z => p6 + z) (by decide : Int32.ofInt (1) = 1)) (Nat.le_of_ble_eq_true rfl) rfl dX12_child_188 ?_
    refine x_goto (tgt := 45) C dX12_child_191 (by decide) ?_
    refine x_sub [(0, .ref 358), (1, .int p1), (2, .int p2), (3, .int p3), (4, .int p4), (5, .int p5), (6, .int (p6 + 1))] [2, 3, 4, 5, 6, 7, 0] rfl ?_
    exact hK45 _ _ _ _ _ h
  · have h := h.2 c37
    refine x_aload_n C rfl 1 rfl dX12_child_119 ?_
    refine x_getR (r := 385) C (j := 40) ob358.1 ob358.2 (Nat.le_of_ble_eq_true rfl) (Nat.le_of_ble_eq_true rfl) (fun _ _ _ => rfl) r_358_40 tw_9_6 dX12_child_120 ?_
    refine x_iload C 6 rfl dX12_child_123 ?_
    obtain ⟨c38, h⟩ := h
    refine x_iald C ob385.1 ob385.2 c38 rfl dX12_child_125 ?_
    refine x_if_le (tgt := 188) C dX12_child_126 (by decide) (fun c39 => ?_) (fun c39 => ?_)
    · have h := h.1 c39
      refine x_iinc (v := (p6 + 1)) C [(6, .int (p6 + 1)), (7, .int q0), (0, .ref 358), (1, .int p1), (2, .int p2), (3, .int p3), (4, .int p4), (5, .int p5)] 7 rfl (congrArg (fun z => p6 + z) (by decide : Int32.ofInt (1) = 1)) (Nat.le_of_ble_eq_true rfl) rfl dX12_child_188 ?_
      refine x_goto (tgt := 45) C dX12_child_191 (by decide) ?_
      refine x_sub [(0, .ref 358), (1, .int p1), (2, .int p2), (3, .int p3), (4, .int p4), (5, .int p5), (6, .int (p6 + 1))] [2, 3, 4, 5, 6, 7, 0] rfl ?_
      exact hK45 _ _ _ _ _ h
    · have h := h.2 c39
      refine x_aload_n C rfl 1 rfl dX12_child_129 ?_
      refine x_getR (r := 385) C (j := 40) ob358.1 ob358.2 (Nat.le_of_ble_eq_true rfl) (Nat.le_of_ble_eq_true rfl) (fun _ _ _ => rfl) r_358_40 tw_9_6 dX12_child_130 ?_
      refine x_iload C 7 rfl dX12_child_133 ?_
      obtain ⟨c40, h⟩ := h
      refine x_iald C ob385.1 ob385.2 c40 rfl dX12_child_135 ?_
      refine x_if_le (tgt := 188) C dX12_child_136 (by decide) (fun c41 => ?_) (fun c41 => ?_)
      · have h := h.1 c41
        refine x_iinc (v := (p6 + 1)) C [(6, .int (p6 + 1)), (7, .int q0), (0, .ref 358), (1, .int p1), (2, .int p2), (3, .int p3), (4, .int p4), (5, .int p5)] 7 rfl (congrArg (fun z => p6 + z) (by decide : Int32.ofInt (1) = 1)) (Nat.le_of_ble_eq_true rfl) rfl dX12_child_188 ?_
        refine x_goto (tgt := 45) C dX12_child_191 (by decide) ?_
        refine x_sub [(0, .ref 358), (1, .int p1), (2, .int p2), (3, .int p3), (4, .int p4), (5, .int p5), (6, .int (p6 + 1))] [2, 3, 4, 5, 6, 7, 0] rfl ?_
        exact hK45 _ _ _ _ _ h
      · have h := h.2 c41
        refine x_iinc (v := (p2 + 1)) C [(2, .int (p2 + 1)), (7, .int q0), (0, .ref 358), (1, .int p1), (3, .int p3), (4, .int p4), (5, .int p5), (6, .int p6)] 3 rfl (congrArg (fun z => p2 + z) (by decide : Int32.ofInt (1) = 1)) (Nat.le_of_ble_eq_true rfl) rfl dX12_child_139 ?_
        refine x_iload_n C rfl 4 rfl dX12_child_142 ?_
        refine x_aload_n C rfl 2 rfl dX12_child_143 ?_
        refine x_iload C 6 rfl dX12_child_144 ?_
        refine x_iload C 7 rfl dX12_child_146 ?_
        refine x_callV (dC := G12_compares_dep) (as := [.int p5, .int p6]) (st := [.int p3]) C rfl (Nat.le_trans (Nat.le_of_ble_eq_true rfl) hd) (Nat.le_of_ble_eq_true rfl) ob358.1 ob358.2 (Nat.le_of_ble_eq_true rfl) rfl ts_10_7 tw_7_222 tw_7_220 tc_7_223 tw_1_13 hyX12 hnX12_compares rfl (Nat.le_of_ble_eq_true rfl) dX12_child_148 (G12_compares_met C.2.2.2.2.2.2.2.1 (Nat.le_refl _)  h) (fun r0 μ42 hq => ?_)
        obtain ⟨r43, rfl, h⟩ := hq
        refine x_st [.int r43, .int p3] rfl ?_
        refine x_if_le (tgt := 158) C dX12_child_151 (by decide) (fun c44 => ?_) (fun c44 => ?_)
        · have h := h.1 c44
          refine x_iconst (v := 0) C (by decide) dX12_child_158 ?_
          refine x_sub [(0, .ref 358), (1, .int p1), (2, .int (p2 + 1)), (4, .int p4), (5, .int p5), (6, .int p6)] [2, 3, 0, 5, 6, 7] rfl ?_
          exact G12_child_J159_ok C hd hr hK33 hK45 h
        · have h := h.2 c44
          refine x_iconst (v := 1) C (by decide) dX12_child_154 ?_
          refine x_goto (tgt := 159) C dX12_child_155 (by decide) ?_
          refine x_sub [(0, .ref 358), (1, .int p1), (2, .int (p2 + 1)), (4, .int p4), (5, .int p5), (6, .int p6)] [2, 3, 0, 5, 6, 7] rfl ?_
          exact G12_child_J159_ok C hd hr hK33 hK45 h
set_option maxHeartbeats 4000000 in
set_option maxRecDepth 100000 in
theorem G12_child_J111_ok {p : Program} {e : Env} {s : State} {m : MethodId} {args : Array Value} {below : List Frame} {meth : Method} {c : Code} {l : Launch} {φ : Nat → Nat} {tc : Nat → ClassId} {D : va_G} {s0 : State} {dR : Nat} (C : CX p s m args meth c φ tc D s0 cX12_child RX12 8) (hd : G12_child_dep ≤ dR) (hr : meth.sig.returnType = (some .int))  {p1 : Int32} {p2 : Int32} {p3 : Int32} {p4 : Int32} {p5 : Int32} {p6 : Int32} {Q : Int32 → MM → Prop} {K33 : Int32 × Int32 × Int32 × Int32 × MM → Prop} {K45 : Int32 × Int32 × Int32 × Int32 × MM → Prop} {μ : MM}   (hK33 : ∀ (z2 : Int32) (z3 : Int32) (z4 : Int32) (z5 : Int32) (zμ : MM), K33 (z2, z3, z4, z5, zμ) → WX p l e (rmX dR) s m args below meth c φ tc D 8 (MQ below (QX φ tc D (QI Q)) args s 0 0 (AX φ)) 33 [(0, .ref 358), (1, .int p1), (2, .int z2), (3, .int z3), (4, .int z4), (5, .int z5)] [] zμ) (hK45 : ∀ (z2 : Int32) (z3 : Int32) (z4 : Int32) (z6 : Int32) (zμ : MM), K45 (z2, z3, z4, z6, zμ) → WX p l e (rmX dR) s m args below meth c φ tc D 8 (MQ below (QX φ tc D (QI Q)) args s 0 0 (AX φ)) 45 [(0, .ref 358), (1, .int p1), (2, .int z2), (3, .int z3), (4, .int z4), (5, .int p5), (6, .int z6)] [] zμ) (h : G12_child_J111 p1 p2 p3 p4 p5 p6 μ K33 K45 Q) : WX p l e (rmX dR) s m args below meth c φ tc D 8 (MQ below (QX φ tc D (QI Q)) args s 0 0 (AX φ)) 111 [(0, .ref 358), (1, .int p1), (2, .int p2), (3, .int p3), (4, .int p4), (5, .int p5), (6, .int p6)] [] μ := by
  unfold G12_child_J111 at h
  refine x_iconst (v := 0) C (by decide) dX12_child_111 ?_
  exact G12_child_J112_ok C hd hr hK33 hK45 h
set_option maxHeartbeats 4000000 in
set_option maxRecDepth 100000 in
theorem G12_child_L45_b {p : Program} {e : Env} {s : State} {m : MethodId} {args : Array Value} {below : List Frame} {meth : Method} {c : Code} {l : Launch} {φ : Nat → Nat} {tc : Nat → ClassId} {D : va_G} {s0 : State} {dR : Nat} (C : CX p s m args meth c φ tc D s0 cX12_child RX12 8) (hd : G12_child_dep ≤ dR) (hr : meth.sig.returnType = (some .int))  {p1 : Int32} {p5 : Int32} {Q : Int32 → MM → Prop} {K33 : Int32 × Int32 × Int32 × Int32 × MM → Prop} {K45 : Int32 × Int32 × Int32 × Int32 × MM → Prop} {x : Int32 × Int32 × Int32 × Int32 × MM}   (hK33 : ∀ (z2 : Int32) (z3 : Int32) (z4 : Int32) (z5 : Int32) (zμ : MM), K33 (z2, z3, z4, z5, zμ) → WX p l e (rmX dR) s m args below meth c φ tc D 8 (MQ below (QX φ tc D (QI Q)) args s 0 0 (AX φ)) 33 [(0, .ref 358), (1, .int p1), (2, .int z2), (3, .int z3), (4, .int z4), (5, .int z5)] [] zμ) (hK45 : ∀ (z2 : Int32) (z3 : Int32) (z4 : Int32) (z6 : Int32) (zμ : MM), K45 (z2, z3, z4, z6, zμ) → WX p l e (rmX dR) s m args below meth c φ tc D 8 (MQ below (QX φ tc D (QI Q)) args s 0 0 (AX φ)) 45 [(0, .ref 358), (1, .int p1), (2, .int z2), (3, .int z3), (4, .int z4), (5, .int p5), (6, .int z6)] [] zμ) (h : G12_child_L45 p1 p5 K33 Q K45 x) : WX p l e (rmX dR) s m args below meth c φ tc D 8 (MQ below (QX φ tc D (QI Q)) args s 0 0 (AX φ)) 45 [(0, .ref 358), (1, .int p1), (2, .int x.1), (3, .int x.2.1), (4, .int x.2.2.1), (5, .int p5), (6, .int x.2.2.2.1)] [] x.2.2.2.2 := by
  unfold G12_child_L45 at h
  refine x_iload C 6 rfl dX12_child_45 ?_
  refine x_aload_n C rfl 0 rfl dX12_child_47 ?_
  refine x_getI C (j := 3) ob358.1 ob358.2 (Nat.le_of_ble_eq_true rfl) (Nat.le_of_ble_eq_true rfl) (Or.inl rfl) tw_8_209 dX12_child_48 ?_
  refine x_icmp_ge (tgt := 194) C dX12_child_51 (by decide) (fun c33 => ?_) (fun c33 => ?_)
  · have h := h.1 c33
    refine x_iinc (v := (p5 + 1)) C [(5, .int (p5 + 1)), (0, .ref 358), (1, .int p1), (2, .int x.1), (3, .int x.2.1), (4, .int x.2.2.1), (6, .int x.2.2.2.1)] 5 rfl (congrArg (fun z => p5 + z) (by decide : Int32.ofInt (1) = 1)) (Nat.le_of_ble_eq_true rfl) rfl dX12_child_194 ?_
    refine x_goto (tgt := 33) C dX12_child_197 (by decide) ?_
    refine x_sub [(0, .ref 358), (1, .int p1), (2, .int x.1), (3, .int x.2.1), (4, .int x.2.2.1), (5, .int (p5 + 1))] [1, 2, 3, 4, 5, 0] rfl ?_
    exact hK33 _ _ _ _ _ h
  · have h := h.2 c33
    refine x_aload_n C rfl 0 rfl dX12_child_54 ?_
    refine x_getR (r := 360) C (j := 4) ob358.1 ob358.2 (Nat.le_of_ble_eq_true rfl) (Nat.le_of_ble_eq_true rfl) (fun _ _ _ => rfl) r_358_4 tw_8_210 dX12_child_55 ?_
    refine x_iload C 5 rfl dX12_child_58 ?_
    obtain ⟨c34, h⟩ := h
    refine x_iald C ob360.1 ob360.2 c34 rfl dX12_child_60 ?_
    refine x_aload_n C rfl 0 rfl dX12_child_61 ?_
    refine x_getR (r := 360) C (j := 4) ob358.1 ob358.2 (Nat.le_of_ble_eq_true rfl) (Nat.le_of_ble_eq_true rfl) (fun _ _ _ => rfl) r_358_4 tw_8_210 dX12_child_62 ?_
    refine x_iload C 6 rfl dX12_child_65 ?_
    obtain ⟨c35, h⟩ := h
    refine x_iald C ob360.1 ob360.2 c35 rfl dX12_child_67 ?_
    refine x_icmp_ne (tgt := 111) C dX12_child_68 (by decide) (fun c36 => ?_) (fun c36 => ?_)
    · have h := h.1 c36
      exact G12_child_J111_ok C hd hr hK33 hK45 h
    · have h := h.2 c36
      refine x_aload_n C rfl 0 rfl dX12_child_71 ?_
      refine x_getR (r := 361) C (j := 5) ob358.1 ob358.2 (Nat.le_of_ble_eq_true rfl) (Nat.le_of_ble_eq_true rfl) (fun _ _ _ => rfl) r_358_5 tw_8_211 dX12_child_72 ?_
      refine x_iload C 5 rfl dX12_child_75 ?_
      obtain ⟨c54, h⟩ := h
      refine x_iald C ob361.1 ob361.2 c54 rfl dX12_child_77 ?_
      refine x_aload_n C rfl 0 rfl dX12_child_78 ?_
      refine x_getR (r := 361) C (j := 5) ob358.1 ob358.2 (Nat.le_of_ble_eq_true rfl) (Nat.le_of_ble_eq_true rfl) (fun _ _ _ => rfl) r_358_5 tw_8_211 dX12_child_79 ?_
      refine x_iload C 6 rfl dX12_child_82 ?_
      obtain ⟨c55, h⟩ := h
      refine x_iald C ob361.1 ob361.2 c55 rfl dX12_child_84 ?_
      refine x_icmp_ne (tgt := 111) C dX12_child_85 (by decide) (fun c56 => ?_) (fun c56 => ?_)
      · have h := h.1 c56
        exact G12_child_J111_ok C hd hr hK33 hK45 h
      · have h := h.2 c56
        refine x_aload_n C rfl 0 rfl dX12_child_88 ?_
        refine x_getR (r := 362) C (j := 6) ob358.1 ob358.2 (Nat.le_of_ble_eq_true rfl) (Nat.le_of_ble_eq_true rfl) (fun _ _ _ => rfl) r_358_6 tw_8_212 dX12_child_89 ?_
        refine x_iload C 5 rfl dX12_child_92 ?_
        obtain ⟨c57, h⟩ := h
        refine x_iald C ob362.1 ob362.2 c57 rfl dX12_child_94 ?_
        refine x_aload_n C rfl 0 rfl dX12_child_95 ?_
        refine x_getR (r := 362) C (j := 6) ob358.1 ob358.2 (Nat.le_of_ble_eq_true rfl) (Nat.le_of_ble_eq_true rfl) (fun _ _ _ => rfl) r_358_6 tw_8_212 dX12_child_96 ?_
        refine x_iload C 6 rfl dX12_child_99 ?_
        obtain ⟨c58, h⟩ := h
        refine x_iald C ob362.1 ob362.2 c58 rfl dX12_child_101 ?_
        refine x_isub C dX12_child_102 ?_
        refine x_iload_n C rfl 1 rfl dX12_child_103 ?_
        refine x_icmp_lt (tgt := 111) C dX12_child_104 (by decide) (fun c59 => ?_) (fun c59 => ?_)
        · have h := h.1 c59
          exact G12_child_J111_ok C hd hr hK33 hK45 h
        · have h := h.2 c59
          refine x_iconst (v := 1) C (by decide) dX12_child_107 ?_
          refine x_goto (tgt := 112) C dX12_child_108 (by decide) ?_
          exact G12_child_J112_ok C hd hr hK33 hK45 h
theorem G12_child_L45_ok {p : Program} {e : Env} {s : State} {m : MethodId} {args : Array Value} {below : List Frame} {meth : Method} {c : Code} {l : Launch} {φ : Nat → Nat} {tc : Nat → ClassId} {D : va_G} {s0 : State} {dR : Nat} (C : CX p s m args meth c φ tc D s0 cX12_child RX12 8) (hd : G12_child_dep ≤ dR) (hr : meth.sig.returnType = (some .int))  {p1 : Int32} {p5 : Int32} {Q : Int32 → MM → Prop} {K33 : Int32 × Int32 × Int32 × Int32 × MM → Prop} {x : Int32 × Int32 × Int32 × Int32 × MM}   (hK33 : ∀ (z2 : Int32) (z3 : Int32) (z4 : Int32) (z5 : Int32) (zμ : MM), K33 (z2, z3, z4, z5, zμ) → WX p l e (rmX dR) s m args below meth c φ tc D 8 (MQ below (QX φ tc D (QI Q)) args s 0 0 (AX φ)) 33 [(0, .ref 358), (1, .int p1), (2, .int z2), (3, .int z3), (4, .int z4), (5, .int z5)] [] zμ) (h : Lp (G12_child_L45 p1 p5 K33 Q) x) : WX p l e (rmX dR) s m args below meth c φ tc D 8 (MQ below (QX φ tc D (QI Q)) args s 0 0 (AX φ)) 45 [(0, .ref 358), (1, .int p1), (2, .int x.1), (3, .int x.2.1), (4, .int x.2.2.1), (5, .int p5), (6, .int x.2.2.2.1)] [] x.2.2.2.2 := by
  obtain ⟨n, h⟩ := h
  induction n generalizing x with
  | zero => exact h.elim
  | succ n ih => exact G12_child_L45_b C hd hr  hK33 (fun z2 z3 z4 z6 zμ hz => by have q := ih hz; exact q) h
set_option maxHeartbeats 4000000 in
set_option maxRecDepth 100000 in
theorem G12_child_L33_b {p : Program} {e : Env} {s : State} {m : MethodId} {args : Array Value} {below : List Frame} {meth : Method} {c : Code} {l : Launch} {φ : Nat → Nat} {tc : Nat → ClassId} {D : va_G} {s0 : State} {dR : Nat} (C : CX p s m args meth c φ tc D s0 cX12_child RX12 8) (hd : G12_child_dep ≤ dR) (hr : meth.sig.returnType = (some .int))  {p1 : Int32} {Q : Int32 → MM → Prop} {K33 : Int32 × Int32 × Int32 × Int32 × MM → Prop} {x : Int32 × Int32 × Int32 × Int32 × MM}   (hK33 : ∀ (z2 : Int32) (z3 : Int32) (z4 : Int32) (z5 : Int32) (zμ : MM), K33 (z2, z3, z4, z5, zμ) → WX p l e (rmX dR) s m args below meth c φ tc D 8 (MQ below (QX φ tc D (QI Q)) args s 0 0 (AX φ)) 33 [(0, .ref 358), (1, .int p1), (2, .int z2), (3, .int z3), (4, .int z4), (5, .int z5)] [] zμ) (h : G12_child_L33 p1 Q K33 x) : WX p l e (rmX dR) s m args below meth c φ tc D 8 (MQ below (QX φ tc D (QI Q)) args s 0 0 (AX φ)) 33 [(0, .ref 358), (1, .int p1), (2, .int x.1), (3, .int x.2.1), (4, .int x.2.2.1), (5, .int x.2.2.2.1)] [] x.2.2.2.2 := by
  unfold G12_child_L33 at h
  refine x_iload C 5 rfl dX12_child_33 ?_
  refine x_aload_n C rfl 0 rfl dX12_child_35 ?_
  refine x_getI C (j := 3) ob358.1 ob358.2 (Nat.le_of_ble_eq_true rfl) (Nat.le_of_ble_eq_true rfl) (Or.inl rfl) tw_8_209 dX12_child_36 ?_
  refine x_icmp_ge (tgt := 200) C dX12_child_39 (by decide) (fun c29 => ?_) (fun c29 => ?_)
  · have h := h.1 c29
    refine x_aload_n C rfl 0 rfl dX12_child_200 ?_
    refine x_iconst (v := 0) C (by decide) dX12_child_201 ?_
    refine x_putI C (j := 1) ob358.1 ob358.2 (Nat.le_of_ble_eq_true rfl) (Nat.le_of_ble_eq_true rfl) (Or.inl rfl) rfl rfl rfl tw_8_207 dX12_child_202 ?_
    refine x_mu (fun μ30 e_μ30 => ?_)
    have h := h μ30 e_μ30
    refine x_aload_n C rfl 0 rfl dX12_child_205 ?_
    refine x_iload_n C rfl 2 rfl dX12_child_206 ?_
    refine x_i2l C dX12_child_207 ?_
    refine x_callV (dC := G12_enters_dep) (as := [.long (x.1.toInt64)]) (st := []) C rfl (Nat.le_trans (Nat.le_of_ble_eq_true rfl) hd) (Nat.le_of_ble_eq_true rfl) ob358.1 ob358.2 (Nat.le_of_ble_eq_true rfl) rfl ts_10_1 tw_7_161 tw_7_159 tc_7_162 tw_1_13 hyX12 hnX12_enters rfl (Nat.le_of_ble_eq_true rfl) dX12_child_208 (G12_enters_met C.2.2.2.2.2.2.2.1 (Nat.le_refl _)  h) (fun r0 μ31 hq => ?_)
    obtain ⟨rfl, h⟩ := hq
    refine x_st [] rfl ?_
    refine x_aload_n C rfl 0 rfl dX12_child_211 ?_
    refine x_iload C 4 rfl dX12_child_212 ?_
    refine x_i2l C dX12_child_214 ?_
    refine x_callV (dC := G12_enters_dep) (as := [.long (x.2.2.1.toInt64)]) (st := []) C rfl (Nat.le_trans (Nat.le_of_ble_eq_true rfl) hd) (Nat.le_of_ble_eq_true rfl) ob358.1 ob358.2 (Nat.le_of_ble_eq_true rfl) rfl ts_10_1 tw_7_161 tw_7_159 tc_7_162 tw_1_13 hyX12 hnX12_enters rfl (Nat.le_of_ble_eq_true rfl) dX12_child_215 (G12_enters_met C.2.2.2.2.2.2.2.1 (Nat.le_refl _)  h) (fun r0 μ32 hq => ?_)
    obtain ⟨rfl, h⟩ := hq
    refine x_st [] rfl ?_
    refine x_iload_n C rfl 3 rfl dX12_child_218 ?_
    exact x_iret C hr dX12_child_219 ⟨_, rfl, h⟩
  · have h := h.2 c29
    refine x_iconst (v := 0) C (by decide) dX12_child_42 ?_
    refine x_istore C [(6, .int 0), (0, .ref 358), (1, .int p1), (2, .int x.1), (3, .int x.2.1), (4, .int x.2.2.1), (5, .int x.2.2.2.1)] (Nat.le_of_ble_eq_true rfl) rfl dX12_child_43 ?_
    refine x_sub [(0, .ref 358), (1, .int p1), (2, .int x.1), (3, .int x.2.1), (4, .int x.2.2.1), (5, .int x.2.2.2.1), (6, .int 0)] [1, 2, 3, 4, 5, 6, 0] rfl ?_
    exact G12_child_L45_ok C hd hr hK33 h
theorem G12_child_L33_ok {p : Program} {e : Env} {s : State} {m : MethodId} {args : Array Value} {below : List Frame} {meth : Method} {c : Code} {l : Launch} {φ : Nat → Nat} {tc : Nat → ClassId} {D : va_G} {s0 : State} {dR : Nat} (C : CX p s m args meth c φ tc D s0 cX12_child RX12 8) (hd : G12_child_dep ≤ dR) (hr : meth.sig.returnType = (some .int))  {p1 : Int32} {Q : Int32 → MM → Prop}  {x : Int32 × Int32 × Int32 × Int32 × MM}    (h : Lp (G12_child_L33 p1 Q) x) : WX p l e (rmX dR) s m args below meth c φ tc D 8 (MQ below (QX φ tc D (QI Q)) args s 0 0 (AX φ)) 33 [(0, .ref 358), (1, .int p1), (2, .int x.1), (3, .int x.2.1), (4, .int x.2.2.1), (5, .int x.2.2.2.1)] [] x.2.2.2.2 := by
  obtain ⟨n, h⟩ := h
  induction n generalizing x with
  | zero => exact h.elim
  | succ n ih => exact G12_child_L33_b C hd hr   (fun z2 z3 z4 z5 zμ hz => by have q := ih hz; exact q) h
set_option maxHeartbeats 4000000 in
set_option maxRecDepth 100000 in
theorem G12_child_met {l : Launch} {φ : Nat → Nat} {tc : Nat → ClassId} {D : va_G} {s0 : State} (hG : GX φ tc D s0) {dR : Nat} (hd : G12_child_dep ≤ dR) {v1 : Int32} {μ : MM} {Q : Int32 → MM → Prop}  (h : G12_child v1 μ Q) : MX l φ tc D s0 dR yX12_child cX12_child 8 (some .int) [.ref 358, .int v1] μ (QI Q) := by
  refine MX.of (own := RX12) hG plX12 rfl (Nat.le_of_ble_eq_true rfl) (fun p e s m args below meth c C hr => ?_)
  refine x_sub [(0, .ref 358), (1, .int v1)] [0, 1] rfl ?_
  unfold G12_child at h
  refine x_aload_n C rfl 0 rfl dX12_child_0 ?_
  refine x_iconst (v := 0) C (by decide) dX12_child_1 ?_
  refine x_putI C (j := 0) ob358.1 ob358.2 (Nat.le_of_ble_eq_true rfl) (Nat.le_of_ble_eq_true rfl) (Or.inl rfl) rfl rfl rfl tw_8_206 dX12_child_2 ?_
  refine x_mu (fun μ24 e_μ24 => ?_)
  have h := h μ24 e_μ24
  refine x_iload_n C rfl 1 rfl dX12_child_5 ?_
  refine x_i2l C dX12_child_6 ?_
  refine x_lconst (v := 1) C (by decide) dX12_child_7 ?_
  refine x_ldc2 (v := 9) C tw_6_185 dX12_child_8 ?_
  refine x_callS (dC := G12_in_dep) (as := [.long (v1.toInt64), .long 1, .long 9]) (st := []) C rfl (Nat.le_trans (Nat.le_of_ble_eq_true rfl) hd) (Nat.le_of_ble_eq_true rfl) tw_6_183 tw_6_182 tc_6_184 tw_1_13 hyX12 hnX12_in rfl (Nat.le_of_ble_eq_true rfl) dX12_child_11 (G12_in_met C.2.2.2.2.2.2.2.1 (Nat.le_refl _)  h) (fun r0 μ25 hq => ?_)
  obtain ⟨r26, rfl, h⟩ := hq
  refine x_st [.int r26] rfl ?_
  refine x_if_ne (tgt := 19) C dX12_child_14 (by decide) (fun c27 => ?_) (fun c27 => ?_)
  · have h := h.1 c27
    refine x_aload_n C rfl 0 rfl dX12_child_19 ?_
    refine x_callV (dC := G12_countsNames_dep) (as := []) (st := []) C rfl (Nat.le_trans (Nat.le_of_ble_eq_true rfl) hd) (Nat.le_of_ble_eq_true rfl) ob358.1 ob358.2 (Nat.le_of_ble_eq_true rfl) rfl ts_10_4 tw_7_195 tw_7_193 tc_7_196 tw_1_13 hyX12 hnX12_countsNames rfl (Nat.le_of_ble_eq_true rfl) dX12_child_20 (G12_countsNames_met C.2.2.2.2.2.2.2.1 (Nat.le_refl _)  h) (fun r0 μ28 hq => ?_)
    obtain ⟨rfl, h⟩ := hq
    refine x_st [] rfl ?_
    refine x_iconst (v := 0) C (by decide) dX12_child_23 ?_
    refine x_istore_n C [(2, .int 0), (0, .ref 358), (1, .int v1)] rfl (Nat.le_of_ble_eq_true rfl) rfl dX12_child_24 ?_
    refine x_iconst (v := 0) C (by decide) dX12_child_25 ?_
    refine x_istore_n C [(3, .int 0), (2, .int 0), (0, .ref 358), (1, .int v1)] rfl (Nat.le_of_ble_eq_true rfl) rfl dX12_child_26 ?_
    refine x_iconst (v := 0) C (by decide) dX12_child_27 ?_
    refine x_istore C [(4, .int 0), (3, .int 0), (2, .int 0), (0, .ref 358), (1, .int v1)] (Nat.le_of_ble_eq_true rfl) rfl dX12_child_28 ?_
    refine x_iconst (v := 0) C (by decide) dX12_child_30 ?_
    refine x_istore C [(5, .int 0), (4, .int 0), (3, .int 0), (2, .int 0), (0, .ref 358), (1, .int v1)] (Nat.le_of_ble_eq_true rfl) rfl dX12_child_31 ?_
    refine x_sub [(0, .ref 358), (1, .int v1), (2, .int 0), (3, .int 0), (4, .int 0), (5, .int 0)] [4, 5, 3, 2, 1, 0] rfl ?_
    exact G12_child_L33_ok C hd hr  h
  · have h := h.2 c27
    refine x_iconst (v := (-1)) C (by decide) dX12_child_17 ?_
    exact x_iret C hr dX12_child_18 ⟨_, rfl, h⟩
set_option maxHeartbeats 4000000 in
set_option maxRecDepth 100000 in
theorem G12_countsHouse_L29_b {p : Program} {e : Env} {s : State} {m : MethodId} {args : Array Value} {below : List Frame} {meth : Method} {c : Code} {l : Launch} {φ : Nat → Nat} {tc : Nat → ClassId} {D : va_G} {s0 : State} {dR : Nat} (C : CX p s m args meth c φ tc D s0 cX12_countsHouse RX12 3) (hd : G12_countsHouse_dep ≤ dR) (hr : meth.sig.returnType = (some .int))  {p1 : Int32} {Q : Int32 → MM → Prop} {K29 : Int32 × MM → Prop} {x : Int32 × MM}   (hK29 : ∀ (z2 : Int32) (zμ : MM), K29 (z2, zμ) → WX p l e (rmX dR) s m args below meth c φ tc D 3 (MQ below (QX φ tc D (QI Q)) args s 0 0 (AX φ)) 29 [(0, .ref 358), (1, .int p1), (2, .int z2)] [] zμ) (h : G12_countsHouse_L29 p1 Q K29 x) : WX p l e (rmX dR) s m args below meth c φ tc D 3 (MQ below (QX φ tc D (QI Q)) args s 0 0 (AX φ)) 29 [(0, .ref 358), (1, .int p1), (2, .int x.1)] [] x.2 := by
  unfold G12_countsHouse_L29 at h
  refine x_iload_n C rfl 2 rfl dX12_countsHouse_29 ?_
  refine x_aload_n C rfl 0 rfl dX12_countsHouse_30 ?_
  refine x_getI C (j := 12) ob358.1 ob358.2 (Nat.le_of_ble_eq_true rfl) (Nat.le_of_ble_eq_true rfl) (Or.inl rfl) tw_8_218 dX12_countsHouse_31 ?_
  refine x_icmp_ge (tgt := 98) C dX12_countsHouse_34 (by decide) (fun c23 => ?_) (fun c23 => ?_)
  · have h := h.1 c23
    refine x_aload_n C rfl 0 rfl dX12_countsHouse_98 ?_
    refine x_getR (r := 390) C (j := 48) ob358.1 ob358.2 (Nat.le_of_ble_eq_true rfl) (Nat.le_of_ble_eq_true rfl) (fun _ _ _ => rfl) r_358_48 tw_9_14 dX12_countsHouse_99 ?_
    refine x_iconst (v := 0) C (by decide) dX12_countsHouse_102 ?_
    refine x_iald C ob390.1 ob390.2 (by unfold vp_in; decide) (j := 0) (by decide) dX12_countsHouse_103 ?_
    refine x_aload_n C rfl 0 rfl dX12_countsHouse_104 ?_
    refine x_getR (r := 390) C (j := 48) ob358.1 ob358.2 (Nat.le_of_ble_eq_true rfl) (Nat.le_of_ble_eq_true rfl) (fun _ _ _ => rfl) r_358_48 tw_9_14 dX12_countsHouse_105 ?_
    refine x_iconst (v := 1) C (by decide) dX12_countsHouse_108 ?_
    refine x_iald C ob390.1 ob390.2 (by unfold vp_in; decide) (j := 1) (by decide) dX12_countsHouse_109 ?_
    refine x_iadd C dX12_countsHouse_110 ?_
    exact x_iret C hr dX12_countsHouse_111 ⟨_, rfl, h⟩
  · have h := h.2 c23
    refine x_aload_n C rfl 0 rfl dX12_countsHouse_37 ?_
    refine x_getR (r := 367) C (j := 13) ob358.1 ob358.2 (Nat.le_of_ble_eq_true rfl) (Nat.le_of_ble_eq_true rfl) (fun _ _ _ => rfl) r_358_13 tw_8_219 dX12_countsHouse_38 ?_
    refine x_iload_n C rfl 2 rfl dX12_countsHouse_41 ?_
    obtain ⟨c24, h⟩ := h
    refine x_iald C ob367.1 ob367.2 c24 rfl dX12_countsHouse_42 ?_
    refine x_iload_n C rfl 1 rfl dX12_countsHouse_43 ?_
    refine x_icmp_ne (tgt := 92) C dX12_countsHouse_44 (by decide) (fun c25 => ?_) (fun c25 => ?_)
    · have h := h.1 c25
      refine x_iinc (v := (x.1 + 1)) C [(2, .int (x.1 + 1)), (0, .ref 358), (1, .int p1)] 2 rfl (congrArg (fun z => x.1 + z) (by decide : Int32.ofInt (1) = 1)) (Nat.le_of_ble_eq_true rfl) rfl dX12_countsHouse_92 ?_
      refine x_goto (tgt := 29) C dX12_countsHouse_95 (by decide) ?_
      refine x_sub [(0, .ref 358), (1, .int p1), (2, .int (x.1 + 1))] [1, 2, 0] rfl ?_
      exact hK29 _ _ h
    · have h := h.2 c25
      refine x_aload_n C rfl 0 rfl dX12_countsHouse_47 ?_
      refine x_getR (r := 373) C (j := 19) ob358.1 ob358.2 (Nat.le_of_ble_eq_true rfl) (Nat.le_of_ble_eq_true rfl) (fun _ _ _ => rfl) r_358_19 tw_8_225 dX12_countsHouse_48 ?_
      refine x_iload_n C rfl 2 rfl dX12_countsHouse_51 ?_
      obtain ⟨c26, h⟩ := h
      refine x_zald C ob373.1 ob373.2 c26 rfl dX12_countsHouse_52 ?_
      refine x_if_eq (tgt := 92) C dX12_countsHouse_53 (by decide) (fun c27 => ?_) (fun c27 => ?_)
      · have h := h.1 c27
        refine x_iinc (v := (x.1 + 1)) C [(2, .int (x.1 + 1)), (0, .ref 358), (1, .int p1)] 2 rfl (congrArg (fun z => x.1 + z) (by decide : Int32.ofInt (1) = 1)) (Nat.le_of_ble_eq_true rfl) rfl dX12_countsHouse_92 ?_
        refine x_goto (tgt := 29) C dX12_countsHouse_95 (by decide) ?_
        refine x_sub [(0, .ref 358), (1, .int p1), (2, .int (x.1 + 1))] [1, 2, 0] rfl ?_
        exact hK29 _ _ h
      · have h := h.2 c27
        refine x_aload_n C rfl 0 rfl dX12_countsHouse_56 ?_
        refine x_getR (r := 390) C (j := 48) ob358.1 ob358.2 (Nat.le_of_ble_eq_true rfl) (Nat.le_of_ble_eq_true rfl) (fun _ _ _ => rfl) r_358_48 tw_9_14 dX12_countsHouse_57 ?_
        refine x_aload_n C rfl 0 rfl dX12_countsHouse_60 ?_
        refine x_iload_n C rfl 2 rfl dX12_countsHouse_61 ?_
        refine x_callV (dC := G12_peopleOf_dep) (as := [.int x.1]) (st := [.ref 390]) C rfl (Nat.le_trans (Nat.le_of_ble_eq_true rfl) hd) (Nat.le_of_ble_eq_true rfl) ob358.1 ob358.2 (Nat.le_of_ble_eq_true rfl) rfl ts_9_15 tw_7_150 tw_7_148 tc_7_151 tw_1_13 hyX12 hnX12_peopleOf rfl (Nat.le_of_ble_eq_true rfl) dX12_countsHouse_62 (G12_peopleOf_met C.2.2.2.2.2.2.2.1 (Nat.le_refl _)  h) (fun r0 μ28 hq => ?_)
        obtain ⟨r29, rfl, h⟩ := hq
        refine x_st [.int r29, .ref 390] rfl ?_
        refine x_dup2_11 C rfl rfl dX12_countsHouse_65 ?_
        obtain ⟨c30, h⟩ := h
        refine x_iald C ob390.1 ob390.2 c30 rfl dX12_countsHouse_66 ?_
        refine x_iconst (v := 1) C (by decide) dX12_countsHouse_67 ?_
        refine x_iadd C dX12_countsHouse_68 ?_
        obtain ⟨c31, h⟩ := h
        refine x_iast C ob390.1 ob390.2 c31 rfl dX12_countsHouse_69 ?_
        refine x_mu (fun μ32 e_μ32 => ?_)
        have h := h μ32 e_μ32
        refine x_aload_n C rfl 0 rfl dX12_countsHouse_70 ?_
        refine x_getR (r := 391) C (j := 49) ob358.1 ob358.2 (Nat.le_of_ble_eq_true rfl) (Nat.le_of_ble_eq_true rfl) (fun _ _ _ => rfl) r_358_49 tw_9_15 dX12_countsHouse_71 ?_
        refine x_aload_n C rfl 0 rfl dX12_countsHouse_74 ?_
        refine x_iload_n C rfl 2 rfl dX12_countsHouse_75 ?_
        refine x_callV (dC := G12_peopleOf_dep) (as := [.int x.1]) (st := [.ref 391]) C rfl (Nat.le_trans (Nat.le_of_ble_eq_true rfl) hd) (Nat.le_of_ble_eq_true rfl) ob358.1 ob358.2 (Nat.le_of_ble_eq_true rfl) rfl ts_9_15 tw_7_150 tw_7_148 tc_7_151 tw_1_13 hyX12 hnX12_peopleOf rfl (Nat.le_of_ble_eq_true rfl) dX12_countsHouse_76 (G12_peopleOf_met C.2.2.2.2.2.2.2.1 (Nat.le_refl _)  h) (fun r0 μ33 hq => ?_)
        obtain ⟨r34, rfl, h⟩ := hq
        refine x_st [.int r34, .ref 391] rfl ?_
        refine x_dup2_11 C rfl rfl dX12_countsHouse_79 ?_
        obtain ⟨c35, h⟩ := h
        refine x_iald C ob391.1 ob391.2 c35 rfl dX12_countsHouse_80 ?_
        refine x_aload_n C rfl 0 rfl dX12_countsHouse_81 ?_
        refine x_getR (r := 374) C (j := 20) ob358.1 ob358.2 (Nat.le_of_ble_eq_true rfl) (Nat.le_of_ble_eq_true rfl) (fun _ _ _ => rfl) r_358_20 tw_8_226 dX12_countsHouse_82 ?_
        refine x_iload_n C rfl 2 rfl dX12_countsHouse_85 ?_
        obtain ⟨c36, h⟩ := h
        refine x_zald C ob374.1 ob374.2 c36 rfl dX12_countsHouse_86 ?_
        refine x_callS (dC := G12_flag_dep) (as := [.int (gI μ33 374 x.1.toNatClampNeg)]) (st := [.int (gI μ33 391 r34.toNatClampNeg), .int r34, .ref 391]) C rfl (Nat.le_trans (Nat.le_of_ble_eq_true rfl) hd) (Nat.le_of_ble_eq_true rfl) tw_6_212 tw_6_211 tc_6_213 tw_1_13 hyX12 hnX12_flag rfl (Nat.le_of_ble_eq_true rfl) dX12_countsHouse_87 (G12_flag_met C.2.2.2.2.2.2.2.1 (Nat.le_refl _)  h) (fun r0 μ37 hq => ?_)
        obtain ⟨r38, rfl, h⟩ := hq
        refine x_st [.int r38, .int (gI μ33 391 r34.toNatClampNeg), .int r34, .ref 391] rfl ?_
        refine x_iadd C dX12_countsHouse_90 ?_
        obtain ⟨c39, h⟩ := h
        refine x_iast C ob391.1 ob391.2 c39 rfl dX12_countsHouse_91 ?_
        refine x_mu (fun μ40 e_μ40 => ?_)
        have h := h μ40 e_μ40
        refine x_iinc (v := (x.1 + 1)) C [(2, .int (x.1 + 1)), (0, .ref 358), (1, .int p1)] 2 rfl (congrArg (fun z => x.1 + z) (by decide : Int32.ofInt (1) = 1)) (Nat.le_of_ble_eq_true rfl) rfl dX12_countsHouse_92 ?_
        refine x_goto (tgt := 29) C dX12_countsHouse_95 (by decide) ?_
        refine x_sub [(0, .ref 358), (1, .int p1), (2, .int (x.1 + 1))] [1, 2, 0] rfl ?_
        exact hK29 _ _ h
theorem G12_countsHouse_L29_ok {p : Program} {e : Env} {s : State} {m : MethodId} {args : Array Value} {below : List Frame} {meth : Method} {c : Code} {l : Launch} {φ : Nat → Nat} {tc : Nat → ClassId} {D : va_G} {s0 : State} {dR : Nat} (C : CX p s m args meth c φ tc D s0 cX12_countsHouse RX12 3) (hd : G12_countsHouse_dep ≤ dR) (hr : meth.sig.returnType = (some .int))  {p1 : Int32} {Q : Int32 → MM → Prop}  {x : Int32 × MM}    (h : Lp (G12_countsHouse_L29 p1 Q) x) : WX p l e (rmX dR) s m args below meth c φ tc D 3 (MQ below (QX φ tc D (QI Q)) args s 0 0 (AX φ)) 29 [(0, .ref 358), (1, .int p1), (2, .int x.1)] [] x.2 := by
  obtain ⟨n, h⟩ := h
  induction n generalizing x with
  | zero => exact h.elim
  | succ n ih => exact G12_countsHouse_L29_b C hd hr   (fun z2 zμ hz => by have q := ih hz; exact q) h
set_option maxHeartbeats 4000000 in
set_option maxRecDepth 100000 in
theorem G12_countsHouse_L2_b {p : Program} {e : Env} {s : State} {m : MethodId} {args : Array Value} {below : List Frame} {meth : Method} {c : Code} {l : Launch} {φ : Nat → Nat} {tc : Nat → ClassId} {D : va_G} {s0 : State} {dR : Nat} (C : CX p s m args meth c φ tc D s0 cX12_countsHouse RX12 3) (hd : G12_countsHouse_dep ≤ dR) (hr : meth.sig.returnType = (some .int))  {p1 : Int32} {Q : Int32 → MM → Prop} {K2 : Int32 × MM → Prop} {x : Int32 × MM}   (hK2 : ∀ (z2 : Int32) (zμ : MM), K2 (z2, zμ) → WX p l e (rmX dR) s m args below meth c φ tc D 3 (MQ below (QX φ tc D (QI Q)) args s 0 0 (AX φ)) 2 [(0, .ref 358), (1, .int p1), (2, .int z2)] [] zμ) (h : G12_countsHouse_L2 p1 Q K2 x) : WX p l e (rmX dR) s m args below meth c φ tc D 3 (MQ below (QX φ tc D (QI Q)) args s 0 0 (AX φ)) 2 [(0, .ref 358), (1, .int p1), (2, .int x.1)] [] x.2 := by
  unfold G12_countsHouse_L2 at h
  refine x_iload_n C rfl 2 rfl dX12_countsHouse_2 ?_
  refine x_iconst (v := 2) C (by decide) dX12_countsHouse_3 ?_
  refine x_icmp_ge (tgt := 27) C dX12_countsHouse_4 (by decide) (fun c22 => ?_) (fun c22 => ?_)
  · have h := h.1 c22
    refine x_iconst (v := 0) C (by decide) dX12_countsHouse_27 ?_
    refine x_istore_n C [(2, .int 0), (0, .ref 358), (1, .int p1)] rfl (Nat.le_of_ble_eq_true rfl) rfl dX12_countsHouse_28 ?_
    refine x_sub [(0, .ref 358), (1, .int p1), (2, .int 0)] [1, 2, 0] rfl ?_
    exact G12_countsHouse_L29_ok C hd hr  h
  · have h := h.2 c22
    refine x_aload_n C rfl 0 rfl dX12_countsHouse_7 ?_
    refine x_getR (r := 390) C (j := 48) ob358.1 ob358.2 (Nat.le_of_ble_eq_true rfl) (Nat.le_of_ble_eq_true rfl) (fun _ _ _ => rfl) r_358_48 tw_9_14 dX12_countsHouse_8 ?_
    refine x_iload_n C rfl 2 rfl dX12_countsHouse_11 ?_
    refine x_iconst (v := 0) C (by decide) dX12_countsHouse_12 ?_
    obtain ⟨c41, h⟩ := h
    refine x_iast C ob390.1 ob390.2 c41 rfl dX12_countsHouse_13 ?_
    refine x_mu (fun μ42 e_μ42 => ?_)
    have h := h μ42 e_μ42
    refine x_aload_n C rfl 0 rfl dX12_countsHouse_14 ?_
    refine x_getR (r := 391) C (j := 49) ob358.1 ob358.2 (Nat.le_of_ble_eq_true rfl) (Nat.le_of_ble_eq_true rfl) (fun _ _ _ => rfl) r_358_49 tw_9_15 dX12_countsHouse_15 ?_
    refine x_iload_n C rfl 2 rfl dX12_countsHouse_18 ?_
    refine x_iconst (v := 0) C (by decide) dX12_countsHouse_19 ?_
    obtain ⟨c43, h⟩ := h
    refine x_iast C ob391.1 ob391.2 c43 rfl dX12_countsHouse_20 ?_
    refine x_mu (fun μ44 e_μ44 => ?_)
    have h := h μ44 e_μ44
    refine x_iinc (v := (x.1 + 1)) C [(2, .int (x.1 + 1)), (0, .ref 358), (1, .int p1)] 2 rfl (congrArg (fun z => x.1 + z) (by decide : Int32.ofInt (1) = 1)) (Nat.le_of_ble_eq_true rfl) rfl dX12_countsHouse_21 ?_
    refine x_goto (tgt := 2) C dX12_countsHouse_24 (by decide) ?_
    refine x_sub [(0, .ref 358), (1, .int p1), (2, .int (x.1 + 1))] [1, 2, 0] rfl ?_
    exact hK2 _ _ h
theorem G12_countsHouse_L2_ok {p : Program} {e : Env} {s : State} {m : MethodId} {args : Array Value} {below : List Frame} {meth : Method} {c : Code} {l : Launch} {φ : Nat → Nat} {tc : Nat → ClassId} {D : va_G} {s0 : State} {dR : Nat} (C : CX p s m args meth c φ tc D s0 cX12_countsHouse RX12 3) (hd : G12_countsHouse_dep ≤ dR) (hr : meth.sig.returnType = (some .int))  {p1 : Int32} {Q : Int32 → MM → Prop}  {x : Int32 × MM}    (h : Lp (G12_countsHouse_L2 p1 Q) x) : WX p l e (rmX dR) s m args below meth c φ tc D 3 (MQ below (QX φ tc D (QI Q)) args s 0 0 (AX φ)) 2 [(0, .ref 358), (1, .int p1), (2, .int x.1)] [] x.2 := by
  obtain ⟨n, h⟩ := h
  induction n generalizing x with
  | zero => exact h.elim
  | succ n ih => exact G12_countsHouse_L2_b C hd hr   (fun z2 zμ hz => by have q := ih hz; exact q) h
set_option maxHeartbeats 4000000 in
set_option maxRecDepth 100000 in
theorem G12_countsHouse_met {l : Launch} {φ : Nat → Nat} {tc : Nat → ClassId} {D : va_G} {s0 : State} (hG : GX φ tc D s0) {dR : Nat} (hd : G12_countsHouse_dep ≤ dR) {v1 : Int32} {μ : MM} {Q : Int32 → MM → Prop}  (h : G12_countsHouse v1 μ Q) : MX l φ tc D s0 dR yX12_countsHouse cX12_countsHouse 3 (some .int) [.ref 358, .int v1] μ (QI Q) := by
  refine MX.of (own := RX12) hG plX12 rfl (Nat.le_of_ble_eq_true rfl) (fun p e s m args below meth c C hr => ?_)
  refine x_sub [(0, .ref 358), (1, .int v1)] [0, 1] rfl ?_
  unfold G12_countsHouse at h
  refine x_iconst (v := 0) C (by decide) dX12_countsHouse_0 ?_
  refine x_istore_n C [(2, .int 0), (0, .ref 358), (1, .int v1)] rfl (Nat.le_of_ble_eq_true rfl) rfl dX12_countsHouse_1 ?_
  refine x_sub [(0, .ref 358), (1, .int v1), (2, .int 0)] [1, 2, 0] rfl ?_
  exact G12_countsHouse_L2_ok C hd hr  h
set_option maxHeartbeats 4000000 in
set_option maxRecDepth 100000 in
theorem G12_table_J80_ok {p : Program} {e : Env} {s : State} {m : MethodId} {args : Array Value} {below : List Frame} {meth : Method} {c : Code} {l : Launch} {φ : Nat → Nat} {tc : Nat → ClassId} {D : va_G} {s0 : State} {dR : Nat} (C : CX p s m args meth c φ tc D s0 cX12_table RX12 5) (hd : G12_table_dep ≤ dR) (hr : meth.sig.returnType = (some .int))  {p1 : Int32} {p2 : Int32} {p4 : Int32} {q0 : Int32} {q1 : Int32} {Q : Int32 → MM → Prop} {K36 : Int32 × Int32 × MM → Prop} {μ : MM}   (hK36 : ∀ (z3 : Int32) (z4 : Int32) (zμ : MM), K36 (z3, z4, zμ) → WX p l e (rmX dR) s m args below meth c φ tc D 5 (MQ below (QX φ tc D (QI Q)) args s 0 0 (AX φ)) 36 [(0, .ref 358), (1, .int p1), (2, .int p2), (3, .int z3), (4, .int z4)] [] zμ) (h : G12_table_J80 p1 p2 p4 q0 q1 μ K36 Q) : WX p l e (rmX dR) s m args below meth c φ tc D 5 (MQ below (QX φ tc D (QI Q)) args s 0 0 (AX φ)) 80 [(0, .ref 358), (1, .int p1), (2, .int p2), (4, .int p4)] [.int q0, .int q1] μ := by
  unfold G12_table_J80 at h
  refine x_callS (dC := G12_flag_dep) (as := [.int q0]) (st := [.int q1]) C rfl (Nat.le_trans (Nat.le_of_ble_eq_true rfl) hd) (Nat.le_of_ble_eq_true rfl) tw_6_212 tw_6_211 tc_6_213 tw_1_13 hyX12 hnX12_flag rfl (Nat.le_of_ble_eq_true rfl) dX12_table_80 (G12_flag_met C.2.2.2.2.2.2.2.1 (Nat.le_refl _)  h) (fun r0 μ23 hq => ?_)
  obtain ⟨r24, rfl, h⟩ := hq
  refine x_st [.int r24, .int q1] rfl ?_
  refine x_iadd C dX12_table_83 ?_
  refine x_topi (fun y25 e_y25 => ?_)
  have h := h y25 e_y25
  refine x_istore_n C [(3, .int y25), (0, .ref 358), (1, .int p1), (2, .int p2), (4, .int p4)] rfl (Nat.le_of_ble_eq_true rfl) rfl dX12_table_84 ?_
  refine x_iinc (v := (p4 + 1)) C [(4, .int (p4 + 1)), (3, .int y25), (0, .ref 358), (1, .int p1), (2, .int p2)] 4 rfl (congrArg (fun z => p4 + z) (by decide : Int32.ofInt (1) = 1)) (Nat.le_of_ble_eq_true rfl) rfl dX12_table_85 ?_
  refine x_goto (tgt := 36) C dX12_table_88 (by decide) ?_
  refine x_sub [(0, .ref 358), (1, .int p1), (2, .int p2), (3, .int y25), (4, .int (p4 + 1))] [2, 3, 4, 1, 0] rfl ?_
  exact hK36 _ _ _ h
set_option maxHeartbeats 4000000 in
set_option maxRecDepth 100000 in
theorem G12_table_J79_ok {p : Program} {e : Env} {s : State} {m : MethodId} {args : Array Value} {below : List Frame} {meth : Method} {c : Code} {l : Launch} {φ : Nat → Nat} {tc : Nat → ClassId} {D : va_G} {s0 : State} {dR : Nat} (C : CX p s m args meth c φ tc D s0 cX12_table RX12 5) (hd : G12_table_dep ≤ dR) (hr : meth.sig.returnType = (some .int))  {p1 : Int32} {p2 : Int32} {p4 : Int32} {q0 : Int32} {Q : Int32 → MM → Prop} {K36 : Int32 × Int32 × MM → Prop} {μ : MM}   (hK36 : ∀ (z3 : Int32) (z4 : Int32) (zμ : MM), K36 (z3, z4, zμ) → WX p l e (rmX dR) s m args below meth c φ tc D 5 (MQ below (QX φ tc D (QI Q)) args s 0 0 (AX φ)) 36 [(0, .ref 358), (1, .int p1), (2, .int p2), (3, .int z3), (4, .int z4)] [] zμ) (h : G12_table_J79 p1 p2 p4 q0 μ K36 Q) : WX p l e (rmX dR) s m args below meth c φ tc D 5 (MQ below (QX φ tc D (QI Q)) args s 0 0 (AX φ)) 79 [(0, .ref 358), (1, .int p1), (2, .int p2), (4, .int p4)] [.int q0] μ := by
  unfold G12_table_J79 at h
  refine x_iconst (v := 0) C (by decide) dX12_table_79 ?_
  exact G12_table_J80_ok C hd hr hK36 h
set_option maxHeartbeats 4000000 in
set_option maxRecDepth 100000 in
theorem G12_table_L36_b {p : Program} {e : Env} {s : State} {m : MethodId} {args : Array Value} {below : List Frame} {meth : Method} {c : Code} {l : Launch} {φ : Nat → Nat} {tc : Nat → ClassId} {D : va_G} {s0 : State} {dR : Nat} (C : CX p s m args meth c φ tc D s0 cX12_table RX12 5) (hd : G12_table_dep ≤ dR) (hr : meth.sig.returnType = (some .int))  {p1 : Int32} {p2 : Int32} {Q : Int32 → MM → Prop} {K36 : Int32 × Int32 × MM → Prop} {x : Int32 × Int32 × MM}   (hK36 : ∀ (z3 : Int32) (z4 : Int32) (zμ : MM), K36 (z3, z4, zμ) → WX p l e (rmX dR) s m args below meth c φ tc D 5 (MQ below (QX φ tc D (QI Q)) args s 0 0 (AX φ)) 36 [(0, .ref 358), (1, .int p1), (2, .int p2), (3, .int z3), (4, .int z4)] [] zμ) (h : G12_table_L36 p1 p2 Q K36 x) : WX p l e (rmX dR) s m args below meth c φ tc D 5 (MQ below (QX φ tc D (QI Q)) args s 0 0 (AX φ)) 36 [(0, .ref 358), (1, .int p1), (2, .int p2), (3, .int x.1), (4, .int x.2.1)] [] x.2.2 := by
  unfold G12_table_L36 at h
  refine x_iload C 4 rfl dX12_table_36 ?_
  refine x_aload_n C rfl 0 rfl dX12_table_38 ?_
  refine x_getI C (j := 8) ob358.1 ob358.2 (Nat.le_of_ble_eq_true rfl) (Nat.le_of_ble_eq_true rfl) (Or.inl rfl) tw_8_214 dX12_table_39 ?_
  refine x_icmp_ge (tgt := 91) C dX12_table_42 (by decide) (fun c19 => ?_) (fun c19 => ?_)
  · have h := h.1 c19
    refine x_iload_n C rfl 3 rfl dX12_table_91 ?_
    exact x_iret C hr dX12_table_92 ⟨_, rfl, h⟩
  · have h := h.2 c19
    refine x_iload_n C rfl 3 rfl dX12_table_45 ?_
    refine x_aload_n C rfl 0 rfl dX12_table_46 ?_
    refine x_iload C 4 rfl dX12_table_47 ?_
    refine x_callV (dC := G12_countsHouse_dep) (as := [.int x.2.1]) (st := [.int x.1]) C rfl (Nat.le_trans (Nat.le_of_ble_eq_true rfl) hd) (Nat.le_of_ble_eq_true rfl) ob358.1 ob358.2 (Nat.le_of_ble_eq_true rfl) rfl ts_10_8 tw_8_1 tw_7_239 tc_8_2 tw_1_13 hyX12 hnX12_countsHouse rfl (Nat.le_of_ble_eq_true rfl) dX12_table_49 (G12_countsHouse_met C.2.2.2.2.2.2.2.1 (Nat.le_refl _)  h) (fun r0 μ20 hq => ?_)
    obtain ⟨r21, rfl, h⟩ := hq
    refine x_st [.int r21, .int x.1] rfl ?_
    refine x_if_le (tgt := 79) C dX12_table_52 (by decide) (fun c22 => ?_) (fun c22 => ?_)
    · have h := h.1 c22
      refine x_sub [(0, .ref 358), (1, .int p1), (2, .int p2), (4, .int x.2.1)] [0, 1, 2, 4] rfl ?_
      exact G12_table_J79_ok C hd hr hK36 h
    · have h := h.2 c22
      refine x_aload_n C rfl 0 rfl dX12_table_55 ?_
      refine x_getR (r := 391) C (j := 49) ob358.1 ob358.2 (Nat.le_of_ble_eq_true rfl) (Nat.le_of_ble_eq_true rfl) (fun _ _ _ => rfl) r_358_49 tw_9_15 dX12_table_56 ?_
      refine x_iconst (v := 0) C (by decide) dX12_table_59 ?_
      refine x_iald C ob391.1 ob391.2 (by unfold vp_in; decide) (j := 0) (by decide) dX12_table_60 ?_
      refine x_iload_n C rfl 1 rfl dX12_table_61 ?_
      refine x_icmp_ne (tgt := 79) C dX12_table_62 (by decide) (fun c26 => ?_) (fun c26 => ?_)
      · have h := h.1 c26
        refine x_sub [(0, .ref 358), (1, .int p1), (2, .int p2), (4, .int x.2.1)] [0, 1, 2, 4] rfl ?_
        exact G12_table_J79_ok C hd hr hK36 h
      · have h := h.2 c26
        refine x_aload_n C rfl 0 rfl dX12_table_65 ?_
        refine x_getR (r := 391) C (j := 49) ob358.1 ob358.2 (Nat.le_of_ble_eq_true rfl) (Nat.le_of_ble_eq_true rfl) (fun _ _ _ => rfl) r_358_49 tw_9_15 dX12_table_66 ?_
        refine x_iconst (v := 1) C (by decide) dX12_table_69 ?_
        refine x_iald C ob391.1 ob391.2 (by unfold vp_in; decide) (j := 1) (by decide) dX12_table_70 ?_
        refine x_iload_n C rfl 2 rfl dX12_table_71 ?_
        refine x_icmp_ne (tgt := 79) C dX12_table_72 (by decide) (fun c27 => ?_) (fun c27 => ?_)
        · have h := h.1 c27
          refine x_sub [(0, .ref 358), (1, .int p1), (2, .int p2), (4, .int x.2.1)] [0, 1, 2, 4] rfl ?_
          exact G12_table_J79_ok C hd hr hK36 h
        · have h := h.2 c27
          refine x_iconst (v := 1) C (by decide) dX12_table_75 ?_
          refine x_goto (tgt := 80) C dX12_table_76 (by decide) ?_
          refine x_sub [(0, .ref 358), (1, .int p1), (2, .int p2), (4, .int x.2.1)] [0, 1, 2, 4] rfl ?_
          exact G12_table_J80_ok C hd hr hK36 h
theorem G12_table_L36_ok {p : Program} {e : Env} {s : State} {m : MethodId} {args : Array Value} {below : List Frame} {meth : Method} {c : Code} {l : Launch} {φ : Nat → Nat} {tc : Nat → ClassId} {D : va_G} {s0 : State} {dR : Nat} (C : CX p s m args meth c φ tc D s0 cX12_table RX12 5) (hd : G12_table_dep ≤ dR) (hr : meth.sig.returnType = (some .int))  {p1 : Int32} {p2 : Int32} {Q : Int32 → MM → Prop}  {x : Int32 × Int32 × MM}    (h : Lp (G12_table_L36 p1 p2 Q) x) : WX p l e (rmX dR) s m args below meth c φ tc D 5 (MQ below (QX φ tc D (QI Q)) args s 0 0 (AX φ)) 36 [(0, .ref 358), (1, .int p1), (2, .int p2), (3, .int x.1), (4, .int x.2.1)] [] x.2.2 := by
  obtain ⟨n, h⟩ := h
  induction n generalizing x with
  | zero => exact h.elim
  | succ n ih => exact G12_table_L36_b C hd hr   (fun z3 z4 zμ hz => by have q := ih hz; exact q) h
set_option maxHeartbeats 4000000 in
set_option maxRecDepth 100000 in
theorem G12_table_met {l : Launch} {φ : Nat → Nat} {tc : Nat → ClassId} {D : va_G} {s0 : State} (hG : GX φ tc D s0) {dR : Nat} (hd : G12_table_dep ≤ dR) {v1 : Int32} {v2 : Int32} {μ : MM} {Q : Int32 → MM → Prop}  (h : G12_table v1 v2 μ Q) : MX l φ tc D s0 dR yX12_table cX12_table 5 (some .int) [.ref 358, .int v1, .int v2] μ (QI Q) := by
  refine MX.of (own := RX12) hG plX12 rfl (Nat.le_of_ble_eq_true rfl) (fun p e s m args below meth c C hr => ?_)
  refine x_sub [(0, .ref 358), (1, .int v1), (2, .int v2)] [0, 1, 2] rfl ?_
  unfold G12_table at h
  refine x_aload_n C rfl 0 rfl dX12_table_0 ?_
  refine x_iconst (v := 0) C (by decide) dX12_table_1 ?_
  refine x_putI C (j := 0) ob358.1 ob358.2 (Nat.le_of_ble_eq_true rfl) (Nat.le_of_ble_eq_true rfl) (Or.inl rfl) rfl rfl rfl tw_8_206 dX12_table_2 ?_
  refine x_mu (fun μ12 e_μ12 => ?_)
  have h := h μ12 e_μ12
  refine x_iload_n C rfl 1 rfl dX12_table_5 ?_
  refine x_i2l C dX12_table_6 ?_
  refine x_lconst (v := 0) C (by decide) dX12_table_7 ?_
  refine x_ldc2 (v := 4) C tw_7_238 dX12_table_8 ?_
  refine x_callS (dC := G12_in_dep) (as := [.long (v1.toInt64), .long 0, .long 4]) (st := []) C rfl (Nat.le_trans (Nat.le_of_ble_eq_true rfl) hd) (Nat.le_of_ble_eq_true rfl) tw_6_183 tw_6_182 tc_6_184 tw_1_13 hyX12 hnX12_in rfl (Nat.le_of_ble_eq_true rfl) dX12_table_11 (G12_in_met C.2.2.2.2.2.2.2.1 (Nat.le_refl _)  h) (fun r0 μ13 hq => ?_)
  obtain ⟨r14, rfl, h⟩ := hq
  refine x_st [.int r14] rfl ?_
  refine x_if_eq (tgt := 29) C dX12_table_14 (by decide) (fun c15 => ?_) (fun c15 => ?_)
  · have h := h.1 c15
    refine x_iconst (v := (-1)) C (by decide) dX12_table_29 ?_
    exact x_iret C hr dX12_table_30 ⟨_, rfl, h⟩
  · have h := h.2 c15
    refine x_iload_n C rfl 2 rfl dX12_table_17 ?_
    refine x_i2l C dX12_table_18 ?_
    refine x_lconst (v := 0) C (by decide) dX12_table_19 ?_
    refine x_ldc2 (v := 4) C tw_7_238 dX12_table_20 ?_
    refine x_callS (dC := G12_in_dep) (as := [.long (v2.toInt64), .long 0, .long 4]) (st := []) C rfl (Nat.le_trans (Nat.le_of_ble_eq_true rfl) hd) (Nat.le_of_ble_eq_true rfl) tw_6_183 tw_6_182 tc_6_184 tw_1_13 hyX12 hnX12_in rfl (Nat.le_of_ble_eq_true rfl) dX12_table_23 (G12_in_met C.2.2.2.2.2.2.2.1 (Nat.le_refl _)  h) (fun r0 μ16 hq => ?_)
    obtain ⟨r17, rfl, h⟩ := hq
    refine x_st [.int r17] rfl ?_
    refine x_if_ne (tgt := 31) C dX12_table_26 (by decide) (fun c18 => ?_) (fun c18 => ?_)
    · have h := h.1 c18
      refine x_iconst (v := 0) C (by decide) dX12_table_31 ?_
      refine x_istore_n C [(3, .int 0), (0, .ref 358), (1, .int v1), (2, .int v2)] rfl (Nat.le_of_ble_eq_true rfl) rfl dX12_table_32 ?_
      refine x_iconst (v := 0) C (by decide) dX12_table_33 ?_
      refine x_istore C [(4, .int 0), (3, .int 0), (0, .ref 358), (1, .int v1), (2, .int v2)] (Nat.le_of_ble_eq_true rfl) rfl dX12_table_34 ?_
      refine x_sub [(0, .ref 358), (1, .int v1), (2, .int v2), (3, .int 0), (4, .int 0)] [2, 3, 4, 1, 0] rfl ?_
      exact G12_table_L36_ok C hd hr  h
    · have h := h.2 c18
      refine x_iconst (v := (-1)) C (by decide) dX12_table_29 ?_
      exact x_iret C hr dX12_table_30 ⟨_, rfl, h⟩
set_option maxHeartbeats 4000000 in
set_option maxRecDepth 100000 in
theorem G12_isKind_met {l : Launch} {φ : Nat → Nat} {tc : Nat → ClassId} {D : va_G} {s0 : State} (hG : GX φ tc D s0) {dR : Nat} (hd : G12_isKind_dep ≤ dR) {v0 : Int32} {μ : MM} {Q : Int32 → MM → Prop}  (h : G12_isKind v0 μ Q) : MX l φ tc D s0 dR yX12_isKind cX12_isKind 1 (some .boolean) [.int v0] μ (QI Q) := by
  refine MX.of (own := RX12) hG plX12 rfl (Nat.le_of_ble_eq_true rfl) (fun p e s m args below meth c C hr => ?_)
  refine x_sub [(0, .int v0)] [0] rfl ?_
  unfold G12_isKind at h
  refine x_iload_n C rfl 0 rfl dX12_isKind_0 ?_
  refine x_i2l C dX12_isKind_1 ?_
  refine x_lconst (v := 0) C (by decide) dX12_isKind_2 ?_
  refine x_ldc2 (v := 3) C tw_6_190 dX12_isKind_3 ?_
  refine x_callS (dC := G12_in_dep) (as := [.long (v0.toInt64), .long 0, .long 3]) (st := []) C rfl (Nat.le_trans (Nat.le_of_ble_eq_true rfl) hd) (Nat.le_of_ble_eq_true rfl) tw_6_183 tw_6_182 tc_6_184 tw_1_13 hyX12 hnX12_in rfl (Nat.le_of_ble_eq_true rfl) dX12_isKind_6 (G12_in_met C.2.2.2.2.2.2.2.1 (Nat.le_refl _)  h) (fun r0 μ3 hq => ?_)
  obtain ⟨r4, rfl, h⟩ := hq
  refine x_st [.int r4] rfl ?_
  exact x_zret C hr h.1 dX12_isKind_9 ⟨_, rfl, h.2⟩
set_option maxHeartbeats 4000000 in
set_option maxRecDepth 100000 in
theorem G12_kind_met {l : Launch} {φ : Nat → Nat} {tc : Nat → ClassId} {D : va_G} {s0 : State} (hG : GX φ tc D s0) {dR : Nat} (hd : G12_kind_dep ≤ dR) {v1 : Int32} {v2 : Int32} {v3 : Int32} {μ : MM} {Q : Int32 → MM → Prop}  (h : G12_kind v1 v2 v3 μ Q) : MX l φ tc D s0 dR yX12_kind cX12_kind 4 (some .boolean) [.ref 358, .int v1, .int v2, .int v3] μ (QI Q) := by
  refine MX.of (own := RX12) hG plX12 rfl (Nat.le_of_ble_eq_true rfl) (fun p e s m args below meth c C hr => ?_)
  refine x_sub [(0, .ref 358), (1, .int v1), (2, .int v2), (3, .int v3)] [0, 1, 2, 3] rfl ?_
  unfold G12_kind at h
  refine x_aload_n C rfl 0 rfl dX12_kind_0 ?_
  refine x_iconst (v := 0) C (by decide) dX12_kind_1 ?_
  refine x_putI C (j := 0) ob358.1 ob358.2 (Nat.le_of_ble_eq_true rfl) (Nat.le_of_ble_eq_true rfl) (Or.inl rfl) rfl rfl rfl tw_8_206 dX12_kind_2 ?_
  refine x_mu (fun μ12 e_μ12 => ?_)
  have h := h μ12 e_μ12
  refine x_iload_n C rfl 1 rfl dX12_kind_5 ?_
  refine x_callS (dC := G12_isKind_dep) (as := [.int v1]) (st := []) C rfl (Nat.le_trans (Nat.le_of_ble_eq_true rfl) hd) (Nat.le_of_ble_eq_true rfl) tw_8_8 tw_8_7 tc_8_9 tw_1_13 hyX12 hnX12_isKind rfl (Nat.le_of_ble_eq_true rfl) dX12_kind_6 (G12_isKind_met C.2.2.2.2.2.2.2.1 (Nat.le_refl _)  h) (fun r0 μ13 hq => ?_)
  obtain ⟨r14, rfl, h⟩ := hq
  refine x_st [.int r14] rfl ?_
  refine x_if_eq (tgt := 36) C dX12_kind_9 (by decide) (fun c15 => ?_) (fun c15 => ?_)
  · have h := h.1 c15
    refine x_iconst (v := 0) C (by decide) dX12_kind_36 ?_
    exact x_zret C hr bo_0 dX12_kind_37 ⟨_, rfl, h⟩
  · have h := h.2 c15
    refine x_iload_n C rfl 2 rfl dX12_kind_12 ?_
    refine x_i2l C dX12_kind_13 ?_
    refine x_lconst (v := 0) C (by decide) dX12_kind_14 ?_
    refine x_ldc2 (v := 100) C tw_8_10 dX12_kind_15 ?_
    refine x_callS (dC := G12_in_dep) (as := [.long (v2.toInt64), .long 0, .long 100]) (st := []) C rfl (Nat.le_trans (Nat.le_of_ble_eq_true rfl) hd) (Nat.le_of_ble_eq_true rfl) tw_6_183 tw_6_182 tc_6_184 tw_1_13 hyX12 hnX12_in rfl (Nat.le_of_ble_eq_true rfl) dX12_kind_18 (G12_in_met C.2.2.2.2.2.2.2.1 (Nat.le_refl _)  h) (fun r0 μ16 hq => ?_)
    obtain ⟨r17, rfl, h⟩ := hq
    refine x_st [.int r17] rfl ?_
    refine x_if_eq (tgt := 36) C dX12_kind_21 (by decide) (fun c18 => ?_) (fun c18 => ?_)
    · have h := h.1 c18
      refine x_iconst (v := 0) C (by decide) dX12_kind_36 ?_
      exact x_zret C hr bo_0 dX12_kind_37 ⟨_, rfl, h⟩
    · have h := h.2 c18
      refine x_iload_n C rfl 3 rfl dX12_kind_24 ?_
      refine x_i2l C dX12_kind_25 ?_
      refine x_lconst (v := 0) C (by decide) dX12_kind_26 ?_
      refine x_ldc2 (v := 100) C tw_8_10 dX12_kind_27 ?_
      refine x_callS (dC := G12_in_dep) (as := [.long (v3.toInt64), .long 0, .long 100]) (st := []) C rfl (Nat.le_trans (Nat.le_of_ble_eq_true rfl) hd) (Nat.le_of_ble_eq_true rfl) tw_6_183 tw_6_182 tc_6_184 tw_1_13 hyX12 hnX12_in rfl (Nat.le_of_ble_eq_true rfl) dX12_kind_30 (G12_in_met C.2.2.2.2.2.2.2.1 (Nat.le_refl _)  h) (fun r0 μ19 hq => ?_)
      obtain ⟨r20, rfl, h⟩ := hq
      refine x_st [.int r20] rfl ?_
      refine x_if_ne (tgt := 38) C dX12_kind_33 (by decide) (fun c21 => ?_) (fun c21 => ?_)
      · have h := h.1 c21
        refine x_aload_n C rfl 0 rfl dX12_kind_38 ?_
        refine x_getR (r := 387) C (j := 45) ob358.1 ob358.2 (Nat.le_of_ble_eq_true rfl) (Nat.le_of_ble_eq_true rfl) (fun _ _ _ => rfl) r_358_45 tw_9_11 dX12_kind_39 ?_
        refine x_iload_n C rfl 1 rfl dX12_kind_42 ?_
        refine x_iload_n C rfl 2 rfl dX12_kind_43 ?_
        obtain ⟨c22, h⟩ := h
        refine x_iast C ob387.1 ob387.2 c22 rfl dX12_kind_44 ?_
        refine x_mu (fun μ23 e_μ23 => ?_)
        have h := h μ23 e_μ23
        refine x_aload_n C rfl 0 rfl dX12_kind_45 ?_
        refine x_getR (r := 388) C (j := 46) ob358.1 ob358.2 (Nat.le_of_ble_eq_true rfl) (Nat.le_of_ble_eq_true rfl) (fun _ _ _ => rfl) r_358_46 tw_9_12 dX12_kind_46 ?_
        refine x_iload_n C rfl 1 rfl dX12_kind_49 ?_
        refine x_iload_n C rfl 3 rfl dX12_kind_50 ?_
        obtain ⟨c24, h⟩ := h
        refine x_iast C ob388.1 ob388.2 c24 rfl dX12_kind_51 ?_
        refine x_mu (fun μ25 e_μ25 => ?_)
        have h := h μ25 e_μ25
        refine x_iconst (v := 1) C (by decide) dX12_kind_52 ?_
        exact x_zret C hr bo_1 dX12_kind_53 ⟨_, rfl, h⟩
      · have h := h.2 c21
        refine x_iconst (v := 0) C (by decide) dX12_kind_36 ?_
        exact x_zret C hr bo_0 dX12_kind_37 ⟨_, rfl, h⟩
set_option maxHeartbeats 4000000 in
set_option maxRecDepth 100000 in
theorem G12_parts_L38_b {p : Program} {e : Env} {s : State} {m : MethodId} {args : Array Value} {below : List Frame} {meth : Method} {c : Code} {l : Launch} {φ : Nat → Nat} {tc : Nat → ClassId} {D : va_G} {s0 : State} {dR : Nat} (C : CX p s m args meth c φ tc D s0 cX12_parts RX12 5) (hd : G12_parts_dep ≤ dR) (hr : meth.sig.returnType = (some .int))  {p1 : Int32} {p2 : Int32} {Q : Int32 → MM → Prop} {K38 : Int32 × Int32 × MM → Prop} {x : Int32 × Int32 × MM}   (hK38 : ∀ (z3 : Int32) (z4 : Int32) (zμ : MM), K38 (z3, z4, zμ) → WX p l e (rmX dR) s m args below meth c φ tc D 5 (MQ below (QX φ tc D (QI Q)) args s 0 0 (AX φ)) 38 [(0, .ref 358), (1, .int p1), (2, .int p2), (3, .int z3), (4, .int z4)] [] zμ) (h : G12_parts_L38 p1 p2 Q K38 x) : WX p l e (rmX dR) s m args below meth c φ tc D 5 (MQ below (QX φ tc D (QI Q)) args s 0 0 (AX φ)) 38 [(0, .ref 358), (1, .int p1), (2, .int p2), (3, .int x.1), (4, .int x.2.1)] [] x.2.2 := by
  unfold G12_parts_L38 at h
  refine x_iload C 4 rfl dX12_parts_38 ?_
  refine x_iconst (v := 4) C (by decide) dX12_parts_40 ?_
  refine x_icmp_ge (tgt := 60) C dX12_parts_41 (by decide) (fun c20 => ?_) (fun c20 => ?_)
  · have h := h.1 c20
    refine x_iload_n C rfl 3 rfl dX12_parts_60 ?_
    refine x_if_ne (tgt := 66) C dX12_parts_61 (by decide) (fun c21 => ?_) (fun c21 => ?_)
    · have h := h.1 c21
      refine x_aload_n C rfl 0 rfl dX12_parts_66 ?_
      refine x_getR (r := 389) C (j := 47) ob358.1 ob358.2 (Nat.le_of_ble_eq_true rfl) (Nat.le_of_ble_eq_true rfl) (fun _ _ _ => rfl) r_358_47 tw_9_13 dX12_parts_67 ?_
      refine x_iload_n C rfl 1 rfl dX12_parts_70 ?_
      obtain ⟨c22, h⟩ := h
      refine x_iald C ob389.1 ob389.2 c22 rfl dX12_parts_71 ?_
      refine x_topi (fun y23 e_y23 => ?_)
      have h := h y23 e_y23
      refine x_istore C [(4, .int y23), (0, .ref 358), (1, .int p1), (2, .int p2), (3, .int x.1)] (Nat.le_of_ble_eq_true rfl) rfl dX12_parts_72 ?_
      refine x_aload_n C rfl 1 rfl dX12_parts_74 ?_
      refine x_getR (r := 389) C (j := 47) ob358.1 ob358.2 (Nat.le_of_ble_eq_true rfl) (Nat.le_of_ble_eq_true rfl) (fun _ _ _ => rfl) r_358_47 tw_9_13 dX12_parts_75 ?_
      refine x_iload_n C rfl 2 rfl dX12_parts_78 ?_
      refine x_iload_n C rfl 3 rfl dX12_parts_79 ?_
      obtain ⟨c24, h⟩ := h
      refine x_iast C ob389.1 ob389.2 c24 rfl dX12_parts_80 ?_
      refine x_mu (fun μ25 e_μ25 => ?_)
      have h := h μ25 e_μ25
      refine x_iload C 0 rfl dX12_parts_81 ?_
      exact x_iret C hr dX12_parts_83 ⟨_, rfl, h⟩
    · have h := h.2 c21
      refine x_iconst (v := (-1)) C (by decide) dX12_parts_64 ?_
      exact x_iret C hr dX12_parts_65 ⟨_, rfl, h⟩
  · have h := h.2 c20
    refine x_iload_n C rfl 3 rfl dX12_parts_44 ?_
    refine x_aload_n C rfl 0 rfl dX12_parts_45 ?_
    refine x_getR (r := 389) C (j := 47) ob358.1 ob358.2 (Nat.le_of_ble_eq_true rfl) (Nat.le_of_ble_eq_true rfl) (fun _ _ _ => rfl) r_358_47 tw_9_13 dX12_parts_46 ?_
    refine x_iload C 4 rfl dX12_parts_49 ?_
    obtain ⟨c26, h⟩ := h
    refine x_iald C ob389.1 ob389.2 c26 rfl dX12_parts_51 ?_
    refine x_iadd C dX12_parts_52 ?_
    refine x_topi (fun y27 e_y27 => ?_)
    have h := h y27 e_y27
    refine x_istore_n C [(3, .int y27), (0, .ref 358), (1, .int p1), (2, .int p2), (4, .int x.2.1)] rfl (Nat.le_of_ble_eq_true rfl) rfl dX12_parts_53 ?_
    refine x_iinc (v := (x.2.1 + 1)) C [(4, .int (x.2.1 + 1)), (3, .int y27), (0, .ref 358), (1, .int p1), (2, .int p2)] 4 rfl (congrArg (fun z => x.2.1 + z) (by decide : Int32.ofInt (1) = 1)) (Nat.le_of_ble_eq_true rfl) rfl dX12_parts_54 ?_
    refine x_goto (tgt := 38) C dX12_parts_57 (by decide) ?_
    refine x_sub [(0, .ref 358), (1, .int p1), (2, .int p2), (3, .int y27), (4, .int (x.2.1 + 1))] [2, 3, 4, 1, 0] rfl ?_
    exact hK38 _ _ _ h
theorem G12_parts_L38_ok {p : Program} {e : Env} {s : State} {m : MethodId} {args : Array Value} {below : List Frame} {meth : Method} {c : Code} {l : Launch} {φ : Nat → Nat} {tc : Nat → ClassId} {D : va_G} {s0 : State} {dR : Nat} (C : CX p s m args meth c φ tc D s0 cX12_parts RX12 5) (hd : G12_parts_dep ≤ dR) (hr : meth.sig.returnType = (some .int))  {p1 : Int32} {p2 : Int32} {Q : Int32 → MM → Prop}  {x : Int32 × Int32 × MM}    (h : Lp (G12_parts_L38 p1 p2 Q) x) : WX p l e (rmX dR) s m args below meth c φ tc D 5 (MQ below (QX φ tc D (QI Q)) args s 0 0 (AX φ)) 38 [(0, .ref 358), (1, .int p1), (2, .int p2), (3, .int x.1), (4, .int x.2.1)] [] x.2.2 := by
  obtain ⟨n, h⟩ := h
  induction n generalizing x with
  | zero => exact h.elim
  | succ n ih => exact G12_parts_L38_b C hd hr   (fun z3 z4 zμ hz => by have q := ih hz; exact q) h
set_option maxHeartbeats 4000000 in
set_option maxRecDepth 100000 in
theorem G12_parts_met {l : Launch} {φ : Nat → Nat} {tc : Nat → ClassId} {D : va_G} {s0 : State} (hG : GX φ tc D s0) {dR : Nat} (hd : G12_parts_dep ≤ dR) {v1 : Int32} {v2 : Int32} {μ : MM} {Q : Int32 → MM → Prop}  (h : G12_parts v1 v2 μ Q) : MX l φ tc D s0 dR yX12_parts cX12_parts 5 (some .int) [.ref 358, .int v1, .int v2] μ (QI Q) := by
  refine MX.of (own := RX12) hG plX12 rfl (Nat.le_of_ble_eq_true rfl) (fun p e s m args below meth c C hr => ?_)
  refine x_sub [(0, .ref 358), (1, .int v1), (2, .int v2)] [0, 1, 2] rfl ?_
  unfold G12_parts at h
  refine x_aload_n C rfl 0 rfl dX12_parts_0 ?_
  refine x_iconst (v := 0) C (by decide) dX12_parts_1 ?_
  refine x_putI C (j := 0) ob358.1 ob358.2 (Nat.le_of_ble_eq_true rfl) (Nat.le_of_ble_eq_true rfl) (Or.inl rfl) rfl rfl rfl tw_8_206 dX12_parts_2 ?_
  refine x_mu (fun μ11 e_μ11 => ?_)
  have h := h μ11 e_μ11
  refine x_iload_n C rfl 1 rfl dX12_parts_5 ?_
  refine x_callS (dC := G12_isKind_dep) (as := [.int v1]) (st := []) C rfl (Nat.le_trans (Nat.le_of_ble_eq_true rfl) hd) (Nat.le_of_ble_eq_true rfl) tw_8_8 tw_8_7 tc_8_9 tw_1_13 hyX12 hnX12_isKind rfl (Nat.le_of_ble_eq_true rfl) dX12_parts_6 (G12_isKind_met C.2.2.2.2.2.2.2.1 (Nat.le_refl _)  h) (fun r0 μ12 hq => ?_)
  obtain ⟨r13, rfl, h⟩ := hq
  refine x_st [.int r13] rfl ?_
  refine x_if_eq (tgt := 24) C dX12_parts_9 (by decide) (fun c14 => ?_) (fun c14 => ?_)
  · have h := h.1 c14
    refine x_iconst (v := (-1)) C (by decide) dX12_parts_24 ?_
    exact x_iret C hr dX12_parts_25 ⟨_, rfl, h⟩
  · have h := h.2 c14
    refine x_iload_n C rfl 2 rfl dX12_parts_12 ?_
    refine x_i2l C dX12_parts_13 ?_
    refine x_lconst (v := 0) C (by decide) dX12_parts_14 ?_
    refine x_ldc2 (v := 99) C tw_6_205 dX12_parts_15 ?_
    refine x_callS (dC := G12_in_dep) (as := [.long (v2.toInt64), .long 0, .long 99]) (st := []) C rfl (Nat.le_trans (Nat.le_of_ble_eq_true rfl) hd) (Nat.le_of_ble_eq_true rfl) tw_6_183 tw_6_182 tc_6_184 tw_1_13 hyX12 hnX12_in rfl (Nat.le_of_ble_eq_true rfl) dX12_parts_18 (G12_in_met C.2.2.2.2.2.2.2.1 (Nat.le_refl _)  h) (fun r0 μ15 hq => ?_)
    obtain ⟨r16, rfl, h⟩ := hq
    refine x_st [.int r16] rfl ?_
    refine x_if_ne (tgt := 26) C dX12_parts_21 (by decide) (fun c17 => ?_) (fun c17 => ?_)
    · have h := h.1 c17
      refine x_iload_n C rfl 2 rfl dX12_parts_26 ?_
      refine x_aload_n C rfl 0 rfl dX12_parts_27 ?_
      refine x_getR (r := 389) C (j := 47) ob358.1 ob358.2 (Nat.le_of_ble_eq_true rfl) (Nat.le_of_ble_eq_true rfl) (fun _ _ _ => rfl) r_358_47 tw_9_13 dX12_parts_28 ?_
      refine x_iload_n C rfl 1 rfl dX12_parts_31 ?_
      obtain ⟨c18, h⟩ := h
      refine x_iald C ob389.1 ob389.2 c18 rfl dX12_parts_32 ?_
      refine x_isub C dX12_parts_33 ?_
      refine x_topi (fun y19 e_y19 => ?_)
      have h := h y19 e_y19
      refine x_istore_n C [(3, .int y19), (0, .ref 358), (1, .int v1), (2, .int v2)] rfl (Nat.le_of_ble_eq_true rfl) rfl dX12_parts_34 ?_
      refine x_iconst (v := 0) C (by decide) dX12_parts_35 ?_
      refine x_istore C [(4, .int 0), (3, .int y19), (0, .ref 358), (1, .int v1), (2, .int v2)] (Nat.le_of_ble_eq_true rfl) rfl dX12_parts_36 ?_
      refine x_sub [(0, .ref 358), (1, .int v1), (2, .int v2), (3, .int y19), (4, .int 0)] [2, 3, 4, 1, 0] rfl ?_
      exact G12_parts_L38_ok C hd hr  h
    · have h := h.2 c17
      refine x_iconst (v := (-1)) C (by decide) dX12_parts_24 ?_
      exact x_iret C hr dX12_parts_25 ⟨_, rfl, h⟩
set_option maxHeartbeats 4000000 in
set_option maxRecDepth 100000 in
theorem G12_power_L5_b {p : Program} {e : Env} {s : State} {m : MethodId} {args : Array Value} {below : List Frame} {meth : Method} {c : Code} {l : Launch} {φ : Nat → Nat} {tc : Nat → ClassId} {D : va_G} {s0 : State} {dR : Nat} (C : CX p s m args meth c φ tc D s0 cX12_power RX12 6) (hd : G12_power_dep ≤ dR) (hr : meth.sig.returnType = (some .long))  {p0 : Int64} {p2 : Int32} {Q : Int64 → MM → Prop} {K5 : Int64 × Int32 × MM → Prop} {x : Int64 × Int32 × MM}   (hK5 : ∀ (z3 : Int64) (z5 : Int32) (zμ : MM), K5 (z3, z5, zμ) → WX p l e (rmX dR) s m args below meth c φ tc D 6 (MQ below (QX φ tc D (QJ Q)) args s 0 0 (AX φ)) 5 [(0, .long p0), (2, .int p2), (3, .long z3), (5, .int z5)] [] zμ) (h : G12_power_L5 p0 p2 Q K5 x) : WX p l e (rmX dR) s m args below meth c φ tc D 6 (MQ below (QX φ tc D (QJ Q)) args s 0 0 (AX φ)) 5 [(0, .long p0), (2, .int p2), (3, .long x.1), (5, .int x.2.1)] [] x.2.2 := by
  unfold G12_power_L5 at h
  refine x_iload C 3 rfl dX12_power_5 ?_
  refine x_iload_n C rfl 1 rfl dX12_power_7 ?_
  refine x_icmp_ge (tgt := 21) C dX12_power_8 (by decide) (fun c1 => ?_) (fun c1 => ?_)
  · have h := h.1 c1
    refine x_lload_n C rfl 2 rfl dX12_power_21 ?_
    exact x_lret C hr dX12_power_22 ⟨_, rfl, h⟩
  · have h := h.2 c1
    refine x_lload_n C rfl 2 rfl dX12_power_11 ?_
    refine x_lload_n C rfl 0 rfl dX12_power_12 ?_
    refine x_lmul C dX12_power_13 ?_
    refine x_topl (fun y2 e_y2 => ?_)
    have h := h y2 e_y2
    refine x_lstore_n C [(3, .long y2), (0, .long p0), (2, .int p2), (5, .int x.2.1)] rfl (Nat.le_of_ble_eq_true rfl) rfl dX12_power_14 ?_
    refine x_iinc (v := (x.2.1 + 1)) C [(5, .int (x.2.1 + 1)), (3, .long y2), (0, .long p0), (2, .int p2)] 3 rfl (congrArg (fun z => x.2.1 + z) (by decide : Int32.ofInt (1) = 1)) (Nat.le_of_ble_eq_true rfl) rfl dX12_power_15 ?_
    refine x_goto (tgt := 5) C dX12_power_18 (by decide) ?_
    refine x_sub [(0, .long p0), (2, .int p2), (3, .long y2), (5, .int (x.2.1 + 1))] [2, 3, 1, 0] rfl ?_
    exact hK5 _ _ _ h
theorem G12_power_L5_ok {p : Program} {e : Env} {s : State} {m : MethodId} {args : Array Value} {below : List Frame} {meth : Method} {c : Code} {l : Launch} {φ : Nat → Nat} {tc : Nat → ClassId} {D : va_G} {s0 : State} {dR : Nat} (C : CX p s m args meth c φ tc D s0 cX12_power RX12 6) (hd : G12_power_dep ≤ dR) (hr : meth.sig.returnType = (some .long))  {p0 : Int64} {p2 : Int32} {Q : Int64 → MM → Prop}  {x : Int64 × Int32 × MM}    (h : Lp (G12_power_L5 p0 p2 Q) x) : WX p l e (rmX dR) s m args below meth c φ tc D 6 (MQ below (QX φ tc D (QJ Q)) args s 0 0 (AX φ)) 5 [(0, .long p0), (2, .int p2), (3, .long x.1), (5, .int x.2.1)] [] x.2.2 := by
  obtain ⟨n, h⟩ := h
  induction n generalizing x with
  | zero => exact h.elim
  | succ n ih => exact G12_power_L5_b C hd hr   (fun z3 z5 zμ hz => by have q := ih hz; exact q) h
set_option maxHeartbeats 4000000 in
set_option maxRecDepth 100000 in
theorem G12_power_met {l : Launch} {φ : Nat → Nat} {tc : Nat → ClassId} {D : va_G} {s0 : State} (hG : GX φ tc D s0) {dR : Nat} (hd : G12_power_dep ≤ dR) {v0 : Int64} {v2 : Int32} {μ : MM} {Q : Int64 → MM → Prop}  (h : G12_power v0 v2 μ Q) : MX l φ tc D s0 dR yX12_power cX12_power 6 (some .long) [.long v0, .int v2] μ (QJ Q) := by
  refine MX.of (own := RX12) hG plX12 rfl (Nat.le_of_ble_eq_true rfl) (fun p e s m args below meth c C hr => ?_)
  refine x_sub [(0, .long v0), (2, .int v2)] [0, 1] rfl ?_
  unfold G12_power at h
  refine x_lconst (v := 1) C (by decide) dX12_power_0 ?_
  refine x_lstore_n C [(3, .long 1), (0, .long v0), (2, .int v2)] rfl (Nat.le_of_ble_eq_true rfl) rfl dX12_power_1 ?_
  refine x_iconst (v := 0) C (by decide) dX12_power_2 ?_
  refine x_istore C [(5, .int 0), (3, .long 1), (0, .long v0), (2, .int v2)] (Nat.le_of_ble_eq_true rfl) rfl dX12_power_3 ?_
  refine x_sub [(0, .long v0), (2, .int v2), (3, .long 1), (5, .int 0)] [2, 3, 1, 0] rfl ?_
  exact G12_power_L5_ok C hd hr  h
set_option maxHeartbeats 4000000 in
set_option maxRecDepth 100000 in
theorem G12_wouldBe_met {l : Launch} {φ : Nat → Nat} {tc : Nat → ClassId} {D : va_G} {s0 : State} (hG : GX φ tc D s0) {dR : Nat} (hd : G12_wouldBe_dep ≤ dR) {v1 : Int32} {μ : MM} {Q : Int64 → MM → Prop}  (h : G12_wouldBe v1 μ Q) : MX l φ tc D s0 dR yX12_wouldBe cX12_wouldBe 6 (some .long) [.ref 358, .int v1] μ (QJ Q) := by
  refine MX.of (own := RX12) hG plX12 rfl (Nat.le_of_ble_eq_true rfl) (fun p e s m args below meth c C hr => ?_)
  refine x_sub [(0, .ref 358), (1, .int v1)] [0, 1] rfl ?_
  unfold G12_wouldBe at h
  refine x_aload_n C rfl 0 rfl dX12_wouldBe_0 ?_
  refine x_getR (r := 387) C (j := 45) ob358.1 ob358.2 (Nat.le_of_ble_eq_true rfl) (Nat.le_of_ble_eq_true rfl) (fun _ _ _ => rfl) r_358_45 tw_9_11 dX12_wouldBe_1 ?_
  refine x_iload_n C rfl 1 rfl dX12_wouldBe_4 ?_
  obtain ⟨c19, h⟩ := h
  refine x_iald C ob387.1 ob387.2 c19 rfl dX12_wouldBe_5 ?_
  refine x_i2l C dX12_wouldBe_6 ?_
  refine x_aload_n C rfl 0 rfl dX12_wouldBe_7 ?_
  refine x_getR (r := 391) C (j := 49) ob358.1 ob358.2 (Nat.le_of_ble_eq_true rfl) (Nat.le_of_ble_eq_true rfl) (fun _ _ _ => rfl) r_358_49 tw_9_15 dX12_wouldBe_8 ?_
  refine x_iconst (v := 0) C (by decide) dX12_wouldBe_11 ?_
  refine x_iald C ob391.1 ob391.2 (by unfold vp_in; decide) (j := 0) (by decide) dX12_wouldBe_12 ?_
  refine x_callS (dC := G12_power_dep) (as := [.long ((gI μ 387 v1.toNatClampNeg).toInt64), .int (gI μ 391 0)]) (st := []) C rfl (Nat.le_trans (Nat.le_of_ble_eq_true rfl) hd) (Nat.le_of_ble_eq_true rfl) tw_8_28 tw_8_27 tc_8_29 tw_1_13 hyX12 hnX12_power rfl (Nat.le_of_ble_eq_true rfl) dX12_wouldBe_13 (G12_power_met C.2.2.2.2.2.2.2.1 (Nat.le_refl _)  h) (fun r0 μ20 hq => ?_)
  obtain ⟨r21, rfl, h⟩ := hq
  refine x_st [.long r21] rfl ?_
  refine x_bipush (v := 100) C (by decide) dX12_wouldBe_16 ?_
  refine x_aload_n C rfl 0 rfl dX12_wouldBe_18 ?_
  refine x_getR (r := 387) C (j := 45) ob358.1 ob358.2 (Nat.le_of_ble_eq_true rfl) (Nat.le_of_ble_eq_true rfl) (fun _ _ _ => rfl) r_358_45 tw_9_11 dX12_wouldBe_19 ?_
  refine x_iload_n C rfl 1 rfl dX12_wouldBe_22 ?_
  obtain ⟨c22, h⟩ := h
  refine x_iald C ob387.1 ob387.2 c22 rfl dX12_wouldBe_23 ?_
  refine x_isub C dX12_wouldBe_24 ?_
  refine x_i2l C dX12_wouldBe_25 ?_
  refine x_aload_n C rfl 0 rfl dX12_wouldBe_26 ?_
  refine x_getR (r := 390) C (j := 48) ob358.1 ob358.2 (Nat.le_of_ble_eq_true rfl) (Nat.le_of_ble_eq_true rfl) (fun _ _ _ => rfl) r_358_48 tw_9_14 dX12_wouldBe_27 ?_
  refine x_iconst (v := 0) C (by decide) dX12_wouldBe_30 ?_
  refine x_iald C ob390.1 ob390.2 (by unfold vp_in; decide) (j := 0) (by decide) dX12_wouldBe_31 ?_
  refine x_aload_n C rfl 0 rfl dX12_wouldBe_32 ?_
  refine x_getR (r := 391) C (j := 49) ob358.1 ob358.2 (Nat.le_of_ble_eq_true rfl) (Nat.le_of_ble_eq_true rfl) (fun _ _ _ => rfl) r_358_49 tw_9_15 dX12_wouldBe_33 ?_
  refine x_iconst (v := 0) C (by decide) dX12_wouldBe_36 ?_
  refine x_iald C ob391.1 ob391.2 (by unfold vp_in; decide) (j := 0) (by decide) dX12_wouldBe_37 ?_
  refine x_isub C dX12_wouldBe_38 ?_
  refine x_callS (dC := G12_power_dep) (as := [.long ((100 - (gI μ20 387 v1.toNatClampNeg)).toInt64), .int ((gI μ20 390 0) - (gI μ20 391 0))]) (st := [.long r21]) C rfl (Nat.le_trans (Nat.le_of_ble_eq_true rfl) hd) (Nat.le_of_ble_eq_true rfl) tw_8_28 tw_8_27 tc_8_29 tw_1_13 hyX12 hnX12_power rfl (Nat.le_of_ble_eq_true rfl) dX12_wouldBe_39 (G12_power_met C.2.2.2.2.2.2.2.1 (Nat.le_refl _)  h) (fun r0 μ23 hq => ?_)
  obtain ⟨r24, rfl, h⟩ := hq
  refine x_st [.long r24, .long r21] rfl ?_
  refine x_lmul C dX12_wouldBe_42 ?_
  refine x_topl (fun y25 e_y25 => ?_)
  have h := h y25 e_y25
  refine x_lstore_n C [(2, .long y25), (0, .ref 358), (1, .int v1)] rfl (Nat.le_of_ble_eq_true rfl) rfl dX12_wouldBe_43 ?_
  refine x_aload_n C rfl 1 rfl dX12_wouldBe_44 ?_
  refine x_getR (r := 388) C (j := 46) ob358.1 ob358.2 (Nat.le_of_ble_eq_true rfl) (Nat.le_of_ble_eq_true rfl) (fun _ _ _ => rfl) r_358_46 tw_9_12 dX12_wouldBe_45 ?_
  refine x_iload_n C rfl 2 rfl dX12_wouldBe_48 ?_
  obtain ⟨c26, h⟩ := h
  refine x_iald C ob388.1 ob388.2 c26 rfl dX12_wouldBe_49 ?_
  refine x_i2l C dX12_wouldBe_50 ?_
  refine x_aload_n C rfl 1 rfl dX12_wouldBe_51 ?_
  refine x_getR (r := 391) C (j := 49) ob358.1 ob358.2 (Nat.le_of_ble_eq_true rfl) (Nat.le_of_ble_eq_true rfl) (fun _ _ _ => rfl) r_358_49 tw_9_15 dX12_wouldBe_52 ?_
  refine x_iconst (v := 1) C (by decide) dX12_wouldBe_55 ?_
  refine x_iald C ob391.1 ob391.2 (by unfold vp_in; decide) (j := 1) (by decide) dX12_wouldBe_56 ?_
  refine x_callS (dC := G12_power_dep) (as := [.long ((gI μ23 388 v1.toNatClampNeg).toInt64), .int (gI μ23 391 1)]) (st := []) C rfl (Nat.le_trans (Nat.le_of_ble_eq_true rfl) hd) (Nat.le_of_ble_eq_true rfl) tw_8_28 tw_8_27 tc_8_29 tw_1_13 hyX12 hnX12_power rfl (Nat.le_of_ble_eq_true rfl) dX12_wouldBe_57 (G12_power_met C.2.2.2.2.2.2.2.1 (Nat.le_refl _)  h) (fun r0 μ27 hq => ?_)
  obtain ⟨r28, rfl, h⟩ := hq
  refine x_st [.long r28] rfl ?_
  refine x_bipush (v := 100) C (by decide) dX12_wouldBe_60 ?_
  refine x_aload_n C rfl 1 rfl dX12_wouldBe_62 ?_
  refine x_getR (r := 388) C (j := 46) ob358.1 ob358.2 (Nat.le_of_ble_eq_true rfl) (Nat.le_of_ble_eq_true rfl) (fun _ _ _ => rfl) r_358_46 tw_9_12 dX12_wouldBe_63 ?_
  refine x_iload_n C rfl 2 rfl dX12_wouldBe_66 ?_
  obtain ⟨c29, h⟩ := h
  refine x_iald C ob388.1 ob388.2 c29 rfl dX12_wouldBe_67 ?_
  refine x_isub C dX12_wouldBe_68 ?_
  refine x_i2l C dX12_wouldBe_69 ?_
  refine x_aload_n C rfl 1 rfl dX12_wouldBe_70 ?_
  refine x_getR (r := 390) C (j := 48) ob358.1 ob358.2 (Nat.le_of_ble_eq_true rfl) (Nat.le_of_ble_eq_true rfl) (fun _ _ _ => rfl) r_358_48 tw_9_14 dX12_wouldBe_71 ?_
  refine x_iconst (v := 1) C (by decide) dX12_wouldBe_74 ?_
  refine x_iald C ob390.1 ob390.2 (by unfold vp_in; decide) (j := 1) (by decide) dX12_wouldBe_75 ?_
  refine x_aload_n C rfl 1 rfl dX12_wouldBe_76 ?_
  refine x_getR (r := 391) C (j := 49) ob358.1 ob358.2 (Nat.le_of_ble_eq_true rfl) (Nat.le_of_ble_eq_true rfl) (fun _ _ _ => rfl) r_358_49 tw_9_15 dX12_wouldBe_77 ?_
  refine x_iconst (v := 1) C (by decide) dX12_wouldBe_80 ?_
  refine x_iald C ob391.1 ob391.2 (by unfold vp_in; decide) (j := 1) (by decide) dX12_wouldBe_81 ?_
  refine x_isub C dX12_wouldBe_82 ?_
  refine x_callS (dC := G12_power_dep) (as := [.long ((100 - (gI μ27 388 v1.toNatClampNeg)).toInt64), .int ((gI μ27 390 1) - (gI μ27 391 1))]) (st := [.long r28]) C rfl (Nat.le_trans (Nat.le_of_ble_eq_true rfl) hd) (Nat.le_of_ble_eq_true rfl) tw_8_28 tw_8_27 tc_8_29 tw_1_13 hyX12 hnX12_power rfl (Nat.le_of_ble_eq_true rfl) dX12_wouldBe_83 (G12_power_met C.2.2.2.2.2.2.2.1 (Nat.le_refl _)  h) (fun r0 μ30 hq => ?_)
  obtain ⟨r31, rfl, h⟩ := hq
  refine x_st [.long r31, .long r28] rfl ?_
  refine x_lmul C dX12_wouldBe_86 ?_
  refine x_topl (fun y32 e_y32 => ?_)
  have h := h y32 e_y32
  refine x_lstore C [(4, .long y32), (2, .long y25), (0, .ref 358), (1, .int v1)] (Nat.le_of_ble_eq_true rfl) rfl dX12_wouldBe_87 ?_
  refine x_lload_n C rfl 1 rfl dX12_wouldBe_89 ?_
  refine x_lload C 0 rfl dX12_wouldBe_90 ?_
  refine x_lmul C dX12_wouldBe_92 ?_
  exact x_lret C hr dX12_wouldBe_93 ⟨_, rfl, h⟩
set_option maxHeartbeats 4000000 in
set_option maxRecDepth 100000 in
theorem G12_allKinds_L4_b {p : Program} {e : Env} {s : State} {m : MethodId} {args : Array Value} {below : List Frame} {meth : Method} {c : Code} {l : Launch} {φ : Nat → Nat} {tc : Nat → ClassId} {D : va_G} {s0 : State} {dR : Nat} (C : CX p s m args meth c φ tc D s0 cX12_allKinds RX12 4) (hd : G12_allKinds_dep ≤ dR) (hr : meth.sig.returnType = (some .long))   {Q : Int64 → MM → Prop} {K4 : Int64 × Int32 × MM → Prop} {x : Int64 × Int32 × MM}   (hK4 : ∀ (z1 : Int64) (z3 : Int32) (zμ : MM), K4 (z1, z3, zμ) → WX p l e (rmX dR) s m args below meth c φ tc D 4 (MQ below (QX φ tc D (QJ Q)) args s 0 0 (AX φ)) 4 [(0, .ref 358), (1, .long z1), (3, .int z3)] [] zμ) (h : G12_allKinds_L4  Q K4 x) : WX p l e (rmX dR) s m args below meth c φ tc D 4 (MQ below (QX φ tc D (QJ Q)) args s 0 0 (AX φ)) 4 [(0, .ref 358), (1, .long x.1), (3, .int x.2.1)] [] x.2.2 := by
  unfold G12_allKinds_L4 at h
  refine x_iload_n C rfl 2 rfl dX12_allKinds_4 ?_
  refine x_iconst (v := 4) C (by decide) dX12_allKinds_5 ?_
  refine x_icmp_ge (tgt := 31) C dX12_allKinds_6 (by decide) (fun c4 => ?_) (fun c4 => ?_)
  · have h := h.1 c4
    refine x_lload_n C rfl 1 rfl dX12_allKinds_31 ?_
    exact x_lret C hr dX12_allKinds_32 ⟨_, rfl, h⟩
  · have h := h.2 c4
    refine x_lload_n C rfl 1 rfl dX12_allKinds_9 ?_
    refine x_aload_n C rfl 0 rfl dX12_allKinds_10 ?_
    refine x_getR (r := 389) C (j := 47) ob358.1 ob358.2 (Nat.le_of_ble_eq_true rfl) (Nat.le_of_ble_eq_true rfl) (fun _ _ _ => rfl) r_358_47 tw_9_13 dX12_allKinds_11 ?_
    refine x_iload_n C rfl 2 rfl dX12_allKinds_14 ?_
    obtain ⟨c5, h⟩ := h
    refine x_iald C ob389.1 ob389.2 c5 rfl dX12_allKinds_15 ?_
    refine x_i2l C dX12_allKinds_16 ?_
    refine x_aload_n C rfl 0 rfl dX12_allKinds_17 ?_
    refine x_iload_n C rfl 2 rfl dX12_allKinds_18 ?_
    refine x_callV (dC := G12_wouldBe_dep) (as := [.int x.2.1]) (st := [.long ((gI x.2.2 389 x.2.1.toNatClampNeg).toInt64), .long x.1]) C rfl (Nat.le_trans (Nat.le_of_ble_eq_true rfl) hd) (Nat.le_of_ble_eq_true rfl) ob358.1 ob358.2 (Nat.le_of_ble_eq_true rfl) rfl ts_10_10 tw_8_25 tw_8_23 tc_8_26 tw_1_13 hyX12 hnX12_wouldBe rfl (Nat.le_of_ble_eq_true rfl) dX12_allKinds_19 (G12_wouldBe_met C.2.2.2.2.2.2.2.1 (Nat.le_refl _)  h) (fun r0 μ6 hq => ?_)
    obtain ⟨r7, rfl, h⟩ := hq
    refine x_st [.long r7, .long ((gI x.2.2 389 x.2.1.toNatClampNeg).toInt64), .long x.1] rfl ?_
    refine x_lmul C dX12_allKinds_22 ?_
    refine x_ladd C dX12_allKinds_23 ?_
    refine x_topl (fun y8 e_y8 => ?_)
    have h := h y8 e_y8
    refine x_lstore_n C [(1, .long y8), (0, .ref 358), (3, .int x.2.1)] rfl (Nat.le_of_ble_eq_true rfl) rfl dX12_allKinds_24 ?_
    refine x_iinc (v := (x.2.1 + 1)) C [(3, .int (x.2.1 + 1)), (1, .long y8), (0, .ref 358)] 2 rfl (congrArg (fun z => x.2.1 + z) (by decide : Int32.ofInt (1) = 1)) (Nat.le_of_ble_eq_true rfl) rfl dX12_allKinds_25 ?_
    refine x_goto (tgt := 4) C dX12_allKinds_28 (by decide) ?_
    refine x_sub [(0, .ref 358), (1, .long y8), (3, .int (x.2.1 + 1))] [2, 1, 0] rfl ?_
    exact hK4 _ _ _ h
theorem G12_allKinds_L4_ok {p : Program} {e : Env} {s : State} {m : MethodId} {args : Array Value} {below : List Frame} {meth : Method} {c : Code} {l : Launch} {φ : Nat → Nat} {tc : Nat → ClassId} {D : va_G} {s0 : State} {dR : Nat} (C : CX p s m args meth c φ tc D s0 cX12_allKinds RX12 4) (hd : G12_allKinds_dep ≤ dR) (hr : meth.sig.returnType = (some .long))   {Q : Int64 → MM → Prop}  {x : Int64 × Int32 × MM}    (h : Lp (G12_allKinds_L4  Q) x) : WX p l e (rmX dR) s m args below meth c φ tc D 4 (MQ below (QX φ tc D (QJ Q)) args s 0 0 (AX φ)) 4 [(0, .ref 358), (1, .long x.1), (3, .int x.2.1)] [] x.2.2 := by
  obtain ⟨n, h⟩ := h
  induction n generalizing x with
  | zero => exact h.elim
  | succ n ih => exact G12_allKinds_L4_b C hd hr   (fun z1 z3 zμ hz => by have q := ih hz; exact q) h
set_option maxHeartbeats 4000000 in
set_option maxRecDepth 100000 in
theorem G12_allKinds_met {l : Launch} {φ : Nat → Nat} {tc : Nat → ClassId} {D : va_G} {s0 : State} (hG : GX φ tc D s0) {dR : Nat} (hd : G12_allKinds_dep ≤ dR)  {μ : MM} {Q : Int64 → MM → Prop}  (h : G12_allKinds  μ Q) : MX l φ tc D s0 dR yX12_allKinds cX12_allKinds 4 (some .long) [.ref 358] μ (QJ Q) := by
  refine MX.of (own := RX12) hG plX12 rfl (Nat.le_of_ble_eq_true rfl) (fun p e s m args below meth c C hr => ?_)
  refine x_sub [(0, .ref 358)] [0] rfl ?_
  unfold G12_allKinds at h
  refine x_lconst (v := 0) C (by decide) dX12_allKinds_0 ?_
  refine x_lstore_n C [(1, .long 0), (0, .ref 358)] rfl (Nat.le_of_ble_eq_true rfl) rfl dX12_allKinds_1 ?_
  refine x_iconst (v := 0) C (by decide) dX12_allKinds_2 ?_
  refine x_istore_n C [(3, .int 0), (1, .long 0), (0, .ref 358)] rfl (Nat.le_of_ble_eq_true rfl) rfl dX12_allKinds_3 ?_
  refine x_sub [(0, .ref 358), (1, .long 0), (3, .int 0)] [2, 1, 0] rfl ?_
  exact G12_allKinds_L4_ok C hd hr  h
set_option maxHeartbeats 4000000 in
set_option maxRecDepth 100000 in
theorem G12_likelyOf_met {l : Launch} {φ : Nat → Nat} {tc : Nat → ClassId} {D : va_G} {s0 : State} (hG : GX φ tc D s0) {dR : Nat} (hd : G12_likelyOf_dep ≤ dR) {v1 : Int32} {μ : MM} {Q : Int64 → MM → Prop}  (h : G12_likelyOf v1 μ Q) : MX l φ tc D s0 dR yX12_likelyOf cX12_likelyOf 2 (some .long) [.ref 358, .int v1] μ (QJ Q) := by
  refine MX.of (own := RX12) hG plX12 rfl (Nat.le_of_ble_eq_true rfl) (fun p e s m args below meth c C hr => ?_)
  refine x_sub [(0, .ref 358), (1, .int v1)] [0, 1] rfl ?_
  unfold G12_likelyOf at h
  refine x_ldcw (v := 1000000) C tw_8_34 dX12_likelyOf_0 ?_
  refine x_aload_n C rfl 0 rfl dX12_likelyOf_3 ?_
  refine x_getR (r := 389) C (j := 47) ob358.1 ob358.2 (Nat.le_of_ble_eq_true rfl) (Nat.le_of_ble_eq_true rfl) (fun _ _ _ => rfl) r_358_47 tw_9_13 dX12_likelyOf_4 ?_
  refine x_iload_n C rfl 1 rfl dX12_likelyOf_7 ?_
  obtain ⟨c7, h⟩ := h
  refine x_iald C ob389.1 ob389.2 c7 rfl dX12_likelyOf_8 ?_
  refine x_imul C dX12_likelyOf_9 ?_
  refine x_i2l C dX12_likelyOf_10 ?_
  refine x_aload_n C rfl 0 rfl dX12_likelyOf_11 ?_
  refine x_iload_n C rfl 1 rfl dX12_likelyOf_12 ?_
  refine x_callV (dC := G12_wouldBe_dep) (as := [.int v1]) (st := [.long ((1000000 * (gI μ 389 v1.toNatClampNeg)).toInt64)]) C rfl (Nat.le_trans (Nat.le_of_ble_eq_true rfl) hd) (Nat.le_of_ble_eq_true rfl) ob358.1 ob358.2 (Nat.le_of_ble_eq_true rfl) rfl ts_10_10 tw_8_25 tw_8_23 tc_8_26 tw_1_13 hyX12 hnX12_wouldBe rfl (Nat.le_of_ble_eq_true rfl) dX12_likelyOf_13 (G12_wouldBe_met C.2.2.2.2.2.2.2.1 (Nat.le_refl _)  h) (fun r0 μ8 hq => ?_)
  obtain ⟨r9, rfl, h⟩ := hq
  refine x_st [.long r9, .long ((1000000 * (gI μ 389 v1.toNatClampNeg)).toInt64)] rfl ?_
  refine x_lmul C dX12_likelyOf_16 ?_
  refine x_aload_n C rfl 0 rfl dX12_likelyOf_17 ?_
  refine x_callV (dC := G12_allKinds_dep) (as := []) (st := [.long (((1000000 * (gI μ 389 v1.toNatClampNeg)).toInt64) * r9)]) C rfl (Nat.le_trans (Nat.le_of_ble_eq_true rfl) hd) (Nat.le_of_ble_eq_true rfl) ob358.1 ob358.2 (Nat.le_of_ble_eq_true rfl) rfl ts_10_9 tw_8_21 tw_8_19 tc_8_22 tw_1_13 hyX12 hnX12_allKinds rfl (Nat.le_of_ble_eq_true rfl) dX12_likelyOf_18 (G12_allKinds_met C.2.2.2.2.2.2.2.1 (Nat.le_refl _)  h) (fun r0 μ10 hq => ?_)
  obtain ⟨r11, rfl, h⟩ := hq
  refine x_st [.long r11, .long (((1000000 * (gI μ 389 v1.toNatClampNeg)).toInt64) * r9)] rfl ?_
  obtain ⟨c12, h⟩ := h
  refine x_ldiv C c12 dX12_likelyOf_21 ?_
  exact x_lret C hr dX12_likelyOf_22 ⟨_, rfl, h⟩
set_option maxHeartbeats 4000000 in
set_option maxRecDepth 100000 in
theorem G12_likely_met {l : Launch} {φ : Nat → Nat} {tc : Nat → ClassId} {D : va_G} {s0 : State} (hG : GX φ tc D s0) {dR : Nat} (hd : G12_likely_dep ≤ dR) {v1 : Int32} {v2 : Int32} {μ : MM} {Q : Int32 → MM → Prop}  (h : G12_likely v1 v2 μ Q) : MX l φ tc D s0 dR yX12_likely cX12_likely 3 (some .int) [.ref 358, .int v1, .int v2] μ (QI Q) := by
  refine MX.of (own := RX12) hG plX12 rfl (Nat.le_of_ble_eq_true rfl) (fun p e s m args below meth c C hr => ?_)
  refine x_sub [(0, .ref 358), (1, .int v1), (2, .int v2)] [0, 1, 2] rfl ?_
  unfold G12_likely at h
  refine x_aload_n C rfl 0 rfl dX12_likely_0 ?_
  refine x_iconst (v := 0) C (by decide) dX12_likely_1 ?_
  refine x_putI C (j := 0) ob358.1 ob358.2 (Nat.le_of_ble_eq_true rfl) (Nat.le_of_ble_eq_true rfl) (Or.inl rfl) rfl rfl rfl tw_8_206 dX12_likely_2 ?_
  refine x_mu (fun μ12 e_μ12 => ?_)
  have h := h μ12 e_μ12
  refine x_aload_n C rfl 0 rfl dX12_likely_5 ?_
  refine x_iload_n C rfl 1 rfl dX12_likely_6 ?_
  refine x_callV (dC := G12_isHouse_dep) (as := [.int v1]) (st := []) C rfl (Nat.le_trans (Nat.le_of_ble_eq_true rfl) hd) (Nat.le_of_ble_eq_true rfl) ob358.1 ob358.2 (Nat.le_of_ble_eq_true rfl) rfl ts_8_8 tw_6_198 tw_6_196 tc_6_200 tw_1_13 hyX12 hnX12_isHouse rfl (Nat.le_of_ble_eq_true rfl) dX12_likely_7 (G12_isHouse_met C.2.2.2.2.2.2.2.1 (Nat.le_refl _)  h) (fun r0 μ13 hq => ?_)
  obtain ⟨r14, rfl, h⟩ := hq
  refine x_st [.int r14] rfl ?_
  refine x_if_eq (tgt := 20) C dX12_likely_10 (by decide) (fun c15 => ?_) (fun c15 => ?_)
  · have h := h.1 c15
    refine x_iconst (v := (-1)) C (by decide) dX12_likely_20 ?_
    exact x_iret C hr dX12_likely_21 ⟨_, rfl, h⟩
  · have h := h.2 c15
    refine x_iload_n C rfl 2 rfl dX12_likely_13 ?_
    refine x_callS (dC := G12_isKind_dep) (as := [.int v2]) (st := []) C rfl (Nat.le_trans (Nat.le_of_ble_eq_true rfl) hd) (Nat.le_of_ble_eq_true rfl) tw_8_8 tw_8_7 tc_8_9 tw_1_13 hyX12 hnX12_isKind rfl (Nat.le_of_ble_eq_true rfl) dX12_likely_14 (G12_isKind_met C.2.2.2.2.2.2.2.1 (Nat.le_refl _)  h) (fun r0 μ16 hq => ?_)
    obtain ⟨r17, rfl, h⟩ := hq
    refine x_st [.int r17] rfl ?_
    refine x_if_ne (tgt := 22) C dX12_likely_17 (by decide) (fun c18 => ?_) (fun c18 => ?_)
    · have h := h.1 c18
      refine x_aload_n C rfl 0 rfl dX12_likely_22 ?_
      refine x_iload_n C rfl 1 rfl dX12_likely_23 ?_
      refine x_callV (dC := G12_countsHouse_dep) (as := [.int v1]) (st := []) C rfl (Nat.le_trans (Nat.le_of_ble_eq_true rfl) hd) (Nat.le_of_ble_eq_true rfl) ob358.1 ob358.2 (Nat.le_of_ble_eq_true rfl) rfl ts_10_8 tw_8_1 tw_7_239 tc_8_2 tw_1_13 hyX12 hnX12_countsHouse rfl (Nat.le_of_ble_eq_true rfl) dX12_likely_24 (G12_countsHouse_met C.2.2.2.2.2.2.2.1 (Nat.le_refl _)  h) (fun r0 μ19 hq => ?_)
      obtain ⟨r20, rfl, h⟩ := hq
      refine x_st [.int r20] rfl ?_
      refine x_pop C rfl dX12_likely_27 ?_
      refine x_aload_n C rfl 0 rfl dX12_likely_28 ?_
      refine x_callV (dC := G12_allKinds_dep) (as := []) (st := []) C rfl (Nat.le_trans (Nat.le_of_ble_eq_true rfl) hd) (Nat.le_of_ble_eq_true rfl) ob358.1 ob358.2 (Nat.le_of_ble_eq_true rfl) rfl ts_10_9 tw_8_21 tw_8_19 tc_8_22 tw_1_13 hyX12 hnX12_allKinds rfl (Nat.le_of_ble_eq_true rfl) dX12_likely_29 (G12_allKinds_met C.2.2.2.2.2.2.2.1 (Nat.le_refl _)  h) (fun r0 μ21 hq => ?_)
      obtain ⟨r22, rfl, h⟩ := hq
      refine x_st [.long r22] rfl ?_
      refine x_lconst (v := 0) C (by decide) dX12_likely_32 ?_
      refine x_lcmp C dX12_likely_33 ?_
      refine x_if_ne (tgt := 42) C dX12_likely_34 (by decide) (fun c23 => ?_) (fun c23 => ?_)
      · have h := h.1 c23
        refine x_aload_n C rfl 0 rfl dX12_likely_42 ?_
        refine x_iload_n C rfl 2 rfl dX12_likely_43 ?_
        refine x_callV (dC := G12_likelyOf_dep) (as := [.int v2]) (st := []) C rfl (Nat.le_trans (Nat.le_of_ble_eq_true rfl) hd) (Nat.le_of_ble_eq_true rfl) ob358.1 ob358.2 (Nat.le_of_ble_eq_true rfl) rfl ts_10_11 tw_8_32 tw_8_30 tc_8_33 tw_1_13 hyX12 hnX12_likelyOf rfl (Nat.le_of_ble_eq_true rfl) dX12_likely_44 (G12_likelyOf_met C.2.2.2.2.2.2.2.1 (Nat.le_refl _)  h) (fun r0 μ24 hq => ?_)
        obtain ⟨r25, rfl, h⟩ := hq
        refine x_st [.long r25] rfl ?_
        refine x_l2i C dX12_likely_47 ?_
        exact x_iret C hr dX12_likely_48 ⟨_, rfl, h⟩
      · have h := h.2 c23
        refine x_bipush (v := (-2)) C (by decide) dX12_likely_37 ?_
        refine x_goto (tgt := 48) C dX12_likely_39 (by decide) ?_
        exact x_iret C hr dX12_likely_48 ⟨_, rfl, h⟩
    · have h := h.2 c18
      refine x_iconst (v := (-1)) C (by decide) dX12_likely_20 ?_
      exact x_iret C hr dX12_likely_21 ⟨_, rfl, h⟩
set_option maxHeartbeats 4000000 in
set_option maxRecDepth 100000 in
theorem G12_becomes_L2_b {p : Program} {e : Env} {s : State} {m : MethodId} {args : Array Value} {below : List Frame} {meth : Method} {c : Code} {l : Launch} {φ : Nat → Nat} {tc : Nat → ClassId} {D : va_G} {s0 : State} {dR : Nat} (C : CX p s m args meth c φ tc D s0 cX12_becomes RX12 3) (hd : G12_becomes_dep ≤ dR) (hr : meth.sig.returnType = none) {a0 : Nat} {a1 : Nat}  {Q : MM → Prop} {K2 : Int32 × MM → Prop} {x : Int32 × MM} (o_a0 : Ob a0 13) (o_a1 : Ob a1 13)  (hK2 : ∀ (z2 : Int32) (zμ : MM), K2 (z2, zμ) → WX p l e (rmX dR) s m args below meth c φ tc D 3 (MQ below (QX φ tc D (QV Q)) args s 0 0 (AX φ)) 2 [(0, .ref a0), (1, .ref a1), (2, .int z2)] [] zμ) (h : G12_becomes_L2 a0 a1 Q K2 x) : WX p l e (rmX dR) s m args below meth c φ tc D 3 (MQ below (QX φ tc D (QV Q)) args s 0 0 (AX φ)) 2 [(0, .ref a0), (1, .ref a1), (2, .int x.1)] [] x.2 := by
  unfold G12_becomes_L2 at h
  refine x_iload_n C rfl 2 rfl dX12_becomes_2 ?_
  refine x_aload_n C rfl 1 rfl dX12_becomes_3 ?_
  refine x_iconst (v := 0) C (by decide) dX12_becomes_4 ?_
  obtain ⟨c5, h⟩ := h
  refine x_iald C o_a1.1 o_a1.2 c5 (j := 0) (by decide) dX12_becomes_5 ?_
  refine x_icmp_gt (tgt := 21) C dX12_becomes_6 (by decide) (fun c6 => ?_) (fun c6 => ?_)
  · have h := h.1 c6
    exact x_vret C hr dX12_becomes_21 ⟨rfl, h⟩
  · have h := h.2 c6
    refine x_aload_n C rfl 0 rfl dX12_becomes_9 ?_
    refine x_iload_n C rfl 2 rfl dX12_becomes_10 ?_
    refine x_aload_n C rfl 1 rfl dX12_becomes_11 ?_
    refine x_iload_n C rfl 2 rfl dX12_becomes_12 ?_
    obtain ⟨c7, h⟩ := h
    refine x_iald C o_a1.1 o_a1.2 c7 rfl dX12_becomes_13 ?_
    obtain ⟨c8, h⟩ := h
    refine x_iast C o_a0.1 o_a0.2 c8 rfl dX12_becomes_14 ?_
    refine x_mu (fun μ9 e_μ9 => ?_)
    have h := h μ9 e_μ9
    refine x_iinc (v := (x.1 + 1)) C [(2, .int (x.1 + 1)), (0, .ref a0), (1, .ref a1)] 2 rfl (congrArg (fun z => x.1 + z) (by decide : Int32.ofInt (1) = 1)) (Nat.le_of_ble_eq_true rfl) rfl dX12_becomes_15 ?_
    refine x_goto (tgt := 2) C dX12_becomes_18 (by decide) ?_
    refine x_sub [(0, .ref a0), (1, .ref a1), (2, .int (x.1 + 1))] [1, 2, 0] rfl ?_
    exact hK2 _ _ h
theorem G12_becomes_L2_ok {p : Program} {e : Env} {s : State} {m : MethodId} {args : Array Value} {below : List Frame} {meth : Method} {c : Code} {l : Launch} {φ : Nat → Nat} {tc : Nat → ClassId} {D : va_G} {s0 : State} {dR : Nat} (C : CX p s m args meth c φ tc D s0 cX12_becomes RX12 3) (hd : G12_becomes_dep ≤ dR) (hr : meth.sig.returnType = none) {a0 : Nat} {a1 : Nat}  {Q : MM → Prop}  {x : Int32 × MM} (o_a0 : Ob a0 13) (o_a1 : Ob a1 13)   (h : Lp (G12_becomes_L2 a0 a1 Q) x) : WX p l e (rmX dR) s m args below meth c φ tc D 3 (MQ below (QX φ tc D (QV Q)) args s 0 0 (AX φ)) 2 [(0, .ref a0), (1, .ref a1), (2, .int x.1)] [] x.2 := by
  obtain ⟨n, h⟩ := h
  induction n generalizing x with
  | zero => exact h.elim
  | succ n ih => exact G12_becomes_L2_b C hd hr o_a0 o_a1  (fun z2 zμ hz => by have q := ih hz; exact q) h
set_option maxHeartbeats 4000000 in
set_option maxRecDepth 100000 in
theorem G12_becomes_met {l : Launch} {φ : Nat → Nat} {tc : Nat → ClassId} {D : va_G} {s0 : State} (hG : GX φ tc D s0) {dR : Nat} (hd : G12_becomes_dep ≤ dR) {a0 : Nat} {a1 : Nat} {μ : MM} {Q : MM → Prop} (o_a0 : Ob a0 13) (o_a1 : Ob a1 13) (h : G12_becomes a0 a1 μ Q) : MX l φ tc D s0 dR yX12_becomes cX12_becomes 3 none [.ref a0, .ref a1] μ (QV Q) := by
  refine MX.of (own := RX12) hG plX12 rfl (Nat.le_of_ble_eq_true rfl) (fun p e s m args below meth c C hr => ?_)
  refine x_sub [(0, .ref a0), (1, .ref a1)] [0, 1] rfl ?_
  unfold G12_becomes at h
  refine x_iconst (v := 0) C (by decide) dX12_becomes_0 ?_
  refine x_istore_n C [(2, .int 0), (0, .ref a0), (1, .ref a1)] rfl (Nat.le_of_ble_eq_true rfl) rfl dX12_becomes_1 ?_
  refine x_sub [(0, .ref a0), (1, .ref a1), (2, .int 0)] [1, 2, 0] rfl ?_
  exact G12_becomes_L2_ok C hd hr o_a0 o_a1 h
set_option maxHeartbeats 4000000 in
set_option maxRecDepth 100000 in
theorem G12_isSmall_met {l : Launch} {φ : Nat → Nat} {tc : Nat → ClassId} {D : va_G} {s0 : State} (hG : GX φ tc D s0) {dR : Nat} (hd : G12_isSmall_dep ≤ dR) {a0 : Nat} {v1 : Int32} {μ : MM} {Q : MM → Prop} (o_a0 : Ob a0 13) (h : G12_isSmall a0 v1 μ Q) : MX l φ tc D s0 dR yX12_isSmall cX12_isSmall 2 none [.ref a0, .int v1] μ (QV Q) := by
  refine MX.of (own := RX12) hG plX12 rfl (Nat.le_of_ble_eq_true rfl) (fun p e s m args below meth c C hr => ?_)
  refine x_sub [(0, .ref a0), (1, .int v1)] [0, 1] rfl ?_
  unfold G12_isSmall at h
  refine x_aload_n C rfl 0 rfl dX12_isSmall_0 ?_
  refine x_iconst (v := 0) C (by decide) dX12_isSmall_1 ?_
  refine x_iconst (v := 1) C (by decide) dX12_isSmall_2 ?_
  obtain ⟨c5, h⟩ := h
  refine x_iast C o_a0.1 o_a0.2 c5 (j := 0) (by decide) dX12_isSmall_3 ?_
  refine x_mu (fun μ6 e_μ6 => ?_)
  have h := h μ6 e_μ6
  refine x_aload_n C rfl 0 rfl dX12_isSmall_4 ?_
  refine x_iconst (v := 1) C (by decide) dX12_isSmall_5 ?_
  refine x_iload_n C rfl 1 rfl dX12_isSmall_6 ?_
  obtain ⟨c7, h⟩ := h
  refine x_iast C o_a0.1 o_a0.2 c7 (j := 1) (by decide) dX12_isSmall_7 ?_
  refine x_mu (fun μ8 e_μ8 => ?_)
  have h := h μ8 e_μ8
  exact x_vret C hr dX12_isSmall_8 ⟨rfl, h⟩
set_option maxHeartbeats 4000000 in
set_option maxRecDepth 100000 in
theorem G12_times_L78_b {p : Program} {e : Env} {s : State} {m : MethodId} {args : Array Value} {below : List Frame} {meth : Method} {c : Code} {l : Launch} {φ : Nat → Nat} {tc : Nat → ClassId} {D : va_G} {s0 : State} {dR : Nat} (C : CX p s m args meth c φ tc D s0 cX12_times RX12 6) (hd : G12_times_dep ≤ dR) (hr : meth.sig.returnType = none) {a0 : Nat}  {Q : MM → Prop} {K78 : MM → Prop} {x : MM} (o_a0 : Ob a0 13)  (hK78 : ∀ (zμ : MM), K78 zμ → WX p l e (rmX dR) s m args below meth c φ tc D 6 (MQ below (QX φ tc D (QV Q)) args s 0 0 (AX φ)) 78 [(0, .ref a0)] [] zμ) (h : G12_times_L78 a0 Q K78 x) : WX p l e (rmX dR) s m args below meth c φ tc D 6 (MQ below (QX φ tc D (QV Q)) args s 0 0 (AX φ)) 78 [(0, .ref a0)] [] x := by
  unfold G12_times_L78 at h
  refine x_aload_n C rfl 0 rfl dX12_times_78 ?_
  refine x_iconst (v := 0) C (by decide) dX12_times_79 ?_
  obtain ⟨c24, h⟩ := h
  refine x_iald C o_a0.1 o_a0.2 c24 (j := 0) (by decide) dX12_times_80 ?_
  refine x_iconst (v := 1) C (by decide) dX12_times_81 ?_
  refine x_icmp_le (tgt := 103) C dX12_times_82 (by decide) (fun c25 => ?_) (fun c25 => ?_)
  · have h := h.1 c25
    exact x_vret C hr dX12_times_103 ⟨rfl, h⟩
  · have h := h.2 c25
    refine x_aload_n C rfl 0 rfl dX12_times_85 ?_
    refine x_aload_n C rfl 0 rfl dX12_times_86 ?_
    refine x_iconst (v := 0) C (by decide) dX12_times_87 ?_
    obtain ⟨c26, h⟩ := h
    refine x_iald C o_a0.1 o_a0.2 c26 (j := 0) (by decide) dX12_times_88 ?_
    obtain ⟨c27, h⟩ := h
    refine x_iald C o_a0.1 o_a0.2 c27 rfl dX12_times_89 ?_
    refine x_if_ne (tgt := 103) C dX12_times_90 (by decide) (fun c28 => ?_) (fun c28 => ?_)
    · have h := h.1 c28
      exact x_vret C hr dX12_times_103 ⟨rfl, h⟩
    · have h := h.2 c28
      refine x_aload_n C rfl 0 rfl dX12_times_93 ?_
      refine x_iconst (v := 0) C (by decide) dX12_times_94 ?_
      refine x_dup2_11 C rfl rfl dX12_times_95 ?_
      obtain ⟨c29, h⟩ := h
      refine x_iald C o_a0.1 o_a0.2 c29 (j := 0) (by decide) dX12_times_96 ?_
      refine x_iconst (v := 1) C (by decide) dX12_times_97 ?_
      refine x_isub C dX12_times_98 ?_
      obtain ⟨c30, h⟩ := h
      refine x_iast C o_a0.1 o_a0.2 c30 (j := 0) (by decide) dX12_times_99 ?_
      refine x_mu (fun μ31 e_μ31 => ?_)
      have h := h μ31 e_μ31
      refine x_goto (tgt := 78) C dX12_times_100 (by decide) ?_
      exact hK78 _ h
theorem G12_times_L78_ok {p : Program} {e : Env} {s : State} {m : MethodId} {args : Array Value} {below : List Frame} {meth : Method} {c : Code} {l : Launch} {φ : Nat → Nat} {tc : Nat → ClassId} {D : va_G} {s0 : State} {dR : Nat} (C : CX p s m args meth c φ tc D s0 cX12_times RX12 6) (hd : G12_times_dep ≤ dR) (hr : meth.sig.returnType = none) {a0 : Nat}  {Q : MM → Prop}  {x : MM} (o_a0 : Ob a0 13)   (h : Lp (G12_times_L78 a0 Q) x) : WX p l e (rmX dR) s m args below meth c φ tc D 6 (MQ below (QX φ tc D (QV Q)) args s 0 0 (AX φ)) 78 [(0, .ref a0)] [] x := by
  obtain ⟨n, h⟩ := h
  induction n generalizing x with
  | zero => exact h.elim
  | succ n ih => exact G12_times_L78_b C hd hr o_a0  (fun zμ hz => by have q := ih hz; exact q) h
set_option maxHeartbeats 4000000 in
set_option maxRecDepth 100000 in
theorem G12_times_L45_b {p : Program} {e : Env} {s : State} {m : MethodId} {args : Array Value} {below : List Frame} {meth : Method} {c : Code} {l : Launch} {φ : Nat → Nat} {tc : Nat → ClassId} {D : va_G} {s0 : State} {dR : Nat} (C : CX p s m args meth c φ tc D s0 cX12_times RX12 6) (hd : G12_times_dep ≤ dR) (hr : meth.sig.returnType = none) {a0 : Nat}  {Q : MM → Prop} {K45 : Int64 × MM → Prop} {x : Int64 × MM} (o_a0 : Ob a0 13)  (hK45 : ∀ (z3 : Int64) (zμ : MM), K45 (z3, zμ) → WX p l e (rmX dR) s m args below meth c φ tc D 6 (MQ below (QX φ tc D (QV Q)) args s 0 0 (AX φ)) 45 [(0, .ref a0), (3, .long z3)] [] zμ) (h : G12_times_L45 a0 Q K45 x) : WX p l e (rmX dR) s m args below meth c φ tc D 6 (MQ below (QX φ tc D (QV Q)) args s 0 0 (AX φ)) 45 [(0, .ref a0), (3, .long x.1)] [] x.2 := by
  unfold G12_times_L45 at h
  refine x_lload_n C rfl 1 rfl dX12_times_45 ?_
  refine x_lconst (v := 0) C (by decide) dX12_times_46 ?_
  refine x_lcmp C dX12_times_47 ?_
  refine x_if_le (tgt := 78) C dX12_times_48 (by decide) (fun c23 => ?_) (fun c23 => ?_)
  · have h := h.1 c23
    refine x_sub [(0, .ref a0)] [0] rfl ?_
    exact G12_times_L78_ok C hd hr o_a0 h
  · have h := h.2 c23
    refine x_aload_n C rfl 0 rfl dX12_times_51 ?_
    refine x_iconst (v := 0) C (by decide) dX12_times_52 ?_
    refine x_dup2_11 C rfl rfl dX12_times_53 ?_
    obtain ⟨c32, h⟩ := h
    refine x_iald C o_a0.1 o_a0.2 c32 (j := 0) (by decide) dX12_times_54 ?_
    refine x_iconst (v := 1) C (by decide) dX12_times_55 ?_
    refine x_iadd C dX12_times_56 ?_
    obtain ⟨c33, h⟩ := h
    refine x_iast C o_a0.1 o_a0.2 c33 (j := 0) (by decide) dX12_times_57 ?_
    refine x_mu (fun μ34 e_μ34 => ?_)
    have h := h μ34 e_μ34
    refine x_aload_n C rfl 0 rfl dX12_times_58 ?_
    refine x_aload_n C rfl 0 rfl dX12_times_59 ?_
    refine x_iconst (v := 0) C (by decide) dX12_times_60 ?_
    obtain ⟨c35, h⟩ := h
    refine x_iald C o_a0.1 o_a0.2 c35 (j := 0) (by decide) dX12_times_61 ?_
    refine x_lload_n C rfl 1 rfl dX12_times_62 ?_
    refine x_ldc2 (v := 10000) C tw_8_45 dX12_times_63 ?_
    refine x_lrem C (by decide) dX12_times_66 ?_
    refine x_l2i C dX12_times_67 ?_
    obtain ⟨c36, h⟩ := h
    refine x_iast C o_a0.1 o_a0.2 c36 rfl dX12_times_68 ?_
    refine x_mu (fun μ37 e_μ37 => ?_)
    have h := h μ37 e_μ37
    refine x_lload_n C rfl 1 rfl dX12_times_69 ?_
    refine x_ldc2 (v := 10000) C tw_8_45 dX12_times_70 ?_
    refine x_ldiv C (by decide) dX12_times_73 ?_
    refine x_topl (fun y38 e_y38 => ?_)
    have h := h y38 e_y38
    refine x_lstore_n C [(3, .long y38), (0, .ref a0)] rfl (Nat.le_of_ble_eq_true rfl) rfl dX12_times_74 ?_
    refine x_goto (tgt := 45) C dX12_times_75 (by decide) ?_
    refine x_sub [(0, .ref a0), (3, .long y38)] [1, 0] rfl ?_
    exact hK45 _ _ h
theorem G12_times_L45_ok {p : Program} {e : Env} {s : State} {m : MethodId} {args : Array Value} {below : List Frame} {meth : Method} {c : Code} {l : Launch} {φ : Nat → Nat} {tc : Nat → ClassId} {D : va_G} {s0 : State} {dR : Nat} (C : CX p s m args meth c φ tc D s0 cX12_times RX12 6) (hd : G12_times_dep ≤ dR) (hr : meth.sig.returnType = none) {a0 : Nat}  {Q : MM → Prop}  {x : Int64 × MM} (o_a0 : Ob a0 13)   (h : Lp (G12_times_L45 a0 Q) x) : WX p l e (rmX dR) s m args below meth c φ tc D 6 (MQ below (QX φ tc D (QV Q)) args s 0 0 (AX φ)) 45 [(0, .ref a0), (3, .long x.1)] [] x.2 := by
  obtain ⟨n, h⟩ := h
  induction n generalizing x with
  | zero => exact h.elim
  | succ n ih => exact G12_times_L45_b C hd hr o_a0  (fun z3 zμ hz => by have q := ih hz; exact q) h
set_option maxHeartbeats 4000000 in
set_option maxRecDepth 100000 in
theorem G12_times_L5_b {p : Program} {e : Env} {s : State} {m : MethodId} {args : Array Value} {below : List Frame} {meth : Method} {c : Code} {l : Launch} {φ : Nat → Nat} {tc : Nat → ClassId} {D : va_G} {s0 : State} {dR : Nat} (C : CX p s m args meth c φ tc D s0 cX12_times RX12 6) (hd : G12_times_dep ≤ dR) (hr : meth.sig.returnType = none) {a0 : Nat} {p1 : Int64} {Q : MM → Prop} {K5 : Int64 × Int32 × MM → Prop} {x : Int64 × Int32 × MM} (o_a0 : Ob a0 13)  (hK5 : ∀ (z3 : Int64) (z5 : Int32) (zμ : MM), K5 (z3, z5, zμ) → WX p l e (rmX dR) s m args below meth c φ tc D 6 (MQ below (QX φ tc D (QV Q)) args s 0 0 (AX φ)) 5 [(0, .ref a0), (1, .long p1), (3, .long z3), (5, .int z5)] [] zμ) (h : G12_times_L5 a0 p1 Q K5 x) : WX p l e (rmX dR) s m args below meth c φ tc D 6 (MQ below (QX φ tc D (QV Q)) args s 0 0 (AX φ)) 5 [(0, .ref a0), (1, .long p1), (3, .long x.1), (5, .int x.2.1)] [] x.2.2 := by
  unfold G12_times_L5 at h
  refine x_iload C 3 rfl dX12_times_5 ?_
  refine x_aload_n C rfl 0 rfl dX12_times_7 ?_
  refine x_iconst (v := 0) C (by decide) dX12_times_8 ?_
  obtain ⟨c21, h⟩ := h
  refine x_iald C o_a0.1 o_a0.2 c21 (j := 0) (by decide) dX12_times_9 ?_
  refine x_icmp_gt (tgt := 45) C dX12_times_10 (by decide) (fun c22 => ?_) (fun c22 => ?_)
  · have h := h.1 c22
    refine x_sub [(0, .ref a0), (3, .long x.1)] [0, 2] rfl ?_
    exact G12_times_L45_ok C hd hr o_a0 h
  · have h := h.2 c22
    refine x_lload_n C rfl 2 rfl dX12_times_13 ?_
    refine x_aload_n C rfl 0 rfl dX12_times_14 ?_
    refine x_iload C 3 rfl dX12_times_15 ?_
    obtain ⟨c39, h⟩ := h
    refine x_iald C o_a0.1 o_a0.2 c39 rfl dX12_times_17 ?_
    refine x_i2l C dX12_times_18 ?_
    refine x_lload_n C rfl 1 rfl dX12_times_19 ?_
    refine x_lmul C dX12_times_20 ?_
    refine x_ladd C dX12_times_21 ?_
    refine x_topl (fun y40 e_y40 => ?_)
    have h := h y40 e_y40
    refine x_lstore_n C [(3, .long y40), (0, .ref a0), (1, .long p1), (5, .int x.2.1)] rfl (Nat.le_of_ble_eq_true rfl) rfl dX12_times_22 ?_
    refine x_aload_n C rfl 1 rfl dX12_times_23 ?_
    refine x_iload C 3 rfl dX12_times_24 ?_
    refine x_lload_n C rfl 0 rfl dX12_times_26 ?_
    refine x_ldc2 (v := 10000) C tw_8_45 dX12_times_27 ?_
    refine x_lrem C (by decide) dX12_times_30 ?_
    refine x_l2i C dX12_times_31 ?_
    obtain ⟨c41, h⟩ := h
    refine x_iast C o_a0.1 o_a0.2 c41 rfl dX12_times_32 ?_
    refine x_mu (fun μ42 e_μ42 => ?_)
    have h := h μ42 e_μ42
    refine x_lload_n C rfl 0 rfl dX12_times_33 ?_
    refine x_ldc2 (v := 10000) C tw_8_45 dX12_times_34 ?_
    refine x_ldiv C (by decide) dX12_times_37 ?_
    refine x_topl (fun y43 e_y43 => ?_)
    have h := h y43 e_y43
    refine x_lstore_n C [(3, .long y43), (0, .ref a0), (1, .long p1), (5, .int x.2.1)] rfl (Nat.le_of_ble_eq_true rfl) rfl dX12_times_38 ?_
    refine x_iinc (v := (x.2.1 + 1)) C [(5, .int (x.2.1 + 1)), (3, .long y43), (0, .ref a0), (1, .long p1)] 3 rfl (congrArg (fun z => x.2.1 + z) (by decide : Int32.ofInt (1) = 1)) (Nat.le_of_ble_eq_true rfl) rfl dX12_times_39 ?_
    refine x_goto (tgt := 5) C dX12_times_42 (by decide) ?_
    refine x_sub [(0, .ref a0), (1, .long p1), (3, .long y43), (5, .int (x.2.1 + 1))] [2, 3, 1, 0] rfl ?_
    exact hK5 _ _ _ h
theorem G12_times_L5_ok {p : Program} {e : Env} {s : State} {m : MethodId} {args : Array Value} {below : List Frame} {meth : Method} {c : Code} {l : Launch} {φ : Nat → Nat} {tc : Nat → ClassId} {D : va_G} {s0 : State} {dR : Nat} (C : CX p s m args meth c φ tc D s0 cX12_times RX12 6) (hd : G12_times_dep ≤ dR) (hr : meth.sig.returnType = none) {a0 : Nat} {p1 : Int64} {Q : MM → Prop}  {x : Int64 × Int32 × MM} (o_a0 : Ob a0 13)   (h : Lp (G12_times_L5 a0 p1 Q) x) : WX p l e (rmX dR) s m args below meth c φ tc D 6 (MQ below (QX φ tc D (QV Q)) args s 0 0 (AX φ)) 5 [(0, .ref a0), (1, .long p1), (3, .long x.1), (5, .int x.2.1)] [] x.2.2 := by
  obtain ⟨n, h⟩ := h
  induction n generalizing x with
  | zero => exact h.elim
  | succ n ih => exact G12_times_L5_b C hd hr o_a0  (fun z3 z5 zμ hz => by have q := ih hz; exact q) h
set_option maxHeartbeats 4000000 in
set_option maxRecDepth 100000 in
theorem G12_times_met {l : Launch} {φ : Nat → Nat} {tc : Nat → ClassId} {D : va_G} {s0 : State} (hG : GX φ tc D s0) {dR : Nat} (hd : G12_times_dep ≤ dR) {a0 : Nat} {v1 : Int64} {μ : MM} {Q : MM → Prop} (o_a0 : Ob a0 13) (h : G12_times a0 v1 μ Q) : MX l φ tc D s0 dR yX12_times cX12_times 6 none [.ref a0, .long v1] μ (QV Q) := by
  refine MX.of (own := RX12) hG plX12 rfl (Nat.le_of_ble_eq_true rfl) (fun p e s m args below meth c C hr => ?_)
  refine x_sub [(0, .ref a0), (1, .long v1)] [0, 1] rfl ?_
  unfold G12_times at h
  refine x_lconst (v := 0) C (by decide) dX12_times_0 ?_
  refine x_lstore_n C [(3, .long 0), (0, .ref a0), (1, .long v1)] rfl (Nat.le_of_ble_eq_true rfl) rfl dX12_times_1 ?_
  refine x_iconst (v := 1) C (by decide) dX12_times_2 ?_
  refine x_istore C [(5, .int 1), (3, .long 0), (0, .ref a0), (1, .long v1)] (Nat.le_of_ble_eq_true rfl) rfl dX12_times_3 ?_
  refine x_sub [(0, .ref a0), (1, .long v1), (3, .long 0), (5, .int 1)] [2, 3, 1, 0] rfl ?_
  exact G12_times_L5_ok C hd hr o_a0 h
set_option maxHeartbeats 4000000 in
set_option maxRecDepth 100000 in
theorem G12_adds_J53_ok {p : Program} {e : Env} {s : State} {m : MethodId} {args : Array Value} {below : List Frame} {meth : Method} {c : Code} {l : Launch} {φ : Nat → Nat} {tc : Nat → ClassId} {D : va_G} {s0 : State} {dR : Nat} (C : CX p s m args meth c φ tc D s0 cX12_adds RX12 6) (hd : G12_adds_dep ≤ dR) (hr : meth.sig.returnType = none) {a0 : Nat} {a1 : Nat} {p2 : Int32} {p3 : Int32} {p4 : Int32} {q0 : Int32} {q1 : Int32} {Q : MM → Prop} {K15 : Int32 × Int32 × MM → Prop} {μ : MM} (o_a0 : Ob a0 13) (o_a1 : Ob a1 13)  (hK15 : ∀ (z3 : Int32) (z4 : Int32) (zμ : MM), K15 (z3, z4, zμ) → WX p l e (rmX dR) s m args below meth c φ tc D 6 (MQ below (QX φ tc D (QV Q)) args s 0 0 (AX φ)) 15 [(0, .ref a0), (1, .ref a1), (2, .int p2), (3, .int z3), (4, .int z4)] [] zμ) (h : G12_adds_J53 a0 a1 p2 p3 p4 q0 q1 μ K15 Q) : WX p l e (rmX dR) s m args below meth c φ tc D 6 (MQ below (QX φ tc D (QV Q)) args s 0 0 (AX φ)) 53 [(0, .ref a0), (1, .ref a1), (2, .int p2), (3, .int p3), (4, .int p4)] [.int q0, .int q1] μ := by
  unfold G12_adds_J53 at h
  refine x_iadd C dX12_adds_53 ?_
  refine x_iload_n C rfl 3 rfl dX12_adds_54 ?_
  refine x_iadd C dX12_adds_55 ?_
  refine x_topi (fun y36 e_y36 => ?_)
  have h := h y36 e_y36
  refine x_istore C [(5, .int y36), (0, .ref a0), (1, .ref a1), (2, .int p2), (3, .int p3), (4, .int p4)] (Nat.le_of_ble_eq_true rfl) rfl dX12_adds_56 ?_
  refine x_aload_n C rfl 1 rfl dX12_adds_58 ?_
  refine x_iload C 5 rfl dX12_adds_59 ?_
  refine x_iload C 0 rfl dX12_adds_61 ?_
  refine x_sipush (v := 10000) C (by decide) dX12_adds_63 ?_
  refine x_irem C (by decide) dX12_adds_66 ?_
  obtain ⟨c37, h⟩ := h
  refine x_iast C o_a0.1 o_a0.2 c37 rfl dX12_adds_67 ?_
  refine x_mu (fun μ38 e_μ38 => ?_)
  have h := h μ38 e_μ38
  refine x_iload C 0 rfl dX12_adds_68 ?_
  refine x_sipush (v := 10000) C (by decide) dX12_adds_70 ?_
  refine x_idiv C (by decide) dX12_adds_73 ?_
  refine x_topi (fun y39 e_y39 => ?_)
  have h := h y39 e_y39
  refine x_istore_n C [(3, .int y39), (5, .int y36), (0, .ref a0), (1, .ref a1), (2, .int p2), (4, .int p4)] rfl (Nat.le_of_ble_eq_true rfl) rfl dX12_adds_74 ?_
  refine x_iinc (v := (p4 + 1)) C [(4, .int (p4 + 1)), (3, .int y39), (5, .int y36), (0, .ref a0), (1, .ref a1), (2, .int p2)] 5 rfl (congrArg (fun z => p4 + z) (by decide : Int32.ofInt (1) = 1)) (Nat.le_of_ble_eq_true rfl) rfl dX12_adds_75 ?_
  refine x_goto (tgt := 15) C dX12_adds_78 (by decide) ?_
  refine x_sub [(0, .ref a0), (1, .ref a1), (2, .int p2), (3, .int y39), (4, .int (p4 + 1))] [3, 4, 5, 1, 0] rfl ?_
  exact hK15 _ _ _ h
set_option maxHeartbeats 4000000 in
set_option maxRecDepth 100000 in
theorem G12_adds_J37_ok {p : Program} {e : Env} {s : State} {m : MethodId} {args : Array Value} {below : List Frame} {meth : Method} {c : Code} {l : Launch} {φ : Nat → Nat} {tc : Nat → ClassId} {D : va_G} {s0 : State} {dR : Nat} (C : CX p s m args meth c φ tc D s0 cX12_adds RX12 6) (hd : G12_adds_dep ≤ dR) (hr : meth.sig.returnType = none) {a0 : Nat} {a1 : Nat} {p2 : Int32} {p3 : Int32} {p4 : Int32} {q0 : Int32} {Q : MM → Prop} {K15 : Int32 × Int32 × MM → Prop} {μ : MM} (o_a0 : Ob a0 13) (o_a1 : Ob a1 13)  (hK15 : ∀ (z3 : Int32) (z4 : Int32) (zμ : MM), K15 (z3, z4, zμ) → WX p l e (rmX dR) s m args below meth c φ tc D 6 (MQ below (QX φ tc D (QV Q)) args s 0 0 (AX φ)) 15 [(0, .ref a0), (1, .ref a1), (2, .int p2), (3, .int z3), (4, .int z4)] [] zμ) (h : G12_adds_J37 a0 a1 p2 p3 p4 q0 μ K15 Q) : WX p l e (rmX dR) s m args below meth c φ tc D 6 (MQ below (QX φ tc D (QV Q)) args s 0 0 (AX φ)) 37 [(0, .ref a0), (1, .ref a1), (2, .int p2), (3, .int p3), (4, .int p4)] [.int q0] μ := by
  unfold G12_adds_J37 at h
  refine x_iload C 4 rfl dX12_adds_37 ?_
  refine x_aload_n C rfl 1 rfl dX12_adds_39 ?_
  refine x_iconst (v := 0) C (by decide) dX12_adds_40 ?_
  obtain ⟨c34, h⟩ := h
  refine x_iald C o_a1.1 o_a1.2 c34 (j := 0) (by decide) dX12_adds_41 ?_
  refine x_icmp_gt (tgt := 52) C dX12_adds_42 (by decide) (fun c35 => ?_) (fun c35 => ?_)
  · have h := h.1 c35
    refine x_iconst (v := 0) C (by decide) dX12_adds_52 ?_
    exact G12_adds_J53_ok C hd hr o_a0 o_a1 hK15 h
  · have h := h.2 c35
    refine x_aload_n C rfl 1 rfl dX12_adds_45 ?_
    refine x_iload C 4 rfl dX12_adds_46 ?_
    obtain ⟨c40, h⟩ := h
    refine x_iald C o_a1.1 o_a1.2 c40 rfl dX12_adds_48 ?_
    refine x_goto (tgt := 53) C dX12_adds_49 (by decide) ?_
    exact G12_adds_J53_ok C hd hr o_a0 o_a1 hK15 h
set_option maxHeartbeats 4000000 in
set_option maxRecDepth 100000 in
theorem G12_adds_L15_b {p : Program} {e : Env} {s : State} {m : MethodId} {args : Array Value} {below : List Frame} {meth : Method} {c : Code} {l : Launch} {φ : Nat → Nat} {tc : Nat → ClassId} {D : va_G} {s0 : State} {dR : Nat} (C : CX p s m args meth c φ tc D s0 cX12_adds RX12 6) (hd : G12_adds_dep ≤ dR) (hr : meth.sig.returnType = none) {a0 : Nat} {a1 : Nat} {p2 : Int32} {Q : MM → Prop} {K15 : Int32 × Int32 × MM → Prop} {x : Int32 × Int32 × MM} (o_a0 : Ob a0 13) (o_a1 : Ob a1 13)  (hK15 : ∀ (z3 : Int32) (z4 : Int32) (zμ : MM), K15 (z3, z4, zμ) → WX p l e (rmX dR) s m args below meth c φ tc D 6 (MQ below (QX φ tc D (QV Q)) args s 0 0 (AX φ)) 15 [(0, .ref a0), (1, .ref a1), (2, .int p2), (3, .int z3), (4, .int z4)] [] zμ) (h : G12_adds_L15 a0 a1 p2 Q K15 x) : WX p l e (rmX dR) s m args below meth c φ tc D 6 (MQ below (QX φ tc D (QV Q)) args s 0 0 (AX φ)) 15 [(0, .ref a0), (1, .ref a1), (2, .int p2), (3, .int x.1), (4, .int x.2.1)] [] x.2.2 := by
  unfold G12_adds_L15 at h
  refine x_iload C 4 rfl dX12_adds_15 ?_
  refine x_iload_n C rfl 2 rfl dX12_adds_17 ?_
  refine x_icmp_gt (tgt := 81) C dX12_adds_18 (by decide) (fun c22 => ?_) (fun c22 => ?_)
  · have h := h.1 c22
    refine x_aload_n C rfl 0 rfl dX12_adds_81 ?_
    refine x_iconst (v := 0) C (by decide) dX12_adds_82 ?_
    refine x_iload_n C rfl 2 rfl dX12_adds_83 ?_
    obtain ⟨c23, h⟩ := h
    refine x_iast C o_a0.1 o_a0.2 c23 (j := 0) (by decide) dX12_adds_84 ?_
    refine x_mu (fun μ24 e_μ24 => ?_)
    have h := h μ24 e_μ24
    refine x_iload_n C rfl 3 rfl dX12_adds_85 ?_
    refine x_if_le (tgt := 102) C dX12_adds_86 (by decide) (fun c25 => ?_) (fun c25 => ?_)
    · have h := h.1 c25
      exact x_vret C hr dX12_adds_102 ⟨rfl, h⟩
    · have h := h.2 c25
      refine x_aload_n C rfl 0 rfl dX12_adds_89 ?_
      refine x_iconst (v := 0) C (by decide) dX12_adds_90 ?_
      refine x_dup2_11 C rfl rfl dX12_adds_91 ?_
      obtain ⟨c26, h⟩ := h
      refine x_iald C o_a0.1 o_a0.2 c26 (j := 0) (by decide) dX12_adds_92 ?_
      refine x_iconst (v := 1) C (by decide) dX12_adds_93 ?_
      refine x_iadd C dX12_adds_94 ?_
      obtain ⟨c27, h⟩ := h
      refine x_iast C o_a0.1 o_a0.2 c27 (j := 0) (by decide) dX12_adds_95 ?_
      refine x_mu (fun μ28 e_μ28 => ?_)
      have h := h μ28 e_μ28
      refine x_aload_n C rfl 0 rfl dX12_adds_96 ?_
      refine x_aload_n C rfl 0 rfl dX12_adds_97 ?_
      refine x_iconst (v := 0) C (by decide) dX12_adds_98 ?_
      obtain ⟨c29, h⟩ := h
      refine x_iald C o_a0.1 o_a0.2 c29 (j := 0) (by decide) dX12_adds_99 ?_
      refine x_iload_n C rfl 3 rfl dX12_adds_100 ?_
      obtain ⟨c30, h⟩ := h
      refine x_iast C o_a0.1 o_a0.2 c30 rfl dX12_adds_101 ?_
      refine x_mu (fun μ31 e_μ31 => ?_)
      have h := h μ31 e_μ31
      exact x_vret C hr dX12_adds_102 ⟨rfl, h⟩
  · have h := h.2 c22
    refine x_iload C 4 rfl dX12_adds_21 ?_
    refine x_aload_n C rfl 0 rfl dX12_adds_23 ?_
    refine x_iconst (v := 0) C (by decide) dX12_adds_24 ?_
    obtain ⟨c32, h⟩ := h
    refine x_iald C o_a0.1 o_a0.2 c32 (j := 0) (by decide) dX12_adds_25 ?_
    refine x_icmp_gt (tgt := 36) C dX12_adds_26 (by decide) (fun c33 => ?_) (fun c33 => ?_)
    · have h := h.1 c33
      refine x_iconst (v := 0) C (by decide) dX12_adds_36 ?_
      exact G12_adds_J37_ok C hd hr o_a0 o_a1 hK15 h
    · have h := h.2 c33
      refine x_aload_n C rfl 0 rfl dX12_adds_29 ?_
      refine x_iload C 4 rfl dX12_adds_30 ?_
      obtain ⟨c41, h⟩ := h
      refine x_iald C o_a0.1 o_a0.2 c41 rfl dX12_adds_32 ?_
      refine x_goto (tgt := 37) C dX12_adds_33 (by decide) ?_
      exact G12_adds_J37_ok C hd hr o_a0 o_a1 hK15 h
theorem G12_adds_L15_ok {p : Program} {e : Env} {s : State} {m : MethodId} {args : Array Value} {below : List Frame} {meth : Method} {c : Code} {l : Launch} {φ : Nat → Nat} {tc : Nat → ClassId} {D : va_G} {s0 : State} {dR : Nat} (C : CX p s m args meth c φ tc D s0 cX12_adds RX12 6) (hd : G12_adds_dep ≤ dR) (hr : meth.sig.returnType = none) {a0 : Nat} {a1 : Nat} {p2 : Int32} {Q : MM → Prop}  {x : Int32 × Int32 × MM} (o_a0 : Ob a0 13) (o_a1 : Ob a1 13)   (h : Lp (G12_adds_L15 a0 a1 p2 Q) x) : WX p l e (rmX dR) s m args below meth c φ tc D 6 (MQ below (QX φ tc D (QV Q)) args s 0 0 (AX φ)) 15 [(0, .ref a0), (1, .ref a1), (2, .int p2), (3, .int x.1), (4, .int x.2.1)] [] x.2.2 := by
  obtain ⟨n, h⟩ := h
  induction n generalizing x with
  | zero => exact h.elim
  | succ n ih => exact G12_adds_L15_b C hd hr o_a0 o_a1  (fun z3 z4 zμ hz => by have q := ih hz; exact q) h
set_option maxHeartbeats 4000000 in
set_option maxRecDepth 100000 in
theorem G12_adds_met {l : Launch} {φ : Nat → Nat} {tc : Nat → ClassId} {D : va_G} {s0 : State} (hG : GX φ tc D s0) {dR : Nat} (hd : G12_adds_dep ≤ dR) {a0 : Nat} {a1 : Nat} {μ : MM} {Q : MM → Prop} (o_a0 : Ob a0 13) (o_a1 : Ob a1 13) (h : G12_adds a0 a1 μ Q) : MX l φ tc D s0 dR yX12_adds cX12_adds 6 none [.ref a0, .ref a1] μ (QV Q) := by
  refine MX.of (own := RX12) hG plX12 rfl (Nat.le_of_ble_eq_true rfl) (fun p e s m args below meth c C hr => ?_)
  refine x_sub [(0, .ref a0), (1, .ref a1)] [0, 1] rfl ?_
  unfold G12_adds at h
  refine x_aload_n C rfl 0 rfl dX12_adds_0 ?_
  refine x_iconst (v := 0) C (by decide) dX12_adds_1 ?_
  obtain ⟨c19, h⟩ := h
  refine x_iald C o_a0.1 o_a0.2 c19 (j := 0) (by decide) dX12_adds_2 ?_
  refine x_aload_n C rfl 1 rfl dX12_adds_3 ?_
  refine x_iconst (v := 0) C (by decide) dX12_adds_4 ?_
  obtain ⟨c20, h⟩ := h
  refine x_iald C o_a1.1 o_a1.2 c20 (j := 0) (by decide) dX12_adds_5 ?_
  refine x_mmax C rfl (Nat.le_trans (Nat.le_of_ble_eq_true rfl) hd) tw_7_98 tw_3_77 tw_1_20 (Nat.le_of_ble_eq_true rfl) dX12_adds_6 ?_
  refine x_topi (fun y21 e_y21 => ?_)
  have h := h y21 e_y21
  refine x_istore_n C [(2, .int y21), (0, .ref a0), (1, .ref a1)] rfl (Nat.le_of_ble_eq_true rfl) rfl dX12_adds_9 ?_
  refine x_iconst (v := 0) C (by decide) dX12_adds_10 ?_
  refine x_istore_n C [(3, .int 0), (2, .int y21), (0, .ref a0), (1, .ref a1)] rfl (Nat.le_of_ble_eq_true rfl) rfl dX12_adds_11 ?_
  refine x_iconst (v := 1) C (by decide) dX12_adds_12 ?_
  refine x_istore C [(4, .int 1), (3, .int 0), (2, .int y21), (0, .ref a0), (1, .ref a1)] (Nat.le_of_ble_eq_true rfl) rfl dX12_adds_13 ?_
  refine x_sub [(0, .ref a0), (1, .ref a1), (2, .int y21), (3, .int 0), (4, .int 1)] [3, 4, 2, 1, 0] rfl ?_
  exact G12_adds_L15_ok C hd hr o_a0 o_a1 h
set_option maxHeartbeats 4000000 in
set_option maxRecDepth 100000 in
theorem G12_comparesGreat_L28_b {p : Program} {e : Env} {s : State} {m : MethodId} {args : Array Value} {below : List Frame} {meth : Method} {c : Code} {l : Launch} {φ : Nat → Nat} {tc : Nat → ClassId} {D : va_G} {s0 : State} {dR : Nat} (C : CX p s m args meth c φ tc D s0 cX12_comparesGreat RX12 3) (hd : G12_comparesGreat_dep ≤ dR) (hr : meth.sig.returnType = (some .int)) {a0 : Nat} {a1 : Nat}  {Q : Int32 → MM → Prop} {K28 : Int32 × MM → Prop} {x : Int32 × MM} (o_a0 : Ob a0 13) (o_a1 : Ob a1 13)  (hK28 : ∀ (z2 : Int32) (zμ : MM), K28 (z2, zμ) → WX p l e (rmX dR) s m args below meth c φ tc D 3 (MQ below (QX φ tc D (QI Q)) args s 0 0 (AX φ)) 28 [(0, .ref a0), (1, .ref a1), (2, .int z2)] [] zμ) (h : G12_comparesGreat_L28 a0 a1 Q K28 x) : WX p l e (rmX dR) s m args below meth c φ tc D 3 (MQ below (QX φ tc D (QI Q)) args s 0 0 (AX φ)) 28 [(0, .ref a0), (1, .ref a1), (2, .int x.1)] [] x.2 := by
  unfold G12_comparesGreat_L28 at h
  refine x_iload_n C rfl 2 rfl dX12_comparesGreat_28 ?_
  refine x_if_le (tgt := 62) C dX12_comparesGreat_29 (by decide) (fun c15 => ?_) (fun c15 => ?_)
  · have h := h.1 c15
    refine x_iconst (v := 0) C (by decide) dX12_comparesGreat_62 ?_
    exact x_iret C hr dX12_comparesGreat_63 ⟨_, rfl, h⟩
  · have h := h.2 c15
    refine x_aload_n C rfl 0 rfl dX12_comparesGreat_32 ?_
    refine x_iload_n C rfl 2 rfl dX12_comparesGreat_33 ?_
    obtain ⟨c16, h⟩ := h
    refine x_iald C o_a0.1 o_a0.2 c16 rfl dX12_comparesGreat_34 ?_
    refine x_aload_n C rfl 1 rfl dX12_comparesGreat_35 ?_
    refine x_iload_n C rfl 2 rfl dX12_comparesGreat_36 ?_
    obtain ⟨c17, h⟩ := h
    refine x_iald C o_a1.1 o_a1.2 c17 rfl dX12_comparesGreat_37 ?_
    refine x_icmp_eq (tgt := 56) C dX12_comparesGreat_38 (by decide) (fun c18 => ?_) (fun c18 => ?_)
    · have h := h.1 c18
      refine x_iinc (v := (x.1 + (-1))) C [(2, .int (x.1 + (-1))), (0, .ref a0), (1, .ref a1)] 2 rfl (congrArg (fun z => x.1 + z) (by decide : Int32.ofInt (-1) = (-1))) (Nat.le_of_ble_eq_true rfl) rfl dX12_comparesGreat_56 ?_
      refine x_goto (tgt := 28) C dX12_comparesGreat_59 (by decide) ?_
      refine x_sub [(0, .ref a0), (1, .ref a1), (2, .int (x.1 + (-1)))] [1, 2, 0] rfl ?_
      exact hK28 _ _ h
    · have h := h.2 c18
      refine x_aload_n C rfl 0 rfl dX12_comparesGreat_41 ?_
      refine x_iload_n C rfl 2 rfl dX12_comparesGreat_42 ?_
      obtain ⟨c19, h⟩ := h
      refine x_iald C o_a0.1 o_a0.2 c19 rfl dX12_comparesGreat_43 ?_
      refine x_aload_n C rfl 1 rfl dX12_comparesGreat_44 ?_
      refine x_iload_n C rfl 2 rfl dX12_comparesGreat_45 ?_
      obtain ⟨c20, h⟩ := h
      refine x_iald C o_a1.1 o_a1.2 c20 rfl dX12_comparesGreat_46 ?_
      refine x_icmp_ge (tgt := 54) C dX12_comparesGreat_47 (by decide) (fun c21 => ?_) (fun c21 => ?_)
      · have h := h.1 c21
        refine x_iconst (v := 1) C (by decide) dX12_comparesGreat_54 ?_
        exact x_iret C hr dX12_comparesGreat_55 ⟨_, rfl, h⟩
      · have h := h.2 c21
        refine x_iconst (v := (-1)) C (by decide) dX12_comparesGreat_50 ?_
        refine x_goto (tgt := 55) C dX12_comparesGreat_51 (by decide) ?_
        exact x_iret C hr dX12_comparesGreat_55 ⟨_, rfl, h⟩
theorem G12_comparesGreat_L28_ok {p : Program} {e : Env} {s : State} {m : MethodId} {args : Array Value} {below : List Frame} {meth : Method} {c : Code} {l : Launch} {φ : Nat → Nat} {tc : Nat → ClassId} {D : va_G} {s0 : State} {dR : Nat} (C : CX p s m args meth c φ tc D s0 cX12_comparesGreat RX12 3) (hd : G12_comparesGreat_dep ≤ dR) (hr : meth.sig.returnType = (some .int)) {a0 : Nat} {a1 : Nat}  {Q : Int32 → MM → Prop}  {x : Int32 × MM} (o_a0 : Ob a0 13) (o_a1 : Ob a1 13)   (h : Lp (G12_comparesGreat_L28 a0 a1 Q) x) : WX p l e (rmX dR) s m args below meth c φ tc D 3 (MQ below (QX φ tc D (QI Q)) args s 0 0 (AX φ)) 28 [(0, .ref a0), (1, .ref a1), (2, .int x.1)] [] x.2 := by
  obtain ⟨n, h⟩ := h
  induction n generalizing x with
  | zero => exact h.elim
  | succ n ih => exact G12_comparesGreat_L28_b C hd hr o_a0 o_a1  (fun z2 zμ hz => by have q := ih hz; exact q) h
set_option maxHeartbeats 4000000 in
set_option maxRecDepth 100000 in
theorem G12_comparesGreat_met {l : Launch} {φ : Nat → Nat} {tc : Nat → ClassId} {D : va_G} {s0 : State} (hG : GX φ tc D s0) {dR : Nat} (hd : G12_comparesGreat_dep ≤ dR) {a0 : Nat} {a1 : Nat} {μ : MM} {Q : Int32 → MM → Prop} (o_a0 : Ob a0 13) (o_a1 : Ob a1 13) (h : G12_comparesGreat a0 a1 μ Q) : MX l φ tc D s0 dR yX12_comparesGreat cX12_comparesGreat 3 (some .int) [.ref a0, .ref a1] μ (QI Q) := by
  refine MX.of (own := RX12) hG plX12 rfl (Nat.le_of_ble_eq_true rfl) (fun p e s m args below meth c C hr => ?_)
  refine x_sub [(0, .ref a0), (1, .ref a1)] [0, 1] rfl ?_
  unfold G12_comparesGreat at h
  refine x_aload_n C rfl 0 rfl dX12_comparesGreat_0 ?_
  refine x_iconst (v := 0) C (by decide) dX12_comparesGreat_1 ?_
  obtain ⟨c10, h⟩ := h
  refine x_iald C o_a0.1 o_a0.2 c10 (j := 0) (by decide) dX12_comparesGreat_2 ?_
  refine x_aload_n C rfl 1 rfl dX12_comparesGreat_3 ?_
  refine x_iconst (v := 0) C (by decide) dX12_comparesGreat_4 ?_
  obtain ⟨c11, h⟩ := h
  refine x_iald C o_a1.1 o_a1.2 c11 (j := 0) (by decide) dX12_comparesGreat_5 ?_
  refine x_icmp_eq (tgt := 24) C dX12_comparesGreat_6 (by decide) (fun c12 => ?_) (fun c12 => ?_)
  · have h := h.1 c12
    refine x_aload_n C rfl 0 rfl dX12_comparesGreat_24 ?_
    refine x_iconst (v := 0) C (by decide) dX12_comparesGreat_25 ?_
    obtain ⟨c13, h⟩ := h
    refine x_iald C o_a0.1 o_a0.2 c13 (j := 0) (by decide) dX12_comparesGreat_26 ?_
    refine x_topi (fun y14 e_y14 => ?_)
    have h := h y14 e_y14
    refine x_istore_n C [(2, .int y14), (0, .ref a0), (1, .ref a1)] rfl (Nat.le_of_ble_eq_true rfl) rfl dX12_comparesGreat_27 ?_
    refine x_sub [(0, .ref a0), (1, .ref a1), (2, .int y14)] [1, 2, 0] rfl ?_
    exact G12_comparesGreat_L28_ok C hd hr o_a0 o_a1 h
  · have h := h.2 c12
    refine x_aload_n C rfl 0 rfl dX12_comparesGreat_9 ?_
    refine x_iconst (v := 0) C (by decide) dX12_comparesGreat_10 ?_
    obtain ⟨c22, h⟩ := h
    refine x_iald C o_a0.1 o_a0.2 c22 (j := 0) (by decide) dX12_comparesGreat_11 ?_
    refine x_aload_n C rfl 1 rfl dX12_comparesGreat_12 ?_
    refine x_iconst (v := 0) C (by decide) dX12_comparesGreat_13 ?_
    obtain ⟨c23, h⟩ := h
    refine x_iald C o_a1.1 o_a1.2 c23 (j := 0) (by decide) dX12_comparesGreat_14 ?_
    refine x_icmp_ge (tgt := 22) C dX12_comparesGreat_15 (by decide) (fun c24 => ?_) (fun c24 => ?_)
    · have h := h.1 c24
      refine x_iconst (v := 1) C (by decide) dX12_comparesGreat_22 ?_
      exact x_iret C hr dX12_comparesGreat_23 ⟨_, rfl, h⟩
    · have h := h.2 c24
      refine x_iconst (v := (-1)) C (by decide) dX12_comparesGreat_18 ?_
      refine x_goto (tgt := 23) C dX12_comparesGreat_19 (by decide) ?_
      exact x_iret C hr dX12_comparesGreat_23 ⟨_, rfl, h⟩
set_option maxHeartbeats 4000000 in
set_option maxRecDepth 100000 in
theorem G12_fit_L311_b {p : Program} {e : Env} {s : State} {m : MethodId} {args : Array Value} {below : List Frame} {meth : Method} {c : Code} {l : Launch} {φ : Nat → Nat} {tc : Nat → ClassId} {D : va_G} {s0 : State} {dR : Nat} (C : CX p s m args meth c φ tc D s0 cX12_fit RX12 7) (hd : G12_fit_dep ≤ dR) (hr : meth.sig.returnType = (some .int))  {p1 : Int32} {Q : Int32 → MM → Prop} {K311 : Int32 × MM → Prop} {x : Int32 × MM}   (hK311 : ∀ (z2 : Int32) (zμ : MM), K311 (z2, zμ) → WX p l e (rmX dR) s m args below meth c φ tc D 7 (MQ below (QX φ tc D (QI Q)) args s 0 0 (AX φ)) 311 [(0, .ref 358), (1, .int p1), (2, .int z2)] [] zμ) (h : G12_fit_L311 p1 Q K311 x) : WX p l e (rmX dR) s m args below meth c φ tc D 7 (MQ below (QX φ tc D (QI Q)) args s 0 0 (AX φ)) 311 [(0, .ref 358), (1, .int p1), (2, .int x.1)] [] x.2 := by
  unfold G12_fit_L311 at h
  refine x_iload_n C rfl 2 rfl dX12_fit_311 ?_
  refine x_iconst (v := 4) C (by decide) dX12_fit_312 ?_
  refine x_icmp_ge (tgt := 333) C dX12_fit_313 (by decide) (fun c46 => ?_) (fun c46 => ?_)
  · have h := h.1 c46
    refine x_iload_n C rfl 1 rfl dX12_fit_333 ?_
    exact x_iret C hr dX12_fit_334 ⟨_, rfl, h⟩
  · have h := h.2 c46
    refine x_aload_n C rfl 0 rfl dX12_fit_316 ?_
    refine x_aload_n C rfl 0 rfl dX12_fit_317 ?_
    refine x_getR (r := 396) C (j := 54) ob358.1 ob358.2 (Nat.le_of_ble_eq_true rfl) (Nat.le_of_ble_eq_true rfl) (fun _ _ _ => rfl) r_358_54 tw_9_20 dX12_fit_318 ?_
    refine x_iload_n C rfl 2 rfl dX12_fit_321 ?_
    obtain ⟨c47, h⟩ := h
    refine x_iald C ob396.1 ob396.2 c47 rfl dX12_fit_322 ?_
    refine x_i2l C dX12_fit_323 ?_
    refine x_callV (dC := G12_enters_dep) (as := [.long ((gI x.2 396 x.1.toNatClampNeg).toInt64)]) (st := []) C rfl (Nat.le_trans (Nat.le_of_ble_eq_true rfl) hd) (Nat.le_of_ble_eq_true rfl) ob358.1 ob358.2 (Nat.le_of_ble_eq_true rfl) rfl ts_10_1 tw_7_161 tw_7_159 tc_7_162 tw_1_13 hyX12 hnX12_enters rfl (Nat.le_of_ble_eq_true rfl) dX12_fit_324 (G12_enters_met C.2.2.2.2.2.2.2.1 (Nat.le_refl _)  h) (fun r0 μ48 hq => ?_)
    obtain ⟨rfl, h⟩ := hq
    refine x_st [] rfl ?_
    refine x_iinc (v := (x.1 + 1)) C [(2, .int (x.1 + 1)), (0, .ref 358), (1, .int p1)] 2 rfl (congrArg (fun z => x.1 + z) (by decide : Int32.ofInt (1) = 1)) (Nat.le_of_ble_eq_true rfl) rfl dX12_fit_327 ?_
    refine x_goto (tgt := 311) C dX12_fit_330 (by decide) ?_
    refine x_sub [(0, .ref 358), (1, .int p1), (2, .int (x.1 + 1))] [1, 2, 0] rfl ?_
    exact hK311 _ _ h
theorem G12_fit_L311_ok {p : Program} {e : Env} {s : State} {m : MethodId} {args : Array Value} {below : List Frame} {meth : Method} {c : Code} {l : Launch} {φ : Nat → Nat} {tc : Nat → ClassId} {D : va_G} {s0 : State} {dR : Nat} (C : CX p s m args meth c φ tc D s0 cX12_fit RX12 7) (hd : G12_fit_dep ≤ dR) (hr : meth.sig.returnType = (some .int))  {p1 : Int32} {Q : Int32 → MM → Prop}  {x : Int32 × MM}    (h : Lp (G12_fit_L311 p1 Q) x) : WX p l e (rmX dR) s m args below meth c φ tc D 7 (MQ below (QX φ tc D (QI Q)) args s 0 0 (AX φ)) 311 [(0, .ref 358), (1, .int p1), (2, .int x.1)] [] x.2 := by
  obtain ⟨n, h⟩ := h
  induction n generalizing x with
  | zero => exact h.elim
  | succ n ih => exact G12_fit_L311_b C hd hr   (fun z2 zμ hz => by have q := ih hz; exact q) h
set_option maxHeartbeats 4000000 in
set_option maxRecDepth 100000 in
theorem G12_fit_L253_b {p : Program} {e : Env} {s : State} {m : MethodId} {args : Array Value} {below : List Frame} {meth : Method} {c : Code} {l : Launch} {φ : Nat → Nat} {tc : Nat → ClassId} {D : va_G} {s0 : State} {dR : Nat} (C : CX p s m args meth c φ tc D s0 cX12_fit RX12 7) (hd : G12_fit_dep ≤ dR) (hr : meth.sig.returnType = (some .int))  {p1 : Int32} {p2 : Int32} {Q : Int32 → MM → Prop} {K72 : Int32 × MM → Prop} {K253 : Int32 × MM → Prop} {x : Int32 × MM}   (hK72 : ∀ (z2 : Int32) (zμ : MM), K72 (z2, zμ) → WX p l e (rmX dR) s m args below meth c φ tc D 7 (MQ below (QX φ tc D (QI Q)) args s 0 0 (AX φ)) 72 [(0, .ref 358), (1, .int p1), (2, .int z2)] [] zμ) (hK253 : ∀ (z3 : Int32) (zμ : MM), K253 (z3, zμ) → WX p l e (rmX dR) s m args below meth c φ tc D 7 (MQ below (QX φ tc D (QI Q)) args s 0 0 (AX φ)) 253 [(0, .ref 358), (1, .int p1), (2, .int p2), (3, .int z3)] [] zμ) (h : G12_fit_L253 p1 p2 K72 Q K253 x) : WX p l e (rmX dR) s m args below meth c φ tc D 7 (MQ below (QX φ tc D (QI Q)) args s 0 0 (AX φ)) 253 [(0, .ref 358), (1, .int p1), (2, .int p2), (3, .int x.1)] [] x.2 := by
  unfold G12_fit_L253 at h
  refine x_iload_n C rfl 3 rfl dX12_fit_253 ?_
  refine x_iconst (v := 4) C (by decide) dX12_fit_254 ?_
  refine x_icmp_ge (tgt := 276) C dX12_fit_255 (by decide) (fun c62 => ?_) (fun c62 => ?_)
  · have h := h.1 c62
    refine x_iinc (v := (p2 + 1)) C [(2, .int (p2 + 1)), (0, .ref 358), (1, .int p1), (3, .int x.1)] 2 rfl (congrArg (fun z => p2 + z) (by decide : Int32.ofInt (1) = 1)) (Nat.le_of_ble_eq_true rfl) rfl dX12_fit_276 ?_
    refine x_goto (tgt := 72) C dX12_fit_279 (by decide) ?_
    refine x_sub [(0, .ref 358), (1, .int p1), (2, .int (p2 + 1))] [1, 2, 0] rfl ?_
    exact hK72 _ _ h
  · have h := h.2 c62
    refine x_aload_n C rfl 0 rfl dX12_fit_258 ?_
    refine x_getR (r := 396) C (j := 54) ob358.1 ob358.2 (Nat.le_of_ble_eq_true rfl) (Nat.le_of_ble_eq_true rfl) (fun _ _ _ => rfl) r_358_54 tw_9_20 dX12_fit_259 ?_
    refine x_iload_n C rfl 3 rfl dX12_fit_262 ?_
    refine x_aload_n C rfl 0 rfl dX12_fit_263 ?_
    refine x_getR (r := 395) C (j := 53) ob358.1 ob358.2 (Nat.le_of_ble_eq_true rfl) (Nat.le_of_ble_eq_true rfl) (fun _ _ _ => rfl) r_358_53 tw_9_19 dX12_fit_264 ?_
    refine x_iload_n C rfl 3 rfl dX12_fit_267 ?_
    obtain ⟨c63, h⟩ := h
    refine x_iald C ob395.1 ob395.2 c63 rfl dX12_fit_268 ?_
    obtain ⟨c64, h⟩ := h
    refine x_iast C ob396.1 ob396.2 c64 rfl dX12_fit_269 ?_
    refine x_mu (fun μ65 e_μ65 => ?_)
    have h := h μ65 e_μ65
    refine x_iinc (v := (x.1 + 1)) C [(3, .int (x.1 + 1)), (0, .ref 358), (1, .int p1), (2, .int p2)] 3 rfl (congrArg (fun z => x.1 + z) (by decide : Int32.ofInt (1) = 1)) (Nat.le_of_ble_eq_true rfl) rfl dX12_fit_270 ?_
    refine x_goto (tgt := 253) C dX12_fit_273 (by decide) ?_
    refine x_sub [(0, .ref 358), (1, .int p1), (2, .int p2), (3, .int (x.1 + 1))] [1, 2, 3, 0] rfl ?_
    exact hK253 _ _ h
theorem G12_fit_L253_ok {p : Program} {e : Env} {s : State} {m : MethodId} {args : Array Value} {below : List Frame} {meth : Method} {c : Code} {l : Launch} {φ : Nat → Nat} {tc : Nat → ClassId} {D : va_G} {s0 : State} {dR : Nat} (C : CX p s m args meth c φ tc D s0 cX12_fit RX12 7) (hd : G12_fit_dep ≤ dR) (hr : meth.sig.returnType = (some .int))  {p1 : Int32} {p2 : Int32} {Q : Int32 → MM → Prop} {K72 : Int32 × MM → Prop} {x : Int32 × MM}   (hK72 : ∀ (z2 : Int32) (zμ : MM), K72 (z2, zμ) → WX p l e (rmX dR) s m args below meth c φ tc D 7 (MQ below (QX φ tc D (QI Q)) args s 0 0 (AX φ)) 72 [(0, .ref 358), (1, .int p1), (2, .int z2)] [] zμ) (h : Lp (G12_fit_L253 p1 p2 K72 Q) x) : WX p l e (rmX dR) s m args below meth c φ tc D 7 (MQ below (QX φ tc D (QI Q)) args s 0 0 (AX φ)) 253 [(0, .ref 358), (1, .int p1), (2, .int p2), (3, .int x.1)] [] x.2 := by
  obtain ⟨n, h⟩ := h
  induction n generalizing x with
  | zero => exact h.elim
  | succ n ih => exact G12_fit_L253_b C hd hr  hK72 (fun z3 zμ hz => by have q := ih hz; exact q) h
set_option maxHeartbeats 4000000 in
set_option maxRecDepth 100000 in
theorem G12_fit_L174_b {p : Program} {e : Env} {s : State} {m : MethodId} {args : Array Value} {below : List Frame} {meth : Method} {c : Code} {l : Launch} {φ : Nat → Nat} {tc : Nat → ClassId} {D : va_G} {s0 : State} {dR : Nat} (C : CX p s m args meth c φ tc D s0 cX12_fit RX12 7) (hd : G12_fit_dep ≤ dR) (hr : meth.sig.returnType = (some .int))  {p1 : Int32} {p2 : Int32} {p3 : Int32} {Q : Int32 → MM → Prop} {K72 : Int32 × MM → Prop} {K163 : Int32 × MM → Prop} {K174 : Int64 × Int32 × MM → Prop} {x : Int64 × Int32 × MM}   (hK72 : ∀ (z2 : Int32) (zμ : MM), K72 (z2, zμ) → WX p l e (rmX dR) s m args below meth c φ tc D 7 (MQ below (QX φ tc D (QI Q)) args s 0 0 (AX φ)) 72 [(0, .ref 358), (1, .int p1), (2, .int z2)] [] zμ) (hK163 : ∀ (z3 : Int32) (zμ : MM), K163 (z3, zμ) → WX p l e (rmX dR) s m args below meth c φ tc D 7 (MQ below (QX φ tc D (QI Q)) args s 0 0 (AX φ)) 163 [(0, .ref 358), (1, .int p1), (2, .int p2), (3, .int z3)] [] zμ) (hK174 : ∀ (z4 : Int64) (z6 : Int32) (zμ : MM), K174 (z4, z6, zμ) → WX p l e (rmX dR) s m args below meth c φ tc D 7 (MQ below (QX φ tc D (QI Q)) args s 0 0 (AX φ)) 174 [(0, .ref 358), (1, .int p1), (2, .int p2), (3, .int p3), (4, .long z4), (6, .int z6)] [] zμ) (h : G12_fit_L174 p1 p2 p3 K72 K163 Q K174 x) : WX p l e (rmX dR) s m args below meth c φ tc D 7 (MQ below (QX φ tc D (QI Q)) args s 0 0 (AX φ)) 174 [(0, .ref 358), (1, .int p1), (2, .int p2), (3, .int p3), (4, .long x.1), (6, .int x.2.1)] [] x.2.2 := by
  unfold G12_fit_L174 at h
  refine x_iload C 5 rfl dX12_fit_174 ?_
  refine x_iconst (v := 4) C (by decide) dX12_fit_176 ?_
  refine x_icmp_ge (tgt := 211) C dX12_fit_177 (by decide) (fun c66 => ?_) (fun c66 => ?_)
  · have h := h.1 c66
    refine x_aload_n C rfl 0 rfl dX12_fit_211 ?_
    refine x_getR (r := 392) C (j := 50) ob358.1 ob358.2 (Nat.le_of_ble_eq_true rfl) (Nat.le_of_ble_eq_true rfl) (fun _ _ _ => rfl) r_358_50 tw_9_16 dX12_fit_212 ?_
    refine x_lload C 4 rfl dX12_fit_215 ?_
    refine x_callS (dC := G12_times_dep) (as := [.ref 392, .long x.1]) (st := []) C rfl (Nat.le_trans (Nat.le_of_ble_eq_true rfl) hd) (Nat.le_of_ble_eq_true rfl) tw_8_43 tw_8_42 tc_8_44 tw_1_13 hyX12 hnX12_times rfl (Nat.le_of_ble_eq_true rfl) dX12_fit_217 (G12_times_met C.2.2.2.2.2.2.2.1 (Nat.le_refl _) ob392 h) (fun r0 μ67 hq => ?_)
    obtain ⟨rfl, h⟩ := hq
    refine x_st [] rfl ?_
    refine x_iinc (v := (p3 + 1)) C [(3, .int (p3 + 1)), (0, .ref 358), (1, .int p1), (2, .int p2), (4, .long x.1), (6, .int x.2.1)] 3 rfl (congrArg (fun z => p3 + z) (by decide : Int32.ofInt (1) = 1)) (Nat.le_of_ble_eq_true rfl) rfl dX12_fit_220 ?_
    refine x_goto (tgt := 163) C dX12_fit_223 (by decide) ?_
    refine x_sub [(0, .ref 358), (1, .int p1), (2, .int p2), (3, .int (p3 + 1))] [1, 2, 3, 0] rfl ?_
    exact hK163 _ _ h
  · have h := h.2 c66
    refine x_lload C 4 rfl dX12_fit_180 ?_
    refine x_aload_n C rfl 0 rfl dX12_fit_182 ?_
    refine x_getR (r := 395) C (j := 53) ob358.1 ob358.2 (Nat.le_of_ble_eq_true rfl) (Nat.le_of_ble_eq_true rfl) (fun _ _ _ => rfl) r_358_53 tw_9_19 dX12_fit_183 ?_
    refine x_iload C 5 rfl dX12_fit_186 ?_
    obtain ⟨c68, h⟩ := h
    refine x_iald C ob395.1 ob395.2 c68 rfl dX12_fit_188 ?_
    refine x_i2l C dX12_fit_189 ?_
    refine x_aload_n C rfl 0 rfl dX12_fit_190 ?_
    refine x_getR (r := 394) C (j := 52) ob358.1 ob358.2 (Nat.le_of_ble_eq_true rfl) (Nat.le_of_ble_eq_true rfl) (fun _ _ _ => rfl) r_358_52 tw_9_18 dX12_fit_191 ?_
    refine x_iconst (v := 4) C (by decide) dX12_fit_194 ?_
    refine x_iload_n C rfl 3 rfl dX12_fit_195 ?_
    refine x_imul C dX12_fit_196 ?_
    refine x_iload C 5 rfl dX12_fit_197 ?_
    refine x_iadd C dX12_fit_199 ?_
    obtain ⟨c69, h⟩ := h
    refine x_lald C ob394.1 ob394.2 c69 rfl dX12_fit_200 ?_
    refine x_lmul C dX12_fit_201 ?_
    refine x_ladd C dX12_fit_202 ?_
    refine x_topl (fun y70 e_y70 => ?_)
    have h := h y70 e_y70
    refine x_lstore C [(4, .long y70), (0, .ref 358), (1, .int p1), (2, .int p2), (3, .int p3), (6, .int x.2.1)] (Nat.le_of_ble_eq_true rfl) rfl dX12_fit_203 ?_
    refine x_iinc (v := (x.2.1 + 1)) C [(6, .int (x.2.1 + 1)), (4, .long y70), (0, .ref 358), (1, .int p1), (2, .int p2), (3, .int p3)] 5 rfl (congrArg (fun z => x.2.1 + z) (by decide : Int32.ofInt (1) = 1)) (Nat.le_of_ble_eq_true rfl) rfl dX12_fit_205 ?_
    refine x_goto (tgt := 174) C dX12_fit_208 (by decide) ?_
    refine x_sub [(0, .ref 358), (1, .int p1), (2, .int p2), (3, .int p3), (4, .long y70), (6, .int (x.2.1 + 1))] [2, 3, 4, 5, 1, 0] rfl ?_
    exact hK174 _ _ _ h
theorem G12_fit_L174_ok {p : Program} {e : Env} {s : State} {m : MethodId} {args : Array Value} {below : List Frame} {meth : Method} {c : Code} {l : Launch} {φ : Nat → Nat} {tc : Nat → ClassId} {D : va_G} {s0 : State} {dR : Nat} (C : CX p s m args meth c φ tc D s0 cX12_fit RX12 7) (hd : G12_fit_dep ≤ dR) (hr : meth.sig.returnType = (some .int))  {p1 : Int32} {p2 : Int32} {p3 : Int32} {Q : Int32 → MM → Prop} {K72 : Int32 × MM → Prop} {K163 : Int32 × MM → Prop} {x : Int64 × Int32 × MM}   (hK72 : ∀ (z2 : Int32) (zμ : MM), K72 (z2, zμ) → WX p l e (rmX dR) s m args below meth c φ tc D 7 (MQ below (QX φ tc D (QI Q)) args s 0 0 (AX φ)) 72 [(0, .ref 358), (1, .int p1), (2, .int z2)] [] zμ) (hK163 : ∀ (z3 : Int32) (zμ : MM), K163 (z3, zμ) → WX p l e (rmX dR) s m args below meth c φ tc D 7 (MQ below (QX φ tc D (QI Q)) args s 0 0 (AX φ)) 163 [(0, .ref 358), (1, .int p1), (2, .int p2), (3, .int z3)] [] zμ) (h : Lp (G12_fit_L174 p1 p2 p3 K72 K163 Q) x) : WX p l e (rmX dR) s m args below meth c φ tc D 7 (MQ below (QX φ tc D (QI Q)) args s 0 0 (AX φ)) 174 [(0, .ref 358), (1, .int p1), (2, .int p2), (3, .int p3), (4, .long x.1), (6, .int x.2.1)] [] x.2.2 := by
  obtain ⟨n, h⟩ := h
  induction n generalizing x with
  | zero => exact h.elim
  | succ n ih => exact G12_fit_L174_b C hd hr  hK72 hK163 (fun z4 z6 zμ hz => by have q := ih hz; exact q) h
set_option maxHeartbeats 4000000 in
set_option maxRecDepth 100000 in
theorem G12_fit_L163_b {p : Program} {e : Env} {s : State} {m : MethodId} {args : Array Value} {below : List Frame} {meth : Method} {c : Code} {l : Launch} {φ : Nat → Nat} {tc : Nat → ClassId} {D : va_G} {s0 : State} {dR : Nat} (C : CX p s m args meth c φ tc D s0 cX12_fit RX12 7) (hd : G12_fit_dep ≤ dR) (hr : meth.sig.returnType = (some .int))  {p1 : Int32} {p2 : Int32} {Q : Int32 → MM → Prop} {K72 : Int32 × MM → Prop} {K163 : Int32 × MM → Prop} {x : Int32 × MM}   (hK72 : ∀ (z2 : Int32) (zμ : MM), K72 (z2, zμ) → WX p l e (rmX dR) s m args below meth c φ tc D 7 (MQ below (QX φ tc D (QI Q)) args s 0 0 (AX φ)) 72 [(0, .ref 358), (1, .int p1), (2, .int z2)] [] zμ) (hK163 : ∀ (z3 : Int32) (zμ : MM), K163 (z3, zμ) → WX p l e (rmX dR) s m args below meth c φ tc D 7 (MQ below (QX φ tc D (QI Q)) args s 0 0 (AX φ)) 163 [(0, .ref 358), (1, .int p1), (2, .int p2), (3, .int z3)] [] zμ) (h : G12_fit_L163 p1 p2 K72 Q K163 x) : WX p l e (rmX dR) s m args below meth c φ tc D 7 (MQ below (QX φ tc D (QI Q)) args s 0 0 (AX φ)) 163 [(0, .ref 358), (1, .int p1), (2, .int p2), (3, .int x.1)] [] x.2 := by
  unfold G12_fit_L163 at h
  refine x_iload_n C rfl 3 rfl dX12_fit_163 ?_
  refine x_iload_n C rfl 1 rfl dX12_fit_164 ?_
  refine x_icmp_ge (tgt := 226) C dX12_fit_165 (by decide) (fun c57 => ?_) (fun c57 => ?_)
  · have h := h.1 c57
    refine x_aload_n C rfl 0 rfl dX12_fit_226 ?_
    refine x_getR (r := 392) C (j := 50) ob358.1 ob358.2 (Nat.le_of_ble_eq_true rfl) (Nat.le_of_ble_eq_true rfl) (fun _ _ _ => rfl) r_358_50 tw_9_16 dX12_fit_227 ?_
    refine x_aload_n C rfl 0 rfl dX12_fit_230 ?_
    refine x_getR (r := 393) C (j := 51) ob358.1 ob358.2 (Nat.le_of_ble_eq_true rfl) (Nat.le_of_ble_eq_true rfl) (fun _ _ _ => rfl) r_358_51 tw_9_17 dX12_fit_231 ?_
    refine x_callS (dC := G12_comparesGreat_dep) (as := [.ref 392, .ref 393]) (st := []) C rfl (Nat.le_trans (Nat.le_of_ble_eq_true rfl) hd) (Nat.le_of_ble_eq_true rfl) tw_8_47 tw_8_46 tc_8_48 tw_1_13 hyX12 hnX12_comparesGreat rfl (Nat.le_of_ble_eq_true rfl) dX12_fit_234 (G12_comparesGreat_met C.2.2.2.2.2.2.2.1 (Nat.le_refl _) ob392 ob393 h) (fun r0 μ58 hq => ?_)
    obtain ⟨r59, rfl, h⟩ := hq
    refine x_st [.int r59] rfl ?_
    refine x_if_le (tgt := 276) C dX12_fit_237 (by decide) (fun c60 => ?_) (fun c60 => ?_)
    · have h := h.1 c60
      refine x_iinc (v := (p2 + 1)) C [(2, .int (p2 + 1)), (0, .ref 358), (1, .int p1), (3, .int x.1)] 2 rfl (congrArg (fun z => p2 + z) (by decide : Int32.ofInt (1) = 1)) (Nat.le_of_ble_eq_true rfl) rfl dX12_fit_276 ?_
      refine x_goto (tgt := 72) C dX12_fit_279 (by decide) ?_
      refine x_sub [(0, .ref 358), (1, .int p1), (2, .int (p2 + 1))] [1, 2, 0] rfl ?_
      exact hK72 _ _ h
    · have h := h.2 c60
      refine x_aload_n C rfl 0 rfl dX12_fit_240 ?_
      refine x_getR (r := 393) C (j := 51) ob358.1 ob358.2 (Nat.le_of_ble_eq_true rfl) (Nat.le_of_ble_eq_true rfl) (fun _ _ _ => rfl) r_358_51 tw_9_17 dX12_fit_241 ?_
      refine x_aload_n C rfl 0 rfl dX12_fit_244 ?_
      refine x_getR (r := 392) C (j := 50) ob358.1 ob358.2 (Nat.le_of_ble_eq_true rfl) (Nat.le_of_ble_eq_true rfl) (fun _ _ _ => rfl) r_358_50 tw_9_16 dX12_fit_245 ?_
      refine x_callS (dC := G12_becomes_dep) (as := [.ref 393, .ref 392]) (st := []) C rfl (Nat.le_trans (Nat.le_of_ble_eq_true rfl) hd) (Nat.le_of_ble_eq_true rfl) tw_8_50 tw_8_49 tc_8_51 tw_1_13 hyX12 hnX12_becomes rfl (Nat.le_of_ble_eq_true rfl) dX12_fit_248 (G12_becomes_met C.2.2.2.2.2.2.2.1 (Nat.le_refl _) ob393 ob392 h) (fun r0 μ61 hq => ?_)
      obtain ⟨rfl, h⟩ := hq
      refine x_st [] rfl ?_
      refine x_iconst (v := 0) C (by decide) dX12_fit_251 ?_
      refine x_istore_n C [(3, .int 0), (0, .ref 358), (1, .int p1), (2, .int p2)] rfl (Nat.le_of_ble_eq_true rfl) rfl dX12_fit_252 ?_
      refine x_sub [(0, .ref 358), (1, .int p1), (2, .int p2), (3, .int 0)] [1, 2, 3, 0] rfl ?_
      exact G12_fit_L253_ok C hd hr hK72 h
  · have h := h.2 c57
    refine x_lconst (v := 0) C (by decide) dX12_fit_168 ?_
    refine x_lstore C [(4, .long 0), (0, .ref 358), (1, .int p1), (2, .int p2), (3, .int x.1)] (Nat.le_of_ble_eq_true rfl) rfl dX12_fit_169 ?_
    refine x_iconst (v := 0) C (by decide) dX12_fit_171 ?_
    refine x_istore C [(6, .int 0), (4, .long 0), (0, .ref 358), (1, .int p1), (2, .int p2), (3, .int x.1)] (Nat.le_of_ble_eq_true rfl) rfl dX12_fit_172 ?_
    refine x_sub [(0, .ref 358), (1, .int p1), (2, .int p2), (3, .int x.1), (4, .long 0), (6, .int 0)] [2, 3, 4, 5, 1, 0] rfl ?_
    exact G12_fit_L174_ok C hd hr hK72 hK163 h
theorem G12_fit_L163_ok {p : Program} {e : Env} {s : State} {m : MethodId} {args : Array Value} {below : List Frame} {meth : Method} {c : Code} {l : Launch} {φ : Nat → Nat} {tc : Nat → ClassId} {D : va_G} {s0 : State} {dR : Nat} (C : CX p s m args meth c φ tc D s0 cX12_fit RX12 7) (hd : G12_fit_dep ≤ dR) (hr : meth.sig.returnType = (some .int))  {p1 : Int32} {p2 : Int32} {Q : Int32 → MM → Prop} {K72 : Int32 × MM → Prop} {x : Int32 × MM}   (hK72 : ∀ (z2 : Int32) (zμ : MM), K72 (z2, zμ) → WX p l e (rmX dR) s m args below meth c φ tc D 7 (MQ below (QX φ tc D (QI Q)) args s 0 0 (AX φ)) 72 [(0, .ref 358), (1, .int p1), (2, .int z2)] [] zμ) (h : Lp (G12_fit_L163 p1 p2 K72 Q) x) : WX p l e (rmX dR) s m args below meth c φ tc D 7 (MQ below (QX φ tc D (QI Q)) args s 0 0 (AX φ)) 163 [(0, .ref 358), (1, .int p1), (2, .int p2), (3, .int x.1)] [] x.2 := by
  obtain ⟨n, h⟩ := h
  induction n generalizing x with
  | zero => exact h.elim
  | succ n ih => exact G12_fit_L163_b C hd hr  hK72 (fun z3 zμ hz => by have q := ih hz; exact q) h
set_option maxHeartbeats 4000000 in
set_option maxRecDepth 100000 in
theorem G12_fit_L72_b {p : Program} {e : Env} {s : State} {m : MethodId} {args : Array Value} {below : List Frame} {meth : Method} {c : Code} {l : Launch} {φ : Nat → Nat} {tc : Nat → ClassId} {D : va_G} {s0 : State} {dR : Nat} (C : CX p s m args meth c φ tc D s0 cX12_fit RX12 7) (hd : G12_fit_dep ≤ dR) (hr : meth.sig.returnType = (some .int))  {p1 : Int32} {Q : Int32 → MM → Prop} {K72 : Int32 × MM → Prop} {x : Int32 × MM}   (hK72 : ∀ (z2 : Int32) (zμ : MM), K72 (z2, zμ) → WX p l e (rmX dR) s m args below meth c φ tc D 7 (MQ below (QX φ tc D (QI Q)) args s 0 0 (AX φ)) 72 [(0, .ref 358), (1, .int p1), (2, .int z2)] [] zμ) (h : G12_fit_L72 p1 Q K72 x) : WX p l e (rmX dR) s m args below meth c φ tc D 7 (MQ below (QX φ tc D (QI Q)) args s 0 0 (AX φ)) 72 [(0, .ref 358), (1, .int p1), (2, .int x.1)] [] x.2 := by
  unfold G12_fit_L72 at h
  refine x_iload_n C rfl 2 rfl dX12_fit_72 ?_
  refine x_sipush (v := 1331) C (by decide) dX12_fit_73 ?_
  refine x_icmp_ge (tgt := 282) C dX12_fit_76 (by decide) (fun c43 => ?_) (fun c43 => ?_)
  · have h := h.1 c43
    refine x_aload_n C rfl 0 rfl dX12_fit_282 ?_
    refine x_getR (r := 393) C (j := 51) ob358.1 ob358.2 (Nat.le_of_ble_eq_true rfl) (Nat.le_of_ble_eq_true rfl) (fun _ _ _ => rfl) r_358_51 tw_9_17 dX12_fit_283 ?_
    refine x_iconst (v := 0) C (by decide) dX12_fit_286 ?_
    refine x_iald C ob393.1 ob393.2 (by unfold vp_in; decide) (j := 0) (by decide) dX12_fit_287 ?_
    refine x_iconst (v := 1) C (by decide) dX12_fit_288 ?_
    refine x_icmp_ne (tgt := 304) C dX12_fit_289 (by decide) (fun c44 => ?_) (fun c44 => ?_)
    · have h := h.1 c44
      refine x_aload_n C rfl 0 rfl dX12_fit_304 ?_
      refine x_iconst (v := 0) C (by decide) dX12_fit_305 ?_
      refine x_putI C (j := 1) ob358.1 ob358.2 (Nat.le_of_ble_eq_true rfl) (Nat.le_of_ble_eq_true rfl) (Or.inl rfl) rfl rfl rfl tw_8_207 dX12_fit_306 ?_
      refine x_mu (fun μ45 e_μ45 => ?_)
      have h := h μ45 e_μ45
      refine x_iconst (v := 0) C (by decide) dX12_fit_309 ?_
      refine x_istore_n C [(2, .int 0), (0, .ref 358), (1, .int p1)] rfl (Nat.le_of_ble_eq_true rfl) rfl dX12_fit_310 ?_
      refine x_sub [(0, .ref 358), (1, .int p1), (2, .int 0)] [1, 2, 0] rfl ?_
      exact G12_fit_L311_ok C hd hr  h
    · have h := h.2 c44
      refine x_aload_n C rfl 0 rfl dX12_fit_292 ?_
      refine x_getR (r := 393) C (j := 51) ob358.1 ob358.2 (Nat.le_of_ble_eq_true rfl) (Nat.le_of_ble_eq_true rfl) (fun _ _ _ => rfl) r_358_51 tw_9_17 dX12_fit_293 ?_
      refine x_iconst (v := 1) C (by decide) dX12_fit_296 ?_
      refine x_iald C ob393.1 ob393.2 (by unfold vp_in; decide) (j := 1) (by decide) dX12_fit_297 ?_
      refine x_if_ne (tgt := 304) C dX12_fit_298 (by decide) (fun c49 => ?_) (fun c49 => ?_)
      · have h := h.1 c49
        refine x_aload_n C rfl 0 rfl dX12_fit_304 ?_
        refine x_iconst (v := 0) C (by decide) dX12_fit_305 ?_
        refine x_putI C (j := 1) ob358.1 ob358.2 (Nat.le_of_ble_eq_true rfl) (Nat.le_of_ble_eq_true rfl) (Or.inl rfl) rfl rfl rfl tw_8_207 dX12_fit_306 ?_
        refine x_mu (fun μ50 e_μ50 => ?_)
        have h := h μ50 e_μ50
        refine x_iconst (v := 0) C (by decide) dX12_fit_309 ?_
        refine x_istore_n C [(2, .int 0), (0, .ref 358), (1, .int p1)] rfl (Nat.le_of_ble_eq_true rfl) rfl dX12_fit_310 ?_
        refine x_sub [(0, .ref 358), (1, .int p1), (2, .int 0)] [1, 2, 0] rfl ?_
        exact G12_fit_L311_ok C hd hr  h
      · have h := h.2 c49
        refine x_bipush (v := (-2)) C (by decide) dX12_fit_301 ?_
        exact x_iret C hr dX12_fit_303 ⟨_, rfl, h⟩
  · have h := h.2 c43
    refine x_aload_n C rfl 0 rfl dX12_fit_79 ?_
    refine x_getR (r := 395) C (j := 53) ob358.1 ob358.2 (Nat.le_of_ble_eq_true rfl) (Nat.le_of_ble_eq_true rfl) (fun _ _ _ => rfl) r_358_53 tw_9_19 dX12_fit_80 ?_
    refine x_iconst (v := 0) C (by decide) dX12_fit_83 ?_
    refine x_iload_n C rfl 2 rfl dX12_fit_84 ?_
    refine x_bipush (v := 121) C (by decide) dX12_fit_85 ?_
    refine x_idiv C (by decide) dX12_fit_87 ?_
    refine x_iast C ob395.1 ob395.2 (by unfold vp_in; decide) (j := 0) (by decide) dX12_fit_88 ?_
    refine x_mu (fun μ51 e_μ51 => ?_)
    have h := h μ51 e_μ51
    refine x_aload_n C rfl 0 rfl dX12_fit_89 ?_
    refine x_getR (r := 395) C (j := 53) ob358.1 ob358.2 (Nat.le_of_ble_eq_true rfl) (Nat.le_of_ble_eq_true rfl) (fun _ _ _ => rfl) r_358_53 tw_9_19 dX12_fit_90 ?_
    refine x_iconst (v := 1) C (by decide) dX12_fit_93 ?_
    refine x_iload_n C rfl 2 rfl dX12_fit_94 ?_
    refine x_bipush (v := 11) C (by decide) dX12_fit_95 ?_
    refine x_idiv C (by decide) dX12_fit_97 ?_
    refine x_bipush (v := 11) C (by decide) dX12_fit_98 ?_
    refine x_irem C (by decide) dX12_fit_100 ?_
    refine x_iast C ob395.1 ob395.2 (by unfold vp_in; decide) (j := 1) (by decide) dX12_fit_101 ?_
    refine x_mu (fun μ52 e_μ52 => ?_)
    have h := h μ52 e_μ52
    refine x_aload_n C rfl 0 rfl dX12_fit_102 ?_
    refine x_getR (r := 395) C (j := 53) ob358.1 ob358.2 (Nat.le_of_ble_eq_true rfl) (Nat.le_of_ble_eq_true rfl) (fun _ _ _ => rfl) r_358_53 tw_9_19 dX12_fit_103 ?_
    refine x_iconst (v := 2) C (by decide) dX12_fit_106 ?_
    refine x_iload_n C rfl 2 rfl dX12_fit_107 ?_
    refine x_bipush (v := 11) C (by decide) dX12_fit_108 ?_
    refine x_irem C (by decide) dX12_fit_110 ?_
    refine x_iast C ob395.1 ob395.2 (by unfold vp_in; decide) (j := 2) (by decide) dX12_fit_111 ?_
    refine x_mu (fun μ53 e_μ53 => ?_)
    have h := h μ53 e_μ53
    refine x_aload_n C rfl 0 rfl dX12_fit_112 ?_
    refine x_getR (r := 395) C (j := 53) ob358.1 ob358.2 (Nat.le_of_ble_eq_true rfl) (Nat.le_of_ble_eq_true rfl) (fun _ _ _ => rfl) r_358_53 tw_9_19 dX12_fit_113 ?_
    refine x_iconst (v := 3) C (by decide) dX12_fit_116 ?_
    refine x_bipush (v := 10) C (by decide) dX12_fit_117 ?_
    refine x_aload_n C rfl 0 rfl dX12_fit_119 ?_
    refine x_getR (r := 395) C (j := 53) ob358.1 ob358.2 (Nat.le_of_ble_eq_true rfl) (Nat.le_of_ble_eq_true rfl) (fun _ _ _ => rfl) r_358_53 tw_9_19 dX12_fit_120 ?_
    refine x_iconst (v := 0) C (by decide) dX12_fit_123 ?_
    refine x_iald C ob395.1 ob395.2 (by unfold vp_in; decide) (j := 0) (by decide) dX12_fit_124 ?_
    refine x_isub C dX12_fit_125 ?_
    refine x_aload_n C rfl 0 rfl dX12_fit_126 ?_
    refine x_getR (r := 395) C (j := 53) ob358.1 ob358.2 (Nat.le_of_ble_eq_true rfl) (Nat.le_of_ble_eq_true rfl) (fun _ _ _ => rfl) r_358_53 tw_9_19 dX12_fit_127 ?_
    refine x_iconst (v := 1) C (by decide) dX12_fit_130 ?_
    refine x_iald C ob395.1 ob395.2 (by unfold vp_in; decide) (j := 1) (by decide) dX12_fit_131 ?_
    refine x_isub C dX12_fit_132 ?_
    refine x_aload_n C rfl 0 rfl dX12_fit_133 ?_
    refine x_getR (r := 395) C (j := 53) ob358.1 ob358.2 (Nat.le_of_ble_eq_true rfl) (Nat.le_of_ble_eq_true rfl) (fun _ _ _ => rfl) r_358_53 tw_9_19 dX12_fit_134 ?_
    refine x_iconst (v := 2) C (by decide) dX12_fit_137 ?_
    refine x_iald C ob395.1 ob395.2 (by unfold vp_in; decide) (j := 2) (by decide) dX12_fit_138 ?_
    refine x_isub C dX12_fit_139 ?_
    refine x_iast C ob395.1 ob395.2 (by unfold vp_in; decide) (j := 3) (by decide) dX12_fit_140 ?_
    refine x_mu (fun μ54 e_μ54 => ?_)
    have h := h μ54 e_μ54
    refine x_aload_n C rfl 0 rfl dX12_fit_141 ?_
    refine x_getR (r := 395) C (j := 53) ob358.1 ob358.2 (Nat.le_of_ble_eq_true rfl) (Nat.le_of_ble_eq_true rfl) (fun _ _ _ => rfl) r_358_53 tw_9_19 dX12_fit_142 ?_
    refine x_iconst (v := 3) C (by decide) dX12_fit_145 ?_
    refine x_iald C ob395.1 ob395.2 (by unfold vp_in; decide) (j := 3) (by decide) dX12_fit_146 ?_
    refine x_if_ge (tgt := 153) C dX12_fit_147 (by decide) (fun c55 => ?_) (fun c55 => ?_)
    · have h := h.1 c55
      refine x_aload_n C rfl 0 rfl dX12_fit_153 ?_
      refine x_getR (r := 392) C (j := 50) ob358.1 ob358.2 (Nat.le_of_ble_eq_true rfl) (Nat.le_of_ble_eq_true rfl) (fun _ _ _ => rfl) r_358_50 tw_9_16 dX12_fit_154 ?_
      refine x_iconst (v := 1) C (by decide) dX12_fit_157 ?_
      refine x_callS (dC := G12_isSmall_dep) (as := [.ref 392, .int 1]) (st := []) C rfl (Nat.le_trans (Nat.le_of_ble_eq_true rfl) hd) (Nat.le_of_ble_eq_true rfl) tw_8_40 tw_8_39 tc_8_41 tw_1_13 hyX12 hnX12_isSmall rfl (Nat.le_of_ble_eq_true rfl) dX12_fit_158 (G12_isSmall_met C.2.2.2.2.2.2.2.1 (Nat.le_refl _) ob392 h) (fun r0 μ56 hq => ?_)
      obtain ⟨rfl, h⟩ := hq
      refine x_st [] rfl ?_
      refine x_iconst (v := 0) C (by decide) dX12_fit_161 ?_
      refine x_istore_n C [(3, .int 0), (0, .ref 358), (1, .int p1), (2, .int x.1)] rfl (Nat.le_of_ble_eq_true rfl) rfl dX12_fit_162 ?_
      refine x_sub [(0, .ref 358), (1, .int p1), (2, .int x.1), (3, .int 0)] [1, 2, 3, 0] rfl ?_
      exact G12_fit_L163_ok C hd hr hK72 h
    · have h := h.2 c55
      refine x_goto (tgt := 276) C dX12_fit_150 (by decide) ?_
      refine x_iinc (v := (x.1 + 1)) C [(2, .int (x.1 + 1)), (0, .ref 358), (1, .int p1)] 2 rfl (congrArg (fun z => x.1 + z) (by decide : Int32.ofInt (1) = 1)) (Nat.le_of_ble_eq_true rfl) rfl dX12_fit_276 ?_
      refine x_goto (tgt := 72) C dX12_fit_279 (by decide) ?_
      refine x_sub [(0, .ref 358), (1, .int p1), (2, .int (x.1 + 1))] [1, 2, 0] rfl ?_
      exact hK72 _ _ h
theorem G12_fit_L72_ok {p : Program} {e : Env} {s : State} {m : MethodId} {args : Array Value} {below : List Frame} {meth : Method} {c : Code} {l : Launch} {φ : Nat → Nat} {tc : Nat → ClassId} {D : va_G} {s0 : State} {dR : Nat} (C : CX p s m args meth c φ tc D s0 cX12_fit RX12 7) (hd : G12_fit_dep ≤ dR) (hr : meth.sig.returnType = (some .int))  {p1 : Int32} {Q : Int32 → MM → Prop}  {x : Int32 × MM}    (h : Lp (G12_fit_L72 p1 Q) x) : WX p l e (rmX dR) s m args below meth c φ tc D 7 (MQ below (QX φ tc D (QI Q)) args s 0 0 (AX φ)) 72 [(0, .ref 358), (1, .int p1), (2, .int x.1)] [] x.2 := by
  obtain ⟨n, h⟩ := h
  induction n generalizing x with
  | zero => exact h.elim
  | succ n ih => exact G12_fit_L72_b C hd hr   (fun z2 zμ hz => by have q := ih hz; exact q) h
set_option maxHeartbeats 4000000 in
set_option maxRecDepth 100000 in
theorem G12_fit_L27_b {p : Program} {e : Env} {s : State} {m : MethodId} {args : Array Value} {below : List Frame} {meth : Method} {c : Code} {l : Launch} {φ : Nat → Nat} {tc : Nat → ClassId} {D : va_G} {s0 : State} {dR : Nat} (C : CX p s m args meth c φ tc D s0 cX12_fit RX12 7) (hd : G12_fit_dep ≤ dR) (hr : meth.sig.returnType = (some .int))  {p1 : Int32} {p2 : Int32} {Q : Int32 → MM → Prop} {K9 : Int32 × Int32 × MM → Prop} {K27 : Int32 × MM → Prop} {x : Int32 × MM}   (hK9 : ∀ (z1 : Int32) (z2 : Int32) (zμ : MM), K9 (z1, z2, zμ) → WX p l e (rmX dR) s m args below meth c φ tc D 7 (MQ below (QX φ tc D (QI Q)) args s 0 0 (AX φ)) 9 [(0, .ref 358), (1, .int z1), (2, .int z2)] [] zμ) (hK27 : ∀ (z3 : Int32) (zμ : MM), K27 (z3, zμ) → WX p l e (rmX dR) s m args below meth c φ tc D 7 (MQ below (QX φ tc D (QI Q)) args s 0 0 (AX φ)) 27 [(0, .ref 358), (1, .int p1), (2, .int p2), (3, .int z3)] [] zμ) (h : G12_fit_L27 p1 p2 K9 Q K27 x) : WX p l e (rmX dR) s m args below meth c φ tc D 7 (MQ below (QX φ tc D (QI Q)) args s 0 0 (AX φ)) 27 [(0, .ref 358), (1, .int p1), (2, .int p2), (3, .int x.1)] [] x.2 := by
  unfold G12_fit_L27 at h
  refine x_iload_n C rfl 3 rfl dX12_fit_27 ?_
  refine x_iconst (v := 4) C (by decide) dX12_fit_28 ?_
  refine x_icmp_ge (tgt := 53) C dX12_fit_29 (by decide) (fun c74 => ?_) (fun c74 => ?_)
  · have h := h.1 c74
    refine x_iinc (v := (p1 + 1)) C [(1, .int (p1 + 1)), (0, .ref 358), (2, .int p2), (3, .int x.1)] 1 rfl (congrArg (fun z => p1 + z) (by decide : Int32.ofInt (1) = 1)) (Nat.le_of_ble_eq_true rfl) rfl dX12_fit_53 ?_
    refine x_iinc (v := (p2 + 1)) C [(2, .int (p2 + 1)), (1, .int (p1 + 1)), (0, .ref 358), (3, .int x.1)] 2 rfl (congrArg (fun z => p2 + z) (by decide : Int32.ofInt (1) = 1)) (Nat.le_of_ble_eq_true rfl) rfl dX12_fit_56 ?_
    refine x_goto (tgt := 9) C dX12_fit_59 (by decide) ?_
    refine x_sub [(0, .ref 358), (1, .int (p1 + 1)), (2, .int (p2 + 1))] [2, 1, 0] rfl ?_
    exact hK9 _ _ _ h
  · have h := h.2 c74
    refine x_aload_n C rfl 0 rfl dX12_fit_32 ?_
    refine x_getR (r := 394) C (j := 52) ob358.1 ob358.2 (Nat.le_of_ble_eq_true rfl) (Nat.le_of_ble_eq_true rfl) (fun _ _ _ => rfl) r_358_52 tw_9_18 dX12_fit_33 ?_
    refine x_iconst (v := 4) C (by decide) dX12_fit_36 ?_
    refine x_iload_n C rfl 1 rfl dX12_fit_37 ?_
    refine x_imul C dX12_fit_38 ?_
    refine x_iload_n C rfl 3 rfl dX12_fit_39 ?_
    refine x_iadd C dX12_fit_40 ?_
    refine x_aload_n C rfl 0 rfl dX12_fit_41 ?_
    refine x_iload_n C rfl 3 rfl dX12_fit_42 ?_
    refine x_callV (dC := G12_wouldBe_dep) (as := [.int x.1]) (st := [.int ((4 * p1) + x.1), .ref 394]) C rfl (Nat.le_trans (Nat.le_of_ble_eq_true rfl) hd) (Nat.le_of_ble_eq_true rfl) ob358.1 ob358.2 (Nat.le_of_ble_eq_true rfl) rfl ts_10_10 tw_8_25 tw_8_23 tc_8_26 tw_1_13 hyX12 hnX12_wouldBe rfl (Nat.le_of_ble_eq_true rfl) dX12_fit_43 (G12_wouldBe_met C.2.2.2.2.2.2.2.1 (Nat.le_refl _)  h) (fun r0 μ75 hq => ?_)
    obtain ⟨r76, rfl, h⟩ := hq
    refine x_st [.long r76, .int ((4 * p1) + x.1), .ref 394] rfl ?_
    obtain ⟨c77, h⟩ := h
    refine x_last C ob394.1 ob394.2 c77 rfl dX12_fit_46 ?_
    refine x_mu (fun μ78 e_μ78 => ?_)
    have h := h μ78 e_μ78
    refine x_iinc (v := (x.1 + 1)) C [(3, .int (x.1 + 1)), (0, .ref 358), (1, .int p1), (2, .int p2)] 3 rfl (congrArg (fun z => x.1 + z) (by decide : Int32.ofInt (1) = 1)) (Nat.le_of_ble_eq_true rfl) rfl dX12_fit_47 ?_
    refine x_goto (tgt := 27) C dX12_fit_50 (by decide) ?_
    refine x_sub [(0, .ref 358), (1, .int p1), (2, .int p2), (3, .int (x.1 + 1))] [1, 2, 3, 0] rfl ?_
    exact hK27 _ _ h
theorem G12_fit_L27_ok {p : Program} {e : Env} {s : State} {m : MethodId} {args : Array Value} {below : List Frame} {meth : Method} {c : Code} {l : Launch} {φ : Nat → Nat} {tc : Nat → ClassId} {D : va_G} {s0 : State} {dR : Nat} (C : CX p s m args meth c φ tc D s0 cX12_fit RX12 7) (hd : G12_fit_dep ≤ dR) (hr : meth.sig.returnType = (some .int))  {p1 : Int32} {p2 : Int32} {Q : Int32 → MM → Prop} {K9 : Int32 × Int32 × MM → Prop} {x : Int32 × MM}   (hK9 : ∀ (z1 : Int32) (z2 : Int32) (zμ : MM), K9 (z1, z2, zμ) → WX p l e (rmX dR) s m args below meth c φ tc D 7 (MQ below (QX φ tc D (QI Q)) args s 0 0 (AX φ)) 9 [(0, .ref 358), (1, .int z1), (2, .int z2)] [] zμ) (h : Lp (G12_fit_L27 p1 p2 K9 Q) x) : WX p l e (rmX dR) s m args below meth c φ tc D 7 (MQ below (QX φ tc D (QI Q)) args s 0 0 (AX φ)) 27 [(0, .ref 358), (1, .int p1), (2, .int p2), (3, .int x.1)] [] x.2 := by
  obtain ⟨n, h⟩ := h
  induction n generalizing x with
  | zero => exact h.elim
  | succ n ih => exact G12_fit_L27_b C hd hr  hK9 (fun z3 zμ hz => by have q := ih hz; exact q) h
set_option maxHeartbeats 4000000 in
set_option maxRecDepth 100000 in
theorem G12_fit_L9_b {p : Program} {e : Env} {s : State} {m : MethodId} {args : Array Value} {below : List Frame} {meth : Method} {c : Code} {l : Launch} {φ : Nat → Nat} {tc : Nat → ClassId} {D : va_G} {s0 : State} {dR : Nat} (C : CX p s m args meth c φ tc D s0 cX12_fit RX12 7) (hd : G12_fit_dep ≤ dR) (hr : meth.sig.returnType = (some .int))   {Q : Int32 → MM → Prop} {K9 : Int32 × Int32 × MM → Prop} {x : Int32 × Int32 × MM}   (hK9 : ∀ (z1 : Int32) (z2 : Int32) (zμ : MM), K9 (z1, z2, zμ) → WX p l e (rmX dR) s m args below meth c φ tc D 7 (MQ below (QX φ tc D (QI Q)) args s 0 0 (AX φ)) 9 [(0, .ref 358), (1, .int z1), (2, .int z2)] [] zμ) (h : G12_fit_L9  Q K9 x) : WX p l e (rmX dR) s m args below meth c φ tc D 7 (MQ below (QX φ tc D (QI Q)) args s 0 0 (AX φ)) 9 [(0, .ref 358), (1, .int x.1), (2, .int x.2.1)] [] x.2.2 := by
  unfold G12_fit_L9 at h
  refine x_iload_n C rfl 2 rfl dX12_fit_9 ?_
  refine x_aload_n C rfl 0 rfl dX12_fit_10 ?_
  refine x_getI C (j := 8) ob358.1 ob358.2 (Nat.le_of_ble_eq_true rfl) (Nat.le_of_ble_eq_true rfl) (Or.inl rfl) tw_8_214 dX12_fit_11 ?_
  refine x_icmp_ge (tgt := 62) C dX12_fit_14 (by decide) (fun c41 => ?_) (fun c41 => ?_)
  · have h := h.1 c41
    refine x_aload_n C rfl 0 rfl dX12_fit_62 ?_
    refine x_getR (r := 393) C (j := 51) ob358.1 ob358.2 (Nat.le_of_ble_eq_true rfl) (Nat.le_of_ble_eq_true rfl) (fun _ _ _ => rfl) r_358_51 tw_9_17 dX12_fit_63 ?_
    refine x_iconst (v := 0) C (by decide) dX12_fit_66 ?_
    refine x_callS (dC := G12_isSmall_dep) (as := [.ref 393, .int 0]) (st := []) C rfl (Nat.le_trans (Nat.le_of_ble_eq_true rfl) hd) (Nat.le_of_ble_eq_true rfl) tw_8_40 tw_8_39 tc_8_41 tw_1_13 hyX12 hnX12_isSmall rfl (Nat.le_of_ble_eq_true rfl) dX12_fit_67 (G12_isSmall_met C.2.2.2.2.2.2.2.1 (Nat.le_refl _) ob393 h) (fun r0 μ42 hq => ?_)
    obtain ⟨rfl, h⟩ := hq
    refine x_st [] rfl ?_
    refine x_iconst (v := 0) C (by decide) dX12_fit_70 ?_
    refine x_istore_n C [(2, .int 0), (0, .ref 358), (1, .int x.1)] rfl (Nat.le_of_ble_eq_true rfl) rfl dX12_fit_71 ?_
    refine x_sub [(0, .ref 358), (1, .int x.1), (2, .int 0)] [1, 2, 0] rfl ?_
    exact G12_fit_L72_ok C hd hr  h
  · have h := h.2 c41
    refine x_aload_n C rfl 0 rfl dX12_fit_17 ?_
    refine x_iload_n C rfl 2 rfl dX12_fit_18 ?_
    refine x_callV (dC := G12_countsHouse_dep) (as := [.int x.2.1]) (st := []) C rfl (Nat.le_trans (Nat.le_of_ble_eq_true rfl) hd) (Nat.le_of_ble_eq_true rfl) ob358.1 ob358.2 (Nat.le_of_ble_eq_true rfl) rfl ts_10_8 tw_8_1 tw_7_239 tc_8_2 tw_1_13 hyX12 hnX12_countsHouse rfl (Nat.le_of_ble_eq_true rfl) dX12_fit_19 (G12_countsHouse_met C.2.2.2.2.2.2.2.1 (Nat.le_refl _)  h) (fun r0 μ71 hq => ?_)
    obtain ⟨r72, rfl, h⟩ := hq
    refine x_st [.int r72] rfl ?_
    refine x_if_le (tgt := 56) C dX12_fit_22 (by decide) (fun c73 => ?_) (fun c73 => ?_)
    · have h := h.1 c73
      refine x_iinc (v := (x.2.1 + 1)) C [(2, .int (x.2.1 + 1)), (0, .ref 358), (1, .int x.1)] 2 rfl (congrArg (fun z => x.2.1 + z) (by decide : Int32.ofInt (1) = 1)) (Nat.le_of_ble_eq_true rfl) rfl dX12_fit_56 ?_
      refine x_goto (tgt := 9) C dX12_fit_59 (by decide) ?_
      refine x_sub [(0, .ref 358), (1, .int x.1), (2, .int (x.2.1 + 1))] [1, 2, 0] rfl ?_
      exact hK9 _ _ _ h
    · have h := h.2 c73
      refine x_iconst (v := 0) C (by decide) dX12_fit_25 ?_
      refine x_istore_n C [(3, .int 0), (0, .ref 358), (1, .int x.1), (2, .int x.2.1)] rfl (Nat.le_of_ble_eq_true rfl) rfl dX12_fit_26 ?_
      refine x_sub [(0, .ref 358), (1, .int x.1), (2, .int x.2.1), (3, .int 0)] [1, 2, 3, 0] rfl ?_
      exact G12_fit_L27_ok C hd hr hK9 h
theorem G12_fit_L9_ok {p : Program} {e : Env} {s : State} {m : MethodId} {args : Array Value} {below : List Frame} {meth : Method} {c : Code} {l : Launch} {φ : Nat → Nat} {tc : Nat → ClassId} {D : va_G} {s0 : State} {dR : Nat} (C : CX p s m args meth c φ tc D s0 cX12_fit RX12 7) (hd : G12_fit_dep ≤ dR) (hr : meth.sig.returnType = (some .int))   {Q : Int32 → MM → Prop}  {x : Int32 × Int32 × MM}    (h : Lp (G12_fit_L9  Q) x) : WX p l e (rmX dR) s m args below meth c φ tc D 7 (MQ below (QX φ tc D (QI Q)) args s 0 0 (AX φ)) 9 [(0, .ref 358), (1, .int x.1), (2, .int x.2.1)] [] x.2.2 := by
  obtain ⟨n, h⟩ := h
  induction n generalizing x with
  | zero => exact h.elim
  | succ n ih => exact G12_fit_L9_b C hd hr   (fun z1 z2 zμ hz => by have q := ih hz; exact q) h
set_option maxHeartbeats 4000000 in
set_option maxRecDepth 100000 in
theorem G12_fit_met {l : Launch} {φ : Nat → Nat} {tc : Nat → ClassId} {D : va_G} {s0 : State} (hG : GX φ tc D s0) {dR : Nat} (hd : G12_fit_dep ≤ dR)  {μ : MM} {Q : Int32 → MM → Prop}  (h : G12_fit  μ Q) : MX l φ tc D s0 dR yX12_fit cX12_fit 7 (some .int) [.ref 358] μ (QI Q) := by
  refine MX.of (own := RX12) hG plX12 rfl (Nat.le_of_ble_eq_true rfl) (fun p e s m args below meth c C hr => ?_)
  refine x_sub [(0, .ref 358)] [0] rfl ?_
  unfold G12_fit at h
  refine x_aload_n C rfl 0 rfl dX12_fit_0 ?_
  refine x_iconst (v := 0) C (by decide) dX12_fit_1 ?_
  refine x_putI C (j := 0) ob358.1 ob358.2 (Nat.le_of_ble_eq_true rfl) (Nat.le_of_ble_eq_true rfl) (Or.inl rfl) rfl rfl rfl tw_8_206 dX12_fit_2 ?_
  refine x_mu (fun μ40 e_μ40 => ?_)
  have h := h μ40 e_μ40
  refine x_iconst (v := 0) C (by decide) dX12_fit_5 ?_
  refine x_istore_n C [(1, .int 0), (0, .ref 358)] rfl (Nat.le_of_ble_eq_true rfl) rfl dX12_fit_6 ?_
  refine x_iconst (v := 0) C (by decide) dX12_fit_7 ?_
  refine x_istore_n C [(2, .int 0), (1, .int 0), (0, .ref 358)] rfl (Nat.le_of_ble_eq_true rfl) rfl dX12_fit_8 ?_
  refine x_sub [(0, .ref 358), (1, .int 0), (2, .int 0)] [2, 1, 0] rfl ?_
  exact G12_fit_L9_ok C hd hr  h
