set_option maxHeartbeats 4000000 in
set_option maxRecDepth 100000 in
theorem G12_isKind_met {l : Launch} {φ : Nat → Nat} {tc : Nat → ClassId} {D : va_G} {s0 : State} (hG : GX φ tc D s0) {dR : Nat} (hd : G12_isKind_dep ≤ dR) {v0 : Int32} {μ : MM} {Q : Int32 → MM → Prop}  (h : G12_isKind v0 μ Q) : MX l φ tc D s0 dR yX12_isKind cX12_isKind 1 (some .boolean) [.int v0] μ (QI Q) := by
  refine MX.of (own := RX12) hG plX12 rfl (Nat.le_of_ble_eq_true rfl) (fun p e s m args below meth c C hr => ?_)
  refine x_sub [(0, .int v0)] [0] rfl ?_
  unfold G12_isKind at h
  refine x_iload_n C rfl 0 rfl dX12_isKind_0 ?_
  refine x_i2l C dX12_isKind_1 ?_
  refine x_lconst (v := 0) C (by decide) dX12_isKind_2 ?_
  refine x_ldc2 (v := 3) C tw_6_190 dX12_isKind_3 ?_
  refine x_callS (dC := G12_in_dep) (as := [.long (v0.toInt64), .long 0, .long 3]) (st := []) C rX kX (Nat.le_trans (Nat.le_of_ble_eq_true rfl) hd) (Nat.le_of_ble_eq_true rfl) tw_6_183 tw_6_182 tc_6_184 tw_1_13 hyX12 hnX12_in rfl (Nat.le_of_ble_eq_true rfl) dX12_isKind_6 (G12_in_met C.2.2.2.2.2.2.2.1 (Nat.le_refl _)  h) (fun r0 μ3 hq => ?_)
  obtain ⟨r4, rfl, h⟩ := hq
  refine x_st [.int r4] rfl ?_
  exact x_zret C hr h.1 dX12_isKind_9 ⟨_, rfl, h.2⟩
set_option maxHeartbeats 4000000 in
set_option maxRecDepth 100000 in
theorem G12_kind_met {l : Launch} {φ : Nat → Nat} {tc : Nat → ClassId} {D : va_G} {s0 : State} (hG : GX φ tc D s0) {dR : Nat} (hd : G12_kind_dep ≤ dR) {v1 : Int32} {v2 : Int32} {v3 : Int32} {μ : MM} {Q : Int32 → MM → Prop}  (h : G12_kind v1 v2 v3 μ Q) : MX l φ tc D s0 dR yX12_kind cX12_kind 4 (some .boolean) [.ref 358, .int v1, .int v2, .int v3] μ (QI Q) := by
  refine MX.of (own := RX12) hG plX12 rfl (Nat.le_of_ble_eq_true rfl) (fun p e s m args below meth c C hr => ?_)
  refine x_sub [(0, .ref 358), (1, .int v1), (2, .int v2), (3, .int v3)] [0, 1, 2, 3] rfl ?_
  unfold G12_kind at h
  refine x_aload_n C rfl 0 rfl dX12_kind_0 ?_
  refine x_iconst (v := 0) C (by decide) dX12_kind_1 ?_
  refine x_putI C (j := 0) ob358.1 ob358.2 (Nat.le_of_ble_eq_true rfl) (Nat.le_of_ble_eq_true rfl) (Or.inl rfl) rfl rfl rfl tw_8_206 dX12_kind_2 ?_
  refine x_mu (fun μ12 e_μ12 => ?_)
  have h := h μ12 e_μ12
  refine x_iload_n C rfl 1 rfl dX12_kind_5 ?_
  refine x_callS (dC := G12_isKind_dep) (as := [.int v1]) (st := []) C rX kX (Nat.le_trans (Nat.le_of_ble_eq_true rfl) hd) (Nat.le_of_ble_eq_true rfl) tw_8_8 tw_8_7 tc_8_9 tw_1_13 hyX12 hnX12_isKind rfl (Nat.le_of_ble_eq_true rfl) dX12_kind_6 (G12_isKind_met C.2.2.2.2.2.2.2.1 (Nat.le_refl _)  h) (fun r0 μ13 hq => ?_)
  obtain ⟨r14, rfl, h⟩ := hq
  refine x_st [.int r14] rfl ?_
  refine x_if_eq (tgt := 36) C dX12_kind_9 (by decide) (fun c15 => ?_) (fun c15 => ?_)
  · have h := h.1 c15
    refine x_iconst (v := 0) C (by decide) dX12_kind_36 ?_
    exact x_zret C hr bo_0 dX12_kind_37 ⟨_, rfl, h⟩
  · have h := h.2 c15
    refine x_iload_n C rfl 2 rfl dX12_kind_12 ?_
    refine x_i2l C dX12_kind_13 ?_
    refine x_lconst (v := 0) C (by decide) dX12_kind_14 ?_
    refine x_ldc2 (v := 100) C tw_8_10 dX12_kind_15 ?_
    refine x_callS (dC := G12_in_dep) (as := [.long (v2.toInt64), .long 0, .long 100]) (st := []) C rX kX (Nat.le_trans (Nat.le_of_ble_eq_true rfl) hd) (Nat.le_of_ble_eq_true rfl) tw_6_183 tw_6_182 tc_6_184 tw_1_13 hyX12 hnX12_in rfl (Nat.le_of_ble_eq_true rfl) dX12_kind_18 (G12_in_met C.2.2.2.2.2.2.2.1 (Nat.le_refl _)  h) (fun r0 μ16 hq => ?_)
    obtain ⟨r17, rfl, h⟩ := hq
    refine x_st [.int r17] rfl ?_
    refine x_if_eq (tgt := 36) C dX12_kind_21 (by decide) (fun c18 => ?_) (fun c18 => ?_)
    · have h := h.1 c18
      refine x_iconst (v := 0) C (by decide) dX12_kind_36 ?_
      exact x_zret C hr bo_0 dX12_kind_37 ⟨_, rfl, h⟩
    · have h := h.2 c18
      refine x_iload_n C rfl 3 rfl dX12_kind_24 ?_
      refine x_i2l C dX12_kind_25 ?_
      refine x_lconst (v := 0) C (by decide) dX12_kind_26 ?_
      refine x_ldc2 (v := 100) C tw_8_10 dX12_kind_27 ?_
      refine x_callS (dC := G12_in_dep) (as := [.long (v3.toInt64), .long 0, .long 100]) (st := []) C rX kX (Nat.le_trans (Nat.le_of_ble_eq_true rfl) hd) (Nat.le_of_ble_eq_true rfl) tw_6_183 tw_6_182 tc_6_184 tw_1_13 hyX12 hnX12_in rfl (Nat.le_of_ble_eq_true rfl) dX12_kind_30 (G12_in_met C.2.2.2.2.2.2.2.1 (Nat.le_refl _)  h) (fun r0 μ19 hq => ?_)
      obtain ⟨r20, rfl, h⟩ := hq
      refine x_st [.int r20] rfl ?_
      refine x_if_ne (tgt := 38) C dX12_kind_33 (by decide) (fun c21 => ?_) (fun c21 => ?_)
      · have h := h.1 c21
        refine x_aload_n C rfl 0 rfl dX12_kind_38 ?_
        refine x_getR (r := 387) C (j := 45) ob358.1 ob358.2 (Nat.le_of_ble_eq_true rfl) (Nat.le_of_ble_eq_true rfl) (fun _ _ _ => rfl) r_358_45 tw_9_11 dX12_kind_39 ?_
        refine x_iload_n C rfl 1 rfl dX12_kind_42 ?_
        refine x_iload_n C rfl 2 rfl dX12_kind_43 ?_
        obtain ⟨c22, h⟩ := h
        refine x_iast C ob387.1 ob387.2 c22 rfl dX12_kind_44 ?_
        refine x_mu (fun μ23 e_μ23 => ?_)
        have h := h μ23 e_μ23
        refine x_aload_n C rfl 0 rfl dX12_kind_45 ?_
        refine x_getR (r := 388) C (j := 46) ob358.1 ob358.2 (Nat.le_of_ble_eq_true rfl) (Nat.le_of_ble_eq_true rfl) (fun _ _ _ => rfl) r_358_46 tw_9_12 dX12_kind_46 ?_
        refine x_iload_n C rfl 1 rfl dX12_kind_49 ?_
        refine x_iload_n C rfl 3 rfl dX12_kind_50 ?_
        obtain ⟨c24, h⟩ := h
        refine x_iast C ob388.1 ob388.2 c24 rfl dX12_kind_51 ?_
        refine x_mu (fun μ25 e_μ25 => ?_)
        have h := h μ25 e_μ25
        refine x_iconst (v := 1) C (by decide) dX12_kind_52 ?_
        exact x_zret C hr bo_1 dX12_kind_53 ⟨_, rfl, h⟩
      · have h := h.2 c21
        refine x_iconst (v := 0) C (by decide) dX12_kind_36 ?_
        exact x_zret C hr bo_0 dX12_kind_37 ⟨_, rfl, h⟩
set_option maxHeartbeats 4000000 in
set_option maxRecDepth 100000 in
theorem G12_parts_L38_b {p : Program} {e : Env} {s : State} {m : MethodId} {args : Array Value} {below : List Frame} {meth : Method} {c : Code} {l : Launch} {φ : Nat → Nat} {tc : Nat → ClassId} {D : va_G} {s0 : State} {dR : Nat} (C : CX p s m args meth c φ tc D (AX φ) s0 cX12_parts RX12 5) (hd : G12_parts_dep ≤ dR) (hr : meth.sig.returnType = (some .int))  {p1 : Int32} {p2 : Int32} {Q : Int32 → MM → Prop} {K38 : Int32 × Int32 × MM → Prop} {x : Int32 × Int32 × MM}   (hK38 : ∀ (z3 : Int32) (z4 : Int32) (zμ : MM), K38 (z3, z4, zμ) → WX p l e (rmX dR) s m args below meth c φ tc D (AX φ) 5 0 0 (MQ below (QX φ tc D (QI Q)) args s 0 0 (AX φ)) 38 [(0, .ref 358), (1, .int p1), (2, .int p2), (3, .int z3), (4, .int z4)] [] zμ) (h : G12_parts_L38 p1 p2 Q K38 x) : WX p l e (rmX dR) s m args below meth c φ tc D (AX φ) 5 0 0 (MQ below (QX φ tc D (QI Q)) args s 0 0 (AX φ)) 38 [(0, .ref 358), (1, .int p1), (2, .int p2), (3, .int x.1), (4, .int x.2.1)] [] x.2.2 := by
  unfold G12_parts_L38 at h
  refine x_iload C 4 rfl dX12_parts_38 ?_
  refine x_iconst (v := 4) C (by decide) dX12_parts_40 ?_
  refine x_icmp_ge (tgt := 60) C dX12_parts_41 (by decide) (fun c23 => ?_) (fun c23 => ?_)
  · have h := h.1 c23
    refine x_iload_n C rfl 3 rfl dX12_parts_60 ?_
    refine x_if_ne (tgt := 66) C dX12_parts_61 (by decide) (fun c24 => ?_) (fun c24 => ?_)
    · have h := h.1 c24
      refine x_aload_n C rfl 0 rfl dX12_parts_66 ?_
      refine x_getR (r := 389) C (j := 47) ob358.1 ob358.2 (Nat.le_of_ble_eq_true rfl) (Nat.le_of_ble_eq_true rfl) (fun _ _ _ => rfl) r_358_47 tw_9_13 dX12_parts_67 ?_
      refine x_iload_n C rfl 1 rfl dX12_parts_70 ?_
      obtain ⟨c25, h⟩ := h
      refine x_iald C ob389.1 ob389.2 c25 rfl dX12_parts_71 ?_
      refine x_topi (fun y26 e_y26 => ?_)
      have h := h y26 e_y26
      refine x_istore C [(4, .int y26), (0, .ref 358), (1, .int p1), (2, .int p2), (3, .int x.1)] (Nat.le_of_ble_eq_true rfl) rfl dX12_parts_72 ?_
      refine x_aload_n C rfl 1 rfl dX12_parts_74 ?_
      refine x_getR (r := 389) C (j := 47) ob358.1 ob358.2 (Nat.le_of_ble_eq_true rfl) (Nat.le_of_ble_eq_true rfl) (fun _ _ _ => rfl) r_358_47 tw_9_13 dX12_parts_75 ?_
      refine x_iload_n C rfl 2 rfl dX12_parts_78 ?_
      refine x_iload_n C rfl 3 rfl dX12_parts_79 ?_
      obtain ⟨c27, h⟩ := h
      refine x_iast C ob389.1 ob389.2 c27 rfl dX12_parts_80 ?_
      refine x_mu (fun μ28 e_μ28 => ?_)
      have h := h μ28 e_μ28
      refine x_iload C 0 rfl dX12_parts_81 ?_
      exact x_iret C hr dX12_parts_83 ⟨_, rfl, h⟩
    · have h := h.2 c24
      refine x_iconst (v := (-1)) C (by decide) dX12_parts_64 ?_
      exact x_iret C hr dX12_parts_65 ⟨_, rfl, h⟩
  · have h := h.2 c23
    refine x_iload_n C rfl 3 rfl dX12_parts_44 ?_
    refine x_aload_n C rfl 0 rfl dX12_parts_45 ?_
    refine x_getR (r := 389) C (j := 47) ob358.1 ob358.2 (Nat.le_of_ble_eq_true rfl) (Nat.le_of_ble_eq_true rfl) (fun _ _ _ => rfl) r_358_47 tw_9_13 dX12_parts_46 ?_
    refine x_iload C 4 rfl dX12_parts_49 ?_
    obtain ⟨c29, h⟩ := h
    refine x_iald C ob389.1 ob389.2 c29 rfl dX12_parts_51 ?_
    refine x_iadd C dX12_parts_52 ?_
    refine x_topi (fun y30 e_y30 => ?_)
    have h := h y30 e_y30
    refine x_istore_n C [(3, .int y30), (0, .ref 358), (1, .int p1), (2, .int p2), (4, .int x.2.1)] rfl (Nat.le_of_ble_eq_true rfl) rfl dX12_parts_53 ?_
    refine x_iinc (v := (x.2.1 + 1)) C [(4, .int (x.2.1 + 1)), (3, .int y30), (0, .ref 358), (1, .int p1), (2, .int p2)] 4 rfl (congrArg (fun z => x.2.1 + z) (by decide : Int32.ofInt (1) = 1)) (Nat.le_of_ble_eq_true rfl) rfl dX12_parts_54 ?_
    refine x_goto (tgt := 38) C dX12_parts_57 (by decide) ?_
    refine x_sub [(0, .ref 358), (1, .int p1), (2, .int p2), (3, .int y30), (4, .int (x.2.1 + 1))] [2, 3, 4, 1, 0] rfl ?_
    exact hK38 _ _ _ h
theorem G12_parts_L38_ok {p : Program} {e : Env} {s : State} {m : MethodId} {args : Array Value} {below : List Frame} {meth : Method} {c : Code} {l : Launch} {φ : Nat → Nat} {tc : Nat → ClassId} {D : va_G} {s0 : State} {dR : Nat} (C : CX p s m args meth c φ tc D (AX φ) s0 cX12_parts RX12 5) (hd : G12_parts_dep ≤ dR) (hr : meth.sig.returnType = (some .int))  {p1 : Int32} {p2 : Int32} {Q : Int32 → MM → Prop}  {x : Int32 × Int32 × MM}    (h : Lp (G12_parts_L38 p1 p2 Q) x) : WX p l e (rmX dR) s m args below meth c φ tc D (AX φ) 5 0 0 (MQ below (QX φ tc D (QI Q)) args s 0 0 (AX φ)) 38 [(0, .ref 358), (1, .int p1), (2, .int p2), (3, .int x.1), (4, .int x.2.1)] [] x.2.2 := by
  obtain ⟨n, h⟩ := h
  induction n generalizing x with
  | zero => exact h.elim
  | succ n ih => exact G12_parts_L38_b C hd hr   (fun z3 z4 zμ hz => by have q := ih hz; exact q) h
set_option maxHeartbeats 4000000 in
set_option maxRecDepth 100000 in
theorem G12_parts_met {l : Launch} {φ : Nat → Nat} {tc : Nat → ClassId} {D : va_G} {s0 : State} (hG : GX φ tc D s0) {dR : Nat} (hd : G12_parts_dep ≤ dR) {v1 : Int32} {v2 : Int32} {μ : MM} {Q : Int32 → MM → Prop}  (h : G12_parts v1 v2 μ Q) : MX l φ tc D s0 dR yX12_parts cX12_parts 5 (some .int) [.ref 358, .int v1, .int v2] μ (QI Q) := by
  refine MX.of (own := RX12) hG plX12 rfl (Nat.le_of_ble_eq_true rfl) (fun p e s m args below meth c C hr => ?_)
  refine x_sub [(0, .ref 358), (1, .int v1), (2, .int v2)] [0, 1, 2] rfl ?_
  unfold G12_parts at h
  refine x_aload_n C rfl 0 rfl dX12_parts_0 ?_
  refine x_iconst (v := 0) C (by decide) dX12_parts_1 ?_
  refine x_putI C (j := 0) ob358.1 ob358.2 (Nat.le_of_ble_eq_true rfl) (Nat.le_of_ble_eq_true rfl) (Or.inl rfl) rfl rfl rfl tw_8_206 dX12_parts_2 ?_
  refine x_mu (fun μ14 e_μ14 => ?_)
  have h := h μ14 e_μ14
  refine x_iload_n C rfl 1 rfl dX12_parts_5 ?_
  refine x_callS (dC := G12_isKind_dep) (as := [.int v1]) (st := []) C rX kX (Nat.le_trans (Nat.le_of_ble_eq_true rfl) hd) (Nat.le_of_ble_eq_true rfl) tw_8_8 tw_8_7 tc_8_9 tw_1_13 hyX12 hnX12_isKind rfl (Nat.le_of_ble_eq_true rfl) dX12_parts_6 (G12_isKind_met C.2.2.2.2.2.2.2.1 (Nat.le_refl _)  h) (fun r0 μ15 hq => ?_)
  obtain ⟨r16, rfl, h⟩ := hq
  refine x_st [.int r16] rfl ?_
  refine x_if_eq (tgt := 24) C dX12_parts_9 (by decide) (fun c17 => ?_) (fun c17 => ?_)
  · have h := h.1 c17
    refine x_iconst (v := (-1)) C (by decide) dX12_parts_24 ?_
    exact x_iret C hr dX12_parts_25 ⟨_, rfl, h⟩
  · have h := h.2 c17
    refine x_iload_n C rfl 2 rfl dX12_parts_12 ?_
    refine x_i2l C dX12_parts_13 ?_
    refine x_lconst (v := 0) C (by decide) dX12_parts_14 ?_
    refine x_ldc2 (v := 99) C tw_6_205 dX12_parts_15 ?_
    refine x_callS (dC := G12_in_dep) (as := [.long (v2.toInt64), .long 0, .long 99]) (st := []) C rX kX (Nat.le_trans (Nat.le_of_ble_eq_true rfl) hd) (Nat.le_of_ble_eq_true rfl) tw_6_183 tw_6_182 tc_6_184 tw_1_13 hyX12 hnX12_in rfl (Nat.le_of_ble_eq_true rfl) dX12_parts_18 (G12_in_met C.2.2.2.2.2.2.2.1 (Nat.le_refl _)  h) (fun r0 μ18 hq => ?_)
    obtain ⟨r19, rfl, h⟩ := hq
    refine x_st [.int r19] rfl ?_
    refine x_if_ne (tgt := 26) C dX12_parts_21 (by decide) (fun c20 => ?_) (fun c20 => ?_)
    · have h := h.1 c20
      refine x_iload_n C rfl 2 rfl dX12_parts_26 ?_
      refine x_aload_n C rfl 0 rfl dX12_parts_27 ?_
      refine x_getR (r := 389) C (j := 47) ob358.1 ob358.2 (Nat.le_of_ble_eq_true rfl) (Nat.le_of_ble_eq_true rfl) (fun _ _ _ => rfl) r_358_47 tw_9_13 dX12_parts_28 ?_
      refine x_iload_n C rfl 1 rfl dX12_parts_31 ?_
      obtain ⟨c21, h⟩ := h
      refine x_iald C ob389.1 ob389.2 c21 rfl dX12_parts_32 ?_
      refine x_isub C dX12_parts_33 ?_
      refine x_topi (fun y22 e_y22 => ?_)
      have h := h y22 e_y22
      refine x_istore_n C [(3, .int y22), (0, .ref 358), (1, .int v1), (2, .int v2)] rfl (Nat.le_of_ble_eq_true rfl) rfl dX12_parts_34 ?_
      refine x_iconst (v := 0) C (by decide) dX12_parts_35 ?_
      refine x_istore C [(4, .int 0), (3, .int y22), (0, .ref 358), (1, .int v1), (2, .int v2)] (Nat.le_of_ble_eq_true rfl) rfl dX12_parts_36 ?_
      refine x_sub [(0, .ref 358), (1, .int v1), (2, .int v2), (3, .int y22), (4, .int 0)] [2, 3, 4, 1, 0] rfl ?_
      exact G12_parts_L38_ok C hd hr  h
    · have h := h.2 c20
      refine x_iconst (v := (-1)) C (by decide) dX12_parts_24 ?_
      exact x_iret C hr dX12_parts_25 ⟨_, rfl, h⟩
set_option maxHeartbeats 4000000 in
set_option maxRecDepth 100000 in
theorem G12_power_L5_b {p : Program} {e : Env} {s : State} {m : MethodId} {args : Array Value} {below : List Frame} {meth : Method} {c : Code} {l : Launch} {φ : Nat → Nat} {tc : Nat → ClassId} {D : va_G} {s0 : State} {dR : Nat} (C : CX p s m args meth c φ tc D (AX φ) s0 cX12_power RX12 6) (hd : G12_power_dep ≤ dR) (hr : meth.sig.returnType = (some .long))  {p0 : Int64} {p2 : Int32} {Q : Int64 → MM → Prop} {K5 : Int64 × Int32 × MM → Prop} {x : Int64 × Int32 × MM}   (hK5 : ∀ (z3 : Int64) (z5 : Int32) (zμ : MM), K5 (z3, z5, zμ) → WX p l e (rmX dR) s m args below meth c φ tc D (AX φ) 6 0 0 (MQ below (QX φ tc D (QJ Q)) args s 0 0 (AX φ)) 5 [(0, .long p0), (2, .int p2), (3, .long z3), (5, .int z5)] [] zμ) (h : G12_power_L5 p0 p2 Q K5 x) : WX p l e (rmX dR) s m args below meth c φ tc D (AX φ) 6 0 0 (MQ below (QX φ tc D (QJ Q)) args s 0 0 (AX φ)) 5 [(0, .long p0), (2, .int p2), (3, .long x.1), (5, .int x.2.1)] [] x.2.2 := by
  unfold G12_power_L5 at h
  refine x_iload C 3 rfl dX12_power_5 ?_
  refine x_iload_n C rfl 1 rfl dX12_power_7 ?_
  refine x_icmp_ge (tgt := 21) C dX12_power_8 (by decide) (fun c2 => ?_) (fun c2 => ?_)
  · have h := h.1 c2
    refine x_lload_n C rfl 2 rfl dX12_power_21 ?_
    exact x_lret C hr dX12_power_22 ⟨_, rfl, h⟩
  · have h := h.2 c2
    refine x_lload_n C rfl 2 rfl dX12_power_11 ?_
    refine x_lload_n C rfl 0 rfl dX12_power_12 ?_
    refine x_lmul C dX12_power_13 ?_
    refine x_topl (fun y3 e_y3 => ?_)
    have h := h y3 e_y3
    refine x_lstore_n C [(3, .long y3), (0, .long p0), (2, .int p2), (5, .int x.2.1)] rfl (Nat.le_of_ble_eq_true rfl) rfl dX12_power_14 ?_
    refine x_iinc (v := (x.2.1 + 1)) C [(5, .int (x.2.1 + 1)), (3, .long y3), (0, .long p0), (2, .int p2)] 3 rfl (congrArg (fun z => x.2.1 + z) (by decide : Int32.ofInt (1) = 1)) (Nat.le_of_ble_eq_true rfl) rfl dX12_power_15 ?_
    refine x_goto (tgt := 5) C dX12_power_18 (by decide) ?_
    refine x_sub [(0, .long p0), (2, .int p2), (3, .long y3), (5, .int (x.2.1 + 1))] [2, 3, 1, 0] rfl ?_
    exact hK5 _ _ _ h
theorem G12_power_L5_ok {p : Program} {e : Env} {s : State} {m : MethodId} {args : Array Value} {below : List Frame} {meth : Method} {c : Code} {l : Launch} {φ : Nat → Nat} {tc : Nat → ClassId} {D : va_G} {s0 : State} {dR : Nat} (C : CX p s m args meth c φ tc D (AX φ) s0 cX12_power RX12 6) (hd : G12_power_dep ≤ dR) (hr : meth.sig.returnType = (some .long))  {p0 : Int64} {p2 : Int32} {Q : Int64 → MM → Prop}  {x : Int64 × Int32 × MM}    (h : Lp (G12_power_L5 p0 p2 Q) x) : WX p l e (rmX dR) s m args below meth c φ tc D (AX φ) 6 0 0 (MQ below (QX φ tc D (QJ Q)) args s 0 0 (AX φ)) 5 [(0, .long p0), (2, .int p2), (3, .long x.1), (5, .int x.2.1)] [] x.2.2 := by
  obtain ⟨n, h⟩ := h
  induction n generalizing x with
  | zero => exact h.elim
  | succ n ih => exact G12_power_L5_b C hd hr   (fun z3 z5 zμ hz => by have q := ih hz; exact q) h
set_option maxHeartbeats 4000000 in
set_option maxRecDepth 100000 in
theorem G12_power_met {l : Launch} {φ : Nat → Nat} {tc : Nat → ClassId} {D : va_G} {s0 : State} (hG : GX φ tc D s0) {dR : Nat} (hd : G12_power_dep ≤ dR) {v0 : Int64} {v2 : Int32} {μ : MM} {Q : Int64 → MM → Prop}  (h : G12_power v0 v2 μ Q) : MX l φ tc D s0 dR yX12_power cX12_power 6 (some .long) [.long v0, .int v2] μ (QJ Q) := by
  refine MX.of (own := RX12) hG plX12 rfl (Nat.le_of_ble_eq_true rfl) (fun p e s m args below meth c C hr => ?_)
  refine x_sub [(0, .long v0), (2, .int v2)] [0, 1] rfl ?_
  unfold G12_power at h
  refine x_lconst (v := 1) C (by decide) dX12_power_0 ?_
  refine x_lstore_n C [(3, .long 1), (0, .long v0), (2, .int v2)] rfl (Nat.le_of_ble_eq_true rfl) rfl dX12_power_1 ?_
  refine x_iconst (v := 0) C (by decide) dX12_power_2 ?_
  refine x_istore C [(5, .int 0), (3, .long 1), (0, .long v0), (2, .int v2)] (Nat.le_of_ble_eq_true rfl) rfl dX12_power_3 ?_
  refine x_sub [(0, .long v0), (2, .int v2), (3, .long 1), (5, .int 0)] [2, 3, 1, 0] rfl ?_
  exact G12_power_L5_ok C hd hr  h
set_option maxHeartbeats 4000000 in
set_option maxRecDepth 100000 in
theorem G12_wouldBe_met {l : Launch} {φ : Nat → Nat} {tc : Nat → ClassId} {D : va_G} {s0 : State} (hG : GX φ tc D s0) {dR : Nat} (hd : G12_wouldBe_dep ≤ dR) {v1 : Int32} {μ : MM} {Q : Int64 → MM → Prop}  (h : G12_wouldBe v1 μ Q) : MX l φ tc D s0 dR yX12_wouldBe cX12_wouldBe 6 (some .long) [.ref 358, .int v1] μ (QJ Q) := by
  refine MX.of (own := RX12) hG plX12 rfl (Nat.le_of_ble_eq_true rfl) (fun p e s m args below meth c C hr => ?_)
  refine x_sub [(0, .ref 358), (1, .int v1)] [0, 1] rfl ?_
  unfold G12_wouldBe at h
  refine x_aload_n C rfl 0 rfl dX12_wouldBe_0 ?_
  refine x_getR (r := 387) C (j := 45) ob358.1 ob358.2 (Nat.le_of_ble_eq_true rfl) (Nat.le_of_ble_eq_true rfl) (fun _ _ _ => rfl) r_358_45 tw_9_11 dX12_wouldBe_1 ?_
  refine x_iload_n C rfl 1 rfl dX12_wouldBe_4 ?_
  obtain ⟨c15, h⟩ := h
  refine x_iald C ob387.1 ob387.2 c15 rfl dX12_wouldBe_5 ?_
  refine x_i2l C dX12_wouldBe_6 ?_
  refine x_aload_n C rfl 0 rfl dX12_wouldBe_7 ?_
  refine x_getR (r := 391) C (j := 49) ob358.1 ob358.2 (Nat.le_of_ble_eq_true rfl) (Nat.le_of_ble_eq_true rfl) (fun _ _ _ => rfl) r_358_49 tw_9_15 dX12_wouldBe_8 ?_
  refine x_iconst (v := 0) C (by decide) dX12_wouldBe_11 ?_
  refine x_iald C ob391.1 ob391.2 (by unfold vp_in; decide) (j := 0) (by decide) dX12_wouldBe_12 ?_
  refine x_callS (dC := G12_power_dep) (as := [.long ((gI μ 387 v1.toNatClampNeg).toInt64), .int (gI μ 391 0)]) (st := []) C rX kX (Nat.le_trans (Nat.le_of_ble_eq_true rfl) hd) (Nat.le_of_ble_eq_true rfl) tw_8_28 tw_8_27 tc_8_29 tw_1_13 hyX12 hnX12_power rfl (Nat.le_of_ble_eq_true rfl) dX12_wouldBe_13 (G12_power_met C.2.2.2.2.2.2.2.1 (Nat.le_refl _)  h) (fun r0 μ16 hq => ?_)
  obtain ⟨r17, rfl, h⟩ := hq
  refine x_st [.long r17] rfl ?_
  refine x_bipush (v := 100) C (by decide) dX12_wouldBe_16 ?_
  refine x_aload_n C rfl 0 rfl dX12_wouldBe_18 ?_
  refine x_getR (r := 387) C (j := 45) ob358.1 ob358.2 (Nat.le_of_ble_eq_true rfl) (Nat.le_of_ble_eq_true rfl) (fun _ _ _ => rfl) r_358_45 tw_9_11 dX12_wouldBe_19 ?_
  refine x_iload_n C rfl 1 rfl dX12_wouldBe_22 ?_
  obtain ⟨c18, h⟩ := h
  refine x_iald C ob387.1 ob387.2 c18 rfl dX12_wouldBe_23 ?_
  refine x_isub C dX12_wouldBe_24 ?_
  refine x_i2l C dX12_wouldBe_25 ?_
  refine x_aload_n C rfl 0 rfl dX12_wouldBe_26 ?_
  refine x_getR (r := 390) C (j := 48) ob358.1 ob358.2 (Nat.le_of_ble_eq_true rfl) (Nat.le_of_ble_eq_true rfl) (fun _ _ _ => rfl) r_358_48 tw_9_14 dX12_wouldBe_27 ?_
  refine x_iconst (v := 0) C (by decide) dX12_wouldBe_30 ?_
  refine x_iald C ob390.1 ob390.2 (by unfold vp_in; decide) (j := 0) (by decide) dX12_wouldBe_31 ?_
  refine x_aload_n C rfl 0 rfl dX12_wouldBe_32 ?_
  refine x_getR (r := 391) C (j := 49) ob358.1 ob358.2 (Nat.le_of_ble_eq_true rfl) (Nat.le_of_ble_eq_true rfl) (fun _ _ _ => rfl) r_358_49 tw_9_15 dX12_wouldBe_33 ?_
  refine x_iconst (v := 0) C (by decide) dX12_wouldBe_36 ?_
  refine x_iald C ob391.1 ob391.2 (by unfold vp_in; decide) (j := 0) (by decide) dX12_wouldBe_37 ?_
  refine x_isub C dX12_wouldBe_38 ?_
  refine x_callS (dC := G12_power_dep) (as := [.long ((100 - (gI μ16 387 v1.toNatClampNeg)).toInt64), .int ((gI μ16 390 0) - (gI μ16 391 0))]) (st := [.long r17]) C rX kX (Nat.le_trans (Nat.le_of_ble_eq_true rfl) hd) (Nat.le_of_ble_eq_true rfl) tw_8_28 tw_8_27 tc_8_29 tw_1_13 hyX12 hnX12_power rfl (Nat.le_of_ble_eq_true rfl) dX12_wouldBe_39 (G12_power_met C.2.2.2.2.2.2.2.1 (Nat.le_refl _)  h) (fun r0 μ19 hq => ?_)
  obtain ⟨r20, rfl, h⟩ := hq
  refine x_st [.long r20, .long r17] rfl ?_
  refine x_lmul C dX12_wouldBe_42 ?_
  refine x_topl (fun y21 e_y21 => ?_)
  have h := h y21 e_y21
  refine x_lstore_n C [(2, .long y21), (0, .ref 358), (1, .int v1)] rfl (Nat.le_of_ble_eq_true rfl) rfl dX12_wouldBe_43 ?_
  refine x_aload_n C rfl 1 rfl dX12_wouldBe_44 ?_
  refine x_getR (r := 388) C (j := 46) ob358.1 ob358.2 (Nat.le_of_ble_eq_true rfl) (Nat.le_of_ble_eq_true rfl) (fun _ _ _ => rfl) r_358_46 tw_9_12 dX12_wouldBe_45 ?_
  refine x_iload_n C rfl 2 rfl dX12_wouldBe_48 ?_
  obtain ⟨c22, h⟩ := h
  refine x_iald C ob388.1 ob388.2 c22 rfl dX12_wouldBe_49 ?_
  refine x_i2l C dX12_wouldBe_50 ?_
  refine x_aload_n C rfl 1 rfl dX12_wouldBe_51 ?_
  refine x_getR (r := 391) C (j := 49) ob358.1 ob358.2 (Nat.le_of_ble_eq_true rfl) (Nat.le_of_ble_eq_true rfl) (fun _ _ _ => rfl) r_358_49 tw_9_15 dX12_wouldBe_52 ?_
  refine x_iconst (v := 1) C (by decide) dX12_wouldBe_55 ?_
  refine x_iald C ob391.1 ob391.2 (by unfold vp_in; decide) (j := 1) (by decide) dX12_wouldBe_56 ?_
  refine x_callS (dC := G12_power_dep) (as := [.long ((gI μ19 388 v1.toNatClampNeg).toInt64), .int (gI μ19 391 1)]) (st := []) C rX kX (Nat.le_trans (Nat.le_of_ble_eq_true rfl) hd) (Nat.le_of_ble_eq_true rfl) tw_8_28 tw_8_27 tc_8_29 tw_1_13 hyX12 hnX12_power rfl (Nat.le_of_ble_eq_true rfl) dX12_wouldBe_57 (G12_power_met C.2.2.2.2.2.2.2.1 (Nat.le_refl _)  h) (fun r0 μ23 hq => ?_)
  obtain ⟨r24, rfl, h⟩ := hq
  refine x_st [.long r24] rfl ?_
  refine x_bipush (v := 100) C (by decide) dX12_wouldBe_60 ?_
  refine x_aload_n C rfl 1 rfl dX12_wouldBe_62 ?_
  refine x_getR (r := 388) C (j := 46) ob358.1 ob358.2 (Nat.le_of_ble_eq_true rfl) (Nat.le_of_ble_eq_true rfl) (fun _ _ _ => rfl) r_358_46 tw_9_12 dX12_wouldBe_63 ?_
  refine x_iload_n C rfl 2 rfl dX12_wouldBe_66 ?_
  obtain ⟨c25, h⟩ := h
  refine x_iald C ob388.1 ob388.2 c25 rfl dX12_wouldBe_67 ?_
  refine x_isub C dX12_wouldBe_68 ?_
  refine x_i2l C dX12_wouldBe_69 ?_
  refine x_aload_n C rfl 1 rfl dX12_wouldBe_70 ?_
  refine x_getR (r := 390) C (j := 48) ob358.1 ob358.2 (Nat.le_of_ble_eq_true rfl) (Nat.le_of_ble_eq_true rfl) (fun _ _ _ => rfl) r_358_48 tw_9_14 dX12_wouldBe_71 ?_
  refine x_iconst (v := 1) C (by decide) dX12_wouldBe_74 ?_
  refine x_iald C ob390.1 ob390.2 (by unfold vp_in; decide) (j := 1) (by decide) dX12_wouldBe_75 ?_
  refine x_aload_n C rfl 1 rfl dX12_wouldBe_76 ?_
  refine x_getR (r := 391) C (j := 49) ob358.1 ob358.2 (Nat.le_of_ble_eq_true rfl) (Nat.le_of_ble_eq_true rfl) (fun _ _ _ => rfl) r_358_49 tw_9_15 dX12_wouldBe_77 ?_
  refine x_iconst (v := 1) C (by decide) dX12_wouldBe_80 ?_
  refine x_iald C ob391.1 ob391.2 (by unfold vp_in; decide) (j := 1) (by decide) dX12_wouldBe_81 ?_
  refine x_isub C dX12_wouldBe_82 ?_
  refine x_callS (dC := G12_power_dep) (as := [.long ((100 - (gI μ23 388 v1.toNatClampNeg)).toInt64), .int ((gI μ23 390 1) - (gI μ23 391 1))]) (st := [.long r24]) C rX kX (Nat.le_trans (Nat.le_of_ble_eq_true rfl) hd) (Nat.le_of_ble_eq_true rfl) tw_8_28 tw_8_27 tc_8_29 tw_1_13 hyX12 hnX12_power rfl (Nat.le_of_ble_eq_true rfl) dX12_wouldBe_83 (G12_power_met C.2.2.2.2.2.2.2.1 (Nat.le_refl _)  h) (fun r0 μ26 hq => ?_)
  obtain ⟨r27, rfl, h⟩ := hq
  refine x_st [.long r27, .long r24] rfl ?_
  refine x_lmul C dX12_wouldBe_86 ?_
  refine x_topl (fun y28 e_y28 => ?_)
  have h := h y28 e_y28
  refine x_lstore C [(4, .long y28), (2, .long y21), (0, .ref 358), (1, .int v1)] (Nat.le_of_ble_eq_true rfl) rfl dX12_wouldBe_87 ?_
  refine x_lload_n C rfl 1 rfl dX12_wouldBe_89 ?_
  refine x_lload C 0 rfl dX12_wouldBe_90 ?_
  refine x_lmul C dX12_wouldBe_92 ?_
  exact x_lret C hr dX12_wouldBe_93 ⟨_, rfl, h⟩
set_option maxHeartbeats 4000000 in
set_option maxRecDepth 100000 in
theorem G12_allKinds_L4_b {p : Program} {e : Env} {s : State} {m : MethodId} {args : Array Value} {below : List Frame} {meth : Method} {c : Code} {l : Launch} {φ : Nat → Nat} {tc : Nat → ClassId} {D : va_G} {s0 : State} {dR : Nat} (C : CX p s m args meth c φ tc D (AX φ) s0 cX12_allKinds RX12 4) (hd : G12_allKinds_dep ≤ dR) (hr : meth.sig.returnType = (some .long))   {Q : Int64 → MM → Prop} {K4 : Int64 × Int32 × MM → Prop} {x : Int64 × Int32 × MM}   (hK4 : ∀ (z1 : Int64) (z3 : Int32) (zμ : MM), K4 (z1, z3, zμ) → WX p l e (rmX dR) s m args below meth c φ tc D (AX φ) 4 0 0 (MQ below (QX φ tc D (QJ Q)) args s 0 0 (AX φ)) 4 [(0, .ref 358), (1, .long z1), (3, .int z3)] [] zμ) (h : G12_allKinds_L4  Q K4 x) : WX p l e (rmX dR) s m args below meth c φ tc D (AX φ) 4 0 0 (MQ below (QX φ tc D (QJ Q)) args s 0 0 (AX φ)) 4 [(0, .ref 358), (1, .long x.1), (3, .int x.2.1)] [] x.2.2 := by
  unfold G12_allKinds_L4 at h
  refine x_iload_n C rfl 2 rfl dX12_allKinds_4 ?_
  refine x_iconst (v := 4) C (by decide) dX12_allKinds_5 ?_
  refine x_icmp_ge (tgt := 31) C dX12_allKinds_6 (by decide) (fun c5 => ?_) (fun c5 => ?_)
  · have h := h.1 c5
    refine x_lload_n C rfl 1 rfl dX12_allKinds_31 ?_
    exact x_lret C hr dX12_allKinds_32 ⟨_, rfl, h⟩
  · have h := h.2 c5
    refine x_lload_n C rfl 1 rfl dX12_allKinds_9 ?_
    refine x_aload_n C rfl 0 rfl dX12_allKinds_10 ?_
    refine x_getR (r := 389) C (j := 47) ob358.1 ob358.2 (Nat.le_of_ble_eq_true rfl) (Nat.le_of_ble_eq_true rfl) (fun _ _ _ => rfl) r_358_47 tw_9_13 dX12_allKinds_11 ?_
    refine x_iload_n C rfl 2 rfl dX12_allKinds_14 ?_
    obtain ⟨c6, h⟩ := h
    refine x_iald C ob389.1 ob389.2 c6 rfl dX12_allKinds_15 ?_
    refine x_i2l C dX12_allKinds_16 ?_
    refine x_aload_n C rfl 0 rfl dX12_allKinds_17 ?_
    refine x_iload_n C rfl 2 rfl dX12_allKinds_18 ?_
    refine x_callV (dC := G12_wouldBe_dep) (as := [.int x.2.1]) (st := [.long ((gI x.2.2 389 x.2.1.toNatClampNeg).toInt64), .long x.1]) C rX kX (Nat.le_trans (Nat.le_of_ble_eq_true rfl) hd) (Nat.le_of_ble_eq_true rfl) ob358.1 ob358.2 (Nat.le_of_ble_eq_true rfl) rfl ts_10_10 tw_8_25 tw_8_23 tc_8_26 tw_1_13 hyX12 hnX12_wouldBe rfl (Nat.le_of_ble_eq_true rfl) dX12_allKinds_19 (G12_wouldBe_met C.2.2.2.2.2.2.2.1 (Nat.le_refl _)  h) (fun r0 μ7 hq => ?_)
    obtain ⟨r8, rfl, h⟩ := hq
    refine x_st [.long r8, .long ((gI x.2.2 389 x.2.1.toNatClampNeg).toInt64), .long x.1] rfl ?_
    refine x_lmul C dX12_allKinds_22 ?_
    refine x_ladd C dX12_allKinds_23 ?_
    refine x_topl (fun y9 e_y9 => ?_)
    have h := h y9 e_y9
    refine x_lstore_n C [(1, .long y9), (0, .ref 358), (3, .int x.2.1)] rfl (Nat.le_of_ble_eq_true rfl) rfl dX12_allKinds_24 ?_
    refine x_iinc (v := (x.2.1 + 1)) C [(3, .int (x.2.1 + 1)), (1, .long y9), (0, .ref 358)] 2 rfl (congrArg (fun z => x.2.1 + z) (by decide : Int32.ofInt (1) = 1)) (Nat.le_of_ble_eq_true rfl) rfl dX12_allKinds_25 ?_
    refine x_goto (tgt := 4) C dX12_allKinds_28 (by decide) ?_
    refine x_sub [(0, .ref 358), (1, .long y9), (3, .int (x.2.1 + 1))] [2, 1, 0] rfl ?_
    exact hK4 _ _ _ h
theorem G12_allKinds_L4_ok {p : Program} {e : Env} {s : State} {m : MethodId} {args : Array Value} {below : List Frame} {meth : Method} {c : Code} {l : Launch} {φ : Nat → Nat} {tc : Nat → ClassId} {D : va_G} {s0 : State} {dR : Nat} (C : CX p s m args meth c φ tc D (AX φ) s0 cX12_allKinds RX12 4) (hd : G12_allKinds_dep ≤ dR) (hr : meth.sig.returnType = (some .long))   {Q : Int64 → MM → Prop}  {x : Int64 × Int32 × MM}    (h : Lp (G12_allKinds_L4  Q) x) : WX p l e (rmX dR) s m args below meth c φ tc D (AX φ) 4 0 0 (MQ below (QX φ tc D (QJ Q)) args s 0 0 (AX φ)) 4 [(0, .ref 358), (1, .long x.1), (3, .int x.2.1)] [] x.2.2 := by
  obtain ⟨n, h⟩ := h
  induction n generalizing x with
  | zero => exact h.elim
  | succ n ih => exact G12_allKinds_L4_b C hd hr   (fun z1 z3 zμ hz => by have q := ih hz; exact q) h
set_option maxHeartbeats 4000000 in
set_option maxRecDepth 100000 in
theorem G12_allKinds_met {l : Launch} {φ : Nat → Nat} {tc : Nat → ClassId} {D : va_G} {s0 : State} (hG : GX φ tc D s0) {dR : Nat} (hd : G12_allKinds_dep ≤ dR)  {μ : MM} {Q : Int64 → MM → Prop}  (h : G12_allKinds  μ Q) : MX l φ tc D s0 dR yX12_allKinds cX12_allKinds 4 (some .long) [.ref 358] μ (QJ Q) := by
  refine MX.of (own := RX12) hG plX12 rfl (Nat.le_of_ble_eq_true rfl) (fun p e s m args below meth c C hr => ?_)
  refine x_sub [(0, .ref 358)] [0] rfl ?_
  unfold G12_allKinds at h
  refine x_lconst (v := 0) C (by decide) dX12_allKinds_0 ?_
  refine x_lstore_n C [(1, .long 0), (0, .ref 358)] rfl (Nat.le_of_ble_eq_true rfl) rfl dX12_allKinds_1 ?_
  refine x_iconst (v := 0) C (by decide) dX12_allKinds_2 ?_
  refine x_istore_n C [(3, .int 0), (1, .long 0), (0, .ref 358)] rfl (Nat.le_of_ble_eq_true rfl) rfl dX12_allKinds_3 ?_
  refine x_sub [(0, .ref 358), (1, .long 0), (3, .int 0)] [2, 1, 0] rfl ?_
  exact G12_allKinds_L4_ok C hd hr  h
set_option maxHeartbeats 4000000 in
set_option maxRecDepth 100000 in
theorem G12_likelyOf_met {l : Launch} {φ : Nat → Nat} {tc : Nat → ClassId} {D : va_G} {s0 : State} (hG : GX φ tc D s0) {dR : Nat} (hd : G12_likelyOf_dep ≤ dR) {v1 : Int32} {μ : MM} {Q : Int64 → MM → Prop}  (h : G12_likelyOf v1 μ Q) : MX l φ tc D s0 dR yX12_likelyOf cX12_likelyOf 2 (some .long) [.ref 358, .int v1] μ (QJ Q) := by
  refine MX.of (own := RX12) hG plX12 rfl (Nat.le_of_ble_eq_true rfl) (fun p e s m args below meth c C hr => ?_)
  refine x_sub [(0, .ref 358), (1, .int v1)] [0, 1] rfl ?_
  unfold G12_likelyOf at h
  refine x_ldcw (v := 1000000) C tw_8_34 dX12_likelyOf_0 ?_
  refine x_aload_n C rfl 0 rfl dX12_likelyOf_3 ?_
  refine x_getR (r := 389) C (j := 47) ob358.1 ob358.2 (Nat.le_of_ble_eq_true rfl) (Nat.le_of_ble_eq_true rfl) (fun _ _ _ => rfl) r_358_47 tw_9_13 dX12_likelyOf_4 ?_
  refine x_iload_n C rfl 1 rfl dX12_likelyOf_7 ?_
  obtain ⟨c7, h⟩ := h
  refine x_iald C ob389.1 ob389.2 c7 rfl dX12_likelyOf_8 ?_
  refine x_imul C dX12_likelyOf_9 ?_
  refine x_i2l C dX12_likelyOf_10 ?_
  refine x_aload_n C rfl 0 rfl dX12_likelyOf_11 ?_
  refine x_iload_n C rfl 1 rfl dX12_likelyOf_12 ?_
  refine x_callV (dC := G12_wouldBe_dep) (as := [.int v1]) (st := [.long ((1000000 * (gI μ 389 v1.toNatClampNeg)).toInt64)]) C rX kX (Nat.le_trans (Nat.le_of_ble_eq_true rfl) hd) (Nat.le_of_ble_eq_true rfl) ob358.1 ob358.2 (Nat.le_of_ble_eq_true rfl) rfl ts_10_10 tw_8_25 tw_8_23 tc_8_26 tw_1_13 hyX12 hnX12_wouldBe rfl (Nat.le_of_ble_eq_true rfl) dX12_likelyOf_13 (G12_wouldBe_met C.2.2.2.2.2.2.2.1 (Nat.le_refl _)  h) (fun r0 μ8 hq => ?_)
  obtain ⟨r9, rfl, h⟩ := hq
  refine x_st [.long r9, .long ((1000000 * (gI μ 389 v1.toNatClampNeg)).toInt64)] rfl ?_
  refine x_lmul C dX12_likelyOf_16 ?_
  refine x_aload_n C rfl 0 rfl dX12_likelyOf_17 ?_
  refine x_callV (dC := G12_allKinds_dep) (as := []) (st := [.long (((1000000 * (gI μ 389 v1.toNatClampNeg)).toInt64) * r9)]) C rX kX (Nat.le_trans (Nat.le_of_ble_eq_true rfl) hd) (Nat.le_of_ble_eq_true rfl) ob358.1 ob358.2 (Nat.le_of_ble_eq_true rfl) rfl ts_10_9 tw_8_21 tw_8_19 tc_8_22 tw_1_13 hyX12 hnX12_allKinds rfl (Nat.le_of_ble_eq_true rfl) dX12_likelyOf_18 (G12_allKinds_met C.2.2.2.2.2.2.2.1 (Nat.le_refl _)  h) (fun r0 μ10 hq => ?_)
  obtain ⟨r11, rfl, h⟩ := hq
  refine x_st [.long r11, .long (((1000000 * (gI μ 389 v1.toNatClampNeg)).toInt64) * r9)] rfl ?_
  obtain ⟨c12, h⟩ := h
  refine x_ldiv C c12 dX12_likelyOf_21 ?_
  exact x_lret C hr dX12_likelyOf_22 ⟨_, rfl, h⟩
set_option maxHeartbeats 4000000 in
set_option maxRecDepth 100000 in
theorem G12_likely_met {l : Launch} {φ : Nat → Nat} {tc : Nat → ClassId} {D : va_G} {s0 : State} (hG : GX φ tc D s0) {dR : Nat} (hd : G12_likely_dep ≤ dR) {v1 : Int32} {v2 : Int32} {μ : MM} {Q : Int32 → MM → Prop}  (h : G12_likely v1 v2 μ Q) : MX l φ tc D s0 dR yX12_likely cX12_likely 3 (some .int) [.ref 358, .int v1, .int v2] μ (QI Q) := by
  refine MX.of (own := RX12) hG plX12 rfl (Nat.le_of_ble_eq_true rfl) (fun p e s m args below meth c C hr => ?_)
  refine x_sub [(0, .ref 358), (1, .int v1), (2, .int v2)] [0, 1, 2] rfl ?_
  unfold G12_likely at h
  refine x_aload_n C rfl 0 rfl dX12_likely_0 ?_
  refine x_iconst (v := 0) C (by decide) dX12_likely_1 ?_
  refine x_putI C (j := 0) ob358.1 ob358.2 (Nat.le_of_ble_eq_true rfl) (Nat.le_of_ble_eq_true rfl) (Or.inl rfl) rfl rfl rfl tw_8_206 dX12_likely_2 ?_
  refine x_mu (fun μ12 e_μ12 => ?_)
  have h := h μ12 e_μ12
  refine x_aload_n C rfl 0 rfl dX12_likely_5 ?_
  refine x_iload_n C rfl 1 rfl dX12_likely_6 ?_
  refine x_callV (dC := G12_isHouse_dep) (as := [.int v1]) (st := []) C rX kX (Nat.le_trans (Nat.le_of_ble_eq_true rfl) hd) (Nat.le_of_ble_eq_true rfl) ob358.1 ob358.2 (Nat.le_of_ble_eq_true rfl) rfl ts_8_8 tw_6_198 tw_6_196 tc_6_200 tw_1_13 hyX12 hnX12_isHouse rfl (Nat.le_of_ble_eq_true rfl) dX12_likely_7 (G12_isHouse_met C.2.2.2.2.2.2.2.1 (Nat.le_refl _)  h) (fun r0 μ13 hq => ?_)
  obtain ⟨r14, rfl, h⟩ := hq
  refine x_st [.int r14] rfl ?_
  refine x_if_eq (tgt := 20) C dX12_likely_10 (by decide) (fun c15 => ?_) (fun c15 => ?_)
  · have h := h.1 c15
    refine x_iconst (v := (-1)) C (by decide) dX12_likely_20 ?_
    exact x_iret C hr dX12_likely_21 ⟨_, rfl, h⟩
  · have h := h.2 c15
    refine x_iload_n C rfl 2 rfl dX12_likely_13 ?_
    refine x_callS (dC := G12_isKind_dep) (as := [.int v2]) (st := []) C rX kX (Nat.le_trans (Nat.le_of_ble_eq_true rfl) hd) (Nat.le_of_ble_eq_true rfl) tw_8_8 tw_8_7 tc_8_9 tw_1_13 hyX12 hnX12_isKind rfl (Nat.le_of_ble_eq_true rfl) dX12_likely_14 (G12_isKind_met C.2.2.2.2.2.2.2.1 (Nat.le_refl _)  h) (fun r0 μ16 hq => ?_)
    obtain ⟨r17, rfl, h⟩ := hq
    refine x_st [.int r17] rfl ?_
    refine x_if_ne (tgt := 22) C dX12_likely_17 (by decide) (fun c18 => ?_) (fun c18 => ?_)
    · have h := h.1 c18
      refine x_aload_n C rfl 0 rfl dX12_likely_22 ?_
      refine x_iload_n C rfl 1 rfl dX12_likely_23 ?_
      refine x_callV (dC := G12_countsHouse_dep) (as := [.int v1]) (st := []) C rX kX (Nat.le_trans (Nat.le_of_ble_eq_true rfl) hd) (Nat.le_of_ble_eq_true rfl) ob358.1 ob358.2 (Nat.le_of_ble_eq_true rfl) rfl ts_10_8 tw_8_1 tw_7_239 tc_8_2 tw_1_13 hyX12 hnX12_countsHouse rfl (Nat.le_of_ble_eq_true rfl) dX12_likely_24 (G12_countsHouse_met C.2.2.2.2.2.2.2.1 (Nat.le_refl _)  h) (fun r0 μ19 hq => ?_)
      obtain ⟨r20, rfl, h⟩ := hq
      refine x_st [.int r20] rfl ?_
      refine x_pop C rfl dX12_likely_27 ?_
      refine x_aload_n C rfl 0 rfl dX12_likely_28 ?_
      refine x_callV (dC := G12_allKinds_dep) (as := []) (st := []) C rX kX (Nat.le_trans (Nat.le_of_ble_eq_true rfl) hd) (Nat.le_of_ble_eq_true rfl) ob358.1 ob358.2 (Nat.le_of_ble_eq_true rfl) rfl ts_10_9 tw_8_21 tw_8_19 tc_8_22 tw_1_13 hyX12 hnX12_allKinds rfl (Nat.le_of_ble_eq_true rfl) dX12_likely_29 (G12_allKinds_met C.2.2.2.2.2.2.2.1 (Nat.le_refl _)  h) (fun r0 μ21 hq => ?_)
      obtain ⟨r22, rfl, h⟩ := hq
      refine x_st [.long r22] rfl ?_
      refine x_lconst (v := 0) C (by decide) dX12_likely_32 ?_
      refine x_lcmp C dX12_likely_33 ?_
      refine x_if_ne (tgt := 42) C dX12_likely_34 (by decide) (fun c23 => ?_) (fun c23 => ?_)
      · have h := h.1 c23
        refine x_aload_n C rfl 0 rfl dX12_likely_42 ?_
        refine x_iload_n C rfl 2 rfl dX12_likely_43 ?_
        refine x_callV (dC := G12_likelyOf_dep) (as := [.int v2]) (st := []) C rX kX (Nat.le_trans (Nat.le_of_ble_eq_true rfl) hd) (Nat.le_of_ble_eq_true rfl) ob358.1 ob358.2 (Nat.le_of_ble_eq_true rfl) rfl ts_10_11 tw_8_32 tw_8_30 tc_8_33 tw_1_13 hyX12 hnX12_likelyOf rfl (Nat.le_of_ble_eq_true rfl) dX12_likely_44 (G12_likelyOf_met C.2.2.2.2.2.2.2.1 (Nat.le_refl _)  h) (fun r0 μ24 hq => ?_)
        obtain ⟨r25, rfl, h⟩ := hq
        refine x_st [.long r25] rfl ?_
        refine x_l2i C dX12_likely_47 ?_
        exact x_iret C hr dX12_likely_48 ⟨_, rfl, h⟩
      · have h := h.2 c23
        refine x_bipush (v := (-2)) C (by decide) dX12_likely_37 ?_
        refine x_goto (tgt := 48) C dX12_likely_39 (by decide) ?_
        exact x_iret C hr dX12_likely_48 ⟨_, rfl, h⟩
    · have h := h.2 c18
      refine x_iconst (v := (-1)) C (by decide) dX12_likely_20 ?_
      exact x_iret C hr dX12_likely_21 ⟨_, rfl, h⟩
set_option maxHeartbeats 4000000 in
set_option maxRecDepth 100000 in
theorem G12_becomes_L2_b {p : Program} {e : Env} {s : State} {m : MethodId} {args : Array Value} {below : List Frame} {meth : Method} {c : Code} {l : Launch} {φ : Nat → Nat} {tc : Nat → ClassId} {D : va_G} {s0 : State} {dR : Nat} (C : CX p s m args meth c φ tc D (AX φ) s0 cX12_becomes RX12 3) (hd : G12_becomes_dep ≤ dR) (hr : meth.sig.returnType = none) {a0 : Nat} {a1 : Nat}  {Q : MM → Prop} {K2 : Int32 × MM → Prop} {x : Int32 × MM} (o_a0 : Ob a0 13) (o_a1 : Ob a1 13)  (hK2 : ∀ (z2 : Int32) (zμ : MM), K2 (z2, zμ) → WX p l e (rmX dR) s m args below meth c φ tc D (AX φ) 3 0 0 (MQ below (QX φ tc D (QV Q)) args s 0 0 (AX φ)) 2 [(0, .ref a0), (1, .ref a1), (2, .int z2)] [] zμ) (h : G12_becomes_L2 a0 a1 Q K2 x) : WX p l e (rmX dR) s m args below meth c φ tc D (AX φ) 3 0 0 (MQ below (QX φ tc D (QV Q)) args s 0 0 (AX φ)) 2 [(0, .ref a0), (1, .ref a1), (2, .int x.1)] [] x.2 := by
  unfold G12_becomes_L2 at h
  refine x_iload_n C rfl 2 rfl dX12_becomes_2 ?_
  refine x_aload_n C rfl 1 rfl dX12_becomes_3 ?_
  refine x_iconst (v := 0) C (by decide) dX12_becomes_4 ?_
  obtain ⟨c5, h⟩ := h
  refine x_iald C o_a1.1 o_a1.2 c5 (j := 0) (by decide) dX12_becomes_5 ?_
  refine x_icmp_gt (tgt := 21) C dX12_becomes_6 (by decide) (fun c6 => ?_) (fun c6 => ?_)
  · have h := h.1 c6
    exact x_vret C hr dX12_becomes_21 ⟨rfl, h⟩
  · have h := h.2 c6
    refine x_aload_n C rfl 0 rfl dX12_becomes_9 ?_
    refine x_iload_n C rfl 2 rfl dX12_becomes_10 ?_
    refine x_aload_n C rfl 1 rfl dX12_becomes_11 ?_
    refine x_iload_n C rfl 2 rfl dX12_becomes_12 ?_
    obtain ⟨c7, h⟩ := h
    refine x_iald C o_a1.1 o_a1.2 c7 rfl dX12_becomes_13 ?_
    obtain ⟨c8, h⟩ := h
    refine x_iast C o_a0.1 o_a0.2 c8 rfl dX12_becomes_14 ?_
    refine x_mu (fun μ9 e_μ9 => ?_)
    have h := h μ9 e_μ9
    refine x_iinc (v := (x.1 + 1)) C [(2, .int (x.1 + 1)), (0, .ref a0), (1, .ref a1)] 2 rfl (congrArg (fun z => x.1 + z) (by decide : Int32.ofInt (1) = 1)) (Nat.le_of_ble_eq_true rfl) rfl dX12_becomes_15 ?_
    refine x_goto (tgt := 2) C dX12_becomes_18 (by decide) ?_
    refine x_sub [(0, .ref a0), (1, .ref a1), (2, .int (x.1 + 1))] [1, 2, 0] rfl ?_
    exact hK2 _ _ h
theorem G12_becomes_L2_ok {p : Program} {e : Env} {s : State} {m : MethodId} {args : Array Value} {below : List Frame} {meth : Method} {c : Code} {l : Launch} {φ : Nat → Nat} {tc : Nat → ClassId} {D : va_G} {s0 : State} {dR : Nat} (C : CX p s m args meth c φ tc D (AX φ) s0 cX12_becomes RX12 3) (hd : G12_becomes_dep ≤ dR) (hr : meth.sig.returnType = none) {a0 : Nat} {a1 : Nat}  {Q : MM → Prop}  {x : Int32 × MM} (o_a0 : Ob a0 13) (o_a1 : Ob a1 13)   (h : Lp (G12_becomes_L2 a0 a1 Q) x) : WX p l e (rmX dR) s m args below meth c φ tc D (AX φ) 3 0 0 (MQ below (QX φ tc D (QV Q)) args s 0 0 (AX φ)) 2 [(0, .ref a0), (1, .ref a1), (2, .int x.1)] [] x.2 := by
  obtain ⟨n, h⟩ := h
  induction n generalizing x with
  | zero => exact h.elim
  | succ n ih => exact G12_becomes_L2_b C hd hr o_a0 o_a1  (fun z2 zμ hz => by have q := ih hz; exact q) h
set_option maxHeartbeats 4000000 in
set_option maxRecDepth 100000 in
theorem G12_becomes_met {l : Launch} {φ : Nat → Nat} {tc : Nat → ClassId} {D : va_G} {s0 : State} (hG : GX φ tc D s0) {dR : Nat} (hd : G12_becomes_dep ≤ dR) {a0 : Nat} {a1 : Nat} {μ : MM} {Q : MM → Prop} (o_a0 : Ob a0 13) (o_a1 : Ob a1 13) (h : G12_becomes a0 a1 μ Q) : MX l φ tc D s0 dR yX12_becomes cX12_becomes 3 none [.ref a0, .ref a1] μ (QV Q) := by
  refine MX.of (own := RX12) hG plX12 rfl (Nat.le_of_ble_eq_true rfl) (fun p e s m args below meth c C hr => ?_)
  refine x_sub [(0, .ref a0), (1, .ref a1)] [0, 1] rfl ?_
  unfold G12_becomes at h
  refine x_iconst (v := 0) C (by decide) dX12_becomes_0 ?_
  refine x_istore_n C [(2, .int 0), (0, .ref a0), (1, .ref a1)] rfl (Nat.le_of_ble_eq_true rfl) rfl dX12_becomes_1 ?_
  refine x_sub [(0, .ref a0), (1, .ref a1), (2, .int 0)] [1, 2, 0] rfl ?_
  exact G12_becomes_L2_ok C hd hr o_a0 o_a1 h
set_option maxHeartbeats 4000000 in
set_option maxRecDepth 100000 in
theorem G12_isSmall_met {l : Launch} {φ : Nat → Nat} {tc : Nat → ClassId} {D : va_G} {s0 : State} (hG : GX φ tc D s0) {dR : Nat} (hd : G12_isSmall_dep ≤ dR) {a0 : Nat} {v1 : Int32} {μ : MM} {Q : MM → Prop} (o_a0 : Ob a0 13) (h : G12_isSmall a0 v1 μ Q) : MX l φ tc D s0 dR yX12_isSmall cX12_isSmall 2 none [.ref a0, .int v1] μ (QV Q) := by
  refine MX.of (own := RX12) hG plX12 rfl (Nat.le_of_ble_eq_true rfl) (fun p e s m args below meth c C hr => ?_)
  refine x_sub [(0, .ref a0), (1, .int v1)] [0, 1] rfl ?_
  unfold G12_isSmall at h
  refine x_aload_n C rfl 0 rfl dX12_isSmall_0 ?_
  refine x_iconst (v := 0) C (by decide) dX12_isSmall_1 ?_
  refine x_iconst (v := 1) C (by decide) dX12_isSmall_2 ?_
  obtain ⟨c5, h⟩ := h
  refine x_iast C o_a0.1 o_a0.2 c5 (j := 0) (by decide) dX12_isSmall_3 ?_
  refine x_mu (fun μ6 e_μ6 => ?_)
  have h := h μ6 e_μ6
  refine x_aload_n C rfl 0 rfl dX12_isSmall_4 ?_
  refine x_iconst (v := 1) C (by decide) dX12_isSmall_5 ?_
  refine x_iload_n C rfl 1 rfl dX12_isSmall_6 ?_
  obtain ⟨c7, h⟩ := h
  refine x_iast C o_a0.1 o_a0.2 c7 (j := 1) (by decide) dX12_isSmall_7 ?_
  refine x_mu (fun μ8 e_μ8 => ?_)
  have h := h μ8 e_μ8
  exact x_vret C hr dX12_isSmall_8 ⟨rfl, h⟩
set_option maxHeartbeats 4000000 in
set_option maxRecDepth 100000 in
theorem G12_times_L78_b {p : Program} {e : Env} {s : State} {m : MethodId} {args : Array Value} {below : List Frame} {meth : Method} {c : Code} {l : Launch} {φ : Nat → Nat} {tc : Nat → ClassId} {D : va_G} {s0 : State} {dR : Nat} (C : CX p s m args meth c φ tc D (AX φ) s0 cX12_times RX12 6) (hd : G12_times_dep ≤ dR) (hr : meth.sig.returnType = none) {a0 : Nat}  {Q : MM → Prop} {K78 : MM → Prop} {x : MM} (o_a0 : Ob a0 13)  (hK78 : ∀ (zμ : MM), K78 zμ → WX p l e (rmX dR) s m args below meth c φ tc D (AX φ) 6 0 0 (MQ below (QX φ tc D (QV Q)) args s 0 0 (AX φ)) 78 [(0, .ref a0)] [] zμ) (h : G12_times_L78 a0 Q K78 x) : WX p l e (rmX dR) s m args below meth c φ tc D (AX φ) 6 0 0 (MQ below (QX φ tc D (QV Q)) args s 0 0 (AX φ)) 78 [(0, .ref a0)] [] x := by
  unfold G12_times_L78 at h
  refine x_aload_n C rfl 0 rfl dX12_times_78 ?_
  refine x_iconst (v := 0) C (by decide) dX12_times_79 ?_
  obtain ⟨c23, h⟩ := h
  refine x_iald C o_a0.1 o_a0.2 c23 (j := 0) (by decide) dX12_times_80 ?_
  refine x_iconst (v := 1) C (by decide) dX12_times_81 ?_
  refine x_icmp_le (tgt := 103) C dX12_times_82 (by decide) (fun c24 => ?_) (fun c24 => ?_)
  · have h := h.1 c24
    exact x_vret C hr dX12_times_103 ⟨rfl, h⟩
  · have h := h.2 c24
    refine x_aload_n C rfl 0 rfl dX12_times_85 ?_
    refine x_aload_n C rfl 0 rfl dX12_times_86 ?_
    refine x_iconst (v := 0) C (by decide) dX12_times_87 ?_
    obtain ⟨c25, h⟩ := h
    refine x_iald C o_a0.1 o_a0.2 c25 (j := 0) (by decide) dX12_times_88 ?_
    obtain ⟨c26, h⟩ := h
    refine x_iald C o_a0.1 o_a0.2 c26 rfl dX12_times_89 ?_
    refine x_if_ne (tgt := 103) C dX12_times_90 (by decide) (fun c27 => ?_) (fun c27 => ?_)
    · have h := h.1 c27
      exact x_vret C hr dX12_times_103 ⟨rfl, h⟩
    · have h := h.2 c27
      refine x_aload_n C rfl 0 rfl dX12_times_93 ?_
      refine x_iconst (v := 0) C (by decide) dX12_times_94 ?_
      refine x_dup2_11 C rfl rfl dX12_times_95 ?_
      obtain ⟨c28, h⟩ := h
      refine x_iald C o_a0.1 o_a0.2 c28 (j := 0) (by decide) dX12_times_96 ?_
      refine x_iconst (v := 1) C (by decide) dX12_times_97 ?_
      refine x_isub C dX12_times_98 ?_
      obtain ⟨c29, h⟩ := h
      refine x_iast C o_a0.1 o_a0.2 c29 (j := 0) (by decide) dX12_times_99 ?_
      refine x_mu (fun μ30 e_μ30 => ?_)
      have h := h μ30 e_μ30
      refine x_goto (tgt := 78) C dX12_times_100 (by decide) ?_
      exact hK78 _ h
theorem G12_times_L78_ok {p : Program} {e : Env} {s : State} {m : MethodId} {args : Array Value} {below : List Frame} {meth : Method} {c : Code} {l : Launch} {φ : Nat → Nat} {tc : Nat → ClassId} {D : va_G} {s0 : State} {dR : Nat} (C : CX p s m args meth c φ tc D (AX φ) s0 cX12_times RX12 6) (hd : G12_times_dep ≤ dR) (hr : meth.sig.returnType = none) {a0 : Nat}  {Q : MM → Prop}  {x : MM} (o_a0 : Ob a0 13)   (h : Lp (G12_times_L78 a0 Q) x) : WX p l e (rmX dR) s m args below meth c φ tc D (AX φ) 6 0 0 (MQ below (QX φ tc D (QV Q)) args s 0 0 (AX φ)) 78 [(0, .ref a0)] [] x := by
  obtain ⟨n, h⟩ := h
  induction n generalizing x with
  | zero => exact h.elim
  | succ n ih => exact G12_times_L78_b C hd hr o_a0  (fun zμ hz => by have q := ih hz; exact q) h
set_option maxHeartbeats 4000000 in
set_option maxRecDepth 100000 in
theorem G12_times_L45_b {p : Program} {e : Env} {s : State} {m : MethodId} {args : Array Value} {below : List Frame} {meth : Method} {c : Code} {l : Launch} {φ : Nat → Nat} {tc : Nat → ClassId} {D : va_G} {s0 : State} {dR : Nat} (C : CX p s m args meth c φ tc D (AX φ) s0 cX12_times RX12 6) (hd : G12_times_dep ≤ dR) (hr : meth.sig.returnType = none) {a0 : Nat}  {Q : MM → Prop} {K45 : Int64 × MM → Prop} {x : Int64 × MM} (o_a0 : Ob a0 13)  (hK45 : ∀ (z3 : Int64) (zμ : MM), K45 (z3, zμ) → WX p l e (rmX dR) s m args below meth c φ tc D (AX φ) 6 0 0 (MQ below (QX φ tc D (QV Q)) args s 0 0 (AX φ)) 45 [(0, .ref a0), (3, .long z3)] [] zμ) (h : G12_times_L45 a0 Q K45 x) : WX p l e (rmX dR) s m args below meth c φ tc D (AX φ) 6 0 0 (MQ below (QX φ tc D (QV Q)) args s 0 0 (AX φ)) 45 [(0, .ref a0), (3, .long x.1)] [] x.2 := by
  unfold G12_times_L45 at h
  refine x_lload_n C rfl 1 rfl dX12_times_45 ?_
  refine x_lconst (v := 0) C (by decide) dX12_times_46 ?_
  refine x_lcmp C dX12_times_47 ?_
  refine x_if_le (tgt := 78) C dX12_times_48 (by decide) (fun c22 => ?_) (fun c22 => ?_)
  · have h := h.1 c22
    refine x_sub [(0, .ref a0)] [0] rfl ?_
    exact G12_times_L78_ok C hd hr o_a0 h
  · have h := h.2 c22
    refine x_aload_n C rfl 0 rfl dX12_times_51 ?_
    refine x_iconst (v := 0) C (by decide) dX12_times_52 ?_
    refine x_dup2_11 C rfl rfl dX12_times_53 ?_
    obtain ⟨c31, h⟩ := h
    refine x_iald C o_a0.1 o_a0.2 c31 (j := 0) (by decide) dX12_times_54 ?_
    refine x_iconst (v := 1) C (by decide) dX12_times_55 ?_
    refine x_iadd C dX12_times_56 ?_
    obtain ⟨c32, h⟩ := h
    refine x_iast C o_a0.1 o_a0.2 c32 (j := 0) (by decide) dX12_times_57 ?_
    refine x_mu (fun μ33 e_μ33 => ?_)
    have h := h μ33 e_μ33
    refine x_aload_n C rfl 0 rfl dX12_times_58 ?_
    refine x_aload_n C rfl 0 rfl dX12_times_59 ?_
    refine x_iconst (v := 0) C (by decide) dX12_times_60 ?_
    obtain ⟨c34, h⟩ := h
    refine x_iald C o_a0.1 o_a0.2 c34 (j := 0) (by decide) dX12_times_61 ?_
    refine x_lload_n C rfl 1 rfl dX12_times_62 ?_
    refine x_ldc2 (v := 10000) C tw_8_45 dX12_times_63 ?_
    refine x_lrem C (by decide) dX12_times_66 ?_
    refine x_l2i C dX12_times_67 ?_
    obtain ⟨c35, h⟩ := h
    refine x_iast C o_a0.1 o_a0.2 c35 rfl dX12_times_68 ?_
    refine x_mu (fun μ36 e_μ36 => ?_)
    have h := h μ36 e_μ36
    refine x_lload_n C rfl 1 rfl dX12_times_69 ?_
    refine x_ldc2 (v := 10000) C tw_8_45 dX12_times_70 ?_
    refine x_ldiv C (by decide) dX12_times_73 ?_
    refine x_topl (fun y37 e_y37 => ?_)
    have h := h y37 e_y37
    refine x_lstore_n C [(3, .long y37), (0, .ref a0)] rfl (Nat.le_of_ble_eq_true rfl) rfl dX12_times_74 ?_
    refine x_goto (tgt := 45) C dX12_times_75 (by decide) ?_
    refine x_sub [(0, .ref a0), (3, .long y37)] [1, 0] rfl ?_
    exact hK45 _ _ h
theorem G12_times_L45_ok {p : Program} {e : Env} {s : State} {m : MethodId} {args : Array Value} {below : List Frame} {meth : Method} {c : Code} {l : Launch} {φ : Nat → Nat} {tc : Nat → ClassId} {D : va_G} {s0 : State} {dR : Nat} (C : CX p s m args meth c φ tc D (AX φ) s0 cX12_times RX12 6) (hd : G12_times_dep ≤ dR) (hr : meth.sig.returnType = none) {a0 : Nat}  {Q : MM → Prop}  {x : Int64 × MM} (o_a0 : Ob a0 13)   (h : Lp (G12_times_L45 a0 Q) x) : WX p l e (rmX dR) s m args below meth c φ tc D (AX φ) 6 0 0 (MQ below (QX φ tc D (QV Q)) args s 0 0 (AX φ)) 45 [(0, .ref a0), (3, .long x.1)] [] x.2 := by
  obtain ⟨n, h⟩ := h
  induction n generalizing x with
  | zero => exact h.elim
  | succ n ih => exact G12_times_L45_b C hd hr o_a0  (fun z3 zμ hz => by have q := ih hz; exact q) h
set_option maxHeartbeats 4000000 in
set_option maxRecDepth 100000 in
theorem G12_times_L5_b {p : Program} {e : Env} {s : State} {m : MethodId} {args : Array Value} {below : List Frame} {meth : Method} {c : Code} {l : Launch} {φ : Nat → Nat} {tc : Nat → ClassId} {D : va_G} {s0 : State} {dR : Nat} (C : CX p s m args meth c φ tc D (AX φ) s0 cX12_times RX12 6) (hd : G12_times_dep ≤ dR) (hr : meth.sig.returnType = none) {a0 : Nat} {p1 : Int64} {Q : MM → Prop} {K5 : Int64 × Int32 × MM → Prop} {x : Int64 × Int32 × MM} (o_a0 : Ob a0 13)  (hK5 : ∀ (z3 : Int64) (z5 : Int32) (zμ : MM), K5 (z3, z5, zμ) → WX p l e (rmX dR) s m args below meth c φ tc D (AX φ) 6 0 0 (MQ below (QX φ tc D (QV Q)) args s 0 0 (AX φ)) 5 [(0, .ref a0), (1, .long p1), (3, .long z3), (5, .int z5)] [] zμ) (h : G12_times_L5 a0 p1 Q K5 x) : WX p l e (rmX dR) s m args below meth c φ tc D (AX φ) 6 0 0 (MQ below (QX φ tc D (QV Q)) args s 0 0 (AX φ)) 5 [(0, .ref a0), (1, .long p1), (3, .long x.1), (5, .int x.2.1)] [] x.2.2 := by
  unfold G12_times_L5 at h
  refine x_iload C 3 rfl dX12_times_5 ?_
  refine x_aload_n C rfl 0 rfl dX12_times_7 ?_
  refine x_iconst (v := 0) C (by decide) dX12_times_8 ?_
  obtain ⟨c20, h⟩ := h
  refine x_iald C o_a0.1 o_a0.2 c20 (j := 0) (by decide) dX12_times_9 ?_
  refine x_icmp_gt (tgt := 45) C dX12_times_10 (by decide) (fun c21 => ?_) (fun c21 => ?_)
  · have h := h.1 c21
    refine x_sub [(0, .ref a0), (3, .long x.1)] [0, 2] rfl ?_
    exact G12_times_L45_ok C hd hr o_a0 h
  · have h := h.2 c21
    refine x_lload_n C rfl 2 rfl dX12_times_13 ?_
    refine x_aload_n C rfl 0 rfl dX12_times_14 ?_
    refine x_iload C 3 rfl dX12_times_15 ?_
    obtain ⟨c38, h⟩ := h
    refine x_iald C o_a0.1 o_a0.2 c38 rfl dX12_times_17 ?_
    refine x_i2l C dX12_times_18 ?_
    refine x_lload_n C rfl 1 rfl dX12_times_19 ?_
    refine x_lmul C dX12_times_20 ?_
    refine x_ladd C dX12_times_21 ?_
    refine x_topl (fun y39 e_y39 => ?_)
    have h := h y39 e_y39
    refine x_lstore_n C [(3, .long y39), (0, .ref a0), (1, .long p1), (5, .int x.2.1)] rfl (Nat.le_of_ble_eq_true rfl) rfl dX12_times_22 ?_
    refine x_aload_n C rfl 1 rfl dX12_times_23 ?_
    refine x_iload C 3 rfl dX12_times_24 ?_
    refine x_lload_n C rfl 0 rfl dX12_times_26 ?_
    refine x_ldc2 (v := 10000) C tw_8_45 dX12_times_27 ?_
    refine x_lrem C (by decide) dX12_times_30 ?_
    refine x_l2i C dX12_times_31 ?_
    obtain ⟨c40, h⟩ := h
    refine x_iast C o_a0.1 o_a0.2 c40 rfl dX12_times_32 ?_
    refine x_mu (fun μ41 e_μ41 => ?_)
    have h := h μ41 e_μ41
    refine x_lload_n C rfl 0 rfl dX12_times_33 ?_
    refine x_ldc2 (v := 10000) C tw_8_45 dX12_times_34 ?_
    refine x_ldiv C (by decide) dX12_times_37 ?_
    refine x_topl (fun y42 e_y42 => ?_)
    have h := h y42 e_y42
    refine x_lstore_n C [(3, .long y42), (0, .ref a0), (1, .long p1), (5, .int x.2.1)] rfl (Nat.le_of_ble_eq_true rfl) rfl dX12_times_38 ?_
    refine x_iinc (v := (x.2.1 + 1)) C [(5, .int (x.2.1 + 1)), (3, .long y42), (0, .ref a0), (1, .long p1)] 3 rfl (congrArg (fun z => x.2.1 + z) (by decide : Int32.ofInt (1) = 1)) (Nat.le_of_ble_eq_true rfl) rfl dX12_times_39 ?_
    refine x_goto (tgt := 5) C dX12_times_42 (by decide) ?_
    refine x_sub [(0, .ref a0), (1, .long p1), (3, .long y42), (5, .int (x.2.1 + 1))] [2, 3, 1, 0] rfl ?_
    exact hK5 _ _ _ h
theorem G12_times_L5_ok {p : Program} {e : Env} {s : State} {m : MethodId} {args : Array Value} {below : List Frame} {meth : Method} {c : Code} {l : Launch} {φ : Nat → Nat} {tc : Nat → ClassId} {D : va_G} {s0 : State} {dR : Nat} (C : CX p s m args meth c φ tc D (AX φ) s0 cX12_times RX12 6) (hd : G12_times_dep ≤ dR) (hr : meth.sig.returnType = none) {a0 : Nat} {p1 : Int64} {Q : MM → Prop}  {x : Int64 × Int32 × MM} (o_a0 : Ob a0 13)   (h : Lp (G12_times_L5 a0 p1 Q) x) : WX p l e (rmX dR) s m args below meth c φ tc D (AX φ) 6 0 0 (MQ below (QX φ tc D (QV Q)) args s 0 0 (AX φ)) 5 [(0, .ref a0), (1, .long p1), (3, .long x.1), (5, .int x.2.1)] [] x.2.2 := by
  obtain ⟨n, h⟩ := h
  induction n generalizing x with
  | zero => exact h.elim
  | succ n ih => exact G12_times_L5_b C hd hr o_a0  (fun z3 z5 zμ hz => by have q := ih hz; exact q) h
set_option maxHeartbeats 4000000 in
set_option maxRecDepth 100000 in
theorem G12_times_met {l : Launch} {φ : Nat → Nat} {tc : Nat → ClassId} {D : va_G} {s0 : State} (hG : GX φ tc D s0) {dR : Nat} (hd : G12_times_dep ≤ dR) {a0 : Nat} {v1 : Int64} {μ : MM} {Q : MM → Prop} (o_a0 : Ob a0 13) (h : G12_times a0 v1 μ Q) : MX l φ tc D s0 dR yX12_times cX12_times 6 none [.ref a0, .long v1] μ (QV Q) := by
  refine MX.of (own := RX12) hG plX12 rfl (Nat.le_of_ble_eq_true rfl) (fun p e s m args below meth c C hr => ?_)
  refine x_sub [(0, .ref a0), (1, .long v1)] [0, 1] rfl ?_
  unfold G12_times at h
  refine x_lconst (v := 0) C (by decide) dX12_times_0 ?_
  refine x_lstore_n C [(3, .long 0), (0, .ref a0), (1, .long v1)] rfl (Nat.le_of_ble_eq_true rfl) rfl dX12_times_1 ?_
  refine x_iconst (v := 1) C (by decide) dX12_times_2 ?_
  refine x_istore C [(5, .int 1), (3, .long 0), (0, .ref a0), (1, .long v1)] (Nat.le_of_ble_eq_true rfl) rfl dX12_times_3 ?_
  refine x_sub [(0, .ref a0), (1, .long v1), (3, .long 0), (5, .int 1)] [2, 3, 1, 0] rfl ?_
  exact G12_times_L5_ok C hd hr o_a0 h
set_option maxHeartbeats 4000000 in
set_option maxRecDepth 100000 in
theorem G12_adds_J53_ok {p : Program} {e : Env} {s : State} {m : MethodId} {args : Array Value} {below : List Frame} {meth : Method} {c : Code} {l : Launch} {φ : Nat → Nat} {tc : Nat → ClassId} {D : va_G} {s0 : State} {dR : Nat} (C : CX p s m args meth c φ tc D (AX φ) s0 cX12_adds RX12 6) (hd : G12_adds_dep ≤ dR) (hr : meth.sig.returnType = none)  {a0 : Nat} {a1 : Nat} {p2 : Int32} {p3 : Int32} {p4 : Int32} {q0 : Int32} {q1 : Int32} {Q : MM → Prop} {K15 : Int32 × Int32 × MM → Prop} {μ : MM} (o_a0 : Ob a0 13) (o_a1 : Ob a1 13)  (hK15 : ∀ (z3 : Int32) (z4 : Int32) (zμ : MM), K15 (z3, z4, zμ) → WX p l e (rmX dR) s m args below meth c φ tc D (AX φ) 6 0 0 (MQ below (QX φ tc D (QV Q)) args s 0 0 (AX φ)) 15 [(0, .ref a0), (1, .ref a1), (2, .int p2), (3, .int z3), (4, .int z4)] [] zμ) (h : G12_adds_J53 a0 a1 p2 p3 p4 q0 q1 μ K15 Q) : WX p l e (rmX dR) s m args below meth c φ tc D (AX φ) 6 0 0 (MQ below (QX φ tc D (QV Q)) args s 0 0 (AX φ)) 53 [(0, .ref a0), (1, .ref a1), (2, .int p2), (3, .int p3), (4, .int p4)] [.int q0, .int q1] μ := by
  unfold G12_adds_J53 at h
  refine x_iadd C dX12_adds_53 ?_
  refine x_iload_n C rfl 3 rfl dX12_adds_54 ?_
  refine x_iadd C dX12_adds_55 ?_
  refine x_topi (fun y37 e_y37 => ?_)
  have h := h y37 e_y37
  refine x_istore C [(5, .int y37), (0, .ref a0), (1, .ref a1), (2, .int p2), (3, .int p3), (4, .int p4)] (Nat.le_of_ble_eq_true rfl) rfl dX12_adds_56 ?_
  refine x_aload_n C rfl 1 rfl dX12_adds_58 ?_
  refine x_iload C 5 rfl dX12_adds_59 ?_
  refine x_iload C 0 rfl dX12_adds_61 ?_
  refine x_sipush (v := 10000) C (by decide) dX12_adds_63 ?_
  refine x_irem C (by decide) dX12_adds_66 ?_
  obtain ⟨c38, h⟩ := h
  refine x_iast C o_a0.1 o_a0.2 c38 rfl dX12_adds_67 ?_
  refine x_mu (fun μ39 e_μ39 => ?_)
  have h := h μ39 e_μ39
  refine x_iload C 0 rfl dX12_adds_68 ?_
  refine x_sipush (v := 10000) C (by decide) dX12_adds_70 ?_
  refine x_idiv C (by decide) dX12_adds_73 ?_
  refine x_topi (fun y40 e_y40 => ?_)
  have h := h y40 e_y40
  refine x_istore_n C [(3, .int y40), (5, .int y37), (0, .ref a0), (1, .ref a1), (2, .int p2), (4, .int p4)] rfl (Nat.le_of_ble_eq_true rfl) rfl dX12_adds_74 ?_
  refine x_iinc (v := (p4 + 1)) C [(4, .int (p4 + 1)), (3, .int y40), (5, .int y37), (0, .ref a0), (1, .ref a1), (2, .int p2)] 5 rfl (congrArg (fun z => p4 + z) (by decide : Int32.ofInt (1) = 1)) (Nat.le_of_ble_eq_true rfl) rfl dX12_adds_75 ?_
  refine x_goto (tgt := 15) C dX12_adds_78 (by decide) ?_
  refine x_sub [(0, .ref a0), (1, .ref a1), (2, .int p2), (3, .int y40), (4, .int (p4 + 1))] [3, 4, 5, 1, 0] rfl ?_
  exact hK15 _ _ _ h
set_option maxHeartbeats 4000000 in
set_option maxRecDepth 100000 in
theorem G12_adds_J37_ok {p : Program} {e : Env} {s : State} {m : MethodId} {args : Array Value} {below : List Frame} {meth : Method} {c : Code} {l : Launch} {φ : Nat → Nat} {tc : Nat → ClassId} {D : va_G} {s0 : State} {dR : Nat} (C : CX p s m args meth c φ tc D (AX φ) s0 cX12_adds RX12 6) (hd : G12_adds_dep ≤ dR) (hr : meth.sig.returnType = none)  {a0 : Nat} {a1 : Nat} {p2 : Int32} {p3 : Int32} {p4 : Int32} {q0 : Int32} {Q : MM → Prop} {K15 : Int32 × Int32 × MM → Prop} {μ : MM} (o_a0 : Ob a0 13) (o_a1 : Ob a1 13)  (hK15 : ∀ (z3 : Int32) (z4 : Int32) (zμ : MM), K15 (z3, z4, zμ) → WX p l e (rmX dR) s m args below meth c φ tc D (AX φ) 6 0 0 (MQ below (QX φ tc D (QV Q)) args s 0 0 (AX φ)) 15 [(0, .ref a0), (1, .ref a1), (2, .int p2), (3, .int z3), (4, .int z4)] [] zμ) (h : G12_adds_J37 a0 a1 p2 p3 p4 q0 μ K15 Q) : WX p l e (rmX dR) s m args below meth c φ tc D (AX φ) 6 0 0 (MQ below (QX φ tc D (QV Q)) args s 0 0 (AX φ)) 37 [(0, .ref a0), (1, .ref a1), (2, .int p2), (3, .int p3), (4, .int p4)] [.int q0] μ := by
  unfold G12_adds_J37 at h
  refine x_iload C 4 rfl dX12_adds_37 ?_
  refine x_aload_n C rfl 1 rfl dX12_adds_39 ?_
  refine x_iconst (v := 0) C (by decide) dX12_adds_40 ?_
  obtain ⟨c35, h⟩ := h
  refine x_iald C o_a1.1 o_a1.2 c35 (j := 0) (by decide) dX12_adds_41 ?_
  refine x_icmp_gt (tgt := 52) C dX12_adds_42 (by decide) (fun c36 => ?_) (fun c36 => ?_)
  · have h := h.1 c36
    refine x_iconst (v := 0) C (by decide) dX12_adds_52 ?_
    exact G12_adds_J53_ok C hd hr o_a0 o_a1 hK15 h
  · have h := h.2 c36
    refine x_aload_n C rfl 1 rfl dX12_adds_45 ?_
    refine x_iload C 4 rfl dX12_adds_46 ?_
    obtain ⟨c41, h⟩ := h
    refine x_iald C o_a1.1 o_a1.2 c41 rfl dX12_adds_48 ?_
    refine x_goto (tgt := 53) C dX12_adds_49 (by decide) ?_
    exact G12_adds_J53_ok C hd hr o_a0 o_a1 hK15 h
set_option maxHeartbeats 4000000 in
set_option maxRecDepth 100000 in
theorem G12_adds_L15_b {p : Program} {e : Env} {s : State} {m : MethodId} {args : Array Value} {below : List Frame} {meth : Method} {c : Code} {l : Launch} {φ : Nat → Nat} {tc : Nat → ClassId} {D : va_G} {s0 : State} {dR : Nat} (C : CX p s m args meth c φ tc D (AX φ) s0 cX12_adds RX12 6) (hd : G12_adds_dep ≤ dR) (hr : meth.sig.returnType = none) {a0 : Nat} {a1 : Nat} {p2 : Int32} {Q : MM → Prop} {K15 : Int32 × Int32 × MM → Prop} {x : Int32 × Int32 × MM} (o_a0 : Ob a0 13) (o_a1 : Ob a1 13)  (hK15 : ∀ (z3 : Int32) (z4 : Int32) (zμ : MM), K15 (z3, z4, zμ) → WX p l e (rmX dR) s m args below meth c φ tc D (AX φ) 6 0 0 (MQ below (QX φ tc D (QV Q)) args s 0 0 (AX φ)) 15 [(0, .ref a0), (1, .ref a1), (2, .int p2), (3, .int z3), (4, .int z4)] [] zμ) (h : G12_adds_L15 a0 a1 p2 Q K15 x) : WX p l e (rmX dR) s m args below meth c φ tc D (AX φ) 6 0 0 (MQ below (QX φ tc D (QV Q)) args s 0 0 (AX φ)) 15 [(0, .ref a0), (1, .ref a1), (2, .int p2), (3, .int x.1), (4, .int x.2.1)] [] x.2.2 := by
  unfold G12_adds_L15 at h
  refine x_iload C 4 rfl dX12_adds_15 ?_
  refine x_iload_n C rfl 2 rfl dX12_adds_17 ?_
  refine x_icmp_gt (tgt := 81) C dX12_adds_18 (by decide) (fun c23 => ?_) (fun c23 => ?_)
  · have h := h.1 c23
    refine x_aload_n C rfl 0 rfl dX12_adds_81 ?_
    refine x_iconst (v := 0) C (by decide) dX12_adds_82 ?_
    refine x_iload_n C rfl 2 rfl dX12_adds_83 ?_
    obtain ⟨c24, h⟩ := h
    refine x_iast C o_a0.1 o_a0.2 c24 (j := 0) (by decide) dX12_adds_84 ?_
    refine x_mu (fun μ25 e_μ25 => ?_)
    have h := h μ25 e_μ25
    refine x_iload_n C rfl 3 rfl dX12_adds_85 ?_
    refine x_if_le (tgt := 102) C dX12_adds_86 (by decide) (fun c26 => ?_) (fun c26 => ?_)
    · have h := h.1 c26
      exact x_vret C hr dX12_adds_102 ⟨rfl, h⟩
    · have h := h.2 c26
      refine x_aload_n C rfl 0 rfl dX12_adds_89 ?_
      refine x_iconst (v := 0) C (by decide) dX12_adds_90 ?_
      refine x_dup2_11 C rfl rfl dX12_adds_91 ?_
      obtain ⟨c27, h⟩ := h
      refine x_iald C o_a0.1 o_a0.2 c27 (j := 0) (by decide) dX12_adds_92 ?_
      refine x_iconst (v := 1) C (by decide) dX12_adds_93 ?_
      refine x_iadd C dX12_adds_94 ?_
      obtain ⟨c28, h⟩ := h
      refine x_iast C o_a0.1 o_a0.2 c28 (j := 0) (by decide) dX12_adds_95 ?_
      refine x_mu (fun μ29 e_μ29 => ?_)
      have h := h μ29 e_μ29
      refine x_aload_n C rfl 0 rfl dX12_adds_96 ?_
      refine x_aload_n C rfl 0 rfl dX12_adds_97 ?_
      refine x_iconst (v := 0) C (by decide) dX12_adds_98 ?_
      obtain ⟨c30, h⟩ := h
      refine x_iald C o_a0.1 o_a0.2 c30 (j := 0) (by decide) dX12_adds_99 ?_
      refine x_iload_n C rfl 3 rfl dX12_adds_100 ?_
      obtain ⟨c31, h⟩ := h
      refine x_iast C o_a0.1 o_a0.2 c31 rfl dX12_adds_101 ?_
      refine x_mu (fun μ32 e_μ32 => ?_)
      have h := h μ32 e_μ32
      exact x_vret C hr dX12_adds_102 ⟨rfl, h⟩
  · have h := h.2 c23
    refine x_iload C 4 rfl dX12_adds_21 ?_
    refine x_aload_n C rfl 0 rfl dX12_adds_23 ?_
    refine x_iconst (v := 0) C (by decide) dX12_adds_24 ?_
    obtain ⟨c33, h⟩ := h
    refine x_iald C o_a0.1 o_a0.2 c33 (j := 0) (by decide) dX12_adds_25 ?_
    refine x_icmp_gt (tgt := 36) C dX12_adds_26 (by decide) (fun c34 => ?_) (fun c34 => ?_)
    · have h := h.1 c34
      refine x_iconst (v := 0) C (by decide) dX12_adds_36 ?_
      exact G12_adds_J37_ok C hd hr o_a0 o_a1 hK15 h
    · have h := h.2 c34
      refine x_aload_n C rfl 0 rfl dX12_adds_29 ?_
      refine x_iload C 4 rfl dX12_adds_30 ?_
      obtain ⟨c42, h⟩ := h
      refine x_iald C o_a0.1 o_a0.2 c42 rfl dX12_adds_32 ?_
      refine x_goto (tgt := 37) C dX12_adds_33 (by decide) ?_
      exact G12_adds_J37_ok C hd hr o_a0 o_a1 hK15 h
theorem G12_adds_L15_ok {p : Program} {e : Env} {s : State} {m : MethodId} {args : Array Value} {below : List Frame} {meth : Method} {c : Code} {l : Launch} {φ : Nat → Nat} {tc : Nat → ClassId} {D : va_G} {s0 : State} {dR : Nat} (C : CX p s m args meth c φ tc D (AX φ) s0 cX12_adds RX12 6) (hd : G12_adds_dep ≤ dR) (hr : meth.sig.returnType = none) {a0 : Nat} {a1 : Nat} {p2 : Int32} {Q : MM → Prop}  {x : Int32 × Int32 × MM} (o_a0 : Ob a0 13) (o_a1 : Ob a1 13)   (h : Lp (G12_adds_L15 a0 a1 p2 Q) x) : WX p l e (rmX dR) s m args below meth c φ tc D (AX φ) 6 0 0 (MQ below (QX φ tc D (QV Q)) args s 0 0 (AX φ)) 15 [(0, .ref a0), (1, .ref a1), (2, .int p2), (3, .int x.1), (4, .int x.2.1)] [] x.2.2 := by
  obtain ⟨n, h⟩ := h
  induction n generalizing x with
  | zero => exact h.elim
  | succ n ih => exact G12_adds_L15_b C hd hr o_a0 o_a1  (fun z3 z4 zμ hz => by have q := ih hz; exact q) h
set_option maxHeartbeats 4000000 in
set_option maxRecDepth 100000 in
theorem G12_adds_met {l : Launch} {φ : Nat → Nat} {tc : Nat → ClassId} {D : va_G} {s0 : State} (hG : GX φ tc D s0) {dR : Nat} (hd : G12_adds_dep ≤ dR) {a0 : Nat} {a1 : Nat} {μ : MM} {Q : MM → Prop} (o_a0 : Ob a0 13) (o_a1 : Ob a1 13) (h : G12_adds a0 a1 μ Q) : MX l φ tc D s0 dR yX12_adds cX12_adds 6 none [.ref a0, .ref a1] μ (QV Q) := by
  refine MX.of (own := RX12) hG plX12 rfl (Nat.le_of_ble_eq_true rfl) (fun p e s m args below meth c C hr => ?_)
  refine x_sub [(0, .ref a0), (1, .ref a1)] [0, 1] rfl ?_
  unfold G12_adds at h
  refine x_aload_n C rfl 0 rfl dX12_adds_0 ?_
  refine x_iconst (v := 0) C (by decide) dX12_adds_1 ?_
  obtain ⟨c20, h⟩ := h
  refine x_iald C o_a0.1 o_a0.2 c20 (j := 0) (by decide) dX12_adds_2 ?_
  refine x_aload_n C rfl 1 rfl dX12_adds_3 ?_
  refine x_iconst (v := 0) C (by decide) dX12_adds_4 ?_
  obtain ⟨c21, h⟩ := h
  refine x_iald C o_a1.1 o_a1.2 c21 (j := 0) (by decide) dX12_adds_5 ?_
  refine x_mmax C rX kX (Nat.le_trans (Nat.le_of_ble_eq_true rfl) hd) tw_7_98 tw_3_77 tw_1_20 (Nat.le_of_ble_eq_true rfl) dX12_adds_6 ?_
  refine x_topi (fun y22 e_y22 => ?_)
  have h := h y22 e_y22
  refine x_istore_n C [(2, .int y22), (0, .ref a0), (1, .ref a1)] rfl (Nat.le_of_ble_eq_true rfl) rfl dX12_adds_9 ?_
  refine x_iconst (v := 0) C (by decide) dX12_adds_10 ?_
  refine x_istore_n C [(3, .int 0), (2, .int y22), (0, .ref a0), (1, .ref a1)] rfl (Nat.le_of_ble_eq_true rfl) rfl dX12_adds_11 ?_
  refine x_iconst (v := 1) C (by decide) dX12_adds_12 ?_
  refine x_istore C [(4, .int 1), (3, .int 0), (2, .int y22), (0, .ref a0), (1, .ref a1)] (Nat.le_of_ble_eq_true rfl) rfl dX12_adds_13 ?_
  refine x_sub [(0, .ref a0), (1, .ref a1), (2, .int y22), (3, .int 0), (4, .int 1)] [3, 4, 2, 1, 0] rfl ?_
  exact G12_adds_L15_ok C hd hr o_a0 o_a1 h
set_option maxHeartbeats 4000000 in
set_option maxRecDepth 100000 in
theorem G12_comparesGreat_L28_b {p : Program} {e : Env} {s : State} {m : MethodId} {args : Array Value} {below : List Frame} {meth : Method} {c : Code} {l : Launch} {φ : Nat → Nat} {tc : Nat → ClassId} {D : va_G} {s0 : State} {dR : Nat} (C : CX p s m args meth c φ tc D (AX φ) s0 cX12_comparesGreat RX12 3) (hd : G12_comparesGreat_dep ≤ dR) (hr : meth.sig.returnType = (some .int)) {a0 : Nat} {a1 : Nat}  {Q : Int32 → MM → Prop} {K28 : Int32 × MM → Prop} {x : Int32 × MM} (o_a0 : Ob a0 13) (o_a1 : Ob a1 13)  (hK28 : ∀ (z2 : Int32) (zμ : MM), K28 (z2, zμ) → WX p l e (rmX dR) s m args below meth c φ tc D (AX φ) 3 0 0 (MQ below (QX φ tc D (QI Q)) args s 0 0 (AX φ)) 28 [(0, .ref a0), (1, .ref a1), (2, .int z2)] [] zμ) (h : G12_comparesGreat_L28 a0 a1 Q K28 x) : WX p l e (rmX dR) s m args below meth c φ tc D (AX φ) 3 0 0 (MQ below (QX φ tc D (QI Q)) args s 0 0 (AX φ)) 28 [(0, .ref a0), (1, .ref a1), (2, .int x.1)] [] x.2 := by
  unfold G12_comparesGreat_L28 at h
  refine x_iload_n C rfl 2 rfl dX12_comparesGreat_28 ?_
  refine x_if_le (tgt := 62) C dX12_comparesGreat_29 (by decide) (fun c16 => ?_) (fun c16 => ?_)
  · have h := h.1 c16
    refine x_iconst (v := 0) C (by decide) dX12_comparesGreat_62 ?_
    exact x_iret C hr dX12_comparesGreat_63 ⟨_, rfl, h⟩
  · have h := h.2 c16
    refine x_aload_n C rfl 0 rfl dX12_comparesGreat_32 ?_
    refine x_iload_n C rfl 2 rfl dX12_comparesGreat_33 ?_
    obtain ⟨c17, h⟩ := h
    refine x_iald C o_a0.1 o_a0.2 c17 rfl dX12_comparesGreat_34 ?_
    refine x_aload_n C rfl 1 rfl dX12_comparesGreat_35 ?_
    refine x_iload_n C rfl 2 rfl dX12_comparesGreat_36 ?_
    obtain ⟨c18, h⟩ := h
    refine x_iald C o_a1.1 o_a1.2 c18 rfl dX12_comparesGreat_37 ?_
    refine x_icmp_eq (tgt := 56) C dX12_comparesGreat_38 (by decide) (fun c19 => ?_) (fun c19 => ?_)
    · have h := h.1 c19
      refine x_iinc (v := (x.1 + (-1))) C [(2, .int (x.1 + (-1))), (0, .ref a0), (1, .ref a1)] 2 rfl (congrArg (fun z => x.1 + z) (by decide : Int32.ofInt (-1) = (-1))) (Nat.le_of_ble_eq_true rfl) rfl dX12_comparesGreat_56 ?_
      refine x_goto (tgt := 28) C dX12_comparesGreat_59 (by decide) ?_
      refine x_sub [(0, .ref a0), (1, .ref a1), (2, .int (x.1 + (-1)))] [1, 2, 0] rfl ?_
      exact hK28 _ _ h
    · have h := h.2 c19
      refine x_aload_n C rfl 0 rfl dX12_comparesGreat_41 ?_
      refine x_iload_n C rfl 2 rfl dX12_comparesGreat_42 ?_
      obtain ⟨c20, h⟩ := h
      refine x_iald C o_a0.1 o_a0.2 c20 rfl dX12_comparesGreat_43 ?_
      refine x_aload_n C rfl 1 rfl dX12_comparesGreat_44 ?_
      refine x_iload_n C rfl 2 rfl dX12_comparesGreat_45 ?_
      obtain ⟨c21, h⟩ := h
      refine x_iald C o_a1.1 o_a1.2 c21 rfl dX12_comparesGreat_46 ?_
      refine x_icmp_ge (tgt := 54) C dX12_comparesGreat_47 (by decide) (fun c22 => ?_) (fun c22 => ?_)
      · have h := h.1 c22
        refine x_iconst (v := 1) C (by decide) dX12_comparesGreat_54 ?_
        exact x_iret C hr dX12_comparesGreat_55 ⟨_, rfl, h⟩
      · have h := h.2 c22
        refine x_iconst (v := (-1)) C (by decide) dX12_comparesGreat_50 ?_
        refine x_goto (tgt := 55) C dX12_comparesGreat_51 (by decide) ?_
        exact x_iret C hr dX12_comparesGreat_55 ⟨_, rfl, h⟩
theorem G12_comparesGreat_L28_ok {p : Program} {e : Env} {s : State} {m : MethodId} {args : Array Value} {below : List Frame} {meth : Method} {c : Code} {l : Launch} {φ : Nat → Nat} {tc : Nat → ClassId} {D : va_G} {s0 : State} {dR : Nat} (C : CX p s m args meth c φ tc D (AX φ) s0 cX12_comparesGreat RX12 3) (hd : G12_comparesGreat_dep ≤ dR) (hr : meth.sig.returnType = (some .int)) {a0 : Nat} {a1 : Nat}  {Q : Int32 → MM → Prop}  {x : Int32 × MM} (o_a0 : Ob a0 13) (o_a1 : Ob a1 13)   (h : Lp (G12_comparesGreat_L28 a0 a1 Q) x) : WX p l e (rmX dR) s m args below meth c φ tc D (AX φ) 3 0 0 (MQ below (QX φ tc D (QI Q)) args s 0 0 (AX φ)) 28 [(0, .ref a0), (1, .ref a1), (2, .int x.1)] [] x.2 := by
  obtain ⟨n, h⟩ := h
  induction n generalizing x with
  | zero => exact h.elim
  | succ n ih => exact G12_comparesGreat_L28_b C hd hr o_a0 o_a1  (fun z2 zμ hz => by have q := ih hz; exact q) h
set_option maxHeartbeats 4000000 in
set_option maxRecDepth 100000 in
theorem G12_comparesGreat_met {l : Launch} {φ : Nat → Nat} {tc : Nat → ClassId} {D : va_G} {s0 : State} (hG : GX φ tc D s0) {dR : Nat} (hd : G12_comparesGreat_dep ≤ dR) {a0 : Nat} {a1 : Nat} {μ : MM} {Q : Int32 → MM → Prop} (o_a0 : Ob a0 13) (o_a1 : Ob a1 13) (h : G12_comparesGreat a0 a1 μ Q) : MX l φ tc D s0 dR yX12_comparesGreat cX12_comparesGreat 3 (some .int) [.ref a0, .ref a1] μ (QI Q) := by
  refine MX.of (own := RX12) hG plX12 rfl (Nat.le_of_ble_eq_true rfl) (fun p e s m args below meth c C hr => ?_)
  refine x_sub [(0, .ref a0), (1, .ref a1)] [0, 1] rfl ?_
  unfold G12_comparesGreat at h
  refine x_aload_n C rfl 0 rfl dX12_comparesGreat_0 ?_
  refine x_iconst (v := 0) C (by decide) dX12_comparesGreat_1 ?_
  obtain ⟨c11, h⟩ := h
  refine x_iald C o_a0.1 o_a0.2 c11 (j := 0) (by decide) dX12_comparesGreat_2 ?_
  refine x_aload_n C rfl 1 rfl dX12_comparesGreat_3 ?_
  refine x_iconst (v := 0) C (by decide) dX12_comparesGreat_4 ?_
  obtain ⟨c12, h⟩ := h
  refine x_iald C o_a1.1 o_a1.2 c12 (j := 0) (by decide) dX12_comparesGreat_5 ?_
  refine x_icmp_eq (tgt := 24) C dX12_comparesGreat_6 (by decide) (fun c13 => ?_) (fun c13 => ?_)
  · have h := h.1 c13
    refine x_aload_n C rfl 0 rfl dX12_comparesGreat_24 ?_
    refine x_iconst (v := 0) C (by decide) dX12_comparesGreat_25 ?_
    obtain ⟨c14, h⟩ := h
    refine x_iald C o_a0.1 o_a0.2 c14 (j := 0) (by decide) dX12_comparesGreat_26 ?_
    refine x_topi (fun y15 e_y15 => ?_)
    have h := h y15 e_y15
    refine x_istore_n C [(2, .int y15), (0, .ref a0), (1, .ref a1)] rfl (Nat.le_of_ble_eq_true rfl) rfl dX12_comparesGreat_27 ?_
    refine x_sub [(0, .ref a0), (1, .ref a1), (2, .int y15)] [1, 2, 0] rfl ?_
    exact G12_comparesGreat_L28_ok C hd hr o_a0 o_a1 h
  · have h := h.2 c13
    refine x_aload_n C rfl 0 rfl dX12_comparesGreat_9 ?_
    refine x_iconst (v := 0) C (by decide) dX12_comparesGreat_10 ?_
    obtain ⟨c23, h⟩ := h
    refine x_iald C o_a0.1 o_a0.2 c23 (j := 0) (by decide) dX12_comparesGreat_11 ?_
    refine x_aload_n C rfl 1 rfl dX12_comparesGreat_12 ?_
    refine x_iconst (v := 0) C (by decide) dX12_comparesGreat_13 ?_
    obtain ⟨c24, h⟩ := h
    refine x_iald C o_a1.1 o_a1.2 c24 (j := 0) (by decide) dX12_comparesGreat_14 ?_
    refine x_icmp_ge (tgt := 22) C dX12_comparesGreat_15 (by decide) (fun c25 => ?_) (fun c25 => ?_)
    · have h := h.1 c25
      refine x_iconst (v := 1) C (by decide) dX12_comparesGreat_22 ?_
      exact x_iret C hr dX12_comparesGreat_23 ⟨_, rfl, h⟩
    · have h := h.2 c25
      refine x_iconst (v := (-1)) C (by decide) dX12_comparesGreat_18 ?_
      refine x_goto (tgt := 23) C dX12_comparesGreat_19 (by decide) ?_
      exact x_iret C hr dX12_comparesGreat_23 ⟨_, rfl, h⟩
set_option maxHeartbeats 4000000 in
set_option maxRecDepth 100000 in
theorem G12_fit_L311_b {p : Program} {e : Env} {s : State} {m : MethodId} {args : Array Value} {below : List Frame} {meth : Method} {c : Code} {l : Launch} {φ : Nat → Nat} {tc : Nat → ClassId} {D : va_G} {s0 : State} {dR : Nat} (C : CX p s m args meth c φ tc D (AX φ) s0 cX12_fit RX12 7) (hd : G12_fit_dep ≤ dR) (hr : meth.sig.returnType = (some .int))  {p1 : Int32} {Q : Int32 → MM → Prop} {K311 : Int32 × MM → Prop} {x : Int32 × MM}   (hK311 : ∀ (z2 : Int32) (zμ : MM), K311 (z2, zμ) → WX p l e (rmX dR) s m args below meth c φ tc D (AX φ) 7 0 0 (MQ below (QX φ tc D (QI Q)) args s 0 0 (AX φ)) 311 [(0, .ref 358), (1, .int p1), (2, .int z2)] [] zμ) (h : G12_fit_L311 p1 Q K311 x) : WX p l e (rmX dR) s m args below meth c φ tc D (AX φ) 7 0 0 (MQ below (QX φ tc D (QI Q)) args s 0 0 (AX φ)) 311 [(0, .ref 358), (1, .int p1), (2, .int x.1)] [] x.2 := by
  unfold G12_fit_L311 at h
  refine x_iload_n C rfl 2 rfl dX12_fit_311 ?_
  refine x_iconst (v := 4) C (by decide) dX12_fit_312 ?_
  refine x_icmp_ge (tgt := 333) C dX12_fit_313 (by decide) (fun c34 => ?_) (fun c34 => ?_)
  · have h := h.1 c34
    refine x_iload_n C rfl 1 rfl dX12_fit_333 ?_
    exact x_iret C hr dX12_fit_334 ⟨_, rfl, h⟩
  · have h := h.2 c34
    refine x_aload_n C rfl 0 rfl dX12_fit_316 ?_
    refine x_aload_n C rfl 0 rfl dX12_fit_317 ?_
    refine x_getR (r := 396) C (j := 54) ob358.1 ob358.2 (Nat.le_of_ble_eq_true rfl) (Nat.le_of_ble_eq_true rfl) (fun _ _ _ => rfl) r_358_54 tw_9_20 dX12_fit_318 ?_
    refine x_iload_n C rfl 2 rfl dX12_fit_321 ?_
    obtain ⟨c35, h⟩ := h
    refine x_iald C ob396.1 ob396.2 c35 rfl dX12_fit_322 ?_
    refine x_i2l C dX12_fit_323 ?_
    refine x_callV (dC := G12_enters_dep) (as := [.long ((gI x.2 396 x.1.toNatClampNeg).toInt64)]) (st := []) C rX kX (Nat.le_trans (Nat.le_of_ble_eq_true rfl) hd) (Nat.le_of_ble_eq_true rfl) ob358.1 ob358.2 (Nat.le_of_ble_eq_true rfl) rfl ts_10_1 tw_7_161 tw_7_159 tc_7_162 tw_1_13 hyX12 hnX12_enters rfl (Nat.le_of_ble_eq_true rfl) dX12_fit_324 (G12_enters_met C.2.2.2.2.2.2.2.1 (Nat.le_refl _)  h) (fun r0 μ36 hq => ?_)
    obtain ⟨rfl, h⟩ := hq
    refine x_st [] rfl ?_
    refine x_iinc (v := (x.1 + 1)) C [(2, .int (x.1 + 1)), (0, .ref 358), (1, .int p1)] 2 rfl (congrArg (fun z => x.1 + z) (by decide : Int32.ofInt (1) = 1)) (Nat.le_of_ble_eq_true rfl) rfl dX12_fit_327 ?_
    refine x_goto (tgt := 311) C dX12_fit_330 (by decide) ?_
    refine x_sub [(0, .ref 358), (1, .int p1), (2, .int (x.1 + 1))] [1, 2, 0] rfl ?_
    exact hK311 _ _ h
theorem G12_fit_L311_ok {p : Program} {e : Env} {s : State} {m : MethodId} {args : Array Value} {below : List Frame} {meth : Method} {c : Code} {l : Launch} {φ : Nat → Nat} {tc : Nat → ClassId} {D : va_G} {s0 : State} {dR : Nat} (C : CX p s m args meth c φ tc D (AX φ) s0 cX12_fit RX12 7) (hd : G12_fit_dep ≤ dR) (hr : meth.sig.returnType = (some .int))  {p1 : Int32} {Q : Int32 → MM → Prop}  {x : Int32 × MM}    (h : Lp (G12_fit_L311 p1 Q) x) : WX p l e (rmX dR) s m args below meth c φ tc D (AX φ) 7 0 0 (MQ below (QX φ tc D (QI Q)) args s 0 0 (AX φ)) 311 [(0, .ref 358), (1, .int p1), (2, .int x.1)] [] x.2 := by
  obtain ⟨n, h⟩ := h
  induction n generalizing x with
  | zero => exact h.elim
  | succ n ih => exact G12_fit_L311_b C hd hr   (fun z2 zμ hz => by have q := ih hz; exact q) h
set_option maxHeartbeats 4000000 in
set_option maxRecDepth 100000 in
theorem G12_fit_L253_b {p : Program} {e : Env} {s : State} {m : MethodId} {args : Array Value} {below : List Frame} {meth : Method} {c : Code} {l : Launch} {φ : Nat → Nat} {tc : Nat → ClassId} {D : va_G} {s0 : State} {dR : Nat} (C : CX p s m args meth c φ tc D (AX φ) s0 cX12_fit RX12 7) (hd : G12_fit_dep ≤ dR) (hr : meth.sig.returnType = (some .int))  {p1 : Int32} {p2 : Int32} {Q : Int32 → MM → Prop} {K72 : Int32 × MM → Prop} {K253 : Int32 × MM → Prop} {x : Int32 × MM}   (hK72 : ∀ (z2 : Int32) (zμ : MM), K72 (z2, zμ) → WX p l e (rmX dR) s m args below meth c φ tc D (AX φ) 7 0 0 (MQ below (QX φ tc D (QI Q)) args s 0 0 (AX φ)) 72 [(0, .ref 358), (1, .int p1), (2, .int z2)] [] zμ) (hK253 : ∀ (z3 : Int32) (zμ : MM), K253 (z3, zμ) → WX p l e (rmX dR) s m args below meth c φ tc D (AX φ) 7 0 0 (MQ below (QX φ tc D (QI Q)) args s 0 0 (AX φ)) 253 [(0, .ref 358), (1, .int p1), (2, .int p2), (3, .int z3)] [] zμ) (h : G12_fit_L253 p1 p2 K72 Q K253 x) : WX p l e (rmX dR) s m args below meth c φ tc D (AX φ) 7 0 0 (MQ below (QX φ tc D (QI Q)) args s 0 0 (AX φ)) 253 [(0, .ref 358), (1, .int p1), (2, .int p2), (3, .int x.1)] [] x.2 := by
  unfold G12_fit_L253 at h
  refine x_iload_n C rfl 3 rfl dX12_fit_253 ?_
  refine x_iconst (v := 4) C (by decide) dX12_fit_254 ?_
  refine x_icmp_ge (tgt := 276) C dX12_fit_255 (by decide) (fun c50 => ?_) (fun c50 => ?_)
  · have h := h.1 c50
    refine x_iinc (v := (p2 + 1)) C [(2, .int (p2 + 1)), (0, .ref 358), (1, .int p1), (3, .int x.1)] 2 rfl (congrArg (fun z => p2 + z) (by decide : Int32.ofInt (1) = 1)) (Nat.le_of_ble_eq_true rfl) rfl dX12_fit_276 ?_
    refine x_goto (tgt := 72) C dX12_fit_279 (by decide) ?_
    refine x_sub [(0, .ref 358), (1, .int p1), (2, .int (p2 + 1))] [1, 2, 0] rfl ?_
    exact hK72 _ _ h
  · have h := h.2 c50
    refine x_aload_n C rfl 0 rfl dX12_fit_258 ?_
    refine x_getR (r := 396) C (j := 54) ob358.1 ob358.2 (Nat.le_of_ble_eq_true rfl) (Nat.le_of_ble_eq_true rfl) (fun _ _ _ => rfl) r_358_54 tw_9_20 dX12_fit_259 ?_
    refine x_iload_n C rfl 3 rfl dX12_fit_262 ?_
    refine x_aload_n C rfl 0 rfl dX12_fit_263 ?_
    refine x_getR (r := 395) C (j := 53) ob358.1 ob358.2 (Nat.le_of_ble_eq_true rfl) (Nat.le_of_ble_eq_true rfl) (fun _ _ _ => rfl) r_358_53 tw_9_19 dX12_fit_264 ?_
    refine x_iload_n C rfl 3 rfl dX12_fit_267 ?_
    obtain ⟨c51, h⟩ := h
    refine x_iald C ob395.1 ob395.2 c51 rfl dX12_fit_268 ?_
    obtain ⟨c52, h⟩ := h
    refine x_iast C ob396.1 ob396.2 c52 rfl dX12_fit_269 ?_
    refine x_mu (fun μ53 e_μ53 => ?_)
    have h := h μ53 e_μ53
    refine x_iinc (v := (x.1 + 1)) C [(3, .int (x.1 + 1)), (0, .ref 358), (1, .int p1), (2, .int p2)] 3 rfl (congrArg (fun z => x.1 + z) (by decide : Int32.ofInt (1) = 1)) (Nat.le_of_ble_eq_true rfl) rfl dX12_fit_270 ?_
    refine x_goto (tgt := 253) C dX12_fit_273 (by decide) ?_
    refine x_sub [(0, .ref 358), (1, .int p1), (2, .int p2), (3, .int (x.1 + 1))] [1, 2, 3, 0] rfl ?_
    exact hK253 _ _ h
theorem G12_fit_L253_ok {p : Program} {e : Env} {s : State} {m : MethodId} {args : Array Value} {below : List Frame} {meth : Method} {c : Code} {l : Launch} {φ : Nat → Nat} {tc : Nat → ClassId} {D : va_G} {s0 : State} {dR : Nat} (C : CX p s m args meth c φ tc D (AX φ) s0 cX12_fit RX12 7) (hd : G12_fit_dep ≤ dR) (hr : meth.sig.returnType = (some .int))  {p1 : Int32} {p2 : Int32} {Q : Int32 → MM → Prop} {K72 : Int32 × MM → Prop} {x : Int32 × MM}   (hK72 : ∀ (z2 : Int32) (zμ : MM), K72 (z2, zμ) → WX p l e (rmX dR) s m args below meth c φ tc D (AX φ) 7 0 0 (MQ below (QX φ tc D (QI Q)) args s 0 0 (AX φ)) 72 [(0, .ref 358), (1, .int p1), (2, .int z2)] [] zμ) (h : Lp (G12_fit_L253 p1 p2 K72 Q) x) : WX p l e (rmX dR) s m args below meth c φ tc D (AX φ) 7 0 0 (MQ below (QX φ tc D (QI Q)) args s 0 0 (AX φ)) 253 [(0, .ref 358), (1, .int p1), (2, .int p2), (3, .int x.1)] [] x.2 := by
  obtain ⟨n, h⟩ := h
  induction n generalizing x with
  | zero => exact h.elim
  | succ n ih => exact G12_fit_L253_b C hd hr  hK72 (fun z3 zμ hz => by have q := ih hz; exact q) h
set_option maxHeartbeats 4000000 in
set_option maxRecDepth 100000 in
theorem G12_fit_L174_b {p : Program} {e : Env} {s : State} {m : MethodId} {args : Array Value} {below : List Frame} {meth : Method} {c : Code} {l : Launch} {φ : Nat → Nat} {tc : Nat → ClassId} {D : va_G} {s0 : State} {dR : Nat} (C : CX p s m args meth c φ tc D (AX φ) s0 cX12_fit RX12 7) (hd : G12_fit_dep ≤ dR) (hr : meth.sig.returnType = (some .int))  {p1 : Int32} {p2 : Int32} {p3 : Int32} {Q : Int32 → MM → Prop} {K72 : Int32 × MM → Prop} {K163 : Int32 × MM → Prop} {K174 : Int64 × Int32 × MM → Prop} {x : Int64 × Int32 × MM}   (hK72 : ∀ (z2 : Int32) (zμ : MM), K72 (z2, zμ) → WX p l e (rmX dR) s m args below meth c φ tc D (AX φ) 7 0 0 (MQ below (QX φ tc D (QI Q)) args s 0 0 (AX φ)) 72 [(0, .ref 358), (1, .int p1), (2, .int z2)] [] zμ) (hK163 : ∀ (z3 : Int32) (zμ : MM), K163 (z3, zμ) → WX p l e (rmX dR) s m args below meth c φ tc D (AX φ) 7 0 0 (MQ below (QX φ tc D (QI Q)) args s 0 0 (AX φ)) 163 [(0, .ref 358), (1, .int p1), (2, .int p2), (3, .int z3)] [] zμ) (hK174 : ∀ (z4 : Int64) (z6 : Int32) (zμ : MM), K174 (z4, z6, zμ) → WX p l e (rmX dR) s m args below meth c φ tc D (AX φ) 7 0 0 (MQ below (QX φ tc D (QI Q)) args s 0 0 (AX φ)) 174 [(0, .ref 358), (1, .int p1), (2, .int p2), (3, .int p3), (4, .long z4), (6, .int z6)] [] zμ) (h : G12_fit_L174 p1 p2 p3 K72 K163 Q K174 x) : WX p l e (rmX dR) s m args below meth c φ tc D (AX φ) 7 0 0 (MQ below (QX φ tc D (QI Q)) args s 0 0 (AX φ)) 174 [(0, .ref 358), (1, .int p1), (2, .int p2), (3, .int p3), (4, .long x.1), (6, .int x.2.1)] [] x.2.2 := by
  unfold G12_fit_L174 at h
  refine x_iload C 5 rfl dX12_fit_174 ?_
  refine x_iconst (v := 4) C (by decide) dX12_fit_176 ?_
  refine x_icmp_ge (tgt := 211) C dX12_fit_177 (by decide) (fun c54 => ?_) (fun c54 => ?_)
  · have h := h.1 c54
    refine x_aload_n C rfl 0 rfl dX12_fit_211 ?_
    refine x_getR (r := 392) C (j := 50) ob358.1 ob358.2 (Nat.le_of_ble_eq_true rfl) (Nat.le_of_ble_eq_true rfl) (fun _ _ _ => rfl) r_358_50 tw_9_16 dX12_fit_212 ?_
    refine x_lload C 4 rfl dX12_fit_215 ?_
    refine x_callS (dC := G12_times_dep) (as := [.ref 392, .long x.1]) (st := []) C rX kX (Nat.le_trans (Nat.le_of_ble_eq_true rfl) hd) (Nat.le_of_ble_eq_true rfl) tw_8_43 tw_8_42 tc_8_44 tw_1_13 hyX12 hnX12_times rfl (Nat.le_of_ble_eq_true rfl) dX12_fit_217 (G12_times_met C.2.2.2.2.2.2.2.1 (Nat.le_refl _) ob392 h) (fun r0 μ55 hq => ?_)
    obtain ⟨rfl, h⟩ := hq
    refine x_st [] rfl ?_
    refine x_iinc (v := (p3 + 1)) C [(3, .int (p3 + 1)), (0, .ref 358), (1, .int p1), (2, .int p2), (4, .long x.1), (6, .int x.2.1)] 3 rfl (congrArg (fun z => p3 + z) (by decide : Int32.ofInt (1) = 1)) (Nat.le_of_ble_eq_true rfl) rfl dX12_fit_220 ?_
    refine x_goto (tgt := 163) C dX12_fit_223 (by decide) ?_
    refine x_sub [(0, .ref 358), (1, .int p1), (2, .int p2), (3, .int (p3 + 1))] [1, 2, 3, 0] rfl ?_
    exact hK163 _ _ h
  · have h := h.2 c54
    refine x_lload C 4 rfl dX12_fit_180 ?_
    refine x_aload_n C rfl 0 rfl dX12_fit_182 ?_
    refine x_getR (r := 395) C (j := 53) ob358.1 ob358.2 (Nat.le_of_ble_eq_true rfl) (Nat.le_of_ble_eq_true rfl) (fun _ _ _ => rfl) r_358_53 tw_9_19 dX12_fit_183 ?_
    refine x_iload C 5 rfl dX12_fit_186 ?_
    obtain ⟨c56, h⟩ := h
    refine x_iald C ob395.1 ob395.2 c56 rfl dX12_fit_188 ?_
    refine x_i2l C dX12_fit_189 ?_
    refine x_aload_n C rfl 0 rfl dX12_fit_190 ?_
    refine x_getR (r := 394) C (j := 52) ob358.1 ob358.2 (Nat.le_of_ble_eq_true rfl) (Nat.le_of_ble_eq_true rfl) (fun _ _ _ => rfl) r_358_52 tw_9_18 dX12_fit_191 ?_
    refine x_iconst (v := 4) C (by decide) dX12_fit_194 ?_
    refine x_iload_n C rfl 3 rfl dX12_fit_195 ?_
    refine x_imul C dX12_fit_196 ?_
    refine x_iload C 5 rfl dX12_fit_197 ?_
    refine x_iadd C dX12_fit_199 ?_
    obtain ⟨c57, h⟩ := h
    refine x_lald C ob394.1 ob394.2 c57 rfl dX12_fit_200 ?_
    refine x_lmul C dX12_fit_201 ?_
    refine x_ladd C dX12_fit_202 ?_
    refine x_topl (fun y58 e_y58 => ?_)
    have h := h y58 e_y58
    refine x_lstore C [(4, .long y58), (0, .ref 358), (1, .int p1), (2, .int p2), (3, .int p3), (6, .int x.2.1)] (Nat.le_of_ble_eq_true rfl) rfl dX12_fit_203 ?_
    refine x_iinc (v := (x.2.1 + 1)) C [(6, .int (x.2.1 + 1)), (4, .long y58), (0, .ref 358), (1, .int p1), (2, .int p2), (3, .int p3)] 5 rfl (congrArg (fun z => x.2.1 + z) (by decide : Int32.ofInt (1) = 1)) (Nat.le_of_ble_eq_true rfl) rfl dX12_fit_205 ?_
    refine x_goto (tgt := 174) C dX12_fit_208 (by decide) ?_
    refine x_sub [(0, .ref 358), (1, .int p1), (2, .int p2), (3, .int p3), (4, .long y58), (6, .int (x.2.1 + 1))] [2, 3, 4, 5, 1, 0] rfl ?_
    exact hK174 _ _ _ h
theorem G12_fit_L174_ok {p : Program} {e : Env} {s : State} {m : MethodId} {args : Array Value} {below : List Frame} {meth : Method} {c : Code} {l : Launch} {φ : Nat → Nat} {tc : Nat → ClassId} {D : va_G} {s0 : State} {dR : Nat} (C : CX p s m args meth c φ tc D (AX φ) s0 cX12_fit RX12 7) (hd : G12_fit_dep ≤ dR) (hr : meth.sig.returnType = (some .int))  {p1 : Int32} {p2 : Int32} {p3 : Int32} {Q : Int32 → MM → Prop} {K72 : Int32 × MM → Prop} {K163 : Int32 × MM → Prop} {x : Int64 × Int32 × MM}   (hK72 : ∀ (z2 : Int32) (zμ : MM), K72 (z2, zμ) → WX p l e (rmX dR) s m args below meth c φ tc D (AX φ) 7 0 0 (MQ below (QX φ tc D (QI Q)) args s 0 0 (AX φ)) 72 [(0, .ref 358), (1, .int p1), (2, .int z2)] [] zμ) (hK163 : ∀ (z3 : Int32) (zμ : MM), K163 (z3, zμ) → WX p l e (rmX dR) s m args below meth c φ tc D (AX φ) 7 0 0 (MQ below (QX φ tc D (QI Q)) args s 0 0 (AX φ)) 163 [(0, .ref 358), (1, .int p1), (2, .int p2), (3, .int z3)] [] zμ) (h : Lp (G12_fit_L174 p1 p2 p3 K72 K163 Q) x) : WX p l e (rmX dR) s m args below meth c φ tc D (AX φ) 7 0 0 (MQ below (QX φ tc D (QI Q)) args s 0 0 (AX φ)) 174 [(0, .ref 358), (1, .int p1), (2, .int p2), (3, .int p3), (4, .long x.1), (6, .int x.2.1)] [] x.2.2 := by
  obtain ⟨n, h⟩ := h
  induction n generalizing x with
  | zero => exact h.elim
  | succ n ih => exact G12_fit_L174_b C hd hr  hK72 hK163 (fun z4 z6 zμ hz => by have q := ih hz; exact q) h
set_option maxHeartbeats 4000000 in
set_option maxRecDepth 100000 in
theorem G12_fit_L163_b {p : Program} {e : Env} {s : State} {m : MethodId} {args : Array Value} {below : List Frame} {meth : Method} {c : Code} {l : Launch} {φ : Nat → Nat} {tc : Nat → ClassId} {D : va_G} {s0 : State} {dR : Nat} (C : CX p s m args meth c φ tc D (AX φ) s0 cX12_fit RX12 7) (hd : G12_fit_dep ≤ dR) (hr : meth.sig.returnType = (some .int))  {p1 : Int32} {p2 : Int32} {Q : Int32 → MM → Prop} {K72 : Int32 × MM → Prop} {K163 : Int32 × MM → Prop} {x : Int32 × MM}   (hK72 : ∀ (z2 : Int32) (zμ : MM), K72 (z2, zμ) → WX p l e (rmX dR) s m args below meth c φ tc D (AX φ) 7 0 0 (MQ below (QX φ tc D (QI Q)) args s 0 0 (AX φ)) 72 [(0, .ref 358), (1, .int p1), (2, .int z2)] [] zμ) (hK163 : ∀ (z3 : Int32) (zμ : MM), K163 (z3, zμ) → WX p l e (rmX dR) s m args below meth c φ tc D (AX φ) 7 0 0 (MQ below (QX φ tc D (QI Q)) args s 0 0 (AX φ)) 163 [(0, .ref 358), (1, .int p1), (2, .int p2), (3, .int z3)] [] zμ) (h : G12_fit_L163 p1 p2 K72 Q K163 x) : WX p l e (rmX dR) s m args below meth c φ tc D (AX φ) 7 0 0 (MQ below (QX φ tc D (QI Q)) args s 0 0 (AX φ)) 163 [(0, .ref 358), (1, .int p1), (2, .int p2), (3, .int x.1)] [] x.2 := by
  unfold G12_fit_L163 at h
  refine x_iload_n C rfl 3 rfl dX12_fit_163 ?_
  refine x_iload_n C rfl 1 rfl dX12_fit_164 ?_
  refine x_icmp_ge (tgt := 226) C dX12_fit_165 (by decide) (fun c45 => ?_) (fun c45 => ?_)
  · have h := h.1 c45
    refine x_aload_n C rfl 0 rfl dX12_fit_226 ?_
    refine x_getR (r := 392) C (j := 50) ob358.1 ob358.2 (Nat.le_of_ble_eq_true rfl) (Nat.le_of_ble_eq_true rfl) (fun _ _ _ => rfl) r_358_50 tw_9_16 dX12_fit_227 ?_
    refine x_aload_n C rfl 0 rfl dX12_fit_230 ?_
    refine x_getR (r := 393) C (j := 51) ob358.1 ob358.2 (Nat.le_of_ble_eq_true rfl) (Nat.le_of_ble_eq_true rfl) (fun _ _ _ => rfl) r_358_51 tw_9_17 dX12_fit_231 ?_
    refine x_callS (dC := G12_comparesGreat_dep) (as := [.ref 392, .ref 393]) (st := []) C rX kX (Nat.le_trans (Nat.le_of_ble_eq_true rfl) hd) (Nat.le_of_ble_eq_true rfl) tw_8_47 tw_8_46 tc_8_48 tw_1_13 hyX12 hnX12_comparesGreat rfl (Nat.le_of_ble_eq_true rfl) dX12_fit_234 (G12_comparesGreat_met C.2.2.2.2.2.2.2.1 (Nat.le_refl _) ob392 ob393 h) (fun r0 μ46 hq => ?_)
    obtain ⟨r47, rfl, h⟩ := hq
    refine x_st [.int r47] rfl ?_
    refine x_if_le (tgt := 276) C dX12_fit_237 (by decide) (fun c48 => ?_) (fun c48 => ?_)
    · have h := h.1 c48
      refine x_iinc (v := (p2 + 1)) C [(2, .int (p2 + 1)), (0, .ref 358), (1, .int p1), (3, .int x.1)] 2 rfl (congrArg (fun z => p2 + z) (by decide : Int32.ofInt (1) = 1)) (Nat.le_of_ble_eq_true rfl) rfl dX12_fit_276 ?_
      refine x_goto (tgt := 72) C dX12_fit_279 (by decide) ?_
      refine x_sub [(0, .ref 358), (1, .int p1), (2, .int (p2 + 1))] [1, 2, 0] rfl ?_
      exact hK72 _ _ h
    · have h := h.2 c48
      refine x_aload_n C rfl 0 rfl dX12_fit_240 ?_
      refine x_getR (r := 393) C (j := 51) ob358.1 ob358.2 (Nat.le_of_ble_eq_true rfl) (Nat.le_of_ble_eq_true rfl) (fun _ _ _ => rfl) r_358_51 tw_9_17 dX12_fit_241 ?_
      refine x_aload_n C rfl 0 rfl dX12_fit_244 ?_
      refine x_getR (r := 392) C (j := 50) ob358.1 ob358.2 (Nat.le_of_ble_eq_true rfl) (Nat.le_of_ble_eq_true rfl) (fun _ _ _ => rfl) r_358_50 tw_9_16 dX12_fit_245 ?_
      refine x_callS (dC := G12_becomes_dep) (as := [.ref 393, .ref 392]) (st := []) C rX kX (Nat.le_trans (Nat.le_of_ble_eq_true rfl) hd) (Nat.le_of_ble_eq_true rfl) tw_8_50 tw_8_49 tc_8_51 tw_1_13 hyX12 hnX12_becomes rfl (Nat.le_of_ble_eq_true rfl) dX12_fit_248 (G12_becomes_met C.2.2.2.2.2.2.2.1 (Nat.le_refl _) ob393 ob392 h) (fun r0 μ49 hq => ?_)
      obtain ⟨rfl, h⟩ := hq
      refine x_st [] rfl ?_
      refine x_iconst (v := 0) C (by decide) dX12_fit_251 ?_
      refine x_istore_n C [(3, .int 0), (0, .ref 358), (1, .int p1), (2, .int p2)] rfl (Nat.le_of_ble_eq_true rfl) rfl dX12_fit_252 ?_
      refine x_sub [(0, .ref 358), (1, .int p1), (2, .int p2), (3, .int 0)] [1, 2, 3, 0] rfl ?_
      exact G12_fit_L253_ok C hd hr hK72 h
  · have h := h.2 c45
    refine x_lconst (v := 0) C (by decide) dX12_fit_168 ?_
    refine x_lstore C [(4, .long 0), (0, .ref 358), (1, .int p1), (2, .int p2), (3, .int x.1)] (Nat.le_of_ble_eq_true rfl) rfl dX12_fit_169 ?_
    refine x_iconst (v := 0) C (by decide) dX12_fit_171 ?_
    refine x_istore C [(6, .int 0), (4, .long 0), (0, .ref 358), (1, .int p1), (2, .int p2), (3, .int x.1)] (Nat.le_of_ble_eq_true rfl) rfl dX12_fit_172 ?_
    refine x_sub [(0, .ref 358), (1, .int p1), (2, .int p2), (3, .int x.1), (4, .long 0), (6, .int 0)] [2, 3, 4, 5, 1, 0] rfl ?_
    exact G12_fit_L174_ok C hd hr hK72 hK163 h
theorem G12_fit_L163_ok {p : Program} {e : Env} {s : State} {m : MethodId} {args : Array Value} {below : List Frame} {meth : Method} {c : Code} {l : Launch} {φ : Nat → Nat} {tc : Nat → ClassId} {D : va_G} {s0 : State} {dR : Nat} (C : CX p s m args meth c φ tc D (AX φ) s0 cX12_fit RX12 7) (hd : G12_fit_dep ≤ dR) (hr : meth.sig.returnType = (some .int))  {p1 : Int32} {p2 : Int32} {Q : Int32 → MM → Prop} {K72 : Int32 × MM → Prop} {x : Int32 × MM}   (hK72 : ∀ (z2 : Int32) (zμ : MM), K72 (z2, zμ) → WX p l e (rmX dR) s m args below meth c φ tc D (AX φ) 7 0 0 (MQ below (QX φ tc D (QI Q)) args s 0 0 (AX φ)) 72 [(0, .ref 358), (1, .int p1), (2, .int z2)] [] zμ) (h : Lp (G12_fit_L163 p1 p2 K72 Q) x) : WX p l e (rmX dR) s m args below meth c φ tc D (AX φ) 7 0 0 (MQ below (QX φ tc D (QI Q)) args s 0 0 (AX φ)) 163 [(0, .ref 358), (1, .int p1), (2, .int p2), (3, .int x.1)] [] x.2 := by
  obtain ⟨n, h⟩ := h
  induction n generalizing x with
  | zero => exact h.elim
  | succ n ih => exact G12_fit_L163_b C hd hr  hK72 (fun z3 zμ hz => by have q := ih hz; exact q) h
set_option maxHeartbeats 4000000 in
set_option maxRecDepth 100000 in
theorem G12_fit_L72_b {p : Program} {e : Env} {s : State} {m : MethodId} {args : Array Value} {below : List Frame} {meth : Method} {c : Code} {l : Launch} {φ : Nat → Nat} {tc : Nat → ClassId} {D : va_G} {s0 : State} {dR : Nat} (C : CX p s m args meth c φ tc D (AX φ) s0 cX12_fit RX12 7) (hd : G12_fit_dep ≤ dR) (hr : meth.sig.returnType = (some .int))  {p1 : Int32} {Q : Int32 → MM → Prop} {K72 : Int32 × MM → Prop} {x : Int32 × MM}   (hK72 : ∀ (z2 : Int32) (zμ : MM), K72 (z2, zμ) → WX p l e (rmX dR) s m args below meth c φ tc D (AX φ) 7 0 0 (MQ below (QX φ tc D (QI Q)) args s 0 0 (AX φ)) 72 [(0, .ref 358), (1, .int p1), (2, .int z2)] [] zμ) (h : G12_fit_L72 p1 Q K72 x) : WX p l e (rmX dR) s m args below meth c φ tc D (AX φ) 7 0 0 (MQ below (QX φ tc D (QI Q)) args s 0 0 (AX φ)) 72 [(0, .ref 358), (1, .int p1), (2, .int x.1)] [] x.2 := by
  unfold G12_fit_L72 at h
  refine x_iload_n C rfl 2 rfl dX12_fit_72 ?_
  refine x_sipush (v := 1331) C (by decide) dX12_fit_73 ?_
  refine x_icmp_ge (tgt := 282) C dX12_fit_76 (by decide) (fun c31 => ?_) (fun c31 => ?_)
  · have h := h.1 c31
    refine x_aload_n C rfl 0 rfl dX12_fit_282 ?_
    refine x_getR (r := 393) C (j := 51) ob358.1 ob358.2 (Nat.le_of_ble_eq_true rfl) (Nat.le_of_ble_eq_true rfl) (fun _ _ _ => rfl) r_358_51 tw_9_17 dX12_fit_283 ?_
    refine x_iconst (v := 0) C (by decide) dX12_fit_286 ?_
    refine x_iald C ob393.1 ob393.2 (by unfold vp_in; decide) (j := 0) (by decide) dX12_fit_287 ?_
    refine x_iconst (v := 1) C (by decide) dX12_fit_288 ?_
    refine x_icmp_ne (tgt := 304) C dX12_fit_289 (by decide) (fun c32 => ?_) (fun c32 => ?_)
    · have h := h.1 c32
      refine x_aload_n C rfl 0 rfl dX12_fit_304 ?_
      refine x_iconst (v := 0) C (by decide) dX12_fit_305 ?_
      refine x_putI C (j := 1) ob358.1 ob358.2 (Nat.le_of_ble_eq_true rfl) (Nat.le_of_ble_eq_true rfl) (Or.inl rfl) rfl rfl rfl tw_8_207 dX12_fit_306 ?_
      refine x_mu (fun μ33 e_μ33 => ?_)
      have h := h μ33 e_μ33
      refine x_iconst (v := 0) C (by decide) dX12_fit_309 ?_
      refine x_istore_n C [(2, .int 0), (0, .ref 358), (1, .int p1)] rfl (Nat.le_of_ble_eq_true rfl) rfl dX12_fit_310 ?_
      refine x_sub [(0, .ref 358), (1, .int p1), (2, .int 0)] [1, 2, 0] rfl ?_
      exact G12_fit_L311_ok C hd hr  h
    · have h := h.2 c32
      refine x_aload_n C rfl 0 rfl dX12_fit_292 ?_
      refine x_getR (r := 393) C (j := 51) ob358.1 ob358.2 (Nat.le_of_ble_eq_true rfl) (Nat.le_of_ble_eq_true rfl) (fun _ _ _ => rfl) r_358_51 tw_9_17 dX12_fit_293 ?_
      refine x_iconst (v := 1) C (by decide) dX12_fit_296 ?_
      refine x_iald C ob393.1 ob393.2 (by unfold vp_in; decide) (j := 1) (by decide) dX12_fit_297 ?_
      refine x_if_ne (tgt := 304) C dX12_fit_298 (by decide) (fun c37 => ?_) (fun c37 => ?_)
      · have h := h.1 c37
        refine x_aload_n C rfl 0 rfl dX12_fit_304 ?_
        refine x_iconst (v := 0) C (by decide) dX12_fit_305 ?_
        refine x_putI C (j := 1) ob358.1 ob358.2 (Nat.le_of_ble_eq_true rfl) (Nat.le_of_ble_eq_true rfl) (Or.inl rfl) rfl rfl rfl tw_8_207 dX12_fit_306 ?_
        refine x_mu (fun μ38 e_μ38 => ?_)
        have h := h μ38 e_μ38
        refine x_iconst (v := 0) C (by decide) dX12_fit_309 ?_
        refine x_istore_n C [(2, .int 0), (0, .ref 358), (1, .int p1)] rfl (Nat.le_of_ble_eq_true rfl) rfl dX12_fit_310 ?_
        refine x_sub [(0, .ref 358), (1, .int p1), (2, .int 0)] [1, 2, 0] rfl ?_
        exact G12_fit_L311_ok C hd hr  h
      · have h := h.2 c37
        refine x_bipush (v := (-2)) C (by decide) dX12_fit_301 ?_
        exact x_iret C hr dX12_fit_303 ⟨_, rfl, h⟩
  · have h := h.2 c31
    refine x_aload_n C rfl 0 rfl dX12_fit_79 ?_
    refine x_getR (r := 395) C (j := 53) ob358.1 ob358.2 (Nat.le_of_ble_eq_true rfl) (Nat.le_of_ble_eq_true rfl) (fun _ _ _ => rfl) r_358_53 tw_9_19 dX12_fit_80 ?_
    refine x_iconst (v := 0) C (by decide) dX12_fit_83 ?_
    refine x_iload_n C rfl 2 rfl dX12_fit_84 ?_
    refine x_bipush (v := 121) C (by decide) dX12_fit_85 ?_
    refine x_idiv C (by decide) dX12_fit_87 ?_
    refine x_iast C ob395.1 ob395.2 (by unfold vp_in; decide) (j := 0) (by decide) dX12_fit_88 ?_
    refine x_mu (fun μ39 e_μ39 => ?_)
    have h := h μ39 e_μ39
    refine x_aload_n C rfl 0 rfl dX12_fit_89 ?_
    refine x_getR (r := 395) C (j := 53) ob358.1 ob358.2 (Nat.le_of_ble_eq_true rfl) (Nat.le_of_ble_eq_true rfl) (fun _ _ _ => rfl) r_358_53 tw_9_19 dX12_fit_90 ?_
    refine x_iconst (v := 1) C (by decide) dX12_fit_93 ?_
    refine x_iload_n C rfl 2 rfl dX12_fit_94 ?_
    refine x_bipush (v := 11) C (by decide) dX12_fit_95 ?_
    refine x_idiv C (by decide) dX12_fit_97 ?_
    refine x_bipush (v := 11) C (by decide) dX12_fit_98 ?_
    refine x_irem C (by decide) dX12_fit_100 ?_
    refine x_iast C ob395.1 ob395.2 (by unfold vp_in; decide) (j := 1) (by decide) dX12_fit_101 ?_
    refine x_mu (fun μ40 e_μ40 => ?_)
    have h := h μ40 e_μ40
    refine x_aload_n C rfl 0 rfl dX12_fit_102 ?_
    refine x_getR (r := 395) C (j := 53) ob358.1 ob358.2 (Nat.le_of_ble_eq_true rfl) (Nat.le_of_ble_eq_true rfl) (fun _ _ _ => rfl) r_358_53 tw_9_19 dX12_fit_103 ?_
    refine x_iconst (v := 2) C (by decide) dX12_fit_106 ?_
    refine x_iload_n C rfl 2 rfl dX12_fit_107 ?_
    refine x_bipush (v := 11) C (by decide) dX12_fit_108 ?_
    refine x_irem C (by decide) dX12_fit_110 ?_
    refine x_iast C ob395.1 ob395.2 (by unfold vp_in; decide) (j := 2) (by decide) dX12_fit_111 ?_
    refine x_mu (fun μ41 e_μ41 => ?_)
    have h := h μ41 e_μ41
    refine x_aload_n C rfl 0 rfl dX12_fit_112 ?_
    refine x_getR (r := 395) C (j := 53) ob358.1 ob358.2 (Nat.le_of_ble_eq_true rfl) (Nat.le_of_ble_eq_true rfl) (fun _ _ _ => rfl) r_358_53 tw_9_19 dX12_fit_113 ?_
    refine x_iconst (v := 3) C (by decide) dX12_fit_116 ?_
    refine x_bipush (v := 10) C (by decide) dX12_fit_117 ?_
    refine x_aload_n C rfl 0 rfl dX12_fit_119 ?_
    refine x_getR (r := 395) C (j := 53) ob358.1 ob358.2 (Nat.le_of_ble_eq_true rfl) (Nat.le_of_ble_eq_true rfl) (fun _ _ _ => rfl) r_358_53 tw_9_19 dX12_fit_120 ?_
    refine x_iconst (v := 0) C (by decide) dX12_fit_123 ?_
    refine x_iald C ob395.1 ob395.2 (by unfold vp_in; decide) (j := 0) (by decide) dX12_fit_124 ?_
    refine x_isub C dX12_fit_125 ?_
    refine x_aload_n C rfl 0 rfl dX12_fit_126 ?_
    refine x_getR (r := 395) C (j := 53) ob358.1 ob358.2 (Nat.le_of_ble_eq_true rfl) (Nat.le_of_ble_eq_true rfl) (fun _ _ _ => rfl) r_358_53 tw_9_19 dX12_fit_127 ?_
    refine x_iconst (v := 1) C (by decide) dX12_fit_130 ?_
    refine x_iald C ob395.1 ob395.2 (by unfold vp_in; decide) (j := 1) (by decide) dX12_fit_131 ?_
    refine x_isub C dX12_fit_132 ?_
    refine x_aload_n C rfl 0 rfl dX12_fit_133 ?_
    refine x_getR (r := 395) C (j := 53) ob358.1 ob358.2 (Nat.le_of_ble_eq_true rfl) (Nat.le_of_ble_eq_true rfl) (fun _ _ _ => rfl) r_358_53 tw_9_19 dX12_fit_134 ?_
    refine x_iconst (v := 2) C (by decide) dX12_fit_137 ?_
    refine x_iald C ob395.1 ob395.2 (by unfold vp_in; decide) (j := 2) (by decide) dX12_fit_138 ?_
    refine x_isub C dX12_fit_139 ?_
    refine x_iast C ob395.1 ob395.2 (by unfold vp_in; decide) (j := 3) (by decide) dX12_fit_140 ?_
    refine x_mu (fun μ42 e_μ42 => ?_)
    have h := h μ42 e_μ42
    refine x_aload_n C rfl 0 rfl dX12_fit_141 ?_
    refine x_getR (r := 395) C (j := 53) ob358.1 ob358.2 (Nat.le_of_ble_eq_true rfl) (Nat.le_of_ble_eq_true rfl) (fun _ _ _ => rfl) r_358_53 tw_9_19 dX12_fit_142 ?_
    refine x_iconst (v := 3) C (by decide) dX12_fit_145 ?_
    refine x_iald C ob395.1 ob395.2 (by unfold vp_in; decide) (j := 3) (by decide) dX12_fit_146 ?_
    refine x_if_ge (tgt := 153) C dX12_fit_147 (by decide) (fun c43 => ?_) (fun c43 => ?_)
    · have h := h.1 c43
      refine x_aload_n C rfl 0 rfl dX12_fit_153 ?_
      refine x_getR (r := 392) C (j := 50) ob358.1 ob358.2 (Nat.le_of_ble_eq_true rfl) (Nat.le_of_ble_eq_true rfl) (fun _ _ _ => rfl) r_358_50 tw_9_16 dX12_fit_154 ?_
      refine x_iconst (v := 1) C (by decide) dX12_fit_157 ?_
      refine x_callS (dC := G12_isSmall_dep) (as := [.ref 392, .int 1]) (st := []) C rX kX (Nat.le_trans (Nat.le_of_ble_eq_true rfl) hd) (Nat.le_of_ble_eq_true rfl) tw_8_40 tw_8_39 tc_8_41 tw_1_13 hyX12 hnX12_isSmall rfl (Nat.le_of_ble_eq_true rfl) dX12_fit_158 (G12_isSmall_met C.2.2.2.2.2.2.2.1 (Nat.le_refl _) ob392 h) (fun r0 μ44 hq => ?_)
      obtain ⟨rfl, h⟩ := hq
      refine x_st [] rfl ?_
      refine x_iconst (v := 0) C (by decide) dX12_fit_161 ?_
      refine x_istore_n C [(3, .int 0), (0, .ref 358), (1, .int p1), (2, .int x.1)] rfl (Nat.le_of_ble_eq_true rfl) rfl dX12_fit_162 ?_
      refine x_sub [(0, .ref 358), (1, .int p1), (2, .int x.1), (3, .int 0)] [1, 2, 3, 0] rfl ?_
      exact G12_fit_L163_ok C hd hr hK72 h
    · have h := h.2 c43
      refine x_goto (tgt := 276) C dX12_fit_150 (by decide) ?_
      refine x_iinc (v := (x.1 + 1)) C [(2, .int (x.1 + 1)), (0, .ref 358), (1, .int p1)] 2 rfl (congrArg (fun z => x.1 + z) (by decide : Int32.ofInt (1) = 1)) (Nat.le_of_ble_eq_true rfl) rfl dX12_fit_276 ?_
      refine x_goto (tgt := 72) C dX12_fit_279 (by decide) ?_
      refine x_sub [(0, .ref 358), (1, .int p1), (2, .int (x.1 + 1))] [1, 2, 0] rfl ?_
      exact hK72 _ _ h
theorem G12_fit_L72_ok {p : Program} {e : Env} {s : State} {m : MethodId} {args : Array Value} {below : List Frame} {meth : Method} {c : Code} {l : Launch} {φ : Nat → Nat} {tc : Nat → ClassId} {D : va_G} {s0 : State} {dR : Nat} (C : CX p s m args meth c φ tc D (AX φ) s0 cX12_fit RX12 7) (hd : G12_fit_dep ≤ dR) (hr : meth.sig.returnType = (some .int))  {p1 : Int32} {Q : Int32 → MM → Prop}  {x : Int32 × MM}    (h : Lp (G12_fit_L72 p1 Q) x) : WX p l e (rmX dR) s m args below meth c φ tc D (AX φ) 7 0 0 (MQ below (QX φ tc D (QI Q)) args s 0 0 (AX φ)) 72 [(0, .ref 358), (1, .int p1), (2, .int x.1)] [] x.2 := by
  obtain ⟨n, h⟩ := h
  induction n generalizing x with
  | zero => exact h.elim
  | succ n ih => exact G12_fit_L72_b C hd hr   (fun z2 zμ hz => by have q := ih hz; exact q) h
set_option maxHeartbeats 4000000 in
set_option maxRecDepth 100000 in
theorem G12_fit_L27_b {p : Program} {e : Env} {s : State} {m : MethodId} {args : Array Value} {below : List Frame} {meth : Method} {c : Code} {l : Launch} {φ : Nat → Nat} {tc : Nat → ClassId} {D : va_G} {s0 : State} {dR : Nat} (C : CX p s m args meth c φ tc D (AX φ) s0 cX12_fit RX12 7) (hd : G12_fit_dep ≤ dR) (hr : meth.sig.returnType = (some .int))  {p1 : Int32} {p2 : Int32} {Q : Int32 → MM → Prop} {K9 : Int32 × Int32 × MM → Prop} {K27 : Int32 × MM → Prop} {x : Int32 × MM}   (hK9 : ∀ (z1 : Int32) (z2 : Int32) (zμ : MM), K9 (z1, z2, zμ) → WX p l e (rmX dR) s m args below meth c φ tc D (AX φ) 7 0 0 (MQ below (QX φ tc D (QI Q)) args s 0 0 (AX φ)) 9 [(0, .ref 358), (1, .int z1), (2, .int z2)] [] zμ) (hK27 : ∀ (z3 : Int32) (zμ : MM), K27 (z3, zμ) → WX p l e (rmX dR) s m args below meth c φ tc D (AX φ) 7 0 0 (MQ below (QX φ tc D (QI Q)) args s 0 0 (AX φ)) 27 [(0, .ref 358), (1, .int p1), (2, .int p2), (3, .int z3)] [] zμ) (h : G12_fit_L27 p1 p2 K9 Q K27 x) : WX p l e (rmX dR) s m args below meth c φ tc D (AX φ) 7 0 0 (MQ below (QX φ tc D (QI Q)) args s 0 0 (AX φ)) 27 [(0, .ref 358), (1, .int p1), (2, .int p2), (3, .int x.1)] [] x.2 := by
  unfold G12_fit_L27 at h
  refine x_iload_n C rfl 3 rfl dX12_fit_27 ?_
  refine x_iconst (v := 4) C (by decide) dX12_fit_28 ?_
  refine x_icmp_ge (tgt := 53) C dX12_fit_29 (by decide) (fun c62 => ?_) (fun c62 => ?_)
  · have h := h.1 c62
    refine x_iinc (v := (p1 + 1)) C [(1, .int (p1 + 1)), (0, .ref 358), (2, .int p2), (3, .int x.1)] 1 rfl (congrArg (fun z => p1 + z) (by decide : Int32.ofInt (1) = 1)) (Nat.le_of_ble_eq_true rfl) rfl dX12_fit_53 ?_
    refine x_iinc (v := (p2 + 1)) C [(2, .int (p2 + 1)), (1, .int (p1 + 1)), (0, .ref 358), (3, .int x.1)] 2 rfl (congrArg (fun z => p2 + z) (by decide : Int32.ofInt (1) = 1)) (Nat.le_of_ble_eq_true rfl) rfl dX12_fit_56 ?_
    refine x_goto (tgt := 9) C dX12_fit_59 (by decide) ?_
    refine x_sub [(0, .ref 358), (1, .int (p1 + 1)), (2, .int (p2 + 1))] [2, 1, 0] rfl ?_
    exact hK9 _ _ _ h
  · have h := h.2 c62
    refine x_aload_n C rfl 0 rfl dX12_fit_32 ?_
    refine x_getR (r := 394) C (j := 52) ob358.1 ob358.2 (Nat.le_of_ble_eq_true rfl) (Nat.le_of_ble_eq_true rfl) (fun _ _ _ => rfl) r_358_52 tw_9_18 dX12_fit_33 ?_
    refine x_iconst (v := 4) C (by decide) dX12_fit_36 ?_
    refine x_iload_n C rfl 1 rfl dX12_fit_37 ?_
    refine x_imul C dX12_fit_38 ?_
    refine x_iload_n C rfl 3 rfl dX12_fit_39 ?_
    refine x_iadd C dX12_fit_40 ?_
    refine x_aload_n C rfl 0 rfl dX12_fit_41 ?_
    refine x_iload_n C rfl 3 rfl dX12_fit_42 ?_
    refine x_callV (dC := G12_wouldBe_dep) (as := [.int x.1]) (st := [.int ((4 * p1) + x.1), .ref 394]) C rX kX (Nat.le_trans (Nat.le_of_ble_eq_true rfl) hd) (Nat.le_of_ble_eq_true rfl) ob358.1 ob358.2 (Nat.le_of_ble_eq_true rfl) rfl ts_10_10 tw_8_25 tw_8_23 tc_8_26 tw_1_13 hyX12 hnX12_wouldBe rfl (Nat.le_of_ble_eq_true rfl) dX12_fit_43 (G12_wouldBe_met C.2.2.2.2.2.2.2.1 (Nat.le_refl _)  h) (fun r0 μ63 hq => ?_)
    obtain ⟨r64, rfl, h⟩ := hq
    refine x_st [.long r64, .int ((4 * p1) + x.1), .ref 394] rfl ?_
    obtain ⟨c65, h⟩ := h
    refine x_last C ob394.1 ob394.2 c65 rfl dX12_fit_46 ?_
    refine x_mu (fun μ66 e_μ66 => ?_)
    have h := h μ66 e_μ66
    refine x_iinc (v := (x.1 + 1)) C [(3, .int (x.1 + 1)), (0, .ref 358), (1, .int p1), (2, .int p2)] 3 rfl (congrArg (fun z => x.1 + z) (by decide : Int32.ofInt (1) = 1)) (Nat.le_of_ble_eq_true rfl) rfl dX12_fit_47 ?_
    refine x_goto (tgt := 27) C dX12_fit_50 (by decide) ?_
    refine x_sub [(0, .ref 358), (1, .int p1), (2, .int p2), (3, .int (x.1 + 1))] [1, 2, 3, 0] rfl ?_
    exact hK27 _ _ h
theorem G12_fit_L27_ok {p : Program} {e : Env} {s : State} {m : MethodId} {args : Array Value} {below : List Frame} {meth : Method} {c : Code} {l : Launch} {φ : Nat → Nat} {tc : Nat → ClassId} {D : va_G} {s0 : State} {dR : Nat} (C : CX p s m args meth c φ tc D (AX φ) s0 cX12_fit RX12 7) (hd : G12_fit_dep ≤ dR) (hr : meth.sig.returnType = (some .int))  {p1 : Int32} {p2 : Int32} {Q : Int32 → MM → Prop} {K9 : Int32 × Int32 × MM → Prop} {x : Int32 × MM}   (hK9 : ∀ (z1 : Int32) (z2 : Int32) (zμ : MM), K9 (z1, z2, zμ) → WX p l e (rmX dR) s m args below meth c φ tc D (AX φ) 7 0 0 (MQ below (QX φ tc D (QI Q)) args s 0 0 (AX φ)) 9 [(0, .ref 358), (1, .int z1), (2, .int z2)] [] zμ) (h : Lp (G12_fit_L27 p1 p2 K9 Q) x) : WX p l e (rmX dR) s m args below meth c φ tc D (AX φ) 7 0 0 (MQ below (QX φ tc D (QI Q)) args s 0 0 (AX φ)) 27 [(0, .ref 358), (1, .int p1), (2, .int p2), (3, .int x.1)] [] x.2 := by
  obtain ⟨n, h⟩ := h
  induction n generalizing x with
  | zero => exact h.elim
  | succ n ih => exact G12_fit_L27_b C hd hr  hK9 (fun z3 zμ hz => by have q := ih hz; exact q) h
set_option maxHeartbeats 4000000 in
set_option maxRecDepth 100000 in
theorem G12_fit_L9_b {p : Program} {e : Env} {s : State} {m : MethodId} {args : Array Value} {below : List Frame} {meth : Method} {c : Code} {l : Launch} {φ : Nat → Nat} {tc : Nat → ClassId} {D : va_G} {s0 : State} {dR : Nat} (C : CX p s m args meth c φ tc D (AX φ) s0 cX12_fit RX12 7) (hd : G12_fit_dep ≤ dR) (hr : meth.sig.returnType = (some .int))   {Q : Int32 → MM → Prop} {K9 : Int32 × Int32 × MM → Prop} {x : Int32 × Int32 × MM}   (hK9 : ∀ (z1 : Int32) (z2 : Int32) (zμ : MM), K9 (z1, z2, zμ) → WX p l e (rmX dR) s m args below meth c φ tc D (AX φ) 7 0 0 (MQ below (QX φ tc D (QI Q)) args s 0 0 (AX φ)) 9 [(0, .ref 358), (1, .int z1), (2, .int z2)] [] zμ) (h : G12_fit_L9  Q K9 x) : WX p l e (rmX dR) s m args below meth c φ tc D (AX φ) 7 0 0 (MQ below (QX φ tc D (QI Q)) args s 0 0 (AX φ)) 9 [(0, .ref 358), (1, .int x.1), (2, .int x.2.1)] [] x.2.2 := by
  unfold G12_fit_L9 at h
  refine x_iload_n C rfl 2 rfl dX12_fit_9 ?_
  refine x_aload_n C rfl 0 rfl dX12_fit_10 ?_
  refine x_getI C (j := 8) ob358.1 ob358.2 (Nat.le_of_ble_eq_true rfl) (Nat.le_of_ble_eq_true rfl) (Or.inl rfl) tw_8_214 dX12_fit_11 ?_
  refine x_icmp_ge (tgt := 62) C dX12_fit_14 (by decide) (fun c29 => ?_) (fun c29 => ?_)
  · have h := h.1 c29
    refine x_aload_n C rfl 0 rfl dX12_fit_62 ?_
    refine x_getR (r := 393) C (j := 51) ob358.1 ob358.2 (Nat.le_of_ble_eq_true rfl) (Nat.le_of_ble_eq_true rfl) (fun _ _ _ => rfl) r_358_51 tw_9_17 dX12_fit_63 ?_
    refine x_iconst (v := 0) C (by decide) dX12_fit_66 ?_
    refine x_callS (dC := G12_isSmall_dep) (as := [.ref 393, .int 0]) (st := []) C rX kX (Nat.le_trans (Nat.le_of_ble_eq_true rfl) hd) (Nat.le_of_ble_eq_true rfl) tw_8_40 tw_8_39 tc_8_41 tw_1_13 hyX12 hnX12_isSmall rfl (Nat.le_of_ble_eq_true rfl) dX12_fit_67 (G12_isSmall_met C.2.2.2.2.2.2.2.1 (Nat.le_refl _) ob393 h) (fun r0 μ30 hq => ?_)
    obtain ⟨rfl, h⟩ := hq
    refine x_st [] rfl ?_
    refine x_iconst (v := 0) C (by decide) dX12_fit_70 ?_
    refine x_istore_n C [(2, .int 0), (0, .ref 358), (1, .int x.1)] rfl (Nat.le_of_ble_eq_true rfl) rfl dX12_fit_71 ?_
    refine x_sub [(0, .ref 358), (1, .int x.1), (2, .int 0)] [1, 2, 0] rfl ?_
    exact G12_fit_L72_ok C hd hr  h
  · have h := h.2 c29
    refine x_aload_n C rfl 0 rfl dX12_fit_17 ?_
    refine x_iload_n C rfl 2 rfl dX12_fit_18 ?_
    refine x_callV (dC := G12_countsHouse_dep) (as := [.int x.2.1]) (st := []) C rX kX (Nat.le_trans (Nat.le_of_ble_eq_true rfl) hd) (Nat.le_of_ble_eq_true rfl) ob358.1 ob358.2 (Nat.le_of_ble_eq_true rfl) rfl ts_10_8 tw_8_1 tw_7_239 tc_8_2 tw_1_13 hyX12 hnX12_countsHouse rfl (Nat.le_of_ble_eq_true rfl) dX12_fit_19 (G12_countsHouse_met C.2.2.2.2.2.2.2.1 (Nat.le_refl _)  h) (fun r0 μ59 hq => ?_)
    obtain ⟨r60, rfl, h⟩ := hq
    refine x_st [.int r60] rfl ?_
    refine x_if_le (tgt := 56) C dX12_fit_22 (by decide) (fun c61 => ?_) (fun c61 => ?_)
    · have h := h.1 c61
      refine x_iinc (v := (x.2.1 + 1)) C [(2, .int (x.2.1 + 1)), (0, .ref 358), (1, .int x.1)] 2 rfl (congrArg (fun z => x.2.1 + z) (by decide : Int32.ofInt (1) = 1)) (Nat.le_of_ble_eq_true rfl) rfl dX12_fit_56 ?_
      refine x_goto (tgt := 9) C dX12_fit_59 (by decide) ?_
      refine x_sub [(0, .ref 358), (1, .int x.1), (2, .int (x.2.1 + 1))] [1, 2, 0] rfl ?_
      exact hK9 _ _ _ h
    · have h := h.2 c61
      refine x_iconst (v := 0) C (by decide) dX12_fit_25 ?_
      refine x_istore_n C [(3, .int 0), (0, .ref 358), (1, .int x.1), (2, .int x.2.1)] rfl (Nat.le_of_ble_eq_true rfl) rfl dX12_fit_26 ?_
      refine x_sub [(0, .ref 358), (1, .int x.1), (2, .int x.2.1), (3, .int 0)] [1, 2, 3, 0] rfl ?_
      exact G12_fit_L27_ok C hd hr hK9 h
theorem G12_fit_L9_ok {p : Program} {e : Env} {s : State} {m : MethodId} {args : Array Value} {below : List Frame} {meth : Method} {c : Code} {l : Launch} {φ : Nat → Nat} {tc : Nat → ClassId} {D : va_G} {s0 : State} {dR : Nat} (C : CX p s m args meth c φ tc D (AX φ) s0 cX12_fit RX12 7) (hd : G12_fit_dep ≤ dR) (hr : meth.sig.returnType = (some .int))   {Q : Int32 → MM → Prop}  {x : Int32 × Int32 × MM}    (h : Lp (G12_fit_L9  Q) x) : WX p l e (rmX dR) s m args below meth c φ tc D (AX φ) 7 0 0 (MQ below (QX φ tc D (QI Q)) args s 0 0 (AX φ)) 9 [(0, .ref 358), (1, .int x.1), (2, .int x.2.1)] [] x.2.2 := by
  obtain ⟨n, h⟩ := h
  induction n generalizing x with
  | zero => exact h.elim
  | succ n ih => exact G12_fit_L9_b C hd hr   (fun z1 z2 zμ hz => by have q := ih hz; exact q) h
set_option maxHeartbeats 4000000 in
set_option maxRecDepth 100000 in
theorem G12_fit_met {l : Launch} {φ : Nat → Nat} {tc : Nat → ClassId} {D : va_G} {s0 : State} (hG : GX φ tc D s0) {dR : Nat} (hd : G12_fit_dep ≤ dR)  {μ : MM} {Q : Int32 → MM → Prop}  (h : G12_fit  μ Q) : MX l φ tc D s0 dR yX12_fit cX12_fit 7 (some .int) [.ref 358] μ (QI Q) := by
  refine MX.of (own := RX12) hG plX12 rfl (Nat.le_of_ble_eq_true rfl) (fun p e s m args below meth c C hr => ?_)
  refine x_sub [(0, .ref 358)] [0] rfl ?_
  unfold G12_fit at h
  refine x_aload_n C rfl 0 rfl dX12_fit_0 ?_
  refine x_iconst (v := 0) C (by decide) dX12_fit_1 ?_
  refine x_putI C (j := 0) ob358.1 ob358.2 (Nat.le_of_ble_eq_true rfl) (Nat.le_of_ble_eq_true rfl) (Or.inl rfl) rfl rfl rfl tw_8_206 dX12_fit_2 ?_
  refine x_mu (fun μ28 e_μ28 => ?_)
  have h := h μ28 e_μ28
  refine x_iconst (v := 0) C (by decide) dX12_fit_5 ?_
  refine x_istore_n C [(1, .int 0), (0, .ref 358)] rfl (Nat.le_of_ble_eq_true rfl) rfl dX12_fit_6 ?_
  refine x_iconst (v := 0) C (by decide) dX12_fit_7 ?_
  refine x_istore_n C [(2, .int 0), (1, .int 0), (0, .ref 358)] rfl (Nat.le_of_ble_eq_true rfl) rfl dX12_fit_8 ?_
  refine x_sub [(0, .ref 358), (1, .int 0), (2, .int 0)] [2, 1, 0] rfl ?_
  exact G12_fit_L9_ok C hd hr  h
set_option maxHeartbeats 4000000 in
set_option maxRecDepth 100000 in
theorem G12_likelies_L48_b {p : Program} {e : Env} {s : State} {m : MethodId} {args : Array Value} {below : List Frame} {meth : Method} {c : Code} {l : Launch} {φ : Nat → Nat} {tc : Nat → ClassId} {D : va_G} {s0 : State} {dR : Nat} (C : CX p s m args meth c φ tc D (AX φ) s0 cX12_likelies RX12 4) (hd : G12_likelies_dep ≤ dR) (hr : meth.sig.returnType = none)  {p1 : Int32} {p2 : Int32} {Q : MM → Prop} {K2 : Int32 × MM → Prop} {K48 : Int32 × MM → Prop} {x : Int32 × MM}   (hK2 : ∀ (z2 : Int32) (zμ : MM), K2 (z2, zμ) → WX p l e (rmX dR) s m args below meth c φ tc D (AX φ) 4 0 0 (MQ below (QX φ tc D (QV Q)) args s 0 0 (AX φ)) 2 [(0, .ref 358), (1, .int p1), (2, .int z2)] [] zμ) (hK48 : ∀ (z3 : Int32) (zμ : MM), K48 (z3, zμ) → WX p l e (rmX dR) s m args below meth c φ tc D (AX φ) 4 0 0 (MQ below (QX φ tc D (QV Q)) args s 0 0 (AX φ)) 48 [(0, .ref 358), (1, .int p1), (2, .int p2), (3, .int z3)] [] zμ) (h : G12_likelies_L48 p1 p2 K2 Q K48 x) : WX p l e (rmX dR) s m args below meth c φ tc D (AX φ) 4 0 0 (MQ below (QX φ tc D (QV Q)) args s 0 0 (AX φ)) 48 [(0, .ref 358), (1, .int p1), (2, .int p2), (3, .int x.1)] [] x.2 := by
  unfold G12_likelies_L48 at h
  refine x_iload_n C rfl 3 rfl dX12_likelies_48 ?_
  refine x_iconst (v := 4) C (by decide) dX12_likelies_49 ?_
  refine x_icmp_ge (tgt := 85) C dX12_likelies_50 (by decide) (fun c29 => ?_) (fun c29 => ?_)
  · have h := h.1 c29
    refine x_iinc (v := (p2 + 1)) C [(2, .int (p2 + 1)), (0, .ref 358), (1, .int p1), (3, .int x.1)] 2 rfl (congrArg (fun z => p2 + z) (by decide : Int32.ofInt (1) = 1)) (Nat.le_of_ble_eq_true rfl) rfl dX12_likelies_85 ?_
    refine x_goto (tgt := 2) C dX12_likelies_88 (by decide) ?_
    refine x_sub [(0, .ref 358), (1, .int p1), (2, .int (p2 + 1))] [1, 2, 0] rfl ?_
    exact hK2 _ _ h
  · have h := h.2 c29
    refine x_aload_n C rfl 0 rfl dX12_likelies_53 ?_
    refine x_getR (r := 397) C (j := 55) ob358.1 ob358.2 (Nat.le_of_ble_eq_true rfl) (Nat.le_of_ble_eq_true rfl) (fun _ _ _ => rfl) r_358_55 tw_9_21 dX12_likelies_54 ?_
    refine x_iload_n C rfl 2 rfl dX12_likelies_57 ?_
    refine x_dup2_11 C rfl rfl dX12_likelies_58 ?_
    obtain ⟨c30, h⟩ := h
    refine x_lald C ob397.1 ob397.2 c30 rfl dX12_likelies_59 ?_
    refine x_iload_n C rfl 1 rfl dX12_likelies_60 ?_
    refine x_iload_n C rfl 3 rfl dX12_likelies_61 ?_
    refine x_callS (dC := G12_has_dep) (as := [.int p1, .int x.1]) (st := [.long (gJ x.2 397 p2.toNatClampNeg), .int p2, .ref 397]) C rX kX (Nat.le_trans (Nat.le_of_ble_eq_true rfl) hd) (Nat.le_of_ble_eq_true rfl) tw_7_203 tw_7_202 tc_7_204 tw_1_13 hyX12 hnX12_has rfl (Nat.le_of_ble_eq_true rfl) dX12_likelies_62 (G12_has_met C.2.2.2.2.2.2.2.1 (Nat.le_refl _)  h) (fun r0 μ31 hq => ?_)
    obtain ⟨r32, rfl, h⟩ := hq
    refine x_st [.int r32, .long (gJ x.2 397 p2.toNatClampNeg), .int p2, .ref 397] rfl ?_
    refine x_if_eq (tgt := 76) C dX12_likelies_65 (by decide) (fun c33 => ?_) (fun c33 => ?_)
    · have h := h.1 c33
      refine x_lconst (v := 0) C (by decide) dX12_likelies_76 ?_
      refine x_ladd C dX12_likelies_77 ?_
      obtain ⟨c34, h⟩ := h
      refine x_last C ob397.1 ob397.2 c34 rfl dX12_likelies_78 ?_
      refine x_mu (fun μ35 e_μ35 => ?_)
      have h := h μ35 e_μ35
      refine x_iinc (v := (x.1 + 1)) C [(3, .int (x.1 + 1)), (0, .ref 358), (1, .int p1), (2, .int p2)] 3 rfl (congrArg (fun z => x.1 + z) (by decide : Int32.ofInt (1) = 1)) (Nat.le_of_ble_eq_true rfl) rfl dX12_likelies_79 ?_
      refine x_goto (tgt := 48) C dX12_likelies_82 (by decide) ?_
      refine x_sub [(0, .ref 358), (1, .int p1), (2, .int p2), (3, .int (x.1 + 1))] [1, 2, 3, 0] rfl ?_
      exact hK48 _ _ h
    · have h := h.2 c33
      refine x_aload_n C rfl 0 rfl dX12_likelies_68 ?_
      refine x_iload_n C rfl 3 rfl dX12_likelies_69 ?_
      refine x_callV (dC := G12_likelyOf_dep) (as := [.int x.1]) (st := [.long (gJ x.2 397 p2.toNatClampNeg), .int p2, .ref 397]) C rX kX (Nat.le_trans (Nat.le_of_ble_eq_true rfl) hd) (Nat.le_of_ble_eq_true rfl) ob358.1 ob358.2 (Nat.le_of_ble_eq_true rfl) rfl ts_10_11 tw_8_32 tw_8_30 tc_8_33 tw_1_13 hyX12 hnX12_likelyOf rfl (Nat.le_of_ble_eq_true rfl) dX12_likelies_70 (G12_likelyOf_met C.2.2.2.2.2.2.2.1 (Nat.le_refl _)  h) (fun r0 μ36 hq => ?_)
      obtain ⟨r37, rfl, h⟩ := hq
      refine x_st [.long r37, .long (gJ x.2 397 p2.toNatClampNeg), .int p2, .ref 397] rfl ?_
      refine x_goto (tgt := 77) C dX12_likelies_73 (by decide) ?_
      refine x_ladd C dX12_likelies_77 ?_
      obtain ⟨c38, h⟩ := h
      refine x_last C ob397.1 ob397.2 c38 rfl dX12_likelies_78 ?_
      refine x_mu (fun μ39 e_μ39 => ?_)
      have h := h μ39 e_μ39
      refine x_iinc (v := (x.1 + 1)) C [(3, .int (x.1 + 1)), (0, .ref 358), (1, .int p1), (2, .int p2)] 3 rfl (congrArg (fun z => x.1 + z) (by decide : Int32.ofInt (1) = 1)) (Nat.le_of_ble_eq_true rfl) rfl dX12_likelies_79 ?_
      refine x_goto (tgt := 48) C dX12_likelies_82 (by decide) ?_
      refine x_sub [(0, .ref 358), (1, .int p1), (2, .int p2), (3, .int (x.1 + 1))] [1, 2, 3, 0] rfl ?_
      exact hK48 _ _ h
theorem G12_likelies_L48_ok {p : Program} {e : Env} {s : State} {m : MethodId} {args : Array Value} {below : List Frame} {meth : Method} {c : Code} {l : Launch} {φ : Nat → Nat} {tc : Nat → ClassId} {D : va_G} {s0 : State} {dR : Nat} (C : CX p s m args meth c φ tc D (AX φ) s0 cX12_likelies RX12 4) (hd : G12_likelies_dep ≤ dR) (hr : meth.sig.returnType = none)  {p1 : Int32} {p2 : Int32} {Q : MM → Prop} {K2 : Int32 × MM → Prop} {x : Int32 × MM}   (hK2 : ∀ (z2 : Int32) (zμ : MM), K2 (z2, zμ) → WX p l e (rmX dR) s m args below meth c φ tc D (AX φ) 4 0 0 (MQ below (QX φ tc D (QV Q)) args s 0 0 (AX φ)) 2 [(0, .ref 358), (1, .int p1), (2, .int z2)] [] zμ) (h : Lp (G12_likelies_L48 p1 p2 K2 Q) x) : WX p l e (rmX dR) s m args below meth c φ tc D (AX φ) 4 0 0 (MQ below (QX φ tc D (QV Q)) args s 0 0 (AX φ)) 48 [(0, .ref 358), (1, .int p1), (2, .int p2), (3, .int x.1)] [] x.2 := by
  obtain ⟨n, h⟩ := h
  induction n generalizing x with
  | zero => exact h.elim
  | succ n ih => exact G12_likelies_L48_b C hd hr  hK2 (fun z3 zμ hz => by have q := ih hz; exact q) h
set_option maxHeartbeats 4000000 in
set_option maxRecDepth 100000 in
theorem G12_likelies_L2_b {p : Program} {e : Env} {s : State} {m : MethodId} {args : Array Value} {below : List Frame} {meth : Method} {c : Code} {l : Launch} {φ : Nat → Nat} {tc : Nat → ClassId} {D : va_G} {s0 : State} {dR : Nat} (C : CX p s m args meth c φ tc D (AX φ) s0 cX12_likelies RX12 4) (hd : G12_likelies_dep ≤ dR) (hr : meth.sig.returnType = none)  {p1 : Int32} {Q : MM → Prop} {K2 : Int32 × MM → Prop} {x : Int32 × MM}   (hK2 : ∀ (z2 : Int32) (zμ : MM), K2 (z2, zμ) → WX p l e (rmX dR) s m args below meth c φ tc D (AX φ) 4 0 0 (MQ below (QX φ tc D (QV Q)) args s 0 0 (AX φ)) 2 [(0, .ref 358), (1, .int p1), (2, .int z2)] [] zμ) (h : G12_likelies_L2 p1 Q K2 x) : WX p l e (rmX dR) s m args below meth c φ tc D (AX φ) 4 0 0 (MQ below (QX φ tc D (QV Q)) args s 0 0 (AX φ)) 2 [(0, .ref 358), (1, .int p1), (2, .int x.1)] [] x.2 := by
  unfold G12_likelies_L2 at h
  refine x_iload_n C rfl 2 rfl dX12_likelies_2 ?_
  refine x_aload_n C rfl 0 rfl dX12_likelies_3 ?_
  refine x_getI C (j := 8) ob358.1 ob358.2 (Nat.le_of_ble_eq_true rfl) (Nat.le_of_ble_eq_true rfl) (Or.inl rfl) tw_8_214 dX12_likelies_4 ?_
  refine x_icmp_ge (tgt := 91) C dX12_likelies_7 (by decide) (fun c18 => ?_) (fun c18 => ?_)
  · have h := h.1 c18
    exact x_vret C hr dX12_likelies_91 ⟨rfl, h⟩
  · have h := h.2 c18
    refine x_aload_n C rfl 0 rfl dX12_likelies_10 ?_
    refine x_getR (r := 397) C (j := 55) ob358.1 ob358.2 (Nat.le_of_ble_eq_true rfl) (Nat.le_of_ble_eq_true rfl) (fun _ _ _ => rfl) r_358_55 tw_9_21 dX12_likelies_11 ?_
    refine x_iload_n C rfl 2 rfl dX12_likelies_14 ?_
    refine x_ldc2 (v := (-1)) C tw_8_62 dX12_likelies_15 ?_
    obtain ⟨c19, h⟩ := h
    refine x_last C ob397.1 ob397.2 c19 rfl dX12_likelies_18 ?_
    refine x_mu (fun μ20 e_μ20 => ?_)
    have h := h μ20 e_μ20
    refine x_aload_n C rfl 0 rfl dX12_likelies_19 ?_
    refine x_iload_n C rfl 2 rfl dX12_likelies_20 ?_
    refine x_callV (dC := G12_countsHouse_dep) (as := [.int x.1]) (st := []) C rX kX (Nat.le_trans (Nat.le_of_ble_eq_true rfl) hd) (Nat.le_of_ble_eq_true rfl) ob358.1 ob358.2 (Nat.le_of_ble_eq_true rfl) rfl ts_10_8 tw_8_1 tw_7_239 tc_8_2 tw_1_13 hyX12 hnX12_countsHouse rfl (Nat.le_of_ble_eq_true rfl) dX12_likelies_21 (G12_countsHouse_met C.2.2.2.2.2.2.2.1 (Nat.le_refl _)  h) (fun r0 μ21 hq => ?_)
    obtain ⟨r22, rfl, h⟩ := hq
    refine x_st [.int r22] rfl ?_
    refine x_if_eq (tgt := 85) C dX12_likelies_24 (by decide) (fun c23 => ?_) (fun c23 => ?_)
    · have h := h.1 c23
      refine x_iinc (v := (x.1 + 1)) C [(2, .int (x.1 + 1)), (0, .ref 358), (1, .int p1)] 2 rfl (congrArg (fun z => x.1 + z) (by decide : Int32.ofInt (1) = 1)) (Nat.le_of_ble_eq_true rfl) rfl dX12_likelies_85 ?_
      refine x_goto (tgt := 2) C dX12_likelies_88 (by decide) ?_
      refine x_sub [(0, .ref 358), (1, .int p1), (2, .int (x.1 + 1))] [1, 2, 0] rfl ?_
      exact hK2 _ _ h
    · have h := h.2 c23
      refine x_aload_n C rfl 0 rfl dX12_likelies_27 ?_
      refine x_callV (dC := G12_allKinds_dep) (as := []) (st := []) C rX kX (Nat.le_trans (Nat.le_of_ble_eq_true rfl) hd) (Nat.le_of_ble_eq_true rfl) ob358.1 ob358.2 (Nat.le_of_ble_eq_true rfl) rfl ts_10_9 tw_8_21 tw_8_19 tc_8_22 tw_1_13 hyX12 hnX12_allKinds rfl (Nat.le_of_ble_eq_true rfl) dX12_likelies_28 (G12_allKinds_met C.2.2.2.2.2.2.2.1 (Nat.le_refl _)  h) (fun r0 μ24 hq => ?_)
      obtain ⟨r25, rfl, h⟩ := hq
      refine x_st [.long r25] rfl ?_
      refine x_lconst (v := 0) C (by decide) dX12_likelies_31 ?_
      refine x_lcmp C dX12_likelies_32 ?_
      refine x_if_ne (tgt := 39) C dX12_likelies_33 (by decide) (fun c26 => ?_) (fun c26 => ?_)
      · have h := h.1 c26
        refine x_aload_n C rfl 0 rfl dX12_likelies_39 ?_
        refine x_getR (r := 397) C (j := 55) ob358.1 ob358.2 (Nat.le_of_ble_eq_true rfl) (Nat.le_of_ble_eq_true rfl) (fun _ _ _ => rfl) r_358_55 tw_9_21 dX12_likelies_40 ?_
        refine x_iload_n C rfl 2 rfl dX12_likelies_43 ?_
        refine x_lconst (v := 0) C (by decide) dX12_likelies_44 ?_
        obtain ⟨c27, h⟩ := h
        refine x_last C ob397.1 ob397.2 c27 rfl dX12_likelies_45 ?_
        refine x_mu (fun μ28 e_μ28 => ?_)
        have h := h μ28 e_μ28
        refine x_iconst (v := 0) C (by decide) dX12_likelies_46 ?_
        refine x_istore_n C [(3, .int 0), (0, .ref 358), (1, .int p1), (2, .int x.1)] rfl (Nat.le_of_ble_eq_true rfl) rfl dX12_likelies_47 ?_
        refine x_sub [(0, .ref 358), (1, .int p1), (2, .int x.1), (3, .int 0)] [1, 2, 3, 0] rfl ?_
        exact G12_likelies_L48_ok C hd hr hK2 h
      · have h := h.2 c26
        refine x_goto (tgt := 85) C dX12_likelies_36 (by decide) ?_
        refine x_iinc (v := (x.1 + 1)) C [(2, .int (x.1 + 1)), (0, .ref 358), (1, .int p1)] 2 rfl (congrArg (fun z => x.1 + z) (by decide : Int32.ofInt (1) = 1)) (Nat.le_of_ble_eq_true rfl) rfl dX12_likelies_85 ?_
        refine x_goto (tgt := 2) C dX12_likelies_88 (by decide) ?_
        refine x_sub [(0, .ref 358), (1, .int p1), (2, .int (x.1 + 1))] [1, 2, 0] rfl ?_
        exact hK2 _ _ h
theorem G12_likelies_L2_ok {p : Program} {e : Env} {s : State} {m : MethodId} {args : Array Value} {below : List Frame} {meth : Method} {c : Code} {l : Launch} {φ : Nat → Nat} {tc : Nat → ClassId} {D : va_G} {s0 : State} {dR : Nat} (C : CX p s m args meth c φ tc D (AX φ) s0 cX12_likelies RX12 4) (hd : G12_likelies_dep ≤ dR) (hr : meth.sig.returnType = none)  {p1 : Int32} {Q : MM → Prop}  {x : Int32 × MM}    (h : Lp (G12_likelies_L2 p1 Q) x) : WX p l e (rmX dR) s m args below meth c φ tc D (AX φ) 4 0 0 (MQ below (QX φ tc D (QV Q)) args s 0 0 (AX φ)) 2 [(0, .ref 358), (1, .int p1), (2, .int x.1)] [] x.2 := by
  obtain ⟨n, h⟩ := h
  induction n generalizing x with
  | zero => exact h.elim
  | succ n ih => exact G12_likelies_L2_b C hd hr   (fun z2 zμ hz => by have q := ih hz; exact q) h
set_option maxHeartbeats 4000000 in
set_option maxRecDepth 100000 in
theorem G12_likelies_met {l : Launch} {φ : Nat → Nat} {tc : Nat → ClassId} {D : va_G} {s0 : State} (hG : GX φ tc D s0) {dR : Nat} (hd : G12_likelies_dep ≤ dR) {v1 : Int32} {μ : MM} {Q : MM → Prop}  (h : G12_likelies v1 μ Q) : MX l φ tc D s0 dR yX12_likelies cX12_likelies 4 none [.ref 358, .int v1] μ (QV Q) := by
  refine MX.of (own := RX12) hG plX12 rfl (Nat.le_of_ble_eq_true rfl) (fun p e s m args below meth c C hr => ?_)
  refine x_sub [(0, .ref 358), (1, .int v1)] [0, 1] rfl ?_
  unfold G12_likelies at h
  refine x_iconst (v := 0) C (by decide) dX12_likelies_0 ?_
  refine x_istore_n C [(2, .int 0), (0, .ref 358), (1, .int v1)] rfl (Nat.le_of_ble_eq_true rfl) rfl dX12_likelies_1 ?_
  refine x_sub [(0, .ref 358), (1, .int v1), (2, .int 0)] [1, 2, 0] rfl ?_
  exact G12_likelies_L2_ok C hd hr  h
set_option maxHeartbeats 4000000 in
set_option maxRecDepth 100000 in
theorem G12_named_J150_ok {p : Program} {e : Env} {s : State} {m : MethodId} {args : Array Value} {below : List Frame} {meth : Method} {c : Code} {l : Launch} {φ : Nat → Nat} {tc : Nat → ClassId} {D : va_G} {s0 : State} {dR : Nat} (C : CX p s m args meth c φ tc D (AX φ) s0 cX12_named RX12 10) (hd : G12_named_dep ≤ dR) (hr : meth.sig.returnType = (some .int))   {p2 : Int32} {p3 : Int32} {p4 : Int64} {p8 : Int32} {q0 : Int64} {q1 : Int64} {Q : Int32 → MM → Prop} {K47 : Int32 × Int64 × Int64 × Int32 × MM → Prop} {μ : MM}   (hK47 : ∀ (z3 : Int32) (z4 : Int64) (z6 : Int64) (z8 : Int32) (zμ : MM), K47 (z3, z4, z6, z8, zμ) → WX p l e (rmX dR) s m args below meth c φ tc D (AX φ) 10 0 0 (MQ below (QX φ tc D (QI Q)) args s 0 0 (AX φ)) 47 [(0, .ref 358), (2, .int p2), (3, .int z3), (4, .long z4), (6, .long z6), (8, .int z8)] [] zμ) (h : G12_named_J150 p2 p3 p4 p8 q0 q1 μ K47 Q) : WX p l e (rmX dR) s m args below meth c φ tc D (AX φ) 10 0 0 (MQ below (QX φ tc D (QI Q)) args s 0 0 (AX φ)) 150 [(0, .ref 358), (2, .int p2), (3, .int p3), (4, .long p4), (8, .int p8)] [.long q0, .long q1] μ := by
  unfold G12_named_J150 at h
  refine x_ladd C dX12_named_150 ?_
  refine x_topl (fun y45 e_y45 => ?_)
  have h := h y45 e_y45
  refine x_lstore C [(6, .long y45), (0, .ref 358), (2, .int p2), (3, .int p3), (4, .long p4), (8, .int p8)] (Nat.le_of_ble_eq_true rfl) rfl dX12_named_151 ?_
  refine x_iinc (v := (p8 + 1)) C [(8, .int (p8 + 1)), (6, .long y45), (0, .ref 358), (2, .int p2), (3, .int p3), (4, .long p4)] 5 rfl (congrArg (fun z => p8 + z) (by decide : Int32.ofInt (1) = 1)) (Nat.le_of_ble_eq_true rfl) rfl dX12_named_153 ?_
  refine x_goto (tgt := 47) C dX12_named_156 (by decide) ?_
  refine x_sub [(0, .ref 358), (2, .int p2), (3, .int p3), (4, .long p4), (6, .long y45), (8, .int (p8 + 1))] [2, 3, 4, 5, 1, 0] rfl ?_
  exact hK47 _ _ _ _ _ h
set_option maxHeartbeats 4000000 in
set_option maxRecDepth 100000 in
theorem G12_named_J129_ok {p : Program} {e : Env} {s : State} {m : MethodId} {args : Array Value} {below : List Frame} {meth : Method} {c : Code} {l : Launch} {φ : Nat → Nat} {tc : Nat → ClassId} {D : va_G} {s0 : State} {dR : Nat} (C : CX p s m args meth c φ tc D (AX φ) s0 cX12_named RX12 10) (hd : G12_named_dep ≤ dR) (hr : meth.sig.returnType = (some .int))   {p2 : Int32} {p3 : Int32} {p6 : Int64} {p8 : Int32} {p9 : Int32} {q0 : Int64} {q1 : Int64} {Q : Int32 → MM → Prop} {K47 : Int32 × Int64 × Int64 × Int32 × MM → Prop} {μ : MM}   (hK47 : ∀ (z3 : Int32) (z4 : Int64) (z6 : Int64) (z8 : Int32) (zμ : MM), K47 (z3, z4, z6, z8, zμ) → WX p l e (rmX dR) s m args below meth c φ tc D (AX φ) 10 0 0 (MQ below (QX φ tc D (QI Q)) args s 0 0 (AX φ)) 47 [(0, .ref 358), (2, .int p2), (3, .int z3), (4, .long z4), (6, .long z6), (8, .int z8)] [] zμ) (h : G12_named_J129 p2 p3 p6 p8 p9 q0 q1 μ K47 Q) : WX p l e (rmX dR) s m args below meth c φ tc D (AX φ) 10 0 0 (MQ below (QX φ tc D (QI Q)) args s 0 0 (AX φ)) 129 [(0, .ref 358), (2, .int p2), (3, .int p3), (6, .long p6), (8, .int p8), (9, .int p9)] [.long q0, .long q1] μ := by
  unfold G12_named_J129 at h
  refine x_ladd C dX12_named_129 ?_
  refine x_topl (fun y42 e_y42 => ?_)
  have h := h y42 e_y42
  refine x_lstore C [(4, .long y42), (0, .ref 358), (2, .int p2), (3, .int p3), (6, .long p6), (8, .int p8), (9, .int p9)] (Nat.le_of_ble_eq_true rfl) rfl dX12_named_130 ?_
  refine x_lload C 4 rfl dX12_named_132 ?_
  refine x_iload C 6 rfl dX12_named_134 ?_
  refine x_if_eq (tgt := 143) C dX12_named_136 (by decide) (fun c43 => ?_) (fun c43 => ?_)
  · have h := h.1 c43
    refine x_aload_n C rfl 1 rfl dX12_named_143 ?_
    refine x_getR (r := 397) C (j := 55) ob358.1 ob358.2 (Nat.le_of_ble_eq_true rfl) (Nat.le_of_ble_eq_true rfl) (fun _ _ _ => rfl) r_358_55 tw_9_21 dX12_named_144 ?_
    refine x_iload C 5 rfl dX12_named_147 ?_
    obtain ⟨c44, h⟩ := h
    refine x_lald C ob397.1 ob397.2 c44 rfl dX12_named_149 ?_
    refine x_sub [(0, .ref 358), (2, .int p2), (3, .int p3), (4, .long y42), (8, .int p8)] [1, 2, 3, 0, 5] rfl ?_
    exact G12_named_J150_ok C hd hr hK47 h
  · have h := h.2 c43
    refine x_lconst (v := 0) C (by decide) dX12_named_139 ?_
    refine x_goto (tgt := 150) C dX12_named_140 (by decide) ?_
    refine x_sub [(0, .ref 358), (2, .int p2), (3, .int p3), (4, .long y42), (8, .int p8)] [1, 2, 3, 0, 5] rfl ?_
    exact G12_named_J150_ok C hd hr hK47 h
set_option maxHeartbeats 4000000 in
set_option maxRecDepth 100000 in
theorem G12_named_J105_ok {p : Program} {e : Env} {s : State} {m : MethodId} {args : Array Value} {below : List Frame} {meth : Method} {c : Code} {l : Launch} {φ : Nat → Nat} {tc : Nat → ClassId} {D : va_G} {s0 : State} {dR : Nat} (C : CX p s m args meth c φ tc D (AX φ) s0 cX12_named RX12 10) (hd : G12_named_dep ≤ dR) (hr : meth.sig.returnType = (some .int))   {p2 : Int32} {p4 : Int64} {p6 : Int64} {p8 : Int32} {p9 : Int32} {q0 : Int32} {q1 : Int32} {Q : Int32 → MM → Prop} {K47 : Int32 × Int64 × Int64 × Int32 × MM → Prop} {μ : MM}   (hK47 : ∀ (z3 : Int32) (z4 : Int64) (z6 : Int64) (z8 : Int32) (zμ : MM), K47 (z3, z4, z6, z8, zμ) → WX p l e (rmX dR) s m args below meth c φ tc D (AX φ) 10 0 0 (MQ below (QX φ tc D (QI Q)) args s 0 0 (AX φ)) 47 [(0, .ref 358), (2, .int p2), (3, .int z3), (4, .long z4), (6, .long z6), (8, .int z8)] [] zμ) (h : G12_named_J105 p2 p4 p6 p8 p9 q0 q1 μ K47 Q) : WX p l e (rmX dR) s m args below meth c φ tc D (AX φ) 10 0 0 (MQ below (QX φ tc D (QI Q)) args s 0 0 (AX φ)) 105 [(0, .ref 358), (2, .int p2), (4, .long p4), (6, .long p6), (8, .int p8), (9, .int p9)] [.int q0, .int q1] μ := by
  unfold G12_named_J105 at h
  refine x_ior C dX12_named_105 ?_
  refine x_topi (fun y40 e_y40 => ?_)
  have h := h y40 e_y40
  refine x_istore_n C [(3, .int y40), (0, .ref 358), (2, .int p2), (4, .long p4), (6, .long p6), (8, .int p8), (9, .int p9)] rfl (Nat.le_of_ble_eq_true rfl) rfl dX12_named_106 ?_
  refine x_lload C 3 rfl dX12_named_107 ?_
  refine x_iload C 6 rfl dX12_named_109 ?_
  refine x_if_eq (tgt := 128) C dX12_named_111 (by decide) (fun c41 => ?_) (fun c41 => ?_)
  · have h := h.1 c41
    refine x_lconst (v := 0) C (by decide) dX12_named_128 ?_
    refine x_sub [(0, .ref 358), (2, .int p2), (3, .int y40), (6, .long p6), (8, .int p8), (9, .int p9)] [1, 2, 0, 4, 5, 6] rfl ?_
    exact G12_named_J129_ok C hd hr hK47 h
  · have h := h.2 c41
    refine x_ldc2 (v := 1000000) C tw_8_57 dX12_named_114 ?_
    refine x_aload_n C rfl 1 rfl dX12_named_117 ?_
    refine x_getR (r := 397) C (j := 55) ob358.1 ob358.2 (Nat.le_of_ble_eq_true rfl) (Nat.le_of_ble_eq_true rfl) (fun _ _ _ => rfl) r_358_55 tw_9_21 dX12_named_118 ?_
    refine x_iload C 5 rfl dX12_named_121 ?_
    obtain ⟨c46, h⟩ := h
    refine x_lald C ob397.1 ob397.2 c46 rfl dX12_named_123 ?_
    refine x_lsub C dX12_named_124 ?_
    refine x_goto (tgt := 129) C dX12_named_125 (by decide) ?_
    refine x_sub [(0, .ref 358), (2, .int p2), (3, .int y40), (6, .long p6), (8, .int p8), (9, .int p9)] [1, 2, 0, 4, 5, 6] rfl ?_
    exact G12_named_J129_ok C hd hr hK47 h
set_option maxHeartbeats 4000000 in
set_option maxRecDepth 100000 in
theorem G12_named_J89_ok {p : Program} {e : Env} {s : State} {m : MethodId} {args : Array Value} {below : List Frame} {meth : Method} {c : Code} {l : Launch} {φ : Nat → Nat} {tc : Nat → ClassId} {D : va_G} {s0 : State} {dR : Nat} (C : CX p s m args meth c φ tc D (AX φ) s0 cX12_named RX12 10) (hd : G12_named_dep ≤ dR) (hr : meth.sig.returnType = (some .int))   {p2 : Int32} {p3 : Int32} {p4 : Int64} {p6 : Int64} {p8 : Int32} {q0 : Int32} {Q : Int32 → MM → Prop} {K47 : Int32 × Int64 × Int64 × Int32 × MM → Prop} {μ : MM}   (hK47 : ∀ (z3 : Int32) (z4 : Int64) (z6 : Int64) (z8 : Int32) (zμ : MM), K47 (z3, z4, z6, z8, zμ) → WX p l e (rmX dR) s m args below meth c φ tc D (AX φ) 10 0 0 (MQ below (QX φ tc D (QI Q)) args s 0 0 (AX φ)) 47 [(0, .ref 358), (2, .int p2), (3, .int z3), (4, .long z4), (6, .long z6), (8, .int z8)] [] zμ) (h : G12_named_J89 p2 p3 p4 p6 p8 q0 μ K47 Q) : WX p l e (rmX dR) s m args below meth c φ tc D (AX φ) 10 0 0 (MQ below (QX φ tc D (QI Q)) args s 0 0 (AX φ)) 89 [(0, .ref 358), (2, .int p2), (3, .int p3), (4, .long p4), (6, .long p6), (8, .int p8)] [.int q0] μ := by
  unfold G12_named_J89 at h
  refine x_istore C [(9, .int q0), (0, .ref 358), (2, .int p2), (3, .int p3), (4, .long p4), (6, .long p6), (8, .int p8)] (Nat.le_of_ble_eq_true rfl) rfl dX12_named_89 ?_
  refine x_iload_n C rfl 3 rfl dX12_named_91 ?_
  refine x_iload C 0 rfl dX12_named_92 ?_
  refine x_if_eq (tgt := 104) C dX12_named_94 (by decide) (fun c39 => ?_) (fun c39 => ?_)
  · have h := h.1 c39
    refine x_iconst (v := 0) C (by decide) dX12_named_104 ?_
    refine x_sub [(0, .ref 358), (2, .int p2), (4, .long p4), (6, .long p6), (8, .int p8), (9, .int q0)] [1, 2, 4, 5, 6, 0] rfl ?_
    exact G12_named_J105_ok C hd hr hK47 h
  · have h := h.2 c39
    refine x_iconst (v := 1) C (by decide) dX12_named_97 ?_
    refine x_iload C 6 rfl dX12_named_98 ?_
    refine x_ishl C dX12_named_100 ?_
    refine x_goto (tgt := 105) C dX12_named_101 (by decide) ?_
    refine x_sub [(0, .ref 358), (2, .int p2), (4, .long p4), (6, .long p6), (8, .int p8), (9, .int q0)] [1, 2, 4, 5, 6, 0] rfl ?_
    exact G12_named_J105_ok C hd hr hK47 h
set_option maxHeartbeats 4000000 in
set_option maxRecDepth 100000 in
theorem G12_named_L47_b {p : Program} {e : Env} {s : State} {m : MethodId} {args : Array Value} {below : List Frame} {meth : Method} {c : Code} {l : Launch} {φ : Nat → Nat} {tc : Nat → ClassId} {D : va_G} {s0 : State} {dR : Nat} (C : CX p s m args meth c φ tc D (AX φ) s0 cX12_named RX12 10) (hd : G12_named_dep ≤ dR) (hr : meth.sig.returnType = (some .int))  {p2 : Int32} {Q : Int32 → MM → Prop} {K47 : Int32 × Int64 × Int64 × Int32 × MM → Prop} {x : Int32 × Int64 × Int64 × Int32 × MM}   (hK47 : ∀ (z3 : Int32) (z4 : Int64) (z6 : Int64) (z8 : Int32) (zμ : MM), K47 (z3, z4, z6, z8, zμ) → WX p l e (rmX dR) s m args below meth c φ tc D (AX φ) 10 0 0 (MQ below (QX φ tc D (QI Q)) args s 0 0 (AX φ)) 47 [(0, .ref 358), (2, .int p2), (3, .int z3), (4, .long z4), (6, .long z6), (8, .int z8)] [] zμ) (h : G12_named_L47 p2 Q K47 x) : WX p l e (rmX dR) s m args below meth c φ tc D (AX φ) 10 0 0 (MQ below (QX φ tc D (QI Q)) args s 0 0 (AX φ)) 47 [(0, .ref 358), (2, .int p2), (3, .int x.1), (4, .long x.2.1), (6, .long x.2.2.1), (8, .int x.2.2.2.1)] [] x.2.2.2.2 := by
  unfold G12_named_L47 at h
  refine x_iload C 5 rfl dX12_named_47 ?_
  refine x_aload_n C rfl 0 rfl dX12_named_49 ?_
  refine x_getI C (j := 8) ob358.1 ob358.2 (Nat.le_of_ble_eq_true rfl) (Nat.le_of_ble_eq_true rfl) (Or.inl rfl) tw_8_214 dX12_named_50 ?_
  refine x_icmp_ge (tgt := 159) C dX12_named_53 (by decide) (fun c28 => ?_) (fun c28 => ?_)
  · have h := h.1 c28
    refine x_aload_n C rfl 0 rfl dX12_named_159 ?_
    refine x_iconst (v := 0) C (by decide) dX12_named_160 ?_
    refine x_putI C (j := 1) ob358.1 ob358.2 (Nat.le_of_ble_eq_true rfl) (Nat.le_of_ble_eq_true rfl) (Or.inl rfl) rfl rfl rfl tw_8_207 dX12_named_161 ?_
    refine x_mu (fun μ29 e_μ29 => ?_)
    have h := h μ29 e_μ29
    refine x_aload_n C rfl 0 rfl dX12_named_164 ?_
    refine x_iload_n C rfl 2 rfl dX12_named_165 ?_
    refine x_i2l C dX12_named_166 ?_
    refine x_callV (dC := G12_enters_dep) (as := [.long (x.1.toInt64)]) (st := []) C rX kX (Nat.le_trans (Nat.le_of_ble_eq_true rfl) hd) (Nat.le_of_ble_eq_true rfl) ob358.1 ob358.2 (Nat.le_of_ble_eq_true rfl) rfl ts_10_1 tw_7_161 tw_7_159 tc_7_162 tw_1_13 hyX12 hnX12_enters rfl (Nat.le_of_ble_eq_true rfl) dX12_named_167 (G12_enters_met C.2.2.2.2.2.2.2.1 (Nat.le_refl _)  h) (fun r0 μ30 hq => ?_)
    obtain ⟨rfl, h⟩ := hq
    refine x_st [] rfl ?_
    refine x_aload_n C rfl 0 rfl dX12_named_170 ?_
    refine x_lload C 3 rfl dX12_named_171 ?_
    refine x_callV (dC := G12_enters_dep) (as := [.long x.2.1]) (st := []) C rX kX (Nat.le_trans (Nat.le_of_ble_eq_true rfl) hd) (Nat.le_of_ble_eq_true rfl) ob358.1 ob358.2 (Nat.le_of_ble_eq_true rfl) rfl ts_10_1 tw_7_161 tw_7_159 tc_7_162 tw_1_13 hyX12 hnX12_enters rfl (Nat.le_of_ble_eq_true rfl) dX12_named_173 (G12_enters_met C.2.2.2.2.2.2.2.1 (Nat.le_refl _)  h) (fun r0 μ31 hq => ?_)
    obtain ⟨rfl, h⟩ := hq
    refine x_st [] rfl ?_
    refine x_aload_n C rfl 0 rfl dX12_named_176 ?_
    refine x_lload C 4 rfl dX12_named_177 ?_
    refine x_callV (dC := G12_enters_dep) (as := [.long x.2.2.1]) (st := []) C rX kX (Nat.le_trans (Nat.le_of_ble_eq_true rfl) hd) (Nat.le_of_ble_eq_true rfl) ob358.1 ob358.2 (Nat.le_of_ble_eq_true rfl) rfl ts_10_1 tw_7_161 tw_7_159 tc_7_162 tw_1_13 hyX12 hnX12_enters rfl (Nat.le_of_ble_eq_true rfl) dX12_named_179 (G12_enters_met C.2.2.2.2.2.2.2.1 (Nat.le_refl _)  h) (fun r0 μ32 hq => ?_)
    obtain ⟨rfl, h⟩ := hq
    refine x_st [] rfl ?_
    refine x_iload_n C rfl 2 rfl dX12_named_182 ?_
    refine x_callS (dC := GJ6_bitCount_0f7a4_dep) (as := [.int x.1]) (st := []) C rX kX (Nat.le_trans (Nat.le_of_ble_eq_true rfl) hd) (Nat.le_of_ble_eq_true rfl) tw_4_148 tw_7_201 tc_4_149 tw_1_24 hyJ6 hnJ6_bitCount_0f7a4 rfl (Nat.le_of_ble_eq_true rfl) dX12_named_183 (GJ6_bitCount_0f7a4_met C.2.2.2.2.2.2.2.1 (Nat.le_refl _)  h) (fun r0 μ33 hq => ?_)
    obtain ⟨r34, rfl, h⟩ := hq
    refine x_st [.int r34] rfl ?_
    exact x_iret C hr dX12_named_186 ⟨_, rfl, h⟩
  · have h := h.2 c28
    refine x_aload_n C rfl 0 rfl dX12_named_56 ?_
    refine x_getR (r := 397) C (j := 55) ob358.1 ob358.2 (Nat.le_of_ble_eq_true rfl) (Nat.le_of_ble_eq_true rfl) (fun _ _ _ => rfl) r_358_55 tw_9_21 dX12_named_57 ?_
    refine x_iload C 5 rfl dX12_named_60 ?_
    obtain ⟨c35, h⟩ := h
    refine x_lald C ob397.1 ob397.2 c35 rfl dX12_named_62 ?_
    refine x_lconst (v := 0) C (by decide) dX12_named_63 ?_
    refine x_lcmp C dX12_named_64 ?_
    refine x_if_ge (tgt := 71) C dX12_named_65 (by decide) (fun c36 => ?_) (fun c36 => ?_)
    · have h := h.1 c36
      refine x_aload_n C rfl 0 rfl dX12_named_71 ?_
      refine x_getR (r := 397) C (j := 55) ob358.1 ob358.2 (Nat.le_of_ble_eq_true rfl) (Nat.le_of_ble_eq_true rfl) (fun _ _ _ => rfl) r_358_55 tw_9_21 dX12_named_72 ?_
      refine x_iload C 5 rfl dX12_named_75 ?_
      obtain ⟨c37, h⟩ := h
      refine x_lald C ob397.1 ob397.2 c37 rfl dX12_named_77 ?_
      refine x_iload_n C rfl 1 rfl dX12_named_78 ?_
      refine x_i2l C dX12_named_79 ?_
      refine x_lcmp C dX12_named_80 ?_
      refine x_if_lt (tgt := 88) C dX12_named_81 (by decide) (fun c38 => ?_) (fun c38 => ?_)
      · have h := h.1 c38
        refine x_iconst (v := 0) C (by decide) dX12_named_88 ?_
        exact G12_named_J89_ok C hd hr hK47 h
      · have h := h.2 c38
        refine x_iconst (v := 1) C (by decide) dX12_named_84 ?_
        refine x_goto (tgt := 89) C dX12_named_85 (by decide) ?_
        exact G12_named_J89_ok C hd hr hK47 h
    · have h := h.2 c36
      refine x_goto (tgt := 153) C dX12_named_68 (by decide) ?_
      refine x_iinc (v := (x.2.2.2.1 + 1)) C [(8, .int (x.2.2.2.1 + 1)), (0, .ref 358), (2, .int p2), (3, .int x.1), (4, .long x.2.1), (6, .long x.2.2.1)] 5 rfl (congrArg (fun z => x.2.2.2.1 + z) (by decide : Int32.ofInt (1) = 1)) (Nat.le_of_ble_eq_true rfl) rfl dX12_named_153 ?_
      refine x_goto (tgt := 47) C dX12_named_156 (by decide) ?_
      refine x_sub [(0, .ref 358), (2, .int p2), (3, .int x.1), (4, .long x.2.1), (6, .long x.2.2.1), (8, .int (x.2.2.2.1 + 1))] [1, 2, 3, 4, 5, 0] rfl ?_
      exact hK47 _ _ _ _ _ h
theorem G12_named_L47_ok {p : Program} {e : Env} {s : State} {m : MethodId} {args : Array Value} {below : List Frame} {meth : Method} {c : Code} {l : Launch} {φ : Nat → Nat} {tc : Nat → ClassId} {D : va_G} {s0 : State} {dR : Nat} (C : CX p s m args meth c φ tc D (AX φ) s0 cX12_named RX12 10) (hd : G12_named_dep ≤ dR) (hr : meth.sig.returnType = (some .int))  {p2 : Int32} {Q : Int32 → MM → Prop}  {x : Int32 × Int64 × Int64 × Int32 × MM}    (h : Lp (G12_named_L47 p2 Q) x) : WX p l e (rmX dR) s m args below meth c φ tc D (AX φ) 10 0 0 (MQ below (QX φ tc D (QI Q)) args s 0 0 (AX φ)) 47 [(0, .ref 358), (2, .int p2), (3, .int x.1), (4, .long x.2.1), (6, .long x.2.2.1), (8, .int x.2.2.2.1)] [] x.2.2.2.2 := by
  obtain ⟨n, h⟩ := h
  induction n generalizing x with
  | zero => exact h.elim
  | succ n ih => exact G12_named_L47_b C hd hr   (fun z3 z4 z6 z8 zμ hz => by have q := ih hz; exact q) h
set_option maxHeartbeats 4000000 in
set_option maxRecDepth 100000 in
theorem G12_named_met {l : Launch} {φ : Nat → Nat} {tc : Nat → ClassId} {D : va_G} {s0 : State} (hG : GX φ tc D s0) {dR : Nat} (hd : G12_named_dep ≤ dR) {v1 : Int32} {v2 : Int32} {μ : MM} {Q : Int32 → MM → Prop}  (h : G12_named v1 v2 μ Q) : MX l φ tc D s0 dR yX12_named cX12_named 10 (some .int) [.ref 358, .int v1, .int v2] μ (QI Q) := by
  refine MX.of (own := RX12) hG plX12 rfl (Nat.le_of_ble_eq_true rfl) (fun p e s m args below meth c C hr => ?_)
  refine x_sub [(0, .ref 358), (1, .int v1), (2, .int v2)] [0, 1, 2] rfl ?_
  unfold G12_named at h
  refine x_aload_n C rfl 0 rfl dX12_named_0 ?_
  refine x_iconst (v := 0) C (by decide) dX12_named_1 ?_
  refine x_putI C (j := 0) ob358.1 ob358.2 (Nat.le_of_ble_eq_true rfl) (Nat.le_of_ble_eq_true rfl) (Or.inl rfl) rfl rfl rfl tw_8_206 dX12_named_2 ?_
  refine x_mu (fun μ20 e_μ20 => ?_)
  have h := h μ20 e_μ20
  refine x_iload_n C rfl 1 rfl dX12_named_5 ?_
  refine x_i2l C dX12_named_6 ?_
  refine x_lconst (v := 1) C (by decide) dX12_named_7 ?_
  refine x_ldc2 (v := 15) C tw_8_56 dX12_named_8 ?_
  refine x_callS (dC := G12_in_dep) (as := [.long (v1.toInt64), .long 1, .long 15]) (st := []) C rX kX (Nat.le_trans (Nat.le_of_ble_eq_true rfl) hd) (Nat.le_of_ble_eq_true rfl) tw_6_183 tw_6_182 tc_6_184 tw_1_13 hyX12 hnX12_in rfl (Nat.le_of_ble_eq_true rfl) dX12_named_11 (G12_in_met C.2.2.2.2.2.2.2.1 (Nat.le_refl _)  h) (fun r0 μ21 hq => ?_)
  obtain ⟨r22, rfl, h⟩ := hq
  refine x_st [.int r22] rfl ?_
  refine x_if_eq (tgt := 29) C dX12_named_14 (by decide) (fun c23 => ?_) (fun c23 => ?_)
  · have h := h.1 c23
    refine x_iconst (v := (-1)) C (by decide) dX12_named_29 ?_
    exact x_iret C hr dX12_named_30 ⟨_, rfl, h⟩
  · have h := h.2 c23
    refine x_iload_n C rfl 2 rfl dX12_named_17 ?_
    refine x_i2l C dX12_named_18 ?_
    refine x_lconst (v := 0) C (by decide) dX12_named_19 ?_
    refine x_ldc2 (v := 1000000) C tw_8_57 dX12_named_20 ?_
    refine x_callS (dC := G12_in_dep) (as := [.long (v2.toInt64), .long 0, .long 1000000]) (st := []) C rX kX (Nat.le_trans (Nat.le_of_ble_eq_true rfl) hd) (Nat.le_of_ble_eq_true rfl) tw_6_183 tw_6_182 tc_6_184 tw_1_13 hyX12 hnX12_in rfl (Nat.le_of_ble_eq_true rfl) dX12_named_23 (G12_in_met C.2.2.2.2.2.2.2.1 (Nat.le_refl _)  h) (fun r0 μ24 hq => ?_)
    obtain ⟨r25, rfl, h⟩ := hq
    refine x_st [.int r25] rfl ?_
    refine x_if_ne (tgt := 31) C dX12_named_26 (by decide) (fun c26 => ?_) (fun c26 => ?_)
    · have h := h.1 c26
      refine x_aload_n C rfl 0 rfl dX12_named_31 ?_
      refine x_iload_n C rfl 1 rfl dX12_named_32 ?_
      refine x_callV (dC := G12_likelies_dep) (as := [.int v1]) (st := []) C rX kX (Nat.le_trans (Nat.le_of_ble_eq_true rfl) hd) (Nat.le_of_ble_eq_true rfl) ob358.1 ob358.2 (Nat.le_of_ble_eq_true rfl) rfl ts_10_12 tw_8_60 tw_8_58 tc_8_61 tw_1_13 hyX12 hnX12_likelies rfl (Nat.le_of_ble_eq_true rfl) dX12_named_33 (G12_likelies_met C.2.2.2.2.2.2.2.1 (Nat.le_refl _)  h) (fun r0 μ27 hq => ?_)
      obtain ⟨rfl, h⟩ := hq
      refine x_st [] rfl ?_
      refine x_iconst (v := 0) C (by decide) dX12_named_36 ?_
      refine x_istore_n C [(3, .int 0), (0, .ref 358), (1, .int v1), (2, .int v2)] rfl (Nat.le_of_ble_eq_true rfl) rfl dX12_named_37 ?_
      refine x_lconst (v := 0) C (by decide) dX12_named_38 ?_
      refine x_lstore C [(4, .long 0), (3, .int 0), (0, .ref 358), (1, .int v1), (2, .int v2)] (Nat.le_of_ble_eq_true rfl) rfl dX12_named_39 ?_
      refine x_lconst (v := 0) C (by decide) dX12_named_41 ?_
      refine x_lstore C [(6, .long 0), (4, .long 0), (3, .int 0), (0, .ref 358), (1, .int v1), (2, .int v2)] (Nat.le_of_ble_eq_true rfl) rfl dX12_named_42 ?_
      refine x_iconst (v := 0) C (by decide) dX12_named_44 ?_
      refine x_istore C [(8, .int 0), (6, .long 0), (4, .long 0), (3, .int 0), (0, .ref 358), (1, .int v1), (2, .int v2)] (Nat.le_of_ble_eq_true rfl) rfl dX12_named_45 ?_
      refine x_sub [(0, .ref 358), (2, .int v2), (3, .int 0), (4, .long 0), (6, .long 0), (8, .int 0)] [4, 6, 3, 2, 1, 0] rfl ?_
      exact G12_named_L47_ok C hd hr  h
    · have h := h.2 c26
      refine x_iconst (v := (-1)) C (by decide) dX12_named_29 ?_
      exact x_iret C hr dX12_named_30 ⟨_, rfl, h⟩
set_option maxHeartbeats 4000000 in
set_option maxRecDepth 100000 in
theorem G12_sure_L51_b {p : Program} {e : Env} {s : State} {m : MethodId} {args : Array Value} {below : List Frame} {meth : Method} {c : Code} {l : Launch} {φ : Nat → Nat} {tc : Nat → ClassId} {D : va_G} {s0 : State} {dR : Nat} (C : CX p s m args meth c φ tc D (AX φ) s0 cX12_sure RX12 7) (hd : G12_sure_dep ≤ dR) (hr : meth.sig.returnType = (some .int))  {p2 : Int32} {p3 : Int32} {Q : Int32 → MM → Prop} {K38 : Int32 × MM → Prop} {K51 : Int64 × Int32 × MM → Prop} {x : Int64 × Int32 × MM}   (hK38 : ∀ (z3 : Int32) (zμ : MM), K38 (z3, zμ) → WX p l e (rmX dR) s m args below meth c φ tc D (AX φ) 7 0 0 (MQ below (QX φ tc D (QI Q)) args s 0 0 (AX φ)) 38 [(0, .ref 358), (2, .int p2), (3, .int z3)] [] zμ) (hK51 : ∀ (z4 : Int64) (z6 : Int32) (zμ : MM), K51 (z4, z6, zμ) → WX p l e (rmX dR) s m args below meth c φ tc D (AX φ) 7 0 0 (MQ below (QX φ tc D (QI Q)) args s 0 0 (AX φ)) 51 [(0, .ref 358), (2, .int p2), (3, .int p3), (4, .long z4), (6, .int z6)] [] zμ) (h : G12_sure_L51 p2 p3 K38 Q K51 x) : WX p l e (rmX dR) s m args below meth c φ tc D (AX φ) 7 0 0 (MQ below (QX φ tc D (QI Q)) args s 0 0 (AX φ)) 51 [(0, .ref 358), (2, .int p2), (3, .int p3), (4, .long x.1), (6, .int x.2.1)] [] x.2.2 := by
  unfold G12_sure_L51 at h
  refine x_iload C 4 rfl dX12_sure_51 ?_
  refine x_aload_n C rfl 0 rfl dX12_sure_53 ?_
  refine x_getI C (j := 8) ob358.1 ob358.2 (Nat.le_of_ble_eq_true rfl) (Nat.le_of_ble_eq_true rfl) (Or.inl rfl) tw_8_214 dX12_sure_54 ?_
  refine x_icmp_ge (tgt := 99) C dX12_sure_57 (by decide) (fun c20 => ?_) (fun c20 => ?_)
  · have h := h.1 c20
    refine x_lload C 3 rfl dX12_sure_99 ?_
    refine x_iload_n C rfl 1 rfl dX12_sure_101 ?_
    refine x_i2l C dX12_sure_102 ?_
    refine x_lcmp C dX12_sure_103 ?_
    refine x_if_gt (tgt := 109) C dX12_sure_104 (by decide) (fun c21 => ?_) (fun c21 => ?_)
    · have h := h.1 c21
      refine x_iincW (v := (p3 + 1000)) C [(3, .int (p3 + 1000)), (0, .ref 358), (2, .int p2), (4, .long x.1), (6, .int x.2.1)] 2 rfl (congrArg (fun z => p3 + z) (by decide : Int32.ofInt (1000) = 1000)) (Nat.le_of_ble_eq_true rfl) rfl dX12_sure_109 ?_
      refine x_goto (tgt := 38) C dX12_sure_115 (by decide) ?_
      refine x_sub [(0, .ref 358), (2, .int p2), (3, .int (p3 + 1000))] [1, 2, 0] rfl ?_
      exact hK38 _ _ h
    · have h := h.2 c21
      refine x_iload_n C rfl 2 rfl dX12_sure_107 ?_
      exact x_iret C hr dX12_sure_108 ⟨_, rfl, h⟩
  · have h := h.2 c20
    refine x_lload C 3 rfl dX12_sure_60 ?_
    refine x_aload_n C rfl 0 rfl dX12_sure_62 ?_
    refine x_getR (r := 397) C (j := 55) ob358.1 ob358.2 (Nat.le_of_ble_eq_true rfl) (Nat.le_of_ble_eq_true rfl) (fun _ _ _ => rfl) r_358_55 tw_9_21 dX12_sure_63 ?_
    refine x_iload C 4 rfl dX12_sure_66 ?_
    obtain ⟨c22, h⟩ := h
    refine x_lald C ob397.1 ob397.2 c22 rfl dX12_sure_68 ?_
    refine x_iload_n C rfl 2 rfl dX12_sure_69 ?_
    refine x_i2l C dX12_sure_70 ?_
    refine x_lcmp C dX12_sure_71 ?_
    refine x_if_lt (tgt := 89) C dX12_sure_72 (by decide) (fun c23 => ?_) (fun c23 => ?_)
    · have h := h.1 c23
      refine x_lconst (v := 0) C (by decide) dX12_sure_89 ?_
      refine x_ladd C dX12_sure_90 ?_
      refine x_topl (fun y24 e_y24 => ?_)
      have h := h y24 e_y24
      refine x_lstore C [(4, .long y24), (0, .ref 358), (2, .int p2), (3, .int p3), (6, .int x.2.1)] (Nat.le_of_ble_eq_true rfl) rfl dX12_sure_91 ?_
      refine x_iinc (v := (x.2.1 + 1)) C [(6, .int (x.2.1 + 1)), (4, .long y24), (0, .ref 358), (2, .int p2), (3, .int p3)] 4 rfl (congrArg (fun z => x.2.1 + z) (by decide : Int32.ofInt (1) = 1)) (Nat.le_of_ble_eq_true rfl) rfl dX12_sure_93 ?_
      refine x_goto (tgt := 51) C dX12_sure_96 (by decide) ?_
      refine x_sub [(0, .ref 358), (2, .int p2), (3, .int p3), (4, .long y24), (6, .int (x.2.1 + 1))] [2, 3, 4, 1, 0] rfl ?_
      exact hK51 _ _ _ h
    · have h := h.2 c23
      refine x_ldc2 (v := 1000000) C tw_8_57 dX12_sure_75 ?_
      refine x_aload_n C rfl 0 rfl dX12_sure_78 ?_
      refine x_getR (r := 397) C (j := 55) ob358.1 ob358.2 (Nat.le_of_ble_eq_true rfl) (Nat.le_of_ble_eq_true rfl) (fun _ _ _ => rfl) r_358_55 tw_9_21 dX12_sure_79 ?_
      refine x_iload C 4 rfl dX12_sure_82 ?_
      obtain ⟨c25, h⟩ := h
      refine x_lald C ob397.1 ob397.2 c25 rfl dX12_sure_84 ?_
      refine x_lsub C dX12_sure_85 ?_
      refine x_goto (tgt := 90) C dX12_sure_86 (by decide) ?_
      refine x_ladd C dX12_sure_90 ?_
      refine x_topl (fun y26 e_y26 => ?_)
      have h := h y26 e_y26
      refine x_lstore C [(4, .long y26), (0, .ref 358), (2, .int p2), (3, .int p3), (6, .int x.2.1)] (Nat.le_of_ble_eq_true rfl) rfl dX12_sure_91 ?_
      refine x_iinc (v := (x.2.1 + 1)) C [(6, .int (x.2.1 + 1)), (4, .long y26), (0, .ref 358), (2, .int p2), (3, .int p3)] 4 rfl (congrArg (fun z => x.2.1 + z) (by decide : Int32.ofInt (1) = 1)) (Nat.le_of_ble_eq_true rfl) rfl dX12_sure_93 ?_
      refine x_goto (tgt := 51) C dX12_sure_96 (by decide) ?_
      refine x_sub [(0, .ref 358), (2, .int p2), (3, .int p3), (4, .long y26), (6, .int (x.2.1 + 1))] [2, 3, 4, 1, 0] rfl ?_
      exact hK51 _ _ _ h
theorem G12_sure_L51_ok {p : Program} {e : Env} {s : State} {m : MethodId} {args : Array Value} {below : List Frame} {meth : Method} {c : Code} {l : Launch} {φ : Nat → Nat} {tc : Nat → ClassId} {D : va_G} {s0 : State} {dR : Nat} (C : CX p s m args meth c φ tc D (AX φ) s0 cX12_sure RX12 7) (hd : G12_sure_dep ≤ dR) (hr : meth.sig.returnType = (some .int))  {p2 : Int32} {p3 : Int32} {Q : Int32 → MM → Prop} {K38 : Int32 × MM → Prop} {x : Int64 × Int32 × MM}   (hK38 : ∀ (z3 : Int32) (zμ : MM), K38 (z3, zμ) → WX p l e (rmX dR) s m args below meth c φ tc D (AX φ) 7 0 0 (MQ below (QX φ tc D (QI Q)) args s 0 0 (AX φ)) 38 [(0, .ref 358), (2, .int p2), (3, .int z3)] [] zμ) (h : Lp (G12_sure_L51 p2 p3 K38 Q) x) : WX p l e (rmX dR) s m args below meth c φ tc D (AX φ) 7 0 0 (MQ below (QX φ tc D (QI Q)) args s 0 0 (AX φ)) 51 [(0, .ref 358), (2, .int p2), (3, .int p3), (4, .long x.1), (6, .int x.2.1)] [] x.2.2 := by
  obtain ⟨n, h⟩ := h
  induction n generalizing x with
  | zero => exact h.elim
  | succ n ih => exact G12_sure_L51_b C hd hr  hK38 (fun z4 z6 zμ hz => by have q := ih hz; exact q) h
set_option maxHeartbeats 4000000 in
set_option maxRecDepth 100000 in
theorem G12_sure_L38_b {p : Program} {e : Env} {s : State} {m : MethodId} {args : Array Value} {below : List Frame} {meth : Method} {c : Code} {l : Launch} {φ : Nat → Nat} {tc : Nat → ClassId} {D : va_G} {s0 : State} {dR : Nat} (C : CX p s m args meth c φ tc D (AX φ) s0 cX12_sure RX12 7) (hd : G12_sure_dep ≤ dR) (hr : meth.sig.returnType = (some .int))  {p2 : Int32} {Q : Int32 → MM → Prop} {K38 : Int32 × MM → Prop} {x : Int32 × MM}   (hK38 : ∀ (z3 : Int32) (zμ : MM), K38 (z3, zμ) → WX p l e (rmX dR) s m args below meth c φ tc D (AX φ) 7 0 0 (MQ below (QX φ tc D (QI Q)) args s 0 0 (AX φ)) 38 [(0, .ref 358), (2, .int p2), (3, .int z3)] [] zμ) (h : G12_sure_L38 p2 Q K38 x) : WX p l e (rmX dR) s m args below meth c φ tc D (AX φ) 7 0 0 (MQ below (QX φ tc D (QI Q)) args s 0 0 (AX φ)) 38 [(0, .ref 358), (2, .int p2), (3, .int x.1)] [] x.2 := by
  unfold G12_sure_L38 at h
  refine x_iload_n C rfl 2 rfl dX12_sure_38 ?_
  refine x_ldcw (v := 1000000) C tw_8_34 dX12_sure_39 ?_
  refine x_icmp_gt (tgt := 118) C dX12_sure_42 (by decide) (fun c19 => ?_) (fun c19 => ?_)
  · have h := h.1 c19
    refine x_bipush (v := (-2)) C (by decide) dX12_sure_118 ?_
    exact x_iret C hr dX12_sure_120 ⟨_, rfl, h⟩
  · have h := h.2 c19
    refine x_lconst (v := 0) C (by decide) dX12_sure_45 ?_
    refine x_lstore C [(4, .long 0), (0, .ref 358), (2, .int p2), (3, .int x.1)] (Nat.le_of_ble_eq_true rfl) rfl dX12_sure_46 ?_
    refine x_iconst (v := 0) C (by decide) dX12_sure_48 ?_
    refine x_istore C [(6, .int 0), (4, .long 0), (0, .ref 358), (2, .int p2), (3, .int x.1)] (Nat.le_of_ble_eq_true rfl) rfl dX12_sure_49 ?_
    refine x_sub [(0, .ref 358), (2, .int p2), (3, .int x.1), (4, .long 0), (6, .int 0)] [2, 3, 4, 1, 0] rfl ?_
    exact G12_sure_L51_ok C hd hr hK38 h
theorem G12_sure_L38_ok {p : Program} {e : Env} {s : State} {m : MethodId} {args : Array Value} {below : List Frame} {meth : Method} {c : Code} {l : Launch} {φ : Nat → Nat} {tc : Nat → ClassId} {D : va_G} {s0 : State} {dR : Nat} (C : CX p s m args meth c φ tc D (AX φ) s0 cX12_sure RX12 7) (hd : G12_sure_dep ≤ dR) (hr : meth.sig.returnType = (some .int))  {p2 : Int32} {Q : Int32 → MM → Prop}  {x : Int32 × MM}    (h : Lp (G12_sure_L38 p2 Q) x) : WX p l e (rmX dR) s m args below meth c φ tc D (AX φ) 7 0 0 (MQ below (QX φ tc D (QI Q)) args s 0 0 (AX φ)) 38 [(0, .ref 358), (2, .int p2), (3, .int x.1)] [] x.2 := by
  obtain ⟨n, h⟩ := h
  induction n generalizing x with
  | zero => exact h.elim
  | succ n ih => exact G12_sure_L38_b C hd hr   (fun z3 zμ hz => by have q := ih hz; exact q) h
set_option maxHeartbeats 4000000 in
set_option maxRecDepth 100000 in
theorem G12_sure_met {l : Launch} {φ : Nat → Nat} {tc : Nat → ClassId} {D : va_G} {s0 : State} (hG : GX φ tc D s0) {dR : Nat} (hd : G12_sure_dep ≤ dR) {v1 : Int32} {v2 : Int32} {μ : MM} {Q : Int32 → MM → Prop}  (h : G12_sure v1 v2 μ Q) : MX l φ tc D s0 dR yX12_sure cX12_sure 7 (some .int) [.ref 358, .int v1, .int v2] μ (QI Q) := by
  refine MX.of (own := RX12) hG plX12 rfl (Nat.le_of_ble_eq_true rfl) (fun p e s m args below meth c C hr => ?_)
  refine x_sub [(0, .ref 358), (1, .int v1), (2, .int v2)] [0, 1, 2] rfl ?_
  unfold G12_sure at h
  refine x_aload_n C rfl 0 rfl dX12_sure_0 ?_
  refine x_iconst (v := 0) C (by decide) dX12_sure_1 ?_
  refine x_putI C (j := 0) ob358.1 ob358.2 (Nat.le_of_ble_eq_true rfl) (Nat.le_of_ble_eq_true rfl) (Or.inl rfl) rfl rfl rfl tw_8_206 dX12_sure_2 ?_
  refine x_mu (fun μ11 e_μ11 => ?_)
  have h := h μ11 e_μ11
  refine x_iload_n C rfl 1 rfl dX12_sure_5 ?_
  refine x_i2l C dX12_sure_6 ?_
  refine x_lconst (v := 1) C (by decide) dX12_sure_7 ?_
  refine x_ldc2 (v := 15) C tw_8_56 dX12_sure_8 ?_
  refine x_callS (dC := G12_in_dep) (as := [.long (v1.toInt64), .long 1, .long 15]) (st := []) C rX kX (Nat.le_trans (Nat.le_of_ble_eq_true rfl) hd) (Nat.le_of_ble_eq_true rfl) tw_6_183 tw_6_182 tc_6_184 tw_1_13 hyX12 hnX12_in rfl (Nat.le_of_ble_eq_true rfl) dX12_sure_11 (G12_in_met C.2.2.2.2.2.2.2.1 (Nat.le_refl _)  h) (fun r0 μ12 hq => ?_)
  obtain ⟨r13, rfl, h⟩ := hq
  refine x_st [.int r13] rfl ?_
  refine x_if_eq (tgt := 29) C dX12_sure_14 (by decide) (fun c14 => ?_) (fun c14 => ?_)
  · have h := h.1 c14
    refine x_iconst (v := (-1)) C (by decide) dX12_sure_29 ?_
    exact x_iret C hr dX12_sure_30 ⟨_, rfl, h⟩
  · have h := h.2 c14
    refine x_iload_n C rfl 2 rfl dX12_sure_17 ?_
    refine x_i2l C dX12_sure_18 ?_
    refine x_lconst (v := 0) C (by decide) dX12_sure_19 ?_
    refine x_ldc2 (v := 24000000) C tw_8_67 dX12_sure_20 ?_
    refine x_callS (dC := G12_in_dep) (as := [.long (v2.toInt64), .long 0, .long 24000000]) (st := []) C rX kX (Nat.le_trans (Nat.le_of_ble_eq_true rfl) hd) (Nat.le_of_ble_eq_true rfl) tw_6_183 tw_6_182 tc_6_184 tw_1_13 hyX12 hnX12_in rfl (Nat.le_of_ble_eq_true rfl) dX12_sure_23 (G12_in_met C.2.2.2.2.2.2.2.1 (Nat.le_refl _)  h) (fun r0 μ15 hq => ?_)
    obtain ⟨r16, rfl, h⟩ := hq
    refine x_st [.int r16] rfl ?_
    refine x_if_ne (tgt := 31) C dX12_sure_26 (by decide) (fun c17 => ?_) (fun c17 => ?_)
    · have h := h.1 c17
      refine x_aload_n C rfl 0 rfl dX12_sure_31 ?_
      refine x_iload_n C rfl 1 rfl dX12_sure_32 ?_
      refine x_callV (dC := G12_likelies_dep) (as := [.int v1]) (st := []) C rX kX (Nat.le_trans (Nat.le_of_ble_eq_true rfl) hd) (Nat.le_of_ble_eq_true rfl) ob358.1 ob358.2 (Nat.le_of_ble_eq_true rfl) rfl ts_10_12 tw_8_60 tw_8_58 tc_8_61 tw_1_13 hyX12 hnX12_likelies rfl (Nat.le_of_ble_eq_true rfl) dX12_sure_33 (G12_likelies_met C.2.2.2.2.2.2.2.1 (Nat.le_refl _)  h) (fun r0 μ18 hq => ?_)
      obtain ⟨rfl, h⟩ := hq
      refine x_st [] rfl ?_
      refine x_iconst (v := 0) C (by decide) dX12_sure_36 ?_
      refine x_istore_n C [(3, .int 0), (0, .ref 358), (1, .int v1), (2, .int v2)] rfl (Nat.le_of_ble_eq_true rfl) rfl dX12_sure_37 ?_
      refine x_sub [(0, .ref 358), (2, .int v2), (3, .int 0)] [1, 3, 0] rfl ?_
      exact G12_sure_L38_ok C hd hr  h
    · have h := h.2 c17
      refine x_iconst (v := (-1)) C (by decide) dX12_sure_29 ?_
      exact x_iret C hr dX12_sure_30 ⟨_, rfl, h⟩
set_option maxHeartbeats 4000000 in
set_option maxRecDepth 100000 in
theorem G12_most_L105_b {p : Program} {e : Env} {s : State} {m : MethodId} {args : Array Value} {below : List Frame} {meth : Method} {c : Code} {l : Launch} {φ : Nat → Nat} {tc : Nat → ClassId} {D : va_G} {s0 : State} {dR : Nat} (C : CX p s m args meth c φ tc D (AX φ) s0 cX12_most RX12 8) (hd : G12_most_dep ≤ dR) (hr : meth.sig.returnType = (some .int))  {p1 : Int32} {p2 : Int32} {p4 : Int32} {p5 : Int32} {Q : Int32 → MM → Prop} {K91 : Int32 × Int32 × MM → Prop} {K105 : Int32 × Int32 × MM → Prop} {x : Int32 × Int32 × MM}   (hK91 : ∀ (z4 : Int32) (z5 : Int32) (zμ : MM), K91 (z4, z5, zμ) → WX p l e (rmX dR) s m args below meth c φ tc D (AX φ) 8 0 0 (MQ below (QX φ tc D (QI Q)) args s 0 0 (AX φ)) 91 [(0, .ref 358), (1, .int p1), (2, .int p2), (3, .ref 398), (4, .int z4), (5, .int z5)] [] zμ) (hK105 : ∀ (z6 : Int32) (z7 : Int32) (zμ : MM), K105 (z6, z7, zμ) → WX p l e (rmX dR) s m args below meth c φ tc D (AX φ) 8 0 0 (MQ below (QX φ tc D (QI Q)) args s 0 0 (AX φ)) 105 [(0, .ref 358), (1, .int p1), (2, .int p2), (3, .ref 398), (4, .int p4), (5, .int p5), (6, .int z6), (7, .int z7)] [] zμ) (h : G12_most_L105 p1 p2 p4 p5 K91 Q K105 x) : WX p l e (rmX dR) s m args below meth c φ tc D (AX φ) 8 0 0 (MQ below (QX φ tc D (QI Q)) args s 0 0 (AX φ)) 105 [(0, .ref 358), (1, .int p1), (2, .int p2), (3, .ref 398), (4, .int p4), (5, .int p5), (6, .int x.1), (7, .int x.2.1)] [] x.2.2 := by
  unfold G12_most_L105 at h
  refine x_iload C 7 rfl dX12_most_105 ?_
  refine x_aload_n C rfl 0 rfl dX12_most_107 ?_
  refine x_getI C (j := 8) ob358.1 ob358.2 (Nat.le_of_ble_eq_true rfl) (Nat.le_of_ble_eq_true rfl) (Or.inl rfl) tw_8_214 dX12_most_108 ?_
  refine x_icmp_ge (tgt := 140) C dX12_most_111 (by decide) (fun c27 => ?_) (fun c27 => ?_)
  · have h := h.1 c27
    refine x_iload C 5 rfl dX12_most_140 ?_
    refine x_aload_n C rfl 3 rfl dX12_most_142 ?_
    refine x_iload C 6 rfl dX12_most_143 ?_
    obtain ⟨c28, h⟩ := h
    refine x_iald C ob398.1 ob398.2 c28 rfl dX12_most_145 ?_
    refine x_iadd C dX12_most_146 ?_
    refine x_topi (fun y29 e_y29 => ?_)
    have h := h y29 e_y29
    refine x_istore C [(5, .int y29), (0, .ref 358), (1, .int p1), (2, .int p2), (3, .ref 398), (4, .int p4), (6, .int x.1), (7, .int x.2.1)] (Nat.le_of_ble_eq_true rfl) rfl dX12_most_147 ?_
    refine x_aload_n C rfl 4 rfl dX12_most_149 ?_
    refine x_iload C 6 rfl dX12_most_150 ?_
    refine x_iconst (v := 0) C (by decide) dX12_most_152 ?_
    obtain ⟨c30, h⟩ := h
    refine x_iast C ob398.1 ob398.2 c30 rfl dX12_most_153 ?_
    refine x_mu (fun μ31 e_μ31 => ?_)
    have h := h μ31 e_μ31
    refine x_iinc (v := (p4 + 1)) C [(4, .int (p4 + 1)), (5, .int y29), (0, .ref 358), (1, .int p1), (2, .int p2), (3, .ref 398), (6, .int x.1), (7, .int x.2.1)] 5 rfl (congrArg (fun z => p4 + z) (by decide : Int32.ofInt (1) = 1)) (Nat.le_of_ble_eq_true rfl) rfl dX12_most_154 ?_
    refine x_goto (tgt := 91) C dX12_most_157 (by decide) ?_
    refine x_sub [(0, .ref 358), (1, .int p1), (2, .int p2), (3, .ref 398), (4, .int (p4 + 1)), (5, .int y29)] [2, 3, 4, 5, 0, 1] rfl ?_
    exact hK91 _ _ _ h
  · have h := h.2 c27
    refine x_aload_n C rfl 3 rfl dX12_most_114 ?_
    refine x_iload C 7 rfl dX12_most_115 ?_
    obtain ⟨c32, h⟩ := h
    refine x_iald C ob398.1 ob398.2 c32 rfl dX12_most_117 ?_
    refine x_aload_n C rfl 3 rfl dX12_most_118 ?_
    refine x_iload C 6 rfl dX12_most_119 ?_
    obtain ⟨c33, h⟩ := h
    refine x_iald C ob398.1 ob398.2 c33 rfl dX12_most_121 ?_
    refine x_icmp_le (tgt := 130) C dX12_most_122 (by decide) (fun c34 => ?_) (fun c34 => ?_)
    · have h := h.1 c34
      refine x_iload C 6 rfl dX12_most_130 ?_
      refine x_istore C [(6, .int x.1), (0, .ref 358), (1, .int p1), (2, .int p2), (3, .ref 398), (4, .int p4), (5, .int p5), (7, .int x.2.1)] (Nat.le_of_ble_eq_true rfl) rfl dX12_most_132 ?_
      refine x_iinc (v := (x.2.1 + 1)) C [(7, .int (x.2.1 + 1)), (6, .int x.1), (0, .ref 358), (1, .int p1), (2, .int p2), (3, .ref 398), (4, .int p4), (5, .int p5)] 7 rfl (congrArg (fun z => x.2.1 + z) (by decide : Int32.ofInt (1) = 1)) (Nat.le_of_ble_eq_true rfl) rfl dX12_most_134 ?_
      refine x_goto (tgt := 105) C dX12_most_137 (by decide) ?_
      refine x_sub [(0, .ref 358), (1, .int p1), (2, .int p2), (3, .ref 398), (4, .int p4), (5, .int p5), (6, .int x.1), (7, .int (x.2.1 + 1))] [2, 3, 4, 5, 6, 7, 1, 0] rfl ?_
      exact hK105 _ _ _ h
    · have h := h.2 c34
      refine x_iload C 7 rfl dX12_most_125 ?_
      refine x_goto (tgt := 132) C dX12_most_127 (by decide) ?_
      refine x_istore C [(6, .int x.2.1), (0, .ref 358), (1, .int p1), (2, .int p2), (3, .ref 398), (4, .int p4), (5, .int p5), (7, .int x.2.1)] (Nat.le_of_ble_eq_true rfl) rfl dX12_most_132 ?_
      refine x_iinc (v := (x.2.1 + 1)) C [(7, .int (x.2.1 + 1)), (6, .int x.2.1), (0, .ref 358), (1, .int p1), (2, .int p2), (3, .ref 398), (4, .int p4), (5, .int p5)] 7 rfl (congrArg (fun z => x.2.1 + z) (by decide : Int32.ofInt (1) = 1)) (Nat.le_of_ble_eq_true rfl) rfl dX12_most_134 ?_
      refine x_goto (tgt := 105) C dX12_most_137 (by decide) ?_
      refine x_sub [(0, .ref 358), (1, .int p1), (2, .int p2), (3, .ref 398), (4, .int p4), (5, .int p5), (6, .int x.2.1), (7, .int (x.2.1 + 1))] [2, 3, 4, 5, 6, 7, 1, 0] rfl ?_
      exact hK105 _ _ _ h
theorem G12_most_L105_ok {p : Program} {e : Env} {s : State} {m : MethodId} {args : Array Value} {below : List Frame} {meth : Method} {c : Code} {l : Launch} {φ : Nat → Nat} {tc : Nat → ClassId} {D : va_G} {s0 : State} {dR : Nat} (C : CX p s m args meth c φ tc D (AX φ) s0 cX12_most RX12 8) (hd : G12_most_dep ≤ dR) (hr : meth.sig.returnType = (some .int))  {p1 : Int32} {p2 : Int32} {p4 : Int32} {p5 : Int32} {Q : Int32 → MM → Prop} {K91 : Int32 × Int32 × MM → Prop} {x : Int32 × Int32 × MM}   (hK91 : ∀ (z4 : Int32) (z5 : Int32) (zμ : MM), K91 (z4, z5, zμ) → WX p l e (rmX dR) s m args below meth c φ tc D (AX φ) 8 0 0 (MQ below (QX φ tc D (QI Q)) args s 0 0 (AX φ)) 91 [(0, .ref 358), (1, .int p1), (2, .int p2), (3, .ref 398), (4, .int z4), (5, .int z5)] [] zμ) (h : Lp (G12_most_L105 p1 p2 p4 p5 K91 Q) x) : WX p l e (rmX dR) s m args below meth c φ tc D (AX φ) 8 0 0 (MQ below (QX φ tc D (QI Q)) args s 0 0 (AX φ)) 105 [(0, .ref 358), (1, .int p1), (2, .int p2), (3, .ref 398), (4, .int p4), (5, .int p5), (6, .int x.1), (7, .int x.2.1)] [] x.2.2 := by
  obtain ⟨n, h⟩ := h
  induction n generalizing x with
  | zero => exact h.elim
  | succ n ih => exact G12_most_L105_b C hd hr  hK91 (fun z6 z7 zμ hz => by have q := ih hz; exact q) h
set_option maxHeartbeats 4000000 in
set_option maxRecDepth 100000 in
theorem G12_most_L91_b {p : Program} {e : Env} {s : State} {m : MethodId} {args : Array Value} {below : List Frame} {meth : Method} {c : Code} {l : Launch} {φ : Nat → Nat} {tc : Nat → ClassId} {D : va_G} {s0 : State} {dR : Nat} (C : CX p s m args meth c φ tc D (AX φ) s0 cX12_most RX12 8) (hd : G12_most_dep ≤ dR) (hr : meth.sig.returnType = (some .int))  {p1 : Int32} {p2 : Int32} {Q : Int32 → MM → Prop} {K91 : Int32 × Int32 × MM → Prop} {x : Int32 × Int32 × MM}   (hK91 : ∀ (z4 : Int32) (z5 : Int32) (zμ : MM), K91 (z4, z5, zμ) → WX p l e (rmX dR) s m args below meth c φ tc D (AX φ) 8 0 0 (MQ below (QX φ tc D (QI Q)) args s 0 0 (AX φ)) 91 [(0, .ref 358), (1, .int p1), (2, .int p2), (3, .ref 398), (4, .int z4), (5, .int z5)] [] zμ) (h : G12_most_L91 p1 p2 Q K91 x) : WX p l e (rmX dR) s m args below meth c φ tc D (AX φ) 8 0 0 (MQ below (QX φ tc D (QI Q)) args s 0 0 (AX φ)) 91 [(0, .ref 358), (1, .int p1), (2, .int p2), (3, .ref 398), (4, .int x.1), (5, .int x.2.1)] [] x.2.2 := by
  unfold G12_most_L91 at h
  refine x_iconst (v := 2) C (by decide) dX12_most_91 ?_
  refine x_iload C 5 rfl dX12_most_92 ?_
  refine x_imul C dX12_most_94 ?_
  refine x_iload_n C rfl 1 rfl dX12_most_95 ?_
  refine x_icmp_ge (tgt := 160) C dX12_most_96 (by decide) (fun c23 => ?_) (fun c23 => ?_)
  · have h := h.1 c23
    refine x_aload_n C rfl 0 rfl dX12_most_160 ?_
    refine x_iconst (v := 0) C (by decide) dX12_most_161 ?_
    refine x_putI C (j := 1) ob358.1 ob358.2 (Nat.le_of_ble_eq_true rfl) (Nat.le_of_ble_eq_true rfl) (Or.inl rfl) rfl rfl rfl tw_8_207 dX12_most_162 ?_
    refine x_mu (fun μ24 e_μ24 => ?_)
    have h := h μ24 e_μ24
    refine x_aload_n C rfl 0 rfl dX12_most_165 ?_
    refine x_iload_n C rfl 2 rfl dX12_most_166 ?_
    refine x_i2l C dX12_most_167 ?_
    refine x_callV (dC := G12_enters_dep) (as := [.long (p2.toInt64)]) (st := []) C rX kX (Nat.le_trans (Nat.le_of_ble_eq_true rfl) hd) (Nat.le_of_ble_eq_true rfl) ob358.1 ob358.2 (Nat.le_of_ble_eq_true rfl) rfl ts_10_1 tw_7_161 tw_7_159 tc_7_162 tw_1_13 hyX12 hnX12_enters rfl (Nat.le_of_ble_eq_true rfl) dX12_most_168 (G12_enters_met C.2.2.2.2.2.2.2.1 (Nat.le_refl _)  h) (fun r0 μ25 hq => ?_)
    obtain ⟨rfl, h⟩ := hq
    refine x_st [] rfl ?_
    refine x_aload_n C rfl 0 rfl dX12_most_171 ?_
    refine x_iload_n C rfl 1 rfl dX12_most_172 ?_
    refine x_i2l C dX12_most_173 ?_
    refine x_callV (dC := G12_enters_dep) (as := [.long (p1.toInt64)]) (st := []) C rX kX (Nat.le_trans (Nat.le_of_ble_eq_true rfl) hd) (Nat.le_of_ble_eq_true rfl) ob358.1 ob358.2 (Nat.le_of_ble_eq_true rfl) rfl ts_10_1 tw_7_161 tw_7_159 tc_7_162 tw_1_13 hyX12 hnX12_enters rfl (Nat.le_of_ble_eq_true rfl) dX12_most_174 (G12_enters_met C.2.2.2.2.2.2.2.1 (Nat.le_refl _)  h) (fun r0 μ26 hq => ?_)
    obtain ⟨rfl, h⟩ := hq
    refine x_st [] rfl ?_
    refine x_iload C 4 rfl dX12_most_177 ?_
    exact x_iret C hr dX12_most_179 ⟨_, rfl, h⟩
  · have h := h.2 c23
    refine x_iconst (v := 0) C (by decide) dX12_most_99 ?_
    refine x_istore C [(6, .int 0), (0, .ref 358), (1, .int p1), (2, .int p2), (3, .ref 398), (4, .int x.1), (5, .int x.2.1)] (Nat.le_of_ble_eq_true rfl) rfl dX12_most_100 ?_
    refine x_iconst (v := 1) C (by decide) dX12_most_102 ?_
    refine x_istore C [(7, .int 1), (6, .int 0), (0, .ref 358), (1, .int p1), (2, .int p2), (3, .ref 398), (4, .int x.1), (5, .int x.2.1)] (Nat.le_of_ble_eq_true rfl) rfl dX12_most_103 ?_
    refine x_sub [(0, .ref 358), (1, .int p1), (2, .int p2), (3, .ref 398), (4, .int x.1), (5, .int x.2.1), (6, .int 0), (7, .int 1)] [2, 3, 4, 5, 6, 7, 1, 0] rfl ?_
    exact G12_most_L105_ok C hd hr hK91 h
theorem G12_most_L91_ok {p : Program} {e : Env} {s : State} {m : MethodId} {args : Array Value} {below : List Frame} {meth : Method} {c : Code} {l : Launch} {φ : Nat → Nat} {tc : Nat → ClassId} {D : va_G} {s0 : State} {dR : Nat} (C : CX p s m args meth c φ tc D (AX φ) s0 cX12_most RX12 8) (hd : G12_most_dep ≤ dR) (hr : meth.sig.returnType = (some .int))  {p1 : Int32} {p2 : Int32} {Q : Int32 → MM → Prop}  {x : Int32 × Int32 × MM}    (h : Lp (G12_most_L91 p1 p2 Q) x) : WX p l e (rmX dR) s m args below meth c φ tc D (AX φ) 8 0 0 (MQ below (QX φ tc D (QI Q)) args s 0 0 (AX φ)) 91 [(0, .ref 358), (1, .int p1), (2, .int p2), (3, .ref 398), (4, .int x.1), (5, .int x.2.1)] [] x.2.2 := by
  obtain ⟨n, h⟩ := h
  induction n generalizing x with
  | zero => exact h.elim
  | succ n ih => exact G12_most_L91_b C hd hr   (fun z4 z5 zμ hz => by have q := ih hz; exact q) h
set_option maxHeartbeats 4000000 in
set_option maxRecDepth 100000 in
theorem G12_most_J74_ok {p : Program} {e : Env} {s : State} {m : MethodId} {args : Array Value} {below : List Frame} {meth : Method} {c : Code} {l : Launch} {φ : Nat → Nat} {tc : Nat → ClassId} {D : va_G} {s0 : State} {dR : Nat} (C : CX p s m args meth c φ tc D (AX φ) s0 cX12_most RX12 8) (hd : G12_most_dep ≤ dR) (hr : meth.sig.returnType = (some .int))   {p1 : Int32} {p4 : Int32} {q0 : Int32} {q1 : Int32} {Q : Int32 → MM → Prop} {K17 : Int32 × Int32 × Int32 × MM → Prop} {μ : MM}   (hK17 : ∀ (z1 : Int32) (z2 : Int32) (z4 : Int32) (zμ : MM), K17 (z1, z2, z4, zμ) → WX p l e (rmX dR) s m args below meth c φ tc D (AX φ) 8 0 0 (MQ below (QX φ tc D (QI Q)) args s 0 0 (AX φ)) 17 [(0, .ref 358), (1, .int z1), (2, .int z2), (3, .ref 398), (4, .int z4)] [] zμ) (h : G12_most_J74 p1 p4 q0 q1 μ K17 Q) : WX p l e (rmX dR) s m args below meth c φ tc D (AX φ) 8 0 0 (MQ below (QX φ tc D (QI Q)) args s 0 0 (AX φ)) 74 [(0, .ref 358), (1, .int p1), (3, .ref 398), (4, .int p4)] [.int q0, .int q1] μ := by
  unfold G12_most_J74 at h
  refine x_callS (dC := G12_flag_dep) (as := [.int q0]) (st := [.int q1]) C rX kX (Nat.le_trans (Nat.le_of_ble_eq_true rfl) hd) (Nat.le_of_ble_eq_true rfl) tw_6_212 tw_6_211 tc_6_213 tw_1_13 hyX12 hnX12_flag rfl (Nat.le_of_ble_eq_true rfl) dX12_most_74 (G12_flag_met C.2.2.2.2.2.2.2.1 (Nat.le_refl _)  h) (fun r0 μ43 hq => ?_)
  obtain ⟨r44, rfl, h⟩ := hq
  refine x_st [.int r44, .int q1] rfl ?_
  refine x_iadd C dX12_most_77 ?_
  refine x_topi (fun y45 e_y45 => ?_)
  have h := h y45 e_y45
  refine x_istore_n C [(2, .int y45), (0, .ref 358), (1, .int p1), (3, .ref 398), (4, .int p4)] rfl (Nat.le_of_ble_eq_true rfl) rfl dX12_most_78 ?_
  refine x_iinc (v := (p4 + 1)) C [(4, .int (p4 + 1)), (2, .int y45), (0, .ref 358), (1, .int p1), (3, .ref 398)] 4 rfl (congrArg (fun z => p4 + z) (by decide : Int32.ofInt (1) = 1)) (Nat.le_of_ble_eq_true rfl) rfl dX12_most_79 ?_
  refine x_goto (tgt := 17) C dX12_most_82 (by decide) ?_
  refine x_sub [(0, .ref 358), (1, .int p1), (2, .int y45), (3, .ref 398), (4, .int (p4 + 1))] [2, 3, 1, 4, 0] rfl ?_
  exact hK17 _ _ _ _ h
set_option maxHeartbeats 4000000 in
set_option maxRecDepth 100000 in
theorem G12_most_L17_b {p : Program} {e : Env} {s : State} {m : MethodId} {args : Array Value} {below : List Frame} {meth : Method} {c : Code} {l : Launch} {φ : Nat → Nat} {tc : Nat → ClassId} {D : va_G} {s0 : State} {dR : Nat} (C : CX p s m args meth c φ tc D (AX φ) s0 cX12_most RX12 8) (hd : G12_most_dep ≤ dR) (hr : meth.sig.returnType = (some .int))   {Q : Int32 → MM → Prop} {K17 : Int32 × Int32 × Int32 × MM → Prop} {x : Int32 × Int32 × Int32 × MM}   (hK17 : ∀ (z1 : Int32) (z2 : Int32) (z4 : Int32) (zμ : MM), K17 (z1, z2, z4, zμ) → WX p l e (rmX dR) s m args below meth c φ tc D (AX φ) 8 0 0 (MQ below (QX φ tc D (QI Q)) args s 0 0 (AX φ)) 17 [(0, .ref 358), (1, .int z1), (2, .int z2), (3, .ref 398), (4, .int z4)] [] zμ) (h : G12_most_L17  Q K17 x) : WX p l e (rmX dR) s m args below meth c φ tc D (AX φ) 8 0 0 (MQ below (QX φ tc D (QI Q)) args s 0 0 (AX φ)) 17 [(0, .ref 358), (1, .int x.1), (2, .int x.2.1), (3, .ref 398), (4, .int x.2.2.1)] [] x.2.2.2 := by
  unfold G12_most_L17 at h
  refine x_iload C 4 rfl dX12_most_17 ?_
  refine x_aload_n C rfl 0 rfl dX12_most_19 ?_
  refine x_getI C (j := 8) ob358.1 ob358.2 (Nat.le_of_ble_eq_true rfl) (Nat.le_of_ble_eq_true rfl) (Or.inl rfl) tw_8_214 dX12_most_20 ?_
  refine x_icmp_ge (tgt := 85) C dX12_most_23 (by decide) (fun c22 => ?_) (fun c22 => ?_)
  · have h := h.1 c22
    refine x_iconst (v := 0) C (by decide) dX12_most_85 ?_
    refine x_istore C [(4, .int 0), (0, .ref 358), (1, .int x.1), (2, .int x.2.1), (3, .ref 398)] (Nat.le_of_ble_eq_true rfl) rfl dX12_most_86 ?_
    refine x_iconst (v := 0) C (by decide) dX12_most_88 ?_
    refine x_istore C [(5, .int 0), (4, .int 0), (0, .ref 358), (1, .int x.1), (2, .int x.2.1), (3, .ref 398)] (Nat.le_of_ble_eq_true rfl) rfl dX12_most_89 ?_
    refine x_sub [(0, .ref 358), (1, .int x.1), (2, .int x.2.1), (3, .ref 398), (4, .int 0), (5, .int 0)] [2, 3, 4, 5, 1, 0] rfl ?_
    exact G12_most_L91_ok C hd hr  h
  · have h := h.2 c22
    refine x_aload_n C rfl 0 rfl dX12_most_26 ?_
    refine x_iload C 4 rfl dX12_most_27 ?_
    refine x_callV (dC := G12_countsHouse_dep) (as := [.int x.2.2.1]) (st := []) C rX kX (Nat.le_trans (Nat.le_of_ble_eq_true rfl) hd) (Nat.le_of_ble_eq_true rfl) ob358.1 ob358.2 (Nat.le_of_ble_eq_true rfl) rfl ts_10_8 tw_8_1 tw_7_239 tc_8_2 tw_1_13 hyX12 hnX12_countsHouse rfl (Nat.le_of_ble_eq_true rfl) dX12_most_29 (G12_countsHouse_met C.2.2.2.2.2.2.2.1 (Nat.le_refl _)  h) (fun r0 μ35 hq => ?_)
    obtain ⟨r36, rfl, h⟩ := hq
    refine x_st [.int r36] rfl ?_
    refine x_pop C rfl dX12_most_32 ?_
    refine x_aload_n C rfl 3 rfl dX12_most_33 ?_
    refine x_iload C 4 rfl dX12_most_34 ?_
    refine x_iconst (v := 0) C (by decide) dX12_most_36 ?_
    refine x_aload_n C rfl 0 rfl dX12_most_37 ?_
    refine x_getR (r := 391) C (j := 49) ob358.1 ob358.2 (Nat.le_of_ble_eq_true rfl) (Nat.le_of_ble_eq_true rfl) (fun _ _ _ => rfl) r_358_49 tw_9_15 dX12_most_38 ?_
    refine x_iconst (v := 0) C (by decide) dX12_most_41 ?_
    refine x_iald C ob391.1 ob391.2 (by unfold vp_in; decide) (j := 0) (by decide) dX12_most_42 ?_
    refine x_aload_n C rfl 0 rfl dX12_most_43 ?_
    refine x_getR (r := 391) C (j := 49) ob358.1 ob358.2 (Nat.le_of_ble_eq_true rfl) (Nat.le_of_ble_eq_true rfl) (fun _ _ _ => rfl) r_358_49 tw_9_15 dX12_most_44 ?_
    refine x_iconst (v := 1) C (by decide) dX12_most_47 ?_
    refine x_iald C ob391.1 ob391.2 (by unfold vp_in; decide) (j := 1) (by decide) dX12_most_48 ?_
    refine x_isub C dX12_most_49 ?_
    refine x_mmax C rX kX (Nat.le_trans (Nat.le_of_ble_eq_true rfl) hd) tw_7_98 tw_3_77 tw_1_20 (Nat.le_of_ble_eq_true rfl) dX12_most_50 ?_
    obtain ⟨c37, h⟩ := h
    refine x_iast C ob398.1 ob398.2 c37 rfl dX12_most_53 ?_
    refine x_mu (fun μ38 e_μ38 => ?_)
    have h := h μ38 e_μ38
    refine x_iload_n C rfl 1 rfl dX12_most_54 ?_
    refine x_aload_n C rfl 3 rfl dX12_most_55 ?_
    refine x_iload C 4 rfl dX12_most_56 ?_
    obtain ⟨c39, h⟩ := h
    refine x_iald C ob398.1 ob398.2 c39 rfl dX12_most_58 ?_
    refine x_iadd C dX12_most_59 ?_
    refine x_topi (fun y40 e_y40 => ?_)
    have h := h y40 e_y40
    refine x_istore_n C [(1, .int y40), (0, .ref 358), (2, .int x.2.1), (3, .ref 398), (4, .int x.2.2.1)] rfl (Nat.le_of_ble_eq_true rfl) rfl dX12_most_60 ?_
    refine x_iload_n C rfl 2 rfl dX12_most_61 ?_
    refine x_aload_n C rfl 3 rfl dX12_most_62 ?_
    refine x_iload C 4 rfl dX12_most_63 ?_
    obtain ⟨c41, h⟩ := h
    refine x_iald C ob398.1 ob398.2 c41 rfl dX12_most_65 ?_
    refine x_if_le (tgt := 73) C dX12_most_66 (by decide) (fun c42 => ?_) (fun c42 => ?_)
    · have h := h.1 c42
      refine x_iconst (v := 0) C (by decide) dX12_most_73 ?_
      refine x_sub [(0, .ref 358), (1, .int y40), (3, .ref 398), (4, .int x.2.2.1)] [1, 0, 3, 4] rfl ?_
      exact G12_most_J74_ok C hd hr hK17 h
    · have h := h.2 c42
      refine x_iconst (v := 1) C (by decide) dX12_most_69 ?_
      refine x_goto (tgt := 74) C dX12_most_70 (by decide) ?_
      refine x_sub [(0, .ref 358), (1, .int y40), (3, .ref 398), (4, .int x.2.2.1)] [1, 0, 3, 4] rfl ?_
      exact G12_most_J74_ok C hd hr hK17 h
theorem G12_most_L17_ok {p : Program} {e : Env} {s : State} {m : MethodId} {args : Array Value} {below : List Frame} {meth : Method} {c : Code} {l : Launch} {φ : Nat → Nat} {tc : Nat → ClassId} {D : va_G} {s0 : State} {dR : Nat} (C : CX p s m args meth c φ tc D (AX φ) s0 cX12_most RX12 8) (hd : G12_most_dep ≤ dR) (hr : meth.sig.returnType = (some .int))   {Q : Int32 → MM → Prop}  {x : Int32 × Int32 × Int32 × MM}    (h : Lp (G12_most_L17  Q) x) : WX p l e (rmX dR) s m args below meth c φ tc D (AX φ) 8 0 0 (MQ below (QX φ tc D (QI Q)) args s 0 0 (AX φ)) 17 [(0, .ref 358), (1, .int x.1), (2, .int x.2.1), (3, .ref 398), (4, .int x.2.2.1)] [] x.2.2.2 := by
  obtain ⟨n, h⟩ := h
  induction n generalizing x with
  | zero => exact h.elim
  | succ n ih => exact G12_most_L17_b C hd hr   (fun z1 z2 z4 zμ hz => by have q := ih hz; exact q) h
set_option maxHeartbeats 4000000 in
set_option maxRecDepth 100000 in
theorem G12_most_met {l : Launch} {φ : Nat → Nat} {tc : Nat → ClassId} {D : va_G} {s0 : State} (hG : GX φ tc D s0) {dR : Nat} (hd : G12_most_dep ≤ dR)  {μ : MM} {Q : Int32 → MM → Prop}  (h : G12_most  μ Q) : MX l φ tc D s0 dR yX12_most cX12_most 8 (some .int) [.ref 358] μ (QI Q) := by
  refine MX.of (own := RX12) hG plX12 rfl (Nat.le_of_ble_eq_true rfl) (fun p e s m args below meth c C hr => ?_)
  refine x_sub [(0, .ref 358)] [0] rfl ?_
  unfold G12_most at h
  refine x_aload_n C rfl 0 rfl dX12_most_0 ?_
  refine x_iconst (v := 0) C (by decide) dX12_most_1 ?_
  refine x_putI C (j := 0) ob358.1 ob358.2 (Nat.le_of_ble_eq_true rfl) (Nat.le_of_ble_eq_true rfl) (Or.inl rfl) rfl rfl rfl tw_8_206 dX12_most_2 ?_
  refine x_mu (fun μ21 e_μ21 => ?_)
  have h := h μ21 e_μ21
  refine x_iconst (v := 0) C (by decide) dX12_most_5 ?_
  refine x_istore_n C [(1, .int 0), (0, .ref 358)] rfl (Nat.le_of_ble_eq_true rfl) rfl dX12_most_6 ?_
  refine x_iconst (v := 0) C (by decide) dX12_most_7 ?_
  refine x_istore_n C [(2, .int 0), (1, .int 0), (0, .ref 358)] rfl (Nat.le_of_ble_eq_true rfl) rfl dX12_most_8 ?_
  refine x_aload_n C rfl 2 rfl dX12_most_9 ?_
  refine x_getR (r := 398) C (j := 56) ob358.1 ob358.2 (Nat.le_of_ble_eq_true rfl) (Nat.le_of_ble_eq_true rfl) (fun _ _ _ => rfl) r_358_56 tw_9_22 dX12_most_10 ?_
  refine x_astore_n C [(3, .ref 398), (2, .int 0), (1, .int 0), (0, .ref 358)] rfl (Nat.le_of_ble_eq_true rfl) rfl dX12_most_13 ?_
  refine x_iconst (v := 0) C (by decide) dX12_most_14 ?_
  refine x_istore C [(4, .int 0), (3, .ref 398), (2, .int 0), (1, .int 0), (0, .ref 358)] (Nat.le_of_ble_eq_true rfl) rfl dX12_most_15 ?_
  refine x_sub [(0, .ref 358), (1, .int 0), (2, .int 0), (3, .ref 398), (4, .int 0)] [4, 3, 2, 1, 0] rfl ?_
  exact G12_most_L17_ok C hd hr  h
set_option maxHeartbeats 4000000 in
set_option maxRecDepth 100000 in
theorem G12_both_L247_b {p : Program} {e : Env} {s : State} {m : MethodId} {args : Array Value} {below : List Frame} {meth : Method} {c : Code} {l : Launch} {φ : Nat → Nat} {tc : Nat → ClassId} {D : va_G} {s0 : State} {dR : Nat} (C : CX p s m args meth c φ tc D (AX φ) s0 cX12_both RX12 15) (hd : G12_both_dep ≤ dR) (hr : meth.sig.returnType = (some .int))  {p6 : Int64} {p10 : Int64} {p12 : Int64} {Q : Int32 → MM → Prop} {K247 : Int32 × MM → Prop} {x : Int32 × MM}   (hK247 : ∀ (z14 : Int32) (zμ : MM), K247 (z14, zμ) → WX p l e (rmX dR) s m args below meth c φ tc D (AX φ) 15 0 0 (MQ below (QX φ tc D (QI Q)) args s 0 0 (AX φ)) 247 [(0, .ref 358), (2, .ref 399), (3, .ref 400), (6, .long p6), (10, .long p10), (12, .long p12), (14, .int z14)] [] zμ) (h : G12_both_L247 p6 p10 p12 Q K247 x) : WX p l e (rmX dR) s m args below meth c φ tc D (AX φ) 15 0 0 (MQ below (QX φ tc D (QI Q)) args s 0 0 (AX φ)) 247 [(0, .ref 358), (2, .ref 399), (3, .ref 400), (6, .long p6), (10, .long p10), (12, .long p12), (14, .int x.1)] [] x.2 := by
  unfold G12_both_L247 at h
  refine x_iload C 6 rfl dX12_both_247 ?_
  refine x_iconst (v := 4) C (by decide) dX12_both_249 ?_
  refine x_icmp_ge (tgt := 277) C dX12_both_250 (by decide) (fun c49 => ?_) (fun c49 => ?_)
  · have h := h.1 c49
    refine x_aload_n C rfl 0 rfl dX12_both_277 ?_
    refine x_lload C 5 rfl dX12_both_278 ?_
    refine x_lload C 3 rfl dX12_both_280 ?_
    refine x_lload C 4 rfl dX12_both_282 ?_
    refine x_lmul C dX12_both_284 ?_
    refine x_callV (dC := G12_entersFraction_dep) (as := [.long p12, .long (p6 * p10)]) (st := []) C rX kX (Nat.le_trans (Nat.le_of_ble_eq_true rfl) hd) (Nat.le_of_ble_eq_true rfl) ob358.1 ob358.2 (Nat.le_of_ble_eq_true rfl) rfl ts_10_0 tw_7_154 tw_7_152 tc_7_155 tw_1_13 hyX12 hnX12_entersFraction rfl (Nat.le_of_ble_eq_true rfl) dX12_both_285 (G12_entersFraction_met C.2.2.2.2.2.2.2.1 (Nat.le_refl _)  h) (fun r0 μ50 hq => ?_)
    obtain ⟨rfl, h⟩ := hq
    refine x_st [] rfl ?_
    refine x_lload C 5 rfl dX12_both_288 ?_
    refine x_lconst (v := 0) C (by decide) dX12_both_290 ?_
    refine x_lcmp C dX12_both_291 ?_
    refine x_if_le (tgt := 299) C dX12_both_292 (by decide) (fun c51 => ?_) (fun c51 => ?_)
    · have h := h.1 c51
      refine x_lload C 5 rfl dX12_both_299 ?_
      refine x_lconst (v := 0) C (by decide) dX12_both_301 ?_
      refine x_lcmp C dX12_both_302 ?_
      refine x_if_ge (tgt := 310) C dX12_both_303 (by decide) (fun c52 => ?_) (fun c52 => ?_)
      · have h := h.1 c52
        refine x_iconst (v := 0) C (by decide) dX12_both_310 ?_
        exact x_iret C hr dX12_both_311 ⟨_, rfl, h⟩
      · have h := h.2 c52
        refine x_iconst (v := 2) C (by decide) dX12_both_306 ?_
        refine x_goto (tgt := 311) C dX12_both_307 (by decide) ?_
        exact x_iret C hr dX12_both_311 ⟨_, rfl, h⟩
    · have h := h.2 c51
      refine x_iconst (v := 1) C (by decide) dX12_both_295 ?_
      refine x_goto (tgt := 311) C dX12_both_296 (by decide) ?_
      exact x_iret C hr dX12_both_311 ⟨_, rfl, h⟩
  · have h := h.2 c49
    refine x_aload_n C rfl 0 rfl dX12_both_253 ?_
    refine x_aload_n C rfl 2 rfl dX12_both_254 ?_
    refine x_iload C 6 rfl dX12_both_255 ?_
    obtain ⟨c53, h⟩ := h
    refine x_iald C ob400.1 ob400.2 c53 rfl dX12_both_257 ?_
    refine x_i2l C dX12_both_258 ?_
    refine x_callV (dC := G12_enters_dep) (as := [.long ((gI x.2 400 x.1.toNatClampNeg).toInt64)]) (st := []) C rX kX (Nat.le_trans (Nat.le_of_ble_eq_true rfl) hd) (Nat.le_of_ble_eq_true rfl) ob358.1 ob358.2 (Nat.le_of_ble_eq_true rfl) rfl ts_10_1 tw_7_161 tw_7_159 tc_7_162 tw_1_13 hyX12 hnX12_enters rfl (Nat.le_of_ble_eq_true rfl) dX12_both_259 (G12_enters_met C.2.2.2.2.2.2.2.1 (Nat.le_refl _)  h) (fun r0 μ54 hq => ?_)
    obtain ⟨rfl, h⟩ := hq
    refine x_st [] rfl ?_
    refine x_aload_n C rfl 0 rfl dX12_both_262 ?_
    refine x_aload_n C rfl 1 rfl dX12_both_263 ?_
    refine x_iload C 6 rfl dX12_both_264 ?_
    obtain ⟨c55, h⟩ := h
    refine x_iald C ob399.1 ob399.2 c55 rfl dX12_both_266 ?_
    refine x_i2l C dX12_both_267 ?_
    refine x_callV (dC := G12_enters_dep) (as := [.long ((gI μ54 399 x.1.toNatClampNeg).toInt64)]) (st := []) C rX kX (Nat.le_trans (Nat.le_of_ble_eq_true rfl) hd) (Nat.le_of_ble_eq_true rfl) ob358.1 ob358.2 (Nat.le_of_ble_eq_true rfl) rfl ts_10_1 tw_7_161 tw_7_159 tc_7_162 tw_1_13 hyX12 hnX12_enters rfl (Nat.le_of_ble_eq_true rfl) dX12_both_268 (G12_enters_met C.2.2.2.2.2.2.2.1 (Nat.le_refl _)  h) (fun r0 μ56 hq => ?_)
    obtain ⟨rfl, h⟩ := hq
    refine x_st [] rfl ?_
    refine x_iinc (v := (x.1 + 1)) C [(14, .int (x.1 + 1)), (0, .ref 358), (2, .ref 399), (3, .ref 400), (6, .long p6), (10, .long p10), (12, .long p12)] 6 rfl (congrArg (fun z => x.1 + z) (by decide : Int32.ofInt (1) = 1)) (Nat.le_of_ble_eq_true rfl) rfl dX12_both_271 ?_
    refine x_goto (tgt := 247) C dX12_both_274 (by decide) ?_
    refine x_sub [(0, .ref 358), (2, .ref 399), (3, .ref 400), (6, .long p6), (10, .long p10), (12, .long p12), (14, .int (x.1 + 1))] [1, 2, 3, 4, 5, 6, 0] rfl ?_
    exact hK247 _ _ h
theorem G12_both_L247_ok {p : Program} {e : Env} {s : State} {m : MethodId} {args : Array Value} {below : List Frame} {meth : Method} {c : Code} {l : Launch} {φ : Nat → Nat} {tc : Nat → ClassId} {D : va_G} {s0 : State} {dR : Nat} (C : CX p s m args meth c φ tc D (AX φ) s0 cX12_both RX12 15) (hd : G12_both_dep ≤ dR) (hr : meth.sig.returnType = (some .int))  {p6 : Int64} {p10 : Int64} {p12 : Int64} {Q : Int32 → MM → Prop}  {x : Int32 × MM}    (h : Lp (G12_both_L247 p6 p10 p12 Q) x) : WX p l e (rmX dR) s m args below meth c φ tc D (AX φ) 15 0 0 (MQ below (QX φ tc D (QI Q)) args s 0 0 (AX φ)) 247 [(0, .ref 358), (2, .ref 399), (3, .ref 400), (6, .long p6), (10, .long p10), (12, .long p12), (14, .int x.1)] [] x.2 := by
  obtain ⟨n, h⟩ := h
  induction n generalizing x with
  | zero => exact h.elim
  | succ n ih => exact G12_both_L247_b C hd hr   (fun z14 zμ hz => by have q := ih hz; exact q) h
set_option maxHeartbeats 4000000 in
set_option maxRecDepth 100000 in
theorem G12_both_L140_b {p : Program} {e : Env} {s : State} {m : MethodId} {args : Array Value} {below : List Frame} {meth : Method} {c : Code} {l : Launch} {φ : Nat → Nat} {tc : Nat → ClassId} {D : va_G} {s0 : State} {dR : Nat} (C : CX p s m args meth c φ tc D (AX φ) s0 cX12_both RX12 15) (hd : G12_both_dep ≤ dR) (hr : meth.sig.returnType = (some .int))   {Q : Int32 → MM → Prop} {K140 : Int32 × MM → Prop} {x : Int32 × MM}   (hK140 : ∀ (z4 : Int32) (zμ : MM), K140 (z4, zμ) → WX p l e (rmX dR) s m args below meth c φ tc D (AX φ) 15 0 0 (MQ below (QX φ tc D (QI Q)) args s 0 0 (AX φ)) 140 [(0, .ref 358), (2, .ref 399), (3, .ref 400), (4, .int z4)] [] zμ) (h : G12_both_L140  Q K140 x) : WX p l e (rmX dR) s m args below meth c φ tc D (AX φ) 15 0 0 (MQ below (QX φ tc D (QI Q)) args s 0 0 (AX φ)) 140 [(0, .ref 358), (2, .ref 399), (3, .ref 400), (4, .int x.1)] [] x.2 := by
  unfold G12_both_L140 at h
  refine x_iload C 3 rfl dX12_both_140 ?_
  refine x_iconst (v := 4) C (by decide) dX12_both_142 ?_
  refine x_icmp_ge (tgt := 162) C dX12_both_143 (by decide) (fun c42 => ?_) (fun c42 => ?_)
  · have h := h.1 c42
    refine x_aload_n C rfl 2 rfl dX12_both_162 ?_
    refine x_iconst (v := 0) C (by decide) dX12_both_163 ?_
    refine x_iald C ob400.1 ob400.2 (by unfold vp_in; decide) (j := 0) (by decide) dX12_both_164 ?_
    refine x_i2l C dX12_both_165 ?_
    refine x_aload_n C rfl 1 rfl dX12_both_166 ?_
    refine x_iconst (v := 1) C (by decide) dX12_both_167 ?_
    refine x_iald C ob399.1 ob399.2 (by unfold vp_in; decide) (j := 1) (by decide) dX12_both_168 ?_
    refine x_i2l C dX12_both_169 ?_
    refine x_lmul C dX12_both_170 ?_
    refine x_aload_n C rfl 2 rfl dX12_both_171 ?_
    refine x_iconst (v := 1) C (by decide) dX12_both_172 ?_
    refine x_iald C ob400.1 ob400.2 (by unfold vp_in; decide) (j := 1) (by decide) dX12_both_173 ?_
    refine x_i2l C dX12_both_174 ?_
    refine x_aload_n C rfl 1 rfl dX12_both_175 ?_
    refine x_iconst (v := 0) C (by decide) dX12_both_176 ?_
    refine x_iald C ob399.1 ob399.2 (by unfold vp_in; decide) (j := 0) (by decide) dX12_both_177 ?_
    refine x_i2l C dX12_both_178 ?_
    refine x_lmul C dX12_both_179 ?_
    refine x_lsub C dX12_both_180 ?_
    refine x_topl (fun y43 e_y43 => ?_)
    have h := h y43 e_y43
    refine x_lstore C [(4, .long y43), (0, .ref 358), (2, .ref 399), (3, .ref 400)] (Nat.le_of_ble_eq_true rfl) rfl dX12_both_181 ?_
    refine x_aload_n C rfl 2 rfl dX12_both_183 ?_
    refine x_iconst (v := 0) C (by decide) dX12_both_184 ?_
    refine x_iald C ob399.1 ob399.2 (by unfold vp_in; decide) (j := 0) (by decide) dX12_both_185 ?_
    refine x_i2l C dX12_both_186 ?_
    refine x_aload_n C rfl 2 rfl dX12_both_187 ?_
    refine x_iconst (v := 1) C (by decide) dX12_both_188 ?_
    refine x_iald C ob399.1 ob399.2 (by unfold vp_in; decide) (j := 1) (by decide) dX12_both_189 ?_
    refine x_i2l C dX12_both_190 ?_
    refine x_lmul C dX12_both_191 ?_
    refine x_topl (fun y44 e_y44 => ?_)
    have h := h y44 e_y44
    refine x_lstore C [(6, .long y44), (4, .long y43), (0, .ref 358), (2, .ref 399), (3, .ref 400)] (Nat.le_of_ble_eq_true rfl) rfl dX12_both_192 ?_
    refine x_aload_n C rfl 4 rfl dX12_both_194 ?_
    refine x_iconst (v := 2) C (by decide) dX12_both_195 ?_
    refine x_iald C ob400.1 ob400.2 (by unfold vp_in; decide) (j := 2) (by decide) dX12_both_196 ?_
    refine x_i2l C dX12_both_197 ?_
    refine x_aload_n C rfl 3 rfl dX12_both_198 ?_
    refine x_iconst (v := 3) C (by decide) dX12_both_199 ?_
    refine x_iald C ob399.1 ob399.2 (by unfold vp_in; decide) (j := 3) (by decide) dX12_both_200 ?_
    refine x_i2l C dX12_both_201 ?_
    refine x_lmul C dX12_both_202 ?_
    refine x_aload_n C rfl 4 rfl dX12_both_203 ?_
    refine x_iconst (v := 3) C (by decide) dX12_both_204 ?_
    refine x_iald C ob400.1 ob400.2 (by unfold vp_in; decide) (j := 3) (by decide) dX12_both_205 ?_
    refine x_i2l C dX12_both_206 ?_
    refine x_aload_n C rfl 3 rfl dX12_both_207 ?_
    refine x_iconst (v := 2) C (by decide) dX12_both_208 ?_
    refine x_iald C ob399.1 ob399.2 (by unfold vp_in; decide) (j := 2) (by decide) dX12_both_209 ?_
    refine x_i2l C dX12_both_210 ?_
    refine x_lmul C dX12_both_211 ?_
    refine x_lsub C dX12_both_212 ?_
    refine x_topl (fun y45 e_y45 => ?_)
    have h := h y45 e_y45
    refine x_lstore C [(8, .long y45), (6, .long y44), (4, .long y43), (0, .ref 358), (2, .ref 399), (3, .ref 400)] (Nat.le_of_ble_eq_true rfl) rfl dX12_both_213 ?_
    refine x_aload_n C rfl 4 rfl dX12_both_215 ?_
    refine x_iconst (v := 2) C (by decide) dX12_both_216 ?_
    refine x_iald C ob399.1 ob399.2 (by unfold vp_in; decide) (j := 2) (by decide) dX12_both_217 ?_
    refine x_i2l C dX12_both_218 ?_
    refine x_aload_n C rfl 4 rfl dX12_both_219 ?_
    refine x_iconst (v := 3) C (by decide) dX12_both_220 ?_
    refine x_iald C ob399.1 ob399.2 (by unfold vp_in; decide) (j := 3) (by decide) dX12_both_221 ?_
    refine x_i2l C dX12_both_222 ?_
    refine x_lmul C dX12_both_223 ?_
    refine x_topl (fun y46 e_y46 => ?_)
    have h := h y46 e_y46
    refine x_lstore C [(10, .long y46), (8, .long y45), (6, .long y44), (4, .long y43), (0, .ref 358), (2, .ref 399), (3, .ref 400)] (Nat.le_of_ble_eq_true rfl) rfl dX12_both_224 ?_
    refine x_lload C 3 rfl dX12_both_226 ?_
    refine x_lload C 0 rfl dX12_both_228 ?_
    refine x_lmul C dX12_both_230 ?_
    refine x_lload C 1 rfl dX12_both_231 ?_
    refine x_lload C 2 rfl dX12_both_233 ?_
    refine x_lmul C dX12_both_235 ?_
    refine x_lsub C dX12_both_236 ?_
    refine x_topl (fun y47 e_y47 => ?_)
    have h := h y47 e_y47
    refine x_lstore C [(12, .long y47), (10, .long y46), (8, .long y45), (6, .long y44), (4, .long y43), (0, .ref 358), (2, .ref 399), (3, .ref 400)] (Nat.le_of_ble_eq_true rfl) rfl dX12_both_237 ?_
    refine x_aload_n C rfl 5 rfl dX12_both_239 ?_
    refine x_iconst (v := 0) C (by decide) dX12_both_240 ?_
    refine x_putI C (j := 1) ob358.1 ob358.2 (Nat.le_of_ble_eq_true rfl) (Nat.le_of_ble_eq_true rfl) (Or.inl rfl) rfl rfl rfl tw_8_207 dX12_both_241 ?_
    refine x_mu (fun μ48 e_μ48 => ?_)
    have h := h μ48 e_μ48
    refine x_iconst (v := 0) C (by decide) dX12_both_244 ?_
    refine x_istore C [(14, .int 0), (12, .long y47), (10, .long y46), (8, .long y45), (6, .long y44), (4, .long y43), (0, .ref 358), (2, .ref 399), (3, .ref 400)] (Nat.le_of_ble_eq_true rfl) rfl dX12_both_245 ?_
    refine x_sub [(0, .ref 358), (2, .ref 399), (3, .ref 400), (6, .long y44), (10, .long y46), (12, .long y47), (14, .int 0)] [6, 7, 8, 4, 2, 1, 0] rfl ?_
    exact G12_both_L247_ok C hd hr  h
  · have h := h.2 c42
    refine x_aload_n C rfl 1 rfl dX12_both_146 ?_
    refine x_iload C 3 rfl dX12_both_147 ?_
    obtain ⟨c57, h⟩ := h
    refine x_iald C ob399.1 ob399.2 c57 rfl dX12_both_149 ?_
    refine x_if_ne (tgt := 156) C dX12_both_150 (by decide) (fun c58 => ?_) (fun c58 => ?_)
    · have h := h.1 c58
      refine x_iinc (v := (x.1 + 1)) C [(4, .int (x.1 + 1)), (0, .ref 358), (2, .ref 399), (3, .ref 400)] 3 rfl (congrArg (fun z => x.1 + z) (by decide : Int32.ofInt (1) = 1)) (Nat.le_of_ble_eq_true rfl) rfl dX12_both_156 ?_
      refine x_goto (tgt := 140) C dX12_both_159 (by decide) ?_
      refine x_sub [(0, .ref 358), (2, .ref 399), (3, .ref 400), (4, .int (x.1 + 1))] [1, 2, 3, 0] rfl ?_
      exact hK140 _ _ h
    · have h := h.2 c58
      refine x_bipush (v := (-2)) C (by decide) dX12_both_153 ?_
      exact x_iret C hr dX12_both_155 ⟨_, rfl, h⟩
theorem G12_both_L140_ok {p : Program} {e : Env} {s : State} {m : MethodId} {args : Array Value} {below : List Frame} {meth : Method} {c : Code} {l : Launch} {φ : Nat → Nat} {tc : Nat → ClassId} {D : va_G} {s0 : State} {dR : Nat} (C : CX p s m args meth c φ tc D (AX φ) s0 cX12_both RX12 15) (hd : G12_both_dep ≤ dR) (hr : meth.sig.returnType = (some .int))   {Q : Int32 → MM → Prop}  {x : Int32 × MM}    (h : Lp (G12_both_L140  Q) x) : WX p l e (rmX dR) s m args below meth c φ tc D (AX φ) 15 0 0 (MQ below (QX φ tc D (QI Q)) args s 0 0 (AX φ)) 140 [(0, .ref 358), (2, .ref 399), (3, .ref 400), (4, .int x.1)] [] x.2 := by
  obtain ⟨n, h⟩ := h
  induction n generalizing x with
  | zero => exact h.elim
  | succ n ih => exact G12_both_L140_b C hd hr   (fun z4 zμ hz => by have q := ih hz; exact q) h
set_option maxHeartbeats 4000000 in
set_option maxRecDepth 100000 in
theorem G12_both_J100_ok {p : Program} {e : Env} {s : State} {m : MethodId} {args : Array Value} {below : List Frame} {meth : Method} {c : Code} {l : Launch} {φ : Nat → Nat} {tc : Nat → ClassId} {D : va_G} {s0 : State} {dR : Nat} (C : CX p s m args meth c φ tc D (AX φ) s0 cX12_both RX12 15) (hd : G12_both_dep ≤ dR) (hr : meth.sig.returnType = (some .int))   {p1 : Int32} {p4 : Int32} {q0 : Int32} {q1 : Int32} {Q : Int32 → MM → Prop} {K57 : Int32 × MM → Prop} {μ : MM}   (hK57 : ∀ (z4 : Int32) (zμ : MM), K57 (z4, zμ) → WX p l e (rmX dR) s m args below meth c φ tc D (AX φ) 15 0 0 (MQ below (QX φ tc D (QI Q)) args s 0 0 (AX φ)) 57 [(0, .ref 358), (1, .int p1), (2, .ref 399), (3, .ref 400), (4, .int z4)] [] zμ) (h : G12_both_J100 p1 p4 q0 q1 μ K57 Q) : WX p l e (rmX dR) s m args below meth c φ tc D (AX φ) 15 0 0 (MQ below (QX φ tc D (QI Q)) args s 0 0 (AX φ)) 100 [(0, .ref 358), (1, .int p1), (2, .ref 399), (3, .ref 400), (4, .int p4)] [.int q0, .int q1] μ := by
  unfold G12_both_J100 at h
  refine x_callS (dC := G12_flag_dep) (as := [.int q0]) (st := [.int q1]) C rX kX (Nat.le_trans (Nat.le_of_ble_eq_true rfl) hd) (Nat.le_of_ble_eq_true rfl) tw_6_212 tw_6_211 tc_6_213 tw_1_13 hyX12 hnX12_flag rfl (Nat.le_of_ble_eq_true rfl) dX12_both_100 (G12_flag_met C.2.2.2.2.2.2.2.1 (Nat.le_refl _)  h) (fun r0 μ65 hq => ?_)
  obtain ⟨r66, rfl, h⟩ := hq
  refine x_st [.int r66, .int q1] rfl ?_
  refine x_iadd C dX12_both_103 ?_
  refine x_topi (fun y67 e_y67 => ?_)
  have h := h y67 e_y67
  refine x_istore C [(5, .int y67), (0, .ref 358), (1, .int p1), (2, .ref 399), (3, .ref 400), (4, .int p4)] (Nat.le_of_ble_eq_true rfl) rfl dX12_both_104 ?_
  refine x_aload_n C rfl 3 rfl dX12_both_106 ?_
  refine x_iload C 0 rfl dX12_both_107 ?_
  refine x_dup2_11 C rfl rfl dX12_both_109 ?_
  obtain ⟨c68, h⟩ := h
  refine x_iald C ob399.1 ob399.2 c68 rfl dX12_both_110 ?_
  refine x_iconst (v := 1) C (by decide) dX12_both_111 ?_
  refine x_iadd C dX12_both_112 ?_
  obtain ⟨c69, h⟩ := h
  refine x_iast C ob399.1 ob399.2 c69 rfl dX12_both_113 ?_
  refine x_mu (fun μ70 e_μ70 => ?_)
  have h := h μ70 e_μ70
  refine x_aload_n C rfl 4 rfl dX12_both_114 ?_
  refine x_iload C 0 rfl dX12_both_115 ?_
  refine x_dup2_11 C rfl rfl dX12_both_117 ?_
  obtain ⟨c71, h⟩ := h
  refine x_iald C ob400.1 ob400.2 c71 rfl dX12_both_118 ?_
  refine x_aload_n C rfl 1 rfl dX12_both_119 ?_
  refine x_getR (r := 374) C (j := 20) ob358.1 ob358.2 (Nat.le_of_ble_eq_true rfl) (Nat.le_of_ble_eq_true rfl) (fun _ _ _ => rfl) r_358_20 tw_8_226 dX12_both_120 ?_
  refine x_iload C 5 rfl dX12_both_123 ?_
  obtain ⟨c72, h⟩ := h
  refine x_zald C ob374.1 ob374.2 c72 rfl dX12_both_125 ?_
  refine x_callS (dC := G12_flag_dep) (as := [.int (gI μ70 374 p4.toNatClampNeg)]) (st := [.int (gI μ70 400 y67.toNatClampNeg), .int y67, .ref 400]) C rX kX (Nat.le_trans (Nat.le_of_ble_eq_true rfl) hd) (Nat.le_of_ble_eq_true rfl) tw_6_212 tw_6_211 tc_6_213 tw_1_13 hyX12 hnX12_flag rfl (Nat.le_of_ble_eq_true rfl) dX12_both_126 (G12_flag_met C.2.2.2.2.2.2.2.1 (Nat.le_refl _)  h) (fun r0 μ73 hq => ?_)
  obtain ⟨r74, rfl, h⟩ := hq
  refine x_st [.int r74, .int (gI μ70 400 y67.toNatClampNeg), .int y67, .ref 400] rfl ?_
  refine x_iadd C dX12_both_129 ?_
  obtain ⟨c75, h⟩ := h
  refine x_iast C ob400.1 ob400.2 c75 rfl dX12_both_130 ?_
  refine x_mu (fun μ76 e_μ76 => ?_)
  have h := h μ76 e_μ76
  refine x_iinc (v := (p4 + 1)) C [(4, .int (p4 + 1)), (5, .int y67), (0, .ref 358), (1, .int p1), (2, .ref 399), (3, .ref 400)] 5 rfl (congrArg (fun z => p4 + z) (by decide : Int32.ofInt (1) = 1)) (Nat.le_of_ble_eq_true rfl) rfl dX12_both_131 ?_
  refine x_goto (tgt := 57) C dX12_both_134 (by decide) ?_
  refine x_sub [(0, .ref 358), (1, .int p1), (2, .ref 399), (3, .ref 400), (4, .int (p4 + 1))] [2, 3, 4, 5, 0] rfl ?_
  exact hK57 _ _ h
set_option maxHeartbeats 4000000 in
set_option maxRecDepth 100000 in
theorem G12_both_L57_b {p : Program} {e : Env} {s : State} {m : MethodId} {args : Array Value} {below : List Frame} {meth : Method} {c : Code} {l : Launch} {φ : Nat → Nat} {tc : Nat → ClassId} {D : va_G} {s0 : State} {dR : Nat} (C : CX p s m args meth c φ tc D (AX φ) s0 cX12_both RX12 15) (hd : G12_both_dep ≤ dR) (hr : meth.sig.returnType = (some .int))  {p1 : Int32} {Q : Int32 → MM → Prop} {K57 : Int32 × MM → Prop} {x : Int32 × MM}   (hK57 : ∀ (z4 : Int32) (zμ : MM), K57 (z4, zμ) → WX p l e (rmX dR) s m args below meth c φ tc D (AX φ) 15 0 0 (MQ below (QX φ tc D (QI Q)) args s 0 0 (AX φ)) 57 [(0, .ref 358), (1, .int p1), (2, .ref 399), (3, .ref 400), (4, .int z4)] [] zμ) (h : G12_both_L57 p1 Q K57 x) : WX p l e (rmX dR) s m args below meth c φ tc D (AX φ) 15 0 0 (MQ below (QX φ tc D (QI Q)) args s 0 0 (AX φ)) 57 [(0, .ref 358), (1, .int p1), (2, .ref 399), (3, .ref 400), (4, .int x.1)] [] x.2 := by
  unfold G12_both_L57 at h
  refine x_iload C 4 rfl dX12_both_57 ?_
  refine x_aload_n C rfl 0 rfl dX12_both_59 ?_
  refine x_getI C (j := 12) ob358.1 ob358.2 (Nat.le_of_ble_eq_true rfl) (Nat.le_of_ble_eq_true rfl) (Or.inl rfl) tw_8_218 dX12_both_60 ?_
  refine x_icmp_ge (tgt := 137) C dX12_both_63 (by decide) (fun c41 => ?_) (fun c41 => ?_)
  · have h := h.1 c41
    refine x_iconst (v := 0) C (by decide) dX12_both_137 ?_
    refine x_istore C [(4, .int 0), (0, .ref 358), (1, .int p1), (2, .ref 399), (3, .ref 400)] (Nat.le_of_ble_eq_true rfl) rfl dX12_both_138 ?_
    refine x_sub [(0, .ref 358), (2, .ref 399), (3, .ref 400), (4, .int 0)] [1, 3, 4, 0] rfl ?_
    exact G12_both_L140_ok C hd hr  h
  · have h := h.2 c41
    refine x_aload_n C rfl 0 rfl dX12_both_66 ?_
    refine x_getR (r := 373) C (j := 19) ob358.1 ob358.2 (Nat.le_of_ble_eq_true rfl) (Nat.le_of_ble_eq_true rfl) (fun _ _ _ => rfl) r_358_19 tw_8_225 dX12_both_67 ?_
    refine x_iload C 4 rfl dX12_both_70 ?_
    obtain ⟨c59, h⟩ := h
    refine x_zald C ob373.1 ob373.2 c59 rfl dX12_both_72 ?_
    refine x_if_eq (tgt := 131) C dX12_both_73 (by decide) (fun c60 => ?_) (fun c60 => ?_)
    · have h := h.1 c60
      refine x_iinc (v := (x.1 + 1)) C [(4, .int (x.1 + 1)), (0, .ref 358), (1, .int p1), (2, .ref 399), (3, .ref 400)] 4 rfl (congrArg (fun z => x.1 + z) (by decide : Int32.ofInt (1) = 1)) (Nat.le_of_ble_eq_true rfl) rfl dX12_both_131 ?_
      refine x_goto (tgt := 57) C dX12_both_134 (by decide) ?_
      refine x_sub [(0, .ref 358), (1, .int p1), (2, .ref 399), (3, .ref 400), (4, .int (x.1 + 1))] [1, 2, 3, 4, 0] rfl ?_
      exact hK57 _ _ h
    · have h := h.2 c60
      refine x_iconst (v := 2) C (by decide) dX12_both_76 ?_
      refine x_aload_n C rfl 0 rfl dX12_both_77 ?_
      refine x_iload C 4 rfl dX12_both_78 ?_
      refine x_callV (dC := G12_peopleOf_dep) (as := [.int x.1]) (st := [.int 2]) C rX kX (Nat.le_trans (Nat.le_of_ble_eq_true rfl) hd) (Nat.le_of_ble_eq_true rfl) ob358.1 ob358.2 (Nat.le_of_ble_eq_true rfl) rfl ts_9_15 tw_7_150 tw_7_148 tc_7_151 tw_1_13 hyX12 hnX12_peopleOf rfl (Nat.le_of_ble_eq_true rfl) dX12_both_80 (G12_peopleOf_met C.2.2.2.2.2.2.2.1 (Nat.le_refl _)  h) (fun r0 μ61 hq => ?_)
      obtain ⟨r62, rfl, h⟩ := hq
      refine x_st [.int r62, .int 2] rfl ?_
      refine x_imul C dX12_both_83 ?_
      refine x_aload_n C rfl 0 rfl dX12_both_84 ?_
      refine x_getR (r := 369) C (j := 15) ob358.1 ob358.2 (Nat.le_of_ble_eq_true rfl) (Nat.le_of_ble_eq_true rfl) (fun _ _ _ => rfl) r_358_15 tw_8_221 dX12_both_85 ?_
      refine x_iload C 4 rfl dX12_both_88 ?_
      obtain ⟨c63, h⟩ := h
      refine x_iald C ob369.1 ob369.2 c63 rfl dX12_both_90 ?_
      refine x_iload_n C rfl 1 rfl dX12_both_91 ?_
      refine x_icmp_ge (tgt := 99) C dX12_both_92 (by decide) (fun c64 => ?_) (fun c64 => ?_)
      · have h := h.1 c64
        refine x_iconst (v := 0) C (by decide) dX12_both_99 ?_
        exact G12_both_J100_ok C hd hr hK57 h
      · have h := h.2 c64
        refine x_iconst (v := 1) C (by decide) dX12_both_95 ?_
        refine x_goto (tgt := 100) C dX12_both_96 (by decide) ?_
        exact G12_both_J100_ok C hd hr hK57 h
theorem G12_both_L57_ok {p : Program} {e : Env} {s : State} {m : MethodId} {args : Array Value} {below : List Frame} {meth : Method} {c : Code} {l : Launch} {φ : Nat → Nat} {tc : Nat → ClassId} {D : va_G} {s0 : State} {dR : Nat} (C : CX p s m args meth c φ tc D (AX φ) s0 cX12_both RX12 15) (hd : G12_both_dep ≤ dR) (hr : meth.sig.returnType = (some .int))  {p1 : Int32} {Q : Int32 → MM → Prop}  {x : Int32 × MM}    (h : Lp (G12_both_L57 p1 Q) x) : WX p l e (rmX dR) s m args below meth c φ tc D (AX φ) 15 0 0 (MQ below (QX φ tc D (QI Q)) args s 0 0 (AX φ)) 57 [(0, .ref 358), (1, .int p1), (2, .ref 399), (3, .ref 400), (4, .int x.1)] [] x.2 := by
  obtain ⟨n, h⟩ := h
  induction n generalizing x with
  | zero => exact h.elim
  | succ n ih => exact G12_both_L57_b C hd hr   (fun z4 zμ hz => by have q := ih hz; exact q) h
set_option maxHeartbeats 4000000 in
set_option maxRecDepth 100000 in
theorem G12_both_L32_b {p : Program} {e : Env} {s : State} {m : MethodId} {args : Array Value} {below : List Frame} {meth : Method} {c : Code} {l : Launch} {φ : Nat → Nat} {tc : Nat → ClassId} {D : va_G} {s0 : State} {dR : Nat} (C : CX p s m args meth c φ tc D (AX φ) s0 cX12_both RX12 15) (hd : G12_both_dep ≤ dR) (hr : meth.sig.returnType = (some .int))  {p1 : Int32} {Q : Int32 → MM → Prop} {K32 : Int32 × MM → Prop} {x : Int32 × MM}   (hK32 : ∀ (z4 : Int32) (zμ : MM), K32 (z4, zμ) → WX p l e (rmX dR) s m args below meth c φ tc D (AX φ) 15 0 0 (MQ below (QX φ tc D (QI Q)) args s 0 0 (AX φ)) 32 [(0, .ref 358), (1, .int p1), (2, .ref 399), (3, .ref 400), (4, .int z4)] [] zμ) (h : G12_both_L32 p1 Q K32 x) : WX p l e (rmX dR) s m args below meth c φ tc D (AX φ) 15 0 0 (MQ below (QX φ tc D (QI Q)) args s 0 0 (AX φ)) 32 [(0, .ref 358), (1, .int p1), (2, .ref 399), (3, .ref 400), (4, .int x.1)] [] x.2 := by
  unfold G12_both_L32 at h
  refine x_iload C 4 rfl dX12_both_32 ?_
  refine x_iconst (v := 4) C (by decide) dX12_both_34 ?_
  refine x_icmp_ge (tgt := 54) C dX12_both_35 (by decide) (fun c40 => ?_) (fun c40 => ?_)
  · have h := h.1 c40
    refine x_iconst (v := 0) C (by decide) dX12_both_54 ?_
    refine x_istore C [(4, .int 0), (0, .ref 358), (1, .int p1), (2, .ref 399), (3, .ref 400)] (Nat.le_of_ble_eq_true rfl) rfl dX12_both_55 ?_
    refine x_sub [(0, .ref 358), (1, .int p1), (2, .ref 399), (3, .ref 400), (4, .int 0)] [1, 2, 3, 4, 0] rfl ?_
    exact G12_both_L57_ok C hd hr  h
  · have h := h.2 c40
    refine x_aload_n C rfl 2 rfl dX12_both_38 ?_
    refine x_iload C 4 rfl dX12_both_39 ?_
    refine x_iconst (v := 0) C (by decide) dX12_both_41 ?_
    obtain ⟨c77, h⟩ := h
    refine x_iast C ob399.1 ob399.2 c77 rfl dX12_both_42 ?_
    refine x_mu (fun μ78 e_μ78 => ?_)
    have h := h μ78 e_μ78
    refine x_aload_n C rfl 3 rfl dX12_both_43 ?_
    refine x_iload C 4 rfl dX12_both_44 ?_
    refine x_iconst (v := 0) C (by decide) dX12_both_46 ?_
    obtain ⟨c79, h⟩ := h
    refine x_iast C ob400.1 ob400.2 c79 rfl dX12_both_47 ?_
    refine x_mu (fun μ80 e_μ80 => ?_)
    have h := h μ80 e_μ80
    refine x_iinc (v := (x.1 + 1)) C [(4, .int (x.1 + 1)), (0, .ref 358), (1, .int p1), (2, .ref 399), (3, .ref 400)] 4 rfl (congrArg (fun z => x.1 + z) (by decide : Int32.ofInt (1) = 1)) (Nat.le_of_ble_eq_true rfl) rfl dX12_both_48 ?_
    refine x_goto (tgt := 32) C dX12_both_51 (by decide) ?_
    refine x_sub [(0, .ref 358), (1, .int p1), (2, .ref 399), (3, .ref 400), (4, .int (x.1 + 1))] [1, 2, 3, 4, 0] rfl ?_
    exact hK32 _ _ h
theorem G12_both_L32_ok {p : Program} {e : Env} {s : State} {m : MethodId} {args : Array Value} {below : List Frame} {meth : Method} {c : Code} {l : Launch} {φ : Nat → Nat} {tc : Nat → ClassId} {D : va_G} {s0 : State} {dR : Nat} (C : CX p s m args meth c φ tc D (AX φ) s0 cX12_both RX12 15) (hd : G12_both_dep ≤ dR) (hr : meth.sig.returnType = (some .int))  {p1 : Int32} {Q : Int32 → MM → Prop}  {x : Int32 × MM}    (h : Lp (G12_both_L32 p1 Q) x) : WX p l e (rmX dR) s m args below meth c φ tc D (AX φ) 15 0 0 (MQ below (QX φ tc D (QI Q)) args s 0 0 (AX φ)) 32 [(0, .ref 358), (1, .int p1), (2, .ref 399), (3, .ref 400), (4, .int x.1)] [] x.2 := by
  obtain ⟨n, h⟩ := h
  induction n generalizing x with
  | zero => exact h.elim
  | succ n ih => exact G12_both_L32_b C hd hr   (fun z4 zμ hz => by have q := ih hz; exact q) h
set_option maxHeartbeats 4000000 in
set_option maxRecDepth 100000 in
theorem G12_both_met {l : Launch} {φ : Nat → Nat} {tc : Nat → ClassId} {D : va_G} {s0 : State} (hG : GX φ tc D s0) {dR : Nat} (hd : G12_both_dep ≤ dR) {v1 : Int32} {μ : MM} {Q : Int32 → MM → Prop}  (h : G12_both v1 μ Q) : MX l φ tc D s0 dR yX12_both cX12_both 15 (some .int) [.ref 358, .int v1] μ (QI Q) := by
  refine MX.of (own := RX12) hG plX12 rfl (Nat.le_of_ble_eq_true rfl) (fun p e s m args below meth c C hr => ?_)
  refine x_sub [(0, .ref 358), (1, .int v1)] [0, 1] rfl ?_
  unfold G12_both at h
  refine x_aload_n C rfl 0 rfl dX12_both_0 ?_
  refine x_iconst (v := 0) C (by decide) dX12_both_1 ?_
  refine x_putI C (j := 0) ob358.1 ob358.2 (Nat.le_of_ble_eq_true rfl) (Nat.le_of_ble_eq_true rfl) (Or.inl rfl) rfl rfl rfl tw_8_206 dX12_both_2 ?_
  refine x_mu (fun μ36 e_μ36 => ?_)
  have h := h μ36 e_μ36
  refine x_iload_n C rfl 1 rfl dX12_both_5 ?_
  refine x_i2l C dX12_both_6 ?_
  refine x_lconst (v := 1) C (by decide) dX12_both_7 ?_
  refine x_ldc2 (v := 99) C tw_6_205 dX12_both_8 ?_
  refine x_callS (dC := G12_in_dep) (as := [.long (v1.toInt64), .long 1, .long 99]) (st := []) C rX kX (Nat.le_trans (Nat.le_of_ble_eq_true rfl) hd) (Nat.le_of_ble_eq_true rfl) tw_6_183 tw_6_182 tc_6_184 tw_1_13 hyX12 hnX12_in rfl (Nat.le_of_ble_eq_true rfl) dX12_both_11 (G12_in_met C.2.2.2.2.2.2.2.1 (Nat.le_refl _)  h) (fun r0 μ37 hq => ?_)
  obtain ⟨r38, rfl, h⟩ := hq
  refine x_st [.int r38] rfl ?_
  refine x_if_ne (tgt := 19) C dX12_both_14 (by decide) (fun c39 => ?_) (fun c39 => ?_)
  · have h := h.1 c39
    refine x_aload_n C rfl 0 rfl dX12_both_19 ?_
    refine x_getR (r := 399) C (j := 57) ob358.1 ob358.2 (Nat.le_of_ble_eq_true rfl) (Nat.le_of_ble_eq_true rfl) (fun _ _ _ => rfl) r_358_57 tw_9_23 dX12_both_20 ?_
    refine x_astore_n C [(2, .ref 399), (0, .ref 358), (1, .int v1)] rfl (Nat.le_of_ble_eq_true rfl) rfl dX12_both_23 ?_
    refine x_aload_n C rfl 1 rfl dX12_both_24 ?_
    refine x_getR (r := 400) C (j := 58) ob358.1 ob358.2 (Nat.le_of_ble_eq_true rfl) (Nat.le_of_ble_eq_true rfl) (fun _ _ _ => rfl) r_358_58 tw_9_24 dX12_both_25 ?_
    refine x_astore_n C [(3, .ref 400), (2, .ref 399), (0, .ref 358), (1, .int v1)] rfl (Nat.le_of_ble_eq_true rfl) rfl dX12_both_28 ?_
    refine x_iconst (v := 0) C (by decide) dX12_both_29 ?_
    refine x_istore C [(4, .int 0), (3, .ref 400), (2, .ref 399), (0, .ref 358), (1, .int v1)] (Nat.le_of_ble_eq_true rfl) rfl dX12_both_30 ?_
    refine x_sub [(0, .ref 358), (1, .int v1), (2, .ref 399), (3, .ref 400), (4, .int 0)] [3, 4, 2, 1, 0] rfl ?_
    exact G12_both_L32_ok C hd hr  h
  · have h := h.2 c39
    refine x_iconst (v := (-1)) C (by decide) dX12_both_17 ?_
    exact x_iret C hr dX12_both_18 ⟨_, rfl, h⟩
