set_option maxHeartbeats 4000000 in
set_option maxRecDepth 100000 in
theorem G12_byWhat_met {l : Launch} {φ : Nat → Nat} {tc : Nat → ClassId} {D : va_G} {s0 : State} (hG : GX φ tc D s0) {dR : Nat} (hd : G12_byWhat_dep ≤ dR) {v1 : Int32} {v2 : Int32} {μ : MM} {Q : Int32 → MM → Prop}  (h : G12_byWhat v1 v2 μ Q) : MX l φ tc D s0 dR yX12_byWhat cX12_byWhat 3 (some .int) [.ref 358, .int v1, .int v2] μ (QI Q) := by
  refine MX.of (own := RX12) hG plX12 rfl (Nat.le_of_ble_eq_true rfl) (fun p e s m args below meth c C hr => ?_)
  refine x_sub [(0, .ref 358), (1, .int v1), (2, .int v2)] [0, 1, 2] rfl ?_
  unfold G12_byWhat at h
  refine x_iload_n C rfl 1 rfl dX12_byWhat_0 ?_
  refine x_if_ne (tgt := 13) C dX12_byWhat_1 (by decide) (fun c7 => ?_) (fun c7 => ?_)
  · have h := h.1 c7
    refine x_iload_n C rfl 1 rfl dX12_byWhat_13 ?_
    refine x_iconst (v := 1) C (by decide) dX12_byWhat_14 ?_
    refine x_icmp_ne (tgt := 32) C dX12_byWhat_15 (by decide) (fun c8 => ?_) (fun c8 => ?_)
    · have h := h.1 c8
      refine x_iload_n C rfl 1 rfl dX12_byWhat_32 ?_
      refine x_iconst (v := 2) C (by decide) dX12_byWhat_33 ?_
      refine x_icmp_ne (tgt := 51) C dX12_byWhat_34 (by decide) (fun c9 => ?_) (fun c9 => ?_)
      · have h := h.1 c9
        refine x_aload_n C rfl 0 rfl dX12_byWhat_51 ?_
        refine x_getR (r := 370) C (j := 16) ob358.1 ob358.2 (Nat.le_of_ble_eq_true rfl) (Nat.le_of_ble_eq_true rfl) (fun _ _ _ => rfl) r_358_16 tw_8_222 dX12_byWhat_52 ?_
        refine x_iload_n C rfl 2 rfl dX12_byWhat_55 ?_
        obtain ⟨c10, h⟩ := h
        refine x_iald C ob370.1 ob370.2 c10 rfl dX12_byWhat_56 ?_
        exact x_iret C hr dX12_byWhat_57 ⟨_, rfl, h⟩
      · have h := h.2 c9
        refine x_aload_n C rfl 0 rfl dX12_byWhat_37 ?_
        refine x_getR (r := 365) C (j := 10) ob358.1 ob358.2 (Nat.le_of_ble_eq_true rfl) (Nat.le_of_ble_eq_true rfl) (fun _ _ _ => rfl) r_358_10 tw_8_216 dX12_byWhat_38 ?_
        refine x_aload_n C rfl 0 rfl dX12_byWhat_41 ?_
        refine x_getR (r := 367) C (j := 13) ob358.1 ob358.2 (Nat.le_of_ble_eq_true rfl) (Nat.le_of_ble_eq_true rfl) (fun _ _ _ => rfl) r_358_13 tw_8_219 dX12_byWhat_42 ?_
        refine x_iload_n C rfl 2 rfl dX12_byWhat_45 ?_
        obtain ⟨c11, h⟩ := h
        refine x_iald C ob367.1 ob367.2 c11 rfl dX12_byWhat_46 ?_
        obtain ⟨c12, h⟩ := h
        refine x_iald C ob365.1 ob365.2 c12 rfl dX12_byWhat_47 ?_
        refine x_goto (tgt := 57) C dX12_byWhat_48 (by decide) ?_
        exact x_iret C hr dX12_byWhat_57 ⟨_, rfl, h⟩
    · have h := h.2 c8
      refine x_aload_n C rfl 0 rfl dX12_byWhat_18 ?_
      refine x_getR (r := 364) C (j := 9) ob358.1 ob358.2 (Nat.le_of_ble_eq_true rfl) (Nat.le_of_ble_eq_true rfl) (fun _ _ _ => rfl) r_358_9 tw_8_215 dX12_byWhat_19 ?_
      refine x_aload_n C rfl 0 rfl dX12_byWhat_22 ?_
      refine x_getR (r := 367) C (j := 13) ob358.1 ob358.2 (Nat.le_of_ble_eq_true rfl) (Nat.le_of_ble_eq_true rfl) (fun _ _ _ => rfl) r_358_13 tw_8_219 dX12_byWhat_23 ?_
      refine x_iload_n C rfl 2 rfl dX12_byWhat_26 ?_
      obtain ⟨c13, h⟩ := h
      refine x_iald C ob367.1 ob367.2 c13 rfl dX12_byWhat_27 ?_
      obtain ⟨c14, h⟩ := h
      refine x_iald C ob364.1 ob364.2 c14 rfl dX12_byWhat_28 ?_
      refine x_goto (tgt := 57) C dX12_byWhat_29 (by decide) ?_
      exact x_iret C hr dX12_byWhat_57 ⟨_, rfl, h⟩
  · have h := h.2 c7
    refine x_aload_n C rfl 0 rfl dX12_byWhat_4 ?_
    refine x_getR (r := 371) C (j := 17) ob358.1 ob358.2 (Nat.le_of_ble_eq_true rfl) (Nat.le_of_ble_eq_true rfl) (fun _ _ _ => rfl) r_358_17 tw_8_223 dX12_byWhat_5 ?_
    refine x_iload_n C rfl 2 rfl dX12_byWhat_8 ?_
    obtain ⟨c15, h⟩ := h
    refine x_iald C ob371.1 ob371.2 c15 rfl dX12_byWhat_9 ?_
    refine x_goto (tgt := 57) C dX12_byWhat_10 (by decide) ?_
    exact x_iret C hr dX12_byWhat_57 ⟨_, rfl, h⟩
set_option maxHeartbeats 4000000 in
set_option maxRecDepth 100000 in
theorem G12_countsBy_L29_b {p : Program} {e : Env} {s : State} {m : MethodId} {args : Array Value} {below : List Frame} {meth : Method} {c : Code} {l : Launch} {φ : Nat → Nat} {tc : Nat → ClassId} {D : va_G} {s0 : State} {dR : Nat} (C : CX p s m args meth c φ tc D (AX φ) s0 cX12_countsBy RX12 4) (hd : G12_countsBy_dep ≤ dR) (hr : meth.sig.returnType = none)  {p1 : Int32} {p2 : Int32} {Q : MM → Prop} {K29 : Int32 × MM → Prop} {x : Int32 × MM}   (hK29 : ∀ (z3 : Int32) (zμ : MM), K29 (z3, zμ) → WX p l e (rmX dR) s m args below meth c φ tc D (AX φ) 4 0 0 (MQ below (QX φ tc D (QV Q)) args s 0 0 (AX φ)) 29 [(0, .ref 358), (1, .int p1), (2, .int p2), (3, .int z3)] [] zμ) (h : G12_countsBy_L29 p1 p2 Q K29 x) : WX p l e (rmX dR) s m args below meth c φ tc D (AX φ) 4 0 0 (MQ below (QX φ tc D (QV Q)) args s 0 0 (AX φ)) 29 [(0, .ref 358), (1, .int p1), (2, .int p2), (3, .int x.1)] [] x.2 := by
  unfold G12_countsBy_L29 at h
  refine x_iload_n C rfl 3 rfl dX12_countsBy_29 ?_
  refine x_aload_n C rfl 0 rfl dX12_countsBy_30 ?_
  refine x_getI C (j := 12) ob358.1 ob358.2 (Nat.le_of_ble_eq_true rfl) (Nat.le_of_ble_eq_true rfl) (Or.inl rfl) tw_8_218 dX12_countsBy_31 ?_
  refine x_icmp_ge (tgt := 98) C dX12_countsBy_34 (by decide) (fun c22 => ?_) (fun c22 => ?_)
  · have h := h.1 c22
    exact x_vret C hr dX12_countsBy_98 ⟨rfl, h⟩
  · have h := h.2 c22
    refine x_aload_n C rfl 0 rfl dX12_countsBy_37 ?_
    refine x_getR (r := 373) C (j := 19) ob358.1 ob358.2 (Nat.le_of_ble_eq_true rfl) (Nat.le_of_ble_eq_true rfl) (fun _ _ _ => rfl) r_358_19 tw_8_225 dX12_countsBy_38 ?_
    refine x_iload_n C rfl 3 rfl dX12_countsBy_41 ?_
    obtain ⟨c23, h⟩ := h
    refine x_zald C ob373.1 ob373.2 c23 rfl dX12_countsBy_42 ?_
    refine x_if_eq (tgt := 92) C dX12_countsBy_43 (by decide) (fun c24 => ?_) (fun c24 => ?_)
    · have h := h.1 c24
      refine x_iinc (v := (x.1 + 1)) C [(3, .int (x.1 + 1)), (0, .ref 358), (1, .int p1), (2, .int p2)] 3 rfl (congrArg (fun z => x.1 + z) (by decide : Int32.ofInt (1) = 1)) (Nat.le_of_ble_eq_true rfl) rfl dX12_countsBy_92 ?_
      refine x_goto (tgt := 29) C dX12_countsBy_95 (by decide) ?_
      refine x_sub [(0, .ref 358), (1, .int p1), (2, .int p2), (3, .int (x.1 + 1))] [1, 2, 3, 0] rfl ?_
      exact hK29 _ _ h
    · have h := h.2 c24
      refine x_aload_n C rfl 0 rfl dX12_countsBy_46 ?_
      refine x_iload_n C rfl 1 rfl dX12_countsBy_47 ?_
      refine x_iload_n C rfl 3 rfl dX12_countsBy_48 ?_
      refine x_callV (dC := G12_byWhat_dep) (as := [.int p1, .int x.1]) (st := []) C rX kX (Nat.le_trans (Nat.le_of_ble_eq_true rfl) hd) (Nat.le_of_ble_eq_true rfl) ob358.1 ob358.2 (Nat.le_of_ble_eq_true rfl) rfl ts_10_14 tw_8_86 tw_8_84 tc_8_87 tw_1_13 hyX12 hnX12_byWhat rfl (Nat.le_of_ble_eq_true rfl) dX12_countsBy_49 (G12_byWhat_met C.2.2.2.2.2.2.2.1 (Nat.le_refl _)  h) (fun r0 μ25 hq => ?_)
      obtain ⟨r26, rfl, h⟩ := hq
      refine x_st [.int r26] rfl ?_
      refine x_iload_n C rfl 2 rfl dX12_countsBy_52 ?_
      refine x_icmp_ne (tgt := 92) C dX12_countsBy_53 (by decide) (fun c27 => ?_) (fun c27 => ?_)
      · have h := h.1 c27
        refine x_iinc (v := (x.1 + 1)) C [(3, .int (x.1 + 1)), (0, .ref 358), (1, .int p1), (2, .int p2)] 3 rfl (congrArg (fun z => x.1 + z) (by decide : Int32.ofInt (1) = 1)) (Nat.le_of_ble_eq_true rfl) rfl dX12_countsBy_92 ?_
        refine x_goto (tgt := 29) C dX12_countsBy_95 (by decide) ?_
        refine x_sub [(0, .ref 358), (1, .int p1), (2, .int p2), (3, .int (x.1 + 1))] [1, 2, 3, 0] rfl ?_
        exact hK29 _ _ h
      · have h := h.2 c27
        refine x_aload_n C rfl 0 rfl dX12_countsBy_56 ?_
        refine x_getR (r := 381) C (j := 36) ob358.1 ob358.2 (Nat.le_of_ble_eq_true rfl) (Nat.le_of_ble_eq_true rfl) (fun _ _ _ => rfl) r_358_36 tw_9_2 dX12_countsBy_57 ?_
        refine x_aload_n C rfl 0 rfl dX12_countsBy_60 ?_
        refine x_iload_n C rfl 3 rfl dX12_countsBy_61 ?_
        refine x_callV (dC := G12_peopleOf_dep) (as := [.int x.1]) (st := [.ref 381]) C rX kX (Nat.le_trans (Nat.le_of_ble_eq_true rfl) hd) (Nat.le_of_ble_eq_true rfl) ob358.1 ob358.2 (Nat.le_of_ble_eq_true rfl) rfl ts_9_15 tw_7_150 tw_7_148 tc_7_151 tw_1_13 hyX12 hnX12_peopleOf rfl (Nat.le_of_ble_eq_true rfl) dX12_countsBy_62 (G12_peopleOf_met C.2.2.2.2.2.2.2.1 (Nat.le_refl _)  h) (fun r0 μ28 hq => ?_)
        obtain ⟨r29, rfl, h⟩ := hq
        refine x_st [.int r29, .ref 381] rfl ?_
        refine x_dup2_11 C rfl rfl dX12_countsBy_65 ?_
        obtain ⟨c30, h⟩ := h
        refine x_iald C ob381.1 ob381.2 c30 rfl dX12_countsBy_66 ?_
        refine x_iconst (v := 1) C (by decide) dX12_countsBy_67 ?_
        refine x_iadd C dX12_countsBy_68 ?_
        obtain ⟨c31, h⟩ := h
        refine x_iast C ob381.1 ob381.2 c31 rfl dX12_countsBy_69 ?_
        refine x_mu (fun μ32 e_μ32 => ?_)
        have h := h μ32 e_μ32
        refine x_aload_n C rfl 0 rfl dX12_countsBy_70 ?_
        refine x_getR (r := 382) C (j := 37) ob358.1 ob358.2 (Nat.le_of_ble_eq_true rfl) (Nat.le_of_ble_eq_true rfl) (fun _ _ _ => rfl) r_358_37 tw_9_3 dX12_countsBy_71 ?_
        refine x_aload_n C rfl 0 rfl dX12_countsBy_74 ?_
        refine x_iload_n C rfl 3 rfl dX12_countsBy_75 ?_
        refine x_callV (dC := G12_peopleOf_dep) (as := [.int x.1]) (st := [.ref 382]) C rX kX (Nat.le_trans (Nat.le_of_ble_eq_true rfl) hd) (Nat.le_of_ble_eq_true rfl) ob358.1 ob358.2 (Nat.le_of_ble_eq_true rfl) rfl ts_9_15 tw_7_150 tw_7_148 tc_7_151 tw_1_13 hyX12 hnX12_peopleOf rfl (Nat.le_of_ble_eq_true rfl) dX12_countsBy_76 (G12_peopleOf_met C.2.2.2.2.2.2.2.1 (Nat.le_refl _)  h) (fun r0 μ33 hq => ?_)
        obtain ⟨r34, rfl, h⟩ := hq
        refine x_st [.int r34, .ref 382] rfl ?_
        refine x_dup2_11 C rfl rfl dX12_countsBy_79 ?_
        obtain ⟨c35, h⟩ := h
        refine x_iald C ob382.1 ob382.2 c35 rfl dX12_countsBy_80 ?_
        refine x_aload_n C rfl 0 rfl dX12_countsBy_81 ?_
        refine x_getR (r := 374) C (j := 20) ob358.1 ob358.2 (Nat.le_of_ble_eq_true rfl) (Nat.le_of_ble_eq_true rfl) (fun _ _ _ => rfl) r_358_20 tw_8_226 dX12_countsBy_82 ?_
        refine x_iload_n C rfl 3 rfl dX12_countsBy_85 ?_
        obtain ⟨c36, h⟩ := h
        refine x_zald C ob374.1 ob374.2 c36 rfl dX12_countsBy_86 ?_
        refine x_callS (dC := G12_flag_dep) (as := [.int (gI μ33 374 x.1.toNatClampNeg)]) (st := [.int (gI μ33 382 r34.toNatClampNeg), .int r34, .ref 382]) C rX kX (Nat.le_trans (Nat.le_of_ble_eq_true rfl) hd) (Nat.le_of_ble_eq_true rfl) tw_6_212 tw_6_211 tc_6_213 tw_1_13 hyX12 hnX12_flag rfl (Nat.le_of_ble_eq_true rfl) dX12_countsBy_87 (G12_flag_met C.2.2.2.2.2.2.2.1 (Nat.le_refl _)  h) (fun r0 μ37 hq => ?_)
        obtain ⟨r38, rfl, h⟩ := hq
        refine x_st [.int r38, .int (gI μ33 382 r34.toNatClampNeg), .int r34, .ref 382] rfl ?_
        refine x_iadd C dX12_countsBy_90 ?_
        obtain ⟨c39, h⟩ := h
        refine x_iast C ob382.1 ob382.2 c39 rfl dX12_countsBy_91 ?_
        refine x_mu (fun μ40 e_μ40 => ?_)
        have h := h μ40 e_μ40
        refine x_iinc (v := (x.1 + 1)) C [(3, .int (x.1 + 1)), (0, .ref 358), (1, .int p1), (2, .int p2)] 3 rfl (congrArg (fun z => x.1 + z) (by decide : Int32.ofInt (1) = 1)) (Nat.le_of_ble_eq_true rfl) rfl dX12_countsBy_92 ?_
        refine x_goto (tgt := 29) C dX12_countsBy_95 (by decide) ?_
        refine x_sub [(0, .ref 358), (1, .int p1), (2, .int p2), (3, .int (x.1 + 1))] [1, 2, 3, 0] rfl ?_
        exact hK29 _ _ h
theorem G12_countsBy_L29_ok {p : Program} {e : Env} {s : State} {m : MethodId} {args : Array Value} {below : List Frame} {meth : Method} {c : Code} {l : Launch} {φ : Nat → Nat} {tc : Nat → ClassId} {D : va_G} {s0 : State} {dR : Nat} (C : CX p s m args meth c φ tc D (AX φ) s0 cX12_countsBy RX12 4) (hd : G12_countsBy_dep ≤ dR) (hr : meth.sig.returnType = none)  {p1 : Int32} {p2 : Int32} {Q : MM → Prop}  {x : Int32 × MM}    (h : Lp (G12_countsBy_L29 p1 p2 Q) x) : WX p l e (rmX dR) s m args below meth c φ tc D (AX φ) 4 0 0 (MQ below (QX φ tc D (QV Q)) args s 0 0 (AX φ)) 29 [(0, .ref 358), (1, .int p1), (2, .int p2), (3, .int x.1)] [] x.2 := by
  obtain ⟨n, h⟩ := h
  induction n generalizing x with
  | zero => exact h.elim
  | succ n ih => exact G12_countsBy_L29_b C hd hr   (fun z3 zμ hz => by have q := ih hz; exact q) h
set_option maxHeartbeats 4000000 in
set_option maxRecDepth 100000 in
theorem G12_countsBy_L2_b {p : Program} {e : Env} {s : State} {m : MethodId} {args : Array Value} {below : List Frame} {meth : Method} {c : Code} {l : Launch} {φ : Nat → Nat} {tc : Nat → ClassId} {D : va_G} {s0 : State} {dR : Nat} (C : CX p s m args meth c φ tc D (AX φ) s0 cX12_countsBy RX12 4) (hd : G12_countsBy_dep ≤ dR) (hr : meth.sig.returnType = none)  {p1 : Int32} {p2 : Int32} {Q : MM → Prop} {K2 : Int32 × MM → Prop} {x : Int32 × MM}   (hK2 : ∀ (z3 : Int32) (zμ : MM), K2 (z3, zμ) → WX p l e (rmX dR) s m args below meth c φ tc D (AX φ) 4 0 0 (MQ below (QX φ tc D (QV Q)) args s 0 0 (AX φ)) 2 [(0, .ref 358), (1, .int p1), (2, .int p2), (3, .int z3)] [] zμ) (h : G12_countsBy_L2 p1 p2 Q K2 x) : WX p l e (rmX dR) s m args below meth c φ tc D (AX φ) 4 0 0 (MQ below (QX φ tc D (QV Q)) args s 0 0 (AX φ)) 2 [(0, .ref 358), (1, .int p1), (2, .int p2), (3, .int x.1)] [] x.2 := by
  unfold G12_countsBy_L2 at h
  refine x_iload_n C rfl 3 rfl dX12_countsBy_2 ?_
  refine x_iconst (v := 2) C (by decide) dX12_countsBy_3 ?_
  refine x_icmp_ge (tgt := 27) C dX12_countsBy_4 (by decide) (fun c21 => ?_) (fun c21 => ?_)
  · have h := h.1 c21
    refine x_iconst (v := 0) C (by decide) dX12_countsBy_27 ?_
    refine x_istore_n C [(3, .int 0), (0, .ref 358), (1, .int p1), (2, .int p2)] rfl (Nat.le_of_ble_eq_true rfl) rfl dX12_countsBy_28 ?_
    refine x_sub [(0, .ref 358), (1, .int p1), (2, .int p2), (3, .int 0)] [1, 2, 3, 0] rfl ?_
    exact G12_countsBy_L29_ok C hd hr  h
  · have h := h.2 c21
    refine x_aload_n C rfl 0 rfl dX12_countsBy_7 ?_
    refine x_getR (r := 381) C (j := 36) ob358.1 ob358.2 (Nat.le_of_ble_eq_true rfl) (Nat.le_of_ble_eq_true rfl) (fun _ _ _ => rfl) r_358_36 tw_9_2 dX12_countsBy_8 ?_
    refine x_iload_n C rfl 3 rfl dX12_countsBy_11 ?_
    refine x_iconst (v := 0) C (by decide) dX12_countsBy_12 ?_
    obtain ⟨c41, h⟩ := h
    refine x_iast C ob381.1 ob381.2 c41 rfl dX12_countsBy_13 ?_
    refine x_mu (fun μ42 e_μ42 => ?_)
    have h := h μ42 e_μ42
    refine x_aload_n C rfl 0 rfl dX12_countsBy_14 ?_
    refine x_getR (r := 382) C (j := 37) ob358.1 ob358.2 (Nat.le_of_ble_eq_true rfl) (Nat.le_of_ble_eq_true rfl) (fun _ _ _ => rfl) r_358_37 tw_9_3 dX12_countsBy_15 ?_
    refine x_iload_n C rfl 3 rfl dX12_countsBy_18 ?_
    refine x_iconst (v := 0) C (by decide) dX12_countsBy_19 ?_
    obtain ⟨c43, h⟩ := h
    refine x_iast C ob382.1 ob382.2 c43 rfl dX12_countsBy_20 ?_
    refine x_mu (fun μ44 e_μ44 => ?_)
    have h := h μ44 e_μ44
    refine x_iinc (v := (x.1 + 1)) C [(3, .int (x.1 + 1)), (0, .ref 358), (1, .int p1), (2, .int p2)] 3 rfl (congrArg (fun z => x.1 + z) (by decide : Int32.ofInt (1) = 1)) (Nat.le_of_ble_eq_true rfl) rfl dX12_countsBy_21 ?_
    refine x_goto (tgt := 2) C dX12_countsBy_24 (by decide) ?_
    refine x_sub [(0, .ref 358), (1, .int p1), (2, .int p2), (3, .int (x.1 + 1))] [1, 2, 3, 0] rfl ?_
    exact hK2 _ _ h
theorem G12_countsBy_L2_ok {p : Program} {e : Env} {s : State} {m : MethodId} {args : Array Value} {below : List Frame} {meth : Method} {c : Code} {l : Launch} {φ : Nat → Nat} {tc : Nat → ClassId} {D : va_G} {s0 : State} {dR : Nat} (C : CX p s m args meth c φ tc D (AX φ) s0 cX12_countsBy RX12 4) (hd : G12_countsBy_dep ≤ dR) (hr : meth.sig.returnType = none)  {p1 : Int32} {p2 : Int32} {Q : MM → Prop}  {x : Int32 × MM}    (h : Lp (G12_countsBy_L2 p1 p2 Q) x) : WX p l e (rmX dR) s m args below meth c φ tc D (AX φ) 4 0 0 (MQ below (QX φ tc D (QV Q)) args s 0 0 (AX φ)) 2 [(0, .ref 358), (1, .int p1), (2, .int p2), (3, .int x.1)] [] x.2 := by
  obtain ⟨n, h⟩ := h
  induction n generalizing x with
  | zero => exact h.elim
  | succ n ih => exact G12_countsBy_L2_b C hd hr   (fun z3 zμ hz => by have q := ih hz; exact q) h
set_option maxHeartbeats 4000000 in
set_option maxRecDepth 100000 in
theorem G12_countsBy_met {l : Launch} {φ : Nat → Nat} {tc : Nat → ClassId} {D : va_G} {s0 : State} (hG : GX φ tc D s0) {dR : Nat} (hd : G12_countsBy_dep ≤ dR) {v1 : Int32} {v2 : Int32} {μ : MM} {Q : MM → Prop}  (h : G12_countsBy v1 v2 μ Q) : MX l φ tc D s0 dR yX12_countsBy cX12_countsBy 4 none [.ref 358, .int v1, .int v2] μ (QV Q) := by
  refine MX.of (own := RX12) hG plX12 rfl (Nat.le_of_ble_eq_true rfl) (fun p e s m args below meth c C hr => ?_)
  refine x_sub [(0, .ref 358), (1, .int v1), (2, .int v2)] [0, 1, 2] rfl ?_
  unfold G12_countsBy at h
  refine x_iconst (v := 0) C (by decide) dX12_countsBy_0 ?_
  refine x_istore_n C [(3, .int 0), (0, .ref 358), (1, .int v1), (2, .int v2)] rfl (Nat.le_of_ble_eq_true rfl) rfl dX12_countsBy_1 ?_
  refine x_sub [(0, .ref 358), (1, .int v1), (2, .int v2), (3, .int 0)] [1, 2, 3, 0] rfl ?_
  exact G12_countsBy_L2_ok C hd hr  h
set_option maxHeartbeats 4000000 in
set_option maxRecDepth 100000 in
theorem G12_sums_met {l : Launch} {φ : Nat → Nat} {tc : Nat → ClassId} {D : va_G} {s0 : State} (hG : GX φ tc D s0) {dR : Nat} (hd : G12_sums_dep ≤ dR) {v1 : Int64} {v3 : Int64} {μ : MM} {Q : MM → Prop}  (h : G12_sums v1 v3 μ Q) : MX l φ tc D s0 dR yX12_sums cX12_sums 13 none [.ref 358, .long v1, .long v3] μ (QV Q) := by
  refine MX.of (own := RX12) hG plX12 rfl (Nat.le_of_ble_eq_true rfl) (fun p e s m args below meth c C hr => ?_)
  refine x_sub [(0, .ref 358), (1, .long v1), (3, .long v3)] [0, 1, 2] rfl ?_
  unfold G12_sums at h
  refine x_aload_n C rfl 0 rfl dX12_sums_0 ?_
  refine x_getJ C (j := 60) ob358.1 ob358.2 (Nat.le_of_ble_eq_true rfl) (Nat.le_of_ble_eq_true rfl) rfl tw_9_26 dX12_sums_1 ?_
  refine x_lload_n C rfl 2 rfl dX12_sums_4 ?_
  refine x_callS (dC := G12_common_dep) (as := [.long (gJ μ 358 60), .long v3]) (st := []) C rX kX (Nat.le_trans (Nat.le_of_ble_eq_true rfl) hd) (Nat.le_of_ble_eq_true rfl) tw_7_157 tw_7_156 tc_7_158 tw_1_13 hyX12 hnX12_common rfl (Nat.le_of_ble_eq_true rfl) dX12_sums_5 (G12_common_met C.2.2.2.2.2.2.2.1 (Nat.le_refl _)  h) (fun r0 μ14 hq => ?_)
  obtain ⟨r15, rfl, h⟩ := hq
  refine x_st [.long r15] rfl ?_
  refine x_lstore C [(5, .long r15), (0, .ref 358), (1, .long v1), (3, .long v3)] (Nat.le_of_ble_eq_true rfl) rfl dX12_sums_8 ?_
  refine x_aload_n C rfl 1 rfl dX12_sums_10 ?_
  refine x_getJ C (j := 59) ob358.1 ob358.2 (Nat.le_of_ble_eq_true rfl) (Nat.le_of_ble_eq_true rfl) rfl tw_9_25 dX12_sums_11 ?_
  refine x_lload_n C rfl 3 rfl dX12_sums_14 ?_
  refine x_lload C 0 rfl dX12_sums_15 ?_
  obtain ⟨c16, h⟩ := h
  refine x_ldiv C c16 dX12_sums_17 ?_
  refine x_lmul C dX12_sums_18 ?_
  refine x_lload_n C rfl 2 rfl dX12_sums_19 ?_
  refine x_aload_n C rfl 1 rfl dX12_sums_20 ?_
  refine x_getJ C (j := 60) ob358.1 ob358.2 (Nat.le_of_ble_eq_true rfl) (Nat.le_of_ble_eq_true rfl) rfl tw_9_26 dX12_sums_21 ?_
  refine x_lload C 0 rfl dX12_sums_24 ?_
  obtain ⟨c17, h⟩ := h
  refine x_ldiv C c17 dX12_sums_26 ?_
  refine x_lmul C dX12_sums_27 ?_
  refine x_ladd C dX12_sums_28 ?_
  refine x_topl (fun y18 e_y18 => ?_)
  have h := h y18 e_y18
  refine x_lstore C [(7, .long y18), (5, .long r15), (0, .ref 358), (1, .long v1), (3, .long v3)] (Nat.le_of_ble_eq_true rfl) rfl dX12_sums_29 ?_
  refine x_aload_n C rfl 2 rfl dX12_sums_31 ?_
  refine x_getJ C (j := 60) ob358.1 ob358.2 (Nat.le_of_ble_eq_true rfl) (Nat.le_of_ble_eq_true rfl) rfl tw_9_26 dX12_sums_32 ?_
  refine x_lload C 1 rfl dX12_sums_35 ?_
  obtain ⟨c19, h⟩ := h
  refine x_ldiv C c19 dX12_sums_37 ?_
  refine x_lload_n C rfl 4 rfl dX12_sums_38 ?_
  refine x_lmul C dX12_sums_39 ?_
  refine x_topl (fun y20 e_y20 => ?_)
  have h := h y20 e_y20
  refine x_lstore C [(9, .long y20), (7, .long y18), (5, .long r15), (0, .ref 358), (1, .long v1), (3, .long v3)] (Nat.le_of_ble_eq_true rfl) rfl dX12_sums_40 ?_
  refine x_lload C 1 rfl dX12_sums_42 ?_
  refine x_lload C 0 rfl dX12_sums_44 ?_
  refine x_callS (dC := G12_common_dep) (as := [.long y18, .long y20]) (st := []) C rX kX (Nat.le_trans (Nat.le_of_ble_eq_true rfl) hd) (Nat.le_of_ble_eq_true rfl) tw_7_157 tw_7_156 tc_7_158 tw_1_13 hyX12 hnX12_common rfl (Nat.le_of_ble_eq_true rfl) dX12_sums_46 (G12_common_met C.2.2.2.2.2.2.2.1 (Nat.le_refl _)  h) (fun r0 μ21 hq => ?_)
  obtain ⟨r22, rfl, h⟩ := hq
  refine x_st [.long r22] rfl ?_
  refine x_lstore C [(11, .long r22), (9, .long y20), (7, .long y18), (5, .long r15), (0, .ref 358), (1, .long v1), (3, .long v3)] (Nat.le_of_ble_eq_true rfl) rfl dX12_sums_49 ?_
  refine x_aload_n C rfl 4 rfl dX12_sums_51 ?_
  refine x_lload C 2 rfl dX12_sums_52 ?_
  refine x_lload C 0 rfl dX12_sums_54 ?_
  obtain ⟨c23, h⟩ := h
  refine x_ldiv C c23 dX12_sums_56 ?_
  refine x_putJ C (j := 59) ob358.1 ob358.2 (Nat.le_of_ble_eq_true rfl) (Nat.le_of_ble_eq_true rfl) rfl rfl rfl rfl tw_9_25 dX12_sums_57 ?_
  refine x_mu (fun μ24 e_μ24 => ?_)
  have h := h μ24 e_μ24
  refine x_aload_n C rfl 4 rfl dX12_sums_60 ?_
  refine x_lload C 1 rfl dX12_sums_61 ?_
  refine x_lload C 0 rfl dX12_sums_63 ?_
  obtain ⟨c25, h⟩ := h
  refine x_ldiv C c25 dX12_sums_65 ?_
  refine x_putJ C (j := 60) ob358.1 ob358.2 (Nat.le_of_ble_eq_true rfl) (Nat.le_of_ble_eq_true rfl) rfl rfl rfl rfl tw_9_26 dX12_sums_66 ?_
  refine x_mu (fun μ26 e_μ26 => ?_)
  have h := h μ26 e_μ26
  exact x_vret C hr dX12_sums_69 ⟨rfl, h⟩
set_option maxHeartbeats 4000000 in
set_option maxRecDepth 100000 in
theorem G12_explains_L33_b {p : Program} {e : Env} {s : State} {m : MethodId} {args : Array Value} {below : List Frame} {meth : Method} {c : Code} {l : Launch} {φ : Nat → Nat} {tc : Nat → ClassId} {D : va_G} {s0 : State} {dR : Nat} (C : CX p s m args meth c φ tc D (AX φ) s0 cX12_explains RX12 9) (hd : G12_explains_dep ≤ dR) (hr : meth.sig.returnType = (some .int))  {p1 : Int32} {Q : Int32 → MM → Prop} {K33 : Int32 × Int32 × MM → Prop} {x : Int32 × Int32 × MM}   (hK33 : ∀ (z2 : Int32) (z3 : Int32) (zμ : MM), K33 (z2, z3, zμ) → WX p l e (rmX dR) s m args below meth c φ tc D (AX φ) 9 0 0 (MQ below (QX φ tc D (QI Q)) args s 0 0 (AX φ)) 33 [(0, .ref 358), (1, .int p1), (2, .int z2), (3, .int z3)] [] zμ) (h : G12_explains_L33 p1 Q K33 x) : WX p l e (rmX dR) s m args below meth c φ tc D (AX φ) 9 0 0 (MQ below (QX φ tc D (QI Q)) args s 0 0 (AX φ)) 33 [(0, .ref 358), (1, .int p1), (2, .int x.1), (3, .int x.2.1)] [] x.2.2 := by
  unfold G12_explains_L33 at h
  refine x_iload_n C rfl 3 rfl dX12_explains_33 ?_
  refine x_bipush (v := 10) C (by decide) dX12_explains_34 ?_
  refine x_icmp_ge (tgt := 136) C dX12_explains_36 (by decide) (fun c32 => ?_) (fun c32 => ?_)
  · have h := h.1 c32
    refine x_iload_n C rfl 2 rfl dX12_explains_136 ?_
    refine x_if_ne (tgt := 143) C dX12_explains_137 (by decide) (fun c33 => ?_) (fun c33 => ?_)
    · have h := h.1 c33
      refine x_aload_n C rfl 0 rfl dX12_explains_143 ?_
      refine x_getJ C (j := 59) ob358.1 ob358.2 (Nat.le_of_ble_eq_true rfl) (Nat.le_of_ble_eq_true rfl) rfl tw_9_25 dX12_explains_144 ?_
      refine x_aload_n C rfl 0 rfl dX12_explains_147 ?_
      refine x_getJ C (j := 60) ob358.1 ob358.2 (Nat.le_of_ble_eq_true rfl) (Nat.le_of_ble_eq_true rfl) rfl tw_9_26 dX12_explains_148 ?_
      refine x_iload_n C rfl 2 rfl dX12_explains_151 ?_
      refine x_i2l C dX12_explains_152 ?_
      refine x_lmul C dX12_explains_153 ?_
      refine x_callS (dC := G12_common_dep) (as := [.long (gJ x.2.2 358 59), .long ((gJ x.2.2 358 60) * (x.1.toInt64))]) (st := []) C rX kX (Nat.le_trans (Nat.le_of_ble_eq_true rfl) hd) (Nat.le_of_ble_eq_true rfl) tw_7_157 tw_7_156 tc_7_158 tw_1_13 hyX12 hnX12_common rfl (Nat.le_of_ble_eq_true rfl) dX12_explains_154 (G12_common_met C.2.2.2.2.2.2.2.1 (Nat.le_refl _)  h) (fun r0 μ34 hq => ?_)
      obtain ⟨r35, rfl, h⟩ := hq
      refine x_st [.long r35] rfl ?_
      refine x_lstore_n C [(3, .long r35), (0, .ref 358), (1, .int p1), (2, .int x.1)] rfl (Nat.le_of_ble_eq_true rfl) rfl dX12_explains_157 ?_
      refine x_aload_n C rfl 1 rfl dX12_explains_158 ?_
      refine x_getJ C (j := 59) ob358.1 ob358.2 (Nat.le_of_ble_eq_true rfl) (Nat.le_of_ble_eq_true rfl) rfl tw_9_25 dX12_explains_159 ?_
      refine x_lload_n C rfl 0 rfl dX12_explains_162 ?_
      obtain ⟨c36, h⟩ := h
      refine x_ldiv C c36 dX12_explains_163 ?_
      refine x_topl (fun y37 e_y37 => ?_)
      have h := h y37 e_y37
      refine x_lstore C [(5, .long y37), (3, .long r35), (0, .ref 358), (1, .int p1), (2, .int x.1)] (Nat.le_of_ble_eq_true rfl) rfl dX12_explains_164 ?_
      refine x_aload_n C rfl 2 rfl dX12_explains_166 ?_
      refine x_getJ C (j := 60) ob358.1 ob358.2 (Nat.le_of_ble_eq_true rfl) (Nat.le_of_ble_eq_true rfl) rfl tw_9_26 dX12_explains_167 ?_
      refine x_iload_n C rfl 4 rfl dX12_explains_170 ?_
      refine x_i2l C dX12_explains_171 ?_
      refine x_lmul C dX12_explains_172 ?_
      refine x_lload_n C rfl 1 rfl dX12_explains_173 ?_
      obtain ⟨c38, h⟩ := h
      refine x_ldiv C c38 dX12_explains_174 ?_
      refine x_topl (fun y39 e_y39 => ?_)
      have h := h y39 e_y39
      refine x_lstore C [(7, .long y39), (5, .long y37), (3, .long r35), (0, .ref 358), (1, .int p1), (2, .int x.1)] (Nat.le_of_ble_eq_true rfl) rfl dX12_explains_175 ?_
      refine x_aload_n C rfl 3 rfl dX12_explains_177 ?_
      refine x_iconst (v := (-1)) C (by decide) dX12_explains_178 ?_
      refine x_iconst (v := (-1)) C (by decide) dX12_explains_179 ?_
      refine x_callV (dC := G12_counts_dep) (as := [.int (-1), .int (-1)]) (st := []) C rX kX (Nat.le_trans (Nat.le_of_ble_eq_true rfl) hd) (Nat.le_of_ble_eq_true rfl) ob358.1 ob358.2 (Nat.le_of_ble_eq_true rfl) rfl ts_9_13 tw_7_142 tw_7_140 tc_7_143 tw_1_13 hyX12 hnX12_counts rfl (Nat.le_of_ble_eq_true rfl) dX12_explains_180 (G12_counts_met C.2.2.2.2.2.2.2.1 (Nat.le_refl _)  h) (fun r0 μ40 hq => ?_)
      obtain ⟨rfl, h⟩ := hq
      refine x_st [] rfl ?_
      refine x_aload_n C rfl 3 rfl dX12_explains_183 ?_
      refine x_aload_n C rfl 3 rfl dX12_explains_184 ?_
      refine x_getR (r := 382) C (j := 37) ob358.1 ob358.2 (Nat.le_of_ble_eq_true rfl) (Nat.le_of_ble_eq_true rfl) (fun _ _ _ => rfl) r_358_37 tw_9_3 dX12_explains_185 ?_
      refine x_iconst (v := 0) C (by decide) dX12_explains_188 ?_
      refine x_iald C ob382.1 ob382.2 (by unfold vp_in; decide) (j := 0) (by decide) dX12_explains_189 ?_
      refine x_aload_n C rfl 3 rfl dX12_explains_190 ?_
      refine x_getR (r := 381) C (j := 36) ob358.1 ob358.2 (Nat.le_of_ble_eq_true rfl) (Nat.le_of_ble_eq_true rfl) (fun _ _ _ => rfl) r_358_36 tw_9_2 dX12_explains_191 ?_
      refine x_iconst (v := 1) C (by decide) dX12_explains_194 ?_
      refine x_iald C ob381.1 ob381.2 (by unfold vp_in; decide) (j := 1) (by decide) dX12_explains_195 ?_
      refine x_imul C dX12_explains_196 ?_
      refine x_aload_n C rfl 3 rfl dX12_explains_197 ?_
      refine x_getR (r := 382) C (j := 37) ob358.1 ob358.2 (Nat.le_of_ble_eq_true rfl) (Nat.le_of_ble_eq_true rfl) (fun _ _ _ => rfl) r_358_37 tw_9_3 dX12_explains_198 ?_
      refine x_iconst (v := 1) C (by decide) dX12_explains_201 ?_
      refine x_iald C ob382.1 ob382.2 (by unfold vp_in; decide) (j := 1) (by decide) dX12_explains_202 ?_
      refine x_aload_n C rfl 3 rfl dX12_explains_203 ?_
      refine x_getR (r := 381) C (j := 36) ob358.1 ob358.2 (Nat.le_of_ble_eq_true rfl) (Nat.le_of_ble_eq_true rfl) (fun _ _ _ => rfl) r_358_36 tw_9_2 dX12_explains_204 ?_
      refine x_iconst (v := 0) C (by decide) dX12_explains_207 ?_
      refine x_iald C ob381.1 ob381.2 (by unfold vp_in; decide) (j := 0) (by decide) dX12_explains_208 ?_
      refine x_imul C dX12_explains_209 ?_
      refine x_isub C dX12_explains_210 ?_
      refine x_i2l C dX12_explains_211 ?_
      refine x_putJ C (j := 59) ob358.1 ob358.2 (Nat.le_of_ble_eq_true rfl) (Nat.le_of_ble_eq_true rfl) rfl rfl rfl rfl tw_9_25 dX12_explains_212 ?_
      refine x_mu (fun μ41 e_μ41 => ?_)
      have h := h μ41 e_μ41
      refine x_aload_n C rfl 3 rfl dX12_explains_215 ?_
      refine x_aload_n C rfl 3 rfl dX12_explains_216 ?_
      refine x_getR (r := 381) C (j := 36) ob358.1 ob358.2 (Nat.le_of_ble_eq_true rfl) (Nat.le_of_ble_eq_true rfl) (fun _ _ _ => rfl) r_358_36 tw_9_2 dX12_explains_217 ?_
      refine x_iconst (v := 0) C (by decide) dX12_explains_220 ?_
      refine x_iald C ob381.1 ob381.2 (by unfold vp_in; decide) (j := 0) (by decide) dX12_explains_221 ?_
      refine x_i2l C dX12_explains_222 ?_
      refine x_aload_n C rfl 3 rfl dX12_explains_223 ?_
      refine x_getR (r := 381) C (j := 36) ob358.1 ob358.2 (Nat.le_of_ble_eq_true rfl) (Nat.le_of_ble_eq_true rfl) (fun _ _ _ => rfl) r_358_36 tw_9_2 dX12_explains_224 ?_
      refine x_iconst (v := 1) C (by decide) dX12_explains_227 ?_
      refine x_iald C ob381.1 ob381.2 (by unfold vp_in; decide) (j := 1) (by decide) dX12_explains_228 ?_
      refine x_i2l C dX12_explains_229 ?_
      refine x_lmul C dX12_explains_230 ?_
      refine x_putJ C (j := 60) ob358.1 ob358.2 (Nat.le_of_ble_eq_true rfl) (Nat.le_of_ble_eq_true rfl) rfl rfl rfl rfl tw_9_26 dX12_explains_231 ?_
      refine x_mu (fun μ42 e_μ42 => ?_)
      have h := h μ42 e_μ42
      refine x_aload_n C rfl 3 rfl dX12_explains_234 ?_
      refine x_lload C 1 rfl dX12_explains_235 ?_
      refine x_lneg C dX12_explains_237 ?_
      refine x_lload C 0 rfl dX12_explains_238 ?_
      refine x_callV (dC := G12_sums_dep) (as := [.long (-y37), .long y39]) (st := []) C rX kX (Nat.le_trans (Nat.le_of_ble_eq_true rfl) hd) (Nat.le_of_ble_eq_true rfl) ob358.1 ob358.2 (Nat.le_of_ble_eq_true rfl) rfl ts_10_15 tw_8_90 tw_8_88 tc_8_91 tw_1_13 hyX12 hnX12_sums rfl (Nat.le_of_ble_eq_true rfl) dX12_explains_240 (G12_sums_met C.2.2.2.2.2.2.2.1 (Nat.le_refl _)  h) (fun r0 μ43 hq => ?_)
      obtain ⟨rfl, h⟩ := hq
      refine x_st [] rfl ?_
      refine x_aload_n C rfl 3 rfl dX12_explains_243 ?_
      refine x_iconst (v := 0) C (by decide) dX12_explains_244 ?_
      refine x_putI C (j := 1) ob358.1 ob358.2 (Nat.le_of_ble_eq_true rfl) (Nat.le_of_ble_eq_true rfl) (Or.inl rfl) rfl rfl rfl tw_8_207 dX12_explains_245 ?_
      refine x_mu (fun μ44 e_μ44 => ?_)
      have h := h μ44 e_μ44
      refine x_aload_n C rfl 3 rfl dX12_explains_248 ?_
      refine x_lload C 1 rfl dX12_explains_249 ?_
      refine x_callV (dC := G12_enters_dep) (as := [.long y37]) (st := []) C rX kX (Nat.le_trans (Nat.le_of_ble_eq_true rfl) hd) (Nat.le_of_ble_eq_true rfl) ob358.1 ob358.2 (Nat.le_of_ble_eq_true rfl) rfl ts_10_1 tw_7_161 tw_7_159 tc_7_162 tw_1_13 hyX12 hnX12_enters rfl (Nat.le_of_ble_eq_true rfl) dX12_explains_251 (G12_enters_met C.2.2.2.2.2.2.2.1 (Nat.le_refl _)  h) (fun r0 μ45 hq => ?_)
      obtain ⟨rfl, h⟩ := hq
      refine x_st [] rfl ?_
      refine x_aload_n C rfl 3 rfl dX12_explains_254 ?_
      refine x_lload C 0 rfl dX12_explains_255 ?_
      refine x_callV (dC := G12_enters_dep) (as := [.long y39]) (st := []) C rX kX (Nat.le_trans (Nat.le_of_ble_eq_true rfl) hd) (Nat.le_of_ble_eq_true rfl) ob358.1 ob358.2 (Nat.le_of_ble_eq_true rfl) rfl ts_10_1 tw_7_161 tw_7_159 tc_7_162 tw_1_13 hyX12 hnX12_enters rfl (Nat.le_of_ble_eq_true rfl) dX12_explains_257 (G12_enters_met C.2.2.2.2.2.2.2.1 (Nat.le_refl _)  h) (fun r0 μ46 hq => ?_)
      obtain ⟨rfl, h⟩ := hq
      refine x_st [] rfl ?_
      refine x_aload_n C rfl 3 rfl dX12_explains_260 ?_
      refine x_aload_n C rfl 3 rfl dX12_explains_261 ?_
      refine x_getJ C (j := 59) ob358.1 ob358.2 (Nat.le_of_ble_eq_true rfl) (Nat.le_of_ble_eq_true rfl) rfl tw_9_25 dX12_explains_262 ?_
      refine x_callV (dC := G12_enters_dep) (as := [.long (gJ μ46 358 59)]) (st := []) C rX kX (Nat.le_trans (Nat.le_of_ble_eq_true rfl) hd) (Nat.le_of_ble_eq_true rfl) ob358.1 ob358.2 (Nat.le_of_ble_eq_true rfl) rfl ts_10_1 tw_7_161 tw_7_159 tc_7_162 tw_1_13 hyX12 hnX12_enters rfl (Nat.le_of_ble_eq_true rfl) dX12_explains_265 (G12_enters_met C.2.2.2.2.2.2.2.1 (Nat.le_refl _)  h) (fun r0 μ47 hq => ?_)
      obtain ⟨rfl, h⟩ := hq
      refine x_st [] rfl ?_
      refine x_aload_n C rfl 3 rfl dX12_explains_268 ?_
      refine x_aload_n C rfl 3 rfl dX12_explains_269 ?_
      refine x_getJ C (j := 60) ob358.1 ob358.2 (Nat.le_of_ble_eq_true rfl) (Nat.le_of_ble_eq_true rfl) rfl tw_9_26 dX12_explains_270 ?_
      refine x_callV (dC := G12_enters_dep) (as := [.long (gJ μ47 358 60)]) (st := []) C rX kX (Nat.le_trans (Nat.le_of_ble_eq_true rfl) hd) (Nat.le_of_ble_eq_true rfl) ob358.1 ob358.2 (Nat.le_of_ble_eq_true rfl) rfl ts_10_1 tw_7_161 tw_7_159 tc_7_162 tw_1_13 hyX12 hnX12_enters rfl (Nat.le_of_ble_eq_true rfl) dX12_explains_273 (G12_enters_met C.2.2.2.2.2.2.2.1 (Nat.le_refl _)  h) (fun r0 μ48 hq => ?_)
      obtain ⟨rfl, h⟩ := hq
      refine x_st [] rfl ?_
      refine x_iconst (v := 0) C (by decide) dX12_explains_276 ?_
      exact x_iret C hr dX12_explains_277 ⟨_, rfl, h⟩
    · have h := h.2 c33
      refine x_bipush (v := (-2)) C (by decide) dX12_explains_140 ?_
      exact x_iret C hr dX12_explains_142 ⟨_, rfl, h⟩
  · have h := h.2 c32
    refine x_aload_n C rfl 0 rfl dX12_explains_39 ?_
    refine x_iload_n C rfl 1 rfl dX12_explains_40 ?_
    refine x_iload_n C rfl 3 rfl dX12_explains_41 ?_
    refine x_callV (dC := G12_countsBy_dep) (as := [.int p1, .int x.2.1]) (st := []) C rX kX (Nat.le_trans (Nat.le_of_ble_eq_true rfl) hd) (Nat.le_of_ble_eq_true rfl) ob358.1 ob358.2 (Nat.le_of_ble_eq_true rfl) rfl ts_10_13 tw_8_82 tw_8_80 tc_8_83 tw_1_13 hyX12 hnX12_countsBy rfl (Nat.le_of_ble_eq_true rfl) dX12_explains_42 (G12_countsBy_met C.2.2.2.2.2.2.2.1 (Nat.le_refl _)  h) (fun r0 μ49 hq => ?_)
    obtain ⟨rfl, h⟩ := hq
    refine x_st [] rfl ?_
    refine x_aload_n C rfl 0 rfl dX12_explains_45 ?_
    refine x_callV (dC := G12_areBoth_dep) (as := []) (st := []) C rX kX (Nat.le_trans (Nat.le_of_ble_eq_true rfl) hd) (Nat.le_of_ble_eq_true rfl) ob358.1 ob358.2 (Nat.le_of_ble_eq_true rfl) rfl ts_10_2 tw_7_169 tw_7_167 tc_7_170 tw_1_13 hyX12 hnX12_areBoth rfl (Nat.le_of_ble_eq_true rfl) dX12_explains_46 (G12_areBoth_met C.2.2.2.2.2.2.2.1 (Nat.le_refl _)  h) (fun r0 μ50 hq => ?_)
    obtain ⟨r51, rfl, h⟩ := hq
    refine x_st [.int r51] rfl ?_
    refine x_if_eq (tgt := 130) C dX12_explains_49 (by decide) (fun c52 => ?_) (fun c52 => ?_)
    · have h := h.1 c52
      refine x_iinc (v := (x.2.1 + 1)) C [(3, .int (x.2.1 + 1)), (0, .ref 358), (1, .int p1), (2, .int x.1)] 3 rfl (congrArg (fun z => x.2.1 + z) (by decide : Int32.ofInt (1) = 1)) (Nat.le_of_ble_eq_true rfl) rfl dX12_explains_130 ?_
      refine x_goto (tgt := 33) C dX12_explains_133 (by decide) ?_
      refine x_sub [(0, .ref 358), (1, .int p1), (2, .int x.1), (3, .int (x.2.1 + 1))] [1, 2, 3, 0] rfl ?_
      exact hK33 _ _ _ h
    · have h := h.2 c52
      refine x_aload_n C rfl 0 rfl dX12_explains_52 ?_
      refine x_aload_n C rfl 0 rfl dX12_explains_53 ?_
      refine x_getR (r := 382) C (j := 37) ob358.1 ob358.2 (Nat.le_of_ble_eq_true rfl) (Nat.le_of_ble_eq_true rfl) (fun _ _ _ => rfl) r_358_37 tw_9_3 dX12_explains_54 ?_
      refine x_iconst (v := 0) C (by decide) dX12_explains_57 ?_
      refine x_iald C ob382.1 ob382.2 (by unfold vp_in; decide) (j := 0) (by decide) dX12_explains_58 ?_
      refine x_aload_n C rfl 0 rfl dX12_explains_59 ?_
      refine x_getR (r := 381) C (j := 36) ob358.1 ob358.2 (Nat.le_of_ble_eq_true rfl) (Nat.le_of_ble_eq_true rfl) (fun _ _ _ => rfl) r_358_36 tw_9_2 dX12_explains_60 ?_
      refine x_iconst (v := 1) C (by decide) dX12_explains_63 ?_
      refine x_iald C ob381.1 ob381.2 (by unfold vp_in; decide) (j := 1) (by decide) dX12_explains_64 ?_
      refine x_imul C dX12_explains_65 ?_
      refine x_aload_n C rfl 0 rfl dX12_explains_66 ?_
      refine x_getR (r := 382) C (j := 37) ob358.1 ob358.2 (Nat.le_of_ble_eq_true rfl) (Nat.le_of_ble_eq_true rfl) (fun _ _ _ => rfl) r_358_37 tw_9_3 dX12_explains_67 ?_
      refine x_iconst (v := 1) C (by decide) dX12_explains_70 ?_
      refine x_iald C ob382.1 ob382.2 (by unfold vp_in; decide) (j := 1) (by decide) dX12_explains_71 ?_
      refine x_aload_n C rfl 0 rfl dX12_explains_72 ?_
      refine x_getR (r := 381) C (j := 36) ob358.1 ob358.2 (Nat.le_of_ble_eq_true rfl) (Nat.le_of_ble_eq_true rfl) (fun _ _ _ => rfl) r_358_36 tw_9_2 dX12_explains_73 ?_
      refine x_iconst (v := 0) C (by decide) dX12_explains_76 ?_
      refine x_iald C ob381.1 ob381.2 (by unfold vp_in; decide) (j := 0) (by decide) dX12_explains_77 ?_
      refine x_imul C dX12_explains_78 ?_
      refine x_isub C dX12_explains_79 ?_
      refine x_i2l C dX12_explains_80 ?_
      refine x_aload_n C rfl 0 rfl dX12_explains_81 ?_
      refine x_getR (r := 381) C (j := 36) ob358.1 ob358.2 (Nat.le_of_ble_eq_true rfl) (Nat.le_of_ble_eq_true rfl) (fun _ _ _ => rfl) r_358_36 tw_9_2 dX12_explains_82 ?_
      refine x_iconst (v := 0) C (by decide) dX12_explains_85 ?_
      refine x_iald C ob381.1 ob381.2 (by unfold vp_in; decide) (j := 0) (by decide) dX12_explains_86 ?_
      refine x_aload_n C rfl 0 rfl dX12_explains_87 ?_
      refine x_getR (r := 381) C (j := 36) ob358.1 ob358.2 (Nat.le_of_ble_eq_true rfl) (Nat.le_of_ble_eq_true rfl) (fun _ _ _ => rfl) r_358_36 tw_9_2 dX12_explains_88 ?_
      refine x_iconst (v := 1) C (by decide) dX12_explains_91 ?_
      refine x_iald C ob381.1 ob381.2 (by unfold vp_in; decide) (j := 1) (by decide) dX12_explains_92 ?_
      refine x_iadd C dX12_explains_93 ?_
      refine x_i2l C dX12_explains_94 ?_
      refine x_lmul C dX12_explains_95 ?_
      refine x_aload_n C rfl 0 rfl dX12_explains_96 ?_
      refine x_getR (r := 381) C (j := 36) ob358.1 ob358.2 (Nat.le_of_ble_eq_true rfl) (Nat.le_of_ble_eq_true rfl) (fun _ _ _ => rfl) r_358_36 tw_9_2 dX12_explains_97 ?_
      refine x_iconst (v := 0) C (by decide) dX12_explains_100 ?_
      refine x_iald C ob381.1 ob381.2 (by unfold vp_in; decide) (j := 0) (by decide) dX12_explains_101 ?_
      refine x_i2l C dX12_explains_102 ?_
      refine x_aload_n C rfl 0 rfl dX12_explains_103 ?_
      refine x_getR (r := 381) C (j := 36) ob358.1 ob358.2 (Nat.le_of_ble_eq_true rfl) (Nat.le_of_ble_eq_true rfl) (fun _ _ _ => rfl) r_358_36 tw_9_2 dX12_explains_104 ?_
      refine x_iconst (v := 1) C (by decide) dX12_explains_107 ?_
      refine x_iald C ob381.1 ob381.2 (by unfold vp_in; decide) (j := 1) (by decide) dX12_explains_108 ?_
      refine x_i2l C dX12_explains_109 ?_
      refine x_lmul C dX12_explains_110 ?_
      refine x_callV (dC := G12_sums_dep) (as := [.long (((((gI μ50 382 0) * (gI μ50 381 1)) - ((gI μ50 382 1) * (gI μ50 381 0))).toInt64) * (((gI μ50 381 0) + (gI μ50 381 1)).toInt64)), .long (((gI μ50 381 0).toInt64) * ((gI μ50 381 1).toInt64))]) (st := []) C rX kX (Nat.le_trans (Nat.le_of_ble_eq_true rfl) hd) (Nat.le_of_ble_eq_true rfl) ob358.1 ob358.2 (Nat.le_of_ble_eq_true rfl) rfl ts_10_15 tw_8_90 tw_8_88 tc_8_91 tw_1_13 hyX12 hnX12_sums rfl (Nat.le_of_ble_eq_true rfl) dX12_explains_111 (G12_sums_met C.2.2.2.2.2.2.2.1 (Nat.le_refl _)  h) (fun r0 μ53 hq => ?_)
      obtain ⟨rfl, h⟩ := hq
      refine x_st [] rfl ?_
      refine x_iload_n C rfl 2 rfl dX12_explains_114 ?_
      refine x_aload_n C rfl 0 rfl dX12_explains_115 ?_
      refine x_getR (r := 381) C (j := 36) ob358.1 ob358.2 (Nat.le_of_ble_eq_true rfl) (Nat.le_of_ble_eq_true rfl) (fun _ _ _ => rfl) r_358_36 tw_9_2 dX12_explains_116 ?_
      refine x_iconst (v := 0) C (by decide) dX12_explains_119 ?_
      refine x_iald C ob381.1 ob381.2 (by unfold vp_in; decide) (j := 0) (by decide) dX12_explains_120 ?_
      refine x_aload_n C rfl 0 rfl dX12_explains_121 ?_
      refine x_getR (r := 381) C (j := 36) ob358.1 ob358.2 (Nat.le_of_ble_eq_true rfl) (Nat.le_of_ble_eq_true rfl) (fun _ _ _ => rfl) r_358_36 tw_9_2 dX12_explains_122 ?_
      refine x_iconst (v := 1) C (by decide) dX12_explains_125 ?_
      refine x_iald C ob381.1 ob381.2 (by unfold vp_in; decide) (j := 1) (by decide) dX12_explains_126 ?_
      refine x_iadd C dX12_explains_127 ?_
      refine x_iadd C dX12_explains_128 ?_
      refine x_topi (fun y54 e_y54 => ?_)
      have h := h y54 e_y54
      refine x_istore_n C [(2, .int y54), (0, .ref 358), (1, .int p1), (3, .int x.2.1)] rfl (Nat.le_of_ble_eq_true rfl) rfl dX12_explains_129 ?_
      refine x_iinc (v := (x.2.1 + 1)) C [(3, .int (x.2.1 + 1)), (2, .int y54), (0, .ref 358), (1, .int p1)] 3 rfl (congrArg (fun z => x.2.1 + z) (by decide : Int32.ofInt (1) = 1)) (Nat.le_of_ble_eq_true rfl) rfl dX12_explains_130 ?_
      refine x_goto (tgt := 33) C dX12_explains_133 (by decide) ?_
      refine x_sub [(0, .ref 358), (1, .int p1), (2, .int y54), (3, .int (x.2.1 + 1))] [2, 3, 1, 0] rfl ?_
      exact hK33 _ _ _ h
theorem G12_explains_L33_ok {p : Program} {e : Env} {s : State} {m : MethodId} {args : Array Value} {below : List Frame} {meth : Method} {c : Code} {l : Launch} {φ : Nat → Nat} {tc : Nat → ClassId} {D : va_G} {s0 : State} {dR : Nat} (C : CX p s m args meth c φ tc D (AX φ) s0 cX12_explains RX12 9) (hd : G12_explains_dep ≤ dR) (hr : meth.sig.returnType = (some .int))  {p1 : Int32} {Q : Int32 → MM → Prop}  {x : Int32 × Int32 × MM}    (h : Lp (G12_explains_L33 p1 Q) x) : WX p l e (rmX dR) s m args below meth c φ tc D (AX φ) 9 0 0 (MQ below (QX φ tc D (QI Q)) args s 0 0 (AX φ)) 33 [(0, .ref 358), (1, .int p1), (2, .int x.1), (3, .int x.2.1)] [] x.2.2 := by
  obtain ⟨n, h⟩ := h
  induction n generalizing x with
  | zero => exact h.elim
  | succ n ih => exact G12_explains_L33_b C hd hr   (fun z2 z3 zμ hz => by have q := ih hz; exact q) h
set_option maxHeartbeats 4000000 in
set_option maxRecDepth 100000 in
theorem G12_explains_met {l : Launch} {φ : Nat → Nat} {tc : Nat → ClassId} {D : va_G} {s0 : State} (hG : GX φ tc D s0) {dR : Nat} (hd : G12_explains_dep ≤ dR) {v1 : Int32} {μ : MM} {Q : Int32 → MM → Prop}  (h : G12_explains v1 μ Q) : MX l φ tc D s0 dR yX12_explains cX12_explains 9 (some .int) [.ref 358, .int v1] μ (QI Q) := by
  refine MX.of (own := RX12) hG plX12 rfl (Nat.le_of_ble_eq_true rfl) (fun p e s m args below meth c C hr => ?_)
  refine x_sub [(0, .ref 358), (1, .int v1)] [0, 1] rfl ?_
  unfold G12_explains at h
  refine x_aload_n C rfl 0 rfl dX12_explains_0 ?_
  refine x_iconst (v := 0) C (by decide) dX12_explains_1 ?_
  refine x_putI C (j := 0) ob358.1 ob358.2 (Nat.le_of_ble_eq_true rfl) (Nat.le_of_ble_eq_true rfl) (Or.inl rfl) rfl rfl rfl tw_8_206 dX12_explains_2 ?_
  refine x_mu (fun μ26 e_μ26 => ?_)
  have h := h μ26 e_μ26
  refine x_iload_n C rfl 1 rfl dX12_explains_5 ?_
  refine x_i2l C dX12_explains_6 ?_
  refine x_lconst (v := 0) C (by decide) dX12_explains_7 ?_
  refine x_ldc2 (v := 3) C tw_6_190 dX12_explains_8 ?_
  refine x_callS (dC := G12_in_dep) (as := [.long (v1.toInt64), .long 0, .long 3]) (st := []) C rX kX (Nat.le_trans (Nat.le_of_ble_eq_true rfl) hd) (Nat.le_of_ble_eq_true rfl) tw_6_183 tw_6_182 tc_6_184 tw_1_13 hyX12 hnX12_in rfl (Nat.le_of_ble_eq_true rfl) dX12_explains_11 (G12_in_met C.2.2.2.2.2.2.2.1 (Nat.le_refl _)  h) (fun r0 μ27 hq => ?_)
  obtain ⟨r28, rfl, h⟩ := hq
  refine x_st [.int r28] rfl ?_
  refine x_if_ne (tgt := 19) C dX12_explains_14 (by decide) (fun c29 => ?_) (fun c29 => ?_)
  · have h := h.1 c29
    refine x_aload_n C rfl 0 rfl dX12_explains_19 ?_
    refine x_lconst (v := 0) C (by decide) dX12_explains_20 ?_
    refine x_putJ C (j := 59) ob358.1 ob358.2 (Nat.le_of_ble_eq_true rfl) (Nat.le_of_ble_eq_true rfl) rfl rfl rfl rfl tw_9_25 dX12_explains_21 ?_
    refine x_mu (fun μ30 e_μ30 => ?_)
    have h := h μ30 e_μ30
    refine x_aload_n C rfl 0 rfl dX12_explains_24 ?_
    refine x_lconst (v := 1) C (by decide) dX12_explains_25 ?_
    refine x_putJ C (j := 60) ob358.1 ob358.2 (Nat.le_of_ble_eq_true rfl) (Nat.le_of_ble_eq_true rfl) rfl rfl rfl rfl tw_9_26 dX12_explains_26 ?_
    refine x_mu (fun μ31 e_μ31 => ?_)
    have h := h μ31 e_μ31
    refine x_iconst (v := 0) C (by decide) dX12_explains_29 ?_
    refine x_istore_n C [(2, .int 0), (0, .ref 358), (1, .int v1)] rfl (Nat.le_of_ble_eq_true rfl) rfl dX12_explains_30 ?_
    refine x_iconst (v := 0) C (by decide) dX12_explains_31 ?_
    refine x_istore_n C [(3, .int 0), (2, .int 0), (0, .ref 358), (1, .int v1)] rfl (Nat.le_of_ble_eq_true rfl) rfl dX12_explains_32 ?_
    refine x_sub [(0, .ref 358), (1, .int v1), (2, .int 0), (3, .int 0)] [2, 3, 1, 0] rfl ?_
    exact G12_explains_L33_ok C hd hr  h
  · have h := h.2 c29
    refine x_iconst (v := (-1)) C (by decide) dX12_explains_17 ?_
    exact x_iret C hr dX12_explains_18 ⟨_, rfl, h⟩
set_option maxHeartbeats 4000000 in
set_option maxRecDepth 100000 in
theorem G12_join_L156_b {p : Program} {e : Env} {s : State} {m : MethodId} {args : Array Value} {below : List Frame} {meth : Method} {c : Code} {l : Launch} {φ : Nat → Nat} {tc : Nat → ClassId} {D : va_G} {s0 : State} {dR : Nat} (C : CX p s m args meth c φ tc D (AX φ) s0 cX12_join RX12 8) (hd : G12_join_dep ≤ dR) (hr : meth.sig.returnType = (some .int))  {p2 : Int32} {p3 : Int64} {p5 : Int64} {Q : Int32 → MM → Prop} {K156 : Int32 × MM → Prop} {x : Int32 × MM}   (hK156 : ∀ (z7 : Int32) (zμ : MM), K156 (z7, zμ) → WX p l e (rmX dR) s m args below meth c φ tc D (AX φ) 8 0 0 (MQ below (QX φ tc D (QI Q)) args s 0 0 (AX φ)) 156 [(0, .ref 358), (2, .int p2), (3, .long p3), (5, .long p5), (7, .int z7)] [] zμ) (h : G12_join_L156 p2 p3 p5 Q K156 x) : WX p l e (rmX dR) s m args below meth c φ tc D (AX φ) 8 0 0 (MQ below (QX φ tc D (QI Q)) args s 0 0 (AX φ)) 156 [(0, .ref 358), (2, .int p2), (3, .long p3), (5, .long p5), (7, .int x.1)] [] x.2 := by
  unfold G12_join_L156 at h
  refine x_iload C 4 rfl dX12_join_156 ?_
  refine x_iconst (v := 4) C (by decide) dX12_join_158 ?_
  refine x_icmp_ge (tgt := 231) C dX12_join_159 (by decide) (fun c34 => ?_) (fun c34 => ?_)
  · have h := h.1 c34
    refine x_aload_n C rfl 0 rfl dX12_join_231 ?_
    refine x_iconst (v := 0) C (by decide) dX12_join_232 ?_
    refine x_putI C (j := 1) ob358.1 ob358.2 (Nat.le_of_ble_eq_true rfl) (Nat.le_of_ble_eq_true rfl) (Or.inl rfl) rfl rfl rfl tw_8_207 dX12_join_233 ?_
    refine x_mu (fun μ35 e_μ35 => ?_)
    have h := h μ35 e_μ35
    refine x_aload_n C rfl 0 rfl dX12_join_236 ?_
    refine x_aload_n C rfl 0 rfl dX12_join_237 ?_
    refine x_getJ C (j := 59) ob358.1 ob358.2 (Nat.le_of_ble_eq_true rfl) (Nat.le_of_ble_eq_true rfl) rfl tw_9_25 dX12_join_238 ?_
    refine x_lload C 3 rfl dX12_join_241 ?_
    refine x_lmul C dX12_join_243 ?_
    refine x_aload_n C rfl 0 rfl dX12_join_244 ?_
    refine x_getJ C (j := 60) ob358.1 ob358.2 (Nat.le_of_ble_eq_true rfl) (Nat.le_of_ble_eq_true rfl) rfl tw_9_26 dX12_join_245 ?_
    refine x_lload_n C rfl 2 rfl dX12_join_248 ?_
    refine x_lmul C dX12_join_249 ?_
    refine x_callV (dC := G12_entersFraction_dep) (as := [.long ((gJ μ35 358 59) * p5), .long ((gJ μ35 358 60) * p3)]) (st := []) C rX kX (Nat.le_trans (Nat.le_of_ble_eq_true rfl) hd) (Nat.le_of_ble_eq_true rfl) ob358.1 ob358.2 (Nat.le_of_ble_eq_true rfl) rfl ts_10_0 tw_7_154 tw_7_152 tc_7_155 tw_1_13 hyX12 hnX12_entersFraction rfl (Nat.le_of_ble_eq_true rfl) dX12_join_250 (G12_entersFraction_met C.2.2.2.2.2.2.2.1 (Nat.le_refl _)  h) (fun r0 μ36 hq => ?_)
    obtain ⟨rfl, h⟩ := hq
    refine x_st [] rfl ?_
    refine x_iconst (v := 0) C (by decide) dX12_join_253 ?_
    exact x_iret C hr dX12_join_254 ⟨_, rfl, h⟩
  · have h := h.2 c34
    refine x_aload_n C rfl 0 rfl dX12_join_162 ?_
    refine x_iload_n C rfl 1 rfl dX12_join_163 ?_
    refine x_iload C 4 rfl dX12_join_164 ?_
    refine x_callV (dC := G12_countsBy_dep) (as := [.int p2, .int x.1]) (st := []) C rX kX (Nat.le_trans (Nat.le_of_ble_eq_true rfl) hd) (Nat.le_of_ble_eq_true rfl) ob358.1 ob358.2 (Nat.le_of_ble_eq_true rfl) rfl ts_10_13 tw_8_82 tw_8_80 tc_8_83 tw_1_13 hyX12 hnX12_countsBy rfl (Nat.le_of_ble_eq_true rfl) dX12_join_166 (G12_countsBy_met C.2.2.2.2.2.2.2.1 (Nat.le_refl _)  h) (fun r0 μ37 hq => ?_)
    obtain ⟨rfl, h⟩ := hq
    refine x_st [] rfl ?_
    refine x_aload_n C rfl 0 rfl dX12_join_169 ?_
    refine x_getR (r := 381) C (j := 36) ob358.1 ob358.2 (Nat.le_of_ble_eq_true rfl) (Nat.le_of_ble_eq_true rfl) (fun _ _ _ => rfl) r_358_36 tw_9_2 dX12_join_170 ?_
    refine x_iconst (v := 0) C (by decide) dX12_join_173 ?_
    refine x_iald C ob381.1 ob381.2 (by unfold vp_in; decide) (j := 0) (by decide) dX12_join_174 ?_
    refine x_aload_n C rfl 0 rfl dX12_join_175 ?_
    refine x_getR (r := 381) C (j := 36) ob358.1 ob358.2 (Nat.le_of_ble_eq_true rfl) (Nat.le_of_ble_eq_true rfl) (fun _ _ _ => rfl) r_358_36 tw_9_2 dX12_join_176 ?_
    refine x_iconst (v := 1) C (by decide) dX12_join_179 ?_
    refine x_iald C ob381.1 ob381.2 (by unfold vp_in; decide) (j := 1) (by decide) dX12_join_180 ?_
    refine x_iadd C dX12_join_181 ?_
    refine x_if_le (tgt := 225) C dX12_join_182 (by decide) (fun c38 => ?_) (fun c38 => ?_)
    · have h := h.1 c38
      refine x_iinc (v := (x.1 + 1)) C [(7, .int (x.1 + 1)), (0, .ref 358), (2, .int p2), (3, .long p3), (5, .long p5)] 4 rfl (congrArg (fun z => x.1 + z) (by decide : Int32.ofInt (1) = 1)) (Nat.le_of_ble_eq_true rfl) rfl dX12_join_225 ?_
      refine x_goto (tgt := 156) C dX12_join_228 (by decide) ?_
      refine x_sub [(0, .ref 358), (2, .int p2), (3, .long p3), (5, .long p5), (7, .int (x.1 + 1))] [1, 2, 3, 4, 0] rfl ?_
      exact hK156 _ _ h
    · have h := h.2 c38
      refine x_aload_n C rfl 0 rfl dX12_join_185 ?_
      refine x_aload_n C rfl 0 rfl dX12_join_186 ?_
      refine x_getR (r := 382) C (j := 37) ob358.1 ob358.2 (Nat.le_of_ble_eq_true rfl) (Nat.le_of_ble_eq_true rfl) (fun _ _ _ => rfl) r_358_37 tw_9_3 dX12_join_187 ?_
      refine x_iconst (v := 0) C (by decide) dX12_join_190 ?_
      refine x_iald C ob382.1 ob382.2 (by unfold vp_in; decide) (j := 0) (by decide) dX12_join_191 ?_
      refine x_i2l C dX12_join_192 ?_
      refine x_aload_n C rfl 0 rfl dX12_join_193 ?_
      refine x_getR (r := 381) C (j := 36) ob358.1 ob358.2 (Nat.le_of_ble_eq_true rfl) (Nat.le_of_ble_eq_true rfl) (fun _ _ _ => rfl) r_358_36 tw_9_2 dX12_join_194 ?_
      refine x_iconst (v := 1) C (by decide) dX12_join_197 ?_
      refine x_iald C ob381.1 ob381.2 (by unfold vp_in; decide) (j := 1) (by decide) dX12_join_198 ?_
      refine x_aload_n C rfl 0 rfl dX12_join_199 ?_
      refine x_getR (r := 382) C (j := 37) ob358.1 ob358.2 (Nat.le_of_ble_eq_true rfl) (Nat.le_of_ble_eq_true rfl) (fun _ _ _ => rfl) r_358_37 tw_9_3 dX12_join_200 ?_
      refine x_iconst (v := 1) C (by decide) dX12_join_203 ?_
      refine x_iald C ob382.1 ob382.2 (by unfold vp_in; decide) (j := 1) (by decide) dX12_join_204 ?_
      refine x_isub C dX12_join_205 ?_
      refine x_i2l C dX12_join_206 ?_
      refine x_lmul C dX12_join_207 ?_
      refine x_aload_n C rfl 0 rfl dX12_join_208 ?_
      refine x_getR (r := 381) C (j := 36) ob358.1 ob358.2 (Nat.le_of_ble_eq_true rfl) (Nat.le_of_ble_eq_true rfl) (fun _ _ _ => rfl) r_358_36 tw_9_2 dX12_join_209 ?_
      refine x_iconst (v := 0) C (by decide) dX12_join_212 ?_
      refine x_iald C ob381.1 ob381.2 (by unfold vp_in; decide) (j := 0) (by decide) dX12_join_213 ?_
      refine x_aload_n C rfl 0 rfl dX12_join_214 ?_
      refine x_getR (r := 381) C (j := 36) ob358.1 ob358.2 (Nat.le_of_ble_eq_true rfl) (Nat.le_of_ble_eq_true rfl) (fun _ _ _ => rfl) r_358_36 tw_9_2 dX12_join_215 ?_
      refine x_iconst (v := 1) C (by decide) dX12_join_218 ?_
      refine x_iald C ob381.1 ob381.2 (by unfold vp_in; decide) (j := 1) (by decide) dX12_join_219 ?_
      refine x_iadd C dX12_join_220 ?_
      refine x_i2l C dX12_join_221 ?_
      refine x_callV (dC := G12_sums_dep) (as := [.long (((gI μ37 382 0).toInt64) * (((gI μ37 381 1) - (gI μ37 382 1)).toInt64)), .long (((gI μ37 381 0) + (gI μ37 381 1)).toInt64)]) (st := []) C rX kX (Nat.le_trans (Nat.le_of_ble_eq_true rfl) hd) (Nat.le_of_ble_eq_true rfl) ob358.1 ob358.2 (Nat.le_of_ble_eq_true rfl) rfl ts_10_15 tw_8_90 tw_8_88 tc_8_91 tw_1_13 hyX12 hnX12_sums rfl (Nat.le_of_ble_eq_true rfl) dX12_join_222 (G12_sums_met C.2.2.2.2.2.2.2.1 (Nat.le_refl _)  h) (fun r0 μ39 hq => ?_)
      obtain ⟨rfl, h⟩ := hq
      refine x_st [] rfl ?_
      refine x_iinc (v := (x.1 + 1)) C [(7, .int (x.1 + 1)), (0, .ref 358), (2, .int p2), (3, .long p3), (5, .long p5)] 4 rfl (congrArg (fun z => x.1 + z) (by decide : Int32.ofInt (1) = 1)) (Nat.le_of_ble_eq_true rfl) rfl dX12_join_225 ?_
      refine x_goto (tgt := 156) C dX12_join_228 (by decide) ?_
      refine x_sub [(0, .ref 358), (2, .int p2), (3, .long p3), (5, .long p5), (7, .int (x.1 + 1))] [1, 2, 3, 4, 0] rfl ?_
      exact hK156 _ _ h
theorem G12_join_L156_ok {p : Program} {e : Env} {s : State} {m : MethodId} {args : Array Value} {below : List Frame} {meth : Method} {c : Code} {l : Launch} {φ : Nat → Nat} {tc : Nat → ClassId} {D : va_G} {s0 : State} {dR : Nat} (C : CX p s m args meth c φ tc D (AX φ) s0 cX12_join RX12 8) (hd : G12_join_dep ≤ dR) (hr : meth.sig.returnType = (some .int))  {p2 : Int32} {p3 : Int64} {p5 : Int64} {Q : Int32 → MM → Prop}  {x : Int32 × MM}    (h : Lp (G12_join_L156 p2 p3 p5 Q) x) : WX p l e (rmX dR) s m args below meth c φ tc D (AX φ) 8 0 0 (MQ below (QX φ tc D (QI Q)) args s 0 0 (AX φ)) 156 [(0, .ref 358), (2, .int p2), (3, .long p3), (5, .long p5), (7, .int x.1)] [] x.2 := by
  obtain ⟨n, h⟩ := h
  induction n generalizing x with
  | zero => exact h.elim
  | succ n ih => exact G12_join_L156_b C hd hr   (fun z7 zμ hz => by have q := ih hz; exact q) h
set_option maxHeartbeats 4000000 in
set_option maxRecDepth 100000 in
theorem G12_join_L50_b {p : Program} {e : Env} {s : State} {m : MethodId} {args : Array Value} {below : List Frame} {meth : Method} {c : Code} {l : Launch} {φ : Nat → Nat} {tc : Nat → ClassId} {D : va_G} {s0 : State} {dR : Nat} (C : CX p s m args meth c φ tc D (AX φ) s0 cX12_join RX12 8) (hd : G12_join_dep ≤ dR) (hr : meth.sig.returnType = (some .int))  {p2 : Int32} {Q : Int32 → MM → Prop} {K50 : Int32 × MM → Prop} {x : Int32 × MM}   (hK50 : ∀ (z3 : Int32) (zμ : MM), K50 (z3, zμ) → WX p l e (rmX dR) s m args below meth c φ tc D (AX φ) 8 0 0 (MQ below (QX φ tc D (QI Q)) args s 0 0 (AX φ)) 50 [(0, .ref 358), (2, .int p2), (3, .int z3)] [] zμ) (h : G12_join_L50 p2 Q K50 x) : WX p l e (rmX dR) s m args below meth c φ tc D (AX φ) 8 0 0 (MQ below (QX φ tc D (QI Q)) args s 0 0 (AX φ)) 50 [(0, .ref 358), (2, .int p2), (3, .int x.1)] [] x.2 := by
  unfold G12_join_L50 at h
  refine x_iload_n C rfl 2 rfl dX12_join_50 ?_
  refine x_iconst (v := 4) C (by decide) dX12_join_51 ?_
  refine x_icmp_ge (tgt := 123) C dX12_join_52 (by decide) (fun c28 => ?_) (fun c28 => ?_)
  · have h := h.1 c28
    refine x_aload_n C rfl 0 rfl dX12_join_123 ?_
    refine x_getJ C (j := 59) ob358.1 ob358.2 (Nat.le_of_ble_eq_true rfl) (Nat.le_of_ble_eq_true rfl) rfl tw_9_25 dX12_join_124 ?_
    refine x_topl (fun y29 e_y29 => ?_)
    have h := h y29 e_y29
    refine x_lstore_n C [(3, .long y29), (0, .ref 358), (2, .int p2)] rfl (Nat.le_of_ble_eq_true rfl) rfl dX12_join_127 ?_
    refine x_aload_n C rfl 1 rfl dX12_join_128 ?_
    refine x_getJ C (j := 60) ob358.1 ob358.2 (Nat.le_of_ble_eq_true rfl) (Nat.le_of_ble_eq_true rfl) rfl tw_9_26 dX12_join_129 ?_
    refine x_topl (fun y30 e_y30 => ?_)
    have h := h y30 e_y30
    refine x_lstore C [(5, .long y30), (3, .long y29), (0, .ref 358), (2, .int p2)] (Nat.le_of_ble_eq_true rfl) rfl dX12_join_132 ?_
    refine x_lload_n C rfl 1 rfl dX12_join_134 ?_
    refine x_lconst (v := 0) C (by decide) dX12_join_135 ?_
    refine x_lcmp C dX12_join_136 ?_
    refine x_if_ne (tgt := 143) C dX12_join_137 (by decide) (fun c31 => ?_) (fun c31 => ?_)
    · have h := h.1 c31
      refine x_aload_n C rfl 2 rfl dX12_join_143 ?_
      refine x_lconst (v := 0) C (by decide) dX12_join_144 ?_
      refine x_putJ C (j := 59) ob358.1 ob358.2 (Nat.le_of_ble_eq_true rfl) (Nat.le_of_ble_eq_true rfl) rfl rfl rfl rfl tw_9_25 dX12_join_145 ?_
      refine x_mu (fun μ32 e_μ32 => ?_)
      have h := h μ32 e_μ32
      refine x_aload_n C rfl 2 rfl dX12_join_148 ?_
      refine x_lconst (v := 1) C (by decide) dX12_join_149 ?_
      refine x_putJ C (j := 60) ob358.1 ob358.2 (Nat.le_of_ble_eq_true rfl) (Nat.le_of_ble_eq_true rfl) rfl rfl rfl rfl tw_9_26 dX12_join_150 ?_
      refine x_mu (fun μ33 e_μ33 => ?_)
      have h := h μ33 e_μ33
      refine x_iconst (v := 0) C (by decide) dX12_join_153 ?_
      refine x_istore C [(7, .int 0), (5, .long y30), (3, .long y29), (0, .ref 358), (2, .int p2)] (Nat.le_of_ble_eq_true rfl) rfl dX12_join_154 ?_
      refine x_sub [(0, .ref 358), (2, .int p2), (3, .long y29), (5, .long y30), (7, .int 0)] [3, 4, 2, 1, 0] rfl ?_
      exact G12_join_L156_ok C hd hr  h
    · have h := h.2 c31
      refine x_bipush (v := (-2)) C (by decide) dX12_join_140 ?_
      exact x_iret C hr dX12_join_142 ⟨_, rfl, h⟩
  · have h := h.2 c28
    refine x_aload_n C rfl 0 rfl dX12_join_55 ?_
    refine x_iload_n C rfl 1 rfl dX12_join_56 ?_
    refine x_iload_n C rfl 2 rfl dX12_join_57 ?_
    refine x_callV (dC := G12_countsBy_dep) (as := [.int p2, .int x.1]) (st := []) C rX kX (Nat.le_trans (Nat.le_of_ble_eq_true rfl) hd) (Nat.le_of_ble_eq_true rfl) ob358.1 ob358.2 (Nat.le_of_ble_eq_true rfl) rfl ts_10_13 tw_8_82 tw_8_80 tc_8_83 tw_1_13 hyX12 hnX12_countsBy rfl (Nat.le_of_ble_eq_true rfl) dX12_join_58 (G12_countsBy_met C.2.2.2.2.2.2.2.1 (Nat.le_refl _)  h) (fun r0 μ40 hq => ?_)
    obtain ⟨rfl, h⟩ := hq
    refine x_st [] rfl ?_
    refine x_aload_n C rfl 0 rfl dX12_join_61 ?_
    refine x_getR (r := 381) C (j := 36) ob358.1 ob358.2 (Nat.le_of_ble_eq_true rfl) (Nat.le_of_ble_eq_true rfl) (fun _ _ _ => rfl) r_358_36 tw_9_2 dX12_join_62 ?_
    refine x_iconst (v := 0) C (by decide) dX12_join_65 ?_
    refine x_iald C ob381.1 ob381.2 (by unfold vp_in; decide) (j := 0) (by decide) dX12_join_66 ?_
    refine x_aload_n C rfl 0 rfl dX12_join_67 ?_
    refine x_getR (r := 381) C (j := 36) ob358.1 ob358.2 (Nat.le_of_ble_eq_true rfl) (Nat.le_of_ble_eq_true rfl) (fun _ _ _ => rfl) r_358_36 tw_9_2 dX12_join_68 ?_
    refine x_iconst (v := 1) C (by decide) dX12_join_71 ?_
    refine x_iald C ob381.1 ob381.2 (by unfold vp_in; decide) (j := 1) (by decide) dX12_join_72 ?_
    refine x_iadd C dX12_join_73 ?_
    refine x_if_le (tgt := 117) C dX12_join_74 (by decide) (fun c41 => ?_) (fun c41 => ?_)
    · have h := h.1 c41
      refine x_iinc (v := (x.1 + 1)) C [(3, .int (x.1 + 1)), (0, .ref 358), (2, .int p2)] 2 rfl (congrArg (fun z => x.1 + z) (by decide : Int32.ofInt (1) = 1)) (Nat.le_of_ble_eq_true rfl) rfl dX12_join_117 ?_
      refine x_goto (tgt := 50) C dX12_join_120 (by decide) ?_
      refine x_sub [(0, .ref 358), (2, .int p2), (3, .int (x.1 + 1))] [1, 2, 0] rfl ?_
      exact hK50 _ _ h
    · have h := h.2 c41
      refine x_aload_n C rfl 0 rfl dX12_join_77 ?_
      refine x_aload_n C rfl 0 rfl dX12_join_78 ?_
      refine x_getR (r := 381) C (j := 36) ob358.1 ob358.2 (Nat.le_of_ble_eq_true rfl) (Nat.le_of_ble_eq_true rfl) (fun _ _ _ => rfl) r_358_36 tw_9_2 dX12_join_79 ?_
      refine x_iconst (v := 0) C (by decide) dX12_join_82 ?_
      refine x_iald C ob381.1 ob381.2 (by unfold vp_in; decide) (j := 0) (by decide) dX12_join_83 ?_
      refine x_aload_n C rfl 0 rfl dX12_join_84 ?_
      refine x_getR (r := 382) C (j := 37) ob358.1 ob358.2 (Nat.le_of_ble_eq_true rfl) (Nat.le_of_ble_eq_true rfl) (fun _ _ _ => rfl) r_358_37 tw_9_3 dX12_join_85 ?_
      refine x_iconst (v := 0) C (by decide) dX12_join_88 ?_
      refine x_iald C ob382.1 ob382.2 (by unfold vp_in; decide) (j := 0) (by decide) dX12_join_89 ?_
      refine x_isub C dX12_join_90 ?_
      refine x_i2l C dX12_join_91 ?_
      refine x_aload_n C rfl 0 rfl dX12_join_92 ?_
      refine x_getR (r := 382) C (j := 37) ob358.1 ob358.2 (Nat.le_of_ble_eq_true rfl) (Nat.le_of_ble_eq_true rfl) (fun _ _ _ => rfl) r_358_37 tw_9_3 dX12_join_93 ?_
      refine x_iconst (v := 1) C (by decide) dX12_join_96 ?_
      refine x_iald C ob382.1 ob382.2 (by unfold vp_in; decide) (j := 1) (by decide) dX12_join_97 ?_
      refine x_i2l C dX12_join_98 ?_
      refine x_lmul C dX12_join_99 ?_
      refine x_aload_n C rfl 0 rfl dX12_join_100 ?_
      refine x_getR (r := 381) C (j := 36) ob358.1 ob358.2 (Nat.le_of_ble_eq_true rfl) (Nat.le_of_ble_eq_true rfl) (fun _ _ _ => rfl) r_358_36 tw_9_2 dX12_join_101 ?_
      refine x_iconst (v := 0) C (by decide) dX12_join_104 ?_
      refine x_iald C ob381.1 ob381.2 (by unfold vp_in; decide) (j := 0) (by decide) dX12_join_105 ?_
      refine x_aload_n C rfl 0 rfl dX12_join_106 ?_
      refine x_getR (r := 381) C (j := 36) ob358.1 ob358.2 (Nat.le_of_ble_eq_true rfl) (Nat.le_of_ble_eq_true rfl) (fun _ _ _ => rfl) r_358_36 tw_9_2 dX12_join_107 ?_
      refine x_iconst (v := 1) C (by decide) dX12_join_110 ?_
      refine x_iald C ob381.1 ob381.2 (by unfold vp_in; decide) (j := 1) (by decide) dX12_join_111 ?_
      refine x_iadd C dX12_join_112 ?_
      refine x_i2l C dX12_join_113 ?_
      refine x_callV (dC := G12_sums_dep) (as := [.long ((((gI μ40 381 0) - (gI μ40 382 0)).toInt64) * ((gI μ40 382 1).toInt64)), .long (((gI μ40 381 0) + (gI μ40 381 1)).toInt64)]) (st := []) C rX kX (Nat.le_trans (Nat.le_of_ble_eq_true rfl) hd) (Nat.le_of_ble_eq_true rfl) ob358.1 ob358.2 (Nat.le_of_ble_eq_true rfl) rfl ts_10_15 tw_8_90 tw_8_88 tc_8_91 tw_1_13 hyX12 hnX12_sums rfl (Nat.le_of_ble_eq_true rfl) dX12_join_114 (G12_sums_met C.2.2.2.2.2.2.2.1 (Nat.le_refl _)  h) (fun r0 μ42 hq => ?_)
      obtain ⟨rfl, h⟩ := hq
      refine x_st [] rfl ?_
      refine x_iinc (v := (x.1 + 1)) C [(3, .int (x.1 + 1)), (0, .ref 358), (2, .int p2)] 2 rfl (congrArg (fun z => x.1 + z) (by decide : Int32.ofInt (1) = 1)) (Nat.le_of_ble_eq_true rfl) rfl dX12_join_117 ?_
      refine x_goto (tgt := 50) C dX12_join_120 (by decide) ?_
      refine x_sub [(0, .ref 358), (2, .int p2), (3, .int (x.1 + 1))] [1, 2, 0] rfl ?_
      exact hK50 _ _ h
theorem G12_join_L50_ok {p : Program} {e : Env} {s : State} {m : MethodId} {args : Array Value} {below : List Frame} {meth : Method} {c : Code} {l : Launch} {φ : Nat → Nat} {tc : Nat → ClassId} {D : va_G} {s0 : State} {dR : Nat} (C : CX p s m args meth c φ tc D (AX φ) s0 cX12_join RX12 8) (hd : G12_join_dep ≤ dR) (hr : meth.sig.returnType = (some .int))  {p2 : Int32} {Q : Int32 → MM → Prop}  {x : Int32 × MM}    (h : Lp (G12_join_L50 p2 Q) x) : WX p l e (rmX dR) s m args below meth c φ tc D (AX φ) 8 0 0 (MQ below (QX φ tc D (QI Q)) args s 0 0 (AX φ)) 50 [(0, .ref 358), (2, .int p2), (3, .int x.1)] [] x.2 := by
  obtain ⟨n, h⟩ := h
  induction n generalizing x with
  | zero => exact h.elim
  | succ n ih => exact G12_join_L50_b C hd hr   (fun z3 zμ hz => by have q := ih hz; exact q) h
set_option maxHeartbeats 4000000 in
set_option maxRecDepth 100000 in
theorem G12_join_met {l : Launch} {φ : Nat → Nat} {tc : Nat → ClassId} {D : va_G} {s0 : State} (hG : GX φ tc D s0) {dR : Nat} (hd : G12_join_dep ≤ dR) {v1 : Int32} {μ : MM} {Q : Int32 → MM → Prop}  (h : G12_join v1 μ Q) : MX l φ tc D s0 dR yX12_join cX12_join 8 (some .int) [.ref 358, .int v1] μ (QI Q) := by
  refine MX.of (own := RX12) hG plX12 rfl (Nat.le_of_ble_eq_true rfl) (fun p e s m args below meth c C hr => ?_)
  refine x_sub [(0, .ref 358), (1, .int v1)] [0, 1] rfl ?_
  unfold G12_join at h
  refine x_aload_n C rfl 0 rfl dX12_join_0 ?_
  refine x_iconst (v := 0) C (by decide) dX12_join_1 ?_
  refine x_putI C (j := 0) ob358.1 ob358.2 (Nat.le_of_ble_eq_true rfl) (Nat.le_of_ble_eq_true rfl) (Or.inl rfl) rfl rfl rfl tw_8_206 dX12_join_2 ?_
  refine x_mu (fun μ20 e_μ20 => ?_)
  have h := h μ20 e_μ20
  refine x_iload_n C rfl 1 rfl dX12_join_5 ?_
  refine x_i2l C dX12_join_6 ?_
  refine x_lconst (v := 0) C (by decide) dX12_join_7 ?_
  refine x_ldc2 (v := 2) C tw_7_127 dX12_join_8 ?_
  refine x_callS (dC := G12_in_dep) (as := [.long (v1.toInt64), .long 0, .long 2]) (st := []) C rX kX (Nat.le_trans (Nat.le_of_ble_eq_true rfl) hd) (Nat.le_of_ble_eq_true rfl) tw_6_183 tw_6_182 tc_6_184 tw_1_13 hyX12 hnX12_in rfl (Nat.le_of_ble_eq_true rfl) dX12_join_11 (G12_in_met C.2.2.2.2.2.2.2.1 (Nat.le_refl _)  h) (fun r0 μ21 hq => ?_)
  obtain ⟨r22, rfl, h⟩ := hq
  refine x_st [.int r22] rfl ?_
  refine x_if_ne (tgt := 19) C dX12_join_14 (by decide) (fun c23 => ?_) (fun c23 => ?_)
  · have h := h.1 c23
    refine x_iload_n C rfl 1 rfl dX12_join_19 ?_
    refine x_if_ne (tgt := 27) C dX12_join_20 (by decide) (fun c24 => ?_) (fun c24 => ?_)
    · have h := h.1 c24
      refine x_iload_n C rfl 1 rfl dX12_join_27 ?_
      refine x_iconst (v := 1) C (by decide) dX12_join_28 ?_
      refine x_icmp_ne (tgt := 36) C dX12_join_29 (by decide) (fun c25 => ?_) (fun c25 => ?_)
      · have h := h.1 c25
        refine x_iconst (v := 0) C (by decide) dX12_join_36 ?_
        refine x_istore_n C [(2, .int 0), (0, .ref 358), (1, .int v1)] rfl (Nat.le_of_ble_eq_true rfl) rfl dX12_join_37 ?_
        refine x_aload_n C rfl 1 rfl dX12_join_38 ?_
        refine x_lconst (v := 0) C (by decide) dX12_join_39 ?_
        refine x_putJ C (j := 59) ob358.1 ob358.2 (Nat.le_of_ble_eq_true rfl) (Nat.le_of_ble_eq_true rfl) rfl rfl rfl rfl tw_9_25 dX12_join_40 ?_
        refine x_mu (fun μ26 e_μ26 => ?_)
        have h := h μ26 e_μ26
        refine x_aload_n C rfl 1 rfl dX12_join_43 ?_
        refine x_lconst (v := 1) C (by decide) dX12_join_44 ?_
        refine x_putJ C (j := 60) ob358.1 ob358.2 (Nat.le_of_ble_eq_true rfl) (Nat.le_of_ble_eq_true rfl) rfl rfl rfl rfl tw_9_26 dX12_join_45 ?_
        refine x_mu (fun μ27 e_μ27 => ?_)
        have h := h μ27 e_μ27
        refine x_iconst (v := 0) C (by decide) dX12_join_48 ?_
        refine x_istore_n C [(3, .int 0), (2, .int 0), (0, .ref 358), (1, .int v1)] rfl (Nat.le_of_ble_eq_true rfl) rfl dX12_join_49 ?_
        refine x_sub [(0, .ref 358), (2, .int 0), (3, .int 0)] [2, 1, 0] rfl ?_
        exact G12_join_L50_ok C hd hr  h
      · have h := h.2 c25
        refine x_iconst (v := 2) C (by decide) dX12_join_32 ?_
        refine x_goto (tgt := 37) C dX12_join_33 (by decide) ?_
        refine x_istore_n C [(2, .int 2), (0, .ref 358), (1, .int v1)] rfl (Nat.le_of_ble_eq_true rfl) rfl dX12_join_37 ?_
        refine x_aload_n C rfl 1 rfl dX12_join_38 ?_
        refine x_lconst (v := 0) C (by decide) dX12_join_39 ?_
        refine x_putJ C (j := 59) ob358.1 ob358.2 (Nat.le_of_ble_eq_true rfl) (Nat.le_of_ble_eq_true rfl) rfl rfl rfl rfl tw_9_25 dX12_join_40 ?_
        refine x_mu (fun μ43 e_μ43 => ?_)
        have h := h μ43 e_μ43
        refine x_aload_n C rfl 1 rfl dX12_join_43 ?_
        refine x_lconst (v := 1) C (by decide) dX12_join_44 ?_
        refine x_putJ C (j := 60) ob358.1 ob358.2 (Nat.le_of_ble_eq_true rfl) (Nat.le_of_ble_eq_true rfl) rfl rfl rfl rfl tw_9_26 dX12_join_45 ?_
        refine x_mu (fun μ44 e_μ44 => ?_)
        have h := h μ44 e_μ44
        refine x_iconst (v := 0) C (by decide) dX12_join_48 ?_
        refine x_istore_n C [(3, .int 0), (2, .int 2), (0, .ref 358), (1, .int v1)] rfl (Nat.le_of_ble_eq_true rfl) rfl dX12_join_49 ?_
        refine x_sub [(0, .ref 358), (2, .int 2), (3, .int 0)] [2, 1, 0] rfl ?_
        exact G12_join_L50_ok C hd hr  h
    · have h := h.2 c24
      refine x_iconst (v := 1) C (by decide) dX12_join_23 ?_
      refine x_goto (tgt := 37) C dX12_join_24 (by decide) ?_
      refine x_istore_n C [(2, .int 1), (0, .ref 358), (1, .int v1)] rfl (Nat.le_of_ble_eq_true rfl) rfl dX12_join_37 ?_
      refine x_aload_n C rfl 1 rfl dX12_join_38 ?_
      refine x_lconst (v := 0) C (by decide) dX12_join_39 ?_
      refine x_putJ C (j := 59) ob358.1 ob358.2 (Nat.le_of_ble_eq_true rfl) (Nat.le_of_ble_eq_true rfl) rfl rfl rfl rfl tw_9_25 dX12_join_40 ?_
      refine x_mu (fun μ45 e_μ45 => ?_)
      have h := h μ45 e_μ45
      refine x_aload_n C rfl 1 rfl dX12_join_43 ?_
      refine x_lconst (v := 1) C (by decide) dX12_join_44 ?_
      refine x_putJ C (j := 60) ob358.1 ob358.2 (Nat.le_of_ble_eq_true rfl) (Nat.le_of_ble_eq_true rfl) rfl rfl rfl rfl tw_9_26 dX12_join_45 ?_
      refine x_mu (fun μ46 e_μ46 => ?_)
      have h := h μ46 e_μ46
      refine x_iconst (v := 0) C (by decide) dX12_join_48 ?_
      refine x_istore_n C [(3, .int 0), (2, .int 1), (0, .ref 358), (1, .int v1)] rfl (Nat.le_of_ble_eq_true rfl) rfl dX12_join_49 ?_
      refine x_sub [(0, .ref 358), (2, .int 1), (3, .int 0)] [2, 1, 0] rfl ?_
      exact G12_join_L50_ok C hd hr  h
  · have h := h.2 c23
    refine x_iconst (v := (-1)) C (by decide) dX12_join_17 ?_
    exact x_iret C hr dX12_join_18 ⟨_, rfl, h⟩
set_option maxHeartbeats 4000000 in
set_option maxRecDepth 100000 in
theorem G12_bounds_J108_ok {p : Program} {e : Env} {s : State} {m : MethodId} {args : Array Value} {below : List Frame} {meth : Method} {c : Code} {l : Launch} {φ : Nat → Nat} {tc : Nat → ClassId} {D : va_G} {s0 : State} {dR : Nat} (C : CX p s m args meth c φ tc D (AX φ) s0 cX12_bounds RX12 6) (hd : G12_bounds_dep ≤ dR) (hr : meth.sig.returnType = (some .int))   {p1 : Int32} {p2 : Int32} {p3 : Int32} {p5 : Int32} {q0 : Int32} {q1 : Int32} {Q : Int32 → MM → Prop} {K27 : Int32 × Int32 × Int32 × Int32 × MM → Prop} {μ : MM}   (hK27 : ∀ (z2 : Int32) (z3 : Int32) (z4 : Int32) (z5 : Int32) (zμ : MM), K27 (z2, z3, z4, z5, zμ) → WX p l e (rmX dR) s m args below meth c φ tc D (AX φ) 6 0 0 (MQ below (QX φ tc D (QI Q)) args s 0 0 (AX φ)) 27 [(0, .ref 358), (1, .int p1), (2, .int z2), (3, .int z3), (4, .int z4), (5, .int z5)] [] zμ) (h : G12_bounds_J108 p1 p2 p3 p5 q0 q1 μ K27 Q) : WX p l e (rmX dR) s m args below meth c φ tc D (AX φ) 6 0 0 (MQ below (QX φ tc D (QI Q)) args s 0 0 (AX φ)) 108 [(0, .ref 358), (1, .int p1), (2, .int p2), (3, .int p3), (5, .int p5)] [.int q0, .int q1] μ := by
  unfold G12_bounds_J108 at h
  refine x_callS (dC := G12_flag_dep) (as := [.int q0]) (st := [.int q1]) C rX kX (Nat.le_trans (Nat.le_of_ble_eq_true rfl) hd) (Nat.le_of_ble_eq_true rfl) tw_6_212 tw_6_211 tc_6_213 tw_1_13 hyX12 hnX12_flag rfl (Nat.le_of_ble_eq_true rfl) dX12_bounds_108 (G12_flag_met C.2.2.2.2.2.2.2.1 (Nat.le_refl _)  h) (fun r0 μ40 hq => ?_)
  obtain ⟨r41, rfl, h⟩ := hq
  refine x_st [.int r41, .int q1] rfl ?_
  refine x_iadd C dX12_bounds_111 ?_
  refine x_topi (fun y42 e_y42 => ?_)
  have h := h y42 e_y42
  refine x_istore C [(4, .int y42), (0, .ref 358), (1, .int p1), (2, .int p2), (3, .int p3), (5, .int p5)] (Nat.le_of_ble_eq_true rfl) rfl dX12_bounds_112 ?_
  refine x_iinc (v := (p5 + 1)) C [(5, .int (p5 + 1)), (4, .int y42), (0, .ref 358), (1, .int p1), (2, .int p2), (3, .int p3)] 5 rfl (congrArg (fun z => p5 + z) (by decide : Int32.ofInt (1) = 1)) (Nat.le_of_ble_eq_true rfl) rfl dX12_bounds_114 ?_
  refine x_goto (tgt := 27) C dX12_bounds_117 (by decide) ?_
  refine x_sub [(0, .ref 358), (1, .int p1), (2, .int p2), (3, .int p3), (4, .int y42), (5, .int (p5 + 1))] [2, 3, 4, 5, 1, 0] rfl ?_
  exact hK27 _ _ _ _ _ h
set_option maxHeartbeats 4000000 in
set_option maxRecDepth 100000 in
theorem G12_bounds_J107_ok {p : Program} {e : Env} {s : State} {m : MethodId} {args : Array Value} {below : List Frame} {meth : Method} {c : Code} {l : Launch} {φ : Nat → Nat} {tc : Nat → ClassId} {D : va_G} {s0 : State} {dR : Nat} (C : CX p s m args meth c φ tc D (AX φ) s0 cX12_bounds RX12 6) (hd : G12_bounds_dep ≤ dR) (hr : meth.sig.returnType = (some .int))   {p1 : Int32} {p2 : Int32} {p3 : Int32} {p5 : Int32} {q0 : Int32} {Q : Int32 → MM → Prop} {K27 : Int32 × Int32 × Int32 × Int32 × MM → Prop} {μ : MM}   (hK27 : ∀ (z2 : Int32) (z3 : Int32) (z4 : Int32) (z5 : Int32) (zμ : MM), K27 (z2, z3, z4, z5, zμ) → WX p l e (rmX dR) s m args below meth c φ tc D (AX φ) 6 0 0 (MQ below (QX φ tc D (QI Q)) args s 0 0 (AX φ)) 27 [(0, .ref 358), (1, .int p1), (2, .int z2), (3, .int z3), (4, .int z4), (5, .int z5)] [] zμ) (h : G12_bounds_J107 p1 p2 p3 p5 q0 μ K27 Q) : WX p l e (rmX dR) s m args below meth c φ tc D (AX φ) 6 0 0 (MQ below (QX φ tc D (QI Q)) args s 0 0 (AX φ)) 107 [(0, .ref 358), (1, .int p1), (2, .int p2), (3, .int p3), (5, .int p5)] [.int q0] μ := by
  unfold G12_bounds_J107 at h
  refine x_iconst (v := 0) C (by decide) dX12_bounds_107 ?_
  exact G12_bounds_J108_ok C hd hr hK27 h
set_option maxHeartbeats 4000000 in
set_option maxRecDepth 100000 in
theorem G12_bounds_J76_ok {p : Program} {e : Env} {s : State} {m : MethodId} {args : Array Value} {below : List Frame} {meth : Method} {c : Code} {l : Launch} {φ : Nat → Nat} {tc : Nat → ClassId} {D : va_G} {s0 : State} {dR : Nat} (C : CX p s m args meth c φ tc D (AX φ) s0 cX12_bounds RX12 6) (hd : G12_bounds_dep ≤ dR) (hr : meth.sig.returnType = (some .int))   {p1 : Int32} {p2 : Int32} {p4 : Int32} {p5 : Int32} {q0 : Int32} {q1 : Int32} {Q : Int32 → MM → Prop} {K27 : Int32 × Int32 × Int32 × Int32 × MM → Prop} {μ : MM}   (hK27 : ∀ (z2 : Int32) (z3 : Int32) (z4 : Int32) (z5 : Int32) (zμ : MM), K27 (z2, z3, z4, z5, zμ) → WX p l e (rmX dR) s m args below meth c φ tc D (AX φ) 6 0 0 (MQ below (QX φ tc D (QI Q)) args s 0 0 (AX φ)) 27 [(0, .ref 358), (1, .int p1), (2, .int z2), (3, .int z3), (4, .int z4), (5, .int z5)] [] zμ) (h : G12_bounds_J76 p1 p2 p4 p5 q0 q1 μ K27 Q) : WX p l e (rmX dR) s m args below meth c φ tc D (AX φ) 6 0 0 (MQ below (QX φ tc D (QI Q)) args s 0 0 (AX φ)) 76 [(0, .ref 358), (1, .int p1), (2, .int p2), (4, .int p4), (5, .int p5)] [.int q0, .int q1] μ := by
  unfold G12_bounds_J76 at h
  refine x_callS (dC := G12_flag_dep) (as := [.int q0]) (st := [.int q1]) C rX kX (Nat.le_trans (Nat.le_of_ble_eq_true rfl) hd) (Nat.le_of_ble_eq_true rfl) tw_6_212 tw_6_211 tc_6_213 tw_1_13 hyX12 hnX12_flag rfl (Nat.le_of_ble_eq_true rfl) dX12_bounds_76 (G12_flag_met C.2.2.2.2.2.2.2.1 (Nat.le_refl _)  h) (fun r0 μ35 hq => ?_)
  obtain ⟨r36, rfl, h⟩ := hq
  refine x_st [.int r36, .int q1] rfl ?_
  refine x_iadd C dX12_bounds_79 ?_
  refine x_topi (fun y37 e_y37 => ?_)
  have h := h y37 e_y37
  refine x_istore_n C [(3, .int y37), (0, .ref 358), (1, .int p1), (2, .int p2), (4, .int p4), (5, .int p5)] rfl (Nat.le_of_ble_eq_true rfl) rfl dX12_bounds_80 ?_
  refine x_iload C 4 rfl dX12_bounds_81 ?_
  refine x_aload_n C rfl 1 rfl dX12_bounds_83 ?_
  refine x_getR (r := 374) C (j := 20) ob358.1 ob358.2 (Nat.le_of_ble_eq_true rfl) (Nat.le_of_ble_eq_true rfl) (fun _ _ _ => rfl) r_358_20 tw_8_226 dX12_bounds_84 ?_
  refine x_iload C 5 rfl dX12_bounds_87 ?_
  obtain ⟨c38, h⟩ := h
  refine x_zald C ob374.1 ob374.2 c38 rfl dX12_bounds_89 ?_
  refine x_if_eq (tgt := 107) C dX12_bounds_90 (by decide) (fun c39 => ?_) (fun c39 => ?_)
  · have h := h.1 c39
    refine x_sub [(0, .ref 358), (1, .int p1), (2, .int p2), (3, .int y37), (5, .int p5)] [1, 2, 3, 0, 5] rfl ?_
    exact G12_bounds_J107_ok C hd hr hK27 h
  · have h := h.2 c39
    refine x_aload_n C rfl 1 rfl dX12_bounds_93 ?_
    refine x_getR (r := 375) C (j := 21) ob358.1 ob358.2 (Nat.le_of_ble_eq_true rfl) (Nat.le_of_ble_eq_true rfl) (fun _ _ _ => rfl) r_358_21 tw_8_227 dX12_bounds_94 ?_
    refine x_iload C 5 rfl dX12_bounds_97 ?_
    obtain ⟨c43, h⟩ := h
    refine x_iald C ob375.1 ob375.2 c43 rfl dX12_bounds_99 ?_
    refine x_if_ne (tgt := 107) C dX12_bounds_100 (by decide) (fun c44 => ?_) (fun c44 => ?_)
    · have h := h.1 c44
      refine x_sub [(0, .ref 358), (1, .int p1), (2, .int p2), (3, .int y37), (5, .int p5)] [1, 2, 3, 0, 5] rfl ?_
      exact G12_bounds_J107_ok C hd hr hK27 h
    · have h := h.2 c44
      refine x_iconst (v := 1) C (by decide) dX12_bounds_103 ?_
      refine x_goto (tgt := 108) C dX12_bounds_104 (by decide) ?_
      refine x_sub [(0, .ref 358), (1, .int p1), (2, .int p2), (3, .int y37), (5, .int p5)] [1, 2, 3, 0, 5] rfl ?_
      exact G12_bounds_J108_ok C hd hr hK27 h
set_option maxHeartbeats 4000000 in
set_option maxRecDepth 100000 in
theorem G12_bounds_L27_b {p : Program} {e : Env} {s : State} {m : MethodId} {args : Array Value} {below : List Frame} {meth : Method} {c : Code} {l : Launch} {φ : Nat → Nat} {tc : Nat → ClassId} {D : va_G} {s0 : State} {dR : Nat} (C : CX p s m args meth c φ tc D (AX φ) s0 cX12_bounds RX12 6) (hd : G12_bounds_dep ≤ dR) (hr : meth.sig.returnType = (some .int))  {p1 : Int32} {Q : Int32 → MM → Prop} {K27 : Int32 × Int32 × Int32 × Int32 × MM → Prop} {x : Int32 × Int32 × Int32 × Int32 × MM}   (hK27 : ∀ (z2 : Int32) (z3 : Int32) (z4 : Int32) (z5 : Int32) (zμ : MM), K27 (z2, z3, z4, z5, zμ) → WX p l e (rmX dR) s m args below meth c φ tc D (AX φ) 6 0 0 (MQ below (QX φ tc D (QI Q)) args s 0 0 (AX φ)) 27 [(0, .ref 358), (1, .int p1), (2, .int z2), (3, .int z3), (4, .int z4), (5, .int z5)] [] zμ) (h : G12_bounds_L27 p1 Q K27 x) : WX p l e (rmX dR) s m args below meth c φ tc D (AX φ) 6 0 0 (MQ below (QX φ tc D (QI Q)) args s 0 0 (AX φ)) 27 [(0, .ref 358), (1, .int p1), (2, .int x.1), (3, .int x.2.1), (4, .int x.2.2.1), (5, .int x.2.2.2.1)] [] x.2.2.2.2 := by
  unfold G12_bounds_L27 at h
  refine x_iload C 5 rfl dX12_bounds_27 ?_
  refine x_aload_n C rfl 0 rfl dX12_bounds_29 ?_
  refine x_getI C (j := 12) ob358.1 ob358.2 (Nat.le_of_ble_eq_true rfl) (Nat.le_of_ble_eq_true rfl) (Or.inl rfl) tw_8_218 dX12_bounds_30 ?_
  refine x_icmp_ge (tgt := 120) C dX12_bounds_33 (by decide) (fun c23 => ?_) (fun c23 => ?_)
  · have h := h.1 c23
    refine x_iload_n C rfl 2 rfl dX12_bounds_120 ?_
    refine x_if_ne (tgt := 127) C dX12_bounds_121 (by decide) (fun c24 => ?_) (fun c24 => ?_)
    · have h := h.1 c24
      refine x_aload_n C rfl 0 rfl dX12_bounds_127 ?_
      refine x_iconst (v := 0) C (by decide) dX12_bounds_128 ?_
      refine x_putI C (j := 1) ob358.1 ob358.2 (Nat.le_of_ble_eq_true rfl) (Nat.le_of_ble_eq_true rfl) (Or.inl rfl) rfl rfl rfl tw_8_207 dX12_bounds_129 ?_
      refine x_mu (fun μ25 e_μ25 => ?_)
      have h := h μ25 e_μ25
      refine x_aload_n C rfl 0 rfl dX12_bounds_132 ?_
      refine x_iload_n C rfl 3 rfl dX12_bounds_133 ?_
      refine x_i2l C dX12_bounds_134 ?_
      refine x_iload_n C rfl 2 rfl dX12_bounds_135 ?_
      refine x_i2l C dX12_bounds_136 ?_
      refine x_callV (dC := G12_entersFraction_dep) (as := [.long (x.2.1.toInt64), .long (x.1.toInt64)]) (st := []) C rX kX (Nat.le_trans (Nat.le_of_ble_eq_true rfl) hd) (Nat.le_of_ble_eq_true rfl) ob358.1 ob358.2 (Nat.le_of_ble_eq_true rfl) rfl ts_10_0 tw_7_154 tw_7_152 tc_7_155 tw_1_13 hyX12 hnX12_entersFraction rfl (Nat.le_of_ble_eq_true rfl) dX12_bounds_137 (G12_entersFraction_met C.2.2.2.2.2.2.2.1 (Nat.le_refl _)  h) (fun r0 μ26 hq => ?_)
      obtain ⟨rfl, h⟩ := hq
      refine x_st [] rfl ?_
      refine x_aload_n C rfl 0 rfl dX12_bounds_140 ?_
      refine x_iload_n C rfl 3 rfl dX12_bounds_141 ?_
      refine x_iload C 4 rfl dX12_bounds_142 ?_
      refine x_iadd C dX12_bounds_144 ?_
      refine x_i2l C dX12_bounds_145 ?_
      refine x_iload_n C rfl 2 rfl dX12_bounds_146 ?_
      refine x_i2l C dX12_bounds_147 ?_
      refine x_callV (dC := G12_entersFraction_dep) (as := [.long ((x.2.1 + x.2.2.1).toInt64), .long (x.1.toInt64)]) (st := []) C rX kX (Nat.le_trans (Nat.le_of_ble_eq_true rfl) hd) (Nat.le_of_ble_eq_true rfl) ob358.1 ob358.2 (Nat.le_of_ble_eq_true rfl) rfl ts_10_0 tw_7_154 tw_7_152 tc_7_155 tw_1_13 hyX12 hnX12_entersFraction rfl (Nat.le_of_ble_eq_true rfl) dX12_bounds_148 (G12_entersFraction_met C.2.2.2.2.2.2.2.1 (Nat.le_refl _)  h) (fun r0 μ27 hq => ?_)
      obtain ⟨rfl, h⟩ := hq
      refine x_st [] rfl ?_
      refine x_iload C 4 rfl dX12_bounds_151 ?_
      exact x_iret C hr dX12_bounds_153 ⟨_, rfl, h⟩
    · have h := h.2 c24
      refine x_bipush (v := (-2)) C (by decide) dX12_bounds_124 ?_
      exact x_iret C hr dX12_bounds_126 ⟨_, rfl, h⟩
  · have h := h.2 c23
    refine x_aload_n C rfl 0 rfl dX12_bounds_36 ?_
    refine x_getR (r := 373) C (j := 19) ob358.1 ob358.2 (Nat.le_of_ble_eq_true rfl) (Nat.le_of_ble_eq_true rfl) (fun _ _ _ => rfl) r_358_19 tw_8_225 dX12_bounds_37 ?_
    refine x_iload C 5 rfl dX12_bounds_40 ?_
    obtain ⟨c28, h⟩ := h
    refine x_zald C ob373.1 ob373.2 c28 rfl dX12_bounds_42 ?_
    refine x_if_eq (tgt := 114) C dX12_bounds_43 (by decide) (fun c29 => ?_) (fun c29 => ?_)
    · have h := h.1 c29
      refine x_iinc (v := (x.2.2.2.1 + 1)) C [(5, .int (x.2.2.2.1 + 1)), (0, .ref 358), (1, .int p1), (2, .int x.1), (3, .int x.2.1), (4, .int x.2.2.1)] 5 rfl (congrArg (fun z => x.2.2.2.1 + z) (by decide : Int32.ofInt (1) = 1)) (Nat.le_of_ble_eq_true rfl) rfl dX12_bounds_114 ?_
      refine x_goto (tgt := 27) C dX12_bounds_117 (by decide) ?_
      refine x_sub [(0, .ref 358), (1, .int p1), (2, .int x.1), (3, .int x.2.1), (4, .int x.2.2.1), (5, .int (x.2.2.2.1 + 1))] [1, 2, 3, 4, 5, 0] rfl ?_
      exact hK27 _ _ _ _ _ h
    · have h := h.2 c29
      refine x_aload_n C rfl 0 rfl dX12_bounds_46 ?_
      refine x_iload C 5 rfl dX12_bounds_47 ?_
      refine x_callV (dC := G12_peopleOf_dep) (as := [.int x.2.2.2.1]) (st := []) C rX kX (Nat.le_trans (Nat.le_of_ble_eq_true rfl) hd) (Nat.le_of_ble_eq_true rfl) ob358.1 ob358.2 (Nat.le_of_ble_eq_true rfl) rfl ts_9_15 tw_7_150 tw_7_148 tc_7_151 tw_1_13 hyX12 hnX12_peopleOf rfl (Nat.le_of_ble_eq_true rfl) dX12_bounds_49 (G12_peopleOf_met C.2.2.2.2.2.2.2.1 (Nat.le_refl _)  h) (fun r0 μ30 hq => ?_)
      obtain ⟨r31, rfl, h⟩ := hq
      refine x_st [.int r31] rfl ?_
      refine x_iload_n C rfl 1 rfl dX12_bounds_52 ?_
      refine x_icmp_ne (tgt := 114) C dX12_bounds_53 (by decide) (fun c32 => ?_) (fun c32 => ?_)
      · have h := h.1 c32
        refine x_iinc (v := (x.2.2.2.1 + 1)) C [(5, .int (x.2.2.2.1 + 1)), (0, .ref 358), (1, .int p1), (2, .int x.1), (3, .int x.2.1), (4, .int x.2.2.1)] 5 rfl (congrArg (fun z => x.2.2.2.1 + z) (by decide : Int32.ofInt (1) = 1)) (Nat.le_of_ble_eq_true rfl) rfl dX12_bounds_114 ?_
        refine x_goto (tgt := 27) C dX12_bounds_117 (by decide) ?_
        refine x_sub [(0, .ref 358), (1, .int p1), (2, .int x.1), (3, .int x.2.1), (4, .int x.2.2.1), (5, .int (x.2.2.2.1 + 1))] [1, 2, 3, 4, 5, 0] rfl ?_
        exact hK27 _ _ _ _ _ h
      · have h := h.2 c32
        refine x_iinc (v := (x.1 + 1)) C [(2, .int (x.1 + 1)), (0, .ref 358), (1, .int p1), (3, .int x.2.1), (4, .int x.2.2.1), (5, .int x.2.2.2.1)] 2 rfl (congrArg (fun z => x.1 + z) (by decide : Int32.ofInt (1) = 1)) (Nat.le_of_ble_eq_true rfl) rfl dX12_bounds_56 ?_
        refine x_iload_n C rfl 3 rfl dX12_bounds_59 ?_
        refine x_aload_n C rfl 1 rfl dX12_bounds_60 ?_
        refine x_getR (r := 375) C (j := 21) ob358.1 ob358.2 (Nat.le_of_ble_eq_true rfl) (Nat.le_of_ble_eq_true rfl) (fun _ _ _ => rfl) r_358_21 tw_8_227 dX12_bounds_61 ?_
        refine x_iload C 5 rfl dX12_bounds_64 ?_
        obtain ⟨c33, h⟩ := h
        refine x_iald C ob375.1 ob375.2 c33 rfl dX12_bounds_66 ?_
        refine x_iconst (v := 1) C (by decide) dX12_bounds_67 ?_
        refine x_icmp_ne (tgt := 75) C dX12_bounds_68 (by decide) (fun c34 => ?_) (fun c34 => ?_)
        · have h := h.1 c34
          refine x_iconst (v := 0) C (by decide) dX12_bounds_75 ?_
          refine x_sub [(0, .ref 358), (1, .int p1), (2, .int (x.1 + 1)), (4, .int x.2.2.1), (5, .int x.2.2.2.1)] [1, 2, 0, 4, 5] rfl ?_
          exact G12_bounds_J76_ok C hd hr hK27 h
        · have h := h.2 c34
          refine x_iconst (v := 1) C (by decide) dX12_bounds_71 ?_
          refine x_goto (tgt := 76) C dX12_bounds_72 (by decide) ?_
          refine x_sub [(0, .ref 358), (1, .int p1), (2, .int (x.1 + 1)), (4, .int x.2.2.1), (5, .int x.2.2.2.1)] [1, 2, 0, 4, 5] rfl ?_
          exact G12_bounds_J76_ok C hd hr hK27 h
theorem G12_bounds_L27_ok {p : Program} {e : Env} {s : State} {m : MethodId} {args : Array Value} {below : List Frame} {meth : Method} {c : Code} {l : Launch} {φ : Nat → Nat} {tc : Nat → ClassId} {D : va_G} {s0 : State} {dR : Nat} (C : CX p s m args meth c φ tc D (AX φ) s0 cX12_bounds RX12 6) (hd : G12_bounds_dep ≤ dR) (hr : meth.sig.returnType = (some .int))  {p1 : Int32} {Q : Int32 → MM → Prop}  {x : Int32 × Int32 × Int32 × Int32 × MM}    (h : Lp (G12_bounds_L27 p1 Q) x) : WX p l e (rmX dR) s m args below meth c φ tc D (AX φ) 6 0 0 (MQ below (QX φ tc D (QI Q)) args s 0 0 (AX φ)) 27 [(0, .ref 358), (1, .int p1), (2, .int x.1), (3, .int x.2.1), (4, .int x.2.2.1), (5, .int x.2.2.2.1)] [] x.2.2.2.2 := by
  obtain ⟨n, h⟩ := h
  induction n generalizing x with
  | zero => exact h.elim
  | succ n ih => exact G12_bounds_L27_b C hd hr   (fun z2 z3 z4 z5 zμ hz => by have q := ih hz; exact q) h
set_option maxHeartbeats 4000000 in
set_option maxRecDepth 100000 in
theorem G12_bounds_met {l : Launch} {φ : Nat → Nat} {tc : Nat → ClassId} {D : va_G} {s0 : State} (hG : GX φ tc D s0) {dR : Nat} (hd : G12_bounds_dep ≤ dR) {v1 : Int32} {μ : MM} {Q : Int32 → MM → Prop}  (h : G12_bounds v1 μ Q) : MX l φ tc D s0 dR yX12_bounds cX12_bounds 6 (some .int) [.ref 358, .int v1] μ (QI Q) := by
  refine MX.of (own := RX12) hG plX12 rfl (Nat.le_of_ble_eq_true rfl) (fun p e s m args below meth c C hr => ?_)
  refine x_sub [(0, .ref 358), (1, .int v1)] [0, 1] rfl ?_
  unfold G12_bounds at h
  refine x_aload_n C rfl 0 rfl dX12_bounds_0 ?_
  refine x_iconst (v := 0) C (by decide) dX12_bounds_1 ?_
  refine x_putI C (j := 0) ob358.1 ob358.2 (Nat.le_of_ble_eq_true rfl) (Nat.le_of_ble_eq_true rfl) (Or.inl rfl) rfl rfl rfl tw_8_206 dX12_bounds_2 ?_
  refine x_mu (fun μ19 e_μ19 => ?_)
  have h := h μ19 e_μ19
  refine x_iload_n C rfl 1 rfl dX12_bounds_5 ?_
  refine x_i2l C dX12_bounds_6 ?_
  refine x_lconst (v := 0) C (by decide) dX12_bounds_7 ?_
  refine x_lconst (v := 1) C (by decide) dX12_bounds_8 ?_
  refine x_callS (dC := G12_in_dep) (as := [.long (v1.toInt64), .long 0, .long 1]) (st := []) C rX kX (Nat.le_trans (Nat.le_of_ble_eq_true rfl) hd) (Nat.le_of_ble_eq_true rfl) tw_6_183 tw_6_182 tc_6_184 tw_1_13 hyX12 hnX12_in rfl (Nat.le_of_ble_eq_true rfl) dX12_bounds_9 (G12_in_met C.2.2.2.2.2.2.2.1 (Nat.le_refl _)  h) (fun r0 μ20 hq => ?_)
  obtain ⟨r21, rfl, h⟩ := hq
  refine x_st [.int r21] rfl ?_
  refine x_if_ne (tgt := 17) C dX12_bounds_12 (by decide) (fun c22 => ?_) (fun c22 => ?_)
  · have h := h.1 c22
    refine x_iconst (v := 0) C (by decide) dX12_bounds_17 ?_
    refine x_istore_n C [(2, .int 0), (0, .ref 358), (1, .int v1)] rfl (Nat.le_of_ble_eq_true rfl) rfl dX12_bounds_18 ?_
    refine x_iconst (v := 0) C (by decide) dX12_bounds_19 ?_
    refine x_istore_n C [(3, .int 0), (2, .int 0), (0, .ref 358), (1, .int v1)] rfl (Nat.le_of_ble_eq_true rfl) rfl dX12_bounds_20 ?_
    refine x_iconst (v := 0) C (by decide) dX12_bounds_21 ?_
    refine x_istore C [(4, .int 0), (3, .int 0), (2, .int 0), (0, .ref 358), (1, .int v1)] (Nat.le_of_ble_eq_true rfl) rfl dX12_bounds_22 ?_
    refine x_iconst (v := 0) C (by decide) dX12_bounds_24 ?_
    refine x_istore C [(5, .int 0), (4, .int 0), (3, .int 0), (2, .int 0), (0, .ref 358), (1, .int v1)] (Nat.le_of_ble_eq_true rfl) rfl dX12_bounds_25 ?_
    refine x_sub [(0, .ref 358), (1, .int v1), (2, .int 0), (3, .int 0), (4, .int 0), (5, .int 0)] [4, 5, 3, 2, 1, 0] rfl ?_
    exact G12_bounds_L27_ok C hd hr  h
  · have h := h.2 c22
    refine x_iconst (v := (-1)) C (by decide) dX12_bounds_15 ?_
    exact x_iret C hr dX12_bounds_16 ⟨_, rfl, h⟩
set_option maxHeartbeats 4000000 in
set_option maxRecDepth 100000 in
theorem G12_countsWorth_L16_b {p : Program} {e : Env} {s : State} {m : MethodId} {args : Array Value} {below : List Frame} {meth : Method} {c : Code} {l : Launch} {φ : Nat → Nat} {tc : Nat → ClassId} {D : va_G} {s0 : State} {dR : Nat} (C : CX p s m args meth c φ tc D (AX φ) s0 cX12_countsWorth RX12 4) (hd : G12_countsWorth_dep ≤ dR) (hr : meth.sig.returnType = none)  {p1 : Int32} {p2 : Int32} {Q : MM → Prop} {K16 : Int32 × MM → Prop} {x : Int32 × MM}   (hK16 : ∀ (z3 : Int32) (zμ : MM), K16 (z3, zμ) → WX p l e (rmX dR) s m args below meth c φ tc D (AX φ) 4 0 0 (MQ below (QX φ tc D (QV Q)) args s 0 0 (AX φ)) 16 [(0, .ref 358), (1, .int p1), (2, .int p2), (3, .int z3)] [] zμ) (h : G12_countsWorth_L16 p1 p2 Q K16 x) : WX p l e (rmX dR) s m args below meth c φ tc D (AX φ) 4 0 0 (MQ below (QX φ tc D (QV Q)) args s 0 0 (AX φ)) 16 [(0, .ref 358), (1, .int p1), (2, .int p2), (3, .int x.1)] [] x.2 := by
  unfold G12_countsWorth_L16 at h
  refine x_iload_n C rfl 3 rfl dX12_countsWorth_16 ?_
  refine x_aload_n C rfl 0 rfl dX12_countsWorth_17 ?_
  refine x_getI C (j := 12) ob358.1 ob358.2 (Nat.le_of_ble_eq_true rfl) (Nat.le_of_ble_eq_true rfl) (Or.inl rfl) tw_8_218 dX12_countsWorth_18 ?_
  refine x_icmp_ge (tgt := 86) C dX12_countsWorth_21 (by decide) (fun c22 => ?_) (fun c22 => ?_)
  · have h := h.1 c22
    exact x_vret C hr dX12_countsWorth_86 ⟨rfl, h⟩
  · have h := h.2 c22
    refine x_aload_n C rfl 0 rfl dX12_countsWorth_24 ?_
    refine x_getR (r := 373) C (j := 19) ob358.1 ob358.2 (Nat.le_of_ble_eq_true rfl) (Nat.le_of_ble_eq_true rfl) (fun _ _ _ => rfl) r_358_19 tw_8_225 dX12_countsWorth_25 ?_
    refine x_iload_n C rfl 3 rfl dX12_countsWorth_28 ?_
    obtain ⟨c23, h⟩ := h
    refine x_zald C ob373.1 ob373.2 c23 rfl dX12_countsWorth_29 ?_
    refine x_if_eq (tgt := 80) C dX12_countsWorth_30 (by decide) (fun c24 => ?_) (fun c24 => ?_)
    · have h := h.1 c24
      refine x_iinc (v := (x.1 + 1)) C [(3, .int (x.1 + 1)), (0, .ref 358), (1, .int p1), (2, .int p2)] 3 rfl (congrArg (fun z => x.1 + z) (by decide : Int32.ofInt (1) = 1)) (Nat.le_of_ble_eq_true rfl) rfl dX12_countsWorth_80 ?_
      refine x_goto (tgt := 16) C dX12_countsWorth_83 (by decide) ?_
      refine x_sub [(0, .ref 358), (1, .int p1), (2, .int p2), (3, .int (x.1 + 1))] [1, 2, 3, 0] rfl ?_
      exact hK16 _ _ h
    · have h := h.2 c24
      refine x_aload_n C rfl 0 rfl dX12_countsWorth_33 ?_
      refine x_iload_n C rfl 3 rfl dX12_countsWorth_34 ?_
      refine x_callV (dC := G12_peopleOf_dep) (as := [.int x.1]) (st := []) C rX kX (Nat.le_trans (Nat.le_of_ble_eq_true rfl) hd) (Nat.le_of_ble_eq_true rfl) ob358.1 ob358.2 (Nat.le_of_ble_eq_true rfl) rfl ts_9_15 tw_7_150 tw_7_148 tc_7_151 tw_1_13 hyX12 hnX12_peopleOf rfl (Nat.le_of_ble_eq_true rfl) dX12_countsWorth_35 (G12_peopleOf_met C.2.2.2.2.2.2.2.1 (Nat.le_refl _)  h) (fun r0 μ25 hq => ?_)
      obtain ⟨r26, rfl, h⟩ := hq
      refine x_st [.int r26] rfl ?_
      refine x_iload_n C rfl 1 rfl dX12_countsWorth_38 ?_
      refine x_icmp_ne (tgt := 80) C dX12_countsWorth_39 (by decide) (fun c27 => ?_) (fun c27 => ?_)
      · have h := h.1 c27
        refine x_iinc (v := (x.1 + 1)) C [(3, .int (x.1 + 1)), (0, .ref 358), (1, .int p1), (2, .int p2)] 3 rfl (congrArg (fun z => x.1 + z) (by decide : Int32.ofInt (1) = 1)) (Nat.le_of_ble_eq_true rfl) rfl dX12_countsWorth_80 ?_
        refine x_goto (tgt := 16) C dX12_countsWorth_83 (by decide) ?_
        refine x_sub [(0, .ref 358), (1, .int p1), (2, .int p2), (3, .int (x.1 + 1))] [1, 2, 3, 0] rfl ?_
        exact hK16 _ _ h
      · have h := h.2 c27
        refine x_aload_n C rfl 0 rfl dX12_countsWorth_42 ?_
        refine x_getR (r := 369) C (j := 15) ob358.1 ob358.2 (Nat.le_of_ble_eq_true rfl) (Nat.le_of_ble_eq_true rfl) (fun _ _ _ => rfl) r_358_15 tw_8_221 dX12_countsWorth_43 ?_
        refine x_iload_n C rfl 3 rfl dX12_countsWorth_46 ?_
        obtain ⟨c28, h⟩ := h
        refine x_iald C ob369.1 ob369.2 c28 rfl dX12_countsWorth_47 ?_
        refine x_iload_n C rfl 2 rfl dX12_countsWorth_48 ?_
        refine x_icmp_lt (tgt := 80) C dX12_countsWorth_49 (by decide) (fun c29 => ?_) (fun c29 => ?_)
        · have h := h.1 c29
          refine x_iinc (v := (x.1 + 1)) C [(3, .int (x.1 + 1)), (0, .ref 358), (1, .int p1), (2, .int p2)] 3 rfl (congrArg (fun z => x.1 + z) (by decide : Int32.ofInt (1) = 1)) (Nat.le_of_ble_eq_true rfl) rfl dX12_countsWorth_80 ?_
          refine x_goto (tgt := 16) C dX12_countsWorth_83 (by decide) ?_
          refine x_sub [(0, .ref 358), (1, .int p1), (2, .int p2), (3, .int (x.1 + 1))] [1, 2, 3, 0] rfl ?_
          exact hK16 _ _ h
        · have h := h.2 c29
          refine x_aload_n C rfl 0 rfl dX12_countsWorth_52 ?_
          refine x_getR (r := 381) C (j := 36) ob358.1 ob358.2 (Nat.le_of_ble_eq_true rfl) (Nat.le_of_ble_eq_true rfl) (fun _ _ _ => rfl) r_358_36 tw_9_2 dX12_countsWorth_53 ?_
          refine x_iload_n C rfl 1 rfl dX12_countsWorth_56 ?_
          refine x_dup2_11 C rfl rfl dX12_countsWorth_57 ?_
          obtain ⟨c30, h⟩ := h
          refine x_iald C ob381.1 ob381.2 c30 rfl dX12_countsWorth_58 ?_
          refine x_iconst (v := 1) C (by decide) dX12_countsWorth_59 ?_
          refine x_iadd C dX12_countsWorth_60 ?_
          obtain ⟨c31, h⟩ := h
          refine x_iast C ob381.1 ob381.2 c31 rfl dX12_countsWorth_61 ?_
          refine x_mu (fun μ32 e_μ32 => ?_)
          have h := h μ32 e_μ32
          refine x_aload_n C rfl 0 rfl dX12_countsWorth_62 ?_
          refine x_getR (r := 382) C (j := 37) ob358.1 ob358.2 (Nat.le_of_ble_eq_true rfl) (Nat.le_of_ble_eq_true rfl) (fun _ _ _ => rfl) r_358_37 tw_9_3 dX12_countsWorth_63 ?_
          refine x_iload_n C rfl 1 rfl dX12_countsWorth_66 ?_
          refine x_dup2_11 C rfl rfl dX12_countsWorth_67 ?_
          obtain ⟨c33, h⟩ := h
          refine x_iald C ob382.1 ob382.2 c33 rfl dX12_countsWorth_68 ?_
          refine x_aload_n C rfl 0 rfl dX12_countsWorth_69 ?_
          refine x_getR (r := 374) C (j := 20) ob358.1 ob358.2 (Nat.le_of_ble_eq_true rfl) (Nat.le_of_ble_eq_true rfl) (fun _ _ _ => rfl) r_358_20 tw_8_226 dX12_countsWorth_70 ?_
          refine x_iload_n C rfl 3 rfl dX12_countsWorth_73 ?_
          obtain ⟨c34, h⟩ := h
          refine x_zald C ob374.1 ob374.2 c34 rfl dX12_countsWorth_74 ?_
          refine x_callS (dC := G12_flag_dep) (as := [.int (gI μ32 374 x.1.toNatClampNeg)]) (st := [.int (gI μ32 382 p1.toNatClampNeg), .int p1, .ref 382]) C rX kX (Nat.le_trans (Nat.le_of_ble_eq_true rfl) hd) (Nat.le_of_ble_eq_true rfl) tw_6_212 tw_6_211 tc_6_213 tw_1_13 hyX12 hnX12_flag rfl (Nat.le_of_ble_eq_true rfl) dX12_countsWorth_75 (G12_flag_met C.2.2.2.2.2.2.2.1 (Nat.le_refl _)  h) (fun r0 μ35 hq => ?_)
          obtain ⟨r36, rfl, h⟩ := hq
          refine x_st [.int r36, .int (gI μ32 382 p1.toNatClampNeg), .int p1, .ref 382] rfl ?_
          refine x_iadd C dX12_countsWorth_78 ?_
          obtain ⟨c37, h⟩ := h
          refine x_iast C ob382.1 ob382.2 c37 rfl dX12_countsWorth_79 ?_
          refine x_mu (fun μ38 e_μ38 => ?_)
          have h := h μ38 e_μ38
          refine x_iinc (v := (x.1 + 1)) C [(3, .int (x.1 + 1)), (0, .ref 358), (1, .int p1), (2, .int p2)] 3 rfl (congrArg (fun z => x.1 + z) (by decide : Int32.ofInt (1) = 1)) (Nat.le_of_ble_eq_true rfl) rfl dX12_countsWorth_80 ?_
          refine x_goto (tgt := 16) C dX12_countsWorth_83 (by decide) ?_
          refine x_sub [(0, .ref 358), (1, .int p1), (2, .int p2), (3, .int (x.1 + 1))] [1, 2, 3, 0] rfl ?_
          exact hK16 _ _ h
theorem G12_countsWorth_L16_ok {p : Program} {e : Env} {s : State} {m : MethodId} {args : Array Value} {below : List Frame} {meth : Method} {c : Code} {l : Launch} {φ : Nat → Nat} {tc : Nat → ClassId} {D : va_G} {s0 : State} {dR : Nat} (C : CX p s m args meth c φ tc D (AX φ) s0 cX12_countsWorth RX12 4) (hd : G12_countsWorth_dep ≤ dR) (hr : meth.sig.returnType = none)  {p1 : Int32} {p2 : Int32} {Q : MM → Prop}  {x : Int32 × MM}    (h : Lp (G12_countsWorth_L16 p1 p2 Q) x) : WX p l e (rmX dR) s m args below meth c φ tc D (AX φ) 4 0 0 (MQ below (QX φ tc D (QV Q)) args s 0 0 (AX φ)) 16 [(0, .ref 358), (1, .int p1), (2, .int p2), (3, .int x.1)] [] x.2 := by
  obtain ⟨n, h⟩ := h
  induction n generalizing x with
  | zero => exact h.elim
  | succ n ih => exact G12_countsWorth_L16_b C hd hr   (fun z3 zμ hz => by have q := ih hz; exact q) h
set_option maxHeartbeats 4000000 in
set_option maxRecDepth 100000 in
theorem G12_countsWorth_met {l : Launch} {φ : Nat → Nat} {tc : Nat → ClassId} {D : va_G} {s0 : State} (hG : GX φ tc D s0) {dR : Nat} (hd : G12_countsWorth_dep ≤ dR) {v1 : Int32} {v2 : Int32} {μ : MM} {Q : MM → Prop}  (h : G12_countsWorth v1 v2 μ Q) : MX l φ tc D s0 dR yX12_countsWorth cX12_countsWorth 4 none [.ref 358, .int v1, .int v2] μ (QV Q) := by
  refine MX.of (own := RX12) hG plX12 rfl (Nat.le_of_ble_eq_true rfl) (fun p e s m args below meth c C hr => ?_)
  refine x_sub [(0, .ref 358), (1, .int v1), (2, .int v2)] [0, 1, 2] rfl ?_
  unfold G12_countsWorth at h
  refine x_aload_n C rfl 0 rfl dX12_countsWorth_0 ?_
  refine x_getR (r := 381) C (j := 36) ob358.1 ob358.2 (Nat.le_of_ble_eq_true rfl) (Nat.le_of_ble_eq_true rfl) (fun _ _ _ => rfl) r_358_36 tw_9_2 dX12_countsWorth_1 ?_
  refine x_iload_n C rfl 1 rfl dX12_countsWorth_4 ?_
  refine x_iconst (v := 0) C (by decide) dX12_countsWorth_5 ?_
  obtain ⟨c18, h⟩ := h
  refine x_iast C ob381.1 ob381.2 c18 rfl dX12_countsWorth_6 ?_
  refine x_mu (fun μ19 e_μ19 => ?_)
  have h := h μ19 e_μ19
  refine x_aload_n C rfl 0 rfl dX12_countsWorth_7 ?_
  refine x_getR (r := 382) C (j := 37) ob358.1 ob358.2 (Nat.le_of_ble_eq_true rfl) (Nat.le_of_ble_eq_true rfl) (fun _ _ _ => rfl) r_358_37 tw_9_3 dX12_countsWorth_8 ?_
  refine x_iload_n C rfl 1 rfl dX12_countsWorth_11 ?_
  refine x_iconst (v := 0) C (by decide) dX12_countsWorth_12 ?_
  obtain ⟨c20, h⟩ := h
  refine x_iast C ob382.1 ob382.2 c20 rfl dX12_countsWorth_13 ?_
  refine x_mu (fun μ21 e_μ21 => ?_)
  have h := h μ21 e_μ21
  refine x_iconst (v := 0) C (by decide) dX12_countsWorth_14 ?_
  refine x_istore_n C [(3, .int 0), (0, .ref 358), (1, .int v1), (2, .int v2)] rfl (Nat.le_of_ble_eq_true rfl) rfl dX12_countsWorth_15 ?_
  refine x_sub [(0, .ref 358), (1, .int v1), (2, .int v2), (3, .int 0)] [1, 2, 3, 0] rfl ?_
  exact G12_countsWorth_L16_ok C hd hr  h
set_option maxHeartbeats 4000000 in
set_option maxRecDepth 100000 in
theorem G12_years_L27_b {p : Program} {e : Env} {s : State} {m : MethodId} {args : Array Value} {below : List Frame} {meth : Method} {c : Code} {l : Launch} {φ : Nat → Nat} {tc : Nat → ClassId} {D : va_G} {s0 : State} {dR : Nat} (C : CX p s m args meth c φ tc D (AX φ) s0 cX12_years RX12 3) (hd : G12_years_dep ≤ dR) (hr : meth.sig.returnType = (some .int))  {p1 : Int32} {Q : Int32 → MM → Prop} {K27 : Int32 × MM → Prop} {x : Int32 × MM}   (hK27 : ∀ (z2 : Int32) (zμ : MM), K27 (z2, zμ) → WX p l e (rmX dR) s m args below meth c φ tc D (AX φ) 3 0 0 (MQ below (QX φ tc D (QI Q)) args s 0 0 (AX φ)) 27 [(0, .ref 358), (1, .int p1), (2, .int z2)] [] zμ) (h : G12_years_L27 p1 Q K27 x) : WX p l e (rmX dR) s m args below meth c φ tc D (AX φ) 3 0 0 (MQ below (QX φ tc D (QI Q)) args s 0 0 (AX φ)) 27 [(0, .ref 358), (1, .int p1), (2, .int x.1)] [] x.2 := by
  unfold G12_years_L27 at h
  refine x_iload_n C rfl 2 rfl dX12_years_27 ?_
  refine x_bipush (v := 99) C (by decide) dX12_years_28 ?_
  refine x_icmp_gt (tgt := 108) C dX12_years_30 (by decide) (fun c15 => ?_) (fun c15 => ?_)
  · have h := h.1 c15
    refine x_bipush (v := (-2)) C (by decide) dX12_years_108 ?_
    exact x_iret C hr dX12_years_110 ⟨_, rfl, h⟩
  · have h := h.2 c15
    refine x_aload_n C rfl 0 rfl dX12_years_33 ?_
    refine x_iconst (v := 1) C (by decide) dX12_years_34 ?_
    refine x_iload_n C rfl 1 rfl dX12_years_35 ?_
    refine x_iload_n C rfl 2 rfl dX12_years_36 ?_
    refine x_iadd C dX12_years_37 ?_
    refine x_callV (dC := G12_countsWorth_dep) (as := [.int 1, .int (p1 + x.1)]) (st := []) C rX kX (Nat.le_trans (Nat.le_of_ble_eq_true rfl) hd) (Nat.le_of_ble_eq_true rfl) ob358.1 ob358.2 (Nat.le_of_ble_eq_true rfl) rfl ts_11_0 tw_8_106 tw_8_104 tc_8_107 tw_1_13 hyX12 hnX12_countsWorth rfl (Nat.le_of_ble_eq_true rfl) dX12_years_38 (G12_countsWorth_met C.2.2.2.2.2.2.2.1 (Nat.le_refl _)  h) (fun r0 μ16 hq => ?_)
    obtain ⟨rfl, h⟩ := hq
    refine x_st [] rfl ?_
    refine x_aload_n C rfl 0 rfl dX12_years_41 ?_
    refine x_callV (dC := G12_areBoth_dep) (as := []) (st := []) C rX kX (Nat.le_trans (Nat.le_of_ble_eq_true rfl) hd) (Nat.le_of_ble_eq_true rfl) ob358.1 ob358.2 (Nat.le_of_ble_eq_true rfl) rfl ts_10_2 tw_7_169 tw_7_167 tc_7_170 tw_1_13 hyX12 hnX12_areBoth rfl (Nat.le_of_ble_eq_true rfl) dX12_years_42 (G12_areBoth_met C.2.2.2.2.2.2.2.1 (Nat.le_refl _)  h) (fun r0 μ17 hq => ?_)
    obtain ⟨r18, rfl, h⟩ := hq
    refine x_st [.int r18] rfl ?_
    refine x_if_eq (tgt := 102) C dX12_years_45 (by decide) (fun c19 => ?_) (fun c19 => ?_)
    · have h := h.1 c19
      refine x_iinc (v := (x.1 + 1)) C [(2, .int (x.1 + 1)), (0, .ref 358), (1, .int p1)] 2 rfl (congrArg (fun z => x.1 + z) (by decide : Int32.ofInt (1) = 1)) (Nat.le_of_ble_eq_true rfl) rfl dX12_years_102 ?_
      refine x_goto (tgt := 27) C dX12_years_105 (by decide) ?_
      refine x_sub [(0, .ref 358), (1, .int p1), (2, .int (x.1 + 1))] [1, 2, 0] rfl ?_
      exact hK27 _ _ h
    · have h := h.2 c19
      refine x_aload_n C rfl 0 rfl dX12_years_48 ?_
      refine x_getR (r := 382) C (j := 37) ob358.1 ob358.2 (Nat.le_of_ble_eq_true rfl) (Nat.le_of_ble_eq_true rfl) (fun _ _ _ => rfl) r_358_37 tw_9_3 dX12_years_49 ?_
      refine x_iconst (v := 1) C (by decide) dX12_years_52 ?_
      refine x_iald C ob382.1 ob382.2 (by unfold vp_in; decide) (j := 1) (by decide) dX12_years_53 ?_
      refine x_aload_n C rfl 0 rfl dX12_years_54 ?_
      refine x_getR (r := 381) C (j := 36) ob358.1 ob358.2 (Nat.le_of_ble_eq_true rfl) (Nat.le_of_ble_eq_true rfl) (fun _ _ _ => rfl) r_358_36 tw_9_2 dX12_years_55 ?_
      refine x_iconst (v := 0) C (by decide) dX12_years_58 ?_
      refine x_iald C ob381.1 ob381.2 (by unfold vp_in; decide) (j := 0) (by decide) dX12_years_59 ?_
      refine x_imul C dX12_years_60 ?_
      refine x_aload_n C rfl 0 rfl dX12_years_61 ?_
      refine x_getR (r := 382) C (j := 37) ob358.1 ob358.2 (Nat.le_of_ble_eq_true rfl) (Nat.le_of_ble_eq_true rfl) (fun _ _ _ => rfl) r_358_37 tw_9_3 dX12_years_62 ?_
      refine x_iconst (v := 0) C (by decide) dX12_years_65 ?_
      refine x_iald C ob382.1 ob382.2 (by unfold vp_in; decide) (j := 0) (by decide) dX12_years_66 ?_
      refine x_aload_n C rfl 0 rfl dX12_years_67 ?_
      refine x_getR (r := 381) C (j := 36) ob358.1 ob358.2 (Nat.le_of_ble_eq_true rfl) (Nat.le_of_ble_eq_true rfl) (fun _ _ _ => rfl) r_358_36 tw_9_2 dX12_years_68 ?_
      refine x_iconst (v := 1) C (by decide) dX12_years_71 ?_
      refine x_iald C ob381.1 ob381.2 (by unfold vp_in; decide) (j := 1) (by decide) dX12_years_72 ?_
      refine x_imul C dX12_years_73 ?_
      refine x_icmp_lt (tgt := 102) C dX12_years_74 (by decide) (fun c20 => ?_) (fun c20 => ?_)
      · have h := h.1 c20
        refine x_iinc (v := (x.1 + 1)) C [(2, .int (x.1 + 1)), (0, .ref 358), (1, .int p1)] 2 rfl (congrArg (fun z => x.1 + z) (by decide : Int32.ofInt (1) = 1)) (Nat.le_of_ble_eq_true rfl) rfl dX12_years_102 ?_
        refine x_goto (tgt := 27) C dX12_years_105 (by decide) ?_
        refine x_sub [(0, .ref 358), (1, .int p1), (2, .int (x.1 + 1))] [1, 2, 0] rfl ?_
        exact hK27 _ _ h
      · have h := h.2 c20
        refine x_aload_n C rfl 0 rfl dX12_years_77 ?_
        refine x_iconst (v := 0) C (by decide) dX12_years_78 ?_
        refine x_putI C (j := 1) ob358.1 ob358.2 (Nat.le_of_ble_eq_true rfl) (Nat.le_of_ble_eq_true rfl) (Or.inl rfl) rfl rfl rfl tw_8_207 dX12_years_79 ?_
        refine x_mu (fun μ21 e_μ21 => ?_)
        have h := h μ21 e_μ21
        refine x_aload_n C rfl 0 rfl dX12_years_82 ?_
        refine x_aload_n C rfl 0 rfl dX12_years_83 ?_
        refine x_getR (r := 382) C (j := 37) ob358.1 ob358.2 (Nat.le_of_ble_eq_true rfl) (Nat.le_of_ble_eq_true rfl) (fun _ _ _ => rfl) r_358_37 tw_9_3 dX12_years_84 ?_
        refine x_iconst (v := 1) C (by decide) dX12_years_87 ?_
        refine x_iald C ob382.1 ob382.2 (by unfold vp_in; decide) (j := 1) (by decide) dX12_years_88 ?_
        refine x_i2l C dX12_years_89 ?_
        refine x_aload_n C rfl 0 rfl dX12_years_90 ?_
        refine x_getR (r := 381) C (j := 36) ob358.1 ob358.2 (Nat.le_of_ble_eq_true rfl) (Nat.le_of_ble_eq_true rfl) (fun _ _ _ => rfl) r_358_36 tw_9_2 dX12_years_91 ?_
        refine x_iconst (v := 1) C (by decide) dX12_years_94 ?_
        refine x_iald C ob381.1 ob381.2 (by unfold vp_in; decide) (j := 1) (by decide) dX12_years_95 ?_
        refine x_i2l C dX12_years_96 ?_
        refine x_callV (dC := G12_entersFraction_dep) (as := [.long ((gI μ21 382 1).toInt64), .long ((gI μ21 381 1).toInt64)]) (st := []) C rX kX (Nat.le_trans (Nat.le_of_ble_eq_true rfl) hd) (Nat.le_of_ble_eq_true rfl) ob358.1 ob358.2 (Nat.le_of_ble_eq_true rfl) rfl ts_10_0 tw_7_154 tw_7_152 tc_7_155 tw_1_13 hyX12 hnX12_entersFraction rfl (Nat.le_of_ble_eq_true rfl) dX12_years_97 (G12_entersFraction_met C.2.2.2.2.2.2.2.1 (Nat.le_refl _)  h) (fun r0 μ22 hq => ?_)
        obtain ⟨rfl, h⟩ := hq
        refine x_st [] rfl ?_
        refine x_iload_n C rfl 2 rfl dX12_years_100 ?_
        exact x_iret C hr dX12_years_101 ⟨_, rfl, h⟩
theorem G12_years_L27_ok {p : Program} {e : Env} {s : State} {m : MethodId} {args : Array Value} {below : List Frame} {meth : Method} {c : Code} {l : Launch} {φ : Nat → Nat} {tc : Nat → ClassId} {D : va_G} {s0 : State} {dR : Nat} (C : CX p s m args meth c φ tc D (AX φ) s0 cX12_years RX12 3) (hd : G12_years_dep ≤ dR) (hr : meth.sig.returnType = (some .int))  {p1 : Int32} {Q : Int32 → MM → Prop}  {x : Int32 × MM}    (h : Lp (G12_years_L27 p1 Q) x) : WX p l e (rmX dR) s m args below meth c φ tc D (AX φ) 3 0 0 (MQ below (QX φ tc D (QI Q)) args s 0 0 (AX φ)) 27 [(0, .ref 358), (1, .int p1), (2, .int x.1)] [] x.2 := by
  obtain ⟨n, h⟩ := h
  induction n generalizing x with
  | zero => exact h.elim
  | succ n ih => exact G12_years_L27_b C hd hr   (fun z2 zμ hz => by have q := ih hz; exact q) h
set_option maxHeartbeats 4000000 in
set_option maxRecDepth 100000 in
theorem G12_years_met {l : Launch} {φ : Nat → Nat} {tc : Nat → ClassId} {D : va_G} {s0 : State} (hG : GX φ tc D s0) {dR : Nat} (hd : G12_years_dep ≤ dR) {v1 : Int32} {μ : MM} {Q : Int32 → MM → Prop}  (h : G12_years v1 μ Q) : MX l φ tc D s0 dR yX12_years cX12_years 3 (some .int) [.ref 358, .int v1] μ (QI Q) := by
  refine MX.of (own := RX12) hG plX12 rfl (Nat.le_of_ble_eq_true rfl) (fun p e s m args below meth c C hr => ?_)
  refine x_sub [(0, .ref 358), (1, .int v1)] [0, 1] rfl ?_
  unfold G12_years at h
  refine x_aload_n C rfl 0 rfl dX12_years_0 ?_
  refine x_iconst (v := 0) C (by decide) dX12_years_1 ?_
  refine x_putI C (j := 0) ob358.1 ob358.2 (Nat.le_of_ble_eq_true rfl) (Nat.le_of_ble_eq_true rfl) (Or.inl rfl) rfl rfl rfl tw_8_206 dX12_years_2 ?_
  refine x_mu (fun μ10 e_μ10 => ?_)
  have h := h μ10 e_μ10
  refine x_iload_n C rfl 1 rfl dX12_years_5 ?_
  refine x_i2l C dX12_years_6 ?_
  refine x_lconst (v := 0) C (by decide) dX12_years_7 ?_
  refine x_ldc2 (v := 99) C tw_6_205 dX12_years_8 ?_
  refine x_callS (dC := G12_in_dep) (as := [.long (v1.toInt64), .long 0, .long 99]) (st := []) C rX kX (Nat.le_trans (Nat.le_of_ble_eq_true rfl) hd) (Nat.le_of_ble_eq_true rfl) tw_6_183 tw_6_182 tc_6_184 tw_1_13 hyX12 hnX12_in rfl (Nat.le_of_ble_eq_true rfl) dX12_years_11 (G12_in_met C.2.2.2.2.2.2.2.1 (Nat.le_refl _)  h) (fun r0 μ11 hq => ?_)
  obtain ⟨r12, rfl, h⟩ := hq
  refine x_st [.int r12] rfl ?_
  refine x_if_ne (tgt := 19) C dX12_years_14 (by decide) (fun c13 => ?_) (fun c13 => ?_)
  · have h := h.1 c13
    refine x_aload_n C rfl 0 rfl dX12_years_19 ?_
    refine x_iconst (v := 0) C (by decide) dX12_years_20 ?_
    refine x_iload_n C rfl 1 rfl dX12_years_21 ?_
    refine x_callV (dC := G12_countsWorth_dep) (as := [.int 0, .int v1]) (st := []) C rX kX (Nat.le_trans (Nat.le_of_ble_eq_true rfl) hd) (Nat.le_of_ble_eq_true rfl) ob358.1 ob358.2 (Nat.le_of_ble_eq_true rfl) rfl ts_11_0 tw_8_106 tw_8_104 tc_8_107 tw_1_13 hyX12 hnX12_countsWorth rfl (Nat.le_of_ble_eq_true rfl) dX12_years_22 (G12_countsWorth_met C.2.2.2.2.2.2.2.1 (Nat.le_refl _)  h) (fun r0 μ14 hq => ?_)
    obtain ⟨rfl, h⟩ := hq
    refine x_st [] rfl ?_
    refine x_iconst (v := 0) C (by decide) dX12_years_25 ?_
    refine x_istore_n C [(2, .int 0), (0, .ref 358), (1, .int v1)] rfl (Nat.le_of_ble_eq_true rfl) rfl dX12_years_26 ?_
    refine x_sub [(0, .ref 358), (1, .int v1), (2, .int 0)] [1, 2, 0] rfl ?_
    exact G12_years_L27_ok C hd hr  h
  · have h := h.2 c13
    refine x_iconst (v := (-1)) C (by decide) dX12_years_17 ?_
    exact x_iret C hr dX12_years_18 ⟨_, rfl, h⟩
set_option maxHeartbeats 4000000 in
set_option maxRecDepth 100000 in
theorem G12_mornings_J175_ok {p : Program} {e : Env} {s : State} {m : MethodId} {args : Array Value} {below : List Frame} {meth : Method} {c : Code} {l : Launch} {φ : Nat → Nat} {tc : Nat → ClassId} {D : va_G} {s0 : State} {dR : Nat} (C : CX p s m args meth c φ tc D (AX φ) s0 cX12_mornings RX12 10) (hd : G12_mornings_dep ≤ dR) (hr : meth.sig.returnType = (some .int))   {p1 : Int32} {p2 : Int32} {p3 : Int32} {p4 : Int32} {p7 : Int32} {p8 : Int32} {Q : Int32 → MM → Prop} {K55 : Int32 × Int32 × Int32 × Int32 × MM → Prop} {μ : MM}   (hK55 : ∀ (z4 : Int32) (z5 : Int32) (z6 : Int32) (z7 : Int32) (zμ : MM), K55 (z4, z5, z6, z7, zμ) → WX p l e (rmX dR) s m args below meth c φ tc D (AX φ) 10 0 0 (MQ below (QX φ tc D (QI Q)) args s 0 0 (AX φ)) 55 [(0, .ref 358), (1, .int p1), (2, .int p2), (3, .int p3), (4, .int z4), (5, .int z5), (6, .int z6), (7, .int z7)] [] zμ) (h : G12_mornings_J175 p1 p2 p3 p4 p7 p8 μ K55 Q) : WX p l e (rmX dR) s m args below meth c φ tc D (AX φ) 10 0 0 (MQ below (QX φ tc D (QI Q)) args s 0 0 (AX φ)) 175 [(0, .ref 358), (1, .int p1), (2, .int p2), (3, .int p3), (4, .int p4), (7, .int p7), (8, .int p8)] [] μ := by
  unfold G12_mornings_J175 at h
  refine x_iload C 5 rfl dX12_mornings_175 ?_
  refine x_istore C [(5, .int p7), (0, .ref 358), (1, .int p1), (2, .int p2), (3, .int p3), (4, .int p4), (7, .int p7), (8, .int p8)] (Nat.le_of_ble_eq_true rfl) rfl dX12_mornings_177 ?_
  refine x_iload C 7 rfl dX12_mornings_179 ?_
  refine x_istore C [(6, .int p8), (5, .int p7), (0, .ref 358), (1, .int p1), (2, .int p2), (3, .int p3), (4, .int p4), (7, .int p7), (8, .int p8)] (Nat.le_of_ble_eq_true rfl) rfl dX12_mornings_181 ?_
  refine x_iinc (v := (p7 + 1)) C [(7, .int (p7 + 1)), (6, .int p8), (5, .int p7), (0, .ref 358), (1, .int p1), (2, .int p2), (3, .int p3), (4, .int p4), (8, .int p8)] 7 rfl (congrArg (fun z => p7 + z) (by decide : Int32.ofInt (1) = 1)) (Nat.le_of_ble_eq_true rfl) rfl dX12_mornings_183 ?_
  refine x_goto (tgt := 55) C dX12_mornings_186 (by decide) ?_
  refine x_sub [(0, .ref 358), (1, .int p1), (2, .int p2), (3, .int p3), (4, .int p4), (5, .int p7), (6, .int p8), (7, .int (p7 + 1))] [3, 4, 5, 6, 7, 2, 1, 0] rfl ?_
  exact hK55 _ _ _ _ _ h
set_option maxHeartbeats 4000000 in
set_option maxRecDepth 100000 in
theorem G12_mornings_J146_ok {p : Program} {e : Env} {s : State} {m : MethodId} {args : Array Value} {below : List Frame} {meth : Method} {c : Code} {l : Launch} {φ : Nat → Nat} {tc : Nat → ClassId} {D : va_G} {s0 : State} {dR : Nat} (C : CX p s m args meth c φ tc D (AX φ) s0 cX12_mornings RX12 10) (hd : G12_mornings_dep ≤ dR) (hr : meth.sig.returnType = (some .int))   {p1 : Int32} {p2 : Int32} {p3 : Int32} {p4 : Int32} {p5 : Int32} {p6 : Int32} {p7 : Int32} {p9 : Int32} {q0 : Int32} {q1 : Int32} {q2 : Int32} {Q : Int32 → MM → Prop} {K55 : Int32 × Int32 × Int32 × Int32 × MM → Prop} {K70 : Int32 × Int32 × MM → Prop} {μ : MM}   (hK55 : ∀ (z4 : Int32) (z5 : Int32) (z6 : Int32) (z7 : Int32) (zμ : MM), K55 (z4, z5, z6, z7, zμ) → WX p l e (rmX dR) s m args below meth c φ tc D (AX φ) 10 0 0 (MQ below (QX φ tc D (QI Q)) args s 0 0 (AX φ)) 55 [(0, .ref 358), (1, .int p1), (2, .int p2), (3, .int p3), (4, .int z4), (5, .int z5), (6, .int z6), (7, .int z7)] [] zμ) (hK70 : ∀ (z8 : Int32) (z9 : Int32) (zμ : MM), K70 (z8, z9, zμ) → WX p l e (rmX dR) s m args below meth c φ tc D (AX φ) 10 0 0 (MQ below (QX φ tc D (QI Q)) args s 0 0 (AX φ)) 70 [(0, .ref 358), (1, .int p1), (2, .int p2), (3, .int p3), (4, .int p4), (5, .int p5), (6, .int p6), (7, .int p7), (8, .int z8), (9, .int z9)] [] zμ) (h : G12_mornings_J146 p1 p2 p3 p4 p5 p6 p7 p9 q0 q1 q2 μ K55 K70 Q) : WX p l e (rmX dR) s m args below meth c φ tc D (AX φ) 10 0 0 (MQ below (QX φ tc D (QI Q)) args s 0 0 (AX φ)) 146 [(0, .ref 358), (1, .int p1), (2, .int p2), (3, .int p3), (4, .int p4), (5, .int p5), (6, .int p6), (7, .int p7), (9, .int p9)] [.int q0, .int q1, .int q2] μ := by
  unfold G12_mornings_J146 at h
  refine x_iadd C dX12_mornings_146 ?_
  refine x_iadd C dX12_mornings_147 ?_
  refine x_topi (fun y44 e_y44 => ?_)
  have h := h y44 e_y44
  refine x_istore C [(8, .int y44), (0, .ref 358), (1, .int p1), (2, .int p2), (3, .int p3), (4, .int p4), (5, .int p5), (6, .int p6), (7, .int p7), (9, .int p9)] (Nat.le_of_ble_eq_true rfl) rfl dX12_mornings_148 ?_
  refine x_iinc (v := (p9 + 1)) C [(9, .int (p9 + 1)), (8, .int y44), (0, .ref 358), (1, .int p1), (2, .int p2), (3, .int p3), (4, .int p4), (5, .int p5), (6, .int p6), (7, .int p7)] 9 rfl (congrArg (fun z => p9 + z) (by decide : Int32.ofInt (1) = 1)) (Nat.le_of_ble_eq_true rfl) rfl dX12_mornings_150 ?_
  refine x_goto (tgt := 70) C dX12_mornings_153 (by decide) ?_
  refine x_sub [(0, .ref 358), (1, .int p1), (2, .int p2), (3, .int p3), (4, .int p4), (5, .int p5), (6, .int p6), (7, .int p7), (8, .int y44), (9, .int (p9 + 1))] [2, 3, 4, 5, 6, 7, 8, 9, 1, 0] rfl ?_
  exact hK70 _ _ _ h
set_option maxHeartbeats 4000000 in
set_option maxRecDepth 100000 in
theorem G12_mornings_J145_ok {p : Program} {e : Env} {s : State} {m : MethodId} {args : Array Value} {below : List Frame} {meth : Method} {c : Code} {l : Launch} {φ : Nat → Nat} {tc : Nat → ClassId} {D : va_G} {s0 : State} {dR : Nat} (C : CX p s m args meth c φ tc D (AX φ) s0 cX12_mornings RX12 10) (hd : G12_mornings_dep ≤ dR) (hr : meth.sig.returnType = (some .int))   {p1 : Int32} {p2 : Int32} {p3 : Int32} {p4 : Int32} {p5 : Int32} {p6 : Int32} {p7 : Int32} {p9 : Int32} {q0 : Int32} {q1 : Int32} {Q : Int32 → MM → Prop} {K55 : Int32 × Int32 × Int32 × Int32 × MM → Prop} {K70 : Int32 × Int32 × MM → Prop} {μ : MM}   (hK55 : ∀ (z4 : Int32) (z5 : Int32) (z6 : Int32) (z7 : Int32) (zμ : MM), K55 (z4, z5, z6, z7, zμ) → WX p l e (rmX dR) s m args below meth c φ tc D (AX φ) 10 0 0 (MQ below (QX φ tc D (QI Q)) args s 0 0 (AX φ)) 55 [(0, .ref 358), (1, .int p1), (2, .int p2), (3, .int p3), (4, .int z4), (5, .int z5), (6, .int z6), (7, .int z7)] [] zμ) (hK70 : ∀ (z8 : Int32) (z9 : Int32) (zμ : MM), K70 (z8, z9, zμ) → WX p l e (rmX dR) s m args below meth c φ tc D (AX φ) 10 0 0 (MQ below (QX φ tc D (QI Q)) args s 0 0 (AX φ)) 70 [(0, .ref 358), (1, .int p1), (2, .int p2), (3, .int p3), (4, .int p4), (5, .int p5), (6, .int p6), (7, .int p7), (8, .int z8), (9, .int z9)] [] zμ) (h : G12_mornings_J145 p1 p2 p3 p4 p5 p6 p7 p9 q0 q1 μ K55 K70 Q) : WX p l e (rmX dR) s m args below meth c φ tc D (AX φ) 10 0 0 (MQ below (QX φ tc D (QI Q)) args s 0 0 (AX φ)) 145 [(0, .ref 358), (1, .int p1), (2, .int p2), (3, .int p3), (4, .int p4), (5, .int p5), (6, .int p6), (7, .int p7), (9, .int p9)] [.int q0, .int q1] μ := by
  unfold G12_mornings_J145 at h
  refine x_iconst (v := 0) C (by decide) dX12_mornings_145 ?_
  exact G12_mornings_J146_ok C hd hr hK55 hK70 h
set_option maxHeartbeats 4000000 in
set_option maxRecDepth 100000 in
theorem G12_mornings_J119_ok {p : Program} {e : Env} {s : State} {m : MethodId} {args : Array Value} {below : List Frame} {meth : Method} {c : Code} {l : Launch} {φ : Nat → Nat} {tc : Nat → ClassId} {D : va_G} {s0 : State} {dR : Nat} (C : CX p s m args meth c φ tc D (AX φ) s0 cX12_mornings RX12 10) (hd : G12_mornings_dep ≤ dR) (hr : meth.sig.returnType = (some .int))   {p1 : Int32} {p2 : Int32} {p3 : Int32} {p4 : Int32} {p5 : Int32} {p6 : Int32} {p7 : Int32} {p9 : Int32} {q0 : Int32} {q1 : Int32} {q2 : Int32} {Q : Int32 → MM → Prop} {K55 : Int32 × Int32 × Int32 × Int32 × MM → Prop} {K70 : Int32 × Int32 × MM → Prop} {μ : MM}   (hK55 : ∀ (z4 : Int32) (z5 : Int32) (z6 : Int32) (z7 : Int32) (zμ : MM), K55 (z4, z5, z6, z7, zμ) → WX p l e (rmX dR) s m args below meth c φ tc D (AX φ) 10 0 0 (MQ below (QX φ tc D (QI Q)) args s 0 0 (AX φ)) 55 [(0, .ref 358), (1, .int p1), (2, .int p2), (3, .int p3), (4, .int z4), (5, .int z5), (6, .int z6), (7, .int z7)] [] zμ) (hK70 : ∀ (z8 : Int32) (z9 : Int32) (zμ : MM), K70 (z8, z9, zμ) → WX p l e (rmX dR) s m args below meth c φ tc D (AX φ) 10 0 0 (MQ below (QX φ tc D (QI Q)) args s 0 0 (AX φ)) 70 [(0, .ref 358), (1, .int p1), (2, .int p2), (3, .int p3), (4, .int p4), (5, .int p5), (6, .int p6), (7, .int p7), (8, .int z8), (9, .int z9)] [] zμ) (h : G12_mornings_J119 p1 p2 p3 p4 p5 p6 p7 p9 q0 q1 q2 μ K55 K70 Q) : WX p l e (rmX dR) s m args below meth c φ tc D (AX φ) 10 0 0 (MQ below (QX φ tc D (QI Q)) args s 0 0 (AX φ)) 119 [(0, .ref 358), (1, .int p1), (2, .int p2), (3, .int p3), (4, .int p4), (5, .int p5), (6, .int p6), (7, .int p7), (9, .int p9)] [.int q0, .int q1, .int q2] μ := by
  unfold G12_mornings_J119 at h
  refine x_iadd C dX12_mornings_119 ?_
  refine x_aload_n C rfl 0 rfl dX12_mornings_120 ?_
  refine x_getR (r := 374) C (j := 20) ob358.1 ob358.2 (Nat.le_of_ble_eq_true rfl) (Nat.le_of_ble_eq_true rfl) (fun _ _ _ => rfl) r_358_20 tw_8_226 dX12_mornings_121 ?_
  refine x_iload C 8 rfl dX12_mornings_124 ?_
  obtain ⟨c42, h⟩ := h
  refine x_zald C ob374.1 ob374.2 c42 rfl dX12_mornings_126 ?_
  refine x_if_eq (tgt := 145) C dX12_mornings_127 (by decide) (fun c43 => ?_) (fun c43 => ?_)
  · have h := h.1 c43
    exact G12_mornings_J145_ok C hd hr hK55 hK70 h
  · have h := h.2 c43
    refine x_aload_n C rfl 0 rfl dX12_mornings_130 ?_
    refine x_getR (r := 375) C (j := 21) ob358.1 ob358.2 (Nat.le_of_ble_eq_true rfl) (Nat.le_of_ble_eq_true rfl) (fun _ _ _ => rfl) r_358_21 tw_8_227 dX12_mornings_131 ?_
    refine x_iload C 8 rfl dX12_mornings_134 ?_
    obtain ⟨c45, h⟩ := h
    refine x_iald C ob375.1 ob375.2 c45 rfl dX12_mornings_136 ?_
    refine x_iconst (v := 2) C (by decide) dX12_mornings_137 ?_
    refine x_icmp_ne (tgt := 145) C dX12_mornings_138 (by decide) (fun c46 => ?_) (fun c46 => ?_)
    · have h := h.1 c46
      exact G12_mornings_J145_ok C hd hr hK55 hK70 h
    · have h := h.2 c46
      refine x_iload_n C rfl 3 rfl dX12_mornings_141 ?_
      refine x_goto (tgt := 146) C dX12_mornings_142 (by decide) ?_
      exact G12_mornings_J146_ok C hd hr hK55 hK70 h
set_option maxHeartbeats 4000000 in
set_option maxRecDepth 100000 in
theorem G12_mornings_L70_b {p : Program} {e : Env} {s : State} {m : MethodId} {args : Array Value} {below : List Frame} {meth : Method} {c : Code} {l : Launch} {φ : Nat → Nat} {tc : Nat → ClassId} {D : va_G} {s0 : State} {dR : Nat} (C : CX p s m args meth c φ tc D (AX φ) s0 cX12_mornings RX12 10) (hd : G12_mornings_dep ≤ dR) (hr : meth.sig.returnType = (some .int))  {p1 : Int32} {p2 : Int32} {p3 : Int32} {p4 : Int32} {p5 : Int32} {p6 : Int32} {p7 : Int32} {Q : Int32 → MM → Prop} {K55 : Int32 × Int32 × Int32 × Int32 × MM → Prop} {K70 : Int32 × Int32 × MM → Prop} {x : Int32 × Int32 × MM}   (hK55 : ∀ (z4 : Int32) (z5 : Int32) (z6 : Int32) (z7 : Int32) (zμ : MM), K55 (z4, z5, z6, z7, zμ) → WX p l e (rmX dR) s m args below meth c φ tc D (AX φ) 10 0 0 (MQ below (QX φ tc D (QI Q)) args s 0 0 (AX φ)) 55 [(0, .ref 358), (1, .int p1), (2, .int p2), (3, .int p3), (4, .int z4), (5, .int z5), (6, .int z6), (7, .int z7)] [] zμ) (hK70 : ∀ (z8 : Int32) (z9 : Int32) (zμ : MM), K70 (z8, z9, zμ) → WX p l e (rmX dR) s m args below meth c φ tc D (AX φ) 10 0 0 (MQ below (QX φ tc D (QI Q)) args s 0 0 (AX φ)) 70 [(0, .ref 358), (1, .int p1), (2, .int p2), (3, .int p3), (4, .int p4), (5, .int p5), (6, .int p6), (7, .int p7), (8, .int z8), (9, .int z9)] [] zμ) (h : G12_mornings_L70 p1 p2 p3 p4 p5 p6 p7 K55 Q K70 x) : WX p l e (rmX dR) s m args below meth c φ tc D (AX φ) 10 0 0 (MQ below (QX φ tc D (QI Q)) args s 0 0 (AX φ)) 70 [(0, .ref 358), (1, .int p1), (2, .int p2), (3, .int p3), (4, .int p4), (5, .int p5), (6, .int p6), (7, .int p7), (8, .int x.1), (9, .int x.2.1)] [] x.2.2 := by
  unfold G12_mornings_L70 at h
  refine x_iload C 9 rfl dX12_mornings_70 ?_
  refine x_aload_n C rfl 0 rfl dX12_mornings_72 ?_
  refine x_getI C (j := 12) ob358.1 ob358.2 (Nat.le_of_ble_eq_true rfl) (Nat.le_of_ble_eq_true rfl) (Or.inl rfl) tw_8_218 dX12_mornings_73 ?_
  refine x_icmp_ge (tgt := 156) C dX12_mornings_76 (by decide) (fun c32 => ?_) (fun c32 => ?_)
  · have h := h.1 c32
    refine x_iload C 4 rfl dX12_mornings_156 ?_
    refine x_iload C 8 rfl dX12_mornings_158 ?_
    refine x_iadd C dX12_mornings_160 ?_
    refine x_topi (fun y33 e_y33 => ?_)
    have h := h y33 e_y33
    refine x_istore C [(4, .int y33), (0, .ref 358), (1, .int p1), (2, .int p2), (3, .int p3), (5, .int p5), (6, .int p6), (7, .int p7), (8, .int x.1), (9, .int x.2.1)] (Nat.le_of_ble_eq_true rfl) rfl dX12_mornings_161 ?_
    refine x_iload C 5 rfl dX12_mornings_163 ?_
    refine x_if_lt (tgt := 175) C dX12_mornings_165 (by decide) (fun c34 => ?_) (fun c34 => ?_)
    · have h := h.1 c34
      refine x_sub [(0, .ref 358), (1, .int p1), (2, .int p2), (3, .int p3), (4, .int y33), (7, .int p7), (8, .int x.1)] [1, 2, 3, 4, 0, 7, 8] rfl ?_
      exact G12_mornings_J175_ok C hd hr hK55 h
    · have h := h.2 c34
      refine x_iload C 8 rfl dX12_mornings_168 ?_
      refine x_iload C 6 rfl dX12_mornings_170 ?_
      refine x_icmp_le (tgt := 183) C dX12_mornings_172 (by decide) (fun c35 => ?_) (fun c35 => ?_)
      · have h := h.1 c35
        refine x_iinc (v := (p7 + 1)) C [(7, .int (p7 + 1)), (4, .int y33), (0, .ref 358), (1, .int p1), (2, .int p2), (3, .int p3), (5, .int p5), (6, .int p6), (8, .int x.1), (9, .int x.2.1)] 7 rfl (congrArg (fun z => p7 + z) (by decide : Int32.ofInt (1) = 1)) (Nat.le_of_ble_eq_true rfl) rfl dX12_mornings_183 ?_
        refine x_goto (tgt := 55) C dX12_mornings_186 (by decide) ?_
        refine x_sub [(0, .ref 358), (1, .int p1), (2, .int p2), (3, .int p3), (4, .int y33), (5, .int p5), (6, .int p6), (7, .int (p7 + 1))] [2, 3, 4, 5, 1, 6, 7, 0] rfl ?_
        exact hK55 _ _ _ _ _ h
      · have h := h.2 c35
        refine x_sub [(0, .ref 358), (1, .int p1), (2, .int p2), (3, .int p3), (4, .int y33), (7, .int p7), (8, .int x.1)] [1, 2, 3, 4, 0, 7, 8] rfl ?_
        exact G12_mornings_J175_ok C hd hr hK55 h
  · have h := h.2 c32
    refine x_aload_n C rfl 0 rfl dX12_mornings_79 ?_
    refine x_getR (r := 367) C (j := 13) ob358.1 ob358.2 (Nat.le_of_ble_eq_true rfl) (Nat.le_of_ble_eq_true rfl) (fun _ _ _ => rfl) r_358_13 tw_8_219 dX12_mornings_80 ?_
    refine x_iload C 9 rfl dX12_mornings_83 ?_
    obtain ⟨c36, h⟩ := h
    refine x_iald C ob367.1 ob367.2 c36 rfl dX12_mornings_85 ?_
    refine x_iload C 7 rfl dX12_mornings_86 ?_
    refine x_icmp_ne (tgt := 150) C dX12_mornings_88 (by decide) (fun c37 => ?_) (fun c37 => ?_)
    · have h := h.1 c37
      refine x_iinc (v := (x.2.1 + 1)) C [(9, .int (x.2.1 + 1)), (0, .ref 358), (1, .int p1), (2, .int p2), (3, .int p3), (4, .int p4), (5, .int p5), (6, .int p6), (7, .int p7), (8, .int x.1)] 9 rfl (congrArg (fun z => x.2.1 + z) (by decide : Int32.ofInt (1) = 1)) (Nat.le_of_ble_eq_true rfl) rfl dX12_mornings_150 ?_
      refine x_goto (tgt := 70) C dX12_mornings_153 (by decide) ?_
      refine x_sub [(0, .ref 358), (1, .int p1), (2, .int p2), (3, .int p3), (4, .int p4), (5, .int p5), (6, .int p6), (7, .int p7), (8, .int x.1), (9, .int (x.2.1 + 1))] [1, 2, 3, 4, 5, 6, 7, 8, 9, 0] rfl ?_
      exact hK70 _ _ _ h
    · have h := h.2 c37
      refine x_aload_n C rfl 0 rfl dX12_mornings_91 ?_
      refine x_getR (r := 373) C (j := 19) ob358.1 ob358.2 (Nat.le_of_ble_eq_true rfl) (Nat.le_of_ble_eq_true rfl) (fun _ _ _ => rfl) r_358_19 tw_8_225 dX12_mornings_92 ?_
      refine x_iload C 9 rfl dX12_mornings_95 ?_
      obtain ⟨c38, h⟩ := h
      refine x_zald C ob373.1 ob373.2 c38 rfl dX12_mornings_97 ?_
      refine x_if_eq (tgt := 150) C dX12_mornings_98 (by decide) (fun c39 => ?_) (fun c39 => ?_)
      · have h := h.1 c39
        refine x_iinc (v := (x.2.1 + 1)) C [(9, .int (x.2.1 + 1)), (0, .ref 358), (1, .int p1), (2, .int p2), (3, .int p3), (4, .int p4), (5, .int p5), (6, .int p6), (7, .int p7), (8, .int x.1)] 9 rfl (congrArg (fun z => x.2.1 + z) (by decide : Int32.ofInt (1) = 1)) (Nat.le_of_ble_eq_true rfl) rfl dX12_mornings_150 ?_
        refine x_goto (tgt := 70) C dX12_mornings_153 (by decide) ?_
        refine x_sub [(0, .ref 358), (1, .int p1), (2, .int p2), (3, .int p3), (4, .int p4), (5, .int p5), (6, .int p6), (7, .int p7), (8, .int x.1), (9, .int (x.2.1 + 1))] [1, 2, 3, 4, 5, 6, 7, 8, 9, 0] rfl ?_
        exact hK70 _ _ _ h
      · have h := h.2 c39
        refine x_iload C 8 rfl dX12_mornings_101 ?_
        refine x_iload_n C rfl 1 rfl dX12_mornings_103 ?_
        refine x_aload_n C rfl 0 rfl dX12_mornings_104 ?_
        refine x_getR (r := 374) C (j := 20) ob358.1 ob358.2 (Nat.le_of_ble_eq_true rfl) (Nat.le_of_ble_eq_true rfl) (fun _ _ _ => rfl) r_358_20 tw_8_226 dX12_mornings_105 ?_
        refine x_iload C 9 rfl dX12_mornings_108 ?_
        obtain ⟨c40, h⟩ := h
        refine x_zald C ob374.1 ob374.2 c40 rfl dX12_mornings_110 ?_
        refine x_if_eq (tgt := 118) C dX12_mornings_111 (by decide) (fun c41 => ?_) (fun c41 => ?_)
        · have h := h.1 c41
          refine x_iconst (v := 0) C (by decide) dX12_mornings_118 ?_
          refine x_sub [(0, .ref 358), (1, .int p1), (2, .int p2), (3, .int p3), (4, .int p4), (5, .int p5), (6, .int p6), (7, .int p7), (9, .int x.2.1)] [0, 1, 2, 3, 4, 5, 6, 7, 9] rfl ?_
          exact G12_mornings_J119_ok C hd hr hK55 hK70 h
        · have h := h.2 c41
          refine x_iload_n C rfl 2 rfl dX12_mornings_114 ?_
          refine x_goto (tgt := 119) C dX12_mornings_115 (by decide) ?_
          refine x_sub [(0, .ref 358), (1, .int p1), (2, .int p2), (3, .int p3), (4, .int p4), (5, .int p5), (6, .int p6), (7, .int p7), (9, .int x.2.1)] [0, 1, 2, 3, 4, 5, 6, 7, 9] rfl ?_
          exact G12_mornings_J119_ok C hd hr hK55 hK70 h
theorem G12_mornings_L70_ok {p : Program} {e : Env} {s : State} {m : MethodId} {args : Array Value} {below : List Frame} {meth : Method} {c : Code} {l : Launch} {φ : Nat → Nat} {tc : Nat → ClassId} {D : va_G} {s0 : State} {dR : Nat} (C : CX p s m args meth c φ tc D (AX φ) s0 cX12_mornings RX12 10) (hd : G12_mornings_dep ≤ dR) (hr : meth.sig.returnType = (some .int))  {p1 : Int32} {p2 : Int32} {p3 : Int32} {p4 : Int32} {p5 : Int32} {p6 : Int32} {p7 : Int32} {Q : Int32 → MM → Prop} {K55 : Int32 × Int32 × Int32 × Int32 × MM → Prop} {x : Int32 × Int32 × MM}   (hK55 : ∀ (z4 : Int32) (z5 : Int32) (z6 : Int32) (z7 : Int32) (zμ : MM), K55 (z4, z5, z6, z7, zμ) → WX p l e (rmX dR) s m args below meth c φ tc D (AX φ) 10 0 0 (MQ below (QX φ tc D (QI Q)) args s 0 0 (AX φ)) 55 [(0, .ref 358), (1, .int p1), (2, .int p2), (3, .int p3), (4, .int z4), (5, .int z5), (6, .int z6), (7, .int z7)] [] zμ) (h : Lp (G12_mornings_L70 p1 p2 p3 p4 p5 p6 p7 K55 Q) x) : WX p l e (rmX dR) s m args below meth c φ tc D (AX φ) 10 0 0 (MQ below (QX φ tc D (QI Q)) args s 0 0 (AX φ)) 70 [(0, .ref 358), (1, .int p1), (2, .int p2), (3, .int p3), (4, .int p4), (5, .int p5), (6, .int p6), (7, .int p7), (8, .int x.1), (9, .int x.2.1)] [] x.2.2 := by
  obtain ⟨n, h⟩ := h
  induction n generalizing x with
  | zero => exact h.elim
  | succ n ih => exact G12_mornings_L70_b C hd hr  hK55 (fun z8 z9 zμ hz => by have q := ih hz; exact q) h
set_option maxHeartbeats 4000000 in
set_option maxRecDepth 100000 in
theorem G12_mornings_L55_b {p : Program} {e : Env} {s : State} {m : MethodId} {args : Array Value} {below : List Frame} {meth : Method} {c : Code} {l : Launch} {φ : Nat → Nat} {tc : Nat → ClassId} {D : va_G} {s0 : State} {dR : Nat} (C : CX p s m args meth c φ tc D (AX φ) s0 cX12_mornings RX12 10) (hd : G12_mornings_dep ≤ dR) (hr : meth.sig.returnType = (some .int))  {p1 : Int32} {p2 : Int32} {p3 : Int32} {Q : Int32 → MM → Prop} {K55 : Int32 × Int32 × Int32 × Int32 × MM → Prop} {x : Int32 × Int32 × Int32 × Int32 × MM}   (hK55 : ∀ (z4 : Int32) (z5 : Int32) (z6 : Int32) (z7 : Int32) (zμ : MM), K55 (z4, z5, z6, z7, zμ) → WX p l e (rmX dR) s m args below meth c φ tc D (AX φ) 10 0 0 (MQ below (QX φ tc D (QI Q)) args s 0 0 (AX φ)) 55 [(0, .ref 358), (1, .int p1), (2, .int p2), (3, .int p3), (4, .int z4), (5, .int z5), (6, .int z6), (7, .int z7)] [] zμ) (h : G12_mornings_L55 p1 p2 p3 Q K55 x) : WX p l e (rmX dR) s m args below meth c φ tc D (AX φ) 10 0 0 (MQ below (QX φ tc D (QI Q)) args s 0 0 (AX φ)) 55 [(0, .ref 358), (1, .int p1), (2, .int p2), (3, .int p3), (4, .int x.1), (5, .int x.2.1), (6, .int x.2.2.1), (7, .int x.2.2.2.1)] [] x.2.2.2.2 := by
  unfold G12_mornings_L55 at h
  refine x_iload C 7 rfl dX12_mornings_55 ?_
  refine x_aload_n C rfl 0 rfl dX12_mornings_57 ?_
  refine x_getI C (j := 8) ob358.1 ob358.2 (Nat.le_of_ble_eq_true rfl) (Nat.le_of_ble_eq_true rfl) (Or.inl rfl) tw_8_214 dX12_mornings_58 ?_
  refine x_icmp_ge (tgt := 189) C dX12_mornings_61 (by decide) (fun c28 => ?_) (fun c28 => ?_)
  · have h := h.1 c28
    refine x_aload_n C rfl 0 rfl dX12_mornings_189 ?_
    refine x_iconst (v := 0) C (by decide) dX12_mornings_190 ?_
    refine x_putI C (j := 1) ob358.1 ob358.2 (Nat.le_of_ble_eq_true rfl) (Nat.le_of_ble_eq_true rfl) (Or.inl rfl) rfl rfl rfl tw_8_207 dX12_mornings_191 ?_
    refine x_mu (fun μ29 e_μ29 => ?_)
    have h := h μ29 e_μ29
    refine x_aload_n C rfl 0 rfl dX12_mornings_194 ?_
    refine x_iload C 5 rfl dX12_mornings_195 ?_
    refine x_i2l C dX12_mornings_197 ?_
    refine x_callV (dC := G12_enters_dep) (as := [.long (x.2.1.toInt64)]) (st := []) C rX kX (Nat.le_trans (Nat.le_of_ble_eq_true rfl) hd) (Nat.le_of_ble_eq_true rfl) ob358.1 ob358.2 (Nat.le_of_ble_eq_true rfl) rfl ts_10_1 tw_7_161 tw_7_159 tc_7_162 tw_1_13 hyX12 hnX12_enters rfl (Nat.le_of_ble_eq_true rfl) dX12_mornings_198 (G12_enters_met C.2.2.2.2.2.2.2.1 (Nat.le_refl _)  h) (fun r0 μ30 hq => ?_)
    obtain ⟨rfl, h⟩ := hq
    refine x_st [] rfl ?_
    refine x_aload_n C rfl 0 rfl dX12_mornings_201 ?_
    refine x_iload C 6 rfl dX12_mornings_202 ?_
    refine x_i2l C dX12_mornings_204 ?_
    refine x_callV (dC := G12_enters_dep) (as := [.long (x.2.2.1.toInt64)]) (st := []) C rX kX (Nat.le_trans (Nat.le_of_ble_eq_true rfl) hd) (Nat.le_of_ble_eq_true rfl) ob358.1 ob358.2 (Nat.le_of_ble_eq_true rfl) rfl ts_10_1 tw_7_161 tw_7_159 tc_7_162 tw_1_13 hyX12 hnX12_enters rfl (Nat.le_of_ble_eq_true rfl) dX12_mornings_205 (G12_enters_met C.2.2.2.2.2.2.2.1 (Nat.le_refl _)  h) (fun r0 μ31 hq => ?_)
    obtain ⟨rfl, h⟩ := hq
    refine x_st [] rfl ?_
    refine x_iload C 4 rfl dX12_mornings_208 ?_
    exact x_iret C hr dX12_mornings_210 ⟨_, rfl, h⟩
  · have h := h.2 c28
    refine x_iconst (v := 0) C (by decide) dX12_mornings_64 ?_
    refine x_istore C [(8, .int 0), (0, .ref 358), (1, .int p1), (2, .int p2), (3, .int p3), (4, .int x.1), (5, .int x.2.1), (6, .int x.2.2.1), (7, .int x.2.2.2.1)] (Nat.le_of_ble_eq_true rfl) rfl dX12_mornings_65 ?_
    refine x_iconst (v := 0) C (by decide) dX12_mornings_67 ?_
    refine x_istore C [(9, .int 0), (8, .int 0), (0, .ref 358), (1, .int p1), (2, .int p2), (3, .int p3), (4, .int x.1), (5, .int x.2.1), (6, .int x.2.2.1), (7, .int x.2.2.2.1)] (Nat.le_of_ble_eq_true rfl) rfl dX12_mornings_68 ?_
    refine x_sub [(0, .ref 358), (1, .int p1), (2, .int p2), (3, .int p3), (4, .int x.1), (5, .int x.2.1), (6, .int x.2.2.1), (7, .int x.2.2.2.1), (8, .int 0), (9, .int 0)] [2, 3, 4, 5, 6, 7, 8, 9, 1, 0] rfl ?_
    exact G12_mornings_L70_ok C hd hr hK55 h
theorem G12_mornings_L55_ok {p : Program} {e : Env} {s : State} {m : MethodId} {args : Array Value} {below : List Frame} {meth : Method} {c : Code} {l : Launch} {φ : Nat → Nat} {tc : Nat → ClassId} {D : va_G} {s0 : State} {dR : Nat} (C : CX p s m args meth c φ tc D (AX φ) s0 cX12_mornings RX12 10) (hd : G12_mornings_dep ≤ dR) (hr : meth.sig.returnType = (some .int))  {p1 : Int32} {p2 : Int32} {p3 : Int32} {Q : Int32 → MM → Prop}  {x : Int32 × Int32 × Int32 × Int32 × MM}    (h : Lp (G12_mornings_L55 p1 p2 p3 Q) x) : WX p l e (rmX dR) s m args below meth c φ tc D (AX φ) 10 0 0 (MQ below (QX φ tc D (QI Q)) args s 0 0 (AX φ)) 55 [(0, .ref 358), (1, .int p1), (2, .int p2), (3, .int p3), (4, .int x.1), (5, .int x.2.1), (6, .int x.2.2.1), (7, .int x.2.2.2.1)] [] x.2.2.2.2 := by
  obtain ⟨n, h⟩ := h
  induction n generalizing x with
  | zero => exact h.elim
  | succ n ih => exact G12_mornings_L55_b C hd hr   (fun z4 z5 z6 z7 zμ hz => by have q := ih hz; exact q) h
set_option maxHeartbeats 4000000 in
set_option maxRecDepth 100000 in
theorem G12_mornings_met {l : Launch} {φ : Nat → Nat} {tc : Nat → ClassId} {D : va_G} {s0 : State} (hG : GX φ tc D s0) {dR : Nat} (hd : G12_mornings_dep ≤ dR) {v1 : Int32} {v2 : Int32} {v3 : Int32} {μ : MM} {Q : Int32 → MM → Prop}  (h : G12_mornings v1 v2 v3 μ Q) : MX l φ tc D s0 dR yX12_mornings cX12_mornings 10 (some .int) [.ref 358, .int v1, .int v2, .int v3] μ (QI Q) := by
  refine MX.of (own := RX12) hG plX12 rfl (Nat.le_of_ble_eq_true rfl) (fun p e s m args below meth c C hr => ?_)
  refine x_sub [(0, .ref 358), (1, .int v1), (2, .int v2), (3, .int v3)] [0, 1, 2, 3] rfl ?_
  unfold G12_mornings at h
  refine x_aload_n C rfl 0 rfl dX12_mornings_0 ?_
  refine x_iconst (v := 0) C (by decide) dX12_mornings_1 ?_
  refine x_putI C (j := 0) ob358.1 ob358.2 (Nat.le_of_ble_eq_true rfl) (Nat.le_of_ble_eq_true rfl) (Or.inl rfl) rfl rfl rfl tw_8_206 dX12_mornings_2 ?_
  refine x_mu (fun μ18 e_μ18 => ?_)
  have h := h μ18 e_μ18
  refine x_iload_n C rfl 1 rfl dX12_mornings_5 ?_
  refine x_i2l C dX12_mornings_6 ?_
  refine x_lconst (v := 0) C (by decide) dX12_mornings_7 ?_
  refine x_ldc2 (v := 99) C tw_6_205 dX12_mornings_8 ?_
  refine x_callS (dC := G12_in_dep) (as := [.long (v1.toInt64), .long 0, .long 99]) (st := []) C rX kX (Nat.le_trans (Nat.le_of_ble_eq_true rfl) hd) (Nat.le_of_ble_eq_true rfl) tw_6_183 tw_6_182 tc_6_184 tw_1_13 hyX12 hnX12_in rfl (Nat.le_of_ble_eq_true rfl) dX12_mornings_11 (G12_in_met C.2.2.2.2.2.2.2.1 (Nat.le_refl _)  h) (fun r0 μ19 hq => ?_)
  obtain ⟨r20, rfl, h⟩ := hq
  refine x_st [.int r20] rfl ?_
  refine x_if_eq (tgt := 41) C dX12_mornings_14 (by decide) (fun c21 => ?_) (fun c21 => ?_)
  · have h := h.1 c21
    refine x_iconst (v := (-1)) C (by decide) dX12_mornings_41 ?_
    exact x_iret C hr dX12_mornings_42 ⟨_, rfl, h⟩
  · have h := h.2 c21
    refine x_iload_n C rfl 2 rfl dX12_mornings_17 ?_
    refine x_i2l C dX12_mornings_18 ?_
    refine x_lconst (v := 0) C (by decide) dX12_mornings_19 ?_
    refine x_ldc2 (v := 99) C tw_6_205 dX12_mornings_20 ?_
    refine x_callS (dC := G12_in_dep) (as := [.long (v2.toInt64), .long 0, .long 99]) (st := []) C rX kX (Nat.le_trans (Nat.le_of_ble_eq_true rfl) hd) (Nat.le_of_ble_eq_true rfl) tw_6_183 tw_6_182 tc_6_184 tw_1_13 hyX12 hnX12_in rfl (Nat.le_of_ble_eq_true rfl) dX12_mornings_23 (G12_in_met C.2.2.2.2.2.2.2.1 (Nat.le_refl _)  h) (fun r0 μ22 hq => ?_)
    obtain ⟨r23, rfl, h⟩ := hq
    refine x_st [.int r23] rfl ?_
    refine x_if_eq (tgt := 41) C dX12_mornings_26 (by decide) (fun c24 => ?_) (fun c24 => ?_)
    · have h := h.1 c24
      refine x_iconst (v := (-1)) C (by decide) dX12_mornings_41 ?_
      exact x_iret C hr dX12_mornings_42 ⟨_, rfl, h⟩
    · have h := h.2 c24
      refine x_iload_n C rfl 3 rfl dX12_mornings_29 ?_
      refine x_i2l C dX12_mornings_30 ?_
      refine x_lconst (v := 0) C (by decide) dX12_mornings_31 ?_
      refine x_ldc2 (v := 999) C tw_8_112 dX12_mornings_32 ?_
      refine x_callS (dC := G12_in_dep) (as := [.long (v3.toInt64), .long 0, .long 999]) (st := []) C rX kX (Nat.le_trans (Nat.le_of_ble_eq_true rfl) hd) (Nat.le_of_ble_eq_true rfl) tw_6_183 tw_6_182 tc_6_184 tw_1_13 hyX12 hnX12_in rfl (Nat.le_of_ble_eq_true rfl) dX12_mornings_35 (G12_in_met C.2.2.2.2.2.2.2.1 (Nat.le_refl _)  h) (fun r0 μ25 hq => ?_)
      obtain ⟨r26, rfl, h⟩ := hq
      refine x_st [.int r26] rfl ?_
      refine x_if_ne (tgt := 43) C dX12_mornings_38 (by decide) (fun c27 => ?_) (fun c27 => ?_)
      · have h := h.1 c27
        refine x_iconst (v := 0) C (by decide) dX12_mornings_43 ?_
        refine x_istore C [(4, .int 0), (0, .ref 358), (1, .int v1), (2, .int v2), (3, .int v3)] (Nat.le_of_ble_eq_true rfl) rfl dX12_mornings_44 ?_
        refine x_iconst (v := (-1)) C (by decide) dX12_mornings_46 ?_
        refine x_istore C [(5, .int (-1)), (4, .int 0), (0, .ref 358), (1, .int v1), (2, .int v2), (3, .int v3)] (Nat.le_of_ble_eq_true rfl) rfl dX12_mornings_47 ?_
        refine x_iconst (v := 0) C (by decide) dX12_mornings_49 ?_
        refine x_istore C [(6, .int 0), (5, .int (-1)), (4, .int 0), (0, .ref 358), (1, .int v1), (2, .int v2), (3, .int v3)] (Nat.le_of_ble_eq_true rfl) rfl dX12_mornings_50 ?_
        refine x_iconst (v := 0) C (by decide) dX12_mornings_52 ?_
        refine x_istore C [(7, .int 0), (6, .int 0), (5, .int (-1)), (4, .int 0), (0, .ref 358), (1, .int v1), (2, .int v2), (3, .int v3)] (Nat.le_of_ble_eq_true rfl) rfl dX12_mornings_53 ?_
        refine x_sub [(0, .ref 358), (1, .int v1), (2, .int v2), (3, .int v3), (4, .int 0), (5, .int (-1)), (6, .int 0), (7, .int 0)] [4, 5, 6, 7, 3, 2, 1, 0] rfl ?_
        exact G12_mornings_L55_ok C hd hr  h
      · have h := h.2 c27
        refine x_iconst (v := (-1)) C (by decide) dX12_mornings_41 ?_
        exact x_iret C hr dX12_mornings_42 ⟨_, rfl, h⟩
set_option maxHeartbeats 4000000 in
set_option maxRecDepth 100000 in
theorem G12_asked_met {l : Launch} {φ : Nat → Nat} {tc : Nat → ClassId} {D : va_G} {s0 : State} (hG : GX φ tc D s0) {dR : Nat} (hd : G12_asked_dep ≤ dR) {v1 : Int32} {v2 : Int32} {v3 : Int32} {μ : MM} {Q : Int32 → MM → Prop}  (h : G12_asked v1 v2 v3 μ Q) : MX l φ tc D s0 dR yX12_asked cX12_asked 4 (some .int) [.ref 358, .int v1, .int v2, .int v3] μ (QI Q) := by
  refine MX.of (own := RX12) hG plX12 rfl (Nat.le_of_ble_eq_true rfl) (fun p e s m args below meth c C hr => ?_)
  refine x_sub [(0, .ref 358), (1, .int v1), (2, .int v2), (3, .int v3)] [0, 1, 2, 3] rfl ?_
  unfold G12_asked at h
  refine x_aload_n C rfl 0 rfl dX12_asked_0 ?_
  refine x_iconst (v := 0) C (by decide) dX12_asked_1 ?_
  refine x_putI C (j := 0) ob358.1 ob358.2 (Nat.le_of_ble_eq_true rfl) (Nat.le_of_ble_eq_true rfl) (Or.inl rfl) rfl rfl rfl tw_8_206 dX12_asked_2 ?_
  refine x_mu (fun μ15 e_μ15 => ?_)
  have h := h μ15 e_μ15
  refine x_aload_n C rfl 0 rfl dX12_asked_5 ?_
  refine x_iload_n C rfl 1 rfl dX12_asked_6 ?_
  refine x_callV (dC := G12_isLetter_dep) (as := [.int v1]) (st := []) C rX kX (Nat.le_trans (Nat.le_of_ble_eq_true rfl) hd) (Nat.le_of_ble_eq_true rfl) ob358.1 ob358.2 (Nat.le_of_ble_eq_true rfl) rfl ts_8_15 tw_7_1 tw_6_239 tc_7_2 tw_1_13 hyX12 hnX12_isLetter rfl (Nat.le_of_ble_eq_true rfl) dX12_asked_7 (G12_isLetter_met C.2.2.2.2.2.2.2.1 (Nat.le_refl _)  h) (fun r0 μ16 hq => ?_)
  obtain ⟨r17, rfl, h⟩ := hq
  refine x_st [.int r17] rfl ?_
  refine x_if_eq (tgt := 47) C dX12_asked_10 (by decide) (fun c18 => ?_) (fun c18 => ?_)
  · have h := h.1 c18
    refine x_iconst (v := (-1)) C (by decide) dX12_asked_47 ?_
    exact x_iret C hr dX12_asked_48 ⟨_, rfl, h⟩
  · have h := h.2 c18
    refine x_aload_n C rfl 0 rfl dX12_asked_13 ?_
    refine x_iload_n C rfl 2 rfl dX12_asked_14 ?_
    refine x_callV (dC := G12_isLetter_dep) (as := [.int v2]) (st := []) C rX kX (Nat.le_trans (Nat.le_of_ble_eq_true rfl) hd) (Nat.le_of_ble_eq_true rfl) ob358.1 ob358.2 (Nat.le_of_ble_eq_true rfl) rfl ts_8_15 tw_7_1 tw_6_239 tc_7_2 tw_1_13 hyX12 hnX12_isLetter rfl (Nat.le_of_ble_eq_true rfl) dX12_asked_15 (G12_isLetter_met C.2.2.2.2.2.2.2.1 (Nat.le_refl _)  h) (fun r0 μ19 hq => ?_)
    obtain ⟨r20, rfl, h⟩ := hq
    refine x_st [.int r20] rfl ?_
    refine x_if_eq (tgt := 47) C dX12_asked_18 (by decide) (fun c21 => ?_) (fun c21 => ?_)
    · have h := h.1 c21
      refine x_iconst (v := (-1)) C (by decide) dX12_asked_47 ?_
      exact x_iret C hr dX12_asked_48 ⟨_, rfl, h⟩
    · have h := h.2 c21
      refine x_iload_n C rfl 1 rfl dX12_asked_21 ?_
      refine x_iload_n C rfl 2 rfl dX12_asked_22 ?_
      refine x_icmp_eq (tgt := 47) C dX12_asked_23 (by decide) (fun c22 => ?_) (fun c22 => ?_)
      · have h := h.1 c22
        refine x_iconst (v := (-1)) C (by decide) dX12_asked_47 ?_
        exact x_iret C hr dX12_asked_48 ⟨_, rfl, h⟩
      · have h := h.2 c22
        refine x_iload_n C rfl 3 rfl dX12_asked_26 ?_
        refine x_i2l C dX12_asked_27 ?_
        refine x_lconst (v := 0) C (by decide) dX12_asked_28 ?_
        refine x_ldc2 (v := 2) C tw_7_127 dX12_asked_29 ?_
        refine x_callS (dC := G12_in_dep) (as := [.long (v3.toInt64), .long 0, .long 2]) (st := []) C rX kX (Nat.le_trans (Nat.le_of_ble_eq_true rfl) hd) (Nat.le_of_ble_eq_true rfl) tw_6_183 tw_6_182 tc_6_184 tw_1_13 hyX12 hnX12_in rfl (Nat.le_of_ble_eq_true rfl) dX12_asked_32 (G12_in_met C.2.2.2.2.2.2.2.1 (Nat.le_refl _)  h) (fun r0 μ23 hq => ?_)
        obtain ⟨r24, rfl, h⟩ := hq
        refine x_st [.int r24] rfl ?_
        refine x_if_eq (tgt := 47) C dX12_asked_35 (by decide) (fun c25 => ?_) (fun c25 => ?_)
        · have h := h.1 c25
          refine x_iconst (v := (-1)) C (by decide) dX12_asked_47 ?_
          exact x_iret C hr dX12_asked_48 ⟨_, rfl, h⟩
        · have h := h.2 c25
          refine x_aload_n C rfl 0 rfl dX12_asked_38 ?_
          refine x_getI C (j := 61) ob358.1 ob358.2 (Nat.le_of_ble_eq_true rfl) (Nat.le_of_ble_eq_true rfl) (Or.inl rfl) tw_9_27 dX12_asked_39 ?_
          refine x_bipush (v := 40) C (by decide) dX12_asked_42 ?_
          refine x_icmp_ne (tgt := 49) C dX12_asked_44 (by decide) (fun c26 => ?_) (fun c26 => ?_)
          · have h := h.1 c26
            refine x_aload_n C rfl 0 rfl dX12_asked_49 ?_
            refine x_getR (r := 401) C (j := 62) ob358.1 ob358.2 (Nat.le_of_ble_eq_true rfl) (Nat.le_of_ble_eq_true rfl) (fun _ _ _ => rfl) r_358_62 tw_9_28 dX12_asked_50 ?_
            refine x_aload_n C rfl 0 rfl dX12_asked_53 ?_
            refine x_getI C (j := 61) ob358.1 ob358.2 (Nat.le_of_ble_eq_true rfl) (Nat.le_of_ble_eq_true rfl) (Or.inl rfl) tw_9_27 dX12_asked_54 ?_
            refine x_iload_n C rfl 1 rfl dX12_asked_57 ?_
            obtain ⟨c27, h⟩ := h
            refine x_iast C ob401.1 ob401.2 c27 rfl dX12_asked_58 ?_
            refine x_mu (fun μ28 e_μ28 => ?_)
            have h := h μ28 e_μ28
            refine x_aload_n C rfl 0 rfl dX12_asked_59 ?_
            refine x_getR (r := 402) C (j := 63) ob358.1 ob358.2 (Nat.le_of_ble_eq_true rfl) (Nat.le_of_ble_eq_true rfl) (fun _ _ _ => rfl) r_358_63 tw_9_29 dX12_asked_60 ?_
            refine x_aload_n C rfl 0 rfl dX12_asked_63 ?_
            refine x_getI C (j := 61) ob358.1 ob358.2 (Nat.le_of_ble_eq_true rfl) (Nat.le_of_ble_eq_true rfl) (Or.inl rfl) tw_9_27 dX12_asked_64 ?_
            refine x_iload_n C rfl 2 rfl dX12_asked_67 ?_
            obtain ⟨c29, h⟩ := h
            refine x_iast C ob402.1 ob402.2 c29 rfl dX12_asked_68 ?_
            refine x_mu (fun μ30 e_μ30 => ?_)
            have h := h μ30 e_μ30
            refine x_aload_n C rfl 0 rfl dX12_asked_69 ?_
            refine x_getR (r := 403) C (j := 64) ob358.1 ob358.2 (Nat.le_of_ble_eq_true rfl) (Nat.le_of_ble_eq_true rfl) (fun _ _ _ => rfl) r_358_64 tw_9_30 dX12_asked_70 ?_
            refine x_aload_n C rfl 0 rfl dX12_asked_73 ?_
            refine x_getI C (j := 61) ob358.1 ob358.2 (Nat.le_of_ble_eq_true rfl) (Nat.le_of_ble_eq_true rfl) (Or.inl rfl) tw_9_27 dX12_asked_74 ?_
            refine x_iload_n C rfl 3 rfl dX12_asked_77 ?_
            obtain ⟨c31, h⟩ := h
            refine x_iast C ob403.1 ob403.2 c31 rfl dX12_asked_78 ?_
            refine x_mu (fun μ32 e_μ32 => ?_)
            have h := h μ32 e_μ32
            refine x_aload_n C rfl 0 rfl dX12_asked_79 ?_
            refine x_dup C rfl dX12_asked_80 ?_
            refine x_getI C (j := 61) ob358.1 ob358.2 (Nat.le_of_ble_eq_true rfl) (Nat.le_of_ble_eq_true rfl) (Or.inl rfl) tw_9_27 dX12_asked_81 ?_
            refine x_iconst (v := 1) C (by decide) dX12_asked_84 ?_
            refine x_iadd C dX12_asked_85 ?_
            refine x_putI C (j := 61) ob358.1 ob358.2 (Nat.le_of_ble_eq_true rfl) (Nat.le_of_ble_eq_true rfl) (Or.inl rfl) rfl rfl rfl tw_9_27 dX12_asked_86 ?_
            refine x_mu (fun μ33 e_μ33 => ?_)
            have h := h μ33 e_μ33
            refine x_aload_n C rfl 0 rfl dX12_asked_89 ?_
            refine x_getI C (j := 61) ob358.1 ob358.2 (Nat.le_of_ble_eq_true rfl) (Nat.le_of_ble_eq_true rfl) (Or.inl rfl) tw_9_27 dX12_asked_90 ?_
            exact x_iret C hr dX12_asked_93 ⟨_, rfl, h⟩
          · have h := h.2 c26
            refine x_iconst (v := (-1)) C (by decide) dX12_asked_47 ?_
            exact x_iret C hr dX12_asked_48 ⟨_, rfl, h⟩
set_option maxHeartbeats 4000000 in
set_option maxRecDepth 100000 in
theorem G12_isAgainst_met {l : Launch} {φ : Nat → Nat} {tc : Nat → ClassId} {D : va_G} {s0 : State} (hG : GX φ tc D s0) {dR : Nat} (hd : G12_isAgainst_dep ≤ dR) {v1 : Int32} {v2 : Int32} {v3 : Int32} {v4 : Int32} {μ : MM} {Q : Int32 → MM → Prop}  (h : G12_isAgainst v1 v2 v3 v4 μ Q) : MX l φ tc D s0 dR yX12_isAgainst cX12_isAgainst 7 (some .boolean) [.ref 358, .int v1, .int v2, .int v3, .int v4] μ (QI Q) := by
  refine MX.of (own := RX12) hG plX12 rfl (Nat.le_of_ble_eq_true rfl) (fun p e s m args below meth c C hr => ?_)
  refine x_sub [(0, .ref 358), (1, .int v1), (2, .int v2), (3, .int v3), (4, .int v4)] [0, 1, 2, 3, 4] rfl ?_
  unfold G12_isAgainst at h
  refine x_aload_n C rfl 0 rfl dX12_isAgainst_0 ?_
  refine x_callV (dC := G12_countsNone_dep) (as := []) (st := []) C rX kX (Nat.le_trans (Nat.le_of_ble_eq_true rfl) hd) (Nat.le_of_ble_eq_true rfl) ob358.1 ob358.2 (Nat.le_of_ble_eq_true rfl) rfl ts_11_3 tw_8_131 tw_8_129 tc_8_132 tw_1_13 hyX12 hnX12_countsNone rfl (Nat.le_of_ble_eq_true rfl) dX12_isAgainst_1 (G12_countsNone_met C.2.2.2.2.2.2.2.1 (Nat.le_refl _)  h) (fun r0 μ6 hq => ?_)
  obtain ⟨rfl, h⟩ := hq
  refine x_st [] rfl ?_
  refine x_aload_n C rfl 0 rfl dX12_isAgainst_4 ?_
  refine x_iload_n C rfl 1 rfl dX12_isAgainst_5 ?_
  refine x_iload_n C rfl 2 rfl dX12_isAgainst_6 ?_
  refine x_callV (dC := G12_worked_dep) (as := [.int v1, .int v2]) (st := []) C rX kX (Nat.le_trans (Nat.le_of_ble_eq_true rfl) hd) (Nat.le_of_ble_eq_true rfl) ob358.1 ob358.2 (Nat.le_of_ble_eq_true rfl) rfl ts_9_10 tw_7_101 tw_7_99 tc_7_102 tw_1_13 hyX12 hnX12_worked rfl (Nat.le_of_ble_eq_true rfl) dX12_isAgainst_7 (G12_worked_met C.2.2.2.2.2.2.2.1 (Nat.le_refl _)  h) (fun r0 μ7 hq => ?_)
  obtain ⟨r8, rfl, h⟩ := hq
  refine x_st [.int r8] rfl ?_
  refine x_istore C [(5, .int r8), (0, .ref 358), (1, .int v1), (2, .int v2), (3, .int v3), (4, .int v4)] (Nat.le_of_ble_eq_true rfl) rfl dX12_isAgainst_10 ?_
  refine x_aload_n C rfl 1 rfl dX12_isAgainst_12 ?_
  refine x_iload_n C rfl 2 rfl dX12_isAgainst_13 ?_
  refine x_iload_n C rfl 4 rfl dX12_isAgainst_14 ?_
  refine x_callV (dC := G12_worked_dep) (as := [.int v1, .int v3]) (st := []) C rX kX (Nat.le_trans (Nat.le_of_ble_eq_true rfl) hd) (Nat.le_of_ble_eq_true rfl) ob358.1 ob358.2 (Nat.le_of_ble_eq_true rfl) rfl ts_9_10 tw_7_101 tw_7_99 tc_7_102 tw_1_13 hyX12 hnX12_worked rfl (Nat.le_of_ble_eq_true rfl) dX12_isAgainst_15 (G12_worked_met C.2.2.2.2.2.2.2.1 (Nat.le_refl _)  h) (fun r0 μ9 hq => ?_)
  obtain ⟨r10, rfl, h⟩ := hq
  refine x_st [.int r10] rfl ?_
  refine x_istore C [(6, .int r10), (5, .int r8), (0, .ref 358), (1, .int v1), (2, .int v2), (3, .int v3), (4, .int v4)] (Nat.le_of_ble_eq_true rfl) rfl dX12_isAgainst_18 ?_
  refine x_iload C 6 rfl dX12_isAgainst_20 ?_
  refine x_iconst (v := 1) C (by decide) dX12_isAgainst_22 ?_
  refine x_icmp_ne (tgt := 41) C dX12_isAgainst_23 (by decide) (fun c11 => ?_) (fun c11 => ?_)
  · have h := h.1 c11
    refine x_iload C 6 rfl dX12_isAgainst_41 ?_
    refine x_iconst (v := 2) C (by decide) dX12_isAgainst_43 ?_
    refine x_icmp_ne (tgt := 62) C dX12_isAgainst_44 (by decide) (fun c12 => ?_) (fun c12 => ?_)
    · have h := h.1 c12
      refine x_iload C 1 rfl dX12_isAgainst_62 ?_
      refine x_iload C 0 rfl dX12_isAgainst_64 ?_
      refine x_icmp_eq (tgt := 73) C dX12_isAgainst_66 (by decide) (fun c13 => ?_) (fun c13 => ?_)
      · have h := h.1 c13
        refine x_iconst (v := 0) C (by decide) dX12_isAgainst_73 ?_
        exact x_zret C hr bo_0 dX12_isAgainst_74 ⟨_, rfl, h⟩
      · have h := h.2 c13
        refine x_iconst (v := 1) C (by decide) dX12_isAgainst_69 ?_
        refine x_goto (tgt := 74) C dX12_isAgainst_70 (by decide) ?_
        exact x_zret C hr bo_1 dX12_isAgainst_74 ⟨_, rfl, h⟩
    · have h := h.2 c12
      refine x_iload C 0 rfl dX12_isAgainst_47 ?_
      refine x_iload C 1 rfl dX12_isAgainst_49 ?_
      refine x_icmp_ge (tgt := 58) C dX12_isAgainst_51 (by decide) (fun c14 => ?_) (fun c14 => ?_)
      · have h := h.1 c14
        refine x_iconst (v := 0) C (by decide) dX12_isAgainst_58 ?_
        refine x_goto (tgt := 74) C dX12_isAgainst_59 (by decide) ?_
        exact x_zret C hr bo_0 dX12_isAgainst_74 ⟨_, rfl, h⟩
      · have h := h.2 c14
        refine x_iconst (v := 1) C (by decide) dX12_isAgainst_54 ?_
        refine x_goto (tgt := 74) C dX12_isAgainst_55 (by decide) ?_
        exact x_zret C hr bo_1 dX12_isAgainst_74 ⟨_, rfl, h⟩
  · have h := h.2 c11
    refine x_iload C 1 rfl dX12_isAgainst_26 ?_
    refine x_iload C 0 rfl dX12_isAgainst_28 ?_
    refine x_icmp_ge (tgt := 37) C dX12_isAgainst_30 (by decide) (fun c15 => ?_) (fun c15 => ?_)
    · have h := h.1 c15
      refine x_iconst (v := 0) C (by decide) dX12_isAgainst_37 ?_
      refine x_goto (tgt := 74) C dX12_isAgainst_38 (by decide) ?_
      exact x_zret C hr bo_0 dX12_isAgainst_74 ⟨_, rfl, h⟩
    · have h := h.2 c15
      refine x_iconst (v := 1) C (by decide) dX12_isAgainst_33 ?_
      refine x_goto (tgt := 74) C dX12_isAgainst_34 (by decide) ?_
      exact x_zret C hr bo_1 dX12_isAgainst_74 ⟨_, rfl, h⟩
set_option maxHeartbeats 4000000 in
set_option maxRecDepth 100000 in
theorem G12_against_L4_b {p : Program} {e : Env} {s : State} {m : MethodId} {args : Array Value} {below : List Frame} {meth : Method} {c : Code} {l : Launch} {φ : Nat → Nat} {tc : Nat → ClassId} {D : va_G} {s0 : State} {dR : Nat} (C : CX p s m args meth c φ tc D (AX φ) s0 cX12_against RX12 4) (hd : G12_against_dep ≤ dR) (hr : meth.sig.returnType = (some .int))  {p1 : Int32} {Q : Int32 → MM → Prop} {K4 : Int32 × Int32 × MM → Prop} {x : Int32 × Int32 × MM}   (hK4 : ∀ (z2 : Int32) (z3 : Int32) (zμ : MM), K4 (z2, z3, zμ) → WX p l e (rmX dR) s m args below meth c φ tc D (AX φ) 4 0 0 (MQ below (QX φ tc D (QI Q)) args s 0 0 (AX φ)) 4 [(0, .ref 358), (1, .int p1), (2, .int z2), (3, .int z3)] [] zμ) (h : G12_against_L4 p1 Q K4 x) : WX p l e (rmX dR) s m args below meth c φ tc D (AX φ) 4 0 0 (MQ below (QX φ tc D (QI Q)) args s 0 0 (AX φ)) 4 [(0, .ref 358), (1, .int p1), (2, .int x.1), (3, .int x.2.1)] [] x.2.2 := by
  unfold G12_against_L4 at h
  refine x_iload_n C rfl 3 rfl dX12_against_4 ?_
  refine x_aload_n C rfl 0 rfl dX12_against_5 ?_
  refine x_getI C (j := 61) ob358.1 ob358.2 (Nat.le_of_ble_eq_true rfl) (Nat.le_of_ble_eq_true rfl) (Or.inl rfl) tw_9_27 dX12_against_6 ?_
  refine x_icmp_ge (tgt := 47) C dX12_against_9 (by decide) (fun c9 => ?_) (fun c9 => ?_)
  · have h := h.1 c9
    refine x_iload_n C rfl 2 rfl dX12_against_47 ?_
    exact x_iret C hr dX12_against_48 ⟨_, rfl, h⟩
  · have h := h.2 c9
    refine x_iload_n C rfl 2 rfl dX12_against_12 ?_
    refine x_aload_n C rfl 0 rfl dX12_against_13 ?_
    refine x_iload_n C rfl 1 rfl dX12_against_14 ?_
    refine x_aload_n C rfl 0 rfl dX12_against_15 ?_
    refine x_getR (r := 401) C (j := 62) ob358.1 ob358.2 (Nat.le_of_ble_eq_true rfl) (Nat.le_of_ble_eq_true rfl) (fun _ _ _ => rfl) r_358_62 tw_9_28 dX12_against_16 ?_
    refine x_iload_n C rfl 3 rfl dX12_against_19 ?_
    obtain ⟨c10, h⟩ := h
    refine x_iald C ob401.1 ob401.2 c10 rfl dX12_against_20 ?_
    refine x_aload_n C rfl 0 rfl dX12_against_21 ?_
    refine x_getR (r := 402) C (j := 63) ob358.1 ob358.2 (Nat.le_of_ble_eq_true rfl) (Nat.le_of_ble_eq_true rfl) (fun _ _ _ => rfl) r_358_63 tw_9_29 dX12_against_22 ?_
    refine x_iload_n C rfl 3 rfl dX12_against_25 ?_
    obtain ⟨c11, h⟩ := h
    refine x_iald C ob402.1 ob402.2 c11 rfl dX12_against_26 ?_
    refine x_aload_n C rfl 0 rfl dX12_against_27 ?_
    refine x_getR (r := 403) C (j := 64) ob358.1 ob358.2 (Nat.le_of_ble_eq_true rfl) (Nat.le_of_ble_eq_true rfl) (fun _ _ _ => rfl) r_358_64 tw_9_30 dX12_against_28 ?_
    refine x_iload_n C rfl 3 rfl dX12_against_31 ?_
    obtain ⟨c12, h⟩ := h
    refine x_iald C ob403.1 ob403.2 c12 rfl dX12_against_32 ?_
    refine x_callV (dC := G12_isAgainst_dep) (as := [.int p1, .int (gI x.2.2 401 x.2.1.toNatClampNeg), .int (gI x.2.2 402 x.2.1.toNatClampNeg), .int (gI x.2.2 403 x.2.1.toNatClampNeg)]) (st := [.int x.1]) C rX kX (Nat.le_trans (Nat.le_of_ble_eq_true rfl) hd) (Nat.le_of_ble_eq_true rfl) ob358.1 ob358.2 (Nat.le_of_ble_eq_true rfl) rfl ts_11_2 tw_8_127 tw_8_125 tc_8_128 tw_1_13 hyX12 hnX12_isAgainst rfl (Nat.le_of_ble_eq_true rfl) dX12_against_33 (G12_isAgainst_met C.2.2.2.2.2.2.2.1 (Nat.le_refl _)  h) (fun r0 μ13 hq => ?_)
    obtain ⟨r14, rfl, h⟩ := hq
    refine x_st [.int r14, .int x.1] rfl ?_
    refine x_callS (dC := G12_flag_dep) (as := [.int r14]) (st := [.int x.1]) C rX kX (Nat.le_trans (Nat.le_of_ble_eq_true rfl) hd) (Nat.le_of_ble_eq_true rfl) tw_6_212 tw_6_211 tc_6_213 tw_1_13 hyX12 hnX12_flag rfl (Nat.le_of_ble_eq_true rfl) dX12_against_36 (G12_flag_met C.2.2.2.2.2.2.2.1 (Nat.le_refl _)  h) (fun r0 μ15 hq => ?_)
    obtain ⟨r16, rfl, h⟩ := hq
    refine x_st [.int r16, .int x.1] rfl ?_
    refine x_iadd C dX12_against_39 ?_
    refine x_topi (fun y17 e_y17 => ?_)
    have h := h y17 e_y17
    refine x_istore_n C [(2, .int y17), (0, .ref 358), (1, .int p1), (3, .int x.2.1)] rfl (Nat.le_of_ble_eq_true rfl) rfl dX12_against_40 ?_
    refine x_iinc (v := (x.2.1 + 1)) C [(3, .int (x.2.1 + 1)), (2, .int y17), (0, .ref 358), (1, .int p1)] 3 rfl (congrArg (fun z => x.2.1 + z) (by decide : Int32.ofInt (1) = 1)) (Nat.le_of_ble_eq_true rfl) rfl dX12_against_41 ?_
    refine x_goto (tgt := 4) C dX12_against_44 (by decide) ?_
    refine x_sub [(0, .ref 358), (1, .int p1), (2, .int y17), (3, .int (x.2.1 + 1))] [2, 3, 1, 0] rfl ?_
    exact hK4 _ _ _ h
theorem G12_against_L4_ok {p : Program} {e : Env} {s : State} {m : MethodId} {args : Array Value} {below : List Frame} {meth : Method} {c : Code} {l : Launch} {φ : Nat → Nat} {tc : Nat → ClassId} {D : va_G} {s0 : State} {dR : Nat} (C : CX p s m args meth c φ tc D (AX φ) s0 cX12_against RX12 4) (hd : G12_against_dep ≤ dR) (hr : meth.sig.returnType = (some .int))  {p1 : Int32} {Q : Int32 → MM → Prop}  {x : Int32 × Int32 × MM}    (h : Lp (G12_against_L4 p1 Q) x) : WX p l e (rmX dR) s m args below meth c φ tc D (AX φ) 4 0 0 (MQ below (QX φ tc D (QI Q)) args s 0 0 (AX φ)) 4 [(0, .ref 358), (1, .int p1), (2, .int x.1), (3, .int x.2.1)] [] x.2.2 := by
  obtain ⟨n, h⟩ := h
  induction n generalizing x with
  | zero => exact h.elim
  | succ n ih => exact G12_against_L4_b C hd hr   (fun z2 z3 zμ hz => by have q := ih hz; exact q) h
set_option maxHeartbeats 4000000 in
set_option maxRecDepth 100000 in
theorem G12_against_met {l : Launch} {φ : Nat → Nat} {tc : Nat → ClassId} {D : va_G} {s0 : State} (hG : GX φ tc D s0) {dR : Nat} (hd : G12_against_dep ≤ dR) {v1 : Int32} {μ : MM} {Q : Int32 → MM → Prop}  (h : G12_against v1 μ Q) : MX l φ tc D s0 dR yX12_against cX12_against 4 (some .int) [.ref 358, .int v1] μ (QI Q) := by
  refine MX.of (own := RX12) hG plX12 rfl (Nat.le_of_ble_eq_true rfl) (fun p e s m args below meth c C hr => ?_)
  refine x_sub [(0, .ref 358), (1, .int v1)] [0, 1] rfl ?_
  unfold G12_against at h
  refine x_iconst (v := 0) C (by decide) dX12_against_0 ?_
  refine x_istore_n C [(2, .int 0), (0, .ref 358), (1, .int v1)] rfl (Nat.le_of_ble_eq_true rfl) rfl dX12_against_1 ?_
  refine x_iconst (v := 0) C (by decide) dX12_against_2 ?_
  refine x_istore_n C [(3, .int 0), (2, .int 0), (0, .ref 358), (1, .int v1)] rfl (Nat.le_of_ble_eq_true rfl) rfl dX12_against_3 ?_
  refine x_sub [(0, .ref 358), (1, .int v1), (2, .int 0), (3, .int 0)] [2, 3, 1, 0] rfl ?_
  exact G12_against_L4_ok C hd hr  h
set_option maxHeartbeats 4000000 in
set_option maxRecDepth 100000 in
theorem G12_couldBe_J35_ok {p : Program} {e : Env} {s : State} {m : MethodId} {args : Array Value} {below : List Frame} {meth : Method} {c : Code} {l : Launch} {φ : Nat → Nat} {tc : Nat → ClassId} {D : va_G} {s0 : State} {dR : Nat} (C : CX p s m args meth c φ tc D (AX φ) s0 cX12_couldBe RX12 4) (hd : G12_couldBe_dep ≤ dR) (hr : meth.sig.returnType = (some .int))   {p1 : Int32} {p3 : Int32} {q0 : Int32} {Q : Int32 → MM → Prop} {K4 : Int32 × Int32 × MM → Prop} {μ : MM}   (hK4 : ∀ (z2 : Int32) (z3 : Int32) (zμ : MM), K4 (z2, z3, zμ) → WX p l e (rmX dR) s m args below meth c φ tc D (AX φ) 4 0 0 (MQ below (QX φ tc D (QI Q)) args s 0 0 (AX φ)) 4 [(0, .ref 358), (1, .int p1), (2, .int z2), (3, .int z3)] [] zμ) (h : G12_couldBe_J35 p1 p3 q0 μ K4 Q) : WX p l e (rmX dR) s m args below meth c φ tc D (AX φ) 4 0 0 (MQ below (QX φ tc D (QI Q)) args s 0 0 (AX φ)) 35 [(0, .ref 358), (1, .int p1), (3, .int p3)] [.int q0] μ := by
  unfold G12_couldBe_J35 at h
  refine x_iconst (v := 0) C (by decide) dX12_couldBe_35 ?_
  refine x_ior C dX12_couldBe_36 ?_
  refine x_topi (fun y9 e_y9 => ?_)
  have h := h y9 e_y9
  refine x_istore_n C [(2, .int y9), (0, .ref 358), (1, .int p1), (3, .int p3)] rfl (Nat.le_of_ble_eq_true rfl) rfl dX12_couldBe_37 ?_
  refine x_iinc (v := (p3 + 1)) C [(3, .int (p3 + 1)), (2, .int y9), (0, .ref 358), (1, .int p1)] 3 rfl (congrArg (fun z => p3 + z) (by decide : Int32.ofInt (1) = 1)) (Nat.le_of_ble_eq_true rfl) rfl dX12_couldBe_38 ?_
  refine x_goto (tgt := 4) C dX12_couldBe_41 (by decide) ?_
  refine x_sub [(0, .ref 358), (1, .int p1), (2, .int y9), (3, .int (p3 + 1))] [2, 3, 1, 0] rfl ?_
  exact hK4 _ _ _ h
set_option maxHeartbeats 4000000 in
set_option maxRecDepth 100000 in
theorem G12_couldBe_L4_b {p : Program} {e : Env} {s : State} {m : MethodId} {args : Array Value} {below : List Frame} {meth : Method} {c : Code} {l : Launch} {φ : Nat → Nat} {tc : Nat → ClassId} {D : va_G} {s0 : State} {dR : Nat} (C : CX p s m args meth c φ tc D (AX φ) s0 cX12_couldBe RX12 4) (hd : G12_couldBe_dep ≤ dR) (hr : meth.sig.returnType = (some .int))  {p1 : Int32} {Q : Int32 → MM → Prop} {K4 : Int32 × Int32 × MM → Prop} {x : Int32 × Int32 × MM}   (hK4 : ∀ (z2 : Int32) (z3 : Int32) (zμ : MM), K4 (z2, z3, zμ) → WX p l e (rmX dR) s m args below meth c φ tc D (AX φ) 4 0 0 (MQ below (QX φ tc D (QI Q)) args s 0 0 (AX φ)) 4 [(0, .ref 358), (1, .int p1), (2, .int z2), (3, .int z3)] [] zμ) (h : G12_couldBe_L4 p1 Q K4 x) : WX p l e (rmX dR) s m args below meth c φ tc D (AX φ) 4 0 0 (MQ below (QX φ tc D (QI Q)) args s 0 0 (AX φ)) 4 [(0, .ref 358), (1, .int p1), (2, .int x.1), (3, .int x.2.1)] [] x.2.2 := by
  unfold G12_couldBe_L4 at h
  refine x_iload_n C rfl 3 rfl dX12_couldBe_4 ?_
  refine x_bipush (v := 6) C (by decide) dX12_couldBe_5 ?_
  refine x_icmp_ge (tgt := 44) C dX12_couldBe_7 (by decide) (fun c6 => ?_) (fun c6 => ?_)
  · have h := h.1 c6
    refine x_iload_n C rfl 2 rfl dX12_couldBe_44 ?_
    exact x_iret C hr dX12_couldBe_45 ⟨_, rfl, h⟩
  · have h := h.2 c6
    refine x_iload_n C rfl 2 rfl dX12_couldBe_10 ?_
    refine x_aload_n C rfl 0 rfl dX12_couldBe_11 ?_
    refine x_getR (r := 378) C (j := 25) ob358.1 ob358.2 (Nat.le_of_ble_eq_true rfl) (Nat.le_of_ble_eq_true rfl) (fun _ _ _ => rfl) r_358_25 tw_8_231 dX12_couldBe_12 ?_
    refine x_iload_n C rfl 3 rfl dX12_couldBe_15 ?_
    obtain ⟨c7, h⟩ := h
    refine x_iald C ob378.1 ob378.2 c7 rfl dX12_couldBe_16 ?_
    refine x_if_le (tgt := 35) C dX12_couldBe_17 (by decide) (fun c8 => ?_) (fun c8 => ?_)
    · have h := h.1 c8
      refine x_sub [(0, .ref 358), (1, .int p1), (3, .int x.2.1)] [0, 1, 3] rfl ?_
      exact G12_couldBe_J35_ok C hd hr hK4 h
    · have h := h.2 c8
      refine x_aload_n C rfl 0 rfl dX12_couldBe_20 ?_
      refine x_iload_n C rfl 3 rfl dX12_couldBe_21 ?_
      refine x_callV (dC := G12_against_dep) (as := [.int x.2.1]) (st := [.int x.1]) C rX kX (Nat.le_trans (Nat.le_of_ble_eq_true rfl) hd) (Nat.le_of_ble_eq_true rfl) ob358.1 ob358.2 (Nat.le_of_ble_eq_true rfl) rfl ts_11_1 tw_8_123 tw_8_121 tc_8_124 tw_1_13 hyX12 hnX12_against rfl (Nat.le_of_ble_eq_true rfl) dX12_couldBe_22 (G12_against_met C.2.2.2.2.2.2.2.1 (Nat.le_refl _)  h) (fun r0 μ10 hq => ?_)
      obtain ⟨r11, rfl, h⟩ := hq
      refine x_st [.int r11, .int x.1] rfl ?_
      refine x_iload_n C rfl 1 rfl dX12_couldBe_25 ?_
      refine x_icmp_gt (tgt := 35) C dX12_couldBe_26 (by decide) (fun c12 => ?_) (fun c12 => ?_)
      · have h := h.1 c12
        refine x_sub [(0, .ref 358), (1, .int p1), (3, .int x.2.1)] [0, 1, 3] rfl ?_
        exact G12_couldBe_J35_ok C hd hr hK4 h
      · have h := h.2 c12
        refine x_iconst (v := 1) C (by decide) dX12_couldBe_29 ?_
        refine x_iload_n C rfl 3 rfl dX12_couldBe_30 ?_
        refine x_ishl C dX12_couldBe_31 ?_
        refine x_goto (tgt := 36) C dX12_couldBe_32 (by decide) ?_
        refine x_ior C dX12_couldBe_36 ?_
        refine x_topi (fun y13 e_y13 => ?_)
        have h := h y13 e_y13
        refine x_istore_n C [(2, .int y13), (0, .ref 358), (1, .int p1), (3, .int x.2.1)] rfl (Nat.le_of_ble_eq_true rfl) rfl dX12_couldBe_37 ?_
        refine x_iinc (v := (x.2.1 + 1)) C [(3, .int (x.2.1 + 1)), (2, .int y13), (0, .ref 358), (1, .int p1)] 3 rfl (congrArg (fun z => x.2.1 + z) (by decide : Int32.ofInt (1) = 1)) (Nat.le_of_ble_eq_true rfl) rfl dX12_couldBe_38 ?_
        refine x_goto (tgt := 4) C dX12_couldBe_41 (by decide) ?_
        refine x_sub [(0, .ref 358), (1, .int p1), (2, .int y13), (3, .int (x.2.1 + 1))] [2, 3, 1, 0] rfl ?_
        exact hK4 _ _ _ h
theorem G12_couldBe_L4_ok {p : Program} {e : Env} {s : State} {m : MethodId} {args : Array Value} {below : List Frame} {meth : Method} {c : Code} {l : Launch} {φ : Nat → Nat} {tc : Nat → ClassId} {D : va_G} {s0 : State} {dR : Nat} (C : CX p s m args meth c φ tc D (AX φ) s0 cX12_couldBe RX12 4) (hd : G12_couldBe_dep ≤ dR) (hr : meth.sig.returnType = (some .int))  {p1 : Int32} {Q : Int32 → MM → Prop}  {x : Int32 × Int32 × MM}    (h : Lp (G12_couldBe_L4 p1 Q) x) : WX p l e (rmX dR) s m args below meth c φ tc D (AX φ) 4 0 0 (MQ below (QX φ tc D (QI Q)) args s 0 0 (AX φ)) 4 [(0, .ref 358), (1, .int p1), (2, .int x.1), (3, .int x.2.1)] [] x.2.2 := by
  obtain ⟨n, h⟩ := h
  induction n generalizing x with
  | zero => exact h.elim
  | succ n ih => exact G12_couldBe_L4_b C hd hr   (fun z2 z3 zμ hz => by have q := ih hz; exact q) h
set_option maxHeartbeats 4000000 in
set_option maxRecDepth 100000 in
theorem G12_couldBe_met {l : Launch} {φ : Nat → Nat} {tc : Nat → ClassId} {D : va_G} {s0 : State} (hG : GX φ tc D s0) {dR : Nat} (hd : G12_couldBe_dep ≤ dR) {v1 : Int32} {μ : MM} {Q : Int32 → MM → Prop}  (h : G12_couldBe v1 μ Q) : MX l φ tc D s0 dR yX12_couldBe cX12_couldBe 4 (some .int) [.ref 358, .int v1] μ (QI Q) := by
  refine MX.of (own := RX12) hG plX12 rfl (Nat.le_of_ble_eq_true rfl) (fun p e s m args below meth c C hr => ?_)
  refine x_sub [(0, .ref 358), (1, .int v1)] [0, 1] rfl ?_
  unfold G12_couldBe at h
  refine x_iconst (v := 0) C (by decide) dX12_couldBe_0 ?_
  refine x_istore_n C [(2, .int 0), (0, .ref 358), (1, .int v1)] rfl (Nat.le_of_ble_eq_true rfl) rfl dX12_couldBe_1 ?_
  refine x_iconst (v := 0) C (by decide) dX12_couldBe_2 ?_
  refine x_istore_n C [(3, .int 0), (2, .int 0), (0, .ref 358), (1, .int v1)] rfl (Nat.le_of_ble_eq_true rfl) rfl dX12_couldBe_3 ?_
  refine x_sub [(0, .ref 358), (1, .int v1), (2, .int 0), (3, .int 0)] [2, 3, 1, 0] rfl ?_
  exact G12_couldBe_L4_ok C hd hr  h
set_option maxHeartbeats 4000000 in
set_option maxRecDepth 100000 in
theorem G12_pairs_J40_ok {p : Program} {e : Env} {s : State} {m : MethodId} {args : Array Value} {below : List Frame} {meth : Method} {c : Code} {l : Launch} {φ : Nat → Nat} {tc : Nat → ClassId} {D : va_G} {s0 : State} {dR : Nat} (C : CX p s m args meth c φ tc D (AX φ) s0 cX12_pairs RX12 2) (hd : G12_pairs_dep ≤ dR) (hr : meth.sig.returnType = (some .int))   {p1 : Int32} {q0 : Int64} {Q : Int32 → MM → Prop} {K12 : Int32 × MM → Prop} {μ : MM}   (hK12 : ∀ (z1 : Int32) (zμ : MM), K12 (z1, zμ) → WX p l e (rmX dR) s m args below meth c φ tc D (AX φ) 2 0 0 (MQ below (QX φ tc D (QI Q)) args s 0 0 (AX φ)) 12 [(0, .ref 358), (1, .int z1)] [] zμ) (h : G12_pairs_J40 p1 q0 μ K12 Q) : WX p l e (rmX dR) s m args below meth c φ tc D (AX φ) 2 0 0 (MQ below (QX φ tc D (QI Q)) args s 0 0 (AX φ)) 40 [(0, .ref 358), (1, .int p1)] [.long q0, .ref 358] μ := by
  unfold G12_pairs_J40 at h
  refine x_callV (dC := G12_enters_dep) (as := [.long q0]) (st := []) C rX kX (Nat.le_trans (Nat.le_of_ble_eq_true rfl) hd) (Nat.le_of_ble_eq_true rfl) ob358.1 ob358.2 (Nat.le_of_ble_eq_true rfl) rfl ts_10_1 tw_7_161 tw_7_159 tc_7_162 tw_1_13 hyX12 hnX12_enters rfl (Nat.le_of_ble_eq_true rfl) dX12_pairs_40 (G12_enters_met C.2.2.2.2.2.2.2.1 (Nat.le_refl _)  h) (fun r0 μ16 hq => ?_)
  obtain ⟨rfl, h⟩ := hq
  refine x_st [] rfl ?_
  refine x_iinc (v := (p1 + 1)) C [(1, .int (p1 + 1)), (0, .ref 358)] 1 rfl (congrArg (fun z => p1 + z) (by decide : Int32.ofInt (1) = 1)) (Nat.le_of_ble_eq_true rfl) rfl dX12_pairs_43 ?_
  refine x_goto (tgt := 12) C dX12_pairs_46 (by decide) ?_
  refine x_sub [(0, .ref 358), (1, .int (p1 + 1))] [1, 0] rfl ?_
  exact hK12 _ _ h
set_option maxHeartbeats 4000000 in
set_option maxRecDepth 100000 in
theorem G12_pairs_L12_b {p : Program} {e : Env} {s : State} {m : MethodId} {args : Array Value} {below : List Frame} {meth : Method} {c : Code} {l : Launch} {φ : Nat → Nat} {tc : Nat → ClassId} {D : va_G} {s0 : State} {dR : Nat} (C : CX p s m args meth c φ tc D (AX φ) s0 cX12_pairs RX12 2) (hd : G12_pairs_dep ≤ dR) (hr : meth.sig.returnType = (some .int))   {Q : Int32 → MM → Prop} {K12 : Int32 × MM → Prop} {x : Int32 × MM}   (hK12 : ∀ (z1 : Int32) (zμ : MM), K12 (z1, zμ) → WX p l e (rmX dR) s m args below meth c φ tc D (AX φ) 2 0 0 (MQ below (QX φ tc D (QI Q)) args s 0 0 (AX φ)) 12 [(0, .ref 358), (1, .int z1)] [] zμ) (h : G12_pairs_L12  Q K12 x) : WX p l e (rmX dR) s m args below meth c φ tc D (AX φ) 2 0 0 (MQ below (QX φ tc D (QI Q)) args s 0 0 (AX φ)) 12 [(0, .ref 358), (1, .int x.1)] [] x.2 := by
  unfold G12_pairs_L12 at h
  refine x_iload_n C rfl 1 rfl dX12_pairs_12 ?_
  refine x_bipush (v := 6) C (by decide) dX12_pairs_13 ?_
  refine x_icmp_ge (tgt := 49) C dX12_pairs_15 (by decide) (fun c11 => ?_) (fun c11 => ?_)
  · have h := h.1 c11
    refine x_aload_n C rfl 0 rfl dX12_pairs_49 ?_
    refine x_iconst (v := 0) C (by decide) dX12_pairs_50 ?_
    refine x_callV (dC := G12_couldBe_dep) (as := [.int 0]) (st := []) C rX kX (Nat.le_trans (Nat.le_of_ble_eq_true rfl) hd) (Nat.le_of_ble_eq_true rfl) ob358.1 ob358.2 (Nat.le_of_ble_eq_true rfl) rfl ts_11_4 tw_8_135 tw_8_133 tc_8_136 tw_1_13 hyX12 hnX12_couldBe rfl (Nat.le_of_ble_eq_true rfl) dX12_pairs_51 (G12_couldBe_met C.2.2.2.2.2.2.2.1 (Nat.le_refl _)  h) (fun r0 μ12 hq => ?_)
    obtain ⟨r13, rfl, h⟩ := hq
    refine x_st [.int r13] rfl ?_
    exact x_iret C hr dX12_pairs_54 ⟨_, rfl, h⟩
  · have h := h.2 c11
    refine x_aload_n C rfl 0 rfl dX12_pairs_18 ?_
    refine x_aload_n C rfl 0 rfl dX12_pairs_19 ?_
    refine x_getR (r := 378) C (j := 25) ob358.1 ob358.2 (Nat.le_of_ble_eq_true rfl) (Nat.le_of_ble_eq_true rfl) (fun _ _ _ => rfl) r_358_25 tw_8_231 dX12_pairs_20 ?_
    refine x_iload_n C rfl 1 rfl dX12_pairs_23 ?_
    obtain ⟨c14, h⟩ := h
    refine x_iald C ob378.1 ob378.2 c14 rfl dX12_pairs_24 ?_
    refine x_if_le (tgt := 37) C dX12_pairs_25 (by decide) (fun c15 => ?_) (fun c15 => ?_)
    · have h := h.1 c15
      refine x_ldc2 (v := (-1)) C tw_8_62 dX12_pairs_37 ?_
      exact G12_pairs_J40_ok C hd hr hK12 h
    · have h := h.2 c15
      refine x_aload_n C rfl 0 rfl dX12_pairs_28 ?_
      refine x_iload_n C rfl 1 rfl dX12_pairs_29 ?_
      refine x_callV (dC := G12_against_dep) (as := [.int x.1]) (st := [.ref 358]) C rX kX (Nat.le_trans (Nat.le_of_ble_eq_true rfl) hd) (Nat.le_of_ble_eq_true rfl) ob358.1 ob358.2 (Nat.le_of_ble_eq_true rfl) rfl ts_11_1 tw_8_123 tw_8_121 tc_8_124 tw_1_13 hyX12 hnX12_against rfl (Nat.le_of_ble_eq_true rfl) dX12_pairs_30 (G12_against_met C.2.2.2.2.2.2.2.1 (Nat.le_refl _)  h) (fun r0 μ17 hq => ?_)
      obtain ⟨r18, rfl, h⟩ := hq
      refine x_st [.int r18, .ref 358] rfl ?_
      refine x_i2l C dX12_pairs_33 ?_
      refine x_goto (tgt := 40) C dX12_pairs_34 (by decide) ?_
      exact G12_pairs_J40_ok C hd hr hK12 h
theorem G12_pairs_L12_ok {p : Program} {e : Env} {s : State} {m : MethodId} {args : Array Value} {below : List Frame} {meth : Method} {c : Code} {l : Launch} {φ : Nat → Nat} {tc : Nat → ClassId} {D : va_G} {s0 : State} {dR : Nat} (C : CX p s m args meth c φ tc D (AX φ) s0 cX12_pairs RX12 2) (hd : G12_pairs_dep ≤ dR) (hr : meth.sig.returnType = (some .int))   {Q : Int32 → MM → Prop}  {x : Int32 × MM}    (h : Lp (G12_pairs_L12  Q) x) : WX p l e (rmX dR) s m args below meth c φ tc D (AX φ) 2 0 0 (MQ below (QX φ tc D (QI Q)) args s 0 0 (AX φ)) 12 [(0, .ref 358), (1, .int x.1)] [] x.2 := by
  obtain ⟨n, h⟩ := h
  induction n generalizing x with
  | zero => exact h.elim
  | succ n ih => exact G12_pairs_L12_b C hd hr   (fun z1 zμ hz => by have q := ih hz; exact q) h
set_option maxHeartbeats 4000000 in
set_option maxRecDepth 100000 in
theorem G12_pairs_met {l : Launch} {φ : Nat → Nat} {tc : Nat → ClassId} {D : va_G} {s0 : State} (hG : GX φ tc D s0) {dR : Nat} (hd : G12_pairs_dep ≤ dR)  {μ : MM} {Q : Int32 → MM → Prop}  (h : G12_pairs  μ Q) : MX l φ tc D s0 dR yX12_pairs cX12_pairs 2 (some .int) [.ref 358] μ (QI Q) := by
  refine MX.of (own := RX12) hG plX12 rfl (Nat.le_of_ble_eq_true rfl) (fun p e s m args below meth c C hr => ?_)
  refine x_sub [(0, .ref 358)] [0] rfl ?_
  unfold G12_pairs at h
  refine x_aload_n C rfl 0 rfl dX12_pairs_0 ?_
  refine x_iconst (v := 0) C (by decide) dX12_pairs_1 ?_
  refine x_putI C (j := 0) ob358.1 ob358.2 (Nat.le_of_ble_eq_true rfl) (Nat.le_of_ble_eq_true rfl) (Or.inl rfl) rfl rfl rfl tw_8_206 dX12_pairs_2 ?_
  refine x_mu (fun μ9 e_μ9 => ?_)
  have h := h μ9 e_μ9
  refine x_aload_n C rfl 0 rfl dX12_pairs_5 ?_
  refine x_iconst (v := 0) C (by decide) dX12_pairs_6 ?_
  refine x_putI C (j := 1) ob358.1 ob358.2 (Nat.le_of_ble_eq_true rfl) (Nat.le_of_ble_eq_true rfl) (Or.inl rfl) rfl rfl rfl tw_8_207 dX12_pairs_7 ?_
  refine x_mu (fun μ10 e_μ10 => ?_)
  have h := h μ10 e_μ10
  refine x_iconst (v := 0) C (by decide) dX12_pairs_10 ?_
  refine x_istore_n C [(1, .int 0), (0, .ref 358)] rfl (Nat.le_of_ble_eq_true rfl) rfl dX12_pairs_11 ?_
  refine x_sub [(0, .ref 358), (1, .int 0)] [1, 0] rfl ?_
  exact G12_pairs_L12_ok C hd hr  h
set_option maxHeartbeats 4000000 in
set_option maxRecDepth 100000 in
theorem G12_ask_J157_ok {p : Program} {e : Env} {s : State} {m : MethodId} {args : Array Value} {below : List Frame} {meth : Method} {c : Code} {l : Launch} {φ : Nat → Nat} {tc : Nat → ClassId} {D : va_G} {s0 : State} {dR : Nat} (C : CX p s m args meth c φ tc D (AX φ) s0 cX12_ask RX12 11) (hd : G12_ask_dep ≤ dR) (hr : meth.sig.returnType = (some .int))   {p1 : Int32} {p5 : Int32} {p6 : Int32} {p7 : Int32} {Q : Int32 → MM → Prop} {K40 : Int32 × Int32 × Int32 × Int32 × MM → Prop} {K55 : Int32 × Int32 × Int32 × Int32 × MM → Prop} {μ : MM}   (hK40 : ∀ (z2 : Int32) (z3 : Int32) (z4 : Int32) (z5 : Int32) (zμ : MM), K40 (z2, z3, z4, z5, zμ) → WX p l e (rmX dR) s m args below meth c φ tc D (AX φ) 11 0 0 (MQ below (QX φ tc D (QI Q)) args s 0 0 (AX φ)) 40 [(0, .ref 358), (1, .int p1), (2, .int z2), (3, .int z3), (4, .int z4), (5, .int z5)] [] zμ) (hK55 : ∀ (z2 : Int32) (z3 : Int32) (z4 : Int32) (z6 : Int32) (zμ : MM), K55 (z2, z3, z4, z6, zμ) → WX p l e (rmX dR) s m args below meth c φ tc D (AX φ) 11 0 0 (MQ below (QX φ tc D (QI Q)) args s 0 0 (AX φ)) 55 [(0, .ref 358), (1, .int p1), (2, .int z2), (3, .int z3), (4, .int z4), (5, .int p5), (6, .int z6)] [] zμ) (h : G12_ask_J157 p1 p5 p6 p7 μ K40 K55 Q) : WX p l e (rmX dR) s m args below meth c φ tc D (AX φ) 11 0 0 (MQ below (QX φ tc D (QI Q)) args s 0 0 (AX φ)) 157 [(0, .ref 358), (1, .int p1), (5, .int p5), (6, .int p6), (7, .int p7)] [] μ := by
  unfold G12_ask_J157 at h
  refine x_iload C 4 rfl dX12_ask_157 ?_
  refine x_istore_n C [(2, .int p7), (0, .ref 358), (1, .int p1), (5, .int p5), (6, .int p6), (7, .int p7)] rfl (Nat.le_of_ble_eq_true rfl) rfl dX12_ask_159 ?_
  refine x_iload C 3 rfl dX12_ask_160 ?_
  refine x_istore_n C [(3, .int p5), (2, .int p7), (0, .ref 358), (1, .int p1), (5, .int p5), (6, .int p6), (7, .int p7)] rfl (Nat.le_of_ble_eq_true rfl) rfl dX12_ask_162 ?_
  refine x_iload C 5 rfl dX12_ask_163 ?_
  refine x_istore C [(4, .int p6), (3, .int p5), (2, .int p7), (0, .ref 358), (1, .int p1), (5, .int p5), (6, .int p6), (7, .int p7)] (Nat.le_of_ble_eq_true rfl) rfl dX12_ask_165 ?_
  refine x_iinc (v := (p6 + 1)) C [(6, .int (p6 + 1)), (4, .int p6), (3, .int p5), (2, .int p7), (0, .ref 358), (1, .int p1), (5, .int p5), (7, .int p7)] 6 rfl (congrArg (fun z => p6 + z) (by decide : Int32.ofInt (1) = 1)) (Nat.le_of_ble_eq_true rfl) rfl dX12_ask_167 ?_
  refine x_goto (tgt := 55) C dX12_ask_170 (by decide) ?_
  refine x_sub [(0, .ref 358), (1, .int p1), (2, .int p7), (3, .int p5), (4, .int p6), (5, .int p5), (6, .int (p6 + 1))] [4, 5, 3, 2, 1, 6, 0] rfl ?_
  exact hK55 _ _ _ _ _ h
set_option maxHeartbeats 4000000 in
set_option maxRecDepth 100000 in
theorem G12_ask_J120_ok {p : Program} {e : Env} {s : State} {m : MethodId} {args : Array Value} {below : List Frame} {meth : Method} {c : Code} {l : Launch} {φ : Nat → Nat} {tc : Nat → ClassId} {D : va_G} {s0 : State} {dR : Nat} (C : CX p s m args meth c φ tc D (AX φ) s0 cX12_ask RX12 11) (hd : G12_ask_dep ≤ dR) (hr : meth.sig.returnType = (some .int))   {p1 : Int32} {p2 : Int32} {p3 : Int32} {p4 : Int32} {p5 : Int32} {p6 : Int32} {p7 : Int32} {p8 : Int32} {p10 : Int32} {q0 : Int32} {q1 : Int32} {Q : Int32 → MM → Prop} {K40 : Int32 × Int32 × Int32 × Int32 × MM → Prop} {K55 : Int32 × Int32 × Int32 × Int32 × MM → Prop} {K70 : Int32 × Int32 × MM → Prop} {K82 : Int32 × Int32 × MM → Prop} {μ : MM}   (hK40 : ∀ (z2 : Int32) (z3 : Int32) (z4 : Int32) (z5 : Int32) (zμ : MM), K40 (z2, z3, z4, z5, zμ) → WX p l e (rmX dR) s m args below meth c φ tc D (AX φ) 11 0 0 (MQ below (QX φ tc D (QI Q)) args s 0 0 (AX φ)) 40 [(0, .ref 358), (1, .int p1), (2, .int z2), (3, .int z3), (4, .int z4), (5, .int z5)] [] zμ) (hK55 : ∀ (z2 : Int32) (z3 : Int32) (z4 : Int32) (z6 : Int32) (zμ : MM), K55 (z2, z3, z4, z6, zμ) → WX p l e (rmX dR) s m args below meth c φ tc D (AX φ) 11 0 0 (MQ below (QX φ tc D (QI Q)) args s 0 0 (AX φ)) 55 [(0, .ref 358), (1, .int p1), (2, .int z2), (3, .int z3), (4, .int z4), (5, .int p5), (6, .int z6)] [] zμ) (hK70 : ∀ (z7 : Int32) (z8 : Int32) (zμ : MM), K70 (z7, z8, zμ) → WX p l e (rmX dR) s m args below meth c φ tc D (AX φ) 11 0 0 (MQ below (QX φ tc D (QI Q)) args s 0 0 (AX φ)) 70 [(0, .ref 358), (1, .int p1), (2, .int p2), (3, .int p3), (4, .int p4), (5, .int p5), (6, .int p6), (7, .int z7), (8, .int z8)] [] zμ) (hK82 : ∀ (z9 : Int32) (z10 : Int32) (zμ : MM), K82 (z9, z10, zμ) → WX p l e (rmX dR) s m args below meth c φ tc D (AX φ) 11 0 0 (MQ below (QX φ tc D (QI Q)) args s 0 0 (AX φ)) 82 [(0, .ref 358), (1, .int p1), (2, .int p2), (3, .int p3), (4, .int p4), (5, .int p5), (6, .int p6), (7, .int p7), (8, .int p8), (9, .int z9), (10, .int z10)] [] zμ) (h : G12_ask_J120 p1 p2 p3 p4 p5 p6 p7 p8 p10 q0 q1 μ K40 K55 K70 K82 Q) : WX p l e (rmX dR) s m args below meth c φ tc D (AX φ) 11 0 0 (MQ below (QX φ tc D (QI Q)) args s 0 0 (AX φ)) 120 [(0, .ref 358), (1, .int p1), (2, .int p2), (3, .int p3), (4, .int p4), (5, .int p5), (6, .int p6), (7, .int p7), (8, .int p8), (10, .int p10)] [.int q0, .int q1] μ := by
  unfold G12_ask_J120 at h
  refine x_callS (dC := G12_flag_dep) (as := [.int q0]) (st := [.int q1]) C rX kX (Nat.le_trans (Nat.le_of_ble_eq_true rfl) hd) (Nat.le_of_ble_eq_true rfl) tw_6_212 tw_6_211 tc_6_213 tw_1_13 hyX12 hnX12_flag rfl (Nat.le_of_ble_eq_true rfl) dX12_ask_120 (G12_flag_met C.2.2.2.2.2.2.2.1 (Nat.le_refl _)  h) (fun r0 μ39 hq => ?_)
  obtain ⟨r40, rfl, h⟩ := hq
  refine x_st [.int r40, .int q1] rfl ?_
  refine x_iadd C dX12_ask_123 ?_
  refine x_topi (fun y41 e_y41 => ?_)
  have h := h y41 e_y41
  refine x_istore C [(9, .int y41), (0, .ref 358), (1, .int p1), (2, .int p2), (3, .int p3), (4, .int p4), (5, .int p5), (6, .int p6), (7, .int p7), (8, .int p8), (10, .int p10)] (Nat.le_of_ble_eq_true rfl) rfl dX12_ask_124 ?_
  refine x_iinc (v := (p10 + 1)) C [(10, .int (p10 + 1)), (9, .int y41), (0, .ref 358), (1, .int p1), (2, .int p2), (3, .int p3), (4, .int p4), (5, .int p5), (6, .int p6), (7, .int p7), (8, .int p8)] 10 rfl (congrArg (fun z => p10 + z) (by decide : Int32.ofInt (1) = 1)) (Nat.le_of_ble_eq_true rfl) rfl dX12_ask_126 ?_
  refine x_goto (tgt := 82) C dX12_ask_129 (by decide) ?_
  refine x_sub [(0, .ref 358), (1, .int p1), (2, .int p2), (3, .int p3), (4, .int p4), (5, .int p5), (6, .int p6), (7, .int p7), (8, .int p8), (9, .int y41), (10, .int (p10 + 1))] [2, 3, 4, 5, 6, 7, 8, 9, 10, 1, 0] rfl ?_
  exact hK82 _ _ _ h
set_option maxHeartbeats 4000000 in
set_option maxRecDepth 100000 in
theorem G12_ask_J119_ok {p : Program} {e : Env} {s : State} {m : MethodId} {args : Array Value} {below : List Frame} {meth : Method} {c : Code} {l : Launch} {φ : Nat → Nat} {tc : Nat → ClassId} {D : va_G} {s0 : State} {dR : Nat} (C : CX p s m args meth c φ tc D (AX φ) s0 cX12_ask RX12 11) (hd : G12_ask_dep ≤ dR) (hr : meth.sig.returnType = (some .int))   {p1 : Int32} {p2 : Int32} {p3 : Int32} {p4 : Int32} {p5 : Int32} {p6 : Int32} {p7 : Int32} {p8 : Int32} {p10 : Int32} {q0 : Int32} {Q : Int32 → MM → Prop} {K40 : Int32 × Int32 × Int32 × Int32 × MM → Prop} {K55 : Int32 × Int32 × Int32 × Int32 × MM → Prop} {K70 : Int32 × Int32 × MM → Prop} {K82 : Int32 × Int32 × MM → Prop} {μ : MM}   (hK40 : ∀ (z2 : Int32) (z3 : Int32) (z4 : Int32) (z5 : Int32) (zμ : MM), K40 (z2, z3, z4, z5, zμ) → WX p l e (rmX dR) s m args below meth c φ tc D (AX φ) 11 0 0 (MQ below (QX φ tc D (QI Q)) args s 0 0 (AX φ)) 40 [(0, .ref 358), (1, .int p1), (2, .int z2), (3, .int z3), (4, .int z4), (5, .int z5)] [] zμ) (hK55 : ∀ (z2 : Int32) (z3 : Int32) (z4 : Int32) (z6 : Int32) (zμ : MM), K55 (z2, z3, z4, z6, zμ) → WX p l e (rmX dR) s m args below meth c φ tc D (AX φ) 11 0 0 (MQ below (QX φ tc D (QI Q)) args s 0 0 (AX φ)) 55 [(0, .ref 358), (1, .int p1), (2, .int z2), (3, .int z3), (4, .int z4), (5, .int p5), (6, .int z6)] [] zμ) (hK70 : ∀ (z7 : Int32) (z8 : Int32) (zμ : MM), K70 (z7, z8, zμ) → WX p l e (rmX dR) s m args below meth c φ tc D (AX φ) 11 0 0 (MQ below (QX φ tc D (QI Q)) args s 0 0 (AX φ)) 70 [(0, .ref 358), (1, .int p1), (2, .int p2), (3, .int p3), (4, .int p4), (5, .int p5), (6, .int p6), (7, .int z7), (8, .int z8)] [] zμ) (hK82 : ∀ (z9 : Int32) (z10 : Int32) (zμ : MM), K82 (z9, z10, zμ) → WX p l e (rmX dR) s m args below meth c φ tc D (AX φ) 11 0 0 (MQ below (QX φ tc D (QI Q)) args s 0 0 (AX φ)) 82 [(0, .ref 358), (1, .int p1), (2, .int p2), (3, .int p3), (4, .int p4), (5, .int p5), (6, .int p6), (7, .int p7), (8, .int p8), (9, .int z9), (10, .int z10)] [] zμ) (h : G12_ask_J119 p1 p2 p3 p4 p5 p6 p7 p8 p10 q0 μ K40 K55 K70 K82 Q) : WX p l e (rmX dR) s m args below meth c φ tc D (AX φ) 11 0 0 (MQ below (QX φ tc D (QI Q)) args s 0 0 (AX φ)) 119 [(0, .ref 358), (1, .int p1), (2, .int p2), (3, .int p3), (4, .int p4), (5, .int p5), (6, .int p6), (7, .int p7), (8, .int p8), (10, .int p10)] [.int q0] μ := by
  unfold G12_ask_J119 at h
  refine x_iconst (v := 0) C (by decide) dX12_ask_119 ?_
  exact G12_ask_J120_ok C hd hr hK40 hK55 hK70 hK82 h
set_option maxHeartbeats 4000000 in
set_option maxRecDepth 100000 in
theorem G12_ask_L82_b {p : Program} {e : Env} {s : State} {m : MethodId} {args : Array Value} {below : List Frame} {meth : Method} {c : Code} {l : Launch} {φ : Nat → Nat} {tc : Nat → ClassId} {D : va_G} {s0 : State} {dR : Nat} (C : CX p s m args meth c φ tc D (AX φ) s0 cX12_ask RX12 11) (hd : G12_ask_dep ≤ dR) (hr : meth.sig.returnType = (some .int))  {p1 : Int32} {p2 : Int32} {p3 : Int32} {p4 : Int32} {p5 : Int32} {p6 : Int32} {p7 : Int32} {p8 : Int32} {Q : Int32 → MM → Prop} {K40 : Int32 × Int32 × Int32 × Int32 × MM → Prop} {K55 : Int32 × Int32 × Int32 × Int32 × MM → Prop} {K70 : Int32 × Int32 × MM → Prop} {K82 : Int32 × Int32 × MM → Prop} {x : Int32 × Int32 × MM}   (hK40 : ∀ (z2 : Int32) (z3 : Int32) (z4 : Int32) (z5 : Int32) (zμ : MM), K40 (z2, z3, z4, z5, zμ) → WX p l e (rmX dR) s m args below meth c φ tc D (AX φ) 11 0 0 (MQ below (QX φ tc D (QI Q)) args s 0 0 (AX φ)) 40 [(0, .ref 358), (1, .int p1), (2, .int z2), (3, .int z3), (4, .int z4), (5, .int z5)] [] zμ) (hK55 : ∀ (z2 : Int32) (z3 : Int32) (z4 : Int32) (z6 : Int32) (zμ : MM), K55 (z2, z3, z4, z6, zμ) → WX p l e (rmX dR) s m args below meth c φ tc D (AX φ) 11 0 0 (MQ below (QX φ tc D (QI Q)) args s 0 0 (AX φ)) 55 [(0, .ref 358), (1, .int p1), (2, .int z2), (3, .int z3), (4, .int z4), (5, .int p5), (6, .int z6)] [] zμ) (hK70 : ∀ (z7 : Int32) (z8 : Int32) (zμ : MM), K70 (z7, z8, zμ) → WX p l e (rmX dR) s m args below meth c φ tc D (AX φ) 11 0 0 (MQ below (QX φ tc D (QI Q)) args s 0 0 (AX φ)) 70 [(0, .ref 358), (1, .int p1), (2, .int p2), (3, .int p3), (4, .int p4), (5, .int p5), (6, .int p6), (7, .int z7), (8, .int z8)] [] zμ) (hK82 : ∀ (z9 : Int32) (z10 : Int32) (zμ : MM), K82 (z9, z10, zμ) → WX p l e (rmX dR) s m args below meth c φ tc D (AX φ) 11 0 0 (MQ below (QX φ tc D (QI Q)) args s 0 0 (AX φ)) 82 [(0, .ref 358), (1, .int p1), (2, .int p2), (3, .int p3), (4, .int p4), (5, .int p5), (6, .int p6), (7, .int p7), (8, .int p8), (9, .int z9), (10, .int z10)] [] zμ) (h : G12_ask_L82 p1 p2 p3 p4 p5 p6 p7 p8 K40 K55 K70 Q K82 x) : WX p l e (rmX dR) s m args below meth c φ tc D (AX φ) 11 0 0 (MQ below (QX φ tc D (QI Q)) args s 0 0 (AX φ)) 82 [(0, .ref 358), (1, .int p1), (2, .int p2), (3, .int p3), (4, .int p4), (5, .int p5), (6, .int p6), (7, .int p7), (8, .int p8), (9, .int x.1), (10, .int x.2.1)] [] x.2.2 := by
  unfold G12_ask_L82 at h
  refine x_iload C 10 rfl dX12_ask_82 ?_
  refine x_bipush (v := 6) C (by decide) dX12_ask_84 ?_
  refine x_icmp_ge (tgt := 132) C dX12_ask_86 (by decide) (fun c34 => ?_) (fun c34 => ?_)
  · have h := h.1 c34
    refine x_iload C 7 rfl dX12_ask_132 ?_
    refine x_iload C 9 rfl dX12_ask_134 ?_
    refine x_mmax C rX kX (Nat.le_trans (Nat.le_of_ble_eq_true rfl) hd) tw_7_98 tw_3_77 tw_1_20 (Nat.le_of_ble_eq_true rfl) dX12_ask_136 ?_
    refine x_topi (fun y35 e_y35 => ?_)
    have h := h y35 e_y35
    refine x_istore C [(7, .int y35), (0, .ref 358), (1, .int p1), (2, .int p2), (3, .int p3), (4, .int p4), (5, .int p5), (6, .int p6), (8, .int p8), (9, .int x.1), (10, .int x.2.1)] (Nat.le_of_ble_eq_true rfl) rfl dX12_ask_139 ?_
    refine x_iinc (v := (p8 + 1)) C [(8, .int (p8 + 1)), (7, .int y35), (0, .ref 358), (1, .int p1), (2, .int p2), (3, .int p3), (4, .int p4), (5, .int p5), (6, .int p6), (9, .int x.1), (10, .int x.2.1)] 8 rfl (congrArg (fun z => p8 + z) (by decide : Int32.ofInt (1) = 1)) (Nat.le_of_ble_eq_true rfl) rfl dX12_ask_141 ?_
    refine x_goto (tgt := 70) C dX12_ask_144 (by decide) ?_
    refine x_sub [(0, .ref 358), (1, .int p1), (2, .int p2), (3, .int p3), (4, .int p4), (5, .int p5), (6, .int p6), (7, .int y35), (8, .int (p8 + 1))] [2, 3, 4, 5, 6, 7, 8, 1, 0] rfl ?_
    exact hK70 _ _ _ h
  · have h := h.2 c34
    refine x_iload C 9 rfl dX12_ask_89 ?_
    refine x_iload_n C rfl 1 rfl dX12_ask_91 ?_
    refine x_iload C 10 rfl dX12_ask_92 ?_
    refine x_callS (dC := G12_has_dep) (as := [.int p1, .int x.2.1]) (st := [.int x.1]) C rX kX (Nat.le_trans (Nat.le_of_ble_eq_true rfl) hd) (Nat.le_of_ble_eq_true rfl) tw_7_203 tw_7_202 tc_7_204 tw_1_13 hyX12 hnX12_has rfl (Nat.le_of_ble_eq_true rfl) dX12_ask_94 (G12_has_met C.2.2.2.2.2.2.2.1 (Nat.le_refl _)  h) (fun r0 μ36 hq => ?_)
    obtain ⟨r37, rfl, h⟩ := hq
    refine x_st [.int r37, .int x.1] rfl ?_
    refine x_if_eq (tgt := 119) C dX12_ask_97 (by decide) (fun c38 => ?_) (fun c38 => ?_)
    · have h := h.1 c38
      refine x_sub [(0, .ref 358), (1, .int p1), (2, .int p2), (3, .int p3), (4, .int p4), (5, .int p5), (6, .int p6), (7, .int p7), (8, .int p8), (10, .int x.2.1)] [0, 1, 2, 3, 4, 5, 6, 7, 8, 10] rfl ?_
      exact G12_ask_J119_ok C hd hr hK40 hK55 hK70 hK82 h
    · have h := h.2 c38
      refine x_aload_n C rfl 0 rfl dX12_ask_100 ?_
      refine x_iload C 10 rfl dX12_ask_101 ?_
      refine x_iload C 5 rfl dX12_ask_103 ?_
      refine x_iload C 6 rfl dX12_ask_105 ?_
      refine x_iload C 8 rfl dX12_ask_107 ?_
      refine x_callV (dC := G12_isAgainst_dep) (as := [.int x.2.1, .int p5, .int p6, .int p8]) (st := [.int x.1]) C rX kX (Nat.le_trans (Nat.le_of_ble_eq_true rfl) hd) (Nat.le_of_ble_eq_true rfl) ob358.1 ob358.2 (Nat.le_of_ble_eq_true rfl) rfl ts_11_2 tw_8_127 tw_8_125 tc_8_128 tw_1_13 hyX12 hnX12_isAgainst rfl (Nat.le_of_ble_eq_true rfl) dX12_ask_109 (G12_isAgainst_met C.2.2.2.2.2.2.2.1 (Nat.le_refl _)  h) (fun r0 μ42 hq => ?_)
      obtain ⟨r43, rfl, h⟩ := hq
      refine x_st [.int r43, .int x.1] rfl ?_
      refine x_if_ne (tgt := 119) C dX12_ask_112 (by decide) (fun c44 => ?_) (fun c44 => ?_)
      · have h := h.1 c44
        refine x_sub [(0, .ref 358), (1, .int p1), (2, .int p2), (3, .int p3), (4, .int p4), (5, .int p5), (6, .int p6), (7, .int p7), (8, .int p8), (10, .int x.2.1)] [0, 1, 2, 3, 4, 5, 6, 7, 8, 10] rfl ?_
        exact G12_ask_J119_ok C hd hr hK40 hK55 hK70 hK82 h
      · have h := h.2 c44
        refine x_iconst (v := 1) C (by decide) dX12_ask_115 ?_
        refine x_goto (tgt := 120) C dX12_ask_116 (by decide) ?_
        refine x_sub [(0, .ref 358), (1, .int p1), (2, .int p2), (3, .int p3), (4, .int p4), (5, .int p5), (6, .int p6), (7, .int p7), (8, .int p8), (10, .int x.2.1)] [0, 1, 2, 3, 4, 5, 6, 7, 8, 10] rfl ?_
        exact G12_ask_J120_ok C hd hr hK40 hK55 hK70 hK82 h
theorem G12_ask_L82_ok {p : Program} {e : Env} {s : State} {m : MethodId} {args : Array Value} {below : List Frame} {meth : Method} {c : Code} {l : Launch} {φ : Nat → Nat} {tc : Nat → ClassId} {D : va_G} {s0 : State} {dR : Nat} (C : CX p s m args meth c φ tc D (AX φ) s0 cX12_ask RX12 11) (hd : G12_ask_dep ≤ dR) (hr : meth.sig.returnType = (some .int))  {p1 : Int32} {p2 : Int32} {p3 : Int32} {p4 : Int32} {p5 : Int32} {p6 : Int32} {p7 : Int32} {p8 : Int32} {Q : Int32 → MM → Prop} {K40 : Int32 × Int32 × Int32 × Int32 × MM → Prop} {K55 : Int32 × Int32 × Int32 × Int32 × MM → Prop} {K70 : Int32 × Int32 × MM → Prop} {x : Int32 × Int32 × MM}   (hK40 : ∀ (z2 : Int32) (z3 : Int32) (z4 : Int32) (z5 : Int32) (zμ : MM), K40 (z2, z3, z4, z5, zμ) → WX p l e (rmX dR) s m args below meth c φ tc D (AX φ) 11 0 0 (MQ below (QX φ tc D (QI Q)) args s 0 0 (AX φ)) 40 [(0, .ref 358), (1, .int p1), (2, .int z2), (3, .int z3), (4, .int z4), (5, .int z5)] [] zμ) (hK55 : ∀ (z2 : Int32) (z3 : Int32) (z4 : Int32) (z6 : Int32) (zμ : MM), K55 (z2, z3, z4, z6, zμ) → WX p l e (rmX dR) s m args below meth c φ tc D (AX φ) 11 0 0 (MQ below (QX φ tc D (QI Q)) args s 0 0 (AX φ)) 55 [(0, .ref 358), (1, .int p1), (2, .int z2), (3, .int z3), (4, .int z4), (5, .int p5), (6, .int z6)] [] zμ) (hK70 : ∀ (z7 : Int32) (z8 : Int32) (zμ : MM), K70 (z7, z8, zμ) → WX p l e (rmX dR) s m args below meth c φ tc D (AX φ) 11 0 0 (MQ below (QX φ tc D (QI Q)) args s 0 0 (AX φ)) 70 [(0, .ref 358), (1, .int p1), (2, .int p2), (3, .int p3), (4, .int p4), (5, .int p5), (6, .int p6), (7, .int z7), (8, .int z8)] [] zμ) (h : Lp (G12_ask_L82 p1 p2 p3 p4 p5 p6 p7 p8 K40 K55 K70 Q) x) : WX p l e (rmX dR) s m args below meth c φ tc D (AX φ) 11 0 0 (MQ below (QX φ tc D (QI Q)) args s 0 0 (AX φ)) 82 [(0, .ref 358), (1, .int p1), (2, .int p2), (3, .int p3), (4, .int p4), (5, .int p5), (6, .int p6), (7, .int p7), (8, .int p8), (9, .int x.1), (10, .int x.2.1)] [] x.2.2 := by
  obtain ⟨n, h⟩ := h
  induction n generalizing x with
  | zero => exact h.elim
  | succ n ih => exact G12_ask_L82_b C hd hr  hK40 hK55 hK70 (fun z9 z10 zμ hz => by have q := ih hz; exact q) h
set_option maxHeartbeats 4000000 in
set_option maxRecDepth 100000 in
theorem G12_ask_L70_b {p : Program} {e : Env} {s : State} {m : MethodId} {args : Array Value} {below : List Frame} {meth : Method} {c : Code} {l : Launch} {φ : Nat → Nat} {tc : Nat → ClassId} {D : va_G} {s0 : State} {dR : Nat} (C : CX p s m args meth c φ tc D (AX φ) s0 cX12_ask RX12 11) (hd : G12_ask_dep ≤ dR) (hr : meth.sig.returnType = (some .int))  {p1 : Int32} {p2 : Int32} {p3 : Int32} {p4 : Int32} {p5 : Int32} {p6 : Int32} {Q : Int32 → MM → Prop} {K40 : Int32 × Int32 × Int32 × Int32 × MM → Prop} {K55 : Int32 × Int32 × Int32 × Int32 × MM → Prop} {K70 : Int32 × Int32 × MM → Prop} {x : Int32 × Int32 × MM}   (hK40 : ∀ (z2 : Int32) (z3 : Int32) (z4 : Int32) (z5 : Int32) (zμ : MM), K40 (z2, z3, z4, z5, zμ) → WX p l e (rmX dR) s m args below meth c φ tc D (AX φ) 11 0 0 (MQ below (QX φ tc D (QI Q)) args s 0 0 (AX φ)) 40 [(0, .ref 358), (1, .int p1), (2, .int z2), (3, .int z3), (4, .int z4), (5, .int z5)] [] zμ) (hK55 : ∀ (z2 : Int32) (z3 : Int32) (z4 : Int32) (z6 : Int32) (zμ : MM), K55 (z2, z3, z4, z6, zμ) → WX p l e (rmX dR) s m args below meth c φ tc D (AX φ) 11 0 0 (MQ below (QX φ tc D (QI Q)) args s 0 0 (AX φ)) 55 [(0, .ref 358), (1, .int p1), (2, .int z2), (3, .int z3), (4, .int z4), (5, .int p5), (6, .int z6)] [] zμ) (hK70 : ∀ (z7 : Int32) (z8 : Int32) (zμ : MM), K70 (z7, z8, zμ) → WX p l e (rmX dR) s m args below meth c φ tc D (AX φ) 11 0 0 (MQ below (QX φ tc D (QI Q)) args s 0 0 (AX φ)) 70 [(0, .ref 358), (1, .int p1), (2, .int p2), (3, .int p3), (4, .int p4), (5, .int p5), (6, .int p6), (7, .int z7), (8, .int z8)] [] zμ) (h : G12_ask_L70 p1 p2 p3 p4 p5 p6 K40 K55 Q K70 x) : WX p l e (rmX dR) s m args below meth c φ tc D (AX φ) 11 0 0 (MQ below (QX φ tc D (QI Q)) args s 0 0 (AX φ)) 70 [(0, .ref 358), (1, .int p1), (2, .int p2), (3, .int p3), (4, .int p4), (5, .int p5), (6, .int p6), (7, .int x.1), (8, .int x.2.1)] [] x.2.2 := by
  unfold G12_ask_L70 at h
  refine x_iload C 8 rfl dX12_ask_70 ?_
  refine x_iconst (v := 3) C (by decide) dX12_ask_72 ?_
  refine x_icmp_ge (tgt := 147) C dX12_ask_73 (by decide) (fun c31 => ?_) (fun c31 => ?_)
  · have h := h.1 c31
    refine x_iload_n C rfl 2 rfl dX12_ask_147 ?_
    refine x_if_lt (tgt := 157) C dX12_ask_148 (by decide) (fun c32 => ?_) (fun c32 => ?_)
    · have h := h.1 c32
      refine x_sub [(0, .ref 358), (1, .int p1), (5, .int p5), (6, .int p6), (7, .int x.1)] [0, 1, 5, 6, 7] rfl ?_
      exact G12_ask_J157_ok C hd hr hK40 hK55 h
    · have h := h.2 c32
      refine x_iload C 7 rfl dX12_ask_151 ?_
      refine x_iload_n C rfl 2 rfl dX12_ask_153 ?_
      refine x_icmp_ge (tgt := 167) C dX12_ask_154 (by decide) (fun c33 => ?_) (fun c33 => ?_)
      · have h := h.1 c33
        refine x_iinc (v := (p6 + 1)) C [(6, .int (p6 + 1)), (0, .ref 358), (1, .int p1), (2, .int p2), (3, .int p3), (4, .int p4), (5, .int p5), (7, .int x.1), (8, .int x.2.1)] 6 rfl (congrArg (fun z => p6 + z) (by decide : Int32.ofInt (1) = 1)) (Nat.le_of_ble_eq_true rfl) rfl dX12_ask_167 ?_
        refine x_goto (tgt := 55) C dX12_ask_170 (by decide) ?_
        refine x_sub [(0, .ref 358), (1, .int p1), (2, .int p2), (3, .int p3), (4, .int p4), (5, .int p5), (6, .int (p6 + 1))] [1, 2, 3, 4, 5, 6, 0] rfl ?_
        exact hK55 _ _ _ _ _ h
      · have h := h.2 c33
        refine x_sub [(0, .ref 358), (1, .int p1), (5, .int p5), (6, .int p6), (7, .int x.1)] [0, 1, 5, 6, 7] rfl ?_
        exact G12_ask_J157_ok C hd hr hK40 hK55 h
  · have h := h.2 c31
    refine x_iconst (v := 0) C (by decide) dX12_ask_76 ?_
    refine x_istore C [(9, .int 0), (0, .ref 358), (1, .int p1), (2, .int p2), (3, .int p3), (4, .int p4), (5, .int p5), (6, .int p6), (7, .int x.1), (8, .int x.2.1)] (Nat.le_of_ble_eq_true rfl) rfl dX12_ask_77 ?_
    refine x_iconst (v := 0) C (by decide) dX12_ask_79 ?_
    refine x_istore C [(10, .int 0), (9, .int 0), (0, .ref 358), (1, .int p1), (2, .int p2), (3, .int p3), (4, .int p4), (5, .int p5), (6, .int p6), (7, .int x.1), (8, .int x.2.1)] (Nat.le_of_ble_eq_true rfl) rfl dX12_ask_80 ?_
    refine x_sub [(0, .ref 358), (1, .int p1), (2, .int p2), (3, .int p3), (4, .int p4), (5, .int p5), (6, .int p6), (7, .int x.1), (8, .int x.2.1), (9, .int 0), (10, .int 0)] [2, 3, 4, 5, 6, 7, 8, 9, 10, 1, 0] rfl ?_
    exact G12_ask_L82_ok C hd hr hK40 hK55 hK70 h
theorem G12_ask_L70_ok {p : Program} {e : Env} {s : State} {m : MethodId} {args : Array Value} {below : List Frame} {meth : Method} {c : Code} {l : Launch} {φ : Nat → Nat} {tc : Nat → ClassId} {D : va_G} {s0 : State} {dR : Nat} (C : CX p s m args meth c φ tc D (AX φ) s0 cX12_ask RX12 11) (hd : G12_ask_dep ≤ dR) (hr : meth.sig.returnType = (some .int))  {p1 : Int32} {p2 : Int32} {p3 : Int32} {p4 : Int32} {p5 : Int32} {p6 : Int32} {Q : Int32 → MM → Prop} {K40 : Int32 × Int32 × Int32 × Int32 × MM → Prop} {K55 : Int32 × Int32 × Int32 × Int32 × MM → Prop} {x : Int32 × Int32 × MM}   (hK40 : ∀ (z2 : Int32) (z3 : Int32) (z4 : Int32) (z5 : Int32) (zμ : MM), K40 (z2, z3, z4, z5, zμ) → WX p l e (rmX dR) s m args below meth c φ tc D (AX φ) 11 0 0 (MQ below (QX φ tc D (QI Q)) args s 0 0 (AX φ)) 40 [(0, .ref 358), (1, .int p1), (2, .int z2), (3, .int z3), (4, .int z4), (5, .int z5)] [] zμ) (hK55 : ∀ (z2 : Int32) (z3 : Int32) (z4 : Int32) (z6 : Int32) (zμ : MM), K55 (z2, z3, z4, z6, zμ) → WX p l e (rmX dR) s m args below meth c φ tc D (AX φ) 11 0 0 (MQ below (QX φ tc D (QI Q)) args s 0 0 (AX φ)) 55 [(0, .ref 358), (1, .int p1), (2, .int z2), (3, .int z3), (4, .int z4), (5, .int p5), (6, .int z6)] [] zμ) (h : Lp (G12_ask_L70 p1 p2 p3 p4 p5 p6 K40 K55 Q) x) : WX p l e (rmX dR) s m args below meth c φ tc D (AX φ) 11 0 0 (MQ below (QX φ tc D (QI Q)) args s 0 0 (AX φ)) 70 [(0, .ref 358), (1, .int p1), (2, .int p2), (3, .int p3), (4, .int p4), (5, .int p5), (6, .int p6), (7, .int x.1), (8, .int x.2.1)] [] x.2.2 := by
  obtain ⟨n, h⟩ := h
  induction n generalizing x with
  | zero => exact h.elim
  | succ n ih => exact G12_ask_L70_b C hd hr  hK40 hK55 (fun z7 z8 zμ hz => by have q := ih hz; exact q) h
set_option maxHeartbeats 4000000 in
set_option maxRecDepth 100000 in
theorem G12_ask_L55_b {p : Program} {e : Env} {s : State} {m : MethodId} {args : Array Value} {below : List Frame} {meth : Method} {c : Code} {l : Launch} {φ : Nat → Nat} {tc : Nat → ClassId} {D : va_G} {s0 : State} {dR : Nat} (C : CX p s m args meth c φ tc D (AX φ) s0 cX12_ask RX12 11) (hd : G12_ask_dep ≤ dR) (hr : meth.sig.returnType = (some .int))  {p1 : Int32} {p5 : Int32} {Q : Int32 → MM → Prop} {K40 : Int32 × Int32 × Int32 × Int32 × MM → Prop} {K55 : Int32 × Int32 × Int32 × Int32 × MM → Prop} {x : Int32 × Int32 × Int32 × Int32 × MM}   (hK40 : ∀ (z2 : Int32) (z3 : Int32) (z4 : Int32) (z5 : Int32) (zμ : MM), K40 (z2, z3, z4, z5, zμ) → WX p l e (rmX dR) s m args below meth c φ tc D (AX φ) 11 0 0 (MQ below (QX φ tc D (QI Q)) args s 0 0 (AX φ)) 40 [(0, .ref 358), (1, .int p1), (2, .int z2), (3, .int z3), (4, .int z4), (5, .int z5)] [] zμ) (hK55 : ∀ (z2 : Int32) (z3 : Int32) (z4 : Int32) (z6 : Int32) (zμ : MM), K55 (z2, z3, z4, z6, zμ) → WX p l e (rmX dR) s m args below meth c φ tc D (AX φ) 11 0 0 (MQ below (QX φ tc D (QI Q)) args s 0 0 (AX φ)) 55 [(0, .ref 358), (1, .int p1), (2, .int z2), (3, .int z3), (4, .int z4), (5, .int p5), (6, .int z6)] [] zμ) (h : G12_ask_L55 p1 p5 K40 Q K55 x) : WX p l e (rmX dR) s m args below meth c φ tc D (AX φ) 11 0 0 (MQ below (QX φ tc D (QI Q)) args s 0 0 (AX φ)) 55 [(0, .ref 358), (1, .int p1), (2, .int x.1), (3, .int x.2.1), (4, .int x.2.2.1), (5, .int p5), (6, .int x.2.2.2.1)] [] x.2.2.2.2 := by
  unfold G12_ask_L55 at h
  refine x_iload C 6 rfl dX12_ask_55 ?_
  refine x_aload_n C rfl 0 rfl dX12_ask_57 ?_
  refine x_getI C (j := 12) ob358.1 ob358.2 (Nat.le_of_ble_eq_true rfl) (Nat.le_of_ble_eq_true rfl) (Or.inl rfl) tw_8_218 dX12_ask_58 ?_
  refine x_icmp_ge (tgt := 173) C dX12_ask_61 (by decide) (fun c30 => ?_) (fun c30 => ?_)
  · have h := h.1 c30
    refine x_iinc (v := (p5 + 1)) C [(5, .int (p5 + 1)), (0, .ref 358), (1, .int p1), (2, .int x.1), (3, .int x.2.1), (4, .int x.2.2.1), (6, .int x.2.2.2.1)] 5 rfl (congrArg (fun z => p5 + z) (by decide : Int32.ofInt (1) = 1)) (Nat.le_of_ble_eq_true rfl) rfl dX12_ask_173 ?_
    refine x_goto (tgt := 40) C dX12_ask_176 (by decide) ?_
    refine x_sub [(0, .ref 358), (1, .int p1), (2, .int x.1), (3, .int x.2.1), (4, .int x.2.2.1), (5, .int (p5 + 1))] [1, 2, 3, 4, 5, 0] rfl ?_
    exact hK40 _ _ _ _ _ h
  · have h := h.2 c30
    refine x_iconst (v := 0) C (by decide) dX12_ask_64 ?_
    refine x_istore C [(7, .int 0), (0, .ref 358), (1, .int p1), (2, .int x.1), (3, .int x.2.1), (4, .int x.2.2.1), (5, .int p5), (6, .int x.2.2.2.1)] (Nat.le_of_ble_eq_true rfl) rfl dX12_ask_65 ?_
    refine x_iconst (v := 0) C (by decide) dX12_ask_67 ?_
    refine x_istore C [(8, .int 0), (7, .int 0), (0, .ref 358), (1, .int p1), (2, .int x.1), (3, .int x.2.1), (4, .int x.2.2.1), (5, .int p5), (6, .int x.2.2.2.1)] (Nat.le_of_ble_eq_true rfl) rfl dX12_ask_68 ?_
    refine x_sub [(0, .ref 358), (1, .int p1), (2, .int x.1), (3, .int x.2.1), (4, .int x.2.2.1), (5, .int p5), (6, .int x.2.2.2.1), (7, .int 0), (8, .int 0)] [2, 3, 4, 5, 6, 7, 8, 1, 0] rfl ?_
    exact G12_ask_L70_ok C hd hr hK40 hK55 h
theorem G12_ask_L55_ok {p : Program} {e : Env} {s : State} {m : MethodId} {args : Array Value} {below : List Frame} {meth : Method} {c : Code} {l : Launch} {φ : Nat → Nat} {tc : Nat → ClassId} {D : va_G} {s0 : State} {dR : Nat} (C : CX p s m args meth c φ tc D (AX φ) s0 cX12_ask RX12 11) (hd : G12_ask_dep ≤ dR) (hr : meth.sig.returnType = (some .int))  {p1 : Int32} {p5 : Int32} {Q : Int32 → MM → Prop} {K40 : Int32 × Int32 × Int32 × Int32 × MM → Prop} {x : Int32 × Int32 × Int32 × Int32 × MM}   (hK40 : ∀ (z2 : Int32) (z3 : Int32) (z4 : Int32) (z5 : Int32) (zμ : MM), K40 (z2, z3, z4, z5, zμ) → WX p l e (rmX dR) s m args below meth c φ tc D (AX φ) 11 0 0 (MQ below (QX φ tc D (QI Q)) args s 0 0 (AX φ)) 40 [(0, .ref 358), (1, .int p1), (2, .int z2), (3, .int z3), (4, .int z4), (5, .int z5)] [] zμ) (h : Lp (G12_ask_L55 p1 p5 K40 Q) x) : WX p l e (rmX dR) s m args below meth c φ tc D (AX φ) 11 0 0 (MQ below (QX φ tc D (QI Q)) args s 0 0 (AX φ)) 55 [(0, .ref 358), (1, .int p1), (2, .int x.1), (3, .int x.2.1), (4, .int x.2.2.1), (5, .int p5), (6, .int x.2.2.2.1)] [] x.2.2.2.2 := by
  obtain ⟨n, h⟩ := h
  induction n generalizing x with
  | zero => exact h.elim
  | succ n ih => exact G12_ask_L55_b C hd hr  hK40 (fun z2 z3 z4 z6 zμ hz => by have q := ih hz; exact q) h
set_option maxHeartbeats 4000000 in
set_option maxRecDepth 100000 in
theorem G12_ask_L40_b {p : Program} {e : Env} {s : State} {m : MethodId} {args : Array Value} {below : List Frame} {meth : Method} {c : Code} {l : Launch} {φ : Nat → Nat} {tc : Nat → ClassId} {D : va_G} {s0 : State} {dR : Nat} (C : CX p s m args meth c φ tc D (AX φ) s0 cX12_ask RX12 11) (hd : G12_ask_dep ≤ dR) (hr : meth.sig.returnType = (some .int))  {p1 : Int32} {Q : Int32 → MM → Prop} {K40 : Int32 × Int32 × Int32 × Int32 × MM → Prop} {x : Int32 × Int32 × Int32 × Int32 × MM}   (hK40 : ∀ (z2 : Int32) (z3 : Int32) (z4 : Int32) (z5 : Int32) (zμ : MM), K40 (z2, z3, z4, z5, zμ) → WX p l e (rmX dR) s m args below meth c φ tc D (AX φ) 11 0 0 (MQ below (QX φ tc D (QI Q)) args s 0 0 (AX φ)) 40 [(0, .ref 358), (1, .int p1), (2, .int z2), (3, .int z3), (4, .int z4), (5, .int z5)] [] zμ) (h : G12_ask_L40 p1 Q K40 x) : WX p l e (rmX dR) s m args below meth c φ tc D (AX φ) 11 0 0 (MQ below (QX φ tc D (QI Q)) args s 0 0 (AX φ)) 40 [(0, .ref 358), (1, .int p1), (2, .int x.1), (3, .int x.2.1), (4, .int x.2.2.1), (5, .int x.2.2.2.1)] [] x.2.2.2.2 := by
  unfold G12_ask_L40 at h
  refine x_iload C 5 rfl dX12_ask_40 ?_
  refine x_aload_n C rfl 0 rfl dX12_ask_42 ?_
  refine x_getI C (j := 12) ob358.1 ob358.2 (Nat.le_of_ble_eq_true rfl) (Nat.le_of_ble_eq_true rfl) (Or.inl rfl) tw_8_218 dX12_ask_43 ?_
  refine x_icmp_ge (tgt := 179) C dX12_ask_46 (by decide) (fun c25 => ?_) (fun c25 => ?_)
  · have h := h.1 c25
    refine x_aload_n C rfl 0 rfl dX12_ask_179 ?_
    refine x_iconst (v := 0) C (by decide) dX12_ask_180 ?_
    refine x_putI C (j := 1) ob358.1 ob358.2 (Nat.le_of_ble_eq_true rfl) (Nat.le_of_ble_eq_true rfl) (Or.inl rfl) rfl rfl rfl tw_8_207 dX12_ask_181 ?_
    refine x_mu (fun μ26 e_μ26 => ?_)
    have h := h μ26 e_μ26
    refine x_aload_n C rfl 0 rfl dX12_ask_184 ?_
    refine x_iload_n C rfl 3 rfl dX12_ask_185 ?_
    refine x_i2l C dX12_ask_186 ?_
    refine x_callV (dC := G12_enters_dep) (as := [.long (x.2.1.toInt64)]) (st := []) C rX kX (Nat.le_trans (Nat.le_of_ble_eq_true rfl) hd) (Nat.le_of_ble_eq_true rfl) ob358.1 ob358.2 (Nat.le_of_ble_eq_true rfl) rfl ts_10_1 tw_7_161 tw_7_159 tc_7_162 tw_1_13 hyX12 hnX12_enters rfl (Nat.le_of_ble_eq_true rfl) dX12_ask_187 (G12_enters_met C.2.2.2.2.2.2.2.1 (Nat.le_refl _)  h) (fun r0 μ27 hq => ?_)
    obtain ⟨rfl, h⟩ := hq
    refine x_st [] rfl ?_
    refine x_aload_n C rfl 0 rfl dX12_ask_190 ?_
    refine x_iload C 4 rfl dX12_ask_191 ?_
    refine x_i2l C dX12_ask_193 ?_
    refine x_callV (dC := G12_enters_dep) (as := [.long (x.2.2.1.toInt64)]) (st := []) C rX kX (Nat.le_trans (Nat.le_of_ble_eq_true rfl) hd) (Nat.le_of_ble_eq_true rfl) ob358.1 ob358.2 (Nat.le_of_ble_eq_true rfl) rfl ts_10_1 tw_7_161 tw_7_159 tc_7_162 tw_1_13 hyX12 hnX12_enters rfl (Nat.le_of_ble_eq_true rfl) dX12_ask_194 (G12_enters_met C.2.2.2.2.2.2.2.1 (Nat.le_refl _)  h) (fun r0 μ28 hq => ?_)
    obtain ⟨rfl, h⟩ := hq
    refine x_st [] rfl ?_
    refine x_iload_n C rfl 2 rfl dX12_ask_197 ?_
    exact x_iret C hr dX12_ask_198 ⟨_, rfl, h⟩
  · have h := h.2 c25
    refine x_iload C 5 rfl dX12_ask_49 ?_
    refine x_iconst (v := 1) C (by decide) dX12_ask_51 ?_
    refine x_iadd C dX12_ask_52 ?_
    refine x_topi (fun y29 e_y29 => ?_)
    have h := h y29 e_y29
    refine x_istore C [(6, .int y29), (0, .ref 358), (1, .int p1), (2, .int x.1), (3, .int x.2.1), (4, .int x.2.2.1), (5, .int x.2.2.2.1)] (Nat.le_of_ble_eq_true rfl) rfl dX12_ask_53 ?_
    refine x_sub [(0, .ref 358), (1, .int p1), (2, .int x.1), (3, .int x.2.1), (4, .int x.2.2.1), (5, .int x.2.2.2.1), (6, .int y29)] [1, 2, 3, 4, 5, 6, 0] rfl ?_
    exact G12_ask_L55_ok C hd hr hK40 h
theorem G12_ask_L40_ok {p : Program} {e : Env} {s : State} {m : MethodId} {args : Array Value} {below : List Frame} {meth : Method} {c : Code} {l : Launch} {φ : Nat → Nat} {tc : Nat → ClassId} {D : va_G} {s0 : State} {dR : Nat} (C : CX p s m args meth c φ tc D (AX φ) s0 cX12_ask RX12 11) (hd : G12_ask_dep ≤ dR) (hr : meth.sig.returnType = (some .int))  {p1 : Int32} {Q : Int32 → MM → Prop}  {x : Int32 × Int32 × Int32 × Int32 × MM}    (h : Lp (G12_ask_L40 p1 Q) x) : WX p l e (rmX dR) s m args below meth c φ tc D (AX φ) 11 0 0 (MQ below (QX φ tc D (QI Q)) args s 0 0 (AX φ)) 40 [(0, .ref 358), (1, .int p1), (2, .int x.1), (3, .int x.2.1), (4, .int x.2.2.1), (5, .int x.2.2.2.1)] [] x.2.2.2.2 := by
  obtain ⟨n, h⟩ := h
  induction n generalizing x with
  | zero => exact h.elim
  | succ n ih => exact G12_ask_L40_b C hd hr   (fun z2 z3 z4 z5 zμ hz => by have q := ih hz; exact q) h
set_option maxHeartbeats 4000000 in
set_option maxRecDepth 100000 in
theorem G12_ask_met {l : Launch} {φ : Nat → Nat} {tc : Nat → ClassId} {D : va_G} {s0 : State} (hG : GX φ tc D s0) {dR : Nat} (hd : G12_ask_dep ≤ dR)  {μ : MM} {Q : Int32 → MM → Prop}  (h : G12_ask  μ Q) : MX l φ tc D s0 dR yX12_ask cX12_ask 11 (some .int) [.ref 358] μ (QI Q) := by
  refine MX.of (own := RX12) hG plX12 rfl (Nat.le_of_ble_eq_true rfl) (fun p e s m args below meth c C hr => ?_)
  refine x_sub [(0, .ref 358)] [0] rfl ?_
  unfold G12_ask at h
  refine x_aload_n C rfl 0 rfl dX12_ask_0 ?_
  refine x_iconst (v := 0) C (by decide) dX12_ask_1 ?_
  refine x_putI C (j := 0) ob358.1 ob358.2 (Nat.le_of_ble_eq_true rfl) (Nat.le_of_ble_eq_true rfl) (Or.inl rfl) rfl rfl rfl tw_8_206 dX12_ask_2 ?_
  refine x_mu (fun μ18 e_μ18 => ?_)
  have h := h μ18 e_μ18
  refine x_aload_n C rfl 0 rfl dX12_ask_5 ?_
  refine x_iconst (v := 0) C (by decide) dX12_ask_6 ?_
  refine x_callV (dC := G12_couldBe_dep) (as := [.int 0]) (st := []) C rX kX (Nat.le_trans (Nat.le_of_ble_eq_true rfl) hd) (Nat.le_of_ble_eq_true rfl) ob358.1 ob358.2 (Nat.le_of_ble_eq_true rfl) rfl ts_11_4 tw_8_135 tw_8_133 tc_8_136 tw_1_13 hyX12 hnX12_couldBe rfl (Nat.le_of_ble_eq_true rfl) dX12_ask_7 (G12_couldBe_met C.2.2.2.2.2.2.2.1 (Nat.le_refl _)  h) (fun r0 μ19 hq => ?_)
  obtain ⟨r20, rfl, h⟩ := hq
  refine x_st [.int r20] rfl ?_
  refine x_istore_n C [(1, .int r20), (0, .ref 358)] rfl (Nat.le_of_ble_eq_true rfl) rfl dX12_ask_10 ?_
  refine x_iload_n C rfl 0 rfl dX12_ask_11 ?_
  refine x_callS (dC := GJ6_bitCount_0f7a4_dep) (as := [.int r20]) (st := []) C rX kX (Nat.le_trans (Nat.le_of_ble_eq_true rfl) hd) (Nat.le_of_ble_eq_true rfl) tw_4_148 tw_7_201 tc_4_149 tw_1_24 hyJ6 hnJ6_bitCount_0f7a4 rfl (Nat.le_of_ble_eq_true rfl) dX12_ask_12 (GJ6_bitCount_0f7a4_met C.2.2.2.2.2.2.2.1 (Nat.le_refl _)  h) (fun r0 μ21 hq => ?_)
  obtain ⟨r22, rfl, h⟩ := hq
  refine x_st [.int r22] rfl ?_
  refine x_iconst (v := 2) C (by decide) dX12_ask_15 ?_
  refine x_icmp_lt (tgt := 27) C dX12_ask_16 (by decide) (fun c23 => ?_) (fun c23 => ?_)
  · have h := h.1 c23
    refine x_bipush (v := (-2)) C (by decide) dX12_ask_27 ?_
    exact x_iret C hr dX12_ask_29 ⟨_, rfl, h⟩
  · have h := h.2 c23
    refine x_aload_n C rfl 1 rfl dX12_ask_19 ?_
    refine x_getI C (j := 12) ob358.1 ob358.2 (Nat.le_of_ble_eq_true rfl) (Nat.le_of_ble_eq_true rfl) (Or.inl rfl) tw_8_218 dX12_ask_20 ?_
    refine x_iconst (v := 2) C (by decide) dX12_ask_23 ?_
    refine x_icmp_ge (tgt := 30) C dX12_ask_24 (by decide) (fun c24 => ?_) (fun c24 => ?_)
    · have h := h.1 c24
      refine x_iconst (v := (-1)) C (by decide) dX12_ask_30 ?_
      refine x_istore_n C [(2, .int (-1)), (1, .int r20), (0, .ref 358)] rfl (Nat.le_of_ble_eq_true rfl) rfl dX12_ask_31 ?_
      refine x_iconst (v := 0) C (by decide) dX12_ask_32 ?_
      refine x_istore_n C [(3, .int 0), (2, .int (-1)), (1, .int r20), (0, .ref 358)] rfl (Nat.le_of_ble_eq_true rfl) rfl dX12_ask_33 ?_
      refine x_iconst (v := 0) C (by decide) dX12_ask_34 ?_
      refine x_istore C [(4, .int 0), (3, .int 0), (2, .int (-1)), (1, .int r20), (0, .ref 358)] (Nat.le_of_ble_eq_true rfl) rfl dX12_ask_35 ?_
      refine x_iconst (v := 0) C (by decide) dX12_ask_37 ?_
      refine x_istore C [(5, .int 0), (4, .int 0), (3, .int 0), (2, .int (-1)), (1, .int r20), (0, .ref 358)] (Nat.le_of_ble_eq_true rfl) rfl dX12_ask_38 ?_
      refine x_sub [(0, .ref 358), (1, .int r20), (2, .int (-1)), (3, .int 0), (4, .int 0), (5, .int 0)] [5, 4, 3, 2, 1, 0] rfl ?_
      exact G12_ask_L40_ok C hd hr  h
    · have h := h.2 c24
      refine x_bipush (v := (-2)) C (by decide) dX12_ask_27 ?_
      exact x_iret C hr dX12_ask_29 ⟨_, rfl, h⟩
