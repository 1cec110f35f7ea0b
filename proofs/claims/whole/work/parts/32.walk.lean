set_option maxHeartbeats 4000000 in
set_option maxRecDepth 100000 in
theorem G12_nearly_met {l : Launch} {φ : Nat → Nat} {tc : Nat → ClassId} {D : va_G} {s0 : State} (hG : GX φ tc D s0) {dR : Nat} (hd : G12_nearly_dep ≤ dR) {v1 : Int32} {μ : MM} {Q : Int32 → MM → Prop}  (h : G12_nearly v1 μ Q) : MX l φ tc D s0 dR yX12_nearly cX12_nearly 2 (some .int) [.ref 358, .int v1] μ (QI Q) := by
  refine MX.of (own := RX12) hG plX12 rfl (Nat.le_of_ble_eq_true rfl) (fun p e s m args below meth c C hr => ?_)
  refine x_sub [(0, .ref 358), (1, .int v1)] [0, 1] rfl ?_
  unfold G12_nearly at h
  refine x_aload_n C rfl 0 rfl dX12_nearly_0 ?_
  refine x_iconst (v := 0) C (by decide) dX12_nearly_1 ?_
  refine x_putI C (j := 0) ob358.1 ob358.2 (Nat.le_of_ble_eq_true rfl) (Nat.le_of_ble_eq_true rfl) (Or.inl rfl) rfl rfl rfl tw_8_206 dX12_nearly_2 ?_
  refine x_mu (fun μ6 e_μ6 => ?_)
  have h := h μ6 e_μ6
  refine x_iload_n C rfl 1 rfl dX12_nearly_5 ?_
  refine x_i2l C dX12_nearly_6 ?_
  refine x_lconst (v := 0) C (by decide) dX12_nearly_7 ?_
  refine x_ldc2 (v := 40) C tw_8_145 dX12_nearly_8 ?_
  refine x_callS (dC := G12_in_dep) (as := [.long (v1.toInt64), .long 0, .long 40]) (st := []) C rX kX (Nat.le_trans (Nat.le_of_ble_eq_true rfl) hd) (Nat.le_of_ble_eq_true rfl) tw_6_183 tw_6_182 tc_6_184 tw_1_13 hyX12 hnX12_in rfl (Nat.le_of_ble_eq_true rfl) dX12_nearly_11 (G12_in_met C.2.2.2.2.2.2.2.1 (Nat.le_refl _)  h) (fun r0 μ7 hq => ?_)
  obtain ⟨r8, rfl, h⟩ := hq
  refine x_st [.int r8] rfl ?_
  refine x_if_eq (tgt := 25) C dX12_nearly_14 (by decide) (fun c9 => ?_) (fun c9 => ?_)
  · have h := h.1 c9
    refine x_iconst (v := (-1)) C (by decide) dX12_nearly_25 ?_
    exact x_iret C hr dX12_nearly_26 ⟨_, rfl, h⟩
  · have h := h.2 c9
    refine x_aload_n C rfl 0 rfl dX12_nearly_17 ?_
    refine x_iload_n C rfl 1 rfl dX12_nearly_18 ?_
    refine x_callV (dC := G12_couldBe_dep) (as := [.int v1]) (st := []) C rX kX (Nat.le_trans (Nat.le_of_ble_eq_true rfl) hd) (Nat.le_of_ble_eq_true rfl) ob358.1 ob358.2 (Nat.le_of_ble_eq_true rfl) rfl ts_11_4 tw_8_135 tw_8_133 tc_8_136 tw_1_13 hyX12 hnX12_couldBe rfl (Nat.le_of_ble_eq_true rfl) dX12_nearly_19 (G12_couldBe_met C.2.2.2.2.2.2.2.1 (Nat.le_refl _)  h) (fun r0 μ10 hq => ?_)
    obtain ⟨r11, rfl, h⟩ := hq
    refine x_st [.int r11] rfl ?_
    refine x_goto (tgt := 26) C dX12_nearly_22 (by decide) ?_
    exact x_iret C hr dX12_nearly_26 ⟨_, rfl, h⟩
set_option maxHeartbeats 4000000 in
set_option maxRecDepth 100000 in
theorem G12_laysAt_L2_b {p : Program} {e : Env} {s : State} {m : MethodId} {args : Array Value} {below : List Frame} {meth : Method} {c : Code} {l : Launch} {φ : Nat → Nat} {tc : Nat → ClassId} {D : va_G} {s0 : State} {dR : Nat} (C : CX p s m args meth c φ tc D (AX φ) s0 cX12_laysAt RX12 4) (hd : G12_laysAt_dep ≤ dR) (hr : meth.sig.returnType = none) {a2 : Nat} {p1 : Int32} {Q : MM → Prop} {K2 : Int32 × MM → Prop} {x : Int32 × MM} (o_a2 : Ob a2 13)  (hK2 : ∀ (z3 : Int32) (zμ : MM), K2 (z3, zμ) → WX p l e (rmX dR) s m args below meth c φ tc D (AX φ) 4 0 0 (MQ below (QX φ tc D (QV Q)) args s 0 0 (AX φ)) 2 [(0, .ref 358), (1, .int p1), (2, .ref a2), (3, .int z3)] [] zμ) (h : G12_laysAt_L2 a2 p1 Q K2 x) : WX p l e (rmX dR) s m args below meth c φ tc D (AX φ) 4 0 0 (MQ below (QX φ tc D (QV Q)) args s 0 0 (AX φ)) 2 [(0, .ref 358), (1, .int p1), (2, .ref a2), (3, .int x.1)] [] x.2 := by
  unfold G12_laysAt_L2 at h
  refine x_iload_n C rfl 3 rfl dX12_laysAt_2 ?_
  refine x_bipush (v := 80) C (by decide) dX12_laysAt_3 ?_
  refine x_icmp_ge (tgt := 39) C dX12_laysAt_5 (by decide) (fun c7 => ?_) (fun c7 => ?_)
  · have h := h.1 c7
    exact x_vret C hr dX12_laysAt_39 ⟨rfl, h⟩
  · have h := h.2 c7
    refine x_aload_n C rfl 0 rfl dX12_laysAt_8 ?_
    refine x_getR (r := 404) C (j := 65) ob358.1 ob358.2 (Nat.le_of_ble_eq_true rfl) (Nat.le_of_ble_eq_true rfl) (fun _ _ _ => rfl) r_358_65 tw_9_31 dX12_laysAt_9 ?_
    refine x_bipush (v := 80) C (by decide) dX12_laysAt_12 ?_
    refine x_iload_n C rfl 1 rfl dX12_laysAt_14 ?_
    refine x_imul C dX12_laysAt_15 ?_
    refine x_iload_n C rfl 3 rfl dX12_laysAt_16 ?_
    refine x_iadd C dX12_laysAt_17 ?_
    refine x_iload_n C rfl 3 rfl dX12_laysAt_18 ?_
    refine x_aload_n C rfl 2 rfl dX12_laysAt_19 ?_
    refine x_iconst (v := 0) C (by decide) dX12_laysAt_20 ?_
    obtain ⟨c8, h⟩ := h
    refine x_iald C o_a2.1 o_a2.2 c8 (j := 0) (by decide) dX12_laysAt_21 ?_
    refine x_icmp_gt (tgt := 31) C dX12_laysAt_22 (by decide) (fun c9 => ?_) (fun c9 => ?_)
    · have h := h.1 c9
      refine x_iconst (v := 0) C (by decide) dX12_laysAt_31 ?_
      obtain ⟨c10, h⟩ := h
      refine x_iast C ob404.1 ob404.2 c10 rfl dX12_laysAt_32 ?_
      refine x_mu (fun μ11 e_μ11 => ?_)
      have h := h μ11 e_μ11
      refine x_iinc (v := (x.1 + 1)) C [(3, .int (x.1 + 1)), (0, .ref 358), (1, .int p1), (2, .ref a2)] 3 rfl (congrArg (fun z => x.1 + z) (by decide : Int32.ofInt (1) = 1)) (Nat.le_of_ble_eq_true rfl) rfl dX12_laysAt_33 ?_
      refine x_goto (tgt := 2) C dX12_laysAt_36 (by decide) ?_
      refine x_sub [(0, .ref 358), (1, .int p1), (2, .ref a2), (3, .int (x.1 + 1))] [1, 2, 3, 0] rfl ?_
      exact hK2 _ _ h
    · have h := h.2 c9
      refine x_aload_n C rfl 2 rfl dX12_laysAt_25 ?_
      refine x_iload_n C rfl 3 rfl dX12_laysAt_26 ?_
      obtain ⟨c12, h⟩ := h
      refine x_iald C o_a2.1 o_a2.2 c12 rfl dX12_laysAt_27 ?_
      refine x_goto (tgt := 32) C dX12_laysAt_28 (by decide) ?_
      obtain ⟨c13, h⟩ := h
      refine x_iast C ob404.1 ob404.2 c13 rfl dX12_laysAt_32 ?_
      refine x_mu (fun μ14 e_μ14 => ?_)
      have h := h μ14 e_μ14
      refine x_iinc (v := (x.1 + 1)) C [(3, .int (x.1 + 1)), (0, .ref 358), (1, .int p1), (2, .ref a2)] 3 rfl (congrArg (fun z => x.1 + z) (by decide : Int32.ofInt (1) = 1)) (Nat.le_of_ble_eq_true rfl) rfl dX12_laysAt_33 ?_
      refine x_goto (tgt := 2) C dX12_laysAt_36 (by decide) ?_
      refine x_sub [(0, .ref 358), (1, .int p1), (2, .ref a2), (3, .int (x.1 + 1))] [1, 2, 3, 0] rfl ?_
      exact hK2 _ _ h
theorem G12_laysAt_L2_ok {p : Program} {e : Env} {s : State} {m : MethodId} {args : Array Value} {below : List Frame} {meth : Method} {c : Code} {l : Launch} {φ : Nat → Nat} {tc : Nat → ClassId} {D : va_G} {s0 : State} {dR : Nat} (C : CX p s m args meth c φ tc D (AX φ) s0 cX12_laysAt RX12 4) (hd : G12_laysAt_dep ≤ dR) (hr : meth.sig.returnType = none) {a2 : Nat} {p1 : Int32} {Q : MM → Prop}  {x : Int32 × MM} (o_a2 : Ob a2 13)   (h : Lp (G12_laysAt_L2 a2 p1 Q) x) : WX p l e (rmX dR) s m args below meth c φ tc D (AX φ) 4 0 0 (MQ below (QX φ tc D (QV Q)) args s 0 0 (AX φ)) 2 [(0, .ref 358), (1, .int p1), (2, .ref a2), (3, .int x.1)] [] x.2 := by
  obtain ⟨n, h⟩ := h
  induction n generalizing x with
  | zero => exact h.elim
  | succ n ih => exact G12_laysAt_L2_b C hd hr o_a2  (fun z3 zμ hz => by have q := ih hz; exact q) h
set_option maxHeartbeats 4000000 in
set_option maxRecDepth 100000 in
theorem G12_laysAt_met {l : Launch} {φ : Nat → Nat} {tc : Nat → ClassId} {D : va_G} {s0 : State} (hG : GX φ tc D s0) {dR : Nat} (hd : G12_laysAt_dep ≤ dR) {v1 : Int32} {a2 : Nat} {μ : MM} {Q : MM → Prop} (o_a2 : Ob a2 13) (h : G12_laysAt v1 a2 μ Q) : MX l φ tc D s0 dR yX12_laysAt cX12_laysAt 4 none [.ref 358, .int v1, .ref a2] μ (QV Q) := by
  refine MX.of (own := RX12) hG plX12 rfl (Nat.le_of_ble_eq_true rfl) (fun p e s m args below meth c C hr => ?_)
  refine x_sub [(0, .ref 358), (1, .int v1), (2, .ref a2)] [0, 1, 2] rfl ?_
  unfold G12_laysAt at h
  refine x_iconst (v := 0) C (by decide) dX12_laysAt_0 ?_
  refine x_istore_n C [(3, .int 0), (0, .ref 358), (1, .int v1), (2, .ref a2)] rfl (Nat.le_of_ble_eq_true rfl) rfl dX12_laysAt_1 ?_
  refine x_sub [(0, .ref 358), (1, .int v1), (2, .ref a2), (3, .int 0)] [1, 2, 3, 0] rfl ?_
  exact G12_laysAt_L2_ok C hd hr o_a2 h
set_option maxHeartbeats 4000000 in
set_option maxRecDepth 100000 in
theorem G12_takesFrom_L2_b {p : Program} {e : Env} {s : State} {m : MethodId} {args : Array Value} {below : List Frame} {meth : Method} {c : Code} {l : Launch} {φ : Nat → Nat} {tc : Nat → ClassId} {D : va_G} {s0 : State} {dR : Nat} (C : CX p s m args meth c φ tc D (AX φ) s0 cX12_takesFrom RX12 4) (hd : G12_takesFrom_dep ≤ dR) (hr : meth.sig.returnType = none) {a2 : Nat} {p1 : Int32} {Q : MM → Prop} {K2 : Int32 × MM → Prop} {x : Int32 × MM} (o_a2 : Ob a2 13)  (hK2 : ∀ (z3 : Int32) (zμ : MM), K2 (z3, zμ) → WX p l e (rmX dR) s m args below meth c φ tc D (AX φ) 4 0 0 (MQ below (QX φ tc D (QV Q)) args s 0 0 (AX φ)) 2 [(0, .ref 358), (1, .int p1), (2, .ref a2), (3, .int z3)] [] zμ) (h : G12_takesFrom_L2 a2 p1 Q K2 x) : WX p l e (rmX dR) s m args below meth c φ tc D (AX φ) 4 0 0 (MQ below (QX φ tc D (QV Q)) args s 0 0 (AX φ)) 2 [(0, .ref 358), (1, .int p1), (2, .ref a2), (3, .int x.1)] [] x.2 := by
  unfold G12_takesFrom_L2 at h
  refine x_iload_n C rfl 3 rfl dX12_takesFrom_2 ?_
  refine x_bipush (v := 80) C (by decide) dX12_takesFrom_3 ?_
  refine x_icmp_ge (tgt := 28) C dX12_takesFrom_5 (by decide) (fun c4 => ?_) (fun c4 => ?_)
  · have h := h.1 c4
    exact x_vret C hr dX12_takesFrom_28 ⟨rfl, h⟩
  · have h := h.2 c4
    refine x_aload_n C rfl 2 rfl dX12_takesFrom_8 ?_
    refine x_iload_n C rfl 3 rfl dX12_takesFrom_9 ?_
    refine x_aload_n C rfl 0 rfl dX12_takesFrom_10 ?_
    refine x_getR (r := 404) C (j := 65) ob358.1 ob358.2 (Nat.le_of_ble_eq_true rfl) (Nat.le_of_ble_eq_true rfl) (fun _ _ _ => rfl) r_358_65 tw_9_31 dX12_takesFrom_11 ?_
    refine x_bipush (v := 80) C (by decide) dX12_takesFrom_14 ?_
    refine x_iload_n C rfl 1 rfl dX12_takesFrom_16 ?_
    refine x_imul C dX12_takesFrom_17 ?_
    refine x_iload_n C rfl 3 rfl dX12_takesFrom_18 ?_
    refine x_iadd C dX12_takesFrom_19 ?_
    obtain ⟨c5, h⟩ := h
    refine x_iald C ob404.1 ob404.2 c5 rfl dX12_takesFrom_20 ?_
    obtain ⟨c6, h⟩ := h
    refine x_iast C o_a2.1 o_a2.2 c6 rfl dX12_takesFrom_21 ?_
    refine x_mu (fun μ7 e_μ7 => ?_)
    have h := h μ7 e_μ7
    refine x_iinc (v := (x.1 + 1)) C [(3, .int (x.1 + 1)), (0, .ref 358), (1, .int p1), (2, .ref a2)] 3 rfl (congrArg (fun z => x.1 + z) (by decide : Int32.ofInt (1) = 1)) (Nat.le_of_ble_eq_true rfl) rfl dX12_takesFrom_22 ?_
    refine x_goto (tgt := 2) C dX12_takesFrom_25 (by decide) ?_
    refine x_sub [(0, .ref 358), (1, .int p1), (2, .ref a2), (3, .int (x.1 + 1))] [1, 2, 3, 0] rfl ?_
    exact hK2 _ _ h
theorem G12_takesFrom_L2_ok {p : Program} {e : Env} {s : State} {m : MethodId} {args : Array Value} {below : List Frame} {meth : Method} {c : Code} {l : Launch} {φ : Nat → Nat} {tc : Nat → ClassId} {D : va_G} {s0 : State} {dR : Nat} (C : CX p s m args meth c φ tc D (AX φ) s0 cX12_takesFrom RX12 4) (hd : G12_takesFrom_dep ≤ dR) (hr : meth.sig.returnType = none) {a2 : Nat} {p1 : Int32} {Q : MM → Prop}  {x : Int32 × MM} (o_a2 : Ob a2 13)   (h : Lp (G12_takesFrom_L2 a2 p1 Q) x) : WX p l e (rmX dR) s m args below meth c φ tc D (AX φ) 4 0 0 (MQ below (QX φ tc D (QV Q)) args s 0 0 (AX φ)) 2 [(0, .ref 358), (1, .int p1), (2, .ref a2), (3, .int x.1)] [] x.2 := by
  obtain ⟨n, h⟩ := h
  induction n generalizing x with
  | zero => exact h.elim
  | succ n ih => exact G12_takesFrom_L2_b C hd hr o_a2  (fun z3 zμ hz => by have q := ih hz; exact q) h
set_option maxHeartbeats 4000000 in
set_option maxRecDepth 100000 in
theorem G12_takesFrom_met {l : Launch} {φ : Nat → Nat} {tc : Nat → ClassId} {D : va_G} {s0 : State} (hG : GX φ tc D s0) {dR : Nat} (hd : G12_takesFrom_dep ≤ dR) {v1 : Int32} {a2 : Nat} {μ : MM} {Q : MM → Prop} (o_a2 : Ob a2 13) (h : G12_takesFrom v1 a2 μ Q) : MX l φ tc D s0 dR yX12_takesFrom cX12_takesFrom 4 none [.ref 358, .int v1, .ref a2] μ (QV Q) := by
  refine MX.of (own := RX12) hG plX12 rfl (Nat.le_of_ble_eq_true rfl) (fun p e s m args below meth c C hr => ?_)
  refine x_sub [(0, .ref 358), (1, .int v1), (2, .ref a2)] [0, 1, 2] rfl ?_
  unfold G12_takesFrom at h
  refine x_iconst (v := 0) C (by decide) dX12_takesFrom_0 ?_
  refine x_istore_n C [(3, .int 0), (0, .ref 358), (1, .int v1), (2, .ref a2)] rfl (Nat.le_of_ble_eq_true rfl) rfl dX12_takesFrom_1 ?_
  refine x_sub [(0, .ref 358), (1, .int v1), (2, .ref a2), (3, .int 0)] [1, 2, 3, 0] rfl ?_
  exact G12_takesFrom_L2_ok C hd hr o_a2 h
set_option maxHeartbeats 4000000 in
set_option maxRecDepth 100000 in
theorem G12_powers_J29_ok {p : Program} {e : Env} {s : State} {m : MethodId} {args : Array Value} {below : List Frame} {meth : Method} {c : Code} {l : Launch} {φ : Nat → Nat} {tc : Nat → ClassId} {D : va_G} {s0 : State} {dR : Nat} (C : CX p s m args meth c φ tc D (AX φ) s0 cX12_powers RX12 5) (hd : G12_powers_dep ≤ dR) (hr : meth.sig.returnType = none)   {p1 : Int32} {p2 : Int32} {p3 : Int32} {p4 : Int32} {q0 : Int64} {Q : MM → Prop} {K3 : Int32 × MM → Prop} {μ : MM}   (hK3 : ∀ (z4 : Int32) (zμ : MM), K3 (z4, zμ) → WX p l e (rmX dR) s m args below meth c φ tc D (AX φ) 5 0 0 (MQ below (QX φ tc D (QV Q)) args s 0 0 (AX φ)) 3 [(0, .ref 358), (1, .int p1), (2, .int p2), (3, .int p3), (4, .int z4)] [] zμ) (h : G12_powers_J29 p1 p2 p3 p4 q0 μ K3 Q) : WX p l e (rmX dR) s m args below meth c φ tc D (AX φ) 5 0 0 (MQ below (QX φ tc D (QV Q)) args s 0 0 (AX φ)) 29 [(0, .ref 358), (1, .int p1), (2, .int p2), (3, .int p3), (4, .int p4)] [.long q0, .ref 405] μ := by
  unfold G12_powers_J29 at h
  refine x_callS (dC := G12_times_dep) (as := [.ref 405, .long q0]) (st := []) C rX kX (Nat.le_trans (Nat.le_of_ble_eq_true rfl) hd) (Nat.le_of_ble_eq_true rfl) tw_8_43 tw_8_42 tc_8_44 tw_1_13 hyX12 hnX12_times rfl (Nat.le_of_ble_eq_true rfl) dX12_powers_29 (G12_times_met C.2.2.2.2.2.2.2.1 (Nat.le_refl _) ob405 h) (fun r0 μ4 hq => ?_)
  obtain ⟨rfl, h⟩ := hq
  refine x_st [] rfl ?_
  refine x_iinc (v := (p4 + 1)) C [(4, .int (p4 + 1)), (0, .ref 358), (1, .int p1), (2, .int p2), (3, .int p3)] 4 rfl (congrArg (fun z => p4 + z) (by decide : Int32.ofInt (1) = 1)) (Nat.le_of_ble_eq_true rfl) rfl dX12_powers_32 ?_
  refine x_goto (tgt := 3) C dX12_powers_35 (by decide) ?_
  refine x_sub [(0, .ref 358), (1, .int p1), (2, .int p2), (3, .int p3), (4, .int (p4 + 1))] [1, 2, 3, 4, 0] rfl ?_
  exact hK3 _ _ h
set_option maxHeartbeats 4000000 in
set_option maxRecDepth 100000 in
theorem G12_powers_L3_b {p : Program} {e : Env} {s : State} {m : MethodId} {args : Array Value} {below : List Frame} {meth : Method} {c : Code} {l : Launch} {φ : Nat → Nat} {tc : Nat → ClassId} {D : va_G} {s0 : State} {dR : Nat} (C : CX p s m args meth c φ tc D (AX φ) s0 cX12_powers RX12 5) (hd : G12_powers_dep ≤ dR) (hr : meth.sig.returnType = none)  {p1 : Int32} {p2 : Int32} {p3 : Int32} {Q : MM → Prop} {K3 : Int32 × MM → Prop} {x : Int32 × MM}   (hK3 : ∀ (z4 : Int32) (zμ : MM), K3 (z4, zμ) → WX p l e (rmX dR) s m args below meth c φ tc D (AX φ) 5 0 0 (MQ below (QX φ tc D (QV Q)) args s 0 0 (AX φ)) 3 [(0, .ref 358), (1, .int p1), (2, .int p2), (3, .int p3), (4, .int z4)] [] zμ) (h : G12_powers_L3 p1 p2 p3 Q K3 x) : WX p l e (rmX dR) s m args below meth c φ tc D (AX φ) 5 0 0 (MQ below (QX φ tc D (QV Q)) args s 0 0 (AX φ)) 3 [(0, .ref 358), (1, .int p1), (2, .int p2), (3, .int p3), (4, .int x.1)] [] x.2 := by
  unfold G12_powers_L3 at h
  refine x_iload C 4 rfl dX12_powers_3 ?_
  refine x_iload_n C rfl 3 rfl dX12_powers_5 ?_
  refine x_icmp_ge (tgt := 38) C dX12_powers_6 (by decide) (fun c2 => ?_) (fun c2 => ?_)
  · have h := h.1 c2
    exact x_vret C hr dX12_powers_38 ⟨rfl, h⟩
  · have h := h.2 c2
    refine x_aload_n C rfl 0 rfl dX12_powers_9 ?_
    refine x_getR (r := 405) C (j := 66) ob358.1 ob358.2 (Nat.le_of_ble_eq_true rfl) (Nat.le_of_ble_eq_true rfl) (fun _ _ _ => rfl) r_358_66 tw_9_32 dX12_powers_10 ?_
    refine x_iload C 4 rfl dX12_powers_13 ?_
    refine x_iload_n C rfl 2 rfl dX12_powers_15 ?_
    refine x_icmp_ge (tgt := 24) C dX12_powers_16 (by decide) (fun c3 => ?_) (fun c3 => ?_)
    · have h := h.1 c3
      refine x_bipush (v := 100) C (by decide) dX12_powers_24 ?_
      refine x_iload_n C rfl 1 rfl dX12_powers_26 ?_
      refine x_isub C dX12_powers_27 ?_
      refine x_i2l C dX12_powers_28 ?_
      exact G12_powers_J29_ok C hd hr hK3 h
    · have h := h.2 c3
      refine x_iload_n C rfl 1 rfl dX12_powers_19 ?_
      refine x_i2l C dX12_powers_20 ?_
      refine x_goto (tgt := 29) C dX12_powers_21 (by decide) ?_
      exact G12_powers_J29_ok C hd hr hK3 h
theorem G12_powers_L3_ok {p : Program} {e : Env} {s : State} {m : MethodId} {args : Array Value} {below : List Frame} {meth : Method} {c : Code} {l : Launch} {φ : Nat → Nat} {tc : Nat → ClassId} {D : va_G} {s0 : State} {dR : Nat} (C : CX p s m args meth c φ tc D (AX φ) s0 cX12_powers RX12 5) (hd : G12_powers_dep ≤ dR) (hr : meth.sig.returnType = none)  {p1 : Int32} {p2 : Int32} {p3 : Int32} {Q : MM → Prop}  {x : Int32 × MM}    (h : Lp (G12_powers_L3 p1 p2 p3 Q) x) : WX p l e (rmX dR) s m args below meth c φ tc D (AX φ) 5 0 0 (MQ below (QX φ tc D (QV Q)) args s 0 0 (AX φ)) 3 [(0, .ref 358), (1, .int p1), (2, .int p2), (3, .int p3), (4, .int x.1)] [] x.2 := by
  obtain ⟨n, h⟩ := h
  induction n generalizing x with
  | zero => exact h.elim
  | succ n ih => exact G12_powers_L3_b C hd hr   (fun z4 zμ hz => by have q := ih hz; exact q) h
set_option maxHeartbeats 4000000 in
set_option maxRecDepth 100000 in
theorem G12_powers_met {l : Launch} {φ : Nat → Nat} {tc : Nat → ClassId} {D : va_G} {s0 : State} (hG : GX φ tc D s0) {dR : Nat} (hd : G12_powers_dep ≤ dR) {v1 : Int32} {v2 : Int32} {v3 : Int32} {μ : MM} {Q : MM → Prop}  (h : G12_powers v1 v2 v3 μ Q) : MX l φ tc D s0 dR yX12_powers cX12_powers 5 none [.ref 358, .int v1, .int v2, .int v3] μ (QV Q) := by
  refine MX.of (own := RX12) hG plX12 rfl (Nat.le_of_ble_eq_true rfl) (fun p e s m args below meth c C hr => ?_)
  refine x_sub [(0, .ref 358), (1, .int v1), (2, .int v2), (3, .int v3)] [0, 1, 2, 3] rfl ?_
  unfold G12_powers at h
  refine x_iconst (v := 0) C (by decide) dX12_powers_0 ?_
  refine x_istore C [(4, .int 0), (0, .ref 358), (1, .int v1), (2, .int v2), (3, .int v3)] (Nat.le_of_ble_eq_true rfl) rfl dX12_powers_1 ?_
  refine x_sub [(0, .ref 358), (1, .int v1), (2, .int v2), (3, .int v3), (4, .int 0)] [1, 2, 3, 4, 0] rfl ?_
  exact G12_powers_L3_ok C hd hr  h
set_option maxHeartbeats 4000000 in
set_option maxRecDepth 100000 in
theorem G12_chances_L115_b {p : Program} {e : Env} {s : State} {m : MethodId} {args : Array Value} {below : List Frame} {meth : Method} {c : Code} {l : Launch} {φ : Nat → Nat} {tc : Nat → ClassId} {D : va_G} {s0 : State} {dR : Nat} (C : CX p s m args meth c φ tc D (AX φ) s0 cX12_chances RX12 6) (hd : G12_chances_dep ≤ dR) (hr : meth.sig.returnType = none)   {Q : MM → Prop} {K115 : Int32 × MM → Prop} {x : Int32 × MM}   (hK115 : ∀ (z4 : Int32) (zμ : MM), K115 (z4, zμ) → WX p l e (rmX dR) s m args below meth c φ tc D (AX φ) 6 0 0 (MQ below (QX φ tc D (QV Q)) args s 0 0 (AX φ)) 115 [(0, .ref 358), (4, .int z4)] [] zμ) (h : G12_chances_L115  Q K115 x) : WX p l e (rmX dR) s m args below meth c φ tc D (AX φ) 6 0 0 (MQ below (QX φ tc D (QV Q)) args s 0 0 (AX φ)) 115 [(0, .ref 358), (4, .int x.1)] [] x.2 := by
  unfold G12_chances_L115 at h
  refine x_iload C 1 rfl dX12_chances_115 ?_
  refine x_if_lt (tgt := 169) C dX12_chances_117 (by decide) (fun c17 => ?_) (fun c17 => ?_)
  · have h := h.1 c17
    exact x_vret C hr dX12_chances_169 ⟨rfl, h⟩
  · have h := h.2 c17
    refine x_aload_n C rfl 0 rfl dX12_chances_120 ?_
    refine x_iload C 1 rfl dX12_chances_121 ?_
    refine x_aload_n C rfl 0 rfl dX12_chances_123 ?_
    refine x_getR (r := 392) C (j := 50) ob358.1 ob358.2 (Nat.le_of_ble_eq_true rfl) (Nat.le_of_ble_eq_true rfl) (fun _ _ _ => rfl) r_358_50 tw_9_16 dX12_chances_124 ?_
    refine x_callV (dC := G12_takesFrom_dep) (as := [.int x.1, .ref 392]) (st := []) C rX kX (Nat.le_trans (Nat.le_of_ble_eq_true rfl) hd) (Nat.le_of_ble_eq_true rfl) ob358.1 ob358.2 (Nat.le_of_ble_eq_true rfl) rfl ts_11_8 tw_8_171 tw_8_169 tc_8_172 tw_1_13 hyX12 hnX12_takesFrom rfl (Nat.le_of_ble_eq_true rfl) dX12_chances_127 (G12_takesFrom_met C.2.2.2.2.2.2.2.1 (Nat.le_refl _) ob392 h) (fun r0 μ18 hq => ?_)
    obtain ⟨rfl, h⟩ := hq
    refine x_st [] rfl ?_
    refine x_aload_n C rfl 0 rfl dX12_chances_130 ?_
    refine x_iload C 1 rfl dX12_chances_131 ?_
    refine x_iconst (v := 1) C (by decide) dX12_chances_133 ?_
    refine x_iadd C dX12_chances_134 ?_
    refine x_aload_n C rfl 0 rfl dX12_chances_135 ?_
    refine x_getR (r := 405) C (j := 66) ob358.1 ob358.2 (Nat.le_of_ble_eq_true rfl) (Nat.le_of_ble_eq_true rfl) (fun _ _ _ => rfl) r_358_66 tw_9_32 dX12_chances_136 ?_
    refine x_callV (dC := G12_takesFrom_dep) (as := [.int (x.1 + 1), .ref 405]) (st := []) C rX kX (Nat.le_trans (Nat.le_of_ble_eq_true rfl) hd) (Nat.le_of_ble_eq_true rfl) ob358.1 ob358.2 (Nat.le_of_ble_eq_true rfl) rfl ts_11_8 tw_8_171 tw_8_169 tc_8_172 tw_1_13 hyX12 hnX12_takesFrom rfl (Nat.le_of_ble_eq_true rfl) dX12_chances_139 (G12_takesFrom_met C.2.2.2.2.2.2.2.1 (Nat.le_refl _) ob405 h) (fun r0 μ19 hq => ?_)
    obtain ⟨rfl, h⟩ := hq
    refine x_st [] rfl ?_
    refine x_aload_n C rfl 0 rfl dX12_chances_142 ?_
    refine x_getR (r := 392) C (j := 50) ob358.1 ob358.2 (Nat.le_of_ble_eq_true rfl) (Nat.le_of_ble_eq_true rfl) (fun _ _ _ => rfl) r_358_50 tw_9_16 dX12_chances_143 ?_
    refine x_aload_n C rfl 0 rfl dX12_chances_146 ?_
    refine x_getR (r := 405) C (j := 66) ob358.1 ob358.2 (Nat.le_of_ble_eq_true rfl) (Nat.le_of_ble_eq_true rfl) (fun _ _ _ => rfl) r_358_66 tw_9_32 dX12_chances_147 ?_
    refine x_callS (dC := G12_adds_dep) (as := [.ref 392, .ref 405]) (st := []) C rX kX (Nat.le_trans (Nat.le_of_ble_eq_true rfl) hd) (Nat.le_of_ble_eq_true rfl) tw_8_163 tw_8_162 tc_8_164 tw_1_13 hyX12 hnX12_adds rfl (Nat.le_of_ble_eq_true rfl) dX12_chances_150 (G12_adds_met C.2.2.2.2.2.2.2.1 (Nat.le_refl _) ob392 ob405 h) (fun r0 μ20 hq => ?_)
    obtain ⟨rfl, h⟩ := hq
    refine x_st [] rfl ?_
    refine x_aload_n C rfl 0 rfl dX12_chances_153 ?_
    refine x_iload C 1 rfl dX12_chances_154 ?_
    refine x_aload_n C rfl 0 rfl dX12_chances_156 ?_
    refine x_getR (r := 392) C (j := 50) ob358.1 ob358.2 (Nat.le_of_ble_eq_true rfl) (Nat.le_of_ble_eq_true rfl) (fun _ _ _ => rfl) r_358_50 tw_9_16 dX12_chances_157 ?_
    refine x_callV (dC := G12_laysAt_dep) (as := [.int x.1, .ref 392]) (st := []) C rX kX (Nat.le_trans (Nat.le_of_ble_eq_true rfl) hd) (Nat.le_of_ble_eq_true rfl) ob358.1 ob358.2 (Nat.le_of_ble_eq_true rfl) rfl ts_11_7 tw_8_167 tw_8_165 tc_8_168 tw_1_13 hyX12 hnX12_laysAt rfl (Nat.le_of_ble_eq_true rfl) dX12_chances_160 (G12_laysAt_met C.2.2.2.2.2.2.2.1 (Nat.le_refl _) ob392 h) (fun r0 μ21 hq => ?_)
    obtain ⟨rfl, h⟩ := hq
    refine x_st [] rfl ?_
    refine x_iinc (v := (x.1 + (-1))) C [(4, .int (x.1 + (-1))), (0, .ref 358)] 1 rfl (congrArg (fun z => x.1 + z) (by decide : Int32.ofInt (-1) = (-1))) (Nat.le_of_ble_eq_true rfl) rfl dX12_chances_163 ?_
    refine x_goto (tgt := 115) C dX12_chances_166 (by decide) ?_
    refine x_sub [(0, .ref 358), (4, .int (x.1 + (-1)))] [1, 0] rfl ?_
    exact hK115 _ _ h
theorem G12_chances_L115_ok {p : Program} {e : Env} {s : State} {m : MethodId} {args : Array Value} {below : List Frame} {meth : Method} {c : Code} {l : Launch} {φ : Nat → Nat} {tc : Nat → ClassId} {D : va_G} {s0 : State} {dR : Nat} (C : CX p s m args meth c φ tc D (AX φ) s0 cX12_chances RX12 6) (hd : G12_chances_dep ≤ dR) (hr : meth.sig.returnType = none)   {Q : MM → Prop}  {x : Int32 × MM}    (h : Lp (G12_chances_L115  Q) x) : WX p l e (rmX dR) s m args below meth c φ tc D (AX φ) 6 0 0 (MQ below (QX φ tc D (QV Q)) args s 0 0 (AX φ)) 115 [(0, .ref 358), (4, .int x.1)] [] x.2 := by
  obtain ⟨n, h⟩ := h
  induction n generalizing x with
  | zero => exact h.elim
  | succ n ih => exact G12_chances_L115_b C hd hr   (fun z4 zμ hz => by have q := ih hz; exact q) h
set_option maxHeartbeats 4000000 in
set_option maxRecDepth 100000 in
theorem G12_chances_L22_b {p : Program} {e : Env} {s : State} {m : MethodId} {args : Array Value} {below : List Frame} {meth : Method} {c : Code} {l : Launch} {φ : Nat → Nat} {tc : Nat → ClassId} {D : va_G} {s0 : State} {dR : Nat} (C : CX p s m args meth c φ tc D (AX φ) s0 cX12_chances RX12 6) (hd : G12_chances_dep ≤ dR) (hr : meth.sig.returnType = none)  {p1 : Int32} {p2 : Int32} {p3 : Int32} {p4 : Int32} {Q : MM → Prop} {K3 : Int32 × MM → Prop} {K22 : Int32 × MM → Prop} {x : Int32 × MM}   (hK3 : ∀ (z4 : Int32) (zμ : MM), K3 (z4, zμ) → WX p l e (rmX dR) s m args below meth c φ tc D (AX φ) 6 0 0 (MQ below (QX φ tc D (QV Q)) args s 0 0 (AX φ)) 3 [(0, .ref 358), (1, .int p1), (2, .int p2), (3, .int p3), (4, .int z4)] [] zμ) (hK22 : ∀ (z5 : Int32) (zμ : MM), K22 (z5, zμ) → WX p l e (rmX dR) s m args below meth c φ tc D (AX φ) 6 0 0 (MQ below (QX φ tc D (QV Q)) args s 0 0 (AX φ)) 22 [(0, .ref 358), (1, .int p1), (2, .int p2), (3, .int p3), (4, .int p4), (5, .int z5)] [] zμ) (h : G12_chances_L22 p1 p2 p3 p4 K3 Q K22 x) : WX p l e (rmX dR) s m args below meth c φ tc D (AX φ) 6 0 0 (MQ below (QX φ tc D (QV Q)) args s 0 0 (AX φ)) 22 [(0, .ref 358), (1, .int p1), (2, .int p2), (3, .int p3), (4, .int p4), (5, .int x.1)] [] x.2 := by
  unfold G12_chances_L22 at h
  refine x_iload C 5 rfl dX12_chances_22 ?_
  refine x_iload_n C rfl 1 rfl dX12_chances_24 ?_
  refine x_icmp_gt (tgt := 95) C dX12_chances_25 (by decide) (fun c23 => ?_) (fun c23 => ?_)
  · have h := h.1 c23
    refine x_aload_n C rfl 0 rfl dX12_chances_95 ?_
    refine x_iload C 4 rfl dX12_chances_96 ?_
    refine x_aload_n C rfl 0 rfl dX12_chances_98 ?_
    refine x_getR (r := 392) C (j := 50) ob358.1 ob358.2 (Nat.le_of_ble_eq_true rfl) (Nat.le_of_ble_eq_true rfl) (fun _ _ _ => rfl) r_358_50 tw_9_16 dX12_chances_99 ?_
    refine x_callV (dC := G12_laysAt_dep) (as := [.int p4, .ref 392]) (st := []) C rX kX (Nat.le_trans (Nat.le_of_ble_eq_true rfl) hd) (Nat.le_of_ble_eq_true rfl) ob358.1 ob358.2 (Nat.le_of_ble_eq_true rfl) rfl ts_11_7 tw_8_167 tw_8_165 tc_8_168 tw_1_13 hyX12 hnX12_laysAt rfl (Nat.le_of_ble_eq_true rfl) dX12_chances_102 (G12_laysAt_met C.2.2.2.2.2.2.2.1 (Nat.le_refl _) ob392 h) (fun r0 μ24 hq => ?_)
    obtain ⟨rfl, h⟩ := hq
    refine x_st [] rfl ?_
    refine x_iinc (v := (p4 + 1)) C [(4, .int (p4 + 1)), (0, .ref 358), (1, .int p1), (2, .int p2), (3, .int p3), (5, .int x.1)] 4 rfl (congrArg (fun z => p4 + z) (by decide : Int32.ofInt (1) = 1)) (Nat.le_of_ble_eq_true rfl) rfl dX12_chances_105 ?_
    refine x_goto (tgt := 3) C dX12_chances_108 (by decide) ?_
    refine x_sub [(0, .ref 358), (1, .int p1), (2, .int p2), (3, .int p3), (4, .int (p4 + 1))] [1, 2, 3, 4, 0] rfl ?_
    exact hK3 _ _ h
  · have h := h.2 c23
    refine x_aload_n C rfl 0 rfl dX12_chances_28 ?_
    refine x_getR (r := 405) C (j := 66) ob358.1 ob358.2 (Nat.le_of_ble_eq_true rfl) (Nat.le_of_ble_eq_true rfl) (fun _ _ _ => rfl) r_358_66 tw_9_32 dX12_chances_29 ?_
    refine x_iconst (v := 1) C (by decide) dX12_chances_32 ?_
    refine x_callS (dC := G12_isSmall_dep) (as := [.ref 405, .int 1]) (st := []) C rX kX (Nat.le_trans (Nat.le_of_ble_eq_true rfl) hd) (Nat.le_of_ble_eq_true rfl) tw_8_40 tw_8_39 tc_8_41 tw_1_13 hyX12 hnX12_isSmall rfl (Nat.le_of_ble_eq_true rfl) dX12_chances_33 (G12_isSmall_met C.2.2.2.2.2.2.2.1 (Nat.le_refl _) ob405 h) (fun r0 μ25 hq => ?_)
    obtain ⟨rfl, h⟩ := hq
    refine x_st [] rfl ?_
    refine x_aload_n C rfl 0 rfl dX12_chances_36 ?_
    refine x_iload_n C rfl 2 rfl dX12_chances_37 ?_
    refine x_iload C 5 rfl dX12_chances_38 ?_
    refine x_iload_n C rfl 1 rfl dX12_chances_40 ?_
    refine x_callV (dC := G12_powers_dep) (as := [.int p2, .int x.1, .int p1]) (st := []) C rX kX (Nat.le_trans (Nat.le_of_ble_eq_true rfl) hd) (Nat.le_of_ble_eq_true rfl) ob358.1 ob358.2 (Nat.le_of_ble_eq_true rfl) rfl ts_11_6 tw_8_160 tw_8_158 tc_8_161 tw_1_13 hyX12 hnX12_powers rfl (Nat.le_of_ble_eq_true rfl) dX12_chances_41 (G12_powers_met C.2.2.2.2.2.2.2.1 (Nat.le_refl _)  h) (fun r0 μ26 hq => ?_)
    obtain ⟨rfl, h⟩ := hq
    refine x_st [] rfl ?_
    refine x_aload_n C rfl 0 rfl dX12_chances_44 ?_
    refine x_iload_n C rfl 3 rfl dX12_chances_45 ?_
    refine x_iload C 5 rfl dX12_chances_46 ?_
    refine x_iload C 4 rfl dX12_chances_48 ?_
    refine x_isub C dX12_chances_50 ?_
    refine x_iload_n C rfl 1 rfl dX12_chances_51 ?_
    refine x_callV (dC := G12_powers_dep) (as := [.int p3, .int (x.1 - p4), .int p1]) (st := []) C rX kX (Nat.le_trans (Nat.le_of_ble_eq_true rfl) hd) (Nat.le_of_ble_eq_true rfl) ob358.1 ob358.2 (Nat.le_of_ble_eq_true rfl) rfl ts_11_6 tw_8_160 tw_8_158 tc_8_161 tw_1_13 hyX12 hnX12_powers rfl (Nat.le_of_ble_eq_true rfl) dX12_chances_52 (G12_powers_met C.2.2.2.2.2.2.2.1 (Nat.le_refl _)  h) (fun r0 μ27 hq => ?_)
    obtain ⟨rfl, h⟩ := hq
    refine x_st [] rfl ?_
    refine x_aload_n C rfl 0 rfl dX12_chances_55 ?_
    refine x_getR (r := 405) C (j := 66) ob358.1 ob358.2 (Nat.le_of_ble_eq_true rfl) (Nat.le_of_ble_eq_true rfl) (fun _ _ _ => rfl) r_358_66 tw_9_32 dX12_chances_56 ?_
    refine x_iload_n C rfl 1 rfl dX12_chances_59 ?_
    refine x_iload C 5 rfl dX12_chances_60 ?_
    refine x_callS (dC := G12_choices_dep) (as := [.int p1, .int x.1]) (st := [.ref 405]) C rX kX (Nat.le_trans (Nat.le_of_ble_eq_true rfl) hd) (Nat.le_of_ble_eq_true rfl) tw_7_176 tw_7_175 tc_7_177 tw_1_13 hyX12 hnX12_choices rfl (Nat.le_of_ble_eq_true rfl) dX12_chances_62 (G12_choices_met C.2.2.2.2.2.2.2.1 (Nat.le_refl _)  h) (fun r0 μ28 hq => ?_)
    obtain ⟨r29, rfl, h⟩ := hq
    refine x_st [.long r29, .ref 405] rfl ?_
    refine x_iload_n C rfl 1 rfl dX12_chances_65 ?_
    refine x_iload C 5 rfl dX12_chances_66 ?_
    refine x_iload C 4 rfl dX12_chances_68 ?_
    refine x_isub C dX12_chances_70 ?_
    refine x_callS (dC := G12_choices_dep) (as := [.int p1, .int (x.1 - p4)]) (st := [.long r29, .ref 405]) C rX kX (Nat.le_trans (Nat.le_of_ble_eq_true rfl) hd) (Nat.le_of_ble_eq_true rfl) tw_7_176 tw_7_175 tc_7_177 tw_1_13 hyX12 hnX12_choices rfl (Nat.le_of_ble_eq_true rfl) dX12_chances_71 (G12_choices_met C.2.2.2.2.2.2.2.1 (Nat.le_refl _)  h) (fun r0 μ30 hq => ?_)
    obtain ⟨r31, rfl, h⟩ := hq
    refine x_st [.long r31, .long r29, .ref 405] rfl ?_
    refine x_lmul C dX12_chances_74 ?_
    refine x_callS (dC := G12_times_dep) (as := [.ref 405, .long (r29 * r31)]) (st := []) C rX kX (Nat.le_trans (Nat.le_of_ble_eq_true rfl) hd) (Nat.le_of_ble_eq_true rfl) tw_8_43 tw_8_42 tc_8_44 tw_1_13 hyX12 hnX12_times rfl (Nat.le_of_ble_eq_true rfl) dX12_chances_75 (G12_times_met C.2.2.2.2.2.2.2.1 (Nat.le_refl _) ob405 h) (fun r0 μ32 hq => ?_)
    obtain ⟨rfl, h⟩ := hq
    refine x_st [] rfl ?_
    refine x_aload_n C rfl 0 rfl dX12_chances_78 ?_
    refine x_getR (r := 392) C (j := 50) ob358.1 ob358.2 (Nat.le_of_ble_eq_true rfl) (Nat.le_of_ble_eq_true rfl) (fun _ _ _ => rfl) r_358_50 tw_9_16 dX12_chances_79 ?_
    refine x_aload_n C rfl 0 rfl dX12_chances_82 ?_
    refine x_getR (r := 405) C (j := 66) ob358.1 ob358.2 (Nat.le_of_ble_eq_true rfl) (Nat.le_of_ble_eq_true rfl) (fun _ _ _ => rfl) r_358_66 tw_9_32 dX12_chances_83 ?_
    refine x_callS (dC := G12_adds_dep) (as := [.ref 392, .ref 405]) (st := []) C rX kX (Nat.le_trans (Nat.le_of_ble_eq_true rfl) hd) (Nat.le_of_ble_eq_true rfl) tw_8_163 tw_8_162 tc_8_164 tw_1_13 hyX12 hnX12_adds rfl (Nat.le_of_ble_eq_true rfl) dX12_chances_86 (G12_adds_met C.2.2.2.2.2.2.2.1 (Nat.le_refl _) ob392 ob405 h) (fun r0 μ33 hq => ?_)
    obtain ⟨rfl, h⟩ := hq
    refine x_st [] rfl ?_
    refine x_iinc (v := (x.1 + 1)) C [(5, .int (x.1 + 1)), (0, .ref 358), (1, .int p1), (2, .int p2), (3, .int p3), (4, .int p4)] 5 rfl (congrArg (fun z => x.1 + z) (by decide : Int32.ofInt (1) = 1)) (Nat.le_of_ble_eq_true rfl) rfl dX12_chances_89 ?_
    refine x_goto (tgt := 22) C dX12_chances_92 (by decide) ?_
    refine x_sub [(0, .ref 358), (1, .int p1), (2, .int p2), (3, .int p3), (4, .int p4), (5, .int (x.1 + 1))] [1, 2, 3, 4, 5, 0] rfl ?_
    exact hK22 _ _ h
theorem G12_chances_L22_ok {p : Program} {e : Env} {s : State} {m : MethodId} {args : Array Value} {below : List Frame} {meth : Method} {c : Code} {l : Launch} {φ : Nat → Nat} {tc : Nat → ClassId} {D : va_G} {s0 : State} {dR : Nat} (C : CX p s m args meth c φ tc D (AX φ) s0 cX12_chances RX12 6) (hd : G12_chances_dep ≤ dR) (hr : meth.sig.returnType = none)  {p1 : Int32} {p2 : Int32} {p3 : Int32} {p4 : Int32} {Q : MM → Prop} {K3 : Int32 × MM → Prop} {x : Int32 × MM}   (hK3 : ∀ (z4 : Int32) (zμ : MM), K3 (z4, zμ) → WX p l e (rmX dR) s m args below meth c φ tc D (AX φ) 6 0 0 (MQ below (QX φ tc D (QV Q)) args s 0 0 (AX φ)) 3 [(0, .ref 358), (1, .int p1), (2, .int p2), (3, .int p3), (4, .int z4)] [] zμ) (h : Lp (G12_chances_L22 p1 p2 p3 p4 K3 Q) x) : WX p l e (rmX dR) s m args below meth c φ tc D (AX φ) 6 0 0 (MQ below (QX φ tc D (QV Q)) args s 0 0 (AX φ)) 22 [(0, .ref 358), (1, .int p1), (2, .int p2), (3, .int p3), (4, .int p4), (5, .int x.1)] [] x.2 := by
  obtain ⟨n, h⟩ := h
  induction n generalizing x with
  | zero => exact h.elim
  | succ n ih => exact G12_chances_L22_b C hd hr  hK3 (fun z5 zμ hz => by have q := ih hz; exact q) h
set_option maxHeartbeats 4000000 in
set_option maxRecDepth 100000 in
theorem G12_chances_L3_b {p : Program} {e : Env} {s : State} {m : MethodId} {args : Array Value} {below : List Frame} {meth : Method} {c : Code} {l : Launch} {φ : Nat → Nat} {tc : Nat → ClassId} {D : va_G} {s0 : State} {dR : Nat} (C : CX p s m args meth c φ tc D (AX φ) s0 cX12_chances RX12 6) (hd : G12_chances_dep ≤ dR) (hr : meth.sig.returnType = none)  {p1 : Int32} {p2 : Int32} {p3 : Int32} {Q : MM → Prop} {K3 : Int32 × MM → Prop} {x : Int32 × MM}   (hK3 : ∀ (z4 : Int32) (zμ : MM), K3 (z4, zμ) → WX p l e (rmX dR) s m args below meth c φ tc D (AX φ) 6 0 0 (MQ below (QX φ tc D (QV Q)) args s 0 0 (AX φ)) 3 [(0, .ref 358), (1, .int p1), (2, .int p2), (3, .int p3), (4, .int z4)] [] zμ) (h : G12_chances_L3 p1 p2 p3 Q K3 x) : WX p l e (rmX dR) s m args below meth c φ tc D (AX φ) 6 0 0 (MQ below (QX φ tc D (QV Q)) args s 0 0 (AX φ)) 3 [(0, .ref 358), (1, .int p1), (2, .int p2), (3, .int p3), (4, .int x.1)] [] x.2 := by
  unfold G12_chances_L3 at h
  refine x_iload C 4 rfl dX12_chances_3 ?_
  refine x_bipush (v := 16) C (by decide) dX12_chances_5 ?_
  refine x_icmp_gt (tgt := 111) C dX12_chances_7 (by decide) (fun c16 => ?_) (fun c16 => ?_)
  · have h := h.1 c16
    refine x_bipush (v := 15) C (by decide) dX12_chances_111 ?_
    refine x_istore C [(4, .int 15), (0, .ref 358), (1, .int p1), (2, .int p2), (3, .int p3)] (Nat.le_of_ble_eq_true rfl) rfl dX12_chances_113 ?_
    refine x_sub [(0, .ref 358), (4, .int 15)] [1, 0] rfl ?_
    exact G12_chances_L115_ok C hd hr  h
  · have h := h.2 c16
    refine x_aload_n C rfl 0 rfl dX12_chances_10 ?_
    refine x_getR (r := 392) C (j := 50) ob358.1 ob358.2 (Nat.le_of_ble_eq_true rfl) (Nat.le_of_ble_eq_true rfl) (fun _ _ _ => rfl) r_358_50 tw_9_16 dX12_chances_11 ?_
    refine x_iconst (v := 0) C (by decide) dX12_chances_14 ?_
    refine x_callS (dC := G12_isSmall_dep) (as := [.ref 392, .int 0]) (st := []) C rX kX (Nat.le_trans (Nat.le_of_ble_eq_true rfl) hd) (Nat.le_of_ble_eq_true rfl) tw_8_40 tw_8_39 tc_8_41 tw_1_13 hyX12 hnX12_isSmall rfl (Nat.le_of_ble_eq_true rfl) dX12_chances_15 (G12_isSmall_met C.2.2.2.2.2.2.2.1 (Nat.le_refl _) ob392 h) (fun r0 μ22 hq => ?_)
    obtain ⟨rfl, h⟩ := hq
    refine x_st [] rfl ?_
    refine x_iload C 4 rfl dX12_chances_18 ?_
    refine x_istore C [(5, .int x.1), (0, .ref 358), (1, .int p1), (2, .int p2), (3, .int p3), (4, .int x.1)] (Nat.le_of_ble_eq_true rfl) rfl dX12_chances_20 ?_
    refine x_sub [(0, .ref 358), (1, .int p1), (2, .int p2), (3, .int p3), (4, .int x.1), (5, .int x.1)] [1, 2, 3, 4, 5, 0] rfl ?_
    exact G12_chances_L22_ok C hd hr hK3 h
theorem G12_chances_L3_ok {p : Program} {e : Env} {s : State} {m : MethodId} {args : Array Value} {below : List Frame} {meth : Method} {c : Code} {l : Launch} {φ : Nat → Nat} {tc : Nat → ClassId} {D : va_G} {s0 : State} {dR : Nat} (C : CX p s m args meth c φ tc D (AX φ) s0 cX12_chances RX12 6) (hd : G12_chances_dep ≤ dR) (hr : meth.sig.returnType = none)  {p1 : Int32} {p2 : Int32} {p3 : Int32} {Q : MM → Prop}  {x : Int32 × MM}    (h : Lp (G12_chances_L3 p1 p2 p3 Q) x) : WX p l e (rmX dR) s m args below meth c φ tc D (AX φ) 6 0 0 (MQ below (QX φ tc D (QV Q)) args s 0 0 (AX φ)) 3 [(0, .ref 358), (1, .int p1), (2, .int p2), (3, .int p3), (4, .int x.1)] [] x.2 := by
  obtain ⟨n, h⟩ := h
  induction n generalizing x with
  | zero => exact h.elim
  | succ n ih => exact G12_chances_L3_b C hd hr   (fun z4 zμ hz => by have q := ih hz; exact q) h
set_option maxHeartbeats 4000000 in
set_option maxRecDepth 100000 in
theorem G12_chances_met {l : Launch} {φ : Nat → Nat} {tc : Nat → ClassId} {D : va_G} {s0 : State} (hG : GX φ tc D s0) {dR : Nat} (hd : G12_chances_dep ≤ dR) {v1 : Int32} {v2 : Int32} {v3 : Int32} {μ : MM} {Q : MM → Prop}  (h : G12_chances v1 v2 v3 μ Q) : MX l φ tc D s0 dR yX12_chances cX12_chances 6 none [.ref 358, .int v1, .int v2, .int v3] μ (QV Q) := by
  refine MX.of (own := RX12) hG plX12 rfl (Nat.le_of_ble_eq_true rfl) (fun p e s m args below meth c C hr => ?_)
  refine x_sub [(0, .ref 358), (1, .int v1), (2, .int v2), (3, .int v3)] [0, 1, 2, 3] rfl ?_
  unfold G12_chances at h
  refine x_iconst (v := 0) C (by decide) dX12_chances_0 ?_
  refine x_istore C [(4, .int 0), (0, .ref 358), (1, .int v1), (2, .int v2), (3, .int v3)] (Nat.le_of_ble_eq_true rfl) rfl dX12_chances_1 ?_
  refine x_sub [(0, .ref 358), (1, .int v1), (2, .int v2), (3, .int v3), (4, .int 0)] [1, 2, 3, 4, 0] rfl ?_
  exact G12_chances_L3_ok C hd hr  h
set_option maxHeartbeats 4000000 in
set_option maxRecDepth 100000 in
theorem G12_chanceOf_L37_b {p : Program} {e : Env} {s : State} {m : MethodId} {args : Array Value} {below : List Frame} {meth : Method} {c : Code} {l : Launch} {φ : Nat → Nat} {tc : Nat → ClassId} {D : va_G} {s0 : State} {dR : Nat} (C : CX p s m args meth c φ tc D (AX φ) s0 cX12_chanceOf RX12 6) (hd : G12_chanceOf_dep ≤ dR) (hr : meth.sig.returnType = (some .int))  {p2 : Int32} {Q : Int32 → MM → Prop} {K37 : Int64 × Int32 × MM → Prop} {x : Int64 × Int32 × MM}   (hK37 : ∀ (z3 : Int64) (z5 : Int32) (zμ : MM), K37 (z3, z5, zμ) → WX p l e (rmX dR) s m args below meth c φ tc D (AX φ) 6 0 0 (MQ below (QX φ tc D (QI Q)) args s 0 0 (AX φ)) 37 [(0, .ref 358), (2, .int p2), (3, .long z3), (5, .int z5)] [] zμ) (h : G12_chanceOf_L37 p2 Q K37 x) : WX p l e (rmX dR) s m args below meth c φ tc D (AX φ) 6 0 0 (MQ below (QX φ tc D (QI Q)) args s 0 0 (AX φ)) 37 [(0, .ref 358), (2, .int p2), (3, .long x.1), (5, .int x.2.1)] [] x.2.2 := by
  unfold G12_chanceOf_L37 at h
  refine x_iload C 3 rfl dX12_chanceOf_37 ?_
  refine x_iload_n C rfl 1 rfl dX12_chanceOf_39 ?_
  refine x_icmp_le (tgt := 64) C dX12_chanceOf_40 (by decide) (fun c10 => ?_) (fun c10 => ?_)
  · have h := h.1 c10
    refine x_lload_n C rfl 2 rfl dX12_chanceOf_64 ?_
    refine x_l2i C dX12_chanceOf_65 ?_
    exact x_iret C hr dX12_chanceOf_66 ⟨_, rfl, h⟩
  · have h := h.2 c10
    refine x_lload_n C rfl 2 rfl dX12_chanceOf_43 ?_
    refine x_ldc2 (v := 10000) C tw_8_45 dX12_chanceOf_44 ?_
    refine x_lmul C dX12_chanceOf_47 ?_
    refine x_aload_n C rfl 0 rfl dX12_chanceOf_48 ?_
    refine x_getR (r := 392) C (j := 50) ob358.1 ob358.2 (Nat.le_of_ble_eq_true rfl) (Nat.le_of_ble_eq_true rfl) (fun _ _ _ => rfl) r_358_50 tw_9_16 dX12_chanceOf_49 ?_
    refine x_iload C 3 rfl dX12_chanceOf_52 ?_
    obtain ⟨c11, h⟩ := h
    refine x_iald C ob392.1 ob392.2 c11 rfl dX12_chanceOf_54 ?_
    refine x_i2l C dX12_chanceOf_55 ?_
    refine x_ladd C dX12_chanceOf_56 ?_
    refine x_topl (fun y12 e_y12 => ?_)
    have h := h y12 e_y12
    refine x_lstore_n C [(3, .long y12), (0, .ref 358), (2, .int p2), (5, .int x.2.1)] rfl (Nat.le_of_ble_eq_true rfl) rfl dX12_chanceOf_57 ?_
    refine x_iinc (v := (x.2.1 + (-1))) C [(5, .int (x.2.1 + (-1))), (3, .long y12), (0, .ref 358), (2, .int p2)] 3 rfl (congrArg (fun z => x.2.1 + z) (by decide : Int32.ofInt (-1) = (-1))) (Nat.le_of_ble_eq_true rfl) rfl dX12_chanceOf_58 ?_
    refine x_goto (tgt := 37) C dX12_chanceOf_61 (by decide) ?_
    refine x_sub [(0, .ref 358), (2, .int p2), (3, .long y12), (5, .int (x.2.1 + (-1)))] [2, 3, 1, 0] rfl ?_
    exact hK37 _ _ _ h
theorem G12_chanceOf_L37_ok {p : Program} {e : Env} {s : State} {m : MethodId} {args : Array Value} {below : List Frame} {meth : Method} {c : Code} {l : Launch} {φ : Nat → Nat} {tc : Nat → ClassId} {D : va_G} {s0 : State} {dR : Nat} (C : CX p s m args meth c φ tc D (AX φ) s0 cX12_chanceOf RX12 6) (hd : G12_chanceOf_dep ≤ dR) (hr : meth.sig.returnType = (some .int))  {p2 : Int32} {Q : Int32 → MM → Prop}  {x : Int64 × Int32 × MM}    (h : Lp (G12_chanceOf_L37 p2 Q) x) : WX p l e (rmX dR) s m args below meth c φ tc D (AX φ) 6 0 0 (MQ below (QX φ tc D (QI Q)) args s 0 0 (AX φ)) 37 [(0, .ref 358), (2, .int p2), (3, .long x.1), (5, .int x.2.1)] [] x.2.2 := by
  obtain ⟨n, h⟩ := h
  induction n generalizing x with
  | zero => exact h.elim
  | succ n ih => exact G12_chanceOf_L37_b C hd hr   (fun z3 z5 zμ hz => by have q := ih hz; exact q) h
set_option maxHeartbeats 4000000 in
set_option maxRecDepth 100000 in
theorem G12_chanceOf_met {l : Launch} {φ : Nat → Nat} {tc : Nat → ClassId} {D : va_G} {s0 : State} (hG : GX φ tc D s0) {dR : Nat} (hd : G12_chanceOf_dep ≤ dR) {v1 : Int32} {v2 : Int32} {μ : MM} {Q : Int32 → MM → Prop}  (h : G12_chanceOf v1 v2 μ Q) : MX l φ tc D s0 dR yX12_chanceOf cX12_chanceOf 6 (some .int) [.ref 358, .int v1, .int v2] μ (QI Q) := by
  refine MX.of (own := RX12) hG plX12 rfl (Nat.le_of_ble_eq_true rfl) (fun p e s m args below meth c C hr => ?_)
  refine x_sub [(0, .ref 358), (1, .int v1), (2, .int v2)] [0, 1, 2] rfl ?_
  unfold G12_chanceOf at h
  refine x_iload_n C rfl 1 rfl dX12_chanceOf_0 ?_
  refine x_bipush (v := 16) C (by decide) dX12_chanceOf_1 ?_
  refine x_icmp_le (tgt := 8) C dX12_chanceOf_3 (by decide) (fun c6 => ?_) (fun c6 => ?_)
  · have h := h.1 c6
    refine x_aload_n C rfl 0 rfl dX12_chanceOf_8 ?_
    refine x_iload_n C rfl 1 rfl dX12_chanceOf_9 ?_
    refine x_aload_n C rfl 0 rfl dX12_chanceOf_10 ?_
    refine x_getR (r := 392) C (j := 50) ob358.1 ob358.2 (Nat.le_of_ble_eq_true rfl) (Nat.le_of_ble_eq_true rfl) (fun _ _ _ => rfl) r_358_50 tw_9_16 dX12_chanceOf_11 ?_
    refine x_callV (dC := G12_takesFrom_dep) (as := [.int v1, .ref 392]) (st := []) C rX kX (Nat.le_trans (Nat.le_of_ble_eq_true rfl) hd) (Nat.le_of_ble_eq_true rfl) ob358.1 ob358.2 (Nat.le_of_ble_eq_true rfl) rfl ts_11_8 tw_8_171 tw_8_169 tc_8_172 tw_1_13 hyX12 hnX12_takesFrom rfl (Nat.le_of_ble_eq_true rfl) dX12_chanceOf_14 (G12_takesFrom_met C.2.2.2.2.2.2.2.1 (Nat.le_refl _) ob392 h) (fun r0 μ7 hq => ?_)
    obtain ⟨rfl, h⟩ := hq
    refine x_st [] rfl ?_
    refine x_aload_n C rfl 0 rfl dX12_chanceOf_17 ?_
    refine x_getR (r := 392) C (j := 50) ob358.1 ob358.2 (Nat.le_of_ble_eq_true rfl) (Nat.le_of_ble_eq_true rfl) (fun _ _ _ => rfl) r_358_50 tw_9_16 dX12_chanceOf_18 ?_
    refine x_ldc2 (v := 1000000) C tw_8_57 dX12_chanceOf_21 ?_
    refine x_callS (dC := G12_times_dep) (as := [.ref 392, .long 1000000]) (st := []) C rX kX (Nat.le_trans (Nat.le_of_ble_eq_true rfl) hd) (Nat.le_of_ble_eq_true rfl) tw_8_43 tw_8_42 tc_8_44 tw_1_13 hyX12 hnX12_times rfl (Nat.le_of_ble_eq_true rfl) dX12_chanceOf_24 (G12_times_met C.2.2.2.2.2.2.2.1 (Nat.le_refl _) ob392 h) (fun r0 μ8 hq => ?_)
    obtain ⟨rfl, h⟩ := hq
    refine x_st [] rfl ?_
    refine x_lconst (v := 0) C (by decide) dX12_chanceOf_27 ?_
    refine x_lstore_n C [(3, .long 0), (0, .ref 358), (1, .int v1), (2, .int v2)] rfl (Nat.le_of_ble_eq_true rfl) rfl dX12_chanceOf_28 ?_
    refine x_aload_n C rfl 1 rfl dX12_chanceOf_29 ?_
    refine x_getR (r := 392) C (j := 50) ob358.1 ob358.2 (Nat.le_of_ble_eq_true rfl) (Nat.le_of_ble_eq_true rfl) (fun _ _ _ => rfl) r_358_50 tw_9_16 dX12_chanceOf_30 ?_
    refine x_iconst (v := 0) C (by decide) dX12_chanceOf_33 ?_
    refine x_iald C ob392.1 ob392.2 (by unfold vp_in; decide) (j := 0) (by decide) dX12_chanceOf_34 ?_
    refine x_topi (fun y9 e_y9 => ?_)
    have h := h y9 e_y9
    refine x_istore C [(5, .int y9), (3, .long 0), (0, .ref 358), (1, .int v1), (2, .int v2)] (Nat.le_of_ble_eq_true rfl) rfl dX12_chanceOf_35 ?_
    refine x_sub [(0, .ref 358), (2, .int v2), (3, .long 0), (5, .int y9)] [2, 4, 1, 0] rfl ?_
    exact G12_chanceOf_L37_ok C hd hr  h
  · have h := h.2 c6
    refine x_iconst (v := 0) C (by decide) dX12_chanceOf_6 ?_
    exact x_iret C hr dX12_chanceOf_7 ⟨_, rfl, h⟩
set_option maxHeartbeats 4000000 in
set_option maxRecDepth 100000 in
theorem G12_isPercent_met {l : Launch} {φ : Nat → Nat} {tc : Nat → ClassId} {D : va_G} {s0 : State} (hG : GX φ tc D s0) {dR : Nat} (hd : G12_isPercent_dep ≤ dR) {v0 : Int32} {μ : MM} {Q : Int32 → MM → Prop}  (h : G12_isPercent v0 μ Q) : MX l φ tc D s0 dR yX12_isPercent cX12_isPercent 1 (some .boolean) [.int v0] μ (QI Q) := by
  refine MX.of (own := RX12) hG plX12 rfl (Nat.le_of_ble_eq_true rfl) (fun p e s m args below meth c C hr => ?_)
  refine x_sub [(0, .int v0)] [0] rfl ?_
  unfold G12_isPercent at h
  refine x_iload_n C rfl 0 rfl dX12_isPercent_0 ?_
  refine x_i2l C dX12_isPercent_1 ?_
  refine x_lconst (v := 0) C (by decide) dX12_isPercent_2 ?_
  refine x_ldc2 (v := 100) C tw_8_10 dX12_isPercent_3 ?_
  refine x_callS (dC := G12_in_dep) (as := [.long (v0.toInt64), .long 0, .long 100]) (st := []) C rX kX (Nat.le_trans (Nat.le_of_ble_eq_true rfl) hd) (Nat.le_of_ble_eq_true rfl) tw_6_183 tw_6_182 tc_6_184 tw_1_13 hyX12 hnX12_in rfl (Nat.le_of_ble_eq_true rfl) dX12_isPercent_6 (G12_in_met C.2.2.2.2.2.2.2.1 (Nat.le_refl _)  h) (fun r0 μ3 hq => ?_)
  obtain ⟨r4, rfl, h⟩ := hq
  refine x_st [.int r4] rfl ?_
  exact x_zret C hr h.1 dX12_isPercent_9 ⟨_, rfl, h.2⟩
set_option maxHeartbeats 4000000 in
set_option maxRecDepth 100000 in
theorem G12_shows_met {l : Launch} {φ : Nat → Nat} {tc : Nat → ClassId} {D : va_G} {s0 : State} (hG : GX φ tc D s0) {dR : Nat} (hd : G12_shows_dep ≤ dR) {v1 : Int32} {v2 : Int32} {v3 : Int32} {v4 : Int32} {μ : MM} {Q : Int32 → MM → Prop}  (h : G12_shows v1 v2 v3 v4 μ Q) : MX l φ tc D s0 dR yX12_shows cX12_shows 5 (some .int) [.ref 358, .int v1, .int v2, .int v3, .int v4] μ (QI Q) := by
  refine MX.of (own := RX12) hG plX12 rfl (Nat.le_of_ble_eq_true rfl) (fun p e s m args below meth c C hr => ?_)
  refine x_sub [(0, .ref 358), (1, .int v1), (2, .int v2), (3, .int v3), (4, .int v4)] [0, 1, 2, 3, 4] rfl ?_
  unfold G12_shows at h
  refine x_aload_n C rfl 0 rfl dX12_shows_0 ?_
  refine x_iconst (v := 0) C (by decide) dX12_shows_1 ?_
  refine x_putI C (j := 0) ob358.1 ob358.2 (Nat.le_of_ble_eq_true rfl) (Nat.le_of_ble_eq_true rfl) (Or.inl rfl) rfl rfl rfl tw_8_206 dX12_shows_2 ?_
  refine x_mu (fun μ13 e_μ13 => ?_)
  have h := h μ13 e_μ13
  refine x_iload_n C rfl 1 rfl dX12_shows_5 ?_
  refine x_i2l C dX12_shows_6 ?_
  refine x_lconst (v := 1) C (by decide) dX12_shows_7 ?_
  refine x_ldc2 (v := 16) C tw_8_150 dX12_shows_8 ?_
  refine x_callS (dC := G12_in_dep) (as := [.long (v1.toInt64), .long 1, .long 16]) (st := []) C rX kX (Nat.le_trans (Nat.le_of_ble_eq_true rfl) hd) (Nat.le_of_ble_eq_true rfl) tw_6_183 tw_6_182 tc_6_184 tw_1_13 hyX12 hnX12_in rfl (Nat.le_of_ble_eq_true rfl) dX12_shows_11 (G12_in_met C.2.2.2.2.2.2.2.1 (Nat.le_refl _)  h) (fun r0 μ14 hq => ?_)
  obtain ⟨r15, rfl, h⟩ := hq
  refine x_st [.int r15] rfl ?_
  refine x_if_eq (tgt := 44) C dX12_shows_14 (by decide) (fun c16 => ?_) (fun c16 => ?_)
  · have h := h.1 c16
    refine x_iconst (v := (-1)) C (by decide) dX12_shows_44 ?_
    exact x_iret C hr dX12_shows_45 ⟨_, rfl, h⟩
  · have h := h.2 c16
    refine x_iload_n C rfl 2 rfl dX12_shows_17 ?_
    refine x_callS (dC := G12_isPercent_dep) (as := [.int v2]) (st := []) C rX kX (Nat.le_trans (Nat.le_of_ble_eq_true rfl) hd) (Nat.le_of_ble_eq_true rfl) tw_8_152 tw_8_151 tc_8_153 tw_1_13 hyX12 hnX12_isPercent rfl (Nat.le_of_ble_eq_true rfl) dX12_shows_18 (G12_isPercent_met C.2.2.2.2.2.2.2.1 (Nat.le_refl _)  h) (fun r0 μ17 hq => ?_)
    obtain ⟨r18, rfl, h⟩ := hq
    refine x_st [.int r18] rfl ?_
    refine x_if_eq (tgt := 44) C dX12_shows_21 (by decide) (fun c19 => ?_) (fun c19 => ?_)
    · have h := h.1 c19
      refine x_iconst (v := (-1)) C (by decide) dX12_shows_44 ?_
      exact x_iret C hr dX12_shows_45 ⟨_, rfl, h⟩
    · have h := h.2 c19
      refine x_iload_n C rfl 3 rfl dX12_shows_24 ?_
      refine x_callS (dC := G12_isPercent_dep) (as := [.int v3]) (st := []) C rX kX (Nat.le_trans (Nat.le_of_ble_eq_true rfl) hd) (Nat.le_of_ble_eq_true rfl) tw_8_152 tw_8_151 tc_8_153 tw_1_13 hyX12 hnX12_isPercent rfl (Nat.le_of_ble_eq_true rfl) dX12_shows_25 (G12_isPercent_met C.2.2.2.2.2.2.2.1 (Nat.le_refl _)  h) (fun r0 μ20 hq => ?_)
      obtain ⟨r21, rfl, h⟩ := hq
      refine x_st [.int r21] rfl ?_
      refine x_if_eq (tgt := 44) C dX12_shows_28 (by decide) (fun c22 => ?_) (fun c22 => ?_)
      · have h := h.1 c22
        refine x_iconst (v := (-1)) C (by decide) dX12_shows_44 ?_
        exact x_iret C hr dX12_shows_45 ⟨_, rfl, h⟩
      · have h := h.2 c22
        refine x_iload C 4 rfl dX12_shows_31 ?_
        refine x_i2l C dX12_shows_33 ?_
        refine x_lconst (v := 1) C (by decide) dX12_shows_34 ?_
        refine x_ldc2 (v := 16) C tw_8_150 dX12_shows_35 ?_
        refine x_callS (dC := G12_in_dep) (as := [.long (v4.toInt64), .long 1, .long 16]) (st := []) C rX kX (Nat.le_trans (Nat.le_of_ble_eq_true rfl) hd) (Nat.le_of_ble_eq_true rfl) tw_6_183 tw_6_182 tc_6_184 tw_1_13 hyX12 hnX12_in rfl (Nat.le_of_ble_eq_true rfl) dX12_shows_38 (G12_in_met C.2.2.2.2.2.2.2.1 (Nat.le_refl _)  h) (fun r0 μ23 hq => ?_)
        obtain ⟨r24, rfl, h⟩ := hq
        refine x_st [.int r24] rfl ?_
        refine x_if_ne (tgt := 46) C dX12_shows_41 (by decide) (fun c25 => ?_) (fun c25 => ?_)
        · have h := h.1 c25
          refine x_aload_n C rfl 0 rfl dX12_shows_46 ?_
          refine x_iload_n C rfl 1 rfl dX12_shows_47 ?_
          refine x_iload_n C rfl 2 rfl dX12_shows_48 ?_
          refine x_iload_n C rfl 3 rfl dX12_shows_49 ?_
          refine x_callV (dC := G12_chances_dep) (as := [.int v1, .int v2, .int v3]) (st := []) C rX kX (Nat.le_trans (Nat.le_of_ble_eq_true rfl) hd) (Nat.le_of_ble_eq_true rfl) ob358.1 ob358.2 (Nat.le_of_ble_eq_true rfl) rfl ts_11_5 tw_8_156 tw_8_154 tc_8_157 tw_1_13 hyX12 hnX12_chances rfl (Nat.le_of_ble_eq_true rfl) dX12_shows_50 (G12_chances_met C.2.2.2.2.2.2.2.1 (Nat.le_refl _)  h) (fun r0 μ26 hq => ?_)
          obtain ⟨rfl, h⟩ := hq
          refine x_st [] rfl ?_
          refine x_aload_n C rfl 0 rfl dX12_shows_53 ?_
          refine x_iload C 4 rfl dX12_shows_54 ?_
          refine x_iload_n C rfl 1 rfl dX12_shows_56 ?_
          refine x_callV (dC := G12_chanceOf_dep) (as := [.int v4, .int v1]) (st := []) C rX kX (Nat.le_trans (Nat.le_of_ble_eq_true rfl) hd) (Nat.le_of_ble_eq_true rfl) ob358.1 ob358.2 (Nat.le_of_ble_eq_true rfl) rfl ts_11_9 tw_8_175 tw_8_173 tc_8_176 tw_1_13 hyX12 hnX12_chanceOf rfl (Nat.le_of_ble_eq_true rfl) dX12_shows_57 (G12_chanceOf_met C.2.2.2.2.2.2.2.1 (Nat.le_refl _)  h) (fun r0 μ27 hq => ?_)
          obtain ⟨r28, rfl, h⟩ := hq
          refine x_st [.int r28] rfl ?_
          exact x_iret C hr dX12_shows_60 ⟨_, rfl, h⟩
        · have h := h.2 c25
          refine x_iconst (v := (-1)) C (by decide) dX12_shows_44 ?_
          exact x_iret C hr dX12_shows_45 ⟨_, rfl, h⟩
set_option maxHeartbeats 4000000 in
set_option maxRecDepth 100000 in
theorem G12_least_L106_b {p : Program} {e : Env} {s : State} {m : MethodId} {args : Array Value} {below : List Frame} {meth : Method} {c : Code} {l : Launch} {φ : Nat → Nat} {tc : Nat → ClassId} {D : va_G} {s0 : State} {dR : Nat} (C : CX p s m args meth c φ tc D (AX φ) s0 cX12_least RX12 7) (hd : G12_least_dep ≤ dR) (hr : meth.sig.returnType = (some .int))  {p1 : Int32} {p2 : Int32} {p3 : Int32} {p4 : Int32} {p5 : Int32} {Q : Int32 → MM → Prop} {K49 : Int32 × MM → Prop} {K106 : Int32 × MM → Prop} {x : Int32 × MM}   (hK49 : ∀ (z5 : Int32) (zμ : MM), K49 (z5, zμ) → WX p l e (rmX dR) s m args below meth c φ tc D (AX φ) 7 0 0 (MQ below (QX φ tc D (QI Q)) args s 0 0 (AX φ)) 49 [(0, .ref 358), (1, .int p1), (2, .int p2), (3, .int p3), (4, .int p4), (5, .int z5)] [] zμ) (hK106 : ∀ (z6 : Int32) (zμ : MM), K106 (z6, zμ) → WX p l e (rmX dR) s m args below meth c φ tc D (AX φ) 7 0 0 (MQ below (QX φ tc D (QI Q)) args s 0 0 (AX φ)) 106 [(0, .ref 358), (1, .int p1), (2, .int p2), (3, .int p3), (4, .int p4), (5, .int p5), (6, .int z6)] [] zμ) (h : G12_least_L106 p1 p2 p3 p4 p5 K49 Q K106 x) : WX p l e (rmX dR) s m args below meth c φ tc D (AX φ) 7 0 0 (MQ below (QX φ tc D (QI Q)) args s 0 0 (AX φ)) 106 [(0, .ref 358), (1, .int p1), (2, .int p2), (3, .int p3), (4, .int p4), (5, .int p5), (6, .int x.1)] [] x.2 := by
  unfold G12_least_L106 at h
  refine x_iload C 6 rfl dX12_least_106 ?_
  refine x_bipush (v := 16) C (by decide) dX12_least_108 ?_
  refine x_icmp_gt (tgt := 158) C dX12_least_110 (by decide) (fun c38 => ?_) (fun c38 => ?_)
  · have h := h.1 c38
    refine x_iinc (v := (p5 + 1)) C [(5, .int (p5 + 1)), (0, .ref 358), (1, .int p1), (2, .int p2), (3, .int p3), (4, .int p4), (6, .int x.1)] 5 rfl (congrArg (fun z => p5 + z) (by decide : Int32.ofInt (1) = 1)) (Nat.le_of_ble_eq_true rfl) rfl dX12_least_158 ?_
    refine x_goto (tgt := 49) C dX12_least_161 (by decide) ?_
    refine x_sub [(0, .ref 358), (1, .int p1), (2, .int p2), (3, .int p3), (4, .int p4), (5, .int (p5 + 1))] [1, 2, 3, 4, 5, 0] rfl ?_
    exact hK49 _ _ h
  · have h := h.2 c38
    refine x_aload_n C rfl 0 rfl dX12_least_113 ?_
    refine x_getR (r := 406) C (j := 67) ob358.1 ob358.2 (Nat.le_of_ble_eq_true rfl) (Nat.le_of_ble_eq_true rfl) (fun _ _ _ => rfl) r_358_67 tw_9_33 dX12_least_114 ?_
    refine x_iload C 6 rfl dX12_least_117 ?_
    obtain ⟨c39, h⟩ := h
    refine x_iald C ob406.1 ob406.2 c39 rfl dX12_least_119 ?_
    refine x_iload_n C rfl 3 rfl dX12_least_120 ?_
    refine x_icmp_lt (tgt := 152) C dX12_least_121 (by decide) (fun c40 => ?_) (fun c40 => ?_)
    · have h := h.1 c40
      refine x_iinc (v := (x.1 + 1)) C [(6, .int (x.1 + 1)), (0, .ref 358), (1, .int p1), (2, .int p2), (3, .int p3), (4, .int p4), (5, .int p5)] 6 rfl (congrArg (fun z => x.1 + z) (by decide : Int32.ofInt (1) = 1)) (Nat.le_of_ble_eq_true rfl) rfl dX12_least_152 ?_
      refine x_goto (tgt := 106) C dX12_least_155 (by decide) ?_
      refine x_sub [(0, .ref 358), (1, .int p1), (2, .int p2), (3, .int p3), (4, .int p4), (5, .int p5), (6, .int (x.1 + 1))] [1, 2, 3, 4, 5, 6, 0] rfl ?_
      exact hK106 _ _ h
    · have h := h.2 c40
      refine x_aload_n C rfl 0 rfl dX12_least_124 ?_
      refine x_iload C 6 rfl dX12_least_125 ?_
      refine x_iload C 5 rfl dX12_least_127 ?_
      refine x_callV (dC := G12_chanceOf_dep) (as := [.int x.1, .int p5]) (st := []) C rX kX (Nat.le_trans (Nat.le_of_ble_eq_true rfl) hd) (Nat.le_of_ble_eq_true rfl) ob358.1 ob358.2 (Nat.le_of_ble_eq_true rfl) rfl ts_11_9 tw_8_175 tw_8_173 tc_8_176 tw_1_13 hyX12 hnX12_chanceOf rfl (Nat.le_of_ble_eq_true rfl) dX12_least_129 (G12_chanceOf_met C.2.2.2.2.2.2.2.1 (Nat.le_refl _)  h) (fun r0 μ41 hq => ?_)
      obtain ⟨r42, rfl, h⟩ := hq
      refine x_st [.int r42] rfl ?_
      refine x_iload C 4 rfl dX12_least_132 ?_
      refine x_icmp_gt (tgt := 152) C dX12_least_134 (by decide) (fun c43 => ?_) (fun c43 => ?_)
      · have h := h.1 c43
        refine x_iinc (v := (x.1 + 1)) C [(6, .int (x.1 + 1)), (0, .ref 358), (1, .int p1), (2, .int p2), (3, .int p3), (4, .int p4), (5, .int p5)] 6 rfl (congrArg (fun z => x.1 + z) (by decide : Int32.ofInt (1) = 1)) (Nat.le_of_ble_eq_true rfl) rfl dX12_least_152 ?_
        refine x_goto (tgt := 106) C dX12_least_155 (by decide) ?_
        refine x_sub [(0, .ref 358), (1, .int p1), (2, .int p2), (3, .int p3), (4, .int p4), (5, .int p5), (6, .int (x.1 + 1))] [1, 2, 3, 4, 5, 6, 0] rfl ?_
        exact hK106 _ _ h
      · have h := h.2 c43
        refine x_aload_n C rfl 0 rfl dX12_least_137 ?_
        refine x_iconst (v := 0) C (by decide) dX12_least_138 ?_
        refine x_putI C (j := 1) ob358.1 ob358.2 (Nat.le_of_ble_eq_true rfl) (Nat.le_of_ble_eq_true rfl) (Or.inl rfl) rfl rfl rfl tw_8_207 dX12_least_139 ?_
        refine x_mu (fun μ44 e_μ44 => ?_)
        have h := h μ44 e_μ44
        refine x_aload_n C rfl 0 rfl dX12_least_142 ?_
        refine x_iload C 6 rfl dX12_least_143 ?_
        refine x_i2l C dX12_least_145 ?_
        refine x_callV (dC := G12_enters_dep) (as := [.long (x.1.toInt64)]) (st := []) C rX kX (Nat.le_trans (Nat.le_of_ble_eq_true rfl) hd) (Nat.le_of_ble_eq_true rfl) ob358.1 ob358.2 (Nat.le_of_ble_eq_true rfl) rfl ts_10_1 tw_7_161 tw_7_159 tc_7_162 tw_1_13 hyX12 hnX12_enters rfl (Nat.le_of_ble_eq_true rfl) dX12_least_146 (G12_enters_met C.2.2.2.2.2.2.2.1 (Nat.le_refl _)  h) (fun r0 μ45 hq => ?_)
        obtain ⟨rfl, h⟩ := hq
        refine x_st [] rfl ?_
        refine x_iload C 5 rfl dX12_least_149 ?_
        exact x_iret C hr dX12_least_151 ⟨_, rfl, h⟩
theorem G12_least_L106_ok {p : Program} {e : Env} {s : State} {m : MethodId} {args : Array Value} {below : List Frame} {meth : Method} {c : Code} {l : Launch} {φ : Nat → Nat} {tc : Nat → ClassId} {D : va_G} {s0 : State} {dR : Nat} (C : CX p s m args meth c φ tc D (AX φ) s0 cX12_least RX12 7) (hd : G12_least_dep ≤ dR) (hr : meth.sig.returnType = (some .int))  {p1 : Int32} {p2 : Int32} {p3 : Int32} {p4 : Int32} {p5 : Int32} {Q : Int32 → MM → Prop} {K49 : Int32 × MM → Prop} {x : Int32 × MM}   (hK49 : ∀ (z5 : Int32) (zμ : MM), K49 (z5, zμ) → WX p l e (rmX dR) s m args below meth c φ tc D (AX φ) 7 0 0 (MQ below (QX φ tc D (QI Q)) args s 0 0 (AX φ)) 49 [(0, .ref 358), (1, .int p1), (2, .int p2), (3, .int p3), (4, .int p4), (5, .int z5)] [] zμ) (h : Lp (G12_least_L106 p1 p2 p3 p4 p5 K49 Q) x) : WX p l e (rmX dR) s m args below meth c φ tc D (AX φ) 7 0 0 (MQ below (QX φ tc D (QI Q)) args s 0 0 (AX φ)) 106 [(0, .ref 358), (1, .int p1), (2, .int p2), (3, .int p3), (4, .int p4), (5, .int p5), (6, .int x.1)] [] x.2 := by
  obtain ⟨n, h⟩ := h
  induction n generalizing x with
  | zero => exact h.elim
  | succ n ih => exact G12_least_L106_b C hd hr  hK49 (fun z6 zμ hz => by have q := ih hz; exact q) h
set_option maxHeartbeats 4000000 in
set_option maxRecDepth 100000 in
theorem G12_least_L67_b {p : Program} {e : Env} {s : State} {m : MethodId} {args : Array Value} {below : List Frame} {meth : Method} {c : Code} {l : Launch} {φ : Nat → Nat} {tc : Nat → ClassId} {D : va_G} {s0 : State} {dR : Nat} (C : CX p s m args meth c φ tc D (AX φ) s0 cX12_least RX12 7) (hd : G12_least_dep ≤ dR) (hr : meth.sig.returnType = (some .int))  {p1 : Int32} {p2 : Int32} {p3 : Int32} {p4 : Int32} {p5 : Int32} {Q : Int32 → MM → Prop} {K49 : Int32 × MM → Prop} {K67 : Int32 × MM → Prop} {x : Int32 × MM}   (hK49 : ∀ (z5 : Int32) (zμ : MM), K49 (z5, zμ) → WX p l e (rmX dR) s m args below meth c φ tc D (AX φ) 7 0 0 (MQ below (QX φ tc D (QI Q)) args s 0 0 (AX φ)) 49 [(0, .ref 358), (1, .int p1), (2, .int p2), (3, .int p3), (4, .int p4), (5, .int z5)] [] zμ) (hK67 : ∀ (z6 : Int32) (zμ : MM), K67 (z6, zμ) → WX p l e (rmX dR) s m args below meth c φ tc D (AX φ) 7 0 0 (MQ below (QX φ tc D (QI Q)) args s 0 0 (AX φ)) 67 [(0, .ref 358), (1, .int p1), (2, .int p2), (3, .int p3), (4, .int p4), (5, .int p5), (6, .int z6)] [] zμ) (h : G12_least_L67 p1 p2 p3 p4 p5 K49 Q K67 x) : WX p l e (rmX dR) s m args below meth c φ tc D (AX φ) 7 0 0 (MQ below (QX φ tc D (QI Q)) args s 0 0 (AX φ)) 67 [(0, .ref 358), (1, .int p1), (2, .int p2), (3, .int p3), (4, .int p4), (5, .int p5), (6, .int x.1)] [] x.2 := by
  unfold G12_least_L67 at h
  refine x_iload C 6 rfl dX12_least_67 ?_
  refine x_bipush (v := 16) C (by decide) dX12_least_69 ?_
  refine x_icmp_gt (tgt := 95) C dX12_least_71 (by decide) (fun c36 => ?_) (fun c36 => ?_)
  · have h := h.1 c36
    refine x_aload_n C rfl 0 rfl dX12_least_95 ?_
    refine x_iload C 5 rfl dX12_least_96 ?_
    refine x_iload_n C rfl 2 rfl dX12_least_98 ?_
    refine x_iload_n C rfl 2 rfl dX12_least_99 ?_
    refine x_callV (dC := G12_chances_dep) (as := [.int p5, .int p2, .int p2]) (st := []) C rX kX (Nat.le_trans (Nat.le_of_ble_eq_true rfl) hd) (Nat.le_of_ble_eq_true rfl) ob358.1 ob358.2 (Nat.le_of_ble_eq_true rfl) rfl ts_11_5 tw_8_156 tw_8_154 tc_8_157 tw_1_13 hyX12 hnX12_chances rfl (Nat.le_of_ble_eq_true rfl) dX12_least_100 (G12_chances_met C.2.2.2.2.2.2.2.1 (Nat.le_refl _)  h) (fun r0 μ37 hq => ?_)
    obtain ⟨rfl, h⟩ := hq
    refine x_st [] rfl ?_
    refine x_iconst (v := 1) C (by decide) dX12_least_103 ?_
    refine x_istore C [(6, .int 1), (0, .ref 358), (1, .int p1), (2, .int p2), (3, .int p3), (4, .int p4), (5, .int p5)] (Nat.le_of_ble_eq_true rfl) rfl dX12_least_104 ?_
    refine x_sub [(0, .ref 358), (1, .int p1), (2, .int p2), (3, .int p3), (4, .int p4), (5, .int p5), (6, .int 1)] [1, 2, 3, 4, 5, 6, 0] rfl ?_
    exact G12_least_L106_ok C hd hr hK49 h
  · have h := h.2 c36
    refine x_aload_n C rfl 0 rfl dX12_least_74 ?_
    refine x_getR (r := 406) C (j := 67) ob358.1 ob358.2 (Nat.le_of_ble_eq_true rfl) (Nat.le_of_ble_eq_true rfl) (fun _ _ _ => rfl) r_358_67 tw_9_33 dX12_least_75 ?_
    refine x_iload C 6 rfl dX12_least_78 ?_
    refine x_aload_n C rfl 0 rfl dX12_least_80 ?_
    refine x_iload C 6 rfl dX12_least_81 ?_
    refine x_iload C 5 rfl dX12_least_83 ?_
    refine x_callV (dC := G12_chanceOf_dep) (as := [.int x.1, .int p5]) (st := [.int x.1, .ref 406]) C rX kX (Nat.le_trans (Nat.le_of_ble_eq_true rfl) hd) (Nat.le_of_ble_eq_true rfl) ob358.1 ob358.2 (Nat.le_of_ble_eq_true rfl) rfl ts_11_9 tw_8_175 tw_8_173 tc_8_176 tw_1_13 hyX12 hnX12_chanceOf rfl (Nat.le_of_ble_eq_true rfl) dX12_least_85 (G12_chanceOf_met C.2.2.2.2.2.2.2.1 (Nat.le_refl _)  h) (fun r0 μ46 hq => ?_)
    obtain ⟨r47, rfl, h⟩ := hq
    refine x_st [.int r47, .int x.1, .ref 406] rfl ?_
    obtain ⟨c48, h⟩ := h
    refine x_iast C ob406.1 ob406.2 c48 rfl dX12_least_88 ?_
    refine x_mu (fun μ49 e_μ49 => ?_)
    have h := h μ49 e_μ49
    refine x_iinc (v := (x.1 + 1)) C [(6, .int (x.1 + 1)), (0, .ref 358), (1, .int p1), (2, .int p2), (3, .int p3), (4, .int p4), (5, .int p5)] 6 rfl (congrArg (fun z => x.1 + z) (by decide : Int32.ofInt (1) = 1)) (Nat.le_of_ble_eq_true rfl) rfl dX12_least_89 ?_
    refine x_goto (tgt := 67) C dX12_least_92 (by decide) ?_
    refine x_sub [(0, .ref 358), (1, .int p1), (2, .int p2), (3, .int p3), (4, .int p4), (5, .int p5), (6, .int (x.1 + 1))] [1, 2, 3, 4, 5, 6, 0] rfl ?_
    exact hK67 _ _ h
theorem G12_least_L67_ok {p : Program} {e : Env} {s : State} {m : MethodId} {args : Array Value} {below : List Frame} {meth : Method} {c : Code} {l : Launch} {φ : Nat → Nat} {tc : Nat → ClassId} {D : va_G} {s0 : State} {dR : Nat} (C : CX p s m args meth c φ tc D (AX φ) s0 cX12_least RX12 7) (hd : G12_least_dep ≤ dR) (hr : meth.sig.returnType = (some .int))  {p1 : Int32} {p2 : Int32} {p3 : Int32} {p4 : Int32} {p5 : Int32} {Q : Int32 → MM → Prop} {K49 : Int32 × MM → Prop} {x : Int32 × MM}   (hK49 : ∀ (z5 : Int32) (zμ : MM), K49 (z5, zμ) → WX p l e (rmX dR) s m args below meth c φ tc D (AX φ) 7 0 0 (MQ below (QX φ tc D (QI Q)) args s 0 0 (AX φ)) 49 [(0, .ref 358), (1, .int p1), (2, .int p2), (3, .int p3), (4, .int p4), (5, .int z5)] [] zμ) (h : Lp (G12_least_L67 p1 p2 p3 p4 p5 K49 Q) x) : WX p l e (rmX dR) s m args below meth c φ tc D (AX φ) 7 0 0 (MQ below (QX φ tc D (QI Q)) args s 0 0 (AX φ)) 67 [(0, .ref 358), (1, .int p1), (2, .int p2), (3, .int p3), (4, .int p4), (5, .int p5), (6, .int x.1)] [] x.2 := by
  obtain ⟨n, h⟩ := h
  induction n generalizing x with
  | zero => exact h.elim
  | succ n ih => exact G12_least_L67_b C hd hr  hK49 (fun z6 zμ hz => by have q := ih hz; exact q) h
set_option maxHeartbeats 4000000 in
set_option maxRecDepth 100000 in
theorem G12_least_L49_b {p : Program} {e : Env} {s : State} {m : MethodId} {args : Array Value} {below : List Frame} {meth : Method} {c : Code} {l : Launch} {φ : Nat → Nat} {tc : Nat → ClassId} {D : va_G} {s0 : State} {dR : Nat} (C : CX p s m args meth c φ tc D (AX φ) s0 cX12_least RX12 7) (hd : G12_least_dep ≤ dR) (hr : meth.sig.returnType = (some .int))  {p1 : Int32} {p2 : Int32} {p3 : Int32} {p4 : Int32} {Q : Int32 → MM → Prop} {K49 : Int32 × MM → Prop} {x : Int32 × MM}   (hK49 : ∀ (z5 : Int32) (zμ : MM), K49 (z5, zμ) → WX p l e (rmX dR) s m args below meth c φ tc D (AX φ) 7 0 0 (MQ below (QX φ tc D (QI Q)) args s 0 0 (AX φ)) 49 [(0, .ref 358), (1, .int p1), (2, .int p2), (3, .int p3), (4, .int p4), (5, .int z5)] [] zμ) (h : G12_least_L49 p1 p2 p3 p4 Q K49 x) : WX p l e (rmX dR) s m args below meth c φ tc D (AX φ) 7 0 0 (MQ below (QX φ tc D (QI Q)) args s 0 0 (AX φ)) 49 [(0, .ref 358), (1, .int p1), (2, .int p2), (3, .int p3), (4, .int p4), (5, .int x.1)] [] x.2 := by
  unfold G12_least_L49 at h
  refine x_iload C 5 rfl dX12_least_49 ?_
  refine x_bipush (v := 16) C (by decide) dX12_least_51 ?_
  refine x_icmp_gt (tgt := 164) C dX12_least_53 (by decide) (fun c34 => ?_) (fun c34 => ?_)
  · have h := h.1 c34
    refine x_bipush (v := (-2)) C (by decide) dX12_least_164 ?_
    exact x_iret C hr dX12_least_166 ⟨_, rfl, h⟩
  · have h := h.2 c34
    refine x_aload_n C rfl 0 rfl dX12_least_56 ?_
    refine x_iload C 5 rfl dX12_least_57 ?_
    refine x_iload_n C rfl 1 rfl dX12_least_59 ?_
    refine x_iload_n C rfl 2 rfl dX12_least_60 ?_
    refine x_callV (dC := G12_chances_dep) (as := [.int x.1, .int p1, .int p2]) (st := []) C rX kX (Nat.le_trans (Nat.le_of_ble_eq_true rfl) hd) (Nat.le_of_ble_eq_true rfl) ob358.1 ob358.2 (Nat.le_of_ble_eq_true rfl) rfl ts_11_5 tw_8_156 tw_8_154 tc_8_157 tw_1_13 hyX12 hnX12_chances rfl (Nat.le_of_ble_eq_true rfl) dX12_least_61 (G12_chances_met C.2.2.2.2.2.2.2.1 (Nat.le_refl _)  h) (fun r0 μ35 hq => ?_)
    obtain ⟨rfl, h⟩ := hq
    refine x_st [] rfl ?_
    refine x_iconst (v := 1) C (by decide) dX12_least_64 ?_
    refine x_istore C [(6, .int 1), (0, .ref 358), (1, .int p1), (2, .int p2), (3, .int p3), (4, .int p4), (5, .int x.1)] (Nat.le_of_ble_eq_true rfl) rfl dX12_least_65 ?_
    refine x_sub [(0, .ref 358), (1, .int p1), (2, .int p2), (3, .int p3), (4, .int p4), (5, .int x.1), (6, .int 1)] [1, 2, 3, 4, 5, 6, 0] rfl ?_
    exact G12_least_L67_ok C hd hr hK49 h
theorem G12_least_L49_ok {p : Program} {e : Env} {s : State} {m : MethodId} {args : Array Value} {below : List Frame} {meth : Method} {c : Code} {l : Launch} {φ : Nat → Nat} {tc : Nat → ClassId} {D : va_G} {s0 : State} {dR : Nat} (C : CX p s m args meth c φ tc D (AX φ) s0 cX12_least RX12 7) (hd : G12_least_dep ≤ dR) (hr : meth.sig.returnType = (some .int))  {p1 : Int32} {p2 : Int32} {p3 : Int32} {p4 : Int32} {Q : Int32 → MM → Prop}  {x : Int32 × MM}    (h : Lp (G12_least_L49 p1 p2 p3 p4 Q) x) : WX p l e (rmX dR) s m args below meth c φ tc D (AX φ) 7 0 0 (MQ below (QX φ tc D (QI Q)) args s 0 0 (AX φ)) 49 [(0, .ref 358), (1, .int p1), (2, .int p2), (3, .int p3), (4, .int p4), (5, .int x.1)] [] x.2 := by
  obtain ⟨n, h⟩ := h
  induction n generalizing x with
  | zero => exact h.elim
  | succ n ih => exact G12_least_L49_b C hd hr   (fun z5 zμ hz => by have q := ih hz; exact q) h
set_option maxHeartbeats 4000000 in
set_option maxRecDepth 100000 in
theorem G12_least_met {l : Launch} {φ : Nat → Nat} {tc : Nat → ClassId} {D : va_G} {s0 : State} (hG : GX φ tc D s0) {dR : Nat} (hd : G12_least_dep ≤ dR) {v1 : Int32} {v2 : Int32} {v3 : Int32} {v4 : Int32} {μ : MM} {Q : Int32 → MM → Prop}  (h : G12_least v1 v2 v3 v4 μ Q) : MX l φ tc D s0 dR yX12_least cX12_least 7 (some .int) [.ref 358, .int v1, .int v2, .int v3, .int v4] μ (QI Q) := by
  refine MX.of (own := RX12) hG plX12 rfl (Nat.le_of_ble_eq_true rfl) (fun p e s m args below meth c C hr => ?_)
  refine x_sub [(0, .ref 358), (1, .int v1), (2, .int v2), (3, .int v3), (4, .int v4)] [0, 1, 2, 3, 4] rfl ?_
  unfold G12_least at h
  refine x_aload_n C rfl 0 rfl dX12_least_0 ?_
  refine x_iconst (v := 0) C (by decide) dX12_least_1 ?_
  refine x_putI C (j := 0) ob358.1 ob358.2 (Nat.le_of_ble_eq_true rfl) (Nat.le_of_ble_eq_true rfl) (Or.inl rfl) rfl rfl rfl tw_8_206 dX12_least_2 ?_
  refine x_mu (fun μ21 e_μ21 => ?_)
  have h := h μ21 e_μ21
  refine x_iload_n C rfl 1 rfl dX12_least_5 ?_
  refine x_callS (dC := G12_isPercent_dep) (as := [.int v1]) (st := []) C rX kX (Nat.le_trans (Nat.le_of_ble_eq_true rfl) hd) (Nat.le_of_ble_eq_true rfl) tw_8_152 tw_8_151 tc_8_153 tw_1_13 hyX12 hnX12_isPercent rfl (Nat.le_of_ble_eq_true rfl) dX12_least_6 (G12_isPercent_met C.2.2.2.2.2.2.2.1 (Nat.le_refl _)  h) (fun r0 μ22 hq => ?_)
  obtain ⟨r23, rfl, h⟩ := hq
  refine x_st [.int r23] rfl ?_
  refine x_if_eq (tgt := 44) C dX12_least_9 (by decide) (fun c24 => ?_) (fun c24 => ?_)
  · have h := h.1 c24
    refine x_iconst (v := (-1)) C (by decide) dX12_least_44 ?_
    exact x_iret C hr dX12_least_45 ⟨_, rfl, h⟩
  · have h := h.2 c24
    refine x_iload_n C rfl 2 rfl dX12_least_12 ?_
    refine x_callS (dC := G12_isPercent_dep) (as := [.int v2]) (st := []) C rX kX (Nat.le_trans (Nat.le_of_ble_eq_true rfl) hd) (Nat.le_of_ble_eq_true rfl) tw_8_152 tw_8_151 tc_8_153 tw_1_13 hyX12 hnX12_isPercent rfl (Nat.le_of_ble_eq_true rfl) dX12_least_13 (G12_isPercent_met C.2.2.2.2.2.2.2.1 (Nat.le_refl _)  h) (fun r0 μ25 hq => ?_)
    obtain ⟨r26, rfl, h⟩ := hq
    refine x_st [.int r26] rfl ?_
    refine x_if_eq (tgt := 44) C dX12_least_16 (by decide) (fun c27 => ?_) (fun c27 => ?_)
    · have h := h.1 c27
      refine x_iconst (v := (-1)) C (by decide) dX12_least_44 ?_
      exact x_iret C hr dX12_least_45 ⟨_, rfl, h⟩
    · have h := h.2 c27
      refine x_iload_n C rfl 3 rfl dX12_least_19 ?_
      refine x_i2l C dX12_least_20 ?_
      refine x_lconst (v := 1) C (by decide) dX12_least_21 ?_
      refine x_ldc2 (v := 1000000) C tw_8_57 dX12_least_22 ?_
      refine x_callS (dC := G12_in_dep) (as := [.long (v3.toInt64), .long 1, .long 1000000]) (st := []) C rX kX (Nat.le_trans (Nat.le_of_ble_eq_true rfl) hd) (Nat.le_of_ble_eq_true rfl) tw_6_183 tw_6_182 tc_6_184 tw_1_13 hyX12 hnX12_in rfl (Nat.le_of_ble_eq_true rfl) dX12_least_25 (G12_in_met C.2.2.2.2.2.2.2.1 (Nat.le_refl _)  h) (fun r0 μ28 hq => ?_)
      obtain ⟨r29, rfl, h⟩ := hq
      refine x_st [.int r29] rfl ?_
      refine x_if_eq (tgt := 44) C dX12_least_28 (by decide) (fun c30 => ?_) (fun c30 => ?_)
      · have h := h.1 c30
        refine x_iconst (v := (-1)) C (by decide) dX12_least_44 ?_
        exact x_iret C hr dX12_least_45 ⟨_, rfl, h⟩
      · have h := h.2 c30
        refine x_iload C 4 rfl dX12_least_31 ?_
        refine x_i2l C dX12_least_33 ?_
        refine x_lconst (v := 0) C (by decide) dX12_least_34 ?_
        refine x_ldc2 (v := 1000000) C tw_8_57 dX12_least_35 ?_
        refine x_callS (dC := G12_in_dep) (as := [.long (v4.toInt64), .long 0, .long 1000000]) (st := []) C rX kX (Nat.le_trans (Nat.le_of_ble_eq_true rfl) hd) (Nat.le_of_ble_eq_true rfl) tw_6_183 tw_6_182 tc_6_184 tw_1_13 hyX12 hnX12_in rfl (Nat.le_of_ble_eq_true rfl) dX12_least_38 (G12_in_met C.2.2.2.2.2.2.2.1 (Nat.le_refl _)  h) (fun r0 μ31 hq => ?_)
        obtain ⟨r32, rfl, h⟩ := hq
        refine x_st [.int r32] rfl ?_
        refine x_if_ne (tgt := 46) C dX12_least_41 (by decide) (fun c33 => ?_) (fun c33 => ?_)
        · have h := h.1 c33
          refine x_iconst (v := 1) C (by decide) dX12_least_46 ?_
          refine x_istore C [(5, .int 1), (0, .ref 358), (1, .int v1), (2, .int v2), (3, .int v3), (4, .int v4)] (Nat.le_of_ble_eq_true rfl) rfl dX12_least_47 ?_
          refine x_sub [(0, .ref 358), (1, .int v1), (2, .int v2), (3, .int v3), (4, .int v4), (5, .int 1)] [1, 2, 3, 4, 5, 0] rfl ?_
          exact G12_least_L49_ok C hd hr  h
        · have h := h.2 c33
          refine x_iconst (v := (-1)) C (by decide) dX12_least_44 ?_
          exact x_iret C hr dX12_least_45 ⟨_, rfl, h⟩
set_option maxHeartbeats 4000000 in
set_option maxRecDepth 100000 in
theorem G12_keep_L41_b {p : Program} {e : Env} {s : State} {m : MethodId} {args : Array Value} {below : List Frame} {meth : Method} {c : Code} {l : Launch} {φ : Nat → Nat} {tc : Nat → ClassId} {D : va_G} {s0 : State} {dR : Nat} (C : CX p s m args meth c φ tc D (AX φ) s0 cX12_keep RX12 3) (hd : G12_keep_dep ≤ dR) (hr : meth.sig.returnType = (some .boolean))  {p1 : Int32} {Q : Int32 → MM → Prop} {K41 : Int32 × MM → Prop} {x : Int32 × MM}   (hK41 : ∀ (z2 : Int32) (zμ : MM), K41 (z2, zμ) → WX p l e (rmX dR) s m args below meth c φ tc D (AX φ) 3 0 0 (MQ below (QX φ tc D (QI Q)) args s 0 0 (AX φ)) 41 [(0, .ref 358), (1, .int p1), (2, .int z2)] [] zμ) (h : G12_keep_L41 p1 Q K41 x) : WX p l e (rmX dR) s m args below meth c φ tc D (AX φ) 3 0 0 (MQ below (QX φ tc D (QI Q)) args s 0 0 (AX φ)) 41 [(0, .ref 358), (1, .int p1), (2, .int x.1)] [] x.2 := by
  unfold G12_keep_L41 at h
  refine x_iload_n C rfl 2 rfl dX12_keep_41 ?_
  refine x_aload_n C rfl 0 rfl dX12_keep_42 ?_
  refine x_getI C (j := 12) ob358.1 ob358.2 (Nat.le_of_ble_eq_true rfl) (Nat.le_of_ble_eq_true rfl) (Or.inl rfl) tw_8_218 dX12_keep_43 ?_
  refine x_icmp_ge (tgt := 96) C dX12_keep_46 (by decide) (fun c25 => ?_) (fun c25 => ?_)
  · have h := h.1 c25
    refine x_iconst (v := 1) C (by decide) dX12_keep_96 ?_
    exact x_zret C hr bo_1 dX12_keep_97 ⟨_, rfl, h⟩
  · have h := h.2 c25
    refine x_aload_n C rfl 0 rfl dX12_keep_49 ?_
    refine x_getR (r := 409) C (j := 70) ob358.1 ob358.2 (Nat.le_of_ble_eq_true rfl) (Nat.le_of_ble_eq_true rfl) (fun _ _ _ => rfl) r_358_70 tw_9_36 dX12_keep_50 ?_
    refine x_bipush (v := 96) C (by decide) dX12_keep_53 ?_
    refine x_iload_n C rfl 1 rfl dX12_keep_55 ?_
    refine x_imul C dX12_keep_56 ?_
    refine x_iload_n C rfl 2 rfl dX12_keep_57 ?_
    refine x_iadd C dX12_keep_58 ?_
    refine x_aload_n C rfl 0 rfl dX12_keep_59 ?_
    refine x_getR (r := 373) C (j := 19) ob358.1 ob358.2 (Nat.le_of_ble_eq_true rfl) (Nat.le_of_ble_eq_true rfl) (fun _ _ _ => rfl) r_358_19 tw_8_225 dX12_keep_60 ?_
    refine x_iload_n C rfl 2 rfl dX12_keep_63 ?_
    obtain ⟨c26, h⟩ := h
    refine x_zald C ob373.1 ob373.2 c26 rfl dX12_keep_64 ?_
    refine x_callS (dC := G12_flag_dep) (as := [.int (gI x.2 373 x.1.toNatClampNeg)]) (st := [.int ((96 * p1) + x.1), .ref 409]) C rX kX (Nat.le_trans (Nat.le_of_ble_eq_true rfl) hd) (Nat.le_of_ble_eq_true rfl) tw_6_212 tw_6_211 tc_6_213 tw_1_13 hyX12 hnX12_flag rfl (Nat.le_of_ble_eq_true rfl) dX12_keep_65 (G12_flag_met C.2.2.2.2.2.2.2.1 (Nat.le_refl _)  h) (fun r0 μ27 hq => ?_)
    obtain ⟨r28, rfl, h⟩ := hq
    refine x_st [.int r28, .int ((96 * p1) + x.1), .ref 409] rfl ?_
    refine x_iconst (v := 2) C (by decide) dX12_keep_68 ?_
    refine x_aload_n C rfl 0 rfl dX12_keep_69 ?_
    refine x_getR (r := 374) C (j := 20) ob358.1 ob358.2 (Nat.le_of_ble_eq_true rfl) (Nat.le_of_ble_eq_true rfl) (fun _ _ _ => rfl) r_358_20 tw_8_226 dX12_keep_70 ?_
    refine x_iload_n C rfl 2 rfl dX12_keep_73 ?_
    obtain ⟨c29, h⟩ := h
    refine x_zald C ob374.1 ob374.2 c29 rfl dX12_keep_74 ?_
    refine x_callS (dC := G12_flag_dep) (as := [.int (gI μ27 374 x.1.toNatClampNeg)]) (st := [.int 2, .int r28, .int ((96 * p1) + x.1), .ref 409]) C rX kX (Nat.le_trans (Nat.le_of_ble_eq_true rfl) hd) (Nat.le_of_ble_eq_true rfl) tw_6_212 tw_6_211 tc_6_213 tw_1_13 hyX12 hnX12_flag rfl (Nat.le_of_ble_eq_true rfl) dX12_keep_75 (G12_flag_met C.2.2.2.2.2.2.2.1 (Nat.le_refl _)  h) (fun r0 μ30 hq => ?_)
    obtain ⟨r31, rfl, h⟩ := hq
    refine x_st [.int r31, .int 2, .int r28, .int ((96 * p1) + x.1), .ref 409] rfl ?_
    refine x_imul C dX12_keep_78 ?_
    refine x_iadd C dX12_keep_79 ?_
    refine x_iconst (v := 4) C (by decide) dX12_keep_80 ?_
    refine x_aload_n C rfl 0 rfl dX12_keep_81 ?_
    refine x_getR (r := 375) C (j := 21) ob358.1 ob358.2 (Nat.le_of_ble_eq_true rfl) (Nat.le_of_ble_eq_true rfl) (fun _ _ _ => rfl) r_358_21 tw_8_227 dX12_keep_82 ?_
    refine x_iload_n C rfl 2 rfl dX12_keep_85 ?_
    obtain ⟨c32, h⟩ := h
    refine x_iald C ob375.1 ob375.2 c32 rfl dX12_keep_86 ?_
    refine x_imul C dX12_keep_87 ?_
    refine x_iadd C dX12_keep_88 ?_
    obtain ⟨c33, h⟩ := h
    refine x_iast C ob409.1 ob409.2 c33 rfl dX12_keep_89 ?_
    refine x_mu (fun μ34 e_μ34 => ?_)
    have h := h μ34 e_μ34
    refine x_iinc (v := (x.1 + 1)) C [(2, .int (x.1 + 1)), (0, .ref 358), (1, .int p1)] 2 rfl (congrArg (fun z => x.1 + z) (by decide : Int32.ofInt (1) = 1)) (Nat.le_of_ble_eq_true rfl) rfl dX12_keep_90 ?_
    refine x_goto (tgt := 41) C dX12_keep_93 (by decide) ?_
    refine x_sub [(0, .ref 358), (1, .int p1), (2, .int (x.1 + 1))] [1, 2, 0] rfl ?_
    exact hK41 _ _ h
theorem G12_keep_L41_ok {p : Program} {e : Env} {s : State} {m : MethodId} {args : Array Value} {below : List Frame} {meth : Method} {c : Code} {l : Launch} {φ : Nat → Nat} {tc : Nat → ClassId} {D : va_G} {s0 : State} {dR : Nat} (C : CX p s m args meth c φ tc D (AX φ) s0 cX12_keep RX12 3) (hd : G12_keep_dep ≤ dR) (hr : meth.sig.returnType = (some .boolean))  {p1 : Int32} {Q : Int32 → MM → Prop}  {x : Int32 × MM}    (h : Lp (G12_keep_L41 p1 Q) x) : WX p l e (rmX dR) s m args below meth c φ tc D (AX φ) 3 0 0 (MQ below (QX φ tc D (QI Q)) args s 0 0 (AX φ)) 41 [(0, .ref 358), (1, .int p1), (2, .int x.1)] [] x.2 := by
  obtain ⟨n, h⟩ := h
  induction n generalizing x with
  | zero => exact h.elim
  | succ n ih => exact G12_keep_L41_b C hd hr   (fun z2 zμ hz => by have q := ih hz; exact q) h
set_option maxHeartbeats 4000000 in
set_option maxRecDepth 100000 in
theorem G12_keep_met {l : Launch} {φ : Nat → Nat} {tc : Nat → ClassId} {D : va_G} {s0 : State} (hG : GX φ tc D s0) {dR : Nat} (hd : G12_keep_dep ≤ dR) {v1 : Int32} {μ : MM} {Q : Int32 → MM → Prop}  (h : G12_keep v1 μ Q) : MX l φ tc D s0 dR yX12_keep cX12_keep 3 (some .boolean) [.ref 358, .int v1] μ (QI Q) := by
  refine MX.of (own := RX12) hG plX12 rfl (Nat.le_of_ble_eq_true rfl) (fun p e s m args below meth c C hr => ?_)
  refine x_sub [(0, .ref 358), (1, .int v1)] [0, 1] rfl ?_
  unfold G12_keep at h
  refine x_aload_n C rfl 0 rfl dX12_keep_0 ?_
  refine x_iconst (v := 0) C (by decide) dX12_keep_1 ?_
  refine x_putI C (j := 0) ob358.1 ob358.2 (Nat.le_of_ble_eq_true rfl) (Nat.le_of_ble_eq_true rfl) (Or.inl rfl) rfl rfl rfl tw_8_206 dX12_keep_2 ?_
  refine x_mu (fun μ17 e_μ17 => ?_)
  have h := h μ17 e_μ17
  refine x_iload_n C rfl 1 rfl dX12_keep_5 ?_
  refine x_i2l C dX12_keep_6 ?_
  refine x_lconst (v := 0) C (by decide) dX12_keep_7 ?_
  refine x_ldc2 (v := 2) C tw_7_127 dX12_keep_8 ?_
  refine x_callS (dC := G12_in_dep) (as := [.long (v1.toInt64), .long 0, .long 2]) (st := []) C rX kX (Nat.le_trans (Nat.le_of_ble_eq_true rfl) hd) (Nat.le_of_ble_eq_true rfl) tw_6_183 tw_6_182 tc_6_184 tw_1_13 hyX12 hnX12_in rfl (Nat.le_of_ble_eq_true rfl) dX12_keep_11 (G12_in_met C.2.2.2.2.2.2.2.1 (Nat.le_refl _)  h) (fun r0 μ18 hq => ?_)
  obtain ⟨r19, rfl, h⟩ := hq
  refine x_st [.int r19] rfl ?_
  refine x_if_ne (tgt := 19) C dX12_keep_14 (by decide) (fun c20 => ?_) (fun c20 => ?_)
  · have h := h.1 c20
    refine x_aload_n C rfl 0 rfl dX12_keep_19 ?_
    refine x_getR (r := 407) C (j := 68) ob358.1 ob358.2 (Nat.le_of_ble_eq_true rfl) (Nat.le_of_ble_eq_true rfl) (fun _ _ _ => rfl) r_358_68 tw_9_34 dX12_keep_20 ?_
    refine x_iload_n C rfl 1 rfl dX12_keep_23 ?_
    refine x_aload_n C rfl 0 rfl dX12_keep_24 ?_
    refine x_getI C (j := 12) ob358.1 ob358.2 (Nat.le_of_ble_eq_true rfl) (Nat.le_of_ble_eq_true rfl) (Or.inl rfl) tw_8_218 dX12_keep_25 ?_
    obtain ⟨c21, h⟩ := h
    refine x_iast C ob407.1 ob407.2 c21 rfl dX12_keep_28 ?_
    refine x_mu (fun μ22 e_μ22 => ?_)
    have h := h μ22 e_μ22
    refine x_aload_n C rfl 0 rfl dX12_keep_29 ?_
    refine x_getR (r := 408) C (j := 69) ob358.1 ob358.2 (Nat.le_of_ble_eq_true rfl) (Nat.le_of_ble_eq_true rfl) (fun _ _ _ => rfl) r_358_69 tw_9_35 dX12_keep_30 ?_
    refine x_iload_n C rfl 1 rfl dX12_keep_33 ?_
    refine x_aload_n C rfl 0 rfl dX12_keep_34 ?_
    refine x_getI C (j := 22) ob358.1 ob358.2 (Nat.le_of_ble_eq_true rfl) (Nat.le_of_ble_eq_true rfl) (Or.inl rfl) tw_8_228 dX12_keep_35 ?_
    obtain ⟨c23, h⟩ := h
    refine x_iast C ob408.1 ob408.2 c23 rfl dX12_keep_38 ?_
    refine x_mu (fun μ24 e_μ24 => ?_)
    have h := h μ24 e_μ24
    refine x_iconst (v := 0) C (by decide) dX12_keep_39 ?_
    refine x_istore_n C [(2, .int 0), (0, .ref 358), (1, .int v1)] rfl (Nat.le_of_ble_eq_true rfl) rfl dX12_keep_40 ?_
    refine x_sub [(0, .ref 358), (1, .int v1), (2, .int 0)] [1, 2, 0] rfl ?_
    exact G12_keep_L41_ok C hd hr  h
  · have h := h.2 c20
    refine x_iconst (v := 0) C (by decide) dX12_keep_17 ?_
    exact x_zret C hr bo_0 dX12_keep_18 ⟨_, rfl, h⟩
set_option maxHeartbeats 4000000 in
set_option maxRecDepth 100000 in
theorem G12_again_L68_b {p : Program} {e : Env} {s : State} {m : MethodId} {args : Array Value} {below : List Frame} {meth : Method} {c : Code} {l : Launch} {φ : Nat → Nat} {tc : Nat → ClassId} {D : va_G} {s0 : State} {dR : Nat} (C : CX p s m args meth c φ tc D (AX φ) s0 cX12_again RX12 4) (hd : G12_again_dep ≤ dR) (hr : meth.sig.returnType = (some .boolean))  {p1 : Int32} {Q : Int32 → MM → Prop} {K68 : Int32 × MM → Prop} {x : Int32 × MM}   (hK68 : ∀ (z2 : Int32) (zμ : MM), K68 (z2, zμ) → WX p l e (rmX dR) s m args below meth c φ tc D (AX φ) 4 0 0 (MQ below (QX φ tc D (QI Q)) args s 0 0 (AX φ)) 68 [(0, .ref 358), (1, .int p1), (2, .int z2)] [] zμ) (h : G12_again_L68 p1 Q K68 x) : WX p l e (rmX dR) s m args below meth c φ tc D (AX φ) 4 0 0 (MQ below (QX φ tc D (QI Q)) args s 0 0 (AX φ)) 68 [(0, .ref 358), (1, .int p1), (2, .int x.1)] [] x.2 := by
  unfold G12_again_L68 at h
  refine x_iload_n C rfl 2 rfl dX12_again_68 ?_
  refine x_aload_n C rfl 0 rfl dX12_again_69 ?_
  refine x_getI C (j := 12) ob358.1 ob358.2 (Nat.le_of_ble_eq_true rfl) (Nat.le_of_ble_eq_true rfl) (Or.inl rfl) tw_8_218 dX12_again_70 ?_
  refine x_icmp_ge (tgt := 125) C dX12_again_73 (by decide) (fun c36 => ?_) (fun c36 => ?_)
  · have h := h.1 c36
    refine x_iconst (v := 1) C (by decide) dX12_again_125 ?_
    exact x_zret C hr bo_1 dX12_again_126 ⟨_, rfl, h⟩
  · have h := h.2 c36
    refine x_aload_n C rfl 0 rfl dX12_again_76 ?_
    refine x_getR (r := 409) C (j := 70) ob358.1 ob358.2 (Nat.le_of_ble_eq_true rfl) (Nat.le_of_ble_eq_true rfl) (fun _ _ _ => rfl) r_358_70 tw_9_36 dX12_again_77 ?_
    refine x_bipush (v := 96) C (by decide) dX12_again_80 ?_
    refine x_iload_n C rfl 1 rfl dX12_again_82 ?_
    refine x_imul C dX12_again_83 ?_
    refine x_iload_n C rfl 2 rfl dX12_again_84 ?_
    refine x_iadd C dX12_again_85 ?_
    obtain ⟨c37, h⟩ := h
    refine x_iald C ob409.1 ob409.2 c37 rfl dX12_again_86 ?_
    refine x_topi (fun y38 e_y38 => ?_)
    have h := h y38 e_y38
    refine x_istore_n C [(3, .int y38), (0, .ref 358), (1, .int p1), (2, .int x.1)] rfl (Nat.le_of_ble_eq_true rfl) rfl dX12_again_87 ?_
    refine x_aload_n C rfl 1 rfl dX12_again_88 ?_
    refine x_getR (r := 373) C (j := 19) ob358.1 ob358.2 (Nat.le_of_ble_eq_true rfl) (Nat.le_of_ble_eq_true rfl) (fun _ _ _ => rfl) r_358_19 tw_8_225 dX12_again_89 ?_
    refine x_iload_n C rfl 3 rfl dX12_again_92 ?_
    refine x_iload_n C rfl 0 rfl dX12_again_93 ?_
    refine x_iconst (v := 0) C (by decide) dX12_again_94 ?_
    refine x_callS (dC := G12_has_dep) (as := [.int y38, .int 0]) (st := [.int x.1, .ref 373]) C rX kX (Nat.le_trans (Nat.le_of_ble_eq_true rfl) hd) (Nat.le_of_ble_eq_true rfl) tw_7_203 tw_7_202 tc_7_204 tw_1_13 hyX12 hnX12_has rfl (Nat.le_of_ble_eq_true rfl) dX12_again_95 (G12_has_met C.2.2.2.2.2.2.2.1 (Nat.le_refl _)  h) (fun r0 μ39 hq => ?_)
    obtain ⟨r40, rfl, h⟩ := hq
    refine x_st [.int r40, .int x.1, .ref 373] rfl ?_
    obtain ⟨c41, h⟩ := h
    refine x_zast C ob373.1 ob373.2 c41 rfl dX12_again_98 ?_
    refine x_mu (fun μ42 e_μ42 => ?_)
    have h := h μ42 e_μ42
    refine x_aload_n C rfl 1 rfl dX12_again_99 ?_
    refine x_getR (r := 374) C (j := 20) ob358.1 ob358.2 (Nat.le_of_ble_eq_true rfl) (Nat.le_of_ble_eq_true rfl) (fun _ _ _ => rfl) r_358_20 tw_8_226 dX12_again_100 ?_
    refine x_iload_n C rfl 3 rfl dX12_again_103 ?_
    refine x_iload_n C rfl 0 rfl dX12_again_104 ?_
    refine x_iconst (v := 1) C (by decide) dX12_again_105 ?_
    refine x_callS (dC := G12_has_dep) (as := [.int y38, .int 1]) (st := [.int x.1, .ref 374]) C rX kX (Nat.le_trans (Nat.le_of_ble_eq_true rfl) hd) (Nat.le_of_ble_eq_true rfl) tw_7_203 tw_7_202 tc_7_204 tw_1_13 hyX12 hnX12_has rfl (Nat.le_of_ble_eq_true rfl) dX12_again_106 (G12_has_met C.2.2.2.2.2.2.2.1 (Nat.le_refl _)  h) (fun r0 μ43 hq => ?_)
    obtain ⟨r44, rfl, h⟩ := hq
    refine x_st [.int r44, .int x.1, .ref 374] rfl ?_
    obtain ⟨c45, h⟩ := h
    refine x_zast C ob374.1 ob374.2 c45 rfl dX12_again_109 ?_
    refine x_mu (fun μ46 e_μ46 => ?_)
    have h := h μ46 e_μ46
    refine x_aload_n C rfl 1 rfl dX12_again_110 ?_
    refine x_getR (r := 375) C (j := 21) ob358.1 ob358.2 (Nat.le_of_ble_eq_true rfl) (Nat.le_of_ble_eq_true rfl) (fun _ _ _ => rfl) r_358_21 tw_8_227 dX12_again_111 ?_
    refine x_iload_n C rfl 3 rfl dX12_again_114 ?_
    refine x_iload_n C rfl 0 rfl dX12_again_115 ?_
    refine x_iconst (v := 2) C (by decide) dX12_again_116 ?_
    refine x_ishr C dX12_again_117 ?_
    obtain ⟨c47, h⟩ := h
    refine x_iast C ob375.1 ob375.2 c47 rfl dX12_again_118 ?_
    refine x_mu (fun μ48 e_μ48 => ?_)
    have h := h μ48 e_μ48
    refine x_iinc (v := (x.1 + 1)) C [(2, .int (x.1 + 1)), (3, .int y38), (0, .ref 358), (1, .int p1)] 3 rfl (congrArg (fun z => x.1 + z) (by decide : Int32.ofInt (1) = 1)) (Nat.le_of_ble_eq_true rfl) rfl dX12_again_119 ?_
    refine x_goto (tgt := 68) C dX12_again_122 (by decide) ?_
    refine x_sub [(0, .ref 358), (1, .int p1), (2, .int (x.1 + 1))] [2, 3, 0] rfl ?_
    exact hK68 _ _ h
theorem G12_again_L68_ok {p : Program} {e : Env} {s : State} {m : MethodId} {args : Array Value} {below : List Frame} {meth : Method} {c : Code} {l : Launch} {φ : Nat → Nat} {tc : Nat → ClassId} {D : va_G} {s0 : State} {dR : Nat} (C : CX p s m args meth c φ tc D (AX φ) s0 cX12_again RX12 4) (hd : G12_again_dep ≤ dR) (hr : meth.sig.returnType = (some .boolean))  {p1 : Int32} {Q : Int32 → MM → Prop}  {x : Int32 × MM}    (h : Lp (G12_again_L68 p1 Q) x) : WX p l e (rmX dR) s m args below meth c φ tc D (AX φ) 4 0 0 (MQ below (QX φ tc D (QI Q)) args s 0 0 (AX φ)) 68 [(0, .ref 358), (1, .int p1), (2, .int x.1)] [] x.2 := by
  obtain ⟨n, h⟩ := h
  induction n generalizing x with
  | zero => exact h.elim
  | succ n ih => exact G12_again_L68_b C hd hr   (fun z2 zμ hz => by have q := ih hz; exact q) h
set_option maxHeartbeats 4000000 in
set_option maxRecDepth 100000 in
theorem G12_again_met {l : Launch} {φ : Nat → Nat} {tc : Nat → ClassId} {D : va_G} {s0 : State} (hG : GX φ tc D s0) {dR : Nat} (hd : G12_again_dep ≤ dR) {v1 : Int32} {μ : MM} {Q : Int32 → MM → Prop}  (h : G12_again v1 μ Q) : MX l φ tc D s0 dR yX12_again cX12_again 4 (some .boolean) [.ref 358, .int v1] μ (QI Q) := by
  refine MX.of (own := RX12) hG plX12 rfl (Nat.le_of_ble_eq_true rfl) (fun p e s m args below meth c C hr => ?_)
  refine x_sub [(0, .ref 358), (1, .int v1)] [0, 1] rfl ?_
  unfold G12_again at h
  refine x_aload_n C rfl 0 rfl dX12_again_0 ?_
  refine x_iconst (v := 0) C (by decide) dX12_again_1 ?_
  refine x_putI C (j := 0) ob358.1 ob358.2 (Nat.le_of_ble_eq_true rfl) (Nat.le_of_ble_eq_true rfl) (Or.inl rfl) rfl rfl rfl tw_8_206 dX12_again_2 ?_
  refine x_mu (fun μ23 e_μ23 => ?_)
  have h := h μ23 e_μ23
  refine x_iload_n C rfl 1 rfl dX12_again_5 ?_
  refine x_i2l C dX12_again_6 ?_
  refine x_lconst (v := 0) C (by decide) dX12_again_7 ?_
  refine x_ldc2 (v := 2) C tw_7_127 dX12_again_8 ?_
  refine x_callS (dC := G12_in_dep) (as := [.long (v1.toInt64), .long 0, .long 2]) (st := []) C rX kX (Nat.le_trans (Nat.le_of_ble_eq_true rfl) hd) (Nat.le_of_ble_eq_true rfl) tw_6_183 tw_6_182 tc_6_184 tw_1_13 hyX12 hnX12_in rfl (Nat.le_of_ble_eq_true rfl) dX12_again_11 (G12_in_met C.2.2.2.2.2.2.2.1 (Nat.le_refl _)  h) (fun r0 μ24 hq => ?_)
  obtain ⟨r25, rfl, h⟩ := hq
  refine x_st [.int r25] rfl ?_
  refine x_if_eq (tgt := 39) C dX12_again_14 (by decide) (fun c26 => ?_) (fun c26 => ?_)
  · have h := h.1 c26
    refine x_iconst (v := 0) C (by decide) dX12_again_39 ?_
    exact x_zret C hr bo_0 dX12_again_40 ⟨_, rfl, h⟩
  · have h := h.2 c26
    refine x_aload_n C rfl 0 rfl dX12_again_17 ?_
    refine x_getR (r := 407) C (j := 68) ob358.1 ob358.2 (Nat.le_of_ble_eq_true rfl) (Nat.le_of_ble_eq_true rfl) (fun _ _ _ => rfl) r_358_68 tw_9_34 dX12_again_18 ?_
    refine x_iload_n C rfl 1 rfl dX12_again_21 ?_
    obtain ⟨c27, h⟩ := h
    refine x_iald C ob407.1 ob407.2 c27 rfl dX12_again_22 ?_
    refine x_if_lt (tgt := 39) C dX12_again_23 (by decide) (fun c28 => ?_) (fun c28 => ?_)
    · have h := h.1 c28
      refine x_iconst (v := 0) C (by decide) dX12_again_39 ?_
      exact x_zret C hr bo_0 dX12_again_40 ⟨_, rfl, h⟩
    · have h := h.2 c28
      refine x_aload_n C rfl 0 rfl dX12_again_26 ?_
      refine x_getR (r := 407) C (j := 68) ob358.1 ob358.2 (Nat.le_of_ble_eq_true rfl) (Nat.le_of_ble_eq_true rfl) (fun _ _ _ => rfl) r_358_68 tw_9_34 dX12_again_27 ?_
      refine x_iload_n C rfl 1 rfl dX12_again_30 ?_
      obtain ⟨c29, h⟩ := h
      refine x_iald C ob407.1 ob407.2 c29 rfl dX12_again_31 ?_
      refine x_aload_n C rfl 0 rfl dX12_again_32 ?_
      refine x_getI C (j := 12) ob358.1 ob358.2 (Nat.le_of_ble_eq_true rfl) (Nat.le_of_ble_eq_true rfl) (Or.inl rfl) tw_8_218 dX12_again_33 ?_
      refine x_icmp_le (tgt := 41) C dX12_again_36 (by decide) (fun c30 => ?_) (fun c30 => ?_)
      · have h := h.1 c30
        refine x_aload_n C rfl 0 rfl dX12_again_41 ?_
        refine x_aload_n C rfl 0 rfl dX12_again_42 ?_
        refine x_getR (r := 407) C (j := 68) ob358.1 ob358.2 (Nat.le_of_ble_eq_true rfl) (Nat.le_of_ble_eq_true rfl) (fun _ _ _ => rfl) r_358_68 tw_9_34 dX12_again_43 ?_
        refine x_iload_n C rfl 1 rfl dX12_again_46 ?_
        obtain ⟨c31, h⟩ := h
        refine x_iald C ob407.1 ob407.2 c31 rfl dX12_again_47 ?_
        refine x_putI C (j := 12) ob358.1 ob358.2 (Nat.le_of_ble_eq_true rfl) (Nat.le_of_ble_eq_true rfl) (Or.inl rfl) rfl rfl rfl tw_8_218 dX12_again_48 ?_
        refine x_mu (fun μ32 e_μ32 => ?_)
        have h := h μ32 e_μ32
        refine x_aload_n C rfl 0 rfl dX12_again_51 ?_
        refine x_aload_n C rfl 0 rfl dX12_again_52 ?_
        refine x_getR (r := 408) C (j := 69) ob358.1 ob358.2 (Nat.le_of_ble_eq_true rfl) (Nat.le_of_ble_eq_true rfl) (fun _ _ _ => rfl) r_358_69 tw_9_35 dX12_again_53 ?_
        refine x_iload_n C rfl 1 rfl dX12_again_56 ?_
        obtain ⟨c33, h⟩ := h
        refine x_iald C ob408.1 ob408.2 c33 rfl dX12_again_57 ?_
        refine x_putI C (j := 22) ob358.1 ob358.2 (Nat.le_of_ble_eq_true rfl) (Nat.le_of_ble_eq_true rfl) (Or.inl rfl) rfl rfl rfl tw_8_228 dX12_again_58 ?_
        refine x_mu (fun μ34 e_μ34 => ?_)
        have h := h μ34 e_μ34
        refine x_aload_n C rfl 0 rfl dX12_again_61 ?_
        refine x_iconst (v := 0) C (by decide) dX12_again_62 ?_
        refine x_putI C (j := 61) ob358.1 ob358.2 (Nat.le_of_ble_eq_true rfl) (Nat.le_of_ble_eq_true rfl) (Or.inl rfl) rfl rfl rfl tw_9_27 dX12_again_63 ?_
        refine x_mu (fun μ35 e_μ35 => ?_)
        have h := h μ35 e_μ35
        refine x_iconst (v := 0) C (by decide) dX12_again_66 ?_
        refine x_istore_n C [(2, .int 0), (0, .ref 358), (1, .int v1)] rfl (Nat.le_of_ble_eq_true rfl) rfl dX12_again_67 ?_
        refine x_sub [(0, .ref 358), (1, .int v1), (2, .int 0)] [1, 2, 0] rfl ?_
        exact G12_again_L68_ok C hd hr  h
      · have h := h.2 c30
        refine x_iconst (v := 0) C (by decide) dX12_again_39 ?_
        exact x_zret C hr bo_0 dX12_again_40 ⟨_, rfl, h⟩
set_option maxHeartbeats 4000000 in
set_option maxRecDepth 100000 in
theorem G12_toldBits_L4_b {p : Program} {e : Env} {s : State} {m : MethodId} {args : Array Value} {below : List Frame} {meth : Method} {c : Code} {l : Launch} {φ : Nat → Nat} {tc : Nat → ClassId} {D : va_G} {s0 : State} {dR : Nat} (C : CX p s m args meth c φ tc D (AX φ) s0 cX12_toldBits RX12 4) (hd : G12_toldBits_dep ≤ dR) (hr : meth.sig.returnType = (some .int))  {p1 : Int32} {Q : Int32 → MM → Prop} {K4 : Int32 × Int32 × MM → Prop} {x : Int32 × Int32 × MM}   (hK4 : ∀ (z2 : Int32) (z3 : Int32) (zμ : MM), K4 (z2, z3, zμ) → WX p l e (rmX dR) s m args below meth c φ tc D (AX φ) 4 0 0 (MQ below (QX φ tc D (QI Q)) args s 0 0 (AX φ)) 4 [(0, .ref 358), (1, .int p1), (2, .int z2), (3, .int z3)] [] zμ) (h : G12_toldBits_L4 p1 Q K4 x) : WX p l e (rmX dR) s m args below meth c φ tc D (AX φ) 4 0 0 (MQ below (QX φ tc D (QI Q)) args s 0 0 (AX φ)) 4 [(0, .ref 358), (1, .int p1), (2, .int x.1), (3, .int x.2.1)] [] x.2.2 := by
  unfold G12_toldBits_L4 at h
  refine x_iload_n C rfl 3 rfl dX12_toldBits_4 ?_
  refine x_bipush (v := 6) C (by decide) dX12_toldBits_5 ?_
  refine x_icmp_ge (tgt := 37) C dX12_toldBits_7 (by decide) (fun c4 => ?_) (fun c4 => ?_)
  · have h := h.1 c4
    refine x_iload_n C rfl 2 rfl dX12_toldBits_37 ?_
    exact x_iret C hr dX12_toldBits_38 ⟨_, rfl, h⟩
  · have h := h.2 c4
    refine x_iload_n C rfl 2 rfl dX12_toldBits_10 ?_
    refine x_aload_n C rfl 0 rfl dX12_toldBits_11 ?_
    refine x_getR (r := 378) C (j := 25) ob358.1 ob358.2 (Nat.le_of_ble_eq_true rfl) (Nat.le_of_ble_eq_true rfl) (fun _ _ _ => rfl) r_358_25 tw_8_231 dX12_toldBits_12 ?_
    refine x_iload_n C rfl 1 rfl dX12_toldBits_15 ?_
    refine x_iload_n C rfl 3 rfl dX12_toldBits_16 ?_
    refine x_iadd C dX12_toldBits_17 ?_
    obtain ⟨c5, h⟩ := h
    refine x_iald C ob378.1 ob378.2 c5 rfl dX12_toldBits_18 ?_
    refine x_if_le (tgt := 28) C dX12_toldBits_19 (by decide) (fun c6 => ?_) (fun c6 => ?_)
    · have h := h.1 c6
      refine x_iconst (v := 0) C (by decide) dX12_toldBits_28 ?_
      refine x_ior C dX12_toldBits_29 ?_
      refine x_topi (fun y7 e_y7 => ?_)
      have h := h y7 e_y7
      refine x_istore_n C [(2, .int y7), (0, .ref 358), (1, .int p1), (3, .int x.2.1)] rfl (Nat.le_of_ble_eq_true rfl) rfl dX12_toldBits_30 ?_
      refine x_iinc (v := (x.2.1 + 1)) C [(3, .int (x.2.1 + 1)), (2, .int y7), (0, .ref 358), (1, .int p1)] 3 rfl (congrArg (fun z => x.2.1 + z) (by decide : Int32.ofInt (1) = 1)) (Nat.le_of_ble_eq_true rfl) rfl dX12_toldBits_31 ?_
      refine x_goto (tgt := 4) C dX12_toldBits_34 (by decide) ?_
      refine x_sub [(0, .ref 358), (1, .int p1), (2, .int y7), (3, .int (x.2.1 + 1))] [2, 3, 1, 0] rfl ?_
      exact hK4 _ _ _ h
    · have h := h.2 c6
      refine x_iconst (v := 1) C (by decide) dX12_toldBits_22 ?_
      refine x_iload_n C rfl 3 rfl dX12_toldBits_23 ?_
      refine x_ishl C dX12_toldBits_24 ?_
      refine x_goto (tgt := 29) C dX12_toldBits_25 (by decide) ?_
      refine x_ior C dX12_toldBits_29 ?_
      refine x_topi (fun y8 e_y8 => ?_)
      have h := h y8 e_y8
      refine x_istore_n C [(2, .int y8), (0, .ref 358), (1, .int p1), (3, .int x.2.1)] rfl (Nat.le_of_ble_eq_true rfl) rfl dX12_toldBits_30 ?_
      refine x_iinc (v := (x.2.1 + 1)) C [(3, .int (x.2.1 + 1)), (2, .int y8), (0, .ref 358), (1, .int p1)] 3 rfl (congrArg (fun z => x.2.1 + z) (by decide : Int32.ofInt (1) = 1)) (Nat.le_of_ble_eq_true rfl) rfl dX12_toldBits_31 ?_
      refine x_goto (tgt := 4) C dX12_toldBits_34 (by decide) ?_
      refine x_sub [(0, .ref 358), (1, .int p1), (2, .int y8), (3, .int (x.2.1 + 1))] [2, 3, 1, 0] rfl ?_
      exact hK4 _ _ _ h
theorem G12_toldBits_L4_ok {p : Program} {e : Env} {s : State} {m : MethodId} {args : Array Value} {below : List Frame} {meth : Method} {c : Code} {l : Launch} {φ : Nat → Nat} {tc : Nat → ClassId} {D : va_G} {s0 : State} {dR : Nat} (C : CX p s m args meth c φ tc D (AX φ) s0 cX12_toldBits RX12 4) (hd : G12_toldBits_dep ≤ dR) (hr : meth.sig.returnType = (some .int))  {p1 : Int32} {Q : Int32 → MM → Prop}  {x : Int32 × Int32 × MM}    (h : Lp (G12_toldBits_L4 p1 Q) x) : WX p l e (rmX dR) s m args below meth c φ tc D (AX φ) 4 0 0 (MQ below (QX φ tc D (QI Q)) args s 0 0 (AX φ)) 4 [(0, .ref 358), (1, .int p1), (2, .int x.1), (3, .int x.2.1)] [] x.2.2 := by
  obtain ⟨n, h⟩ := h
  induction n generalizing x with
  | zero => exact h.elim
  | succ n ih => exact G12_toldBits_L4_b C hd hr   (fun z2 z3 zμ hz => by have q := ih hz; exact q) h
set_option maxHeartbeats 4000000 in
set_option maxRecDepth 100000 in
theorem G12_toldBits_met {l : Launch} {φ : Nat → Nat} {tc : Nat → ClassId} {D : va_G} {s0 : State} (hG : GX φ tc D s0) {dR : Nat} (hd : G12_toldBits_dep ≤ dR) {v1 : Int32} {μ : MM} {Q : Int32 → MM → Prop}  (h : G12_toldBits v1 μ Q) : MX l φ tc D s0 dR yX12_toldBits cX12_toldBits 4 (some .int) [.ref 358, .int v1] μ (QI Q) := by
  refine MX.of (own := RX12) hG plX12 rfl (Nat.le_of_ble_eq_true rfl) (fun p e s m args below meth c C hr => ?_)
  refine x_sub [(0, .ref 358), (1, .int v1)] [0, 1] rfl ?_
  unfold G12_toldBits at h
  refine x_iconst (v := 0) C (by decide) dX12_toldBits_0 ?_
  refine x_istore_n C [(2, .int 0), (0, .ref 358), (1, .int v1)] rfl (Nat.le_of_ble_eq_true rfl) rfl dX12_toldBits_1 ?_
  refine x_iconst (v := 0) C (by decide) dX12_toldBits_2 ?_
  refine x_istore_n C [(3, .int 0), (2, .int 0), (0, .ref 358), (1, .int v1)] rfl (Nat.le_of_ble_eq_true rfl) rfl dX12_toldBits_3 ?_
  refine x_sub [(0, .ref 358), (1, .int v1), (2, .int 0), (3, .int 0)] [2, 3, 1, 0] rfl ?_
  exact G12_toldBits_L4_ok C hd hr  h
set_option maxHeartbeats 4000000 in
set_option maxRecDepth 100000 in
theorem G12_rungMany_J36_ok {p : Program} {e : Env} {s : State} {m : MethodId} {args : Array Value} {below : List Frame} {meth : Method} {c : Code} {l : Launch} {φ : Nat → Nat} {tc : Nat → ClassId} {D : va_G} {s0 : State} {dR : Nat} (C : CX p s m args meth c φ tc D (AX φ) s0 cX12_rungMany RX12 3) (hd : G12_rungMany_dep ≤ dR) (hr : meth.sig.returnType = (some .int))   {p2 : Int32} {q0 : Int32} {q1 : Int32} {Q : Int32 → MM → Prop} {K4 : Int32 × Int32 × MM → Prop} {μ : MM}   (hK4 : ∀ (z1 : Int32) (z2 : Int32) (zμ : MM), K4 (z1, z2, zμ) → WX p l e (rmX dR) s m args below meth c φ tc D (AX φ) 3 0 0 (MQ below (QX φ tc D (QI Q)) args s 0 0 (AX φ)) 4 [(0, .ref 358), (1, .int z1), (2, .int z2)] [] zμ) (h : G12_rungMany_J36 p2 q0 q1 μ K4 Q) : WX p l e (rmX dR) s m args below meth c φ tc D (AX φ) 3 0 0 (MQ below (QX φ tc D (QI Q)) args s 0 0 (AX φ)) 36 [(0, .ref 358), (2, .int p2)] [.int q0, .int q1] μ := by
  unfold G12_rungMany_J36 at h
  refine x_callS (dC := G12_flag_dep) (as := [.int q0]) (st := [.int q1]) C rX kX (Nat.le_trans (Nat.le_of_ble_eq_true rfl) hd) (Nat.le_of_ble_eq_true rfl) tw_6_212 tw_6_211 tc_6_213 tw_1_13 hyX12 hnX12_flag rfl (Nat.le_of_ble_eq_true rfl) dX12_rungMany_36 (G12_flag_met C.2.2.2.2.2.2.2.1 (Nat.le_refl _)  h) (fun r0 μ9 hq => ?_)
  obtain ⟨r10, rfl, h⟩ := hq
  refine x_st [.int r10, .int q1] rfl ?_
  refine x_iadd C dX12_rungMany_39 ?_
  refine x_topi (fun y11 e_y11 => ?_)
  have h := h y11 e_y11
  refine x_istore_n C [(1, .int y11), (0, .ref 358), (2, .int p2)] rfl (Nat.le_of_ble_eq_true rfl) rfl dX12_rungMany_40 ?_
  refine x_iinc (v := (p2 + 1)) C [(2, .int (p2 + 1)), (1, .int y11), (0, .ref 358)] 2 rfl (congrArg (fun z => p2 + z) (by decide : Int32.ofInt (1) = 1)) (Nat.le_of_ble_eq_true rfl) rfl dX12_rungMany_41 ?_
  refine x_goto (tgt := 4) C dX12_rungMany_44 (by decide) ?_
  refine x_sub [(0, .ref 358), (1, .int y11), (2, .int (p2 + 1))] [2, 1, 0] rfl ?_
  exact hK4 _ _ _ h
set_option maxHeartbeats 4000000 in
set_option maxRecDepth 100000 in
theorem G12_rungMany_J35_ok {p : Program} {e : Env} {s : State} {m : MethodId} {args : Array Value} {below : List Frame} {meth : Method} {c : Code} {l : Launch} {φ : Nat → Nat} {tc : Nat → ClassId} {D : va_G} {s0 : State} {dR : Nat} (C : CX p s m args meth c φ tc D (AX φ) s0 cX12_rungMany RX12 3) (hd : G12_rungMany_dep ≤ dR) (hr : meth.sig.returnType = (some .int))   {p2 : Int32} {q0 : Int32} {Q : Int32 → MM → Prop} {K4 : Int32 × Int32 × MM → Prop} {μ : MM}   (hK4 : ∀ (z1 : Int32) (z2 : Int32) (zμ : MM), K4 (z1, z2, zμ) → WX p l e (rmX dR) s m args below meth c φ tc D (AX φ) 3 0 0 (MQ below (QX φ tc D (QI Q)) args s 0 0 (AX φ)) 4 [(0, .ref 358), (1, .int z1), (2, .int z2)] [] zμ) (h : G12_rungMany_J35 p2 q0 μ K4 Q) : WX p l e (rmX dR) s m args below meth c φ tc D (AX φ) 3 0 0 (MQ below (QX φ tc D (QI Q)) args s 0 0 (AX φ)) 35 [(0, .ref 358), (2, .int p2)] [.int q0] μ := by
  unfold G12_rungMany_J35 at h
  refine x_iconst (v := 0) C (by decide) dX12_rungMany_35 ?_
  exact G12_rungMany_J36_ok C hd hr hK4 h
set_option maxHeartbeats 4000000 in
set_option maxRecDepth 100000 in
theorem G12_rungMany_L4_b {p : Program} {e : Env} {s : State} {m : MethodId} {args : Array Value} {below : List Frame} {meth : Method} {c : Code} {l : Launch} {φ : Nat → Nat} {tc : Nat → ClassId} {D : va_G} {s0 : State} {dR : Nat} (C : CX p s m args meth c φ tc D (AX φ) s0 cX12_rungMany RX12 3) (hd : G12_rungMany_dep ≤ dR) (hr : meth.sig.returnType = (some .int))   {Q : Int32 → MM → Prop} {K4 : Int32 × Int32 × MM → Prop} {x : Int32 × Int32 × MM}   (hK4 : ∀ (z1 : Int32) (z2 : Int32) (zμ : MM), K4 (z1, z2, zμ) → WX p l e (rmX dR) s m args below meth c φ tc D (AX φ) 3 0 0 (MQ below (QX φ tc D (QI Q)) args s 0 0 (AX φ)) 4 [(0, .ref 358), (1, .int z1), (2, .int z2)] [] zμ) (h : G12_rungMany_L4  Q K4 x) : WX p l e (rmX dR) s m args below meth c φ tc D (AX φ) 3 0 0 (MQ below (QX φ tc D (QI Q)) args s 0 0 (AX φ)) 4 [(0, .ref 358), (1, .int x.1), (2, .int x.2.1)] [] x.2.2 := by
  unfold G12_rungMany_L4 at h
  refine x_iload_n C rfl 2 rfl dX12_rungMany_4 ?_
  refine x_aload_n C rfl 0 rfl dX12_rungMany_5 ?_
  refine x_getI C (j := 12) ob358.1 ob358.2 (Nat.le_of_ble_eq_true rfl) (Nat.le_of_ble_eq_true rfl) (Or.inl rfl) tw_8_218 dX12_rungMany_6 ?_
  refine x_icmp_ge (tgt := 47) C dX12_rungMany_9 (by decide) (fun c6 => ?_) (fun c6 => ?_)
  · have h := h.1 c6
    refine x_iload_n C rfl 1 rfl dX12_rungMany_47 ?_
    exact x_iret C hr dX12_rungMany_48 ⟨_, rfl, h⟩
  · have h := h.2 c6
    refine x_iload_n C rfl 1 rfl dX12_rungMany_12 ?_
    refine x_aload_n C rfl 0 rfl dX12_rungMany_13 ?_
    refine x_getR (r := 373) C (j := 19) ob358.1 ob358.2 (Nat.le_of_ble_eq_true rfl) (Nat.le_of_ble_eq_true rfl) (fun _ _ _ => rfl) r_358_19 tw_8_225 dX12_rungMany_14 ?_
    refine x_iload_n C rfl 2 rfl dX12_rungMany_17 ?_
    obtain ⟨c7, h⟩ := h
    refine x_zald C ob373.1 ob373.2 c7 rfl dX12_rungMany_18 ?_
    refine x_if_eq (tgt := 35) C dX12_rungMany_19 (by decide) (fun c8 => ?_) (fun c8 => ?_)
    · have h := h.1 c8
      refine x_sub [(0, .ref 358), (2, .int x.2.1)] [0, 2] rfl ?_
      exact G12_rungMany_J35_ok C hd hr hK4 h
    · have h := h.2 c8
      refine x_aload_n C rfl 0 rfl dX12_rungMany_22 ?_
      refine x_getR (r := 374) C (j := 20) ob358.1 ob358.2 (Nat.le_of_ble_eq_true rfl) (Nat.le_of_ble_eq_true rfl) (fun _ _ _ => rfl) r_358_20 tw_8_226 dX12_rungMany_23 ?_
      refine x_iload_n C rfl 2 rfl dX12_rungMany_26 ?_
      obtain ⟨c12, h⟩ := h
      refine x_zald C ob374.1 ob374.2 c12 rfl dX12_rungMany_27 ?_
      refine x_if_eq (tgt := 35) C dX12_rungMany_28 (by decide) (fun c13 => ?_) (fun c13 => ?_)
      · have h := h.1 c13
        refine x_sub [(0, .ref 358), (2, .int x.2.1)] [0, 2] rfl ?_
        exact G12_rungMany_J35_ok C hd hr hK4 h
      · have h := h.2 c13
        refine x_iconst (v := 1) C (by decide) dX12_rungMany_31 ?_
        refine x_goto (tgt := 36) C dX12_rungMany_32 (by decide) ?_
        refine x_sub [(0, .ref 358), (2, .int x.2.1)] [0, 2] rfl ?_
        exact G12_rungMany_J36_ok C hd hr hK4 h
theorem G12_rungMany_L4_ok {p : Program} {e : Env} {s : State} {m : MethodId} {args : Array Value} {below : List Frame} {meth : Method} {c : Code} {l : Launch} {φ : Nat → Nat} {tc : Nat → ClassId} {D : va_G} {s0 : State} {dR : Nat} (C : CX p s m args meth c φ tc D (AX φ) s0 cX12_rungMany RX12 3) (hd : G12_rungMany_dep ≤ dR) (hr : meth.sig.returnType = (some .int))   {Q : Int32 → MM → Prop}  {x : Int32 × Int32 × MM}    (h : Lp (G12_rungMany_L4  Q) x) : WX p l e (rmX dR) s m args below meth c φ tc D (AX φ) 3 0 0 (MQ below (QX φ tc D (QI Q)) args s 0 0 (AX φ)) 4 [(0, .ref 358), (1, .int x.1), (2, .int x.2.1)] [] x.2.2 := by
  obtain ⟨n, h⟩ := h
  induction n generalizing x with
  | zero => exact h.elim
  | succ n ih => exact G12_rungMany_L4_b C hd hr   (fun z1 z2 zμ hz => by have q := ih hz; exact q) h
set_option maxHeartbeats 4000000 in
set_option maxRecDepth 100000 in
theorem G12_rungMany_met {l : Launch} {φ : Nat → Nat} {tc : Nat → ClassId} {D : va_G} {s0 : State} (hG : GX φ tc D s0) {dR : Nat} (hd : G12_rungMany_dep ≤ dR)  {μ : MM} {Q : Int32 → MM → Prop}  (h : G12_rungMany  μ Q) : MX l φ tc D s0 dR yX12_rungMany cX12_rungMany 3 (some .int) [.ref 358] μ (QI Q) := by
  refine MX.of (own := RX12) hG plX12 rfl (Nat.le_of_ble_eq_true rfl) (fun p e s m args below meth c C hr => ?_)
  refine x_sub [(0, .ref 358)] [0] rfl ?_
  unfold G12_rungMany at h
  refine x_iconst (v := 0) C (by decide) dX12_rungMany_0 ?_
  refine x_istore_n C [(1, .int 0), (0, .ref 358)] rfl (Nat.le_of_ble_eq_true rfl) rfl dX12_rungMany_1 ?_
  refine x_iconst (v := 0) C (by decide) dX12_rungMany_2 ?_
  refine x_istore_n C [(2, .int 0), (1, .int 0), (0, .ref 358)] rfl (Nat.le_of_ble_eq_true rfl) rfl dX12_rungMany_3 ?_
  refine x_sub [(0, .ref 358), (1, .int 0), (2, .int 0)] [2, 1, 0] rfl ?_
  exact G12_rungMany_L4_ok C hd hr  h
set_option maxHeartbeats 4000000 in
set_option maxRecDepth 100000 in
theorem G12_count_met {l : Launch} {φ : Nat → Nat} {tc : Nat → ClassId} {D : va_G} {s0 : State} (hG : GX φ tc D s0) {dR : Nat} (hd : G12_count_dep ≤ dR) {v1 : Int32} {μ : MM} {Q : Int32 → MM → Prop}  (h : G12_count v1 μ Q) : MX l φ tc D s0 dR yX12_count cX12_count 2 (some .int) [.ref 358, .int v1] μ (QI Q) := by
  refine MX.of (own := RX12) hG plX12 rfl (Nat.le_of_ble_eq_true rfl) (fun p e s m args below meth c C hr => ?_)
  refine x_sub [(0, .ref 358), (1, .int v1)] [0, 1] rfl ?_
  unfold G12_count at h
  refine x_aload_n C rfl 0 rfl dX12_count_0 ?_
  refine x_iconst (v := 0) C (by decide) dX12_count_1 ?_
  refine x_putI C (j := 0) ob358.1 ob358.2 (Nat.le_of_ble_eq_true rfl) (Nat.le_of_ble_eq_true rfl) (Or.inl rfl) rfl rfl rfl tw_8_206 dX12_count_2 ?_
  refine x_mu (fun μ10 e_μ10 => ?_)
  have h := h μ10 e_μ10
  refine x_iload_n C rfl 1 rfl dX12_count_5 ?_
  by_cases c11 : v1 = 0
  · have h := h.1 c11
    refine x_tIn (tgt := 60) C dX12_count_6 (by rw [c11]; decide) (by rw [c11]; decide) (by rw [c11]; rfl) (by decide) ?_
    refine x_aload_n C rfl 0 rfl dX12_count_60 ?_
    refine x_getI C (j := 3) ob358.1 ob358.2 (Nat.le_of_ble_eq_true rfl) (Nat.le_of_ble_eq_true rfl) (Or.inl rfl) tw_8_209 dX12_count_61 ?_
    exact x_iret C hr dX12_count_64 ⟨_, rfl, h⟩
  have h := h.2
  by_cases c12 : v1 = 1
  · have h := h.1 c12
    refine x_tIn (tgt := 65) C dX12_count_6 (by rw [c12]; decide) (by rw [c12]; decide) (by rw [c12]; rfl) (by decide) ?_
    refine x_aload_n C rfl 0 rfl dX12_count_65 ?_
    refine x_getI C (j := 8) ob358.1 ob358.2 (Nat.le_of_ble_eq_true rfl) (Nat.le_of_ble_eq_true rfl) (Or.inl rfl) tw_8_214 dX12_count_66 ?_
    exact x_iret C hr dX12_count_69 ⟨_, rfl, h⟩
  have h := h.2
  by_cases c13 : v1 = 2
  · have h := h.1 c13
    refine x_tIn (tgt := 70) C dX12_count_6 (by rw [c13]; decide) (by rw [c13]; decide) (by rw [c13]; rfl) (by decide) ?_
    refine x_aload_n C rfl 0 rfl dX12_count_70 ?_
    refine x_getI C (j := 12) ob358.1 ob358.2 (Nat.le_of_ble_eq_true rfl) (Nat.le_of_ble_eq_true rfl) (Or.inl rfl) tw_8_218 dX12_count_71 ?_
    exact x_iret C hr dX12_count_74 ⟨_, rfl, h⟩
  have h := h.2
  by_cases c14 : v1 = 3
  · have h := h.1 c14
    refine x_tIn (tgt := 75) C dX12_count_6 (by rw [c14]; decide) (by rw [c14]; decide) (by rw [c14]; rfl) (by decide) ?_
    refine x_aload_n C rfl 0 rfl dX12_count_75 ?_
    refine x_callV (dC := G12_readMany_dep) (as := []) (st := []) C rX kX (Nat.le_trans (Nat.le_of_ble_eq_true rfl) hd) (Nat.le_of_ble_eq_true rfl) ob358.1 ob358.2 (Nat.le_of_ble_eq_true rfl) rfl ts_10_3 tw_7_184 tw_7_182 tc_7_185 tw_1_13 hyX12 hnX12_readMany rfl (Nat.le_of_ble_eq_true rfl) dX12_count_76 (G12_readMany_met C.2.2.2.2.2.2.2.1 (Nat.le_refl _)  h) (fun r0 μ15 hq => ?_)
    obtain ⟨r16, rfl, h⟩ := hq
    refine x_st [.int r16] rfl ?_
    exact x_iret C hr dX12_count_79 ⟨_, rfl, h⟩
  have h := h.2
  by_cases c17 : v1 = 4
  · have h := h.1 c17
    refine x_tIn (tgt := 80) C dX12_count_6 (by rw [c17]; decide) (by rw [c17]; decide) (by rw [c17]; rfl) (by decide) ?_
    refine x_aload_n C rfl 0 rfl dX12_count_80 ?_
    refine x_callV (dC := G12_rungMany_dep) (as := []) (st := []) C rX kX (Nat.le_trans (Nat.le_of_ble_eq_true rfl) hd) (Nat.le_of_ble_eq_true rfl) ob358.1 ob358.2 (Nat.le_of_ble_eq_true rfl) rfl ts_11_10 tw_8_195 tw_8_193 tc_8_196 tw_1_13 hyX12 hnX12_rungMany rfl (Nat.le_of_ble_eq_true rfl) dX12_count_81 (G12_rungMany_met C.2.2.2.2.2.2.2.1 (Nat.le_refl _)  h) (fun r0 μ18 hq => ?_)
    obtain ⟨r19, rfl, h⟩ := hq
    refine x_st [.int r19] rfl ?_
    exact x_iret C hr dX12_count_84 ⟨_, rfl, h⟩
  have h := h.2
  by_cases c20 : v1 = 5
  · have h := h.1 c20
    refine x_tIn (tgt := 85) C dX12_count_6 (by rw [c20]; decide) (by rw [c20]; decide) (by rw [c20]; rfl) (by decide) ?_
    refine x_aload_n C rfl 0 rfl dX12_count_85 ?_
    refine x_iconst (v := 0) C (by decide) dX12_count_86 ?_
    refine x_callV (dC := G12_toldBits_dep) (as := [.int 0]) (st := []) C rX kX (Nat.le_trans (Nat.le_of_ble_eq_true rfl) hd) (Nat.le_of_ble_eq_true rfl) ob358.1 ob358.2 (Nat.le_of_ble_eq_true rfl) rfl ts_11_11 tw_8_199 tw_8_197 tc_8_200 tw_1_13 hyX12 hnX12_toldBits rfl (Nat.le_of_ble_eq_true rfl) dX12_count_87 (G12_toldBits_met C.2.2.2.2.2.2.2.1 (Nat.le_refl _)  h) (fun r0 μ21 hq => ?_)
    obtain ⟨r22, rfl, h⟩ := hq
    refine x_st [.int r22] rfl ?_
    exact x_iret C hr dX12_count_90 ⟨_, rfl, h⟩
  have h := h.2
  by_cases c23 : v1 = 6
  · have h := h.1 c23
    refine x_tIn (tgt := 91) C dX12_count_6 (by rw [c23]; decide) (by rw [c23]; decide) (by rw [c23]; rfl) (by decide) ?_
    refine x_aload_n C rfl 0 rfl dX12_count_91 ?_
    refine x_bipush (v := 6) C (by decide) dX12_count_92 ?_
    refine x_callV (dC := G12_toldBits_dep) (as := [.int 6]) (st := []) C rX kX (Nat.le_trans (Nat.le_of_ble_eq_true rfl) hd) (Nat.le_of_ble_eq_true rfl) ob358.1 ob358.2 (Nat.le_of_ble_eq_true rfl) rfl ts_11_11 tw_8_199 tw_8_197 tc_8_200 tw_1_13 hyX12 hnX12_toldBits rfl (Nat.le_of_ble_eq_true rfl) dX12_count_94 (G12_toldBits_met C.2.2.2.2.2.2.2.1 (Nat.le_refl _)  h) (fun r0 μ24 hq => ?_)
    obtain ⟨r25, rfl, h⟩ := hq
    refine x_st [.int r25] rfl ?_
    exact x_iret C hr dX12_count_97 ⟨_, rfl, h⟩
  have h := h.2
  by_cases c26 : v1 = 7
  · have h := h.1 c26
    refine x_tIn (tgt := 98) C dX12_count_6 (by rw [c26]; decide) (by rw [c26]; decide) (by rw [c26]; rfl) (by decide) ?_
    refine x_aload_n C rfl 0 rfl dX12_count_98 ?_
    refine x_getI C (j := 61) ob358.1 ob358.2 (Nat.le_of_ble_eq_true rfl) (Nat.le_of_ble_eq_true rfl) (Or.inl rfl) tw_9_27 dX12_count_99 ?_
    exact x_iret C hr dX12_count_102 ⟨_, rfl, h⟩
  have h := h.2
  by_cases c27 : v1 = 8
  · have h := h.1 c27
    refine x_tIn (tgt := 103) C dX12_count_6 (by rw [c27]; decide) (by rw [c27]; decide) (by rw [c27]; rfl) (by decide) ?_
    refine x_aload_n C rfl 0 rfl dX12_count_103 ?_
    refine x_getI C (j := 1) ob358.1 ob358.2 (Nat.le_of_ble_eq_true rfl) (Nat.le_of_ble_eq_true rfl) (Or.inl rfl) tw_8_207 dX12_count_104 ?_
    exact x_iret C hr dX12_count_107 ⟨_, rfl, h⟩
  have h := h.2
  by_cases c28 : v1 = 9
  · have h := h.1 c28
    refine x_tIn (tgt := 108) C dX12_count_6 (by rw [c28]; decide) (by rw [c28]; decide) (by rw [c28]; rfl) (by decide) ?_
    refine x_aload_n C rfl 0 rfl dX12_count_108 ?_
    refine x_getI C (j := 28) ob358.1 ob358.2 (Nat.le_of_ble_eq_true rfl) (Nat.le_of_ble_eq_true rfl) (Or.inl rfl) tw_8_234 dX12_count_109 ?_
    exact x_iret C hr dX12_count_112 ⟨_, rfl, h⟩
  have h := h.2
  have h := h c11 c12 c13 c14 c17 c20 c23 c26 c27 c28
  have n_c11 := lv_neT (a := 0) c11 (by decide)
  have n_c12 := lv_neT (a := 1) c12 (by decide)
  have n_c13 := lv_neT (a := 2) c13 (by decide)
  have n_c14 := lv_neT (a := 3) c14 (by decide)
  have n_c17 := lv_neT (a := 4) c17 (by decide)
  have n_c20 := lv_neT (a := 5) c20 (by decide)
  have n_c23 := lv_neT (a := 6) c23 (by decide)
  have n_c26 := lv_neT (a := 7) c26 (by decide)
  have n_c27 := lv_neT (a := 8) c27 (by decide)
  have n_c28 := lv_neT (a := 9) c28 (by decide)
  refine x_tOut (tgt := 113) C dX12_count_6 (by omega) (by decide) ?_
  refine x_iconst (v := (-1)) C (by decide) dX12_count_113 ?_
  exact x_iret C hr dX12_count_114 ⟨_, rfl, h⟩
set_option maxHeartbeats 4000000 in
set_option maxRecDepth 100000 in
theorem G12_row_met {l : Launch} {φ : Nat → Nat} {tc : Nat → ClassId} {D : va_G} {s0 : State} (hG : GX φ tc D s0) {dR : Nat} (hd : G12_row_dep ≤ dR) {v1 : Int32} {μ : MM} {Q : Int64 → MM → Prop}  (h : G12_row v1 μ Q) : MX l φ tc D s0 dR yX12_row cX12_row 2 (some .long) [.ref 358, .int v1] μ (QJ Q) := by
  refine MX.of (own := RX12) hG plX12 rfl (Nat.le_of_ble_eq_true rfl) (fun p e s m args below meth c C hr => ?_)
  refine x_sub [(0, .ref 358), (1, .int v1)] [0, 1] rfl ?_
  unfold G12_row at h
  refine x_aload_n C rfl 0 rfl dX12_row_0 ?_
  refine x_iconst (v := 0) C (by decide) dX12_row_1 ?_
  refine x_putI C (j := 0) ob358.1 ob358.2 (Nat.le_of_ble_eq_true rfl) (Nat.le_of_ble_eq_true rfl) (Or.inl rfl) rfl rfl rfl tw_8_206 dX12_row_2 ?_
  refine x_mu (fun μ6 e_μ6 => ?_)
  have h := h μ6 e_μ6
  refine x_iload_n C rfl 1 rfl dX12_row_5 ?_
  refine x_i2l C dX12_row_6 ?_
  refine x_lconst (v := 0) C (by decide) dX12_row_7 ?_
  refine x_aload_n C rfl 0 rfl dX12_row_8 ?_
  refine x_getI C (j := 1) ob358.1 ob358.2 (Nat.le_of_ble_eq_true rfl) (Nat.le_of_ble_eq_true rfl) (Or.inl rfl) tw_8_207 dX12_row_9 ?_
  refine x_iconst (v := 1) C (by decide) dX12_row_12 ?_
  refine x_isub C dX12_row_13 ?_
  refine x_i2l C dX12_row_14 ?_
  refine x_callS (dC := G12_in_dep) (as := [.long (v1.toInt64), .long 0, .long (((gI μ6 358 1) - 1).toInt64)]) (st := []) C rX kX (Nat.le_trans (Nat.le_of_ble_eq_true rfl) hd) (Nat.le_of_ble_eq_true rfl) tw_6_183 tw_6_182 tc_6_184 tw_1_13 hyX12 hnX12_in rfl (Nat.le_of_ble_eq_true rfl) dX12_row_15 (G12_in_met C.2.2.2.2.2.2.2.1 (Nat.le_refl _)  h) (fun r0 μ7 hq => ?_)
  obtain ⟨r8, rfl, h⟩ := hq
  refine x_st [.int r8] rfl ?_
  refine x_if_ne (tgt := 28) C dX12_row_18 (by decide) (fun c9 => ?_) (fun c9 => ?_)
  · have h := h.1 c9
    refine x_aload_n C rfl 0 rfl dX12_row_28 ?_
    refine x_getR (r := 359) C (j := 2) ob358.1 ob358.2 (Nat.le_of_ble_eq_true rfl) (Nat.le_of_ble_eq_true rfl) (fun _ _ _ => rfl) r_358_2 tw_8_208 dX12_row_29 ?_
    refine x_iload_n C rfl 1 rfl dX12_row_32 ?_
    obtain ⟨c10, h⟩ := h
    refine x_lald C ob359.1 ob359.2 c10 rfl dX12_row_33 ?_
    exact x_lret C hr dX12_row_34 ⟨_, rfl, h⟩
  · have h := h.2 c9
    refine x_aload_n C rfl 0 rfl dX12_row_21 ?_
    refine x_iconst (v := 1) C (by decide) dX12_row_22 ?_
    refine x_putI C (j := 0) ob358.1 ob358.2 (Nat.le_of_ble_eq_true rfl) (Nat.le_of_ble_eq_true rfl) (Or.inl rfl) rfl rfl rfl tw_8_206 dX12_row_23 ?_
    refine x_mu (fun μ11 e_μ11 => ?_)
    have h := h μ11 e_μ11
    refine x_lconst (v := 0) C (by decide) dX12_row_26 ?_
    exact x_lret C hr dX12_row_27 ⟨_, rfl, h⟩
