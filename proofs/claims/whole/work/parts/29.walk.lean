set_option maxHeartbeats 4000000 in
set_option maxRecDepth 100000 in
theorem G12_likelies_L48_b {p : Program} {e : Env} {s : State} {m : MethodId} {args : Array Value} {below : List Frame} {meth : Method} {c : Code} {l : Launch} {φ : Nat → Nat} {tc : Nat → ClassId} {D : va_G} {s0 : State} {dR : Nat} (C : CX p s m args meth c φ tc D s0 cX12_likelies RX12 4) (hd : G12_likelies_dep ≤ dR) (hr : meth.sig.returnType = none)  {p1 : Int32} {p2 : Int32} {Q : MM → Prop} {K2 : Int32 × MM → Prop} {K48 : Int32 × MM → Prop} {x : Int32 × MM}   (hK2 : ∀ (z2 : Int32) (zμ : MM), K2 (z2, zμ) → WX p l e (rmX dR) s m args below meth c φ tc D 4 (MQ below (QX φ tc D (QV Q)) args s 0 0 (AX φ)) 2 [(0, .ref 358), (1, .int p1), (2, .int z2)] [] zμ) (hK48 : ∀ (z3 : Int32) (zμ : MM), K48 (z3, zμ) → WX p l e (rmX dR) s m args below meth c φ tc D 4 (MQ below (QX φ tc D (QV Q)) args s 0 0 (AX φ)) 48 [(0, .ref 358), (1, .int p1), (2, .int p2), (3, .int z3)] [] zμ) (h : G12_likelies_L48 p1 p2 K2 Q K48 x) : WX p l e (rmX dR) s m args below meth c φ tc D 4 (MQ below (QX φ tc D (QV Q)) args s 0 0 (AX φ)) 48 [(0, .ref 358), (1, .int p1), (2, .int p2), (3, .int x.1)] [] x.2 := by
  unfold G12_likelies_L48 at h
  refine x_iload_n C rfl 3 rfl dX12_likelies_48 ?_
  refine x_iconst (v := 4) C (by decide) dX12_likelies_49 ?_
  refine x_icmp_ge (tgt := 85) C dX12_likelies_50 (by decide) (fun c27 => ?_) (fun c27 => ?_)
  · have h := h.1 c27
    refine x_iinc (v := (p2 + 1)) C [(2, .int (p2 + 1)), (0, .ref 358), (1, .int p1), (3, .int x.1)] 2 rfl (congrArg (fun z => p2 + z) (by decide : Int32.ofInt (1) = 1)) (Nat.le_of_ble_eq_true rfl) rfl dX12_likelies_85 ?_
    refine x_goto (tgt := 2) C dX12_likelies_88 (by decide) ?_
    refine x_sub [(0, .ref 358), (1, .int p1), (2, .int (p2 + 1))] [1, 2, 0] rfl ?_
    exact hK2 _ _ h
  · have h := h.2 c27
    refine x_aload_n C rfl 0 rfl dX12_likelies_53 ?_
    refine x_getR (r := 397) C (j := 55) ob358.1 ob358.2 (Nat.le_of_ble_eq_true rfl) (Nat.le_of_ble_eq_true rfl) (fun _ _ _ => rfl) r_358_55 tw_9_21 dX12_likelies_54 ?_
    refine x_iload_n C rfl 2 rfl dX12_likelies_57 ?_
    refine x_dup2_11 C rfl rfl dX12_likelies_58 ?_
    obtain ⟨c28, h⟩ := h
    refine x_lald C ob397.1 ob397.2 c28 rfl dX12_likelies_59 ?_
    refine x_iload_n C rfl 1 rfl dX12_likelies_60 ?_
    refine x_iload_n C rfl 3 rfl dX12_likelies_61 ?_
    refine x_callS (dC := G12_has_dep) (as := [.int p1, .int x.1]) (st := [.long (gJ x.2 397 p2.toNatClampNeg), .int p2, .ref 397]) C rfl (Nat.le_trans (Nat.le_of_ble_eq_true rfl) hd) (Nat.le_of_ble_eq_true rfl) tw_7_203 tw_7_202 tc_7_204 tw_1_13 hyX12 hnX12_has rfl (Nat.le_of_ble_eq_true rfl) dX12_likelies_62 (G12_has_met C.2.2.2.2.2.2.2.1 (Nat.le_refl _)  h) (fun r0 μ29 hq => ?_)
    obtain ⟨r30, rfl, h⟩ := hq
    refine x_st [.int r30, .long (gJ x.2 397 p2.toNatClampNeg), .int p2, .ref 397] rfl ?_
    refine x_if_eq (tgt := 76) C dX12_likelies_65 (by decide) (fun c31 => ?_) (fun c31 => ?_)
    · have h := h.1 c31
      refine x_lconst (v := 0) C (by decide) dX12_likelies_76 ?_
      refine x_ladd C dX12_likelies_77 ?_
      obtain ⟨c32, h⟩ := h
      refine x_last C ob397.1 ob397.2 c32 rfl dX12_likelies_78 ?_
      refine x_mu (fun μ33 e_μ33 => ?_)
      have h := h μ33 e_μ33
      refine x_iinc (v := (x.1 + 1)) C [(3, .int (x.1 + 1)), (0, .ref 358), (1, .int p1), (2, .int p2)] 3 rfl (congrArg (fun z => x.1 + z) (by decide : Int32.ofInt (1) = 1)) (Nat.le_of_ble_eq_true rfl) rfl dX12_likelies_79 ?_
      refine x_goto (tgt := 48) C dX12_likelies_82 (by decide) ?_
      refine x_sub [(0, .ref 358), (1, .int p1), (2, .int p2), (3, .int (x.1 + 1))] [1, 2, 3, 0] rfl ?_
      exact hK48 _ _ h
    · have h := h.2 c31
      refine x_aload_n C rfl 0 rfl dX12_likelies_68 ?_
      refine x_iload_n C rfl 3 rfl dX12_likelies_69 ?_
      refine x_callV (dC := G12_likelyOf_dep) (as := [.int x.1]) (st := [.long (gJ x.2 397 p2.toNatClampNeg), .int p2, .ref 397]) C rfl (Nat.le_trans (Nat.le_of_ble_eq_true rfl) hd) (Nat.le_of_ble_eq_true rfl) ob358.1 ob358.2 (Nat.le_of_ble_eq_true rfl) rfl ts_10_11 tw_8_32 tw_8_30 tc_8_33 tw_1_13 hyX12 hnX12_likelyOf rfl (Nat.le_of_ble_eq_true rfl) dX12_likelies_70 (G12_likelyOf_met C.2.2.2.2.2.2.2.1 (Nat.le_refl _)  h) (fun r0 μ34 hq => ?_)
      obtain ⟨r35, rfl, h⟩ := hq
      refine x_st [.long r35, .long (gJ x.2 397 p2.toNatClampNeg), .int p2, .ref 397] rfl ?_
      refine x_goto (tgt := 77) C dX12_likelies_73 (by decide) ?_
      refine x_ladd C dX12_likelies_77 ?_
      obtain ⟨c36, h⟩ := h
      refine x_last C ob397.1 ob397.2 c36 rfl dX12_likelies_78 ?_
      refine x_mu (fun μ37 e_μ37 => ?_)
      have h := h μ37 e_μ37
      refine x_iinc (v := (x.1 + 1)) C [(3, .int (x.1 + 1)), (0, .ref 358), (1, .int p1), (2, .int p2)] 3 rfl (congrArg (fun z => x.1 + z) (by decide : Int32.ofInt (1) = 1)) (Nat.le_of_ble_eq_true rfl) rfl dX12_likelies_79 ?_
      refine x_goto (tgt := 48) C dX12_likelies_82 (by decide) ?_
      refine x_sub [(0, .ref 358), (1, .int p1), (2, .int p2), (3, .int (x.1 + 1))] [1, 2, 3, 0] rfl ?_
      exact hK48 _ _ h
theorem G12_likelies_L48_ok {p : Program} {e : Env} {s : State} {m : MethodId} {args : Array Value} {below : List Frame} {meth : Method} {c : Code} {l : Launch} {φ : Nat → Nat} {tc : Nat → ClassId} {D : va_G} {s0 : State} {dR : Nat} (C : CX p s m args meth c φ tc D s0 cX12_likelies RX12 4) (hd : G12_likelies_dep ≤ dR) (hr : meth.sig.returnType = none)  {p1 : Int32} {p2 : Int32} {Q : MM → Prop} {K2 : Int32 × MM → Prop} {x : Int32 × MM}   (hK2 : ∀ (z2 : Int32) (zμ : MM), K2 (z2, zμ) → WX p l e (rmX dR) s m args below meth c φ tc D 4 (MQ below (QX φ tc D (QV Q)) args s 0 0 (AX φ)) 2 [(0, .ref 358), (1, .int p1), (2, .int z2)] [] zμ) (h : Lp (G12_likelies_L48 p1 p2 K2 Q) x) : WX p l e (rmX dR) s m args below meth c φ tc D 4 (MQ below (QX φ tc D (QV Q)) args s 0 0 (AX φ)) 48 [(0, .ref 358), (1, .int p1), (2, .int p2), (3, .int x.1)] [] x.2 := by
  obtain ⟨n, h⟩ := h
  induction n generalizing x with
  | zero => exact h.elim
  | succ n ih => exact G12_likelies_L48_b C hd hr  hK2 (fun z3 zμ hz => by have q := ih hz; exact q) h
set_option maxHeartbeats 4000000 in
set_option maxRecDepth 100000 in
theorem G12_likelies_L2_b {p : Program} {e : Env} {s : State} {m : MethodId} {args : Array Value} {below : List Frame} {meth : Method} {c : Code} {l : Launch} {φ : Nat → Nat} {tc : Nat → ClassId} {D : va_G} {s0 : State} {dR : Nat} (C : CX p s m args meth c φ tc D s0 cX12_likelies RX12 4) (hd : G12_likelies_dep ≤ dR) (hr : meth.sig.returnType = none)  {p1 : Int32} {Q : MM → Prop} {K2 : Int32 × MM → Prop} {x : Int32 × MM}   (hK2 : ∀ (z2 : Int32) (zμ : MM), K2 (z2, zμ) → WX p l e (rmX dR) s m args below meth c φ tc D 4 (MQ below (QX φ tc D (QV Q)) args s 0 0 (AX φ)) 2 [(0, .ref 358), (1, .int p1), (2, .int z2)] [] zμ) (h : G12_likelies_L2 p1 Q K2 x) : WX p l e (rmX dR) s m args below meth c φ tc D 4 (MQ below (QX φ tc D (QV Q)) args s 0 0 (AX φ)) 2 [(0, .ref 358), (1, .int p1), (2, .int x.1)] [] x.2 := by
  unfold G12_likelies_L2 at h
  refine x_iload_n C rfl 2 rfl dX12_likelies_2 ?_
  refine x_aload_n C rfl 0 rfl dX12_likelies_3 ?_
  refine x_getI C (j := 8) ob358.1 ob358.2 (Nat.le_of_ble_eq_true rfl) (Nat.le_of_ble_eq_true rfl) (Or.inl rfl) tw_8_214 dX12_likelies_4 ?_
  refine x_icmp_ge (tgt := 91) C dX12_likelies_7 (by decide) (fun c16 => ?_) (fun c16 => ?_)
  · have h := h.1 c16
    exact x_vret C hr dX12_likelies_91 ⟨rfl, h⟩
  · have h := h.2 c16
    refine x_aload_n C rfl 0 rfl dX12_likelies_10 ?_
    refine x_getR (r := 397) C (j := 55) ob358.1 ob358.2 (Nat.le_of_ble_eq_true rfl) (Nat.le_of_ble_eq_true rfl) (fun _ _ _ => rfl) r_358_55 tw_9_21 dX12_likelies_11 ?_
    refine x_iload_n C rfl 2 rfl dX12_likelies_14 ?_
    refine x_ldc2 (v := (-1)) C tw_8_62 dX12_likelies_15 ?_
    obtain ⟨c17, h⟩ := h
    refine x_last C ob397.1 ob397.2 c17 rfl dX12_likelies_18 ?_
    refine x_mu (fun μ18 e_μ18 => ?_)
    have h := h μ18 e_μ18
    refine x_aload_n C rfl 0 rfl dX12_likelies_19 ?_
    refine x_iload_n C rfl 2 rfl dX12_likelies_20 ?_
    refine x_callV (dC := G12_countsHouse_dep) (as := [.int x.1]) (st := []) C rfl (Nat.le_trans (Nat.le_of_ble_eq_true rfl) hd) (Nat.le_of_ble_eq_true rfl) ob358.1 ob358.2 (Nat.le_of_ble_eq_true rfl) rfl ts_10_8 tw_8_1 tw_7_239 tc_8_2 tw_1_13 hyX12 hnX12_countsHouse rfl (Nat.le_of_ble_eq_true rfl) dX12_likelies_21 (G12_countsHouse_met C.2.2.2.2.2.2.2.1 (Nat.le_refl _)  h) (fun r0 μ19 hq => ?_)
    obtain ⟨r20, rfl, h⟩ := hq
    refine x_st [.int r20] rfl ?_
    refine x_if_eq (tgt := 85) C dX12_likelies_24 (by decide) (fun c21 => ?_) (fun c21 => ?_)
    · have h := h.1 c21
      refine x_iinc (v := (x.1 + 1)) C [(2, .int (x.1 + 1)), (0, .ref 358), (1, .int p1)] 2 rfl (congrArg (fun z => x.1 + z) (by decide : Int32.ofInt (1) = 1)) (Nat.le_of_ble_eq_true rfl) rfl dX12_likelies_85 ?_
      refine x_goto (tgt := 2) C dX12_likelies_88 (by decide) ?_
      refine x_sub [(0, .ref 358), (1, .int p1), (2, .int (x.1 + 1))] [1, 2, 0] rfl ?_
      exact hK2 _ _ h
    · have h := h.2 c21
      refine x_aload_n C rfl 0 rfl dX12_likelies_27 ?_
      refine x_callV (dC := G12_allKinds_dep) (as := []) (st := []) C rfl (Nat.le_trans (Nat.le_of_ble_eq_true rfl) hd) (Nat.le_of_ble_eq_true rfl) ob358.1 ob358.2 (Nat.le_of_ble_eq_true rfl) rfl ts_10_9 tw_8_21 tw_8_19 tc_8_22 tw_1_13 hyX12 hnX12_allKinds rfl (Nat.le_of_ble_eq_true rfl) dX12_likelies_28 (G12_allKinds_met C.2.2.2.2.2.2.2.1 (Nat.le_refl _)  h) (fun r0 μ22 hq => ?_)
      obtain ⟨r23, rfl, h⟩ := hq
      refine x_st [.long r23] rfl ?_
      refine x_lconst (v := 0) C (by decide) dX12_likelies_31 ?_
      refine x_lcmp C dX12_likelies_32 ?_
      refine x_if_ne (tgt := 39) C dX12_likelies_33 (by decide) (fun c24 => ?_) (fun c24 => ?_)
      · have h := h.1 c24
        refine x_aload_n C rfl 0 rfl dX12_likelies_39 ?_
        refine x_getR (r := 397) C (j := 55) ob358.1 ob358.2 (Nat.le_of_ble_eq_true rfl) (Nat.le_of_ble_eq_true rfl) (fun _ _ _ => rfl) r_358_55 tw_9_21 dX12_likelies_40 ?_
        refine x_iload_n C rfl 2 rfl dX12_likelies_43 ?_
        refine x_lconst (v := 0) C (by decide) dX12_likelies_44 ?_
        obtain ⟨c25, h⟩ := h
        refine x_last C ob397.1 ob397.2 c25 rfl dX12_likelies_45 ?_
        refine x_mu (fun μ26 e_μ26 => ?_)
        have h := h μ26 e_μ26
        refine x_iconst (v := 0) C (by decide) dX12_likelies_46 ?_
        refine x_istore_n C [(3, .int 0), (0, .ref 358), (1, .int p1), (2, .int x.1)] rfl (Nat.le_of_ble_eq_true rfl) rfl dX12_likelies_47 ?_
        refine x_sub [(0, .ref 358), (1, .int p1), (2, .int x.1), (3, .int 0)] [1, 2, 3, 0] rfl ?_
        exact G12_likelies_L48_ok C hd hr hK2 h
      · have h := h.2 c24
        refine x_goto (tgt := 85) C dX12_likelies_36 (by decide) ?_
        refine x_iinc (v := (x.1 + 1)) C [(2, .int (x.1 + 1)), (0, .ref 358), (1, .int p1)] 2 rfl (congrArg (fun z => x.1 + z) (by decide : Int32.ofInt (1) = 1)) (Nat.le_of_ble_eq_true rfl) rfl dX12_likelies_85 ?_
        refine x_goto (tgt := 2) C dX12_likelies_88 (by decide) ?_
        refine x_sub [(0, .ref 358), (1, .int p1), (2, .int (x.1 + 1))] [1, 2, 0] rfl ?_
        exact hK2 _ _ h
theorem G12_likelies_L2_ok {p : Program} {e : Env} {s : State} {m : MethodId} {args : Array Value} {below : List Frame} {meth : Method} {c : Code} {l : Launch} {φ : Nat → Nat} {tc : Nat → ClassId} {D : va_G} {s0 : State} {dR : Nat} (C : CX p s m args meth c φ tc D s0 cX12_likelies RX12 4) (hd : G12_likelies_dep ≤ dR) (hr : meth.sig.returnType = none)  {p1 : Int32} {Q : MM → Prop}  {x : Int32 × MM}    (h : Lp (G12_likelies_L2 p1 Q) x) : WX p l e (rmX dR) s m args below meth c φ tc D 4 (MQ below (QX φ tc D (QV Q)) args s 0 0 (AX φ)) 2 [(0, .ref 358), (1, .int p1), (2, .int x.1)] [] x.2 := by
  obtain ⟨n, h⟩ := h
  induction n generalizing x with
  | zero => exact h.elim
  | succ n ih => exact G12_likelies_L2_b C hd hr   (fun z2 zμ hz => by have q := ih hz; exact q) h
set_option maxHeartbeats 4000000 in
set_option maxRecDepth 100000 in
theorem G12_likelies_met {l : Launch} {φ : Nat → Nat} {tc : Nat → ClassId} {D : va_G} {s0 : State} (hG : GX φ tc D s0) {dR : Nat} (hd : G12_likelies_dep ≤ dR) {v1 : Int32} {μ : MM} {Q : MM → Prop}  (h : G12_likelies v1 μ Q) : MX l φ tc D s0 dR yX12_likelies cX12_likelies 4 none [.ref 358, .int v1] μ (QV Q) := by
  refine MX.of (own := RX12) hG plX12 rfl (Nat.le_of_ble_eq_true rfl) (fun p e s m args below meth c C hr => ?_)
  refine x_sub [(0, .ref 358), (1, .int v1)] [0, 1] rfl ?_
  unfold G12_likelies at h
  refine x_iconst (v := 0) C (by decide) dX12_likelies_0 ?_
  refine x_istore_n C [(2, .int 0), (0, .ref 358), (1, .int v1)] rfl (Nat.le_of_ble_eq_true rfl) rfl dX12_likelies_1 ?_
  refine x_sub [(0, .ref 358), (1, .int v1), (2, .int 0)] [1, 2, 0] rfl ?_
  exact G12_likelies_L2_ok C hd hr  h
set_option maxHeartbeats 4000000 in
set_option maxRecDepth 100000 in
theorem G12_named_J150_ok {p : Program} {e : Env} {s : State} {m : MethodId} {args : Array Value} {below : List Frame} {meth : Method} {c : Code} {l : Launch} {φ : Nat → Nat} {tc : Nat → ClassId} {D : va_G} {s0 : State} {dR : Nat} (C : CX p s m args meth c φ tc D s0 cX12_named RX12 10) (hd : G12_named_dep ≤ dR) (hr : meth.sig.returnType = (some .int))  {p2 : Int32} {p3 : Int32} {p4 : Int64} {p8 : Int32} {q0 : Int64} {q1 : Int64} {Q : Int32 → MM → Prop} {K47 : Int32 × Int64 × Int64 × Int32 × MM → Prop} {μ : MM}   (hK47 : ∀ (z3 : Int32) (z4 : Int64) (z6 : Int64) (z8 : Int32) (zμ : MM), K47 (z3, z4, z6, z8, zμ) → WX p l e (rmX dR) s m args below meth c φ tc D 10 (MQ below (QX φ tc D (QI Q)) args s 0 0 (AX φ)) 47 [(0, .ref 358), (2, .int p2), (3, .int z3), (4, .long z4), (6, .long z6), (8, .int z8)] [] zμ) (h : G12_named_J150 p2 p3 p4 p8 q0 q1 μ K47 Q) : WX p l e (rmX dR) s m args below meth c φ tc D 10 (MQ below (QX φ tc D (QI Q)) args s 0 0 (AX φ)) 150 [(0, .ref 358), (2, .int p2), (3, .int p3), (4, .long p4), (8, .int p8)] [.long q0, .long q1] μ := by
  unfold G12_named_J150 at h
  refine x_ladd C dX12_named_150 ?_
  refine x_topl (fun y42 e_y42 => ?_)
  have h := h y42 e_y42
  refine x_lstore C [(6, .long y42), (0, .ref 358), (2, .int p2), (3, .int p3), (4, .long p4), (8, .int p8)] (Nat.le_of_ble_eq_true rfl) rfl dX12_named_151 ?_
  refine x_iinc (v := (p8 + 1)) C [(8, .int (p8 + 1)), (6, .long y42), (0, .ref 358), (2, .int p2), (3, .int p3), (4, .long p4)] 5 rfl (congrArg (fun z => p8 + z) (by decide : Int32.ofInt (1) = 1)) (Nat.le_of_ble_eq_true rfl) rfl dX12_named_153 ?_
  refine x_goto (tgt := 47) C dX12_named_156 (by decide) ?_
  refine x_sub [(0, .ref 358), (2, .int p2), (3, .int p3), (4, .long p4), (6, .long y42), (8, .int (p8 + 1))] [2, 3, 4, 5, 1, 0] rfl ?_
  exact hK47 _ _ _ _ _ h
set_option maxHeartbeats 4000000 in
set_option maxRecDepth 100000 in
theorem G12_named_J129_ok {p : Program} {e : Env} {s : State} {m : MethodId} {args : Array Value} {below : List Frame} {meth : Method} {c : Code} {l : Launch} {φ : Nat → Nat} {tc : Nat → ClassId} {D : va_G} {s0 : State} {dR : Nat} (C : CX p s m args meth c φ tc D s0 cX12_named RX12 10) (hd : G12_named_dep ≤ dR) (hr : meth.sig.returnType = (some .int))  {p2 : Int32} {p3 : Int32} {p6 : Int64} {p8 : Int32} {p9 : Int32} {q0 : Int64} {q1 : Int64} {Q : Int32 → MM → Prop} {K47 : Int32 × Int64 × Int64 × Int32 × MM → Prop} {μ : MM}   (hK47 : ∀ (z3 : Int32) (z4 : Int64) (z6 : Int64) (z8 : Int32) (zμ : MM), K47 (z3, z4, z6, z8, zμ) → WX p l e (rmX dR) s m args below meth c φ tc D 10 (MQ below (QX φ tc D (QI Q)) args s 0 0 (AX φ)) 47 [(0, .ref 358), (2, .int p2), (3, .int z3), (4, .long z4), (6, .long z6), (8, .int z8)] [] zμ) (h : G12_named_J129 p2 p3 p6 p8 p9 q0 q1 μ K47 Q) : WX p l e (rmX dR) s m args below meth c φ tc D 10 (MQ below (QX φ tc D (QI Q)) args s 0 0 (AX φ)) 129 [(0, .ref 358), (2, .int p2), (3, .int p3), (6, .long p6), (8, .int p8), (9, .int p9)] [.long q0, .long q1] μ := by
  unfold G12_named_J129 at h
  refine x_ladd C dX12_named_129 ?_
  refine x_topl (fun y39 e_y39 => ?_)
  have h := h y39 e_y39
  refine x_lstore C [(4, .long y39), (0, .ref 358), (2, .int p2), (3, .int p3), (6, .long p6), (8, .int p8), (9, .int p9)] (Nat.le_of_ble_eq_true rfl) rfl dX12_named_130 ?_
  refine x_lload C 4 rfl dX12_named_132 ?_
  refine x_iload C 6 rfl dX12_named_134 ?_
  refine x_if_eq (tgt := 143) C dX12_named_136 (by decide) (fun c40 => ?_) (fun c40 => ?_)
  · have h := h.1 c40
    refine x_aload_n C rfl 1 rfl dX12_named_143 ?_
    refine x_getR (r := 397) C (j := 55) ob358.1 ob358.2 (Nat.le_of_ble_eq_true rfl) (Nat.le_of_ble_eq_true rfl) (fun _ _ _ => rfl) r_358_55 tw_9_21 dX12_named_144 ?_
    refine x_iload C 5 rfl dX12_named_147 ?_
    obtain ⟨c41, h⟩ := h
    refine x_lald C ob397.1 ob397.2 c41 rfl dX12_named_149 ?_
    refine x_sub [(0, .ref 358), (2, .int p2), (3, .int p3), (4, .long y39), (8, .int p8)] [1, 2, 3, 0, 5] rfl ?_
    exact G12_named_J150_ok C hd hr hK47 h
  · have h := h.2 c40
    refine x_lconst (v := 0) C (by decide) dX12_named_139 ?_
    refine x_goto (tgt := 150) C dX12_named_140 (by decide) ?_
    refine x_sub [(0, .ref 358), (2, .int p2), (3, .int p3), (4, .long y39), (8, .int p8)] [1, 2, 3, 0, 5] rfl ?_
    exact G12_named_J150_ok C hd hr hK47 h
set_option maxHeartbeats 4000000 in
set_option maxRecDepth 100000 in
theorem G12_named_J105_ok {p : Program} {e : Env} {s : State} {m : MethodId} {args : Array Value} {below : List Frame} {meth : Method} {c : Code} {l : Launch} {φ : Nat → Nat} {tc : Nat → ClassId} {D : va_G} {s0 : State} {dR : Nat} (C : CX p s m args meth c φ tc D s0 cX12_named RX12 10) (hd : G12_named_dep ≤ dR) (hr : meth.sig.returnType = (some .int))  {p2 : Int32} {p4 : Int64} {p6 : Int64} {p8 : Int32} {p9 : Int32} {q0 : Int32} {q1 : Int32} {Q : Int32 → MM → Prop} {K47 : Int32 × Int64 × Int64 × Int32 × MM → Prop} {μ : MM}   (hK47 : ∀ (z3 : Int32) (z4 : Int64) (z6 : Int64) (z8 : Int32) (zμ : MM), K47 (z3, z4, z6, z8, zμ) → WX p l e (rmX dR) s m args below meth c φ tc D 10 (MQ below (QX φ tc D (QI Q)) args s 0 0 (AX φ)) 47 [(0, .ref 358), (2, .int p2), (3, .int z3), (4, .long z4), (6, .long z6), (8, .int z8)] [] zμ) (h : G12_named_J105 p2 p4 p6 p8 p9 q0 q1 μ K47 Q) : WX p l e (rmX dR) s m args below meth c φ tc D 10 (MQ below (QX φ tc D (QI Q)) args s 0 0 (AX φ)) 105 [(0, .ref 358), (2, .int p2), (4, .long p4), (6, .long p6), (8, .int p8), (9, .int p9)] [.int q0, .int q1] μ := by
  unfold G12_named_J105 at h
  refine x_ior C dX12_named_105 ?_
  refine x_topi (fun y37 e_y37 => ?_)
  have h := h y37 e_y37
  refine x_istore_n C [(3, .int y37), (0, .ref 358), (2, .int p2), (4, .long p4), (6, .long p6), (8, .int p8), (9, .int p9)] rfl (Nat.le_of_ble_eq_true rfl) rfl dX12_named_106 ?_
  refine x_lload C 3 rfl dX12_named_107 ?_
  refine x_iload C 6 rfl dX12_named_109 ?_
  refine x_if_eq (tgt := 128) C dX12_named_111 (by decide) (fun c38 => ?_) (fun c38 => ?_)
  · have h := h.1 c38
    refine x_lconst (v := 0) C (by decide) dX12_named_128 ?_
    refine x_sub [(0, .ref 358), (2, .int p2), (3, .int y37), (6, .long p6), (8, .int p8), (9, .int p9)] [1, 2, 0, 4, 5, 6] rfl ?_
    exact G12_named_J129_ok C hd hr hK47 h
  · have h := h.2 c38
    refine x_ldc2 (v := 1000000) C tw_8_57 dX12_named_114 ?_
    refine x_aload_n C rfl 1 rfl dX12_named_117 ?_
    refine x_getR (r := 397) C (j := 55) ob358.1 ob358.2 (Nat.le_of_ble_eq_true rfl) (Nat.le_of_ble_eq_true rfl) (fun _ _ _ => rfl) r_358_55 tw_9_21 dX12_named_118 ?_
    refine x_iload C 5 rfl dX12_named_121 ?_
    obtain ⟨c43, h⟩ := h
    refine x_lald C ob397.1 ob397.2 c43 rfl dX12_named_123 ?_
    refine x_lsub C dX12_named_124 ?_
    refine x_goto (tgt := 129) C dX12_named_125 (by decide) ?_
    refine x_sub [(0, .ref 358), (2, .int p2), (3, .int y37), (6, .long p6), (8, .int p8), (9, .int p9)] [1, 2, 0, 4, 5, 6] rfl ?_
    exact G12_named_J129_ok C hd hr hK47 h
set_option maxHeartbeats 4000000 in
set_option maxRecDepth 100000 in
theorem G12_named_J89_ok {p : Program} {e : Env} {s : State} {m : MethodId} {args : Array Value} {below : List Frame} {meth : Method} {c : Code} {l : Launch} {φ : Nat → Nat} {tc : Nat → ClassId} {D : va_G} {s0 : State} {dR : Nat} (C : CX p s m args meth c φ tc D s0 cX12_named RX12 10) (hd : G12_named_dep ≤ dR) (hr : meth.sig.returnType = (some .int))  {p2 : Int32} {p3 : Int32} {p4 : Int64} {p6 : Int64} {p8 : Int32} {q0 : Int32} {Q : Int32 → MM → Prop} {K47 : Int32 × Int64 × Int64 × Int32 × MM → Prop} {μ : MM}   (hK47 : ∀ (z3 : Int32) (z4 : Int64) (z6 : Int64) (z8 : Int32) (zμ : MM), K47 (z3, z4, z6, z8, zμ) → WX p l e (rmX dR) s m args below meth c φ tc D 10 (MQ below (QX φ tc D (QI Q)) args s 0 0 (AX φ)) 47 [(0, .ref 358), (2, .int p2), (3, .int z3), (4, .long z4), (6, .long z6), (8, .int z8)] [] zμ) (h : G12_named_J89 p2 p3 p4 p6 p8 q0 μ K47 Q) : WX p l e (rmX dR) s m args below meth c φ tc D 10 (MQ below (QX φ tc D (QI Q)) args s 0 0 (AX φ)) 89 [(0, .ref 358), (2, .int p2), (3, .int p3), (4, .long p4), (6, .long p6), (8, .int p8)] [.int q0] μ := by
  unfold G12_named_J89 at h
  refine x_istore C [(9, .int q0), (0, .ref 358), (2, .int p2), (3, .int p3), (4, .long p4), (6, .long p6), (8, .int p8)] (Nat.le_of_ble_eq_true rfl) rfl dX12_named_89 ?_
  refine x_iload_n C rfl 3 rfl dX12_named_91 ?_
  refine x_iload C 0 rfl dX12_named_92 ?_
  refine x_if_eq (tgt := 104) C dX12_named_94 (by decide) (fun c36 => ?_) (fun c36 => ?_)
  · have h := h.1 c36
    refine x_iconst (v := 0) C (by decide) dX12_named_104 ?_
    refine x_sub [(0, .ref 358), (2, .int p2), (4, .long p4), (6, .long p6), (8, .int p8), (9, .int q0)] [1, 2, 4, 5, 6, 0] rfl ?_
    exact G12_named_J105_ok C hd hr hK47 h
  · have h := h.2 c36
    refine x_iconst (v := 1) C (by decide) dX12_named_97 ?_
    refine x_iload C 6 rfl dX12_named_98 ?_
    refine x_ishl C dX12_named_100 ?_
    refine x_goto (tgt := 105) C dX12_named_101 (by decide) ?_
    refine x_sub [(0, .ref 358), (2, .int p2), (4, .long p4), (6, .long p6), (8, .int p8), (9, .int q0)] [1, 2, 4, 5, 6, 0] rfl ?_
    exact G12_named_J105_ok C hd hr hK47 h
set_option maxHeartbeats 4000000 in
set_option maxRecDepth 100000 in
theorem G12_named_L47_b {p : Program} {e : Env} {s : State} {m : MethodId} {args : Array Value} {below : List Frame} {meth : Method} {c : Code} {l : Launch} {φ : Nat → Nat} {tc : Nat → ClassId} {D : va_G} {s0 : State} {dR : Nat} (C : CX p s m args meth c φ tc D s0 cX12_named RX12 10) (hd : G12_named_dep ≤ dR) (hr : meth.sig.returnType = (some .int))  {p2 : Int32} {Q : Int32 → MM → Prop} {K47 : Int32 × Int64 × Int64 × Int32 × MM → Prop} {x : Int32 × Int64 × Int64 × Int32 × MM}   (hK47 : ∀ (z3 : Int32) (z4 : Int64) (z6 : Int64) (z8 : Int32) (zμ : MM), K47 (z3, z4, z6, z8, zμ) → WX p l e (rmX dR) s m args below meth c φ tc D 10 (MQ below (QX φ tc D (QI Q)) args s 0 0 (AX φ)) 47 [(0, .ref 358), (2, .int p2), (3, .int z3), (4, .long z4), (6, .long z6), (8, .int z8)] [] zμ) (h : G12_named_L47 p2 Q K47 x) : WX p l e (rmX dR) s m args below meth c φ tc D 10 (MQ below (QX φ tc D (QI Q)) args s 0 0 (AX φ)) 47 [(0, .ref 358), (2, .int p2), (3, .int x.1), (4, .long x.2.1), (6, .long x.2.2.1), (8, .int x.2.2.2.1)] [] x.2.2.2.2 := by
  unfold G12_named_L47 at h
  refine x_iload C 5 rfl dX12_named_47 ?_
  refine x_aload_n C rfl 0 rfl dX12_named_49 ?_
  refine x_getI C (j := 8) ob358.1 ob358.2 (Nat.le_of_ble_eq_true rfl) (Nat.le_of_ble_eq_true rfl) (Or.inl rfl) tw_8_214 dX12_named_50 ?_
  refine x_icmp_ge (tgt := 159) C dX12_named_53 (by decide) (fun c25 => ?_) (fun c25 => ?_)
  · have h := h.1 c25
    refine x_aload_n C rfl 0 rfl dX12_named_159 ?_
    refine x_iconst (v := 0) C (by decide) dX12_named_160 ?_
    refine x_putI C (j := 1) ob358.1 ob358.2 (Nat.le_of_ble_eq_true rfl) (Nat.le_of_ble_eq_true rfl) (Or.inl rfl) rfl rfl rfl tw_8_207 dX12_named_161 ?_
    refine x_mu (fun μ26 e_μ26 => ?_)
    have h := h μ26 e_μ26
    refine x_aload_n C rfl 0 rfl dX12_named_164 ?_
    refine x_iload_n C rfl 2 rfl dX12_named_165 ?_
    refine x_i2l C dX12_named_166 ?_
    refine x_callV (dC := G12_enters_dep) (as := [.long (x.1.toInt64)]) (st := []) C rfl (Nat.le_trans (Nat.le_of_ble_eq_true rfl) hd) (Nat.le_of_ble_eq_true rfl) ob358.1 ob358.2 (Nat.le_of_ble_eq_true rfl) rfl ts_10_1 tw_7_161 tw_7_159 tc_7_162 tw_1_13 hyX12 hnX12_enters rfl (Nat.le_of_ble_eq_true rfl) dX12_named_167 (G12_enters_met C.2.2.2.2.2.2.2.1 (Nat.le_refl _)  h) (fun r0 μ27 hq => ?_)
    obtain ⟨rfl, h⟩ := hq
    refine x_st [] rfl ?_
    refine x_aload_n C rfl 0 rfl dX12_named_170 ?_
    refine x_lload C 3 rfl dX12_named_171 ?_
    refine x_callV (dC := G12_enters_dep) (as := [.long x.2.1]) (st := []) C rfl (Nat.le_trans (Nat.le_of_ble_eq_true rfl) hd) (Nat.le_of_ble_eq_true rfl) ob358.1 ob358.2 (Nat.le_of_ble_eq_true rfl) rfl ts_10_1 tw_7_161 tw_7_159 tc_7_162 tw_1_13 hyX12 hnX12_enters rfl (Nat.le_of_ble_eq_true rfl) dX12_named_173 (G12_enters_met C.2.2.2.2.2.2.2.1 (Nat.le_refl _)  h) (fun r0 μ28 hq => ?_)
    obtain ⟨rfl, h⟩ := hq
    refine x_st [] rfl ?_
    refine x_aload_n C rfl 0 rfl dX12_named_176 ?_
    refine x_lload C 4 rfl dX12_named_177 ?_
    refine x_callV (dC := G12_enters_dep) (as := [.long x.2.2.1]) (st := []) C rfl (Nat.le_trans (Nat.le_of_ble_eq_true rfl) hd) (Nat.le_of_ble_eq_true rfl) ob358.1 ob358.2 (Nat.le_of_ble_eq_true rfl) rfl ts_10_1 tw_7_161 tw_7_159 tc_7_162 tw_1_13 hyX12 hnX12_enters rfl (Nat.le_of_ble_eq_true rfl) dX12_named_179 (G12_enters_met C.2.2.2.2.2.2.2.1 (Nat.le_refl _)  h) (fun r0 μ29 hq => ?_)
    obtain ⟨rfl, h⟩ := hq
    refine x_st [] rfl ?_
    refine x_iload_n C rfl 2 rfl dX12_named_182 ?_
    refine x_callS (dC := GJ6_bitCount_0f7a4_dep) (as := [.int x.1]) (st := []) C rfl (Nat.le_trans (Nat.le_of_ble_eq_true rfl) hd) (Nat.le_of_ble_eq_true rfl) tw_4_148 tw_7_201 tc_4_149 tw_1_24 hyJ6 hnJ6_bitCount_0f7a4 rfl (Nat.le_of_ble_eq_true rfl) dX12_named_183 (GJ6_bitCount_0f7a4_met C.2.2.2.2.2.2.2.1 (Nat.le_refl _)  h) (fun r0 μ30 hq => ?_)
    obtain ⟨r31, rfl, h⟩ := hq
    refine x_st [.int r31] rfl ?_
    exact x_iret C hr dX12_named_186 ⟨_, rfl, h⟩
  · have h := h.2 c25
    refine x_aload_n C rfl 0 rfl dX12_named_56 ?_
    refine x_getR (r := 397) C (j := 55) ob358.1 ob358.2 (Nat.le_of_ble_eq_true rfl) (Nat.le_of_ble_eq_true rfl) (fun _ _ _ => rfl) r_358_55 tw_9_21 dX12_named_57 ?_
    refine x_iload C 5 rfl dX12_named_60 ?_
    obtain ⟨c32, h⟩ := h
    refine x_lald C ob397.1 ob397.2 c32 rfl dX12_named_62 ?_
    refine x_lconst (v := 0) C (by decide) dX12_named_63 ?_
    refine x_lcmp C dX12_named_64 ?_
    refine x_if_ge (tgt := 71) C dX12_named_65 (by decide) (fun c33 => ?_) (fun c33 => ?_)
    · have h := h.1 c33
      refine x_aload_n C rfl 0 rfl dX12_named_71 ?_
      refine x_getR (r := 397) C (j := 55) ob358.1 ob358.2 (Nat.le_of_ble_eq_true rfl) (Nat.le_of_ble_eq_true rfl) (fun _ _ _ => rfl) r_358_55 tw_9_21 dX12_named_72 ?_
      refine x_iload C 5 rfl dX12_named_75 ?_
      obtain ⟨c34, h⟩ := h
      refine x_lald C ob397.1 ob397.2 c34 rfl dX12_named_77 ?_
      refine x_iload_n C rfl 1 rfl dX12_named_78 ?_
      refine x_i2l C dX12_named_79 ?_
      refine x_lcmp C dX12_named_80 ?_
      refine x_if_lt (tgt := 88) C dX12_named_81 (by decide) (fun c35 => ?_) (fun c35 => ?_)
      · have h := h.1 c35
        refine x_iconst (v := 0) C (by decide) dX12_named_88 ?_
        exact G12_named_J89_ok C hd hr hK47 h
      · have h := h.2 c35
        refine x_iconst (v := 1) C (by decide) dX12_named_84 ?_
        refine x_goto (tgt := 89) C dX12_named_85 (by decide) ?_
        exact G12_named_J89_ok C hd hr hK47 h
    · have h := h.2 c33
      refine x_goto (tgt := 153) C dX12_named_68 (by decide) ?_
      refine x_iinc (v := (x.2.2.2.1 + 1)) C [(8, .int (x.2.2.2.1 + 1)), (0, .ref 358), (2, .int p2), (3, .int x.1), (4, .long x.2.1), (6, .long x.2.2.1)] 5 rfl (congrArg (fun z => x.2.2.2.1 + z) (by decide : Int32.ofInt (1) = 1)) (Nat.le_of_ble_eq_true rfl) rfl dX12_named_153 ?_
      refine x_goto (tgt := 47) C dX12_named_156 (by decide) ?_
      refine x_sub [(0, .ref 358), (2, .int p2), (3, .int x.1), (4, .long x.2.1), (6, .long x.2.2.1), (8, .int (x.2.2.2.1 + 1))] [1, 2, 3, 4, 5, 0] rfl ?_
      exact hK47 _ _ _ _ _ h
theorem G12_named_L47_ok {p : Program} {e : Env} {s : State} {m : MethodId} {args : Array Value} {below : List Frame} {meth : Method} {c : Code} {l : Launch} {φ : Nat → Nat} {tc : Nat → ClassId} {D : va_G} {s0 : State} {dR : Nat} (C : CX p s m args meth c φ tc D s0 cX12_named RX12 10) (hd : G12_named_dep ≤ dR) (hr : meth.sig.returnType = (some .int))  {p2 : Int32} {Q : Int32 → MM → Prop}  {x : Int32 × Int64 × Int64 × Int32 × MM}    (h : Lp (G12_named_L47 p2 Q) x) : WX p l e (rmX dR) s m args below meth c φ tc D 10 (MQ below (QX φ tc D (QI Q)) args s 0 0 (AX φ)) 47 [(0, .ref 358), (2, .int p2), (3, .int x.1), (4, .long x.2.1), (6, .long x.2.2.1), (8, .int x.2.2.2.1)] [] x.2.2.2.2 := by
  obtain ⟨n, h⟩ := h
  induction n generalizing x with
  | zero => exact h.elim
  | succ n ih => exact G12_named_L47_b C hd hr   (fun z3 z4 z6 z8 zμ hz => by have q := ih hz; exact q) h
set_option maxHeartbeats 4000000 in
set_option maxRecDepth 100000 in
theorem G12_named_met {l : Launch} {φ : Nat → Nat} {tc : Nat → ClassId} {D : va_G} {s0 : State} (hG : GX φ tc D s0) {dR : Nat} (hd : G12_named_dep ≤ dR) {v1 : Int32} {v2 : Int32} {μ : MM} {Q : Int32 → MM → Prop}  (h : G12_named v1 v2 μ Q) : MX l φ tc D s0 dR yX12_named cX12_named 10 (some .int) [.ref 358, .int v1, .int v2] μ (QI Q) := by
  refine MX.of (own := RX12) hG plX12 rfl (Nat.le_of_ble_eq_true rfl) (fun p e s m args below meth c C hr => ?_)
  refine x_sub [(0, .ref 358), (1, .int v1), (2, .int v2)] [0, 1, 2] rfl ?_
  unfold G12_named at h
  refine x_aload_n C rfl 0 rfl dX12_named_0 ?_
  refine x_iconst (v := 0) C (by decide) dX12_named_1 ?_
  refine x_putI C (j := 0) ob358.1 ob358.2 (Nat.le_of_ble_eq_true rfl) (Nat.le_of_ble_eq_true rfl) (Or.inl rfl) rfl rfl rfl tw_8_206 dX12_named_2 ?_
  refine x_mu (fun μ17 e_μ17 => ?_)
  have h := h μ17 e_μ17
  refine x_iload_n C rfl 1 rfl dX12_named_5 ?_
  refine x_i2l C dX12_named_6 ?_
  refine x_lconst (v := 1) C (by decide) dX12_named_7 ?_
  refine x_ldc2 (v := 15) C tw_8_56 dX12_named_8 ?_
  refine x_callS (dC := G12_in_dep) (as := [.long (v1.toInt64), .long 1, .long 15]) (st := []) C rfl (Nat.le_trans (Nat.le_of_ble_eq_true rfl) hd) (Nat.le_of_ble_eq_true rfl) tw_6_183 tw_6_182 tc_6_184 tw_1_13 hyX12 hnX12_in rfl (Nat.le_of_ble_eq_true rfl) dX12_named_11 (G12_in_met C.2.2.2.2.2.2.2.1 (Nat.le_refl _)  h) (fun r0 μ18 hq => ?_)
  obtain ⟨r19, rfl, h⟩ := hq
  refine x_st [.int r19] rfl ?_
  refine x_if_eq (tgt := 29) C dX12_named_14 (by decide) (fun c20 => ?_) (fun c20 => ?_)
  · have h := h.1 c20
    refine x_iconst (v := (-1)) C (by decide) dX12_named_29 ?_
    exact x_iret C hr dX12_named_30 ⟨_, rfl, h⟩
  · have h := h.2 c20
    refine x_iload_n C rfl 2 rfl dX12_named_17 ?_
    refine x_i2l C dX12_named_18 ?_
    refine x_lconst (v := 0) C (by decide) dX12_named_19 ?_
    refine x_ldc2 (v := 1000000) C tw_8_57 dX12_named_20 ?_
    refine x_callS (dC := G12_in_dep) (as := [.long (v2.toInt64), .long 0, .long 1000000]) (st := []) C rfl (Nat.le_trans (Nat.le_of_ble_eq_true rfl) hd) (Nat.le_of_ble_eq_true rfl) tw_6_183 tw_6_182 tc_6_184 tw_1_13 hyX12 hnX12_in rfl (Nat.le_of_ble_eq_true rfl) dX12_named_23 (G12_in_met C.2.2.2.2.2.2.2.1 (Nat.le_refl _)  h) (fun r0 μ21 hq => ?_)
    obtain ⟨r22, rfl, h⟩ := hq
    refine x_st [.int r22] rfl ?_
    refine x_if_ne (tgt := 31) C dX12_named_26 (by decide) (fun c23 => ?_) (fun c23 => ?_)
    · have h := h.1 c23
      refine x_aload_n C rfl 0 rfl dX12_named_31 ?_
      refine x_iload_n C rfl 1 rfl dX12_named_32 ?_
      refine x_callV (dC := G12_likelies_dep) (as := [.int v1]) (st := []) C rfl (Nat.le_trans (Nat.le_of_ble_eq_true rfl) hd) (Nat.le_of_ble_eq_true rfl) ob358.1 ob358.2 (Nat.le_of_ble_eq_true rfl) rfl ts_10_12 tw_8_60 tw_8_58 tc_8_61 tw_1_13 hyX12 hnX12_likelies rfl (Nat.le_of_ble_eq_true rfl) dX12_named_33 (G12_likelies_met C.2.2.2.2.2.2.2.1 (Nat.le_refl _)  h) (fun r0 μ24 hq => ?_)
      obtain ⟨rfl, h⟩ := hq
      refine x_st [] rfl ?_
      refine x_iconst (v := 0) C (by decide) dX12_named_36 ?_
      refine x_istore_n C [(3, .int 0), (0, .ref 358), (1, .int v1), (2, .int v2)] rfl (Nat.le_of_ble_eq_true rfl) rfl dX12_named_37 ?_
      refine x_lconst (v := 0) C (by decide) dX12_named_38 ?_
      refine x_lstore C [(4, .long 0), (3, .int 0), (0, .ref 358), (1, .int v1), (2, .int v2)] (Nat.le_of_ble_eq_true rfl) rfl dX12_named_39 ?_
      refine x_lconst (v := 0) C (by decide) dX12_named_41 ?_
      refine x_lstore C [(6, .long 0), (4, .long 0), (3, .int 0), (0, .ref 358), (1, .int v1), (2, .int v2)] (Nat.le_of_ble_eq_true rfl) rfl dX12_named_42 ?_
      refine x_iconst (v := 0) C (by decide) dX12_named_44 ?_
      refine x_istore C [(8, .int 0), (6, .long 0), (4, .long 0), (3, .int 0), (0, .ref 358), (1, .int v1), (2, .int v2)] (Nat.le_of_ble_eq_true rfl) rfl dX12_named_45 ?_
      refine x_sub [(0, .ref 358), (2, .int v2), (3, .int 0), (4, .long 0), (6, .long 0), (8, .int 0)] [4, 6, 3, 2, 1, 0] rfl ?_
      exact G12_named_L47_ok C hd hr  h
    · have h := h.2 c23
      refine x_iconst (v := (-1)) C (by decide) dX12_named_29 ?_
      exact x_iret C hr dX12_named_30 ⟨_, rfl, h⟩
set_option maxHeartbeats 4000000 in
set_option maxRecDepth 100000 in
theorem G12_sure_L51_b {p : Program} {e : Env} {s : State} {m : MethodId} {args : Array Value} {below : List Frame} {meth : Method} {c : Code} {l : Launch} {φ : Nat → Nat} {tc : Nat → ClassId} {D : va_G} {s0 : State} {dR : Nat} (C : CX p s m args meth c φ tc D s0 cX12_sure RX12 7) (hd : G12_sure_dep ≤ dR) (hr : meth.sig.returnType = (some .int))  {p2 : Int32} {p3 : Int32} {Q : Int32 → MM → Prop} {K38 : Int32 × MM → Prop} {K51 : Int64 × Int32 × MM → Prop} {x : Int64 × Int32 × MM}   (hK38 : ∀ (z3 : Int32) (zμ : MM), K38 (z3, zμ) → WX p l e (rmX dR) s m args below meth c φ tc D 7 (MQ below (QX φ tc D (QI Q)) args s 0 0 (AX φ)) 38 [(0, .ref 358), (2, .int p2), (3, .int z3)] [] zμ) (hK51 : ∀ (z4 : Int64) (z6 : Int32) (zμ : MM), K51 (z4, z6, zμ) → WX p l e (rmX dR) s m args below meth c φ tc D 7 (MQ below (QX φ tc D (QI Q)) args s 0 0 (AX φ)) 51 [(0, .ref 358), (2, .int p2), (3, .int p3), (4, .long z4), (6, .int z6)] [] zμ) (h : G12_sure_L51 p2 p3 K38 Q K51 x) : WX p l e (rmX dR) s m args below meth c φ tc D 7 (MQ below (QX φ tc D (QI Q)) args s 0 0 (AX φ)) 51 [(0, .ref 358), (2, .int p2), (3, .int p3), (4, .long x.1), (6, .int x.2.1)] [] x.2.2 := by
  unfold G12_sure_L51 at h
  refine x_iload C 4 rfl dX12_sure_51 ?_
  refine x_aload_n C rfl 0 rfl dX12_sure_53 ?_
  refine x_getI C (j := 8) ob358.1 ob358.2 (Nat.le_of_ble_eq_true rfl) (Nat.le_of_ble_eq_true rfl) (Or.inl rfl) tw_8_214 dX12_sure_54 ?_
  refine x_icmp_ge (tgt := 99) C dX12_sure_57 (by decide) (fun c18 => ?_) (fun c18 => ?_)
  · have h := h.1 c18
    refine x_lload C 3 rfl dX12_sure_99 ?_
    refine x_iload_n C rfl 1 rfl dX12_sure_101 ?_
    refine x_i2l C dX12_sure_102 ?_
    refine x_lcmp C dX12_sure_103 ?_
    refine x_if_gt (tgt := 109) C dX12_sure_104 (by decide) (fun c19 => ?_) (fun c19 => ?_)
    · have h := h.1 c19
      refine x_iincW (v := (p3 + 1000)) C [(3, .int (p3 + 1000)), (0, .ref 358), (2, .int p2), (4, .long x.1), (6, .int x.2.1)] 2 rfl (congrArg (fun z => p3 + z) (by decide : Int32.ofInt (1000) = 1000)) (Nat.le_of_ble_eq_true rfl) rfl dX12_sure_109 ?_
      refine x_goto (tgt := 38) C dX12_sure_115 (by decide) ?_
      refine x_sub [(0, .ref 358), (2, .int p2), (3, .int (p3 + 1000))] [1, 2, 0] rfl ?_
      exact hK38 _ _ h
    · have h := h.2 c19
      refine x_iload_n C rfl 2 rfl dX12_sure_107 ?_
      exact x_iret C hr dX12_sure_108 ⟨_, rfl, h⟩
  · have h := h.2 c18
    refine x_lload C 3 rfl dX12_sure_60 ?_
    refine x_aload_n C rfl 0 rfl dX12_sure_62 ?_
    refine x_getR (r := 397) C (j := 55) ob358.1 ob358.2 (Nat.le_of_ble_eq_true rfl) (Nat.le_of_ble_eq_true rfl) (fun _ _ _ => rfl) r_358_55 tw_9_21 dX12_sure_63 ?_
    refine x_iload C 4 rfl dX12_sure_66 ?_
    obtain ⟨c20, h⟩ := h
    refine x_lald C ob397.1 ob397.2 c20 rfl dX12_sure_68 ?_
    refine x_iload_n C rfl 2 rfl dX12_sure_69 ?_
    refine x_i2l C dX12_sure_70 ?_
    refine x_lcmp C dX12_sure_71 ?_
    refine x_if_lt (tgt := 89) C dX12_sure_72 (by decide) (fun c21 => ?_) (fun c21 => ?_)
    · have h := h.1 c21
      refine x_lconst (v := 0) C (by decide) dX12_sure_89 ?_
      refine x_ladd C dX12_sure_90 ?_
      refine x_topl (fun y22 e_y22 => ?_)
      have h := h y22 e_y22
      refine x_lstore C [(4, .long y22), (0, .ref 358), (2, .int p2), (3, .int p3), (6, .int x.2.1)] (Nat.le_of_ble_eq_true rfl) rfl dX12_sure_91 ?_
      refine x_iinc (v := (x.2.1 + 1)) C [(6, .int (x.2.1 + 1)), (4, .long y22), (0, .ref 358), (2, .int p2), (3, .int p3)] 4 rfl (congrArg (fun z => x.2.1 + z) (by decide : Int32.ofInt (1) = 1)) (Nat.le_of_ble_eq_true rfl) rfl dX12_sure_93 ?_
      refine x_goto (tgt := 51) C dX12_sure_96 (by decide) ?_
      refine x_sub [(0, .ref 358), (2, .int p2), (3, .int p3), (4, .long y22), (6, .int (x.2.1 + 1))] [2, 3, 4, 1, 0] rfl ?_
      exact hK51 _ _ _ h
    · have h := h.2 c21
      refine x_ldc2 (v := 1000000) C tw_8_57 dX12_sure_75 ?_
      refine x_aload_n C rfl 0 rfl dX12_sure_78 ?_
      refine x_getR (r := 397) C (j := 55) ob358.1 ob358.2 (Nat.le_of_ble_eq_true rfl) (Nat.le_of_ble_eq_true rfl) (fun _ _ _ => rfl) r_358_55 tw_9_21 dX12_sure_79 ?_
      refine x_iload C 4 rfl dX12_sure_82 ?_
      obtain ⟨c23, h⟩ := h
      refine x_lald C ob397.1 ob397.2 c23 rfl dX12_sure_84 ?_
      refine x_lsub C dX12_sure_85 ?_
      refine x_goto (tgt := 90) C dX12_sure_86 (by decide) ?_
      refine x_ladd C dX12_sure_90 ?_
      refine x_topl (fun y24 e_y24 => ?_)
      have h := h y24 e_y24
      refine x_lstore C [(4, .long y24), (0, .ref 358), (2, .int p2), (3, .int p3), (6, .int x.2.1)] (Nat.le_of_ble_eq_true rfl) rfl dX12_sure_91 ?_
      refine x_iinc (v := (x.2.1 + 1)) C [(6, .int (x.2.1 + 1)), (4, .long y24), (0, .ref 358), (2, .int p2), (3, .int p3)] 4 rfl (congrArg (fun z => x.2.1 + z) (by decide : Int32.ofInt (1) = 1)) (Nat.le_of_ble_eq_true rfl) rfl dX12_sure_93 ?_
      refine x_goto (tgt := 51) C dX12_sure_96 (by decide) ?_
      refine x_sub [(0, .ref 358), (2, .int p2), (3, .int p3), (4, .long y24), (6, .int (x.2.1 + 1))] [2, 3, 4, 1, 0] rfl ?_
      exact hK51 _ _ _ h
theorem G12_sure_L51_ok {p : Program} {e : Env} {s : State} {m : MethodId} {args : Array Value} {below : List Frame} {meth : Method} {c : Code} {l : Launch} {φ : Nat → Nat} {tc : Nat → ClassId} {D : va_G} {s0 : State} {dR : Nat} (C : CX p s m args meth c φ tc D s0 cX12_sure RX12 7) (hd : G12_sure_dep ≤ dR) (hr : meth.sig.returnType = (some .int))  {p2 : Int32} {p3 : Int32} {Q : Int32 → MM → Prop} {K38 : Int32 × MM → Prop} {x : Int64 × Int32 × MM}   (hK38 : ∀ (z3 : Int32) (zμ : MM), K38 (z3, zμ) → WX p l e (rmX dR) s m args below meth c φ tc D 7 (MQ below (QX φ tc D (QI Q)) args s 0 0 (AX φ)) 38 [(0, .ref 358), (2, .int p2), (3, .int z3)] [] zμ) (h : Lp (G12_sure_L51 p2 p3 K38 Q) x) : WX p l e (rmX dR) s m args below meth c φ tc D 7 (MQ below (QX φ tc D (QI Q)) args s 0 0 (AX φ)) 51 [(0, .ref 358), (2, .int p2), (3, .int p3), (4, .long x.1), (6, .int x.2.1)] [] x.2.2 := by
  obtain ⟨n, h⟩ := h
  induction n generalizing x with
  | zero => exact h.elim
  | succ n ih => exact G12_sure_L51_b C hd hr  hK38 (fun z4 z6 zμ hz => by have q := ih hz; exact q) h
set_option maxHeartbeats 4000000 in
set_option maxRecDepth 100000 in
theorem G12_sure_L38_b {p : Program} {e : Env} {s : State} {m : MethodId} {args : Array Value} {below : List Frame} {meth : Method} {c : Code} {l : Launch} {φ : Nat → Nat} {tc : Nat → ClassId} {D : va_G} {s0 : State} {dR : Nat} (C : CX p s m args meth c φ tc D s0 cX12_sure RX12 7) (hd : G12_sure_dep ≤ dR) (hr : meth.sig.returnType = (some .int))  {p2 : Int32} {Q : Int32 → MM → Prop} {K38 : Int32 × MM → Prop} {x : Int32 × MM}   (hK38 : ∀ (z3 : Int32) (zμ : MM), K38 (z3, zμ) → WX p l e (rmX dR) s m args below meth c φ tc D 7 (MQ below (QX φ tc D (QI Q)) args s 0 0 (AX φ)) 38 [(0, .ref 358), (2, .int p2), (3, .int z3)] [] zμ) (h : G12_sure_L38 p2 Q K38 x) : WX p l e (rmX dR) s m args below meth c φ tc D 7 (MQ below (QX φ tc D (QI Q)) args s 0 0 (AX φ)) 38 [(0, .ref 358), (2, .int p2), (3, .int x.1)] [] x.2 := by
  unfold G12_sure_L38 at h
  refine x_iload_n C rfl 2 rfl dX12_sure_38 ?_
  refine x_ldcw (v := 1000000) C tw_8_34 dX12_sure_39 ?_
  refine x_icmp_gt (tgt := 118) C dX12_sure_42 (by decide) (fun c17 => ?_) (fun c17 => ?_)
  · have h := h.1 c17
    refine x_bipush (v := (-2)) C (by decide) dX12_sure_118 ?_
    exact x_iret C hr dX12_sure_120 ⟨_, rfl, h⟩
  · have h := h.2 c17
    refine x_lconst (v := 0) C (by decide) dX12_sure_45 ?_
    refine x_lstore C [(4, .long 0), (0, .ref 358), (2, .int p2), (3, .int x.1)] (Nat.le_of_ble_eq_true rfl) rfl dX12_sure_46 ?_
    refine x_iconst (v := 0) C (by decide) dX12_sure_48 ?_
    refine x_istore C [(6, .int 0), (4, .long 0), (0, .ref 358), (2, .int p2), (3, .int x.1)] (Nat.le_of_ble_eq_true rfl) rfl dX12_sure_49 ?_
    refine x_sub [(0, .ref 358), (2, .int p2), (3, .int x.1), (4, .long 0), (6, .int 0)] [2, 3, 4, 1, 0] rfl ?_
    exact G12_sure_L51_ok C hd hr hK38 h
theorem G12_sure_L38_ok {p : Program} {e : Env} {s : State} {m : MethodId} {args : Array Value} {below : List Frame} {meth : Method} {c : Code} {l : Launch} {φ : Nat → Nat} {tc : Nat → ClassId} {D : va_G} {s0 : State} {dR : Nat} (C : CX p s m args meth c φ tc D s0 cX12_sure RX12 7) (hd : G12_sure_dep ≤ dR) (hr : meth.sig.returnType = (some .int))  {p2 : Int32} {Q : Int32 → MM → Prop}  {x : Int32 × MM}    (h : Lp (G12_sure_L38 p2 Q) x) : WX p l e (rmX dR) s m args below meth c φ tc D 7 (MQ below (QX φ tc D (QI Q)) args s 0 0 (AX φ)) 38 [(0, .ref 358), (2, .int p2), (3, .int x.1)] [] x.2 := by
  obtain ⟨n, h⟩ := h
  induction n generalizing x with
  | zero => exact h.elim
  | succ n ih => exact G12_sure_L38_b C hd hr   (fun z3 zμ hz => by have q := ih hz; exact q) h
set_option maxHeartbeats 4000000 in
set_option maxRecDepth 100000 in
theorem G12_sure_met {l : Launch} {φ : Nat → Nat} {tc : Nat → ClassId} {D : va_G} {s0 : State} (hG : GX φ tc D s0) {dR : Nat} (hd : G12_sure_dep ≤ dR) {v1 : Int32} {v2 : Int32} {μ : MM} {Q : Int32 → MM → Prop}  (h : G12_sure v1 v2 μ Q) : MX l φ tc D s0 dR yX12_sure cX12_sure 7 (some .int) [.ref 358, .int v1, .int v2] μ (QI Q) := by
  refine MX.of (own := RX12) hG plX12 rfl (Nat.le_of_ble_eq_true rfl) (fun p e s m args below meth c C hr => ?_)
  refine x_sub [(0, .ref 358), (1, .int v1), (2, .int v2)] [0, 1, 2] rfl ?_
  unfold G12_sure at h
  refine x_aload_n C rfl 0 rfl dX12_sure_0 ?_
  refine x_iconst (v := 0) C (by decide) dX12_sure_1 ?_
  refine x_putI C (j := 0) ob358.1 ob358.2 (Nat.le_of_ble_eq_true rfl) (Nat.le_of_ble_eq_true rfl) (Or.inl rfl) rfl rfl rfl tw_8_206 dX12_sure_2 ?_
  refine x_mu (fun μ9 e_μ9 => ?_)
  have h := h μ9 e_μ9
  refine x_iload_n C rfl 1 rfl dX12_sure_5 ?_
  refine x_i2l C dX12_sure_6 ?_
  refine x_lconst (v := 1) C (by decide) dX12_sure_7 ?_
  refine x_ldc2 (v := 15) C tw_8_56 dX12_sure_8 ?_
  refine x_callS (dC := G12_in_dep) (as := [.long (v1.toInt64), .long 1, .long 15]) (st := []) C rfl (Nat.le_trans (Nat.le_of_ble_eq_true rfl) hd) (Nat.le_of_ble_eq_true rfl) tw_6_183 tw_6_182 tc_6_184 tw_1_13 hyX12 hnX12_in rfl (Nat.le_of_ble_eq_true rfl) dX12_sure_11 (G12_in_met C.2.2.2.2.2.2.2.1 (Nat.le_refl _)  h) (fun r0 μ10 hq => ?_)
  obtain ⟨r11, rfl, h⟩ := hq
  refine x_st [.int r11] rfl ?_
  refine x_if_eq (tgt := 29) C dX12_sure_14 (by decide) (fun c12 => ?_) (fun c12 => ?_)
  · have h := h.1 c12
    refine x_iconst (v := (-1)) C (by decide) dX12_sure_29 ?_
    exact x_iret C hr dX12_sure_30 ⟨_, rfl, h⟩
  · have h := h.2 c12
    refine x_iload_n C rfl 2 rfl dX12_sure_17 ?_
    refine x_i2l C dX12_sure_18 ?_
    refine x_lconst (v := 0) C (by decide) dX12_sure_19 ?_
    refine x_ldc2 (v := 24000000) C tw_8_67 dX12_sure_20 ?_
    refine x_callS (dC := G12_in_dep) (as := [.long (v2.toInt64), .long 0, .long 24000000]) (st := []) C rfl (Nat.le_trans (Nat.le_of_ble_eq_true rfl) hd) (Nat.le_of_ble_eq_true rfl) tw_6_183 tw_6_182 tc_6_184 tw_1_13 hyX12 hnX12_in rfl (Nat.le_of_ble_eq_true rfl) dX12_sure_23 (G12_in_met C.2.2.2.2.2.2.2.1 (Nat.le_refl _)  h) (fun r0 μ13 hq => ?_)
    obtain ⟨r14, rfl, h⟩ := hq
    refine x_st [.int r14] rfl ?_
    refine x_if_ne (tgt := 31) C dX12_sure_26 (by decide) (fun c15 => ?_) (fun c15 => ?_)
    · have h := h.1 c15
      refine x_aload_n C rfl 0 rfl dX12_sure_31 ?_
      refine x_iload_n C rfl 1 rfl dX12_sure_32 ?_
      refine x_callV (dC := G12_likelies_dep) (as := [.int v1]) (st := []) C rfl (Nat.le_trans (Nat.le_of_ble_eq_true rfl) hd) (Nat.le_of_ble_eq_true rfl) ob358.1 ob358.2 (Nat.le_of_ble_eq_true rfl) rfl ts_10_12 tw_8_60 tw_8_58 tc_8_61 tw_1_13 hyX12 hnX12_likelies rfl (Nat.le_of_ble_eq_true rfl) dX12_sure_33 (G12_likelies_met C.2.2.2.2.2.2.2.1 (Nat.le_refl _)  h) (fun r0 μ16 hq => ?_)
      obtain ⟨rfl, h⟩ := hq
      refine x_st [] rfl ?_
      refine x_iconst (v := 0) C (by decide) dX12_sure_36 ?_
      refine x_istore_n C [(3, .int 0), (0, .ref 358), (1, .int v1), (2, .int v2)] rfl (Nat.le_of_ble_eq_true rfl) rfl dX12_sure_37 ?_
      refine x_sub [(0, .ref 358), (2, .int v2), (3, .int 0)] [1, 3, 0] rfl ?_
      exact G12_sure_L38_ok C hd hr  h
    · have h := h.2 c15
      refine x_iconst (v := (-1)) C (by decide) dX12_sure_29 ?_
      exact x_iret C hr dX12_sure_30 ⟨_, rfl, h⟩
set_option maxHeartbeats 4000000 in
set_option maxRecDepth 100000 in
theorem G12_most_L105_b {p : Program} {e : Env} {s : State} {m : MethodId} {args : Array Value} {below : List Frame} {meth : Method} {c : Code} {l : Launch} {φ : Nat → Nat} {tc : Nat → ClassId} {D : va_G} {s0 : State} {dR : Nat} (C : CX p s m args meth c φ tc D s0 cX12_most RX12 8) (hd : G12_most_dep ≤ dR) (hr : meth.sig.returnType = (some .int))  {p1 : Int32} {p2 : Int32} {p4 : Int32} {p5 : Int32} {Q : Int32 → MM → Prop} {K91 : Int32 × Int32 × MM → Prop} {K105 : Int32 × Int32 × MM → Prop} {x : Int32 × Int32 × MM}   (hK91 : ∀ (z4 : Int32) (z5 : Int32) (zμ : MM), K91 (z4, z5, zμ) → WX p l e (rmX dR) s m args below meth c φ tc D 8 (MQ below (QX φ tc D (QI Q)) args s 0 0 (AX φ)) 91 [(0, .ref 358), (1, .int p1), (2, .int p2), (3, .ref 398), (4, .int z4), (5, .int z5)] [] zμ) (hK105 : ∀ (z6 : Int32) (z7 : Int32) (zμ : MM), K105 (z6, z7, zμ) → WX p l e (rmX dR) s m args below meth c φ tc D 8 (MQ below (QX φ tc D (QI Q)) args s 0 0 (AX φ)) 105 [(0, .ref 358), (1, .int p1), (2, .int p2), (3, .ref 398), (4, .int p4), (5, .int p5), (6, .int z6), (7, .int z7)] [] zμ) (h : G12_most_L105 p1 p2 p4 p5 K91 Q K105 x) : WX p l e (rmX dR) s m args below meth c φ tc D 8 (MQ below (QX φ tc D (QI Q)) args s 0 0 (AX φ)) 105 [(0, .ref 358), (1, .int p1), (2, .int p2), (3, .ref 398), (4, .int p4), (5, .int p5), (6, .int x.1), (7, .int x.2.1)] [] x.2.2 := by
  unfold G12_most_L105 at h
  refine x_iload C 7 rfl dX12_most_105 ?_
  refine x_aload_n C rfl 0 rfl dX12_most_107 ?_
  refine x_getI C (j := 8) ob358.1 ob358.2 (Nat.le_of_ble_eq_true rfl) (Nat.le_of_ble_eq_true rfl) (Or.inl rfl) tw_8_214 dX12_most_108 ?_
  refine x_icmp_ge (tgt := 140) C dX12_most_111 (by decide) (fun c26 => ?_) (fun c26 => ?_)
  · have h := h.1 c26
    refine x_iload C 5 rfl dX12_most_140 ?_
    refine x_aload_n C rfl 3 rfl dX12_most_142 ?_
    refine x_iload C 6 rfl dX12_most_143 ?_
    obtain ⟨c27, h⟩ := h
    refine x_iald C ob398.1 ob398.2 c27 rfl dX12_most_145 ?_
    refine x_iadd C dX12_most_146 ?_
    refine x_topi (fun y28 e_y28 => ?_)
    have h := h y28 e_y28
    refine x_istore C [(5, .int y28), (0, .ref 358), (1, .int p1), (2, .int p2), (3, .ref 398), (4, .int p4), (6, .int x.1), (7, .int x.2.1)] (Nat.le_of_ble_eq_true rfl) rfl dX12_most_147 ?_
    refine x_aload_n C rfl 4 rfl dX12_most_149 ?_
    refine x_iload C 6 rfl dX12_most_150 ?_
    refine x_iconst (v := 0) C (by decide) dX12_most_152 ?_
    obtain ⟨c29, h⟩ := h
    refine x_iast C ob398.1 ob398.2 c29 rfl dX12_most_153 ?_
    refine x_mu (fun μ30 e_μ30 => ?_)
    have h := h μ30 e_μ30
    refine x_iinc (v := (p4 + 1)) C [(4, .int (p4 + 1)), (5, .int y28), (0, .ref 358), (1, .int p1), (2, .int p2), (3, .ref 398), (6, .int x.1), (7, .int x.2.1)] 5 rfl (congrArg (fun z => p4 + z) (by decide : Int32.ofInt (1) = 1)) (Nat.le_of_ble_eq_true rfl) rfl dX12_most_154 ?_
    refine x_goto (tgt := 91) C dX12_most_157 (by decide) ?_
    refine x_sub [(0, .ref 358), (1, .int p1), (2, .int p2), (3, .ref 398), (4, .int (p4 + 1)), (5, .int y28)] [2, 3, 4, 5, 0, 1] rfl ?_
    exact hK91 _ _ _ h
  · have h := h.2 c26
    refine x_aload_n C rfl 3 rfl dX12_most_114 ?_
    refine x_iload C 7 rfl dX12_most_115 ?_
    obtain ⟨c31, h⟩ := h
    refine x_iald C ob398.1 ob398.2 c31 rfl dX12_most_117 ?_
    refine x_aload_n C rfl 3 rfl dX12_most_118 ?_
    refine x_iload C 6 rfl dX12_most_119 ?_
    obtain ⟨c32, h⟩ := h
    refine x_iald C ob398.1 ob398.2 c32 rfl dX12_most_121 ?_
    refine x_icmp_le (tgt := 130) C dX12_most_122 (by decide) (fun c33 => ?_) (fun c33 => ?_)
    · have h := h.1 c33
      refine x_iload C 6 rfl dX12_most_130 ?_
      refine x_istore C [(6, .int x.1), (0, .ref 358), (1, .int p1), (2, .int p2), (3, .ref 398), (4, .int p4), (5, .int p5), (7, .int x.2.1)] (Nat.le_of_ble_eq_true rfl) rfl dX12_most_132 ?_
      refine x_iinc (v := (x.2.1 + 1)) C [(7, .int (x.2.1 + 1)), (6, .int x.1), (0, .ref 358), (1, .int p1), (2, .int p2), (3, .ref 398), (4, .int p4), (5, .int p5)] 7 rfl (congrArg (fun z => x.2.1 + z) (by decide : Int32.ofInt (1) = 1)) (Nat.le_of_ble_eq_true rfl) rfl dX12_most_134 ?_
      refine x_goto (tgt := 105) C dX12_most_137 (by decide) ?_
      refine x_sub [(0, .ref 358), (1, .int p1), (2, .int p2), (3, .ref 398), (4, .int p4), (5, .int p5), (6, .int x.1), (7, .int (x.2.1 + 1))] [2, 3, 4, 5, 6, 7, 1, 0] rfl ?_
      exact hK105 _ _ _ h
    · have h := h.2 c33
      refine x_iload C 7 rfl dX12_most_125 ?_
      refine x_goto (tgt := 132) C dX12_most_127 (by decide) ?_
      refine x_istore C [(6, .int x.2.1), (0, .ref 358), (1, .int p1), (2, .int p2), (3, .ref 398), (4, .int p4), (5, .int p5), (7, .int x.2.1)] (Nat.le_of_ble_eq_true rfl) rfl dX12_most_132 ?_
      refine x_iinc (v := (x.2.1 + 1)) C [(7, .int (x.2.1 + 1)), (6, .int x.2.1), (0, .ref 358), (1, .int p1), (2, .int p2), (3, .ref 398), (4, .int p4), (5, .int p5)] 7 rfl (congrArg (fun z => x.2.1 + z) (by decide : Int32.ofInt (1) = 1)) (Nat.le_of_ble_eq_true rfl) rfl dX12_most_134 ?_
      refine x_goto (tgt := 105) C dX12_most_137 (by decide) ?_
      refine x_sub [(0, .ref 358), (1, .int p1), (2, .int p2), (3, .ref 398), (4, .int p4), (5, .int p5), (6, .int x.2.1), (7, .int (x.2.1 + 1))] [2, 3, 4, 5, 6, 7, 1, 0] rfl ?_
      exact hK105 _ _ _ h
theorem G12_most_L105_ok {p : Program} {e : Env} {s : State} {m : MethodId} {args : Array Value} {below : List Frame} {meth : Method} {c : Code} {l : Launch} {φ : Nat → Nat} {tc : Nat → ClassId} {D : va_G} {s0 : State} {dR : Nat} (C : CX p s m args meth c φ tc D s0 cX12_most RX12 8) (hd : G12_most_dep ≤ dR) (hr : meth.sig.returnType = (some .int))  {p1 : Int32} {p2 : Int32} {p4 : Int32} {p5 : Int32} {Q : Int32 → MM → Prop} {K91 : Int32 × Int32 × MM → Prop} {x : Int32 × Int32 × MM}   (hK91 : ∀ (z4 : Int32) (z5 : Int32) (zμ : MM), K91 (z4, z5, zμ) → WX p l e (rmX dR) s m args below meth c φ tc D 8 (MQ below (QX φ tc D (QI Q)) args s 0 0 (AX φ)) 91 [(0, .ref 358), (1, .int p1), (2, .int p2), (3, .ref 398), (4, .int z4), (5, .int z5)] [] zμ) (h : Lp (G12_most_L105 p1 p2 p4 p5 K91 Q) x) : WX p l e (rmX dR) s m args below meth c φ tc D 8 (MQ below (QX φ tc D (QI Q)) args s 0 0 (AX φ)) 105 [(0, .ref 358), (1, .int p1), (2, .int p2), (3, .ref 398), (4, .int p4), (5, .int p5), (6, .int x.1), (7, .int x.2.1)] [] x.2.2 := by
  obtain ⟨n, h⟩ := h
  induction n generalizing x with
  | zero => exact h.elim
  | succ n ih => exact G12_most_L105_b C hd hr  hK91 (fun z6 z7 zμ hz => by have q := ih hz; exact q) h
set_option maxHeartbeats 4000000 in
set_option maxRecDepth 100000 in
theorem G12_most_L91_b {p : Program} {e : Env} {s : State} {m : MethodId} {args : Array Value} {below : List Frame} {meth : Method} {c : Code} {l : Launch} {φ : Nat → Nat} {tc : Nat → ClassId} {D : va_G} {s0 : State} {dR : Nat} (C : CX p s m args meth c φ tc D s0 cX12_most RX12 8) (hd : G12_most_dep ≤ dR) (hr : meth.sig.returnType = (some .int))  {p1 : Int32} {p2 : Int32} {Q : Int32 → MM → Prop} {K91 : Int32 × Int32 × MM → Prop} {x : Int32 × Int32 × MM}   (hK91 : ∀ (z4 : Int32) (z5 : Int32) (zμ : MM), K91 (z4, z5, zμ) → WX p l e (rmX dR) s m args below meth c φ tc D 8 (MQ below (QX φ tc D (QI Q)) args s 0 0 (AX φ)) 91 [(0, .ref 358), (1, .int p1), (2, .int p2), (3, .ref 398), (4, .int z4), (5, .int z5)] [] zμ) (h : G12_most_L91 p1 p2 Q K91 x) : WX p l e (rmX dR) s m args below meth c φ tc D 8 (MQ below (QX φ tc D (QI Q)) args s 0 0 (AX φ)) 91 [(0, .ref 358), (1, .int p1), (2, .int p2), (3, .ref 398), (4, .int x.1), (5, .int x.2.1)] [] x.2.2 := by
  unfold G12_most_L91 at h
  refine x_iconst (v := 2) C (by decide) dX12_most_91 ?_
  refine x_iload C 5 rfl dX12_most_92 ?_
  refine x_imul C dX12_most_94 ?_
  refine x_iload_n C rfl 1 rfl dX12_most_95 ?_
  refine x_icmp_ge (tgt := 160) C dX12_most_96 (by decide) (fun c22 => ?_) (fun c22 => ?_)
  · have h := h.1 c22
    refine x_aload_n C rfl 0 rfl dX12_most_160 ?_
    refine x_iconst (v := 0) C (by decide) dX12_most_161 ?_
    refine x_putI C (j := 1) ob358.1 ob358.2 (Nat.le_of_ble_eq_true rfl) (Nat.le_of_ble_eq_true rfl) (Or.inl rfl) rfl rfl rfl tw_8_207 dX12_most_162 ?_
    refine x_mu (fun μ23 e_μ23 => ?_)
    have h := h μ23 e_μ23
    refine x_aload_n C rfl 0 rfl dX12_most_165 ?_
    refine x_iload_n C rfl 2 rfl dX12_most_166 ?_
    refine x_i2l C dX12_most_167 ?_
    refine x_callV (dC := G12_enters_dep) (as := [.long (p2.toInt64)]) (st := []) C rfl (Nat.le_trans (Nat.le_of_ble_eq_true rfl) hd) (Nat.le_of_ble_eq_true rfl) ob358.1 ob358.2 (Nat.le_of_ble_eq_true rfl) rfl ts_10_1 tw_7_161 tw_7_159 tc_7_162 tw_1_13 hyX12 hnX12_enters rfl (Nat.le_of_ble_eq_true rfl) dX12_most_168 (G12_enters_met C.2.2.2.2.2.2.2.1 (Nat.le_refl _)  h) (fun r0 μ24 hq => ?_)
    obtain ⟨rfl, h⟩ := hq
    refine x_st [] rfl ?_
    refine x_aload_n C rfl 0 rfl dX12_most_171 ?_
    refine x_iload_n C rfl 1 rfl dX12_most_172 ?_
    refine x_i2l C dX12_most_173 ?_
    refine x_callV (dC := G12_enters_dep) (as := [.long (p1.toInt64)]) (st := []) C rfl (Nat.le_trans (Nat.le_of_ble_eq_true rfl) hd) (Nat.le_of_ble_eq_true rfl) ob358.1 ob358.2 (Nat.le_of_ble_eq_true rfl) rfl ts_10_1 tw_7_161 tw_7_159 tc_7_162 tw_1_13 hyX12 hnX12_enters rfl (Nat.le_of_ble_eq_true rfl) dX12_most_174 (G12_enters_met C.2.2.2.2.2.2.2.1 (Nat.le_refl _)  h) (fun r0 μ25 hq => ?_)
    obtain ⟨rfl, h⟩ := hq
    refine x_st [] rfl ?_
    refine x_iload C 4 rfl dX12_most_177 ?_
    exact x_iret C hr dX12_most_179 ⟨_, rfl, h⟩
  · have h := h.2 c22
    refine x_iconst (v := 0) C (by decide) dX12_most_99 ?_
    refine x_istore C [(6, .int 0), (0, .ref 358), (1, .int p1), (2, .int p2), (3, .ref 398), (4, .int x.1), (5, .int x.2.1)] (Nat.le_of_ble_eq_true rfl) rfl dX12_most_100 ?_
    refine x_iconst (v := 1) C (by decide) dX12_most_102 ?_
    refine x_istore C [(7, .int 1), (6, .int 0), (0, .ref 358), (1, .int p1), (2, .int p2), (3, .ref 398), (4, .int x.1), (5, .int x.2.1)] (Nat.le_of_ble_eq_true rfl) rfl dX12_most_103 ?_
    refine x_sub [(0, .ref 358), (1, .int p1), (2, .int p2), (3, .ref 398), (4, .int x.1), (5, .int x.2.1), (6, .int 0), (7, .int 1)] [2, 3, 4, 5, 6, 7, 1, 0] rfl ?_
    exact G12_most_L105_ok C hd hr hK91 h
theorem G12_most_L91_ok {p : Program} {e : Env} {s : State} {m : MethodId} {args : Array Value} {below : List Frame} {meth : Method} {c : Code} {l : Launch} {φ : Nat → Nat} {tc : Nat → ClassId} {D : va_G} {s0 : State} {dR : Nat} (C : CX p s m args meth c φ tc D s0 cX12_most RX12 8) (hd : G12_most_dep ≤ dR) (hr : meth.sig.returnType = (some .int))  {p1 : Int32} {p2 : Int32} {Q : Int32 → MM → Prop}  {x : Int32 × Int32 × MM}    (h : Lp (G12_most_L91 p1 p2 Q) x) : WX p l e (rmX dR) s m args below meth c φ tc D 8 (MQ below (QX φ tc D (QI Q)) args s 0 0 (AX φ)) 91 [(0, .ref 358), (1, .int p1), (2, .int p2), (3, .ref 398), (4, .int x.1), (5, .int x.2.1)] [] x.2.2 := by
  obtain ⟨n, h⟩ := h
  induction n generalizing x with
  | zero => exact h.elim
  | succ n ih => exact G12_most_L91_b C hd hr   (fun z4 z5 zμ hz => by have q := ih hz; exact q) h
set_option maxHeartbeats 4000000 in
set_option maxRecDepth 100000 in
theorem G12_most_J74_ok {p : Program} {e : Env} {s : State} {m : MethodId} {args : Array Value} {below : List Frame} {meth : Method} {c : Code} {l : Launch} {φ : Nat → Nat} {tc : Nat → ClassId} {D : va_G} {s0 : State} {dR : Nat} (C : CX p s m args meth c φ tc D s0 cX12_most RX12 8) (hd : G12_most_dep ≤ dR) (hr : meth.sig.returnType = (some .int))  {p1 : Int32} {p4 : Int32} {q0 : Int32} {q1 : Int32} {Q : Int32 → MM → Prop} {K17 : Int32 × Int32 × Int32 × MM → Prop} {μ : MM}   (hK17 : ∀ (z1 : Int32) (z2 : Int32) (z4 : Int32) (zμ : MM), K17 (z1, z2, z4, zμ) → WX p l e (rmX dR) s m args below meth c φ tc D 8 (MQ below (QX φ tc D (QI Q)) args s 0 0 (AX φ)) 17 [(0, .ref 358), (1, .int z1), (2, .int z2), (3, .ref 398), (4, .int z4)] [] zμ) (h : G12_most_J74 p1 p4 q0 q1 μ K17 Q) : WX p l e (rmX dR) s m args below meth c φ tc D 8 (MQ below (QX φ tc D (QI Q)) args s 0 0 (AX φ)) 74 [(0, .ref 358), (1, .int p1), (3, .ref 398), (4, .int p4)] [.int q0, .int q1] μ := by
  unfold G12_most_J74 at h
  refine x_callS (dC := G12_flag_dep) (as := [.int q0]) (st := [.int q1]) C rfl (Nat.le_trans (Nat.le_of_ble_eq_true rfl) hd) (Nat.le_of_ble_eq_true rfl) tw_6_212 tw_6_211 tc_6_213 tw_1_13 hyX12 hnX12_flag rfl (Nat.le_of_ble_eq_true rfl) dX12_most_74 (G12_flag_met C.2.2.2.2.2.2.2.1 (Nat.le_refl _)  h) (fun r0 μ42 hq => ?_)
  obtain ⟨r43, rfl, h⟩ := hq
  refine x_st [.int r43, .int q1] rfl ?_
  refine x_iadd C dX12_most_77 ?_
  refine x_topi (fun y44 e_y44 => ?_)
  have h := h y44 e_y44
  refine x_istore_n C [(2, .int y44), (0, .ref 358), (1, .int p1), (3, .ref 398), (4, .int p4)] rfl (Nat.le_of_ble_eq_true rfl) rfl dX12_most_78 ?_
  refine x_iinc (v := (p4 + 1)) C [(4, .int (p4 + 1)), (2, .int y44), (0, .ref 358), (1, .int p1), (3, .ref 398)] 4 rfl (congrArg (fun z => p4 + z) (by decide : Int32.ofInt (1) = 1)) (Nat.le_of_ble_eq_true rfl) rfl dX12_most_79 ?_
  refine x_goto (tgt := 17) C dX12_most_82 (by decide) ?_
  refine x_sub [(0, .ref 358), (1, .int p1), (2, .int y44), (3, .ref 398), (4, .int (p4 + 1))] [2, 3, 1, 4, 0] rfl ?_
  exact hK17 _ _ _ _ h
set_option maxHeartbeats 4000000 in
set_option maxRecDepth 100000 in
theorem G12_most_L17_b {p : Program} {e : Env} {s : State} {m : MethodId} {args : Array Value} {below : List Frame} {meth : Method} {c : Code} {l : Launch} {φ : Nat → Nat} {tc : Nat → ClassId} {D : va_G} {s0 : State} {dR : Nat} (C : CX p s m args meth c φ tc D s0 cX12_most RX12 8) (hd : G12_most_dep ≤ dR) (hr : meth.sig.returnType = (some .int))   {Q : Int32 → MM → Prop} {K17 : Int32 × Int32 × Int32 × MM → Prop} {x : Int32 × Int32 × Int32 × MM}   (hK17 : ∀ (z1 : Int32) (z2 : Int32) (z4 : Int32) (zμ : MM), K17 (z1, z2, z4, zμ) → WX p l e (rmX dR) s m args below meth c φ tc D 8 (MQ below (QX φ tc D (QI Q)) args s 0 0 (AX φ)) 17 [(0, .ref 358), (1, .int z1), (2, .int z2), (3, .ref 398), (4, .int z4)] [] zμ) (h : G12_most_L17  Q K17 x) : WX p l e (rmX dR) s m args below meth c φ tc D 8 (MQ below (QX φ tc D (QI Q)) args s 0 0 (AX φ)) 17 [(0, .ref 358), (1, .int x.1), (2, .int x.2.1), (3, .ref 398), (4, .int x.2.2.1)] [] x.2.2.2 := by
  unfold G12_most_L17 at h
  refine x_iload C 4 rfl dX12_most_17 ?_
  refine x_aload_n C rfl 0 rfl dX12_most_19 ?_
  refine x_getI C (j := 8) ob358.1 ob358.2 (Nat.le_of_ble_eq_true rfl) (Nat.le_of_ble_eq_true rfl) (Or.inl rfl) tw_8_214 dX12_most_20 ?_
  refine x_icmp_ge (tgt := 85) C dX12_most_23 (by decide) (fun c21 => ?_) (fun c21 => ?_)
  · have h := h.1 c21
    refine x_iconst (v := 0) C (by decide) dX12_most_85 ?_
    refine x_istore C [(4, .int 0), (0, .ref 358), (1, .int x.1), (2, .int x.2.1), (3, .ref 398)] (Nat.le_of_ble_eq_true rfl) rfl dX12_most_86 ?_
    refine x_iconst (v := 0) C (by decide) dX12_most_88 ?_
    refine x_istore C [(5, .int 0), (4, .int 0), (0, .ref 358), (1, .int x.1), (2, .int x.2.1), (3, .ref 398)] (Nat.le_of_ble_eq_true rfl) rfl dX12_most_89 ?_
    refine x_sub [(0, .ref 358), (1, .int x.1), (2, .int x.2.1), (3, .ref 398), (4, .int 0), (5, .int 0)] [2, 3, 4, 5, 1, 0] rfl ?_
    exact G12_most_L91_ok C hd hr  h
  · have h := h.2 c21
    refine x_aload_n C rfl 0 rfl dX12_most_26 ?_
    refine x_iload C 4 rfl dX12_most_27 ?_
    refine x_callV (dC := G12_countsHouse_dep) (as := [.int x.2.2.1]) (st := []) C rfl (Nat.le_trans (Nat.le_of_ble_eq_true rfl) hd) (Nat.le_of_ble_eq_true rfl) ob358.1 ob358.2 (Nat.le_of_ble_eq_true rfl) rfl ts_10_8 tw_8_1 tw_7_239 tc_8_2 tw_1_13 hyX12 hnX12_countsHouse rfl (Nat.le_of_ble_eq_true rfl) dX12_most_29 (G12_countsHouse_met C.2.2.2.2.2.2.2.1 (Nat.le_refl _)  h) (fun r0 μ34 hq => ?_)
    obtain ⟨r35, rfl, h⟩ := hq
    refine x_st [.int r35] rfl ?_
    refine x_pop C rfl dX12_most_32 ?_
    refine x_aload_n C rfl 3 rfl dX12_most_33 ?_
    refine x_iload C 4 rfl dX12_most_34 ?_
    refine x_iconst (v := 0) C (by decide) dX12_most_36 ?_
    refine x_aload_n C rfl 0 rfl dX12_most_37 ?_
    refine x_getR (r := 391) C (j := 49) ob358.1 ob358.2 (Nat.le_of_ble_eq_true rfl) (Nat.le_of_ble_eq_true rfl) (fun _ _ _ => rfl) r_358_49 tw_9_15 dX12_most_38 ?_
    refine x_iconst (v := 0) C (by decide) dX12_most_41 ?_
    refine x_iald C ob391.1 ob391.2 (by unfold vp_in; decide) (j := 0) (by decide) dX12_most_42 ?_
    refine x_aload_n C rfl 0 rfl dX12_most_43 ?_
    refine x_getR (r := 391) C (j := 49) ob358.1 ob358.2 (Nat.le_of_ble_eq_true rfl) (Nat.le_of_ble_eq_true rfl) (fun _ _ _ => rfl) r_358_49 tw_9_15 dX12_most_44 ?_
    refine x_iconst (v := 1) C (by decide) dX12_most_47 ?_
    refine x_iald C ob391.1 ob391.2 (by unfold vp_in; decide) (j := 1) (by decide) dX12_most_48 ?_
    refine x_isub C dX12_most_49 ?_
    refine x_mmax C rfl (Nat.le_trans (Nat.le_of_ble_eq_true rfl) hd) tw_7_98 tw_3_77 tw_1_20 (Nat.le_of_ble_eq_true rfl) dX12_most_50 ?_
    obtain ⟨c36, h⟩ := h
    refine x_iast C ob398.1 ob398.2 c36 rfl dX12_most_53 ?_
    refine x_mu (fun μ37 e_μ37 => ?_)
    have h := h μ37 e_μ37
    refine x_iload_n C rfl 1 rfl dX12_most_54 ?_
    refine x_aload_n C rfl 3 rfl dX12_most_55 ?_
    refine x_iload C 4 rfl dX12_most_56 ?_
    obtain ⟨c38, h⟩ := h
    refine x_iald C ob398.1 ob398.2 c38 rfl dX12_most_58 ?_
    refine x_iadd C dX12_most_59 ?_
    refine x_topi (fun y39 e_y39 => ?_)
    have h := h y39 e_y39
    refine x_istore_n C [(1, .int y39), (0, .ref 358), (2, .int x.2.1), (3, .ref 398), (4, .int x.2.2.1)] rfl (Nat.le_of_ble_eq_true rfl) rfl dX12_most_60 ?_
    refine x_iload_n C rfl 2 rfl dX12_most_61 ?_
    refine x_aload_n C rfl 3 rfl dX12_most_62 ?_
    refine x_iload C 4 rfl dX12_most_63 ?_
    obtain ⟨c40, h⟩ := h
    refine x_iald C ob398.1 ob398.2 c40 rfl dX12_most_65 ?_
    refine x_if_le (tgt := 73) C dX12_most_66 (by decide) (fun c41 => ?_) (fun c41 => ?_)
    · have h := h.1 c41
      refine x_iconst (v := 0) C (by decide) dX12_most_73 ?_
      refine x_sub [(0, .ref 358), (1, .int y39), (3, .ref 398), (4, .int x.2.2.1)] [1, 0, 3, 4] rfl ?_
      exact G12_most_J74_ok C hd hr hK17 h
    · have h := h.2 c41
      refine x_iconst (v := 1) C (by decide) dX12_most_69 ?_
      refine x_goto (tgt := 74) C dX12_most_70 (by decide) ?_
      refine x_sub [(0, .ref 358), (1, .int y39), (3, .ref 398), (4, .int x.2.2.1)] [1, 0, 3, 4] rfl ?_
      exact G12_most_J74_ok C hd hr hK17 h
theorem G12_most_L17_ok {p : Program} {e : Env} {s : State} {m : MethodId} {args : Array Value} {below : List Frame} {meth : Method} {c : Code} {l : Launch} {φ : Nat → Nat} {tc : Nat → ClassId} {D : va_G} {s0 : State} {dR : Nat} (C : CX p s m args meth c φ tc D s0 cX12_most RX12 8) (hd : G12_most_dep ≤ dR) (hr : meth.sig.returnType = (some .int))   {Q : Int32 → MM → Prop}  {x : Int32 × Int32 × Int32 × MM}    (h : Lp (G12_most_L17  Q) x) : WX p l e (rmX dR) s m args below meth c φ tc D 8 (MQ below (QX φ tc D (QI Q)) args s 0 0 (AX φ)) 17 [(0, .ref 358), (1, .int x.1), (2, .int x.2.1), (3, .ref 398), (4, .int x.2.2.1)] [] x.2.2.2 := by
  obtain ⟨n, h⟩ := h
  induction n generalizing x with
  | zero => exact h.elim
  | succ n ih => exact G12_most_L17_b C hd hr   (fun z1 z2 z4 zμ hz => by have q := ih hz; exact q) h
set_option maxHeartbeats 4000000 in
set_option maxRecDepth 100000 in
theorem G12_most_met {l : Launch} {φ : Nat → Nat} {tc : Nat → ClassId} {D : va_G} {s0 : State} (hG : GX φ tc D s0) {dR : Nat} (hd : G12_most_dep ≤ dR)  {μ : MM} {Q : Int32 → MM → Prop}  (h : G12_most  μ Q) : MX l φ tc D s0 dR yX12_most cX12_most 8 (some .int) [.ref 358] μ (QI Q) := by
  refine MX.of (own := RX12) hG plX12 rfl (Nat.le_of_ble_eq_true rfl) (fun p e s m args below meth c C hr => ?_)
  refine x_sub [(0, .ref 358)] [0] rfl ?_
  unfold G12_most at h
  refine x_aload_n C rfl 0 rfl dX12_most_0 ?_
  refine x_iconst (v := 0) C (by decide) dX12_most_1 ?_
  refine x_putI C (j := 0) ob358.1 ob358.2 (Nat.le_of_ble_eq_true rfl) (Nat.le_of_ble_eq_true rfl) (Or.inl rfl) rfl rfl rfl tw_8_206 dX12_most_2 ?_
  refine x_mu (fun μ20 e_μ20 => ?_)
  have h := h μ20 e_μ20
  refine x_iconst (v := 0) C (by decide) dX12_most_5 ?_
  refine x_istore_n C [(1, .int 0), (0, .ref 358)] rfl (Nat.le_of_ble_eq_true rfl) rfl dX12_most_6 ?_
  refine x_iconst (v := 0) C (by decide) dX12_most_7 ?_
  refine x_istore_n C [(2, .int 0), (1, .int 0), (0, .ref 358)] rfl (Nat.le_of_ble_eq_true rfl) rfl dX12_most_8 ?_
  refine x_aload_n C rfl 2 rfl dX12_most_9 ?_
  refine x_getR (r := 398) C (j := 56) ob358.1 ob358.2 (Nat.le_of_ble_eq_true rfl) (Nat.le_of_ble_eq_true rfl) (fun _ _ _ => rfl) r_358_56 tw_9_22 dX12_most_10 ?_
  refine x_astore_n C [(3, .ref 398), (2, .int 0), (1, .int 0), (0, .ref 358)] rfl (Nat.le_of_ble_eq_true rfl) rfl dX12_most_13 ?_
  refine x_iconst (v := 0) C (by decide) dX12_most_14 ?_
  refine x_istore C [(4, .int 0), (3, .ref 398), (2, .int 0), (1, .int 0), (0, .ref 358)] (Nat.le_of_ble_eq_true rfl) rfl dX12_most_15 ?_
  refine x_sub [(0, .ref 358), (1, .int 0), (2, .int 0), (3, .ref 398), (4, .int 0)] [4, 3, 2, 1, 0] rfl ?_
  exact G12_most_L17_ok C hd hr  h
set_option maxHeartbeats 4000000 in
set_option maxRecDepth 100000 in
theorem G12_both_L247_b {p : Program} {e : Env} {s : State} {m : MethodId} {args : Array Value} {below : List Frame} {meth : Method} {c : Code} {l : Launch} {φ : Nat → Nat} {tc : Nat → ClassId} {D : va_G} {s0 : State} {dR : Nat} (C : CX p s m args meth c φ tc D s0 cX12_both RX12 15) (hd : G12_both_dep ≤ dR) (hr : meth.sig.returnType = (some .int))  {p6 : Int64} {p10 : Int64} {p12 : Int64} {Q : Int32 → MM → Prop} {K247 : Int32 × MM → Prop} {x : Int32 × MM}   (hK247 : ∀ (z14 : Int32) (zμ : MM), K247 (z14, zμ) → WX p l e (rmX dR) s m args below meth c φ tc D 15 (MQ below (QX φ tc D (QI Q)) args s 0 0 (AX φ)) 247 [(0, .ref 358), (2, .ref 399), (3, .ref 400), (6, .long p6), (10, .long p10), (12, .long p12), (14, .int z14)] [] zμ) (h : G12_both_L247 p6 p10 p12 Q K247 x) : WX p l e (rmX dR) s m args below meth c φ tc D 15 (MQ below (QX φ tc D (QI Q)) args s 0 0 (AX φ)) 247 [(0, .ref 358), (2, .ref 399), (3, .ref 400), (6, .long p6), (10, .long p10), (12, .long p12), (14, .int x.1)] [] x.2 := by
  unfold G12_both_L247 at h
  refine x_iload C 6 rfl dX12_both_247 ?_
  refine x_iconst (v := 4) C (by decide) dX12_both_249 ?_
  refine x_icmp_ge (tgt := 277) C dX12_both_250 (by decide) (fun c55 => ?_) (fun c55 => ?_)
  · have h := h.1 c55
    refine x_aload_n C rfl 0 rfl dX12_both_277 ?_
    refine x_lload C 5 rfl dX12_both_278 ?_
    refine x_lload C 3 rfl dX12_both_280 ?_
    refine x_lload C 4 rfl dX12_both_282 ?_
    refine x_lmul C dX12_both_284 ?_
    refine x_callV (dC := G12_entersFraction_dep) (as := [.long p12, .long (p6 * p10)]) (st := []) C rfl (Nat.le_trans (Nat.le_of_ble_eq_true rfl) hd) (Nat.le_of_ble_eq_true rfl) ob358.1 ob358.2 (Nat.le_of_ble_eq_true rfl) rfl ts_10_0 tw_7_154 tw_7_152 tc_7_155 tw_1_13 hyX12 hnX12_entersFraction rfl (Nat.le_of_ble_eq_true rfl) dX12_both_285 (G12_entersFraction_met C.2.2.2.2.2.2.2.1 (Nat.le_refl _)  h) (fun r0 μ56 hq => ?_)
    obtain ⟨rfl, h⟩ := hq
    refine x_st [] rfl ?_
    refine x_lload C 5 rfl dX12_both_288 ?_
    refine x_lconst (v := 0) C (by decide) dX12_both_290 ?_
    refine x_lcmp C dX12_both_291 ?_
    refine x_if_le (tgt := 299) C dX12_both_292 (by decide) (fun c57 => ?_) (fun c57 => ?_)
    · have h := h.1 c57
      refine x_lload C 5 rfl dX12_both_299 ?_
      refine x_lconst (v := 0) C (by decide) dX12_both_301 ?_
      refine x_lcmp C dX12_both_302 ?_
      refine x_if_ge (tgt := 310) C dX12_both_303 (by decide) (fun c58 => ?_) (fun c58 => ?_)
      · have h := h.1 c58
        refine x_iconst (v := 0) C (by decide) dX12_both_310 ?_
        exact x_iret C hr dX12_both_311 ⟨_, rfl, h⟩
      · have h := h.2 c58
        refine x_iconst (v := 2) C (by decide) dX12_both_306 ?_
        refine x_goto (tgt := 311) C dX12_both_307 (by decide) ?_
        exact x_iret C hr dX12_both_311 ⟨_, rfl, h⟩
    · have h := h.2 c57
      refine x_iconst (v := 1) C (by decide) dX12_both_295 ?_
      refine x_goto (tgt := 311) C dX12_both_296 (by decide) ?_
      exact x_iret C hr dX12_both_311 ⟨_, rfl, h⟩
  · have h := h.2 c55
    refine x_aload_n C rfl 0 rfl dX12_both_253 ?_
    refine x_aload_n C rfl 2 rfl dX12_both_254 ?_
    refine x_iload C 6 rfl dX12_both_255 ?_
    obtain ⟨c59, h⟩ := h
    refine x_iald C ob400.1 ob400.2 c59 rfl dX12_both_257 ?_
    refine x_i2l C dX12_both_258 ?_
    refine x_callV (dC := G12_enters_dep) (as := [.long ((gI x.2 400 x.1.toNatClampNeg).toInt64)]) (st := []) C rfl (Nat.le_trans (Nat.le_of_ble_eq_true rfl) hd) (Nat.le_of_ble_eq_true rfl) ob358.1 ob358.2 (Nat.le_of_ble_eq_true rfl) rfl ts_10_1 tw_7_161 tw_7_159 tc_7_162 tw_1_13 hyX12 hnX12_enters rfl (Nat.le_of_ble_eq_true rfl) dX12_both_259 (G12_enters_met C.2.2.2.2.2.2.2.1 (Nat.le_refl _)  h) (fun r0 μ60 hq => ?_)
    obtain ⟨rfl, h⟩ := hq
    refine x_st [] rfl ?_
    refine x_aload_n C rfl 0 rfl dX12_both_262 ?_
    refine x_aload_n C rfl 1 rfl dX12_both_263 ?_
    refine x_iload C 6 rfl dX12_both_264 ?_
    obtain ⟨c61, h⟩ := h
    refine x_iald C ob399.1 ob399.2 c61 rfl dX12_both_266 ?_
    refine x_i2l C dX12_both_267 ?_
    refine x_callV (dC := G12_enters_dep) (as := [.long ((gI μ60 399 x.1.toNatClampNeg).toInt64)]) (st := []) C rfl (Nat.le_trans (Nat.le_of_ble_eq_true rfl) hd) (Nat.le_of_ble_eq_true rfl) ob358.1 ob358.2 (Nat.le_of_ble_eq_true rfl) rfl ts_10_1 tw_7_161 tw_7_159 tc_7_162 tw_1_13 hyX12 hnX12_enters rfl (Nat.le_of_ble_eq_true rfl) dX12_both_268 (G12_enters_met C.2.2.2.2.2.2.2.1 (Nat.le_refl _)  h) (fun r0 μ62 hq => ?_)
    obtain ⟨rfl, h⟩ := hq
    refine x_st [] rfl ?_
    refine x_iinc (v := (x.1 + 1)) C [(14, .int (x.1 + 1)), (0, .ref 358), (2, .ref 399), (3, .ref 400), (6, .long p6), (10, .long p10), (12, .long p12)] 6 rfl (congrArg (fun z => x.1 + z) (by decide : Int32.ofInt (1) = 1)) (Nat.le_of_ble_eq_true rfl) rfl dX12_both_271 ?_
    refine x_goto (tgt := 247) C dX12_both_274 (by decide) ?_
    refine x_sub [(0, .ref 358), (2, .ref 399), (3, .ref 400), (6, .long p6), (10, .long p10), (12, .long p12), (14, .int (x.1 + 1))] [1, 2, 3, 4, 5, 6, 0] rfl ?_
    exact hK247 _ _ h
theorem G12_both_L247_ok {p : Program} {e : Env} {s : State} {m : MethodId} {args : Array Value} {below : List Frame} {meth : Method} {c : Code} {l : Launch} {φ : Nat → Nat} {tc : Nat → ClassId} {D : va_G} {s0 : State} {dR : Nat} (C : CX p s m args meth c φ tc D s0 cX12_both RX12 15) (hd : G12_both_dep ≤ dR) (hr : meth.sig.returnType = (some .int))  {p6 : Int64} {p10 : Int64} {p12 : Int64} {Q : Int32 → MM → Prop}  {x : Int32 × MM}    (h : Lp (G12_both_L247 p6 p10 p12 Q) x) : WX p l e (rmX dR) s m args below meth c φ tc D 15 (MQ below (QX φ tc D (QI Q)) args s 0 0 (AX φ)) 247 [(0, .ref 358), (2, .ref 399), (3, .ref 400), (6, .long p6), (10, .long p10), (12, .long p12), (14, .int x.1)] [] x.2 := by
  obtain ⟨n, h⟩ := h
  induction n generalizing x with
  | zero => exact h.elim
  | succ n ih => exact G12_both_L247_b C hd hr   (fun z14 zμ hz => by have q := ih hz; exact q) h
set_option maxHeartbeats 4000000 in
set_option maxRecDepth 100000 in
theorem G12_both_L140_b {p : Program} {e : Env} {s : State} {m : MethodId} {args : Array Value} {below : List Frame} {meth : Method} {c : Code} {l : Launch} {φ : Nat → Nat} {tc : Nat → ClassId} {D : va_G} {s0 : State} {dR : Nat} (C : CX p s m args meth c φ tc D s0 cX12_both RX12 15) (hd : G12_both_dep ≤ dR) (hr : meth.sig.returnType = (some .int))   {Q : Int32 → MM → Prop} {K140 : Int32 × MM → Prop} {x : Int32 × MM}   (hK140 : ∀ (z4 : Int32) (zμ : MM), K140 (z4, zμ) → WX p l e (rmX dR) s m args below meth c φ tc D 15 (MQ below (QX φ tc D (QI Q)) args s 0 0 (AX φ)) 140 [(0, .ref 358), (2, .ref 399), (3, .ref 400), (4, .int z4)] [] zμ) (h : G12_both_L140  Q K140 x) : WX p l e (rmX dR) s m args below meth c φ tc D 15 (MQ below (QX φ tc D (QI Q)) args s 0 0 (AX φ)) 140 [(0, .ref 358), (2, .ref 399), (3, .ref 400), (4, .int x.1)] [] x.2 := by
  unfold G12_both_L140 at h
  refine x_iload C 3 rfl dX12_both_140 ?_
  refine x_iconst (v := 4) C (by decide) dX12_both_142 ?_
  refine x_icmp_ge (tgt := 162) C dX12_both_143 (by decide) (fun c48 => ?_) (fun c48 => ?_)
  · have h := h.1 c48
    refine x_aload_n C rfl 2 rfl dX12_both_162 ?_
    refine x_iconst (v := 0) C (by decide) dX12_both_163 ?_
    refine x_iald C ob400.1 ob400.2 (by unfold vp_in; decide) (j := 0) (by decide) dX12_both_164 ?_
    refine x_i2l C dX12_both_165 ?_
    refine x_aload_n C rfl 1 rfl dX12_both_166 ?_
    refine x_iconst (v := 1) C (by decide) dX12_both_167 ?_
    refine x_iald C ob399.1 ob399.2 (by unfold vp_in; decide) (j := 1) (by decide) dX12_both_168 ?_
    refine x_i2l C dX12_both_169 ?_
    refine x_lmul C dX12_both_170 ?_
    refine x_aload_n C rfl 2 rfl dX12_both_171 ?_
    refine x_iconst (v := 1) C (by decide) dX12_both_172 ?_
    refine x_iald C ob400.1 ob400.2 (by unfold vp_in; decide) (j := 1) (by decide) dX12_both_173 ?_
    refine x_i2l C dX12_both_174 ?_
    refine x_aload_n C rfl 1 rfl dX12_both_175 ?_
    refine x_iconst (v := 0) C (by decide) dX12_both_176 ?_
    refine x_iald C ob399.1 ob399.2 (by unfold vp_in; decide) (j := 0) (by decide) dX12_both_177 ?_
    refine x_i2l C dX12_both_178 ?_
    refine x_lmul C dX12_both_179 ?_
    refine x_lsub C dX12_both_180 ?_
    refine x_topl (fun y49 e_y49 => ?_)
    have h := h y49 e_y49
    refine x_lstore C [(4, .long y49), (0, .ref 358), (2, .ref 399), (3, .ref 400)] (Nat.le_of_ble_eq_true rfl) rfl dX12_both_181 ?_
    refine x_aload_n C rfl 2 rfl dX12_both_183 ?_
    refine x_iconst (v := 0) C (by decide) dX12_both_184 ?_
    refine x_iald C ob399.1 ob399.2 (by unfold vp_in; decide) (j := 0) (by decide) dX12_both_185 ?_
    refine x_i2l C dX12_both_186 ?_
    refine x_aload_n C rfl 2 rfl dX12_both_187 ?_
    refine x_iconst (v := 1) C (by decide) dX12_both_188 ?_
    refine x_iald C ob399.1 ob399.2 (by unfold vp_in; decide) (j := 1) (by decide) dX12_both_189 ?_
    refine x_i2l C dX12_both_190 ?_
    refine x_lmul C dX12_both_191 ?_
    refine x_topl (fun y50 e_y50 => ?_)
    have h := h y50 e_y50
    refine x_lstore C [(6, .long y50), (4, .long y49), (0, .ref 358), (2, .ref 399), (3, .ref 400)] (Nat.le_of_ble_eq_true rfl) rfl dX12_both_192 ?_
    refine x_aload_n C rfl 4 rfl dX12_both_194 ?_
    refine x_iconst (v := 2) C (by decide) dX12_both_195 ?_
    refine x_iald C ob400.1 ob400.2 (by unfold vp_in; decide) (j := 2) (by decide) dX12_both_196 ?_
    refine x_i2l C dX12_both_197 ?_
    refine x_aload_n C rfl 3 rfl dX12_both_198 ?_
    refine x_iconst (v := 3) C (by decide) dX12_both_199 ?_
    refine x_iald C ob399.1 ob399.2 (by unfold vp_in; decide) (j := 3) (by decide) dX12_both_200 ?_
    refine x_i2l C dX12_both_201 ?_
    refine x_lmul C dX12_both_202 ?_
    refine x_aload_n C rfl 4 rfl dX12_both_203 ?_
    refine x_iconst (v := 3) C (by decide) dX12_both_204 ?_
    refine x_iald C ob400.1 ob400.2 (by unfold vp_in; decide) (j := 3) (by decide) dX12_both_205 ?_
    refine x_i2l C dX12_both_206 ?_
    refine x_aload_n C rfl 3 rfl dX12_both_207 ?_
    refine x_iconst (v := 2) C (by decide) dX12_both_208 ?_
    refine x_iald C ob399.1 ob399.2 (by unfold vp_in; decide) (j := 2) (by decide) dX12_both_209 ?_
    refine x_i2l C dX12_both_210 ?_
    refine x_lmul C dX12_both_211 ?_
    refine x_lsub C dX12_both_212 ?_
    refine x_topl (fun y51 e_y51 => ?_)
    have h := h y51 e_y51
    refine x_lstore C [(8, .long y51), (6, .long y50), (4, .long y49), (0, .ref 358), (2, .ref 399), (3, .ref 400)] (Nat.le_of_ble_eq_true rfl) rfl dX12_both_213 ?_
    refine x_aload_n C rfl 4 rfl dX12_both_215 ?_
    refine x_iconst (v := 2) C (by decide) dX12_both_216 ?_
    refine x_iald C ob399.1 ob399.2 (by unfold vp_in; decide) (j := 2) (by decide) dX12_both_217 ?_
    refine x_i2l C dX12_both_218 ?_
    refine x_aload_n C rfl 4 rfl dX12_both_219 ?_
    refine x_iconst (v := 3) C (by decide) dX12_both_220 ?_
    refine x_iald C ob399.1 ob399.2 (by unfold vp_in; decide) (j := 3) (by decide) dX12_both_221 ?_
    refine x_i2l C dX12_both_222 ?_
    refine x_lmul C dX12_both_223 ?_
    refine x_topl (fun y52 e_y52 => ?_)
    have h := h y52 e_y52
    refine x_lstore C [(10, .long y52), (8, .long y51), (6, .long y50), (4, .long y49), (0, .ref 358), (2, .ref 399), (3, .ref 400)] (Nat.le_of_ble_eq_true rfl) rfl dX12_both_224 ?_
    refine x_lload C 3 rfl dX12_both_226 ?_
    refine x_lload C 0 rfl dX12_both_228 ?_
    refine x_lmul C dX12_both_230 ?_
    refine x_lload C 1 rfl dX12_both_231 ?_
    refine x_lload C 2 rfl dX12_both_233 ?_
    refine x_lmul C dX12_both_235 ?_
    refine x_lsub C dX12_both_236 ?_
    refine x_topl (fun y53 e_y53 => ?_)
    have h := h y53 e_y53
    refine x_lstore C [(12, .long y53), (10, .long y52), (8, .long y51), (6, .long y50), (4, .long y49), (0, .ref 358), (2, .ref 399), (3, .ref 400)] (Nat.le_of_ble_eq_true rfl) rfl dX12_both_237 ?_
    refine x_aload_n C rfl 5 rfl dX12_both_239 ?_
    refine x_iconst (v := 0) C (by decide) dX12_both_240 ?_
    refine x_putI C (j := 1) ob358.1 ob358.2 (Nat.le_of_ble_eq_true rfl) (Nat.le_of_ble_eq_true rfl) (Or.inl rfl) rfl rfl rfl tw_8_207 dX12_both_241 ?_
    refine x_mu (fun μ54 e_μ54 => ?_)
    have h := h μ54 e_μ54
    refine x_iconst (v := 0) C (by decide) dX12_both_244 ?_
    refine x_istore C [(14, .int 0), (12, .long y53), (10, .long y52), (8, .long y51), (6, .long y50), (4, .long y49), (0, .ref 358), (2, .ref 399), (3, .ref 400)] (Nat.le_of_ble_eq_true rfl) rfl dX12_both_245 ?_
    refine x_sub [(0, .ref 358), (2, .ref 399), (3, .ref 400), (6, .long y50), (10, .long y52), (12, .long y53), (14, .int 0)] [6, 7, 8, 4, 2, 1, 0] rfl ?_
    exact G12_both_L247_ok C hd hr  h
  · have h := h.2 c48
    refine x_aload_n C rfl 1 rfl dX12_both_146 ?_
    refine x_iload C 3 rfl dX12_both_147 ?_
    obtain ⟨c63, h⟩ := h
    refine x_iald C ob399.1 ob399.2 c63 rfl dX12_both_149 ?_
    refine x_if_ne (tgt := 156) C dX12_both_150 (by decide) (fun c64 => ?_) (fun c64 => ?_)
    · have h := h.1 c64
      refine x_iinc (v := (x.1 + 1)) C [(4, .int (x.1 + 1)), (0, .ref 358), (2, .ref 399), (3, .ref 400)] 3 rfl (congrArg (fun z => x.1 + z) (by decide : Int32.ofInt (1) = 1)) (Nat.le_of_ble_eq_true rfl) rfl dX12_both_156 ?_
      refine x_goto (tgt := 140) C dX12_both_159 (by decide) ?_
      refine x_sub [(0, .ref 358), (2, .ref 399), (3, .ref 400), (4, .int (x.1 + 1))] [1, 2, 3, 0] rfl ?_
      exact hK140 _ _ h
    · have h := h.2 c64
      refine x_bipush (v := (-2)) C (by decide) dX12_both_153 ?_
      exact x_iret C hr dX12_both_155 ⟨_, rfl, h⟩
theorem G12_both_L140_ok {p : Program} {e : Env} {s : State} {m : MethodId} {args : Array Value} {below : List Frame} {meth : Method} {c : Code} {l : Launch} {φ : Nat → Nat} {tc : Nat → ClassId} {D : va_G} {s0 : State} {dR : Nat} (C : CX p s m args meth c φ tc D s0 cX12_both RX12 15) (hd : G12_both_dep ≤ dR) (hr : meth.sig.returnType = (some .int))   {Q : Int32 → MM → Prop}  {x : Int32 × MM}    (h : Lp (G12_both_L140  Q) x) : WX p l e (rmX dR) s m args below meth c φ tc D 15 (MQ below (QX φ tc D (QI Q)) args s 0 0 (AX φ)) 140 [(0, .ref 358), (2, .ref 399), (3, .ref 400), (4, .int x.1)] [] x.2 := by
  obtain ⟨n, h⟩ := h
  induction n generalizing x with
  | zero => exact h.elim
  | succ n ih => exact G12_both_L140_b C hd hr   (fun z4 zμ hz => by have q := ih hz; exact q) h
set_option maxHeartbeats 4000000 in
set_option maxRecDepth 100000 in
theorem G12_both_J100_ok {p : Program} {e : Env} {s : State} {m : MethodId} {args : Array Value} {below : List Frame} {meth : Method} {c : Code} {l : Launch} {φ : Nat → Nat} {tc : Nat → ClassId} {D : va_G} {s0 : State} {dR : Nat} (C : CX p s m args meth c φ tc D s0 cX12_both RX12 15) (hd : G12_both_dep ≤ dR) (hr : meth.sig.returnType = (some .int))  {p1 : Int32} {p4 : Int32} {q0 : Int32} {q1 : Int32} {Q : Int32 → MM → Prop} {K57 : Int32 × MM → Prop} {μ : MM}   (hK57 : ∀ (z4 : Int32) (zμ : MM), K57 (z4, zμ) → WX p l e (rmX dR) s m args below meth c φ tc D 15 (MQ below (QX φ tc D (QI Q)) args s 0 0 (AX φ)) 57 [(0, .ref 358), (1, .int p1), (2, .ref 399), (3, .ref 400), (4, .int z4)] [] zμ) (h : G12_both_J100 p1 p4 q0 q1 μ K57 Q) : WX p l e (rmX dR) s m args below meth c φ tc D 15 (MQ below (QX φ tc D (QI Q)) args s 0 0 (AX φ)) 100 [(0, .ref 358), (1, .int p1), (2, .ref 399), (3, .ref 400), (4, .int p4)] [.int q0, .int q1] μ := by
  unfold G12_both_J100 at h
  refine x_callS (dC := G12_flag_dep) (as := [.int q0]) (st := [.int q1]) C rfl (Nat.le_trans (Nat.le_of_ble_eq_true rfl) hd) (Nat.le_of_ble_eq_true rfl) tw_6_212 tw_6_211 tc_6_213 tw_1_13 hyX12 hnX12_flag rfl (Nat.le_of_ble_eq_true rfl) dX12_both_100 (G12_flag_met C.2.2.2.2.2.2.2.1 (Nat.le_refl _)  h) (fun r0 μ71 hq => ?_)
  obtain ⟨r72, rfl, h⟩ := hq
  refine x_st [.int r72, .int q1] rfl ?_
  refine x_iadd C dX12_both_103 ?_
  refine x_topi (fun y73 e_y73 => ?_)
  have h := h y73 e_y73
  refine x_istore C [(5, .int y73), (0, .ref 358), (1, .int p1), (2, .ref 399), (3, .ref 400), (4, .int p4)] (Nat.le_of_ble_eq_true rfl) rfl dX12_both_104 ?_
  refine x_aload_n C rfl 3 rfl dX12_both_106 ?_
  refine x_iload C 0 rfl dX12_both_107 ?_
  refine x_dup2_11 C rfl rfl dX12_both_109 ?_
  obtain ⟨c74, h⟩ := h
  refine x_iald C ob399.1 ob399.2 c74 rfl dX12_both_110 ?_
  refine x_iconst (v := 1) C (by decide) dX12_both_111 ?_
  refine x_iadd C dX12_both_112 ?_
  obtain ⟨c75, h⟩ := h
  refine x_iast C ob399.1 ob399.2 c75 rfl dX12_both_113 ?_
  refine x_mu (fun μ76 e_μ76 => ?_)
  have h := h μ76 e_μ76
  refine x_aload_n C rfl 4 rfl dX12_both_114 ?_
  refine x_iload C 0 rfl dX12_both_115 ?_
  refine x_dup2_11 C rfl rfl dX12_both_117 ?_
  obtain ⟨c77, h⟩ := h
  refine x_iald C ob400.1 ob400.2 c77 rfl dX12_both_118 ?_
  refine x_aload_n C rfl 1 rfl dX12_both_119 ?_
  refine x_getR (r := 374) C (j := 20) ob358.1 ob358.2 (Nat.le_of_ble_eq_true rfl) (Nat.le_of_ble_eq_true rfl) (fun _ _ _ => rfl) r_358_20 tw_8_226 dX12_both_120 ?_
  refine x_iload C 5 rfl dX12_both_123 ?_
  obtain ⟨c78, h⟩ := h
  refine x_zald C ob374.1 ob374.2 c78 rfl dX12_both_125 ?_
  refine x_callS (dC := G12_flag_dep) (as := [.int (gI μ76 374 p4.toNatClampNeg)]) (st := [.int (gI μ76 400 y73.toNatClampNeg), .int y73, .ref 400]) C rfl (Nat.le_trans (Nat.le_of_ble_eq_true rfl) hd) (Nat.le_of_ble_eq_true rfl) tw_6_212 tw_6_211 tc_6_213 tw_1_13 hyX12 hnX12_flag rfl (Nat.le_of_ble_eq_true rfl) dX12_both_126 (G12_flag_met C.2.2.2.2.2.2.2.1 (Nat.le_refl _)  h) (fun r0 μ79 hq => ?_)
  obtain ⟨r80, rfl, h⟩ := hq
  refine x_st [.int r80, .int (gI μ76 400 y73.toNatClampNeg), .int y73, .ref 400] rfl ?_
  refine x_iadd C dX12_both_129 ?_
  obtain ⟨c81, h⟩ := h
  refine x_iast C ob400.1 ob400.2 c81 rfl dX12_both_130 ?_
  refine x_mu (fun μ82 e_μ82 => ?_)
  have h := h μ82 e_μ82
  refine x_iinc (v := (p4 + 1)) C [(4, .int (p4 + 1)), (5, .int y73), (0, .ref 358), (1, .int p1), (2, .ref 399), (3, .ref 400)] 5 rfl (congrArg (fun z => p4 + z) (by decide : Int32.ofInt (1) = 1)) (Nat.le_of_ble_eq_true rfl) rfl dX12_both_131 ?_
  refine x_goto (tgt := 57) C dX12_both_134 (by decide) ?_
  refine x_sub [(0, .ref 358), (1, .int p1), (2, .ref 399), (3, .ref 400), (4, .int (p4 + 1))] [2, 3, 4, 5, 0] rfl ?_
  exact hK57 _ _ h
set_option maxHeartbeats 4000000 in
set_option maxRecDepth 100000 in
theorem G12_both_L57_b {p : Program} {e : Env} {s : State} {m : MethodId} {args : Array Value} {below : List Frame} {meth : Method} {c : Code} {l : Launch} {φ : Nat → Nat} {tc : Nat → ClassId} {D : va_G} {s0 : State} {dR : Nat} (C : CX p s m args meth c φ tc D s0 cX12_both RX12 15) (hd : G12_both_dep ≤ dR) (hr : meth.sig.returnType = (some .int))  {p1 : Int32} {Q : Int32 → MM → Prop} {K57 : Int32 × MM → Prop} {x : Int32 × MM}   (hK57 : ∀ (z4 : Int32) (zμ : MM), K57 (z4, zμ) → WX p l e (rmX dR) s m args below meth c φ tc D 15 (MQ below (QX φ tc D (QI Q)) args s 0 0 (AX φ)) 57 [(0, .ref 358), (1, .int p1), (2, .ref 399), (3, .ref 400), (4, .int z4)] [] zμ) (h : G12_both_L57 p1 Q K57 x) : WX p l e (rmX dR) s m args below meth c φ tc D 15 (MQ below (QX φ tc D (QI Q)) args s 0 0 (AX φ)) 57 [(0, .ref 358), (1, .int p1), (2, .ref 399), (3, .ref 400), (4, .int x.1)] [] x.2 := by
  unfold G12_both_L57 at h
  refine x_iload C 4 rfl dX12_both_57 ?_
  refine x_aload_n C rfl 0 rfl dX12_both_59 ?_
  refine x_getI C (j := 12) ob358.1 ob358.2 (Nat.le_of_ble_eq_true rfl) (Nat.le_of_ble_eq_true rfl) (Or.inl rfl) tw_8_218 dX12_both_60 ?_
  refine x_icmp_ge (tgt := 137) C dX12_both_63 (by decide) (fun c47 => ?_) (fun c47 => ?_)
  · have h := h.1 c47
    refine x_iconst (v := 0) C (by decide) dX12_both_137 ?_
    refine x_istore C [(4, .int 0), (0, .ref 358), (1, .int p1), (2, .ref 399), (3, .ref 400)] (Nat.le_of_ble_eq_true rfl) rfl dX12_both_138 ?_
    refine x_sub [(0, .ref 358), (2, .ref 399), (3, .ref 400), (4, .int 0)] [1, 3, 4, 0] rfl ?_
    exact G12_both_L140_ok C hd hr  h
  · have h := h.2 c47
    refine x_aload_n C rfl 0 rfl dX12_both_66 ?_
    refine x_getR (r := 373) C (j := 19) ob358.1 ob358.2 (Nat.le_of_ble_eq_true rfl) (Nat.le_of_ble_eq_true rfl) (fun _ _ _ => rfl) r_358_19 tw_8_225 dX12_both_67 ?_
    refine x_iload C 4 rfl dX12_both_70 ?_
    obtain ⟨c65, h⟩ := h
    refine x_zald C ob373.1 ob373.2 c65 rfl dX12_both_72 ?_
    refine x_if_eq (tgt := 131) C dX12_both_73 (by decide) (fun c66 => ?_) (fun c66 => ?_)
    · have h := h.1 c66
      refine x_iinc (v := (x.1 + 1)) C [(4, .int (x.1 + 1)), (0, .ref 358), (1, .int p1), (2, .ref 399), (3, .ref 400)] 4 rfl (congrArg (fun z => x.1 + z) (by decide : Int32.ofInt (1) = 1)) (Nat.le_of_ble_eq_true rfl) rfl dX12_both_131 ?_
      refine x_goto (tgt := 57) C dX12_both_134 (by decide) ?_
      refine x_sub [(0, .ref 358), (1, .int p1), (2, .ref 399), (3, .ref 400), (4, .int (x.1 + 1))] [1, 2, 3, 4, 0] rfl ?_
      exact hK57 _ _ h
    · have h := h.2 c66
      refine x_iconst (v := 2) C (by decide) dX12_both_76 ?_
      refine x_aload_n C rfl 0 rfl dX12_both_77 ?_
      refine x_iload C 4 rfl dX12_both_78 ?_
      refine x_callV (dC := G12_peopleOf_dep) (as := [.int x.1]) (st := [.int 2]) C rfl (Nat.le_trans (Nat.le_of_ble_eq_true rfl) hd) (Nat.le_of_ble_eq_true rfl) ob358.1 ob358.2 (Nat.le_of_ble_eq_true rfl) rfl ts_9_15 tw_7_150 tw_7_148 tc_7_151 tw_1_13 hyX12 hnX12_peopleOf rfl (Nat.le_of_ble_eq_true rfl) dX12_both_80 (G12_peopleOf_met C.2.2.2.2.2.2.2.1 (Nat.le_refl _)  h) (fun r0 μ67 hq => ?_)
      obtain ⟨r68, rfl, h⟩ := hq
      refine x_st [.int r68, .int 2] rfl ?_
      refine x_imul C dX12_both_83 ?_
      refine x_aload_n C rfl 0 rfl dX12_both_84 ?_
      refine x_getR (r := 369) C (j := 15) ob358.1 ob358.2 (Nat.le_of_ble_eq_true rfl) (Nat.le_of_ble_eq_true rfl) (fun _ _ _ => rfl) r_358_15 tw_8_221 dX12_both_85 ?_
      refine x_iload C 4 rfl dX12_both_88 ?_
      obtain ⟨c69, h⟩ := h
      refine x_iald C ob369.1 ob369.2 c69 rfl dX12_both_90 ?_
      refine x_iload_n C rfl 1 rfl dX12_both_91 ?_
      refine x_icmp_ge (tgt := 99) C dX12_both_92 (by decide) (fun c70 => ?_) (fun c70 => ?_)
      · have h := h.1 c70
        refine x_iconst (v := 0) C (by decide) dX12_both_99 ?_
        exact G12_both_J100_ok C hd hr hK57 h
      · have h := h.2 c70
        refine x_iconst (v := 1) C (by decide) dX12_both_95 ?_
        refine x_goto (tgt := 100) C dX12_both_96 (by decide) ?_
        exact G12_both_J100_ok C hd hr hK57 h
theorem G12_both_L57_ok {p : Program} {e : Env} {s : State} {m : MethodId} {args : Array Value} {below : List Frame} {meth : Method} {c : Code} {l : Launch} {φ : Nat → Nat} {tc : Nat → ClassId} {D : va_G} {s0 : State} {dR : Nat} (C : CX p s m args meth c φ tc D s0 cX12_both RX12 15) (hd : G12_both_dep ≤ dR) (hr : meth.sig.returnType = (some .int))  {p1 : Int32} {Q : Int32 → MM → Prop}  {x : Int32 × MM}    (h : Lp (G12_both_L57 p1 Q) x) : WX p l e (rmX dR) s m args below meth c φ tc D 15 (MQ below (QX φ tc D (QI Q)) args s 0 0 (AX φ)) 57 [(0, .ref 358), (1, .int p1), (2, .ref 399), (3, .ref 400), (4, .int x.1)] [] x.2 := by
  obtain ⟨n, h⟩ := h
  induction n generalizing x with
  | zero => exact h.elim
  | succ n ih => exact G12_both_L57_b C hd hr   (fun z4 zμ hz => by have q := ih hz; exact q) h
set_option maxHeartbeats 4000000 in
set_option maxRecDepth 100000 in
theorem G12_both_L32_b {p : Program} {e : Env} {s : State} {m : MethodId} {args : Array Value} {below : List Frame} {meth : Method} {c : Code} {l : Launch} {φ : Nat → Nat} {tc : Nat → ClassId} {D : va_G} {s0 : State} {dR : Nat} (C : CX p s m args meth c φ tc D s0 cX12_both RX12 15) (hd : G12_both_dep ≤ dR) (hr : meth.sig.returnType = (some .int))  {p1 : Int32} {Q : Int32 → MM → Prop} {K32 : Int32 × MM → Prop} {x : Int32 × MM}   (hK32 : ∀ (z4 : Int32) (zμ : MM), K32 (z4, zμ) → WX p l e (rmX dR) s m args below meth c φ tc D 15 (MQ below (QX φ tc D (QI Q)) args s 0 0 (AX φ)) 32 [(0, .ref 358), (1, .int p1), (2, .ref 399), (3, .ref 400), (4, .int z4)] [] zμ) (h : G12_both_L32 p1 Q K32 x) : WX p l e (rmX dR) s m args below meth c φ tc D 15 (MQ below (QX φ tc D (QI Q)) args s 0 0 (AX φ)) 32 [(0, .ref 358), (1, .int p1), (2, .ref 399), (3, .ref 400), (4, .int x.1)] [] x.2 := by
  unfold G12_both_L32 at h
  refine x_iload C 4 rfl dX12_both_32 ?_
  refine x_iconst (v := 4) C (by decide) dX12_both_34 ?_
  refine x_icmp_ge (tgt := 54) C dX12_both_35 (by decide) (fun c46 => ?_) (fun c46 => ?_)
  · have h := h.1 c46
    refine x_iconst (v := 0) C (by decide) dX12_both_54 ?_
    refine x_istore C [(4, .int 0), (0, .ref 358), (1, .int p1), (2, .ref 399), (3, .ref 400)] (Nat.le_of_ble_eq_true rfl) rfl dX12_both_55 ?_
    refine x_sub [(0, .ref 358), (1, .int p1), (2, .ref 399), (3, .ref 400), (4, .int 0)] [1, 2, 3, 4, 0] rfl ?_
    exact G12_both_L57_ok C hd hr  h
  · have h := h.2 c46
    refine x_aload_n C rfl 2 rfl dX12_both_38 ?_
    refine x_iload C 4 rfl dX12_both_39 ?_
    refine x_iconst (v := 0) C (by decide) dX12_both_41 ?_
    obtain ⟨c83, h⟩ := h
    refine x_iast C ob399.1 ob399.2 c83 rfl dX12_both_42 ?_
    refine x_mu (fun μ84 e_μ84 => ?_)
    have h := h μ84 e_μ84
    refine x_aload_n C rfl 3 rfl dX12_both_43 ?_
    refine x_iload C 4 rfl dX12_both_44 ?_
    refine x_iconst (v := 0) C (by decide) dX12_both_46 ?_
    obtain ⟨c85, h⟩ := h
    refine x_iast C ob400.1 ob400.2 c85 rfl dX12_both_47 ?_
    refine x_mu (fun μ86 e_μ86 => ?_)
    have h := h μ86 e_μ86
    refine x_iinc (v := (x.1 + 1)) C [(4, .int (x.1 + 1)), (0, .ref 358), (1, .int p1), (2, .ref 399), (3, .ref 400)] 4 rfl (congrArg (fun z => x.1 + z) (by decide : Int32.ofInt (1) = 1)) (Nat.le_of_ble_eq_true rfl) rfl dX12_both_48 ?_
    refine x_goto (tgt := 32) C dX12_both_51 (by decide) ?_
    refine x_sub [(0, .ref 358), (1, .int p1), (2, .ref 399), (3, .ref 400), (4, .int (x.1 + 1))] [1, 2, 3, 4, 0] rfl ?_
    exact hK32 _ _ h
theorem G12_both_L32_ok {p : Program} {e : Env} {s : State} {m : MethodId} {args : Array Value} {below : List Frame} {meth : Method} {c : Code} {l : Launch} {φ : Nat → Nat} {tc : Nat → ClassId} {D : va_G} {s0 : State} {dR : Nat} (C : CX p s m args meth c φ tc D s0 cX12_both RX12 15) (hd : G12_both_dep ≤ dR) (hr : meth.sig.returnType = (some .int))  {p1 : Int32} {Q : Int32 → MM → Prop}  {x : Int32 × MM}    (h : Lp (G12_both_L32 p1 Q) x) : WX p l e (rmX dR) s m args below meth c φ tc D 15 (MQ below (QX φ tc D (QI Q)) args s 0 0 (AX φ)) 32 [(0, .ref 358), (1, .int p1), (2, .ref 399), (3, .ref 400), (4, .int x.1)] [] x.2 := by
  obtain ⟨n, h⟩ := h
  induction n generalizing x with
  | zero => exact h.elim
  | succ n ih => exact G12_both_L32_b C hd hr   (fun z4 zμ hz => by have q := ih hz; exact q) h
set_option maxHeartbeats 4000000 in
set_option maxRecDepth 100000 in
theorem G12_both_met {l : Launch} {φ : Nat → Nat} {tc : Nat → ClassId} {D : va_G} {s0 : State} (hG : GX φ tc D s0) {dR : Nat} (hd : G12_both_dep ≤ dR) {v1 : Int32} {μ : MM} {Q : Int32 → MM → Prop}  (h : G12_both v1 μ Q) : MX l φ tc D s0 dR yX12_both cX12_both 15 (some .int) [.ref 358, .int v1] μ (QI Q) := by
  refine MX.of (own := RX12) hG plX12 rfl (Nat.le_of_ble_eq_true rfl) (fun p e s m args below meth c C hr => ?_)
  refine x_sub [(0, .ref 358), (1, .int v1)] [0, 1] rfl ?_
  unfold G12_both at h
  refine x_aload_n C rfl 0 rfl dX12_both_0 ?_
  refine x_iconst (v := 0) C (by decide) dX12_both_1 ?_
  refine x_putI C (j := 0) ob358.1 ob358.2 (Nat.le_of_ble_eq_true rfl) (Nat.le_of_ble_eq_true rfl) (Or.inl rfl) rfl rfl rfl tw_8_206 dX12_both_2 ?_
  refine x_mu (fun μ42 e_μ42 => ?_)
  have h := h μ42 e_μ42
  refine x_iload_n C rfl 1 rfl dX12_both_5 ?_
  refine x_i2l C dX12_both_6 ?_
  refine x_lconst (v := 1) C (by decide) dX12_both_7 ?_
  refine x_ldc2 (v := 99) C tw_6_205 dX12_both_8 ?_
  refine x_callS (dC := G12_in_dep) (as := [.long (v1.toInt64), .long 1, .long 99]) (st := []) C rfl (Nat.le_trans (Nat.le_of_ble_eq_true rfl) hd) (Nat.le_of_ble_eq_true rfl) tw_6_183 tw_6_182 tc_6_184 tw_1_13 hyX12 hnX12_in rfl (Nat.le_of_ble_eq_true rfl) dX12_both_11 (G12_in_met C.2.2.2.2.2.2.2.1 (Nat.le_refl _)  h) (fun r0 μ43 hq => ?_)
  obtain ⟨r44, rfl, h⟩ := hq
  refine x_st [.int r44] rfl ?_
  refine x_if_ne (tgt := 19) C dX12_both_14 (by decide) (fun c45 => ?_) (fun c45 => ?_)
  · have h := h.1 c45
    refine x_aload_n C rfl 0 rfl dX12_both_19 ?_
    refine x_getR (r := 399) C (j := 57) ob358.1 ob358.2 (Nat.le_of_ble_eq_true rfl) (Nat.le_of_ble_eq_true rfl) (fun _ _ _ => rfl) r_358_57 tw_9_23 dX12_both_20 ?_
    refine x_astore_n C [(2, .ref 399), (0, .ref 358), (1, .int v1)] rfl (Nat.le_of_ble_eq_true rfl) rfl dX12_both_23 ?_
    refine x_aload_n C rfl 1 rfl dX12_both_24 ?_
    refine x_getR (r := 400) C (j := 58) ob358.1 ob358.2 (Nat.le_of_ble_eq_true rfl) (Nat.le_of_ble_eq_true rfl) (fun _ _ _ => rfl) r_358_58 tw_9_24 dX12_both_25 ?_
    refine x_astore_n C [(3, .ref 400), (2, .ref 399), (0, .ref 358), (1, .int v1)] rfl (Nat.le_of_ble_eq_true rfl) rfl dX12_both_28 ?_
    refine x_iconst (v := 0) C (by decide) dX12_both_29 ?_
    refine x_istore C [(4, .int 0), (3, .ref 400), (2, .ref 399), (0, .ref 358), (1, .int v1)] (Nat.le_of_ble_eq_true rfl) rfl dX12_both_30 ?_
    refine x_sub [(0, .ref 358), (1, .int v1), (2, .ref 399), (3, .ref 400), (4, .int 0)] [3, 4, 2, 1, 0] rfl ?_
    exact G12_both_L32_ok C hd hr  h
  · have h := h.2 c45
    refine x_iconst (v := (-1)) C (by decide) dX12_both_17 ?_
    exact x_iret C hr dX12_both_18 ⟨_, rfl, h⟩
set_option maxHeartbeats 4000000 in
set_option maxRecDepth 100000 in
theorem G12_byWhat_met {l : Launch} {φ : Nat → Nat} {tc : Nat → ClassId} {D : va_G} {s0 : State} (hG : GX φ tc D s0) {dR : Nat} (hd : G12_byWhat_dep ≤ dR) {v1 : Int32} {v2 : Int32} {μ : MM} {Q : Int32 → MM → Prop}  (h : G12_byWhat v1 v2 μ Q) : MX l φ tc D s0 dR yX12_byWhat cX12_byWhat 3 (some .int) [.ref 358, .int v1, .int v2] μ (QI Q) := by
  refine MX.of (own := RX12) hG plX12 rfl (Nat.le_of_ble_eq_true rfl) (fun p e s m args below meth c C hr => ?_)
  refine x_sub [(0, .ref 358), (1, .int v1), (2, .int v2)] [0, 1, 2] rfl ?_
  unfold G12_byWhat at h
  refine x_iload_n C rfl 1 rfl dX12_byWhat_0 ?_
  refine x_if_ne (tgt := 13) C dX12_byWhat_1 (by decide) (fun c7 => ?_) (fun c7 => ?_)
  · have h := h.1 c7
    refine x_iload_n C rfl 1 rfl dX12_byWhat_13 ?_
    refine x_iconst (v := 1) C (by decide) dX12_byWhat_14 ?_
    refine x_icmp_ne (tgt := 32) C dX12_byWhat_15 (by decide) (fun c8 => ?_) (fun c8 => ?_)
    · have h := h.1 c8
      refine x_iload_n C rfl 1 rfl dX12_byWhat_32 ?_
      refine x_iconst (v := 2) C (by decide) dX12_byWhat_33 ?_
      refine x_icmp_ne (tgt := 51) C dX12_byWhat_34 (by decide) (fun c9 => ?_) (fun c9 => ?_)
      · have h := h.1 c9
        refine x_aload_n C rfl 0 rfl dX12_byWhat_51 ?_
        refine x_getR (r := 370) C (j := 16) ob358.1 ob358.2 (Nat.le_of_ble_eq_true rfl) (Nat.le_of_ble_eq_true rfl) (fun _ _ _ => rfl) r_358_16 tw_8_222 dX12_byWhat_52 ?_
        refine x_iload_n C rfl 2 rfl dX12_byWhat_55 ?_
        obtain ⟨c10, h⟩ := h
        refine x_iald C ob370.1 ob370.2 c10 rfl dX12_byWhat_56 ?_
        exact x_iret C hr dX12_byWhat_57 ⟨_, rfl, h⟩
      · have h := h.2 c9
        refine x_aload_n C rfl 0 rfl dX12_byWhat_37 ?_
        refine x_getR (r := 365) C (j := 10) ob358.1 ob358.2 (Nat.le_of_ble_eq_true rfl) (Nat.le_of_ble_eq_true rfl) (fun _ _ _ => rfl) r_358_10 tw_8_216 dX12_byWhat_38 ?_
        refine x_aload_n C rfl 0 rfl dX12_byWhat_41 ?_
        refine x_getR (r := 367) C (j := 13) ob358.1 ob358.2 (Nat.le_of_ble_eq_true rfl) (Nat.le_of_ble_eq_true rfl) (fun _ _ _ => rfl) r_358_13 tw_8_219 dX12_byWhat_42 ?_
        refine x_iload_n C rfl 2 rfl dX12_byWhat_45 ?_
        obtain ⟨c11, h⟩ := h
        refine x_iald C ob367.1 ob367.2 c11 rfl dX12_byWhat_46 ?_
        obtain ⟨c12, h⟩ := h
        refine x_iald C ob365.1 ob365.2 c12 rfl dX12_byWhat_47 ?_
        refine x_goto (tgt := 57) C dX12_byWhat_48 (by decide) ?_
        exact x_iret C hr dX12_byWhat_57 ⟨_, rfl, h⟩
    · have h := h.2 c8
      refine x_aload_n C rfl 0 rfl dX12_byWhat_18 ?_
      refine x_getR (r := 364) C (j := 9) ob358.1 ob358.2 (Nat.le_of_ble_eq_true rfl) (Nat.le_of_ble_eq_true rfl) (fun _ _ _ => rfl) r_358_9 tw_8_215 dX12_byWhat_19 ?_
      refine x_aload_n C rfl 0 rfl dX12_byWhat_22 ?_
      refine x_getR (r := 367) C (j := 13) ob358.1 ob358.2 (Nat.le_of_ble_eq_true rfl) (Nat.le_of_ble_eq_true rfl) (fun _ _ _ => rfl) r_358_13 tw_8_219 dX12_byWhat_23 ?_
      refine x_iload_n C rfl 2 rfl dX12_byWhat_26 ?_
      obtain ⟨c13, h⟩ := h
      refine x_iald C ob367.1 ob367.2 c13 rfl dX12_byWhat_27 ?_
      obtain ⟨c14, h⟩ := h
      refine x_iald C ob364.1 ob364.2 c14 rfl dX12_byWhat_28 ?_
      refine x_goto (tgt := 57) C dX12_byWhat_29 (by decide) ?_
      exact x_iret C hr dX12_byWhat_57 ⟨_, rfl, h⟩
  · have h := h.2 c7
    refine x_aload_n C rfl 0 rfl dX12_byWhat_4 ?_
    refine x_getR (r := 371) C (j := 17) ob358.1 ob358.2 (Nat.le_of_ble_eq_true rfl) (Nat.le_of_ble_eq_true rfl) (fun _ _ _ => rfl) r_358_17 tw_8_223 dX12_byWhat_5 ?_
    refine x_iload_n C rfl 2 rfl dX12_byWhat_8 ?_
    obtain ⟨c15, h⟩ := h
    refine x_iald C ob371.1 ob371.2 c15 rfl dX12_byWhat_9 ?_
    refine x_goto (tgt := 57) C dX12_byWhat_10 (by decide) ?_
    exact x_iret C hr dX12_byWhat_57 ⟨_, rfl, h⟩
set_option maxHeartbeats 4000000 in
set_option maxRecDepth 100000 in
theorem G12_countsBy_L29_b {p : Program} {e : Env} {s : State} {m : MethodId} {args : Array Value} {below : List Frame} {meth : Method} {c : Code} {l : Launch} {φ : Nat → Nat} {tc : Nat → ClassId} {D : va_G} {s0 : State} {dR : Nat} (C : CX p s m args meth c φ tc D s0 cX12_countsBy RX12 4) (hd : G12_countsBy_dep ≤ dR) (hr : meth.sig.returnType = none)  {p1 : Int32} {p2 : Int32} {Q : MM → Prop} {K29 : Int32 × MM → Prop} {x : Int32 × MM}   (hK29 : ∀ (z3 : Int32) (zμ : MM), K29 (z3, zμ) → WX p l e (rmX dR) s m args below meth c φ tc D 4 (MQ below (QX φ tc D (QV Q)) args s 0 0 (AX φ)) 29 [(0, .ref 358), (1, .int p1), (2, .int p2), (3, .int z3)] [] zμ) (h : G12_countsBy_L29 p1 p2 Q K29 x) : WX p l e (rmX dR) s m args below meth c φ tc D 4 (MQ below (QX φ tc D (QV Q)) args s 0 0 (AX φ)) 29 [(0, .ref 358), (1, .int p1), (2, .int p2), (3, .int x.1)] [] x.2 := by
  unfold G12_countsBy_L29 at h
  refine x_iload_n C rfl 3 rfl dX12_countsBy_29 ?_
  refine x_aload_n C rfl 0 rfl dX12_countsBy_30 ?_
  refine x_getI C (j := 12) ob358.1 ob358.2 (Nat.le_of_ble_eq_true rfl) (Nat.le_of_ble_eq_true rfl) (Or.inl rfl) tw_8_218 dX12_countsBy_31 ?_
  refine x_icmp_ge (tgt := 98) C dX12_countsBy_34 (by decide) (fun c22 => ?_) (fun c22 => ?_)
  · have h := h.1 c22
    exact x_vret C hr dX12_countsBy_98 ⟨rfl, h⟩
  · have h := h.2 c22
    refine x_aload_n C rfl 0 rfl dX12_countsBy_37 ?_
    refine x_getR (r := 373) C (j := 19) ob358.1 ob358.2 (Nat.le_of_ble_eq_true rfl) (Nat.le_of_ble_eq_true rfl) (fun _ _ _ => rfl) r_358_19 tw_8_225 dX12_countsBy_38 ?_
    refine x_iload_n C rfl 3 rfl dX12_countsBy_41 ?_
    obtain ⟨c23, h⟩ := h
    refine x_zald C ob373.1 ob373.2 c23 rfl dX12_countsBy_42 ?_
    refine x_if_eq (tgt := 92) C dX12_countsBy_43 (by decide) (fun c24 => ?_) (fun c24 => ?_)
    · have h := h.1 c24
      refine x_iinc (v := (x.1 + 1)) C [(3, .int (x.1 + 1)), (0, .ref 358), (1, .int p1), (2, .int p2)] 3 rfl (congrArg (fun z => x.1 + z) (by decide : Int32.ofInt (1) = 1)) (Nat.le_of_ble_eq_true rfl) rfl dX12_countsBy_92 ?_
      refine x_goto (tgt := 29) C dX12_countsBy_95 (by decide) ?_
      refine x_sub [(0, .ref 358), (1, .int p1), (2, .int p2), (3, .int (x.1 + 1))] [1, 2, 3, 0] rfl ?_
      exact hK29 _ _ h
    · have h := h.2 c24
      refine x_aload_n C rfl 0 rfl dX12_countsBy_46 ?_
      refine x_iload_n C rfl 1 rfl dX12_countsBy_47 ?_
      refine x_iload_n C rfl 3 rfl dX12_countsBy_48 ?_
      refine x_callV (dC := G12_byWhat_dep) (as := [.int p1, .int x.1]) (st := []) C rfl (Nat.le_trans (Nat.le_of_ble_eq_true rfl) hd) (Nat.le_of_ble_eq_true rfl) ob358.1 ob358.2 (Nat.le_of_ble_eq_true rfl) rfl ts_10_14 tw_8_86 tw_8_84 tc_8_87 tw_1_13 hyX12 hnX12_byWhat rfl (Nat.le_of_ble_eq_true rfl) dX12_countsBy_49 (G12_byWhat_met C.2.2.2.2.2.2.2.1 (Nat.le_refl _)  h) (fun r0 μ25 hq => ?_)
      obtain ⟨r26, rfl, h⟩ := hq
      refine x_st [.int r26] rfl ?_
      refine x_iload_n C rfl 2 rfl dX12_countsBy_52 ?_
      refine x_icmp_ne (tgt := 92) C dX12_countsBy_53 (by decide) (fun c27 => ?_) (fun c27 => ?_)
      · have h := h.1 c27
        refine x_iinc (v := (x.1 + 1)) C [(3, .int (x.1 + 1)), (0, .ref 358), (1, .int p1), (2, .int p2)] 3 rfl (congrArg (fun z => x.1 + z) (by decide : Int32.ofInt (1) = 1)) (Nat.le_of_ble_eq_true rfl) rfl dX12_countsBy_92 ?_
        refine x_goto (tgt := 29) C dX12_countsBy_95 (by decide) ?_
        refine x_sub [(0, .ref 358), (1, .int p1), (2, .int p2), (3, .int (x.1 + 1))] [1, 2, 3, 0] rfl ?_
        exact hK29 _ _ h
      · have h := h.2 c27
        refine x_aload_n C rfl 0 rfl dX12_countsBy_56 ?_
        refine x_getR (r := 381) C (j := 36) ob358.1 ob358.2 (Nat.le_of_ble_eq_true rfl) (Nat.le_of_ble_eq_true rfl) (fun _ _ _ => rfl) r_358_36 tw_9_2 dX12_countsBy_57 ?_
        refine x_aload_n C rfl 0 rfl dX12_countsBy_60 ?_
        refine x_iload_n C rfl 3 rfl dX12_countsBy_61 ?_
        refine x_callV (dC := G12_peopleOf_dep) (as := [.int x.1]) (st := [.ref 381]) C rfl (Nat.le_trans (Nat.le_of_ble_eq_true rfl) hd) (Nat.le_of_ble_eq_true rfl) ob358.1 ob358.2 (Nat.le_of_ble_eq_true rfl) rfl ts_9_15 tw_7_150 tw_7_148 tc_7_151 tw_1_13 hyX12 hnX12_peopleOf rfl (Nat.le_of_ble_eq_true rfl) dX12_countsBy_62 (G12_peopleOf_met C.2.2.2.2.2.2.2.1 (Nat.le_refl _)  h) (fun r0 μ28 hq => ?_)
        obtain ⟨r29, rfl, h⟩ := hq
        refine x_st [.int r29, .ref 381] rfl ?_
        refine x_dup2_11 C rfl rfl dX12_countsBy_65 ?_
        obtain ⟨c30, h⟩ := h
        refine x_iald C ob381.1 ob381.2 c30 rfl dX12_countsBy_66 ?_
        refine x_iconst (v := 1) C (by decide) dX12_countsBy_67 ?_
        refine x_iadd C dX12_countsBy_68 ?_
        obtain ⟨c31, h⟩ := h
        refine x_iast C ob381.1 ob381.2 c31 rfl dX12_countsBy_69 ?_
        refine x_mu (fun μ32 e_μ32 => ?_)
        have h := h μ32 e_μ32
        refine x_aload_n C rfl 0 rfl dX12_countsBy_70 ?_
        refine x_getR (r := 382) C (j := 37) ob358.1 ob358.2 (Nat.le_of_ble_eq_true rfl) (Nat.le_of_ble_eq_true rfl) (fun _ _ _ => rfl) r_358_37 tw_9_3 dX12_countsBy_71 ?_
        refine x_aload_n C rfl 0 rfl dX12_countsBy_74 ?_
        refine x_iload_n C rfl 3 rfl dX12_countsBy_75 ?_
        refine x_callV (dC := G12_peopleOf_dep) (as := [.int x.1]) (st := [.ref 382]) C rfl (Nat.le_trans (Nat.le_of_ble_eq_true rfl) hd) (Nat.le_of_ble_eq_true rfl) ob358.1 ob358.2 (Nat.le_of_ble_eq_true rfl) rfl ts_9_15 tw_7_150 tw_7_148 tc_7_151 tw_1_13 hyX12 hnX12_peopleOf rfl (Nat.le_of_ble_eq_true rfl) dX12_countsBy_76 (G12_peopleOf_met C.2.2.2.2.2.2.2.1 (Nat.le_refl _)  h) (fun r0 μ33 hq => ?_)
        obtain ⟨r34, rfl, h⟩ := hq
        refine x_st [.int r34, .ref 382] rfl ?_
        refine x_dup2_11 C rfl rfl dX12_countsBy_79 ?_
        obtain ⟨c35, h⟩ := h
        refine x_iald C ob382.1 ob382.2 c35 rfl dX12_countsBy_80 ?_
        refine x_aload_n C rfl 0 rfl dX12_countsBy_81 ?_
        refine x_getR (r := 374) C (j := 20) ob358.1 ob358.2 (Nat.le_of_ble_eq_true rfl) (Nat.le_of_ble_eq_true rfl) (fun _ _ _ => rfl) r_358_20 tw_8_226 dX12_countsBy_82 ?_
        refine x_iload_n C rfl 3 rfl dX12_countsBy_85 ?_
        obtain ⟨c36, h⟩ := h
        refine x_zald C ob374.1 ob374.2 c36 rfl dX12_countsBy_86 ?_
        refine x_callS (dC := G12_flag_dep) (as := [.int (gI μ33 374 x.1.toNatClampNeg)]) (st := [.int (gI μ33 382 r34.toNatClampNeg), .int r34, .ref 382]) C rfl (Nat.le_trans (Nat.le_of_ble_eq_true rfl) hd) (Nat.le_of_ble_eq_true rfl) tw_6_212 tw_6_211 tc_6_213 tw_1_13 hyX12 hnX12_flag rfl (Nat.le_of_ble_eq_true rfl) dX12_countsBy_87 (G12_flag_met C.2.2.2.2.2.2.2.1 (Nat.le_refl _)  h) (fun r0 μ37 hq => ?_)
        obtain ⟨r38, rfl, h⟩ := hq
        refine x_st [.int r38, .int (gI μ33 382 r34.toNatClampNeg), .int r34, .ref 382] rfl ?_
        refine x_iadd C dX12_countsBy_90 ?_
        obtain ⟨c39, h⟩ := h
        refine x_iast C ob382.1 ob382.2 c39 rfl dX12_countsBy_91 ?_
        refine x_mu (fun μ40 e_μ40 => ?_)
        have h := h μ40 e_μ40
        refine x_iinc (v := (x.1 + 1)) C [(3, .int (x.1 + 1)), (0, .ref 358), (1, .int p1), (2, .int p2)] 3 rfl (congrArg (fun z => x.1 + z) (by decide : Int32.ofInt (1) = 1)) (Nat.le_of_ble_eq_true rfl) rfl dX12_countsBy_92 ?_
        refine x_goto (tgt := 29) C dX12_countsBy_95 (by decide) ?_
        refine x_sub [(0, .ref 358), (1, .int p1), (2, .int p2), (3, .int (x.1 + 1))] [1, 2, 3, 0] rfl ?_
        exact hK29 _ _ h
theorem G12_countsBy_L29_ok {p : Program} {e : Env} {s : State} {m : MethodId} {args : Array Value} {below : List Frame} {meth : Method} {c : Code} {l : Launch} {φ : Nat → Nat} {tc : Nat → ClassId} {D : va_G} {s0 : State} {dR : Nat} (C : CX p s m args meth c φ tc D s0 cX12_countsBy RX12 4) (hd : G12_countsBy_dep ≤ dR) (hr : meth.sig.returnType = none)  {p1 : Int32} {p2 : Int32} {Q : MM → Prop}  {x : Int32 × MM}    (h : Lp (G12_countsBy_L29 p1 p2 Q) x) : WX p l e (rmX dR) s m args below meth c φ tc D 4 (MQ below (QX φ tc D (QV Q)) args s 0 0 (AX φ)) 29 [(0, .ref 358), (1, .int p1), (2, .int p2), (3, .int x.1)] [] x.2 := by
  obtain ⟨n, h⟩ := h
  induction n generalizing x with
  | zero => exact h.elim
  | succ n ih => exact G12_countsBy_L29_b C hd hr   (fun z3 zμ hz => by have q := ih hz; exact q) h
set_option maxHeartbeats 4000000 in
set_option maxRecDepth 100000 in
theorem G12_countsBy_L2_b {p : Program} {e : Env} {s : State} {m : MethodId} {args : Array Value} {below : List Frame} {meth : Method} {c : Code} {l : Launch} {φ : Nat → Nat} {tc : Nat → ClassId} {D : va_G} {s0 : State} {dR : Nat} (C : CX p s m args meth c φ tc D s0 cX12_countsBy RX12 4) (hd : G12_countsBy_dep ≤ dR) (hr : meth.sig.returnType = none)  {p1 : Int32} {p2 : Int32} {Q : MM → Prop} {K2 : Int32 × MM → Prop} {x : Int32 × MM}   (hK2 : ∀ (z3 : Int32) (zμ : MM), K2 (z3, zμ) → WX p l e (rmX dR) s m args below meth c φ tc D 4 (MQ below (QX φ tc D (QV Q)) args s 0 0 (AX φ)) 2 [(0, .ref 358), (1, .int p1), (2, .int p2), (3, .int z3)] [] zμ) (h : G12_countsBy_L2 p1 p2 Q K2 x) : WX p l e (rmX dR) s m args below meth c φ tc D 4 (MQ below (QX φ tc D (QV Q)) args s 0 0 (AX φ)) 2 [(0, .ref 358), (1, .int p1), (2, .int p2), (3, .int x.1)] [] x.2 := by
  unfold G12_countsBy_L2 at h
  refine x_iload_n C rfl 3 rfl dX12_countsBy_2 ?_
  refine x_iconst (v := 2) C (by decide) dX12_countsBy_3 ?_
  refine x_icmp_ge (tgt := 27) C dX12_countsBy_4 (by decide) (fun c21 => ?_) (fun c21 => ?_)
  · have h := h.1 c21
    refine x_iconst (v := 0) C (by decide) dX12_countsBy_27 ?_
    refine x_istore_n C [(3, .int 0), (0, .ref 358), (1, .int p1), (2, .int p2)] rfl (Nat.le_of_ble_eq_true rfl) rfl dX12_countsBy_28 ?_
    refine x_sub [(0, .ref 358), (1, .int p1), (2, .int p2), (3, .int 0)] [1, 2, 3, 0] rfl ?_
    exact G12_countsBy_L29_ok C hd hr  h
  · have h := h.2 c21
    refine x_aload_n C rfl 0 rfl dX12_countsBy_7 ?_
    refine x_getR (r := 381) C (j := 36) ob358.1 ob358.2 (Nat.le_of_ble_eq_true rfl) (Nat.le_of_ble_eq_true rfl) (fun _ _ _ => rfl) r_358_36 tw_9_2 dX12_countsBy_8 ?_
    refine x_iload_n C rfl 3 rfl dX12_countsBy_11 ?_
    refine x_iconst (v := 0) C (by decide) dX12_countsBy_12 ?_
    obtain ⟨c41, h⟩ := h
    refine x_iast C ob381.1 ob381.2 c41 rfl dX12_countsBy_13 ?_
    refine x_mu (fun μ42 e_μ42 => ?_)
    have h := h μ42 e_μ42
    refine x_aload_n C rfl 0 rfl dX12_countsBy_14 ?_
    refine x_getR (r := 382) C (j := 37) ob358.1 ob358.2 (Nat.le_of_ble_eq_true rfl) (Nat.le_of_ble_eq_true rfl) (fun _ _ _ => rfl) r_358_37 tw_9_3 dX12_countsBy_15 ?_
    refine x_iload_n C rfl 3 rfl dX12_countsBy_18 ?_
    refine x_iconst (v := 0) C (by decide) dX12_countsBy_19 ?_
    obtain ⟨c43, h⟩ := h
    refine x_iast C ob382.1 ob382.2 c43 rfl dX12_countsBy_20 ?_
    refine x_mu (fun μ44 e_μ44 => ?_)
    have h := h μ44 e_μ44
    refine x_iinc (v := (x.1 + 1)) C [(3, .int (x.1 + 1)), (0, .ref 358), (1, .int p1), (2, .int p2)] 3 rfl (congrArg (fun z => x.1 + z) (by decide : Int32.ofInt (1) = 1)) (Nat.le_of_ble_eq_true rfl) rfl dX12_countsBy_21 ?_
    refine x_goto (tgt := 2) C dX12_countsBy_24 (by decide) ?_
    refine x_sub [(0, .ref 358), (1, .int p1), (2, .int p2), (3, .int (x.1 + 1))] [1, 2, 3, 0] rfl ?_
    exact hK2 _ _ h
theorem G12_countsBy_L2_ok {p : Program} {e : Env} {s : State} {m : MethodId} {args : Array Value} {below : List Frame} {meth : Method} {c : Code} {l : Launch} {φ : Nat → Nat} {tc : Nat → ClassId} {D : va_G} {s0 : State} {dR : Nat} (C : CX p s m args meth c φ tc D s0 cX12_countsBy RX12 4) (hd : G12_countsBy_dep ≤ dR) (hr : meth.sig.returnType = none)  {p1 : Int32} {p2 : Int32} {Q : MM → Prop}  {x : Int32 × MM}    (h : Lp (G12_countsBy_L2 p1 p2 Q) x) : WX p l e (rmX dR) s m args below meth c φ tc D 4 (MQ below (QX φ tc D (QV Q)) args s 0 0 (AX φ)) 2 [(0, .ref 358), (1, .int p1), (2, .int p2), (3, .int x.1)] [] x.2 := by
  obtain ⟨n, h⟩ := h
  induction n generalizing x with
  | zero => exact h.elim
  | succ n ih => exact G12_countsBy_L2_b C hd hr   (fun z3 zμ hz => by have q := ih hz; exact q) h
set_option maxHeartbeats 4000000 in
set_option maxRecDepth 100000 in
theorem G12_countsBy_met {l : Launch} {φ : Nat → Nat} {tc : Nat → ClassId} {D : va_G} {s0 : State} (hG : GX φ tc D s0) {dR : Nat} (hd : G12_countsBy_dep ≤ dR) {v1 : Int32} {v2 : Int32} {μ : MM} {Q : MM → Prop}  (h : G12_countsBy v1 v2 μ Q) : MX l φ tc D s0 dR yX12_countsBy cX12_countsBy 4 none [.ref 358, .int v1, .int v2] μ (QV Q) := by
  refine MX.of (own := RX12) hG plX12 rfl (Nat.le_of_ble_eq_true rfl) (fun p e s m args below meth c C hr => ?_)
  refine x_sub [(0, .ref 358), (1, .int v1), (2, .int v2)] [0, 1, 2] rfl ?_
  unfold G12_countsBy at h
  refine x_iconst (v := 0) C (by decide) dX12_countsBy_0 ?_
  refine x_istore_n C [(3, .int 0), (0, .ref 358), (1, .int v1), (2, .int v2)] rfl (Nat.le_of_ble_eq_true rfl) rfl dX12_countsBy_1 ?_
  refine x_sub [(0, .ref 358), (1, .int v1), (2, .int v2), (3, .int 0)] [1, 2, 3, 0] rfl ?_
  exact G12_countsBy_L2_ok C hd hr  h
set_option maxHeartbeats 4000000 in
set_option maxRecDepth 100000 in
theorem G12_sums_met {l : Launch} {φ : Nat → Nat} {tc : Nat → ClassId} {D : va_G} {s0 : State} (hG : GX φ tc D s0) {dR : Nat} (hd : G12_sums_dep ≤ dR) {v1 : Int64} {v3 : Int64} {μ : MM} {Q : MM → Prop}  (h : G12_sums v1 v3 μ Q) : MX l φ tc D s0 dR yX12_sums cX12_sums 13 none [.ref 358, .long v1, .long v3] μ (QV Q) := by
  refine MX.of (own := RX12) hG plX12 rfl (Nat.le_of_ble_eq_true rfl) (fun p e s m args below meth c C hr => ?_)
  refine x_sub [(0, .ref 358), (1, .long v1), (3, .long v3)] [0, 1, 2] rfl ?_
  unfold G12_sums at h
  refine x_aload_n C rfl 0 rfl dX12_sums_0 ?_
  refine x_getJ C (j := 60) ob358.1 ob358.2 (Nat.le_of_ble_eq_true rfl) (Nat.le_of_ble_eq_true rfl) rfl tw_9_26 dX12_sums_1 ?_
  refine x_lload_n C rfl 2 rfl dX12_sums_4 ?_
  refine x_callS (dC := G12_common_dep) (as := [.long (gJ μ 358 60), .long v3]) (st := []) C rfl (Nat.le_trans (Nat.le_of_ble_eq_true rfl) hd) (Nat.le_of_ble_eq_true rfl) tw_7_157 tw_7_156 tc_7_158 tw_1_13 hyX12 hnX12_common rfl (Nat.le_of_ble_eq_true rfl) dX12_sums_5 (G12_common_met C.2.2.2.2.2.2.2.1 (Nat.le_refl _)  h) (fun r0 μ12 hq => ?_)
  obtain ⟨r13, rfl, h⟩ := hq
  refine x_st [.long r13] rfl ?_
  refine x_lstore C [(5, .long r13), (0, .ref 358), (1, .long v1), (3, .long v3)] (Nat.le_of_ble_eq_true rfl) rfl dX12_sums_8 ?_
  refine x_aload_n C rfl 1 rfl dX12_sums_10 ?_
  refine x_getJ C (j := 59) ob358.1 ob358.2 (Nat.le_of_ble_eq_true rfl) (Nat.le_of_ble_eq_true rfl) rfl tw_9_25 dX12_sums_11 ?_
  refine x_lload_n C rfl 3 rfl dX12_sums_14 ?_
  refine x_lload C 0 rfl dX12_sums_15 ?_
  obtain ⟨c14, h⟩ := h
  refine x_ldiv C c14 dX12_sums_17 ?_
  refine x_lmul C dX12_sums_18 ?_
  refine x_lload_n C rfl 2 rfl dX12_sums_19 ?_
  refine x_aload_n C rfl 1 rfl dX12_sums_20 ?_
  refine x_getJ C (j := 60) ob358.1 ob358.2 (Nat.le_of_ble_eq_true rfl) (Nat.le_of_ble_eq_true rfl) rfl tw_9_26 dX12_sums_21 ?_
  refine x_lload C 0 rfl dX12_sums_24 ?_
  obtain ⟨c15, h⟩ := h
  refine x_ldiv C c15 dX12_sums_26 ?_
  refine x_lmul C dX12_sums_27 ?_
  refine x_ladd C dX12_sums_28 ?_
  refine x_topl (fun y16 e_y16 => ?_)
  have h := h y16 e_y16
  refine x_lstore C [(7, .long y16), (5, .long r13), (0, .ref 358), (1, .long v1), (3, .long v3)] (Nat.le_of_ble_eq_true rfl) rfl dX12_sums_29 ?_
  refine x_aload_n C rfl 2 rfl dX12_sums_31 ?_
  refine x_getJ C (j := 60) ob358.1 ob358.2 (Nat.le_of_ble_eq_true rfl) (Nat.le_of_ble_eq_true rfl) rfl tw_9_26 dX12_sums_32 ?_
  refine x_lload C 1 rfl dX12_sums_35 ?_
  obtain ⟨c17, h⟩ := h
  refine x_ldiv C c17 dX12_sums_37 ?_
  refine x_lload_n C rfl 4 rfl dX12_sums_38 ?_
  refine x_lmul C dX12_sums_39 ?_
  refine x_topl (fun y18 e_y18 => ?_)
  have h := h y18 e_y18
  refine x_lstore C [(9, .long y18), (7, .long y16), (5, .long r13), (0, .ref 358), (1, .long v1), (3, .long v3)] (Nat.le_of_ble_eq_true rfl) rfl dX12_sums_40 ?_
  refine x_lload C 1 rfl dX12_sums_42 ?_
  refine x_lload C 0 rfl dX12_sums_44 ?_
  refine x_callS (dC := G12_common_dep) (as := [.long y16, .long y18]) (st := []) C rfl (Nat.le_trans (Nat.le_of_ble_eq_true rfl) hd) (Nat.le_of_ble_eq_true rfl) tw_7_157 tw_7_156 tc_7_158 tw_1_13 hyX12 hnX12_common rfl (Nat.le_of_ble_eq_true rfl) dX12_sums_46 (G12_common_met C.2.2.2.2.2.2.2.1 (Nat.le_refl _)  h) (fun r0 μ19 hq => ?_)
  obtain ⟨r20, rfl, h⟩ := hq
  refine x_st [.long r20] rfl ?_
  refine x_lstore C [(11, .long r20), (9, .long y18), (7, .long y16), (5, .long r13), (0, .ref 358), (1, .long v1), (3, .long v3)] (Nat.le_of_ble_eq_true rfl) rfl dX12_sums_49 ?_
  refine x_aload_n C rfl 4 rfl dX12_sums_51 ?_
  refine x_lload C 2 rfl dX12_sums_52 ?_
  refine x_lload C 0 rfl dX12_sums_54 ?_
  obtain ⟨c21, h⟩ := h
  refine x_ldiv C c21 dX12_sums_56 ?_
  refine x_putJ C (j := 59) ob358.1 ob358.2 (Nat.le_of_ble_eq_true rfl) (Nat.le_of_ble_eq_true rfl) rfl rfl rfl rfl tw_9_25 dX12_sums_57 ?_
  refine x_mu (fun μ22 e_μ22 => ?_)
  have h := h μ22 e_μ22
  refine x_aload_n C rfl 4 rfl dX12_sums_60 ?_
  refine x_lload C 1 rfl dX12_sums_61 ?_
  refine x_lload C 0 rfl dX12_sums_63 ?_
  obtain ⟨c23, h⟩ := h
  refine x_ldiv C c23 dX12_sums_65 ?_
  refine x_putJ C (j := 60) ob358.1 ob358.2 (Nat.le_of_ble_eq_true rfl) (Nat.le_of_ble_eq_true rfl) rfl rfl rfl rfl tw_9_26 dX12_sums_66 ?_
  refine x_mu (fun μ24 e_μ24 => ?_)
  have h := h μ24 e_μ24
  exact x_vret C hr dX12_sums_69 ⟨rfl, h⟩
set_option maxHeartbeats 4000000 in
set_option maxRecDepth 100000 in
theorem G12_explains_L33_b {p : Program} {e : Env} {s : State} {m : MethodId} {args : Array Value} {below : List Frame} {meth : Method} {c : Code} {l : Launch} {φ : Nat → Nat} {tc : Nat → ClassId} {D : va_G} {s0 : State} {dR : Nat} (C : CX p s m args meth c φ tc D s0 cX12_explains RX12 9) (hd : G12_explains_dep ≤ dR) (hr : meth.sig.returnType = (some .int))  {p1 : Int32} {Q : Int32 → MM → Prop} {K33 : Int32 × Int32 × MM → Prop} {x : Int32 × Int32 × MM}   (hK33 : ∀ (z2 : Int32) (z3 : Int32) (zμ : MM), K33 (z2, z3, zμ) → WX p l e (rmX dR) s m args below meth c φ tc D 9 (MQ below (QX φ tc D (QI Q)) args s 0 0 (AX φ)) 33 [(0, .ref 358), (1, .int p1), (2, .int z2), (3, .int z3)] [] zμ) (h : G12_explains_L33 p1 Q K33 x) : WX p l e (rmX dR) s m args below meth c φ tc D 9 (MQ below (QX φ tc D (QI Q)) args s 0 0 (AX φ)) 33 [(0, .ref 358), (1, .int p1), (2, .int x.1), (3, .int x.2.1)] [] x.2.2 := by
  unfold G12_explains_L33 at h
  refine x_iload_n C rfl 3 rfl dX12_explains_33 ?_
  refine x_bipush (v := 10) C (by decide) dX12_explains_34 ?_
  refine x_icmp_ge (tgt := 136) C dX12_explains_36 (by decide) (fun c45 => ?_) (fun c45 => ?_)
  · have h := h.1 c45
    refine x_iload_n C rfl 2 rfl dX12_explains_136 ?_
    refine x_if_ne (tgt := 143) C dX12_explains_137 (by decide) (fun c46 => ?_) (fun c46 => ?_)
    · have h := h.1 c46
      refine x_aload_n C rfl 0 rfl dX12_explains_143 ?_
      refine x_getJ C (j := 59) ob358.1 ob358.2 (Nat.le_of_ble_eq_true rfl) (Nat.le_of_ble_eq_true rfl) rfl tw_9_25 dX12_explains_144 ?_
      refine x_aload_n C rfl 0 rfl dX12_explains_147 ?_
      refine x_getJ C (j := 60) ob358.1 ob358.2 (Nat.le_of_ble_eq_true rfl) (Nat.le_of_ble_eq_true rfl) rfl tw_9_26 dX12_explains_148 ?_
      refine x_iload_n C rfl 2 rfl dX12_explains_151 ?_
      refine x_i2l C dX12_explains_152 ?_
      refine x_lmul C dX12_explains_153 ?_
      refine x_callS (dC := G12_common_dep) (as := [.long (gJ x.2.2 358 59), .long ((gJ x.2.2 358 60) * (x.1.toInt64))]) (st := []) C rfl (Nat.le_trans (Nat.le_of_ble_eq_true rfl) hd) (Nat.le_of_ble_eq_true rfl) tw_7_157 tw_7_156 tc_7_158 tw_1_13 hyX12 hnX12_common rfl (Nat.le_of_ble_eq_true rfl) dX12_explains_154 (G12_common_met C.2.2.2.2.2.2.2.1 (Nat.le_refl _)  h) (fun r0 μ47 hq => ?_)
      obtain ⟨r48, rfl, h⟩ := hq
      refine x_st [.long r48] rfl ?_
      refine x_lstore_n C [(3, .long r48), (0, .ref 358), (1, .int p1), (2, .int x.1)] rfl (Nat.le_of_ble_eq_true rfl) rfl dX12_explains_157 ?_
      refine x_aload_n C rfl 1 rfl dX12_explains_158 ?_
      refine x_getJ C (j := 59) ob358.1 ob358.2 (Nat.le_of_ble_eq_true rfl) (Nat.le_of_ble_eq_true rfl) rfl tw_9_25 dX12_explains_159 ?_
      refine x_lload_n C rfl 0 rfl dX12_explains_162 ?_
      obtain ⟨c49, h⟩ := h
      refine x_ldiv C c49 dX12_explains_163 ?_
      refine x_topl (fun y50 e_y50 => ?_)
      have h := h y50 e_y50
      refine x_lstore C [(5, .long y50), (3, .long r48), (0, .ref 358), (1, .int p1), (2, .int x.1)] (Nat.le_of_ble_eq_true rfl) rfl dX12_explains_164 ?_
      refine x_aload_n C rfl 2 rfl dX12_explains_166 ?_
      refine x_getJ C (j := 60) ob358.1 ob358.2 (Nat.le_of_ble_eq_true rfl) (Nat.le_of_ble_eq_true rfl) rfl tw_9_26 dX12_explains_167 ?_
      refine x_iload_n C rfl 4 rfl dX12_explains_170 ?_
      refine x_i2l C dX12_explains_171 ?_
      refine x_lmul C dX12_explains_172 ?_
      refine x_lload_n C rfl 1 rfl dX12_explains_173 ?_
      obtain ⟨c51, h⟩ := h
      refine x_ldiv C c51 dX12_explains_174 ?_
      refine x_topl (fun y52 e_y52 => ?_)
      have h := h y52 e_y52
      refine x_lstore C [(7, .long y52), (5, .long y50), (3, .long r48), (0, .ref 358), (1, .int p1), (2, .int x.1)] (Nat.le_of_ble_eq_true rfl) rfl dX12_explains_175 ?_
      refine x_aload_n C rfl 3 rfl dX12_explains_177 ?_
      refine x_iconst (v := (-1)) C (by decide) dX12_explains_178 ?_
      refine x_iconst (v := (-1)) C (by decide) dX12_explains_179 ?_
      refine x_callV (dC := G12_counts_dep) (as := [.int (-1), .int (-1)]) (st := []) C rfl (Nat.le_trans (Nat.le_of_ble_eq_true rfl) hd) (Nat.le_of_ble_eq_true rfl) ob358.1 ob358.2 (Nat.le_of_ble_eq_true rfl) rfl ts_9_13 tw_7_142 tw_7_140 tc_7_143 tw_1_13 hyX12 hnX12_counts rfl (Nat.le_of_ble_eq_true rfl) dX12_explains_180 (G12_counts_met C.2.2.2.2.2.2.2.1 (Nat.le_refl _)  h) (fun r0 μ53 hq => ?_)
      obtain ⟨rfl, h⟩ := hq
      refine x_st [] rfl ?_
      refine x_aload_n C rfl 3 rfl dX12_explains_183 ?_
      refine x_aload_n C rfl 3 rfl dX12_explains_184 ?_
      refine x_getR (r := 382) C (j := 37) ob358.1 ob358.2 (Nat.le_of_ble_eq_true rfl) (Nat.le_of_ble_eq_true rfl) (fun _ _ _ => rfl) r_358_37 tw_9_3 dX12_explains_185 ?_
      refine x_iconst (v := 0) C (by decide) dX12_explains_188 ?_
      refine x_iald C ob382.1 ob382.2 (by unfold vp_in; decide) (j := 0) (by decide) dX12_explains_189 ?_
      refine x_aload_n C rfl 3 rfl dX12_explains_190 ?_
      refine x_getR (r := 381) C (j := 36) ob358.1 ob358.2 (Nat.le_of_ble_eq_true rfl) (Nat.le_of_ble_eq_true rfl) (fun _ _ _ => rfl) r_358_36 tw_9_2 dX12_explains_191 ?_
      refine x_iconst (v := 1) C (by decide) dX12_explains_194 ?_
      refine x_iald C ob381.1 ob381.2 (by unfold vp_in; decide) (j := 1) (by decide) dX12_explains_195 ?_
      refine x_imul C dX12_explains_196 ?_
      refine x_aload_n C rfl 3 rfl dX12_explains_197 ?_
      refine x_getR (r := 382) C (j := 37) ob358.1 ob358.2 (Nat.le_of_ble_eq_true rfl) (Nat.le_of_ble_eq_true rfl) (fun _ _ _ => rfl) r_358_37 tw_9_3 dX12_explains_198 ?_
      refine x_iconst (v := 1) C (by decide) dX12_explains_201 ?_
      refine x_iald C ob382.1 ob382.2 (by unfold vp_in; decide) (j := 1) (by decide) dX12_explains_202 ?_
      refine x_aload_n C rfl 3 rfl dX12_explains_203 ?_
      refine x_getR (r := 381) C (j := 36) ob358.1 ob358.2 (Nat.le_of_ble_eq_true rfl) (Nat.le_of_ble_eq_true rfl) (fun _ _ _ => rfl) r_358_36 tw_9_2 dX12_explains_204 ?_
      refine x_iconst (v := 0) C (by decide) dX12_explains_207 ?_
      refine x_iald C ob381.1 ob381.2 (by unfold vp_in; decide) (j := 0) (by decide) dX12_explains_208 ?_
      refine x_imul C dX12_explains_209 ?_
      refine x_isub C dX12_explains_210 ?_
      refine x_i2l C dX12_explains_211 ?_
      refine x_putJ C (j := 59) ob358.1 ob358.2 (Nat.le_of_ble_eq_true rfl) (Nat.le_of_ble_eq_true rfl) rfl rfl rfl rfl tw_9_25 dX12_explains_212 ?_
      refine x_mu (fun μ54 e_μ54 => ?_)
      have h := h μ54 e_μ54
      refine x_aload_n C rfl 3 rfl dX12_explains_215 ?_
      refine x_aload_n C rfl 3 rfl dX12_explains_216 ?_
      refine x_getR (r := 381) C (j := 36) ob358.1 ob358.2 (Nat.le_of_ble_eq_true rfl) (Nat.le_of_ble_eq_true rfl) (fun _ _ _ => rfl) r_358_36 tw_9_2 dX12_explains_217 ?_
      refine x_iconst (v := 0) C (by decide) dX12_explains_220 ?_
      refine x_iald C ob381.1 ob381.2 (by unfold vp_in; decide) (j := 0) (by decide) dX12_explains_221 ?_
      refine x_i2l C dX12_explains_222 ?_
      refine x_aload_n C rfl 3 rfl dX12_explains_223 ?_
      refine x_getR (r := 381) C (j := 36) ob358.1 ob358.2 (Nat.le_of_ble_eq_true rfl) (Nat.le_of_ble_eq_true rfl) (fun _ _ _ => rfl) r_358_36 tw_9_2 dX12_explains_224 ?_
      refine x_iconst (v := 1) C (by decide) dX12_explains_227 ?_
      refine x_iald C ob381.1 ob381.2 (by unfold vp_in; decide) (j := 1) (by decide) dX12_explains_228 ?_
      refine x_i2l C dX12_explains_229 ?_
      refine x_lmul C dX12_explains_230 ?_
      refine x_putJ C (j := 60) ob358.1 ob358.2 (Nat.le_of_ble_eq_true rfl) (Nat.le_of_ble_eq_true rfl) rfl rfl rfl rfl tw_9_26 dX12_explains_231 ?_
      refine x_mu (fun μ55 e_μ55 => ?_)
      have h := h μ55 e_μ55
      refine x_aload_n C rfl 3 rfl dX12_explains_234 ?_
      refine x_lload C 1 rfl dX12_explains_235 ?_
      refine x_lneg C dX12_explains_237 ?_
      refine x_lload C 0 rfl dX12_explains_238 ?_
      refine x_callV (dC := G12_sums_dep) (as := [.long (-y50), .long y52]) (st := []) C rfl (Nat.le_trans (Nat.le_of_ble_eq_true rfl) hd) (Nat.le_of_ble_eq_true rfl) ob358.1 ob358.2 (Nat.le_of_ble_eq_true rfl) rfl ts_10_15 tw_8_90 tw_8_88 tc_8_91 tw_1_13 hyX12 hnX12_sums rfl (Nat.le_of_ble_eq_true rfl) dX12_explains_240 (G12_sums_met C.2.2.2.2.2.2.2.1 (Nat.le_refl _)  h) (fun r0 μ56 hq => ?_)
      obtain ⟨rfl, h⟩ := hq
      refine x_st [] rfl ?_
      refine x_aload_n C rfl 3 rfl dX12_explains_243 ?_
      refine x_iconst (v := 0) C (by decide) dX12_explains_244 ?_
      refine x_putI C (j := 1) ob358.1 ob358.2 (Nat.le_of_ble_eq_true rfl) (Nat.le_of_ble_eq_true rfl) (Or.inl rfl) rfl rfl rfl tw_8_207 dX12_explains_245 ?_
      refine x_mu (fun μ57 e_μ57 => ?_)
      have h := h μ57 e_μ57
      refine x_aload_n C rfl 3 rfl dX12_explains_248 ?_
      refine x_lload C 1 rfl dX12_explains_249 ?_
      refine x_callV (dC := G12_enters_dep) (as := [.long y50]) (st := []) C rfl (Nat.le_trans (Nat.le_of_ble_eq_true rfl) hd) (Nat.le_of_ble_eq_true rfl) ob358.1 ob358.2 (Nat.le_of_ble_eq_true rfl) rfl ts_10_1 tw_7_161 tw_7_159 tc_7_162 tw_1_13 hyX12 hnX12_enters rfl (Nat.le_of_ble_eq_true rfl) dX12_explains_251 (G12_enters_met C.2.2.2.2.2.2.2.1 (Nat.le_refl _)  h) (fun r0 μ58 hq => ?_)
      obtain ⟨rfl, h⟩ := hq
      refine x_st [] rfl ?_
      refine x_aload_n C rfl 3 rfl dX12_explains_254 ?_
      refine x_lload C 0 rfl dX12_explains_255 ?_
      refine x_callV (dC := G12_enters_dep) (as := [.long y52]) (st := []) C rfl (Nat.le_trans (Nat.le_of_ble_eq_true rfl) hd) (Nat.le_of_ble_eq_true rfl) ob358.1 ob358.2 (Nat.le_of_ble_eq_true rfl) rfl ts_10_1 tw_7_161 tw_7_159 tc_7_162 tw_1_13 hyX12 hnX12_enters rfl (Nat.le_of_ble_eq_true rfl) dX12_explains_257 (G12_enters_met C.2.2.2.2.2.2.2.1 (Nat.le_refl _)  h) (fun r0 μ59 hq => ?_)
      obtain ⟨rfl, h⟩ := hq
      refine x_st [] rfl ?_
      refine x_aload_n C rfl 3 rfl dX12_explains_260 ?_
      refine x_aload_n C rfl 3 rfl dX12_explains_261 ?_
      refine x_getJ C (j := 59) ob358.1 ob358.2 (Nat.le_of_ble_eq_true rfl) (Nat.le_of_ble_eq_true rfl) rfl tw_9_25 dX12_explains_262 ?_
      refine x_callV (dC := G12_enters_dep) (as := [.long (gJ μ59 358 59)]) (st := []) C rfl (Nat.le_trans (Nat.le_of_ble_eq_true rfl) hd) (Nat.le_of_ble_eq_true rfl) ob358.1 ob358.2 (Nat.le_of_ble_eq_true rfl) rfl ts_10_1 tw_7_161 tw_7_159 tc_7_162 tw_1_13 hyX12 hnX12_enters rfl (Nat.le_of_ble_eq_true rfl) dX12_explains_265 (G12_enters_met C.2.2.2.2.2.2.2.1 (Nat.le_refl _)  h) (fun r0 μ60 hq => ?_)
      obtain ⟨rfl, h⟩ := hq
      refine x_st [] rfl ?_
      refine x_aload_n C rfl 3 rfl dX12_explains_268 ?_
      refine x_aload_n C rfl 3 rfl dX12_explains_269 ?_
      refine x_getJ C (j := 60) ob358.1 ob358.2 (Nat.le_of_ble_eq_true rfl) (Nat.le_of_ble_eq_true rfl) rfl tw_9_26 dX12_explains_270 ?_
      refine x_callV (dC := G12_enters_dep) (as := [.long (gJ μ60 358 60)]) (st := []) C rfl (Nat.le_trans (Nat.le_of_ble_eq_true rfl) hd) (Nat.le_of_ble_eq_true rfl) ob358.1 ob358.2 (Nat.le_of_ble_eq_true rfl) rfl ts_10_1 tw_7_161 tw_7_159 tc_7_162 tw_1_13 hyX12 hnX12_enters rfl (Nat.le_of_ble_eq_true rfl) dX12_explains_273 (G12_enters_met C.2.2.2.2.2.2.2.1 (Nat.le_refl _)  h) (fun r0 μ61 hq => ?_)
      obtain ⟨rfl, h⟩ := hq
      refine x_st [] rfl ?_
      refine x_iconst (v := 0) C (by decide) dX12_explains_276 ?_
      exact x_iret C hr dX12_explains_277 ⟨_, rfl, h⟩
    · have h := h.2 c46
      refine x_bipush (v := (-2)) C (by decide) dX12_explains_140 ?_
      exact x_iret C hr dX12_explains_142 ⟨_, rfl, h⟩
  · have h := h.2 c45
    refine x_aload_n C rfl 0 rfl dX12_explains_39 ?_
    refine x_iload_n C rfl 1 rfl dX12_explains_40 ?_
    refine x_iload_n C rfl 3 rfl dX12_explains_41 ?_
    refine x_callV (dC := G12_countsBy_dep) (as := [.int p1, .int x.2.1]) (st := []) C rfl (Nat.le_trans (Nat.le_of_ble_eq_true rfl) hd) (Nat.le_of_ble_eq_true rfl) ob358.1 ob358.2 (Nat.le_of_ble_eq_true rfl) rfl ts_10_13 tw_8_82 tw_8_80 tc_8_83 tw_1_13 hyX12 hnX12_countsBy rfl (Nat.le_of_ble_eq_true rfl) dX12_explains_42 (G12_countsBy_met C.2.2.2.2.2.2.2.1 (Nat.le_refl _)  h) (fun r0 μ62 hq => ?_)
    obtain ⟨rfl, h⟩ := hq
    refine x_st [] rfl ?_
    refine x_aload_n C rfl 0 rfl dX12_explains_45 ?_
    refine x_callV (dC := G12_areBoth_dep) (as := []) (st := []) C rfl (Nat.le_trans (Nat.le_of_ble_eq_true rfl) hd) (Nat.le_of_ble_eq_true rfl) ob358.1 ob358.2 (Nat.le_of_ble_eq_true rfl) rfl ts_10_2 tw_7_169 tw_7_167 tc_7_170 tw_1_13 hyX12 hnX12_areBoth rfl (Nat.le_of_ble_eq_true rfl) dX12_explains_46 (G12_areBoth_met C.2.2.2.2.2.2.2.1 (Nat.le_refl _)  h) (fun r0 μ63 hq => ?_)
    obtain ⟨r64, rfl, h⟩ := hq
    refine x_st [.int r64] rfl ?_
    refine x_if_eq (tgt := 130) C dX12_explains_49 (by decide) (fun c65 => ?_) (fun c65 => ?_)
    · have h := h.1 c65
      refine x_iinc (v := (x.2.1 + 1)) C [(3, .int (x.2.1 + 1)), (0, .ref 358), (1, .int p1), (2, .int x.1)] 3 rfl (congrArg (fun z => x.2.1 + z) (by decide : Int32.ofInt (1) = 1)) (Nat.le_of_ble_eq_true rfl) rfl dX12_explains_130 ?_
      refine x_goto (tgt := 33) C dX12_explains_133 (by decide) ?_
      refine x_sub [(0, .ref 358), (1, .int p1), (2, .int x.1), (3, .int (x.2.1 + 1))] [1, 2, 3, 0] rfl ?_
      exact hK33 _ _ _ h
    · have h := h.2 c65
      refine x_aload_n C rfl 0 rfl dX12_explains_52 ?_
      refine x_aload_n C rfl 0 rfl dX12_explains_53 ?_
      refine x_getR (r := 382) C (j := 37) ob358.1 ob358.2 (Nat.le_of_ble_eq_true rfl) (Nat.le_of_ble_eq_true rfl) (fun _ _ _ => rfl) r_358_37 tw_9_3 dX12_explains_54 ?_
      refine x_iconst (v := 0) C (by decide) dX12_explains_57 ?_
      refine x_iald C ob382.1 ob382.2 (by unfold vp_in; decide) (j := 0) (by decide) dX12_explains_58 ?_
      refine x_aload_n C rfl 0 rfl dX12_explains_59 ?_
      refine x_getR (r := 381) C (j := 36) ob358.1 ob358.2 (Nat.le_of_ble_eq_true rfl) (Nat.le_of_ble_eq_true rfl) (fun _ _ _ => rfl) r_358_36 tw_9_2 dX12_explains_60 ?_
      refine x_iconst (v := 1) C (by decide) dX12_explains_63 ?_
      refine x_iald C ob381.1 ob381.2 (by unfold vp_in; decide) (j := 1) (by decide) dX12_explains_64 ?_
      refine x_imul C dX12_explains_65 ?_
      refine x_aload_n C rfl 0 rfl dX12_explains_66 ?_
      refine x_getR (r := 382) C (j := 37) ob358.1 ob358.2 (Nat.le_of_ble_eq_true rfl) (Nat.le_of_ble_eq_true rfl) (fun _ _ _ => rfl) r_358_37 tw_9_3 dX12_explains_67 ?_
      refine x_iconst (v := 1) C (by decide) dX12_explains_70 ?_
      refine x_iald C ob382.1 ob382.2 (by unfold vp_in; decide) (j := 1) (by decide) dX12_explains_71 ?_
      refine x_aload_n C rfl 0 rfl dX12_explains_72 ?_
      refine x_getR (r := 381) C (j := 36) ob358.1 ob358.2 (Nat.le_of_ble_eq_true rfl) (Nat.le_of_ble_eq_true rfl) (fun _ _ _ => rfl) r_358_36 tw_9_2 dX12_explains_73 ?_
      refine x_iconst (v := 0) C (by decide) dX12_explains_76 ?_
      refine x_iald C ob381.1 ob381.2 (by unfold vp_in; decide) (j := 0) (by decide) dX12_explains_77 ?_
      refine x_imul C dX12_explains_78 ?_
      refine x_isub C dX12_explains_79 ?_
      refine x_i2l C dX12_explains_80 ?_
      refine x_aload_n C rfl 0 rfl dX12_explains_81 ?_
      refine x_getR (r := 381) C (j := 36) ob358.1 ob358.2 (Nat.le_of_ble_eq_true rfl) (Nat.le_of_ble_eq_true rfl) (fun _ _ _ => rfl) r_358_36 tw_9_2 dX12_explains_82 ?_
      refine x_iconst (v := 0) C (by decide) dX12_explains_85 ?_
      refine x_iald C ob381.1 ob381.2 (by unfold vp_in; decide) (j := 0) (by decide) dX12_explains_86 ?_
      refine x_aload_n C rfl 0 rfl dX12_explains_87 ?_
      refine x_getR (r := 381) C (j := 36) ob358.1 ob358.2 (Nat.le_of_ble_eq_true rfl) (Nat.le_of_ble_eq_true rfl) (fun _ _ _ => rfl) r_358_36 tw_9_2 dX12_explains_88 ?_
      refine x_iconst (v := 1) C (by decide) dX12_explains_91 ?_
      refine x_iald C ob381.1 ob381.2 (by unfold vp_in; decide) (j := 1) (by decide) dX12_explains_92 ?_
      refine x_iadd C dX12_explains_93 ?_
      refine x_i2l C dX12_explains_94 ?_
      refine x_lmul C dX12_explains_95 ?_
      refine x_aload_n C rfl 0 rfl dX12_explains_96 ?_
      refine x_getR (r := 381) C (j := 36) ob358.1 ob358.2 (Nat.le_of_ble_eq_true rfl) (Nat.le_of_ble_eq_true rfl) (fun _ _ _ => rfl) r_358_36 tw_9_2 dX12_explains_97 ?_
      refine x_iconst (v := 0) C (by decide) dX12_explains_100 ?_
      refine x_iald C ob381.1 ob381.2 (by unfold vp_in; decide) (j := 0) (by decide) dX12_explains_101 ?_
      refine x_i2l C dX12_explains_102 ?_
      refine x_aload_n C rfl 0 rfl dX12_explains_103 ?_
      refine x_getR (r := 381) C (j := 36) ob358.1 ob358.2 (Nat.le_of_ble_eq_true rfl) (Nat.le_of_ble_eq_true rfl) (fun _ _ _ => rfl) r_358_36 tw_9_2 dX12_explains_104 ?_
      refine x_iconst (v := 1) C (by decide) dX12_explains_107 ?_
      refine x_iald C ob381.1 ob381.2 (by unfold vp_in; decide) (j := 1) (by decide) dX12_explains_108 ?_
      refine x_i2l C dX12_explains_109 ?_
      refine x_lmul C dX12_explains_110 ?_
      refine x_callV (dC := G12_sums_dep) (as := [.long (((((gI μ63 382 0) * (gI μ63 381 1)) - ((gI μ63 382 1) * (gI μ63 381 0))).toInt64) * (((gI μ63 381 0) + (gI μ63 381 1)).toInt64)), .long (((gI μ63 381 0).toInt64) * ((gI μ63 381 1).toInt64))]) (st := []) C rfl (Nat.le_trans (Nat.le_of_ble_eq_true rfl) hd) (Nat.le_of_ble_eq_true rfl) ob358.1 ob358.2 (Nat.le_of_ble_eq_true rfl) rfl ts_10_15 tw_8_90 tw_8_88 tc_8_91 tw_1_13 hyX12 hnX12_sums rfl (Nat.le_of_ble_eq_true rfl) dX12_explains_111 (G12_sums_met C.2.2.2.2.2.2.2.1 (Nat.le_refl _)  h) (fun r0 μ66 hq => ?_)
      obtain ⟨rfl, h⟩ := hq
      refine x_st [] rfl ?_
      refine x_iload_n C rfl 2 rfl dX12_explains_114 ?_
      refine x_aload_n C rfl 0 rfl dX12_explains_115 ?_
      refine x_getR (r := 381) C (j := 36) ob358.1 ob358.2 (Nat.le_of_ble_eq_true rfl) (Nat.le_of_ble_eq_true rfl) (fun _ _ _ => rfl) r_358_36 tw_9_2 dX12_explains_116 ?_
      refine x_iconst (v := 0) C (by decide) dX12_explains_119 ?_
      refine x_iald C ob381.1 ob381.2 (by unfold vp_in; decide) (j := 0) (by decide) dX12_explains_120 ?_
      refine x_aload_n C rfl 0 rfl dX12_explains_121 ?_
      refine x_getR (r := 381) C (j := 36) ob358.1 ob358.2 (Nat.le_of_ble_eq_true rfl) (Nat.le_of_ble_eq_true rfl) (fun _ _ _ => rfl) r_358_36 tw_9_2 dX12_explains_122 ?_
      refine x_iconst (v := 1) C (by decide) dX12_explains_125 ?_
      refine x_iald C ob381.1 ob381.2 (by unfold vp_in; decide) (j := 1) (by decide) dX12_explains_126 ?_
      refine x_iadd C dX12_explains_127 ?_
      refine x_iadd C dX12_explains_128 ?_
      refine x_topi (fun y67 e_y67 => ?_)
      have h := h y67 e_y67
      refine x_istore_n C [(2, .int y67), (0, .ref 358), (1, .int p1), (3, .int x.2.1)] rfl (Nat.le_of_ble_eq_true rfl) rfl dX12_explains_129 ?_
      refine x_iinc (v := (x.2.1 + 1)) C [(3, .int (x.2.1 + 1)), (2, .int y67), (0, .ref 358), (1, .int p1)] 3 rfl (congrArg (fun z => x.2.1 + z) (by decide : Int32.ofInt (1) = 1)) (Nat.le_of_ble_eq_true rfl) rfl dX12_explains_130 ?_
      refine x_goto (tgt := 33) C dX12_explains_133 (by decide) ?_
      refine x_sub [(0, .ref 358), (1, .int p1), (2, .int y67), (3, .int (x.2.1 + 1))] [2, 3, 1, 0] rfl ?_
      exact hK33 _ _ _ h
theorem G12_explains_L33_ok {p : Program} {e : Env} {s : State} {m : MethodId} {args : Array Value} {below : List Frame} {meth : Method} {c : Code} {l : Launch} {φ : Nat → Nat} {tc : Nat → ClassId} {D : va_G} {s0 : State} {dR : Nat} (C : CX p s m args meth c φ tc D s0 cX12_explains RX12 9) (hd : G12_explains_dep ≤ dR) (hr : meth.sig.returnType = (some .int))  {p1 : Int32} {Q : Int32 → MM → Prop}  {x : Int32 × Int32 × MM}    (h : Lp (G12_explains_L33 p1 Q) x) : WX p l e (rmX dR) s m args below meth c φ tc D 9 (MQ below (QX φ tc D (QI Q)) args s 0 0 (AX φ)) 33 [(0, .ref 358), (1, .int p1), (2, .int x.1), (3, .int x.2.1)] [] x.2.2 := by
  obtain ⟨n, h⟩ := h
  induction n generalizing x with
  | zero => exact h.elim
  | succ n ih => exact G12_explains_L33_b C hd hr   (fun z2 z3 zμ hz => by have q := ih hz; exact q) h
set_option maxHeartbeats 4000000 in
set_option maxRecDepth 100000 in
theorem G12_explains_met {l : Launch} {φ : Nat → Nat} {tc : Nat → ClassId} {D : va_G} {s0 : State} (hG : GX φ tc D s0) {dR : Nat} (hd : G12_explains_dep ≤ dR) {v1 : Int32} {μ : MM} {Q : Int32 → MM → Prop}  (h : G12_explains v1 μ Q) : MX l φ tc D s0 dR yX12_explains cX12_explains 9 (some .int) [.ref 358, .int v1] μ (QI Q) := by
  refine MX.of (own := RX12) hG plX12 rfl (Nat.le_of_ble_eq_true rfl) (fun p e s m args below meth c C hr => ?_)
  refine x_sub [(0, .ref 358), (1, .int v1)] [0, 1] rfl ?_
  unfold G12_explains at h
  refine x_aload_n C rfl 0 rfl dX12_explains_0 ?_
  refine x_iconst (v := 0) C (by decide) dX12_explains_1 ?_
  refine x_putI C (j := 0) ob358.1 ob358.2 (Nat.le_of_ble_eq_true rfl) (Nat.le_of_ble_eq_true rfl) (Or.inl rfl) rfl rfl rfl tw_8_206 dX12_explains_2 ?_
  refine x_mu (fun μ39 e_μ39 => ?_)
  have h := h μ39 e_μ39
  refine x_iload_n C rfl 1 rfl dX12_explains_5 ?_
  refine x_i2l C dX12_explains_6 ?_
  refine x_lconst (v := 0) C (by decide) dX12_explains_7 ?_
  refine x_ldc2 (v := 3) C tw_6_190 dX12_explains_8 ?_
  refine x_callS (dC := G12_in_dep) (as := [.long (v1.toInt64), .long 0, .long 3]) (st := []) C rfl (Nat.le_trans (Nat.le_of_ble_eq_true rfl) hd) (Nat.le_of_ble_eq_true rfl) tw_6_183 tw_6_182 tc_6_184 tw_1_13 hyX12 hnX12_in rfl (Nat.le_of_ble_eq_true rfl) dX12_explains_11 (G12_in_met C.2.2.2.2.2.2.2.1 (Nat.le_refl _)  h) (fun r0 μ40 hq => ?_)
  obtain ⟨r41, rfl, h⟩ := hq
  refine x_st [.int r41] rfl ?_
  refine x_if_ne (tgt := 19) C dX12_explains_14 (by decide) (fun c42 => ?_) (fun c42 => ?_)
  · have h := h.1 c42
    refine x_aload_n C rfl 0 rfl dX12_explains_19 ?_
    refine x_lconst (v := 0) C (by decide) dX12_explains_20 ?_
    refine x_putJ C (j := 59) ob358.1 ob358.2 (Nat.le_of_ble_eq_true rfl) (Nat.le_of_ble_eq_true rfl) rfl rfl rfl rfl tw_9_25 dX12_explains_21 ?_
    refine x_mu (fun μ43 e_μ43 => ?_)
    have h := h μ43 e_μ43
    refine x_aload_n C rfl 0 rfl dX12_explains_24 ?_
    refine x_lconst (v := 1) C (by decide) dX12_explains_25 ?_
    refine x_putJ C (j := 60) ob358.1 ob358.2 (Nat.le_of_ble_eq_true rfl) (Nat.le_of_ble_eq_true rfl) rfl rfl rfl rfl tw_9_26 dX12_explains_26 ?_
    refine x_mu (fun μ44 e_μ44 => ?_)
    have h := h μ44 e_μ44
    refine x_iconst (v := 0) C (by decide) dX12_explains_29 ?_
    refine x_istore_n C [(2, .int 0), (0, .ref 358), (1, .int v1)] rfl (Nat.le_of_ble_eq_true rfl) rfl dX12_explains_30 ?_
    refine x_iconst (v := 0) C (by decide) dX12_explains_31 ?_
    refine x_istore_n C [(3, .int 0), (2, .int 0), (0, .ref 358), (1, .int v1)] rfl (Nat.le_of_ble_eq_true rfl) rfl dX12_explains_32 ?_
    refine x_sub [(0, .ref 358), (1, .int v1), (2, .int 0), (3, .int 0)] [2, 3, 1, 0] rfl ?_
    exact G12_explains_L33_ok C hd hr  h
  · have h := h.2 c42
    refine x_iconst (v := (-1)) C (by decide) dX12_explains_17 ?_
    exact x_iret C hr dX12_explains_18 ⟨_, rfl, h⟩
set_option maxHeartbeats 4000000 in
set_option maxRecDepth 100000 in
theorem G12_join_L156_b {p : Program} {e : Env} {s : State} {m : MethodId} {args : Array Value} {below : List Frame} {meth : Method} {c : Code} {l : Launch} {φ : Nat → Nat} {tc : Nat → ClassId} {D : va_G} {s0 : State} {dR : Nat} (C : CX p s m args meth c φ tc D s0 cX12_join RX12 8) (hd : G12_join_dep ≤ dR) (hr : meth.sig.returnType = (some .int))  {p2 : Int32} {p3 : Int64} {p5 : Int64} {Q : Int32 → MM → Prop} {K156 : Int32 × MM → Prop} {x : Int32 × MM}   (hK156 : ∀ (z7 : Int32) (zμ : MM), K156 (z7, zμ) → WX p l e (rmX dR) s m args below meth c φ tc D 8 (MQ below (QX φ tc D (QI Q)) args s 0 0 (AX φ)) 156 [(0, .ref 358), (2, .int p2), (3, .long p3), (5, .long p5), (7, .int z7)] [] zμ) (h : G12_join_L156 p2 p3 p5 Q K156 x) : WX p l e (rmX dR) s m args below meth c φ tc D 8 (MQ below (QX φ tc D (QI Q)) args s 0 0 (AX φ)) 156 [(0, .ref 358), (2, .int p2), (3, .long p3), (5, .long p5), (7, .int x.1)] [] x.2 := by
  unfold G12_join_L156 at h
  refine x_iload C 4 rfl dX12_join_156 ?_
  refine x_iconst (v := 4) C (by decide) dX12_join_158 ?_
  refine x_icmp_ge (tgt := 231) C dX12_join_159 (by decide) (fun c42 => ?_) (fun c42 => ?_)
  · have h := h.1 c42
    refine x_aload_n C rfl 0 rfl dX12_join_231 ?_
    refine x_iconst (v := 0) C (by decide) dX12_join_232 ?_
    refine x_putI C (j := 1) ob358.1 ob358.2 (Nat.le_of_ble_eq_true rfl) (Nat.le_of_ble_eq_true rfl) (Or.inl rfl) rfl rfl rfl tw_8_207 dX12_join_233 ?_
    refine x_mu (fun μ43 e_μ43 => ?_)
    have h := h μ43 e_μ43
    refine x_aload_n C rfl 0 rfl dX12_join_236 ?_
    refine x_aload_n C rfl 0 rfl dX12_join_237 ?_
    refine x_getJ C (j := 59) ob358.1 ob358.2 (Nat.le_of_ble_eq_true rfl) (Nat.le_of_ble_eq_true rfl) rfl tw_9_25 dX12_join_238 ?_
    refine x_lload C 3 rfl dX12_join_241 ?_
    refine x_lmul C dX12_join_243 ?_
    refine x_aload_n C rfl 0 rfl dX12_join_244 ?_
    refine x_getJ C (j := 60) ob358.1 ob358.2 (Nat.le_of_ble_eq_true rfl) (Nat.le_of_ble_eq_true rfl) rfl tw_9_26 dX12_join_245 ?_
    refine x_lload_n C rfl 2 rfl dX12_join_248 ?_
    refine x_lmul C dX12_join_249 ?_
    refine x_callV (dC := G12_entersFraction_dep) (as := [.long ((gJ μ43 358 59) * p5), .long ((gJ μ43 358 60) * p3)]) (st := []) C rfl (Nat.le_trans (Nat.le_of_ble_eq_true rfl) hd) (Nat.le_of_ble_eq_true rfl) ob358.1 ob358.2 (Nat.le_of_ble_eq_true rfl) rfl ts_10_0 tw_7_154 tw_7_152 tc_7_155 tw_1_13 hyX12 hnX12_entersFraction rfl (Nat.le_of_ble_eq_true rfl) dX12_join_250 (G12_entersFraction_met C.2.2.2.2.2.2.2.1 (Nat.le_refl _)  h) (fun r0 μ44 hq => ?_)
    obtain ⟨rfl, h⟩ := hq
    refine x_st [] rfl ?_
    refine x_iconst (v := 0) C (by decide) dX12_join_253 ?_
    exact x_iret C hr dX12_join_254 ⟨_, rfl, h⟩
  · have h := h.2 c42
    refine x_aload_n C rfl 0 rfl dX12_join_162 ?_
    refine x_iload_n C rfl 1 rfl dX12_join_163 ?_
    refine x_iload C 4 rfl dX12_join_164 ?_
    refine x_callV (dC := G12_countsBy_dep) (as := [.int p2, .int x.1]) (st := []) C rfl (Nat.le_trans (Nat.le_of_ble_eq_true rfl) hd) (Nat.le_of_ble_eq_true rfl) ob358.1 ob358.2 (Nat.le_of_ble_eq_true rfl) rfl ts_10_13 tw_8_82 tw_8_80 tc_8_83 tw_1_13 hyX12 hnX12_countsBy rfl (Nat.le_of_ble_eq_true rfl) dX12_join_166 (G12_countsBy_met C.2.2.2.2.2.2.2.1 (Nat.le_refl _)  h) (fun r0 μ45 hq => ?_)
    obtain ⟨rfl, h⟩ := hq
    refine x_st [] rfl ?_
    refine x_aload_n C rfl 0 rfl dX12_join_169 ?_
    refine x_getR (r := 381) C (j := 36) ob358.1 ob358.2 (Nat.le_of_ble_eq_true rfl) (Nat.le_of_ble_eq_true rfl) (fun _ _ _ => rfl) r_358_36 tw_9_2 dX12_join_170 ?_
    refine x_iconst (v := 0) C (by decide) dX12_join_173 ?_
    refine x_iald C ob381.1 ob381.2 (by unfold vp_in; decide) (j := 0) (by decide) dX12_join_174 ?_
    refine x_aload_n C rfl 0 rfl dX12_join_175 ?_
    refine x_getR (r := 381) C (j := 36) ob358.1 ob358.2 (Nat.le_of_ble_eq_true rfl) (Nat.le_of_ble_eq_true rfl) (fun _ _ _ => rfl) r_358_36 tw_9_2 dX12_join_176 ?_
    refine x_iconst (v := 1) C (by decide) dX12_join_179 ?_
    refine x_iald C ob381.1 ob381.2 (by unfold vp_in; decide) (j := 1) (by decide) dX12_join_180 ?_
    refine x_iadd C dX12_join_181 ?_
    refine x_if_le (tgt := 225) C dX12_join_182 (by decide) (fun c46 => ?_) (fun c46 => ?_)
    · have h := h.1 c46
      refine x_iinc (v := (x.1 + 1)) C [(7, .int (x.1 + 1)), (0, .ref 358), (2, .int p2), (3, .long p3), (5, .long p5)] 4 rfl (congrArg (fun z => x.1 + z) (by decide : Int32.ofInt (1) = 1)) (Nat.le_of_ble_eq_true rfl) rfl dX12_join_225 ?_
      refine x_goto (tgt := 156) C dX12_join_228 (by decide) ?_
      refine x_sub [(0, .ref 358), (2, .int p2), (3, .long p3), (5, .long p5), (7, .int (x.1 + 1))] [1, 2, 3, 4, 0] rfl ?_
      exact hK156 _ _ h
    · have h := h.2 c46
      refine x_aload_n C rfl 0 rfl dX12_join_185 ?_
      refine x_aload_n C rfl 0 rfl dX12_join_186 ?_
      refine x_getR (r := 382) C (j := 37) ob358.1 ob358.2 (Nat.le_of_ble_eq_true rfl) (Nat.le_of_ble_eq_true rfl) (fun _ _ _ => rfl) r_358_37 tw_9_3 dX12_join_187 ?_
      refine x_iconst (v := 0) C (by decide) dX12_join_190 ?_
      refine x_iald C ob382.1 ob382.2 (by unfold vp_in; decide) (j := 0) (by decide) dX12_join_191 ?_
      refine x_i2l C dX12_join_192 ?_
      refine x_aload_n C rfl 0 rfl dX12_join_193 ?_
      refine x_getR (r := 381) C (j := 36) ob358.1 ob358.2 (Nat.le_of_ble_eq_true rfl) (Nat.le_of_ble_eq_true rfl) (fun _ _ _ => rfl) r_358_36 tw_9_2 dX12_join_194 ?_
      refine x_iconst (v := 1) C (by decide) dX12_join_197 ?_
      refine x_iald C ob381.1 ob381.2 (by unfold vp_in; decide) (j := 1) (by decide) dX12_join_198 ?_
      refine x_aload_n C rfl 0 rfl dX12_join_199 ?_
      refine x_getR (r := 382) C (j := 37) ob358.1 ob358.2 (Nat.le_of_ble_eq_true rfl) (Nat.le_of_ble_eq_true rfl) (fun _ _ _ => rfl) r_358_37 tw_9_3 dX12_join_200 ?_
      refine x_iconst (v := 1) C (by decide) dX12_join_203 ?_
      refine x_iald C ob382.1 ob382.2 (by unfold vp_in; decide) (j := 1) (by decide) dX12_join_204 ?_
      refine x_isub C dX12_join_205 ?_
      refine x_i2l C dX12_join_206 ?_
      refine x_lmul C dX12_join_207 ?_
      refine x_aload_n C rfl 0 rfl dX12_join_208 ?_
      refine x_getR (r := 381) C (j := 36) ob358.1 ob358.2 (Nat.le_of_ble_eq_true rfl) (Nat.le_of_ble_eq_true rfl) (fun _ _ _ => rfl) r_358_36 tw_9_2 dX12_join_209 ?_
      refine x_iconst (v := 0) C (by decide) dX12_join_212 ?_
      refine x_iald C ob381.1 ob381.2 (by unfold vp_in; decide) (j := 0) (by decide) dX12_join_213 ?_
      refine x_aload_n C rfl 0 rfl dX12_join_214 ?_
      refine x_getR (r := 381) C (j := 36) ob358.1 ob358.2 (Nat.le_of_ble_eq_true rfl) (Nat.le_of_ble_eq_true rfl) (fun _ _ _ => rfl) r_358_36 tw_9_2 dX12_join_215 ?_
      refine x_iconst (v := 1) C (by decide) dX12_join_218 ?_
      refine x_iald C ob381.1 ob381.2 (by unfold vp_in; decide) (j := 1) (by decide) dX12_join_219 ?_
      refine x_iadd C dX12_join_220 ?_
      refine x_i2l C dX12_join_221 ?_
      refine x_callV (dC := G12_sums_dep) (as := [.long (((gI μ45 382 0).toInt64) * (((gI μ45 381 1) - (gI μ45 382 1)).toInt64)), .long (((gI μ45 381 0) + (gI μ45 381 1)).toInt64)]) (st := []) C rfl (Nat.le_trans (Nat.le_of_ble_eq_true rfl) hd) (Nat.le_of_ble_eq_true rfl) ob358.1 ob358.2 (Nat.le_of_ble_eq_true rfl) rfl ts_10_15 tw_8_90 tw_8_88 tc_8_91 tw_1_13 hyX12 hnX12_sums rfl (Nat.le_of_ble_eq_true rfl) dX12_join_222 (G12_sums_met C.2.2.2.2.2.2.2.1 (Nat.le_refl _)  h) (fun r0 μ47 hq => ?_)
      obtain ⟨rfl, h⟩ := hq
      refine x_st [] rfl ?_
      refine x_iinc (v := (x.1 + 1)) C [(7, .int (x.1 + 1)), (0, .ref 358), (2, .int p2), (3, .long p3), (5, .long p5)] 4 rfl (congrArg (fun z => x.1 + z) (by decide : Int32.ofInt (1) = 1)) (Nat.le_of_ble_eq_true rfl) rfl dX12_join_225 ?_
      refine x_goto (tgt := 156) C dX12_join_228 (by decide) ?_
      refine x_sub [(0, .ref 358), (2, .int p2), (3, .long p3), (5, .long p5), (7, .int (x.1 + 1))] [1, 2, 3, 4, 0] rfl ?_
      exact hK156 _ _ h
theorem G12_join_L156_ok {p : Program} {e : Env} {s : State} {m : MethodId} {args : Array Value} {below : List Frame} {meth : Method} {c : Code} {l : Launch} {φ : Nat → Nat} {tc : Nat → ClassId} {D : va_G} {s0 : State} {dR : Nat} (C : CX p s m args meth c φ tc D s0 cX12_join RX12 8) (hd : G12_join_dep ≤ dR) (hr : meth.sig.returnType = (some .int))  {p2 : Int32} {p3 : Int64} {p5 : Int64} {Q : Int32 → MM → Prop}  {x : Int32 × MM}    (h : Lp (G12_join_L156 p2 p3 p5 Q) x) : WX p l e (rmX dR) s m args below meth c φ tc D 8 (MQ below (QX φ tc D (QI Q)) args s 0 0 (AX φ)) 156 [(0, .ref 358), (2, .int p2), (3, .long p3), (5, .long p5), (7, .int x.1)] [] x.2 := by
  obtain ⟨n, h⟩ := h
  induction n generalizing x with
  | zero => exact h.elim
  | succ n ih => exact G12_join_L156_b C hd hr   (fun z7 zμ hz => by have q := ih hz; exact q) h
set_option maxHeartbeats 4000000 in
set_option maxRecDepth 100000 in
theorem G12_join_L50_b {p : Program} {e : Env} {s : State} {m : MethodId} {args : Array Value} {below : List Frame} {meth : Method} {c : Code} {l : Launch} {φ : Nat → Nat} {tc : Nat → ClassId} {D : va_G} {s0 : State} {dR : Nat} (C : CX p s m args meth c φ tc D s0 cX12_join RX12 8) (hd : G12_join_dep ≤ dR) (hr : meth.sig.returnType = (some .int))  {p2 : Int32} {Q : Int32 → MM → Prop} {K50 : Int32 × MM → Prop} {x : Int32 × MM}   (hK50 : ∀ (z3 : Int32) (zμ : MM), K50 (z3, zμ) → WX p l e (rmX dR) s m args below meth c φ tc D 8 (MQ below (QX φ tc D (QI Q)) args s 0 0 (AX φ)) 50 [(0, .ref 358), (2, .int p2), (3, .int z3)] [] zμ) (h : G12_join_L50 p2 Q K50 x) : WX p l e (rmX dR) s m args below meth c φ tc D 8 (MQ below (QX φ tc D (QI Q)) args s 0 0 (AX φ)) 50 [(0, .ref 358), (2, .int p2), (3, .int x.1)] [] x.2 := by
  unfold G12_join_L50 at h
  refine x_iload_n C rfl 2 rfl dX12_join_50 ?_
  refine x_iconst (v := 4) C (by decide) dX12_join_51 ?_
  refine x_icmp_ge (tgt := 123) C dX12_join_52 (by decide) (fun c36 => ?_) (fun c36 => ?_)
  · have h := h.1 c36
    refine x_aload_n C rfl 0 rfl dX12_join_123 ?_
    refine x_getJ C (j := 59) ob358.1 ob358.2 (Nat.le_of_ble_eq_true rfl) (Nat.le_of_ble_eq_true rfl) rfl tw_9_25 dX12_join_124 ?_
    refine x_topl (fun y37 e_y37 => ?_)
    have h := h y37 e_y37
    refine x_lstore_n C [(3, .long y37), (0, .ref 358), (2, .int p2)] rfl (Nat.le_of_ble_eq_true rfl) rfl dX12_join_127 ?_
    refine x_aload_n C rfl 1 rfl dX12_join_128 ?_
    refine x_getJ C (j := 60) ob358.1 ob358.2 (Nat.le_of_ble_eq_true rfl) (Nat.le_of_ble_eq_true rfl) rfl tw_9_26 dX12_join_129 ?_
    refine x_topl (fun y38 e_y38 => ?_)
    have h := h y38 e_y38
    refine x_lstore C [(5, .long y38), (3, .long y37), (0, .ref 358), (2, .int p2)] (Nat.le_of_ble_eq_true rfl) rfl dX12_join_132 ?_
    refine x_lload_n C rfl 1 rfl dX12_join_134 ?_
    refine x_lconst (v := 0) C (by decide) dX12_join_135 ?_
    refine x_lcmp C dX12_join_136 ?_
    refine x_if_ne (tgt := 143) C dX12_join_137 (by decide) (fun c39 => ?_) (fun c39 => ?_)
    · have h := h.1 c39
      refine x_aload_n C rfl 2 rfl dX12_join_143 ?_
      refine x_lconst (v := 0) C (by decide) dX12_join_144 ?_
      refine x_putJ C (j := 59) ob358.1 ob358.2 (Nat.le_of_ble_eq_true rfl) (Nat.le_of_ble_eq_true rfl) rfl rfl rfl rfl tw_9_25 dX12_join_145 ?_
      refine x_mu (fun μ40 e_μ40 => ?_)
      have h := h μ40 e_μ40
      refine x_aload_n C rfl 2 rfl dX12_join_148 ?_
      refine x_lconst (v := 1) C (by decide) dX12_join_149 ?_
      refine x_putJ C (j := 60) ob358.1 ob358.2 (Nat.le_of_ble_eq_true rfl) (Nat.le_of_ble_eq_true rfl) rfl rfl rfl rfl tw_9_26 dX12_join_150 ?_
      refine x_mu (fun μ41 e_μ41 => ?_)
      have h := h μ41 e_μ41
      refine x_iconst (v := 0) C (by decide) dX12_join_153 ?_
      refine x_istore C [(7, .int 0), (5, .long y38), (3, .long y37), (0, .ref 358), (2, .int p2)] (Nat.le_of_ble_eq_true rfl) rfl dX12_join_154 ?_
      refine x_sub [(0, .ref 358), (2, .int p2), (3, .long y37), (5, .long y38), (7, .int 0)] [3, 4, 2, 1, 0] rfl ?_
      exact G12_join_L156_ok C hd hr  h
    · have h := h.2 c39
      refine x_bipush (v := (-2)) C (by decide) dX12_join_140 ?_
      exact x_iret C hr dX12_join_142 ⟨_, rfl, h⟩
  · have h := h.2 c36
    refine x_aload_n C rfl 0 rfl dX12_join_55 ?_
    refine x_iload_n C rfl 1 rfl dX12_join_56 ?_
    refine x_iload_n C rfl 2 rfl dX12_join_57 ?_
    refine x_callV (dC := G12_countsBy_dep) (as := [.int p2, .int x.1]) (st := []) C rfl (Nat.le_trans (Nat.le_of_ble_eq_true rfl) hd) (Nat.le_of_ble_eq_true rfl) ob358.1 ob358.2 (Nat.le_of_ble_eq_true rfl) rfl ts_10_13 tw_8_82 tw_8_80 tc_8_83 tw_1_13 hyX12 hnX12_countsBy rfl (Nat.le_of_ble_eq_true rfl) dX12_join_58 (G12_countsBy_met C.2.2.2.2.2.2.2.1 (Nat.le_refl _)  h) (fun r0 μ48 hq => ?_)
    obtain ⟨rfl, h⟩ := hq
    refine x_st [] rfl ?_
    refine x_aload_n C rfl 0 rfl dX12_join_61 ?_
    refine x_getR (r := 381) C (j := 36) ob358.1 ob358.2 (Nat.le_of_ble_eq_true rfl) (Nat.le_of_ble_eq_true rfl) (fun _ _ _ => rfl) r_358_36 tw_9_2 dX12_join_62 ?_
    refine x_iconst (v := 0) C (by decide) dX12_join_65 ?_
    refine x_iald C ob381.1 ob381.2 (by unfold vp_in; decide) (j := 0) (by decide) dX12_join_66 ?_
    refine x_aload_n C rfl 0 rfl dX12_join_67 ?_
    refine x_getR (r := 381) C (j := 36) ob358.1 ob358.2 (Nat.le_of_ble_eq_true rfl) (Nat.le_of_ble_eq_true rfl) (fun _ _ _ => rfl) r_358_36 tw_9_2 dX12_join_68 ?_
    refine x_iconst (v := 1) C (by decide) dX12_join_71 ?_
    refine x_iald C ob381.1 ob381.2 (by unfold vp_in; decide) (j := 1) (by decide) dX12_join_72 ?_
    refine x_iadd C dX12_join_73 ?_
    refine x_if_le (tgt := 117) C dX12_join_74 (by decide) (fun c49 => ?_) (fun c49 => ?_)
    · have h := h.1 c49
      refine x_iinc (v := (x.1 + 1)) C [(3, .int (x.1 + 1)), (0, .ref 358), (2, .int p2)] 2 rfl (congrArg (fun z => x.1 + z) (by decide : Int32.ofInt (1) = 1)) (Nat.le_of_ble_eq_true rfl) rfl dX12_join_117 ?_
      refine x_goto (tgt := 50) C dX12_join_120 (by decide) ?_
      refine x_sub [(0, .ref 358), (2, .int p2), (3, .int (x.1 + 1))] [1, 2, 0] rfl ?_
      exact hK50 _ _ h
    · have h := h.2 c49
      refine x_aload_n C rfl 0 rfl dX12_join_77 ?_
      refine x_aload_n C rfl 0 rfl dX12_join_78 ?_
      refine x_getR (r := 381) C (j := 36) ob358.1 ob358.2 (Nat.le_of_ble_eq_true rfl) (Nat.le_of_ble_eq_true rfl) (fun _ _ _ => rfl) r_358_36 tw_9_2 dX12_join_79 ?_
      refine x_iconst (v := 0) C (by decide) dX12_join_82 ?_
      refine x_iald C ob381.1 ob381.2 (by unfold vp_in; decide) (j := 0) (by decide) dX12_join_83 ?_
      refine x_aload_n C rfl 0 rfl dX12_join_84 ?_
      refine x_getR (r := 382) C (j := 37) ob358.1 ob358.2 (Nat.le_of_ble_eq_true rfl) (Nat.le_of_ble_eq_true rfl) (fun _ _ _ => rfl) r_358_37 tw_9_3 dX12_join_85 ?_
      refine x_iconst (v := 0) C (by decide) dX12_join_88 ?_
      refine x_iald C ob382.1 ob382.2 (by unfold vp_in; decide) (j := 0) (by decide) dX12_join_89 ?_
      refine x_isub C dX12_join_90 ?_
      refine x_i2l C dX12_join_91 ?_
      refine x_aload_n C rfl 0 rfl dX12_join_92 ?_
      refine x_getR (r := 382) C (j := 37) ob358.1 ob358.2 (Nat.le_of_ble_eq_true rfl) (Nat.le_of_ble_eq_true rfl) (fun _ _ _ => rfl) r_358_37 tw_9_3 dX12_join_93 ?_
      refine x_iconst (v := 1) C (by decide) dX12_join_96 ?_
      refine x_iald C ob382.1 ob382.2 (by unfold vp_in; decide) (j := 1) (by decide) dX12_join_97 ?_
      refine x_i2l C dX12_join_98 ?_
      refine x_lmul C dX12_join_99 ?_
      refine x_aload_n C rfl 0 rfl dX12_join_100 ?_
      refine x_getR (r := 381) C (j := 36) ob358.1 ob358.2 (Nat.le_of_ble_eq_true rfl) (Nat.le_of_ble_eq_true rfl) (fun _ _ _ => rfl) r_358_36 tw_9_2 dX12_join_101 ?_
      refine x_iconst (v := 0) C (by decide) dX12_join_104 ?_
      refine x_iald C ob381.1 ob381.2 (by unfold vp_in; decide) (j := 0) (by decide) dX12_join_105 ?_
      refine x_aload_n C rfl 0 rfl dX12_join_106 ?_
      refine x_getR (r := 381) C (j := 36) ob358.1 ob358.2 (Nat.le_of_ble_eq_true rfl) (Nat.le_of_ble_eq_true rfl) (fun _ _ _ => rfl) r_358_36 tw_9_2 dX12_join_107 ?_
      refine x_iconst (v := 1) C (by decide) dX12_join_110 ?_
      refine x_iald C ob381.1 ob381.2 (by unfold vp_in; decide) (j := 1) (by decide) dX12_join_111 ?_
      refine x_iadd C dX12_join_112 ?_
      refine x_i2l C dX12_join_113 ?_
      refine x_callV (dC := G12_sums_dep) (as := [.long ((((gI μ48 381 0) - (gI μ48 382 0)).toInt64) * ((gI μ48 382 1).toInt64)), .long (((gI μ48 381 0) + (gI μ48 381 1)).toInt64)]) (st := []) C rfl (Nat.le_trans (Nat.le_of_ble_eq_true rfl) hd) (Nat.le_of_ble_eq_true rfl) ob358.1 ob358.2 (Nat.le_of_ble_eq_true rfl) rfl ts_10_15 tw_8_90 tw_8_88 tc_8_91 tw_1_13 hyX12 hnX12_sums rfl (Nat.le_of_ble_eq_true rfl) dX12_join_114 (G12_sums_met C.2.2.2.2.2.2.2.1 (Nat.le_refl _)  h) (fun r0 μ50 hq => ?_)
      obtain ⟨rfl, h⟩ := hq
      refine x_st [] rfl ?_
      refine x_iinc (v := (x.1 + 1)) C [(3, .int (x.1 + 1)), (0, .ref 358), (2, .int p2)] 2 rfl (congrArg (fun z => x.1 + z) (by decide : Int32.ofInt (1) = 1)) (Nat.le_of_ble_eq_true rfl) rfl dX12_join_117 ?_
      refine x_goto (tgt := 50) C dX12_join_120 (by decide) ?_
      refine x_sub [(0, .ref 358), (2, .int p2), (3, .int (x.1 + 1))] [1, 2, 0] rfl ?_
      exact hK50 _ _ h
theorem G12_join_L50_ok {p : Program} {e : Env} {s : State} {m : MethodId} {args : Array Value} {below : List Frame} {meth : Method} {c : Code} {l : Launch} {φ : Nat → Nat} {tc : Nat → ClassId} {D : va_G} {s0 : State} {dR : Nat} (C : CX p s m args meth c φ tc D s0 cX12_join RX12 8) (hd : G12_join_dep ≤ dR) (hr : meth.sig.returnType = (some .int))  {p2 : Int32} {Q : Int32 → MM → Prop}  {x : Int32 × MM}    (h : Lp (G12_join_L50 p2 Q) x) : WX p l e (rmX dR) s m args below meth c φ tc D 8 (MQ below (QX φ tc D (QI Q)) args s 0 0 (AX φ)) 50 [(0, .ref 358), (2, .int p2), (3, .int x.1)] [] x.2 := by
  obtain ⟨n, h⟩ := h
  induction n generalizing x with
  | zero => exact h.elim
  | succ n ih => exact G12_join_L50_b C hd hr   (fun z3 zμ hz => by have q := ih hz; exact q) h
set_option maxHeartbeats 4000000 in
set_option maxRecDepth 100000 in
theorem G12_join_met {l : Launch} {φ : Nat → Nat} {tc : Nat → ClassId} {D : va_G} {s0 : State} (hG : GX φ tc D s0) {dR : Nat} (hd : G12_join_dep ≤ dR) {v1 : Int32} {μ : MM} {Q : Int32 → MM → Prop}  (h : G12_join v1 μ Q) : MX l φ tc D s0 dR yX12_join cX12_join 8 (some .int) [.ref 358, .int v1] μ (QI Q) := by
  refine MX.of (own := RX12) hG plX12 rfl (Nat.le_of_ble_eq_true rfl) (fun p e s m args below meth c C hr => ?_)
  refine x_sub [(0, .ref 358), (1, .int v1)] [0, 1] rfl ?_
  unfold G12_join at h
  refine x_aload_n C rfl 0 rfl dX12_join_0 ?_
  refine x_iconst (v := 0) C (by decide) dX12_join_1 ?_
  refine x_putI C (j := 0) ob358.1 ob358.2 (Nat.le_of_ble_eq_true rfl) (Nat.le_of_ble_eq_true rfl) (Or.inl rfl) rfl rfl rfl tw_8_206 dX12_join_2 ?_
  refine x_mu (fun μ28 e_μ28 => ?_)
  have h := h μ28 e_μ28
  refine x_iload_n C rfl 1 rfl dX12_join_5 ?_
  refine x_i2l C dX12_join_6 ?_
  refine x_lconst (v := 0) C (by decide) dX12_join_7 ?_
  refine x_ldc2 (v := 2) C tw_7_127 dX12_join_8 ?_
  refine x_callS (dC := G12_in_dep) (as := [.long (v1.toInt64), .long 0, .long 2]) (st := []) C rfl (Nat.le_trans (Nat.le_of_ble_eq_true rfl) hd) (Nat.le_of_ble_eq_true rfl) tw_6_183 tw_6_182 tc_6_184 tw_1_13 hyX12 hnX12_in rfl (Nat.le_of_ble_eq_true rfl) dX12_join_11 (G12_in_met C.2.2.2.2.2.2.2.1 (Nat.le_refl _)  h) (fun r0 μ29 hq => ?_)
  obtain ⟨r30, rfl, h⟩ := hq
  refine x_st [.int r30] rfl ?_
  refine x_if_ne (tgt := 19) C dX12_join_14 (by decide) (fun c31 => ?_) (fun c31 => ?_)
  · have h := h.1 c31
    refine x_iload_n C rfl 1 rfl dX12_join_19 ?_
    refine x_if_ne (tgt := 27) C dX12_join_20 (by decide) (fun c32 => ?_) (fun c32 => ?_)
    · have h := h.1 c32
      refine x_iload_n C rfl 1 rfl dX12_join_27 ?_
      refine x_iconst (v := 1) C (by decide) dX12_join_28 ?_
      refine x_icmp_ne (tgt := 36) C dX12_join_29 (by decide) (fun c33 => ?_) (fun c33 => ?_)
      · have h := h.1 c33
        refine x_iconst (v := 0) C (by decide) dX12_join_36 ?_
        refine x_istore_n C [(2, .int 0), (0, .ref 358), (1, .int v1)] rfl (Nat.le_of_ble_eq_true rfl) rfl dX12_join_37 ?_
        refine x_aload_n C rfl 1 rfl dX12_join_38 ?_
        refine x_lconst (v := 0) C (by decide) dX12_join_39 ?_
        refine x_putJ C (j := 59) ob358.1 ob358.2 (Nat.le_of_ble_eq_true rfl) (Nat.le_of_ble_eq_true rfl) rfl rfl rfl rfl tw_9_25 dX12_join_40 ?_
        refine x_mu (fun μ34 e_μ34 => ?_)
        have h := h μ34 e_μ34
        refine x_aload_n C rfl 1 rfl dX12_join_43 ?_
        refine x_lconst (v := 1) C (by decide) dX12_join_44 ?_
        refine x_putJ C (j := 60) ob358.1 ob358.2 (Nat.le_of_ble_eq_true rfl) (Nat.le_of_ble_eq_true rfl) rfl rfl rfl rfl tw_9_26 dX12_join_45 ?_
        refine x_mu (fun μ35 e_μ35 => ?_)
        have h := h μ35 e_μ35
        refine x_iconst (v := 0) C (by decide) dX12_join_48 ?_
        refine x_istore_n C [(3, .int 0), (2, .int 0), (0, .ref 358), (1, .int v1)] rfl (Nat.le_of_ble_eq_true rfl) rfl dX12_join_49 ?_
        refine x_sub [(0, .ref 358), (2, .int 0), (3, .int 0)] [2, 1, 0] rfl ?_
        exact G12_join_L50_ok C hd hr  h
      · have h := h.2 c33
        refine x_iconst (v := 2) C (by decide) dX12_join_32 ?_
        refine x_goto (tgt := 37) C dX12_join_33 (by decide) ?_
        refine x_istore_n C [(2, .int 2), (0, .ref 358), (1, .int v1)] rfl (Nat.le_of_ble_eq_true rfl) rfl dX12_join_37 ?_
        refine x_aload_n C rfl 1 rfl dX12_join_38 ?_
        refine x_lconst (v := 0) C (by decide) dX12_join_39 ?_
        refine x_putJ C (j := 59) ob358.1 ob358.2 (Nat.le_of_ble_eq_true rfl) (Nat.le_of_ble_eq_true rfl) rfl rfl rfl rfl tw_9_25 dX12_join_40 ?_
        refine x_mu (fun μ51 e_μ51 => ?_)
        have h := h μ51 e_μ51
        refine x_aload_n C rfl 1 rfl dX12_join_43 ?_
        refine x_lconst (v := 1) C (by decide) dX12_join_44 ?_
        refine x_putJ C (j := 60) ob358.1 ob358.2 (Nat.le_of_ble_eq_true rfl) (Nat.le_of_ble_eq_true rfl) rfl rfl rfl rfl tw_9_26 dX12_join_45 ?_
        refine x_mu (fun μ52 e_μ52 => ?_)
        have h := h μ52 e_μ52
        refine x_iconst (v := 0) C (by decide) dX12_join_48 ?_
        refine x_istore_n C [(3, .int 0), (2, .int 2), (0, .ref 358), (1, .int v1)] rfl (Nat.le_of_ble_eq_true rfl) rfl dX12_join_49 ?_
        refine x_sub [(0, .ref 358), (2, .int 2), (3, .int 0)] [2, 1, 0] rfl ?_
        exact G12_join_L50_ok C hd hr  h
    · have h := h.2 c32
      refine x_iconst (v := 1) C (by decide) dX12_join_23 ?_
      refine x_goto (tgt := 37) C dX12_join_24 (by decide) ?_
      refine x_istore_n C [(2, .int 1), (0, .ref 358), (1, .int v1)] rfl (Nat.le_of_ble_eq_true rfl) rfl dX12_join_37 ?_
      refine x_aload_n C rfl 1 rfl dX12_join_38 ?_
      refine x_lconst (v := 0) C (by decide) dX12_join_39 ?_
      refine x_putJ C (j := 59) ob358.1 ob358.2 (Nat.le_of_ble_eq_true rfl) (Nat.le_of_ble_eq_true rfl) rfl rfl rfl rfl tw_9_25 dX12_join_40 ?_
      refine x_mu (fun μ53 e_μ53 => ?_)
      have h := h μ53 e_μ53
      refine x_aload_n C rfl 1 rfl dX12_join_43 ?_
      refine x_lconst (v := 1) C (by decide) dX12_join_44 ?_
      refine x_putJ C (j := 60) ob358.1 ob358.2 (Nat.le_of_ble_eq_true rfl) (Nat.le_of_ble_eq_true rfl) rfl rfl rfl rfl tw_9_26 dX12_join_45 ?_
      refine x_mu (fun μ54 e_μ54 => ?_)
      have h := h μ54 e_μ54
      refine x_iconst (v := 0) C (by decide) dX12_join_48 ?_
      refine x_istore_n C [(3, .int 0), (2, .int 1), (0, .ref 358), (1, .int v1)] rfl (Nat.le_of_ble_eq_true rfl) rfl dX12_join_49 ?_
      refine x_sub [(0, .ref 358), (2, .int 1), (3, .int 0)] [2, 1, 0] rfl ?_
      exact G12_join_L50_ok C hd hr  h
  · have h := h.2 c31
    refine x_iconst (v := (-1)) C (by decide) dX12_join_17 ?_
    exact x_iret C hr dX12_join_18 ⟨_, rfl, h⟩
set_option maxHeartbeats 4000000 in
set_option maxRecDepth 100000 in
theorem G12_bounds_J108_ok {p : Program} {e : Env} {s : State} {m : MethodId} {args : Array Value} {below : List Frame} {meth : Method} {c : Code} {l : Launch} {φ : Nat → Nat} {tc : Nat → ClassId} {D : va_G} {s0 : State} {dR : Nat} (C : CX p s m args meth c φ tc D s0 cX12_bounds RX12 6) (hd : G12_bounds_dep ≤ dR) (hr : meth.sig.returnType = (some .int))  {p1 : Int32} {p2 : Int32} {p3 : Int32} {p5 : Int32} {q0 : Int32} {q1 : Int32} {Q : Int32 → MM → Prop} {K27 : Int32 × Int32 × Int32 × Int32 × MM → Prop} {μ : MM}   (hK27 : ∀ (z2 : Int32) (z3 : Int32) (z4 : Int32) (z5 : Int32) (zμ : MM), K27 (z2, z3, z4, z5, zμ) → WX p l e (rmX dR) s m args below meth c φ tc D 6 (MQ below (QX φ tc D (QI Q)) args s 0 0 (AX φ)) 27 [(0, .ref 358), (1, .int p1), (2, .int z2), (3, .int z3), (4, .int z4), (5, .int z5)] [] zμ) (h : G12_bounds_J108 p1 p2 p3 p5 q0 q1 μ K27 Q) : WX p l e (rmX dR) s m args below meth c φ tc D 6 (MQ below (QX φ tc D (QI Q)) args s 0 0 (AX φ)) 108 [(0, .ref 358), (1, .int p1), (2, .int p2), (3, .int p3), (5, .int p5)] [.int q0, .int q1] μ := by
  unfold G12_bounds_J108 at h
  refine x_callS (dC := G12_flag_dep) (as := [.int q0]) (st := [.int q1]) C rfl (Nat.le_trans (Nat.le_of_ble_eq_true rfl) hd) (Nat.le_of_ble_eq_true rfl) tw_6_212 tw_6_211 tc_6_213 tw_1_13 hyX12 hnX12_flag rfl (Nat.le_of_ble_eq_true rfl) dX12_bounds_108 (G12_flag_met C.2.2.2.2.2.2.2.1 (Nat.le_refl _)  h) (fun r0 μ38 hq => ?_)
  obtain ⟨r39, rfl, h⟩ := hq
  refine x_st [.int r39, .int q1] rfl ?_
  refine x_iadd C dX12_bounds_111 ?_
  refine x_topi (fun y40 e_y40 => ?_)
  have h := h y40 e_y40
  refine x_istore C [(4, .int y40), (0, .ref 358), (1, .int p1), (2, .int p2), (3, .int p3), (5, .int p5)] (Nat.le_of_ble_eq_true rfl) rfl dX12_bounds_112 ?_
  refine x_iinc (v := (p5 + 1)) C [(5, .int (p5 + 1)), (4, .int y40), (0, .ref 358), (1, .int p1), (2, .int p2), (3, .int p3)] 5 rfl (congrArg (fun z => p5 + z) (by decide : Int32.ofInt (1) = 1)) (Nat.le_of_ble_eq_true rfl) rfl dX12_bounds_114 ?_
  refine x_goto (tgt := 27) C dX12_bounds_117 (by decide) ?_
  refine x_sub [(0, .ref 358), (1, .int p1), (2, .int p2), (3, .int p3), (4, .int y40), (5, .int (p5 + 1))] [2, 3, 4, 5, 1, 0] rfl ?_
  exact hK27 _ _ _ _ _ h
set_option maxHeartbeats 4000000 in
set_option maxRecDepth 100000 in
theorem G12_bounds_J107_ok {p : Program} {e : Env} {s : State} {m : MethodId} {args : Array Value} {below : List Frame} {meth : Method} {c : Code} {l : Launch} {φ : Nat → Nat} {tc : Nat → ClassId} {D : va_G} {s0 : State} {dR : Nat} (C : CX p s m args meth c φ tc D s0 cX12_bounds RX12 6) (hd : G12_bounds_dep ≤ dR) (hr : meth.sig.returnType = (some .int))  {p1 : Int32} {p2 : Int32} {p3 : Int32} {p5 : Int32} {q0 : Int32} {Q : Int32 → MM → Prop} {K27 : Int32 × Int32 × Int32 × Int32 × MM → Prop} {μ : MM}   (hK27 : ∀ (z2 : Int32) (z3 : Int32) (z4 : Int32) (z5 : Int32) (zμ : MM), K27 (z2, z3, z4, z5, zμ) → WX p l e (rmX dR) s m args below meth c φ tc D 6 (MQ below (QX φ tc D (QI Q)) args s 0 0 (AX φ)) 27 [(0, .ref 358), (1, .int p1), (2, .int z2), (3, .int z3), (4, .int z4), (5, .int z5)] [] zμ) (h : G12_bounds_J107 p1 p2 p3 p5 q0 μ K27 Q) : WX p l e (rmX dR) s m args below meth c φ tc D 6 (MQ below (QX φ tc D (QI Q)) args s 0 0 (AX φ)) 107 [(0, .ref 358), (1, .int p1), (2, .int p2), (3, .int p3), (5, .int p5)] [.int q0] μ := by
  unfold G12_bounds_J107 at h
  refine x_iconst (v := 0) C (by decide) dX12_bounds_107 ?_
  exact G12_bounds_J108_ok C hd hr hK27 h
set_option maxHeartbeats 4000000 in
set_option maxRecDepth 100000 in
theorem G12_bounds_J76_ok {p : Program} {e : Env} {s : State} {m : MethodId} {args : Array Value} {below : List Frame} {meth : Method} {c : Code} {l : Launch} {φ : Nat → Nat} {tc : Nat → ClassId} {D : va_G} {s0 : State} {dR : Nat} (C : CX p s m args meth c φ tc D s0 cX12_bounds RX12 6) (hd : G12_bounds_dep ≤ dR) (hr : meth.sig.returnType = (some .int))  {p1 : Int32} {p2 : Int32} {p4 : Int32} {p5 : Int32} {q0 : Int32} {q1 : Int32} {Q : Int32 → MM → Prop} {K27 : Int32 × Int32 × Int32 × Int32 × MM → Prop} {μ : MM}   (hK27 : ∀ (z2 : Int32) (z3 : Int32) (z4 : Int32) (z5 : Int32) (zμ : MM), K27 (z2, z3, z4, z5, zμ) → WX p l e (rmX dR) s m args below meth c φ tc D 6 (MQ below (QX φ tc D (QI Q)) args s 0 0 (AX φ)) 27 [(0, .ref 358), (1, .int p1), (2, .int z2), (3, .int z3), (4, .int z4), (5, .int z5)] [] zμ) (h : G12_bounds_J76 p1 p2 p4 p5 q0 q1 μ K27 Q) : WX p l e (rmX dR) s m args below meth c φ tc D 6 (MQ below (QX φ tc D (QI Q)) args s 0 0 (AX φ)) 76 [(0, .ref 358), (1, .int p1), (2, .int p2), (4, .int p4), (5, .int p5)] [.int q0, .int q1] μ := by
  unfold G12_bounds_J76 at h
  refine x_callS (dC := G12_flag_dep) (as := [.int q0]) (st := [.int q1]) C rfl (Nat.le_trans (Nat.le_of_ble_eq_true rfl) hd) (Nat.le_of_ble_eq_true rfl) tw_6_212 tw_6_211 tc_6_213 tw_1_13 hyX12 hnX12_flag rfl (Nat.le_of_ble_eq_true rfl) dX12_bounds_76 (G12_flag_met C.2.2.2.2.2.2.2.1 (Nat.le_refl _)  h) (fun r0 μ33 hq => ?_)
  obtain ⟨r34, rfl, h⟩ := hq
  refine x_st [.int r34, .int q1] rfl ?_
  refine x_iadd C dX12_bounds_79 ?_
  refine x_topi (fun y35 e_y35 => ?_)
  have h := h y35 e_y35
  refine x_istore_n C [(3, .int y35), (0, .ref 358), (1, .int p1), (2, .int p2), (4, .int p4), (5, .int p5)] rfl (Nat.le_of_ble_eq_true rfl) rfl dX12_bounds_80 ?_
  refine x_iload C 4 rfl dX12_bounds_81 ?_
  refine x_aload_n C rfl 1 rfl dX12_bounds_83 ?_
  refine x_getR (r := 374) C (j := 20) ob358.1 ob358.2 (Nat.le_of_ble_eq_true rfl) (Nat.le_of_ble_eq_true rfl) (fun _ _ _ => rfl) r_358_20 tw_8_226 dX12_bounds_84 ?_
  refine x_iload C 5 rfl dX12_bounds_87 ?_
  obtain ⟨c36, h⟩ := h
  refine x_zald C ob374.1 ob374.2 c36 rfl dX12_bounds_89 ?_
  refine x_if_eq (tgt := 107) C dX12_bounds_90 (by decide) (fun c37 => ?_) (fun c37 => ?_)
  · have h := h.1 c37
    refine x_sub [(0, .ref 358), (1, .int p1), (2, .int p2), (3, .int y35), (5, .int p5)] [1, 2, 3, 0, 5] rfl ?_
    exact G12_bounds_J107_ok C hd hr hK27 h
  · have h := h.2 c37
    refine x_aload_n C rfl 1 rfl dX12_bounds_93 ?_
    refine x_getR (r := 375) C (j := 21) ob358.1 ob358.2 (Nat.le_of_ble_eq_true rfl) (Nat.le_of_ble_eq_true rfl) (fun _ _ _ => rfl) r_358_21 tw_8_227 dX12_bounds_94 ?_
    refine x_iload C 5 rfl dX12_bounds_97 ?_
    obtain ⟨c41, h⟩ := h
    refine x_iald C ob375.1 ob375.2 c41 rfl dX12_bounds_99 ?_
    refine x_if_ne (tgt := 107) C dX12_bounds_100 (by decide) (fun c42 => ?_) (fun c42 => ?_)
    · have h := h.1 c42
      refine x_sub [(0, .ref 358), (1, .int p1), (2, .int p2), (3, .int y35), (5, .int p5)] [1, 2, 3, 0, 5] rfl ?_
      exact G12_bounds_J107_ok C hd hr hK27 h
    · have h := h.2 c42
      refine x_iconst (v := 1) C (by decide) dX12_bounds_103 ?_
      refine x_goto (tgt := 108) C dX12_bounds_104 (by decide) ?_
      refine x_sub [(0, .ref 358), (1, .int p1), (2, .int p2), (3, .int y35), (5, .int p5)] [1, 2, 3, 0, 5] rfl ?_
      exact G12_bounds_J108_ok C hd hr hK27 h
set_option maxHeartbeats 4000000 in
set_option maxRecDepth 100000 in
theorem G12_bounds_L27_b {p : Program} {e : Env} {s : State} {m : MethodId} {args : Array Value} {below : List Frame} {meth : Method} {c : Code} {l : Launch} {φ : Nat → Nat} {tc : Nat → ClassId} {D : va_G} {s0 : State} {dR : Nat} (C : CX p s m args meth c φ tc D s0 cX12_bounds RX12 6) (hd : G12_bounds_dep ≤ dR) (hr : meth.sig.returnType = (some .int))  {p1 : Int32} {Q : Int32 → MM → Prop} {K27 : Int32 × Int32 × Int32 × Int32 × MM → Prop} {x : Int32 × Int32 × Int32 × Int32 × MM}   (hK27 : ∀ (z2 : Int32) (z3 : Int32) (z4 : Int32) (z5 : Int32) (zμ : MM), K27 (z2, z3, z4, z5, zμ) → WX p l e (rmX dR) s m args below meth c φ tc D 6 (MQ below (QX φ tc D (QI Q)) args s 0 0 (AX φ)) 27 [(0, .ref 358), (1, .int p1), (2, .int z2), (3, .int z3), (4, .int z4), (5, .int z5)] [] zμ) (h : G12_bounds_L27 p1 Q K27 x) : WX p l e (rmX dR) s m args below meth c φ tc D 6 (MQ below (QX φ tc D (QI Q)) args s 0 0 (AX φ)) 27 [(0, .ref 358), (1, .int p1), (2, .int x.1), (3, .int x.2.1), (4, .int x.2.2.1), (5, .int x.2.2.2.1)] [] x.2.2.2.2 := by
  unfold G12_bounds_L27 at h
  refine x_iload C 5 rfl dX12_bounds_27 ?_
  refine x_aload_n C rfl 0 rfl dX12_bounds_29 ?_
  refine x_getI C (j := 12) ob358.1 ob358.2 (Nat.le_of_ble_eq_true rfl) (Nat.le_of_ble_eq_true rfl) (Or.inl rfl) tw_8_218 dX12_bounds_30 ?_
  refine x_icmp_ge (tgt := 120) C dX12_bounds_33 (by decide) (fun c21 => ?_) (fun c21 => ?_)
  · have h := h.1 c21
    refine x_iload_n C rfl 2 rfl dX12_bounds_120 ?_
    refine x_if_ne (tgt := 127) C dX12_bounds_121 (by decide) (fun c22 => ?_) (fun c22 => ?_)
    · have h := h.1 c22
      refine x_aload_n C rfl 0 rfl dX12_bounds_127 ?_
      refine x_iconst (v := 0) C (by decide) dX12_bounds_128 ?_
      refine x_putI C (j := 1) ob358.1 ob358.2 (Nat.le_of_ble_eq_true rfl) (Nat.le_of_ble_eq_true rfl) (Or.inl rfl) rfl rfl rfl tw_8_207 dX12_bounds_129 ?_
      refine x_mu (fun μ23 e_μ23 => ?_)
      have h := h μ23 e_μ23
      refine x_aload_n C rfl 0 rfl dX12_bounds_132 ?_
      refine x_iload_n C rfl 3 rfl dX12_bounds_133 ?_
      refine x_i2l C dX12_bounds_134 ?_
      refine x_iload_n C rfl 2 rfl dX12_bounds_135 ?_
      refine x_i2l C dX12_bounds_136 ?_
      refine x_callV (dC := G12_entersFraction_dep) (as := [.long (x.2.1.toInt64), .long (x.1.toInt64)]) (st := []) C rfl (Nat.le_trans (Nat.le_of_ble_eq_true rfl) hd) (Nat.le_of_ble_eq_true rfl) ob358.1 ob358.2 (Nat.le_of_ble_eq_true rfl) rfl ts_10_0 tw_7_154 tw_7_152 tc_7_155 tw_1_13 hyX12 hnX12_entersFraction rfl (Nat.le_of_ble_eq_true rfl) dX12_bounds_137 (G12_entersFraction_met C.2.2.2.2.2.2.2.1 (Nat.le_refl _)  h) (fun r0 μ24 hq => ?_)
      obtain ⟨rfl, h⟩ := hq
      refine x_st [] rfl ?_
      refine x_aload_n C rfl 0 rfl dX12_bounds_140 ?_
      refine x_iload_n C rfl 3 rfl dX12_bounds_141 ?_
      refine x_iload C 4 rfl dX12_bounds_142 ?_
      refine x_iadd C dX12_bounds_144 ?_
      refine x_i2l C dX12_bounds_145 ?_
      refine x_iload_n C rfl 2 rfl dX12_bounds_146 ?_
      refine x_i2l C dX12_bounds_147 ?_
      refine x_callV (dC := G12_entersFraction_dep) (as := [.long ((x.2.1 + x.2.2.1).toInt64), .long (x.1.toInt64)]) (st := []) C rfl (Nat.le_trans (Nat.le_of_ble_eq_true rfl) hd) (Nat.le_of_ble_eq_true rfl) ob358.1 ob358.2 (Nat.le_of_ble_eq_true rfl) rfl ts_10_0 tw_7_154 tw_7_152 tc_7_155 tw_1_13 hyX12 hnX12_entersFraction rfl (Nat.le_of_ble_eq_true rfl) dX12_bounds_148 (G12_entersFraction_met C.2.2.2.2.2.2.2.1 (Nat.le_refl _)  h) (fun r0 μ25 hq => ?_)
      obtain ⟨rfl, h⟩ := hq
      refine x_st [] rfl ?_
      refine x_iload C 4 rfl dX12_bounds_151 ?_
      exact x_iret C hr dX12_bounds_153 ⟨_, rfl, h⟩
    · have h := h.2 c22
      refine x_bipush (v := (-2)) C (by decide) dX12_bounds_124 ?_
      exact x_iret C hr dX12_bounds_126 ⟨_, rfl, h⟩
  · have h := h.2 c21
    refine x_aload_n C rfl 0 rfl dX12_bounds_36 ?_
    refine x_getR (r := 373) C (j := 19) ob358.1 ob358.2 (Nat.le_of_ble_eq_true rfl) (Nat.le_of_ble_eq_true rfl) (fun _ _ _ => rfl) r_358_19 tw_8_225 dX12_bounds_37 ?_
    refine x_iload C 5 rfl dX12_bounds_40 ?_
    obtain ⟨c26, h⟩ := h
    refine x_zald C ob373.1 ob373.2 c26 rfl dX12_bounds_42 ?_
    refine x_if_eq (tgt := 114) C dX12_bounds_43 (by decide) (fun c27 => ?_) (fun c27 => ?_)
    · have h := h.1 c27
      refine x_iinc (v := (x.2.2.2.1 + 1)) C [(5, .int (x.2.2.2.1 + 1)), (0, .ref 358), (1, .int p1), (2, .int x.1), (3, .int x.2.1), (4, .int x.2.2.1)] 5 rfl (congrArg (fun z => x.2.2.2.1 + z) (by decide : Int32.ofInt (1) = 1)) (Nat.le_of_ble_eq_true rfl) rfl dX12_bounds_114 ?_
      refine x_goto (tgt := 27) C dX12_bounds_117 (by decide) ?_
      refine x_sub [(0, .ref 358), (1, .int p1), (2, .int x.1), (3, .int x.2.1), (4, .int x.2.2.1), (5, .int (x.2.2.2.1 + 1))] [1, 2, 3, 4, 5, 0] rfl ?_
      exact hK27 _ _ _ _ _ h
    · have h := h.2 c27
      refine x_aload_n C rfl 0 rfl dX12_bounds_46 ?_
      refine x_iload C 5 rfl dX12_bounds_47 ?_
      refine x_callV (dC := G12_peopleOf_dep) (as := [.int x.2.2.2.1]) (st := []) C rfl (Nat.le_trans (Nat.le_of_ble_eq_true rfl) hd) (Nat.le_of_ble_eq_true rfl) ob358.1 ob358.2 (Nat.le_of_ble_eq_true rfl) rfl ts_9_15 tw_7_150 tw_7_148 tc_7_151 tw_1_13 hyX12 hnX12_peopleOf rfl (Nat.le_of_ble_eq_true rfl) dX12_bounds_49 (G12_peopleOf_met C.2.2.2.2.2.2.2.1 (Nat.le_refl _)  h) (fun r0 μ28 hq => ?_)
      obtain ⟨r29, rfl, h⟩ := hq
      refine x_st [.int r29] rfl ?_
      refine x_iload_n C rfl 1 rfl dX12_bounds_52 ?_
      refine x_icmp_ne (tgt := 114) C dX12_bounds_53 (by decide) (fun c30 => ?_) (fun c30 => ?_)
      · have h := h.1 c30
        refine x_iinc (v := (x.2.2.2.1 + 1)) C [(5, .int (x.2.2.2.1 + 1)), (0, .ref 358), (1, .int p1), (2, .int x.1), (3, .int x.2.1), (4, .int x.2.2.1)] 5 rfl (congrArg (fun z => x.2.2.2.1 + z) (by decide : Int32.ofInt (1) = 1)) (Nat.le_of_ble_eq_true rfl) rfl dX12_bounds_114 ?_
        refine x_goto (tgt := 27) C dX12_bounds_117 (by decide) ?_
        refine x_sub [(0, .ref 358), (1, .int p1), (2, .int x.1), (3, .int x.2.1), (4, .int x.2.2.1), (5, .int (x.2.2.2.1 + 1))] [1, 2, 3, 4, 5, 0] rfl ?_
        exact hK27 _ _ _ _ _ h
      · have h := h.2 c30
        refine x_iinc (v := (x.1 + 1)) C [(2, .int (x.1 + 1)), (0, .ref 358), (1, .int p1), (3, .int x.2.1), (4, .int x.2.2.1), (5, .int x.2.2.2.1)] 2 rfl (congrArg (fun z => x.1 + z) (by decide : Int32.ofInt (1) = 1)) (Nat.le_of_ble_eq_true rfl) rfl dX12_bounds_56 ?_
        refine x_iload_n C rfl 3 rfl dX12_bounds_59 ?_
        refine x_aload_n C rfl 1 rfl dX12_bounds_60 ?_
        refine x_getR (r := 375) C (j := 21) ob358.1 ob358.2 (Nat.le_of_ble_eq_true rfl) (Nat.le_of_ble_eq_true rfl) (fun _ _ _ => rfl) r_358_21 tw_8_227 dX12_bounds_61 ?_
        refine x_iload C 5 rfl dX12_bounds_64 ?_
        obtain ⟨c31, h⟩ := h
        refine x_iald C ob375.1 ob375.2 c31 rfl dX12_bounds_66 ?_
        refine x_iconst (v := 1) C (by decide) dX12_bounds_67 ?_
        refine x_icmp_ne (tgt := 75) C dX12_bounds_68 (by decide) (fun c32 => ?_) (fun c32 => ?_)
        · have h := h.1 c32
          refine x_iconst (v := 0) C (by decide) dX12_bounds_75 ?_
          refine x_sub [(0, .ref 358), (1, .int p1), (2, .int (x.1 + 1)), (4, .int x.2.2.1), (5, .int x.2.2.2.1)] [1, 2, 0, 4, 5] rfl ?_
          exact G12_bounds_J76_ok C hd hr hK27 h
        · have h := h.2 c32
          refine x_iconst (v := 1) C (by decide) dX12_bounds_71 ?_
          refine x_goto (tgt := 76) C dX12_bounds_72 (by decide) ?_
          refine x_sub [(0, .ref 358), (1, .int p1), (2, .int (x.1 + 1)), (4, .int x.2.2.1), (5, .int x.2.2.2.1)] [1, 2, 0, 4, 5] rfl ?_
          exact G12_bounds_J76_ok C hd hr hK27 h
theorem G12_bounds_L27_ok {p : Program} {e : Env} {s : State} {m : MethodId} {args : Array Value} {below : List Frame} {meth : Method} {c : Code} {l : Launch} {φ : Nat → Nat} {tc : Nat → ClassId} {D : va_G} {s0 : State} {dR : Nat} (C : CX p s m args meth c φ tc D s0 cX12_bounds RX12 6) (hd : G12_bounds_dep ≤ dR) (hr : meth.sig.returnType = (some .int))  {p1 : Int32} {Q : Int32 → MM → Prop}  {x : Int32 × Int32 × Int32 × Int32 × MM}    (h : Lp (G12_bounds_L27 p1 Q) x) : WX p l e (rmX dR) s m args below meth c φ tc D 6 (MQ below (QX φ tc D (QI Q)) args s 0 0 (AX φ)) 27 [(0, .ref 358), (1, .int p1), (2, .int x.1), (3, .int x.2.1), (4, .int x.2.2.1), (5, .int x.2.2.2.1)] [] x.2.2.2.2 := by
  obtain ⟨n, h⟩ := h
  induction n generalizing x with
  | zero => exact h.elim
  | succ n ih => exact G12_bounds_L27_b C hd hr   (fun z2 z3 z4 z5 zμ hz => by have q := ih hz; exact q) h
set_option maxHeartbeats 4000000 in
set_option maxRecDepth 100000 in
theorem G12_bounds_met {l : Launch} {φ : Nat → Nat} {tc : Nat → ClassId} {D : va_G} {s0 : State} (hG : GX φ tc D s0) {dR : Nat} (hd : G12_bounds_dep ≤ dR) {v1 : Int32} {μ : MM} {Q : Int32 → MM → Prop}  (h : G12_bounds v1 μ Q) : MX l φ tc D s0 dR yX12_bounds cX12_bounds 6 (some .int) [.ref 358, .int v1] μ (QI Q) := by
  refine MX.of (own := RX12) hG plX12 rfl (Nat.le_of_ble_eq_true rfl) (fun p e s m args below meth c C hr => ?_)
  refine x_sub [(0, .ref 358), (1, .int v1)] [0, 1] rfl ?_
  unfold G12_bounds at h
  refine x_aload_n C rfl 0 rfl dX12_bounds_0 ?_
  refine x_iconst (v := 0) C (by decide) dX12_bounds_1 ?_
  refine x_putI C (j := 0) ob358.1 ob358.2 (Nat.le_of_ble_eq_true rfl) (Nat.le_of_ble_eq_true rfl) (Or.inl rfl) rfl rfl rfl tw_8_206 dX12_bounds_2 ?_
  refine x_mu (fun μ17 e_μ17 => ?_)
  have h := h μ17 e_μ17
  refine x_iload_n C rfl 1 rfl dX12_bounds_5 ?_
  refine x_i2l C dX12_bounds_6 ?_
  refine x_lconst (v := 0) C (by decide) dX12_bounds_7 ?_
  refine x_lconst (v := 1) C (by decide) dX12_bounds_8 ?_
  refine x_callS (dC := G12_in_dep) (as := [.long (v1.toInt64), .long 0, .long 1]) (st := []) C rfl (Nat.le_trans (Nat.le_of_ble_eq_true rfl) hd) (Nat.le_of_ble_eq_true rfl) tw_6_183 tw_6_182 tc_6_184 tw_1_13 hyX12 hnX12_in rfl (Nat.le_of_ble_eq_true rfl) dX12_bounds_9 (G12_in_met C.2.2.2.2.2.2.2.1 (Nat.le_refl _)  h) (fun r0 μ18 hq => ?_)
  obtain ⟨r19, rfl, h⟩ := hq
  refine x_st [.int r19] rfl ?_
  refine x_if_ne (tgt := 17) C dX12_bounds_12 (by decide) (fun c20 => ?_) (fun c20 => ?_)
  · have h := h.1 c20
    refine x_iconst (v := 0) C (by decide) dX12_bounds_17 ?_
    refine x_istore_n C [(2, .int 0), (0, .ref 358), (1, .int v1)] rfl (Nat.le_of_ble_eq_true rfl) rfl dX12_bounds_18 ?_
    refine x_iconst (v := 0) C (by decide) dX12_bounds_19 ?_
    refine x_istore_n C [(3, .int 0), (2, .int 0), (0, .ref 358), (1, .int v1)] rfl (Nat.le_of_ble_eq_true rfl) rfl dX12_bounds_20 ?_
    refine x_iconst (v := 0) C (by decide) dX12_bounds_21 ?_
    refine x_istore C [(4, .int 0), (3, .int 0), (2, .int 0), (0, .ref 358), (1, .int v1)] (Nat.le_of_ble_eq_true rfl) rfl dX12_bounds_22 ?_
    refine x_iconst (v := 0) C (by decide) dX12_bounds_24 ?_
    refine x_istore C [(5, .int 0), (4, .int 0), (3, .int 0), (2, .int 0), (0, .ref 358), (1, .int v1)] (Nat.le_of_ble_eq_true rfl) rfl dX12_bounds_25 ?_
    refine x_sub [(0, .ref 358), (1, .int v1), (2, .int 0), (3, .int 0), (4, .int 0), (5, .int 0)] [4, 5, 3, 2, 1, 0] rfl ?_
    exact G12_bounds_L27_ok C hd hr  h
  · have h := h.2 c20
    refine x_iconst (v := (-1)) C (by decide) dX12_bounds_15 ?_
    exact x_iret C hr dX12_bounds_16 ⟨_, rfl, h⟩
