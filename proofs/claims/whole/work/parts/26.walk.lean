set_option maxHeartbeats 4000000 in
set_option maxRecDepth 100000 in
theorem G12_namesOf_J28_ok {p : Program} {e : Env} {s : State} {m : MethodId} {args : Array Value} {below : List Frame} {meth : Method} {c : Code} {l : Launch} {φ : Nat → Nat} {tc : Nat → ClassId} {D : va_G} {s0 : State} {dR : Nat} (C : CX p s m args meth c φ tc D s0 cX12_namesOf RX12 4) (hd : G12_namesOf_dep ≤ dR) (hr : meth.sig.returnType = (some .int))  {p1 : Int32} {p3 : Int32} {q0 : Int32} {q1 : Int32} {Q : Int32 → MM → Prop} {K4 : Int32 × Int32 × MM → Prop} {μ : MM}   (hK4 : ∀ (z2 : Int32) (z3 : Int32) (zμ : MM), K4 (z2, z3, zμ) → WX p l e (rmX dR) s m args below meth c φ tc D 4 (MQ below (QX φ tc D (QI Q)) args s 0 0 (AX φ)) 4 [(0, .ref 358), (1, .int p1), (2, .int z2), (3, .int z3)] [] zμ) (h : G12_namesOf_J28 p1 p3 q0 q1 μ K4 Q) : WX p l e (rmX dR) s m args below meth c φ tc D 4 (MQ below (QX φ tc D (QI Q)) args s 0 0 (AX φ)) 28 [(0, .ref 358), (1, .int p1), (3, .int p3)] [.int q0, .int q1] μ := by
  unfold G12_namesOf_J28 at h
  refine x_callS (dC := G12_flag_dep) (as := [.int q0]) (st := [.int q1]) C rfl (Nat.le_trans (Nat.le_of_ble_eq_true rfl) hd) (Nat.le_of_ble_eq_true rfl) tw_6_212 tw_6_211 tc_6_213 tw_1_13 hyX12 hnX12_flag rfl (Nat.le_of_ble_eq_true rfl) dX12_namesOf_28 (G12_flag_met C.2.2.2.2.2.2.2.1 (Nat.le_refl _)  h) (fun r0 μ7 hq => ?_)
  obtain ⟨r8, rfl, h⟩ := hq
  refine x_st [.int r8, .int q1] rfl ?_
  refine x_iadd C dX12_namesOf_31 ?_
  refine x_topi (fun y9 e_y9 => ?_)
  have h := h y9 e_y9
  refine x_istore_n C [(2, .int y9), (0, .ref 358), (1, .int p1), (3, .int p3)] rfl (Nat.le_of_ble_eq_true rfl) rfl dX12_namesOf_32 ?_
  refine x_iinc (v := (p3 + 1)) C [(3, .int (p3 + 1)), (2, .int y9), (0, .ref 358), (1, .int p1)] 3 rfl (congrArg (fun z => p3 + z) (by decide : Int32.ofInt (1) = 1)) (Nat.le_of_ble_eq_true rfl) rfl dX12_namesOf_33 ?_
  refine x_goto (tgt := 4) C dX12_namesOf_36 (by decide) ?_
  refine x_sub [(0, .ref 358), (1, .int p1), (2, .int y9), (3, .int (p3 + 1))] [2, 3, 1, 0] rfl ?_
  exact hK4 _ _ _ h
set_option maxHeartbeats 4000000 in
set_option maxRecDepth 100000 in
theorem G12_namesOf_L4_b {p : Program} {e : Env} {s : State} {m : MethodId} {args : Array Value} {below : List Frame} {meth : Method} {c : Code} {l : Launch} {φ : Nat → Nat} {tc : Nat → ClassId} {D : va_G} {s0 : State} {dR : Nat} (C : CX p s m args meth c φ tc D s0 cX12_namesOf RX12 4) (hd : G12_namesOf_dep ≤ dR) (hr : meth.sig.returnType = (some .int))  {p1 : Int32} {Q : Int32 → MM → Prop} {K4 : Int32 × Int32 × MM → Prop} {x : Int32 × Int32 × MM}   (hK4 : ∀ (z2 : Int32) (z3 : Int32) (zμ : MM), K4 (z2, z3, zμ) → WX p l e (rmX dR) s m args below meth c φ tc D 4 (MQ below (QX φ tc D (QI Q)) args s 0 0 (AX φ)) 4 [(0, .ref 358), (1, .int p1), (2, .int z2), (3, .int z3)] [] zμ) (h : G12_namesOf_L4 p1 Q K4 x) : WX p l e (rmX dR) s m args below meth c φ tc D 4 (MQ below (QX φ tc D (QI Q)) args s 0 0 (AX φ)) 4 [(0, .ref 358), (1, .int p1), (2, .int x.1), (3, .int x.2.1)] [] x.2.2 := by
  unfold G12_namesOf_L4 at h
  refine x_iload_n C rfl 3 rfl dX12_namesOf_4 ?_
  refine x_aload_n C rfl 0 rfl dX12_namesOf_5 ?_
  refine x_getI C (j := 3) ob358.1 ob358.2 (Nat.le_of_ble_eq_true rfl) (Nat.le_of_ble_eq_true rfl) (Or.inl rfl) tw_8_209 dX12_namesOf_6 ?_
  refine x_icmp_ge (tgt := 39) C dX12_namesOf_9 (by decide) (fun c4 => ?_) (fun c4 => ?_)
  · have h := h.1 c4
    refine x_iload_n C rfl 2 rfl dX12_namesOf_39 ?_
    exact x_iret C hr dX12_namesOf_40 ⟨_, rfl, h⟩
  · have h := h.2 c4
    refine x_iload_n C rfl 2 rfl dX12_namesOf_12 ?_
    refine x_aload_n C rfl 0 rfl dX12_namesOf_13 ?_
    refine x_getR (r := 360) C (j := 4) ob358.1 ob358.2 (Nat.le_of_ble_eq_true rfl) (Nat.le_of_ble_eq_true rfl) (fun _ _ _ => rfl) r_358_4 tw_8_210 dX12_namesOf_14 ?_
    refine x_iload_n C rfl 3 rfl dX12_namesOf_17 ?_
    obtain ⟨c5, h⟩ := h
    refine x_iald C ob360.1 ob360.2 c5 rfl dX12_namesOf_18 ?_
    refine x_iload_n C rfl 1 rfl dX12_namesOf_19 ?_
    refine x_icmp_ne (tgt := 27) C dX12_namesOf_20 (by decide) (fun c6 => ?_) (fun c6 => ?_)
    · have h := h.1 c6
      refine x_iconst (v := 0) C (by decide) dX12_namesOf_27 ?_
      refine x_sub [(0, .ref 358), (1, .int p1), (3, .int x.2.1)] [0, 1, 3] rfl ?_
      exact G12_namesOf_J28_ok C hd hr hK4 h
    · have h := h.2 c6
      refine x_iconst (v := 1) C (by decide) dX12_namesOf_23 ?_
      refine x_goto (tgt := 28) C dX12_namesOf_24 (by decide) ?_
      refine x_sub [(0, .ref 358), (1, .int p1), (3, .int x.2.1)] [0, 1, 3] rfl ?_
      exact G12_namesOf_J28_ok C hd hr hK4 h
theorem G12_namesOf_L4_ok {p : Program} {e : Env} {s : State} {m : MethodId} {args : Array Value} {below : List Frame} {meth : Method} {c : Code} {l : Launch} {φ : Nat → Nat} {tc : Nat → ClassId} {D : va_G} {s0 : State} {dR : Nat} (C : CX p s m args meth c φ tc D s0 cX12_namesOf RX12 4) (hd : G12_namesOf_dep ≤ dR) (hr : meth.sig.returnType = (some .int))  {p1 : Int32} {Q : Int32 → MM → Prop}  {x : Int32 × Int32 × MM}    (h : Lp (G12_namesOf_L4 p1 Q) x) : WX p l e (rmX dR) s m args below meth c φ tc D 4 (MQ below (QX φ tc D (QI Q)) args s 0 0 (AX φ)) 4 [(0, .ref 358), (1, .int p1), (2, .int x.1), (3, .int x.2.1)] [] x.2.2 := by
  obtain ⟨n, h⟩ := h
  induction n generalizing x with
  | zero => exact h.elim
  | succ n ih => exact G12_namesOf_L4_b C hd hr   (fun z2 z3 zμ hz => by have q := ih hz; exact q) h
set_option maxHeartbeats 4000000 in
set_option maxRecDepth 100000 in
theorem G12_namesOf_met {l : Launch} {φ : Nat → Nat} {tc : Nat → ClassId} {D : va_G} {s0 : State} (hG : GX φ tc D s0) {dR : Nat} (hd : G12_namesOf_dep ≤ dR) {v1 : Int32} {μ : MM} {Q : Int32 → MM → Prop}  (h : G12_namesOf v1 μ Q) : MX l φ tc D s0 dR yX12_namesOf cX12_namesOf 4 (some .int) [.ref 358, .int v1] μ (QI Q) := by
  refine MX.of (own := RX12) hG plX12 rfl (Nat.le_of_ble_eq_true rfl) (fun p e s m args below meth c C hr => ?_)
  refine x_sub [(0, .ref 358), (1, .int v1)] [0, 1] rfl ?_
  unfold G12_namesOf at h
  refine x_iconst (v := 0) C (by decide) dX12_namesOf_0 ?_
  refine x_istore_n C [(2, .int 0), (0, .ref 358), (1, .int v1)] rfl (Nat.le_of_ble_eq_true rfl) rfl dX12_namesOf_1 ?_
  refine x_iconst (v := 0) C (by decide) dX12_namesOf_2 ?_
  refine x_istore_n C [(3, .int 0), (2, .int 0), (0, .ref 358), (1, .int v1)] rfl (Nat.le_of_ble_eq_true rfl) rfl dX12_namesOf_3 ?_
  refine x_sub [(0, .ref 358), (1, .int v1), (2, .int 0), (3, .int 0)] [2, 3, 1, 0] rfl ?_
  exact G12_namesOf_L4_ok C hd hr  h
set_option maxHeartbeats 4000000 in
set_option maxRecDepth 100000 in
theorem G12_freeName_J100_ok {p : Program} {e : Env} {s : State} {m : MethodId} {args : Array Value} {below : List Frame} {meth : Method} {c : Code} {l : Launch} {φ : Nat → Nat} {tc : Nat → ClassId} {D : va_G} {s0 : State} {dR : Nat} (C : CX p s m args meth c φ tc D s0 cX12_freeName RX12 8) (hd : G12_freeName_dep ≤ dR) (hr : meth.sig.returnType = (some .int))  {p1 : Int32} {p2 : Int32} {p3 : Int32} {p4 : Int32} {p5 : Int32} {p6 : Int32} {Q : Int32 → MM → Prop} {K6 : Int32 × Int32 × MM → Prop} {μ : MM}   (hK6 : ∀ (z4 : Int32) (z5 : Int32) (zμ : MM), K6 (z4, z5, zμ) → WX p l e (rmX dR) s m args below meth c φ tc D 8 (MQ below (QX φ tc D (QI Q)) args s 0 0 (AX φ)) 6 [(0, .ref 358), (1, .int p1), (2, .int p2), (3, .int p3), (4, .int z4), (5, .int z5)] [] zμ) (h : G12_freeName_J100 p1 p2 p3 p4 p5 p6 μ K6 Q) : WX p l e (rmX dR) s m args below meth c φ tc D 8 (MQ below (QX φ tc D (QI Q)) args s 0 0 (AX φ)) 100 [(0, .ref 358), (1, .int p1), (2, .int p2), (3, .int p3), (4, .int p4), (5, .int p5), (6, .int p6)] [] μ := by
  unfold G12_freeName_J100 at h
  refine x_iload C 4 rfl dX12_freeName_100 ?_
  refine x_iload C 6 rfl dX12_freeName_102 ?_
  refine x_callS (dC := G12_flag_dep) (as := [.int p6]) (st := [.int p4]) C rfl (Nat.le_trans (Nat.le_of_ble_eq_true rfl) hd) (Nat.le_of_ble_eq_true rfl) tw_6_212 tw_6_211 tc_6_213 tw_1_13 hyX12 hnX12_flag rfl (Nat.le_of_ble_eq_true rfl) dX12_freeName_104 (G12_flag_met C.2.2.2.2.2.2.2.1 (Nat.le_refl _)  h) (fun r0 μ11 hq => ?_)
  obtain ⟨r12, rfl, h⟩ := hq
  refine x_st [.int r12, .int p4] rfl ?_
  refine x_iadd C dX12_freeName_107 ?_
  refine x_topi (fun y13 e_y13 => ?_)
  have h := h y13 e_y13
  refine x_istore C [(4, .int y13), (0, .ref 358), (1, .int p1), (2, .int p2), (3, .int p3), (5, .int p5), (6, .int p6)] (Nat.le_of_ble_eq_true rfl) rfl dX12_freeName_108 ?_
  refine x_iinc (v := (p5 + 1)) C [(5, .int (p5 + 1)), (4, .int y13), (0, .ref 358), (1, .int p1), (2, .int p2), (3, .int p3), (6, .int p6)] 5 rfl (congrArg (fun z => p5 + z) (by decide : Int32.ofInt (1) = 1)) (Nat.le_of_ble_eq_true rfl) rfl dX12_freeName_110 ?_
  refine x_goto (tgt := 6) C dX12_freeName_113 (by decide) ?_
  refine x_sub [(0, .ref 358), (1, .int p1), (2, .int p2), (3, .int p3), (4, .int y13), (5, .int (p5 + 1))] [2, 3, 4, 5, 1, 0] rfl ?_
  exact hK6 _ _ _ h
set_option maxHeartbeats 4000000 in
set_option maxRecDepth 100000 in
theorem G12_freeName_J77_ok {p : Program} {e : Env} {s : State} {m : MethodId} {args : Array Value} {below : List Frame} {meth : Method} {c : Code} {l : Launch} {φ : Nat → Nat} {tc : Nat → ClassId} {D : va_G} {s0 : State} {dR : Nat} (C : CX p s m args meth c φ tc D s0 cX12_freeName RX12 8) (hd : G12_freeName_dep ≤ dR) (hr : meth.sig.returnType = (some .int))  {p1 : Int32} {p2 : Int32} {p3 : Int32} {p4 : Int32} {p5 : Int32} {p7 : Int32} {Q : Int32 → MM → Prop} {K6 : Int32 × Int32 × MM → Prop} {K36 : Int32 × Int32 × MM → Prop} {μ : MM}   (hK6 : ∀ (z4 : Int32) (z5 : Int32) (zμ : MM), K6 (z4, z5, zμ) → WX p l e (rmX dR) s m args below meth c φ tc D 8 (MQ below (QX φ tc D (QI Q)) args s 0 0 (AX φ)) 6 [(0, .ref 358), (1, .int p1), (2, .int p2), (3, .int p3), (4, .int z4), (5, .int z5)] [] zμ) (hK36 : ∀ (z6 : Int32) (z7 : Int32) (zμ : MM), K36 (z6, z7, zμ) → WX p l e (rmX dR) s m args below meth c φ tc D 8 (MQ below (QX φ tc D (QI Q)) args s 0 0 (AX φ)) 36 [(0, .ref 358), (1, .int p1), (2, .int p2), (3, .int p3), (4, .int p4), (5, .int p5), (6, .int z6), (7, .int z7)] [] zμ) (h : G12_freeName_J77 p1 p2 p3 p4 p5 p7 μ K6 K36 Q) : WX p l e (rmX dR) s m args below meth c φ tc D 8 (MQ below (QX φ tc D (QI Q)) args s 0 0 (AX φ)) 77 [(0, .ref 358), (1, .int p1), (2, .int p2), (3, .int p3), (4, .int p4), (5, .int p5), (7, .int p7)] [] μ := by
  unfold G12_freeName_J77 at h
  refine x_iconst (v := 0) C (by decide) dX12_freeName_77 ?_
  refine x_istore C [(6, .int 0), (0, .ref 358), (1, .int p1), (2, .int p2), (3, .int p3), (4, .int p4), (5, .int p5), (7, .int p7)] (Nat.le_of_ble_eq_true rfl) rfl dX12_freeName_78 ?_
  refine x_iinc (v := (p7 + 1)) C [(7, .int (p7 + 1)), (6, .int 0), (0, .ref 358), (1, .int p1), (2, .int p2), (3, .int p3), (4, .int p4), (5, .int p5)] 7 rfl (congrArg (fun z => p7 + z) (by decide : Int32.ofInt (1) = 1)) (Nat.le_of_ble_eq_true rfl) rfl dX12_freeName_80 ?_
  refine x_goto (tgt := 36) C dX12_freeName_83 (by decide) ?_
  refine x_sub [(0, .ref 358), (1, .int p1), (2, .int p2), (3, .int p3), (4, .int p4), (5, .int p5), (6, .int 0), (7, .int (p7 + 1))] [2, 3, 4, 5, 6, 7, 1, 0] rfl ?_
  exact hK36 _ _ _ h
set_option maxHeartbeats 4000000 in
set_option maxRecDepth 100000 in
theorem G12_freeName_L36_b {p : Program} {e : Env} {s : State} {m : MethodId} {args : Array Value} {below : List Frame} {meth : Method} {c : Code} {l : Launch} {φ : Nat → Nat} {tc : Nat → ClassId} {D : va_G} {s0 : State} {dR : Nat} (C : CX p s m args meth c φ tc D s0 cX12_freeName RX12 8) (hd : G12_freeName_dep ≤ dR) (hr : meth.sig.returnType = (some .int))  {p1 : Int32} {p2 : Int32} {p3 : Int32} {p4 : Int32} {p5 : Int32} {Q : Int32 → MM → Prop} {K6 : Int32 × Int32 × MM → Prop} {K36 : Int32 × Int32 × MM → Prop} {x : Int32 × Int32 × MM}   (hK6 : ∀ (z4 : Int32) (z5 : Int32) (zμ : MM), K6 (z4, z5, zμ) → WX p l e (rmX dR) s m args below meth c φ tc D 8 (MQ below (QX φ tc D (QI Q)) args s 0 0 (AX φ)) 6 [(0, .ref 358), (1, .int p1), (2, .int p2), (3, .int p3), (4, .int z4), (5, .int z5)] [] zμ) (hK36 : ∀ (z6 : Int32) (z7 : Int32) (zμ : MM), K36 (z6, z7, zμ) → WX p l e (rmX dR) s m args below meth c φ tc D 8 (MQ below (QX φ tc D (QI Q)) args s 0 0 (AX φ)) 36 [(0, .ref 358), (1, .int p1), (2, .int p2), (3, .int p3), (4, .int p4), (5, .int p5), (6, .int z6), (7, .int z7)] [] zμ) (h : G12_freeName_L36 p1 p2 p3 p4 p5 K6 Q K36 x) : WX p l e (rmX dR) s m args below meth c φ tc D 8 (MQ below (QX φ tc D (QI Q)) args s 0 0 (AX φ)) 36 [(0, .ref 358), (1, .int p1), (2, .int p2), (3, .int p3), (4, .int p4), (5, .int p5), (6, .int x.1), (7, .int x.2.1)] [] x.2.2 := by
  unfold G12_freeName_L36 at h
  refine x_iload C 7 rfl dX12_freeName_36 ?_
  refine x_aload_n C rfl 0 rfl dX12_freeName_38 ?_
  refine x_getI C (j := 12) ob358.1 ob358.2 (Nat.le_of_ble_eq_true rfl) (Nat.le_of_ble_eq_true rfl) (Or.inl rfl) tw_8_218 dX12_freeName_39 ?_
  refine x_icmp_ge (tgt := 86) C dX12_freeName_42 (by decide) (fun c9 => ?_) (fun c9 => ?_)
  · have h := h.1 c9
    refine x_iload C 6 rfl dX12_freeName_86 ?_
    refine x_if_eq (tgt := 100) C dX12_freeName_88 (by decide) (fun c10 => ?_) (fun c10 => ?_)
    · have h := h.1 c10
      refine x_sub [(0, .ref 358), (1, .int p1), (2, .int p2), (3, .int p3), (4, .int p4), (5, .int p5), (6, .int x.1)] [0, 1, 2, 3, 4, 5, 6] rfl ?_
      exact G12_freeName_J100_ok C hd hr hK6 h
    · have h := h.2 c10
      refine x_iload C 4 rfl dX12_freeName_91 ?_
      refine x_iload_n C rfl 3 rfl dX12_freeName_93 ?_
      refine x_icmp_ne (tgt := 100) C dX12_freeName_94 (by decide) (fun c14 => ?_) (fun c14 => ?_)
      · have h := h.1 c14
        refine x_sub [(0, .ref 358), (1, .int p1), (2, .int p2), (3, .int p3), (4, .int p4), (5, .int p5), (6, .int x.1)] [0, 1, 2, 3, 4, 5, 6] rfl ?_
        exact G12_freeName_J100_ok C hd hr hK6 h
      · have h := h.2 c14
        refine x_iload C 5 rfl dX12_freeName_97 ?_
        exact x_iret C hr dX12_freeName_99 ⟨_, rfl, h⟩
  · have h := h.2 c9
    refine x_iload C 6 rfl dX12_freeName_45 ?_
    refine x_if_eq (tgt := 77) C dX12_freeName_47 (by decide) (fun c15 => ?_) (fun c15 => ?_)
    · have h := h.1 c15
      refine x_sub [(0, .ref 358), (1, .int p1), (2, .int p2), (3, .int p3), (4, .int p4), (5, .int p5), (7, .int x.2.1)] [0, 1, 2, 3, 4, 5, 7] rfl ?_
      exact G12_freeName_J77_ok C hd hr hK6 hK36 h
    · have h := h.2 c15
      refine x_aload_n C rfl 0 rfl dX12_freeName_50 ?_
      refine x_getR (r := 367) C (j := 13) ob358.1 ob358.2 (Nat.le_of_ble_eq_true rfl) (Nat.le_of_ble_eq_true rfl) (fun _ _ _ => rfl) r_358_13 tw_8_219 dX12_freeName_51 ?_
      refine x_iload C 7 rfl dX12_freeName_54 ?_
      obtain ⟨c16, h⟩ := h
      refine x_iald C ob367.1 ob367.2 c16 rfl dX12_freeName_56 ?_
      refine x_iload_n C rfl 1 rfl dX12_freeName_57 ?_
      refine x_icmp_ne (tgt := 73) C dX12_freeName_58 (by decide) (fun c17 => ?_) (fun c17 => ?_)
      · have h := h.1 c17
        refine x_iconst (v := 1) C (by decide) dX12_freeName_73 ?_
        refine x_goto (tgt := 78) C dX12_freeName_74 (by decide) ?_
        refine x_istore C [(6, .int 1), (0, .ref 358), (1, .int p1), (2, .int p2), (3, .int p3), (4, .int p4), (5, .int p5), (7, .int x.2.1)] (Nat.le_of_ble_eq_true rfl) rfl dX12_freeName_78 ?_
        refine x_iinc (v := (x.2.1 + 1)) C [(7, .int (x.2.1 + 1)), (6, .int 1), (0, .ref 358), (1, .int p1), (2, .int p2), (3, .int p3), (4, .int p4), (5, .int p5)] 7 rfl (congrArg (fun z => x.2.1 + z) (by decide : Int32.ofInt (1) = 1)) (Nat.le_of_ble_eq_true rfl) rfl dX12_freeName_80 ?_
        refine x_goto (tgt := 36) C dX12_freeName_83 (by decide) ?_
        refine x_sub [(0, .ref 358), (1, .int p1), (2, .int p2), (3, .int p3), (4, .int p4), (5, .int p5), (6, .int 1), (7, .int (x.2.1 + 1))] [2, 3, 4, 5, 6, 7, 1, 0] rfl ?_
        exact hK36 _ _ _ h
      · have h := h.2 c17
        refine x_aload_n C rfl 0 rfl dX12_freeName_61 ?_
        refine x_getR (r := 368) C (j := 14) ob358.1 ob358.2 (Nat.le_of_ble_eq_true rfl) (Nat.le_of_ble_eq_true rfl) (fun _ _ _ => rfl) r_358_14 tw_8_220 dX12_freeName_62 ?_
        refine x_iload C 7 rfl dX12_freeName_65 ?_
        obtain ⟨c18, h⟩ := h
        refine x_iald C ob368.1 ob368.2 c18 rfl dX12_freeName_67 ?_
        refine x_iload C 5 rfl dX12_freeName_68 ?_
        refine x_icmp_eq (tgt := 77) C dX12_freeName_70 (by decide) (fun c19 => ?_) (fun c19 => ?_)
        · have h := h.1 c19
          refine x_sub [(0, .ref 358), (1, .int p1), (2, .int p2), (3, .int p3), (4, .int p4), (5, .int p5), (7, .int x.2.1)] [0, 1, 2, 3, 4, 5, 7] rfl ?_
          exact G12_freeName_J77_ok C hd hr hK6 hK36 h
        · have h := h.2 c19
          refine x_iconst (v := 1) C (by decide) dX12_freeName_73 ?_
          refine x_goto (tgt := 78) C dX12_freeName_74 (by decide) ?_
          refine x_istore C [(6, .int 1), (0, .ref 358), (1, .int p1), (2, .int p2), (3, .int p3), (4, .int p4), (5, .int p5), (7, .int x.2.1)] (Nat.le_of_ble_eq_true rfl) rfl dX12_freeName_78 ?_
          refine x_iinc (v := (x.2.1 + 1)) C [(7, .int (x.2.1 + 1)), (6, .int 1), (0, .ref 358), (1, .int p1), (2, .int p2), (3, .int p3), (4, .int p4), (5, .int p5)] 7 rfl (congrArg (fun z => x.2.1 + z) (by decide : Int32.ofInt (1) = 1)) (Nat.le_of_ble_eq_true rfl) rfl dX12_freeName_80 ?_
          refine x_goto (tgt := 36) C dX12_freeName_83 (by decide) ?_
          refine x_sub [(0, .ref 358), (1, .int p1), (2, .int p2), (3, .int p3), (4, .int p4), (5, .int p5), (6, .int 1), (7, .int (x.2.1 + 1))] [2, 3, 4, 5, 6, 7, 1, 0] rfl ?_
          exact hK36 _ _ _ h
theorem G12_freeName_L36_ok {p : Program} {e : Env} {s : State} {m : MethodId} {args : Array Value} {below : List Frame} {meth : Method} {c : Code} {l : Launch} {φ : Nat → Nat} {tc : Nat → ClassId} {D : va_G} {s0 : State} {dR : Nat} (C : CX p s m args meth c φ tc D s0 cX12_freeName RX12 8) (hd : G12_freeName_dep ≤ dR) (hr : meth.sig.returnType = (some .int))  {p1 : Int32} {p2 : Int32} {p3 : Int32} {p4 : Int32} {p5 : Int32} {Q : Int32 → MM → Prop} {K6 : Int32 × Int32 × MM → Prop} {x : Int32 × Int32 × MM}   (hK6 : ∀ (z4 : Int32) (z5 : Int32) (zμ : MM), K6 (z4, z5, zμ) → WX p l e (rmX dR) s m args below meth c φ tc D 8 (MQ below (QX φ tc D (QI Q)) args s 0 0 (AX φ)) 6 [(0, .ref 358), (1, .int p1), (2, .int p2), (3, .int p3), (4, .int z4), (5, .int z5)] [] zμ) (h : Lp (G12_freeName_L36 p1 p2 p3 p4 p5 K6 Q) x) : WX p l e (rmX dR) s m args below meth c φ tc D 8 (MQ below (QX φ tc D (QI Q)) args s 0 0 (AX φ)) 36 [(0, .ref 358), (1, .int p1), (2, .int p2), (3, .int p3), (4, .int p4), (5, .int p5), (6, .int x.1), (7, .int x.2.1)] [] x.2.2 := by
  obtain ⟨n, h⟩ := h
  induction n generalizing x with
  | zero => exact h.elim
  | succ n ih => exact G12_freeName_L36_b C hd hr  hK6 (fun z6 z7 zμ hz => by have q := ih hz; exact q) h
set_option maxHeartbeats 4000000 in
set_option maxRecDepth 100000 in
theorem G12_freeName_L6_b {p : Program} {e : Env} {s : State} {m : MethodId} {args : Array Value} {below : List Frame} {meth : Method} {c : Code} {l : Launch} {φ : Nat → Nat} {tc : Nat → ClassId} {D : va_G} {s0 : State} {dR : Nat} (C : CX p s m args meth c φ tc D s0 cX12_freeName RX12 8) (hd : G12_freeName_dep ≤ dR) (hr : meth.sig.returnType = (some .int))  {p1 : Int32} {p2 : Int32} {p3 : Int32} {Q : Int32 → MM → Prop} {K6 : Int32 × Int32 × MM → Prop} {x : Int32 × Int32 × MM}   (hK6 : ∀ (z4 : Int32) (z5 : Int32) (zμ : MM), K6 (z4, z5, zμ) → WX p l e (rmX dR) s m args below meth c φ tc D 8 (MQ below (QX φ tc D (QI Q)) args s 0 0 (AX φ)) 6 [(0, .ref 358), (1, .int p1), (2, .int p2), (3, .int p3), (4, .int z4), (5, .int z5)] [] zμ) (h : G12_freeName_L6 p1 p2 p3 Q K6 x) : WX p l e (rmX dR) s m args below meth c φ tc D 8 (MQ below (QX φ tc D (QI Q)) args s 0 0 (AX φ)) 6 [(0, .ref 358), (1, .int p1), (2, .int p2), (3, .int p3), (4, .int x.1), (5, .int x.2.1)] [] x.2.2 := by
  unfold G12_freeName_L6 at h
  refine x_iload C 5 rfl dX12_freeName_6 ?_
  refine x_aload_n C rfl 0 rfl dX12_freeName_8 ?_
  refine x_getI C (j := 3) ob358.1 ob358.2 (Nat.le_of_ble_eq_true rfl) (Nat.le_of_ble_eq_true rfl) (Or.inl rfl) tw_8_209 dX12_freeName_9 ?_
  refine x_icmp_ge (tgt := 116) C dX12_freeName_12 (by decide) (fun c6 => ?_) (fun c6 => ?_)
  · have h := h.1 c6
    refine x_iload C 4 rfl dX12_freeName_116 ?_
    exact x_iret C hr dX12_freeName_118 ⟨_, rfl, h⟩
  · have h := h.2 c6
    refine x_aload_n C rfl 0 rfl dX12_freeName_15 ?_
    refine x_getR (r := 360) C (j := 4) ob358.1 ob358.2 (Nat.le_of_ble_eq_true rfl) (Nat.le_of_ble_eq_true rfl) (fun _ _ _ => rfl) r_358_4 tw_8_210 dX12_freeName_16 ?_
    refine x_iload C 5 rfl dX12_freeName_19 ?_
    obtain ⟨c7, h⟩ := h
    refine x_iald C ob360.1 ob360.2 c7 rfl dX12_freeName_21 ?_
    refine x_iload_n C rfl 2 rfl dX12_freeName_22 ?_
    refine x_icmp_ne (tgt := 30) C dX12_freeName_23 (by decide) (fun c8 => ?_) (fun c8 => ?_)
    · have h := h.1 c8
      refine x_iconst (v := 0) C (by decide) dX12_freeName_30 ?_
      refine x_istore C [(6, .int 0), (0, .ref 358), (1, .int p1), (2, .int p2), (3, .int p3), (4, .int x.1), (5, .int x.2.1)] (Nat.le_of_ble_eq_true rfl) rfl dX12_freeName_31 ?_
      refine x_iconst (v := 0) C (by decide) dX12_freeName_33 ?_
      refine x_istore C [(7, .int 0), (6, .int 0), (0, .ref 358), (1, .int p1), (2, .int p2), (3, .int p3), (4, .int x.1), (5, .int x.2.1)] (Nat.le_of_ble_eq_true rfl) rfl dX12_freeName_34 ?_
      refine x_sub [(0, .ref 358), (1, .int p1), (2, .int p2), (3, .int p3), (4, .int x.1), (5, .int x.2.1), (6, .int 0), (7, .int 0)] [2, 3, 4, 5, 6, 7, 1, 0] rfl ?_
      exact G12_freeName_L36_ok C hd hr hK6 h
    · have h := h.2 c8
      refine x_iconst (v := 1) C (by decide) dX12_freeName_26 ?_
      refine x_goto (tgt := 31) C dX12_freeName_27 (by decide) ?_
      refine x_istore C [(6, .int 1), (0, .ref 358), (1, .int p1), (2, .int p2), (3, .int p3), (4, .int x.1), (5, .int x.2.1)] (Nat.le_of_ble_eq_true rfl) rfl dX12_freeName_31 ?_
      refine x_iconst (v := 0) C (by decide) dX12_freeName_33 ?_
      refine x_istore C [(7, .int 0), (6, .int 1), (0, .ref 358), (1, .int p1), (2, .int p2), (3, .int p3), (4, .int x.1), (5, .int x.2.1)] (Nat.le_of_ble_eq_true rfl) rfl dX12_freeName_34 ?_
      refine x_sub [(0, .ref 358), (1, .int p1), (2, .int p2), (3, .int p3), (4, .int x.1), (5, .int x.2.1), (6, .int 1), (7, .int 0)] [2, 3, 4, 5, 6, 7, 1, 0] rfl ?_
      exact G12_freeName_L36_ok C hd hr hK6 h
theorem G12_freeName_L6_ok {p : Program} {e : Env} {s : State} {m : MethodId} {args : Array Value} {below : List Frame} {meth : Method} {c : Code} {l : Launch} {φ : Nat → Nat} {tc : Nat → ClassId} {D : va_G} {s0 : State} {dR : Nat} (C : CX p s m args meth c φ tc D s0 cX12_freeName RX12 8) (hd : G12_freeName_dep ≤ dR) (hr : meth.sig.returnType = (some .int))  {p1 : Int32} {p2 : Int32} {p3 : Int32} {Q : Int32 → MM → Prop}  {x : Int32 × Int32 × MM}    (h : Lp (G12_freeName_L6 p1 p2 p3 Q) x) : WX p l e (rmX dR) s m args below meth c φ tc D 8 (MQ below (QX φ tc D (QI Q)) args s 0 0 (AX φ)) 6 [(0, .ref 358), (1, .int p1), (2, .int p2), (3, .int p3), (4, .int x.1), (5, .int x.2.1)] [] x.2.2 := by
  obtain ⟨n, h⟩ := h
  induction n generalizing x with
  | zero => exact h.elim
  | succ n ih => exact G12_freeName_L6_b C hd hr   (fun z4 z5 zμ hz => by have q := ih hz; exact q) h
set_option maxHeartbeats 4000000 in
set_option maxRecDepth 100000 in
theorem G12_freeName_met {l : Launch} {φ : Nat → Nat} {tc : Nat → ClassId} {D : va_G} {s0 : State} (hG : GX φ tc D s0) {dR : Nat} (hd : G12_freeName_dep ≤ dR) {v1 : Int32} {v2 : Int32} {v3 : Int32} {μ : MM} {Q : Int32 → MM → Prop}  (h : G12_freeName v1 v2 v3 μ Q) : MX l φ tc D s0 dR yX12_freeName cX12_freeName 8 (some .int) [.ref 358, .int v1, .int v2, .int v3] μ (QI Q) := by
  refine MX.of (own := RX12) hG plX12 rfl (Nat.le_of_ble_eq_true rfl) (fun p e s m args below meth c C hr => ?_)
  refine x_sub [(0, .ref 358), (1, .int v1), (2, .int v2), (3, .int v3)] [0, 1, 2, 3] rfl ?_
  unfold G12_freeName at h
  refine x_iconst (v := 0) C (by decide) dX12_freeName_0 ?_
  refine x_istore C [(4, .int 0), (0, .ref 358), (1, .int v1), (2, .int v2), (3, .int v3)] (Nat.le_of_ble_eq_true rfl) rfl dX12_freeName_1 ?_
  refine x_iconst (v := 0) C (by decide) dX12_freeName_3 ?_
  refine x_istore C [(5, .int 0), (4, .int 0), (0, .ref 358), (1, .int v1), (2, .int v2), (3, .int v3)] (Nat.le_of_ble_eq_true rfl) rfl dX12_freeName_4 ?_
  refine x_sub [(0, .ref 358), (1, .int v1), (2, .int v2), (3, .int v3), (4, .int 0), (5, .int 0)] [2, 3, 4, 5, 1, 0] rfl ?_
  exact G12_freeName_L6_ok C hd hr  h
set_option maxHeartbeats 4000000 in
set_option maxRecDepth 100000 in
theorem G12_deal_J251_ok {p : Program} {e : Env} {s : State} {m : MethodId} {args : Array Value} {below : List Frame} {meth : Method} {c : Code} {l : Launch} {φ : Nat → Nat} {tc : Nat → ClassId} {D : va_G} {s0 : State} {dR : Nat} (C : CX p s m args meth c φ tc D s0 cX12_deal RX12 14) (hd : G12_deal_dep ≤ dR) (hr : meth.sig.returnType = (some .int))  {p1 : Int32} {p2 : Int32} {p3 : Int32} {p6 : Int32} {p7 : Int32} {p9 : Int32} {p10 : Int32} {p12 : Int32} {p13 : Int32} {q0 : Int32} {q1 : Int32} {q2 : Int32} {Q : Int32 → MM → Prop} {K167 : Int32 × MM → Prop} {μ : MM}   (hK167 : ∀ (z9 : Int32) (zμ : MM), K167 (z9, zμ) → WX p l e (rmX dR) s m args below meth c φ tc D 14 (MQ below (QX φ tc D (QI Q)) args s 0 0 (AX φ)) 167 [(0, .ref 358), (1, .int p1), (2, .int p2), (3, .int p3), (6, .int p6), (7, .int p7), (8, .ref 376), (9, .int z9)] [] zμ) (h : G12_deal_J251 p1 p2 p3 p6 p7 p9 p10 p12 p13 q0 q1 q2 μ K167 Q) : WX p l e (rmX dR) s m args below meth c φ tc D 14 (MQ below (QX φ tc D (QI Q)) args s 0 0 (AX φ)) 251 [(0, .ref 358), (1, .int p1), (2, .int p2), (3, .int p3), (6, .int p6), (7, .int p7), (8, .ref 376), (9, .int p9), (10, .int p10), (12, .int p12), (13, .int p13)] [.int q0, .int q1, .int q2, .ref 358] μ := by
  unfold G12_deal_J251 at h
  refine x_iconst (v := 0) C (by decide) dX12_deal_251 ?_
  refine x_iload C 9 rfl dX12_deal_252 ?_
  refine x_iload C 10 rfl dX12_deal_254 ?_
  refine x_callV (dC := G12_lays_dep) (as := [.int q2, .int q1, .int q0, .int 0, .int p12, .int p13]) (st := []) C rfl (Nat.le_trans (Nat.le_of_ble_eq_true rfl) hd) (Nat.le_of_ble_eq_true rfl) ob358.1 ob358.2 (Nat.le_of_ble_eq_true rfl) rfl ts_8_11 tw_6_216 tw_6_214 tc_6_217 tw_1_13 hyX12 hnX12_lays rfl (Nat.le_of_ble_eq_true rfl) dX12_deal_256 (G12_lays_met C.2.2.2.2.2.2.2.1 (Nat.le_refl _)  h) (fun r0 μ70 hq => ?_)
  obtain ⟨rfl, h⟩ := hq
  refine x_st [] rfl ?_
  refine x_aload C 6 rfl dX12_deal_259 ?_
  refine x_iload C 8 rfl dX12_deal_261 ?_
  refine x_dup2_11 C rfl rfl dX12_deal_263 ?_
  obtain ⟨c71, h⟩ := h
  refine x_iald C ob376.1 ob376.2 c71 rfl dX12_deal_264 ?_
  refine x_iconst (v := 1) C (by decide) dX12_deal_265 ?_
  refine x_iadd C dX12_deal_266 ?_
  obtain ⟨c72, h⟩ := h
  refine x_iast C ob376.1 ob376.2 c72 rfl dX12_deal_267 ?_
  refine x_mu (fun μ73 e_μ73 => ?_)
  have h := h μ73 e_μ73
  refine x_iinc (v := (p9 + 1)) C [(9, .int (p9 + 1)), (0, .ref 358), (1, .int p1), (2, .int p2), (3, .int p3), (6, .int p6), (7, .int p7), (8, .ref 376), (10, .int p10), (12, .int p12), (13, .int p13)] 7 rfl (congrArg (fun z => p9 + z) (by decide : Int32.ofInt (1) = 1)) (Nat.le_of_ble_eq_true rfl) rfl dX12_deal_268 ?_
  refine x_goto (tgt := 167) C dX12_deal_271 (by decide) ?_
  refine x_sub [(0, .ref 358), (1, .int p1), (2, .int p2), (3, .int p3), (6, .int p6), (7, .int p7), (8, .ref 376), (9, .int (p9 + 1))] [1, 2, 3, 4, 5, 6, 7, 0] rfl ?_
  exact hK167 _ _ h
set_option maxHeartbeats 4000000 in
set_option maxRecDepth 100000 in
theorem G12_deal_J192_ok {p : Program} {e : Env} {s : State} {m : MethodId} {args : Array Value} {below : List Frame} {meth : Method} {c : Code} {l : Launch} {φ : Nat → Nat} {tc : Nat → ClassId} {D : va_G} {s0 : State} {dR : Nat} (C : CX p s m args meth c φ tc D s0 cX12_deal RX12 14) (hd : G12_deal_dep ≤ dR) (hr : meth.sig.returnType = (some .int))  {p1 : Int32} {p2 : Int32} {p3 : Int32} {p6 : Int32} {p7 : Int32} {p9 : Int32} {q0 : Int32} {Q : Int32 → MM → Prop} {K167 : Int32 × MM → Prop} {μ : MM}   (hK167 : ∀ (z9 : Int32) (zμ : MM), K167 (z9, zμ) → WX p l e (rmX dR) s m args below meth c φ tc D 14 (MQ below (QX φ tc D (QI Q)) args s 0 0 (AX φ)) 167 [(0, .ref 358), (1, .int p1), (2, .int p2), (3, .int p3), (6, .int p6), (7, .int p7), (8, .ref 376), (9, .int z9)] [] zμ) (h : G12_deal_J192 p1 p2 p3 p6 p7 p9 q0 μ K167 Q) : WX p l e (rmX dR) s m args below meth c φ tc D 14 (MQ below (QX φ tc D (QI Q)) args s 0 0 (AX φ)) 192 [(0, .ref 358), (1, .int p1), (2, .int p2), (3, .int p3), (6, .int p6), (7, .int p7), (8, .ref 376), (9, .int p9)] [.int q0] μ := by
  unfold G12_deal_J192 at h
  refine x_callS (dC := G12_flag_dep) (as := [.int q0]) (st := []) C rfl (Nat.le_trans (Nat.le_of_ble_eq_true rfl) hd) (Nat.le_of_ble_eq_true rfl) tw_6_212 tw_6_211 tc_6_213 tw_1_13 hyX12 hnX12_flag rfl (Nat.le_of_ble_eq_true rfl) dX12_deal_192 (G12_flag_met C.2.2.2.2.2.2.2.1 (Nat.le_refl _)  h) (fun r0 μ56 hq => ?_)
  obtain ⟨r57, rfl, h⟩ := hq
  refine x_st [.int r57] rfl ?_
  refine x_istore C [(10, .int r57), (0, .ref 358), (1, .int p1), (2, .int p2), (3, .int p3), (6, .int p6), (7, .int p7), (8, .ref 376), (9, .int p9)] (Nat.le_of_ble_eq_true rfl) rfl dX12_deal_195 ?_
  refine x_aload_n C rfl 1 rfl dX12_deal_197 ?_
  refine x_iload_n C rfl 2 rfl dX12_deal_198 ?_
  refine x_iload C 0 rfl dX12_deal_199 ?_
  refine x_aload_n C rfl 1 rfl dX12_deal_201 ?_
  refine x_aload_n C rfl 1 rfl dX12_deal_202 ?_
  refine x_iload_n C rfl 2 rfl dX12_deal_203 ?_
  refine x_iload C 0 rfl dX12_deal_204 ?_
  refine x_iconst (v := (-1)) C (by decide) dX12_deal_206 ?_
  refine x_callV (dC := G12_freeName_dep) (as := [.int p1, .int r57, .int (-1)]) (st := [.ref 358, .int r57, .int p1, .ref 358]) C rfl (Nat.le_trans (Nat.le_of_ble_eq_true rfl) hd) (Nat.le_of_ble_eq_true rfl) ob358.1 ob358.2 (Nat.le_of_ble_eq_true rfl) rfl ts_8_14 tw_6_233 tw_6_231 tc_6_234 tw_1_13 hyX12 hnX12_freeName rfl (Nat.le_of_ble_eq_true rfl) dX12_deal_207 (G12_freeName_met C.2.2.2.2.2.2.2.1 (Nat.le_refl _)  h) (fun r0 μ58 hq => ?_)
  obtain ⟨r59, rfl, h⟩ := hq
  refine x_st [.int r59, .ref 358, .int r57, .int p1, .ref 358] rfl ?_
  refine x_callV (dC := G12_draws_dep) (as := [.int r59]) (st := [.int r57, .int p1, .ref 358]) C rfl (Nat.le_trans (Nat.le_of_ble_eq_true rfl) hd) (Nat.le_of_ble_eq_true rfl) ob358.1 ob358.2 (Nat.le_of_ble_eq_true rfl) rfl ts_8_13 tw_6_228 tw_6_226 tc_6_229 tw_1_13 hyX12 hnX12_draws rfl (Nat.le_of_ble_eq_true rfl) dX12_deal_210 (G12_draws_met C.2.2.2.2.2.2.2.1 (Nat.le_refl _)  h) (fun r0 μ60 hq => ?_)
  obtain ⟨r61, rfl, h⟩ := hq
  refine x_st [.int r61, .int r57, .int p1, .ref 358] rfl ?_
  refine x_callV (dC := G12_freeName_dep) (as := [.int p1, .int r57, .int r61]) (st := []) C rfl (Nat.le_trans (Nat.le_of_ble_eq_true rfl) hd) (Nat.le_of_ble_eq_true rfl) ob358.1 ob358.2 (Nat.le_of_ble_eq_true rfl) rfl ts_8_14 tw_6_233 tw_6_231 tc_6_234 tw_1_13 hyX12 hnX12_freeName rfl (Nat.le_of_ble_eq_true rfl) dX12_deal_213 (G12_freeName_met C.2.2.2.2.2.2.2.1 (Nat.le_refl _)  h) (fun r0 μ62 hq => ?_)
  obtain ⟨r63, rfl, h⟩ := hq
  refine x_st [.int r63] rfl ?_
  refine x_istore C [(11, .int r63), (10, .int r57), (0, .ref 358), (1, .int p1), (2, .int p2), (3, .int p3), (6, .int p6), (7, .int p7), (8, .ref 376), (9, .int p9)] (Nat.le_of_ble_eq_true rfl) rfl dX12_deal_216 ?_
  refine x_aload_n C rfl 2 rfl dX12_deal_218 ?_
  refine x_iconst (v := 4) C (by decide) dX12_deal_219 ?_
  refine x_callV (dC := G12_draws_dep) (as := [.int 4]) (st := []) C rfl (Nat.le_trans (Nat.le_of_ble_eq_true rfl) hd) (Nat.le_of_ble_eq_true rfl) ob358.1 ob358.2 (Nat.le_of_ble_eq_true rfl) rfl ts_8_13 tw_6_228 tw_6_226 tc_6_229 tw_1_13 hyX12 hnX12_draws rfl (Nat.le_of_ble_eq_true rfl) dX12_deal_220 (G12_draws_met C.2.2.2.2.2.2.2.1 (Nat.le_refl _)  h) (fun r0 μ64 hq => ?_)
  obtain ⟨r65, rfl, h⟩ := hq
  refine x_st [.int r65] rfl ?_
  refine x_istore C [(12, .int r65), (11, .int r63), (10, .int r57), (0, .ref 358), (1, .int p1), (2, .int p2), (3, .int p3), (6, .int p6), (7, .int p7), (8, .ref 376), (9, .int p9)] (Nat.le_of_ble_eq_true rfl) rfl dX12_deal_223 ?_
  refine x_aload_n C rfl 3 rfl dX12_deal_225 ?_
  refine x_sipush (v := 400) C (by decide) dX12_deal_226 ?_
  refine x_callV (dC := G12_draws_dep) (as := [.int 400]) (st := []) C rfl (Nat.le_trans (Nat.le_of_ble_eq_true rfl) hd) (Nat.le_of_ble_eq_true rfl) ob358.1 ob358.2 (Nat.le_of_ble_eq_true rfl) rfl ts_8_13 tw_6_228 tw_6_226 tc_6_229 tw_1_13 hyX12 hnX12_draws rfl (Nat.le_of_ble_eq_true rfl) dX12_deal_229 (G12_draws_met C.2.2.2.2.2.2.2.1 (Nat.le_refl _)  h) (fun r0 μ66 hq => ?_)
  obtain ⟨r67, rfl, h⟩ := hq
  refine x_st [.int r67] rfl ?_
  refine x_istore C [(13, .int r67), (12, .int r65), (11, .int r63), (10, .int r57), (0, .ref 358), (1, .int p1), (2, .int p2), (3, .int p3), (6, .int p6), (7, .int p7), (8, .ref 376), (9, .int p9)] (Nat.le_of_ble_eq_true rfl) rfl dX12_deal_232 ?_
  refine x_aload_n C rfl 4 rfl dX12_deal_234 ?_
  refine x_iload_n C rfl 5 rfl dX12_deal_235 ?_
  refine x_iload C 2 rfl dX12_deal_236 ?_
  refine x_aload C 10 rfl dX12_deal_238 ?_
  refine x_iload C 3 rfl dX12_deal_240 ?_
  obtain ⟨c68, h⟩ := h
  refine x_iald C ob376.1 ob376.2 c68 rfl dX12_deal_242 ?_
  refine x_if_ne (tgt := 250) C dX12_deal_243 (by decide) (fun c69 => ?_) (fun c69 => ?_)
  · have h := h.1 c69
    refine x_iload_n C rfl 7 rfl dX12_deal_250 ?_
    refine x_sub [(0, .ref 358), (1, .int p1), (2, .int p2), (3, .int p3), (6, .int p6), (7, .int p7), (8, .ref 376), (9, .int p9), (10, .int r57), (12, .int r65), (13, .int r67)] [4, 5, 6, 7, 8, 9, 10, 11, 3, 1, 0] rfl ?_
    exact G12_deal_J251_ok C hd hr hK167 h
  · have h := h.2 c69
    refine x_iload_n C rfl 6 rfl dX12_deal_246 ?_
    refine x_goto (tgt := 251) C dX12_deal_247 (by decide) ?_
    refine x_sub [(0, .ref 358), (1, .int p1), (2, .int p2), (3, .int p3), (6, .int p6), (7, .int p7), (8, .ref 376), (9, .int p9), (10, .int r57), (12, .int r65), (13, .int r67)] [4, 5, 6, 7, 8, 9, 10, 11, 3, 1, 0] rfl ?_
    exact G12_deal_J251_ok C hd hr hK167 h
set_option maxHeartbeats 4000000 in
set_option maxRecDepth 100000 in
theorem G12_deal_J187_ok {p : Program} {e : Env} {s : State} {m : MethodId} {args : Array Value} {below : List Frame} {meth : Method} {c : Code} {l : Launch} {φ : Nat → Nat} {tc : Nat → ClassId} {D : va_G} {s0 : State} {dR : Nat} (C : CX p s m args meth c φ tc D s0 cX12_deal RX12 14) (hd : G12_deal_dep ≤ dR) (hr : meth.sig.returnType = (some .int))  {p1 : Int32} {p2 : Int32} {p3 : Int32} {p6 : Int32} {p7 : Int32} {p9 : Int32} {Q : Int32 → MM → Prop} {K167 : Int32 × MM → Prop} {μ : MM}   (hK167 : ∀ (z9 : Int32) (zμ : MM), K167 (z9, zμ) → WX p l e (rmX dR) s m args below meth c φ tc D 14 (MQ below (QX φ tc D (QI Q)) args s 0 0 (AX φ)) 167 [(0, .ref 358), (1, .int p1), (2, .int p2), (3, .int p3), (6, .int p6), (7, .int p7), (8, .ref 376), (9, .int z9)] [] zμ) (h : G12_deal_J187 p1 p2 p3 p6 p7 p9 μ K167 Q) : WX p l e (rmX dR) s m args below meth c φ tc D 14 (MQ below (QX φ tc D (QI Q)) args s 0 0 (AX φ)) 187 [(0, .ref 358), (1, .int p1), (2, .int p2), (3, .int p3), (6, .int p6), (7, .int p7), (8, .ref 376), (9, .int p9)] [] μ := by
  unfold G12_deal_J187 at h
  refine x_iconst (v := 1) C (by decide) dX12_deal_187 ?_
  refine x_goto (tgt := 192) C dX12_deal_188 (by decide) ?_
  exact G12_deal_J192_ok C hd hr hK167 h
set_option maxHeartbeats 4000000 in
set_option maxRecDepth 100000 in
theorem G12_deal_L167_b {p : Program} {e : Env} {s : State} {m : MethodId} {args : Array Value} {below : List Frame} {meth : Method} {c : Code} {l : Launch} {φ : Nat → Nat} {tc : Nat → ClassId} {D : va_G} {s0 : State} {dR : Nat} (C : CX p s m args meth c φ tc D s0 cX12_deal RX12 14) (hd : G12_deal_dep ≤ dR) (hr : meth.sig.returnType = (some .int))  {p1 : Int32} {p2 : Int32} {p3 : Int32} {p6 : Int32} {p7 : Int32} {Q : Int32 → MM → Prop} {K167 : Int32 × MM → Prop} {x : Int32 × MM}   (hK167 : ∀ (z9 : Int32) (zμ : MM), K167 (z9, zμ) → WX p l e (rmX dR) s m args below meth c φ tc D 14 (MQ below (QX φ tc D (QI Q)) args s 0 0 (AX φ)) 167 [(0, .ref 358), (1, .int p1), (2, .int p2), (3, .int p3), (6, .int p6), (7, .int p7), (8, .ref 376), (9, .int z9)] [] zμ) (h : G12_deal_L167 p1 p2 p3 p6 p7 Q K167 x) : WX p l e (rmX dR) s m args below meth c φ tc D 14 (MQ below (QX φ tc D (QI Q)) args s 0 0 (AX φ)) 167 [(0, .ref 358), (1, .int p1), (2, .int p2), (3, .int p3), (6, .int p6), (7, .int p7), (8, .ref 376), (9, .int x.1)] [] x.2 := by
  unfold G12_deal_L167 at h
  refine x_iload C 7 rfl dX12_deal_167 ?_
  refine x_iconst (v := 4) C (by decide) dX12_deal_169 ?_
  refine x_icmp_ge (tgt := 274) C dX12_deal_170 (by decide) (fun c54 => ?_) (fun c54 => ?_)
  · have h := h.1 c54
    refine x_aload_n C rfl 0 rfl dX12_deal_274 ?_
    refine x_getI C (j := 12) ob358.1 ob358.2 (Nat.le_of_ble_eq_true rfl) (Nat.le_of_ble_eq_true rfl) (Or.inl rfl) tw_8_218 dX12_deal_275 ?_
    exact x_iret C hr dX12_deal_278 ⟨_, rfl, h⟩
  · have h := h.2 c54
    refine x_iload C 7 rfl dX12_deal_173 ?_
    refine x_iload C 4 rfl dX12_deal_175 ?_
    refine x_icmp_eq (tgt := 187) C dX12_deal_177 (by decide) (fun c55 => ?_) (fun c55 => ?_)
    · have h := h.1 c55
      exact G12_deal_J187_ok C hd hr hK167 h
    · have h := h.2 c55
      refine x_iload C 7 rfl dX12_deal_180 ?_
      refine x_iload C 5 rfl dX12_deal_182 ?_
      refine x_icmp_ne (tgt := 191) C dX12_deal_184 (by decide) (fun c74 => ?_) (fun c74 => ?_)
      · have h := h.1 c74
        refine x_iconst (v := 0) C (by decide) dX12_deal_191 ?_
        exact G12_deal_J192_ok C hd hr hK167 h
      · have h := h.2 c74
        exact G12_deal_J187_ok C hd hr hK167 h
theorem G12_deal_L167_ok {p : Program} {e : Env} {s : State} {m : MethodId} {args : Array Value} {below : List Frame} {meth : Method} {c : Code} {l : Launch} {φ : Nat → Nat} {tc : Nat → ClassId} {D : va_G} {s0 : State} {dR : Nat} (C : CX p s m args meth c φ tc D s0 cX12_deal RX12 14) (hd : G12_deal_dep ≤ dR) (hr : meth.sig.returnType = (some .int))  {p1 : Int32} {p2 : Int32} {p3 : Int32} {p6 : Int32} {p7 : Int32} {Q : Int32 → MM → Prop}  {x : Int32 × MM}    (h : Lp (G12_deal_L167 p1 p2 p3 p6 p7 Q) x) : WX p l e (rmX dR) s m args below meth c φ tc D 14 (MQ below (QX φ tc D (QI Q)) args s 0 0 (AX φ)) 167 [(0, .ref 358), (1, .int p1), (2, .int p2), (3, .int p3), (6, .int p6), (7, .int p7), (8, .ref 376), (9, .int x.1)] [] x.2 := by
  obtain ⟨n, h⟩ := h
  induction n generalizing x with
  | zero => exact h.elim
  | succ n ih => exact G12_deal_L167_b C hd hr   (fun z9 zμ hz => by have q := ih hz; exact q) h
set_option maxHeartbeats 4000000 in
set_option maxRecDepth 100000 in
theorem G12_deal_J146_ok {p : Program} {e : Env} {s : State} {m : MethodId} {args : Array Value} {below : List Frame} {meth : Method} {c : Code} {l : Launch} {φ : Nat → Nat} {tc : Nat → ClassId} {D : va_G} {s0 : State} {dR : Nat} (C : CX p s m args meth c φ tc D s0 cX12_deal RX12 14) (hd : G12_deal_dep ≤ dR) (hr : meth.sig.returnType = (some .int))  {p1 : Int32} {p2 : Int32} {p3 : Int32} {p6 : Int32} {q0 : Int32} {Q : Int32 → MM → Prop}  {μ : MM}    (h : G12_deal_J146 p1 p2 p3 p6 q0 μ Q) : WX p l e (rmX dR) s m args below meth c φ tc D 14 (MQ below (QX φ tc D (QI Q)) args s 0 0 (AX φ)) 146 [(0, .ref 358), (1, .int p1), (2, .int p2), (3, .int p3), (6, .int p6)] [.int q0] μ := by
  unfold G12_deal_J146 at h
  refine x_istore C [(7, .int q0), (0, .ref 358), (1, .int p1), (2, .int p2), (3, .int p3), (6, .int p6)] (Nat.le_of_ble_eq_true rfl) rfl dX12_deal_146 ?_
  refine x_aload_n C rfl 1 rfl dX12_deal_148 ?_
  refine x_getR (r := 376) C (j := 23) ob358.1 ob358.2 (Nat.le_of_ble_eq_true rfl) (Nat.le_of_ble_eq_true rfl) (fun _ _ _ => rfl) r_358_23 tw_8_229 dX12_deal_149 ?_
  refine x_astore C [(8, .ref 376), (7, .int q0), (0, .ref 358), (1, .int p1), (2, .int p2), (3, .int p3), (6, .int p6)] (Nat.le_of_ble_eq_true rfl) rfl dX12_deal_152 ?_
  refine x_aload C 0 rfl dX12_deal_154 ?_
  refine x_iconst (v := 0) C (by decide) dX12_deal_156 ?_
  refine x_iconst (v := 0) C (by decide) dX12_deal_157 ?_
  refine x_iast C ob376.1 ob376.2 (by unfold vp_in; decide) (j := 0) (by decide) dX12_deal_158 ?_
  refine x_mu (fun μ52 e_μ52 => ?_)
  have h := h μ52 e_μ52
  refine x_aload C 0 rfl dX12_deal_159 ?_
  refine x_iconst (v := 1) C (by decide) dX12_deal_161 ?_
  refine x_iconst (v := 0) C (by decide) dX12_deal_162 ?_
  refine x_iast C ob376.1 ob376.2 (by unfold vp_in; decide) (j := 1) (by decide) dX12_deal_163 ?_
  refine x_mu (fun μ53 e_μ53 => ?_)
  have h := h μ53 e_μ53
  refine x_iconst (v := 0) C (by decide) dX12_deal_164 ?_
  refine x_istore C [(9, .int 0), (8, .ref 376), (7, .int q0), (0, .ref 358), (1, .int p1), (2, .int p2), (3, .int p3), (6, .int p6)] (Nat.le_of_ble_eq_true rfl) rfl dX12_deal_165 ?_
  refine x_sub [(0, .ref 358), (1, .int p1), (2, .int p2), (3, .int p3), (6, .int p6), (7, .int q0), (8, .ref 376), (9, .int 0)] [3, 4, 5, 6, 7, 2, 1, 0] rfl ?_
  exact G12_deal_L167_ok C hd hr  h
set_option maxHeartbeats 4000000 in
set_option maxRecDepth 100000 in
theorem G12_deal_J117_ok {p : Program} {e : Env} {s : State} {m : MethodId} {args : Array Value} {below : List Frame} {meth : Method} {c : Code} {l : Launch} {φ : Nat → Nat} {tc : Nat → ClassId} {D : va_G} {s0 : State} {dR : Nat} (C : CX p s m args meth c φ tc D s0 cX12_deal RX12 14) (hd : G12_deal_dep ≤ dR) (hr : meth.sig.returnType = (some .int))  {p1 : Int32} {p2 : Int32} {p3 : Int32} {p5 : Int32} {q0 : Int32} {Q : Int32 → MM → Prop}  {μ : MM}    (h : G12_deal_J117 p1 p2 p3 p5 q0 μ Q) : WX p l e (rmX dR) s m args below meth c φ tc D 14 (MQ below (QX φ tc D (QI Q)) args s 0 0 (AX φ)) 117 [(0, .ref 358), (1, .int p1), (2, .int p2), (3, .int p3), (5, .int p5)] [.int q0] μ := by
  unfold G12_deal_J117 at h
  refine x_istore C [(6, .int q0), (0, .ref 358), (1, .int p1), (2, .int p2), (3, .int p3), (5, .int p5)] (Nat.le_of_ble_eq_true rfl) rfl dX12_deal_117 ?_
  refine x_iload C 5 rfl dX12_deal_119 ?_
  refine x_iconst (v := 3) C (by decide) dX12_deal_121 ?_
  refine x_icmp_ge (tgt := 132) C dX12_deal_122 (by decide) (fun c50 => ?_) (fun c50 => ?_)
  · have h := h.1 c50
    refine x_iload C 5 rfl dX12_deal_132 ?_
    refine x_iconst (v := 5) C (by decide) dX12_deal_134 ?_
    refine x_icmp_ge (tgt := 145) C dX12_deal_135 (by decide) (fun c51 => ?_) (fun c51 => ?_)
    · have h := h.1 c51
      refine x_iconst (v := 3) C (by decide) dX12_deal_145 ?_
      refine x_sub [(0, .ref 358), (1, .int p1), (2, .int p2), (3, .int p3), (6, .int q0)] [1, 2, 3, 4, 0] rfl ?_
      exact G12_deal_J146_ok C hd hr  h
    · have h := h.2 c51
      refine x_iload C 5 rfl dX12_deal_138 ?_
      refine x_iconst (v := 1) C (by decide) dX12_deal_140 ?_
      refine x_isub C dX12_deal_141 ?_
      refine x_goto (tgt := 146) C dX12_deal_142 (by decide) ?_
      refine x_sub [(0, .ref 358), (1, .int p1), (2, .int p2), (3, .int p3), (6, .int q0)] [1, 2, 3, 4, 0] rfl ?_
      exact G12_deal_J146_ok C hd hr  h
  · have h := h.2 c50
    refine x_iload C 5 rfl dX12_deal_125 ?_
    refine x_iconst (v := 1) C (by decide) dX12_deal_127 ?_
    refine x_iadd C dX12_deal_128 ?_
    refine x_goto (tgt := 146) C dX12_deal_129 (by decide) ?_
    refine x_sub [(0, .ref 358), (1, .int p1), (2, .int p2), (3, .int p3), (6, .int q0)] [1, 2, 3, 4, 0] rfl ?_
    exact G12_deal_J146_ok C hd hr  h
set_option maxHeartbeats 4000000 in
set_option maxRecDepth 100000 in
theorem G12_deal_J60_ok {p : Program} {e : Env} {s : State} {m : MethodId} {args : Array Value} {below : List Frame} {meth : Method} {c : Code} {l : Launch} {φ : Nat → Nat} {tc : Nat → ClassId} {D : va_G} {s0 : State} {dR : Nat} (C : CX p s m args meth c φ tc D s0 cX12_deal RX12 14) (hd : G12_deal_dep ≤ dR) (hr : meth.sig.returnType = (some .int))  {p1 : Int32} {p2 : Int32} {p3 : Int32} {q0 : Int32} {Q : Int32 → MM → Prop}  {μ : MM}    (h : G12_deal_J60 p1 p2 p3 q0 μ Q) : WX p l e (rmX dR) s m args below meth c φ tc D 14 (MQ below (QX φ tc D (QI Q)) args s 0 0 (AX φ)) 60 [(0, .ref 358), (1, .int p1), (2, .int p2), (3, .int p3)] [.int q0] μ := by
  unfold G12_deal_J60 at h
  refine x_istore C [(4, .int q0), (0, .ref 358), (1, .int p1), (2, .int p2), (3, .int p3)] (Nat.le_of_ble_eq_true rfl) rfl dX12_deal_60 ?_
  refine x_iload C 0 rfl dX12_deal_62 ?_
  refine x_if_eq (tgt := 86) C dX12_deal_64 (by decide) (fun c41 => ?_) (fun c41 => ?_)
  · have h := h.1 c41
    refine x_iconst (v := (-1)) C (by decide) dX12_deal_86 ?_
    exact x_iret C hr dX12_deal_87 ⟨_, rfl, h⟩
  · have h := h.2 c41
    refine x_aload_n C rfl 1 rfl dX12_deal_67 ?_
    refine x_iload_n C rfl 2 rfl dX12_deal_68 ?_
    refine x_callV (dC := G12_lettersTo_dep) (as := [.int p1]) (st := []) C rfl (Nat.le_trans (Nat.le_of_ble_eq_true rfl) hd) (Nat.le_of_ble_eq_true rfl) ob358.1 ob358.2 (Nat.le_of_ble_eq_true rfl) rfl ts_8_10 tw_6_209 tw_6_207 tc_6_210 tw_1_13 hyX12 hnX12_lettersTo rfl (Nat.le_of_ble_eq_true rfl) dX12_deal_69 (G12_lettersTo_met C.2.2.2.2.2.2.2.1 (Nat.le_refl _)  h) (fun r0 μ42 hq => ?_)
    obtain ⟨r43, rfl, h⟩ := hq
    refine x_st [.int r43] rfl ?_
    refine x_if_gt (tgt := 86) C dX12_deal_72 (by decide) (fun c44 => ?_) (fun c44 => ?_)
    · have h := h.1 c44
      refine x_iconst (v := (-1)) C (by decide) dX12_deal_86 ?_
      exact x_iret C hr dX12_deal_87 ⟨_, rfl, h⟩
    · have h := h.2 c44
      refine x_aload_n C rfl 1 rfl dX12_deal_75 ?_
      refine x_getI C (j := 12) ob358.1 ob358.2 (Nat.le_of_ble_eq_true rfl) (Nat.le_of_ble_eq_true rfl) (Or.inl rfl) tw_8_218 dX12_deal_76 ?_
      refine x_iconst (v := 4) C (by decide) dX12_deal_79 ?_
      refine x_iadd C dX12_deal_80 ?_
      refine x_bipush (v := 96) C (by decide) dX12_deal_81 ?_
      refine x_icmp_le (tgt := 88) C dX12_deal_83 (by decide) (fun c45 => ?_) (fun c45 => ?_)
      · have h := h.1 c45
        refine x_aload_n C rfl 1 rfl dX12_deal_88 ?_
        refine x_bipush (v := 6) C (by decide) dX12_deal_89 ?_
        refine x_callV (dC := G12_draws_dep) (as := [.int 6]) (st := []) C rfl (Nat.le_trans (Nat.le_of_ble_eq_true rfl) hd) (Nat.le_of_ble_eq_true rfl) ob358.1 ob358.2 (Nat.le_of_ble_eq_true rfl) rfl ts_8_13 tw_6_228 tw_6_226 tc_6_229 tw_1_13 hyX12 hnX12_draws rfl (Nat.le_of_ble_eq_true rfl) dX12_deal_91 (G12_draws_met C.2.2.2.2.2.2.2.1 (Nat.le_refl _)  h) (fun r0 μ46 hq => ?_)
        obtain ⟨r47, rfl, h⟩ := hq
        refine x_st [.int r47] rfl ?_
        refine x_istore C [(5, .int r47), (4, .int q0), (0, .ref 358), (1, .int p1), (2, .int p2), (3, .int p3)] (Nat.le_of_ble_eq_true rfl) rfl dX12_deal_94 ?_
        refine x_iload C 0 rfl dX12_deal_96 ?_
        refine x_iconst (v := 3) C (by decide) dX12_deal_98 ?_
        refine x_icmp_ge (tgt := 106) C dX12_deal_99 (by decide) (fun c48 => ?_) (fun c48 => ?_)
        · have h := h.1 c48
          refine x_iload C 0 rfl dX12_deal_106 ?_
          refine x_iconst (v := 5) C (by decide) dX12_deal_108 ?_
          refine x_icmp_ge (tgt := 116) C dX12_deal_109 (by decide) (fun c49 => ?_) (fun c49 => ?_)
          · have h := h.1 c49
            refine x_iconst (v := 2) C (by decide) dX12_deal_116 ?_
            refine x_sub [(0, .ref 358), (1, .int p1), (2, .int p2), (3, .int p3), (5, .int r47)] [2, 3, 4, 5, 0] rfl ?_
            exact G12_deal_J117_ok C hd hr  h
          · have h := h.2 c49
            refine x_iconst (v := 1) C (by decide) dX12_deal_112 ?_
            refine x_goto (tgt := 117) C dX12_deal_113 (by decide) ?_
            refine x_sub [(0, .ref 358), (1, .int p1), (2, .int p2), (3, .int p3), (5, .int r47)] [2, 3, 4, 5, 0] rfl ?_
            exact G12_deal_J117_ok C hd hr  h
        · have h := h.2 c48
          refine x_iconst (v := 0) C (by decide) dX12_deal_102 ?_
          refine x_goto (tgt := 117) C dX12_deal_103 (by decide) ?_
          refine x_sub [(0, .ref 358), (1, .int p1), (2, .int p2), (3, .int p3), (5, .int r47)] [2, 3, 4, 5, 0] rfl ?_
          exact G12_deal_J117_ok C hd hr  h
      · have h := h.2 c45
        refine x_iconst (v := (-1)) C (by decide) dX12_deal_86 ?_
        exact x_iret C hr dX12_deal_87 ⟨_, rfl, h⟩
set_option maxHeartbeats 4000000 in
set_option maxRecDepth 100000 in
theorem G12_deal_J59_ok {p : Program} {e : Env} {s : State} {m : MethodId} {args : Array Value} {below : List Frame} {meth : Method} {c : Code} {l : Launch} {φ : Nat → Nat} {tc : Nat → ClassId} {D : va_G} {s0 : State} {dR : Nat} (C : CX p s m args meth c φ tc D s0 cX12_deal RX12 14) (hd : G12_deal_dep ≤ dR) (hr : meth.sig.returnType = (some .int))  {p1 : Int32} {p2 : Int32} {p3 : Int32} {Q : Int32 → MM → Prop}  {μ : MM}    (h : G12_deal_J59 p1 p2 p3 μ Q) : WX p l e (rmX dR) s m args below meth c φ tc D 14 (MQ below (QX φ tc D (QI Q)) args s 0 0 (AX φ)) 59 [(0, .ref 358), (1, .int p1), (2, .int p2), (3, .int p3)] [] μ := by
  unfold G12_deal_J59 at h
  refine x_iconst (v := 0) C (by decide) dX12_deal_59 ?_
  exact G12_deal_J60_ok C hd hr  h
set_option maxHeartbeats 4000000 in
set_option maxRecDepth 100000 in
theorem G12_deal_met {l : Launch} {φ : Nat → Nat} {tc : Nat → ClassId} {D : va_G} {s0 : State} (hG : GX φ tc D s0) {dR : Nat} (hd : G12_deal_dep ≤ dR) {v1 : Int32} {v2 : Int32} {v3 : Int32} {μ : MM} {Q : Int32 → MM → Prop}  (h : G12_deal v1 v2 v3 μ Q) : MX l φ tc D s0 dR yX12_deal cX12_deal 14 (some .int) [.ref 358, .int v1, .int v2, .int v3] μ (QI Q) := by
  refine MX.of (own := RX12) hG plX12 rfl (Nat.le_of_ble_eq_true rfl) (fun p e s m args below meth c C hr => ?_)
  refine x_sub [(0, .ref 358), (1, .int v1), (2, .int v2), (3, .int v3)] [0, 1, 2, 3] rfl ?_
  unfold G12_deal at h
  refine x_aload_n C rfl 0 rfl dX12_deal_0 ?_
  refine x_iconst (v := 0) C (by decide) dX12_deal_1 ?_
  refine x_putI C (j := 0) ob358.1 ob358.2 (Nat.le_of_ble_eq_true rfl) (Nat.le_of_ble_eq_true rfl) (Or.inl rfl) rfl rfl rfl tw_8_206 dX12_deal_2 ?_
  refine x_mu (fun μ37 e_μ37 => ?_)
  have h := h μ37 e_μ37
  refine x_aload_n C rfl 0 rfl dX12_deal_5 ?_
  refine x_iload_n C rfl 1 rfl dX12_deal_6 ?_
  refine x_callV (dC := G12_isHouse_dep) (as := [.int v1]) (st := []) C rfl (Nat.le_trans (Nat.le_of_ble_eq_true rfl) hd) (Nat.le_of_ble_eq_true rfl) ob358.1 ob358.2 (Nat.le_of_ble_eq_true rfl) rfl ts_8_8 tw_6_198 tw_6_196 tc_6_200 tw_1_13 hyX12 hnX12_isHouse rfl (Nat.le_of_ble_eq_true rfl) dX12_deal_7 (G12_isHouse_met C.2.2.2.2.2.2.2.1 (Nat.le_refl _)  h) (fun r0 μ38 hq => ?_)
  obtain ⟨r39, rfl, h⟩ := hq
  refine x_st [.int r39] rfl ?_
  refine x_if_eq (tgt := 59) C dX12_deal_10 (by decide) (fun c40 => ?_) (fun c40 => ?_)
  · have h := h.1 c40
    exact G12_deal_J59_ok C hd hr  h
  · have h := h.2 c40
    refine x_iload_n C rfl 2 rfl dX12_deal_13 ?_
    refine x_i2l C dX12_deal_14 ?_
    refine x_lconst (v := 0) C (by decide) dX12_deal_15 ?_
    refine x_ldc2 (v := 99) C tw_6_205 dX12_deal_16 ?_
    refine x_callS (dC := G12_in_dep) (as := [.long (v2.toInt64), .long 0, .long 99]) (st := []) C rfl (Nat.le_trans (Nat.le_of_ble_eq_true rfl) hd) (Nat.le_of_ble_eq_true rfl) tw_6_183 tw_6_182 tc_6_184 tw_1_13 hyX12 hnX12_in rfl (Nat.le_of_ble_eq_true rfl) dX12_deal_19 (G12_in_met C.2.2.2.2.2.2.2.1 (Nat.le_refl _)  h) (fun r0 μ75 hq => ?_)
    obtain ⟨r76, rfl, h⟩ := hq
    refine x_st [.int r76] rfl ?_
    refine x_if_eq (tgt := 59) C dX12_deal_22 (by decide) (fun c77 => ?_) (fun c77 => ?_)
    · have h := h.1 c77
      exact G12_deal_J59_ok C hd hr  h
    · have h := h.2 c77
      refine x_iload_n C rfl 3 rfl dX12_deal_25 ?_
      refine x_i2l C dX12_deal_26 ?_
      refine x_lconst (v := 0) C (by decide) dX12_deal_27 ?_
      refine x_ldc2 (v := 99) C tw_6_205 dX12_deal_28 ?_
      refine x_callS (dC := G12_in_dep) (as := [.long (v3.toInt64), .long 0, .long 99]) (st := []) C rfl (Nat.le_trans (Nat.le_of_ble_eq_true rfl) hd) (Nat.le_of_ble_eq_true rfl) tw_6_183 tw_6_182 tc_6_184 tw_1_13 hyX12 hnX12_in rfl (Nat.le_of_ble_eq_true rfl) dX12_deal_31 (G12_in_met C.2.2.2.2.2.2.2.1 (Nat.le_refl _)  h) (fun r0 μ78 hq => ?_)
      obtain ⟨r79, rfl, h⟩ := hq
      refine x_st [.int r79] rfl ?_
      refine x_if_eq (tgt := 59) C dX12_deal_34 (by decide) (fun c80 => ?_) (fun c80 => ?_)
      · have h := h.1 c80
        exact G12_deal_J59_ok C hd hr  h
      · have h := h.2 c80
        refine x_aload_n C rfl 0 rfl dX12_deal_37 ?_
        refine x_iconst (v := 0) C (by decide) dX12_deal_38 ?_
        refine x_callV (dC := G12_namesOf_dep) (as := [.int 0]) (st := []) C rfl (Nat.le_trans (Nat.le_of_ble_eq_true rfl) hd) (Nat.le_of_ble_eq_true rfl) ob358.1 ob358.2 (Nat.le_of_ble_eq_true rfl) rfl ts_8_12 tw_6_224 tw_6_222 tc_6_225 tw_1_13 hyX12 hnX12_namesOf rfl (Nat.le_of_ble_eq_true rfl) dX12_deal_39 (G12_namesOf_met C.2.2.2.2.2.2.2.1 (Nat.le_refl _)  h) (fun r0 μ81 hq => ?_)
        obtain ⟨r82, rfl, h⟩ := hq
        refine x_st [.int r82] rfl ?_
        refine x_iconst (v := 1) C (by decide) dX12_deal_42 ?_
        refine x_icmp_le (tgt := 59) C dX12_deal_43 (by decide) (fun c83 => ?_) (fun c83 => ?_)
        · have h := h.1 c83
          exact G12_deal_J59_ok C hd hr  h
        · have h := h.2 c83
          refine x_aload_n C rfl 0 rfl dX12_deal_46 ?_
          refine x_iconst (v := 1) C (by decide) dX12_deal_47 ?_
          refine x_callV (dC := G12_namesOf_dep) (as := [.int 1]) (st := []) C rfl (Nat.le_trans (Nat.le_of_ble_eq_true rfl) hd) (Nat.le_of_ble_eq_true rfl) ob358.1 ob358.2 (Nat.le_of_ble_eq_true rfl) rfl ts_8_12 tw_6_224 tw_6_222 tc_6_225 tw_1_13 hyX12 hnX12_namesOf rfl (Nat.le_of_ble_eq_true rfl) dX12_deal_48 (G12_namesOf_met C.2.2.2.2.2.2.2.1 (Nat.le_refl _)  h) (fun r0 μ84 hq => ?_)
          obtain ⟨r85, rfl, h⟩ := hq
          refine x_st [.int r85] rfl ?_
          refine x_iconst (v := 1) C (by decide) dX12_deal_51 ?_
          refine x_icmp_le (tgt := 59) C dX12_deal_52 (by decide) (fun c86 => ?_) (fun c86 => ?_)
          · have h := h.1 c86
            exact G12_deal_J59_ok C hd hr  h
          · have h := h.2 c86
            refine x_iconst (v := 1) C (by decide) dX12_deal_55 ?_
            refine x_goto (tgt := 60) C dX12_deal_56 (by decide) ?_
            exact G12_deal_J60_ok C hd hr  h
set_option maxHeartbeats 4000000 in
set_option maxRecDepth 100000 in
theorem G12_of_J25_ok {p : Program} {e : Env} {s : State} {m : MethodId} {args : Array Value} {below : List Frame} {meth : Method} {c : Code} {l : Launch} {φ : Nat → Nat} {tc : Nat → ClassId} {D : va_G} {s0 : State} {dR : Nat} (C : CX p s m args meth c φ tc D s0 cX12_of RX12 3) (hd : G12_of_dep ≤ dR) (hr : meth.sig.returnType = (some .int))   {Q : Int32 → MM → Prop}  {μ : MM}    (h : G12_of_J25 μ Q) : WX p l e (rmX dR) s m args below meth c φ tc D 3 (MQ below (QX φ tc D (QI Q)) args s 0 0 (AX φ)) 25 [(0, .ref 358)] [] μ := by
  unfold G12_of_J25 at h
  refine x_aload_n C rfl 0 rfl dX12_of_25 ?_
  refine x_callV (dC := G12_refuse_dep) (as := []) (st := []) C rfl (Nat.le_trans (Nat.le_of_ble_eq_true rfl) hd) (Nat.le_of_ble_eq_true rfl) ob358.1 ob358.2 (Nat.le_of_ble_eq_true rfl) rfl ts_9_0 tw_7_6 tw_7_4 tc_7_7 tw_1_13 hyX12 hnX12_refuse rfl (Nat.le_of_ble_eq_true rfl) dX12_of_26 (G12_refuse_met C.2.2.2.2.2.2.2.1 (Nat.le_refl _)  h) (fun r0 μ25 hq => ?_)
  obtain ⟨r26, rfl, h⟩ := hq
  refine x_st [.int r26] rfl ?_
  exact x_iret C hr dX12_of_29 ⟨_, rfl, h⟩
set_option maxHeartbeats 4000000 in
set_option maxRecDepth 100000 in
theorem G12_of_met {l : Launch} {φ : Nat → Nat} {tc : Nat → ClassId} {D : va_G} {s0 : State} (hG : GX φ tc D s0) {dR : Nat} (hd : G12_of_dep ≤ dR) {v1 : Int32} {v2 : Int32} {μ : MM} {Q : Int32 → MM → Prop}  (h : G12_of v1 v2 μ Q) : MX l φ tc D s0 dR yX12_of cX12_of 3 (some .int) [.ref 358, .int v1, .int v2] μ (QI Q) := by
  refine MX.of (own := RX12) hG plX12 rfl (Nat.le_of_ble_eq_true rfl) (fun p e s m args below meth c C hr => ?_)
  refine x_sub [(0, .ref 358), (1, .int v1), (2, .int v2)] [0, 1, 2] rfl ?_
  unfold G12_of at h
  refine x_aload_n C rfl 0 rfl dX12_of_0 ?_
  refine x_iconst (v := 0) C (by decide) dX12_of_1 ?_
  refine x_putI C (j := 0) ob358.1 ob358.2 (Nat.le_of_ble_eq_true rfl) (Nat.le_of_ble_eq_true rfl) (Or.inl rfl) rfl rfl rfl tw_8_206 dX12_of_2 ?_
  refine x_mu (fun μ21 e_μ21 => ?_)
  have h := h μ21 e_μ21
  refine x_aload_n C rfl 0 rfl dX12_of_5 ?_
  refine x_iload_n C rfl 1 rfl dX12_of_6 ?_
  refine x_callV (dC := G12_isLetter_dep) (as := [.int v1]) (st := []) C rfl (Nat.le_trans (Nat.le_of_ble_eq_true rfl) hd) (Nat.le_of_ble_eq_true rfl) ob358.1 ob358.2 (Nat.le_of_ble_eq_true rfl) rfl ts_8_15 tw_7_1 tw_6_239 tc_7_2 tw_1_13 hyX12 hnX12_isLetter rfl (Nat.le_of_ble_eq_true rfl) dX12_of_7 (G12_isLetter_met C.2.2.2.2.2.2.2.1 (Nat.le_refl _)  h) (fun r0 μ22 hq => ?_)
  obtain ⟨r23, rfl, h⟩ := hq
  refine x_st [.int r23] rfl ?_
  refine x_if_eq (tgt := 25) C dX12_of_10 (by decide) (fun c24 => ?_) (fun c24 => ?_)
  · have h := h.1 c24
    refine x_sub [(0, .ref 358)] [0] rfl ?_
    exact G12_of_J25_ok C hd hr  h
  · have h := h.2 c24
    refine x_iload_n C rfl 2 rfl dX12_of_13 ?_
    refine x_i2l C dX12_of_14 ?_
    refine x_lconst (v := 0) C (by decide) dX12_of_15 ?_
    refine x_ldc2 (v := 8) C tw_7_3 dX12_of_16 ?_
    refine x_callS (dC := G12_in_dep) (as := [.long (v2.toInt64), .long 0, .long 8]) (st := []) C rfl (Nat.le_trans (Nat.le_of_ble_eq_true rfl) hd) (Nat.le_of_ble_eq_true rfl) tw_6_183 tw_6_182 tc_6_184 tw_1_13 hyX12 hnX12_in rfl (Nat.le_of_ble_eq_true rfl) dX12_of_19 (G12_in_met C.2.2.2.2.2.2.2.1 (Nat.le_refl _)  h) (fun r0 μ27 hq => ?_)
    obtain ⟨r28, rfl, h⟩ := hq
    refine x_st [.int r28] rfl ?_
    refine x_if_ne (tgt := 30) C dX12_of_22 (by decide) (fun c29 => ?_) (fun c29 => ?_)
    · have h := h.1 c29
      refine x_iload_n C rfl 2 rfl dX12_of_30 ?_
      by_cases c30 : v2 = 0
      · have h := h.1 c30
        refine x_tIn (tgt := 76) C dX12_of_31 (by rw [c30]; decide) (by rw [c30]; decide) (by rw [c30]; rfl) (by decide) ?_
        refine x_aload_n C rfl 0 rfl dX12_of_76 ?_
        refine x_getR (r := 367) C (j := 13) ob358.1 ob358.2 (Nat.le_of_ble_eq_true rfl) (Nat.le_of_ble_eq_true rfl) (fun _ _ _ => rfl) r_358_13 tw_8_219 dX12_of_77 ?_
        refine x_iload_n C rfl 1 rfl dX12_of_80 ?_
        obtain ⟨c31, h⟩ := h
        refine x_iald C ob367.1 ob367.2 c31 rfl dX12_of_81 ?_
        exact x_iret C hr dX12_of_82 ⟨_, rfl, h⟩
      have h := h.2
      by_cases c32 : v2 = 1
      · have h := h.1 c32
        refine x_tIn (tgt := 83) C dX12_of_31 (by rw [c32]; decide) (by rw [c32]; decide) (by rw [c32]; rfl) (by decide) ?_
        refine x_aload_n C rfl 0 rfl dX12_of_83 ?_
        refine x_getR (r := 368) C (j := 14) ob358.1 ob358.2 (Nat.le_of_ble_eq_true rfl) (Nat.le_of_ble_eq_true rfl) (fun _ _ _ => rfl) r_358_14 tw_8_220 dX12_of_84 ?_
        refine x_iload_n C rfl 1 rfl dX12_of_87 ?_
        obtain ⟨c33, h⟩ := h
        refine x_iald C ob368.1 ob368.2 c33 rfl dX12_of_88 ?_
        exact x_iret C hr dX12_of_89 ⟨_, rfl, h⟩
      have h := h.2
      by_cases c34 : v2 = 2
      · have h := h.1 c34
        refine x_tIn (tgt := 90) C dX12_of_31 (by rw [c34]; decide) (by rw [c34]; decide) (by rw [c34]; rfl) (by decide) ?_
        refine x_aload_n C rfl 0 rfl dX12_of_90 ?_
        refine x_getR (r := 369) C (j := 15) ob358.1 ob358.2 (Nat.le_of_ble_eq_true rfl) (Nat.le_of_ble_eq_true rfl) (fun _ _ _ => rfl) r_358_15 tw_8_221 dX12_of_91 ?_
        refine x_iload_n C rfl 1 rfl dX12_of_94 ?_
        obtain ⟨c35, h⟩ := h
        refine x_iald C ob369.1 ob369.2 c35 rfl dX12_of_95 ?_
        exact x_iret C hr dX12_of_96 ⟨_, rfl, h⟩
      have h := h.2
      by_cases c36 : v2 = 3
      · have h := h.1 c36
        refine x_tIn (tgt := 97) C dX12_of_31 (by rw [c36]; decide) (by rw [c36]; decide) (by rw [c36]; rfl) (by decide) ?_
        refine x_aload_n C rfl 0 rfl dX12_of_97 ?_
        refine x_getR (r := 370) C (j := 16) ob358.1 ob358.2 (Nat.le_of_ble_eq_true rfl) (Nat.le_of_ble_eq_true rfl) (fun _ _ _ => rfl) r_358_16 tw_8_222 dX12_of_98 ?_
        refine x_iload_n C rfl 1 rfl dX12_of_101 ?_
        obtain ⟨c37, h⟩ := h
        refine x_iald C ob370.1 ob370.2 c37 rfl dX12_of_102 ?_
        exact x_iret C hr dX12_of_103 ⟨_, rfl, h⟩
      have h := h.2
      by_cases c38 : v2 = 4
      · have h := h.1 c38
        refine x_tIn (tgt := 104) C dX12_of_31 (by rw [c38]; decide) (by rw [c38]; decide) (by rw [c38]; rfl) (by decide) ?_
        refine x_aload_n C rfl 0 rfl dX12_of_104 ?_
        refine x_getR (r := 371) C (j := 17) ob358.1 ob358.2 (Nat.le_of_ble_eq_true rfl) (Nat.le_of_ble_eq_true rfl) (fun _ _ _ => rfl) r_358_17 tw_8_223 dX12_of_105 ?_
        refine x_iload_n C rfl 1 rfl dX12_of_108 ?_
        obtain ⟨c39, h⟩ := h
        refine x_iald C ob371.1 ob371.2 c39 rfl dX12_of_109 ?_
        exact x_iret C hr dX12_of_110 ⟨_, rfl, h⟩
      have h := h.2
      by_cases c40 : v2 = 5
      · have h := h.1 c40
        refine x_tIn (tgt := 111) C dX12_of_31 (by rw [c40]; decide) (by rw [c40]; decide) (by rw [c40]; rfl) (by decide) ?_
        refine x_aload_n C rfl 0 rfl dX12_of_111 ?_
        refine x_getR (r := 372) C (j := 18) ob358.1 ob358.2 (Nat.le_of_ble_eq_true rfl) (Nat.le_of_ble_eq_true rfl) (fun _ _ _ => rfl) r_358_18 tw_8_224 dX12_of_112 ?_
        refine x_iload_n C rfl 1 rfl dX12_of_115 ?_
        obtain ⟨c41, h⟩ := h
        refine x_iald C ob372.1 ob372.2 c41 rfl dX12_of_116 ?_
        exact x_iret C hr dX12_of_117 ⟨_, rfl, h⟩
      have h := h.2
      by_cases c42 : v2 = 6
      · have h := h.1 c42
        refine x_tIn (tgt := 118) C dX12_of_31 (by rw [c42]; decide) (by rw [c42]; decide) (by rw [c42]; rfl) (by decide) ?_
        refine x_aload_n C rfl 0 rfl dX12_of_118 ?_
        refine x_getR (r := 373) C (j := 19) ob358.1 ob358.2 (Nat.le_of_ble_eq_true rfl) (Nat.le_of_ble_eq_true rfl) (fun _ _ _ => rfl) r_358_19 tw_8_225 dX12_of_119 ?_
        refine x_iload_n C rfl 1 rfl dX12_of_122 ?_
        obtain ⟨c43, h⟩ := h
        refine x_zald C ob373.1 ob373.2 c43 rfl dX12_of_123 ?_
        refine x_callS (dC := G12_flag_dep) (as := [.int (gI μ27 373 v1.toNatClampNeg)]) (st := []) C rfl (Nat.le_trans (Nat.le_of_ble_eq_true rfl) hd) (Nat.le_of_ble_eq_true rfl) tw_6_212 tw_6_211 tc_6_213 tw_1_13 hyX12 hnX12_flag rfl (Nat.le_of_ble_eq_true rfl) dX12_of_124 (G12_flag_met C.2.2.2.2.2.2.2.1 (Nat.le_refl _)  h) (fun r0 μ44 hq => ?_)
        obtain ⟨r45, rfl, h⟩ := hq
        refine x_st [.int r45] rfl ?_
        exact x_iret C hr dX12_of_127 ⟨_, rfl, h⟩
      have h := h.2
      by_cases c46 : v2 = 7
      · have h := h.1 c46
        refine x_tIn (tgt := 128) C dX12_of_31 (by rw [c46]; decide) (by rw [c46]; decide) (by rw [c46]; rfl) (by decide) ?_
        refine x_aload_n C rfl 0 rfl dX12_of_128 ?_
        refine x_getR (r := 374) C (j := 20) ob358.1 ob358.2 (Nat.le_of_ble_eq_true rfl) (Nat.le_of_ble_eq_true rfl) (fun _ _ _ => rfl) r_358_20 tw_8_226 dX12_of_129 ?_
        refine x_iload_n C rfl 1 rfl dX12_of_132 ?_
        obtain ⟨c47, h⟩ := h
        refine x_zald C ob374.1 ob374.2 c47 rfl dX12_of_133 ?_
        refine x_callS (dC := G12_flag_dep) (as := [.int (gI μ27 374 v1.toNatClampNeg)]) (st := []) C rfl (Nat.le_trans (Nat.le_of_ble_eq_true rfl) hd) (Nat.le_of_ble_eq_true rfl) tw_6_212 tw_6_211 tc_6_213 tw_1_13 hyX12 hnX12_flag rfl (Nat.le_of_ble_eq_true rfl) dX12_of_134 (G12_flag_met C.2.2.2.2.2.2.2.1 (Nat.le_refl _)  h) (fun r0 μ48 hq => ?_)
        obtain ⟨r49, rfl, h⟩ := hq
        refine x_st [.int r49] rfl ?_
        exact x_iret C hr dX12_of_137 ⟨_, rfl, h⟩
      have h := h.2
      have h := h c30 c32 c34 c36 c38 c40 c42 c46
      have n_c30 := lv_neT (a := 0) c30 (by decide)
      have n_c32 := lv_neT (a := 1) c32 (by decide)
      have n_c34 := lv_neT (a := 2) c34 (by decide)
      have n_c36 := lv_neT (a := 3) c36 (by decide)
      have n_c38 := lv_neT (a := 4) c38 (by decide)
      have n_c40 := lv_neT (a := 5) c40 (by decide)
      have n_c42 := lv_neT (a := 6) c42 (by decide)
      have n_c46 := lv_neT (a := 7) c46 (by decide)
      refine x_tOut (tgt := 138) C dX12_of_31 (by omega) (by decide) ?_
      refine x_aload_n C rfl 0 rfl dX12_of_138 ?_
      refine x_getR (r := 375) C (j := 21) ob358.1 ob358.2 (Nat.le_of_ble_eq_true rfl) (Nat.le_of_ble_eq_true rfl) (fun _ _ _ => rfl) r_358_21 tw_8_227 dX12_of_139 ?_
      refine x_iload_n C rfl 1 rfl dX12_of_142 ?_
      obtain ⟨c50, h⟩ := h
      refine x_iald C ob375.1 ob375.2 c50 rfl dX12_of_143 ?_
      exact x_iret C hr dX12_of_144 ⟨_, rfl, h⟩
    · have h := h.2 c29
      refine x_sub [(0, .ref 358)] [0] rfl ?_
      exact G12_of_J25_ok C hd hr  h
set_option maxHeartbeats 4000000 in
set_option maxRecDepth 100000 in
theorem G12_sign_L18_b {p : Program} {e : Env} {s : State} {m : MethodId} {args : Array Value} {below : List Frame} {meth : Method} {c : Code} {l : Launch} {φ : Nat → Nat} {tc : Nat → ClassId} {D : va_G} {s0 : State} {dR : Nat} (C : CX p s m args meth c φ tc D s0 cX12_sign RX12 3) (hd : G12_sign_dep ≤ dR) (hr : meth.sig.returnType = (some .int))  {p1 : Int32} {Q : Int32 → MM → Prop} {K18 : Int32 × MM → Prop} {x : Int32 × MM}   (hK18 : ∀ (z2 : Int32) (zμ : MM), K18 (z2, zμ) → WX p l e (rmX dR) s m args below meth c φ tc D 3 (MQ below (QX φ tc D (QI Q)) args s 0 0 (AX φ)) 18 [(0, .ref 358), (1, .int p1), (2, .int z2)] [] zμ) (h : G12_sign_L18 p1 Q K18 x) : WX p l e (rmX dR) s m args below meth c φ tc D 3 (MQ below (QX φ tc D (QI Q)) args s 0 0 (AX φ)) 18 [(0, .ref 358), (1, .int p1), (2, .int x.1)] [] x.2 := by
  unfold G12_sign_L18 at h
  refine x_iload_n C rfl 2 rfl dX12_sign_18 ?_
  refine x_iconst (v := 4) C (by decide) dX12_sign_19 ?_
  refine x_icmp_ge (tgt := 53) C dX12_sign_20 (by decide) (fun c7 => ?_) (fun c7 => ?_)
  · have h := h.1 c7
    refine x_aload_n C rfl 0 rfl dX12_sign_53 ?_
    refine x_dup C rfl dX12_sign_54 ?_
    refine x_getI C (j := 28) ob358.1 ob358.2 (Nat.le_of_ble_eq_true rfl) (Nat.le_of_ble_eq_true rfl) (Or.inl rfl) tw_8_234 dX12_sign_55 ?_
    refine x_iconst (v := 4) C (by decide) dX12_sign_58 ?_
    refine x_iadd C dX12_sign_59 ?_
    refine x_putI C (j := 28) ob358.1 ob358.2 (Nat.le_of_ble_eq_true rfl) (Nat.le_of_ble_eq_true rfl) (Or.inl rfl) rfl rfl rfl tw_8_234 dX12_sign_60 ?_
    refine x_mu (fun μ8 e_μ8 => ?_)
    have h := h μ8 e_μ8
    refine x_aload_n C rfl 0 rfl dX12_sign_63 ?_
    refine x_getI C (j := 28) ob358.1 ob358.2 (Nat.le_of_ble_eq_true rfl) (Nat.le_of_ble_eq_true rfl) (Or.inl rfl) tw_8_234 dX12_sign_64 ?_
    exact x_iret C hr dX12_sign_67 ⟨_, rfl, h⟩
  · have h := h.2 c7
    refine x_aload_n C rfl 0 rfl dX12_sign_23 ?_
    refine x_getR (r := 380) C (j := 27) ob358.1 ob358.2 (Nat.le_of_ble_eq_true rfl) (Nat.le_of_ble_eq_true rfl) (fun _ _ _ => rfl) r_358_27 tw_8_233 dX12_sign_24 ?_
    refine x_aload_n C rfl 0 rfl dX12_sign_27 ?_
    refine x_getI C (j := 28) ob358.1 ob358.2 (Nat.le_of_ble_eq_true rfl) (Nat.le_of_ble_eq_true rfl) (Or.inl rfl) tw_8_234 dX12_sign_28 ?_
    refine x_iload_n C rfl 2 rfl dX12_sign_31 ?_
    refine x_iadd C dX12_sign_32 ?_
    refine x_iload_n C rfl 1 rfl dX12_sign_33 ?_
    refine x_bipush (v := 24) C (by decide) dX12_sign_34 ?_
    refine x_bipush (v := 8) C (by decide) dX12_sign_36 ?_
    refine x_iload_n C rfl 2 rfl dX12_sign_38 ?_
    refine x_imul C dX12_sign_39 ?_
    refine x_isub C dX12_sign_40 ?_
    refine x_ishr C dX12_sign_41 ?_
    refine x_sipush (v := 255) C (by decide) dX12_sign_42 ?_
    refine x_iand C dX12_sign_45 ?_
    obtain ⟨c9, h⟩ := h
    refine x_iast C ob380.1 ob380.2 c9 rfl dX12_sign_46 ?_
    refine x_mu (fun μ10 e_μ10 => ?_)
    have h := h μ10 e_μ10
    refine x_iinc (v := (x.1 + 1)) C [(2, .int (x.1 + 1)), (0, .ref 358), (1, .int p1)] 2 rfl (congrArg (fun z => x.1 + z) (by decide : Int32.ofInt (1) = 1)) (Nat.le_of_ble_eq_true rfl) rfl dX12_sign_47 ?_
    refine x_goto (tgt := 18) C dX12_sign_50 (by decide) ?_
    refine x_sub [(0, .ref 358), (1, .int p1), (2, .int (x.1 + 1))] [1, 2, 0] rfl ?_
    exact hK18 _ _ h
theorem G12_sign_L18_ok {p : Program} {e : Env} {s : State} {m : MethodId} {args : Array Value} {below : List Frame} {meth : Method} {c : Code} {l : Launch} {φ : Nat → Nat} {tc : Nat → ClassId} {D : va_G} {s0 : State} {dR : Nat} (C : CX p s m args meth c φ tc D s0 cX12_sign RX12 3) (hd : G12_sign_dep ≤ dR) (hr : meth.sig.returnType = (some .int))  {p1 : Int32} {Q : Int32 → MM → Prop}  {x : Int32 × MM}    (h : Lp (G12_sign_L18 p1 Q) x) : WX p l e (rmX dR) s m args below meth c φ tc D 3 (MQ below (QX φ tc D (QI Q)) args s 0 0 (AX φ)) 18 [(0, .ref 358), (1, .int p1), (2, .int x.1)] [] x.2 := by
  obtain ⟨n, h⟩ := h
  induction n generalizing x with
  | zero => exact h.elim
  | succ n ih => exact G12_sign_L18_b C hd hr   (fun z2 zμ hz => by have q := ih hz; exact q) h
set_option maxHeartbeats 4000000 in
set_option maxRecDepth 100000 in
theorem G12_sign_met {l : Launch} {φ : Nat → Nat} {tc : Nat → ClassId} {D : va_G} {s0 : State} (hG : GX φ tc D s0) {dR : Nat} (hd : G12_sign_dep ≤ dR) {v1 : Int32} {μ : MM} {Q : Int32 → MM → Prop}  (h : G12_sign v1 μ Q) : MX l φ tc D s0 dR yX12_sign cX12_sign 3 (some .int) [.ref 358, .int v1] μ (QI Q) := by
  refine MX.of (own := RX12) hG plX12 rfl (Nat.le_of_ble_eq_true rfl) (fun p e s m args below meth c C hr => ?_)
  refine x_sub [(0, .ref 358), (1, .int v1)] [0, 1] rfl ?_
  unfold G12_sign at h
  refine x_aload_n C rfl 0 rfl dX12_sign_0 ?_
  refine x_iconst (v := 0) C (by decide) dX12_sign_1 ?_
  refine x_putI C (j := 0) ob358.1 ob358.2 (Nat.le_of_ble_eq_true rfl) (Nat.le_of_ble_eq_true rfl) (Or.inl rfl) rfl rfl rfl tw_8_206 dX12_sign_2 ?_
  refine x_mu (fun μ5 e_μ5 => ?_)
  have h := h μ5 e_μ5
  refine x_aload_n C rfl 0 rfl dX12_sign_5 ?_
  refine x_getI C (j := 28) ob358.1 ob358.2 (Nat.le_of_ble_eq_true rfl) (Nat.le_of_ble_eq_true rfl) (Or.inl rfl) tw_8_234 dX12_sign_6 ?_
  refine x_bipush (v := 56) C (by decide) dX12_sign_9 ?_
  refine x_icmp_le (tgt := 16) C dX12_sign_11 (by decide) (fun c6 => ?_) (fun c6 => ?_)
  · have h := h.1 c6
    refine x_iconst (v := 0) C (by decide) dX12_sign_16 ?_
    refine x_istore_n C [(2, .int 0), (0, .ref 358), (1, .int v1)] rfl (Nat.le_of_ble_eq_true rfl) rfl dX12_sign_17 ?_
    refine x_sub [(0, .ref 358), (1, .int v1), (2, .int 0)] [1, 2, 0] rfl ?_
    exact G12_sign_L18_ok C hd hr  h
  · have h := h.2 c6
    refine x_iconst (v := (-1)) C (by decide) dX12_sign_14 ?_
    exact x_iret C hr dX12_sign_15 ⟨_, rfl, h⟩
set_option maxHeartbeats 4000000 in
set_option maxRecDepth 100000 in
theorem G12_end_met {l : Launch} {φ : Nat → Nat} {tc : Nat → ClassId} {D : va_G} {s0 : State} (hG : GX φ tc D s0) {dR : Nat} (hd : G12_end_dep ≤ dR) {v1 : Int32} {μ : MM} {Q : Int32 → MM → Prop}  (h : G12_end v1 μ Q) : MX l φ tc D s0 dR yX12_end cX12_end 2 (some .boolean) [.ref 358, .int v1] μ (QI Q) := by
  refine MX.of (own := RX12) hG plX12 rfl (Nat.le_of_ble_eq_true rfl) (fun p e s m args below meth c C hr => ?_)
  refine x_sub [(0, .ref 358), (1, .int v1)] [0, 1] rfl ?_
  unfold G12_end at h
  refine x_aload_n C rfl 0 rfl dX12_end_0 ?_
  refine x_iconst (v := 0) C (by decide) dX12_end_1 ?_
  refine x_putI C (j := 0) ob358.1 ob358.2 (Nat.le_of_ble_eq_true rfl) (Nat.le_of_ble_eq_true rfl) (Or.inl rfl) rfl rfl rfl tw_8_206 dX12_end_2 ?_
  refine x_mu (fun μ5 e_μ5 => ?_)
  have h := h μ5 e_μ5
  refine x_iload_n C rfl 1 rfl dX12_end_5 ?_
  refine x_i2l C dX12_end_6 ?_
  refine x_lconst (v := 0) C (by decide) dX12_end_7 ?_
  refine x_aload_n C rfl 0 rfl dX12_end_8 ?_
  refine x_getI C (j := 28) ob358.1 ob358.2 (Nat.le_of_ble_eq_true rfl) (Nat.le_of_ble_eq_true rfl) (Or.inl rfl) tw_8_234 dX12_end_9 ?_
  refine x_i2l C dX12_end_12 ?_
  refine x_callS (dC := G12_in_dep) (as := [.long (v1.toInt64), .long 0, .long ((gI μ5 358 28).toInt64)]) (st := []) C rfl (Nat.le_trans (Nat.le_of_ble_eq_true rfl) hd) (Nat.le_of_ble_eq_true rfl) tw_6_183 tw_6_182 tc_6_184 tw_1_13 hyX12 hnX12_in rfl (Nat.le_of_ble_eq_true rfl) dX12_end_13 (G12_in_met C.2.2.2.2.2.2.2.1 (Nat.le_refl _)  h) (fun r0 μ6 hq => ?_)
  obtain ⟨r7, rfl, h⟩ := hq
  refine x_st [.int r7] rfl ?_
  refine x_if_ne (tgt := 21) C dX12_end_16 (by decide) (fun c8 => ?_) (fun c8 => ?_)
  · have h := h.1 c8
    refine x_aload_n C rfl 0 rfl dX12_end_21 ?_
    refine x_iload_n C rfl 1 rfl dX12_end_22 ?_
    refine x_putI C (j := 28) ob358.1 ob358.2 (Nat.le_of_ble_eq_true rfl) (Nat.le_of_ble_eq_true rfl) (Or.inl rfl) rfl rfl rfl tw_8_234 dX12_end_23 ?_
    refine x_mu (fun μ9 e_μ9 => ?_)
    have h := h μ9 e_μ9
    refine x_iconst (v := 1) C (by decide) dX12_end_26 ?_
    exact x_zret C hr bo_1 dX12_end_27 ⟨_, rfl, h⟩
  · have h := h.2 c8
    refine x_iconst (v := 0) C (by decide) dX12_end_19 ?_
    exact x_zret C hr bo_0 dX12_end_20 ⟨_, rfl, h⟩
set_option maxHeartbeats 4000000 in
set_option maxRecDepth 100000 in
theorem G12_isDigit_J37_ok {p : Program} {e : Env} {s : State} {m : MethodId} {args : Array Value} {below : List Frame} {meth : Method} {c : Code} {l : Launch} {φ : Nat → Nat} {tc : Nat → ClassId} {D : va_G} {s0 : State} {dR : Nat} (C : CX p s m args meth c φ tc D s0 cX12_isDigit RX12 1) (hd : G12_isDigit_dep ≤ dR) (hr : meth.sig.returnType = (some .boolean))   {Q : Int32 → MM → Prop}  {μ : MM}    (h : G12_isDigit_J37 μ Q) : WX p l e (rmX dR) s m args below meth c φ tc D 1 (MQ below (QX φ tc D (QI Q)) args s 0 0 (AX φ)) 37 [] [] μ := by
  unfold G12_isDigit_J37 at h
  refine x_iconst (v := 0) C (by decide) dX12_isDigit_37 ?_
  exact x_zret C hr bo_0 dX12_isDigit_38 ⟨_, rfl, h⟩
set_option maxHeartbeats 4000000 in
set_option maxRecDepth 100000 in
theorem G12_isDigit_met {l : Launch} {φ : Nat → Nat} {tc : Nat → ClassId} {D : va_G} {s0 : State} (hG : GX φ tc D s0) {dR : Nat} (hd : G12_isDigit_dep ≤ dR)  {μ : MM} {Q : Int32 → MM → Prop}  (h : G12_isDigit  μ Q) : MX l φ tc D s0 dR yX12_isDigit cX12_isDigit 1 (some .boolean) [.ref 358] μ (QI Q) := by
  refine MX.of (own := RX12) hG plX12 rfl (Nat.le_of_ble_eq_true rfl) (fun p e s m args below meth c C hr => ?_)
  refine x_sub [(0, .ref 358)] [0] rfl ?_
  unfold G12_isDigit at h
  refine x_aload_n C rfl 0 rfl dX12_isDigit_0 ?_
  refine x_getI C (j := 29) ob358.1 ob358.2 (Nat.le_of_ble_eq_true rfl) (Nat.le_of_ble_eq_true rfl) (Or.inl rfl) tw_8_235 dX12_isDigit_1 ?_
  refine x_aload_n C rfl 0 rfl dX12_isDigit_4 ?_
  refine x_getI C (j := 30) ob358.1 ob358.2 (Nat.le_of_ble_eq_true rfl) (Nat.le_of_ble_eq_true rfl) (Or.inl rfl) tw_8_236 dX12_isDigit_5 ?_
  refine x_icmp_ge (tgt := 37) C dX12_isDigit_8 (by decide) (fun c4 => ?_) (fun c4 => ?_)
  · have h := h.1 c4
    refine x_sub [] [] rfl ?_
    exact G12_isDigit_J37_ok C hd hr  h
  · have h := h.2 c4
    refine x_aload_n C rfl 0 rfl dX12_isDigit_11 ?_
    refine x_getR (r := 380) C (j := 27) ob358.1 ob358.2 (Nat.le_of_ble_eq_true rfl) (Nat.le_of_ble_eq_true rfl) (fun _ _ _ => rfl) r_358_27 tw_8_233 dX12_isDigit_12 ?_
    refine x_aload_n C rfl 0 rfl dX12_isDigit_15 ?_
    refine x_getI C (j := 29) ob358.1 ob358.2 (Nat.le_of_ble_eq_true rfl) (Nat.le_of_ble_eq_true rfl) (Or.inl rfl) tw_8_235 dX12_isDigit_16 ?_
    obtain ⟨c5, h⟩ := h
    refine x_iald C ob380.1 ob380.2 c5 rfl dX12_isDigit_19 ?_
    refine x_i2l C dX12_isDigit_20 ?_
    refine x_ldc2 (v := 48) C tw_7_67 dX12_isDigit_21 ?_
    refine x_ldc2 (v := 57) C tw_7_68 dX12_isDigit_24 ?_
    refine x_callS (dC := G12_in_dep) (as := [.long ((gI μ 380 ((gI μ 358 29).toNatClampNeg)).toInt64), .long 48, .long 57]) (st := []) C rfl (Nat.le_trans (Nat.le_of_ble_eq_true rfl) hd) (Nat.le_of_ble_eq_true rfl) tw_6_183 tw_6_182 tc_6_184 tw_1_13 hyX12 hnX12_in rfl (Nat.le_of_ble_eq_true rfl) dX12_isDigit_27 (G12_in_met C.2.2.2.2.2.2.2.1 (Nat.le_refl _)  h) (fun r0 μ6 hq => ?_)
    obtain ⟨r7, rfl, h⟩ := hq
    refine x_st [.int r7] rfl ?_
    refine x_if_eq (tgt := 37) C dX12_isDigit_30 (by decide) (fun c8 => ?_) (fun c8 => ?_)
    · have h := h.1 c8
      refine x_sub [] [] rfl ?_
      exact G12_isDigit_J37_ok C hd hr  h
    · have h := h.2 c8
      refine x_iconst (v := 1) C (by decide) dX12_isDigit_33 ?_
      refine x_goto (tgt := 38) C dX12_isDigit_34 (by decide) ?_
      exact x_zret C hr bo_1 dX12_isDigit_38 ⟨_, rfl, h⟩
set_option maxHeartbeats 4000000 in
set_option maxRecDepth 100000 in
theorem G12_marks_met {l : Launch} {φ : Nat → Nat} {tc : Nat → ClassId} {D : va_G} {s0 : State} (hG : GX φ tc D s0) {dR : Nat} (hd : G12_marks_dep ≤ dR) {v1 : Int32} {μ : MM} {Q : MM → Prop}  (h : G12_marks v1 μ Q) : MX l φ tc D s0 dR yX12_marks cX12_marks 2 none [.ref 358, .int v1] μ (QV Q) := by
  refine MX.of (own := RX12) hG plX12 rfl (Nat.le_of_ble_eq_true rfl) (fun p e s m args below meth c C hr => ?_)
  refine x_sub [(0, .ref 358), (1, .int v1)] [0, 1] rfl ?_
  unfold G12_marks at h
  refine x_aload_n C rfl 0 rfl dX12_marks_0 ?_
  refine x_getR (r := 377) C (j := 24) ob358.1 ob358.2 (Nat.le_of_ble_eq_true rfl) (Nat.le_of_ble_eq_true rfl) (fun _ _ _ => rfl) r_358_24 tw_8_230 dX12_marks_1 ?_
  refine x_sipush (v := 576) C (by decide) dX12_marks_4 ?_
  refine x_aload_n C rfl 0 rfl dX12_marks_7 ?_
  refine x_getR (r := 378) C (j := 25) ob358.1 ob358.2 (Nat.le_of_ble_eq_true rfl) (Nat.le_of_ble_eq_true rfl) (fun _ _ _ => rfl) r_358_25 tw_8_231 dX12_marks_8 ?_
  refine x_bipush (v := 12) C (by decide) dX12_marks_11 ?_
  refine x_iald C ob378.1 ob378.2 (by unfold vp_in; decide) (j := 12) (by decide) dX12_marks_13 ?_
  refine x_iadd C dX12_marks_14 ?_
  refine x_iload_n C rfl 1 rfl dX12_marks_15 ?_
  obtain ⟨c7, h⟩ := h
  refine x_iast C ob377.1 ob377.2 c7 rfl dX12_marks_16 ?_
  refine x_mu (fun μ8 e_μ8 => ?_)
  have h := h μ8 e_μ8
  refine x_aload_n C rfl 0 rfl dX12_marks_17 ?_
  refine x_getR (r := 378) C (j := 25) ob358.1 ob358.2 (Nat.le_of_ble_eq_true rfl) (Nat.le_of_ble_eq_true rfl) (fun _ _ _ => rfl) r_358_25 tw_8_231 dX12_marks_18 ?_
  refine x_bipush (v := 12) C (by decide) dX12_marks_21 ?_
  refine x_dup2_11 C rfl rfl dX12_marks_23 ?_
  refine x_iald C ob378.1 ob378.2 (by unfold vp_in; decide) (j := 12) (by decide) dX12_marks_24 ?_
  refine x_iconst (v := 1) C (by decide) dX12_marks_25 ?_
  refine x_iadd C dX12_marks_26 ?_
  refine x_iast C ob378.1 ob378.2 (by unfold vp_in; decide) (j := 12) (by decide) dX12_marks_27 ?_
  refine x_mu (fun μ9 e_μ9 => ?_)
  have h := h μ9 e_μ9
  exact x_vret C hr dX12_marks_28 ⟨rfl, h⟩
set_option maxHeartbeats 4000000 in
set_option maxRecDepth 100000 in
theorem G12_countsTill_L17_b {p : Program} {e : Env} {s : State} {m : MethodId} {args : Array Value} {below : List Frame} {meth : Method} {c : Code} {l : Launch} {φ : Nat → Nat} {tc : Nat → ClassId} {D : va_G} {s0 : State} {dR : Nat} (C : CX p s m args meth c φ tc D s0 cX12_countsTill RX12 3) (hd : G12_countsTill_dep ≤ dR) (hr : meth.sig.returnType = none)  {p1 : Int32} {Q : MM → Prop} {K17 : Int32 × MM → Prop} {x : Int32 × MM}   (hK17 : ∀ (z2 : Int32) (zμ : MM), K17 (z2, zμ) → WX p l e (rmX dR) s m args below meth c φ tc D 3 (MQ below (QX φ tc D (QV Q)) args s 0 0 (AX φ)) 17 [(0, .ref 358), (1, .int p1), (2, .int z2)] [] zμ) (h : G12_countsTill_L17 p1 Q K17 x) : WX p l e (rmX dR) s m args below meth c φ tc D 3 (MQ below (QX φ tc D (QV Q)) args s 0 0 (AX φ)) 17 [(0, .ref 358), (1, .int p1), (2, .int x.1)] [] x.2 := by
  unfold G12_countsTill_L17 at h
  refine x_iload_n C rfl 2 rfl dX12_countsTill_17 ?_
  refine x_aload_n C rfl 0 rfl dX12_countsTill_18 ?_
  refine x_getI C (j := 12) ob358.1 ob358.2 (Nat.le_of_ble_eq_true rfl) (Nat.le_of_ble_eq_true rfl) (Or.inl rfl) tw_8_218 dX12_countsTill_19 ?_
  refine x_icmp_ge (tgt := 95) C dX12_countsTill_22 (by decide) (fun c16 => ?_) (fun c16 => ?_)
  · have h := h.1 c16
    exact x_vret C hr dX12_countsTill_95 ⟨rfl, h⟩
  · have h := h.2 c16
    refine x_aload_n C rfl 0 rfl dX12_countsTill_25 ?_
    refine x_getR (r := 367) C (j := 13) ob358.1 ob358.2 (Nat.le_of_ble_eq_true rfl) (Nat.le_of_ble_eq_true rfl) (fun _ _ _ => rfl) r_358_13 tw_8_219 dX12_countsTill_26 ?_
    refine x_iload_n C rfl 2 rfl dX12_countsTill_29 ?_
    obtain ⟨c17, h⟩ := h
    refine x_iald C ob367.1 ob367.2 c17 rfl dX12_countsTill_30 ?_
    refine x_iload_n C rfl 1 rfl dX12_countsTill_31 ?_
    refine x_icmp_ne (tgt := 89) C dX12_countsTill_32 (by decide) (fun c18 => ?_) (fun c18 => ?_)
    · have h := h.1 c18
      refine x_iinc (v := (x.1 + 1)) C [(2, .int (x.1 + 1)), (0, .ref 358), (1, .int p1)] 2 rfl (congrArg (fun z => x.1 + z) (by decide : Int32.ofInt (1) = 1)) (Nat.le_of_ble_eq_true rfl) rfl dX12_countsTill_89 ?_
      refine x_goto (tgt := 17) C dX12_countsTill_92 (by decide) ?_
      refine x_sub [(0, .ref 358), (1, .int p1), (2, .int (x.1 + 1))] [1, 2, 0] rfl ?_
      exact hK17 _ _ h
    · have h := h.2 c18
      refine x_aload_n C rfl 0 rfl dX12_countsTill_35 ?_
      refine x_getR (r := 373) C (j := 19) ob358.1 ob358.2 (Nat.le_of_ble_eq_true rfl) (Nat.le_of_ble_eq_true rfl) (fun _ _ _ => rfl) r_358_19 tw_8_225 dX12_countsTill_36 ?_
      refine x_iload_n C rfl 2 rfl dX12_countsTill_39 ?_
      obtain ⟨c19, h⟩ := h
      refine x_zald C ob373.1 ob373.2 c19 rfl dX12_countsTill_40 ?_
      refine x_if_eq (tgt := 89) C dX12_countsTill_41 (by decide) (fun c20 => ?_) (fun c20 => ?_)
      · have h := h.1 c20
        refine x_iinc (v := (x.1 + 1)) C [(2, .int (x.1 + 1)), (0, .ref 358), (1, .int p1)] 2 rfl (congrArg (fun z => x.1 + z) (by decide : Int32.ofInt (1) = 1)) (Nat.le_of_ble_eq_true rfl) rfl dX12_countsTill_89 ?_
        refine x_goto (tgt := 17) C dX12_countsTill_92 (by decide) ?_
        refine x_sub [(0, .ref 358), (1, .int p1), (2, .int (x.1 + 1))] [1, 2, 0] rfl ?_
        exact hK17 _ _ h
      · have h := h.2 c20
        refine x_aload_n C rfl 0 rfl dX12_countsTill_44 ?_
        refine x_dup C rfl dX12_countsTill_45 ?_
        refine x_getI C (j := 33) ob358.1 ob358.2 (Nat.le_of_ble_eq_true rfl) (Nat.le_of_ble_eq_true rfl) (Or.inl rfl) tw_8_239 dX12_countsTill_46 ?_
        refine x_aload_n C rfl 0 rfl dX12_countsTill_49 ?_
        refine x_getR (r := 374) C (j := 20) ob358.1 ob358.2 (Nat.le_of_ble_eq_true rfl) (Nat.le_of_ble_eq_true rfl) (fun _ _ _ => rfl) r_358_20 tw_8_226 dX12_countsTill_50 ?_
        refine x_iload_n C rfl 2 rfl dX12_countsTill_53 ?_
        obtain ⟨c21, h⟩ := h
        refine x_zald C ob374.1 ob374.2 c21 rfl dX12_countsTill_54 ?_
        refine x_callS (dC := G12_flag_dep) (as := [.int (gI x.2 374 x.1.toNatClampNeg)]) (st := [.int (gI x.2 358 33), .ref 358]) C rfl (Nat.le_trans (Nat.le_of_ble_eq_true rfl) hd) (Nat.le_of_ble_eq_true rfl) tw_6_212 tw_6_211 tc_6_213 tw_1_13 hyX12 hnX12_flag rfl (Nat.le_of_ble_eq_true rfl) dX12_countsTill_55 (G12_flag_met C.2.2.2.2.2.2.2.1 (Nat.le_refl _)  h) (fun r0 μ22 hq => ?_)
        obtain ⟨r23, rfl, h⟩ := hq
        refine x_st [.int r23, .int (gI x.2 358 33), .ref 358] rfl ?_
        refine x_iadd C dX12_countsTill_58 ?_
        refine x_putI C (j := 33) ob358.1 ob358.2 (Nat.le_of_ble_eq_true rfl) (Nat.le_of_ble_eq_true rfl) (Or.inl rfl) rfl rfl rfl tw_8_239 dX12_countsTill_59 ?_
        refine x_mu (fun μ24 e_μ24 => ?_)
        have h := h μ24 e_μ24
        refine x_aload_n C rfl 0 rfl dX12_countsTill_62 ?_
        refine x_dup C rfl dX12_countsTill_63 ?_
        refine x_getI C (j := 34) ob358.1 ob358.2 (Nat.le_of_ble_eq_true rfl) (Nat.le_of_ble_eq_true rfl) (Or.inl rfl) tw_9_0 dX12_countsTill_64 ?_
        refine x_iconst (v := 1) C (by decide) dX12_countsTill_67 ?_
        refine x_iadd C dX12_countsTill_68 ?_
        refine x_putI C (j := 34) ob358.1 ob358.2 (Nat.le_of_ble_eq_true rfl) (Nat.le_of_ble_eq_true rfl) (Or.inl rfl) rfl rfl rfl tw_9_0 dX12_countsTill_69 ?_
        refine x_mu (fun μ25 e_μ25 => ?_)
        have h := h μ25 e_μ25
        refine x_aload_n C rfl 0 rfl dX12_countsTill_72 ?_
        refine x_aload_n C rfl 0 rfl dX12_countsTill_73 ?_
        refine x_getI C (j := 35) ob358.1 ob358.2 (Nat.le_of_ble_eq_true rfl) (Nat.le_of_ble_eq_true rfl) (Or.inl rfl) tw_9_1 dX12_countsTill_74 ?_
        refine x_aload_n C rfl 0 rfl dX12_countsTill_77 ?_
        refine x_getR (r := 369) C (j := 15) ob358.1 ob358.2 (Nat.le_of_ble_eq_true rfl) (Nat.le_of_ble_eq_true rfl) (fun _ _ _ => rfl) r_358_15 tw_8_221 dX12_countsTill_78 ?_
        refine x_iload_n C rfl 2 rfl dX12_countsTill_81 ?_
        obtain ⟨c26, h⟩ := h
        refine x_iald C ob369.1 ob369.2 c26 rfl dX12_countsTill_82 ?_
        refine x_mmax C rfl (Nat.le_trans (Nat.le_of_ble_eq_true rfl) hd) tw_7_98 tw_3_77 tw_1_20 (Nat.le_of_ble_eq_true rfl) dX12_countsTill_83 ?_
        refine x_putI C (j := 35) ob358.1 ob358.2 (Nat.le_of_ble_eq_true rfl) (Nat.le_of_ble_eq_true rfl) (Or.inl rfl) rfl rfl rfl tw_9_1 dX12_countsTill_86 ?_
        refine x_mu (fun μ27 e_μ27 => ?_)
        have h := h μ27 e_μ27
        refine x_iinc (v := (x.1 + 1)) C [(2, .int (x.1 + 1)), (0, .ref 358), (1, .int p1)] 2 rfl (congrArg (fun z => x.1 + z) (by decide : Int32.ofInt (1) = 1)) (Nat.le_of_ble_eq_true rfl) rfl dX12_countsTill_89 ?_
        refine x_goto (tgt := 17) C dX12_countsTill_92 (by decide) ?_
        refine x_sub [(0, .ref 358), (1, .int p1), (2, .int (x.1 + 1))] [1, 2, 0] rfl ?_
        exact hK17 _ _ h
theorem G12_countsTill_L17_ok {p : Program} {e : Env} {s : State} {m : MethodId} {args : Array Value} {below : List Frame} {meth : Method} {c : Code} {l : Launch} {φ : Nat → Nat} {tc : Nat → ClassId} {D : va_G} {s0 : State} {dR : Nat} (C : CX p s m args meth c φ tc D s0 cX12_countsTill RX12 3) (hd : G12_countsTill_dep ≤ dR) (hr : meth.sig.returnType = none)  {p1 : Int32} {Q : MM → Prop}  {x : Int32 × MM}    (h : Lp (G12_countsTill_L17 p1 Q) x) : WX p l e (rmX dR) s m args below meth c φ tc D 3 (MQ below (QX φ tc D (QV Q)) args s 0 0 (AX φ)) 17 [(0, .ref 358), (1, .int p1), (2, .int x.1)] [] x.2 := by
  obtain ⟨n, h⟩ := h
  induction n generalizing x with
  | zero => exact h.elim
  | succ n ih => exact G12_countsTill_L17_b C hd hr   (fun z2 zμ hz => by have q := ih hz; exact q) h
set_option maxHeartbeats 4000000 in
set_option maxRecDepth 100000 in
theorem G12_countsTill_met {l : Launch} {φ : Nat → Nat} {tc : Nat → ClassId} {D : va_G} {s0 : State} (hG : GX φ tc D s0) {dR : Nat} (hd : G12_countsTill_dep ≤ dR) {v1 : Int32} {μ : MM} {Q : MM → Prop}  (h : G12_countsTill v1 μ Q) : MX l φ tc D s0 dR yX12_countsTill cX12_countsTill 3 none [.ref 358, .int v1] μ (QV Q) := by
  refine MX.of (own := RX12) hG plX12 rfl (Nat.le_of_ble_eq_true rfl) (fun p e s m args below meth c C hr => ?_)
  refine x_sub [(0, .ref 358), (1, .int v1)] [0, 1] rfl ?_
  unfold G12_countsTill at h
  refine x_aload_n C rfl 0 rfl dX12_countsTill_0 ?_
  refine x_iconst (v := 0) C (by decide) dX12_countsTill_1 ?_
  refine x_putI C (j := 33) ob358.1 ob358.2 (Nat.le_of_ble_eq_true rfl) (Nat.le_of_ble_eq_true rfl) (Or.inl rfl) rfl rfl rfl tw_8_239 dX12_countsTill_2 ?_
  refine x_mu (fun μ13 e_μ13 => ?_)
  have h := h μ13 e_μ13
  refine x_aload_n C rfl 0 rfl dX12_countsTill_5 ?_
  refine x_iconst (v := 0) C (by decide) dX12_countsTill_6 ?_
  refine x_putI C (j := 34) ob358.1 ob358.2 (Nat.le_of_ble_eq_true rfl) (Nat.le_of_ble_eq_true rfl) (Or.inl rfl) rfl rfl rfl tw_9_0 dX12_countsTill_7 ?_
  refine x_mu (fun μ14 e_μ14 => ?_)
  have h := h μ14 e_μ14
  refine x_aload_n C rfl 0 rfl dX12_countsTill_10 ?_
  refine x_iconst (v := 0) C (by decide) dX12_countsTill_11 ?_
  refine x_putI C (j := 35) ob358.1 ob358.2 (Nat.le_of_ble_eq_true rfl) (Nat.le_of_ble_eq_true rfl) (Or.inl rfl) rfl rfl rfl tw_9_1 dX12_countsTill_12 ?_
  refine x_mu (fun μ15 e_μ15 => ?_)
  have h := h μ15 e_μ15
  refine x_iconst (v := 0) C (by decide) dX12_countsTill_15 ?_
  refine x_istore_n C [(2, .int 0), (0, .ref 358), (1, .int v1)] rfl (Nat.le_of_ble_eq_true rfl) rfl dX12_countsTill_16 ?_
  refine x_sub [(0, .ref 358), (1, .int v1), (2, .int 0)] [1, 2, 0] rfl ?_
  exact G12_countsTill_L17_ok C hd hr  h
set_option maxHeartbeats 4000000 in
set_option maxRecDepth 100000 in
theorem G12_countsNone_met {l : Launch} {φ : Nat → Nat} {tc : Nat → ClassId} {D : va_G} {s0 : State} (hG : GX φ tc D s0) {dR : Nat} (hd : G12_countsNone_dep ≤ dR)  {μ : MM} {Q : MM → Prop}  (h : G12_countsNone  μ Q) : MX l φ tc D s0 dR yX12_countsNone cX12_countsNone 1 none [.ref 358] μ (QV Q) := by
  refine MX.of (own := RX12) hG plX12 rfl (Nat.le_of_ble_eq_true rfl) (fun p e s m args below meth c C hr => ?_)
  refine x_sub [(0, .ref 358)] [0] rfl ?_
  unfold G12_countsNone at h
  refine x_aload_n C rfl 0 rfl dX12_countsNone_0 ?_
  refine x_iconst (v := 0) C (by decide) dX12_countsNone_1 ?_
  refine x_putI C (j := 33) ob358.1 ob358.2 (Nat.le_of_ble_eq_true rfl) (Nat.le_of_ble_eq_true rfl) (Or.inl rfl) rfl rfl rfl tw_8_239 dX12_countsNone_2 ?_
  refine x_mu (fun μ4 e_μ4 => ?_)
  have h := h μ4 e_μ4
  refine x_aload_n C rfl 0 rfl dX12_countsNone_5 ?_
  refine x_iconst (v := 0) C (by decide) dX12_countsNone_6 ?_
  refine x_putI C (j := 34) ob358.1 ob358.2 (Nat.le_of_ble_eq_true rfl) (Nat.le_of_ble_eq_true rfl) (Or.inl rfl) rfl rfl rfl tw_9_0 dX12_countsNone_7 ?_
  refine x_mu (fun μ5 e_μ5 => ?_)
  have h := h μ5 e_μ5
  refine x_aload_n C rfl 0 rfl dX12_countsNone_10 ?_
  refine x_iconst (v := 0) C (by decide) dX12_countsNone_11 ?_
  refine x_putI C (j := 35) ob358.1 ob358.2 (Nat.le_of_ble_eq_true rfl) (Nat.le_of_ble_eq_true rfl) (Or.inl rfl) rfl rfl rfl tw_9_1 dX12_countsNone_12 ?_
  refine x_mu (fun μ6 e_μ6 => ?_)
  have h := h μ6 e_μ6
  exact x_vret C hr dX12_countsNone_15 ⟨rfl, h⟩
set_option maxHeartbeats 4000000 in
set_option maxRecDepth 100000 in
theorem G12_valueOf_met {l : Launch} {φ : Nat → Nat} {tc : Nat → ClassId} {D : va_G} {s0 : State} (hG : GX φ tc D s0) {dR : Nat} (hd : G12_valueOf_dep ≤ dR) {v1 : Int32} {v2 : Int32} {μ : MM} {Q : Int32 → MM → Prop}  (h : G12_valueOf v1 v2 μ Q) : MX l φ tc D s0 dR yX12_valueOf cX12_valueOf 4 (some .int) [.ref 358, .int v1, .int v2] μ (QI Q) := by
  refine MX.of (own := RX12) hG plX12 rfl (Nat.le_of_ble_eq_true rfl) (fun p e s m args below meth c C hr => ?_)
  refine x_sub [(0, .ref 358), (1, .int v1), (2, .int v2)] [0, 1, 2] rfl ?_
  unfold G12_valueOf at h
  refine x_aload_n C rfl 0 rfl dX12_valueOf_0 ?_
  refine x_getR (r := 368) C (j := 14) ob358.1 ob358.2 (Nat.le_of_ble_eq_true rfl) (Nat.le_of_ble_eq_true rfl) (fun _ _ _ => rfl) r_358_14 tw_8_220 dX12_valueOf_1 ?_
  refine x_iload_n C rfl 2 rfl dX12_valueOf_4 ?_
  obtain ⟨c17, h⟩ := h
  refine x_iald C ob368.1 ob368.2 c17 rfl dX12_valueOf_5 ?_
  refine x_topi (fun y18 e_y18 => ?_)
  have h := h y18 e_y18
  refine x_istore_n C [(3, .int y18), (0, .ref 358), (1, .int v1), (2, .int v2)] rfl (Nat.le_of_ble_eq_true rfl) rfl dX12_valueOf_6 ?_
  refine x_iload_n C rfl 2 rfl dX12_valueOf_7 ?_
  refine x_sipush (v := 1000) C (by decide) dX12_valueOf_8 ?_
  refine x_isub C dX12_valueOf_11 ?_
  refine x_topi (fun y19 e_y19 => ?_)
  have h := h y19 e_y19
  by_cases c20 : y19 = 0
  · have h := h.1 c20
    refine x_tIn (tgt := 80) C dX12_valueOf_12 (by rw [c20]; decide) (by rw [c20]; decide) (by rw [c20]; rfl) (by decide) ?_
    refine x_aload_n C rfl 1 rfl dX12_valueOf_80 ?_
    refine x_getR (r := 369) C (j := 15) ob358.1 ob358.2 (Nat.le_of_ble_eq_true rfl) (Nat.le_of_ble_eq_true rfl) (fun _ _ _ => rfl) r_358_15 tw_8_221 dX12_valueOf_81 ?_
    refine x_iload_n C rfl 3 rfl dX12_valueOf_84 ?_
    obtain ⟨c21, h⟩ := h
    refine x_iald C ob369.1 ob369.2 c21 rfl dX12_valueOf_85 ?_
    exact x_iret C hr dX12_valueOf_86 ⟨_, rfl, h⟩
  have h := h.2
  by_cases c22 : y19 = 1
  · have h := h.1 c22
    refine x_tIn (tgt := 87) C dX12_valueOf_12 (by rw [c22]; decide) (by rw [c22]; decide) (by rw [c22]; rfl) (by decide) ?_
    refine x_aload_n C rfl 1 rfl dX12_valueOf_87 ?_
    refine x_getR (r := 370) C (j := 16) ob358.1 ob358.2 (Nat.le_of_ble_eq_true rfl) (Nat.le_of_ble_eq_true rfl) (fun _ _ _ => rfl) r_358_16 tw_8_222 dX12_valueOf_88 ?_
    refine x_iload_n C rfl 3 rfl dX12_valueOf_91 ?_
    obtain ⟨c23, h⟩ := h
    refine x_iald C ob370.1 ob370.2 c23 rfl dX12_valueOf_92 ?_
    exact x_iret C hr dX12_valueOf_93 ⟨_, rfl, h⟩
  have h := h.2
  by_cases c24 : y19 = 2
  · have h := h.1 c24
    refine x_tIn (tgt := 94) C dX12_valueOf_12 (by rw [c24]; decide) (by rw [c24]; decide) (by rw [c24]; rfl) (by decide) ?_
    refine x_aload_n C rfl 1 rfl dX12_valueOf_94 ?_
    refine x_getR (r := 371) C (j := 17) ob358.1 ob358.2 (Nat.le_of_ble_eq_true rfl) (Nat.le_of_ble_eq_true rfl) (fun _ _ _ => rfl) r_358_17 tw_8_223 dX12_valueOf_95 ?_
    refine x_iload_n C rfl 3 rfl dX12_valueOf_98 ?_
    obtain ⟨c25, h⟩ := h
    refine x_iald C ob371.1 ob371.2 c25 rfl dX12_valueOf_99 ?_
    exact x_iret C hr dX12_valueOf_100 ⟨_, rfl, h⟩
  have h := h.2
  by_cases c26 : y19 = 3
  · have h := h.1 c26
    refine x_tIn (tgt := 101) C dX12_valueOf_12 (by rw [c26]; decide) (by rw [c26]; decide) (by rw [c26]; rfl) (by decide) ?_
    refine x_aload_n C rfl 1 rfl dX12_valueOf_101 ?_
    refine x_getR (r := 372) C (j := 18) ob358.1 ob358.2 (Nat.le_of_ble_eq_true rfl) (Nat.le_of_ble_eq_true rfl) (fun _ _ _ => rfl) r_358_18 tw_8_224 dX12_valueOf_102 ?_
    refine x_iload_n C rfl 3 rfl dX12_valueOf_105 ?_
    obtain ⟨c27, h⟩ := h
    refine x_iald C ob372.1 ob372.2 c27 rfl dX12_valueOf_106 ?_
    exact x_iret C hr dX12_valueOf_107 ⟨_, rfl, h⟩
  have h := h.2
  by_cases c28 : y19 = 4
  · have h := h.1 c28
    refine x_tIn (tgt := 108) C dX12_valueOf_12 (by rw [c28]; decide) (by rw [c28]; decide) (by rw [c28]; rfl) (by decide) ?_
    refine x_aload_n C rfl 1 rfl dX12_valueOf_108 ?_
    refine x_getR (r := 360) C (j := 4) ob358.1 ob358.2 (Nat.le_of_ble_eq_true rfl) (Nat.le_of_ble_eq_true rfl) (fun _ _ _ => rfl) r_358_4 tw_8_210 dX12_valueOf_109 ?_
    refine x_iload_n C rfl 0 rfl dX12_valueOf_112 ?_
    obtain ⟨c29, h⟩ := h
    refine x_iald C ob360.1 ob360.2 c29 rfl dX12_valueOf_113 ?_
    exact x_iret C hr dX12_valueOf_114 ⟨_, rfl, h⟩
  have h := h.2
  by_cases c30 : y19 = 5
  · have h := h.1 c30
    refine x_tIn (tgt := 115) C dX12_valueOf_12 (by rw [c30]; decide) (by rw [c30]; decide) (by rw [c30]; rfl) (by decide) ?_
    refine x_aload_n C rfl 1 rfl dX12_valueOf_115 ?_
    refine x_getR (r := 361) C (j := 5) ob358.1 ob358.2 (Nat.le_of_ble_eq_true rfl) (Nat.le_of_ble_eq_true rfl) (fun _ _ _ => rfl) r_358_5 tw_8_211 dX12_valueOf_116 ?_
    refine x_iload_n C rfl 0 rfl dX12_valueOf_119 ?_
    obtain ⟨c31, h⟩ := h
    refine x_iald C ob361.1 ob361.2 c31 rfl dX12_valueOf_120 ?_
    exact x_iret C hr dX12_valueOf_121 ⟨_, rfl, h⟩
  have h := h.2
  by_cases c32 : y19 = 6
  · have h := h.1 c32
    refine x_tIn (tgt := 122) C dX12_valueOf_12 (by rw [c32]; decide) (by rw [c32]; decide) (by rw [c32]; rfl) (by decide) ?_
    refine x_aload_n C rfl 1 rfl dX12_valueOf_122 ?_
    refine x_getR (r := 362) C (j := 6) ob358.1 ob358.2 (Nat.le_of_ble_eq_true rfl) (Nat.le_of_ble_eq_true rfl) (fun _ _ _ => rfl) r_358_6 tw_8_212 dX12_valueOf_123 ?_
    refine x_iload_n C rfl 0 rfl dX12_valueOf_126 ?_
    obtain ⟨c33, h⟩ := h
    refine x_iald C ob362.1 ob362.2 c33 rfl dX12_valueOf_127 ?_
    exact x_iret C hr dX12_valueOf_128 ⟨_, rfl, h⟩
  have h := h.2
  by_cases c34 : y19 = 7
  · have h := h.1 c34
    refine x_tIn (tgt := 129) C dX12_valueOf_12 (by rw [c34]; decide) (by rw [c34]; decide) (by rw [c34]; rfl) (by decide) ?_
    refine x_aload_n C rfl 1 rfl dX12_valueOf_129 ?_
    refine x_getR (r := 363) C (j := 7) ob358.1 ob358.2 (Nat.le_of_ble_eq_true rfl) (Nat.le_of_ble_eq_true rfl) (fun _ _ _ => rfl) r_358_7 tw_8_213 dX12_valueOf_130 ?_
    refine x_iload_n C rfl 0 rfl dX12_valueOf_133 ?_
    obtain ⟨c35, h⟩ := h
    refine x_iald C ob363.1 ob363.2 c35 rfl dX12_valueOf_134 ?_
    exact x_iret C hr dX12_valueOf_135 ⟨_, rfl, h⟩
  have h := h.2
  by_cases c36 : y19 = 8
  · have h := h.1 c36
    refine x_tIn (tgt := 136) C dX12_valueOf_12 (by rw [c36]; decide) (by rw [c36]; decide) (by rw [c36]; rfl) (by decide) ?_
    refine x_aload_n C rfl 1 rfl dX12_valueOf_136 ?_
    refine x_getR (r := 364) C (j := 9) ob358.1 ob358.2 (Nat.le_of_ble_eq_true rfl) (Nat.le_of_ble_eq_true rfl) (fun _ _ _ => rfl) r_358_9 tw_8_215 dX12_valueOf_137 ?_
    refine x_aload_n C rfl 1 rfl dX12_valueOf_140 ?_
    refine x_getR (r := 367) C (j := 13) ob358.1 ob358.2 (Nat.le_of_ble_eq_true rfl) (Nat.le_of_ble_eq_true rfl) (fun _ _ _ => rfl) r_358_13 tw_8_219 dX12_valueOf_141 ?_
    refine x_iload_n C rfl 3 rfl dX12_valueOf_144 ?_
    obtain ⟨c37, h⟩ := h
    refine x_iald C ob367.1 ob367.2 c37 rfl dX12_valueOf_145 ?_
    obtain ⟨c38, h⟩ := h
    refine x_iald C ob364.1 ob364.2 c38 rfl dX12_valueOf_146 ?_
    exact x_iret C hr dX12_valueOf_147 ⟨_, rfl, h⟩
  have h := h.2
  by_cases c39 : y19 = 9
  · have h := h.1 c39
    refine x_tIn (tgt := 148) C dX12_valueOf_12 (by rw [c39]; decide) (by rw [c39]; decide) (by rw [c39]; rfl) (by decide) ?_
    refine x_aload_n C rfl 1 rfl dX12_valueOf_148 ?_
    refine x_getR (r := 365) C (j := 10) ob358.1 ob358.2 (Nat.le_of_ble_eq_true rfl) (Nat.le_of_ble_eq_true rfl) (fun _ _ _ => rfl) r_358_10 tw_8_216 dX12_valueOf_149 ?_
    refine x_aload_n C rfl 1 rfl dX12_valueOf_152 ?_
    refine x_getR (r := 367) C (j := 13) ob358.1 ob358.2 (Nat.le_of_ble_eq_true rfl) (Nat.le_of_ble_eq_true rfl) (fun _ _ _ => rfl) r_358_13 tw_8_219 dX12_valueOf_153 ?_
    refine x_iload_n C rfl 3 rfl dX12_valueOf_156 ?_
    obtain ⟨c40, h⟩ := h
    refine x_iald C ob367.1 ob367.2 c40 rfl dX12_valueOf_157 ?_
    obtain ⟨c41, h⟩ := h
    refine x_iald C ob365.1 ob365.2 c41 rfl dX12_valueOf_158 ?_
    exact x_iret C hr dX12_valueOf_159 ⟨_, rfl, h⟩
  have h := h.2
  by_cases c42 : y19 = 10
  · have h := h.1 c42
    refine x_tIn (tgt := 160) C dX12_valueOf_12 (by rw [c42]; decide) (by rw [c42]; decide) (by rw [c42]; rfl) (by decide) ?_
    refine x_aload_n C rfl 1 rfl dX12_valueOf_160 ?_
    refine x_getI C (j := 33) ob358.1 ob358.2 (Nat.le_of_ble_eq_true rfl) (Nat.le_of_ble_eq_true rfl) (Or.inl rfl) tw_8_239 dX12_valueOf_161 ?_
    exact x_iret C hr dX12_valueOf_164 ⟨_, rfl, h⟩
  have h := h.2
  by_cases c43 : y19 = 11
  · have h := h.1 c43
    refine x_tIn (tgt := 165) C dX12_valueOf_12 (by rw [c43]; decide) (by rw [c43]; decide) (by rw [c43]; rfl) (by decide) ?_
    refine x_aload_n C rfl 1 rfl dX12_valueOf_165 ?_
    refine x_getI C (j := 34) ob358.1 ob358.2 (Nat.le_of_ble_eq_true rfl) (Nat.le_of_ble_eq_true rfl) (Or.inl rfl) tw_9_0 dX12_valueOf_166 ?_
    exact x_iret C hr dX12_valueOf_169 ⟨_, rfl, h⟩
  have h := h.2
  by_cases c44 : y19 = 12
  · have h := h.1 c44
    refine x_tIn (tgt := 170) C dX12_valueOf_12 (by rw [c44]; decide) (by rw [c44]; decide) (by rw [c44]; rfl) (by decide) ?_
    refine x_aload_n C rfl 1 rfl dX12_valueOf_170 ?_
    refine x_getI C (j := 35) ob358.1 ob358.2 (Nat.le_of_ble_eq_true rfl) (Nat.le_of_ble_eq_true rfl) (Or.inl rfl) tw_9_1 dX12_valueOf_171 ?_
    exact x_iret C hr dX12_valueOf_174 ⟨_, rfl, h⟩
  have h := h.2
  have h := h c20 c22 c24 c26 c28 c30 c32 c34 c36 c39 c42 c43 c44
  have n_c20 := lv_neT (a := 0) c20 (by decide)
  have n_c22 := lv_neT (a := 1) c22 (by decide)
  have n_c24 := lv_neT (a := 2) c24 (by decide)
  have n_c26 := lv_neT (a := 3) c26 (by decide)
  have n_c28 := lv_neT (a := 4) c28 (by decide)
  have n_c30 := lv_neT (a := 5) c30 (by decide)
  have n_c32 := lv_neT (a := 6) c32 (by decide)
  have n_c34 := lv_neT (a := 7) c34 (by decide)
  have n_c36 := lv_neT (a := 8) c36 (by decide)
  have n_c39 := lv_neT (a := 9) c39 (by decide)
  have n_c42 := lv_neT (a := 10) c42 (by decide)
  have n_c43 := lv_neT (a := 11) c43 (by decide)
  have n_c44 := lv_neT (a := 12) c44 (by decide)
  refine x_tOut (tgt := 175) C dX12_valueOf_12 (by omega) (by decide) ?_
  refine x_aload_n C rfl 1 rfl dX12_valueOf_175 ?_
  refine x_getR (r := 374) C (j := 20) ob358.1 ob358.2 (Nat.le_of_ble_eq_true rfl) (Nat.le_of_ble_eq_true rfl) (fun _ _ _ => rfl) r_358_20 tw_8_226 dX12_valueOf_176 ?_
  refine x_iload_n C rfl 3 rfl dX12_valueOf_179 ?_
  obtain ⟨c45, h⟩ := h
  refine x_zald C ob374.1 ob374.2 c45 rfl dX12_valueOf_180 ?_
  refine x_callS (dC := G12_flag_dep) (as := [.int (gI μ 374 v2.toNatClampNeg)]) (st := []) C rfl (Nat.le_trans (Nat.le_of_ble_eq_true rfl) hd) (Nat.le_of_ble_eq_true rfl) tw_6_212 tw_6_211 tc_6_213 tw_1_13 hyX12 hnX12_flag rfl (Nat.le_of_ble_eq_true rfl) dX12_valueOf_181 (G12_flag_met C.2.2.2.2.2.2.2.1 (Nat.le_refl _)  h) (fun r0 μ46 hq => ?_)
  obtain ⟨r47, rfl, h⟩ := hq
  refine x_st [.int r47] rfl ?_
  exact x_iret C hr dX12_valueOf_184 ⟨_, rfl, h⟩
set_option maxHeartbeats 4000000 in
set_option maxRecDepth 100000 in
theorem G12_acted_J183_ok {p : Program} {e : Env} {s : State} {m : MethodId} {args : Array Value} {below : List Frame} {meth : Method} {c : Code} {l : Launch} {φ : Nat → Nat} {tc : Nat → ClassId} {D : va_G} {s0 : State} {dR : Nat} (C : CX p s m args meth c φ tc D s0 cX12_acted RX12 3) (hd : G12_acted_dep ≤ dR) (hr : meth.sig.returnType = (some .int))  {q0 : Int32} {Q : Int32 → MM → Prop}  {μ : MM}    (h : G12_acted_J183 q0 μ Q) : WX p l e (rmX dR) s m args below meth c φ tc D 3 (MQ below (QX φ tc D (QI Q)) args s 0 0 (AX φ)) 183 [] [.int q0] μ := by
  unfold G12_acted_J183 at h
  refine x_callS (dC := G12_flag_dep) (as := [.int q0]) (st := []) C rfl (Nat.le_trans (Nat.le_of_ble_eq_true rfl) hd) (Nat.le_of_ble_eq_true rfl) tw_6_212 tw_6_211 tc_6_213 tw_1_13 hyX12 hnX12_flag rfl (Nat.le_of_ble_eq_true rfl) dX12_acted_183 (G12_flag_met C.2.2.2.2.2.2.2.1 (Nat.le_refl _)  h) (fun r0 μ13 hq => ?_)
  obtain ⟨r14, rfl, h⟩ := hq
  refine x_st [.int r14] rfl ?_
  exact x_iret C hr dX12_acted_186 ⟨_, rfl, h⟩
set_option maxHeartbeats 4000000 in
set_option maxRecDepth 100000 in
theorem G12_acted_J182_ok {p : Program} {e : Env} {s : State} {m : MethodId} {args : Array Value} {below : List Frame} {meth : Method} {c : Code} {l : Launch} {φ : Nat → Nat} {tc : Nat → ClassId} {D : va_G} {s0 : State} {dR : Nat} (C : CX p s m args meth c φ tc D s0 cX12_acted RX12 3) (hd : G12_acted_dep ≤ dR) (hr : meth.sig.returnType = (some .int))   {Q : Int32 → MM → Prop}  {μ : MM}    (h : G12_acted_J182 μ Q) : WX p l e (rmX dR) s m args below meth c φ tc D 3 (MQ below (QX φ tc D (QI Q)) args s 0 0 (AX φ)) 182 [] [] μ := by
  unfold G12_acted_J182 at h
  refine x_iconst (v := 0) C (by decide) dX12_acted_182 ?_
  exact G12_acted_J183_ok C hd hr  h
set_option maxHeartbeats 4000000 in
set_option maxRecDepth 100000 in
theorem G12_acted_J138_ok {p : Program} {e : Env} {s : State} {m : MethodId} {args : Array Value} {below : List Frame} {meth : Method} {c : Code} {l : Launch} {φ : Nat → Nat} {tc : Nat → ClassId} {D : va_G} {s0 : State} {dR : Nat} (C : CX p s m args meth c φ tc D s0 cX12_acted RX12 3) (hd : G12_acted_dep ≤ dR) (hr : meth.sig.returnType = (some .int))  {q0 : Int32} {Q : Int32 → MM → Prop}  {μ : MM}    (h : G12_acted_J138 q0 μ Q) : WX p l e (rmX dR) s m args below meth c φ tc D 3 (MQ below (QX φ tc D (QI Q)) args s 0 0 (AX φ)) 138 [] [.int q0] μ := by
  unfold G12_acted_J138 at h
  refine x_callS (dC := G12_flag_dep) (as := [.int q0]) (st := []) C rfl (Nat.le_trans (Nat.le_of_ble_eq_true rfl) hd) (Nat.le_of_ble_eq_true rfl) tw_6_212 tw_6_211 tc_6_213 tw_1_13 hyX12 hnX12_flag rfl (Nat.le_of_ble_eq_true rfl) dX12_acted_138 (G12_flag_met C.2.2.2.2.2.2.2.1 (Nat.le_refl _)  h) (fun r0 μ21 hq => ?_)
  obtain ⟨r22, rfl, h⟩ := hq
  refine x_st [.int r22] rfl ?_
  exact x_iret C hr dX12_acted_141 ⟨_, rfl, h⟩
set_option maxHeartbeats 4000000 in
set_option maxRecDepth 100000 in
theorem G12_acted_J166_ok {p : Program} {e : Env} {s : State} {m : MethodId} {args : Array Value} {below : List Frame} {meth : Method} {c : Code} {l : Launch} {φ : Nat → Nat} {tc : Nat → ClassId} {D : va_G} {s0 : State} {dR : Nat} (C : CX p s m args meth c φ tc D s0 cX12_acted RX12 3) (hd : G12_acted_dep ≤ dR) (hr : meth.sig.returnType = (some .int))  {q0 : Int32} {Q : Int32 → MM → Prop}  {μ : MM}    (h : G12_acted_J166 q0 μ Q) : WX p l e (rmX dR) s m args below meth c φ tc D 3 (MQ below (QX φ tc D (QI Q)) args s 0 0 (AX φ)) 166 [] [.int q0] μ := by
  unfold G12_acted_J166 at h
  refine x_callS (dC := G12_flag_dep) (as := [.int q0]) (st := []) C rfl (Nat.le_trans (Nat.le_of_ble_eq_true rfl) hd) (Nat.le_of_ble_eq_true rfl) tw_6_212 tw_6_211 tc_6_213 tw_1_13 hyX12 hnX12_flag rfl (Nat.le_of_ble_eq_true rfl) dX12_acted_166 (G12_flag_met C.2.2.2.2.2.2.2.1 (Nat.le_refl _)  h) (fun r0 μ25 hq => ?_)
  obtain ⟨r26, rfl, h⟩ := hq
  refine x_st [.int r26] rfl ?_
  exact x_iret C hr dX12_acted_169 ⟨_, rfl, h⟩
set_option maxHeartbeats 4000000 in
set_option maxRecDepth 100000 in
theorem G12_acted_J152_ok {p : Program} {e : Env} {s : State} {m : MethodId} {args : Array Value} {below : List Frame} {meth : Method} {c : Code} {l : Launch} {φ : Nat → Nat} {tc : Nat → ClassId} {D : va_G} {s0 : State} {dR : Nat} (C : CX p s m args meth c φ tc D s0 cX12_acted RX12 3) (hd : G12_acted_dep ≤ dR) (hr : meth.sig.returnType = (some .int))  {q0 : Int32} {Q : Int32 → MM → Prop}  {μ : MM}    (h : G12_acted_J152 q0 μ Q) : WX p l e (rmX dR) s m args below meth c φ tc D 3 (MQ below (QX φ tc D (QI Q)) args s 0 0 (AX φ)) 152 [] [.int q0] μ := by
  unfold G12_acted_J152 at h
  refine x_callS (dC := G12_flag_dep) (as := [.int q0]) (st := []) C rfl (Nat.le_trans (Nat.le_of_ble_eq_true rfl) hd) (Nat.le_of_ble_eq_true rfl) tw_6_212 tw_6_211 tc_6_213 tw_1_13 hyX12 hnX12_flag rfl (Nat.le_of_ble_eq_true rfl) dX12_acted_152 (G12_flag_met C.2.2.2.2.2.2.2.1 (Nat.le_refl _)  h) (fun r0 μ29 hq => ?_)
  obtain ⟨r30, rfl, h⟩ := hq
  refine x_st [.int r30] rfl ?_
  exact x_iret C hr dX12_acted_155 ⟨_, rfl, h⟩
set_option maxHeartbeats 4000000 in
set_option maxRecDepth 100000 in
theorem G12_acted_J200_ok {p : Program} {e : Env} {s : State} {m : MethodId} {args : Array Value} {below : List Frame} {meth : Method} {c : Code} {l : Launch} {φ : Nat → Nat} {tc : Nat → ClassId} {D : va_G} {s0 : State} {dR : Nat} (C : CX p s m args meth c φ tc D s0 cX12_acted RX12 3) (hd : G12_acted_dep ≤ dR) (hr : meth.sig.returnType = (some .int))  {q0 : Int32} {Q : Int32 → MM → Prop}  {μ : MM}    (h : G12_acted_J200 q0 μ Q) : WX p l e (rmX dR) s m args below meth c φ tc D 3 (MQ below (QX φ tc D (QI Q)) args s 0 0 (AX φ)) 200 [] [.int q0] μ := by
  unfold G12_acted_J200 at h
  refine x_callS (dC := G12_flag_dep) (as := [.int q0]) (st := []) C rfl (Nat.le_trans (Nat.le_of_ble_eq_true rfl) hd) (Nat.le_of_ble_eq_true rfl) tw_6_212 tw_6_211 tc_6_213 tw_1_13 hyX12 hnX12_flag rfl (Nat.le_of_ble_eq_true rfl) dX12_acted_200 (G12_flag_met C.2.2.2.2.2.2.2.1 (Nat.le_refl _)  h) (fun r0 μ32 hq => ?_)
  obtain ⟨r33, rfl, h⟩ := hq
  refine x_st [.int r33] rfl ?_
  exact x_iret C hr dX12_acted_203 ⟨_, rfl, h⟩
set_option maxHeartbeats 4000000 in
set_option maxRecDepth 100000 in
theorem G12_acted_J195_ok {p : Program} {e : Env} {s : State} {m : MethodId} {args : Array Value} {below : List Frame} {meth : Method} {c : Code} {l : Launch} {φ : Nat → Nat} {tc : Nat → ClassId} {D : va_G} {s0 : State} {dR : Nat} (C : CX p s m args meth c φ tc D s0 cX12_acted RX12 3) (hd : G12_acted_dep ≤ dR) (hr : meth.sig.returnType = (some .int))   {Q : Int32 → MM → Prop}  {μ : MM}    (h : G12_acted_J195 μ Q) : WX p l e (rmX dR) s m args below meth c φ tc D 3 (MQ below (QX φ tc D (QI Q)) args s 0 0 (AX φ)) 195 [] [] μ := by
  unfold G12_acted_J195 at h
  refine x_iconst (v := 1) C (by decide) dX12_acted_195 ?_
  refine x_goto (tgt := 200) C dX12_acted_196 (by decide) ?_
  exact G12_acted_J200_ok C hd hr  h
set_option maxHeartbeats 4000000 in
set_option maxRecDepth 100000 in
theorem G12_acted_met {l : Launch} {φ : Nat → Nat} {tc : Nat → ClassId} {D : va_G} {s0 : State} (hG : GX φ tc D s0) {dR : Nat} (hd : G12_acted_dep ≤ dR) {v0 : Int32} {v1 : Int32} {v2 : Int32} {μ : MM} {Q : Int32 → MM → Prop}  (h : G12_acted v0 v1 v2 μ Q) : MX l φ tc D s0 dR yX12_acted cX12_acted 3 (some .int) [.int v0, .int v1, .int v2] μ (QI Q) := by
  refine MX.of (own := RX12) hG plX12 rfl (Nat.le_of_ble_eq_true rfl) (fun p e s m args below meth c C hr => ?_)
  refine x_sub [(0, .int v0), (1, .int v1), (2, .int v2)] [0, 1, 2] rfl ?_
  unfold G12_acted at h
  refine x_iload_n C rfl 0 rfl dX12_acted_0 ?_
  by_cases c11 : v0 = 38
  · have h := h.1 c11
    refine x_tIn (tgt := 170) C dX12_acted_1 (by rw [c11]; decide) (by rw [c11]; decide) (by rw [c11]; rfl) (by decide) ?_
    refine x_iload_n C rfl 1 rfl dX12_acted_170 ?_
    refine x_if_eq (tgt := 182) C dX12_acted_171 (by decide) (fun c12 => ?_) (fun c12 => ?_)
    · have h := h.1 c12
      refine x_sub [] [] rfl ?_
      exact G12_acted_J182_ok C hd hr  h
    · have h := h.2 c12
      refine x_iload_n C rfl 2 rfl dX12_acted_174 ?_
      refine x_if_eq (tgt := 182) C dX12_acted_175 (by decide) (fun c15 => ?_) (fun c15 => ?_)
      · have h := h.1 c15
        refine x_sub [] [] rfl ?_
        exact G12_acted_J182_ok C hd hr  h
      · have h := h.2 c15
        refine x_iconst (v := 1) C (by decide) dX12_acted_178 ?_
        refine x_goto (tgt := 183) C dX12_acted_179 (by decide) ?_
        refine x_sub [] [] rfl ?_
        exact G12_acted_J183_ok C hd hr  h
  have h := h.2
  by_cases c16 : v0 = 42
  · have h := h.1 c16
    refine x_tIn (tgt := 124) C dX12_acted_1 (by rw [c16]; decide) (by rw [c16]; decide) (by rw [c16]; rfl) (by decide) ?_
    refine x_iload_n C rfl 1 rfl dX12_acted_124 ?_
    refine x_iload_n C rfl 2 rfl dX12_acted_125 ?_
    refine x_imul C dX12_acted_126 ?_
    exact x_iret C hr dX12_acted_127 ⟨_, rfl, h⟩
  have h := h.2
  by_cases c17 : v0 = 43
  · have h := h.1 c17
    refine x_tIn (tgt := 116) C dX12_acted_1 (by rw [c17]; decide) (by rw [c17]; decide) (by rw [c17]; rfl) (by decide) ?_
    refine x_iload_n C rfl 1 rfl dX12_acted_116 ?_
    refine x_iload_n C rfl 2 rfl dX12_acted_117 ?_
    refine x_iadd C dX12_acted_118 ?_
    exact x_iret C hr dX12_acted_119 ⟨_, rfl, h⟩
  have h := h.2
  by_cases c18 : v0 = 45
  · have h := h.1 c18
    refine x_tIn (tgt := 120) C dX12_acted_1 (by rw [c18]; decide) (by rw [c18]; decide) (by rw [c18]; rfl) (by decide) ?_
    refine x_iload_n C rfl 1 rfl dX12_acted_120 ?_
    refine x_iload_n C rfl 2 rfl dX12_acted_121 ?_
    refine x_isub C dX12_acted_122 ?_
    exact x_iret C hr dX12_acted_123 ⟨_, rfl, h⟩
  have h := h.2
  by_cases c19 : v0 = 60
  · have h := h.1 c19
    refine x_tIn (tgt := 128) C dX12_acted_1 (by rw [c19]; decide) (by rw [c19]; decide) (by rw [c19]; rfl) (by decide) ?_
    refine x_iload_n C rfl 1 rfl dX12_acted_128 ?_
    refine x_iload_n C rfl 2 rfl dX12_acted_129 ?_
    refine x_icmp_ge (tgt := 137) C dX12_acted_130 (by decide) (fun c20 => ?_) (fun c20 => ?_)
    · have h := h.1 c20
      refine x_iconst (v := 0) C (by decide) dX12_acted_137 ?_
      refine x_sub [] [] rfl ?_
      exact G12_acted_J138_ok C hd hr  h
    · have h := h.2 c20
      refine x_iconst (v := 1) C (by decide) dX12_acted_133 ?_
      refine x_goto (tgt := 138) C dX12_acted_134 (by decide) ?_
      refine x_sub [] [] rfl ?_
      exact G12_acted_J138_ok C hd hr  h
  have h := h.2
  by_cases c23 : v0 = 61
  · have h := h.1 c23
    refine x_tIn (tgt := 156) C dX12_acted_1 (by rw [c23]; decide) (by rw [c23]; decide) (by rw [c23]; rfl) (by decide) ?_
    refine x_iload_n C rfl 1 rfl dX12_acted_156 ?_
    refine x_iload_n C rfl 2 rfl dX12_acted_157 ?_
    refine x_icmp_ne (tgt := 165) C dX12_acted_158 (by decide) (fun c24 => ?_) (fun c24 => ?_)
    · have h := h.1 c24
      refine x_iconst (v := 0) C (by decide) dX12_acted_165 ?_
      refine x_sub [] [] rfl ?_
      exact G12_acted_J166_ok C hd hr  h
    · have h := h.2 c24
      refine x_iconst (v := 1) C (by decide) dX12_acted_161 ?_
      refine x_goto (tgt := 166) C dX12_acted_162 (by decide) ?_
      refine x_sub [] [] rfl ?_
      exact G12_acted_J166_ok C hd hr  h
  have h := h.2
  by_cases c27 : v0 = 62
  · have h := h.1 c27
    refine x_tIn (tgt := 142) C dX12_acted_1 (by rw [c27]; decide) (by rw [c27]; decide) (by rw [c27]; rfl) (by decide) ?_
    refine x_iload_n C rfl 1 rfl dX12_acted_142 ?_
    refine x_iload_n C rfl 2 rfl dX12_acted_143 ?_
    refine x_icmp_le (tgt := 151) C dX12_acted_144 (by decide) (fun c28 => ?_) (fun c28 => ?_)
    · have h := h.1 c28
      refine x_iconst (v := 0) C (by decide) dX12_acted_151 ?_
      refine x_sub [] [] rfl ?_
      exact G12_acted_J152_ok C hd hr  h
    · have h := h.2 c28
      refine x_iconst (v := 1) C (by decide) dX12_acted_147 ?_
      refine x_goto (tgt := 152) C dX12_acted_148 (by decide) ?_
      refine x_sub [] [] rfl ?_
      exact G12_acted_J152_ok C hd hr  h
  have h := h.2
  have h := h c11 c16 c17 c18 c19 c23 c27
  have n_c11 := lv_neT (a := 38) c11 (by decide)
  have n_c16 := lv_neT (a := 42) c16 (by decide)
  have n_c17 := lv_neT (a := 43) c17 (by decide)
  have n_c18 := lv_neT (a := 45) c18 (by decide)
  have n_c19 := lv_neT (a := 60) c19 (by decide)
  have n_c23 := lv_neT (a := 61) c23 (by decide)
  have n_c27 := lv_neT (a := 62) c27 (by decide)
  by_cases c35 : v0 = 39
  · refine x_tIn (tgt := 187) C dX12_acted_1 (by rw [c35]; decide) (by rw [c35]; decide) (by rw [c35]; rfl) (by decide) ?_
    refine x_iload_n C rfl 1 rfl dX12_acted_187 ?_
    refine x_if_ne (tgt := 195) C dX12_acted_188 (by decide) (fun c31 => ?_) (fun c31 => ?_)
    · have h := h.1 c31
      refine x_sub [] [] rfl ?_
      exact G12_acted_J195_ok C hd hr  h
    · have h := h.2 c31
      refine x_iload_n C rfl 2 rfl dX12_acted_191 ?_
      refine x_if_eq (tgt := 199) C dX12_acted_192 (by decide) (fun c34 => ?_) (fun c34 => ?_)
      · have h := h.1 c34
        refine x_iconst (v := 0) C (by decide) dX12_acted_199 ?_
        refine x_sub [] [] rfl ?_
        exact G12_acted_J200_ok C hd hr  h
      · have h := h.2 c34
        refine x_sub [] [] rfl ?_
        exact G12_acted_J195_ok C hd hr  h
  have n_c35 := lv_neT (a := 39) c35 (by decide)
  by_cases c36 : v0 = 40
  · refine x_tIn (tgt := 187) C dX12_acted_1 (by rw [c36]; decide) (by rw [c36]; decide) (by rw [c36]; rfl) (by decide) ?_
    refine x_iload_n C rfl 1 rfl dX12_acted_187 ?_
    refine x_if_ne (tgt := 195) C dX12_acted_188 (by decide) (fun c31 => ?_) (fun c31 => ?_)
    · have h := h.1 c31
      refine x_sub [] [] rfl ?_
      exact G12_acted_J195_ok C hd hr  h
    · have h := h.2 c31
      refine x_iload_n C rfl 2 rfl dX12_acted_191 ?_
      refine x_if_eq (tgt := 199) C dX12_acted_192 (by decide) (fun c34 => ?_) (fun c34 => ?_)
      · have h := h.1 c34
        refine x_iconst (v := 0) C (by decide) dX12_acted_199 ?_
        refine x_sub [] [] rfl ?_
        exact G12_acted_J200_ok C hd hr  h
      · have h := h.2 c34
        refine x_sub [] [] rfl ?_
        exact G12_acted_J195_ok C hd hr  h
  have n_c36 := lv_neT (a := 40) c36 (by decide)
  by_cases c37 : v0 = 41
  · refine x_tIn (tgt := 187) C dX12_acted_1 (by rw [c37]; decide) (by rw [c37]; decide) (by rw [c37]; rfl) (by decide) ?_
    refine x_iload_n C rfl 1 rfl dX12_acted_187 ?_
    refine x_if_ne (tgt := 195) C dX12_acted_188 (by decide) (fun c31 => ?_) (fun c31 => ?_)
    · have h := h.1 c31
      refine x_sub [] [] rfl ?_
      exact G12_acted_J195_ok C hd hr  h
    · have h := h.2 c31
      refine x_iload_n C rfl 2 rfl dX12_acted_191 ?_
      refine x_if_eq (tgt := 199) C dX12_acted_192 (by decide) (fun c34 => ?_) (fun c34 => ?_)
      · have h := h.1 c34
        refine x_iconst (v := 0) C (by decide) dX12_acted_199 ?_
        refine x_sub [] [] rfl ?_
        exact G12_acted_J200_ok C hd hr  h
      · have h := h.2 c34
        refine x_sub [] [] rfl ?_
        exact G12_acted_J195_ok C hd hr  h
  have n_c37 := lv_neT (a := 41) c37 (by decide)
  by_cases c38 : v0 = 44
  · refine x_tIn (tgt := 187) C dX12_acted_1 (by rw [c38]; decide) (by rw [c38]; decide) (by rw [c38]; rfl) (by decide) ?_
    refine x_iload_n C rfl 1 rfl dX12_acted_187 ?_
    refine x_if_ne (tgt := 195) C dX12_acted_188 (by decide) (fun c31 => ?_) (fun c31 => ?_)
    · have h := h.1 c31
      refine x_sub [] [] rfl ?_
      exact G12_acted_J195_ok C hd hr  h
    · have h := h.2 c31
      refine x_iload_n C rfl 2 rfl dX12_acted_191 ?_
      refine x_if_eq (tgt := 199) C dX12_acted_192 (by decide) (fun c34 => ?_) (fun c34 => ?_)
      · have h := h.1 c34
        refine x_iconst (v := 0) C (by decide) dX12_acted_199 ?_
        refine x_sub [] [] rfl ?_
        exact G12_acted_J200_ok C hd hr  h
      · have h := h.2 c34
        refine x_sub [] [] rfl ?_
        exact G12_acted_J195_ok C hd hr  h
  have n_c38 := lv_neT (a := 44) c38 (by decide)
  by_cases c39 : v0 = 46
  · refine x_tIn (tgt := 187) C dX12_acted_1 (by rw [c39]; decide) (by rw [c39]; decide) (by rw [c39]; rfl) (by decide) ?_
    refine x_iload_n C rfl 1 rfl dX12_acted_187 ?_
    refine x_if_ne (tgt := 195) C dX12_acted_188 (by decide) (fun c31 => ?_) (fun c31 => ?_)
    · have h := h.1 c31
      refine x_sub [] [] rfl ?_
      exact G12_acted_J195_ok C hd hr  h
    · have h := h.2 c31
      refine x_iload_n C rfl 2 rfl dX12_acted_191 ?_
      refine x_if_eq (tgt := 199) C dX12_acted_192 (by decide) (fun c34 => ?_) (fun c34 => ?_)
      · have h := h.1 c34
        refine x_iconst (v := 0) C (by decide) dX12_acted_199 ?_
        refine x_sub [] [] rfl ?_
        exact G12_acted_J200_ok C hd hr  h
      · have h := h.2 c34
        refine x_sub [] [] rfl ?_
        exact G12_acted_J195_ok C hd hr  h
  have n_c39 := lv_neT (a := 46) c39 (by decide)
  by_cases c40 : v0 = 47
  · refine x_tIn (tgt := 187) C dX12_acted_1 (by rw [c40]; decide) (by rw [c40]; decide) (by rw [c40]; rfl) (by decide) ?_
    refine x_iload_n C rfl 1 rfl dX12_acted_187 ?_
    refine x_if_ne (tgt := 195) C dX12_acted_188 (by decide) (fun c31 => ?_) (fun c31 => ?_)
    · have h := h.1 c31
      refine x_sub [] [] rfl ?_
      exact G12_acted_J195_ok C hd hr  h
    · have h := h.2 c31
      refine x_iload_n C rfl 2 rfl dX12_acted_191 ?_
      refine x_if_eq (tgt := 199) C dX12_acted_192 (by decide) (fun c34 => ?_) (fun c34 => ?_)
      · have h := h.1 c34
        refine x_iconst (v := 0) C (by decide) dX12_acted_199 ?_
        refine x_sub [] [] rfl ?_
        exact G12_acted_J200_ok C hd hr  h
      · have h := h.2 c34
        refine x_sub [] [] rfl ?_
        exact G12_acted_J195_ok C hd hr  h
  have n_c40 := lv_neT (a := 47) c40 (by decide)
  by_cases c41 : v0 = 48
  · refine x_tIn (tgt := 187) C dX12_acted_1 (by rw [c41]; decide) (by rw [c41]; decide) (by rw [c41]; rfl) (by decide) ?_
    refine x_iload_n C rfl 1 rfl dX12_acted_187 ?_
    refine x_if_ne (tgt := 195) C dX12_acted_188 (by decide) (fun c31 => ?_) (fun c31 => ?_)
    · have h := h.1 c31
      refine x_sub [] [] rfl ?_
      exact G12_acted_J195_ok C hd hr  h
    · have h := h.2 c31
      refine x_iload_n C rfl 2 rfl dX12_acted_191 ?_
      refine x_if_eq (tgt := 199) C dX12_acted_192 (by decide) (fun c34 => ?_) (fun c34 => ?_)
      · have h := h.1 c34
        refine x_iconst (v := 0) C (by decide) dX12_acted_199 ?_
        refine x_sub [] [] rfl ?_
        exact G12_acted_J200_ok C hd hr  h
      · have h := h.2 c34
        refine x_sub [] [] rfl ?_
        exact G12_acted_J195_ok C hd hr  h
  have n_c41 := lv_neT (a := 48) c41 (by decide)
  by_cases c42 : v0 = 49
  · refine x_tIn (tgt := 187) C dX12_acted_1 (by rw [c42]; decide) (by rw [c42]; decide) (by rw [c42]; rfl) (by decide) ?_
    refine x_iload_n C rfl 1 rfl dX12_acted_187 ?_
    refine x_if_ne (tgt := 195) C dX12_acted_188 (by decide) (fun c31 => ?_) (fun c31 => ?_)
    · have h := h.1 c31
      refine x_sub [] [] rfl ?_
      exact G12_acted_J195_ok C hd hr  h
    · have h := h.2 c31
      refine x_iload_n C rfl 2 rfl dX12_acted_191 ?_
      refine x_if_eq (tgt := 199) C dX12_acted_192 (by decide) (fun c34 => ?_) (fun c34 => ?_)
      · have h := h.1 c34
        refine x_iconst (v := 0) C (by decide) dX12_acted_199 ?_
        refine x_sub [] [] rfl ?_
        exact G12_acted_J200_ok C hd hr  h
      · have h := h.2 c34
        refine x_sub [] [] rfl ?_
        exact G12_acted_J195_ok C hd hr  h
  have n_c42 := lv_neT (a := 49) c42 (by decide)
  by_cases c43 : v0 = 50
  · refine x_tIn (tgt := 187) C dX12_acted_1 (by rw [c43]; decide) (by rw [c43]; decide) (by rw [c43]; rfl) (by decide) ?_
    refine x_iload_n C rfl 1 rfl dX12_acted_187 ?_
    refine x_if_ne (tgt := 195) C dX12_acted_188 (by decide) (fun c31 => ?_) (fun c31 => ?_)
    · have h := h.1 c31
      refine x_sub [] [] rfl ?_
      exact G12_acted_J195_ok C hd hr  h
    · have h := h.2 c31
      refine x_iload_n C rfl 2 rfl dX12_acted_191 ?_
      refine x_if_eq (tgt := 199) C dX12_acted_192 (by decide) (fun c34 => ?_) (fun c34 => ?_)
      · have h := h.1 c34
        refine x_iconst (v := 0) C (by decide) dX12_acted_199 ?_
        refine x_sub [] [] rfl ?_
        exact G12_acted_J200_ok C hd hr  h
      · have h := h.2 c34
        refine x_sub [] [] rfl ?_
        exact G12_acted_J195_ok C hd hr  h
  have n_c43 := lv_neT (a := 50) c43 (by decide)
  by_cases c44 : v0 = 51
  · refine x_tIn (tgt := 187) C dX12_acted_1 (by rw [c44]; decide) (by rw [c44]; decide) (by rw [c44]; rfl) (by decide) ?_
    refine x_iload_n C rfl 1 rfl dX12_acted_187 ?_
    refine x_if_ne (tgt := 195) C dX12_acted_188 (by decide) (fun c31 => ?_) (fun c31 => ?_)
    · have h := h.1 c31
      refine x_sub [] [] rfl ?_
      exact G12_acted_J195_ok C hd hr  h
    · have h := h.2 c31
      refine x_iload_n C rfl 2 rfl dX12_acted_191 ?_
      refine x_if_eq (tgt := 199) C dX12_acted_192 (by decide) (fun c34 => ?_) (fun c34 => ?_)
      · have h := h.1 c34
        refine x_iconst (v := 0) C (by decide) dX12_acted_199 ?_
        refine x_sub [] [] rfl ?_
        exact G12_acted_J200_ok C hd hr  h
      · have h := h.2 c34
        refine x_sub [] [] rfl ?_
        exact G12_acted_J195_ok C hd hr  h
  have n_c44 := lv_neT (a := 51) c44 (by decide)
  by_cases c45 : v0 = 52
  · refine x_tIn (tgt := 187) C dX12_acted_1 (by rw [c45]; decide) (by rw [c45]; decide) (by rw [c45]; rfl) (by decide) ?_
    refine x_iload_n C rfl 1 rfl dX12_acted_187 ?_
    refine x_if_ne (tgt := 195) C dX12_acted_188 (by decide) (fun c31 => ?_) (fun c31 => ?_)
    · have h := h.1 c31
      refine x_sub [] [] rfl ?_
      exact G12_acted_J195_ok C hd hr  h
    · have h := h.2 c31
      refine x_iload_n C rfl 2 rfl dX12_acted_191 ?_
      refine x_if_eq (tgt := 199) C dX12_acted_192 (by decide) (fun c34 => ?_) (fun c34 => ?_)
      · have h := h.1 c34
        refine x_iconst (v := 0) C (by decide) dX12_acted_199 ?_
        refine x_sub [] [] rfl ?_
        exact G12_acted_J200_ok C hd hr  h
      · have h := h.2 c34
        refine x_sub [] [] rfl ?_
        exact G12_acted_J195_ok C hd hr  h
  have n_c45 := lv_neT (a := 52) c45 (by decide)
  by_cases c46 : v0 = 53
  · refine x_tIn (tgt := 187) C dX12_acted_1 (by rw [c46]; decide) (by rw [c46]; decide) (by rw [c46]; rfl) (by decide) ?_
    refine x_iload_n C rfl 1 rfl dX12_acted_187 ?_
    refine x_if_ne (tgt := 195) C dX12_acted_188 (by decide) (fun c31 => ?_) (fun c31 => ?_)
    · have h := h.1 c31
      refine x_sub [] [] rfl ?_
      exact G12_acted_J195_ok C hd hr  h
    · have h := h.2 c31
      refine x_iload_n C rfl 2 rfl dX12_acted_191 ?_
      refine x_if_eq (tgt := 199) C dX12_acted_192 (by decide) (fun c34 => ?_) (fun c34 => ?_)
      · have h := h.1 c34
        refine x_iconst (v := 0) C (by decide) dX12_acted_199 ?_
        refine x_sub [] [] rfl ?_
        exact G12_acted_J200_ok C hd hr  h
      · have h := h.2 c34
        refine x_sub [] [] rfl ?_
        exact G12_acted_J195_ok C hd hr  h
  have n_c46 := lv_neT (a := 53) c46 (by decide)
  by_cases c47 : v0 = 54
  · refine x_tIn (tgt := 187) C dX12_acted_1 (by rw [c47]; decide) (by rw [c47]; decide) (by rw [c47]; rfl) (by decide) ?_
    refine x_iload_n C rfl 1 rfl dX12_acted_187 ?_
    refine x_if_ne (tgt := 195) C dX12_acted_188 (by decide) (fun c31 => ?_) (fun c31 => ?_)
    · have h := h.1 c31
      refine x_sub [] [] rfl ?_
      exact G12_acted_J195_ok C hd hr  h
    · have h := h.2 c31
      refine x_iload_n C rfl 2 rfl dX12_acted_191 ?_
      refine x_if_eq (tgt := 199) C dX12_acted_192 (by decide) (fun c34 => ?_) (fun c34 => ?_)
      · have h := h.1 c34
        refine x_iconst (v := 0) C (by decide) dX12_acted_199 ?_
        refine x_sub [] [] rfl ?_
        exact G12_acted_J200_ok C hd hr  h
      · have h := h.2 c34
        refine x_sub [] [] rfl ?_
        exact G12_acted_J195_ok C hd hr  h
  have n_c47 := lv_neT (a := 54) c47 (by decide)
  by_cases c48 : v0 = 55
  · refine x_tIn (tgt := 187) C dX12_acted_1 (by rw [c48]; decide) (by rw [c48]; decide) (by rw [c48]; rfl) (by decide) ?_
    refine x_iload_n C rfl 1 rfl dX12_acted_187 ?_
    refine x_if_ne (tgt := 195) C dX12_acted_188 (by decide) (fun c31 => ?_) (fun c31 => ?_)
    · have h := h.1 c31
      refine x_sub [] [] rfl ?_
      exact G12_acted_J195_ok C hd hr  h
    · have h := h.2 c31
      refine x_iload_n C rfl 2 rfl dX12_acted_191 ?_
      refine x_if_eq (tgt := 199) C dX12_acted_192 (by decide) (fun c34 => ?_) (fun c34 => ?_)
      · have h := h.1 c34
        refine x_iconst (v := 0) C (by decide) dX12_acted_199 ?_
        refine x_sub [] [] rfl ?_
        exact G12_acted_J200_ok C hd hr  h
      · have h := h.2 c34
        refine x_sub [] [] rfl ?_
        exact G12_acted_J195_ok C hd hr  h
  have n_c48 := lv_neT (a := 55) c48 (by decide)
  by_cases c49 : v0 = 56
  · refine x_tIn (tgt := 187) C dX12_acted_1 (by rw [c49]; decide) (by rw [c49]; decide) (by rw [c49]; rfl) (by decide) ?_
    refine x_iload_n C rfl 1 rfl dX12_acted_187 ?_
    refine x_if_ne (tgt := 195) C dX12_acted_188 (by decide) (fun c31 => ?_) (fun c31 => ?_)
    · have h := h.1 c31
      refine x_sub [] [] rfl ?_
      exact G12_acted_J195_ok C hd hr  h
    · have h := h.2 c31
      refine x_iload_n C rfl 2 rfl dX12_acted_191 ?_
      refine x_if_eq (tgt := 199) C dX12_acted_192 (by decide) (fun c34 => ?_) (fun c34 => ?_)
      · have h := h.1 c34
        refine x_iconst (v := 0) C (by decide) dX12_acted_199 ?_
        refine x_sub [] [] rfl ?_
        exact G12_acted_J200_ok C hd hr  h
      · have h := h.2 c34
        refine x_sub [] [] rfl ?_
        exact G12_acted_J195_ok C hd hr  h
  have n_c49 := lv_neT (a := 56) c49 (by decide)
  by_cases c50 : v0 = 57
  · refine x_tIn (tgt := 187) C dX12_acted_1 (by rw [c50]; decide) (by rw [c50]; decide) (by rw [c50]; rfl) (by decide) ?_
    refine x_iload_n C rfl 1 rfl dX12_acted_187 ?_
    refine x_if_ne (tgt := 195) C dX12_acted_188 (by decide) (fun c31 => ?_) (fun c31 => ?_)
    · have h := h.1 c31
      refine x_sub [] [] rfl ?_
      exact G12_acted_J195_ok C hd hr  h
    · have h := h.2 c31
      refine x_iload_n C rfl 2 rfl dX12_acted_191 ?_
      refine x_if_eq (tgt := 199) C dX12_acted_192 (by decide) (fun c34 => ?_) (fun c34 => ?_)
      · have h := h.1 c34
        refine x_iconst (v := 0) C (by decide) dX12_acted_199 ?_
        refine x_sub [] [] rfl ?_
        exact G12_acted_J200_ok C hd hr  h
      · have h := h.2 c34
        refine x_sub [] [] rfl ?_
        exact G12_acted_J195_ok C hd hr  h
  have n_c50 := lv_neT (a := 57) c50 (by decide)
  by_cases c51 : v0 = 58
  · refine x_tIn (tgt := 187) C dX12_acted_1 (by rw [c51]; decide) (by rw [c51]; decide) (by rw [c51]; rfl) (by decide) ?_
    refine x_iload_n C rfl 1 rfl dX12_acted_187 ?_
    refine x_if_ne (tgt := 195) C dX12_acted_188 (by decide) (fun c31 => ?_) (fun c31 => ?_)
    · have h := h.1 c31
      refine x_sub [] [] rfl ?_
      exact G12_acted_J195_ok C hd hr  h
    · have h := h.2 c31
      refine x_iload_n C rfl 2 rfl dX12_acted_191 ?_
      refine x_if_eq (tgt := 199) C dX12_acted_192 (by decide) (fun c34 => ?_) (fun c34 => ?_)
      · have h := h.1 c34
        refine x_iconst (v := 0) C (by decide) dX12_acted_199 ?_
        refine x_sub [] [] rfl ?_
        exact G12_acted_J200_ok C hd hr  h
      · have h := h.2 c34
        refine x_sub [] [] rfl ?_
        exact G12_acted_J195_ok C hd hr  h
  have n_c51 := lv_neT (a := 58) c51 (by decide)
  by_cases c52 : v0 = 59
  · refine x_tIn (tgt := 187) C dX12_acted_1 (by rw [c52]; decide) (by rw [c52]; decide) (by rw [c52]; rfl) (by decide) ?_
    refine x_iload_n C rfl 1 rfl dX12_acted_187 ?_
    refine x_if_ne (tgt := 195) C dX12_acted_188 (by decide) (fun c31 => ?_) (fun c31 => ?_)
    · have h := h.1 c31
      refine x_sub [] [] rfl ?_
      exact G12_acted_J195_ok C hd hr  h
    · have h := h.2 c31
      refine x_iload_n C rfl 2 rfl dX12_acted_191 ?_
      refine x_if_eq (tgt := 199) C dX12_acted_192 (by decide) (fun c34 => ?_) (fun c34 => ?_)
      · have h := h.1 c34
        refine x_iconst (v := 0) C (by decide) dX12_acted_199 ?_
        refine x_sub [] [] rfl ?_
        exact G12_acted_J200_ok C hd hr  h
      · have h := h.2 c34
        refine x_sub [] [] rfl ?_
        exact G12_acted_J195_ok C hd hr  h
  have n_c52 := lv_neT (a := 59) c52 (by decide)
  refine x_tOut (tgt := 187) C dX12_acted_1 (by omega) (by decide) ?_
  refine x_iload_n C rfl 1 rfl dX12_acted_187 ?_
  refine x_if_ne (tgt := 195) C dX12_acted_188 (by decide) (fun c31 => ?_) (fun c31 => ?_)
  · have h := h.1 c31
    refine x_sub [] [] rfl ?_
    exact G12_acted_J195_ok C hd hr  h
  · have h := h.2 c31
    refine x_iload_n C rfl 2 rfl dX12_acted_191 ?_
    refine x_if_eq (tgt := 199) C dX12_acted_192 (by decide) (fun c34 => ?_) (fun c34 => ?_)
    · have h := h.1 c34
      refine x_iconst (v := 0) C (by decide) dX12_acted_199 ?_
      refine x_sub [] [] rfl ?_
      exact G12_acted_J200_ok C hd hr  h
    · have h := h.2 c34
      refine x_sub [] [] rfl ?_
      exact G12_acted_J195_ok C hd hr  h
set_option maxHeartbeats 4000000 in
set_option maxRecDepth 100000 in
theorem G12_worked_J101_ok {p : Program} {e : Env} {s : State} {m : MethodId} {args : Array Value} {below : List Frame} {meth : Method} {c : Code} {l : Launch} {φ : Nat → Nat} {tc : Nat → ClassId} {D : va_G} {s0 : State} {dR : Nat} (C : CX p s m args meth c φ tc D s0 cX12_worked RX12 6) (hd : G12_worked_dep ≤ dR) (hr : meth.sig.returnType = (some .int))  {p1 : Int32} {p2 : Int32} {p3 : Int32} {p4 : Int32} {q0 : Int32} {q1 : Int32} {Q : Int32 → MM → Prop} {K5 : Int32 × Int32 × MM → Prop} {μ : MM}   (hK5 : ∀ (z3 : Int32) (z4 : Int32) (zμ : MM), K5 (z3, z4, zμ) → WX p l e (rmX dR) s m args below meth c φ tc D 6 (MQ below (QX φ tc D (QI Q)) args s 0 0 (AX φ)) 5 [(0, .ref 358), (1, .int p1), (2, .int p2), (3, .int z3), (4, .int z4)] [] zμ) (h : G12_worked_J101 p1 p2 p3 p4 q0 q1 μ K5 Q) : WX p l e (rmX dR) s m args below meth c φ tc D 6 (MQ below (QX φ tc D (QI Q)) args s 0 0 (AX φ)) 101 [(0, .ref 358), (1, .int p1), (2, .int p2), (3, .int p3), (4, .int p4)] [.int q0, .int q1, .ref 379] μ := by
  unfold G12_worked_J101 at h
  refine x_callS (dC := G12_flag_dep) (as := [.int q0]) (st := [.int q1, .ref 379]) C rfl (Nat.le_trans (Nat.le_of_ble_eq_true rfl) hd) (Nat.le_of_ble_eq_true rfl) tw_6_212 tw_6_211 tc_6_213 tw_1_13 hyX12 hnX12_flag rfl (Nat.le_of_ble_eq_true rfl) dX12_worked_101 (G12_flag_met C.2.2.2.2.2.2.2.1 (Nat.le_refl _)  h) (fun r0 μ40 hq => ?_)
  obtain ⟨r41, rfl, h⟩ := hq
  refine x_st [.int r41, .int q1, .ref 379] rfl ?_
  obtain ⟨c42, h⟩ := h
  refine x_iast C ob379.1 ob379.2 c42 rfl dX12_worked_104 ?_
  refine x_mu (fun μ43 e_μ43 => ?_)
  have h := h μ43 e_μ43
  refine x_goto (tgt := 170) C dX12_worked_105 (by decide) ?_
  refine x_iinc (v := (p4 + 1)) C [(4, .int (p4 + 1)), (0, .ref 358), (1, .int p1), (2, .int p2), (3, .int p3)] 4 rfl (congrArg (fun z => p4 + z) (by decide : Int32.ofInt (1) = 1)) (Nat.le_of_ble_eq_true rfl) rfl dX12_worked_170 ?_
  refine x_goto (tgt := 5) C dX12_worked_173 (by decide) ?_
  refine x_sub [(0, .ref 358), (1, .int p1), (2, .int p2), (3, .int p3), (4, .int (p4 + 1))] [1, 2, 3, 4, 0] rfl ?_
  exact hK5 _ _ _ h
set_option maxHeartbeats 4000000 in
set_option maxRecDepth 100000 in
theorem G12_worked_L5_b {p : Program} {e : Env} {s : State} {m : MethodId} {args : Array Value} {below : List Frame} {meth : Method} {c : Code} {l : Launch} {φ : Nat → Nat} {tc : Nat → ClassId} {D : va_G} {s0 : State} {dR : Nat} (C : CX p s m args meth c φ tc D s0 cX12_worked RX12 6) (hd : G12_worked_dep ≤ dR) (hr : meth.sig.returnType = (some .int))  {p1 : Int32} {p2 : Int32} {Q : Int32 → MM → Prop} {K5 : Int32 × Int32 × MM → Prop} {x : Int32 × Int32 × MM}   (hK5 : ∀ (z3 : Int32) (z4 : Int32) (zμ : MM), K5 (z3, z4, zμ) → WX p l e (rmX dR) s m args below meth c φ tc D 6 (MQ below (QX φ tc D (QI Q)) args s 0 0 (AX φ)) 5 [(0, .ref 358), (1, .int p1), (2, .int p2), (3, .int z3), (4, .int z4)] [] zμ) (h : G12_worked_L5 p1 p2 Q K5 x) : WX p l e (rmX dR) s m args below meth c φ tc D 6 (MQ below (QX φ tc D (QI Q)) args s 0 0 (AX φ)) 5 [(0, .ref 358), (1, .int p1), (2, .int p2), (3, .int x.1), (4, .int x.2.1)] [] x.2.2 := by
  unfold G12_worked_L5 at h
  refine x_iload C 4 rfl dX12_worked_5 ?_
  refine x_aload_n C rfl 0 rfl dX12_worked_7 ?_
  refine x_getR (r := 378) C (j := 25) ob358.1 ob358.2 (Nat.le_of_ble_eq_true rfl) (Nat.le_of_ble_eq_true rfl) (fun _ _ _ => rfl) r_358_25 tw_8_231 dX12_worked_8 ?_
  refine x_iload_n C rfl 1 rfl dX12_worked_11 ?_
  obtain ⟨c22, h⟩ := h
  refine x_iald C ob378.1 ob378.2 c22 rfl dX12_worked_12 ?_
  refine x_icmp_ge (tgt := 176) C dX12_worked_13 (by decide) (fun c23 => ?_) (fun c23 => ?_)
  · have h := h.1 c23
    refine x_aload_n C rfl 0 rfl dX12_worked_176 ?_
    refine x_getR (r := 379) C (j := 26) ob358.1 ob358.2 (Nat.le_of_ble_eq_true rfl) (Nat.le_of_ble_eq_true rfl) (fun _ _ _ => rfl) r_358_26 tw_8_232 dX12_worked_177 ?_
    refine x_iconst (v := 0) C (by decide) dX12_worked_180 ?_
    refine x_iald C ob379.1 ob379.2 (by unfold vp_in; decide) (j := 0) (by decide) dX12_worked_181 ?_
    exact x_iret C hr dX12_worked_182 ⟨_, rfl, h⟩
  · have h := h.2 c23
    refine x_aload_n C rfl 0 rfl dX12_worked_16 ?_
    refine x_getR (r := 377) C (j := 24) ob358.1 ob358.2 (Nat.le_of_ble_eq_true rfl) (Nat.le_of_ble_eq_true rfl) (fun _ _ _ => rfl) r_358_24 tw_8_230 dX12_worked_17 ?_
    refine x_bipush (v := 48) C (by decide) dX12_worked_20 ?_
    refine x_iload_n C rfl 1 rfl dX12_worked_22 ?_
    refine x_imul C dX12_worked_23 ?_
    refine x_iload C 4 rfl dX12_worked_24 ?_
    refine x_iadd C dX12_worked_26 ?_
    obtain ⟨c24, h⟩ := h
    refine x_iald C ob377.1 ob377.2 c24 rfl dX12_worked_27 ?_
    refine x_topi (fun y25 e_y25 => ?_)
    have h := h y25 e_y25
    refine x_istore C [(5, .int y25), (0, .ref 358), (1, .int p1), (2, .int p2), (3, .int x.1), (4, .int x.2.1)] (Nat.le_of_ble_eq_true rfl) rfl dX12_worked_28 ?_
    refine x_iload C 0 rfl dX12_worked_30 ?_
    refine x_sipush (v := 2000) C (by decide) dX12_worked_32 ?_
    refine x_icmp_ge (tgt := 70) C dX12_worked_35 (by decide) (fun c26 => ?_) (fun c26 => ?_)
    · have h := h.1 c26
      refine x_iload C 0 rfl dX12_worked_70 ?_
      refine x_sipush (v := 2033) C (by decide) dX12_worked_72 ?_
      refine x_icmp_ne (tgt := 108) C dX12_worked_75 (by decide) (fun c27 => ?_) (fun c27 => ?_)
      · have h := h.1 c27
        refine x_iload C 0 rfl dX12_worked_108 ?_
        refine x_sipush (v := 2126) C (by decide) dX12_worked_110 ?_
        refine x_icmp_ne (tgt := 136) C dX12_worked_113 (by decide) (fun c28 => ?_) (fun c28 => ?_)
        · have h := h.1 c28
          refine x_iinc (v := (x.1 + (-1))) C [(3, .int (x.1 + (-1))), (5, .int y25), (0, .ref 358), (1, .int p1), (2, .int p2), (4, .int x.2.1)] 4 rfl (congrArg (fun z => x.1 + z) (by decide : Int32.ofInt (-1) = (-1))) (Nat.le_of_ble_eq_true rfl) rfl dX12_worked_136 ?_
          refine x_aload_n C rfl 2 rfl dX12_worked_139 ?_
          refine x_getR (r := 379) C (j := 26) ob358.1 ob358.2 (Nat.le_of_ble_eq_true rfl) (Nat.le_of_ble_eq_true rfl) (fun _ _ _ => rfl) r_358_26 tw_8_232 dX12_worked_140 ?_
          refine x_iload_n C rfl 0 rfl dX12_worked_143 ?_
          refine x_iconst (v := 1) C (by decide) dX12_worked_144 ?_
          refine x_isub C dX12_worked_145 ?_
          refine x_iload C 1 rfl dX12_worked_146 ?_
          refine x_sipush (v := 2000) C (by decide) dX12_worked_148 ?_
          refine x_isub C dX12_worked_151 ?_
          refine x_aload_n C rfl 2 rfl dX12_worked_152 ?_
          refine x_getR (r := 379) C (j := 26) ob358.1 ob358.2 (Nat.le_of_ble_eq_true rfl) (Nat.le_of_ble_eq_true rfl) (fun _ _ _ => rfl) r_358_26 tw_8_232 dX12_worked_153 ?_
          refine x_iload_n C rfl 0 rfl dX12_worked_156 ?_
          refine x_iconst (v := 1) C (by decide) dX12_worked_157 ?_
          refine x_isub C dX12_worked_158 ?_
          obtain ⟨c29, h⟩ := h
          refine x_iald C ob379.1 ob379.2 c29 rfl dX12_worked_159 ?_
          refine x_aload_n C rfl 2 rfl dX12_worked_160 ?_
          refine x_getR (r := 379) C (j := 26) ob358.1 ob358.2 (Nat.le_of_ble_eq_true rfl) (Nat.le_of_ble_eq_true rfl) (fun _ _ _ => rfl) r_358_26 tw_8_232 dX12_worked_161 ?_
          refine x_iload_n C rfl 0 rfl dX12_worked_164 ?_
          obtain ⟨c30, h⟩ := h
          refine x_iald C ob379.1 ob379.2 c30 rfl dX12_worked_165 ?_
          refine x_callS (dC := G12_acted_dep) (as := [.int (y25 - 2000), .int (gI x.2.2 379 (((x.1 + (-1)) - 1).toNatClampNeg)), .int (gI x.2.2 379 ((x.1 + (-1)).toNatClampNeg))]) (st := [.int ((x.1 + (-1)) - 1), .ref 379]) C rfl (Nat.le_trans (Nat.le_of_ble_eq_true rfl) hd) (Nat.le_of_ble_eq_true rfl) tw_7_108 tw_7_107 tc_7_109 tw_1_13 hyX12 hnX12_acted rfl (Nat.le_of_ble_eq_true rfl) dX12_worked_166 (G12_acted_met C.2.2.2.2.2.2.2.1 (Nat.le_refl _)  h) (fun r0 μ31 hq => ?_)
          obtain ⟨r32, rfl, h⟩ := hq
          refine x_st [.int r32, .int ((x.1 + (-1)) - 1), .ref 379] rfl ?_
          obtain ⟨c33, h⟩ := h
          refine x_iast C ob379.1 ob379.2 c33 rfl dX12_worked_169 ?_
          refine x_mu (fun μ34 e_μ34 => ?_)
          have h := h μ34 e_μ34
          refine x_iinc (v := (x.2.1 + 1)) C [(4, .int (x.2.1 + 1)), (3, .int (x.1 + (-1))), (5, .int y25), (0, .ref 358), (1, .int p1), (2, .int p2)] 5 rfl (congrArg (fun z => x.2.1 + z) (by decide : Int32.ofInt (1) = 1)) (Nat.le_of_ble_eq_true rfl) rfl dX12_worked_170 ?_
          refine x_goto (tgt := 5) C dX12_worked_173 (by decide) ?_
          refine x_sub [(0, .ref 358), (1, .int p1), (2, .int p2), (3, .int (x.1 + (-1))), (4, .int (x.2.1 + 1))] [3, 4, 5, 1, 0] rfl ?_
          exact hK5 _ _ _ h
        · have h := h.2 c28
          refine x_aload_n C rfl 1 rfl dX12_worked_116 ?_
          refine x_getR (r := 379) C (j := 26) ob358.1 ob358.2 (Nat.le_of_ble_eq_true rfl) (Nat.le_of_ble_eq_true rfl) (fun _ _ _ => rfl) r_358_26 tw_8_232 dX12_worked_117 ?_
          refine x_iload_n C rfl 4 rfl dX12_worked_120 ?_
          refine x_iconst (v := 1) C (by decide) dX12_worked_121 ?_
          refine x_isub C dX12_worked_122 ?_
          refine x_aload_n C rfl 1 rfl dX12_worked_123 ?_
          refine x_getR (r := 379) C (j := 26) ob358.1 ob358.2 (Nat.le_of_ble_eq_true rfl) (Nat.le_of_ble_eq_true rfl) (fun _ _ _ => rfl) r_358_26 tw_8_232 dX12_worked_124 ?_
          refine x_iload_n C rfl 4 rfl dX12_worked_127 ?_
          refine x_iconst (v := 1) C (by decide) dX12_worked_128 ?_
          refine x_isub C dX12_worked_129 ?_
          obtain ⟨c35, h⟩ := h
          refine x_iald C ob379.1 ob379.2 c35 rfl dX12_worked_130 ?_
          refine x_ineg C dX12_worked_131 ?_
          obtain ⟨c36, h⟩ := h
          refine x_iast C ob379.1 ob379.2 c36 rfl dX12_worked_132 ?_
          refine x_mu (fun μ37 e_μ37 => ?_)
          have h := h μ37 e_μ37
          refine x_goto (tgt := 170) C dX12_worked_133 (by decide) ?_
          refine x_iinc (v := (x.2.1 + 1)) C [(4, .int (x.2.1 + 1)), (5, .int y25), (0, .ref 358), (1, .int p1), (2, .int p2), (3, .int x.1)] 5 rfl (congrArg (fun z => x.2.1 + z) (by decide : Int32.ofInt (1) = 1)) (Nat.le_of_ble_eq_true rfl) rfl dX12_worked_170 ?_
          refine x_goto (tgt := 5) C dX12_worked_173 (by decide) ?_
          refine x_sub [(0, .ref 358), (1, .int p1), (2, .int p2), (3, .int x.1), (4, .int (x.2.1 + 1))] [2, 3, 4, 5, 0] rfl ?_
          exact hK5 _ _ _ h
      · have h := h.2 c27
        refine x_aload_n C rfl 1 rfl dX12_worked_78 ?_
        refine x_getR (r := 379) C (j := 26) ob358.1 ob358.2 (Nat.le_of_ble_eq_true rfl) (Nat.le_of_ble_eq_true rfl) (fun _ _ _ => rfl) r_358_26 tw_8_232 dX12_worked_79 ?_
        refine x_iload_n C rfl 4 rfl dX12_worked_82 ?_
        refine x_iconst (v := 1) C (by decide) dX12_worked_83 ?_
        refine x_isub C dX12_worked_84 ?_
        refine x_aload_n C rfl 1 rfl dX12_worked_85 ?_
        refine x_getR (r := 379) C (j := 26) ob358.1 ob358.2 (Nat.le_of_ble_eq_true rfl) (Nat.le_of_ble_eq_true rfl) (fun _ _ _ => rfl) r_358_26 tw_8_232 dX12_worked_86 ?_
        refine x_iload_n C rfl 4 rfl dX12_worked_89 ?_
        refine x_iconst (v := 1) C (by decide) dX12_worked_90 ?_
        refine x_isub C dX12_worked_91 ?_
        obtain ⟨c38, h⟩ := h
        refine x_iald C ob379.1 ob379.2 c38 rfl dX12_worked_92 ?_
        refine x_if_ne (tgt := 100) C dX12_worked_93 (by decide) (fun c39 => ?_) (fun c39 => ?_)
        · have h := h.1 c39
          refine x_iconst (v := 0) C (by decide) dX12_worked_100 ?_
          refine x_sub [(0, .ref 358), (1, .int p1), (2, .int p2), (3, .int x.1), (4, .int x.2.1)] [1, 2, 3, 4, 5] rfl ?_
          exact G12_worked_J101_ok C hd hr hK5 h
        · have h := h.2 c39
          refine x_iconst (v := 1) C (by decide) dX12_worked_96 ?_
          refine x_goto (tgt := 101) C dX12_worked_97 (by decide) ?_
          refine x_sub [(0, .ref 358), (1, .int p1), (2, .int p2), (3, .int x.1), (4, .int x.2.1)] [1, 2, 3, 4, 5] rfl ?_
          exact G12_worked_J101_ok C hd hr hK5 h
    · have h := h.2 c26
      refine x_aload_n C rfl 1 rfl dX12_worked_38 ?_
      refine x_getR (r := 379) C (j := 26) ob358.1 ob358.2 (Nat.le_of_ble_eq_true rfl) (Nat.le_of_ble_eq_true rfl) (fun _ _ _ => rfl) r_358_26 tw_8_232 dX12_worked_39 ?_
      refine x_iload_n C rfl 4 rfl dX12_worked_42 ?_
      refine x_iload C 0 rfl dX12_worked_43 ?_
      refine x_sipush (v := 1000) C (by decide) dX12_worked_45 ?_
      refine x_icmp_ge (tgt := 56) C dX12_worked_48 (by decide) (fun c44 => ?_) (fun c44 => ?_)
      · have h := h.1 c44
        refine x_aload_n C rfl 1 rfl dX12_worked_56 ?_
        refine x_iload C 0 rfl dX12_worked_57 ?_
        refine x_iload_n C rfl 3 rfl dX12_worked_59 ?_
        refine x_callV (dC := G12_valueOf_dep) (as := [.int y25, .int p2]) (st := [.int x.1, .ref 379]) C rfl (Nat.le_trans (Nat.le_of_ble_eq_true rfl) hd) (Nat.le_of_ble_eq_true rfl) ob358.1 ob358.2 (Nat.le_of_ble_eq_true rfl) rfl ts_9_11 tw_7_105 tw_7_103 tc_7_106 tw_1_13 hyX12 hnX12_valueOf rfl (Nat.le_of_ble_eq_true rfl) dX12_worked_60 (G12_valueOf_met C.2.2.2.2.2.2.2.1 (Nat.le_refl _)  h) (fun r0 μ45 hq => ?_)
        obtain ⟨r46, rfl, h⟩ := hq
        refine x_st [.int r46, .int x.1, .ref 379] rfl ?_
        obtain ⟨c47, h⟩ := h
        refine x_iast C ob379.1 ob379.2 c47 rfl dX12_worked_63 ?_
        refine x_mu (fun μ48 e_μ48 => ?_)
        have h := h μ48 e_μ48
        refine x_iinc (v := (x.1 + 1)) C [(3, .int (x.1 + 1)), (5, .int y25), (0, .ref 358), (1, .int p1), (2, .int p2), (4, .int x.2.1)] 4 rfl (congrArg (fun z => x.1 + z) (by decide : Int32.ofInt (1) = 1)) (Nat.le_of_ble_eq_true rfl) rfl dX12_worked_64 ?_
        refine x_goto (tgt := 170) C dX12_worked_67 (by decide) ?_
        refine x_iinc (v := (x.2.1 + 1)) C [(4, .int (x.2.1 + 1)), (3, .int (x.1 + 1)), (5, .int y25), (0, .ref 358), (1, .int p1), (2, .int p2)] 5 rfl (congrArg (fun z => x.2.1 + z) (by decide : Int32.ofInt (1) = 1)) (Nat.le_of_ble_eq_true rfl) rfl dX12_worked_170 ?_
        refine x_goto (tgt := 5) C dX12_worked_173 (by decide) ?_
        refine x_sub [(0, .ref 358), (1, .int p1), (2, .int p2), (3, .int (x.1 + 1)), (4, .int (x.2.1 + 1))] [3, 4, 5, 1, 0] rfl ?_
        exact hK5 _ _ _ h
      · have h := h.2 c44
        refine x_iload C 0 rfl dX12_worked_51 ?_
        refine x_goto (tgt := 63) C dX12_worked_53 (by decide) ?_
        obtain ⟨c49, h⟩ := h
        refine x_iast C ob379.1 ob379.2 c49 rfl dX12_worked_63 ?_
        refine x_mu (fun μ50 e_μ50 => ?_)
        have h := h μ50 e_μ50
        refine x_iinc (v := (x.1 + 1)) C [(3, .int (x.1 + 1)), (5, .int y25), (0, .ref 358), (1, .int p1), (2, .int p2), (4, .int x.2.1)] 4 rfl (congrArg (fun z => x.1 + z) (by decide : Int32.ofInt (1) = 1)) (Nat.le_of_ble_eq_true rfl) rfl dX12_worked_64 ?_
        refine x_goto (tgt := 170) C dX12_worked_67 (by decide) ?_
        refine x_iinc (v := (x.2.1 + 1)) C [(4, .int (x.2.1 + 1)), (3, .int (x.1 + 1)), (5, .int y25), (0, .ref 358), (1, .int p1), (2, .int p2)] 5 rfl (congrArg (fun z => x.2.1 + z) (by decide : Int32.ofInt (1) = 1)) (Nat.le_of_ble_eq_true rfl) rfl dX12_worked_170 ?_
        refine x_goto (tgt := 5) C dX12_worked_173 (by decide) ?_
        refine x_sub [(0, .ref 358), (1, .int p1), (2, .int p2), (3, .int (x.1 + 1)), (4, .int (x.2.1 + 1))] [3, 4, 5, 1, 0] rfl ?_
        exact hK5 _ _ _ h
theorem G12_worked_L5_ok {p : Program} {e : Env} {s : State} {m : MethodId} {args : Array Value} {below : List Frame} {meth : Method} {c : Code} {l : Launch} {φ : Nat → Nat} {tc : Nat → ClassId} {D : va_G} {s0 : State} {dR : Nat} (C : CX p s m args meth c φ tc D s0 cX12_worked RX12 6) (hd : G12_worked_dep ≤ dR) (hr : meth.sig.returnType = (some .int))  {p1 : Int32} {p2 : Int32} {Q : Int32 → MM → Prop}  {x : Int32 × Int32 × MM}    (h : Lp (G12_worked_L5 p1 p2 Q) x) : WX p l e (rmX dR) s m args below meth c φ tc D 6 (MQ below (QX φ tc D (QI Q)) args s 0 0 (AX φ)) 5 [(0, .ref 358), (1, .int p1), (2, .int p2), (3, .int x.1), (4, .int x.2.1)] [] x.2.2 := by
  obtain ⟨n, h⟩ := h
  induction n generalizing x with
  | zero => exact h.elim
  | succ n ih => exact G12_worked_L5_b C hd hr   (fun z3 z4 zμ hz => by have q := ih hz; exact q) h
set_option maxHeartbeats 4000000 in
set_option maxRecDepth 100000 in
theorem G12_worked_met {l : Launch} {φ : Nat → Nat} {tc : Nat → ClassId} {D : va_G} {s0 : State} (hG : GX φ tc D s0) {dR : Nat} (hd : G12_worked_dep ≤ dR) {v1 : Int32} {v2 : Int32} {μ : MM} {Q : Int32 → MM → Prop}  (h : G12_worked v1 v2 μ Q) : MX l φ tc D s0 dR yX12_worked cX12_worked 6 (some .int) [.ref 358, .int v1, .int v2] μ (QI Q) := by
  refine MX.of (own := RX12) hG plX12 rfl (Nat.le_of_ble_eq_true rfl) (fun p e s m args below meth c C hr => ?_)
  refine x_sub [(0, .ref 358), (1, .int v1), (2, .int v2)] [0, 1, 2] rfl ?_
  unfold G12_worked at h
  refine x_iconst (v := 0) C (by decide) dX12_worked_0 ?_
  refine x_istore_n C [(3, .int 0), (0, .ref 358), (1, .int v1), (2, .int v2)] rfl (Nat.le_of_ble_eq_true rfl) rfl dX12_worked_1 ?_
  refine x_iconst (v := 0) C (by decide) dX12_worked_2 ?_
  refine x_istore C [(4, .int 0), (3, .int 0), (0, .ref 358), (1, .int v1), (2, .int v2)] (Nat.le_of_ble_eq_true rfl) rfl dX12_worked_3 ?_
  refine x_sub [(0, .ref 358), (1, .int v1), (2, .int v2), (3, .int 0), (4, .int 0)] [2, 3, 4, 1, 0] rfl ?_
  exact G12_worked_L5_ok C hd hr  h
set_option maxHeartbeats 4000000 in
set_option maxRecDepth 100000 in
theorem G12_isTold_J25_ok {p : Program} {e : Env} {s : State} {m : MethodId} {args : Array Value} {below : List Frame} {meth : Method} {c : Code} {l : Launch} {φ : Nat → Nat} {tc : Nat → ClassId} {D : va_G} {s0 : State} {dR : Nat} (C : CX p s m args meth c φ tc D s0 cX12_isTold RX12 2) (hd : G12_isTold_dep ≤ dR) (hr : meth.sig.returnType = (some .boolean))   {Q : Int32 → MM → Prop}  {μ : MM}    (h : G12_isTold_J25 μ Q) : WX p l e (rmX dR) s m args below meth c φ tc D 2 (MQ below (QX φ tc D (QI Q)) args s 0 0 (AX φ)) 25 [] [] μ := by
  unfold G12_isTold_J25 at h
  refine x_iconst (v := 0) C (by decide) dX12_isTold_25 ?_
  exact x_zret C hr bo_0 dX12_isTold_26 ⟨_, rfl, h⟩
set_option maxHeartbeats 4000000 in
set_option maxRecDepth 100000 in
theorem G12_isTold_met {l : Launch} {φ : Nat → Nat} {tc : Nat → ClassId} {D : va_G} {s0 : State} (hG : GX φ tc D s0) {dR : Nat} (hd : G12_isTold_dep ≤ dR) {v1 : Int32} {μ : MM} {Q : Int32 → MM → Prop}  (h : G12_isTold v1 μ Q) : MX l φ tc D s0 dR yX12_isTold cX12_isTold 2 (some .boolean) [.ref 358, .int v1] μ (QI Q) := by
  refine MX.of (own := RX12) hG plX12 rfl (Nat.le_of_ble_eq_true rfl) (fun p e s m args below meth c C hr => ?_)
  refine x_sub [(0, .ref 358), (1, .int v1)] [0, 1] rfl ?_
  unfold G12_isTold at h
  refine x_iload_n C rfl 1 rfl dX12_isTold_0 ?_
  refine x_i2l C dX12_isTold_1 ?_
  refine x_lconst (v := 0) C (by decide) dX12_isTold_2 ?_
  refine x_ldc2 (v := 5) C tw_6_191 dX12_isTold_3 ?_
  refine x_callS (dC := G12_in_dep) (as := [.long (v1.toInt64), .long 0, .long 5]) (st := []) C rfl (Nat.le_trans (Nat.le_of_ble_eq_true rfl) hd) (Nat.le_of_ble_eq_true rfl) tw_6_183 tw_6_182 tc_6_184 tw_1_13 hyX12 hnX12_in rfl (Nat.le_of_ble_eq_true rfl) dX12_isTold_6 (G12_in_met C.2.2.2.2.2.2.2.1 (Nat.le_refl _)  h) (fun r0 μ4 hq => ?_)
  obtain ⟨r5, rfl, h⟩ := hq
  refine x_st [.int r5] rfl ?_
  refine x_if_eq (tgt := 25) C dX12_isTold_9 (by decide) (fun c6 => ?_) (fun c6 => ?_)
  · have h := h.1 c6
    refine x_sub [] [] rfl ?_
    exact G12_isTold_J25_ok C hd hr  h
  · have h := h.2 c6
    refine x_aload_n C rfl 0 rfl dX12_isTold_12 ?_
    refine x_getR (r := 378) C (j := 25) ob358.1 ob358.2 (Nat.le_of_ble_eq_true rfl) (Nat.le_of_ble_eq_true rfl) (fun _ _ _ => rfl) r_358_25 tw_8_231 dX12_isTold_13 ?_
    refine x_iload_n C rfl 1 rfl dX12_isTold_16 ?_
    obtain ⟨c7, h⟩ := h
    refine x_iald C ob378.1 ob378.2 c7 rfl dX12_isTold_17 ?_
    refine x_if_le (tgt := 25) C dX12_isTold_18 (by decide) (fun c8 => ?_) (fun c8 => ?_)
    · have h := h.1 c8
      refine x_sub [] [] rfl ?_
      exact G12_isTold_J25_ok C hd hr  h
    · have h := h.2 c8
      refine x_iconst (v := 1) C (by decide) dX12_isTold_21 ?_
      refine x_goto (tgt := 26) C dX12_isTold_22 (by decide) ?_
      exact x_zret C hr bo_1 dX12_isTold_26 ⟨_, rfl, h⟩
set_option maxHeartbeats 4000000 in
set_option maxRecDepth 100000 in
theorem G12_value_J21_ok {p : Program} {e : Env} {s : State} {m : MethodId} {args : Array Value} {below : List Frame} {meth : Method} {c : Code} {l : Launch} {φ : Nat → Nat} {tc : Nat → ClassId} {D : va_G} {s0 : State} {dR : Nat} (C : CX p s m args meth c φ tc D s0 cX12_value RX12 3) (hd : G12_value_dep ≤ dR) (hr : meth.sig.returnType = (some .int))   {Q : Int32 → MM → Prop}  {μ : MM}    (h : G12_value_J21 μ Q) : WX p l e (rmX dR) s m args below meth c φ tc D 3 (MQ below (QX φ tc D (QI Q)) args s 0 0 (AX φ)) 21 [(0, .ref 358)] [] μ := by
  unfold G12_value_J21 at h
  refine x_aload_n C rfl 0 rfl dX12_value_21 ?_
  refine x_callV (dC := G12_refuse_dep) (as := []) (st := []) C rfl (Nat.le_trans (Nat.le_of_ble_eq_true rfl) hd) (Nat.le_of_ble_eq_true rfl) ob358.1 ob358.2 (Nat.le_of_ble_eq_true rfl) rfl ts_9_0 tw_7_6 tw_7_4 tc_7_7 tw_1_13 hyX12 hnX12_refuse rfl (Nat.le_of_ble_eq_true rfl) dX12_value_22 (G12_refuse_met C.2.2.2.2.2.2.2.1 (Nat.le_refl _)  h) (fun r0 μ16 hq => ?_)
  obtain ⟨r17, rfl, h⟩ := hq
  refine x_st [.int r17] rfl ?_
  exact x_iret C hr dX12_value_25 ⟨_, rfl, h⟩
set_option maxHeartbeats 4000000 in
set_option maxRecDepth 100000 in
theorem G12_value_met {l : Launch} {φ : Nat → Nat} {tc : Nat → ClassId} {D : va_G} {s0 : State} (hG : GX φ tc D s0) {dR : Nat} (hd : G12_value_dep ≤ dR) {v1 : Int32} {v2 : Int32} {μ : MM} {Q : Int32 → MM → Prop}  (h : G12_value v1 v2 μ Q) : MX l φ tc D s0 dR yX12_value cX12_value 3 (some .int) [.ref 358, .int v1, .int v2] μ (QI Q) := by
  refine MX.of (own := RX12) hG plX12 rfl (Nat.le_of_ble_eq_true rfl) (fun p e s m args below meth c C hr => ?_)
  refine x_sub [(0, .ref 358), (1, .int v1), (2, .int v2)] [0, 1, 2] rfl ?_
  unfold G12_value at h
  refine x_aload_n C rfl 0 rfl dX12_value_0 ?_
  refine x_iconst (v := 0) C (by decide) dX12_value_1 ?_
  refine x_putI C (j := 0) ob358.1 ob358.2 (Nat.le_of_ble_eq_true rfl) (Nat.le_of_ble_eq_true rfl) (Or.inl rfl) rfl rfl rfl tw_8_206 dX12_value_2 ?_
  refine x_mu (fun μ12 e_μ12 => ?_)
  have h := h μ12 e_μ12
  refine x_aload_n C rfl 0 rfl dX12_value_5 ?_
  refine x_iload_n C rfl 2 rfl dX12_value_6 ?_
  refine x_callV (dC := G12_isLetter_dep) (as := [.int v2]) (st := []) C rfl (Nat.le_trans (Nat.le_of_ble_eq_true rfl) hd) (Nat.le_of_ble_eq_true rfl) ob358.1 ob358.2 (Nat.le_of_ble_eq_true rfl) rfl ts_8_15 tw_7_1 tw_6_239 tc_7_2 tw_1_13 hyX12 hnX12_isLetter rfl (Nat.le_of_ble_eq_true rfl) dX12_value_7 (G12_isLetter_met C.2.2.2.2.2.2.2.1 (Nat.le_refl _)  h) (fun r0 μ13 hq => ?_)
  obtain ⟨r14, rfl, h⟩ := hq
  refine x_st [.int r14] rfl ?_
  refine x_if_eq (tgt := 21) C dX12_value_10 (by decide) (fun c15 => ?_) (fun c15 => ?_)
  · have h := h.1 c15
    refine x_sub [(0, .ref 358)] [0] rfl ?_
    exact G12_value_J21_ok C hd hr  h
  · have h := h.2 c15
    refine x_aload_n C rfl 0 rfl dX12_value_13 ?_
    refine x_iload_n C rfl 1 rfl dX12_value_14 ?_
    refine x_callV (dC := G12_isTold_dep) (as := [.int v1]) (st := []) C rfl (Nat.le_trans (Nat.le_of_ble_eq_true rfl) hd) (Nat.le_of_ble_eq_true rfl) ob358.1 ob358.2 (Nat.le_of_ble_eq_true rfl) rfl ts_9_8 tw_7_92 tw_7_90 tc_7_93 tw_1_13 hyX12 hnX12_isTold rfl (Nat.le_of_ble_eq_true rfl) dX12_value_15 (G12_isTold_met C.2.2.2.2.2.2.2.1 (Nat.le_refl _)  h) (fun r0 μ18 hq => ?_)
    obtain ⟨r19, rfl, h⟩ := hq
    refine x_st [.int r19] rfl ?_
    refine x_if_ne (tgt := 26) C dX12_value_18 (by decide) (fun c20 => ?_) (fun c20 => ?_)
    · have h := h.1 c20
      refine x_aload_n C rfl 0 rfl dX12_value_26 ?_
      refine x_aload_n C rfl 0 rfl dX12_value_27 ?_
      refine x_getR (r := 367) C (j := 13) ob358.1 ob358.2 (Nat.le_of_ble_eq_true rfl) (Nat.le_of_ble_eq_true rfl) (fun _ _ _ => rfl) r_358_13 tw_8_219 dX12_value_28 ?_
      refine x_iload_n C rfl 2 rfl dX12_value_31 ?_
      obtain ⟨c21, h⟩ := h
      refine x_iald C ob367.1 ob367.2 c21 rfl dX12_value_32 ?_
      refine x_callV (dC := G12_countsTill_dep) (as := [.int (gI μ18 367 v2.toNatClampNeg)]) (st := []) C rfl (Nat.le_trans (Nat.le_of_ble_eq_true rfl) hd) (Nat.le_of_ble_eq_true rfl) ob358.1 ob358.2 (Nat.le_of_ble_eq_true rfl) rfl ts_9_9 tw_7_96 tw_7_94 tc_7_97 tw_1_13 hyX12 hnX12_countsTill rfl (Nat.le_of_ble_eq_true rfl) dX12_value_33 (G12_countsTill_met C.2.2.2.2.2.2.2.1 (Nat.le_refl _)  h) (fun r0 μ22 hq => ?_)
      obtain ⟨rfl, h⟩ := hq
      refine x_st [] rfl ?_
      refine x_aload_n C rfl 0 rfl dX12_value_36 ?_
      refine x_iload_n C rfl 1 rfl dX12_value_37 ?_
      refine x_iload_n C rfl 2 rfl dX12_value_38 ?_
      refine x_callV (dC := G12_worked_dep) (as := [.int v1, .int v2]) (st := []) C rfl (Nat.le_trans (Nat.le_of_ble_eq_true rfl) hd) (Nat.le_of_ble_eq_true rfl) ob358.1 ob358.2 (Nat.le_of_ble_eq_true rfl) rfl ts_9_10 tw_7_101 tw_7_99 tc_7_102 tw_1_13 hyX12 hnX12_worked rfl (Nat.le_of_ble_eq_true rfl) dX12_value_39 (G12_worked_met C.2.2.2.2.2.2.2.1 (Nat.le_refl _)  h) (fun r0 μ23 hq => ?_)
      obtain ⟨r24, rfl, h⟩ := hq
      refine x_st [.int r24] rfl ?_
      exact x_iret C hr dX12_value_42 ⟨_, rfl, h⟩
    · have h := h.2 c20
      refine x_sub [(0, .ref 358)] [0] rfl ?_
      exact G12_value_J21_ok C hd hr  h
set_option maxHeartbeats 4000000 in
set_option maxRecDepth 100000 in
theorem G12_read_J164_ok {p : Program} {e : Env} {s : State} {m : MethodId} {args : Array Value} {below : List Frame} {meth : Method} {c : Code} {l : Launch} {φ : Nat → Nat} {tc : Nat → ClassId} {D : va_G} {s0 : State} {dR : Nat} (C : CX p s m args meth c φ tc D s0 cX12_read RX12 7) (hd : G12_read_dep ≤ dR) (hr : meth.sig.returnType = (some .int))  {p1 : Int32} {p2 : Int32} {p3 : Int32} {p4 : Int32} {q0 : Int32} {q1 : Int32} {Q : Int32 → MM → Prop} {K23 : Int32 × Int32 × MM → Prop} {μ : MM}   (hK23 : ∀ (z2 : Int32) (z3 : Int32) (zμ : MM), K23 (z2, z3, zμ) → WX p l e (rmX dR) s m args below meth c φ tc D 7 (MQ below (QX φ tc D (QI Q)) args s 0 0 (AX φ)) 23 [(0, .ref 358), (1, .int p1), (2, .int z2), (3, .int z3)] [] zμ) (h : G12_read_J164 p1 p2 p3 p4 q0 q1 μ K23 Q) : WX p l e (rmX dR) s m args below meth c φ tc D 7 (MQ below (QX φ tc D (QI Q)) args s 0 0 (AX φ)) 164 [(0, .ref 358), (1, .int p1), (2, .int p2), (3, .int p3), (4, .int p4)] [.int q0, .int q1, .ref 374] μ := by
  unfold G12_read_J164 at h
  obtain ⟨c39, h⟩ := h
  refine x_zast C ob374.1 ob374.2 c39 rfl dX12_read_164 ?_
  refine x_mu (fun μ40 e_μ40 => ?_)
  have h := h μ40 e_μ40
  refine x_aload_n C rfl 0 rfl dX12_read_165 ?_
  refine x_getR (r := 373) C (j := 19) ob358.1 ob358.2 (Nat.le_of_ble_eq_true rfl) (Nat.le_of_ble_eq_true rfl) (fun _ _ _ => rfl) r_358_19 tw_8_225 dX12_read_166 ?_
  refine x_iload C 4 rfl dX12_read_169 ?_
  refine x_iconst (v := 1) C (by decide) dX12_read_171 ?_
  obtain ⟨c41, h⟩ := h
  refine x_zast C ob373.1 ob373.2 c41 rfl dX12_read_172 ?_
  refine x_mu (fun μ42 e_μ42 => ?_)
  have h := h μ42 e_μ42
  refine x_iload_n C rfl 2 rfl dX12_read_173 ?_
  refine x_aload_n C rfl 0 rfl dX12_read_174 ?_
  refine x_getR (r := 374) C (j := 20) ob358.1 ob358.2 (Nat.le_of_ble_eq_true rfl) (Nat.le_of_ble_eq_true rfl) (fun _ _ _ => rfl) r_358_20 tw_8_226 dX12_read_175 ?_
  refine x_iload C 4 rfl dX12_read_178 ?_
  obtain ⟨c43, h⟩ := h
  refine x_zald C ob374.1 ob374.2 c43 rfl dX12_read_180 ?_
  refine x_callS (dC := G12_flag_dep) (as := [.int (gI μ42 374 p4.toNatClampNeg)]) (st := [.int p2]) C rfl (Nat.le_trans (Nat.le_of_ble_eq_true rfl) hd) (Nat.le_of_ble_eq_true rfl) tw_6_212 tw_6_211 tc_6_213 tw_1_13 hyX12 hnX12_flag rfl (Nat.le_of_ble_eq_true rfl) dX12_read_181 (G12_flag_met C.2.2.2.2.2.2.2.1 (Nat.le_refl _)  h) (fun r0 μ44 hq => ?_)
  obtain ⟨r45, rfl, h⟩ := hq
  refine x_st [.int r45, .int p2] rfl ?_
  refine x_iadd C dX12_read_184 ?_
  refine x_topi (fun y46 e_y46 => ?_)
  have h := h y46 e_y46
  refine x_istore_n C [(2, .int y46), (0, .ref 358), (1, .int p1), (3, .int p3), (4, .int p4)] rfl (Nat.le_of_ble_eq_true rfl) rfl dX12_read_185 ?_
  refine x_iinc (v := (p3 + 1)) C [(3, .int (p3 + 1)), (2, .int y46), (0, .ref 358), (1, .int p1), (4, .int p4)] 3 rfl (congrArg (fun z => p3 + z) (by decide : Int32.ofInt (1) = 1)) (Nat.le_of_ble_eq_true rfl) rfl dX12_read_186 ?_
  refine x_goto (tgt := 23) C dX12_read_189 (by decide) ?_
  refine x_sub [(0, .ref 358), (1, .int p1), (2, .int y46), (3, .int (p3 + 1))] [2, 3, 1, 0] rfl ?_
  exact hK23 _ _ _ h
set_option maxHeartbeats 4000000 in
set_option maxRecDepth 100000 in
theorem G12_read_J163_ok {p : Program} {e : Env} {s : State} {m : MethodId} {args : Array Value} {below : List Frame} {meth : Method} {c : Code} {l : Launch} {φ : Nat → Nat} {tc : Nat → ClassId} {D : va_G} {s0 : State} {dR : Nat} (C : CX p s m args meth c φ tc D s0 cX12_read RX12 7) (hd : G12_read_dep ≤ dR) (hr : meth.sig.returnType = (some .int))  {p1 : Int32} {p2 : Int32} {p3 : Int32} {p4 : Int32} {q0 : Int32} {Q : Int32 → MM → Prop} {K23 : Int32 × Int32 × MM → Prop} {μ : MM}   (hK23 : ∀ (z2 : Int32) (z3 : Int32) (zμ : MM), K23 (z2, z3, zμ) → WX p l e (rmX dR) s m args below meth c φ tc D 7 (MQ below (QX φ tc D (QI Q)) args s 0 0 (AX φ)) 23 [(0, .ref 358), (1, .int p1), (2, .int z2), (3, .int z3)] [] zμ) (h : G12_read_J163 p1 p2 p3 p4 q0 μ K23 Q) : WX p l e (rmX dR) s m args below meth c φ tc D 7 (MQ below (QX φ tc D (QI Q)) args s 0 0 (AX φ)) 163 [(0, .ref 358), (1, .int p1), (2, .int p2), (3, .int p3), (4, .int p4)] [.int q0, .ref 374] μ := by
  unfold G12_read_J163 at h
  refine x_iconst (v := 0) C (by decide) dX12_read_163 ?_
  exact G12_read_J164_ok C hd hr hK23 h
set_option maxHeartbeats 4000000 in
set_option maxRecDepth 100000 in
theorem G12_read_J80_ok {p : Program} {e : Env} {s : State} {m : MethodId} {args : Array Value} {below : List Frame} {meth : Method} {c : Code} {l : Launch} {φ : Nat → Nat} {tc : Nat → ClassId} {D : va_G} {s0 : State} {dR : Nat} (C : CX p s m args meth c φ tc D s0 cX12_read RX12 7) (hd : G12_read_dep ≤ dR) (hr : meth.sig.returnType = (some .int))  {p1 : Int32} {p2 : Int32} {p3 : Int32} {p4 : Int32} {p5 : Int32} {Q : Int32 → MM → Prop} {K23 : Int32 × Int32 × MM → Prop} {K34 : Int32 × Int32 × MM → Prop} {μ : MM}   (hK23 : ∀ (z2 : Int32) (z3 : Int32) (zμ : MM), K23 (z2, z3, zμ) → WX p l e (rmX dR) s m args below meth c φ tc D 7 (MQ below (QX φ tc D (QI Q)) args s 0 0 (AX φ)) 23 [(0, .ref 358), (1, .int p1), (2, .int z2), (3, .int z3)] [] zμ) (hK34 : ∀ (z4 : Int32) (z5 : Int32) (zμ : MM), K34 (z4, z5, zμ) → WX p l e (rmX dR) s m args below meth c φ tc D 7 (MQ below (QX φ tc D (QI Q)) args s 0 0 (AX φ)) 34 [(0, .ref 358), (1, .int p1), (2, .int p2), (3, .int p3), (4, .int z4), (5, .int z5)] [] zμ) (h : G12_read_J80 p1 p2 p3 p4 p5 μ K23 K34 Q) : WX p l e (rmX dR) s m args below meth c φ tc D 7 (MQ below (QX φ tc D (QI Q)) args s 0 0 (AX φ)) 80 [(0, .ref 358), (1, .int p1), (2, .int p2), (3, .int p3), (4, .int p4), (5, .int p5)] [] μ := by
  unfold G12_read_J80 at h
  refine x_iload C 4 rfl dX12_read_80 ?_
  refine x_istore C [(4, .int p4), (0, .ref 358), (1, .int p1), (2, .int p2), (3, .int p3), (5, .int p5)] (Nat.le_of_ble_eq_true rfl) rfl dX12_read_82 ?_
  refine x_iinc (v := (p5 + 1)) C [(5, .int (p5 + 1)), (4, .int p4), (0, .ref 358), (1, .int p1), (2, .int p2), (3, .int p3)] 5 rfl (congrArg (fun z => p5 + z) (by decide : Int32.ofInt (1) = 1)) (Nat.le_of_ble_eq_true rfl) rfl dX12_read_84 ?_
  refine x_goto (tgt := 34) C dX12_read_87 (by decide) ?_
  refine x_sub [(0, .ref 358), (1, .int p1), (2, .int p2), (3, .int p3), (4, .int p4), (5, .int (p5 + 1))] [2, 3, 4, 5, 1, 0] rfl ?_
  exact hK34 _ _ _ h
set_option maxHeartbeats 4000000 in
set_option maxRecDepth 100000 in
theorem G12_read_L34_b {p : Program} {e : Env} {s : State} {m : MethodId} {args : Array Value} {below : List Frame} {meth : Method} {c : Code} {l : Launch} {φ : Nat → Nat} {tc : Nat → ClassId} {D : va_G} {s0 : State} {dR : Nat} (C : CX p s m args meth c φ tc D s0 cX12_read RX12 7) (hd : G12_read_dep ≤ dR) (hr : meth.sig.returnType = (some .int))  {p1 : Int32} {p2 : Int32} {p3 : Int32} {Q : Int32 → MM → Prop} {K23 : Int32 × Int32 × MM → Prop} {K34 : Int32 × Int32 × MM → Prop} {x : Int32 × Int32 × MM}   (hK23 : ∀ (z2 : Int32) (z3 : Int32) (zμ : MM), K23 (z2, z3, zμ) → WX p l e (rmX dR) s m args below meth c φ tc D 7 (MQ below (QX φ tc D (QI Q)) args s 0 0 (AX φ)) 23 [(0, .ref 358), (1, .int p1), (2, .int z2), (3, .int z3)] [] zμ) (hK34 : ∀ (z4 : Int32) (z5 : Int32) (zμ : MM), K34 (z4, z5, zμ) → WX p l e (rmX dR) s m args below meth c φ tc D 7 (MQ below (QX φ tc D (QI Q)) args s 0 0 (AX φ)) 34 [(0, .ref 358), (1, .int p1), (2, .int p2), (3, .int p3), (4, .int z4), (5, .int z5)] [] zμ) (h : G12_read_L34 p1 p2 p3 K23 Q K34 x) : WX p l e (rmX dR) s m args below meth c φ tc D 7 (MQ below (QX φ tc D (QI Q)) args s 0 0 (AX φ)) 34 [(0, .ref 358), (1, .int p1), (2, .int p2), (3, .int p3), (4, .int x.1), (5, .int x.2.1)] [] x.2.2 := by
  unfold G12_read_L34 at h
  refine x_iload C 5 rfl dX12_read_34 ?_
  refine x_aload_n C rfl 0 rfl dX12_read_36 ?_
  refine x_getI C (j := 12) ob358.1 ob358.2 (Nat.le_of_ble_eq_true rfl) (Nat.le_of_ble_eq_true rfl) (Or.inl rfl) tw_8_218 dX12_read_37 ?_
  refine x_icmp_ge (tgt := 90) C dX12_read_40 (by decide) (fun c28 => ?_) (fun c28 => ?_)
  · have h := h.1 c28
    refine x_iload C 4 rfl dX12_read_90 ?_
    refine x_if_ge (tgt := 97) C dX12_read_92 (by decide) (fun c29 => ?_) (fun c29 => ?_)
    · have h := h.1 c29
      refine x_aload_n C rfl 0 rfl dX12_read_97 ?_
      refine x_bipush (v := 100) C (by decide) dX12_read_98 ?_
      refine x_callV (dC := G12_draws_dep) (as := [.int 100]) (st := []) C rfl (Nat.le_trans (Nat.le_of_ble_eq_true rfl) hd) (Nat.le_of_ble_eq_true rfl) ob358.1 ob358.2 (Nat.le_of_ble_eq_true rfl) rfl ts_8_13 tw_6_228 tw_6_226 tc_6_229 tw_1_13 hyX12 hnX12_draws rfl (Nat.le_of_ble_eq_true rfl) dX12_read_100 (G12_draws_met C.2.2.2.2.2.2.2.1 (Nat.le_refl _)  h) (fun r0 μ30 hq => ?_)
      obtain ⟨r31, rfl, h⟩ := hq
      refine x_st [.int r31] rfl ?_
      refine x_istore C [(5, .int r31), (0, .ref 358), (1, .int p1), (2, .int p2), (3, .int p3), (4, .int x.1)] (Nat.le_of_ble_eq_true rfl) rfl dX12_read_103 ?_
      refine x_aload_n C rfl 1 rfl dX12_read_105 ?_
      refine x_getR (r := 366) C (j := 11) ob358.1 ob358.2 (Nat.le_of_ble_eq_true rfl) (Nat.le_of_ble_eq_true rfl) (fun _ _ _ => rfl) r_358_11 tw_8_217 dX12_read_106 ?_
      refine x_aload_n C rfl 1 rfl dX12_read_109 ?_
      refine x_getR (r := 367) C (j := 13) ob358.1 ob358.2 (Nat.le_of_ble_eq_true rfl) (Nat.le_of_ble_eq_true rfl) (fun _ _ _ => rfl) r_358_13 tw_8_219 dX12_read_110 ?_
      refine x_iload C 5 rfl dX12_read_113 ?_
      obtain ⟨c32, h⟩ := h
      refine x_iald C ob367.1 ob367.2 c32 rfl dX12_read_115 ?_
      obtain ⟨c33, h⟩ := h
      refine x_iald C ob366.1 ob366.2 c33 rfl dX12_read_116 ?_
      refine x_topi (fun y34 e_y34 => ?_)
      have h := h y34 e_y34
      refine x_istore C [(6, .int y34), (5, .int r31), (0, .ref 358), (1, .int p1), (2, .int p2), (3, .int p3), (4, .int x.1)] (Nat.le_of_ble_eq_true rfl) rfl dX12_read_117 ?_
      refine x_aload_n C rfl 2 rfl dX12_read_119 ?_
      refine x_aload_n C rfl 2 rfl dX12_read_120 ?_
      refine x_getR (r := 367) C (j := 13) ob358.1 ob358.2 (Nat.le_of_ble_eq_true rfl) (Nat.le_of_ble_eq_true rfl) (fun _ _ _ => rfl) r_358_13 tw_8_219 dX12_read_121 ?_
      refine x_iload C 6 rfl dX12_read_124 ?_
      obtain ⟨c35, h⟩ := h
      refine x_iald C ob367.1 ob367.2 c35 rfl dX12_read_126 ?_
      refine x_callV (dC := G12_countsTill_dep) (as := [.int (gI μ30 367 x.1.toNatClampNeg)]) (st := []) C rfl (Nat.le_trans (Nat.le_of_ble_eq_true rfl) hd) (Nat.le_of_ble_eq_true rfl) ob358.1 ob358.2 (Nat.le_of_ble_eq_true rfl) rfl ts_9_9 tw_7_96 tw_7_94 tc_7_97 tw_1_13 hyX12 hnX12_countsTill rfl (Nat.le_of_ble_eq_true rfl) dX12_read_127 (G12_countsTill_met C.2.2.2.2.2.2.2.1 (Nat.le_refl _)  h) (fun r0 μ36 hq => ?_)
      obtain ⟨rfl, h⟩ := hq
      refine x_st [] rfl ?_
      refine x_aload_n C rfl 2 rfl dX12_read_130 ?_
      refine x_getR (r := 374) C (j := 20) ob358.1 ob358.2 (Nat.le_of_ble_eq_true rfl) (Nat.le_of_ble_eq_true rfl) (fun _ _ _ => rfl) r_358_20 tw_8_226 dX12_read_131 ?_
      refine x_iload C 6 rfl dX12_read_134 ?_
      refine x_aload_n C rfl 2 rfl dX12_read_136 ?_
      refine x_getR (r := 378) C (j := 25) ob358.1 ob358.2 (Nat.le_of_ble_eq_true rfl) (Nat.le_of_ble_eq_true rfl) (fun _ _ _ => rfl) r_358_25 tw_8_231 dX12_read_137 ?_
      refine x_iload C 0 rfl dX12_read_140 ?_
      obtain ⟨c37, h⟩ := h
      refine x_iald C ob378.1 ob378.2 c37 rfl dX12_read_142 ?_
      refine x_if_le (tgt := 163) C dX12_read_143 (by decide) (fun c38 => ?_) (fun c38 => ?_)
      · have h := h.1 c38
        refine x_sub [(0, .ref 358), (1, .int p1), (2, .int p2), (3, .int p3), (4, .int x.1)] [2, 3, 4, 5, 6] rfl ?_
        exact G12_read_J163_ok C hd hr hK23 h
      · have h := h.2 c38
        refine x_iload C 1 rfl dX12_read_146 ?_
        refine x_aload_n C rfl 2 rfl dX12_read_148 ?_
        refine x_iload C 0 rfl dX12_read_149 ?_
        refine x_iload C 6 rfl dX12_read_151 ?_
        refine x_callV (dC := G12_worked_dep) (as := [.int y34, .int x.1]) (st := [.int r31, .int x.1, .ref 374]) C rfl (Nat.le_trans (Nat.le_of_ble_eq_true rfl) hd) (Nat.le_of_ble_eq_true rfl) ob358.1 ob358.2 (Nat.le_of_ble_eq_true rfl) rfl ts_9_10 tw_7_101 tw_7_99 tc_7_102 tw_1_13 hyX12 hnX12_worked rfl (Nat.le_of_ble_eq_true rfl) dX12_read_153 (G12_worked_met C.2.2.2.2.2.2.2.1 (Nat.le_refl _)  h) (fun r0 μ47 hq => ?_)
        obtain ⟨r48, rfl, h⟩ := hq
        refine x_st [.int r48, .int r31, .int x.1, .ref 374] rfl ?_
        refine x_icmp_ge (tgt := 163) C dX12_read_156 (by decide) (fun c49 => ?_) (fun c49 => ?_)
        · have h := h.1 c49
          refine x_sub [(0, .ref 358), (1, .int p1), (2, .int p2), (3, .int p3), (4, .int x.1)] [2, 3, 4, 5, 6] rfl ?_
          exact G12_read_J163_ok C hd hr hK23 h
        · have h := h.2 c49
          refine x_iconst (v := 1) C (by decide) dX12_read_159 ?_
          refine x_goto (tgt := 164) C dX12_read_160 (by decide) ?_
          refine x_sub [(0, .ref 358), (1, .int p1), (2, .int p2), (3, .int p3), (4, .int x.1)] [2, 3, 4, 5, 6] rfl ?_
          exact G12_read_J164_ok C hd hr hK23 h
    · have h := h.2 c29
      refine x_iload_n C rfl 2 rfl dX12_read_95 ?_
      exact x_iret C hr dX12_read_96 ⟨_, rfl, h⟩
  · have h := h.2 c28
    refine x_aload_n C rfl 0 rfl dX12_read_43 ?_
    refine x_getR (r := 373) C (j := 19) ob358.1 ob358.2 (Nat.le_of_ble_eq_true rfl) (Nat.le_of_ble_eq_true rfl) (fun _ _ _ => rfl) r_358_19 tw_8_225 dX12_read_44 ?_
    refine x_iload C 5 rfl dX12_read_47 ?_
    obtain ⟨c50, h⟩ := h
    refine x_zald C ob373.1 ob373.2 c50 rfl dX12_read_49 ?_
    refine x_if_ne (tgt := 80) C dX12_read_50 (by decide) (fun c51 => ?_) (fun c51 => ?_)
    · have h := h.1 c51
      exact G12_read_J80_ok C hd hr hK23 hK34 h
    · have h := h.2 c51
      refine x_iload C 4 rfl dX12_read_53 ?_
      refine x_if_lt (tgt := 75) C dX12_read_55 (by decide) (fun c52 => ?_) (fun c52 => ?_)
      · have h := h.1 c52
        refine x_iload C 5 rfl dX12_read_75 ?_
        refine x_goto (tgt := 82) C dX12_read_77 (by decide) ?_
        refine x_istore C [(4, .int x.2.1), (0, .ref 358), (1, .int p1), (2, .int p2), (3, .int p3), (5, .int x.2.1)] (Nat.le_of_ble_eq_true rfl) rfl dX12_read_82 ?_
        refine x_iinc (v := (x.2.1 + 1)) C [(5, .int (x.2.1 + 1)), (4, .int x.2.1), (0, .ref 358), (1, .int p1), (2, .int p2), (3, .int p3)] 5 rfl (congrArg (fun z => x.2.1 + z) (by decide : Int32.ofInt (1) = 1)) (Nat.le_of_ble_eq_true rfl) rfl dX12_read_84 ?_
        refine x_goto (tgt := 34) C dX12_read_87 (by decide) ?_
        refine x_sub [(0, .ref 358), (1, .int p1), (2, .int p2), (3, .int p3), (4, .int x.2.1), (5, .int (x.2.1 + 1))] [2, 3, 4, 5, 1, 0] rfl ?_
        exact hK34 _ _ _ h
      · have h := h.2 c52
        refine x_aload_n C rfl 0 rfl dX12_read_58 ?_
        refine x_getR (r := 372) C (j := 18) ob358.1 ob358.2 (Nat.le_of_ble_eq_true rfl) (Nat.le_of_ble_eq_true rfl) (fun _ _ _ => rfl) r_358_18 tw_8_224 dX12_read_59 ?_
        refine x_iload C 5 rfl dX12_read_62 ?_
        obtain ⟨c53, h⟩ := h
        refine x_iald C ob372.1 ob372.2 c53 rfl dX12_read_64 ?_
        refine x_aload_n C rfl 0 rfl dX12_read_65 ?_
        refine x_getR (r := 372) C (j := 18) ob358.1 ob358.2 (Nat.le_of_ble_eq_true rfl) (Nat.le_of_ble_eq_true rfl) (fun _ _ _ => rfl) r_358_18 tw_8_224 dX12_read_66 ?_
        refine x_iload C 4 rfl dX12_read_69 ?_
        obtain ⟨c54, h⟩ := h
        refine x_iald C ob372.1 ob372.2 c54 rfl dX12_read_71 ?_
        refine x_icmp_ge (tgt := 80) C dX12_read_72 (by decide) (fun c55 => ?_) (fun c55 => ?_)
        · have h := h.1 c55
          exact G12_read_J80_ok C hd hr hK23 hK34 h
        · have h := h.2 c55
          refine x_iload C 5 rfl dX12_read_75 ?_
          refine x_goto (tgt := 82) C dX12_read_77 (by decide) ?_
          refine x_istore C [(4, .int x.2.1), (0, .ref 358), (1, .int p1), (2, .int p2), (3, .int p3), (5, .int x.2.1)] (Nat.le_of_ble_eq_true rfl) rfl dX12_read_82 ?_
          refine x_iinc (v := (x.2.1 + 1)) C [(5, .int (x.2.1 + 1)), (4, .int x.2.1), (0, .ref 358), (1, .int p1), (2, .int p2), (3, .int p3)] 5 rfl (congrArg (fun z => x.2.1 + z) (by decide : Int32.ofInt (1) = 1)) (Nat.le_of_ble_eq_true rfl) rfl dX12_read_84 ?_
          refine x_goto (tgt := 34) C dX12_read_87 (by decide) ?_
          refine x_sub [(0, .ref 358), (1, .int p1), (2, .int p2), (3, .int p3), (4, .int x.2.1), (5, .int (x.2.1 + 1))] [2, 3, 4, 5, 1, 0] rfl ?_
          exact hK34 _ _ _ h
theorem G12_read_L34_ok {p : Program} {e : Env} {s : State} {m : MethodId} {args : Array Value} {below : List Frame} {meth : Method} {c : Code} {l : Launch} {φ : Nat → Nat} {tc : Nat → ClassId} {D : va_G} {s0 : State} {dR : Nat} (C : CX p s m args meth c φ tc D s0 cX12_read RX12 7) (hd : G12_read_dep ≤ dR) (hr : meth.sig.returnType = (some .int))  {p1 : Int32} {p2 : Int32} {p3 : Int32} {Q : Int32 → MM → Prop} {K23 : Int32 × Int32 × MM → Prop} {x : Int32 × Int32 × MM}   (hK23 : ∀ (z2 : Int32) (z3 : Int32) (zμ : MM), K23 (z2, z3, zμ) → WX p l e (rmX dR) s m args below meth c φ tc D 7 (MQ below (QX φ tc D (QI Q)) args s 0 0 (AX φ)) 23 [(0, .ref 358), (1, .int p1), (2, .int z2), (3, .int z3)] [] zμ) (h : Lp (G12_read_L34 p1 p2 p3 K23 Q) x) : WX p l e (rmX dR) s m args below meth c φ tc D 7 (MQ below (QX φ tc D (QI Q)) args s 0 0 (AX φ)) 34 [(0, .ref 358), (1, .int p1), (2, .int p2), (3, .int p3), (4, .int x.1), (5, .int x.2.1)] [] x.2.2 := by
  obtain ⟨n, h⟩ := h
  induction n generalizing x with
  | zero => exact h.elim
  | succ n ih => exact G12_read_L34_b C hd hr  hK23 (fun z4 z5 zμ hz => by have q := ih hz; exact q) h
set_option maxHeartbeats 4000000 in
set_option maxRecDepth 100000 in
theorem G12_read_L23_b {p : Program} {e : Env} {s : State} {m : MethodId} {args : Array Value} {below : List Frame} {meth : Method} {c : Code} {l : Launch} {φ : Nat → Nat} {tc : Nat → ClassId} {D : va_G} {s0 : State} {dR : Nat} (C : CX p s m args meth c φ tc D s0 cX12_read RX12 7) (hd : G12_read_dep ≤ dR) (hr : meth.sig.returnType = (some .int))  {p1 : Int32} {Q : Int32 → MM → Prop} {K23 : Int32 × Int32 × MM → Prop} {x : Int32 × Int32 × MM}   (hK23 : ∀ (z2 : Int32) (z3 : Int32) (zμ : MM), K23 (z2, z3, zμ) → WX p l e (rmX dR) s m args below meth c φ tc D 7 (MQ below (QX φ tc D (QI Q)) args s 0 0 (AX φ)) 23 [(0, .ref 358), (1, .int p1), (2, .int z2), (3, .int z3)] [] zμ) (h : G12_read_L23 p1 Q K23 x) : WX p l e (rmX dR) s m args below meth c φ tc D 7 (MQ below (QX φ tc D (QI Q)) args s 0 0 (AX φ)) 23 [(0, .ref 358), (1, .int p1), (2, .int x.1), (3, .int x.2.1)] [] x.2.2 := by
  unfold G12_read_L23 at h
  refine x_iload_n C rfl 3 rfl dX12_read_23 ?_
  refine x_iload_n C rfl 1 rfl dX12_read_24 ?_
  refine x_icmp_ge (tgt := 192) C dX12_read_25 (by decide) (fun c27 => ?_) (fun c27 => ?_)
  · have h := h.1 c27
    refine x_iload_n C rfl 2 rfl dX12_read_192 ?_
    exact x_iret C hr dX12_read_193 ⟨_, rfl, h⟩
  · have h := h.2 c27
    refine x_iconst (v := (-1)) C (by decide) dX12_read_28 ?_
    refine x_istore C [(4, .int (-1)), (0, .ref 358), (1, .int p1), (2, .int x.1), (3, .int x.2.1)] (Nat.le_of_ble_eq_true rfl) rfl dX12_read_29 ?_
    refine x_iconst (v := 0) C (by decide) dX12_read_31 ?_
    refine x_istore C [(5, .int 0), (4, .int (-1)), (0, .ref 358), (1, .int p1), (2, .int x.1), (3, .int x.2.1)] (Nat.le_of_ble_eq_true rfl) rfl dX12_read_32 ?_
    refine x_sub [(0, .ref 358), (1, .int p1), (2, .int x.1), (3, .int x.2.1), (4, .int (-1)), (5, .int 0)] [2, 3, 4, 5, 1, 0] rfl ?_
    exact G12_read_L34_ok C hd hr hK23 h
theorem G12_read_L23_ok {p : Program} {e : Env} {s : State} {m : MethodId} {args : Array Value} {below : List Frame} {meth : Method} {c : Code} {l : Launch} {φ : Nat → Nat} {tc : Nat → ClassId} {D : va_G} {s0 : State} {dR : Nat} (C : CX p s m args meth c φ tc D s0 cX12_read RX12 7) (hd : G12_read_dep ≤ dR) (hr : meth.sig.returnType = (some .int))  {p1 : Int32} {Q : Int32 → MM → Prop}  {x : Int32 × Int32 × MM}    (h : Lp (G12_read_L23 p1 Q) x) : WX p l e (rmX dR) s m args below meth c φ tc D 7 (MQ below (QX φ tc D (QI Q)) args s 0 0 (AX φ)) 23 [(0, .ref 358), (1, .int p1), (2, .int x.1), (3, .int x.2.1)] [] x.2.2 := by
  obtain ⟨n, h⟩ := h
  induction n generalizing x with
  | zero => exact h.elim
  | succ n ih => exact G12_read_L23_b C hd hr   (fun z2 z3 zμ hz => by have q := ih hz; exact q) h
set_option maxHeartbeats 4000000 in
set_option maxRecDepth 100000 in
theorem G12_read_met {l : Launch} {φ : Nat → Nat} {tc : Nat → ClassId} {D : va_G} {s0 : State} (hG : GX φ tc D s0) {dR : Nat} (hd : G12_read_dep ≤ dR) {v1 : Int32} {μ : MM} {Q : Int32 → MM → Prop}  (h : G12_read v1 μ Q) : MX l φ tc D s0 dR yX12_read cX12_read 7 (some .int) [.ref 358, .int v1] μ (QI Q) := by
  refine MX.of (own := RX12) hG plX12 rfl (Nat.le_of_ble_eq_true rfl) (fun p e s m args below meth c C hr => ?_)
  refine x_sub [(0, .ref 358), (1, .int v1)] [0, 1] rfl ?_
  unfold G12_read at h
  refine x_aload_n C rfl 0 rfl dX12_read_0 ?_
  refine x_iconst (v := 0) C (by decide) dX12_read_1 ?_
  refine x_putI C (j := 0) ob358.1 ob358.2 (Nat.le_of_ble_eq_true rfl) (Nat.le_of_ble_eq_true rfl) (Or.inl rfl) rfl rfl rfl tw_8_206 dX12_read_2 ?_
  refine x_mu (fun μ23 e_μ23 => ?_)
  have h := h μ23 e_μ23
  refine x_iload_n C rfl 1 rfl dX12_read_5 ?_
  refine x_i2l C dX12_read_6 ?_
  refine x_lconst (v := 0) C (by decide) dX12_read_7 ?_
  refine x_ldc2 (v := 96) C tw_7_114 dX12_read_8 ?_
  refine x_callS (dC := G12_in_dep) (as := [.long (v1.toInt64), .long 0, .long 96]) (st := []) C rfl (Nat.le_trans (Nat.le_of_ble_eq_true rfl) hd) (Nat.le_of_ble_eq_true rfl) tw_6_183 tw_6_182 tc_6_184 tw_1_13 hyX12 hnX12_in rfl (Nat.le_of_ble_eq_true rfl) dX12_read_11 (G12_in_met C.2.2.2.2.2.2.2.1 (Nat.le_refl _)  h) (fun r0 μ24 hq => ?_)
  obtain ⟨r25, rfl, h⟩ := hq
  refine x_st [.int r25] rfl ?_
  refine x_if_ne (tgt := 19) C dX12_read_14 (by decide) (fun c26 => ?_) (fun c26 => ?_)
  · have h := h.1 c26
    refine x_iconst (v := 0) C (by decide) dX12_read_19 ?_
    refine x_istore_n C [(2, .int 0), (0, .ref 358), (1, .int v1)] rfl (Nat.le_of_ble_eq_true rfl) rfl dX12_read_20 ?_
    refine x_iconst (v := 0) C (by decide) dX12_read_21 ?_
    refine x_istore_n C [(3, .int 0), (2, .int 0), (0, .ref 358), (1, .int v1)] rfl (Nat.le_of_ble_eq_true rfl) rfl dX12_read_22 ?_
    refine x_sub [(0, .ref 358), (1, .int v1), (2, .int 0), (3, .int 0)] [2, 3, 1, 0] rfl ?_
    exact G12_read_L23_ok C hd hr  h
  · have h := h.2 c26
    refine x_iconst (v := (-1)) C (by decide) dX12_read_17 ?_
    exact x_iret C hr dX12_read_18 ⟨_, rfl, h⟩
set_option maxHeartbeats 4000000 in
set_option maxRecDepth 100000 in
theorem G12_ring_met {l : Launch} {φ : Nat → Nat} {tc : Nat → ClassId} {D : va_G} {s0 : State} (hG : GX φ tc D s0) {dR : Nat} (hd : G12_ring_dep ≤ dR) {v1 : Int32} {v2 : Int32} {μ : MM} {Q : Int32 → MM → Prop}  (h : G12_ring v1 v2 μ Q) : MX l φ tc D s0 dR yX12_ring cX12_ring 3 (some .boolean) [.ref 358, .int v1, .int v2] μ (QI Q) := by
  refine MX.of (own := RX12) hG plX12 rfl (Nat.le_of_ble_eq_true rfl) (fun p e s m args below meth c C hr => ?_)
  refine x_sub [(0, .ref 358), (1, .int v1), (2, .int v2)] [0, 1, 2] rfl ?_
  unfold G12_ring at h
  refine x_aload_n C rfl 0 rfl dX12_ring_0 ?_
  refine x_iconst (v := 0) C (by decide) dX12_ring_1 ?_
  refine x_putI C (j := 0) ob358.1 ob358.2 (Nat.le_of_ble_eq_true rfl) (Nat.le_of_ble_eq_true rfl) (Or.inl rfl) rfl rfl rfl tw_8_206 dX12_ring_2 ?_
  refine x_mu (fun μ9 e_μ9 => ?_)
  have h := h μ9 e_μ9
  refine x_aload_n C rfl 0 rfl dX12_ring_5 ?_
  refine x_iload_n C rfl 1 rfl dX12_ring_6 ?_
  refine x_callV (dC := G12_isLetter_dep) (as := [.int v1]) (st := []) C rfl (Nat.le_trans (Nat.le_of_ble_eq_true rfl) hd) (Nat.le_of_ble_eq_true rfl) ob358.1 ob358.2 (Nat.le_of_ble_eq_true rfl) rfl ts_8_15 tw_7_1 tw_6_239 tc_7_2 tw_1_13 hyX12 hnX12_isLetter rfl (Nat.le_of_ble_eq_true rfl) dX12_ring_7 (G12_isLetter_met C.2.2.2.2.2.2.2.1 (Nat.le_refl _)  h) (fun r0 μ10 hq => ?_)
  obtain ⟨r11, rfl, h⟩ := hq
  refine x_st [.int r11] rfl ?_
  refine x_if_eq (tgt := 22) C dX12_ring_10 (by decide) (fun c12 => ?_) (fun c12 => ?_)
  · have h := h.1 c12
    refine x_iconst (v := 0) C (by decide) dX12_ring_22 ?_
    exact x_zret C hr bo_0 dX12_ring_23 ⟨_, rfl, h⟩
  · have h := h.2 c12
    refine x_aload_n C rfl 0 rfl dX12_ring_13 ?_
    refine x_getR (r := 373) C (j := 19) ob358.1 ob358.2 (Nat.le_of_ble_eq_true rfl) (Nat.le_of_ble_eq_true rfl) (fun _ _ _ => rfl) r_358_19 tw_8_225 dX12_ring_14 ?_
    refine x_iload_n C rfl 1 rfl dX12_ring_17 ?_
    obtain ⟨c13, h⟩ := h
    refine x_zald C ob373.1 ob373.2 c13 rfl dX12_ring_18 ?_
    refine x_if_eq (tgt := 24) C dX12_ring_19 (by decide) (fun c14 => ?_) (fun c14 => ?_)
    · have h := h.1 c14
      refine x_aload_n C rfl 0 rfl dX12_ring_24 ?_
      refine x_getR (r := 373) C (j := 19) ob358.1 ob358.2 (Nat.le_of_ble_eq_true rfl) (Nat.le_of_ble_eq_true rfl) (fun _ _ _ => rfl) r_358_19 tw_8_225 dX12_ring_25 ?_
      refine x_iload_n C rfl 1 rfl dX12_ring_28 ?_
      refine x_iconst (v := 1) C (by decide) dX12_ring_29 ?_
      obtain ⟨c15, h⟩ := h
      refine x_zast C ob373.1 ob373.2 c15 rfl dX12_ring_30 ?_
      refine x_mu (fun μ16 e_μ16 => ?_)
      have h := h μ16 e_μ16
      refine x_aload_n C rfl 0 rfl dX12_ring_31 ?_
      refine x_getR (r := 374) C (j := 20) ob358.1 ob358.2 (Nat.le_of_ble_eq_true rfl) (Nat.le_of_ble_eq_true rfl) (fun _ _ _ => rfl) r_358_20 tw_8_226 dX12_ring_32 ?_
      refine x_iload_n C rfl 1 rfl dX12_ring_35 ?_
      refine x_iload_n C rfl 2 rfl dX12_ring_36 ?_
      obtain ⟨c17, h⟩ := h
      refine x_zast C ob374.1 ob374.2 c17 rfl dX12_ring_37 ?_
      refine x_mu (fun μ18 e_μ18 => ?_)
      have h := h μ18 e_μ18
      refine x_iconst (v := 1) C (by decide) dX12_ring_38 ?_
      exact x_zret C hr bo_1 dX12_ring_39 ⟨_, rfl, h⟩
    · have h := h.2 c14
      refine x_iconst (v := 0) C (by decide) dX12_ring_22 ?_
      exact x_zret C hr bo_0 dX12_ring_23 ⟨_, rfl, h⟩
set_option maxHeartbeats 4000000 in
set_option maxRecDepth 100000 in
theorem G12_box_J149_ok {p : Program} {e : Env} {s : State} {m : MethodId} {args : Array Value} {below : List Frame} {meth : Method} {c : Code} {l : Launch} {φ : Nat → Nat} {tc : Nat → ClassId} {D : va_G} {s0 : State} {dR : Nat} (C : CX p s m args meth c φ tc D s0 cX12_box RX12 9) (hd : G12_box_dep ≤ dR) (hr : meth.sig.returnType = (some .int))  {p1 : Int32} {p2 : Int32} {p4 : Int32} {p5 : Int32} {p6 : Int32} {p7 : Int32} {q0 : Int32} {q1 : Int32} {Q : Int32 → MM → Prop} {K46 : Int32 × Int32 × Int32 × MM → Prop} {μ : MM}   (hK46 : ∀ (z5 : Int32) (z6 : Int32) (z7 : Int32) (zμ : MM), K46 (z5, z6, z7, zμ) → WX p l e (rmX dR) s m args below meth c φ tc D 9 (MQ below (QX φ tc D (QI Q)) args s 0 0 (AX φ)) 46 [(0, .ref 358), (1, .int p1), (2, .int p2), (4, .int p4), (5, .int z5), (6, .int z6), (7, .int z7)] [] zμ) (h : G12_box_J149 p1 p2 p4 p5 p6 p7 q0 q1 μ K46 Q) : WX p l e (rmX dR) s m args below meth c φ tc D 9 (MQ below (QX φ tc D (QI Q)) args s 0 0 (AX φ)) 149 [(0, .ref 358), (1, .int p1), (2, .int p2), (4, .int p4), (5, .int p5), (6, .int p6), (7, .int p7)] [.int q0, .int q1, .ref 374] μ := by
  unfold G12_box_J149 at h
  obtain ⟨c27, h⟩ := h
  refine x_zast C ob374.1 ob374.2 c27 rfl dX12_box_149 ?_
  refine x_mu (fun μ28 e_μ28 => ?_)
  have h := h μ28 e_μ28
  refine x_iinc (v := (p6 + 1)) C [(6, .int (p6 + 1)), (0, .ref 358), (1, .int p1), (2, .int p2), (4, .int p4), (5, .int p5), (7, .int p7)] 5 rfl (congrArg (fun z => p6 + z) (by decide : Int32.ofInt (1) = 1)) (Nat.le_of_ble_eq_true rfl) rfl dX12_box_150 ?_
  refine x_iinc (v := (p7 + 1)) C [(7, .int (p7 + 1)), (6, .int (p6 + 1)), (0, .ref 358), (1, .int p1), (2, .int p2), (4, .int p4), (5, .int p5)] 6 rfl (congrArg (fun z => p7 + z) (by decide : Int32.ofInt (1) = 1)) (Nat.le_of_ble_eq_true rfl) rfl dX12_box_153 ?_
  refine x_goto (tgt := 46) C dX12_box_156 (by decide) ?_
  refine x_sub [(0, .ref 358), (1, .int p1), (2, .int p2), (4, .int p4), (5, .int p5), (6, .int (p6 + 1)), (7, .int (p7 + 1))] [2, 3, 4, 5, 6, 1, 0] rfl ?_
  exact hK46 _ _ _ _ h
set_option maxHeartbeats 4000000 in
set_option maxRecDepth 100000 in
theorem G12_box_J98_ok {p : Program} {e : Env} {s : State} {m : MethodId} {args : Array Value} {below : List Frame} {meth : Method} {c : Code} {l : Launch} {φ : Nat → Nat} {tc : Nat → ClassId} {D : va_G} {s0 : State} {dR : Nat} (C : CX p s m args meth c φ tc D s0 cX12_box RX12 9) (hd : G12_box_dep ≤ dR) (hr : meth.sig.returnType = (some .int))  {p1 : Int32} {p2 : Int32} {p4 : Int32} {p5 : Int32} {p6 : Int32} {p7 : Int32} {q0 : Int32} {Q : Int32 → MM → Prop} {K46 : Int32 × Int32 × Int32 × MM → Prop} {μ : MM}   (hK46 : ∀ (z5 : Int32) (z6 : Int32) (z7 : Int32) (zμ : MM), K46 (z5, z6, z7, zμ) → WX p l e (rmX dR) s m args below meth c φ tc D 9 (MQ below (QX φ tc D (QI Q)) args s 0 0 (AX φ)) 46 [(0, .ref 358), (1, .int p1), (2, .int p2), (4, .int p4), (5, .int z5), (6, .int z6), (7, .int z7)] [] zμ) (h : G12_box_J98 p1 p2 p4 p5 p6 p7 q0 μ K46 Q) : WX p l e (rmX dR) s m args below meth c φ tc D 9 (MQ below (QX φ tc D (QI Q)) args s 0 0 (AX φ)) 98 [(0, .ref 358), (1, .int p1), (2, .int p2), (4, .int p4), (5, .int p5), (6, .int p6), (7, .int p7)] [.int q0] μ := by
  unfold G12_box_J98 at h
  refine x_istore C [(8, .int q0), (0, .ref 358), (1, .int p1), (2, .int p2), (4, .int p4), (5, .int p5), (6, .int p6), (7, .int p7)] (Nat.le_of_ble_eq_true rfl) rfl dX12_box_98 ?_
  refine x_iload C 5 rfl dX12_box_100 ?_
  refine x_iload C 4 rfl dX12_box_102 ?_
  refine x_iadd C dX12_box_104 ?_
  refine x_topi (fun y20 e_y20 => ?_)
  have h := h y20 e_y20
  refine x_istore C [(5, .int y20), (8, .int q0), (0, .ref 358), (1, .int p1), (2, .int p2), (4, .int p4), (6, .int p6), (7, .int p7)] (Nat.le_of_ble_eq_true rfl) rfl dX12_box_105 ?_
  refine x_aload_n C rfl 2 rfl dX12_box_107 ?_
  refine x_getR (r := 373) C (j := 19) ob358.1 ob358.2 (Nat.le_of_ble_eq_true rfl) (Nat.le_of_ble_eq_true rfl) (fun _ _ _ => rfl) r_358_19 tw_8_225 dX12_box_108 ?_
  refine x_iload C 7 rfl dX12_box_111 ?_
  obtain ⟨c21, h⟩ := h
  refine x_zald C ob373.1 ob373.2 c21 rfl dX12_box_113 ?_
  refine x_if_ne (tgt := 153) C dX12_box_114 (by decide) (fun c22 => ?_) (fun c22 => ?_)
  · have h := h.1 c22
    refine x_iinc (v := (p7 + 1)) C [(7, .int (p7 + 1)), (5, .int y20), (8, .int q0), (0, .ref 358), (1, .int p1), (2, .int p2), (4, .int p4), (6, .int p6)] 7 rfl (congrArg (fun z => p7 + z) (by decide : Int32.ofInt (1) = 1)) (Nat.le_of_ble_eq_true rfl) rfl dX12_box_153 ?_
    refine x_goto (tgt := 46) C dX12_box_156 (by decide) ?_
    refine x_sub [(0, .ref 358), (1, .int p1), (2, .int p2), (4, .int p4), (5, .int y20), (6, .int p6), (7, .int (p7 + 1))] [3, 4, 5, 6, 1, 7, 0] rfl ?_
    exact hK46 _ _ _ _ h
  · have h := h.2 c22
    refine x_iload C 1 rfl dX12_box_117 ?_
    refine x_if_ge (tgt := 125) C dX12_box_119 (by decide) (fun c23 => ?_) (fun c23 => ?_)
    · have h := h.1 c23
      refine x_aload_n C rfl 2 rfl dX12_box_125 ?_
      refine x_getR (r := 373) C (j := 19) ob358.1 ob358.2 (Nat.le_of_ble_eq_true rfl) (Nat.le_of_ble_eq_true rfl) (fun _ _ _ => rfl) r_358_19 tw_8_225 dX12_box_126 ?_
      refine x_iload C 7 rfl dX12_box_129 ?_
      refine x_iconst (v := 1) C (by decide) dX12_box_131 ?_
      obtain ⟨c24, h⟩ := h
      refine x_zast C ob373.1 ob373.2 c24 rfl dX12_box_132 ?_
      refine x_mu (fun μ25 e_μ25 => ?_)
      have h := h μ25 e_μ25
      refine x_aload_n C rfl 2 rfl dX12_box_133 ?_
      refine x_getR (r := 374) C (j := 20) ob358.1 ob358.2 (Nat.le_of_ble_eq_true rfl) (Nat.le_of_ble_eq_true rfl) (fun _ _ _ => rfl) r_358_20 tw_8_226 dX12_box_134 ?_
      refine x_iload C 7 rfl dX12_box_137 ?_
      refine x_iload C 1 rfl dX12_box_139 ?_
      refine x_if_le (tgt := 148) C dX12_box_141 (by decide) (fun c26 => ?_) (fun c26 => ?_)
      · have h := h.1 c26
        refine x_iconst (v := 0) C (by decide) dX12_box_148 ?_
        refine x_sub [(0, .ref 358), (1, .int p1), (2, .int p2), (4, .int p4), (5, .int y20), (6, .int p6), (7, .int p7)] [2, 3, 4, 5, 0, 6, 7] rfl ?_
        exact G12_box_J149_ok C hd hr hK46 h
      · have h := h.2 c26
        refine x_iconst (v := 1) C (by decide) dX12_box_144 ?_
        refine x_goto (tgt := 149) C dX12_box_145 (by decide) ?_
        refine x_sub [(0, .ref 358), (1, .int p1), (2, .int p2), (4, .int p4), (5, .int y20), (6, .int p6), (7, .int p7)] [2, 3, 4, 5, 0, 6, 7] rfl ?_
        exact G12_box_J149_ok C hd hr hK46 h
    · have h := h.2 c23
      refine x_goto (tgt := 153) C dX12_box_122 (by decide) ?_
      refine x_iinc (v := (p7 + 1)) C [(7, .int (p7 + 1)), (5, .int y20), (8, .int q0), (0, .ref 358), (1, .int p1), (2, .int p2), (4, .int p4), (6, .int p6)] 7 rfl (congrArg (fun z => p7 + z) (by decide : Int32.ofInt (1) = 1)) (Nat.le_of_ble_eq_true rfl) rfl dX12_box_153 ?_
      refine x_goto (tgt := 46) C dX12_box_156 (by decide) ?_
      refine x_sub [(0, .ref 358), (1, .int p1), (2, .int p2), (4, .int p4), (5, .int y20), (6, .int p6), (7, .int (p7 + 1))] [3, 4, 5, 6, 1, 7, 0] rfl ?_
      exact hK46 _ _ _ _ h
set_option maxHeartbeats 4000000 in
set_option maxRecDepth 100000 in
theorem G12_box_J66_ok {p : Program} {e : Env} {s : State} {m : MethodId} {args : Array Value} {below : List Frame} {meth : Method} {c : Code} {l : Launch} {φ : Nat → Nat} {tc : Nat → ClassId} {D : va_G} {s0 : State} {dR : Nat} (C : CX p s m args meth c φ tc D s0 cX12_box RX12 9) (hd : G12_box_dep ≤ dR) (hr : meth.sig.returnType = (some .int))  {p1 : Int32} {p2 : Int32} {p4 : Int32} {p5 : Int32} {p6 : Int32} {p7 : Int32} {Q : Int32 → MM → Prop} {K46 : Int32 × Int32 × Int32 × MM → Prop} {μ : MM}   (hK46 : ∀ (z5 : Int32) (z6 : Int32) (z7 : Int32) (zμ : MM), K46 (z5, z6, z7, zμ) → WX p l e (rmX dR) s m args below meth c φ tc D 9 (MQ below (QX φ tc D (QI Q)) args s 0 0 (AX φ)) 46 [(0, .ref 358), (1, .int p1), (2, .int p2), (4, .int p4), (5, .int z5), (6, .int z6), (7, .int z7)] [] zμ) (h : G12_box_J66 p1 p2 p4 p5 p6 p7 μ K46 Q) : WX p l e (rmX dR) s m args below meth c φ tc D 9 (MQ below (QX φ tc D (QI Q)) args s 0 0 (AX φ)) 66 [(0, .ref 358), (1, .int p1), (2, .int p2), (4, .int p4), (5, .int p5), (6, .int p6), (7, .int p7)] [] μ := by
  unfold G12_box_J66 at h
  refine x_iload_n C rfl 1 rfl dX12_box_66 ?_
  refine x_iconst (v := 3) C (by decide) dX12_box_67 ?_
  refine x_icmp_ne (tgt := 75) C dX12_box_68 (by decide) (fun c17 => ?_) (fun c17 => ?_)
  · have h := h.1 c17
    refine x_iload_n C rfl 1 rfl dX12_box_75 ?_
    refine x_if_ne (tgt := 85) C dX12_box_76 (by decide) (fun c18 => ?_) (fun c18 => ?_)
    · have h := h.1 c18
      refine x_iload_n C rfl 1 rfl dX12_box_85 ?_
      refine x_iconst (v := 1) C (by decide) dX12_box_86 ?_
      refine x_icmp_ne (tgt := 96) C dX12_box_87 (by decide) (fun c19 => ?_) (fun c19 => ?_)
      · have h := h.1 c19
        refine x_iload C 4 rfl dX12_box_96 ?_
        exact G12_box_J98_ok C hd hr hK46 h
      · have h := h.2 c19
        refine x_iload C 4 rfl dX12_box_90 ?_
        refine x_i2s C dX12_box_92 ?_
        refine x_goto (tgt := 98) C dX12_box_93 (by decide) ?_
        exact G12_box_J98_ok C hd hr hK46 h
    · have h := h.2 c18
      refine x_iload C 4 rfl dX12_box_79 ?_
      refine x_i2b C dX12_box_81 ?_
      refine x_goto (tgt := 98) C dX12_box_82 (by decide) ?_
      exact G12_box_J98_ok C hd hr hK46 h
  · have h := h.2 c17
    refine x_iconst (v := 0) C (by decide) dX12_box_71 ?_
    refine x_goto (tgt := 98) C dX12_box_72 (by decide) ?_
    exact G12_box_J98_ok C hd hr hK46 h
set_option maxHeartbeats 4000000 in
set_option maxRecDepth 100000 in
theorem G12_box_L46_b {p : Program} {e : Env} {s : State} {m : MethodId} {args : Array Value} {below : List Frame} {meth : Method} {c : Code} {l : Launch} {φ : Nat → Nat} {tc : Nat → ClassId} {D : va_G} {s0 : State} {dR : Nat} (C : CX p s m args meth c φ tc D s0 cX12_box RX12 9) (hd : G12_box_dep ≤ dR) (hr : meth.sig.returnType = (some .int))  {p1 : Int32} {p2 : Int32} {p4 : Int32} {Q : Int32 → MM → Prop} {K46 : Int32 × Int32 × Int32 × MM → Prop} {x : Int32 × Int32 × Int32 × MM}   (hK46 : ∀ (z5 : Int32) (z6 : Int32) (z7 : Int32) (zμ : MM), K46 (z5, z6, z7, zμ) → WX p l e (rmX dR) s m args below meth c φ tc D 9 (MQ below (QX φ tc D (QI Q)) args s 0 0 (AX φ)) 46 [(0, .ref 358), (1, .int p1), (2, .int p2), (4, .int p4), (5, .int z5), (6, .int z6), (7, .int z7)] [] zμ) (h : G12_box_L46 p1 p2 p4 Q K46 x) : WX p l e (rmX dR) s m args below meth c φ tc D 9 (MQ below (QX φ tc D (QI Q)) args s 0 0 (AX φ)) 46 [(0, .ref 358), (1, .int p1), (2, .int p2), (4, .int p4), (5, .int x.1), (6, .int x.2.1), (7, .int x.2.2.1)] [] x.2.2.2 := by
  unfold G12_box_L46 at h
  refine x_iload C 6 rfl dX12_box_46 ?_
  refine x_aload_n C rfl 0 rfl dX12_box_48 ?_
  refine x_getI C (j := 12) ob358.1 ob358.2 (Nat.le_of_ble_eq_true rfl) (Nat.le_of_ble_eq_true rfl) (Or.inl rfl) tw_8_218 dX12_box_49 ?_
  refine x_icmp_ge (tgt := 159) C dX12_box_52 (by decide) (fun c15 => ?_) (fun c15 => ?_)
  · have h := h.1 c15
    refine x_iload C 5 rfl dX12_box_159 ?_
    exact x_iret C hr dX12_box_161 ⟨_, rfl, h⟩
  · have h := h.2 c15
    refine x_iload_n C rfl 1 rfl dX12_box_55 ?_
    refine x_iconst (v := 3) C (by decide) dX12_box_56 ?_
    refine x_icmp_eq (tgt := 66) C dX12_box_57 (by decide) (fun c16 => ?_) (fun c16 => ?_)
    · have h := h.1 c16
      exact G12_box_J66_ok C hd hr hK46 h
    · have h := h.2 c16
      refine x_iload C 6 rfl dX12_box_60 ?_
      refine x_iload_n C rfl 2 rfl dX12_box_62 ?_
      refine x_icmp_ge (tgt := 159) C dX12_box_63 (by decide) (fun c29 => ?_) (fun c29 => ?_)
      · have h := h.1 c29
        refine x_iload C 5 rfl dX12_box_159 ?_
        exact x_iret C hr dX12_box_161 ⟨_, rfl, h⟩
      · have h := h.2 c29
        exact G12_box_J66_ok C hd hr hK46 h
theorem G12_box_L46_ok {p : Program} {e : Env} {s : State} {m : MethodId} {args : Array Value} {below : List Frame} {meth : Method} {c : Code} {l : Launch} {φ : Nat → Nat} {tc : Nat → ClassId} {D : va_G} {s0 : State} {dR : Nat} (C : CX p s m args meth c φ tc D s0 cX12_box RX12 9) (hd : G12_box_dep ≤ dR) (hr : meth.sig.returnType = (some .int))  {p1 : Int32} {p2 : Int32} {p4 : Int32} {Q : Int32 → MM → Prop}  {x : Int32 × Int32 × Int32 × MM}    (h : Lp (G12_box_L46 p1 p2 p4 Q) x) : WX p l e (rmX dR) s m args below meth c φ tc D 9 (MQ below (QX φ tc D (QI Q)) args s 0 0 (AX φ)) 46 [(0, .ref 358), (1, .int p1), (2, .int p2), (4, .int p4), (5, .int x.1), (6, .int x.2.1), (7, .int x.2.2.1)] [] x.2.2.2 := by
  obtain ⟨n, h⟩ := h
  induction n generalizing x with
  | zero => exact h.elim
  | succ n ih => exact G12_box_L46_b C hd hr   (fun z5 z6 z7 zμ hz => by have q := ih hz; exact q) h
set_option maxHeartbeats 4000000 in
set_option maxRecDepth 100000 in
theorem G12_box_met {l : Launch} {φ : Nat → Nat} {tc : Nat → ClassId} {D : va_G} {s0 : State} (hG : GX φ tc D s0) {dR : Nat} (hd : G12_box_dep ≤ dR) {v1 : Int32} {v2 : Int32} {v3 : Int32} {v4 : Int32} {μ : MM} {Q : Int32 → MM → Prop}  (h : G12_box v1 v2 v3 v4 μ Q) : MX l φ tc D s0 dR yX12_box cX12_box 9 (some .int) [.ref 358, .int v1, .int v2, .int v3, .int v4] μ (QI Q) := by
  refine MX.of (own := RX12) hG plX12 rfl (Nat.le_of_ble_eq_true rfl) (fun p e s m args below meth c C hr => ?_)
  refine x_sub [(0, .ref 358), (1, .int v1), (2, .int v2), (3, .int v3), (4, .int v4)] [0, 1, 2, 3, 4] rfl ?_
  unfold G12_box at h
  refine x_aload_n C rfl 0 rfl dX12_box_0 ?_
  refine x_iconst (v := 0) C (by decide) dX12_box_1 ?_
  refine x_putI C (j := 0) ob358.1 ob358.2 (Nat.le_of_ble_eq_true rfl) (Nat.le_of_ble_eq_true rfl) (Or.inl rfl) rfl rfl rfl tw_8_206 dX12_box_2 ?_
  refine x_mu (fun μ9 e_μ9 => ?_)
  have h := h μ9 e_μ9
  refine x_iload_n C rfl 1 rfl dX12_box_5 ?_
  refine x_i2l C dX12_box_6 ?_
  refine x_lconst (v := 0) C (by decide) dX12_box_7 ?_
  refine x_ldc2 (v := 3) C tw_6_190 dX12_box_8 ?_
  refine x_callS (dC := G12_in_dep) (as := [.long (v1.toInt64), .long 0, .long 3]) (st := []) C rfl (Nat.le_trans (Nat.le_of_ble_eq_true rfl) hd) (Nat.le_of_ble_eq_true rfl) tw_6_183 tw_6_182 tc_6_184 tw_1_13 hyX12 hnX12_in rfl (Nat.le_of_ble_eq_true rfl) dX12_box_11 (G12_in_met C.2.2.2.2.2.2.2.1 (Nat.le_refl _)  h) (fun r0 μ10 hq => ?_)
  obtain ⟨r11, rfl, h⟩ := hq
  refine x_st [.int r11] rfl ?_
  refine x_if_eq (tgt := 23) C dX12_box_14 (by decide) (fun c12 => ?_) (fun c12 => ?_)
  · have h := h.1 c12
    refine x_iconst (v := (-1)) C (by decide) dX12_box_23 ?_
    exact x_iret C hr dX12_box_24 ⟨_, rfl, h⟩
  · have h := h.2 c12
    refine x_iload_n C rfl 2 rfl dX12_box_17 ?_
    refine x_bipush (v := 96) C (by decide) dX12_box_18 ?_
    refine x_icmp_le (tgt := 25) C dX12_box_20 (by decide) (fun c13 => ?_) (fun c13 => ?_)
    · have h := h.1 c13
      refine x_iload_n C rfl 1 rfl dX12_box_25 ?_
      refine x_iconst (v := 3) C (by decide) dX12_box_26 ?_
      refine x_icmp_eq (tgt := 37) C dX12_box_27 (by decide) (fun c14 => ?_) (fun c14 => ?_)
      · have h := h.1 c14
        refine x_iload_n C rfl 3 rfl dX12_box_37 ?_
        refine x_istore C [(5, .int v3), (0, .ref 358), (1, .int v1), (2, .int v2), (3, .int v3), (4, .int v4)] (Nat.le_of_ble_eq_true rfl) rfl dX12_box_38 ?_
        refine x_iconst (v := 0) C (by decide) dX12_box_40 ?_
        refine x_istore C [(6, .int 0), (5, .int v3), (0, .ref 358), (1, .int v1), (2, .int v2), (3, .int v3), (4, .int v4)] (Nat.le_of_ble_eq_true rfl) rfl dX12_box_41 ?_
        refine x_iconst (v := 0) C (by decide) dX12_box_43 ?_
        refine x_istore C [(7, .int 0), (6, .int 0), (5, .int v3), (0, .ref 358), (1, .int v1), (2, .int v2), (3, .int v3), (4, .int v4)] (Nat.le_of_ble_eq_true rfl) rfl dX12_box_44 ?_
        refine x_sub [(0, .ref 358), (1, .int v1), (2, .int v2), (4, .int v4), (5, .int v3), (6, .int 0), (7, .int 0)] [3, 4, 5, 7, 2, 1, 0] rfl ?_
        exact G12_box_L46_ok C hd hr  h
      · have h := h.2 c14
        refine x_iload_n C rfl 2 rfl dX12_box_30 ?_
        refine x_if_ge (tgt := 37) C dX12_box_31 (by decide) (fun c30 => ?_) (fun c30 => ?_)
        · have h := h.1 c30
          refine x_iload_n C rfl 3 rfl dX12_box_37 ?_
          refine x_istore C [(5, .int v3), (0, .ref 358), (1, .int v1), (2, .int v2), (3, .int v3), (4, .int v4)] (Nat.le_of_ble_eq_true rfl) rfl dX12_box_38 ?_
          refine x_iconst (v := 0) C (by decide) dX12_box_40 ?_
          refine x_istore C [(6, .int 0), (5, .int v3), (0, .ref 358), (1, .int v1), (2, .int v2), (3, .int v3), (4, .int v4)] (Nat.le_of_ble_eq_true rfl) rfl dX12_box_41 ?_
          refine x_iconst (v := 0) C (by decide) dX12_box_43 ?_
          refine x_istore C [(7, .int 0), (6, .int 0), (5, .int v3), (0, .ref 358), (1, .int v1), (2, .int v2), (3, .int v3), (4, .int v4)] (Nat.le_of_ble_eq_true rfl) rfl dX12_box_44 ?_
          refine x_sub [(0, .ref 358), (1, .int v1), (2, .int v2), (4, .int v4), (5, .int v3), (6, .int 0), (7, .int 0)] [3, 4, 5, 7, 2, 1, 0] rfl ?_
          exact G12_box_L46_ok C hd hr  h
        · have h := h.2 c30
          refine x_bipush (v := (-2)) C (by decide) dX12_box_34 ?_
          exact x_iret C hr dX12_box_36 ⟨_, rfl, h⟩
    · have h := h.2 c13
      refine x_iconst (v := (-1)) C (by decide) dX12_box_23 ?_
      exact x_iret C hr dX12_box_24 ⟨_, rfl, h⟩
