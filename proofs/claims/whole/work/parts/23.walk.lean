set_option maxHeartbeats 4000000 in
set_option maxRecDepth 100000 in
theorem GJ6_bitCount_0f7a4_met {l : Launch} {φ : Nat → Nat} {tc : Nat → ClassId} {D : va_G} {s0 : State} (hG : GX φ tc D s0) {dR : Nat} (hd : GJ6_bitCount_0f7a4_dep ≤ dR) {v0 : Int32} {μ : MM} {Q : Int32 → MM → Prop}  (h : GJ6_bitCount_0f7a4 v0 μ Q) : MX l φ tc D s0 dR yJ6_bitCount_0f7a4 cJ6_bitCount_0f7a4 1 (some .int) [.int v0] μ (QI Q) := by
  refine MX.of (own := RJ6) hG plJ6 rfl (Nat.le_of_ble_eq_true rfl) (fun p e s m args below meth c C hr => ?_)
  refine x_sub [(0, .int v0)] [0] rfl ?_
  unfold GJ6_bitCount_0f7a4 at h
  refine x_iload_n C rfl 0 rfl dJ6_bitCount_0f7a4_0 ?_
  refine x_iload_n C rfl 0 rfl dJ6_bitCount_0f7a4_1 ?_
  refine x_iconst (v := 1) C (by decide) dJ6_bitCount_0f7a4_2 ?_
  refine x_iushr C dJ6_bitCount_0f7a4_3 ?_
  refine x_ldcw (v := 1431655765) C tw_4_150 dJ6_bitCount_0f7a4_4 ?_
  refine x_iand C dJ6_bitCount_0f7a4_7 ?_
  refine x_isub C dJ6_bitCount_0f7a4_8 ?_
  refine x_topi (fun y6 e_y6 => ?_)
  have h := h y6 e_y6
  refine x_istore_n C [(0, .int y6)] rfl (Nat.le_of_ble_eq_true rfl) rfl dJ6_bitCount_0f7a4_9 ?_
  refine x_iload_n C rfl 0 rfl dJ6_bitCount_0f7a4_10 ?_
  refine x_ldcw (v := 858993459) C tw_4_151 dJ6_bitCount_0f7a4_11 ?_
  refine x_iand C dJ6_bitCount_0f7a4_14 ?_
  refine x_iload_n C rfl 0 rfl dJ6_bitCount_0f7a4_15 ?_
  refine x_iconst (v := 2) C (by decide) dJ6_bitCount_0f7a4_16 ?_
  refine x_iushr C dJ6_bitCount_0f7a4_17 ?_
  refine x_ldcw (v := 858993459) C tw_4_151 dJ6_bitCount_0f7a4_18 ?_
  refine x_iand C dJ6_bitCount_0f7a4_21 ?_
  refine x_iadd C dJ6_bitCount_0f7a4_22 ?_
  refine x_topi (fun y7 e_y7 => ?_)
  have h := h y7 e_y7
  refine x_istore_n C [(0, .int y7)] rfl (Nat.le_of_ble_eq_true rfl) rfl dJ6_bitCount_0f7a4_23 ?_
  refine x_iload_n C rfl 0 rfl dJ6_bitCount_0f7a4_24 ?_
  refine x_iload_n C rfl 0 rfl dJ6_bitCount_0f7a4_25 ?_
  refine x_iconst (v := 4) C (by decide) dJ6_bitCount_0f7a4_26 ?_
  refine x_iushr C dJ6_bitCount_0f7a4_27 ?_
  refine x_iadd C dJ6_bitCount_0f7a4_28 ?_
  refine x_ldcw (v := 252645135) C tw_4_152 dJ6_bitCount_0f7a4_29 ?_
  refine x_iand C dJ6_bitCount_0f7a4_32 ?_
  refine x_topi (fun y8 e_y8 => ?_)
  have h := h y8 e_y8
  refine x_istore_n C [(0, .int y8)] rfl (Nat.le_of_ble_eq_true rfl) rfl dJ6_bitCount_0f7a4_33 ?_
  refine x_iload_n C rfl 0 rfl dJ6_bitCount_0f7a4_34 ?_
  refine x_iload_n C rfl 0 rfl dJ6_bitCount_0f7a4_35 ?_
  refine x_bipush (v := 8) C (by decide) dJ6_bitCount_0f7a4_36 ?_
  refine x_iushr C dJ6_bitCount_0f7a4_38 ?_
  refine x_iadd C dJ6_bitCount_0f7a4_39 ?_
  refine x_topi (fun y9 e_y9 => ?_)
  have h := h y9 e_y9
  refine x_istore_n C [(0, .int y9)] rfl (Nat.le_of_ble_eq_true rfl) rfl dJ6_bitCount_0f7a4_40 ?_
  refine x_iload_n C rfl 0 rfl dJ6_bitCount_0f7a4_41 ?_
  refine x_iload_n C rfl 0 rfl dJ6_bitCount_0f7a4_42 ?_
  refine x_bipush (v := 16) C (by decide) dJ6_bitCount_0f7a4_43 ?_
  refine x_iushr C dJ6_bitCount_0f7a4_45 ?_
  refine x_iadd C dJ6_bitCount_0f7a4_46 ?_
  refine x_topi (fun y10 e_y10 => ?_)
  have h := h y10 e_y10
  refine x_istore_n C [(0, .int y10)] rfl (Nat.le_of_ble_eq_true rfl) rfl dJ6_bitCount_0f7a4_47 ?_
  refine x_iload_n C rfl 0 rfl dJ6_bitCount_0f7a4_48 ?_
  refine x_bipush (v := 63) C (by decide) dJ6_bitCount_0f7a4_49 ?_
  refine x_iand C dJ6_bitCount_0f7a4_51 ?_
  exact x_iret C hr dJ6_bitCount_0f7a4_52 ⟨_, rfl, h⟩
set_option maxHeartbeats 4000000 in
set_option maxRecDepth 100000 in
theorem G8_tellDrawn_L70_b {p : Program} {e : Env} {s : State} {m : MethodId} {args : Array Value} {below : List Frame} {meth : Method} {c : Code} {l : Launch} {φ : Nat → Nat} {tc : Nat → ClassId} {D : va_G} {s0 : State} {dR : Nat} (C : CX p s m args meth c φ tc D (AX φ) s0 cX8_tellDrawn RX8 9) (hd : G8_tellDrawn_dep ≤ dR) (hr : meth.sig.returnType = (some .int))  {p1 : Int32} {p3 : Int32} {p4 : Int64} {Q : Int32 → MM → Prop} {K70 : Int64 × Int32 × MM → Prop} {x : Int64 × Int32 × MM}   (hK70 : ∀ (z6 : Int64) (z8 : Int32) (zμ : MM), K70 (z6, z8, zμ) → WX p l e (rmX dR) s m args below meth c φ tc D (AX φ) 9 0 0 (MQ below (QX φ tc D (QI Q)) args s 0 0 (AX φ)) 70 [(0, .ref 153), (1, .int p1), (3, .int p3), (4, .long p4), (6, .long z6), (8, .int z8)] [] zμ) (h : G8_tellDrawn_L70 p1 p3 p4 Q K70 x) : WX p l e (rmX dR) s m args below meth c φ tc D (AX φ) 9 0 0 (MQ below (QX φ tc D (QI Q)) args s 0 0 (AX φ)) 70 [(0, .ref 153), (1, .int p1), (3, .int p3), (4, .long p4), (6, .long x.1), (8, .int x.2.1)] [] x.2.2 := by
  unfold G8_tellDrawn_L70 at h
  refine x_iload C 5 rfl dX8_tellDrawn_70 ?_
  refine x_iconst (v := 1) C (by decide) dX8_tellDrawn_72 ?_
  refine x_iload_n C rfl 1 rfl dX8_tellDrawn_73 ?_
  refine x_ishl C dX8_tellDrawn_74 ?_
  refine x_icmp_ge (tgt := 112) C dX8_tellDrawn_75 (by decide) (fun c29 => ?_) (fun c29 => ?_)
  · have h := h.1 c29
    refine x_aload_n C rfl 0 rfl dX8_tellDrawn_112 ?_
    refine x_getR (r := 151) C (j := 1) ob153.1 ob153.2 (Nat.le_of_ble_eq_true rfl) (Nat.le_of_ble_eq_true rfl) (fun _ _ _ => rfl) r_153_1 tw_2_4 dX8_tellDrawn_113 ?_
    refine x_callVN (dC := G7_clear_dep) (as := []) (st := []) C rX kX (Nat.le_trans (Nat.le_of_ble_eq_true rfl) hd) (Nat.le_of_ble_eq_true rfl) ob151.1 ob151.2 (Nat.le_of_ble_eq_true rfl) rfl ts_3_8 tw_4_48 tw_4_46 tc_4_49 tw_1_5 hyX7 hnX7_clear rfl (Nat.le_of_ble_eq_true rfl) dX8_tellDrawn_116 (G7_clear_met C.2.2.2.2.2.2.2.1 (Nat.le_refl _)  h) (fun r0 μ30 hq => ?_)
    obtain ⟨rfl, h⟩ := hq
    refine x_st [] rfl ?_
    refine x_aload_n C rfl 0 rfl dX8_tellDrawn_119 ?_
    refine x_getR (r := 151) C (j := 1) ob153.1 ob153.2 (Nat.le_of_ble_eq_true rfl) (Nat.le_of_ble_eq_true rfl) (fun _ _ _ => rfl) r_153_1 tw_2_4 dX8_tellDrawn_120 ?_
    refine x_lload C 4 rfl dX8_tellDrawn_123 ?_
    refine x_iload_n C rfl 1 rfl dX8_tellDrawn_125 ?_
    refine x_iload_n C rfl 2 rfl dX8_tellDrawn_126 ?_
    refine x_callSN (dC := G11_choices_dep) (as := [.int p1, .int p3]) (st := [.long x.1, .ref 151]) C rX kX (Nat.le_trans (Nat.le_of_ble_eq_true rfl) hd) (Nat.le_of_ble_eq_true rfl) tw_4_104 tw_4_103 tc_4_105 tw_1_1 hyX11 hnX11_choices rfl (Nat.le_of_ble_eq_true rfl) dX8_tellDrawn_127 (G11_choices_met C.2.2.2.2.2.2.2.1 (Nat.le_refl _)  h) (fun r0 μ31 hq => ?_)
    obtain ⟨r32, rfl, h⟩ := hq
    refine x_st [.long r32, .long x.1, .ref 151] rfl ?_
    refine x_callVN (dC := G7_addFraction_dep) (as := [.long x.1, .long r32]) (st := []) C rX kX (Nat.le_trans (Nat.le_of_ble_eq_true rfl) hd) (Nat.le_of_ble_eq_true rfl) ob151.1 ob151.2 (Nat.le_of_ble_eq_true rfl) rfl ts_3_10 tw_4_56 tw_4_54 tc_4_57 tw_1_5 hyX7 hnX7_addFraction rfl (Nat.le_of_ble_eq_true rfl) dX8_tellDrawn_130 (G7_addFraction_met C.2.2.2.2.2.2.2.1 (Nat.le_refl _)  h) (fun r0 μ33 hq => ?_)
    obtain ⟨rfl, h⟩ := hq
    refine x_st [] rfl ?_
    refine x_iconst (v := 0) C (by decide) dX8_tellDrawn_133 ?_
    exact x_iret C hr dX8_tellDrawn_134 ⟨_, rfl, h⟩
  · have h := h.2 c29
    refine x_iload C 5 rfl dX8_tellDrawn_78 ?_
    refine x_callS (dC := GJ6_bitCount_0f7a4_dep) (as := [.int x.2.1]) (st := []) C rX kX (Nat.le_trans (Nat.le_of_ble_eq_true rfl) hd) (Nat.le_of_ble_eq_true rfl) tw_4_148 tw_4_147 tc_4_149 tw_1_24 hyJ6 hnJ6_bitCount_0f7a4 rfl (Nat.le_of_ble_eq_true rfl) dX8_tellDrawn_80 (GJ6_bitCount_0f7a4_met C.2.2.2.2.2.2.2.1 (Nat.le_refl _)  h) (fun r0 μ34 hq => ?_)
    obtain ⟨r35, rfl, h⟩ := hq
    refine x_st [.int r35] rfl ?_
    refine x_iload_n C rfl 2 rfl dX8_tellDrawn_83 ?_
    refine x_icmp_ne (tgt := 106) C dX8_tellDrawn_84 (by decide) (fun c36 => ?_) (fun c36 => ?_)
    · have h := h.1 c36
      refine x_iinc (v := (x.2.1 + 1)) C [(8, .int (x.2.1 + 1)), (0, .ref 153), (1, .int p1), (3, .int p3), (4, .long p4), (6, .long x.1)] 5 rfl (congrArg (fun z => x.2.1 + z) (by decide : Int32.ofInt (1) = 1)) (Nat.le_of_ble_eq_true rfl) rfl dX8_tellDrawn_106 ?_
      refine x_goto (tgt := 70) C dX8_tellDrawn_109 (by decide) ?_
      refine x_sub [(0, .ref 153), (1, .int p1), (3, .int p3), (4, .long p4), (6, .long x.1), (8, .int (x.2.1 + 1))] [1, 2, 3, 4, 5, 0] rfl ?_
      exact hK70 _ _ _ h
    · have h := h.2 c36
      refine x_aload_n C rfl 0 rfl dX8_tellDrawn_87 ?_
      refine x_iload C 5 rfl dX8_tellDrawn_88 ?_
      refine x_iload_n C rfl 1 rfl dX8_tellDrawn_90 ?_
      refine x_callV (dC := G8_sumOfShares_dep) (as := [.int x.2.1, .int p1]) (st := []) C rX kX (Nat.le_trans (Nat.le_of_ble_eq_true rfl) hd) (Nat.le_of_ble_eq_true rfl) ob153.1 ob153.2 (Nat.le_of_ble_eq_true rfl) rfl ts_4_9 tw_4_155 tw_4_153 tc_4_156 tw_1_6 hyX8 hnX8_sumOfShares rfl (Nat.le_of_ble_eq_true rfl) dX8_tellDrawn_91 (G8_sumOfShares_met C.2.2.2.2.2.2.2.1 (Nat.le_refl _)  h) (fun r0 μ37 hq => ?_)
      obtain ⟨r38, rfl, h⟩ := hq
      refine x_st [.long r38] rfl ?_
      refine x_lload C 3 rfl dX8_tellDrawn_94 ?_
      refine x_lcmp C dX8_tellDrawn_96 ?_
      refine x_if_gt (tgt := 106) C dX8_tellDrawn_97 (by decide) (fun c39 => ?_) (fun c39 => ?_)
      · have h := h.1 c39
        refine x_iinc (v := (x.2.1 + 1)) C [(8, .int (x.2.1 + 1)), (0, .ref 153), (1, .int p1), (3, .int p3), (4, .long p4), (6, .long x.1)] 5 rfl (congrArg (fun z => x.2.1 + z) (by decide : Int32.ofInt (1) = 1)) (Nat.le_of_ble_eq_true rfl) rfl dX8_tellDrawn_106 ?_
        refine x_goto (tgt := 70) C dX8_tellDrawn_109 (by decide) ?_
        refine x_sub [(0, .ref 153), (1, .int p1), (3, .int p3), (4, .long p4), (6, .long x.1), (8, .int (x.2.1 + 1))] [1, 2, 3, 4, 5, 0] rfl ?_
        exact hK70 _ _ _ h
      · have h := h.2 c39
        refine x_lload C 4 rfl dX8_tellDrawn_100 ?_
        refine x_lconst (v := 1) C (by decide) dX8_tellDrawn_102 ?_
        refine x_ladd C dX8_tellDrawn_103 ?_
        refine x_topl (fun y40 e_y40 => ?_)
        have h := h y40 e_y40
        refine x_lstore C [(6, .long y40), (0, .ref 153), (1, .int p1), (3, .int p3), (4, .long p4), (8, .int x.2.1)] (Nat.le_of_ble_eq_true rfl) rfl dX8_tellDrawn_104 ?_
        refine x_iinc (v := (x.2.1 + 1)) C [(8, .int (x.2.1 + 1)), (6, .long y40), (0, .ref 153), (1, .int p1), (3, .int p3), (4, .long p4)] 5 rfl (congrArg (fun z => x.2.1 + z) (by decide : Int32.ofInt (1) = 1)) (Nat.le_of_ble_eq_true rfl) rfl dX8_tellDrawn_106 ?_
        refine x_goto (tgt := 70) C dX8_tellDrawn_109 (by decide) ?_
        refine x_sub [(0, .ref 153), (1, .int p1), (3, .int p3), (4, .long p4), (6, .long y40), (8, .int (x.2.1 + 1))] [2, 3, 4, 5, 1, 0] rfl ?_
        exact hK70 _ _ _ h
theorem G8_tellDrawn_L70_ok {p : Program} {e : Env} {s : State} {m : MethodId} {args : Array Value} {below : List Frame} {meth : Method} {c : Code} {l : Launch} {φ : Nat → Nat} {tc : Nat → ClassId} {D : va_G} {s0 : State} {dR : Nat} (C : CX p s m args meth c φ tc D (AX φ) s0 cX8_tellDrawn RX8 9) (hd : G8_tellDrawn_dep ≤ dR) (hr : meth.sig.returnType = (some .int))  {p1 : Int32} {p3 : Int32} {p4 : Int64} {Q : Int32 → MM → Prop}  {x : Int64 × Int32 × MM}    (h : Lp (G8_tellDrawn_L70 p1 p3 p4 Q) x) : WX p l e (rmX dR) s m args below meth c φ tc D (AX φ) 9 0 0 (MQ below (QX φ tc D (QI Q)) args s 0 0 (AX φ)) 70 [(0, .ref 153), (1, .int p1), (3, .int p3), (4, .long p4), (6, .long x.1), (8, .int x.2.1)] [] x.2.2 := by
  obtain ⟨n, h⟩ := h
  induction n generalizing x with
  | zero => exact h.elim
  | succ n ih => exact G8_tellDrawn_L70_b C hd hr   (fun z6 z8 zμ hz => by have q := ih hz; exact q) h
set_option maxHeartbeats 4000000 in
set_option maxRecDepth 100000 in
theorem G8_tellDrawn_L21_b {p : Program} {e : Env} {s : State} {m : MethodId} {args : Array Value} {below : List Frame} {meth : Method} {c : Code} {l : Launch} {φ : Nat → Nat} {tc : Nat → ClassId} {D : va_G} {s0 : State} {dR : Nat} (C : CX p s m args meth c φ tc D (AX φ) s0 cX8_tellDrawn RX8 9) (hd : G8_tellDrawn_dep ≤ dR) (hr : meth.sig.returnType = (some .int))  {p1 : Int32} {Q : Int32 → MM → Prop} {K21 : Int32 × Int32 × MM → Prop} {x : Int32 × Int32 × MM}   (hK21 : ∀ (z2 : Int32) (z3 : Int32) (zμ : MM), K21 (z2, z3, zμ) → WX p l e (rmX dR) s m args below meth c φ tc D (AX φ) 9 0 0 (MQ below (QX φ tc D (QI Q)) args s 0 0 (AX φ)) 21 [(0, .ref 153), (1, .int p1), (2, .int z2), (3, .int z3)] [] zμ) (h : G8_tellDrawn_L21 p1 Q K21 x) : WX p l e (rmX dR) s m args below meth c φ tc D (AX φ) 9 0 0 (MQ below (QX φ tc D (QI Q)) args s 0 0 (AX φ)) 21 [(0, .ref 153), (1, .int p1), (2, .int x.1), (3, .int x.2.1)] [] x.2.2 := by
  unfold G8_tellDrawn_L21 at h
  refine x_iload_n C rfl 3 rfl dX8_tellDrawn_21 ?_
  refine x_iload_n C rfl 1 rfl dX8_tellDrawn_22 ?_
  refine x_icmp_ge (tgt := 51) C dX8_tellDrawn_23 (by decide) (fun c24 => ?_) (fun c24 => ?_)
  · have h := h.1 c24
    refine x_iload_n C rfl 2 rfl dX8_tellDrawn_51 ?_
    refine x_callS (dC := GJ6_bitCount_0f7a4_dep) (as := [.int x.1]) (st := []) C rX kX (Nat.le_trans (Nat.le_of_ble_eq_true rfl) hd) (Nat.le_of_ble_eq_true rfl) tw_4_148 tw_4_147 tc_4_149 tw_1_24 hyJ6 hnJ6_bitCount_0f7a4 rfl (Nat.le_of_ble_eq_true rfl) dX8_tellDrawn_52 (GJ6_bitCount_0f7a4_met C.2.2.2.2.2.2.2.1 (Nat.le_refl _)  h) (fun r0 μ25 hq => ?_)
    obtain ⟨r26, rfl, h⟩ := hq
    refine x_st [.int r26] rfl ?_
    refine x_istore_n C [(3, .int r26), (0, .ref 153), (1, .int p1), (2, .int x.1)] rfl (Nat.le_of_ble_eq_true rfl) rfl dX8_tellDrawn_55 ?_
    refine x_aload_n C rfl 1 rfl dX8_tellDrawn_56 ?_
    refine x_iload_n C rfl 3 rfl dX8_tellDrawn_57 ?_
    refine x_iload_n C rfl 2 rfl dX8_tellDrawn_58 ?_
    refine x_callV (dC := G8_sumOfShares_dep) (as := [.int x.1, .int p1]) (st := []) C rX kX (Nat.le_trans (Nat.le_of_ble_eq_true rfl) hd) (Nat.le_of_ble_eq_true rfl) ob153.1 ob153.2 (Nat.le_of_ble_eq_true rfl) rfl ts_4_9 tw_4_155 tw_4_153 tc_4_156 tw_1_6 hyX8 hnX8_sumOfShares rfl (Nat.le_of_ble_eq_true rfl) dX8_tellDrawn_59 (G8_sumOfShares_met C.2.2.2.2.2.2.2.1 (Nat.le_refl _)  h) (fun r0 μ27 hq => ?_)
    obtain ⟨r28, rfl, h⟩ := hq
    refine x_st [.long r28] rfl ?_
    refine x_lstore C [(4, .long r28), (3, .int r26), (0, .ref 153), (1, .int p1), (2, .int x.1)] (Nat.le_of_ble_eq_true rfl) rfl dX8_tellDrawn_62 ?_
    refine x_lconst (v := 0) C (by decide) dX8_tellDrawn_64 ?_
    refine x_lstore C [(6, .long 0), (4, .long r28), (3, .int r26), (0, .ref 153), (1, .int p1), (2, .int x.1)] (Nat.le_of_ble_eq_true rfl) rfl dX8_tellDrawn_65 ?_
    refine x_iconst (v := 0) C (by decide) dX8_tellDrawn_67 ?_
    refine x_istore C [(8, .int 0), (6, .long 0), (4, .long r28), (3, .int r26), (0, .ref 153), (1, .int p1), (2, .int x.1)] (Nat.le_of_ble_eq_true rfl) rfl dX8_tellDrawn_68 ?_
    refine x_sub [(0, .ref 153), (1, .int p1), (3, .int r26), (4, .long r28), (6, .long 0), (8, .int 0)] [4, 5, 3, 2, 1, 0] rfl ?_
    exact G8_tellDrawn_L70_ok C hd hr  h
  · have h := h.2 c24
    refine x_iload_n C rfl 2 rfl dX8_tellDrawn_26 ?_
    refine x_aload_n C rfl 0 rfl dX8_tellDrawn_27 ?_
    refine x_getR (r := 1) C (j := 0) ob153.1 ob153.2 (Nat.le_of_ble_eq_true rfl) (Nat.le_of_ble_eq_true rfl) (fun _ _ _ => rfl) r_153_0 tw_2_3 dX8_tellDrawn_28 ?_
    refine x_getRN (r := 2) C (j := 0) ob1.1 ob1.2 (Nat.le_of_ble_eq_true rfl) (Nat.le_of_ble_eq_true rfl) (fun _ _ _ => rfl) r_1_0 tw_1_123 dX8_tellDrawn_31 ?_
    refine x_aload_n C rfl 0 rfl dX8_tellDrawn_34 ?_
    refine x_getR (r := 166) C (j := 8) ob153.1 ob153.2 (Nat.le_of_ble_eq_true rfl) (Nat.le_of_ble_eq_true rfl) (fun _ _ _ => rfl) r_153_8 tw_2_11 dX8_tellDrawn_35 ?_
    refine x_iload_n C rfl 3 rfl dX8_tellDrawn_38 ?_
    obtain ⟨c41, h⟩ := h
    refine x_iald C ob166.1 ob166.2 c41 rfl dX8_tellDrawn_39 ?_
    obtain ⟨c42, h⟩ := h
    refine x_iald C ob2.1 ob2.2 c42 rfl dX8_tellDrawn_40 ?_
    refine x_iload_n C rfl 3 rfl dX8_tellDrawn_41 ?_
    refine x_ishl C dX8_tellDrawn_42 ?_
    refine x_ior C dX8_tellDrawn_43 ?_
    refine x_topi (fun y43 e_y43 => ?_)
    have h := h y43 e_y43
    refine x_istore_n C [(2, .int y43), (0, .ref 153), (1, .int p1), (3, .int x.2.1)] rfl (Nat.le_of_ble_eq_true rfl) rfl dX8_tellDrawn_44 ?_
    refine x_iinc (v := (x.2.1 + 1)) C [(3, .int (x.2.1 + 1)), (2, .int y43), (0, .ref 153), (1, .int p1)] 3 rfl (congrArg (fun z => x.2.1 + z) (by decide : Int32.ofInt (1) = 1)) (Nat.le_of_ble_eq_true rfl) rfl dX8_tellDrawn_45 ?_
    refine x_goto (tgt := 21) C dX8_tellDrawn_48 (by decide) ?_
    refine x_sub [(0, .ref 153), (1, .int p1), (2, .int y43), (3, .int (x.2.1 + 1))] [2, 3, 1, 0] rfl ?_
    exact hK21 _ _ _ h
theorem G8_tellDrawn_L21_ok {p : Program} {e : Env} {s : State} {m : MethodId} {args : Array Value} {below : List Frame} {meth : Method} {c : Code} {l : Launch} {φ : Nat → Nat} {tc : Nat → ClassId} {D : va_G} {s0 : State} {dR : Nat} (C : CX p s m args meth c φ tc D (AX φ) s0 cX8_tellDrawn RX8 9) (hd : G8_tellDrawn_dep ≤ dR) (hr : meth.sig.returnType = (some .int))  {p1 : Int32} {Q : Int32 → MM → Prop}  {x : Int32 × Int32 × MM}    (h : Lp (G8_tellDrawn_L21 p1 Q) x) : WX p l e (rmX dR) s m args below meth c φ tc D (AX φ) 9 0 0 (MQ below (QX φ tc D (QI Q)) args s 0 0 (AX φ)) 21 [(0, .ref 153), (1, .int p1), (2, .int x.1), (3, .int x.2.1)] [] x.2.2 := by
  obtain ⟨n, h⟩ := h
  induction n generalizing x with
  | zero => exact h.elim
  | succ n ih => exact G8_tellDrawn_L21_b C hd hr   (fun z2 z3 zμ hz => by have q := ih hz; exact q) h
set_option maxHeartbeats 4000000 in
set_option maxRecDepth 100000 in
theorem G8_tellDrawn_met {l : Launch} {φ : Nat → Nat} {tc : Nat → ClassId} {D : va_G} {s0 : State} (hG : GX φ tc D s0) {dR : Nat} (hd : G8_tellDrawn_dep ≤ dR)  {μ : MM} {Q : Int32 → MM → Prop}  (h : G8_tellDrawn  μ Q) : MX l φ tc D s0 dR yX8_tellDrawn cX8_tellDrawn 9 (some .int) [.ref 153] μ (QI Q) := by
  refine MX.of (own := RX8) hG plX8 rfl (Nat.le_of_ble_eq_true rfl) (fun p e s m args below meth c C hr => ?_)
  refine x_sub [(0, .ref 153)] [0] rfl ?_
  unfold G8_tellDrawn at h
  refine x_aload_n C rfl 0 rfl dX8_tellDrawn_0 ?_
  refine x_callV (dC := G8_gatherNames_dep) (as := []) (st := []) C rX kX (Nat.le_trans (Nat.le_of_ble_eq_true rfl) hd) (Nat.le_of_ble_eq_true rfl) ob153.1 ob153.2 (Nat.le_of_ble_eq_true rfl) rfl ts_4_6 tw_4_129 tw_4_127 tc_4_130 tw_1_6 hyX8 hnX8_gatherNames rfl (Nat.le_of_ble_eq_true rfl) dX8_tellDrawn_1 (G8_gatherNames_met C.2.2.2.2.2.2.2.1 (Nat.le_refl _)  h) (fun r0 μ20 hq => ?_)
  obtain ⟨r21, rfl, h⟩ := hq
  refine x_st [.int r21] rfl ?_
  refine x_istore_n C [(1, .int r21), (0, .ref 153)] rfl (Nat.le_of_ble_eq_true rfl) rfl dX8_tellDrawn_4 ?_
  refine x_iload_n C rfl 0 rfl dX8_tellDrawn_5 ?_
  refine x_if_ne (tgt := 12) C dX8_tellDrawn_6 (by decide) (fun c22 => ?_) (fun c22 => ?_)
  · have h := h.1 c22
    refine x_aload_n C rfl 1 rfl dX8_tellDrawn_12 ?_
    refine x_iload_n C rfl 0 rfl dX8_tellDrawn_13 ?_
    refine x_callV (dC := G8_scaleShares_dep) (as := [.int r21]) (st := []) C rX kX (Nat.le_trans (Nat.le_of_ble_eq_true rfl) hd) (Nat.le_of_ble_eq_true rfl) ob153.1 ob153.2 (Nat.le_of_ble_eq_true rfl) rfl ts_4_8 tw_4_141 tw_4_139 tc_4_142 tw_1_6 hyX8 hnX8_scaleShares rfl (Nat.le_of_ble_eq_true rfl) dX8_tellDrawn_14 (G8_scaleShares_met C.2.2.2.2.2.2.2.1 (Nat.le_refl _)  h) (fun r0 μ23 hq => ?_)
    obtain ⟨rfl, h⟩ := hq
    refine x_st [] rfl ?_
    refine x_iconst (v := 0) C (by decide) dX8_tellDrawn_17 ?_
    refine x_istore_n C [(2, .int 0), (1, .int r21), (0, .ref 153)] rfl (Nat.le_of_ble_eq_true rfl) rfl dX8_tellDrawn_18 ?_
    refine x_iconst (v := 0) C (by decide) dX8_tellDrawn_19 ?_
    refine x_istore_n C [(3, .int 0), (2, .int 0), (1, .int r21), (0, .ref 153)] rfl (Nat.le_of_ble_eq_true rfl) rfl dX8_tellDrawn_20 ?_
    refine x_sub [(0, .ref 153), (1, .int r21), (2, .int 0), (3, .int 0)] [3, 2, 1, 0] rfl ?_
    exact G8_tellDrawn_L21_ok C hd hr  h
  · have h := h.2 c22
    refine x_bipush (v := (-2)) C (by decide) dX8_tellDrawn_9 ?_
    exact x_iret C hr dX8_tellDrawn_11 ⟨_, rfl, h⟩
set_option maxHeartbeats 4000000 in
set_option maxRecDepth 100000 in
theorem G11_drawn_met {l : Launch} {φ : Nat → Nat} {tc : Nat → ClassId} {D : va_G} {s0 : State} (hG : GX φ tc D s0) {dR : Nat} (hd : G11_drawn_dep ≤ dR)  {μ : MM} {Q : Int32 → MM → Prop}  (h : G11_drawn  μ Q) : MX l φ tc D s0 dR yX11_drawn cX11_drawn 1 (some .int) [.ref 0] μ (QI Q) := by
  refine MX.of (own := RX11) hG plX11 rfl (Nat.le_of_ble_eq_true rfl) (fun p e s m args below meth c C hr => ?_)
  refine x_sub [(0, .ref 0)] [0] rfl ?_
  unfold G11_drawn at h
  refine x_aload_n C rfl 0 rfl dX11_drawn_0 ?_
  refine x_getR (r := 153) C (j := 2) ob0.1 ob0.2 (Nat.le_of_ble_eq_true rfl) (Nat.le_of_ble_eq_true rfl) (fun _ _ _ => rfl) r_0_2 tw_2_165 dX11_drawn_1 ?_
  refine x_callVN (dC := G8_tellDrawn_dep) (as := []) (st := []) C rX kX (Nat.le_trans (Nat.le_of_ble_eq_true rfl) hd) (Nat.le_of_ble_eq_true rfl) ob153.1 ob153.2 (Nat.le_of_ble_eq_true rfl) rfl ts_4_7 tw_4_137 tw_4_135 tc_4_138 tw_1_6 hyX8 hnX8_tellDrawn rfl (Nat.le_of_ble_eq_true rfl) dX11_drawn_4 (G8_tellDrawn_met C.2.2.2.2.2.2.2.1 (Nat.le_refl _)  h) (fun r0 μ3 hq => ?_)
  obtain ⟨r4, rfl, h⟩ := hq
  refine x_st [.int r4] rfl ?_
  exact x_iret C hr dX11_drawn_7 ⟨_, rfl, h⟩
set_option maxHeartbeats 4000000 in
set_option maxRecDepth 100000 in
theorem GJ6_compare_7cf53_met {l : Launch} {φ : Nat → Nat} {tc : Nat → ClassId} {D : va_G} {s0 : State} (hG : GX φ tc D s0) {dR : Nat} (hd : GJ6_compare_7cf53_dep ≤ dR) {v0 : Int32} {v1 : Int32} {μ : MM} {Q : Int32 → MM → Prop}  (h : GJ6_compare_7cf53 v0 v1 μ Q) : MX l φ tc D s0 dR yJ6_compare_7cf53 cJ6_compare_7cf53 2 (some .int) [.int v0, .int v1] μ (QI Q) := by
  refine MX.of (own := RJ6) hG plJ6 rfl (Nat.le_of_ble_eq_true rfl) (fun p e s m args below meth c C hr => ?_)
  refine x_sub [(0, .int v0), (1, .int v1)] [0, 1] rfl ?_
  unfold GJ6_compare_7cf53 at h
  refine x_iload_n C rfl 0 rfl dJ6_compare_7cf53_0 ?_
  refine x_iload_n C rfl 1 rfl dJ6_compare_7cf53_1 ?_
  refine x_icmp_ge (tgt := 9) C dJ6_compare_7cf53_2 (by decide) (fun c1 => ?_) (fun c1 => ?_)
  · have h := h.1 c1
    refine x_iload_n C rfl 0 rfl dJ6_compare_7cf53_9 ?_
    refine x_iload_n C rfl 1 rfl dJ6_compare_7cf53_10 ?_
    refine x_icmp_ne (tgt := 18) C dJ6_compare_7cf53_11 (by decide) (fun c2 => ?_) (fun c2 => ?_)
    · have h := h.1 c2
      refine x_iconst (v := 1) C (by decide) dJ6_compare_7cf53_18 ?_
      exact x_iret C hr dJ6_compare_7cf53_19 ⟨_, rfl, h⟩
    · have h := h.2 c2
      refine x_iconst (v := 0) C (by decide) dJ6_compare_7cf53_14 ?_
      refine x_goto (tgt := 19) C dJ6_compare_7cf53_15 (by decide) ?_
      exact x_iret C hr dJ6_compare_7cf53_19 ⟨_, rfl, h⟩
  · have h := h.2 c1
    refine x_iconst (v := (-1)) C (by decide) dJ6_compare_7cf53_5 ?_
    refine x_goto (tgt := 19) C dJ6_compare_7cf53_6 (by decide) ?_
    exact x_iret C hr dJ6_compare_7cf53_19 ⟨_, rfl, h⟩
set_option maxHeartbeats 4000000 in
set_option maxRecDepth 100000 in
theorem G8_compareBy_met {l : Launch} {φ : Nat → Nat} {tc : Nat → ClassId} {D : va_G} {s0 : State} (hG : GX φ tc D s0) {dR : Nat} (hd : G8_compareBy_dep ≤ dR) {v1 : Int32} {v2 : Int32} {v3 : Int32} {μ : MM} {Q : Int32 → MM → Prop}  (h : G8_compareBy v1 v2 v3 μ Q) : MX l φ tc D s0 dR yX8_compareBy cX8_compareBy 4 (some .int) [.ref 153, .int v1, .int v2, .int v3] μ (QI Q) := by
  refine MX.of (own := RX8) hG plX8 rfl (Nat.le_of_ble_eq_true rfl) (fun p e s m args below meth c C hr => ?_)
  refine x_sub [(0, .ref 153), (1, .int v1), (2, .int v2), (3, .int v3)] [0, 1, 2, 3] rfl ?_
  unfold G8_compareBy at h
  refine x_iload_n C rfl 1 rfl dX8_compareBy_0 ?_
  by_cases c17 : v1 = 0
  · have h := h.1 c17
    refine x_tIn (tgt := 28) C dX8_compareBy_1 (by rw [c17]; decide) (by rw [c17]; decide) (by rw [c17]; rfl) (by decide) ?_
    refine x_aload_n C rfl 0 rfl dX8_compareBy_28 ?_
    refine x_getR (r := 1) C (j := 0) ob153.1 ob153.2 (Nat.le_of_ble_eq_true rfl) (Nat.le_of_ble_eq_true rfl) (fun _ _ _ => rfl) r_153_0 tw_2_3 dX8_compareBy_29 ?_
    refine x_getRN (r := 2) C (j := 0) ob1.1 ob1.2 (Nat.le_of_ble_eq_true rfl) (Nat.le_of_ble_eq_true rfl) (fun _ _ _ => rfl) r_1_0 tw_1_123 dX8_compareBy_32 ?_
    refine x_iload_n C rfl 2 rfl dX8_compareBy_35 ?_
    obtain ⟨c18, h⟩ := h
    refine x_iald C ob2.1 ob2.2 c18 rfl dX8_compareBy_36 ?_
    refine x_aload_n C rfl 0 rfl dX8_compareBy_37 ?_
    refine x_getR (r := 1) C (j := 0) ob153.1 ob153.2 (Nat.le_of_ble_eq_true rfl) (Nat.le_of_ble_eq_true rfl) (fun _ _ _ => rfl) r_153_0 tw_2_3 dX8_compareBy_38 ?_
    refine x_getRN (r := 2) C (j := 0) ob1.1 ob1.2 (Nat.le_of_ble_eq_true rfl) (Nat.le_of_ble_eq_true rfl) (fun _ _ _ => rfl) r_1_0 tw_1_123 dX8_compareBy_41 ?_
    refine x_iload_n C rfl 3 rfl dX8_compareBy_44 ?_
    obtain ⟨c19, h⟩ := h
    refine x_iald C ob2.1 ob2.2 c19 rfl dX8_compareBy_45 ?_
    refine x_callS (dC := GJ6_compare_7cf53_dep) (as := [.int (gI μ 2 v2.toNatClampNeg), .int (gI μ 2 v3.toNatClampNeg)]) (st := []) C rX kX (Nat.le_trans (Nat.le_of_ble_eq_true rfl) hd) (Nat.le_of_ble_eq_true rfl) tw_4_174 tw_4_173 tc_4_175 tw_1_24 hyJ6 hnJ6_compare_7cf53 rfl (Nat.le_of_ble_eq_true rfl) dX8_compareBy_46 (GJ6_compare_7cf53_met C.2.2.2.2.2.2.2.1 (Nat.le_refl _)  h) (fun r0 μ20 hq => ?_)
    obtain ⟨r21, rfl, h⟩ := hq
    refine x_st [.int r21] rfl ?_
    exact x_iret C hr dX8_compareBy_49 ⟨_, rfl, h⟩
  have h := h.2
  by_cases c22 : v1 = 1
  · have h := h.1 c22
    refine x_tIn (tgt := 50) C dX8_compareBy_1 (by rw [c22]; decide) (by rw [c22]; decide) (by rw [c22]; rfl) (by decide) ?_
    refine x_aload_n C rfl 0 rfl dX8_compareBy_50 ?_
    refine x_getR (r := 1) C (j := 0) ob153.1 ob153.2 (Nat.le_of_ble_eq_true rfl) (Nat.le_of_ble_eq_true rfl) (fun _ _ _ => rfl) r_153_0 tw_2_3 dX8_compareBy_51 ?_
    refine x_getRN (r := 3) C (j := 1) ob1.1 ob1.2 (Nat.le_of_ble_eq_true rfl) (Nat.le_of_ble_eq_true rfl) (fun _ _ _ => rfl) r_1_1 tw_1_125 dX8_compareBy_54 ?_
    refine x_iload_n C rfl 2 rfl dX8_compareBy_57 ?_
    obtain ⟨c23, h⟩ := h
    refine x_iald C ob3.1 ob3.2 c23 rfl dX8_compareBy_58 ?_
    refine x_aload_n C rfl 0 rfl dX8_compareBy_59 ?_
    refine x_getR (r := 1) C (j := 0) ob153.1 ob153.2 (Nat.le_of_ble_eq_true rfl) (Nat.le_of_ble_eq_true rfl) (fun _ _ _ => rfl) r_153_0 tw_2_3 dX8_compareBy_60 ?_
    refine x_getRN (r := 3) C (j := 1) ob1.1 ob1.2 (Nat.le_of_ble_eq_true rfl) (Nat.le_of_ble_eq_true rfl) (fun _ _ _ => rfl) r_1_1 tw_1_125 dX8_compareBy_63 ?_
    refine x_iload_n C rfl 3 rfl dX8_compareBy_66 ?_
    obtain ⟨c24, h⟩ := h
    refine x_iald C ob3.1 ob3.2 c24 rfl dX8_compareBy_67 ?_
    refine x_callS (dC := GJ6_compare_7cf53_dep) (as := [.int (gI μ 3 v2.toNatClampNeg), .int (gI μ 3 v3.toNatClampNeg)]) (st := []) C rX kX (Nat.le_trans (Nat.le_of_ble_eq_true rfl) hd) (Nat.le_of_ble_eq_true rfl) tw_4_174 tw_4_173 tc_4_175 tw_1_24 hyJ6 hnJ6_compare_7cf53 rfl (Nat.le_of_ble_eq_true rfl) dX8_compareBy_68 (GJ6_compare_7cf53_met C.2.2.2.2.2.2.2.1 (Nat.le_refl _)  h) (fun r0 μ25 hq => ?_)
    obtain ⟨r26, rfl, h⟩ := hq
    refine x_st [.int r26] rfl ?_
    exact x_iret C hr dX8_compareBy_71 ⟨_, rfl, h⟩
  have h := h.2
  by_cases c27 : v1 = 2
  · have h := h.1 c27
    refine x_tIn (tgt := 72) C dX8_compareBy_1 (by rw [c27]; decide) (by rw [c27]; decide) (by rw [c27]; rfl) (by decide) ?_
    refine x_aload_n C rfl 0 rfl dX8_compareBy_72 ?_
    refine x_getR (r := 1) C (j := 0) ob153.1 ob153.2 (Nat.le_of_ble_eq_true rfl) (Nat.le_of_ble_eq_true rfl) (fun _ _ _ => rfl) r_153_0 tw_2_3 dX8_compareBy_73 ?_
    refine x_getRN (r := 4) C (j := 2) ob1.1 ob1.2 (Nat.le_of_ble_eq_true rfl) (Nat.le_of_ble_eq_true rfl) (fun _ _ _ => rfl) r_1_2 tw_1_127 dX8_compareBy_76 ?_
    refine x_iload_n C rfl 2 rfl dX8_compareBy_79 ?_
    obtain ⟨c28, h⟩ := h
    refine x_iald C ob4.1 ob4.2 c28 rfl dX8_compareBy_80 ?_
    refine x_aload_n C rfl 0 rfl dX8_compareBy_81 ?_
    refine x_getR (r := 1) C (j := 0) ob153.1 ob153.2 (Nat.le_of_ble_eq_true rfl) (Nat.le_of_ble_eq_true rfl) (fun _ _ _ => rfl) r_153_0 tw_2_3 dX8_compareBy_82 ?_
    refine x_getRN (r := 4) C (j := 2) ob1.1 ob1.2 (Nat.le_of_ble_eq_true rfl) (Nat.le_of_ble_eq_true rfl) (fun _ _ _ => rfl) r_1_2 tw_1_127 dX8_compareBy_85 ?_
    refine x_iload_n C rfl 3 rfl dX8_compareBy_88 ?_
    obtain ⟨c29, h⟩ := h
    refine x_iald C ob4.1 ob4.2 c29 rfl dX8_compareBy_89 ?_
    refine x_callS (dC := GJ6_compare_7cf53_dep) (as := [.int (gI μ 4 v2.toNatClampNeg), .int (gI μ 4 v3.toNatClampNeg)]) (st := []) C rX kX (Nat.le_trans (Nat.le_of_ble_eq_true rfl) hd) (Nat.le_of_ble_eq_true rfl) tw_4_174 tw_4_173 tc_4_175 tw_1_24 hyJ6 hnJ6_compare_7cf53 rfl (Nat.le_of_ble_eq_true rfl) dX8_compareBy_90 (GJ6_compare_7cf53_met C.2.2.2.2.2.2.2.1 (Nat.le_refl _)  h) (fun r0 μ30 hq => ?_)
    obtain ⟨r31, rfl, h⟩ := hq
    refine x_st [.int r31] rfl ?_
    exact x_iret C hr dX8_compareBy_93 ⟨_, rfl, h⟩
  have h := h.2
  have h := h c17 c22 c27
  have n_c17 := lv_neT (a := 0) c17 (by decide)
  have n_c22 := lv_neT (a := 1) c22 (by decide)
  have n_c27 := lv_neT (a := 2) c27 (by decide)
  refine x_tOut (tgt := 94) C dX8_compareBy_1 (by omega) (by decide) ?_
  refine x_aload_n C rfl 0 rfl dX8_compareBy_94 ?_
  refine x_getR (r := 1) C (j := 0) ob153.1 ob153.2 (Nat.le_of_ble_eq_true rfl) (Nat.le_of_ble_eq_true rfl) (fun _ _ _ => rfl) r_153_0 tw_2_3 dX8_compareBy_95 ?_
  refine x_getRN (r := 5) C (j := 3) ob1.1 ob1.2 (Nat.le_of_ble_eq_true rfl) (Nat.le_of_ble_eq_true rfl) (fun _ _ _ => rfl) r_1_3 tw_1_129 dX8_compareBy_98 ?_
  refine x_iload_n C rfl 2 rfl dX8_compareBy_101 ?_
  obtain ⟨c32, h⟩ := h
  refine x_iald C ob5.1 ob5.2 c32 rfl dX8_compareBy_102 ?_
  refine x_aload_n C rfl 0 rfl dX8_compareBy_103 ?_
  refine x_getR (r := 1) C (j := 0) ob153.1 ob153.2 (Nat.le_of_ble_eq_true rfl) (Nat.le_of_ble_eq_true rfl) (fun _ _ _ => rfl) r_153_0 tw_2_3 dX8_compareBy_104 ?_
  refine x_getRN (r := 5) C (j := 3) ob1.1 ob1.2 (Nat.le_of_ble_eq_true rfl) (Nat.le_of_ble_eq_true rfl) (fun _ _ _ => rfl) r_1_3 tw_1_129 dX8_compareBy_107 ?_
  refine x_iload_n C rfl 3 rfl dX8_compareBy_110 ?_
  obtain ⟨c33, h⟩ := h
  refine x_iald C ob5.1 ob5.2 c33 rfl dX8_compareBy_111 ?_
  refine x_callS (dC := GJ6_compare_7cf53_dep) (as := [.int (gI μ 5 v2.toNatClampNeg), .int (gI μ 5 v3.toNatClampNeg)]) (st := []) C rX kX (Nat.le_trans (Nat.le_of_ble_eq_true rfl) hd) (Nat.le_of_ble_eq_true rfl) tw_4_174 tw_4_173 tc_4_175 tw_1_24 hyJ6 hnJ6_compare_7cf53 rfl (Nat.le_of_ble_eq_true rfl) dX8_compareBy_112 (GJ6_compare_7cf53_met C.2.2.2.2.2.2.2.1 (Nat.le_refl _)  h) (fun r0 μ34 hq => ?_)
  obtain ⟨r35, rfl, h⟩ := hq
  refine x_st [.int r35] rfl ?_
  exact x_iret C hr dX8_compareBy_115 ⟨_, rfl, h⟩
set_option maxHeartbeats 4000000 in
set_option maxRecDepth 100000 in
theorem G8_compareShares_met {l : Launch} {φ : Nat → Nat} {tc : Nat → ClassId} {D : va_G} {s0 : State} (hG : GX φ tc D s0) {dR : Nat} (hd : G8_compareShares_dep ≤ dR) {v1 : Int32} {v2 : Int32} {μ : MM} {Q : Int32 → MM → Prop}  (h : G8_compareShares v1 v2 μ Q) : MX l φ tc D s0 dR yX8_compareShares cX8_compareShares 3 (some .int) [.ref 153, .int v1, .int v2] μ (QI Q) := by
  refine MX.of (own := RX8) hG plX8 rfl (Nat.le_of_ble_eq_true rfl) (fun p e s m args below meth c C hr => ?_)
  refine x_sub [(0, .ref 153), (1, .int v1), (2, .int v2)] [0, 1, 2] rfl ?_
  unfold G8_compareShares at h
  refine x_aload_n C rfl 0 rfl dX8_compareShares_0 ?_
  refine x_getR (r := 165) C (j := 7) ob153.1 ob153.2 (Nat.le_of_ble_eq_true rfl) (Nat.le_of_ble_eq_true rfl) (fun _ _ _ => rfl) r_153_7 tw_2_10 dX8_compareShares_1 ?_
  refine x_iload_n C rfl 1 rfl dX8_compareShares_4 ?_
  obtain ⟨c7, h⟩ := h
  refine x_iald C ob165.1 ob165.2 c7 rfl dX8_compareShares_5 ?_
  refine x_aload_n C rfl 0 rfl dX8_compareShares_6 ?_
  refine x_getR (r := 164) C (j := 6) ob153.1 ob153.2 (Nat.le_of_ble_eq_true rfl) (Nat.le_of_ble_eq_true rfl) (fun _ _ _ => rfl) r_153_6 tw_2_9 dX8_compareShares_7 ?_
  refine x_iload_n C rfl 2 rfl dX8_compareShares_10 ?_
  obtain ⟨c8, h⟩ := h
  refine x_iald C ob164.1 ob164.2 c8 rfl dX8_compareShares_11 ?_
  refine x_imul C dX8_compareShares_12 ?_
  refine x_aload_n C rfl 0 rfl dX8_compareShares_13 ?_
  refine x_getR (r := 165) C (j := 7) ob153.1 ob153.2 (Nat.le_of_ble_eq_true rfl) (Nat.le_of_ble_eq_true rfl) (fun _ _ _ => rfl) r_153_7 tw_2_10 dX8_compareShares_14 ?_
  refine x_iload_n C rfl 2 rfl dX8_compareShares_17 ?_
  obtain ⟨c9, h⟩ := h
  refine x_iald C ob165.1 ob165.2 c9 rfl dX8_compareShares_18 ?_
  refine x_aload_n C rfl 0 rfl dX8_compareShares_19 ?_
  refine x_getR (r := 164) C (j := 6) ob153.1 ob153.2 (Nat.le_of_ble_eq_true rfl) (Nat.le_of_ble_eq_true rfl) (fun _ _ _ => rfl) r_153_6 tw_2_9 dX8_compareShares_20 ?_
  refine x_iload_n C rfl 1 rfl dX8_compareShares_23 ?_
  obtain ⟨c10, h⟩ := h
  refine x_iald C ob164.1 ob164.2 c10 rfl dX8_compareShares_24 ?_
  refine x_imul C dX8_compareShares_25 ?_
  refine x_callS (dC := GJ6_compare_7cf53_dep) (as := [.int ((gI μ 165 v1.toNatClampNeg) * (gI μ 164 v2.toNatClampNeg)), .int ((gI μ 165 v2.toNatClampNeg) * (gI μ 164 v1.toNatClampNeg))]) (st := []) C rX kX (Nat.le_trans (Nat.le_of_ble_eq_true rfl) hd) (Nat.le_of_ble_eq_true rfl) tw_4_174 tw_4_173 tc_4_175 tw_1_24 hyJ6 hnJ6_compare_7cf53 rfl (Nat.le_of_ble_eq_true rfl) dX8_compareShares_26 (GJ6_compare_7cf53_met C.2.2.2.2.2.2.2.1 (Nat.le_refl _)  h) (fun r0 μ11 hq => ?_)
  obtain ⟨r12, rfl, h⟩ := hq
  refine x_st [.int r12] rfl ?_
  exact x_iret C hr dX8_compareShares_29 ⟨_, rfl, h⟩
set_option maxHeartbeats 4000000 in
set_option maxRecDepth 100000 in
theorem G8_pairsGoing_L15_b {p : Program} {e : Env} {s : State} {m : MethodId} {args : Array Value} {below : List Frame} {meth : Method} {c : Code} {l : Launch} {φ : Nat → Nat} {tc : Nat → ClassId} {D : va_G} {s0 : State} {dR : Nat} (C : CX p s m args meth c φ tc D (AX φ) s0 cX8_pairsGoing RX8 8) (hd : G8_pairsGoing_dep ≤ dR) (hr : meth.sig.returnType = (some .int))  {p1 : Int32} {p2 : Int32} {p3 : Int32} {p5 : Int32} {Q : Int32 → MM → Prop} {K6 : Int32 × Int32 × MM → Prop} {K15 : Int32 × Int32 × MM → Prop} {x : Int32 × Int32 × MM}   (hK6 : ∀ (z4 : Int32) (z5 : Int32) (zμ : MM), K6 (z4, z5, zμ) → WX p l e (rmX dR) s m args below meth c φ tc D (AX φ) 8 0 0 (MQ below (QX φ tc D (QI Q)) args s 0 0 (AX φ)) 6 [(0, .ref 153), (1, .int p1), (2, .int p2), (3, .int p3), (4, .int z4), (5, .int z5)] [] zμ) (hK15 : ∀ (z4 : Int32) (z6 : Int32) (zμ : MM), K15 (z4, z6, zμ) → WX p l e (rmX dR) s m args below meth c φ tc D (AX φ) 8 0 0 (MQ below (QX φ tc D (QI Q)) args s 0 0 (AX φ)) 15 [(0, .ref 153), (1, .int p1), (2, .int p2), (3, .int p3), (4, .int z4), (5, .int p5), (6, .int z6)] [] zμ) (h : G8_pairsGoing_L15 p1 p2 p3 p5 K6 Q K15 x) : WX p l e (rmX dR) s m args below meth c φ tc D (AX φ) 8 0 0 (MQ below (QX φ tc D (QI Q)) args s 0 0 (AX φ)) 15 [(0, .ref 153), (1, .int p1), (2, .int p2), (3, .int p3), (4, .int x.1), (5, .int p5), (6, .int x.2.1)] [] x.2.2 := by
  unfold G8_pairsGoing_L15 at h
  refine x_iload C 6 rfl dX8_pairsGoing_15 ?_
  refine x_iload C 5 rfl dX8_pairsGoing_17 ?_
  refine x_icmp_ge (tgt := 88) C dX8_pairsGoing_19 (by decide) (fun c15 => ?_) (fun c15 => ?_)
  · have h := h.1 c15
    refine x_iinc (v := (p5 + 1)) C [(5, .int (p5 + 1)), (0, .ref 153), (1, .int p1), (2, .int p2), (3, .int p3), (4, .int x.1), (6, .int x.2.1)] 5 rfl (congrArg (fun z => p5 + z) (by decide : Int32.ofInt (1) = 1)) (Nat.le_of_ble_eq_true rfl) rfl dX8_pairsGoing_88 ?_
    refine x_goto (tgt := 6) C dX8_pairsGoing_91 (by decide) ?_
    refine x_sub [(0, .ref 153), (1, .int p1), (2, .int p2), (3, .int p3), (4, .int x.1), (5, .int (p5 + 1))] [1, 2, 3, 4, 5, 0] rfl ?_
    exact hK6 _ _ _ h
  · have h := h.2 c15
    refine x_aload_n C rfl 0 rfl dX8_pairsGoing_22 ?_
    refine x_iload_n C rfl 1 rfl dX8_pairsGoing_23 ?_
    refine x_aload_n C rfl 0 rfl dX8_pairsGoing_24 ?_
    refine x_getR (r := 166) C (j := 8) ob153.1 ob153.2 (Nat.le_of_ble_eq_true rfl) (Nat.le_of_ble_eq_true rfl) (fun _ _ _ => rfl) r_153_8 tw_2_11 dX8_pairsGoing_25 ?_
    refine x_iload C 5 rfl dX8_pairsGoing_28 ?_
    obtain ⟨c16, h⟩ := h
    refine x_iald C ob166.1 ob166.2 c16 rfl dX8_pairsGoing_30 ?_
    refine x_aload_n C rfl 0 rfl dX8_pairsGoing_31 ?_
    refine x_getR (r := 166) C (j := 8) ob153.1 ob153.2 (Nat.le_of_ble_eq_true rfl) (Nat.le_of_ble_eq_true rfl) (fun _ _ _ => rfl) r_153_8 tw_2_11 dX8_pairsGoing_32 ?_
    refine x_iload C 6 rfl dX8_pairsGoing_35 ?_
    obtain ⟨c17, h⟩ := h
    refine x_iald C ob166.1 ob166.2 c17 rfl dX8_pairsGoing_37 ?_
    refine x_callV (dC := G8_compareBy_dep) (as := [.int p1, .int (gI x.2.2 166 p5.toNatClampNeg), .int (gI x.2.2 166 x.2.1.toNatClampNeg)]) (st := []) C rX kX (Nat.le_trans (Nat.le_of_ble_eq_true rfl) hd) (Nat.le_of_ble_eq_true rfl) ob153.1 ob153.2 (Nat.le_of_ble_eq_true rfl) rfl ts_4_12 tw_4_171 tw_4_169 tc_4_172 tw_1_6 hyX8 hnX8_compareBy rfl (Nat.le_of_ble_eq_true rfl) dX8_pairsGoing_38 (G8_compareBy_met C.2.2.2.2.2.2.2.1 (Nat.le_refl _)  h) (fun r0 μ18 hq => ?_)
    obtain ⟨r19, rfl, h⟩ := hq
    refine x_st [.int r19] rfl ?_
    refine x_aload_n C rfl 0 rfl dX8_pairsGoing_41 ?_
    refine x_aload_n C rfl 0 rfl dX8_pairsGoing_42 ?_
    refine x_getR (r := 166) C (j := 8) ob153.1 ob153.2 (Nat.le_of_ble_eq_true rfl) (Nat.le_of_ble_eq_true rfl) (fun _ _ _ => rfl) r_153_8 tw_2_11 dX8_pairsGoing_43 ?_
    refine x_iload C 5 rfl dX8_pairsGoing_46 ?_
    obtain ⟨c20, h⟩ := h
    refine x_iald C ob166.1 ob166.2 c20 rfl dX8_pairsGoing_48 ?_
    refine x_aload_n C rfl 0 rfl dX8_pairsGoing_49 ?_
    refine x_getR (r := 166) C (j := 8) ob153.1 ob153.2 (Nat.le_of_ble_eq_true rfl) (Nat.le_of_ble_eq_true rfl) (fun _ _ _ => rfl) r_153_8 tw_2_11 dX8_pairsGoing_50 ?_
    refine x_iload C 6 rfl dX8_pairsGoing_53 ?_
    obtain ⟨c21, h⟩ := h
    refine x_iald C ob166.1 ob166.2 c21 rfl dX8_pairsGoing_55 ?_
    refine x_callV (dC := G8_compareShares_dep) (as := [.int (gI μ18 166 p5.toNatClampNeg), .int (gI μ18 166 x.2.1.toNatClampNeg)]) (st := [.int r19]) C rX kX (Nat.le_trans (Nat.le_of_ble_eq_true rfl) hd) (Nat.le_of_ble_eq_true rfl) ob153.1 ob153.2 (Nat.le_of_ble_eq_true rfl) rfl ts_4_13 tw_4_178 tw_4_176 tc_4_179 tw_1_6 hyX8 hnX8_compareShares rfl (Nat.le_of_ble_eq_true rfl) dX8_pairsGoing_56 (G8_compareShares_met C.2.2.2.2.2.2.2.1 (Nat.le_refl _)  h) (fun r0 μ22 hq => ?_)
    obtain ⟨r23, rfl, h⟩ := hq
    refine x_st [.int r23, .int r19] rfl ?_
    refine x_imul C dX8_pairsGoing_59 ?_
    refine x_topi (fun y24 e_y24 => ?_)
    have h := h y24 e_y24
    refine x_istore C [(7, .int y24), (0, .ref 153), (1, .int p1), (2, .int p2), (3, .int p3), (4, .int x.1), (5, .int p5), (6, .int x.2.1)] (Nat.le_of_ble_eq_true rfl) rfl dX8_pairsGoing_60 ?_
    refine x_iload C 5 rfl dX8_pairsGoing_62 ?_
    refine x_iload C 0 rfl dX8_pairsGoing_64 ?_
    refine x_iconst (v := 0) C (by decide) dX8_pairsGoing_66 ?_
    refine x_callS (dC := GJ6_compare_7cf53_dep) (as := [.int y24, .int 0]) (st := [.int x.1]) C rX kX (Nat.le_trans (Nat.le_of_ble_eq_true rfl) hd) (Nat.le_of_ble_eq_true rfl) tw_4_174 tw_4_173 tc_4_175 tw_1_24 hyJ6 hnJ6_compare_7cf53 rfl (Nat.le_of_ble_eq_true rfl) dX8_pairsGoing_67 (GJ6_compare_7cf53_met C.2.2.2.2.2.2.2.1 (Nat.le_refl _)  h) (fun r0 μ25 hq => ?_)
    obtain ⟨r26, rfl, h⟩ := hq
    refine x_st [.int r26, .int x.1] rfl ?_
    refine x_iload_n C rfl 3 rfl dX8_pairsGoing_70 ?_
    refine x_icmp_ne (tgt := 78) C dX8_pairsGoing_71 (by decide) (fun c27 => ?_) (fun c27 => ?_)
    · have h := h.1 c27
      refine x_iconst (v := 0) C (by decide) dX8_pairsGoing_78 ?_
      refine x_iadd C dX8_pairsGoing_79 ?_
      refine x_topi (fun y28 e_y28 => ?_)
      have h := h y28 e_y28
      refine x_istore C [(4, .int y28), (7, .int y24), (0, .ref 153), (1, .int p1), (2, .int p2), (3, .int p3), (5, .int p5), (6, .int x.2.1)] (Nat.le_of_ble_eq_true rfl) rfl dX8_pairsGoing_80 ?_
      refine x_iinc (v := (x.2.1 + 1)) C [(6, .int (x.2.1 + 1)), (4, .int y28), (7, .int y24), (0, .ref 153), (1, .int p1), (2, .int p2), (3, .int p3), (5, .int p5)] 7 rfl (congrArg (fun z => x.2.1 + z) (by decide : Int32.ofInt (1) = 1)) (Nat.le_of_ble_eq_true rfl) rfl dX8_pairsGoing_82 ?_
      refine x_goto (tgt := 15) C dX8_pairsGoing_85 (by decide) ?_
      refine x_sub [(0, .ref 153), (1, .int p1), (2, .int p2), (3, .int p3), (4, .int y28), (5, .int p5), (6, .int (x.2.1 + 1))] [3, 4, 5, 6, 1, 7, 0] rfl ?_
      exact hK15 _ _ _ h
    · have h := h.2 c27
      refine x_iconst (v := 1) C (by decide) dX8_pairsGoing_74 ?_
      refine x_goto (tgt := 79) C dX8_pairsGoing_75 (by decide) ?_
      refine x_iadd C dX8_pairsGoing_79 ?_
      refine x_topi (fun y29 e_y29 => ?_)
      have h := h y29 e_y29
      refine x_istore C [(4, .int y29), (7, .int y24), (0, .ref 153), (1, .int p1), (2, .int p2), (3, .int p3), (5, .int p5), (6, .int x.2.1)] (Nat.le_of_ble_eq_true rfl) rfl dX8_pairsGoing_80 ?_
      refine x_iinc (v := (x.2.1 + 1)) C [(6, .int (x.2.1 + 1)), (4, .int y29), (7, .int y24), (0, .ref 153), (1, .int p1), (2, .int p2), (3, .int p3), (5, .int p5)] 7 rfl (congrArg (fun z => x.2.1 + z) (by decide : Int32.ofInt (1) = 1)) (Nat.le_of_ble_eq_true rfl) rfl dX8_pairsGoing_82 ?_
      refine x_goto (tgt := 15) C dX8_pairsGoing_85 (by decide) ?_
      refine x_sub [(0, .ref 153), (1, .int p1), (2, .int p2), (3, .int p3), (4, .int y29), (5, .int p5), (6, .int (x.2.1 + 1))] [3, 4, 5, 6, 1, 7, 0] rfl ?_
      exact hK15 _ _ _ h
theorem G8_pairsGoing_L15_ok {p : Program} {e : Env} {s : State} {m : MethodId} {args : Array Value} {below : List Frame} {meth : Method} {c : Code} {l : Launch} {φ : Nat → Nat} {tc : Nat → ClassId} {D : va_G} {s0 : State} {dR : Nat} (C : CX p s m args meth c φ tc D (AX φ) s0 cX8_pairsGoing RX8 8) (hd : G8_pairsGoing_dep ≤ dR) (hr : meth.sig.returnType = (some .int))  {p1 : Int32} {p2 : Int32} {p3 : Int32} {p5 : Int32} {Q : Int32 → MM → Prop} {K6 : Int32 × Int32 × MM → Prop} {x : Int32 × Int32 × MM}   (hK6 : ∀ (z4 : Int32) (z5 : Int32) (zμ : MM), K6 (z4, z5, zμ) → WX p l e (rmX dR) s m args below meth c φ tc D (AX φ) 8 0 0 (MQ below (QX φ tc D (QI Q)) args s 0 0 (AX φ)) 6 [(0, .ref 153), (1, .int p1), (2, .int p2), (3, .int p3), (4, .int z4), (5, .int z5)] [] zμ) (h : Lp (G8_pairsGoing_L15 p1 p2 p3 p5 K6 Q) x) : WX p l e (rmX dR) s m args below meth c φ tc D (AX φ) 8 0 0 (MQ below (QX φ tc D (QI Q)) args s 0 0 (AX φ)) 15 [(0, .ref 153), (1, .int p1), (2, .int p2), (3, .int p3), (4, .int x.1), (5, .int p5), (6, .int x.2.1)] [] x.2.2 := by
  obtain ⟨n, h⟩ := h
  induction n generalizing x with
  | zero => exact h.elim
  | succ n ih => exact G8_pairsGoing_L15_b C hd hr  hK6 (fun z4 z6 zμ hz => by have q := ih hz; exact q) h
set_option maxHeartbeats 4000000 in
set_option maxRecDepth 100000 in
theorem G8_pairsGoing_L6_b {p : Program} {e : Env} {s : State} {m : MethodId} {args : Array Value} {below : List Frame} {meth : Method} {c : Code} {l : Launch} {φ : Nat → Nat} {tc : Nat → ClassId} {D : va_G} {s0 : State} {dR : Nat} (C : CX p s m args meth c φ tc D (AX φ) s0 cX8_pairsGoing RX8 8) (hd : G8_pairsGoing_dep ≤ dR) (hr : meth.sig.returnType = (some .int))  {p1 : Int32} {p2 : Int32} {p3 : Int32} {Q : Int32 → MM → Prop} {K6 : Int32 × Int32 × MM → Prop} {x : Int32 × Int32 × MM}   (hK6 : ∀ (z4 : Int32) (z5 : Int32) (zμ : MM), K6 (z4, z5, zμ) → WX p l e (rmX dR) s m args below meth c φ tc D (AX φ) 8 0 0 (MQ below (QX φ tc D (QI Q)) args s 0 0 (AX φ)) 6 [(0, .ref 153), (1, .int p1), (2, .int p2), (3, .int p3), (4, .int z4), (5, .int z5)] [] zμ) (h : G8_pairsGoing_L6 p1 p2 p3 Q K6 x) : WX p l e (rmX dR) s m args below meth c φ tc D (AX φ) 8 0 0 (MQ below (QX φ tc D (QI Q)) args s 0 0 (AX φ)) 6 [(0, .ref 153), (1, .int p1), (2, .int p2), (3, .int p3), (4, .int x.1), (5, .int x.2.1)] [] x.2.2 := by
  unfold G8_pairsGoing_L6 at h
  refine x_iload C 5 rfl dX8_pairsGoing_6 ?_
  refine x_iload_n C rfl 3 rfl dX8_pairsGoing_8 ?_
  refine x_icmp_ge (tgt := 94) C dX8_pairsGoing_9 (by decide) (fun c14 => ?_) (fun c14 => ?_)
  · have h := h.1 c14
    refine x_iload C 4 rfl dX8_pairsGoing_94 ?_
    exact x_iret C hr dX8_pairsGoing_96 ⟨_, rfl, h⟩
  · have h := h.2 c14
    refine x_iconst (v := 0) C (by decide) dX8_pairsGoing_12 ?_
    refine x_istore C [(6, .int 0), (0, .ref 153), (1, .int p1), (2, .int p2), (3, .int p3), (4, .int x.1), (5, .int x.2.1)] (Nat.le_of_ble_eq_true rfl) rfl dX8_pairsGoing_13 ?_
    refine x_sub [(0, .ref 153), (1, .int p1), (2, .int p2), (3, .int p3), (4, .int x.1), (5, .int x.2.1), (6, .int 0)] [1, 2, 3, 4, 5, 6, 0] rfl ?_
    exact G8_pairsGoing_L15_ok C hd hr hK6 h
theorem G8_pairsGoing_L6_ok {p : Program} {e : Env} {s : State} {m : MethodId} {args : Array Value} {below : List Frame} {meth : Method} {c : Code} {l : Launch} {φ : Nat → Nat} {tc : Nat → ClassId} {D : va_G} {s0 : State} {dR : Nat} (C : CX p s m args meth c φ tc D (AX φ) s0 cX8_pairsGoing RX8 8) (hd : G8_pairsGoing_dep ≤ dR) (hr : meth.sig.returnType = (some .int))  {p1 : Int32} {p2 : Int32} {p3 : Int32} {Q : Int32 → MM → Prop}  {x : Int32 × Int32 × MM}    (h : Lp (G8_pairsGoing_L6 p1 p2 p3 Q) x) : WX p l e (rmX dR) s m args below meth c φ tc D (AX φ) 8 0 0 (MQ below (QX φ tc D (QI Q)) args s 0 0 (AX φ)) 6 [(0, .ref 153), (1, .int p1), (2, .int p2), (3, .int p3), (4, .int x.1), (5, .int x.2.1)] [] x.2.2 := by
  obtain ⟨n, h⟩ := h
  induction n generalizing x with
  | zero => exact h.elim
  | succ n ih => exact G8_pairsGoing_L6_b C hd hr   (fun z4 z5 zμ hz => by have q := ih hz; exact q) h
set_option maxHeartbeats 4000000 in
set_option maxRecDepth 100000 in
theorem G8_pairsGoing_met {l : Launch} {φ : Nat → Nat} {tc : Nat → ClassId} {D : va_G} {s0 : State} (hG : GX φ tc D s0) {dR : Nat} (hd : G8_pairsGoing_dep ≤ dR) {v1 : Int32} {v2 : Int32} {v3 : Int32} {μ : MM} {Q : Int32 → MM → Prop}  (h : G8_pairsGoing v1 v2 v3 μ Q) : MX l φ tc D s0 dR yX8_pairsGoing cX8_pairsGoing 8 (some .int) [.ref 153, .int v1, .int v2, .int v3] μ (QI Q) := by
  refine MX.of (own := RX8) hG plX8 rfl (Nat.le_of_ble_eq_true rfl) (fun p e s m args below meth c C hr => ?_)
  refine x_sub [(0, .ref 153), (1, .int v1), (2, .int v2), (3, .int v3)] [0, 1, 2, 3] rfl ?_
  unfold G8_pairsGoing at h
  refine x_iconst (v := 0) C (by decide) dX8_pairsGoing_0 ?_
  refine x_istore C [(4, .int 0), (0, .ref 153), (1, .int v1), (2, .int v2), (3, .int v3)] (Nat.le_of_ble_eq_true rfl) rfl dX8_pairsGoing_1 ?_
  refine x_iconst (v := 0) C (by decide) dX8_pairsGoing_3 ?_
  refine x_istore C [(5, .int 0), (4, .int 0), (0, .ref 153), (1, .int v1), (2, .int v2), (3, .int v3)] (Nat.le_of_ble_eq_true rfl) rfl dX8_pairsGoing_4 ?_
  refine x_sub [(0, .ref 153), (1, .int v1), (2, .int v2), (3, .int v3), (4, .int 0), (5, .int 0)] [2, 3, 4, 5, 1, 0] rfl ?_
  exact G8_pairsGoing_L6_ok C hd hr  h
set_option maxHeartbeats 4000000 in
set_option maxRecDepth 100000 in
theorem G8_tellGoing_met {l : Launch} {φ : Nat → Nat} {tc : Nat → ClassId} {D : va_G} {s0 : State} (hG : GX φ tc D s0) {dR : Nat} (hd : G8_tellGoing_dep ≤ dR) {v1 : Int32} {μ : MM} {Q : Int32 → MM → Prop}  (h : G8_tellGoing v1 μ Q) : MX l φ tc D s0 dR yX8_tellGoing cX8_tellGoing 3 (some .int) [.ref 153, .int v1] μ (QI Q) := by
  refine MX.of (own := RX8) hG plX8 rfl (Nat.le_of_ble_eq_true rfl) (fun p e s m args below meth c C hr => ?_)
  refine x_sub [(0, .ref 153), (1, .int v1)] [0, 1] rfl ?_
  unfold G8_tellGoing at h
  refine x_iload_n C rfl 1 rfl dX8_tellGoing_0 ?_
  refine x_iconst (v := 0) C (by decide) dX8_tellGoing_1 ?_
  refine x_iconst (v := 3) C (by decide) dX8_tellGoing_2 ?_
  refine x_callSN (dC := G11_within_dep) (as := [.int v1, .int 0, .int 3]) (st := []) C rX kX (Nat.le_trans (Nat.le_of_ble_eq_true rfl) hd) (Nat.le_of_ble_eq_true rfl) tw_2_196 tw_4_94 tc_2_197 tw_1_1 hyX11 hnX11_within rfl (Nat.le_of_ble_eq_true rfl) dX8_tellGoing_3 (G11_within_met C.2.2.2.2.2.2.2.1 (Nat.le_refl _)  h) (fun r0 μ14 hq => ?_)
  obtain ⟨r15, rfl, h⟩ := hq
  refine x_st [.int r15] rfl ?_
  refine x_if_ne (tgt := 11) C dX8_tellGoing_6 (by decide) (fun c16 => ?_) (fun c16 => ?_)
  · have h := h.1 c16
    refine x_aload_n C rfl 0 rfl dX8_tellGoing_11 ?_
    refine x_callV (dC := G8_gatherNames_dep) (as := []) (st := []) C rX kX (Nat.le_trans (Nat.le_of_ble_eq_true rfl) hd) (Nat.le_of_ble_eq_true rfl) ob153.1 ob153.2 (Nat.le_of_ble_eq_true rfl) rfl ts_4_6 tw_4_129 tw_4_127 tc_4_130 tw_1_6 hyX8 hnX8_gatherNames rfl (Nat.le_of_ble_eq_true rfl) dX8_tellGoing_12 (G8_gatherNames_met C.2.2.2.2.2.2.2.1 (Nat.le_refl _)  h) (fun r0 μ17 hq => ?_)
    obtain ⟨r18, rfl, h⟩ := hq
    refine x_st [.int r18] rfl ?_
    refine x_istore_n C [(2, .int r18), (0, .ref 153), (1, .int v1)] rfl (Nat.le_of_ble_eq_true rfl) rfl dX8_tellGoing_15 ?_
    refine x_aload_n C rfl 1 rfl dX8_tellGoing_16 ?_
    refine x_getR (r := 151) C (j := 1) ob153.1 ob153.2 (Nat.le_of_ble_eq_true rfl) (Nat.le_of_ble_eq_true rfl) (fun _ _ _ => rfl) r_153_1 tw_2_4 dX8_tellGoing_17 ?_
    refine x_callVN (dC := G7_clear_dep) (as := []) (st := []) C rX kX (Nat.le_trans (Nat.le_of_ble_eq_true rfl) hd) (Nat.le_of_ble_eq_true rfl) ob151.1 ob151.2 (Nat.le_of_ble_eq_true rfl) rfl ts_3_8 tw_4_48 tw_4_46 tc_4_49 tw_1_5 hyX7 hnX7_clear rfl (Nat.le_of_ble_eq_true rfl) dX8_tellGoing_20 (G7_clear_met C.2.2.2.2.2.2.2.1 (Nat.le_refl _)  h) (fun r0 μ19 hq => ?_)
    obtain ⟨rfl, h⟩ := hq
    refine x_st [] rfl ?_
    refine x_aload_n C rfl 1 rfl dX8_tellGoing_23 ?_
    refine x_getR (r := 151) C (j := 1) ob153.1 ob153.2 (Nat.le_of_ble_eq_true rfl) (Nat.le_of_ble_eq_true rfl) (fun _ _ _ => rfl) r_153_1 tw_2_4 dX8_tellGoing_24 ?_
    refine x_aload_n C rfl 1 rfl dX8_tellGoing_27 ?_
    refine x_iload_n C rfl 2 rfl dX8_tellGoing_28 ?_
    refine x_iconst (v := (-1)) C (by decide) dX8_tellGoing_29 ?_
    refine x_iload_n C rfl 0 rfl dX8_tellGoing_30 ?_
    refine x_callV (dC := G8_pairsGoing_dep) (as := [.int v1, .int (-1), .int r18]) (st := [.ref 151]) C rX kX (Nat.le_trans (Nat.le_of_ble_eq_true rfl) hd) (Nat.le_of_ble_eq_true rfl) ob153.1 ob153.2 (Nat.le_of_ble_eq_true rfl) rfl ts_4_11 tw_4_167 tw_4_165 tc_4_168 tw_1_6 hyX8 hnX8_pairsGoing rfl (Nat.le_of_ble_eq_true rfl) dX8_tellGoing_31 (G8_pairsGoing_met C.2.2.2.2.2.2.2.1 (Nat.le_refl _)  h) (fun r0 μ20 hq => ?_)
    obtain ⟨r21, rfl, h⟩ := hq
    refine x_st [.int r21, .ref 151] rfl ?_
    refine x_i2l C dX8_tellGoing_34 ?_
    refine x_callVN (dC := G7_add_dep) (as := [.long (r21.toInt64)]) (st := []) C rX kX (Nat.le_trans (Nat.le_of_ble_eq_true rfl) hd) (Nat.le_of_ble_eq_true rfl) ob151.1 ob151.2 (Nat.le_of_ble_eq_true rfl) rfl ts_3_11 tw_4_63 tw_4_85 tc_4_64 tw_1_5 hyX7 hnX7_add rfl (Nat.le_of_ble_eq_true rfl) dX8_tellGoing_35 (G7_add_met C.2.2.2.2.2.2.2.1 (Nat.le_refl _)  h) (fun r0 μ22 hq => ?_)
    obtain ⟨rfl, h⟩ := hq
    refine x_st [] rfl ?_
    refine x_aload_n C rfl 1 rfl dX8_tellGoing_38 ?_
    refine x_getR (r := 151) C (j := 1) ob153.1 ob153.2 (Nat.le_of_ble_eq_true rfl) (Nat.le_of_ble_eq_true rfl) (fun _ _ _ => rfl) r_153_1 tw_2_4 dX8_tellGoing_39 ?_
    refine x_aload_n C rfl 1 rfl dX8_tellGoing_42 ?_
    refine x_iload_n C rfl 2 rfl dX8_tellGoing_43 ?_
    refine x_iconst (v := 0) C (by decide) dX8_tellGoing_44 ?_
    refine x_iload_n C rfl 0 rfl dX8_tellGoing_45 ?_
    refine x_callV (dC := G8_pairsGoing_dep) (as := [.int v1, .int 0, .int r18]) (st := [.ref 151]) C rX kX (Nat.le_trans (Nat.le_of_ble_eq_true rfl) hd) (Nat.le_of_ble_eq_true rfl) ob153.1 ob153.2 (Nat.le_of_ble_eq_true rfl) rfl ts_4_11 tw_4_167 tw_4_165 tc_4_168 tw_1_6 hyX8 hnX8_pairsGoing rfl (Nat.le_of_ble_eq_true rfl) dX8_tellGoing_46 (G8_pairsGoing_met C.2.2.2.2.2.2.2.1 (Nat.le_refl _)  h) (fun r0 μ23 hq => ?_)
    obtain ⟨r24, rfl, h⟩ := hq
    refine x_st [.int r24, .ref 151] rfl ?_
    refine x_i2l C dX8_tellGoing_49 ?_
    refine x_callVN (dC := G7_add_dep) (as := [.long (r24.toInt64)]) (st := []) C rX kX (Nat.le_trans (Nat.le_of_ble_eq_true rfl) hd) (Nat.le_of_ble_eq_true rfl) ob151.1 ob151.2 (Nat.le_of_ble_eq_true rfl) rfl ts_3_11 tw_4_63 tw_4_85 tc_4_64 tw_1_5 hyX7 hnX7_add rfl (Nat.le_of_ble_eq_true rfl) dX8_tellGoing_50 (G7_add_met C.2.2.2.2.2.2.2.1 (Nat.le_refl _)  h) (fun r0 μ25 hq => ?_)
    obtain ⟨rfl, h⟩ := hq
    refine x_st [] rfl ?_
    refine x_aload_n C rfl 1 rfl dX8_tellGoing_53 ?_
    refine x_iload_n C rfl 2 rfl dX8_tellGoing_54 ?_
    refine x_iconst (v := 1) C (by decide) dX8_tellGoing_55 ?_
    refine x_iload_n C rfl 0 rfl dX8_tellGoing_56 ?_
    refine x_callV (dC := G8_pairsGoing_dep) (as := [.int v1, .int 1, .int r18]) (st := []) C rX kX (Nat.le_trans (Nat.le_of_ble_eq_true rfl) hd) (Nat.le_of_ble_eq_true rfl) ob153.1 ob153.2 (Nat.le_of_ble_eq_true rfl) rfl ts_4_11 tw_4_167 tw_4_165 tc_4_168 tw_1_6 hyX8 hnX8_pairsGoing rfl (Nat.le_of_ble_eq_true rfl) dX8_tellGoing_57 (G8_pairsGoing_met C.2.2.2.2.2.2.2.1 (Nat.le_refl _)  h) (fun r0 μ26 hq => ?_)
    obtain ⟨r27, rfl, h⟩ := hq
    refine x_st [.int r27] rfl ?_
    exact x_iret C hr dX8_tellGoing_60 ⟨_, rfl, h⟩
  · have h := h.2 c16
    refine x_iconst (v := (-1)) C (by decide) dX8_tellGoing_9 ?_
    exact x_iret C hr dX8_tellGoing_10 ⟨_, rfl, h⟩
set_option maxHeartbeats 4000000 in
set_option maxRecDepth 100000 in
theorem G11_goes_met {l : Launch} {φ : Nat → Nat} {tc : Nat → ClassId} {D : va_G} {s0 : State} (hG : GX φ tc D s0) {dR : Nat} (hd : G11_goes_dep ≤ dR) {v1 : Int32} {μ : MM} {Q : Int32 → MM → Prop}  (h : G11_goes v1 μ Q) : MX l φ tc D s0 dR yX11_goes cX11_goes 2 (some .int) [.ref 0, .int v1] μ (QI Q) := by
  refine MX.of (own := RX11) hG plX11 rfl (Nat.le_of_ble_eq_true rfl) (fun p e s m args below meth c C hr => ?_)
  refine x_sub [(0, .ref 0), (1, .int v1)] [0, 1] rfl ?_
  unfold G11_goes at h
  refine x_aload_n C rfl 0 rfl dX11_goes_0 ?_
  refine x_getR (r := 153) C (j := 2) ob0.1 ob0.2 (Nat.le_of_ble_eq_true rfl) (Nat.le_of_ble_eq_true rfl) (fun _ _ _ => rfl) r_0_2 tw_2_165 dX11_goes_1 ?_
  refine x_iload_n C rfl 1 rfl dX11_goes_4 ?_
  refine x_callVN (dC := G8_tellGoing_dep) (as := [.int v1]) (st := []) C rX kX (Nat.le_trans (Nat.le_of_ble_eq_true rfl) hd) (Nat.le_of_ble_eq_true rfl) ob153.1 ob153.2 (Nat.le_of_ble_eq_true rfl) rfl ts_4_10 tw_4_163 tw_4_161 tc_4_164 tw_1_6 hyX8 hnX8_tellGoing rfl (Nat.le_of_ble_eq_true rfl) dX11_goes_5 (G8_tellGoing_met C.2.2.2.2.2.2.2.1 (Nat.le_refl _)  h) (fun r0 μ3 hq => ?_)
  obtain ⟨r4, rfl, h⟩ := hq
  refine x_st [.int r4] rfl ?_
  exact x_iret C hr dX11_goes_8 ⟨_, rfl, h⟩
set_option maxHeartbeats 4000000 in
set_option maxRecDepth 100000 in
theorem G8_tellSaid_L12_b {p : Program} {e : Env} {s : State} {m : MethodId} {args : Array Value} {below : List Frame} {meth : Method} {c : Code} {l : Launch} {φ : Nat → Nat} {tc : Nat → ClassId} {D : va_G} {s0 : State} {dR : Nat} (C : CX p s m args meth c φ tc D (AX φ) s0 cX8_tellSaid RX8 6) (hd : G8_tellSaid_dep ≤ dR) (hr : meth.sig.returnType = (some .int))  {p1 : Int32} {Q : Int32 → MM → Prop} {K12 : Int32 × Int32 × Int32 × MM → Prop} {x : Int32 × Int32 × Int32 × MM}   (hK12 : ∀ (z2 : Int32) (z3 : Int32) (z4 : Int32) (zμ : MM), K12 (z2, z3, z4, zμ) → WX p l e (rmX dR) s m args below meth c φ tc D (AX φ) 6 0 0 (MQ below (QX φ tc D (QI Q)) args s 0 0 (AX φ)) 12 [(0, .ref 153), (1, .int p1), (2, .int z2), (3, .int z3), (4, .int z4)] [] zμ) (h : G8_tellSaid_L12 p1 Q K12 x) : WX p l e (rmX dR) s m args below meth c φ tc D (AX φ) 6 0 0 (MQ below (QX φ tc D (QI Q)) args s 0 0 (AX φ)) 12 [(0, .ref 153), (1, .int p1), (2, .int x.1), (3, .int x.2.1), (4, .int x.2.2.1)] [] x.2.2.2 := by
  unfold G8_tellSaid_L12 at h
  refine x_iload C 4 rfl dX8_tellSaid_12 ?_
  refine x_iconst (v := 4) C (by decide) dX8_tellSaid_14 ?_
  refine x_icmp_ge (tgt := 61) C dX8_tellSaid_15 (by decide) (fun c12 => ?_) (fun c12 => ?_)
  · have h := h.1 c12
    refine x_aload_n C rfl 0 rfl dX8_tellSaid_61 ?_
    refine x_getR (r := 151) C (j := 1) ob153.1 ob153.2 (Nat.le_of_ble_eq_true rfl) (Nat.le_of_ble_eq_true rfl) (fun _ _ _ => rfl) r_153_1 tw_2_4 dX8_tellSaid_62 ?_
    refine x_callVN (dC := G7_clear_dep) (as := []) (st := []) C rX kX (Nat.le_trans (Nat.le_of_ble_eq_true rfl) hd) (Nat.le_of_ble_eq_true rfl) ob151.1 ob151.2 (Nat.le_of_ble_eq_true rfl) rfl ts_3_8 tw_4_48 tw_4_46 tc_4_49 tw_1_5 hyX7 hnX7_clear rfl (Nat.le_of_ble_eq_true rfl) dX8_tellSaid_65 (G7_clear_met C.2.2.2.2.2.2.2.1 (Nat.le_refl _)  h) (fun r0 μ13 hq => ?_)
    obtain ⟨rfl, h⟩ := hq
    refine x_st [] rfl ?_
    refine x_aload_n C rfl 0 rfl dX8_tellSaid_68 ?_
    refine x_getR (r := 151) C (j := 1) ob153.1 ob153.2 (Nat.le_of_ble_eq_true rfl) (Nat.le_of_ble_eq_true rfl) (fun _ _ _ => rfl) r_153_1 tw_2_4 dX8_tellSaid_69 ?_
    refine x_iload_n C rfl 3 rfl dX8_tellSaid_72 ?_
    refine x_i2l C dX8_tellSaid_73 ?_
    refine x_callVN (dC := G7_add_dep) (as := [.long (x.2.1.toInt64)]) (st := []) C rX kX (Nat.le_trans (Nat.le_of_ble_eq_true rfl) hd) (Nat.le_of_ble_eq_true rfl) ob151.1 ob151.2 (Nat.le_of_ble_eq_true rfl) rfl ts_3_11 tw_4_63 tw_4_85 tc_4_64 tw_1_5 hyX7 hnX7_add rfl (Nat.le_of_ble_eq_true rfl) dX8_tellSaid_74 (G7_add_met C.2.2.2.2.2.2.2.1 (Nat.le_refl _)  h) (fun r0 μ14 hq => ?_)
    obtain ⟨rfl, h⟩ := hq
    refine x_st [] rfl ?_
    refine x_iload_n C rfl 2 rfl dX8_tellSaid_77 ?_
    exact x_iret C hr dX8_tellSaid_78 ⟨_, rfl, h⟩
  · have h := h.2 c12
    refine x_aload_n C rfl 0 rfl dX8_tellSaid_18 ?_
    refine x_iload C 4 rfl dX8_tellSaid_19 ?_
    refine x_iconst (v := 1) C (by decide) dX8_tellSaid_21 ?_
    refine x_iload_n C rfl 1 rfl dX8_tellSaid_22 ?_
    refine x_callV (dC := G8_pairsGoing_dep) (as := [.int x.2.2.1, .int 1, .int p1]) (st := []) C rX kX (Nat.le_trans (Nat.le_of_ble_eq_true rfl) hd) (Nat.le_of_ble_eq_true rfl) ob153.1 ob153.2 (Nat.le_of_ble_eq_true rfl) rfl ts_4_11 tw_4_167 tw_4_165 tc_4_168 tw_1_6 hyX8 hnX8_pairsGoing rfl (Nat.le_of_ble_eq_true rfl) dX8_tellSaid_23 (G8_pairsGoing_met C.2.2.2.2.2.2.2.1 (Nat.le_refl _)  h) (fun r0 μ15 hq => ?_)
    obtain ⟨r16, rfl, h⟩ := hq
    refine x_st [.int r16] rfl ?_
    refine x_aload_n C rfl 0 rfl dX8_tellSaid_26 ?_
    refine x_iload C 4 rfl dX8_tellSaid_27 ?_
    refine x_iconst (v := (-1)) C (by decide) dX8_tellSaid_29 ?_
    refine x_iload_n C rfl 1 rfl dX8_tellSaid_30 ?_
    refine x_callV (dC := G8_pairsGoing_dep) (as := [.int x.2.2.1, .int (-1), .int p1]) (st := [.int r16]) C rX kX (Nat.le_trans (Nat.le_of_ble_eq_true rfl) hd) (Nat.le_of_ble_eq_true rfl) ob153.1 ob153.2 (Nat.le_of_ble_eq_true rfl) rfl ts_4_11 tw_4_167 tw_4_165 tc_4_168 tw_1_6 hyX8 hnX8_pairsGoing rfl (Nat.le_of_ble_eq_true rfl) dX8_tellSaid_31 (G8_pairsGoing_met C.2.2.2.2.2.2.2.1 (Nat.le_refl _)  h) (fun r0 μ17 hq => ?_)
    obtain ⟨r18, rfl, h⟩ := hq
    refine x_st [.int r18, .int r16] rfl ?_
    refine x_isub C dX8_tellSaid_34 ?_
    refine x_topi (fun y19 e_y19 => ?_)
    have h := h y19 e_y19
    refine x_istore C [(5, .int y19), (0, .ref 153), (1, .int p1), (2, .int x.1), (3, .int x.2.1), (4, .int x.2.2.1)] (Nat.le_of_ble_eq_true rfl) rfl dX8_tellSaid_35 ?_
    refine x_iload C 0 rfl dX8_tellSaid_37 ?_
    refine x_mabs C rX kX (Nat.le_trans (Nat.le_of_ble_eq_true rfl) hd) tw_4_188 tw_4_189 tw_1_20 (Nat.le_of_ble_eq_true rfl) dX8_tellSaid_39 ?_
    refine x_iload_n C rfl 4 rfl dX8_tellSaid_42 ?_
    refine x_mabs C rX kX (Nat.le_trans (Nat.le_of_ble_eq_true rfl) hd) tw_4_188 tw_4_189 tw_1_20 (Nat.le_of_ble_eq_true rfl) dX8_tellSaid_43 ?_
    refine x_icmp_le (tgt := 55) C dX8_tellSaid_46 (by decide) (fun c20 => ?_) (fun c20 => ?_)
    · have h := h.1 c20
      refine x_iinc (v := (x.2.2.1 + 1)) C [(4, .int (x.2.2.1 + 1)), (5, .int y19), (0, .ref 153), (1, .int p1), (2, .int x.1), (3, .int x.2.1)] 5 rfl (congrArg (fun z => x.2.2.1 + z) (by decide : Int32.ofInt (1) = 1)) (Nat.le_of_ble_eq_true rfl) rfl dX8_tellSaid_55 ?_
      refine x_goto (tgt := 12) C dX8_tellSaid_58 (by decide) ?_
      refine x_sub [(0, .ref 153), (1, .int p1), (2, .int x.1), (3, .int x.2.1), (4, .int (x.2.2.1 + 1))] [2, 3, 4, 5, 0] rfl ?_
      exact hK12 _ _ _ _ h
    · have h := h.2 c20
      refine x_iload C 5 rfl dX8_tellSaid_49 ?_
      refine x_istore_n C [(2, .int x.2.2.1), (5, .int y19), (0, .ref 153), (1, .int p1), (3, .int x.2.1), (4, .int x.2.2.1)] rfl (Nat.le_of_ble_eq_true rfl) rfl dX8_tellSaid_51 ?_
      refine x_iload C 1 rfl dX8_tellSaid_52 ?_
      refine x_istore_n C [(3, .int y19), (2, .int x.2.2.1), (5, .int y19), (0, .ref 153), (1, .int p1), (4, .int x.2.2.1)] rfl (Nat.le_of_ble_eq_true rfl) rfl dX8_tellSaid_54 ?_
      refine x_iinc (v := (x.2.2.1 + 1)) C [(4, .int (x.2.2.1 + 1)), (3, .int y19), (2, .int x.2.2.1), (5, .int y19), (0, .ref 153), (1, .int p1)] 5 rfl (congrArg (fun z => x.2.2.1 + z) (by decide : Int32.ofInt (1) = 1)) (Nat.le_of_ble_eq_true rfl) rfl dX8_tellSaid_55 ?_
      refine x_goto (tgt := 12) C dX8_tellSaid_58 (by decide) ?_
      refine x_sub [(0, .ref 153), (1, .int p1), (2, .int x.2.2.1), (3, .int y19), (4, .int (x.2.2.1 + 1))] [4, 5, 2, 1, 0] rfl ?_
      exact hK12 _ _ _ _ h
theorem G8_tellSaid_L12_ok {p : Program} {e : Env} {s : State} {m : MethodId} {args : Array Value} {below : List Frame} {meth : Method} {c : Code} {l : Launch} {φ : Nat → Nat} {tc : Nat → ClassId} {D : va_G} {s0 : State} {dR : Nat} (C : CX p s m args meth c φ tc D (AX φ) s0 cX8_tellSaid RX8 6) (hd : G8_tellSaid_dep ≤ dR) (hr : meth.sig.returnType = (some .int))  {p1 : Int32} {Q : Int32 → MM → Prop}  {x : Int32 × Int32 × Int32 × MM}    (h : Lp (G8_tellSaid_L12 p1 Q) x) : WX p l e (rmX dR) s m args below meth c φ tc D (AX φ) 6 0 0 (MQ below (QX φ tc D (QI Q)) args s 0 0 (AX φ)) 12 [(0, .ref 153), (1, .int p1), (2, .int x.1), (3, .int x.2.1), (4, .int x.2.2.1)] [] x.2.2.2 := by
  obtain ⟨n, h⟩ := h
  induction n generalizing x with
  | zero => exact h.elim
  | succ n ih => exact G8_tellSaid_L12_b C hd hr   (fun z2 z3 z4 zμ hz => by have q := ih hz; exact q) h
set_option maxHeartbeats 4000000 in
set_option maxRecDepth 100000 in
theorem G8_tellSaid_met {l : Launch} {φ : Nat → Nat} {tc : Nat → ClassId} {D : va_G} {s0 : State} (hG : GX φ tc D s0) {dR : Nat} (hd : G8_tellSaid_dep ≤ dR)  {μ : MM} {Q : Int32 → MM → Prop}  (h : G8_tellSaid  μ Q) : MX l φ tc D s0 dR yX8_tellSaid cX8_tellSaid 6 (some .int) [.ref 153] μ (QI Q) := by
  refine MX.of (own := RX8) hG plX8 rfl (Nat.le_of_ble_eq_true rfl) (fun p e s m args below meth c C hr => ?_)
  refine x_sub [(0, .ref 153)] [0] rfl ?_
  unfold G8_tellSaid at h
  refine x_aload_n C rfl 0 rfl dX8_tellSaid_0 ?_
  refine x_callV (dC := G8_gatherNames_dep) (as := []) (st := []) C rX kX (Nat.le_trans (Nat.le_of_ble_eq_true rfl) hd) (Nat.le_of_ble_eq_true rfl) ob153.1 ob153.2 (Nat.le_of_ble_eq_true rfl) rfl ts_4_6 tw_4_129 tw_4_127 tc_4_130 tw_1_6 hyX8 hnX8_gatherNames rfl (Nat.le_of_ble_eq_true rfl) dX8_tellSaid_1 (G8_gatherNames_met C.2.2.2.2.2.2.2.1 (Nat.le_refl _)  h) (fun r0 μ10 hq => ?_)
  obtain ⟨r11, rfl, h⟩ := hq
  refine x_st [.int r11] rfl ?_
  refine x_istore_n C [(1, .int r11), (0, .ref 153)] rfl (Nat.le_of_ble_eq_true rfl) rfl dX8_tellSaid_4 ?_
  refine x_iconst (v := 0) C (by decide) dX8_tellSaid_5 ?_
  refine x_istore_n C [(2, .int 0), (1, .int r11), (0, .ref 153)] rfl (Nat.le_of_ble_eq_true rfl) rfl dX8_tellSaid_6 ?_
  refine x_iconst (v := 0) C (by decide) dX8_tellSaid_7 ?_
  refine x_istore_n C [(3, .int 0), (2, .int 0), (1, .int r11), (0, .ref 153)] rfl (Nat.le_of_ble_eq_true rfl) rfl dX8_tellSaid_8 ?_
  refine x_iconst (v := 0) C (by decide) dX8_tellSaid_9 ?_
  refine x_istore C [(4, .int 0), (3, .int 0), (2, .int 0), (1, .int r11), (0, .ref 153)] (Nat.le_of_ble_eq_true rfl) rfl dX8_tellSaid_10 ?_
  refine x_sub [(0, .ref 153), (1, .int r11), (2, .int 0), (3, .int 0), (4, .int 0)] [4, 3, 2, 1, 0] rfl ?_
  exact G8_tellSaid_L12_ok C hd hr  h
set_option maxHeartbeats 4000000 in
set_option maxRecDepth 100000 in
theorem G11_says_met {l : Launch} {φ : Nat → Nat} {tc : Nat → ClassId} {D : va_G} {s0 : State} (hG : GX φ tc D s0) {dR : Nat} (hd : G11_says_dep ≤ dR)  {μ : MM} {Q : Int32 → MM → Prop}  (h : G11_says  μ Q) : MX l φ tc D s0 dR yX11_says cX11_says 1 (some .int) [.ref 0] μ (QI Q) := by
  refine MX.of (own := RX11) hG plX11 rfl (Nat.le_of_ble_eq_true rfl) (fun p e s m args below meth c C hr => ?_)
  refine x_sub [(0, .ref 0)] [0] rfl ?_
  unfold G11_says at h
  refine x_aload_n C rfl 0 rfl dX11_says_0 ?_
  refine x_getR (r := 153) C (j := 2) ob0.1 ob0.2 (Nat.le_of_ble_eq_true rfl) (Nat.le_of_ble_eq_true rfl) (fun _ _ _ => rfl) r_0_2 tw_2_165 dX11_says_1 ?_
  refine x_callVN (dC := G8_tellSaid_dep) (as := []) (st := []) C rX kX (Nat.le_trans (Nat.le_of_ble_eq_true rfl) hd) (Nat.le_of_ble_eq_true rfl) ob153.1 ob153.2 (Nat.le_of_ble_eq_true rfl) rfl ts_4_14 tw_4_186 tw_4_184 tc_4_187 tw_1_6 hyX8 hnX8_tellSaid rfl (Nat.le_of_ble_eq_true rfl) dX11_says_4 (G8_tellSaid_met C.2.2.2.2.2.2.2.1 (Nat.le_refl _)  h) (fun r0 μ3 hq => ?_)
  obtain ⟨r4, rfl, h⟩ := hq
  refine x_st [.int r4] rfl ?_
  exact x_iret C hr dX11_says_7 ⟨_, rfl, h⟩
set_option maxHeartbeats 4000000 in
set_option maxRecDepth 100000 in
theorem G8_isChildPair_J69_ok {p : Program} {e : Env} {s : State} {m : MethodId} {args : Array Value} {below : List Frame} {meth : Method} {c : Code} {l : Launch} {φ : Nat → Nat} {tc : Nat → ClassId} {D : va_G} {s0 : State} {dR : Nat} (C : CX p s m args meth c φ tc D (AX φ) s0 cX8_isChildPair RX8 4) (hd : G8_isChildPair_dep ≤ dR) (hr : meth.sig.returnType = (some .boolean))    {Q : Int32 → MM → Prop}  {μ : MM}    (h : G8_isChildPair_J69 μ Q) : WX p l e (rmX dR) s m args below meth c φ tc D (AX φ) 4 0 0 (MQ below (QX φ tc D (QI Q)) args s 0 0 (AX φ)) 69 [] [] μ := by
  unfold G8_isChildPair_J69 at h
  refine x_iconst (v := 0) C (by decide) dX8_isChildPair_69 ?_
  exact x_zret C hr bo_0 dX8_isChildPair_70 ⟨_, rfl, h⟩
set_option maxHeartbeats 4000000 in
set_option maxRecDepth 100000 in
theorem G8_isChildPair_met {l : Launch} {φ : Nat → Nat} {tc : Nat → ClassId} {D : va_G} {s0 : State} (hG : GX φ tc D s0) {dR : Nat} (hd : G8_isChildPair_dep ≤ dR) {v1 : Int32} {v2 : Int32} {v3 : Int32} {μ : MM} {Q : Int32 → MM → Prop}  (h : G8_isChildPair v1 v2 v3 μ Q) : MX l φ tc D s0 dR yX8_isChildPair cX8_isChildPair 4 (some .boolean) [.ref 153, .int v1, .int v2, .int v3] μ (QI Q) := by
  refine MX.of (own := RX8) hG plX8 rfl (Nat.le_of_ble_eq_true rfl) (fun p e s m args below meth c C hr => ?_)
  refine x_sub [(0, .ref 153), (1, .int v1), (2, .int v2), (3, .int v3)] [0, 1, 2, 3] rfl ?_
  unfold G8_isChildPair at h
  refine x_aload_n C rfl 0 rfl dX8_isChildPair_0 ?_
  refine x_getR (r := 1) C (j := 0) ob153.1 ob153.2 (Nat.le_of_ble_eq_true rfl) (Nat.le_of_ble_eq_true rfl) (fun _ _ _ => rfl) r_153_0 tw_2_3 dX8_isChildPair_1 ?_
  refine x_getRN (r := 2) C (j := 0) ob1.1 ob1.2 (Nat.le_of_ble_eq_true rfl) (Nat.le_of_ble_eq_true rfl) (fun _ _ _ => rfl) r_1_0 tw_1_123 dX8_isChildPair_4 ?_
  refine x_iload_n C rfl 1 rfl dX8_isChildPair_7 ?_
  obtain ⟨c7, h⟩ := h
  refine x_iald C ob2.1 ob2.2 c7 rfl dX8_isChildPair_8 ?_
  refine x_aload_n C rfl 0 rfl dX8_isChildPair_9 ?_
  refine x_getR (r := 1) C (j := 0) ob153.1 ob153.2 (Nat.le_of_ble_eq_true rfl) (Nat.le_of_ble_eq_true rfl) (fun _ _ _ => rfl) r_153_0 tw_2_3 dX8_isChildPair_10 ?_
  refine x_getRN (r := 2) C (j := 0) ob1.1 ob1.2 (Nat.le_of_ble_eq_true rfl) (Nat.le_of_ble_eq_true rfl) (fun _ _ _ => rfl) r_1_0 tw_1_123 dX8_isChildPair_13 ?_
  refine x_iload_n C rfl 2 rfl dX8_isChildPair_16 ?_
  obtain ⟨c8, h⟩ := h
  refine x_iald C ob2.1 ob2.2 c8 rfl dX8_isChildPair_17 ?_
  refine x_icmp_ne (tgt := 69) C dX8_isChildPair_18 (by decide) (fun c9 => ?_) (fun c9 => ?_)
  · have h := h.1 c9
    refine x_sub [] [] rfl ?_
    exact G8_isChildPair_J69_ok C hd hr  h
  · have h := h.2 c9
    refine x_aload_n C rfl 0 rfl dX8_isChildPair_21 ?_
    refine x_getR (r := 1) C (j := 0) ob153.1 ob153.2 (Nat.le_of_ble_eq_true rfl) (Nat.le_of_ble_eq_true rfl) (fun _ _ _ => rfl) r_153_0 tw_2_3 dX8_isChildPair_22 ?_
    refine x_getRN (r := 3) C (j := 1) ob1.1 ob1.2 (Nat.le_of_ble_eq_true rfl) (Nat.le_of_ble_eq_true rfl) (fun _ _ _ => rfl) r_1_1 tw_1_125 dX8_isChildPair_25 ?_
    refine x_iload_n C rfl 1 rfl dX8_isChildPair_28 ?_
    obtain ⟨c10, h⟩ := h
    refine x_iald C ob3.1 ob3.2 c10 rfl dX8_isChildPair_29 ?_
    refine x_aload_n C rfl 0 rfl dX8_isChildPair_30 ?_
    refine x_getR (r := 1) C (j := 0) ob153.1 ob153.2 (Nat.le_of_ble_eq_true rfl) (Nat.le_of_ble_eq_true rfl) (fun _ _ _ => rfl) r_153_0 tw_2_3 dX8_isChildPair_31 ?_
    refine x_getRN (r := 3) C (j := 1) ob1.1 ob1.2 (Nat.le_of_ble_eq_true rfl) (Nat.le_of_ble_eq_true rfl) (fun _ _ _ => rfl) r_1_1 tw_1_125 dX8_isChildPair_34 ?_
    refine x_iload_n C rfl 2 rfl dX8_isChildPair_37 ?_
    obtain ⟨c11, h⟩ := h
    refine x_iald C ob3.1 ob3.2 c11 rfl dX8_isChildPair_38 ?_
    refine x_icmp_ne (tgt := 69) C dX8_isChildPair_39 (by decide) (fun c12 => ?_) (fun c12 => ?_)
    · have h := h.1 c12
      refine x_sub [] [] rfl ?_
      exact G8_isChildPair_J69_ok C hd hr  h
    · have h := h.2 c12
      refine x_aload_n C rfl 0 rfl dX8_isChildPair_42 ?_
      refine x_getR (r := 1) C (j := 0) ob153.1 ob153.2 (Nat.le_of_ble_eq_true rfl) (Nat.le_of_ble_eq_true rfl) (fun _ _ _ => rfl) r_153_0 tw_2_3 dX8_isChildPair_43 ?_
      refine x_getRN (r := 4) C (j := 2) ob1.1 ob1.2 (Nat.le_of_ble_eq_true rfl) (Nat.le_of_ble_eq_true rfl) (fun _ _ _ => rfl) r_1_2 tw_1_127 dX8_isChildPair_46 ?_
      refine x_iload_n C rfl 1 rfl dX8_isChildPair_49 ?_
      obtain ⟨c13, h⟩ := h
      refine x_iald C ob4.1 ob4.2 c13 rfl dX8_isChildPair_50 ?_
      refine x_aload_n C rfl 0 rfl dX8_isChildPair_51 ?_
      refine x_getR (r := 1) C (j := 0) ob153.1 ob153.2 (Nat.le_of_ble_eq_true rfl) (Nat.le_of_ble_eq_true rfl) (fun _ _ _ => rfl) r_153_0 tw_2_3 dX8_isChildPair_52 ?_
      refine x_getRN (r := 4) C (j := 2) ob1.1 ob1.2 (Nat.le_of_ble_eq_true rfl) (Nat.le_of_ble_eq_true rfl) (fun _ _ _ => rfl) r_1_2 tw_1_127 dX8_isChildPair_55 ?_
      refine x_iload_n C rfl 2 rfl dX8_isChildPair_58 ?_
      obtain ⟨c14, h⟩ := h
      refine x_iald C ob4.1 ob4.2 c14 rfl dX8_isChildPair_59 ?_
      refine x_isub C dX8_isChildPair_60 ?_
      refine x_iload_n C rfl 3 rfl dX8_isChildPair_61 ?_
      refine x_icmp_lt (tgt := 69) C dX8_isChildPair_62 (by decide) (fun c15 => ?_) (fun c15 => ?_)
      · have h := h.1 c15
        refine x_sub [] [] rfl ?_
        exact G8_isChildPair_J69_ok C hd hr  h
      · have h := h.2 c15
        refine x_iconst (v := 1) C (by decide) dX8_isChildPair_65 ?_
        refine x_goto (tgt := 70) C dX8_isChildPair_66 (by decide) ?_
        exact x_zret C hr bo_1 dX8_isChildPair_70 ⟨_, rfl, h⟩
set_option maxHeartbeats 4000000 in
set_option maxRecDepth 100000 in
theorem G8_tellChild_J115_ok {p : Program} {e : Env} {s : State} {m : MethodId} {args : Array Value} {below : List Frame} {meth : Method} {c : Code} {l : Launch} {φ : Nat → Nat} {tc : Nat → ClassId} {D : va_G} {s0 : State} {dR : Nat} (C : CX p s m args meth c φ tc D (AX φ) s0 cX8_tellChild RX8 9) (hd : G8_tellChild_dep ≤ dR) (hr : meth.sig.returnType = (some .int))   {p1 : Int32} {p2 : Int32} {p3 : Int32} {p4 : Int32} {p6 : Int32} {p7 : Int32} {q0 : Int32} {q1 : Int32} {Q : Int32 → MM → Prop} {K28 : Int32 × Int32 × Int32 × Int32 × MM → Prop} {K37 : Int32 × Int32 × Int32 × Int32 × MM → Prop} {μ : MM}   (hK28 : ∀ (z3 : Int32) (z4 : Int32) (z5 : Int32) (z6 : Int32) (zμ : MM), K28 (z3, z4, z5, z6, zμ) → WX p l e (rmX dR) s m args below meth c φ tc D (AX φ) 9 0 0 (MQ below (QX φ tc D (QI Q)) args s 0 0 (AX φ)) 28 [(0, .ref 153), (1, .int p1), (2, .int p2), (3, .int z3), (4, .int z4), (5, .int z5), (6, .int z6)] [] zμ) (hK37 : ∀ (z3 : Int32) (z4 : Int32) (z5 : Int32) (z7 : Int32) (zμ : MM), K37 (z3, z4, z5, z7, zμ) → WX p l e (rmX dR) s m args below meth c φ tc D (AX φ) 9 0 0 (MQ below (QX φ tc D (QI Q)) args s 0 0 (AX φ)) 37 [(0, .ref 153), (1, .int p1), (2, .int p2), (3, .int z3), (4, .int z4), (5, .int z5), (6, .int p6), (7, .int z7)] [] zμ) (h : G8_tellChild_J115 p1 p2 p3 p4 p6 p7 q0 q1 μ K28 K37 Q) : WX p l e (rmX dR) s m args below meth c φ tc D (AX φ) 9 0 0 (MQ below (QX φ tc D (QI Q)) args s 0 0 (AX φ)) 115 [(0, .ref 153), (1, .int p1), (2, .int p2), (3, .int p3), (4, .int p4), (6, .int p6), (7, .int p7)] [.int q0, .int q1] μ := by
  unfold G8_tellChild_J115 at h
  refine x_iadd C dX8_tellChild_115 ?_
  refine x_topi (fun y40 e_y40 => ?_)
  have h := h y40 e_y40
  refine x_istore C [(5, .int y40), (0, .ref 153), (1, .int p1), (2, .int p2), (3, .int p3), (4, .int p4), (6, .int p6), (7, .int p7)] (Nat.le_of_ble_eq_true rfl) rfl dX8_tellChild_116 ?_
  refine x_iinc (v := (p7 + 1)) C [(7, .int (p7 + 1)), (5, .int y40), (0, .ref 153), (1, .int p1), (2, .int p2), (3, .int p3), (4, .int p4), (6, .int p6)] 7 rfl (congrArg (fun z => p7 + z) (by decide : Int32.ofInt (1) = 1)) (Nat.le_of_ble_eq_true rfl) rfl dX8_tellChild_118 ?_
  refine x_goto (tgt := 37) C dX8_tellChild_121 (by decide) ?_
  refine x_sub [(0, .ref 153), (1, .int p1), (2, .int p2), (3, .int p3), (4, .int p4), (5, .int y40), (6, .int p6), (7, .int (p7 + 1))] [2, 3, 4, 5, 6, 1, 7, 0] rfl ?_
  exact hK37 _ _ _ _ _ h
set_option maxHeartbeats 4000000 in
set_option maxRecDepth 100000 in
theorem G8_tellChild_J100_ok {p : Program} {e : Env} {s : State} {m : MethodId} {args : Array Value} {below : List Frame} {meth : Method} {c : Code} {l : Launch} {φ : Nat → Nat} {tc : Nat → ClassId} {D : va_G} {s0 : State} {dR : Nat} (C : CX p s m args meth c φ tc D (AX φ) s0 cX8_tellChild RX8 9) (hd : G8_tellChild_dep ≤ dR) (hr : meth.sig.returnType = (some .int))   {p1 : Int32} {p2 : Int32} {p3 : Int32} {p5 : Int32} {p6 : Int32} {p7 : Int32} {p8 : Int32} {q0 : Int32} {q1 : Int32} {Q : Int32 → MM → Prop} {K28 : Int32 × Int32 × Int32 × Int32 × MM → Prop} {K37 : Int32 × Int32 × Int32 × Int32 × MM → Prop} {μ : MM}   (hK28 : ∀ (z3 : Int32) (z4 : Int32) (z5 : Int32) (z6 : Int32) (zμ : MM), K28 (z3, z4, z5, z6, zμ) → WX p l e (rmX dR) s m args below meth c φ tc D (AX φ) 9 0 0 (MQ below (QX φ tc D (QI Q)) args s 0 0 (AX φ)) 28 [(0, .ref 153), (1, .int p1), (2, .int p2), (3, .int z3), (4, .int z4), (5, .int z5), (6, .int z6)] [] zμ) (hK37 : ∀ (z3 : Int32) (z4 : Int32) (z5 : Int32) (z7 : Int32) (zμ : MM), K37 (z3, z4, z5, z7, zμ) → WX p l e (rmX dR) s m args below meth c φ tc D (AX φ) 9 0 0 (MQ below (QX φ tc D (QI Q)) args s 0 0 (AX φ)) 37 [(0, .ref 153), (1, .int p1), (2, .int p2), (3, .int z3), (4, .int z4), (5, .int z5), (6, .int p6), (7, .int z7)] [] zμ) (h : G8_tellChild_J100 p1 p2 p3 p5 p6 p7 p8 q0 q1 μ K28 K37 Q) : WX p l e (rmX dR) s m args below meth c φ tc D (AX φ) 9 0 0 (MQ below (QX φ tc D (QI Q)) args s 0 0 (AX φ)) 100 [(0, .ref 153), (1, .int p1), (2, .int p2), (3, .int p3), (5, .int p5), (6, .int p6), (7, .int p7), (8, .int p8)] [.int q0, .int q1] μ := by
  unfold G8_tellChild_J100 at h
  refine x_iadd C dX8_tellChild_100 ?_
  refine x_topi (fun y38 e_y38 => ?_)
  have h := h y38 e_y38
  refine x_istore C [(4, .int y38), (0, .ref 153), (1, .int p1), (2, .int p2), (3, .int p3), (5, .int p5), (6, .int p6), (7, .int p7), (8, .int p8)] (Nat.le_of_ble_eq_true rfl) rfl dX8_tellChild_101 ?_
  refine x_iload C 5 rfl dX8_tellChild_103 ?_
  refine x_iload C 8 rfl dX8_tellChild_105 ?_
  refine x_if_ge (tgt := 114) C dX8_tellChild_107 (by decide) (fun c39 => ?_) (fun c39 => ?_)
  · have h := h.1 c39
    refine x_iconst (v := 0) C (by decide) dX8_tellChild_114 ?_
    refine x_sub [(0, .ref 153), (1, .int p1), (2, .int p2), (3, .int p3), (4, .int y38), (6, .int p6), (7, .int p7)] [1, 2, 3, 4, 0, 6, 7] rfl ?_
    exact G8_tellChild_J115_ok C hd hr hK28 hK37 h
  · have h := h.2 c39
    refine x_iconst (v := 1) C (by decide) dX8_tellChild_110 ?_
    refine x_goto (tgt := 115) C dX8_tellChild_111 (by decide) ?_
    refine x_sub [(0, .ref 153), (1, .int p1), (2, .int p2), (3, .int p3), (4, .int y38), (6, .int p6), (7, .int p7)] [1, 2, 3, 4, 0, 6, 7] rfl ?_
    exact G8_tellChild_J115_ok C hd hr hK28 hK37 h
set_option maxHeartbeats 4000000 in
set_option maxRecDepth 100000 in
theorem G8_tellChild_L37_b {p : Program} {e : Env} {s : State} {m : MethodId} {args : Array Value} {below : List Frame} {meth : Method} {c : Code} {l : Launch} {φ : Nat → Nat} {tc : Nat → ClassId} {D : va_G} {s0 : State} {dR : Nat} (C : CX p s m args meth c φ tc D (AX φ) s0 cX8_tellChild RX8 9) (hd : G8_tellChild_dep ≤ dR) (hr : meth.sig.returnType = (some .int))  {p1 : Int32} {p2 : Int32} {p6 : Int32} {Q : Int32 → MM → Prop} {K28 : Int32 × Int32 × Int32 × Int32 × MM → Prop} {K37 : Int32 × Int32 × Int32 × Int32 × MM → Prop} {x : Int32 × Int32 × Int32 × Int32 × MM}   (hK28 : ∀ (z3 : Int32) (z4 : Int32) (z5 : Int32) (z6 : Int32) (zμ : MM), K28 (z3, z4, z5, z6, zμ) → WX p l e (rmX dR) s m args below meth c φ tc D (AX φ) 9 0 0 (MQ below (QX φ tc D (QI Q)) args s 0 0 (AX φ)) 28 [(0, .ref 153), (1, .int p1), (2, .int p2), (3, .int z3), (4, .int z4), (5, .int z5), (6, .int z6)] [] zμ) (hK37 : ∀ (z3 : Int32) (z4 : Int32) (z5 : Int32) (z7 : Int32) (zμ : MM), K37 (z3, z4, z5, z7, zμ) → WX p l e (rmX dR) s m args below meth c φ tc D (AX φ) 9 0 0 (MQ below (QX φ tc D (QI Q)) args s 0 0 (AX φ)) 37 [(0, .ref 153), (1, .int p1), (2, .int p2), (3, .int z3), (4, .int z4), (5, .int z5), (6, .int p6), (7, .int z7)] [] zμ) (h : G8_tellChild_L37 p1 p2 p6 K28 Q K37 x) : WX p l e (rmX dR) s m args below meth c φ tc D (AX φ) 9 0 0 (MQ below (QX φ tc D (QI Q)) args s 0 0 (AX φ)) 37 [(0, .ref 153), (1, .int p1), (2, .int p2), (3, .int x.1), (4, .int x.2.1), (5, .int x.2.2.1), (6, .int p6), (7, .int x.2.2.2.1)] [] x.2.2.2.2 := by
  unfold G8_tellChild_L37 at h
  refine x_iload C 7 rfl dX8_tellChild_37 ?_
  refine x_iload_n C rfl 2 rfl dX8_tellChild_39 ?_
  refine x_icmp_ge (tgt := 124) C dX8_tellChild_40 (by decide) (fun c27 => ?_) (fun c27 => ?_)
  · have h := h.1 c27
    refine x_iinc (v := (p6 + 1)) C [(6, .int (p6 + 1)), (0, .ref 153), (1, .int p1), (2, .int p2), (3, .int x.1), (4, .int x.2.1), (5, .int x.2.2.1), (7, .int x.2.2.2.1)] 6 rfl (congrArg (fun z => p6 + z) (by decide : Int32.ofInt (1) = 1)) (Nat.le_of_ble_eq_true rfl) rfl dX8_tellChild_124 ?_
    refine x_goto (tgt := 28) C dX8_tellChild_127 (by decide) ?_
    refine x_sub [(0, .ref 153), (1, .int p1), (2, .int p2), (3, .int x.1), (4, .int x.2.1), (5, .int x.2.2.1), (6, .int (p6 + 1))] [1, 2, 3, 4, 5, 6, 0] rfl ?_
    exact hK28 _ _ _ _ _ h
  · have h := h.2 c27
    refine x_aload_n C rfl 0 rfl dX8_tellChild_43 ?_
    refine x_aload_n C rfl 0 rfl dX8_tellChild_44 ?_
    refine x_getR (r := 166) C (j := 8) ob153.1 ob153.2 (Nat.le_of_ble_eq_true rfl) (Nat.le_of_ble_eq_true rfl) (fun _ _ _ => rfl) r_153_8 tw_2_11 dX8_tellChild_45 ?_
    refine x_iload C 6 rfl dX8_tellChild_48 ?_
    obtain ⟨c28, h⟩ := h
    refine x_iald C ob166.1 ob166.2 c28 rfl dX8_tellChild_50 ?_
    refine x_aload_n C rfl 0 rfl dX8_tellChild_51 ?_
    refine x_getR (r := 166) C (j := 8) ob153.1 ob153.2 (Nat.le_of_ble_eq_true rfl) (Nat.le_of_ble_eq_true rfl) (fun _ _ _ => rfl) r_153_8 tw_2_11 dX8_tellChild_52 ?_
    refine x_iload C 7 rfl dX8_tellChild_55 ?_
    obtain ⟨c29, h⟩ := h
    refine x_iald C ob166.1 ob166.2 c29 rfl dX8_tellChild_57 ?_
    refine x_iload_n C rfl 1 rfl dX8_tellChild_58 ?_
    refine x_callV (dC := G8_isChildPair_dep) (as := [.int (gI x.2.2.2.2 166 p6.toNatClampNeg), .int (gI x.2.2.2.2 166 x.2.2.2.1.toNatClampNeg), .int p1]) (st := []) C rX kX (Nat.le_trans (Nat.le_of_ble_eq_true rfl) hd) (Nat.le_of_ble_eq_true rfl) ob153.1 ob153.2 (Nat.le_of_ble_eq_true rfl) rfl ts_5_0 tw_4_201 tw_4_199 tc_4_202 tw_1_6 hyX8 hnX8_isChildPair rfl (Nat.le_of_ble_eq_true rfl) dX8_tellChild_59 (G8_isChildPair_met C.2.2.2.2.2.2.2.1 (Nat.le_refl _)  h) (fun r0 μ30 hq => ?_)
    obtain ⟨r31, rfl, h⟩ := hq
    refine x_st [.int r31] rfl ?_
    refine x_if_eq (tgt := 118) C dX8_tellChild_62 (by decide) (fun c32 => ?_) (fun c32 => ?_)
    · have h := h.1 c32
      refine x_iinc (v := (x.2.2.2.1 + 1)) C [(7, .int (x.2.2.2.1 + 1)), (0, .ref 153), (1, .int p1), (2, .int p2), (3, .int x.1), (4, .int x.2.1), (5, .int x.2.2.1), (6, .int p6)] 7 rfl (congrArg (fun z => x.2.2.2.1 + z) (by decide : Int32.ofInt (1) = 1)) (Nat.le_of_ble_eq_true rfl) rfl dX8_tellChild_118 ?_
      refine x_goto (tgt := 37) C dX8_tellChild_121 (by decide) ?_
      refine x_sub [(0, .ref 153), (1, .int p1), (2, .int p2), (3, .int x.1), (4, .int x.2.1), (5, .int x.2.2.1), (6, .int p6), (7, .int (x.2.2.2.1 + 1))] [1, 2, 3, 4, 5, 6, 7, 0] rfl ?_
      exact hK37 _ _ _ _ _ h
    · have h := h.2 c32
      refine x_aload_n C rfl 0 rfl dX8_tellChild_65 ?_
      refine x_aload_n C rfl 0 rfl dX8_tellChild_66 ?_
      refine x_getR (r := 166) C (j := 8) ob153.1 ob153.2 (Nat.le_of_ble_eq_true rfl) (Nat.le_of_ble_eq_true rfl) (fun _ _ _ => rfl) r_153_8 tw_2_11 dX8_tellChild_67 ?_
      refine x_iload C 6 rfl dX8_tellChild_70 ?_
      obtain ⟨c33, h⟩ := h
      refine x_iald C ob166.1 ob166.2 c33 rfl dX8_tellChild_72 ?_
      refine x_aload_n C rfl 0 rfl dX8_tellChild_73 ?_
      refine x_getR (r := 166) C (j := 8) ob153.1 ob153.2 (Nat.le_of_ble_eq_true rfl) (Nat.le_of_ble_eq_true rfl) (fun _ _ _ => rfl) r_153_8 tw_2_11 dX8_tellChild_74 ?_
      refine x_iload C 7 rfl dX8_tellChild_77 ?_
      obtain ⟨c34, h⟩ := h
      refine x_iald C ob166.1 ob166.2 c34 rfl dX8_tellChild_79 ?_
      refine x_callV (dC := G8_compareShares_dep) (as := [.int (gI μ30 166 p6.toNatClampNeg), .int (gI μ30 166 x.2.2.2.1.toNatClampNeg)]) (st := []) C rX kX (Nat.le_trans (Nat.le_of_ble_eq_true rfl) hd) (Nat.le_of_ble_eq_true rfl) ob153.1 ob153.2 (Nat.le_of_ble_eq_true rfl) rfl ts_4_13 tw_4_178 tw_4_176 tc_4_179 tw_1_6 hyX8 hnX8_compareShares rfl (Nat.le_of_ble_eq_true rfl) dX8_tellChild_80 (G8_compareShares_met C.2.2.2.2.2.2.2.1 (Nat.le_refl _)  h) (fun r0 μ35 hq => ?_)
      obtain ⟨r36, rfl, h⟩ := hq
      refine x_st [.int r36] rfl ?_
      refine x_istore C [(8, .int r36), (0, .ref 153), (1, .int p1), (2, .int p2), (3, .int x.1), (4, .int x.2.1), (5, .int x.2.2.1), (6, .int p6), (7, .int x.2.2.2.1)] (Nat.le_of_ble_eq_true rfl) rfl dX8_tellChild_83 ?_
      refine x_iinc (v := (x.1 + 1)) C [(3, .int (x.1 + 1)), (8, .int r36), (0, .ref 153), (1, .int p1), (2, .int p2), (4, .int x.2.1), (5, .int x.2.2.1), (6, .int p6), (7, .int x.2.2.2.1)] 4 rfl (congrArg (fun z => x.1 + z) (by decide : Int32.ofInt (1) = 1)) (Nat.le_of_ble_eq_true rfl) rfl dX8_tellChild_85 ?_
      refine x_iload C 5 rfl dX8_tellChild_88 ?_
      refine x_iload C 1 rfl dX8_tellChild_90 ?_
      refine x_if_le (tgt := 99) C dX8_tellChild_92 (by decide) (fun c37 => ?_) (fun c37 => ?_)
      · have h := h.1 c37
        refine x_iconst (v := 0) C (by decide) dX8_tellChild_99 ?_
        refine x_sub [(0, .ref 153), (1, .int p1), (2, .int p2), (3, .int (x.1 + 1)), (5, .int x.2.2.1), (6, .int p6), (7, .int x.2.2.2.1), (8, .int r36)] [2, 3, 4, 0, 6, 7, 8, 1] rfl ?_
        exact G8_tellChild_J100_ok C hd hr hK28 hK37 h
      · have h := h.2 c37
        refine x_iconst (v := 1) C (by decide) dX8_tellChild_95 ?_
        refine x_goto (tgt := 100) C dX8_tellChild_96 (by decide) ?_
        refine x_sub [(0, .ref 153), (1, .int p1), (2, .int p2), (3, .int (x.1 + 1)), (5, .int x.2.2.1), (6, .int p6), (7, .int x.2.2.2.1), (8, .int r36)] [2, 3, 4, 0, 6, 7, 8, 1] rfl ?_
        exact G8_tellChild_J100_ok C hd hr hK28 hK37 h
theorem G8_tellChild_L37_ok {p : Program} {e : Env} {s : State} {m : MethodId} {args : Array Value} {below : List Frame} {meth : Method} {c : Code} {l : Launch} {φ : Nat → Nat} {tc : Nat → ClassId} {D : va_G} {s0 : State} {dR : Nat} (C : CX p s m args meth c φ tc D (AX φ) s0 cX8_tellChild RX8 9) (hd : G8_tellChild_dep ≤ dR) (hr : meth.sig.returnType = (some .int))  {p1 : Int32} {p2 : Int32} {p6 : Int32} {Q : Int32 → MM → Prop} {K28 : Int32 × Int32 × Int32 × Int32 × MM → Prop} {x : Int32 × Int32 × Int32 × Int32 × MM}   (hK28 : ∀ (z3 : Int32) (z4 : Int32) (z5 : Int32) (z6 : Int32) (zμ : MM), K28 (z3, z4, z5, z6, zμ) → WX p l e (rmX dR) s m args below meth c φ tc D (AX φ) 9 0 0 (MQ below (QX φ tc D (QI Q)) args s 0 0 (AX φ)) 28 [(0, .ref 153), (1, .int p1), (2, .int p2), (3, .int z3), (4, .int z4), (5, .int z5), (6, .int z6)] [] zμ) (h : Lp (G8_tellChild_L37 p1 p2 p6 K28 Q) x) : WX p l e (rmX dR) s m args below meth c φ tc D (AX φ) 9 0 0 (MQ below (QX φ tc D (QI Q)) args s 0 0 (AX φ)) 37 [(0, .ref 153), (1, .int p1), (2, .int p2), (3, .int x.1), (4, .int x.2.1), (5, .int x.2.2.1), (6, .int p6), (7, .int x.2.2.2.1)] [] x.2.2.2.2 := by
  obtain ⟨n, h⟩ := h
  induction n generalizing x with
  | zero => exact h.elim
  | succ n ih => exact G8_tellChild_L37_b C hd hr  hK28 (fun z3 z4 z5 z7 zμ hz => by have q := ih hz; exact q) h
set_option maxHeartbeats 4000000 in
set_option maxRecDepth 100000 in
theorem G8_tellChild_L28_b {p : Program} {e : Env} {s : State} {m : MethodId} {args : Array Value} {below : List Frame} {meth : Method} {c : Code} {l : Launch} {φ : Nat → Nat} {tc : Nat → ClassId} {D : va_G} {s0 : State} {dR : Nat} (C : CX p s m args meth c φ tc D (AX φ) s0 cX8_tellChild RX8 9) (hd : G8_tellChild_dep ≤ dR) (hr : meth.sig.returnType = (some .int))  {p1 : Int32} {p2 : Int32} {Q : Int32 → MM → Prop} {K28 : Int32 × Int32 × Int32 × Int32 × MM → Prop} {x : Int32 × Int32 × Int32 × Int32 × MM}   (hK28 : ∀ (z3 : Int32) (z4 : Int32) (z5 : Int32) (z6 : Int32) (zμ : MM), K28 (z3, z4, z5, z6, zμ) → WX p l e (rmX dR) s m args below meth c φ tc D (AX φ) 9 0 0 (MQ below (QX φ tc D (QI Q)) args s 0 0 (AX φ)) 28 [(0, .ref 153), (1, .int p1), (2, .int p2), (3, .int z3), (4, .int z4), (5, .int z5), (6, .int z6)] [] zμ) (h : G8_tellChild_L28 p1 p2 Q K28 x) : WX p l e (rmX dR) s m args below meth c φ tc D (AX φ) 9 0 0 (MQ below (QX φ tc D (QI Q)) args s 0 0 (AX φ)) 28 [(0, .ref 153), (1, .int p1), (2, .int p2), (3, .int x.1), (4, .int x.2.1), (5, .int x.2.2.1), (6, .int x.2.2.2.1)] [] x.2.2.2.2 := by
  unfold G8_tellChild_L28 at h
  refine x_iload C 6 rfl dX8_tellChild_28 ?_
  refine x_iload_n C rfl 2 rfl dX8_tellChild_30 ?_
  refine x_icmp_ge (tgt := 130) C dX8_tellChild_31 (by decide) (fun c23 => ?_) (fun c23 => ?_)
  · have h := h.1 c23
    refine x_aload_n C rfl 0 rfl dX8_tellChild_130 ?_
    refine x_getR (r := 151) C (j := 1) ob153.1 ob153.2 (Nat.le_of_ble_eq_true rfl) (Nat.le_of_ble_eq_true rfl) (fun _ _ _ => rfl) r_153_1 tw_2_4 dX8_tellChild_131 ?_
    refine x_callVN (dC := G7_clear_dep) (as := []) (st := []) C rX kX (Nat.le_trans (Nat.le_of_ble_eq_true rfl) hd) (Nat.le_of_ble_eq_true rfl) ob151.1 ob151.2 (Nat.le_of_ble_eq_true rfl) rfl ts_3_8 tw_4_48 tw_4_46 tc_4_49 tw_1_5 hyX7 hnX7_clear rfl (Nat.le_of_ble_eq_true rfl) dX8_tellChild_134 (G7_clear_met C.2.2.2.2.2.2.2.1 (Nat.le_refl _)  h) (fun r0 μ24 hq => ?_)
    obtain ⟨rfl, h⟩ := hq
    refine x_st [] rfl ?_
    refine x_aload_n C rfl 0 rfl dX8_tellChild_137 ?_
    refine x_getR (r := 151) C (j := 1) ob153.1 ob153.2 (Nat.le_of_ble_eq_true rfl) (Nat.le_of_ble_eq_true rfl) (fun _ _ _ => rfl) r_153_1 tw_2_4 dX8_tellChild_138 ?_
    refine x_iload_n C rfl 3 rfl dX8_tellChild_141 ?_
    refine x_i2l C dX8_tellChild_142 ?_
    refine x_callVN (dC := G7_add_dep) (as := [.long (x.1.toInt64)]) (st := []) C rX kX (Nat.le_trans (Nat.le_of_ble_eq_true rfl) hd) (Nat.le_of_ble_eq_true rfl) ob151.1 ob151.2 (Nat.le_of_ble_eq_true rfl) rfl ts_3_11 tw_4_63 tw_4_85 tc_4_64 tw_1_5 hyX7 hnX7_add rfl (Nat.le_of_ble_eq_true rfl) dX8_tellChild_143 (G7_add_met C.2.2.2.2.2.2.2.1 (Nat.le_refl _)  h) (fun r0 μ25 hq => ?_)
    obtain ⟨rfl, h⟩ := hq
    refine x_st [] rfl ?_
    refine x_aload_n C rfl 0 rfl dX8_tellChild_146 ?_
    refine x_getR (r := 151) C (j := 1) ob153.1 ob153.2 (Nat.le_of_ble_eq_true rfl) (Nat.le_of_ble_eq_true rfl) (fun _ _ _ => rfl) r_153_1 tw_2_4 dX8_tellChild_147 ?_
    refine x_iload C 5 rfl dX8_tellChild_150 ?_
    refine x_i2l C dX8_tellChild_152 ?_
    refine x_callVN (dC := G7_add_dep) (as := [.long (x.2.2.1.toInt64)]) (st := []) C rX kX (Nat.le_trans (Nat.le_of_ble_eq_true rfl) hd) (Nat.le_of_ble_eq_true rfl) ob151.1 ob151.2 (Nat.le_of_ble_eq_true rfl) rfl ts_3_11 tw_4_63 tw_4_85 tc_4_64 tw_1_5 hyX7 hnX7_add rfl (Nat.le_of_ble_eq_true rfl) dX8_tellChild_153 (G7_add_met C.2.2.2.2.2.2.2.1 (Nat.le_refl _)  h) (fun r0 μ26 hq => ?_)
    obtain ⟨rfl, h⟩ := hq
    refine x_st [] rfl ?_
    refine x_iload C 4 rfl dX8_tellChild_156 ?_
    exact x_iret C hr dX8_tellChild_158 ⟨_, rfl, h⟩
  · have h := h.2 c23
    refine x_iconst (v := 0) C (by decide) dX8_tellChild_34 ?_
    refine x_istore C [(7, .int 0), (0, .ref 153), (1, .int p1), (2, .int p2), (3, .int x.1), (4, .int x.2.1), (5, .int x.2.2.1), (6, .int x.2.2.2.1)] (Nat.le_of_ble_eq_true rfl) rfl dX8_tellChild_35 ?_
    refine x_sub [(0, .ref 153), (1, .int p1), (2, .int p2), (3, .int x.1), (4, .int x.2.1), (5, .int x.2.2.1), (6, .int x.2.2.2.1), (7, .int 0)] [1, 2, 3, 4, 5, 6, 7, 0] rfl ?_
    exact G8_tellChild_L37_ok C hd hr hK28 h
theorem G8_tellChild_L28_ok {p : Program} {e : Env} {s : State} {m : MethodId} {args : Array Value} {below : List Frame} {meth : Method} {c : Code} {l : Launch} {φ : Nat → Nat} {tc : Nat → ClassId} {D : va_G} {s0 : State} {dR : Nat} (C : CX p s m args meth c φ tc D (AX φ) s0 cX8_tellChild RX8 9) (hd : G8_tellChild_dep ≤ dR) (hr : meth.sig.returnType = (some .int))  {p1 : Int32} {p2 : Int32} {Q : Int32 → MM → Prop}  {x : Int32 × Int32 × Int32 × Int32 × MM}    (h : Lp (G8_tellChild_L28 p1 p2 Q) x) : WX p l e (rmX dR) s m args below meth c φ tc D (AX φ) 9 0 0 (MQ below (QX φ tc D (QI Q)) args s 0 0 (AX φ)) 28 [(0, .ref 153), (1, .int p1), (2, .int p2), (3, .int x.1), (4, .int x.2.1), (5, .int x.2.2.1), (6, .int x.2.2.2.1)] [] x.2.2.2.2 := by
  obtain ⟨n, h⟩ := h
  induction n generalizing x with
  | zero => exact h.elim
  | succ n ih => exact G8_tellChild_L28_b C hd hr   (fun z3 z4 z5 z6 zμ hz => by have q := ih hz; exact q) h
set_option maxHeartbeats 4000000 in
set_option maxRecDepth 100000 in
theorem G8_tellChild_met {l : Launch} {φ : Nat → Nat} {tc : Nat → ClassId} {D : va_G} {s0 : State} (hG : GX φ tc D s0) {dR : Nat} (hd : G8_tellChild_dep ≤ dR) {v1 : Int32} {μ : MM} {Q : Int32 → MM → Prop}  (h : G8_tellChild v1 μ Q) : MX l φ tc D s0 dR yX8_tellChild cX8_tellChild 9 (some .int) [.ref 153, .int v1] μ (QI Q) := by
  refine MX.of (own := RX8) hG plX8 rfl (Nat.le_of_ble_eq_true rfl) (fun p e s m args below meth c C hr => ?_)
  refine x_sub [(0, .ref 153), (1, .int v1)] [0, 1] rfl ?_
  unfold G8_tellChild at h
  refine x_iload_n C rfl 1 rfl dX8_tellChild_0 ?_
  refine x_iconst (v := 1) C (by decide) dX8_tellChild_1 ?_
  refine x_bipush (v := 9) C (by decide) dX8_tellChild_2 ?_
  refine x_callSN (dC := G11_within_dep) (as := [.int v1, .int 1, .int 9]) (st := []) C rX kX (Nat.le_trans (Nat.le_of_ble_eq_true rfl) hd) (Nat.le_of_ble_eq_true rfl) tw_2_196 tw_4_94 tc_2_197 tw_1_1 hyX11 hnX11_within rfl (Nat.le_of_ble_eq_true rfl) dX8_tellChild_4 (G11_within_met C.2.2.2.2.2.2.2.1 (Nat.le_refl _)  h) (fun r0 μ18 hq => ?_)
  obtain ⟨r19, rfl, h⟩ := hq
  refine x_st [.int r19] rfl ?_
  refine x_if_ne (tgt := 12) C dX8_tellChild_7 (by decide) (fun c20 => ?_) (fun c20 => ?_)
  · have h := h.1 c20
    refine x_aload_n C rfl 0 rfl dX8_tellChild_12 ?_
    refine x_callV (dC := G8_gatherNames_dep) (as := []) (st := []) C rX kX (Nat.le_trans (Nat.le_of_ble_eq_true rfl) hd) (Nat.le_of_ble_eq_true rfl) ob153.1 ob153.2 (Nat.le_of_ble_eq_true rfl) rfl ts_4_6 tw_4_129 tw_4_127 tc_4_130 tw_1_6 hyX8 hnX8_gatherNames rfl (Nat.le_of_ble_eq_true rfl) dX8_tellChild_13 (G8_gatherNames_met C.2.2.2.2.2.2.2.1 (Nat.le_refl _)  h) (fun r0 μ21 hq => ?_)
    obtain ⟨r22, rfl, h⟩ := hq
    refine x_st [.int r22] rfl ?_
    refine x_istore_n C [(2, .int r22), (0, .ref 153), (1, .int v1)] rfl (Nat.le_of_ble_eq_true rfl) rfl dX8_tellChild_16 ?_
    refine x_iconst (v := 0) C (by decide) dX8_tellChild_17 ?_
    refine x_istore_n C [(3, .int 0), (2, .int r22), (0, .ref 153), (1, .int v1)] rfl (Nat.le_of_ble_eq_true rfl) rfl dX8_tellChild_18 ?_
    refine x_iconst (v := 0) C (by decide) dX8_tellChild_19 ?_
    refine x_istore C [(4, .int 0), (3, .int 0), (2, .int r22), (0, .ref 153), (1, .int v1)] (Nat.le_of_ble_eq_true rfl) rfl dX8_tellChild_20 ?_
    refine x_iconst (v := 0) C (by decide) dX8_tellChild_22 ?_
    refine x_istore C [(5, .int 0), (4, .int 0), (3, .int 0), (2, .int r22), (0, .ref 153), (1, .int v1)] (Nat.le_of_ble_eq_true rfl) rfl dX8_tellChild_23 ?_
    refine x_iconst (v := 0) C (by decide) dX8_tellChild_25 ?_
    refine x_istore C [(6, .int 0), (5, .int 0), (4, .int 0), (3, .int 0), (2, .int r22), (0, .ref 153), (1, .int v1)] (Nat.le_of_ble_eq_true rfl) rfl dX8_tellChild_26 ?_
    refine x_sub [(0, .ref 153), (1, .int v1), (2, .int r22), (3, .int 0), (4, .int 0), (5, .int 0), (6, .int 0)] [5, 6, 4, 3, 2, 1, 0] rfl ?_
    exact G8_tellChild_L28_ok C hd hr  h
  · have h := h.2 c20
    refine x_iconst (v := (-1)) C (by decide) dX8_tellChild_10 ?_
    exact x_iret C hr dX8_tellChild_11 ⟨_, rfl, h⟩
set_option maxHeartbeats 4000000 in
set_option maxRecDepth 100000 in
theorem G11_child_met {l : Launch} {φ : Nat → Nat} {tc : Nat → ClassId} {D : va_G} {s0 : State} (hG : GX φ tc D s0) {dR : Nat} (hd : G11_child_dep ≤ dR) {v1 : Int32} {μ : MM} {Q : Int32 → MM → Prop}  (h : G11_child v1 μ Q) : MX l φ tc D s0 dR yX11_child cX11_child 2 (some .int) [.ref 0, .int v1] μ (QI Q) := by
  refine MX.of (own := RX11) hG plX11 rfl (Nat.le_of_ble_eq_true rfl) (fun p e s m args below meth c C hr => ?_)
  refine x_sub [(0, .ref 0), (1, .int v1)] [0, 1] rfl ?_
  unfold G11_child at h
  refine x_aload_n C rfl 0 rfl dX11_child_0 ?_
  refine x_getR (r := 153) C (j := 2) ob0.1 ob0.2 (Nat.le_of_ble_eq_true rfl) (Nat.le_of_ble_eq_true rfl) (fun _ _ _ => rfl) r_0_2 tw_2_165 dX11_child_1 ?_
  refine x_iload_n C rfl 1 rfl dX11_child_4 ?_
  refine x_callVN (dC := G8_tellChild_dep) (as := [.int v1]) (st := []) C rX kX (Nat.le_trans (Nat.le_of_ble_eq_true rfl) hd) (Nat.le_of_ble_eq_true rfl) ob153.1 ob153.2 (Nat.le_of_ble_eq_true rfl) rfl ts_4_15 tw_4_197 tw_4_195 tc_4_198 tw_1_6 hyX8 hnX8_tellChild rfl (Nat.le_of_ble_eq_true rfl) dX11_child_5 (G8_tellChild_met C.2.2.2.2.2.2.2.1 (Nat.le_refl _)  h) (fun r0 μ3 hq => ?_)
  obtain ⟨r4, rfl, h⟩ := hq
  refine x_st [.int r4] rfl ?_
  exact x_iret C hr dX11_child_8 ⟨_, rfl, h⟩
set_option maxHeartbeats 4000000 in
set_option maxRecDepth 100000 in
theorem G4_rungIn_J64_ok {p : Program} {e : Env} {s : State} {m : MethodId} {args : Array Value} {below : List Frame} {meth : Method} {c : Code} {l : Launch} {φ : Nat → Nat} {tc : Nat → ClassId} {D : va_G} {s0 : State} {dR : Nat} (C : CX p s m args meth c φ tc D (AX φ) s0 cX4_rungIn RX4 6) (hd : G4_rungIn_dep ≤ dR) (hr : meth.sig.returnType = (some .int))   {p1 : Int32} {p2 : Int32} {p4 : Int32} {q0 : Int32} {Q : Int32 → MM → Prop} {K5 : Int32 × Int32 × MM → Prop} {μ : MM}   (hK5 : ∀ (z3 : Int32) (z4 : Int32) (zμ : MM), K5 (z3, z4, zμ) → WX p l e (rmX dR) s m args below meth c φ tc D (AX φ) 6 0 0 (MQ below (QX φ tc D (QI Q)) args s 0 0 (AX φ)) 5 [(0, .ref 168), (1, .int p1), (2, .int p2), (3, .int z3), (4, .int z4)] [] zμ) (h : G4_rungIn_J64 p1 p2 p4 q0 μ K5 Q) : WX p l e (rmX dR) s m args below meth c φ tc D (AX φ) 6 0 0 (MQ below (QX φ tc D (QI Q)) args s 0 0 (AX φ)) 64 [(0, .ref 168), (1, .int p1), (2, .int p2), (4, .int p4)] [.int q0] μ := by
  unfold G4_rungIn_J64 at h
  refine x_iconst (v := 0) C (by decide) dX4_rungIn_64 ?_
  refine x_iadd C dX4_rungIn_65 ?_
  refine x_topi (fun y9 e_y9 => ?_)
  have h := h y9 e_y9
  refine x_istore_n C [(3, .int y9), (0, .ref 168), (1, .int p1), (2, .int p2), (4, .int p4)] rfl (Nat.le_of_ble_eq_true rfl) rfl dX4_rungIn_66 ?_
  refine x_iinc (v := (p4 + 1)) C [(4, .int (p4 + 1)), (3, .int y9), (0, .ref 168), (1, .int p1), (2, .int p2)] 4 rfl (congrArg (fun z => p4 + z) (by decide : Int32.ofInt (1) = 1)) (Nat.le_of_ble_eq_true rfl) rfl dX4_rungIn_67 ?_
  refine x_goto (tgt := 5) C dX4_rungIn_70 (by decide) ?_
  refine x_sub [(0, .ref 168), (1, .int p1), (2, .int p2), (3, .int y9), (4, .int (p4 + 1))] [2, 3, 4, 1, 0] rfl ?_
  exact hK5 _ _ _ h
set_option maxHeartbeats 4000000 in
set_option maxRecDepth 100000 in
theorem G4_rungIn_L5_b {p : Program} {e : Env} {s : State} {m : MethodId} {args : Array Value} {below : List Frame} {meth : Method} {c : Code} {l : Launch} {φ : Nat → Nat} {tc : Nat → ClassId} {D : va_G} {s0 : State} {dR : Nat} (C : CX p s m args meth c φ tc D (AX φ) s0 cX4_rungIn RX4 6) (hd : G4_rungIn_dep ≤ dR) (hr : meth.sig.returnType = (some .int))  {p1 : Int32} {p2 : Int32} {Q : Int32 → MM → Prop} {K5 : Int32 × Int32 × MM → Prop} {x : Int32 × Int32 × MM}   (hK5 : ∀ (z3 : Int32) (z4 : Int32) (zμ : MM), K5 (z3, z4, zμ) → WX p l e (rmX dR) s m args below meth c φ tc D (AX φ) 6 0 0 (MQ below (QX φ tc D (QI Q)) args s 0 0 (AX φ)) 5 [(0, .ref 168), (1, .int p1), (2, .int p2), (3, .int z3), (4, .int z4)] [] zμ) (h : G4_rungIn_L5 p1 p2 Q K5 x) : WX p l e (rmX dR) s m args below meth c φ tc D (AX φ) 6 0 0 (MQ below (QX φ tc D (QI Q)) args s 0 0 (AX φ)) 5 [(0, .ref 168), (1, .int p1), (2, .int p2), (3, .int x.1), (4, .int x.2.1)] [] x.2.2 := by
  unfold G4_rungIn_L5 at h
  refine x_iload C 4 rfl dX4_rungIn_5 ?_
  refine x_aload_n C rfl 0 rfl dX4_rungIn_7 ?_
  refine x_getR (r := 1) C (j := 0) ob168.1 ob168.2 (Nat.le_of_ble_eq_true rfl) (Nat.le_of_ble_eq_true rfl) (fun _ _ _ => rfl) r_168_0 tw_2_55 dX4_rungIn_8 ?_
  refine x_getIN C (j := 10) ob1.1 ob1.2 (Nat.le_of_ble_eq_true rfl) (Nat.le_of_ble_eq_true rfl) (Or.inl rfl) tw_1_149 dX4_rungIn_11 ?_
  refine x_icmp_ge (tgt := 73) C dX4_rungIn_14 (by decide) (fun c6 => ?_) (fun c6 => ?_)
  · have h := h.1 c6
    refine x_iload_n C rfl 3 rfl dX4_rungIn_73 ?_
    exact x_iret C hr dX4_rungIn_74 ⟨_, rfl, h⟩
  · have h := h.2 c6
    refine x_aload_n C rfl 0 rfl dX4_rungIn_17 ?_
    refine x_getR (r := 1) C (j := 0) ob168.1 ob168.2 (Nat.le_of_ble_eq_true rfl) (Nat.le_of_ble_eq_true rfl) (fun _ _ _ => rfl) r_168_0 tw_2_55 dX4_rungIn_18 ?_
    refine x_getRN (r := 9) C (j := 9) ob1.1 ob1.2 (Nat.le_of_ble_eq_true rfl) (Nat.le_of_ble_eq_true rfl) (fun _ _ _ => rfl) r_1_9 tw_1_144 dX4_rungIn_21 ?_
    refine x_iload C 4 rfl dX4_rungIn_24 ?_
    obtain ⟨c7, h⟩ := h
    refine x_aald (r := (19 + x.2.1.toNatClampNeg)) C ob9.1 (by decide) (by decide) c7 rfl (rA9 c7) dX4_rungIn_26 ?_
    refine x_astore C [(5, .ref (19 + x.2.1.toNatClampNeg)), (0, .ref 168), (1, .int p1), (2, .int p2), (3, .int x.1), (4, .int x.2.1)] (Nat.le_of_ble_eq_true rfl) rfl dX4_rungIn_27 ?_
    refine x_iload_n C rfl 4 rfl dX4_rungIn_29 ?_
    refine x_aload C 0 rfl dX4_rungIn_30 ?_
    refine x_getIN C (j := 0) (obA9 c7).1 (obA9 c7).2 (Nat.le_of_ble_eq_true rfl) (Nat.le_of_ble_eq_true rfl) (Or.inl rfl) tw_1_50 dX4_rungIn_32 ?_
    refine x_iload_n C rfl 2 rfl dX4_rungIn_35 ?_
    refine x_icmp_ne (tgt := 64) C dX4_rungIn_36 (by decide) (fun c8 => ?_) (fun c8 => ?_)
    · have h := h.1 c8
      refine x_sub [(0, .ref 168), (1, .int p1), (2, .int p2), (4, .int x.2.1)] [1, 2, 3, 5] rfl ?_
      exact G4_rungIn_J64_ok C hd hr hK5 h
    · have h := h.2 c8
      refine x_aload C 0 rfl dX4_rungIn_39 ?_
      refine x_getIN C (j := 7) (obA9 c7).1 (obA9 c7).2 (Nat.le_of_ble_eq_true rfl) (Nat.le_of_ble_eq_true rfl) (Or.inr rfl) tw_1_75 dX4_rungIn_41 ?_
      refine x_if_eq (tgt := 64) C dX4_rungIn_44 (by decide) (fun c10 => ?_) (fun c10 => ?_)
      · have h := h.1 c10
        refine x_sub [(0, .ref 168), (1, .int p1), (2, .int p2), (4, .int x.2.1)] [1, 2, 3, 5] rfl ?_
        exact G4_rungIn_J64_ok C hd hr hK5 h
      · have h := h.2 c10
        refine x_aload_n C rfl 1 rfl dX4_rungIn_47 ?_
        refine x_getR (r := 1) C (j := 0) ob168.1 ob168.2 (Nat.le_of_ble_eq_true rfl) (Nat.le_of_ble_eq_true rfl) (fun _ _ _ => rfl) r_168_0 tw_2_55 dX4_rungIn_48 ?_
        refine x_aload C 0 rfl dX4_rungIn_51 ?_
        refine x_callVN (dC := G10_peopleOf_dep) (as := [.ref (19 + x.2.1.toNatClampNeg)]) (st := [.int x.1]) C rX kX (Nat.le_trans (Nat.le_of_ble_eq_true rfl) hd) (Nat.le_of_ble_eq_true rfl) ob1.1 ob1.2 (Nat.le_of_ble_eq_true rfl) rfl ts_3_6 tw_4_40 tw_4_220 tc_4_41 tw_1_2 hyX10 hnX10_peopleOf rfl (Nat.le_of_ble_eq_true rfl) dX4_rungIn_53 (G10_peopleOf_met C.2.2.2.2.2.2.2.1 (Nat.le_refl _) (obA9 c7) h) (fun r0 μ11 hq => ?_)
        obtain ⟨r12, rfl, h⟩ := hq
        refine x_st [.int r12, .int x.1] rfl ?_
        refine x_iload_n C rfl 3 rfl dX4_rungIn_56 ?_
        refine x_icmp_ne (tgt := 64) C dX4_rungIn_57 (by decide) (fun c13 => ?_) (fun c13 => ?_)
        · have h := h.1 c13
          refine x_sub [(0, .ref 168), (1, .int p1), (2, .int p2), (4, .int x.2.1)] [1, 2, 3, 5] rfl ?_
          exact G4_rungIn_J64_ok C hd hr hK5 h
        · have h := h.2 c13
          refine x_iconst (v := 1) C (by decide) dX4_rungIn_60 ?_
          refine x_goto (tgt := 65) C dX4_rungIn_61 (by decide) ?_
          refine x_iadd C dX4_rungIn_65 ?_
          refine x_topi (fun y14 e_y14 => ?_)
          have h := h y14 e_y14
          refine x_istore_n C [(3, .int y14), (5, .ref (19 + x.2.1.toNatClampNeg)), (0, .ref 168), (1, .int p1), (2, .int p2), (4, .int x.2.1)] rfl (Nat.le_of_ble_eq_true rfl) rfl dX4_rungIn_66 ?_
          refine x_iinc (v := (x.2.1 + 1)) C [(4, .int (x.2.1 + 1)), (3, .int y14), (5, .ref (19 + x.2.1.toNatClampNeg)), (0, .ref 168), (1, .int p1), (2, .int p2)] 5 rfl (congrArg (fun z => x.2.1 + z) (by decide : Int32.ofInt (1) = 1)) (Nat.le_of_ble_eq_true rfl) rfl dX4_rungIn_67 ?_
          refine x_goto (tgt := 5) C dX4_rungIn_70 (by decide) ?_
          refine x_sub [(0, .ref 168), (1, .int p1), (2, .int p2), (3, .int y14), (4, .int (x.2.1 + 1))] [3, 4, 5, 1, 0] rfl ?_
          exact hK5 _ _ _ h
theorem G4_rungIn_L5_ok {p : Program} {e : Env} {s : State} {m : MethodId} {args : Array Value} {below : List Frame} {meth : Method} {c : Code} {l : Launch} {φ : Nat → Nat} {tc : Nat → ClassId} {D : va_G} {s0 : State} {dR : Nat} (C : CX p s m args meth c φ tc D (AX φ) s0 cX4_rungIn RX4 6) (hd : G4_rungIn_dep ≤ dR) (hr : meth.sig.returnType = (some .int))  {p1 : Int32} {p2 : Int32} {Q : Int32 → MM → Prop}  {x : Int32 × Int32 × MM}    (h : Lp (G4_rungIn_L5 p1 p2 Q) x) : WX p l e (rmX dR) s m args below meth c φ tc D (AX φ) 6 0 0 (MQ below (QX φ tc D (QI Q)) args s 0 0 (AX φ)) 5 [(0, .ref 168), (1, .int p1), (2, .int p2), (3, .int x.1), (4, .int x.2.1)] [] x.2.2 := by
  obtain ⟨n, h⟩ := h
  induction n generalizing x with
  | zero => exact h.elim
  | succ n ih => exact G4_rungIn_L5_b C hd hr   (fun z3 z4 zμ hz => by have q := ih hz; exact q) h
set_option maxHeartbeats 4000000 in
set_option maxRecDepth 100000 in
theorem G4_rungIn_met {l : Launch} {φ : Nat → Nat} {tc : Nat → ClassId} {D : va_G} {s0 : State} (hG : GX φ tc D s0) {dR : Nat} (hd : G4_rungIn_dep ≤ dR) {v1 : Int32} {v2 : Int32} {μ : MM} {Q : Int32 → MM → Prop}  (h : G4_rungIn v1 v2 μ Q) : MX l φ tc D s0 dR yX4_rungIn cX4_rungIn 6 (some .int) [.ref 168, .int v1, .int v2] μ (QI Q) := by
  refine MX.of (own := RX4) hG plX4 rfl (Nat.le_of_ble_eq_true rfl) (fun p e s m args below meth c C hr => ?_)
  refine x_sub [(0, .ref 168), (1, .int v1), (2, .int v2)] [0, 1, 2] rfl ?_
  unfold G4_rungIn at h
  refine x_iconst (v := 0) C (by decide) dX4_rungIn_0 ?_
  refine x_istore_n C [(3, .int 0), (0, .ref 168), (1, .int v1), (2, .int v2)] rfl (Nat.le_of_ble_eq_true rfl) rfl dX4_rungIn_1 ?_
  refine x_iconst (v := 0) C (by decide) dX4_rungIn_2 ?_
  refine x_istore C [(4, .int 0), (3, .int 0), (0, .ref 168), (1, .int v1), (2, .int v2)] (Nat.le_of_ble_eq_true rfl) rfl dX4_rungIn_3 ?_
  refine x_sub [(0, .ref 168), (1, .int v1), (2, .int v2), (3, .int 0), (4, .int 0)] [2, 3, 4, 1, 0] rfl ?_
  exact G4_rungIn_L5_ok C hd hr  h
set_option maxHeartbeats 4000000 in
set_option maxRecDepth 100000 in
theorem G10_hasRead_L2_b {p : Program} {e : Env} {s : State} {m : MethodId} {args : Array Value} {below : List Frame} {meth : Method} {c : Code} {l : Launch} {φ : Nat → Nat} {tc : Nat → ClassId} {D : va_G} {s0 : State} {dR : Nat} (C : CX p s m args meth c φ tc D (AX φ) s0 cX10_hasRead RX10 3) (hd : G10_hasRead_dep ≤ dR) (hr : meth.sig.returnType = (some .boolean))  {p1 : Int32} {Q : Int32 → MM → Prop} {K2 : Int32 × MM → Prop} {x : Int32 × MM}   (hK2 : ∀ (z2 : Int32) (zμ : MM), K2 (z2, zμ) → WX p l e (rmX dR) s m args below meth c φ tc D (AX φ) 3 0 0 (MQ below (QX φ tc D (QI Q)) args s 0 0 (AX φ)) 2 [(0, .ref 1), (1, .int p1), (2, .int z2)] [] zμ) (h : G10_hasRead_L2 p1 Q K2 x) : WX p l e (rmX dR) s m args below meth c φ tc D (AX φ) 3 0 0 (MQ below (QX φ tc D (QI Q)) args s 0 0 (AX φ)) 2 [(0, .ref 1), (1, .int p1), (2, .int x.1)] [] x.2 := by
  unfold G10_hasRead_L2 at h
  refine x_iload_n C rfl 2 rfl dX10_hasRead_2 ?_
  refine x_aload_n C rfl 0 rfl dX10_hasRead_3 ?_
  refine x_getI C (j := 10) ob1.1 ob1.2 (Nat.le_of_ble_eq_true rfl) (Nat.le_of_ble_eq_true rfl) (Or.inl rfl) tw_1_153 dX10_hasRead_4 ?_
  refine x_icmp_ge (tgt := 43) C dX10_hasRead_7 (by decide) (fun c3 => ?_) (fun c3 => ?_)
  · have h := h.1 c3
    refine x_iconst (v := 0) C (by decide) dX10_hasRead_43 ?_
    exact x_zret C hr bo_0 dX10_hasRead_44 ⟨_, rfl, h⟩
  · have h := h.2 c3
    refine x_aload_n C rfl 0 rfl dX10_hasRead_10 ?_
    refine x_getR (r := 9) C (j := 9) ob1.1 ob1.2 (Nat.le_of_ble_eq_true rfl) (Nat.le_of_ble_eq_true rfl) (fun _ _ _ => rfl) r_1_9 tw_1_143 dX10_hasRead_11 ?_
    refine x_iload_n C rfl 2 rfl dX10_hasRead_14 ?_
    obtain ⟨c4, h⟩ := h
    refine x_aald (r := (19 + x.1.toNatClampNeg)) C ob9.1 (by decide) (by decide) c4 rfl (rA9 c4) dX10_hasRead_15 ?_
    refine x_getIN C (j := 0) (obA9 c4).1 (obA9 c4).2 (Nat.le_of_ble_eq_true rfl) (Nat.le_of_ble_eq_true rfl) (Or.inl rfl) tw_1_54 dX10_hasRead_16 ?_
    refine x_iload_n C rfl 1 rfl dX10_hasRead_19 ?_
    refine x_icmp_ne (tgt := 37) C dX10_hasRead_20 (by decide) (fun c5 => ?_) (fun c5 => ?_)
    · have h := h.1 c5
      refine x_iinc (v := (x.1 + 1)) C [(2, .int (x.1 + 1)), (0, .ref 1), (1, .int p1)] 2 rfl (congrArg (fun z => x.1 + z) (by decide : Int32.ofInt (1) = 1)) (Nat.le_of_ble_eq_true rfl) rfl dX10_hasRead_37 ?_
      refine x_goto (tgt := 2) C dX10_hasRead_40 (by decide) ?_
      refine x_sub [(0, .ref 1), (1, .int p1), (2, .int (x.1 + 1))] [1, 2, 0] rfl ?_
      exact hK2 _ _ h
    · have h := h.2 c5
      refine x_aload_n C rfl 0 rfl dX10_hasRead_23 ?_
      refine x_getR (r := 9) C (j := 9) ob1.1 ob1.2 (Nat.le_of_ble_eq_true rfl) (Nat.le_of_ble_eq_true rfl) (fun _ _ _ => rfl) r_1_9 tw_1_143 dX10_hasRead_24 ?_
      refine x_iload_n C rfl 2 rfl dX10_hasRead_27 ?_
      obtain ⟨c6, h⟩ := h
      refine x_aald (r := (19 + x.1.toNatClampNeg)) C ob9.1 (by decide) (by decide) c6 rfl (rA9 c6) dX10_hasRead_28 ?_
      refine x_getIN C (j := 6) (obA9 c6).1 (obA9 c6).2 (Nat.le_of_ble_eq_true rfl) (Nat.le_of_ble_eq_true rfl) (Or.inr rfl) tw_1_74 dX10_hasRead_29 ?_
      refine x_if_eq (tgt := 37) C dX10_hasRead_32 (by decide) (fun c7 => ?_) (fun c7 => ?_)
      · have h := h.1 c7
        refine x_iinc (v := (x.1 + 1)) C [(2, .int (x.1 + 1)), (0, .ref 1), (1, .int p1)] 2 rfl (congrArg (fun z => x.1 + z) (by decide : Int32.ofInt (1) = 1)) (Nat.le_of_ble_eq_true rfl) rfl dX10_hasRead_37 ?_
        refine x_goto (tgt := 2) C dX10_hasRead_40 (by decide) ?_
        refine x_sub [(0, .ref 1), (1, .int p1), (2, .int (x.1 + 1))] [1, 2, 0] rfl ?_
        exact hK2 _ _ h
      · have h := h.2 c7
        refine x_iconst (v := 1) C (by decide) dX10_hasRead_35 ?_
        exact x_zret C hr bo_1 dX10_hasRead_36 ⟨_, rfl, h⟩
theorem G10_hasRead_L2_ok {p : Program} {e : Env} {s : State} {m : MethodId} {args : Array Value} {below : List Frame} {meth : Method} {c : Code} {l : Launch} {φ : Nat → Nat} {tc : Nat → ClassId} {D : va_G} {s0 : State} {dR : Nat} (C : CX p s m args meth c φ tc D (AX φ) s0 cX10_hasRead RX10 3) (hd : G10_hasRead_dep ≤ dR) (hr : meth.sig.returnType = (some .boolean))  {p1 : Int32} {Q : Int32 → MM → Prop}  {x : Int32 × MM}    (h : Lp (G10_hasRead_L2 p1 Q) x) : WX p l e (rmX dR) s m args below meth c φ tc D (AX φ) 3 0 0 (MQ below (QX φ tc D (QI Q)) args s 0 0 (AX φ)) 2 [(0, .ref 1), (1, .int p1), (2, .int x.1)] [] x.2 := by
  obtain ⟨n, h⟩ := h
  induction n generalizing x with
  | zero => exact h.elim
  | succ n ih => exact G10_hasRead_L2_b C hd hr   (fun z2 zμ hz => by have q := ih hz; exact q) h
set_option maxHeartbeats 4000000 in
set_option maxRecDepth 100000 in
theorem G10_hasRead_met {l : Launch} {φ : Nat → Nat} {tc : Nat → ClassId} {D : va_G} {s0 : State} (hG : GX φ tc D s0) {dR : Nat} (hd : G10_hasRead_dep ≤ dR) {v1 : Int32} {μ : MM} {Q : Int32 → MM → Prop}  (h : G10_hasRead v1 μ Q) : MX l φ tc D s0 dR yX10_hasRead cX10_hasRead 3 (some .boolean) [.ref 1, .int v1] μ (QI Q) := by
  refine MX.of (own := RX10) hG plX10 rfl (Nat.le_of_ble_eq_true rfl) (fun p e s m args below meth c C hr => ?_)
  refine x_sub [(0, .ref 1), (1, .int v1)] [0, 1] rfl ?_
  unfold G10_hasRead at h
  refine x_iconst (v := 0) C (by decide) dX10_hasRead_0 ?_
  refine x_istore_n C [(2, .int 0), (0, .ref 1), (1, .int v1)] rfl (Nat.le_of_ble_eq_true rfl) rfl dX10_hasRead_1 ?_
  refine x_sub [(0, .ref 1), (1, .int v1), (2, .int 0)] [1, 2, 0] rfl ?_
  exact G10_hasRead_L2_ok C hd hr  h
set_option maxHeartbeats 4000000 in
set_option maxRecDepth 100000 in
theorem G4_housesWith_J76_ok {p : Program} {e : Env} {s : State} {m : MethodId} {args : Array Value} {below : List Frame} {meth : Method} {c : Code} {l : Launch} {φ : Nat → Nat} {tc : Nat → ClassId} {D : va_G} {s0 : State} {dR : Nat} (C : CX p s m args meth c φ tc D (AX φ) s0 cX4_housesWith RX4 5) (hd : G4_housesWith_dep ≤ dR) (hr : meth.sig.returnType = (some .int))   {p1 : Int32} {p2 : Int32} {p4 : Int32} {q0 : Int32} {Q : Int32 → MM → Prop} {K25 : Int32 × Int32 × MM → Prop} {μ : MM}   (hK25 : ∀ (z3 : Int32) (z4 : Int32) (zμ : MM), K25 (z3, z4, zμ) → WX p l e (rmX dR) s m args below meth c φ tc D (AX φ) 5 0 0 (MQ below (QX φ tc D (QI Q)) args s 0 0 (AX φ)) 25 [(0, .ref 168), (1, .int p1), (2, .int p2), (3, .int z3), (4, .int z4)] [] zμ) (h : G4_housesWith_J76 p1 p2 p4 q0 μ K25 Q) : WX p l e (rmX dR) s m args below meth c φ tc D (AX φ) 5 0 0 (MQ below (QX φ tc D (QI Q)) args s 0 0 (AX φ)) 76 [(0, .ref 168), (1, .int p1), (2, .int p2), (4, .int p4)] [.int q0] μ := by
  unfold G4_housesWith_J76 at h
  refine x_iconst (v := 0) C (by decide) dX4_housesWith_76 ?_
  refine x_iadd C dX4_housesWith_77 ?_
  refine x_topi (fun y23 e_y23 => ?_)
  have h := h y23 e_y23
  refine x_istore_n C [(3, .int y23), (0, .ref 168), (1, .int p1), (2, .int p2), (4, .int p4)] rfl (Nat.le_of_ble_eq_true rfl) rfl dX4_housesWith_78 ?_
  refine x_iinc (v := (p4 + 1)) C [(4, .int (p4 + 1)), (3, .int y23), (0, .ref 168), (1, .int p1), (2, .int p2)] 4 rfl (congrArg (fun z => p4 + z) (by decide : Int32.ofInt (1) = 1)) (Nat.le_of_ble_eq_true rfl) rfl dX4_housesWith_79 ?_
  refine x_goto (tgt := 25) C dX4_housesWith_82 (by decide) ?_
  refine x_sub [(0, .ref 168), (1, .int p1), (2, .int p2), (3, .int y23), (4, .int (p4 + 1))] [2, 3, 4, 1, 0] rfl ?_
  exact hK25 _ _ _ h
set_option maxHeartbeats 4000000 in
set_option maxRecDepth 100000 in
theorem G4_housesWith_L25_b {p : Program} {e : Env} {s : State} {m : MethodId} {args : Array Value} {below : List Frame} {meth : Method} {c : Code} {l : Launch} {φ : Nat → Nat} {tc : Nat → ClassId} {D : va_G} {s0 : State} {dR : Nat} (C : CX p s m args meth c φ tc D (AX φ) s0 cX4_housesWith RX4 5) (hd : G4_housesWith_dep ≤ dR) (hr : meth.sig.returnType = (some .int))  {p1 : Int32} {p2 : Int32} {Q : Int32 → MM → Prop} {K25 : Int32 × Int32 × MM → Prop} {x : Int32 × Int32 × MM}   (hK25 : ∀ (z3 : Int32) (z4 : Int32) (zμ : MM), K25 (z3, z4, zμ) → WX p l e (rmX dR) s m args below meth c φ tc D (AX φ) 5 0 0 (MQ below (QX φ tc D (QI Q)) args s 0 0 (AX φ)) 25 [(0, .ref 168), (1, .int p1), (2, .int p2), (3, .int z3), (4, .int z4)] [] zμ) (h : G4_housesWith_L25 p1 p2 Q K25 x) : WX p l e (rmX dR) s m args below meth c φ tc D (AX φ) 5 0 0 (MQ below (QX φ tc D (QI Q)) args s 0 0 (AX φ)) 25 [(0, .ref 168), (1, .int p1), (2, .int p2), (3, .int x.1), (4, .int x.2.1)] [] x.2.2 := by
  unfold G4_housesWith_L25 at h
  refine x_iload C 4 rfl dX4_housesWith_25 ?_
  refine x_aload_n C rfl 0 rfl dX4_housesWith_27 ?_
  refine x_getR (r := 1) C (j := 0) ob168.1 ob168.2 (Nat.le_of_ble_eq_true rfl) (Nat.le_of_ble_eq_true rfl) (fun _ _ _ => rfl) r_168_0 tw_2_55 dX4_housesWith_28 ?_
  refine x_getIN C (j := 8) ob1.1 ob1.2 (Nat.le_of_ble_eq_true rfl) (Nat.le_of_ble_eq_true rfl) (Or.inl rfl) tw_1_139 dX4_housesWith_31 ?_
  refine x_icmp_ge (tgt := 85) C dX4_housesWith_34 (by decide) (fun c19 => ?_) (fun c19 => ?_)
  · have h := h.1 c19
    refine x_iload_n C rfl 3 rfl dX4_housesWith_85 ?_
    exact x_iret C hr dX4_housesWith_86 ⟨_, rfl, h⟩
  · have h := h.2 c19
    refine x_iload_n C rfl 3 rfl dX4_housesWith_37 ?_
    refine x_aload_n C rfl 0 rfl dX4_housesWith_38 ?_
    refine x_getR (r := 1) C (j := 0) ob168.1 ob168.2 (Nat.le_of_ble_eq_true rfl) (Nat.le_of_ble_eq_true rfl) (fun _ _ _ => rfl) r_168_0 tw_2_55 dX4_housesWith_39 ?_
    refine x_iload C 4 rfl dX4_housesWith_42 ?_
    refine x_callVN (dC := G10_hasRead_dep) (as := [.int x.2.1]) (st := [.int x.1]) C rX kX (Nat.le_trans (Nat.le_of_ble_eq_true rfl) hd) (Nat.le_of_ble_eq_true rfl) ob1.1 ob1.2 (Nat.le_of_ble_eq_true rfl) rfl ts_5_2 tw_4_214 tw_4_212 tc_4_215 tw_1_2 hyX10 hnX10_hasRead rfl (Nat.le_of_ble_eq_true rfl) dX4_housesWith_44 (G10_hasRead_met C.2.2.2.2.2.2.2.1 (Nat.le_refl _)  h) (fun r0 μ20 hq => ?_)
    obtain ⟨r21, rfl, h⟩ := hq
    refine x_st [.int r21, .int x.1] rfl ?_
    refine x_if_eq (tgt := 76) C dX4_housesWith_47 (by decide) (fun c22 => ?_) (fun c22 => ?_)
    · have h := h.1 c22
      refine x_sub [(0, .ref 168), (1, .int p1), (2, .int p2), (4, .int x.2.1)] [0, 1, 2, 4] rfl ?_
      exact G4_housesWith_J76_ok C hd hr hK25 h
    · have h := h.2 c22
      refine x_aload_n C rfl 0 rfl dX4_housesWith_50 ?_
      refine x_iload C 4 rfl dX4_housesWith_51 ?_
      refine x_iconst (v := 0) C (by decide) dX4_housesWith_53 ?_
      refine x_callV (dC := G4_rungIn_dep) (as := [.int x.2.1, .int 0]) (st := [.int x.1]) C rX kX (Nat.le_trans (Nat.le_of_ble_eq_true rfl) hd) (Nat.le_of_ble_eq_true rfl) ob168.1 ob168.2 (Nat.le_of_ble_eq_true rfl) rfl ts_5_3 tw_4_218 tw_4_216 tc_4_219 tw_1_8 hyX4 hnX4_rungIn rfl (Nat.le_of_ble_eq_true rfl) dX4_housesWith_54 (G4_rungIn_met C.2.2.2.2.2.2.2.1 (Nat.le_refl _)  h) (fun r0 μ24 hq => ?_)
      obtain ⟨r25, rfl, h⟩ := hq
      refine x_st [.int r25, .int x.1] rfl ?_
      refine x_iload_n C rfl 1 rfl dX4_housesWith_57 ?_
      refine x_icmp_ne (tgt := 76) C dX4_housesWith_58 (by decide) (fun c26 => ?_) (fun c26 => ?_)
      · have h := h.1 c26
        refine x_sub [(0, .ref 168), (1, .int p1), (2, .int p2), (4, .int x.2.1)] [0, 1, 2, 4] rfl ?_
        exact G4_housesWith_J76_ok C hd hr hK25 h
      · have h := h.2 c26
        refine x_aload_n C rfl 0 rfl dX4_housesWith_61 ?_
        refine x_iload C 4 rfl dX4_housesWith_62 ?_
        refine x_iconst (v := 1) C (by decide) dX4_housesWith_64 ?_
        refine x_callV (dC := G4_rungIn_dep) (as := [.int x.2.1, .int 1]) (st := [.int x.1]) C rX kX (Nat.le_trans (Nat.le_of_ble_eq_true rfl) hd) (Nat.le_of_ble_eq_true rfl) ob168.1 ob168.2 (Nat.le_of_ble_eq_true rfl) rfl ts_5_3 tw_4_218 tw_4_216 tc_4_219 tw_1_8 hyX4 hnX4_rungIn rfl (Nat.le_of_ble_eq_true rfl) dX4_housesWith_65 (G4_rungIn_met C.2.2.2.2.2.2.2.1 (Nat.le_refl _)  h) (fun r0 μ27 hq => ?_)
        obtain ⟨r28, rfl, h⟩ := hq
        refine x_st [.int r28, .int x.1] rfl ?_
        refine x_iload_n C rfl 2 rfl dX4_housesWith_68 ?_
        refine x_icmp_ne (tgt := 76) C dX4_housesWith_69 (by decide) (fun c29 => ?_) (fun c29 => ?_)
        · have h := h.1 c29
          refine x_sub [(0, .ref 168), (1, .int p1), (2, .int p2), (4, .int x.2.1)] [0, 1, 2, 4] rfl ?_
          exact G4_housesWith_J76_ok C hd hr hK25 h
        · have h := h.2 c29
          refine x_iconst (v := 1) C (by decide) dX4_housesWith_72 ?_
          refine x_goto (tgt := 77) C dX4_housesWith_73 (by decide) ?_
          refine x_iadd C dX4_housesWith_77 ?_
          refine x_topi (fun y30 e_y30 => ?_)
          have h := h y30 e_y30
          refine x_istore_n C [(3, .int y30), (0, .ref 168), (1, .int p1), (2, .int p2), (4, .int x.2.1)] rfl (Nat.le_of_ble_eq_true rfl) rfl dX4_housesWith_78 ?_
          refine x_iinc (v := (x.2.1 + 1)) C [(4, .int (x.2.1 + 1)), (3, .int y30), (0, .ref 168), (1, .int p1), (2, .int p2)] 4 rfl (congrArg (fun z => x.2.1 + z) (by decide : Int32.ofInt (1) = 1)) (Nat.le_of_ble_eq_true rfl) rfl dX4_housesWith_79 ?_
          refine x_goto (tgt := 25) C dX4_housesWith_82 (by decide) ?_
          refine x_sub [(0, .ref 168), (1, .int p1), (2, .int p2), (3, .int y30), (4, .int (x.2.1 + 1))] [2, 3, 4, 1, 0] rfl ?_
          exact hK25 _ _ _ h
theorem G4_housesWith_L25_ok {p : Program} {e : Env} {s : State} {m : MethodId} {args : Array Value} {below : List Frame} {meth : Method} {c : Code} {l : Launch} {φ : Nat → Nat} {tc : Nat → ClassId} {D : va_G} {s0 : State} {dR : Nat} (C : CX p s m args meth c φ tc D (AX φ) s0 cX4_housesWith RX4 5) (hd : G4_housesWith_dep ≤ dR) (hr : meth.sig.returnType = (some .int))  {p1 : Int32} {p2 : Int32} {Q : Int32 → MM → Prop}  {x : Int32 × Int32 × MM}    (h : Lp (G4_housesWith_L25 p1 p2 Q) x) : WX p l e (rmX dR) s m args below meth c φ tc D (AX φ) 5 0 0 (MQ below (QX φ tc D (QI Q)) args s 0 0 (AX φ)) 25 [(0, .ref 168), (1, .int p1), (2, .int p2), (3, .int x.1), (4, .int x.2.1)] [] x.2.2 := by
  obtain ⟨n, h⟩ := h
  induction n generalizing x with
  | zero => exact h.elim
  | succ n ih => exact G4_housesWith_L25_b C hd hr   (fun z3 z4 zμ hz => by have q := ih hz; exact q) h
set_option maxHeartbeats 4000000 in
set_option maxRecDepth 100000 in
theorem G4_housesWith_met {l : Launch} {φ : Nat → Nat} {tc : Nat → ClassId} {D : va_G} {s0 : State} (hG : GX φ tc D s0) {dR : Nat} (hd : G4_housesWith_dep ≤ dR) {v1 : Int32} {v2 : Int32} {μ : MM} {Q : Int32 → MM → Prop}  (h : G4_housesWith v1 v2 μ Q) : MX l φ tc D s0 dR yX4_housesWith cX4_housesWith 5 (some .int) [.ref 168, .int v1, .int v2] μ (QI Q) := by
  refine MX.of (own := RX4) hG plX4 rfl (Nat.le_of_ble_eq_true rfl) (fun p e s m args below meth c C hr => ?_)
  refine x_sub [(0, .ref 168), (1, .int v1), (2, .int v2)] [0, 1, 2] rfl ?_
  unfold G4_housesWith at h
  refine x_iload_n C rfl 1 rfl dX4_housesWith_0 ?_
  refine x_iconst (v := 0) C (by decide) dX4_housesWith_1 ?_
  refine x_iconst (v := 4) C (by decide) dX4_housesWith_2 ?_
  refine x_callSN (dC := G11_within_dep) (as := [.int v1, .int 0, .int 4]) (st := []) C rX kX (Nat.le_trans (Nat.le_of_ble_eq_true rfl) hd) (Nat.le_of_ble_eq_true rfl) tw_2_196 tw_4_211 tc_2_197 tw_1_1 hyX11 hnX11_within rfl (Nat.le_of_ble_eq_true rfl) dX4_housesWith_3 (G11_within_met C.2.2.2.2.2.2.2.1 (Nat.le_refl _)  h) (fun r0 μ13 hq => ?_)
  obtain ⟨r14, rfl, h⟩ := hq
  refine x_st [.int r14] rfl ?_
  refine x_if_eq (tgt := 18) C dX4_housesWith_6 (by decide) (fun c15 => ?_) (fun c15 => ?_)
  · have h := h.1 c15
    refine x_iconst (v := (-1)) C (by decide) dX4_housesWith_18 ?_
    exact x_iret C hr dX4_housesWith_19 ⟨_, rfl, h⟩
  · have h := h.2 c15
    refine x_iload_n C rfl 2 rfl dX4_housesWith_9 ?_
    refine x_iconst (v := 0) C (by decide) dX4_housesWith_10 ?_
    refine x_iconst (v := 4) C (by decide) dX4_housesWith_11 ?_
    refine x_callSN (dC := G11_within_dep) (as := [.int v2, .int 0, .int 4]) (st := []) C rX kX (Nat.le_trans (Nat.le_of_ble_eq_true rfl) hd) (Nat.le_of_ble_eq_true rfl) tw_2_196 tw_4_211 tc_2_197 tw_1_1 hyX11 hnX11_within rfl (Nat.le_of_ble_eq_true rfl) dX4_housesWith_12 (G11_within_met C.2.2.2.2.2.2.2.1 (Nat.le_refl _)  h) (fun r0 μ16 hq => ?_)
    obtain ⟨r17, rfl, h⟩ := hq
    refine x_st [.int r17] rfl ?_
    refine x_if_ne (tgt := 20) C dX4_housesWith_15 (by decide) (fun c18 => ?_) (fun c18 => ?_)
    · have h := h.1 c18
      refine x_iconst (v := 0) C (by decide) dX4_housesWith_20 ?_
      refine x_istore_n C [(3, .int 0), (0, .ref 168), (1, .int v1), (2, .int v2)] rfl (Nat.le_of_ble_eq_true rfl) rfl dX4_housesWith_21 ?_
      refine x_iconst (v := 0) C (by decide) dX4_housesWith_22 ?_
      refine x_istore C [(4, .int 0), (3, .int 0), (0, .ref 168), (1, .int v1), (2, .int v2)] (Nat.le_of_ble_eq_true rfl) rfl dX4_housesWith_23 ?_
      refine x_sub [(0, .ref 168), (1, .int v1), (2, .int v2), (3, .int 0), (4, .int 0)] [2, 3, 4, 1, 0] rfl ?_
      exact G4_housesWith_L25_ok C hd hr  h
    · have h := h.2 c18
      refine x_iconst (v := (-1)) C (by decide) dX4_housesWith_18 ?_
      exact x_iret C hr dX4_housesWith_19 ⟨_, rfl, h⟩
set_option maxHeartbeats 4000000 in
set_option maxRecDepth 100000 in
theorem G11_table_met {l : Launch} {φ : Nat → Nat} {tc : Nat → ClassId} {D : va_G} {s0 : State} (hG : GX φ tc D s0) {dR : Nat} (hd : G11_table_dep ≤ dR) {v1 : Int32} {v2 : Int32} {μ : MM} {Q : Int32 → MM → Prop}  (h : G11_table v1 v2 μ Q) : MX l φ tc D s0 dR yX11_table cX11_table 3 (some .int) [.ref 0, .int v1, .int v2] μ (QI Q) := by
  refine MX.of (own := RX11) hG plX11 rfl (Nat.le_of_ble_eq_true rfl) (fun p e s m args below meth c C hr => ?_)
  refine x_sub [(0, .ref 0), (1, .int v1), (2, .int v2)] [0, 1, 2] rfl ?_
  unfold G11_table at h
  refine x_aload_n C rfl 0 rfl dX11_table_0 ?_
  refine x_getR (r := 168) C (j := 3) ob0.1 ob0.2 (Nat.le_of_ble_eq_true rfl) (Nat.le_of_ble_eq_true rfl) (fun _ _ _ => rfl) r_0_3 tw_2_166 dX11_table_1 ?_
  refine x_iload_n C rfl 1 rfl dX11_table_4 ?_
  refine x_iload_n C rfl 2 rfl dX11_table_5 ?_
  refine x_callVN (dC := G4_housesWith_dep) (as := [.int v1, .int v2]) (st := []) C rX kX (Nat.le_trans (Nat.le_of_ble_eq_true rfl) hd) (Nat.le_of_ble_eq_true rfl) ob168.1 ob168.2 (Nat.le_of_ble_eq_true rfl) rfl ts_5_1 tw_4_209 tw_4_207 tc_4_210 tw_1_8 hyX4 hnX4_housesWith rfl (Nat.le_of_ble_eq_true rfl) dX11_table_6 (G4_housesWith_met C.2.2.2.2.2.2.2.1 (Nat.le_refl _)  h) (fun r0 μ3 hq => ?_)
  obtain ⟨r4, rfl, h⟩ := hq
  refine x_st [.int r4] rfl ?_
  exact x_iret C hr dX11_table_9 ⟨_, rfl, h⟩
set_option maxHeartbeats 4000000 in
set_option maxRecDepth 100000 in
theorem G4_become_met {l : Launch} {φ : Nat → Nat} {tc : Nat → ClassId} {D : va_G} {s0 : State} (hG : GX φ tc D s0) {dR : Nat} (hd : G4_become_dep ≤ dR) {v1 : Int32} {v2 : Int32} {v3 : Int32} {μ : MM} {Q : Int32 → MM → Prop}  (h : G4_become v1 v2 v3 μ Q) : MX l φ tc D s0 dR yX4_become cX4_become 4 (some .boolean) [.ref 168, .int v1, .int v2, .int v3] μ (QI Q) := by
  refine MX.of (own := RX4) hG plX4 rfl (Nat.le_of_ble_eq_true rfl) (fun p e s m args below meth c C hr => ?_)
  refine x_sub [(0, .ref 168), (1, .int v1), (2, .int v2), (3, .int v3)] [0, 1, 2, 3] rfl ?_
  unfold G4_become at h
  refine x_iload_n C rfl 1 rfl dX4_become_0 ?_
  refine x_iconst (v := 0) C (by decide) dX4_become_1 ?_
  refine x_iconst (v := 3) C (by decide) dX4_become_2 ?_
  refine x_callSN (dC := G11_within_dep) (as := [.int v1, .int 0, .int 3]) (st := []) C rX kX (Nat.le_trans (Nat.le_of_ble_eq_true rfl) hd) (Nat.le_of_ble_eq_true rfl) tw_2_196 tw_4_211 tc_2_197 tw_1_1 hyX11 hnX11_within rfl (Nat.le_of_ble_eq_true rfl) dX4_become_3 (G11_within_met C.2.2.2.2.2.2.2.1 (Nat.le_refl _)  h) (fun r0 μ11 hq => ?_)
  obtain ⟨r12, rfl, h⟩ := hq
  refine x_st [.int r12] rfl ?_
  refine x_if_eq (tgt := 29) C dX4_become_6 (by decide) (fun c13 => ?_) (fun c13 => ?_)
  · have h := h.1 c13
    refine x_iconst (v := 0) C (by decide) dX4_become_29 ?_
    exact x_zret C hr bo_0 dX4_become_30 ⟨_, rfl, h⟩
  · have h := h.2 c13
    refine x_iload_n C rfl 2 rfl dX4_become_9 ?_
    refine x_iconst (v := 0) C (by decide) dX4_become_10 ?_
    refine x_bipush (v := 100) C (by decide) dX4_become_11 ?_
    refine x_callSN (dC := G11_within_dep) (as := [.int v2, .int 0, .int 100]) (st := []) C rX kX (Nat.le_trans (Nat.le_of_ble_eq_true rfl) hd) (Nat.le_of_ble_eq_true rfl) tw_2_196 tw_4_211 tc_2_197 tw_1_1 hyX11 hnX11_within rfl (Nat.le_of_ble_eq_true rfl) dX4_become_13 (G11_within_met C.2.2.2.2.2.2.2.1 (Nat.le_refl _)  h) (fun r0 μ14 hq => ?_)
    obtain ⟨r15, rfl, h⟩ := hq
    refine x_st [.int r15] rfl ?_
    refine x_if_eq (tgt := 29) C dX4_become_16 (by decide) (fun c16 => ?_) (fun c16 => ?_)
    · have h := h.1 c16
      refine x_iconst (v := 0) C (by decide) dX4_become_29 ?_
      exact x_zret C hr bo_0 dX4_become_30 ⟨_, rfl, h⟩
    · have h := h.2 c16
      refine x_iload_n C rfl 3 rfl dX4_become_19 ?_
      refine x_iconst (v := 0) C (by decide) dX4_become_20 ?_
      refine x_bipush (v := 100) C (by decide) dX4_become_21 ?_
      refine x_callSN (dC := G11_within_dep) (as := [.int v3, .int 0, .int 100]) (st := []) C rX kX (Nat.le_trans (Nat.le_of_ble_eq_true rfl) hd) (Nat.le_of_ble_eq_true rfl) tw_2_196 tw_4_211 tc_2_197 tw_1_1 hyX11 hnX11_within rfl (Nat.le_of_ble_eq_true rfl) dX4_become_23 (G11_within_met C.2.2.2.2.2.2.2.1 (Nat.le_refl _)  h) (fun r0 μ17 hq => ?_)
      obtain ⟨r18, rfl, h⟩ := hq
      refine x_st [.int r18] rfl ?_
      refine x_if_ne (tgt := 31) C dX4_become_26 (by decide) (fun c19 => ?_) (fun c19 => ?_)
      · have h := h.1 c19
        refine x_aload_n C rfl 0 rfl dX4_become_31 ?_
        refine x_getR (r := 169) C (j := 2) ob168.1 ob168.2 (Nat.le_of_ble_eq_true rfl) (Nat.le_of_ble_eq_true rfl) (fun _ _ _ => rfl) r_168_2 tw_2_57 dX4_become_32 ?_
        refine x_iload_n C rfl 1 rfl dX4_become_35 ?_
        refine x_iload_n C rfl 2 rfl dX4_become_36 ?_
        obtain ⟨c20, h⟩ := h
        refine x_iast C ob169.1 ob169.2 c20 rfl dX4_become_37 ?_
        refine x_mu (fun μ21 e_μ21 => ?_)
        have h := h μ21 e_μ21
        refine x_aload_n C rfl 0 rfl dX4_become_38 ?_
        refine x_getR (r := 170) C (j := 3) ob168.1 ob168.2 (Nat.le_of_ble_eq_true rfl) (Nat.le_of_ble_eq_true rfl) (fun _ _ _ => rfl) r_168_3 tw_2_58 dX4_become_39 ?_
        refine x_iload_n C rfl 1 rfl dX4_become_42 ?_
        refine x_iload_n C rfl 3 rfl dX4_become_43 ?_
        obtain ⟨c22, h⟩ := h
        refine x_iast C ob170.1 ob170.2 c22 rfl dX4_become_44 ?_
        refine x_mu (fun μ23 e_μ23 => ?_)
        have h := h μ23 e_μ23
        refine x_iconst (v := 1) C (by decide) dX4_become_45 ?_
        exact x_zret C hr bo_1 dX4_become_46 ⟨_, rfl, h⟩
      · have h := h.2 c19
        refine x_iconst (v := 0) C (by decide) dX4_become_29 ?_
        exact x_zret C hr bo_0 dX4_become_30 ⟨_, rfl, h⟩
set_option maxHeartbeats 4000000 in
set_option maxRecDepth 100000 in
theorem G11_kind_met {l : Launch} {φ : Nat → Nat} {tc : Nat → ClassId} {D : va_G} {s0 : State} (hG : GX φ tc D s0) {dR : Nat} (hd : G11_kind_dep ≤ dR) {v1 : Int32} {v2 : Int32} {v3 : Int32} {μ : MM} {Q : Int32 → MM → Prop}  (h : G11_kind v1 v2 v3 μ Q) : MX l φ tc D s0 dR yX11_kind cX11_kind 4 (some .boolean) [.ref 0, .int v1, .int v2, .int v3] μ (QI Q) := by
  refine MX.of (own := RX11) hG plX11 rfl (Nat.le_of_ble_eq_true rfl) (fun p e s m args below meth c C hr => ?_)
  refine x_sub [(0, .ref 0), (1, .int v1), (2, .int v2), (3, .int v3)] [0, 1, 2, 3] rfl ?_
  unfold G11_kind at h
  refine x_aload_n C rfl 0 rfl dX11_kind_0 ?_
  refine x_getR (r := 168) C (j := 3) ob0.1 ob0.2 (Nat.le_of_ble_eq_true rfl) (Nat.le_of_ble_eq_true rfl) (fun _ _ _ => rfl) r_0_3 tw_2_166 dX11_kind_1 ?_
  refine x_iload_n C rfl 1 rfl dX11_kind_4 ?_
  refine x_iload_n C rfl 2 rfl dX11_kind_5 ?_
  refine x_iload_n C rfl 3 rfl dX11_kind_6 ?_
  refine x_callVN (dC := G4_become_dep) (as := [.int v1, .int v2, .int v3]) (st := []) C rX kX (Nat.le_trans (Nat.le_of_ble_eq_true rfl) hd) (Nat.le_of_ble_eq_true rfl) ob168.1 ob168.2 (Nat.le_of_ble_eq_true rfl) rfl ts_5_4 tw_4_227 tw_4_225 tc_4_228 tw_1_8 hyX4 hnX4_become rfl (Nat.le_of_ble_eq_true rfl) dX11_kind_7 (G4_become_met C.2.2.2.2.2.2.2.1 (Nat.le_refl _)  h) (fun r0 μ3 hq => ?_)
  obtain ⟨r4, rfl, h⟩ := hq
  refine x_st [.int r4] rfl ?_
  exact x_zret C hr h.1 dX11_kind_10 ⟨_, rfl, h.2⟩
set_option maxHeartbeats 4000000 in
set_option maxRecDepth 100000 in
theorem G4_becomePart_L33_b {p : Program} {e : Env} {s : State} {m : MethodId} {args : Array Value} {below : List Frame} {meth : Method} {c : Code} {l : Launch} {φ : Nat → Nat} {tc : Nat → ClassId} {D : va_G} {s0 : State} {dR : Nat} (C : CX p s m args meth c φ tc D (AX φ) s0 cX4_becomePart RX4 5) (hd : G4_becomePart_dep ≤ dR) (hr : meth.sig.returnType = (some .int))  {p1 : Int32} {p2 : Int32} {Q : Int32 → MM → Prop} {K33 : Int32 × Int32 × MM → Prop} {x : Int32 × Int32 × MM}   (hK33 : ∀ (z3 : Int32) (z4 : Int32) (zμ : MM), K33 (z3, z4, zμ) → WX p l e (rmX dR) s m args below meth c φ tc D (AX φ) 5 0 0 (MQ below (QX φ tc D (QI Q)) args s 0 0 (AX φ)) 33 [(0, .ref 168), (1, .int p1), (2, .int p2), (3, .int z3), (4, .int z4)] [] zμ) (h : G4_becomePart_L33 p1 p2 Q K33 x) : WX p l e (rmX dR) s m args below meth c φ tc D (AX φ) 5 0 0 (MQ below (QX φ tc D (QI Q)) args s 0 0 (AX φ)) 33 [(0, .ref 168), (1, .int p1), (2, .int p2), (3, .int x.1), (4, .int x.2.1)] [] x.2.2 := by
  unfold G4_becomePart_L33 at h
  refine x_iload C 4 rfl dX4_becomePart_33 ?_
  refine x_iconst (v := 4) C (by decide) dX4_becomePart_35 ?_
  refine x_icmp_ge (tgt := 55) C dX4_becomePart_36 (by decide) (fun c21 => ?_) (fun c21 => ?_)
  · have h := h.1 c21
    refine x_iload_n C rfl 3 rfl dX4_becomePart_55 ?_
    refine x_if_ne (tgt := 61) C dX4_becomePart_56 (by decide) (fun c22 => ?_) (fun c22 => ?_)
    · have h := h.1 c22
      refine x_aload_n C rfl 0 rfl dX4_becomePart_61 ?_
      refine x_getR (r := 171) C (j := 4) ob168.1 ob168.2 (Nat.le_of_ble_eq_true rfl) (Nat.le_of_ble_eq_true rfl) (fun _ _ _ => rfl) r_168_4 tw_2_59 dX4_becomePart_62 ?_
      refine x_iload_n C rfl 1 rfl dX4_becomePart_65 ?_
      obtain ⟨c23, h⟩ := h
      refine x_iald C ob171.1 ob171.2 c23 rfl dX4_becomePart_66 ?_
      refine x_topi (fun y24 e_y24 => ?_)
      have h := h y24 e_y24
      refine x_istore C [(4, .int y24), (0, .ref 168), (1, .int p1), (2, .int p2), (3, .int x.1)] (Nat.le_of_ble_eq_true rfl) rfl dX4_becomePart_67 ?_
      refine x_aload_n C rfl 1 rfl dX4_becomePart_69 ?_
      refine x_getR (r := 171) C (j := 4) ob168.1 ob168.2 (Nat.le_of_ble_eq_true rfl) (Nat.le_of_ble_eq_true rfl) (fun _ _ _ => rfl) r_168_4 tw_2_59 dX4_becomePart_70 ?_
      refine x_iload_n C rfl 2 rfl dX4_becomePart_73 ?_
      refine x_iload_n C rfl 3 rfl dX4_becomePart_74 ?_
      obtain ⟨c25, h⟩ := h
      refine x_iast C ob171.1 ob171.2 c25 rfl dX4_becomePart_75 ?_
      refine x_mu (fun μ26 e_μ26 => ?_)
      have h := h μ26 e_μ26
      refine x_iload C 0 rfl dX4_becomePart_76 ?_
      exact x_iret C hr dX4_becomePart_78 ⟨_, rfl, h⟩
    · have h := h.2 c22
      refine x_iconst (v := (-1)) C (by decide) dX4_becomePart_59 ?_
      exact x_iret C hr dX4_becomePart_60 ⟨_, rfl, h⟩
  · have h := h.2 c21
    refine x_iload_n C rfl 3 rfl dX4_becomePart_39 ?_
    refine x_aload_n C rfl 0 rfl dX4_becomePart_40 ?_
    refine x_getR (r := 171) C (j := 4) ob168.1 ob168.2 (Nat.le_of_ble_eq_true rfl) (Nat.le_of_ble_eq_true rfl) (fun _ _ _ => rfl) r_168_4 tw_2_59 dX4_becomePart_41 ?_
    refine x_iload C 4 rfl dX4_becomePart_44 ?_
    obtain ⟨c27, h⟩ := h
    refine x_iald C ob171.1 ob171.2 c27 rfl dX4_becomePart_46 ?_
    refine x_iadd C dX4_becomePart_47 ?_
    refine x_topi (fun y28 e_y28 => ?_)
    have h := h y28 e_y28
    refine x_istore_n C [(3, .int y28), (0, .ref 168), (1, .int p1), (2, .int p2), (4, .int x.2.1)] rfl (Nat.le_of_ble_eq_true rfl) rfl dX4_becomePart_48 ?_
    refine x_iinc (v := (x.2.1 + 1)) C [(4, .int (x.2.1 + 1)), (3, .int y28), (0, .ref 168), (1, .int p1), (2, .int p2)] 4 rfl (congrArg (fun z => x.2.1 + z) (by decide : Int32.ofInt (1) = 1)) (Nat.le_of_ble_eq_true rfl) rfl dX4_becomePart_49 ?_
    refine x_goto (tgt := 33) C dX4_becomePart_52 (by decide) ?_
    refine x_sub [(0, .ref 168), (1, .int p1), (2, .int p2), (3, .int y28), (4, .int (x.2.1 + 1))] [2, 3, 4, 1, 0] rfl ?_
    exact hK33 _ _ _ h
theorem G4_becomePart_L33_ok {p : Program} {e : Env} {s : State} {m : MethodId} {args : Array Value} {below : List Frame} {meth : Method} {c : Code} {l : Launch} {φ : Nat → Nat} {tc : Nat → ClassId} {D : va_G} {s0 : State} {dR : Nat} (C : CX p s m args meth c φ tc D (AX φ) s0 cX4_becomePart RX4 5) (hd : G4_becomePart_dep ≤ dR) (hr : meth.sig.returnType = (some .int))  {p1 : Int32} {p2 : Int32} {Q : Int32 → MM → Prop}  {x : Int32 × Int32 × MM}    (h : Lp (G4_becomePart_L33 p1 p2 Q) x) : WX p l e (rmX dR) s m args below meth c φ tc D (AX φ) 5 0 0 (MQ below (QX φ tc D (QI Q)) args s 0 0 (AX φ)) 33 [(0, .ref 168), (1, .int p1), (2, .int p2), (3, .int x.1), (4, .int x.2.1)] [] x.2.2 := by
  obtain ⟨n, h⟩ := h
  induction n generalizing x with
  | zero => exact h.elim
  | succ n ih => exact G4_becomePart_L33_b C hd hr   (fun z3 z4 zμ hz => by have q := ih hz; exact q) h
set_option maxHeartbeats 4000000 in
set_option maxRecDepth 100000 in
theorem G4_becomePart_met {l : Launch} {φ : Nat → Nat} {tc : Nat → ClassId} {D : va_G} {s0 : State} (hG : GX φ tc D s0) {dR : Nat} (hd : G4_becomePart_dep ≤ dR) {v1 : Int32} {v2 : Int32} {μ : MM} {Q : Int32 → MM → Prop}  (h : G4_becomePart v1 v2 μ Q) : MX l φ tc D s0 dR yX4_becomePart cX4_becomePart 5 (some .int) [.ref 168, .int v1, .int v2] μ (QI Q) := by
  refine MX.of (own := RX4) hG plX4 rfl (Nat.le_of_ble_eq_true rfl) (fun p e s m args below meth c C hr => ?_)
  refine x_sub [(0, .ref 168), (1, .int v1), (2, .int v2)] [0, 1, 2] rfl ?_
  unfold G4_becomePart at h
  refine x_iload_n C rfl 1 rfl dX4_becomePart_0 ?_
  refine x_iconst (v := 0) C (by decide) dX4_becomePart_1 ?_
  refine x_iconst (v := 3) C (by decide) dX4_becomePart_2 ?_
  refine x_callSN (dC := G11_within_dep) (as := [.int v1, .int 0, .int 3]) (st := []) C rX kX (Nat.le_trans (Nat.le_of_ble_eq_true rfl) hd) (Nat.le_of_ble_eq_true rfl) tw_2_196 tw_4_211 tc_2_197 tw_1_1 hyX11 hnX11_within rfl (Nat.le_of_ble_eq_true rfl) dX4_becomePart_3 (G11_within_met C.2.2.2.2.2.2.2.1 (Nat.le_refl _)  h) (fun r0 μ13 hq => ?_)
  obtain ⟨r14, rfl, h⟩ := hq
  refine x_st [.int r14] rfl ?_
  refine x_if_eq (tgt := 19) C dX4_becomePart_6 (by decide) (fun c15 => ?_) (fun c15 => ?_)
  · have h := h.1 c15
    refine x_iconst (v := (-1)) C (by decide) dX4_becomePart_19 ?_
    exact x_iret C hr dX4_becomePart_20 ⟨_, rfl, h⟩
  · have h := h.2 c15
    refine x_iload_n C rfl 2 rfl dX4_becomePart_9 ?_
    refine x_iconst (v := 0) C (by decide) dX4_becomePart_10 ?_
    refine x_bipush (v := 99) C (by decide) dX4_becomePart_11 ?_
    refine x_callSN (dC := G11_within_dep) (as := [.int v2, .int 0, .int 99]) (st := []) C rX kX (Nat.le_trans (Nat.le_of_ble_eq_true rfl) hd) (Nat.le_of_ble_eq_true rfl) tw_2_196 tw_4_211 tc_2_197 tw_1_1 hyX11 hnX11_within rfl (Nat.le_of_ble_eq_true rfl) dX4_becomePart_13 (G11_within_met C.2.2.2.2.2.2.2.1 (Nat.le_refl _)  h) (fun r0 μ16 hq => ?_)
    obtain ⟨r17, rfl, h⟩ := hq
    refine x_st [.int r17] rfl ?_
    refine x_if_ne (tgt := 21) C dX4_becomePart_16 (by decide) (fun c18 => ?_) (fun c18 => ?_)
    · have h := h.1 c18
      refine x_iload_n C rfl 2 rfl dX4_becomePart_21 ?_
      refine x_aload_n C rfl 0 rfl dX4_becomePart_22 ?_
      refine x_getR (r := 171) C (j := 4) ob168.1 ob168.2 (Nat.le_of_ble_eq_true rfl) (Nat.le_of_ble_eq_true rfl) (fun _ _ _ => rfl) r_168_4 tw_2_59 dX4_becomePart_23 ?_
      refine x_iload_n C rfl 1 rfl dX4_becomePart_26 ?_
      obtain ⟨c19, h⟩ := h
      refine x_iald C ob171.1 ob171.2 c19 rfl dX4_becomePart_27 ?_
      refine x_isub C dX4_becomePart_28 ?_
      refine x_topi (fun y20 e_y20 => ?_)
      have h := h y20 e_y20
      refine x_istore_n C [(3, .int y20), (0, .ref 168), (1, .int v1), (2, .int v2)] rfl (Nat.le_of_ble_eq_true rfl) rfl dX4_becomePart_29 ?_
      refine x_iconst (v := 0) C (by decide) dX4_becomePart_30 ?_
      refine x_istore C [(4, .int 0), (3, .int y20), (0, .ref 168), (1, .int v1), (2, .int v2)] (Nat.le_of_ble_eq_true rfl) rfl dX4_becomePart_31 ?_
      refine x_sub [(0, .ref 168), (1, .int v1), (2, .int v2), (3, .int y20), (4, .int 0)] [2, 3, 4, 1, 0] rfl ?_
      exact G4_becomePart_L33_ok C hd hr  h
    · have h := h.2 c18
      refine x_iconst (v := (-1)) C (by decide) dX4_becomePart_19 ?_
      exact x_iret C hr dX4_becomePart_20 ⟨_, rfl, h⟩
set_option maxHeartbeats 4000000 in
set_option maxRecDepth 100000 in
theorem G11_parts_met {l : Launch} {φ : Nat → Nat} {tc : Nat → ClassId} {D : va_G} {s0 : State} (hG : GX φ tc D s0) {dR : Nat} (hd : G11_parts_dep ≤ dR) {v1 : Int32} {v2 : Int32} {μ : MM} {Q : Int32 → MM → Prop}  (h : G11_parts v1 v2 μ Q) : MX l φ tc D s0 dR yX11_parts cX11_parts 3 (some .int) [.ref 0, .int v1, .int v2] μ (QI Q) := by
  refine MX.of (own := RX11) hG plX11 rfl (Nat.le_of_ble_eq_true rfl) (fun p e s m args below meth c C hr => ?_)
  refine x_sub [(0, .ref 0), (1, .int v1), (2, .int v2)] [0, 1, 2] rfl ?_
  unfold G11_parts at h
  refine x_aload_n C rfl 0 rfl dX11_parts_0 ?_
  refine x_getR (r := 168) C (j := 3) ob0.1 ob0.2 (Nat.le_of_ble_eq_true rfl) (Nat.le_of_ble_eq_true rfl) (fun _ _ _ => rfl) r_0_3 tw_2_166 dX11_parts_1 ?_
  refine x_iload_n C rfl 1 rfl dX11_parts_4 ?_
  refine x_iload_n C rfl 2 rfl dX11_parts_5 ?_
  refine x_callVN (dC := G4_becomePart_dep) (as := [.int v1, .int v2]) (st := []) C rX kX (Nat.le_trans (Nat.le_of_ble_eq_true rfl) hd) (Nat.le_of_ble_eq_true rfl) ob168.1 ob168.2 (Nat.le_of_ble_eq_true rfl) rfl ts_5_5 tw_4_235 tw_4_233 tc_4_236 tw_1_8 hyX4 hnX4_becomePart rfl (Nat.le_of_ble_eq_true rfl) dX11_parts_6 (G4_becomePart_met C.2.2.2.2.2.2.2.1 (Nat.le_refl _)  h) (fun r0 μ3 hq => ?_)
  obtain ⟨r4, rfl, h⟩ := hq
  refine x_st [.int r4] rfl ?_
  exact x_iret C hr dX11_parts_9 ⟨_, rfl, h⟩
set_option maxHeartbeats 4000000 in
set_option maxRecDepth 100000 in
theorem G4_likelihood_J96_ok {p : Program} {e : Env} {s : State} {m : MethodId} {args : Array Value} {below : List Frame} {meth : Method} {c : Code} {l : Launch} {φ : Nat → Nat} {tc : Nat → ClassId} {D : va_G} {s0 : State} {dR : Nat} (C : CX p s m args meth c φ tc D (AX φ) s0 cX4_likelihood RX4 8) (hd : G4_likelihood_dep ≤ dR) (hr : meth.sig.returnType = (some .long))   {p1 : Int32} {p2 : Int32} {p5 : Int32} {q0 : Int64} {q1 : Int64} {Q : Int64 → MM → Prop} {K5 : Int64 × Int32 × MM → Prop} {μ : MM}   (hK5 : ∀ (z3 : Int64) (z5 : Int32) (zμ : MM), K5 (z3, z5, zμ) → WX p l e (rmX dR) s m args below meth c φ tc D (AX φ) 8 0 0 (MQ below (QX φ tc D (QJ Q)) args s 0 0 (AX φ)) 5 [(0, .ref 168), (1, .int p1), (2, .int p2), (3, .long z3), (5, .int z5)] [] zμ) (h : G4_likelihood_J96 p1 p2 p5 q0 q1 μ K5 Q) : WX p l e (rmX dR) s m args below meth c φ tc D (AX φ) 8 0 0 (MQ below (QX φ tc D (QJ Q)) args s 0 0 (AX φ)) 96 [(0, .ref 168), (1, .int p1), (2, .int p2), (5, .int p5)] [.long q0, .long q1] μ := by
  unfold G4_likelihood_J96 at h
  refine x_lmul C dX4_likelihood_96 ?_
  refine x_topl (fun y16 e_y16 => ?_)
  have h := h y16 e_y16
  refine x_lstore_n C [(3, .long y16), (0, .ref 168), (1, .int p1), (2, .int p2), (5, .int p5)] rfl (Nat.le_of_ble_eq_true rfl) rfl dX4_likelihood_97 ?_
  refine x_iinc (v := (p5 + 1)) C [(5, .int (p5 + 1)), (3, .long y16), (0, .ref 168), (1, .int p1), (2, .int p2)] 4 rfl (congrArg (fun z => p5 + z) (by decide : Int32.ofInt (1) = 1)) (Nat.le_of_ble_eq_true rfl) rfl dX4_likelihood_98 ?_
  refine x_goto (tgt := 5) C dX4_likelihood_101 (by decide) ?_
  refine x_sub [(0, .ref 168), (1, .int p1), (2, .int p2), (3, .long y16), (5, .int (p5 + 1))] [2, 3, 4, 1, 0] rfl ?_
  exact hK5 _ _ _ h
set_option maxHeartbeats 4000000 in
set_option maxRecDepth 100000 in
theorem G4_likelihood_J73_ok {p : Program} {e : Env} {s : State} {m : MethodId} {args : Array Value} {below : List Frame} {meth : Method} {c : Code} {l : Launch} {φ : Nat → Nat} {tc : Nat → ClassId} {D : va_G} {s0 : State} {dR : Nat} (C : CX p s m args meth c φ tc D (AX φ) s0 cX4_likelihood RX4 8) (hd : G4_likelihood_dep ≤ dR) (hr : meth.sig.returnType = (some .long))   {p1 : Int32} {p2 : Int32} {p3 : Int64} {p5 : Int32} {p6 : Nat} {q0 : Int32} {Q : Int64 → MM → Prop} {K5 : Int64 × Int32 × MM → Prop} {μ : MM}  (o_p6 : Ob p6 5) (hK5 : ∀ (z3 : Int64) (z5 : Int32) (zμ : MM), K5 (z3, z5, zμ) → WX p l e (rmX dR) s m args below meth c φ tc D (AX φ) 8 0 0 (MQ below (QX φ tc D (QJ Q)) args s 0 0 (AX φ)) 5 [(0, .ref 168), (1, .int p1), (2, .int p2), (3, .long z3), (5, .int z5)] [] zμ) (h : G4_likelihood_J73 p1 p2 p3 p5 p6 q0 μ K5 Q) : WX p l e (rmX dR) s m args below meth c φ tc D (AX φ) 8 0 0 (MQ below (QX φ tc D (QJ Q)) args s 0 0 (AX φ)) 73 [(0, .ref 168), (1, .int p1), (2, .int p2), (3, .long p3), (5, .int p5), (6, .ref p6)] [.int q0] μ := by
  unfold G4_likelihood_J73 at h
  refine x_istore C [(7, .int q0), (0, .ref 168), (1, .int p1), (2, .int p2), (3, .long p3), (5, .int p5), (6, .ref p6)] (Nat.le_of_ble_eq_true rfl) rfl dX4_likelihood_73 ?_
  refine x_lload_n C rfl 4 rfl dX4_likelihood_75 ?_
  refine x_aload C 6 rfl dX4_likelihood_76 ?_
  refine x_getIN C (j := 7) o_p6.1 o_p6.2 (Nat.le_of_ble_eq_true rfl) (Nat.le_of_ble_eq_true rfl) (Or.inr rfl) tw_1_75 dX4_likelihood_78 ?_
  refine x_if_eq (tgt := 90) C dX4_likelihood_81 (by decide) (fun c15 => ?_) (fun c15 => ?_)
  · have h := h.1 c15
    refine x_bipush (v := 100) C (by decide) dX4_likelihood_90 ?_
    refine x_iload C 0 rfl dX4_likelihood_92 ?_
    refine x_isub C dX4_likelihood_94 ?_
    refine x_i2l C dX4_likelihood_95 ?_
    refine x_sub [(0, .ref 168), (1, .int p1), (2, .int p2), (5, .int p5)] [1, 2, 3, 5] rfl ?_
    exact G4_likelihood_J96_ok C hd hr hK5 h
  · have h := h.2 c15
    refine x_iload C 0 rfl dX4_likelihood_84 ?_
    refine x_i2l C dX4_likelihood_86 ?_
    refine x_goto (tgt := 96) C dX4_likelihood_87 (by decide) ?_
    refine x_sub [(0, .ref 168), (1, .int p1), (2, .int p2), (5, .int p5)] [1, 2, 3, 5] rfl ?_
    exact G4_likelihood_J96_ok C hd hr hK5 h
set_option maxHeartbeats 4000000 in
set_option maxRecDepth 100000 in
theorem G4_likelihood_L5_b {p : Program} {e : Env} {s : State} {m : MethodId} {args : Array Value} {below : List Frame} {meth : Method} {c : Code} {l : Launch} {φ : Nat → Nat} {tc : Nat → ClassId} {D : va_G} {s0 : State} {dR : Nat} (C : CX p s m args meth c φ tc D (AX φ) s0 cX4_likelihood RX4 8) (hd : G4_likelihood_dep ≤ dR) (hr : meth.sig.returnType = (some .long))  {p1 : Int32} {p2 : Int32} {Q : Int64 → MM → Prop} {K5 : Int64 × Int32 × MM → Prop} {x : Int64 × Int32 × MM}   (hK5 : ∀ (z3 : Int64) (z5 : Int32) (zμ : MM), K5 (z3, z5, zμ) → WX p l e (rmX dR) s m args below meth c φ tc D (AX φ) 8 0 0 (MQ below (QX φ tc D (QJ Q)) args s 0 0 (AX φ)) 5 [(0, .ref 168), (1, .int p1), (2, .int p2), (3, .long z3), (5, .int z5)] [] zμ) (h : G4_likelihood_L5 p1 p2 Q K5 x) : WX p l e (rmX dR) s m args below meth c φ tc D (AX φ) 8 0 0 (MQ below (QX φ tc D (QJ Q)) args s 0 0 (AX φ)) 5 [(0, .ref 168), (1, .int p1), (2, .int p2), (3, .long x.1), (5, .int x.2.1)] [] x.2.2 := by
  unfold G4_likelihood_L5 at h
  refine x_iload C 4 rfl dX4_likelihood_5 ?_
  refine x_aload_n C rfl 0 rfl dX4_likelihood_7 ?_
  refine x_getR (r := 1) C (j := 0) ob168.1 ob168.2 (Nat.le_of_ble_eq_true rfl) (Nat.le_of_ble_eq_true rfl) (fun _ _ _ => rfl) r_168_0 tw_2_55 dX4_likelihood_8 ?_
  refine x_getIN C (j := 10) ob1.1 ob1.2 (Nat.le_of_ble_eq_true rfl) (Nat.le_of_ble_eq_true rfl) (Or.inl rfl) tw_1_149 dX4_likelihood_11 ?_
  refine x_icmp_ge (tgt := 104) C dX4_likelihood_14 (by decide) (fun c7 => ?_) (fun c7 => ?_)
  · have h := h.1 c7
    refine x_lload_n C rfl 3 rfl dX4_likelihood_104 ?_
    exact x_lret C hr dX4_likelihood_105 ⟨_, rfl, h⟩
  · have h := h.2 c7
    refine x_aload_n C rfl 0 rfl dX4_likelihood_17 ?_
    refine x_getR (r := 1) C (j := 0) ob168.1 ob168.2 (Nat.le_of_ble_eq_true rfl) (Nat.le_of_ble_eq_true rfl) (fun _ _ _ => rfl) r_168_0 tw_2_55 dX4_likelihood_18 ?_
    refine x_getRN (r := 9) C (j := 9) ob1.1 ob1.2 (Nat.le_of_ble_eq_true rfl) (Nat.le_of_ble_eq_true rfl) (fun _ _ _ => rfl) r_1_9 tw_1_144 dX4_likelihood_21 ?_
    refine x_iload C 4 rfl dX4_likelihood_24 ?_
    obtain ⟨c8, h⟩ := h
    refine x_aald (r := (19 + x.2.1.toNatClampNeg)) C ob9.1 (by decide) (by decide) c8 rfl (rA9 c8) dX4_likelihood_26 ?_
    refine x_astore C [(6, .ref (19 + x.2.1.toNatClampNeg)), (0, .ref 168), (1, .int p1), (2, .int p2), (3, .long x.1), (5, .int x.2.1)] (Nat.le_of_ble_eq_true rfl) rfl dX4_likelihood_27 ?_
    refine x_aload C 0 rfl dX4_likelihood_29 ?_
    refine x_getIN C (j := 0) (obA9 c8).1 (obA9 c8).2 (Nat.le_of_ble_eq_true rfl) (Nat.le_of_ble_eq_true rfl) (Or.inl rfl) tw_1_50 dX4_likelihood_31 ?_
    refine x_iload_n C rfl 2 rfl dX4_likelihood_34 ?_
    refine x_icmp_ne (tgt := 98) C dX4_likelihood_35 (by decide) (fun c9 => ?_) (fun c9 => ?_)
    · have h := h.1 c9
      refine x_iinc (v := (x.2.1 + 1)) C [(5, .int (x.2.1 + 1)), (6, .ref (19 + x.2.1.toNatClampNeg)), (0, .ref 168), (1, .int p1), (2, .int p2), (3, .long x.1)] 5 rfl (congrArg (fun z => x.2.1 + z) (by decide : Int32.ofInt (1) = 1)) (Nat.le_of_ble_eq_true rfl) rfl dX4_likelihood_98 ?_
      refine x_goto (tgt := 5) C dX4_likelihood_101 (by decide) ?_
      refine x_sub [(0, .ref 168), (1, .int p1), (2, .int p2), (3, .long x.1), (5, .int (x.2.1 + 1))] [2, 3, 4, 5, 0] rfl ?_
      exact hK5 _ _ _ h
    · have h := h.2 c9
      refine x_aload C 0 rfl dX4_likelihood_38 ?_
      refine x_getIN C (j := 6) (obA9 c8).1 (obA9 c8).2 (Nat.le_of_ble_eq_true rfl) (Nat.le_of_ble_eq_true rfl) (Or.inr rfl) tw_1_72 dX4_likelihood_40 ?_
      refine x_if_eq (tgt := 98) C dX4_likelihood_43 (by decide) (fun c10 => ?_) (fun c10 => ?_)
      · have h := h.1 c10
        refine x_iinc (v := (x.2.1 + 1)) C [(5, .int (x.2.1 + 1)), (6, .ref (19 + x.2.1.toNatClampNeg)), (0, .ref 168), (1, .int p1), (2, .int p2), (3, .long x.1)] 5 rfl (congrArg (fun z => x.2.1 + z) (by decide : Int32.ofInt (1) = 1)) (Nat.le_of_ble_eq_true rfl) rfl dX4_likelihood_98 ?_
        refine x_goto (tgt := 5) C dX4_likelihood_101 (by decide) ?_
        refine x_sub [(0, .ref 168), (1, .int p1), (2, .int p2), (3, .long x.1), (5, .int (x.2.1 + 1))] [2, 3, 4, 5, 0] rfl ?_
        exact hK5 _ _ _ h
      · have h := h.2 c10
        refine x_aload_n C rfl 1 rfl dX4_likelihood_46 ?_
        refine x_getR (r := 1) C (j := 0) ob168.1 ob168.2 (Nat.le_of_ble_eq_true rfl) (Nat.le_of_ble_eq_true rfl) (fun _ _ _ => rfl) r_168_0 tw_2_55 dX4_likelihood_47 ?_
        refine x_aload C 0 rfl dX4_likelihood_50 ?_
        refine x_callVN (dC := G10_peopleOf_dep) (as := [.ref (19 + x.2.1.toNatClampNeg)]) (st := []) C rX kX (Nat.le_trans (Nat.le_of_ble_eq_true rfl) hd) (Nat.le_of_ble_eq_true rfl) ob1.1 ob1.2 (Nat.le_of_ble_eq_true rfl) rfl ts_3_6 tw_4_40 tw_4_220 tc_4_41 tw_1_2 hyX10 hnX10_peopleOf rfl (Nat.le_of_ble_eq_true rfl) dX4_likelihood_52 (G10_peopleOf_met C.2.2.2.2.2.2.2.1 (Nat.le_refl _) (obA9 c8) h) (fun r0 μ11 hq => ?_)
        obtain ⟨r12, rfl, h⟩ := hq
        refine x_st [.int r12] rfl ?_
        refine x_if_ne (tgt := 67) C dX4_likelihood_55 (by decide) (fun c13 => ?_) (fun c13 => ?_)
        · have h := h.1 c13
          refine x_aload_n C rfl 1 rfl dX4_likelihood_67 ?_
          refine x_getR (r := 170) C (j := 3) ob168.1 ob168.2 (Nat.le_of_ble_eq_true rfl) (Nat.le_of_ble_eq_true rfl) (fun _ _ _ => rfl) r_168_3 tw_2_58 dX4_likelihood_68 ?_
          refine x_iload_n C rfl 3 rfl dX4_likelihood_71 ?_
          obtain ⟨c14, h⟩ := h
          refine x_iald C ob170.1 ob170.2 c14 rfl dX4_likelihood_72 ?_
          refine x_sub [(0, .ref 168), (1, .int p1), (2, .int p2), (3, .long x.1), (5, .int x.2.1), (6, .ref (19 + x.2.1.toNatClampNeg))] [1, 2, 3, 4, 5, 0] rfl ?_
          exact G4_likelihood_J73_ok C hd hr (obA9 c8) hK5 h
        · have h := h.2 c13
          refine x_aload_n C rfl 1 rfl dX4_likelihood_58 ?_
          refine x_getR (r := 169) C (j := 2) ob168.1 ob168.2 (Nat.le_of_ble_eq_true rfl) (Nat.le_of_ble_eq_true rfl) (fun _ _ _ => rfl) r_168_2 tw_2_57 dX4_likelihood_59 ?_
          refine x_iload_n C rfl 3 rfl dX4_likelihood_62 ?_
          obtain ⟨c17, h⟩ := h
          refine x_iald C ob169.1 ob169.2 c17 rfl dX4_likelihood_63 ?_
          refine x_goto (tgt := 73) C dX4_likelihood_64 (by decide) ?_
          refine x_sub [(0, .ref 168), (1, .int p1), (2, .int p2), (3, .long x.1), (5, .int x.2.1), (6, .ref (19 + x.2.1.toNatClampNeg))] [1, 2, 3, 4, 5, 0] rfl ?_
          exact G4_likelihood_J73_ok C hd hr (obA9 c8) hK5 h
theorem G4_likelihood_L5_ok {p : Program} {e : Env} {s : State} {m : MethodId} {args : Array Value} {below : List Frame} {meth : Method} {c : Code} {l : Launch} {φ : Nat → Nat} {tc : Nat → ClassId} {D : va_G} {s0 : State} {dR : Nat} (C : CX p s m args meth c φ tc D (AX φ) s0 cX4_likelihood RX4 8) (hd : G4_likelihood_dep ≤ dR) (hr : meth.sig.returnType = (some .long))  {p1 : Int32} {p2 : Int32} {Q : Int64 → MM → Prop}  {x : Int64 × Int32 × MM}    (h : Lp (G4_likelihood_L5 p1 p2 Q) x) : WX p l e (rmX dR) s m args below meth c φ tc D (AX φ) 8 0 0 (MQ below (QX φ tc D (QJ Q)) args s 0 0 (AX φ)) 5 [(0, .ref 168), (1, .int p1), (2, .int p2), (3, .long x.1), (5, .int x.2.1)] [] x.2.2 := by
  obtain ⟨n, h⟩ := h
  induction n generalizing x with
  | zero => exact h.elim
  | succ n ih => exact G4_likelihood_L5_b C hd hr   (fun z3 z5 zμ hz => by have q := ih hz; exact q) h
set_option maxHeartbeats 4000000 in
set_option maxRecDepth 100000 in
theorem G4_likelihood_met {l : Launch} {φ : Nat → Nat} {tc : Nat → ClassId} {D : va_G} {s0 : State} (hG : GX φ tc D s0) {dR : Nat} (hd : G4_likelihood_dep ≤ dR) {v1 : Int32} {v2 : Int32} {μ : MM} {Q : Int64 → MM → Prop}  (h : G4_likelihood v1 v2 μ Q) : MX l φ tc D s0 dR yX4_likelihood cX4_likelihood 8 (some .long) [.ref 168, .int v1, .int v2] μ (QJ Q) := by
  refine MX.of (own := RX4) hG plX4 rfl (Nat.le_of_ble_eq_true rfl) (fun p e s m args below meth c C hr => ?_)
  refine x_sub [(0, .ref 168), (1, .int v1), (2, .int v2)] [0, 1, 2] rfl ?_
  unfold G4_likelihood at h
  refine x_lconst (v := 1) C (by decide) dX4_likelihood_0 ?_
  refine x_lstore_n C [(3, .long 1), (0, .ref 168), (1, .int v1), (2, .int v2)] rfl (Nat.le_of_ble_eq_true rfl) rfl dX4_likelihood_1 ?_
  refine x_iconst (v := 0) C (by decide) dX4_likelihood_2 ?_
  refine x_istore C [(5, .int 0), (3, .long 1), (0, .ref 168), (1, .int v1), (2, .int v2)] (Nat.le_of_ble_eq_true rfl) rfl dX4_likelihood_3 ?_
  refine x_sub [(0, .ref 168), (1, .int v1), (2, .int v2), (3, .long 1), (5, .int 0)] [2, 3, 4, 1, 0] rfl ?_
  exact G4_likelihood_L5_ok C hd hr  h
set_option maxHeartbeats 4000000 in
set_option maxRecDepth 100000 in
theorem G4_sumOfLikely_L69_b {p : Program} {e : Env} {s : State} {m : MethodId} {args : Array Value} {below : List Frame} {meth : Method} {c : Code} {l : Launch} {φ : Nat → Nat} {tc : Nat → ClassId} {D : va_G} {s0 : State} {dR : Nat} (C : CX p s m args meth c φ tc D (AX φ) s0 cX4_sumOfLikely RX4 8) (hd : G4_sumOfLikely_dep ≤ dR) (hr : meth.sig.returnType = (some .int))  {p1 : Int32} {p2 : Int32} {p3 : Int64} {Q : Int32 → MM → Prop} {K69 : Int64 × Int32 × MM → Prop} {x : Int64 × Int32 × MM}   (hK69 : ∀ (z5 : Int64) (z7 : Int32) (zμ : MM), K69 (z5, z7, zμ) → WX p l e (rmX dR) s m args below meth c φ tc D (AX φ) 8 0 0 (MQ below (QX φ tc D (QI Q)) args s 0 0 (AX φ)) 69 [(0, .ref 168), (1, .int p1), (2, .int p2), (3, .long p3), (5, .long z5), (7, .int z7)] [] zμ) (h : G4_sumOfLikely_L69 p1 p2 p3 Q K69 x) : WX p l e (rmX dR) s m args below meth c φ tc D (AX φ) 8 0 0 (MQ below (QX φ tc D (QI Q)) args s 0 0 (AX φ)) 69 [(0, .ref 168), (1, .int p1), (2, .int p2), (3, .long p3), (5, .long x.1), (7, .int x.2.1)] [] x.2.2 := by
  unfold G4_sumOfLikely_L69 at h
  refine x_iload C 5 rfl dX4_sumOfLikely_69 ?_
  refine x_iconst (v := 4) C (by decide) dX4_sumOfLikely_71 ?_
  refine x_icmp_ge (tgt := 115) C dX4_sumOfLikely_72 (by decide) (fun c17 => ?_) (fun c17 => ?_)
  · have h := h.1 c17
    refine x_lload C 4 rfl dX4_sumOfLikely_115 ?_
    refine x_l2i C dX4_sumOfLikely_117 ?_
    exact x_iret C hr dX4_sumOfLikely_118 ⟨_, rfl, h⟩
  · have h := h.2 c17
    refine x_lload C 4 rfl dX4_sumOfLikely_75 ?_
    refine x_iload_n C rfl 2 rfl dX4_sumOfLikely_77 ?_
    refine x_iload C 5 rfl dX4_sumOfLikely_78 ?_
    refine x_ishr C dX4_sumOfLikely_80 ?_
    refine x_iconst (v := 1) C (by decide) dX4_sumOfLikely_81 ?_
    refine x_iand C dX4_sumOfLikely_82 ?_
    refine x_iconst (v := 1) C (by decide) dX4_sumOfLikely_83 ?_
    refine x_icmp_ne (tgt := 105) C dX4_sumOfLikely_84 (by decide) (fun c18 => ?_) (fun c18 => ?_)
    · have h := h.1 c18
      refine x_lconst (v := 0) C (by decide) dX4_sumOfLikely_105 ?_
      refine x_ladd C dX4_sumOfLikely_106 ?_
      refine x_topl (fun y19 e_y19 => ?_)
      have h := h y19 e_y19
      refine x_lstore C [(5, .long y19), (0, .ref 168), (1, .int p1), (2, .int p2), (3, .long p3), (7, .int x.2.1)] (Nat.le_of_ble_eq_true rfl) rfl dX4_sumOfLikely_107 ?_
      refine x_iinc (v := (x.2.1 + 1)) C [(7, .int (x.2.1 + 1)), (5, .long y19), (0, .ref 168), (1, .int p1), (2, .int p2), (3, .long p3)] 5 rfl (congrArg (fun z => x.2.1 + z) (by decide : Int32.ofInt (1) = 1)) (Nat.le_of_ble_eq_true rfl) rfl dX4_sumOfLikely_109 ?_
      refine x_goto (tgt := 69) C dX4_sumOfLikely_112 (by decide) ?_
      refine x_sub [(0, .ref 168), (1, .int p1), (2, .int p2), (3, .long p3), (5, .long y19), (7, .int (x.2.1 + 1))] [2, 3, 4, 5, 1, 0] rfl ?_
      exact hK69 _ _ _ h
    · have h := h.2 c18
      refine x_aload_n C rfl 0 rfl dX4_sumOfLikely_87 ?_
      refine x_getR (r := 172) C (j := 5) ob168.1 ob168.2 (Nat.le_of_ble_eq_true rfl) (Nat.le_of_ble_eq_true rfl) (fun _ _ _ => rfl) r_168_5 tw_2_60 dX4_sumOfLikely_88 ?_
      refine x_iload_n C rfl 1 rfl dX4_sumOfLikely_91 ?_
      obtain ⟨c20, h⟩ := h
      refine x_aald (r := (173 + p1.toNatClampNeg)) C ob172.1 (by decide) (by decide) c20 rfl (rA172 c20) dX4_sumOfLikely_92 ?_
      refine x_iload C 5 rfl dX4_sumOfLikely_93 ?_
      obtain ⟨c21, h⟩ := h
      refine x_lald C (obA172 c20).1 (obA172 c20).2 (by rw [lnA172 c20]; exact c21) rfl dX4_sumOfLikely_95 ?_
      refine x_ldc2 (v := 1000000) C tw_5_14 dX4_sumOfLikely_96 ?_
      refine x_lmul C dX4_sumOfLikely_99 ?_
      refine x_lload_n C rfl 3 rfl dX4_sumOfLikely_100 ?_
      obtain ⟨c22, h⟩ := h
      refine x_ldiv C c22 dX4_sumOfLikely_101 ?_
      refine x_goto (tgt := 106) C dX4_sumOfLikely_102 (by decide) ?_
      refine x_ladd C dX4_sumOfLikely_106 ?_
      refine x_topl (fun y23 e_y23 => ?_)
      have h := h y23 e_y23
      refine x_lstore C [(5, .long y23), (0, .ref 168), (1, .int p1), (2, .int p2), (3, .long p3), (7, .int x.2.1)] (Nat.le_of_ble_eq_true rfl) rfl dX4_sumOfLikely_107 ?_
      refine x_iinc (v := (x.2.1 + 1)) C [(7, .int (x.2.1 + 1)), (5, .long y23), (0, .ref 168), (1, .int p1), (2, .int p2), (3, .long p3)] 5 rfl (congrArg (fun z => x.2.1 + z) (by decide : Int32.ofInt (1) = 1)) (Nat.le_of_ble_eq_true rfl) rfl dX4_sumOfLikely_109 ?_
      refine x_goto (tgt := 69) C dX4_sumOfLikely_112 (by decide) ?_
      refine x_sub [(0, .ref 168), (1, .int p1), (2, .int p2), (3, .long p3), (5, .long y23), (7, .int (x.2.1 + 1))] [2, 3, 4, 5, 1, 0] rfl ?_
      exact hK69 _ _ _ h
theorem G4_sumOfLikely_L69_ok {p : Program} {e : Env} {s : State} {m : MethodId} {args : Array Value} {below : List Frame} {meth : Method} {c : Code} {l : Launch} {φ : Nat → Nat} {tc : Nat → ClassId} {D : va_G} {s0 : State} {dR : Nat} (C : CX p s m args meth c φ tc D (AX φ) s0 cX4_sumOfLikely RX4 8) (hd : G4_sumOfLikely_dep ≤ dR) (hr : meth.sig.returnType = (some .int))  {p1 : Int32} {p2 : Int32} {p3 : Int64} {Q : Int32 → MM → Prop}  {x : Int64 × Int32 × MM}    (h : Lp (G4_sumOfLikely_L69 p1 p2 p3 Q) x) : WX p l e (rmX dR) s m args below meth c φ tc D (AX φ) 8 0 0 (MQ below (QX φ tc D (QI Q)) args s 0 0 (AX φ)) 69 [(0, .ref 168), (1, .int p1), (2, .int p2), (3, .long p3), (5, .long x.1), (7, .int x.2.1)] [] x.2.2 := by
  obtain ⟨n, h⟩ := h
  induction n generalizing x with
  | zero => exact h.elim
  | succ n ih => exact G4_sumOfLikely_L69_b C hd hr   (fun z5 z7 zμ hz => by have q := ih hz; exact q) h
set_option maxHeartbeats 4000000 in
set_option maxRecDepth 100000 in
theorem G4_sumOfLikely_L5_b {p : Program} {e : Env} {s : State} {m : MethodId} {args : Array Value} {below : List Frame} {meth : Method} {c : Code} {l : Launch} {φ : Nat → Nat} {tc : Nat → ClassId} {D : va_G} {s0 : State} {dR : Nat} (C : CX p s m args meth c φ tc D (AX φ) s0 cX4_sumOfLikely RX4 8) (hd : G4_sumOfLikely_dep ≤ dR) (hr : meth.sig.returnType = (some .int))  {p1 : Int32} {p2 : Int32} {Q : Int32 → MM → Prop} {K5 : Int64 × Int32 × MM → Prop} {x : Int64 × Int32 × MM}   (hK5 : ∀ (z3 : Int64) (z5 : Int32) (zμ : MM), K5 (z3, z5, zμ) → WX p l e (rmX dR) s m args below meth c φ tc D (AX φ) 8 0 0 (MQ below (QX φ tc D (QI Q)) args s 0 0 (AX φ)) 5 [(0, .ref 168), (1, .int p1), (2, .int p2), (3, .long z3), (5, .int z5)] [] zμ) (h : G4_sumOfLikely_L5 p1 p2 Q K5 x) : WX p l e (rmX dR) s m args below meth c φ tc D (AX φ) 8 0 0 (MQ below (QX φ tc D (QI Q)) args s 0 0 (AX φ)) 5 [(0, .ref 168), (1, .int p1), (2, .int p2), (3, .long x.1), (5, .int x.2.1)] [] x.2.2 := by
  unfold G4_sumOfLikely_L5 at h
  refine x_iload C 4 rfl dX4_sumOfLikely_5 ?_
  refine x_iconst (v := 4) C (by decide) dX4_sumOfLikely_7 ?_
  refine x_icmp_ge (tgt := 54) C dX4_sumOfLikely_8 (by decide) (fun c15 => ?_) (fun c15 => ?_)
  · have h := h.1 c15
    refine x_lload_n C rfl 3 rfl dX4_sumOfLikely_54 ?_
    refine x_lconst (v := 0) C (by decide) dX4_sumOfLikely_55 ?_
    refine x_lcmp C dX4_sumOfLikely_56 ?_
    refine x_if_ne (tgt := 63) C dX4_sumOfLikely_57 (by decide) (fun c16 => ?_) (fun c16 => ?_)
    · have h := h.1 c16
      refine x_lconst (v := 0) C (by decide) dX4_sumOfLikely_63 ?_
      refine x_lstore C [(5, .long 0), (0, .ref 168), (1, .int p1), (2, .int p2), (3, .long x.1)] (Nat.le_of_ble_eq_true rfl) rfl dX4_sumOfLikely_64 ?_
      refine x_iconst (v := 0) C (by decide) dX4_sumOfLikely_66 ?_
      refine x_istore C [(7, .int 0), (5, .long 0), (0, .ref 168), (1, .int p1), (2, .int p2), (3, .long x.1)] (Nat.le_of_ble_eq_true rfl) rfl dX4_sumOfLikely_67 ?_
      refine x_sub [(0, .ref 168), (1, .int p1), (2, .int p2), (3, .long x.1), (5, .long 0), (7, .int 0)] [2, 3, 4, 5, 1, 0] rfl ?_
      exact G4_sumOfLikely_L69_ok C hd hr  h
    · have h := h.2 c16
      refine x_bipush (v := (-2)) C (by decide) dX4_sumOfLikely_60 ?_
      exact x_iret C hr dX4_sumOfLikely_62 ⟨_, rfl, h⟩
  · have h := h.2 c15
    refine x_aload_n C rfl 0 rfl dX4_sumOfLikely_11 ?_
    refine x_getR (r := 172) C (j := 5) ob168.1 ob168.2 (Nat.le_of_ble_eq_true rfl) (Nat.le_of_ble_eq_true rfl) (fun _ _ _ => rfl) r_168_5 tw_2_60 dX4_sumOfLikely_12 ?_
    refine x_iload_n C rfl 1 rfl dX4_sumOfLikely_15 ?_
    obtain ⟨c24, h⟩ := h
    refine x_aald (r := (173 + p1.toNatClampNeg)) C ob172.1 (by decide) (by decide) c24 rfl (rA172 c24) dX4_sumOfLikely_16 ?_
    refine x_iload C 4 rfl dX4_sumOfLikely_17 ?_
    refine x_aload_n C rfl 0 rfl dX4_sumOfLikely_19 ?_
    refine x_getR (r := 171) C (j := 4) ob168.1 ob168.2 (Nat.le_of_ble_eq_true rfl) (Nat.le_of_ble_eq_true rfl) (fun _ _ _ => rfl) r_168_4 tw_2_59 dX4_sumOfLikely_20 ?_
    refine x_iload C 4 rfl dX4_sumOfLikely_23 ?_
    obtain ⟨c25, h⟩ := h
    refine x_iald C ob171.1 ob171.2 c25 rfl dX4_sumOfLikely_25 ?_
    refine x_i2l C dX4_sumOfLikely_26 ?_
    refine x_aload_n C rfl 0 rfl dX4_sumOfLikely_27 ?_
    refine x_iload_n C rfl 1 rfl dX4_sumOfLikely_28 ?_
    refine x_iload C 4 rfl dX4_sumOfLikely_29 ?_
    refine x_callV (dC := G4_likelihood_dep) (as := [.int p1, .int x.2.1]) (st := [.long ((gI x.2.2 171 x.2.1.toNatClampNeg).toInt64), .int x.2.1, .ref (173 + p1.toNatClampNeg)]) C rX kX (Nat.le_trans (Nat.le_of_ble_eq_true rfl) hd) (Nat.le_of_ble_eq_true rfl) ob168.1 ob168.2 (Nat.le_of_ble_eq_true rfl) rfl ts_5_8 tw_5_12 tw_5_10 tc_5_13 tw_1_8 hyX4 hnX4_likelihood rfl (Nat.le_of_ble_eq_true rfl) dX4_sumOfLikely_31 (G4_likelihood_met C.2.2.2.2.2.2.2.1 (Nat.le_refl _)  h) (fun r0 μ26 hq => ?_)
    obtain ⟨r27, rfl, h⟩ := hq
    refine x_st [.long r27, .long ((gI x.2.2 171 x.2.1.toNatClampNeg).toInt64), .int x.2.1, .ref (173 + p1.toNatClampNeg)] rfl ?_
    refine x_lmul C dX4_sumOfLikely_34 ?_
    obtain ⟨c28, h⟩ := h
    refine x_last C (obA172 c24).1 (obA172 c24).2 (by rw [lnA172 c24]; exact c28) rfl dX4_sumOfLikely_35 ?_
    refine x_mu (fun μ29 e_μ29 => ?_)
    have h := h μ29 e_μ29
    refine x_lload_n C rfl 3 rfl dX4_sumOfLikely_36 ?_
    refine x_aload_n C rfl 0 rfl dX4_sumOfLikely_37 ?_
    refine x_getR (r := 172) C (j := 5) ob168.1 ob168.2 (Nat.le_of_ble_eq_true rfl) (Nat.le_of_ble_eq_true rfl) (fun _ _ _ => rfl) r_168_5 tw_2_60 dX4_sumOfLikely_38 ?_
    refine x_iload_n C rfl 1 rfl dX4_sumOfLikely_41 ?_
    obtain ⟨c30, h⟩ := h
    refine x_aald (r := (173 + p1.toNatClampNeg)) C ob172.1 (by decide) (by decide) c30 rfl (rA172 c30) dX4_sumOfLikely_42 ?_
    refine x_iload C 4 rfl dX4_sumOfLikely_43 ?_
    obtain ⟨c31, h⟩ := h
    refine x_lald C (obA172 c30).1 (obA172 c30).2 (by rw [lnA172 c30]; exact c31) rfl dX4_sumOfLikely_45 ?_
    refine x_ladd C dX4_sumOfLikely_46 ?_
    refine x_topl (fun y32 e_y32 => ?_)
    have h := h y32 e_y32
    refine x_lstore_n C [(3, .long y32), (0, .ref 168), (1, .int p1), (2, .int p2), (5, .int x.2.1)] rfl (Nat.le_of_ble_eq_true rfl) rfl dX4_sumOfLikely_47 ?_
    refine x_iinc (v := (x.2.1 + 1)) C [(5, .int (x.2.1 + 1)), (3, .long y32), (0, .ref 168), (1, .int p1), (2, .int p2)] 4 rfl (congrArg (fun z => x.2.1 + z) (by decide : Int32.ofInt (1) = 1)) (Nat.le_of_ble_eq_true rfl) rfl dX4_sumOfLikely_48 ?_
    refine x_goto (tgt := 5) C dX4_sumOfLikely_51 (by decide) ?_
    refine x_sub [(0, .ref 168), (1, .int p1), (2, .int p2), (3, .long y32), (5, .int (x.2.1 + 1))] [2, 3, 4, 1, 0] rfl ?_
    exact hK5 _ _ _ h
theorem G4_sumOfLikely_L5_ok {p : Program} {e : Env} {s : State} {m : MethodId} {args : Array Value} {below : List Frame} {meth : Method} {c : Code} {l : Launch} {φ : Nat → Nat} {tc : Nat → ClassId} {D : va_G} {s0 : State} {dR : Nat} (C : CX p s m args meth c φ tc D (AX φ) s0 cX4_sumOfLikely RX4 8) (hd : G4_sumOfLikely_dep ≤ dR) (hr : meth.sig.returnType = (some .int))  {p1 : Int32} {p2 : Int32} {Q : Int32 → MM → Prop}  {x : Int64 × Int32 × MM}    (h : Lp (G4_sumOfLikely_L5 p1 p2 Q) x) : WX p l e (rmX dR) s m args below meth c φ tc D (AX φ) 8 0 0 (MQ below (QX φ tc D (QI Q)) args s 0 0 (AX φ)) 5 [(0, .ref 168), (1, .int p1), (2, .int p2), (3, .long x.1), (5, .int x.2.1)] [] x.2.2 := by
  obtain ⟨n, h⟩ := h
  induction n generalizing x with
  | zero => exact h.elim
  | succ n ih => exact G4_sumOfLikely_L5_b C hd hr   (fun z3 z5 zμ hz => by have q := ih hz; exact q) h
set_option maxHeartbeats 4000000 in
set_option maxRecDepth 100000 in
theorem G4_sumOfLikely_met {l : Launch} {φ : Nat → Nat} {tc : Nat → ClassId} {D : va_G} {s0 : State} (hG : GX φ tc D s0) {dR : Nat} (hd : G4_sumOfLikely_dep ≤ dR) {v1 : Int32} {v2 : Int32} {μ : MM} {Q : Int32 → MM → Prop}  (h : G4_sumOfLikely v1 v2 μ Q) : MX l φ tc D s0 dR yX4_sumOfLikely cX4_sumOfLikely 8 (some .int) [.ref 168, .int v1, .int v2] μ (QI Q) := by
  refine MX.of (own := RX4) hG plX4 rfl (Nat.le_of_ble_eq_true rfl) (fun p e s m args below meth c C hr => ?_)
  refine x_sub [(0, .ref 168), (1, .int v1), (2, .int v2)] [0, 1, 2] rfl ?_
  unfold G4_sumOfLikely at h
  refine x_lconst (v := 0) C (by decide) dX4_sumOfLikely_0 ?_
  refine x_lstore_n C [(3, .long 0), (0, .ref 168), (1, .int v1), (2, .int v2)] rfl (Nat.le_of_ble_eq_true rfl) rfl dX4_sumOfLikely_1 ?_
  refine x_iconst (v := 0) C (by decide) dX4_sumOfLikely_2 ?_
  refine x_istore C [(5, .int 0), (3, .long 0), (0, .ref 168), (1, .int v1), (2, .int v2)] (Nat.le_of_ble_eq_true rfl) rfl dX4_sumOfLikely_3 ?_
  refine x_sub [(0, .ref 168), (1, .int v1), (2, .int v2), (3, .long 0), (5, .int 0)] [2, 3, 4, 1, 0] rfl ?_
  exact G4_sumOfLikely_L5_ok C hd hr  h
set_option maxHeartbeats 4000000 in
set_option maxRecDepth 100000 in
theorem G4_howLikely_J25_ok {p : Program} {e : Env} {s : State} {m : MethodId} {args : Array Value} {below : List Frame} {meth : Method} {c : Code} {l : Launch} {φ : Nat → Nat} {tc : Nat → ClassId} {D : va_G} {s0 : State} {dR : Nat} (C : CX p s m args meth c φ tc D (AX φ) s0 cX4_howLikely RX4 4) (hd : G4_howLikely_dep ≤ dR) (hr : meth.sig.returnType = (some .int))   {p1 : Int32} {p2 : Int32} {q0 : Int32} {Q : Int32 → MM → Prop}  {μ : MM}    (h : G4_howLikely_J25 p1 p2 q0 μ Q) : WX p l e (rmX dR) s m args below meth c φ tc D (AX φ) 4 0 0 (MQ below (QX φ tc D (QI Q)) args s 0 0 (AX φ)) 25 [(0, .ref 168), (1, .int p1), (2, .int p2)] [.int q0] μ := by
  unfold G4_howLikely_J25 at h
  refine x_istore_n C [(3, .int q0), (0, .ref 168), (1, .int p1), (2, .int p2)] rfl (Nat.le_of_ble_eq_true rfl) rfl dX4_howLikely_25 ?_
  refine x_iload_n C rfl 0 rfl dX4_howLikely_26 ?_
  refine x_if_eq (tgt := 41) C dX4_howLikely_27 (by decide) (fun c10 => ?_) (fun c10 => ?_)
  · have h := h.1 c10
    refine x_iconst (v := (-1)) C (by decide) dX4_howLikely_41 ?_
    exact x_iret C hr dX4_howLikely_42 ⟨_, rfl, h⟩
  · have h := h.2 c10
    refine x_aload_n C rfl 1 rfl dX4_howLikely_30 ?_
    refine x_iload_n C rfl 2 rfl dX4_howLikely_31 ?_
    refine x_iconst (v := 1) C (by decide) dX4_howLikely_32 ?_
    refine x_iload_n C rfl 3 rfl dX4_howLikely_33 ?_
    refine x_ishl C dX4_howLikely_34 ?_
    refine x_callV (dC := G4_sumOfLikely_dep) (as := [.int p1, .int (1 <<< (p2 &&& 31))]) (st := []) C rX kX (Nat.le_trans (Nat.le_of_ble_eq_true rfl) hd) (Nat.le_of_ble_eq_true rfl) ob168.1 ob168.2 (Nat.le_of_ble_eq_true rfl) rfl ts_5_7 tw_5_8 tw_5_6 tc_5_9 tw_1_8 hyX4 hnX4_sumOfLikely rfl (Nat.le_of_ble_eq_true rfl) dX4_howLikely_35 (G4_sumOfLikely_met C.2.2.2.2.2.2.2.1 (Nat.le_refl _)  h) (fun r0 μ11 hq => ?_)
    obtain ⟨r12, rfl, h⟩ := hq
    refine x_st [.int r12] rfl ?_
    refine x_goto (tgt := 42) C dX4_howLikely_38 (by decide) ?_
    exact x_iret C hr dX4_howLikely_42 ⟨_, rfl, h⟩
set_option maxHeartbeats 4000000 in
set_option maxRecDepth 100000 in
theorem G4_howLikely_J24_ok {p : Program} {e : Env} {s : State} {m : MethodId} {args : Array Value} {below : List Frame} {meth : Method} {c : Code} {l : Launch} {φ : Nat → Nat} {tc : Nat → ClassId} {D : va_G} {s0 : State} {dR : Nat} (C : CX p s m args meth c φ tc D (AX φ) s0 cX4_howLikely RX4 4) (hd : G4_howLikely_dep ≤ dR) (hr : meth.sig.returnType = (some .int))   {p1 : Int32} {p2 : Int32} {Q : Int32 → MM → Prop}  {μ : MM}    (h : G4_howLikely_J24 p1 p2 μ Q) : WX p l e (rmX dR) s m args below meth c φ tc D (AX φ) 4 0 0 (MQ below (QX φ tc D (QI Q)) args s 0 0 (AX φ)) 24 [(0, .ref 168), (1, .int p1), (2, .int p2)] [] μ := by
  unfold G4_howLikely_J24 at h
  refine x_iconst (v := 0) C (by decide) dX4_howLikely_24 ?_
  exact G4_howLikely_J25_ok C hd hr  h
set_option maxHeartbeats 4000000 in
set_option maxRecDepth 100000 in
theorem G4_howLikely_met {l : Launch} {φ : Nat → Nat} {tc : Nat → ClassId} {D : va_G} {s0 : State} (hG : GX φ tc D s0) {dR : Nat} (hd : G4_howLikely_dep ≤ dR) {v1 : Int32} {v2 : Int32} {μ : MM} {Q : Int32 → MM → Prop}  (h : G4_howLikely v1 v2 μ Q) : MX l φ tc D s0 dR yX4_howLikely cX4_howLikely 4 (some .int) [.ref 168, .int v1, .int v2] μ (QI Q) := by
  refine MX.of (own := RX4) hG plX4 rfl (Nat.le_of_ble_eq_true rfl) (fun p e s m args below meth c C hr => ?_)
  refine x_sub [(0, .ref 168), (1, .int v1), (2, .int v2)] [0, 1, 2] rfl ?_
  unfold G4_howLikely at h
  refine x_aload_n C rfl 0 rfl dX4_howLikely_0 ?_
  refine x_getR (r := 1) C (j := 0) ob168.1 ob168.2 (Nat.le_of_ble_eq_true rfl) (Nat.le_of_ble_eq_true rfl) (fun _ _ _ => rfl) r_168_0 tw_2_55 dX4_howLikely_1 ?_
  refine x_iload_n C rfl 1 rfl dX4_howLikely_4 ?_
  refine x_callVN (dC := G10_isHouse_dep) (as := [.int v1]) (st := []) C rX kX (Nat.le_trans (Nat.le_of_ble_eq_true rfl) hd) (Nat.le_of_ble_eq_true rfl) ob1.1 ob1.2 (Nat.le_of_ble_eq_true rfl) rfl ts_1_2 tw_2_216 tw_5_5 tc_2_217 tw_1_2 hyX10 hnX10_isHouse rfl (Nat.le_of_ble_eq_true rfl) dX4_howLikely_5 (G10_isHouse_met C.2.2.2.2.2.2.2.1 (Nat.le_refl _)  h) (fun r0 μ7 hq => ?_)
  obtain ⟨r8, rfl, h⟩ := hq
  refine x_st [.int r8] rfl ?_
  refine x_if_eq (tgt := 24) C dX4_howLikely_8 (by decide) (fun c9 => ?_) (fun c9 => ?_)
  · have h := h.1 c9
    exact G4_howLikely_J24_ok C hd hr  h
  · have h := h.2 c9
    refine x_iload_n C rfl 2 rfl dX4_howLikely_11 ?_
    refine x_iconst (v := 0) C (by decide) dX4_howLikely_12 ?_
    refine x_iconst (v := 3) C (by decide) dX4_howLikely_13 ?_
    refine x_callSN (dC := G11_within_dep) (as := [.int v2, .int 0, .int 3]) (st := []) C rX kX (Nat.le_trans (Nat.le_of_ble_eq_true rfl) hd) (Nat.le_of_ble_eq_true rfl) tw_2_196 tw_4_211 tc_2_197 tw_1_1 hyX11 hnX11_within rfl (Nat.le_of_ble_eq_true rfl) dX4_howLikely_14 (G11_within_met C.2.2.2.2.2.2.2.1 (Nat.le_refl _)  h) (fun r0 μ13 hq => ?_)
    obtain ⟨r14, rfl, h⟩ := hq
    refine x_st [.int r14] rfl ?_
    refine x_if_eq (tgt := 24) C dX4_howLikely_17 (by decide) (fun c15 => ?_) (fun c15 => ?_)
    · have h := h.1 c15
      exact G4_howLikely_J24_ok C hd hr  h
    · have h := h.2 c15
      refine x_iconst (v := 1) C (by decide) dX4_howLikely_20 ?_
      refine x_goto (tgt := 25) C dX4_howLikely_21 (by decide) ?_
      exact G4_howLikely_J25_ok C hd hr  h
set_option maxHeartbeats 4000000 in
set_option maxRecDepth 100000 in
theorem G11_likely_met {l : Launch} {φ : Nat → Nat} {tc : Nat → ClassId} {D : va_G} {s0 : State} (hG : GX φ tc D s0) {dR : Nat} (hd : G11_likely_dep ≤ dR) {v1 : Int32} {v2 : Int32} {μ : MM} {Q : Int32 → MM → Prop}  (h : G11_likely v1 v2 μ Q) : MX l φ tc D s0 dR yX11_likely cX11_likely 3 (some .int) [.ref 0, .int v1, .int v2] μ (QI Q) := by
  refine MX.of (own := RX11) hG plX11 rfl (Nat.le_of_ble_eq_true rfl) (fun p e s m args below meth c C hr => ?_)
  refine x_sub [(0, .ref 0), (1, .int v1), (2, .int v2)] [0, 1, 2] rfl ?_
  unfold G11_likely at h
  refine x_aload_n C rfl 0 rfl dX11_likely_0 ?_
  refine x_getR (r := 168) C (j := 3) ob0.1 ob0.2 (Nat.le_of_ble_eq_true rfl) (Nat.le_of_ble_eq_true rfl) (fun _ _ _ => rfl) r_0_3 tw_2_166 dX11_likely_1 ?_
  refine x_iload_n C rfl 1 rfl dX11_likely_4 ?_
  refine x_iload_n C rfl 2 rfl dX11_likely_5 ?_
  refine x_callVN (dC := G4_howLikely_dep) (as := [.int v1, .int v2]) (st := []) C rX kX (Nat.le_trans (Nat.le_of_ble_eq_true rfl) hd) (Nat.le_of_ble_eq_true rfl) ob168.1 ob168.2 (Nat.le_of_ble_eq_true rfl) rfl ts_5_6 tw_5_3 tw_5_1 tc_5_4 tw_1_8 hyX4 hnX4_howLikely rfl (Nat.le_of_ble_eq_true rfl) dX11_likely_6 (G4_howLikely_met C.2.2.2.2.2.2.2.1 (Nat.le_refl _)  h) (fun r0 μ3 hq => ?_)
  obtain ⟨r4, rfl, h⟩ := hq
  refine x_st [.int r4] rfl ?_
  exact x_iret C hr dX11_likely_9 ⟨_, rfl, h⟩
set_option maxHeartbeats 4000000 in
set_option maxRecDepth 100000 in
theorem G0_stretch_L5_b {p : Program} {e : Env} {s : State} {m : MethodId} {args : Array Value} {below : List Frame} {meth : Method} {c : Code} {l : Launch} {φ : Nat → Nat} {tc : Nat → ClassId} {D : va_G} {s0 : State} {dR : Nat} (C : CX p s m args meth c φ tc D (AX φ) s0 cX0_stretch RX0 3) (hd : G0_stretch_dep ≤ dR) (hr : meth.sig.returnType = none) {t : Nat} {p1 : Int32} {Q : MM → Prop} {K5 : Int32 × MM → Prop} {x : Int32 × MM} (o_t : Ob t 0)  (hK5 : ∀ (z2 : Int32) (zμ : MM), K5 (z2, zμ) → WX p l e (rmX dR) s m args below meth c φ tc D (AX φ) 3 0 0 (MQ below (QX φ tc D (QV Q)) args s 0 0 (AX φ)) 5 [(0, .ref t), (1, .int p1), (2, .int z2)] [] zμ) (h : G0_stretch_L5 t p1 Q K5 x) : WX p l e (rmX dR) s m args below meth c φ tc D (AX φ) 3 0 0 (MQ below (QX φ tc D (QV Q)) args s 0 0 (AX φ)) 5 [(0, .ref t), (1, .int p1), (2, .int x.1)] [] x.2 := by
  unfold G0_stretch_L5 at h
  refine x_iload_n C rfl 2 rfl dX0_stretch_5 ?_
  refine x_iload_n C rfl 1 rfl dX0_stretch_6 ?_
  refine x_icmp_ge (tgt := 39) C dX0_stretch_7 (by decide) (fun c6 => ?_) (fun c6 => ?_)
  · have h := h.1 c6
    exact x_vret C hr dX0_stretch_39 ⟨rfl, h⟩
  · have h := h.2 c6
    refine x_iload_n C rfl 2 rfl dX0_stretch_10 ?_
    refine x_aload_n C rfl 0 rfl dX0_stretch_11 ?_
    refine x_getR (r := (t + 1)) C (j := 0) o_t.1 o_t.2 (Nat.le_of_ble_eq_true rfl) (Nat.le_of_ble_eq_true rfl) (fun _ _ _ => rfl) (rF0_0 o_t) tw_2_48 dX0_stretch_12 ?_
    refine x_alen C (obF0_0 o_t).1 (by rw [(obF0_0 o_t).2]; decide) rfl (by rw [(obF0_0 o_t).2]; decide) dX0_stretch_15 ?_
    refine x_icmp_ge (tgt := 39) C dX0_stretch_16 (by decide) (fun c7 => ?_) (fun c7 => ?_)
    · have h := h.1 c7
      exact x_vret C hr dX0_stretch_39 ⟨rfl, h⟩
    · have h := h.2 c7
      refine x_aload_n C rfl 0 rfl dX0_stretch_19 ?_
      refine x_getR (r := (t + 1)) C (j := 0) o_t.1 o_t.2 (Nat.le_of_ble_eq_true rfl) (Nat.le_of_ble_eq_true rfl) (fun _ _ _ => rfl) (rF0_0 o_t) tw_2_48 dX0_stretch_20 ?_
      refine x_iload_n C rfl 2 rfl dX0_stretch_23 ?_
      refine x_lconst (v := 0) C (by decide) dX0_stretch_24 ?_
      obtain ⟨c8, h⟩ := h
      refine x_last C (obF0_0 o_t).1 (obF0_0 o_t).2 c8 rfl dX0_stretch_25 ?_
      refine x_mu (fun μ9 e_μ9 => ?_)
      have h := h μ9 e_μ9
      refine x_aload_n C rfl 0 rfl dX0_stretch_26 ?_
      refine x_iload_n C rfl 2 rfl dX0_stretch_27 ?_
      refine x_iconst (v := 1) C (by decide) dX0_stretch_28 ?_
      refine x_iadd C dX0_stretch_29 ?_
      refine x_putI C (j := 1) o_t.1 o_t.2 (Nat.le_of_ble_eq_true rfl) (Nat.le_of_ble_eq_true rfl) (Or.inl rfl) rfl rfl rfl tw_2_49 dX0_stretch_30 ?_
      refine x_mu (fun μ10 e_μ10 => ?_)
      have h := h μ10 e_μ10
      refine x_iinc (v := (x.1 + 1)) C [(2, .int (x.1 + 1)), (0, .ref t), (1, .int p1)] 2 rfl (congrArg (fun z => x.1 + z) (by decide : Int32.ofInt (1) = 1)) (Nat.le_of_ble_eq_true rfl) rfl dX0_stretch_33 ?_
      refine x_goto (tgt := 5) C dX0_stretch_36 (by decide) ?_
      refine x_sub [(0, .ref t), (1, .int p1), (2, .int (x.1 + 1))] [1, 2, 0] rfl ?_
      exact hK5 _ _ h
theorem G0_stretch_L5_ok {p : Program} {e : Env} {s : State} {m : MethodId} {args : Array Value} {below : List Frame} {meth : Method} {c : Code} {l : Launch} {φ : Nat → Nat} {tc : Nat → ClassId} {D : va_G} {s0 : State} {dR : Nat} (C : CX p s m args meth c φ tc D (AX φ) s0 cX0_stretch RX0 3) (hd : G0_stretch_dep ≤ dR) (hr : meth.sig.returnType = none) {t : Nat} {p1 : Int32} {Q : MM → Prop}  {x : Int32 × MM} (o_t : Ob t 0)   (h : Lp (G0_stretch_L5 t p1 Q) x) : WX p l e (rmX dR) s m args below meth c φ tc D (AX φ) 3 0 0 (MQ below (QX φ tc D (QV Q)) args s 0 0 (AX φ)) 5 [(0, .ref t), (1, .int p1), (2, .int x.1)] [] x.2 := by
  obtain ⟨n, h⟩ := h
  induction n generalizing x with
  | zero => exact h.elim
  | succ n ih => exact G0_stretch_L5_b C hd hr o_t  (fun z2 zμ hz => by have q := ih hz; exact q) h
set_option maxHeartbeats 4000000 in
set_option maxRecDepth 100000 in
theorem G0_stretch_met {l : Launch} {φ : Nat → Nat} {tc : Nat → ClassId} {D : va_G} {s0 : State} (hG : GX φ tc D s0) {dR : Nat} (hd : G0_stretch_dep ≤ dR) {t : Nat} {v1 : Int32} {μ : MM} {Q : MM → Prop} (o_t : Ob t 0) (h : G0_stretch t v1 μ Q) : MX l φ tc D s0 dR yX0_stretch cX0_stretch 3 none [.ref t, .int v1] μ (QV Q) := by
  refine MX.of (own := RX0) hG plX0 rfl (Nat.le_of_ble_eq_true rfl) (fun p e s m args below meth c C hr => ?_)
  refine x_sub [(0, .ref t), (1, .int v1)] [0, 1] rfl ?_
  unfold G0_stretch at h
  refine x_aload_n C rfl 0 rfl dX0_stretch_0 ?_
  refine x_getI C (j := 1) o_t.1 o_t.2 (Nat.le_of_ble_eq_true rfl) (Nat.le_of_ble_eq_true rfl) (Or.inl rfl) tw_2_49 dX0_stretch_1 ?_
  refine x_topi (fun y5 e_y5 => ?_)
  have h := h y5 e_y5
  refine x_istore_n C [(2, .int y5), (0, .ref t), (1, .int v1)] rfl (Nat.le_of_ble_eq_true rfl) rfl dX0_stretch_4 ?_
  refine x_sub [(0, .ref t), (1, .int v1), (2, .int y5)] [1, 2, 0] rfl ?_
  exact G0_stretch_L5_ok C hd hr o_t h
set_option maxHeartbeats 4000000 in
set_option maxRecDepth 100000 in
theorem G0_carry_L54_b {p : Program} {e : Env} {s : State} {m : MethodId} {args : Array Value} {below : List Frame} {meth : Method} {c : Code} {l : Launch} {φ : Nat → Nat} {tc : Nat → ClassId} {D : va_G} {s0 : State} {dR : Nat} (C : CX p s m args meth c φ tc D (AX φ) s0 cX0_carry RX0 4) (hd : G0_carry_dep ≤ dR) (hr : meth.sig.returnType = none) {t : Nat}  {Q : MM → Prop} {K54 : MM → Prop} {x : MM} (o_t : Ob t 0)  (hK54 : ∀ (zμ : MM), K54 zμ → WX p l e (rmX dR) s m args below meth c φ tc D (AX φ) 4 0 0 (MQ below (QX φ tc D (QV Q)) args s 0 0 (AX φ)) 54 [(0, .ref t)] [] zμ) (h : G0_carry_L54 t Q K54 x) : WX p l e (rmX dR) s m args below meth c φ tc D (AX φ) 4 0 0 (MQ below (QX φ tc D (QV Q)) args s 0 0 (AX φ)) 54 [(0, .ref t)] [] x := by
  unfold G0_carry_L54 at h
  refine x_aload_n C rfl 0 rfl dX0_carry_54 ?_
  refine x_getI C (j := 1) o_t.1 o_t.2 (Nat.le_of_ble_eq_true rfl) (Nat.le_of_ble_eq_true rfl) (Or.inl rfl) tw_2_49 dX0_carry_55 ?_
  refine x_if_le (tgt := 90) C dX0_carry_58 (by decide) (fun c11 => ?_) (fun c11 => ?_)
  · have h := h.1 c11
    exact x_vret C hr dX0_carry_90 ⟨rfl, h⟩
  · have h := h.2 c11
    refine x_aload_n C rfl 0 rfl dX0_carry_61 ?_
    refine x_getR (r := (t + 1)) C (j := 0) o_t.1 o_t.2 (Nat.le_of_ble_eq_true rfl) (Nat.le_of_ble_eq_true rfl) (fun _ _ _ => rfl) (rF0_0 o_t) tw_2_48 dX0_carry_62 ?_
    refine x_aload_n C rfl 0 rfl dX0_carry_65 ?_
    refine x_getI C (j := 1) o_t.1 o_t.2 (Nat.le_of_ble_eq_true rfl) (Nat.le_of_ble_eq_true rfl) (Or.inl rfl) tw_2_49 dX0_carry_66 ?_
    refine x_iconst (v := 1) C (by decide) dX0_carry_69 ?_
    refine x_isub C dX0_carry_70 ?_
    obtain ⟨c12, h⟩ := h
    refine x_lald C (obF0_0 o_t).1 (obF0_0 o_t).2 c12 rfl dX0_carry_71 ?_
    refine x_lconst (v := 0) C (by decide) dX0_carry_72 ?_
    refine x_lcmp C dX0_carry_73 ?_
    refine x_if_ne (tgt := 90) C dX0_carry_74 (by decide) (fun c13 => ?_) (fun c13 => ?_)
    · have h := h.1 c13
      exact x_vret C hr dX0_carry_90 ⟨rfl, h⟩
    · have h := h.2 c13
      refine x_aload_n C rfl 0 rfl dX0_carry_77 ?_
      refine x_dup C rfl dX0_carry_78 ?_
      refine x_getI C (j := 1) o_t.1 o_t.2 (Nat.le_of_ble_eq_true rfl) (Nat.le_of_ble_eq_true rfl) (Or.inl rfl) tw_2_49 dX0_carry_79 ?_
      refine x_iconst (v := 1) C (by decide) dX0_carry_82 ?_
      refine x_isub C dX0_carry_83 ?_
      refine x_putI C (j := 1) o_t.1 o_t.2 (Nat.le_of_ble_eq_true rfl) (Nat.le_of_ble_eq_true rfl) (Or.inl rfl) rfl rfl rfl tw_2_49 dX0_carry_84 ?_
      refine x_mu (fun μ14 e_μ14 => ?_)
      have h := h μ14 e_μ14
      refine x_goto (tgt := 54) C dX0_carry_87 (by decide) ?_
      exact hK54 _ h
theorem G0_carry_L54_ok {p : Program} {e : Env} {s : State} {m : MethodId} {args : Array Value} {below : List Frame} {meth : Method} {c : Code} {l : Launch} {φ : Nat → Nat} {tc : Nat → ClassId} {D : va_G} {s0 : State} {dR : Nat} (C : CX p s m args meth c φ tc D (AX φ) s0 cX0_carry RX0 4) (hd : G0_carry_dep ≤ dR) (hr : meth.sig.returnType = none) {t : Nat}  {Q : MM → Prop}  {x : MM} (o_t : Ob t 0)   (h : Lp (G0_carry_L54 t Q) x) : WX p l e (rmX dR) s m args below meth c φ tc D (AX φ) 4 0 0 (MQ below (QX φ tc D (QV Q)) args s 0 0 (AX φ)) 54 [(0, .ref t)] [] x := by
  obtain ⟨n, h⟩ := h
  induction n generalizing x with
  | zero => exact h.elim
  | succ n ih => exact G0_carry_L54_b C hd hr o_t  (fun zμ hz => by have q := ih hz; exact q) h
set_option maxHeartbeats 4000000 in
set_option maxRecDepth 100000 in
theorem G0_carry_L14_b {p : Program} {e : Env} {s : State} {m : MethodId} {args : Array Value} {below : List Frame} {meth : Method} {c : Code} {l : Launch} {φ : Nat → Nat} {tc : Nat → ClassId} {D : va_G} {s0 : State} {dR : Nat} (C : CX p s m args meth c φ tc D (AX φ) s0 cX0_carry RX0 4) (hd : G0_carry_dep ≤ dR) (hr : meth.sig.returnType = none) {t : Nat}  {Q : MM → Prop} {K14 : Int64 × Int32 × MM → Prop} {x : Int64 × Int32 × MM} (o_t : Ob t 0)  (hK14 : ∀ (z1 : Int64) (z3 : Int32) (zμ : MM), K14 (z1, z3, zμ) → WX p l e (rmX dR) s m args below meth c φ tc D (AX φ) 4 0 0 (MQ below (QX φ tc D (QV Q)) args s 0 0 (AX φ)) 14 [(0, .ref t), (1, .long z1), (3, .int z3)] [] zμ) (h : G0_carry_L14 t Q K14 x) : WX p l e (rmX dR) s m args below meth c φ tc D (AX φ) 4 0 0 (MQ below (QX φ tc D (QV Q)) args s 0 0 (AX φ)) 14 [(0, .ref t), (1, .long x.1), (3, .int x.2.1)] [] x.2.2 := by
  unfold G0_carry_L14 at h
  refine x_iload_n C rfl 2 rfl dX0_carry_14 ?_
  refine x_aload_n C rfl 0 rfl dX0_carry_15 ?_
  refine x_getI C (j := 1) o_t.1 o_t.2 (Nat.le_of_ble_eq_true rfl) (Nat.le_of_ble_eq_true rfl) (Or.inl rfl) tw_2_49 dX0_carry_16 ?_
  refine x_icmp_ge (tgt := 54) C dX0_carry_19 (by decide) (fun c10 => ?_) (fun c10 => ?_)
  · have h := h.1 c10
    refine x_sub [(0, .ref t)] [0] rfl ?_
    exact G0_carry_L54_ok C hd hr o_t h
  · have h := h.2 c10
    refine x_lload_n C rfl 1 rfl dX0_carry_22 ?_
    refine x_aload_n C rfl 0 rfl dX0_carry_23 ?_
    refine x_getR (r := (t + 1)) C (j := 0) o_t.1 o_t.2 (Nat.le_of_ble_eq_true rfl) (Nat.le_of_ble_eq_true rfl) (fun _ _ _ => rfl) (rF0_0 o_t) tw_2_48 dX0_carry_24 ?_
    refine x_iload_n C rfl 2 rfl dX0_carry_27 ?_
    obtain ⟨c15, h⟩ := h
    refine x_lald C (obF0_0 o_t).1 (obF0_0 o_t).2 c15 rfl dX0_carry_28 ?_
    refine x_ladd C dX0_carry_29 ?_
    refine x_topl (fun y16 e_y16 => ?_)
    have h := h y16 e_y16
    refine x_lstore_n C [(1, .long y16), (0, .ref t), (3, .int x.2.1)] rfl (Nat.le_of_ble_eq_true rfl) rfl dX0_carry_30 ?_
    refine x_aload_n C rfl 1 rfl dX0_carry_31 ?_
    refine x_getR (r := (t + 1)) C (j := 0) o_t.1 o_t.2 (Nat.le_of_ble_eq_true rfl) (Nat.le_of_ble_eq_true rfl) (fun _ _ _ => rfl) (rF0_0 o_t) tw_2_48 dX0_carry_32 ?_
    refine x_iload_n C rfl 2 rfl dX0_carry_35 ?_
    refine x_lload_n C rfl 0 rfl dX0_carry_36 ?_
    refine x_ldc2 (v := 100000000) C tw_5_35 dX0_carry_37 ?_
    refine x_lrem C (by decide) dX0_carry_40 ?_
    obtain ⟨c17, h⟩ := h
    refine x_last C (obF0_0 o_t).1 (obF0_0 o_t).2 c17 rfl dX0_carry_41 ?_
    refine x_mu (fun μ18 e_μ18 => ?_)
    have h := h μ18 e_μ18
    refine x_lload_n C rfl 0 rfl dX0_carry_42 ?_
    refine x_ldc2 (v := 100000000) C tw_5_35 dX0_carry_43 ?_
    refine x_ldiv C (by decide) dX0_carry_46 ?_
    refine x_topl (fun y19 e_y19 => ?_)
    have h := h y19 e_y19
    refine x_lstore_n C [(1, .long y19), (0, .ref t), (3, .int x.2.1)] rfl (Nat.le_of_ble_eq_true rfl) rfl dX0_carry_47 ?_
    refine x_iinc (v := (x.2.1 + 1)) C [(3, .int (x.2.1 + 1)), (1, .long y19), (0, .ref t)] 2 rfl (congrArg (fun z => x.2.1 + z) (by decide : Int32.ofInt (1) = 1)) (Nat.le_of_ble_eq_true rfl) rfl dX0_carry_48 ?_
    refine x_goto (tgt := 14) C dX0_carry_51 (by decide) ?_
    refine x_sub [(0, .ref t), (1, .long y19), (3, .int (x.2.1 + 1))] [2, 1, 0] rfl ?_
    exact hK14 _ _ _ h
theorem G0_carry_L14_ok {p : Program} {e : Env} {s : State} {m : MethodId} {args : Array Value} {below : List Frame} {meth : Method} {c : Code} {l : Launch} {φ : Nat → Nat} {tc : Nat → ClassId} {D : va_G} {s0 : State} {dR : Nat} (C : CX p s m args meth c φ tc D (AX φ) s0 cX0_carry RX0 4) (hd : G0_carry_dep ≤ dR) (hr : meth.sig.returnType = none) {t : Nat}  {Q : MM → Prop}  {x : Int64 × Int32 × MM} (o_t : Ob t 0)   (h : Lp (G0_carry_L14 t Q) x) : WX p l e (rmX dR) s m args below meth c φ tc D (AX φ) 4 0 0 (MQ below (QX φ tc D (QV Q)) args s 0 0 (AX φ)) 14 [(0, .ref t), (1, .long x.1), (3, .int x.2.1)] [] x.2.2 := by
  obtain ⟨n, h⟩ := h
  induction n generalizing x with
  | zero => exact h.elim
  | succ n ih => exact G0_carry_L14_b C hd hr o_t  (fun z1 z3 zμ hz => by have q := ih hz; exact q) h
set_option maxHeartbeats 4000000 in
set_option maxRecDepth 100000 in
theorem G0_carry_met {l : Launch} {φ : Nat → Nat} {tc : Nat → ClassId} {D : va_G} {s0 : State} (hG : GX φ tc D s0) {dR : Nat} (hd : G0_carry_dep ≤ dR) {t : Nat} {μ : MM} {Q : MM → Prop} (o_t : Ob t 0) (h : G0_carry t μ Q) : MX l φ tc D s0 dR yX0_carry cX0_carry 4 none [.ref t] μ (QV Q) := by
  refine MX.of (own := RX0) hG plX0 rfl (Nat.le_of_ble_eq_true rfl) (fun p e s m args below meth c C hr => ?_)
  refine x_sub [(0, .ref t)] [0] rfl ?_
  unfold G0_carry at h
  refine x_aload_n C rfl 0 rfl dX0_carry_0 ?_
  refine x_aload_n C rfl 0 rfl dX0_carry_1 ?_
  refine x_getI C (j := 1) o_t.1 o_t.2 (Nat.le_of_ble_eq_true rfl) (Nat.le_of_ble_eq_true rfl) (Or.inl rfl) tw_2_49 dX0_carry_2 ?_
  refine x_iconst (v := 2) C (by decide) dX0_carry_5 ?_
  refine x_iadd C dX0_carry_6 ?_
  refine x_callV (dC := G0_stretch_dep) (as := [.int ((gI μ t 1) + 2)]) (st := []) C rX kX (Nat.le_trans (Nat.le_of_ble_eq_true rfl) hd) (Nat.le_of_ble_eq_true rfl) o_t.1 o_t.2 (Nat.le_of_ble_eq_true rfl) rfl ts_5_12 tw_5_33 tw_5_31 tc_5_34 tw_1_9 hyX0 hnX0_stretch rfl (Nat.le_of_ble_eq_true rfl) dX0_carry_7 (G0_stretch_met C.2.2.2.2.2.2.2.1 (Nat.le_refl _) o_t h) (fun r0 μ9 hq => ?_)
  obtain ⟨rfl, h⟩ := hq
  refine x_st [] rfl ?_
  refine x_lconst (v := 0) C (by decide) dX0_carry_10 ?_
  refine x_lstore_n C [(1, .long 0), (0, .ref t)] rfl (Nat.le_of_ble_eq_true rfl) rfl dX0_carry_11 ?_
  refine x_iconst (v := 0) C (by decide) dX0_carry_12 ?_
  refine x_istore_n C [(3, .int 0), (1, .long 0), (0, .ref t)] rfl (Nat.le_of_ble_eq_true rfl) rfl dX0_carry_13 ?_
  refine x_sub [(0, .ref t), (1, .long 0), (3, .int 0)] [2, 1, 0] rfl ?_
  exact G0_carry_L14_ok C hd hr o_t h
