set_option maxHeartbeats 4000000 in
set_option maxRecDepth 100000 in
theorem G12_letter_J71_ok {p : Program} {e : Env} {s : State} {m : MethodId} {args : Array Value} {below : List Frame} {meth : Method} {c : Code} {l : Launch} {φ : Nat → Nat} {tc : Nat → ClassId} {D : va_G} {s0 : State} {dR : Nat} (C : CX p s m args meth c φ tc D (AX φ) s0 cX12_letter RX12 7) (hd : G12_letter_dep ≤ dR) (hr : meth.sig.returnType = (some .int))   {p1 : Int32} {p2 : Int32} {p3 : Int32} {p4 : Int32} {p5 : Int32} {q0 : Int32} {Q : Int32 → MM → Prop}  {μ : MM}    (h : G12_letter_J71 p1 p2 p3 p4 p5 q0 μ Q) : WX p l e (rmX dR) s m args below meth c φ tc D (AX φ) 7 0 0 (MQ below (QX φ tc D (QI Q)) args s 0 0 (AX φ)) 71 [(0, .ref 358), (1, .int p1), (2, .int p2), (3, .int p3), (4, .int p4), (5, .int p5)] [.int q0] μ := by
  unfold G12_letter_J71 at h
  refine x_istore C [(6, .int q0), (0, .ref 358), (1, .int p1), (2, .int p2), (3, .int p3), (4, .int p4), (5, .int p5)] (Nat.le_of_ble_eq_true rfl) rfl dX12_letter_71 ?_
  refine x_iload C 0 rfl dX12_letter_73 ?_
  refine x_if_eq (tgt := 96) C dX12_letter_75 (by decide) (fun c19 => ?_) (fun c19 => ?_)
  · have h := h.1 c19
    refine x_iconst (v := (-1)) C (by decide) dX12_letter_96 ?_
    exact x_iret C hr dX12_letter_97 ⟨_, rfl, h⟩
  · have h := h.2 c19
    refine x_aload_n C rfl 1 rfl dX12_letter_78 ?_
    refine x_getI C (j := 12) ob358.1 ob358.2 (Nat.le_of_ble_eq_true rfl) (Nat.le_of_ble_eq_true rfl) (Or.inl rfl) tw_8_218 dX12_letter_79 ?_
    refine x_bipush (v := 96) C (by decide) dX12_letter_82 ?_
    refine x_icmp_eq (tgt := 96) C dX12_letter_84 (by decide) (fun c20 => ?_) (fun c20 => ?_)
    · have h := h.1 c20
      refine x_iconst (v := (-1)) C (by decide) dX12_letter_96 ?_
      exact x_iret C hr dX12_letter_97 ⟨_, rfl, h⟩
    · have h := h.2 c20
      refine x_aload_n C rfl 1 rfl dX12_letter_87 ?_
      refine x_iload_n C rfl 2 rfl dX12_letter_88 ?_
      refine x_callV (dC := G12_lettersTo_dep) (as := [.int p1]) (st := []) C rX kX (Nat.le_trans (Nat.le_of_ble_eq_true rfl) hd) (Nat.le_of_ble_eq_true rfl) ob358.1 ob358.2 (Nat.le_of_ble_eq_true rfl) rfl ts_8_10 tw_6_209 tw_6_207 tc_6_210 tw_1_13 hyX12 hnX12_lettersTo rfl (Nat.le_of_ble_eq_true rfl) dX12_letter_89 (G12_lettersTo_met C.2.2.2.2.2.2.2.1 (Nat.le_refl _)  h) (fun r0 μ21 hq => ?_)
      obtain ⟨r22, rfl, h⟩ := hq
      refine x_st [.int r22] rfl ?_
      refine x_iconst (v := 4) C (by decide) dX12_letter_92 ?_
      refine x_icmp_ne (tgt := 98) C dX12_letter_93 (by decide) (fun c23 => ?_) (fun c23 => ?_)
      · have h := h.1 c23
        refine x_aload_n C rfl 1 rfl dX12_letter_98 ?_
        refine x_iload_n C rfl 2 rfl dX12_letter_99 ?_
        refine x_iload_n C rfl 3 rfl dX12_letter_100 ?_
        refine x_iload_n C rfl 4 rfl dX12_letter_101 ?_
        refine x_iload C 5 rfl dX12_letter_102 ?_
        refine x_iconst (v := 4) C (by decide) dX12_letter_104 ?_
        refine x_idiv C (by decide) dX12_letter_105 ?_
        refine x_iload C 5 rfl dX12_letter_106 ?_
        refine x_iconst (v := 4) C (by decide) dX12_letter_108 ?_
        refine x_irem C (by decide) dX12_letter_109 ?_
        refine x_iload C 6 rfl dX12_letter_110 ?_
        refine x_callV (dC := G12_lays_dep) (as := [.int p1, .int p2, .int p3, .int (p4 / 4), .int (p4 - p4 / 4 * 4), .int p5]) (st := []) C rX kX (Nat.le_trans (Nat.le_of_ble_eq_true rfl) hd) (Nat.le_of_ble_eq_true rfl) ob358.1 ob358.2 (Nat.le_of_ble_eq_true rfl) rfl ts_8_11 tw_6_216 tw_6_214 tc_6_217 tw_1_13 hyX12 hnX12_lays rfl (Nat.le_of_ble_eq_true rfl) dX12_letter_112 (G12_lays_met C.2.2.2.2.2.2.2.1 (Nat.le_refl _)  h) (fun r0 μ24 hq => ?_)
        obtain ⟨rfl, h⟩ := hq
        refine x_st [] rfl ?_
        refine x_aload_n C rfl 1 rfl dX12_letter_115 ?_
        refine x_getI C (j := 12) ob358.1 ob358.2 (Nat.le_of_ble_eq_true rfl) (Nat.le_of_ble_eq_true rfl) (Or.inl rfl) tw_8_218 dX12_letter_116 ?_
        refine x_iconst (v := 1) C (by decide) dX12_letter_119 ?_
        refine x_isub C dX12_letter_120 ?_
        exact x_iret C hr dX12_letter_121 ⟨_, rfl, h⟩
      · have h := h.2 c23
        refine x_iconst (v := (-1)) C (by decide) dX12_letter_96 ?_
        exact x_iret C hr dX12_letter_97 ⟨_, rfl, h⟩
set_option maxHeartbeats 4000000 in
set_option maxRecDepth 100000 in
theorem G12_letter_J70_ok {p : Program} {e : Env} {s : State} {m : MethodId} {args : Array Value} {below : List Frame} {meth : Method} {c : Code} {l : Launch} {φ : Nat → Nat} {tc : Nat → ClassId} {D : va_G} {s0 : State} {dR : Nat} (C : CX p s m args meth c φ tc D (AX φ) s0 cX12_letter RX12 7) (hd : G12_letter_dep ≤ dR) (hr : meth.sig.returnType = (some .int))   {p1 : Int32} {p2 : Int32} {p3 : Int32} {p4 : Int32} {p5 : Int32} {Q : Int32 → MM → Prop}  {μ : MM}    (h : G12_letter_J70 p1 p2 p3 p4 p5 μ Q) : WX p l e (rmX dR) s m args below meth c φ tc D (AX φ) 7 0 0 (MQ below (QX φ tc D (QI Q)) args s 0 0 (AX φ)) 70 [(0, .ref 358), (1, .int p1), (2, .int p2), (3, .int p3), (4, .int p4), (5, .int p5)] [] μ := by
  unfold G12_letter_J70 at h
  refine x_iconst (v := 0) C (by decide) dX12_letter_70 ?_
  exact G12_letter_J71_ok C hd hr  h
set_option maxHeartbeats 4000000 in
set_option maxRecDepth 100000 in
theorem G12_letter_met {l : Launch} {φ : Nat → Nat} {tc : Nat → ClassId} {D : va_G} {s0 : State} (hG : GX φ tc D s0) {dR : Nat} (hd : G12_letter_dep ≤ dR) {v1 : Int32} {v2 : Int32} {v3 : Int32} {v4 : Int32} {v5 : Int32} {μ : MM} {Q : Int32 → MM → Prop}  (h : G12_letter v1 v2 v3 v4 v5 μ Q) : MX l φ tc D s0 dR yX12_letter cX12_letter 7 (some .int) [.ref 358, .int v1, .int v2, .int v3, .int v4, .int v5] μ (QI Q) := by
  refine MX.of (own := RX12) hG plX12 rfl (Nat.le_of_ble_eq_true rfl) (fun p e s m args below meth c C hr => ?_)
  refine x_sub [(0, .ref 358), (1, .int v1), (2, .int v2), (3, .int v3), (4, .int v4), (5, .int v5)] [0, 1, 2, 3, 4, 5] rfl ?_
  unfold G12_letter at h
  refine x_aload_n C rfl 0 rfl dX12_letter_0 ?_
  refine x_iconst (v := 0) C (by decide) dX12_letter_1 ?_
  refine x_putI C (j := 0) ob358.1 ob358.2 (Nat.le_of_ble_eq_true rfl) (Nat.le_of_ble_eq_true rfl) (Or.inl rfl) rfl rfl rfl tw_8_206 dX12_letter_2 ?_
  refine x_mu (fun μ15 e_μ15 => ?_)
  have h := h μ15 e_μ15
  refine x_aload_n C rfl 0 rfl dX12_letter_5 ?_
  refine x_iload_n C rfl 1 rfl dX12_letter_6 ?_
  refine x_callV (dC := G12_isHouse_dep) (as := [.int v1]) (st := []) C rX kX (Nat.le_trans (Nat.le_of_ble_eq_true rfl) hd) (Nat.le_of_ble_eq_true rfl) ob358.1 ob358.2 (Nat.le_of_ble_eq_true rfl) rfl ts_8_8 tw_6_198 tw_6_196 tc_6_200 tw_1_13 hyX12 hnX12_isHouse rfl (Nat.le_of_ble_eq_true rfl) dX12_letter_7 (G12_isHouse_met C.2.2.2.2.2.2.2.1 (Nat.le_refl _)  h) (fun r0 μ16 hq => ?_)
  obtain ⟨r17, rfl, h⟩ := hq
  refine x_st [.int r17] rfl ?_
  refine x_if_eq (tgt := 70) C dX12_letter_10 (by decide) (fun c18 => ?_) (fun c18 => ?_)
  · have h := h.1 c18
    exact G12_letter_J70_ok C hd hr  h
  · have h := h.2 c18
    refine x_aload_n C rfl 0 rfl dX12_letter_13 ?_
    refine x_iload_n C rfl 2 rfl dX12_letter_14 ?_
    refine x_callV (dC := G12_isName_dep) (as := [.int v2]) (st := []) C rX kX (Nat.le_trans (Nat.le_of_ble_eq_true rfl) hd) (Nat.le_of_ble_eq_true rfl) ob358.1 ob358.2 (Nat.le_of_ble_eq_true rfl) rfl ts_8_9 tw_6_203 tw_6_201 tc_6_204 tw_1_13 hyX12 hnX12_isName rfl (Nat.le_of_ble_eq_true rfl) dX12_letter_15 (G12_isName_met C.2.2.2.2.2.2.2.1 (Nat.le_refl _)  h) (fun r0 μ25 hq => ?_)
    obtain ⟨r26, rfl, h⟩ := hq
    refine x_st [.int r26] rfl ?_
    refine x_if_eq (tgt := 70) C dX12_letter_18 (by decide) (fun c27 => ?_) (fun c27 => ?_)
    · have h := h.1 c27
      exact G12_letter_J70_ok C hd hr  h
    · have h := h.2 c27
      refine x_iload_n C rfl 3 rfl dX12_letter_21 ?_
      refine x_i2l C dX12_letter_22 ?_
      refine x_lconst (v := 0) C (by decide) dX12_letter_23 ?_
      refine x_ldc2 (v := 99) C tw_6_205 dX12_letter_24 ?_
      refine x_callS (dC := G12_in_dep) (as := [.long (v3.toInt64), .long 0, .long 99]) (st := []) C rX kX (Nat.le_trans (Nat.le_of_ble_eq_true rfl) hd) (Nat.le_of_ble_eq_true rfl) tw_6_183 tw_6_182 tc_6_184 tw_1_13 hyX12 hnX12_in rfl (Nat.le_of_ble_eq_true rfl) dX12_letter_27 (G12_in_met C.2.2.2.2.2.2.2.1 (Nat.le_refl _)  h) (fun r0 μ28 hq => ?_)
      obtain ⟨r29, rfl, h⟩ := hq
      refine x_st [.int r29] rfl ?_
      refine x_if_eq (tgt := 70) C dX12_letter_30 (by decide) (fun c30 => ?_) (fun c30 => ?_)
      · have h := h.1 c30
        exact G12_letter_J70_ok C hd hr  h
      · have h := h.2 c30
        refine x_iload C 4 rfl dX12_letter_33 ?_
        refine x_if_lt (tgt := 70) C dX12_letter_35 (by decide) (fun c31 => ?_) (fun c31 => ?_)
        · have h := h.1 c31
          exact G12_letter_J70_ok C hd hr  h
        · have h := h.2 c31
          refine x_iload C 4 rfl dX12_letter_38 ?_
          refine x_iconst (v := 4) C (by decide) dX12_letter_40 ?_
          refine x_idiv C (by decide) dX12_letter_41 ?_
          refine x_i2l C dX12_letter_42 ?_
          refine x_lconst (v := 0) C (by decide) dX12_letter_43 ?_
          refine x_ldc2 (v := 9) C tw_6_185 dX12_letter_44 ?_
          refine x_callS (dC := G12_in_dep) (as := [.long ((v4 / 4).toInt64), .long 0, .long 9]) (st := []) C rX kX (Nat.le_trans (Nat.le_of_ble_eq_true rfl) hd) (Nat.le_of_ble_eq_true rfl) tw_6_183 tw_6_182 tc_6_184 tw_1_13 hyX12 hnX12_in rfl (Nat.le_of_ble_eq_true rfl) dX12_letter_47 (G12_in_met C.2.2.2.2.2.2.2.1 (Nat.le_refl _)  h) (fun r0 μ32 hq => ?_)
          obtain ⟨r33, rfl, h⟩ := hq
          refine x_st [.int r33] rfl ?_
          refine x_if_eq (tgt := 70) C dX12_letter_50 (by decide) (fun c34 => ?_) (fun c34 => ?_)
          · have h := h.1 c34
            exact G12_letter_J70_ok C hd hr  h
          · have h := h.2 c34
            refine x_iload C 5 rfl dX12_letter_53 ?_
            refine x_i2l C dX12_letter_55 ?_
            refine x_lconst (v := 0) C (by decide) dX12_letter_56 ?_
            refine x_ldc2 (v := 399) C tw_6_206 dX12_letter_57 ?_
            refine x_callS (dC := G12_in_dep) (as := [.long (v5.toInt64), .long 0, .long 399]) (st := []) C rX kX (Nat.le_trans (Nat.le_of_ble_eq_true rfl) hd) (Nat.le_of_ble_eq_true rfl) tw_6_183 tw_6_182 tc_6_184 tw_1_13 hyX12 hnX12_in rfl (Nat.le_of_ble_eq_true rfl) dX12_letter_60 (G12_in_met C.2.2.2.2.2.2.2.1 (Nat.le_refl _)  h) (fun r0 μ35 hq => ?_)
            obtain ⟨r36, rfl, h⟩ := hq
            refine x_st [.int r36] rfl ?_
            refine x_if_eq (tgt := 70) C dX12_letter_63 (by decide) (fun c37 => ?_) (fun c37 => ?_)
            · have h := h.1 c37
              exact G12_letter_J70_ok C hd hr  h
            · have h := h.2 c37
              refine x_iconst (v := 1) C (by decide) dX12_letter_66 ?_
              refine x_goto (tgt := 71) C dX12_letter_67 (by decide) ?_
              exact G12_letter_J71_ok C hd hr  h
set_option maxHeartbeats 4000000 in
set_option maxRecDepth 100000 in
theorem G12_namesOf_J28_ok {p : Program} {e : Env} {s : State} {m : MethodId} {args : Array Value} {below : List Frame} {meth : Method} {c : Code} {l : Launch} {φ : Nat → Nat} {tc : Nat → ClassId} {D : va_G} {s0 : State} {dR : Nat} (C : CX p s m args meth c φ tc D (AX φ) s0 cX12_namesOf RX12 4) (hd : G12_namesOf_dep ≤ dR) (hr : meth.sig.returnType = (some .int))   {p1 : Int32} {p3 : Int32} {q0 : Int32} {q1 : Int32} {Q : Int32 → MM → Prop} {K4 : Int32 × Int32 × MM → Prop} {μ : MM}   (hK4 : ∀ (z2 : Int32) (z3 : Int32) (zμ : MM), K4 (z2, z3, zμ) → WX p l e (rmX dR) s m args below meth c φ tc D (AX φ) 4 0 0 (MQ below (QX φ tc D (QI Q)) args s 0 0 (AX φ)) 4 [(0, .ref 358), (1, .int p1), (2, .int z2), (3, .int z3)] [] zμ) (h : G12_namesOf_J28 p1 p3 q0 q1 μ K4 Q) : WX p l e (rmX dR) s m args below meth c φ tc D (AX φ) 4 0 0 (MQ below (QX φ tc D (QI Q)) args s 0 0 (AX φ)) 28 [(0, .ref 358), (1, .int p1), (3, .int p3)] [.int q0, .int q1] μ := by
  unfold G12_namesOf_J28 at h
  refine x_callS (dC := G12_flag_dep) (as := [.int q0]) (st := [.int q1]) C rX kX (Nat.le_trans (Nat.le_of_ble_eq_true rfl) hd) (Nat.le_of_ble_eq_true rfl) tw_6_212 tw_6_211 tc_6_213 tw_1_13 hyX12 hnX12_flag rfl (Nat.le_of_ble_eq_true rfl) dX12_namesOf_28 (G12_flag_met C.2.2.2.2.2.2.2.1 (Nat.le_refl _)  h) (fun r0 μ8 hq => ?_)
  obtain ⟨r9, rfl, h⟩ := hq
  refine x_st [.int r9, .int q1] rfl ?_
  refine x_iadd C dX12_namesOf_31 ?_
  refine x_topi (fun y10 e_y10 => ?_)
  have h := h y10 e_y10
  refine x_istore_n C [(2, .int y10), (0, .ref 358), (1, .int p1), (3, .int p3)] rfl (Nat.le_of_ble_eq_true rfl) rfl dX12_namesOf_32 ?_
  refine x_iinc (v := (p3 + 1)) C [(3, .int (p3 + 1)), (2, .int y10), (0, .ref 358), (1, .int p1)] 3 rfl (congrArg (fun z => p3 + z) (by decide : Int32.ofInt (1) = 1)) (Nat.le_of_ble_eq_true rfl) rfl dX12_namesOf_33 ?_
  refine x_goto (tgt := 4) C dX12_namesOf_36 (by decide) ?_
  refine x_sub [(0, .ref 358), (1, .int p1), (2, .int y10), (3, .int (p3 + 1))] [2, 3, 1, 0] rfl ?_
  exact hK4 _ _ _ h
set_option maxHeartbeats 4000000 in
set_option maxRecDepth 100000 in
theorem G12_namesOf_L4_b {p : Program} {e : Env} {s : State} {m : MethodId} {args : Array Value} {below : List Frame} {meth : Method} {c : Code} {l : Launch} {φ : Nat → Nat} {tc : Nat → ClassId} {D : va_G} {s0 : State} {dR : Nat} (C : CX p s m args meth c φ tc D (AX φ) s0 cX12_namesOf RX12 4) (hd : G12_namesOf_dep ≤ dR) (hr : meth.sig.returnType = (some .int))  {p1 : Int32} {Q : Int32 → MM → Prop} {K4 : Int32 × Int32 × MM → Prop} {x : Int32 × Int32 × MM}   (hK4 : ∀ (z2 : Int32) (z3 : Int32) (zμ : MM), K4 (z2, z3, zμ) → WX p l e (rmX dR) s m args below meth c φ tc D (AX φ) 4 0 0 (MQ below (QX φ tc D (QI Q)) args s 0 0 (AX φ)) 4 [(0, .ref 358), (1, .int p1), (2, .int z2), (3, .int z3)] [] zμ) (h : G12_namesOf_L4 p1 Q K4 x) : WX p l e (rmX dR) s m args below meth c φ tc D (AX φ) 4 0 0 (MQ below (QX φ tc D (QI Q)) args s 0 0 (AX φ)) 4 [(0, .ref 358), (1, .int p1), (2, .int x.1), (3, .int x.2.1)] [] x.2.2 := by
  unfold G12_namesOf_L4 at h
  refine x_iload_n C rfl 3 rfl dX12_namesOf_4 ?_
  refine x_aload_n C rfl 0 rfl dX12_namesOf_5 ?_
  refine x_getI C (j := 3) ob358.1 ob358.2 (Nat.le_of_ble_eq_true rfl) (Nat.le_of_ble_eq_true rfl) (Or.inl rfl) tw_8_209 dX12_namesOf_6 ?_
  refine x_icmp_ge (tgt := 39) C dX12_namesOf_9 (by decide) (fun c5 => ?_) (fun c5 => ?_)
  · have h := h.1 c5
    refine x_iload_n C rfl 2 rfl dX12_namesOf_39 ?_
    exact x_iret C hr dX12_namesOf_40 ⟨_, rfl, h⟩
  · have h := h.2 c5
    refine x_iload_n C rfl 2 rfl dX12_namesOf_12 ?_
    refine x_aload_n C rfl 0 rfl dX12_namesOf_13 ?_
    refine x_getR (r := 360) C (j := 4) ob358.1 ob358.2 (Nat.le_of_ble_eq_true rfl) (Nat.le_of_ble_eq_true rfl) (fun _ _ _ => rfl) r_358_4 tw_8_210 dX12_namesOf_14 ?_
    refine x_iload_n C rfl 3 rfl dX12_namesOf_17 ?_
    obtain ⟨c6, h⟩ := h
    refine x_iald C ob360.1 ob360.2 c6 rfl dX12_namesOf_18 ?_
    refine x_iload_n C rfl 1 rfl dX12_namesOf_19 ?_
    refine x_icmp_ne (tgt := 27) C dX12_namesOf_20 (by decide) (fun c7 => ?_) (fun c7 => ?_)
    · have h := h.1 c7
      refine x_iconst (v := 0) C (by decide) dX12_namesOf_27 ?_
      refine x_sub [(0, .ref 358), (1, .int p1), (3, .int x.2.1)] [0, 1, 3] rfl ?_
      exact G12_namesOf_J28_ok C hd hr hK4 h
    · have h := h.2 c7
      refine x_iconst (v := 1) C (by decide) dX12_namesOf_23 ?_
      refine x_goto (tgt := 28) C dX12_namesOf_24 (by decide) ?_
      refine x_sub [(0, .ref 358), (1, .int p1), (3, .int x.2.1)] [0, 1, 3] rfl ?_
      exact G12_namesOf_J28_ok C hd hr hK4 h
theorem G12_namesOf_L4_ok {p : Program} {e : Env} {s : State} {m : MethodId} {args : Array Value} {below : List Frame} {meth : Method} {c : Code} {l : Launch} {φ : Nat → Nat} {tc : Nat → ClassId} {D : va_G} {s0 : State} {dR : Nat} (C : CX p s m args meth c φ tc D (AX φ) s0 cX12_namesOf RX12 4) (hd : G12_namesOf_dep ≤ dR) (hr : meth.sig.returnType = (some .int))  {p1 : Int32} {Q : Int32 → MM → Prop}  {x : Int32 × Int32 × MM}    (h : Lp (G12_namesOf_L4 p1 Q) x) : WX p l e (rmX dR) s m args below meth c φ tc D (AX φ) 4 0 0 (MQ below (QX φ tc D (QI Q)) args s 0 0 (AX φ)) 4 [(0, .ref 358), (1, .int p1), (2, .int x.1), (3, .int x.2.1)] [] x.2.2 := by
  obtain ⟨n, h⟩ := h
  induction n generalizing x with
  | zero => exact h.elim
  | succ n ih => exact G12_namesOf_L4_b C hd hr   (fun z2 z3 zμ hz => by have q := ih hz; exact q) h
set_option maxHeartbeats 4000000 in
set_option maxRecDepth 100000 in
theorem G12_namesOf_met {l : Launch} {φ : Nat → Nat} {tc : Nat → ClassId} {D : va_G} {s0 : State} (hG : GX φ tc D s0) {dR : Nat} (hd : G12_namesOf_dep ≤ dR) {v1 : Int32} {μ : MM} {Q : Int32 → MM → Prop}  (h : G12_namesOf v1 μ Q) : MX l φ tc D s0 dR yX12_namesOf cX12_namesOf 4 (some .int) [.ref 358, .int v1] μ (QI Q) := by
  refine MX.of (own := RX12) hG plX12 rfl (Nat.le_of_ble_eq_true rfl) (fun p e s m args below meth c C hr => ?_)
  refine x_sub [(0, .ref 358), (1, .int v1)] [0, 1] rfl ?_
  unfold G12_namesOf at h
  refine x_iconst (v := 0) C (by decide) dX12_namesOf_0 ?_
  refine x_istore_n C [(2, .int 0), (0, .ref 358), (1, .int v1)] rfl (Nat.le_of_ble_eq_true rfl) rfl dX12_namesOf_1 ?_
  refine x_iconst (v := 0) C (by decide) dX12_namesOf_2 ?_
  refine x_istore_n C [(3, .int 0), (2, .int 0), (0, .ref 358), (1, .int v1)] rfl (Nat.le_of_ble_eq_true rfl) rfl dX12_namesOf_3 ?_
  refine x_sub [(0, .ref 358), (1, .int v1), (2, .int 0), (3, .int 0)] [2, 3, 1, 0] rfl ?_
  exact G12_namesOf_L4_ok C hd hr  h
set_option maxHeartbeats 4000000 in
set_option maxRecDepth 100000 in
theorem G12_freeName_J100_ok {p : Program} {e : Env} {s : State} {m : MethodId} {args : Array Value} {below : List Frame} {meth : Method} {c : Code} {l : Launch} {φ : Nat → Nat} {tc : Nat → ClassId} {D : va_G} {s0 : State} {dR : Nat} (C : CX p s m args meth c φ tc D (AX φ) s0 cX12_freeName RX12 8) (hd : G12_freeName_dep ≤ dR) (hr : meth.sig.returnType = (some .int))   {p1 : Int32} {p2 : Int32} {p3 : Int32} {p4 : Int32} {p5 : Int32} {p6 : Int32} {Q : Int32 → MM → Prop} {K6 : Int32 × Int32 × MM → Prop} {μ : MM}   (hK6 : ∀ (z4 : Int32) (z5 : Int32) (zμ : MM), K6 (z4, z5, zμ) → WX p l e (rmX dR) s m args below meth c φ tc D (AX φ) 8 0 0 (MQ below (QX φ tc D (QI Q)) args s 0 0 (AX φ)) 6 [(0, .ref 358), (1, .int p1), (2, .int p2), (3, .int p3), (4, .int z4), (5, .int z5)] [] zμ) (h : G12_freeName_J100 p1 p2 p3 p4 p5 p6 μ K6 Q) : WX p l e (rmX dR) s m args below meth c φ tc D (AX φ) 8 0 0 (MQ below (QX φ tc D (QI Q)) args s 0 0 (AX φ)) 100 [(0, .ref 358), (1, .int p1), (2, .int p2), (3, .int p3), (4, .int p4), (5, .int p5), (6, .int p6)] [] μ := by
  unfold G12_freeName_J100 at h
  refine x_iload C 4 rfl dX12_freeName_100 ?_
  refine x_iload C 6 rfl dX12_freeName_102 ?_
  refine x_callS (dC := G12_flag_dep) (as := [.int p6]) (st := [.int p4]) C rX kX (Nat.le_trans (Nat.le_of_ble_eq_true rfl) hd) (Nat.le_of_ble_eq_true rfl) tw_6_212 tw_6_211 tc_6_213 tw_1_13 hyX12 hnX12_flag rfl (Nat.le_of_ble_eq_true rfl) dX12_freeName_104 (G12_flag_met C.2.2.2.2.2.2.2.1 (Nat.le_refl _)  h) (fun r0 μ12 hq => ?_)
  obtain ⟨r13, rfl, h⟩ := hq
  refine x_st [.int r13, .int p4] rfl ?_
  refine x_iadd C dX12_freeName_107 ?_
  refine x_topi (fun y14 e_y14 => ?_)
  have h := h y14 e_y14
  refine x_istore C [(4, .int y14), (0, .ref 358), (1, .int p1), (2, .int p2), (3, .int p3), (5, .int p5), (6, .int p6)] (Nat.le_of_ble_eq_true rfl) rfl dX12_freeName_108 ?_
  refine x_iinc (v := (p5 + 1)) C [(5, .int (p5 + 1)), (4, .int y14), (0, .ref 358), (1, .int p1), (2, .int p2), (3, .int p3), (6, .int p6)] 5 rfl (congrArg (fun z => p5 + z) (by decide : Int32.ofInt (1) = 1)) (Nat.le_of_ble_eq_true rfl) rfl dX12_freeName_110 ?_
  refine x_goto (tgt := 6) C dX12_freeName_113 (by decide) ?_
  refine x_sub [(0, .ref 358), (1, .int p1), (2, .int p2), (3, .int p3), (4, .int y14), (5, .int (p5 + 1))] [2, 3, 4, 5, 1, 0] rfl ?_
  exact hK6 _ _ _ h
set_option maxHeartbeats 4000000 in
set_option maxRecDepth 100000 in
theorem G12_freeName_J77_ok {p : Program} {e : Env} {s : State} {m : MethodId} {args : Array Value} {below : List Frame} {meth : Method} {c : Code} {l : Launch} {φ : Nat → Nat} {tc : Nat → ClassId} {D : va_G} {s0 : State} {dR : Nat} (C : CX p s m args meth c φ tc D (AX φ) s0 cX12_freeName RX12 8) (hd : G12_freeName_dep ≤ dR) (hr : meth.sig.returnType = (some .int))   {p1 : Int32} {p2 : Int32} {p3 : Int32} {p4 : Int32} {p5 : Int32} {p7 : Int32} {Q : Int32 → MM → Prop} {K6 : Int32 × Int32 × MM → Prop} {K36 : Int32 × Int32 × MM → Prop} {μ : MM}   (hK6 : ∀ (z4 : Int32) (z5 : Int32) (zμ : MM), K6 (z4, z5, zμ) → WX p l e (rmX dR) s m args below meth c φ tc D (AX φ) 8 0 0 (MQ below (QX φ tc D (QI Q)) args s 0 0 (AX φ)) 6 [(0, .ref 358), (1, .int p1), (2, .int p2), (3, .int p3), (4, .int z4), (5, .int z5)] [] zμ) (hK36 : ∀ (z6 : Int32) (z7 : Int32) (zμ : MM), K36 (z6, z7, zμ) → WX p l e (rmX dR) s m args below meth c φ tc D (AX φ) 8 0 0 (MQ below (QX φ tc D (QI Q)) args s 0 0 (AX φ)) 36 [(0, .ref 358), (1, .int p1), (2, .int p2), (3, .int p3), (4, .int p4), (5, .int p5), (6, .int z6), (7, .int z7)] [] zμ) (h : G12_freeName_J77 p1 p2 p3 p4 p5 p7 μ K6 K36 Q) : WX p l e (rmX dR) s m args below meth c φ tc D (AX φ) 8 0 0 (MQ below (QX φ tc D (QI Q)) args s 0 0 (AX φ)) 77 [(0, .ref 358), (1, .int p1), (2, .int p2), (3, .int p3), (4, .int p4), (5, .int p5), (7, .int p7)] [] μ := by
  unfold G12_freeName_J77 at h
  refine x_iconst (v := 0) C (by decide) dX12_freeName_77 ?_
  refine x_istore C [(6, .int 0), (0, .ref 358), (1, .int p1), (2, .int p2), (3, .int p3), (4, .int p4), (5, .int p5), (7, .int p7)] (Nat.le_of_ble_eq_true rfl) rfl dX12_freeName_78 ?_
  refine x_iinc (v := (p7 + 1)) C [(7, .int (p7 + 1)), (6, .int 0), (0, .ref 358), (1, .int p1), (2, .int p2), (3, .int p3), (4, .int p4), (5, .int p5)] 7 rfl (congrArg (fun z => p7 + z) (by decide : Int32.ofInt (1) = 1)) (Nat.le_of_ble_eq_true rfl) rfl dX12_freeName_80 ?_
  refine x_goto (tgt := 36) C dX12_freeName_83 (by decide) ?_
  refine x_sub [(0, .ref 358), (1, .int p1), (2, .int p2), (3, .int p3), (4, .int p4), (5, .int p5), (6, .int 0), (7, .int (p7 + 1))] [2, 3, 4, 5, 6, 7, 1, 0] rfl ?_
  exact hK36 _ _ _ h
set_option maxHeartbeats 4000000 in
set_option maxRecDepth 100000 in
theorem G12_freeName_L36_b {p : Program} {e : Env} {s : State} {m : MethodId} {args : Array Value} {below : List Frame} {meth : Method} {c : Code} {l : Launch} {φ : Nat → Nat} {tc : Nat → ClassId} {D : va_G} {s0 : State} {dR : Nat} (C : CX p s m args meth c φ tc D (AX φ) s0 cX12_freeName RX12 8) (hd : G12_freeName_dep ≤ dR) (hr : meth.sig.returnType = (some .int))  {p1 : Int32} {p2 : Int32} {p3 : Int32} {p4 : Int32} {p5 : Int32} {Q : Int32 → MM → Prop} {K6 : Int32 × Int32 × MM → Prop} {K36 : Int32 × Int32 × MM → Prop} {x : Int32 × Int32 × MM}   (hK6 : ∀ (z4 : Int32) (z5 : Int32) (zμ : MM), K6 (z4, z5, zμ) → WX p l e (rmX dR) s m args below meth c φ tc D (AX φ) 8 0 0 (MQ below (QX φ tc D (QI Q)) args s 0 0 (AX φ)) 6 [(0, .ref 358), (1, .int p1), (2, .int p2), (3, .int p3), (4, .int z4), (5, .int z5)] [] zμ) (hK36 : ∀ (z6 : Int32) (z7 : Int32) (zμ : MM), K36 (z6, z7, zμ) → WX p l e (rmX dR) s m args below meth c φ tc D (AX φ) 8 0 0 (MQ below (QX φ tc D (QI Q)) args s 0 0 (AX φ)) 36 [(0, .ref 358), (1, .int p1), (2, .int p2), (3, .int p3), (4, .int p4), (5, .int p5), (6, .int z6), (7, .int z7)] [] zμ) (h : G12_freeName_L36 p1 p2 p3 p4 p5 K6 Q K36 x) : WX p l e (rmX dR) s m args below meth c φ tc D (AX φ) 8 0 0 (MQ below (QX φ tc D (QI Q)) args s 0 0 (AX φ)) 36 [(0, .ref 358), (1, .int p1), (2, .int p2), (3, .int p3), (4, .int p4), (5, .int p5), (6, .int x.1), (7, .int x.2.1)] [] x.2.2 := by
  unfold G12_freeName_L36 at h
  refine x_iload C 7 rfl dX12_freeName_36 ?_
  refine x_aload_n C rfl 0 rfl dX12_freeName_38 ?_
  refine x_getI C (j := 12) ob358.1 ob358.2 (Nat.le_of_ble_eq_true rfl) (Nat.le_of_ble_eq_true rfl) (Or.inl rfl) tw_8_218 dX12_freeName_39 ?_
  refine x_icmp_ge (tgt := 86) C dX12_freeName_42 (by decide) (fun c10 => ?_) (fun c10 => ?_)
  · have h := h.1 c10
    refine x_iload C 6 rfl dX12_freeName_86 ?_
    refine x_if_eq (tgt := 100) C dX12_freeName_88 (by decide) (fun c11 => ?_) (fun c11 => ?_)
    · have h := h.1 c11
      refine x_sub [(0, .ref 358), (1, .int p1), (2, .int p2), (3, .int p3), (4, .int p4), (5, .int p5), (6, .int x.1)] [0, 1, 2, 3, 4, 5, 6] rfl ?_
      exact G12_freeName_J100_ok C hd hr hK6 h
    · have h := h.2 c11
      refine x_iload C 4 rfl dX12_freeName_91 ?_
      refine x_iload_n C rfl 3 rfl dX12_freeName_93 ?_
      refine x_icmp_ne (tgt := 100) C dX12_freeName_94 (by decide) (fun c15 => ?_) (fun c15 => ?_)
      · have h := h.1 c15
        refine x_sub [(0, .ref 358), (1, .int p1), (2, .int p2), (3, .int p3), (4, .int p4), (5, .int p5), (6, .int x.1)] [0, 1, 2, 3, 4, 5, 6] rfl ?_
        exact G12_freeName_J100_ok C hd hr hK6 h
      · have h := h.2 c15
        refine x_iload C 5 rfl dX12_freeName_97 ?_
        exact x_iret C hr dX12_freeName_99 ⟨_, rfl, h⟩
  · have h := h.2 c10
    refine x_iload C 6 rfl dX12_freeName_45 ?_
    refine x_if_eq (tgt := 77) C dX12_freeName_47 (by decide) (fun c16 => ?_) (fun c16 => ?_)
    · have h := h.1 c16
      refine x_sub [(0, .ref 358), (1, .int p1), (2, .int p2), (3, .int p3), (4, .int p4), (5, .int p5), (7, .int x.2.1)] [0, 1, 2, 3, 4, 5, 7] rfl ?_
      exact G12_freeName_J77_ok C hd hr hK6 hK36 h
    · have h := h.2 c16
      refine x_aload_n C rfl 0 rfl dX12_freeName_50 ?_
      refine x_getR (r := 367) C (j := 13) ob358.1 ob358.2 (Nat.le_of_ble_eq_true rfl) (Nat.le_of_ble_eq_true rfl) (fun _ _ _ => rfl) r_358_13 tw_8_219 dX12_freeName_51 ?_
      refine x_iload C 7 rfl dX12_freeName_54 ?_
      obtain ⟨c17, h⟩ := h
      refine x_iald C ob367.1 ob367.2 c17 rfl dX12_freeName_56 ?_
      refine x_iload_n C rfl 1 rfl dX12_freeName_57 ?_
      refine x_icmp_ne (tgt := 73) C dX12_freeName_58 (by decide) (fun c18 => ?_) (fun c18 => ?_)
      · have h := h.1 c18
        refine x_iconst (v := 1) C (by decide) dX12_freeName_73 ?_
        refine x_goto (tgt := 78) C dX12_freeName_74 (by decide) ?_
        refine x_istore C [(6, .int 1), (0, .ref 358), (1, .int p1), (2, .int p2), (3, .int p3), (4, .int p4), (5, .int p5), (7, .int x.2.1)] (Nat.le_of_ble_eq_true rfl) rfl dX12_freeName_78 ?_
        refine x_iinc (v := (x.2.1 + 1)) C [(7, .int (x.2.1 + 1)), (6, .int 1), (0, .ref 358), (1, .int p1), (2, .int p2), (3, .int p3), (4, .int p4), (5, .int p5)] 7 rfl (congrArg (fun z => x.2.1 + z) (by decide : Int32.ofInt (1) = 1)) (Nat.le_of_ble_eq_true rfl) rfl dX12_freeName_80 ?_
        refine x_goto (tgt := 36) C dX12_freeName_83 (by decide) ?_
        refine x_sub [(0, .ref 358), (1, .int p1), (2, .int p2), (3, .int p3), (4, .int p4), (5, .int p5), (6, .int 1), (7, .int (x.2.1 + 1))] [2, 3, 4, 5, 6, 7, 1, 0] rfl ?_
        exact hK36 _ _ _ h
      · have h := h.2 c18
        refine x_aload_n C rfl 0 rfl dX12_freeName_61 ?_
        refine x_getR (r := 368) C (j := 14) ob358.1 ob358.2 (Nat.le_of_ble_eq_true rfl) (Nat.le_of_ble_eq_true rfl) (fun _ _ _ => rfl) r_358_14 tw_8_220 dX12_freeName_62 ?_
        refine x_iload C 7 rfl dX12_freeName_65 ?_
        obtain ⟨c19, h⟩ := h
        refine x_iald C ob368.1 ob368.2 c19 rfl dX12_freeName_67 ?_
        refine x_iload C 5 rfl dX12_freeName_68 ?_
        refine x_icmp_eq (tgt := 77) C dX12_freeName_70 (by decide) (fun c20 => ?_) (fun c20 => ?_)
        · have h := h.1 c20
          refine x_sub [(0, .ref 358), (1, .int p1), (2, .int p2), (3, .int p3), (4, .int p4), (5, .int p5), (7, .int x.2.1)] [0, 1, 2, 3, 4, 5, 7] rfl ?_
          exact G12_freeName_J77_ok C hd hr hK6 hK36 h
        · have h := h.2 c20
          refine x_iconst (v := 1) C (by decide) dX12_freeName_73 ?_
          refine x_goto (tgt := 78) C dX12_freeName_74 (by decide) ?_
          refine x_istore C [(6, .int 1), (0, .ref 358), (1, .int p1), (2, .int p2), (3, .int p3), (4, .int p4), (5, .int p5), (7, .int x.2.1)] (Nat.le_of_ble_eq_true rfl) rfl dX12_freeName_78 ?_
          refine x_iinc (v := (x.2.1 + 1)) C [(7, .int (x.2.1 + 1)), (6, .int 1), (0, .ref 358), (1, .int p1), (2, .int p2), (3, .int p3), (4, .int p4), (5, .int p5)] 7 rfl (congrArg (fun z => x.2.1 + z) (by decide : Int32.ofInt (1) = 1)) (Nat.le_of_ble_eq_true rfl) rfl dX12_freeName_80 ?_
          refine x_goto (tgt := 36) C dX12_freeName_83 (by decide) ?_
          refine x_sub [(0, .ref 358), (1, .int p1), (2, .int p2), (3, .int p3), (4, .int p4), (5, .int p5), (6, .int 1), (7, .int (x.2.1 + 1))] [2, 3, 4, 5, 6, 7, 1, 0] rfl ?_
          exact hK36 _ _ _ h
theorem G12_freeName_L36_ok {p : Program} {e : Env} {s : State} {m : MethodId} {args : Array Value} {below : List Frame} {meth : Method} {c : Code} {l : Launch} {φ : Nat → Nat} {tc : Nat → ClassId} {D : va_G} {s0 : State} {dR : Nat} (C : CX p s m args meth c φ tc D (AX φ) s0 cX12_freeName RX12 8) (hd : G12_freeName_dep ≤ dR) (hr : meth.sig.returnType = (some .int))  {p1 : Int32} {p2 : Int32} {p3 : Int32} {p4 : Int32} {p5 : Int32} {Q : Int32 → MM → Prop} {K6 : Int32 × Int32 × MM → Prop} {x : Int32 × Int32 × MM}   (hK6 : ∀ (z4 : Int32) (z5 : Int32) (zμ : MM), K6 (z4, z5, zμ) → WX p l e (rmX dR) s m args below meth c φ tc D (AX φ) 8 0 0 (MQ below (QX φ tc D (QI Q)) args s 0 0 (AX φ)) 6 [(0, .ref 358), (1, .int p1), (2, .int p2), (3, .int p3), (4, .int z4), (5, .int z5)] [] zμ) (h : Lp (G12_freeName_L36 p1 p2 p3 p4 p5 K6 Q) x) : WX p l e (rmX dR) s m args below meth c φ tc D (AX φ) 8 0 0 (MQ below (QX φ tc D (QI Q)) args s 0 0 (AX φ)) 36 [(0, .ref 358), (1, .int p1), (2, .int p2), (3, .int p3), (4, .int p4), (5, .int p5), (6, .int x.1), (7, .int x.2.1)] [] x.2.2 := by
  obtain ⟨n, h⟩ := h
  induction n generalizing x with
  | zero => exact h.elim
  | succ n ih => exact G12_freeName_L36_b C hd hr  hK6 (fun z6 z7 zμ hz => by have q := ih hz; exact q) h
set_option maxHeartbeats 4000000 in
set_option maxRecDepth 100000 in
theorem G12_freeName_L6_b {p : Program} {e : Env} {s : State} {m : MethodId} {args : Array Value} {below : List Frame} {meth : Method} {c : Code} {l : Launch} {φ : Nat → Nat} {tc : Nat → ClassId} {D : va_G} {s0 : State} {dR : Nat} (C : CX p s m args meth c φ tc D (AX φ) s0 cX12_freeName RX12 8) (hd : G12_freeName_dep ≤ dR) (hr : meth.sig.returnType = (some .int))  {p1 : Int32} {p2 : Int32} {p3 : Int32} {Q : Int32 → MM → Prop} {K6 : Int32 × Int32 × MM → Prop} {x : Int32 × Int32 × MM}   (hK6 : ∀ (z4 : Int32) (z5 : Int32) (zμ : MM), K6 (z4, z5, zμ) → WX p l e (rmX dR) s m args below meth c φ tc D (AX φ) 8 0 0 (MQ below (QX φ tc D (QI Q)) args s 0 0 (AX φ)) 6 [(0, .ref 358), (1, .int p1), (2, .int p2), (3, .int p3), (4, .int z4), (5, .int z5)] [] zμ) (h : G12_freeName_L6 p1 p2 p3 Q K6 x) : WX p l e (rmX dR) s m args below meth c φ tc D (AX φ) 8 0 0 (MQ below (QX φ tc D (QI Q)) args s 0 0 (AX φ)) 6 [(0, .ref 358), (1, .int p1), (2, .int p2), (3, .int p3), (4, .int x.1), (5, .int x.2.1)] [] x.2.2 := by
  unfold G12_freeName_L6 at h
  refine x_iload C 5 rfl dX12_freeName_6 ?_
  refine x_aload_n C rfl 0 rfl dX12_freeName_8 ?_
  refine x_getI C (j := 3) ob358.1 ob358.2 (Nat.le_of_ble_eq_true rfl) (Nat.le_of_ble_eq_true rfl) (Or.inl rfl) tw_8_209 dX12_freeName_9 ?_
  refine x_icmp_ge (tgt := 116) C dX12_freeName_12 (by decide) (fun c7 => ?_) (fun c7 => ?_)
  · have h := h.1 c7
    refine x_iload C 4 rfl dX12_freeName_116 ?_
    exact x_iret C hr dX12_freeName_118 ⟨_, rfl, h⟩
  · have h := h.2 c7
    refine x_aload_n C rfl 0 rfl dX12_freeName_15 ?_
    refine x_getR (r := 360) C (j := 4) ob358.1 ob358.2 (Nat.le_of_ble_eq_true rfl) (Nat.le_of_ble_eq_true rfl) (fun _ _ _ => rfl) r_358_4 tw_8_210 dX12_freeName_16 ?_
    refine x_iload C 5 rfl dX12_freeName_19 ?_
    obtain ⟨c8, h⟩ := h
    refine x_iald C ob360.1 ob360.2 c8 rfl dX12_freeName_21 ?_
    refine x_iload_n C rfl 2 rfl dX12_freeName_22 ?_
    refine x_icmp_ne (tgt := 30) C dX12_freeName_23 (by decide) (fun c9 => ?_) (fun c9 => ?_)
    · have h := h.1 c9
      refine x_iconst (v := 0) C (by decide) dX12_freeName_30 ?_
      refine x_istore C [(6, .int 0), (0, .ref 358), (1, .int p1), (2, .int p2), (3, .int p3), (4, .int x.1), (5, .int x.2.1)] (Nat.le_of_ble_eq_true rfl) rfl dX12_freeName_31 ?_
      refine x_iconst (v := 0) C (by decide) dX12_freeName_33 ?_
      refine x_istore C [(7, .int 0), (6, .int 0), (0, .ref 358), (1, .int p1), (2, .int p2), (3, .int p3), (4, .int x.1), (5, .int x.2.1)] (Nat.le_of_ble_eq_true rfl) rfl dX12_freeName_34 ?_
      refine x_sub [(0, .ref 358), (1, .int p1), (2, .int p2), (3, .int p3), (4, .int x.1), (5, .int x.2.1), (6, .int 0), (7, .int 0)] [2, 3, 4, 5, 6, 7, 1, 0] rfl ?_
      exact G12_freeName_L36_ok C hd hr hK6 h
    · have h := h.2 c9
      refine x_iconst (v := 1) C (by decide) dX12_freeName_26 ?_
      refine x_goto (tgt := 31) C dX12_freeName_27 (by decide) ?_
      refine x_istore C [(6, .int 1), (0, .ref 358), (1, .int p1), (2, .int p2), (3, .int p3), (4, .int x.1), (5, .int x.2.1)] (Nat.le_of_ble_eq_true rfl) rfl dX12_freeName_31 ?_
      refine x_iconst (v := 0) C (by decide) dX12_freeName_33 ?_
      refine x_istore C [(7, .int 0), (6, .int 1), (0, .ref 358), (1, .int p1), (2, .int p2), (3, .int p3), (4, .int x.1), (5, .int x.2.1)] (Nat.le_of_ble_eq_true rfl) rfl dX12_freeName_34 ?_
      refine x_sub [(0, .ref 358), (1, .int p1), (2, .int p2), (3, .int p3), (4, .int x.1), (5, .int x.2.1), (6, .int 1), (7, .int 0)] [2, 3, 4, 5, 6, 7, 1, 0] rfl ?_
      exact G12_freeName_L36_ok C hd hr hK6 h
theorem G12_freeName_L6_ok {p : Program} {e : Env} {s : State} {m : MethodId} {args : Array Value} {below : List Frame} {meth : Method} {c : Code} {l : Launch} {φ : Nat → Nat} {tc : Nat → ClassId} {D : va_G} {s0 : State} {dR : Nat} (C : CX p s m args meth c φ tc D (AX φ) s0 cX12_freeName RX12 8) (hd : G12_freeName_dep ≤ dR) (hr : meth.sig.returnType = (some .int))  {p1 : Int32} {p2 : Int32} {p3 : Int32} {Q : Int32 → MM → Prop}  {x : Int32 × Int32 × MM}    (h : Lp (G12_freeName_L6 p1 p2 p3 Q) x) : WX p l e (rmX dR) s m args below meth c φ tc D (AX φ) 8 0 0 (MQ below (QX φ tc D (QI Q)) args s 0 0 (AX φ)) 6 [(0, .ref 358), (1, .int p1), (2, .int p2), (3, .int p3), (4, .int x.1), (5, .int x.2.1)] [] x.2.2 := by
  obtain ⟨n, h⟩ := h
  induction n generalizing x with
  | zero => exact h.elim
  | succ n ih => exact G12_freeName_L6_b C hd hr   (fun z4 z5 zμ hz => by have q := ih hz; exact q) h
set_option maxHeartbeats 4000000 in
set_option maxRecDepth 100000 in
theorem G12_freeName_met {l : Launch} {φ : Nat → Nat} {tc : Nat → ClassId} {D : va_G} {s0 : State} (hG : GX φ tc D s0) {dR : Nat} (hd : G12_freeName_dep ≤ dR) {v1 : Int32} {v2 : Int32} {v3 : Int32} {μ : MM} {Q : Int32 → MM → Prop}  (h : G12_freeName v1 v2 v3 μ Q) : MX l φ tc D s0 dR yX12_freeName cX12_freeName 8 (some .int) [.ref 358, .int v1, .int v2, .int v3] μ (QI Q) := by
  refine MX.of (own := RX12) hG plX12 rfl (Nat.le_of_ble_eq_true rfl) (fun p e s m args below meth c C hr => ?_)
  refine x_sub [(0, .ref 358), (1, .int v1), (2, .int v2), (3, .int v3)] [0, 1, 2, 3] rfl ?_
  unfold G12_freeName at h
  refine x_iconst (v := 0) C (by decide) dX12_freeName_0 ?_
  refine x_istore C [(4, .int 0), (0, .ref 358), (1, .int v1), (2, .int v2), (3, .int v3)] (Nat.le_of_ble_eq_true rfl) rfl dX12_freeName_1 ?_
  refine x_iconst (v := 0) C (by decide) dX12_freeName_3 ?_
  refine x_istore C [(5, .int 0), (4, .int 0), (0, .ref 358), (1, .int v1), (2, .int v2), (3, .int v3)] (Nat.le_of_ble_eq_true rfl) rfl dX12_freeName_4 ?_
  refine x_sub [(0, .ref 358), (1, .int v1), (2, .int v2), (3, .int v3), (4, .int 0), (5, .int 0)] [2, 3, 4, 5, 1, 0] rfl ?_
  exact G12_freeName_L6_ok C hd hr  h
set_option maxHeartbeats 4000000 in
set_option maxRecDepth 100000 in
theorem G12_deal_J251_ok {p : Program} {e : Env} {s : State} {m : MethodId} {args : Array Value} {below : List Frame} {meth : Method} {c : Code} {l : Launch} {φ : Nat → Nat} {tc : Nat → ClassId} {D : va_G} {s0 : State} {dR : Nat} (C : CX p s m args meth c φ tc D (AX φ) s0 cX12_deal RX12 14) (hd : G12_deal_dep ≤ dR) (hr : meth.sig.returnType = (some .int))   {p1 : Int32} {p2 : Int32} {p3 : Int32} {p6 : Int32} {p7 : Int32} {p9 : Int32} {p10 : Int32} {p12 : Int32} {p13 : Int32} {q0 : Int32} {q1 : Int32} {q2 : Int32} {Q : Int32 → MM → Prop} {K167 : Int32 × MM → Prop} {μ : MM}   (hK167 : ∀ (z9 : Int32) (zμ : MM), K167 (z9, zμ) → WX p l e (rmX dR) s m args below meth c φ tc D (AX φ) 14 0 0 (MQ below (QX φ tc D (QI Q)) args s 0 0 (AX φ)) 167 [(0, .ref 358), (1, .int p1), (2, .int p2), (3, .int p3), (6, .int p6), (7, .int p7), (8, .ref 376), (9, .int z9)] [] zμ) (h : G12_deal_J251 p1 p2 p3 p6 p7 p9 p10 p12 p13 q0 q1 q2 μ K167 Q) : WX p l e (rmX dR) s m args below meth c φ tc D (AX φ) 14 0 0 (MQ below (QX φ tc D (QI Q)) args s 0 0 (AX φ)) 251 [(0, .ref 358), (1, .int p1), (2, .int p2), (3, .int p3), (6, .int p6), (7, .int p7), (8, .ref 376), (9, .int p9), (10, .int p10), (12, .int p12), (13, .int p13)] [.int q0, .int q1, .int q2, .ref 358] μ := by
  unfold G12_deal_J251 at h
  refine x_iconst (v := 0) C (by decide) dX12_deal_251 ?_
  refine x_iload C 9 rfl dX12_deal_252 ?_
  refine x_iload C 10 rfl dX12_deal_254 ?_
  refine x_callV (dC := G12_lays_dep) (as := [.int q2, .int q1, .int q0, .int 0, .int p12, .int p13]) (st := []) C rX kX (Nat.le_trans (Nat.le_of_ble_eq_true rfl) hd) (Nat.le_of_ble_eq_true rfl) ob358.1 ob358.2 (Nat.le_of_ble_eq_true rfl) rfl ts_8_11 tw_6_216 tw_6_214 tc_6_217 tw_1_13 hyX12 hnX12_lays rfl (Nat.le_of_ble_eq_true rfl) dX12_deal_256 (G12_lays_met C.2.2.2.2.2.2.2.1 (Nat.le_refl _)  h) (fun r0 μ68 hq => ?_)
  obtain ⟨rfl, h⟩ := hq
  refine x_st [] rfl ?_
  refine x_aload C 6 rfl dX12_deal_259 ?_
  refine x_iload C 8 rfl dX12_deal_261 ?_
  refine x_dup2_11 C rfl rfl dX12_deal_263 ?_
  obtain ⟨c69, h⟩ := h
  refine x_iald C ob376.1 ob376.2 c69 rfl dX12_deal_264 ?_
  refine x_iconst (v := 1) C (by decide) dX12_deal_265 ?_
  refine x_iadd C dX12_deal_266 ?_
  obtain ⟨c70, h⟩ := h
  refine x_iast C ob376.1 ob376.2 c70 rfl dX12_deal_267 ?_
  refine x_mu (fun μ71 e_μ71 => ?_)
  have h := h μ71 e_μ71
  refine x_iinc (v := (p9 + 1)) C [(9, .int (p9 + 1)), (0, .ref 358), (1, .int p1), (2, .int p2), (3, .int p3), (6, .int p6), (7, .int p7), (8, .ref 376), (10, .int p10), (12, .int p12), (13, .int p13)] 7 rfl (congrArg (fun z => p9 + z) (by decide : Int32.ofInt (1) = 1)) (Nat.le_of_ble_eq_true rfl) rfl dX12_deal_268 ?_
  refine x_goto (tgt := 167) C dX12_deal_271 (by decide) ?_
  refine x_sub [(0, .ref 358), (1, .int p1), (2, .int p2), (3, .int p3), (6, .int p6), (7, .int p7), (8, .ref 376), (9, .int (p9 + 1))] [1, 2, 3, 4, 5, 6, 7, 0] rfl ?_
  exact hK167 _ _ h
set_option maxHeartbeats 4000000 in
set_option maxRecDepth 100000 in
theorem G12_deal_J192_ok {p : Program} {e : Env} {s : State} {m : MethodId} {args : Array Value} {below : List Frame} {meth : Method} {c : Code} {l : Launch} {φ : Nat → Nat} {tc : Nat → ClassId} {D : va_G} {s0 : State} {dR : Nat} (C : CX p s m args meth c φ tc D (AX φ) s0 cX12_deal RX12 14) (hd : G12_deal_dep ≤ dR) (hr : meth.sig.returnType = (some .int))   {p1 : Int32} {p2 : Int32} {p3 : Int32} {p6 : Int32} {p7 : Int32} {p9 : Int32} {q0 : Int32} {Q : Int32 → MM → Prop} {K167 : Int32 × MM → Prop} {μ : MM}   (hK167 : ∀ (z9 : Int32) (zμ : MM), K167 (z9, zμ) → WX p l e (rmX dR) s m args below meth c φ tc D (AX φ) 14 0 0 (MQ below (QX φ tc D (QI Q)) args s 0 0 (AX φ)) 167 [(0, .ref 358), (1, .int p1), (2, .int p2), (3, .int p3), (6, .int p6), (7, .int p7), (8, .ref 376), (9, .int z9)] [] zμ) (h : G12_deal_J192 p1 p2 p3 p6 p7 p9 q0 μ K167 Q) : WX p l e (rmX dR) s m args below meth c φ tc D (AX φ) 14 0 0 (MQ below (QX φ tc D (QI Q)) args s 0 0 (AX φ)) 192 [(0, .ref 358), (1, .int p1), (2, .int p2), (3, .int p3), (6, .int p6), (7, .int p7), (8, .ref 376), (9, .int p9)] [.int q0] μ := by
  unfold G12_deal_J192 at h
  refine x_callS (dC := G12_flag_dep) (as := [.int q0]) (st := []) C rX kX (Nat.le_trans (Nat.le_of_ble_eq_true rfl) hd) (Nat.le_of_ble_eq_true rfl) tw_6_212 tw_6_211 tc_6_213 tw_1_13 hyX12 hnX12_flag rfl (Nat.le_of_ble_eq_true rfl) dX12_deal_192 (G12_flag_met C.2.2.2.2.2.2.2.1 (Nat.le_refl _)  h) (fun r0 μ54 hq => ?_)
  obtain ⟨r55, rfl, h⟩ := hq
  refine x_st [.int r55] rfl ?_
  refine x_istore C [(10, .int r55), (0, .ref 358), (1, .int p1), (2, .int p2), (3, .int p3), (6, .int p6), (7, .int p7), (8, .ref 376), (9, .int p9)] (Nat.le_of_ble_eq_true rfl) rfl dX12_deal_195 ?_
  refine x_aload_n C rfl 1 rfl dX12_deal_197 ?_
  refine x_iload_n C rfl 2 rfl dX12_deal_198 ?_
  refine x_iload C 0 rfl dX12_deal_199 ?_
  refine x_aload_n C rfl 1 rfl dX12_deal_201 ?_
  refine x_aload_n C rfl 1 rfl dX12_deal_202 ?_
  refine x_iload_n C rfl 2 rfl dX12_deal_203 ?_
  refine x_iload C 0 rfl dX12_deal_204 ?_
  refine x_iconst (v := (-1)) C (by decide) dX12_deal_206 ?_
  refine x_callV (dC := G12_freeName_dep) (as := [.int p1, .int r55, .int (-1)]) (st := [.ref 358, .int r55, .int p1, .ref 358]) C rX kX (Nat.le_trans (Nat.le_of_ble_eq_true rfl) hd) (Nat.le_of_ble_eq_true rfl) ob358.1 ob358.2 (Nat.le_of_ble_eq_true rfl) rfl ts_8_14 tw_6_233 tw_6_231 tc_6_234 tw_1_13 hyX12 hnX12_freeName rfl (Nat.le_of_ble_eq_true rfl) dX12_deal_207 (G12_freeName_met C.2.2.2.2.2.2.2.1 (Nat.le_refl _)  h) (fun r0 μ56 hq => ?_)
  obtain ⟨r57, rfl, h⟩ := hq
  refine x_st [.int r57, .ref 358, .int r55, .int p1, .ref 358] rfl ?_
  refine x_callV (dC := G12_draws_dep) (as := [.int r57]) (st := [.int r55, .int p1, .ref 358]) C rX kX (Nat.le_trans (Nat.le_of_ble_eq_true rfl) hd) (Nat.le_of_ble_eq_true rfl) ob358.1 ob358.2 (Nat.le_of_ble_eq_true rfl) rfl ts_8_13 tw_6_228 tw_6_226 tc_6_229 tw_1_13 hyX12 hnX12_draws rfl (Nat.le_of_ble_eq_true rfl) dX12_deal_210 (G12_draws_met C.2.2.2.2.2.2.2.1 (Nat.le_refl _)  h) (fun r0 μ58 hq => ?_)
  obtain ⟨r59, rfl, h⟩ := hq
  refine x_st [.int r59, .int r55, .int p1, .ref 358] rfl ?_
  refine x_callV (dC := G12_freeName_dep) (as := [.int p1, .int r55, .int r59]) (st := []) C rX kX (Nat.le_trans (Nat.le_of_ble_eq_true rfl) hd) (Nat.le_of_ble_eq_true rfl) ob358.1 ob358.2 (Nat.le_of_ble_eq_true rfl) rfl ts_8_14 tw_6_233 tw_6_231 tc_6_234 tw_1_13 hyX12 hnX12_freeName rfl (Nat.le_of_ble_eq_true rfl) dX12_deal_213 (G12_freeName_met C.2.2.2.2.2.2.2.1 (Nat.le_refl _)  h) (fun r0 μ60 hq => ?_)
  obtain ⟨r61, rfl, h⟩ := hq
  refine x_st [.int r61] rfl ?_
  refine x_istore C [(11, .int r61), (10, .int r55), (0, .ref 358), (1, .int p1), (2, .int p2), (3, .int p3), (6, .int p6), (7, .int p7), (8, .ref 376), (9, .int p9)] (Nat.le_of_ble_eq_true rfl) rfl dX12_deal_216 ?_
  refine x_aload_n C rfl 2 rfl dX12_deal_218 ?_
  refine x_iconst (v := 4) C (by decide) dX12_deal_219 ?_
  refine x_callV (dC := G12_draws_dep) (as := [.int 4]) (st := []) C rX kX (Nat.le_trans (Nat.le_of_ble_eq_true rfl) hd) (Nat.le_of_ble_eq_true rfl) ob358.1 ob358.2 (Nat.le_of_ble_eq_true rfl) rfl ts_8_13 tw_6_228 tw_6_226 tc_6_229 tw_1_13 hyX12 hnX12_draws rfl (Nat.le_of_ble_eq_true rfl) dX12_deal_220 (G12_draws_met C.2.2.2.2.2.2.2.1 (Nat.le_refl _)  h) (fun r0 μ62 hq => ?_)
  obtain ⟨r63, rfl, h⟩ := hq
  refine x_st [.int r63] rfl ?_
  refine x_istore C [(12, .int r63), (11, .int r61), (10, .int r55), (0, .ref 358), (1, .int p1), (2, .int p2), (3, .int p3), (6, .int p6), (7, .int p7), (8, .ref 376), (9, .int p9)] (Nat.le_of_ble_eq_true rfl) rfl dX12_deal_223 ?_
  refine x_aload_n C rfl 3 rfl dX12_deal_225 ?_
  refine x_sipush (v := 400) C (by decide) dX12_deal_226 ?_
  refine x_callV (dC := G12_draws_dep) (as := [.int 400]) (st := []) C rX kX (Nat.le_trans (Nat.le_of_ble_eq_true rfl) hd) (Nat.le_of_ble_eq_true rfl) ob358.1 ob358.2 (Nat.le_of_ble_eq_true rfl) rfl ts_8_13 tw_6_228 tw_6_226 tc_6_229 tw_1_13 hyX12 hnX12_draws rfl (Nat.le_of_ble_eq_true rfl) dX12_deal_229 (G12_draws_met C.2.2.2.2.2.2.2.1 (Nat.le_refl _)  h) (fun r0 μ64 hq => ?_)
  obtain ⟨r65, rfl, h⟩ := hq
  refine x_st [.int r65] rfl ?_
  refine x_istore C [(13, .int r65), (12, .int r63), (11, .int r61), (10, .int r55), (0, .ref 358), (1, .int p1), (2, .int p2), (3, .int p3), (6, .int p6), (7, .int p7), (8, .ref 376), (9, .int p9)] (Nat.le_of_ble_eq_true rfl) rfl dX12_deal_232 ?_
  refine x_aload_n C rfl 4 rfl dX12_deal_234 ?_
  refine x_iload_n C rfl 5 rfl dX12_deal_235 ?_
  refine x_iload C 2 rfl dX12_deal_236 ?_
  refine x_aload C 10 rfl dX12_deal_238 ?_
  refine x_iload C 3 rfl dX12_deal_240 ?_
  obtain ⟨c66, h⟩ := h
  refine x_iald C ob376.1 ob376.2 c66 rfl dX12_deal_242 ?_
  refine x_if_ne (tgt := 250) C dX12_deal_243 (by decide) (fun c67 => ?_) (fun c67 => ?_)
  · have h := h.1 c67
    refine x_iload_n C rfl 7 rfl dX12_deal_250 ?_
    refine x_sub [(0, .ref 358), (1, .int p1), (2, .int p2), (3, .int p3), (6, .int p6), (7, .int p7), (8, .ref 376), (9, .int p9), (10, .int r55), (12, .int r63), (13, .int r65)] [4, 5, 6, 7, 8, 9, 10, 11, 3, 1, 0] rfl ?_
    exact G12_deal_J251_ok C hd hr hK167 h
  · have h := h.2 c67
    refine x_iload_n C rfl 6 rfl dX12_deal_246 ?_
    refine x_goto (tgt := 251) C dX12_deal_247 (by decide) ?_
    refine x_sub [(0, .ref 358), (1, .int p1), (2, .int p2), (3, .int p3), (6, .int p6), (7, .int p7), (8, .ref 376), (9, .int p9), (10, .int r55), (12, .int r63), (13, .int r65)] [4, 5, 6, 7, 8, 9, 10, 11, 3, 1, 0] rfl ?_
    exact G12_deal_J251_ok C hd hr hK167 h
set_option maxHeartbeats 4000000 in
set_option maxRecDepth 100000 in
theorem G12_deal_J187_ok {p : Program} {e : Env} {s : State} {m : MethodId} {args : Array Value} {below : List Frame} {meth : Method} {c : Code} {l : Launch} {φ : Nat → Nat} {tc : Nat → ClassId} {D : va_G} {s0 : State} {dR : Nat} (C : CX p s m args meth c φ tc D (AX φ) s0 cX12_deal RX12 14) (hd : G12_deal_dep ≤ dR) (hr : meth.sig.returnType = (some .int))   {p1 : Int32} {p2 : Int32} {p3 : Int32} {p6 : Int32} {p7 : Int32} {p9 : Int32} {Q : Int32 → MM → Prop} {K167 : Int32 × MM → Prop} {μ : MM}   (hK167 : ∀ (z9 : Int32) (zμ : MM), K167 (z9, zμ) → WX p l e (rmX dR) s m args below meth c φ tc D (AX φ) 14 0 0 (MQ below (QX φ tc D (QI Q)) args s 0 0 (AX φ)) 167 [(0, .ref 358), (1, .int p1), (2, .int p2), (3, .int p3), (6, .int p6), (7, .int p7), (8, .ref 376), (9, .int z9)] [] zμ) (h : G12_deal_J187 p1 p2 p3 p6 p7 p9 μ K167 Q) : WX p l e (rmX dR) s m args below meth c φ tc D (AX φ) 14 0 0 (MQ below (QX φ tc D (QI Q)) args s 0 0 (AX φ)) 187 [(0, .ref 358), (1, .int p1), (2, .int p2), (3, .int p3), (6, .int p6), (7, .int p7), (8, .ref 376), (9, .int p9)] [] μ := by
  unfold G12_deal_J187 at h
  refine x_iconst (v := 1) C (by decide) dX12_deal_187 ?_
  refine x_goto (tgt := 192) C dX12_deal_188 (by decide) ?_
  exact G12_deal_J192_ok C hd hr hK167 h
set_option maxHeartbeats 4000000 in
set_option maxRecDepth 100000 in
theorem G12_deal_L167_b {p : Program} {e : Env} {s : State} {m : MethodId} {args : Array Value} {below : List Frame} {meth : Method} {c : Code} {l : Launch} {φ : Nat → Nat} {tc : Nat → ClassId} {D : va_G} {s0 : State} {dR : Nat} (C : CX p s m args meth c φ tc D (AX φ) s0 cX12_deal RX12 14) (hd : G12_deal_dep ≤ dR) (hr : meth.sig.returnType = (some .int))  {p1 : Int32} {p2 : Int32} {p3 : Int32} {p6 : Int32} {p7 : Int32} {Q : Int32 → MM → Prop} {K167 : Int32 × MM → Prop} {x : Int32 × MM}   (hK167 : ∀ (z9 : Int32) (zμ : MM), K167 (z9, zμ) → WX p l e (rmX dR) s m args below meth c φ tc D (AX φ) 14 0 0 (MQ below (QX φ tc D (QI Q)) args s 0 0 (AX φ)) 167 [(0, .ref 358), (1, .int p1), (2, .int p2), (3, .int p3), (6, .int p6), (7, .int p7), (8, .ref 376), (9, .int z9)] [] zμ) (h : G12_deal_L167 p1 p2 p3 p6 p7 Q K167 x) : WX p l e (rmX dR) s m args below meth c φ tc D (AX φ) 14 0 0 (MQ below (QX φ tc D (QI Q)) args s 0 0 (AX φ)) 167 [(0, .ref 358), (1, .int p1), (2, .int p2), (3, .int p3), (6, .int p6), (7, .int p7), (8, .ref 376), (9, .int x.1)] [] x.2 := by
  unfold G12_deal_L167 at h
  refine x_iload C 7 rfl dX12_deal_167 ?_
  refine x_iconst (v := 4) C (by decide) dX12_deal_169 ?_
  refine x_icmp_ge (tgt := 274) C dX12_deal_170 (by decide) (fun c52 => ?_) (fun c52 => ?_)
  · have h := h.1 c52
    refine x_aload_n C rfl 0 rfl dX12_deal_274 ?_
    refine x_getI C (j := 12) ob358.1 ob358.2 (Nat.le_of_ble_eq_true rfl) (Nat.le_of_ble_eq_true rfl) (Or.inl rfl) tw_8_218 dX12_deal_275 ?_
    exact x_iret C hr dX12_deal_278 ⟨_, rfl, h⟩
  · have h := h.2 c52
    refine x_iload C 7 rfl dX12_deal_173 ?_
    refine x_iload C 4 rfl dX12_deal_175 ?_
    refine x_icmp_eq (tgt := 187) C dX12_deal_177 (by decide) (fun c53 => ?_) (fun c53 => ?_)
    · have h := h.1 c53
      exact G12_deal_J187_ok C hd hr hK167 h
    · have h := h.2 c53
      refine x_iload C 7 rfl dX12_deal_180 ?_
      refine x_iload C 5 rfl dX12_deal_182 ?_
      refine x_icmp_ne (tgt := 191) C dX12_deal_184 (by decide) (fun c72 => ?_) (fun c72 => ?_)
      · have h := h.1 c72
        refine x_iconst (v := 0) C (by decide) dX12_deal_191 ?_
        exact G12_deal_J192_ok C hd hr hK167 h
      · have h := h.2 c72
        exact G12_deal_J187_ok C hd hr hK167 h
theorem G12_deal_L167_ok {p : Program} {e : Env} {s : State} {m : MethodId} {args : Array Value} {below : List Frame} {meth : Method} {c : Code} {l : Launch} {φ : Nat → Nat} {tc : Nat → ClassId} {D : va_G} {s0 : State} {dR : Nat} (C : CX p s m args meth c φ tc D (AX φ) s0 cX12_deal RX12 14) (hd : G12_deal_dep ≤ dR) (hr : meth.sig.returnType = (some .int))  {p1 : Int32} {p2 : Int32} {p3 : Int32} {p6 : Int32} {p7 : Int32} {Q : Int32 → MM → Prop}  {x : Int32 × MM}    (h : Lp (G12_deal_L167 p1 p2 p3 p6 p7 Q) x) : WX p l e (rmX dR) s m args below meth c φ tc D (AX φ) 14 0 0 (MQ below (QX φ tc D (QI Q)) args s 0 0 (AX φ)) 167 [(0, .ref 358), (1, .int p1), (2, .int p2), (3, .int p3), (6, .int p6), (7, .int p7), (8, .ref 376), (9, .int x.1)] [] x.2 := by
  obtain ⟨n, h⟩ := h
  induction n generalizing x with
  | zero => exact h.elim
  | succ n ih => exact G12_deal_L167_b C hd hr   (fun z9 zμ hz => by have q := ih hz; exact q) h
set_option maxHeartbeats 4000000 in
set_option maxRecDepth 100000 in
theorem G12_deal_J146_ok {p : Program} {e : Env} {s : State} {m : MethodId} {args : Array Value} {below : List Frame} {meth : Method} {c : Code} {l : Launch} {φ : Nat → Nat} {tc : Nat → ClassId} {D : va_G} {s0 : State} {dR : Nat} (C : CX p s m args meth c φ tc D (AX φ) s0 cX12_deal RX12 14) (hd : G12_deal_dep ≤ dR) (hr : meth.sig.returnType = (some .int))   {p1 : Int32} {p2 : Int32} {p3 : Int32} {p6 : Int32} {q0 : Int32} {Q : Int32 → MM → Prop}  {μ : MM}    (h : G12_deal_J146 p1 p2 p3 p6 q0 μ Q) : WX p l e (rmX dR) s m args below meth c φ tc D (AX φ) 14 0 0 (MQ below (QX φ tc D (QI Q)) args s 0 0 (AX φ)) 146 [(0, .ref 358), (1, .int p1), (2, .int p2), (3, .int p3), (6, .int p6)] [.int q0] μ := by
  unfold G12_deal_J146 at h
  refine x_istore C [(7, .int q0), (0, .ref 358), (1, .int p1), (2, .int p2), (3, .int p3), (6, .int p6)] (Nat.le_of_ble_eq_true rfl) rfl dX12_deal_146 ?_
  refine x_aload_n C rfl 1 rfl dX12_deal_148 ?_
  refine x_getR (r := 376) C (j := 23) ob358.1 ob358.2 (Nat.le_of_ble_eq_true rfl) (Nat.le_of_ble_eq_true rfl) (fun _ _ _ => rfl) r_358_23 tw_8_229 dX12_deal_149 ?_
  refine x_astore C [(8, .ref 376), (7, .int q0), (0, .ref 358), (1, .int p1), (2, .int p2), (3, .int p3), (6, .int p6)] (Nat.le_of_ble_eq_true rfl) rfl dX12_deal_152 ?_
  refine x_aload C 0 rfl dX12_deal_154 ?_
  refine x_iconst (v := 0) C (by decide) dX12_deal_156 ?_
  refine x_iconst (v := 0) C (by decide) dX12_deal_157 ?_
  refine x_iast C ob376.1 ob376.2 (by unfold vp_in; decide) (j := 0) (by decide) dX12_deal_158 ?_
  refine x_mu (fun μ50 e_μ50 => ?_)
  have h := h μ50 e_μ50
  refine x_aload C 0 rfl dX12_deal_159 ?_
  refine x_iconst (v := 1) C (by decide) dX12_deal_161 ?_
  refine x_iconst (v := 0) C (by decide) dX12_deal_162 ?_
  refine x_iast C ob376.1 ob376.2 (by unfold vp_in; decide) (j := 1) (by decide) dX12_deal_163 ?_
  refine x_mu (fun μ51 e_μ51 => ?_)
  have h := h μ51 e_μ51
  refine x_iconst (v := 0) C (by decide) dX12_deal_164 ?_
  refine x_istore C [(9, .int 0), (8, .ref 376), (7, .int q0), (0, .ref 358), (1, .int p1), (2, .int p2), (3, .int p3), (6, .int p6)] (Nat.le_of_ble_eq_true rfl) rfl dX12_deal_165 ?_
  refine x_sub [(0, .ref 358), (1, .int p1), (2, .int p2), (3, .int p3), (6, .int p6), (7, .int q0), (8, .ref 376), (9, .int 0)] [3, 4, 5, 6, 7, 2, 1, 0] rfl ?_
  exact G12_deal_L167_ok C hd hr  h
set_option maxHeartbeats 4000000 in
set_option maxRecDepth 100000 in
theorem G12_deal_J117_ok {p : Program} {e : Env} {s : State} {m : MethodId} {args : Array Value} {below : List Frame} {meth : Method} {c : Code} {l : Launch} {φ : Nat → Nat} {tc : Nat → ClassId} {D : va_G} {s0 : State} {dR : Nat} (C : CX p s m args meth c φ tc D (AX φ) s0 cX12_deal RX12 14) (hd : G12_deal_dep ≤ dR) (hr : meth.sig.returnType = (some .int))   {p1 : Int32} {p2 : Int32} {p3 : Int32} {p5 : Int32} {q0 : Int32} {Q : Int32 → MM → Prop}  {μ : MM}    (h : G12_deal_J117 p1 p2 p3 p5 q0 μ Q) : WX p l e (rmX dR) s m args below meth c φ tc D (AX φ) 14 0 0 (MQ below (QX φ tc D (QI Q)) args s 0 0 (AX φ)) 117 [(0, .ref 358), (1, .int p1), (2, .int p2), (3, .int p3), (5, .int p5)] [.int q0] μ := by
  unfold G12_deal_J117 at h
  refine x_istore C [(6, .int q0), (0, .ref 358), (1, .int p1), (2, .int p2), (3, .int p3), (5, .int p5)] (Nat.le_of_ble_eq_true rfl) rfl dX12_deal_117 ?_
  refine x_iload C 5 rfl dX12_deal_119 ?_
  refine x_iconst (v := 3) C (by decide) dX12_deal_121 ?_
  refine x_icmp_ge (tgt := 132) C dX12_deal_122 (by decide) (fun c48 => ?_) (fun c48 => ?_)
  · have h := h.1 c48
    refine x_iload C 5 rfl dX12_deal_132 ?_
    refine x_iconst (v := 5) C (by decide) dX12_deal_134 ?_
    refine x_icmp_ge (tgt := 145) C dX12_deal_135 (by decide) (fun c49 => ?_) (fun c49 => ?_)
    · have h := h.1 c49
      refine x_iconst (v := 3) C (by decide) dX12_deal_145 ?_
      refine x_sub [(0, .ref 358), (1, .int p1), (2, .int p2), (3, .int p3), (6, .int q0)] [1, 2, 3, 4, 0] rfl ?_
      exact G12_deal_J146_ok C hd hr  h
    · have h := h.2 c49
      refine x_iload C 5 rfl dX12_deal_138 ?_
      refine x_iconst (v := 1) C (by decide) dX12_deal_140 ?_
      refine x_isub C dX12_deal_141 ?_
      refine x_goto (tgt := 146) C dX12_deal_142 (by decide) ?_
      refine x_sub [(0, .ref 358), (1, .int p1), (2, .int p2), (3, .int p3), (6, .int q0)] [1, 2, 3, 4, 0] rfl ?_
      exact G12_deal_J146_ok C hd hr  h
  · have h := h.2 c48
    refine x_iload C 5 rfl dX12_deal_125 ?_
    refine x_iconst (v := 1) C (by decide) dX12_deal_127 ?_
    refine x_iadd C dX12_deal_128 ?_
    refine x_goto (tgt := 146) C dX12_deal_129 (by decide) ?_
    refine x_sub [(0, .ref 358), (1, .int p1), (2, .int p2), (3, .int p3), (6, .int q0)] [1, 2, 3, 4, 0] rfl ?_
    exact G12_deal_J146_ok C hd hr  h
set_option maxHeartbeats 4000000 in
set_option maxRecDepth 100000 in
theorem G12_deal_J60_ok {p : Program} {e : Env} {s : State} {m : MethodId} {args : Array Value} {below : List Frame} {meth : Method} {c : Code} {l : Launch} {φ : Nat → Nat} {tc : Nat → ClassId} {D : va_G} {s0 : State} {dR : Nat} (C : CX p s m args meth c φ tc D (AX φ) s0 cX12_deal RX12 14) (hd : G12_deal_dep ≤ dR) (hr : meth.sig.returnType = (some .int))   {p1 : Int32} {p2 : Int32} {p3 : Int32} {q0 : Int32} {Q : Int32 → MM → Prop}  {μ : MM}    (h : G12_deal_J60 p1 p2 p3 q0 μ Q) : WX p l e (rmX dR) s m args below meth c φ tc D (AX φ) 14 0 0 (MQ below (QX φ tc D (QI Q)) args s 0 0 (AX φ)) 60 [(0, .ref 358), (1, .int p1), (2, .int p2), (3, .int p3)] [.int q0] μ := by
  unfold G12_deal_J60 at h
  refine x_istore C [(4, .int q0), (0, .ref 358), (1, .int p1), (2, .int p2), (3, .int p3)] (Nat.le_of_ble_eq_true rfl) rfl dX12_deal_60 ?_
  refine x_iload C 0 rfl dX12_deal_62 ?_
  refine x_if_eq (tgt := 86) C dX12_deal_64 (by decide) (fun c39 => ?_) (fun c39 => ?_)
  · have h := h.1 c39
    refine x_iconst (v := (-1)) C (by decide) dX12_deal_86 ?_
    exact x_iret C hr dX12_deal_87 ⟨_, rfl, h⟩
  · have h := h.2 c39
    refine x_aload_n C rfl 1 rfl dX12_deal_67 ?_
    refine x_iload_n C rfl 2 rfl dX12_deal_68 ?_
    refine x_callV (dC := G12_lettersTo_dep) (as := [.int p1]) (st := []) C rX kX (Nat.le_trans (Nat.le_of_ble_eq_true rfl) hd) (Nat.le_of_ble_eq_true rfl) ob358.1 ob358.2 (Nat.le_of_ble_eq_true rfl) rfl ts_8_10 tw_6_209 tw_6_207 tc_6_210 tw_1_13 hyX12 hnX12_lettersTo rfl (Nat.le_of_ble_eq_true rfl) dX12_deal_69 (G12_lettersTo_met C.2.2.2.2.2.2.2.1 (Nat.le_refl _)  h) (fun r0 μ40 hq => ?_)
    obtain ⟨r41, rfl, h⟩ := hq
    refine x_st [.int r41] rfl ?_
    refine x_if_gt (tgt := 86) C dX12_deal_72 (by decide) (fun c42 => ?_) (fun c42 => ?_)
    · have h := h.1 c42
      refine x_iconst (v := (-1)) C (by decide) dX12_deal_86 ?_
      exact x_iret C hr dX12_deal_87 ⟨_, rfl, h⟩
    · have h := h.2 c42
      refine x_aload_n C rfl 1 rfl dX12_deal_75 ?_
      refine x_getI C (j := 12) ob358.1 ob358.2 (Nat.le_of_ble_eq_true rfl) (Nat.le_of_ble_eq_true rfl) (Or.inl rfl) tw_8_218 dX12_deal_76 ?_
      refine x_iconst (v := 4) C (by decide) dX12_deal_79 ?_
      refine x_iadd C dX12_deal_80 ?_
      refine x_bipush (v := 96) C (by decide) dX12_deal_81 ?_
      refine x_icmp_le (tgt := 88) C dX12_deal_83 (by decide) (fun c43 => ?_) (fun c43 => ?_)
      · have h := h.1 c43
        refine x_aload_n C rfl 1 rfl dX12_deal_88 ?_
        refine x_bipush (v := 6) C (by decide) dX12_deal_89 ?_
        refine x_callV (dC := G12_draws_dep) (as := [.int 6]) (st := []) C rX kX (Nat.le_trans (Nat.le_of_ble_eq_true rfl) hd) (Nat.le_of_ble_eq_true rfl) ob358.1 ob358.2 (Nat.le_of_ble_eq_true rfl) rfl ts_8_13 tw_6_228 tw_6_226 tc_6_229 tw_1_13 hyX12 hnX12_draws rfl (Nat.le_of_ble_eq_true rfl) dX12_deal_91 (G12_draws_met C.2.2.2.2.2.2.2.1 (Nat.le_refl _)  h) (fun r0 μ44 hq => ?_)
        obtain ⟨r45, rfl, h⟩ := hq
        refine x_st [.int r45] rfl ?_
        refine x_istore C [(5, .int r45), (4, .int q0), (0, .ref 358), (1, .int p1), (2, .int p2), (3, .int p3)] (Nat.le_of_ble_eq_true rfl) rfl dX12_deal_94 ?_
        refine x_iload C 0 rfl dX12_deal_96 ?_
        refine x_iconst (v := 3) C (by decide) dX12_deal_98 ?_
        refine x_icmp_ge (tgt := 106) C dX12_deal_99 (by decide) (fun c46 => ?_) (fun c46 => ?_)
        · have h := h.1 c46
          refine x_iload C 0 rfl dX12_deal_106 ?_
          refine x_iconst (v := 5) C (by decide) dX12_deal_108 ?_
          refine x_icmp_ge (tgt := 116) C dX12_deal_109 (by decide) (fun c47 => ?_) (fun c47 => ?_)
          · have h := h.1 c47
            refine x_iconst (v := 2) C (by decide) dX12_deal_116 ?_
            refine x_sub [(0, .ref 358), (1, .int p1), (2, .int p2), (3, .int p3), (5, .int r45)] [2, 3, 4, 5, 0] rfl ?_
            exact G12_deal_J117_ok C hd hr  h
          · have h := h.2 c47
            refine x_iconst (v := 1) C (by decide) dX12_deal_112 ?_
            refine x_goto (tgt := 117) C dX12_deal_113 (by decide) ?_
            refine x_sub [(0, .ref 358), (1, .int p1), (2, .int p2), (3, .int p3), (5, .int r45)] [2, 3, 4, 5, 0] rfl ?_
            exact G12_deal_J117_ok C hd hr  h
        · have h := h.2 c46
          refine x_iconst (v := 0) C (by decide) dX12_deal_102 ?_
          refine x_goto (tgt := 117) C dX12_deal_103 (by decide) ?_
          refine x_sub [(0, .ref 358), (1, .int p1), (2, .int p2), (3, .int p3), (5, .int r45)] [2, 3, 4, 5, 0] rfl ?_
          exact G12_deal_J117_ok C hd hr  h
      · have h := h.2 c43
        refine x_iconst (v := (-1)) C (by decide) dX12_deal_86 ?_
        exact x_iret C hr dX12_deal_87 ⟨_, rfl, h⟩
set_option maxHeartbeats 4000000 in
set_option maxRecDepth 100000 in
theorem G12_deal_J59_ok {p : Program} {e : Env} {s : State} {m : MethodId} {args : Array Value} {below : List Frame} {meth : Method} {c : Code} {l : Launch} {φ : Nat → Nat} {tc : Nat → ClassId} {D : va_G} {s0 : State} {dR : Nat} (C : CX p s m args meth c φ tc D (AX φ) s0 cX12_deal RX12 14) (hd : G12_deal_dep ≤ dR) (hr : meth.sig.returnType = (some .int))   {p1 : Int32} {p2 : Int32} {p3 : Int32} {Q : Int32 → MM → Prop}  {μ : MM}    (h : G12_deal_J59 p1 p2 p3 μ Q) : WX p l e (rmX dR) s m args below meth c φ tc D (AX φ) 14 0 0 (MQ below (QX φ tc D (QI Q)) args s 0 0 (AX φ)) 59 [(0, .ref 358), (1, .int p1), (2, .int p2), (3, .int p3)] [] μ := by
  unfold G12_deal_J59 at h
  refine x_iconst (v := 0) C (by decide) dX12_deal_59 ?_
  exact G12_deal_J60_ok C hd hr  h
set_option maxHeartbeats 4000000 in
set_option maxRecDepth 100000 in
theorem G12_deal_met {l : Launch} {φ : Nat → Nat} {tc : Nat → ClassId} {D : va_G} {s0 : State} (hG : GX φ tc D s0) {dR : Nat} (hd : G12_deal_dep ≤ dR) {v1 : Int32} {v2 : Int32} {v3 : Int32} {μ : MM} {Q : Int32 → MM → Prop}  (h : G12_deal v1 v2 v3 μ Q) : MX l φ tc D s0 dR yX12_deal cX12_deal 14 (some .int) [.ref 358, .int v1, .int v2, .int v3] μ (QI Q) := by
  refine MX.of (own := RX12) hG plX12 rfl (Nat.le_of_ble_eq_true rfl) (fun p e s m args below meth c C hr => ?_)
  refine x_sub [(0, .ref 358), (1, .int v1), (2, .int v2), (3, .int v3)] [0, 1, 2, 3] rfl ?_
  unfold G12_deal at h
  refine x_aload_n C rfl 0 rfl dX12_deal_0 ?_
  refine x_iconst (v := 0) C (by decide) dX12_deal_1 ?_
  refine x_putI C (j := 0) ob358.1 ob358.2 (Nat.le_of_ble_eq_true rfl) (Nat.le_of_ble_eq_true rfl) (Or.inl rfl) rfl rfl rfl tw_8_206 dX12_deal_2 ?_
  refine x_mu (fun μ35 e_μ35 => ?_)
  have h := h μ35 e_μ35
  refine x_aload_n C rfl 0 rfl dX12_deal_5 ?_
  refine x_iload_n C rfl 1 rfl dX12_deal_6 ?_
  refine x_callV (dC := G12_isHouse_dep) (as := [.int v1]) (st := []) C rX kX (Nat.le_trans (Nat.le_of_ble_eq_true rfl) hd) (Nat.le_of_ble_eq_true rfl) ob358.1 ob358.2 (Nat.le_of_ble_eq_true rfl) rfl ts_8_8 tw_6_198 tw_6_196 tc_6_200 tw_1_13 hyX12 hnX12_isHouse rfl (Nat.le_of_ble_eq_true rfl) dX12_deal_7 (G12_isHouse_met C.2.2.2.2.2.2.2.1 (Nat.le_refl _)  h) (fun r0 μ36 hq => ?_)
  obtain ⟨r37, rfl, h⟩ := hq
  refine x_st [.int r37] rfl ?_
  refine x_if_eq (tgt := 59) C dX12_deal_10 (by decide) (fun c38 => ?_) (fun c38 => ?_)
  · have h := h.1 c38
    exact G12_deal_J59_ok C hd hr  h
  · have h := h.2 c38
    refine x_iload_n C rfl 2 rfl dX12_deal_13 ?_
    refine x_i2l C dX12_deal_14 ?_
    refine x_lconst (v := 0) C (by decide) dX12_deal_15 ?_
    refine x_ldc2 (v := 99) C tw_6_205 dX12_deal_16 ?_
    refine x_callS (dC := G12_in_dep) (as := [.long (v2.toInt64), .long 0, .long 99]) (st := []) C rX kX (Nat.le_trans (Nat.le_of_ble_eq_true rfl) hd) (Nat.le_of_ble_eq_true rfl) tw_6_183 tw_6_182 tc_6_184 tw_1_13 hyX12 hnX12_in rfl (Nat.le_of_ble_eq_true rfl) dX12_deal_19 (G12_in_met C.2.2.2.2.2.2.2.1 (Nat.le_refl _)  h) (fun r0 μ73 hq => ?_)
    obtain ⟨r74, rfl, h⟩ := hq
    refine x_st [.int r74] rfl ?_
    refine x_if_eq (tgt := 59) C dX12_deal_22 (by decide) (fun c75 => ?_) (fun c75 => ?_)
    · have h := h.1 c75
      exact G12_deal_J59_ok C hd hr  h
    · have h := h.2 c75
      refine x_iload_n C rfl 3 rfl dX12_deal_25 ?_
      refine x_i2l C dX12_deal_26 ?_
      refine x_lconst (v := 0) C (by decide) dX12_deal_27 ?_
      refine x_ldc2 (v := 99) C tw_6_205 dX12_deal_28 ?_
      refine x_callS (dC := G12_in_dep) (as := [.long (v3.toInt64), .long 0, .long 99]) (st := []) C rX kX (Nat.le_trans (Nat.le_of_ble_eq_true rfl) hd) (Nat.le_of_ble_eq_true rfl) tw_6_183 tw_6_182 tc_6_184 tw_1_13 hyX12 hnX12_in rfl (Nat.le_of_ble_eq_true rfl) dX12_deal_31 (G12_in_met C.2.2.2.2.2.2.2.1 (Nat.le_refl _)  h) (fun r0 μ76 hq => ?_)
      obtain ⟨r77, rfl, h⟩ := hq
      refine x_st [.int r77] rfl ?_
      refine x_if_eq (tgt := 59) C dX12_deal_34 (by decide) (fun c78 => ?_) (fun c78 => ?_)
      · have h := h.1 c78
        exact G12_deal_J59_ok C hd hr  h
      · have h := h.2 c78
        refine x_aload_n C rfl 0 rfl dX12_deal_37 ?_
        refine x_iconst (v := 0) C (by decide) dX12_deal_38 ?_
        refine x_callV (dC := G12_namesOf_dep) (as := [.int 0]) (st := []) C rX kX (Nat.le_trans (Nat.le_of_ble_eq_true rfl) hd) (Nat.le_of_ble_eq_true rfl) ob358.1 ob358.2 (Nat.le_of_ble_eq_true rfl) rfl ts_8_12 tw_6_224 tw_6_222 tc_6_225 tw_1_13 hyX12 hnX12_namesOf rfl (Nat.le_of_ble_eq_true rfl) dX12_deal_39 (G12_namesOf_met C.2.2.2.2.2.2.2.1 (Nat.le_refl _)  h) (fun r0 μ79 hq => ?_)
        obtain ⟨r80, rfl, h⟩ := hq
        refine x_st [.int r80] rfl ?_
        refine x_iconst (v := 1) C (by decide) dX12_deal_42 ?_
        refine x_icmp_le (tgt := 59) C dX12_deal_43 (by decide) (fun c81 => ?_) (fun c81 => ?_)
        · have h := h.1 c81
          exact G12_deal_J59_ok C hd hr  h
        · have h := h.2 c81
          refine x_aload_n C rfl 0 rfl dX12_deal_46 ?_
          refine x_iconst (v := 1) C (by decide) dX12_deal_47 ?_
          refine x_callV (dC := G12_namesOf_dep) (as := [.int 1]) (st := []) C rX kX (Nat.le_trans (Nat.le_of_ble_eq_true rfl) hd) (Nat.le_of_ble_eq_true rfl) ob358.1 ob358.2 (Nat.le_of_ble_eq_true rfl) rfl ts_8_12 tw_6_224 tw_6_222 tc_6_225 tw_1_13 hyX12 hnX12_namesOf rfl (Nat.le_of_ble_eq_true rfl) dX12_deal_48 (G12_namesOf_met C.2.2.2.2.2.2.2.1 (Nat.le_refl _)  h) (fun r0 μ82 hq => ?_)
          obtain ⟨r83, rfl, h⟩ := hq
          refine x_st [.int r83] rfl ?_
          refine x_iconst (v := 1) C (by decide) dX12_deal_51 ?_
          refine x_icmp_le (tgt := 59) C dX12_deal_52 (by decide) (fun c84 => ?_) (fun c84 => ?_)
          · have h := h.1 c84
            exact G12_deal_J59_ok C hd hr  h
          · have h := h.2 c84
            refine x_iconst (v := 1) C (by decide) dX12_deal_55 ?_
            refine x_goto (tgt := 60) C dX12_deal_56 (by decide) ?_
            exact G12_deal_J60_ok C hd hr  h
set_option maxHeartbeats 4000000 in
set_option maxRecDepth 100000 in
theorem G12_of_J25_ok {p : Program} {e : Env} {s : State} {m : MethodId} {args : Array Value} {below : List Frame} {meth : Method} {c : Code} {l : Launch} {φ : Nat → Nat} {tc : Nat → ClassId} {D : va_G} {s0 : State} {dR : Nat} (C : CX p s m args meth c φ tc D (AX φ) s0 cX12_of RX12 3) (hd : G12_of_dep ≤ dR) (hr : meth.sig.returnType = (some .int))    {Q : Int32 → MM → Prop}  {μ : MM}    (h : G12_of_J25 μ Q) : WX p l e (rmX dR) s m args below meth c φ tc D (AX φ) 3 0 0 (MQ below (QX φ tc D (QI Q)) args s 0 0 (AX φ)) 25 [(0, .ref 358)] [] μ := by
  unfold G12_of_J25 at h
  refine x_aload_n C rfl 0 rfl dX12_of_25 ?_
  refine x_callV (dC := G12_refuse_dep) (as := []) (st := []) C rX kX (Nat.le_trans (Nat.le_of_ble_eq_true rfl) hd) (Nat.le_of_ble_eq_true rfl) ob358.1 ob358.2 (Nat.le_of_ble_eq_true rfl) rfl ts_9_0 tw_7_6 tw_7_4 tc_7_7 tw_1_13 hyX12 hnX12_refuse rfl (Nat.le_of_ble_eq_true rfl) dX12_of_26 (G12_refuse_met C.2.2.2.2.2.2.2.1 (Nat.le_refl _)  h) (fun r0 μ25 hq => ?_)
  obtain ⟨r26, rfl, h⟩ := hq
  refine x_st [.int r26] rfl ?_
  exact x_iret C hr dX12_of_29 ⟨_, rfl, h⟩
set_option maxHeartbeats 4000000 in
set_option maxRecDepth 100000 in
theorem G12_of_met {l : Launch} {φ : Nat → Nat} {tc : Nat → ClassId} {D : va_G} {s0 : State} (hG : GX φ tc D s0) {dR : Nat} (hd : G12_of_dep ≤ dR) {v1 : Int32} {v2 : Int32} {μ : MM} {Q : Int32 → MM → Prop}  (h : G12_of v1 v2 μ Q) : MX l φ tc D s0 dR yX12_of cX12_of 3 (some .int) [.ref 358, .int v1, .int v2] μ (QI Q) := by
  refine MX.of (own := RX12) hG plX12 rfl (Nat.le_of_ble_eq_true rfl) (fun p e s m args below meth c C hr => ?_)
  refine x_sub [(0, .ref 358), (1, .int v1), (2, .int v2)] [0, 1, 2] rfl ?_
  unfold G12_of at h
  refine x_aload_n C rfl 0 rfl dX12_of_0 ?_
  refine x_iconst (v := 0) C (by decide) dX12_of_1 ?_
  refine x_putI C (j := 0) ob358.1 ob358.2 (Nat.le_of_ble_eq_true rfl) (Nat.le_of_ble_eq_true rfl) (Or.inl rfl) rfl rfl rfl tw_8_206 dX12_of_2 ?_
  refine x_mu (fun μ21 e_μ21 => ?_)
  have h := h μ21 e_μ21
  refine x_aload_n C rfl 0 rfl dX12_of_5 ?_
  refine x_iload_n C rfl 1 rfl dX12_of_6 ?_
  refine x_callV (dC := G12_isLetter_dep) (as := [.int v1]) (st := []) C rX kX (Nat.le_trans (Nat.le_of_ble_eq_true rfl) hd) (Nat.le_of_ble_eq_true rfl) ob358.1 ob358.2 (Nat.le_of_ble_eq_true rfl) rfl ts_8_15 tw_7_1 tw_6_239 tc_7_2 tw_1_13 hyX12 hnX12_isLetter rfl (Nat.le_of_ble_eq_true rfl) dX12_of_7 (G12_isLetter_met C.2.2.2.2.2.2.2.1 (Nat.le_refl _)  h) (fun r0 μ22 hq => ?_)
  obtain ⟨r23, rfl, h⟩ := hq
  refine x_st [.int r23] rfl ?_
  refine x_if_eq (tgt := 25) C dX12_of_10 (by decide) (fun c24 => ?_) (fun c24 => ?_)
  · have h := h.1 c24
    refine x_sub [(0, .ref 358)] [0] rfl ?_
    exact G12_of_J25_ok C hd hr  h
  · have h := h.2 c24
    refine x_iload_n C rfl 2 rfl dX12_of_13 ?_
    refine x_i2l C dX12_of_14 ?_
    refine x_lconst (v := 0) C (by decide) dX12_of_15 ?_
    refine x_ldc2 (v := 8) C tw_7_3 dX12_of_16 ?_
    refine x_callS (dC := G12_in_dep) (as := [.long (v2.toInt64), .long 0, .long 8]) (st := []) C rX kX (Nat.le_trans (Nat.le_of_ble_eq_true rfl) hd) (Nat.le_of_ble_eq_true rfl) tw_6_183 tw_6_182 tc_6_184 tw_1_13 hyX12 hnX12_in rfl (Nat.le_of_ble_eq_true rfl) dX12_of_19 (G12_in_met C.2.2.2.2.2.2.2.1 (Nat.le_refl _)  h) (fun r0 μ27 hq => ?_)
    obtain ⟨r28, rfl, h⟩ := hq
    refine x_st [.int r28] rfl ?_
    refine x_if_ne (tgt := 30) C dX12_of_22 (by decide) (fun c29 => ?_) (fun c29 => ?_)
    · have h := h.1 c29
      refine x_iload_n C rfl 2 rfl dX12_of_30 ?_
      by_cases c30 : v2 = 0
      · have h := h.1 c30
        refine x_tIn (tgt := 76) C dX12_of_31 (by rw [c30]; decide) (by rw [c30]; decide) (by rw [c30]; rfl) (by decide) ?_
        refine x_aload_n C rfl 0 rfl dX12_of_76 ?_
        refine x_getR (r := 367) C (j := 13) ob358.1 ob358.2 (Nat.le_of_ble_eq_true rfl) (Nat.le_of_ble_eq_true rfl) (fun _ _ _ => rfl) r_358_13 tw_8_219 dX12_of_77 ?_
        refine x_iload_n C rfl 1 rfl dX12_of_80 ?_
        obtain ⟨c31, h⟩ := h
        refine x_iald C ob367.1 ob367.2 c31 rfl dX12_of_81 ?_
        exact x_iret C hr dX12_of_82 ⟨_, rfl, h⟩
      have h := h.2
      by_cases c32 : v2 = 1
      · have h := h.1 c32
        refine x_tIn (tgt := 83) C dX12_of_31 (by rw [c32]; decide) (by rw [c32]; decide) (by rw [c32]; rfl) (by decide) ?_
        refine x_aload_n C rfl 0 rfl dX12_of_83 ?_
        refine x_getR (r := 368) C (j := 14) ob358.1 ob358.2 (Nat.le_of_ble_eq_true rfl) (Nat.le_of_ble_eq_true rfl) (fun _ _ _ => rfl) r_358_14 tw_8_220 dX12_of_84 ?_
        refine x_iload_n C rfl 1 rfl dX12_of_87 ?_
        obtain ⟨c33, h⟩ := h
        refine x_iald C ob368.1 ob368.2 c33 rfl dX12_of_88 ?_
        exact x_iret C hr dX12_of_89 ⟨_, rfl, h⟩
      have h := h.2
      by_cases c34 : v2 = 2
      · have h := h.1 c34
        refine x_tIn (tgt := 90) C dX12_of_31 (by rw [c34]; decide) (by rw [c34]; decide) (by rw [c34]; rfl) (by decide) ?_
        refine x_aload_n C rfl 0 rfl dX12_of_90 ?_
        refine x_getR (r := 369) C (j := 15) ob358.1 ob358.2 (Nat.le_of_ble_eq_true rfl) (Nat.le_of_ble_eq_true rfl) (fun _ _ _ => rfl) r_358_15 tw_8_221 dX12_of_91 ?_
        refine x_iload_n C rfl 1 rfl dX12_of_94 ?_
        obtain ⟨c35, h⟩ := h
        refine x_iald C ob369.1 ob369.2 c35 rfl dX12_of_95 ?_
        exact x_iret C hr dX12_of_96 ⟨_, rfl, h⟩
      have h := h.2
      by_cases c36 : v2 = 3
      · have h := h.1 c36
        refine x_tIn (tgt := 97) C dX12_of_31 (by rw [c36]; decide) (by rw [c36]; decide) (by rw [c36]; rfl) (by decide) ?_
        refine x_aload_n C rfl 0 rfl dX12_of_97 ?_
        refine x_getR (r := 370) C (j := 16) ob358.1 ob358.2 (Nat.le_of_ble_eq_true rfl) (Nat.le_of_ble_eq_true rfl) (fun _ _ _ => rfl) r_358_16 tw_8_222 dX12_of_98 ?_
        refine x_iload_n C rfl 1 rfl dX12_of_101 ?_
        obtain ⟨c37, h⟩ := h
        refine x_iald C ob370.1 ob370.2 c37 rfl dX12_of_102 ?_
        exact x_iret C hr dX12_of_103 ⟨_, rfl, h⟩
      have h := h.2
      by_cases c38 : v2 = 4
      · have h := h.1 c38
        refine x_tIn (tgt := 104) C dX12_of_31 (by rw [c38]; decide) (by rw [c38]; decide) (by rw [c38]; rfl) (by decide) ?_
        refine x_aload_n C rfl 0 rfl dX12_of_104 ?_
        refine x_getR (r := 371) C (j := 17) ob358.1 ob358.2 (Nat.le_of_ble_eq_true rfl) (Nat.le_of_ble_eq_true rfl) (fun _ _ _ => rfl) r_358_17 tw_8_223 dX12_of_105 ?_
        refine x_iload_n C rfl 1 rfl dX12_of_108 ?_
        obtain ⟨c39, h⟩ := h
        refine x_iald C ob371.1 ob371.2 c39 rfl dX12_of_109 ?_
        exact x_iret C hr dX12_of_110 ⟨_, rfl, h⟩
      have h := h.2
      by_cases c40 : v2 = 5
      · have h := h.1 c40
        refine x_tIn (tgt := 111) C dX12_of_31 (by rw [c40]; decide) (by rw [c40]; decide) (by rw [c40]; rfl) (by decide) ?_
        refine x_aload_n C rfl 0 rfl dX12_of_111 ?_
        refine x_getR (r := 372) C (j := 18) ob358.1 ob358.2 (Nat.le_of_ble_eq_true rfl) (Nat.le_of_ble_eq_true rfl) (fun _ _ _ => rfl) r_358_18 tw_8_224 dX12_of_112 ?_
        refine x_iload_n C rfl 1 rfl dX12_of_115 ?_
        obtain ⟨c41, h⟩ := h
        refine x_iald C ob372.1 ob372.2 c41 rfl dX12_of_116 ?_
        exact x_iret C hr dX12_of_117 ⟨_, rfl, h⟩
      have h := h.2
      by_cases c42 : v2 = 6
      · have h := h.1 c42
        refine x_tIn (tgt := 118) C dX12_of_31 (by rw [c42]; decide) (by rw [c42]; decide) (by rw [c42]; rfl) (by decide) ?_
        refine x_aload_n C rfl 0 rfl dX12_of_118 ?_
        refine x_getR (r := 373) C (j := 19) ob358.1 ob358.2 (Nat.le_of_ble_eq_true rfl) (Nat.le_of_ble_eq_true rfl) (fun _ _ _ => rfl) r_358_19 tw_8_225 dX12_of_119 ?_
        refine x_iload_n C rfl 1 rfl dX12_of_122 ?_
        obtain ⟨c43, h⟩ := h
        refine x_zald C ob373.1 ob373.2 c43 rfl dX12_of_123 ?_
        refine x_callS (dC := G12_flag_dep) (as := [.int (gI μ27 373 v1.toNatClampNeg)]) (st := []) C rX kX (Nat.le_trans (Nat.le_of_ble_eq_true rfl) hd) (Nat.le_of_ble_eq_true rfl) tw_6_212 tw_6_211 tc_6_213 tw_1_13 hyX12 hnX12_flag rfl (Nat.le_of_ble_eq_true rfl) dX12_of_124 (G12_flag_met C.2.2.2.2.2.2.2.1 (Nat.le_refl _)  h) (fun r0 μ44 hq => ?_)
        obtain ⟨r45, rfl, h⟩ := hq
        refine x_st [.int r45] rfl ?_
        exact x_iret C hr dX12_of_127 ⟨_, rfl, h⟩
      have h := h.2
      by_cases c46 : v2 = 7
      · have h := h.1 c46
        refine x_tIn (tgt := 128) C dX12_of_31 (by rw [c46]; decide) (by rw [c46]; decide) (by rw [c46]; rfl) (by decide) ?_
        refine x_aload_n C rfl 0 rfl dX12_of_128 ?_
        refine x_getR (r := 374) C (j := 20) ob358.1 ob358.2 (Nat.le_of_ble_eq_true rfl) (Nat.le_of_ble_eq_true rfl) (fun _ _ _ => rfl) r_358_20 tw_8_226 dX12_of_129 ?_
        refine x_iload_n C rfl 1 rfl dX12_of_132 ?_
        obtain ⟨c47, h⟩ := h
        refine x_zald C ob374.1 ob374.2 c47 rfl dX12_of_133 ?_
        refine x_callS (dC := G12_flag_dep) (as := [.int (gI μ27 374 v1.toNatClampNeg)]) (st := []) C rX kX (Nat.le_trans (Nat.le_of_ble_eq_true rfl) hd) (Nat.le_of_ble_eq_true rfl) tw_6_212 tw_6_211 tc_6_213 tw_1_13 hyX12 hnX12_flag rfl (Nat.le_of_ble_eq_true rfl) dX12_of_134 (G12_flag_met C.2.2.2.2.2.2.2.1 (Nat.le_refl _)  h) (fun r0 μ48 hq => ?_)
        obtain ⟨r49, rfl, h⟩ := hq
        refine x_st [.int r49] rfl ?_
        exact x_iret C hr dX12_of_137 ⟨_, rfl, h⟩
      have h := h.2
      have h := h c30 c32 c34 c36 c38 c40 c42 c46
      have n_c30 := lv_neT (a := 0) c30 (by decide)
      have n_c32 := lv_neT (a := 1) c32 (by decide)
      have n_c34 := lv_neT (a := 2) c34 (by decide)
      have n_c36 := lv_neT (a := 3) c36 (by decide)
      have n_c38 := lv_neT (a := 4) c38 (by decide)
      have n_c40 := lv_neT (a := 5) c40 (by decide)
      have n_c42 := lv_neT (a := 6) c42 (by decide)
      have n_c46 := lv_neT (a := 7) c46 (by decide)
      refine x_tOut (tgt := 138) C dX12_of_31 (by omega) (by decide) ?_
      refine x_aload_n C rfl 0 rfl dX12_of_138 ?_
      refine x_getR (r := 375) C (j := 21) ob358.1 ob358.2 (Nat.le_of_ble_eq_true rfl) (Nat.le_of_ble_eq_true rfl) (fun _ _ _ => rfl) r_358_21 tw_8_227 dX12_of_139 ?_
      refine x_iload_n C rfl 1 rfl dX12_of_142 ?_
      obtain ⟨c50, h⟩ := h
      refine x_iald C ob375.1 ob375.2 c50 rfl dX12_of_143 ?_
      exact x_iret C hr dX12_of_144 ⟨_, rfl, h⟩
    · have h := h.2 c29
      refine x_sub [(0, .ref 358)] [0] rfl ?_
      exact G12_of_J25_ok C hd hr  h
set_option maxHeartbeats 4000000 in
set_option maxRecDepth 100000 in
theorem G12_sign_L18_b {p : Program} {e : Env} {s : State} {m : MethodId} {args : Array Value} {below : List Frame} {meth : Method} {c : Code} {l : Launch} {φ : Nat → Nat} {tc : Nat → ClassId} {D : va_G} {s0 : State} {dR : Nat} (C : CX p s m args meth c φ tc D (AX φ) s0 cX12_sign RX12 3) (hd : G12_sign_dep ≤ dR) (hr : meth.sig.returnType = (some .int))  {p1 : Int32} {Q : Int32 → MM → Prop} {K18 : Int32 × MM → Prop} {x : Int32 × MM}   (hK18 : ∀ (z2 : Int32) (zμ : MM), K18 (z2, zμ) → WX p l e (rmX dR) s m args below meth c φ tc D (AX φ) 3 0 0 (MQ below (QX φ tc D (QI Q)) args s 0 0 (AX φ)) 18 [(0, .ref 358), (1, .int p1), (2, .int z2)] [] zμ) (h : G12_sign_L18 p1 Q K18 x) : WX p l e (rmX dR) s m args below meth c φ tc D (AX φ) 3 0 0 (MQ below (QX φ tc D (QI Q)) args s 0 0 (AX φ)) 18 [(0, .ref 358), (1, .int p1), (2, .int x.1)] [] x.2 := by
  unfold G12_sign_L18 at h
  refine x_iload_n C rfl 2 rfl dX12_sign_18 ?_
  refine x_iconst (v := 4) C (by decide) dX12_sign_19 ?_
  refine x_icmp_ge (tgt := 53) C dX12_sign_20 (by decide) (fun c7 => ?_) (fun c7 => ?_)
  · have h := h.1 c7
    refine x_aload_n C rfl 0 rfl dX12_sign_53 ?_
    refine x_dup C rfl dX12_sign_54 ?_
    refine x_getI C (j := 28) ob358.1 ob358.2 (Nat.le_of_ble_eq_true rfl) (Nat.le_of_ble_eq_true rfl) (Or.inl rfl) tw_8_234 dX12_sign_55 ?_
    refine x_iconst (v := 4) C (by decide) dX12_sign_58 ?_
    refine x_iadd C dX12_sign_59 ?_
    refine x_putI C (j := 28) ob358.1 ob358.2 (Nat.le_of_ble_eq_true rfl) (Nat.le_of_ble_eq_true rfl) (Or.inl rfl) rfl rfl rfl tw_8_234 dX12_sign_60 ?_
    refine x_mu (fun μ8 e_μ8 => ?_)
    have h := h μ8 e_μ8
    refine x_aload_n C rfl 0 rfl dX12_sign_63 ?_
    refine x_getI C (j := 28) ob358.1 ob358.2 (Nat.le_of_ble_eq_true rfl) (Nat.le_of_ble_eq_true rfl) (Or.inl rfl) tw_8_234 dX12_sign_64 ?_
    exact x_iret C hr dX12_sign_67 ⟨_, rfl, h⟩
  · have h := h.2 c7
    refine x_aload_n C rfl 0 rfl dX12_sign_23 ?_
    refine x_getR (r := 380) C (j := 27) ob358.1 ob358.2 (Nat.le_of_ble_eq_true rfl) (Nat.le_of_ble_eq_true rfl) (fun _ _ _ => rfl) r_358_27 tw_8_233 dX12_sign_24 ?_
    refine x_aload_n C rfl 0 rfl dX12_sign_27 ?_
    refine x_getI C (j := 28) ob358.1 ob358.2 (Nat.le_of_ble_eq_true rfl) (Nat.le_of_ble_eq_true rfl) (Or.inl rfl) tw_8_234 dX12_sign_28 ?_
    refine x_iload_n C rfl 2 rfl dX12_sign_31 ?_
    refine x_iadd C dX12_sign_32 ?_
    refine x_iload_n C rfl 1 rfl dX12_sign_33 ?_
    refine x_bipush (v := 24) C (by decide) dX12_sign_34 ?_
    refine x_bipush (v := 8) C (by decide) dX12_sign_36 ?_
    refine x_iload_n C rfl 2 rfl dX12_sign_38 ?_
    refine x_imul C dX12_sign_39 ?_
    refine x_isub C dX12_sign_40 ?_
    refine x_ishr C dX12_sign_41 ?_
    refine x_sipush (v := 255) C (by decide) dX12_sign_42 ?_
    refine x_iand C dX12_sign_45 ?_
    obtain ⟨c9, h⟩ := h
    refine x_iast C ob380.1 ob380.2 c9 rfl dX12_sign_46 ?_
    refine x_mu (fun μ10 e_μ10 => ?_)
    have h := h μ10 e_μ10
    refine x_iinc (v := (x.1 + 1)) C [(2, .int (x.1 + 1)), (0, .ref 358), (1, .int p1)] 2 rfl (congrArg (fun z => x.1 + z) (by decide : Int32.ofInt (1) = 1)) (Nat.le_of_ble_eq_true rfl) rfl dX12_sign_47 ?_
    refine x_goto (tgt := 18) C dX12_sign_50 (by decide) ?_
    refine x_sub [(0, .ref 358), (1, .int p1), (2, .int (x.1 + 1))] [1, 2, 0] rfl ?_
    exact hK18 _ _ h
theorem G12_sign_L18_ok {p : Program} {e : Env} {s : State} {m : MethodId} {args : Array Value} {below : List Frame} {meth : Method} {c : Code} {l : Launch} {φ : Nat → Nat} {tc : Nat → ClassId} {D : va_G} {s0 : State} {dR : Nat} (C : CX p s m args meth c φ tc D (AX φ) s0 cX12_sign RX12 3) (hd : G12_sign_dep ≤ dR) (hr : meth.sig.returnType = (some .int))  {p1 : Int32} {Q : Int32 → MM → Prop}  {x : Int32 × MM}    (h : Lp (G12_sign_L18 p1 Q) x) : WX p l e (rmX dR) s m args below meth c φ tc D (AX φ) 3 0 0 (MQ below (QX φ tc D (QI Q)) args s 0 0 (AX φ)) 18 [(0, .ref 358), (1, .int p1), (2, .int x.1)] [] x.2 := by
  obtain ⟨n, h⟩ := h
  induction n generalizing x with
  | zero => exact h.elim
  | succ n ih => exact G12_sign_L18_b C hd hr   (fun z2 zμ hz => by have q := ih hz; exact q) h
set_option maxHeartbeats 4000000 in
set_option maxRecDepth 100000 in
theorem G12_sign_met {l : Launch} {φ : Nat → Nat} {tc : Nat → ClassId} {D : va_G} {s0 : State} (hG : GX φ tc D s0) {dR : Nat} (hd : G12_sign_dep ≤ dR) {v1 : Int32} {μ : MM} {Q : Int32 → MM → Prop}  (h : G12_sign v1 μ Q) : MX l φ tc D s0 dR yX12_sign cX12_sign 3 (some .int) [.ref 358, .int v1] μ (QI Q) := by
  refine MX.of (own := RX12) hG plX12 rfl (Nat.le_of_ble_eq_true rfl) (fun p e s m args below meth c C hr => ?_)
  refine x_sub [(0, .ref 358), (1, .int v1)] [0, 1] rfl ?_
  unfold G12_sign at h
  refine x_aload_n C rfl 0 rfl dX12_sign_0 ?_
  refine x_iconst (v := 0) C (by decide) dX12_sign_1 ?_
  refine x_putI C (j := 0) ob358.1 ob358.2 (Nat.le_of_ble_eq_true rfl) (Nat.le_of_ble_eq_true rfl) (Or.inl rfl) rfl rfl rfl tw_8_206 dX12_sign_2 ?_
  refine x_mu (fun μ5 e_μ5 => ?_)
  have h := h μ5 e_μ5
  refine x_aload_n C rfl 0 rfl dX12_sign_5 ?_
  refine x_getI C (j := 28) ob358.1 ob358.2 (Nat.le_of_ble_eq_true rfl) (Nat.le_of_ble_eq_true rfl) (Or.inl rfl) tw_8_234 dX12_sign_6 ?_
  refine x_bipush (v := 56) C (by decide) dX12_sign_9 ?_
  refine x_icmp_le (tgt := 16) C dX12_sign_11 (by decide) (fun c6 => ?_) (fun c6 => ?_)
  · have h := h.1 c6
    refine x_iconst (v := 0) C (by decide) dX12_sign_16 ?_
    refine x_istore_n C [(2, .int 0), (0, .ref 358), (1, .int v1)] rfl (Nat.le_of_ble_eq_true rfl) rfl dX12_sign_17 ?_
    refine x_sub [(0, .ref 358), (1, .int v1), (2, .int 0)] [1, 2, 0] rfl ?_
    exact G12_sign_L18_ok C hd hr  h
  · have h := h.2 c6
    refine x_iconst (v := (-1)) C (by decide) dX12_sign_14 ?_
    exact x_iret C hr dX12_sign_15 ⟨_, rfl, h⟩
set_option maxHeartbeats 4000000 in
set_option maxRecDepth 100000 in
theorem G12_end_met {l : Launch} {φ : Nat → Nat} {tc : Nat → ClassId} {D : va_G} {s0 : State} (hG : GX φ tc D s0) {dR : Nat} (hd : G12_end_dep ≤ dR) {v1 : Int32} {μ : MM} {Q : Int32 → MM → Prop}  (h : G12_end v1 μ Q) : MX l φ tc D s0 dR yX12_end cX12_end 2 (some .boolean) [.ref 358, .int v1] μ (QI Q) := by
  refine MX.of (own := RX12) hG plX12 rfl (Nat.le_of_ble_eq_true rfl) (fun p e s m args below meth c C hr => ?_)
  refine x_sub [(0, .ref 358), (1, .int v1)] [0, 1] rfl ?_
  unfold G12_end at h
  refine x_aload_n C rfl 0 rfl dX12_end_0 ?_
  refine x_iconst (v := 0) C (by decide) dX12_end_1 ?_
  refine x_putI C (j := 0) ob358.1 ob358.2 (Nat.le_of_ble_eq_true rfl) (Nat.le_of_ble_eq_true rfl) (Or.inl rfl) rfl rfl rfl tw_8_206 dX12_end_2 ?_
  refine x_mu (fun μ5 e_μ5 => ?_)
  have h := h μ5 e_μ5
  refine x_iload_n C rfl 1 rfl dX12_end_5 ?_
  refine x_i2l C dX12_end_6 ?_
  refine x_lconst (v := 0) C (by decide) dX12_end_7 ?_
  refine x_aload_n C rfl 0 rfl dX12_end_8 ?_
  refine x_getI C (j := 28) ob358.1 ob358.2 (Nat.le_of_ble_eq_true rfl) (Nat.le_of_ble_eq_true rfl) (Or.inl rfl) tw_8_234 dX12_end_9 ?_
  refine x_i2l C dX12_end_12 ?_
  refine x_callS (dC := G12_in_dep) (as := [.long (v1.toInt64), .long 0, .long ((gI μ5 358 28).toInt64)]) (st := []) C rX kX (Nat.le_trans (Nat.le_of_ble_eq_true rfl) hd) (Nat.le_of_ble_eq_true rfl) tw_6_183 tw_6_182 tc_6_184 tw_1_13 hyX12 hnX12_in rfl (Nat.le_of_ble_eq_true rfl) dX12_end_13 (G12_in_met C.2.2.2.2.2.2.2.1 (Nat.le_refl _)  h) (fun r0 μ6 hq => ?_)
  obtain ⟨r7, rfl, h⟩ := hq
  refine x_st [.int r7] rfl ?_
  refine x_if_ne (tgt := 21) C dX12_end_16 (by decide) (fun c8 => ?_) (fun c8 => ?_)
  · have h := h.1 c8
    refine x_aload_n C rfl 0 rfl dX12_end_21 ?_
    refine x_iload_n C rfl 1 rfl dX12_end_22 ?_
    refine x_putI C (j := 28) ob358.1 ob358.2 (Nat.le_of_ble_eq_true rfl) (Nat.le_of_ble_eq_true rfl) (Or.inl rfl) rfl rfl rfl tw_8_234 dX12_end_23 ?_
    refine x_mu (fun μ9 e_μ9 => ?_)
    have h := h μ9 e_μ9
    refine x_iconst (v := 1) C (by decide) dX12_end_26 ?_
    exact x_zret C hr bo_1 dX12_end_27 ⟨_, rfl, h⟩
  · have h := h.2 c8
    refine x_iconst (v := 0) C (by decide) dX12_end_19 ?_
    exact x_zret C hr bo_0 dX12_end_20 ⟨_, rfl, h⟩
set_option maxHeartbeats 4000000 in
set_option maxRecDepth 100000 in
theorem G12_isDigit_J37_ok {p : Program} {e : Env} {s : State} {m : MethodId} {args : Array Value} {below : List Frame} {meth : Method} {c : Code} {l : Launch} {φ : Nat → Nat} {tc : Nat → ClassId} {D : va_G} {s0 : State} {dR : Nat} (C : CX p s m args meth c φ tc D (AX φ) s0 cX12_isDigit RX12 1) (hd : G12_isDigit_dep ≤ dR) (hr : meth.sig.returnType = (some .boolean))    {Q : Int32 → MM → Prop}  {μ : MM}    (h : G12_isDigit_J37 μ Q) : WX p l e (rmX dR) s m args below meth c φ tc D (AX φ) 1 0 0 (MQ below (QX φ tc D (QI Q)) args s 0 0 (AX φ)) 37 [] [] μ := by
  unfold G12_isDigit_J37 at h
  refine x_iconst (v := 0) C (by decide) dX12_isDigit_37 ?_
  exact x_zret C hr bo_0 dX12_isDigit_38 ⟨_, rfl, h⟩
set_option maxHeartbeats 4000000 in
set_option maxRecDepth 100000 in
theorem G12_isDigit_met {l : Launch} {φ : Nat → Nat} {tc : Nat → ClassId} {D : va_G} {s0 : State} (hG : GX φ tc D s0) {dR : Nat} (hd : G12_isDigit_dep ≤ dR)  {μ : MM} {Q : Int32 → MM → Prop}  (h : G12_isDigit  μ Q) : MX l φ tc D s0 dR yX12_isDigit cX12_isDigit 1 (some .boolean) [.ref 358] μ (QI Q) := by
  refine MX.of (own := RX12) hG plX12 rfl (Nat.le_of_ble_eq_true rfl) (fun p e s m args below meth c C hr => ?_)
  refine x_sub [(0, .ref 358)] [0] rfl ?_
  unfold G12_isDigit at h
  refine x_aload_n C rfl 0 rfl dX12_isDigit_0 ?_
  refine x_getI C (j := 29) ob358.1 ob358.2 (Nat.le_of_ble_eq_true rfl) (Nat.le_of_ble_eq_true rfl) (Or.inl rfl) tw_8_235 dX12_isDigit_1 ?_
  refine x_aload_n C rfl 0 rfl dX12_isDigit_4 ?_
  refine x_getI C (j := 30) ob358.1 ob358.2 (Nat.le_of_ble_eq_true rfl) (Nat.le_of_ble_eq_true rfl) (Or.inl rfl) tw_8_236 dX12_isDigit_5 ?_
  refine x_icmp_ge (tgt := 37) C dX12_isDigit_8 (by decide) (fun c4 => ?_) (fun c4 => ?_)
  · have h := h.1 c4
    refine x_sub [] [] rfl ?_
    exact G12_isDigit_J37_ok C hd hr  h
  · have h := h.2 c4
    refine x_aload_n C rfl 0 rfl dX12_isDigit_11 ?_
    refine x_getR (r := 380) C (j := 27) ob358.1 ob358.2 (Nat.le_of_ble_eq_true rfl) (Nat.le_of_ble_eq_true rfl) (fun _ _ _ => rfl) r_358_27 tw_8_233 dX12_isDigit_12 ?_
    refine x_aload_n C rfl 0 rfl dX12_isDigit_15 ?_
    refine x_getI C (j := 29) ob358.1 ob358.2 (Nat.le_of_ble_eq_true rfl) (Nat.le_of_ble_eq_true rfl) (Or.inl rfl) tw_8_235 dX12_isDigit_16 ?_
    obtain ⟨c5, h⟩ := h
    refine x_iald C ob380.1 ob380.2 c5 rfl dX12_isDigit_19 ?_
    refine x_i2l C dX12_isDigit_20 ?_
    refine x_ldc2 (v := 48) C tw_7_67 dX12_isDigit_21 ?_
    refine x_ldc2 (v := 57) C tw_7_68 dX12_isDigit_24 ?_
    refine x_callS (dC := G12_in_dep) (as := [.long ((gI μ 380 ((gI μ 358 29).toNatClampNeg)).toInt64), .long 48, .long 57]) (st := []) C rX kX (Nat.le_trans (Nat.le_of_ble_eq_true rfl) hd) (Nat.le_of_ble_eq_true rfl) tw_6_183 tw_6_182 tc_6_184 tw_1_13 hyX12 hnX12_in rfl (Nat.le_of_ble_eq_true rfl) dX12_isDigit_27 (G12_in_met C.2.2.2.2.2.2.2.1 (Nat.le_refl _)  h) (fun r0 μ6 hq => ?_)
    obtain ⟨r7, rfl, h⟩ := hq
    refine x_st [.int r7] rfl ?_
    refine x_if_eq (tgt := 37) C dX12_isDigit_30 (by decide) (fun c8 => ?_) (fun c8 => ?_)
    · have h := h.1 c8
      refine x_sub [] [] rfl ?_
      exact G12_isDigit_J37_ok C hd hr  h
    · have h := h.2 c8
      refine x_iconst (v := 1) C (by decide) dX12_isDigit_33 ?_
      refine x_goto (tgt := 38) C dX12_isDigit_34 (by decide) ?_
      exact x_zret C hr bo_1 dX12_isDigit_38 ⟨_, rfl, h⟩
set_option maxHeartbeats 4000000 in
set_option maxRecDepth 100000 in
theorem GJ1_charAt_3b067_met {l : Launch} {φ : Nat → Nat} {tc : Nat → ClassId} {D : va_G} {s0 : State} (hG : GX φ tc D s0) {dR : Nat} (hd : GJ1_charAt_3b067_dep ≤ dR) {a0 : Nat} {v1 : Int32} {μ : MM} {Q : Int32 → MM → Prop} (o_a0 : a0 < nJS) (h : GJ1_charAt_3b067 a0 v1 μ Q) : MX l φ tc D s0 dR yJ1_charAt_3b067 cJ1_charAt_3b067 2 (some .char) [.ref (600 + a0), .int v1] μ (QI Q) := by
  refine MX.of (own := RJ1) hG plJ1 rfl (Nat.le_of_ble_eq_true rfl) (fun p e s m args below meth c C hr => ?_)
  refine x_sub [(0, .ref (600 + a0)), (1, .int v1)] [0, 1] rfl ?_
  unfold GJ1_charAt_3b067 at h
  refine x_iload_n C rfl 1 rfl dJ1_charAt_3b067_0 ?_
  refine x_aload_n C rfl 0 rfl dJ1_charAt_3b067_1 ?_
  refine x_alenS (i := a0) C o_a0 dJ1_charAt_3b067_2 ?_
  refine x_callS (dC := GJ0_checkIndex_df160_dep) (as := [.int v1, .int (Int32.ofNat (lenJS.getD a0 0))]) (st := []) C rX kX (Nat.le_trans (Nat.le_of_ble_eq_true rfl) hd) (Nat.le_of_ble_eq_true rfl) tw_7_47 tw_7_46 tc_7_48 tw_1_18 hyJ0 hnJ0_checkIndex_df160 rfl (Nat.le_of_ble_eq_true rfl) dJ1_charAt_3b067_3 (GJ0_checkIndex_df160_met C.2.2.2.2.2.2.2.1 (Nat.le_refl _)  h) (fun r0 μ3 hq => ?_)
  obtain ⟨rfl, h⟩ := hq
  refine x_st [] rfl ?_
  refine x_aload_n C rfl 0 rfl dJ1_charAt_3b067_6 ?_
  refine x_iload_n C rfl 1 rfl dJ1_charAt_3b067_7 ?_
  obtain ⟨c4, h⟩ := h
  refine x_baldS (i := a0) C o_a0 c4 rfl dJ1_charAt_3b067_8 ?_
  refine x_sipush (v := 255) C (by decide) dJ1_charAt_3b067_9 ?_
  refine x_iand C dJ1_charAt_3b067_12 ?_
  refine x_i2c C dJ1_charAt_3b067_13 ?_
  exact x_nret C hr h.1 dJ1_charAt_3b067_14 ⟨_, rfl, h.2⟩
set_option maxHeartbeats 4000000 in
set_option maxRecDepth 100000 in
theorem GJ0_charAt_5068e_met {l : Launch} {φ : Nat → Nat} {tc : Nat → ClassId} {D : va_G} {s0 : State} (hG : GX φ tc D s0) {dR : Nat} (hd : GJ0_charAt_5068e_dep ≤ dR) {t : Nat} {v1 : Int32} {μ : MM} {Q : Int32 → MM → Prop} (o_t : t < nJS) (h : GJ0_charAt_5068e t v1 μ Q) : MX l φ tc D s0 dR yJ0_charAt_5068e cJ0_charAt_5068e 2 (some .char) [.ref (500 + t), .int v1] μ (QI Q) := by
  refine MX.of (own := RJ0) hG plJ0 rfl (Nat.le_of_ble_eq_true rfl) (fun p e s m args below meth c C hr => ?_)
  refine x_sub [(0, .ref (500 + t)), (1, .int v1)] [0, 1] rfl ?_
  unfold GJ0_charAt_5068e at h
  refine x_aload_n C rfl 0 rfl dJ0_charAt_5068e_0 ?_
  refine x_callVS (dC := GJ0_isLatin1_aae02_dep) (i := t) (as := []) (st := []) C rX kX (Nat.le_trans (Nat.le_of_ble_eq_true rfl) hd) (Nat.le_of_ble_eq_true rfl) o_t rfl tw_3_58 tw_3_57 tw_3_56 tc_3_59 tw_1_18 hyJ0 hnJ0_isLatin1_aae02 rfl (Nat.le_of_ble_eq_true rfl) dJ0_charAt_5068e_1 (GJ0_isLatin1_aae02_met (Q := fun z zμ => z = 1 ∧ zμ = μ) C.2.2.2.2.2.2.2.1 (Nat.le_refl _) o_t (by unfold GJ0_isLatin1_aae02; first | exact ⟨rfl, rfl⟩ | exact ⟨rfl, rfl, rfl⟩)) (fun r0 zμ hq => ?_)
  obtain ⟨zr, rfl, rfl, rfl⟩ := hq
  refine x_st [.int 1] rfl ?_
  refine x_if_eq (tgt := 16) C dJ0_charAt_5068e_4 (by decide) (fun c3 => ?_) (fun c3 => ?_)
  · exact absurd c3 (by decide)
  · refine x_aload_n C rfl 0 rfl dJ0_charAt_5068e_7 ?_
    refine x_getSv (i := t) C o_t tw_9_203 dJ0_charAt_5068e_8 ?_
    refine x_iload_n C rfl 1 rfl dJ0_charAt_5068e_11 ?_
    refine x_callS (dC := GJ1_charAt_3b067_dep) (as := [.ref (600 + t), .int v1]) (st := []) C rX kX (Nat.le_trans (Nat.le_of_ble_eq_true rfl) hd) (Nat.le_of_ble_eq_true rfl) tw_7_44 tw_7_43 tc_7_45 tw_1_19 hyJ1 hnJ1_charAt_3b067 rfl (Nat.le_of_ble_eq_true rfl) dJ0_charAt_5068e_12 (GJ1_charAt_3b067_met C.2.2.2.2.2.2.2.1 (Nat.le_refl _) o_t h) (fun r0 μ4 hq => ?_)
    obtain ⟨r5, rfl, h⟩ := hq
    refine x_st [.int r5] rfl ?_
    exact x_nret C hr h.1 dJ0_charAt_5068e_15 ⟨_, rfl, h.2⟩
set_option maxHeartbeats 4000000 in
set_option maxRecDepth 100000 in
theorem G12_among_L2_b {p : Program} {e : Env} {s : State} {m : MethodId} {args : Array Value} {below : List Frame} {meth : Method} {c : Code} {l : Launch} {φ : Nat → Nat} {tc : Nat → ClassId} {D : va_G} {s0 : State} {dR : Nat} (C : CX p s m args meth c φ tc D (AX φ) s0 cX12_among RX12 3) (hd : G12_among_dep ≤ dR) (hr : meth.sig.returnType = (some .int)) {a1 : Nat}  {Q : Int32 → MM → Prop} {K2 : Int32 × MM → Prop} {x : Int32 × MM} (o_a1 : a1 < nJS)  (hK2 : ∀ (z2 : Int32) (zμ : MM), K2 (z2, zμ) → WX p l e (rmX dR) s m args below meth c φ tc D (AX φ) 3 0 0 (MQ below (QX φ tc D (QI Q)) args s 0 0 (AX φ)) 2 [(0, .ref 358), (1, .ref (500 + a1)), (2, .int z2)] [] zμ) (h : G12_among_L2 a1 Q K2 x) : WX p l e (rmX dR) s m args below meth c φ tc D (AX φ) 3 0 0 (MQ below (QX φ tc D (QI Q)) args s 0 0 (AX φ)) 2 [(0, .ref 358), (1, .ref (500 + a1)), (2, .int x.1)] [] x.2 := by
  unfold G12_among_L2 at h
  refine x_iload_n C rfl 2 rfl dX12_among_2 ?_
  refine x_aload_n C rfl 1 rfl dX12_among_3 ?_
  refine x_callVS (dC := GJ0_length_8abf5_dep) (i := a1) (as := []) (st := [.int x.1]) C rX kX (Nat.le_trans (Nat.le_of_ble_eq_true rfl) hd) (Nat.le_of_ble_eq_true rfl) o_a1 rfl tw_3_64 tw_3_63 tw_7_38 tc_3_65 tw_1_18 hyJ0 hnJ0_length_8abf5 rfl (Nat.le_of_ble_eq_true rfl) dX12_among_4 (GJ0_length_8abf5_met C.2.2.2.2.2.2.2.1 (Nat.le_refl _) o_a1 h) (fun r0 μ6 hq => ?_)
  obtain ⟨r7, rfl, h⟩ := hq
  refine x_st [.int r7, .int x.1] rfl ?_
  refine x_icmp_ge (tgt := 46) C dX12_among_7 (by decide) (fun c8 => ?_) (fun c8 => ?_)
  · have h := h.1 c8
    refine x_iconst (v := (-1)) C (by decide) dX12_among_46 ?_
    exact x_iret C hr dX12_among_47 ⟨_, rfl, h⟩
  · have h := h.2 c8
    refine x_aload_n C rfl 0 rfl dX12_among_10 ?_
    refine x_getI C (j := 29) ob358.1 ob358.2 (Nat.le_of_ble_eq_true rfl) (Nat.le_of_ble_eq_true rfl) (Or.inl rfl) tw_8_235 dX12_among_11 ?_
    refine x_aload_n C rfl 0 rfl dX12_among_14 ?_
    refine x_getI C (j := 30) ob358.1 ob358.2 (Nat.le_of_ble_eq_true rfl) (Nat.le_of_ble_eq_true rfl) (Or.inl rfl) tw_8_236 dX12_among_15 ?_
    refine x_icmp_ge (tgt := 46) C dX12_among_18 (by decide) (fun c9 => ?_) (fun c9 => ?_)
    · have h := h.1 c9
      refine x_iconst (v := (-1)) C (by decide) dX12_among_46 ?_
      exact x_iret C hr dX12_among_47 ⟨_, rfl, h⟩
    · have h := h.2 c9
      refine x_aload_n C rfl 1 rfl dX12_among_21 ?_
      refine x_iload_n C rfl 2 rfl dX12_among_22 ?_
      refine x_callVS (dC := GJ0_charAt_5068e_dep) (i := a1) (as := [.int x.1]) (st := []) C rX kX (Nat.le_trans (Nat.le_of_ble_eq_true rfl) hd) (Nat.le_of_ble_eq_true rfl) o_a1 rfl tw_7_41 tw_7_40 tw_7_39 tc_7_42 tw_1_18 hyJ0 hnJ0_charAt_5068e rfl (Nat.le_of_ble_eq_true rfl) dX12_among_23 (GJ0_charAt_5068e_met C.2.2.2.2.2.2.2.1 (Nat.le_refl _) o_a1 h) (fun r0 μ10 hq => ?_)
      obtain ⟨r11, rfl, h⟩ := hq
      refine x_st [.int r11] rfl ?_
      refine x_aload_n C rfl 0 rfl dX12_among_26 ?_
      refine x_getR (r := 380) C (j := 27) ob358.1 ob358.2 (Nat.le_of_ble_eq_true rfl) (Nat.le_of_ble_eq_true rfl) (fun _ _ _ => rfl) r_358_27 tw_8_233 dX12_among_27 ?_
      refine x_aload_n C rfl 0 rfl dX12_among_30 ?_
      refine x_getI C (j := 29) ob358.1 ob358.2 (Nat.le_of_ble_eq_true rfl) (Nat.le_of_ble_eq_true rfl) (Or.inl rfl) tw_8_235 dX12_among_31 ?_
      obtain ⟨c12, h⟩ := h
      refine x_iald C ob380.1 ob380.2 c12 rfl dX12_among_34 ?_
      refine x_icmp_ne (tgt := 40) C dX12_among_35 (by decide) (fun c13 => ?_) (fun c13 => ?_)
      · have h := h.1 c13
        refine x_iinc (v := (x.1 + 1)) C [(2, .int (x.1 + 1)), (0, .ref 358), (1, .ref (500 + a1))] 2 rfl (congrArg (fun z => x.1 + z) (by decide : Int32.ofInt (1) = 1)) (Nat.le_of_ble_eq_true rfl) rfl dX12_among_40 ?_
        refine x_goto (tgt := 2) C dX12_among_43 (by decide) ?_
        refine x_sub [(0, .ref 358), (1, .ref (500 + a1)), (2, .int (x.1 + 1))] [1, 2, 0] rfl ?_
        exact hK2 _ _ h
      · have h := h.2 c13
        refine x_iload_n C rfl 2 rfl dX12_among_38 ?_
        exact x_iret C hr dX12_among_39 ⟨_, rfl, h⟩
theorem G12_among_L2_ok {p : Program} {e : Env} {s : State} {m : MethodId} {args : Array Value} {below : List Frame} {meth : Method} {c : Code} {l : Launch} {φ : Nat → Nat} {tc : Nat → ClassId} {D : va_G} {s0 : State} {dR : Nat} (C : CX p s m args meth c φ tc D (AX φ) s0 cX12_among RX12 3) (hd : G12_among_dep ≤ dR) (hr : meth.sig.returnType = (some .int)) {a1 : Nat}  {Q : Int32 → MM → Prop}  {x : Int32 × MM} (o_a1 : a1 < nJS)   (h : Lp (G12_among_L2 a1 Q) x) : WX p l e (rmX dR) s m args below meth c φ tc D (AX φ) 3 0 0 (MQ below (QX φ tc D (QI Q)) args s 0 0 (AX φ)) 2 [(0, .ref 358), (1, .ref (500 + a1)), (2, .int x.1)] [] x.2 := by
  obtain ⟨n, h⟩ := h
  induction n generalizing x with
  | zero => exact h.elim
  | succ n ih => exact G12_among_L2_b C hd hr o_a1  (fun z2 zμ hz => by have q := ih hz; exact q) h
set_option maxHeartbeats 4000000 in
set_option maxRecDepth 100000 in
theorem G12_among_met {l : Launch} {φ : Nat → Nat} {tc : Nat → ClassId} {D : va_G} {s0 : State} (hG : GX φ tc D s0) {dR : Nat} (hd : G12_among_dep ≤ dR) {a1 : Nat} {μ : MM} {Q : Int32 → MM → Prop} (o_a1 : a1 < nJS) (h : G12_among a1 μ Q) : MX l φ tc D s0 dR yX12_among cX12_among 3 (some .int) [.ref 358, .ref (500 + a1)] μ (QI Q) := by
  refine MX.of (own := RX12) hG plX12 rfl (Nat.le_of_ble_eq_true rfl) (fun p e s m args below meth c C hr => ?_)
  refine x_sub [(0, .ref 358), (1, .ref (500 + a1))] [0, 1] rfl ?_
  unfold G12_among at h
  refine x_iconst (v := 0) C (by decide) dX12_among_0 ?_
  refine x_istore_n C [(2, .int 0), (0, .ref 358), (1, .ref (500 + a1))] rfl (Nat.le_of_ble_eq_true rfl) rfl dX12_among_1 ?_
  refine x_sub [(0, .ref 358), (1, .ref (500 + a1)), (2, .int 0)] [1, 2, 0] rfl ?_
  exact G12_among_L2_ok C hd hr o_a1 h
set_option maxHeartbeats 4000000 in
set_option maxRecDepth 100000 in
theorem G12_marks_met {l : Launch} {φ : Nat → Nat} {tc : Nat → ClassId} {D : va_G} {s0 : State} (hG : GX φ tc D s0) {dR : Nat} (hd : G12_marks_dep ≤ dR) {v1 : Int32} {μ : MM} {Q : MM → Prop}  (h : G12_marks v1 μ Q) : MX l φ tc D s0 dR yX12_marks cX12_marks 2 none [.ref 358, .int v1] μ (QV Q) := by
  refine MX.of (own := RX12) hG plX12 rfl (Nat.le_of_ble_eq_true rfl) (fun p e s m args below meth c C hr => ?_)
  refine x_sub [(0, .ref 358), (1, .int v1)] [0, 1] rfl ?_
  unfold G12_marks at h
  refine x_aload_n C rfl 0 rfl dX12_marks_0 ?_
  refine x_getR (r := 377) C (j := 24) ob358.1 ob358.2 (Nat.le_of_ble_eq_true rfl) (Nat.le_of_ble_eq_true rfl) (fun _ _ _ => rfl) r_358_24 tw_8_230 dX12_marks_1 ?_
  refine x_sipush (v := 576) C (by decide) dX12_marks_4 ?_
  refine x_aload_n C rfl 0 rfl dX12_marks_7 ?_
  refine x_getR (r := 378) C (j := 25) ob358.1 ob358.2 (Nat.le_of_ble_eq_true rfl) (Nat.le_of_ble_eq_true rfl) (fun _ _ _ => rfl) r_358_25 tw_8_231 dX12_marks_8 ?_
  refine x_bipush (v := 12) C (by decide) dX12_marks_11 ?_
  refine x_iald C ob378.1 ob378.2 (by unfold vp_in; decide) (j := 12) (by decide) dX12_marks_13 ?_
  refine x_iadd C dX12_marks_14 ?_
  refine x_iload_n C rfl 1 rfl dX12_marks_15 ?_
  obtain ⟨c4, h⟩ := h
  refine x_iast C ob377.1 ob377.2 c4 rfl dX12_marks_16 ?_
  refine x_mu (fun μ5 e_μ5 => ?_)
  have h := h μ5 e_μ5
  refine x_aload_n C rfl 0 rfl dX12_marks_17 ?_
  refine x_getR (r := 378) C (j := 25) ob358.1 ob358.2 (Nat.le_of_ble_eq_true rfl) (Nat.le_of_ble_eq_true rfl) (fun _ _ _ => rfl) r_358_25 tw_8_231 dX12_marks_18 ?_
  refine x_bipush (v := 12) C (by decide) dX12_marks_21 ?_
  refine x_dup2_11 C rfl rfl dX12_marks_23 ?_
  refine x_iald C ob378.1 ob378.2 (by unfold vp_in; decide) (j := 12) (by decide) dX12_marks_24 ?_
  refine x_iconst (v := 1) C (by decide) dX12_marks_25 ?_
  refine x_iadd C dX12_marks_26 ?_
  refine x_iast C ob378.1 ob378.2 (by unfold vp_in; decide) (j := 12) (by decide) dX12_marks_27 ?_
  refine x_mu (fun μ6 e_μ6 => ?_)
  have h := h μ6 e_μ6
  exact x_vret C hr dX12_marks_28 ⟨rfl, h⟩
set_option maxHeartbeats 4000000 in
set_option maxRecDepth 100000 in
theorem G12_thing_J110_ok {p : Program} {e : Env} {s : State} {m : MethodId} {args : Array Value} {below : List Frame} {meth : Method} {c : Code} {l : Launch} {φ : Nat → Nat} {tc : Nat → ClassId} {D : va_G} {s0 : State} {dR : Nat} (C : CX p s m args meth c φ tc D (AX φ) s0 cX12_thing RX12 3) (hd : G12_thing_dep ≤ dR) (hr : meth.sig.returnType = (some .boolean))  {rAh : MM → (Int32 → MM → Prop) → Prop} {rRa : Int32 → MM → (Int32 → MM → Prop) → Prop} {rTh : MM → (Int32 → MM → Prop) → Prop} {dC : Nat}  {q0 : Int32} {q1 : Int32} {Q : Int32 → MM → Prop}  {μ : MM} (hdC : dC + 1 ≤ dR) (hrAh : ∀ {μ : MM} {Q : Int32 → MM → Prop}, rAh μ Q → MX l φ tc D s0 dC yX12_ahead cX12_ahead 3 (some .boolean) [.ref 358] μ (QI Q)) (hrRa : ∀ {v : Int32} {μ : MM} {Q : Int32 → MM → Prop}, rRa v μ Q → MX l φ tc D s0 dC yX12_ranked cX12_ranked 6 (some .boolean) [.ref 358, .int v] μ (QI Q)) (hrTh : ∀ {μ : MM} {Q : Int32 → MM → Prop}, rTh μ Q → MX l φ tc D s0 dC yX12_thing cX12_thing 3 (some .boolean) [.ref 358] μ (QI Q))    (h : G12_thing_J110 rAh rRa rTh q0 q1 μ Q) : WX p l e (rmX dR) s m args below meth c φ tc D (AX φ) 3 0 0 (MQ below (QX φ tc D (QI Q)) args s 0 0 (AX φ)) 110 [(0, .ref 358)] [.int q0, .int q1, .ref 358] μ := by
  unfold G12_thing_J110 at h
  refine x_iadd C dX12_thing_110 ?_
  refine x_callV (dC := G12_marks_dep) (as := [.int (q1 + q0)]) (st := []) C rX kX (Nat.le_trans (Nat.le_of_ble_eq_true rfl) hd) (Nat.le_of_ble_eq_true rfl) ob358.1 ob358.2 (Nat.le_of_ble_eq_true rfl) rfl ts_9_7 tw_7_71 tw_7_69 tc_7_72 tw_1_13 hyX12 hnX12_marks rfl (Nat.le_of_ble_eq_true rfl) dX12_thing_111 (G12_marks_met C.2.2.2.2.2.2.2.1 (Nat.le_refl _)  h) (fun r0 μ57 hq => ?_)
  obtain ⟨rfl, h⟩ := hq
  refine x_st [] rfl ?_
  refine x_aload_n C rfl 0 rfl dX12_thing_114 ?_
  refine x_dup C rfl dX12_thing_115 ?_
  refine x_getI C (j := 29) ob358.1 ob358.2 (Nat.le_of_ble_eq_true rfl) (Nat.le_of_ble_eq_true rfl) (Or.inl rfl) tw_8_235 dX12_thing_116 ?_
  refine x_iconst (v := 1) C (by decide) dX12_thing_119 ?_
  refine x_iadd C dX12_thing_120 ?_
  refine x_putI C (j := 29) ob358.1 ob358.2 (Nat.le_of_ble_eq_true rfl) (Nat.le_of_ble_eq_true rfl) (Or.inl rfl) rfl rfl rfl tw_8_235 dX12_thing_121 ?_
  refine x_mu (fun μ58 e_μ58 => ?_)
  have h := h μ58 e_μ58
  refine x_iconst (v := 1) C (by decide) dX12_thing_124 ?_
  exact x_zret C hr bo_1 dX12_thing_125 ⟨_, rfl, h⟩
set_option maxHeartbeats 4000000 in
set_option maxRecDepth 100000 in
theorem G12_thing_J109_ok {p : Program} {e : Env} {s : State} {m : MethodId} {args : Array Value} {below : List Frame} {meth : Method} {c : Code} {l : Launch} {φ : Nat → Nat} {tc : Nat → ClassId} {D : va_G} {s0 : State} {dR : Nat} (C : CX p s m args meth c φ tc D (AX φ) s0 cX12_thing RX12 3) (hd : G12_thing_dep ≤ dR) (hr : meth.sig.returnType = (some .boolean))  {rAh : MM → (Int32 → MM → Prop) → Prop} {rRa : Int32 → MM → (Int32 → MM → Prop) → Prop} {rTh : MM → (Int32 → MM → Prop) → Prop} {dC : Nat}  {p1 : Int32} {q0 : Int32} {Q : Int32 → MM → Prop}  {μ : MM} (hdC : dC + 1 ≤ dR) (hrAh : ∀ {μ : MM} {Q : Int32 → MM → Prop}, rAh μ Q → MX l φ tc D s0 dC yX12_ahead cX12_ahead 3 (some .boolean) [.ref 358] μ (QI Q)) (hrRa : ∀ {v : Int32} {μ : MM} {Q : Int32 → MM → Prop}, rRa v μ Q → MX l φ tc D s0 dC yX12_ranked cX12_ranked 6 (some .boolean) [.ref 358, .int v] μ (QI Q)) (hrTh : ∀ {μ : MM} {Q : Int32 → MM → Prop}, rTh μ Q → MX l φ tc D s0 dC yX12_thing cX12_thing 3 (some .boolean) [.ref 358] μ (QI Q))    (h : G12_thing_J109 rAh rRa rTh p1 q0 μ Q) : WX p l e (rmX dR) s m args below meth c φ tc D (AX φ) 3 0 0 (MQ below (QX φ tc D (QI Q)) args s 0 0 (AX φ)) 109 [(0, .ref 358), (1, .int p1)] [.int q0, .ref 358] μ := by
  unfold G12_thing_J109 at h
  refine x_iload_n C rfl 1 rfl dX12_thing_109 ?_
  refine x_sub [(0, .ref 358)] [0] rfl ?_
  exact G12_thing_J110_ok C hd hr hdC hrAh hrRa hrTh h
set_option maxHeartbeats 4000000 in
set_option maxRecDepth 100000 in
theorem G12_thing_J79_ok {p : Program} {e : Env} {s : State} {m : MethodId} {args : Array Value} {below : List Frame} {meth : Method} {c : Code} {l : Launch} {φ : Nat → Nat} {tc : Nat → ClassId} {D : va_G} {s0 : State} {dR : Nat} (C : CX p s m args meth c φ tc D (AX φ) s0 cX12_thing RX12 3) (hd : G12_thing_dep ≤ dR) (hr : meth.sig.returnType = (some .boolean))  {rAh : MM → (Int32 → MM → Prop) → Prop} {rRa : Int32 → MM → (Int32 → MM → Prop) → Prop} {rTh : MM → (Int32 → MM → Prop) → Prop} {dC : Nat}  {q0 : Nat} {Q : Int32 → MM → Prop}  {μ : MM} (hdC : dC + 1 ≤ dR) (hrAh : ∀ {μ : MM} {Q : Int32 → MM → Prop}, rAh μ Q → MX l φ tc D s0 dC yX12_ahead cX12_ahead 3 (some .boolean) [.ref 358] μ (QI Q)) (hrRa : ∀ {v : Int32} {μ : MM} {Q : Int32 → MM → Prop}, rRa v μ Q → MX l φ tc D s0 dC yX12_ranked cX12_ranked 6 (some .boolean) [.ref 358, .int v] μ (QI Q)) (hrTh : ∀ {μ : MM} {Q : Int32 → MM → Prop}, rTh μ Q → MX l φ tc D s0 dC yX12_thing cX12_thing 3 (some .boolean) [.ref 358] μ (QI Q))  (o_q0 : q0 < nJS)  (h : G12_thing_J79 rAh rRa rTh q0 μ Q) : WX p l e (rmX dR) s m args below meth c φ tc D (AX φ) 3 0 0 (MQ below (QX φ tc D (QI Q)) args s 0 0 (AX φ)) 79 [(0, .ref 358)] [.ref (500 + q0), .ref 358] μ := by
  unfold G12_thing_J79 at h
  refine x_callV (dC := G12_among_dep) (as := [.ref (500 + q0)]) (st := []) C rX kX (Nat.le_trans (Nat.le_of_ble_eq_true rfl) hd) (Nat.le_of_ble_eq_true rfl) ob358.1 ob358.2 (Nat.le_of_ble_eq_true rfl) rfl ts_9_4 tw_7_36 tw_7_34 tc_7_37 tw_1_13 hyX12 hnX12_among rfl (Nat.le_of_ble_eq_true rfl) dX12_thing_79 (G12_among_met C.2.2.2.2.2.2.2.1 (Nat.le_refl _) o_q0 h) (fun r0 μ39 hq => ?_)
  obtain ⟨r40, rfl, h⟩ := hq
  refine x_st [.int r40] rfl ?_
  refine x_istore_n C [(1, .int r40), (0, .ref 358)] rfl (Nat.le_of_ble_eq_true rfl) rfl dX12_thing_82 ?_
  refine x_iload_n C rfl 0 rfl dX12_thing_83 ?_
  refine x_if_lt (tgt := 126) C dX12_thing_84 (by decide) (fun c41 => ?_) (fun c41 => ?_)
  · have h := h.1 c41
    refine x_aload_n C rfl 1 rfl dX12_thing_126 ?_
    refine x_ldcS (i := 7) C (by decide) rfl rfl dX12_thing_127 ?_
    refine x_callV (dC := G12_among_dep) (as := [.ref (500 + 7)]) (st := []) C rX kX (Nat.le_trans (Nat.le_of_ble_eq_true rfl) hd) (Nat.le_of_ble_eq_true rfl) ob358.1 ob358.2 (Nat.le_of_ble_eq_true rfl) rfl ts_9_4 tw_7_36 tw_7_34 tc_7_37 tw_1_13 hyX12 hnX12_among rfl (Nat.le_of_ble_eq_true rfl) dX12_thing_129 (G12_among_met C.2.2.2.2.2.2.2.1 (Nat.le_refl _) (by decide) h) (fun r0 μ42 hq => ?_)
    obtain ⟨r43, rfl, h⟩ := hq
    refine x_st [.int r43] rfl ?_
    refine x_if_lt (tgt := 143) C dX12_thing_132 (by decide) (fun c44 => ?_) (fun c44 => ?_)
    · have h := h.1 c44
      refine x_iconst (v := 0) C (by decide) dX12_thing_143 ?_
      exact x_zret C hr bo_0 dX12_thing_144 ⟨_, rfl, h⟩
    · have h := h.2 c44
      refine x_aload_n C rfl 1 rfl dX12_thing_135 ?_
      refine x_getI C (j := 31) ob358.1 ob358.2 (Nat.le_of_ble_eq_true rfl) (Nat.le_of_ble_eq_true rfl) (Or.inl rfl) tw_8_237 dX12_thing_136 ?_
      refine x_iconst (v := 5) C (by decide) dX12_thing_139 ?_
      refine x_icmp_ne (tgt := 145) C dX12_thing_140 (by decide) (fun c45 => ?_) (fun c45 => ?_)
      · have h := h.1 c45
        refine x_aload_n C rfl 1 rfl dX12_thing_145 ?_
        refine x_dup C rfl dX12_thing_146 ?_
        refine x_getI C (j := 29) ob358.1 ob358.2 (Nat.le_of_ble_eq_true rfl) (Nat.le_of_ble_eq_true rfl) (Or.inl rfl) tw_8_235 dX12_thing_147 ?_
        refine x_iconst (v := 1) C (by decide) dX12_thing_150 ?_
        refine x_iadd C dX12_thing_151 ?_
        refine x_putI C (j := 29) ob358.1 ob358.2 (Nat.le_of_ble_eq_true rfl) (Nat.le_of_ble_eq_true rfl) (Or.inl rfl) rfl rfl rfl tw_8_235 dX12_thing_152 ?_
        refine x_mu (fun μ46 e_μ46 => ?_)
        have h := h μ46 e_μ46
        refine x_aload_n C rfl 1 rfl dX12_thing_155 ?_
        refine x_dup C rfl dX12_thing_156 ?_
        refine x_getI C (j := 31) ob358.1 ob358.2 (Nat.le_of_ble_eq_true rfl) (Nat.le_of_ble_eq_true rfl) (Or.inl rfl) tw_8_237 dX12_thing_157 ?_
        refine x_iconst (v := 1) C (by decide) dX12_thing_160 ?_
        refine x_iadd C dX12_thing_161 ?_
        refine x_putI C (j := 31) ob358.1 ob358.2 (Nat.le_of_ble_eq_true rfl) (Nat.le_of_ble_eq_true rfl) (Or.inl rfl) rfl rfl rfl tw_8_237 dX12_thing_162 ?_
        refine x_mu (fun μ47 e_μ47 => ?_)
        have h := h μ47 e_μ47
        refine x_aload_n C rfl 1 rfl dX12_thing_165 ?_
        refine x_iconst (v := 0) C (by decide) dX12_thing_166 ?_
        refine x_callV (dC := dC) (as := [.int 0]) (st := []) C rX kX hdC (Nat.le_of_ble_eq_true rfl) ob358.1 ob358.2 (Nat.le_of_ble_eq_true rfl) rfl ts_9_2 tw_7_27 tw_7_25 tc_7_28 tw_1_13 hyX12 hnX12_ranked rfl (Nat.le_of_ble_eq_true rfl) dX12_thing_167 (hrRa h) (fun r0 μ48 hq => ?_)
        obtain ⟨r49, rfl, h⟩ := hq
        refine x_st [.int r49] rfl ?_
        refine x_if_eq (tgt := 182) C dX12_thing_170 (by decide) (fun c50 => ?_) (fun c50 => ?_)
        · have h := h.1 c50
          refine x_iconst (v := 0) C (by decide) dX12_thing_182 ?_
          exact x_zret C hr bo_0 dX12_thing_183 ⟨_, rfl, h⟩
        · have h := h.2 c50
          refine x_aload_n C rfl 1 rfl dX12_thing_173 ?_
          refine x_ldcS (i := 8) C (by decide) rfl rfl dX12_thing_174 ?_
          refine x_callV (dC := G12_among_dep) (as := [.ref (500 + 8)]) (st := []) C rX kX (Nat.le_trans (Nat.le_of_ble_eq_true rfl) hd) (Nat.le_of_ble_eq_true rfl) ob358.1 ob358.2 (Nat.le_of_ble_eq_true rfl) rfl ts_9_4 tw_7_36 tw_7_34 tc_7_37 tw_1_13 hyX12 hnX12_among rfl (Nat.le_of_ble_eq_true rfl) dX12_thing_176 (G12_among_met C.2.2.2.2.2.2.2.1 (Nat.le_refl _) (by decide) h) (fun r0 μ51 hq => ?_)
          obtain ⟨r52, rfl, h⟩ := hq
          refine x_st [.int r52] rfl ?_
          refine x_if_ge (tgt := 184) C dX12_thing_179 (by decide) (fun c53 => ?_) (fun c53 => ?_)
          · have h := h.1 c53
            refine x_aload_n C rfl 1 rfl dX12_thing_184 ?_
            refine x_dup C rfl dX12_thing_185 ?_
            refine x_getI C (j := 29) ob358.1 ob358.2 (Nat.le_of_ble_eq_true rfl) (Nat.le_of_ble_eq_true rfl) (Or.inl rfl) tw_8_235 dX12_thing_186 ?_
            refine x_iconst (v := 1) C (by decide) dX12_thing_189 ?_
            refine x_iadd C dX12_thing_190 ?_
            refine x_putI C (j := 29) ob358.1 ob358.2 (Nat.le_of_ble_eq_true rfl) (Nat.le_of_ble_eq_true rfl) (Or.inl rfl) rfl rfl rfl tw_8_235 dX12_thing_191 ?_
            refine x_mu (fun μ54 e_μ54 => ?_)
            have h := h μ54 e_μ54
            refine x_aload_n C rfl 1 rfl dX12_thing_194 ?_
            refine x_dup C rfl dX12_thing_195 ?_
            refine x_getI C (j := 31) ob358.1 ob358.2 (Nat.le_of_ble_eq_true rfl) (Nat.le_of_ble_eq_true rfl) (Or.inl rfl) tw_8_237 dX12_thing_196 ?_
            refine x_iconst (v := 1) C (by decide) dX12_thing_199 ?_
            refine x_isub C dX12_thing_200 ?_
            refine x_putI C (j := 31) ob358.1 ob358.2 (Nat.le_of_ble_eq_true rfl) (Nat.le_of_ble_eq_true rfl) (Or.inl rfl) rfl rfl rfl tw_8_237 dX12_thing_201 ?_
            refine x_mu (fun μ55 e_μ55 => ?_)
            have h := h μ55 e_μ55
            refine x_iconst (v := 1) C (by decide) dX12_thing_204 ?_
            exact x_zret C hr bo_1 dX12_thing_205 ⟨_, rfl, h⟩
          · have h := h.2 c53
            refine x_iconst (v := 0) C (by decide) dX12_thing_182 ?_
            exact x_zret C hr bo_0 dX12_thing_183 ⟨_, rfl, h⟩
      · have h := h.2 c45
        refine x_iconst (v := 0) C (by decide) dX12_thing_143 ?_
        exact x_zret C hr bo_0 dX12_thing_144 ⟨_, rfl, h⟩
  · have h := h.2 c41
    refine x_aload_n C rfl 1 rfl dX12_thing_87 ?_
    refine x_sipush (v := 1000) C (by decide) dX12_thing_88 ?_
    refine x_aload_n C rfl 1 rfl dX12_thing_91 ?_
    refine x_getI C (j := 32) ob358.1 ob358.2 (Nat.le_of_ble_eq_true rfl) (Nat.le_of_ble_eq_true rfl) (Or.inr rfl) tw_8_238 dX12_thing_92 ?_
    refine x_if_ne (tgt := 109) C dX12_thing_95 (by decide) (fun c56 => ?_) (fun c56 => ?_)
    · have h := h.1 c56
      refine x_sub [(0, .ref 358), (1, .int r40)] [1, 0] rfl ?_
      exact G12_thing_J109_ok C hd hr hdC hrAh hrRa hrTh h
    · have h := h.2 c56
      refine x_iload_n C rfl 0 rfl dX12_thing_98 ?_
      refine x_bipush (v := 10) C (by decide) dX12_thing_99 ?_
      refine x_icmp_ne (tgt := 109) C dX12_thing_101 (by decide) (fun c59 => ?_) (fun c59 => ?_)
      · have h := h.1 c59
        refine x_sub [(0, .ref 358), (1, .int r40)] [1, 0] rfl ?_
        exact G12_thing_J109_ok C hd hr hdC hrAh hrRa hrTh h
      · have h := h.2 c59
        refine x_bipush (v := 13) C (by decide) dX12_thing_104 ?_
        refine x_goto (tgt := 110) C dX12_thing_106 (by decide) ?_
        refine x_sub [(0, .ref 358)] [1] rfl ?_
        exact G12_thing_J110_ok C hd hr hdC hrAh hrRa hrTh h
set_option maxHeartbeats 4000000 in
set_option maxRecDepth 100000 in
theorem G12_thing_J57_ok {p : Program} {e : Env} {s : State} {m : MethodId} {args : Array Value} {below : List Frame} {meth : Method} {c : Code} {l : Launch} {φ : Nat → Nat} {tc : Nat → ClassId} {D : va_G} {s0 : State} {dR : Nat} (C : CX p s m args meth c φ tc D (AX φ) s0 cX12_thing RX12 3) (hd : G12_thing_dep ≤ dR) (hr : meth.sig.returnType = (some .boolean))  {rAh : MM → (Int32 → MM → Prop) → Prop} {rRa : Int32 → MM → (Int32 → MM → Prop) → Prop} {rTh : MM → (Int32 → MM → Prop) → Prop} {dC : Nat}  {p1 : Int32} {Q : Int32 → MM → Prop}  {μ : MM} (hdC : dC + 1 ≤ dR) (hrAh : ∀ {μ : MM} {Q : Int32 → MM → Prop}, rAh μ Q → MX l φ tc D s0 dC yX12_ahead cX12_ahead 3 (some .boolean) [.ref 358] μ (QI Q)) (hrRa : ∀ {v : Int32} {μ : MM} {Q : Int32 → MM → Prop}, rRa v μ Q → MX l φ tc D s0 dC yX12_ranked cX12_ranked 6 (some .boolean) [.ref 358, .int v] μ (QI Q)) (hrTh : ∀ {μ : MM} {Q : Int32 → MM → Prop}, rTh μ Q → MX l φ tc D s0 dC yX12_thing cX12_thing 3 (some .boolean) [.ref 358] μ (QI Q))    (h : G12_thing_J57 rAh rRa rTh p1 μ Q) : WX p l e (rmX dR) s m args below meth c φ tc D (AX φ) 3 0 0 (MQ below (QX φ tc D (QI Q)) args s 0 0 (AX φ)) 57 [(0, .ref 358), (1, .int p1)] [] μ := by
  unfold G12_thing_J57 at h
  refine x_aload_n C rfl 0 rfl dX12_thing_57 ?_
  refine x_iload_n C rfl 1 rfl dX12_thing_58 ?_
  refine x_callV (dC := G12_marks_dep) (as := [.int p1]) (st := []) C rX kX (Nat.le_trans (Nat.le_of_ble_eq_true rfl) hd) (Nat.le_of_ble_eq_true rfl) ob358.1 ob358.2 (Nat.le_of_ble_eq_true rfl) rfl ts_9_7 tw_7_71 tw_7_69 tc_7_72 tw_1_13 hyX12 hnX12_marks rfl (Nat.le_of_ble_eq_true rfl) dX12_thing_59 (G12_marks_met C.2.2.2.2.2.2.2.1 (Nat.le_refl _)  h) (fun r0 μ61 hq => ?_)
  obtain ⟨rfl, h⟩ := hq
  refine x_st [] rfl ?_
  refine x_iconst (v := 1) C (by decide) dX12_thing_62 ?_
  exact x_zret C hr bo_1 dX12_thing_63 ⟨_, rfl, h⟩
set_option maxHeartbeats 4000000 in
set_option maxRecDepth 100000 in
theorem G12_thing_L11_b {p : Program} {e : Env} {s : State} {m : MethodId} {args : Array Value} {below : List Frame} {meth : Method} {c : Code} {l : Launch} {φ : Nat → Nat} {tc : Nat → ClassId} {D : va_G} {s0 : State} {dR : Nat} (C : CX p s m args meth c φ tc D (AX φ) s0 cX12_thing RX12 3) (hd : G12_thing_dep ≤ dR) (hr : meth.sig.returnType = (some .boolean)) {rAh : MM → (Int32 → MM → Prop) → Prop} {rRa : Int32 → MM → (Int32 → MM → Prop) → Prop} {rTh : MM → (Int32 → MM → Prop) → Prop} {dC : Nat}   {Q : Int32 → MM → Prop} {K11 : Int32 × Int32 × MM → Prop} {x : Int32 × Int32 × MM} (hdC : dC + 1 ≤ dR) (hrAh : ∀ {μ : MM} {Q : Int32 → MM → Prop}, rAh μ Q → MX l φ tc D s0 dC yX12_ahead cX12_ahead 3 (some .boolean) [.ref 358] μ (QI Q)) (hrRa : ∀ {v : Int32} {μ : MM} {Q : Int32 → MM → Prop}, rRa v μ Q → MX l φ tc D s0 dC yX12_ranked cX12_ranked 6 (some .boolean) [.ref 358, .int v] μ (QI Q)) (hrTh : ∀ {μ : MM} {Q : Int32 → MM → Prop}, rTh μ Q → MX l φ tc D s0 dC yX12_thing cX12_thing 3 (some .boolean) [.ref 358] μ (QI Q))   (hK11 : ∀ (z1 : Int32) (z2 : Int32) (zμ : MM), K11 (z1, z2, zμ) → WX p l e (rmX dR) s m args below meth c φ tc D (AX φ) 3 0 0 (MQ below (QX φ tc D (QI Q)) args s 0 0 (AX φ)) 11 [(0, .ref 358), (1, .int z1), (2, .int z2)] [] zμ) (h : G12_thing_L11 rAh rRa rTh Q K11 x) : WX p l e (rmX dR) s m args below meth c φ tc D (AX φ) 3 0 0 (MQ below (QX φ tc D (QI Q)) args s 0 0 (AX φ)) 11 [(0, .ref 358), (1, .int x.1), (2, .int x.2.1)] [] x.2.2 := by
  unfold G12_thing_L11 at h
  refine x_iload_n C rfl 2 rfl dX12_thing_11 ?_
  refine x_iconst (v := 3) C (by decide) dX12_thing_12 ?_
  refine x_icmp_ge (tgt := 57) C dX12_thing_13 (by decide) (fun c60 => ?_) (fun c60 => ?_)
  · have h := h.1 c60
    refine x_sub [(0, .ref 358), (1, .int x.1)] [0, 1] rfl ?_
    exact G12_thing_J57_ok C hd hr hdC hrAh hrRa hrTh h
  · have h := h.2 c60
    refine x_aload_n C rfl 0 rfl dX12_thing_16 ?_
    refine x_callV (dC := G12_isDigit_dep) (as := []) (st := []) C rX kX (Nat.le_trans (Nat.le_of_ble_eq_true rfl) hd) (Nat.le_of_ble_eq_true rfl) ob358.1 ob358.2 (Nat.le_of_ble_eq_true rfl) rfl ts_9_6 tw_7_65 tw_7_63 tc_7_66 tw_1_13 hyX12 hnX12_isDigit rfl (Nat.le_of_ble_eq_true rfl) dX12_thing_17 (G12_isDigit_met C.2.2.2.2.2.2.2.1 (Nat.le_refl _)  h) (fun r0 μ62 hq => ?_)
    obtain ⟨r63, rfl, h⟩ := hq
    refine x_st [.int r63] rfl ?_
    refine x_if_eq (tgt := 57) C dX12_thing_20 (by decide) (fun c64 => ?_) (fun c64 => ?_)
    · have h := h.1 c64
      refine x_sub [(0, .ref 358), (1, .int x.1)] [0, 1] rfl ?_
      exact G12_thing_J57_ok C hd hr hdC hrAh hrRa hrTh h
    · have h := h.2 c64
      refine x_bipush (v := 10) C (by decide) dX12_thing_23 ?_
      refine x_iload_n C rfl 1 rfl dX12_thing_25 ?_
      refine x_imul C dX12_thing_26 ?_
      refine x_aload_n C rfl 0 rfl dX12_thing_27 ?_
      refine x_getR (r := 380) C (j := 27) ob358.1 ob358.2 (Nat.le_of_ble_eq_true rfl) (Nat.le_of_ble_eq_true rfl) (fun _ _ _ => rfl) r_358_27 tw_8_233 dX12_thing_28 ?_
      refine x_aload_n C rfl 0 rfl dX12_thing_31 ?_
      refine x_getI C (j := 29) ob358.1 ob358.2 (Nat.le_of_ble_eq_true rfl) (Nat.le_of_ble_eq_true rfl) (Or.inl rfl) tw_8_235 dX12_thing_32 ?_
      obtain ⟨c65, h⟩ := h
      refine x_iald C ob380.1 ob380.2 c65 rfl dX12_thing_35 ?_
      refine x_iadd C dX12_thing_36 ?_
      refine x_bipush (v := 48) C (by decide) dX12_thing_37 ?_
      refine x_isub C dX12_thing_39 ?_
      refine x_topi (fun y66 e_y66 => ?_)
      have h := h y66 e_y66
      refine x_istore_n C [(1, .int y66), (0, .ref 358), (2, .int x.2.1)] rfl (Nat.le_of_ble_eq_true rfl) rfl dX12_thing_40 ?_
      refine x_aload_n C rfl 1 rfl dX12_thing_41 ?_
      refine x_dup C rfl dX12_thing_42 ?_
      refine x_getI C (j := 29) ob358.1 ob358.2 (Nat.le_of_ble_eq_true rfl) (Nat.le_of_ble_eq_true rfl) (Or.inl rfl) tw_8_235 dX12_thing_43 ?_
      refine x_iconst (v := 1) C (by decide) dX12_thing_46 ?_
      refine x_iadd C dX12_thing_47 ?_
      refine x_putI C (j := 29) ob358.1 ob358.2 (Nat.le_of_ble_eq_true rfl) (Nat.le_of_ble_eq_true rfl) (Or.inl rfl) rfl rfl rfl tw_8_235 dX12_thing_48 ?_
      refine x_mu (fun μ67 e_μ67 => ?_)
      have h := h μ67 e_μ67
      refine x_iinc (v := (x.2.1 + 1)) C [(2, .int (x.2.1 + 1)), (1, .int y66), (0, .ref 358)] 2 rfl (congrArg (fun z => x.2.1 + z) (by decide : Int32.ofInt (1) = 1)) (Nat.le_of_ble_eq_true rfl) rfl dX12_thing_51 ?_
      refine x_goto (tgt := 11) C dX12_thing_54 (by decide) ?_
      refine x_sub [(0, .ref 358), (1, .int y66), (2, .int (x.2.1 + 1))] [2, 1, 0] rfl ?_
      exact hK11 _ _ _ h
theorem G12_thing_L11_ok {p : Program} {e : Env} {s : State} {m : MethodId} {args : Array Value} {below : List Frame} {meth : Method} {c : Code} {l : Launch} {φ : Nat → Nat} {tc : Nat → ClassId} {D : va_G} {s0 : State} {dR : Nat} (C : CX p s m args meth c φ tc D (AX φ) s0 cX12_thing RX12 3) (hd : G12_thing_dep ≤ dR) (hr : meth.sig.returnType = (some .boolean)) {rAh : MM → (Int32 → MM → Prop) → Prop} {rRa : Int32 → MM → (Int32 → MM → Prop) → Prop} {rTh : MM → (Int32 → MM → Prop) → Prop} {dC : Nat}   {Q : Int32 → MM → Prop}  {x : Int32 × Int32 × MM} (hdC : dC + 1 ≤ dR) (hrAh : ∀ {μ : MM} {Q : Int32 → MM → Prop}, rAh μ Q → MX l φ tc D s0 dC yX12_ahead cX12_ahead 3 (some .boolean) [.ref 358] μ (QI Q)) (hrRa : ∀ {v : Int32} {μ : MM} {Q : Int32 → MM → Prop}, rRa v μ Q → MX l φ tc D s0 dC yX12_ranked cX12_ranked 6 (some .boolean) [.ref 358, .int v] μ (QI Q)) (hrTh : ∀ {μ : MM} {Q : Int32 → MM → Prop}, rTh μ Q → MX l φ tc D s0 dC yX12_thing cX12_thing 3 (some .boolean) [.ref 358] μ (QI Q))    (h : Lp (G12_thing_L11 rAh rRa rTh Q) x) : WX p l e (rmX dR) s m args below meth c φ tc D (AX φ) 3 0 0 (MQ below (QX φ tc D (QI Q)) args s 0 0 (AX φ)) 11 [(0, .ref 358), (1, .int x.1), (2, .int x.2.1)] [] x.2.2 := by
  obtain ⟨n, h⟩ := h
  induction n generalizing x with
  | zero => exact h.elim
  | succ n ih => exact G12_thing_L11_b C hd hr hdC hrAh hrRa hrTh  (fun z1 z2 zμ hz => by have q := ih hz; exact q) h
set_option maxHeartbeats 4000000 in
set_option maxRecDepth 100000 in
theorem G12_thing_met {l : Launch} {φ : Nat → Nat} {tc : Nat → ClassId} {D : va_G} {s0 : State} (hG : GX φ tc D s0) {dR : Nat} (hd : G12_thing_dep ≤ dR) {rAh : MM → (Int32 → MM → Prop) → Prop} {rRa : Int32 → MM → (Int32 → MM → Prop) → Prop} {rTh : MM → (Int32 → MM → Prop) → Prop} {dC : Nat}  {μ : MM} {Q : Int32 → MM → Prop} (hdC : dC + 1 ≤ dR) (hrAh : ∀ {μ : MM} {Q : Int32 → MM → Prop}, rAh μ Q → MX l φ tc D s0 dC yX12_ahead cX12_ahead 3 (some .boolean) [.ref 358] μ (QI Q)) (hrRa : ∀ {v : Int32} {μ : MM} {Q : Int32 → MM → Prop}, rRa v μ Q → MX l φ tc D s0 dC yX12_ranked cX12_ranked 6 (some .boolean) [.ref 358, .int v] μ (QI Q)) (hrTh : ∀ {μ : MM} {Q : Int32 → MM → Prop}, rTh μ Q → MX l φ tc D s0 dC yX12_thing cX12_thing 3 (some .boolean) [.ref 358] μ (QI Q))  (h : G12_thing rAh rRa rTh μ Q) : MX l φ tc D s0 dR yX12_thing cX12_thing 3 (some .boolean) [.ref 358] μ (QI Q) := by
  refine MX.of (own := RX12) hG plX12 rfl (Nat.le_of_ble_eq_true rfl) (fun p e s m args below meth c C hr => ?_)
  refine x_sub [(0, .ref 358)] [0] rfl ?_
  unfold G12_thing at h
  refine x_aload_n C rfl 0 rfl dX12_thing_0 ?_
  refine x_callV (dC := G12_isDigit_dep) (as := []) (st := []) C rX kX (Nat.le_trans (Nat.le_of_ble_eq_true rfl) hd) (Nat.le_of_ble_eq_true rfl) ob358.1 ob358.2 (Nat.le_of_ble_eq_true rfl) rfl ts_9_6 tw_7_65 tw_7_63 tc_7_66 tw_1_13 hyX12 hnX12_isDigit rfl (Nat.le_of_ble_eq_true rfl) dX12_thing_1 (G12_isDigit_met C.2.2.2.2.2.2.2.1 (Nat.le_refl _)  h) (fun r0 μ35 hq => ?_)
  obtain ⟨r36, rfl, h⟩ := hq
  refine x_st [.int r36] rfl ?_
  refine x_if_eq (tgt := 64) C dX12_thing_4 (by decide) (fun c37 => ?_) (fun c37 => ?_)
  · have h := h.1 c37
    refine x_aload_n C rfl 0 rfl dX12_thing_64 ?_
    refine x_aload_n C rfl 0 rfl dX12_thing_65 ?_
    refine x_getI C (j := 32) ob358.1 ob358.2 (Nat.le_of_ble_eq_true rfl) (Nat.le_of_ble_eq_true rfl) (Or.inr rfl) tw_8_238 dX12_thing_66 ?_
    refine x_if_eq (tgt := 77) C dX12_thing_69 (by decide) (fun c38 => ?_) (fun c38 => ?_)
    · have h := h.1 c38
      refine x_ldcS (i := 6) C (by decide) rfl rfl dX12_thing_77 ?_
      exact G12_thing_J79_ok C hd hr hdC hrAh hrRa hrTh (by decide) h
    · have h := h.2 c38
      refine x_ldcS (i := 5) C (by decide) rfl rfl dX12_thing_72 ?_
      refine x_goto (tgt := 79) C dX12_thing_74 (by decide) ?_
      exact G12_thing_J79_ok C hd hr hdC hrAh hrRa hrTh (by decide) h
  · have h := h.2 c37
    refine x_iconst (v := 0) C (by decide) dX12_thing_7 ?_
    refine x_istore_n C [(1, .int 0), (0, .ref 358)] rfl (Nat.le_of_ble_eq_true rfl) rfl dX12_thing_8 ?_
    refine x_iconst (v := 0) C (by decide) dX12_thing_9 ?_
    refine x_istore_n C [(2, .int 0), (1, .int 0), (0, .ref 358)] rfl (Nat.le_of_ble_eq_true rfl) rfl dX12_thing_10 ?_
    refine x_sub [(0, .ref 358), (1, .int 0), (2, .int 0)] [2, 1, 0] rfl ?_
    exact G12_thing_L11_ok C hd hr hdC hrAh hrRa hrTh h
set_option maxHeartbeats 4000000 in
set_option maxRecDepth 100000 in
theorem G12_ahead_J50_ok {p : Program} {e : Env} {s : State} {m : MethodId} {args : Array Value} {below : List Frame} {meth : Method} {c : Code} {l : Launch} {φ : Nat → Nat} {tc : Nat → ClassId} {D : va_G} {s0 : State} {dR : Nat} (C : CX p s m args meth c φ tc D (AX φ) s0 cX12_ahead RX12 3) (hd : G12_ahead_dep ≤ dR) (hr : meth.sig.returnType = (some .boolean))  {rAh : MM → (Int32 → MM → Prop) → Prop} {rRa : Int32 → MM → (Int32 → MM → Prop) → Prop} {rTh : MM → (Int32 → MM → Prop) → Prop} {dC : Nat}  {p2 : Int32} {q0 : Int32} {q1 : Int32} {Q : Int32 → MM → Prop}  {μ : MM} (hdC : dC + 1 ≤ dR) (hrAh : ∀ {μ : MM} {Q : Int32 → MM → Prop}, rAh μ Q → MX l φ tc D s0 dC yX12_ahead cX12_ahead 3 (some .boolean) [.ref 358] μ (QI Q)) (hrRa : ∀ {v : Int32} {μ : MM} {Q : Int32 → MM → Prop}, rRa v μ Q → MX l φ tc D s0 dC yX12_ranked cX12_ranked 6 (some .boolean) [.ref 358, .int v] μ (QI Q)) (hrTh : ∀ {μ : MM} {Q : Int32 → MM → Prop}, rTh μ Q → MX l φ tc D s0 dC yX12_thing cX12_thing 3 (some .boolean) [.ref 358] μ (QI Q))    (h : G12_ahead_J50 rAh rRa rTh p2 q0 q1 μ Q) : WX p l e (rmX dR) s m args below meth c φ tc D (AX φ) 3 0 0 (MQ below (QX φ tc D (QI Q)) args s 0 0 (AX φ)) 50 [(2, .int p2)] [.int q0, .int q1, .ref 358] μ := by
  unfold G12_ahead_J50 at h
  refine x_iadd C dX12_ahead_50 ?_
  refine x_callV (dC := G12_marks_dep) (as := [.int (q1 + q0)]) (st := []) C rX kX (Nat.le_trans (Nat.le_of_ble_eq_true rfl) hd) (Nat.le_of_ble_eq_true rfl) ob358.1 ob358.2 (Nat.le_of_ble_eq_true rfl) rfl ts_9_7 tw_7_71 tw_7_69 tc_7_72 tw_1_13 hyX12 hnX12_marks rfl (Nat.le_of_ble_eq_true rfl) dX12_ahead_51 (G12_marks_met C.2.2.2.2.2.2.2.1 (Nat.le_refl _)  h) (fun r0 μ17 hq => ?_)
  obtain ⟨rfl, h⟩ := hq
  refine x_st [] rfl ?_
  refine x_iload_n C rfl 0 rfl dX12_ahead_54 ?_
  exact x_zret C hr h.1 dX12_ahead_55 ⟨_, rfl, h.2⟩
set_option maxHeartbeats 4000000 in
set_option maxRecDepth 100000 in
theorem G12_ahead_met {l : Launch} {φ : Nat → Nat} {tc : Nat → ClassId} {D : va_G} {s0 : State} (hG : GX φ tc D s0) {dR : Nat} (hd : G12_ahead_dep ≤ dR) {rAh : MM → (Int32 → MM → Prop) → Prop} {rRa : Int32 → MM → (Int32 → MM → Prop) → Prop} {rTh : MM → (Int32 → MM → Prop) → Prop} {dC : Nat}  {μ : MM} {Q : Int32 → MM → Prop} (hdC : dC + 1 ≤ dR) (hrAh : ∀ {μ : MM} {Q : Int32 → MM → Prop}, rAh μ Q → MX l φ tc D s0 dC yX12_ahead cX12_ahead 3 (some .boolean) [.ref 358] μ (QI Q)) (hrRa : ∀ {v : Int32} {μ : MM} {Q : Int32 → MM → Prop}, rRa v μ Q → MX l φ tc D s0 dC yX12_ranked cX12_ranked 6 (some .boolean) [.ref 358, .int v] μ (QI Q)) (hrTh : ∀ {μ : MM} {Q : Int32 → MM → Prop}, rTh μ Q → MX l φ tc D s0 dC yX12_thing cX12_thing 3 (some .boolean) [.ref 358] μ (QI Q))  (h : G12_ahead rAh rRa rTh μ Q) : MX l φ tc D s0 dR yX12_ahead cX12_ahead 3 (some .boolean) [.ref 358] μ (QI Q) := by
  refine MX.of (own := RX12) hG plX12 rfl (Nat.le_of_ble_eq_true rfl) (fun p e s m args below meth c C hr => ?_)
  refine x_sub [(0, .ref 358)] [0] rfl ?_
  unfold G12_ahead at h
  refine x_aload_n C rfl 0 rfl dX12_ahead_0 ?_
  refine x_ldcS (i := 4) C (by decide) rfl rfl dX12_ahead_1 ?_
  refine x_callV (dC := G12_among_dep) (as := [.ref (500 + 4)]) (st := []) C rX kX (Nat.le_trans (Nat.le_of_ble_eq_true rfl) hd) (Nat.le_of_ble_eq_true rfl) ob358.1 ob358.2 (Nat.le_of_ble_eq_true rfl) rfl ts_9_4 tw_7_36 tw_7_34 tc_7_37 tw_1_13 hyX12 hnX12_among rfl (Nat.le_of_ble_eq_true rfl) dX12_ahead_3 (G12_among_met C.2.2.2.2.2.2.2.1 (Nat.le_refl _) (by decide) h) (fun r0 μ9 hq => ?_)
  obtain ⟨r10, rfl, h⟩ := hq
  refine x_st [.int r10] rfl ?_
  refine x_istore_n C [(1, .int r10), (0, .ref 358)] rfl (Nat.le_of_ble_eq_true rfl) rfl dX12_ahead_6 ?_
  refine x_iload_n C rfl 0 rfl dX12_ahead_7 ?_
  refine x_if_ge (tgt := 16) C dX12_ahead_8 (by decide) (fun c11 => ?_) (fun c11 => ?_)
  · have h := h.1 c11
    refine x_aload_n C rfl 1 rfl dX12_ahead_16 ?_
    refine x_dup C rfl dX12_ahead_17 ?_
    refine x_getI C (j := 29) ob358.1 ob358.2 (Nat.le_of_ble_eq_true rfl) (Nat.le_of_ble_eq_true rfl) (Or.inl rfl) tw_8_235 dX12_ahead_18 ?_
    refine x_iconst (v := 1) C (by decide) dX12_ahead_21 ?_
    refine x_iadd C dX12_ahead_22 ?_
    refine x_putI C (j := 29) ob358.1 ob358.2 (Nat.le_of_ble_eq_true rfl) (Nat.le_of_ble_eq_true rfl) (Or.inl rfl) rfl rfl rfl tw_8_235 dX12_ahead_23 ?_
    refine x_mu (fun μ12 e_μ12 => ?_)
    have h := h μ12 e_μ12
    refine x_aload_n C rfl 1 rfl dX12_ahead_26 ?_
    refine x_callV (dC := dC) (as := []) (st := []) C rX kX hdC (Nat.le_of_ble_eq_true rfl) ob358.1 ob358.2 (Nat.le_of_ble_eq_true rfl) rfl ts_9_3 tw_7_31 tw_7_29 tc_7_32 tw_1_13 hyX12 hnX12_ahead rfl (Nat.le_of_ble_eq_true rfl) dX12_ahead_27 (hrAh h) (fun r0 μ13 hq => ?_)
    obtain ⟨r14, rfl, h⟩ := hq
    refine x_st [.int r14] rfl ?_
    refine x_istore_n C [(2, .int r14), (1, .int r10), (0, .ref 358)] rfl (Nat.le_of_ble_eq_true rfl) rfl dX12_ahead_30 ?_
    refine x_iload_n C rfl 0 rfl dX12_ahead_31 ?_
    refine x_if_eq (tgt := 54) C dX12_ahead_32 (by decide) (fun c15 => ?_) (fun c15 => ?_)
    · have h := h.1 c15
      refine x_iload_n C rfl 0 rfl dX12_ahead_54 ?_
      exact x_zret C hr h.1 dX12_ahead_55 ⟨_, rfl, h.2⟩
    · have h := h.2 c15
      refine x_aload_n C rfl 2 rfl dX12_ahead_35 ?_
      refine x_sipush (v := 2000) C (by decide) dX12_ahead_36 ?_
      refine x_iload_n C rfl 1 rfl dX12_ahead_39 ?_
      refine x_if_ne (tgt := 48) C dX12_ahead_40 (by decide) (fun c16 => ?_) (fun c16 => ?_)
      · have h := h.1 c16
        refine x_bipush (v := 126) C (by decide) dX12_ahead_48 ?_
        refine x_sub [(2, .int r14)] [0] rfl ?_
        exact G12_ahead_J50_ok C hd hr hdC hrAh hrRa hrTh h
      · have h := h.2 c16
        refine x_bipush (v := 33) C (by decide) dX12_ahead_43 ?_
        refine x_goto (tgt := 50) C dX12_ahead_45 (by decide) ?_
        refine x_sub [(2, .int r14)] [0] rfl ?_
        exact G12_ahead_J50_ok C hd hr hdC hrAh hrRa hrTh h
  · have h := h.2 c11
    refine x_aload_n C rfl 1 rfl dX12_ahead_11 ?_
    refine x_callV (dC := dC) (as := []) (st := []) C rX kX hdC (Nat.le_of_ble_eq_true rfl) ob358.1 ob358.2 (Nat.le_of_ble_eq_true rfl) rfl ts_9_5 tw_7_61 tw_7_59 tc_7_62 tw_1_13 hyX12 hnX12_thing rfl (Nat.le_of_ble_eq_true rfl) dX12_ahead_12 (hrTh h) (fun r0 μ18 hq => ?_)
    obtain ⟨r19, rfl, h⟩ := hq
    refine x_st [.int r19] rfl ?_
    exact x_zret C hr h.1 dX12_ahead_15 ⟨_, rfl, h.2⟩
set_option maxHeartbeats 4000000 in
set_option maxRecDepth 100000 in
theorem G12_ranked_J123_ok {p : Program} {e : Env} {s : State} {m : MethodId} {args : Array Value} {below : List Frame} {meth : Method} {c : Code} {l : Launch} {φ : Nat → Nat} {tc : Nat → ClassId} {D : va_G} {s0 : State} {dR : Nat} (C : CX p s m args meth c φ tc D (AX φ) s0 cX12_ranked RX12 6) (hd : G12_ranked_dep ≤ dR) (hr : meth.sig.returnType = (some .boolean))  {rAh : MM → (Int32 → MM → Prop) → Prop} {rRa : Int32 → MM → (Int32 → MM → Prop) → Prop} {rTh : MM → (Int32 → MM → Prop) → Prop} {dC : Nat}  {p1 : Int32} {p2 : Nat} {p3 : Int32} {Q : Int32 → MM → Prop} {K63 : Int32 × Int32 × MM → Prop} {μ : MM} (hdC : dC + 1 ≤ dR) (hrAh : ∀ {μ : MM} {Q : Int32 → MM → Prop}, rAh μ Q → MX l φ tc D s0 dC yX12_ahead cX12_ahead 3 (some .boolean) [.ref 358] μ (QI Q)) (hrRa : ∀ {v : Int32} {μ : MM} {Q : Int32 → MM → Prop}, rRa v μ Q → MX l φ tc D s0 dC yX12_ranked cX12_ranked 6 (some .boolean) [.ref 358, .int v] μ (QI Q)) (hrTh : ∀ {μ : MM} {Q : Int32 → MM → Prop}, rTh μ Q → MX l φ tc D s0 dC yX12_thing cX12_thing 3 (some .boolean) [.ref 358] μ (QI Q))  (o_p2 : p2 < nJS) (hK63 : ∀ (z3 : Int32) (z4 : Int32) (zμ : MM), K63 (z3, z4, zμ) → WX p l e (rmX dR) s m args below meth c φ tc D (AX φ) 6 0 0 (MQ below (QX φ tc D (QI Q)) args s 0 0 (AX φ)) 63 [(0, .ref 358), (1, .int p1), (2, .ref (500 + p2)), (3, .int z3), (4, .int z4)] [] zμ) (h : G12_ranked_J123 rAh rRa rTh p1 p2 p3 μ K63 Q) : WX p l e (rmX dR) s m args below meth c φ tc D (AX φ) 6 0 0 (MQ below (QX φ tc D (QI Q)) args s 0 0 (AX φ)) 123 [(0, .ref 358), (1, .int p1), (2, .ref (500 + p2)), (3, .int p3)] [] μ := by
  unfold G12_ranked_J123 at h
  refine x_iload_n C rfl 1 rfl dX12_ranked_123 ?_
  refine x_iconst (v := 2) C (by decide) dX12_ranked_124 ?_
  refine x_icmp_eq (tgt := 132) C dX12_ranked_125 (by decide) (fun c41 => ?_) (fun c41 => ?_)
  · have h := h.1 c41
    refine x_iconst (v := 0) C (by decide) dX12_ranked_132 ?_
    refine x_istore C [(4, .int 0), (0, .ref 358), (1, .int p1), (2, .ref (500 + p2)), (3, .int p3)] (Nat.le_of_ble_eq_true rfl) rfl dX12_ranked_133 ?_
    refine x_goto (tgt := 63) C dX12_ranked_135 (by decide) ?_
    refine x_sub [(0, .ref 358), (1, .int p1), (2, .ref (500 + p2)), (3, .int p3), (4, .int 0)] [1, 2, 3, 4, 0] rfl ?_
    exact hK63 _ _ _ h
  · have h := h.2 c41
    refine x_iconst (v := 1) C (by decide) dX12_ranked_128 ?_
    refine x_goto (tgt := 133) C dX12_ranked_129 (by decide) ?_
    refine x_istore C [(4, .int 1), (0, .ref 358), (1, .int p1), (2, .ref (500 + p2)), (3, .int p3)] (Nat.le_of_ble_eq_true rfl) rfl dX12_ranked_133 ?_
    refine x_goto (tgt := 63) C dX12_ranked_135 (by decide) ?_
    refine x_sub [(0, .ref 358), (1, .int p1), (2, .ref (500 + p2)), (3, .int p3), (4, .int 1)] [1, 2, 3, 4, 0] rfl ?_
    exact hK63 _ _ _ h
set_option maxHeartbeats 4000000 in
set_option maxRecDepth 100000 in
theorem G12_ranked_L63_b {p : Program} {e : Env} {s : State} {m : MethodId} {args : Array Value} {below : List Frame} {meth : Method} {c : Code} {l : Launch} {φ : Nat → Nat} {tc : Nat → ClassId} {D : va_G} {s0 : State} {dR : Nat} (C : CX p s m args meth c φ tc D (AX φ) s0 cX12_ranked RX12 6) (hd : G12_ranked_dep ≤ dR) (hr : meth.sig.returnType = (some .boolean)) {rAh : MM → (Int32 → MM → Prop) → Prop} {rRa : Int32 → MM → (Int32 → MM → Prop) → Prop} {rTh : MM → (Int32 → MM → Prop) → Prop} {dC : Nat}  {p1 : Int32} {p2 : Nat} {Q : Int32 → MM → Prop} {K63 : Int32 × Int32 × MM → Prop} {x : Int32 × Int32 × MM} (hdC : dC + 1 ≤ dR) (hrAh : ∀ {μ : MM} {Q : Int32 → MM → Prop}, rAh μ Q → MX l φ tc D s0 dC yX12_ahead cX12_ahead 3 (some .boolean) [.ref 358] μ (QI Q)) (hrRa : ∀ {v : Int32} {μ : MM} {Q : Int32 → MM → Prop}, rRa v μ Q → MX l φ tc D s0 dC yX12_ranked cX12_ranked 6 (some .boolean) [.ref 358, .int v] μ (QI Q)) (hrTh : ∀ {μ : MM} {Q : Int32 → MM → Prop}, rTh μ Q → MX l φ tc D s0 dC yX12_thing cX12_thing 3 (some .boolean) [.ref 358] μ (QI Q))  (o_p2 : p2 < nJS) (hK63 : ∀ (z3 : Int32) (z4 : Int32) (zμ : MM), K63 (z3, z4, zμ) → WX p l e (rmX dR) s m args below meth c φ tc D (AX φ) 6 0 0 (MQ below (QX φ tc D (QI Q)) args s 0 0 (AX φ)) 63 [(0, .ref 358), (1, .int p1), (2, .ref (500 + p2)), (3, .int z3), (4, .int z4)] [] zμ) (h : G12_ranked_L63 rAh rRa rTh p1 p2 Q K63 x) : WX p l e (rmX dR) s m args below meth c φ tc D (AX φ) 6 0 0 (MQ below (QX φ tc D (QI Q)) args s 0 0 (AX φ)) 63 [(0, .ref 358), (1, .int p1), (2, .ref (500 + p2)), (3, .int x.1), (4, .int x.2.1)] [] x.2.2 := by
  unfold G12_ranked_L63 at h
  refine x_iload_n C rfl 3 rfl dX12_ranked_63 ?_
  refine x_if_eq (tgt := 138) C dX12_ranked_64 (by decide) (fun c30 => ?_) (fun c30 => ?_)
  · have h := h.1 c30
    refine x_iload_n C rfl 3 rfl dX12_ranked_138 ?_
    exact x_zret C hr h.1 dX12_ranked_139 ⟨_, rfl, h.2⟩
  · have h := h.2 c30
    refine x_iload C 4 rfl dX12_ranked_67 ?_
    refine x_if_eq (tgt := 138) C dX12_ranked_69 (by decide) (fun c31 => ?_) (fun c31 => ?_)
    · have h := h.1 c31
      refine x_iload_n C rfl 3 rfl dX12_ranked_138 ?_
      exact x_zret C hr h.1 dX12_ranked_139 ⟨_, rfl, h.2⟩
    · have h := h.2 c31
      refine x_aload_n C rfl 0 rfl dX12_ranked_72 ?_
      refine x_aload_n C rfl 2 rfl dX12_ranked_73 ?_
      refine x_callV (dC := G12_among_dep) (as := [.ref (500 + p2)]) (st := []) C rX kX (Nat.le_trans (Nat.le_of_ble_eq_true rfl) hd) (Nat.le_of_ble_eq_true rfl) ob358.1 ob358.2 (Nat.le_of_ble_eq_true rfl) rfl ts_9_4 tw_7_36 tw_7_34 tc_7_37 tw_1_13 hyX12 hnX12_among rfl (Nat.le_of_ble_eq_true rfl) dX12_ranked_74 (G12_among_met C.2.2.2.2.2.2.2.1 (Nat.le_refl _) o_p2 h) (fun r0 μ32 hq => ?_)
      obtain ⟨r33, rfl, h⟩ := hq
      refine x_st [.int r33] rfl ?_
      refine x_if_lt (tgt := 138) C dX12_ranked_77 (by decide) (fun c34 => ?_) (fun c34 => ?_)
      · have h := h.1 c34
        refine x_iload_n C rfl 3 rfl dX12_ranked_138 ?_
        exact x_zret C hr h.1 dX12_ranked_139 ⟨_, rfl, h.2⟩
      · have h := h.2 c34
        refine x_aload_n C rfl 0 rfl dX12_ranked_80 ?_
        refine x_getR (r := 380) C (j := 27) ob358.1 ob358.2 (Nat.le_of_ble_eq_true rfl) (Nat.le_of_ble_eq_true rfl) (fun _ _ _ => rfl) r_358_27 tw_8_233 dX12_ranked_81 ?_
        refine x_aload_n C rfl 0 rfl dX12_ranked_84 ?_
        refine x_getI C (j := 29) ob358.1 ob358.2 (Nat.le_of_ble_eq_true rfl) (Nat.le_of_ble_eq_true rfl) (Or.inl rfl) tw_8_235 dX12_ranked_85 ?_
        obtain ⟨c35, h⟩ := h
        refine x_iald C ob380.1 ob380.2 c35 rfl dX12_ranked_88 ?_
        refine x_topi (fun y36 e_y36 => ?_)
        have h := h y36 e_y36
        refine x_istore C [(5, .int y36), (0, .ref 358), (1, .int p1), (2, .ref (500 + p2)), (3, .int x.1), (4, .int x.2.1)] (Nat.le_of_ble_eq_true rfl) rfl dX12_ranked_89 ?_
        refine x_aload_n C rfl 1 rfl dX12_ranked_91 ?_
        refine x_dup C rfl dX12_ranked_92 ?_
        refine x_getI C (j := 29) ob358.1 ob358.2 (Nat.le_of_ble_eq_true rfl) (Nat.le_of_ble_eq_true rfl) (Or.inl rfl) tw_8_235 dX12_ranked_93 ?_
        refine x_iconst (v := 1) C (by decide) dX12_ranked_96 ?_
        refine x_iadd C dX12_ranked_97 ?_
        refine x_putI C (j := 29) ob358.1 ob358.2 (Nat.le_of_ble_eq_true rfl) (Nat.le_of_ble_eq_true rfl) (Or.inl rfl) rfl rfl rfl tw_8_235 dX12_ranked_98 ?_
        refine x_mu (fun μ37 e_μ37 => ?_)
        have h := h μ37 e_μ37
        refine x_aload_n C rfl 1 rfl dX12_ranked_101 ?_
        refine x_iload_n C rfl 2 rfl dX12_ranked_102 ?_
        refine x_iconst (v := 1) C (by decide) dX12_ranked_103 ?_
        refine x_iadd C dX12_ranked_104 ?_
        refine x_callV (dC := dC) (as := [.int (p1 + 1)]) (st := []) C rX kX hdC (Nat.le_of_ble_eq_true rfl) ob358.1 ob358.2 (Nat.le_of_ble_eq_true rfl) rfl ts_9_2 tw_7_27 tw_7_25 tc_7_28 tw_1_13 hyX12 hnX12_ranked rfl (Nat.le_of_ble_eq_true rfl) dX12_ranked_105 (hrRa h) (fun r0 μ38 hq => ?_)
        obtain ⟨r39, rfl, h⟩ := hq
        refine x_st [.int r39] rfl ?_
        refine x_istore_n C [(3, .int r39), (5, .int y36), (0, .ref 358), (1, .int p1), (2, .ref (500 + p2)), (4, .int x.2.1)] rfl (Nat.le_of_ble_eq_true rfl) rfl dX12_ranked_108 ?_
        refine x_iload_n C rfl 0 rfl dX12_ranked_109 ?_
        refine x_if_eq (tgt := 123) C dX12_ranked_110 (by decide) (fun c40 => ?_) (fun c40 => ?_)
        · have h := h.1 c40
          refine x_sub [(0, .ref 358), (1, .int p1), (2, .ref (500 + p2)), (3, .int r39)] [2, 3, 4, 0] rfl ?_
          exact G12_ranked_J123_ok C hd hr hdC hrAh hrRa hrTh o_p2 hK63 h
        · have h := h.2 c40
          refine x_aload_n C rfl 2 rfl dX12_ranked_113 ?_
          refine x_sipush (v := 2000) C (by decide) dX12_ranked_114 ?_
          refine x_iload C 1 rfl dX12_ranked_117 ?_
          refine x_iadd C dX12_ranked_119 ?_
          refine x_callV (dC := G12_marks_dep) (as := [.int (2000 + y36)]) (st := []) C rX kX (Nat.le_trans (Nat.le_of_ble_eq_true rfl) hd) (Nat.le_of_ble_eq_true rfl) ob358.1 ob358.2 (Nat.le_of_ble_eq_true rfl) rfl ts_9_7 tw_7_71 tw_7_69 tc_7_72 tw_1_13 hyX12 hnX12_marks rfl (Nat.le_of_ble_eq_true rfl) dX12_ranked_120 (G12_marks_met C.2.2.2.2.2.2.2.1 (Nat.le_refl _)  h) (fun r0 μ42 hq => ?_)
          obtain ⟨rfl, h⟩ := hq
          refine x_st [] rfl ?_
          refine x_sub [(0, .ref 358), (1, .int p1), (2, .ref (500 + p2)), (3, .int r39)] [2, 3, 4, 0] rfl ?_
          exact G12_ranked_J123_ok C hd hr hdC hrAh hrRa hrTh o_p2 hK63 h
theorem G12_ranked_L63_ok {p : Program} {e : Env} {s : State} {m : MethodId} {args : Array Value} {below : List Frame} {meth : Method} {c : Code} {l : Launch} {φ : Nat → Nat} {tc : Nat → ClassId} {D : va_G} {s0 : State} {dR : Nat} (C : CX p s m args meth c φ tc D (AX φ) s0 cX12_ranked RX12 6) (hd : G12_ranked_dep ≤ dR) (hr : meth.sig.returnType = (some .boolean)) {rAh : MM → (Int32 → MM → Prop) → Prop} {rRa : Int32 → MM → (Int32 → MM → Prop) → Prop} {rTh : MM → (Int32 → MM → Prop) → Prop} {dC : Nat}  {p1 : Int32} {p2 : Nat} {Q : Int32 → MM → Prop}  {x : Int32 × Int32 × MM} (hdC : dC + 1 ≤ dR) (hrAh : ∀ {μ : MM} {Q : Int32 → MM → Prop}, rAh μ Q → MX l φ tc D s0 dC yX12_ahead cX12_ahead 3 (some .boolean) [.ref 358] μ (QI Q)) (hrRa : ∀ {v : Int32} {μ : MM} {Q : Int32 → MM → Prop}, rRa v μ Q → MX l φ tc D s0 dC yX12_ranked cX12_ranked 6 (some .boolean) [.ref 358, .int v] μ (QI Q)) (hrTh : ∀ {μ : MM} {Q : Int32 → MM → Prop}, rTh μ Q → MX l φ tc D s0 dC yX12_thing cX12_thing 3 (some .boolean) [.ref 358] μ (QI Q))  (o_p2 : p2 < nJS)  (h : Lp (G12_ranked_L63 rAh rRa rTh p1 p2 Q) x) : WX p l e (rmX dR) s m args below meth c φ tc D (AX φ) 6 0 0 (MQ below (QX φ tc D (QI Q)) args s 0 0 (AX φ)) 63 [(0, .ref 358), (1, .int p1), (2, .ref (500 + p2)), (3, .int x.1), (4, .int x.2.1)] [] x.2.2 := by
  obtain ⟨n, h⟩ := h
  induction n generalizing x with
  | zero => exact h.elim
  | succ n ih => exact G12_ranked_L63_b C hd hr hdC hrAh hrRa hrTh o_p2  (fun z3 z4 zμ hz => by have q := ih hz; exact q) h
set_option maxHeartbeats 4000000 in
set_option maxRecDepth 100000 in
theorem G12_ranked_J51_ok {p : Program} {e : Env} {s : State} {m : MethodId} {args : Array Value} {below : List Frame} {meth : Method} {c : Code} {l : Launch} {φ : Nat → Nat} {tc : Nat → ClassId} {D : va_G} {s0 : State} {dR : Nat} (C : CX p s m args meth c φ tc D (AX φ) s0 cX12_ranked RX12 6) (hd : G12_ranked_dep ≤ dR) (hr : meth.sig.returnType = (some .boolean))  {rAh : MM → (Int32 → MM → Prop) → Prop} {rRa : Int32 → MM → (Int32 → MM → Prop) → Prop} {rTh : MM → (Int32 → MM → Prop) → Prop} {dC : Nat}  {p1 : Int32} {q0 : Nat} {Q : Int32 → MM → Prop}  {μ : MM} (hdC : dC + 1 ≤ dR) (hrAh : ∀ {μ : MM} {Q : Int32 → MM → Prop}, rAh μ Q → MX l φ tc D s0 dC yX12_ahead cX12_ahead 3 (some .boolean) [.ref 358] μ (QI Q)) (hrRa : ∀ {v : Int32} {μ : MM} {Q : Int32 → MM → Prop}, rRa v μ Q → MX l φ tc D s0 dC yX12_ranked cX12_ranked 6 (some .boolean) [.ref 358, .int v] μ (QI Q)) (hrTh : ∀ {μ : MM} {Q : Int32 → MM → Prop}, rTh μ Q → MX l φ tc D s0 dC yX12_thing cX12_thing 3 (some .boolean) [.ref 358] μ (QI Q))  (o_q0 : q0 < nJS)  (h : G12_ranked_J51 rAh rRa rTh p1 q0 μ Q) : WX p l e (rmX dR) s m args below meth c φ tc D (AX φ) 6 0 0 (MQ below (QX φ tc D (QI Q)) args s 0 0 (AX φ)) 51 [(0, .ref 358), (1, .int p1)] [.ref (500 + q0)] μ := by
  unfold G12_ranked_J51 at h
  refine x_astore_n C [(2, .ref (500 + q0)), (0, .ref 358), (1, .int p1)] rfl (Nat.le_of_ble_eq_true rfl) rfl dX12_ranked_51 ?_
  refine x_aload_n C rfl 1 rfl dX12_ranked_52 ?_
  refine x_iload_n C rfl 2 rfl dX12_ranked_53 ?_
  refine x_iconst (v := 1) C (by decide) dX12_ranked_54 ?_
  refine x_iadd C dX12_ranked_55 ?_
  refine x_callV (dC := dC) (as := [.int (p1 + 1)]) (st := []) C rX kX hdC (Nat.le_of_ble_eq_true rfl) ob358.1 ob358.2 (Nat.le_of_ble_eq_true rfl) rfl ts_9_2 tw_7_27 tw_7_25 tc_7_28 tw_1_13 hyX12 hnX12_ranked rfl (Nat.le_of_ble_eq_true rfl) dX12_ranked_56 (hrRa h) (fun r0 μ28 hq => ?_)
  obtain ⟨r29, rfl, h⟩ := hq
  refine x_st [.int r29] rfl ?_
  refine x_istore_n C [(3, .int r29), (2, .ref (500 + q0)), (0, .ref 358), (1, .int p1)] rfl (Nat.le_of_ble_eq_true rfl) rfl dX12_ranked_59 ?_
  refine x_iconst (v := 1) C (by decide) dX12_ranked_60 ?_
  refine x_istore C [(4, .int 1), (3, .int r29), (2, .ref (500 + q0)), (0, .ref 358), (1, .int p1)] (Nat.le_of_ble_eq_true rfl) rfl dX12_ranked_61 ?_
  refine x_sub [(0, .ref 358), (1, .int p1), (2, .ref (500 + q0)), (3, .int r29), (4, .int 1)] [3, 4, 2, 1, 0] rfl ?_
  exact G12_ranked_L63_ok C hd hr hdC hrAh hrRa hrTh o_q0 h
set_option maxHeartbeats 4000000 in
set_option maxRecDepth 100000 in
theorem G12_ranked_met {l : Launch} {φ : Nat → Nat} {tc : Nat → ClassId} {D : va_G} {s0 : State} (hG : GX φ tc D s0) {dR : Nat} (hd : G12_ranked_dep ≤ dR) {rAh : MM → (Int32 → MM → Prop) → Prop} {rRa : Int32 → MM → (Int32 → MM → Prop) → Prop} {rTh : MM → (Int32 → MM → Prop) → Prop} {dC : Nat} {v1 : Int32} {μ : MM} {Q : Int32 → MM → Prop} (hdC : dC + 1 ≤ dR) (hrAh : ∀ {μ : MM} {Q : Int32 → MM → Prop}, rAh μ Q → MX l φ tc D s0 dC yX12_ahead cX12_ahead 3 (some .boolean) [.ref 358] μ (QI Q)) (hrRa : ∀ {v : Int32} {μ : MM} {Q : Int32 → MM → Prop}, rRa v μ Q → MX l φ tc D s0 dC yX12_ranked cX12_ranked 6 (some .boolean) [.ref 358, .int v] μ (QI Q)) (hrTh : ∀ {μ : MM} {Q : Int32 → MM → Prop}, rTh μ Q → MX l φ tc D s0 dC yX12_thing cX12_thing 3 (some .boolean) [.ref 358] μ (QI Q))  (h : G12_ranked rAh rRa rTh v1 μ Q) : MX l φ tc D s0 dR yX12_ranked cX12_ranked 6 (some .boolean) [.ref 358, .int v1] μ (QI Q) := by
  refine MX.of (own := RX12) hG plX12 rfl (Nat.le_of_ble_eq_true rfl) (fun p e s m args below meth c C hr => ?_)
  refine x_sub [(0, .ref 358), (1, .int v1)] [0, 1] rfl ?_
  unfold G12_ranked at h
  refine x_iload_n C rfl 1 rfl dX12_ranked_0 ?_
  refine x_iconst (v := 5) C (by decide) dX12_ranked_1 ?_
  refine x_icmp_ne (tgt := 10) C dX12_ranked_2 (by decide) (fun c23 => ?_) (fun c23 => ?_)
  · have h := h.1 c23
    refine x_iload_n C rfl 1 rfl dX12_ranked_10 ?_
    refine x_if_ne (tgt := 19) C dX12_ranked_11 (by decide) (fun c24 => ?_) (fun c24 => ?_)
    · have h := h.1 c24
      refine x_iload_n C rfl 1 rfl dX12_ranked_19 ?_
      refine x_iconst (v := 1) C (by decide) dX12_ranked_20 ?_
      refine x_icmp_ne (tgt := 29) C dX12_ranked_21 (by decide) (fun c25 => ?_) (fun c25 => ?_)
      · have h := h.1 c25
        refine x_iload_n C rfl 1 rfl dX12_ranked_29 ?_
        refine x_iconst (v := 2) C (by decide) dX12_ranked_30 ?_
        refine x_icmp_ne (tgt := 39) C dX12_ranked_31 (by decide) (fun c26 => ?_) (fun c26 => ?_)
        · have h := h.1 c26
          refine x_iload_n C rfl 1 rfl dX12_ranked_39 ?_
          refine x_iconst (v := 3) C (by decide) dX12_ranked_40 ?_
          refine x_icmp_ne (tgt := 49) C dX12_ranked_41 (by decide) (fun c27 => ?_) (fun c27 => ?_)
          · have h := h.1 c27
            refine x_ldcS (i := 13) C (by decide) rfl rfl dX12_ranked_49 ?_
            exact G12_ranked_J51_ok C hd hr hdC hrAh hrRa hrTh (by decide) h
          · have h := h.2 c27
            refine x_ldcS (i := 12) C (by decide) rfl rfl dX12_ranked_44 ?_
            refine x_goto (tgt := 51) C dX12_ranked_46 (by decide) ?_
            exact G12_ranked_J51_ok C hd hr hdC hrAh hrRa hrTh (by decide) h
        · have h := h.2 c26
          refine x_ldcS (i := 11) C (by decide) rfl rfl dX12_ranked_34 ?_
          refine x_goto (tgt := 51) C dX12_ranked_36 (by decide) ?_
          exact G12_ranked_J51_ok C hd hr hdC hrAh hrRa hrTh (by decide) h
      · have h := h.2 c25
        refine x_ldcS (i := 10) C (by decide) rfl rfl dX12_ranked_24 ?_
        refine x_goto (tgt := 51) C dX12_ranked_26 (by decide) ?_
        exact G12_ranked_J51_ok C hd hr hdC hrAh hrRa hrTh (by decide) h
    · have h := h.2 c24
      refine x_ldcS (i := 9) C (by decide) rfl rfl dX12_ranked_14 ?_
      refine x_goto (tgt := 51) C dX12_ranked_16 (by decide) ?_
      exact G12_ranked_J51_ok C hd hr hdC hrAh hrRa hrTh (by decide) h
  · have h := h.2 c23
    refine x_aload_n C rfl 0 rfl dX12_ranked_5 ?_
    refine x_callV (dC := dC) (as := []) (st := []) C rX kX hdC (Nat.le_of_ble_eq_true rfl) ob358.1 ob358.2 (Nat.le_of_ble_eq_true rfl) rfl ts_9_3 tw_7_31 tw_7_29 tc_7_32 tw_1_13 hyX12 hnX12_ahead rfl (Nat.le_of_ble_eq_true rfl) dX12_ranked_6 (hrAh h) (fun r0 μ43 hq => ?_)
    obtain ⟨r44, rfl, h⟩ := hq
    refine x_st [.int r44] rfl ?_
    exact x_zret C hr h.1 dX12_ranked_9 ⟨_, rfl, h.2⟩
theorem G12_tie_met {l : Launch} {φ : Nat → Nat} {tc : Nat → ClassId} {D : va_G} {s0 : State} (hG : GX φ tc D s0) : ∀ (n dR : Nat), 6 + n ≤ dR → (∀ {v : Int32} {μ : MM} {Q : Int32 → MM → Prop}, (G12_tie n).1 v μ Q → MX l φ tc D s0 dR yX12_ranked cX12_ranked 6 (some .boolean) [.ref 358, .int v] μ (QI Q)) ∧ (∀ {μ : MM} {Q : Int32 → MM → Prop}, (G12_tie n).2.1 μ Q → MX l φ tc D s0 dR yX12_ahead cX12_ahead 3 (some .boolean) [.ref 358] μ (QI Q)) ∧ (∀ {μ : MM} {Q : Int32 → MM → Prop}, (G12_tie n).2.2 μ Q → MX l φ tc D s0 dR yX12_thing cX12_thing 3 (some .boolean) [.ref 358] μ (QI Q))
  | 0, _, _ => ⟨fun h => h.elim, fun h => h.elim, fun h => h.elim⟩
  | n + 1, dR, hd => by
    obtain ⟨h1, h2, h3⟩ := G12_tie_met hG n (dR - 1) (by omega)
    have hdC : dR - 1 + 1 ≤ dR := by omega
    have hb : 6 ≤ dR := by omega
    exact ⟨fun h => G12_ranked_met hG (Nat.le_trans (Nat.le_of_ble_eq_true rfl) hb) hdC h2 h1 h3 h, fun h => G12_ahead_met hG (Nat.le_trans (Nat.le_of_ble_eq_true rfl) hb) hdC h2 h1 h3 h, fun h => G12_thing_met hG (Nat.le_trans (Nat.le_of_ble_eq_true rfl) hb) hdC h2 h1 h3 h⟩
theorem G12_rankedT_met {l : Launch} {φ : Nat → Nat} {tc : Nat → ClassId} {D : va_G} {s0 : State} (hG : GX φ tc D s0) {dR : Nat} (hd : G12_rankedT_dep ≤ dR) {v1 : Int32} {μ : MM} {Q : Int32 → MM → Prop} (h : G12_rankedT v1 μ Q) : MX l φ tc D s0 dR yX12_ranked cX12_ranked 6 (some .boolean) [.ref 358, .int v1] μ (QI Q) := (G12_tie_met hG 120 dR hd).1 h
set_option maxHeartbeats 4000000 in
set_option maxRecDepth 100000 in
theorem G12_reads_L131_b {p : Program} {e : Env} {s : State} {m : MethodId} {args : Array Value} {below : List Frame} {meth : Method} {c : Code} {l : Launch} {φ : Nat → Nat} {tc : Nat → ClassId} {D : va_G} {s0 : State} {dR : Nat} (C : CX p s m args meth c φ tc D (AX φ) s0 cX12_reads RX12 7) (hd : G12_reads_dep ≤ dR) (hr : meth.sig.returnType = (some .int))  {p1 : Int32} {Q : Int32 → MM → Prop} {K131 : Int32 × MM → Prop} {x : Int32 × MM}   (hK131 : ∀ (z6 : Int32) (zμ : MM), K131 (z6, zμ) → WX p l e (rmX dR) s m args below meth c φ tc D (AX φ) 7 0 0 (MQ below (QX φ tc D (QI Q)) args s 0 0 (AX φ)) 131 [(0, .ref 358), (1, .int p1), (6, .int z6)] [] zμ) (h : G12_reads_L131 p1 Q K131 x) : WX p l e (rmX dR) s m args below meth c φ tc D (AX φ) 7 0 0 (MQ below (QX φ tc D (QI Q)) args s 0 0 (AX φ)) 131 [(0, .ref 358), (1, .int p1), (6, .int x.1)] [] x.2 := by
  unfold G12_reads_L131 at h
  refine x_iload C 2 rfl dX12_reads_131 ?_
  refine x_bipush (v := 48) C (by decide) dX12_reads_133 ?_
  refine x_icmp_ge (tgt := 167) C dX12_reads_135 (by decide) (fun c32 => ?_) (fun c32 => ?_)
  · have h := h.1 c32
    refine x_iconst (v := 0) C (by decide) dX12_reads_167 ?_
    exact x_iret C hr dX12_reads_168 ⟨_, rfl, h⟩
  · have h := h.2 c32
    refine x_aload_n C rfl 0 rfl dX12_reads_138 ?_
    refine x_getR (r := 377) C (j := 24) ob358.1 ob358.2 (Nat.le_of_ble_eq_true rfl) (Nat.le_of_ble_eq_true rfl) (fun _ _ _ => rfl) r_358_24 tw_8_230 dX12_reads_139 ?_
    refine x_bipush (v := 48) C (by decide) dX12_reads_142 ?_
    refine x_iload_n C rfl 1 rfl dX12_reads_144 ?_
    refine x_imul C dX12_reads_145 ?_
    refine x_iload C 2 rfl dX12_reads_146 ?_
    refine x_iadd C dX12_reads_148 ?_
    refine x_aload_n C rfl 0 rfl dX12_reads_149 ?_
    refine x_getR (r := 377) C (j := 24) ob358.1 ob358.2 (Nat.le_of_ble_eq_true rfl) (Nat.le_of_ble_eq_true rfl) (fun _ _ _ => rfl) r_358_24 tw_8_230 dX12_reads_150 ?_
    refine x_sipush (v := 576) C (by decide) dX12_reads_153 ?_
    refine x_iload C 2 rfl dX12_reads_156 ?_
    refine x_iadd C dX12_reads_158 ?_
    obtain ⟨c33, h⟩ := h
    refine x_iald C ob377.1 ob377.2 c33 rfl dX12_reads_159 ?_
    obtain ⟨c34, h⟩ := h
    refine x_iast C ob377.1 ob377.2 c34 rfl dX12_reads_160 ?_
    refine x_mu (fun μ35 e_μ35 => ?_)
    have h := h μ35 e_μ35
    refine x_iinc (v := (x.1 + 1)) C [(6, .int (x.1 + 1)), (0, .ref 358), (1, .int p1)] 2 rfl (congrArg (fun z => x.1 + z) (by decide : Int32.ofInt (1) = 1)) (Nat.le_of_ble_eq_true rfl) rfl dX12_reads_161 ?_
    refine x_goto (tgt := 131) C dX12_reads_164 (by decide) ?_
    refine x_sub [(0, .ref 358), (1, .int p1), (6, .int (x.1 + 1))] [1, 2, 0] rfl ?_
    exact hK131 _ _ h
theorem G12_reads_L131_ok {p : Program} {e : Env} {s : State} {m : MethodId} {args : Array Value} {below : List Frame} {meth : Method} {c : Code} {l : Launch} {φ : Nat → Nat} {tc : Nat → ClassId} {D : va_G} {s0 : State} {dR : Nat} (C : CX p s m args meth c φ tc D (AX φ) s0 cX12_reads RX12 7) (hd : G12_reads_dep ≤ dR) (hr : meth.sig.returnType = (some .int))  {p1 : Int32} {Q : Int32 → MM → Prop}  {x : Int32 × MM}    (h : Lp (G12_reads_L131 p1 Q) x) : WX p l e (rmX dR) s m args below meth c φ tc D (AX φ) 7 0 0 (MQ below (QX φ tc D (QI Q)) args s 0 0 (AX φ)) 131 [(0, .ref 358), (1, .int p1), (6, .int x.1)] [] x.2 := by
  obtain ⟨n, h⟩ := h
  induction n generalizing x with
  | zero => exact h.elim
  | succ n ih => exact G12_reads_L131_b C hd hr   (fun z6 zμ hz => by have q := ih hz; exact q) h
set_option maxHeartbeats 4000000 in
set_option maxRecDepth 100000 in
theorem G12_reads_J103_ok {p : Program} {e : Env} {s : State} {m : MethodId} {args : Array Value} {below : List Frame} {meth : Method} {c : Code} {l : Launch} {φ : Nat → Nat} {tc : Nat → ClassId} {D : va_G} {s0 : State} {dR : Nat} (C : CX p s m args meth c φ tc D (AX φ) s0 cX12_reads RX12 7) (hd : G12_reads_dep ≤ dR) (hr : meth.sig.returnType = (some .int))   {p1 : Int32} {p5 : Int32} {Q : Int32 → MM → Prop}  {μ : MM}    (h : G12_reads_J103 p1 p5 μ Q) : WX p l e (rmX dR) s m args below meth c φ tc D (AX φ) 7 0 0 (MQ below (QX φ tc D (QI Q)) args s 0 0 (AX φ)) 103 [(0, .ref 358), (1, .int p1), (5, .int p5)] [] μ := by
  unfold G12_reads_J103 at h
  refine x_iload C 2 rfl dX12_reads_103 ?_
  refine x_if_ne (tgt := 115) C dX12_reads_105 (by decide) (fun c29 => ?_) (fun c29 => ?_)
  · have h := h.1 c29
    refine x_aload_n C rfl 0 rfl dX12_reads_115 ?_
    refine x_getR (r := 378) C (j := 25) ob358.1 ob358.2 (Nat.le_of_ble_eq_true rfl) (Nat.le_of_ble_eq_true rfl) (fun _ _ _ => rfl) r_358_25 tw_8_231 dX12_reads_116 ?_
    refine x_iload_n C rfl 1 rfl dX12_reads_119 ?_
    refine x_aload_n C rfl 0 rfl dX12_reads_120 ?_
    refine x_getR (r := 378) C (j := 25) ob358.1 ob358.2 (Nat.le_of_ble_eq_true rfl) (Nat.le_of_ble_eq_true rfl) (fun _ _ _ => rfl) r_358_25 tw_8_231 dX12_reads_121 ?_
    refine x_bipush (v := 12) C (by decide) dX12_reads_124 ?_
    refine x_iald C ob378.1 ob378.2 (by unfold vp_in; decide) (j := 12) (by decide) dX12_reads_126 ?_
    obtain ⟨c30, h⟩ := h
    refine x_iast C ob378.1 ob378.2 c30 rfl dX12_reads_127 ?_
    refine x_mu (fun μ31 e_μ31 => ?_)
    have h := h μ31 e_μ31
    refine x_iconst (v := 0) C (by decide) dX12_reads_128 ?_
    refine x_istore C [(6, .int 0), (0, .ref 358), (1, .int p1), (5, .int p5)] (Nat.le_of_ble_eq_true rfl) rfl dX12_reads_129 ?_
    refine x_sub [(0, .ref 358), (1, .int p1), (6, .int 0)] [1, 2, 0] rfl ?_
    exact G12_reads_L131_ok C hd hr  h
  · have h := h.2 c29
    refine x_iconst (v := (-1)) C (by decide) dX12_reads_108 ?_
    refine x_aload_n C rfl 0 rfl dX12_reads_109 ?_
    refine x_getI C (j := 29) ob358.1 ob358.2 (Nat.le_of_ble_eq_true rfl) (Nat.le_of_ble_eq_true rfl) (Or.inl rfl) tw_8_235 dX12_reads_110 ?_
    refine x_isub C dX12_reads_113 ?_
    exact x_iret C hr dX12_reads_114 ⟨_, rfl, h⟩
set_option maxHeartbeats 4000000 in
set_option maxRecDepth 100000 in
theorem G12_reads_J78_ok {p : Program} {e : Env} {s : State} {m : MethodId} {args : Array Value} {below : List Frame} {meth : Method} {c : Code} {l : Launch} {φ : Nat → Nat} {tc : Nat → ClassId} {D : va_G} {s0 : State} {dR : Nat} (C : CX p s m args meth c φ tc D (AX φ) s0 cX12_reads RX12 7) (hd : G12_reads_dep ≤ dR) (hr : meth.sig.returnType = (some .int))   {p1 : Int32} {p3 : Int32} {q0 : Int32} {Q : Int32 → MM → Prop}  {μ : MM}    (h : G12_reads_J78 p1 p3 q0 μ Q) : WX p l e (rmX dR) s m args below meth c φ tc D (AX φ) 7 0 0 (MQ below (QX φ tc D (QI Q)) args s 0 0 (AX φ)) 78 [(0, .ref 358), (1, .int p1), (3, .int p3)] [.int q0] μ := by
  unfold G12_reads_J78 at h
  refine x_istore C [(5, .int q0), (0, .ref 358), (1, .int p1), (3, .int p3)] (Nat.le_of_ble_eq_true rfl) rfl dX12_reads_78 ?_
  refine x_iload_n C rfl 3 rfl dX12_reads_80 ?_
  refine x_bipush (v := 40) C (by decide) dX12_reads_81 ?_
  refine x_icmp_le (tgt := 103) C dX12_reads_83 (by decide) (fun c28 => ?_) (fun c28 => ?_)
  · have h := h.1 c28
    refine x_sub [(0, .ref 358), (1, .int p1), (5, .int q0)] [1, 2, 0] rfl ?_
    exact G12_reads_J103_ok C hd hr  h
  · have h := h.2 c28
    refine x_iload C 0 rfl dX12_reads_86 ?_
    refine x_if_ne (tgt := 100) C dX12_reads_88 (by decide) (fun c36 => ?_) (fun c36 => ?_)
    · have h := h.1 c36
      refine x_bipush (v := (-41)) C (by decide) dX12_reads_100 ?_
      exact x_iret C hr dX12_reads_102 ⟨_, rfl, h⟩
    · have h := h.2 c36
      refine x_aload_n C rfl 1 rfl dX12_reads_91 ?_
      refine x_getI C (j := 29) ob358.1 ob358.2 (Nat.le_of_ble_eq_true rfl) (Nat.le_of_ble_eq_true rfl) (Or.inl rfl) tw_8_235 dX12_reads_92 ?_
      refine x_bipush (v := 40) C (by decide) dX12_reads_95 ?_
      refine x_icmp_lt (tgt := 103) C dX12_reads_97 (by decide) (fun c37 => ?_) (fun c37 => ?_)
      · have h := h.1 c37
        refine x_sub [(0, .ref 358), (1, .int p1), (5, .int q0)] [1, 2, 0] rfl ?_
        exact G12_reads_J103_ok C hd hr  h
      · have h := h.2 c37
        refine x_bipush (v := (-41)) C (by decide) dX12_reads_100 ?_
        exact x_iret C hr dX12_reads_102 ⟨_, rfl, h⟩
set_option maxHeartbeats 4000000 in
set_option maxRecDepth 100000 in
theorem G12_reads_J77_ok {p : Program} {e : Env} {s : State} {m : MethodId} {args : Array Value} {below : List Frame} {meth : Method} {c : Code} {l : Launch} {φ : Nat → Nat} {tc : Nat → ClassId} {D : va_G} {s0 : State} {dR : Nat} (C : CX p s m args meth c φ tc D (AX φ) s0 cX12_reads RX12 7) (hd : G12_reads_dep ≤ dR) (hr : meth.sig.returnType = (some .int))   {p1 : Int32} {p3 : Int32} {Q : Int32 → MM → Prop}  {μ : MM}    (h : G12_reads_J77 p1 p3 μ Q) : WX p l e (rmX dR) s m args below meth c φ tc D (AX φ) 7 0 0 (MQ below (QX φ tc D (QI Q)) args s 0 0 (AX φ)) 77 [(0, .ref 358), (1, .int p1), (3, .int p3)] [] μ := by
  unfold G12_reads_J77 at h
  refine x_iconst (v := 0) C (by decide) dX12_reads_77 ?_
  exact G12_reads_J78_ok C hd hr  h
set_option maxHeartbeats 4000000 in
set_option maxRecDepth 100000 in
theorem G12_reads_met {l : Launch} {φ : Nat → Nat} {tc : Nat → ClassId} {D : va_G} {s0 : State} (hG : GX φ tc D s0) {dR : Nat} (hd : G12_reads_dep ≤ dR) {v1 : Int32} {v2 : Int32} {μ : MM} {Q : Int32 → MM → Prop}  (h : G12_reads v1 v2 μ Q) : MX l φ tc D s0 dR yX12_reads cX12_reads 7 (some .int) [.ref 358, .int v1, .int v2] μ (QI Q) := by
  refine MX.of (own := RX12) hG plX12 rfl (Nat.le_of_ble_eq_true rfl) (fun p e s m args below meth c C hr => ?_)
  refine x_sub [(0, .ref 358), (1, .int v1), (2, .int v2)] [0, 1, 2] rfl ?_
  unfold G12_reads at h
  refine x_aload_n C rfl 0 rfl dX12_reads_0 ?_
  refine x_getI C (j := 28) ob358.1 ob358.2 (Nat.le_of_ble_eq_true rfl) (Nat.le_of_ble_eq_true rfl) (Or.inl rfl) tw_8_234 dX12_reads_1 ?_
  refine x_topi (fun y16 e_y16 => ?_)
  have h := h y16 e_y16
  refine x_istore_n C [(3, .int y16), (0, .ref 358), (1, .int v1), (2, .int v2)] rfl (Nat.le_of_ble_eq_true rfl) rfl dX12_reads_4 ?_
  refine x_aload_n C rfl 1 rfl dX12_reads_5 ?_
  refine x_iconst (v := 0) C (by decide) dX12_reads_6 ?_
  refine x_putI C (j := 28) ob358.1 ob358.2 (Nat.le_of_ble_eq_true rfl) (Nat.le_of_ble_eq_true rfl) (Or.inl rfl) rfl rfl rfl tw_8_234 dX12_reads_7 ?_
  refine x_mu (fun μ17 e_μ17 => ?_)
  have h := h μ17 e_μ17
  refine x_aload_n C rfl 1 rfl dX12_reads_10 ?_
  refine x_iconst (v := 0) C (by decide) dX12_reads_11 ?_
  refine x_putI C (j := 29) ob358.1 ob358.2 (Nat.le_of_ble_eq_true rfl) (Nat.le_of_ble_eq_true rfl) (Or.inl rfl) rfl rfl rfl tw_8_235 dX12_reads_12 ?_
  refine x_mu (fun μ18 e_μ18 => ?_)
  have h := h μ18 e_μ18
  refine x_aload_n C rfl 1 rfl dX12_reads_15 ?_
  refine x_iconst (v := 0) C (by decide) dX12_reads_16 ?_
  refine x_putI C (j := 31) ob358.1 ob358.2 (Nat.le_of_ble_eq_true rfl) (Nat.le_of_ble_eq_true rfl) (Or.inl rfl) rfl rfl rfl tw_8_237 dX12_reads_17 ?_
  refine x_mu (fun μ19 e_μ19 => ?_)
  have h := h μ19 e_μ19
  refine x_aload_n C rfl 1 rfl dX12_reads_20 ?_
  refine x_iload_n C rfl 0 rfl dX12_reads_21 ?_
  refine x_bipush (v := 40) C (by decide) dX12_reads_22 ?_
  refine x_mmin C rX kX (Nat.le_trans (Nat.le_of_ble_eq_true rfl) hd) tw_7_24 tw_3_80 tw_1_20 (Nat.le_of_ble_eq_true rfl) dX12_reads_24 ?_
  refine x_putI C (j := 30) ob358.1 ob358.2 (Nat.le_of_ble_eq_true rfl) (Nat.le_of_ble_eq_true rfl) (Or.inl rfl) rfl rfl rfl tw_8_236 dX12_reads_27 ?_
  refine x_mu (fun μ20 e_μ20 => ?_)
  have h := h μ20 e_μ20
  refine x_aload_n C rfl 1 rfl dX12_reads_30 ?_
  refine x_iload_n C rfl 3 rfl dX12_reads_31 ?_
  obtain ⟨c21, h⟩ := h
  refine x_putI C (j := 32) ob358.1 ob358.2 (Nat.le_of_ble_eq_true rfl) (Nat.le_of_ble_eq_true rfl) (Or.inr rfl) rfl (bo_nar c21) (bo_fit c21) tw_8_238 dX12_reads_32 ?_
  refine x_mu (fun μ22 e_μ22 => ?_)
  have h := h μ22 e_μ22
  refine x_aload_n C rfl 1 rfl dX12_reads_35 ?_
  refine x_getR (r := 378) C (j := 25) ob358.1 ob358.2 (Nat.le_of_ble_eq_true rfl) (Nat.le_of_ble_eq_true rfl) (fun _ _ _ => rfl) r_358_25 tw_8_231 dX12_reads_36 ?_
  refine x_bipush (v := 12) C (by decide) dX12_reads_39 ?_
  refine x_iconst (v := 0) C (by decide) dX12_reads_41 ?_
  refine x_iast C ob378.1 ob378.2 (by unfold vp_in; decide) (j := 12) (by decide) dX12_reads_42 ?_
  refine x_mu (fun μ23 e_μ23 => ?_)
  have h := h μ23 e_μ23
  refine x_iload_n C rfl 2 rfl dX12_reads_43 ?_
  refine x_if_ge (tgt := 50) C dX12_reads_44 (by decide) (fun c24 => ?_) (fun c24 => ?_)
  · have h := h.1 c24
    refine x_aload_n C rfl 1 rfl dX12_reads_50 ?_
    refine x_iconst (v := 0) C (by decide) dX12_reads_51 ?_
    refine x_callV (dC := G12_rankedT_dep) (as := [.int 0]) (st := []) C rX kX (Nat.le_trans (Nat.le_of_ble_eq_true rfl) hd) (Nat.le_of_ble_eq_true rfl) ob358.1 ob358.2 (Nat.le_of_ble_eq_true rfl) rfl ts_9_2 tw_7_27 tw_7_25 tc_7_28 tw_1_13 hyX12 hnX12_ranked rfl (Nat.le_of_ble_eq_true rfl) dX12_reads_52 (G12_rankedT_met C.2.2.2.2.2.2.2.1 (Nat.le_refl _)  h) (fun r0 μ25 hq => ?_)
    obtain ⟨r26, rfl, h⟩ := hq
    refine x_st [.int r26] rfl ?_
    refine x_istore C [(4, .int r26), (3, .int y16), (0, .ref 358), (1, .int v1), (2, .int v2)] (Nat.le_of_ble_eq_true rfl) rfl dX12_reads_55 ?_
    refine x_iload C 0 rfl dX12_reads_57 ?_
    refine x_if_eq (tgt := 77) C dX12_reads_59 (by decide) (fun c27 => ?_) (fun c27 => ?_)
    · have h := h.1 c27
      refine x_sub [(0, .ref 358), (1, .int v1), (3, .int y16)] [2, 3, 1] rfl ?_
      exact G12_reads_J77_ok C hd hr  h
    · have h := h.2 c27
      refine x_aload_n C rfl 2 rfl dX12_reads_62 ?_
      refine x_getI C (j := 29) ob358.1 ob358.2 (Nat.le_of_ble_eq_true rfl) (Nat.le_of_ble_eq_true rfl) (Or.inl rfl) tw_8_235 dX12_reads_63 ?_
      refine x_aload_n C rfl 2 rfl dX12_reads_66 ?_
      refine x_getI C (j := 30) ob358.1 ob358.2 (Nat.le_of_ble_eq_true rfl) (Nat.le_of_ble_eq_true rfl) (Or.inl rfl) tw_8_236 dX12_reads_67 ?_
      refine x_icmp_ne (tgt := 77) C dX12_reads_70 (by decide) (fun c38 => ?_) (fun c38 => ?_)
      · have h := h.1 c38
        refine x_sub [(0, .ref 358), (1, .int v1), (3, .int y16)] [2, 3, 1] rfl ?_
        exact G12_reads_J77_ok C hd hr  h
      · have h := h.2 c38
        refine x_iconst (v := 1) C (by decide) dX12_reads_73 ?_
        refine x_goto (tgt := 78) C dX12_reads_74 (by decide) ?_
        refine x_sub [(0, .ref 358), (1, .int v1), (3, .int y16)] [2, 3, 1] rfl ?_
        exact G12_reads_J78_ok C hd hr  h
  · have h := h.2 c24
    refine x_bipush (v := (-100)) C (by decide) dX12_reads_47 ?_
    exact x_iret C hr dX12_reads_49 ⟨_, rfl, h⟩
set_option maxHeartbeats 4000000 in
set_option maxRecDepth 100000 in
theorem G12_law_J23_ok {p : Program} {e : Env} {s : State} {m : MethodId} {args : Array Value} {below : List Frame} {meth : Method} {c : Code} {l : Launch} {φ : Nat → Nat} {tc : Nat → ClassId} {D : va_G} {s0 : State} {dR : Nat} (C : CX p s m args meth c φ tc D (AX φ) s0 cX12_law RX12 2) (hd : G12_law_dep ≤ dR) (hr : meth.sig.returnType = (some .int))   {q0 : Int32} {Q : Int32 → MM → Prop}  {μ : MM}    (h : G12_law_J23 q0 μ Q) : WX p l e (rmX dR) s m args below meth c φ tc D (AX φ) 2 0 0 (MQ below (QX φ tc D (QI Q)) args s 0 0 (AX φ)) 23 [] [.int q0, .ref 358] μ := by
  unfold G12_law_J23 at h
  refine x_iconst (v := 1) C (by decide) dX12_law_23 ?_
  refine x_callV (dC := G12_reads_dep) (as := [.int q0, .int 1]) (st := []) C rX kX (Nat.le_trans (Nat.le_of_ble_eq_true rfl) hd) (Nat.le_of_ble_eq_true rfl) ob358.1 ob358.2 (Nat.le_of_ble_eq_true rfl) rfl ts_9_1 tw_7_22 tw_7_20 tc_7_23 tw_1_13 hyX12 hnX12_reads rfl (Nat.le_of_ble_eq_true rfl) dX12_law_24 (G12_reads_met C.2.2.2.2.2.2.2.1 (Nat.le_refl _)  h) (fun r0 μ10 hq => ?_)
  obtain ⟨r11, rfl, h⟩ := hq
  refine x_st [.int r11] rfl ?_
  exact x_iret C hr dX12_law_27 ⟨_, rfl, h⟩
set_option maxHeartbeats 4000000 in
set_option maxRecDepth 100000 in
theorem G12_law_met {l : Launch} {φ : Nat → Nat} {tc : Nat → ClassId} {D : va_G} {s0 : State} (hG : GX φ tc D s0) {dR : Nat} (hd : G12_law_dep ≤ dR) {v1 : Int32} {μ : MM} {Q : Int32 → MM → Prop}  (h : G12_law v1 μ Q) : MX l φ tc D s0 dR yX12_law cX12_law 2 (some .int) [.ref 358, .int v1] μ (QI Q) := by
  refine MX.of (own := RX12) hG plX12 rfl (Nat.le_of_ble_eq_true rfl) (fun p e s m args below meth c C hr => ?_)
  refine x_sub [(0, .ref 358), (1, .int v1)] [0, 1] rfl ?_
  unfold G12_law at h
  refine x_aload_n C rfl 0 rfl dX12_law_0 ?_
  refine x_iconst (v := 0) C (by decide) dX12_law_1 ?_
  refine x_putI C (j := 0) ob358.1 ob358.2 (Nat.le_of_ble_eq_true rfl) (Nat.le_of_ble_eq_true rfl) (Or.inl rfl) rfl rfl rfl tw_8_206 dX12_law_2 ?_
  refine x_mu (fun μ6 e_μ6 => ?_)
  have h := h μ6 e_μ6
  refine x_aload_n C rfl 0 rfl dX12_law_5 ?_
  refine x_iload_n C rfl 1 rfl dX12_law_6 ?_
  refine x_i2l C dX12_law_7 ?_
  refine x_lconst (v := 0) C (by decide) dX12_law_8 ?_
  refine x_ldc2 (v := 5) C tw_6_191 dX12_law_9 ?_
  refine x_callS (dC := G12_in_dep) (as := [.long (v1.toInt64), .long 0, .long 5]) (st := [.ref 358]) C rX kX (Nat.le_trans (Nat.le_of_ble_eq_true rfl) hd) (Nat.le_of_ble_eq_true rfl) tw_6_183 tw_6_182 tc_6_184 tw_1_13 hyX12 hnX12_in rfl (Nat.le_of_ble_eq_true rfl) dX12_law_12 (G12_in_met C.2.2.2.2.2.2.2.1 (Nat.le_refl _)  h) (fun r0 μ7 hq => ?_)
  obtain ⟨r8, rfl, h⟩ := hq
  refine x_st [.int r8, .ref 358] rfl ?_
  refine x_if_eq (tgt := 22) C dX12_law_15 (by decide) (fun c9 => ?_) (fun c9 => ?_)
  · have h := h.1 c9
    refine x_iconst (v := (-1)) C (by decide) dX12_law_22 ?_
    refine x_sub [] [] rfl ?_
    exact G12_law_J23_ok C hd hr  h
  · have h := h.2 c9
    refine x_iload_n C rfl 1 rfl dX12_law_18 ?_
    refine x_goto (tgt := 23) C dX12_law_19 (by decide) ?_
    refine x_sub [] [] rfl ?_
    exact G12_law_J23_ok C hd hr  h
set_option maxHeartbeats 4000000 in
set_option maxRecDepth 100000 in
theorem G12_filter_J26_ok {p : Program} {e : Env} {s : State} {m : MethodId} {args : Array Value} {below : List Frame} {meth : Method} {c : Code} {l : Launch} {φ : Nat → Nat} {tc : Nat → ClassId} {D : va_G} {s0 : State} {dR : Nat} (C : CX p s m args meth c φ tc D (AX φ) s0 cX12_filter RX12 2) (hd : G12_filter_dep ≤ dR) (hr : meth.sig.returnType = (some .int))   {q0 : Int32} {Q : Int32 → MM → Prop}  {μ : MM}    (h : G12_filter_J26 q0 μ Q) : WX p l e (rmX dR) s m args below meth c φ tc D (AX φ) 2 0 0 (MQ below (QX φ tc D (QI Q)) args s 0 0 (AX φ)) 26 [] [.int q0, .ref 358] μ := by
  unfold G12_filter_J26 at h
  refine x_iconst (v := 0) C (by decide) dX12_filter_26 ?_
  refine x_callV (dC := G12_reads_dep) (as := [.int q0, .int 0]) (st := []) C rX kX (Nat.le_trans (Nat.le_of_ble_eq_true rfl) hd) (Nat.le_of_ble_eq_true rfl) ob358.1 ob358.2 (Nat.le_of_ble_eq_true rfl) rfl ts_9_1 tw_7_22 tw_7_20 tc_7_23 tw_1_13 hyX12 hnX12_reads rfl (Nat.le_of_ble_eq_true rfl) dX12_filter_27 (G12_reads_met C.2.2.2.2.2.2.2.1 (Nat.le_refl _)  h) (fun r0 μ10 hq => ?_)
  obtain ⟨r11, rfl, h⟩ := hq
  refine x_st [.int r11] rfl ?_
  exact x_iret C hr dX12_filter_30 ⟨_, rfl, h⟩
set_option maxHeartbeats 4000000 in
set_option maxRecDepth 100000 in
theorem G12_filter_met {l : Launch} {φ : Nat → Nat} {tc : Nat → ClassId} {D : va_G} {s0 : State} (hG : GX φ tc D s0) {dR : Nat} (hd : G12_filter_dep ≤ dR) {v1 : Int32} {μ : MM} {Q : Int32 → MM → Prop}  (h : G12_filter v1 μ Q) : MX l φ tc D s0 dR yX12_filter cX12_filter 2 (some .int) [.ref 358, .int v1] μ (QI Q) := by
  refine MX.of (own := RX12) hG plX12 rfl (Nat.le_of_ble_eq_true rfl) (fun p e s m args below meth c C hr => ?_)
  refine x_sub [(0, .ref 358), (1, .int v1)] [0, 1] rfl ?_
  unfold G12_filter at h
  refine x_aload_n C rfl 0 rfl dX12_filter_0 ?_
  refine x_iconst (v := 0) C (by decide) dX12_filter_1 ?_
  refine x_putI C (j := 0) ob358.1 ob358.2 (Nat.le_of_ble_eq_true rfl) (Nat.le_of_ble_eq_true rfl) (Or.inl rfl) rfl rfl rfl tw_8_206 dX12_filter_2 ?_
  refine x_mu (fun μ6 e_μ6 => ?_)
  have h := h μ6 e_μ6
  refine x_aload_n C rfl 0 rfl dX12_filter_5 ?_
  refine x_iload_n C rfl 1 rfl dX12_filter_6 ?_
  refine x_i2l C dX12_filter_7 ?_
  refine x_lconst (v := 0) C (by decide) dX12_filter_8 ?_
  refine x_ldc2 (v := 5) C tw_6_191 dX12_filter_9 ?_
  refine x_callS (dC := G12_in_dep) (as := [.long (v1.toInt64), .long 0, .long 5]) (st := [.ref 358]) C rX kX (Nat.le_trans (Nat.le_of_ble_eq_true rfl) hd) (Nat.le_of_ble_eq_true rfl) tw_6_183 tw_6_182 tc_6_184 tw_1_13 hyX12 hnX12_in rfl (Nat.le_of_ble_eq_true rfl) dX12_filter_12 (G12_in_met C.2.2.2.2.2.2.2.1 (Nat.le_refl _)  h) (fun r0 μ7 hq => ?_)
  obtain ⟨r8, rfl, h⟩ := hq
  refine x_st [.int r8, .ref 358] rfl ?_
  refine x_if_eq (tgt := 25) C dX12_filter_15 (by decide) (fun c9 => ?_) (fun c9 => ?_)
  · have h := h.1 c9
    refine x_iconst (v := (-1)) C (by decide) dX12_filter_25 ?_
    refine x_sub [] [] rfl ?_
    exact G12_filter_J26_ok C hd hr  h
  · have h := h.2 c9
    refine x_bipush (v := 6) C (by decide) dX12_filter_18 ?_
    refine x_iload_n C rfl 1 rfl dX12_filter_20 ?_
    refine x_iadd C dX12_filter_21 ?_
    refine x_goto (tgt := 26) C dX12_filter_22 (by decide) ?_
    refine x_sub [] [] rfl ?_
    exact G12_filter_J26_ok C hd hr  h
set_option maxHeartbeats 4000000 in
set_option maxRecDepth 100000 in
theorem G12_countsTill_L17_b {p : Program} {e : Env} {s : State} {m : MethodId} {args : Array Value} {below : List Frame} {meth : Method} {c : Code} {l : Launch} {φ : Nat → Nat} {tc : Nat → ClassId} {D : va_G} {s0 : State} {dR : Nat} (C : CX p s m args meth c φ tc D (AX φ) s0 cX12_countsTill RX12 3) (hd : G12_countsTill_dep ≤ dR) (hr : meth.sig.returnType = none)  {p1 : Int32} {Q : MM → Prop} {K17 : Int32 × MM → Prop} {x : Int32 × MM}   (hK17 : ∀ (z2 : Int32) (zμ : MM), K17 (z2, zμ) → WX p l e (rmX dR) s m args below meth c φ tc D (AX φ) 3 0 0 (MQ below (QX φ tc D (QV Q)) args s 0 0 (AX φ)) 17 [(0, .ref 358), (1, .int p1), (2, .int z2)] [] zμ) (h : G12_countsTill_L17 p1 Q K17 x) : WX p l e (rmX dR) s m args below meth c φ tc D (AX φ) 3 0 0 (MQ below (QX φ tc D (QV Q)) args s 0 0 (AX φ)) 17 [(0, .ref 358), (1, .int p1), (2, .int x.1)] [] x.2 := by
  unfold G12_countsTill_L17 at h
  refine x_iload_n C rfl 2 rfl dX12_countsTill_17 ?_
  refine x_aload_n C rfl 0 rfl dX12_countsTill_18 ?_
  refine x_getI C (j := 12) ob358.1 ob358.2 (Nat.le_of_ble_eq_true rfl) (Nat.le_of_ble_eq_true rfl) (Or.inl rfl) tw_8_218 dX12_countsTill_19 ?_
  refine x_icmp_ge (tgt := 95) C dX12_countsTill_22 (by decide) (fun c16 => ?_) (fun c16 => ?_)
  · have h := h.1 c16
    exact x_vret C hr dX12_countsTill_95 ⟨rfl, h⟩
  · have h := h.2 c16
    refine x_aload_n C rfl 0 rfl dX12_countsTill_25 ?_
    refine x_getR (r := 367) C (j := 13) ob358.1 ob358.2 (Nat.le_of_ble_eq_true rfl) (Nat.le_of_ble_eq_true rfl) (fun _ _ _ => rfl) r_358_13 tw_8_219 dX12_countsTill_26 ?_
    refine x_iload_n C rfl 2 rfl dX12_countsTill_29 ?_
    obtain ⟨c17, h⟩ := h
    refine x_iald C ob367.1 ob367.2 c17 rfl dX12_countsTill_30 ?_
    refine x_iload_n C rfl 1 rfl dX12_countsTill_31 ?_
    refine x_icmp_ne (tgt := 89) C dX12_countsTill_32 (by decide) (fun c18 => ?_) (fun c18 => ?_)
    · have h := h.1 c18
      refine x_iinc (v := (x.1 + 1)) C [(2, .int (x.1 + 1)), (0, .ref 358), (1, .int p1)] 2 rfl (congrArg (fun z => x.1 + z) (by decide : Int32.ofInt (1) = 1)) (Nat.le_of_ble_eq_true rfl) rfl dX12_countsTill_89 ?_
      refine x_goto (tgt := 17) C dX12_countsTill_92 (by decide) ?_
      refine x_sub [(0, .ref 358), (1, .int p1), (2, .int (x.1 + 1))] [1, 2, 0] rfl ?_
      exact hK17 _ _ h
    · have h := h.2 c18
      refine x_aload_n C rfl 0 rfl dX12_countsTill_35 ?_
      refine x_getR (r := 373) C (j := 19) ob358.1 ob358.2 (Nat.le_of_ble_eq_true rfl) (Nat.le_of_ble_eq_true rfl) (fun _ _ _ => rfl) r_358_19 tw_8_225 dX12_countsTill_36 ?_
      refine x_iload_n C rfl 2 rfl dX12_countsTill_39 ?_
      obtain ⟨c19, h⟩ := h
      refine x_zald C ob373.1 ob373.2 c19 rfl dX12_countsTill_40 ?_
      refine x_if_eq (tgt := 89) C dX12_countsTill_41 (by decide) (fun c20 => ?_) (fun c20 => ?_)
      · have h := h.1 c20
        refine x_iinc (v := (x.1 + 1)) C [(2, .int (x.1 + 1)), (0, .ref 358), (1, .int p1)] 2 rfl (congrArg (fun z => x.1 + z) (by decide : Int32.ofInt (1) = 1)) (Nat.le_of_ble_eq_true rfl) rfl dX12_countsTill_89 ?_
        refine x_goto (tgt := 17) C dX12_countsTill_92 (by decide) ?_
        refine x_sub [(0, .ref 358), (1, .int p1), (2, .int (x.1 + 1))] [1, 2, 0] rfl ?_
        exact hK17 _ _ h
      · have h := h.2 c20
        refine x_aload_n C rfl 0 rfl dX12_countsTill_44 ?_
        refine x_dup C rfl dX12_countsTill_45 ?_
        refine x_getI C (j := 33) ob358.1 ob358.2 (Nat.le_of_ble_eq_true rfl) (Nat.le_of_ble_eq_true rfl) (Or.inl rfl) tw_8_239 dX12_countsTill_46 ?_
        refine x_aload_n C rfl 0 rfl dX12_countsTill_49 ?_
        refine x_getR (r := 374) C (j := 20) ob358.1 ob358.2 (Nat.le_of_ble_eq_true rfl) (Nat.le_of_ble_eq_true rfl) (fun _ _ _ => rfl) r_358_20 tw_8_226 dX12_countsTill_50 ?_
        refine x_iload_n C rfl 2 rfl dX12_countsTill_53 ?_
        obtain ⟨c21, h⟩ := h
        refine x_zald C ob374.1 ob374.2 c21 rfl dX12_countsTill_54 ?_
        refine x_callS (dC := G12_flag_dep) (as := [.int (gI x.2 374 x.1.toNatClampNeg)]) (st := [.int (gI x.2 358 33), .ref 358]) C rX kX (Nat.le_trans (Nat.le_of_ble_eq_true rfl) hd) (Nat.le_of_ble_eq_true rfl) tw_6_212 tw_6_211 tc_6_213 tw_1_13 hyX12 hnX12_flag rfl (Nat.le_of_ble_eq_true rfl) dX12_countsTill_55 (G12_flag_met C.2.2.2.2.2.2.2.1 (Nat.le_refl _)  h) (fun r0 μ22 hq => ?_)
        obtain ⟨r23, rfl, h⟩ := hq
        refine x_st [.int r23, .int (gI x.2 358 33), .ref 358] rfl ?_
        refine x_iadd C dX12_countsTill_58 ?_
        refine x_putI C (j := 33) ob358.1 ob358.2 (Nat.le_of_ble_eq_true rfl) (Nat.le_of_ble_eq_true rfl) (Or.inl rfl) rfl rfl rfl tw_8_239 dX12_countsTill_59 ?_
        refine x_mu (fun μ24 e_μ24 => ?_)
        have h := h μ24 e_μ24
        refine x_aload_n C rfl 0 rfl dX12_countsTill_62 ?_
        refine x_dup C rfl dX12_countsTill_63 ?_
        refine x_getI C (j := 34) ob358.1 ob358.2 (Nat.le_of_ble_eq_true rfl) (Nat.le_of_ble_eq_true rfl) (Or.inl rfl) tw_9_0 dX12_countsTill_64 ?_
        refine x_iconst (v := 1) C (by decide) dX12_countsTill_67 ?_
        refine x_iadd C dX12_countsTill_68 ?_
        refine x_putI C (j := 34) ob358.1 ob358.2 (Nat.le_of_ble_eq_true rfl) (Nat.le_of_ble_eq_true rfl) (Or.inl rfl) rfl rfl rfl tw_9_0 dX12_countsTill_69 ?_
        refine x_mu (fun μ25 e_μ25 => ?_)
        have h := h μ25 e_μ25
        refine x_aload_n C rfl 0 rfl dX12_countsTill_72 ?_
        refine x_aload_n C rfl 0 rfl dX12_countsTill_73 ?_
        refine x_getI C (j := 35) ob358.1 ob358.2 (Nat.le_of_ble_eq_true rfl) (Nat.le_of_ble_eq_true rfl) (Or.inl rfl) tw_9_1 dX12_countsTill_74 ?_
        refine x_aload_n C rfl 0 rfl dX12_countsTill_77 ?_
        refine x_getR (r := 369) C (j := 15) ob358.1 ob358.2 (Nat.le_of_ble_eq_true rfl) (Nat.le_of_ble_eq_true rfl) (fun _ _ _ => rfl) r_358_15 tw_8_221 dX12_countsTill_78 ?_
        refine x_iload_n C rfl 2 rfl dX12_countsTill_81 ?_
        obtain ⟨c26, h⟩ := h
        refine x_iald C ob369.1 ob369.2 c26 rfl dX12_countsTill_82 ?_
        refine x_mmax C rX kX (Nat.le_trans (Nat.le_of_ble_eq_true rfl) hd) tw_7_98 tw_3_77 tw_1_20 (Nat.le_of_ble_eq_true rfl) dX12_countsTill_83 ?_
        refine x_putI C (j := 35) ob358.1 ob358.2 (Nat.le_of_ble_eq_true rfl) (Nat.le_of_ble_eq_true rfl) (Or.inl rfl) rfl rfl rfl tw_9_1 dX12_countsTill_86 ?_
        refine x_mu (fun μ27 e_μ27 => ?_)
        have h := h μ27 e_μ27
        refine x_iinc (v := (x.1 + 1)) C [(2, .int (x.1 + 1)), (0, .ref 358), (1, .int p1)] 2 rfl (congrArg (fun z => x.1 + z) (by decide : Int32.ofInt (1) = 1)) (Nat.le_of_ble_eq_true rfl) rfl dX12_countsTill_89 ?_
        refine x_goto (tgt := 17) C dX12_countsTill_92 (by decide) ?_
        refine x_sub [(0, .ref 358), (1, .int p1), (2, .int (x.1 + 1))] [1, 2, 0] rfl ?_
        exact hK17 _ _ h
theorem G12_countsTill_L17_ok {p : Program} {e : Env} {s : State} {m : MethodId} {args : Array Value} {below : List Frame} {meth : Method} {c : Code} {l : Launch} {φ : Nat → Nat} {tc : Nat → ClassId} {D : va_G} {s0 : State} {dR : Nat} (C : CX p s m args meth c φ tc D (AX φ) s0 cX12_countsTill RX12 3) (hd : G12_countsTill_dep ≤ dR) (hr : meth.sig.returnType = none)  {p1 : Int32} {Q : MM → Prop}  {x : Int32 × MM}    (h : Lp (G12_countsTill_L17 p1 Q) x) : WX p l e (rmX dR) s m args below meth c φ tc D (AX φ) 3 0 0 (MQ below (QX φ tc D (QV Q)) args s 0 0 (AX φ)) 17 [(0, .ref 358), (1, .int p1), (2, .int x.1)] [] x.2 := by
  obtain ⟨n, h⟩ := h
  induction n generalizing x with
  | zero => exact h.elim
  | succ n ih => exact G12_countsTill_L17_b C hd hr   (fun z2 zμ hz => by have q := ih hz; exact q) h
set_option maxHeartbeats 4000000 in
set_option maxRecDepth 100000 in
theorem G12_countsTill_met {l : Launch} {φ : Nat → Nat} {tc : Nat → ClassId} {D : va_G} {s0 : State} (hG : GX φ tc D s0) {dR : Nat} (hd : G12_countsTill_dep ≤ dR) {v1 : Int32} {μ : MM} {Q : MM → Prop}  (h : G12_countsTill v1 μ Q) : MX l φ tc D s0 dR yX12_countsTill cX12_countsTill 3 none [.ref 358, .int v1] μ (QV Q) := by
  refine MX.of (own := RX12) hG plX12 rfl (Nat.le_of_ble_eq_true rfl) (fun p e s m args below meth c C hr => ?_)
  refine x_sub [(0, .ref 358), (1, .int v1)] [0, 1] rfl ?_
  unfold G12_countsTill at h
  refine x_aload_n C rfl 0 rfl dX12_countsTill_0 ?_
  refine x_iconst (v := 0) C (by decide) dX12_countsTill_1 ?_
  refine x_putI C (j := 33) ob358.1 ob358.2 (Nat.le_of_ble_eq_true rfl) (Nat.le_of_ble_eq_true rfl) (Or.inl rfl) rfl rfl rfl tw_8_239 dX12_countsTill_2 ?_
  refine x_mu (fun μ13 e_μ13 => ?_)
  have h := h μ13 e_μ13
  refine x_aload_n C rfl 0 rfl dX12_countsTill_5 ?_
  refine x_iconst (v := 0) C (by decide) dX12_countsTill_6 ?_
  refine x_putI C (j := 34) ob358.1 ob358.2 (Nat.le_of_ble_eq_true rfl) (Nat.le_of_ble_eq_true rfl) (Or.inl rfl) rfl rfl rfl tw_9_0 dX12_countsTill_7 ?_
  refine x_mu (fun μ14 e_μ14 => ?_)
  have h := h μ14 e_μ14
  refine x_aload_n C rfl 0 rfl dX12_countsTill_10 ?_
  refine x_iconst (v := 0) C (by decide) dX12_countsTill_11 ?_
  refine x_putI C (j := 35) ob358.1 ob358.2 (Nat.le_of_ble_eq_true rfl) (Nat.le_of_ble_eq_true rfl) (Or.inl rfl) rfl rfl rfl tw_9_1 dX12_countsTill_12 ?_
  refine x_mu (fun μ15 e_μ15 => ?_)
  have h := h μ15 e_μ15
  refine x_iconst (v := 0) C (by decide) dX12_countsTill_15 ?_
  refine x_istore_n C [(2, .int 0), (0, .ref 358), (1, .int v1)] rfl (Nat.le_of_ble_eq_true rfl) rfl dX12_countsTill_16 ?_
  refine x_sub [(0, .ref 358), (1, .int v1), (2, .int 0)] [1, 2, 0] rfl ?_
  exact G12_countsTill_L17_ok C hd hr  h
set_option maxHeartbeats 4000000 in
set_option maxRecDepth 100000 in
theorem G12_countsNone_met {l : Launch} {φ : Nat → Nat} {tc : Nat → ClassId} {D : va_G} {s0 : State} (hG : GX φ tc D s0) {dR : Nat} (hd : G12_countsNone_dep ≤ dR)  {μ : MM} {Q : MM → Prop}  (h : G12_countsNone  μ Q) : MX l φ tc D s0 dR yX12_countsNone cX12_countsNone 1 none [.ref 358] μ (QV Q) := by
  refine MX.of (own := RX12) hG plX12 rfl (Nat.le_of_ble_eq_true rfl) (fun p e s m args below meth c C hr => ?_)
  refine x_sub [(0, .ref 358)] [0] rfl ?_
  unfold G12_countsNone at h
  refine x_aload_n C rfl 0 rfl dX12_countsNone_0 ?_
  refine x_iconst (v := 0) C (by decide) dX12_countsNone_1 ?_
  refine x_putI C (j := 33) ob358.1 ob358.2 (Nat.le_of_ble_eq_true rfl) (Nat.le_of_ble_eq_true rfl) (Or.inl rfl) rfl rfl rfl tw_8_239 dX12_countsNone_2 ?_
  refine x_mu (fun μ4 e_μ4 => ?_)
  have h := h μ4 e_μ4
  refine x_aload_n C rfl 0 rfl dX12_countsNone_5 ?_
  refine x_iconst (v := 0) C (by decide) dX12_countsNone_6 ?_
  refine x_putI C (j := 34) ob358.1 ob358.2 (Nat.le_of_ble_eq_true rfl) (Nat.le_of_ble_eq_true rfl) (Or.inl rfl) rfl rfl rfl tw_9_0 dX12_countsNone_7 ?_
  refine x_mu (fun μ5 e_μ5 => ?_)
  have h := h μ5 e_μ5
  refine x_aload_n C rfl 0 rfl dX12_countsNone_10 ?_
  refine x_iconst (v := 0) C (by decide) dX12_countsNone_11 ?_
  refine x_putI C (j := 35) ob358.1 ob358.2 (Nat.le_of_ble_eq_true rfl) (Nat.le_of_ble_eq_true rfl) (Or.inl rfl) rfl rfl rfl tw_9_1 dX12_countsNone_12 ?_
  refine x_mu (fun μ6 e_μ6 => ?_)
  have h := h μ6 e_μ6
  exact x_vret C hr dX12_countsNone_15 ⟨rfl, h⟩
set_option maxHeartbeats 4000000 in
set_option maxRecDepth 100000 in
theorem G12_valueOf_met {l : Launch} {φ : Nat → Nat} {tc : Nat → ClassId} {D : va_G} {s0 : State} (hG : GX φ tc D s0) {dR : Nat} (hd : G12_valueOf_dep ≤ dR) {v1 : Int32} {v2 : Int32} {μ : MM} {Q : Int32 → MM → Prop}  (h : G12_valueOf v1 v2 μ Q) : MX l φ tc D s0 dR yX12_valueOf cX12_valueOf 4 (some .int) [.ref 358, .int v1, .int v2] μ (QI Q) := by
  refine MX.of (own := RX12) hG plX12 rfl (Nat.le_of_ble_eq_true rfl) (fun p e s m args below meth c C hr => ?_)
  refine x_sub [(0, .ref 358), (1, .int v1), (2, .int v2)] [0, 1, 2] rfl ?_
  unfold G12_valueOf at h
  refine x_aload_n C rfl 0 rfl dX12_valueOf_0 ?_
  refine x_getR (r := 368) C (j := 14) ob358.1 ob358.2 (Nat.le_of_ble_eq_true rfl) (Nat.le_of_ble_eq_true rfl) (fun _ _ _ => rfl) r_358_14 tw_8_220 dX12_valueOf_1 ?_
  refine x_iload_n C rfl 2 rfl dX12_valueOf_4 ?_
  obtain ⟨c18, h⟩ := h
  refine x_iald C ob368.1 ob368.2 c18 rfl dX12_valueOf_5 ?_
  refine x_topi (fun y19 e_y19 => ?_)
  have h := h y19 e_y19
  refine x_istore_n C [(3, .int y19), (0, .ref 358), (1, .int v1), (2, .int v2)] rfl (Nat.le_of_ble_eq_true rfl) rfl dX12_valueOf_6 ?_
  refine x_iload_n C rfl 2 rfl dX12_valueOf_7 ?_
  refine x_sipush (v := 1000) C (by decide) dX12_valueOf_8 ?_
  refine x_isub C dX12_valueOf_11 ?_
  refine x_topi (fun y20 e_y20 => ?_)
  have h := h y20 e_y20
  by_cases c21 : y20 = 0
  · have h := h.1 c21
    refine x_tIn (tgt := 80) C dX12_valueOf_12 (by rw [c21]; decide) (by rw [c21]; decide) (by rw [c21]; rfl) (by decide) ?_
    refine x_aload_n C rfl 1 rfl dX12_valueOf_80 ?_
    refine x_getR (r := 369) C (j := 15) ob358.1 ob358.2 (Nat.le_of_ble_eq_true rfl) (Nat.le_of_ble_eq_true rfl) (fun _ _ _ => rfl) r_358_15 tw_8_221 dX12_valueOf_81 ?_
    refine x_iload_n C rfl 3 rfl dX12_valueOf_84 ?_
    obtain ⟨c22, h⟩ := h
    refine x_iald C ob369.1 ob369.2 c22 rfl dX12_valueOf_85 ?_
    exact x_iret C hr dX12_valueOf_86 ⟨_, rfl, h⟩
  have h := h.2
  by_cases c23 : y20 = 1
  · have h := h.1 c23
    refine x_tIn (tgt := 87) C dX12_valueOf_12 (by rw [c23]; decide) (by rw [c23]; decide) (by rw [c23]; rfl) (by decide) ?_
    refine x_aload_n C rfl 1 rfl dX12_valueOf_87 ?_
    refine x_getR (r := 370) C (j := 16) ob358.1 ob358.2 (Nat.le_of_ble_eq_true rfl) (Nat.le_of_ble_eq_true rfl) (fun _ _ _ => rfl) r_358_16 tw_8_222 dX12_valueOf_88 ?_
    refine x_iload_n C rfl 3 rfl dX12_valueOf_91 ?_
    obtain ⟨c24, h⟩ := h
    refine x_iald C ob370.1 ob370.2 c24 rfl dX12_valueOf_92 ?_
    exact x_iret C hr dX12_valueOf_93 ⟨_, rfl, h⟩
  have h := h.2
  by_cases c25 : y20 = 2
  · have h := h.1 c25
    refine x_tIn (tgt := 94) C dX12_valueOf_12 (by rw [c25]; decide) (by rw [c25]; decide) (by rw [c25]; rfl) (by decide) ?_
    refine x_aload_n C rfl 1 rfl dX12_valueOf_94 ?_
    refine x_getR (r := 371) C (j := 17) ob358.1 ob358.2 (Nat.le_of_ble_eq_true rfl) (Nat.le_of_ble_eq_true rfl) (fun _ _ _ => rfl) r_358_17 tw_8_223 dX12_valueOf_95 ?_
    refine x_iload_n C rfl 3 rfl dX12_valueOf_98 ?_
    obtain ⟨c26, h⟩ := h
    refine x_iald C ob371.1 ob371.2 c26 rfl dX12_valueOf_99 ?_
    exact x_iret C hr dX12_valueOf_100 ⟨_, rfl, h⟩
  have h := h.2
  by_cases c27 : y20 = 3
  · have h := h.1 c27
    refine x_tIn (tgt := 101) C dX12_valueOf_12 (by rw [c27]; decide) (by rw [c27]; decide) (by rw [c27]; rfl) (by decide) ?_
    refine x_aload_n C rfl 1 rfl dX12_valueOf_101 ?_
    refine x_getR (r := 372) C (j := 18) ob358.1 ob358.2 (Nat.le_of_ble_eq_true rfl) (Nat.le_of_ble_eq_true rfl) (fun _ _ _ => rfl) r_358_18 tw_8_224 dX12_valueOf_102 ?_
    refine x_iload_n C rfl 3 rfl dX12_valueOf_105 ?_
    obtain ⟨c28, h⟩ := h
    refine x_iald C ob372.1 ob372.2 c28 rfl dX12_valueOf_106 ?_
    exact x_iret C hr dX12_valueOf_107 ⟨_, rfl, h⟩
  have h := h.2
  by_cases c29 : y20 = 4
  · have h := h.1 c29
    refine x_tIn (tgt := 108) C dX12_valueOf_12 (by rw [c29]; decide) (by rw [c29]; decide) (by rw [c29]; rfl) (by decide) ?_
    refine x_aload_n C rfl 1 rfl dX12_valueOf_108 ?_
    refine x_getR (r := 360) C (j := 4) ob358.1 ob358.2 (Nat.le_of_ble_eq_true rfl) (Nat.le_of_ble_eq_true rfl) (fun _ _ _ => rfl) r_358_4 tw_8_210 dX12_valueOf_109 ?_
    refine x_iload_n C rfl 0 rfl dX12_valueOf_112 ?_
    obtain ⟨c30, h⟩ := h
    refine x_iald C ob360.1 ob360.2 c30 rfl dX12_valueOf_113 ?_
    exact x_iret C hr dX12_valueOf_114 ⟨_, rfl, h⟩
  have h := h.2
  by_cases c31 : y20 = 5
  · have h := h.1 c31
    refine x_tIn (tgt := 115) C dX12_valueOf_12 (by rw [c31]; decide) (by rw [c31]; decide) (by rw [c31]; rfl) (by decide) ?_
    refine x_aload_n C rfl 1 rfl dX12_valueOf_115 ?_
    refine x_getR (r := 361) C (j := 5) ob358.1 ob358.2 (Nat.le_of_ble_eq_true rfl) (Nat.le_of_ble_eq_true rfl) (fun _ _ _ => rfl) r_358_5 tw_8_211 dX12_valueOf_116 ?_
    refine x_iload_n C rfl 0 rfl dX12_valueOf_119 ?_
    obtain ⟨c32, h⟩ := h
    refine x_iald C ob361.1 ob361.2 c32 rfl dX12_valueOf_120 ?_
    exact x_iret C hr dX12_valueOf_121 ⟨_, rfl, h⟩
  have h := h.2
  by_cases c33 : y20 = 6
  · have h := h.1 c33
    refine x_tIn (tgt := 122) C dX12_valueOf_12 (by rw [c33]; decide) (by rw [c33]; decide) (by rw [c33]; rfl) (by decide) ?_
    refine x_aload_n C rfl 1 rfl dX12_valueOf_122 ?_
    refine x_getR (r := 362) C (j := 6) ob358.1 ob358.2 (Nat.le_of_ble_eq_true rfl) (Nat.le_of_ble_eq_true rfl) (fun _ _ _ => rfl) r_358_6 tw_8_212 dX12_valueOf_123 ?_
    refine x_iload_n C rfl 0 rfl dX12_valueOf_126 ?_
    obtain ⟨c34, h⟩ := h
    refine x_iald C ob362.1 ob362.2 c34 rfl dX12_valueOf_127 ?_
    exact x_iret C hr dX12_valueOf_128 ⟨_, rfl, h⟩
  have h := h.2
  by_cases c35 : y20 = 7
  · have h := h.1 c35
    refine x_tIn (tgt := 129) C dX12_valueOf_12 (by rw [c35]; decide) (by rw [c35]; decide) (by rw [c35]; rfl) (by decide) ?_
    refine x_aload_n C rfl 1 rfl dX12_valueOf_129 ?_
    refine x_getR (r := 363) C (j := 7) ob358.1 ob358.2 (Nat.le_of_ble_eq_true rfl) (Nat.le_of_ble_eq_true rfl) (fun _ _ _ => rfl) r_358_7 tw_8_213 dX12_valueOf_130 ?_
    refine x_iload_n C rfl 0 rfl dX12_valueOf_133 ?_
    obtain ⟨c36, h⟩ := h
    refine x_iald C ob363.1 ob363.2 c36 rfl dX12_valueOf_134 ?_
    exact x_iret C hr dX12_valueOf_135 ⟨_, rfl, h⟩
  have h := h.2
  by_cases c37 : y20 = 8
  · have h := h.1 c37
    refine x_tIn (tgt := 136) C dX12_valueOf_12 (by rw [c37]; decide) (by rw [c37]; decide) (by rw [c37]; rfl) (by decide) ?_
    refine x_aload_n C rfl 1 rfl dX12_valueOf_136 ?_
    refine x_getR (r := 364) C (j := 9) ob358.1 ob358.2 (Nat.le_of_ble_eq_true rfl) (Nat.le_of_ble_eq_true rfl) (fun _ _ _ => rfl) r_358_9 tw_8_215 dX12_valueOf_137 ?_
    refine x_aload_n C rfl 1 rfl dX12_valueOf_140 ?_
    refine x_getR (r := 367) C (j := 13) ob358.1 ob358.2 (Nat.le_of_ble_eq_true rfl) (Nat.le_of_ble_eq_true rfl) (fun _ _ _ => rfl) r_358_13 tw_8_219 dX12_valueOf_141 ?_
    refine x_iload_n C rfl 3 rfl dX12_valueOf_144 ?_
    obtain ⟨c38, h⟩ := h
    refine x_iald C ob367.1 ob367.2 c38 rfl dX12_valueOf_145 ?_
    obtain ⟨c39, h⟩ := h
    refine x_iald C ob364.1 ob364.2 c39 rfl dX12_valueOf_146 ?_
    exact x_iret C hr dX12_valueOf_147 ⟨_, rfl, h⟩
  have h := h.2
  by_cases c40 : y20 = 9
  · have h := h.1 c40
    refine x_tIn (tgt := 148) C dX12_valueOf_12 (by rw [c40]; decide) (by rw [c40]; decide) (by rw [c40]; rfl) (by decide) ?_
    refine x_aload_n C rfl 1 rfl dX12_valueOf_148 ?_
    refine x_getR (r := 365) C (j := 10) ob358.1 ob358.2 (Nat.le_of_ble_eq_true rfl) (Nat.le_of_ble_eq_true rfl) (fun _ _ _ => rfl) r_358_10 tw_8_216 dX12_valueOf_149 ?_
    refine x_aload_n C rfl 1 rfl dX12_valueOf_152 ?_
    refine x_getR (r := 367) C (j := 13) ob358.1 ob358.2 (Nat.le_of_ble_eq_true rfl) (Nat.le_of_ble_eq_true rfl) (fun _ _ _ => rfl) r_358_13 tw_8_219 dX12_valueOf_153 ?_
    refine x_iload_n C rfl 3 rfl dX12_valueOf_156 ?_
    obtain ⟨c41, h⟩ := h
    refine x_iald C ob367.1 ob367.2 c41 rfl dX12_valueOf_157 ?_
    obtain ⟨c42, h⟩ := h
    refine x_iald C ob365.1 ob365.2 c42 rfl dX12_valueOf_158 ?_
    exact x_iret C hr dX12_valueOf_159 ⟨_, rfl, h⟩
  have h := h.2
  by_cases c43 : y20 = 10
  · have h := h.1 c43
    refine x_tIn (tgt := 160) C dX12_valueOf_12 (by rw [c43]; decide) (by rw [c43]; decide) (by rw [c43]; rfl) (by decide) ?_
    refine x_aload_n C rfl 1 rfl dX12_valueOf_160 ?_
    refine x_getI C (j := 33) ob358.1 ob358.2 (Nat.le_of_ble_eq_true rfl) (Nat.le_of_ble_eq_true rfl) (Or.inl rfl) tw_8_239 dX12_valueOf_161 ?_
    exact x_iret C hr dX12_valueOf_164 ⟨_, rfl, h⟩
  have h := h.2
  by_cases c44 : y20 = 11
  · have h := h.1 c44
    refine x_tIn (tgt := 165) C dX12_valueOf_12 (by rw [c44]; decide) (by rw [c44]; decide) (by rw [c44]; rfl) (by decide) ?_
    refine x_aload_n C rfl 1 rfl dX12_valueOf_165 ?_
    refine x_getI C (j := 34) ob358.1 ob358.2 (Nat.le_of_ble_eq_true rfl) (Nat.le_of_ble_eq_true rfl) (Or.inl rfl) tw_9_0 dX12_valueOf_166 ?_
    exact x_iret C hr dX12_valueOf_169 ⟨_, rfl, h⟩
  have h := h.2
  by_cases c45 : y20 = 12
  · have h := h.1 c45
    refine x_tIn (tgt := 170) C dX12_valueOf_12 (by rw [c45]; decide) (by rw [c45]; decide) (by rw [c45]; rfl) (by decide) ?_
    refine x_aload_n C rfl 1 rfl dX12_valueOf_170 ?_
    refine x_getI C (j := 35) ob358.1 ob358.2 (Nat.le_of_ble_eq_true rfl) (Nat.le_of_ble_eq_true rfl) (Or.inl rfl) tw_9_1 dX12_valueOf_171 ?_
    exact x_iret C hr dX12_valueOf_174 ⟨_, rfl, h⟩
  have h := h.2
  have h := h c21 c23 c25 c27 c29 c31 c33 c35 c37 c40 c43 c44 c45
  have n_c21 := lv_neT (a := 0) c21 (by decide)
  have n_c23 := lv_neT (a := 1) c23 (by decide)
  have n_c25 := lv_neT (a := 2) c25 (by decide)
  have n_c27 := lv_neT (a := 3) c27 (by decide)
  have n_c29 := lv_neT (a := 4) c29 (by decide)
  have n_c31 := lv_neT (a := 5) c31 (by decide)
  have n_c33 := lv_neT (a := 6) c33 (by decide)
  have n_c35 := lv_neT (a := 7) c35 (by decide)
  have n_c37 := lv_neT (a := 8) c37 (by decide)
  have n_c40 := lv_neT (a := 9) c40 (by decide)
  have n_c43 := lv_neT (a := 10) c43 (by decide)
  have n_c44 := lv_neT (a := 11) c44 (by decide)
  have n_c45 := lv_neT (a := 12) c45 (by decide)
  refine x_tOut (tgt := 175) C dX12_valueOf_12 (by omega) (by decide) ?_
  refine x_aload_n C rfl 1 rfl dX12_valueOf_175 ?_
  refine x_getR (r := 374) C (j := 20) ob358.1 ob358.2 (Nat.le_of_ble_eq_true rfl) (Nat.le_of_ble_eq_true rfl) (fun _ _ _ => rfl) r_358_20 tw_8_226 dX12_valueOf_176 ?_
  refine x_iload_n C rfl 3 rfl dX12_valueOf_179 ?_
  obtain ⟨c46, h⟩ := h
  refine x_zald C ob374.1 ob374.2 c46 rfl dX12_valueOf_180 ?_
  refine x_callS (dC := G12_flag_dep) (as := [.int (gI μ 374 v2.toNatClampNeg)]) (st := []) C rX kX (Nat.le_trans (Nat.le_of_ble_eq_true rfl) hd) (Nat.le_of_ble_eq_true rfl) tw_6_212 tw_6_211 tc_6_213 tw_1_13 hyX12 hnX12_flag rfl (Nat.le_of_ble_eq_true rfl) dX12_valueOf_181 (G12_flag_met C.2.2.2.2.2.2.2.1 (Nat.le_refl _)  h) (fun r0 μ47 hq => ?_)
  obtain ⟨r48, rfl, h⟩ := hq
  refine x_st [.int r48] rfl ?_
  exact x_iret C hr dX12_valueOf_184 ⟨_, rfl, h⟩
