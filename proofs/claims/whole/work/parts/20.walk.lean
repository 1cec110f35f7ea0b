set_option maxHeartbeats 4000000 in
set_option maxRecDepth 100000 in
theorem G11_within_J14_ok {p : Program} {e : Env} {s : State} {m : MethodId} {args : Array Value} {below : List Frame} {meth : Method} {c : Code} {l : Launch} {φ : Nat → Nat} {tc : Nat → ClassId} {D : va_G} {s0 : State} {dR : Nat} (C : CX p s m args meth c φ tc D (AX φ) s0 cX11_within RX11 3) (hd : G11_within_dep ≤ dR) (hr : meth.sig.returnType = (some .boolean))    {Q : Int32 → MM → Prop}  {μ : MM}    (h : G11_within_J14 μ Q) : WX p l e (rmX dR) s m args below meth c φ tc D (AX φ) 3 0 0 (MQ below (QX φ tc D (QI Q)) args s 0 0 (AX φ)) 14 [] [] μ := by
  unfold G11_within_J14 at h
  refine x_iconst (v := 0) C (by decide) dX11_within_14 ?_
  exact x_zret C hr bo_0 dX11_within_15 ⟨_, rfl, h⟩
set_option maxHeartbeats 4000000 in
set_option maxRecDepth 100000 in
theorem G11_within_met {l : Launch} {φ : Nat → Nat} {tc : Nat → ClassId} {D : va_G} {s0 : State} (hG : GX φ tc D s0) {dR : Nat} (hd : G11_within_dep ≤ dR) {v0 : Int32} {v1 : Int32} {v2 : Int32} {μ : MM} {Q : Int32 → MM → Prop}  (h : G11_within v0 v1 v2 μ Q) : MX l φ tc D s0 dR yX11_within cX11_within 3 (some .boolean) [.int v0, .int v1, .int v2] μ (QI Q) := by
  refine MX.of (own := RX11) hG plX11 rfl (Nat.le_of_ble_eq_true rfl) (fun p e s m args below meth c C hr => ?_)
  refine x_sub [(0, .int v0), (1, .int v1), (2, .int v2)] [0, 1, 2] rfl ?_
  unfold G11_within at h
  refine x_iload_n C rfl 0 rfl dX11_within_0 ?_
  refine x_iload_n C rfl 1 rfl dX11_within_1 ?_
  refine x_icmp_lt (tgt := 14) C dX11_within_2 (by decide) (fun c1 => ?_) (fun c1 => ?_)
  · have h := h.1 c1
    refine x_sub [] [] rfl ?_
    exact G11_within_J14_ok C hd hr  h
  · have h := h.2 c1
    refine x_iload_n C rfl 0 rfl dX11_within_5 ?_
    refine x_iload_n C rfl 2 rfl dX11_within_6 ?_
    refine x_icmp_gt (tgt := 14) C dX11_within_7 (by decide) (fun c2 => ?_) (fun c2 => ?_)
    · have h := h.1 c2
      refine x_sub [] [] rfl ?_
      exact G11_within_J14_ok C hd hr  h
    · have h := h.2 c2
      refine x_iconst (v := 1) C (by decide) dX11_within_10 ?_
      refine x_goto (tgt := 15) C dX11_within_11 (by decide) ?_
      exact x_zret C hr bo_1 dX11_within_15 ⟨_, rfl, h⟩
set_option maxHeartbeats 4000000 in
set_option maxRecDepth 100000 in
theorem G10_addName_met {l : Launch} {φ : Nat → Nat} {tc : Nat → ClassId} {D : va_G} {s0 : State} (hG : GX φ tc D s0) {dR : Nat} (hd : G10_addName_dep ≤ dR) {v1 : Int32} {v2 : Int32} {v3 : Int32} {μ : MM} {Q : Int32 → MM → Prop}  (h : G10_addName v1 v2 v3 μ Q) : MX l φ tc D s0 dR yX10_addName cX10_addName 4 (some .int) [.ref 1, .int v1, .int v2, .int v3] μ (QI Q) := by
  refine MX.of (own := RX10) hG plX10 rfl (Nat.le_of_ble_eq_true rfl) (fun p e s m args below meth c C hr => ?_)
  refine x_sub [(0, .ref 1), (1, .int v1), (2, .int v2), (3, .int v3)] [0, 1, 2, 3] rfl ?_
  unfold G10_addName at h
  refine x_aload_n C rfl 0 rfl dX10_addName_0 ?_
  refine x_getR (r := 2) C (j := 0) ob1.1 ob1.2 (Nat.le_of_ble_eq_true rfl) (Nat.le_of_ble_eq_true rfl) (fun _ _ _ => rfl) r_1_0 tw_1_122 dX10_addName_1 ?_
  refine x_aload_n C rfl 0 rfl dX10_addName_4 ?_
  refine x_getI C (j := 4) ob1.1 ob1.2 (Nat.le_of_ble_eq_true rfl) (Nat.le_of_ble_eq_true rfl) (Or.inl rfl) tw_1_130 dX10_addName_5 ?_
  refine x_iload_n C rfl 1 rfl dX10_addName_8 ?_
  obtain ⟨c10, h⟩ := h
  refine x_iast C ob2.1 ob2.2 c10 rfl dX10_addName_9 ?_
  refine x_mu (fun μ11 e_μ11 => ?_)
  have h := h μ11 e_μ11
  refine x_aload_n C rfl 0 rfl dX10_addName_10 ?_
  refine x_getR (r := 3) C (j := 1) ob1.1 ob1.2 (Nat.le_of_ble_eq_true rfl) (Nat.le_of_ble_eq_true rfl) (fun _ _ _ => rfl) r_1_1 tw_1_124 dX10_addName_11 ?_
  refine x_aload_n C rfl 0 rfl dX10_addName_14 ?_
  refine x_getI C (j := 4) ob1.1 ob1.2 (Nat.le_of_ble_eq_true rfl) (Nat.le_of_ble_eq_true rfl) (Or.inl rfl) tw_1_130 dX10_addName_15 ?_
  refine x_iload_n C rfl 2 rfl dX10_addName_18 ?_
  obtain ⟨c12, h⟩ := h
  refine x_iast C ob3.1 ob3.2 c12 rfl dX10_addName_19 ?_
  refine x_mu (fun μ13 e_μ13 => ?_)
  have h := h μ13 e_μ13
  refine x_aload_n C rfl 0 rfl dX10_addName_20 ?_
  refine x_getR (r := 4) C (j := 2) ob1.1 ob1.2 (Nat.le_of_ble_eq_true rfl) (Nat.le_of_ble_eq_true rfl) (fun _ _ _ => rfl) r_1_2 tw_1_126 dX10_addName_21 ?_
  refine x_aload_n C rfl 0 rfl dX10_addName_24 ?_
  refine x_getI C (j := 4) ob1.1 ob1.2 (Nat.le_of_ble_eq_true rfl) (Nat.le_of_ble_eq_true rfl) (Or.inl rfl) tw_1_130 dX10_addName_25 ?_
  refine x_iload_n C rfl 3 rfl dX10_addName_28 ?_
  refine x_bipush (v := 101) C (by decide) dX10_addName_29 ?_
  refine x_idiv C (by decide) dX10_addName_31 ?_
  obtain ⟨c14, h⟩ := h
  refine x_iast C ob4.1 ob4.2 c14 rfl dX10_addName_32 ?_
  refine x_mu (fun μ15 e_μ15 => ?_)
  have h := h μ15 e_μ15
  refine x_aload_n C rfl 0 rfl dX10_addName_33 ?_
  refine x_getR (r := 5) C (j := 3) ob1.1 ob1.2 (Nat.le_of_ble_eq_true rfl) (Nat.le_of_ble_eq_true rfl) (fun _ _ _ => rfl) r_1_3 tw_1_128 dX10_addName_34 ?_
  refine x_aload_n C rfl 0 rfl dX10_addName_37 ?_
  refine x_getI C (j := 4) ob1.1 ob1.2 (Nat.le_of_ble_eq_true rfl) (Nat.le_of_ble_eq_true rfl) (Or.inl rfl) tw_1_130 dX10_addName_38 ?_
  refine x_iload_n C rfl 3 rfl dX10_addName_41 ?_
  refine x_bipush (v := 101) C (by decide) dX10_addName_42 ?_
  refine x_irem C (by decide) dX10_addName_44 ?_
  obtain ⟨c16, h⟩ := h
  refine x_iast C ob5.1 ob5.2 c16 rfl dX10_addName_45 ?_
  refine x_mu (fun μ17 e_μ17 => ?_)
  have h := h μ17 e_μ17
  refine x_aload_n C rfl 0 rfl dX10_addName_46 ?_
  refine x_dup C rfl dX10_addName_47 ?_
  refine x_getI C (j := 4) ob1.1 ob1.2 (Nat.le_of_ble_eq_true rfl) (Nat.le_of_ble_eq_true rfl) (Or.inl rfl) tw_1_130 dX10_addName_48 ?_
  refine x_iconst (v := 1) C (by decide) dX10_addName_51 ?_
  refine x_iadd C dX10_addName_52 ?_
  refine x_putI C (j := 4) ob1.1 ob1.2 (Nat.le_of_ble_eq_true rfl) (Nat.le_of_ble_eq_true rfl) (Or.inl rfl) rfl rfl rfl tw_1_130 dX10_addName_53 ?_
  refine x_mu (fun μ18 e_μ18 => ?_)
  have h := h μ18 e_μ18
  refine x_aload_n C rfl 0 rfl dX10_addName_56 ?_
  refine x_getI C (j := 4) ob1.1 ob1.2 (Nat.le_of_ble_eq_true rfl) (Nat.le_of_ble_eq_true rfl) (Or.inl rfl) tw_1_130 dX10_addName_57 ?_
  refine x_iconst (v := 1) C (by decide) dX10_addName_60 ?_
  refine x_isub C dX10_addName_61 ?_
  exact x_iret C hr dX10_addName_62 ⟨_, rfl, h⟩
set_option maxHeartbeats 4000000 in
set_option maxRecDepth 100000 in
theorem G11_name_J66_ok {p : Program} {e : Env} {s : State} {m : MethodId} {args : Array Value} {below : List Frame} {meth : Method} {c : Code} {l : Launch} {φ : Nat → Nat} {tc : Nat → ClassId} {D : va_G} {s0 : State} {dR : Nat} (C : CX p s m args meth c φ tc D (AX φ) s0 cX11_name RX11 5) (hd : G11_name_dep ≤ dR) (hr : meth.sig.returnType = (some .int))    {Q : Int32 → MM → Prop}  {μ : MM}    (h : G11_name_J66 μ Q) : WX p l e (rmX dR) s m args below meth c φ tc D (AX φ) 5 0 0 (MQ below (QX φ tc D (QI Q)) args s 0 0 (AX φ)) 66 [] [] μ := by
  unfold G11_name_J66 at h
  refine x_iconst (v := (-1)) C (by decide) dX11_name_66 ?_
  exact x_iret C hr dX11_name_67 ⟨_, rfl, h⟩
set_option maxHeartbeats 4000000 in
set_option maxRecDepth 100000 in
theorem G11_name_J34_ok {p : Program} {e : Env} {s : State} {m : MethodId} {args : Array Value} {below : List Frame} {meth : Method} {c : Code} {l : Launch} {φ : Nat → Nat} {tc : Nat → ClassId} {D : va_G} {s0 : State} {dR : Nat} (C : CX p s m args meth c φ tc D (AX φ) s0 cX11_name RX11 5) (hd : G11_name_dep ≤ dR) (hr : meth.sig.returnType = (some .int))   {p1 : Int32} {p2 : Int32} {p3 : Int32} {q0 : Int32} {Q : Int32 → MM → Prop}  {μ : MM}    (h : G11_name_J34 p1 p2 p3 q0 μ Q) : WX p l e (rmX dR) s m args below meth c φ tc D (AX φ) 5 0 0 (MQ below (QX φ tc D (QI Q)) args s 0 0 (AX φ)) 34 [(0, .ref 0), (1, .int p1), (2, .int p2), (3, .int p3)] [.int q0] μ := by
  unfold G11_name_J34 at h
  refine x_istore C [(4, .int q0), (0, .ref 0), (1, .int p1), (2, .int p2), (3, .int p3)] (Nat.le_of_ble_eq_true rfl) rfl dX11_name_34 ?_
  refine x_iload C 0 rfl dX11_name_36 ?_
  refine x_if_eq (tgt := 66) C dX11_name_38 (by decide) (fun c12 => ?_) (fun c12 => ?_)
  · have h := h.1 c12
    refine x_sub [] [] rfl ?_
    exact G11_name_J66_ok C hd hr  h
  · have h := h.2 c12
    refine x_aload_n C rfl 1 rfl dX11_name_41 ?_
    refine x_getR (r := 1) C (j := 0) ob0.1 ob0.2 (Nat.le_of_ble_eq_true rfl) (Nat.le_of_ble_eq_true rfl) (fun _ _ _ => rfl) r_0_0 tw_2_163 dX11_name_42 ?_
    refine x_getIN C (j := 4) ob1.1 ob1.2 (Nat.le_of_ble_eq_true rfl) (Nat.le_of_ble_eq_true rfl) (Or.inl rfl) tw_1_131 dX11_name_45 ?_
    refine x_bipush (v := 12) C (by decide) dX11_name_48 ?_
    refine x_icmp_ge (tgt := 66) C dX11_name_50 (by decide) (fun c13 => ?_) (fun c13 => ?_)
    · have h := h.1 c13
      refine x_sub [] [] rfl ?_
      exact G11_name_J66_ok C hd hr  h
    · have h := h.2 c13
      refine x_aload_n C rfl 1 rfl dX11_name_53 ?_
      refine x_getR (r := 1) C (j := 0) ob0.1 ob0.2 (Nat.le_of_ble_eq_true rfl) (Nat.le_of_ble_eq_true rfl) (fun _ _ _ => rfl) r_0_0 tw_2_163 dX11_name_54 ?_
      refine x_iload_n C rfl 2 rfl dX11_name_57 ?_
      refine x_iload_n C rfl 3 rfl dX11_name_58 ?_
      refine x_iload_n C rfl 4 rfl dX11_name_59 ?_
      refine x_callVN (dC := G10_addName_dep) (as := [.int p1, .int p2, .int p3]) (st := []) C rX kX (Nat.le_trans (Nat.le_of_ble_eq_true rfl) hd) (Nat.le_of_ble_eq_true rfl) ob1.1 ob1.2 (Nat.le_of_ble_eq_true rfl) rfl ts_1_0 tw_2_200 tw_2_198 tc_2_201 tw_1_2 hyX10 hnX10_addName rfl (Nat.le_of_ble_eq_true rfl) dX11_name_60 (G10_addName_met C.2.2.2.2.2.2.2.1 (Nat.le_refl _)  h) (fun r0 μ14 hq => ?_)
      obtain ⟨r15, rfl, h⟩ := hq
      refine x_st [.int r15] rfl ?_
      refine x_goto (tgt := 67) C dX11_name_63 (by decide) ?_
      exact x_iret C hr dX11_name_67 ⟨_, rfl, h⟩
set_option maxHeartbeats 4000000 in
set_option maxRecDepth 100000 in
theorem G11_name_J33_ok {p : Program} {e : Env} {s : State} {m : MethodId} {args : Array Value} {below : List Frame} {meth : Method} {c : Code} {l : Launch} {φ : Nat → Nat} {tc : Nat → ClassId} {D : va_G} {s0 : State} {dR : Nat} (C : CX p s m args meth c φ tc D (AX φ) s0 cX11_name RX11 5) (hd : G11_name_dep ≤ dR) (hr : meth.sig.returnType = (some .int))   {p1 : Int32} {p2 : Int32} {p3 : Int32} {Q : Int32 → MM → Prop}  {μ : MM}    (h : G11_name_J33 p1 p2 p3 μ Q) : WX p l e (rmX dR) s m args below meth c φ tc D (AX φ) 5 0 0 (MQ below (QX φ tc D (QI Q)) args s 0 0 (AX φ)) 33 [(0, .ref 0), (1, .int p1), (2, .int p2), (3, .int p3)] [] μ := by
  unfold G11_name_J33 at h
  refine x_iconst (v := 0) C (by decide) dX11_name_33 ?_
  exact G11_name_J34_ok C hd hr  h
set_option maxHeartbeats 4000000 in
set_option maxRecDepth 100000 in
theorem G11_name_met {l : Launch} {φ : Nat → Nat} {tc : Nat → ClassId} {D : va_G} {s0 : State} (hG : GX φ tc D s0) {dR : Nat} (hd : G11_name_dep ≤ dR) {v1 : Int32} {v2 : Int32} {v3 : Int32} {μ : MM} {Q : Int32 → MM → Prop}  (h : G11_name v1 v2 v3 μ Q) : MX l φ tc D s0 dR yX11_name cX11_name 5 (some .int) [.ref 0, .int v1, .int v2, .int v3] μ (QI Q) := by
  refine MX.of (own := RX11) hG plX11 rfl (Nat.le_of_ble_eq_true rfl) (fun p e s m args below meth c C hr => ?_)
  refine x_sub [(0, .ref 0), (1, .int v1), (2, .int v2), (3, .int v3)] [0, 1, 2, 3] rfl ?_
  unfold G11_name at h
  refine x_iload_n C rfl 1 rfl dX11_name_0 ?_
  refine x_iconst (v := 0) C (by decide) dX11_name_1 ?_
  refine x_iconst (v := 1) C (by decide) dX11_name_2 ?_
  refine x_callS (dC := G11_within_dep) (as := [.int v1, .int 0, .int 1]) (st := []) C rX kX (Nat.le_trans (Nat.le_of_ble_eq_true rfl) hd) (Nat.le_of_ble_eq_true rfl) tw_2_196 tw_2_195 tc_2_197 tw_1_1 hyX11 hnX11_within rfl (Nat.le_of_ble_eq_true rfl) dX11_name_3 (G11_within_met C.2.2.2.2.2.2.2.1 (Nat.le_refl _)  h) (fun r0 μ9 hq => ?_)
  obtain ⟨r10, rfl, h⟩ := hq
  refine x_st [.int r10] rfl ?_
  refine x_if_eq (tgt := 33) C dX11_name_6 (by decide) (fun c11 => ?_) (fun c11 => ?_)
  · have h := h.1 c11
    exact G11_name_J33_ok C hd hr  h
  · have h := h.2 c11
    refine x_iload_n C rfl 2 rfl dX11_name_9 ?_
    refine x_iconst (v := 0) C (by decide) dX11_name_10 ?_
    refine x_iconst (v := 1) C (by decide) dX11_name_11 ?_
    refine x_callS (dC := G11_within_dep) (as := [.int v2, .int 0, .int 1]) (st := []) C rX kX (Nat.le_trans (Nat.le_of_ble_eq_true rfl) hd) (Nat.le_of_ble_eq_true rfl) tw_2_196 tw_2_195 tc_2_197 tw_1_1 hyX11 hnX11_within rfl (Nat.le_of_ble_eq_true rfl) dX11_name_12 (G11_within_met C.2.2.2.2.2.2.2.1 (Nat.le_refl _)  h) (fun r0 μ16 hq => ?_)
    obtain ⟨r17, rfl, h⟩ := hq
    refine x_st [.int r17] rfl ?_
    refine x_if_eq (tgt := 33) C dX11_name_15 (by decide) (fun c18 => ?_) (fun c18 => ?_)
    · have h := h.1 c18
      exact G11_name_J33_ok C hd hr  h
    · have h := h.2 c18
      refine x_iload_n C rfl 3 rfl dX11_name_18 ?_
      refine x_iconst (v := 0) C (by decide) dX11_name_19 ?_
      refine x_sipush (v := 1009) C (by decide) dX11_name_20 ?_
      refine x_callS (dC := G11_within_dep) (as := [.int v3, .int 0, .int 1009]) (st := []) C rX kX (Nat.le_trans (Nat.le_of_ble_eq_true rfl) hd) (Nat.le_of_ble_eq_true rfl) tw_2_196 tw_2_195 tc_2_197 tw_1_1 hyX11 hnX11_within rfl (Nat.le_of_ble_eq_true rfl) dX11_name_23 (G11_within_met C.2.2.2.2.2.2.2.1 (Nat.le_refl _)  h) (fun r0 μ19 hq => ?_)
      obtain ⟨r20, rfl, h⟩ := hq
      refine x_st [.int r20] rfl ?_
      refine x_if_eq (tgt := 33) C dX11_name_26 (by decide) (fun c21 => ?_) (fun c21 => ?_)
      · have h := h.1 c21
        exact G11_name_J33_ok C hd hr  h
      · have h := h.2 c21
        refine x_iconst (v := 1) C (by decide) dX11_name_29 ?_
        refine x_goto (tgt := 34) C dX11_name_30 (by decide) ?_
        exact G11_name_J34_ok C hd hr  h
set_option maxHeartbeats 4000000 in
set_option maxRecDepth 100000 in
theorem G10_addHouse_met {l : Launch} {φ : Nat → Nat} {tc : Nat → ClassId} {D : va_G} {s0 : State} (hG : GX φ tc D s0) {dR : Nat} (hd : G10_addHouse_dep ≤ dR) {v1 : Int32} {v2 : Int32} {v3 : Int32} {μ : MM} {Q : Int32 → MM → Prop}  (h : G10_addHouse v1 v2 v3 μ Q) : MX l φ tc D s0 dR yX10_addHouse cX10_addHouse 4 (some .int) [.ref 1, .int v1, .int v2, .int v3] μ (QI Q) := by
  refine MX.of (own := RX10) hG plX10 rfl (Nat.le_of_ble_eq_true rfl) (fun p e s m args below meth c C hr => ?_)
  refine x_sub [(0, .ref 1), (1, .int v1), (2, .int v2), (3, .int v3)] [0, 1, 2, 3] rfl ?_
  unfold G10_addHouse at h
  refine x_aload_n C rfl 0 rfl dX10_addHouse_0 ?_
  refine x_getR (r := 6) C (j := 5) ob1.1 ob1.2 (Nat.le_of_ble_eq_true rfl) (Nat.le_of_ble_eq_true rfl) (fun _ _ _ => rfl) r_1_5 tw_1_133 dX10_addHouse_1 ?_
  refine x_aload_n C rfl 0 rfl dX10_addHouse_4 ?_
  refine x_getI C (j := 8) ob1.1 ob1.2 (Nat.le_of_ble_eq_true rfl) (Nat.le_of_ble_eq_true rfl) (Or.inl rfl) tw_1_138 dX10_addHouse_5 ?_
  refine x_iload_n C rfl 1 rfl dX10_addHouse_8 ?_
  obtain ⟨c8, h⟩ := h
  refine x_iast C ob6.1 ob6.2 c8 rfl dX10_addHouse_9 ?_
  refine x_mu (fun μ9 e_μ9 => ?_)
  have h := h μ9 e_μ9
  refine x_aload_n C rfl 0 rfl dX10_addHouse_10 ?_
  refine x_getR (r := 7) C (j := 6) ob1.1 ob1.2 (Nat.le_of_ble_eq_true rfl) (Nat.le_of_ble_eq_true rfl) (fun _ _ _ => rfl) r_1_6 tw_1_135 dX10_addHouse_11 ?_
  refine x_aload_n C rfl 0 rfl dX10_addHouse_14 ?_
  refine x_getI C (j := 8) ob1.1 ob1.2 (Nat.le_of_ble_eq_true rfl) (Nat.le_of_ble_eq_true rfl) (Or.inl rfl) tw_1_138 dX10_addHouse_15 ?_
  refine x_iload_n C rfl 2 rfl dX10_addHouse_18 ?_
  obtain ⟨c10, h⟩ := h
  refine x_iast C ob7.1 ob7.2 c10 rfl dX10_addHouse_19 ?_
  refine x_mu (fun μ11 e_μ11 => ?_)
  have h := h μ11 e_μ11
  refine x_aload_n C rfl 0 rfl dX10_addHouse_20 ?_
  refine x_getR (r := 8) C (j := 7) ob1.1 ob1.2 (Nat.le_of_ble_eq_true rfl) (Nat.le_of_ble_eq_true rfl) (fun _ _ _ => rfl) r_1_7 tw_1_137 dX10_addHouse_21 ?_
  refine x_aload_n C rfl 0 rfl dX10_addHouse_24 ?_
  refine x_getI C (j := 8) ob1.1 ob1.2 (Nat.le_of_ble_eq_true rfl) (Nat.le_of_ble_eq_true rfl) (Or.inl rfl) tw_1_138 dX10_addHouse_25 ?_
  refine x_iload_n C rfl 3 rfl dX10_addHouse_28 ?_
  obtain ⟨c12, h⟩ := h
  refine x_iast C ob8.1 ob8.2 c12 rfl dX10_addHouse_29 ?_
  refine x_mu (fun μ13 e_μ13 => ?_)
  have h := h μ13 e_μ13
  refine x_aload_n C rfl 0 rfl dX10_addHouse_30 ?_
  refine x_dup C rfl dX10_addHouse_31 ?_
  refine x_getI C (j := 8) ob1.1 ob1.2 (Nat.le_of_ble_eq_true rfl) (Nat.le_of_ble_eq_true rfl) (Or.inl rfl) tw_1_138 dX10_addHouse_32 ?_
  refine x_iconst (v := 1) C (by decide) dX10_addHouse_35 ?_
  refine x_iadd C dX10_addHouse_36 ?_
  refine x_putI C (j := 8) ob1.1 ob1.2 (Nat.le_of_ble_eq_true rfl) (Nat.le_of_ble_eq_true rfl) (Or.inl rfl) rfl rfl rfl tw_1_138 dX10_addHouse_37 ?_
  refine x_mu (fun μ14 e_μ14 => ?_)
  have h := h μ14 e_μ14
  refine x_aload_n C rfl 0 rfl dX10_addHouse_40 ?_
  refine x_getI C (j := 8) ob1.1 ob1.2 (Nat.le_of_ble_eq_true rfl) (Nat.le_of_ble_eq_true rfl) (Or.inl rfl) tw_1_138 dX10_addHouse_41 ?_
  refine x_iconst (v := 1) C (by decide) dX10_addHouse_44 ?_
  refine x_isub C dX10_addHouse_45 ?_
  exact x_iret C hr dX10_addHouse_46 ⟨_, rfl, h⟩
set_option maxHeartbeats 4000000 in
set_option maxRecDepth 100000 in
theorem G11_house_J64_ok {p : Program} {e : Env} {s : State} {m : MethodId} {args : Array Value} {below : List Frame} {meth : Method} {c : Code} {l : Launch} {φ : Nat → Nat} {tc : Nat → ClassId} {D : va_G} {s0 : State} {dR : Nat} (C : CX p s m args meth c φ tc D (AX φ) s0 cX11_house RX11 5) (hd : G11_house_dep ≤ dR) (hr : meth.sig.returnType = (some .int))    {Q : Int32 → MM → Prop}  {μ : MM}    (h : G11_house_J64 μ Q) : WX p l e (rmX dR) s m args below meth c φ tc D (AX φ) 5 0 0 (MQ below (QX φ tc D (QI Q)) args s 0 0 (AX φ)) 64 [] [] μ := by
  unfold G11_house_J64 at h
  refine x_iconst (v := (-1)) C (by decide) dX11_house_64 ?_
  exact x_iret C hr dX11_house_65 ⟨_, rfl, h⟩
set_option maxHeartbeats 4000000 in
set_option maxRecDepth 100000 in
theorem G11_house_J32_ok {p : Program} {e : Env} {s : State} {m : MethodId} {args : Array Value} {below : List Frame} {meth : Method} {c : Code} {l : Launch} {φ : Nat → Nat} {tc : Nat → ClassId} {D : va_G} {s0 : State} {dR : Nat} (C : CX p s m args meth c φ tc D (AX φ) s0 cX11_house RX11 5) (hd : G11_house_dep ≤ dR) (hr : meth.sig.returnType = (some .int))   {p1 : Int32} {p2 : Int32} {p3 : Int32} {q0 : Int32} {Q : Int32 → MM → Prop}  {μ : MM}    (h : G11_house_J32 p1 p2 p3 q0 μ Q) : WX p l e (rmX dR) s m args below meth c φ tc D (AX φ) 5 0 0 (MQ below (QX φ tc D (QI Q)) args s 0 0 (AX φ)) 32 [(0, .ref 0), (1, .int p1), (2, .int p2), (3, .int p3)] [.int q0] μ := by
  unfold G11_house_J32 at h
  refine x_istore C [(4, .int q0), (0, .ref 0), (1, .int p1), (2, .int p2), (3, .int p3)] (Nat.le_of_ble_eq_true rfl) rfl dX11_house_32 ?_
  refine x_iload C 0 rfl dX11_house_34 ?_
  refine x_if_eq (tgt := 64) C dX11_house_36 (by decide) (fun c12 => ?_) (fun c12 => ?_)
  · have h := h.1 c12
    refine x_sub [] [] rfl ?_
    exact G11_house_J64_ok C hd hr  h
  · have h := h.2 c12
    refine x_aload_n C rfl 1 rfl dX11_house_39 ?_
    refine x_getR (r := 1) C (j := 0) ob0.1 ob0.2 (Nat.le_of_ble_eq_true rfl) (Nat.le_of_ble_eq_true rfl) (fun _ _ _ => rfl) r_0_0 tw_2_163 dX11_house_40 ?_
    refine x_getIN C (j := 8) ob1.1 ob1.2 (Nat.le_of_ble_eq_true rfl) (Nat.le_of_ble_eq_true rfl) (Or.inl rfl) tw_1_140 dX11_house_43 ?_
    refine x_bipush (v := 24) C (by decide) dX11_house_46 ?_
    refine x_icmp_ge (tgt := 64) C dX11_house_48 (by decide) (fun c13 => ?_) (fun c13 => ?_)
    · have h := h.1 c13
      refine x_sub [] [] rfl ?_
      exact G11_house_J64_ok C hd hr  h
    · have h := h.2 c13
      refine x_aload_n C rfl 1 rfl dX11_house_51 ?_
      refine x_getR (r := 1) C (j := 0) ob0.1 ob0.2 (Nat.le_of_ble_eq_true rfl) (Nat.le_of_ble_eq_true rfl) (fun _ _ _ => rfl) r_0_0 tw_2_163 dX11_house_52 ?_
      refine x_iload_n C rfl 2 rfl dX11_house_55 ?_
      refine x_iload_n C rfl 3 rfl dX11_house_56 ?_
      refine x_iload_n C rfl 4 rfl dX11_house_57 ?_
      refine x_callVN (dC := G10_addHouse_dep) (as := [.int p1, .int p2, .int p3]) (st := []) C rX kX (Nat.le_trans (Nat.le_of_ble_eq_true rfl) hd) (Nat.le_of_ble_eq_true rfl) ob1.1 ob1.2 (Nat.le_of_ble_eq_true rfl) rfl ts_1_1 tw_2_208 tw_2_206 tc_2_209 tw_1_2 hyX10 hnX10_addHouse rfl (Nat.le_of_ble_eq_true rfl) dX11_house_58 (G10_addHouse_met C.2.2.2.2.2.2.2.1 (Nat.le_refl _)  h) (fun r0 μ14 hq => ?_)
      obtain ⟨r15, rfl, h⟩ := hq
      refine x_st [.int r15] rfl ?_
      refine x_goto (tgt := 65) C dX11_house_61 (by decide) ?_
      exact x_iret C hr dX11_house_65 ⟨_, rfl, h⟩
set_option maxHeartbeats 4000000 in
set_option maxRecDepth 100000 in
theorem G11_house_J31_ok {p : Program} {e : Env} {s : State} {m : MethodId} {args : Array Value} {below : List Frame} {meth : Method} {c : Code} {l : Launch} {φ : Nat → Nat} {tc : Nat → ClassId} {D : va_G} {s0 : State} {dR : Nat} (C : CX p s m args meth c φ tc D (AX φ) s0 cX11_house RX11 5) (hd : G11_house_dep ≤ dR) (hr : meth.sig.returnType = (some .int))   {p1 : Int32} {p2 : Int32} {p3 : Int32} {Q : Int32 → MM → Prop}  {μ : MM}    (h : G11_house_J31 p1 p2 p3 μ Q) : WX p l e (rmX dR) s m args below meth c φ tc D (AX φ) 5 0 0 (MQ below (QX φ tc D (QI Q)) args s 0 0 (AX φ)) 31 [(0, .ref 0), (1, .int p1), (2, .int p2), (3, .int p3)] [] μ := by
  unfold G11_house_J31 at h
  refine x_iconst (v := 0) C (by decide) dX11_house_31 ?_
  exact G11_house_J32_ok C hd hr  h
set_option maxHeartbeats 4000000 in
set_option maxRecDepth 100000 in
theorem G11_house_met {l : Launch} {φ : Nat → Nat} {tc : Nat → ClassId} {D : va_G} {s0 : State} (hG : GX φ tc D s0) {dR : Nat} (hd : G11_house_dep ≤ dR) {v1 : Int32} {v2 : Int32} {v3 : Int32} {μ : MM} {Q : Int32 → MM → Prop}  (h : G11_house v1 v2 v3 μ Q) : MX l φ tc D s0 dR yX11_house cX11_house 5 (some .int) [.ref 0, .int v1, .int v2, .int v3] μ (QI Q) := by
  refine MX.of (own := RX11) hG plX11 rfl (Nat.le_of_ble_eq_true rfl) (fun p e s m args below meth c C hr => ?_)
  refine x_sub [(0, .ref 0), (1, .int v1), (2, .int v2), (3, .int v3)] [0, 1, 2, 3] rfl ?_
  unfold G11_house at h
  refine x_iload_n C rfl 1 rfl dX11_house_0 ?_
  refine x_iconst (v := 0) C (by decide) dX11_house_1 ?_
  refine x_iconst (v := 3) C (by decide) dX11_house_2 ?_
  refine x_callS (dC := G11_within_dep) (as := [.int v1, .int 0, .int 3]) (st := []) C rX kX (Nat.le_trans (Nat.le_of_ble_eq_true rfl) hd) (Nat.le_of_ble_eq_true rfl) tw_2_196 tw_2_195 tc_2_197 tw_1_1 hyX11 hnX11_within rfl (Nat.le_of_ble_eq_true rfl) dX11_house_3 (G11_within_met C.2.2.2.2.2.2.2.1 (Nat.le_refl _)  h) (fun r0 μ9 hq => ?_)
  obtain ⟨r10, rfl, h⟩ := hq
  refine x_st [.int r10] rfl ?_
  refine x_if_eq (tgt := 31) C dX11_house_6 (by decide) (fun c11 => ?_) (fun c11 => ?_)
  · have h := h.1 c11
    exact G11_house_J31_ok C hd hr  h
  · have h := h.2 c11
    refine x_iload_n C rfl 2 rfl dX11_house_9 ?_
    refine x_iconst (v := 0) C (by decide) dX11_house_10 ?_
    refine x_iconst (v := 3) C (by decide) dX11_house_11 ?_
    refine x_callS (dC := G11_within_dep) (as := [.int v2, .int 0, .int 3]) (st := []) C rX kX (Nat.le_trans (Nat.le_of_ble_eq_true rfl) hd) (Nat.le_of_ble_eq_true rfl) tw_2_196 tw_2_195 tc_2_197 tw_1_1 hyX11 hnX11_within rfl (Nat.le_of_ble_eq_true rfl) dX11_house_12 (G11_within_met C.2.2.2.2.2.2.2.1 (Nat.le_refl _)  h) (fun r0 μ16 hq => ?_)
    obtain ⟨r17, rfl, h⟩ := hq
    refine x_st [.int r17] rfl ?_
    refine x_if_eq (tgt := 31) C dX11_house_15 (by decide) (fun c18 => ?_) (fun c18 => ?_)
    · have h := h.1 c18
      exact G11_house_J31_ok C hd hr  h
    · have h := h.2 c18
      refine x_iload_n C rfl 3 rfl dX11_house_18 ?_
      refine x_iconst (v := 0) C (by decide) dX11_house_19 ?_
      refine x_iconst (v := 5) C (by decide) dX11_house_20 ?_
      refine x_callS (dC := G11_within_dep) (as := [.int v3, .int 0, .int 5]) (st := []) C rX kX (Nat.le_trans (Nat.le_of_ble_eq_true rfl) hd) (Nat.le_of_ble_eq_true rfl) tw_2_196 tw_2_195 tc_2_197 tw_1_1 hyX11 hnX11_within rfl (Nat.le_of_ble_eq_true rfl) dX11_house_21 (G11_within_met C.2.2.2.2.2.2.2.1 (Nat.le_refl _)  h) (fun r0 μ19 hq => ?_)
      obtain ⟨r20, rfl, h⟩ := hq
      refine x_st [.int r20] rfl ?_
      refine x_if_eq (tgt := 31) C dX11_house_24 (by decide) (fun c21 => ?_) (fun c21 => ?_)
      · have h := h.1 c21
        exact G11_house_J31_ok C hd hr  h
      · have h := h.2 c21
        refine x_iconst (v := 1) C (by decide) dX11_house_27 ?_
        refine x_goto (tgt := 32) C dX11_house_28 (by decide) ?_
        exact G11_house_J32_ok C hd hr  h
set_option maxHeartbeats 4000000 in
set_option maxRecDepth 100000 in
theorem G5_becomeState_J12_ok {p : Program} {e : Env} {s : State} {m : MethodId} {args : Array Value} {below : List Frame} {meth : Method} {c : Code} {l : Launch} {φ : Nat → Nat} {tc : Nat → ClassId} {D : va_G} {s0 : State} {dR : Nat} (C : CX p s m args meth c φ tc D (AX φ) s0 cX5_becomeState RX5 2) (hd : G5_becomeState_dep ≤ dR) (hr : meth.sig.returnType = none)  {t : Nat} {p1 : Int32} {q0 : Int32} {Q : MM → Prop}  {μ : MM} (o_t : Ob t 5)   (h : G5_becomeState_J12 t p1 q0 μ Q) : WX p l e (rmX dR) s m args below meth c φ tc D (AX φ) 2 0 0 (MQ below (QX φ tc D (QV Q)) args s 0 0 (AX φ)) 12 [(0, .ref t), (1, .int p1)] [.int q0, .ref t] μ := by
  unfold G5_becomeState_J12 at h
  obtain ⟨c8, h⟩ := h
  refine x_putI C (j := 6) o_t.1 o_t.2 (Nat.le_of_ble_eq_true rfl) (Nat.le_of_ble_eq_true rfl) (Or.inr rfl) rfl (bo_nar c8) (bo_fit c8) tw_1_70 dX5_becomeState_12 ?_
  refine x_mu (fun μ9 e_μ9 => ?_)
  have h := h μ9 e_μ9
  refine x_aload_n C rfl 0 rfl dX5_becomeState_15 ?_
  refine x_iload_n C rfl 1 rfl dX5_becomeState_16 ?_
  refine x_iconst (v := 2) C (by decide) dX5_becomeState_17 ?_
  refine x_iand C dX5_becomeState_18 ?_
  refine x_if_eq (tgt := 26) C dX5_becomeState_19 (by decide) (fun c10 => ?_) (fun c10 => ?_)
  · have h := h.1 c10
    refine x_iconst (v := 0) C (by decide) dX5_becomeState_26 ?_
    refine x_putI C (j := 7) o_t.1 o_t.2 (Nat.le_of_ble_eq_true rfl) (Nat.le_of_ble_eq_true rfl) (Or.inr rfl) rfl (bo_nar bo_0) (bo_fit bo_0) tw_1_77 dX5_becomeState_27 ?_
    refine x_mu (fun μ11 e_μ11 => ?_)
    have h := h μ11 e_μ11
    refine x_aload_n C rfl 0 rfl dX5_becomeState_30 ?_
    refine x_iload_n C rfl 1 rfl dX5_becomeState_31 ?_
    refine x_iconst (v := 2) C (by decide) dX5_becomeState_32 ?_
    refine x_ishr C dX5_becomeState_33 ?_
    refine x_putI C (j := 8) o_t.1 o_t.2 (Nat.le_of_ble_eq_true rfl) (Nat.le_of_ble_eq_true rfl) (Or.inl rfl) rfl rfl rfl tw_1_81 dX5_becomeState_34 ?_
    refine x_mu (fun μ12 e_μ12 => ?_)
    have h := h μ12 e_μ12
    exact x_vret C hr dX5_becomeState_37 ⟨rfl, h⟩
  · have h := h.2 c10
    refine x_iconst (v := 1) C (by decide) dX5_becomeState_22 ?_
    refine x_goto (tgt := 27) C dX5_becomeState_23 (by decide) ?_
    refine x_putI C (j := 7) o_t.1 o_t.2 (Nat.le_of_ble_eq_true rfl) (Nat.le_of_ble_eq_true rfl) (Or.inr rfl) rfl (bo_nar bo_1) (bo_fit bo_1) tw_1_77 dX5_becomeState_27 ?_
    refine x_mu (fun μ13 e_μ13 => ?_)
    have h := h μ13 e_μ13
    refine x_aload_n C rfl 0 rfl dX5_becomeState_30 ?_
    refine x_iload_n C rfl 1 rfl dX5_becomeState_31 ?_
    refine x_iconst (v := 2) C (by decide) dX5_becomeState_32 ?_
    refine x_ishr C dX5_becomeState_33 ?_
    refine x_putI C (j := 8) o_t.1 o_t.2 (Nat.le_of_ble_eq_true rfl) (Nat.le_of_ble_eq_true rfl) (Or.inl rfl) rfl rfl rfl tw_1_81 dX5_becomeState_34 ?_
    refine x_mu (fun μ14 e_μ14 => ?_)
    have h := h μ14 e_μ14
    exact x_vret C hr dX5_becomeState_37 ⟨rfl, h⟩
set_option maxHeartbeats 4000000 in
set_option maxRecDepth 100000 in
theorem G5_becomeState_met {l : Launch} {φ : Nat → Nat} {tc : Nat → ClassId} {D : va_G} {s0 : State} (hG : GX φ tc D s0) {dR : Nat} (hd : G5_becomeState_dep ≤ dR) {t : Nat} {v1 : Int32} {μ : MM} {Q : MM → Prop} (o_t : Ob t 5) (h : G5_becomeState t v1 μ Q) : MX l φ tc D s0 dR yX5_becomeState cX5_becomeState 2 none [.ref t, .int v1] μ (QV Q) := by
  refine MX.of (own := RX5) hG plX5 rfl (Nat.le_of_ble_eq_true rfl) (fun p e s m args below meth c C hr => ?_)
  refine x_sub [(0, .ref t), (1, .int v1)] [0, 1] rfl ?_
  unfold G5_becomeState at h
  refine x_aload_n C rfl 0 rfl dX5_becomeState_0 ?_
  refine x_iload_n C rfl 1 rfl dX5_becomeState_1 ?_
  refine x_iconst (v := 1) C (by decide) dX5_becomeState_2 ?_
  refine x_iand C dX5_becomeState_3 ?_
  refine x_if_eq (tgt := 11) C dX5_becomeState_4 (by decide) (fun c7 => ?_) (fun c7 => ?_)
  · have h := h.1 c7
    refine x_iconst (v := 0) C (by decide) dX5_becomeState_11 ?_
    exact G5_becomeState_J12_ok C hd hr o_t h
  · have h := h.2 c7
    refine x_iconst (v := 1) C (by decide) dX5_becomeState_7 ?_
    refine x_goto (tgt := 12) C dX5_becomeState_8 (by decide) ?_
    exact G5_becomeState_J12_ok C hd hr o_t h
set_option maxHeartbeats 4000000 in
set_option maxRecDepth 100000 in
theorem G10_addLetter_met {l : Launch} {φ : Nat → Nat} {tc : Nat → ClassId} {D : va_G} {s0 : State} (hG : GX φ tc D s0) {dR : Nat} (hd : G10_addLetter_dep ≤ dR) {v1 : Int32} {v2 : Int32} {v3 : Int32} {v4 : Int32} {v5 : Int32} {μ : MM} {Q : Int32 → MM → Prop}  (h : G10_addLetter v1 v2 v3 v4 v5 μ Q) : MX l φ tc D s0 dR yX10_addLetter cX10_addLetter 7 (some .int) [.ref 1, .int v1, .int v2, .int v3, .int v4, .int v5] μ (QI Q) := by
  refine MX.of (own := RX10) hG plX10 rfl (Nat.le_of_ble_eq_true rfl) (fun p e s m args below meth c C hr => ?_)
  refine x_sub [(0, .ref 1), (1, .int v1), (2, .int v2), (3, .int v3), (4, .int v4), (5, .int v5)] [0, 1, 2, 3, 4, 5] rfl ?_
  unfold G10_addLetter at h
  refine x_aload_n C rfl 0 rfl dX10_addLetter_0 ?_
  refine x_getR (r := 9) C (j := 9) ob1.1 ob1.2 (Nat.le_of_ble_eq_true rfl) (Nat.le_of_ble_eq_true rfl) (fun _ _ _ => rfl) r_1_9 tw_1_143 dX10_addLetter_1 ?_
  refine x_aload_n C rfl 0 rfl dX10_addLetter_4 ?_
  refine x_getI C (j := 10) ob1.1 ob1.2 (Nat.le_of_ble_eq_true rfl) (Nat.le_of_ble_eq_true rfl) (Or.inl rfl) tw_1_153 dX10_addLetter_5 ?_
  obtain ⟨c10, h⟩ := h
  refine x_aald (r := (19 + (gI μ 1 10).toNatClampNeg)) C ob9.1 (by decide) (by decide) c10 rfl (rA9 c10) dX10_addLetter_8 ?_
  refine x_astore C [(6, .ref (19 + (gI μ 1 10).toNatClampNeg)), (0, .ref 1), (1, .int v1), (2, .int v2), (3, .int v3), (4, .int v4), (5, .int v5)] (Nat.le_of_ble_eq_true rfl) rfl dX10_addLetter_9 ?_
  refine x_aload C 0 rfl dX10_addLetter_11 ?_
  refine x_iload_n C rfl 2 rfl dX10_addLetter_13 ?_
  refine x_putIN C (j := 0) (obA9 c10).1 (obA9 c10).2 (Nat.le_of_ble_eq_true rfl) (Nat.le_of_ble_eq_true rfl) (Or.inl rfl) rfl rfl rfl tw_1_54 dX10_addLetter_14 ?_
  refine x_mu (fun μ11 e_μ11 => ?_)
  have h := h μ11 e_μ11
  refine x_aload C 0 rfl dX10_addLetter_17 ?_
  refine x_iload_n C rfl 3 rfl dX10_addLetter_19 ?_
  refine x_putIN C (j := 1) (obA9 c10).1 (obA9 c10).2 (Nat.le_of_ble_eq_true rfl) (Nat.le_of_ble_eq_true rfl) (Or.inl rfl) rfl rfl rfl tw_1_56 dX10_addLetter_20 ?_
  refine x_mu (fun μ12 e_μ12 => ?_)
  have h := h μ12 e_μ12
  refine x_aload C 0 rfl dX10_addLetter_23 ?_
  refine x_iload_n C rfl 4 rfl dX10_addLetter_25 ?_
  refine x_putIN C (j := 2) (obA9 c10).1 (obA9 c10).2 (Nat.le_of_ble_eq_true rfl) (Nat.le_of_ble_eq_true rfl) (Or.inl rfl) rfl rfl rfl tw_1_60 dX10_addLetter_26 ?_
  refine x_mu (fun μ13 e_μ13 => ?_)
  have h := h μ13 e_μ13
  refine x_aload C 0 rfl dX10_addLetter_29 ?_
  refine x_iload C 5 rfl dX10_addLetter_31 ?_
  refine x_iconst (v := 4) C (by decide) dX10_addLetter_33 ?_
  refine x_idiv C (by decide) dX10_addLetter_34 ?_
  refine x_putIN C (j := 3) (obA9 c10).1 (obA9 c10).2 (Nat.le_of_ble_eq_true rfl) (Nat.le_of_ble_eq_true rfl) (Or.inl rfl) rfl rfl rfl tw_1_63 dX10_addLetter_35 ?_
  refine x_mu (fun μ14 e_μ14 => ?_)
  have h := h μ14 e_μ14
  refine x_aload C 0 rfl dX10_addLetter_38 ?_
  refine x_iload C 5 rfl dX10_addLetter_40 ?_
  refine x_iconst (v := 4) C (by decide) dX10_addLetter_42 ?_
  refine x_irem C (by decide) dX10_addLetter_43 ?_
  refine x_putIN C (j := 4) (obA9 c10).1 (obA9 c10).2 (Nat.le_of_ble_eq_true rfl) (Nat.le_of_ble_eq_true rfl) (Or.inl rfl) rfl rfl rfl tw_1_66 dX10_addLetter_44 ?_
  refine x_mu (fun μ15 e_μ15 => ?_)
  have h := h μ15 e_μ15
  refine x_aload C 0 rfl dX10_addLetter_47 ?_
  refine x_iload C 6 rfl dX10_addLetter_49 ?_
  refine x_putIN C (j := 5) (obA9 c10).1 (obA9 c10).2 (Nat.le_of_ble_eq_true rfl) (Nat.le_of_ble_eq_true rfl) (Or.inl rfl) rfl rfl rfl tw_1_68 dX10_addLetter_51 ?_
  refine x_mu (fun μ16 e_μ16 => ?_)
  have h := h μ16 e_μ16
  refine x_aload C 0 rfl dX10_addLetter_54 ?_
  refine x_iconst (v := 0) C (by decide) dX10_addLetter_56 ?_
  refine x_callVN (dC := G5_becomeState_dep) (as := [.int 0]) (st := []) C rX kX (Nat.le_trans (Nat.le_of_ble_eq_true rfl) hd) (Nat.le_of_ble_eq_true rfl) (obA9 c10).1 (obA9 c10).2 (Nat.le_of_ble_eq_true rfl) rfl ts_1_6 tw_2_232 tw_2_230 tc_2_233 tw_1_3 hyX5 hnX5_becomeState rfl (Nat.le_of_ble_eq_true rfl) dX10_addLetter_57 (G5_becomeState_met C.2.2.2.2.2.2.2.1 (Nat.le_refl _) (obA9 c10) h) (fun r0 μ17 hq => ?_)
  obtain ⟨rfl, h⟩ := hq
  refine x_st [] rfl ?_
  refine x_aload_n C rfl 1 rfl dX10_addLetter_60 ?_
  refine x_dup C rfl dX10_addLetter_61 ?_
  refine x_getI C (j := 10) ob1.1 ob1.2 (Nat.le_of_ble_eq_true rfl) (Nat.le_of_ble_eq_true rfl) (Or.inl rfl) tw_1_153 dX10_addLetter_62 ?_
  refine x_iconst (v := 1) C (by decide) dX10_addLetter_65 ?_
  refine x_iadd C dX10_addLetter_66 ?_
  refine x_putI C (j := 10) ob1.1 ob1.2 (Nat.le_of_ble_eq_true rfl) (Nat.le_of_ble_eq_true rfl) (Or.inl rfl) rfl rfl rfl tw_1_153 dX10_addLetter_67 ?_
  refine x_mu (fun μ18 e_μ18 => ?_)
  have h := h μ18 e_μ18
  refine x_aload_n C rfl 1 rfl dX10_addLetter_70 ?_
  refine x_getI C (j := 10) ob1.1 ob1.2 (Nat.le_of_ble_eq_true rfl) (Nat.le_of_ble_eq_true rfl) (Or.inl rfl) tw_1_153 dX10_addLetter_71 ?_
  refine x_iconst (v := 1) C (by decide) dX10_addLetter_74 ?_
  refine x_isub C dX10_addLetter_75 ?_
  exact x_iret C hr dX10_addLetter_76 ⟨_, rfl, h⟩
set_option maxHeartbeats 4000000 in
set_option maxRecDepth 100000 in
theorem G10_isHouse_J16_ok {p : Program} {e : Env} {s : State} {m : MethodId} {args : Array Value} {below : List Frame} {meth : Method} {c : Code} {l : Launch} {φ : Nat → Nat} {tc : Nat → ClassId} {D : va_G} {s0 : State} {dR : Nat} (C : CX p s m args meth c φ tc D (AX φ) s0 cX10_isHouse RX10 2) (hd : G10_isHouse_dep ≤ dR) (hr : meth.sig.returnType = (some .boolean))    {Q : Int32 → MM → Prop}  {μ : MM}    (h : G10_isHouse_J16 μ Q) : WX p l e (rmX dR) s m args below meth c φ tc D (AX φ) 2 0 0 (MQ below (QX φ tc D (QI Q)) args s 0 0 (AX φ)) 16 [] [] μ := by
  unfold G10_isHouse_J16 at h
  refine x_iconst (v := 0) C (by decide) dX10_isHouse_16 ?_
  exact x_zret C hr bo_0 dX10_isHouse_17 ⟨_, rfl, h⟩
set_option maxHeartbeats 4000000 in
set_option maxRecDepth 100000 in
theorem G10_isHouse_met {l : Launch} {φ : Nat → Nat} {tc : Nat → ClassId} {D : va_G} {s0 : State} (hG : GX φ tc D s0) {dR : Nat} (hd : G10_isHouse_dep ≤ dR) {v1 : Int32} {μ : MM} {Q : Int32 → MM → Prop}  (h : G10_isHouse v1 μ Q) : MX l φ tc D s0 dR yX10_isHouse cX10_isHouse 2 (some .boolean) [.ref 1, .int v1] μ (QI Q) := by
  refine MX.of (own := RX10) hG plX10 rfl (Nat.le_of_ble_eq_true rfl) (fun p e s m args below meth c C hr => ?_)
  refine x_sub [(0, .ref 1), (1, .int v1)] [0, 1] rfl ?_
  unfold G10_isHouse at h
  refine x_iload_n C rfl 1 rfl dX10_isHouse_0 ?_
  refine x_if_lt (tgt := 16) C dX10_isHouse_1 (by decide) (fun c1 => ?_) (fun c1 => ?_)
  · have h := h.1 c1
    refine x_sub [] [] rfl ?_
    exact G10_isHouse_J16_ok C hd hr  h
  · have h := h.2 c1
    refine x_iload_n C rfl 1 rfl dX10_isHouse_4 ?_
    refine x_aload_n C rfl 0 rfl dX10_isHouse_5 ?_
    refine x_getI C (j := 8) ob1.1 ob1.2 (Nat.le_of_ble_eq_true rfl) (Nat.le_of_ble_eq_true rfl) (Or.inl rfl) tw_1_138 dX10_isHouse_6 ?_
    refine x_icmp_ge (tgt := 16) C dX10_isHouse_9 (by decide) (fun c2 => ?_) (fun c2 => ?_)
    · have h := h.1 c2
      refine x_sub [] [] rfl ?_
      exact G10_isHouse_J16_ok C hd hr  h
    · have h := h.2 c2
      refine x_iconst (v := 1) C (by decide) dX10_isHouse_12 ?_
      refine x_goto (tgt := 17) C dX10_isHouse_13 (by decide) ?_
      exact x_zret C hr bo_1 dX10_isHouse_17 ⟨_, rfl, h⟩
set_option maxHeartbeats 4000000 in
set_option maxRecDepth 100000 in
theorem G10_isName_J16_ok {p : Program} {e : Env} {s : State} {m : MethodId} {args : Array Value} {below : List Frame} {meth : Method} {c : Code} {l : Launch} {φ : Nat → Nat} {tc : Nat → ClassId} {D : va_G} {s0 : State} {dR : Nat} (C : CX p s m args meth c φ tc D (AX φ) s0 cX10_isName RX10 2) (hd : G10_isName_dep ≤ dR) (hr : meth.sig.returnType = (some .boolean))    {Q : Int32 → MM → Prop}  {μ : MM}    (h : G10_isName_J16 μ Q) : WX p l e (rmX dR) s m args below meth c φ tc D (AX φ) 2 0 0 (MQ below (QX φ tc D (QI Q)) args s 0 0 (AX φ)) 16 [] [] μ := by
  unfold G10_isName_J16 at h
  refine x_iconst (v := 0) C (by decide) dX10_isName_16 ?_
  exact x_zret C hr bo_0 dX10_isName_17 ⟨_, rfl, h⟩
set_option maxHeartbeats 4000000 in
set_option maxRecDepth 100000 in
theorem G10_isName_met {l : Launch} {φ : Nat → Nat} {tc : Nat → ClassId} {D : va_G} {s0 : State} (hG : GX φ tc D s0) {dR : Nat} (hd : G10_isName_dep ≤ dR) {v1 : Int32} {μ : MM} {Q : Int32 → MM → Prop}  (h : G10_isName v1 μ Q) : MX l φ tc D s0 dR yX10_isName cX10_isName 2 (some .boolean) [.ref 1, .int v1] μ (QI Q) := by
  refine MX.of (own := RX10) hG plX10 rfl (Nat.le_of_ble_eq_true rfl) (fun p e s m args below meth c C hr => ?_)
  refine x_sub [(0, .ref 1), (1, .int v1)] [0, 1] rfl ?_
  unfold G10_isName at h
  refine x_iload_n C rfl 1 rfl dX10_isName_0 ?_
  refine x_if_lt (tgt := 16) C dX10_isName_1 (by decide) (fun c1 => ?_) (fun c1 => ?_)
  · have h := h.1 c1
    refine x_sub [] [] rfl ?_
    exact G10_isName_J16_ok C hd hr  h
  · have h := h.2 c1
    refine x_iload_n C rfl 1 rfl dX10_isName_4 ?_
    refine x_aload_n C rfl 0 rfl dX10_isName_5 ?_
    refine x_getI C (j := 4) ob1.1 ob1.2 (Nat.le_of_ble_eq_true rfl) (Nat.le_of_ble_eq_true rfl) (Or.inl rfl) tw_1_130 dX10_isName_6 ?_
    refine x_icmp_ge (tgt := 16) C dX10_isName_9 (by decide) (fun c2 => ?_) (fun c2 => ?_)
    · have h := h.1 c2
      refine x_sub [] [] rfl ?_
      exact G10_isName_J16_ok C hd hr  h
    · have h := h.2 c2
      refine x_iconst (v := 1) C (by decide) dX10_isName_12 ?_
      refine x_goto (tgt := 17) C dX10_isName_13 (by decide) ?_
      exact x_zret C hr bo_1 dX10_isName_17 ⟨_, rfl, h⟩
set_option maxHeartbeats 4000000 in
set_option maxRecDepth 100000 in
theorem G10_lettersTo_L4_b {p : Program} {e : Env} {s : State} {m : MethodId} {args : Array Value} {below : List Frame} {meth : Method} {c : Code} {l : Launch} {φ : Nat → Nat} {tc : Nat → ClassId} {D : va_G} {s0 : State} {dR : Nat} (C : CX p s m args meth c φ tc D (AX φ) s0 cX10_lettersTo RX10 4) (hd : G10_lettersTo_dep ≤ dR) (hr : meth.sig.returnType = (some .int))  {p1 : Int32} {Q : Int32 → MM → Prop} {K4 : Int32 × Int32 × MM → Prop} {x : Int32 × Int32 × MM}   (hK4 : ∀ (z2 : Int32) (z3 : Int32) (zμ : MM), K4 (z2, z3, zμ) → WX p l e (rmX dR) s m args below meth c φ tc D (AX φ) 4 0 0 (MQ below (QX φ tc D (QI Q)) args s 0 0 (AX φ)) 4 [(0, .ref 1), (1, .int p1), (2, .int z2), (3, .int z3)] [] zμ) (h : G10_lettersTo_L4 p1 Q K4 x) : WX p l e (rmX dR) s m args below meth c φ tc D (AX φ) 4 0 0 (MQ below (QX φ tc D (QI Q)) args s 0 0 (AX φ)) 4 [(0, .ref 1), (1, .int p1), (2, .int x.1), (3, .int x.2.1)] [] x.2.2 := by
  unfold G10_lettersTo_L4 at h
  refine x_iload_n C rfl 3 rfl dX10_lettersTo_4 ?_
  refine x_aload_n C rfl 0 rfl dX10_lettersTo_5 ?_
  refine x_getI C (j := 10) ob1.1 ob1.2 (Nat.le_of_ble_eq_true rfl) (Nat.le_of_ble_eq_true rfl) (Or.inl rfl) tw_1_153 dX10_lettersTo_6 ?_
  refine x_icmp_ge (tgt := 39) C dX10_lettersTo_9 (by decide) (fun c4 => ?_) (fun c4 => ?_)
  · have h := h.1 c4
    refine x_iload_n C rfl 2 rfl dX10_lettersTo_39 ?_
    exact x_iret C hr dX10_lettersTo_40 ⟨_, rfl, h⟩
  · have h := h.2 c4
    refine x_iload_n C rfl 2 rfl dX10_lettersTo_12 ?_
    refine x_aload_n C rfl 0 rfl dX10_lettersTo_13 ?_
    refine x_getR (r := 9) C (j := 9) ob1.1 ob1.2 (Nat.le_of_ble_eq_true rfl) (Nat.le_of_ble_eq_true rfl) (fun _ _ _ => rfl) r_1_9 tw_1_143 dX10_lettersTo_14 ?_
    refine x_iload_n C rfl 3 rfl dX10_lettersTo_17 ?_
    obtain ⟨c5, h⟩ := h
    refine x_aald (r := (19 + x.2.1.toNatClampNeg)) C ob9.1 (by decide) (by decide) c5 rfl (rA9 c5) dX10_lettersTo_18 ?_
    refine x_getIN C (j := 0) (obA9 c5).1 (obA9 c5).2 (Nat.le_of_ble_eq_true rfl) (Nat.le_of_ble_eq_true rfl) (Or.inl rfl) tw_1_54 dX10_lettersTo_19 ?_
    refine x_iload_n C rfl 1 rfl dX10_lettersTo_22 ?_
    refine x_icmp_ne (tgt := 30) C dX10_lettersTo_23 (by decide) (fun c6 => ?_) (fun c6 => ?_)
    · have h := h.1 c6
      refine x_iconst (v := 0) C (by decide) dX10_lettersTo_30 ?_
      refine x_iadd C dX10_lettersTo_31 ?_
      refine x_topi (fun y7 e_y7 => ?_)
      have h := h y7 e_y7
      refine x_istore_n C [(2, .int y7), (0, .ref 1), (1, .int p1), (3, .int x.2.1)] rfl (Nat.le_of_ble_eq_true rfl) rfl dX10_lettersTo_32 ?_
      refine x_iinc (v := (x.2.1 + 1)) C [(3, .int (x.2.1 + 1)), (2, .int y7), (0, .ref 1), (1, .int p1)] 3 rfl (congrArg (fun z => x.2.1 + z) (by decide : Int32.ofInt (1) = 1)) (Nat.le_of_ble_eq_true rfl) rfl dX10_lettersTo_33 ?_
      refine x_goto (tgt := 4) C dX10_lettersTo_36 (by decide) ?_
      refine x_sub [(0, .ref 1), (1, .int p1), (2, .int y7), (3, .int (x.2.1 + 1))] [2, 3, 1, 0] rfl ?_
      exact hK4 _ _ _ h
    · have h := h.2 c6
      refine x_iconst (v := 1) C (by decide) dX10_lettersTo_26 ?_
      refine x_goto (tgt := 31) C dX10_lettersTo_27 (by decide) ?_
      refine x_iadd C dX10_lettersTo_31 ?_
      refine x_topi (fun y8 e_y8 => ?_)
      have h := h y8 e_y8
      refine x_istore_n C [(2, .int y8), (0, .ref 1), (1, .int p1), (3, .int x.2.1)] rfl (Nat.le_of_ble_eq_true rfl) rfl dX10_lettersTo_32 ?_
      refine x_iinc (v := (x.2.1 + 1)) C [(3, .int (x.2.1 + 1)), (2, .int y8), (0, .ref 1), (1, .int p1)] 3 rfl (congrArg (fun z => x.2.1 + z) (by decide : Int32.ofInt (1) = 1)) (Nat.le_of_ble_eq_true rfl) rfl dX10_lettersTo_33 ?_
      refine x_goto (tgt := 4) C dX10_lettersTo_36 (by decide) ?_
      refine x_sub [(0, .ref 1), (1, .int p1), (2, .int y8), (3, .int (x.2.1 + 1))] [2, 3, 1, 0] rfl ?_
      exact hK4 _ _ _ h
theorem G10_lettersTo_L4_ok {p : Program} {e : Env} {s : State} {m : MethodId} {args : Array Value} {below : List Frame} {meth : Method} {c : Code} {l : Launch} {φ : Nat → Nat} {tc : Nat → ClassId} {D : va_G} {s0 : State} {dR : Nat} (C : CX p s m args meth c φ tc D (AX φ) s0 cX10_lettersTo RX10 4) (hd : G10_lettersTo_dep ≤ dR) (hr : meth.sig.returnType = (some .int))  {p1 : Int32} {Q : Int32 → MM → Prop}  {x : Int32 × Int32 × MM}    (h : Lp (G10_lettersTo_L4 p1 Q) x) : WX p l e (rmX dR) s m args below meth c φ tc D (AX φ) 4 0 0 (MQ below (QX φ tc D (QI Q)) args s 0 0 (AX φ)) 4 [(0, .ref 1), (1, .int p1), (2, .int x.1), (3, .int x.2.1)] [] x.2.2 := by
  obtain ⟨n, h⟩ := h
  induction n generalizing x with
  | zero => exact h.elim
  | succ n ih => exact G10_lettersTo_L4_b C hd hr   (fun z2 z3 zμ hz => by have q := ih hz; exact q) h
set_option maxHeartbeats 4000000 in
set_option maxRecDepth 100000 in
theorem G10_lettersTo_met {l : Launch} {φ : Nat → Nat} {tc : Nat → ClassId} {D : va_G} {s0 : State} (hG : GX φ tc D s0) {dR : Nat} (hd : G10_lettersTo_dep ≤ dR) {v1 : Int32} {μ : MM} {Q : Int32 → MM → Prop}  (h : G10_lettersTo v1 μ Q) : MX l φ tc D s0 dR yX10_lettersTo cX10_lettersTo 4 (some .int) [.ref 1, .int v1] μ (QI Q) := by
  refine MX.of (own := RX10) hG plX10 rfl (Nat.le_of_ble_eq_true rfl) (fun p e s m args below meth c C hr => ?_)
  refine x_sub [(0, .ref 1), (1, .int v1)] [0, 1] rfl ?_
  unfold G10_lettersTo at h
  refine x_iconst (v := 0) C (by decide) dX10_lettersTo_0 ?_
  refine x_istore_n C [(2, .int 0), (0, .ref 1), (1, .int v1)] rfl (Nat.le_of_ble_eq_true rfl) rfl dX10_lettersTo_1 ?_
  refine x_iconst (v := 0) C (by decide) dX10_lettersTo_2 ?_
  refine x_istore_n C [(3, .int 0), (2, .int 0), (0, .ref 1), (1, .int v1)] rfl (Nat.le_of_ble_eq_true rfl) rfl dX10_lettersTo_3 ?_
  refine x_sub [(0, .ref 1), (1, .int v1), (2, .int 0), (3, .int 0)] [2, 3, 1, 0] rfl ?_
  exact G10_lettersTo_L4_ok C hd hr  h
set_option maxHeartbeats 4000000 in
set_option maxRecDepth 100000 in
theorem G11_letter_J120_ok {p : Program} {e : Env} {s : State} {m : MethodId} {args : Array Value} {below : List Frame} {meth : Method} {c : Code} {l : Launch} {φ : Nat → Nat} {tc : Nat → ClassId} {D : va_G} {s0 : State} {dR : Nat} (C : CX p s m args meth c φ tc D (AX φ) s0 cX11_letter RX11 8) (hd : G11_letter_dep ≤ dR) (hr : meth.sig.returnType = (some .int))    {Q : Int32 → MM → Prop}  {μ : MM}    (h : G11_letter_J120 μ Q) : WX p l e (rmX dR) s m args below meth c φ tc D (AX φ) 8 0 0 (MQ below (QX φ tc D (QI Q)) args s 0 0 (AX φ)) 120 [] [] μ := by
  unfold G11_letter_J120 at h
  refine x_iconst (v := (-1)) C (by decide) dX11_letter_120 ?_
  exact x_iret C hr dX11_letter_121 ⟨_, rfl, h⟩
set_option maxHeartbeats 4000000 in
set_option maxRecDepth 100000 in
theorem G11_letter_J91_ok {p : Program} {e : Env} {s : State} {m : MethodId} {args : Array Value} {below : List Frame} {meth : Method} {c : Code} {l : Launch} {φ : Nat → Nat} {tc : Nat → ClassId} {D : va_G} {s0 : State} {dR : Nat} (C : CX p s m args meth c φ tc D (AX φ) s0 cX11_letter RX11 8) (hd : G11_letter_dep ≤ dR) (hr : meth.sig.returnType = (some .int))   {p1 : Int32} {p2 : Int32} {p3 : Int32} {p4 : Int32} {p5 : Int32} {p6 : Int32} {q0 : Int32} {Q : Int32 → MM → Prop}  {μ : MM}    (h : G11_letter_J91 p1 p2 p3 p4 p5 p6 q0 μ Q) : WX p l e (rmX dR) s m args below meth c φ tc D (AX φ) 8 0 0 (MQ below (QX φ tc D (QI Q)) args s 0 0 (AX φ)) 91 [(0, .ref 0), (1, .int p1), (2, .int p2), (3, .int p3), (4, .int p4), (5, .int p5), (6, .int p6)] [.int q0] μ := by
  unfold G11_letter_J91 at h
  refine x_istore C [(7, .int q0), (0, .ref 0), (1, .int p1), (2, .int p2), (3, .int p3), (4, .int p4), (5, .int p5), (6, .int p6)] (Nat.le_of_ble_eq_true rfl) rfl dX11_letter_91 ?_
  refine x_iload C 7 rfl dX11_letter_93 ?_
  refine x_if_eq (tgt := 120) C dX11_letter_95 (by decide) (fun c19 => ?_) (fun c19 => ?_)
  · have h := h.1 c19
    refine x_sub [] [] rfl ?_
    exact G11_letter_J120_ok C hd hr  h
  · have h := h.2 c19
    refine x_iload C 0 rfl dX11_letter_98 ?_
    refine x_if_eq (tgt := 120) C dX11_letter_100 (by decide) (fun c20 => ?_) (fun c20 => ?_)
    · have h := h.1 c20
      refine x_sub [] [] rfl ?_
      exact G11_letter_J120_ok C hd hr  h
    · have h := h.2 c20
      refine x_aload_n C rfl 1 rfl dX11_letter_103 ?_
      refine x_getR (r := 1) C (j := 0) ob0.1 ob0.2 (Nat.le_of_ble_eq_true rfl) (Nat.le_of_ble_eq_true rfl) (fun _ _ _ => rfl) r_0_0 tw_2_163 dX11_letter_104 ?_
      refine x_iload_n C rfl 2 rfl dX11_letter_107 ?_
      refine x_iload_n C rfl 3 rfl dX11_letter_108 ?_
      refine x_iload_n C rfl 4 rfl dX11_letter_109 ?_
      refine x_iload C 5 rfl dX11_letter_110 ?_
      refine x_iload C 6 rfl dX11_letter_112 ?_
      refine x_callVN (dC := G10_addLetter_dep) (as := [.int p1, .int p2, .int p3, .int p4, .int p5]) (st := []) C rX kX (Nat.le_trans (Nat.le_of_ble_eq_true rfl) hd) (Nat.le_of_ble_eq_true rfl) ob1.1 ob1.2 (Nat.le_of_ble_eq_true rfl) rfl ts_1_5 tw_2_228 tw_2_226 tc_2_229 tw_1_2 hyX10 hnX10_addLetter rfl (Nat.le_of_ble_eq_true rfl) dX11_letter_114 (G10_addLetter_met C.2.2.2.2.2.2.2.1 (Nat.le_refl _)  h) (fun r0 μ21 hq => ?_)
      obtain ⟨r22, rfl, h⟩ := hq
      refine x_st [.int r22] rfl ?_
      refine x_goto (tgt := 121) C dX11_letter_117 (by decide) ?_
      exact x_iret C hr dX11_letter_121 ⟨_, rfl, h⟩
set_option maxHeartbeats 4000000 in
set_option maxRecDepth 100000 in
theorem G11_letter_J90_ok {p : Program} {e : Env} {s : State} {m : MethodId} {args : Array Value} {below : List Frame} {meth : Method} {c : Code} {l : Launch} {φ : Nat → Nat} {tc : Nat → ClassId} {D : va_G} {s0 : State} {dR : Nat} (C : CX p s m args meth c φ tc D (AX φ) s0 cX11_letter RX11 8) (hd : G11_letter_dep ≤ dR) (hr : meth.sig.returnType = (some .int))   {p1 : Int32} {p2 : Int32} {p3 : Int32} {p4 : Int32} {p5 : Int32} {p6 : Int32} {Q : Int32 → MM → Prop}  {μ : MM}    (h : G11_letter_J90 p1 p2 p3 p4 p5 p6 μ Q) : WX p l e (rmX dR) s m args below meth c φ tc D (AX φ) 8 0 0 (MQ below (QX φ tc D (QI Q)) args s 0 0 (AX φ)) 90 [(0, .ref 0), (1, .int p1), (2, .int p2), (3, .int p3), (4, .int p4), (5, .int p5), (6, .int p6)] [] μ := by
  unfold G11_letter_J90 at h
  refine x_iconst (v := 0) C (by decide) dX11_letter_90 ?_
  exact G11_letter_J91_ok C hd hr  h
set_option maxHeartbeats 4000000 in
set_option maxRecDepth 100000 in
theorem G11_letter_J60_ok {p : Program} {e : Env} {s : State} {m : MethodId} {args : Array Value} {below : List Frame} {meth : Method} {c : Code} {l : Launch} {φ : Nat → Nat} {tc : Nat → ClassId} {D : va_G} {s0 : State} {dR : Nat} (C : CX p s m args meth c φ tc D (AX φ) s0 cX11_letter RX11 8) (hd : G11_letter_dep ≤ dR) (hr : meth.sig.returnType = (some .int))   {p1 : Int32} {p2 : Int32} {p3 : Int32} {p4 : Int32} {p5 : Int32} {q0 : Int32} {Q : Int32 → MM → Prop}  {μ : MM}    (h : G11_letter_J60 p1 p2 p3 p4 p5 q0 μ Q) : WX p l e (rmX dR) s m args below meth c φ tc D (AX φ) 8 0 0 (MQ below (QX φ tc D (QI Q)) args s 0 0 (AX φ)) 60 [(0, .ref 0), (1, .int p1), (2, .int p2), (3, .int p3), (4, .int p4), (5, .int p5)] [.int q0] μ := by
  unfold G11_letter_J60 at h
  refine x_istore C [(6, .int q0), (0, .ref 0), (1, .int p1), (2, .int p2), (3, .int p3), (4, .int p4), (5, .int p5)] (Nat.le_of_ble_eq_true rfl) rfl dX11_letter_60 ?_
  refine x_aload_n C rfl 1 rfl dX11_letter_62 ?_
  refine x_getR (r := 1) C (j := 0) ob0.1 ob0.2 (Nat.le_of_ble_eq_true rfl) (Nat.le_of_ble_eq_true rfl) (fun _ _ _ => rfl) r_0_0 tw_2_163 dX11_letter_63 ?_
  refine x_getIN C (j := 10) ob1.1 ob1.2 (Nat.le_of_ble_eq_true rfl) (Nat.le_of_ble_eq_true rfl) (Or.inl rfl) tw_1_154 dX11_letter_66 ?_
  refine x_bipush (v := 96) C (by decide) dX11_letter_69 ?_
  refine x_icmp_ge (tgt := 90) C dX11_letter_71 (by decide) (fun c18 => ?_) (fun c18 => ?_)
  · have h := h.1 c18
    refine x_sub [(0, .ref 0), (1, .int p1), (2, .int p2), (3, .int p3), (4, .int p4), (5, .int p5), (6, .int q0)] [1, 2, 3, 4, 5, 6, 0] rfl ?_
    exact G11_letter_J90_ok C hd hr  h
  · have h := h.2 c18
    refine x_aload_n C rfl 1 rfl dX11_letter_74 ?_
    refine x_getR (r := 1) C (j := 0) ob0.1 ob0.2 (Nat.le_of_ble_eq_true rfl) (Nat.le_of_ble_eq_true rfl) (fun _ _ _ => rfl) r_0_0 tw_2_163 dX11_letter_75 ?_
    refine x_iload_n C rfl 2 rfl dX11_letter_78 ?_
    refine x_callVN (dC := G10_lettersTo_dep) (as := [.int p1]) (st := []) C rX kX (Nat.le_trans (Nat.le_of_ble_eq_true rfl) hd) (Nat.le_of_ble_eq_true rfl) ob1.1 ob1.2 (Nat.le_of_ble_eq_true rfl) rfl ts_1_4 tw_2_224 tw_2_222 tc_2_225 tw_1_2 hyX10 hnX10_lettersTo rfl (Nat.le_of_ble_eq_true rfl) dX11_letter_79 (G10_lettersTo_met C.2.2.2.2.2.2.2.1 (Nat.le_refl _)  h) (fun r0 μ23 hq => ?_)
    obtain ⟨r24, rfl, h⟩ := hq
    refine x_st [.int r24] rfl ?_
    refine x_iconst (v := 4) C (by decide) dX11_letter_82 ?_
    refine x_icmp_ge (tgt := 90) C dX11_letter_83 (by decide) (fun c25 => ?_) (fun c25 => ?_)
    · have h := h.1 c25
      refine x_sub [(0, .ref 0), (1, .int p1), (2, .int p2), (3, .int p3), (4, .int p4), (5, .int p5), (6, .int q0)] [1, 2, 3, 4, 5, 6, 0] rfl ?_
      exact G11_letter_J90_ok C hd hr  h
    · have h := h.2 c25
      refine x_iconst (v := 1) C (by decide) dX11_letter_86 ?_
      refine x_goto (tgt := 91) C dX11_letter_87 (by decide) ?_
      refine x_sub [(0, .ref 0), (1, .int p1), (2, .int p2), (3, .int p3), (4, .int p4), (5, .int p5), (6, .int q0)] [1, 2, 3, 4, 5, 6, 0] rfl ?_
      exact G11_letter_J91_ok C hd hr  h
set_option maxHeartbeats 4000000 in
set_option maxRecDepth 100000 in
theorem G11_letter_J59_ok {p : Program} {e : Env} {s : State} {m : MethodId} {args : Array Value} {below : List Frame} {meth : Method} {c : Code} {l : Launch} {φ : Nat → Nat} {tc : Nat → ClassId} {D : va_G} {s0 : State} {dR : Nat} (C : CX p s m args meth c φ tc D (AX φ) s0 cX11_letter RX11 8) (hd : G11_letter_dep ≤ dR) (hr : meth.sig.returnType = (some .int))   {p1 : Int32} {p2 : Int32} {p3 : Int32} {p4 : Int32} {p5 : Int32} {Q : Int32 → MM → Prop}  {μ : MM}    (h : G11_letter_J59 p1 p2 p3 p4 p5 μ Q) : WX p l e (rmX dR) s m args below meth c φ tc D (AX φ) 8 0 0 (MQ below (QX φ tc D (QI Q)) args s 0 0 (AX φ)) 59 [(0, .ref 0), (1, .int p1), (2, .int p2), (3, .int p3), (4, .int p4), (5, .int p5)] [] μ := by
  unfold G11_letter_J59 at h
  refine x_iconst (v := 0) C (by decide) dX11_letter_59 ?_
  exact G11_letter_J60_ok C hd hr  h
set_option maxHeartbeats 4000000 in
set_option maxRecDepth 100000 in
theorem G11_letter_met {l : Launch} {φ : Nat → Nat} {tc : Nat → ClassId} {D : va_G} {s0 : State} (hG : GX φ tc D s0) {dR : Nat} (hd : G11_letter_dep ≤ dR) {v1 : Int32} {v2 : Int32} {v3 : Int32} {v4 : Int32} {v5 : Int32} {μ : MM} {Q : Int32 → MM → Prop}  (h : G11_letter v1 v2 v3 v4 v5 μ Q) : MX l φ tc D s0 dR yX11_letter cX11_letter 8 (some .int) [.ref 0, .int v1, .int v2, .int v3, .int v4, .int v5] μ (QI Q) := by
  refine MX.of (own := RX11) hG plX11 rfl (Nat.le_of_ble_eq_true rfl) (fun p e s m args below meth c C hr => ?_)
  refine x_sub [(0, .ref 0), (1, .int v1), (2, .int v2), (3, .int v3), (4, .int v4), (5, .int v5)] [0, 1, 2, 3, 4, 5] rfl ?_
  unfold G11_letter at h
  refine x_aload_n C rfl 0 rfl dX11_letter_0 ?_
  refine x_getR (r := 1) C (j := 0) ob0.1 ob0.2 (Nat.le_of_ble_eq_true rfl) (Nat.le_of_ble_eq_true rfl) (fun _ _ _ => rfl) r_0_0 tw_2_163 dX11_letter_1 ?_
  refine x_iload_n C rfl 1 rfl dX11_letter_4 ?_
  refine x_callVN (dC := G10_isHouse_dep) (as := [.int v1]) (st := []) C rX kX (Nat.le_trans (Nat.le_of_ble_eq_true rfl) hd) (Nat.le_of_ble_eq_true rfl) ob1.1 ob1.2 (Nat.le_of_ble_eq_true rfl) rfl ts_1_2 tw_2_216 tw_2_214 tc_2_217 tw_1_2 hyX10 hnX10_isHouse rfl (Nat.le_of_ble_eq_true rfl) dX11_letter_5 (G10_isHouse_met C.2.2.2.2.2.2.2.1 (Nat.le_refl _)  h) (fun r0 μ15 hq => ?_)
  obtain ⟨r16, rfl, h⟩ := hq
  refine x_st [.int r16] rfl ?_
  refine x_if_eq (tgt := 59) C dX11_letter_8 (by decide) (fun c17 => ?_) (fun c17 => ?_)
  · have h := h.1 c17
    exact G11_letter_J59_ok C hd hr  h
  · have h := h.2 c17
    refine x_aload_n C rfl 0 rfl dX11_letter_11 ?_
    refine x_getR (r := 1) C (j := 0) ob0.1 ob0.2 (Nat.le_of_ble_eq_true rfl) (Nat.le_of_ble_eq_true rfl) (fun _ _ _ => rfl) r_0_0 tw_2_163 dX11_letter_12 ?_
    refine x_iload_n C rfl 2 rfl dX11_letter_15 ?_
    refine x_callVN (dC := G10_isName_dep) (as := [.int v2]) (st := []) C rX kX (Nat.le_trans (Nat.le_of_ble_eq_true rfl) hd) (Nat.le_of_ble_eq_true rfl) ob1.1 ob1.2 (Nat.le_of_ble_eq_true rfl) rfl ts_1_3 tw_2_220 tw_2_218 tc_2_221 tw_1_2 hyX10 hnX10_isName rfl (Nat.le_of_ble_eq_true rfl) dX11_letter_16 (G10_isName_met C.2.2.2.2.2.2.2.1 (Nat.le_refl _)  h) (fun r0 μ26 hq => ?_)
    obtain ⟨r27, rfl, h⟩ := hq
    refine x_st [.int r27] rfl ?_
    refine x_if_eq (tgt := 59) C dX11_letter_19 (by decide) (fun c28 => ?_) (fun c28 => ?_)
    · have h := h.1 c28
      exact G11_letter_J59_ok C hd hr  h
    · have h := h.2 c28
      refine x_iload_n C rfl 3 rfl dX11_letter_22 ?_
      refine x_iconst (v := 0) C (by decide) dX11_letter_23 ?_
      refine x_bipush (v := 99) C (by decide) dX11_letter_24 ?_
      refine x_callS (dC := G11_within_dep) (as := [.int v3, .int 0, .int 99]) (st := []) C rX kX (Nat.le_trans (Nat.le_of_ble_eq_true rfl) hd) (Nat.le_of_ble_eq_true rfl) tw_2_196 tw_2_195 tc_2_197 tw_1_1 hyX11 hnX11_within rfl (Nat.le_of_ble_eq_true rfl) dX11_letter_26 (G11_within_met C.2.2.2.2.2.2.2.1 (Nat.le_refl _)  h) (fun r0 μ29 hq => ?_)
      obtain ⟨r30, rfl, h⟩ := hq
      refine x_st [.int r30] rfl ?_
      refine x_if_eq (tgt := 59) C dX11_letter_29 (by decide) (fun c31 => ?_) (fun c31 => ?_)
      · have h := h.1 c31
        exact G11_letter_J59_ok C hd hr  h
      · have h := h.2 c31
        refine x_iload C 4 rfl dX11_letter_32 ?_
        refine x_iconst (v := 0) C (by decide) dX11_letter_34 ?_
        refine x_bipush (v := 39) C (by decide) dX11_letter_35 ?_
        refine x_callS (dC := G11_within_dep) (as := [.int v4, .int 0, .int 39]) (st := []) C rX kX (Nat.le_trans (Nat.le_of_ble_eq_true rfl) hd) (Nat.le_of_ble_eq_true rfl) tw_2_196 tw_2_195 tc_2_197 tw_1_1 hyX11 hnX11_within rfl (Nat.le_of_ble_eq_true rfl) dX11_letter_37 (G11_within_met C.2.2.2.2.2.2.2.1 (Nat.le_refl _)  h) (fun r0 μ32 hq => ?_)
        obtain ⟨r33, rfl, h⟩ := hq
        refine x_st [.int r33] rfl ?_
        refine x_if_eq (tgt := 59) C dX11_letter_40 (by decide) (fun c34 => ?_) (fun c34 => ?_)
        · have h := h.1 c34
          exact G11_letter_J59_ok C hd hr  h
        · have h := h.2 c34
          refine x_iload C 5 rfl dX11_letter_43 ?_
          refine x_iconst (v := 0) C (by decide) dX11_letter_45 ?_
          refine x_sipush (v := 399) C (by decide) dX11_letter_46 ?_
          refine x_callS (dC := G11_within_dep) (as := [.int v5, .int 0, .int 399]) (st := []) C rX kX (Nat.le_trans (Nat.le_of_ble_eq_true rfl) hd) (Nat.le_of_ble_eq_true rfl) tw_2_196 tw_2_195 tc_2_197 tw_1_1 hyX11 hnX11_within rfl (Nat.le_of_ble_eq_true rfl) dX11_letter_49 (G11_within_met C.2.2.2.2.2.2.2.1 (Nat.le_refl _)  h) (fun r0 μ35 hq => ?_)
          obtain ⟨r36, rfl, h⟩ := hq
          refine x_st [.int r36] rfl ?_
          refine x_if_eq (tgt := 59) C dX11_letter_52 (by decide) (fun c37 => ?_) (fun c37 => ?_)
          · have h := h.1 c37
            exact G11_letter_J59_ok C hd hr  h
          · have h := h.2 c37
            refine x_iconst (v := 1) C (by decide) dX11_letter_55 ?_
            refine x_goto (tgt := 60) C dX11_letter_56 (by decide) ?_
            exact G11_letter_J60_ok C hd hr  h
set_option maxHeartbeats 4000000 in
set_option maxRecDepth 100000 in
theorem G10_draw_met {l : Launch} {φ : Nat → Nat} {tc : Nat → ClassId} {D : va_G} {s0 : State} (hG : GX φ tc D s0) {dR : Nat} (hd : G10_draw_dep ≤ dR) {v1 : Int32} {μ : MM} {Q : Int32 → MM → Prop}  (h : G10_draw v1 μ Q) : MX l φ tc D s0 dR yX10_draw cX10_draw 2 (some .int) [.ref 1, .int v1] μ (QI Q) := by
  refine MX.of (own := RX10) hG plX10 rfl (Nat.le_of_ble_eq_true rfl) (fun p e s m args below meth c C hr => ?_)
  refine x_sub [(0, .ref 1), (1, .int v1)] [0, 1] rfl ?_
  unfold G10_draw at h
  refine x_aload_n C rfl 0 rfl dX10_draw_0 ?_
  refine x_aload_n C rfl 0 rfl dX10_draw_1 ?_
  refine x_getI C (j := 14) ob1.1 ob1.2 (Nat.le_of_ble_eq_true rfl) (Nat.le_of_ble_eq_true rfl) (Or.inl rfl) tw_1_162 dX10_draw_2 ?_
  refine x_ldc (v := 1103515245) C tw_3_12 dX10_draw_5 ?_
  refine x_imul C dX10_draw_7 ?_
  refine x_sipush (v := 12345) C (by decide) dX10_draw_8 ?_
  refine x_iadd C dX10_draw_11 ?_
  refine x_putI C (j := 14) ob1.1 ob1.2 (Nat.le_of_ble_eq_true rfl) (Nat.le_of_ble_eq_true rfl) (Or.inl rfl) rfl rfl rfl tw_1_162 dX10_draw_12 ?_
  refine x_mu (fun μ3 e_μ3 => ?_)
  have h := h μ3 e_μ3
  refine x_iload_n C rfl 1 rfl dX10_draw_15 ?_
  refine x_if_le (tgt := 31) C dX10_draw_16 (by decide) (fun c4 => ?_) (fun c4 => ?_)
  · have h := h.1 c4
    refine x_iconst (v := 0) C (by decide) dX10_draw_31 ?_
    exact x_iret C hr dX10_draw_32 ⟨_, rfl, h⟩
  · have h := h.2 c4
    refine x_aload_n C rfl 0 rfl dX10_draw_19 ?_
    refine x_getI C (j := 14) ob1.1 ob1.2 (Nat.le_of_ble_eq_true rfl) (Nat.le_of_ble_eq_true rfl) (Or.inl rfl) tw_1_162 dX10_draw_20 ?_
    refine x_bipush (v := 16) C (by decide) dX10_draw_23 ?_
    refine x_iushr C dX10_draw_25 ?_
    refine x_iload_n C rfl 1 rfl dX10_draw_26 ?_
    obtain ⟨c5, h⟩ := h
    refine x_irem C c5 dX10_draw_27 ?_
    refine x_goto (tgt := 32) C dX10_draw_28 (by decide) ?_
    exact x_iret C hr dX10_draw_32 ⟨_, rfl, h⟩
set_option maxHeartbeats 4000000 in
set_option maxRecDepth 100000 in
theorem G10_isFree_L3_b {p : Program} {e : Env} {s : State} {m : MethodId} {args : Array Value} {below : List Frame} {meth : Method} {c : Code} {l : Launch} {φ : Nat → Nat} {tc : Nat → ClassId} {D : va_G} {s0 : State} {dR : Nat} (C : CX p s m args meth c φ tc D (AX φ) s0 cX10_isFree RX10 5) (hd : G10_isFree_dep ≤ dR) (hr : meth.sig.returnType = (some .boolean))  {p1 : Int32} {p2 : Int32} {p3 : Int32} {Q : Int32 → MM → Prop} {K3 : Int32 × MM → Prop} {x : Int32 × MM}   (hK3 : ∀ (z4 : Int32) (zμ : MM), K3 (z4, zμ) → WX p l e (rmX dR) s m args below meth c φ tc D (AX φ) 5 0 0 (MQ below (QX φ tc D (QI Q)) args s 0 0 (AX φ)) 3 [(0, .ref 1), (1, .int p1), (2, .int p2), (3, .int p3), (4, .int z4)] [] zμ) (h : G10_isFree_L3 p1 p2 p3 Q K3 x) : WX p l e (rmX dR) s m args below meth c φ tc D (AX φ) 5 0 0 (MQ below (QX φ tc D (QI Q)) args s 0 0 (AX φ)) 3 [(0, .ref 1), (1, .int p1), (2, .int p2), (3, .int p3), (4, .int x.1)] [] x.2 := by
  unfold G10_isFree_L3 at h
  refine x_iload C 4 rfl dX10_isFree_3 ?_
  refine x_aload_n C rfl 0 rfl dX10_isFree_5 ?_
  refine x_getI C (j := 10) ob1.1 ob1.2 (Nat.le_of_ble_eq_true rfl) (Nat.le_of_ble_eq_true rfl) (Or.inl rfl) tw_1_153 dX10_isFree_6 ?_
  refine x_icmp_ge (tgt := 48) C dX10_isFree_9 (by decide) (fun c4 => ?_) (fun c4 => ?_)
  · have h := h.1 c4
    refine x_aload_n C rfl 0 rfl dX10_isFree_48 ?_
    refine x_getR (r := 2) C (j := 0) ob1.1 ob1.2 (Nat.le_of_ble_eq_true rfl) (Nat.le_of_ble_eq_true rfl) (fun _ _ _ => rfl) r_1_0 tw_1_122 dX10_isFree_49 ?_
    refine x_iload_n C rfl 1 rfl dX10_isFree_52 ?_
    obtain ⟨c5, h⟩ := h
    refine x_iald C ob2.1 ob2.2 c5 rfl dX10_isFree_53 ?_
    refine x_iload_n C rfl 3 rfl dX10_isFree_54 ?_
    refine x_icmp_ne (tgt := 62) C dX10_isFree_55 (by decide) (fun c6 => ?_) (fun c6 => ?_)
    · have h := h.1 c6
      refine x_iconst (v := 0) C (by decide) dX10_isFree_62 ?_
      exact x_zret C hr bo_0 dX10_isFree_63 ⟨_, rfl, h⟩
    · have h := h.2 c6
      refine x_iconst (v := 1) C (by decide) dX10_isFree_58 ?_
      refine x_goto (tgt := 63) C dX10_isFree_59 (by decide) ?_
      exact x_zret C hr bo_1 dX10_isFree_63 ⟨_, rfl, h⟩
  · have h := h.2 c4
    refine x_aload_n C rfl 0 rfl dX10_isFree_12 ?_
    refine x_getR (r := 9) C (j := 9) ob1.1 ob1.2 (Nat.le_of_ble_eq_true rfl) (Nat.le_of_ble_eq_true rfl) (fun _ _ _ => rfl) r_1_9 tw_1_143 dX10_isFree_13 ?_
    refine x_iload C 4 rfl dX10_isFree_16 ?_
    obtain ⟨c7, h⟩ := h
    refine x_aald (r := (19 + x.1.toNatClampNeg)) C ob9.1 (by decide) (by decide) c7 rfl (rA9 c7) dX10_isFree_18 ?_
    refine x_getIN C (j := 0) (obA9 c7).1 (obA9 c7).2 (Nat.le_of_ble_eq_true rfl) (Nat.le_of_ble_eq_true rfl) (Or.inl rfl) tw_1_54 dX10_isFree_19 ?_
    refine x_iload_n C rfl 2 rfl dX10_isFree_22 ?_
    refine x_icmp_ne (tgt := 42) C dX10_isFree_23 (by decide) (fun c8 => ?_) (fun c8 => ?_)
    · have h := h.1 c8
      refine x_iinc (v := (x.1 + 1)) C [(4, .int (x.1 + 1)), (0, .ref 1), (1, .int p1), (2, .int p2), (3, .int p3)] 4 rfl (congrArg (fun z => x.1 + z) (by decide : Int32.ofInt (1) = 1)) (Nat.le_of_ble_eq_true rfl) rfl dX10_isFree_42 ?_
      refine x_goto (tgt := 3) C dX10_isFree_45 (by decide) ?_
      refine x_sub [(0, .ref 1), (1, .int p1), (2, .int p2), (3, .int p3), (4, .int (x.1 + 1))] [1, 2, 3, 4, 0] rfl ?_
      exact hK3 _ _ h
    · have h := h.2 c8
      refine x_aload_n C rfl 0 rfl dX10_isFree_26 ?_
      refine x_getR (r := 9) C (j := 9) ob1.1 ob1.2 (Nat.le_of_ble_eq_true rfl) (Nat.le_of_ble_eq_true rfl) (fun _ _ _ => rfl) r_1_9 tw_1_143 dX10_isFree_27 ?_
      refine x_iload C 4 rfl dX10_isFree_30 ?_
      obtain ⟨c9, h⟩ := h
      refine x_aald (r := (19 + x.1.toNatClampNeg)) C ob9.1 (by decide) (by decide) c9 rfl (rA9 c9) dX10_isFree_32 ?_
      refine x_getIN C (j := 1) (obA9 c9).1 (obA9 c9).2 (Nat.le_of_ble_eq_true rfl) (Nat.le_of_ble_eq_true rfl) (Or.inl rfl) tw_1_56 dX10_isFree_33 ?_
      refine x_iload_n C rfl 1 rfl dX10_isFree_36 ?_
      refine x_icmp_ne (tgt := 42) C dX10_isFree_37 (by decide) (fun c10 => ?_) (fun c10 => ?_)
      · have h := h.1 c10
        refine x_iinc (v := (x.1 + 1)) C [(4, .int (x.1 + 1)), (0, .ref 1), (1, .int p1), (2, .int p2), (3, .int p3)] 4 rfl (congrArg (fun z => x.1 + z) (by decide : Int32.ofInt (1) = 1)) (Nat.le_of_ble_eq_true rfl) rfl dX10_isFree_42 ?_
        refine x_goto (tgt := 3) C dX10_isFree_45 (by decide) ?_
        refine x_sub [(0, .ref 1), (1, .int p1), (2, .int p2), (3, .int p3), (4, .int (x.1 + 1))] [1, 2, 3, 4, 0] rfl ?_
        exact hK3 _ _ h
      · have h := h.2 c10
        refine x_iconst (v := 0) C (by decide) dX10_isFree_40 ?_
        exact x_zret C hr bo_0 dX10_isFree_41 ⟨_, rfl, h⟩
theorem G10_isFree_L3_ok {p : Program} {e : Env} {s : State} {m : MethodId} {args : Array Value} {below : List Frame} {meth : Method} {c : Code} {l : Launch} {φ : Nat → Nat} {tc : Nat → ClassId} {D : va_G} {s0 : State} {dR : Nat} (C : CX p s m args meth c φ tc D (AX φ) s0 cX10_isFree RX10 5) (hd : G10_isFree_dep ≤ dR) (hr : meth.sig.returnType = (some .boolean))  {p1 : Int32} {p2 : Int32} {p3 : Int32} {Q : Int32 → MM → Prop}  {x : Int32 × MM}    (h : Lp (G10_isFree_L3 p1 p2 p3 Q) x) : WX p l e (rmX dR) s m args below meth c φ tc D (AX φ) 5 0 0 (MQ below (QX φ tc D (QI Q)) args s 0 0 (AX φ)) 3 [(0, .ref 1), (1, .int p1), (2, .int p2), (3, .int p3), (4, .int x.1)] [] x.2 := by
  obtain ⟨n, h⟩ := h
  induction n generalizing x with
  | zero => exact h.elim
  | succ n ih => exact G10_isFree_L3_b C hd hr   (fun z4 zμ hz => by have q := ih hz; exact q) h
set_option maxHeartbeats 4000000 in
set_option maxRecDepth 100000 in
theorem G10_isFree_met {l : Launch} {φ : Nat → Nat} {tc : Nat → ClassId} {D : va_G} {s0 : State} (hG : GX φ tc D s0) {dR : Nat} (hd : G10_isFree_dep ≤ dR) {v1 : Int32} {v2 : Int32} {v3 : Int32} {μ : MM} {Q : Int32 → MM → Prop}  (h : G10_isFree v1 v2 v3 μ Q) : MX l φ tc D s0 dR yX10_isFree cX10_isFree 5 (some .boolean) [.ref 1, .int v1, .int v2, .int v3] μ (QI Q) := by
  refine MX.of (own := RX10) hG plX10 rfl (Nat.le_of_ble_eq_true rfl) (fun p e s m args below meth c C hr => ?_)
  refine x_sub [(0, .ref 1), (1, .int v1), (2, .int v2), (3, .int v3)] [0, 1, 2, 3] rfl ?_
  unfold G10_isFree at h
  refine x_iconst (v := 0) C (by decide) dX10_isFree_0 ?_
  refine x_istore C [(4, .int 0), (0, .ref 1), (1, .int v1), (2, .int v2), (3, .int v3)] (Nat.le_of_ble_eq_true rfl) rfl dX10_isFree_1 ?_
  refine x_sub [(0, .ref 1), (1, .int v1), (2, .int v2), (3, .int v3), (4, .int 0)] [1, 2, 3, 4, 0] rfl ?_
  exact G10_isFree_L3_ok C hd hr  h
set_option maxHeartbeats 4000000 in
set_option maxRecDepth 100000 in
theorem G10_drawName_L49_b {p : Program} {e : Env} {s : State} {m : MethodId} {args : Array Value} {below : List Frame} {meth : Method} {c : Code} {l : Launch} {φ : Nat → Nat} {tc : Nat → ClassId} {D : va_G} {s0 : State} {dR : Nat} (C : CX p s m args meth c φ tc D (AX φ) s0 cX10_drawName RX10 6) (hd : G10_drawName_dep ≤ dR) (hr : meth.sig.returnType = (some .int))  {p1 : Int32} {p2 : Int32} {Q : Int32 → MM → Prop} {K49 : Int32 × Int32 × MM → Prop} {x : Int32 × Int32 × MM}   (hK49 : ∀ (z4 : Int32) (z5 : Int32) (zμ : MM), K49 (z4, z5, zμ) → WX p l e (rmX dR) s m args below meth c φ tc D (AX φ) 6 0 0 (MQ below (QX φ tc D (QI Q)) args s 0 0 (AX φ)) 49 [(0, .ref 1), (1, .int p1), (2, .int p2), (4, .int z4), (5, .int z5)] [] zμ) (h : G10_drawName_L49 p1 p2 Q K49 x) : WX p l e (rmX dR) s m args below meth c φ tc D (AX φ) 6 0 0 (MQ below (QX φ tc D (QI Q)) args s 0 0 (AX φ)) 49 [(0, .ref 1), (1, .int p1), (2, .int p2), (4, .int x.1), (5, .int x.2.1)] [] x.2.2 := by
  unfold G10_drawName_L49 at h
  refine x_iload C 4 rfl dX10_drawName_49 ?_
  refine x_aload_n C rfl 0 rfl dX10_drawName_51 ?_
  refine x_getI C (j := 4) ob1.1 ob1.2 (Nat.le_of_ble_eq_true rfl) (Nat.le_of_ble_eq_true rfl) (Or.inl rfl) tw_1_130 dX10_drawName_52 ?_
  refine x_icmp_ge (tgt := 86) C dX10_drawName_55 (by decide) (fun c12 => ?_) (fun c12 => ?_)
  · have h := h.1 c12
    refine x_iconst (v := 0) C (by decide) dX10_drawName_86 ?_
    exact x_iret C hr dX10_drawName_87 ⟨_, rfl, h⟩
  · have h := h.2 c12
    refine x_aload_n C rfl 0 rfl dX10_drawName_58 ?_
    refine x_iload C 4 rfl dX10_drawName_59 ?_
    refine x_iload_n C rfl 1 rfl dX10_drawName_61 ?_
    refine x_iload_n C rfl 2 rfl dX10_drawName_62 ?_
    refine x_callV (dC := G10_isFree_dep) (as := [.int x.2.1, .int p1, .int p2]) (st := []) C rX kX (Nat.le_trans (Nat.le_of_ble_eq_true rfl) hd) (Nat.le_of_ble_eq_true rfl) ob1.1 ob1.2 (Nat.le_of_ble_eq_true rfl) rfl ts_1_11 tw_3_19 tw_3_17 tc_3_20 tw_1_2 hyX10 hnX10_isFree rfl (Nat.le_of_ble_eq_true rfl) dX10_drawName_63 (G10_isFree_met C.2.2.2.2.2.2.2.1 (Nat.le_refl _)  h) (fun r0 μ13 hq => ?_)
    obtain ⟨r14, rfl, h⟩ := hq
    refine x_st [.int r14] rfl ?_
    refine x_if_eq (tgt := 80) C dX10_drawName_66 (by decide) (fun c15 => ?_) (fun c15 => ?_)
    · have h := h.1 c15
      refine x_iinc (v := (x.2.1 + 1)) C [(5, .int (x.2.1 + 1)), (0, .ref 1), (1, .int p1), (2, .int p2), (4, .int x.1)] 4 rfl (congrArg (fun z => x.2.1 + z) (by decide : Int32.ofInt (1) = 1)) (Nat.le_of_ble_eq_true rfl) rfl dX10_drawName_80 ?_
      refine x_goto (tgt := 49) C dX10_drawName_83 (by decide) ?_
      refine x_sub [(0, .ref 1), (1, .int p1), (2, .int p2), (4, .int x.1), (5, .int (x.2.1 + 1))] [1, 2, 3, 4, 0] rfl ?_
      exact hK49 _ _ _ h
    · have h := h.2 c15
      refine x_iload C 3 rfl dX10_drawName_69 ?_
      refine x_if_ne (tgt := 77) C dX10_drawName_71 (by decide) (fun c16 => ?_) (fun c16 => ?_)
      · have h := h.1 c16
        refine x_iinc (v := (x.1 + (-1))) C [(4, .int (x.1 + (-1))), (0, .ref 1), (1, .int p1), (2, .int p2), (5, .int x.2.1)] 3 rfl (congrArg (fun z => x.1 + z) (by decide : Int32.ofInt (-1) = (-1))) (Nat.le_of_ble_eq_true rfl) rfl dX10_drawName_77 ?_
        refine x_iinc (v := (x.2.1 + 1)) C [(5, .int (x.2.1 + 1)), (4, .int (x.1 + (-1))), (0, .ref 1), (1, .int p1), (2, .int p2)] 4 rfl (congrArg (fun z => x.2.1 + z) (by decide : Int32.ofInt (1) = 1)) (Nat.le_of_ble_eq_true rfl) rfl dX10_drawName_80 ?_
        refine x_goto (tgt := 49) C dX10_drawName_83 (by decide) ?_
        refine x_sub [(0, .ref 1), (1, .int p1), (2, .int p2), (4, .int (x.1 + (-1))), (5, .int (x.2.1 + 1))] [2, 3, 4, 1, 0] rfl ?_
        exact hK49 _ _ _ h
      · have h := h.2 c16
        refine x_iload C 4 rfl dX10_drawName_74 ?_
        exact x_iret C hr dX10_drawName_76 ⟨_, rfl, h⟩
theorem G10_drawName_L49_ok {p : Program} {e : Env} {s : State} {m : MethodId} {args : Array Value} {below : List Frame} {meth : Method} {c : Code} {l : Launch} {φ : Nat → Nat} {tc : Nat → ClassId} {D : va_G} {s0 : State} {dR : Nat} (C : CX p s m args meth c φ tc D (AX φ) s0 cX10_drawName RX10 6) (hd : G10_drawName_dep ≤ dR) (hr : meth.sig.returnType = (some .int))  {p1 : Int32} {p2 : Int32} {Q : Int32 → MM → Prop}  {x : Int32 × Int32 × MM}    (h : Lp (G10_drawName_L49 p1 p2 Q) x) : WX p l e (rmX dR) s m args below meth c φ tc D (AX φ) 6 0 0 (MQ below (QX φ tc D (QI Q)) args s 0 0 (AX φ)) 49 [(0, .ref 1), (1, .int p1), (2, .int p2), (4, .int x.1), (5, .int x.2.1)] [] x.2.2 := by
  obtain ⟨n, h⟩ := h
  induction n generalizing x with
  | zero => exact h.elim
  | succ n ih => exact G10_drawName_L49_b C hd hr   (fun z4 z5 zμ hz => by have q := ih hz; exact q) h
set_option maxHeartbeats 4000000 in
set_option maxRecDepth 100000 in
theorem G10_drawName_L5_b {p : Program} {e : Env} {s : State} {m : MethodId} {args : Array Value} {below : List Frame} {meth : Method} {c : Code} {l : Launch} {φ : Nat → Nat} {tc : Nat → ClassId} {D : va_G} {s0 : State} {dR : Nat} (C : CX p s m args meth c φ tc D (AX φ) s0 cX10_drawName RX10 6) (hd : G10_drawName_dep ≤ dR) (hr : meth.sig.returnType = (some .int))  {p1 : Int32} {p2 : Int32} {Q : Int32 → MM → Prop} {K5 : Int32 × Int32 × MM → Prop} {x : Int32 × Int32 × MM}   (hK5 : ∀ (z3 : Int32) (z4 : Int32) (zμ : MM), K5 (z3, z4, zμ) → WX p l e (rmX dR) s m args below meth c φ tc D (AX φ) 6 0 0 (MQ below (QX φ tc D (QI Q)) args s 0 0 (AX φ)) 5 [(0, .ref 1), (1, .int p1), (2, .int p2), (3, .int z3), (4, .int z4)] [] zμ) (h : G10_drawName_L5 p1 p2 Q K5 x) : WX p l e (rmX dR) s m args below meth c φ tc D (AX φ) 6 0 0 (MQ below (QX φ tc D (QI Q)) args s 0 0 (AX φ)) 5 [(0, .ref 1), (1, .int p1), (2, .int p2), (3, .int x.1), (4, .int x.2.1)] [] x.2.2 := by
  unfold G10_drawName_L5 at h
  refine x_iload C 4 rfl dX10_drawName_5 ?_
  refine x_aload_n C rfl 0 rfl dX10_drawName_7 ?_
  refine x_getI C (j := 4) ob1.1 ob1.2 (Nat.le_of_ble_eq_true rfl) (Nat.le_of_ble_eq_true rfl) (Or.inl rfl) tw_1_130 dX10_drawName_8 ?_
  refine x_icmp_ge (tgt := 39) C dX10_drawName_11 (by decide) (fun c9 => ?_) (fun c9 => ?_)
  · have h := h.1 c9
    refine x_aload_n C rfl 0 rfl dX10_drawName_39 ?_
    refine x_iload_n C rfl 3 rfl dX10_drawName_40 ?_
    refine x_callV (dC := G10_draw_dep) (as := [.int x.1]) (st := []) C rX kX (Nat.le_trans (Nat.le_of_ble_eq_true rfl) hd) (Nat.le_of_ble_eq_true rfl) ob1.1 ob1.2 (Nat.le_of_ble_eq_true rfl) rfl ts_1_9 tw_3_10 tw_3_8 tc_3_11 tw_1_2 hyX10 hnX10_draw rfl (Nat.le_of_ble_eq_true rfl) dX10_drawName_41 (G10_draw_met C.2.2.2.2.2.2.2.1 (Nat.le_refl _)  h) (fun r0 μ10 hq => ?_)
    obtain ⟨r11, rfl, h⟩ := hq
    refine x_st [.int r11] rfl ?_
    refine x_istore C [(4, .int r11), (0, .ref 1), (1, .int p1), (2, .int p2), (3, .int x.1)] (Nat.le_of_ble_eq_true rfl) rfl dX10_drawName_44 ?_
    refine x_iconst (v := 0) C (by decide) dX10_drawName_46 ?_
    refine x_istore C [(5, .int 0), (4, .int r11), (0, .ref 1), (1, .int p1), (2, .int p2), (3, .int x.1)] (Nat.le_of_ble_eq_true rfl) rfl dX10_drawName_47 ?_
    refine x_sub [(0, .ref 1), (1, .int p1), (2, .int p2), (4, .int r11), (5, .int 0)] [2, 3, 4, 1, 0] rfl ?_
    exact G10_drawName_L49_ok C hd hr  h
  · have h := h.2 c9
    refine x_iload_n C rfl 3 rfl dX10_drawName_14 ?_
    refine x_aload_n C rfl 0 rfl dX10_drawName_15 ?_
    refine x_iload C 4 rfl dX10_drawName_16 ?_
    refine x_iload_n C rfl 1 rfl dX10_drawName_18 ?_
    refine x_iload_n C rfl 2 rfl dX10_drawName_19 ?_
    refine x_callV (dC := G10_isFree_dep) (as := [.int x.2.1, .int p1, .int p2]) (st := [.int x.1]) C rX kX (Nat.le_trans (Nat.le_of_ble_eq_true rfl) hd) (Nat.le_of_ble_eq_true rfl) ob1.1 ob1.2 (Nat.le_of_ble_eq_true rfl) rfl ts_1_11 tw_3_19 tw_3_17 tc_3_20 tw_1_2 hyX10 hnX10_isFree rfl (Nat.le_of_ble_eq_true rfl) dX10_drawName_20 (G10_isFree_met C.2.2.2.2.2.2.2.1 (Nat.le_refl _)  h) (fun r0 μ17 hq => ?_)
    obtain ⟨r18, rfl, h⟩ := hq
    refine x_st [.int r18, .int x.1] rfl ?_
    refine x_if_eq (tgt := 30) C dX10_drawName_23 (by decide) (fun c19 => ?_) (fun c19 => ?_)
    · have h := h.1 c19
      refine x_iconst (v := 0) C (by decide) dX10_drawName_30 ?_
      refine x_iadd C dX10_drawName_31 ?_
      refine x_topi (fun y20 e_y20 => ?_)
      have h := h y20 e_y20
      refine x_istore_n C [(3, .int y20), (0, .ref 1), (1, .int p1), (2, .int p2), (4, .int x.2.1)] rfl (Nat.le_of_ble_eq_true rfl) rfl dX10_drawName_32 ?_
      refine x_iinc (v := (x.2.1 + 1)) C [(4, .int (x.2.1 + 1)), (3, .int y20), (0, .ref 1), (1, .int p1), (2, .int p2)] 4 rfl (congrArg (fun z => x.2.1 + z) (by decide : Int32.ofInt (1) = 1)) (Nat.le_of_ble_eq_true rfl) rfl dX10_drawName_33 ?_
      refine x_goto (tgt := 5) C dX10_drawName_36 (by decide) ?_
      refine x_sub [(0, .ref 1), (1, .int p1), (2, .int p2), (3, .int y20), (4, .int (x.2.1 + 1))] [2, 3, 4, 1, 0] rfl ?_
      exact hK5 _ _ _ h
    · have h := h.2 c19
      refine x_iconst (v := 1) C (by decide) dX10_drawName_26 ?_
      refine x_goto (tgt := 31) C dX10_drawName_27 (by decide) ?_
      refine x_iadd C dX10_drawName_31 ?_
      refine x_topi (fun y21 e_y21 => ?_)
      have h := h y21 e_y21
      refine x_istore_n C [(3, .int y21), (0, .ref 1), (1, .int p1), (2, .int p2), (4, .int x.2.1)] rfl (Nat.le_of_ble_eq_true rfl) rfl dX10_drawName_32 ?_
      refine x_iinc (v := (x.2.1 + 1)) C [(4, .int (x.2.1 + 1)), (3, .int y21), (0, .ref 1), (1, .int p1), (2, .int p2)] 4 rfl (congrArg (fun z => x.2.1 + z) (by decide : Int32.ofInt (1) = 1)) (Nat.le_of_ble_eq_true rfl) rfl dX10_drawName_33 ?_
      refine x_goto (tgt := 5) C dX10_drawName_36 (by decide) ?_
      refine x_sub [(0, .ref 1), (1, .int p1), (2, .int p2), (3, .int y21), (4, .int (x.2.1 + 1))] [2, 3, 4, 1, 0] rfl ?_
      exact hK5 _ _ _ h
theorem G10_drawName_L5_ok {p : Program} {e : Env} {s : State} {m : MethodId} {args : Array Value} {below : List Frame} {meth : Method} {c : Code} {l : Launch} {φ : Nat → Nat} {tc : Nat → ClassId} {D : va_G} {s0 : State} {dR : Nat} (C : CX p s m args meth c φ tc D (AX φ) s0 cX10_drawName RX10 6) (hd : G10_drawName_dep ≤ dR) (hr : meth.sig.returnType = (some .int))  {p1 : Int32} {p2 : Int32} {Q : Int32 → MM → Prop}  {x : Int32 × Int32 × MM}    (h : Lp (G10_drawName_L5 p1 p2 Q) x) : WX p l e (rmX dR) s m args below meth c φ tc D (AX φ) 6 0 0 (MQ below (QX φ tc D (QI Q)) args s 0 0 (AX φ)) 5 [(0, .ref 1), (1, .int p1), (2, .int p2), (3, .int x.1), (4, .int x.2.1)] [] x.2.2 := by
  obtain ⟨n, h⟩ := h
  induction n generalizing x with
  | zero => exact h.elim
  | succ n ih => exact G10_drawName_L5_b C hd hr   (fun z3 z4 zμ hz => by have q := ih hz; exact q) h
set_option maxHeartbeats 4000000 in
set_option maxRecDepth 100000 in
theorem G10_drawName_met {l : Launch} {φ : Nat → Nat} {tc : Nat → ClassId} {D : va_G} {s0 : State} (hG : GX φ tc D s0) {dR : Nat} (hd : G10_drawName_dep ≤ dR) {v1 : Int32} {v2 : Int32} {μ : MM} {Q : Int32 → MM → Prop}  (h : G10_drawName v1 v2 μ Q) : MX l φ tc D s0 dR yX10_drawName cX10_drawName 6 (some .int) [.ref 1, .int v1, .int v2] μ (QI Q) := by
  refine MX.of (own := RX10) hG plX10 rfl (Nat.le_of_ble_eq_true rfl) (fun p e s m args below meth c C hr => ?_)
  refine x_sub [(0, .ref 1), (1, .int v1), (2, .int v2)] [0, 1, 2] rfl ?_
  unfold G10_drawName at h
  refine x_iconst (v := 0) C (by decide) dX10_drawName_0 ?_
  refine x_istore_n C [(3, .int 0), (0, .ref 1), (1, .int v1), (2, .int v2)] rfl (Nat.le_of_ble_eq_true rfl) rfl dX10_drawName_1 ?_
  refine x_iconst (v := 0) C (by decide) dX10_drawName_2 ?_
  refine x_istore C [(4, .int 0), (3, .int 0), (0, .ref 1), (1, .int v1), (2, .int v2)] (Nat.le_of_ble_eq_true rfl) rfl dX10_drawName_3 ?_
  refine x_sub [(0, .ref 1), (1, .int v1), (2, .int v2), (3, .int 0), (4, .int 0)] [2, 3, 4, 1, 0] rfl ?_
  exact G10_drawName_L5_ok C hd hr  h
set_option maxHeartbeats 4000000 in
set_option maxRecDepth 100000 in
theorem G10_dealTo_J105_ok {p : Program} {e : Env} {s : State} {m : MethodId} {args : Array Value} {below : List Frame} {meth : Method} {c : Code} {l : Launch} {φ : Nat → Nat} {tc : Nat → ClassId} {D : va_G} {s0 : State} {dR : Nat} (C : CX p s m args meth c φ tc D (AX φ) s0 cX10_dealTo RX10 12) (hd : G10_dealTo_dep ≤ dR) (hr : meth.sig.returnType = (some .int))   {p1 : Int32} {p2 : Int32} {p3 : Int32} {p4 : Int32} {p5 : Int32} {p10 : Int32} {p11 : Int32} {q0 : Int32} {q1 : Int32} {q2 : Int32} {Q : Int32 → MM → Prop} {K15 : Int32 × MM → Prop} {μ : MM}   (hK15 : ∀ (z5 : Int32) (zμ : MM), K15 (z5, zμ) → WX p l e (rmX dR) s m args below meth c φ tc D (AX φ) 12 0 0 (MQ below (QX φ tc D (QI Q)) args s 0 0 (AX φ)) 15 [(0, .ref 1), (1, .int p1), (2, .int p2), (3, .int p3), (4, .int p4), (5, .int z5)] [] zμ) (h : G10_dealTo_J105 p1 p2 p3 p4 p5 p10 p11 q0 q1 q2 μ K15 Q) : WX p l e (rmX dR) s m args below meth c φ tc D (AX φ) 12 0 0 (MQ below (QX φ tc D (QI Q)) args s 0 0 (AX φ)) 105 [(0, .ref 1), (1, .int p1), (2, .int p2), (3, .int p3), (4, .int p4), (5, .int p5), (10, .int p10), (11, .int p11)] [.int q0, .int q1, .int q2, .ref 1] μ := by
  unfold G10_dealTo_J105 at h
  refine x_iload C 6 rfl dX10_dealTo_105 ?_
  refine x_iload C 7 rfl dX10_dealTo_107 ?_
  refine x_callV (dC := G10_addLetter_dep) (as := [.int q2, .int q1, .int q0, .int p10, .int p11]) (st := []) C rX kX (Nat.le_trans (Nat.le_of_ble_eq_true rfl) hd) (Nat.le_of_ble_eq_true rfl) ob1.1 ob1.2 (Nat.le_of_ble_eq_true rfl) rfl ts_1_5 tw_2_228 tw_3_21 tc_2_229 tw_1_2 hyX10 hnX10_addLetter rfl (Nat.le_of_ble_eq_true rfl) dX10_dealTo_109 (G10_addLetter_met C.2.2.2.2.2.2.2.1 (Nat.le_refl _)  h) (fun r0 μ29 hq => ?_)
  obtain ⟨r30, rfl, h⟩ := hq
  refine x_st [.int r30] rfl ?_
  refine x_pop C rfl dX10_dealTo_112 ?_
  refine x_iinc (v := (p5 + 1)) C [(5, .int (p5 + 1)), (0, .ref 1), (1, .int p1), (2, .int p2), (3, .int p3), (4, .int p4), (10, .int p10), (11, .int p11)] 5 rfl (congrArg (fun z => p5 + z) (by decide : Int32.ofInt (1) = 1)) (Nat.le_of_ble_eq_true rfl) rfl dX10_dealTo_113 ?_
  refine x_goto (tgt := 15) C dX10_dealTo_116 (by decide) ?_
  refine x_sub [(0, .ref 1), (1, .int p1), (2, .int p2), (3, .int p3), (4, .int p4), (5, .int (p5 + 1))] [1, 2, 3, 4, 5, 0] rfl ?_
  exact hK15 _ _ h
set_option maxHeartbeats 4000000 in
set_option maxRecDepth 100000 in
theorem G10_dealTo_J64_ok {p : Program} {e : Env} {s : State} {m : MethodId} {args : Array Value} {below : List Frame} {meth : Method} {c : Code} {l : Launch} {φ : Nat → Nat} {tc : Nat → ClassId} {D : va_G} {s0 : State} {dR : Nat} (C : CX p s m args meth c φ tc D (AX φ) s0 cX10_dealTo RX10 12) (hd : G10_dealTo_dep ≤ dR) (hr : meth.sig.returnType = (some .int))   {p1 : Int32} {p2 : Int32} {p3 : Int32} {p4 : Int32} {p5 : Int32} {p6 : Int32} {q0 : Int32} {Q : Int32 → MM → Prop} {K15 : Int32 × MM → Prop} {μ : MM}   (hK15 : ∀ (z5 : Int32) (zμ : MM), K15 (z5, zμ) → WX p l e (rmX dR) s m args below meth c φ tc D (AX φ) 12 0 0 (MQ below (QX φ tc D (QI Q)) args s 0 0 (AX φ)) 15 [(0, .ref 1), (1, .int p1), (2, .int p2), (3, .int p3), (4, .int p4), (5, .int z5)] [] zμ) (h : G10_dealTo_J64 p1 p2 p3 p4 p5 p6 q0 μ K15 Q) : WX p l e (rmX dR) s m args below meth c φ tc D (AX φ) 12 0 0 (MQ below (QX φ tc D (QI Q)) args s 0 0 (AX φ)) 64 [(0, .ref 1), (1, .int p1), (2, .int p2), (3, .int p3), (4, .int p4), (5, .int p5), (6, .int p6)] [.int q0] μ := by
  unfold G10_dealTo_J64 at h
  refine x_istore C [(8, .int q0), (0, .ref 1), (1, .int p1), (2, .int p2), (3, .int p3), (4, .int p4), (5, .int p5), (6, .int p6)] (Nat.le_of_ble_eq_true rfl) rfl dX10_dealTo_64 ?_
  refine x_aload_n C rfl 1 rfl dX10_dealTo_66 ?_
  refine x_iload_n C rfl 2 rfl dX10_dealTo_67 ?_
  refine x_iload C 7 rfl dX10_dealTo_68 ?_
  refine x_callV (dC := G10_drawName_dep) (as := [.int p1, .int p6]) (st := []) C rX kX (Nat.le_trans (Nat.le_of_ble_eq_true rfl) hd) (Nat.le_of_ble_eq_true rfl) ob1.1 ob1.2 (Nat.le_of_ble_eq_true rfl) rfl ts_1_10 tw_3_15 tw_3_13 tc_3_16 tw_1_2 hyX10 hnX10_drawName rfl (Nat.le_of_ble_eq_true rfl) dX10_dealTo_70 (G10_drawName_met C.2.2.2.2.2.2.2.1 (Nat.le_refl _)  h) (fun r0 μ22 hq => ?_)
  obtain ⟨r23, rfl, h⟩ := hq
  refine x_st [.int r23] rfl ?_
  refine x_istore C [(9, .int r23), (8, .int q0), (0, .ref 1), (1, .int p1), (2, .int p2), (3, .int p3), (4, .int p4), (5, .int p5), (6, .int p6)] (Nat.le_of_ble_eq_true rfl) rfl dX10_dealTo_73 ?_
  refine x_aload_n C rfl 2 rfl dX10_dealTo_75 ?_
  refine x_iconst (v := 4) C (by decide) dX10_dealTo_76 ?_
  refine x_callV (dC := G10_draw_dep) (as := [.int 4]) (st := []) C rX kX (Nat.le_trans (Nat.le_of_ble_eq_true rfl) hd) (Nat.le_of_ble_eq_true rfl) ob1.1 ob1.2 (Nat.le_of_ble_eq_true rfl) rfl ts_1_9 tw_3_10 tw_3_8 tc_3_11 tw_1_2 hyX10 hnX10_draw rfl (Nat.le_of_ble_eq_true rfl) dX10_dealTo_77 (G10_draw_met C.2.2.2.2.2.2.2.1 (Nat.le_refl _)  h) (fun r0 μ24 hq => ?_)
  obtain ⟨r25, rfl, h⟩ := hq
  refine x_st [.int r25] rfl ?_
  refine x_istore C [(10, .int r25), (9, .int r23), (8, .int q0), (0, .ref 1), (1, .int p1), (2, .int p2), (3, .int p3), (4, .int p4), (5, .int p5), (6, .int p6)] (Nat.le_of_ble_eq_true rfl) rfl dX10_dealTo_80 ?_
  refine x_aload_n C rfl 3 rfl dX10_dealTo_82 ?_
  refine x_sipush (v := 400) C (by decide) dX10_dealTo_83 ?_
  refine x_callV (dC := G10_draw_dep) (as := [.int 400]) (st := []) C rX kX (Nat.le_trans (Nat.le_of_ble_eq_true rfl) hd) (Nat.le_of_ble_eq_true rfl) ob1.1 ob1.2 (Nat.le_of_ble_eq_true rfl) rfl ts_1_9 tw_3_10 tw_3_8 tc_3_11 tw_1_2 hyX10 hnX10_draw rfl (Nat.le_of_ble_eq_true rfl) dX10_dealTo_86 (G10_draw_met C.2.2.2.2.2.2.2.1 (Nat.le_refl _)  h) (fun r0 μ26 hq => ?_)
  obtain ⟨r27, rfl, h⟩ := hq
  refine x_st [.int r27] rfl ?_
  refine x_istore C [(11, .int r27), (10, .int r25), (9, .int r23), (8, .int q0), (0, .ref 1), (1, .int p1), (2, .int p2), (3, .int p3), (4, .int p4), (5, .int p5), (6, .int p6)] (Nat.le_of_ble_eq_true rfl) rfl dX10_dealTo_89 ?_
  refine x_aload_n C rfl 4 rfl dX10_dealTo_91 ?_
  refine x_iload_n C rfl 5 rfl dX10_dealTo_92 ?_
  refine x_iload C 2 rfl dX10_dealTo_93 ?_
  refine x_iload C 3 rfl dX10_dealTo_95 ?_
  refine x_if_eq (tgt := 104) C dX10_dealTo_97 (by decide) (fun c28 => ?_) (fun c28 => ?_)
  · have h := h.1 c28
    refine x_iload_n C rfl 7 rfl dX10_dealTo_104 ?_
    refine x_sub [(0, .ref 1), (1, .int p1), (2, .int p2), (3, .int p3), (4, .int p4), (5, .int p5), (10, .int r25), (11, .int r27)] [4, 5, 6, 7, 8, 9, 1, 0] rfl ?_
    exact G10_dealTo_J105_ok C hd hr hK15 h
  · have h := h.2 c28
    refine x_iload_n C rfl 6 rfl dX10_dealTo_100 ?_
    refine x_goto (tgt := 105) C dX10_dealTo_101 (by decide) ?_
    refine x_sub [(0, .ref 1), (1, .int p1), (2, .int p2), (3, .int p3), (4, .int p4), (5, .int p5), (10, .int r25), (11, .int r27)] [4, 5, 6, 7, 8, 9, 1, 0] rfl ?_
    exact G10_dealTo_J105_ok C hd hr hK15 h
set_option maxHeartbeats 4000000 in
set_option maxRecDepth 100000 in
theorem G10_dealTo_J45_ok {p : Program} {e : Env} {s : State} {m : MethodId} {args : Array Value} {below : List Frame} {meth : Method} {c : Code} {l : Launch} {φ : Nat → Nat} {tc : Nat → ClassId} {D : va_G} {s0 : State} {dR : Nat} (C : CX p s m args meth c φ tc D (AX φ) s0 cX10_dealTo RX10 12) (hd : G10_dealTo_dep ≤ dR) (hr : meth.sig.returnType = (some .int))   {p1 : Int32} {p2 : Int32} {p3 : Int32} {p4 : Int32} {p5 : Int32} {p6 : Int32} {q0 : Int32} {Q : Int32 → MM → Prop} {K15 : Int32 × MM → Prop} {μ : MM}   (hK15 : ∀ (z5 : Int32) (zμ : MM), K15 (z5, zμ) → WX p l e (rmX dR) s m args below meth c φ tc D (AX φ) 12 0 0 (MQ below (QX φ tc D (QI Q)) args s 0 0 (AX φ)) 15 [(0, .ref 1), (1, .int p1), (2, .int p2), (3, .int p3), (4, .int p4), (5, .int z5)] [] zμ) (h : G10_dealTo_J45 p1 p2 p3 p4 p5 p6 q0 μ K15 Q) : WX p l e (rmX dR) s m args below meth c φ tc D (AX φ) 12 0 0 (MQ below (QX φ tc D (QI Q)) args s 0 0 (AX φ)) 45 [(0, .ref 1), (1, .int p1), (2, .int p2), (3, .int p3), (4, .int p4), (5, .int p5), (6, .int p6)] [.int q0] μ := by
  unfold G10_dealTo_J45 at h
  refine x_istore C [(7, .int q0), (0, .ref 1), (1, .int p1), (2, .int p2), (3, .int p3), (4, .int p4), (5, .int p5), (6, .int p6)] (Nat.le_of_ble_eq_true rfl) rfl dX10_dealTo_45 ?_
  refine x_iload C 0 rfl dX10_dealTo_47 ?_
  refine x_iconst (v := 1) C (by decide) dX10_dealTo_49 ?_
  refine x_iload C 6 rfl dX10_dealTo_50 ?_
  refine x_ishl C dX10_dealTo_52 ?_
  refine x_iconst (v := 1) C (by decide) dX10_dealTo_53 ?_
  refine x_isub C dX10_dealTo_54 ?_
  refine x_iand C dX10_dealTo_55 ?_
  refine x_if_ne (tgt := 63) C dX10_dealTo_56 (by decide) (fun c21 => ?_) (fun c21 => ?_)
  · have h := h.1 c21
    refine x_iconst (v := 0) C (by decide) dX10_dealTo_63 ?_
    refine x_sub [(0, .ref 1), (1, .int p1), (2, .int p2), (3, .int p3), (4, .int p4), (5, .int p5), (6, .int p6)] [1, 2, 3, 4, 5, 6, 7] rfl ?_
    exact G10_dealTo_J64_ok C hd hr hK15 h
  · have h := h.2 c21
    refine x_iconst (v := 1) C (by decide) dX10_dealTo_59 ?_
    refine x_goto (tgt := 64) C dX10_dealTo_60 (by decide) ?_
    refine x_sub [(0, .ref 1), (1, .int p1), (2, .int p2), (3, .int p3), (4, .int p4), (5, .int p5), (6, .int p6)] [1, 2, 3, 4, 5, 6, 7] rfl ?_
    exact G10_dealTo_J64_ok C hd hr hK15 h
set_option maxHeartbeats 4000000 in
set_option maxRecDepth 100000 in
theorem G10_dealTo_L15_b {p : Program} {e : Env} {s : State} {m : MethodId} {args : Array Value} {below : List Frame} {meth : Method} {c : Code} {l : Launch} {φ : Nat → Nat} {tc : Nat → ClassId} {D : va_G} {s0 : State} {dR : Nat} (C : CX p s m args meth c φ tc D (AX φ) s0 cX10_dealTo RX10 12) (hd : G10_dealTo_dep ≤ dR) (hr : meth.sig.returnType = (some .int))  {p1 : Int32} {p2 : Int32} {p3 : Int32} {p4 : Int32} {Q : Int32 → MM → Prop} {K15 : Int32 × MM → Prop} {x : Int32 × MM}   (hK15 : ∀ (z5 : Int32) (zμ : MM), K15 (z5, zμ) → WX p l e (rmX dR) s m args below meth c φ tc D (AX φ) 12 0 0 (MQ below (QX φ tc D (QI Q)) args s 0 0 (AX φ)) 15 [(0, .ref 1), (1, .int p1), (2, .int p2), (3, .int p3), (4, .int p4), (5, .int z5)] [] zμ) (h : G10_dealTo_L15 p1 p2 p3 p4 Q K15 x) : WX p l e (rmX dR) s m args below meth c φ tc D (AX φ) 12 0 0 (MQ below (QX φ tc D (QI Q)) args s 0 0 (AX φ)) 15 [(0, .ref 1), (1, .int p1), (2, .int p2), (3, .int p3), (4, .int p4), (5, .int x.1)] [] x.2 := by
  unfold G10_dealTo_L15 at h
  refine x_iload C 5 rfl dX10_dealTo_15 ?_
  refine x_iconst (v := 4) C (by decide) dX10_dealTo_17 ?_
  refine x_icmp_ge (tgt := 119) C dX10_dealTo_18 (by decide) (fun c18 => ?_) (fun c18 => ?_)
  · have h := h.1 c18
    refine x_aload_n C rfl 0 rfl dX10_dealTo_119 ?_
    refine x_getI C (j := 10) ob1.1 ob1.2 (Nat.le_of_ble_eq_true rfl) (Nat.le_of_ble_eq_true rfl) (Or.inl rfl) tw_1_153 dX10_dealTo_120 ?_
    exact x_iret C hr dX10_dealTo_123 ⟨_, rfl, h⟩
  · have h := h.2 c18
    refine x_iload C 4 rfl dX10_dealTo_21 ?_
    refine x_iload C 5 rfl dX10_dealTo_23 ?_
    refine x_ishr C dX10_dealTo_25 ?_
    refine x_iconst (v := 1) C (by decide) dX10_dealTo_26 ?_
    refine x_iand C dX10_dealTo_27 ?_
    refine x_topi (fun y19 e_y19 => ?_)
    have h := h y19 e_y19
    refine x_istore C [(6, .int y19), (0, .ref 1), (1, .int p1), (2, .int p2), (3, .int p3), (4, .int p4), (5, .int x.1)] (Nat.le_of_ble_eq_true rfl) rfl dX10_dealTo_28 ?_
    refine x_iload C 0 rfl dX10_dealTo_30 ?_
    refine x_iconst (v := 1) C (by decide) dX10_dealTo_32 ?_
    refine x_icmp_ne (tgt := 41) C dX10_dealTo_33 (by decide) (fun c20 => ?_) (fun c20 => ?_)
    · have h := h.1 c20
      refine x_iload C 5 rfl dX10_dealTo_41 ?_
      refine x_iconst (v := (-1)) C (by decide) dX10_dealTo_43 ?_
      refine x_ixor C dX10_dealTo_44 ?_
      refine x_sub [(0, .ref 1), (1, .int p1), (2, .int p2), (3, .int p3), (4, .int p4), (5, .int x.1), (6, .int y19)] [1, 2, 3, 4, 5, 6, 0] rfl ?_
      exact G10_dealTo_J45_ok C hd hr hK15 h
    · have h := h.2 c20
      refine x_iload C 5 rfl dX10_dealTo_36 ?_
      refine x_goto (tgt := 45) C dX10_dealTo_38 (by decide) ?_
      refine x_sub [(0, .ref 1), (1, .int p1), (2, .int p2), (3, .int p3), (4, .int p4), (5, .int x.1), (6, .int y19)] [1, 2, 3, 4, 5, 6, 0] rfl ?_
      exact G10_dealTo_J45_ok C hd hr hK15 h
theorem G10_dealTo_L15_ok {p : Program} {e : Env} {s : State} {m : MethodId} {args : Array Value} {below : List Frame} {meth : Method} {c : Code} {l : Launch} {φ : Nat → Nat} {tc : Nat → ClassId} {D : va_G} {s0 : State} {dR : Nat} (C : CX p s m args meth c φ tc D (AX φ) s0 cX10_dealTo RX10 12) (hd : G10_dealTo_dep ≤ dR) (hr : meth.sig.returnType = (some .int))  {p1 : Int32} {p2 : Int32} {p3 : Int32} {p4 : Int32} {Q : Int32 → MM → Prop}  {x : Int32 × MM}    (h : Lp (G10_dealTo_L15 p1 p2 p3 p4 Q) x) : WX p l e (rmX dR) s m args below meth c φ tc D (AX φ) 12 0 0 (MQ below (QX φ tc D (QI Q)) args s 0 0 (AX φ)) 15 [(0, .ref 1), (1, .int p1), (2, .int p2), (3, .int p3), (4, .int p4), (5, .int x.1)] [] x.2 := by
  obtain ⟨n, h⟩ := h
  induction n generalizing x with
  | zero => exact h.elim
  | succ n ih => exact G10_dealTo_L15_b C hd hr   (fun z5 zμ hz => by have q := ih hz; exact q) h
set_option maxHeartbeats 4000000 in
set_option maxRecDepth 100000 in
theorem G10_dealTo_met {l : Launch} {φ : Nat → Nat} {tc : Nat → ClassId} {D : va_G} {s0 : State} (hG : GX φ tc D s0) {dR : Nat} (hd : G10_dealTo_dep ≤ dR) {v1 : Int32} {v2 : Int32} {v3 : Int32} {μ : MM} {Q : Int32 → MM → Prop}  (h : G10_dealTo v1 v2 v3 μ Q) : MX l φ tc D s0 dR yX10_dealTo cX10_dealTo 12 (some .int) [.ref 1, .int v1, .int v2, .int v3] μ (QI Q) := by
  refine MX.of (own := RX10) hG plX10 rfl (Nat.le_of_ble_eq_true rfl) (fun p e s m args below meth c C hr => ?_)
  refine x_sub [(0, .ref 1), (1, .int v1), (2, .int v2), (3, .int v3)] [0, 1, 2, 3] rfl ?_
  unfold G10_dealTo at h
  refine x_gets2 C tw_3_6 dX10_dealTo_0 ?_
  refine x_aload_n C rfl 0 rfl dX10_dealTo_3 ?_
  refine x_bipush (v := 6) C (by decide) dX10_dealTo_4 ?_
  refine x_callV (dC := G10_draw_dep) (as := [.int 6]) (st := [.ref 700]) C rX kX (Nat.le_trans (Nat.le_of_ble_eq_true rfl) hd) (Nat.le_of_ble_eq_true rfl) ob1.1 ob1.2 (Nat.le_of_ble_eq_true rfl) rfl ts_1_9 tw_3_10 tw_3_8 tc_3_11 tw_1_2 hyX10 hnX10_draw rfl (Nat.le_of_ble_eq_true rfl) dX10_dealTo_6 (G10_draw_met C.2.2.2.2.2.2.2.1 (Nat.le_refl _)  h) (fun r0 μ14 hq => ?_)
  obtain ⟨r15, rfl, h⟩ := hq
  refine x_st [.int r15, .ref 700] rfl ?_
  obtain ⟨c16, h⟩ := h
  refine x_ald2 C c16 rfl dX10_dealTo_9 ?_
  refine x_topi (fun y17 e_y17 => ?_)
  have h := h y17 e_y17
  refine x_istore C [(4, .int y17), (0, .ref 1), (1, .int v1), (2, .int v2), (3, .int v3)] (Nat.le_of_ble_eq_true rfl) rfl dX10_dealTo_10 ?_
  refine x_iconst (v := 0) C (by decide) dX10_dealTo_12 ?_
  refine x_istore C [(5, .int 0), (4, .int y17), (0, .ref 1), (1, .int v1), (2, .int v2), (3, .int v3)] (Nat.le_of_ble_eq_true rfl) rfl dX10_dealTo_13 ?_
  refine x_sub [(0, .ref 1), (1, .int v1), (2, .int v2), (3, .int v3), (4, .int y17), (5, .int 0)] [2, 3, 4, 5, 1, 0] rfl ?_
  exact G10_dealTo_L15_ok C hd hr  h
set_option maxHeartbeats 4000000 in
set_option maxRecDepth 100000 in
theorem G10_namesOf_L4_b {p : Program} {e : Env} {s : State} {m : MethodId} {args : Array Value} {below : List Frame} {meth : Method} {c : Code} {l : Launch} {φ : Nat → Nat} {tc : Nat → ClassId} {D : va_G} {s0 : State} {dR : Nat} (C : CX p s m args meth c φ tc D (AX φ) s0 cX10_namesOf RX10 4) (hd : G10_namesOf_dep ≤ dR) (hr : meth.sig.returnType = (some .int))  {p1 : Int32} {Q : Int32 → MM → Prop} {K4 : Int32 × Int32 × MM → Prop} {x : Int32 × Int32 × MM}   (hK4 : ∀ (z2 : Int32) (z3 : Int32) (zμ : MM), K4 (z2, z3, zμ) → WX p l e (rmX dR) s m args below meth c φ tc D (AX φ) 4 0 0 (MQ below (QX φ tc D (QI Q)) args s 0 0 (AX φ)) 4 [(0, .ref 1), (1, .int p1), (2, .int z2), (3, .int z3)] [] zμ) (h : G10_namesOf_L4 p1 Q K4 x) : WX p l e (rmX dR) s m args below meth c φ tc D (AX φ) 4 0 0 (MQ below (QX φ tc D (QI Q)) args s 0 0 (AX φ)) 4 [(0, .ref 1), (1, .int p1), (2, .int x.1), (3, .int x.2.1)] [] x.2.2 := by
  unfold G10_namesOf_L4 at h
  refine x_iload_n C rfl 3 rfl dX10_namesOf_4 ?_
  refine x_aload_n C rfl 0 rfl dX10_namesOf_5 ?_
  refine x_getI C (j := 4) ob1.1 ob1.2 (Nat.le_of_ble_eq_true rfl) (Nat.le_of_ble_eq_true rfl) (Or.inl rfl) tw_1_130 dX10_namesOf_6 ?_
  refine x_icmp_ge (tgt := 36) C dX10_namesOf_9 (by decide) (fun c4 => ?_) (fun c4 => ?_)
  · have h := h.1 c4
    refine x_iload_n C rfl 2 rfl dX10_namesOf_36 ?_
    exact x_iret C hr dX10_namesOf_37 ⟨_, rfl, h⟩
  · have h := h.2 c4
    refine x_iload_n C rfl 2 rfl dX10_namesOf_12 ?_
    refine x_aload_n C rfl 0 rfl dX10_namesOf_13 ?_
    refine x_getR (r := 2) C (j := 0) ob1.1 ob1.2 (Nat.le_of_ble_eq_true rfl) (Nat.le_of_ble_eq_true rfl) (fun _ _ _ => rfl) r_1_0 tw_1_122 dX10_namesOf_14 ?_
    refine x_iload_n C rfl 3 rfl dX10_namesOf_17 ?_
    obtain ⟨c5, h⟩ := h
    refine x_iald C ob2.1 ob2.2 c5 rfl dX10_namesOf_18 ?_
    refine x_iload_n C rfl 1 rfl dX10_namesOf_19 ?_
    refine x_icmp_ne (tgt := 27) C dX10_namesOf_20 (by decide) (fun c6 => ?_) (fun c6 => ?_)
    · have h := h.1 c6
      refine x_iconst (v := 0) C (by decide) dX10_namesOf_27 ?_
      refine x_iadd C dX10_namesOf_28 ?_
      refine x_topi (fun y7 e_y7 => ?_)
      have h := h y7 e_y7
      refine x_istore_n C [(2, .int y7), (0, .ref 1), (1, .int p1), (3, .int x.2.1)] rfl (Nat.le_of_ble_eq_true rfl) rfl dX10_namesOf_29 ?_
      refine x_iinc (v := (x.2.1 + 1)) C [(3, .int (x.2.1 + 1)), (2, .int y7), (0, .ref 1), (1, .int p1)] 3 rfl (congrArg (fun z => x.2.1 + z) (by decide : Int32.ofInt (1) = 1)) (Nat.le_of_ble_eq_true rfl) rfl dX10_namesOf_30 ?_
      refine x_goto (tgt := 4) C dX10_namesOf_33 (by decide) ?_
      refine x_sub [(0, .ref 1), (1, .int p1), (2, .int y7), (3, .int (x.2.1 + 1))] [2, 3, 1, 0] rfl ?_
      exact hK4 _ _ _ h
    · have h := h.2 c6
      refine x_iconst (v := 1) C (by decide) dX10_namesOf_23 ?_
      refine x_goto (tgt := 28) C dX10_namesOf_24 (by decide) ?_
      refine x_iadd C dX10_namesOf_28 ?_
      refine x_topi (fun y8 e_y8 => ?_)
      have h := h y8 e_y8
      refine x_istore_n C [(2, .int y8), (0, .ref 1), (1, .int p1), (3, .int x.2.1)] rfl (Nat.le_of_ble_eq_true rfl) rfl dX10_namesOf_29 ?_
      refine x_iinc (v := (x.2.1 + 1)) C [(3, .int (x.2.1 + 1)), (2, .int y8), (0, .ref 1), (1, .int p1)] 3 rfl (congrArg (fun z => x.2.1 + z) (by decide : Int32.ofInt (1) = 1)) (Nat.le_of_ble_eq_true rfl) rfl dX10_namesOf_30 ?_
      refine x_goto (tgt := 4) C dX10_namesOf_33 (by decide) ?_
      refine x_sub [(0, .ref 1), (1, .int p1), (2, .int y8), (3, .int (x.2.1 + 1))] [2, 3, 1, 0] rfl ?_
      exact hK4 _ _ _ h
theorem G10_namesOf_L4_ok {p : Program} {e : Env} {s : State} {m : MethodId} {args : Array Value} {below : List Frame} {meth : Method} {c : Code} {l : Launch} {φ : Nat → Nat} {tc : Nat → ClassId} {D : va_G} {s0 : State} {dR : Nat} (C : CX p s m args meth c φ tc D (AX φ) s0 cX10_namesOf RX10 4) (hd : G10_namesOf_dep ≤ dR) (hr : meth.sig.returnType = (some .int))  {p1 : Int32} {Q : Int32 → MM → Prop}  {x : Int32 × Int32 × MM}    (h : Lp (G10_namesOf_L4 p1 Q) x) : WX p l e (rmX dR) s m args below meth c φ tc D (AX φ) 4 0 0 (MQ below (QX φ tc D (QI Q)) args s 0 0 (AX φ)) 4 [(0, .ref 1), (1, .int p1), (2, .int x.1), (3, .int x.2.1)] [] x.2.2 := by
  obtain ⟨n, h⟩ := h
  induction n generalizing x with
  | zero => exact h.elim
  | succ n ih => exact G10_namesOf_L4_b C hd hr   (fun z2 z3 zμ hz => by have q := ih hz; exact q) h
set_option maxHeartbeats 4000000 in
set_option maxRecDepth 100000 in
theorem G10_namesOf_met {l : Launch} {φ : Nat → Nat} {tc : Nat → ClassId} {D : va_G} {s0 : State} (hG : GX φ tc D s0) {dR : Nat} (hd : G10_namesOf_dep ≤ dR) {v1 : Int32} {μ : MM} {Q : Int32 → MM → Prop}  (h : G10_namesOf v1 μ Q) : MX l φ tc D s0 dR yX10_namesOf cX10_namesOf 4 (some .int) [.ref 1, .int v1] μ (QI Q) := by
  refine MX.of (own := RX10) hG plX10 rfl (Nat.le_of_ble_eq_true rfl) (fun p e s m args below meth c C hr => ?_)
  refine x_sub [(0, .ref 1), (1, .int v1)] [0, 1] rfl ?_
  unfold G10_namesOf at h
  refine x_iconst (v := 0) C (by decide) dX10_namesOf_0 ?_
  refine x_istore_n C [(2, .int 0), (0, .ref 1), (1, .int v1)] rfl (Nat.le_of_ble_eq_true rfl) rfl dX10_namesOf_1 ?_
  refine x_iconst (v := 0) C (by decide) dX10_namesOf_2 ?_
  refine x_istore_n C [(3, .int 0), (2, .int 0), (0, .ref 1), (1, .int v1)] rfl (Nat.le_of_ble_eq_true rfl) rfl dX10_namesOf_3 ?_
  refine x_sub [(0, .ref 1), (1, .int v1), (2, .int 0), (3, .int 0)] [2, 3, 1, 0] rfl ?_
  exact G10_namesOf_L4_ok C hd hr  h
set_option maxHeartbeats 4000000 in
set_option maxRecDepth 100000 in
theorem G11_deal_J129_ok {p : Program} {e : Env} {s : State} {m : MethodId} {args : Array Value} {below : List Frame} {meth : Method} {c : Code} {l : Launch} {φ : Nat → Nat} {tc : Nat → ClassId} {D : va_G} {s0 : State} {dR : Nat} (C : CX p s m args meth c φ tc D (AX φ) s0 cX11_deal RX11 7) (hd : G11_deal_dep ≤ dR) (hr : meth.sig.returnType = (some .int))    {Q : Int32 → MM → Prop}  {μ : MM}    (h : G11_deal_J129 μ Q) : WX p l e (rmX dR) s m args below meth c φ tc D (AX φ) 7 0 0 (MQ below (QX φ tc D (QI Q)) args s 0 0 (AX φ)) 129 [] [] μ := by
  unfold G11_deal_J129 at h
  refine x_iconst (v := (-1)) C (by decide) dX11_deal_129 ?_
  exact x_iret C hr dX11_deal_130 ⟨_, rfl, h⟩
set_option maxHeartbeats 4000000 in
set_option maxRecDepth 100000 in
theorem G11_deal_J99_ok {p : Program} {e : Env} {s : State} {m : MethodId} {args : Array Value} {below : List Frame} {meth : Method} {c : Code} {l : Launch} {φ : Nat → Nat} {tc : Nat → ClassId} {D : va_G} {s0 : State} {dR : Nat} (C : CX p s m args meth c φ tc D (AX φ) s0 cX11_deal RX11 7) (hd : G11_deal_dep ≤ dR) (hr : meth.sig.returnType = (some .int))   {p1 : Int32} {p2 : Int32} {p3 : Int32} {p4 : Int32} {p5 : Int32} {q0 : Int32} {Q : Int32 → MM → Prop}  {μ : MM}    (h : G11_deal_J99 p1 p2 p3 p4 p5 q0 μ Q) : WX p l e (rmX dR) s m args below meth c φ tc D (AX φ) 7 0 0 (MQ below (QX φ tc D (QI Q)) args s 0 0 (AX φ)) 99 [(0, .ref 0), (1, .int p1), (2, .int p2), (3, .int p3), (4, .int p4), (5, .int p5)] [.int q0] μ := by
  unfold G11_deal_J99 at h
  refine x_istore C [(6, .int q0), (0, .ref 0), (1, .int p1), (2, .int p2), (3, .int p3), (4, .int p4), (5, .int p5)] (Nat.le_of_ble_eq_true rfl) rfl dX11_deal_99 ?_
  refine x_iload C 5 rfl dX11_deal_101 ?_
  refine x_if_eq (tgt := 129) C dX11_deal_103 (by decide) (fun c22 => ?_) (fun c22 => ?_)
  · have h := h.1 c22
    refine x_sub [] [] rfl ?_
    exact G11_deal_J129_ok C hd hr  h
  · have h := h.2 c22
    refine x_iload C 6 rfl dX11_deal_106 ?_
    refine x_if_eq (tgt := 129) C dX11_deal_108 (by decide) (fun c23 => ?_) (fun c23 => ?_)
    · have h := h.1 c23
      refine x_sub [] [] rfl ?_
      exact G11_deal_J129_ok C hd hr  h
    · have h := h.2 c23
      refine x_iload C 0 rfl dX11_deal_111 ?_
      refine x_if_eq (tgt := 129) C dX11_deal_113 (by decide) (fun c24 => ?_) (fun c24 => ?_)
      · have h := h.1 c24
        refine x_sub [] [] rfl ?_
        exact G11_deal_J129_ok C hd hr  h
      · have h := h.2 c24
        refine x_aload_n C rfl 1 rfl dX11_deal_116 ?_
        refine x_getR (r := 1) C (j := 0) ob0.1 ob0.2 (Nat.le_of_ble_eq_true rfl) (Nat.le_of_ble_eq_true rfl) (fun _ _ _ => rfl) r_0_0 tw_2_163 dX11_deal_117 ?_
        refine x_iload_n C rfl 2 rfl dX11_deal_120 ?_
        refine x_iload_n C rfl 3 rfl dX11_deal_121 ?_
        refine x_iload_n C rfl 4 rfl dX11_deal_122 ?_
        refine x_callVN (dC := G10_dealTo_dep) (as := [.int p1, .int p2, .int p3]) (st := []) C rX kX (Nat.le_trans (Nat.le_of_ble_eq_true rfl) hd) (Nat.le_of_ble_eq_true rfl) ob1.1 ob1.2 (Nat.le_of_ble_eq_true rfl) rfl ts_1_8 tw_3_4 tw_3_2 tc_3_5 tw_1_2 hyX10 hnX10_dealTo rfl (Nat.le_of_ble_eq_true rfl) dX11_deal_123 (G10_dealTo_met C.2.2.2.2.2.2.2.1 (Nat.le_refl _)  h) (fun r0 μ25 hq => ?_)
        obtain ⟨r26, rfl, h⟩ := hq
        refine x_st [.int r26] rfl ?_
        refine x_goto (tgt := 130) C dX11_deal_126 (by decide) ?_
        exact x_iret C hr dX11_deal_130 ⟨_, rfl, h⟩
set_option maxHeartbeats 4000000 in
set_option maxRecDepth 100000 in
theorem G11_deal_J98_ok {p : Program} {e : Env} {s : State} {m : MethodId} {args : Array Value} {below : List Frame} {meth : Method} {c : Code} {l : Launch} {φ : Nat → Nat} {tc : Nat → ClassId} {D : va_G} {s0 : State} {dR : Nat} (C : CX p s m args meth c φ tc D (AX φ) s0 cX11_deal RX11 7) (hd : G11_deal_dep ≤ dR) (hr : meth.sig.returnType = (some .int))   {p1 : Int32} {p2 : Int32} {p3 : Int32} {p4 : Int32} {p5 : Int32} {Q : Int32 → MM → Prop}  {μ : MM}    (h : G11_deal_J98 p1 p2 p3 p4 p5 μ Q) : WX p l e (rmX dR) s m args below meth c φ tc D (AX φ) 7 0 0 (MQ below (QX φ tc D (QI Q)) args s 0 0 (AX φ)) 98 [(0, .ref 0), (1, .int p1), (2, .int p2), (3, .int p3), (4, .int p4), (5, .int p5)] [] μ := by
  unfold G11_deal_J98 at h
  refine x_iconst (v := 0) C (by decide) dX11_deal_98 ?_
  exact G11_deal_J99_ok C hd hr  h
set_option maxHeartbeats 4000000 in
set_option maxRecDepth 100000 in
theorem G11_deal_J68_ok {p : Program} {e : Env} {s : State} {m : MethodId} {args : Array Value} {below : List Frame} {meth : Method} {c : Code} {l : Launch} {φ : Nat → Nat} {tc : Nat → ClassId} {D : va_G} {s0 : State} {dR : Nat} (C : CX p s m args meth c φ tc D (AX φ) s0 cX11_deal RX11 7) (hd : G11_deal_dep ≤ dR) (hr : meth.sig.returnType = (some .int))   {p1 : Int32} {p2 : Int32} {p3 : Int32} {p4 : Int32} {q0 : Int32} {Q : Int32 → MM → Prop}  {μ : MM}    (h : G11_deal_J68 p1 p2 p3 p4 q0 μ Q) : WX p l e (rmX dR) s m args below meth c φ tc D (AX φ) 7 0 0 (MQ below (QX φ tc D (QI Q)) args s 0 0 (AX φ)) 68 [(0, .ref 0), (1, .int p1), (2, .int p2), (3, .int p3), (4, .int p4)] [.int q0] μ := by
  unfold G11_deal_J68 at h
  refine x_istore C [(5, .int q0), (0, .ref 0), (1, .int p1), (2, .int p2), (3, .int p3), (4, .int p4)] (Nat.le_of_ble_eq_true rfl) rfl dX11_deal_68 ?_
  refine x_aload_n C rfl 1 rfl dX11_deal_70 ?_
  refine x_getR (r := 1) C (j := 0) ob0.1 ob0.2 (Nat.le_of_ble_eq_true rfl) (Nat.le_of_ble_eq_true rfl) (fun _ _ _ => rfl) r_0_0 tw_2_163 dX11_deal_71 ?_
  refine x_iconst (v := 0) C (by decide) dX11_deal_74 ?_
  refine x_callVN (dC := G10_namesOf_dep) (as := [.int 0]) (st := []) C rX kX (Nat.le_trans (Nat.le_of_ble_eq_true rfl) hd) (Nat.le_of_ble_eq_true rfl) ob1.1 ob1.2 (Nat.le_of_ble_eq_true rfl) rfl ts_1_7 tw_3_0 tw_2_238 tc_3_1 tw_1_2 hyX10 hnX10_namesOf rfl (Nat.le_of_ble_eq_true rfl) dX11_deal_75 (G10_namesOf_met C.2.2.2.2.2.2.2.1 (Nat.le_refl _)  h) (fun r0 μ19 hq => ?_)
  obtain ⟨r20, rfl, h⟩ := hq
  refine x_st [.int r20] rfl ?_
  refine x_iconst (v := 2) C (by decide) dX11_deal_78 ?_
  refine x_icmp_lt (tgt := 98) C dX11_deal_79 (by decide) (fun c21 => ?_) (fun c21 => ?_)
  · have h := h.1 c21
    refine x_sub [(0, .ref 0), (1, .int p1), (2, .int p2), (3, .int p3), (4, .int p4), (5, .int q0)] [1, 2, 3, 4, 5, 0] rfl ?_
    exact G11_deal_J98_ok C hd hr  h
  · have h := h.2 c21
    refine x_aload_n C rfl 1 rfl dX11_deal_82 ?_
    refine x_getR (r := 1) C (j := 0) ob0.1 ob0.2 (Nat.le_of_ble_eq_true rfl) (Nat.le_of_ble_eq_true rfl) (fun _ _ _ => rfl) r_0_0 tw_2_163 dX11_deal_83 ?_
    refine x_iconst (v := 1) C (by decide) dX11_deal_86 ?_
    refine x_callVN (dC := G10_namesOf_dep) (as := [.int 1]) (st := []) C rX kX (Nat.le_trans (Nat.le_of_ble_eq_true rfl) hd) (Nat.le_of_ble_eq_true rfl) ob1.1 ob1.2 (Nat.le_of_ble_eq_true rfl) rfl ts_1_7 tw_3_0 tw_2_238 tc_3_1 tw_1_2 hyX10 hnX10_namesOf rfl (Nat.le_of_ble_eq_true rfl) dX11_deal_87 (G10_namesOf_met C.2.2.2.2.2.2.2.1 (Nat.le_refl _)  h) (fun r0 μ27 hq => ?_)
    obtain ⟨r28, rfl, h⟩ := hq
    refine x_st [.int r28] rfl ?_
    refine x_iconst (v := 2) C (by decide) dX11_deal_90 ?_
    refine x_icmp_lt (tgt := 98) C dX11_deal_91 (by decide) (fun c29 => ?_) (fun c29 => ?_)
    · have h := h.1 c29
      refine x_sub [(0, .ref 0), (1, .int p1), (2, .int p2), (3, .int p3), (4, .int p4), (5, .int q0)] [1, 2, 3, 4, 5, 0] rfl ?_
      exact G11_deal_J98_ok C hd hr  h
    · have h := h.2 c29
      refine x_iconst (v := 1) C (by decide) dX11_deal_94 ?_
      refine x_goto (tgt := 99) C dX11_deal_95 (by decide) ?_
      refine x_sub [(0, .ref 0), (1, .int p1), (2, .int p2), (3, .int p3), (4, .int p4), (5, .int q0)] [1, 2, 3, 4, 5, 0] rfl ?_
      exact G11_deal_J99_ok C hd hr  h
set_option maxHeartbeats 4000000 in
set_option maxRecDepth 100000 in
theorem G11_deal_J67_ok {p : Program} {e : Env} {s : State} {m : MethodId} {args : Array Value} {below : List Frame} {meth : Method} {c : Code} {l : Launch} {φ : Nat → Nat} {tc : Nat → ClassId} {D : va_G} {s0 : State} {dR : Nat} (C : CX p s m args meth c φ tc D (AX φ) s0 cX11_deal RX11 7) (hd : G11_deal_dep ≤ dR) (hr : meth.sig.returnType = (some .int))   {p1 : Int32} {p2 : Int32} {p3 : Int32} {p4 : Int32} {Q : Int32 → MM → Prop}  {μ : MM}    (h : G11_deal_J67 p1 p2 p3 p4 μ Q) : WX p l e (rmX dR) s m args below meth c φ tc D (AX φ) 7 0 0 (MQ below (QX φ tc D (QI Q)) args s 0 0 (AX φ)) 67 [(0, .ref 0), (1, .int p1), (2, .int p2), (3, .int p3), (4, .int p4)] [] μ := by
  unfold G11_deal_J67 at h
  refine x_iconst (v := 0) C (by decide) dX11_deal_67 ?_
  exact G11_deal_J68_ok C hd hr  h
set_option maxHeartbeats 4000000 in
set_option maxRecDepth 100000 in
theorem G11_deal_J36_ok {p : Program} {e : Env} {s : State} {m : MethodId} {args : Array Value} {below : List Frame} {meth : Method} {c : Code} {l : Launch} {φ : Nat → Nat} {tc : Nat → ClassId} {D : va_G} {s0 : State} {dR : Nat} (C : CX p s m args meth c φ tc D (AX φ) s0 cX11_deal RX11 7) (hd : G11_deal_dep ≤ dR) (hr : meth.sig.returnType = (some .int))   {p1 : Int32} {p2 : Int32} {p3 : Int32} {q0 : Int32} {Q : Int32 → MM → Prop}  {μ : MM}    (h : G11_deal_J36 p1 p2 p3 q0 μ Q) : WX p l e (rmX dR) s m args below meth c φ tc D (AX φ) 7 0 0 (MQ below (QX φ tc D (QI Q)) args s 0 0 (AX φ)) 36 [(0, .ref 0), (1, .int p1), (2, .int p2), (3, .int p3)] [.int q0] μ := by
  unfold G11_deal_J36 at h
  refine x_istore C [(4, .int q0), (0, .ref 0), (1, .int p1), (2, .int p2), (3, .int p3)] (Nat.le_of_ble_eq_true rfl) rfl dX11_deal_36 ?_
  refine x_aload_n C rfl 1 rfl dX11_deal_38 ?_
  refine x_getR (r := 1) C (j := 0) ob0.1 ob0.2 (Nat.le_of_ble_eq_true rfl) (Nat.le_of_ble_eq_true rfl) (fun _ _ _ => rfl) r_0_0 tw_2_163 dX11_deal_39 ?_
  refine x_getIN C (j := 10) ob1.1 ob1.2 (Nat.le_of_ble_eq_true rfl) (Nat.le_of_ble_eq_true rfl) (Or.inl rfl) tw_1_154 dX11_deal_42 ?_
  refine x_iconst (v := 4) C (by decide) dX11_deal_45 ?_
  refine x_iadd C dX11_deal_46 ?_
  refine x_bipush (v := 96) C (by decide) dX11_deal_47 ?_
  refine x_icmp_gt (tgt := 67) C dX11_deal_49 (by decide) (fun c18 => ?_) (fun c18 => ?_)
  · have h := h.1 c18
    refine x_sub [(0, .ref 0), (1, .int p1), (2, .int p2), (3, .int p3), (4, .int q0)] [1, 2, 3, 4, 0] rfl ?_
    exact G11_deal_J67_ok C hd hr  h
  · have h := h.2 c18
    refine x_aload_n C rfl 1 rfl dX11_deal_52 ?_
    refine x_getR (r := 1) C (j := 0) ob0.1 ob0.2 (Nat.le_of_ble_eq_true rfl) (Nat.le_of_ble_eq_true rfl) (fun _ _ _ => rfl) r_0_0 tw_2_163 dX11_deal_53 ?_
    refine x_iload_n C rfl 2 rfl dX11_deal_56 ?_
    refine x_callVN (dC := G10_lettersTo_dep) (as := [.int p1]) (st := []) C rX kX (Nat.le_trans (Nat.le_of_ble_eq_true rfl) hd) (Nat.le_of_ble_eq_true rfl) ob1.1 ob1.2 (Nat.le_of_ble_eq_true rfl) rfl ts_1_4 tw_2_224 tw_2_222 tc_2_225 tw_1_2 hyX10 hnX10_lettersTo rfl (Nat.le_of_ble_eq_true rfl) dX11_deal_57 (G10_lettersTo_met C.2.2.2.2.2.2.2.1 (Nat.le_refl _)  h) (fun r0 μ30 hq => ?_)
    obtain ⟨r31, rfl, h⟩ := hq
    refine x_st [.int r31] rfl ?_
    refine x_if_ne (tgt := 67) C dX11_deal_60 (by decide) (fun c32 => ?_) (fun c32 => ?_)
    · have h := h.1 c32
      refine x_sub [(0, .ref 0), (1, .int p1), (2, .int p2), (3, .int p3), (4, .int q0)] [1, 2, 3, 4, 0] rfl ?_
      exact G11_deal_J67_ok C hd hr  h
    · have h := h.2 c32
      refine x_iconst (v := 1) C (by decide) dX11_deal_63 ?_
      refine x_goto (tgt := 68) C dX11_deal_64 (by decide) ?_
      refine x_sub [(0, .ref 0), (1, .int p1), (2, .int p2), (3, .int p3), (4, .int q0)] [1, 2, 3, 4, 0] rfl ?_
      exact G11_deal_J68_ok C hd hr  h
set_option maxHeartbeats 4000000 in
set_option maxRecDepth 100000 in
theorem G11_deal_J35_ok {p : Program} {e : Env} {s : State} {m : MethodId} {args : Array Value} {below : List Frame} {meth : Method} {c : Code} {l : Launch} {φ : Nat → Nat} {tc : Nat → ClassId} {D : va_G} {s0 : State} {dR : Nat} (C : CX p s m args meth c φ tc D (AX φ) s0 cX11_deal RX11 7) (hd : G11_deal_dep ≤ dR) (hr : meth.sig.returnType = (some .int))   {p1 : Int32} {p2 : Int32} {p3 : Int32} {Q : Int32 → MM → Prop}  {μ : MM}    (h : G11_deal_J35 p1 p2 p3 μ Q) : WX p l e (rmX dR) s m args below meth c φ tc D (AX φ) 7 0 0 (MQ below (QX φ tc D (QI Q)) args s 0 0 (AX φ)) 35 [(0, .ref 0), (1, .int p1), (2, .int p2), (3, .int p3)] [] μ := by
  unfold G11_deal_J35 at h
  refine x_iconst (v := 0) C (by decide) dX11_deal_35 ?_
  exact G11_deal_J36_ok C hd hr  h
set_option maxHeartbeats 4000000 in
set_option maxRecDepth 100000 in
theorem G11_deal_met {l : Launch} {φ : Nat → Nat} {tc : Nat → ClassId} {D : va_G} {s0 : State} (hG : GX φ tc D s0) {dR : Nat} (hd : G11_deal_dep ≤ dR) {v1 : Int32} {v2 : Int32} {v3 : Int32} {μ : MM} {Q : Int32 → MM → Prop}  (h : G11_deal v1 v2 v3 μ Q) : MX l φ tc D s0 dR yX11_deal cX11_deal 7 (some .int) [.ref 0, .int v1, .int v2, .int v3] μ (QI Q) := by
  refine MX.of (own := RX11) hG plX11 rfl (Nat.le_of_ble_eq_true rfl) (fun p e s m args below meth c C hr => ?_)
  refine x_sub [(0, .ref 0), (1, .int v1), (2, .int v2), (3, .int v3)] [0, 1, 2, 3] rfl ?_
  unfold G11_deal at h
  refine x_aload_n C rfl 0 rfl dX11_deal_0 ?_
  refine x_getR (r := 1) C (j := 0) ob0.1 ob0.2 (Nat.le_of_ble_eq_true rfl) (Nat.le_of_ble_eq_true rfl) (fun _ _ _ => rfl) r_0_0 tw_2_163 dX11_deal_1 ?_
  refine x_iload_n C rfl 1 rfl dX11_deal_4 ?_
  refine x_callVN (dC := G10_isHouse_dep) (as := [.int v1]) (st := []) C rX kX (Nat.le_trans (Nat.le_of_ble_eq_true rfl) hd) (Nat.le_of_ble_eq_true rfl) ob1.1 ob1.2 (Nat.le_of_ble_eq_true rfl) rfl ts_1_2 tw_2_216 tw_2_214 tc_2_217 tw_1_2 hyX10 hnX10_isHouse rfl (Nat.le_of_ble_eq_true rfl) dX11_deal_5 (G10_isHouse_met C.2.2.2.2.2.2.2.1 (Nat.le_refl _)  h) (fun r0 μ15 hq => ?_)
  obtain ⟨r16, rfl, h⟩ := hq
  refine x_st [.int r16] rfl ?_
  refine x_if_eq (tgt := 35) C dX11_deal_8 (by decide) (fun c17 => ?_) (fun c17 => ?_)
  · have h := h.1 c17
    exact G11_deal_J35_ok C hd hr  h
  · have h := h.2 c17
    refine x_iload_n C rfl 2 rfl dX11_deal_11 ?_
    refine x_iconst (v := 0) C (by decide) dX11_deal_12 ?_
    refine x_bipush (v := 99) C (by decide) dX11_deal_13 ?_
    refine x_callS (dC := G11_within_dep) (as := [.int v2, .int 0, .int 99]) (st := []) C rX kX (Nat.le_trans (Nat.le_of_ble_eq_true rfl) hd) (Nat.le_of_ble_eq_true rfl) tw_2_196 tw_2_195 tc_2_197 tw_1_1 hyX11 hnX11_within rfl (Nat.le_of_ble_eq_true rfl) dX11_deal_15 (G11_within_met C.2.2.2.2.2.2.2.1 (Nat.le_refl _)  h) (fun r0 μ33 hq => ?_)
    obtain ⟨r34, rfl, h⟩ := hq
    refine x_st [.int r34] rfl ?_
    refine x_if_eq (tgt := 35) C dX11_deal_18 (by decide) (fun c35 => ?_) (fun c35 => ?_)
    · have h := h.1 c35
      exact G11_deal_J35_ok C hd hr  h
    · have h := h.2 c35
      refine x_iload_n C rfl 3 rfl dX11_deal_21 ?_
      refine x_iconst (v := 0) C (by decide) dX11_deal_22 ?_
      refine x_bipush (v := 99) C (by decide) dX11_deal_23 ?_
      refine x_callS (dC := G11_within_dep) (as := [.int v3, .int 0, .int 99]) (st := []) C rX kX (Nat.le_trans (Nat.le_of_ble_eq_true rfl) hd) (Nat.le_of_ble_eq_true rfl) tw_2_196 tw_2_195 tc_2_197 tw_1_1 hyX11 hnX11_within rfl (Nat.le_of_ble_eq_true rfl) dX11_deal_25 (G11_within_met C.2.2.2.2.2.2.2.1 (Nat.le_refl _)  h) (fun r0 μ36 hq => ?_)
      obtain ⟨r37, rfl, h⟩ := hq
      refine x_st [.int r37] rfl ?_
      refine x_if_eq (tgt := 35) C dX11_deal_28 (by decide) (fun c38 => ?_) (fun c38 => ?_)
      · have h := h.1 c38
        exact G11_deal_J35_ok C hd hr  h
      · have h := h.2 c38
        refine x_iconst (v := 1) C (by decide) dX11_deal_31 ?_
        refine x_goto (tgt := 36) C dX11_deal_32 (by decide) ?_
        exact G11_deal_J36_ok C hd hr  h
set_option maxHeartbeats 4000000 in
set_option maxRecDepth 100000 in
theorem G5_told_met {l : Launch} {φ : Nat → Nat} {tc : Nat → ClassId} {D : va_G} {s0 : State} (hG : GX φ tc D s0) {dR : Nat} (hd : G5_told_dep ≤ dR) {t : Nat} {v1 : Int32} {μ : MM} {Q : Int32 → MM → Prop} (o_t : Ob t 5) (h : G5_told t v1 μ Q) : MX l φ tc D s0 dR yX5_told cX5_told 2 (some .int) [.ref t, .int v1] μ (QI Q) := by
  refine MX.of (own := RX5) hG plX5 rfl (Nat.le_of_ble_eq_true rfl) (fun p e s m args below meth c C hr => ?_)
  refine x_sub [(0, .ref t), (1, .int v1)] [0, 1] rfl ?_
  unfold G5_told at h
  refine x_iload_n C rfl 1 rfl dX5_told_0 ?_
  by_cases c1 : v1 = 0
  · have h := h.1 c1
    refine x_tIn (tgt := 48) C dX5_told_1 (by rw [c1]; decide) (by rw [c1]; decide) (by rw [c1]; rfl) (by decide) ?_
    refine x_aload_n C rfl 0 rfl dX5_told_48 ?_
    refine x_getI C (j := 0) o_t.1 o_t.2 (Nat.le_of_ble_eq_true rfl) (Nat.le_of_ble_eq_true rfl) (Or.inl rfl) tw_1_53 dX5_told_49 ?_
    exact x_iret C hr dX5_told_52 ⟨_, rfl, h⟩
  have h := h.2
  by_cases c2 : v1 = 1
  · have h := h.1 c2
    refine x_tIn (tgt := 53) C dX5_told_1 (by rw [c2]; decide) (by rw [c2]; decide) (by rw [c2]; rfl) (by decide) ?_
    refine x_aload_n C rfl 0 rfl dX5_told_53 ?_
    refine x_getI C (j := 1) o_t.1 o_t.2 (Nat.le_of_ble_eq_true rfl) (Nat.le_of_ble_eq_true rfl) (Or.inl rfl) tw_1_55 dX5_told_54 ?_
    exact x_iret C hr dX5_told_57 ⟨_, rfl, h⟩
  have h := h.2
  by_cases c3 : v1 = 2
  · have h := h.1 c3
    refine x_tIn (tgt := 58) C dX5_told_1 (by rw [c3]; decide) (by rw [c3]; decide) (by rw [c3]; rfl) (by decide) ?_
    refine x_aload_n C rfl 0 rfl dX5_told_58 ?_
    refine x_getI C (j := 2) o_t.1 o_t.2 (Nat.le_of_ble_eq_true rfl) (Nat.le_of_ble_eq_true rfl) (Or.inl rfl) tw_1_58 dX5_told_59 ?_
    exact x_iret C hr dX5_told_62 ⟨_, rfl, h⟩
  have h := h.2
  by_cases c4 : v1 = 3
  · have h := h.1 c4
    refine x_tIn (tgt := 63) C dX5_told_1 (by rw [c4]; decide) (by rw [c4]; decide) (by rw [c4]; rfl) (by decide) ?_
    refine x_aload_n C rfl 0 rfl dX5_told_63 ?_
    refine x_getI C (j := 3) o_t.1 o_t.2 (Nat.le_of_ble_eq_true rfl) (Nat.le_of_ble_eq_true rfl) (Or.inl rfl) tw_1_62 dX5_told_64 ?_
    exact x_iret C hr dX5_told_67 ⟨_, rfl, h⟩
  have h := h.2
  by_cases c5 : v1 = 4
  · have h := h.1 c5
    refine x_tIn (tgt := 68) C dX5_told_1 (by rw [c5]; decide) (by rw [c5]; decide) (by rw [c5]; rfl) (by decide) ?_
    refine x_aload_n C rfl 0 rfl dX5_told_68 ?_
    refine x_getI C (j := 4) o_t.1 o_t.2 (Nat.le_of_ble_eq_true rfl) (Nat.le_of_ble_eq_true rfl) (Or.inl rfl) tw_1_65 dX5_told_69 ?_
    exact x_iret C hr dX5_told_72 ⟨_, rfl, h⟩
  have h := h.2
  by_cases c6 : v1 = 5
  · have h := h.1 c6
    refine x_tIn (tgt := 73) C dX5_told_1 (by rw [c6]; decide) (by rw [c6]; decide) (by rw [c6]; rfl) (by decide) ?_
    refine x_aload_n C rfl 0 rfl dX5_told_73 ?_
    refine x_getI C (j := 5) o_t.1 o_t.2 (Nat.le_of_ble_eq_true rfl) (Nat.le_of_ble_eq_true rfl) (Or.inl rfl) tw_1_67 dX5_told_74 ?_
    exact x_iret C hr dX5_told_77 ⟨_, rfl, h⟩
  have h := h.2
  by_cases c7 : v1 = 6
  · have h := h.1 c7
    refine x_tIn (tgt := 78) C dX5_told_1 (by rw [c7]; decide) (by rw [c7]; decide) (by rw [c7]; rfl) (by decide) ?_
    refine x_aload_n C rfl 0 rfl dX5_told_78 ?_
    refine x_getI C (j := 6) o_t.1 o_t.2 (Nat.le_of_ble_eq_true rfl) (Nat.le_of_ble_eq_true rfl) (Or.inr rfl) tw_1_70 dX5_told_79 ?_
    refine x_if_eq (tgt := 89) C dX5_told_82 (by decide) (fun c8 => ?_) (fun c8 => ?_)
    · have h := h.1 c8
      refine x_iconst (v := 0) C (by decide) dX5_told_89 ?_
      exact x_iret C hr dX5_told_90 ⟨_, rfl, h⟩
    · have h := h.2 c8
      refine x_iconst (v := 1) C (by decide) dX5_told_85 ?_
      refine x_goto (tgt := 90) C dX5_told_86 (by decide) ?_
      exact x_iret C hr dX5_told_90 ⟨_, rfl, h⟩
  have h := h.2
  by_cases c9 : v1 = 7
  · have h := h.1 c9
    refine x_tIn (tgt := 91) C dX5_told_1 (by rw [c9]; decide) (by rw [c9]; decide) (by rw [c9]; rfl) (by decide) ?_
    refine x_aload_n C rfl 0 rfl dX5_told_91 ?_
    refine x_getI C (j := 7) o_t.1 o_t.2 (Nat.le_of_ble_eq_true rfl) (Nat.le_of_ble_eq_true rfl) (Or.inr rfl) tw_1_77 dX5_told_92 ?_
    refine x_if_eq (tgt := 102) C dX5_told_95 (by decide) (fun c10 => ?_) (fun c10 => ?_)
    · have h := h.1 c10
      refine x_iconst (v := 0) C (by decide) dX5_told_102 ?_
      exact x_iret C hr dX5_told_103 ⟨_, rfl, h⟩
    · have h := h.2 c10
      refine x_iconst (v := 1) C (by decide) dX5_told_98 ?_
      refine x_goto (tgt := 103) C dX5_told_99 (by decide) ?_
      exact x_iret C hr dX5_told_103 ⟨_, rfl, h⟩
  have h := h.2
  have h := h c1 c2 c3 c4 c5 c6 c7 c9
  have n_c1 := lv_neT (a := 0) c1 (by decide)
  have n_c2 := lv_neT (a := 1) c2 (by decide)
  have n_c3 := lv_neT (a := 2) c3 (by decide)
  have n_c4 := lv_neT (a := 3) c4 (by decide)
  have n_c5 := lv_neT (a := 4) c5 (by decide)
  have n_c6 := lv_neT (a := 5) c6 (by decide)
  have n_c7 := lv_neT (a := 6) c7 (by decide)
  have n_c9 := lv_neT (a := 7) c9 (by decide)
  refine x_tOut (tgt := 104) C dX5_told_1 (by omega) (by decide) ?_
  refine x_aload_n C rfl 0 rfl dX5_told_104 ?_
  refine x_getI C (j := 8) o_t.1 o_t.2 (Nat.le_of_ble_eq_true rfl) (Nat.le_of_ble_eq_true rfl) (Or.inl rfl) tw_1_81 dX5_told_105 ?_
  exact x_iret C hr dX5_told_108 ⟨_, rfl, h⟩
set_option maxHeartbeats 4000000 in
set_option maxRecDepth 100000 in
theorem G10_isLetter_J16_ok {p : Program} {e : Env} {s : State} {m : MethodId} {args : Array Value} {below : List Frame} {meth : Method} {c : Code} {l : Launch} {φ : Nat → Nat} {tc : Nat → ClassId} {D : va_G} {s0 : State} {dR : Nat} (C : CX p s m args meth c φ tc D (AX φ) s0 cX10_isLetter RX10 2) (hd : G10_isLetter_dep ≤ dR) (hr : meth.sig.returnType = (some .boolean))    {Q : Int32 → MM → Prop}  {μ : MM}    (h : G10_isLetter_J16 μ Q) : WX p l e (rmX dR) s m args below meth c φ tc D (AX φ) 2 0 0 (MQ below (QX φ tc D (QI Q)) args s 0 0 (AX φ)) 16 [] [] μ := by
  unfold G10_isLetter_J16 at h
  refine x_iconst (v := 0) C (by decide) dX10_isLetter_16 ?_
  exact x_zret C hr bo_0 dX10_isLetter_17 ⟨_, rfl, h⟩
set_option maxHeartbeats 4000000 in
set_option maxRecDepth 100000 in
theorem G10_isLetter_met {l : Launch} {φ : Nat → Nat} {tc : Nat → ClassId} {D : va_G} {s0 : State} (hG : GX φ tc D s0) {dR : Nat} (hd : G10_isLetter_dep ≤ dR) {v1 : Int32} {μ : MM} {Q : Int32 → MM → Prop}  (h : G10_isLetter v1 μ Q) : MX l φ tc D s0 dR yX10_isLetter cX10_isLetter 2 (some .boolean) [.ref 1, .int v1] μ (QI Q) := by
  refine MX.of (own := RX10) hG plX10 rfl (Nat.le_of_ble_eq_true rfl) (fun p e s m args below meth c C hr => ?_)
  refine x_sub [(0, .ref 1), (1, .int v1)] [0, 1] rfl ?_
  unfold G10_isLetter at h
  refine x_iload_n C rfl 1 rfl dX10_isLetter_0 ?_
  refine x_if_lt (tgt := 16) C dX10_isLetter_1 (by decide) (fun c1 => ?_) (fun c1 => ?_)
  · have h := h.1 c1
    refine x_sub [] [] rfl ?_
    exact G10_isLetter_J16_ok C hd hr  h
  · have h := h.2 c1
    refine x_iload_n C rfl 1 rfl dX10_isLetter_4 ?_
    refine x_aload_n C rfl 0 rfl dX10_isLetter_5 ?_
    refine x_getI C (j := 10) ob1.1 ob1.2 (Nat.le_of_ble_eq_true rfl) (Nat.le_of_ble_eq_true rfl) (Or.inl rfl) tw_1_153 dX10_isLetter_6 ?_
    refine x_icmp_ge (tgt := 16) C dX10_isLetter_9 (by decide) (fun c2 => ?_) (fun c2 => ?_)
    · have h := h.1 c2
      refine x_sub [] [] rfl ?_
      exact G10_isLetter_J16_ok C hd hr  h
    · have h := h.2 c2
      refine x_iconst (v := 1) C (by decide) dX10_isLetter_12 ?_
      refine x_goto (tgt := 17) C dX10_isLetter_13 (by decide) ?_
      exact x_zret C hr bo_1 dX10_isLetter_17 ⟨_, rfl, h⟩
set_option maxHeartbeats 4000000 in
set_option maxRecDepth 100000 in
theorem G11_of_J21_ok {p : Program} {e : Env} {s : State} {m : MethodId} {args : Array Value} {below : List Frame} {meth : Method} {c : Code} {l : Launch} {φ : Nat → Nat} {tc : Nat → ClassId} {D : va_G} {s0 : State} {dR : Nat} (C : CX p s m args meth c φ tc D (AX φ) s0 cX11_of RX11 3) (hd : G11_of_dep ≤ dR) (hr : meth.sig.returnType = (some .int)) {X : MM → Prop} (hfl : l.stackTraces = false) (hxt : ∀ x ∈ c.exceptionTable.toList, False)   {Q : Int32 → MM → Prop}  {μ : MM}    (h : G11_of_J21 μ Q X) : WX p l e (rmE dR) s m args below meth c φ tc D (AX φ) 3 0 0 (vx_MQ below (QX φ tc D (QI Q)) (XCX φ tc D X) args s 1 6 (AX φ)) 21 [] [] μ := by
  unfold G11_of_J21 at h
  exact x_throwS C hfl hxt (i := 1) (by decide) rfl rfl rfl (Nat.le_trans (Nat.le_of_ble_eq_true rfl) hd) dX11_of_21 dX11_of_24 dX11_of_25 dX11_of_27 dX11_of_30 h
set_option maxHeartbeats 4000000 in
set_option maxRecDepth 100000 in
theorem G11_of_met {l : Launch} {φ : Nat → Nat} {tc : Nat → ClassId} {D : va_G} {s0 : State} {X : MM → Prop} (hfl : l.stackTraces = false) (hG : GX φ tc D s0) {dR : Nat} (hd : G11_of_dep ≤ dR) {v1 : Int32} {v2 : Int32} {μ : MM} {Q : Int32 → MM → Prop}  (h : G11_of v1 v2 μ Q X) : MXX l φ tc D s0 dR yX11_of cX11_of 3 (some .int) [.ref 0, .int v1, .int v2] μ (QI Q) X := by
  refine MXX.of (own := RX11) hG plX11 rfl (Nat.le_of_ble_eq_true rfl) (fun p e s m args below meth c C hr hxt => ?_)
  refine x_sub [(0, .ref 0), (1, .int v1), (2, .int v2)] [0, 1, 2] rfl ?_
  unfold G11_of at h
  refine x_aload_n C rfl 0 rfl dX11_of_0 ?_
  refine x_getR (r := 1) C (j := 0) ob0.1 ob0.2 (Nat.le_of_ble_eq_true rfl) (Nat.le_of_ble_eq_true rfl) (fun _ _ _ => rfl) r_0_0 tw_2_163 dX11_of_1 ?_
  refine x_iload_n C rfl 1 rfl dX11_of_4 ?_
  refine x_callVN (dC := G10_isLetter_dep) (as := [.int v1]) (st := []) C rE kX (Nat.le_trans (Nat.le_of_ble_eq_true rfl) hd) (Nat.le_of_ble_eq_true rfl) ob1.1 ob1.2 (Nat.le_of_ble_eq_true rfl) rfl ts_2_14 tw_3_228 tw_3_226 tc_3_229 tw_1_2 hyX10 hnX10_isLetter rfl (Nat.le_of_ble_eq_true rfl) dX11_of_5 (G10_isLetter_met C.2.2.2.2.2.2.2.1 (Nat.le_refl _)  h) (fun r0 μ8 hq => ?_)
  obtain ⟨r9, rfl, h⟩ := hq
  refine x_st [.int r9] rfl ?_
  refine x_if_eq (tgt := 21) C dX11_of_8 (by decide) (fun c10 => ?_) (fun c10 => ?_)
  · have h := h.1 c10
    refine x_sub [] [] rfl ?_
    exact G11_of_J21_ok C hd hr hfl hxt  h
  · have h := h.2 c10
    refine x_iload_n C rfl 2 rfl dX11_of_11 ?_
    refine x_iconst (v := 0) C (by decide) dX11_of_12 ?_
    refine x_bipush (v := 8) C (by decide) dX11_of_13 ?_
    refine x_callS (dC := G11_within_dep) (as := [.int v2, .int 0, .int 8]) (st := []) C rE kX (Nat.le_trans (Nat.le_of_ble_eq_true rfl) hd) (Nat.le_of_ble_eq_true rfl) tw_2_196 tw_2_195 tc_2_197 tw_1_1 hyX11 hnX11_within rfl (Nat.le_of_ble_eq_true rfl) dX11_of_15 (G11_within_met C.2.2.2.2.2.2.2.1 (Nat.le_refl _)  h) (fun r0 μ11 hq => ?_)
    obtain ⟨r12, rfl, h⟩ := hq
    refine x_st [.int r12] rfl ?_
    refine x_if_ne (tgt := 31) C dX11_of_18 (by decide) (fun c13 => ?_) (fun c13 => ?_)
    · have h := h.1 c13
      refine x_aload_n C rfl 0 rfl dX11_of_31 ?_
      refine x_getR (r := 1) C (j := 0) ob0.1 ob0.2 (Nat.le_of_ble_eq_true rfl) (Nat.le_of_ble_eq_true rfl) (fun _ _ _ => rfl) r_0_0 tw_2_163 dX11_of_32 ?_
      refine x_getRN (r := 9) C (j := 9) ob1.1 ob1.2 (Nat.le_of_ble_eq_true rfl) (Nat.le_of_ble_eq_true rfl) (fun _ _ _ => rfl) r_1_9 tw_1_148 dX11_of_35 ?_
      refine x_iload_n C rfl 1 rfl dX11_of_38 ?_
      obtain ⟨c14, h⟩ := h
      refine x_aald (r := (19 + v1.toNatClampNeg)) C ob9.1 (by decide) (by decide) c14 rfl (rA9 c14) dX11_of_39 ?_
      refine x_iload_n C rfl 2 rfl dX11_of_40 ?_
      refine x_callVN (dC := G5_told_dep) (as := [.int v2]) (st := []) C rE kX (Nat.le_trans (Nat.le_of_ble_eq_true rfl) hd) (Nat.le_of_ble_eq_true rfl) (obA9 c14).1 (obA9 c14).2 (Nat.le_of_ble_eq_true rfl) rfl ts_8_7 tw_6_154 tw_6_152 tc_6_155 tw_1_3 hyX5 hnX5_told rfl (Nat.le_of_ble_eq_true rfl) dX11_of_41 (G5_told_met C.2.2.2.2.2.2.2.1 (Nat.le_refl _) (obA9 c14) h) (fun r0 μ15 hq => ?_)
      obtain ⟨r16, rfl, h⟩ := hq
      refine x_st [.int r16] rfl ?_
      exact x_iretX C hr dX11_of_44 ⟨_, rfl, h⟩
    · have h := h.2 c13
      refine x_sub [] [] rfl ?_
      exact G11_of_J21_ok C hd hr hfl hxt  h
set_option maxHeartbeats 4000000 in
set_option maxRecDepth 100000 in
theorem G11_sign_L16_b {p : Program} {e : Env} {s : State} {m : MethodId} {args : Array Value} {below : List Frame} {meth : Method} {c : Code} {l : Launch} {φ : Nat → Nat} {tc : Nat → ClassId} {D : va_G} {s0 : State} {dR : Nat} (C : CX p s m args meth c φ tc D (AX φ) s0 cX11_sign RX11 3) (hd : G11_sign_dep ≤ dR) (hr : meth.sig.returnType = (some .int))  {p1 : Int32} {Q : Int32 → MM → Prop} {K16 : Int32 × MM → Prop} {x : Int32 × MM}   (hK16 : ∀ (z2 : Int32) (zμ : MM), K16 (z2, zμ) → WX p l e (rmX dR) s m args below meth c φ tc D (AX φ) 3 0 0 (MQ below (QX φ tc D (QI Q)) args s 0 0 (AX φ)) 16 [(0, .ref 0), (1, .int p1), (2, .int z2)] [] zμ) (h : G11_sign_L16 p1 Q K16 x) : WX p l e (rmX dR) s m args below meth c φ tc D (AX φ) 3 0 0 (MQ below (QX φ tc D (QI Q)) args s 0 0 (AX φ)) 16 [(0, .ref 0), (1, .int p1), (2, .int x.1)] [] x.2 := by
  unfold G11_sign_L16 at h
  refine x_iload_n C rfl 2 rfl dX11_sign_16 ?_
  refine x_if_lt (tgt := 52) C dX11_sign_17 (by decide) (fun c5 => ?_) (fun c5 => ?_)
  · have h := h.1 c5
    refine x_aload_n C rfl 0 rfl dX11_sign_52 ?_
    refine x_getI C (j := 8) ob0.1 ob0.2 (Nat.le_of_ble_eq_true rfl) (Nat.le_of_ble_eq_true rfl) (Or.inl rfl) tw_2_171 dX11_sign_53 ?_
    exact x_iret C hr dX11_sign_56 ⟨_, rfl, h⟩
  · have h := h.2 c5
    refine x_aload_n C rfl 0 rfl dX11_sign_20 ?_
    refine x_getR (r := 357) C (j := 7) ob0.1 ob0.2 (Nat.le_of_ble_eq_true rfl) (Nat.le_of_ble_eq_true rfl) (fun _ _ _ => rfl) r_0_7 tw_2_170 dX11_sign_21 ?_
    refine x_aload_n C rfl 0 rfl dX11_sign_24 ?_
    refine x_getI C (j := 8) ob0.1 ob0.2 (Nat.le_of_ble_eq_true rfl) (Nat.le_of_ble_eq_true rfl) (Or.inl rfl) tw_2_171 dX11_sign_25 ?_
    refine x_iload_n C rfl 1 rfl dX11_sign_28 ?_
    refine x_iload_n C rfl 2 rfl dX11_sign_29 ?_
    refine x_iushr C dX11_sign_30 ?_
    refine x_sipush (v := 255) C (by decide) dX11_sign_31 ?_
    refine x_iand C dX11_sign_34 ?_
    obtain ⟨c6, h⟩ := h
    refine x_iast C ob357.1 ob357.2 c6 rfl dX11_sign_35 ?_
    refine x_mu (fun μ7 e_μ7 => ?_)
    have h := h μ7 e_μ7
    refine x_aload_n C rfl 0 rfl dX11_sign_36 ?_
    refine x_dup C rfl dX11_sign_37 ?_
    refine x_getI C (j := 8) ob0.1 ob0.2 (Nat.le_of_ble_eq_true rfl) (Nat.le_of_ble_eq_true rfl) (Or.inl rfl) tw_2_171 dX11_sign_38 ?_
    refine x_iconst (v := 1) C (by decide) dX11_sign_41 ?_
    refine x_iadd C dX11_sign_42 ?_
    refine x_putI C (j := 8) ob0.1 ob0.2 (Nat.le_of_ble_eq_true rfl) (Nat.le_of_ble_eq_true rfl) (Or.inl rfl) rfl rfl rfl tw_2_171 dX11_sign_43 ?_
    refine x_mu (fun μ8 e_μ8 => ?_)
    have h := h μ8 e_μ8
    refine x_iinc (v := (x.1 + (-8))) C [(2, .int (x.1 + (-8))), (0, .ref 0), (1, .int p1)] 2 rfl (congrArg (fun z => x.1 + z) (by decide : Int32.ofInt (-8) = (-8))) (Nat.le_of_ble_eq_true rfl) rfl dX11_sign_46 ?_
    refine x_goto (tgt := 16) C dX11_sign_49 (by decide) ?_
    refine x_sub [(0, .ref 0), (1, .int p1), (2, .int (x.1 + (-8)))] [1, 2, 0] rfl ?_
    exact hK16 _ _ h
theorem G11_sign_L16_ok {p : Program} {e : Env} {s : State} {m : MethodId} {args : Array Value} {below : List Frame} {meth : Method} {c : Code} {l : Launch} {φ : Nat → Nat} {tc : Nat → ClassId} {D : va_G} {s0 : State} {dR : Nat} (C : CX p s m args meth c φ tc D (AX φ) s0 cX11_sign RX11 3) (hd : G11_sign_dep ≤ dR) (hr : meth.sig.returnType = (some .int))  {p1 : Int32} {Q : Int32 → MM → Prop}  {x : Int32 × MM}    (h : Lp (G11_sign_L16 p1 Q) x) : WX p l e (rmX dR) s m args below meth c φ tc D (AX φ) 3 0 0 (MQ below (QX φ tc D (QI Q)) args s 0 0 (AX φ)) 16 [(0, .ref 0), (1, .int p1), (2, .int x.1)] [] x.2 := by
  obtain ⟨n, h⟩ := h
  induction n generalizing x with
  | zero => exact h.elim
  | succ n ih => exact G11_sign_L16_b C hd hr   (fun z2 zμ hz => by have q := ih hz; exact q) h
set_option maxHeartbeats 4000000 in
set_option maxRecDepth 100000 in
theorem G11_sign_met {l : Launch} {φ : Nat → Nat} {tc : Nat → ClassId} {D : va_G} {s0 : State} (hG : GX φ tc D s0) {dR : Nat} (hd : G11_sign_dep ≤ dR) {v1 : Int32} {μ : MM} {Q : Int32 → MM → Prop}  (h : G11_sign v1 μ Q) : MX l φ tc D s0 dR yX11_sign cX11_sign 3 (some .int) [.ref 0, .int v1] μ (QI Q) := by
  refine MX.of (own := RX11) hG plX11 rfl (Nat.le_of_ble_eq_true rfl) (fun p e s m args below meth c C hr => ?_)
  refine x_sub [(0, .ref 0), (1, .int v1)] [0, 1] rfl ?_
  unfold G11_sign at h
  refine x_aload_n C rfl 0 rfl dX11_sign_0 ?_
  refine x_getI C (j := 8) ob0.1 ob0.2 (Nat.le_of_ble_eq_true rfl) (Nat.le_of_ble_eq_true rfl) (Or.inl rfl) tw_2_171 dX11_sign_1 ?_
  refine x_iconst (v := 4) C (by decide) dX11_sign_4 ?_
  refine x_iadd C dX11_sign_5 ?_
  refine x_bipush (v := 60) C (by decide) dX11_sign_6 ?_
  refine x_icmp_le (tgt := 13) C dX11_sign_8 (by decide) (fun c4 => ?_) (fun c4 => ?_)
  · have h := h.1 c4
    refine x_bipush (v := 24) C (by decide) dX11_sign_13 ?_
    refine x_istore_n C [(2, .int 24), (0, .ref 0), (1, .int v1)] rfl (Nat.le_of_ble_eq_true rfl) rfl dX11_sign_15 ?_
    refine x_sub [(0, .ref 0), (1, .int v1), (2, .int 24)] [1, 2, 0] rfl ?_
    exact G11_sign_L16_ok C hd hr  h
  · have h := h.2 c4
    refine x_iconst (v := (-1)) C (by decide) dX11_sign_11 ?_
    exact x_iret C hr dX11_sign_12 ⟨_, rfl, h⟩
set_option maxHeartbeats 4000000 in
set_option maxRecDepth 100000 in
theorem G11_end_met {l : Launch} {φ : Nat → Nat} {tc : Nat → ClassId} {D : va_G} {s0 : State} (hG : GX φ tc D s0) {dR : Nat} (hd : G11_end_dep ≤ dR) {v1 : Int32} {μ : MM} {Q : Int32 → MM → Prop}  (h : G11_end v1 μ Q) : MX l φ tc D s0 dR yX11_end cX11_end 2 (some .boolean) [.ref 0, .int v1] μ (QI Q) := by
  refine MX.of (own := RX11) hG plX11 rfl (Nat.le_of_ble_eq_true rfl) (fun p e s m args below meth c C hr => ?_)
  refine x_sub [(0, .ref 0), (1, .int v1)] [0, 1] rfl ?_
  unfold G11_end at h
  refine x_iload_n C rfl 1 rfl dX11_end_0 ?_
  refine x_iconst (v := 0) C (by decide) dX11_end_1 ?_
  refine x_aload_n C rfl 0 rfl dX11_end_2 ?_
  refine x_getI C (j := 8) ob0.1 ob0.2 (Nat.le_of_ble_eq_true rfl) (Nat.le_of_ble_eq_true rfl) (Or.inl rfl) tw_2_171 dX11_end_3 ?_
  refine x_callS (dC := G11_within_dep) (as := [.int v1, .int 0, .int (gI μ 0 8)]) (st := []) C rX kX (Nat.le_trans (Nat.le_of_ble_eq_true rfl) hd) (Nat.le_of_ble_eq_true rfl) tw_2_196 tw_2_195 tc_2_197 tw_1_1 hyX11 hnX11_within rfl (Nat.le_of_ble_eq_true rfl) dX11_end_6 (G11_within_met C.2.2.2.2.2.2.2.1 (Nat.le_refl _)  h) (fun r0 μ4 hq => ?_)
  obtain ⟨r5, rfl, h⟩ := hq
  refine x_st [.int r5] rfl ?_
  refine x_if_ne (tgt := 14) C dX11_end_9 (by decide) (fun c6 => ?_) (fun c6 => ?_)
  · have h := h.1 c6
    refine x_aload_n C rfl 0 rfl dX11_end_14 ?_
    refine x_iload_n C rfl 1 rfl dX11_end_15 ?_
    refine x_putI C (j := 8) ob0.1 ob0.2 (Nat.le_of_ble_eq_true rfl) (Nat.le_of_ble_eq_true rfl) (Or.inl rfl) rfl rfl rfl tw_2_171 dX11_end_16 ?_
    refine x_mu (fun μ7 e_μ7 => ?_)
    have h := h μ7 e_μ7
    refine x_iconst (v := 1) C (by decide) dX11_end_19 ?_
    exact x_zret C hr bo_1 dX11_end_20 ⟨_, rfl, h⟩
  · have h := h.2 c6
    refine x_iconst (v := 0) C (by decide) dX11_end_12 ?_
    exact x_zret C hr bo_0 dX11_end_13 ⟨_, rfl, h⟩
set_option maxHeartbeats 4000000 in
set_option maxRecDepth 100000 in
theorem G3_isDigit_J16_ok {p : Program} {e : Env} {s : State} {m : MethodId} {args : Array Value} {below : List Frame} {meth : Method} {c : Code} {l : Launch} {φ : Nat → Nat} {tc : Nat → ClassId} {D : va_G} {s0 : State} {dR : Nat} (C : CX p s m args meth c φ tc D (AX φ) s0 cX3_isDigit RX3 1) (hd : G3_isDigit_dep ≤ dR) (hr : meth.sig.returnType = (some .boolean))    {Q : Int32 → MM → Prop}  {μ : MM}    (h : G3_isDigit_J16 μ Q) : WX p l e (rmX dR) s m args below meth c φ tc D (AX φ) 1 0 0 (MQ below (QX φ tc D (QI Q)) args s 0 0 (AX φ)) 16 [] [] μ := by
  unfold G3_isDigit_J16 at h
  refine x_iconst (v := 0) C (by decide) dX3_isDigit_16 ?_
  exact x_zret C hr bo_0 dX3_isDigit_17 ⟨_, rfl, h⟩
set_option maxHeartbeats 4000000 in
set_option maxRecDepth 100000 in
theorem G3_isDigit_met {l : Launch} {φ : Nat → Nat} {tc : Nat → ClassId} {D : va_G} {s0 : State} (hG : GX φ tc D s0) {dR : Nat} (hd : G3_isDigit_dep ≤ dR) {v0 : Int32} {μ : MM} {Q : Int32 → MM → Prop}  (h : G3_isDigit v0 μ Q) : MX l φ tc D s0 dR yX3_isDigit cX3_isDigit 1 (some .boolean) [.int v0] μ (QI Q) := by
  refine MX.of (own := RX3) hG plX3 rfl (Nat.le_of_ble_eq_true rfl) (fun p e s m args below meth c C hr => ?_)
  refine x_sub [(0, .int v0)] [0] rfl ?_
  unfold G3_isDigit at h
  refine x_iload_n C rfl 0 rfl dX3_isDigit_0 ?_
  refine x_bipush (v := 48) C (by decide) dX3_isDigit_1 ?_
  refine x_icmp_lt (tgt := 16) C dX3_isDigit_3 (by decide) (fun c1 => ?_) (fun c1 => ?_)
  · have h := h.1 c1
    refine x_sub [] [] rfl ?_
    exact G3_isDigit_J16_ok C hd hr  h
  · have h := h.2 c1
    refine x_iload_n C rfl 0 rfl dX3_isDigit_6 ?_
    refine x_bipush (v := 57) C (by decide) dX3_isDigit_7 ?_
    refine x_icmp_gt (tgt := 16) C dX3_isDigit_9 (by decide) (fun c2 => ?_) (fun c2 => ?_)
    · have h := h.1 c2
      refine x_sub [] [] rfl ?_
      exact G3_isDigit_J16_ok C hd hr  h
    · have h := h.2 c2
      refine x_iconst (v := 1) C (by decide) dX3_isDigit_12 ?_
      refine x_goto (tgt := 17) C dX3_isDigit_13 (by decide) ?_
      exact x_zret C hr bo_1 dX3_isDigit_17 ⟨_, rfl, h⟩
set_option maxHeartbeats 4000000 in
set_option maxRecDepth 100000 in
theorem G3_strength_met {l : Launch} {φ : Nat → Nat} {tc : Nat → ClassId} {D : va_G} {s0 : State} (hG : GX φ tc D s0) {dR : Nat} (hd : G3_strength_dep ≤ dR) {v0 : Int32} {μ : MM} {Q : Int32 → MM → Prop}  (h : G3_strength v0 μ Q) : MX l φ tc D s0 dR yX3_strength cX3_strength 1 (some .int) [.int v0] μ (QI Q) := by
  refine MX.of (own := RX3) hG plX3 rfl (Nat.le_of_ble_eq_true rfl) (fun p e s m args below meth c C hr => ?_)
  refine x_sub [(0, .int v0)] [0] rfl ?_
  unfold G3_strength at h
  refine x_iload_n C rfl 0 rfl dX3_strength_0 ?_
  by_cases c1 : v0 = 33
  · have h := h.1 c1
    refine x_look (tgt := 102) C dX3_strength_1 (by decide) (off := 101) (by rw [c1]; decide) (by decide) ?_
    refine x_bipush (v := 6) C (by decide) dX3_strength_102 ?_
    exact x_iret C hr dX3_strength_104 ⟨_, rfl, h⟩
  have h := h.2
  by_cases c2 : v0 = 38
  · have h := h.1 c2
    refine x_look (tgt := 94) C dX3_strength_1 (by decide) (off := 93) (by rw [c2]; decide) (by decide) ?_
    refine x_iconst (v := 2) C (by decide) dX3_strength_94 ?_
    exact x_iret C hr dX3_strength_95 ⟨_, rfl, h⟩
  have h := h.2
  by_cases c3 : v0 = 42
  · have h := h.1 c3
    refine x_look (tgt := 100) C dX3_strength_1 (by decide) (off := 99) (by rw [c3]; decide) (by decide) ?_
    refine x_iconst (v := 5) C (by decide) dX3_strength_100 ?_
    exact x_iret C hr dX3_strength_101 ⟨_, rfl, h⟩
  have h := h.2
  by_cases c4 : v0 = 43
  · have h := h.1 c4
    refine x_look (tgt := 98) C dX3_strength_1 (by decide) (off := 97) (by rw [c4]; decide) (by decide) ?_
    refine x_iconst (v := 4) C (by decide) dX3_strength_98 ?_
    exact x_iret C hr dX3_strength_99 ⟨_, rfl, h⟩
  have h := h.2
  by_cases c5 : v0 = 45
  · have h := h.1 c5
    refine x_look (tgt := 98) C dX3_strength_1 (by decide) (off := 97) (by rw [c5]; decide) (by decide) ?_
    refine x_iconst (v := 4) C (by decide) dX3_strength_98 ?_
    exact x_iret C hr dX3_strength_99 ⟨_, rfl, h⟩
  have h := h.2
  by_cases c6 : v0 = 60
  · have h := h.1 c6
    refine x_look (tgt := 96) C dX3_strength_1 (by decide) (off := 95) (by rw [c6]; decide) (by decide) ?_
    refine x_iconst (v := 3) C (by decide) dX3_strength_96 ?_
    exact x_iret C hr dX3_strength_97 ⟨_, rfl, h⟩
  have h := h.2
  by_cases c7 : v0 = 61
  · have h := h.1 c7
    refine x_look (tgt := 96) C dX3_strength_1 (by decide) (off := 95) (by rw [c7]; decide) (by decide) ?_
    refine x_iconst (v := 3) C (by decide) dX3_strength_96 ?_
    exact x_iret C hr dX3_strength_97 ⟨_, rfl, h⟩
  have h := h.2
  by_cases c8 : v0 = 62
  · have h := h.1 c8
    refine x_look (tgt := 96) C dX3_strength_1 (by decide) (off := 95) (by rw [c8]; decide) (by decide) ?_
    refine x_iconst (v := 3) C (by decide) dX3_strength_96 ?_
    exact x_iret C hr dX3_strength_97 ⟨_, rfl, h⟩
  have h := h.2
  by_cases c9 : v0 = 124
  · have h := h.1 c9
    refine x_look (tgt := 92) C dX3_strength_1 (by decide) (off := 91) (by rw [c9]; decide) (by decide) ?_
    refine x_iconst (v := 1) C (by decide) dX3_strength_92 ?_
    exact x_iret C hr dX3_strength_93 ⟨_, rfl, h⟩
  have h := h.2
  by_cases c10 : v0 = 126
  · have h := h.1 c10
    refine x_look (tgt := 102) C dX3_strength_1 (by decide) (off := 101) (by rw [c10]; decide) (by decide) ?_
    refine x_bipush (v := 6) C (by decide) dX3_strength_102 ?_
    exact x_iret C hr dX3_strength_104 ⟨_, rfl, h⟩
  have h := h.2
  have h := h c1 c2 c3 c4 c5 c6 c7 c8 c9 c10
  refine x_look (tgt := 105) C dX3_strength_1 (by decide) (off := 104) (by show Op.lookupswitch.offset [(33, 101), (38, 93), (42, 99), (43, 97), (45, 97), (60, 95), (61, 95), (62, 95), (124, 91), (126, 101)] 104 _ = 104; rw [lv_osw c1 (by decide), lv_osw c2 (by decide), lv_osw c3 (by decide), lv_osw c4 (by decide), lv_osw c5 (by decide), lv_osw c6 (by decide), lv_osw c7 (by decide), lv_osw c8 (by decide), lv_osw c9 (by decide), lv_osw c10 (by decide)]; rfl) (by decide) ?_
  refine x_iconst (v := 0) C (by decide) dX3_strength_105 ?_
  exact x_iret C hr dX3_strength_106 ⟨_, rfl, h⟩
set_option maxHeartbeats 4000000 in
set_option maxRecDepth 100000 in
theorem G3_isJoining_met {l : Launch} {φ : Nat → Nat} {tc : Nat → ClassId} {D : va_G} {s0 : State} (hG : GX φ tc D s0) {dR : Nat} (hd : G3_isJoining_dep ≤ dR) {v0 : Int32} {μ : MM} {Q : Int32 → MM → Prop}  (h : G3_isJoining v0 μ Q) : MX l φ tc D s0 dR yX3_isJoining cX3_isJoining 1 (some .boolean) [.int v0] μ (QI Q) := by
  refine MX.of (own := RX3) hG plX3 rfl (Nat.le_of_ble_eq_true rfl) (fun p e s m args below meth c C hr => ?_)
  refine x_sub [(0, .int v0)] [0] rfl ?_
  unfold G3_isJoining at h
  refine x_iload_n C rfl 0 rfl dX3_isJoining_0 ?_
  refine x_callS (dC := G3_strength_dep) (as := [.int v0]) (st := []) C rX kX (Nat.le_trans (Nat.le_of_ble_eq_true rfl) hd) (Nat.le_of_ble_eq_true rfl) tw_3_135 tw_3_134 tc_3_136 tw_1_4 hyX3 hnX3_strength rfl (Nat.le_of_ble_eq_true rfl) dX3_isJoining_1 (G3_strength_met C.2.2.2.2.2.2.2.1 (Nat.le_refl _)  h) (fun r0 μ5 hq => ?_)
  obtain ⟨r6, rfl, h⟩ := hq
  refine x_st [.int r6] rfl ?_
  refine x_iconst (v := 1) C (by decide) dX3_isJoining_4 ?_
  refine x_iconst (v := 5) C (by decide) dX3_isJoining_5 ?_
  refine x_callSN (dC := G11_within_dep) (as := [.int r6, .int 1, .int 5]) (st := []) C rX kX (Nat.le_trans (Nat.le_of_ble_eq_true rfl) hd) (Nat.le_of_ble_eq_true rfl) tw_2_196 tw_3_140 tc_2_197 tw_1_1 hyX11 hnX11_within rfl (Nat.le_of_ble_eq_true rfl) dX3_isJoining_6 (G11_within_met C.2.2.2.2.2.2.2.1 (Nat.le_refl _)  h) (fun r0 μ7 hq => ?_)
  obtain ⟨r8, rfl, h⟩ := hq
  refine x_st [.int r8] rfl ?_
  exact x_zret C hr h.1 dX3_isJoining_9 ⟨_, rfl, h.2⟩
set_option maxHeartbeats 4000000 in
set_option maxRecDepth 100000 in
theorem G3_pop_met {l : Launch} {φ : Nat → Nat} {tc : Nat → ClassId} {D : va_G} {s0 : State} (hG : GX φ tc D s0) {dR : Nat} (hd : G3_pop_dep ≤ dR) {t : Nat} {μ : MM} {Q : Int32 → MM → Prop} (o_t : Ob t 3) (h : G3_pop t μ Q) : MX l φ tc D s0 dR yX3_pop cX3_pop 1 (some .int) [.ref t] μ (QI Q) := by
  refine MX.of (own := RX3) hG plX3 rfl (Nat.le_of_ble_eq_true rfl) (fun p e s m args below meth c C hr => ?_)
  refine x_sub [(0, .ref t)] [0] rfl ?_
  unfold G3_pop at h
  refine x_aload_n C rfl 0 rfl dX3_pop_0 ?_
  refine x_getI C (j := 3) o_t.1 o_t.2 (Nat.le_of_ble_eq_true rfl) (Nat.le_of_ble_eq_true rfl) (Or.inl rfl) tw_1_112 dX3_pop_1 ?_
  refine x_if_ne (tgt := 9) C dX3_pop_4 (by decide) (fun c3 => ?_) (fun c3 => ?_)
  · have h := h.1 c3
    refine x_aload_n C rfl 0 rfl dX3_pop_9 ?_
    refine x_dup C rfl dX3_pop_10 ?_
    refine x_getI C (j := 3) o_t.1 o_t.2 (Nat.le_of_ble_eq_true rfl) (Nat.le_of_ble_eq_true rfl) (Or.inl rfl) tw_1_112 dX3_pop_11 ?_
    refine x_iconst (v := 1) C (by decide) dX3_pop_14 ?_
    refine x_isub C dX3_pop_15 ?_
    refine x_putI C (j := 3) o_t.1 o_t.2 (Nat.le_of_ble_eq_true rfl) (Nat.le_of_ble_eq_true rfl) (Or.inl rfl) rfl rfl rfl tw_1_112 dX3_pop_16 ?_
    refine x_mu (fun μ4 e_μ4 => ?_)
    have h := h μ4 e_μ4
    refine x_aload_n C rfl 0 rfl dX3_pop_19 ?_
    refine x_getR (r := (t + 2)) C (j := 2) o_t.1 o_t.2 (Nat.le_of_ble_eq_true rfl) (Nat.le_of_ble_eq_true rfl) (fun _ _ _ => rfl) (rF3_2 o_t) tw_1_111 dX3_pop_20 ?_
    refine x_aload_n C rfl 0 rfl dX3_pop_23 ?_
    refine x_getI C (j := 3) o_t.1 o_t.2 (Nat.le_of_ble_eq_true rfl) (Nat.le_of_ble_eq_true rfl) (Or.inl rfl) tw_1_112 dX3_pop_24 ?_
    obtain ⟨c5, h⟩ := h
    refine x_iald C (obF3_2 o_t).1 (obF3_2 o_t).2 (by rw [lnF3_2 o_t]; exact c5) rfl dX3_pop_27 ?_
    exact x_iret C hr dX3_pop_28 ⟨_, rfl, h⟩
  · have h := h.2 c3
    refine x_iconst (v := 0) C (by decide) dX3_pop_7 ?_
    exact x_iret C hr dX3_pop_8 ⟨_, rfl, h⟩
set_option maxHeartbeats 4000000 in
set_option maxRecDepth 100000 in
theorem G3_push_met {l : Launch} {φ : Nat → Nat} {tc : Nat → ClassId} {D : va_G} {s0 : State} (hG : GX φ tc D s0) {dR : Nat} (hd : G3_push_dep ≤ dR) {t : Nat} {v1 : Int32} {μ : MM} {Q : MM → Prop} (o_t : Ob t 3) (h : G3_push t v1 μ Q) : MX l φ tc D s0 dR yX3_push cX3_push 2 none [.ref t, .int v1] μ (QV Q) := by
  refine MX.of (own := RX3) hG plX3 rfl (Nat.le_of_ble_eq_true rfl) (fun p e s m args below meth c C hr => ?_)
  refine x_sub [(0, .ref t), (1, .int v1)] [0, 1] rfl ?_
  unfold G3_push at h
  refine x_aload_n C rfl 0 rfl dX3_push_0 ?_
  refine x_getI C (j := 3) o_t.1 o_t.2 (Nat.le_of_ble_eq_true rfl) (Nat.le_of_ble_eq_true rfl) (Or.inl rfl) tw_1_112 dX3_push_1 ?_
  refine x_bipush (v := 40) C (by decide) dX3_push_4 ?_
  refine x_icmp_ge (tgt := 29) C dX3_push_6 (by decide) (fun c4 => ?_) (fun c4 => ?_)
  · have h := h.1 c4
    exact x_vret C hr dX3_push_29 ⟨rfl, h⟩
  · have h := h.2 c4
    refine x_aload_n C rfl 0 rfl dX3_push_9 ?_
    refine x_getR (r := (t + 2)) C (j := 2) o_t.1 o_t.2 (Nat.le_of_ble_eq_true rfl) (Nat.le_of_ble_eq_true rfl) (fun _ _ _ => rfl) (rF3_2 o_t) tw_1_111 dX3_push_10 ?_
    refine x_aload_n C rfl 0 rfl dX3_push_13 ?_
    refine x_getI C (j := 3) o_t.1 o_t.2 (Nat.le_of_ble_eq_true rfl) (Nat.le_of_ble_eq_true rfl) (Or.inl rfl) tw_1_112 dX3_push_14 ?_
    refine x_iload_n C rfl 1 rfl dX3_push_17 ?_
    obtain ⟨c5, h⟩ := h
    refine x_iast C (obF3_2 o_t).1 (obF3_2 o_t).2 (by rw [lnF3_2 o_t]; exact c5) rfl dX3_push_18 ?_
    refine x_mu (fun μ6 e_μ6 => ?_)
    have h := h μ6 e_μ6
    refine x_aload_n C rfl 0 rfl dX3_push_19 ?_
    refine x_dup C rfl dX3_push_20 ?_
    refine x_getI C (j := 3) o_t.1 o_t.2 (Nat.le_of_ble_eq_true rfl) (Nat.le_of_ble_eq_true rfl) (Or.inl rfl) tw_1_112 dX3_push_21 ?_
    refine x_iconst (v := 1) C (by decide) dX3_push_24 ?_
    refine x_iadd C dX3_push_25 ?_
    refine x_putI C (j := 3) o_t.1 o_t.2 (Nat.le_of_ble_eq_true rfl) (Nat.le_of_ble_eq_true rfl) (Or.inl rfl) rfl rfl rfl tw_1_112 dX3_push_26 ?_
    refine x_mu (fun μ7 e_μ7 => ?_)
    have h := h μ7 e_μ7
    exact x_vret C hr dX3_push_29 ⟨rfl, h⟩
set_option maxHeartbeats 4000000 in
set_option maxRecDepth 100000 in
theorem G3_put_met {l : Launch} {φ : Nat → Nat} {tc : Nat → ClassId} {D : va_G} {s0 : State} (hG : GX φ tc D s0) {dR : Nat} (hd : G3_put_dep ≤ dR) {t : Nat} {v1 : Int32} {μ : MM} {Q : MM → Prop} (o_t : Ob t 3) (h : G3_put t v1 μ Q) : MX l φ tc D s0 dR yX3_put cX3_put 2 none [.ref t, .int v1] μ (QV Q) := by
  refine MX.of (own := RX3) hG plX3 rfl (Nat.le_of_ble_eq_true rfl) (fun p e s m args below meth c C hr => ?_)
  refine x_sub [(0, .ref t), (1, .int v1)] [0, 1] rfl ?_
  unfold G3_put at h
  refine x_aload_n C rfl 0 rfl dX3_put_0 ?_
  refine x_getI C (j := 1) o_t.1 o_t.2 (Nat.le_of_ble_eq_true rfl) (Nat.le_of_ble_eq_true rfl) (Or.inl rfl) tw_1_110 dX3_put_1 ?_
  refine x_bipush (v := 40) C (by decide) dX3_put_4 ?_
  refine x_icmp_ge (tgt := 29) C dX3_put_6 (by decide) (fun c4 => ?_) (fun c4 => ?_)
  · have h := h.1 c4
    exact x_vret C hr dX3_put_29 ⟨rfl, h⟩
  · have h := h.2 c4
    refine x_aload_n C rfl 0 rfl dX3_put_9 ?_
    refine x_getR (r := (t + 1)) C (j := 0) o_t.1 o_t.2 (Nat.le_of_ble_eq_true rfl) (Nat.le_of_ble_eq_true rfl) (fun _ _ _ => rfl) (rF3_0 o_t) tw_1_109 dX3_put_10 ?_
    refine x_aload_n C rfl 0 rfl dX3_put_13 ?_
    refine x_getI C (j := 1) o_t.1 o_t.2 (Nat.le_of_ble_eq_true rfl) (Nat.le_of_ble_eq_true rfl) (Or.inl rfl) tw_1_110 dX3_put_14 ?_
    refine x_iload_n C rfl 1 rfl dX3_put_17 ?_
    obtain ⟨c5, h⟩ := h
    refine x_iast C (obF3_0 o_t).1 (obF3_0 o_t).2 (by rw [lnF3_0 o_t]; exact c5) rfl dX3_put_18 ?_
    refine x_mu (fun μ6 e_μ6 => ?_)
    have h := h μ6 e_μ6
    refine x_aload_n C rfl 0 rfl dX3_put_19 ?_
    refine x_dup C rfl dX3_put_20 ?_
    refine x_getI C (j := 1) o_t.1 o_t.2 (Nat.le_of_ble_eq_true rfl) (Nat.le_of_ble_eq_true rfl) (Or.inl rfl) tw_1_110 dX3_put_21 ?_
    refine x_iconst (v := 1) C (by decide) dX3_put_24 ?_
    refine x_iadd C dX3_put_25 ?_
    refine x_putI C (j := 1) o_t.1 o_t.2 (Nat.le_of_ble_eq_true rfl) (Nat.le_of_ble_eq_true rfl) (Or.inl rfl) rfl rfl rfl tw_1_110 dX3_put_26 ?_
    refine x_mu (fun μ7 e_μ7 => ?_)
    have h := h μ7 e_μ7
    exact x_vret C hr dX3_put_29 ⟨rfl, h⟩
set_option maxHeartbeats 4000000 in
set_option maxRecDepth 100000 in
theorem G3_putDigit_J41_ok {p : Program} {e : Env} {s : State} {m : MethodId} {args : Array Value} {below : List Frame} {meth : Method} {c : Code} {l : Launch} {φ : Nat → Nat} {tc : Nat → ClassId} {D : va_G} {s0 : State} {dR : Nat} (C : CX p s m args meth c φ tc D (AX φ) s0 cX3_putDigit RX3 3) (hd : G3_putDigit_dep ≤ dR) (hr : meth.sig.returnType = none)  {t : Nat} {p1 : Int32} {Q : MM → Prop}  {μ : MM} (o_t : Ob t 3)   (h : G3_putDigit_J41 t p1 μ Q) : WX p l e (rmX dR) s m args below meth c φ tc D (AX φ) 3 0 0 (MQ below (QX φ tc D (QV Q)) args s 0 0 (AX φ)) 41 [(0, .ref t), (1, .int p1)] [] μ := by
  unfold G3_putDigit_J41 at h
  refine x_aload_n C rfl 0 rfl dX3_putDigit_41 ?_
  refine x_iload_n C rfl 1 rfl dX3_putDigit_42 ?_
  refine x_callV (dC := G3_put_dep) (as := [.int p1]) (st := []) C rX kX (Nat.le_trans (Nat.le_of_ble_eq_true rfl) hd) (Nat.le_of_ble_eq_true rfl) o_t.1 o_t.2 (Nat.le_of_ble_eq_true rfl) rfl ts_1_15 tw_3_151 tw_3_149 tc_3_152 tw_1_4 hyX3 hnX3_put rfl (Nat.le_of_ble_eq_true rfl) dX3_putDigit_43 (G3_put_met C.2.2.2.2.2.2.2.1 (Nat.le_refl _) o_t h) (fun r0 μ6 hq => ?_)
  obtain ⟨rfl, h⟩ := hq
  refine x_st [] rfl ?_
  exact x_vret C hr dX3_putDigit_46 ⟨rfl, h⟩
set_option maxHeartbeats 4000000 in
set_option maxRecDepth 100000 in
theorem G3_putDigit_met {l : Launch} {φ : Nat → Nat} {tc : Nat → ClassId} {D : va_G} {s0 : State} (hG : GX φ tc D s0) {dR : Nat} (hd : G3_putDigit_dep ≤ dR) {t : Nat} {v1 : Int32} {v2 : Int32} {μ : MM} {Q : MM → Prop} (o_t : Ob t 3) (h : G3_putDigit t v1 v2 μ Q) : MX l φ tc D s0 dR yX3_putDigit cX3_putDigit 3 none [.ref t, .int v1, .int v2] μ (QV Q) := by
  refine MX.of (own := RX3) hG plX3 rfl (Nat.le_of_ble_eq_true rfl) (fun p e s m args below meth c C hr => ?_)
  refine x_sub [(0, .ref t), (1, .int v1), (2, .int v2)] [0, 1, 2] rfl ?_
  unfold G3_putDigit at h
  refine x_iload_n C rfl 2 rfl dX3_putDigit_0 ?_
  refine x_if_eq (tgt := 41) C dX3_putDigit_1 (by decide) (fun c5 => ?_) (fun c5 => ?_)
  · have h := h.1 c5
    refine x_sub [(0, .ref t), (1, .int v1)] [0, 1] rfl ?_
    exact G3_putDigit_J41_ok C hd hr o_t h
  · have h := h.2 c5
    refine x_aload_n C rfl 0 rfl dX3_putDigit_4 ?_
    refine x_getI C (j := 1) o_t.1 o_t.2 (Nat.le_of_ble_eq_true rfl) (Nat.le_of_ble_eq_true rfl) (Or.inl rfl) tw_1_110 dX3_putDigit_5 ?_
    refine x_if_le (tgt := 41) C dX3_putDigit_8 (by decide) (fun c7 => ?_) (fun c7 => ?_)
    · have h := h.1 c7
      refine x_sub [(0, .ref t), (1, .int v1)] [0, 1] rfl ?_
      exact G3_putDigit_J41_ok C hd hr o_t h
    · have h := h.2 c7
      refine x_aload_n C rfl 0 rfl dX3_putDigit_11 ?_
      refine x_getR (r := (t + 1)) C (j := 0) o_t.1 o_t.2 (Nat.le_of_ble_eq_true rfl) (Nat.le_of_ble_eq_true rfl) (fun _ _ _ => rfl) (rF3_0 o_t) tw_1_109 dX3_putDigit_12 ?_
      refine x_aload_n C rfl 0 rfl dX3_putDigit_15 ?_
      refine x_getI C (j := 1) o_t.1 o_t.2 (Nat.le_of_ble_eq_true rfl) (Nat.le_of_ble_eq_true rfl) (Or.inl rfl) tw_1_110 dX3_putDigit_16 ?_
      refine x_iconst (v := 1) C (by decide) dX3_putDigit_19 ?_
      refine x_isub C dX3_putDigit_20 ?_
      refine x_aload_n C rfl 0 rfl dX3_putDigit_21 ?_
      refine x_getR (r := (t + 1)) C (j := 0) o_t.1 o_t.2 (Nat.le_of_ble_eq_true rfl) (Nat.le_of_ble_eq_true rfl) (fun _ _ _ => rfl) (rF3_0 o_t) tw_1_109 dX3_putDigit_22 ?_
      refine x_aload_n C rfl 0 rfl dX3_putDigit_25 ?_
      refine x_getI C (j := 1) o_t.1 o_t.2 (Nat.le_of_ble_eq_true rfl) (Nat.le_of_ble_eq_true rfl) (Or.inl rfl) tw_1_110 dX3_putDigit_26 ?_
      refine x_iconst (v := 1) C (by decide) dX3_putDigit_29 ?_
      refine x_isub C dX3_putDigit_30 ?_
      obtain ⟨c8, h⟩ := h
      refine x_iald C (obF3_0 o_t).1 (obF3_0 o_t).2 (by rw [lnF3_0 o_t]; exact c8) rfl dX3_putDigit_31 ?_
      refine x_bipush (v := 10) C (by decide) dX3_putDigit_32 ?_
      refine x_imul C dX3_putDigit_34 ?_
      refine x_iload_n C rfl 1 rfl dX3_putDigit_35 ?_
      refine x_iadd C dX3_putDigit_36 ?_
      obtain ⟨c9, h⟩ := h
      refine x_iast C (obF3_0 o_t).1 (obF3_0 o_t).2 (by rw [lnF3_0 o_t]; exact c9) rfl dX3_putDigit_37 ?_
      refine x_mu (fun μ10 e_μ10 => ?_)
      have h := h μ10 e_μ10
      refine x_goto (tgt := 46) C dX3_putDigit_38 (by decide) ?_
      exact x_vret C hr dX3_putDigit_46 ⟨rfl, h⟩
set_option maxHeartbeats 4000000 in
set_option maxRecDepth 100000 in
theorem G3_putStronger_L5_b {p : Program} {e : Env} {s : State} {m : MethodId} {args : Array Value} {below : List Frame} {meth : Method} {c : Code} {l : Launch} {φ : Nat → Nat} {tc : Nat → ClassId} {D : va_G} {s0 : State} {dR : Nat} (C : CX p s m args meth c φ tc D (AX φ) s0 cX3_putStronger RX3 3) (hd : G3_putStronger_dep ≤ dR) (hr : meth.sig.returnType = none) {t : Nat} {p1 : Int32} {Q : MM → Prop} {K5 : Int32 × MM → Prop} {x : Int32 × MM} (o_t : Ob t 3)  (hK5 : ∀ (z2 : Int32) (zμ : MM), K5 (z2, zμ) → WX p l e (rmX dR) s m args below meth c φ tc D (AX φ) 3 0 0 (MQ below (QX φ tc D (QV Q)) args s 0 0 (AX φ)) 5 [(0, .ref t), (1, .int p1), (2, .int z2)] [] zμ) (h : G3_putStronger_L5 t p1 Q K5 x) : WX p l e (rmX dR) s m args below meth c φ tc D (AX φ) 3 0 0 (MQ below (QX φ tc D (QV Q)) args s 0 0 (AX φ)) 5 [(0, .ref t), (1, .int p1), (2, .int x.1)] [] x.2 := by
  unfold G3_putStronger_L5 at h
  refine x_iload_n C rfl 2 rfl dX3_putStronger_5 ?_
  refine x_if_le (tgt := 39) C dX3_putStronger_6 (by decide) (fun c9 => ?_) (fun c9 => ?_)
  · have h := h.1 c9
    exact x_vret C hr dX3_putStronger_39 ⟨rfl, h⟩
  · have h := h.2 c9
    refine x_aload_n C rfl 0 rfl dX3_putStronger_9 ?_
    refine x_getR (r := (t + 2)) C (j := 2) o_t.1 o_t.2 (Nat.le_of_ble_eq_true rfl) (Nat.le_of_ble_eq_true rfl) (fun _ _ _ => rfl) (rF3_2 o_t) tw_1_111 dX3_putStronger_10 ?_
    refine x_iload_n C rfl 2 rfl dX3_putStronger_13 ?_
    refine x_iconst (v := 1) C (by decide) dX3_putStronger_14 ?_
    refine x_isub C dX3_putStronger_15 ?_
    obtain ⟨c10, h⟩ := h
    refine x_iald C (obF3_2 o_t).1 (obF3_2 o_t).2 (by rw [lnF3_2 o_t]; exact c10) rfl dX3_putStronger_16 ?_
    refine x_callS (dC := G3_strength_dep) (as := [.int (gI x.2 (t + 2) ((x.1 - 1).toNatClampNeg))]) (st := []) C rX kX (Nat.le_trans (Nat.le_of_ble_eq_true rfl) hd) (Nat.le_of_ble_eq_true rfl) tw_3_135 tw_3_134 tc_3_136 tw_1_4 hyX3 hnX3_strength rfl (Nat.le_of_ble_eq_true rfl) dX3_putStronger_17 (G3_strength_met C.2.2.2.2.2.2.2.1 (Nat.le_refl _)  h) (fun r0 μ11 hq => ?_)
    obtain ⟨r12, rfl, h⟩ := hq
    refine x_st [.int r12] rfl ?_
    refine x_iload_n C rfl 1 rfl dX3_putStronger_20 ?_
    refine x_icmp_lt (tgt := 39) C dX3_putStronger_21 (by decide) (fun c13 => ?_) (fun c13 => ?_)
    · have h := h.1 c13
      exact x_vret C hr dX3_putStronger_39 ⟨rfl, h⟩
    · have h := h.2 c13
      refine x_aload_n C rfl 0 rfl dX3_putStronger_24 ?_
      refine x_aload_n C rfl 0 rfl dX3_putStronger_25 ?_
      refine x_callV (dC := G3_pop_dep) (as := []) (st := [.ref t]) C rX kX (Nat.le_trans (Nat.le_of_ble_eq_true rfl) hd) (Nat.le_of_ble_eq_true rfl) o_t.1 o_t.2 (Nat.le_of_ble_eq_true rfl) rfl ts_2_2 tw_3_163 tw_3_161 tc_3_164 tw_1_4 hyX3 hnX3_pop rfl (Nat.le_of_ble_eq_true rfl) dX3_putStronger_26 (G3_pop_met C.2.2.2.2.2.2.2.1 (Nat.le_refl _) o_t h) (fun r0 μ14 hq => ?_)
      obtain ⟨r15, rfl, h⟩ := hq
      refine x_st [.int r15, .ref t] rfl ?_
      refine x_ineg C dX3_putStronger_29 ?_
      refine x_callV (dC := G3_put_dep) (as := [.int (-r15)]) (st := []) C rX kX (Nat.le_trans (Nat.le_of_ble_eq_true rfl) hd) (Nat.le_of_ble_eq_true rfl) o_t.1 o_t.2 (Nat.le_of_ble_eq_true rfl) rfl ts_1_15 tw_3_151 tw_3_149 tc_3_152 tw_1_4 hyX3 hnX3_put rfl (Nat.le_of_ble_eq_true rfl) dX3_putStronger_30 (G3_put_met C.2.2.2.2.2.2.2.1 (Nat.le_refl _) o_t h) (fun r0 μ16 hq => ?_)
      obtain ⟨rfl, h⟩ := hq
      refine x_st [] rfl ?_
      refine x_iinc (v := (x.1 + (-1))) C [(2, .int (x.1 + (-1))), (0, .ref t), (1, .int p1)] 2 rfl (congrArg (fun z => x.1 + z) (by decide : Int32.ofInt (-1) = (-1))) (Nat.le_of_ble_eq_true rfl) rfl dX3_putStronger_33 ?_
      refine x_goto (tgt := 5) C dX3_putStronger_36 (by decide) ?_
      refine x_sub [(0, .ref t), (1, .int p1), (2, .int (x.1 + (-1)))] [1, 2, 0] rfl ?_
      exact hK5 _ _ h
theorem G3_putStronger_L5_ok {p : Program} {e : Env} {s : State} {m : MethodId} {args : Array Value} {below : List Frame} {meth : Method} {c : Code} {l : Launch} {φ : Nat → Nat} {tc : Nat → ClassId} {D : va_G} {s0 : State} {dR : Nat} (C : CX p s m args meth c φ tc D (AX φ) s0 cX3_putStronger RX3 3) (hd : G3_putStronger_dep ≤ dR) (hr : meth.sig.returnType = none) {t : Nat} {p1 : Int32} {Q : MM → Prop}  {x : Int32 × MM} (o_t : Ob t 3)   (h : Lp (G3_putStronger_L5 t p1 Q) x) : WX p l e (rmX dR) s m args below meth c φ tc D (AX φ) 3 0 0 (MQ below (QX φ tc D (QV Q)) args s 0 0 (AX φ)) 5 [(0, .ref t), (1, .int p1), (2, .int x.1)] [] x.2 := by
  obtain ⟨n, h⟩ := h
  induction n generalizing x with
  | zero => exact h.elim
  | succ n ih => exact G3_putStronger_L5_b C hd hr o_t  (fun z2 zμ hz => by have q := ih hz; exact q) h
set_option maxHeartbeats 4000000 in
set_option maxRecDepth 100000 in
theorem G3_putStronger_met {l : Launch} {φ : Nat → Nat} {tc : Nat → ClassId} {D : va_G} {s0 : State} (hG : GX φ tc D s0) {dR : Nat} (hd : G3_putStronger_dep ≤ dR) {t : Nat} {v1 : Int32} {μ : MM} {Q : MM → Prop} (o_t : Ob t 3) (h : G3_putStronger t v1 μ Q) : MX l φ tc D s0 dR yX3_putStronger cX3_putStronger 3 none [.ref t, .int v1] μ (QV Q) := by
  refine MX.of (own := RX3) hG plX3 rfl (Nat.le_of_ble_eq_true rfl) (fun p e s m args below meth c C hr => ?_)
  refine x_sub [(0, .ref t), (1, .int v1)] [0, 1] rfl ?_
  unfold G3_putStronger at h
  refine x_aload_n C rfl 0 rfl dX3_putStronger_0 ?_
  refine x_getI C (j := 3) o_t.1 o_t.2 (Nat.le_of_ble_eq_true rfl) (Nat.le_of_ble_eq_true rfl) (Or.inl rfl) tw_1_112 dX3_putStronger_1 ?_
  refine x_topi (fun y8 e_y8 => ?_)
  have h := h y8 e_y8
  refine x_istore_n C [(2, .int y8), (0, .ref t), (1, .int v1)] rfl (Nat.le_of_ble_eq_true rfl) rfl dX3_putStronger_4 ?_
  refine x_sub [(0, .ref t), (1, .int v1), (2, .int y8)] [1, 2, 0] rfl ?_
  exact G3_putStronger_L5_ok C hd hr o_t h
set_option maxHeartbeats 4000000 in
set_option maxRecDepth 100000 in
theorem GJ0_isLatin1_aae02_met {l : Launch} {φ : Nat → Nat} {tc : Nat → ClassId} {D : va_G} {s0 : State} (hG : GX φ tc D s0) {dR : Nat} (hd : GJ0_isLatin1_aae02_dep ≤ dR) {t : Nat} {μ : MM} {Q : Int32 → MM → Prop} (o_t : t < nJS) (h : GJ0_isLatin1_aae02 t μ Q) : MX l φ tc D s0 dR yJ0_isLatin1_aae02 cJ0_isLatin1_aae02 1 (some .boolean) [.ref (500 + t)] μ (QI Q) := by
  refine MX.of (own := RJ0) hG plJ0 rfl (Nat.le_of_ble_eq_true rfl) (fun p e s m args below meth c C hr => ?_)
  refine x_sub [(0, .ref (500 + t))] [0] rfl ?_
  unfold GJ0_isLatin1_aae02 at h
  refine x_getsC C tw_3_60 dJ0_isLatin1_aae02_0 ?_
  refine x_if_eq (tgt := 17) C dJ0_isLatin1_aae02_3 (by decide) (fun c1 => ?_) (fun c1 => ?_)
  · exact absurd c1 (by decide)
  · refine x_aload_n C rfl 0 rfl dJ0_isLatin1_aae02_6 ?_
    refine x_getSc (i := t) C o_t tw_9_202 dJ0_isLatin1_aae02_7 ?_
    refine x_if_ne (tgt := 17) C dJ0_isLatin1_aae02_10 (by decide) (fun c2 => ?_) (fun c2 => ?_)
    · exact absurd c2 (by decide)
    · refine x_iconst (v := 1) C (by decide) dJ0_isLatin1_aae02_13 ?_
      refine x_goto (tgt := 18) C dJ0_isLatin1_aae02_14 (by decide) ?_
      exact x_zret C hr bo_1 dJ0_isLatin1_aae02_18 ⟨_, rfl, h⟩
set_option maxHeartbeats 4000000 in
set_option maxRecDepth 100000 in
theorem GJ0_coder_7d493_met {l : Launch} {φ : Nat → Nat} {tc : Nat → ClassId} {D : va_G} {s0 : State} (hG : GX φ tc D s0) {dR : Nat} (hd : GJ0_coder_7d493_dep ≤ dR) {t : Nat} {μ : MM} {Q : Int32 → MM → Prop} (o_t : t < nJS) (h : GJ0_coder_7d493 t μ Q) : MX l φ tc D s0 dR yJ0_coder_7d493 cJ0_coder_7d493 1 (some .byte) [.ref (500 + t)] μ (QI Q) := by
  refine MX.of (own := RJ0) hG plJ0 rfl (Nat.le_of_ble_eq_true rfl) (fun p e s m args below meth c C hr => ?_)
  refine x_sub [(0, .ref (500 + t))] [0] rfl ?_
  unfold GJ0_coder_7d493 at h
  refine x_getsC C tw_3_60 dJ0_coder_7d493_0 ?_
  refine x_if_eq (tgt := 13) C dJ0_coder_7d493_3 (by decide) (fun c1 => ?_) (fun c1 => ?_)
  · exact absurd c1 (by decide)
  · refine x_aload_n C rfl 0 rfl dJ0_coder_7d493_6 ?_
    refine x_getSc (i := t) C o_t tw_9_202 dJ0_coder_7d493_7 ?_
    refine x_goto (tgt := 14) C dJ0_coder_7d493_10 (by decide) ?_
    exact x_nret C hr h.1 dJ0_coder_7d493_14 ⟨_, rfl, h.2⟩
set_option maxHeartbeats 4000000 in
set_option maxRecDepth 100000 in
theorem GJ0_length_8abf5_met {l : Launch} {φ : Nat → Nat} {tc : Nat → ClassId} {D : va_G} {s0 : State} (hG : GX φ tc D s0) {dR : Nat} (hd : GJ0_length_8abf5_dep ≤ dR) {t : Nat} {μ : MM} {Q : Int32 → MM → Prop} (o_t : t < nJS) (h : GJ0_length_8abf5 t μ Q) : MX l φ tc D s0 dR yJ0_length_8abf5 cJ0_length_8abf5 1 (some .int) [.ref (500 + t)] μ (QI Q) := by
  refine MX.of (own := RJ0) hG plJ0 rfl (Nat.le_of_ble_eq_true rfl) (fun p e s m args below meth c C hr => ?_)
  refine x_sub [(0, .ref (500 + t))] [0] rfl ?_
  unfold GJ0_length_8abf5 at h
  refine x_aload_n C rfl 0 rfl dJ0_length_8abf5_0 ?_
  refine x_getSv (i := t) C o_t tw_9_203 dJ0_length_8abf5_1 ?_
  refine x_alenS (i := t) C o_t dJ0_length_8abf5_4 ?_
  refine x_aload_n C rfl 0 rfl dJ0_length_8abf5_5 ?_
  refine x_callVS (dC := GJ0_coder_7d493_dep) (i := t) (as := []) (st := [.int (Int32.ofNat (lenJS.getD t 0))]) C rX kX (Nat.le_trans (Nat.le_of_ble_eq_true rfl) hd) (Nat.le_of_ble_eq_true rfl) o_t rfl tw_3_68 tw_3_67 tw_3_66 tc_3_69 tw_1_18 hyJ0 hnJ0_coder_7d493 rfl (Nat.le_of_ble_eq_true rfl) dJ0_length_8abf5_6 (GJ0_coder_7d493_met (Q := fun z zμ => z = 0 ∧ zμ = μ) C.2.2.2.2.2.2.2.1 (Nat.le_refl _) o_t (by unfold GJ0_coder_7d493; first | exact ⟨rfl, rfl⟩ | exact ⟨rfl, rfl, rfl⟩)) (fun r0 zμ hq => ?_)
  obtain ⟨zr, rfl, rfl, rfl⟩ := hq
  refine x_st [.int 0, .int (Int32.ofNat (lenJS.getD t 0))] rfl ?_
  refine x_ishr C dJ0_length_8abf5_9 ?_
  exact x_iret C hr dJ0_length_8abf5_10 ⟨_, rfl, h⟩
set_option maxHeartbeats 4000000 in
set_option maxRecDepth 100000 in
theorem GJ1_canEncode_9a6ad_J15_ok {p : Program} {e : Env} {s : State} {m : MethodId} {args : Array Value} {below : List Frame} {meth : Method} {c : Code} {l : Launch} {φ : Nat → Nat} {tc : Nat → ClassId} {D : va_G} {s0 : State} {dR : Nat} (C : CX p s m args meth c φ tc D (AX φ) s0 cJ1_canEncode_9a6ad RJ1 1) (hd : GJ1_canEncode_9a6ad_dep ≤ dR) (hr : meth.sig.returnType = (some .boolean))    {Q : Int32 → MM → Prop}  {μ : MM}    (h : GJ1_canEncode_9a6ad_J15 μ Q) : WX p l e (rmX dR) s m args below meth c φ tc D (AX φ) 1 0 0 (MQ below (QX φ tc D (QI Q)) args s 0 0 (AX φ)) 15 [] [] μ := by
  unfold GJ1_canEncode_9a6ad_J15 at h
  refine x_iconst (v := 0) C (by decide) dJ1_canEncode_9a6ad_15 ?_
  exact x_zret C hr bo_0 dJ1_canEncode_9a6ad_16 ⟨_, rfl, h⟩
set_option maxHeartbeats 4000000 in
set_option maxRecDepth 100000 in
theorem GJ1_canEncode_9a6ad_met {l : Launch} {φ : Nat → Nat} {tc : Nat → ClassId} {D : va_G} {s0 : State} (hG : GX φ tc D s0) {dR : Nat} (hd : GJ1_canEncode_9a6ad_dep ≤ dR) {v0 : Int32} {μ : MM} {Q : Int32 → MM → Prop}  (h : GJ1_canEncode_9a6ad v0 μ Q) : MX l φ tc D s0 dR yJ1_canEncode_9a6ad cJ1_canEncode_9a6ad 1 (some .boolean) [.int v0] μ (QI Q) := by
  refine MX.of (own := RJ1) hG plJ1 rfl (Nat.le_of_ble_eq_true rfl) (fun p e s m args below meth c C hr => ?_)
  refine x_sub [(0, .int v0)] [0] rfl ?_
  unfold GJ1_canEncode_9a6ad at h
  refine x_iload_n C rfl 0 rfl dJ1_canEncode_9a6ad_0 ?_
  refine x_if_lt (tgt := 15) C dJ1_canEncode_9a6ad_1 (by decide) (fun c1 => ?_) (fun c1 => ?_)
  · have h := h.1 c1
    refine x_sub [] [] rfl ?_
    exact GJ1_canEncode_9a6ad_J15_ok C hd hr  h
  · have h := h.2 c1
    refine x_iload_n C rfl 0 rfl dJ1_canEncode_9a6ad_4 ?_
    refine x_sipush (v := 255) C (by decide) dJ1_canEncode_9a6ad_5 ?_
    refine x_icmp_gt (tgt := 15) C dJ1_canEncode_9a6ad_8 (by decide) (fun c2 => ?_) (fun c2 => ?_)
    · have h := h.1 c2
      refine x_sub [] [] rfl ?_
      exact GJ1_canEncode_9a6ad_J15_ok C hd hr  h
    · have h := h.2 c2
      refine x_iconst (v := 1) C (by decide) dJ1_canEncode_9a6ad_11 ?_
      refine x_goto (tgt := 16) C dJ1_canEncode_9a6ad_12 (by decide) ?_
      exact x_zret C hr bo_1 dJ1_canEncode_9a6ad_16 ⟨_, rfl, h⟩
set_option maxHeartbeats 4000000 in
set_option maxRecDepth 100000 in
theorem GJ1_indexOfChar_4cfef_L7_b {p : Program} {e : Env} {s : State} {m : MethodId} {args : Array Value} {below : List Frame} {meth : Method} {c : Code} {l : Launch} {φ : Nat → Nat} {tc : Nat → ClassId} {D : va_G} {s0 : State} {dR : Nat} (C : CX p s m args meth c φ tc D (AX φ) s0 cJ1_indexOfChar_4cfef RJ1 6) (hd : GJ1_indexOfChar_4cfef_dep ≤ dR) (hr : meth.sig.returnType = (some .int)) {a0 : Nat} {p3 : Int32} {p4 : Int32} {Q : Int32 → MM → Prop} {K7 : Int32 × MM → Prop} {x : Int32 × MM} (o_a0 : a0 < nJS)  (hK7 : ∀ (z5 : Int32) (zμ : MM), K7 (z5, zμ) → WX p l e (rmX dR) s m args below meth c φ tc D (AX φ) 6 0 0 (MQ below (QX φ tc D (QI Q)) args s 0 0 (AX φ)) 7 [(0, .ref (600 + a0)), (3, .int p3), (4, .int p4), (5, .int z5)] [] zμ) (h : GJ1_indexOfChar_4cfef_L7 a0 p3 p4 Q K7 x) : WX p l e (rmX dR) s m args below meth c φ tc D (AX φ) 6 0 0 (MQ below (QX φ tc D (QI Q)) args s 0 0 (AX φ)) 7 [(0, .ref (600 + a0)), (3, .int p3), (4, .int p4), (5, .int x.1)] [] x.2 := by
  unfold GJ1_indexOfChar_4cfef_L7 at h
  refine x_iload C 3 rfl dJ1_indexOfChar_4cfef_7 ?_
  refine x_iload_n C rfl 1 rfl dJ1_indexOfChar_4cfef_9 ?_
  refine x_icmp_ge (tgt := 31) C dJ1_indexOfChar_4cfef_10 (by decide) (fun c4 => ?_) (fun c4 => ?_)
  · have h := h.1 c4
    refine x_iconst (v := (-1)) C (by decide) dJ1_indexOfChar_4cfef_31 ?_
    exact x_iret C hr dJ1_indexOfChar_4cfef_32 ⟨_, rfl, h⟩
  · have h := h.2 c4
    refine x_aload_n C rfl 0 rfl dJ1_indexOfChar_4cfef_13 ?_
    refine x_iload C 3 rfl dJ1_indexOfChar_4cfef_14 ?_
    obtain ⟨c5, h⟩ := h
    refine x_baldS (i := a0) C o_a0 c5 rfl dJ1_indexOfChar_4cfef_16 ?_
    refine x_iload C 2 rfl dJ1_indexOfChar_4cfef_17 ?_
    refine x_icmp_ne (tgt := 25) C dJ1_indexOfChar_4cfef_19 (by decide) (fun c6 => ?_) (fun c6 => ?_)
    · have h := h.1 c6
      refine x_iinc (v := (x.1 + 1)) C [(5, .int (x.1 + 1)), (0, .ref (600 + a0)), (3, .int p3), (4, .int p4)] 3 rfl (congrArg (fun z => x.1 + z) (by decide : Int32.ofInt (1) = 1)) (Nat.le_of_ble_eq_true rfl) rfl dJ1_indexOfChar_4cfef_25 ?_
      refine x_goto (tgt := 7) C dJ1_indexOfChar_4cfef_28 (by decide) ?_
      refine x_sub [(0, .ref (600 + a0)), (3, .int p3), (4, .int p4), (5, .int (x.1 + 1))] [1, 2, 3, 0] rfl ?_
      exact hK7 _ _ h
    · have h := h.2 c6
      refine x_iload C 3 rfl dJ1_indexOfChar_4cfef_22 ?_
      exact x_iret C hr dJ1_indexOfChar_4cfef_24 ⟨_, rfl, h⟩
theorem GJ1_indexOfChar_4cfef_L7_ok {p : Program} {e : Env} {s : State} {m : MethodId} {args : Array Value} {below : List Frame} {meth : Method} {c : Code} {l : Launch} {φ : Nat → Nat} {tc : Nat → ClassId} {D : va_G} {s0 : State} {dR : Nat} (C : CX p s m args meth c φ tc D (AX φ) s0 cJ1_indexOfChar_4cfef RJ1 6) (hd : GJ1_indexOfChar_4cfef_dep ≤ dR) (hr : meth.sig.returnType = (some .int)) {a0 : Nat} {p3 : Int32} {p4 : Int32} {Q : Int32 → MM → Prop}  {x : Int32 × MM} (o_a0 : a0 < nJS)   (h : Lp (GJ1_indexOfChar_4cfef_L7 a0 p3 p4 Q) x) : WX p l e (rmX dR) s m args below meth c φ tc D (AX φ) 6 0 0 (MQ below (QX φ tc D (QI Q)) args s 0 0 (AX φ)) 7 [(0, .ref (600 + a0)), (3, .int p3), (4, .int p4), (5, .int x.1)] [] x.2 := by
  obtain ⟨n, h⟩ := h
  induction n generalizing x with
  | zero => exact h.elim
  | succ n ih => exact GJ1_indexOfChar_4cfef_L7_b C hd hr o_a0  (fun z5 zμ hz => by have q := ih hz; exact q) h
set_option maxHeartbeats 4000000 in
set_option maxRecDepth 100000 in
theorem GJ1_indexOfChar_4cfef_met {l : Launch} {φ : Nat → Nat} {tc : Nat → ClassId} {D : va_G} {s0 : State} (hG : GX φ tc D s0) {dR : Nat} (hd : GJ1_indexOfChar_4cfef_dep ≤ dR) {a0 : Nat} {v1 : Int32} {v2 : Int32} {v3 : Int32} {μ : MM} {Q : Int32 → MM → Prop} (o_a0 : a0 < nJS) (h : GJ1_indexOfChar_4cfef a0 v1 v2 v3 μ Q) : MX l φ tc D s0 dR yJ1_indexOfChar_4cfef cJ1_indexOfChar_4cfef 6 (some .int) [.ref (600 + a0), .int v1, .int v2, .int v3] μ (QI Q) := by
  refine MX.of (own := RJ1) hG plJ1 rfl (Nat.le_of_ble_eq_true rfl) (fun p e s m args below meth c C hr => ?_)
  refine x_sub [(0, .ref (600 + a0)), (1, .int v1), (2, .int v2), (3, .int v3)] [0, 1, 2, 3] rfl ?_
  unfold GJ1_indexOfChar_4cfef at h
  refine x_iload_n C rfl 1 rfl dJ1_indexOfChar_4cfef_0 ?_
  refine x_i2b C dJ1_indexOfChar_4cfef_1 ?_
  refine x_topi (fun y3 e_y3 => ?_)
  have h := h y3 e_y3
  refine x_istore C [(4, .int y3), (0, .ref (600 + a0)), (1, .int v1), (2, .int v2), (3, .int v3)] (Nat.le_of_ble_eq_true rfl) rfl dJ1_indexOfChar_4cfef_2 ?_
  refine x_iload_n C rfl 3 rfl dJ1_indexOfChar_4cfef_4 ?_
  refine x_istore C [(5, .int v2), (4, .int y3), (0, .ref (600 + a0)), (1, .int v1), (2, .int v2), (3, .int v3)] (Nat.le_of_ble_eq_true rfl) rfl dJ1_indexOfChar_4cfef_5 ?_
  refine x_sub [(0, .ref (600 + a0)), (3, .int v3), (4, .int y3), (5, .int v2)] [2, 5, 1, 0] rfl ?_
  exact GJ1_indexOfChar_4cfef_L7_ok C hd hr o_a0 h
set_option maxHeartbeats 4000000 in
set_option maxRecDepth 100000 in
theorem GJ1_indexOf_4cfef_met {l : Launch} {φ : Nat → Nat} {tc : Nat → ClassId} {D : va_G} {s0 : State} (hG : GX φ tc D s0) {dR : Nat} (hd : GJ1_indexOf_4cfef_dep ≤ dR) {a0 : Nat} {v1 : Int32} {v2 : Int32} {v3 : Int32} {μ : MM} {Q : Int32 → MM → Prop} (o_a0 : a0 < nJS) (h : GJ1_indexOf_4cfef a0 v1 v2 v3 μ Q) : MX l φ tc D s0 dR yJ1_indexOf_4cfef cJ1_indexOf_4cfef 4 (some .int) [.ref (600 + a0), .int v1, .int v2, .int v3] μ (QI Q) := by
  refine MX.of (own := RJ1) hG plJ1 rfl (Nat.le_of_ble_eq_true rfl) (fun p e s m args below meth c C hr => ?_)
  refine x_sub [(0, .ref (600 + a0)), (1, .int v1), (2, .int v2), (3, .int v3)] [0, 1, 2, 3] rfl ?_
  unfold GJ1_indexOf_4cfef at h
  refine x_iload_n C rfl 1 rfl dJ1_indexOf_4cfef_0 ?_
  refine x_callS (dC := GJ1_canEncode_9a6ad_dep) (as := [.int v1]) (st := []) C rX kX (Nat.le_trans (Nat.le_of_ble_eq_true rfl) hd) (Nat.le_of_ble_eq_true rfl) tw_3_74 tw_3_73 tc_3_75 tw_1_19 hyJ1 hnJ1_canEncode_9a6ad rfl (Nat.le_of_ble_eq_true rfl) dJ1_indexOf_4cfef_1 (GJ1_canEncode_9a6ad_met C.2.2.2.2.2.2.2.1 (Nat.le_refl _)  h) (fun r0 μ7 hq => ?_)
  obtain ⟨r8, rfl, h⟩ := hq
  refine x_st [.int r8] rfl ?_
  refine x_if_ne (tgt := 9) C dJ1_indexOf_4cfef_4 (by decide) (fun c9 => ?_) (fun c9 => ?_)
  · have h := h.1 c9
    refine x_iload_n C rfl 2 rfl dJ1_indexOf_4cfef_9 ?_
    refine x_iconst (v := 0) C (by decide) dJ1_indexOf_4cfef_10 ?_
    refine x_mmax C rX kX (Nat.le_trans (Nat.le_of_ble_eq_true rfl) hd) tw_3_76 tw_3_77 tw_1_20 (Nat.le_of_ble_eq_true rfl) dJ1_indexOf_4cfef_11 ?_
    refine x_topi (fun y10 e_y10 => ?_)
    have h := h y10 e_y10
    refine x_istore_n C [(2, .int y10), (0, .ref (600 + a0)), (1, .int v1), (3, .int v3)] rfl (Nat.le_of_ble_eq_true rfl) rfl dJ1_indexOf_4cfef_14 ?_
    refine x_iload_n C rfl 3 rfl dJ1_indexOf_4cfef_15 ?_
    refine x_aload_n C rfl 1 rfl dJ1_indexOf_4cfef_16 ?_
    refine x_alenS (i := a0) C o_a0 dJ1_indexOf_4cfef_17 ?_
    refine x_mmin C rX kX (Nat.le_trans (Nat.le_of_ble_eq_true rfl) hd) tw_3_79 tw_3_80 tw_1_20 (Nat.le_of_ble_eq_true rfl) dJ1_indexOf_4cfef_18 ?_
    refine x_topi (fun y11 e_y11 => ?_)
    have h := h y11 e_y11
    refine x_istore_n C [(3, .int y11), (2, .int y10), (0, .ref (600 + a0)), (1, .int v1)] rfl (Nat.le_of_ble_eq_true rfl) rfl dJ1_indexOf_4cfef_21 ?_
    refine x_iload_n C rfl 1 rfl dJ1_indexOf_4cfef_22 ?_
    refine x_iload_n C rfl 0 rfl dJ1_indexOf_4cfef_23 ?_
    refine x_icmp_lt (tgt := 29) C dJ1_indexOf_4cfef_24 (by decide) (fun c12 => ?_) (fun c12 => ?_)
    · have h := h.1 c12
      refine x_aload_n C rfl 2 rfl dJ1_indexOf_4cfef_29 ?_
      refine x_iload_n C rfl 3 rfl dJ1_indexOf_4cfef_30 ?_
      refine x_iload_n C rfl 1 rfl dJ1_indexOf_4cfef_31 ?_
      refine x_iload_n C rfl 0 rfl dJ1_indexOf_4cfef_32 ?_
      refine x_callS (dC := GJ1_indexOfChar_4cfef_dep) (as := [.ref (600 + a0), .int v1, .int y10, .int y11]) (st := []) C rX kX (Nat.le_trans (Nat.le_of_ble_eq_true rfl) hd) (Nat.le_of_ble_eq_true rfl) tw_3_83 tw_3_82 tc_3_84 tw_1_19 hyJ1 hnJ1_indexOfChar_4cfef rfl (Nat.le_of_ble_eq_true rfl) dJ1_indexOf_4cfef_33 (GJ1_indexOfChar_4cfef_met C.2.2.2.2.2.2.2.1 (Nat.le_refl _) o_a0 h) (fun r0 μ13 hq => ?_)
      obtain ⟨r14, rfl, h⟩ := hq
      refine x_st [.int r14] rfl ?_
      exact x_iret C hr dJ1_indexOf_4cfef_36 ⟨_, rfl, h⟩
    · have h := h.2 c12
      refine x_iconst (v := (-1)) C (by decide) dJ1_indexOf_4cfef_27 ?_
      exact x_iret C hr dJ1_indexOf_4cfef_28 ⟨_, rfl, h⟩
  · have h := h.2 c9
    refine x_iconst (v := (-1)) C (by decide) dJ1_indexOf_4cfef_7 ?_
    exact x_iret C hr dJ1_indexOf_4cfef_8 ⟨_, rfl, h⟩
set_option maxHeartbeats 4000000 in
set_option maxRecDepth 100000 in
theorem GJ0_indexOf_7cf53_met {l : Launch} {φ : Nat → Nat} {tc : Nat → ClassId} {D : va_G} {s0 : State} (hG : GX φ tc D s0) {dR : Nat} (hd : GJ0_indexOf_7cf53_dep ≤ dR) {t : Nat} {v1 : Int32} {v2 : Int32} {μ : MM} {Q : Int32 → MM → Prop} (o_t : t < nJS) (h : GJ0_indexOf_7cf53 t v1 v2 μ Q) : MX l φ tc D s0 dR yJ0_indexOf_7cf53 cJ0_indexOf_7cf53 3 (some .int) [.ref (500 + t), .int v1, .int v2] μ (QI Q) := by
  refine MX.of (own := RJ0) hG plJ0 rfl (Nat.le_of_ble_eq_true rfl) (fun p e s m args below meth c C hr => ?_)
  refine x_sub [(0, .ref (500 + t)), (1, .int v1), (2, .int v2)] [0, 1, 2] rfl ?_
  unfold GJ0_indexOf_7cf53 at h
  refine x_aload_n C rfl 0 rfl dJ0_indexOf_7cf53_0 ?_
  refine x_callVS (dC := GJ0_isLatin1_aae02_dep) (i := t) (as := []) (st := []) C rX kX (Nat.le_trans (Nat.le_of_ble_eq_true rfl) hd) (Nat.le_of_ble_eq_true rfl) o_t rfl tw_3_58 tw_3_57 tw_3_56 tc_3_59 tw_1_18 hyJ0 hnJ0_isLatin1_aae02 rfl (Nat.le_of_ble_eq_true rfl) dJ0_indexOf_7cf53_1 (GJ0_isLatin1_aae02_met (Q := fun z zμ => z = 1 ∧ zμ = μ) C.2.2.2.2.2.2.2.1 (Nat.le_refl _) o_t (by unfold GJ0_isLatin1_aae02; first | exact ⟨rfl, rfl⟩ | exact ⟨rfl, rfl, rfl⟩)) (fun r0 zμ hq => ?_)
  obtain ⟨zr, rfl, rfl, rfl⟩ := hq
  refine x_st [.int 1] rfl ?_
  refine x_if_eq (tgt := 23) C dJ0_indexOf_7cf53_4 (by decide) (fun c5 => ?_) (fun c5 => ?_)
  · exact absurd c5 (by decide)
  · refine x_aload_n C rfl 0 rfl dJ0_indexOf_7cf53_7 ?_
    refine x_getSv (i := t) C o_t tw_9_203 dJ0_indexOf_7cf53_8 ?_
    refine x_iload_n C rfl 1 rfl dJ0_indexOf_7cf53_11 ?_
    refine x_iload_n C rfl 2 rfl dJ0_indexOf_7cf53_12 ?_
    refine x_aload_n C rfl 0 rfl dJ0_indexOf_7cf53_13 ?_
    refine x_callVS (dC := GJ0_length_8abf5_dep) (i := t) (as := []) (st := [.int v2, .int v1, .ref (600 + t)]) C rX kX (Nat.le_trans (Nat.le_of_ble_eq_true rfl) hd) (Nat.le_of_ble_eq_true rfl) o_t rfl tw_3_64 tw_3_63 tw_3_62 tc_3_65 tw_1_18 hyJ0 hnJ0_length_8abf5 rfl (Nat.le_of_ble_eq_true rfl) dJ0_indexOf_7cf53_14 (GJ0_length_8abf5_met C.2.2.2.2.2.2.2.1 (Nat.le_refl _) o_t h) (fun r0 μ6 hq => ?_)
    obtain ⟨r7, rfl, h⟩ := hq
    refine x_st [.int r7, .int v2, .int v1, .ref (600 + t)] rfl ?_
    refine x_callS (dC := GJ1_indexOf_4cfef_dep) (as := [.ref (600 + t), .int v1, .int v2, .int r7]) (st := []) C rX kX (Nat.le_trans (Nat.le_of_ble_eq_true rfl) hd) (Nat.le_of_ble_eq_true rfl) tw_3_71 tw_3_70 tc_3_72 tw_1_19 hyJ1 hnJ1_indexOf_4cfef rfl (Nat.le_of_ble_eq_true rfl) dJ0_indexOf_7cf53_17 (GJ1_indexOf_4cfef_met C.2.2.2.2.2.2.2.1 (Nat.le_refl _) o_t h) (fun r0 μ8 hq => ?_)
    obtain ⟨r9, rfl, h⟩ := hq
    refine x_st [.int r9] rfl ?_
    refine x_goto (tgt := 36) C dJ0_indexOf_7cf53_20 (by decide) ?_
    exact x_iret C hr dJ0_indexOf_7cf53_36 ⟨_, rfl, h⟩
set_option maxHeartbeats 4000000 in
set_option maxRecDepth 100000 in
theorem GJ0_indexOf_0f7a4_met {l : Launch} {φ : Nat → Nat} {tc : Nat → ClassId} {D : va_G} {s0 : State} (hG : GX φ tc D s0) {dR : Nat} (hd : GJ0_indexOf_0f7a4_dep ≤ dR) {t : Nat} {v1 : Int32} {μ : MM} {Q : Int32 → MM → Prop} (o_t : t < nJS) (h : GJ0_indexOf_0f7a4 t v1 μ Q) : MX l φ tc D s0 dR yJ0_indexOf_0f7a4 cJ0_indexOf_0f7a4 2 (some .int) [.ref (500 + t), .int v1] μ (QI Q) := by
  refine MX.of (own := RJ0) hG plJ0 rfl (Nat.le_of_ble_eq_true rfl) (fun p e s m args below meth c C hr => ?_)
  refine x_sub [(0, .ref (500 + t)), (1, .int v1)] [0, 1] rfl ?_
  unfold GJ0_indexOf_0f7a4 at h
  refine x_aload_n C rfl 0 rfl dJ0_indexOf_0f7a4_0 ?_
  refine x_iload_n C rfl 1 rfl dJ0_indexOf_0f7a4_1 ?_
  refine x_iconst (v := 0) C (by decide) dJ0_indexOf_0f7a4_2 ?_
  refine x_callVS (dC := GJ0_indexOf_7cf53_dep) (i := t) (as := [.int v1, .int 0]) (st := []) C rX kX (Nat.le_trans (Nat.le_of_ble_eq_true rfl) hd) (Nat.le_of_ble_eq_true rfl) o_t rfl tw_3_54 tw_3_53 tw_3_52 tc_3_55 tw_1_18 hyJ0 hnJ0_indexOf_7cf53 rfl (Nat.le_of_ble_eq_true rfl) dJ0_indexOf_0f7a4_3 (GJ0_indexOf_7cf53_met C.2.2.2.2.2.2.2.1 (Nat.le_refl _) o_t h) (fun r0 μ3 hq => ?_)
  obtain ⟨r4, rfl, h⟩ := hq
  refine x_st [.int r4] rfl ?_
  exact x_iret C hr dJ0_indexOf_0f7a4_6 ⟨_, rfl, h⟩
set_option maxHeartbeats 4000000 in
set_option maxRecDepth 100000 in
theorem G3_become_J85_ok {p : Program} {e : Env} {s : State} {m : MethodId} {args : Array Value} {below : List Frame} {meth : Method} {c : Code} {l : Launch} {φ : Nat → Nat} {tc : Nat → ClassId} {D : va_G} {s0 : State} {dR : Nat} (C : CX p s m args meth c φ tc D (AX φ) s0 cX3_become RX3 6) (hd : G3_become_dep ≤ dR) (hr : meth.sig.returnType = none)  {t : Nat} {a1 : Nat} {p2 : Int32} {p3 : Int32} {p4 : Int32} {p5 : Int32} {Q : MM → Prop} {K15 : Int32 × Int32 × MM → Prop} {μ : MM} (o_t : Ob t 3) (o_a1 : Ob a1 13)  (hK15 : ∀ (z3 : Int32) (z4 : Int32) (zμ : MM), K15 (z3, z4, zμ) → WX p l e (rmX dR) s m args below meth c φ tc D (AX φ) 6 0 0 (MQ below (QX φ tc D (QV Q)) args s 0 0 (AX φ)) 15 [(0, .ref t), (1, .ref a1), (2, .int p2), (3, .int z3), (4, .int z4)] [] zμ) (h : G3_become_J85 t a1 p2 p3 p4 p5 μ K15 Q) : WX p l e (rmX dR) s m args below meth c φ tc D (AX φ) 6 0 0 (MQ below (QX φ tc D (QV Q)) args s 0 0 (AX φ)) 85 [(0, .ref t), (1, .ref a1), (2, .int p2), (3, .int p3), (4, .int p4), (5, .int p5)] [] μ := by
  unfold G3_become_J85 at h
  refine x_aload_n C rfl 0 rfl dX3_become_85 ?_
  refine x_iload C 5 rfl dX3_become_86 ?_
  refine x_callV (dC := G3_push_dep) (as := [.int p5]) (st := []) C rX kX (Nat.le_trans (Nat.le_of_ble_eq_true rfl) hd) (Nat.le_of_ble_eq_true rfl) o_t.1 o_t.2 (Nat.le_of_ble_eq_true rfl) rfl ts_2_0 tw_3_155 tw_3_153 tc_3_156 tw_1_4 hyX3 hnX3_push rfl (Nat.le_of_ble_eq_true rfl) dX3_become_88 (G3_push_met C.2.2.2.2.2.2.2.1 (Nat.le_refl _) o_t h) (fun r0 μ36 hq => ?_)
  obtain ⟨rfl, h⟩ := hq
  refine x_st [] rfl ?_
  refine x_goto (tgt := 180) C dX3_become_91 (by decide) ?_
  refine x_iinc (v := (p4 + 1)) C [(4, .int (p4 + 1)), (0, .ref t), (1, .ref a1), (2, .int p2), (3, .int p3), (5, .int p5)] 4 rfl (congrArg (fun z => p4 + z) (by decide : Int32.ofInt (1) = 1)) (Nat.le_of_ble_eq_true rfl) rfl dX3_become_180 ?_
  refine x_goto (tgt := 15) C dX3_become_183 (by decide) ?_
  refine x_sub [(0, .ref t), (1, .ref a1), (2, .int p2), (3, .int p3), (4, .int (p4 + 1))] [1, 2, 3, 4, 0] rfl ?_
  exact hK15 _ _ _ h
set_option maxHeartbeats 4000000 in
set_option maxRecDepth 100000 in
theorem G3_become_J114_ok {p : Program} {e : Env} {s : State} {m : MethodId} {args : Array Value} {below : List Frame} {meth : Method} {c : Code} {l : Launch} {φ : Nat → Nat} {tc : Nat → ClassId} {D : va_G} {s0 : State} {dR : Nat} (C : CX p s m args meth c φ tc D (AX φ) s0 cX3_become RX3 6) (hd : G3_become_dep ≤ dR) (hr : meth.sig.returnType = none)  {t : Nat} {a1 : Nat} {p2 : Int32} {p3 : Int32} {p4 : Int32} {p5 : Int32} {Q : MM → Prop} {K15 : Int32 × Int32 × MM → Prop} {μ : MM} (o_t : Ob t 3) (o_a1 : Ob a1 13)  (hK15 : ∀ (z3 : Int32) (z4 : Int32) (zμ : MM), K15 (z3, z4, zμ) → WX p l e (rmX dR) s m args below meth c φ tc D (AX φ) 6 0 0 (MQ below (QX φ tc D (QV Q)) args s 0 0 (AX φ)) 15 [(0, .ref t), (1, .ref a1), (2, .int p2), (3, .int z3), (4, .int z4)] [] zμ) (h : G3_become_J114 t a1 p2 p3 p4 p5 μ K15 Q) : WX p l e (rmX dR) s m args below meth c φ tc D (AX φ) 6 0 0 (MQ below (QX φ tc D (QV Q)) args s 0 0 (AX φ)) 114 [(0, .ref t), (1, .ref a1), (2, .int p2), (3, .int p3), (4, .int p4), (5, .int p5)] [] μ := by
  unfold G3_become_J114 at h
  refine x_iload C 5 rfl dX3_become_114 ?_
  refine x_bipush (v := 41) C (by decide) dX3_become_116 ?_
  refine x_icmp_ne (tgt := 134) C dX3_become_118 (by decide) (fun c39 => ?_) (fun c39 => ?_)
  · have h := h.1 c39
    refine x_iload C 5 rfl dX3_become_134 ?_
    refine x_callS (dC := G3_isJoining_dep) (as := [.int p5]) (st := []) C rX kX (Nat.le_trans (Nat.le_of_ble_eq_true rfl) hd) (Nat.le_of_ble_eq_true rfl) tw_3_138 tw_3_137 tc_3_139 tw_1_4 hyX3 hnX3_isJoining rfl (Nat.le_of_ble_eq_true rfl) dX3_become_136 (G3_isJoining_met C.2.2.2.2.2.2.2.1 (Nat.le_refl _)  h) (fun r0 μ40 hq => ?_)
    obtain ⟨r41, rfl, h⟩ := hq
    refine x_st [.int r41] rfl ?_
    refine x_if_eq (tgt := 162) C dX3_become_139 (by decide) (fun c42 => ?_) (fun c42 => ?_)
    · have h := h.1 c42
      refine x_aload_n C rfl 0 rfl dX3_become_162 ?_
      refine x_sipush (v := 1000) C (by decide) dX3_become_163 ?_
      refine x_ldcS (i := 0) C (by decide) rfl rfl dX3_become_166 ?_
      refine x_iload C 5 rfl dX3_become_168 ?_
      refine x_i2c C dX3_become_170 ?_
      refine x_callVS (dC := GJ0_indexOf_0f7a4_dep) (i := 0) (as := [.int ((p5.toUInt32 % 65536).toInt32)]) (st := [.int 1000, .ref t]) C rX kX (Nat.le_trans (Nat.le_of_ble_eq_true rfl) hd) (Nat.le_of_ble_eq_true rfl) (by decide) rfl tw_3_50 tw_3_49 tw_3_48 tc_3_51 tw_1_18 hyJ0 hnJ0_indexOf_0f7a4 rfl (Nat.le_of_ble_eq_true rfl) dX3_become_171 (GJ0_indexOf_0f7a4_met C.2.2.2.2.2.2.2.1 (Nat.le_refl _) (by decide) h) (fun r0 μ43 hq => ?_)
      obtain ⟨r44, rfl, h⟩ := hq
      refine x_st [.int r44, .int 1000, .ref t] rfl ?_
      refine x_iadd C dX3_become_174 ?_
      refine x_callV (dC := G3_put_dep) (as := [.int (1000 + r44)]) (st := []) C rX kX (Nat.le_trans (Nat.le_of_ble_eq_true rfl) hd) (Nat.le_of_ble_eq_true rfl) o_t.1 o_t.2 (Nat.le_of_ble_eq_true rfl) rfl ts_1_15 tw_3_151 tw_3_149 tc_3_152 tw_1_4 hyX3 hnX3_put rfl (Nat.le_of_ble_eq_true rfl) dX3_become_175 (G3_put_met C.2.2.2.2.2.2.2.1 (Nat.le_refl _) o_t h) (fun r0 μ45 hq => ?_)
      obtain ⟨rfl, h⟩ := hq
      refine x_st [] rfl ?_
      refine x_iconst (v := 0) C (by decide) dX3_become_178 ?_
      refine x_istore_n C [(3, .int 0), (0, .ref t), (1, .ref a1), (2, .int p2), (4, .int p4), (5, .int p5)] rfl (Nat.le_of_ble_eq_true rfl) rfl dX3_become_179 ?_
      refine x_iinc (v := (p4 + 1)) C [(4, .int (p4 + 1)), (3, .int 0), (0, .ref t), (1, .ref a1), (2, .int p2), (5, .int p5)] 4 rfl (congrArg (fun z => p4 + z) (by decide : Int32.ofInt (1) = 1)) (Nat.le_of_ble_eq_true rfl) rfl dX3_become_180 ?_
      refine x_goto (tgt := 15) C dX3_become_183 (by decide) ?_
      refine x_sub [(0, .ref t), (1, .ref a1), (2, .int p2), (3, .int 0), (4, .int (p4 + 1))] [2, 3, 4, 1, 0] rfl ?_
      exact hK15 _ _ _ h
    · have h := h.2 c42
      refine x_aload_n C rfl 0 rfl dX3_become_142 ?_
      refine x_iload C 5 rfl dX3_become_143 ?_
      refine x_callS (dC := G3_strength_dep) (as := [.int p5]) (st := [.ref t]) C rX kX (Nat.le_trans (Nat.le_of_ble_eq_true rfl) hd) (Nat.le_of_ble_eq_true rfl) tw_3_135 tw_3_134 tc_3_136 tw_1_4 hyX3 hnX3_strength rfl (Nat.le_of_ble_eq_true rfl) dX3_become_145 (G3_strength_met C.2.2.2.2.2.2.2.1 (Nat.le_refl _)  h) (fun r0 μ46 hq => ?_)
      obtain ⟨r47, rfl, h⟩ := hq
      refine x_st [.int r47, .ref t] rfl ?_
      refine x_callV (dC := G3_putStronger_dep) (as := [.int r47]) (st := []) C rX kX (Nat.le_trans (Nat.le_of_ble_eq_true rfl) hd) (Nat.le_of_ble_eq_true rfl) o_t.1 o_t.2 (Nat.le_of_ble_eq_true rfl) rfl ts_2_1 tw_3_159 tw_3_157 tc_3_160 tw_1_4 hyX3 hnX3_putStronger rfl (Nat.le_of_ble_eq_true rfl) dX3_become_148 (G3_putStronger_met C.2.2.2.2.2.2.2.1 (Nat.le_refl _) o_t h) (fun r0 μ48 hq => ?_)
      obtain ⟨rfl, h⟩ := hq
      refine x_st [] rfl ?_
      refine x_aload_n C rfl 0 rfl dX3_become_151 ?_
      refine x_iload C 5 rfl dX3_become_152 ?_
      refine x_callV (dC := G3_push_dep) (as := [.int p5]) (st := []) C rX kX (Nat.le_trans (Nat.le_of_ble_eq_true rfl) hd) (Nat.le_of_ble_eq_true rfl) o_t.1 o_t.2 (Nat.le_of_ble_eq_true rfl) rfl ts_2_0 tw_3_155 tw_3_153 tc_3_156 tw_1_4 hyX3 hnX3_push rfl (Nat.le_of_ble_eq_true rfl) dX3_become_154 (G3_push_met C.2.2.2.2.2.2.2.1 (Nat.le_refl _) o_t h) (fun r0 μ49 hq => ?_)
      obtain ⟨rfl, h⟩ := hq
      refine x_st [] rfl ?_
      refine x_iconst (v := 1) C (by decide) dX3_become_157 ?_
      refine x_istore_n C [(3, .int 1), (0, .ref t), (1, .ref a1), (2, .int p2), (4, .int p4), (5, .int p5)] rfl (Nat.le_of_ble_eq_true rfl) rfl dX3_become_158 ?_
      refine x_goto (tgt := 180) C dX3_become_159 (by decide) ?_
      refine x_iinc (v := (p4 + 1)) C [(4, .int (p4 + 1)), (3, .int 1), (0, .ref t), (1, .ref a1), (2, .int p2), (5, .int p5)] 4 rfl (congrArg (fun z => p4 + z) (by decide : Int32.ofInt (1) = 1)) (Nat.le_of_ble_eq_true rfl) rfl dX3_become_180 ?_
      refine x_goto (tgt := 15) C dX3_become_183 (by decide) ?_
      refine x_sub [(0, .ref t), (1, .ref a1), (2, .int p2), (3, .int 1), (4, .int (p4 + 1))] [2, 3, 4, 1, 0] rfl ?_
      exact hK15 _ _ _ h
  · have h := h.2 c39
    refine x_aload_n C rfl 0 rfl dX3_become_121 ?_
    refine x_iconst (v := 1) C (by decide) dX3_become_122 ?_
    refine x_callV (dC := G3_putStronger_dep) (as := [.int 1]) (st := []) C rX kX (Nat.le_trans (Nat.le_of_ble_eq_true rfl) hd) (Nat.le_of_ble_eq_true rfl) o_t.1 o_t.2 (Nat.le_of_ble_eq_true rfl) rfl ts_2_1 tw_3_159 tw_3_157 tc_3_160 tw_1_4 hyX3 hnX3_putStronger rfl (Nat.le_of_ble_eq_true rfl) dX3_become_123 (G3_putStronger_met C.2.2.2.2.2.2.2.1 (Nat.le_refl _) o_t h) (fun r0 μ50 hq => ?_)
    obtain ⟨rfl, h⟩ := hq
    refine x_st [] rfl ?_
    refine x_aload_n C rfl 0 rfl dX3_become_126 ?_
    refine x_callV (dC := G3_pop_dep) (as := []) (st := []) C rX kX (Nat.le_trans (Nat.le_of_ble_eq_true rfl) hd) (Nat.le_of_ble_eq_true rfl) o_t.1 o_t.2 (Nat.le_of_ble_eq_true rfl) rfl ts_2_2 tw_3_163 tw_3_161 tc_3_164 tw_1_4 hyX3 hnX3_pop rfl (Nat.le_of_ble_eq_true rfl) dX3_become_127 (G3_pop_met C.2.2.2.2.2.2.2.1 (Nat.le_refl _) o_t h) (fun r0 μ51 hq => ?_)
    obtain ⟨r52, rfl, h⟩ := hq
    refine x_st [.int r52] rfl ?_
    refine x_pop C rfl dX3_become_130 ?_
    refine x_goto (tgt := 180) C dX3_become_131 (by decide) ?_
    refine x_iinc (v := (p4 + 1)) C [(4, .int (p4 + 1)), (0, .ref t), (1, .ref a1), (2, .int p2), (3, .int p3), (5, .int p5)] 4 rfl (congrArg (fun z => p4 + z) (by decide : Int32.ofInt (1) = 1)) (Nat.le_of_ble_eq_true rfl) rfl dX3_become_180 ?_
    refine x_goto (tgt := 15) C dX3_become_183 (by decide) ?_
    refine x_sub [(0, .ref t), (1, .ref a1), (2, .int p2), (3, .int p3), (4, .int (p4 + 1))] [1, 2, 3, 4, 0] rfl ?_
    exact hK15 _ _ _ h
set_option maxHeartbeats 4000000 in
set_option maxRecDepth 100000 in
theorem G3_become_J63_ok {p : Program} {e : Env} {s : State} {m : MethodId} {args : Array Value} {below : List Frame} {meth : Method} {c : Code} {l : Launch} {φ : Nat → Nat} {tc : Nat → ClassId} {D : va_G} {s0 : State} {dR : Nat} (C : CX p s m args meth c φ tc D (AX φ) s0 cX3_become RX3 6) (hd : G3_become_dep ≤ dR) (hr : meth.sig.returnType = none)  {t : Nat} {a1 : Nat} {p2 : Int32} {p4 : Int32} {q0 : Int32} {q1 : Int32} {Q : MM → Prop} {K15 : Int32 × Int32 × MM → Prop} {μ : MM} (o_t : Ob t 3) (o_a1 : Ob a1 13)  (hK15 : ∀ (z3 : Int32) (z4 : Int32) (zμ : MM), K15 (z3, z4, zμ) → WX p l e (rmX dR) s m args below meth c φ tc D (AX φ) 6 0 0 (MQ below (QX φ tc D (QV Q)) args s 0 0 (AX φ)) 15 [(0, .ref t), (1, .ref a1), (2, .int p2), (3, .int z3), (4, .int z4)] [] zμ) (h : G3_become_J63 t a1 p2 p4 q0 q1 μ K15 Q) : WX p l e (rmX dR) s m args below meth c φ tc D (AX φ) 6 0 0 (MQ below (QX φ tc D (QV Q)) args s 0 0 (AX φ)) 63 [(0, .ref t), (1, .ref a1), (2, .int p2), (4, .int p4)] [.int q0, .int q1, .ref t] μ := by
  unfold G3_become_J63 at h
  refine x_callV (dC := G3_putDigit_dep) (as := [.int q1, .int q0]) (st := []) C rX kX (Nat.le_trans (Nat.le_of_ble_eq_true rfl) hd) (Nat.le_of_ble_eq_true rfl) o_t.1 o_t.2 (Nat.le_of_ble_eq_true rfl) rfl ts_1_14 tw_3_147 tw_3_145 tc_3_148 tw_1_4 hyX3 hnX3_putDigit rfl (Nat.le_of_ble_eq_true rfl) dX3_become_63 (G3_putDigit_met C.2.2.2.2.2.2.2.1 (Nat.le_refl _) o_t h) (fun r0 μ56 hq => ?_)
  obtain ⟨rfl, h⟩ := hq
  refine x_st [] rfl ?_
  refine x_iconst (v := 0) C (by decide) dX3_become_66 ?_
  refine x_istore_n C [(3, .int 0), (0, .ref t), (1, .ref a1), (2, .int p2), (4, .int p4)] rfl (Nat.le_of_ble_eq_true rfl) rfl dX3_become_67 ?_
  refine x_goto (tgt := 180) C dX3_become_68 (by decide) ?_
  refine x_iinc (v := (p4 + 1)) C [(4, .int (p4 + 1)), (3, .int 0), (0, .ref t), (1, .ref a1), (2, .int p2)] 4 rfl (congrArg (fun z => p4 + z) (by decide : Int32.ofInt (1) = 1)) (Nat.le_of_ble_eq_true rfl) rfl dX3_become_180 ?_
  refine x_goto (tgt := 15) C dX3_become_183 (by decide) ?_
  refine x_sub [(0, .ref t), (1, .ref a1), (2, .int p2), (3, .int 0), (4, .int (p4 + 1))] [2, 3, 4, 1, 0] rfl ?_
  exact hK15 _ _ _ h
set_option maxHeartbeats 4000000 in
set_option maxRecDepth 100000 in
theorem G3_become_J62_ok {p : Program} {e : Env} {s : State} {m : MethodId} {args : Array Value} {below : List Frame} {meth : Method} {c : Code} {l : Launch} {φ : Nat → Nat} {tc : Nat → ClassId} {D : va_G} {s0 : State} {dR : Nat} (C : CX p s m args meth c φ tc D (AX φ) s0 cX3_become RX3 6) (hd : G3_become_dep ≤ dR) (hr : meth.sig.returnType = none)  {t : Nat} {a1 : Nat} {p2 : Int32} {p4 : Int32} {q0 : Int32} {Q : MM → Prop} {K15 : Int32 × Int32 × MM → Prop} {μ : MM} (o_t : Ob t 3) (o_a1 : Ob a1 13)  (hK15 : ∀ (z3 : Int32) (z4 : Int32) (zμ : MM), K15 (z3, z4, zμ) → WX p l e (rmX dR) s m args below meth c φ tc D (AX φ) 6 0 0 (MQ below (QX φ tc D (QV Q)) args s 0 0 (AX φ)) 15 [(0, .ref t), (1, .ref a1), (2, .int p2), (3, .int z3), (4, .int z4)] [] zμ) (h : G3_become_J62 t a1 p2 p4 q0 μ K15 Q) : WX p l e (rmX dR) s m args below meth c φ tc D (AX φ) 6 0 0 (MQ below (QX φ tc D (QV Q)) args s 0 0 (AX φ)) 62 [(0, .ref t), (1, .ref a1), (2, .int p2), (4, .int p4)] [.int q0, .ref t] μ := by
  unfold G3_become_J62 at h
  refine x_iconst (v := 0) C (by decide) dX3_become_62 ?_
  exact G3_become_J63_ok C hd hr o_t o_a1 hK15 h
set_option maxHeartbeats 4000000 in
set_option maxRecDepth 100000 in
theorem G3_become_L15_b {p : Program} {e : Env} {s : State} {m : MethodId} {args : Array Value} {below : List Frame} {meth : Method} {c : Code} {l : Launch} {φ : Nat → Nat} {tc : Nat → ClassId} {D : va_G} {s0 : State} {dR : Nat} (C : CX p s m args meth c φ tc D (AX φ) s0 cX3_become RX3 6) (hd : G3_become_dep ≤ dR) (hr : meth.sig.returnType = none) {t : Nat} {a1 : Nat} {p2 : Int32} {Q : MM → Prop} {K15 : Int32 × Int32 × MM → Prop} {x : Int32 × Int32 × MM} (o_t : Ob t 3) (o_a1 : Ob a1 13)  (hK15 : ∀ (z3 : Int32) (z4 : Int32) (zμ : MM), K15 (z3, z4, zμ) → WX p l e (rmX dR) s m args below meth c φ tc D (AX φ) 6 0 0 (MQ below (QX φ tc D (QV Q)) args s 0 0 (AX φ)) 15 [(0, .ref t), (1, .ref a1), (2, .int p2), (3, .int z3), (4, .int z4)] [] zμ) (h : G3_become_L15 t a1 p2 Q K15 x) : WX p l e (rmX dR) s m args below meth c φ tc D (AX φ) 6 0 0 (MQ below (QX φ tc D (QV Q)) args s 0 0 (AX φ)) 15 [(0, .ref t), (1, .ref a1), (2, .int p2), (3, .int x.1), (4, .int x.2.1)] [] x.2.2 := by
  unfold G3_become_L15 at h
  refine x_iload C 4 rfl dX3_become_15 ?_
  refine x_iload_n C rfl 2 rfl dX3_become_17 ?_
  refine x_icmp_ge (tgt := 186) C dX3_become_18 (by decide) (fun c28 => ?_) (fun c28 => ?_)
  · have h := h.1 c28
    refine x_aload_n C rfl 0 rfl dX3_become_186 ?_
    refine x_iconst (v := 1) C (by decide) dX3_become_187 ?_
    refine x_callV (dC := G3_putStronger_dep) (as := [.int 1]) (st := []) C rX kX (Nat.le_trans (Nat.le_of_ble_eq_true rfl) hd) (Nat.le_of_ble_eq_true rfl) o_t.1 o_t.2 (Nat.le_of_ble_eq_true rfl) rfl ts_2_1 tw_3_159 tw_3_157 tc_3_160 tw_1_4 hyX3 hnX3_putStronger rfl (Nat.le_of_ble_eq_true rfl) dX3_become_188 (G3_putStronger_met C.2.2.2.2.2.2.2.1 (Nat.le_refl _) o_t h) (fun r0 μ29 hq => ?_)
    obtain ⟨rfl, h⟩ := hq
    refine x_st [] rfl ?_
    exact x_vret C hr dX3_become_191 ⟨rfl, h⟩
  · have h := h.2 c28
    refine x_aload_n C rfl 1 rfl dX3_become_21 ?_
    refine x_iload C 4 rfl dX3_become_22 ?_
    obtain ⟨c30, h⟩ := h
    refine x_iald C o_a1.1 o_a1.2 c30 rfl dX3_become_24 ?_
    refine x_topi (fun y31 e_y31 => ?_)
    have h := h y31 e_y31
    refine x_istore C [(5, .int y31), (0, .ref t), (1, .ref a1), (2, .int p2), (3, .int x.1), (4, .int x.2.1)] (Nat.le_of_ble_eq_true rfl) rfl dX3_become_25 ?_
    refine x_iload C 0 rfl dX3_become_27 ?_
    refine x_callS (dC := G3_isDigit_dep) (as := [.int y31]) (st := []) C rX kX (Nat.le_trans (Nat.le_of_ble_eq_true rfl) hd) (Nat.le_of_ble_eq_true rfl) tw_3_42 tw_3_41 tc_3_43 tw_1_4 hyX3 hnX3_isDigit rfl (Nat.le_of_ble_eq_true rfl) dX3_become_29 (G3_isDigit_met C.2.2.2.2.2.2.2.1 (Nat.le_refl _)  h) (fun r0 μ32 hq => ?_)
    obtain ⟨r33, rfl, h⟩ := hq
    refine x_st [.int r33] rfl ?_
    refine x_if_eq (tgt := 71) C dX3_become_32 (by decide) (fun c34 => ?_) (fun c34 => ?_)
    · have h := h.1 c34
      refine x_iload C 0 rfl dX3_become_71 ?_
      refine x_bipush (v := 40) C (by decide) dX3_become_73 ?_
      refine x_icmp_eq (tgt := 85) C dX3_become_75 (by decide) (fun c35 => ?_) (fun c35 => ?_)
      · have h := h.1 c35
        refine x_sub [(0, .ref t), (1, .ref a1), (2, .int p2), (3, .int x.1), (4, .int x.2.1), (5, .int y31)] [1, 2, 3, 4, 5, 0] rfl ?_
        exact G3_become_J85_ok C hd hr o_t o_a1 hK15 h
      · have h := h.2 c35
        refine x_iload C 0 rfl dX3_become_78 ?_
        refine x_bipush (v := 33) C (by decide) dX3_become_80 ?_
        refine x_icmp_ne (tgt := 94) C dX3_become_82 (by decide) (fun c37 => ?_) (fun c37 => ?_)
        · have h := h.1 c37
          refine x_iload C 0 rfl dX3_become_94 ?_
          refine x_bipush (v := 45) C (by decide) dX3_become_96 ?_
          refine x_icmp_ne (tgt := 114) C dX3_become_98 (by decide) (fun c38 => ?_) (fun c38 => ?_)
          · have h := h.1 c38
            refine x_sub [(0, .ref t), (1, .ref a1), (2, .int p2), (3, .int x.1), (4, .int x.2.1), (5, .int y31)] [1, 2, 3, 4, 5, 0] rfl ?_
            exact G3_become_J114_ok C hd hr o_t o_a1 hK15 h
          · have h := h.2 c38
            refine x_iload_n C rfl 4 rfl dX3_become_101 ?_
            refine x_if_eq (tgt := 114) C dX3_become_102 (by decide) (fun c53 => ?_) (fun c53 => ?_)
            · have h := h.1 c53
              refine x_sub [(0, .ref t), (1, .ref a1), (2, .int p2), (3, .int x.1), (4, .int x.2.1), (5, .int y31)] [1, 2, 3, 4, 5, 0] rfl ?_
              exact G3_become_J114_ok C hd hr o_t o_a1 hK15 h
            · have h := h.2 c53
              refine x_aload_n C rfl 1 rfl dX3_become_105 ?_
              refine x_bipush (v := 126) C (by decide) dX3_become_106 ?_
              refine x_callV (dC := G3_push_dep) (as := [.int 126]) (st := []) C rX kX (Nat.le_trans (Nat.le_of_ble_eq_true rfl) hd) (Nat.le_of_ble_eq_true rfl) o_t.1 o_t.2 (Nat.le_of_ble_eq_true rfl) rfl ts_2_0 tw_3_155 tw_3_153 tc_3_156 tw_1_4 hyX3 hnX3_push rfl (Nat.le_of_ble_eq_true rfl) dX3_become_108 (G3_push_met C.2.2.2.2.2.2.2.1 (Nat.le_refl _) o_t h) (fun r0 μ54 hq => ?_)
              obtain ⟨rfl, h⟩ := hq
              refine x_st [] rfl ?_
              refine x_goto (tgt := 180) C dX3_become_111 (by decide) ?_
              refine x_iinc (v := (x.2.1 + 1)) C [(4, .int (x.2.1 + 1)), (5, .int y31), (0, .ref t), (1, .ref a1), (2, .int p2), (3, .int x.1)] 5 rfl (congrArg (fun z => x.2.1 + z) (by decide : Int32.ofInt (1) = 1)) (Nat.le_of_ble_eq_true rfl) rfl dX3_become_180 ?_
              refine x_goto (tgt := 15) C dX3_become_183 (by decide) ?_
              refine x_sub [(0, .ref t), (1, .ref a1), (2, .int p2), (3, .int x.1), (4, .int (x.2.1 + 1))] [2, 3, 4, 5, 0] rfl ?_
              exact hK15 _ _ _ h
        · have h := h.2 c37
          refine x_sub [(0, .ref t), (1, .ref a1), (2, .int p2), (3, .int x.1), (4, .int x.2.1), (5, .int y31)] [1, 2, 3, 4, 5, 0] rfl ?_
          exact G3_become_J85_ok C hd hr o_t o_a1 hK15 h
    · have h := h.2 c34
      refine x_aload_n C rfl 1 rfl dX3_become_35 ?_
      refine x_iload C 0 rfl dX3_become_36 ?_
      refine x_bipush (v := 48) C (by decide) dX3_become_38 ?_
      refine x_isub C dX3_become_40 ?_
      refine x_iload C 5 rfl dX3_become_41 ?_
      refine x_if_le (tgt := 62) C dX3_become_43 (by decide) (fun c55 => ?_) (fun c55 => ?_)
      · have h := h.1 c55
        refine x_sub [(0, .ref t), (1, .ref a1), (2, .int p2), (4, .int x.2.1)] [1, 2, 3, 5] rfl ?_
        exact G3_become_J62_ok C hd hr o_t o_a1 hK15 h
      · have h := h.2 c55
        refine x_aload_n C rfl 2 rfl dX3_become_46 ?_
        refine x_iload C 5 rfl dX3_become_47 ?_
        refine x_iconst (v := 1) C (by decide) dX3_become_49 ?_
        refine x_isub C dX3_become_50 ?_
        obtain ⟨c57, h⟩ := h
        refine x_iald C o_a1.1 o_a1.2 c57 rfl dX3_become_51 ?_
        refine x_callS (dC := G3_isDigit_dep) (as := [.int (gI μ32 a1 ((x.2.1 - 1).toNatClampNeg))]) (st := [.int (y31 - 48), .ref t]) C rX kX (Nat.le_trans (Nat.le_of_ble_eq_true rfl) hd) (Nat.le_of_ble_eq_true rfl) tw_3_42 tw_3_41 tc_3_43 tw_1_4 hyX3 hnX3_isDigit rfl (Nat.le_of_ble_eq_true rfl) dX3_become_52 (G3_isDigit_met C.2.2.2.2.2.2.2.1 (Nat.le_refl _)  h) (fun r0 μ58 hq => ?_)
        obtain ⟨r59, rfl, h⟩ := hq
        refine x_st [.int r59, .int (y31 - 48), .ref t] rfl ?_
        refine x_if_eq (tgt := 62) C dX3_become_55 (by decide) (fun c60 => ?_) (fun c60 => ?_)
        · have h := h.1 c60
          refine x_sub [(0, .ref t), (1, .ref a1), (2, .int p2), (4, .int x.2.1)] [1, 2, 3, 5] rfl ?_
          exact G3_become_J62_ok C hd hr o_t o_a1 hK15 h
        · have h := h.2 c60
          refine x_iconst (v := 1) C (by decide) dX3_become_58 ?_
          refine x_goto (tgt := 63) C dX3_become_59 (by decide) ?_
          refine x_sub [(0, .ref t), (1, .ref a1), (2, .int p2), (4, .int x.2.1)] [1, 2, 3, 5] rfl ?_
          exact G3_become_J63_ok C hd hr o_t o_a1 hK15 h
theorem G3_become_L15_ok {p : Program} {e : Env} {s : State} {m : MethodId} {args : Array Value} {below : List Frame} {meth : Method} {c : Code} {l : Launch} {φ : Nat → Nat} {tc : Nat → ClassId} {D : va_G} {s0 : State} {dR : Nat} (C : CX p s m args meth c φ tc D (AX φ) s0 cX3_become RX3 6) (hd : G3_become_dep ≤ dR) (hr : meth.sig.returnType = none) {t : Nat} {a1 : Nat} {p2 : Int32} {Q : MM → Prop}  {x : Int32 × Int32 × MM} (o_t : Ob t 3) (o_a1 : Ob a1 13)   (h : Lp (G3_become_L15 t a1 p2 Q) x) : WX p l e (rmX dR) s m args below meth c φ tc D (AX φ) 6 0 0 (MQ below (QX φ tc D (QV Q)) args s 0 0 (AX φ)) 15 [(0, .ref t), (1, .ref a1), (2, .int p2), (3, .int x.1), (4, .int x.2.1)] [] x.2.2 := by
  obtain ⟨n, h⟩ := h
  induction n generalizing x with
  | zero => exact h.elim
  | succ n ih => exact G3_become_L15_b C hd hr o_t o_a1  (fun z3 z4 zμ hz => by have q := ih hz; exact q) h
set_option maxHeartbeats 4000000 in
set_option maxRecDepth 100000 in
theorem G3_become_met {l : Launch} {φ : Nat → Nat} {tc : Nat → ClassId} {D : va_G} {s0 : State} (hG : GX φ tc D s0) {dR : Nat} (hd : G3_become_dep ≤ dR) {t : Nat} {a1 : Nat} {v2 : Int32} {μ : MM} {Q : MM → Prop} (o_t : Ob t 3) (o_a1 : Ob a1 13) (h : G3_become t a1 v2 μ Q) : MX l φ tc D s0 dR yX3_become cX3_become 6 none [.ref t, .ref a1, .int v2] μ (QV Q) := by
  refine MX.of (own := RX3) hG plX3 rfl (Nat.le_of_ble_eq_true rfl) (fun p e s m args below meth c C hr => ?_)
  refine x_sub [(0, .ref t), (1, .ref a1), (2, .int v2)] [0, 1, 2] rfl ?_
  unfold G3_become at h
  refine x_aload_n C rfl 0 rfl dX3_become_0 ?_
  refine x_iconst (v := 0) C (by decide) dX3_become_1 ?_
  refine x_putI C (j := 1) o_t.1 o_t.2 (Nat.le_of_ble_eq_true rfl) (Nat.le_of_ble_eq_true rfl) (Or.inl rfl) rfl rfl rfl tw_1_110 dX3_become_2 ?_
  refine x_mu (fun μ26 e_μ26 => ?_)
  have h := h μ26 e_μ26
  refine x_aload_n C rfl 0 rfl dX3_become_5 ?_
  refine x_iconst (v := 0) C (by decide) dX3_become_6 ?_
  refine x_putI C (j := 3) o_t.1 o_t.2 (Nat.le_of_ble_eq_true rfl) (Nat.le_of_ble_eq_true rfl) (Or.inl rfl) rfl rfl rfl tw_1_112 dX3_become_7 ?_
  refine x_mu (fun μ27 e_μ27 => ?_)
  have h := h μ27 e_μ27
  refine x_iconst (v := 1) C (by decide) dX3_become_10 ?_
  refine x_istore_n C [(3, .int 1), (0, .ref t), (1, .ref a1), (2, .int v2)] rfl (Nat.le_of_ble_eq_true rfl) rfl dX3_become_11 ?_
  refine x_iconst (v := 0) C (by decide) dX3_become_12 ?_
  refine x_istore C [(4, .int 0), (3, .int 1), (0, .ref t), (1, .ref a1), (2, .int v2)] (Nat.le_of_ble_eq_true rfl) rfl dX3_become_13 ?_
  refine x_sub [(0, .ref t), (1, .ref a1), (2, .int v2), (3, .int 1), (4, .int 0)] [2, 3, 4, 1, 0] rfl ?_
  exact G3_become_L15_ok C hd hr o_t o_a1 h
