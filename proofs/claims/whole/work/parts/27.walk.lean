set_option maxHeartbeats 4000000 in
set_option maxRecDepth 100000 in
theorem G12_after_met {l : Launch} {φ : Nat → Nat} {tc : Nat → ClassId} {D : va_G} {s0 : State} (hG : GX φ tc D s0) {dR : Nat} (hd : G12_after_dep ≤ dR) {v1 : Int32} {v2 : Int32} {μ : MM} {Q : Int32 → MM → Prop}  (h : G12_after v1 v2 μ Q) : MX l φ tc D s0 dR yX12_after cX12_after 4 (some .int) [.ref 358, .int v1, .int v2] μ (QI Q) := by
  refine MX.of (own := RX12) hG plX12 rfl (Nat.le_of_ble_eq_true rfl) (fun p e s m args below meth c C hr => ?_)
  refine x_sub [(0, .ref 358), (1, .int v1), (2, .int v2)] [0, 1, 2] rfl ?_
  unfold G12_after at h
  refine x_aload_n C rfl 0 rfl dX12_after_0 ?_
  refine x_iconst (v := 0) C (by decide) dX12_after_1 ?_
  refine x_putI C (j := 0) ob358.1 ob358.2 (Nat.le_of_ble_eq_true rfl) (Nat.le_of_ble_eq_true rfl) (Or.inl rfl) rfl rfl rfl tw_8_206 dX12_after_2 ?_
  refine x_mu (fun μ10 e_μ10 => ?_)
  have h := h μ10 e_μ10
  refine x_aload_n C rfl 0 rfl dX12_after_5 ?_
  refine x_iload_n C rfl 1 rfl dX12_after_6 ?_
  refine x_callV (dC := G12_isLetter_dep) (as := [.int v1]) (st := []) C rfl (Nat.le_trans (Nat.le_of_ble_eq_true rfl) hd) (Nat.le_of_ble_eq_true rfl) ob358.1 ob358.2 (Nat.le_of_ble_eq_true rfl) rfl ts_8_15 tw_7_1 tw_6_239 tc_7_2 tw_1_13 hyX12 hnX12_isLetter rfl (Nat.le_of_ble_eq_true rfl) dX12_after_7 (G12_isLetter_met C.2.2.2.2.2.2.2.1 (Nat.le_refl _)  h) (fun r0 μ11 hq => ?_)
  obtain ⟨r12, rfl, h⟩ := hq
  refine x_st [.int r12] rfl ?_
  refine x_if_eq (tgt := 34) C dX12_after_10 (by decide) (fun c13 => ?_) (fun c13 => ?_)
  · have h := h.1 c13
    refine x_iconst (v := (-1)) C (by decide) dX12_after_34 ?_
    exact x_iret C hr dX12_after_35 ⟨_, rfl, h⟩
  · have h := h.2 c13
    refine x_aload_n C rfl 0 rfl dX12_after_13 ?_
    refine x_getR (r := 374) C (j := 20) ob358.1 ob358.2 (Nat.le_of_ble_eq_true rfl) (Nat.le_of_ble_eq_true rfl) (fun _ _ _ => rfl) r_358_20 tw_8_226 dX12_after_14 ?_
    refine x_iload_n C rfl 1 rfl dX12_after_17 ?_
    obtain ⟨c14, h⟩ := h
    refine x_zald C ob374.1 ob374.2 c14 rfl dX12_after_18 ?_
    refine x_if_eq (tgt := 34) C dX12_after_19 (by decide) (fun c15 => ?_) (fun c15 => ?_)
    · have h := h.1 c15
      refine x_iconst (v := (-1)) C (by decide) dX12_after_34 ?_
      exact x_iret C hr dX12_after_35 ⟨_, rfl, h⟩
    · have h := h.2 c15
      refine x_iload_n C rfl 2 rfl dX12_after_22 ?_
      refine x_i2l C dX12_after_23 ?_
      refine x_lconst (v := 0) C (by decide) dX12_after_24 ?_
      refine x_ldc2 (v := 2) C tw_7_127 dX12_after_25 ?_
      refine x_callS (dC := G12_in_dep) (as := [.long (v2.toInt64), .long 0, .long 2]) (st := []) C rfl (Nat.le_trans (Nat.le_of_ble_eq_true rfl) hd) (Nat.le_of_ble_eq_true rfl) tw_6_183 tw_6_182 tc_6_184 tw_1_13 hyX12 hnX12_in rfl (Nat.le_of_ble_eq_true rfl) dX12_after_28 (G12_in_met C.2.2.2.2.2.2.2.1 (Nat.le_refl _)  h) (fun r0 μ16 hq => ?_)
      obtain ⟨r17, rfl, h⟩ := hq
      refine x_st [.int r17] rfl ?_
      refine x_if_ne (tgt := 36) C dX12_after_31 (by decide) (fun c18 => ?_) (fun c18 => ?_)
      · have h := h.1 c18
        refine x_aload_n C rfl 0 rfl dX12_after_36 ?_
        refine x_getR (r := 375) C (j := 21) ob358.1 ob358.2 (Nat.le_of_ble_eq_true rfl) (Nat.le_of_ble_eq_true rfl) (fun _ _ _ => rfl) r_358_21 tw_8_227 dX12_after_37 ?_
        refine x_iload_n C rfl 1 rfl dX12_after_40 ?_
        obtain ⟨c19, h⟩ := h
        refine x_iald C ob375.1 ob375.2 c19 rfl dX12_after_41 ?_
        refine x_topi (fun y20 e_y20 => ?_)
        have h := h y20 e_y20
        refine x_istore_n C [(3, .int y20), (0, .ref 358), (1, .int v1), (2, .int v2)] rfl (Nat.le_of_ble_eq_true rfl) rfl dX12_after_42 ?_
        refine x_aload_n C rfl 1 rfl dX12_after_43 ?_
        refine x_getR (r := 375) C (j := 21) ob358.1 ob358.2 (Nat.le_of_ble_eq_true rfl) (Nat.le_of_ble_eq_true rfl) (fun _ _ _ => rfl) r_358_21 tw_8_227 dX12_after_44 ?_
        refine x_iload_n C rfl 2 rfl dX12_after_47 ?_
        refine x_iload_n C rfl 3 rfl dX12_after_48 ?_
        obtain ⟨c21, h⟩ := h
        refine x_iast C ob375.1 ob375.2 c21 rfl dX12_after_49 ?_
        refine x_mu (fun μ22 e_μ22 => ?_)
        have h := h μ22 e_μ22
        refine x_iload_n C rfl 0 rfl dX12_after_50 ?_
        exact x_iret C hr dX12_after_51 ⟨_, rfl, h⟩
      · have h := h.2 c18
        refine x_iconst (v := (-1)) C (by decide) dX12_after_34 ?_
        exact x_iret C hr dX12_after_35 ⟨_, rfl, h⟩
set_option maxHeartbeats 4000000 in
set_option maxRecDepth 100000 in
theorem G12_seed_met {l : Launch} {φ : Nat → Nat} {tc : Nat → ClassId} {D : va_G} {s0 : State} (hG : GX φ tc D s0) {dR : Nat} (hd : G12_seed_dep ≤ dR) {v1 : Int32} {μ : MM} {Q : Int32 → MM → Prop}  (h : G12_seed v1 μ Q) : MX l φ tc D s0 dR yX12_seed cX12_seed 3 (some .int) [.ref 358, .int v1] μ (QI Q) := by
  refine MX.of (own := RX12) hG plX12 rfl (Nat.le_of_ble_eq_true rfl) (fun p e s m args below meth c C hr => ?_)
  refine x_sub [(0, .ref 358), (1, .int v1)] [0, 1] rfl ?_
  unfold G12_seed at h
  refine x_aload_n C rfl 0 rfl dX12_seed_0 ?_
  refine x_iconst (v := 0) C (by decide) dX12_seed_1 ?_
  refine x_putI C (j := 0) ob358.1 ob358.2 (Nat.le_of_ble_eq_true rfl) (Nat.le_of_ble_eq_true rfl) (Or.inl rfl) rfl rfl rfl tw_8_206 dX12_seed_2 ?_
  refine x_mu (fun μ3 e_μ3 => ?_)
  have h := h μ3 e_μ3
  refine x_aload_n C rfl 0 rfl dX12_seed_5 ?_
  refine x_getI C (j := 22) ob358.1 ob358.2 (Nat.le_of_ble_eq_true rfl) (Nat.le_of_ble_eq_true rfl) (Or.inl rfl) tw_8_228 dX12_seed_6 ?_
  refine x_topi (fun y4 e_y4 => ?_)
  have h := h y4 e_y4
  refine x_istore_n C [(2, .int y4), (0, .ref 358), (1, .int v1)] rfl (Nat.le_of_ble_eq_true rfl) rfl dX12_seed_9 ?_
  refine x_aload_n C rfl 1 rfl dX12_seed_10 ?_
  refine x_iload_n C rfl 2 rfl dX12_seed_11 ?_
  refine x_putI C (j := 22) ob358.1 ob358.2 (Nat.le_of_ble_eq_true rfl) (Nat.le_of_ble_eq_true rfl) (Or.inl rfl) rfl rfl rfl tw_8_228 dX12_seed_12 ?_
  refine x_mu (fun μ5 e_μ5 => ?_)
  have h := h μ5 e_μ5
  refine x_iload_n C rfl 0 rfl dX12_seed_15 ?_
  exact x_iret C hr dX12_seed_16 ⟨_, rfl, h⟩
set_option maxHeartbeats 4000000 in
set_option maxRecDepth 100000 in
theorem G12_isFilter_J33_ok {p : Program} {e : Env} {s : State} {m : MethodId} {args : Array Value} {below : List Frame} {meth : Method} {c : Code} {l : Launch} {φ : Nat → Nat} {tc : Nat → ClassId} {D : va_G} {s0 : State} {dR : Nat} (C : CX p s m args meth c φ tc D s0 cX12_isFilter RX12 2) (hd : G12_isFilter_dep ≤ dR) (hr : meth.sig.returnType = (some .boolean))   {Q : Int32 → MM → Prop}  {μ : MM}    (h : G12_isFilter_J33 μ Q) : WX p l e (rmX dR) s m args below meth c φ tc D 2 (MQ below (QX φ tc D (QI Q)) args s 0 0 (AX φ)) 33 [] [] μ := by
  unfold G12_isFilter_J33 at h
  refine x_iconst (v := 0) C (by decide) dX12_isFilter_33 ?_
  exact x_zret C hr bo_0 dX12_isFilter_34 ⟨_, rfl, h⟩
set_option maxHeartbeats 4000000 in
set_option maxRecDepth 100000 in
theorem G12_isFilter_met {l : Launch} {φ : Nat → Nat} {tc : Nat → ClassId} {D : va_G} {s0 : State} (hG : GX φ tc D s0) {dR : Nat} (hd : G12_isFilter_dep ≤ dR) {v1 : Int32} {μ : MM} {Q : Int32 → MM → Prop}  (h : G12_isFilter v1 μ Q) : MX l φ tc D s0 dR yX12_isFilter cX12_isFilter 2 (some .boolean) [.ref 358, .int v1] μ (QI Q) := by
  refine MX.of (own := RX12) hG plX12 rfl (Nat.le_of_ble_eq_true rfl) (fun p e s m args below meth c C hr => ?_)
  refine x_sub [(0, .ref 358), (1, .int v1)] [0, 1] rfl ?_
  unfold G12_isFilter at h
  refine x_iload_n C rfl 1 rfl dX12_isFilter_0 ?_
  refine x_iconst (v := (-1)) C (by decide) dX12_isFilter_1 ?_
  refine x_icmp_eq (tgt := 29) C dX12_isFilter_2 (by decide) (fun c4 => ?_) (fun c4 => ?_)
  · have h := h.1 c4
    refine x_iconst (v := 1) C (by decide) dX12_isFilter_29 ?_
    refine x_goto (tgt := 34) C dX12_isFilter_30 (by decide) ?_
    exact x_zret C hr bo_1 dX12_isFilter_34 ⟨_, rfl, h⟩
  · have h := h.2 c4
    refine x_iload_n C rfl 1 rfl dX12_isFilter_5 ?_
    refine x_i2l C dX12_isFilter_6 ?_
    refine x_lconst (v := 0) C (by decide) dX12_isFilter_7 ?_
    refine x_ldc2 (v := 5) C tw_6_191 dX12_isFilter_8 ?_
    refine x_callS (dC := G12_in_dep) (as := [.long (v1.toInt64), .long 0, .long 5]) (st := []) C rfl (Nat.le_trans (Nat.le_of_ble_eq_true rfl) hd) (Nat.le_of_ble_eq_true rfl) tw_6_183 tw_6_182 tc_6_184 tw_1_13 hyX12 hnX12_in rfl (Nat.le_of_ble_eq_true rfl) dX12_isFilter_11 (G12_in_met C.2.2.2.2.2.2.2.1 (Nat.le_refl _)  h) (fun r0 μ5 hq => ?_)
    obtain ⟨r6, rfl, h⟩ := hq
    refine x_st [.int r6] rfl ?_
    refine x_if_eq (tgt := 33) C dX12_isFilter_14 (by decide) (fun c7 => ?_) (fun c7 => ?_)
    · have h := h.1 c7
      refine x_sub [] [] rfl ?_
      exact G12_isFilter_J33_ok C hd hr  h
    · have h := h.2 c7
      refine x_aload_n C rfl 0 rfl dX12_isFilter_17 ?_
      refine x_getR (r := 378) C (j := 25) ob358.1 ob358.2 (Nat.le_of_ble_eq_true rfl) (Nat.le_of_ble_eq_true rfl) (fun _ _ _ => rfl) r_358_25 tw_8_231 dX12_isFilter_18 ?_
      refine x_bipush (v := 6) C (by decide) dX12_isFilter_21 ?_
      refine x_iload_n C rfl 1 rfl dX12_isFilter_23 ?_
      refine x_iadd C dX12_isFilter_24 ?_
      obtain ⟨c8, h⟩ := h
      refine x_iald C ob378.1 ob378.2 c8 rfl dX12_isFilter_25 ?_
      refine x_if_le (tgt := 33) C dX12_isFilter_26 (by decide) (fun c9 => ?_) (fun c9 => ?_)
      · have h := h.1 c9
        refine x_sub [] [] rfl ?_
        exact G12_isFilter_J33_ok C hd hr  h
      · have h := h.2 c9
        refine x_iconst (v := 1) C (by decide) dX12_isFilter_29 ?_
        refine x_goto (tgt := 34) C dX12_isFilter_30 (by decide) ?_
        exact x_zret C hr bo_1 dX12_isFilter_34 ⟨_, rfl, h⟩
set_option maxHeartbeats 4000000 in
set_option maxRecDepth 100000 in
theorem G12_passes_J29_ok {p : Program} {e : Env} {s : State} {m : MethodId} {args : Array Value} {below : List Frame} {meth : Method} {c : Code} {l : Launch} {φ : Nat → Nat} {tc : Nat → ClassId} {D : va_G} {s0 : State} {dR : Nat} (C : CX p s m args meth c φ tc D s0 cX12_passes RX12 3) (hd : G12_passes_dep ≤ dR) (hr : meth.sig.returnType = (some .boolean))   {Q : Int32 → MM → Prop}  {μ : MM}    (h : G12_passes_J29 μ Q) : WX p l e (rmX dR) s m args below meth c φ tc D 3 (MQ below (QX φ tc D (QI Q)) args s 0 0 (AX φ)) 29 [] [] μ := by
  unfold G12_passes_J29 at h
  refine x_iconst (v := 0) C (by decide) dX12_passes_29 ?_
  exact x_zret C hr bo_0 dX12_passes_30 ⟨_, rfl, h⟩
set_option maxHeartbeats 4000000 in
set_option maxRecDepth 100000 in
theorem G12_passes_met {l : Launch} {φ : Nat → Nat} {tc : Nat → ClassId} {D : va_G} {s0 : State} (hG : GX φ tc D s0) {dR : Nat} (hd : G12_passes_dep ≤ dR) {v1 : Int32} {v2 : Int32} {μ : MM} {Q : Int32 → MM → Prop}  (h : G12_passes v1 v2 μ Q) : MX l φ tc D s0 dR yX12_passes cX12_passes 3 (some .boolean) [.ref 358, .int v1, .int v2] μ (QI Q) := by
  refine MX.of (own := RX12) hG plX12 rfl (Nat.le_of_ble_eq_true rfl) (fun p e s m args below meth c C hr => ?_)
  refine x_sub [(0, .ref 358), (1, .int v1), (2, .int v2)] [0, 1, 2] rfl ?_
  unfold G12_passes at h
  refine x_aload_n C rfl 0 rfl dX12_passes_0 ?_
  refine x_getR (r := 373) C (j := 19) ob358.1 ob358.2 (Nat.le_of_ble_eq_true rfl) (Nat.le_of_ble_eq_true rfl) (fun _ _ _ => rfl) r_358_19 tw_8_225 dX12_passes_1 ?_
  refine x_iload_n C rfl 2 rfl dX12_passes_4 ?_
  obtain ⟨c4, h⟩ := h
  refine x_zald C ob373.1 ob373.2 c4 rfl dX12_passes_5 ?_
  refine x_if_eq (tgt := 29) C dX12_passes_6 (by decide) (fun c5 => ?_) (fun c5 => ?_)
  · have h := h.1 c5
    refine x_sub [] [] rfl ?_
    exact G12_passes_J29_ok C hd hr  h
  · have h := h.2 c5
    refine x_iload_n C rfl 1 rfl dX12_passes_9 ?_
    refine x_if_lt (tgt := 25) C dX12_passes_10 (by decide) (fun c6 => ?_) (fun c6 => ?_)
    · have h := h.1 c6
      refine x_iconst (v := 1) C (by decide) dX12_passes_25 ?_
      refine x_goto (tgt := 30) C dX12_passes_26 (by decide) ?_
      exact x_zret C hr bo_1 dX12_passes_30 ⟨_, rfl, h⟩
    · have h := h.2 c6
      refine x_aload_n C rfl 0 rfl dX12_passes_13 ?_
      refine x_bipush (v := 6) C (by decide) dX12_passes_14 ?_
      refine x_iload_n C rfl 1 rfl dX12_passes_16 ?_
      refine x_iadd C dX12_passes_17 ?_
      refine x_iload_n C rfl 2 rfl dX12_passes_18 ?_
      refine x_callV (dC := G12_worked_dep) (as := [.int (6 + v1), .int v2]) (st := []) C rfl (Nat.le_trans (Nat.le_of_ble_eq_true rfl) hd) (Nat.le_of_ble_eq_true rfl) ob358.1 ob358.2 (Nat.le_of_ble_eq_true rfl) rfl ts_9_10 tw_7_101 tw_7_99 tc_7_102 tw_1_13 hyX12 hnX12_worked rfl (Nat.le_of_ble_eq_true rfl) dX12_passes_19 (G12_worked_met C.2.2.2.2.2.2.2.1 (Nat.le_refl _)  h) (fun r0 μ7 hq => ?_)
      obtain ⟨r8, rfl, h⟩ := hq
      refine x_st [.int r8] rfl ?_
      refine x_if_eq (tgt := 29) C dX12_passes_22 (by decide) (fun c9 => ?_) (fun c9 => ?_)
      · have h := h.1 c9
        refine x_sub [] [] rfl ?_
        exact G12_passes_J29_ok C hd hr  h
      · have h := h.2 c9
        refine x_iconst (v := 1) C (by decide) dX12_passes_25 ?_
        refine x_goto (tgt := 30) C dX12_passes_26 (by decide) ?_
        exact x_zret C hr bo_1 dX12_passes_30 ⟨_, rfl, h⟩
set_option maxHeartbeats 4000000 in
set_option maxRecDepth 100000 in
theorem G12_peopleOf_met {l : Launch} {φ : Nat → Nat} {tc : Nat → ClassId} {D : va_G} {s0 : State} (hG : GX φ tc D s0) {dR : Nat} (hd : G12_peopleOf_dep ≤ dR) {v1 : Int32} {μ : MM} {Q : Int32 → MM → Prop}  (h : G12_peopleOf v1 μ Q) : MX l φ tc D s0 dR yX12_peopleOf cX12_peopleOf 2 (some .int) [.ref 358, .int v1] μ (QI Q) := by
  refine MX.of (own := RX12) hG plX12 rfl (Nat.le_of_ble_eq_true rfl) (fun p e s m args below meth c C hr => ?_)
  refine x_sub [(0, .ref 358), (1, .int v1)] [0, 1] rfl ?_
  unfold G12_peopleOf at h
  refine x_aload_n C rfl 0 rfl dX12_peopleOf_0 ?_
  refine x_getR (r := 360) C (j := 4) ob358.1 ob358.2 (Nat.le_of_ble_eq_true rfl) (Nat.le_of_ble_eq_true rfl) (fun _ _ _ => rfl) r_358_4 tw_8_210 dX12_peopleOf_1 ?_
  refine x_aload_n C rfl 0 rfl dX12_peopleOf_4 ?_
  refine x_getR (r := 368) C (j := 14) ob358.1 ob358.2 (Nat.le_of_ble_eq_true rfl) (Nat.le_of_ble_eq_true rfl) (fun _ _ _ => rfl) r_358_14 tw_8_220 dX12_peopleOf_5 ?_
  refine x_iload_n C rfl 1 rfl dX12_peopleOf_8 ?_
  obtain ⟨c3, h⟩ := h
  refine x_iald C ob368.1 ob368.2 c3 rfl dX12_peopleOf_9 ?_
  obtain ⟨c4, h⟩ := h
  refine x_iald C ob360.1 ob360.2 c4 rfl dX12_peopleOf_10 ?_
  exact x_iret C hr dX12_peopleOf_11 ⟨_, rfl, h⟩
set_option maxHeartbeats 4000000 in
set_option maxRecDepth 100000 in
theorem G12_counts_L29_b {p : Program} {e : Env} {s : State} {m : MethodId} {args : Array Value} {below : List Frame} {meth : Method} {c : Code} {l : Launch} {φ : Nat → Nat} {tc : Nat → ClassId} {D : va_G} {s0 : State} {dR : Nat} (C : CX p s m args meth c φ tc D s0 cX12_counts RX12 4) (hd : G12_counts_dep ≤ dR) (hr : meth.sig.returnType = none)  {p1 : Int32} {p2 : Int32} {Q : MM → Prop} {K29 : Int32 × MM → Prop} {x : Int32 × MM}   (hK29 : ∀ (z3 : Int32) (zμ : MM), K29 (z3, zμ) → WX p l e (rmX dR) s m args below meth c φ tc D 4 (MQ below (QX φ tc D (QV Q)) args s 0 0 (AX φ)) 29 [(0, .ref 358), (1, .int p1), (2, .int p2), (3, .int z3)] [] zμ) (h : G12_counts_L29 p1 p2 Q K29 x) : WX p l e (rmX dR) s m args below meth c φ tc D 4 (MQ below (QX φ tc D (QV Q)) args s 0 0 (AX φ)) 29 [(0, .ref 358), (1, .int p1), (2, .int p2), (3, .int x.1)] [] x.2 := by
  unfold G12_counts_L29 at h
  refine x_iload_n C rfl 3 rfl dX12_counts_29 ?_
  refine x_aload_n C rfl 0 rfl dX12_counts_30 ?_
  refine x_getI C (j := 12) ob358.1 ob358.2 (Nat.le_of_ble_eq_true rfl) (Nat.le_of_ble_eq_true rfl) (Or.inl rfl) tw_8_218 dX12_counts_31 ?_
  refine x_icmp_ge (tgt := 98) C dX12_counts_34 (by decide) (fun c22 => ?_) (fun c22 => ?_)
  · have h := h.1 c22
    exact x_vret C hr dX12_counts_98 ⟨rfl, h⟩
  · have h := h.2 c22
    refine x_aload_n C rfl 0 rfl dX12_counts_37 ?_
    refine x_getR (r := 367) C (j := 13) ob358.1 ob358.2 (Nat.le_of_ble_eq_true rfl) (Nat.le_of_ble_eq_true rfl) (fun _ _ _ => rfl) r_358_13 tw_8_219 dX12_counts_38 ?_
    refine x_iload_n C rfl 3 rfl dX12_counts_41 ?_
    obtain ⟨c23, h⟩ := h
    refine x_iald C ob367.1 ob367.2 c23 rfl dX12_counts_42 ?_
    refine x_iload_n C rfl 2 rfl dX12_counts_43 ?_
    refine x_icmp_eq (tgt := 92) C dX12_counts_44 (by decide) (fun c24 => ?_) (fun c24 => ?_)
    · have h := h.1 c24
      refine x_iinc (v := (x.1 + 1)) C [(3, .int (x.1 + 1)), (0, .ref 358), (1, .int p1), (2, .int p2)] 3 rfl (congrArg (fun z => x.1 + z) (by decide : Int32.ofInt (1) = 1)) (Nat.le_of_ble_eq_true rfl) rfl dX12_counts_92 ?_
      refine x_goto (tgt := 29) C dX12_counts_95 (by decide) ?_
      refine x_sub [(0, .ref 358), (1, .int p1), (2, .int p2), (3, .int (x.1 + 1))] [1, 2, 3, 0] rfl ?_
      exact hK29 _ _ h
    · have h := h.2 c24
      refine x_aload_n C rfl 0 rfl dX12_counts_47 ?_
      refine x_iload_n C rfl 1 rfl dX12_counts_48 ?_
      refine x_iload_n C rfl 3 rfl dX12_counts_49 ?_
      refine x_callV (dC := G12_passes_dep) (as := [.int p1, .int x.1]) (st := []) C rfl (Nat.le_trans (Nat.le_of_ble_eq_true rfl) hd) (Nat.le_of_ble_eq_true rfl) ob358.1 ob358.2 (Nat.le_of_ble_eq_true rfl) rfl ts_9_14 tw_7_146 tw_7_144 tc_7_147 tw_1_13 hyX12 hnX12_passes rfl (Nat.le_of_ble_eq_true rfl) dX12_counts_50 (G12_passes_met C.2.2.2.2.2.2.2.1 (Nat.le_refl _)  h) (fun r0 μ25 hq => ?_)
      obtain ⟨r26, rfl, h⟩ := hq
      refine x_st [.int r26] rfl ?_
      refine x_if_eq (tgt := 92) C dX12_counts_53 (by decide) (fun c27 => ?_) (fun c27 => ?_)
      · have h := h.1 c27
        refine x_iinc (v := (x.1 + 1)) C [(3, .int (x.1 + 1)), (0, .ref 358), (1, .int p1), (2, .int p2)] 3 rfl (congrArg (fun z => x.1 + z) (by decide : Int32.ofInt (1) = 1)) (Nat.le_of_ble_eq_true rfl) rfl dX12_counts_92 ?_
        refine x_goto (tgt := 29) C dX12_counts_95 (by decide) ?_
        refine x_sub [(0, .ref 358), (1, .int p1), (2, .int p2), (3, .int (x.1 + 1))] [1, 2, 3, 0] rfl ?_
        exact hK29 _ _ h
      · have h := h.2 c27
        refine x_aload_n C rfl 0 rfl dX12_counts_56 ?_
        refine x_getR (r := 381) C (j := 36) ob358.1 ob358.2 (Nat.le_of_ble_eq_true rfl) (Nat.le_of_ble_eq_true rfl) (fun _ _ _ => rfl) r_358_36 tw_9_2 dX12_counts_57 ?_
        refine x_aload_n C rfl 0 rfl dX12_counts_60 ?_
        refine x_iload_n C rfl 3 rfl dX12_counts_61 ?_
        refine x_callV (dC := G12_peopleOf_dep) (as := [.int x.1]) (st := [.ref 381]) C rfl (Nat.le_trans (Nat.le_of_ble_eq_true rfl) hd) (Nat.le_of_ble_eq_true rfl) ob358.1 ob358.2 (Nat.le_of_ble_eq_true rfl) rfl ts_9_15 tw_7_150 tw_7_148 tc_7_151 tw_1_13 hyX12 hnX12_peopleOf rfl (Nat.le_of_ble_eq_true rfl) dX12_counts_62 (G12_peopleOf_met C.2.2.2.2.2.2.2.1 (Nat.le_refl _)  h) (fun r0 μ28 hq => ?_)
        obtain ⟨r29, rfl, h⟩ := hq
        refine x_st [.int r29, .ref 381] rfl ?_
        refine x_dup2_11 C rfl rfl dX12_counts_65 ?_
        obtain ⟨c30, h⟩ := h
        refine x_iald C ob381.1 ob381.2 c30 rfl dX12_counts_66 ?_
        refine x_iconst (v := 1) C (by decide) dX12_counts_67 ?_
        refine x_iadd C dX12_counts_68 ?_
        obtain ⟨c31, h⟩ := h
        refine x_iast C ob381.1 ob381.2 c31 rfl dX12_counts_69 ?_
        refine x_mu (fun μ32 e_μ32 => ?_)
        have h := h μ32 e_μ32
        refine x_aload_n C rfl 0 rfl dX12_counts_70 ?_
        refine x_getR (r := 382) C (j := 37) ob358.1 ob358.2 (Nat.le_of_ble_eq_true rfl) (Nat.le_of_ble_eq_true rfl) (fun _ _ _ => rfl) r_358_37 tw_9_3 dX12_counts_71 ?_
        refine x_aload_n C rfl 0 rfl dX12_counts_74 ?_
        refine x_iload_n C rfl 3 rfl dX12_counts_75 ?_
        refine x_callV (dC := G12_peopleOf_dep) (as := [.int x.1]) (st := [.ref 382]) C rfl (Nat.le_trans (Nat.le_of_ble_eq_true rfl) hd) (Nat.le_of_ble_eq_true rfl) ob358.1 ob358.2 (Nat.le_of_ble_eq_true rfl) rfl ts_9_15 tw_7_150 tw_7_148 tc_7_151 tw_1_13 hyX12 hnX12_peopleOf rfl (Nat.le_of_ble_eq_true rfl) dX12_counts_76 (G12_peopleOf_met C.2.2.2.2.2.2.2.1 (Nat.le_refl _)  h) (fun r0 μ33 hq => ?_)
        obtain ⟨r34, rfl, h⟩ := hq
        refine x_st [.int r34, .ref 382] rfl ?_
        refine x_dup2_11 C rfl rfl dX12_counts_79 ?_
        obtain ⟨c35, h⟩ := h
        refine x_iald C ob382.1 ob382.2 c35 rfl dX12_counts_80 ?_
        refine x_aload_n C rfl 0 rfl dX12_counts_81 ?_
        refine x_getR (r := 374) C (j := 20) ob358.1 ob358.2 (Nat.le_of_ble_eq_true rfl) (Nat.le_of_ble_eq_true rfl) (fun _ _ _ => rfl) r_358_20 tw_8_226 dX12_counts_82 ?_
        refine x_iload_n C rfl 3 rfl dX12_counts_85 ?_
        obtain ⟨c36, h⟩ := h
        refine x_zald C ob374.1 ob374.2 c36 rfl dX12_counts_86 ?_
        refine x_callS (dC := G12_flag_dep) (as := [.int (gI μ33 374 x.1.toNatClampNeg)]) (st := [.int (gI μ33 382 r34.toNatClampNeg), .int r34, .ref 382]) C rfl (Nat.le_trans (Nat.le_of_ble_eq_true rfl) hd) (Nat.le_of_ble_eq_true rfl) tw_6_212 tw_6_211 tc_6_213 tw_1_13 hyX12 hnX12_flag rfl (Nat.le_of_ble_eq_true rfl) dX12_counts_87 (G12_flag_met C.2.2.2.2.2.2.2.1 (Nat.le_refl _)  h) (fun r0 μ37 hq => ?_)
        obtain ⟨r38, rfl, h⟩ := hq
        refine x_st [.int r38, .int (gI μ33 382 r34.toNatClampNeg), .int r34, .ref 382] rfl ?_
        refine x_iadd C dX12_counts_90 ?_
        obtain ⟨c39, h⟩ := h
        refine x_iast C ob382.1 ob382.2 c39 rfl dX12_counts_91 ?_
        refine x_mu (fun μ40 e_μ40 => ?_)
        have h := h μ40 e_μ40
        refine x_iinc (v := (x.1 + 1)) C [(3, .int (x.1 + 1)), (0, .ref 358), (1, .int p1), (2, .int p2)] 3 rfl (congrArg (fun z => x.1 + z) (by decide : Int32.ofInt (1) = 1)) (Nat.le_of_ble_eq_true rfl) rfl dX12_counts_92 ?_
        refine x_goto (tgt := 29) C dX12_counts_95 (by decide) ?_
        refine x_sub [(0, .ref 358), (1, .int p1), (2, .int p2), (3, .int (x.1 + 1))] [1, 2, 3, 0] rfl ?_
        exact hK29 _ _ h
theorem G12_counts_L29_ok {p : Program} {e : Env} {s : State} {m : MethodId} {args : Array Value} {below : List Frame} {meth : Method} {c : Code} {l : Launch} {φ : Nat → Nat} {tc : Nat → ClassId} {D : va_G} {s0 : State} {dR : Nat} (C : CX p s m args meth c φ tc D s0 cX12_counts RX12 4) (hd : G12_counts_dep ≤ dR) (hr : meth.sig.returnType = none)  {p1 : Int32} {p2 : Int32} {Q : MM → Prop}  {x : Int32 × MM}    (h : Lp (G12_counts_L29 p1 p2 Q) x) : WX p l e (rmX dR) s m args below meth c φ tc D 4 (MQ below (QX φ tc D (QV Q)) args s 0 0 (AX φ)) 29 [(0, .ref 358), (1, .int p1), (2, .int p2), (3, .int x.1)] [] x.2 := by
  obtain ⟨n, h⟩ := h
  induction n generalizing x with
  | zero => exact h.elim
  | succ n ih => exact G12_counts_L29_b C hd hr   (fun z3 zμ hz => by have q := ih hz; exact q) h
set_option maxHeartbeats 4000000 in
set_option maxRecDepth 100000 in
theorem G12_counts_L2_b {p : Program} {e : Env} {s : State} {m : MethodId} {args : Array Value} {below : List Frame} {meth : Method} {c : Code} {l : Launch} {φ : Nat → Nat} {tc : Nat → ClassId} {D : va_G} {s0 : State} {dR : Nat} (C : CX p s m args meth c φ tc D s0 cX12_counts RX12 4) (hd : G12_counts_dep ≤ dR) (hr : meth.sig.returnType = none)  {p1 : Int32} {p2 : Int32} {Q : MM → Prop} {K2 : Int32 × MM → Prop} {x : Int32 × MM}   (hK2 : ∀ (z3 : Int32) (zμ : MM), K2 (z3, zμ) → WX p l e (rmX dR) s m args below meth c φ tc D 4 (MQ below (QX φ tc D (QV Q)) args s 0 0 (AX φ)) 2 [(0, .ref 358), (1, .int p1), (2, .int p2), (3, .int z3)] [] zμ) (h : G12_counts_L2 p1 p2 Q K2 x) : WX p l e (rmX dR) s m args below meth c φ tc D 4 (MQ below (QX φ tc D (QV Q)) args s 0 0 (AX φ)) 2 [(0, .ref 358), (1, .int p1), (2, .int p2), (3, .int x.1)] [] x.2 := by
  unfold G12_counts_L2 at h
  refine x_iload_n C rfl 3 rfl dX12_counts_2 ?_
  refine x_iconst (v := 2) C (by decide) dX12_counts_3 ?_
  refine x_icmp_ge (tgt := 27) C dX12_counts_4 (by decide) (fun c21 => ?_) (fun c21 => ?_)
  · have h := h.1 c21
    refine x_iconst (v := 0) C (by decide) dX12_counts_27 ?_
    refine x_istore_n C [(3, .int 0), (0, .ref 358), (1, .int p1), (2, .int p2)] rfl (Nat.le_of_ble_eq_true rfl) rfl dX12_counts_28 ?_
    refine x_sub [(0, .ref 358), (1, .int p1), (2, .int p2), (3, .int 0)] [1, 2, 3, 0] rfl ?_
    exact G12_counts_L29_ok C hd hr  h
  · have h := h.2 c21
    refine x_aload_n C rfl 0 rfl dX12_counts_7 ?_
    refine x_getR (r := 381) C (j := 36) ob358.1 ob358.2 (Nat.le_of_ble_eq_true rfl) (Nat.le_of_ble_eq_true rfl) (fun _ _ _ => rfl) r_358_36 tw_9_2 dX12_counts_8 ?_
    refine x_iload_n C rfl 3 rfl dX12_counts_11 ?_
    refine x_iconst (v := 0) C (by decide) dX12_counts_12 ?_
    obtain ⟨c41, h⟩ := h
    refine x_iast C ob381.1 ob381.2 c41 rfl dX12_counts_13 ?_
    refine x_mu (fun μ42 e_μ42 => ?_)
    have h := h μ42 e_μ42
    refine x_aload_n C rfl 0 rfl dX12_counts_14 ?_
    refine x_getR (r := 382) C (j := 37) ob358.1 ob358.2 (Nat.le_of_ble_eq_true rfl) (Nat.le_of_ble_eq_true rfl) (fun _ _ _ => rfl) r_358_37 tw_9_3 dX12_counts_15 ?_
    refine x_iload_n C rfl 3 rfl dX12_counts_18 ?_
    refine x_iconst (v := 0) C (by decide) dX12_counts_19 ?_
    obtain ⟨c43, h⟩ := h
    refine x_iast C ob382.1 ob382.2 c43 rfl dX12_counts_20 ?_
    refine x_mu (fun μ44 e_μ44 => ?_)
    have h := h μ44 e_μ44
    refine x_iinc (v := (x.1 + 1)) C [(3, .int (x.1 + 1)), (0, .ref 358), (1, .int p1), (2, .int p2)] 3 rfl (congrArg (fun z => x.1 + z) (by decide : Int32.ofInt (1) = 1)) (Nat.le_of_ble_eq_true rfl) rfl dX12_counts_21 ?_
    refine x_goto (tgt := 2) C dX12_counts_24 (by decide) ?_
    refine x_sub [(0, .ref 358), (1, .int p1), (2, .int p2), (3, .int (x.1 + 1))] [1, 2, 3, 0] rfl ?_
    exact hK2 _ _ h
theorem G12_counts_L2_ok {p : Program} {e : Env} {s : State} {m : MethodId} {args : Array Value} {below : List Frame} {meth : Method} {c : Code} {l : Launch} {φ : Nat → Nat} {tc : Nat → ClassId} {D : va_G} {s0 : State} {dR : Nat} (C : CX p s m args meth c φ tc D s0 cX12_counts RX12 4) (hd : G12_counts_dep ≤ dR) (hr : meth.sig.returnType = none)  {p1 : Int32} {p2 : Int32} {Q : MM → Prop}  {x : Int32 × MM}    (h : Lp (G12_counts_L2 p1 p2 Q) x) : WX p l e (rmX dR) s m args below meth c φ tc D 4 (MQ below (QX φ tc D (QV Q)) args s 0 0 (AX φ)) 2 [(0, .ref 358), (1, .int p1), (2, .int p2), (3, .int x.1)] [] x.2 := by
  obtain ⟨n, h⟩ := h
  induction n generalizing x with
  | zero => exact h.elim
  | succ n ih => exact G12_counts_L2_b C hd hr   (fun z3 zμ hz => by have q := ih hz; exact q) h
set_option maxHeartbeats 4000000 in
set_option maxRecDepth 100000 in
theorem G12_counts_met {l : Launch} {φ : Nat → Nat} {tc : Nat → ClassId} {D : va_G} {s0 : State} (hG : GX φ tc D s0) {dR : Nat} (hd : G12_counts_dep ≤ dR) {v1 : Int32} {v2 : Int32} {μ : MM} {Q : MM → Prop}  (h : G12_counts v1 v2 μ Q) : MX l φ tc D s0 dR yX12_counts cX12_counts 4 none [.ref 358, .int v1, .int v2] μ (QV Q) := by
  refine MX.of (own := RX12) hG plX12 rfl (Nat.le_of_ble_eq_true rfl) (fun p e s m args below meth c C hr => ?_)
  refine x_sub [(0, .ref 358), (1, .int v1), (2, .int v2)] [0, 1, 2] rfl ?_
  unfold G12_counts at h
  refine x_iconst (v := 0) C (by decide) dX12_counts_0 ?_
  refine x_istore_n C [(3, .int 0), (0, .ref 358), (1, .int v1), (2, .int v2)] rfl (Nat.le_of_ble_eq_true rfl) rfl dX12_counts_1 ?_
  refine x_sub [(0, .ref 358), (1, .int v1), (2, .int v2), (3, .int 0)] [1, 2, 3, 0] rfl ?_
  exact G12_counts_L2_ok C hd hr  h
set_option maxHeartbeats 4000000 in
set_option maxRecDepth 100000 in
theorem G12_share_met {l : Launch} {φ : Nat → Nat} {tc : Nat → ClassId} {D : va_G} {s0 : State} (hG : GX φ tc D s0) {dR : Nat} (hd : G12_share_dep ≤ dR) {v1 : Int32} {μ : MM} {Q : Int32 → MM → Prop}  (h : G12_share v1 μ Q) : MX l φ tc D s0 dR yX12_share cX12_share 2 (some .int) [.ref 358, .int v1] μ (QI Q) := by
  refine MX.of (own := RX12) hG plX12 rfl (Nat.le_of_ble_eq_true rfl) (fun p e s m args below meth c C hr => ?_)
  refine x_sub [(0, .ref 358), (1, .int v1)] [0, 1] rfl ?_
  unfold G12_share at h
  refine x_aload_n C rfl 0 rfl dX12_share_0 ?_
  refine x_iconst (v := 0) C (by decide) dX12_share_1 ?_
  refine x_putI C (j := 0) ob358.1 ob358.2 (Nat.le_of_ble_eq_true rfl) (Nat.le_of_ble_eq_true rfl) (Or.inl rfl) rfl rfl rfl tw_8_206 dX12_share_2 ?_
  refine x_mu (fun μ15 e_μ15 => ?_)
  have h := h μ15 e_μ15
  refine x_aload_n C rfl 0 rfl dX12_share_5 ?_
  refine x_iload_n C rfl 1 rfl dX12_share_6 ?_
  refine x_callV (dC := G12_isFilter_dep) (as := [.int v1]) (st := []) C rfl (Nat.le_trans (Nat.le_of_ble_eq_true rfl) hd) (Nat.le_of_ble_eq_true rfl) ob358.1 ob358.2 (Nat.le_of_ble_eq_true rfl) rfl ts_9_12 tw_7_138 tw_7_136 tc_7_139 tw_1_13 hyX12 hnX12_isFilter rfl (Nat.le_of_ble_eq_true rfl) dX12_share_7 (G12_isFilter_met C.2.2.2.2.2.2.2.1 (Nat.le_refl _)  h) (fun r0 μ16 hq => ?_)
  obtain ⟨r17, rfl, h⟩ := hq
  refine x_st [.int r17] rfl ?_
  refine x_if_ne (tgt := 15) C dX12_share_10 (by decide) (fun c18 => ?_) (fun c18 => ?_)
  · have h := h.1 c18
    refine x_aload_n C rfl 0 rfl dX12_share_15 ?_
    refine x_iload_n C rfl 1 rfl dX12_share_16 ?_
    refine x_iconst (v := (-1)) C (by decide) dX12_share_17 ?_
    refine x_callV (dC := G12_counts_dep) (as := [.int v1, .int (-1)]) (st := []) C rfl (Nat.le_trans (Nat.le_of_ble_eq_true rfl) hd) (Nat.le_of_ble_eq_true rfl) ob358.1 ob358.2 (Nat.le_of_ble_eq_true rfl) rfl ts_9_13 tw_7_142 tw_7_140 tc_7_143 tw_1_13 hyX12 hnX12_counts rfl (Nat.le_of_ble_eq_true rfl) dX12_share_18 (G12_counts_met C.2.2.2.2.2.2.2.1 (Nat.le_refl _)  h) (fun r0 μ19 hq => ?_)
    obtain ⟨rfl, h⟩ := hq
    refine x_st [] rfl ?_
    refine x_aload_n C rfl 0 rfl dX12_share_21 ?_
    refine x_iconst (v := 0) C (by decide) dX12_share_22 ?_
    refine x_putI C (j := 1) ob358.1 ob358.2 (Nat.le_of_ble_eq_true rfl) (Nat.le_of_ble_eq_true rfl) (Or.inl rfl) rfl rfl rfl tw_8_207 dX12_share_23 ?_
    refine x_mu (fun μ20 e_μ20 => ?_)
    have h := h μ20 e_μ20
    refine x_aload_n C rfl 0 rfl dX12_share_26 ?_
    refine x_getR (r := 381) C (j := 36) ob358.1 ob358.2 (Nat.le_of_ble_eq_true rfl) (Nat.le_of_ble_eq_true rfl) (fun _ _ _ => rfl) r_358_36 tw_9_2 dX12_share_27 ?_
    refine x_iconst (v := 0) C (by decide) dX12_share_30 ?_
    refine x_iald C ob381.1 ob381.2 (by unfold vp_in; decide) (j := 0) (by decide) dX12_share_31 ?_
    refine x_aload_n C rfl 0 rfl dX12_share_32 ?_
    refine x_getR (r := 381) C (j := 36) ob358.1 ob358.2 (Nat.le_of_ble_eq_true rfl) (Nat.le_of_ble_eq_true rfl) (fun _ _ _ => rfl) r_358_36 tw_9_2 dX12_share_33 ?_
    refine x_iconst (v := 1) C (by decide) dX12_share_36 ?_
    refine x_iald C ob381.1 ob381.2 (by unfold vp_in; decide) (j := 1) (by decide) dX12_share_37 ?_
    refine x_iadd C dX12_share_38 ?_
    refine x_if_le (tgt := 74) C dX12_share_39 (by decide) (fun c21 => ?_) (fun c21 => ?_)
    · have h := h.1 c21
      refine x_aload_n C rfl 0 rfl dX12_share_74 ?_
      refine x_getR (r := 381) C (j := 36) ob358.1 ob358.2 (Nat.le_of_ble_eq_true rfl) (Nat.le_of_ble_eq_true rfl) (fun _ _ _ => rfl) r_358_36 tw_9_2 dX12_share_75 ?_
      refine x_iconst (v := 0) C (by decide) dX12_share_78 ?_
      refine x_iald C ob381.1 ob381.2 (by unfold vp_in; decide) (j := 0) (by decide) dX12_share_79 ?_
      refine x_aload_n C rfl 0 rfl dX12_share_80 ?_
      refine x_getR (r := 381) C (j := 36) ob358.1 ob358.2 (Nat.le_of_ble_eq_true rfl) (Nat.le_of_ble_eq_true rfl) (fun _ _ _ => rfl) r_358_36 tw_9_2 dX12_share_81 ?_
      refine x_iconst (v := 1) C (by decide) dX12_share_84 ?_
      refine x_iald C ob381.1 ob381.2 (by unfold vp_in; decide) (j := 1) (by decide) dX12_share_85 ?_
      refine x_iadd C dX12_share_86 ?_
      exact x_iret C hr dX12_share_87 ⟨_, rfl, h⟩
    · have h := h.2 c21
      refine x_aload_n C rfl 0 rfl dX12_share_42 ?_
      refine x_aload_n C rfl 0 rfl dX12_share_43 ?_
      refine x_getR (r := 382) C (j := 37) ob358.1 ob358.2 (Nat.le_of_ble_eq_true rfl) (Nat.le_of_ble_eq_true rfl) (fun _ _ _ => rfl) r_358_37 tw_9_3 dX12_share_44 ?_
      refine x_iconst (v := 0) C (by decide) dX12_share_47 ?_
      refine x_iald C ob382.1 ob382.2 (by unfold vp_in; decide) (j := 0) (by decide) dX12_share_48 ?_
      refine x_aload_n C rfl 0 rfl dX12_share_49 ?_
      refine x_getR (r := 382) C (j := 37) ob358.1 ob358.2 (Nat.le_of_ble_eq_true rfl) (Nat.le_of_ble_eq_true rfl) (fun _ _ _ => rfl) r_358_37 tw_9_3 dX12_share_50 ?_
      refine x_iconst (v := 1) C (by decide) dX12_share_53 ?_
      refine x_iald C ob382.1 ob382.2 (by unfold vp_in; decide) (j := 1) (by decide) dX12_share_54 ?_
      refine x_iadd C dX12_share_55 ?_
      refine x_i2l C dX12_share_56 ?_
      refine x_aload_n C rfl 0 rfl dX12_share_57 ?_
      refine x_getR (r := 381) C (j := 36) ob358.1 ob358.2 (Nat.le_of_ble_eq_true rfl) (Nat.le_of_ble_eq_true rfl) (fun _ _ _ => rfl) r_358_36 tw_9_2 dX12_share_58 ?_
      refine x_iconst (v := 0) C (by decide) dX12_share_61 ?_
      refine x_iald C ob381.1 ob381.2 (by unfold vp_in; decide) (j := 0) (by decide) dX12_share_62 ?_
      refine x_aload_n C rfl 0 rfl dX12_share_63 ?_
      refine x_getR (r := 381) C (j := 36) ob358.1 ob358.2 (Nat.le_of_ble_eq_true rfl) (Nat.le_of_ble_eq_true rfl) (fun _ _ _ => rfl) r_358_36 tw_9_2 dX12_share_64 ?_
      refine x_iconst (v := 1) C (by decide) dX12_share_67 ?_
      refine x_iald C ob381.1 ob381.2 (by unfold vp_in; decide) (j := 1) (by decide) dX12_share_68 ?_
      refine x_iadd C dX12_share_69 ?_
      refine x_i2l C dX12_share_70 ?_
      refine x_callV (dC := G12_entersFraction_dep) (as := [.long (((gI μ20 382 0) + (gI μ20 382 1)).toInt64), .long (((gI μ20 381 0) + (gI μ20 381 1)).toInt64)]) (st := []) C rfl (Nat.le_trans (Nat.le_of_ble_eq_true rfl) hd) (Nat.le_of_ble_eq_true rfl) ob358.1 ob358.2 (Nat.le_of_ble_eq_true rfl) rfl ts_10_0 tw_7_154 tw_7_152 tc_7_155 tw_1_13 hyX12 hnX12_entersFraction rfl (Nat.le_of_ble_eq_true rfl) dX12_share_71 (G12_entersFraction_met C.2.2.2.2.2.2.2.1 (Nat.le_refl _)  h) (fun r0 μ22 hq => ?_)
      obtain ⟨rfl, h⟩ := hq
      refine x_st [] rfl ?_
      refine x_aload_n C rfl 0 rfl dX12_share_74 ?_
      refine x_getR (r := 381) C (j := 36) ob358.1 ob358.2 (Nat.le_of_ble_eq_true rfl) (Nat.le_of_ble_eq_true rfl) (fun _ _ _ => rfl) r_358_36 tw_9_2 dX12_share_75 ?_
      refine x_iconst (v := 0) C (by decide) dX12_share_78 ?_
      refine x_iald C ob381.1 ob381.2 (by unfold vp_in; decide) (j := 0) (by decide) dX12_share_79 ?_
      refine x_aload_n C rfl 0 rfl dX12_share_80 ?_
      refine x_getR (r := 381) C (j := 36) ob358.1 ob358.2 (Nat.le_of_ble_eq_true rfl) (Nat.le_of_ble_eq_true rfl) (fun _ _ _ => rfl) r_358_36 tw_9_2 dX12_share_81 ?_
      refine x_iconst (v := 1) C (by decide) dX12_share_84 ?_
      refine x_iald C ob381.1 ob381.2 (by unfold vp_in; decide) (j := 1) (by decide) dX12_share_85 ?_
      refine x_iadd C dX12_share_86 ?_
      exact x_iret C hr dX12_share_87 ⟨_, rfl, h⟩
  · have h := h.2 c18
    refine x_iconst (v := (-1)) C (by decide) dX12_share_13 ?_
    exact x_iret C hr dX12_share_14 ⟨_, rfl, h⟩
set_option maxHeartbeats 4000000 in
set_option maxRecDepth 100000 in
theorem G12_areBoth_J22_ok {p : Program} {e : Env} {s : State} {m : MethodId} {args : Array Value} {below : List Frame} {meth : Method} {c : Code} {l : Launch} {φ : Nat → Nat} {tc : Nat → ClassId} {D : va_G} {s0 : State} {dR : Nat} (C : CX p s m args meth c φ tc D s0 cX12_areBoth RX12 1) (hd : G12_areBoth_dep ≤ dR) (hr : meth.sig.returnType = (some .boolean))   {Q : Int32 → MM → Prop}  {μ : MM}    (h : G12_areBoth_J22 μ Q) : WX p l e (rmX dR) s m args below meth c φ tc D 1 (MQ below (QX φ tc D (QI Q)) args s 0 0 (AX φ)) 22 [] [] μ := by
  unfold G12_areBoth_J22 at h
  refine x_iconst (v := 0) C (by decide) dX12_areBoth_22 ?_
  exact x_zret C hr bo_0 dX12_areBoth_23 ⟨_, rfl, h⟩
set_option maxHeartbeats 4000000 in
set_option maxRecDepth 100000 in
theorem G12_areBoth_met {l : Launch} {φ : Nat → Nat} {tc : Nat → ClassId} {D : va_G} {s0 : State} (hG : GX φ tc D s0) {dR : Nat} (hd : G12_areBoth_dep ≤ dR)  {μ : MM} {Q : Int32 → MM → Prop}  (h : G12_areBoth  μ Q) : MX l φ tc D s0 dR yX12_areBoth cX12_areBoth 1 (some .boolean) [.ref 358] μ (QI Q) := by
  refine MX.of (own := RX12) hG plX12 rfl (Nat.le_of_ble_eq_true rfl) (fun p e s m args below meth c C hr => ?_)
  refine x_sub [(0, .ref 358)] [0] rfl ?_
  unfold G12_areBoth at h
  refine x_aload_n C rfl 0 rfl dX12_areBoth_0 ?_
  refine x_getR (r := 381) C (j := 36) ob358.1 ob358.2 (Nat.le_of_ble_eq_true rfl) (Nat.le_of_ble_eq_true rfl) (fun _ _ _ => rfl) r_358_36 tw_9_2 dX12_areBoth_1 ?_
  refine x_iconst (v := 0) C (by decide) dX12_areBoth_4 ?_
  refine x_iald C ob381.1 ob381.2 (by unfold vp_in; decide) (j := 0) (by decide) dX12_areBoth_5 ?_
  refine x_if_le (tgt := 22) C dX12_areBoth_6 (by decide) (fun c3 => ?_) (fun c3 => ?_)
  · have h := h.1 c3
    refine x_sub [] [] rfl ?_
    exact G12_areBoth_J22_ok C hd hr  h
  · have h := h.2 c3
    refine x_aload_n C rfl 0 rfl dX12_areBoth_9 ?_
    refine x_getR (r := 381) C (j := 36) ob358.1 ob358.2 (Nat.le_of_ble_eq_true rfl) (Nat.le_of_ble_eq_true rfl) (fun _ _ _ => rfl) r_358_36 tw_9_2 dX12_areBoth_10 ?_
    refine x_iconst (v := 1) C (by decide) dX12_areBoth_13 ?_
    refine x_iald C ob381.1 ob381.2 (by unfold vp_in; decide) (j := 1) (by decide) dX12_areBoth_14 ?_
    refine x_if_le (tgt := 22) C dX12_areBoth_15 (by decide) (fun c4 => ?_) (fun c4 => ?_)
    · have h := h.1 c4
      refine x_sub [] [] rfl ?_
      exact G12_areBoth_J22_ok C hd hr  h
    · have h := h.2 c4
      refine x_iconst (v := 1) C (by decide) dX12_areBoth_18 ?_
      refine x_goto (tgt := 23) C dX12_areBoth_19 (by decide) ?_
      exact x_zret C hr bo_1 dX12_areBoth_23 ⟨_, rfl, h⟩
set_option maxHeartbeats 4000000 in
set_option maxRecDepth 100000 in
theorem G12_aside_met {l : Launch} {φ : Nat → Nat} {tc : Nat → ClassId} {D : va_G} {s0 : State} (hG : GX φ tc D s0) {dR : Nat} (hd : G12_aside_dep ≤ dR) {v1 : Int32} {μ : MM} {Q : Int32 → MM → Prop}  (h : G12_aside v1 μ Q) : MX l φ tc D s0 dR yX12_aside cX12_aside 2 (some .int) [.ref 358, .int v1] μ (QI Q) := by
  refine MX.of (own := RX12) hG plX12 rfl (Nat.le_of_ble_eq_true rfl) (fun p e s m args below meth c C hr => ?_)
  refine x_sub [(0, .ref 358), (1, .int v1)] [0, 1] rfl ?_
  unfold G12_aside at h
  refine x_aload_n C rfl 0 rfl dX12_aside_0 ?_
  refine x_iconst (v := 0) C (by decide) dX12_aside_1 ?_
  refine x_putI C (j := 0) ob358.1 ob358.2 (Nat.le_of_ble_eq_true rfl) (Nat.le_of_ble_eq_true rfl) (Or.inl rfl) rfl rfl rfl tw_8_206 dX12_aside_2 ?_
  refine x_mu (fun μ23 e_μ23 => ?_)
  have h := h μ23 e_μ23
  refine x_aload_n C rfl 0 rfl dX12_aside_5 ?_
  refine x_iload_n C rfl 1 rfl dX12_aside_6 ?_
  refine x_callV (dC := G12_isFilter_dep) (as := [.int v1]) (st := []) C rfl (Nat.le_trans (Nat.le_of_ble_eq_true rfl) hd) (Nat.le_of_ble_eq_true rfl) ob358.1 ob358.2 (Nat.le_of_ble_eq_true rfl) rfl ts_9_12 tw_7_138 tw_7_136 tc_7_139 tw_1_13 hyX12 hnX12_isFilter rfl (Nat.le_of_ble_eq_true rfl) dX12_aside_7 (G12_isFilter_met C.2.2.2.2.2.2.2.1 (Nat.le_refl _)  h) (fun r0 μ24 hq => ?_)
  obtain ⟨r25, rfl, h⟩ := hq
  refine x_st [.int r25] rfl ?_
  refine x_if_ne (tgt := 15) C dX12_aside_10 (by decide) (fun c26 => ?_) (fun c26 => ?_)
  · have h := h.1 c26
    refine x_aload_n C rfl 0 rfl dX12_aside_15 ?_
    refine x_iload_n C rfl 1 rfl dX12_aside_16 ?_
    refine x_iconst (v := (-1)) C (by decide) dX12_aside_17 ?_
    refine x_callV (dC := G12_counts_dep) (as := [.int v1, .int (-1)]) (st := []) C rfl (Nat.le_trans (Nat.le_of_ble_eq_true rfl) hd) (Nat.le_of_ble_eq_true rfl) ob358.1 ob358.2 (Nat.le_of_ble_eq_true rfl) rfl ts_9_13 tw_7_142 tw_7_140 tc_7_143 tw_1_13 hyX12 hnX12_counts rfl (Nat.le_of_ble_eq_true rfl) dX12_aside_18 (G12_counts_met C.2.2.2.2.2.2.2.1 (Nat.le_refl _)  h) (fun r0 μ27 hq => ?_)
    obtain ⟨rfl, h⟩ := hq
    refine x_st [] rfl ?_
    refine x_aload_n C rfl 0 rfl dX12_aside_21 ?_
    refine x_callV (dC := G12_areBoth_dep) (as := []) (st := []) C rfl (Nat.le_trans (Nat.le_of_ble_eq_true rfl) hd) (Nat.le_of_ble_eq_true rfl) ob358.1 ob358.2 (Nat.le_of_ble_eq_true rfl) rfl ts_10_2 tw_7_169 tw_7_167 tc_7_170 tw_1_13 hyX12 hnX12_areBoth rfl (Nat.le_of_ble_eq_true rfl) dX12_aside_22 (G12_areBoth_met C.2.2.2.2.2.2.2.1 (Nat.le_refl _)  h) (fun r0 μ28 hq => ?_)
    obtain ⟨r29, rfl, h⟩ := hq
    refine x_st [.int r29] rfl ?_
    refine x_if_ne (tgt := 31) C dX12_aside_25 (by decide) (fun c30 => ?_) (fun c30 => ?_)
    · have h := h.1 c30
      refine x_aload_n C rfl 0 rfl dX12_aside_31 ?_
      refine x_iconst (v := 0) C (by decide) dX12_aside_32 ?_
      refine x_putI C (j := 1) ob358.1 ob358.2 (Nat.le_of_ble_eq_true rfl) (Nat.le_of_ble_eq_true rfl) (Or.inl rfl) rfl rfl rfl tw_8_207 dX12_aside_33 ?_
      refine x_mu (fun μ31 e_μ31 => ?_)
      have h := h μ31 e_μ31
      refine x_aload_n C rfl 0 rfl dX12_aside_36 ?_
      refine x_aload_n C rfl 0 rfl dX12_aside_37 ?_
      refine x_getR (r := 382) C (j := 37) ob358.1 ob358.2 (Nat.le_of_ble_eq_true rfl) (Nat.le_of_ble_eq_true rfl) (fun _ _ _ => rfl) r_358_37 tw_9_3 dX12_aside_38 ?_
      refine x_iconst (v := 0) C (by decide) dX12_aside_41 ?_
      refine x_iald C ob382.1 ob382.2 (by unfold vp_in; decide) (j := 0) (by decide) dX12_aside_42 ?_
      refine x_aload_n C rfl 0 rfl dX12_aside_43 ?_
      refine x_getR (r := 381) C (j := 36) ob358.1 ob358.2 (Nat.le_of_ble_eq_true rfl) (Nat.le_of_ble_eq_true rfl) (fun _ _ _ => rfl) r_358_36 tw_9_2 dX12_aside_44 ?_
      refine x_iconst (v := 1) C (by decide) dX12_aside_47 ?_
      refine x_iald C ob381.1 ob381.2 (by unfold vp_in; decide) (j := 1) (by decide) dX12_aside_48 ?_
      refine x_imul C dX12_aside_49 ?_
      refine x_aload_n C rfl 0 rfl dX12_aside_50 ?_
      refine x_getR (r := 382) C (j := 37) ob358.1 ob358.2 (Nat.le_of_ble_eq_true rfl) (Nat.le_of_ble_eq_true rfl) (fun _ _ _ => rfl) r_358_37 tw_9_3 dX12_aside_51 ?_
      refine x_iconst (v := 1) C (by decide) dX12_aside_54 ?_
      refine x_iald C ob382.1 ob382.2 (by unfold vp_in; decide) (j := 1) (by decide) dX12_aside_55 ?_
      refine x_aload_n C rfl 0 rfl dX12_aside_56 ?_
      refine x_getR (r := 381) C (j := 36) ob358.1 ob358.2 (Nat.le_of_ble_eq_true rfl) (Nat.le_of_ble_eq_true rfl) (fun _ _ _ => rfl) r_358_36 tw_9_2 dX12_aside_57 ?_
      refine x_iconst (v := 0) C (by decide) dX12_aside_60 ?_
      refine x_iald C ob381.1 ob381.2 (by unfold vp_in; decide) (j := 0) (by decide) dX12_aside_61 ?_
      refine x_imul C dX12_aside_62 ?_
      refine x_isub C dX12_aside_63 ?_
      refine x_i2l C dX12_aside_64 ?_
      refine x_aload_n C rfl 0 rfl dX12_aside_65 ?_
      refine x_getR (r := 381) C (j := 36) ob358.1 ob358.2 (Nat.le_of_ble_eq_true rfl) (Nat.le_of_ble_eq_true rfl) (fun _ _ _ => rfl) r_358_36 tw_9_2 dX12_aside_66 ?_
      refine x_iconst (v := 0) C (by decide) dX12_aside_69 ?_
      refine x_iald C ob381.1 ob381.2 (by unfold vp_in; decide) (j := 0) (by decide) dX12_aside_70 ?_
      refine x_i2l C dX12_aside_71 ?_
      refine x_aload_n C rfl 0 rfl dX12_aside_72 ?_
      refine x_getR (r := 381) C (j := 36) ob358.1 ob358.2 (Nat.le_of_ble_eq_true rfl) (Nat.le_of_ble_eq_true rfl) (fun _ _ _ => rfl) r_358_36 tw_9_2 dX12_aside_73 ?_
      refine x_iconst (v := 1) C (by decide) dX12_aside_76 ?_
      refine x_iald C ob381.1 ob381.2 (by unfold vp_in; decide) (j := 1) (by decide) dX12_aside_77 ?_
      refine x_i2l C dX12_aside_78 ?_
      refine x_lmul C dX12_aside_79 ?_
      refine x_callV (dC := G12_entersFraction_dep) (as := [.long ((((gI μ31 382 0) * (gI μ31 381 1)) - ((gI μ31 382 1) * (gI μ31 381 0))).toInt64), .long (((gI μ31 381 0).toInt64) * ((gI μ31 381 1).toInt64))]) (st := []) C rfl (Nat.le_trans (Nat.le_of_ble_eq_true rfl) hd) (Nat.le_of_ble_eq_true rfl) ob358.1 ob358.2 (Nat.le_of_ble_eq_true rfl) rfl ts_10_0 tw_7_154 tw_7_152 tc_7_155 tw_1_13 hyX12 hnX12_entersFraction rfl (Nat.le_of_ble_eq_true rfl) dX12_aside_80 (G12_entersFraction_met C.2.2.2.2.2.2.2.1 (Nat.le_refl _)  h) (fun r0 μ32 hq => ?_)
      obtain ⟨rfl, h⟩ := hq
      refine x_st [] rfl ?_
      refine x_aload_n C rfl 0 rfl dX12_aside_83 ?_
      refine x_aload_n C rfl 0 rfl dX12_aside_84 ?_
      refine x_getR (r := 381) C (j := 36) ob358.1 ob358.2 (Nat.le_of_ble_eq_true rfl) (Nat.le_of_ble_eq_true rfl) (fun _ _ _ => rfl) r_358_36 tw_9_2 dX12_aside_85 ?_
      refine x_iconst (v := 0) C (by decide) dX12_aside_88 ?_
      refine x_iald C ob381.1 ob381.2 (by unfold vp_in; decide) (j := 0) (by decide) dX12_aside_89 ?_
      refine x_i2l C dX12_aside_90 ?_
      refine x_callV (dC := G12_enters_dep) (as := [.long ((gI μ32 381 0).toInt64)]) (st := []) C rfl (Nat.le_trans (Nat.le_of_ble_eq_true rfl) hd) (Nat.le_of_ble_eq_true rfl) ob358.1 ob358.2 (Nat.le_of_ble_eq_true rfl) rfl ts_10_1 tw_7_161 tw_7_159 tc_7_162 tw_1_13 hyX12 hnX12_enters rfl (Nat.le_of_ble_eq_true rfl) dX12_aside_91 (G12_enters_met C.2.2.2.2.2.2.2.1 (Nat.le_refl _)  h) (fun r0 μ33 hq => ?_)
      obtain ⟨rfl, h⟩ := hq
      refine x_st [] rfl ?_
      refine x_aload_n C rfl 0 rfl dX12_aside_94 ?_
      refine x_aload_n C rfl 0 rfl dX12_aside_95 ?_
      refine x_getR (r := 382) C (j := 37) ob358.1 ob358.2 (Nat.le_of_ble_eq_true rfl) (Nat.le_of_ble_eq_true rfl) (fun _ _ _ => rfl) r_358_37 tw_9_3 dX12_aside_96 ?_
      refine x_iconst (v := 0) C (by decide) dX12_aside_99 ?_
      refine x_iald C ob382.1 ob382.2 (by unfold vp_in; decide) (j := 0) (by decide) dX12_aside_100 ?_
      refine x_i2l C dX12_aside_101 ?_
      refine x_callV (dC := G12_enters_dep) (as := [.long ((gI μ33 382 0).toInt64)]) (st := []) C rfl (Nat.le_trans (Nat.le_of_ble_eq_true rfl) hd) (Nat.le_of_ble_eq_true rfl) ob358.1 ob358.2 (Nat.le_of_ble_eq_true rfl) rfl ts_10_1 tw_7_161 tw_7_159 tc_7_162 tw_1_13 hyX12 hnX12_enters rfl (Nat.le_of_ble_eq_true rfl) dX12_aside_102 (G12_enters_met C.2.2.2.2.2.2.2.1 (Nat.le_refl _)  h) (fun r0 μ34 hq => ?_)
      obtain ⟨rfl, h⟩ := hq
      refine x_st [] rfl ?_
      refine x_aload_n C rfl 0 rfl dX12_aside_105 ?_
      refine x_aload_n C rfl 0 rfl dX12_aside_106 ?_
      refine x_getR (r := 381) C (j := 36) ob358.1 ob358.2 (Nat.le_of_ble_eq_true rfl) (Nat.le_of_ble_eq_true rfl) (fun _ _ _ => rfl) r_358_36 tw_9_2 dX12_aside_107 ?_
      refine x_iconst (v := 1) C (by decide) dX12_aside_110 ?_
      refine x_iald C ob381.1 ob381.2 (by unfold vp_in; decide) (j := 1) (by decide) dX12_aside_111 ?_
      refine x_i2l C dX12_aside_112 ?_
      refine x_callV (dC := G12_enters_dep) (as := [.long ((gI μ34 381 1).toInt64)]) (st := []) C rfl (Nat.le_trans (Nat.le_of_ble_eq_true rfl) hd) (Nat.le_of_ble_eq_true rfl) ob358.1 ob358.2 (Nat.le_of_ble_eq_true rfl) rfl ts_10_1 tw_7_161 tw_7_159 tc_7_162 tw_1_13 hyX12 hnX12_enters rfl (Nat.le_of_ble_eq_true rfl) dX12_aside_113 (G12_enters_met C.2.2.2.2.2.2.2.1 (Nat.le_refl _)  h) (fun r0 μ35 hq => ?_)
      obtain ⟨rfl, h⟩ := hq
      refine x_st [] rfl ?_
      refine x_aload_n C rfl 0 rfl dX12_aside_116 ?_
      refine x_aload_n C rfl 0 rfl dX12_aside_117 ?_
      refine x_getR (r := 382) C (j := 37) ob358.1 ob358.2 (Nat.le_of_ble_eq_true rfl) (Nat.le_of_ble_eq_true rfl) (fun _ _ _ => rfl) r_358_37 tw_9_3 dX12_aside_118 ?_
      refine x_iconst (v := 1) C (by decide) dX12_aside_121 ?_
      refine x_iald C ob382.1 ob382.2 (by unfold vp_in; decide) (j := 1) (by decide) dX12_aside_122 ?_
      refine x_i2l C dX12_aside_123 ?_
      refine x_callV (dC := G12_enters_dep) (as := [.long ((gI μ35 382 1).toInt64)]) (st := []) C rfl (Nat.le_trans (Nat.le_of_ble_eq_true rfl) hd) (Nat.le_of_ble_eq_true rfl) ob358.1 ob358.2 (Nat.le_of_ble_eq_true rfl) rfl ts_10_1 tw_7_161 tw_7_159 tc_7_162 tw_1_13 hyX12 hnX12_enters rfl (Nat.le_of_ble_eq_true rfl) dX12_aside_124 (G12_enters_met C.2.2.2.2.2.2.2.1 (Nat.le_refl _)  h) (fun r0 μ36 hq => ?_)
      obtain ⟨rfl, h⟩ := hq
      refine x_st [] rfl ?_
      refine x_iconst (v := 0) C (by decide) dX12_aside_127 ?_
      exact x_iret C hr dX12_aside_128 ⟨_, rfl, h⟩
    · have h := h.2 c30
      refine x_bipush (v := (-2)) C (by decide) dX12_aside_28 ?_
      exact x_iret C hr dX12_aside_30 ⟨_, rfl, h⟩
  · have h := h.2 c26
    refine x_iconst (v := (-1)) C (by decide) dX12_aside_13 ?_
    exact x_iret C hr dX12_aside_14 ⟨_, rfl, h⟩
set_option maxHeartbeats 4000000 in
set_option maxRecDepth 100000 in
theorem G12_choices_L16_b {p : Program} {e : Env} {s : State} {m : MethodId} {args : Array Value} {below : List Frame} {meth : Method} {c : Code} {l : Launch} {φ : Nat → Nat} {tc : Nat → ClassId} {D : va_G} {s0 : State} {dR : Nat} (C : CX p s m args meth c φ tc D s0 cX12_choices RX12 5) (hd : G12_choices_dep ≤ dR) (hr : meth.sig.returnType = (some .long))  {p0 : Int32} {p1 : Int32} {Q : Int64 → MM → Prop} {K16 : Int64 × Int32 × MM → Prop} {x : Int64 × Int32 × MM}   (hK16 : ∀ (z2 : Int64) (z4 : Int32) (zμ : MM), K16 (z2, z4, zμ) → WX p l e (rmX dR) s m args below meth c φ tc D 5 (MQ below (QX φ tc D (QJ Q)) args s 0 0 (AX φ)) 16 [(0, .int p0), (1, .int p1), (2, .long z2), (4, .int z4)] [] zμ) (h : G12_choices_L16 p0 p1 Q K16 x) : WX p l e (rmX dR) s m args below meth c φ tc D 5 (MQ below (QX φ tc D (QJ Q)) args s 0 0 (AX φ)) 16 [(0, .int p0), (1, .int p1), (2, .long x.1), (4, .int x.2.1)] [] x.2.2 := by
  unfold G12_choices_L16 at h
  refine x_iload C 3 rfl dX12_choices_16 ?_
  refine x_iload_n C rfl 1 rfl dX12_choices_18 ?_
  refine x_icmp_gt (tgt := 42) C dX12_choices_19 (by decide) (fun c4 => ?_) (fun c4 => ?_)
  · have h := h.1 c4
    refine x_lload_n C rfl 2 rfl dX12_choices_42 ?_
    exact x_lret C hr dX12_choices_43 ⟨_, rfl, h⟩
  · have h := h.2 c4
    refine x_lload_n C rfl 2 rfl dX12_choices_22 ?_
    refine x_iload_n C rfl 0 rfl dX12_choices_23 ?_
    refine x_iload_n C rfl 1 rfl dX12_choices_24 ?_
    refine x_isub C dX12_choices_25 ?_
    refine x_iload C 3 rfl dX12_choices_26 ?_
    refine x_iadd C dX12_choices_28 ?_
    refine x_i2l C dX12_choices_29 ?_
    refine x_lmul C dX12_choices_30 ?_
    refine x_iload C 3 rfl dX12_choices_31 ?_
    refine x_i2l C dX12_choices_33 ?_
    obtain ⟨c5, h⟩ := h
    refine x_ldiv C c5 dX12_choices_34 ?_
    refine x_topl (fun y6 e_y6 => ?_)
    have h := h y6 e_y6
    refine x_lstore_n C [(2, .long y6), (0, .int p0), (1, .int p1), (4, .int x.2.1)] rfl (Nat.le_of_ble_eq_true rfl) rfl dX12_choices_35 ?_
    refine x_iinc (v := (x.2.1 + 1)) C [(4, .int (x.2.1 + 1)), (2, .long y6), (0, .int p0), (1, .int p1)] 3 rfl (congrArg (fun z => x.2.1 + z) (by decide : Int32.ofInt (1) = 1)) (Nat.le_of_ble_eq_true rfl) rfl dX12_choices_36 ?_
    refine x_goto (tgt := 16) C dX12_choices_39 (by decide) ?_
    refine x_sub [(0, .int p0), (1, .int p1), (2, .long y6), (4, .int (x.2.1 + 1))] [2, 3, 1, 0] rfl ?_
    exact hK16 _ _ _ h
theorem G12_choices_L16_ok {p : Program} {e : Env} {s : State} {m : MethodId} {args : Array Value} {below : List Frame} {meth : Method} {c : Code} {l : Launch} {φ : Nat → Nat} {tc : Nat → ClassId} {D : va_G} {s0 : State} {dR : Nat} (C : CX p s m args meth c φ tc D s0 cX12_choices RX12 5) (hd : G12_choices_dep ≤ dR) (hr : meth.sig.returnType = (some .long))  {p0 : Int32} {p1 : Int32} {Q : Int64 → MM → Prop}  {x : Int64 × Int32 × MM}    (h : Lp (G12_choices_L16 p0 p1 Q) x) : WX p l e (rmX dR) s m args below meth c φ tc D 5 (MQ below (QX φ tc D (QJ Q)) args s 0 0 (AX φ)) 16 [(0, .int p0), (1, .int p1), (2, .long x.1), (4, .int x.2.1)] [] x.2.2 := by
  obtain ⟨n, h⟩ := h
  induction n generalizing x with
  | zero => exact h.elim
  | succ n ih => exact G12_choices_L16_b C hd hr   (fun z2 z4 zμ hz => by have q := ih hz; exact q) h
set_option maxHeartbeats 4000000 in
set_option maxRecDepth 100000 in
theorem G12_choices_met {l : Launch} {φ : Nat → Nat} {tc : Nat → ClassId} {D : va_G} {s0 : State} (hG : GX φ tc D s0) {dR : Nat} (hd : G12_choices_dep ≤ dR) {v0 : Int32} {v1 : Int32} {μ : MM} {Q : Int64 → MM → Prop}  (h : G12_choices v0 v1 μ Q) : MX l φ tc D s0 dR yX12_choices cX12_choices 5 (some .long) [.int v0, .int v1] μ (QJ Q) := by
  refine MX.of (own := RX12) hG plX12 rfl (Nat.le_of_ble_eq_true rfl) (fun p e s m args below meth c C hr => ?_)
  refine x_sub [(0, .int v0), (1, .int v1)] [0, 1] rfl ?_
  unfold G12_choices at h
  refine x_iload_n C rfl 1 rfl dX12_choices_0 ?_
  refine x_if_lt (tgt := 9) C dX12_choices_1 (by decide) (fun c2 => ?_) (fun c2 => ?_)
  · have h := h.1 c2
    refine x_lconst (v := 0) C (by decide) dX12_choices_9 ?_
    exact x_lret C hr dX12_choices_10 ⟨_, rfl, h⟩
  · have h := h.2 c2
    refine x_iload_n C rfl 1 rfl dX12_choices_4 ?_
    refine x_iload_n C rfl 0 rfl dX12_choices_5 ?_
    refine x_icmp_le (tgt := 11) C dX12_choices_6 (by decide) (fun c3 => ?_) (fun c3 => ?_)
    · have h := h.1 c3
      refine x_lconst (v := 1) C (by decide) dX12_choices_11 ?_
      refine x_lstore_n C [(2, .long 1), (0, .int v0), (1, .int v1)] rfl (Nat.le_of_ble_eq_true rfl) rfl dX12_choices_12 ?_
      refine x_iconst (v := 1) C (by decide) dX12_choices_13 ?_
      refine x_istore C [(4, .int 1), (2, .long 1), (0, .int v0), (1, .int v1)] (Nat.le_of_ble_eq_true rfl) rfl dX12_choices_14 ?_
      refine x_sub [(0, .int v0), (1, .int v1), (2, .long 1), (4, .int 1)] [2, 3, 1, 0] rfl ?_
      exact G12_choices_L16_ok C hd hr  h
    · have h := h.2 c3
      refine x_lconst (v := 0) C (by decide) dX12_choices_9 ?_
      exact x_lret C hr dX12_choices_10 ⟨_, rfl, h⟩
set_option maxHeartbeats 4000000 in
set_option maxRecDepth 100000 in
theorem G12_odds_J380_ok {p : Program} {e : Env} {s : State} {m : MethodId} {args : Array Value} {below : List Frame} {meth : Method} {c : Code} {l : Launch} {φ : Nat → Nat} {tc : Nat → ClassId} {D : va_G} {s0 : State} {dR : Nat} (C : CX p s m args meth c φ tc D s0 cX12_odds RX12 12) (hd : G12_odds_dep ≤ dR) (hr : meth.sig.returnType = (some .int))  {p2 : Int32} {p3 : Int32} {p6 : Int64} {p8 : Int32} {q0 : Int64} {Q : Int32 → MM → Prop} {K313 : Int64 × Int64 × Int32 × MM → Prop} {μ : MM}   (hK313 : ∀ (z4 : Int64) (z6 : Int64) (z8 : Int32) (zμ : MM), K313 (z4, z6, z8, zμ) → WX p l e (rmX dR) s m args below meth c φ tc D 12 (MQ below (QX φ tc D (QI Q)) args s 0 0 (AX φ)) 313 [(0, .ref 358), (2, .int p2), (3, .int p3), (4, .long z4), (6, .long z6), (8, .int z8)] [] zμ) (h : G12_odds_J380 p2 p3 p6 p8 q0 μ K313 Q) : WX p l e (rmX dR) s m args below meth c φ tc D 12 (MQ below (QX φ tc D (QI Q)) args s 0 0 (AX φ)) 380 [(0, .ref 358), (2, .int p2), (3, .int p3), (6, .long p6), (8, .int p8)] [.long q0] μ := by
  unfold G12_odds_J380 at h
  refine x_lconst (v := 0) C (by decide) dX12_odds_380 ?_
  refine x_ladd C dX12_odds_381 ?_
  refine x_topl (fun y54 e_y54 => ?_)
  have h := h y54 e_y54
  refine x_lstore C [(4, .long y54), (0, .ref 358), (2, .int p2), (3, .int p3), (6, .long p6), (8, .int p8)] (Nat.le_of_ble_eq_true rfl) rfl dX12_odds_382 ?_
  refine x_iinc (v := (p8 + 1)) C [(8, .int (p8 + 1)), (4, .long y54), (0, .ref 358), (2, .int p2), (3, .int p3), (6, .long p6)] 5 rfl (congrArg (fun z => p8 + z) (by decide : Int32.ofInt (1) = 1)) (Nat.le_of_ble_eq_true rfl) rfl dX12_odds_384 ?_
  refine x_goto (tgt := 313) C dX12_odds_387 (by decide) ?_
  refine x_sub [(0, .ref 358), (2, .int p2), (3, .int p3), (4, .long y54), (6, .long p6), (8, .int (p8 + 1))] [2, 3, 4, 1, 5, 0] rfl ?_
  exact hK313 _ _ _ _ h
set_option maxHeartbeats 4000000 in
set_option maxRecDepth 100000 in
theorem G12_odds_L313_b {p : Program} {e : Env} {s : State} {m : MethodId} {args : Array Value} {below : List Frame} {meth : Method} {c : Code} {l : Launch} {φ : Nat → Nat} {tc : Nat → ClassId} {D : va_G} {s0 : State} {dR : Nat} (C : CX p s m args meth c φ tc D s0 cX12_odds RX12 12) (hd : G12_odds_dep ≤ dR) (hr : meth.sig.returnType = (some .int))  {p2 : Int32} {p3 : Int32} {Q : Int32 → MM → Prop} {K313 : Int64 × Int64 × Int32 × MM → Prop} {x : Int64 × Int64 × Int32 × MM}   (hK313 : ∀ (z4 : Int64) (z6 : Int64) (z8 : Int32) (zμ : MM), K313 (z4, z6, z8, zμ) → WX p l e (rmX dR) s m args below meth c φ tc D 12 (MQ below (QX φ tc D (QI Q)) args s 0 0 (AX φ)) 313 [(0, .ref 358), (2, .int p2), (3, .int p3), (4, .long z4), (6, .long z6), (8, .int z8)] [] zμ) (h : G12_odds_L313 p2 p3 Q K313 x) : WX p l e (rmX dR) s m args below meth c φ tc D 12 (MQ below (QX φ tc D (QI Q)) args s 0 0 (AX φ)) 313 [(0, .ref 358), (2, .int p2), (3, .int p3), (4, .long x.1), (6, .long x.2.1), (8, .int x.2.2.1)] [] x.2.2.2 := by
  unfold G12_odds_L313 at h
  refine x_iload C 5 rfl dX12_odds_313 ?_
  refine x_aload_n C rfl 0 rfl dX12_odds_315 ?_
  refine x_getR (r := 383) C (j := 38) ob358.1 ob358.2 (Nat.le_of_ble_eq_true rfl) (Nat.le_of_ble_eq_true rfl) (fun _ _ _ => rfl) r_358_38 tw_9_4 dX12_odds_316 ?_
  refine x_alen (v := 192) C ob383.1 (by decide) (by decide) (by decide) dX12_odds_319 ?_
  refine x_icmp_ge (tgt := 390) C dX12_odds_320 (by decide) (fun c46 => ?_) (fun c46 => ?_)
  · have h := h.1 c46
    refine x_aload_n C rfl 0 rfl dX12_odds_390 ?_
    refine x_iconst (v := 0) C (by decide) dX12_odds_391 ?_
    refine x_putI C (j := 1) ob358.1 ob358.2 (Nat.le_of_ble_eq_true rfl) (Nat.le_of_ble_eq_true rfl) (Or.inl rfl) rfl rfl rfl tw_8_207 dX12_odds_392 ?_
    refine x_mu (fun μ47 e_μ47 => ?_)
    have h := h μ47 e_μ47
    refine x_aload_n C rfl 0 rfl dX12_odds_395 ?_
    refine x_lload C 3 rfl dX12_odds_396 ?_
    refine x_lload C 4 rfl dX12_odds_398 ?_
    refine x_callV (dC := G12_entersFraction_dep) (as := [.long x.1, .long x.2.1]) (st := []) C rfl (Nat.le_trans (Nat.le_of_ble_eq_true rfl) hd) (Nat.le_of_ble_eq_true rfl) ob358.1 ob358.2 (Nat.le_of_ble_eq_true rfl) rfl ts_10_0 tw_7_154 tw_7_152 tc_7_155 tw_1_13 hyX12 hnX12_entersFraction rfl (Nat.le_of_ble_eq_true rfl) dX12_odds_400 (G12_entersFraction_met C.2.2.2.2.2.2.2.1 (Nat.le_refl _)  h) (fun r0 μ48 hq => ?_)
    obtain ⟨rfl, h⟩ := hq
    refine x_st [] rfl ?_
    refine x_iconst (v := 0) C (by decide) dX12_odds_403 ?_
    exact x_iret C hr dX12_odds_404 ⟨_, rfl, h⟩
  · have h := h.2 c46
    refine x_lload C 4 rfl dX12_odds_323 ?_
    refine x_aload_n C rfl 0 rfl dX12_odds_325 ?_
    refine x_getR (r := 383) C (j := 38) ob358.1 ob358.2 (Nat.le_of_ble_eq_true rfl) (Nat.le_of_ble_eq_true rfl) (fun _ _ _ => rfl) r_358_38 tw_9_4 dX12_odds_326 ?_
    refine x_iload C 5 rfl dX12_odds_329 ?_
    obtain ⟨c49, h⟩ := h
    refine x_lald C ob383.1 ob383.2 c49 rfl dX12_odds_331 ?_
    refine x_ladd C dX12_odds_332 ?_
    refine x_topl (fun y50 e_y50 => ?_)
    have h := h y50 e_y50
    refine x_lstore C [(6, .long y50), (0, .ref 358), (2, .int p2), (3, .int p3), (4, .long x.1), (8, .int x.2.2.1)] (Nat.le_of_ble_eq_true rfl) rfl dX12_odds_333 ?_
    refine x_lload C 4 rfl dX12_odds_335 ?_
    refine x_iload_n C rfl 2 rfl dX12_odds_337 ?_
    refine x_if_ne (tgt := 350) C dX12_odds_338 (by decide) (fun c51 => ?_) (fun c51 => ?_)
    · have h := h.1 c51
      refine x_iload_n C rfl 2 rfl dX12_odds_350 ?_
      refine x_iconst (v := 1) C (by decide) dX12_odds_351 ?_
      refine x_icmp_ne (tgt := 364) C dX12_odds_352 (by decide) (fun c52 => ?_) (fun c52 => ?_)
      · have h := h.1 c52
        refine x_iload C 5 rfl dX12_odds_364 ?_
        refine x_iload_n C rfl 3 rfl dX12_odds_366 ?_
        refine x_icmp_ne (tgt := 380) C dX12_odds_367 (by decide) (fun c53 => ?_) (fun c53 => ?_)
        · have h := h.1 c53
          refine x_sub [(0, .ref 358), (2, .int p2), (3, .int p3), (6, .long y50), (8, .int x.2.2.1)] [1, 2, 3, 0, 5] rfl ?_
          exact G12_odds_J380_ok C hd hr hK313 h
        · have h := h.2 c53
          refine x_aload_n C rfl 1 rfl dX12_odds_370 ?_
          refine x_getR (r := 383) C (j := 38) ob358.1 ob358.2 (Nat.le_of_ble_eq_true rfl) (Nat.le_of_ble_eq_true rfl) (fun _ _ _ => rfl) r_358_38 tw_9_4 dX12_odds_371 ?_
          refine x_iload C 5 rfl dX12_odds_374 ?_
          obtain ⟨c55, h⟩ := h
          refine x_lald C ob383.1 ob383.2 c55 rfl dX12_odds_376 ?_
          refine x_goto (tgt := 381) C dX12_odds_377 (by decide) ?_
          refine x_ladd C dX12_odds_381 ?_
          refine x_topl (fun y56 e_y56 => ?_)
          have h := h y56 e_y56
          refine x_lstore C [(4, .long y56), (6, .long y50), (0, .ref 358), (2, .int p2), (3, .int p3), (8, .int x.2.2.1)] (Nat.le_of_ble_eq_true rfl) rfl dX12_odds_382 ?_
          refine x_iinc (v := (x.2.2.1 + 1)) C [(8, .int (x.2.2.1 + 1)), (4, .long y56), (6, .long y50), (0, .ref 358), (2, .int p2), (3, .int p3)] 5 rfl (congrArg (fun z => x.2.2.1 + z) (by decide : Int32.ofInt (1) = 1)) (Nat.le_of_ble_eq_true rfl) rfl dX12_odds_384 ?_
          refine x_goto (tgt := 313) C dX12_odds_387 (by decide) ?_
          refine x_sub [(0, .ref 358), (2, .int p2), (3, .int p3), (4, .long y56), (6, .long y50), (8, .int (x.2.2.1 + 1))] [3, 4, 5, 1, 2, 0] rfl ?_
          exact hK313 _ _ _ _ h
      · have h := h.2 c52
        refine x_iload C 5 rfl dX12_odds_355 ?_
        refine x_iload_n C rfl 3 rfl dX12_odds_357 ?_
        refine x_icmp_lt (tgt := 380) C dX12_odds_358 (by decide) (fun c57 => ?_) (fun c57 => ?_)
        · have h := h.1 c57
          refine x_sub [(0, .ref 358), (2, .int p2), (3, .int p3), (6, .long y50), (8, .int x.2.2.1)] [1, 2, 3, 0, 5] rfl ?_
          exact G12_odds_J380_ok C hd hr hK313 h
        · have h := h.2 c57
          refine x_goto (tgt := 370) C dX12_odds_361 (by decide) ?_
          refine x_aload_n C rfl 1 rfl dX12_odds_370 ?_
          refine x_getR (r := 383) C (j := 38) ob358.1 ob358.2 (Nat.le_of_ble_eq_true rfl) (Nat.le_of_ble_eq_true rfl) (fun _ _ _ => rfl) r_358_38 tw_9_4 dX12_odds_371 ?_
          refine x_iload C 5 rfl dX12_odds_374 ?_
          obtain ⟨c58, h⟩ := h
          refine x_lald C ob383.1 ob383.2 c58 rfl dX12_odds_376 ?_
          refine x_goto (tgt := 381) C dX12_odds_377 (by decide) ?_
          refine x_ladd C dX12_odds_381 ?_
          refine x_topl (fun y59 e_y59 => ?_)
          have h := h y59 e_y59
          refine x_lstore C [(4, .long y59), (6, .long y50), (0, .ref 358), (2, .int p2), (3, .int p3), (8, .int x.2.2.1)] (Nat.le_of_ble_eq_true rfl) rfl dX12_odds_382 ?_
          refine x_iinc (v := (x.2.2.1 + 1)) C [(8, .int (x.2.2.1 + 1)), (4, .long y59), (6, .long y50), (0, .ref 358), (2, .int p2), (3, .int p3)] 5 rfl (congrArg (fun z => x.2.2.1 + z) (by decide : Int32.ofInt (1) = 1)) (Nat.le_of_ble_eq_true rfl) rfl dX12_odds_384 ?_
          refine x_goto (tgt := 313) C dX12_odds_387 (by decide) ?_
          refine x_sub [(0, .ref 358), (2, .int p2), (3, .int p3), (4, .long y59), (6, .long y50), (8, .int (x.2.2.1 + 1))] [3, 4, 5, 1, 2, 0] rfl ?_
          exact hK313 _ _ _ _ h
    · have h := h.2 c51
      refine x_iload C 5 rfl dX12_odds_341 ?_
      refine x_iload_n C rfl 3 rfl dX12_odds_343 ?_
      refine x_icmp_gt (tgt := 380) C dX12_odds_344 (by decide) (fun c60 => ?_) (fun c60 => ?_)
      · have h := h.1 c60
        refine x_sub [(0, .ref 358), (2, .int p2), (3, .int p3), (6, .long y50), (8, .int x.2.2.1)] [1, 2, 3, 0, 5] rfl ?_
        exact G12_odds_J380_ok C hd hr hK313 h
      · have h := h.2 c60
        refine x_goto (tgt := 370) C dX12_odds_347 (by decide) ?_
        refine x_aload_n C rfl 1 rfl dX12_odds_370 ?_
        refine x_getR (r := 383) C (j := 38) ob358.1 ob358.2 (Nat.le_of_ble_eq_true rfl) (Nat.le_of_ble_eq_true rfl) (fun _ _ _ => rfl) r_358_38 tw_9_4 dX12_odds_371 ?_
        refine x_iload C 5 rfl dX12_odds_374 ?_
        obtain ⟨c61, h⟩ := h
        refine x_lald C ob383.1 ob383.2 c61 rfl dX12_odds_376 ?_
        refine x_goto (tgt := 381) C dX12_odds_377 (by decide) ?_
        refine x_ladd C dX12_odds_381 ?_
        refine x_topl (fun y62 e_y62 => ?_)
        have h := h y62 e_y62
        refine x_lstore C [(4, .long y62), (6, .long y50), (0, .ref 358), (2, .int p2), (3, .int p3), (8, .int x.2.2.1)] (Nat.le_of_ble_eq_true rfl) rfl dX12_odds_382 ?_
        refine x_iinc (v := (x.2.2.1 + 1)) C [(8, .int (x.2.2.1 + 1)), (4, .long y62), (6, .long y50), (0, .ref 358), (2, .int p2), (3, .int p3)] 5 rfl (congrArg (fun z => x.2.2.1 + z) (by decide : Int32.ofInt (1) = 1)) (Nat.le_of_ble_eq_true rfl) rfl dX12_odds_384 ?_
        refine x_goto (tgt := 313) C dX12_odds_387 (by decide) ?_
        refine x_sub [(0, .ref 358), (2, .int p2), (3, .int p3), (4, .long y62), (6, .long y50), (8, .int (x.2.2.1 + 1))] [3, 4, 5, 1, 2, 0] rfl ?_
        exact hK313 _ _ _ _ h
theorem G12_odds_L313_ok {p : Program} {e : Env} {s : State} {m : MethodId} {args : Array Value} {below : List Frame} {meth : Method} {c : Code} {l : Launch} {φ : Nat → Nat} {tc : Nat → ClassId} {D : va_G} {s0 : State} {dR : Nat} (C : CX p s m args meth c φ tc D s0 cX12_odds RX12 12) (hd : G12_odds_dep ≤ dR) (hr : meth.sig.returnType = (some .int))  {p2 : Int32} {p3 : Int32} {Q : Int32 → MM → Prop}  {x : Int64 × Int64 × Int32 × MM}    (h : Lp (G12_odds_L313 p2 p3 Q) x) : WX p l e (rmX dR) s m args below meth c φ tc D 12 (MQ below (QX φ tc D (QI Q)) args s 0 0 (AX φ)) 313 [(0, .ref 358), (2, .int p2), (3, .int p3), (4, .long x.1), (6, .long x.2.1), (8, .int x.2.2.1)] [] x.2.2.2 := by
  obtain ⟨n, h⟩ := h
  induction n generalizing x with
  | zero => exact h.elim
  | succ n ih => exact G12_odds_L313_b C hd hr   (fun z4 z6 z8 zμ hz => by have q := ih hz; exact q) h
set_option maxHeartbeats 4000000 in
set_option maxRecDepth 100000 in
theorem G12_odds_L268_b {p : Program} {e : Env} {s : State} {m : MethodId} {args : Array Value} {below : List Frame} {meth : Method} {c : Code} {l : Launch} {φ : Nat → Nat} {tc : Nat → ClassId} {D : va_G} {s0 : State} {dR : Nat} (C : CX p s m args meth c φ tc D s0 cX12_odds RX12 12) (hd : G12_odds_dep ≤ dR) (hr : meth.sig.returnType = (some .int))  {p1 : Int32} {p2 : Int32} {p3 : Int32} {p4 : Int32} {Q : Int32 → MM → Prop} {K68 : Int32 × Int32 × MM → Prop} {K268 : Int32 × MM → Prop} {x : Int32 × MM}   (hK68 : ∀ (z3 : Int32) (z4 : Int32) (zμ : MM), K68 (z3, z4, zμ) → WX p l e (rmX dR) s m args below meth c φ tc D 12 (MQ below (QX φ tc D (QI Q)) args s 0 0 (AX φ)) 68 [(0, .ref 358), (1, .int p1), (2, .int p2), (3, .int z3), (4, .int z4)] [] zμ) (hK268 : ∀ (z8 : Int32) (zμ : MM), K268 (z8, zμ) → WX p l e (rmX dR) s m args below meth c φ tc D 12 (MQ below (QX φ tc D (QI Q)) args s 0 0 (AX φ)) 268 [(0, .ref 358), (1, .int p1), (2, .int p2), (3, .int p3), (4, .int p4), (8, .int z8)] [] zμ) (h : G12_odds_L268 p1 p2 p3 p4 K68 Q K268 x) : WX p l e (rmX dR) s m args below meth c φ tc D 12 (MQ below (QX φ tc D (QI Q)) args s 0 0 (AX φ)) 268 [(0, .ref 358), (1, .int p1), (2, .int p2), (3, .int p3), (4, .int p4), (8, .int x.1)] [] x.2 := by
  unfold G12_odds_L268 at h
  refine x_iload C 5 rfl dX12_odds_268 ?_
  refine x_aload_n C rfl 0 rfl dX12_odds_270 ?_
  refine x_getR (r := 383) C (j := 38) ob358.1 ob358.2 (Nat.le_of_ble_eq_true rfl) (Nat.le_of_ble_eq_true rfl) (fun _ _ _ => rfl) r_358_38 tw_9_4 dX12_odds_271 ?_
  refine x_alen (v := 192) C ob383.1 (by decide) (by decide) (by decide) dX12_odds_274 ?_
  refine x_icmp_ge (tgt := 298) C dX12_odds_275 (by decide) (fun c65 => ?_) (fun c65 => ?_)
  · have h := h.1 c65
    refine x_iinc (v := (p4 + 1)) C [(4, .int (p4 + 1)), (0, .ref 358), (1, .int p1), (2, .int p2), (3, .int p3), (8, .int x.1)] 4 rfl (congrArg (fun z => p4 + z) (by decide : Int32.ofInt (1) = 1)) (Nat.le_of_ble_eq_true rfl) rfl dX12_odds_298 ?_
    refine x_goto (tgt := 68) C dX12_odds_301 (by decide) ?_
    refine x_sub [(0, .ref 358), (1, .int p1), (2, .int p2), (3, .int p3), (4, .int (p4 + 1))] [1, 2, 3, 4, 0] rfl ?_
    exact hK68 _ _ _ h
  · have h := h.2 c65
    refine x_aload_n C rfl 0 rfl dX12_odds_278 ?_
    refine x_getR (r := 383) C (j := 38) ob358.1 ob358.2 (Nat.le_of_ble_eq_true rfl) (Nat.le_of_ble_eq_true rfl) (fun _ _ _ => rfl) r_358_38 tw_9_4 dX12_odds_279 ?_
    refine x_iload C 5 rfl dX12_odds_282 ?_
    refine x_aload_n C rfl 0 rfl dX12_odds_284 ?_
    refine x_getR (r := 384) C (j := 39) ob358.1 ob358.2 (Nat.le_of_ble_eq_true rfl) (Nat.le_of_ble_eq_true rfl) (fun _ _ _ => rfl) r_358_39 tw_9_5 dX12_odds_285 ?_
    refine x_iload C 5 rfl dX12_odds_288 ?_
    obtain ⟨c66, h⟩ := h
    refine x_lald C ob384.1 ob384.2 c66 rfl dX12_odds_290 ?_
    obtain ⟨c67, h⟩ := h
    refine x_last C ob383.1 ob383.2 c67 rfl dX12_odds_291 ?_
    refine x_mu (fun μ68 e_μ68 => ?_)
    have h := h μ68 e_μ68
    refine x_iinc (v := (x.1 + 1)) C [(8, .int (x.1 + 1)), (0, .ref 358), (1, .int p1), (2, .int p2), (3, .int p3), (4, .int p4)] 5 rfl (congrArg (fun z => x.1 + z) (by decide : Int32.ofInt (1) = 1)) (Nat.le_of_ble_eq_true rfl) rfl dX12_odds_292 ?_
    refine x_goto (tgt := 268) C dX12_odds_295 (by decide) ?_
    refine x_sub [(0, .ref 358), (1, .int p1), (2, .int p2), (3, .int p3), (4, .int p4), (8, .int (x.1 + 1))] [1, 2, 3, 4, 5, 0] rfl ?_
    exact hK268 _ _ h
theorem G12_odds_L268_ok {p : Program} {e : Env} {s : State} {m : MethodId} {args : Array Value} {below : List Frame} {meth : Method} {c : Code} {l : Launch} {φ : Nat → Nat} {tc : Nat → ClassId} {D : va_G} {s0 : State} {dR : Nat} (C : CX p s m args meth c φ tc D s0 cX12_odds RX12 12) (hd : G12_odds_dep ≤ dR) (hr : meth.sig.returnType = (some .int))  {p1 : Int32} {p2 : Int32} {p3 : Int32} {p4 : Int32} {Q : Int32 → MM → Prop} {K68 : Int32 × Int32 × MM → Prop} {x : Int32 × MM}   (hK68 : ∀ (z3 : Int32) (z4 : Int32) (zμ : MM), K68 (z3, z4, zμ) → WX p l e (rmX dR) s m args below meth c φ tc D 12 (MQ below (QX φ tc D (QI Q)) args s 0 0 (AX φ)) 68 [(0, .ref 358), (1, .int p1), (2, .int p2), (3, .int z3), (4, .int z4)] [] zμ) (h : Lp (G12_odds_L268 p1 p2 p3 p4 K68 Q) x) : WX p l e (rmX dR) s m args below meth c φ tc D 12 (MQ below (QX φ tc D (QI Q)) args s 0 0 (AX φ)) 268 [(0, .ref 358), (1, .int p1), (2, .int p2), (3, .int p3), (4, .int p4), (8, .int x.1)] [] x.2 := by
  obtain ⟨n, h⟩ := h
  induction n generalizing x with
  | zero => exact h.elim
  | succ n ih => exact G12_odds_L268_b C hd hr  hK68 (fun z8 zμ hz => by have q := ih hz; exact q) h
set_option maxHeartbeats 4000000 in
set_option maxRecDepth 100000 in
theorem G12_odds_L194_b {p : Program} {e : Env} {s : State} {m : MethodId} {args : Array Value} {below : List Frame} {meth : Method} {c : Code} {l : Launch} {φ : Nat → Nat} {tc : Nat → ClassId} {D : va_G} {s0 : State} {dR : Nat} (C : CX p s m args meth c φ tc D s0 cX12_odds RX12 12) (hd : G12_odds_dep ≤ dR) (hr : meth.sig.returnType = (some .int))  {p1 : Int32} {p2 : Int32} {p3 : Int32} {p4 : Int32} {p5 : Int32} {p6 : Int32} {p7 : Int32} {p8 : Int32} {Q : Int32 → MM → Prop} {K68 : Int32 × Int32 × MM → Prop} {K178 : Int32 × MM → Prop} {K194 : Int64 × Int32 × MM → Prop} {x : Int64 × Int32 × MM}   (hK68 : ∀ (z3 : Int32) (z4 : Int32) (zμ : MM), K68 (z3, z4, zμ) → WX p l e (rmX dR) s m args below meth c φ tc D 12 (MQ below (QX φ tc D (QI Q)) args s 0 0 (AX φ)) 68 [(0, .ref 358), (1, .int p1), (2, .int p2), (3, .int z3), (4, .int z4)] [] zμ) (hK178 : ∀ (z8 : Int32) (zμ : MM), K178 (z8, zμ) → WX p l e (rmX dR) s m args below meth c φ tc D 12 (MQ below (QX φ tc D (QI Q)) args s 0 0 (AX φ)) 178 [(0, .ref 358), (1, .int p1), (2, .int p2), (3, .int p3), (4, .int p4), (5, .int p5), (6, .int p6), (7, .int p7), (8, .int z8)] [] zμ) (hK194 : ∀ (z9 : Int64) (z11 : Int32) (zμ : MM), K194 (z9, z11, zμ) → WX p l e (rmX dR) s m args below meth c φ tc D 12 (MQ below (QX φ tc D (QI Q)) args s 0 0 (AX φ)) 194 [(0, .ref 358), (1, .int p1), (2, .int p2), (3, .int p3), (4, .int p4), (5, .int p5), (6, .int p6), (7, .int p7), (8, .int p8), (9, .long z9), (11, .int z11)] [] zμ) (h : G12_odds_L194 p1 p2 p3 p4 p5 p6 p7 p8 K68 K178 Q K194 x) : WX p l e (rmX dR) s m args below meth c φ tc D 12 (MQ below (QX φ tc D (QI Q)) args s 0 0 (AX φ)) 194 [(0, .ref 358), (1, .int p1), (2, .int p2), (3, .int p3), (4, .int p4), (5, .int p5), (6, .int p6), (7, .int p7), (8, .int p8), (9, .long x.1), (11, .int x.2.1)] [] x.2.2 := by
  unfold G12_odds_L194 at h
  refine x_iload C 10 rfl dX12_odds_194 ?_
  refine x_iconst (v := 4) C (by decide) dX12_odds_196 ?_
  refine x_icmp_gt (tgt := 250) C dX12_odds_197 (by decide) (fun c69 => ?_) (fun c69 => ?_)
  · have h := h.1 c69
    refine x_aload_n C rfl 0 rfl dX12_odds_250 ?_
    refine x_getR (r := 384) C (j := 39) ob358.1 ob358.2 (Nat.le_of_ble_eq_true rfl) (Nat.le_of_ble_eq_true rfl) (fun _ _ _ => rfl) r_358_39 tw_9_5 dX12_odds_251 ?_
    refine x_iload C 8 rfl dX12_odds_254 ?_
    refine x_lload C 9 rfl dX12_odds_256 ?_
    obtain ⟨c70, h⟩ := h
    refine x_last C ob384.1 ob384.2 c70 rfl dX12_odds_258 ?_
    refine x_mu (fun μ71 e_μ71 => ?_)
    have h := h μ71 e_μ71
    refine x_iinc (v := (p8 + 1)) C [(8, .int (p8 + 1)), (0, .ref 358), (1, .int p1), (2, .int p2), (3, .int p3), (4, .int p4), (5, .int p5), (6, .int p6), (7, .int p7), (9, .long x.1), (11, .int x.2.1)] 8 rfl (congrArg (fun z => p8 + z) (by decide : Int32.ofInt (1) = 1)) (Nat.le_of_ble_eq_true rfl) rfl dX12_odds_259 ?_
    refine x_goto (tgt := 178) C dX12_odds_262 (by decide) ?_
    refine x_sub [(0, .ref 358), (1, .int p1), (2, .int p2), (3, .int p3), (4, .int p4), (5, .int p5), (6, .int p6), (7, .int p7), (8, .int (p8 + 1))] [1, 2, 3, 4, 5, 6, 7, 8, 0] rfl ?_
    exact hK178 _ _ h
  · have h := h.2 c69
    refine x_iload C 10 rfl dX12_odds_200 ?_
    refine x_iload C 8 rfl dX12_odds_202 ?_
    refine x_icmp_gt (tgt := 250) C dX12_odds_204 (by decide) (fun c72 => ?_) (fun c72 => ?_)
    · have h := h.1 c72
      refine x_aload_n C rfl 0 rfl dX12_odds_250 ?_
      refine x_getR (r := 384) C (j := 39) ob358.1 ob358.2 (Nat.le_of_ble_eq_true rfl) (Nat.le_of_ble_eq_true rfl) (fun _ _ _ => rfl) r_358_39 tw_9_5 dX12_odds_251 ?_
      refine x_iload C 8 rfl dX12_odds_254 ?_
      refine x_lload C 9 rfl dX12_odds_256 ?_
      obtain ⟨c73, h⟩ := h
      refine x_last C ob384.1 ob384.2 c73 rfl dX12_odds_258 ?_
      refine x_mu (fun μ74 e_μ74 => ?_)
      have h := h μ74 e_μ74
      refine x_iinc (v := (p8 + 1)) C [(8, .int (p8 + 1)), (0, .ref 358), (1, .int p1), (2, .int p2), (3, .int p3), (4, .int p4), (5, .int p5), (6, .int p6), (7, .int p7), (9, .long x.1), (11, .int x.2.1)] 8 rfl (congrArg (fun z => p8 + z) (by decide : Int32.ofInt (1) = 1)) (Nat.le_of_ble_eq_true rfl) rfl dX12_odds_259 ?_
      refine x_goto (tgt := 178) C dX12_odds_262 (by decide) ?_
      refine x_sub [(0, .ref 358), (1, .int p1), (2, .int p2), (3, .int p3), (4, .int p4), (5, .int p5), (6, .int p6), (7, .int p7), (8, .int (p8 + 1))] [1, 2, 3, 4, 5, 6, 7, 8, 0] rfl ?_
      exact hK178 _ _ h
    · have h := h.2 c72
      refine x_lload C 9 rfl dX12_odds_207 ?_
      refine x_aload_n C rfl 0 rfl dX12_odds_209 ?_
      refine x_getR (r := 383) C (j := 38) ob358.1 ob358.2 (Nat.le_of_ble_eq_true rfl) (Nat.le_of_ble_eq_true rfl) (fun _ _ _ => rfl) r_358_38 tw_9_4 dX12_odds_210 ?_
      refine x_iload C 8 rfl dX12_odds_213 ?_
      refine x_iload C 10 rfl dX12_odds_215 ?_
      refine x_isub C dX12_odds_217 ?_
      obtain ⟨c75, h⟩ := h
      refine x_lald C ob383.1 ob383.2 c75 rfl dX12_odds_218 ?_
      refine x_iload C 7 rfl dX12_odds_219 ?_
      refine x_iload C 10 rfl dX12_odds_221 ?_
      refine x_callS (dC := G12_choices_dep) (as := [.int p7, .int x.2.1]) (st := [.long (gJ x.2.2 383 ((p8 - x.2.1).toNatClampNeg)), .long x.1]) C rfl (Nat.le_trans (Nat.le_of_ble_eq_true rfl) hd) (Nat.le_of_ble_eq_true rfl) tw_7_176 tw_7_175 tc_7_177 tw_1_13 hyX12 hnX12_choices rfl (Nat.le_of_ble_eq_true rfl) dX12_odds_223 (G12_choices_met C.2.2.2.2.2.2.2.1 (Nat.le_refl _)  h) (fun r0 μ76 hq => ?_)
      obtain ⟨r77, rfl, h⟩ := hq
      refine x_st [.long r77, .long (gJ x.2.2 383 ((p8 - x.2.1).toNatClampNeg)), .long x.1] rfl ?_
      refine x_lmul C dX12_odds_226 ?_
      refine x_iload C 5 rfl dX12_odds_227 ?_
      refine x_iload C 7 rfl dX12_odds_229 ?_
      refine x_isub C dX12_odds_231 ?_
      refine x_iload C 6 rfl dX12_odds_232 ?_
      refine x_iload C 10 rfl dX12_odds_234 ?_
      refine x_isub C dX12_odds_236 ?_
      refine x_callS (dC := G12_choices_dep) (as := [.int (p5 - p7), .int (p6 - x.2.1)]) (st := [.long ((gJ x.2.2 383 ((p8 - x.2.1).toNatClampNeg)) * r77), .long x.1]) C rfl (Nat.le_trans (Nat.le_of_ble_eq_true rfl) hd) (Nat.le_of_ble_eq_true rfl) tw_7_176 tw_7_175 tc_7_177 tw_1_13 hyX12 hnX12_choices rfl (Nat.le_of_ble_eq_true rfl) dX12_odds_237 (G12_choices_met C.2.2.2.2.2.2.2.1 (Nat.le_refl _)  h) (fun r0 μ78 hq => ?_)
      obtain ⟨r79, rfl, h⟩ := hq
      refine x_st [.long r79, .long ((gJ x.2.2 383 ((p8 - x.2.1).toNatClampNeg)) * r77), .long x.1] rfl ?_
      refine x_lmul C dX12_odds_240 ?_
      refine x_ladd C dX12_odds_241 ?_
      refine x_topl (fun y80 e_y80 => ?_)
      have h := h y80 e_y80
      refine x_lstore C [(9, .long y80), (0, .ref 358), (1, .int p1), (2, .int p2), (3, .int p3), (4, .int p4), (5, .int p5), (6, .int p6), (7, .int p7), (8, .int p8), (11, .int x.2.1)] (Nat.le_of_ble_eq_true rfl) rfl dX12_odds_242 ?_
      refine x_iinc (v := (x.2.1 + 1)) C [(11, .int (x.2.1 + 1)), (9, .long y80), (0, .ref 358), (1, .int p1), (2, .int p2), (3, .int p3), (4, .int p4), (5, .int p5), (6, .int p6), (7, .int p7), (8, .int p8)] 10 rfl (congrArg (fun z => x.2.1 + z) (by decide : Int32.ofInt (1) = 1)) (Nat.le_of_ble_eq_true rfl) rfl dX12_odds_244 ?_
      refine x_goto (tgt := 194) C dX12_odds_247 (by decide) ?_
      refine x_sub [(0, .ref 358), (1, .int p1), (2, .int p2), (3, .int p3), (4, .int p4), (5, .int p5), (6, .int p6), (7, .int p7), (8, .int p8), (9, .long y80), (11, .int (x.2.1 + 1))] [2, 3, 4, 5, 6, 7, 8, 9, 10, 1, 0] rfl ?_
      exact hK194 _ _ _ h
theorem G12_odds_L194_ok {p : Program} {e : Env} {s : State} {m : MethodId} {args : Array Value} {below : List Frame} {meth : Method} {c : Code} {l : Launch} {φ : Nat → Nat} {tc : Nat → ClassId} {D : va_G} {s0 : State} {dR : Nat} (C : CX p s m args meth c φ tc D s0 cX12_odds RX12 12) (hd : G12_odds_dep ≤ dR) (hr : meth.sig.returnType = (some .int))  {p1 : Int32} {p2 : Int32} {p3 : Int32} {p4 : Int32} {p5 : Int32} {p6 : Int32} {p7 : Int32} {p8 : Int32} {Q : Int32 → MM → Prop} {K68 : Int32 × Int32 × MM → Prop} {K178 : Int32 × MM → Prop} {x : Int64 × Int32 × MM}   (hK68 : ∀ (z3 : Int32) (z4 : Int32) (zμ : MM), K68 (z3, z4, zμ) → WX p l e (rmX dR) s m args below meth c φ tc D 12 (MQ below (QX φ tc D (QI Q)) args s 0 0 (AX φ)) 68 [(0, .ref 358), (1, .int p1), (2, .int p2), (3, .int z3), (4, .int z4)] [] zμ) (hK178 : ∀ (z8 : Int32) (zμ : MM), K178 (z8, zμ) → WX p l e (rmX dR) s m args below meth c φ tc D 12 (MQ below (QX φ tc D (QI Q)) args s 0 0 (AX φ)) 178 [(0, .ref 358), (1, .int p1), (2, .int p2), (3, .int p3), (4, .int p4), (5, .int p5), (6, .int p6), (7, .int p7), (8, .int z8)] [] zμ) (h : Lp (G12_odds_L194 p1 p2 p3 p4 p5 p6 p7 p8 K68 K178 Q) x) : WX p l e (rmX dR) s m args below meth c φ tc D 12 (MQ below (QX φ tc D (QI Q)) args s 0 0 (AX φ)) 194 [(0, .ref 358), (1, .int p1), (2, .int p2), (3, .int p3), (4, .int p4), (5, .int p5), (6, .int p6), (7, .int p7), (8, .int p8), (9, .long x.1), (11, .int x.2.1)] [] x.2.2 := by
  obtain ⟨n, h⟩ := h
  induction n generalizing x with
  | zero => exact h.elim
  | succ n ih => exact G12_odds_L194_b C hd hr  hK68 hK178 (fun z9 z11 zμ hz => by have q := ih hz; exact q) h
set_option maxHeartbeats 4000000 in
set_option maxRecDepth 100000 in
theorem G12_odds_L178_b {p : Program} {e : Env} {s : State} {m : MethodId} {args : Array Value} {below : List Frame} {meth : Method} {c : Code} {l : Launch} {φ : Nat → Nat} {tc : Nat → ClassId} {D : va_G} {s0 : State} {dR : Nat} (C : CX p s m args meth c φ tc D s0 cX12_odds RX12 12) (hd : G12_odds_dep ≤ dR) (hr : meth.sig.returnType = (some .int))  {p1 : Int32} {p2 : Int32} {p3 : Int32} {p4 : Int32} {p5 : Int32} {p6 : Int32} {p7 : Int32} {Q : Int32 → MM → Prop} {K68 : Int32 × Int32 × MM → Prop} {K178 : Int32 × MM → Prop} {x : Int32 × MM}   (hK68 : ∀ (z3 : Int32) (z4 : Int32) (zμ : MM), K68 (z3, z4, zμ) → WX p l e (rmX dR) s m args below meth c φ tc D 12 (MQ below (QX φ tc D (QI Q)) args s 0 0 (AX φ)) 68 [(0, .ref 358), (1, .int p1), (2, .int p2), (3, .int z3), (4, .int z4)] [] zμ) (hK178 : ∀ (z8 : Int32) (zμ : MM), K178 (z8, zμ) → WX p l e (rmX dR) s m args below meth c φ tc D 12 (MQ below (QX φ tc D (QI Q)) args s 0 0 (AX φ)) 178 [(0, .ref 358), (1, .int p1), (2, .int p2), (3, .int p3), (4, .int p4), (5, .int p5), (6, .int p6), (7, .int p7), (8, .int z8)] [] zμ) (h : G12_odds_L178 p1 p2 p3 p4 p5 p6 p7 K68 Q K178 x) : WX p l e (rmX dR) s m args below meth c φ tc D 12 (MQ below (QX φ tc D (QI Q)) args s 0 0 (AX φ)) 178 [(0, .ref 358), (1, .int p1), (2, .int p2), (3, .int p3), (4, .int p4), (5, .int p5), (6, .int p6), (7, .int p7), (8, .int x.1)] [] x.2 := by
  unfold G12_odds_L178 at h
  refine x_iload C 8 rfl dX12_odds_178 ?_
  refine x_aload_n C rfl 0 rfl dX12_odds_180 ?_
  refine x_getR (r := 383) C (j := 38) ob358.1 ob358.2 (Nat.le_of_ble_eq_true rfl) (Nat.le_of_ble_eq_true rfl) (fun _ _ _ => rfl) r_358_38 tw_9_4 dX12_odds_181 ?_
  refine x_alen (v := 192) C ob383.1 (by decide) (by decide) (by decide) dX12_odds_184 ?_
  refine x_icmp_ge (tgt := 265) C dX12_odds_185 (by decide) (fun c64 => ?_) (fun c64 => ?_)
  · have h := h.1 c64
    refine x_iconst (v := 0) C (by decide) dX12_odds_265 ?_
    refine x_istore C [(8, .int 0), (0, .ref 358), (1, .int p1), (2, .int p2), (3, .int p3), (4, .int p4), (5, .int p5), (6, .int p6), (7, .int p7)] (Nat.le_of_ble_eq_true rfl) rfl dX12_odds_266 ?_
    refine x_sub [(0, .ref 358), (1, .int p1), (2, .int p2), (3, .int p3), (4, .int p4), (8, .int 0)] [1, 2, 3, 4, 5, 0] rfl ?_
    exact G12_odds_L268_ok C hd hr hK68 h
  · have h := h.2 c64
    refine x_lconst (v := 0) C (by decide) dX12_odds_188 ?_
    refine x_lstore C [(9, .long 0), (0, .ref 358), (1, .int p1), (2, .int p2), (3, .int p3), (4, .int p4), (5, .int p5), (6, .int p6), (7, .int p7), (8, .int x.1)] (Nat.le_of_ble_eq_true rfl) rfl dX12_odds_189 ?_
    refine x_iconst (v := 0) C (by decide) dX12_odds_191 ?_
    refine x_istore C [(11, .int 0), (9, .long 0), (0, .ref 358), (1, .int p1), (2, .int p2), (3, .int p3), (4, .int p4), (5, .int p5), (6, .int p6), (7, .int p7), (8, .int x.1)] (Nat.le_of_ble_eq_true rfl) rfl dX12_odds_192 ?_
    refine x_sub [(0, .ref 358), (1, .int p1), (2, .int p2), (3, .int p3), (4, .int p4), (5, .int p5), (6, .int p6), (7, .int p7), (8, .int x.1), (9, .long 0), (11, .int 0)] [2, 3, 4, 5, 6, 7, 8, 9, 10, 1, 0] rfl ?_
    exact G12_odds_L194_ok C hd hr hK68 hK178 h
theorem G12_odds_L178_ok {p : Program} {e : Env} {s : State} {m : MethodId} {args : Array Value} {below : List Frame} {meth : Method} {c : Code} {l : Launch} {φ : Nat → Nat} {tc : Nat → ClassId} {D : va_G} {s0 : State} {dR : Nat} (C : CX p s m args meth c φ tc D s0 cX12_odds RX12 12) (hd : G12_odds_dep ≤ dR) (hr : meth.sig.returnType = (some .int))  {p1 : Int32} {p2 : Int32} {p3 : Int32} {p4 : Int32} {p5 : Int32} {p6 : Int32} {p7 : Int32} {Q : Int32 → MM → Prop} {K68 : Int32 × Int32 × MM → Prop} {x : Int32 × MM}   (hK68 : ∀ (z3 : Int32) (z4 : Int32) (zμ : MM), K68 (z3, z4, zμ) → WX p l e (rmX dR) s m args below meth c φ tc D 12 (MQ below (QX φ tc D (QI Q)) args s 0 0 (AX φ)) 68 [(0, .ref 358), (1, .int p1), (2, .int p2), (3, .int z3), (4, .int z4)] [] zμ) (h : Lp (G12_odds_L178 p1 p2 p3 p4 p5 p6 p7 K68 Q) x) : WX p l e (rmX dR) s m args below meth c φ tc D 12 (MQ below (QX φ tc D (QI Q)) args s 0 0 (AX φ)) 178 [(0, .ref 358), (1, .int p1), (2, .int p2), (3, .int p3), (4, .int p4), (5, .int p5), (6, .int p6), (7, .int p7), (8, .int x.1)] [] x.2 := by
  obtain ⟨n, h⟩ := h
  induction n generalizing x with
  | zero => exact h.elim
  | succ n ih => exact G12_odds_L178_b C hd hr  hK68 (fun z8 zμ hz => by have q := ih hz; exact q) h
set_option maxHeartbeats 4000000 in
set_option maxRecDepth 100000 in
theorem G12_odds_L89_b {p : Program} {e : Env} {s : State} {m : MethodId} {args : Array Value} {below : List Frame} {meth : Method} {c : Code} {l : Launch} {φ : Nat → Nat} {tc : Nat → ClassId} {D : va_G} {s0 : State} {dR : Nat} (C : CX p s m args meth c φ tc D s0 cX12_odds RX12 12) (hd : G12_odds_dep ≤ dR) (hr : meth.sig.returnType = (some .int))  {p1 : Int32} {p2 : Int32} {p4 : Int32} {Q : Int32 → MM → Prop} {K68 : Int32 × Int32 × MM → Prop} {K89 : Int32 × Int32 × Int32 × Int32 × Int32 × MM → Prop} {x : Int32 × Int32 × Int32 × Int32 × Int32 × MM}   (hK68 : ∀ (z3 : Int32) (z4 : Int32) (zμ : MM), K68 (z3, z4, zμ) → WX p l e (rmX dR) s m args below meth c φ tc D 12 (MQ below (QX φ tc D (QI Q)) args s 0 0 (AX φ)) 68 [(0, .ref 358), (1, .int p1), (2, .int p2), (3, .int z3), (4, .int z4)] [] zμ) (hK89 : ∀ (z3 : Int32) (z5 : Int32) (z6 : Int32) (z7 : Int32) (z8 : Int32) (zμ : MM), K89 (z3, z5, z6, z7, z8, zμ) → WX p l e (rmX dR) s m args below meth c φ tc D 12 (MQ below (QX φ tc D (QI Q)) args s 0 0 (AX φ)) 89 [(0, .ref 358), (1, .int p1), (2, .int p2), (3, .int z3), (4, .int p4), (5, .int z5), (6, .int z6), (7, .int z7), (8, .int z8)] [] zμ) (h : G12_odds_L89 p1 p2 p4 K68 Q K89 x) : WX p l e (rmX dR) s m args below meth c φ tc D 12 (MQ below (QX φ tc D (QI Q)) args s 0 0 (AX φ)) 89 [(0, .ref 358), (1, .int p1), (2, .int p2), (3, .int x.1), (4, .int p4), (5, .int x.2.1), (6, .int x.2.2.1), (7, .int x.2.2.2.1), (8, .int x.2.2.2.2.1)] [] x.2.2.2.2.2 := by
  unfold G12_odds_L89 at h
  refine x_iload C 8 rfl dX12_odds_89 ?_
  refine x_aload_n C rfl 0 rfl dX12_odds_91 ?_
  refine x_getI C (j := 12) ob358.1 ob358.2 (Nat.le_of_ble_eq_true rfl) (Nat.le_of_ble_eq_true rfl) (Or.inl rfl) tw_8_218 dX12_odds_92 ?_
  refine x_icmp_ge (tgt := 175) C dX12_odds_95 (by decide) (fun c63 => ?_) (fun c63 => ?_)
  · have h := h.1 c63
    refine x_iconst (v := 0) C (by decide) dX12_odds_175 ?_
    refine x_istore C [(8, .int 0), (0, .ref 358), (1, .int p1), (2, .int p2), (3, .int x.1), (4, .int p4), (5, .int x.2.1), (6, .int x.2.2.1), (7, .int x.2.2.2.1)] (Nat.le_of_ble_eq_true rfl) rfl dX12_odds_176 ?_
    refine x_sub [(0, .ref 358), (1, .int p1), (2, .int p2), (3, .int x.1), (4, .int p4), (5, .int x.2.1), (6, .int x.2.2.1), (7, .int x.2.2.2.1), (8, .int 0)] [1, 2, 3, 4, 5, 6, 7, 8, 0] rfl ?_
    exact G12_odds_L178_ok C hd hr hK68 h
  · have h := h.2 c63
    refine x_aload_n C rfl 0 rfl dX12_odds_98 ?_
    refine x_getR (r := 367) C (j := 13) ob358.1 ob358.2 (Nat.le_of_ble_eq_true rfl) (Nat.le_of_ble_eq_true rfl) (fun _ _ _ => rfl) r_358_13 tw_8_219 dX12_odds_99 ?_
    refine x_iload C 8 rfl dX12_odds_102 ?_
    obtain ⟨c81, h⟩ := h
    refine x_iald C ob367.1 ob367.2 c81 rfl dX12_odds_104 ?_
    refine x_iload C 4 rfl dX12_odds_105 ?_
    refine x_icmp_ne (tgt := 169) C dX12_odds_107 (by decide) (fun c82 => ?_) (fun c82 => ?_)
    · have h := h.1 c82
      refine x_iinc (v := (x.2.2.2.2.1 + 1)) C [(8, .int (x.2.2.2.2.1 + 1)), (0, .ref 358), (1, .int p1), (2, .int p2), (3, .int x.1), (4, .int p4), (5, .int x.2.1), (6, .int x.2.2.1), (7, .int x.2.2.2.1)] 8 rfl (congrArg (fun z => x.2.2.2.2.1 + z) (by decide : Int32.ofInt (1) = 1)) (Nat.le_of_ble_eq_true rfl) rfl dX12_odds_169 ?_
      refine x_goto (tgt := 89) C dX12_odds_172 (by decide) ?_
      refine x_sub [(0, .ref 358), (1, .int p1), (2, .int p2), (3, .int x.1), (4, .int p4), (5, .int x.2.1), (6, .int x.2.2.1), (7, .int x.2.2.2.1), (8, .int (x.2.2.2.2.1 + 1))] [1, 2, 3, 4, 5, 6, 7, 8, 0] rfl ?_
      exact hK89 _ _ _ _ _ _ h
    · have h := h.2 c82
      refine x_aload_n C rfl 0 rfl dX12_odds_110 ?_
      refine x_iload_n C rfl 1 rfl dX12_odds_111 ?_
      refine x_iload C 8 rfl dX12_odds_112 ?_
      refine x_callV (dC := G12_passes_dep) (as := [.int p1, .int x.2.2.2.2.1]) (st := []) C rfl (Nat.le_trans (Nat.le_of_ble_eq_true rfl) hd) (Nat.le_of_ble_eq_true rfl) ob358.1 ob358.2 (Nat.le_of_ble_eq_true rfl) rfl ts_9_14 tw_7_146 tw_7_144 tc_7_147 tw_1_13 hyX12 hnX12_passes rfl (Nat.le_of_ble_eq_true rfl) dX12_odds_114 (G12_passes_met C.2.2.2.2.2.2.2.1 (Nat.le_refl _)  h) (fun r0 μ83 hq => ?_)
      obtain ⟨r84, rfl, h⟩ := hq
      refine x_st [.int r84] rfl ?_
      refine x_if_eq (tgt := 169) C dX12_odds_117 (by decide) (fun c85 => ?_) (fun c85 => ?_)
      · have h := h.1 c85
        refine x_iinc (v := (x.2.2.2.2.1 + 1)) C [(8, .int (x.2.2.2.2.1 + 1)), (0, .ref 358), (1, .int p1), (2, .int p2), (3, .int x.1), (4, .int p4), (5, .int x.2.1), (6, .int x.2.2.1), (7, .int x.2.2.2.1)] 8 rfl (congrArg (fun z => x.2.2.2.2.1 + z) (by decide : Int32.ofInt (1) = 1)) (Nat.le_of_ble_eq_true rfl) rfl dX12_odds_169 ?_
        refine x_goto (tgt := 89) C dX12_odds_172 (by decide) ?_
        refine x_sub [(0, .ref 358), (1, .int p1), (2, .int p2), (3, .int x.1), (4, .int p4), (5, .int x.2.1), (6, .int x.2.2.1), (7, .int x.2.2.2.1), (8, .int (x.2.2.2.2.1 + 1))] [1, 2, 3, 4, 5, 6, 7, 8, 0] rfl ?_
        exact hK89 _ _ _ _ _ _ h
      · have h := h.2 c85
        refine x_iinc (v := (x.2.1 + 1)) C [(5, .int (x.2.1 + 1)), (0, .ref 358), (1, .int p1), (2, .int p2), (3, .int x.1), (4, .int p4), (6, .int x.2.2.1), (7, .int x.2.2.2.1), (8, .int x.2.2.2.2.1)] 5 rfl (congrArg (fun z => x.2.1 + z) (by decide : Int32.ofInt (1) = 1)) (Nat.le_of_ble_eq_true rfl) rfl dX12_odds_120 ?_
        refine x_iload C 6 rfl dX12_odds_123 ?_
        refine x_aload_n C rfl 1 rfl dX12_odds_125 ?_
        refine x_iload C 8 rfl dX12_odds_126 ?_
        refine x_callV (dC := G12_peopleOf_dep) (as := [.int x.2.2.2.2.1]) (st := [.int x.2.2.1]) C rfl (Nat.le_trans (Nat.le_of_ble_eq_true rfl) hd) (Nat.le_of_ble_eq_true rfl) ob358.1 ob358.2 (Nat.le_of_ble_eq_true rfl) rfl ts_9_15 tw_7_150 tw_7_148 tc_7_151 tw_1_13 hyX12 hnX12_peopleOf rfl (Nat.le_of_ble_eq_true rfl) dX12_odds_128 (G12_peopleOf_met C.2.2.2.2.2.2.2.1 (Nat.le_refl _)  h) (fun r0 μ86 hq => ?_)
        obtain ⟨r87, rfl, h⟩ := hq
        refine x_st [.int r87, .int x.2.2.1] rfl ?_
        refine x_iadd C dX12_odds_131 ?_
        refine x_topi (fun y88 e_y88 => ?_)
        have h := h y88 e_y88
        refine x_istore C [(6, .int y88), (5, .int (x.2.1 + 1)), (0, .ref 358), (1, .int p1), (2, .int p2), (3, .int x.1), (4, .int p4), (7, .int x.2.2.2.1), (8, .int x.2.2.2.2.1)] (Nat.le_of_ble_eq_true rfl) rfl dX12_odds_132 ?_
        refine x_iload C 7 rfl dX12_odds_134 ?_
        refine x_aload_n C rfl 2 rfl dX12_odds_136 ?_
        refine x_getR (r := 374) C (j := 20) ob358.1 ob358.2 (Nat.le_of_ble_eq_true rfl) (Nat.le_of_ble_eq_true rfl) (fun _ _ _ => rfl) r_358_20 tw_8_226 dX12_odds_137 ?_
        refine x_iload C 8 rfl dX12_odds_140 ?_
        obtain ⟨c89, h⟩ := h
        refine x_zald C ob374.1 ob374.2 c89 rfl dX12_odds_142 ?_
        refine x_callS (dC := G12_flag_dep) (as := [.int (gI μ86 374 x.2.2.2.2.1.toNatClampNeg)]) (st := [.int x.2.2.2.1]) C rfl (Nat.le_trans (Nat.le_of_ble_eq_true rfl) hd) (Nat.le_of_ble_eq_true rfl) tw_6_212 tw_6_211 tc_6_213 tw_1_13 hyX12 hnX12_flag rfl (Nat.le_of_ble_eq_true rfl) dX12_odds_143 (G12_flag_met C.2.2.2.2.2.2.2.1 (Nat.le_refl _)  h) (fun r0 μ90 hq => ?_)
        obtain ⟨r91, rfl, h⟩ := hq
        refine x_st [.int r91, .int x.2.2.2.1] rfl ?_
        refine x_iadd C dX12_odds_146 ?_
        refine x_topi (fun y92 e_y92 => ?_)
        have h := h y92 e_y92
        refine x_istore C [(7, .int y92), (6, .int y88), (5, .int (x.2.1 + 1)), (0, .ref 358), (1, .int p1), (2, .int p2), (3, .int x.1), (4, .int p4), (8, .int x.2.2.2.2.1)] (Nat.le_of_ble_eq_true rfl) rfl dX12_odds_147 ?_
        refine x_iload_n C rfl 6 rfl dX12_odds_149 ?_
        refine x_aload_n C rfl 3 rfl dX12_odds_150 ?_
        refine x_iload C 8 rfl dX12_odds_151 ?_
        refine x_callV (dC := G12_peopleOf_dep) (as := [.int x.2.2.2.2.1]) (st := [.int x.1]) C rfl (Nat.le_trans (Nat.le_of_ble_eq_true rfl) hd) (Nat.le_of_ble_eq_true rfl) ob358.1 ob358.2 (Nat.le_of_ble_eq_true rfl) rfl ts_9_15 tw_7_150 tw_7_148 tc_7_151 tw_1_13 hyX12 hnX12_peopleOf rfl (Nat.le_of_ble_eq_true rfl) dX12_odds_153 (G12_peopleOf_met C.2.2.2.2.2.2.2.1 (Nat.le_refl _)  h) (fun r0 μ93 hq => ?_)
        obtain ⟨r94, rfl, h⟩ := hq
        refine x_st [.int r94, .int x.1] rfl ?_
        refine x_aload_n C rfl 3 rfl dX12_odds_156 ?_
        refine x_getR (r := 374) C (j := 20) ob358.1 ob358.2 (Nat.le_of_ble_eq_true rfl) (Nat.le_of_ble_eq_true rfl) (fun _ _ _ => rfl) r_358_20 tw_8_226 dX12_odds_157 ?_
        refine x_iload C 8 rfl dX12_odds_160 ?_
        obtain ⟨c95, h⟩ := h
        refine x_zald C ob374.1 ob374.2 c95 rfl dX12_odds_162 ?_
        refine x_callS (dC := G12_flag_dep) (as := [.int (gI μ93 374 x.2.2.2.2.1.toNatClampNeg)]) (st := [.int r94, .int x.1]) C rfl (Nat.le_trans (Nat.le_of_ble_eq_true rfl) hd) (Nat.le_of_ble_eq_true rfl) tw_6_212 tw_6_211 tc_6_213 tw_1_13 hyX12 hnX12_flag rfl (Nat.le_of_ble_eq_true rfl) dX12_odds_163 (G12_flag_met C.2.2.2.2.2.2.2.1 (Nat.le_refl _)  h) (fun r0 μ96 hq => ?_)
        obtain ⟨r97, rfl, h⟩ := hq
        refine x_st [.int r97, .int r94, .int x.1] rfl ?_
        refine x_imul C dX12_odds_166 ?_
        refine x_iadd C dX12_odds_167 ?_
        refine x_topi (fun y98 e_y98 => ?_)
        have h := h y98 e_y98
        refine x_istore_n C [(3, .int y98), (7, .int y92), (6, .int y88), (5, .int (x.2.1 + 1)), (0, .ref 358), (1, .int p1), (2, .int p2), (4, .int p4), (8, .int x.2.2.2.2.1)] rfl (Nat.le_of_ble_eq_true rfl) rfl dX12_odds_168 ?_
        refine x_iinc (v := (x.2.2.2.2.1 + 1)) C [(8, .int (x.2.2.2.2.1 + 1)), (3, .int y98), (7, .int y92), (6, .int y88), (5, .int (x.2.1 + 1)), (0, .ref 358), (1, .int p1), (2, .int p2), (4, .int p4)] 8 rfl (congrArg (fun z => x.2.2.2.2.1 + z) (by decide : Int32.ofInt (1) = 1)) (Nat.le_of_ble_eq_true rfl) rfl dX12_odds_169 ?_
        refine x_goto (tgt := 89) C dX12_odds_172 (by decide) ?_
        refine x_sub [(0, .ref 358), (1, .int p1), (2, .int p2), (3, .int y98), (4, .int p4), (5, .int (x.2.1 + 1)), (6, .int y88), (7, .int y92), (8, .int (x.2.2.2.2.1 + 1))] [5, 6, 7, 1, 8, 4, 3, 2, 0] rfl ?_
        exact hK89 _ _ _ _ _ _ h
theorem G12_odds_L89_ok {p : Program} {e : Env} {s : State} {m : MethodId} {args : Array Value} {below : List Frame} {meth : Method} {c : Code} {l : Launch} {φ : Nat → Nat} {tc : Nat → ClassId} {D : va_G} {s0 : State} {dR : Nat} (C : CX p s m args meth c φ tc D s0 cX12_odds RX12 12) (hd : G12_odds_dep ≤ dR) (hr : meth.sig.returnType = (some .int))  {p1 : Int32} {p2 : Int32} {p4 : Int32} {Q : Int32 → MM → Prop} {K68 : Int32 × Int32 × MM → Prop} {x : Int32 × Int32 × Int32 × Int32 × Int32 × MM}   (hK68 : ∀ (z3 : Int32) (z4 : Int32) (zμ : MM), K68 (z3, z4, zμ) → WX p l e (rmX dR) s m args below meth c φ tc D 12 (MQ below (QX φ tc D (QI Q)) args s 0 0 (AX φ)) 68 [(0, .ref 358), (1, .int p1), (2, .int p2), (3, .int z3), (4, .int z4)] [] zμ) (h : Lp (G12_odds_L89 p1 p2 p4 K68 Q) x) : WX p l e (rmX dR) s m args below meth c φ tc D 12 (MQ below (QX φ tc D (QI Q)) args s 0 0 (AX φ)) 89 [(0, .ref 358), (1, .int p1), (2, .int p2), (3, .int x.1), (4, .int p4), (5, .int x.2.1), (6, .int x.2.2.1), (7, .int x.2.2.2.1), (8, .int x.2.2.2.2.1)] [] x.2.2.2.2.2 := by
  obtain ⟨n, h⟩ := h
  induction n generalizing x with
  | zero => exact h.elim
  | succ n ih => exact G12_odds_L89_b C hd hr  hK68 (fun z3 z5 z6 z7 z8 zμ hz => by have q := ih hz; exact q) h
set_option maxHeartbeats 4000000 in
set_option maxRecDepth 100000 in
theorem G12_odds_L68_b {p : Program} {e : Env} {s : State} {m : MethodId} {args : Array Value} {below : List Frame} {meth : Method} {c : Code} {l : Launch} {φ : Nat → Nat} {tc : Nat → ClassId} {D : va_G} {s0 : State} {dR : Nat} (C : CX p s m args meth c φ tc D s0 cX12_odds RX12 12) (hd : G12_odds_dep ≤ dR) (hr : meth.sig.returnType = (some .int))  {p1 : Int32} {p2 : Int32} {Q : Int32 → MM → Prop} {K68 : Int32 × Int32 × MM → Prop} {x : Int32 × Int32 × MM}   (hK68 : ∀ (z3 : Int32) (z4 : Int32) (zμ : MM), K68 (z3, z4, zμ) → WX p l e (rmX dR) s m args below meth c φ tc D 12 (MQ below (QX φ tc D (QI Q)) args s 0 0 (AX φ)) 68 [(0, .ref 358), (1, .int p1), (2, .int p2), (3, .int z3), (4, .int z4)] [] zμ) (h : G12_odds_L68 p1 p2 Q K68 x) : WX p l e (rmX dR) s m args below meth c φ tc D 12 (MQ below (QX φ tc D (QI Q)) args s 0 0 (AX φ)) 68 [(0, .ref 358), (1, .int p1), (2, .int p2), (3, .int x.1), (4, .int x.2.1)] [] x.2.2 := by
  unfold G12_odds_L68 at h
  refine x_iload C 4 rfl dX12_odds_68 ?_
  refine x_aload_n C rfl 0 rfl dX12_odds_70 ?_
  refine x_getI C (j := 8) ob358.1 ob358.2 (Nat.le_of_ble_eq_true rfl) (Nat.le_of_ble_eq_true rfl) (Or.inl rfl) tw_8_214 dX12_odds_71 ?_
  refine x_icmp_ge (tgt := 304) C dX12_odds_74 (by decide) (fun c45 => ?_) (fun c45 => ?_)
  · have h := h.1 c45
    refine x_lconst (v := 0) C (by decide) dX12_odds_304 ?_
    refine x_lstore C [(4, .long 0), (0, .ref 358), (1, .int p1), (2, .int p2), (3, .int x.1)] (Nat.le_of_ble_eq_true rfl) rfl dX12_odds_305 ?_
    refine x_lconst (v := 0) C (by decide) dX12_odds_307 ?_
    refine x_lstore C [(6, .long 0), (4, .long 0), (0, .ref 358), (1, .int p1), (2, .int p2), (3, .int x.1)] (Nat.le_of_ble_eq_true rfl) rfl dX12_odds_308 ?_
    refine x_iconst (v := 0) C (by decide) dX12_odds_310 ?_
    refine x_istore C [(8, .int 0), (6, .long 0), (4, .long 0), (0, .ref 358), (1, .int p1), (2, .int p2), (3, .int x.1)] (Nat.le_of_ble_eq_true rfl) rfl dX12_odds_311 ?_
    refine x_sub [(0, .ref 358), (2, .int p2), (3, .int x.1), (4, .long 0), (6, .long 0), (8, .int 0)] [3, 5, 6, 2, 1, 0] rfl ?_
    exact G12_odds_L313_ok C hd hr  h
  · have h := h.2 c45
    refine x_iconst (v := 0) C (by decide) dX12_odds_77 ?_
    refine x_istore C [(5, .int 0), (0, .ref 358), (1, .int p1), (2, .int p2), (3, .int x.1), (4, .int x.2.1)] (Nat.le_of_ble_eq_true rfl) rfl dX12_odds_78 ?_
    refine x_iconst (v := 0) C (by decide) dX12_odds_80 ?_
    refine x_istore C [(6, .int 0), (5, .int 0), (0, .ref 358), (1, .int p1), (2, .int p2), (3, .int x.1), (4, .int x.2.1)] (Nat.le_of_ble_eq_true rfl) rfl dX12_odds_81 ?_
    refine x_iconst (v := 0) C (by decide) dX12_odds_83 ?_
    refine x_istore C [(7, .int 0), (6, .int 0), (5, .int 0), (0, .ref 358), (1, .int p1), (2, .int p2), (3, .int x.1), (4, .int x.2.1)] (Nat.le_of_ble_eq_true rfl) rfl dX12_odds_84 ?_
    refine x_iconst (v := 0) C (by decide) dX12_odds_86 ?_
    refine x_istore C [(8, .int 0), (7, .int 0), (6, .int 0), (5, .int 0), (0, .ref 358), (1, .int p1), (2, .int p2), (3, .int x.1), (4, .int x.2.1)] (Nat.le_of_ble_eq_true rfl) rfl dX12_odds_87 ?_
    refine x_sub [(0, .ref 358), (1, .int p1), (2, .int p2), (3, .int x.1), (4, .int x.2.1), (5, .int 0), (6, .int 0), (7, .int 0), (8, .int 0)] [4, 5, 6, 7, 8, 3, 2, 1, 0] rfl ?_
    exact G12_odds_L89_ok C hd hr hK68 h
theorem G12_odds_L68_ok {p : Program} {e : Env} {s : State} {m : MethodId} {args : Array Value} {below : List Frame} {meth : Method} {c : Code} {l : Launch} {φ : Nat → Nat} {tc : Nat → ClassId} {D : va_G} {s0 : State} {dR : Nat} (C : CX p s m args meth c φ tc D s0 cX12_odds RX12 12) (hd : G12_odds_dep ≤ dR) (hr : meth.sig.returnType = (some .int))  {p1 : Int32} {p2 : Int32} {Q : Int32 → MM → Prop}  {x : Int32 × Int32 × MM}    (h : Lp (G12_odds_L68 p1 p2 Q) x) : WX p l e (rmX dR) s m args below meth c φ tc D 12 (MQ below (QX φ tc D (QI Q)) args s 0 0 (AX φ)) 68 [(0, .ref 358), (1, .int p1), (2, .int p2), (3, .int x.1), (4, .int x.2.1)] [] x.2.2 := by
  obtain ⟨n, h⟩ := h
  induction n generalizing x with
  | zero => exact h.elim
  | succ n ih => exact G12_odds_L68_b C hd hr   (fun z3 z4 zμ hz => by have q := ih hz; exact q) h
set_option maxHeartbeats 4000000 in
set_option maxRecDepth 100000 in
theorem G12_odds_J52_ok {p : Program} {e : Env} {s : State} {m : MethodId} {args : Array Value} {below : List Frame} {meth : Method} {c : Code} {l : Launch} {φ : Nat → Nat} {tc : Nat → ClassId} {D : va_G} {s0 : State} {dR : Nat} (C : CX p s m args meth c φ tc D s0 cX12_odds RX12 12) (hd : G12_odds_dep ≤ dR) (hr : meth.sig.returnType = (some .int))  {p1 : Int32} {p2 : Int32} {p3 : Int32} {q0 : Int32} {q1 : Int32} {Q : Int32 → MM → Prop} {K29 : Int32 × MM → Prop} {μ : MM}   (hK29 : ∀ (z3 : Int32) (zμ : MM), K29 (z3, zμ) → WX p l e (rmX dR) s m args below meth c φ tc D 12 (MQ below (QX φ tc D (QI Q)) args s 0 0 (AX φ)) 29 [(0, .ref 358), (1, .int p1), (2, .int p2), (3, .int z3)] [] zμ) (h : G12_odds_J52 p1 p2 p3 q0 q1 μ K29 Q) : WX p l e (rmX dR) s m args below meth c φ tc D 12 (MQ below (QX φ tc D (QI Q)) args s 0 0 (AX φ)) 52 [(0, .ref 358), (1, .int p1), (2, .int p2), (3, .int p3)] [.int q0, .int q1, .ref 383] μ := by
  unfold G12_odds_J52 at h
  refine x_callS (dC := G12_flag_dep) (as := [.int q0]) (st := [.int q1, .ref 383]) C rfl (Nat.le_trans (Nat.le_of_ble_eq_true rfl) hd) (Nat.le_of_ble_eq_true rfl) tw_6_212 tw_6_211 tc_6_213 tw_1_13 hyX12 hnX12_flag rfl (Nat.le_of_ble_eq_true rfl) dX12_odds_52 (G12_flag_met C.2.2.2.2.2.2.2.1 (Nat.le_refl _)  h) (fun r0 μ100 hq => ?_)
  obtain ⟨r101, rfl, h⟩ := hq
  refine x_st [.int r101, .int q1, .ref 383] rfl ?_
  refine x_i2l C dX12_odds_55 ?_
  obtain ⟨c102, h⟩ := h
  refine x_last C ob383.1 ob383.2 c102 rfl dX12_odds_56 ?_
  refine x_mu (fun μ103 e_μ103 => ?_)
  have h := h μ103 e_μ103
  refine x_iinc (v := (p3 + 1)) C [(3, .int (p3 + 1)), (0, .ref 358), (1, .int p1), (2, .int p2)] 3 rfl (congrArg (fun z => p3 + z) (by decide : Int32.ofInt (1) = 1)) (Nat.le_of_ble_eq_true rfl) rfl dX12_odds_57 ?_
  refine x_goto (tgt := 29) C dX12_odds_60 (by decide) ?_
  refine x_sub [(0, .ref 358), (1, .int p1), (2, .int p2), (3, .int (p3 + 1))] [1, 2, 3, 0] rfl ?_
  exact hK29 _ _ h
set_option maxHeartbeats 4000000 in
set_option maxRecDepth 100000 in
theorem G12_odds_L29_b {p : Program} {e : Env} {s : State} {m : MethodId} {args : Array Value} {below : List Frame} {meth : Method} {c : Code} {l : Launch} {φ : Nat → Nat} {tc : Nat → ClassId} {D : va_G} {s0 : State} {dR : Nat} (C : CX p s m args meth c φ tc D s0 cX12_odds RX12 12) (hd : G12_odds_dep ≤ dR) (hr : meth.sig.returnType = (some .int))  {p1 : Int32} {p2 : Int32} {Q : Int32 → MM → Prop} {K29 : Int32 × MM → Prop} {x : Int32 × MM}   (hK29 : ∀ (z3 : Int32) (zμ : MM), K29 (z3, zμ) → WX p l e (rmX dR) s m args below meth c φ tc D 12 (MQ below (QX φ tc D (QI Q)) args s 0 0 (AX φ)) 29 [(0, .ref 358), (1, .int p1), (2, .int p2), (3, .int z3)] [] zμ) (h : G12_odds_L29 p1 p2 Q K29 x) : WX p l e (rmX dR) s m args below meth c φ tc D 12 (MQ below (QX φ tc D (QI Q)) args s 0 0 (AX φ)) 29 [(0, .ref 358), (1, .int p1), (2, .int p2), (3, .int x.1)] [] x.2 := by
  unfold G12_odds_L29 at h
  refine x_iload_n C rfl 3 rfl dX12_odds_29 ?_
  refine x_aload_n C rfl 0 rfl dX12_odds_30 ?_
  refine x_getR (r := 383) C (j := 38) ob358.1 ob358.2 (Nat.le_of_ble_eq_true rfl) (Nat.le_of_ble_eq_true rfl) (fun _ _ _ => rfl) r_358_38 tw_9_4 dX12_odds_31 ?_
  refine x_alen (v := 192) C ob383.1 (by decide) (by decide) (by decide) dX12_odds_34 ?_
  refine x_icmp_ge (tgt := 63) C dX12_odds_35 (by decide) (fun c44 => ?_) (fun c44 => ?_)
  · have h := h.1 c44
    refine x_iconst (v := 0) C (by decide) dX12_odds_63 ?_
    refine x_istore_n C [(3, .int 0), (0, .ref 358), (1, .int p1), (2, .int p2)] rfl (Nat.le_of_ble_eq_true rfl) rfl dX12_odds_64 ?_
    refine x_iconst (v := 0) C (by decide) dX12_odds_65 ?_
    refine x_istore C [(4, .int 0), (3, .int 0), (0, .ref 358), (1, .int p1), (2, .int p2)] (Nat.le_of_ble_eq_true rfl) rfl dX12_odds_66 ?_
    refine x_sub [(0, .ref 358), (1, .int p1), (2, .int p2), (3, .int 0), (4, .int 0)] [2, 3, 4, 1, 0] rfl ?_
    exact G12_odds_L68_ok C hd hr  h
  · have h := h.2 c44
    refine x_aload_n C rfl 0 rfl dX12_odds_38 ?_
    refine x_getR (r := 383) C (j := 38) ob358.1 ob358.2 (Nat.le_of_ble_eq_true rfl) (Nat.le_of_ble_eq_true rfl) (fun _ _ _ => rfl) r_358_38 tw_9_4 dX12_odds_39 ?_
    refine x_iload_n C rfl 3 rfl dX12_odds_42 ?_
    refine x_iload_n C rfl 3 rfl dX12_odds_43 ?_
    refine x_if_ne (tgt := 51) C dX12_odds_44 (by decide) (fun c99 => ?_) (fun c99 => ?_)
    · have h := h.1 c99
      refine x_iconst (v := 0) C (by decide) dX12_odds_51 ?_
      exact G12_odds_J52_ok C hd hr hK29 h
    · have h := h.2 c99
      refine x_iconst (v := 1) C (by decide) dX12_odds_47 ?_
      refine x_goto (tgt := 52) C dX12_odds_48 (by decide) ?_
      exact G12_odds_J52_ok C hd hr hK29 h
theorem G12_odds_L29_ok {p : Program} {e : Env} {s : State} {m : MethodId} {args : Array Value} {below : List Frame} {meth : Method} {c : Code} {l : Launch} {φ : Nat → Nat} {tc : Nat → ClassId} {D : va_G} {s0 : State} {dR : Nat} (C : CX p s m args meth c φ tc D s0 cX12_odds RX12 12) (hd : G12_odds_dep ≤ dR) (hr : meth.sig.returnType = (some .int))  {p1 : Int32} {p2 : Int32} {Q : Int32 → MM → Prop}  {x : Int32 × MM}    (h : Lp (G12_odds_L29 p1 p2 Q) x) : WX p l e (rmX dR) s m args below meth c φ tc D 12 (MQ below (QX φ tc D (QI Q)) args s 0 0 (AX φ)) 29 [(0, .ref 358), (1, .int p1), (2, .int p2), (3, .int x.1)] [] x.2 := by
  obtain ⟨n, h⟩ := h
  induction n generalizing x with
  | zero => exact h.elim
  | succ n ih => exact G12_odds_L29_b C hd hr   (fun z3 zμ hz => by have q := ih hz; exact q) h
set_option maxHeartbeats 4000000 in
set_option maxRecDepth 100000 in
theorem G12_odds_met {l : Launch} {φ : Nat → Nat} {tc : Nat → ClassId} {D : va_G} {s0 : State} (hG : GX φ tc D s0) {dR : Nat} (hd : G12_odds_dep ≤ dR) {v1 : Int32} {v2 : Int32} {μ : MM} {Q : Int32 → MM → Prop}  (h : G12_odds v1 v2 μ Q) : MX l φ tc D s0 dR yX12_odds cX12_odds 12 (some .int) [.ref 358, .int v1, .int v2] μ (QI Q) := by
  refine MX.of (own := RX12) hG plX12 rfl (Nat.le_of_ble_eq_true rfl) (fun p e s m args below meth c C hr => ?_)
  refine x_sub [(0, .ref 358), (1, .int v1), (2, .int v2)] [0, 1, 2] rfl ?_
  unfold G12_odds at h
  refine x_aload_n C rfl 0 rfl dX12_odds_0 ?_
  refine x_iconst (v := 0) C (by decide) dX12_odds_1 ?_
  refine x_putI C (j := 0) ob358.1 ob358.2 (Nat.le_of_ble_eq_true rfl) (Nat.le_of_ble_eq_true rfl) (Or.inl rfl) rfl rfl rfl tw_8_206 dX12_odds_2 ?_
  refine x_mu (fun μ37 e_μ37 => ?_)
  have h := h μ37 e_μ37
  refine x_aload_n C rfl 0 rfl dX12_odds_5 ?_
  refine x_iload_n C rfl 1 rfl dX12_odds_6 ?_
  refine x_callV (dC := G12_isFilter_dep) (as := [.int v1]) (st := []) C rfl (Nat.le_trans (Nat.le_of_ble_eq_true rfl) hd) (Nat.le_of_ble_eq_true rfl) ob358.1 ob358.2 (Nat.le_of_ble_eq_true rfl) rfl ts_9_12 tw_7_138 tw_7_136 tc_7_139 tw_1_13 hyX12 hnX12_isFilter rfl (Nat.le_of_ble_eq_true rfl) dX12_odds_7 (G12_isFilter_met C.2.2.2.2.2.2.2.1 (Nat.le_refl _)  h) (fun r0 μ38 hq => ?_)
  obtain ⟨r39, rfl, h⟩ := hq
  refine x_st [.int r39] rfl ?_
  refine x_if_eq (tgt := 25) C dX12_odds_10 (by decide) (fun c40 => ?_) (fun c40 => ?_)
  · have h := h.1 c40
    refine x_iconst (v := (-1)) C (by decide) dX12_odds_25 ?_
    exact x_iret C hr dX12_odds_26 ⟨_, rfl, h⟩
  · have h := h.2 c40
    refine x_iload_n C rfl 2 rfl dX12_odds_13 ?_
    refine x_i2l C dX12_odds_14 ?_
    refine x_lconst (v := 0) C (by decide) dX12_odds_15 ?_
    refine x_ldc2 (v := 2) C tw_7_127 dX12_odds_16 ?_
    refine x_callS (dC := G12_in_dep) (as := [.long (v2.toInt64), .long 0, .long 2]) (st := []) C rfl (Nat.le_trans (Nat.le_of_ble_eq_true rfl) hd) (Nat.le_of_ble_eq_true rfl) tw_6_183 tw_6_182 tc_6_184 tw_1_13 hyX12 hnX12_in rfl (Nat.le_of_ble_eq_true rfl) dX12_odds_19 (G12_in_met C.2.2.2.2.2.2.2.1 (Nat.le_refl _)  h) (fun r0 μ41 hq => ?_)
    obtain ⟨r42, rfl, h⟩ := hq
    refine x_st [.int r42] rfl ?_
    refine x_if_ne (tgt := 27) C dX12_odds_22 (by decide) (fun c43 => ?_) (fun c43 => ?_)
    · have h := h.1 c43
      refine x_iconst (v := 0) C (by decide) dX12_odds_27 ?_
      refine x_istore_n C [(3, .int 0), (0, .ref 358), (1, .int v1), (2, .int v2)] rfl (Nat.le_of_ble_eq_true rfl) rfl dX12_odds_28 ?_
      refine x_sub [(0, .ref 358), (1, .int v1), (2, .int v2), (3, .int 0)] [1, 2, 3, 0] rfl ?_
      exact G12_odds_L29_ok C hd hr  h
    · have h := h.2 c43
      refine x_iconst (v := (-1)) C (by decide) dX12_odds_25 ?_
      exact x_iret C hr dX12_odds_26 ⟨_, rfl, h⟩
set_option maxHeartbeats 4000000 in
set_option maxRecDepth 100000 in
theorem G12_readMany_L4_b {p : Program} {e : Env} {s : State} {m : MethodId} {args : Array Value} {below : List Frame} {meth : Method} {c : Code} {l : Launch} {φ : Nat → Nat} {tc : Nat → ClassId} {D : va_G} {s0 : State} {dR : Nat} (C : CX p s m args meth c φ tc D s0 cX12_readMany RX12 3) (hd : G12_readMany_dep ≤ dR) (hr : meth.sig.returnType = (some .int))   {Q : Int32 → MM → Prop} {K4 : Int32 × Int32 × MM → Prop} {x : Int32 × Int32 × MM}   (hK4 : ∀ (z1 : Int32) (z2 : Int32) (zμ : MM), K4 (z1, z2, zμ) → WX p l e (rmX dR) s m args below meth c φ tc D 3 (MQ below (QX φ tc D (QI Q)) args s 0 0 (AX φ)) 4 [(0, .ref 358), (1, .int z1), (2, .int z2)] [] zμ) (h : G12_readMany_L4  Q K4 x) : WX p l e (rmX dR) s m args below meth c φ tc D 3 (MQ below (QX φ tc D (QI Q)) args s 0 0 (AX φ)) 4 [(0, .ref 358), (1, .int x.1), (2, .int x.2.1)] [] x.2.2 := by
  unfold G12_readMany_L4 at h
  refine x_iload_n C rfl 2 rfl dX12_readMany_4 ?_
  refine x_aload_n C rfl 0 rfl dX12_readMany_5 ?_
  refine x_getI C (j := 12) ob358.1 ob358.2 (Nat.le_of_ble_eq_true rfl) (Nat.le_of_ble_eq_true rfl) (Or.inl rfl) tw_8_218 dX12_readMany_6 ?_
  refine x_icmp_ge (tgt := 30) C dX12_readMany_9 (by decide) (fun c4 => ?_) (fun c4 => ?_)
  · have h := h.1 c4
    refine x_iload_n C rfl 1 rfl dX12_readMany_30 ?_
    exact x_iret C hr dX12_readMany_31 ⟨_, rfl, h⟩
  · have h := h.2 c4
    refine x_iload_n C rfl 1 rfl dX12_readMany_12 ?_
    refine x_aload_n C rfl 0 rfl dX12_readMany_13 ?_
    refine x_getR (r := 373) C (j := 19) ob358.1 ob358.2 (Nat.le_of_ble_eq_true rfl) (Nat.le_of_ble_eq_true rfl) (fun _ _ _ => rfl) r_358_19 tw_8_225 dX12_readMany_14 ?_
    refine x_iload_n C rfl 2 rfl dX12_readMany_17 ?_
    obtain ⟨c5, h⟩ := h
    refine x_zald C ob373.1 ob373.2 c5 rfl dX12_readMany_18 ?_
    refine x_callS (dC := G12_flag_dep) (as := [.int (gI x.2.2 373 x.2.1.toNatClampNeg)]) (st := [.int x.1]) C rfl (Nat.le_trans (Nat.le_of_ble_eq_true rfl) hd) (Nat.le_of_ble_eq_true rfl) tw_6_212 tw_6_211 tc_6_213 tw_1_13 hyX12 hnX12_flag rfl (Nat.le_of_ble_eq_true rfl) dX12_readMany_19 (G12_flag_met C.2.2.2.2.2.2.2.1 (Nat.le_refl _)  h) (fun r0 μ6 hq => ?_)
    obtain ⟨r7, rfl, h⟩ := hq
    refine x_st [.int r7, .int x.1] rfl ?_
    refine x_iadd C dX12_readMany_22 ?_
    refine x_topi (fun y8 e_y8 => ?_)
    have h := h y8 e_y8
    refine x_istore_n C [(1, .int y8), (0, .ref 358), (2, .int x.2.1)] rfl (Nat.le_of_ble_eq_true rfl) rfl dX12_readMany_23 ?_
    refine x_iinc (v := (x.2.1 + 1)) C [(2, .int (x.2.1 + 1)), (1, .int y8), (0, .ref 358)] 2 rfl (congrArg (fun z => x.2.1 + z) (by decide : Int32.ofInt (1) = 1)) (Nat.le_of_ble_eq_true rfl) rfl dX12_readMany_24 ?_
    refine x_goto (tgt := 4) C dX12_readMany_27 (by decide) ?_
    refine x_sub [(0, .ref 358), (1, .int y8), (2, .int (x.2.1 + 1))] [2, 1, 0] rfl ?_
    exact hK4 _ _ _ h
theorem G12_readMany_L4_ok {p : Program} {e : Env} {s : State} {m : MethodId} {args : Array Value} {below : List Frame} {meth : Method} {c : Code} {l : Launch} {φ : Nat → Nat} {tc : Nat → ClassId} {D : va_G} {s0 : State} {dR : Nat} (C : CX p s m args meth c φ tc D s0 cX12_readMany RX12 3) (hd : G12_readMany_dep ≤ dR) (hr : meth.sig.returnType = (some .int))   {Q : Int32 → MM → Prop}  {x : Int32 × Int32 × MM}    (h : Lp (G12_readMany_L4  Q) x) : WX p l e (rmX dR) s m args below meth c φ tc D 3 (MQ below (QX φ tc D (QI Q)) args s 0 0 (AX φ)) 4 [(0, .ref 358), (1, .int x.1), (2, .int x.2.1)] [] x.2.2 := by
  obtain ⟨n, h⟩ := h
  induction n generalizing x with
  | zero => exact h.elim
  | succ n ih => exact G12_readMany_L4_b C hd hr   (fun z1 z2 zμ hz => by have q := ih hz; exact q) h
set_option maxHeartbeats 4000000 in
set_option maxRecDepth 100000 in
theorem G12_readMany_met {l : Launch} {φ : Nat → Nat} {tc : Nat → ClassId} {D : va_G} {s0 : State} (hG : GX φ tc D s0) {dR : Nat} (hd : G12_readMany_dep ≤ dR)  {μ : MM} {Q : Int32 → MM → Prop}  (h : G12_readMany  μ Q) : MX l φ tc D s0 dR yX12_readMany cX12_readMany 3 (some .int) [.ref 358] μ (QI Q) := by
  refine MX.of (own := RX12) hG plX12 rfl (Nat.le_of_ble_eq_true rfl) (fun p e s m args below meth c C hr => ?_)
  refine x_sub [(0, .ref 358)] [0] rfl ?_
  unfold G12_readMany at h
  refine x_iconst (v := 0) C (by decide) dX12_readMany_0 ?_
  refine x_istore_n C [(1, .int 0), (0, .ref 358)] rfl (Nat.le_of_ble_eq_true rfl) rfl dX12_readMany_1 ?_
  refine x_iconst (v := 0) C (by decide) dX12_readMany_2 ?_
  refine x_istore_n C [(2, .int 0), (1, .int 0), (0, .ref 358)] rfl (Nat.le_of_ble_eq_true rfl) rfl dX12_readMany_3 ?_
  refine x_sub [(0, .ref 358), (1, .int 0), (2, .int 0)] [2, 1, 0] rfl ?_
  exact G12_readMany_L4_ok C hd hr  h
set_option maxHeartbeats 4000000 in
set_option maxRecDepth 100000 in
theorem G12_weighs_J223_ok {p : Program} {e : Env} {s : State} {m : MethodId} {args : Array Value} {below : List Frame} {meth : Method} {c : Code} {l : Launch} {φ : Nat → Nat} {tc : Nat → ClassId} {D : va_G} {s0 : State} {dR : Nat} (C : CX p s m args meth c φ tc D s0 cX12_weighs RX12 22) (hd : G12_weighs_dep ≤ dR) (hr : meth.sig.returnType = (some .int))  {p1 : Int64} {p3 : Int64} {p14 : Int32} {p16 : Int64} {p18 : Int64} {p20 : Int64} {Q : Int32 → MM → Prop} {K85 : Int32 × Int64 × Int64 × Int64 × Int64 × Int32 × MM → Prop} {μ : MM}   (hK85 : ∀ (z5 : Int32) (z6 : Int64) (z8 : Int64) (z10 : Int64) (z12 : Int64) (z14 : Int32) (zμ : MM), K85 (z5, z6, z8, z10, z12, z14, zμ) → WX p l e (rmX dR) s m args below meth c φ tc D 22 (MQ below (QX φ tc D (QI Q)) args s 0 0 (AX φ)) 85 [(0, .ref 358), (1, .long p1), (3, .long p3), (5, .int z5), (6, .long z6), (8, .long z8), (10, .long z10), (12, .long z12), (14, .int z14)] [] zμ) (h : G12_weighs_J223 p1 p3 p14 p16 p18 p20 μ K85 Q) : WX p l e (rmX dR) s m args below meth c φ tc D 22 (MQ below (QX φ tc D (QI Q)) args s 0 0 (AX φ)) 223 [(0, .ref 358), (1, .long p1), (3, .long p3), (14, .int p14), (16, .long p16), (18, .long p18), (20, .long p20)] [] μ := by
  unfold G12_weighs_J223 at h
  refine x_iload C 3 rfl dX12_weighs_223 ?_
  refine x_istore C [(5, .int p14), (0, .ref 358), (1, .long p1), (3, .long p3), (14, .int p14), (16, .long p16), (18, .long p18), (20, .long p20)] (Nat.le_of_ble_eq_true rfl) rfl dX12_weighs_225 ?_
  refine x_lload C 7 rfl dX12_weighs_227 ?_
  refine x_lstore C [(6, .long p20), (5, .int p14), (0, .ref 358), (1, .long p1), (3, .long p3), (14, .int p14), (16, .long p16), (18, .long p18), (20, .long p20)] (Nat.le_of_ble_eq_true rfl) rfl dX12_weighs_229 ?_
  refine x_lload C 7 rfl dX12_weighs_231 ?_
  refine x_lstore C [(8, .long p18), (6, .long p20), (5, .int p14), (0, .ref 358), (1, .long p1), (3, .long p3), (14, .int p14), (16, .long p16), (18, .long p18), (20, .long p20)] (Nat.le_of_ble_eq_true rfl) rfl dX12_weighs_233 ?_
  refine x_lload C 7 rfl dX12_weighs_235 ?_
  refine x_lstore C [(10, .long p16), (8, .long p18), (6, .long p20), (5, .int p14), (0, .ref 358), (1, .long p1), (3, .long p3), (14, .int p14), (16, .long p16), (18, .long p18), (20, .long p20)] (Nat.le_of_ble_eq_true rfl) rfl dX12_weighs_237 ?_
  refine x_lload C 9 rfl dX12_weighs_239 ?_
  refine x_lstore C [(12, .long p18), (10, .long p16), (8, .long p18), (6, .long p20), (5, .int p14), (0, .ref 358), (1, .long p1), (3, .long p3), (14, .int p14), (16, .long p16), (18, .long p18), (20, .long p20)] (Nat.le_of_ble_eq_true rfl) rfl dX12_weighs_241 ?_
  refine x_iinc (v := (p14 + 1)) C [(14, .int (p14 + 1)), (12, .long p18), (10, .long p16), (8, .long p18), (6, .long p20), (5, .int p14), (0, .ref 358), (1, .long p1), (3, .long p3), (16, .long p16), (18, .long p18), (20, .long p20)] 8 rfl (congrArg (fun z => p14 + z) (by decide : Int32.ofInt (1) = 1)) (Nat.le_of_ble_eq_true rfl) rfl dX12_weighs_243 ?_
  refine x_goto (tgt := 85) C dX12_weighs_246 (by decide) ?_
  refine x_sub [(0, .ref 358), (1, .long p1), (3, .long p3), (5, .int p14), (6, .long p20), (8, .long p18), (10, .long p16), (12, .long p18), (14, .int (p14 + 1))] [6, 7, 8, 5, 4, 3, 2, 1, 0] rfl ?_
  exact hK85 _ _ _ _ _ _ _ h
set_option maxHeartbeats 4000000 in
set_option maxRecDepth 100000 in
theorem G12_weighs_J133_ok {p : Program} {e : Env} {s : State} {m : MethodId} {args : Array Value} {below : List Frame} {meth : Method} {c : Code} {l : Launch} {φ : Nat → Nat} {tc : Nat → ClassId} {D : va_G} {s0 : State} {dR : Nat} (C : CX p s m args meth c φ tc D s0 cX12_weighs RX12 22) (hd : G12_weighs_dep ≤ dR) (hr : meth.sig.returnType = (some .int))  {p1 : Int64} {p3 : Int64} {p5 : Int32} {p6 : Int64} {p8 : Int64} {p10 : Int64} {p12 : Int64} {p14 : Int32} {q0 : Int32} {Q : Int32 → MM → Prop} {K85 : Int32 × Int64 × Int64 × Int64 × Int64 × Int32 × MM → Prop} {μ : MM}   (hK85 : ∀ (z5 : Int32) (z6 : Int64) (z8 : Int64) (z10 : Int64) (z12 : Int64) (z14 : Int32) (zμ : MM), K85 (z5, z6, z8, z10, z12, z14, zμ) → WX p l e (rmX dR) s m args below meth c φ tc D 22 (MQ below (QX φ tc D (QI Q)) args s 0 0 (AX φ)) 85 [(0, .ref 358), (1, .long p1), (3, .long p3), (5, .int z5), (6, .long z6), (8, .long z8), (10, .long z10), (12, .long z12), (14, .int z14)] [] zμ) (h : G12_weighs_J133 p1 p3 p5 p6 p8 p10 p12 p14 q0 μ K85 Q) : WX p l e (rmX dR) s m args below meth c φ tc D 22 (MQ below (QX φ tc D (QI Q)) args s 0 0 (AX φ)) 133 [(0, .ref 358), (1, .long p1), (3, .long p3), (5, .int p5), (6, .long p6), (8, .long p8), (10, .long p10), (12, .long p12), (14, .int p14)] [.int q0] μ := by
  unfold G12_weighs_J133 at h
  refine x_istore C [(15, .int q0), (0, .ref 358), (1, .long p1), (3, .long p3), (5, .int p5), (6, .long p6), (8, .long p8), (10, .long p10), (12, .long p12), (14, .int p14)] (Nat.le_of_ble_eq_true rfl) rfl dX12_weighs_133 ?_
  refine x_iload C 0 rfl dX12_weighs_135 ?_
  refine x_if_ne (tgt := 143) C dX12_weighs_137 (by decide) (fun c41 => ?_) (fun c41 => ?_)
  · have h := h.1 c41
    refine x_aload_n C rfl 1 rfl dX12_weighs_143 ?_
    refine x_getR (r := 382) C (j := 37) ob358.1 ob358.2 (Nat.le_of_ble_eq_true rfl) (Nat.le_of_ble_eq_true rfl) (fun _ _ _ => rfl) r_358_37 tw_9_3 dX12_weighs_144 ?_
    refine x_iconst (v := 0) C (by decide) dX12_weighs_147 ?_
    refine x_iald C ob382.1 ob382.2 (by unfold vp_in; decide) (j := 0) (by decide) dX12_weighs_148 ?_
    refine x_aload_n C rfl 1 rfl dX12_weighs_149 ?_
    refine x_getR (r := 381) C (j := 36) ob358.1 ob358.2 (Nat.le_of_ble_eq_true rfl) (Nat.le_of_ble_eq_true rfl) (fun _ _ _ => rfl) r_358_36 tw_9_2 dX12_weighs_150 ?_
    refine x_iconst (v := 1) C (by decide) dX12_weighs_153 ?_
    refine x_iald C ob381.1 ob381.2 (by unfold vp_in; decide) (j := 1) (by decide) dX12_weighs_154 ?_
    refine x_imul C dX12_weighs_155 ?_
    refine x_aload_n C rfl 1 rfl dX12_weighs_156 ?_
    refine x_getR (r := 382) C (j := 37) ob358.1 ob358.2 (Nat.le_of_ble_eq_true rfl) (Nat.le_of_ble_eq_true rfl) (fun _ _ _ => rfl) r_358_37 tw_9_3 dX12_weighs_157 ?_
    refine x_iconst (v := 1) C (by decide) dX12_weighs_160 ?_
    refine x_iald C ob382.1 ob382.2 (by unfold vp_in; decide) (j := 1) (by decide) dX12_weighs_161 ?_
    refine x_aload_n C rfl 1 rfl dX12_weighs_162 ?_
    refine x_getR (r := 381) C (j := 36) ob358.1 ob358.2 (Nat.le_of_ble_eq_true rfl) (Nat.le_of_ble_eq_true rfl) (fun _ _ _ => rfl) r_358_36 tw_9_2 dX12_weighs_163 ?_
    refine x_iconst (v := 0) C (by decide) dX12_weighs_166 ?_
    refine x_iald C ob381.1 ob381.2 (by unfold vp_in; decide) (j := 0) (by decide) dX12_weighs_167 ?_
    refine x_imul C dX12_weighs_168 ?_
    refine x_isub C dX12_weighs_169 ?_
    refine x_i2l C dX12_weighs_170 ?_
    refine x_topl (fun y42 e_y42 => ?_)
    have h := h y42 e_y42
    refine x_lstore C [(16, .long y42), (15, .int q0), (0, .ref 358), (1, .long p1), (3, .long p3), (5, .int p5), (6, .long p6), (8, .long p8), (10, .long p10), (12, .long p12), (14, .int p14)] (Nat.le_of_ble_eq_true rfl) rfl dX12_weighs_171 ?_
    refine x_aload_n C rfl 2 rfl dX12_weighs_173 ?_
    refine x_getR (r := 381) C (j := 36) ob358.1 ob358.2 (Nat.le_of_ble_eq_true rfl) (Nat.le_of_ble_eq_true rfl) (fun _ _ _ => rfl) r_358_36 tw_9_2 dX12_weighs_174 ?_
    refine x_iconst (v := 0) C (by decide) dX12_weighs_177 ?_
    refine x_iald C ob381.1 ob381.2 (by unfold vp_in; decide) (j := 0) (by decide) dX12_weighs_178 ?_
    refine x_i2l C dX12_weighs_179 ?_
    refine x_aload_n C rfl 2 rfl dX12_weighs_180 ?_
    refine x_getR (r := 381) C (j := 36) ob358.1 ob358.2 (Nat.le_of_ble_eq_true rfl) (Nat.le_of_ble_eq_true rfl) (fun _ _ _ => rfl) r_358_36 tw_9_2 dX12_weighs_181 ?_
    refine x_iconst (v := 1) C (by decide) dX12_weighs_184 ?_
    refine x_iald C ob381.1 ob381.2 (by unfold vp_in; decide) (j := 1) (by decide) dX12_weighs_185 ?_
    refine x_i2l C dX12_weighs_186 ?_
    refine x_lmul C dX12_weighs_187 ?_
    refine x_topl (fun y43 e_y43 => ?_)
    have h := h y43 e_y43
    refine x_lstore C [(18, .long y43), (16, .long y42), (15, .int q0), (0, .ref 358), (1, .long p1), (3, .long p3), (5, .int p5), (6, .long p6), (8, .long p8), (10, .long p10), (12, .long p12), (14, .int p14)] (Nat.le_of_ble_eq_true rfl) rfl dX12_weighs_188 ?_
    refine x_lload C 1 rfl dX12_weighs_190 ?_
    refine x_lload_n C rfl 5 rfl dX12_weighs_192 ?_
    refine x_lmul C dX12_weighs_193 ?_
    refine x_lload_n C rfl 4 rfl dX12_weighs_194 ?_
    refine x_lload C 0 rfl dX12_weighs_195 ?_
    refine x_lmul C dX12_weighs_197 ?_
    refine x_lsub C dX12_weighs_198 ?_
    refine x_mlabs C rfl (Nat.le_trans (Nat.le_of_ble_eq_true rfl) hd) tw_7_186 tw_7_187 tw_1_20 (Nat.le_of_ble_eq_true rfl) dX12_weighs_199 ?_
    refine x_topl (fun y44 e_y44 => ?_)
    have h := h y44 e_y44
    refine x_lstore C [(20, .long y44), (18, .long y43), (16, .long y42), (15, .int q0), (0, .ref 358), (1, .long p1), (3, .long p3), (5, .int p5), (6, .long p6), (8, .long p8), (10, .long p10), (12, .long p12), (14, .int p14)] (Nat.le_of_ble_eq_true rfl) rfl dX12_weighs_202 ?_
    refine x_iload C 7 rfl dX12_weighs_204 ?_
    refine x_if_lt (tgt := 223) C dX12_weighs_206 (by decide) (fun c45 => ?_) (fun c45 => ?_)
    · have h := h.1 c45
      refine x_sub [(0, .ref 358), (1, .long p1), (3, .long p3), (14, .int p14), (16, .long y42), (18, .long y43), (20, .long y44)] [4, 5, 6, 12, 2, 1, 0] rfl ?_
      exact G12_weighs_J223_ok C hd hr hK85 h
    · have h := h.2 c45
      refine x_lload C 0 rfl dX12_weighs_209 ?_
      refine x_lload C 9 rfl dX12_weighs_211 ?_
      refine x_lmul C dX12_weighs_213 ?_
      refine x_lload C 8 rfl dX12_weighs_214 ?_
      refine x_lload C 1 rfl dX12_weighs_216 ?_
      refine x_lmul C dX12_weighs_218 ?_
      refine x_lcmp C dX12_weighs_219 ?_
      refine x_if_le (tgt := 243) C dX12_weighs_220 (by decide) (fun c46 => ?_) (fun c46 => ?_)
      · have h := h.1 c46
        refine x_iinc (v := (p14 + 1)) C [(14, .int (p14 + 1)), (20, .long y44), (18, .long y43), (16, .long y42), (15, .int q0), (0, .ref 358), (1, .long p1), (3, .long p3), (5, .int p5), (6, .long p6), (8, .long p8), (10, .long p10), (12, .long p12)] 12 rfl (congrArg (fun z => p14 + z) (by decide : Int32.ofInt (1) = 1)) (Nat.le_of_ble_eq_true rfl) rfl dX12_weighs_243 ?_
        refine x_goto (tgt := 85) C dX12_weighs_246 (by decide) ?_
        refine x_sub [(0, .ref 358), (1, .long p1), (3, .long p3), (5, .int p5), (6, .long p6), (8, .long p8), (10, .long p10), (12, .long p12), (14, .int (p14 + 1))] [5, 6, 7, 8, 9, 10, 11, 12, 0] rfl ?_
        exact hK85 _ _ _ _ _ _ _ h
      · have h := h.2 c46
        refine x_sub [(0, .ref 358), (1, .long p1), (3, .long p3), (14, .int p14), (16, .long y42), (18, .long y43), (20, .long y44)] [4, 5, 6, 12, 2, 1, 0] rfl ?_
        exact G12_weighs_J223_ok C hd hr hK85 h
  · have h := h.2 c41
    refine x_goto (tgt := 243) C dX12_weighs_140 (by decide) ?_
    refine x_iinc (v := (p14 + 1)) C [(14, .int (p14 + 1)), (15, .int q0), (0, .ref 358), (1, .long p1), (3, .long p3), (5, .int p5), (6, .long p6), (8, .long p8), (10, .long p10), (12, .long p12)] 9 rfl (congrArg (fun z => p14 + z) (by decide : Int32.ofInt (1) = 1)) (Nat.le_of_ble_eq_true rfl) rfl dX12_weighs_243 ?_
    refine x_goto (tgt := 85) C dX12_weighs_246 (by decide) ?_
    refine x_sub [(0, .ref 358), (1, .long p1), (3, .long p3), (5, .int p5), (6, .long p6), (8, .long p8), (10, .long p10), (12, .long p12), (14, .int (p14 + 1))] [2, 3, 4, 5, 6, 7, 8, 9, 0] rfl ?_
    exact hK85 _ _ _ _ _ _ _ h
set_option maxHeartbeats 4000000 in
set_option maxRecDepth 100000 in
theorem G12_weighs_J132_ok {p : Program} {e : Env} {s : State} {m : MethodId} {args : Array Value} {below : List Frame} {meth : Method} {c : Code} {l : Launch} {φ : Nat → Nat} {tc : Nat → ClassId} {D : va_G} {s0 : State} {dR : Nat} (C : CX p s m args meth c φ tc D s0 cX12_weighs RX12 22) (hd : G12_weighs_dep ≤ dR) (hr : meth.sig.returnType = (some .int))  {p1 : Int64} {p3 : Int64} {p5 : Int32} {p6 : Int64} {p8 : Int64} {p10 : Int64} {p12 : Int64} {p14 : Int32} {Q : Int32 → MM → Prop} {K85 : Int32 × Int64 × Int64 × Int64 × Int64 × Int32 × MM → Prop} {μ : MM}   (hK85 : ∀ (z5 : Int32) (z6 : Int64) (z8 : Int64) (z10 : Int64) (z12 : Int64) (z14 : Int32) (zμ : MM), K85 (z5, z6, z8, z10, z12, z14, zμ) → WX p l e (rmX dR) s m args below meth c φ tc D 22 (MQ below (QX φ tc D (QI Q)) args s 0 0 (AX φ)) 85 [(0, .ref 358), (1, .long p1), (3, .long p3), (5, .int z5), (6, .long z6), (8, .long z8), (10, .long z10), (12, .long z12), (14, .int z14)] [] zμ) (h : G12_weighs_J132 p1 p3 p5 p6 p8 p10 p12 p14 μ K85 Q) : WX p l e (rmX dR) s m args below meth c φ tc D 22 (MQ below (QX φ tc D (QI Q)) args s 0 0 (AX φ)) 132 [(0, .ref 358), (1, .long p1), (3, .long p3), (5, .int p5), (6, .long p6), (8, .long p8), (10, .long p10), (12, .long p12), (14, .int p14)] [] μ := by
  unfold G12_weighs_J132 at h
  refine x_iconst (v := 0) C (by decide) dX12_weighs_132 ?_
  exact G12_weighs_J133_ok C hd hr hK85 h
set_option maxHeartbeats 4000000 in
set_option maxRecDepth 100000 in
theorem G12_weighs_L85_b {p : Program} {e : Env} {s : State} {m : MethodId} {args : Array Value} {below : List Frame} {meth : Method} {c : Code} {l : Launch} {φ : Nat → Nat} {tc : Nat → ClassId} {D : va_G} {s0 : State} {dR : Nat} (C : CX p s m args meth c φ tc D s0 cX12_weighs RX12 22) (hd : G12_weighs_dep ≤ dR) (hr : meth.sig.returnType = (some .int))  {p1 : Int64} {p3 : Int64} {Q : Int32 → MM → Prop} {K85 : Int32 × Int64 × Int64 × Int64 × Int64 × Int32 × MM → Prop} {x : Int32 × Int64 × Int64 × Int64 × Int64 × Int32 × MM}   (hK85 : ∀ (z5 : Int32) (z6 : Int64) (z8 : Int64) (z10 : Int64) (z12 : Int64) (z14 : Int32) (zμ : MM), K85 (z5, z6, z8, z10, z12, z14, zμ) → WX p l e (rmX dR) s m args below meth c φ tc D 22 (MQ below (QX φ tc D (QI Q)) args s 0 0 (AX φ)) 85 [(0, .ref 358), (1, .long p1), (3, .long p3), (5, .int z5), (6, .long z6), (8, .long z8), (10, .long z10), (12, .long z12), (14, .int z14)] [] zμ) (h : G12_weighs_L85 p1 p3 Q K85 x) : WX p l e (rmX dR) s m args below meth c φ tc D 22 (MQ below (QX φ tc D (QI Q)) args s 0 0 (AX φ)) 85 [(0, .ref 358), (1, .long p1), (3, .long p3), (5, .int x.1), (6, .long x.2.1), (8, .long x.2.2.1), (10, .long x.2.2.2.1), (12, .long x.2.2.2.2.1), (14, .int x.2.2.2.2.2.1)] [] x.2.2.2.2.2.2 := by
  unfold G12_weighs_L85 at h
  refine x_iload C 8 rfl dX12_weighs_85 ?_
  refine x_aload_n C rfl 0 rfl dX12_weighs_87 ?_
  refine x_getI C (j := 8) ob358.1 ob358.2 (Nat.le_of_ble_eq_true rfl) (Nat.le_of_ble_eq_true rfl) (Or.inl rfl) tw_8_214 dX12_weighs_88 ?_
  refine x_icmp_ge (tgt := 249) C dX12_weighs_91 (by decide) (fun c33 => ?_) (fun c33 => ?_)
  · have h := h.1 c33
    refine x_iload C 3 rfl dX12_weighs_249 ?_
    refine x_if_lt (tgt := 267) C dX12_weighs_251 (by decide) (fun c34 => ?_) (fun c34 => ?_)
    · have h := h.1 c34
      refine x_iload C 3 rfl dX12_weighs_267 ?_
      exact x_iret C hr dX12_weighs_269 ⟨_, rfl, h⟩
    · have h := h.2 c34
      refine x_aload_n C rfl 0 rfl dX12_weighs_254 ?_
      refine x_iconst (v := 0) C (by decide) dX12_weighs_255 ?_
      refine x_putI C (j := 1) ob358.1 ob358.2 (Nat.le_of_ble_eq_true rfl) (Nat.le_of_ble_eq_true rfl) (Or.inl rfl) rfl rfl rfl tw_8_207 dX12_weighs_256 ?_
      refine x_mu (fun μ35 e_μ35 => ?_)
      have h := h μ35 e_μ35
      refine x_aload_n C rfl 0 rfl dX12_weighs_259 ?_
      refine x_lload C 6 rfl dX12_weighs_260 ?_
      refine x_lload C 7 rfl dX12_weighs_262 ?_
      refine x_callV (dC := G12_entersFraction_dep) (as := [.long x.2.2.2.1, .long x.2.2.2.2.1]) (st := []) C rfl (Nat.le_trans (Nat.le_of_ble_eq_true rfl) hd) (Nat.le_of_ble_eq_true rfl) ob358.1 ob358.2 (Nat.le_of_ble_eq_true rfl) rfl ts_10_0 tw_7_154 tw_7_152 tc_7_155 tw_1_13 hyX12 hnX12_entersFraction rfl (Nat.le_of_ble_eq_true rfl) dX12_weighs_264 (G12_entersFraction_met C.2.2.2.2.2.2.2.1 (Nat.le_refl _)  h) (fun r0 μ36 hq => ?_)
      obtain ⟨rfl, h⟩ := hq
      refine x_st [] rfl ?_
      refine x_iload C 3 rfl dX12_weighs_267 ?_
      exact x_iret C hr dX12_weighs_269 ⟨_, rfl, h⟩
  · have h := h.2 c33
    refine x_aload_n C rfl 0 rfl dX12_weighs_94 ?_
    refine x_iconst (v := (-1)) C (by decide) dX12_weighs_95 ?_
    refine x_iload C 8 rfl dX12_weighs_96 ?_
    refine x_callV (dC := G12_counts_dep) (as := [.int (-1), .int x.2.2.2.2.2.1]) (st := []) C rfl (Nat.le_trans (Nat.le_of_ble_eq_true rfl) hd) (Nat.le_of_ble_eq_true rfl) ob358.1 ob358.2 (Nat.le_of_ble_eq_true rfl) rfl ts_9_13 tw_7_142 tw_7_140 tc_7_143 tw_1_13 hyX12 hnX12_counts rfl (Nat.le_of_ble_eq_true rfl) dX12_weighs_98 (G12_counts_met C.2.2.2.2.2.2.2.1 (Nat.le_refl _)  h) (fun r0 μ37 hq => ?_)
    obtain ⟨rfl, h⟩ := hq
    refine x_st [] rfl ?_
    refine x_aload_n C rfl 0 rfl dX12_weighs_101 ?_
    refine x_callV (dC := G12_areBoth_dep) (as := []) (st := []) C rfl (Nat.le_trans (Nat.le_of_ble_eq_true rfl) hd) (Nat.le_of_ble_eq_true rfl) ob358.1 ob358.2 (Nat.le_of_ble_eq_true rfl) rfl ts_10_2 tw_7_169 tw_7_167 tc_7_170 tw_1_13 hyX12 hnX12_areBoth rfl (Nat.le_of_ble_eq_true rfl) dX12_weighs_102 (G12_areBoth_met C.2.2.2.2.2.2.2.1 (Nat.le_refl _)  h) (fun r0 μ38 hq => ?_)
    obtain ⟨r39, rfl, h⟩ := hq
    refine x_st [.int r39] rfl ?_
    refine x_if_eq (tgt := 132) C dX12_weighs_105 (by decide) (fun c40 => ?_) (fun c40 => ?_)
    · have h := h.1 c40
      exact G12_weighs_J132_ok C hd hr hK85 h
    · have h := h.2 c40
      refine x_aload_n C rfl 0 rfl dX12_weighs_108 ?_
      refine x_getR (r := 381) C (j := 36) ob358.1 ob358.2 (Nat.le_of_ble_eq_true rfl) (Nat.le_of_ble_eq_true rfl) (fun _ _ _ => rfl) r_358_36 tw_9_2 dX12_weighs_109 ?_
      refine x_iconst (v := 0) C (by decide) dX12_weighs_112 ?_
      refine x_iald C ob381.1 ob381.2 (by unfold vp_in; decide) (j := 0) (by decide) dX12_weighs_113 ?_
      refine x_aload_n C rfl 0 rfl dX12_weighs_114 ?_
      refine x_getR (r := 381) C (j := 36) ob358.1 ob358.2 (Nat.le_of_ble_eq_true rfl) (Nat.le_of_ble_eq_true rfl) (fun _ _ _ => rfl) r_358_36 tw_9_2 dX12_weighs_115 ?_
      refine x_iconst (v := 1) C (by decide) dX12_weighs_118 ?_
      refine x_iald C ob381.1 ob381.2 (by unfold vp_in; decide) (j := 1) (by decide) dX12_weighs_119 ?_
      refine x_iadd C dX12_weighs_120 ?_
      refine x_aload_n C rfl 0 rfl dX12_weighs_121 ?_
      refine x_callV (dC := G12_readMany_dep) (as := []) (st := [.int ((gI μ38 381 0) + (gI μ38 381 1))]) C rfl (Nat.le_trans (Nat.le_of_ble_eq_true rfl) hd) (Nat.le_of_ble_eq_true rfl) ob358.1 ob358.2 (Nat.le_of_ble_eq_true rfl) rfl ts_10_3 tw_7_184 tw_7_182 tc_7_185 tw_1_13 hyX12 hnX12_readMany rfl (Nat.le_of_ble_eq_true rfl) dX12_weighs_122 (G12_readMany_met C.2.2.2.2.2.2.2.1 (Nat.le_refl _)  h) (fun r0 μ47 hq => ?_)
      obtain ⟨r48, rfl, h⟩ := hq
      refine x_st [.int r48, .int ((gI μ38 381 0) + (gI μ38 381 1))] rfl ?_
      refine x_icmp_ge (tgt := 132) C dX12_weighs_125 (by decide) (fun c49 => ?_) (fun c49 => ?_)
      · have h := h.1 c49
        exact G12_weighs_J132_ok C hd hr hK85 h
      · have h := h.2 c49
        refine x_iconst (v := 1) C (by decide) dX12_weighs_128 ?_
        refine x_goto (tgt := 133) C dX12_weighs_129 (by decide) ?_
        exact G12_weighs_J133_ok C hd hr hK85 h
theorem G12_weighs_L85_ok {p : Program} {e : Env} {s : State} {m : MethodId} {args : Array Value} {below : List Frame} {meth : Method} {c : Code} {l : Launch} {φ : Nat → Nat} {tc : Nat → ClassId} {D : va_G} {s0 : State} {dR : Nat} (C : CX p s m args meth c φ tc D s0 cX12_weighs RX12 22) (hd : G12_weighs_dep ≤ dR) (hr : meth.sig.returnType = (some .int))  {p1 : Int64} {p3 : Int64} {Q : Int32 → MM → Prop}  {x : Int32 × Int64 × Int64 × Int64 × Int64 × Int32 × MM}    (h : Lp (G12_weighs_L85 p1 p3 Q) x) : WX p l e (rmX dR) s m args below meth c φ tc D 22 (MQ below (QX φ tc D (QI Q)) args s 0 0 (AX φ)) 85 [(0, .ref 358), (1, .long p1), (3, .long p3), (5, .int x.1), (6, .long x.2.1), (8, .long x.2.2.1), (10, .long x.2.2.2.1), (12, .long x.2.2.2.2.1), (14, .int x.2.2.2.2.2.1)] [] x.2.2.2.2.2.2 := by
  obtain ⟨n, h⟩ := h
  induction n generalizing x with
  | zero => exact h.elim
  | succ n ih => exact G12_weighs_L85_b C hd hr   (fun z5 z6 z8 z10 z12 z14 zμ hz => by have q := ih hz; exact q) h
set_option maxHeartbeats 4000000 in
set_option maxRecDepth 100000 in
theorem G12_weighs_met {l : Launch} {φ : Nat → Nat} {tc : Nat → ClassId} {D : va_G} {s0 : State} (hG : GX φ tc D s0) {dR : Nat} (hd : G12_weighs_dep ≤ dR)  {μ : MM} {Q : Int32 → MM → Prop}  (h : G12_weighs  μ Q) : MX l φ tc D s0 dR yX12_weighs cX12_weighs 22 (some .int) [.ref 358] μ (QI Q) := by
  refine MX.of (own := RX12) hG plX12 rfl (Nat.le_of_ble_eq_true rfl) (fun p e s m args below meth c C hr => ?_)
  refine x_sub [(0, .ref 358)] [0] rfl ?_
  unfold G12_weighs at h
  refine x_aload_n C rfl 0 rfl dX12_weighs_0 ?_
  refine x_iconst (v := 0) C (by decide) dX12_weighs_1 ?_
  refine x_putI C (j := 0) ob358.1 ob358.2 (Nat.le_of_ble_eq_true rfl) (Nat.le_of_ble_eq_true rfl) (Or.inl rfl) rfl rfl rfl tw_8_206 dX12_weighs_2 ?_
  refine x_mu (fun μ26 e_μ26 => ?_)
  have h := h μ26 e_μ26
  refine x_aload_n C rfl 0 rfl dX12_weighs_5 ?_
  refine x_iconst (v := (-1)) C (by decide) dX12_weighs_6 ?_
  refine x_iconst (v := (-1)) C (by decide) dX12_weighs_7 ?_
  refine x_callV (dC := G12_counts_dep) (as := [.int (-1), .int (-1)]) (st := []) C rfl (Nat.le_trans (Nat.le_of_ble_eq_true rfl) hd) (Nat.le_of_ble_eq_true rfl) ob358.1 ob358.2 (Nat.le_of_ble_eq_true rfl) rfl ts_9_13 tw_7_142 tw_7_140 tc_7_143 tw_1_13 hyX12 hnX12_counts rfl (Nat.le_of_ble_eq_true rfl) dX12_weighs_8 (G12_counts_met C.2.2.2.2.2.2.2.1 (Nat.le_refl _)  h) (fun r0 μ27 hq => ?_)
  obtain ⟨rfl, h⟩ := hq
  refine x_st [] rfl ?_
  refine x_aload_n C rfl 0 rfl dX12_weighs_11 ?_
  refine x_callV (dC := G12_areBoth_dep) (as := []) (st := []) C rfl (Nat.le_trans (Nat.le_of_ble_eq_true rfl) hd) (Nat.le_of_ble_eq_true rfl) ob358.1 ob358.2 (Nat.le_of_ble_eq_true rfl) rfl ts_10_2 tw_7_169 tw_7_167 tc_7_170 tw_1_13 hyX12 hnX12_areBoth rfl (Nat.le_of_ble_eq_true rfl) dX12_weighs_12 (G12_areBoth_met C.2.2.2.2.2.2.2.1 (Nat.le_refl _)  h) (fun r0 μ28 hq => ?_)
  obtain ⟨r29, rfl, h⟩ := hq
  refine x_st [.int r29] rfl ?_
  refine x_if_ne (tgt := 21) C dX12_weighs_15 (by decide) (fun c30 => ?_) (fun c30 => ?_)
  · have h := h.1 c30
    refine x_aload_n C rfl 0 rfl dX12_weighs_21 ?_
    refine x_getR (r := 382) C (j := 37) ob358.1 ob358.2 (Nat.le_of_ble_eq_true rfl) (Nat.le_of_ble_eq_true rfl) (fun _ _ _ => rfl) r_358_37 tw_9_3 dX12_weighs_22 ?_
    refine x_iconst (v := 0) C (by decide) dX12_weighs_25 ?_
    refine x_iald C ob382.1 ob382.2 (by unfold vp_in; decide) (j := 0) (by decide) dX12_weighs_26 ?_
    refine x_aload_n C rfl 0 rfl dX12_weighs_27 ?_
    refine x_getR (r := 381) C (j := 36) ob358.1 ob358.2 (Nat.le_of_ble_eq_true rfl) (Nat.le_of_ble_eq_true rfl) (fun _ _ _ => rfl) r_358_36 tw_9_2 dX12_weighs_28 ?_
    refine x_iconst (v := 1) C (by decide) dX12_weighs_31 ?_
    refine x_iald C ob381.1 ob381.2 (by unfold vp_in; decide) (j := 1) (by decide) dX12_weighs_32 ?_
    refine x_imul C dX12_weighs_33 ?_
    refine x_aload_n C rfl 0 rfl dX12_weighs_34 ?_
    refine x_getR (r := 382) C (j := 37) ob358.1 ob358.2 (Nat.le_of_ble_eq_true rfl) (Nat.le_of_ble_eq_true rfl) (fun _ _ _ => rfl) r_358_37 tw_9_3 dX12_weighs_35 ?_
    refine x_iconst (v := 1) C (by decide) dX12_weighs_38 ?_
    refine x_iald C ob382.1 ob382.2 (by unfold vp_in; decide) (j := 1) (by decide) dX12_weighs_39 ?_
    refine x_aload_n C rfl 0 rfl dX12_weighs_40 ?_
    refine x_getR (r := 381) C (j := 36) ob358.1 ob358.2 (Nat.le_of_ble_eq_true rfl) (Nat.le_of_ble_eq_true rfl) (fun _ _ _ => rfl) r_358_36 tw_9_2 dX12_weighs_41 ?_
    refine x_iconst (v := 0) C (by decide) dX12_weighs_44 ?_
    refine x_iald C ob381.1 ob381.2 (by unfold vp_in; decide) (j := 0) (by decide) dX12_weighs_45 ?_
    refine x_imul C dX12_weighs_46 ?_
    refine x_isub C dX12_weighs_47 ?_
    refine x_i2l C dX12_weighs_48 ?_
    refine x_topl (fun y31 e_y31 => ?_)
    have h := h y31 e_y31
    refine x_lstore_n C [(1, .long y31), (0, .ref 358)] rfl (Nat.le_of_ble_eq_true rfl) rfl dX12_weighs_49 ?_
    refine x_aload_n C rfl 1 rfl dX12_weighs_50 ?_
    refine x_getR (r := 381) C (j := 36) ob358.1 ob358.2 (Nat.le_of_ble_eq_true rfl) (Nat.le_of_ble_eq_true rfl) (fun _ _ _ => rfl) r_358_36 tw_9_2 dX12_weighs_51 ?_
    refine x_iconst (v := 0) C (by decide) dX12_weighs_54 ?_
    refine x_iald C ob381.1 ob381.2 (by unfold vp_in; decide) (j := 0) (by decide) dX12_weighs_55 ?_
    refine x_i2l C dX12_weighs_56 ?_
    refine x_aload_n C rfl 1 rfl dX12_weighs_57 ?_
    refine x_getR (r := 381) C (j := 36) ob358.1 ob358.2 (Nat.le_of_ble_eq_true rfl) (Nat.le_of_ble_eq_true rfl) (fun _ _ _ => rfl) r_358_36 tw_9_2 dX12_weighs_58 ?_
    refine x_iconst (v := 1) C (by decide) dX12_weighs_61 ?_
    refine x_iald C ob381.1 ob381.2 (by unfold vp_in; decide) (j := 1) (by decide) dX12_weighs_62 ?_
    refine x_i2l C dX12_weighs_63 ?_
    refine x_lmul C dX12_weighs_64 ?_
    refine x_topl (fun y32 e_y32 => ?_)
    have h := h y32 e_y32
    refine x_lstore_n C [(3, .long y32), (1, .long y31), (0, .ref 358)] rfl (Nat.le_of_ble_eq_true rfl) rfl dX12_weighs_65 ?_
    refine x_bipush (v := (-2)) C (by decide) dX12_weighs_66 ?_
    refine x_istore C [(5, .int (-2)), (3, .long y32), (1, .long y31), (0, .ref 358)] (Nat.le_of_ble_eq_true rfl) rfl dX12_weighs_68 ?_
    refine x_lconst (v := 0) C (by decide) dX12_weighs_70 ?_
    refine x_lstore C [(6, .long 0), (5, .int (-2)), (3, .long y32), (1, .long y31), (0, .ref 358)] (Nat.le_of_ble_eq_true rfl) rfl dX12_weighs_71 ?_
    refine x_lconst (v := 1) C (by decide) dX12_weighs_73 ?_
    refine x_lstore C [(8, .long 1), (6, .long 0), (5, .int (-2)), (3, .long y32), (1, .long y31), (0, .ref 358)] (Nat.le_of_ble_eq_true rfl) rfl dX12_weighs_74 ?_
    refine x_lconst (v := 0) C (by decide) dX12_weighs_76 ?_
    refine x_lstore C [(10, .long 0), (8, .long 1), (6, .long 0), (5, .int (-2)), (3, .long y32), (1, .long y31), (0, .ref 358)] (Nat.le_of_ble_eq_true rfl) rfl dX12_weighs_77 ?_
    refine x_lconst (v := 1) C (by decide) dX12_weighs_79 ?_
    refine x_lstore C [(12, .long 1), (10, .long 0), (8, .long 1), (6, .long 0), (5, .int (-2)), (3, .long y32), (1, .long y31), (0, .ref 358)] (Nat.le_of_ble_eq_true rfl) rfl dX12_weighs_80 ?_
    refine x_iconst (v := 0) C (by decide) dX12_weighs_82 ?_
    refine x_istore C [(14, .int 0), (12, .long 1), (10, .long 0), (8, .long 1), (6, .long 0), (5, .int (-2)), (3, .long y32), (1, .long y31), (0, .ref 358)] (Nat.le_of_ble_eq_true rfl) rfl dX12_weighs_83 ?_
    refine x_sub [(0, .ref 358), (1, .long y31), (3, .long y32), (5, .int (-2)), (6, .long 0), (8, .long 1), (10, .long 0), (12, .long 1), (14, .int 0)] [8, 7, 6, 5, 4, 3, 2, 1, 0] rfl ?_
    exact G12_weighs_L85_ok C hd hr  h
  · have h := h.2 c30
    refine x_bipush (v := (-2)) C (by decide) dX12_weighs_18 ?_
    exact x_iret C hr dX12_weighs_20 ⟨_, rfl, h⟩
set_option maxHeartbeats 4000000 in
set_option maxRecDepth 100000 in
theorem G12_countsNames_J96_ok {p : Program} {e : Env} {s : State} {m : MethodId} {args : Array Value} {below : List Frame} {meth : Method} {c : Code} {l : Launch} {φ : Nat → Nat} {tc : Nat → ClassId} {D : va_G} {s0 : State} {dR : Nat} (C : CX p s m args meth c φ tc D s0 cX12_countsNames RX12 2) (hd : G12_countsNames_dep ≤ dR) (hr : meth.sig.returnType = none)  {p1 : Int32} {q0 : Int32} {q1 : Int32} {q2 : Int32} {Q : MM → Prop} {K30 : Int32 × MM → Prop} {μ : MM}   (hK30 : ∀ (z1 : Int32) (zμ : MM), K30 (z1, zμ) → WX p l e (rmX dR) s m args below meth c φ tc D 2 (MQ below (QX φ tc D (QV Q)) args s 0 0 (AX φ)) 30 [(0, .ref 358), (1, .int z1)] [] zμ) (h : G12_countsNames_J96 p1 q0 q1 q2 μ K30 Q) : WX p l e (rmX dR) s m args below meth c φ tc D 2 (MQ below (QX φ tc D (QV Q)) args s 0 0 (AX φ)) 96 [(0, .ref 358), (1, .int p1)] [.int q0, .int q1, .int q2, .ref 386] μ := by
  unfold G12_countsNames_J96 at h
  refine x_callS (dC := G12_flag_dep) (as := [.int q0]) (st := [.int q1, .int q2, .ref 386]) C rfl (Nat.le_trans (Nat.le_of_ble_eq_true rfl) hd) (Nat.le_of_ble_eq_true rfl) tw_6_212 tw_6_211 tc_6_213 tw_1_13 hyX12 hnX12_flag rfl (Nat.le_of_ble_eq_true rfl) dX12_countsNames_96 (G12_flag_met C.2.2.2.2.2.2.2.1 (Nat.le_refl _)  h) (fun r0 μ33 hq => ?_)
  obtain ⟨r34, rfl, h⟩ := hq
  refine x_st [.int r34, .int q1, .int q2, .ref 386] rfl ?_
  refine x_iadd C dX12_countsNames_99 ?_
  obtain ⟨c35, h⟩ := h
  refine x_iast C ob386.1 ob386.2 c35 rfl dX12_countsNames_100 ?_
  refine x_mu (fun μ36 e_μ36 => ?_)
  have h := h μ36 e_μ36
  refine x_iinc (v := (p1 + 1)) C [(1, .int (p1 + 1)), (0, .ref 358)] 1 rfl (congrArg (fun z => p1 + z) (by decide : Int32.ofInt (1) = 1)) (Nat.le_of_ble_eq_true rfl) rfl dX12_countsNames_101 ?_
  refine x_goto (tgt := 30) C dX12_countsNames_104 (by decide) ?_
  refine x_sub [(0, .ref 358), (1, .int (p1 + 1))] [1, 0] rfl ?_
  exact hK30 _ _ h
set_option maxHeartbeats 4000000 in
set_option maxRecDepth 100000 in
theorem G12_countsNames_J95_ok {p : Program} {e : Env} {s : State} {m : MethodId} {args : Array Value} {below : List Frame} {meth : Method} {c : Code} {l : Launch} {φ : Nat → Nat} {tc : Nat → ClassId} {D : va_G} {s0 : State} {dR : Nat} (C : CX p s m args meth c φ tc D s0 cX12_countsNames RX12 2) (hd : G12_countsNames_dep ≤ dR) (hr : meth.sig.returnType = none)  {p1 : Int32} {q0 : Int32} {q1 : Int32} {Q : MM → Prop} {K30 : Int32 × MM → Prop} {μ : MM}   (hK30 : ∀ (z1 : Int32) (zμ : MM), K30 (z1, zμ) → WX p l e (rmX dR) s m args below meth c φ tc D 2 (MQ below (QX φ tc D (QV Q)) args s 0 0 (AX φ)) 30 [(0, .ref 358), (1, .int z1)] [] zμ) (h : G12_countsNames_J95 p1 q0 q1 μ K30 Q) : WX p l e (rmX dR) s m args below meth c φ tc D 2 (MQ below (QX φ tc D (QV Q)) args s 0 0 (AX φ)) 95 [(0, .ref 358), (1, .int p1)] [.int q0, .int q1, .ref 386] μ := by
  unfold G12_countsNames_J95 at h
  refine x_iconst (v := 0) C (by decide) dX12_countsNames_95 ?_
  exact G12_countsNames_J96_ok C hd hr hK30 h
set_option maxHeartbeats 4000000 in
set_option maxRecDepth 100000 in
theorem G12_countsNames_L30_b {p : Program} {e : Env} {s : State} {m : MethodId} {args : Array Value} {below : List Frame} {meth : Method} {c : Code} {l : Launch} {φ : Nat → Nat} {tc : Nat → ClassId} {D : va_G} {s0 : State} {dR : Nat} (C : CX p s m args meth c φ tc D s0 cX12_countsNames RX12 2) (hd : G12_countsNames_dep ≤ dR) (hr : meth.sig.returnType = none)   {Q : MM → Prop} {K30 : Int32 × MM → Prop} {x : Int32 × MM}   (hK30 : ∀ (z1 : Int32) (zμ : MM), K30 (z1, zμ) → WX p l e (rmX dR) s m args below meth c φ tc D 2 (MQ below (QX φ tc D (QV Q)) args s 0 0 (AX φ)) 30 [(0, .ref 358), (1, .int z1)] [] zμ) (h : G12_countsNames_L30  Q K30 x) : WX p l e (rmX dR) s m args below meth c φ tc D 2 (MQ below (QX φ tc D (QV Q)) args s 0 0 (AX φ)) 30 [(0, .ref 358), (1, .int x.1)] [] x.2 := by
  unfold G12_countsNames_L30 at h
  refine x_iload_n C rfl 1 rfl dX12_countsNames_30 ?_
  refine x_aload_n C rfl 0 rfl dX12_countsNames_31 ?_
  refine x_getI C (j := 12) ob358.1 ob358.2 (Nat.le_of_ble_eq_true rfl) (Nat.le_of_ble_eq_true rfl) (Or.inl rfl) tw_8_218 dX12_countsNames_32 ?_
  refine x_icmp_ge (tgt := 107) C dX12_countsNames_35 (by decide) (fun c21 => ?_) (fun c21 => ?_)
  · have h := h.1 c21
    exact x_vret C hr dX12_countsNames_107 ⟨rfl, h⟩
  · have h := h.2 c21
    refine x_aload_n C rfl 0 rfl dX12_countsNames_38 ?_
    refine x_getR (r := 385) C (j := 40) ob358.1 ob358.2 (Nat.le_of_ble_eq_true rfl) (Nat.le_of_ble_eq_true rfl) (fun _ _ _ => rfl) r_358_40 tw_9_6 dX12_countsNames_39 ?_
    refine x_aload_n C rfl 0 rfl dX12_countsNames_42 ?_
    refine x_getR (r := 368) C (j := 14) ob358.1 ob358.2 (Nat.le_of_ble_eq_true rfl) (Nat.le_of_ble_eq_true rfl) (fun _ _ _ => rfl) r_358_14 tw_8_220 dX12_countsNames_43 ?_
    refine x_iload_n C rfl 1 rfl dX12_countsNames_46 ?_
    obtain ⟨c22, h⟩ := h
    refine x_iald C ob368.1 ob368.2 c22 rfl dX12_countsNames_47 ?_
    refine x_dup2_11 C rfl rfl dX12_countsNames_48 ?_
    obtain ⟨c23, h⟩ := h
    refine x_iald C ob385.1 ob385.2 c23 rfl dX12_countsNames_49 ?_
    refine x_aload_n C rfl 0 rfl dX12_countsNames_50 ?_
    refine x_getR (r := 373) C (j := 19) ob358.1 ob358.2 (Nat.le_of_ble_eq_true rfl) (Nat.le_of_ble_eq_true rfl) (fun _ _ _ => rfl) r_358_19 tw_8_225 dX12_countsNames_51 ?_
    refine x_iload_n C rfl 1 rfl dX12_countsNames_54 ?_
    obtain ⟨c24, h⟩ := h
    refine x_zald C ob373.1 ob373.2 c24 rfl dX12_countsNames_55 ?_
    refine x_callS (dC := G12_flag_dep) (as := [.int (gI x.2 373 x.1.toNatClampNeg)]) (st := [.int (gI x.2 385 ((gI x.2 368 x.1.toNatClampNeg).toNatClampNeg)), .int (gI x.2 368 x.1.toNatClampNeg), .ref 385]) C rfl (Nat.le_trans (Nat.le_of_ble_eq_true rfl) hd) (Nat.le_of_ble_eq_true rfl) tw_6_212 tw_6_211 tc_6_213 tw_1_13 hyX12 hnX12_flag rfl (Nat.le_of_ble_eq_true rfl) dX12_countsNames_56 (G12_flag_met C.2.2.2.2.2.2.2.1 (Nat.le_refl _)  h) (fun r0 μ25 hq => ?_)
    obtain ⟨r26, rfl, h⟩ := hq
    refine x_st [.int r26, .int (gI x.2 385 ((gI x.2 368 x.1.toNatClampNeg).toNatClampNeg)), .int (gI x.2 368 x.1.toNatClampNeg), .ref 385] rfl ?_
    refine x_iadd C dX12_countsNames_59 ?_
    obtain ⟨c27, h⟩ := h
    refine x_iast C ob385.1 ob385.2 c27 rfl dX12_countsNames_60 ?_
    refine x_mu (fun μ28 e_μ28 => ?_)
    have h := h μ28 e_μ28
    refine x_aload_n C rfl 0 rfl dX12_countsNames_61 ?_
    refine x_getR (r := 386) C (j := 41) ob358.1 ob358.2 (Nat.le_of_ble_eq_true rfl) (Nat.le_of_ble_eq_true rfl) (fun _ _ _ => rfl) r_358_41 tw_9_7 dX12_countsNames_62 ?_
    refine x_aload_n C rfl 0 rfl dX12_countsNames_65 ?_
    refine x_getR (r := 368) C (j := 14) ob358.1 ob358.2 (Nat.le_of_ble_eq_true rfl) (Nat.le_of_ble_eq_true rfl) (fun _ _ _ => rfl) r_358_14 tw_8_220 dX12_countsNames_66 ?_
    refine x_iload_n C rfl 1 rfl dX12_countsNames_69 ?_
    obtain ⟨c29, h⟩ := h
    refine x_iald C ob368.1 ob368.2 c29 rfl dX12_countsNames_70 ?_
    refine x_dup2_11 C rfl rfl dX12_countsNames_71 ?_
    obtain ⟨c30, h⟩ := h
    refine x_iald C ob386.1 ob386.2 c30 rfl dX12_countsNames_72 ?_
    refine x_aload_n C rfl 0 rfl dX12_countsNames_73 ?_
    refine x_getR (r := 373) C (j := 19) ob358.1 ob358.2 (Nat.le_of_ble_eq_true rfl) (Nat.le_of_ble_eq_true rfl) (fun _ _ _ => rfl) r_358_19 tw_8_225 dX12_countsNames_74 ?_
    refine x_iload_n C rfl 1 rfl dX12_countsNames_77 ?_
    obtain ⟨c31, h⟩ := h
    refine x_zald C ob373.1 ob373.2 c31 rfl dX12_countsNames_78 ?_
    refine x_if_eq (tgt := 95) C dX12_countsNames_79 (by decide) (fun c32 => ?_) (fun c32 => ?_)
    · have h := h.1 c32
      exact G12_countsNames_J95_ok C hd hr hK30 h
    · have h := h.2 c32
      refine x_aload_n C rfl 0 rfl dX12_countsNames_82 ?_
      refine x_getR (r := 374) C (j := 20) ob358.1 ob358.2 (Nat.le_of_ble_eq_true rfl) (Nat.le_of_ble_eq_true rfl) (fun _ _ _ => rfl) r_358_20 tw_8_226 dX12_countsNames_83 ?_
      refine x_iload_n C rfl 1 rfl dX12_countsNames_86 ?_
      obtain ⟨c37, h⟩ := h
      refine x_zald C ob374.1 ob374.2 c37 rfl dX12_countsNames_87 ?_
      refine x_if_eq (tgt := 95) C dX12_countsNames_88 (by decide) (fun c38 => ?_) (fun c38 => ?_)
      · have h := h.1 c38
        exact G12_countsNames_J95_ok C hd hr hK30 h
      · have h := h.2 c38
        refine x_iconst (v := 1) C (by decide) dX12_countsNames_91 ?_
        refine x_goto (tgt := 96) C dX12_countsNames_92 (by decide) ?_
        exact G12_countsNames_J96_ok C hd hr hK30 h
theorem G12_countsNames_L30_ok {p : Program} {e : Env} {s : State} {m : MethodId} {args : Array Value} {below : List Frame} {meth : Method} {c : Code} {l : Launch} {φ : Nat → Nat} {tc : Nat → ClassId} {D : va_G} {s0 : State} {dR : Nat} (C : CX p s m args meth c φ tc D s0 cX12_countsNames RX12 2) (hd : G12_countsNames_dep ≤ dR) (hr : meth.sig.returnType = none)   {Q : MM → Prop}  {x : Int32 × MM}    (h : Lp (G12_countsNames_L30  Q) x) : WX p l e (rmX dR) s m args below meth c φ tc D 2 (MQ below (QX φ tc D (QV Q)) args s 0 0 (AX φ)) 30 [(0, .ref 358), (1, .int x.1)] [] x.2 := by
  obtain ⟨n, h⟩ := h
  induction n generalizing x with
  | zero => exact h.elim
  | succ n ih => exact G12_countsNames_L30_b C hd hr   (fun z1 zμ hz => by have q := ih hz; exact q) h
set_option maxHeartbeats 4000000 in
set_option maxRecDepth 100000 in
theorem G12_countsNames_L2_b {p : Program} {e : Env} {s : State} {m : MethodId} {args : Array Value} {below : List Frame} {meth : Method} {c : Code} {l : Launch} {φ : Nat → Nat} {tc : Nat → ClassId} {D : va_G} {s0 : State} {dR : Nat} (C : CX p s m args meth c φ tc D s0 cX12_countsNames RX12 2) (hd : G12_countsNames_dep ≤ dR) (hr : meth.sig.returnType = none)   {Q : MM → Prop} {K2 : Int32 × MM → Prop} {x : Int32 × MM}   (hK2 : ∀ (z1 : Int32) (zμ : MM), K2 (z1, zμ) → WX p l e (rmX dR) s m args below meth c φ tc D 2 (MQ below (QX φ tc D (QV Q)) args s 0 0 (AX φ)) 2 [(0, .ref 358), (1, .int z1)] [] zμ) (h : G12_countsNames_L2  Q K2 x) : WX p l e (rmX dR) s m args below meth c φ tc D 2 (MQ below (QX φ tc D (QV Q)) args s 0 0 (AX φ)) 2 [(0, .ref 358), (1, .int x.1)] [] x.2 := by
  unfold G12_countsNames_L2 at h
  refine x_iload_n C rfl 1 rfl dX12_countsNames_2 ?_
  refine x_bipush (v := 12) C (by decide) dX12_countsNames_3 ?_
  refine x_icmp_ge (tgt := 28) C dX12_countsNames_5 (by decide) (fun c20 => ?_) (fun c20 => ?_)
  · have h := h.1 c20
    refine x_iconst (v := 0) C (by decide) dX12_countsNames_28 ?_
    refine x_istore_n C [(1, .int 0), (0, .ref 358)] rfl (Nat.le_of_ble_eq_true rfl) rfl dX12_countsNames_29 ?_
    refine x_sub [(0, .ref 358), (1, .int 0)] [1, 0] rfl ?_
    exact G12_countsNames_L30_ok C hd hr  h
  · have h := h.2 c20
    refine x_aload_n C rfl 0 rfl dX12_countsNames_8 ?_
    refine x_getR (r := 385) C (j := 40) ob358.1 ob358.2 (Nat.le_of_ble_eq_true rfl) (Nat.le_of_ble_eq_true rfl) (fun _ _ _ => rfl) r_358_40 tw_9_6 dX12_countsNames_9 ?_
    refine x_iload_n C rfl 1 rfl dX12_countsNames_12 ?_
    refine x_iconst (v := 0) C (by decide) dX12_countsNames_13 ?_
    obtain ⟨c39, h⟩ := h
    refine x_iast C ob385.1 ob385.2 c39 rfl dX12_countsNames_14 ?_
    refine x_mu (fun μ40 e_μ40 => ?_)
    have h := h μ40 e_μ40
    refine x_aload_n C rfl 0 rfl dX12_countsNames_15 ?_
    refine x_getR (r := 386) C (j := 41) ob358.1 ob358.2 (Nat.le_of_ble_eq_true rfl) (Nat.le_of_ble_eq_true rfl) (fun _ _ _ => rfl) r_358_41 tw_9_7 dX12_countsNames_16 ?_
    refine x_iload_n C rfl 1 rfl dX12_countsNames_19 ?_
    refine x_iconst (v := 0) C (by decide) dX12_countsNames_20 ?_
    obtain ⟨c41, h⟩ := h
    refine x_iast C ob386.1 ob386.2 c41 rfl dX12_countsNames_21 ?_
    refine x_mu (fun μ42 e_μ42 => ?_)
    have h := h μ42 e_μ42
    refine x_iinc (v := (x.1 + 1)) C [(1, .int (x.1 + 1)), (0, .ref 358)] 1 rfl (congrArg (fun z => x.1 + z) (by decide : Int32.ofInt (1) = 1)) (Nat.le_of_ble_eq_true rfl) rfl dX12_countsNames_22 ?_
    refine x_goto (tgt := 2) C dX12_countsNames_25 (by decide) ?_
    refine x_sub [(0, .ref 358), (1, .int (x.1 + 1))] [1, 0] rfl ?_
    exact hK2 _ _ h
theorem G12_countsNames_L2_ok {p : Program} {e : Env} {s : State} {m : MethodId} {args : Array Value} {below : List Frame} {meth : Method} {c : Code} {l : Launch} {φ : Nat → Nat} {tc : Nat → ClassId} {D : va_G} {s0 : State} {dR : Nat} (C : CX p s m args meth c φ tc D s0 cX12_countsNames RX12 2) (hd : G12_countsNames_dep ≤ dR) (hr : meth.sig.returnType = none)   {Q : MM → Prop}  {x : Int32 × MM}    (h : Lp (G12_countsNames_L2  Q) x) : WX p l e (rmX dR) s m args below meth c φ tc D 2 (MQ below (QX φ tc D (QV Q)) args s 0 0 (AX φ)) 2 [(0, .ref 358), (1, .int x.1)] [] x.2 := by
  obtain ⟨n, h⟩ := h
  induction n generalizing x with
  | zero => exact h.elim
  | succ n ih => exact G12_countsNames_L2_b C hd hr   (fun z1 zμ hz => by have q := ih hz; exact q) h
set_option maxHeartbeats 4000000 in
set_option maxRecDepth 100000 in
theorem G12_countsNames_met {l : Launch} {φ : Nat → Nat} {tc : Nat → ClassId} {D : va_G} {s0 : State} (hG : GX φ tc D s0) {dR : Nat} (hd : G12_countsNames_dep ≤ dR)  {μ : MM} {Q : MM → Prop}  (h : G12_countsNames  μ Q) : MX l φ tc D s0 dR yX12_countsNames cX12_countsNames 2 none [.ref 358] μ (QV Q) := by
  refine MX.of (own := RX12) hG plX12 rfl (Nat.le_of_ble_eq_true rfl) (fun p e s m args below meth c C hr => ?_)
  refine x_sub [(0, .ref 358)] [0] rfl ?_
  unfold G12_countsNames at h
  refine x_iconst (v := 0) C (by decide) dX12_countsNames_0 ?_
  refine x_istore_n C [(1, .int 0), (0, .ref 358)] rfl (Nat.le_of_ble_eq_true rfl) rfl dX12_countsNames_1 ?_
  refine x_sub [(0, .ref 358), (1, .int 0)] [1, 0] rfl ?_
  exact G12_countsNames_L2_ok C hd hr  h
set_option maxHeartbeats 4000000 in
set_option maxRecDepth 100000 in
theorem G12_names_met {l : Launch} {φ : Nat → Nat} {tc : Nat → ClassId} {D : va_G} {s0 : State} (hG : GX φ tc D s0) {dR : Nat} (hd : G12_names_dep ≤ dR) {v1 : Int32} {μ : MM} {Q : Int32 → MM → Prop}  (h : G12_names v1 μ Q) : MX l φ tc D s0 dR yX12_names cX12_names 2 (some .int) [.ref 358, .int v1] μ (QI Q) := by
  refine MX.of (own := RX12) hG plX12 rfl (Nat.le_of_ble_eq_true rfl) (fun p e s m args below meth c C hr => ?_)
  refine x_sub [(0, .ref 358), (1, .int v1)] [0, 1] rfl ?_
  unfold G12_names at h
  refine x_aload_n C rfl 0 rfl dX12_names_0 ?_
  refine x_iconst (v := 0) C (by decide) dX12_names_1 ?_
  refine x_putI C (j := 0) ob358.1 ob358.2 (Nat.le_of_ble_eq_true rfl) (Nat.le_of_ble_eq_true rfl) (Or.inl rfl) rfl rfl rfl tw_8_206 dX12_names_2 ?_
  refine x_mu (fun μ11 e_μ11 => ?_)
  have h := h μ11 e_μ11
  refine x_aload_n C rfl 0 rfl dX12_names_5 ?_
  refine x_iload_n C rfl 1 rfl dX12_names_6 ?_
  refine x_callV (dC := G12_isName_dep) (as := [.int v1]) (st := []) C rfl (Nat.le_trans (Nat.le_of_ble_eq_true rfl) hd) (Nat.le_of_ble_eq_true rfl) ob358.1 ob358.2 (Nat.le_of_ble_eq_true rfl) rfl ts_8_9 tw_6_203 tw_6_201 tc_6_204 tw_1_13 hyX12 hnX12_isName rfl (Nat.le_of_ble_eq_true rfl) dX12_names_7 (G12_isName_met C.2.2.2.2.2.2.2.1 (Nat.le_refl _)  h) (fun r0 μ12 hq => ?_)
  obtain ⟨r13, rfl, h⟩ := hq
  refine x_st [.int r13] rfl ?_
  refine x_if_ne (tgt := 15) C dX12_names_10 (by decide) (fun c14 => ?_) (fun c14 => ?_)
  · have h := h.1 c14
    refine x_aload_n C rfl 0 rfl dX12_names_15 ?_
    refine x_callV (dC := G12_countsNames_dep) (as := []) (st := []) C rfl (Nat.le_trans (Nat.le_of_ble_eq_true rfl) hd) (Nat.le_of_ble_eq_true rfl) ob358.1 ob358.2 (Nat.le_of_ble_eq_true rfl) rfl ts_10_4 tw_7_195 tw_7_193 tc_7_196 tw_1_13 hyX12 hnX12_countsNames rfl (Nat.le_of_ble_eq_true rfl) dX12_names_16 (G12_countsNames_met C.2.2.2.2.2.2.2.1 (Nat.le_refl _)  h) (fun r0 μ15 hq => ?_)
    obtain ⟨rfl, h⟩ := hq
    refine x_st [] rfl ?_
    refine x_aload_n C rfl 0 rfl dX12_names_19 ?_
    refine x_iconst (v := 0) C (by decide) dX12_names_20 ?_
    refine x_putI C (j := 1) ob358.1 ob358.2 (Nat.le_of_ble_eq_true rfl) (Nat.le_of_ble_eq_true rfl) (Or.inl rfl) rfl rfl rfl tw_8_207 dX12_names_21 ?_
    refine x_mu (fun μ16 e_μ16 => ?_)
    have h := h μ16 e_μ16
    refine x_aload_n C rfl 0 rfl dX12_names_24 ?_
    refine x_getR (r := 385) C (j := 40) ob358.1 ob358.2 (Nat.le_of_ble_eq_true rfl) (Nat.le_of_ble_eq_true rfl) (fun _ _ _ => rfl) r_358_40 tw_9_6 dX12_names_25 ?_
    refine x_iload_n C rfl 1 rfl dX12_names_28 ?_
    obtain ⟨c17, h⟩ := h
    refine x_iald C ob385.1 ob385.2 c17 rfl dX12_names_29 ?_
    refine x_if_le (tgt := 51) C dX12_names_30 (by decide) (fun c18 => ?_) (fun c18 => ?_)
    · have h := h.1 c18
      refine x_aload_n C rfl 0 rfl dX12_names_51 ?_
      refine x_getR (r := 385) C (j := 40) ob358.1 ob358.2 (Nat.le_of_ble_eq_true rfl) (Nat.le_of_ble_eq_true rfl) (fun _ _ _ => rfl) r_358_40 tw_9_6 dX12_names_52 ?_
      refine x_iload_n C rfl 1 rfl dX12_names_55 ?_
      obtain ⟨c19, h⟩ := h
      refine x_iald C ob385.1 ob385.2 c19 rfl dX12_names_56 ?_
      exact x_iret C hr dX12_names_57 ⟨_, rfl, h⟩
    · have h := h.2 c18
      refine x_aload_n C rfl 0 rfl dX12_names_33 ?_
      refine x_aload_n C rfl 0 rfl dX12_names_34 ?_
      refine x_getR (r := 386) C (j := 41) ob358.1 ob358.2 (Nat.le_of_ble_eq_true rfl) (Nat.le_of_ble_eq_true rfl) (fun _ _ _ => rfl) r_358_41 tw_9_7 dX12_names_35 ?_
      refine x_iload_n C rfl 1 rfl dX12_names_38 ?_
      obtain ⟨c20, h⟩ := h
      refine x_iald C ob386.1 ob386.2 c20 rfl dX12_names_39 ?_
      refine x_i2l C dX12_names_40 ?_
      refine x_aload_n C rfl 0 rfl dX12_names_41 ?_
      refine x_getR (r := 385) C (j := 40) ob358.1 ob358.2 (Nat.le_of_ble_eq_true rfl) (Nat.le_of_ble_eq_true rfl) (fun _ _ _ => rfl) r_358_40 tw_9_6 dX12_names_42 ?_
      refine x_iload_n C rfl 1 rfl dX12_names_45 ?_
      obtain ⟨c21, h⟩ := h
      refine x_iald C ob385.1 ob385.2 c21 rfl dX12_names_46 ?_
      refine x_i2l C dX12_names_47 ?_
      refine x_callV (dC := G12_entersFraction_dep) (as := [.long ((gI μ16 386 v1.toNatClampNeg).toInt64), .long ((gI μ16 385 v1.toNatClampNeg).toInt64)]) (st := []) C rfl (Nat.le_trans (Nat.le_of_ble_eq_true rfl) hd) (Nat.le_of_ble_eq_true rfl) ob358.1 ob358.2 (Nat.le_of_ble_eq_true rfl) rfl ts_10_0 tw_7_154 tw_7_152 tc_7_155 tw_1_13 hyX12 hnX12_entersFraction rfl (Nat.le_of_ble_eq_true rfl) dX12_names_48 (G12_entersFraction_met C.2.2.2.2.2.2.2.1 (Nat.le_refl _)  h) (fun r0 μ22 hq => ?_)
      obtain ⟨rfl, h⟩ := hq
      refine x_st [] rfl ?_
      refine x_aload_n C rfl 0 rfl dX12_names_51 ?_
      refine x_getR (r := 385) C (j := 40) ob358.1 ob358.2 (Nat.le_of_ble_eq_true rfl) (Nat.le_of_ble_eq_true rfl) (fun _ _ _ => rfl) r_358_40 tw_9_6 dX12_names_52 ?_
      refine x_iload_n C rfl 1 rfl dX12_names_55 ?_
      obtain ⟨c23, h⟩ := h
      refine x_iald C ob385.1 ob385.2 c23 rfl dX12_names_56 ?_
      exact x_iret C hr dX12_names_57 ⟨_, rfl, h⟩
  · have h := h.2 c14
    refine x_iconst (v := (-1)) C (by decide) dX12_names_13 ?_
    exact x_iret C hr dX12_names_14 ⟨_, rfl, h⟩
set_option maxHeartbeats 4000000 in
set_option maxRecDepth 100000 in
theorem G12_drawn_J313_ok {p : Program} {e : Env} {s : State} {m : MethodId} {args : Array Value} {below : List Frame} {meth : Method} {c : Code} {l : Launch} {φ : Nat → Nat} {tc : Nat → ClassId} {D : va_G} {s0 : State} {dR : Nat} (C : CX p s m args meth c φ tc D s0 cX12_drawn RX12 14) (hd : G12_drawn_dep ≤ dR) (hr : meth.sig.returnType = (some .int))  {p1 : Int64} {p4 : Int32} {p5 : Int64} {p7 : Int32} {p9 : Int32} {q0 : Int32} {q1 : Int32} {Q : Int32 → MM → Prop} {K169 : Int32 × Int32 × Int32 × MM → Prop} {μ : MM}   (hK169 : ∀ (z7 : Int32) (z8 : Int32) (z9 : Int32) (zμ : MM), K169 (z7, z8, z9, zμ) → WX p l e (rmX dR) s m args below meth c φ tc D 14 (MQ below (QX φ tc D (QI Q)) args s 0 0 (AX φ)) 169 [(0, .ref 358), (1, .long p1), (4, .int p4), (5, .long p5), (7, .int z7), (8, .int z8), (9, .int z9)] [] zμ) (h : G12_drawn_J313 p1 p4 p5 p7 p9 q0 q1 μ K169 Q) : WX p l e (rmX dR) s m args below meth c φ tc D 14 (MQ below (QX φ tc D (QI Q)) args s 0 0 (AX φ)) 313 [(0, .ref 358), (1, .long p1), (4, .int p4), (5, .long p5), (7, .int p7), (9, .int p9)] [.int q0, .int q1] μ := by
  unfold G12_drawn_J313 at h
  refine x_callS (dC := G12_flag_dep) (as := [.int q0]) (st := [.int q1]) C rfl (Nat.le_trans (Nat.le_of_ble_eq_true rfl) hd) (Nat.le_of_ble_eq_true rfl) tw_6_212 tw_6_211 tc_6_213 tw_1_13 hyX12 hnX12_flag rfl (Nat.le_of_ble_eq_true rfl) dX12_drawn_313 (G12_flag_met C.2.2.2.2.2.2.2.1 (Nat.le_refl _)  h) (fun r0 μ45 hq => ?_)
  obtain ⟨r46, rfl, h⟩ := hq
  refine x_st [.int r46, .int q1] rfl ?_
  refine x_iadd C dX12_drawn_316 ?_
  refine x_topi (fun y47 e_y47 => ?_)
  have h := h y47 e_y47
  refine x_istore C [(8, .int y47), (0, .ref 358), (1, .long p1), (4, .int p4), (5, .long p5), (7, .int p7), (9, .int p9)] (Nat.le_of_ble_eq_true rfl) rfl dX12_drawn_317 ?_
  refine x_iinc (v := (p9 + 1)) C [(9, .int (p9 + 1)), (8, .int y47), (0, .ref 358), (1, .long p1), (4, .int p4), (5, .long p5), (7, .int p7)] 6 rfl (congrArg (fun z => p9 + z) (by decide : Int32.ofInt (1) = 1)) (Nat.le_of_ble_eq_true rfl) rfl dX12_drawn_319 ?_
  refine x_goto (tgt := 169) C dX12_drawn_322 (by decide) ?_
  refine x_sub [(0, .ref 358), (1, .long p1), (4, .int p4), (5, .long p5), (7, .int p7), (8, .int y47), (9, .int (p9 + 1))] [2, 3, 4, 5, 6, 1, 0] rfl ?_
  exact hK169 _ _ _ _ h
set_option maxHeartbeats 4000000 in
set_option maxRecDepth 100000 in
theorem G12_drawn_J312_ok {p : Program} {e : Env} {s : State} {m : MethodId} {args : Array Value} {below : List Frame} {meth : Method} {c : Code} {l : Launch} {φ : Nat → Nat} {tc : Nat → ClassId} {D : va_G} {s0 : State} {dR : Nat} (C : CX p s m args meth c φ tc D s0 cX12_drawn RX12 14) (hd : G12_drawn_dep ≤ dR) (hr : meth.sig.returnType = (some .int))  {p1 : Int64} {p4 : Int32} {p5 : Int64} {p7 : Int32} {p9 : Int32} {q0 : Int32} {Q : Int32 → MM → Prop} {K169 : Int32 × Int32 × Int32 × MM → Prop} {μ : MM}   (hK169 : ∀ (z7 : Int32) (z8 : Int32) (z9 : Int32) (zμ : MM), K169 (z7, z8, z9, zμ) → WX p l e (rmX dR) s m args below meth c φ tc D 14 (MQ below (QX φ tc D (QI Q)) args s 0 0 (AX φ)) 169 [(0, .ref 358), (1, .long p1), (4, .int p4), (5, .long p5), (7, .int z7), (8, .int z8), (9, .int z9)] [] zμ) (h : G12_drawn_J312 p1 p4 p5 p7 p9 q0 μ K169 Q) : WX p l e (rmX dR) s m args below meth c φ tc D 14 (MQ below (QX φ tc D (QI Q)) args s 0 0 (AX φ)) 312 [(0, .ref 358), (1, .long p1), (4, .int p4), (5, .long p5), (7, .int p7), (9, .int p9)] [.int q0] μ := by
  unfold G12_drawn_J312 at h
  refine x_iconst (v := 0) C (by decide) dX12_drawn_312 ?_
  exact G12_drawn_J313_ok C hd hr hK169 h
set_option maxHeartbeats 4000000 in
set_option maxRecDepth 100000 in
theorem G12_drawn_J283_ok {p : Program} {e : Env} {s : State} {m : MethodId} {args : Array Value} {below : List Frame} {meth : Method} {c : Code} {l : Launch} {φ : Nat → Nat} {tc : Nat → ClassId} {D : va_G} {s0 : State} {dR : Nat} (C : CX p s m args meth c φ tc D s0 cX12_drawn RX12 14) (hd : G12_drawn_dep ≤ dR) (hr : meth.sig.returnType = (some .int))  {p1 : Int64} {p4 : Int32} {p5 : Int64} {p7 : Int32} {p8 : Int32} {p9 : Int32} {p10 : Int32} {p11 : Int64} {Q : Int32 → MM → Prop} {K169 : Int32 × Int32 × Int32 × MM → Prop} {μ : MM}   (hK169 : ∀ (z7 : Int32) (z8 : Int32) (z9 : Int32) (zμ : MM), K169 (z7, z8, z9, zμ) → WX p l e (rmX dR) s m args below meth c φ tc D 14 (MQ below (QX φ tc D (QI Q)) args s 0 0 (AX φ)) 169 [(0, .ref 358), (1, .long p1), (4, .int p4), (5, .long p5), (7, .int z7), (8, .int z8), (9, .int z9)] [] zμ) (h : G12_drawn_J283 p1 p4 p5 p7 p8 p9 p10 p11 μ K169 Q) : WX p l e (rmX dR) s m args below meth c φ tc D 14 (MQ below (QX φ tc D (QI Q)) args s 0 0 (AX φ)) 283 [(0, .ref 358), (1, .long p1), (4, .int p4), (5, .long p5), (7, .int p7), (8, .int p8), (9, .int p9), (10, .int p10), (11, .long p11)] [] μ := by
  unfold G12_drawn_J283 at h
  refine x_iload C 4 rfl dX12_drawn_283 ?_
  refine x_iload C 7 rfl dX12_drawn_285 ?_
  refine x_callS (dC := G12_flag_dep) (as := [.int p10]) (st := [.int p7]) C rfl (Nat.le_trans (Nat.le_of_ble_eq_true rfl) hd) (Nat.le_of_ble_eq_true rfl) tw_6_212 tw_6_211 tc_6_213 tw_1_13 hyX12 hnX12_flag rfl (Nat.le_of_ble_eq_true rfl) dX12_drawn_287 (G12_flag_met C.2.2.2.2.2.2.2.1 (Nat.le_refl _)  h) (fun r0 μ41 hq => ?_)
  obtain ⟨r42, rfl, h⟩ := hq
  refine x_st [.int r42, .int p7] rfl ?_
  refine x_iadd C dX12_drawn_290 ?_
  refine x_topi (fun y43 e_y43 => ?_)
  have h := h y43 e_y43
  refine x_istore C [(7, .int y43), (0, .ref 358), (1, .long p1), (4, .int p4), (5, .long p5), (8, .int p8), (9, .int p9), (10, .int p10), (11, .long p11)] (Nat.le_of_ble_eq_true rfl) rfl dX12_drawn_291 ?_
  refine x_iload C 5 rfl dX12_drawn_293 ?_
  refine x_iload C 7 rfl dX12_drawn_295 ?_
  refine x_if_eq (tgt := 312) C dX12_drawn_297 (by decide) (fun c44 => ?_) (fun c44 => ?_)
  · have h := h.1 c44
    refine x_sub [(0, .ref 358), (1, .long p1), (4, .int p4), (5, .long p5), (7, .int y43), (9, .int p9)] [1, 2, 3, 4, 0, 6] rfl ?_
    exact G12_drawn_J312_ok C hd hr hK169 h
  · have h := h.2 c44
    refine x_lload C 8 rfl dX12_drawn_300 ?_
    refine x_lload C 4 rfl dX12_drawn_302 ?_
    refine x_lcmp C dX12_drawn_304 ?_
    refine x_if_gt (tgt := 312) C dX12_drawn_305 (by decide) (fun c48 => ?_) (fun c48 => ?_)
    · have h := h.1 c48
      refine x_sub [(0, .ref 358), (1, .long p1), (4, .int p4), (5, .long p5), (7, .int y43), (9, .int p9)] [1, 2, 3, 4, 0, 6] rfl ?_
      exact G12_drawn_J312_ok C hd hr hK169 h
    · have h := h.2 c48
      refine x_iconst (v := 1) C (by decide) dX12_drawn_308 ?_
      refine x_goto (tgt := 313) C dX12_drawn_309 (by decide) ?_
      refine x_sub [(0, .ref 358), (1, .long p1), (4, .int p4), (5, .long p5), (7, .int y43), (9, .int p9)] [1, 2, 3, 4, 0, 6] rfl ?_
      exact G12_drawn_J313_ok C hd hr hK169 h
set_option maxHeartbeats 4000000 in
set_option maxRecDepth 100000 in
theorem G12_drawn_J274_ok {p : Program} {e : Env} {s : State} {m : MethodId} {args : Array Value} {below : List Frame} {meth : Method} {c : Code} {l : Launch} {φ : Nat → Nat} {tc : Nat → ClassId} {D : va_G} {s0 : State} {dR : Nat} (C : CX p s m args meth c φ tc D s0 cX12_drawn RX12 14) (hd : G12_drawn_dep ≤ dR) (hr : meth.sig.returnType = (some .int))  {p1 : Int64} {p4 : Int32} {p5 : Int64} {p7 : Int32} {p8 : Int32} {p9 : Int32} {p10 : Int32} {p13 : Int32} {q0 : Int64} {q1 : Int64} {Q : Int32 → MM → Prop} {K169 : Int32 × Int32 × Int32 × MM → Prop} {K203 : Int32 × Int64 × Int32 × MM → Prop} {μ : MM}   (hK169 : ∀ (z7 : Int32) (z8 : Int32) (z9 : Int32) (zμ : MM), K169 (z7, z8, z9, zμ) → WX p l e (rmX dR) s m args below meth c φ tc D 14 (MQ below (QX φ tc D (QI Q)) args s 0 0 (AX φ)) 169 [(0, .ref 358), (1, .long p1), (4, .int p4), (5, .long p5), (7, .int z7), (8, .int z8), (9, .int z9)] [] zμ) (hK203 : ∀ (z10 : Int32) (z11 : Int64) (z13 : Int32) (zμ : MM), K203 (z10, z11, z13, zμ) → WX p l e (rmX dR) s m args below meth c φ tc D 14 (MQ below (QX φ tc D (QI Q)) args s 0 0 (AX φ)) 203 [(0, .ref 358), (1, .long p1), (4, .int p4), (5, .long p5), (7, .int p7), (8, .int p8), (9, .int p9), (10, .int z10), (11, .long z11), (13, .int z13)] [] zμ) (h : G12_drawn_J274 p1 p4 p5 p7 p8 p9 p10 p13 q0 q1 μ K169 K203 Q) : WX p l e (rmX dR) s m args below meth c φ tc D 14 (MQ below (QX φ tc D (QI Q)) args s 0 0 (AX φ)) 274 [(0, .ref 358), (1, .long p1), (4, .int p4), (5, .long p5), (7, .int p7), (8, .int p8), (9, .int p9), (10, .int p10), (13, .int p13)] [.long q0, .long q1] μ := by
  unfold G12_drawn_J274 at h
  refine x_ladd C dX12_drawn_274 ?_
  refine x_topl (fun y56 e_y56 => ?_)
  have h := h y56 e_y56
  refine x_lstore C [(11, .long y56), (0, .ref 358), (1, .long p1), (4, .int p4), (5, .long p5), (7, .int p7), (8, .int p8), (9, .int p9), (10, .int p10), (13, .int p13)] (Nat.le_of_ble_eq_true rfl) rfl dX12_drawn_275 ?_
  refine x_iinc (v := (p13 + 1)) C [(13, .int (p13 + 1)), (11, .long y56), (0, .ref 358), (1, .long p1), (4, .int p4), (5, .long p5), (7, .int p7), (8, .int p8), (9, .int p9), (10, .int p10)] 9 rfl (congrArg (fun z => p13 + z) (by decide : Int32.ofInt (1) = 1)) (Nat.le_of_ble_eq_true rfl) rfl dX12_drawn_277 ?_
  refine x_goto (tgt := 203) C dX12_drawn_280 (by decide) ?_
  refine x_sub [(0, .ref 358), (1, .long p1), (4, .int p4), (5, .long p5), (7, .int p7), (8, .int p8), (9, .int p9), (10, .int p10), (11, .long y56), (13, .int (p13 + 1))] [2, 3, 4, 5, 6, 7, 8, 9, 1, 0] rfl ?_
  exact hK203 _ _ _ _ h
set_option maxHeartbeats 4000000 in
set_option maxRecDepth 100000 in
theorem G12_drawn_J242_ok {p : Program} {e : Env} {s : State} {m : MethodId} {args : Array Value} {below : List Frame} {meth : Method} {c : Code} {l : Launch} {φ : Nat → Nat} {tc : Nat → ClassId} {D : va_G} {s0 : State} {dR : Nat} (C : CX p s m args meth c φ tc D s0 cX12_drawn RX12 14) (hd : G12_drawn_dep ≤ dR) (hr : meth.sig.returnType = (some .int))  {p1 : Int64} {p4 : Int32} {p5 : Int64} {p7 : Int32} {p8 : Int32} {p9 : Int32} {p11 : Int64} {p13 : Int32} {q0 : Int32} {Q : Int32 → MM → Prop} {K169 : Int32 × Int32 × Int32 × MM → Prop} {K203 : Int32 × Int64 × Int32 × MM → Prop} {μ : MM}   (hK169 : ∀ (z7 : Int32) (z8 : Int32) (z9 : Int32) (zμ : MM), K169 (z7, z8, z9, zμ) → WX p l e (rmX dR) s m args below meth c φ tc D 14 (MQ below (QX φ tc D (QI Q)) args s 0 0 (AX φ)) 169 [(0, .ref 358), (1, .long p1), (4, .int p4), (5, .long p5), (7, .int z7), (8, .int z8), (9, .int z9)] [] zμ) (hK203 : ∀ (z10 : Int32) (z11 : Int64) (z13 : Int32) (zμ : MM), K203 (z10, z11, z13, zμ) → WX p l e (rmX dR) s m args below meth c φ tc D 14 (MQ below (QX φ tc D (QI Q)) args s 0 0 (AX φ)) 203 [(0, .ref 358), (1, .long p1), (4, .int p4), (5, .long p5), (7, .int p7), (8, .int p8), (9, .int p9), (10, .int z10), (11, .long z11), (13, .int z13)] [] zμ) (h : G12_drawn_J242 p1 p4 p5 p7 p8 p9 p11 p13 q0 μ K169 K203 Q) : WX p l e (rmX dR) s m args below meth c φ tc D 14 (MQ below (QX φ tc D (QI Q)) args s 0 0 (AX φ)) 242 [(0, .ref 358), (1, .long p1), (4, .int p4), (5, .long p5), (7, .int p7), (8, .int p8), (9, .int p9), (11, .long p11), (13, .int p13)] [.int q0] μ := by
  unfold G12_drawn_J242 at h
  refine x_istore C [(10, .int q0), (0, .ref 358), (1, .long p1), (4, .int p4), (5, .long p5), (7, .int p7), (8, .int p8), (9, .int p9), (11, .long p11), (13, .int p13)] (Nat.le_of_ble_eq_true rfl) rfl dX12_drawn_242 ?_
  refine x_lload C 8 rfl dX12_drawn_244 ?_
  refine x_iload C 0 rfl dX12_drawn_246 ?_
  refine x_if_eq (tgt := 273) C dX12_drawn_248 (by decide) (fun c55 => ?_) (fun c55 => ?_)
  · have h := h.1 c55
    refine x_lconst (v := 0) C (by decide) dX12_drawn_273 ?_
    refine x_sub [(0, .ref 358), (1, .long p1), (4, .int p4), (5, .long p5), (7, .int p7), (8, .int p8), (9, .int p9), (10, .int q0), (13, .int p13)] [1, 2, 3, 4, 5, 6, 7, 0, 9] rfl ?_
    exact G12_drawn_J274_ok C hd hr hK169 hK203 h
  · have h := h.2 c55
    refine x_lload_n C rfl 2 rfl dX12_drawn_251 ?_
    refine x_aload_n C rfl 1 rfl dX12_drawn_252 ?_
    refine x_getR (r := 385) C (j := 40) ob358.1 ob358.2 (Nat.le_of_ble_eq_true rfl) (Nat.le_of_ble_eq_true rfl) (fun _ _ _ => rfl) r_358_40 tw_9_6 dX12_drawn_253 ?_
    refine x_iload C 9 rfl dX12_drawn_256 ?_
    obtain ⟨c57, h⟩ := h
    refine x_iald C ob385.1 ob385.2 c57 rfl dX12_drawn_258 ?_
    refine x_i2l C dX12_drawn_259 ?_
    obtain ⟨c58, h⟩ := h
    refine x_ldiv C c58 dX12_drawn_260 ?_
    refine x_aload_n C rfl 1 rfl dX12_drawn_261 ?_
    refine x_getR (r := 386) C (j := 41) ob358.1 ob358.2 (Nat.le_of_ble_eq_true rfl) (Nat.le_of_ble_eq_true rfl) (fun _ _ _ => rfl) r_358_41 tw_9_7 dX12_drawn_262 ?_
    refine x_iload C 9 rfl dX12_drawn_265 ?_
    obtain ⟨c59, h⟩ := h
    refine x_iald C ob386.1 ob386.2 c59 rfl dX12_drawn_267 ?_
    refine x_i2l C dX12_drawn_268 ?_
    refine x_lmul C dX12_drawn_269 ?_
    refine x_goto (tgt := 274) C dX12_drawn_270 (by decide) ?_
    refine x_sub [(0, .ref 358), (1, .long p1), (4, .int p4), (5, .long p5), (7, .int p7), (8, .int p8), (9, .int p9), (10, .int q0), (13, .int p13)] [1, 2, 3, 4, 5, 6, 7, 0, 9] rfl ?_
    exact G12_drawn_J274_ok C hd hr hK169 hK203 h
set_option maxHeartbeats 4000000 in
set_option maxRecDepth 100000 in
theorem G12_drawn_L203_b {p : Program} {e : Env} {s : State} {m : MethodId} {args : Array Value} {below : List Frame} {meth : Method} {c : Code} {l : Launch} {φ : Nat → Nat} {tc : Nat → ClassId} {D : va_G} {s0 : State} {dR : Nat} (C : CX p s m args meth c φ tc D s0 cX12_drawn RX12 14) (hd : G12_drawn_dep ≤ dR) (hr : meth.sig.returnType = (some .int))  {p1 : Int64} {p4 : Int32} {p5 : Int64} {p7 : Int32} {p8 : Int32} {p9 : Int32} {Q : Int32 → MM → Prop} {K169 : Int32 × Int32 × Int32 × MM → Prop} {K203 : Int32 × Int64 × Int32 × MM → Prop} {x : Int32 × Int64 × Int32 × MM}   (hK169 : ∀ (z7 : Int32) (z8 : Int32) (z9 : Int32) (zμ : MM), K169 (z7, z8, z9, zμ) → WX p l e (rmX dR) s m args below meth c φ tc D 14 (MQ below (QX φ tc D (QI Q)) args s 0 0 (AX φ)) 169 [(0, .ref 358), (1, .long p1), (4, .int p4), (5, .long p5), (7, .int z7), (8, .int z8), (9, .int z9)] [] zμ) (hK203 : ∀ (z10 : Int32) (z11 : Int64) (z13 : Int32) (zμ : MM), K203 (z10, z11, z13, zμ) → WX p l e (rmX dR) s m args below meth c φ tc D 14 (MQ below (QX φ tc D (QI Q)) args s 0 0 (AX φ)) 203 [(0, .ref 358), (1, .long p1), (4, .int p4), (5, .long p5), (7, .int p7), (8, .int p8), (9, .int p9), (10, .int z10), (11, .long z11), (13, .int z13)] [] zμ) (h : G12_drawn_L203 p1 p4 p5 p7 p8 p9 K169 Q K203 x) : WX p l e (rmX dR) s m args below meth c φ tc D 14 (MQ below (QX φ tc D (QI Q)) args s 0 0 (AX φ)) 203 [(0, .ref 358), (1, .long p1), (4, .int p4), (5, .long p5), (7, .int p7), (8, .int p8), (9, .int p9), (10, .int x.1), (11, .long x.2.1), (13, .int x.2.2.1)] [] x.2.2.2 := by
  unfold G12_drawn_L203 at h
  refine x_iload C 9 rfl dX12_drawn_203 ?_
  refine x_aload_n C rfl 0 rfl dX12_drawn_205 ?_
  refine x_getI C (j := 3) ob358.1 ob358.2 (Nat.le_of_ble_eq_true rfl) (Nat.le_of_ble_eq_true rfl) (Or.inl rfl) tw_8_209 dX12_drawn_206 ?_
  refine x_icmp_ge (tgt := 283) C dX12_drawn_209 (by decide) (fun c40 => ?_) (fun c40 => ?_)
  · have h := h.1 c40
    refine x_sub [(0, .ref 358), (1, .long p1), (4, .int p4), (5, .long p5), (7, .int p7), (8, .int p8), (9, .int p9), (10, .int x.1), (11, .long x.2.1)] [0, 1, 2, 3, 4, 5, 6, 7, 8] rfl ?_
    exact G12_drawn_J283_ok C hd hr hK169 h
  · have h := h.2 c40
    refine x_iload C 7 rfl dX12_drawn_212 ?_
    refine x_if_eq (tgt := 283) C dX12_drawn_214 (by decide) (fun c49 => ?_) (fun c49 => ?_)
    · have h := h.1 c49
      refine x_sub [(0, .ref 358), (1, .long p1), (4, .int p4), (5, .long p5), (7, .int p7), (8, .int p8), (9, .int p9), (10, .int x.1), (11, .long x.2.1)] [0, 1, 2, 3, 4, 5, 6, 7, 8] rfl ?_
      exact G12_drawn_J283_ok C hd hr hK169 h
    · have h := h.2 c49
      refine x_iload C 6 rfl dX12_drawn_217 ?_
      refine x_iload C 9 rfl dX12_drawn_219 ?_
      refine x_callS (dC := G12_has_dep) (as := [.int p9, .int x.2.2.1]) (st := []) C rfl (Nat.le_trans (Nat.le_of_ble_eq_true rfl) hd) (Nat.le_of_ble_eq_true rfl) tw_7_203 tw_7_202 tc_7_204 tw_1_13 hyX12 hnX12_has rfl (Nat.le_of_ble_eq_true rfl) dX12_drawn_221 (G12_has_met C.2.2.2.2.2.2.2.1 (Nat.le_refl _)  h) (fun r0 μ50 hq => ?_)
      obtain ⟨r51, rfl, h⟩ := hq
      refine x_st [.int r51] rfl ?_
      refine x_if_eq (tgt := 277) C dX12_drawn_224 (by decide) (fun c52 => ?_) (fun c52 => ?_)
      · have h := h.1 c52
        refine x_iinc (v := (x.2.2.1 + 1)) C [(13, .int (x.2.2.1 + 1)), (0, .ref 358), (1, .long p1), (4, .int p4), (5, .long p5), (7, .int p7), (8, .int p8), (9, .int p9), (10, .int x.1), (11, .long x.2.1)] 9 rfl (congrArg (fun z => x.2.2.1 + z) (by decide : Int32.ofInt (1) = 1)) (Nat.le_of_ble_eq_true rfl) rfl dX12_drawn_277 ?_
        refine x_goto (tgt := 203) C dX12_drawn_280 (by decide) ?_
        refine x_sub [(0, .ref 358), (1, .long p1), (4, .int p4), (5, .long p5), (7, .int p7), (8, .int p8), (9, .int p9), (10, .int x.1), (11, .long x.2.1), (13, .int (x.2.2.1 + 1))] [1, 2, 3, 4, 5, 6, 7, 8, 9, 0] rfl ?_
        exact hK203 _ _ _ _ h
      · have h := h.2 c52
        refine x_aload_n C rfl 0 rfl dX12_drawn_227 ?_
        refine x_getR (r := 385) C (j := 40) ob358.1 ob358.2 (Nat.le_of_ble_eq_true rfl) (Nat.le_of_ble_eq_true rfl) (fun _ _ _ => rfl) r_358_40 tw_9_6 dX12_drawn_228 ?_
        refine x_iload C 9 rfl dX12_drawn_231 ?_
        obtain ⟨c53, h⟩ := h
        refine x_iald C ob385.1 ob385.2 c53 rfl dX12_drawn_233 ?_
        refine x_if_le (tgt := 241) C dX12_drawn_234 (by decide) (fun c54 => ?_) (fun c54 => ?_)
        · have h := h.1 c54
          refine x_iconst (v := 0) C (by decide) dX12_drawn_241 ?_
          refine x_sub [(0, .ref 358), (1, .long p1), (4, .int p4), (5, .long p5), (7, .int p7), (8, .int p8), (9, .int p9), (11, .long x.2.1), (13, .int x.2.2.1)] [0, 1, 2, 3, 4, 5, 6, 8, 9] rfl ?_
          exact G12_drawn_J242_ok C hd hr hK169 hK203 h
        · have h := h.2 c54
          refine x_iconst (v := 1) C (by decide) dX12_drawn_237 ?_
          refine x_goto (tgt := 242) C dX12_drawn_238 (by decide) ?_
          refine x_sub [(0, .ref 358), (1, .long p1), (4, .int p4), (5, .long p5), (7, .int p7), (8, .int p8), (9, .int p9), (11, .long x.2.1), (13, .int x.2.2.1)] [0, 1, 2, 3, 4, 5, 6, 8, 9] rfl ?_
          exact G12_drawn_J242_ok C hd hr hK169 hK203 h
theorem G12_drawn_L203_ok {p : Program} {e : Env} {s : State} {m : MethodId} {args : Array Value} {below : List Frame} {meth : Method} {c : Code} {l : Launch} {φ : Nat → Nat} {tc : Nat → ClassId} {D : va_G} {s0 : State} {dR : Nat} (C : CX p s m args meth c φ tc D s0 cX12_drawn RX12 14) (hd : G12_drawn_dep ≤ dR) (hr : meth.sig.returnType = (some .int))  {p1 : Int64} {p4 : Int32} {p5 : Int64} {p7 : Int32} {p8 : Int32} {p9 : Int32} {Q : Int32 → MM → Prop} {K169 : Int32 × Int32 × Int32 × MM → Prop} {x : Int32 × Int64 × Int32 × MM}   (hK169 : ∀ (z7 : Int32) (z8 : Int32) (z9 : Int32) (zμ : MM), K169 (z7, z8, z9, zμ) → WX p l e (rmX dR) s m args below meth c φ tc D 14 (MQ below (QX φ tc D (QI Q)) args s 0 0 (AX φ)) 169 [(0, .ref 358), (1, .long p1), (4, .int p4), (5, .long p5), (7, .int z7), (8, .int z8), (9, .int z9)] [] zμ) (h : Lp (G12_drawn_L203 p1 p4 p5 p7 p8 p9 K169 Q) x) : WX p l e (rmX dR) s m args below meth c φ tc D 14 (MQ below (QX φ tc D (QI Q)) args s 0 0 (AX φ)) 203 [(0, .ref 358), (1, .long p1), (4, .int p4), (5, .long p5), (7, .int p7), (8, .int p8), (9, .int p9), (10, .int x.1), (11, .long x.2.1), (13, .int x.2.2.1)] [] x.2.2.2 := by
  obtain ⟨n, h⟩ := h
  induction n generalizing x with
  | zero => exact h.elim
  | succ n ih => exact G12_drawn_L203_b C hd hr  hK169 (fun z10 z11 z13 zμ hz => by have q := ih hz; exact q) h
set_option maxHeartbeats 4000000 in
set_option maxRecDepth 100000 in
theorem G12_drawn_L169_b {p : Program} {e : Env} {s : State} {m : MethodId} {args : Array Value} {below : List Frame} {meth : Method} {c : Code} {l : Launch} {φ : Nat → Nat} {tc : Nat → ClassId} {D : va_G} {s0 : State} {dR : Nat} (C : CX p s m args meth c φ tc D s0 cX12_drawn RX12 14) (hd : G12_drawn_dep ≤ dR) (hr : meth.sig.returnType = (some .int))  {p1 : Int64} {p4 : Int32} {p5 : Int64} {Q : Int32 → MM → Prop} {K169 : Int32 × Int32 × Int32 × MM → Prop} {x : Int32 × Int32 × Int32 × MM}   (hK169 : ∀ (z7 : Int32) (z8 : Int32) (z9 : Int32) (zμ : MM), K169 (z7, z8, z9, zμ) → WX p l e (rmX dR) s m args below meth c φ tc D 14 (MQ below (QX φ tc D (QI Q)) args s 0 0 (AX φ)) 169 [(0, .ref 358), (1, .long p1), (4, .int p4), (5, .long p5), (7, .int z7), (8, .int z8), (9, .int z9)] [] zμ) (h : G12_drawn_L169 p1 p4 p5 Q K169 x) : WX p l e (rmX dR) s m args below meth c φ tc D 14 (MQ below (QX φ tc D (QI Q)) args s 0 0 (AX φ)) 169 [(0, .ref 358), (1, .long p1), (4, .int p4), (5, .long p5), (7, .int x.1), (8, .int x.2.1), (9, .int x.2.2.1)] [] x.2.2.2 := by
  unfold G12_drawn_L169 at h
  refine x_iload C 6 rfl dX12_drawn_169 ?_
  refine x_iconst (v := 1) C (by decide) dX12_drawn_171 ?_
  refine x_aload_n C rfl 0 rfl dX12_drawn_172 ?_
  refine x_getI C (j := 3) ob358.1 ob358.2 (Nat.le_of_ble_eq_true rfl) (Nat.le_of_ble_eq_true rfl) (Or.inl rfl) tw_8_209 dX12_drawn_173 ?_
  refine x_ishl C dX12_drawn_176 ?_
  refine x_icmp_ge (tgt := 325) C dX12_drawn_177 (by decide) (fun c34 => ?_) (fun c34 => ?_)
  · have h := h.1 c34
    refine x_aload_n C rfl 0 rfl dX12_drawn_325 ?_
    refine x_iconst (v := 0) C (by decide) dX12_drawn_326 ?_
    refine x_putI C (j := 1) ob358.1 ob358.2 (Nat.le_of_ble_eq_true rfl) (Nat.le_of_ble_eq_true rfl) (Or.inl rfl) rfl rfl rfl tw_8_207 dX12_drawn_327 ?_
    refine x_mu (fun μ35 e_μ35 => ?_)
    have h := h μ35 e_μ35
    refine x_aload_n C rfl 0 rfl dX12_drawn_330 ?_
    refine x_iload C 5 rfl dX12_drawn_331 ?_
    refine x_i2l C dX12_drawn_333 ?_
    refine x_iload C 4 rfl dX12_drawn_334 ?_
    refine x_i2l C dX12_drawn_336 ?_
    refine x_callV (dC := G12_entersFraction_dep) (as := [.long (x.2.1.toInt64), .long (x.1.toInt64)]) (st := []) C rfl (Nat.le_trans (Nat.le_of_ble_eq_true rfl) hd) (Nat.le_of_ble_eq_true rfl) ob358.1 ob358.2 (Nat.le_of_ble_eq_true rfl) rfl ts_10_0 tw_7_154 tw_7_152 tc_7_155 tw_1_13 hyX12 hnX12_entersFraction rfl (Nat.le_of_ble_eq_true rfl) dX12_drawn_337 (G12_entersFraction_met C.2.2.2.2.2.2.2.1 (Nat.le_refl _)  h) (fun r0 μ36 hq => ?_)
    obtain ⟨rfl, h⟩ := hq
    refine x_st [] rfl ?_
    refine x_iconst (v := 0) C (by decide) dX12_drawn_340 ?_
    exact x_iret C hr dX12_drawn_341 ⟨_, rfl, h⟩
  · have h := h.2 c34
    refine x_iload C 6 rfl dX12_drawn_180 ?_
    refine x_callS (dC := GJ6_bitCount_0f7a4_dep) (as := [.int x.2.2.1]) (st := []) C rfl (Nat.le_trans (Nat.le_of_ble_eq_true rfl) hd) (Nat.le_of_ble_eq_true rfl) tw_4_148 tw_7_201 tc_4_149 tw_1_24 hyJ6 hnJ6_bitCount_0f7a4 rfl (Nat.le_of_ble_eq_true rfl) dX12_drawn_182 (GJ6_bitCount_0f7a4_met C.2.2.2.2.2.2.2.1 (Nat.le_refl _)  h) (fun r0 μ37 hq => ?_)
    obtain ⟨r38, rfl, h⟩ := hq
    refine x_st [.int r38] rfl ?_
    refine x_iload C 2 rfl dX12_drawn_185 ?_
    refine x_icmp_ne (tgt := 194) C dX12_drawn_187 (by decide) (fun c39 => ?_) (fun c39 => ?_)
    · have h := h.1 c39
      refine x_iconst (v := 0) C (by decide) dX12_drawn_194 ?_
      refine x_istore C [(10, .int 0), (0, .ref 358), (1, .long p1), (4, .int p4), (5, .long p5), (7, .int x.1), (8, .int x.2.1), (9, .int x.2.2.1)] (Nat.le_of_ble_eq_true rfl) rfl dX12_drawn_195 ?_
      refine x_lconst (v := 0) C (by decide) dX12_drawn_197 ?_
      refine x_lstore C [(11, .long 0), (10, .int 0), (0, .ref 358), (1, .long p1), (4, .int p4), (5, .long p5), (7, .int x.1), (8, .int x.2.1), (9, .int x.2.2.1)] (Nat.le_of_ble_eq_true rfl) rfl dX12_drawn_198 ?_
      refine x_iconst (v := 0) C (by decide) dX12_drawn_200 ?_
      refine x_istore C [(13, .int 0), (11, .long 0), (10, .int 0), (0, .ref 358), (1, .long p1), (4, .int p4), (5, .long p5), (7, .int x.1), (8, .int x.2.1), (9, .int x.2.2.1)] (Nat.le_of_ble_eq_true rfl) rfl dX12_drawn_201 ?_
      refine x_sub [(0, .ref 358), (1, .long p1), (4, .int p4), (5, .long p5), (7, .int x.1), (8, .int x.2.1), (9, .int x.2.2.1), (10, .int 0), (11, .long 0), (13, .int 0)] [3, 4, 5, 6, 7, 8, 9, 2, 1, 0] rfl ?_
      exact G12_drawn_L203_ok C hd hr hK169 h
    · have h := h.2 c39
      refine x_iconst (v := 1) C (by decide) dX12_drawn_190 ?_
      refine x_goto (tgt := 195) C dX12_drawn_191 (by decide) ?_
      refine x_istore C [(10, .int 1), (0, .ref 358), (1, .long p1), (4, .int p4), (5, .long p5), (7, .int x.1), (8, .int x.2.1), (9, .int x.2.2.1)] (Nat.le_of_ble_eq_true rfl) rfl dX12_drawn_195 ?_
      refine x_lconst (v := 0) C (by decide) dX12_drawn_197 ?_
      refine x_lstore C [(11, .long 0), (10, .int 1), (0, .ref 358), (1, .long p1), (4, .int p4), (5, .long p5), (7, .int x.1), (8, .int x.2.1), (9, .int x.2.2.1)] (Nat.le_of_ble_eq_true rfl) rfl dX12_drawn_198 ?_
      refine x_iconst (v := 0) C (by decide) dX12_drawn_200 ?_
      refine x_istore C [(13, .int 0), (11, .long 0), (10, .int 1), (0, .ref 358), (1, .long p1), (4, .int p4), (5, .long p5), (7, .int x.1), (8, .int x.2.1), (9, .int x.2.2.1)] (Nat.le_of_ble_eq_true rfl) rfl dX12_drawn_201 ?_
      refine x_sub [(0, .ref 358), (1, .long p1), (4, .int p4), (5, .long p5), (7, .int x.1), (8, .int x.2.1), (9, .int x.2.2.1), (10, .int 1), (11, .long 0), (13, .int 0)] [3, 4, 5, 6, 7, 8, 9, 2, 1, 0] rfl ?_
      exact G12_drawn_L203_ok C hd hr hK169 h
theorem G12_drawn_L169_ok {p : Program} {e : Env} {s : State} {m : MethodId} {args : Array Value} {below : List Frame} {meth : Method} {c : Code} {l : Launch} {φ : Nat → Nat} {tc : Nat → ClassId} {D : va_G} {s0 : State} {dR : Nat} (C : CX p s m args meth c φ tc D s0 cX12_drawn RX12 14) (hd : G12_drawn_dep ≤ dR) (hr : meth.sig.returnType = (some .int))  {p1 : Int64} {p4 : Int32} {p5 : Int64} {Q : Int32 → MM → Prop}  {x : Int32 × Int32 × Int32 × MM}    (h : Lp (G12_drawn_L169 p1 p4 p5 Q) x) : WX p l e (rmX dR) s m args below meth c φ tc D 14 (MQ below (QX φ tc D (QI Q)) args s 0 0 (AX φ)) 169 [(0, .ref 358), (1, .long p1), (4, .int p4), (5, .long p5), (7, .int x.1), (8, .int x.2.1), (9, .int x.2.2.1)] [] x.2.2.2 := by
  obtain ⟨n, h⟩ := h
  induction n generalizing x with
  | zero => exact h.elim
  | succ n ih => exact G12_drawn_L169_b C hd hr   (fun z7 z8 z9 zμ hz => by have q := ih hz; exact q) h
set_option maxHeartbeats 4000000 in
set_option maxRecDepth 100000 in
theorem G12_drawn_J150_ok {p : Program} {e : Env} {s : State} {m : MethodId} {args : Array Value} {below : List Frame} {meth : Method} {c : Code} {l : Launch} {φ : Nat → Nat} {tc : Nat → ClassId} {D : va_G} {s0 : State} {dR : Nat} (C : CX p s m args meth c φ tc D s0 cX12_drawn RX12 14) (hd : G12_drawn_dep ≤ dR) (hr : meth.sig.returnType = (some .int))  {p1 : Int64} {p4 : Int32} {p7 : Int32} {q0 : Int64} {Q : Int32 → MM → Prop} {K96 : Int64 × Int32 × MM → Prop} {μ : MM}   (hK96 : ∀ (z5 : Int64) (z7 : Int32) (zμ : MM), K96 (z5, z7, zμ) → WX p l e (rmX dR) s m args below meth c φ tc D 14 (MQ below (QX φ tc D (QI Q)) args s 0 0 (AX φ)) 96 [(0, .ref 358), (1, .long p1), (4, .int p4), (5, .long z5), (7, .int z7)] [] zμ) (h : G12_drawn_J150 p1 p4 p7 q0 μ K96 Q) : WX p l e (rmX dR) s m args below meth c φ tc D 14 (MQ below (QX φ tc D (QI Q)) args s 0 0 (AX φ)) 150 [(0, .ref 358), (1, .long p1), (4, .int p4), (7, .int p7)] [.long q0] μ := by
  unfold G12_drawn_J150 at h
  refine x_lconst (v := 0) C (by decide) dX12_drawn_150 ?_
  refine x_ladd C dX12_drawn_151 ?_
  refine x_topl (fun y62 e_y62 => ?_)
  have h := h y62 e_y62
  refine x_lstore C [(5, .long y62), (0, .ref 358), (1, .long p1), (4, .int p4), (7, .int p7)] (Nat.le_of_ble_eq_true rfl) rfl dX12_drawn_152 ?_
  refine x_iinc (v := (p7 + 1)) C [(7, .int (p7 + 1)), (5, .long y62), (0, .ref 358), (1, .long p1), (4, .int p4)] 4 rfl (congrArg (fun z => p7 + z) (by decide : Int32.ofInt (1) = 1)) (Nat.le_of_ble_eq_true rfl) rfl dX12_drawn_154 ?_
  refine x_goto (tgt := 96) C dX12_drawn_157 (by decide) ?_
  refine x_sub [(0, .ref 358), (1, .long p1), (4, .int p4), (5, .long y62), (7, .int (p7 + 1))] [2, 3, 4, 1, 0] rfl ?_
  exact hK96 _ _ _ h
set_option maxHeartbeats 4000000 in
set_option maxRecDepth 100000 in
theorem G12_drawn_L96_b {p : Program} {e : Env} {s : State} {m : MethodId} {args : Array Value} {below : List Frame} {meth : Method} {c : Code} {l : Launch} {φ : Nat → Nat} {tc : Nat → ClassId} {D : va_G} {s0 : State} {dR : Nat} (C : CX p s m args meth c φ tc D s0 cX12_drawn RX12 14) (hd : G12_drawn_dep ≤ dR) (hr : meth.sig.returnType = (some .int))  {p1 : Int64} {p4 : Int32} {Q : Int32 → MM → Prop} {K96 : Int64 × Int32 × MM → Prop} {x : Int64 × Int32 × MM}   (hK96 : ∀ (z5 : Int64) (z7 : Int32) (zμ : MM), K96 (z5, z7, zμ) → WX p l e (rmX dR) s m args below meth c φ tc D 14 (MQ below (QX φ tc D (QI Q)) args s 0 0 (AX φ)) 96 [(0, .ref 358), (1, .long p1), (4, .int p4), (5, .long z5), (7, .int z7)] [] zμ) (h : G12_drawn_L96 p1 p4 Q K96 x) : WX p l e (rmX dR) s m args below meth c φ tc D 14 (MQ below (QX φ tc D (QI Q)) args s 0 0 (AX φ)) 96 [(0, .ref 358), (1, .long p1), (4, .int p4), (5, .long x.1), (7, .int x.2.1)] [] x.2.2 := by
  unfold G12_drawn_L96 at h
  refine x_iload C 4 rfl dX12_drawn_96 ?_
  refine x_aload_n C rfl 0 rfl dX12_drawn_98 ?_
  refine x_getI C (j := 3) ob358.1 ob358.2 (Nat.le_of_ble_eq_true rfl) (Nat.le_of_ble_eq_true rfl) (Or.inl rfl) tw_8_209 dX12_drawn_99 ?_
  refine x_icmp_ge (tgt := 160) C dX12_drawn_102 (by decide) (fun c33 => ?_) (fun c33 => ?_)
  · have h := h.1 c33
    refine x_iconst (v := 0) C (by decide) dX12_drawn_160 ?_
    refine x_istore C [(7, .int 0), (0, .ref 358), (1, .long p1), (4, .int p4), (5, .long x.1)] (Nat.le_of_ble_eq_true rfl) rfl dX12_drawn_161 ?_
    refine x_iconst (v := 0) C (by decide) dX12_drawn_163 ?_
    refine x_istore C [(8, .int 0), (7, .int 0), (0, .ref 358), (1, .long p1), (4, .int p4), (5, .long x.1)] (Nat.le_of_ble_eq_true rfl) rfl dX12_drawn_164 ?_
    refine x_iconst (v := 0) C (by decide) dX12_drawn_166 ?_
    refine x_istore C [(9, .int 0), (8, .int 0), (7, .int 0), (0, .ref 358), (1, .long p1), (4, .int p4), (5, .long x.1)] (Nat.le_of_ble_eq_true rfl) rfl dX12_drawn_167 ?_
    refine x_sub [(0, .ref 358), (1, .long p1), (4, .int p4), (5, .long x.1), (7, .int 0), (8, .int 0), (9, .int 0)] [3, 4, 5, 6, 2, 1, 0] rfl ?_
    exact G12_drawn_L169_ok C hd hr  h
  · have h := h.2 c33
    refine x_lload C 3 rfl dX12_drawn_105 ?_
    refine x_aload_n C rfl 0 rfl dX12_drawn_107 ?_
    refine x_getR (r := 385) C (j := 40) ob358.1 ob358.2 (Nat.le_of_ble_eq_true rfl) (Nat.le_of_ble_eq_true rfl) (fun _ _ _ => rfl) r_358_40 tw_9_6 dX12_drawn_108 ?_
    refine x_iload C 4 rfl dX12_drawn_111 ?_
    obtain ⟨c60, h⟩ := h
    refine x_iald C ob385.1 ob385.2 c60 rfl dX12_drawn_113 ?_
    refine x_if_le (tgt := 150) C dX12_drawn_114 (by decide) (fun c61 => ?_) (fun c61 => ?_)
    · have h := h.1 c61
      refine x_sub [(0, .ref 358), (1, .long p1), (4, .int p4), (7, .int x.2.1)] [0, 1, 2, 4] rfl ?_
      exact G12_drawn_J150_ok C hd hr hK96 h
    · have h := h.2 c61
      refine x_aload_n C rfl 0 rfl dX12_drawn_117 ?_
      refine x_getR (r := 360) C (j := 4) ob358.1 ob358.2 (Nat.le_of_ble_eq_true rfl) (Nat.le_of_ble_eq_true rfl) (fun _ _ _ => rfl) r_358_4 tw_8_210 dX12_drawn_118 ?_
      refine x_iload C 4 rfl dX12_drawn_121 ?_
      obtain ⟨c63, h⟩ := h
      refine x_iald C ob360.1 ob360.2 c63 rfl dX12_drawn_123 ?_
      refine x_iconst (v := 1) C (by decide) dX12_drawn_124 ?_
      refine x_icmp_ne (tgt := 150) C dX12_drawn_125 (by decide) (fun c64 => ?_) (fun c64 => ?_)
      · have h := h.1 c64
        refine x_sub [(0, .ref 358), (1, .long p1), (4, .int p4), (7, .int x.2.1)] [0, 1, 2, 4] rfl ?_
        exact G12_drawn_J150_ok C hd hr hK96 h
      · have h := h.2 c64
        refine x_lload_n C rfl 1 rfl dX12_drawn_128 ?_
        refine x_aload_n C rfl 0 rfl dX12_drawn_129 ?_
        refine x_getR (r := 385) C (j := 40) ob358.1 ob358.2 (Nat.le_of_ble_eq_true rfl) (Nat.le_of_ble_eq_true rfl) (fun _ _ _ => rfl) r_358_40 tw_9_6 dX12_drawn_130 ?_
        refine x_iload C 4 rfl dX12_drawn_133 ?_
        obtain ⟨c65, h⟩ := h
        refine x_iald C ob385.1 ob385.2 c65 rfl dX12_drawn_135 ?_
        refine x_i2l C dX12_drawn_136 ?_
        obtain ⟨c66, h⟩ := h
        refine x_ldiv C c66 dX12_drawn_137 ?_
        refine x_aload_n C rfl 0 rfl dX12_drawn_138 ?_
        refine x_getR (r := 386) C (j := 41) ob358.1 ob358.2 (Nat.le_of_ble_eq_true rfl) (Nat.le_of_ble_eq_true rfl) (fun _ _ _ => rfl) r_358_41 tw_9_7 dX12_drawn_139 ?_
        refine x_iload C 4 rfl dX12_drawn_142 ?_
        obtain ⟨c67, h⟩ := h
        refine x_iald C ob386.1 ob386.2 c67 rfl dX12_drawn_144 ?_
        refine x_i2l C dX12_drawn_145 ?_
        refine x_lmul C dX12_drawn_146 ?_
        refine x_goto (tgt := 151) C dX12_drawn_147 (by decide) ?_
        refine x_ladd C dX12_drawn_151 ?_
        refine x_topl (fun y68 e_y68 => ?_)
        have h := h y68 e_y68
        refine x_lstore C [(5, .long y68), (0, .ref 358), (1, .long p1), (4, .int p4), (7, .int x.2.1)] (Nat.le_of_ble_eq_true rfl) rfl dX12_drawn_152 ?_
        refine x_iinc (v := (x.2.1 + 1)) C [(7, .int (x.2.1 + 1)), (5, .long y68), (0, .ref 358), (1, .long p1), (4, .int p4)] 4 rfl (congrArg (fun z => x.2.1 + z) (by decide : Int32.ofInt (1) = 1)) (Nat.le_of_ble_eq_true rfl) rfl dX12_drawn_154 ?_
        refine x_goto (tgt := 96) C dX12_drawn_157 (by decide) ?_
        refine x_sub [(0, .ref 358), (1, .long p1), (4, .int p4), (5, .long y68), (7, .int (x.2.1 + 1))] [2, 3, 4, 1, 0] rfl ?_
        exact hK96 _ _ _ h
theorem G12_drawn_L96_ok {p : Program} {e : Env} {s : State} {m : MethodId} {args : Array Value} {below : List Frame} {meth : Method} {c : Code} {l : Launch} {φ : Nat → Nat} {tc : Nat → ClassId} {D : va_G} {s0 : State} {dR : Nat} (C : CX p s m args meth c φ tc D s0 cX12_drawn RX12 14) (hd : G12_drawn_dep ≤ dR) (hr : meth.sig.returnType = (some .int))  {p1 : Int64} {p4 : Int32} {Q : Int32 → MM → Prop}  {x : Int64 × Int32 × MM}    (h : Lp (G12_drawn_L96 p1 p4 Q) x) : WX p l e (rmX dR) s m args below meth c φ tc D 14 (MQ below (QX φ tc D (QI Q)) args s 0 0 (AX φ)) 96 [(0, .ref 358), (1, .long p1), (4, .int p4), (5, .long x.1), (7, .int x.2.1)] [] x.2.2 := by
  obtain ⟨n, h⟩ := h
  induction n generalizing x with
  | zero => exact h.elim
  | succ n ih => exact G12_drawn_L96_b C hd hr   (fun z5 z7 zμ hz => by have q := ih hz; exact q) h
set_option maxHeartbeats 4000000 in
set_option maxRecDepth 100000 in
theorem G12_drawn_L19_b {p : Program} {e : Env} {s : State} {m : MethodId} {args : Array Value} {below : List Frame} {meth : Method} {c : Code} {l : Launch} {φ : Nat → Nat} {tc : Nat → ClassId} {D : va_G} {s0 : State} {dR : Nat} (C : CX p s m args meth c φ tc D s0 cX12_drawn RX12 14) (hd : G12_drawn_dep ≤ dR) (hr : meth.sig.returnType = (some .int))   {Q : Int32 → MM → Prop} {K19 : Int64 × Int32 × Int32 × Int32 × MM → Prop} {x : Int64 × Int32 × Int32 × Int32 × MM}   (hK19 : ∀ (z1 : Int64) (z3 : Int32) (z4 : Int32) (z5 : Int32) (zμ : MM), K19 (z1, z3, z4, z5, zμ) → WX p l e (rmX dR) s m args below meth c φ tc D 14 (MQ below (QX φ tc D (QI Q)) args s 0 0 (AX φ)) 19 [(0, .ref 358), (1, .long z1), (3, .int z3), (4, .int z4), (5, .int z5)] [] zμ) (h : G12_drawn_L19  Q K19 x) : WX p l e (rmX dR) s m args below meth c φ tc D 14 (MQ below (QX φ tc D (QI Q)) args s 0 0 (AX φ)) 19 [(0, .ref 358), (1, .long x.1), (3, .int x.2.1), (4, .int x.2.2.1), (5, .int x.2.2.2.1)] [] x.2.2.2.2 := by
  unfold G12_drawn_L19 at h
  refine x_iload C 4 rfl dX12_drawn_19 ?_
  refine x_aload_n C rfl 0 rfl dX12_drawn_21 ?_
  refine x_getI C (j := 3) ob358.1 ob358.2 (Nat.le_of_ble_eq_true rfl) (Nat.le_of_ble_eq_true rfl) (Or.inl rfl) tw_8_209 dX12_drawn_22 ?_
  refine x_icmp_ge (tgt := 83) C dX12_drawn_25 (by decide) (fun c31 => ?_) (fun c31 => ?_)
  · have h := h.1 c31
    refine x_iload_n C rfl 2 rfl dX12_drawn_83 ?_
    refine x_if_ne (tgt := 90) C dX12_drawn_84 (by decide) (fun c32 => ?_) (fun c32 => ?_)
    · have h := h.1 c32
      refine x_lconst (v := 0) C (by decide) dX12_drawn_90 ?_
      refine x_lstore C [(5, .long 0), (0, .ref 358), (1, .long x.1), (3, .int x.2.1), (4, .int x.2.2.1)] (Nat.le_of_ble_eq_true rfl) rfl dX12_drawn_91 ?_
      refine x_iconst (v := 0) C (by decide) dX12_drawn_93 ?_
      refine x_istore C [(7, .int 0), (5, .long 0), (0, .ref 358), (1, .long x.1), (3, .int x.2.1), (4, .int x.2.2.1)] (Nat.le_of_ble_eq_true rfl) rfl dX12_drawn_94 ?_
      refine x_sub [(0, .ref 358), (1, .long x.1), (4, .int x.2.2.1), (5, .long 0), (7, .int 0)] [2, 3, 5, 1, 0] rfl ?_
      exact G12_drawn_L96_ok C hd hr  h
    · have h := h.2 c32
      refine x_bipush (v := (-2)) C (by decide) dX12_drawn_87 ?_
      exact x_iret C hr dX12_drawn_89 ⟨_, rfl, h⟩
  · have h := h.2 c31
    refine x_aload_n C rfl 0 rfl dX12_drawn_28 ?_
    refine x_getR (r := 385) C (j := 40) ob358.1 ob358.2 (Nat.le_of_ble_eq_true rfl) (Nat.le_of_ble_eq_true rfl) (fun _ _ _ => rfl) r_358_40 tw_9_6 dX12_drawn_29 ?_
    refine x_iload C 4 rfl dX12_drawn_32 ?_
    obtain ⟨c69, h⟩ := h
    refine x_iald C ob385.1 ob385.2 c69 rfl dX12_drawn_34 ?_
    refine x_if_le (tgt := 77) C dX12_drawn_35 (by decide) (fun c70 => ?_) (fun c70 => ?_)
    · have h := h.1 c70
      refine x_iinc (v := (x.2.2.2.1 + 1)) C [(5, .int (x.2.2.2.1 + 1)), (0, .ref 358), (1, .long x.1), (3, .int x.2.1), (4, .int x.2.2.1)] 4 rfl (congrArg (fun z => x.2.2.2.1 + z) (by decide : Int32.ofInt (1) = 1)) (Nat.le_of_ble_eq_true rfl) rfl dX12_drawn_77 ?_
      refine x_goto (tgt := 19) C dX12_drawn_80 (by decide) ?_
      refine x_sub [(0, .ref 358), (1, .long x.1), (3, .int x.2.1), (4, .int x.2.2.1), (5, .int (x.2.2.2.1 + 1))] [1, 2, 3, 4, 0] rfl ?_
      exact hK19 _ _ _ _ _ h
    · have h := h.2 c70
      refine x_lload_n C rfl 1 rfl dX12_drawn_38 ?_
      refine x_lload_n C rfl 1 rfl dX12_drawn_39 ?_
      refine x_aload_n C rfl 0 rfl dX12_drawn_40 ?_
      refine x_getR (r := 385) C (j := 40) ob358.1 ob358.2 (Nat.le_of_ble_eq_true rfl) (Nat.le_of_ble_eq_true rfl) (fun _ _ _ => rfl) r_358_40 tw_9_6 dX12_drawn_41 ?_
      refine x_iload C 4 rfl dX12_drawn_44 ?_
      obtain ⟨c71, h⟩ := h
      refine x_iald C ob385.1 ob385.2 c71 rfl dX12_drawn_46 ?_
      refine x_i2l C dX12_drawn_47 ?_
      refine x_callS (dC := G12_common_dep) (as := [.long x.1, .long ((gI x.2.2.2.2 385 x.2.2.2.1.toNatClampNeg).toInt64)]) (st := [.long x.1]) C rfl (Nat.le_trans (Nat.le_of_ble_eq_true rfl) hd) (Nat.le_of_ble_eq_true rfl) tw_7_157 tw_7_156 tc_7_158 tw_1_13 hyX12 hnX12_common rfl (Nat.le_of_ble_eq_true rfl) dX12_drawn_48 (G12_common_met C.2.2.2.2.2.2.2.1 (Nat.le_refl _)  h) (fun r0 μ72 hq => ?_)
      obtain ⟨r73, rfl, h⟩ := hq
      refine x_st [.long r73, .long x.1] rfl ?_
      obtain ⟨c74, h⟩ := h
      refine x_ldiv C c74 dX12_drawn_51 ?_
      refine x_aload_n C rfl 0 rfl dX12_drawn_52 ?_
      refine x_getR (r := 385) C (j := 40) ob358.1 ob358.2 (Nat.le_of_ble_eq_true rfl) (Nat.le_of_ble_eq_true rfl) (fun _ _ _ => rfl) r_358_40 tw_9_6 dX12_drawn_53 ?_
      refine x_iload C 4 rfl dX12_drawn_56 ?_
      obtain ⟨c75, h⟩ := h
      refine x_iald C ob385.1 ob385.2 c75 rfl dX12_drawn_58 ?_
      refine x_i2l C dX12_drawn_59 ?_
      refine x_lmul C dX12_drawn_60 ?_
      refine x_topl (fun y76 e_y76 => ?_)
      have h := h y76 e_y76
      refine x_lstore_n C [(1, .long y76), (0, .ref 358), (3, .int x.2.1), (4, .int x.2.2.1), (5, .int x.2.2.2.1)] rfl (Nat.le_of_ble_eq_true rfl) rfl dX12_drawn_61 ?_
      refine x_iinc (v := (x.2.1 + 1)) C [(3, .int (x.2.1 + 1)), (1, .long y76), (0, .ref 358), (4, .int x.2.2.1), (5, .int x.2.2.2.1)] 2 rfl (congrArg (fun z => x.2.1 + z) (by decide : Int32.ofInt (1) = 1)) (Nat.le_of_ble_eq_true rfl) rfl dX12_drawn_62 ?_
      refine x_iload C 3 rfl dX12_drawn_65 ?_
      refine x_aload_n C rfl 2 rfl dX12_drawn_67 ?_
      refine x_getR (r := 360) C (j := 4) ob358.1 ob358.2 (Nat.le_of_ble_eq_true rfl) (Nat.le_of_ble_eq_true rfl) (fun _ _ _ => rfl) r_358_4 tw_8_210 dX12_drawn_68 ?_
      refine x_iload C 4 rfl dX12_drawn_71 ?_
      obtain ⟨c77, h⟩ := h
      refine x_iald C ob360.1 ob360.2 c77 rfl dX12_drawn_73 ?_
      refine x_iadd C dX12_drawn_74 ?_
      refine x_topi (fun y78 e_y78 => ?_)
      have h := h y78 e_y78
      refine x_istore C [(4, .int y78), (3, .int (x.2.1 + 1)), (1, .long y76), (0, .ref 358), (5, .int x.2.2.2.1)] (Nat.le_of_ble_eq_true rfl) rfl dX12_drawn_75 ?_
      refine x_iinc (v := (x.2.2.2.1 + 1)) C [(5, .int (x.2.2.2.1 + 1)), (4, .int y78), (3, .int (x.2.1 + 1)), (1, .long y76), (0, .ref 358)] 4 rfl (congrArg (fun z => x.2.2.2.1 + z) (by decide : Int32.ofInt (1) = 1)) (Nat.le_of_ble_eq_true rfl) rfl dX12_drawn_77 ?_
      refine x_goto (tgt := 19) C dX12_drawn_80 (by decide) ?_
      refine x_sub [(0, .ref 358), (1, .long y76), (3, .int (x.2.1 + 1)), (4, .int y78), (5, .int (x.2.2.2.1 + 1))] [4, 3, 2, 1, 0] rfl ?_
      exact hK19 _ _ _ _ _ h
theorem G12_drawn_L19_ok {p : Program} {e : Env} {s : State} {m : MethodId} {args : Array Value} {below : List Frame} {meth : Method} {c : Code} {l : Launch} {φ : Nat → Nat} {tc : Nat → ClassId} {D : va_G} {s0 : State} {dR : Nat} (C : CX p s m args meth c φ tc D s0 cX12_drawn RX12 14) (hd : G12_drawn_dep ≤ dR) (hr : meth.sig.returnType = (some .int))   {Q : Int32 → MM → Prop}  {x : Int64 × Int32 × Int32 × Int32 × MM}    (h : Lp (G12_drawn_L19  Q) x) : WX p l e (rmX dR) s m args below meth c φ tc D 14 (MQ below (QX φ tc D (QI Q)) args s 0 0 (AX φ)) 19 [(0, .ref 358), (1, .long x.1), (3, .int x.2.1), (4, .int x.2.2.1), (5, .int x.2.2.2.1)] [] x.2.2.2.2 := by
  obtain ⟨n, h⟩ := h
  induction n generalizing x with
  | zero => exact h.elim
  | succ n ih => exact G12_drawn_L19_b C hd hr   (fun z1 z3 z4 z5 zμ hz => by have q := ih hz; exact q) h
set_option maxHeartbeats 4000000 in
set_option maxRecDepth 100000 in
theorem G12_drawn_met {l : Launch} {φ : Nat → Nat} {tc : Nat → ClassId} {D : va_G} {s0 : State} (hG : GX φ tc D s0) {dR : Nat} (hd : G12_drawn_dep ≤ dR)  {μ : MM} {Q : Int32 → MM → Prop}  (h : G12_drawn  μ Q) : MX l φ tc D s0 dR yX12_drawn cX12_drawn 14 (some .int) [.ref 358] μ (QI Q) := by
  refine MX.of (own := RX12) hG plX12 rfl (Nat.le_of_ble_eq_true rfl) (fun p e s m args below meth c C hr => ?_)
  refine x_sub [(0, .ref 358)] [0] rfl ?_
  unfold G12_drawn at h
  refine x_aload_n C rfl 0 rfl dX12_drawn_0 ?_
  refine x_iconst (v := 0) C (by decide) dX12_drawn_1 ?_
  refine x_putI C (j := 0) ob358.1 ob358.2 (Nat.le_of_ble_eq_true rfl) (Nat.le_of_ble_eq_true rfl) (Or.inl rfl) rfl rfl rfl tw_8_206 dX12_drawn_2 ?_
  refine x_mu (fun μ29 e_μ29 => ?_)
  have h := h μ29 e_μ29
  refine x_aload_n C rfl 0 rfl dX12_drawn_5 ?_
  refine x_callV (dC := G12_countsNames_dep) (as := []) (st := []) C rfl (Nat.le_trans (Nat.le_of_ble_eq_true rfl) hd) (Nat.le_of_ble_eq_true rfl) ob358.1 ob358.2 (Nat.le_of_ble_eq_true rfl) rfl ts_10_4 tw_7_195 tw_7_193 tc_7_196 tw_1_13 hyX12 hnX12_countsNames rfl (Nat.le_of_ble_eq_true rfl) dX12_drawn_6 (G12_countsNames_met C.2.2.2.2.2.2.2.1 (Nat.le_refl _)  h) (fun r0 μ30 hq => ?_)
  obtain ⟨rfl, h⟩ := hq
  refine x_st [] rfl ?_
  refine x_lconst (v := 1) C (by decide) dX12_drawn_9 ?_
  refine x_lstore_n C [(1, .long 1), (0, .ref 358)] rfl (Nat.le_of_ble_eq_true rfl) rfl dX12_drawn_10 ?_
  refine x_iconst (v := 0) C (by decide) dX12_drawn_11 ?_
  refine x_istore_n C [(3, .int 0), (1, .long 1), (0, .ref 358)] rfl (Nat.le_of_ble_eq_true rfl) rfl dX12_drawn_12 ?_
  refine x_iconst (v := 0) C (by decide) dX12_drawn_13 ?_
  refine x_istore C [(4, .int 0), (3, .int 0), (1, .long 1), (0, .ref 358)] (Nat.le_of_ble_eq_true rfl) rfl dX12_drawn_14 ?_
  refine x_iconst (v := 0) C (by decide) dX12_drawn_16 ?_
  refine x_istore C [(5, .int 0), (4, .int 0), (3, .int 0), (1, .long 1), (0, .ref 358)] (Nat.le_of_ble_eq_true rfl) rfl dX12_drawn_17 ?_
  refine x_sub [(0, .ref 358), (1, .long 1), (3, .int 0), (4, .int 0), (5, .int 0)] [4, 3, 2, 1, 0] rfl ?_
  exact G12_drawn_L19_ok C hd hr  h
