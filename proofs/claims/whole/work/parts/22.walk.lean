set_option maxHeartbeats 4000000 in
set_option maxRecDepth 100000 in
theorem G9_note_met {l : Launch} {φ : Nat → Nat} {tc : Nat → ClassId} {D : va_G} {s0 : State} (hG : GX φ tc D s0) {dR : Nat} (hd : G9_note_dep ≤ dR) {t : Nat} {v1 : Int32} {v2 : Int32} {μ : MM} {Q : MM → Prop} (o_t : Ob t 9) (h : G9_note t v1 v2 μ Q) : MX l φ tc D s0 dR yX9_note cX9_note 3 none [.ref t, .int v1, .int v2] μ (QV Q) := by
  refine MX.of (own := RX9) hG plX9 rfl (Nat.le_of_ble_eq_true rfl) (fun p e s m args below meth c C hr => ?_)
  refine x_sub [(0, .ref t), (1, .int v1), (2, .int v2)] [0, 1, 2] rfl ?_
  unfold G9_note at h
  refine x_aload_n C rfl 0 rfl dX9_note_0 ?_
  refine x_getR (r := (t + 1)) C (j := 0) o_t.1 o_t.2 (Nat.le_of_ble_eq_true rfl) (Nat.le_of_ble_eq_true rfl) (fun _ _ _ => rfl) (rF9_0 o_t) tw_1_232 dX9_note_1 ?_
  refine x_iload_n C rfl 1 rfl dX9_note_4 ?_
  refine x_dup2_11 C rfl rfl dX9_note_5 ?_
  obtain ⟨c9, h⟩ := h
  refine x_iald C (obF9_0 o_t).1 (obF9_0 o_t).2 (by rw [lnF9_0 o_t]; exact c9) rfl dX9_note_6 ?_
  refine x_iconst (v := 1) C (by decide) dX9_note_7 ?_
  refine x_iadd C dX9_note_8 ?_
  obtain ⟨c10, h⟩ := h
  refine x_iast C (obF9_0 o_t).1 (obF9_0 o_t).2 (by rw [lnF9_0 o_t]; exact c10) rfl dX9_note_9 ?_
  refine x_mu (fun μ11 e_μ11 => ?_)
  have h := h μ11 e_μ11
  refine x_aload_n C rfl 0 rfl dX9_note_10 ?_
  refine x_getR (r := (t + 2)) C (j := 1) o_t.1 o_t.2 (Nat.le_of_ble_eq_true rfl) (Nat.le_of_ble_eq_true rfl) (fun _ _ _ => rfl) (rF9_1 o_t) tw_1_235 dX9_note_11 ?_
  refine x_iload_n C rfl 1 rfl dX9_note_14 ?_
  refine x_dup2_11 C rfl rfl dX9_note_15 ?_
  obtain ⟨c12, h⟩ := h
  refine x_iald C (obF9_1 o_t).1 (obF9_1 o_t).2 (by rw [lnF9_1 o_t]; exact c12) rfl dX9_note_16 ?_
  refine x_iload_n C rfl 2 rfl dX9_note_17 ?_
  refine x_if_eq (tgt := 25) C dX9_note_18 (by decide) (fun c13 => ?_) (fun c13 => ?_)
  · have h := h.1 c13
    refine x_iconst (v := 0) C (by decide) dX9_note_25 ?_
    refine x_iadd C dX9_note_26 ?_
    obtain ⟨c14, h⟩ := h
    refine x_iast C (obF9_1 o_t).1 (obF9_1 o_t).2 (by rw [lnF9_1 o_t]; exact c14) rfl dX9_note_27 ?_
    refine x_mu (fun μ15 e_μ15 => ?_)
    have h := h μ15 e_μ15
    exact x_vret C hr dX9_note_28 ⟨rfl, h⟩
  · have h := h.2 c13
    refine x_iconst (v := 1) C (by decide) dX9_note_21 ?_
    refine x_goto (tgt := 26) C dX9_note_22 (by decide) ?_
    refine x_iadd C dX9_note_26 ?_
    obtain ⟨c16, h⟩ := h
    refine x_iast C (obF9_1 o_t).1 (obF9_1 o_t).2 (by rw [lnF9_1 o_t]; exact c16) rfl dX9_note_27 ?_
    refine x_mu (fun μ17 e_μ17 => ?_)
    have h := h μ17 e_μ17
    exact x_vret C hr dX9_note_28 ⟨rfl, h⟩
set_option maxHeartbeats 4000000 in
set_option maxRecDepth 100000 in
theorem G10_passes_met {l : Launch} {φ : Nat → Nat} {tc : Nat → ClassId} {D : va_G} {s0 : State} (hG : GX φ tc D s0) {dR : Nat} (hd : G10_passes_dep ≤ dR) {a1 : Nat} {v2 : Int32} {μ : MM} {Q : Int32 → MM → Prop} (o_a1 : Ob a1 5) (h : G10_passes a1 v2 μ Q) : MX l φ tc D s0 dR yX10_passes cX10_passes 3 (some .boolean) [.ref 1, .ref a1, .int v2] μ (QI Q) := by
  refine MX.of (own := RX10) hG plX10 rfl (Nat.le_of_ble_eq_true rfl) (fun p e s m args below meth c C hr => ?_)
  refine x_sub [(0, .ref 1), (1, .ref a1), (2, .int v2)] [0, 1, 2] rfl ?_
  unfold G10_passes at h
  refine x_iload_n C rfl 2 rfl dX10_passes_0 ?_
  refine x_iconst (v := (-1)) C (by decide) dX10_passes_1 ?_
  refine x_icmp_ne (tgt := 7) C dX10_passes_2 (by decide) (fun c5 => ?_) (fun c5 => ?_)
  · have h := h.1 c5
    refine x_aload_n C rfl 0 rfl dX10_passes_7 ?_
    refine x_aload_n C rfl 1 rfl dX10_passes_8 ?_
    refine x_callV (dC := G10_lookAt_dep) (as := [.ref a1]) (st := []) C rX kX (Nat.le_trans (Nat.le_of_ble_eq_true rfl) hd) (Nat.le_of_ble_eq_true rfl) ob1.1 ob1.2 (Nat.le_of_ble_eq_true rfl) rfl ts_2_9 tw_3_201 tw_3_199 tc_3_202 tw_1_2 hyX10 hnX10_lookAt rfl (Nat.le_of_ble_eq_true rfl) dX10_passes_9 (G10_lookAt_met C.2.2.2.2.2.2.2.1 (Nat.le_refl _) o_a1 h) (fun r0 μ6 hq => ?_)
    obtain ⟨rfl, h⟩ := hq
    refine x_st [] rfl ?_
    refine x_aload_n C rfl 0 rfl dX10_passes_12 ?_
    refine x_getR (r := 11) C (j := 12) ob1.1 ob1.2 (Nat.le_of_ble_eq_true rfl) (Nat.le_of_ble_eq_true rfl) (fun _ _ _ => rfl) r_1_12 tw_1_158 dX10_passes_13 ?_
    refine x_iload_n C rfl 2 rfl dX10_passes_16 ?_
    obtain ⟨c7, h⟩ := h
    refine x_aald (r := (118 + 6 * v2.toNatClampNeg)) C ob11.1 (by decide) (by decide) c7 rfl (rA11 c7) dX10_passes_17 ?_
    refine x_aload_n C rfl 0 rfl dX10_passes_18 ?_
    refine x_getR (r := 12) C (j := 13) ob1.1 ob1.2 (Nat.le_of_ble_eq_true rfl) (Nat.le_of_ble_eq_true rfl) (fun _ _ _ => rfl) r_1_13 tw_1_160 dX10_passes_19 ?_
    refine x_callVN (dC := G3_result_dep) (as := [.ref 12]) (st := []) C rX kX (Nat.le_trans (Nat.le_of_ble_eq_true rfl) hd) (Nat.le_of_ble_eq_true rfl) (obA11 c7).1 (obA11 c7).2 (Nat.le_of_ble_eq_true rfl) rfl ts_2_11 tw_3_209 tw_3_207 tc_3_210 tw_1_4 hyX3 hnX3_result rfl (Nat.le_of_ble_eq_true rfl) dX10_passes_22 (G3_result_met C.2.2.2.2.2.2.2.1 (Nat.le_refl _) (obA11 c7) ob12 h) (fun r0 μ8 hq => ?_)
    obtain ⟨r9, rfl, h⟩ := hq
    refine x_st [.int r9] rfl ?_
    refine x_if_eq (tgt := 32) C dX10_passes_25 (by decide) (fun c10 => ?_) (fun c10 => ?_)
    · have h := h.1 c10
      refine x_iconst (v := 0) C (by decide) dX10_passes_32 ?_
      exact x_zret C hr bo_0 dX10_passes_33 ⟨_, rfl, h⟩
    · have h := h.2 c10
      refine x_iconst (v := 1) C (by decide) dX10_passes_28 ?_
      refine x_goto (tgt := 33) C dX10_passes_29 (by decide) ?_
      exact x_zret C hr bo_1 dX10_passes_33 ⟨_, rfl, h⟩
  · have h := h.2 c5
    refine x_iconst (v := 1) C (by decide) dX10_passes_5 ?_
    exact x_zret C hr bo_1 dX10_passes_6 ⟨_, rfl, h⟩
set_option maxHeartbeats 4000000 in
set_option maxRecDepth 100000 in
theorem G10_peopleOf_met {l : Launch} {φ : Nat → Nat} {tc : Nat → ClassId} {D : va_G} {s0 : State} (hG : GX φ tc D s0) {dR : Nat} (hd : G10_peopleOf_dep ≤ dR) {a1 : Nat} {μ : MM} {Q : Int32 → MM → Prop} (o_a1 : Ob a1 5) (h : G10_peopleOf a1 μ Q) : MX l φ tc D s0 dR yX10_peopleOf cX10_peopleOf 2 (some .int) [.ref 1, .ref a1] μ (QI Q) := by
  refine MX.of (own := RX10) hG plX10 rfl (Nat.le_of_ble_eq_true rfl) (fun p e s m args below meth c C hr => ?_)
  refine x_sub [(0, .ref 1), (1, .ref a1)] [0, 1] rfl ?_
  unfold G10_peopleOf at h
  refine x_aload_n C rfl 0 rfl dX10_peopleOf_0 ?_
  refine x_getR (r := 2) C (j := 0) ob1.1 ob1.2 (Nat.le_of_ble_eq_true rfl) (Nat.le_of_ble_eq_true rfl) (fun _ _ _ => rfl) r_1_0 tw_1_122 dX10_peopleOf_1 ?_
  refine x_aload_n C rfl 1 rfl dX10_peopleOf_4 ?_
  refine x_getIN C (j := 1) o_a1.1 o_a1.2 (Nat.le_of_ble_eq_true rfl) (Nat.le_of_ble_eq_true rfl) (Or.inl rfl) tw_1_56 dX10_peopleOf_5 ?_
  obtain ⟨c2, h⟩ := h
  refine x_iald C ob2.1 ob2.2 c2 rfl dX10_peopleOf_8 ?_
  exact x_iret C hr dX10_peopleOf_9 ⟨_, rfl, h⟩
set_option maxHeartbeats 4000000 in
set_option maxRecDepth 100000 in
theorem G8_gather_J58_ok {p : Program} {e : Env} {s : State} {m : MethodId} {args : Array Value} {below : List Frame} {meth : Method} {c : Code} {l : Launch} {φ : Nat → Nat} {tc : Nat → ClassId} {D : va_G} {s0 : State} {dR : Nat} (C : CX p s m args meth c φ tc D (AX φ) s0 cX8_gather RX8 7) (hd : G8_gather_dep ≤ dR) (hr : meth.sig.returnType = none)  {a1 : Nat} {p2 : Int32} {p3 : Int32} {p4 : Int32} {p5 : Nat} {q0 : Int32} {Q : MM → Prop} {K7 : Int32 × MM → Prop} {μ : MM} (o_a1 : Ob a1 9) (o_p5 : Ob p5 5) (hK7 : ∀ (z4 : Int32) (zμ : MM), K7 (z4, zμ) → WX p l e (rmX dR) s m args below meth c φ tc D (AX φ) 7 0 0 (MQ below (QX φ tc D (QV Q)) args s 0 0 (AX φ)) 7 [(0, .ref 153), (1, .ref a1), (2, .int p2), (3, .int p3), (4, .int z4)] [] zμ) (h : G8_gather_J58 a1 p2 p3 p4 p5 q0 μ K7 Q) : WX p l e (rmX dR) s m args below meth c φ tc D (AX φ) 7 0 0 (MQ below (QX φ tc D (QV Q)) args s 0 0 (AX φ)) 58 [(0, .ref 153), (1, .ref a1), (2, .int p2), (3, .int p3), (4, .int p4), (5, .ref p5)] [.int q0] μ := by
  unfold G8_gather_J58 at h
  refine x_istore C [(6, .int q0), (0, .ref 153), (1, .ref a1), (2, .int p2), (3, .int p3), (4, .int p4), (5, .ref p5)] (Nat.le_of_ble_eq_true rfl) rfl dX8_gather_58 ?_
  refine x_iload C 0 rfl dX8_gather_60 ?_
  refine x_if_eq (tgt := 96) C dX8_gather_62 (by decide) (fun c12 => ?_) (fun c12 => ?_)
  · have h := h.1 c12
    refine x_iinc (v := (p4 + 1)) C [(4, .int (p4 + 1)), (6, .int q0), (0, .ref 153), (1, .ref a1), (2, .int p2), (3, .int p3), (5, .ref p5)] 5 rfl (congrArg (fun z => p4 + z) (by decide : Int32.ofInt (1) = 1)) (Nat.le_of_ble_eq_true rfl) rfl dX8_gather_96 ?_
    refine x_goto (tgt := 7) C dX8_gather_99 (by decide) ?_
    refine x_sub [(0, .ref 153), (1, .ref a1), (2, .int p2), (3, .int p3), (4, .int (p4 + 1))] [2, 3, 4, 5, 0] rfl ?_
    exact hK7 _ _ h
  · have h := h.2 c12
    refine x_aload_n C rfl 1 rfl dX8_gather_65 ?_
    refine x_getR (r := 1) C (j := 0) ob153.1 ob153.2 (Nat.le_of_ble_eq_true rfl) (Nat.le_of_ble_eq_true rfl) (fun _ _ _ => rfl) r_153_0 tw_2_3 dX8_gather_66 ?_
    refine x_aload C 6 rfl dX8_gather_69 ?_
    refine x_iload_n C rfl 3 rfl dX8_gather_71 ?_
    refine x_callVN (dC := G10_passes_dep) (as := [.ref p5, .int p2]) (st := []) C rX kX (Nat.le_trans (Nat.le_of_ble_eq_true rfl) hd) (Nat.le_of_ble_eq_true rfl) ob1.1 ob1.2 (Nat.le_of_ble_eq_true rfl) rfl ts_3_5 tw_4_36 tw_4_34 tc_4_37 tw_1_2 hyX10 hnX10_passes rfl (Nat.le_of_ble_eq_true rfl) dX8_gather_72 (G10_passes_met C.2.2.2.2.2.2.2.1 (Nat.le_refl _) o_p5 h) (fun r0 μ13 hq => ?_)
    obtain ⟨r14, rfl, h⟩ := hq
    refine x_st [.int r14] rfl ?_
    refine x_if_eq (tgt := 96) C dX8_gather_75 (by decide) (fun c15 => ?_) (fun c15 => ?_)
    · have h := h.1 c15
      refine x_iinc (v := (p4 + 1)) C [(4, .int (p4 + 1)), (6, .int q0), (0, .ref 153), (1, .ref a1), (2, .int p2), (3, .int p3), (5, .ref p5)] 5 rfl (congrArg (fun z => p4 + z) (by decide : Int32.ofInt (1) = 1)) (Nat.le_of_ble_eq_true rfl) rfl dX8_gather_96 ?_
      refine x_goto (tgt := 7) C dX8_gather_99 (by decide) ?_
      refine x_sub [(0, .ref 153), (1, .ref a1), (2, .int p2), (3, .int p3), (4, .int (p4 + 1))] [2, 3, 4, 5, 0] rfl ?_
      exact hK7 _ _ h
    · have h := h.2 c15
      refine x_aload_n C rfl 2 rfl dX8_gather_78 ?_
      refine x_aload_n C rfl 1 rfl dX8_gather_79 ?_
      refine x_getR (r := 1) C (j := 0) ob153.1 ob153.2 (Nat.le_of_ble_eq_true rfl) (Nat.le_of_ble_eq_true rfl) (fun _ _ _ => rfl) r_153_0 tw_2_3 dX8_gather_80 ?_
      refine x_aload C 6 rfl dX8_gather_83 ?_
      refine x_callVN (dC := G10_peopleOf_dep) (as := [.ref p5]) (st := [.ref a1]) C rX kX (Nat.le_trans (Nat.le_of_ble_eq_true rfl) hd) (Nat.le_of_ble_eq_true rfl) ob1.1 ob1.2 (Nat.le_of_ble_eq_true rfl) rfl ts_3_6 tw_4_40 tw_4_38 tc_4_41 tw_1_2 hyX10 hnX10_peopleOf rfl (Nat.le_of_ble_eq_true rfl) dX8_gather_85 (G10_peopleOf_met C.2.2.2.2.2.2.2.1 (Nat.le_refl _) o_p5 h) (fun r0 μ16 hq => ?_)
      obtain ⟨r17, rfl, h⟩ := hq
      refine x_st [.int r17, .ref a1] rfl ?_
      refine x_aload C 6 rfl dX8_gather_88 ?_
      refine x_getIN C (j := 7) o_p5.1 o_p5.2 (Nat.le_of_ble_eq_true rfl) (Nat.le_of_ble_eq_true rfl) (Or.inr rfl) tw_1_76 dX8_gather_90 ?_
      refine x_callVN (dC := G9_note_dep) (as := [.int r17, .int (gI μ16 p5 7)]) (st := []) C rX kX (Nat.le_trans (Nat.le_of_ble_eq_true rfl) hd) (Nat.le_of_ble_eq_true rfl) o_a1.1 o_a1.2 (Nat.le_of_ble_eq_true rfl) rfl ts_3_7 tw_4_44 tw_4_42 tc_4_45 tw_1_7 hyX9 hnX9_note rfl (Nat.le_of_ble_eq_true rfl) dX8_gather_93 (G9_note_met C.2.2.2.2.2.2.2.1 (Nat.le_refl _) o_a1 h) (fun r0 μ18 hq => ?_)
      obtain ⟨rfl, h⟩ := hq
      refine x_st [] rfl ?_
      refine x_iinc (v := (p4 + 1)) C [(4, .int (p4 + 1)), (6, .int q0), (0, .ref 153), (1, .ref a1), (2, .int p2), (3, .int p3), (5, .ref p5)] 5 rfl (congrArg (fun z => p4 + z) (by decide : Int32.ofInt (1) = 1)) (Nat.le_of_ble_eq_true rfl) rfl dX8_gather_96 ?_
      refine x_goto (tgt := 7) C dX8_gather_99 (by decide) ?_
      refine x_sub [(0, .ref 153), (1, .ref a1), (2, .int p2), (3, .int p3), (4, .int (p4 + 1))] [2, 3, 4, 5, 0] rfl ?_
      exact hK7 _ _ h
set_option maxHeartbeats 4000000 in
set_option maxRecDepth 100000 in
theorem G8_gather_J57_ok {p : Program} {e : Env} {s : State} {m : MethodId} {args : Array Value} {below : List Frame} {meth : Method} {c : Code} {l : Launch} {φ : Nat → Nat} {tc : Nat → ClassId} {D : va_G} {s0 : State} {dR : Nat} (C : CX p s m args meth c φ tc D (AX φ) s0 cX8_gather RX8 7) (hd : G8_gather_dep ≤ dR) (hr : meth.sig.returnType = none)  {a1 : Nat} {p2 : Int32} {p3 : Int32} {p4 : Int32} {p5 : Nat} {Q : MM → Prop} {K7 : Int32 × MM → Prop} {μ : MM} (o_a1 : Ob a1 9) (o_p5 : Ob p5 5) (hK7 : ∀ (z4 : Int32) (zμ : MM), K7 (z4, zμ) → WX p l e (rmX dR) s m args below meth c φ tc D (AX φ) 7 0 0 (MQ below (QX φ tc D (QV Q)) args s 0 0 (AX φ)) 7 [(0, .ref 153), (1, .ref a1), (2, .int p2), (3, .int p3), (4, .int z4)] [] zμ) (h : G8_gather_J57 a1 p2 p3 p4 p5 μ K7 Q) : WX p l e (rmX dR) s m args below meth c φ tc D (AX φ) 7 0 0 (MQ below (QX φ tc D (QV Q)) args s 0 0 (AX φ)) 57 [(0, .ref 153), (1, .ref a1), (2, .int p2), (3, .int p3), (4, .int p4), (5, .ref p5)] [] μ := by
  unfold G8_gather_J57 at h
  refine x_iconst (v := 0) C (by decide) dX8_gather_57 ?_
  exact G8_gather_J58_ok C hd hr o_a1 o_p5 hK7 h
set_option maxHeartbeats 4000000 in
set_option maxRecDepth 100000 in
theorem G8_gather_J53_ok {p : Program} {e : Env} {s : State} {m : MethodId} {args : Array Value} {below : List Frame} {meth : Method} {c : Code} {l : Launch} {φ : Nat → Nat} {tc : Nat → ClassId} {D : va_G} {s0 : State} {dR : Nat} (C : CX p s m args meth c φ tc D (AX φ) s0 cX8_gather RX8 7) (hd : G8_gather_dep ≤ dR) (hr : meth.sig.returnType = none)  {a1 : Nat} {p2 : Int32} {p3 : Int32} {p4 : Int32} {p5 : Nat} {Q : MM → Prop} {K7 : Int32 × MM → Prop} {μ : MM} (o_a1 : Ob a1 9) (o_p5 : Ob p5 5) (hK7 : ∀ (z4 : Int32) (zμ : MM), K7 (z4, zμ) → WX p l e (rmX dR) s m args below meth c φ tc D (AX φ) 7 0 0 (MQ below (QX φ tc D (QV Q)) args s 0 0 (AX φ)) 7 [(0, .ref 153), (1, .ref a1), (2, .int p2), (3, .int p3), (4, .int z4)] [] zμ) (h : G8_gather_J53 a1 p2 p3 p4 p5 μ K7 Q) : WX p l e (rmX dR) s m args below meth c φ tc D (AX φ) 7 0 0 (MQ below (QX φ tc D (QV Q)) args s 0 0 (AX φ)) 53 [(0, .ref 153), (1, .ref a1), (2, .int p2), (3, .int p3), (4, .int p4), (5, .ref p5)] [] μ := by
  unfold G8_gather_J53 at h
  refine x_iconst (v := 1) C (by decide) dX8_gather_53 ?_
  refine x_goto (tgt := 58) C dX8_gather_54 (by decide) ?_
  exact G8_gather_J58_ok C hd hr o_a1 o_p5 hK7 h
set_option maxHeartbeats 4000000 in
set_option maxRecDepth 100000 in
theorem G8_gather_L7_b {p : Program} {e : Env} {s : State} {m : MethodId} {args : Array Value} {below : List Frame} {meth : Method} {c : Code} {l : Launch} {φ : Nat → Nat} {tc : Nat → ClassId} {D : va_G} {s0 : State} {dR : Nat} (C : CX p s m args meth c φ tc D (AX φ) s0 cX8_gather RX8 7) (hd : G8_gather_dep ≤ dR) (hr : meth.sig.returnType = none) {a1 : Nat} {p2 : Int32} {p3 : Int32} {Q : MM → Prop} {K7 : Int32 × MM → Prop} {x : Int32 × MM} (o_a1 : Ob a1 9)  (hK7 : ∀ (z4 : Int32) (zμ : MM), K7 (z4, zμ) → WX p l e (rmX dR) s m args below meth c φ tc D (AX φ) 7 0 0 (MQ below (QX φ tc D (QV Q)) args s 0 0 (AX φ)) 7 [(0, .ref 153), (1, .ref a1), (2, .int p2), (3, .int p3), (4, .int z4)] [] zμ) (h : G8_gather_L7 a1 p2 p3 Q K7 x) : WX p l e (rmX dR) s m args below meth c φ tc D (AX φ) 7 0 0 (MQ below (QX φ tc D (QV Q)) args s 0 0 (AX φ)) 7 [(0, .ref 153), (1, .ref a1), (2, .int p2), (3, .int p3), (4, .int x.1)] [] x.2 := by
  unfold G8_gather_L7 at h
  refine x_iload C 4 rfl dX8_gather_7 ?_
  refine x_aload_n C rfl 0 rfl dX8_gather_9 ?_
  refine x_getR (r := 1) C (j := 0) ob153.1 ob153.2 (Nat.le_of_ble_eq_true rfl) (Nat.le_of_ble_eq_true rfl) (fun _ _ _ => rfl) r_153_0 tw_2_3 dX8_gather_10 ?_
  refine x_getIN C (j := 10) ob1.1 ob1.2 (Nat.le_of_ble_eq_true rfl) (Nat.le_of_ble_eq_true rfl) (Or.inl rfl) tw_1_150 dX8_gather_13 ?_
  refine x_icmp_ge (tgt := 102) C dX8_gather_16 (by decide) (fun c9 => ?_) (fun c9 => ?_)
  · have h := h.1 c9
    exact x_vret C hr dX8_gather_102 ⟨rfl, h⟩
  · have h := h.2 c9
    refine x_aload_n C rfl 0 rfl dX8_gather_19 ?_
    refine x_getR (r := 1) C (j := 0) ob153.1 ob153.2 (Nat.le_of_ble_eq_true rfl) (Nat.le_of_ble_eq_true rfl) (fun _ _ _ => rfl) r_153_0 tw_2_3 dX8_gather_20 ?_
    refine x_getRN (r := 9) C (j := 9) ob1.1 ob1.2 (Nat.le_of_ble_eq_true rfl) (Nat.le_of_ble_eq_true rfl) (fun _ _ _ => rfl) r_1_9 tw_1_145 dX8_gather_23 ?_
    refine x_iload C 4 rfl dX8_gather_26 ?_
    obtain ⟨c10, h⟩ := h
    refine x_aald (r := (19 + x.1.toNatClampNeg)) C ob9.1 (by decide) (by decide) c10 rfl (rA9 c10) dX8_gather_28 ?_
    refine x_astore C [(5, .ref (19 + x.1.toNatClampNeg)), (0, .ref 153), (1, .ref a1), (2, .int p2), (3, .int p3), (4, .int x.1)] (Nat.le_of_ble_eq_true rfl) rfl dX8_gather_29 ?_
    refine x_aload C 0 rfl dX8_gather_31 ?_
    refine x_getIN C (j := 6) (obA9 c10).1 (obA9 c10).2 (Nat.le_of_ble_eq_true rfl) (Nat.le_of_ble_eq_true rfl) (Or.inr rfl) tw_1_69 dX8_gather_33 ?_
    refine x_if_eq (tgt := 57) C dX8_gather_36 (by decide) (fun c11 => ?_) (fun c11 => ?_)
    · have h := h.1 c11
      refine x_sub [(0, .ref 153), (1, .ref a1), (2, .int p2), (3, .int p3), (4, .int x.1), (5, .ref (19 + x.1.toNatClampNeg))] [1, 2, 3, 4, 5, 0] rfl ?_
      exact G8_gather_J57_ok C hd hr o_a1 (obA9 c10) hK7 h
    · have h := h.2 c11
      refine x_iload_n C rfl 4 rfl dX8_gather_39 ?_
      refine x_iconst (v := (-1)) C (by decide) dX8_gather_40 ?_
      refine x_icmp_eq (tgt := 53) C dX8_gather_41 (by decide) (fun c19 => ?_) (fun c19 => ?_)
      · have h := h.1 c19
        refine x_sub [(0, .ref 153), (1, .ref a1), (2, .int p2), (3, .int p3), (4, .int x.1), (5, .ref (19 + x.1.toNatClampNeg))] [1, 2, 3, 4, 5, 0] rfl ?_
        exact G8_gather_J53_ok C hd hr o_a1 (obA9 c10) hK7 h
      · have h := h.2 c19
        refine x_aload C 0 rfl dX8_gather_44 ?_
        refine x_getIN C (j := 0) (obA9 c10).1 (obA9 c10).2 (Nat.le_of_ble_eq_true rfl) (Nat.le_of_ble_eq_true rfl) (Or.inl rfl) tw_1_52 dX8_gather_46 ?_
        refine x_iload_n C rfl 4 rfl dX8_gather_49 ?_
        refine x_icmp_ne (tgt := 57) C dX8_gather_50 (by decide) (fun c20 => ?_) (fun c20 => ?_)
        · have h := h.1 c20
          refine x_sub [(0, .ref 153), (1, .ref a1), (2, .int p2), (3, .int p3), (4, .int x.1), (5, .ref (19 + x.1.toNatClampNeg))] [1, 2, 3, 4, 5, 0] rfl ?_
          exact G8_gather_J57_ok C hd hr o_a1 (obA9 c10) hK7 h
        · have h := h.2 c20
          refine x_sub [(0, .ref 153), (1, .ref a1), (2, .int p2), (3, .int p3), (4, .int x.1), (5, .ref (19 + x.1.toNatClampNeg))] [1, 2, 3, 4, 5, 0] rfl ?_
          exact G8_gather_J53_ok C hd hr o_a1 (obA9 c10) hK7 h
theorem G8_gather_L7_ok {p : Program} {e : Env} {s : State} {m : MethodId} {args : Array Value} {below : List Frame} {meth : Method} {c : Code} {l : Launch} {φ : Nat → Nat} {tc : Nat → ClassId} {D : va_G} {s0 : State} {dR : Nat} (C : CX p s m args meth c φ tc D (AX φ) s0 cX8_gather RX8 7) (hd : G8_gather_dep ≤ dR) (hr : meth.sig.returnType = none) {a1 : Nat} {p2 : Int32} {p3 : Int32} {Q : MM → Prop}  {x : Int32 × MM} (o_a1 : Ob a1 9)   (h : Lp (G8_gather_L7 a1 p2 p3 Q) x) : WX p l e (rmX dR) s m args below meth c φ tc D (AX φ) 7 0 0 (MQ below (QX φ tc D (QV Q)) args s 0 0 (AX φ)) 7 [(0, .ref 153), (1, .ref a1), (2, .int p2), (3, .int p3), (4, .int x.1)] [] x.2 := by
  obtain ⟨n, h⟩ := h
  induction n generalizing x with
  | zero => exact h.elim
  | succ n ih => exact G8_gather_L7_b C hd hr o_a1  (fun z4 zμ hz => by have q := ih hz; exact q) h
set_option maxHeartbeats 4000000 in
set_option maxRecDepth 100000 in
theorem G8_gather_met {l : Launch} {φ : Nat → Nat} {tc : Nat → ClassId} {D : va_G} {s0 : State} (hG : GX φ tc D s0) {dR : Nat} (hd : G8_gather_dep ≤ dR) {a1 : Nat} {v2 : Int32} {v3 : Int32} {μ : MM} {Q : MM → Prop} (o_a1 : Ob a1 9) (h : G8_gather a1 v2 v3 μ Q) : MX l φ tc D s0 dR yX8_gather cX8_gather 7 none [.ref 153, .ref a1, .int v2, .int v3] μ (QV Q) := by
  refine MX.of (own := RX8) hG plX8 rfl (Nat.le_of_ble_eq_true rfl) (fun p e s m args below meth c C hr => ?_)
  refine x_sub [(0, .ref 153), (1, .ref a1), (2, .int v2), (3, .int v3)] [0, 1, 2, 3] rfl ?_
  unfold G8_gather at h
  refine x_aload_n C rfl 1 rfl dX8_gather_0 ?_
  refine x_callVN (dC := G9_clear_dep) (as := []) (st := []) C rX kX (Nat.le_trans (Nat.le_of_ble_eq_true rfl) hd) (Nat.le_of_ble_eq_true rfl) o_a1.1 o_a1.2 (Nat.le_of_ble_eq_true rfl) rfl ts_3_4 tw_4_32 tw_4_30 tc_4_33 tw_1_7 hyX9 hnX9_clear rfl (Nat.le_of_ble_eq_true rfl) dX8_gather_1 (G9_clear_met C.2.2.2.2.2.2.2.1 (Nat.le_refl _) o_a1 h) (fun r0 μ8 hq => ?_)
  obtain ⟨rfl, h⟩ := hq
  refine x_st [] rfl ?_
  refine x_iconst (v := 0) C (by decide) dX8_gather_4 ?_
  refine x_istore C [(4, .int 0), (0, .ref 153), (1, .ref a1), (2, .int v2), (3, .int v3)] (Nat.le_of_ble_eq_true rfl) rfl dX8_gather_5 ?_
  refine x_sub [(0, .ref 153), (1, .ref a1), (2, .int v2), (3, .int v3), (4, .int 0)] [1, 2, 3, 4, 0] rfl ?_
  exact G8_gather_L7_ok C hd hr o_a1 h
set_option maxHeartbeats 4000000 in
set_option maxRecDepth 100000 in
theorem G9_all_met {l : Launch} {φ : Nat → Nat} {tc : Nat → ClassId} {D : va_G} {s0 : State} (hG : GX φ tc D s0) {dR : Nat} (hd : G9_all_dep ≤ dR) {t : Nat} {μ : MM} {Q : Int32 → MM → Prop} (o_t : Ob t 9) (h : G9_all t μ Q) : MX l φ tc D s0 dR yX9_all cX9_all 1 (some .int) [.ref t] μ (QI Q) := by
  refine MX.of (own := RX9) hG plX9 rfl (Nat.le_of_ble_eq_true rfl) (fun p e s m args below meth c C hr => ?_)
  refine x_sub [(0, .ref t)] [0] rfl ?_
  unfold G9_all at h
  refine x_aload_n C rfl 0 rfl dX9_all_0 ?_
  refine x_getR (r := (t + 1)) C (j := 0) o_t.1 o_t.2 (Nat.le_of_ble_eq_true rfl) (Nat.le_of_ble_eq_true rfl) (fun _ _ _ => rfl) (rF9_0 o_t) tw_1_232 dX9_all_1 ?_
  refine x_iconst (v := 0) C (by decide) dX9_all_4 ?_
  refine x_iald C (obF9_0 o_t).1 (obF9_0 o_t).2 (by rw [lnF9_0 o_t]; unfold vp_in; decide) (j := 0) (by decide) dX9_all_5 ?_
  refine x_aload_n C rfl 0 rfl dX9_all_6 ?_
  refine x_getR (r := (t + 1)) C (j := 0) o_t.1 o_t.2 (Nat.le_of_ble_eq_true rfl) (Nat.le_of_ble_eq_true rfl) (fun _ _ _ => rfl) (rF9_0 o_t) tw_1_232 dX9_all_7 ?_
  refine x_iconst (v := 1) C (by decide) dX9_all_10 ?_
  refine x_iald C (obF9_0 o_t).1 (obF9_0 o_t).2 (by rw [lnF9_0 o_t]; unfold vp_in; decide) (j := 1) (by decide) dX9_all_11 ?_
  refine x_iadd C dX9_all_12 ?_
  exact x_iret C hr dX9_all_13 ⟨_, rfl, h⟩
set_option maxHeartbeats 4000000 in
set_option maxRecDepth 100000 in
theorem G10_isFilter_J30_ok {p : Program} {e : Env} {s : State} {m : MethodId} {args : Array Value} {below : List Frame} {meth : Method} {c : Code} {l : Launch} {φ : Nat → Nat} {tc : Nat → ClassId} {D : va_G} {s0 : State} {dR : Nat} (C : CX p s m args meth c φ tc D (AX φ) s0 cX10_isFilter RX10 2) (hd : G10_isFilter_dep ≤ dR) (hr : meth.sig.returnType = (some .boolean))    {Q : Int32 → MM → Prop}  {μ : MM}    (h : G10_isFilter_J30 μ Q) : WX p l e (rmX dR) s m args below meth c φ tc D (AX φ) 2 0 0 (MQ below (QX φ tc D (QI Q)) args s 0 0 (AX φ)) 30 [] [] μ := by
  unfold G10_isFilter_J30 at h
  refine x_iconst (v := 0) C (by decide) dX10_isFilter_30 ?_
  exact x_zret C hr bo_0 dX10_isFilter_31 ⟨_, rfl, h⟩
set_option maxHeartbeats 4000000 in
set_option maxRecDepth 100000 in
theorem G10_isFilter_met {l : Launch} {φ : Nat → Nat} {tc : Nat → ClassId} {D : va_G} {s0 : State} (hG : GX φ tc D s0) {dR : Nat} (hd : G10_isFilter_dep ≤ dR) {v1 : Int32} {μ : MM} {Q : Int32 → MM → Prop}  (h : G10_isFilter v1 μ Q) : MX l φ tc D s0 dR yX10_isFilter cX10_isFilter 2 (some .boolean) [.ref 1, .int v1] μ (QI Q) := by
  refine MX.of (own := RX10) hG plX10 rfl (Nat.le_of_ble_eq_true rfl) (fun p e s m args below meth c C hr => ?_)
  refine x_sub [(0, .ref 1), (1, .int v1)] [0, 1] rfl ?_
  unfold G10_isFilter at h
  refine x_iload_n C rfl 1 rfl dX10_isFilter_0 ?_
  refine x_iconst (v := (-1)) C (by decide) dX10_isFilter_1 ?_
  refine x_icmp_eq (tgt := 26) C dX10_isFilter_2 (by decide) (fun c6 => ?_) (fun c6 => ?_)
  · have h := h.1 c6
    refine x_iconst (v := 1) C (by decide) dX10_isFilter_26 ?_
    refine x_goto (tgt := 31) C dX10_isFilter_27 (by decide) ?_
    exact x_zret C hr bo_1 dX10_isFilter_31 ⟨_, rfl, h⟩
  · have h := h.2 c6
    refine x_iload_n C rfl 1 rfl dX10_isFilter_5 ?_
    refine x_iconst (v := 0) C (by decide) dX10_isFilter_6 ?_
    refine x_iconst (v := 5) C (by decide) dX10_isFilter_7 ?_
    refine x_callSN (dC := G11_within_dep) (as := [.int v1, .int 0, .int 5]) (st := []) C rX kX (Nat.le_trans (Nat.le_of_ble_eq_true rfl) hd) (Nat.le_of_ble_eq_true rfl) tw_2_196 tw_3_190 tc_2_197 tw_1_1 hyX11 hnX11_within rfl (Nat.le_of_ble_eq_true rfl) dX10_isFilter_8 (G11_within_met C.2.2.2.2.2.2.2.1 (Nat.le_refl _)  h) (fun r0 μ7 hq => ?_)
    obtain ⟨r8, rfl, h⟩ := hq
    refine x_st [.int r8] rfl ?_
    refine x_if_eq (tgt := 30) C dX10_isFilter_11 (by decide) (fun c9 => ?_) (fun c9 => ?_)
    · have h := h.1 c9
      refine x_sub [] [] rfl ?_
      exact G10_isFilter_J30_ok C hd hr  h
    · have h := h.2 c9
      refine x_aload_n C rfl 0 rfl dX10_isFilter_14 ?_
      refine x_getR (r := 11) C (j := 12) ob1.1 ob1.2 (Nat.le_of_ble_eq_true rfl) (Nat.le_of_ble_eq_true rfl) (fun _ _ _ => rfl) r_1_12 tw_1_158 dX10_isFilter_15 ?_
      refine x_iload_n C rfl 1 rfl dX10_isFilter_18 ?_
      obtain ⟨c10, h⟩ := h
      refine x_aald (r := (118 + 6 * v1.toNatClampNeg)) C ob11.1 (by decide) (by decide) c10 rfl (rA11 c10) dX10_isFilter_19 ?_
      refine x_callVN (dC := G3_isTold_dep) (as := []) (st := []) C rX kX (Nat.le_trans (Nat.le_of_ble_eq_true rfl) hd) (Nat.le_of_ble_eq_true rfl) (obA11 c10).1 (obA11 c10).2 (Nat.le_of_ble_eq_true rfl) rfl ts_2_7 tw_3_193 tw_3_191 tc_3_194 tw_1_4 hyX3 hnX3_isTold rfl (Nat.le_of_ble_eq_true rfl) dX10_isFilter_20 (G3_isTold_met C.2.2.2.2.2.2.2.1 (Nat.le_refl _) (obA11 c10) h) (fun r0 μ11 hq => ?_)
      obtain ⟨r12, rfl, h⟩ := hq
      refine x_st [.int r12] rfl ?_
      refine x_if_eq (tgt := 30) C dX10_isFilter_23 (by decide) (fun c13 => ?_) (fun c13 => ?_)
      · have h := h.1 c13
        refine x_sub [] [] rfl ?_
        exact G10_isFilter_J30_ok C hd hr  h
      · have h := h.2 c13
        refine x_iconst (v := 1) C (by decide) dX10_isFilter_26 ?_
        refine x_goto (tgt := 31) C dX10_isFilter_27 (by decide) ?_
        exact x_zret C hr bo_1 dX10_isFilter_31 ⟨_, rfl, h⟩
set_option maxHeartbeats 4000000 in
set_option maxRecDepth 100000 in
theorem G8_tellShare_J75_ok {p : Program} {e : Env} {s : State} {m : MethodId} {args : Array Value} {below : List Frame} {meth : Method} {c : Code} {l : Launch} {φ : Nat → Nat} {tc : Nat → ClassId} {D : va_G} {s0 : State} {dR : Nat} (C : CX p s m args meth c φ tc D (AX φ) s0 cX8_tellShare RX8 2) (hd : G8_tellShare_dep ≤ dR) (hr : meth.sig.returnType = (some .int))    {Q : Int32 → MM → Prop}  {μ : MM}    (h : G8_tellShare_J75 μ Q) : WX p l e (rmX dR) s m args below meth c φ tc D (AX φ) 2 0 0 (MQ below (QX φ tc D (QI Q)) args s 0 0 (AX φ)) 75 [(0, .ref 153)] [] μ := by
  unfold G8_tellShare_J75 at h
  refine x_aload_n C rfl 0 rfl dX8_tellShare_75 ?_
  refine x_getR (r := 154) C (j := 2) ob153.1 ob153.2 (Nat.le_of_ble_eq_true rfl) (Nat.le_of_ble_eq_true rfl) (fun _ _ _ => rfl) r_153_2 tw_2_5 dX8_tellShare_76 ?_
  refine x_callVN (dC := G9_all_dep) (as := []) (st := []) C rX kX (Nat.le_trans (Nat.le_of_ble_eq_true rfl) hd) (Nat.le_of_ble_eq_true rfl) ob154.1 ob154.2 (Nat.le_of_ble_eq_true rfl) rfl ts_3_9 tw_4_52 tw_4_50 tc_4_53 tw_1_7 hyX9 hnX9_all rfl (Nat.le_of_ble_eq_true rfl) dX8_tellShare_79 (G9_all_met C.2.2.2.2.2.2.2.1 (Nat.le_refl _) ob154 h) (fun r0 μ20 hq => ?_)
  obtain ⟨r21, rfl, h⟩ := hq
  refine x_st [.int r21] rfl ?_
  exact x_iret C hr dX8_tellShare_82 ⟨_, rfl, h⟩
set_option maxHeartbeats 4000000 in
set_option maxRecDepth 100000 in
theorem G8_tellShare_met {l : Launch} {φ : Nat → Nat} {tc : Nat → ClassId} {D : va_G} {s0 : State} (hG : GX φ tc D s0) {dR : Nat} (hd : G8_tellShare_dep ≤ dR) {v1 : Int32} {μ : MM} {Q : Int32 → MM → Prop}  (h : G8_tellShare v1 μ Q) : MX l φ tc D s0 dR yX8_tellShare cX8_tellShare 2 (some .int) [.ref 153, .int v1] μ (QI Q) := by
  refine MX.of (own := RX8) hG plX8 rfl (Nat.le_of_ble_eq_true rfl) (fun p e s m args below meth c C hr => ?_)
  refine x_sub [(0, .ref 153), (1, .int v1)] [0, 1] rfl ?_
  unfold G8_tellShare at h
  refine x_aload_n C rfl 0 rfl dX8_tellShare_0 ?_
  refine x_getR (r := 1) C (j := 0) ob153.1 ob153.2 (Nat.le_of_ble_eq_true rfl) (Nat.le_of_ble_eq_true rfl) (fun _ _ _ => rfl) r_153_0 tw_2_3 dX8_tellShare_1 ?_
  refine x_iload_n C rfl 1 rfl dX8_tellShare_4 ?_
  refine x_callVN (dC := G10_isFilter_dep) (as := [.int v1]) (st := []) C rX kX (Nat.le_trans (Nat.le_of_ble_eq_true rfl) hd) (Nat.le_of_ble_eq_true rfl) ob1.1 ob1.2 (Nat.le_of_ble_eq_true rfl) rfl ts_3_2 tw_4_24 tw_4_22 tc_4_25 tw_1_2 hyX10 hnX10_isFilter rfl (Nat.le_of_ble_eq_true rfl) dX8_tellShare_5 (G10_isFilter_met C.2.2.2.2.2.2.2.1 (Nat.le_refl _)  h) (fun r0 μ12 hq => ?_)
  obtain ⟨r13, rfl, h⟩ := hq
  refine x_st [.int r13] rfl ?_
  refine x_if_ne (tgt := 13) C dX8_tellShare_8 (by decide) (fun c14 => ?_) (fun c14 => ?_)
  · have h := h.1 c14
    refine x_aload_n C rfl 0 rfl dX8_tellShare_13 ?_
    refine x_aload_n C rfl 0 rfl dX8_tellShare_14 ?_
    refine x_getR (r := 154) C (j := 2) ob153.1 ob153.2 (Nat.le_of_ble_eq_true rfl) (Nat.le_of_ble_eq_true rfl) (fun _ _ _ => rfl) r_153_2 tw_2_5 dX8_tellShare_15 ?_
    refine x_iload_n C rfl 1 rfl dX8_tellShare_18 ?_
    refine x_iconst (v := (-1)) C (by decide) dX8_tellShare_19 ?_
    refine x_callV (dC := G8_gather_dep) (as := [.ref 154, .int v1, .int (-1)]) (st := []) C rX kX (Nat.le_trans (Nat.le_of_ble_eq_true rfl) hd) (Nat.le_of_ble_eq_true rfl) ob153.1 ob153.2 (Nat.le_of_ble_eq_true rfl) rfl ts_3_3 tw_4_28 tw_4_26 tc_4_29 tw_1_6 hyX8 hnX8_gather rfl (Nat.le_of_ble_eq_true rfl) dX8_tellShare_20 (G8_gather_met C.2.2.2.2.2.2.2.1 (Nat.le_refl _) ob154 h) (fun r0 μ15 hq => ?_)
    obtain ⟨rfl, h⟩ := hq
    refine x_st [] rfl ?_
    refine x_aload_n C rfl 0 rfl dX8_tellShare_23 ?_
    refine x_getR (r := 151) C (j := 1) ob153.1 ob153.2 (Nat.le_of_ble_eq_true rfl) (Nat.le_of_ble_eq_true rfl) (fun _ _ _ => rfl) r_153_1 tw_2_4 dX8_tellShare_24 ?_
    refine x_callVN (dC := G7_clear_dep) (as := []) (st := []) C rX kX (Nat.le_trans (Nat.le_of_ble_eq_true rfl) hd) (Nat.le_of_ble_eq_true rfl) ob151.1 ob151.2 (Nat.le_of_ble_eq_true rfl) rfl ts_3_8 tw_4_48 tw_4_46 tc_4_49 tw_1_5 hyX7 hnX7_clear rfl (Nat.le_of_ble_eq_true rfl) dX8_tellShare_27 (G7_clear_met C.2.2.2.2.2.2.2.1 (Nat.le_refl _)  h) (fun r0 μ16 hq => ?_)
    obtain ⟨rfl, h⟩ := hq
    refine x_st [] rfl ?_
    refine x_aload_n C rfl 0 rfl dX8_tellShare_30 ?_
    refine x_getR (r := 154) C (j := 2) ob153.1 ob153.2 (Nat.le_of_ble_eq_true rfl) (Nat.le_of_ble_eq_true rfl) (fun _ _ _ => rfl) r_153_2 tw_2_5 dX8_tellShare_31 ?_
    refine x_callVN (dC := G9_all_dep) (as := []) (st := []) C rX kX (Nat.le_trans (Nat.le_of_ble_eq_true rfl) hd) (Nat.le_of_ble_eq_true rfl) ob154.1 ob154.2 (Nat.le_of_ble_eq_true rfl) rfl ts_3_9 tw_4_52 tw_4_50 tc_4_53 tw_1_7 hyX9 hnX9_all rfl (Nat.le_of_ble_eq_true rfl) dX8_tellShare_34 (G9_all_met C.2.2.2.2.2.2.2.1 (Nat.le_refl _) ob154 h) (fun r0 μ17 hq => ?_)
    obtain ⟨r18, rfl, h⟩ := hq
    refine x_st [.int r18] rfl ?_
    refine x_if_le (tgt := 75) C dX8_tellShare_37 (by decide) (fun c19 => ?_) (fun c19 => ?_)
    · have h := h.1 c19
      refine x_sub [(0, .ref 153)] [0] rfl ?_
      exact G8_tellShare_J75_ok C hd hr  h
    · have h := h.2 c19
      refine x_aload_n C rfl 0 rfl dX8_tellShare_40 ?_
      refine x_getR (r := 151) C (j := 1) ob153.1 ob153.2 (Nat.le_of_ble_eq_true rfl) (Nat.le_of_ble_eq_true rfl) (fun _ _ _ => rfl) r_153_1 tw_2_4 dX8_tellShare_41 ?_
      refine x_aload_n C rfl 0 rfl dX8_tellShare_44 ?_
      refine x_getR (r := 154) C (j := 2) ob153.1 ob153.2 (Nat.le_of_ble_eq_true rfl) (Nat.le_of_ble_eq_true rfl) (fun _ _ _ => rfl) r_153_2 tw_2_5 dX8_tellShare_45 ?_
      refine x_getRN (r := 156) C (j := 1) ob154.1 ob154.2 (Nat.le_of_ble_eq_true rfl) (Nat.le_of_ble_eq_true rfl) (fun _ _ _ => rfl) r_154_1 tw_1_236 dX8_tellShare_48 ?_
      refine x_iconst (v := 0) C (by decide) dX8_tellShare_51 ?_
      refine x_iald C ob156.1 ob156.2 (by unfold vp_in; decide) (j := 0) (by decide) dX8_tellShare_52 ?_
      refine x_aload_n C rfl 0 rfl dX8_tellShare_53 ?_
      refine x_getR (r := 154) C (j := 2) ob153.1 ob153.2 (Nat.le_of_ble_eq_true rfl) (Nat.le_of_ble_eq_true rfl) (fun _ _ _ => rfl) r_153_2 tw_2_5 dX8_tellShare_54 ?_
      refine x_getRN (r := 156) C (j := 1) ob154.1 ob154.2 (Nat.le_of_ble_eq_true rfl) (Nat.le_of_ble_eq_true rfl) (fun _ _ _ => rfl) r_154_1 tw_1_236 dX8_tellShare_57 ?_
      refine x_iconst (v := 1) C (by decide) dX8_tellShare_60 ?_
      refine x_iald C ob156.1 ob156.2 (by unfold vp_in; decide) (j := 1) (by decide) dX8_tellShare_61 ?_
      refine x_iadd C dX8_tellShare_62 ?_
      refine x_i2l C dX8_tellShare_63 ?_
      refine x_aload_n C rfl 0 rfl dX8_tellShare_64 ?_
      refine x_getR (r := 154) C (j := 2) ob153.1 ob153.2 (Nat.le_of_ble_eq_true rfl) (Nat.le_of_ble_eq_true rfl) (fun _ _ _ => rfl) r_153_2 tw_2_5 dX8_tellShare_65 ?_
      refine x_callVN (dC := G9_all_dep) (as := []) (st := [.long (((gI μ17 156 0) + (gI μ17 156 1)).toInt64), .ref 151]) C rX kX (Nat.le_trans (Nat.le_of_ble_eq_true rfl) hd) (Nat.le_of_ble_eq_true rfl) ob154.1 ob154.2 (Nat.le_of_ble_eq_true rfl) rfl ts_3_9 tw_4_52 tw_4_50 tc_4_53 tw_1_7 hyX9 hnX9_all rfl (Nat.le_of_ble_eq_true rfl) dX8_tellShare_68 (G9_all_met C.2.2.2.2.2.2.2.1 (Nat.le_refl _) ob154 h) (fun r0 μ22 hq => ?_)
      obtain ⟨r23, rfl, h⟩ := hq
      refine x_st [.int r23, .long (((gI μ17 156 0) + (gI μ17 156 1)).toInt64), .ref 151] rfl ?_
      refine x_i2l C dX8_tellShare_71 ?_
      refine x_callVN (dC := G7_addFraction_dep) (as := [.long (((gI μ17 156 0) + (gI μ17 156 1)).toInt64), .long (r23.toInt64)]) (st := []) C rX kX (Nat.le_trans (Nat.le_of_ble_eq_true rfl) hd) (Nat.le_of_ble_eq_true rfl) ob151.1 ob151.2 (Nat.le_of_ble_eq_true rfl) rfl ts_3_10 tw_4_56 tw_4_54 tc_4_57 tw_1_5 hyX7 hnX7_addFraction rfl (Nat.le_of_ble_eq_true rfl) dX8_tellShare_72 (G7_addFraction_met C.2.2.2.2.2.2.2.1 (Nat.le_refl _)  h) (fun r0 μ24 hq => ?_)
      obtain ⟨rfl, h⟩ := hq
      refine x_st [] rfl ?_
      refine x_sub [(0, .ref 153)] [0] rfl ?_
      exact G8_tellShare_J75_ok C hd hr  h
  · have h := h.2 c14
    refine x_iconst (v := (-1)) C (by decide) dX8_tellShare_11 ?_
    exact x_iret C hr dX8_tellShare_12 ⟨_, rfl, h⟩
set_option maxHeartbeats 4000000 in
set_option maxRecDepth 100000 in
theorem G11_share_met {l : Launch} {φ : Nat → Nat} {tc : Nat → ClassId} {D : va_G} {s0 : State} (hG : GX φ tc D s0) {dR : Nat} (hd : G11_share_dep ≤ dR) {v1 : Int32} {μ : MM} {Q : Int32 → MM → Prop}  (h : G11_share v1 μ Q) : MX l φ tc D s0 dR yX11_share cX11_share 2 (some .int) [.ref 0, .int v1] μ (QI Q) := by
  refine MX.of (own := RX11) hG plX11 rfl (Nat.le_of_ble_eq_true rfl) (fun p e s m args below meth c C hr => ?_)
  refine x_sub [(0, .ref 0), (1, .int v1)] [0, 1] rfl ?_
  unfold G11_share at h
  refine x_aload_n C rfl 0 rfl dX11_share_0 ?_
  refine x_getR (r := 153) C (j := 2) ob0.1 ob0.2 (Nat.le_of_ble_eq_true rfl) (Nat.le_of_ble_eq_true rfl) (fun _ _ _ => rfl) r_0_2 tw_2_165 dX11_share_1 ?_
  refine x_iload_n C rfl 1 rfl dX11_share_4 ?_
  refine x_callVN (dC := G8_tellShare_dep) (as := [.int v1]) (st := []) C rX kX (Nat.le_trans (Nat.le_of_ble_eq_true rfl) hd) (Nat.le_of_ble_eq_true rfl) ob153.1 ob153.2 (Nat.le_of_ble_eq_true rfl) rfl ts_3_1 tw_4_20 tw_4_18 tc_4_21 tw_1_6 hyX8 hnX8_tellShare rfl (Nat.le_of_ble_eq_true rfl) dX11_share_5 (G8_tellShare_met C.2.2.2.2.2.2.2.1 (Nat.le_refl _)  h) (fun r0 μ3 hq => ?_)
  obtain ⟨r4, rfl, h⟩ := hq
  refine x_st [.int r4] rfl ?_
  exact x_iret C hr dX11_share_8 ⟨_, rfl, h⟩
set_option maxHeartbeats 4000000 in
set_option maxRecDepth 100000 in
theorem G9_asideLower_met {l : Launch} {φ : Nat → Nat} {tc : Nat → ClassId} {D : va_G} {s0 : State} (hG : GX φ tc D s0) {dR : Nat} (hd : G9_asideLower_dep ≤ dR) {t : Nat} {μ : MM} {Q : Int64 → MM → Prop} (o_t : Ob t 9) (h : G9_asideLower t μ Q) : MX l φ tc D s0 dR yX9_asideLower cX9_asideLower 1 (some .long) [.ref t] μ (QJ Q) := by
  refine MX.of (own := RX9) hG plX9 rfl (Nat.le_of_ble_eq_true rfl) (fun p e s m args below meth c C hr => ?_)
  refine x_sub [(0, .ref t)] [0] rfl ?_
  unfold G9_asideLower at h
  refine x_aload_n C rfl 0 rfl dX9_asideLower_0 ?_
  refine x_getR (r := (t + 1)) C (j := 0) o_t.1 o_t.2 (Nat.le_of_ble_eq_true rfl) (Nat.le_of_ble_eq_true rfl) (fun _ _ _ => rfl) (rF9_0 o_t) tw_1_232 dX9_asideLower_1 ?_
  refine x_iconst (v := 0) C (by decide) dX9_asideLower_4 ?_
  refine x_iald C (obF9_0 o_t).1 (obF9_0 o_t).2 (by rw [lnF9_0 o_t]; unfold vp_in; decide) (j := 0) (by decide) dX9_asideLower_5 ?_
  refine x_i2l C dX9_asideLower_6 ?_
  refine x_aload_n C rfl 0 rfl dX9_asideLower_7 ?_
  refine x_getR (r := (t + 1)) C (j := 0) o_t.1 o_t.2 (Nat.le_of_ble_eq_true rfl) (Nat.le_of_ble_eq_true rfl) (fun _ _ _ => rfl) (rF9_0 o_t) tw_1_232 dX9_asideLower_8 ?_
  refine x_iconst (v := 1) C (by decide) dX9_asideLower_11 ?_
  refine x_iald C (obF9_0 o_t).1 (obF9_0 o_t).2 (by rw [lnF9_0 o_t]; unfold vp_in; decide) (j := 1) (by decide) dX9_asideLower_12 ?_
  refine x_i2l C dX9_asideLower_13 ?_
  refine x_lmul C dX9_asideLower_14 ?_
  exact x_lret C hr dX9_asideLower_15 ⟨_, rfl, h⟩
set_option maxHeartbeats 4000000 in
set_option maxRecDepth 100000 in
theorem G9_asideUpper_met {l : Launch} {φ : Nat → Nat} {tc : Nat → ClassId} {D : va_G} {s0 : State} (hG : GX φ tc D s0) {dR : Nat} (hd : G9_asideUpper_dep ≤ dR) {t : Nat} {μ : MM} {Q : Int64 → MM → Prop} (o_t : Ob t 9) (h : G9_asideUpper t μ Q) : MX l φ tc D s0 dR yX9_asideUpper cX9_asideUpper 1 (some .long) [.ref t] μ (QJ Q) := by
  refine MX.of (own := RX9) hG plX9 rfl (Nat.le_of_ble_eq_true rfl) (fun p e s m args below meth c C hr => ?_)
  refine x_sub [(0, .ref t)] [0] rfl ?_
  unfold G9_asideUpper at h
  refine x_aload_n C rfl 0 rfl dX9_asideUpper_0 ?_
  refine x_getR (r := (t + 2)) C (j := 1) o_t.1 o_t.2 (Nat.le_of_ble_eq_true rfl) (Nat.le_of_ble_eq_true rfl) (fun _ _ _ => rfl) (rF9_1 o_t) tw_1_235 dX9_asideUpper_1 ?_
  refine x_iconst (v := 0) C (by decide) dX9_asideUpper_4 ?_
  refine x_iald C (obF9_1 o_t).1 (obF9_1 o_t).2 (by rw [lnF9_1 o_t]; unfold vp_in; decide) (j := 0) (by decide) dX9_asideUpper_5 ?_
  refine x_i2l C dX9_asideUpper_6 ?_
  refine x_aload_n C rfl 0 rfl dX9_asideUpper_7 ?_
  refine x_getR (r := (t + 1)) C (j := 0) o_t.1 o_t.2 (Nat.le_of_ble_eq_true rfl) (Nat.le_of_ble_eq_true rfl) (fun _ _ _ => rfl) (rF9_0 o_t) tw_1_232 dX9_asideUpper_8 ?_
  refine x_iconst (v := 1) C (by decide) dX9_asideUpper_11 ?_
  refine x_iald C (obF9_0 o_t).1 (obF9_0 o_t).2 (by rw [lnF9_0 o_t]; unfold vp_in; decide) (j := 1) (by decide) dX9_asideUpper_12 ?_
  refine x_i2l C dX9_asideUpper_13 ?_
  refine x_lmul C dX9_asideUpper_14 ?_
  refine x_aload_n C rfl 0 rfl dX9_asideUpper_15 ?_
  refine x_getR (r := (t + 2)) C (j := 1) o_t.1 o_t.2 (Nat.le_of_ble_eq_true rfl) (Nat.le_of_ble_eq_true rfl) (fun _ _ _ => rfl) (rF9_1 o_t) tw_1_235 dX9_asideUpper_16 ?_
  refine x_iconst (v := 1) C (by decide) dX9_asideUpper_19 ?_
  refine x_iald C (obF9_1 o_t).1 (obF9_1 o_t).2 (by rw [lnF9_1 o_t]; unfold vp_in; decide) (j := 1) (by decide) dX9_asideUpper_20 ?_
  refine x_i2l C dX9_asideUpper_21 ?_
  refine x_aload_n C rfl 0 rfl dX9_asideUpper_22 ?_
  refine x_getR (r := (t + 1)) C (j := 0) o_t.1 o_t.2 (Nat.le_of_ble_eq_true rfl) (Nat.le_of_ble_eq_true rfl) (fun _ _ _ => rfl) (rF9_0 o_t) tw_1_232 dX9_asideUpper_23 ?_
  refine x_iconst (v := 0) C (by decide) dX9_asideUpper_26 ?_
  refine x_iald C (obF9_0 o_t).1 (obF9_0 o_t).2 (by rw [lnF9_0 o_t]; unfold vp_in; decide) (j := 0) (by decide) dX9_asideUpper_27 ?_
  refine x_i2l C dX9_asideUpper_28 ?_
  refine x_lmul C dX9_asideUpper_29 ?_
  refine x_lsub C dX9_asideUpper_30 ?_
  exact x_lret C hr dX9_asideUpper_31 ⟨_, rfl, h⟩
set_option maxHeartbeats 4000000 in
set_option maxRecDepth 100000 in
theorem G9_hasBoth_J22_ok {p : Program} {e : Env} {s : State} {m : MethodId} {args : Array Value} {below : List Frame} {meth : Method} {c : Code} {l : Launch} {φ : Nat → Nat} {tc : Nat → ClassId} {D : va_G} {s0 : State} {dR : Nat} (C : CX p s m args meth c φ tc D (AX φ) s0 cX9_hasBoth RX9 1) (hd : G9_hasBoth_dep ≤ dR) (hr : meth.sig.returnType = (some .boolean))  {t : Nat}  {Q : Int32 → MM → Prop}  {μ : MM} (o_t : Ob t 9)   (h : G9_hasBoth_J22 t μ Q) : WX p l e (rmX dR) s m args below meth c φ tc D (AX φ) 1 0 0 (MQ below (QX φ tc D (QI Q)) args s 0 0 (AX φ)) 22 [] [] μ := by
  unfold G9_hasBoth_J22 at h
  refine x_iconst (v := 0) C (by decide) dX9_hasBoth_22 ?_
  exact x_zret C hr bo_0 dX9_hasBoth_23 ⟨_, rfl, h⟩
set_option maxHeartbeats 4000000 in
set_option maxRecDepth 100000 in
theorem G9_hasBoth_met {l : Launch} {φ : Nat → Nat} {tc : Nat → ClassId} {D : va_G} {s0 : State} (hG : GX φ tc D s0) {dR : Nat} (hd : G9_hasBoth_dep ≤ dR) {t : Nat} {μ : MM} {Q : Int32 → MM → Prop} (o_t : Ob t 9) (h : G9_hasBoth t μ Q) : MX l φ tc D s0 dR yX9_hasBoth cX9_hasBoth 1 (some .boolean) [.ref t] μ (QI Q) := by
  refine MX.of (own := RX9) hG plX9 rfl (Nat.le_of_ble_eq_true rfl) (fun p e s m args below meth c C hr => ?_)
  refine x_sub [(0, .ref t)] [0] rfl ?_
  unfold G9_hasBoth at h
  refine x_aload_n C rfl 0 rfl dX9_hasBoth_0 ?_
  refine x_getR (r := (t + 1)) C (j := 0) o_t.1 o_t.2 (Nat.le_of_ble_eq_true rfl) (Nat.le_of_ble_eq_true rfl) (fun _ _ _ => rfl) (rF9_0 o_t) tw_1_232 dX9_hasBoth_1 ?_
  refine x_iconst (v := 0) C (by decide) dX9_hasBoth_4 ?_
  refine x_iald C (obF9_0 o_t).1 (obF9_0 o_t).2 (by rw [lnF9_0 o_t]; unfold vp_in; decide) (j := 0) (by decide) dX9_hasBoth_5 ?_
  refine x_if_le (tgt := 22) C dX9_hasBoth_6 (by decide) (fun c1 => ?_) (fun c1 => ?_)
  · have h := h.1 c1
    refine x_sub [] [] rfl ?_
    exact G9_hasBoth_J22_ok C hd hr o_t h
  · have h := h.2 c1
    refine x_aload_n C rfl 0 rfl dX9_hasBoth_9 ?_
    refine x_getR (r := (t + 1)) C (j := 0) o_t.1 o_t.2 (Nat.le_of_ble_eq_true rfl) (Nat.le_of_ble_eq_true rfl) (fun _ _ _ => rfl) (rF9_0 o_t) tw_1_232 dX9_hasBoth_10 ?_
    refine x_iconst (v := 1) C (by decide) dX9_hasBoth_13 ?_
    refine x_iald C (obF9_0 o_t).1 (obF9_0 o_t).2 (by rw [lnF9_0 o_t]; unfold vp_in; decide) (j := 1) (by decide) dX9_hasBoth_14 ?_
    refine x_if_le (tgt := 22) C dX9_hasBoth_15 (by decide) (fun c2 => ?_) (fun c2 => ?_)
    · have h := h.1 c2
      refine x_sub [] [] rfl ?_
      exact G9_hasBoth_J22_ok C hd hr o_t h
    · have h := h.2 c2
      refine x_iconst (v := 1) C (by decide) dX9_hasBoth_18 ?_
      refine x_goto (tgt := 23) C dX9_hasBoth_19 (by decide) ?_
      exact x_zret C hr bo_1 dX9_hasBoth_23 ⟨_, rfl, h⟩
set_option maxHeartbeats 4000000 in
set_option maxRecDepth 100000 in
theorem G8_tellAside_L66_b {p : Program} {e : Env} {s : State} {m : MethodId} {args : Array Value} {below : List Frame} {meth : Method} {c : Code} {l : Launch} {φ : Nat → Nat} {tc : Nat → ClassId} {D : va_G} {s0 : State} {dR : Nat} (C : CX p s m args meth c φ tc D (AX φ) s0 cX8_tellAside RX8 3) (hd : G8_tellAside_dep ≤ dR) (hr : meth.sig.returnType = (some .int))   {Q : Int32 → MM → Prop} {K66 : Int32 × MM → Prop} {x : Int32 × MM}   (hK66 : ∀ (z2 : Int32) (zμ : MM), K66 (z2, zμ) → WX p l e (rmX dR) s m args below meth c φ tc D (AX φ) 3 0 0 (MQ below (QX φ tc D (QI Q)) args s 0 0 (AX φ)) 66 [(0, .ref 153), (2, .int z2)] [] zμ) (h : G8_tellAside_L66  Q K66 x) : WX p l e (rmX dR) s m args below meth c φ tc D (AX φ) 3 0 0 (MQ below (QX φ tc D (QI Q)) args s 0 0 (AX φ)) 66 [(0, .ref 153), (2, .int x.1)] [] x.2 := by
  unfold G8_tellAside_L66 at h
  refine x_iload_n C rfl 1 rfl dX8_tellAside_66 ?_
  refine x_iconst (v := 2) C (by decide) dX8_tellAside_67 ?_
  refine x_icmp_ge (tgt := 111) C dX8_tellAside_68 (by decide) (fun c29 => ?_) (fun c29 => ?_)
  · have h := h.1 c29
    refine x_iconst (v := 0) C (by decide) dX8_tellAside_111 ?_
    exact x_iret C hr dX8_tellAside_112 ⟨_, rfl, h⟩
  · have h := h.2 c29
    refine x_aload_n C rfl 0 rfl dX8_tellAside_71 ?_
    refine x_getR (r := 151) C (j := 1) ob153.1 ob153.2 (Nat.le_of_ble_eq_true rfl) (Nat.le_of_ble_eq_true rfl) (fun _ _ _ => rfl) r_153_1 tw_2_4 dX8_tellAside_72 ?_
    refine x_aload_n C rfl 0 rfl dX8_tellAside_75 ?_
    refine x_getR (r := 154) C (j := 2) ob153.1 ob153.2 (Nat.le_of_ble_eq_true rfl) (Nat.le_of_ble_eq_true rfl) (fun _ _ _ => rfl) r_153_2 tw_2_5 dX8_tellAside_76 ?_
    refine x_getRN (r := 155) C (j := 0) ob154.1 ob154.2 (Nat.le_of_ble_eq_true rfl) (Nat.le_of_ble_eq_true rfl) (fun _ _ _ => rfl) r_154_0 tw_1_233 dX8_tellAside_79 ?_
    refine x_iload_n C rfl 1 rfl dX8_tellAside_82 ?_
    obtain ⟨c30, h⟩ := h
    refine x_iald C ob155.1 ob155.2 c30 rfl dX8_tellAside_83 ?_
    refine x_i2l C dX8_tellAside_84 ?_
    refine x_callVN (dC := G7_add_dep) (as := [.long ((gI x.2 155 x.1.toNatClampNeg).toInt64)]) (st := []) C rX kX (Nat.le_trans (Nat.le_of_ble_eq_true rfl) hd) (Nat.le_of_ble_eq_true rfl) ob151.1 ob151.2 (Nat.le_of_ble_eq_true rfl) rfl ts_3_11 tw_4_63 tw_4_85 tc_4_64 tw_1_5 hyX7 hnX7_add rfl (Nat.le_of_ble_eq_true rfl) dX8_tellAside_85 (G7_add_met C.2.2.2.2.2.2.2.1 (Nat.le_refl _)  h) (fun r0 μ31 hq => ?_)
    obtain ⟨rfl, h⟩ := hq
    refine x_st [] rfl ?_
    refine x_aload_n C rfl 0 rfl dX8_tellAside_88 ?_
    refine x_getR (r := 151) C (j := 1) ob153.1 ob153.2 (Nat.le_of_ble_eq_true rfl) (Nat.le_of_ble_eq_true rfl) (fun _ _ _ => rfl) r_153_1 tw_2_4 dX8_tellAside_89 ?_
    refine x_aload_n C rfl 0 rfl dX8_tellAside_92 ?_
    refine x_getR (r := 154) C (j := 2) ob153.1 ob153.2 (Nat.le_of_ble_eq_true rfl) (Nat.le_of_ble_eq_true rfl) (fun _ _ _ => rfl) r_153_2 tw_2_5 dX8_tellAside_93 ?_
    refine x_getRN (r := 156) C (j := 1) ob154.1 ob154.2 (Nat.le_of_ble_eq_true rfl) (Nat.le_of_ble_eq_true rfl) (fun _ _ _ => rfl) r_154_1 tw_1_236 dX8_tellAside_96 ?_
    refine x_iload_n C rfl 1 rfl dX8_tellAside_99 ?_
    obtain ⟨c32, h⟩ := h
    refine x_iald C ob156.1 ob156.2 c32 rfl dX8_tellAside_100 ?_
    refine x_i2l C dX8_tellAside_101 ?_
    refine x_callVN (dC := G7_add_dep) (as := [.long ((gI μ31 156 x.1.toNatClampNeg).toInt64)]) (st := []) C rX kX (Nat.le_trans (Nat.le_of_ble_eq_true rfl) hd) (Nat.le_of_ble_eq_true rfl) ob151.1 ob151.2 (Nat.le_of_ble_eq_true rfl) rfl ts_3_11 tw_4_63 tw_4_85 tc_4_64 tw_1_5 hyX7 hnX7_add rfl (Nat.le_of_ble_eq_true rfl) dX8_tellAside_102 (G7_add_met C.2.2.2.2.2.2.2.1 (Nat.le_refl _)  h) (fun r0 μ33 hq => ?_)
    obtain ⟨rfl, h⟩ := hq
    refine x_st [] rfl ?_
    refine x_iinc (v := (x.1 + 1)) C [(2, .int (x.1 + 1)), (0, .ref 153)] 1 rfl (congrArg (fun z => x.1 + z) (by decide : Int32.ofInt (1) = 1)) (Nat.le_of_ble_eq_true rfl) rfl dX8_tellAside_105 ?_
    refine x_goto (tgt := 66) C dX8_tellAside_108 (by decide) ?_
    refine x_sub [(0, .ref 153), (2, .int (x.1 + 1))] [1, 0] rfl ?_
    exact hK66 _ _ h
theorem G8_tellAside_L66_ok {p : Program} {e : Env} {s : State} {m : MethodId} {args : Array Value} {below : List Frame} {meth : Method} {c : Code} {l : Launch} {φ : Nat → Nat} {tc : Nat → ClassId} {D : va_G} {s0 : State} {dR : Nat} (C : CX p s m args meth c φ tc D (AX φ) s0 cX8_tellAside RX8 3) (hd : G8_tellAside_dep ≤ dR) (hr : meth.sig.returnType = (some .int))   {Q : Int32 → MM → Prop}  {x : Int32 × MM}    (h : Lp (G8_tellAside_L66  Q) x) : WX p l e (rmX dR) s m args below meth c φ tc D (AX φ) 3 0 0 (MQ below (QX φ tc D (QI Q)) args s 0 0 (AX φ)) 66 [(0, .ref 153), (2, .int x.1)] [] x.2 := by
  obtain ⟨n, h⟩ := h
  induction n generalizing x with
  | zero => exact h.elim
  | succ n ih => exact G8_tellAside_L66_b C hd hr   (fun z2 zμ hz => by have q := ih hz; exact q) h
set_option maxHeartbeats 4000000 in
set_option maxRecDepth 100000 in
theorem G8_tellAside_met {l : Launch} {φ : Nat → Nat} {tc : Nat → ClassId} {D : va_G} {s0 : State} (hG : GX φ tc D s0) {dR : Nat} (hd : G8_tellAside_dep ≤ dR) {v1 : Int32} {μ : MM} {Q : Int32 → MM → Prop}  (h : G8_tellAside v1 μ Q) : MX l φ tc D s0 dR yX8_tellAside cX8_tellAside 3 (some .int) [.ref 153, .int v1] μ (QI Q) := by
  refine MX.of (own := RX8) hG plX8 rfl (Nat.le_of_ble_eq_true rfl) (fun p e s m args below meth c C hr => ?_)
  refine x_sub [(0, .ref 153), (1, .int v1)] [0, 1] rfl ?_
  unfold G8_tellAside at h
  refine x_aload_n C rfl 0 rfl dX8_tellAside_0 ?_
  refine x_getR (r := 1) C (j := 0) ob153.1 ob153.2 (Nat.le_of_ble_eq_true rfl) (Nat.le_of_ble_eq_true rfl) (fun _ _ _ => rfl) r_153_0 tw_2_3 dX8_tellAside_1 ?_
  refine x_iload_n C rfl 1 rfl dX8_tellAside_4 ?_
  refine x_callVN (dC := G10_isFilter_dep) (as := [.int v1]) (st := []) C rX kX (Nat.le_trans (Nat.le_of_ble_eq_true rfl) hd) (Nat.le_of_ble_eq_true rfl) ob1.1 ob1.2 (Nat.le_of_ble_eq_true rfl) rfl ts_3_2 tw_4_24 tw_4_22 tc_4_25 tw_1_2 hyX10 hnX10_isFilter rfl (Nat.le_of_ble_eq_true rfl) dX8_tellAside_5 (G10_isFilter_met C.2.2.2.2.2.2.2.1 (Nat.le_refl _)  h) (fun r0 μ16 hq => ?_)
  obtain ⟨r17, rfl, h⟩ := hq
  refine x_st [.int r17] rfl ?_
  refine x_if_ne (tgt := 13) C dX8_tellAside_8 (by decide) (fun c18 => ?_) (fun c18 => ?_)
  · have h := h.1 c18
    refine x_aload_n C rfl 0 rfl dX8_tellAside_13 ?_
    refine x_aload_n C rfl 0 rfl dX8_tellAside_14 ?_
    refine x_getR (r := 154) C (j := 2) ob153.1 ob153.2 (Nat.le_of_ble_eq_true rfl) (Nat.le_of_ble_eq_true rfl) (fun _ _ _ => rfl) r_153_2 tw_2_5 dX8_tellAside_15 ?_
    refine x_iload_n C rfl 1 rfl dX8_tellAside_18 ?_
    refine x_iconst (v := (-1)) C (by decide) dX8_tellAside_19 ?_
    refine x_callV (dC := G8_gather_dep) (as := [.ref 154, .int v1, .int (-1)]) (st := []) C rX kX (Nat.le_trans (Nat.le_of_ble_eq_true rfl) hd) (Nat.le_of_ble_eq_true rfl) ob153.1 ob153.2 (Nat.le_of_ble_eq_true rfl) rfl ts_3_3 tw_4_28 tw_4_26 tc_4_29 tw_1_6 hyX8 hnX8_gather rfl (Nat.le_of_ble_eq_true rfl) dX8_tellAside_20 (G8_gather_met C.2.2.2.2.2.2.2.1 (Nat.le_refl _) ob154 h) (fun r0 μ19 hq => ?_)
    obtain ⟨rfl, h⟩ := hq
    refine x_st [] rfl ?_
    refine x_aload_n C rfl 0 rfl dX8_tellAside_23 ?_
    refine x_getR (r := 154) C (j := 2) ob153.1 ob153.2 (Nat.le_of_ble_eq_true rfl) (Nat.le_of_ble_eq_true rfl) (fun _ _ _ => rfl) r_153_2 tw_2_5 dX8_tellAside_24 ?_
    refine x_callVN (dC := G9_hasBoth_dep) (as := []) (st := []) C rX kX (Nat.le_trans (Nat.le_of_ble_eq_true rfl) hd) (Nat.le_of_ble_eq_true rfl) ob154.1 ob154.2 (Nat.le_of_ble_eq_true rfl) rfl ts_3_13 tw_4_75 tw_4_73 tc_4_76 tw_1_7 hyX9 hnX9_hasBoth rfl (Nat.le_of_ble_eq_true rfl) dX8_tellAside_27 (G9_hasBoth_met C.2.2.2.2.2.2.2.1 (Nat.le_refl _) ob154 h) (fun r0 μ20 hq => ?_)
    obtain ⟨r21, rfl, h⟩ := hq
    refine x_st [.int r21] rfl ?_
    refine x_if_ne (tgt := 36) C dX8_tellAside_30 (by decide) (fun c22 => ?_) (fun c22 => ?_)
    · have h := h.1 c22
      refine x_aload_n C rfl 0 rfl dX8_tellAside_36 ?_
      refine x_getR (r := 151) C (j := 1) ob153.1 ob153.2 (Nat.le_of_ble_eq_true rfl) (Nat.le_of_ble_eq_true rfl) (fun _ _ _ => rfl) r_153_1 tw_2_4 dX8_tellAside_37 ?_
      refine x_callVN (dC := G7_clear_dep) (as := []) (st := []) C rX kX (Nat.le_trans (Nat.le_of_ble_eq_true rfl) hd) (Nat.le_of_ble_eq_true rfl) ob151.1 ob151.2 (Nat.le_of_ble_eq_true rfl) rfl ts_3_8 tw_4_48 tw_4_46 tc_4_49 tw_1_5 hyX7 hnX7_clear rfl (Nat.le_of_ble_eq_true rfl) dX8_tellAside_40 (G7_clear_met C.2.2.2.2.2.2.2.1 (Nat.le_refl _)  h) (fun r0 μ23 hq => ?_)
      obtain ⟨rfl, h⟩ := hq
      refine x_st [] rfl ?_
      refine x_aload_n C rfl 0 rfl dX8_tellAside_43 ?_
      refine x_getR (r := 151) C (j := 1) ob153.1 ob153.2 (Nat.le_of_ble_eq_true rfl) (Nat.le_of_ble_eq_true rfl) (fun _ _ _ => rfl) r_153_1 tw_2_4 dX8_tellAside_44 ?_
      refine x_aload_n C rfl 0 rfl dX8_tellAside_47 ?_
      refine x_getR (r := 154) C (j := 2) ob153.1 ob153.2 (Nat.le_of_ble_eq_true rfl) (Nat.le_of_ble_eq_true rfl) (fun _ _ _ => rfl) r_153_2 tw_2_5 dX8_tellAside_48 ?_
      refine x_callVN (dC := G9_asideUpper_dep) (as := []) (st := [.ref 151]) C rX kX (Nat.le_trans (Nat.le_of_ble_eq_true rfl) hd) (Nat.le_of_ble_eq_true rfl) ob154.1 ob154.2 (Nat.le_of_ble_eq_true rfl) rfl ts_3_14 tw_4_79 tw_4_77 tc_4_80 tw_1_7 hyX9 hnX9_asideUpper rfl (Nat.le_of_ble_eq_true rfl) dX8_tellAside_51 (G9_asideUpper_met C.2.2.2.2.2.2.2.1 (Nat.le_refl _) ob154 h) (fun r0 μ24 hq => ?_)
      obtain ⟨r25, rfl, h⟩ := hq
      refine x_st [.long r25, .ref 151] rfl ?_
      refine x_aload_n C rfl 0 rfl dX8_tellAside_54 ?_
      refine x_getR (r := 154) C (j := 2) ob153.1 ob153.2 (Nat.le_of_ble_eq_true rfl) (Nat.le_of_ble_eq_true rfl) (fun _ _ _ => rfl) r_153_2 tw_2_5 dX8_tellAside_55 ?_
      refine x_callVN (dC := G9_asideLower_dep) (as := []) (st := [.long r25, .ref 151]) C rX kX (Nat.le_trans (Nat.le_of_ble_eq_true rfl) hd) (Nat.le_of_ble_eq_true rfl) ob154.1 ob154.2 (Nat.le_of_ble_eq_true rfl) rfl ts_3_15 tw_4_83 tw_4_81 tc_4_84 tw_1_7 hyX9 hnX9_asideLower rfl (Nat.le_of_ble_eq_true rfl) dX8_tellAside_58 (G9_asideLower_met C.2.2.2.2.2.2.2.1 (Nat.le_refl _) ob154 h) (fun r0 μ26 hq => ?_)
      obtain ⟨r27, rfl, h⟩ := hq
      refine x_st [.long r27, .long r25, .ref 151] rfl ?_
      refine x_callVN (dC := G7_addFraction_dep) (as := [.long r25, .long r27]) (st := []) C rX kX (Nat.le_trans (Nat.le_of_ble_eq_true rfl) hd) (Nat.le_of_ble_eq_true rfl) ob151.1 ob151.2 (Nat.le_of_ble_eq_true rfl) rfl ts_3_10 tw_4_56 tw_4_54 tc_4_57 tw_1_5 hyX7 hnX7_addFraction rfl (Nat.le_of_ble_eq_true rfl) dX8_tellAside_61 (G7_addFraction_met C.2.2.2.2.2.2.2.1 (Nat.le_refl _)  h) (fun r0 μ28 hq => ?_)
      obtain ⟨rfl, h⟩ := hq
      refine x_st [] rfl ?_
      refine x_iconst (v := 0) C (by decide) dX8_tellAside_64 ?_
      refine x_istore_n C [(2, .int 0), (0, .ref 153), (1, .int v1)] rfl (Nat.le_of_ble_eq_true rfl) rfl dX8_tellAside_65 ?_
      refine x_sub [(0, .ref 153), (2, .int 0)] [1, 0] rfl ?_
      exact G8_tellAside_L66_ok C hd hr  h
    · have h := h.2 c22
      refine x_bipush (v := (-2)) C (by decide) dX8_tellAside_33 ?_
      exact x_iret C hr dX8_tellAside_35 ⟨_, rfl, h⟩
  · have h := h.2 c18
    refine x_iconst (v := (-1)) C (by decide) dX8_tellAside_11 ?_
    exact x_iret C hr dX8_tellAside_12 ⟨_, rfl, h⟩
set_option maxHeartbeats 4000000 in
set_option maxRecDepth 100000 in
theorem G11_aside_met {l : Launch} {φ : Nat → Nat} {tc : Nat → ClassId} {D : va_G} {s0 : State} (hG : GX φ tc D s0) {dR : Nat} (hd : G11_aside_dep ≤ dR) {v1 : Int32} {μ : MM} {Q : Int32 → MM → Prop}  (h : G11_aside v1 μ Q) : MX l φ tc D s0 dR yX11_aside cX11_aside 2 (some .int) [.ref 0, .int v1] μ (QI Q) := by
  refine MX.of (own := RX11) hG plX11 rfl (Nat.le_of_ble_eq_true rfl) (fun p e s m args below meth c C hr => ?_)
  refine x_sub [(0, .ref 0), (1, .int v1)] [0, 1] rfl ?_
  unfold G11_aside at h
  refine x_aload_n C rfl 0 rfl dX11_aside_0 ?_
  refine x_getR (r := 153) C (j := 2) ob0.1 ob0.2 (Nat.le_of_ble_eq_true rfl) (Nat.le_of_ble_eq_true rfl) (fun _ _ _ => rfl) r_0_2 tw_2_165 dX11_aside_1 ?_
  refine x_iload_n C rfl 1 rfl dX11_aside_4 ?_
  refine x_callVN (dC := G8_tellAside_dep) (as := [.int v1]) (st := []) C rX kX (Nat.le_trans (Nat.le_of_ble_eq_true rfl) hd) (Nat.le_of_ble_eq_true rfl) ob153.1 ob153.2 (Nat.le_of_ble_eq_true rfl) rfl ts_3_12 tw_4_71 tw_4_69 tc_4_72 tw_1_6 hyX8 hnX8_tellAside rfl (Nat.le_of_ble_eq_true rfl) dX11_aside_5 (G8_tellAside_met C.2.2.2.2.2.2.2.1 (Nat.le_refl _)  h) (fun r0 μ3 hq => ?_)
  obtain ⟨r4, rfl, h⟩ := hq
  refine x_st [.int r4] rfl ?_
  exact x_iret C hr dX11_aside_8 ⟨_, rfl, h⟩
set_option maxHeartbeats 4000000 in
set_option maxRecDepth 100000 in
theorem G11_choices_L16_b {p : Program} {e : Env} {s : State} {m : MethodId} {args : Array Value} {below : List Frame} {meth : Method} {c : Code} {l : Launch} {φ : Nat → Nat} {tc : Nat → ClassId} {D : va_G} {s0 : State} {dR : Nat} (C : CX p s m args meth c φ tc D (AX φ) s0 cX11_choices RX11 5) (hd : G11_choices_dep ≤ dR) (hr : meth.sig.returnType = (some .long))  {p0 : Int32} {p1 : Int32} {Q : Int64 → MM → Prop} {K16 : Int64 × Int32 × MM → Prop} {x : Int64 × Int32 × MM}   (hK16 : ∀ (z2 : Int64) (z4 : Int32) (zμ : MM), K16 (z2, z4, zμ) → WX p l e (rmX dR) s m args below meth c φ tc D (AX φ) 5 0 0 (MQ below (QX φ tc D (QJ Q)) args s 0 0 (AX φ)) 16 [(0, .int p0), (1, .int p1), (2, .long z2), (4, .int z4)] [] zμ) (h : G11_choices_L16 p0 p1 Q K16 x) : WX p l e (rmX dR) s m args below meth c φ tc D (AX φ) 5 0 0 (MQ below (QX φ tc D (QJ Q)) args s 0 0 (AX φ)) 16 [(0, .int p0), (1, .int p1), (2, .long x.1), (4, .int x.2.1)] [] x.2.2 := by
  unfold G11_choices_L16 at h
  refine x_iload C 3 rfl dX11_choices_16 ?_
  refine x_iload_n C rfl 1 rfl dX11_choices_18 ?_
  refine x_icmp_gt (tgt := 42) C dX11_choices_19 (by decide) (fun c5 => ?_) (fun c5 => ?_)
  · have h := h.1 c5
    refine x_lload_n C rfl 2 rfl dX11_choices_42 ?_
    exact x_lret C hr dX11_choices_43 ⟨_, rfl, h⟩
  · have h := h.2 c5
    refine x_lload_n C rfl 2 rfl dX11_choices_22 ?_
    refine x_iload_n C rfl 0 rfl dX11_choices_23 ?_
    refine x_iload_n C rfl 1 rfl dX11_choices_24 ?_
    refine x_isub C dX11_choices_25 ?_
    refine x_iload C 3 rfl dX11_choices_26 ?_
    refine x_iadd C dX11_choices_28 ?_
    refine x_i2l C dX11_choices_29 ?_
    refine x_lmul C dX11_choices_30 ?_
    refine x_iload C 3 rfl dX11_choices_31 ?_
    refine x_i2l C dX11_choices_33 ?_
    obtain ⟨c6, h⟩ := h
    refine x_ldiv C c6 dX11_choices_34 ?_
    refine x_topl (fun y7 e_y7 => ?_)
    have h := h y7 e_y7
    refine x_lstore_n C [(2, .long y7), (0, .int p0), (1, .int p1), (4, .int x.2.1)] rfl (Nat.le_of_ble_eq_true rfl) rfl dX11_choices_35 ?_
    refine x_iinc (v := (x.2.1 + 1)) C [(4, .int (x.2.1 + 1)), (2, .long y7), (0, .int p0), (1, .int p1)] 3 rfl (congrArg (fun z => x.2.1 + z) (by decide : Int32.ofInt (1) = 1)) (Nat.le_of_ble_eq_true rfl) rfl dX11_choices_36 ?_
    refine x_goto (tgt := 16) C dX11_choices_39 (by decide) ?_
    refine x_sub [(0, .int p0), (1, .int p1), (2, .long y7), (4, .int (x.2.1 + 1))] [2, 3, 1, 0] rfl ?_
    exact hK16 _ _ _ h
theorem G11_choices_L16_ok {p : Program} {e : Env} {s : State} {m : MethodId} {args : Array Value} {below : List Frame} {meth : Method} {c : Code} {l : Launch} {φ : Nat → Nat} {tc : Nat → ClassId} {D : va_G} {s0 : State} {dR : Nat} (C : CX p s m args meth c φ tc D (AX φ) s0 cX11_choices RX11 5) (hd : G11_choices_dep ≤ dR) (hr : meth.sig.returnType = (some .long))  {p0 : Int32} {p1 : Int32} {Q : Int64 → MM → Prop}  {x : Int64 × Int32 × MM}    (h : Lp (G11_choices_L16 p0 p1 Q) x) : WX p l e (rmX dR) s m args below meth c φ tc D (AX φ) 5 0 0 (MQ below (QX φ tc D (QJ Q)) args s 0 0 (AX φ)) 16 [(0, .int p0), (1, .int p1), (2, .long x.1), (4, .int x.2.1)] [] x.2.2 := by
  obtain ⟨n, h⟩ := h
  induction n generalizing x with
  | zero => exact h.elim
  | succ n ih => exact G11_choices_L16_b C hd hr   (fun z2 z4 zμ hz => by have q := ih hz; exact q) h
set_option maxHeartbeats 4000000 in
set_option maxRecDepth 100000 in
theorem G11_choices_met {l : Launch} {φ : Nat → Nat} {tc : Nat → ClassId} {D : va_G} {s0 : State} (hG : GX φ tc D s0) {dR : Nat} (hd : G11_choices_dep ≤ dR) {v0 : Int32} {v1 : Int32} {μ : MM} {Q : Int64 → MM → Prop}  (h : G11_choices v0 v1 μ Q) : MX l φ tc D s0 dR yX11_choices cX11_choices 5 (some .long) [.int v0, .int v1] μ (QJ Q) := by
  refine MX.of (own := RX11) hG plX11 rfl (Nat.le_of_ble_eq_true rfl) (fun p e s m args below meth c C hr => ?_)
  refine x_sub [(0, .int v0), (1, .int v1)] [0, 1] rfl ?_
  unfold G11_choices at h
  refine x_iload_n C rfl 1 rfl dX11_choices_0 ?_
  refine x_if_lt (tgt := 9) C dX11_choices_1 (by decide) (fun c3 => ?_) (fun c3 => ?_)
  · have h := h.1 c3
    refine x_lconst (v := 0) C (by decide) dX11_choices_9 ?_
    exact x_lret C hr dX11_choices_10 ⟨_, rfl, h⟩
  · have h := h.2 c3
    refine x_iload_n C rfl 1 rfl dX11_choices_4 ?_
    refine x_iload_n C rfl 0 rfl dX11_choices_5 ?_
    refine x_icmp_le (tgt := 11) C dX11_choices_6 (by decide) (fun c4 => ?_) (fun c4 => ?_)
    · have h := h.1 c4
      refine x_lconst (v := 1) C (by decide) dX11_choices_11 ?_
      refine x_lstore_n C [(2, .long 1), (0, .int v0), (1, .int v1)] rfl (Nat.le_of_ble_eq_true rfl) rfl dX11_choices_12 ?_
      refine x_iconst (v := 1) C (by decide) dX11_choices_13 ?_
      refine x_istore C [(4, .int 1), (2, .long 1), (0, .int v0), (1, .int v1)] (Nat.le_of_ble_eq_true rfl) rfl dX11_choices_14 ?_
      refine x_sub [(0, .int v0), (1, .int v1), (2, .long 1), (4, .int 1)] [2, 3, 1, 0] rfl ?_
      exact G11_choices_L16_ok C hd hr  h
    · have h := h.2 c4
      refine x_lconst (v := 0) C (by decide) dX11_choices_9 ?_
      exact x_lret C hr dX11_choices_10 ⟨_, rfl, h⟩
set_option maxHeartbeats 4000000 in
set_option maxRecDepth 100000 in
theorem G8_joinWaysOfPart_L43_b {p : Program} {e : Env} {s : State} {m : MethodId} {args : Array Value} {below : List Frame} {meth : Method} {c : Code} {l : Launch} {φ : Nat → Nat} {tc : Nat → ClassId} {D : va_G} {s0 : State} {dR : Nat} (C : CX p s m args meth c φ tc D (AX φ) s0 cX8_joinWaysOfPart RX8 9) (hd : G8_joinWaysOfPart_dep ≤ dR) (hr : meth.sig.returnType = none)  {p1 : Int32} {p2 : Int32} {p3 : Int32} {Q : MM → Prop} {K33 : Int32 × MM → Prop} {K43 : Int64 × Int32 × MM → Prop} {x : Int64 × Int32 × MM}   (hK33 : ∀ (z3 : Int32) (zμ : MM), K33 (z3, zμ) → WX p l e (rmX dR) s m args below meth c φ tc D (AX φ) 9 0 0 (MQ below (QX φ tc D (QV Q)) args s 0 0 (AX φ)) 33 [(0, .ref 153), (1, .int p1), (2, .int p2), (3, .int z3)] [] zμ) (hK43 : ∀ (z4 : Int64) (z6 : Int32) (zμ : MM), K43 (z4, z6, zμ) → WX p l e (rmX dR) s m args below meth c φ tc D (AX φ) 9 0 0 (MQ below (QX φ tc D (QV Q)) args s 0 0 (AX φ)) 43 [(0, .ref 153), (1, .int p1), (2, .int p2), (3, .int p3), (4, .long z4), (6, .int z6)] [] zμ) (h : G8_joinWaysOfPart_L43 p1 p2 p3 K33 Q K43 x) : WX p l e (rmX dR) s m args below meth c φ tc D (AX φ) 9 0 0 (MQ below (QX φ tc D (QV Q)) args s 0 0 (AX φ)) 43 [(0, .ref 153), (1, .int p1), (2, .int p2), (3, .int p3), (4, .long x.1), (6, .int x.2.1)] [] x.2.2 := by
  unfold G8_joinWaysOfPart_L43 at h
  refine x_iload C 5 rfl dX8_joinWaysOfPart_43 ?_
  refine x_iload_n C rfl 1 rfl dX8_joinWaysOfPart_45 ?_
  refine x_icmp_gt (tgt := 103) C dX8_joinWaysOfPart_46 (by decide) (fun c21 => ?_) (fun c21 => ?_)
  · have h := h.1 c21
    refine x_aload_n C rfl 0 rfl dX8_joinWaysOfPart_103 ?_
    refine x_getR (r := 163) C (j := 5) ob153.1 ob153.2 (Nat.le_of_ble_eq_true rfl) (Nat.le_of_ble_eq_true rfl) (fun _ _ _ => rfl) r_153_5 tw_2_8 dX8_joinWaysOfPart_104 ?_
    refine x_iload_n C rfl 3 rfl dX8_joinWaysOfPart_107 ?_
    refine x_lload C 4 rfl dX8_joinWaysOfPart_108 ?_
    obtain ⟨c22, h⟩ := h
    refine x_last C ob163.1 ob163.2 c22 rfl dX8_joinWaysOfPart_110 ?_
    refine x_mu (fun μ23 e_μ23 => ?_)
    have h := h μ23 e_μ23
    refine x_iinc (v := (p3 + (-1))) C [(3, .int (p3 + (-1))), (0, .ref 153), (1, .int p1), (2, .int p2), (4, .long x.1), (6, .int x.2.1)] 3 rfl (congrArg (fun z => p3 + z) (by decide : Int32.ofInt (-1) = (-1))) (Nat.le_of_ble_eq_true rfl) rfl dX8_joinWaysOfPart_111 ?_
    refine x_goto (tgt := 33) C dX8_joinWaysOfPart_114 (by decide) ?_
    refine x_sub [(0, .ref 153), (1, .int p1), (2, .int p2), (3, .int (p3 + (-1)))] [1, 2, 3, 0] rfl ?_
    exact hK33 _ _ h
  · have h := h.2 c21
    refine x_iload C 5 rfl dX8_joinWaysOfPart_49 ?_
    refine x_iload_n C rfl 3 rfl dX8_joinWaysOfPart_51 ?_
    refine x_icmp_gt (tgt := 103) C dX8_joinWaysOfPart_52 (by decide) (fun c24 => ?_) (fun c24 => ?_)
    · have h := h.1 c24
      refine x_aload_n C rfl 0 rfl dX8_joinWaysOfPart_103 ?_
      refine x_getR (r := 163) C (j := 5) ob153.1 ob153.2 (Nat.le_of_ble_eq_true rfl) (Nat.le_of_ble_eq_true rfl) (fun _ _ _ => rfl) r_153_5 tw_2_8 dX8_joinWaysOfPart_104 ?_
      refine x_iload_n C rfl 3 rfl dX8_joinWaysOfPart_107 ?_
      refine x_lload C 4 rfl dX8_joinWaysOfPart_108 ?_
      obtain ⟨c25, h⟩ := h
      refine x_last C ob163.1 ob163.2 c25 rfl dX8_joinWaysOfPart_110 ?_
      refine x_mu (fun μ26 e_μ26 => ?_)
      have h := h μ26 e_μ26
      refine x_iinc (v := (p3 + (-1))) C [(3, .int (p3 + (-1))), (0, .ref 153), (1, .int p1), (2, .int p2), (4, .long x.1), (6, .int x.2.1)] 3 rfl (congrArg (fun z => p3 + z) (by decide : Int32.ofInt (-1) = (-1))) (Nat.le_of_ble_eq_true rfl) rfl dX8_joinWaysOfPart_111 ?_
      refine x_goto (tgt := 33) C dX8_joinWaysOfPart_114 (by decide) ?_
      refine x_sub [(0, .ref 153), (1, .int p1), (2, .int p2), (3, .int (p3 + (-1)))] [1, 2, 3, 0] rfl ?_
      exact hK33 _ _ h
    · have h := h.2 c24
      refine x_iload_n C rfl 1 rfl dX8_joinWaysOfPart_55 ?_
      refine x_iload C 5 rfl dX8_joinWaysOfPart_56 ?_
      refine x_callSN (dC := G11_choices_dep) (as := [.int p1, .int x.2.1]) (st := []) C rX kX (Nat.le_trans (Nat.le_of_ble_eq_true rfl) hd) (Nat.le_of_ble_eq_true rfl) tw_4_104 tw_4_103 tc_4_105 tw_1_1 hyX11 hnX11_choices rfl (Nat.le_of_ble_eq_true rfl) dX8_joinWaysOfPart_58 (G11_choices_met C.2.2.2.2.2.2.2.1 (Nat.le_refl _)  h) (fun r0 μ27 hq => ?_)
      obtain ⟨r28, rfl, h⟩ := hq
      refine x_st [.long r28] rfl ?_
      refine x_iload_n C rfl 2 rfl dX8_joinWaysOfPart_61 ?_
      refine x_aload_n C rfl 0 rfl dX8_joinWaysOfPart_62 ?_
      refine x_getR (r := 157) C (j := 3) ob153.1 ob153.2 (Nat.le_of_ble_eq_true rfl) (Nat.le_of_ble_eq_true rfl) (fun _ _ _ => rfl) r_153_3 tw_2_6 dX8_joinWaysOfPart_63 ?_
      refine x_getRN (r := 158) C (j := 0) ob157.1 ob157.2 (Nat.le_of_ble_eq_true rfl) (Nat.le_of_ble_eq_true rfl) (fun _ _ _ => rfl) r_157_0 tw_1_233 dX8_joinWaysOfPart_66 ?_
      refine x_iconst (v := 1) C (by decide) dX8_joinWaysOfPart_69 ?_
      refine x_iald C ob158.1 ob158.2 (by unfold vp_in; decide) (j := 1) (by decide) dX8_joinWaysOfPart_70 ?_
      refine x_iload C 5 rfl dX8_joinWaysOfPart_71 ?_
      refine x_isub C dX8_joinWaysOfPart_73 ?_
      refine x_callSN (dC := G11_choices_dep) (as := [.int p2, .int ((gI μ27 158 1) - x.2.1)]) (st := [.long r28]) C rX kX (Nat.le_trans (Nat.le_of_ble_eq_true rfl) hd) (Nat.le_of_ble_eq_true rfl) tw_4_104 tw_4_103 tc_4_105 tw_1_1 hyX11 hnX11_choices rfl (Nat.le_of_ble_eq_true rfl) dX8_joinWaysOfPart_74 (G11_choices_met C.2.2.2.2.2.2.2.1 (Nat.le_refl _)  h) (fun r0 μ29 hq => ?_)
      obtain ⟨r30, rfl, h⟩ := hq
      refine x_st [.long r30, .long r28] rfl ?_
      refine x_lmul C dX8_joinWaysOfPart_77 ?_
      refine x_topl (fun y31 e_y31 => ?_)
      have h := h y31 e_y31
      refine x_lstore C [(7, .long y31), (0, .ref 153), (1, .int p1), (2, .int p2), (3, .int p3), (4, .long x.1), (6, .int x.2.1)] (Nat.le_of_ble_eq_true rfl) rfl dX8_joinWaysOfPart_78 ?_
      refine x_lload C 5 rfl dX8_joinWaysOfPart_80 ?_
      refine x_aload_n C rfl 1 rfl dX8_joinWaysOfPart_82 ?_
      refine x_getR (r := 163) C (j := 5) ob153.1 ob153.2 (Nat.le_of_ble_eq_true rfl) (Nat.le_of_ble_eq_true rfl) (fun _ _ _ => rfl) r_153_5 tw_2_8 dX8_joinWaysOfPart_83 ?_
      refine x_iload_n C rfl 4 rfl dX8_joinWaysOfPart_86 ?_
      refine x_iload C 6 rfl dX8_joinWaysOfPart_87 ?_
      refine x_isub C dX8_joinWaysOfPart_89 ?_
      obtain ⟨c32, h⟩ := h
      refine x_lald C ob163.1 ob163.2 c32 rfl dX8_joinWaysOfPart_90 ?_
      refine x_lload C 0 rfl dX8_joinWaysOfPart_91 ?_
      refine x_lmul C dX8_joinWaysOfPart_93 ?_
      refine x_ladd C dX8_joinWaysOfPart_94 ?_
      refine x_topl (fun y33 e_y33 => ?_)
      have h := h y33 e_y33
      refine x_lstore C [(4, .long y33), (7, .long y31), (0, .ref 153), (1, .int p1), (2, .int p2), (3, .int p3), (6, .int x.2.1)] (Nat.le_of_ble_eq_true rfl) rfl dX8_joinWaysOfPart_95 ?_
      refine x_iinc (v := (x.2.1 + 1)) C [(6, .int (x.2.1 + 1)), (4, .long y33), (7, .long y31), (0, .ref 153), (1, .int p1), (2, .int p2), (3, .int p3)] 6 rfl (congrArg (fun z => x.2.1 + z) (by decide : Int32.ofInt (1) = 1)) (Nat.le_of_ble_eq_true rfl) rfl dX8_joinWaysOfPart_97 ?_
      refine x_goto (tgt := 43) C dX8_joinWaysOfPart_100 (by decide) ?_
      refine x_sub [(0, .ref 153), (1, .int p1), (2, .int p2), (3, .int p3), (4, .long y33), (6, .int (x.2.1 + 1))] [3, 4, 5, 6, 1, 0] rfl ?_
      exact hK43 _ _ _ h
theorem G8_joinWaysOfPart_L43_ok {p : Program} {e : Env} {s : State} {m : MethodId} {args : Array Value} {below : List Frame} {meth : Method} {c : Code} {l : Launch} {φ : Nat → Nat} {tc : Nat → ClassId} {D : va_G} {s0 : State} {dR : Nat} (C : CX p s m args meth c φ tc D (AX φ) s0 cX8_joinWaysOfPart RX8 9) (hd : G8_joinWaysOfPart_dep ≤ dR) (hr : meth.sig.returnType = none)  {p1 : Int32} {p2 : Int32} {p3 : Int32} {Q : MM → Prop} {K33 : Int32 × MM → Prop} {x : Int64 × Int32 × MM}   (hK33 : ∀ (z3 : Int32) (zμ : MM), K33 (z3, zμ) → WX p l e (rmX dR) s m args below meth c φ tc D (AX φ) 9 0 0 (MQ below (QX φ tc D (QV Q)) args s 0 0 (AX φ)) 33 [(0, .ref 153), (1, .int p1), (2, .int p2), (3, .int z3)] [] zμ) (h : Lp (G8_joinWaysOfPart_L43 p1 p2 p3 K33 Q) x) : WX p l e (rmX dR) s m args below meth c φ tc D (AX φ) 9 0 0 (MQ below (QX φ tc D (QV Q)) args s 0 0 (AX φ)) 43 [(0, .ref 153), (1, .int p1), (2, .int p2), (3, .int p3), (4, .long x.1), (6, .int x.2.1)] [] x.2.2 := by
  obtain ⟨n, h⟩ := h
  induction n generalizing x with
  | zero => exact h.elim
  | succ n ih => exact G8_joinWaysOfPart_L43_b C hd hr  hK33 (fun z4 z6 zμ hz => by have q := ih hz; exact q) h
set_option maxHeartbeats 4000000 in
set_option maxRecDepth 100000 in
theorem G8_joinWaysOfPart_L33_b {p : Program} {e : Env} {s : State} {m : MethodId} {args : Array Value} {below : List Frame} {meth : Method} {c : Code} {l : Launch} {φ : Nat → Nat} {tc : Nat → ClassId} {D : va_G} {s0 : State} {dR : Nat} (C : CX p s m args meth c φ tc D (AX φ) s0 cX8_joinWaysOfPart RX8 9) (hd : G8_joinWaysOfPart_dep ≤ dR) (hr : meth.sig.returnType = none)  {p1 : Int32} {p2 : Int32} {Q : MM → Prop} {K33 : Int32 × MM → Prop} {x : Int32 × MM}   (hK33 : ∀ (z3 : Int32) (zμ : MM), K33 (z3, zμ) → WX p l e (rmX dR) s m args below meth c φ tc D (AX φ) 9 0 0 (MQ below (QX φ tc D (QV Q)) args s 0 0 (AX φ)) 33 [(0, .ref 153), (1, .int p1), (2, .int p2), (3, .int z3)] [] zμ) (h : G8_joinWaysOfPart_L33 p1 p2 Q K33 x) : WX p l e (rmX dR) s m args below meth c φ tc D (AX φ) 9 0 0 (MQ below (QX φ tc D (QV Q)) args s 0 0 (AX φ)) 33 [(0, .ref 153), (1, .int p1), (2, .int p2), (3, .int x.1)] [] x.2 := by
  unfold G8_joinWaysOfPart_L33 at h
  refine x_iload_n C rfl 3 rfl dX8_joinWaysOfPart_33 ?_
  refine x_if_lt (tgt := 117) C dX8_joinWaysOfPart_34 (by decide) (fun c20 => ?_) (fun c20 => ?_)
  · have h := h.1 c20
    exact x_vret C hr dX8_joinWaysOfPart_117 ⟨rfl, h⟩
  · have h := h.2 c20
    refine x_lconst (v := 0) C (by decide) dX8_joinWaysOfPart_37 ?_
    refine x_lstore C [(4, .long 0), (0, .ref 153), (1, .int p1), (2, .int p2), (3, .int x.1)] (Nat.le_of_ble_eq_true rfl) rfl dX8_joinWaysOfPart_38 ?_
    refine x_iconst (v := 0) C (by decide) dX8_joinWaysOfPart_40 ?_
    refine x_istore C [(6, .int 0), (4, .long 0), (0, .ref 153), (1, .int p1), (2, .int p2), (3, .int x.1)] (Nat.le_of_ble_eq_true rfl) rfl dX8_joinWaysOfPart_41 ?_
    refine x_sub [(0, .ref 153), (1, .int p1), (2, .int p2), (3, .int x.1), (4, .long 0), (6, .int 0)] [2, 3, 4, 5, 1, 0] rfl ?_
    exact G8_joinWaysOfPart_L43_ok C hd hr hK33 h
theorem G8_joinWaysOfPart_L33_ok {p : Program} {e : Env} {s : State} {m : MethodId} {args : Array Value} {below : List Frame} {meth : Method} {c : Code} {l : Launch} {φ : Nat → Nat} {tc : Nat → ClassId} {D : va_G} {s0 : State} {dR : Nat} (C : CX p s m args meth c φ tc D (AX φ) s0 cX8_joinWaysOfPart RX8 9) (hd : G8_joinWaysOfPart_dep ≤ dR) (hr : meth.sig.returnType = none)  {p1 : Int32} {p2 : Int32} {Q : MM → Prop}  {x : Int32 × MM}    (h : Lp (G8_joinWaysOfPart_L33 p1 p2 Q) x) : WX p l e (rmX dR) s m args below meth c φ tc D (AX φ) 9 0 0 (MQ below (QX φ tc D (QV Q)) args s 0 0 (AX φ)) 33 [(0, .ref 153), (1, .int p1), (2, .int p2), (3, .int x.1)] [] x.2 := by
  obtain ⟨n, h⟩ := h
  induction n generalizing x with
  | zero => exact h.elim
  | succ n ih => exact G8_joinWaysOfPart_L33_b C hd hr   (fun z3 zμ hz => by have q := ih hz; exact q) h
set_option maxHeartbeats 4000000 in
set_option maxRecDepth 100000 in
theorem G8_joinWaysOfPart_met {l : Launch} {φ : Nat → Nat} {tc : Nat → ClassId} {D : va_G} {s0 : State} (hG : GX φ tc D s0) {dR : Nat} (hd : G8_joinWaysOfPart_dep ≤ dR)  {μ : MM} {Q : MM → Prop}  (h : G8_joinWaysOfPart  μ Q) : MX l φ tc D s0 dR yX8_joinWaysOfPart cX8_joinWaysOfPart 9 none [.ref 153] μ (QV Q) := by
  refine MX.of (own := RX8) hG plX8 rfl (Nat.le_of_ble_eq_true rfl) (fun p e s m args below meth c C hr => ?_)
  refine x_sub [(0, .ref 153)] [0] rfl ?_
  unfold G8_joinWaysOfPart at h
  refine x_aload_n C rfl 0 rfl dX8_joinWaysOfPart_0 ?_
  refine x_getR (r := 157) C (j := 3) ob153.1 ob153.2 (Nat.le_of_ble_eq_true rfl) (Nat.le_of_ble_eq_true rfl) (fun _ _ _ => rfl) r_153_3 tw_2_6 dX8_joinWaysOfPart_1 ?_
  refine x_getRN (r := 159) C (j := 1) ob157.1 ob157.2 (Nat.le_of_ble_eq_true rfl) (Nat.le_of_ble_eq_true rfl) (fun _ _ _ => rfl) r_157_1 tw_1_236 dX8_joinWaysOfPart_4 ?_
  refine x_iconst (v := 0) C (by decide) dX8_joinWaysOfPart_7 ?_
  refine x_iald C ob159.1 ob159.2 (by unfold vp_in; decide) (j := 0) (by decide) dX8_joinWaysOfPart_8 ?_
  refine x_aload_n C rfl 0 rfl dX8_joinWaysOfPart_9 ?_
  refine x_getR (r := 157) C (j := 3) ob153.1 ob153.2 (Nat.le_of_ble_eq_true rfl) (Nat.le_of_ble_eq_true rfl) (fun _ _ _ => rfl) r_153_3 tw_2_6 dX8_joinWaysOfPart_10 ?_
  refine x_getRN (r := 159) C (j := 1) ob157.1 ob157.2 (Nat.le_of_ble_eq_true rfl) (Nat.le_of_ble_eq_true rfl) (fun _ _ _ => rfl) r_157_1 tw_1_236 dX8_joinWaysOfPart_13 ?_
  refine x_iconst (v := 1) C (by decide) dX8_joinWaysOfPart_16 ?_
  refine x_iald C ob159.1 ob159.2 (by unfold vp_in; decide) (j := 1) (by decide) dX8_joinWaysOfPart_17 ?_
  refine x_iadd C dX8_joinWaysOfPart_18 ?_
  refine x_topi (fun y16 e_y16 => ?_)
  have h := h y16 e_y16
  refine x_istore_n C [(1, .int y16), (0, .ref 153)] rfl (Nat.le_of_ble_eq_true rfl) rfl dX8_joinWaysOfPart_19 ?_
  refine x_aload_n C rfl 1 rfl dX8_joinWaysOfPart_20 ?_
  refine x_getR (r := 157) C (j := 3) ob153.1 ob153.2 (Nat.le_of_ble_eq_true rfl) (Nat.le_of_ble_eq_true rfl) (fun _ _ _ => rfl) r_153_3 tw_2_6 dX8_joinWaysOfPart_21 ?_
  refine x_callVN (dC := G9_all_dep) (as := []) (st := []) C rX kX (Nat.le_trans (Nat.le_of_ble_eq_true rfl) hd) (Nat.le_of_ble_eq_true rfl) ob157.1 ob157.2 (Nat.le_of_ble_eq_true rfl) rfl ts_3_9 tw_4_52 tw_4_50 tc_4_53 tw_1_7 hyX9 hnX9_all rfl (Nat.le_of_ble_eq_true rfl) dX8_joinWaysOfPart_24 (G9_all_met C.2.2.2.2.2.2.2.1 (Nat.le_refl _) ob157 h) (fun r0 μ17 hq => ?_)
  obtain ⟨r18, rfl, h⟩ := hq
  refine x_st [.int r18] rfl ?_
  refine x_iload_n C rfl 0 rfl dX8_joinWaysOfPart_27 ?_
  refine x_isub C dX8_joinWaysOfPart_28 ?_
  refine x_topi (fun y19 e_y19 => ?_)
  have h := h y19 e_y19
  refine x_istore_n C [(2, .int y19), (1, .int y16), (0, .ref 153)] rfl (Nat.le_of_ble_eq_true rfl) rfl dX8_joinWaysOfPart_29 ?_
  refine x_bipush (v := 96) C (by decide) dX8_joinWaysOfPart_30 ?_
  refine x_istore_n C [(3, .int 96), (2, .int y19), (1, .int y16), (0, .ref 153)] rfl (Nat.le_of_ble_eq_true rfl) rfl dX8_joinWaysOfPart_32 ?_
  refine x_sub [(0, .ref 153), (1, .int y16), (2, .int y19), (3, .int 96)] [3, 2, 1, 0] rfl ?_
  exact G8_joinWaysOfPart_L33_ok C hd hr  h
set_option maxHeartbeats 4000000 in
set_option maxRecDepth 100000 in
theorem G8_countWays_L31_b {p : Program} {e : Env} {s : State} {m : MethodId} {args : Array Value} {below : List Frame} {meth : Method} {c : Code} {l : Launch} {φ : Nat → Nat} {tc : Nat → ClassId} {D : va_G} {s0 : State} {dR : Nat} (C : CX p s m args meth c φ tc D (AX φ) s0 cX8_countWays RX8 3) (hd : G8_countWays_dep ≤ dR) (hr : meth.sig.returnType = none)  {p1 : Int32} {Q : MM → Prop} {K31 : Int32 × MM → Prop} {x : Int32 × MM}   (hK31 : ∀ (z2 : Int32) (zμ : MM), K31 (z2, zμ) → WX p l e (rmX dR) s m args below meth c φ tc D (AX φ) 3 0 0 (MQ below (QX φ tc D (QV Q)) args s 0 0 (AX φ)) 31 [(0, .ref 153), (1, .int p1), (2, .int z2)] [] zμ) (h : G8_countWays_L31 p1 Q K31 x) : WX p l e (rmX dR) s m args below meth c φ tc D (AX φ) 3 0 0 (MQ below (QX φ tc D (QV Q)) args s 0 0 (AX φ)) 31 [(0, .ref 153), (1, .int p1), (2, .int x.1)] [] x.2 := by
  unfold G8_countWays_L31 at h
  refine x_iload_n C rfl 2 rfl dX8_countWays_31 ?_
  refine x_aload_n C rfl 0 rfl dX8_countWays_32 ?_
  refine x_getR (r := 1) C (j := 0) ob153.1 ob153.2 (Nat.le_of_ble_eq_true rfl) (Nat.le_of_ble_eq_true rfl) (fun _ _ _ => rfl) r_153_0 tw_2_3 dX8_countWays_33 ?_
  refine x_getIN C (j := 8) ob1.1 ob1.2 (Nat.le_of_ble_eq_true rfl) (Nat.le_of_ble_eq_true rfl) (Or.inl rfl) tw_1_141 dX8_countWays_36 ?_
  refine x_icmp_ge (tgt := 72) C dX8_countWays_39 (by decide) (fun c10 => ?_) (fun c10 => ?_)
  · have h := h.1 c10
    exact x_vret C hr dX8_countWays_72 ⟨rfl, h⟩
  · have h := h.2 c10
    refine x_aload_n C rfl 0 rfl dX8_countWays_42 ?_
    refine x_aload_n C rfl 0 rfl dX8_countWays_43 ?_
    refine x_getR (r := 157) C (j := 3) ob153.1 ob153.2 (Nat.le_of_ble_eq_true rfl) (Nat.le_of_ble_eq_true rfl) (fun _ _ _ => rfl) r_153_3 tw_2_6 dX8_countWays_44 ?_
    refine x_iload_n C rfl 1 rfl dX8_countWays_47 ?_
    refine x_iload_n C rfl 2 rfl dX8_countWays_48 ?_
    refine x_callV (dC := G8_gather_dep) (as := [.ref 157, .int p1, .int x.1]) (st := []) C rX kX (Nat.le_trans (Nat.le_of_ble_eq_true rfl) hd) (Nat.le_of_ble_eq_true rfl) ob153.1 ob153.2 (Nat.le_of_ble_eq_true rfl) rfl ts_3_3 tw_4_28 tw_4_26 tc_4_29 tw_1_6 hyX8 hnX8_gather rfl (Nat.le_of_ble_eq_true rfl) dX8_countWays_49 (G8_gather_met C.2.2.2.2.2.2.2.1 (Nat.le_refl _) ob157 h) (fun r0 μ11 hq => ?_)
    obtain ⟨rfl, h⟩ := hq
    refine x_st [] rfl ?_
    refine x_aload_n C rfl 0 rfl dX8_countWays_52 ?_
    refine x_getR (r := 157) C (j := 3) ob153.1 ob153.2 (Nat.le_of_ble_eq_true rfl) (Nat.le_of_ble_eq_true rfl) (fun _ _ _ => rfl) r_153_3 tw_2_6 dX8_countWays_53 ?_
    refine x_callVN (dC := G9_all_dep) (as := []) (st := []) C rX kX (Nat.le_trans (Nat.le_of_ble_eq_true rfl) hd) (Nat.le_of_ble_eq_true rfl) ob157.1 ob157.2 (Nat.le_of_ble_eq_true rfl) rfl ts_3_9 tw_4_52 tw_4_50 tc_4_53 tw_1_7 hyX9 hnX9_all rfl (Nat.le_of_ble_eq_true rfl) dX8_countWays_56 (G9_all_met C.2.2.2.2.2.2.2.1 (Nat.le_refl _) ob157 h) (fun r0 μ12 hq => ?_)
    obtain ⟨r13, rfl, h⟩ := hq
    refine x_st [.int r13] rfl ?_
    refine x_if_le (tgt := 66) C dX8_countWays_59 (by decide) (fun c14 => ?_) (fun c14 => ?_)
    · have h := h.1 c14
      refine x_iinc (v := (x.1 + 1)) C [(2, .int (x.1 + 1)), (0, .ref 153), (1, .int p1)] 2 rfl (congrArg (fun z => x.1 + z) (by decide : Int32.ofInt (1) = 1)) (Nat.le_of_ble_eq_true rfl) rfl dX8_countWays_66 ?_
      refine x_goto (tgt := 31) C dX8_countWays_69 (by decide) ?_
      refine x_sub [(0, .ref 153), (1, .int p1), (2, .int (x.1 + 1))] [1, 2, 0] rfl ?_
      exact hK31 _ _ h
    · have h := h.2 c14
      refine x_aload_n C rfl 0 rfl dX8_countWays_62 ?_
      refine x_callV (dC := G8_joinWaysOfPart_dep) (as := []) (st := []) C rX kX (Nat.le_trans (Nat.le_of_ble_eq_true rfl) hd) (Nat.le_of_ble_eq_true rfl) ob153.1 ob153.2 (Nat.le_of_ble_eq_true rfl) rfl ts_4_2 tw_4_101 tw_4_99 tc_4_102 tw_1_6 hyX8 hnX8_joinWaysOfPart rfl (Nat.le_of_ble_eq_true rfl) dX8_countWays_63 (G8_joinWaysOfPart_met C.2.2.2.2.2.2.2.1 (Nat.le_refl _)  h) (fun r0 μ15 hq => ?_)
      obtain ⟨rfl, h⟩ := hq
      refine x_st [] rfl ?_
      refine x_iinc (v := (x.1 + 1)) C [(2, .int (x.1 + 1)), (0, .ref 153), (1, .int p1)] 2 rfl (congrArg (fun z => x.1 + z) (by decide : Int32.ofInt (1) = 1)) (Nat.le_of_ble_eq_true rfl) rfl dX8_countWays_66 ?_
      refine x_goto (tgt := 31) C dX8_countWays_69 (by decide) ?_
      refine x_sub [(0, .ref 153), (1, .int p1), (2, .int (x.1 + 1))] [1, 2, 0] rfl ?_
      exact hK31 _ _ h
theorem G8_countWays_L31_ok {p : Program} {e : Env} {s : State} {m : MethodId} {args : Array Value} {below : List Frame} {meth : Method} {c : Code} {l : Launch} {φ : Nat → Nat} {tc : Nat → ClassId} {D : va_G} {s0 : State} {dR : Nat} (C : CX p s m args meth c φ tc D (AX φ) s0 cX8_countWays RX8 3) (hd : G8_countWays_dep ≤ dR) (hr : meth.sig.returnType = none)  {p1 : Int32} {Q : MM → Prop}  {x : Int32 × MM}    (h : Lp (G8_countWays_L31 p1 Q) x) : WX p l e (rmX dR) s m args below meth c φ tc D (AX φ) 3 0 0 (MQ below (QX φ tc D (QV Q)) args s 0 0 (AX φ)) 31 [(0, .ref 153), (1, .int p1), (2, .int x.1)] [] x.2 := by
  obtain ⟨n, h⟩ := h
  induction n generalizing x with
  | zero => exact h.elim
  | succ n ih => exact G8_countWays_L31_b C hd hr   (fun z2 zμ hz => by have q := ih hz; exact q) h
set_option maxHeartbeats 4000000 in
set_option maxRecDepth 100000 in
theorem G8_countWays_L2_b {p : Program} {e : Env} {s : State} {m : MethodId} {args : Array Value} {below : List Frame} {meth : Method} {c : Code} {l : Launch} {φ : Nat → Nat} {tc : Nat → ClassId} {D : va_G} {s0 : State} {dR : Nat} (C : CX p s m args meth c φ tc D (AX φ) s0 cX8_countWays RX8 3) (hd : G8_countWays_dep ≤ dR) (hr : meth.sig.returnType = none)  {p1 : Int32} {Q : MM → Prop} {K2 : Int32 × MM → Prop} {x : Int32 × MM}   (hK2 : ∀ (z2 : Int32) (zμ : MM), K2 (z2, zμ) → WX p l e (rmX dR) s m args below meth c φ tc D (AX φ) 3 0 0 (MQ below (QX φ tc D (QV Q)) args s 0 0 (AX φ)) 2 [(0, .ref 153), (1, .int p1), (2, .int z2)] [] zμ) (h : G8_countWays_L2 p1 Q K2 x) : WX p l e (rmX dR) s m args below meth c φ tc D (AX φ) 3 0 0 (MQ below (QX φ tc D (QV Q)) args s 0 0 (AX φ)) 2 [(0, .ref 153), (1, .int p1), (2, .int x.1)] [] x.2 := by
  unfold G8_countWays_L2 at h
  refine x_iload_n C rfl 2 rfl dX8_countWays_2 ?_
  refine x_bipush (v := 96) C (by decide) dX8_countWays_3 ?_
  refine x_icmp_gt (tgt := 29) C dX8_countWays_5 (by decide) (fun c9 => ?_) (fun c9 => ?_)
  · have h := h.1 c9
    refine x_iconst (v := 0) C (by decide) dX8_countWays_29 ?_
    refine x_istore_n C [(2, .int 0), (0, .ref 153), (1, .int p1)] rfl (Nat.le_of_ble_eq_true rfl) rfl dX8_countWays_30 ?_
    refine x_sub [(0, .ref 153), (1, .int p1), (2, .int 0)] [1, 2, 0] rfl ?_
    exact G8_countWays_L31_ok C hd hr  h
  · have h := h.2 c9
    refine x_aload_n C rfl 0 rfl dX8_countWays_8 ?_
    refine x_getR (r := 163) C (j := 5) ob153.1 ob153.2 (Nat.le_of_ble_eq_true rfl) (Nat.le_of_ble_eq_true rfl) (fun _ _ _ => rfl) r_153_5 tw_2_8 dX8_countWays_9 ?_
    refine x_iload_n C rfl 2 rfl dX8_countWays_12 ?_
    refine x_iload_n C rfl 2 rfl dX8_countWays_13 ?_
    refine x_if_ne (tgt := 21) C dX8_countWays_14 (by decide) (fun c16 => ?_) (fun c16 => ?_)
    · have h := h.1 c16
      refine x_lconst (v := 0) C (by decide) dX8_countWays_21 ?_
      obtain ⟨c17, h⟩ := h
      refine x_last C ob163.1 ob163.2 c17 rfl dX8_countWays_22 ?_
      refine x_mu (fun μ18 e_μ18 => ?_)
      have h := h μ18 e_μ18
      refine x_iinc (v := (x.1 + 1)) C [(2, .int (x.1 + 1)), (0, .ref 153), (1, .int p1)] 2 rfl (congrArg (fun z => x.1 + z) (by decide : Int32.ofInt (1) = 1)) (Nat.le_of_ble_eq_true rfl) rfl dX8_countWays_23 ?_
      refine x_goto (tgt := 2) C dX8_countWays_26 (by decide) ?_
      refine x_sub [(0, .ref 153), (1, .int p1), (2, .int (x.1 + 1))] [1, 2, 0] rfl ?_
      exact hK2 _ _ h
    · have h := h.2 c16
      refine x_lconst (v := 1) C (by decide) dX8_countWays_17 ?_
      refine x_goto (tgt := 22) C dX8_countWays_18 (by decide) ?_
      obtain ⟨c19, h⟩ := h
      refine x_last C ob163.1 ob163.2 c19 rfl dX8_countWays_22 ?_
      refine x_mu (fun μ20 e_μ20 => ?_)
      have h := h μ20 e_μ20
      refine x_iinc (v := (x.1 + 1)) C [(2, .int (x.1 + 1)), (0, .ref 153), (1, .int p1)] 2 rfl (congrArg (fun z => x.1 + z) (by decide : Int32.ofInt (1) = 1)) (Nat.le_of_ble_eq_true rfl) rfl dX8_countWays_23 ?_
      refine x_goto (tgt := 2) C dX8_countWays_26 (by decide) ?_
      refine x_sub [(0, .ref 153), (1, .int p1), (2, .int (x.1 + 1))] [1, 2, 0] rfl ?_
      exact hK2 _ _ h
theorem G8_countWays_L2_ok {p : Program} {e : Env} {s : State} {m : MethodId} {args : Array Value} {below : List Frame} {meth : Method} {c : Code} {l : Launch} {φ : Nat → Nat} {tc : Nat → ClassId} {D : va_G} {s0 : State} {dR : Nat} (C : CX p s m args meth c φ tc D (AX φ) s0 cX8_countWays RX8 3) (hd : G8_countWays_dep ≤ dR) (hr : meth.sig.returnType = none)  {p1 : Int32} {Q : MM → Prop}  {x : Int32 × MM}    (h : Lp (G8_countWays_L2 p1 Q) x) : WX p l e (rmX dR) s m args below meth c φ tc D (AX φ) 3 0 0 (MQ below (QX φ tc D (QV Q)) args s 0 0 (AX φ)) 2 [(0, .ref 153), (1, .int p1), (2, .int x.1)] [] x.2 := by
  obtain ⟨n, h⟩ := h
  induction n generalizing x with
  | zero => exact h.elim
  | succ n ih => exact G8_countWays_L2_b C hd hr   (fun z2 zμ hz => by have q := ih hz; exact q) h
set_option maxHeartbeats 4000000 in
set_option maxRecDepth 100000 in
theorem G8_countWays_met {l : Launch} {φ : Nat → Nat} {tc : Nat → ClassId} {D : va_G} {s0 : State} (hG : GX φ tc D s0) {dR : Nat} (hd : G8_countWays_dep ≤ dR) {v1 : Int32} {μ : MM} {Q : MM → Prop}  (h : G8_countWays v1 μ Q) : MX l φ tc D s0 dR yX8_countWays cX8_countWays 3 none [.ref 153, .int v1] μ (QV Q) := by
  refine MX.of (own := RX8) hG plX8 rfl (Nat.le_of_ble_eq_true rfl) (fun p e s m args below meth c C hr => ?_)
  refine x_sub [(0, .ref 153), (1, .int v1)] [0, 1] rfl ?_
  unfold G8_countWays at h
  refine x_iconst (v := 0) C (by decide) dX8_countWays_0 ?_
  refine x_istore_n C [(2, .int 0), (0, .ref 153), (1, .int v1)] rfl (Nat.le_of_ble_eq_true rfl) rfl dX8_countWays_1 ?_
  refine x_sub [(0, .ref 153), (1, .int v1), (2, .int 0)] [1, 2, 0] rfl ?_
  exact G8_countWays_L2_ok C hd hr  h
set_option maxHeartbeats 4000000 in
set_option maxRecDepth 100000 in
theorem G8_tellOdds_J131_ok {p : Program} {e : Env} {s : State} {m : MethodId} {args : Array Value} {below : List Frame} {meth : Method} {c : Code} {l : Launch} {φ : Nat → Nat} {tc : Nat → ClassId} {D : va_G} {s0 : State} {dR : Nat} (C : CX p s m args meth c φ tc D (AX φ) s0 cX8_tellOdds RX8 10) (hd : G8_tellOdds_dep ≤ dR) (hr : meth.sig.returnType = (some .int))   {p2 : Int32} {p3 : Int32} {p6 : Int64} {p8 : Int32} {q0 : Int64} {q1 : Int64} {Q : Int32 → MM → Prop} {K56 : Int64 × Int64 × Int32 × MM → Prop} {μ : MM}   (hK56 : ∀ (z4 : Int64) (z6 : Int64) (z8 : Int32) (zμ : MM), K56 (z4, z6, z8, zμ) → WX p l e (rmX dR) s m args below meth c φ tc D (AX φ) 10 0 0 (MQ below (QX φ tc D (QI Q)) args s 0 0 (AX φ)) 56 [(0, .ref 153), (2, .int p2), (3, .int p3), (4, .long z4), (6, .long z6), (8, .int z8)] [] zμ) (h : G8_tellOdds_J131 p2 p3 p6 p8 q0 q1 μ K56 Q) : WX p l e (rmX dR) s m args below meth c φ tc D (AX φ) 10 0 0 (MQ below (QX φ tc D (QI Q)) args s 0 0 (AX φ)) 131 [(0, .ref 153), (2, .int p2), (3, .int p3), (6, .long p6), (8, .int p8)] [.long q0, .long q1] μ := by
  unfold G8_tellOdds_J131 at h
  refine x_ladd C dX8_tellOdds_131 ?_
  refine x_topl (fun y30 e_y30 => ?_)
  have h := h y30 e_y30
  refine x_lstore C [(4, .long y30), (0, .ref 153), (2, .int p2), (3, .int p3), (6, .long p6), (8, .int p8)] (Nat.le_of_ble_eq_true rfl) rfl dX8_tellOdds_132 ?_
  refine x_lload C 4 rfl dX8_tellOdds_134 ?_
  refine x_aload_n C rfl 1 rfl dX8_tellOdds_136 ?_
  refine x_getR (r := 163) C (j := 5) ob153.1 ob153.2 (Nat.le_of_ble_eq_true rfl) (Nat.le_of_ble_eq_true rfl) (fun _ _ _ => rfl) r_153_5 tw_2_8 dX8_tellOdds_137 ?_
  refine x_iload C 5 rfl dX8_tellOdds_140 ?_
  obtain ⟨c31, h⟩ := h
  refine x_lald C ob163.1 ob163.2 c31 rfl dX8_tellOdds_142 ?_
  refine x_ladd C dX8_tellOdds_143 ?_
  refine x_topl (fun y32 e_y32 => ?_)
  have h := h y32 e_y32
  refine x_lstore C [(6, .long y32), (4, .long y30), (0, .ref 153), (2, .int p2), (3, .int p3), (8, .int p8)] (Nat.le_of_ble_eq_true rfl) rfl dX8_tellOdds_144 ?_
  refine x_iinc (v := (p8 + 1)) C [(8, .int (p8 + 1)), (6, .long y32), (4, .long y30), (0, .ref 153), (2, .int p2), (3, .int p3)] 5 rfl (congrArg (fun z => p8 + z) (by decide : Int32.ofInt (1) = 1)) (Nat.le_of_ble_eq_true rfl) rfl dX8_tellOdds_146 ?_
  refine x_goto (tgt := 56) C dX8_tellOdds_149 (by decide) ?_
  refine x_sub [(0, .ref 153), (2, .int p2), (3, .int p3), (4, .long y30), (6, .long y32), (8, .int (p8 + 1))] [3, 4, 5, 2, 1, 0] rfl ?_
  exact hK56 _ _ _ _ h
set_option maxHeartbeats 4000000 in
set_option maxRecDepth 100000 in
theorem G8_tellOdds_J111_ok {p : Program} {e : Env} {s : State} {m : MethodId} {args : Array Value} {below : List Frame} {meth : Method} {c : Code} {l : Launch} {φ : Nat → Nat} {tc : Nat → ClassId} {D : va_G} {s0 : State} {dR : Nat} (C : CX p s m args meth c φ tc D (AX φ) s0 cX8_tellOdds RX8 10) (hd : G8_tellOdds_dep ≤ dR) (hr : meth.sig.returnType = (some .int))   {p2 : Int32} {p3 : Int32} {p4 : Int64} {p6 : Int64} {p8 : Int32} {q0 : Int32} {Q : Int32 → MM → Prop} {K56 : Int64 × Int64 × Int32 × MM → Prop} {μ : MM}   (hK56 : ∀ (z4 : Int64) (z6 : Int64) (z8 : Int32) (zμ : MM), K56 (z4, z6, z8, zμ) → WX p l e (rmX dR) s m args below meth c φ tc D (AX φ) 10 0 0 (MQ below (QX φ tc D (QI Q)) args s 0 0 (AX φ)) 56 [(0, .ref 153), (2, .int p2), (3, .int p3), (4, .long z4), (6, .long z6), (8, .int z8)] [] zμ) (h : G8_tellOdds_J111 p2 p3 p4 p6 p8 q0 μ K56 Q) : WX p l e (rmX dR) s m args below meth c φ tc D (AX φ) 10 0 0 (MQ below (QX φ tc D (QI Q)) args s 0 0 (AX φ)) 111 [(0, .ref 153), (2, .int p2), (3, .int p3), (4, .long p4), (6, .long p6), (8, .int p8)] [.int q0] μ := by
  unfold G8_tellOdds_J111 at h
  refine x_istore C [(9, .int q0), (0, .ref 153), (2, .int p2), (3, .int p3), (4, .long p4), (6, .long p6), (8, .int p8)] (Nat.le_of_ble_eq_true rfl) rfl dX8_tellOdds_111 ?_
  refine x_lload C 4 rfl dX8_tellOdds_113 ?_
  refine x_iload C 0 rfl dX8_tellOdds_115 ?_
  refine x_if_eq (tgt := 130) C dX8_tellOdds_117 (by decide) (fun c29 => ?_) (fun c29 => ?_)
  · have h := h.1 c29
    refine x_lconst (v := 0) C (by decide) dX8_tellOdds_130 ?_
    refine x_sub [(0, .ref 153), (2, .int p2), (3, .int p3), (6, .long p6), (8, .int p8)] [1, 2, 3, 5, 6] rfl ?_
    exact G8_tellOdds_J131_ok C hd hr hK56 h
  · have h := h.2 c29
    refine x_aload_n C rfl 1 rfl dX8_tellOdds_120 ?_
    refine x_getR (r := 163) C (j := 5) ob153.1 ob153.2 (Nat.le_of_ble_eq_true rfl) (Nat.le_of_ble_eq_true rfl) (fun _ _ _ => rfl) r_153_5 tw_2_8 dX8_tellOdds_121 ?_
    refine x_iload C 6 rfl dX8_tellOdds_124 ?_
    obtain ⟨c33, h⟩ := h
    refine x_lald C ob163.1 ob163.2 c33 rfl dX8_tellOdds_126 ?_
    refine x_goto (tgt := 131) C dX8_tellOdds_127 (by decide) ?_
    refine x_sub [(0, .ref 153), (2, .int p2), (3, .int p3), (6, .long p6), (8, .int p8)] [1, 2, 3, 5, 6] rfl ?_
    exact G8_tellOdds_J131_ok C hd hr hK56 h
set_option maxHeartbeats 4000000 in
set_option maxRecDepth 100000 in
theorem G8_tellOdds_L56_b {p : Program} {e : Env} {s : State} {m : MethodId} {args : Array Value} {below : List Frame} {meth : Method} {c : Code} {l : Launch} {φ : Nat → Nat} {tc : Nat → ClassId} {D : va_G} {s0 : State} {dR : Nat} (C : CX p s m args meth c φ tc D (AX φ) s0 cX8_tellOdds RX8 10) (hd : G8_tellOdds_dep ≤ dR) (hr : meth.sig.returnType = (some .int))  {p2 : Int32} {p3 : Int32} {Q : Int32 → MM → Prop} {K56 : Int64 × Int64 × Int32 × MM → Prop} {x : Int64 × Int64 × Int32 × MM}   (hK56 : ∀ (z4 : Int64) (z6 : Int64) (z8 : Int32) (zμ : MM), K56 (z4, z6, z8, zμ) → WX p l e (rmX dR) s m args below meth c φ tc D (AX φ) 10 0 0 (MQ below (QX φ tc D (QI Q)) args s 0 0 (AX φ)) 56 [(0, .ref 153), (2, .int p2), (3, .int p3), (4, .long z4), (6, .long z6), (8, .int z8)] [] zμ) (h : G8_tellOdds_L56 p2 p3 Q K56 x) : WX p l e (rmX dR) s m args below meth c φ tc D (AX φ) 10 0 0 (MQ below (QX φ tc D (QI Q)) args s 0 0 (AX φ)) 56 [(0, .ref 153), (2, .int p2), (3, .int p3), (4, .long x.1), (6, .long x.2.1), (8, .int x.2.2.1)] [] x.2.2.2 := by
  unfold G8_tellOdds_L56 at h
  refine x_iload C 5 rfl dX8_tellOdds_56 ?_
  refine x_bipush (v := 96) C (by decide) dX8_tellOdds_58 ?_
  refine x_icmp_gt (tgt := 152) C dX8_tellOdds_60 (by decide) (fun c23 => ?_) (fun c23 => ?_)
  · have h := h.1 c23
    refine x_aload_n C rfl 0 rfl dX8_tellOdds_152 ?_
    refine x_getR (r := 151) C (j := 1) ob153.1 ob153.2 (Nat.le_of_ble_eq_true rfl) (Nat.le_of_ble_eq_true rfl) (fun _ _ _ => rfl) r_153_1 tw_2_4 dX8_tellOdds_153 ?_
    refine x_callVN (dC := G7_clear_dep) (as := []) (st := []) C rX kX (Nat.le_trans (Nat.le_of_ble_eq_true rfl) hd) (Nat.le_of_ble_eq_true rfl) ob151.1 ob151.2 (Nat.le_of_ble_eq_true rfl) rfl ts_3_8 tw_4_48 tw_4_46 tc_4_49 tw_1_5 hyX7 hnX7_clear rfl (Nat.le_of_ble_eq_true rfl) dX8_tellOdds_156 (G7_clear_met C.2.2.2.2.2.2.2.1 (Nat.le_refl _)  h) (fun r0 μ24 hq => ?_)
    obtain ⟨rfl, h⟩ := hq
    refine x_st [] rfl ?_
    refine x_aload_n C rfl 0 rfl dX8_tellOdds_159 ?_
    refine x_getR (r := 151) C (j := 1) ob153.1 ob153.2 (Nat.le_of_ble_eq_true rfl) (Nat.le_of_ble_eq_true rfl) (fun _ _ _ => rfl) r_153_1 tw_2_4 dX8_tellOdds_160 ?_
    refine x_lload C 3 rfl dX8_tellOdds_163 ?_
    refine x_lload C 4 rfl dX8_tellOdds_165 ?_
    refine x_callVN (dC := G7_addFraction_dep) (as := [.long x.1, .long x.2.1]) (st := []) C rX kX (Nat.le_trans (Nat.le_of_ble_eq_true rfl) hd) (Nat.le_of_ble_eq_true rfl) ob151.1 ob151.2 (Nat.le_of_ble_eq_true rfl) rfl ts_3_10 tw_4_56 tw_4_54 tc_4_57 tw_1_5 hyX7 hnX7_addFraction rfl (Nat.le_of_ble_eq_true rfl) dX8_tellOdds_167 (G7_addFraction_met C.2.2.2.2.2.2.2.1 (Nat.le_refl _)  h) (fun r0 μ25 hq => ?_)
    obtain ⟨rfl, h⟩ := hq
    refine x_st [] rfl ?_
    refine x_iconst (v := 0) C (by decide) dX8_tellOdds_170 ?_
    exact x_iret C hr dX8_tellOdds_171 ⟨_, rfl, h⟩
  · have h := h.2 c23
    refine x_iload_n C rfl 1 rfl dX8_tellOdds_63 ?_
    refine x_if_ne (tgt := 81) C dX8_tellOdds_64 (by decide) (fun c26 => ?_) (fun c26 => ?_)
    · have h := h.1 c26
      refine x_iload_n C rfl 1 rfl dX8_tellOdds_81 ?_
      refine x_iconst (v := 1) C (by decide) dX8_tellOdds_82 ?_
      refine x_icmp_ne (tgt := 100) C dX8_tellOdds_83 (by decide) (fun c27 => ?_) (fun c27 => ?_)
      · have h := h.1 c27
        refine x_iload C 5 rfl dX8_tellOdds_100 ?_
        refine x_iload_n C rfl 2 rfl dX8_tellOdds_102 ?_
        refine x_icmp_ne (tgt := 110) C dX8_tellOdds_103 (by decide) (fun c28 => ?_) (fun c28 => ?_)
        · have h := h.1 c28
          refine x_iconst (v := 0) C (by decide) dX8_tellOdds_110 ?_
          exact G8_tellOdds_J111_ok C hd hr hK56 h
        · have h := h.2 c28
          refine x_iconst (v := 1) C (by decide) dX8_tellOdds_106 ?_
          refine x_goto (tgt := 111) C dX8_tellOdds_107 (by decide) ?_
          exact G8_tellOdds_J111_ok C hd hr hK56 h
      · have h := h.2 c27
        refine x_iload C 5 rfl dX8_tellOdds_86 ?_
        refine x_iload_n C rfl 2 rfl dX8_tellOdds_88 ?_
        refine x_icmp_lt (tgt := 96) C dX8_tellOdds_89 (by decide) (fun c34 => ?_) (fun c34 => ?_)
        · have h := h.1 c34
          refine x_iconst (v := 0) C (by decide) dX8_tellOdds_96 ?_
          refine x_goto (tgt := 111) C dX8_tellOdds_97 (by decide) ?_
          exact G8_tellOdds_J111_ok C hd hr hK56 h
        · have h := h.2 c34
          refine x_iconst (v := 1) C (by decide) dX8_tellOdds_92 ?_
          refine x_goto (tgt := 111) C dX8_tellOdds_93 (by decide) ?_
          exact G8_tellOdds_J111_ok C hd hr hK56 h
    · have h := h.2 c26
      refine x_iload C 5 rfl dX8_tellOdds_67 ?_
      refine x_iload_n C rfl 2 rfl dX8_tellOdds_69 ?_
      refine x_icmp_gt (tgt := 77) C dX8_tellOdds_70 (by decide) (fun c35 => ?_) (fun c35 => ?_)
      · have h := h.1 c35
        refine x_iconst (v := 0) C (by decide) dX8_tellOdds_77 ?_
        refine x_goto (tgt := 111) C dX8_tellOdds_78 (by decide) ?_
        exact G8_tellOdds_J111_ok C hd hr hK56 h
      · have h := h.2 c35
        refine x_iconst (v := 1) C (by decide) dX8_tellOdds_73 ?_
        refine x_goto (tgt := 111) C dX8_tellOdds_74 (by decide) ?_
        exact G8_tellOdds_J111_ok C hd hr hK56 h
theorem G8_tellOdds_L56_ok {p : Program} {e : Env} {s : State} {m : MethodId} {args : Array Value} {below : List Frame} {meth : Method} {c : Code} {l : Launch} {φ : Nat → Nat} {tc : Nat → ClassId} {D : va_G} {s0 : State} {dR : Nat} (C : CX p s m args meth c φ tc D (AX φ) s0 cX8_tellOdds RX8 10) (hd : G8_tellOdds_dep ≤ dR) (hr : meth.sig.returnType = (some .int))  {p2 : Int32} {p3 : Int32} {Q : Int32 → MM → Prop}  {x : Int64 × Int64 × Int32 × MM}    (h : Lp (G8_tellOdds_L56 p2 p3 Q) x) : WX p l e (rmX dR) s m args below meth c φ tc D (AX φ) 10 0 0 (MQ below (QX φ tc D (QI Q)) args s 0 0 (AX φ)) 56 [(0, .ref 153), (2, .int p2), (3, .int p3), (4, .long x.1), (6, .long x.2.1), (8, .int x.2.2.1)] [] x.2.2.2 := by
  obtain ⟨n, h⟩ := h
  induction n generalizing x with
  | zero => exact h.elim
  | succ n ih => exact G8_tellOdds_L56_b C hd hr   (fun z4 z6 z8 zμ hz => by have q := ih hz; exact q) h
set_option maxHeartbeats 4000000 in
set_option maxRecDepth 100000 in
theorem G8_tellOdds_met {l : Launch} {φ : Nat → Nat} {tc : Nat → ClassId} {D : va_G} {s0 : State} (hG : GX φ tc D s0) {dR : Nat} (hd : G8_tellOdds_dep ≤ dR) {v1 : Int32} {v2 : Int32} {μ : MM} {Q : Int32 → MM → Prop}  (h : G8_tellOdds v1 v2 μ Q) : MX l φ tc D s0 dR yX8_tellOdds cX8_tellOdds 10 (some .int) [.ref 153, .int v1, .int v2] μ (QI Q) := by
  refine MX.of (own := RX8) hG plX8 rfl (Nat.le_of_ble_eq_true rfl) (fun p e s m args below meth c C hr => ?_)
  refine x_sub [(0, .ref 153), (1, .int v1), (2, .int v2)] [0, 1, 2] rfl ?_
  unfold G8_tellOdds at h
  refine x_aload_n C rfl 0 rfl dX8_tellOdds_0 ?_
  refine x_getR (r := 1) C (j := 0) ob153.1 ob153.2 (Nat.le_of_ble_eq_true rfl) (Nat.le_of_ble_eq_true rfl) (fun _ _ _ => rfl) r_153_0 tw_2_3 dX8_tellOdds_1 ?_
  refine x_iload_n C rfl 1 rfl dX8_tellOdds_4 ?_
  refine x_callVN (dC := G10_isFilter_dep) (as := [.int v1]) (st := []) C rX kX (Nat.le_trans (Nat.le_of_ble_eq_true rfl) hd) (Nat.le_of_ble_eq_true rfl) ob1.1 ob1.2 (Nat.le_of_ble_eq_true rfl) rfl ts_3_2 tw_4_24 tw_4_22 tc_4_25 tw_1_2 hyX10 hnX10_isFilter rfl (Nat.le_of_ble_eq_true rfl) dX8_tellOdds_5 (G10_isFilter_met C.2.2.2.2.2.2.2.1 (Nat.le_refl _)  h) (fun r0 μ14 hq => ?_)
  obtain ⟨r15, rfl, h⟩ := hq
  refine x_st [.int r15] rfl ?_
  refine x_if_eq (tgt := 20) C dX8_tellOdds_8 (by decide) (fun c16 => ?_) (fun c16 => ?_)
  · have h := h.1 c16
    refine x_iconst (v := (-1)) C (by decide) dX8_tellOdds_20 ?_
    exact x_iret C hr dX8_tellOdds_21 ⟨_, rfl, h⟩
  · have h := h.2 c16
    refine x_iload_n C rfl 2 rfl dX8_tellOdds_11 ?_
    refine x_iconst (v := 0) C (by decide) dX8_tellOdds_12 ?_
    refine x_iconst (v := 2) C (by decide) dX8_tellOdds_13 ?_
    refine x_callSN (dC := G11_within_dep) (as := [.int v2, .int 0, .int 2]) (st := []) C rX kX (Nat.le_trans (Nat.le_of_ble_eq_true rfl) hd) (Nat.le_of_ble_eq_true rfl) tw_2_196 tw_4_94 tc_2_197 tw_1_1 hyX11 hnX11_within rfl (Nat.le_of_ble_eq_true rfl) dX8_tellOdds_14 (G11_within_met C.2.2.2.2.2.2.2.1 (Nat.le_refl _)  h) (fun r0 μ17 hq => ?_)
    obtain ⟨r18, rfl, h⟩ := hq
    refine x_st [.int r18] rfl ?_
    refine x_if_ne (tgt := 22) C dX8_tellOdds_17 (by decide) (fun c19 => ?_) (fun c19 => ?_)
    · have h := h.1 c19
      refine x_aload_n C rfl 0 rfl dX8_tellOdds_22 ?_
      refine x_iload_n C rfl 1 rfl dX8_tellOdds_23 ?_
      refine x_callV (dC := G8_countWays_dep) (as := [.int v1]) (st := []) C rX kX (Nat.le_trans (Nat.le_of_ble_eq_true rfl) hd) (Nat.le_of_ble_eq_true rfl) ob153.1 ob153.2 (Nat.le_of_ble_eq_true rfl) rfl ts_4_1 tw_4_97 tw_4_95 tc_4_98 tw_1_6 hyX8 hnX8_countWays rfl (Nat.le_of_ble_eq_true rfl) dX8_tellOdds_24 (G8_countWays_met C.2.2.2.2.2.2.2.1 (Nat.le_refl _)  h) (fun r0 μ20 hq => ?_)
      obtain ⟨rfl, h⟩ := hq
      refine x_st [] rfl ?_
      refine x_aload_n C rfl 0 rfl dX8_tellOdds_27 ?_
      refine x_aload_n C rfl 0 rfl dX8_tellOdds_28 ?_
      refine x_getR (r := 154) C (j := 2) ob153.1 ob153.2 (Nat.le_of_ble_eq_true rfl) (Nat.le_of_ble_eq_true rfl) (fun _ _ _ => rfl) r_153_2 tw_2_5 dX8_tellOdds_29 ?_
      refine x_iload_n C rfl 1 rfl dX8_tellOdds_32 ?_
      refine x_iconst (v := (-1)) C (by decide) dX8_tellOdds_33 ?_
      refine x_callV (dC := G8_gather_dep) (as := [.ref 154, .int v1, .int (-1)]) (st := []) C rX kX (Nat.le_trans (Nat.le_of_ble_eq_true rfl) hd) (Nat.le_of_ble_eq_true rfl) ob153.1 ob153.2 (Nat.le_of_ble_eq_true rfl) rfl ts_3_3 tw_4_28 tw_4_26 tc_4_29 tw_1_6 hyX8 hnX8_gather rfl (Nat.le_of_ble_eq_true rfl) dX8_tellOdds_34 (G8_gather_met C.2.2.2.2.2.2.2.1 (Nat.le_refl _) ob154 h) (fun r0 μ21 hq => ?_)
      obtain ⟨rfl, h⟩ := hq
      refine x_st [] rfl ?_
      refine x_aload_n C rfl 0 rfl dX8_tellOdds_37 ?_
      refine x_getR (r := 154) C (j := 2) ob153.1 ob153.2 (Nat.le_of_ble_eq_true rfl) (Nat.le_of_ble_eq_true rfl) (fun _ _ _ => rfl) r_153_2 tw_2_5 dX8_tellOdds_38 ?_
      refine x_getRN (r := 156) C (j := 1) ob154.1 ob154.2 (Nat.le_of_ble_eq_true rfl) (Nat.le_of_ble_eq_true rfl) (fun _ _ _ => rfl) r_154_1 tw_1_236 dX8_tellOdds_41 ?_
      refine x_iconst (v := 1) C (by decide) dX8_tellOdds_44 ?_
      refine x_iald C ob156.1 ob156.2 (by unfold vp_in; decide) (j := 1) (by decide) dX8_tellOdds_45 ?_
      refine x_topi (fun y22 e_y22 => ?_)
      have h := h y22 e_y22
      refine x_istore_n C [(3, .int y22), (0, .ref 153), (1, .int v1), (2, .int v2)] rfl (Nat.le_of_ble_eq_true rfl) rfl dX8_tellOdds_46 ?_
      refine x_lconst (v := 0) C (by decide) dX8_tellOdds_47 ?_
      refine x_lstore C [(4, .long 0), (3, .int y22), (0, .ref 153), (1, .int v1), (2, .int v2)] (Nat.le_of_ble_eq_true rfl) rfl dX8_tellOdds_48 ?_
      refine x_lconst (v := 0) C (by decide) dX8_tellOdds_50 ?_
      refine x_lstore C [(6, .long 0), (4, .long 0), (3, .int y22), (0, .ref 153), (1, .int v1), (2, .int v2)] (Nat.le_of_ble_eq_true rfl) rfl dX8_tellOdds_51 ?_
      refine x_iconst (v := 0) C (by decide) dX8_tellOdds_53 ?_
      refine x_istore C [(8, .int 0), (6, .long 0), (4, .long 0), (3, .int y22), (0, .ref 153), (1, .int v1), (2, .int v2)] (Nat.le_of_ble_eq_true rfl) rfl dX8_tellOdds_54 ?_
      refine x_sub [(0, .ref 153), (2, .int v2), (3, .int y22), (4, .long 0), (6, .long 0), (8, .int 0)] [4, 6, 3, 2, 1, 0] rfl ?_
      exact G8_tellOdds_L56_ok C hd hr  h
    · have h := h.2 c19
      refine x_iconst (v := (-1)) C (by decide) dX8_tellOdds_20 ?_
      exact x_iret C hr dX8_tellOdds_21 ⟨_, rfl, h⟩
set_option maxHeartbeats 4000000 in
set_option maxRecDepth 100000 in
theorem G11_odds_met {l : Launch} {φ : Nat → Nat} {tc : Nat → ClassId} {D : va_G} {s0 : State} (hG : GX φ tc D s0) {dR : Nat} (hd : G11_odds_dep ≤ dR) {v1 : Int32} {v2 : Int32} {μ : MM} {Q : Int32 → MM → Prop}  (h : G11_odds v1 v2 μ Q) : MX l φ tc D s0 dR yX11_odds cX11_odds 3 (some .int) [.ref 0, .int v1, .int v2] μ (QI Q) := by
  refine MX.of (own := RX11) hG plX11 rfl (Nat.le_of_ble_eq_true rfl) (fun p e s m args below meth c C hr => ?_)
  refine x_sub [(0, .ref 0), (1, .int v1), (2, .int v2)] [0, 1, 2] rfl ?_
  unfold G11_odds at h
  refine x_aload_n C rfl 0 rfl dX11_odds_0 ?_
  refine x_getR (r := 153) C (j := 2) ob0.1 ob0.2 (Nat.le_of_ble_eq_true rfl) (Nat.le_of_ble_eq_true rfl) (fun _ _ _ => rfl) r_0_2 tw_2_165 dX11_odds_1 ?_
  refine x_iload_n C rfl 1 rfl dX11_odds_4 ?_
  refine x_iload_n C rfl 2 rfl dX11_odds_5 ?_
  refine x_callVN (dC := G8_tellOdds_dep) (as := [.int v1, .int v2]) (st := []) C rX kX (Nat.le_trans (Nat.le_of_ble_eq_true rfl) hd) (Nat.le_of_ble_eq_true rfl) ob153.1 ob153.2 (Nat.le_of_ble_eq_true rfl) rfl ts_4_0 tw_4_92 tw_4_90 tc_4_93 tw_1_6 hyX8 hnX8_tellOdds rfl (Nat.le_of_ble_eq_true rfl) dX11_odds_6 (G8_tellOdds_met C.2.2.2.2.2.2.2.1 (Nat.le_refl _)  h) (fun r0 μ3 hq => ?_)
  obtain ⟨r4, rfl, h⟩ := hq
  refine x_st [.int r4] rfl ?_
  exact x_iret C hr dX11_odds_9 ⟨_, rfl, h⟩
set_option maxHeartbeats 4000000 in
set_option maxRecDepth 100000 in
theorem G9_becomeWithout_L2_b {p : Program} {e : Env} {s : State} {m : MethodId} {args : Array Value} {below : List Frame} {meth : Method} {c : Code} {l : Launch} {φ : Nat → Nat} {tc : Nat → ClassId} {D : va_G} {s0 : State} {dR : Nat} (C : CX p s m args meth c φ tc D (AX φ) s0 cX9_becomeWithout RX9 4) (hd : G9_becomeWithout_dep ≤ dR) (hr : meth.sig.returnType = none) {t : Nat} {a1 : Nat} {a2 : Nat}  {Q : MM → Prop} {K2 : Int32 × MM → Prop} {x : Int32 × MM} (o_t : Ob t 9) (o_a1 : Ob a1 9) (o_a2 : Ob a2 9)  (hK2 : ∀ (z3 : Int32) (zμ : MM), K2 (z3, zμ) → WX p l e (rmX dR) s m args below meth c φ tc D (AX φ) 4 0 0 (MQ below (QX φ tc D (QV Q)) args s 0 0 (AX φ)) 2 [(0, .ref t), (1, .ref a1), (2, .ref a2), (3, .int z3)] [] zμ) (h : G9_becomeWithout_L2 t a1 a2 Q K2 x) : WX p l e (rmX dR) s m args below meth c φ tc D (AX φ) 4 0 0 (MQ below (QX φ tc D (QV Q)) args s 0 0 (AX φ)) 2 [(0, .ref t), (1, .ref a1), (2, .ref a2), (3, .int x.1)] [] x.2 := by
  unfold G9_becomeWithout_L2 at h
  refine x_iload_n C rfl 3 rfl dX9_becomeWithout_2 ?_
  refine x_iconst (v := 2) C (by decide) dX9_becomeWithout_3 ?_
  refine x_icmp_ge (tgt := 51) C dX9_becomeWithout_4 (by decide) (fun c9 => ?_) (fun c9 => ?_)
  · have h := h.1 c9
    exact x_vret C hr dX9_becomeWithout_51 ⟨rfl, h⟩
  · have h := h.2 c9
    refine x_aload_n C rfl 0 rfl dX9_becomeWithout_7 ?_
    refine x_getR (r := (t + 1)) C (j := 0) o_t.1 o_t.2 (Nat.le_of_ble_eq_true rfl) (Nat.le_of_ble_eq_true rfl) (fun _ _ _ => rfl) (rF9_0 o_t) tw_1_232 dX9_becomeWithout_8 ?_
    refine x_iload_n C rfl 3 rfl dX9_becomeWithout_11 ?_
    refine x_aload_n C rfl 1 rfl dX9_becomeWithout_12 ?_
    refine x_getR (r := (a1 + 1)) C (j := 0) o_a1.1 o_a1.2 (Nat.le_of_ble_eq_true rfl) (Nat.le_of_ble_eq_true rfl) (fun _ _ _ => rfl) (rF9_0 o_a1) tw_1_232 dX9_becomeWithout_13 ?_
    refine x_iload_n C rfl 3 rfl dX9_becomeWithout_16 ?_
    obtain ⟨c10, h⟩ := h
    refine x_iald C (obF9_0 o_a1).1 (obF9_0 o_a1).2 (by rw [lnF9_0 o_a1]; exact c10) rfl dX9_becomeWithout_17 ?_
    refine x_aload_n C rfl 2 rfl dX9_becomeWithout_18 ?_
    refine x_getR (r := (a2 + 1)) C (j := 0) o_a2.1 o_a2.2 (Nat.le_of_ble_eq_true rfl) (Nat.le_of_ble_eq_true rfl) (fun _ _ _ => rfl) (rF9_0 o_a2) tw_1_232 dX9_becomeWithout_19 ?_
    refine x_iload_n C rfl 3 rfl dX9_becomeWithout_22 ?_
    obtain ⟨c11, h⟩ := h
    refine x_iald C (obF9_0 o_a2).1 (obF9_0 o_a2).2 (by rw [lnF9_0 o_a2]; exact c11) rfl dX9_becomeWithout_23 ?_
    refine x_isub C dX9_becomeWithout_24 ?_
    obtain ⟨c12, h⟩ := h
    refine x_iast C (obF9_0 o_t).1 (obF9_0 o_t).2 (by rw [lnF9_0 o_t]; exact c12) rfl dX9_becomeWithout_25 ?_
    refine x_mu (fun μ13 e_μ13 => ?_)
    have h := h μ13 e_μ13
    refine x_aload_n C rfl 0 rfl dX9_becomeWithout_26 ?_
    refine x_getR (r := (t + 2)) C (j := 1) o_t.1 o_t.2 (Nat.le_of_ble_eq_true rfl) (Nat.le_of_ble_eq_true rfl) (fun _ _ _ => rfl) (rF9_1 o_t) tw_1_235 dX9_becomeWithout_27 ?_
    refine x_iload_n C rfl 3 rfl dX9_becomeWithout_30 ?_
    refine x_aload_n C rfl 1 rfl dX9_becomeWithout_31 ?_
    refine x_getR (r := (a1 + 2)) C (j := 1) o_a1.1 o_a1.2 (Nat.le_of_ble_eq_true rfl) (Nat.le_of_ble_eq_true rfl) (fun _ _ _ => rfl) (rF9_1 o_a1) tw_1_235 dX9_becomeWithout_32 ?_
    refine x_iload_n C rfl 3 rfl dX9_becomeWithout_35 ?_
    obtain ⟨c14, h⟩ := h
    refine x_iald C (obF9_1 o_a1).1 (obF9_1 o_a1).2 (by rw [lnF9_1 o_a1]; exact c14) rfl dX9_becomeWithout_36 ?_
    refine x_aload_n C rfl 2 rfl dX9_becomeWithout_37 ?_
    refine x_getR (r := (a2 + 2)) C (j := 1) o_a2.1 o_a2.2 (Nat.le_of_ble_eq_true rfl) (Nat.le_of_ble_eq_true rfl) (fun _ _ _ => rfl) (rF9_1 o_a2) tw_1_235 dX9_becomeWithout_38 ?_
    refine x_iload_n C rfl 3 rfl dX9_becomeWithout_41 ?_
    obtain ⟨c15, h⟩ := h
    refine x_iald C (obF9_1 o_a2).1 (obF9_1 o_a2).2 (by rw [lnF9_1 o_a2]; exact c15) rfl dX9_becomeWithout_42 ?_
    refine x_isub C dX9_becomeWithout_43 ?_
    obtain ⟨c16, h⟩ := h
    refine x_iast C (obF9_1 o_t).1 (obF9_1 o_t).2 (by rw [lnF9_1 o_t]; exact c16) rfl dX9_becomeWithout_44 ?_
    refine x_mu (fun μ17 e_μ17 => ?_)
    have h := h μ17 e_μ17
    refine x_iinc (v := (x.1 + 1)) C [(3, .int (x.1 + 1)), (0, .ref t), (1, .ref a1), (2, .ref a2)] 3 rfl (congrArg (fun z => x.1 + z) (by decide : Int32.ofInt (1) = 1)) (Nat.le_of_ble_eq_true rfl) rfl dX9_becomeWithout_45 ?_
    refine x_goto (tgt := 2) C dX9_becomeWithout_48 (by decide) ?_
    refine x_sub [(0, .ref t), (1, .ref a1), (2, .ref a2), (3, .int (x.1 + 1))] [1, 2, 3, 0] rfl ?_
    exact hK2 _ _ h
theorem G9_becomeWithout_L2_ok {p : Program} {e : Env} {s : State} {m : MethodId} {args : Array Value} {below : List Frame} {meth : Method} {c : Code} {l : Launch} {φ : Nat → Nat} {tc : Nat → ClassId} {D : va_G} {s0 : State} {dR : Nat} (C : CX p s m args meth c φ tc D (AX φ) s0 cX9_becomeWithout RX9 4) (hd : G9_becomeWithout_dep ≤ dR) (hr : meth.sig.returnType = none) {t : Nat} {a1 : Nat} {a2 : Nat}  {Q : MM → Prop}  {x : Int32 × MM} (o_t : Ob t 9) (o_a1 : Ob a1 9) (o_a2 : Ob a2 9)   (h : Lp (G9_becomeWithout_L2 t a1 a2 Q) x) : WX p l e (rmX dR) s m args below meth c φ tc D (AX φ) 4 0 0 (MQ below (QX φ tc D (QV Q)) args s 0 0 (AX φ)) 2 [(0, .ref t), (1, .ref a1), (2, .ref a2), (3, .int x.1)] [] x.2 := by
  obtain ⟨n, h⟩ := h
  induction n generalizing x with
  | zero => exact h.elim
  | succ n ih => exact G9_becomeWithout_L2_b C hd hr o_t o_a1 o_a2  (fun z3 zμ hz => by have q := ih hz; exact q) h
set_option maxHeartbeats 4000000 in
set_option maxRecDepth 100000 in
theorem G9_becomeWithout_met {l : Launch} {φ : Nat → Nat} {tc : Nat → ClassId} {D : va_G} {s0 : State} (hG : GX φ tc D s0) {dR : Nat} (hd : G9_becomeWithout_dep ≤ dR) {t : Nat} {a1 : Nat} {a2 : Nat} {μ : MM} {Q : MM → Prop} (o_t : Ob t 9) (o_a1 : Ob a1 9) (o_a2 : Ob a2 9) (h : G9_becomeWithout t a1 a2 μ Q) : MX l φ tc D s0 dR yX9_becomeWithout cX9_becomeWithout 4 none [.ref t, .ref a1, .ref a2] μ (QV Q) := by
  refine MX.of (own := RX9) hG plX9 rfl (Nat.le_of_ble_eq_true rfl) (fun p e s m args below meth c C hr => ?_)
  refine x_sub [(0, .ref t), (1, .ref a1), (2, .ref a2)] [0, 1, 2] rfl ?_
  unfold G9_becomeWithout at h
  refine x_iconst (v := 0) C (by decide) dX9_becomeWithout_0 ?_
  refine x_istore_n C [(3, .int 0), (0, .ref t), (1, .ref a1), (2, .ref a2)] rfl (Nat.le_of_ble_eq_true rfl) rfl dX9_becomeWithout_1 ?_
  refine x_sub [(0, .ref t), (1, .ref a1), (2, .ref a2), (3, .int 0)] [1, 2, 3, 0] rfl ?_
  exact G9_becomeWithout_L2_ok C hd hr o_t o_a1 o_a2 h
set_option maxHeartbeats 4000000 in
set_option maxRecDepth 100000 in
theorem G8_tellHeaviest_J179_ok {p : Program} {e : Env} {s : State} {m : MethodId} {args : Array Value} {below : List Frame} {meth : Method} {c : Code} {l : Launch} {φ : Nat → Nat} {tc : Nat → ClassId} {D : va_G} {s0 : State} {dR : Nat} (C : CX p s m args meth c φ tc D (AX φ) s0 cX8_tellHeaviest RX8 13) (hd : G8_tellHeaviest_dep ≤ dR) (hr : meth.sig.returnType = (some .int))   {p6 : Int32} {p9 : Int64} {p11 : Int64} {Q : Int32 → MM → Prop} {K33 : Int32 × Int64 × Int64 × Int32 × MM → Prop} {μ : MM}   (hK33 : ∀ (z1 : Int32) (z2 : Int64) (z4 : Int64) (z6 : Int32) (zμ : MM), K33 (z1, z2, z4, z6, zμ) → WX p l e (rmX dR) s m args below meth c φ tc D (AX φ) 13 0 0 (MQ below (QX φ tc D (QI Q)) args s 0 0 (AX φ)) 33 [(0, .ref 153), (1, .int z1), (2, .long z2), (4, .long z4), (6, .int z6)] [] zμ) (h : G8_tellHeaviest_J179 p6 p9 p11 μ K33 Q) : WX p l e (rmX dR) s m args below meth c φ tc D (AX φ) 13 0 0 (MQ below (QX φ tc D (QI Q)) args s 0 0 (AX φ)) 179 [(0, .ref 153), (6, .int p6), (9, .long p9), (11, .long p11)] [] μ := by
  unfold G8_tellHeaviest_J179 at h
  refine x_iload C 1 rfl dX8_tellHeaviest_179 ?_
  refine x_istore_n C [(1, .int p6), (0, .ref 153), (6, .int p6), (9, .long p9), (11, .long p11)] rfl (Nat.le_of_ble_eq_true rfl) rfl dX8_tellHeaviest_181 ?_
  refine x_lload C 3 rfl dX8_tellHeaviest_182 ?_
  refine x_lstore_n C [(2, .long p9), (1, .int p6), (0, .ref 153), (6, .int p6), (9, .long p9), (11, .long p11)] rfl (Nat.le_of_ble_eq_true rfl) rfl dX8_tellHeaviest_184 ?_
  refine x_lload C 5 rfl dX8_tellHeaviest_185 ?_
  refine x_lstore C [(4, .long p11), (2, .long p9), (1, .int p6), (0, .ref 153), (6, .int p6), (9, .long p9), (11, .long p11)] (Nat.le_of_ble_eq_true rfl) rfl dX8_tellHeaviest_187 ?_
  refine x_iinc (v := (p6 + 1)) C [(6, .int (p6 + 1)), (4, .long p11), (2, .long p9), (1, .int p6), (0, .ref 153), (9, .long p9), (11, .long p11)] 4 rfl (congrArg (fun z => p6 + z) (by decide : Int32.ofInt (1) = 1)) (Nat.le_of_ble_eq_true rfl) rfl dX8_tellHeaviest_189 ?_
  refine x_goto (tgt := 33) C dX8_tellHeaviest_192 (by decide) ?_
  refine x_sub [(0, .ref 153), (1, .int p6), (2, .long p9), (4, .long p11), (6, .int (p6 + 1))] [4, 3, 2, 1, 0] rfl ?_
  exact hK33 _ _ _ _ _ h
set_option maxHeartbeats 4000000 in
set_option maxRecDepth 100000 in
theorem G8_tellHeaviest_J142_ok {p : Program} {e : Env} {s : State} {m : MethodId} {args : Array Value} {below : List Frame} {meth : Method} {c : Code} {l : Launch} {φ : Nat → Nat} {tc : Nat → ClassId} {D : va_G} {s0 : State} {dR : Nat} (C : CX p s m args meth c φ tc D (AX φ) s0 cX8_tellHeaviest RX8 13) (hd : G8_tellHeaviest_dep ≤ dR) (hr : meth.sig.returnType = (some .int))   {p1 : Int32} {p2 : Int64} {p4 : Int64} {p6 : Int32} {q0 : Int64} {Q : Int32 → MM → Prop} {K33 : Int32 × Int64 × Int64 × Int32 × MM → Prop} {μ : MM}   (hK33 : ∀ (z1 : Int32) (z2 : Int64) (z4 : Int64) (z6 : Int32) (zμ : MM), K33 (z1, z2, z4, z6, zμ) → WX p l e (rmX dR) s m args below meth c φ tc D (AX φ) 13 0 0 (MQ below (QX φ tc D (QI Q)) args s 0 0 (AX φ)) 33 [(0, .ref 153), (1, .int z1), (2, .long z2), (4, .long z4), (6, .int z6)] [] zμ) (h : G8_tellHeaviest_J142 p1 p2 p4 p6 q0 μ K33 Q) : WX p l e (rmX dR) s m args below meth c φ tc D (AX φ) 13 0 0 (MQ below (QX φ tc D (QI Q)) args s 0 0 (AX φ)) 142 [(0, .ref 153), (1, .int p1), (2, .long p2), (4, .long p4), (6, .int p6)] [.long q0] μ := by
  unfold G8_tellHeaviest_J142 at h
  refine x_lstore C [(9, .long q0), (0, .ref 153), (1, .int p1), (2, .long p2), (4, .long p4), (6, .int p6)] (Nat.le_of_ble_eq_true rfl) rfl dX8_tellHeaviest_142 ?_
  refine x_aload_n C rfl 1 rfl dX8_tellHeaviest_144 ?_
  refine x_getR (r := 154) C (j := 2) ob153.1 ob153.2 (Nat.le_of_ble_eq_true rfl) (Nat.le_of_ble_eq_true rfl) (fun _ _ _ => rfl) r_153_2 tw_2_5 dX8_tellHeaviest_145 ?_
  refine x_callVN (dC := G9_asideLower_dep) (as := []) (st := []) C rX kX (Nat.le_trans (Nat.le_of_ble_eq_true rfl) hd) (Nat.le_of_ble_eq_true rfl) ob154.1 ob154.2 (Nat.le_of_ble_eq_true rfl) rfl ts_3_15 tw_4_83 tw_4_81 tc_4_84 tw_1_7 hyX9 hnX9_asideLower rfl (Nat.le_of_ble_eq_true rfl) dX8_tellHeaviest_148 (G9_asideLower_met C.2.2.2.2.2.2.2.1 (Nat.le_refl _) ob154 h) (fun r0 μ64 hq => ?_)
  obtain ⟨r65, rfl, h⟩ := hq
  refine x_st [.long r65] rfl ?_
  refine x_aload_n C rfl 1 rfl dX8_tellHeaviest_151 ?_
  refine x_getR (r := 160) C (j := 4) ob153.1 ob153.2 (Nat.le_of_ble_eq_true rfl) (Nat.le_of_ble_eq_true rfl) (fun _ _ _ => rfl) r_153_4 tw_2_7 dX8_tellHeaviest_152 ?_
  refine x_callVN (dC := G9_asideLower_dep) (as := []) (st := [.long r65]) C rX kX (Nat.le_trans (Nat.le_of_ble_eq_true rfl) hd) (Nat.le_of_ble_eq_true rfl) ob160.1 ob160.2 (Nat.le_of_ble_eq_true rfl) rfl ts_3_15 tw_4_83 tw_4_81 tc_4_84 tw_1_7 hyX9 hnX9_asideLower rfl (Nat.le_of_ble_eq_true rfl) dX8_tellHeaviest_155 (G9_asideLower_met C.2.2.2.2.2.2.2.1 (Nat.le_refl _) ob160 h) (fun r0 μ66 hq => ?_)
  obtain ⟨r67, rfl, h⟩ := hq
  refine x_st [.long r67, .long r65] rfl ?_
  refine x_lmul C dX8_tellHeaviest_158 ?_
  refine x_topl (fun y68 e_y68 => ?_)
  have h := h y68 e_y68
  refine x_lstore C [(11, .long y68), (9, .long q0), (0, .ref 153), (1, .int p1), (2, .long p2), (4, .long p4), (6, .int p6)] (Nat.le_of_ble_eq_true rfl) rfl dX8_tellHeaviest_159 ?_
  refine x_iload_n C rfl 3 rfl dX8_tellHeaviest_161 ?_
  refine x_iconst (v := (-1)) C (by decide) dX8_tellHeaviest_162 ?_
  refine x_icmp_eq (tgt := 179) C dX8_tellHeaviest_163 (by decide) (fun c69 => ?_) (fun c69 => ?_)
  · have h := h.1 c69
    refine x_sub [(0, .ref 153), (6, .int p6), (9, .long q0), (11, .long y68)] [2, 6, 1, 0] rfl ?_
    exact G8_tellHeaviest_J179_ok C hd hr hK33 h
  · have h := h.2 c69
    refine x_lload C 1 rfl dX8_tellHeaviest_166 ?_
    refine x_lload C 5 rfl dX8_tellHeaviest_168 ?_
    refine x_lmul C dX8_tellHeaviest_170 ?_
    refine x_lload_n C rfl 4 rfl dX8_tellHeaviest_171 ?_
    refine x_lload C 0 rfl dX8_tellHeaviest_172 ?_
    refine x_lmul C dX8_tellHeaviest_174 ?_
    refine x_lcmp C dX8_tellHeaviest_175 ?_
    refine x_if_le (tgt := 189) C dX8_tellHeaviest_176 (by decide) (fun c70 => ?_) (fun c70 => ?_)
    · have h := h.1 c70
      refine x_iinc (v := (p6 + 1)) C [(6, .int (p6 + 1)), (11, .long y68), (9, .long q0), (0, .ref 153), (1, .int p1), (2, .long p2), (4, .long p4)] 6 rfl (congrArg (fun z => p6 + z) (by decide : Int32.ofInt (1) = 1)) (Nat.le_of_ble_eq_true rfl) rfl dX8_tellHeaviest_189 ?_
      refine x_goto (tgt := 33) C dX8_tellHeaviest_192 (by decide) ?_
      refine x_sub [(0, .ref 153), (1, .int p1), (2, .long p2), (4, .long p4), (6, .int (p6 + 1))] [3, 4, 5, 6, 0] rfl ?_
      exact hK33 _ _ _ _ _ h
    · have h := h.2 c70
      refine x_sub [(0, .ref 153), (6, .int p6), (9, .long q0), (11, .long y68)] [2, 6, 1, 0] rfl ?_
      exact G8_tellHeaviest_J179_ok C hd hr hK33 h
set_option maxHeartbeats 4000000 in
set_option maxRecDepth 100000 in
theorem G8_tellHeaviest_L33_b {p : Program} {e : Env} {s : State} {m : MethodId} {args : Array Value} {below : List Frame} {meth : Method} {c : Code} {l : Launch} {φ : Nat → Nat} {tc : Nat → ClassId} {D : va_G} {s0 : State} {dR : Nat} (C : CX p s m args meth c φ tc D (AX φ) s0 cX8_tellHeaviest RX8 13) (hd : G8_tellHeaviest_dep ≤ dR) (hr : meth.sig.returnType = (some .int))   {Q : Int32 → MM → Prop} {K33 : Int32 × Int64 × Int64 × Int32 × MM → Prop} {x : Int32 × Int64 × Int64 × Int32 × MM}   (hK33 : ∀ (z1 : Int32) (z2 : Int64) (z4 : Int64) (z6 : Int32) (zμ : MM), K33 (z1, z2, z4, z6, zμ) → WX p l e (rmX dR) s m args below meth c φ tc D (AX φ) 13 0 0 (MQ below (QX φ tc D (QI Q)) args s 0 0 (AX φ)) 33 [(0, .ref 153), (1, .int z1), (2, .long z2), (4, .long z4), (6, .int z6)] [] zμ) (h : G8_tellHeaviest_L33  Q K33 x) : WX p l e (rmX dR) s m args below meth c φ tc D (AX φ) 13 0 0 (MQ below (QX φ tc D (QI Q)) args s 0 0 (AX φ)) 33 [(0, .ref 153), (1, .int x.1), (2, .long x.2.1), (4, .long x.2.2.1), (6, .int x.2.2.2.1)] [] x.2.2.2.2 := by
  unfold G8_tellHeaviest_L33 at h
  refine x_iload C 4 rfl dX8_tellHeaviest_33 ?_
  refine x_aload_n C rfl 0 rfl dX8_tellHeaviest_35 ?_
  refine x_getR (r := 1) C (j := 0) ob153.1 ob153.2 (Nat.le_of_ble_eq_true rfl) (Nat.le_of_ble_eq_true rfl) (fun _ _ _ => rfl) r_153_0 tw_2_3 dX8_tellHeaviest_36 ?_
  refine x_getIN C (j := 8) ob1.1 ob1.2 (Nat.le_of_ble_eq_true rfl) (Nat.le_of_ble_eq_true rfl) (Or.inl rfl) tw_1_141 dX8_tellHeaviest_39 ?_
  refine x_icmp_ge (tgt := 195) C dX8_tellHeaviest_42 (by decide) (fun c36 => ?_) (fun c36 => ?_)
  · have h := h.1 c36
    refine x_iload_n C rfl 1 rfl dX8_tellHeaviest_195 ?_
    refine x_iconst (v := (-1)) C (by decide) dX8_tellHeaviest_196 ?_
    refine x_icmp_ne (tgt := 203) C dX8_tellHeaviest_197 (by decide) (fun c37 => ?_) (fun c37 => ?_)
    · have h := h.1 c37
      refine x_aload_n C rfl 0 rfl dX8_tellHeaviest_203 ?_
      refine x_aload_n C rfl 0 rfl dX8_tellHeaviest_204 ?_
      refine x_getR (r := 157) C (j := 3) ob153.1 ob153.2 (Nat.le_of_ble_eq_true rfl) (Nat.le_of_ble_eq_true rfl) (fun _ _ _ => rfl) r_153_3 tw_2_6 dX8_tellHeaviest_205 ?_
      refine x_iconst (v := (-1)) C (by decide) dX8_tellHeaviest_208 ?_
      refine x_iload_n C rfl 1 rfl dX8_tellHeaviest_209 ?_
      refine x_callV (dC := G8_gather_dep) (as := [.ref 157, .int (-1), .int x.1]) (st := []) C rX kX (Nat.le_trans (Nat.le_of_ble_eq_true rfl) hd) (Nat.le_of_ble_eq_true rfl) ob153.1 ob153.2 (Nat.le_of_ble_eq_true rfl) rfl ts_3_3 tw_4_28 tw_4_26 tc_4_29 tw_1_6 hyX8 hnX8_gather rfl (Nat.le_of_ble_eq_true rfl) dX8_tellHeaviest_210 (G8_gather_met C.2.2.2.2.2.2.2.1 (Nat.le_refl _) ob157 h) (fun r0 μ38 hq => ?_)
      obtain ⟨rfl, h⟩ := hq
      refine x_st [] rfl ?_
      refine x_aload_n C rfl 0 rfl dX8_tellHeaviest_213 ?_
      refine x_getR (r := 160) C (j := 4) ob153.1 ob153.2 (Nat.le_of_ble_eq_true rfl) (Nat.le_of_ble_eq_true rfl) (fun _ _ _ => rfl) r_153_4 tw_2_7 dX8_tellHeaviest_214 ?_
      refine x_aload_n C rfl 0 rfl dX8_tellHeaviest_217 ?_
      refine x_getR (r := 154) C (j := 2) ob153.1 ob153.2 (Nat.le_of_ble_eq_true rfl) (Nat.le_of_ble_eq_true rfl) (fun _ _ _ => rfl) r_153_2 tw_2_5 dX8_tellHeaviest_218 ?_
      refine x_aload_n C rfl 0 rfl dX8_tellHeaviest_221 ?_
      refine x_getR (r := 157) C (j := 3) ob153.1 ob153.2 (Nat.le_of_ble_eq_true rfl) (Nat.le_of_ble_eq_true rfl) (fun _ _ _ => rfl) r_153_3 tw_2_6 dX8_tellHeaviest_222 ?_
      refine x_callVN (dC := G9_becomeWithout_dep) (as := [.ref 154, .ref 157]) (st := []) C rX kX (Nat.le_trans (Nat.le_of_ble_eq_true rfl) hd) (Nat.le_of_ble_eq_true rfl) ob160.1 ob160.2 (Nat.le_of_ble_eq_true rfl) rfl ts_4_4 tw_4_116 tw_4_114 tc_4_117 tw_1_7 hyX9 hnX9_becomeWithout rfl (Nat.le_of_ble_eq_true rfl) dX8_tellHeaviest_225 (G9_becomeWithout_met C.2.2.2.2.2.2.2.1 (Nat.le_refl _) ob160 ob154 ob157 h) (fun r0 μ39 hq => ?_)
      obtain ⟨rfl, h⟩ := hq
      refine x_st [] rfl ?_
      refine x_aload_n C rfl 0 rfl dX8_tellHeaviest_228 ?_
      refine x_getR (r := 151) C (j := 1) ob153.1 ob153.2 (Nat.le_of_ble_eq_true rfl) (Nat.le_of_ble_eq_true rfl) (fun _ _ _ => rfl) r_153_1 tw_2_4 dX8_tellHeaviest_229 ?_
      refine x_callVN (dC := G7_clear_dep) (as := []) (st := []) C rX kX (Nat.le_trans (Nat.le_of_ble_eq_true rfl) hd) (Nat.le_of_ble_eq_true rfl) ob151.1 ob151.2 (Nat.le_of_ble_eq_true rfl) rfl ts_3_8 tw_4_48 tw_4_46 tc_4_49 tw_1_5 hyX7 hnX7_clear rfl (Nat.le_of_ble_eq_true rfl) dX8_tellHeaviest_232 (G7_clear_met C.2.2.2.2.2.2.2.1 (Nat.le_refl _)  h) (fun r0 μ40 hq => ?_)
      obtain ⟨rfl, h⟩ := hq
      refine x_st [] rfl ?_
      refine x_aload_n C rfl 0 rfl dX8_tellHeaviest_235 ?_
      refine x_getR (r := 151) C (j := 1) ob153.1 ob153.2 (Nat.le_of_ble_eq_true rfl) (Nat.le_of_ble_eq_true rfl) (fun _ _ _ => rfl) r_153_1 tw_2_4 dX8_tellHeaviest_236 ?_
      refine x_aload_n C rfl 0 rfl dX8_tellHeaviest_239 ?_
      refine x_getR (r := 160) C (j := 4) ob153.1 ob153.2 (Nat.le_of_ble_eq_true rfl) (Nat.le_of_ble_eq_true rfl) (fun _ _ _ => rfl) r_153_4 tw_2_7 dX8_tellHeaviest_240 ?_
      refine x_callVN (dC := G9_asideUpper_dep) (as := []) (st := [.ref 151]) C rX kX (Nat.le_trans (Nat.le_of_ble_eq_true rfl) hd) (Nat.le_of_ble_eq_true rfl) ob160.1 ob160.2 (Nat.le_of_ble_eq_true rfl) rfl ts_3_14 tw_4_79 tw_4_77 tc_4_80 tw_1_7 hyX9 hnX9_asideUpper rfl (Nat.le_of_ble_eq_true rfl) dX8_tellHeaviest_243 (G9_asideUpper_met C.2.2.2.2.2.2.2.1 (Nat.le_refl _) ob160 h) (fun r0 μ41 hq => ?_)
      obtain ⟨r42, rfl, h⟩ := hq
      refine x_st [.long r42, .ref 151] rfl ?_
      refine x_aload_n C rfl 0 rfl dX8_tellHeaviest_246 ?_
      refine x_getR (r := 160) C (j := 4) ob153.1 ob153.2 (Nat.le_of_ble_eq_true rfl) (Nat.le_of_ble_eq_true rfl) (fun _ _ _ => rfl) r_153_4 tw_2_7 dX8_tellHeaviest_247 ?_
      refine x_callVN (dC := G9_asideLower_dep) (as := []) (st := [.long r42, .ref 151]) C rX kX (Nat.le_trans (Nat.le_of_ble_eq_true rfl) hd) (Nat.le_of_ble_eq_true rfl) ob160.1 ob160.2 (Nat.le_of_ble_eq_true rfl) rfl ts_3_15 tw_4_83 tw_4_81 tc_4_84 tw_1_7 hyX9 hnX9_asideLower rfl (Nat.le_of_ble_eq_true rfl) dX8_tellHeaviest_250 (G9_asideLower_met C.2.2.2.2.2.2.2.1 (Nat.le_refl _) ob160 h) (fun r0 μ43 hq => ?_)
      obtain ⟨r44, rfl, h⟩ := hq
      refine x_st [.long r44, .long r42, .ref 151] rfl ?_
      refine x_callVN (dC := G7_addFraction_dep) (as := [.long r42, .long r44]) (st := []) C rX kX (Nat.le_trans (Nat.le_of_ble_eq_true rfl) hd) (Nat.le_of_ble_eq_true rfl) ob151.1 ob151.2 (Nat.le_of_ble_eq_true rfl) rfl ts_3_10 tw_4_56 tw_4_54 tc_4_57 tw_1_5 hyX7 hnX7_addFraction rfl (Nat.le_of_ble_eq_true rfl) dX8_tellHeaviest_253 (G7_addFraction_met C.2.2.2.2.2.2.2.1 (Nat.le_refl _)  h) (fun r0 μ45 hq => ?_)
      obtain ⟨rfl, h⟩ := hq
      refine x_st [] rfl ?_
      refine x_iload_n C rfl 1 rfl dX8_tellHeaviest_256 ?_
      exact x_iret C hr dX8_tellHeaviest_257 ⟨_, rfl, h⟩
    · have h := h.2 c37
      refine x_bipush (v := (-2)) C (by decide) dX8_tellHeaviest_200 ?_
      exact x_iret C hr dX8_tellHeaviest_202 ⟨_, rfl, h⟩
  · have h := h.2 c36
    refine x_aload_n C rfl 0 rfl dX8_tellHeaviest_45 ?_
    refine x_aload_n C rfl 0 rfl dX8_tellHeaviest_46 ?_
    refine x_getR (r := 157) C (j := 3) ob153.1 ob153.2 (Nat.le_of_ble_eq_true rfl) (Nat.le_of_ble_eq_true rfl) (fun _ _ _ => rfl) r_153_3 tw_2_6 dX8_tellHeaviest_47 ?_
    refine x_iconst (v := (-1)) C (by decide) dX8_tellHeaviest_50 ?_
    refine x_iload C 4 rfl dX8_tellHeaviest_51 ?_
    refine x_callV (dC := G8_gather_dep) (as := [.ref 157, .int (-1), .int x.2.2.2.1]) (st := []) C rX kX (Nat.le_trans (Nat.le_of_ble_eq_true rfl) hd) (Nat.le_of_ble_eq_true rfl) ob153.1 ob153.2 (Nat.le_of_ble_eq_true rfl) rfl ts_3_3 tw_4_28 tw_4_26 tc_4_29 tw_1_6 hyX8 hnX8_gather rfl (Nat.le_of_ble_eq_true rfl) dX8_tellHeaviest_53 (G8_gather_met C.2.2.2.2.2.2.2.1 (Nat.le_refl _) ob157 h) (fun r0 μ46 hq => ?_)
    obtain ⟨rfl, h⟩ := hq
    refine x_st [] rfl ?_
    refine x_aload_n C rfl 0 rfl dX8_tellHeaviest_56 ?_
    refine x_getR (r := 160) C (j := 4) ob153.1 ob153.2 (Nat.le_of_ble_eq_true rfl) (Nat.le_of_ble_eq_true rfl) (fun _ _ _ => rfl) r_153_4 tw_2_7 dX8_tellHeaviest_57 ?_
    refine x_aload_n C rfl 0 rfl dX8_tellHeaviest_60 ?_
    refine x_getR (r := 154) C (j := 2) ob153.1 ob153.2 (Nat.le_of_ble_eq_true rfl) (Nat.le_of_ble_eq_true rfl) (fun _ _ _ => rfl) r_153_2 tw_2_5 dX8_tellHeaviest_61 ?_
    refine x_aload_n C rfl 0 rfl dX8_tellHeaviest_64 ?_
    refine x_getR (r := 157) C (j := 3) ob153.1 ob153.2 (Nat.le_of_ble_eq_true rfl) (Nat.le_of_ble_eq_true rfl) (fun _ _ _ => rfl) r_153_3 tw_2_6 dX8_tellHeaviest_65 ?_
    refine x_callVN (dC := G9_becomeWithout_dep) (as := [.ref 154, .ref 157]) (st := []) C rX kX (Nat.le_trans (Nat.le_of_ble_eq_true rfl) hd) (Nat.le_of_ble_eq_true rfl) ob160.1 ob160.2 (Nat.le_of_ble_eq_true rfl) rfl ts_4_4 tw_4_116 tw_4_114 tc_4_117 tw_1_7 hyX9 hnX9_becomeWithout rfl (Nat.le_of_ble_eq_true rfl) dX8_tellHeaviest_68 (G9_becomeWithout_met C.2.2.2.2.2.2.2.1 (Nat.le_refl _) ob160 ob154 ob157 h) (fun r0 μ47 hq => ?_)
    obtain ⟨rfl, h⟩ := hq
    refine x_st [] rfl ?_
    refine x_aload_n C rfl 0 rfl dX8_tellHeaviest_71 ?_
    refine x_getR (r := 157) C (j := 3) ob153.1 ob153.2 (Nat.le_of_ble_eq_true rfl) (Nat.le_of_ble_eq_true rfl) (fun _ _ _ => rfl) r_153_3 tw_2_6 dX8_tellHeaviest_72 ?_
    refine x_callVN (dC := G9_all_dep) (as := []) (st := []) C rX kX (Nat.le_trans (Nat.le_of_ble_eq_true rfl) hd) (Nat.le_of_ble_eq_true rfl) ob157.1 ob157.2 (Nat.le_of_ble_eq_true rfl) rfl ts_3_9 tw_4_52 tw_4_50 tc_4_53 tw_1_7 hyX9 hnX9_all rfl (Nat.le_of_ble_eq_true rfl) dX8_tellHeaviest_75 (G9_all_met C.2.2.2.2.2.2.2.1 (Nat.le_refl _) ob157 h) (fun r0 μ48 hq => ?_)
    obtain ⟨r49, rfl, h⟩ := hq
    refine x_st [.int r49] rfl ?_
    refine x_if_eq (tgt := 189) C dX8_tellHeaviest_78 (by decide) (fun c50 => ?_) (fun c50 => ?_)
    · have h := h.1 c50
      refine x_iinc (v := (x.2.2.2.1 + 1)) C [(6, .int (x.2.2.2.1 + 1)), (0, .ref 153), (1, .int x.1), (2, .long x.2.1), (4, .long x.2.2.1)] 4 rfl (congrArg (fun z => x.2.2.2.1 + z) (by decide : Int32.ofInt (1) = 1)) (Nat.le_of_ble_eq_true rfl) rfl dX8_tellHeaviest_189 ?_
      refine x_goto (tgt := 33) C dX8_tellHeaviest_192 (by decide) ?_
      refine x_sub [(0, .ref 153), (1, .int x.1), (2, .long x.2.1), (4, .long x.2.2.1), (6, .int (x.2.2.2.1 + 1))] [1, 2, 3, 4, 0] rfl ?_
      exact hK33 _ _ _ _ _ h
    · have h := h.2 c50
      refine x_aload_n C rfl 0 rfl dX8_tellHeaviest_81 ?_
      refine x_getR (r := 160) C (j := 4) ob153.1 ob153.2 (Nat.le_of_ble_eq_true rfl) (Nat.le_of_ble_eq_true rfl) (fun _ _ _ => rfl) r_153_4 tw_2_7 dX8_tellHeaviest_82 ?_
      refine x_callVN (dC := G9_hasBoth_dep) (as := []) (st := []) C rX kX (Nat.le_trans (Nat.le_of_ble_eq_true rfl) hd) (Nat.le_of_ble_eq_true rfl) ob160.1 ob160.2 (Nat.le_of_ble_eq_true rfl) rfl ts_3_13 tw_4_75 tw_4_73 tc_4_76 tw_1_7 hyX9 hnX9_hasBoth rfl (Nat.le_of_ble_eq_true rfl) dX8_tellHeaviest_85 (G9_hasBoth_met C.2.2.2.2.2.2.2.1 (Nat.le_refl _) ob160 h) (fun r0 μ51 hq => ?_)
      obtain ⟨r52, rfl, h⟩ := hq
      refine x_st [.int r52] rfl ?_
      refine x_if_ne (tgt := 94) C dX8_tellHeaviest_88 (by decide) (fun c53 => ?_) (fun c53 => ?_)
      · have h := h.1 c53
        refine x_aload_n C rfl 0 rfl dX8_tellHeaviest_94 ?_
        refine x_getR (r := 154) C (j := 2) ob153.1 ob153.2 (Nat.le_of_ble_eq_true rfl) (Nat.le_of_ble_eq_true rfl) (fun _ _ _ => rfl) r_153_2 tw_2_5 dX8_tellHeaviest_95 ?_
        refine x_callVN (dC := G9_asideUpper_dep) (as := []) (st := []) C rX kX (Nat.le_trans (Nat.le_of_ble_eq_true rfl) hd) (Nat.le_of_ble_eq_true rfl) ob154.1 ob154.2 (Nat.le_of_ble_eq_true rfl) rfl ts_3_14 tw_4_79 tw_4_77 tc_4_80 tw_1_7 hyX9 hnX9_asideUpper rfl (Nat.le_of_ble_eq_true rfl) dX8_tellHeaviest_98 (G9_asideUpper_met C.2.2.2.2.2.2.2.1 (Nat.le_refl _) ob154 h) (fun r0 μ54 hq => ?_)
        obtain ⟨r55, rfl, h⟩ := hq
        refine x_st [.long r55] rfl ?_
        refine x_aload_n C rfl 0 rfl dX8_tellHeaviest_101 ?_
        refine x_getR (r := 160) C (j := 4) ob153.1 ob153.2 (Nat.le_of_ble_eq_true rfl) (Nat.le_of_ble_eq_true rfl) (fun _ _ _ => rfl) r_153_4 tw_2_7 dX8_tellHeaviest_102 ?_
        refine x_callVN (dC := G9_asideLower_dep) (as := []) (st := [.long r55]) C rX kX (Nat.le_trans (Nat.le_of_ble_eq_true rfl) hd) (Nat.le_of_ble_eq_true rfl) ob160.1 ob160.2 (Nat.le_of_ble_eq_true rfl) rfl ts_3_15 tw_4_83 tw_4_81 tc_4_84 tw_1_7 hyX9 hnX9_asideLower rfl (Nat.le_of_ble_eq_true rfl) dX8_tellHeaviest_105 (G9_asideLower_met C.2.2.2.2.2.2.2.1 (Nat.le_refl _) ob160 h) (fun r0 μ56 hq => ?_)
        obtain ⟨r57, rfl, h⟩ := hq
        refine x_st [.long r57, .long r55] rfl ?_
        refine x_lmul C dX8_tellHeaviest_108 ?_
        refine x_aload_n C rfl 0 rfl dX8_tellHeaviest_109 ?_
        refine x_getR (r := 160) C (j := 4) ob153.1 ob153.2 (Nat.le_of_ble_eq_true rfl) (Nat.le_of_ble_eq_true rfl) (fun _ _ _ => rfl) r_153_4 tw_2_7 dX8_tellHeaviest_110 ?_
        refine x_callVN (dC := G9_asideUpper_dep) (as := []) (st := [.long (r55 * r57)]) C rX kX (Nat.le_trans (Nat.le_of_ble_eq_true rfl) hd) (Nat.le_of_ble_eq_true rfl) ob160.1 ob160.2 (Nat.le_of_ble_eq_true rfl) rfl ts_3_14 tw_4_79 tw_4_77 tc_4_80 tw_1_7 hyX9 hnX9_asideUpper rfl (Nat.le_of_ble_eq_true rfl) dX8_tellHeaviest_113 (G9_asideUpper_met C.2.2.2.2.2.2.2.1 (Nat.le_refl _) ob160 h) (fun r0 μ58 hq => ?_)
        obtain ⟨r59, rfl, h⟩ := hq
        refine x_st [.long r59, .long (r55 * r57)] rfl ?_
        refine x_aload_n C rfl 0 rfl dX8_tellHeaviest_116 ?_
        refine x_getR (r := 154) C (j := 2) ob153.1 ob153.2 (Nat.le_of_ble_eq_true rfl) (Nat.le_of_ble_eq_true rfl) (fun _ _ _ => rfl) r_153_2 tw_2_5 dX8_tellHeaviest_117 ?_
        refine x_callVN (dC := G9_asideLower_dep) (as := []) (st := [.long r59, .long (r55 * r57)]) C rX kX (Nat.le_trans (Nat.le_of_ble_eq_true rfl) hd) (Nat.le_of_ble_eq_true rfl) ob154.1 ob154.2 (Nat.le_of_ble_eq_true rfl) rfl ts_3_15 tw_4_83 tw_4_81 tc_4_84 tw_1_7 hyX9 hnX9_asideLower rfl (Nat.le_of_ble_eq_true rfl) dX8_tellHeaviest_120 (G9_asideLower_met C.2.2.2.2.2.2.2.1 (Nat.le_refl _) ob154 h) (fun r0 μ60 hq => ?_)
        obtain ⟨r61, rfl, h⟩ := hq
        refine x_st [.long r61, .long r59, .long (r55 * r57)] rfl ?_
        refine x_lmul C dX8_tellHeaviest_123 ?_
        refine x_lsub C dX8_tellHeaviest_124 ?_
        refine x_topl (fun y62 e_y62 => ?_)
        have h := h y62 e_y62
        refine x_lstore C [(7, .long y62), (0, .ref 153), (1, .int x.1), (2, .long x.2.1), (4, .long x.2.2.1), (6, .int x.2.2.2.1)] (Nat.le_of_ble_eq_true rfl) rfl dX8_tellHeaviest_125 ?_
        refine x_lload C 0 rfl dX8_tellHeaviest_127 ?_
        refine x_lconst (v := 0) C (by decide) dX8_tellHeaviest_129 ?_
        refine x_lcmp C dX8_tellHeaviest_130 ?_
        refine x_if_ge (tgt := 140) C dX8_tellHeaviest_131 (by decide) (fun c63 => ?_) (fun c63 => ?_)
        · have h := h.1 c63
          refine x_lload C 0 rfl dX8_tellHeaviest_140 ?_
          refine x_sub [(0, .ref 153), (1, .int x.1), (2, .long x.2.1), (4, .long x.2.2.1), (6, .int x.2.2.2.1)] [1, 2, 3, 4, 5] rfl ?_
          exact G8_tellHeaviest_J142_ok C hd hr hK33 h
        · have h := h.2 c63
          refine x_lload C 0 rfl dX8_tellHeaviest_134 ?_
          refine x_lneg C dX8_tellHeaviest_136 ?_
          refine x_goto (tgt := 142) C dX8_tellHeaviest_137 (by decide) ?_
          refine x_sub [(0, .ref 153), (1, .int x.1), (2, .long x.2.1), (4, .long x.2.2.1), (6, .int x.2.2.2.1)] [1, 2, 3, 4, 5] rfl ?_
          exact G8_tellHeaviest_J142_ok C hd hr hK33 h
      · have h := h.2 c53
        refine x_goto (tgt := 189) C dX8_tellHeaviest_91 (by decide) ?_
        refine x_iinc (v := (x.2.2.2.1 + 1)) C [(6, .int (x.2.2.2.1 + 1)), (0, .ref 153), (1, .int x.1), (2, .long x.2.1), (4, .long x.2.2.1)] 4 rfl (congrArg (fun z => x.2.2.2.1 + z) (by decide : Int32.ofInt (1) = 1)) (Nat.le_of_ble_eq_true rfl) rfl dX8_tellHeaviest_189 ?_
        refine x_goto (tgt := 33) C dX8_tellHeaviest_192 (by decide) ?_
        refine x_sub [(0, .ref 153), (1, .int x.1), (2, .long x.2.1), (4, .long x.2.2.1), (6, .int (x.2.2.2.1 + 1))] [1, 2, 3, 4, 0] rfl ?_
        exact hK33 _ _ _ _ _ h
theorem G8_tellHeaviest_L33_ok {p : Program} {e : Env} {s : State} {m : MethodId} {args : Array Value} {below : List Frame} {meth : Method} {c : Code} {l : Launch} {φ : Nat → Nat} {tc : Nat → ClassId} {D : va_G} {s0 : State} {dR : Nat} (C : CX p s m args meth c φ tc D (AX φ) s0 cX8_tellHeaviest RX8 13) (hd : G8_tellHeaviest_dep ≤ dR) (hr : meth.sig.returnType = (some .int))   {Q : Int32 → MM → Prop}  {x : Int32 × Int64 × Int64 × Int32 × MM}    (h : Lp (G8_tellHeaviest_L33  Q) x) : WX p l e (rmX dR) s m args below meth c φ tc D (AX φ) 13 0 0 (MQ below (QX φ tc D (QI Q)) args s 0 0 (AX φ)) 33 [(0, .ref 153), (1, .int x.1), (2, .long x.2.1), (4, .long x.2.2.1), (6, .int x.2.2.2.1)] [] x.2.2.2.2 := by
  obtain ⟨n, h⟩ := h
  induction n generalizing x with
  | zero => exact h.elim
  | succ n ih => exact G8_tellHeaviest_L33_b C hd hr   (fun z1 z2 z4 z6 zμ hz => by have q := ih hz; exact q) h
set_option maxHeartbeats 4000000 in
set_option maxRecDepth 100000 in
theorem G8_tellHeaviest_met {l : Launch} {φ : Nat → Nat} {tc : Nat → ClassId} {D : va_G} {s0 : State} (hG : GX φ tc D s0) {dR : Nat} (hd : G8_tellHeaviest_dep ≤ dR)  {μ : MM} {Q : Int32 → MM → Prop}  (h : G8_tellHeaviest  μ Q) : MX l φ tc D s0 dR yX8_tellHeaviest cX8_tellHeaviest 13 (some .int) [.ref 153] μ (QI Q) := by
  refine MX.of (own := RX8) hG plX8 rfl (Nat.le_of_ble_eq_true rfl) (fun p e s m args below meth c C hr => ?_)
  refine x_sub [(0, .ref 153)] [0] rfl ?_
  unfold G8_tellHeaviest at h
  refine x_aload_n C rfl 0 rfl dX8_tellHeaviest_0 ?_
  refine x_aload_n C rfl 0 rfl dX8_tellHeaviest_1 ?_
  refine x_getR (r := 154) C (j := 2) ob153.1 ob153.2 (Nat.le_of_ble_eq_true rfl) (Nat.le_of_ble_eq_true rfl) (fun _ _ _ => rfl) r_153_2 tw_2_5 dX8_tellHeaviest_2 ?_
  refine x_iconst (v := (-1)) C (by decide) dX8_tellHeaviest_5 ?_
  refine x_iconst (v := (-1)) C (by decide) dX8_tellHeaviest_6 ?_
  refine x_callV (dC := G8_gather_dep) (as := [.ref 154, .int (-1), .int (-1)]) (st := []) C rX kX (Nat.le_trans (Nat.le_of_ble_eq_true rfl) hd) (Nat.le_of_ble_eq_true rfl) ob153.1 ob153.2 (Nat.le_of_ble_eq_true rfl) rfl ts_3_3 tw_4_28 tw_4_26 tc_4_29 tw_1_6 hyX8 hnX8_gather rfl (Nat.le_of_ble_eq_true rfl) dX8_tellHeaviest_7 (G8_gather_met C.2.2.2.2.2.2.2.1 (Nat.le_refl _) ob154 h) (fun r0 μ32 hq => ?_)
  obtain ⟨rfl, h⟩ := hq
  refine x_st [] rfl ?_
  refine x_aload_n C rfl 0 rfl dX8_tellHeaviest_10 ?_
  refine x_getR (r := 154) C (j := 2) ob153.1 ob153.2 (Nat.le_of_ble_eq_true rfl) (Nat.le_of_ble_eq_true rfl) (fun _ _ _ => rfl) r_153_2 tw_2_5 dX8_tellHeaviest_11 ?_
  refine x_callVN (dC := G9_hasBoth_dep) (as := []) (st := []) C rX kX (Nat.le_trans (Nat.le_of_ble_eq_true rfl) hd) (Nat.le_of_ble_eq_true rfl) ob154.1 ob154.2 (Nat.le_of_ble_eq_true rfl) rfl ts_3_13 tw_4_75 tw_4_73 tc_4_76 tw_1_7 hyX9 hnX9_hasBoth rfl (Nat.le_of_ble_eq_true rfl) dX8_tellHeaviest_14 (G9_hasBoth_met C.2.2.2.2.2.2.2.1 (Nat.le_refl _) ob154 h) (fun r0 μ33 hq => ?_)
  obtain ⟨r34, rfl, h⟩ := hq
  refine x_st [.int r34] rfl ?_
  refine x_if_ne (tgt := 23) C dX8_tellHeaviest_17 (by decide) (fun c35 => ?_) (fun c35 => ?_)
  · have h := h.1 c35
    refine x_iconst (v := (-1)) C (by decide) dX8_tellHeaviest_23 ?_
    refine x_istore_n C [(1, .int (-1)), (0, .ref 153)] rfl (Nat.le_of_ble_eq_true rfl) rfl dX8_tellHeaviest_24 ?_
    refine x_lconst (v := 0) C (by decide) dX8_tellHeaviest_25 ?_
    refine x_lstore_n C [(2, .long 0), (1, .int (-1)), (0, .ref 153)] rfl (Nat.le_of_ble_eq_true rfl) rfl dX8_tellHeaviest_26 ?_
    refine x_lconst (v := 1) C (by decide) dX8_tellHeaviest_27 ?_
    refine x_lstore C [(4, .long 1), (2, .long 0), (1, .int (-1)), (0, .ref 153)] (Nat.le_of_ble_eq_true rfl) rfl dX8_tellHeaviest_28 ?_
    refine x_iconst (v := 0) C (by decide) dX8_tellHeaviest_30 ?_
    refine x_istore C [(6, .int 0), (4, .long 1), (2, .long 0), (1, .int (-1)), (0, .ref 153)] (Nat.le_of_ble_eq_true rfl) rfl dX8_tellHeaviest_31 ?_
    refine x_sub [(0, .ref 153), (1, .int (-1)), (2, .long 0), (4, .long 1), (6, .int 0)] [4, 3, 2, 1, 0] rfl ?_
    exact G8_tellHeaviest_L33_ok C hd hr  h
  · have h := h.2 c35
    refine x_bipush (v := (-2)) C (by decide) dX8_tellHeaviest_20 ?_
    exact x_iret C hr dX8_tellHeaviest_22 ⟨_, rfl, h⟩
set_option maxHeartbeats 4000000 in
set_option maxRecDepth 100000 in
theorem G11_weighs_met {l : Launch} {φ : Nat → Nat} {tc : Nat → ClassId} {D : va_G} {s0 : State} (hG : GX φ tc D s0) {dR : Nat} (hd : G11_weighs_dep ≤ dR)  {μ : MM} {Q : Int32 → MM → Prop}  (h : G11_weighs  μ Q) : MX l φ tc D s0 dR yX11_weighs cX11_weighs 1 (some .int) [.ref 0] μ (QI Q) := by
  refine MX.of (own := RX11) hG plX11 rfl (Nat.le_of_ble_eq_true rfl) (fun p e s m args below meth c C hr => ?_)
  refine x_sub [(0, .ref 0)] [0] rfl ?_
  unfold G11_weighs at h
  refine x_aload_n C rfl 0 rfl dX11_weighs_0 ?_
  refine x_getR (r := 153) C (j := 2) ob0.1 ob0.2 (Nat.le_of_ble_eq_true rfl) (Nat.le_of_ble_eq_true rfl) (fun _ _ _ => rfl) r_0_2 tw_2_165 dX11_weighs_1 ?_
  refine x_callVN (dC := G8_tellHeaviest_dep) (as := []) (st := []) C rX kX (Nat.le_trans (Nat.le_of_ble_eq_true rfl) hd) (Nat.le_of_ble_eq_true rfl) ob153.1 ob153.2 (Nat.le_of_ble_eq_true rfl) rfl ts_4_3 tw_4_112 tw_4_110 tc_4_113 tw_1_6 hyX8 hnX8_tellHeaviest rfl (Nat.le_of_ble_eq_true rfl) dX11_weighs_4 (G8_tellHeaviest_met C.2.2.2.2.2.2.2.1 (Nat.le_refl _)  h) (fun r0 μ3 hq => ?_)
  obtain ⟨r4, rfl, h⟩ := hq
  refine x_st [.int r4] rfl ?_
  exact x_iret C hr dX11_weighs_7 ⟨_, rfl, h⟩
set_option maxHeartbeats 4000000 in
set_option maxRecDepth 100000 in
theorem G8_gatherNames_L105_b {p : Program} {e : Env} {s : State} {m : MethodId} {args : Array Value} {below : List Frame} {meth : Method} {c : Code} {l : Launch} {φ : Nat → Nat} {tc : Nat → ClassId} {D : va_G} {s0 : State} {dR : Nat} (C : CX p s m args meth c φ tc D (AX φ) s0 cX8_gatherNames RX8 3) (hd : G8_gatherNames_dep ≤ dR) (hr : meth.sig.returnType = (some .int))   {Q : Int32 → MM → Prop} {K105 : Int32 × Int32 × MM → Prop} {x : Int32 × Int32 × MM}   (hK105 : ∀ (z1 : Int32) (z2 : Int32) (zμ : MM), K105 (z1, z2, zμ) → WX p l e (rmX dR) s m args below meth c φ tc D (AX φ) 3 0 0 (MQ below (QX φ tc D (QI Q)) args s 0 0 (AX φ)) 105 [(0, .ref 153), (1, .int z1), (2, .int z2)] [] zμ) (h : G8_gatherNames_L105  Q K105 x) : WX p l e (rmX dR) s m args below meth c φ tc D (AX φ) 3 0 0 (MQ below (QX φ tc D (QI Q)) args s 0 0 (AX φ)) 105 [(0, .ref 153), (1, .int x.1), (2, .int x.2.1)] [] x.2.2 := by
  unfold G8_gatherNames_L105 at h
  refine x_iload_n C rfl 2 rfl dX8_gatherNames_105 ?_
  refine x_aload_n C rfl 0 rfl dX8_gatherNames_106 ?_
  refine x_getR (r := 1) C (j := 0) ob153.1 ob153.2 (Nat.le_of_ble_eq_true rfl) (Nat.le_of_ble_eq_true rfl) (fun _ _ _ => rfl) r_153_0 tw_2_3 dX8_gatherNames_107 ?_
  refine x_getIN C (j := 4) ob1.1 ob1.2 (Nat.le_of_ble_eq_true rfl) (Nat.le_of_ble_eq_true rfl) (Or.inl rfl) tw_1_132 dX8_gatherNames_110 ?_
  refine x_icmp_ge (tgt := 141) C dX8_gatherNames_113 (by decide) (fun c17 => ?_) (fun c17 => ?_)
  · have h := h.1 c17
    refine x_iload_n C rfl 1 rfl dX8_gatherNames_141 ?_
    exact x_iret C hr dX8_gatherNames_142 ⟨_, rfl, h⟩
  · have h := h.2 c17
    refine x_aload_n C rfl 0 rfl dX8_gatherNames_116 ?_
    refine x_getR (r := 164) C (j := 6) ob153.1 ob153.2 (Nat.le_of_ble_eq_true rfl) (Nat.le_of_ble_eq_true rfl) (fun _ _ _ => rfl) r_153_6 tw_2_9 dX8_gatherNames_117 ?_
    refine x_iload_n C rfl 2 rfl dX8_gatherNames_120 ?_
    obtain ⟨c18, h⟩ := h
    refine x_iald C ob164.1 ob164.2 c18 rfl dX8_gatherNames_121 ?_
    refine x_if_le (tgt := 135) C dX8_gatherNames_122 (by decide) (fun c19 => ?_) (fun c19 => ?_)
    · have h := h.1 c19
      refine x_iinc (v := (x.2.1 + 1)) C [(2, .int (x.2.1 + 1)), (0, .ref 153), (1, .int x.1)] 2 rfl (congrArg (fun z => x.2.1 + z) (by decide : Int32.ofInt (1) = 1)) (Nat.le_of_ble_eq_true rfl) rfl dX8_gatherNames_135 ?_
      refine x_goto (tgt := 105) C dX8_gatherNames_138 (by decide) ?_
      refine x_sub [(0, .ref 153), (1, .int x.1), (2, .int (x.2.1 + 1))] [1, 2, 0] rfl ?_
      exact hK105 _ _ _ h
    · have h := h.2 c19
      refine x_aload_n C rfl 0 rfl dX8_gatherNames_125 ?_
      refine x_getR (r := 166) C (j := 8) ob153.1 ob153.2 (Nat.le_of_ble_eq_true rfl) (Nat.le_of_ble_eq_true rfl) (fun _ _ _ => rfl) r_153_8 tw_2_11 dX8_gatherNames_126 ?_
      refine x_iload_n C rfl 1 rfl dX8_gatherNames_129 ?_
      refine x_iload_n C rfl 2 rfl dX8_gatherNames_130 ?_
      obtain ⟨c20, h⟩ := h
      refine x_iast C ob166.1 ob166.2 c20 rfl dX8_gatherNames_131 ?_
      refine x_mu (fun μ21 e_μ21 => ?_)
      have h := h μ21 e_μ21
      refine x_iinc (v := (x.1 + 1)) C [(1, .int (x.1 + 1)), (0, .ref 153), (2, .int x.2.1)] 1 rfl (congrArg (fun z => x.1 + z) (by decide : Int32.ofInt (1) = 1)) (Nat.le_of_ble_eq_true rfl) rfl dX8_gatherNames_132 ?_
      refine x_iinc (v := (x.2.1 + 1)) C [(2, .int (x.2.1 + 1)), (1, .int (x.1 + 1)), (0, .ref 153)] 2 rfl (congrArg (fun z => x.2.1 + z) (by decide : Int32.ofInt (1) = 1)) (Nat.le_of_ble_eq_true rfl) rfl dX8_gatherNames_135 ?_
      refine x_goto (tgt := 105) C dX8_gatherNames_138 (by decide) ?_
      refine x_sub [(0, .ref 153), (1, .int (x.1 + 1)), (2, .int (x.2.1 + 1))] [2, 1, 0] rfl ?_
      exact hK105 _ _ _ h
theorem G8_gatherNames_L105_ok {p : Program} {e : Env} {s : State} {m : MethodId} {args : Array Value} {below : List Frame} {meth : Method} {c : Code} {l : Launch} {φ : Nat → Nat} {tc : Nat → ClassId} {D : va_G} {s0 : State} {dR : Nat} (C : CX p s m args meth c φ tc D (AX φ) s0 cX8_gatherNames RX8 3) (hd : G8_gatherNames_dep ≤ dR) (hr : meth.sig.returnType = (some .int))   {Q : Int32 → MM → Prop}  {x : Int32 × Int32 × MM}    (h : Lp (G8_gatherNames_L105  Q) x) : WX p l e (rmX dR) s m args below meth c φ tc D (AX φ) 3 0 0 (MQ below (QX φ tc D (QI Q)) args s 0 0 (AX φ)) 105 [(0, .ref 153), (1, .int x.1), (2, .int x.2.1)] [] x.2.2 := by
  obtain ⟨n, h⟩ := h
  induction n generalizing x with
  | zero => exact h.elim
  | succ n ih => exact G8_gatherNames_L105_b C hd hr   (fun z1 z2 zμ hz => by have q := ih hz; exact q) h
set_option maxHeartbeats 4000000 in
set_option maxRecDepth 100000 in
theorem G8_gatherNames_J93_ok {p : Program} {e : Env} {s : State} {m : MethodId} {args : Array Value} {below : List Frame} {meth : Method} {c : Code} {l : Launch} {φ : Nat → Nat} {tc : Nat → ClassId} {D : va_G} {s0 : State} {dR : Nat} (C : CX p s m args meth c φ tc D (AX φ) s0 cX8_gatherNames RX8 3) (hd : G8_gatherNames_dep ≤ dR) (hr : meth.sig.returnType = (some .int))   {p1 : Int32} {q0 : Int32} {q1 : Int32} {q2 : Int32} {Q : Int32 → MM → Prop} {K30 : Int32 × MM → Prop} {μ : MM}   (hK30 : ∀ (z1 : Int32) (zμ : MM), K30 (z1, zμ) → WX p l e (rmX dR) s m args below meth c φ tc D (AX φ) 3 0 0 (MQ below (QX φ tc D (QI Q)) args s 0 0 (AX φ)) 30 [(0, .ref 153), (1, .int z1)] [] zμ) (h : G8_gatherNames_J93 p1 q0 q1 q2 μ K30 Q) : WX p l e (rmX dR) s m args below meth c φ tc D (AX φ) 3 0 0 (MQ below (QX φ tc D (QI Q)) args s 0 0 (AX φ)) 93 [(0, .ref 153), (1, .int p1)] [.int q0, .int q1, .int q2, .ref 165] μ := by
  unfold G8_gatherNames_J93 at h
  refine x_iadd C dX8_gatherNames_93 ?_
  obtain ⟨c29, h⟩ := h
  refine x_iast C ob165.1 ob165.2 c29 rfl dX8_gatherNames_94 ?_
  refine x_mu (fun μ30 e_μ30 => ?_)
  have h := h μ30 e_μ30
  refine x_iinc (v := (p1 + 1)) C [(1, .int (p1 + 1)), (0, .ref 153)] 1 rfl (congrArg (fun z => p1 + z) (by decide : Int32.ofInt (1) = 1)) (Nat.le_of_ble_eq_true rfl) rfl dX8_gatherNames_95 ?_
  refine x_goto (tgt := 30) C dX8_gatherNames_98 (by decide) ?_
  refine x_sub [(0, .ref 153), (1, .int (p1 + 1))] [1, 0] rfl ?_
  exact hK30 _ _ h
set_option maxHeartbeats 4000000 in
set_option maxRecDepth 100000 in
theorem G8_gatherNames_L30_b {p : Program} {e : Env} {s : State} {m : MethodId} {args : Array Value} {below : List Frame} {meth : Method} {c : Code} {l : Launch} {φ : Nat → Nat} {tc : Nat → ClassId} {D : va_G} {s0 : State} {dR : Nat} (C : CX p s m args meth c φ tc D (AX φ) s0 cX8_gatherNames RX8 3) (hd : G8_gatherNames_dep ≤ dR) (hr : meth.sig.returnType = (some .int))   {Q : Int32 → MM → Prop} {K30 : Int32 × MM → Prop} {x : Int32 × MM}   (hK30 : ∀ (z1 : Int32) (zμ : MM), K30 (z1, zμ) → WX p l e (rmX dR) s m args below meth c φ tc D (AX φ) 3 0 0 (MQ below (QX φ tc D (QI Q)) args s 0 0 (AX φ)) 30 [(0, .ref 153), (1, .int z1)] [] zμ) (h : G8_gatherNames_L30  Q K30 x) : WX p l e (rmX dR) s m args below meth c φ tc D (AX φ) 3 0 0 (MQ below (QX φ tc D (QI Q)) args s 0 0 (AX φ)) 30 [(0, .ref 153), (1, .int x.1)] [] x.2 := by
  unfold G8_gatherNames_L30 at h
  refine x_iload_n C rfl 1 rfl dX8_gatherNames_30 ?_
  refine x_aload_n C rfl 0 rfl dX8_gatherNames_31 ?_
  refine x_getR (r := 1) C (j := 0) ob153.1 ob153.2 (Nat.le_of_ble_eq_true rfl) (Nat.le_of_ble_eq_true rfl) (fun _ _ _ => rfl) r_153_0 tw_2_3 dX8_gatherNames_32 ?_
  refine x_getIN C (j := 10) ob1.1 ob1.2 (Nat.le_of_ble_eq_true rfl) (Nat.le_of_ble_eq_true rfl) (Or.inl rfl) tw_1_150 dX8_gatherNames_35 ?_
  refine x_icmp_ge (tgt := 101) C dX8_gatherNames_38 (by decide) (fun c16 => ?_) (fun c16 => ?_)
  · have h := h.1 c16
    refine x_iconst (v := 0) C (by decide) dX8_gatherNames_101 ?_
    refine x_istore_n C [(1, .int 0), (0, .ref 153)] rfl (Nat.le_of_ble_eq_true rfl) rfl dX8_gatherNames_102 ?_
    refine x_iconst (v := 0) C (by decide) dX8_gatherNames_103 ?_
    refine x_istore_n C [(2, .int 0), (1, .int 0), (0, .ref 153)] rfl (Nat.le_of_ble_eq_true rfl) rfl dX8_gatherNames_104 ?_
    refine x_sub [(0, .ref 153), (1, .int 0), (2, .int 0)] [2, 1, 0] rfl ?_
    exact G8_gatherNames_L105_ok C hd hr  h
  · have h := h.2 c16
    refine x_aload_n C rfl 0 rfl dX8_gatherNames_41 ?_
    refine x_getR (r := 1) C (j := 0) ob153.1 ob153.2 (Nat.le_of_ble_eq_true rfl) (Nat.le_of_ble_eq_true rfl) (fun _ _ _ => rfl) r_153_0 tw_2_3 dX8_gatherNames_42 ?_
    refine x_getRN (r := 9) C (j := 9) ob1.1 ob1.2 (Nat.le_of_ble_eq_true rfl) (Nat.le_of_ble_eq_true rfl) (fun _ _ _ => rfl) r_1_9 tw_1_145 dX8_gatherNames_45 ?_
    refine x_iload_n C rfl 1 rfl dX8_gatherNames_48 ?_
    obtain ⟨c22, h⟩ := h
    refine x_aald (r := (19 + x.1.toNatClampNeg)) C ob9.1 (by decide) (by decide) c22 rfl (rA9 c22) dX8_gatherNames_49 ?_
    refine x_astore_n C [(2, .ref (19 + x.1.toNatClampNeg)), (0, .ref 153), (1, .int x.1)] rfl (Nat.le_of_ble_eq_true rfl) rfl dX8_gatherNames_50 ?_
    refine x_aload_n C rfl 0 rfl dX8_gatherNames_51 ?_
    refine x_getIN C (j := 6) (obA9 c22).1 (obA9 c22).2 (Nat.le_of_ble_eq_true rfl) (Nat.le_of_ble_eq_true rfl) (Or.inr rfl) tw_1_69 dX8_gatherNames_52 ?_
    refine x_if_eq (tgt := 95) C dX8_gatherNames_55 (by decide) (fun c23 => ?_) (fun c23 => ?_)
    · have h := h.1 c23
      refine x_iinc (v := (x.1 + 1)) C [(1, .int (x.1 + 1)), (2, .ref (19 + x.1.toNatClampNeg)), (0, .ref 153)] 2 rfl (congrArg (fun z => x.1 + z) (by decide : Int32.ofInt (1) = 1)) (Nat.le_of_ble_eq_true rfl) rfl dX8_gatherNames_95 ?_
      refine x_goto (tgt := 30) C dX8_gatherNames_98 (by decide) ?_
      refine x_sub [(0, .ref 153), (1, .int (x.1 + 1))] [2, 0] rfl ?_
      exact hK30 _ _ h
    · have h := h.2 c23
      refine x_aload_n C rfl 1 rfl dX8_gatherNames_58 ?_
      refine x_getR (r := 164) C (j := 6) ob153.1 ob153.2 (Nat.le_of_ble_eq_true rfl) (Nat.le_of_ble_eq_true rfl) (fun _ _ _ => rfl) r_153_6 tw_2_9 dX8_gatherNames_59 ?_
      refine x_aload_n C rfl 0 rfl dX8_gatherNames_62 ?_
      refine x_getIN C (j := 1) (obA9 c22).1 (obA9 c22).2 (Nat.le_of_ble_eq_true rfl) (Nat.le_of_ble_eq_true rfl) (Or.inl rfl) tw_1_57 dX8_gatherNames_63 ?_
      refine x_dup2_11 C rfl rfl dX8_gatherNames_66 ?_
      obtain ⟨c24, h⟩ := h
      refine x_iald C ob164.1 ob164.2 c24 rfl dX8_gatherNames_67 ?_
      refine x_iconst (v := 1) C (by decide) dX8_gatherNames_68 ?_
      refine x_iadd C dX8_gatherNames_69 ?_
      obtain ⟨c25, h⟩ := h
      refine x_iast C ob164.1 ob164.2 c25 rfl dX8_gatherNames_70 ?_
      refine x_mu (fun μ26 e_μ26 => ?_)
      have h := h μ26 e_μ26
      refine x_aload_n C rfl 1 rfl dX8_gatherNames_71 ?_
      refine x_getR (r := 165) C (j := 7) ob153.1 ob153.2 (Nat.le_of_ble_eq_true rfl) (Nat.le_of_ble_eq_true rfl) (fun _ _ _ => rfl) r_153_7 tw_2_10 dX8_gatherNames_72 ?_
      refine x_aload_n C rfl 0 rfl dX8_gatherNames_75 ?_
      refine x_getIN C (j := 1) (obA9 c22).1 (obA9 c22).2 (Nat.le_of_ble_eq_true rfl) (Nat.le_of_ble_eq_true rfl) (Or.inl rfl) tw_1_57 dX8_gatherNames_76 ?_
      refine x_dup2_11 C rfl rfl dX8_gatherNames_79 ?_
      obtain ⟨c27, h⟩ := h
      refine x_iald C ob165.1 ob165.2 c27 rfl dX8_gatherNames_80 ?_
      refine x_aload_n C rfl 0 rfl dX8_gatherNames_81 ?_
      refine x_getIN C (j := 7) (obA9 c22).1 (obA9 c22).2 (Nat.le_of_ble_eq_true rfl) (Nat.le_of_ble_eq_true rfl) (Or.inr rfl) tw_1_76 dX8_gatherNames_82 ?_
      refine x_if_eq (tgt := 92) C dX8_gatherNames_85 (by decide) (fun c28 => ?_) (fun c28 => ?_)
      · have h := h.1 c28
        refine x_iconst (v := 0) C (by decide) dX8_gatherNames_92 ?_
        refine x_sub [(0, .ref 153), (1, .int x.1)] [1, 2] rfl ?_
        exact G8_gatherNames_J93_ok C hd hr hK30 h
      · have h := h.2 c28
        refine x_iconst (v := 1) C (by decide) dX8_gatherNames_88 ?_
        refine x_goto (tgt := 93) C dX8_gatherNames_89 (by decide) ?_
        refine x_sub [(0, .ref 153), (1, .int x.1)] [1, 2] rfl ?_
        exact G8_gatherNames_J93_ok C hd hr hK30 h
theorem G8_gatherNames_L30_ok {p : Program} {e : Env} {s : State} {m : MethodId} {args : Array Value} {below : List Frame} {meth : Method} {c : Code} {l : Launch} {φ : Nat → Nat} {tc : Nat → ClassId} {D : va_G} {s0 : State} {dR : Nat} (C : CX p s m args meth c φ tc D (AX φ) s0 cX8_gatherNames RX8 3) (hd : G8_gatherNames_dep ≤ dR) (hr : meth.sig.returnType = (some .int))   {Q : Int32 → MM → Prop}  {x : Int32 × MM}    (h : Lp (G8_gatherNames_L30  Q) x) : WX p l e (rmX dR) s m args below meth c φ tc D (AX φ) 3 0 0 (MQ below (QX φ tc D (QI Q)) args s 0 0 (AX φ)) 30 [(0, .ref 153), (1, .int x.1)] [] x.2 := by
  obtain ⟨n, h⟩ := h
  induction n generalizing x with
  | zero => exact h.elim
  | succ n ih => exact G8_gatherNames_L30_b C hd hr   (fun z1 zμ hz => by have q := ih hz; exact q) h
set_option maxHeartbeats 4000000 in
set_option maxRecDepth 100000 in
theorem G8_gatherNames_L2_b {p : Program} {e : Env} {s : State} {m : MethodId} {args : Array Value} {below : List Frame} {meth : Method} {c : Code} {l : Launch} {φ : Nat → Nat} {tc : Nat → ClassId} {D : va_G} {s0 : State} {dR : Nat} (C : CX p s m args meth c φ tc D (AX φ) s0 cX8_gatherNames RX8 3) (hd : G8_gatherNames_dep ≤ dR) (hr : meth.sig.returnType = (some .int))   {Q : Int32 → MM → Prop} {K2 : Int32 × MM → Prop} {x : Int32 × MM}   (hK2 : ∀ (z1 : Int32) (zμ : MM), K2 (z1, zμ) → WX p l e (rmX dR) s m args below meth c φ tc D (AX φ) 3 0 0 (MQ below (QX φ tc D (QI Q)) args s 0 0 (AX φ)) 2 [(0, .ref 153), (1, .int z1)] [] zμ) (h : G8_gatherNames_L2  Q K2 x) : WX p l e (rmX dR) s m args below meth c φ tc D (AX φ) 3 0 0 (MQ below (QX φ tc D (QI Q)) args s 0 0 (AX φ)) 2 [(0, .ref 153), (1, .int x.1)] [] x.2 := by
  unfold G8_gatherNames_L2 at h
  refine x_iload_n C rfl 1 rfl dX8_gatherNames_2 ?_
  refine x_bipush (v := 12) C (by decide) dX8_gatherNames_3 ?_
  refine x_icmp_ge (tgt := 28) C dX8_gatherNames_5 (by decide) (fun c15 => ?_) (fun c15 => ?_)
  · have h := h.1 c15
    refine x_iconst (v := 0) C (by decide) dX8_gatherNames_28 ?_
    refine x_istore_n C [(1, .int 0), (0, .ref 153)] rfl (Nat.le_of_ble_eq_true rfl) rfl dX8_gatherNames_29 ?_
    refine x_sub [(0, .ref 153), (1, .int 0)] [1, 0] rfl ?_
    exact G8_gatherNames_L30_ok C hd hr  h
  · have h := h.2 c15
    refine x_aload_n C rfl 0 rfl dX8_gatherNames_8 ?_
    refine x_getR (r := 164) C (j := 6) ob153.1 ob153.2 (Nat.le_of_ble_eq_true rfl) (Nat.le_of_ble_eq_true rfl) (fun _ _ _ => rfl) r_153_6 tw_2_9 dX8_gatherNames_9 ?_
    refine x_iload_n C rfl 1 rfl dX8_gatherNames_12 ?_
    refine x_iconst (v := 0) C (by decide) dX8_gatherNames_13 ?_
    obtain ⟨c31, h⟩ := h
    refine x_iast C ob164.1 ob164.2 c31 rfl dX8_gatherNames_14 ?_
    refine x_mu (fun μ32 e_μ32 => ?_)
    have h := h μ32 e_μ32
    refine x_aload_n C rfl 0 rfl dX8_gatherNames_15 ?_
    refine x_getR (r := 165) C (j := 7) ob153.1 ob153.2 (Nat.le_of_ble_eq_true rfl) (Nat.le_of_ble_eq_true rfl) (fun _ _ _ => rfl) r_153_7 tw_2_10 dX8_gatherNames_16 ?_
    refine x_iload_n C rfl 1 rfl dX8_gatherNames_19 ?_
    refine x_iconst (v := 0) C (by decide) dX8_gatherNames_20 ?_
    obtain ⟨c33, h⟩ := h
    refine x_iast C ob165.1 ob165.2 c33 rfl dX8_gatherNames_21 ?_
    refine x_mu (fun μ34 e_μ34 => ?_)
    have h := h μ34 e_μ34
    refine x_iinc (v := (x.1 + 1)) C [(1, .int (x.1 + 1)), (0, .ref 153)] 1 rfl (congrArg (fun z => x.1 + z) (by decide : Int32.ofInt (1) = 1)) (Nat.le_of_ble_eq_true rfl) rfl dX8_gatherNames_22 ?_
    refine x_goto (tgt := 2) C dX8_gatherNames_25 (by decide) ?_
    refine x_sub [(0, .ref 153), (1, .int (x.1 + 1))] [1, 0] rfl ?_
    exact hK2 _ _ h
theorem G8_gatherNames_L2_ok {p : Program} {e : Env} {s : State} {m : MethodId} {args : Array Value} {below : List Frame} {meth : Method} {c : Code} {l : Launch} {φ : Nat → Nat} {tc : Nat → ClassId} {D : va_G} {s0 : State} {dR : Nat} (C : CX p s m args meth c φ tc D (AX φ) s0 cX8_gatherNames RX8 3) (hd : G8_gatherNames_dep ≤ dR) (hr : meth.sig.returnType = (some .int))   {Q : Int32 → MM → Prop}  {x : Int32 × MM}    (h : Lp (G8_gatherNames_L2  Q) x) : WX p l e (rmX dR) s m args below meth c φ tc D (AX φ) 3 0 0 (MQ below (QX φ tc D (QI Q)) args s 0 0 (AX φ)) 2 [(0, .ref 153), (1, .int x.1)] [] x.2 := by
  obtain ⟨n, h⟩ := h
  induction n generalizing x with
  | zero => exact h.elim
  | succ n ih => exact G8_gatherNames_L2_b C hd hr   (fun z1 zμ hz => by have q := ih hz; exact q) h
set_option maxHeartbeats 4000000 in
set_option maxRecDepth 100000 in
theorem G8_gatherNames_met {l : Launch} {φ : Nat → Nat} {tc : Nat → ClassId} {D : va_G} {s0 : State} (hG : GX φ tc D s0) {dR : Nat} (hd : G8_gatherNames_dep ≤ dR)  {μ : MM} {Q : Int32 → MM → Prop}  (h : G8_gatherNames  μ Q) : MX l φ tc D s0 dR yX8_gatherNames cX8_gatherNames 3 (some .int) [.ref 153] μ (QI Q) := by
  refine MX.of (own := RX8) hG plX8 rfl (Nat.le_of_ble_eq_true rfl) (fun p e s m args below meth c C hr => ?_)
  refine x_sub [(0, .ref 153)] [0] rfl ?_
  unfold G8_gatherNames at h
  refine x_iconst (v := 0) C (by decide) dX8_gatherNames_0 ?_
  refine x_istore_n C [(1, .int 0), (0, .ref 153)] rfl (Nat.le_of_ble_eq_true rfl) rfl dX8_gatherNames_1 ?_
  refine x_sub [(0, .ref 153), (1, .int 0)] [1, 0] rfl ?_
  exact G8_gatherNames_L2_ok C hd hr  h
set_option maxHeartbeats 4000000 in
set_option maxRecDepth 100000 in
theorem G8_tellName_met {l : Launch} {φ : Nat → Nat} {tc : Nat → ClassId} {D : va_G} {s0 : State} (hG : GX φ tc D s0) {dR : Nat} (hd : G8_tellName_dep ≤ dR) {v1 : Int32} {μ : MM} {Q : Int32 → MM → Prop}  (h : G8_tellName v1 μ Q) : MX l φ tc D s0 dR yX8_tellName cX8_tellName 2 (some .int) [.ref 153, .int v1] μ (QI Q) := by
  refine MX.of (own := RX8) hG plX8 rfl (Nat.le_of_ble_eq_true rfl) (fun p e s m args below meth c C hr => ?_)
  refine x_sub [(0, .ref 153), (1, .int v1)] [0, 1] rfl ?_
  unfold G8_tellName at h
  refine x_aload_n C rfl 0 rfl dX8_tellName_0 ?_
  refine x_getR (r := 1) C (j := 0) ob153.1 ob153.2 (Nat.le_of_ble_eq_true rfl) (Nat.le_of_ble_eq_true rfl) (fun _ _ _ => rfl) r_153_0 tw_2_3 dX8_tellName_1 ?_
  refine x_iload_n C rfl 1 rfl dX8_tellName_4 ?_
  refine x_callVN (dC := G10_isName_dep) (as := [.int v1]) (st := []) C rX kX (Nat.le_trans (Nat.le_of_ble_eq_true rfl) hd) (Nat.le_of_ble_eq_true rfl) ob1.1 ob1.2 (Nat.le_of_ble_eq_true rfl) rfl ts_1_3 tw_2_220 tw_4_126 tc_2_221 tw_1_2 hyX10 hnX10_isName rfl (Nat.le_of_ble_eq_true rfl) dX8_tellName_5 (G10_isName_met C.2.2.2.2.2.2.2.1 (Nat.le_refl _)  h) (fun r0 μ12 hq => ?_)
  obtain ⟨r13, rfl, h⟩ := hq
  refine x_st [.int r13] rfl ?_
  refine x_if_ne (tgt := 13) C dX8_tellName_8 (by decide) (fun c14 => ?_) (fun c14 => ?_)
  · have h := h.1 c14
    refine x_aload_n C rfl 0 rfl dX8_tellName_13 ?_
    refine x_callV (dC := G8_gatherNames_dep) (as := []) (st := []) C rX kX (Nat.le_trans (Nat.le_of_ble_eq_true rfl) hd) (Nat.le_of_ble_eq_true rfl) ob153.1 ob153.2 (Nat.le_of_ble_eq_true rfl) rfl ts_4_6 tw_4_129 tw_4_127 tc_4_130 tw_1_6 hyX8 hnX8_gatherNames rfl (Nat.le_of_ble_eq_true rfl) dX8_tellName_14 (G8_gatherNames_met C.2.2.2.2.2.2.2.1 (Nat.le_refl _)  h) (fun r0 μ15 hq => ?_)
    obtain ⟨r16, rfl, h⟩ := hq
    refine x_st [.int r16] rfl ?_
    refine x_pop C rfl dX8_tellName_17 ?_
    refine x_aload_n C rfl 0 rfl dX8_tellName_18 ?_
    refine x_getR (r := 151) C (j := 1) ob153.1 ob153.2 (Nat.le_of_ble_eq_true rfl) (Nat.le_of_ble_eq_true rfl) (fun _ _ _ => rfl) r_153_1 tw_2_4 dX8_tellName_19 ?_
    refine x_callVN (dC := G7_clear_dep) (as := []) (st := []) C rX kX (Nat.le_trans (Nat.le_of_ble_eq_true rfl) hd) (Nat.le_of_ble_eq_true rfl) ob151.1 ob151.2 (Nat.le_of_ble_eq_true rfl) rfl ts_3_8 tw_4_48 tw_4_46 tc_4_49 tw_1_5 hyX7 hnX7_clear rfl (Nat.le_of_ble_eq_true rfl) dX8_tellName_22 (G7_clear_met C.2.2.2.2.2.2.2.1 (Nat.le_refl _)  h) (fun r0 μ17 hq => ?_)
    obtain ⟨rfl, h⟩ := hq
    refine x_st [] rfl ?_
    refine x_aload_n C rfl 0 rfl dX8_tellName_25 ?_
    refine x_getR (r := 164) C (j := 6) ob153.1 ob153.2 (Nat.le_of_ble_eq_true rfl) (Nat.le_of_ble_eq_true rfl) (fun _ _ _ => rfl) r_153_6 tw_2_9 dX8_tellName_26 ?_
    refine x_iload_n C rfl 1 rfl dX8_tellName_29 ?_
    obtain ⟨c18, h⟩ := h
    refine x_iald C ob164.1 ob164.2 c18 rfl dX8_tellName_30 ?_
    refine x_if_le (tgt := 55) C dX8_tellName_31 (by decide) (fun c19 => ?_) (fun c19 => ?_)
    · have h := h.1 c19
      refine x_aload_n C rfl 0 rfl dX8_tellName_55 ?_
      refine x_getR (r := 164) C (j := 6) ob153.1 ob153.2 (Nat.le_of_ble_eq_true rfl) (Nat.le_of_ble_eq_true rfl) (fun _ _ _ => rfl) r_153_6 tw_2_9 dX8_tellName_56 ?_
      refine x_iload_n C rfl 1 rfl dX8_tellName_59 ?_
      obtain ⟨c20, h⟩ := h
      refine x_iald C ob164.1 ob164.2 c20 rfl dX8_tellName_60 ?_
      exact x_iret C hr dX8_tellName_61 ⟨_, rfl, h⟩
    · have h := h.2 c19
      refine x_aload_n C rfl 0 rfl dX8_tellName_34 ?_
      refine x_getR (r := 151) C (j := 1) ob153.1 ob153.2 (Nat.le_of_ble_eq_true rfl) (Nat.le_of_ble_eq_true rfl) (fun _ _ _ => rfl) r_153_1 tw_2_4 dX8_tellName_35 ?_
      refine x_aload_n C rfl 0 rfl dX8_tellName_38 ?_
      refine x_getR (r := 165) C (j := 7) ob153.1 ob153.2 (Nat.le_of_ble_eq_true rfl) (Nat.le_of_ble_eq_true rfl) (fun _ _ _ => rfl) r_153_7 tw_2_10 dX8_tellName_39 ?_
      refine x_iload_n C rfl 1 rfl dX8_tellName_42 ?_
      obtain ⟨c21, h⟩ := h
      refine x_iald C ob165.1 ob165.2 c21 rfl dX8_tellName_43 ?_
      refine x_i2l C dX8_tellName_44 ?_
      refine x_aload_n C rfl 0 rfl dX8_tellName_45 ?_
      refine x_getR (r := 164) C (j := 6) ob153.1 ob153.2 (Nat.le_of_ble_eq_true rfl) (Nat.le_of_ble_eq_true rfl) (fun _ _ _ => rfl) r_153_6 tw_2_9 dX8_tellName_46 ?_
      refine x_iload_n C rfl 1 rfl dX8_tellName_49 ?_
      obtain ⟨c22, h⟩ := h
      refine x_iald C ob164.1 ob164.2 c22 rfl dX8_tellName_50 ?_
      refine x_i2l C dX8_tellName_51 ?_
      refine x_callVN (dC := G7_addFraction_dep) (as := [.long ((gI μ17 165 v1.toNatClampNeg).toInt64), .long ((gI μ17 164 v1.toNatClampNeg).toInt64)]) (st := []) C rX kX (Nat.le_trans (Nat.le_of_ble_eq_true rfl) hd) (Nat.le_of_ble_eq_true rfl) ob151.1 ob151.2 (Nat.le_of_ble_eq_true rfl) rfl ts_3_10 tw_4_56 tw_4_54 tc_4_57 tw_1_5 hyX7 hnX7_addFraction rfl (Nat.le_of_ble_eq_true rfl) dX8_tellName_52 (G7_addFraction_met C.2.2.2.2.2.2.2.1 (Nat.le_refl _)  h) (fun r0 μ23 hq => ?_)
      obtain ⟨rfl, h⟩ := hq
      refine x_st [] rfl ?_
      refine x_aload_n C rfl 0 rfl dX8_tellName_55 ?_
      refine x_getR (r := 164) C (j := 6) ob153.1 ob153.2 (Nat.le_of_ble_eq_true rfl) (Nat.le_of_ble_eq_true rfl) (fun _ _ _ => rfl) r_153_6 tw_2_9 dX8_tellName_56 ?_
      refine x_iload_n C rfl 1 rfl dX8_tellName_59 ?_
      obtain ⟨c24, h⟩ := h
      refine x_iald C ob164.1 ob164.2 c24 rfl dX8_tellName_60 ?_
      exact x_iret C hr dX8_tellName_61 ⟨_, rfl, h⟩
  · have h := h.2 c14
    refine x_iconst (v := (-1)) C (by decide) dX8_tellName_11 ?_
    exact x_iret C hr dX8_tellName_12 ⟨_, rfl, h⟩
set_option maxHeartbeats 4000000 in
set_option maxRecDepth 100000 in
theorem G11_names_met {l : Launch} {φ : Nat → Nat} {tc : Nat → ClassId} {D : va_G} {s0 : State} (hG : GX φ tc D s0) {dR : Nat} (hd : G11_names_dep ≤ dR) {v1 : Int32} {μ : MM} {Q : Int32 → MM → Prop}  (h : G11_names v1 μ Q) : MX l φ tc D s0 dR yX11_names cX11_names 2 (some .int) [.ref 0, .int v1] μ (QI Q) := by
  refine MX.of (own := RX11) hG plX11 rfl (Nat.le_of_ble_eq_true rfl) (fun p e s m args below meth c C hr => ?_)
  refine x_sub [(0, .ref 0), (1, .int v1)] [0, 1] rfl ?_
  unfold G11_names at h
  refine x_aload_n C rfl 0 rfl dX11_names_0 ?_
  refine x_getR (r := 153) C (j := 2) ob0.1 ob0.2 (Nat.le_of_ble_eq_true rfl) (Nat.le_of_ble_eq_true rfl) (fun _ _ _ => rfl) r_0_2 tw_2_165 dX11_names_1 ?_
  refine x_iload_n C rfl 1 rfl dX11_names_4 ?_
  refine x_callVN (dC := G8_tellName_dep) (as := [.int v1]) (st := []) C rX kX (Nat.le_trans (Nat.le_of_ble_eq_true rfl) hd) (Nat.le_of_ble_eq_true rfl) ob153.1 ob153.2 (Nat.le_of_ble_eq_true rfl) rfl ts_4_5 tw_4_124 tw_4_122 tc_4_125 tw_1_6 hyX8 hnX8_tellName rfl (Nat.le_of_ble_eq_true rfl) dX11_names_5 (G8_tellName_met C.2.2.2.2.2.2.2.1 (Nat.le_refl _)  h) (fun r0 μ3 hq => ?_)
  obtain ⟨r4, rfl, h⟩ := hq
  refine x_st [.int r4] rfl ?_
  exact x_iret C hr dX11_names_8 ⟨_, rfl, h⟩
set_option maxHeartbeats 4000000 in
set_option maxRecDepth 100000 in
theorem G11_leastMultiple_met {l : Launch} {φ : Nat → Nat} {tc : Nat → ClassId} {D : va_G} {s0 : State} (hG : GX φ tc D s0) {dR : Nat} (hd : G11_leastMultiple_dep ≤ dR) {v0 : Int64} {v2 : Int64} {μ : MM} {Q : Int64 → MM → Prop}  (h : G11_leastMultiple v0 v2 μ Q) : MX l φ tc D s0 dR yX11_leastMultiple cX11_leastMultiple 6 (some .long) [.long v0, .long v2] μ (QJ Q) := by
  refine MX.of (own := RX11) hG plX11 rfl (Nat.le_of_ble_eq_true rfl) (fun p e s m args below meth c C hr => ?_)
  refine x_sub [(0, .long v0), (2, .long v2)] [0, 1] rfl ?_
  unfold G11_leastMultiple at h
  refine x_lload_n C rfl 0 rfl dX11_leastMultiple_0 ?_
  refine x_lload_n C rfl 1 rfl dX11_leastMultiple_1 ?_
  refine x_callS (dC := G11_greatestDivisor_dep) (as := [.long v0, .long v2]) (st := []) C rX kX (Nat.le_trans (Nat.le_of_ble_eq_true rfl) hd) (Nat.le_of_ble_eq_true rfl) tw_4_59 tw_4_146 tc_4_60 tw_1_1 hyX11 hnX11_greatestDivisor rfl (Nat.le_of_ble_eq_true rfl) dX11_leastMultiple_2 (G11_greatestDivisor_met C.2.2.2.2.2.2.2.1 (Nat.le_refl _)  h) (fun r0 μ4 hq => ?_)
  obtain ⟨r5, rfl, h⟩ := hq
  refine x_st [.long r5] rfl ?_
  refine x_lstore C [(4, .long r5), (0, .long v0), (2, .long v2)] (Nat.le_of_ble_eq_true rfl) rfl dX11_leastMultiple_5 ?_
  refine x_lload C 0 rfl dX11_leastMultiple_7 ?_
  refine x_lconst (v := 0) C (by decide) dX11_leastMultiple_9 ?_
  refine x_lcmp C dX11_leastMultiple_10 ?_
  refine x_if_ne (tgt := 18) C dX11_leastMultiple_11 (by decide) (fun c6 => ?_) (fun c6 => ?_)
  · have h := h.1 c6
    refine x_lload_n C rfl 1 rfl dX11_leastMultiple_18 ?_
    refine x_lload C 0 rfl dX11_leastMultiple_19 ?_
    obtain ⟨c7, h⟩ := h
    refine x_ldiv C c7 dX11_leastMultiple_21 ?_
    refine x_lload_n C rfl 2 rfl dX11_leastMultiple_22 ?_
    refine x_lmul C dX11_leastMultiple_23 ?_
    exact x_lret C hr dX11_leastMultiple_24 ⟨_, rfl, h⟩
  · have h := h.2 c6
    refine x_lconst (v := 0) C (by decide) dX11_leastMultiple_14 ?_
    refine x_goto (tgt := 24) C dX11_leastMultiple_15 (by decide) ?_
    exact x_lret C hr dX11_leastMultiple_24 ⟨_, rfl, h⟩
set_option maxHeartbeats 4000000 in
set_option maxRecDepth 100000 in
theorem G8_scaleShares_L38_b {p : Program} {e : Env} {s : State} {m : MethodId} {args : Array Value} {below : List Frame} {meth : Method} {c : Code} {l : Launch} {φ : Nat → Nat} {tc : Nat → ClassId} {D : va_G} {s0 : State} {dR : Nat} (C : CX p s m args meth c φ tc D (AX φ) s0 cX8_scaleShares RX8 6) (hd : G8_scaleShares_dep ≤ dR) (hr : meth.sig.returnType = none)  {p1 : Int32} {p2 : Int64} {Q : MM → Prop} {K38 : Int32 × MM → Prop} {x : Int32 × MM}   (hK38 : ∀ (z4 : Int32) (zμ : MM), K38 (z4, zμ) → WX p l e (rmX dR) s m args below meth c φ tc D (AX φ) 6 0 0 (MQ below (QX φ tc D (QV Q)) args s 0 0 (AX φ)) 38 [(0, .ref 153), (1, .int p1), (2, .long p2), (4, .int z4)] [] zμ) (h : G8_scaleShares_L38 p1 p2 Q K38 x) : WX p l e (rmX dR) s m args below meth c φ tc D (AX φ) 6 0 0 (MQ below (QX φ tc D (QV Q)) args s 0 0 (AX φ)) 38 [(0, .ref 153), (1, .int p1), (2, .long p2), (4, .int x.1)] [] x.2 := by
  unfold G8_scaleShares_L38 at h
  refine x_iload C 3 rfl dX8_scaleShares_38 ?_
  refine x_iload_n C rfl 1 rfl dX8_scaleShares_40 ?_
  refine x_icmp_ge (tgt := 99) C dX8_scaleShares_41 (by decide) (fun c16 => ?_) (fun c16 => ?_)
  · have h := h.1 c16
    exact x_vret C hr dX8_scaleShares_99 ⟨rfl, h⟩
  · have h := h.2 c16
    refine x_aload_n C rfl 0 rfl dX8_scaleShares_44 ?_
    refine x_getR (r := 164) C (j := 6) ob153.1 ob153.2 (Nat.le_of_ble_eq_true rfl) (Nat.le_of_ble_eq_true rfl) (fun _ _ _ => rfl) r_153_6 tw_2_9 dX8_scaleShares_45 ?_
    refine x_aload_n C rfl 0 rfl dX8_scaleShares_48 ?_
    refine x_getR (r := 166) C (j := 8) ob153.1 ob153.2 (Nat.le_of_ble_eq_true rfl) (Nat.le_of_ble_eq_true rfl) (fun _ _ _ => rfl) r_153_8 tw_2_11 dX8_scaleShares_49 ?_
    refine x_iload C 3 rfl dX8_scaleShares_52 ?_
    obtain ⟨c17, h⟩ := h
    refine x_iald C ob166.1 ob166.2 c17 rfl dX8_scaleShares_54 ?_
    obtain ⟨c18, h⟩ := h
    refine x_iald C ob164.1 ob164.2 c18 rfl dX8_scaleShares_55 ?_
    refine x_topi (fun y19 e_y19 => ?_)
    have h := h y19 e_y19
    refine x_istore C [(5, .int y19), (0, .ref 153), (1, .int p1), (2, .long p2), (4, .int x.1)] (Nat.le_of_ble_eq_true rfl) rfl dX8_scaleShares_56 ?_
    refine x_aload_n C rfl 1 rfl dX8_scaleShares_58 ?_
    refine x_getR (r := 167) C (j := 9) ob153.1 ob153.2 (Nat.le_of_ble_eq_true rfl) (Nat.le_of_ble_eq_true rfl) (fun _ _ _ => rfl) r_153_9 tw_2_12 dX8_scaleShares_59 ?_
    refine x_iload C 4 rfl dX8_scaleShares_62 ?_
    refine x_iload C 0 rfl dX8_scaleShares_64 ?_
    refine x_if_le (tgt := 91) C dX8_scaleShares_66 (by decide) (fun c20 => ?_) (fun c20 => ?_)
    · have h := h.1 c20
      refine x_lconst (v := 0) C (by decide) dX8_scaleShares_91 ?_
      obtain ⟨c21, h⟩ := h
      refine x_last C ob167.1 ob167.2 c21 rfl dX8_scaleShares_92 ?_
      refine x_mu (fun μ22 e_μ22 => ?_)
      have h := h μ22 e_μ22
      refine x_iinc (v := (x.1 + 1)) C [(4, .int (x.1 + 1)), (5, .int y19), (0, .ref 153), (1, .int p1), (2, .long p2)] 4 rfl (congrArg (fun z => x.1 + z) (by decide : Int32.ofInt (1) = 1)) (Nat.le_of_ble_eq_true rfl) rfl dX8_scaleShares_93 ?_
      refine x_goto (tgt := 38) C dX8_scaleShares_96 (by decide) ?_
      refine x_sub [(0, .ref 153), (1, .int p1), (2, .long p2), (4, .int (x.1 + 1))] [2, 3, 4, 0] rfl ?_
      exact hK38 _ _ h
    · have h := h.2 c20
      refine x_aload_n C rfl 1 rfl dX8_scaleShares_69 ?_
      refine x_getR (r := 165) C (j := 7) ob153.1 ob153.2 (Nat.le_of_ble_eq_true rfl) (Nat.le_of_ble_eq_true rfl) (fun _ _ _ => rfl) r_153_7 tw_2_10 dX8_scaleShares_70 ?_
      refine x_aload_n C rfl 1 rfl dX8_scaleShares_73 ?_
      refine x_getR (r := 166) C (j := 8) ob153.1 ob153.2 (Nat.le_of_ble_eq_true rfl) (Nat.le_of_ble_eq_true rfl) (fun _ _ _ => rfl) r_153_8 tw_2_11 dX8_scaleShares_74 ?_
      refine x_iload C 4 rfl dX8_scaleShares_77 ?_
      obtain ⟨c23, h⟩ := h
      refine x_iald C ob166.1 ob166.2 c23 rfl dX8_scaleShares_79 ?_
      obtain ⟨c24, h⟩ := h
      refine x_iald C ob165.1 ob165.2 c24 rfl dX8_scaleShares_80 ?_
      refine x_i2l C dX8_scaleShares_81 ?_
      refine x_lload_n C rfl 3 rfl dX8_scaleShares_82 ?_
      refine x_iload C 0 rfl dX8_scaleShares_83 ?_
      refine x_i2l C dX8_scaleShares_85 ?_
      obtain ⟨c25, h⟩ := h
      refine x_ldiv C c25 dX8_scaleShares_86 ?_
      refine x_lmul C dX8_scaleShares_87 ?_
      refine x_goto (tgt := 92) C dX8_scaleShares_88 (by decide) ?_
      obtain ⟨c26, h⟩ := h
      refine x_last C ob167.1 ob167.2 c26 rfl dX8_scaleShares_92 ?_
      refine x_mu (fun μ27 e_μ27 => ?_)
      have h := h μ27 e_μ27
      refine x_iinc (v := (x.1 + 1)) C [(4, .int (x.1 + 1)), (5, .int y19), (0, .ref 153), (1, .int p1), (2, .long p2)] 4 rfl (congrArg (fun z => x.1 + z) (by decide : Int32.ofInt (1) = 1)) (Nat.le_of_ble_eq_true rfl) rfl dX8_scaleShares_93 ?_
      refine x_goto (tgt := 38) C dX8_scaleShares_96 (by decide) ?_
      refine x_sub [(0, .ref 153), (1, .int p1), (2, .long p2), (4, .int (x.1 + 1))] [2, 3, 4, 0] rfl ?_
      exact hK38 _ _ h
theorem G8_scaleShares_L38_ok {p : Program} {e : Env} {s : State} {m : MethodId} {args : Array Value} {below : List Frame} {meth : Method} {c : Code} {l : Launch} {φ : Nat → Nat} {tc : Nat → ClassId} {D : va_G} {s0 : State} {dR : Nat} (C : CX p s m args meth c φ tc D (AX φ) s0 cX8_scaleShares RX8 6) (hd : G8_scaleShares_dep ≤ dR) (hr : meth.sig.returnType = none)  {p1 : Int32} {p2 : Int64} {Q : MM → Prop}  {x : Int32 × MM}    (h : Lp (G8_scaleShares_L38 p1 p2 Q) x) : WX p l e (rmX dR) s m args below meth c φ tc D (AX φ) 6 0 0 (MQ below (QX φ tc D (QV Q)) args s 0 0 (AX φ)) 38 [(0, .ref 153), (1, .int p1), (2, .long p2), (4, .int x.1)] [] x.2 := by
  obtain ⟨n, h⟩ := h
  induction n generalizing x with
  | zero => exact h.elim
  | succ n ih => exact G8_scaleShares_L38_b C hd hr   (fun z4 zμ hz => by have q := ih hz; exact q) h
set_option maxHeartbeats 4000000 in
set_option maxRecDepth 100000 in
theorem G8_scaleShares_L5_b {p : Program} {e : Env} {s : State} {m : MethodId} {args : Array Value} {below : List Frame} {meth : Method} {c : Code} {l : Launch} {φ : Nat → Nat} {tc : Nat → ClassId} {D : va_G} {s0 : State} {dR : Nat} (C : CX p s m args meth c φ tc D (AX φ) s0 cX8_scaleShares RX8 6) (hd : G8_scaleShares_dep ≤ dR) (hr : meth.sig.returnType = none)  {p1 : Int32} {Q : MM → Prop} {K5 : Int64 × Int32 × MM → Prop} {x : Int64 × Int32 × MM}   (hK5 : ∀ (z2 : Int64) (z4 : Int32) (zμ : MM), K5 (z2, z4, zμ) → WX p l e (rmX dR) s m args below meth c φ tc D (AX φ) 6 0 0 (MQ below (QX φ tc D (QV Q)) args s 0 0 (AX φ)) 5 [(0, .ref 153), (1, .int p1), (2, .long z2), (4, .int z4)] [] zμ) (h : G8_scaleShares_L5 p1 Q K5 x) : WX p l e (rmX dR) s m args below meth c φ tc D (AX φ) 6 0 0 (MQ below (QX φ tc D (QV Q)) args s 0 0 (AX φ)) 5 [(0, .ref 153), (1, .int p1), (2, .long x.1), (4, .int x.2.1)] [] x.2.2 := by
  unfold G8_scaleShares_L5 at h
  refine x_iload C 3 rfl dX8_scaleShares_5 ?_
  refine x_iload_n C rfl 1 rfl dX8_scaleShares_7 ?_
  refine x_icmp_ge (tgt := 35) C dX8_scaleShares_8 (by decide) (fun c15 => ?_) (fun c15 => ?_)
  · have h := h.1 c15
    refine x_iconst (v := 0) C (by decide) dX8_scaleShares_35 ?_
    refine x_istore C [(4, .int 0), (0, .ref 153), (1, .int p1), (2, .long x.1)] (Nat.le_of_ble_eq_true rfl) rfl dX8_scaleShares_36 ?_
    refine x_sub [(0, .ref 153), (1, .int p1), (2, .long x.1), (4, .int 0)] [1, 2, 3, 0] rfl ?_
    exact G8_scaleShares_L38_ok C hd hr  h
  · have h := h.2 c15
    refine x_lload_n C rfl 2 rfl dX8_scaleShares_11 ?_
    refine x_aload_n C rfl 0 rfl dX8_scaleShares_12 ?_
    refine x_getR (r := 164) C (j := 6) ob153.1 ob153.2 (Nat.le_of_ble_eq_true rfl) (Nat.le_of_ble_eq_true rfl) (fun _ _ _ => rfl) r_153_6 tw_2_9 dX8_scaleShares_13 ?_
    refine x_aload_n C rfl 0 rfl dX8_scaleShares_16 ?_
    refine x_getR (r := 166) C (j := 8) ob153.1 ob153.2 (Nat.le_of_ble_eq_true rfl) (Nat.le_of_ble_eq_true rfl) (fun _ _ _ => rfl) r_153_8 tw_2_11 dX8_scaleShares_17 ?_
    refine x_iload C 3 rfl dX8_scaleShares_20 ?_
    obtain ⟨c28, h⟩ := h
    refine x_iald C ob166.1 ob166.2 c28 rfl dX8_scaleShares_22 ?_
    obtain ⟨c29, h⟩ := h
    refine x_iald C ob164.1 ob164.2 c29 rfl dX8_scaleShares_23 ?_
    refine x_i2l C dX8_scaleShares_24 ?_
    refine x_callSN (dC := G11_leastMultiple_dep) (as := [.long x.1, .long ((gI x.2.2 164 ((gI x.2.2 166 x.2.1.toNatClampNeg).toNatClampNeg)).toInt64)]) (st := []) C rX kX (Nat.le_trans (Nat.le_of_ble_eq_true rfl) hd) (Nat.le_of_ble_eq_true rfl) tw_4_144 tw_4_143 tc_4_145 tw_1_1 hyX11 hnX11_leastMultiple rfl (Nat.le_of_ble_eq_true rfl) dX8_scaleShares_25 (G11_leastMultiple_met C.2.2.2.2.2.2.2.1 (Nat.le_refl _)  h) (fun r0 μ30 hq => ?_)
    obtain ⟨r31, rfl, h⟩ := hq
    refine x_st [.long r31] rfl ?_
    refine x_lstore_n C [(2, .long r31), (0, .ref 153), (1, .int p1), (4, .int x.2.1)] rfl (Nat.le_of_ble_eq_true rfl) rfl dX8_scaleShares_28 ?_
    refine x_iinc (v := (x.2.1 + 1)) C [(4, .int (x.2.1 + 1)), (2, .long r31), (0, .ref 153), (1, .int p1)] 3 rfl (congrArg (fun z => x.2.1 + z) (by decide : Int32.ofInt (1) = 1)) (Nat.le_of_ble_eq_true rfl) rfl dX8_scaleShares_29 ?_
    refine x_goto (tgt := 5) C dX8_scaleShares_32 (by decide) ?_
    refine x_sub [(0, .ref 153), (1, .int p1), (2, .long r31), (4, .int (x.2.1 + 1))] [2, 3, 1, 0] rfl ?_
    exact hK5 _ _ _ h
theorem G8_scaleShares_L5_ok {p : Program} {e : Env} {s : State} {m : MethodId} {args : Array Value} {below : List Frame} {meth : Method} {c : Code} {l : Launch} {φ : Nat → Nat} {tc : Nat → ClassId} {D : va_G} {s0 : State} {dR : Nat} (C : CX p s m args meth c φ tc D (AX φ) s0 cX8_scaleShares RX8 6) (hd : G8_scaleShares_dep ≤ dR) (hr : meth.sig.returnType = none)  {p1 : Int32} {Q : MM → Prop}  {x : Int64 × Int32 × MM}    (h : Lp (G8_scaleShares_L5 p1 Q) x) : WX p l e (rmX dR) s m args below meth c φ tc D (AX φ) 6 0 0 (MQ below (QX φ tc D (QV Q)) args s 0 0 (AX φ)) 5 [(0, .ref 153), (1, .int p1), (2, .long x.1), (4, .int x.2.1)] [] x.2.2 := by
  obtain ⟨n, h⟩ := h
  induction n generalizing x with
  | zero => exact h.elim
  | succ n ih => exact G8_scaleShares_L5_b C hd hr   (fun z2 z4 zμ hz => by have q := ih hz; exact q) h
set_option maxHeartbeats 4000000 in
set_option maxRecDepth 100000 in
theorem G8_scaleShares_met {l : Launch} {φ : Nat → Nat} {tc : Nat → ClassId} {D : va_G} {s0 : State} (hG : GX φ tc D s0) {dR : Nat} (hd : G8_scaleShares_dep ≤ dR) {v1 : Int32} {μ : MM} {Q : MM → Prop}  (h : G8_scaleShares v1 μ Q) : MX l φ tc D s0 dR yX8_scaleShares cX8_scaleShares 6 none [.ref 153, .int v1] μ (QV Q) := by
  refine MX.of (own := RX8) hG plX8 rfl (Nat.le_of_ble_eq_true rfl) (fun p e s m args below meth c C hr => ?_)
  refine x_sub [(0, .ref 153), (1, .int v1)] [0, 1] rfl ?_
  unfold G8_scaleShares at h
  refine x_lconst (v := 1) C (by decide) dX8_scaleShares_0 ?_
  refine x_lstore_n C [(2, .long 1), (0, .ref 153), (1, .int v1)] rfl (Nat.le_of_ble_eq_true rfl) rfl dX8_scaleShares_1 ?_
  refine x_iconst (v := 0) C (by decide) dX8_scaleShares_2 ?_
  refine x_istore C [(4, .int 0), (2, .long 1), (0, .ref 153), (1, .int v1)] (Nat.le_of_ble_eq_true rfl) rfl dX8_scaleShares_3 ?_
  refine x_sub [(0, .ref 153), (1, .int v1), (2, .long 1), (4, .int 0)] [2, 3, 1, 0] rfl ?_
  exact G8_scaleShares_L5_ok C hd hr  h
set_option maxHeartbeats 4000000 in
set_option maxRecDepth 100000 in
theorem G8_sumOfShares_L5_b {p : Program} {e : Env} {s : State} {m : MethodId} {args : Array Value} {below : List Frame} {meth : Method} {c : Code} {l : Launch} {φ : Nat → Nat} {tc : Nat → ClassId} {D : va_G} {s0 : State} {dR : Nat} (C : CX p s m args meth c φ tc D (AX φ) s0 cX8_sumOfShares RX8 6) (hd : G8_sumOfShares_dep ≤ dR) (hr : meth.sig.returnType = (some .long))  {p1 : Int32} {p2 : Int32} {Q : Int64 → MM → Prop} {K5 : Int64 × Int32 × MM → Prop} {x : Int64 × Int32 × MM}   (hK5 : ∀ (z3 : Int64) (z5 : Int32) (zμ : MM), K5 (z3, z5, zμ) → WX p l e (rmX dR) s m args below meth c φ tc D (AX φ) 6 0 0 (MQ below (QX φ tc D (QJ Q)) args s 0 0 (AX φ)) 5 [(0, .ref 153), (1, .int p1), (2, .int p2), (3, .long z3), (5, .int z5)] [] zμ) (h : G8_sumOfShares_L5 p1 p2 Q K5 x) : WX p l e (rmX dR) s m args below meth c φ tc D (AX φ) 6 0 0 (MQ below (QX φ tc D (QJ Q)) args s 0 0 (AX φ)) 5 [(0, .ref 153), (1, .int p1), (2, .int p2), (3, .long x.1), (5, .int x.2.1)] [] x.2.2 := by
  unfold G8_sumOfShares_L5 at h
  refine x_iload C 4 rfl dX8_sumOfShares_5 ?_
  refine x_iload_n C rfl 2 rfl dX8_sumOfShares_7 ?_
  refine x_icmp_ge (tgt := 41) C dX8_sumOfShares_8 (by decide) (fun c4 => ?_) (fun c4 => ?_)
  · have h := h.1 c4
    refine x_lload_n C rfl 3 rfl dX8_sumOfShares_41 ?_
    exact x_lret C hr dX8_sumOfShares_42 ⟨_, rfl, h⟩
  · have h := h.2 c4
    refine x_lload_n C rfl 3 rfl dX8_sumOfShares_11 ?_
    refine x_iload_n C rfl 1 rfl dX8_sumOfShares_12 ?_
    refine x_iload C 4 rfl dX8_sumOfShares_13 ?_
    refine x_ishr C dX8_sumOfShares_15 ?_
    refine x_iconst (v := 1) C (by decide) dX8_sumOfShares_16 ?_
    refine x_iand C dX8_sumOfShares_17 ?_
    refine x_iconst (v := 1) C (by decide) dX8_sumOfShares_18 ?_
    refine x_icmp_ne (tgt := 32) C dX8_sumOfShares_19 (by decide) (fun c5 => ?_) (fun c5 => ?_)
    · have h := h.1 c5
      refine x_lconst (v := 0) C (by decide) dX8_sumOfShares_32 ?_
      refine x_ladd C dX8_sumOfShares_33 ?_
      refine x_topl (fun y6 e_y6 => ?_)
      have h := h y6 e_y6
      refine x_lstore_n C [(3, .long y6), (0, .ref 153), (1, .int p1), (2, .int p2), (5, .int x.2.1)] rfl (Nat.le_of_ble_eq_true rfl) rfl dX8_sumOfShares_34 ?_
      refine x_iinc (v := (x.2.1 + 1)) C [(5, .int (x.2.1 + 1)), (3, .long y6), (0, .ref 153), (1, .int p1), (2, .int p2)] 4 rfl (congrArg (fun z => x.2.1 + z) (by decide : Int32.ofInt (1) = 1)) (Nat.le_of_ble_eq_true rfl) rfl dX8_sumOfShares_35 ?_
      refine x_goto (tgt := 5) C dX8_sumOfShares_38 (by decide) ?_
      refine x_sub [(0, .ref 153), (1, .int p1), (2, .int p2), (3, .long y6), (5, .int (x.2.1 + 1))] [2, 3, 4, 1, 0] rfl ?_
      exact hK5 _ _ _ h
    · have h := h.2 c5
      refine x_aload_n C rfl 0 rfl dX8_sumOfShares_22 ?_
      refine x_getR (r := 167) C (j := 9) ob153.1 ob153.2 (Nat.le_of_ble_eq_true rfl) (Nat.le_of_ble_eq_true rfl) (fun _ _ _ => rfl) r_153_9 tw_2_12 dX8_sumOfShares_23 ?_
      refine x_iload C 4 rfl dX8_sumOfShares_26 ?_
      obtain ⟨c7, h⟩ := h
      refine x_lald C ob167.1 ob167.2 c7 rfl dX8_sumOfShares_28 ?_
      refine x_goto (tgt := 33) C dX8_sumOfShares_29 (by decide) ?_
      refine x_ladd C dX8_sumOfShares_33 ?_
      refine x_topl (fun y8 e_y8 => ?_)
      have h := h y8 e_y8
      refine x_lstore_n C [(3, .long y8), (0, .ref 153), (1, .int p1), (2, .int p2), (5, .int x.2.1)] rfl (Nat.le_of_ble_eq_true rfl) rfl dX8_sumOfShares_34 ?_
      refine x_iinc (v := (x.2.1 + 1)) C [(5, .int (x.2.1 + 1)), (3, .long y8), (0, .ref 153), (1, .int p1), (2, .int p2)] 4 rfl (congrArg (fun z => x.2.1 + z) (by decide : Int32.ofInt (1) = 1)) (Nat.le_of_ble_eq_true rfl) rfl dX8_sumOfShares_35 ?_
      refine x_goto (tgt := 5) C dX8_sumOfShares_38 (by decide) ?_
      refine x_sub [(0, .ref 153), (1, .int p1), (2, .int p2), (3, .long y8), (5, .int (x.2.1 + 1))] [2, 3, 4, 1, 0] rfl ?_
      exact hK5 _ _ _ h
theorem G8_sumOfShares_L5_ok {p : Program} {e : Env} {s : State} {m : MethodId} {args : Array Value} {below : List Frame} {meth : Method} {c : Code} {l : Launch} {φ : Nat → Nat} {tc : Nat → ClassId} {D : va_G} {s0 : State} {dR : Nat} (C : CX p s m args meth c φ tc D (AX φ) s0 cX8_sumOfShares RX8 6) (hd : G8_sumOfShares_dep ≤ dR) (hr : meth.sig.returnType = (some .long))  {p1 : Int32} {p2 : Int32} {Q : Int64 → MM → Prop}  {x : Int64 × Int32 × MM}    (h : Lp (G8_sumOfShares_L5 p1 p2 Q) x) : WX p l e (rmX dR) s m args below meth c φ tc D (AX φ) 6 0 0 (MQ below (QX φ tc D (QJ Q)) args s 0 0 (AX φ)) 5 [(0, .ref 153), (1, .int p1), (2, .int p2), (3, .long x.1), (5, .int x.2.1)] [] x.2.2 := by
  obtain ⟨n, h⟩ := h
  induction n generalizing x with
  | zero => exact h.elim
  | succ n ih => exact G8_sumOfShares_L5_b C hd hr   (fun z3 z5 zμ hz => by have q := ih hz; exact q) h
set_option maxHeartbeats 4000000 in
set_option maxRecDepth 100000 in
theorem G8_sumOfShares_met {l : Launch} {φ : Nat → Nat} {tc : Nat → ClassId} {D : va_G} {s0 : State} (hG : GX φ tc D s0) {dR : Nat} (hd : G8_sumOfShares_dep ≤ dR) {v1 : Int32} {v2 : Int32} {μ : MM} {Q : Int64 → MM → Prop}  (h : G8_sumOfShares v1 v2 μ Q) : MX l φ tc D s0 dR yX8_sumOfShares cX8_sumOfShares 6 (some .long) [.ref 153, .int v1, .int v2] μ (QJ Q) := by
  refine MX.of (own := RX8) hG plX8 rfl (Nat.le_of_ble_eq_true rfl) (fun p e s m args below meth c C hr => ?_)
  refine x_sub [(0, .ref 153), (1, .int v1), (2, .int v2)] [0, 1, 2] rfl ?_
  unfold G8_sumOfShares at h
  refine x_lconst (v := 0) C (by decide) dX8_sumOfShares_0 ?_
  refine x_lstore_n C [(3, .long 0), (0, .ref 153), (1, .int v1), (2, .int v2)] rfl (Nat.le_of_ble_eq_true rfl) rfl dX8_sumOfShares_1 ?_
  refine x_iconst (v := 0) C (by decide) dX8_sumOfShares_2 ?_
  refine x_istore C [(5, .int 0), (3, .long 0), (0, .ref 153), (1, .int v1), (2, .int v2)] (Nat.le_of_ble_eq_true rfl) rfl dX8_sumOfShares_3 ?_
  refine x_sub [(0, .ref 153), (1, .int v1), (2, .int v2), (3, .long 0), (5, .int 0)] [2, 3, 4, 1, 0] rfl ?_
  exact G8_sumOfShares_L5_ok C hd hr  h
