set_option maxHeartbeats 4000000 in
set_option maxRecDepth 100000 in
theorem G11_nearly_met {l : Launch} {φ : Nat → Nat} {tc : Nat → ClassId} {D : va_G} {s0 : State} (hG : GX φ tc D s0) {dR : Nat} (hd : G11_nearly_dep ≤ dR) {v1 : Int32} {μ : MM} {Q : Int32 → MM → Prop}  (h : G11_nearly v1 μ Q) : MX l φ tc D s0 dR yX11_nearly cX11_nearly 2 (some .int) [.ref 0, .int v1] μ (QI Q) := by
  refine MX.of (own := RX11) hG plX11 rfl (Nat.le_of_ble_eq_true rfl) (fun p e s m args below meth c C hr => ?_)
  refine x_sub [(0, .ref 0), (1, .int v1)] [0, 1] rfl ?_
  unfold G11_nearly at h
  refine x_aload_n C rfl 0 rfl dX11_nearly_0 ?_
  refine x_getR (r := 237) C (j := 5) ob0.1 ob0.2 (Nat.le_of_ble_eq_true rfl) (Nat.le_of_ble_eq_true rfl) (fun _ _ _ => rfl) r_0_5 tw_2_168 dX11_nearly_1 ?_
  refine x_iload_n C rfl 1 rfl dX11_nearly_4 ?_
  refine x_callVN (dC := G6_lawsWithin_dep) (as := [.int v1]) (st := []) C rX kX (Nat.le_trans (Nat.le_of_ble_eq_true rfl) hd) (Nat.le_of_ble_eq_true rfl) ob237.1 ob237.2 (Nat.le_of_ble_eq_true rfl) rfl ts_7_8 tw_5_229 tw_5_227 tc_5_230 tw_1_11 hyX6 hnX6_lawsWithin rfl (Nat.le_of_ble_eq_true rfl) dX11_nearly_5 (G6_lawsWithin_met C.2.2.2.2.2.2.2.1 (Nat.le_refl _)  h) (fun r0 μ3 hq => ?_)
  obtain ⟨r4, rfl, h⟩ := hq
  refine x_st [.int r4] rfl ?_
  exact x_iret C hr dX11_nearly_8 ⟨_, rfl, h⟩
set_option maxHeartbeats 4000000 in
set_option maxRecDepth 100000 in
theorem G0_addProduct_L26_b {p : Program} {e : Env} {s : State} {m : MethodId} {args : Array Value} {below : List Frame} {meth : Method} {c : Code} {l : Launch} {φ : Nat → Nat} {tc : Nat → ClassId} {D : va_G} {s0 : State} {dR : Nat} (C : CX p s m args meth c φ tc D (AX φ) s0 cX0_addProduct RX0 5) (hd : G0_addProduct_dep ≤ dR) (hr : meth.sig.returnType = none) {t : Nat} {a1 : Nat} {a2 : Nat} {p3 : Int32} {Q : MM → Prop} {K15 : Int32 × MM → Prop} {K26 : Int32 × MM → Prop} {x : Int32 × MM} (o_t : Ob t 0) (o_a1 : Ob a1 0) (o_a2 : Ob a2 0)  (hK15 : ∀ (z3 : Int32) (zμ : MM), K15 (z3, zμ) → WX p l e (rmX dR) s m args below meth c φ tc D (AX φ) 5 0 0 (MQ below (QX φ tc D (QV Q)) args s 0 0 (AX φ)) 15 [(0, .ref t), (1, .ref a1), (2, .ref a2), (3, .int z3)] [] zμ) (hK26 : ∀ (z4 : Int32) (zμ : MM), K26 (z4, zμ) → WX p l e (rmX dR) s m args below meth c φ tc D (AX φ) 5 0 0 (MQ below (QX φ tc D (QV Q)) args s 0 0 (AX φ)) 26 [(0, .ref t), (1, .ref a1), (2, .ref a2), (3, .int p3), (4, .int z4)] [] zμ) (h : G0_addProduct_L26 t a1 a2 p3 K15 Q K26 x) : WX p l e (rmX dR) s m args below meth c φ tc D (AX φ) 5 0 0 (MQ below (QX φ tc D (QV Q)) args s 0 0 (AX φ)) 26 [(0, .ref t), (1, .ref a1), (2, .ref a2), (3, .int p3), (4, .int x.1)] [] x.2 := by
  unfold G0_addProduct_L26 at h
  refine x_iload C 4 rfl dX0_addProduct_26 ?_
  refine x_aload_n C rfl 2 rfl dX0_addProduct_28 ?_
  refine x_getI C (j := 1) o_a2.1 o_a2.2 (Nat.le_of_ble_eq_true rfl) (Nat.le_of_ble_eq_true rfl) (Or.inl rfl) tw_2_49 dX0_addProduct_29 ?_
  refine x_icmp_ge (tgt := 78) C dX0_addProduct_32 (by decide) (fun c11 => ?_) (fun c11 => ?_)
  · have h := h.1 c11
    refine x_iinc (v := (p3 + 1)) C [(3, .int (p3 + 1)), (0, .ref t), (1, .ref a1), (2, .ref a2), (4, .int x.1)] 3 rfl (congrArg (fun z => p3 + z) (by decide : Int32.ofInt (1) = 1)) (Nat.le_of_ble_eq_true rfl) rfl dX0_addProduct_78 ?_
    refine x_goto (tgt := 15) C dX0_addProduct_81 (by decide) ?_
    refine x_sub [(0, .ref t), (1, .ref a1), (2, .ref a2), (3, .int (p3 + 1))] [1, 2, 3, 0] rfl ?_
    exact hK15 _ _ h
  · have h := h.2 c11
    refine x_iload_n C rfl 3 rfl dX0_addProduct_35 ?_
    refine x_iload C 4 rfl dX0_addProduct_36 ?_
    refine x_iadd C dX0_addProduct_38 ?_
    refine x_aload_n C rfl 0 rfl dX0_addProduct_39 ?_
    refine x_getI C (j := 1) o_t.1 o_t.2 (Nat.le_of_ble_eq_true rfl) (Nat.le_of_ble_eq_true rfl) (Or.inl rfl) tw_2_49 dX0_addProduct_40 ?_
    refine x_icmp_ge (tgt := 78) C dX0_addProduct_43 (by decide) (fun c12 => ?_) (fun c12 => ?_)
    · have h := h.1 c12
      refine x_iinc (v := (p3 + 1)) C [(3, .int (p3 + 1)), (0, .ref t), (1, .ref a1), (2, .ref a2), (4, .int x.1)] 3 rfl (congrArg (fun z => p3 + z) (by decide : Int32.ofInt (1) = 1)) (Nat.le_of_ble_eq_true rfl) rfl dX0_addProduct_78 ?_
      refine x_goto (tgt := 15) C dX0_addProduct_81 (by decide) ?_
      refine x_sub [(0, .ref t), (1, .ref a1), (2, .ref a2), (3, .int (p3 + 1))] [1, 2, 3, 0] rfl ?_
      exact hK15 _ _ h
    · have h := h.2 c12
      refine x_aload_n C rfl 0 rfl dX0_addProduct_46 ?_
      refine x_getR (r := (t + 1)) C (j := 0) o_t.1 o_t.2 (Nat.le_of_ble_eq_true rfl) (Nat.le_of_ble_eq_true rfl) (fun _ _ _ => rfl) (rF0_0 o_t) tw_2_48 dX0_addProduct_47 ?_
      refine x_iload_n C rfl 3 rfl dX0_addProduct_50 ?_
      refine x_iload C 4 rfl dX0_addProduct_51 ?_
      refine x_iadd C dX0_addProduct_53 ?_
      refine x_dup2_11 C rfl rfl dX0_addProduct_54 ?_
      obtain ⟨c13, h⟩ := h
      refine x_lald C (obF0_0 o_t).1 (obF0_0 o_t).2 c13 rfl dX0_addProduct_55 ?_
      refine x_aload_n C rfl 1 rfl dX0_addProduct_56 ?_
      refine x_getR (r := (a1 + 1)) C (j := 0) o_a1.1 o_a1.2 (Nat.le_of_ble_eq_true rfl) (Nat.le_of_ble_eq_true rfl) (fun _ _ _ => rfl) (rF0_0 o_a1) tw_2_48 dX0_addProduct_57 ?_
      refine x_iload_n C rfl 3 rfl dX0_addProduct_60 ?_
      obtain ⟨c14, h⟩ := h
      refine x_lald C (obF0_0 o_a1).1 (obF0_0 o_a1).2 c14 rfl dX0_addProduct_61 ?_
      refine x_aload_n C rfl 2 rfl dX0_addProduct_62 ?_
      refine x_getR (r := (a2 + 1)) C (j := 0) o_a2.1 o_a2.2 (Nat.le_of_ble_eq_true rfl) (Nat.le_of_ble_eq_true rfl) (fun _ _ _ => rfl) (rF0_0 o_a2) tw_2_48 dX0_addProduct_63 ?_
      refine x_iload C 4 rfl dX0_addProduct_66 ?_
      obtain ⟨c15, h⟩ := h
      refine x_lald C (obF0_0 o_a2).1 (obF0_0 o_a2).2 c15 rfl dX0_addProduct_68 ?_
      refine x_lmul C dX0_addProduct_69 ?_
      refine x_ladd C dX0_addProduct_70 ?_
      obtain ⟨c16, h⟩ := h
      refine x_last C (obF0_0 o_t).1 (obF0_0 o_t).2 c16 rfl dX0_addProduct_71 ?_
      refine x_mu (fun μ17 e_μ17 => ?_)
      have h := h μ17 e_μ17
      refine x_iinc (v := (x.1 + 1)) C [(4, .int (x.1 + 1)), (0, .ref t), (1, .ref a1), (2, .ref a2), (3, .int p3)] 4 rfl (congrArg (fun z => x.1 + z) (by decide : Int32.ofInt (1) = 1)) (Nat.le_of_ble_eq_true rfl) rfl dX0_addProduct_72 ?_
      refine x_goto (tgt := 26) C dX0_addProduct_75 (by decide) ?_
      refine x_sub [(0, .ref t), (1, .ref a1), (2, .ref a2), (3, .int p3), (4, .int (x.1 + 1))] [1, 2, 3, 4, 0] rfl ?_
      exact hK26 _ _ h
theorem G0_addProduct_L26_ok {p : Program} {e : Env} {s : State} {m : MethodId} {args : Array Value} {below : List Frame} {meth : Method} {c : Code} {l : Launch} {φ : Nat → Nat} {tc : Nat → ClassId} {D : va_G} {s0 : State} {dR : Nat} (C : CX p s m args meth c φ tc D (AX φ) s0 cX0_addProduct RX0 5) (hd : G0_addProduct_dep ≤ dR) (hr : meth.sig.returnType = none) {t : Nat} {a1 : Nat} {a2 : Nat} {p3 : Int32} {Q : MM → Prop} {K15 : Int32 × MM → Prop} {x : Int32 × MM} (o_t : Ob t 0) (o_a1 : Ob a1 0) (o_a2 : Ob a2 0)  (hK15 : ∀ (z3 : Int32) (zμ : MM), K15 (z3, zμ) → WX p l e (rmX dR) s m args below meth c φ tc D (AX φ) 5 0 0 (MQ below (QX φ tc D (QV Q)) args s 0 0 (AX φ)) 15 [(0, .ref t), (1, .ref a1), (2, .ref a2), (3, .int z3)] [] zμ) (h : Lp (G0_addProduct_L26 t a1 a2 p3 K15 Q) x) : WX p l e (rmX dR) s m args below meth c φ tc D (AX φ) 5 0 0 (MQ below (QX φ tc D (QV Q)) args s 0 0 (AX φ)) 26 [(0, .ref t), (1, .ref a1), (2, .ref a2), (3, .int p3), (4, .int x.1)] [] x.2 := by
  obtain ⟨n, h⟩ := h
  induction n generalizing x with
  | zero => exact h.elim
  | succ n ih => exact G0_addProduct_L26_b C hd hr o_t o_a1 o_a2 hK15 (fun z4 zμ hz => by have q := ih hz; exact q) h
set_option maxHeartbeats 4000000 in
set_option maxRecDepth 100000 in
theorem G0_addProduct_L15_b {p : Program} {e : Env} {s : State} {m : MethodId} {args : Array Value} {below : List Frame} {meth : Method} {c : Code} {l : Launch} {φ : Nat → Nat} {tc : Nat → ClassId} {D : va_G} {s0 : State} {dR : Nat} (C : CX p s m args meth c φ tc D (AX φ) s0 cX0_addProduct RX0 5) (hd : G0_addProduct_dep ≤ dR) (hr : meth.sig.returnType = none) {t : Nat} {a1 : Nat} {a2 : Nat}  {Q : MM → Prop} {K15 : Int32 × MM → Prop} {x : Int32 × MM} (o_t : Ob t 0) (o_a1 : Ob a1 0) (o_a2 : Ob a2 0)  (hK15 : ∀ (z3 : Int32) (zμ : MM), K15 (z3, zμ) → WX p l e (rmX dR) s m args below meth c φ tc D (AX φ) 5 0 0 (MQ below (QX φ tc D (QV Q)) args s 0 0 (AX φ)) 15 [(0, .ref t), (1, .ref a1), (2, .ref a2), (3, .int z3)] [] zμ) (h : G0_addProduct_L15 t a1 a2 Q K15 x) : WX p l e (rmX dR) s m args below meth c φ tc D (AX φ) 5 0 0 (MQ below (QX φ tc D (QV Q)) args s 0 0 (AX φ)) 15 [(0, .ref t), (1, .ref a1), (2, .ref a2), (3, .int x.1)] [] x.2 := by
  unfold G0_addProduct_L15 at h
  refine x_iload_n C rfl 3 rfl dX0_addProduct_15 ?_
  refine x_aload_n C rfl 1 rfl dX0_addProduct_16 ?_
  refine x_getI C (j := 1) o_a1.1 o_a1.2 (Nat.le_of_ble_eq_true rfl) (Nat.le_of_ble_eq_true rfl) (Or.inl rfl) tw_2_49 dX0_addProduct_17 ?_
  refine x_icmp_ge (tgt := 84) C dX0_addProduct_20 (by decide) (fun c9 => ?_) (fun c9 => ?_)
  · have h := h.1 c9
    refine x_aload_n C rfl 0 rfl dX0_addProduct_84 ?_
    refine x_callV (dC := G0_carry_dep) (as := []) (st := []) C rX kX (Nat.le_trans (Nat.le_of_ble_eq_true rfl) hd) (Nat.le_of_ble_eq_true rfl) o_t.1 o_t.2 (Nat.le_of_ble_eq_true rfl) rfl ts_5_11 tw_5_29 tw_5_27 tc_5_30 tw_1_9 hyX0 hnX0_carry rfl (Nat.le_of_ble_eq_true rfl) dX0_addProduct_85 (G0_carry_met C.2.2.2.2.2.2.2.1 (Nat.le_refl _) o_t h) (fun r0 μ10 hq => ?_)
    obtain ⟨rfl, h⟩ := hq
    refine x_st [] rfl ?_
    exact x_vret C hr dX0_addProduct_88 ⟨rfl, h⟩
  · have h := h.2 c9
    refine x_iconst (v := 0) C (by decide) dX0_addProduct_23 ?_
    refine x_istore C [(4, .int 0), (0, .ref t), (1, .ref a1), (2, .ref a2), (3, .int x.1)] (Nat.le_of_ble_eq_true rfl) rfl dX0_addProduct_24 ?_
    refine x_sub [(0, .ref t), (1, .ref a1), (2, .ref a2), (3, .int x.1), (4, .int 0)] [1, 2, 3, 4, 0] rfl ?_
    exact G0_addProduct_L26_ok C hd hr o_t o_a1 o_a2 hK15 h
theorem G0_addProduct_L15_ok {p : Program} {e : Env} {s : State} {m : MethodId} {args : Array Value} {below : List Frame} {meth : Method} {c : Code} {l : Launch} {φ : Nat → Nat} {tc : Nat → ClassId} {D : va_G} {s0 : State} {dR : Nat} (C : CX p s m args meth c φ tc D (AX φ) s0 cX0_addProduct RX0 5) (hd : G0_addProduct_dep ≤ dR) (hr : meth.sig.returnType = none) {t : Nat} {a1 : Nat} {a2 : Nat}  {Q : MM → Prop}  {x : Int32 × MM} (o_t : Ob t 0) (o_a1 : Ob a1 0) (o_a2 : Ob a2 0)   (h : Lp (G0_addProduct_L15 t a1 a2 Q) x) : WX p l e (rmX dR) s m args below meth c φ tc D (AX φ) 5 0 0 (MQ below (QX φ tc D (QV Q)) args s 0 0 (AX φ)) 15 [(0, .ref t), (1, .ref a1), (2, .ref a2), (3, .int x.1)] [] x.2 := by
  obtain ⟨n, h⟩ := h
  induction n generalizing x with
  | zero => exact h.elim
  | succ n ih => exact G0_addProduct_L15_b C hd hr o_t o_a1 o_a2  (fun z3 zμ hz => by have q := ih hz; exact q) h
set_option maxHeartbeats 4000000 in
set_option maxRecDepth 100000 in
theorem G0_addProduct_met {l : Launch} {φ : Nat → Nat} {tc : Nat → ClassId} {D : va_G} {s0 : State} (hG : GX φ tc D s0) {dR : Nat} (hd : G0_addProduct_dep ≤ dR) {t : Nat} {a1 : Nat} {a2 : Nat} {μ : MM} {Q : MM → Prop} (o_t : Ob t 0) (o_a1 : Ob a1 0) (o_a2 : Ob a2 0) (h : G0_addProduct t a1 a2 μ Q) : MX l φ tc D s0 dR yX0_addProduct cX0_addProduct 5 none [.ref t, .ref a1, .ref a2] μ (QV Q) := by
  refine MX.of (own := RX0) hG plX0 rfl (Nat.le_of_ble_eq_true rfl) (fun p e s m args below meth c C hr => ?_)
  refine x_sub [(0, .ref t), (1, .ref a1), (2, .ref a2)] [0, 1, 2] rfl ?_
  unfold G0_addProduct at h
  refine x_aload_n C rfl 0 rfl dX0_addProduct_0 ?_
  refine x_aload_n C rfl 1 rfl dX0_addProduct_1 ?_
  refine x_getI C (j := 1) o_a1.1 o_a1.2 (Nat.le_of_ble_eq_true rfl) (Nat.le_of_ble_eq_true rfl) (Or.inl rfl) tw_2_49 dX0_addProduct_2 ?_
  refine x_aload_n C rfl 2 rfl dX0_addProduct_5 ?_
  refine x_getI C (j := 1) o_a2.1 o_a2.2 (Nat.le_of_ble_eq_true rfl) (Nat.le_of_ble_eq_true rfl) (Or.inl rfl) tw_2_49 dX0_addProduct_6 ?_
  refine x_iadd C dX0_addProduct_9 ?_
  refine x_callV (dC := G0_stretch_dep) (as := [.int ((gI μ a1 1) + (gI μ a2 1))]) (st := []) C rX kX (Nat.le_trans (Nat.le_of_ble_eq_true rfl) hd) (Nat.le_of_ble_eq_true rfl) o_t.1 o_t.2 (Nat.le_of_ble_eq_true rfl) rfl ts_5_12 tw_5_33 tw_5_31 tc_5_34 tw_1_9 hyX0 hnX0_stretch rfl (Nat.le_of_ble_eq_true rfl) dX0_addProduct_10 (G0_stretch_met C.2.2.2.2.2.2.2.1 (Nat.le_refl _) o_t h) (fun r0 μ8 hq => ?_)
  obtain ⟨rfl, h⟩ := hq
  refine x_st [] rfl ?_
  refine x_iconst (v := 0) C (by decide) dX0_addProduct_13 ?_
  refine x_istore_n C [(3, .int 0), (0, .ref t), (1, .ref a1), (2, .ref a2)] rfl (Nat.le_of_ble_eq_true rfl) rfl dX0_addProduct_14 ?_
  refine x_sub [(0, .ref t), (1, .ref a1), (2, .ref a2), (3, .int 0)] [1, 2, 3, 0] rfl ?_
  exact G0_addProduct_L15_ok C hd hr o_t o_a1 o_a2 h
set_option maxHeartbeats 4000000 in
set_option maxRecDepth 100000 in
theorem G0_limb_J21_ok {p : Program} {e : Env} {s : State} {m : MethodId} {args : Array Value} {below : List Frame} {meth : Method} {c : Code} {l : Launch} {φ : Nat → Nat} {tc : Nat → ClassId} {D : va_G} {s0 : State} {dR : Nat} (C : CX p s m args meth c φ tc D (AX φ) s0 cX0_limb RX0 2) (hd : G0_limb_dep ≤ dR) (hr : meth.sig.returnType = (some .long))  {t : Nat}  {Q : Int64 → MM → Prop}  {μ : MM} (o_t : Ob t 0)   (h : G0_limb_J21 t μ Q) : WX p l e (rmX dR) s m args below meth c φ tc D (AX φ) 2 0 0 (MQ below (QX φ tc D (QJ Q)) args s 0 0 (AX φ)) 21 [] [] μ := by
  unfold G0_limb_J21 at h
  refine x_lconst (v := 0) C (by decide) dX0_limb_21 ?_
  exact x_lret C hr dX0_limb_22 ⟨_, rfl, h⟩
set_option maxHeartbeats 4000000 in
set_option maxRecDepth 100000 in
theorem G0_limb_met {l : Launch} {φ : Nat → Nat} {tc : Nat → ClassId} {D : va_G} {s0 : State} (hG : GX φ tc D s0) {dR : Nat} (hd : G0_limb_dep ≤ dR) {t : Nat} {v1 : Int32} {μ : MM} {Q : Int64 → MM → Prop} (o_t : Ob t 0) (h : G0_limb t v1 μ Q) : MX l φ tc D s0 dR yX0_limb cX0_limb 2 (some .long) [.ref t, .int v1] μ (QJ Q) := by
  refine MX.of (own := RX0) hG plX0 rfl (Nat.le_of_ble_eq_true rfl) (fun p e s m args below meth c C hr => ?_)
  refine x_sub [(0, .ref t), (1, .int v1)] [0, 1] rfl ?_
  unfold G0_limb at h
  refine x_iload_n C rfl 1 rfl dX0_limb_0 ?_
  refine x_if_lt (tgt := 21) C dX0_limb_1 (by decide) (fun c2 => ?_) (fun c2 => ?_)
  · have h := h.1 c2
    refine x_sub [] [] rfl ?_
    exact G0_limb_J21_ok C hd hr o_t h
  · have h := h.2 c2
    refine x_iload_n C rfl 1 rfl dX0_limb_4 ?_
    refine x_aload_n C rfl 0 rfl dX0_limb_5 ?_
    refine x_getI C (j := 1) o_t.1 o_t.2 (Nat.le_of_ble_eq_true rfl) (Nat.le_of_ble_eq_true rfl) (Or.inl rfl) tw_2_49 dX0_limb_6 ?_
    refine x_icmp_ge (tgt := 21) C dX0_limb_9 (by decide) (fun c3 => ?_) (fun c3 => ?_)
    · have h := h.1 c3
      refine x_sub [] [] rfl ?_
      exact G0_limb_J21_ok C hd hr o_t h
    · have h := h.2 c3
      refine x_aload_n C rfl 0 rfl dX0_limb_12 ?_
      refine x_getR (r := (t + 1)) C (j := 0) o_t.1 o_t.2 (Nat.le_of_ble_eq_true rfl) (Nat.le_of_ble_eq_true rfl) (fun _ _ _ => rfl) (rF0_0 o_t) tw_2_48 dX0_limb_13 ?_
      refine x_iload_n C rfl 1 rfl dX0_limb_16 ?_
      obtain ⟨c4, h⟩ := h
      refine x_lald C (obF0_0 o_t).1 (obF0_0 o_t).2 c4 rfl dX0_limb_17 ?_
      refine x_goto (tgt := 22) C dX0_limb_18 (by decide) ?_
      exact x_lret C hr dX0_limb_22 ⟨_, rfl, h⟩
set_option maxHeartbeats 4000000 in
set_option maxRecDepth 100000 in
theorem G0_cutBy_met {l : Launch} {φ : Nat → Nat} {tc : Nat → ClassId} {D : va_G} {s0 : State} (hG : GX φ tc D s0) {dR : Nat} (hd : G0_cutBy_dep ≤ dR) {t : Nat} {v1 : Int32} {μ : MM} {Q : Int64 → MM → Prop} (o_t : Ob t 0) (h : G0_cutBy t v1 μ Q) : MX l φ tc D s0 dR yX0_cutBy cX0_cutBy 5 (some .long) [.ref t, .int v1] μ (QJ Q) := by
  refine MX.of (own := RX0) hG plX0 rfl (Nat.le_of_ble_eq_true rfl) (fun p e s m args below meth c C hr => ?_)
  refine x_sub [(0, .ref t), (1, .int v1)] [0, 1] rfl ?_
  unfold G0_cutBy at h
  refine x_iload_n C rfl 1 rfl dX0_cutBy_0 ?_
  refine x_iconst (v := 2) C (by decide) dX0_cutBy_1 ?_
  refine x_idiv C (by decide) dX0_cutBy_2 ?_
  refine x_topi (fun y7 e_y7 => ?_)
  have h := h y7 e_y7
  refine x_istore_n C [(2, .int y7), (0, .ref t), (1, .int v1)] rfl (Nat.le_of_ble_eq_true rfl) rfl dX0_cutBy_3 ?_
  refine x_aload_n C rfl 1 rfl dX0_cutBy_4 ?_
  refine x_iload_n C rfl 0 rfl dX0_cutBy_5 ?_
  refine x_iconst (v := 1) C (by decide) dX0_cutBy_6 ?_
  refine x_iadd C dX0_cutBy_7 ?_
  refine x_callV (dC := G0_limb_dep) (as := [.int (y7 + 1)]) (st := []) C rX kX (Nat.le_trans (Nat.le_of_ble_eq_true rfl) hd) (Nat.le_of_ble_eq_true rfl) o_t.1 o_t.2 (Nat.le_of_ble_eq_true rfl) rfl ts_7_15 tw_6_29 tw_6_27 tc_6_30 tw_1_9 hyX0 hnX0_limb rfl (Nat.le_of_ble_eq_true rfl) dX0_cutBy_8 (G0_limb_met C.2.2.2.2.2.2.2.1 (Nat.le_refl _) o_t h) (fun r0 μ8 hq => ?_)
  obtain ⟨r9, rfl, h⟩ := hq
  refine x_st [.long r9] rfl ?_
  refine x_ldc2 (v := 100000000) C tw_5_35 dX0_cutBy_11 ?_
  refine x_lmul C dX0_cutBy_14 ?_
  refine x_aload_n C rfl 1 rfl dX0_cutBy_15 ?_
  refine x_iload_n C rfl 0 rfl dX0_cutBy_16 ?_
  refine x_callV (dC := G0_limb_dep) (as := [.int y7]) (st := [.long (r9 * 100000000)]) C rX kX (Nat.le_trans (Nat.le_of_ble_eq_true rfl) hd) (Nat.le_of_ble_eq_true rfl) o_t.1 o_t.2 (Nat.le_of_ble_eq_true rfl) rfl ts_7_15 tw_6_29 tw_6_27 tc_6_30 tw_1_9 hyX0 hnX0_limb rfl (Nat.le_of_ble_eq_true rfl) dX0_cutBy_17 (G0_limb_met C.2.2.2.2.2.2.2.1 (Nat.le_refl _) o_t h) (fun r0 μ10 hq => ?_)
  obtain ⟨r11, rfl, h⟩ := hq
  refine x_st [.long r11, .long (r9 * 100000000)] rfl ?_
  refine x_ladd C dX0_cutBy_20 ?_
  refine x_topl (fun y12 e_y12 => ?_)
  have h := h y12 e_y12
  refine x_lstore_n C [(3, .long y12), (2, .int y7), (0, .ref t), (1, .int v1)] rfl (Nat.le_of_ble_eq_true rfl) rfl dX0_cutBy_21 ?_
  refine x_iload_n C rfl 3 rfl dX0_cutBy_22 ?_
  refine x_iconst (v := 2) C (by decide) dX0_cutBy_23 ?_
  refine x_irem C (by decide) dX0_cutBy_24 ?_
  refine x_if_ne (tgt := 32) C dX0_cutBy_25 (by decide) (fun c13 => ?_) (fun c13 => ?_)
  · have h := h.1 c13
    refine x_lload_n C rfl 0 rfl dX0_cutBy_32 ?_
    refine x_ldc2 (v := 10000) C tw_6_31 dX0_cutBy_33 ?_
    refine x_ldiv C (by decide) dX0_cutBy_36 ?_
    exact x_lret C hr dX0_cutBy_37 ⟨_, rfl, h⟩
  · have h := h.2 c13
    refine x_lload_n C rfl 0 rfl dX0_cutBy_28 ?_
    refine x_goto (tgt := 37) C dX0_cutBy_29 (by decide) ?_
    exact x_lret C hr dX0_cutBy_37 ⟨_, rfl, h⟩
set_option maxHeartbeats 4000000 in
set_option maxRecDepth 100000 in
theorem G1_chance_L11_b {p : Program} {e : Env} {s : State} {m : MethodId} {args : Array Value} {below : List Frame} {meth : Method} {c : Code} {l : Launch} {φ : Nat → Nat} {tc : Nat → ClassId} {D : va_G} {s0 : State} {dR : Nat} (C : CX p s m args meth c φ tc D (AX φ) s0 cX1_chance RX1 5) (hd : G1_chance_dep ≤ dR) (hr : meth.sig.returnType = (some .int)) {a3 : Nat} {p1 : Int32} {p2 : Int32} {Q : Int32 → MM → Prop} {K11 : Int32 × MM → Prop} {x : Int32 × MM} (o_a3 : Ob a3 16)  (hK11 : ∀ (z4 : Int32) (zμ : MM), K11 (z4, zμ) → WX p l e (rmX dR) s m args below meth c φ tc D (AX φ) 5 0 0 (MQ below (QX φ tc D (QI Q)) args s 0 0 (AX φ)) 11 [(0, .ref 249), (1, .int p1), (2, .int p2), (3, .ref a3), (4, .int z4)] [] zμ) (h : G1_chance_L11 a3 p1 p2 Q K11 x) : WX p l e (rmX dR) s m args below meth c φ tc D (AX φ) 5 0 0 (MQ below (QX φ tc D (QI Q)) args s 0 0 (AX φ)) 11 [(0, .ref 249), (1, .int p1), (2, .int p2), (3, .ref a3), (4, .int x.1)] [] x.2 := by
  unfold G1_chance_L11 at h
  refine x_iload C 4 rfl dX1_chance_11 ?_
  refine x_iload_n C rfl 1 rfl dX1_chance_13 ?_
  refine x_icmp_gt (tgt := 43) C dX1_chance_14 (by decide) (fun c10 => ?_) (fun c10 => ?_)
  · have h := h.1 c10
    refine x_aload_n C rfl 0 rfl dX1_chance_43 ?_
    refine x_getR (r := 253) C (j := 4) ob249.1 ob249.2 (Nat.le_of_ble_eq_true rfl) (Nat.le_of_ble_eq_true rfl) (fun _ _ _ => rfl) r_249_4 tw_2_151 dX1_chance_44 ?_
    refine x_ldc2 (v := 1000000) C tw_6_22 dX1_chance_47 ?_
    refine x_callVN (dC := G0_times_dep) (as := [.long 1000000]) (st := []) C rX kX (Nat.le_trans (Nat.le_of_ble_eq_true rfl) hd) (Nat.le_of_ble_eq_true rfl) ob253.1 ob253.2 (Nat.le_of_ble_eq_true rfl) rfl ts_5_14 tw_5_45 tw_6_9 tc_5_46 tw_1_9 hyX0 hnX0_times rfl (Nat.le_of_ble_eq_true rfl) dX1_chance_50 (G0_times_met C.2.2.2.2.2.2.2.1 (Nat.le_refl _) ob253 h) (fun r0 μ11 hq => ?_)
    obtain ⟨rfl, h⟩ := hq
    refine x_st [] rfl ?_
    refine x_aload_n C rfl 0 rfl dX1_chance_53 ?_
    refine x_getR (r := 253) C (j := 4) ob249.1 ob249.2 (Nat.le_of_ble_eq_true rfl) (Nat.le_of_ble_eq_true rfl) (fun _ _ _ => rfl) r_249_4 tw_2_151 dX1_chance_54 ?_
    refine x_iload_n C rfl 1 rfl dX1_chance_57 ?_
    refine x_callVN (dC := G0_cutBy_dep) (as := [.int p1]) (st := []) C rX kX (Nat.le_trans (Nat.le_of_ble_eq_true rfl) hd) (Nat.le_of_ble_eq_true rfl) ob253.1 ob253.2 (Nat.le_of_ble_eq_true rfl) rfl ts_7_14 tw_6_25 tw_6_23 tc_6_26 tw_1_9 hyX0 hnX0_cutBy rfl (Nat.le_of_ble_eq_true rfl) dX1_chance_58 (G0_cutBy_met C.2.2.2.2.2.2.2.1 (Nat.le_refl _) ob253 h) (fun r0 μ12 hq => ?_)
    obtain ⟨r13, rfl, h⟩ := hq
    refine x_st [.long r13] rfl ?_
    refine x_l2i C dX1_chance_61 ?_
    exact x_iret C hr dX1_chance_62 ⟨_, rfl, h⟩
  · have h := h.2 c10
    refine x_aload_n C rfl 0 rfl dX1_chance_17 ?_
    refine x_getR (r := 253) C (j := 4) ob249.1 ob249.2 (Nat.le_of_ble_eq_true rfl) (Nat.le_of_ble_eq_true rfl) (fun _ _ _ => rfl) r_249_4 tw_2_151 dX1_chance_18 ?_
    refine x_aload_n C rfl 3 rfl dX1_chance_21 ?_
    refine x_iload C 4 rfl dX1_chance_22 ?_
    obtain ⟨c14, r15, e_r15, o_r15, h⟩ := h
    refine x_aald (r := r15) C o_a3.1 (by rw [o_a3.2]; decide) (by rw [o_a3.2]; decide) c14 rfl (SR_arr o_a3 (by decide) e_r15) dX1_chance_24 ?_
    refine x_aload_n C rfl 0 rfl dX1_chance_25 ?_
    refine x_getR (r := 252) C (j := 3) ob249.1 ob249.2 (Nat.le_of_ble_eq_true rfl) (Nat.le_of_ble_eq_true rfl) (fun _ _ _ => rfl) r_249_3 tw_2_150 dX1_chance_26 ?_
    refine x_iload C 4 rfl dX1_chance_29 ?_
    refine x_iload_n C rfl 2 rfl dX1_chance_31 ?_
    refine x_isub C dX1_chance_32 ?_
    obtain ⟨c16, h⟩ := h
    refine x_aald (r := (259 + 6 * (x.1 - p2).toNatClampNeg)) C ob252.1 (by decide) (by decide) c16 rfl (rA252 c16) dX1_chance_33 ?_
    refine x_callVN (dC := G0_addProduct_dep) (as := [.ref r15, .ref (259 + 6 * (x.1 - p2).toNatClampNeg)]) (st := []) C rX kX (Nat.le_trans (Nat.le_of_ble_eq_true rfl) hd) (Nat.le_of_ble_eq_true rfl) ob253.1 ob253.2 (Nat.le_of_ble_eq_true rfl) rfl ts_7_13 tw_6_20 tw_6_18 tc_6_21 tw_1_9 hyX0 hnX0_addProduct rfl (Nat.le_of_ble_eq_true rfl) dX1_chance_34 (G0_addProduct_met C.2.2.2.2.2.2.2.1 (Nat.le_refl _) ob253 o_r15 (obA252 c16) h) (fun r0 μ17 hq => ?_)
    obtain ⟨rfl, h⟩ := hq
    refine x_st [] rfl ?_
    refine x_iinc (v := (x.1 + 1)) C [(4, .int (x.1 + 1)), (0, .ref 249), (1, .int p1), (2, .int p2), (3, .ref a3)] 4 rfl (congrArg (fun z => x.1 + z) (by decide : Int32.ofInt (1) = 1)) (Nat.le_of_ble_eq_true rfl) rfl dX1_chance_37 ?_
    refine x_goto (tgt := 11) C dX1_chance_40 (by decide) ?_
    refine x_sub [(0, .ref 249), (1, .int p1), (2, .int p2), (3, .ref a3), (4, .int (x.1 + 1))] [1, 2, 3, 4, 0] rfl ?_
    exact hK11 _ _ h
theorem G1_chance_L11_ok {p : Program} {e : Env} {s : State} {m : MethodId} {args : Array Value} {below : List Frame} {meth : Method} {c : Code} {l : Launch} {φ : Nat → Nat} {tc : Nat → ClassId} {D : va_G} {s0 : State} {dR : Nat} (C : CX p s m args meth c φ tc D (AX φ) s0 cX1_chance RX1 5) (hd : G1_chance_dep ≤ dR) (hr : meth.sig.returnType = (some .int)) {a3 : Nat} {p1 : Int32} {p2 : Int32} {Q : Int32 → MM → Prop}  {x : Int32 × MM} (o_a3 : Ob a3 16)   (h : Lp (G1_chance_L11 a3 p1 p2 Q) x) : WX p l e (rmX dR) s m args below meth c φ tc D (AX φ) 5 0 0 (MQ below (QX φ tc D (QI Q)) args s 0 0 (AX φ)) 11 [(0, .ref 249), (1, .int p1), (2, .int p2), (3, .ref a3), (4, .int x.1)] [] x.2 := by
  obtain ⟨n, h⟩ := h
  induction n generalizing x with
  | zero => exact h.elim
  | succ n ih => exact G1_chance_L11_b C hd hr o_a3  (fun z4 zμ hz => by have q := ih hz; exact q) h
set_option maxHeartbeats 4000000 in
set_option maxRecDepth 100000 in
theorem G1_chance_met {l : Launch} {φ : Nat → Nat} {tc : Nat → ClassId} {D : va_G} {s0 : State} (hG : GX φ tc D s0) {dR : Nat} (hd : G1_chance_dep ≤ dR) {v1 : Int32} {v2 : Int32} {a3 : Nat} {μ : MM} {Q : Int32 → MM → Prop} (o_a3 : Ob a3 16) (h : G1_chance v1 v2 a3 μ Q) : MX l φ tc D s0 dR yX1_chance cX1_chance 5 (some .int) [.ref 249, .int v1, .int v2, .ref a3] μ (QI Q) := by
  refine MX.of (own := RX1) hG plX1 rfl (Nat.le_of_ble_eq_true rfl) (fun p e s m args below meth c C hr => ?_)
  refine x_sub [(0, .ref 249), (1, .int v1), (2, .int v2), (3, .ref a3)] [0, 1, 2, 3] rfl ?_
  unfold G1_chance at h
  refine x_aload_n C rfl 0 rfl dX1_chance_0 ?_
  refine x_getR (r := 253) C (j := 4) ob249.1 ob249.2 (Nat.le_of_ble_eq_true rfl) (Nat.le_of_ble_eq_true rfl) (fun _ _ _ => rfl) r_249_4 tw_2_151 dX1_chance_1 ?_
  refine x_iconst (v := 0) C (by decide) dX1_chance_4 ?_
  refine x_callVN (dC := G0_become_dep) (as := [.int 0]) (st := []) C rX kX (Nat.le_trans (Nat.le_of_ble_eq_true rfl) hd) (Nat.le_of_ble_eq_true rfl) ob253.1 ob253.2 (Nat.le_of_ble_eq_true rfl) rfl ts_5_10 tw_5_25 tw_6_8 tc_5_26 tw_1_9 hyX0 hnX0_become rfl (Nat.le_of_ble_eq_true rfl) dX1_chance_5 (G0_become_met C.2.2.2.2.2.2.2.1 (Nat.le_refl _) ob253 h) (fun r0 μ9 hq => ?_)
  obtain ⟨rfl, h⟩ := hq
  refine x_st [] rfl ?_
  refine x_iload_n C rfl 2 rfl dX1_chance_8 ?_
  refine x_istore C [(4, .int v2), (0, .ref 249), (1, .int v1), (2, .int v2), (3, .ref a3)] (Nat.le_of_ble_eq_true rfl) rfl dX1_chance_9 ?_
  refine x_sub [(0, .ref 249), (1, .int v1), (2, .int v2), (3, .ref a3), (4, .int v2)] [1, 2, 3, 4, 0] rfl ?_
  exact G1_chance_L11_ok C hd hr o_a3 h
set_option maxHeartbeats 4000000 in
set_option maxRecDepth 100000 in
theorem G0_add_J47_ok {p : Program} {e : Env} {s : State} {m : MethodId} {args : Array Value} {below : List Frame} {meth : Method} {c : Code} {l : Launch} {φ : Nat → Nat} {tc : Nat → ClassId} {D : va_G} {s0 : State} {dR : Nat} (C : CX p s m args meth c φ tc D (AX φ) s0 cX0_add RX0 3) (hd : G0_add_dep ≤ dR) (hr : meth.sig.returnType = none)  {t : Nat} {a1 : Nat}  {Q : MM → Prop}  {μ : MM} (o_t : Ob t 0) (o_a1 : Ob a1 0)   (h : G0_add_J47 t a1 μ Q) : WX p l e (rmX dR) s m args below meth c φ tc D (AX φ) 3 0 0 (MQ below (QX φ tc D (QV Q)) args s 0 0 (AX φ)) 47 [(0, .ref t)] [] μ := by
  unfold G0_add_J47 at h
  refine x_aload_n C rfl 0 rfl dX0_add_47 ?_
  refine x_callV (dC := G0_carry_dep) (as := []) (st := []) C rX kX (Nat.le_trans (Nat.le_of_ble_eq_true rfl) hd) (Nat.le_of_ble_eq_true rfl) o_t.1 o_t.2 (Nat.le_of_ble_eq_true rfl) rfl ts_5_11 tw_5_29 tw_5_27 tc_5_30 tw_1_9 hyX0 hnX0_carry rfl (Nat.le_of_ble_eq_true rfl) dX0_add_48 (G0_carry_met C.2.2.2.2.2.2.2.1 (Nat.le_refl _) o_t h) (fun r0 μ9 hq => ?_)
  obtain ⟨rfl, h⟩ := hq
  refine x_st [] rfl ?_
  exact x_vret C hr dX0_add_51 ⟨rfl, h⟩
set_option maxHeartbeats 4000000 in
set_option maxRecDepth 100000 in
theorem G0_add_L10_b {p : Program} {e : Env} {s : State} {m : MethodId} {args : Array Value} {below : List Frame} {meth : Method} {c : Code} {l : Launch} {φ : Nat → Nat} {tc : Nat → ClassId} {D : va_G} {s0 : State} {dR : Nat} (C : CX p s m args meth c φ tc D (AX φ) s0 cX0_add RX0 3) (hd : G0_add_dep ≤ dR) (hr : meth.sig.returnType = none) {t : Nat} {a1 : Nat}  {Q : MM → Prop} {K10 : Int32 × MM → Prop} {x : Int32 × MM} (o_t : Ob t 0) (o_a1 : Ob a1 0)  (hK10 : ∀ (z2 : Int32) (zμ : MM), K10 (z2, zμ) → WX p l e (rmX dR) s m args below meth c φ tc D (AX φ) 3 0 0 (MQ below (QX φ tc D (QV Q)) args s 0 0 (AX φ)) 10 [(0, .ref t), (1, .ref a1), (2, .int z2)] [] zμ) (h : G0_add_L10 t a1 Q K10 x) : WX p l e (rmX dR) s m args below meth c φ tc D (AX φ) 3 0 0 (MQ below (QX φ tc D (QV Q)) args s 0 0 (AX φ)) 10 [(0, .ref t), (1, .ref a1), (2, .int x.1)] [] x.2 := by
  unfold G0_add_L10 at h
  refine x_iload_n C rfl 2 rfl dX0_add_10 ?_
  refine x_aload_n C rfl 1 rfl dX0_add_11 ?_
  refine x_getI C (j := 1) o_a1.1 o_a1.2 (Nat.le_of_ble_eq_true rfl) (Nat.le_of_ble_eq_true rfl) (Or.inl rfl) tw_2_49 dX0_add_12 ?_
  refine x_icmp_ge (tgt := 47) C dX0_add_15 (by decide) (fun c8 => ?_) (fun c8 => ?_)
  · have h := h.1 c8
    refine x_sub [(0, .ref t)] [0] rfl ?_
    exact G0_add_J47_ok C hd hr o_t o_a1 h
  · have h := h.2 c8
    refine x_iload_n C rfl 2 rfl dX0_add_18 ?_
    refine x_aload_n C rfl 0 rfl dX0_add_19 ?_
    refine x_getI C (j := 1) o_t.1 o_t.2 (Nat.le_of_ble_eq_true rfl) (Nat.le_of_ble_eq_true rfl) (Or.inl rfl) tw_2_49 dX0_add_20 ?_
    refine x_icmp_ge (tgt := 47) C dX0_add_23 (by decide) (fun c10 => ?_) (fun c10 => ?_)
    · have h := h.1 c10
      refine x_sub [(0, .ref t)] [0] rfl ?_
      exact G0_add_J47_ok C hd hr o_t o_a1 h
    · have h := h.2 c10
      refine x_aload_n C rfl 0 rfl dX0_add_26 ?_
      refine x_getR (r := (t + 1)) C (j := 0) o_t.1 o_t.2 (Nat.le_of_ble_eq_true rfl) (Nat.le_of_ble_eq_true rfl) (fun _ _ _ => rfl) (rF0_0 o_t) tw_2_48 dX0_add_27 ?_
      refine x_iload_n C rfl 2 rfl dX0_add_30 ?_
      refine x_dup2_11 C rfl rfl dX0_add_31 ?_
      obtain ⟨c11, h⟩ := h
      refine x_lald C (obF0_0 o_t).1 (obF0_0 o_t).2 c11 rfl dX0_add_32 ?_
      refine x_aload_n C rfl 1 rfl dX0_add_33 ?_
      refine x_getR (r := (a1 + 1)) C (j := 0) o_a1.1 o_a1.2 (Nat.le_of_ble_eq_true rfl) (Nat.le_of_ble_eq_true rfl) (fun _ _ _ => rfl) (rF0_0 o_a1) tw_2_48 dX0_add_34 ?_
      refine x_iload_n C rfl 2 rfl dX0_add_37 ?_
      obtain ⟨c12, h⟩ := h
      refine x_lald C (obF0_0 o_a1).1 (obF0_0 o_a1).2 c12 rfl dX0_add_38 ?_
      refine x_ladd C dX0_add_39 ?_
      obtain ⟨c13, h⟩ := h
      refine x_last C (obF0_0 o_t).1 (obF0_0 o_t).2 c13 rfl dX0_add_40 ?_
      refine x_mu (fun μ14 e_μ14 => ?_)
      have h := h μ14 e_μ14
      refine x_iinc (v := (x.1 + 1)) C [(2, .int (x.1 + 1)), (0, .ref t), (1, .ref a1)] 2 rfl (congrArg (fun z => x.1 + z) (by decide : Int32.ofInt (1) = 1)) (Nat.le_of_ble_eq_true rfl) rfl dX0_add_41 ?_
      refine x_goto (tgt := 10) C dX0_add_44 (by decide) ?_
      refine x_sub [(0, .ref t), (1, .ref a1), (2, .int (x.1 + 1))] [1, 2, 0] rfl ?_
      exact hK10 _ _ h
theorem G0_add_L10_ok {p : Program} {e : Env} {s : State} {m : MethodId} {args : Array Value} {below : List Frame} {meth : Method} {c : Code} {l : Launch} {φ : Nat → Nat} {tc : Nat → ClassId} {D : va_G} {s0 : State} {dR : Nat} (C : CX p s m args meth c φ tc D (AX φ) s0 cX0_add RX0 3) (hd : G0_add_dep ≤ dR) (hr : meth.sig.returnType = none) {t : Nat} {a1 : Nat}  {Q : MM → Prop}  {x : Int32 × MM} (o_t : Ob t 0) (o_a1 : Ob a1 0)   (h : Lp (G0_add_L10 t a1 Q) x) : WX p l e (rmX dR) s m args below meth c φ tc D (AX φ) 3 0 0 (MQ below (QX φ tc D (QV Q)) args s 0 0 (AX φ)) 10 [(0, .ref t), (1, .ref a1), (2, .int x.1)] [] x.2 := by
  obtain ⟨n, h⟩ := h
  induction n generalizing x with
  | zero => exact h.elim
  | succ n ih => exact G0_add_L10_b C hd hr o_t o_a1  (fun z2 zμ hz => by have q := ih hz; exact q) h
set_option maxHeartbeats 4000000 in
set_option maxRecDepth 100000 in
theorem G0_add_met {l : Launch} {φ : Nat → Nat} {tc : Nat → ClassId} {D : va_G} {s0 : State} (hG : GX φ tc D s0) {dR : Nat} (hd : G0_add_dep ≤ dR) {t : Nat} {a1 : Nat} {μ : MM} {Q : MM → Prop} (o_t : Ob t 0) (o_a1 : Ob a1 0) (h : G0_add t a1 μ Q) : MX l φ tc D s0 dR yX0_add cX0_add 3 none [.ref t, .ref a1] μ (QV Q) := by
  refine MX.of (own := RX0) hG plX0 rfl (Nat.le_of_ble_eq_true rfl) (fun p e s m args below meth c C hr => ?_)
  refine x_sub [(0, .ref t), (1, .ref a1)] [0, 1] rfl ?_
  unfold G0_add at h
  refine x_aload_n C rfl 0 rfl dX0_add_0 ?_
  refine x_aload_n C rfl 1 rfl dX0_add_1 ?_
  refine x_getI C (j := 1) o_a1.1 o_a1.2 (Nat.le_of_ble_eq_true rfl) (Nat.le_of_ble_eq_true rfl) (Or.inl rfl) tw_2_49 dX0_add_2 ?_
  refine x_callV (dC := G0_stretch_dep) (as := [.int (gI μ a1 1)]) (st := []) C rX kX (Nat.le_trans (Nat.le_of_ble_eq_true rfl) hd) (Nat.le_of_ble_eq_true rfl) o_t.1 o_t.2 (Nat.le_of_ble_eq_true rfl) rfl ts_5_12 tw_5_33 tw_5_31 tc_5_34 tw_1_9 hyX0 hnX0_stretch rfl (Nat.le_of_ble_eq_true rfl) dX0_add_5 (G0_stretch_met C.2.2.2.2.2.2.2.1 (Nat.le_refl _) o_t h) (fun r0 μ7 hq => ?_)
  obtain ⟨rfl, h⟩ := hq
  refine x_st [] rfl ?_
  refine x_iconst (v := 0) C (by decide) dX0_add_8 ?_
  refine x_istore_n C [(2, .int 0), (0, .ref t), (1, .ref a1)] rfl (Nat.le_of_ble_eq_true rfl) rfl dX0_add_9 ?_
  refine x_sub [(0, .ref t), (1, .ref a1), (2, .int 0)] [1, 2, 0] rfl ?_
  exact G0_add_L10_ok C hd hr o_t o_a1 h
set_option maxHeartbeats 4000000 in
set_option maxRecDepth 100000 in
theorem G1_fillWays_J36_ok {p : Program} {e : Env} {s : State} {m : MethodId} {args : Array Value} {below : List Frame} {meth : Method} {c : Code} {l : Launch} {φ : Nat → Nat} {tc : Nat → ClassId} {D : va_G} {s0 : State} {dR : Nat} (C : CX p s m args meth c φ tc D (AX φ) s0 cX1_fillWays RX1 5) (hd : G1_fillWays_dep ≤ dR) (hr : meth.sig.returnType = none)  {a0 : Nat} {p1 : Int32} {p2 : Int32} {p3 : Int32} {p4 : Int32} {q0 : Int64} {Q : MM → Prop} {K13 : Int32 × MM → Prop} {μ : MM} (o_a0 : Ob a0 0)  (hK13 : ∀ (z4 : Int32) (zμ : MM), K13 (z4, zμ) → WX p l e (rmX dR) s m args below meth c φ tc D (AX φ) 5 0 0 (MQ below (QX φ tc D (QV Q)) args s 0 0 (AX φ)) 13 [(0, .ref a0), (1, .int p1), (2, .int p2), (3, .int p3), (4, .int z4)] [] zμ) (h : G1_fillWays_J36 a0 p1 p2 p3 p4 q0 μ K13 Q) : WX p l e (rmX dR) s m args below meth c φ tc D (AX φ) 5 0 0 (MQ below (QX φ tc D (QV Q)) args s 0 0 (AX φ)) 36 [(0, .ref a0), (1, .int p1), (2, .int p2), (3, .int p3), (4, .int p4)] [.long q0, .ref a0] μ := by
  unfold G1_fillWays_J36 at h
  refine x_callVN (dC := G0_times_dep) (as := [.long q0]) (st := []) C rX kX (Nat.le_trans (Nat.le_of_ble_eq_true rfl) hd) (Nat.le_of_ble_eq_true rfl) o_a0.1 o_a0.2 (Nat.le_of_ble_eq_true rfl) rfl ts_5_14 tw_5_45 tw_6_9 tc_5_46 tw_1_9 hyX0 hnX0_times rfl (Nat.le_of_ble_eq_true rfl) dX1_fillWays_36 (G0_times_met C.2.2.2.2.2.2.2.1 (Nat.le_refl _) o_a0 h) (fun r0 μ10 hq => ?_)
  obtain ⟨rfl, h⟩ := hq
  refine x_st [] rfl ?_
  refine x_iinc (v := (p4 + 1)) C [(4, .int (p4 + 1)), (0, .ref a0), (1, .int p1), (2, .int p2), (3, .int p3)] 4 rfl (congrArg (fun z => p4 + z) (by decide : Int32.ofInt (1) = 1)) (Nat.le_of_ble_eq_true rfl) rfl dX1_fillWays_39 ?_
  refine x_goto (tgt := 13) C dX1_fillWays_42 (by decide) ?_
  refine x_sub [(0, .ref a0), (1, .int p1), (2, .int p2), (3, .int p3), (4, .int (p4 + 1))] [1, 2, 3, 4, 0] rfl ?_
  exact hK13 _ _ h
set_option maxHeartbeats 4000000 in
set_option maxRecDepth 100000 in
theorem G1_fillWays_L13_b {p : Program} {e : Env} {s : State} {m : MethodId} {args : Array Value} {below : List Frame} {meth : Method} {c : Code} {l : Launch} {φ : Nat → Nat} {tc : Nat → ClassId} {D : va_G} {s0 : State} {dR : Nat} (C : CX p s m args meth c φ tc D (AX φ) s0 cX1_fillWays RX1 5) (hd : G1_fillWays_dep ≤ dR) (hr : meth.sig.returnType = none) {a0 : Nat} {p1 : Int32} {p2 : Int32} {p3 : Int32} {Q : MM → Prop} {K13 : Int32 × MM → Prop} {x : Int32 × MM} (o_a0 : Ob a0 0)  (hK13 : ∀ (z4 : Int32) (zμ : MM), K13 (z4, zμ) → WX p l e (rmX dR) s m args below meth c φ tc D (AX φ) 5 0 0 (MQ below (QX φ tc D (QV Q)) args s 0 0 (AX φ)) 13 [(0, .ref a0), (1, .int p1), (2, .int p2), (3, .int p3), (4, .int z4)] [] zμ) (h : G1_fillWays_L13 a0 p1 p2 p3 Q K13 x) : WX p l e (rmX dR) s m args below meth c φ tc D (AX φ) 5 0 0 (MQ below (QX φ tc D (QV Q)) args s 0 0 (AX φ)) 13 [(0, .ref a0), (1, .int p1), (2, .int p2), (3, .int p3), (4, .int x.1)] [] x.2 := by
  unfold G1_fillWays_L13 at h
  refine x_iload C 4 rfl dX1_fillWays_13 ?_
  refine x_iload_n C rfl 1 rfl dX1_fillWays_15 ?_
  refine x_icmp_ge (tgt := 45) C dX1_fillWays_16 (by decide) (fun c8 => ?_) (fun c8 => ?_)
  · have h := h.1 c8
    exact x_vret C hr dX1_fillWays_45 ⟨rfl, h⟩
  · have h := h.2 c8
    refine x_aload_n C rfl 0 rfl dX1_fillWays_19 ?_
    refine x_iload C 4 rfl dX1_fillWays_20 ?_
    refine x_iload_n C rfl 2 rfl dX1_fillWays_22 ?_
    refine x_icmp_ge (tgt := 31) C dX1_fillWays_23 (by decide) (fun c9 => ?_) (fun c9 => ?_)
    · have h := h.1 c9
      refine x_bipush (v := 100) C (by decide) dX1_fillWays_31 ?_
      refine x_iload_n C rfl 3 rfl dX1_fillWays_33 ?_
      refine x_isub C dX1_fillWays_34 ?_
      refine x_i2l C dX1_fillWays_35 ?_
      exact G1_fillWays_J36_ok C hd hr o_a0 hK13 h
    · have h := h.2 c9
      refine x_iload_n C rfl 3 rfl dX1_fillWays_26 ?_
      refine x_i2l C dX1_fillWays_27 ?_
      refine x_goto (tgt := 36) C dX1_fillWays_28 (by decide) ?_
      exact G1_fillWays_J36_ok C hd hr o_a0 hK13 h
theorem G1_fillWays_L13_ok {p : Program} {e : Env} {s : State} {m : MethodId} {args : Array Value} {below : List Frame} {meth : Method} {c : Code} {l : Launch} {φ : Nat → Nat} {tc : Nat → ClassId} {D : va_G} {s0 : State} {dR : Nat} (C : CX p s m args meth c φ tc D (AX φ) s0 cX1_fillWays RX1 5) (hd : G1_fillWays_dep ≤ dR) (hr : meth.sig.returnType = none) {a0 : Nat} {p1 : Int32} {p2 : Int32} {p3 : Int32} {Q : MM → Prop}  {x : Int32 × MM} (o_a0 : Ob a0 0)   (h : Lp (G1_fillWays_L13 a0 p1 p2 p3 Q) x) : WX p l e (rmX dR) s m args below meth c φ tc D (AX φ) 5 0 0 (MQ below (QX φ tc D (QV Q)) args s 0 0 (AX φ)) 13 [(0, .ref a0), (1, .int p1), (2, .int p2), (3, .int p3), (4, .int x.1)] [] x.2 := by
  obtain ⟨n, h⟩ := h
  induction n generalizing x with
  | zero => exact h.elim
  | succ n ih => exact G1_fillWays_L13_b C hd hr o_a0  (fun z4 zμ hz => by have q := ih hz; exact q) h
set_option maxHeartbeats 4000000 in
set_option maxRecDepth 100000 in
theorem G1_fillWays_met {l : Launch} {φ : Nat → Nat} {tc : Nat → ClassId} {D : va_G} {s0 : State} (hG : GX φ tc D s0) {dR : Nat} (hd : G1_fillWays_dep ≤ dR) {a0 : Nat} {v1 : Int32} {v2 : Int32} {v3 : Int32} {μ : MM} {Q : MM → Prop} (o_a0 : Ob a0 0) (h : G1_fillWays a0 v1 v2 v3 μ Q) : MX l φ tc D s0 dR yX1_fillWays cX1_fillWays 5 none [.ref a0, .int v1, .int v2, .int v3] μ (QV Q) := by
  refine MX.of (own := RX1) hG plX1 rfl (Nat.le_of_ble_eq_true rfl) (fun p e s m args below meth c C hr => ?_)
  refine x_sub [(0, .ref a0), (1, .int v1), (2, .int v2), (3, .int v3)] [0, 1, 2, 3] rfl ?_
  unfold G1_fillWays at h
  refine x_aload_n C rfl 0 rfl dX1_fillWays_0 ?_
  refine x_iload_n C rfl 1 rfl dX1_fillWays_1 ?_
  refine x_iload_n C rfl 2 rfl dX1_fillWays_2 ?_
  refine x_callSN (dC := G11_choices_dep) (as := [.int v1, .int v2]) (st := [.ref a0]) C rX kX (Nat.le_trans (Nat.le_of_ble_eq_true rfl) hd) (Nat.le_of_ble_eq_true rfl) tw_4_104 tw_6_7 tc_4_105 tw_1_1 hyX11 hnX11_choices rfl (Nat.le_of_ble_eq_true rfl) dX1_fillWays_3 (G11_choices_met C.2.2.2.2.2.2.2.1 (Nat.le_refl _)  h) (fun r0 μ5 hq => ?_)
  obtain ⟨r6, rfl, h⟩ := hq
  refine x_st [.long r6, .ref a0] rfl ?_
  refine x_l2i C dX1_fillWays_6 ?_
  refine x_callVN (dC := G0_become_dep) (as := [.int (r6.toInt32)]) (st := []) C rX kX (Nat.le_trans (Nat.le_of_ble_eq_true rfl) hd) (Nat.le_of_ble_eq_true rfl) o_a0.1 o_a0.2 (Nat.le_of_ble_eq_true rfl) rfl ts_5_10 tw_5_25 tw_6_8 tc_5_26 tw_1_9 hyX0 hnX0_become rfl (Nat.le_of_ble_eq_true rfl) dX1_fillWays_7 (G0_become_met C.2.2.2.2.2.2.2.1 (Nat.le_refl _) o_a0 h) (fun r0 μ7 hq => ?_)
  obtain ⟨rfl, h⟩ := hq
  refine x_st [] rfl ?_
  refine x_iconst (v := 0) C (by decide) dX1_fillWays_10 ?_
  refine x_istore C [(4, .int 0), (0, .ref a0), (1, .int v1), (2, .int v2), (3, .int v3)] (Nat.le_of_ble_eq_true rfl) rfl dX1_fillWays_11 ?_
  refine x_sub [(0, .ref a0), (1, .int v1), (2, .int v2), (3, .int v3), (4, .int 0)] [1, 2, 3, 4, 0] rfl ?_
  exact G1_fillWays_L13_ok C hd hr o_a0 h
set_option maxHeartbeats 4000000 in
set_option maxRecDepth 100000 in
theorem G1_fill_J72_ok {p : Program} {e : Env} {s : State} {m : MethodId} {args : Array Value} {below : List Frame} {meth : Method} {c : Code} {l : Launch} {φ : Nat → Nat} {tc : Nat → ClassId} {D : va_G} {s0 : State} {dR : Nat} (C : CX p s m args meth c φ tc D (AX φ) s0 cX1_fill RX1 5) (hd : G1_fill_dep ≤ dR) (hr : meth.sig.returnType = none)   {p1 : Int32} {p2 : Int32} {p3 : Int32} {p4 : Int32} {Q : MM → Prop} {K3 : Int32 × MM → Prop} {μ : MM}   (hK3 : ∀ (z4 : Int32) (zμ : MM), K3 (z4, zμ) → WX p l e (rmX dR) s m args below meth c φ tc D (AX φ) 5 0 0 (MQ below (QX φ tc D (QV Q)) args s 0 0 (AX φ)) 3 [(0, .ref 249), (1, .int p1), (2, .int p2), (3, .int p3), (4, .int z4)] [] zμ) (h : G1_fill_J72 p1 p2 p3 p4 μ K3 Q) : WX p l e (rmX dR) s m args below meth c φ tc D (AX φ) 5 0 0 (MQ below (QX φ tc D (QV Q)) args s 0 0 (AX φ)) 72 [(0, .ref 249), (1, .int p1), (2, .int p2), (3, .int p3), (4, .int p4)] [] μ := by
  unfold G1_fill_J72 at h
  refine x_aload_n C rfl 0 rfl dX1_fill_72 ?_
  refine x_getR (r := 252) C (j := 3) ob249.1 ob249.2 (Nat.le_of_ble_eq_true rfl) (Nat.le_of_ble_eq_true rfl) (fun _ _ _ => rfl) r_249_3 tw_2_150 dX1_fill_73 ?_
  refine x_iload C 4 rfl dX1_fill_76 ?_
  obtain ⟨c21, h⟩ := h
  refine x_aald (r := (259 + 6 * p4.toNatClampNeg)) C ob252.1 (by decide) (by decide) c21 rfl (rA252 c21) dX1_fill_78 ?_
  refine x_aload_n C rfl 0 rfl dX1_fill_79 ?_
  refine x_getR (r := 251) C (j := 2) ob249.1 ob249.2 (Nat.le_of_ble_eq_true rfl) (Nat.le_of_ble_eq_true rfl) (fun _ _ _ => rfl) r_249_2 tw_2_149 dX1_fill_80 ?_
  refine x_iload C 4 rfl dX1_fill_83 ?_
  obtain ⟨c22, h⟩ := h
  refine x_aald (r := (257 + 6 * p4.toNatClampNeg)) C ob251.1 (by decide) (by decide) c22 rfl (rA251 c22) dX1_fill_85 ?_
  refine x_callVN (dC := G0_add_dep) (as := [.ref (257 + 6 * p4.toNatClampNeg)]) (st := []) C rX kX (Nat.le_trans (Nat.le_of_ble_eq_true rfl) hd) (Nat.le_of_ble_eq_true rfl) (obA252 c21).1 (obA252 c21).2 (Nat.le_of_ble_eq_true rfl) rfl ts_7_11 tw_6_12 tw_6_10 tc_6_13 tw_1_9 hyX0 hnX0_add rfl (Nat.le_of_ble_eq_true rfl) dX1_fill_86 (G0_add_met C.2.2.2.2.2.2.2.1 (Nat.le_refl _) (obA252 c21) (obA251 c22) h) (fun r0 μ23 hq => ?_)
  obtain ⟨rfl, h⟩ := hq
  refine x_st [] rfl ?_
  refine x_iinc (v := (p4 + 1)) C [(4, .int (p4 + 1)), (0, .ref 249), (1, .int p1), (2, .int p2), (3, .int p3)] 4 rfl (congrArg (fun z => p4 + z) (by decide : Int32.ofInt (1) = 1)) (Nat.le_of_ble_eq_true rfl) rfl dX1_fill_89 ?_
  refine x_goto (tgt := 3) C dX1_fill_92 (by decide) ?_
  refine x_sub [(0, .ref 249), (1, .int p1), (2, .int p2), (3, .int p3), (4, .int (p4 + 1))] [1, 2, 3, 4, 0] rfl ?_
  exact hK3 _ _ h
set_option maxHeartbeats 4000000 in
set_option maxRecDepth 100000 in
theorem G1_fill_L3_b {p : Program} {e : Env} {s : State} {m : MethodId} {args : Array Value} {below : List Frame} {meth : Method} {c : Code} {l : Launch} {φ : Nat → Nat} {tc : Nat → ClassId} {D : va_G} {s0 : State} {dR : Nat} (C : CX p s m args meth c φ tc D (AX φ) s0 cX1_fill RX1 5) (hd : G1_fill_dep ≤ dR) (hr : meth.sig.returnType = none)  {p1 : Int32} {p2 : Int32} {p3 : Int32} {Q : MM → Prop} {K3 : Int32 × MM → Prop} {x : Int32 × MM}   (hK3 : ∀ (z4 : Int32) (zμ : MM), K3 (z4, zμ) → WX p l e (rmX dR) s m args below meth c φ tc D (AX φ) 5 0 0 (MQ below (QX φ tc D (QV Q)) args s 0 0 (AX φ)) 3 [(0, .ref 249), (1, .int p1), (2, .int p2), (3, .int p3), (4, .int z4)] [] zμ) (h : G1_fill_L3 p1 p2 p3 Q K3 x) : WX p l e (rmX dR) s m args below meth c φ tc D (AX φ) 5 0 0 (MQ below (QX φ tc D (QV Q)) args s 0 0 (AX φ)) 3 [(0, .ref 249), (1, .int p1), (2, .int p2), (3, .int p3), (4, .int x.1)] [] x.2 := by
  unfold G1_fill_L3 at h
  refine x_iload C 4 rfl dX1_fill_3 ?_
  refine x_iload_n C rfl 1 rfl dX1_fill_5 ?_
  refine x_icmp_gt (tgt := 95) C dX1_fill_6 (by decide) (fun c13 => ?_) (fun c13 => ?_)
  · have h := h.1 c13
    exact x_vret C hr dX1_fill_95 ⟨rfl, h⟩
  · have h := h.2 c13
    refine x_aload_n C rfl 0 rfl dX1_fill_9 ?_
    refine x_getR (r := 250) C (j := 1) ob249.1 ob249.2 (Nat.le_of_ble_eq_true rfl) (Nat.le_of_ble_eq_true rfl) (fun _ _ _ => rfl) r_249_1 tw_2_148 dX1_fill_10 ?_
    refine x_iload C 4 rfl dX1_fill_13 ?_
    obtain ⟨c14, h⟩ := h
    refine x_aald (r := (255 + 6 * x.1.toNatClampNeg)) C ob250.1 (by decide) (by decide) c14 rfl (rA250 c14) dX1_fill_15 ?_
    refine x_iload_n C rfl 1 rfl dX1_fill_16 ?_
    refine x_iload C 4 rfl dX1_fill_17 ?_
    refine x_iload_n C rfl 2 rfl dX1_fill_19 ?_
    refine x_callS (dC := G1_fillWays_dep) (as := [.ref (255 + 6 * x.1.toNatClampNeg), .int p1, .int x.1, .int p2]) (st := []) C rX kX (Nat.le_trans (Nat.le_of_ble_eq_true rfl) hd) (Nat.le_of_ble_eq_true rfl) tw_6_5 tw_6_4 tc_6_6 tw_1_12 hyX1 hnX1_fillWays rfl (Nat.le_of_ble_eq_true rfl) dX1_fill_20 (G1_fillWays_met C.2.2.2.2.2.2.2.1 (Nat.le_refl _) (obA250 c14) h) (fun r0 μ15 hq => ?_)
    obtain ⟨rfl, h⟩ := hq
    refine x_st [] rfl ?_
    refine x_aload_n C rfl 0 rfl dX1_fill_23 ?_
    refine x_getR (r := 251) C (j := 2) ob249.1 ob249.2 (Nat.le_of_ble_eq_true rfl) (Nat.le_of_ble_eq_true rfl) (fun _ _ _ => rfl) r_249_2 tw_2_149 dX1_fill_24 ?_
    refine x_iload C 4 rfl dX1_fill_27 ?_
    obtain ⟨c16, h⟩ := h
    refine x_aald (r := (257 + 6 * x.1.toNatClampNeg)) C ob251.1 (by decide) (by decide) c16 rfl (rA251 c16) dX1_fill_29 ?_
    refine x_iload_n C rfl 1 rfl dX1_fill_30 ?_
    refine x_iload C 4 rfl dX1_fill_31 ?_
    refine x_iload_n C rfl 3 rfl dX1_fill_33 ?_
    refine x_callS (dC := G1_fillWays_dep) (as := [.ref (257 + 6 * x.1.toNatClampNeg), .int p1, .int x.1, .int p3]) (st := []) C rX kX (Nat.le_trans (Nat.le_of_ble_eq_true rfl) hd) (Nat.le_of_ble_eq_true rfl) tw_6_5 tw_6_4 tc_6_6 tw_1_12 hyX1 hnX1_fillWays rfl (Nat.le_of_ble_eq_true rfl) dX1_fill_34 (G1_fillWays_met C.2.2.2.2.2.2.2.1 (Nat.le_refl _) (obA251 c16) h) (fun r0 μ17 hq => ?_)
    obtain ⟨rfl, h⟩ := hq
    refine x_st [] rfl ?_
    refine x_aload_n C rfl 0 rfl dX1_fill_37 ?_
    refine x_getR (r := 252) C (j := 3) ob249.1 ob249.2 (Nat.le_of_ble_eq_true rfl) (Nat.le_of_ble_eq_true rfl) (fun _ _ _ => rfl) r_249_3 tw_2_150 dX1_fill_38 ?_
    refine x_iload C 4 rfl dX1_fill_41 ?_
    obtain ⟨c18, h⟩ := h
    refine x_aald (r := (259 + 6 * x.1.toNatClampNeg)) C ob252.1 (by decide) (by decide) c18 rfl (rA252 c18) dX1_fill_43 ?_
    refine x_iconst (v := 0) C (by decide) dX1_fill_44 ?_
    refine x_callVN (dC := G0_become_dep) (as := [.int 0]) (st := []) C rX kX (Nat.le_trans (Nat.le_of_ble_eq_true rfl) hd) (Nat.le_of_ble_eq_true rfl) (obA252 c18).1 (obA252 c18).2 (Nat.le_of_ble_eq_true rfl) rfl ts_5_10 tw_5_25 tw_6_8 tc_5_26 tw_1_9 hyX0 hnX0_become rfl (Nat.le_of_ble_eq_true rfl) dX1_fill_45 (G0_become_met C.2.2.2.2.2.2.2.1 (Nat.le_refl _) (obA252 c18) h) (fun r0 μ19 hq => ?_)
    obtain ⟨rfl, h⟩ := hq
    refine x_st [] rfl ?_
    refine x_iload C 4 rfl dX1_fill_48 ?_
    refine x_if_le (tgt := 72) C dX1_fill_50 (by decide) (fun c20 => ?_) (fun c20 => ?_)
    · have h := h.1 c20
      exact G1_fill_J72_ok C hd hr hK3 h
    · have h := h.2 c20
      refine x_aload_n C rfl 0 rfl dX1_fill_53 ?_
      refine x_getR (r := 252) C (j := 3) ob249.1 ob249.2 (Nat.le_of_ble_eq_true rfl) (Nat.le_of_ble_eq_true rfl) (fun _ _ _ => rfl) r_249_3 tw_2_150 dX1_fill_54 ?_
      refine x_iload C 4 rfl dX1_fill_57 ?_
      obtain ⟨c24, h⟩ := h
      refine x_aald (r := (259 + 6 * x.1.toNatClampNeg)) C ob252.1 (by decide) (by decide) c24 rfl (rA252 c24) dX1_fill_59 ?_
      refine x_aload_n C rfl 0 rfl dX1_fill_60 ?_
      refine x_getR (r := 252) C (j := 3) ob249.1 ob249.2 (Nat.le_of_ble_eq_true rfl) (Nat.le_of_ble_eq_true rfl) (fun _ _ _ => rfl) r_249_3 tw_2_150 dX1_fill_61 ?_
      refine x_iload C 4 rfl dX1_fill_64 ?_
      refine x_iconst (v := 1) C (by decide) dX1_fill_66 ?_
      refine x_isub C dX1_fill_67 ?_
      obtain ⟨c25, h⟩ := h
      refine x_aald (r := (259 + 6 * (x.1 - 1).toNatClampNeg)) C ob252.1 (by decide) (by decide) c25 rfl (rA252 c25) dX1_fill_68 ?_
      refine x_callVN (dC := G0_add_dep) (as := [.ref (259 + 6 * (x.1 - 1).toNatClampNeg)]) (st := []) C rX kX (Nat.le_trans (Nat.le_of_ble_eq_true rfl) hd) (Nat.le_of_ble_eq_true rfl) (obA252 c24).1 (obA252 c24).2 (Nat.le_of_ble_eq_true rfl) rfl ts_7_11 tw_6_12 tw_6_10 tc_6_13 tw_1_9 hyX0 hnX0_add rfl (Nat.le_of_ble_eq_true rfl) dX1_fill_69 (G0_add_met C.2.2.2.2.2.2.2.1 (Nat.le_refl _) (obA252 c24) (obA252 c25) h) (fun r0 μ26 hq => ?_)
      obtain ⟨rfl, h⟩ := hq
      refine x_st [] rfl ?_
      exact G1_fill_J72_ok C hd hr hK3 h
theorem G1_fill_L3_ok {p : Program} {e : Env} {s : State} {m : MethodId} {args : Array Value} {below : List Frame} {meth : Method} {c : Code} {l : Launch} {φ : Nat → Nat} {tc : Nat → ClassId} {D : va_G} {s0 : State} {dR : Nat} (C : CX p s m args meth c φ tc D (AX φ) s0 cX1_fill RX1 5) (hd : G1_fill_dep ≤ dR) (hr : meth.sig.returnType = none)  {p1 : Int32} {p2 : Int32} {p3 : Int32} {Q : MM → Prop}  {x : Int32 × MM}    (h : Lp (G1_fill_L3 p1 p2 p3 Q) x) : WX p l e (rmX dR) s m args below meth c φ tc D (AX φ) 5 0 0 (MQ below (QX φ tc D (QV Q)) args s 0 0 (AX φ)) 3 [(0, .ref 249), (1, .int p1), (2, .int p2), (3, .int p3), (4, .int x.1)] [] x.2 := by
  obtain ⟨n, h⟩ := h
  induction n generalizing x with
  | zero => exact h.elim
  | succ n ih => exact G1_fill_L3_b C hd hr   (fun z4 zμ hz => by have q := ih hz; exact q) h
set_option maxHeartbeats 4000000 in
set_option maxRecDepth 100000 in
theorem G1_fill_met {l : Launch} {φ : Nat → Nat} {tc : Nat → ClassId} {D : va_G} {s0 : State} (hG : GX φ tc D s0) {dR : Nat} (hd : G1_fill_dep ≤ dR) {v1 : Int32} {v2 : Int32} {v3 : Int32} {μ : MM} {Q : MM → Prop}  (h : G1_fill v1 v2 v3 μ Q) : MX l φ tc D s0 dR yX1_fill cX1_fill 5 none [.ref 249, .int v1, .int v2, .int v3] μ (QV Q) := by
  refine MX.of (own := RX1) hG plX1 rfl (Nat.le_of_ble_eq_true rfl) (fun p e s m args below meth c C hr => ?_)
  refine x_sub [(0, .ref 249), (1, .int v1), (2, .int v2), (3, .int v3)] [0, 1, 2, 3] rfl ?_
  unfold G1_fill at h
  refine x_iconst (v := 0) C (by decide) dX1_fill_0 ?_
  refine x_istore C [(4, .int 0), (0, .ref 249), (1, .int v1), (2, .int v2), (3, .int v3)] (Nat.le_of_ble_eq_true rfl) rfl dX1_fill_1 ?_
  refine x_sub [(0, .ref 249), (1, .int v1), (2, .int v2), (3, .int v3), (4, .int 0)] [1, 2, 3, 4, 0] rfl ?_
  exact G1_fill_L3_ok C hd hr  h
set_option maxHeartbeats 4000000 in
set_option maxRecDepth 100000 in
theorem G1_chanceOf_J26_ok {p : Program} {e : Env} {s : State} {m : MethodId} {args : Array Value} {below : List Frame} {meth : Method} {c : Code} {l : Launch} {φ : Nat → Nat} {tc : Nat → ClassId} {D : va_G} {s0 : State} {dR : Nat} (C : CX p s m args meth c φ tc D (AX φ) s0 cX1_chanceOf RX1 6) (hd : G1_chanceOf_dep ≤ dR) (hr : meth.sig.returnType = (some .int))   {p1 : Int32} {p2 : Int32} {p3 : Int32} {p4 : Int32} {q0 : Int32} {Q : Int32 → MM → Prop}  {μ : MM}    (h : G1_chanceOf_J26 p1 p2 p3 p4 q0 μ Q) : WX p l e (rmX dR) s m args below meth c φ tc D (AX φ) 6 0 0 (MQ below (QX φ tc D (QI Q)) args s 0 0 (AX φ)) 26 [(0, .ref 249), (1, .int p1), (2, .int p2), (3, .int p3), (4, .int p4)] [.int q0] μ := by
  unfold G1_chanceOf_J26 at h
  refine x_istore C [(5, .int q0), (0, .ref 249), (1, .int p1), (2, .int p2), (3, .int p3), (4, .int p4)] (Nat.le_of_ble_eq_true rfl) rfl dX1_chanceOf_26 ?_
  refine x_iload C 0 rfl dX1_chanceOf_28 ?_
  refine x_if_eq (tgt := 53) C dX1_chanceOf_30 (by decide) (fun c15 => ?_) (fun c15 => ?_)
  · have h := h.1 c15
    refine x_iconst (v := (-1)) C (by decide) dX1_chanceOf_53 ?_
    exact x_iret C hr dX1_chanceOf_54 ⟨_, rfl, h⟩
  · have h := h.2 c15
    refine x_iload_n C rfl 3 rfl dX1_chanceOf_33 ?_
    refine x_iconst (v := 0) C (by decide) dX1_chanceOf_34 ?_
    refine x_bipush (v := 100) C (by decide) dX1_chanceOf_35 ?_
    refine x_callSN (dC := G11_within_dep) (as := [.int p2, .int 0, .int 100]) (st := []) C rX kX (Nat.le_trans (Nat.le_of_ble_eq_true rfl) hd) (Nat.le_of_ble_eq_true rfl) tw_2_196 tw_5_239 tc_2_197 tw_1_1 hyX11 hnX11_within rfl (Nat.le_of_ble_eq_true rfl) dX1_chanceOf_37 (G11_within_met C.2.2.2.2.2.2.2.1 (Nat.le_refl _)  h) (fun r0 μ16 hq => ?_)
    obtain ⟨r17, rfl, h⟩ := hq
    refine x_st [.int r17] rfl ?_
    refine x_if_eq (tgt := 53) C dX1_chanceOf_40 (by decide) (fun c18 => ?_) (fun c18 => ?_)
    · have h := h.1 c18
      refine x_iconst (v := (-1)) C (by decide) dX1_chanceOf_53 ?_
      exact x_iret C hr dX1_chanceOf_54 ⟨_, rfl, h⟩
    · have h := h.2 c18
      refine x_iload_n C rfl 4 rfl dX1_chanceOf_43 ?_
      refine x_iconst (v := 0) C (by decide) dX1_chanceOf_44 ?_
      refine x_bipush (v := 100) C (by decide) dX1_chanceOf_45 ?_
      refine x_callSN (dC := G11_within_dep) (as := [.int p3, .int 0, .int 100]) (st := []) C rX kX (Nat.le_trans (Nat.le_of_ble_eq_true rfl) hd) (Nat.le_of_ble_eq_true rfl) tw_2_196 tw_5_239 tc_2_197 tw_1_1 hyX11 hnX11_within rfl (Nat.le_of_ble_eq_true rfl) dX1_chanceOf_47 (G11_within_met C.2.2.2.2.2.2.2.1 (Nat.le_refl _)  h) (fun r0 μ19 hq => ?_)
      obtain ⟨r20, rfl, h⟩ := hq
      refine x_st [.int r20] rfl ?_
      refine x_if_ne (tgt := 55) C dX1_chanceOf_50 (by decide) (fun c21 => ?_) (fun c21 => ?_)
      · have h := h.1 c21
        refine x_aload_n C rfl 1 rfl dX1_chanceOf_55 ?_
        refine x_iload_n C rfl 2 rfl dX1_chanceOf_56 ?_
        refine x_iload_n C rfl 3 rfl dX1_chanceOf_57 ?_
        refine x_iload_n C rfl 4 rfl dX1_chanceOf_58 ?_
        refine x_callV (dC := G1_fill_dep) (as := [.int p1, .int p2, .int p3]) (st := []) C rX kX (Nat.le_trans (Nat.le_of_ble_eq_true rfl) hd) (Nat.le_of_ble_eq_true rfl) ob249.1 ob249.2 (Nat.le_of_ble_eq_true rfl) rfl ts_7_10 tw_6_2 tw_6_0 tc_6_3 tw_1_12 hyX1 hnX1_fill rfl (Nat.le_of_ble_eq_true rfl) dX1_chanceOf_59 (G1_fill_met C.2.2.2.2.2.2.2.1 (Nat.le_refl _)  h) (fun r0 μ22 hq => ?_)
        obtain ⟨rfl, h⟩ := hq
        refine x_st [] rfl ?_
        refine x_aload_n C rfl 1 rfl dX1_chanceOf_62 ?_
        refine x_iload_n C rfl 2 rfl dX1_chanceOf_63 ?_
        refine x_iload C 5 rfl dX1_chanceOf_64 ?_
        refine x_aload_n C rfl 1 rfl dX1_chanceOf_66 ?_
        refine x_getR (r := 250) C (j := 1) ob249.1 ob249.2 (Nat.le_of_ble_eq_true rfl) (Nat.le_of_ble_eq_true rfl) (fun _ _ _ => rfl) r_249_1 tw_2_148 dX1_chanceOf_67 ?_
        refine x_callV (dC := G1_chance_dep) (as := [.int p1, .int p4, .ref 250]) (st := []) C rX kX (Nat.le_trans (Nat.le_of_ble_eq_true rfl) hd) (Nat.le_of_ble_eq_true rfl) ob249.1 ob249.2 (Nat.le_of_ble_eq_true rfl) rfl ts_7_12 tw_6_16 tw_6_14 tc_6_17 tw_1_12 hyX1 hnX1_chance rfl (Nat.le_of_ble_eq_true rfl) dX1_chanceOf_70 (G1_chance_met C.2.2.2.2.2.2.2.1 (Nat.le_refl _) ob250 h) (fun r0 μ23 hq => ?_)
        obtain ⟨r24, rfl, h⟩ := hq
        refine x_st [.int r24] rfl ?_
        exact x_iret C hr dX1_chanceOf_73 ⟨_, rfl, h⟩
      · have h := h.2 c21
        refine x_iconst (v := (-1)) C (by decide) dX1_chanceOf_53 ?_
        exact x_iret C hr dX1_chanceOf_54 ⟨_, rfl, h⟩
set_option maxHeartbeats 4000000 in
set_option maxRecDepth 100000 in
theorem G1_chanceOf_J25_ok {p : Program} {e : Env} {s : State} {m : MethodId} {args : Array Value} {below : List Frame} {meth : Method} {c : Code} {l : Launch} {φ : Nat → Nat} {tc : Nat → ClassId} {D : va_G} {s0 : State} {dR : Nat} (C : CX p s m args meth c φ tc D (AX φ) s0 cX1_chanceOf RX1 6) (hd : G1_chanceOf_dep ≤ dR) (hr : meth.sig.returnType = (some .int))   {p1 : Int32} {p2 : Int32} {p3 : Int32} {p4 : Int32} {Q : Int32 → MM → Prop}  {μ : MM}    (h : G1_chanceOf_J25 p1 p2 p3 p4 μ Q) : WX p l e (rmX dR) s m args below meth c φ tc D (AX φ) 6 0 0 (MQ below (QX φ tc D (QI Q)) args s 0 0 (AX φ)) 25 [(0, .ref 249), (1, .int p1), (2, .int p2), (3, .int p3), (4, .int p4)] [] μ := by
  unfold G1_chanceOf_J25 at h
  refine x_iconst (v := 0) C (by decide) dX1_chanceOf_25 ?_
  exact G1_chanceOf_J26_ok C hd hr  h
set_option maxHeartbeats 4000000 in
set_option maxRecDepth 100000 in
theorem G1_chanceOf_met {l : Launch} {φ : Nat → Nat} {tc : Nat → ClassId} {D : va_G} {s0 : State} (hG : GX φ tc D s0) {dR : Nat} (hd : G1_chanceOf_dep ≤ dR) {v1 : Int32} {v2 : Int32} {v3 : Int32} {v4 : Int32} {μ : MM} {Q : Int32 → MM → Prop}  (h : G1_chanceOf v1 v2 v3 v4 μ Q) : MX l φ tc D s0 dR yX1_chanceOf cX1_chanceOf 6 (some .int) [.ref 249, .int v1, .int v2, .int v3, .int v4] μ (QI Q) := by
  refine MX.of (own := RX1) hG plX1 rfl (Nat.le_of_ble_eq_true rfl) (fun p e s m args below meth c C hr => ?_)
  refine x_sub [(0, .ref 249), (1, .int v1), (2, .int v2), (3, .int v3), (4, .int v4)] [0, 1, 2, 3, 4] rfl ?_
  unfold G1_chanceOf at h
  refine x_iload_n C rfl 1 rfl dX1_chanceOf_0 ?_
  refine x_iconst (v := 1) C (by decide) dX1_chanceOf_1 ?_
  refine x_bipush (v := 16) C (by decide) dX1_chanceOf_2 ?_
  refine x_callSN (dC := G11_within_dep) (as := [.int v1, .int 1, .int 16]) (st := []) C rX kX (Nat.le_trans (Nat.le_of_ble_eq_true rfl) hd) (Nat.le_of_ble_eq_true rfl) tw_2_196 tw_5_239 tc_2_197 tw_1_1 hyX11 hnX11_within rfl (Nat.le_of_ble_eq_true rfl) dX1_chanceOf_4 (G11_within_met C.2.2.2.2.2.2.2.1 (Nat.le_refl _)  h) (fun r0 μ12 hq => ?_)
  obtain ⟨r13, rfl, h⟩ := hq
  refine x_st [.int r13] rfl ?_
  refine x_if_eq (tgt := 25) C dX1_chanceOf_7 (by decide) (fun c14 => ?_) (fun c14 => ?_)
  · have h := h.1 c14
    exact G1_chanceOf_J25_ok C hd hr  h
  · have h := h.2 c14
    refine x_iload C 4 rfl dX1_chanceOf_10 ?_
    refine x_iconst (v := 1) C (by decide) dX1_chanceOf_12 ?_
    refine x_bipush (v := 16) C (by decide) dX1_chanceOf_13 ?_
    refine x_callSN (dC := G11_within_dep) (as := [.int v4, .int 1, .int 16]) (st := []) C rX kX (Nat.le_trans (Nat.le_of_ble_eq_true rfl) hd) (Nat.le_of_ble_eq_true rfl) tw_2_196 tw_5_239 tc_2_197 tw_1_1 hyX11 hnX11_within rfl (Nat.le_of_ble_eq_true rfl) dX1_chanceOf_15 (G11_within_met C.2.2.2.2.2.2.2.1 (Nat.le_refl _)  h) (fun r0 μ25 hq => ?_)
    obtain ⟨r26, rfl, h⟩ := hq
    refine x_st [.int r26] rfl ?_
    refine x_if_eq (tgt := 25) C dX1_chanceOf_18 (by decide) (fun c27 => ?_) (fun c27 => ?_)
    · have h := h.1 c27
      exact G1_chanceOf_J25_ok C hd hr  h
    · have h := h.2 c27
      refine x_iconst (v := 1) C (by decide) dX1_chanceOf_21 ?_
      refine x_goto (tgt := 26) C dX1_chanceOf_22 (by decide) ?_
      exact G1_chanceOf_J26_ok C hd hr  h
set_option maxHeartbeats 4000000 in
set_option maxRecDepth 100000 in
theorem G11_shows_met {l : Launch} {φ : Nat → Nat} {tc : Nat → ClassId} {D : va_G} {s0 : State} (hG : GX φ tc D s0) {dR : Nat} (hd : G11_shows_dep ≤ dR) {v1 : Int32} {v2 : Int32} {v3 : Int32} {v4 : Int32} {μ : MM} {Q : Int32 → MM → Prop}  (h : G11_shows v1 v2 v3 v4 μ Q) : MX l φ tc D s0 dR yX11_shows cX11_shows 5 (some .int) [.ref 0, .int v1, .int v2, .int v3, .int v4] μ (QI Q) := by
  refine MX.of (own := RX11) hG plX11 rfl (Nat.le_of_ble_eq_true rfl) (fun p e s m args below meth c C hr => ?_)
  refine x_sub [(0, .ref 0), (1, .int v1), (2, .int v2), (3, .int v3), (4, .int v4)] [0, 1, 2, 3, 4] rfl ?_
  unfold G11_shows at h
  refine x_aload_n C rfl 0 rfl dX11_shows_0 ?_
  refine x_getR (r := 249) C (j := 6) ob0.1 ob0.2 (Nat.le_of_ble_eq_true rfl) (Nat.le_of_ble_eq_true rfl) (fun _ _ _ => rfl) r_0_6 tw_2_169 dX11_shows_1 ?_
  refine x_iload_n C rfl 1 rfl dX11_shows_4 ?_
  refine x_iload_n C rfl 2 rfl dX11_shows_5 ?_
  refine x_iload_n C rfl 3 rfl dX11_shows_6 ?_
  refine x_iload C 4 rfl dX11_shows_7 ?_
  refine x_callVN (dC := G1_chanceOf_dep) (as := [.int v1, .int v2, .int v3, .int v4]) (st := []) C rX kX (Nat.le_trans (Nat.le_of_ble_eq_true rfl) hd) (Nat.le_of_ble_eq_true rfl) ob249.1 ob249.2 (Nat.le_of_ble_eq_true rfl) rfl ts_7_9 tw_5_237 tw_5_235 tc_5_238 tw_1_12 hyX1 hnX1_chanceOf rfl (Nat.le_of_ble_eq_true rfl) dX11_shows_9 (G1_chanceOf_met C.2.2.2.2.2.2.2.1 (Nat.le_refl _)  h) (fun r0 μ3 hq => ?_)
  obtain ⟨r4, rfl, h⟩ := hq
  refine x_st [.int r4] rfl ?_
  exact x_iret C hr dX11_shows_12 ⟨_, rfl, h⟩
set_option maxHeartbeats 4000000 in
set_option maxRecDepth 100000 in
theorem G1_tellLeast_J148_ok {p : Program} {e : Env} {s : State} {m : MethodId} {args : Array Value} {below : List Frame} {meth : Method} {c : Code} {l : Launch} {φ : Nat → Nat} {tc : Nat → ClassId} {D : va_G} {s0 : State} {dR : Nat} (C : CX p s m args meth c φ tc D (AX φ) s0 cX1_tellLeast RX1 9) (hd : G1_tellLeast_dep ≤ dR) (hr : meth.sig.returnType = (some .int))   {p1 : Int32} {p2 : Int32} {p3 : Int32} {p4 : Int32} {p6 : Int32} {p7 : Int32} {p8 : Int32} {Q : Int32 → MM → Prop} {K58 : Int32 × MM → Prop} {K76 : Int32 × MM → Prop} {μ : MM}   (hK58 : ∀ (z6 : Int32) (zμ : MM), K58 (z6, zμ) → WX p l e (rmX dR) s m args below meth c φ tc D (AX φ) 9 0 0 (MQ below (QX φ tc D (QI Q)) args s 0 0 (AX φ)) 58 [(0, .ref 249), (1, .int p1), (2, .int p2), (3, .int p3), (4, .int p4), (6, .int z6)] [] zμ) (hK76 : ∀ (z7 : Int32) (zμ : MM), K76 (z7, zμ) → WX p l e (rmX dR) s m args below meth c φ tc D (AX φ) 9 0 0 (MQ below (QX φ tc D (QI Q)) args s 0 0 (AX φ)) 76 [(0, .ref 249), (1, .int p1), (2, .int p2), (3, .int p3), (4, .int p4), (6, .int p6), (7, .int z7)] [] zμ) (h : G1_tellLeast_J148 p1 p2 p3 p4 p6 p7 p8 μ K58 K76 Q) : WX p l e (rmX dR) s m args below meth c φ tc D (AX φ) 9 0 0 (MQ below (QX φ tc D (QI Q)) args s 0 0 (AX φ)) 148 [(0, .ref 249), (1, .int p1), (2, .int p2), (3, .int p3), (4, .int p4), (6, .int p6), (7, .int p7), (8, .int p8)] [] μ := by
  unfold G1_tellLeast_J148 at h
  refine x_iload C 7 rfl dX1_tellLeast_148 ?_
  refine x_if_eq (tgt := 156) C dX1_tellLeast_150 (by decide) (fun c33 => ?_) (fun c33 => ?_)
  · have h := h.1 c33
    refine x_iinc (v := (p7 + 1)) C [(7, .int (p7 + 1)), (0, .ref 249), (1, .int p1), (2, .int p2), (3, .int p3), (4, .int p4), (6, .int p6), (8, .int p8)] 6 rfl (congrArg (fun z => p7 + z) (by decide : Int32.ofInt (1) = 1)) (Nat.le_of_ble_eq_true rfl) rfl dX1_tellLeast_156 ?_
    refine x_goto (tgt := 76) C dX1_tellLeast_159 (by decide) ?_
    refine x_sub [(0, .ref 249), (1, .int p1), (2, .int p2), (3, .int p3), (4, .int p4), (6, .int p6), (7, .int (p7 + 1))] [1, 2, 3, 4, 5, 6, 0] rfl ?_
    exact hK76 _ _ h
  · have h := h.2 c33
    refine x_goto (tgt := 162) C dX1_tellLeast_153 (by decide) ?_
    refine x_iinc (v := (p6 + 1)) C [(6, .int (p6 + 1)), (0, .ref 249), (1, .int p1), (2, .int p2), (3, .int p3), (4, .int p4), (7, .int p7), (8, .int p8)] 5 rfl (congrArg (fun z => p6 + z) (by decide : Int32.ofInt (1) = 1)) (Nat.le_of_ble_eq_true rfl) rfl dX1_tellLeast_162 ?_
    refine x_goto (tgt := 58) C dX1_tellLeast_165 (by decide) ?_
    refine x_sub [(0, .ref 249), (1, .int p1), (2, .int p2), (3, .int p3), (4, .int p4), (6, .int (p6 + 1))] [1, 2, 3, 4, 5, 0] rfl ?_
    exact hK58 _ _ h
set_option maxHeartbeats 4000000 in
set_option maxRecDepth 100000 in
theorem G1_tellLeast_J105_ok {p : Program} {e : Env} {s : State} {m : MethodId} {args : Array Value} {below : List Frame} {meth : Method} {c : Code} {l : Launch} {φ : Nat → Nat} {tc : Nat → ClassId} {D : va_G} {s0 : State} {dR : Nat} (C : CX p s m args meth c φ tc D (AX φ) s0 cX1_tellLeast RX1 9) (hd : G1_tellLeast_dep ≤ dR) (hr : meth.sig.returnType = (some .int))   {p1 : Int32} {p2 : Int32} {p3 : Int32} {p4 : Int32} {p6 : Int32} {p7 : Int32} {q0 : Int32} {Q : Int32 → MM → Prop} {K58 : Int32 × MM → Prop} {K76 : Int32 × MM → Prop} {μ : MM}   (hK58 : ∀ (z6 : Int32) (zμ : MM), K58 (z6, zμ) → WX p l e (rmX dR) s m args below meth c φ tc D (AX φ) 9 0 0 (MQ below (QX φ tc D (QI Q)) args s 0 0 (AX φ)) 58 [(0, .ref 249), (1, .int p1), (2, .int p2), (3, .int p3), (4, .int p4), (6, .int z6)] [] zμ) (hK76 : ∀ (z7 : Int32) (zμ : MM), K76 (z7, zμ) → WX p l e (rmX dR) s m args below meth c φ tc D (AX φ) 9 0 0 (MQ below (QX φ tc D (QI Q)) args s 0 0 (AX φ)) 76 [(0, .ref 249), (1, .int p1), (2, .int p2), (3, .int p3), (4, .int p4), (6, .int p6), (7, .int z7)] [] zμ) (h : G1_tellLeast_J105 p1 p2 p3 p4 p6 p7 q0 μ K58 K76 Q) : WX p l e (rmX dR) s m args below meth c φ tc D (AX φ) 9 0 0 (MQ below (QX φ tc D (QI Q)) args s 0 0 (AX φ)) 105 [(0, .ref 249), (1, .int p1), (2, .int p2), (3, .int p3), (4, .int p4), (6, .int p6), (7, .int p7)] [.int q0] μ := by
  unfold G1_tellLeast_J105 at h
  refine x_istore C [(8, .int q0), (0, .ref 249), (1, .int p1), (2, .int p2), (3, .int p3), (4, .int p4), (6, .int p6), (7, .int p7)] (Nat.le_of_ble_eq_true rfl) rfl dX1_tellLeast_105 ?_
  refine x_iload C 0 rfl dX1_tellLeast_107 ?_
  refine x_if_eq (tgt := 148) C dX1_tellLeast_109 (by decide) (fun c32 => ?_) (fun c32 => ?_)
  · have h := h.1 c32
    refine x_sub [(0, .ref 249), (1, .int p1), (2, .int p2), (3, .int p3), (4, .int p4), (6, .int p6), (7, .int p7), (8, .int q0)] [1, 2, 3, 4, 5, 6, 7, 0] rfl ?_
    exact G1_tellLeast_J148_ok C hd hr hK58 hK76 h
  · have h := h.2 c32
    refine x_aload_n C rfl 1 rfl dX1_tellLeast_112 ?_
    refine x_iload C 6 rfl dX1_tellLeast_113 ?_
    refine x_iload C 7 rfl dX1_tellLeast_115 ?_
    refine x_aload_n C rfl 1 rfl dX1_tellLeast_117 ?_
    refine x_getR (r := 250) C (j := 1) ob249.1 ob249.2 (Nat.le_of_ble_eq_true rfl) (Nat.le_of_ble_eq_true rfl) (fun _ _ _ => rfl) r_249_1 tw_2_148 dX1_tellLeast_118 ?_
    refine x_callV (dC := G1_chance_dep) (as := [.int p6, .int p7, .ref 250]) (st := []) C rX kX (Nat.le_trans (Nat.le_of_ble_eq_true rfl) hd) (Nat.le_of_ble_eq_true rfl) ob249.1 ob249.2 (Nat.le_of_ble_eq_true rfl) rfl ts_7_12 tw_6_16 tw_6_14 tc_6_17 tw_1_12 hyX1 hnX1_chance rfl (Nat.le_of_ble_eq_true rfl) dX1_tellLeast_121 (G1_chance_met C.2.2.2.2.2.2.2.1 (Nat.le_refl _) ob250 h) (fun r0 μ34 hq => ?_)
    obtain ⟨r35, rfl, h⟩ := hq
    refine x_st [.int r35] rfl ?_
    refine x_iload_n C rfl 4 rfl dX1_tellLeast_124 ?_
    refine x_icmp_lt (tgt := 148) C dX1_tellLeast_125 (by decide) (fun c36 => ?_) (fun c36 => ?_)
    · have h := h.1 c36
      refine x_sub [(0, .ref 249), (1, .int p1), (2, .int p2), (3, .int p3), (4, .int p4), (6, .int p6), (7, .int p7), (8, .int q0)] [1, 2, 3, 4, 5, 6, 7, 0] rfl ?_
      exact G1_tellLeast_J148_ok C hd hr hK58 hK76 h
    · have h := h.2 c36
      refine x_aload_n C rfl 1 rfl dX1_tellLeast_128 ?_
      refine x_getR (r := 151) C (j := 0) ob249.1 ob249.2 (Nat.le_of_ble_eq_true rfl) (Nat.le_of_ble_eq_true rfl) (fun _ _ _ => rfl) r_249_0 tw_2_147 dX1_tellLeast_129 ?_
      refine x_callVN (dC := G7_clear_dep) (as := []) (st := []) C rX kX (Nat.le_trans (Nat.le_of_ble_eq_true rfl) hd) (Nat.le_of_ble_eq_true rfl) ob151.1 ob151.2 (Nat.le_of_ble_eq_true rfl) rfl ts_3_8 tw_4_48 tw_6_41 tc_4_49 tw_1_5 hyX7 hnX7_clear rfl (Nat.le_of_ble_eq_true rfl) dX1_tellLeast_132 (G7_clear_met C.2.2.2.2.2.2.2.1 (Nat.le_refl _)  h) (fun r0 μ37 hq => ?_)
      obtain ⟨rfl, h⟩ := hq
      refine x_st [] rfl ?_
      refine x_aload_n C rfl 1 rfl dX1_tellLeast_135 ?_
      refine x_getR (r := 151) C (j := 0) ob249.1 ob249.2 (Nat.le_of_ble_eq_true rfl) (Nat.le_of_ble_eq_true rfl) (fun _ _ _ => rfl) r_249_0 tw_2_147 dX1_tellLeast_136 ?_
      refine x_iload C 7 rfl dX1_tellLeast_139 ?_
      refine x_i2l C dX1_tellLeast_141 ?_
      refine x_callVN (dC := G7_add_dep) (as := [.long (p7.toInt64)]) (st := []) C rX kX (Nat.le_trans (Nat.le_of_ble_eq_true rfl) hd) (Nat.le_of_ble_eq_true rfl) ob151.1 ob151.2 (Nat.le_of_ble_eq_true rfl) rfl ts_3_11 tw_4_63 tw_6_42 tc_4_64 tw_1_5 hyX7 hnX7_add rfl (Nat.le_of_ble_eq_true rfl) dX1_tellLeast_142 (G7_add_met C.2.2.2.2.2.2.2.1 (Nat.le_refl _)  h) (fun r0 μ38 hq => ?_)
      obtain ⟨rfl, h⟩ := hq
      refine x_st [] rfl ?_
      refine x_iload C 6 rfl dX1_tellLeast_145 ?_
      exact x_iret C hr dX1_tellLeast_147 ⟨_, rfl, h⟩
set_option maxHeartbeats 4000000 in
set_option maxRecDepth 100000 in
theorem G1_tellLeast_L76_b {p : Program} {e : Env} {s : State} {m : MethodId} {args : Array Value} {below : List Frame} {meth : Method} {c : Code} {l : Launch} {φ : Nat → Nat} {tc : Nat → ClassId} {D : va_G} {s0 : State} {dR : Nat} (C : CX p s m args meth c φ tc D (AX φ) s0 cX1_tellLeast RX1 9) (hd : G1_tellLeast_dep ≤ dR) (hr : meth.sig.returnType = (some .int))  {p1 : Int32} {p2 : Int32} {p3 : Int32} {p4 : Int32} {p6 : Int32} {Q : Int32 → MM → Prop} {K58 : Int32 × MM → Prop} {K76 : Int32 × MM → Prop} {x : Int32 × MM}   (hK58 : ∀ (z6 : Int32) (zμ : MM), K58 (z6, zμ) → WX p l e (rmX dR) s m args below meth c φ tc D (AX φ) 9 0 0 (MQ below (QX φ tc D (QI Q)) args s 0 0 (AX φ)) 58 [(0, .ref 249), (1, .int p1), (2, .int p2), (3, .int p3), (4, .int p4), (6, .int z6)] [] zμ) (hK76 : ∀ (z7 : Int32) (zμ : MM), K76 (z7, zμ) → WX p l e (rmX dR) s m args below meth c φ tc D (AX φ) 9 0 0 (MQ below (QX φ tc D (QI Q)) args s 0 0 (AX φ)) 76 [(0, .ref 249), (1, .int p1), (2, .int p2), (3, .int p3), (4, .int p4), (6, .int p6), (7, .int z7)] [] zμ) (h : G1_tellLeast_L76 p1 p2 p3 p4 p6 K58 Q K76 x) : WX p l e (rmX dR) s m args below meth c φ tc D (AX φ) 9 0 0 (MQ below (QX φ tc D (QI Q)) args s 0 0 (AX φ)) 76 [(0, .ref 249), (1, .int p1), (2, .int p2), (3, .int p3), (4, .int p4), (6, .int p6), (7, .int x.1)] [] x.2 := by
  unfold G1_tellLeast_L76 at h
  refine x_iload C 6 rfl dX1_tellLeast_76 ?_
  refine x_iload C 5 rfl dX1_tellLeast_78 ?_
  refine x_icmp_gt (tgt := 162) C dX1_tellLeast_80 (by decide) (fun c28 => ?_) (fun c28 => ?_)
  · have h := h.1 c28
    refine x_iinc (v := (p6 + 1)) C [(6, .int (p6 + 1)), (0, .ref 249), (1, .int p1), (2, .int p2), (3, .int p3), (4, .int p4), (7, .int x.1)] 5 rfl (congrArg (fun z => p6 + z) (by decide : Int32.ofInt (1) = 1)) (Nat.le_of_ble_eq_true rfl) rfl dX1_tellLeast_162 ?_
    refine x_goto (tgt := 58) C dX1_tellLeast_165 (by decide) ?_
    refine x_sub [(0, .ref 249), (1, .int p1), (2, .int p2), (3, .int p3), (4, .int p4), (6, .int (p6 + 1))] [1, 2, 3, 4, 5, 0] rfl ?_
    exact hK58 _ _ h
  · have h := h.2 c28
    refine x_aload_n C rfl 0 rfl dX1_tellLeast_83 ?_
    refine x_iload C 5 rfl dX1_tellLeast_84 ?_
    refine x_iload C 6 rfl dX1_tellLeast_86 ?_
    refine x_aload_n C rfl 0 rfl dX1_tellLeast_88 ?_
    refine x_getR (r := 251) C (j := 2) ob249.1 ob249.2 (Nat.le_of_ble_eq_true rfl) (Nat.le_of_ble_eq_true rfl) (fun _ _ _ => rfl) r_249_2 tw_2_149 dX1_tellLeast_89 ?_
    refine x_callV (dC := G1_chance_dep) (as := [.int p6, .int x.1, .ref 251]) (st := []) C rX kX (Nat.le_trans (Nat.le_of_ble_eq_true rfl) hd) (Nat.le_of_ble_eq_true rfl) ob249.1 ob249.2 (Nat.le_of_ble_eq_true rfl) rfl ts_7_12 tw_6_16 tw_6_14 tc_6_17 tw_1_12 hyX1 hnX1_chance rfl (Nat.le_of_ble_eq_true rfl) dX1_tellLeast_92 (G1_chance_met C.2.2.2.2.2.2.2.1 (Nat.le_refl _) ob251 h) (fun r0 μ29 hq => ?_)
    obtain ⟨r30, rfl, h⟩ := hq
    refine x_st [.int r30] rfl ?_
    refine x_iload C 4 rfl dX1_tellLeast_95 ?_
    refine x_icmp_gt (tgt := 104) C dX1_tellLeast_97 (by decide) (fun c31 => ?_) (fun c31 => ?_)
    · have h := h.1 c31
      refine x_iconst (v := 0) C (by decide) dX1_tellLeast_104 ?_
      exact G1_tellLeast_J105_ok C hd hr hK58 hK76 h
    · have h := h.2 c31
      refine x_iconst (v := 1) C (by decide) dX1_tellLeast_100 ?_
      refine x_goto (tgt := 105) C dX1_tellLeast_101 (by decide) ?_
      exact G1_tellLeast_J105_ok C hd hr hK58 hK76 h
theorem G1_tellLeast_L76_ok {p : Program} {e : Env} {s : State} {m : MethodId} {args : Array Value} {below : List Frame} {meth : Method} {c : Code} {l : Launch} {φ : Nat → Nat} {tc : Nat → ClassId} {D : va_G} {s0 : State} {dR : Nat} (C : CX p s m args meth c φ tc D (AX φ) s0 cX1_tellLeast RX1 9) (hd : G1_tellLeast_dep ≤ dR) (hr : meth.sig.returnType = (some .int))  {p1 : Int32} {p2 : Int32} {p3 : Int32} {p4 : Int32} {p6 : Int32} {Q : Int32 → MM → Prop} {K58 : Int32 × MM → Prop} {x : Int32 × MM}   (hK58 : ∀ (z6 : Int32) (zμ : MM), K58 (z6, zμ) → WX p l e (rmX dR) s m args below meth c φ tc D (AX φ) 9 0 0 (MQ below (QX φ tc D (QI Q)) args s 0 0 (AX φ)) 58 [(0, .ref 249), (1, .int p1), (2, .int p2), (3, .int p3), (4, .int p4), (6, .int z6)] [] zμ) (h : Lp (G1_tellLeast_L76 p1 p2 p3 p4 p6 K58 Q) x) : WX p l e (rmX dR) s m args below meth c φ tc D (AX φ) 9 0 0 (MQ below (QX φ tc D (QI Q)) args s 0 0 (AX φ)) 76 [(0, .ref 249), (1, .int p1), (2, .int p2), (3, .int p3), (4, .int p4), (6, .int p6), (7, .int x.1)] [] x.2 := by
  obtain ⟨n, h⟩ := h
  induction n generalizing x with
  | zero => exact h.elim
  | succ n ih => exact G1_tellLeast_L76_b C hd hr  hK58 (fun z7 zμ hz => by have q := ih hz; exact q) h
set_option maxHeartbeats 4000000 in
set_option maxRecDepth 100000 in
theorem G1_tellLeast_L58_b {p : Program} {e : Env} {s : State} {m : MethodId} {args : Array Value} {below : List Frame} {meth : Method} {c : Code} {l : Launch} {φ : Nat → Nat} {tc : Nat → ClassId} {D : va_G} {s0 : State} {dR : Nat} (C : CX p s m args meth c φ tc D (AX φ) s0 cX1_tellLeast RX1 9) (hd : G1_tellLeast_dep ≤ dR) (hr : meth.sig.returnType = (some .int))  {p1 : Int32} {p2 : Int32} {p3 : Int32} {p4 : Int32} {Q : Int32 → MM → Prop} {K58 : Int32 × MM → Prop} {x : Int32 × MM}   (hK58 : ∀ (z6 : Int32) (zμ : MM), K58 (z6, zμ) → WX p l e (rmX dR) s m args below meth c φ tc D (AX φ) 9 0 0 (MQ below (QX φ tc D (QI Q)) args s 0 0 (AX φ)) 58 [(0, .ref 249), (1, .int p1), (2, .int p2), (3, .int p3), (4, .int p4), (6, .int z6)] [] zμ) (h : G1_tellLeast_L58 p1 p2 p3 p4 Q K58 x) : WX p l e (rmX dR) s m args below meth c φ tc D (AX φ) 9 0 0 (MQ below (QX φ tc D (QI Q)) args s 0 0 (AX φ)) 58 [(0, .ref 249), (1, .int p1), (2, .int p2), (3, .int p3), (4, .int p4), (6, .int x.1)] [] x.2 := by
  unfold G1_tellLeast_L58 at h
  refine x_iload C 5 rfl dX1_tellLeast_58 ?_
  refine x_bipush (v := 16) C (by decide) dX1_tellLeast_60 ?_
  refine x_icmp_gt (tgt := 168) C dX1_tellLeast_62 (by decide) (fun c26 => ?_) (fun c26 => ?_)
  · have h := h.1 c26
    refine x_bipush (v := (-2)) C (by decide) dX1_tellLeast_168 ?_
    exact x_iret C hr dX1_tellLeast_170 ⟨_, rfl, h⟩
  · have h := h.2 c26
    refine x_aload_n C rfl 0 rfl dX1_tellLeast_65 ?_
    refine x_iload C 5 rfl dX1_tellLeast_66 ?_
    refine x_iload_n C rfl 1 rfl dX1_tellLeast_68 ?_
    refine x_iload_n C rfl 2 rfl dX1_tellLeast_69 ?_
    refine x_callV (dC := G1_fill_dep) (as := [.int x.1, .int p1, .int p2]) (st := []) C rX kX (Nat.le_trans (Nat.le_of_ble_eq_true rfl) hd) (Nat.le_of_ble_eq_true rfl) ob249.1 ob249.2 (Nat.le_of_ble_eq_true rfl) rfl ts_7_10 tw_6_2 tw_6_0 tc_6_3 tw_1_12 hyX1 hnX1_fill rfl (Nat.le_of_ble_eq_true rfl) dX1_tellLeast_70 (G1_fill_met C.2.2.2.2.2.2.2.1 (Nat.le_refl _)  h) (fun r0 μ27 hq => ?_)
    obtain ⟨rfl, h⟩ := hq
    refine x_st [] rfl ?_
    refine x_iconst (v := 1) C (by decide) dX1_tellLeast_73 ?_
    refine x_istore C [(7, .int 1), (0, .ref 249), (1, .int p1), (2, .int p2), (3, .int p3), (4, .int p4), (6, .int x.1)] (Nat.le_of_ble_eq_true rfl) rfl dX1_tellLeast_74 ?_
    refine x_sub [(0, .ref 249), (1, .int p1), (2, .int p2), (3, .int p3), (4, .int p4), (6, .int x.1), (7, .int 1)] [1, 2, 3, 4, 5, 6, 0] rfl ?_
    exact G1_tellLeast_L76_ok C hd hr hK58 h
theorem G1_tellLeast_L58_ok {p : Program} {e : Env} {s : State} {m : MethodId} {args : Array Value} {below : List Frame} {meth : Method} {c : Code} {l : Launch} {φ : Nat → Nat} {tc : Nat → ClassId} {D : va_G} {s0 : State} {dR : Nat} (C : CX p s m args meth c φ tc D (AX φ) s0 cX1_tellLeast RX1 9) (hd : G1_tellLeast_dep ≤ dR) (hr : meth.sig.returnType = (some .int))  {p1 : Int32} {p2 : Int32} {p3 : Int32} {p4 : Int32} {Q : Int32 → MM → Prop}  {x : Int32 × MM}    (h : Lp (G1_tellLeast_L58 p1 p2 p3 p4 Q) x) : WX p l e (rmX dR) s m args below meth c φ tc D (AX φ) 9 0 0 (MQ below (QX φ tc D (QI Q)) args s 0 0 (AX φ)) 58 [(0, .ref 249), (1, .int p1), (2, .int p2), (3, .int p3), (4, .int p4), (6, .int x.1)] [] x.2 := by
  obtain ⟨n, h⟩ := h
  induction n generalizing x with
  | zero => exact h.elim
  | succ n ih => exact G1_tellLeast_L58_b C hd hr   (fun z6 zμ hz => by have q := ih hz; exact q) h
set_option maxHeartbeats 4000000 in
set_option maxRecDepth 100000 in
theorem G1_tellLeast_J26_ok {p : Program} {e : Env} {s : State} {m : MethodId} {args : Array Value} {below : List Frame} {meth : Method} {c : Code} {l : Launch} {φ : Nat → Nat} {tc : Nat → ClassId} {D : va_G} {s0 : State} {dR : Nat} (C : CX p s m args meth c φ tc D (AX φ) s0 cX1_tellLeast RX1 9) (hd : G1_tellLeast_dep ≤ dR) (hr : meth.sig.returnType = (some .int))   {p1 : Int32} {p2 : Int32} {p3 : Int32} {p4 : Int32} {q0 : Int32} {Q : Int32 → MM → Prop}  {μ : MM}    (h : G1_tellLeast_J26 p1 p2 p3 p4 q0 μ Q) : WX p l e (rmX dR) s m args below meth c φ tc D (AX φ) 9 0 0 (MQ below (QX φ tc D (QI Q)) args s 0 0 (AX φ)) 26 [(0, .ref 249), (1, .int p1), (2, .int p2), (3, .int p3), (4, .int p4)] [.int q0] μ := by
  unfold G1_tellLeast_J26 at h
  refine x_istore C [(5, .int q0), (0, .ref 249), (1, .int p1), (2, .int p2), (3, .int p3), (4, .int p4)] (Nat.le_of_ble_eq_true rfl) rfl dX1_tellLeast_26 ?_
  refine x_iload C 0 rfl dX1_tellLeast_28 ?_
  refine x_if_eq (tgt := 53) C dX1_tellLeast_30 (by decide) (fun c19 => ?_) (fun c19 => ?_)
  · have h := h.1 c19
    refine x_iconst (v := (-1)) C (by decide) dX1_tellLeast_53 ?_
    exact x_iret C hr dX1_tellLeast_54 ⟨_, rfl, h⟩
  · have h := h.2 c19
    refine x_iload_n C rfl 2 rfl dX1_tellLeast_33 ?_
    refine x_iconst (v := 0) C (by decide) dX1_tellLeast_34 ?_
    refine x_bipush (v := 100) C (by decide) dX1_tellLeast_35 ?_
    refine x_callSN (dC := G11_within_dep) (as := [.int p1, .int 0, .int 100]) (st := []) C rX kX (Nat.le_trans (Nat.le_of_ble_eq_true rfl) hd) (Nat.le_of_ble_eq_true rfl) tw_2_196 tw_5_239 tc_2_197 tw_1_1 hyX11 hnX11_within rfl (Nat.le_of_ble_eq_true rfl) dX1_tellLeast_37 (G11_within_met C.2.2.2.2.2.2.2.1 (Nat.le_refl _)  h) (fun r0 μ20 hq => ?_)
    obtain ⟨r21, rfl, h⟩ := hq
    refine x_st [.int r21] rfl ?_
    refine x_if_eq (tgt := 53) C dX1_tellLeast_40 (by decide) (fun c22 => ?_) (fun c22 => ?_)
    · have h := h.1 c22
      refine x_iconst (v := (-1)) C (by decide) dX1_tellLeast_53 ?_
      exact x_iret C hr dX1_tellLeast_54 ⟨_, rfl, h⟩
    · have h := h.2 c22
      refine x_iload_n C rfl 3 rfl dX1_tellLeast_43 ?_
      refine x_iconst (v := 0) C (by decide) dX1_tellLeast_44 ?_
      refine x_bipush (v := 100) C (by decide) dX1_tellLeast_45 ?_
      refine x_callSN (dC := G11_within_dep) (as := [.int p2, .int 0, .int 100]) (st := []) C rX kX (Nat.le_trans (Nat.le_of_ble_eq_true rfl) hd) (Nat.le_of_ble_eq_true rfl) tw_2_196 tw_5_239 tc_2_197 tw_1_1 hyX11 hnX11_within rfl (Nat.le_of_ble_eq_true rfl) dX1_tellLeast_47 (G11_within_met C.2.2.2.2.2.2.2.1 (Nat.le_refl _)  h) (fun r0 μ23 hq => ?_)
      obtain ⟨r24, rfl, h⟩ := hq
      refine x_st [.int r24] rfl ?_
      refine x_if_ne (tgt := 55) C dX1_tellLeast_50 (by decide) (fun c25 => ?_) (fun c25 => ?_)
      · have h := h.1 c25
        refine x_iconst (v := 1) C (by decide) dX1_tellLeast_55 ?_
        refine x_istore C [(6, .int 1), (5, .int q0), (0, .ref 249), (1, .int p1), (2, .int p2), (3, .int p3), (4, .int p4)] (Nat.le_of_ble_eq_true rfl) rfl dX1_tellLeast_56 ?_
        refine x_sub [(0, .ref 249), (1, .int p1), (2, .int p2), (3, .int p3), (4, .int p4), (6, .int 1)] [2, 3, 4, 5, 6, 0] rfl ?_
        exact G1_tellLeast_L58_ok C hd hr  h
      · have h := h.2 c25
        refine x_iconst (v := (-1)) C (by decide) dX1_tellLeast_53 ?_
        exact x_iret C hr dX1_tellLeast_54 ⟨_, rfl, h⟩
set_option maxHeartbeats 4000000 in
set_option maxRecDepth 100000 in
theorem G1_tellLeast_J25_ok {p : Program} {e : Env} {s : State} {m : MethodId} {args : Array Value} {below : List Frame} {meth : Method} {c : Code} {l : Launch} {φ : Nat → Nat} {tc : Nat → ClassId} {D : va_G} {s0 : State} {dR : Nat} (C : CX p s m args meth c φ tc D (AX φ) s0 cX1_tellLeast RX1 9) (hd : G1_tellLeast_dep ≤ dR) (hr : meth.sig.returnType = (some .int))   {p1 : Int32} {p2 : Int32} {p3 : Int32} {p4 : Int32} {Q : Int32 → MM → Prop}  {μ : MM}    (h : G1_tellLeast_J25 p1 p2 p3 p4 μ Q) : WX p l e (rmX dR) s m args below meth c φ tc D (AX φ) 9 0 0 (MQ below (QX φ tc D (QI Q)) args s 0 0 (AX φ)) 25 [(0, .ref 249), (1, .int p1), (2, .int p2), (3, .int p3), (4, .int p4)] [] μ := by
  unfold G1_tellLeast_J25 at h
  refine x_iconst (v := 0) C (by decide) dX1_tellLeast_25 ?_
  exact G1_tellLeast_J26_ok C hd hr  h
set_option maxHeartbeats 4000000 in
set_option maxRecDepth 100000 in
theorem G1_tellLeast_met {l : Launch} {φ : Nat → Nat} {tc : Nat → ClassId} {D : va_G} {s0 : State} (hG : GX φ tc D s0) {dR : Nat} (hd : G1_tellLeast_dep ≤ dR) {v1 : Int32} {v2 : Int32} {v3 : Int32} {v4 : Int32} {μ : MM} {Q : Int32 → MM → Prop}  (h : G1_tellLeast v1 v2 v3 v4 μ Q) : MX l φ tc D s0 dR yX1_tellLeast cX1_tellLeast 9 (some .int) [.ref 249, .int v1, .int v2, .int v3, .int v4] μ (QI Q) := by
  refine MX.of (own := RX1) hG plX1 rfl (Nat.le_of_ble_eq_true rfl) (fun p e s m args below meth c C hr => ?_)
  refine x_sub [(0, .ref 249), (1, .int v1), (2, .int v2), (3, .int v3), (4, .int v4)] [0, 1, 2, 3, 4] rfl ?_
  unfold G1_tellLeast at h
  refine x_iload_n C rfl 3 rfl dX1_tellLeast_0 ?_
  refine x_iconst (v := 1) C (by decide) dX1_tellLeast_1 ?_
  refine x_ldc (v := 1000000) C tw_6_40 dX1_tellLeast_2 ?_
  refine x_callSN (dC := G11_within_dep) (as := [.int v3, .int 1, .int 1000000]) (st := []) C rX kX (Nat.le_trans (Nat.le_of_ble_eq_true rfl) hd) (Nat.le_of_ble_eq_true rfl) tw_2_196 tw_5_239 tc_2_197 tw_1_1 hyX11 hnX11_within rfl (Nat.le_of_ble_eq_true rfl) dX1_tellLeast_4 (G11_within_met C.2.2.2.2.2.2.2.1 (Nat.le_refl _)  h) (fun r0 μ16 hq => ?_)
  obtain ⟨r17, rfl, h⟩ := hq
  refine x_st [.int r17] rfl ?_
  refine x_if_eq (tgt := 25) C dX1_tellLeast_7 (by decide) (fun c18 => ?_) (fun c18 => ?_)
  · have h := h.1 c18
    exact G1_tellLeast_J25_ok C hd hr  h
  · have h := h.2 c18
    refine x_iload C 4 rfl dX1_tellLeast_10 ?_
    refine x_iconst (v := 0) C (by decide) dX1_tellLeast_12 ?_
    refine x_ldc (v := 1000000) C tw_6_40 dX1_tellLeast_13 ?_
    refine x_callSN (dC := G11_within_dep) (as := [.int v4, .int 0, .int 1000000]) (st := []) C rX kX (Nat.le_trans (Nat.le_of_ble_eq_true rfl) hd) (Nat.le_of_ble_eq_true rfl) tw_2_196 tw_5_239 tc_2_197 tw_1_1 hyX11 hnX11_within rfl (Nat.le_of_ble_eq_true rfl) dX1_tellLeast_15 (G11_within_met C.2.2.2.2.2.2.2.1 (Nat.le_refl _)  h) (fun r0 μ39 hq => ?_)
    obtain ⟨r40, rfl, h⟩ := hq
    refine x_st [.int r40] rfl ?_
    refine x_if_eq (tgt := 25) C dX1_tellLeast_18 (by decide) (fun c41 => ?_) (fun c41 => ?_)
    · have h := h.1 c41
      exact G1_tellLeast_J25_ok C hd hr  h
    · have h := h.2 c41
      refine x_iconst (v := 1) C (by decide) dX1_tellLeast_21 ?_
      refine x_goto (tgt := 26) C dX1_tellLeast_22 (by decide) ?_
      exact G1_tellLeast_J26_ok C hd hr  h
set_option maxHeartbeats 4000000 in
set_option maxRecDepth 100000 in
theorem G11_least_met {l : Launch} {φ : Nat → Nat} {tc : Nat → ClassId} {D : va_G} {s0 : State} (hG : GX φ tc D s0) {dR : Nat} (hd : G11_least_dep ≤ dR) {v1 : Int32} {v2 : Int32} {v3 : Int32} {v4 : Int32} {μ : MM} {Q : Int32 → MM → Prop}  (h : G11_least v1 v2 v3 v4 μ Q) : MX l φ tc D s0 dR yX11_least cX11_least 5 (some .int) [.ref 0, .int v1, .int v2, .int v3, .int v4] μ (QI Q) := by
  refine MX.of (own := RX11) hG plX11 rfl (Nat.le_of_ble_eq_true rfl) (fun p e s m args below meth c C hr => ?_)
  refine x_sub [(0, .ref 0), (1, .int v1), (2, .int v2), (3, .int v3), (4, .int v4)] [0, 1, 2, 3, 4] rfl ?_
  unfold G11_least at h
  refine x_aload_n C rfl 0 rfl dX11_least_0 ?_
  refine x_getR (r := 249) C (j := 6) ob0.1 ob0.2 (Nat.le_of_ble_eq_true rfl) (Nat.le_of_ble_eq_true rfl) (fun _ _ _ => rfl) r_0_6 tw_2_169 dX11_least_1 ?_
  refine x_iload_n C rfl 1 rfl dX11_least_4 ?_
  refine x_iload_n C rfl 2 rfl dX11_least_5 ?_
  refine x_iload_n C rfl 3 rfl dX11_least_6 ?_
  refine x_iload C 4 rfl dX11_least_7 ?_
  refine x_callVN (dC := G1_tellLeast_dep) (as := [.int v1, .int v2, .int v3, .int v4]) (st := []) C rX kX (Nat.le_trans (Nat.le_of_ble_eq_true rfl) hd) (Nat.le_of_ble_eq_true rfl) ob249.1 ob249.2 (Nat.le_of_ble_eq_true rfl) rfl ts_8_0 tw_6_38 tw_6_36 tc_6_39 tw_1_12 hyX1 hnX1_tellLeast rfl (Nat.le_of_ble_eq_true rfl) dX11_least_9 (G1_tellLeast_met C.2.2.2.2.2.2.2.1 (Nat.le_refl _)  h) (fun r0 μ3 hq => ?_)
  obtain ⟨r4, rfl, h⟩ := hq
  refine x_st [.int r4] rfl ?_
  exact x_iret C hr dX11_least_12 ⟨_, rfl, h⟩
set_option maxHeartbeats 4000000 in
set_option maxRecDepth 100000 in
theorem G5_state_J12_ok {p : Program} {e : Env} {s : State} {m : MethodId} {args : Array Value} {below : List Frame} {meth : Method} {c : Code} {l : Launch} {φ : Nat → Nat} {tc : Nat → ClassId} {D : va_G} {s0 : State} {dR : Nat} (C : CX p s m args meth c φ tc D (AX φ) s0 cX5_state RX5 1) (hd : G5_state_dep ≤ dR) (hr : meth.sig.returnType = (some .int))  {t : Nat} {q0 : Int32} {Q : Int32 → MM → Prop}  {μ : MM} (o_t : Ob t 5)   (h : G5_state_J12 t q0 μ Q) : WX p l e (rmX dR) s m args below meth c φ tc D (AX φ) 1 0 0 (MQ below (QX φ tc D (QI Q)) args s 0 0 (AX φ)) 12 [(0, .ref t)] [.int q0] μ := by
  unfold G5_state_J12 at h
  refine x_aload_n C rfl 0 rfl dX5_state_12 ?_
  refine x_getI C (j := 7) o_t.1 o_t.2 (Nat.le_of_ble_eq_true rfl) (Nat.le_of_ble_eq_true rfl) (Or.inr rfl) tw_1_77 dX5_state_13 ?_
  refine x_if_eq (tgt := 23) C dX5_state_16 (by decide) (fun c2 => ?_) (fun c2 => ?_)
  · have h := h.1 c2
    refine x_iconst (v := 0) C (by decide) dX5_state_23 ?_
    refine x_iadd C dX5_state_24 ?_
    refine x_iconst (v := 4) C (by decide) dX5_state_25 ?_
    refine x_aload_n C rfl 0 rfl dX5_state_26 ?_
    refine x_getI C (j := 8) o_t.1 o_t.2 (Nat.le_of_ble_eq_true rfl) (Nat.le_of_ble_eq_true rfl) (Or.inl rfl) tw_1_81 dX5_state_27 ?_
    refine x_imul C dX5_state_30 ?_
    refine x_iadd C dX5_state_31 ?_
    exact x_iret C hr dX5_state_32 ⟨_, rfl, h⟩
  · have h := h.2 c2
    refine x_iconst (v := 2) C (by decide) dX5_state_19 ?_
    refine x_goto (tgt := 24) C dX5_state_20 (by decide) ?_
    refine x_iadd C dX5_state_24 ?_
    refine x_iconst (v := 4) C (by decide) dX5_state_25 ?_
    refine x_aload_n C rfl 0 rfl dX5_state_26 ?_
    refine x_getI C (j := 8) o_t.1 o_t.2 (Nat.le_of_ble_eq_true rfl) (Nat.le_of_ble_eq_true rfl) (Or.inl rfl) tw_1_81 dX5_state_27 ?_
    refine x_imul C dX5_state_30 ?_
    refine x_iadd C dX5_state_31 ?_
    exact x_iret C hr dX5_state_32 ⟨_, rfl, h⟩
set_option maxHeartbeats 4000000 in
set_option maxRecDepth 100000 in
theorem G5_state_met {l : Launch} {φ : Nat → Nat} {tc : Nat → ClassId} {D : va_G} {s0 : State} (hG : GX φ tc D s0) {dR : Nat} (hd : G5_state_dep ≤ dR) {t : Nat} {μ : MM} {Q : Int32 → MM → Prop} (o_t : Ob t 5) (h : G5_state t μ Q) : MX l φ tc D s0 dR yX5_state cX5_state 1 (some .int) [.ref t] μ (QI Q) := by
  refine MX.of (own := RX5) hG plX5 rfl (Nat.le_of_ble_eq_true rfl) (fun p e s m args below meth c C hr => ?_)
  refine x_sub [(0, .ref t)] [0] rfl ?_
  unfold G5_state at h
  refine x_aload_n C rfl 0 rfl dX5_state_0 ?_
  refine x_getI C (j := 6) o_t.1 o_t.2 (Nat.le_of_ble_eq_true rfl) (Nat.le_of_ble_eq_true rfl) (Or.inr rfl) tw_1_70 dX5_state_1 ?_
  refine x_if_eq (tgt := 11) C dX5_state_4 (by decide) (fun c1 => ?_) (fun c1 => ?_)
  · have h := h.1 c1
    refine x_iconst (v := 0) C (by decide) dX5_state_11 ?_
    exact G5_state_J12_ok C hd hr o_t h
  · have h := h.2 c1
    refine x_iconst (v := 1) C (by decide) dX5_state_7 ?_
    refine x_goto (tgt := 12) C dX5_state_8 (by decide) ?_
    exact G5_state_J12_ok C hd hr o_t h
set_option maxHeartbeats 4000000 in
set_option maxRecDepth 100000 in
theorem G10_keepUnder_L22_b {p : Program} {e : Env} {s : State} {m : MethodId} {args : Array Value} {below : List Frame} {meth : Method} {c : Code} {l : Launch} {φ : Nat → Nat} {tc : Nat → ClassId} {D : va_G} {s0 : State} {dR : Nat} (C : CX p s m args meth c φ tc D (AX φ) s0 cX10_keepUnder RX10 3) (hd : G10_keepUnder_dep ≤ dR) (hr : meth.sig.returnType = none)  {p1 : Int32} {Q : MM → Prop} {K22 : Int32 × MM → Prop} {x : Int32 × MM}   (hK22 : ∀ (z2 : Int32) (zμ : MM), K22 (z2, zμ) → WX p l e (rmX dR) s m args below meth c φ tc D (AX φ) 3 0 0 (MQ below (QX φ tc D (QV Q)) args s 0 0 (AX φ)) 22 [(0, .ref 1), (1, .int p1), (2, .int z2)] [] zμ) (h : G10_keepUnder_L22 p1 Q K22 x) : WX p l e (rmX dR) s m args below meth c φ tc D (AX φ) 3 0 0 (MQ below (QX φ tc D (QV Q)) args s 0 0 (AX φ)) 22 [(0, .ref 1), (1, .int p1), (2, .int x.1)] [] x.2 := by
  unfold G10_keepUnder_L22 at h
  refine x_iload_n C rfl 2 rfl dX10_keepUnder_22 ?_
  refine x_aload_n C rfl 0 rfl dX10_keepUnder_23 ?_
  refine x_getI C (j := 10) ob1.1 ob1.2 (Nat.le_of_ble_eq_true rfl) (Nat.le_of_ble_eq_true rfl) (Or.inl rfl) tw_1_153 dX10_keepUnder_24 ?_
  refine x_icmp_ge (tgt := 53) C dX10_keepUnder_27 (by decide) (fun c15 => ?_) (fun c15 => ?_)
  · have h := h.1 c15
    exact x_vret C hr dX10_keepUnder_53 ⟨rfl, h⟩
  · have h := h.2 c15
    refine x_aload_n C rfl 0 rfl dX10_keepUnder_30 ?_
    refine x_getR (r := 15) C (j := 17) ob1.1 ob1.2 (Nat.le_of_ble_eq_true rfl) (Nat.le_of_ble_eq_true rfl) (fun _ _ _ => rfl) r_1_17 tw_1_166 dX10_keepUnder_31 ?_
    refine x_iload_n C rfl 1 rfl dX10_keepUnder_34 ?_
    obtain ⟨c16, h⟩ := h
    refine x_aald (r := (16 + p1.toNatClampNeg)) C ob15.1 (by decide) (by decide) c16 rfl (rA15 c16) dX10_keepUnder_35 ?_
    refine x_iload_n C rfl 2 rfl dX10_keepUnder_36 ?_
    refine x_aload_n C rfl 0 rfl dX10_keepUnder_37 ?_
    refine x_getR (r := 9) C (j := 9) ob1.1 ob1.2 (Nat.le_of_ble_eq_true rfl) (Nat.le_of_ble_eq_true rfl) (fun _ _ _ => rfl) r_1_9 tw_1_143 dX10_keepUnder_38 ?_
    refine x_iload_n C rfl 2 rfl dX10_keepUnder_41 ?_
    obtain ⟨c17, h⟩ := h
    refine x_aald (r := (19 + x.1.toNatClampNeg)) C ob9.1 (by decide) (by decide) c17 rfl (rA9 c17) dX10_keepUnder_42 ?_
    refine x_callVN (dC := G5_state_dep) (as := []) (st := [.int x.1, .ref (16 + p1.toNatClampNeg)]) C rX kX (Nat.le_trans (Nat.le_of_ble_eq_true rfl) hd) (Nat.le_of_ble_eq_true rfl) (obA9 c17).1 (obA9 c17).2 (Nat.le_of_ble_eq_true rfl) rfl ts_8_2 tw_6_53 tw_6_51 tc_6_54 tw_1_3 hyX5 hnX5_state rfl (Nat.le_of_ble_eq_true rfl) dX10_keepUnder_43 (G5_state_met C.2.2.2.2.2.2.2.1 (Nat.le_refl _) (obA9 c17) h) (fun r0 μ18 hq => ?_)
    obtain ⟨r19, rfl, h⟩ := hq
    refine x_st [.int r19, .int x.1, .ref (16 + p1.toNatClampNeg)] rfl ?_
    obtain ⟨c20, h⟩ := h
    refine x_iast C (obA15 c16).1 (obA15 c16).2 (by rw [lnA15 c16]; exact c20) rfl dX10_keepUnder_46 ?_
    refine x_mu (fun μ21 e_μ21 => ?_)
    have h := h μ21 e_μ21
    refine x_iinc (v := (x.1 + 1)) C [(2, .int (x.1 + 1)), (0, .ref 1), (1, .int p1)] 2 rfl (congrArg (fun z => x.1 + z) (by decide : Int32.ofInt (1) = 1)) (Nat.le_of_ble_eq_true rfl) rfl dX10_keepUnder_47 ?_
    refine x_goto (tgt := 22) C dX10_keepUnder_50 (by decide) ?_
    refine x_sub [(0, .ref 1), (1, .int p1), (2, .int (x.1 + 1))] [1, 2, 0] rfl ?_
    exact hK22 _ _ h
theorem G10_keepUnder_L22_ok {p : Program} {e : Env} {s : State} {m : MethodId} {args : Array Value} {below : List Frame} {meth : Method} {c : Code} {l : Launch} {φ : Nat → Nat} {tc : Nat → ClassId} {D : va_G} {s0 : State} {dR : Nat} (C : CX p s m args meth c φ tc D (AX φ) s0 cX10_keepUnder RX10 3) (hd : G10_keepUnder_dep ≤ dR) (hr : meth.sig.returnType = none)  {p1 : Int32} {Q : MM → Prop}  {x : Int32 × MM}    (h : Lp (G10_keepUnder_L22 p1 Q) x) : WX p l e (rmX dR) s m args below meth c φ tc D (AX φ) 3 0 0 (MQ below (QX φ tc D (QV Q)) args s 0 0 (AX φ)) 22 [(0, .ref 1), (1, .int p1), (2, .int x.1)] [] x.2 := by
  obtain ⟨n, h⟩ := h
  induction n generalizing x with
  | zero => exact h.elim
  | succ n ih => exact G10_keepUnder_L22_b C hd hr   (fun z2 zμ hz => by have q := ih hz; exact q) h
set_option maxHeartbeats 4000000 in
set_option maxRecDepth 100000 in
theorem G10_keepUnder_met {l : Launch} {φ : Nat → Nat} {tc : Nat → ClassId} {D : va_G} {s0 : State} (hG : GX φ tc D s0) {dR : Nat} (hd : G10_keepUnder_dep ≤ dR) {v1 : Int32} {μ : MM} {Q : MM → Prop}  (h : G10_keepUnder v1 μ Q) : MX l φ tc D s0 dR yX10_keepUnder cX10_keepUnder 3 none [.ref 1, .int v1] μ (QV Q) := by
  refine MX.of (own := RX10) hG plX10 rfl (Nat.le_of_ble_eq_true rfl) (fun p e s m args below meth c C hr => ?_)
  refine x_sub [(0, .ref 1), (1, .int v1)] [0, 1] rfl ?_
  unfold G10_keepUnder at h
  refine x_aload_n C rfl 0 rfl dX10_keepUnder_0 ?_
  refine x_getR (r := 13) C (j := 15) ob1.1 ob1.2 (Nat.le_of_ble_eq_true rfl) (Nat.le_of_ble_eq_true rfl) (fun _ _ _ => rfl) r_1_15 tw_1_164 dX10_keepUnder_1 ?_
  refine x_iload_n C rfl 1 rfl dX10_keepUnder_4 ?_
  refine x_aload_n C rfl 0 rfl dX10_keepUnder_5 ?_
  refine x_getI C (j := 10) ob1.1 ob1.2 (Nat.le_of_ble_eq_true rfl) (Nat.le_of_ble_eq_true rfl) (Or.inl rfl) tw_1_153 dX10_keepUnder_6 ?_
  obtain ⟨c11, h⟩ := h
  refine x_iast C ob13.1 ob13.2 c11 rfl dX10_keepUnder_9 ?_
  refine x_mu (fun μ12 e_μ12 => ?_)
  have h := h μ12 e_μ12
  refine x_aload_n C rfl 0 rfl dX10_keepUnder_10 ?_
  refine x_getR (r := 14) C (j := 16) ob1.1 ob1.2 (Nat.le_of_ble_eq_true rfl) (Nat.le_of_ble_eq_true rfl) (fun _ _ _ => rfl) r_1_16 tw_1_165 dX10_keepUnder_11 ?_
  refine x_iload_n C rfl 1 rfl dX10_keepUnder_14 ?_
  refine x_aload_n C rfl 0 rfl dX10_keepUnder_15 ?_
  refine x_getI C (j := 14) ob1.1 ob1.2 (Nat.le_of_ble_eq_true rfl) (Nat.le_of_ble_eq_true rfl) (Or.inl rfl) tw_1_162 dX10_keepUnder_16 ?_
  obtain ⟨c13, h⟩ := h
  refine x_iast C ob14.1 ob14.2 c13 rfl dX10_keepUnder_19 ?_
  refine x_mu (fun μ14 e_μ14 => ?_)
  have h := h μ14 e_μ14
  refine x_iconst (v := 0) C (by decide) dX10_keepUnder_20 ?_
  refine x_istore_n C [(2, .int 0), (0, .ref 1), (1, .int v1)] rfl (Nat.le_of_ble_eq_true rfl) rfl dX10_keepUnder_21 ?_
  refine x_sub [(0, .ref 1), (1, .int v1), (2, .int 0)] [1, 2, 0] rfl ?_
  exact G10_keepUnder_L22_ok C hd hr  h
set_option maxHeartbeats 4000000 in
set_option maxRecDepth 100000 in
theorem G11_keep_met {l : Launch} {φ : Nat → Nat} {tc : Nat → ClassId} {D : va_G} {s0 : State} (hG : GX φ tc D s0) {dR : Nat} (hd : G11_keep_dep ≤ dR) {v1 : Int32} {μ : MM} {Q : Int32 → MM → Prop}  (h : G11_keep v1 μ Q) : MX l φ tc D s0 dR yX11_keep cX11_keep 2 (some .boolean) [.ref 0, .int v1] μ (QI Q) := by
  refine MX.of (own := RX11) hG plX11 rfl (Nat.le_of_ble_eq_true rfl) (fun p e s m args below meth c C hr => ?_)
  refine x_sub [(0, .ref 0), (1, .int v1)] [0, 1] rfl ?_
  unfold G11_keep at h
  refine x_iload_n C rfl 1 rfl dX11_keep_0 ?_
  refine x_iconst (v := 0) C (by decide) dX11_keep_1 ?_
  refine x_iconst (v := 2) C (by decide) dX11_keep_2 ?_
  refine x_callS (dC := G11_within_dep) (as := [.int v1, .int 0, .int 2]) (st := []) C rX kX (Nat.le_trans (Nat.le_of_ble_eq_true rfl) hd) (Nat.le_of_ble_eq_true rfl) tw_2_196 tw_2_195 tc_2_197 tw_1_1 hyX11 hnX11_within rfl (Nat.le_of_ble_eq_true rfl) dX11_keep_3 (G11_within_met C.2.2.2.2.2.2.2.1 (Nat.le_refl _)  h) (fun r0 μ4 hq => ?_)
  obtain ⟨r5, rfl, h⟩ := hq
  refine x_st [.int r5] rfl ?_
  refine x_if_ne (tgt := 11) C dX11_keep_6 (by decide) (fun c6 => ?_) (fun c6 => ?_)
  · have h := h.1 c6
    refine x_aload_n C rfl 0 rfl dX11_keep_11 ?_
    refine x_getR (r := 1) C (j := 0) ob0.1 ob0.2 (Nat.le_of_ble_eq_true rfl) (Nat.le_of_ble_eq_true rfl) (fun _ _ _ => rfl) r_0_0 tw_2_163 dX11_keep_12 ?_
    refine x_iload_n C rfl 1 rfl dX11_keep_15 ?_
    refine x_callVN (dC := G10_keepUnder_dep) (as := [.int v1]) (st := []) C rX kX (Nat.le_trans (Nat.le_of_ble_eq_true rfl) hd) (Nat.le_of_ble_eq_true rfl) ob1.1 ob1.2 (Nat.le_of_ble_eq_true rfl) rfl ts_8_1 tw_6_49 tw_6_47 tc_6_50 tw_1_2 hyX10 hnX10_keepUnder rfl (Nat.le_of_ble_eq_true rfl) dX11_keep_16 (G10_keepUnder_met C.2.2.2.2.2.2.2.1 (Nat.le_refl _)  h) (fun r0 μ7 hq => ?_)
    obtain ⟨rfl, h⟩ := hq
    refine x_st [] rfl ?_
    refine x_iconst (v := 1) C (by decide) dX11_keep_19 ?_
    exact x_zret C hr bo_1 dX11_keep_20 ⟨_, rfl, h⟩
  · have h := h.2 c6
    refine x_iconst (v := 0) C (by decide) dX11_keep_9 ?_
    exact x_zret C hr bo_0 dX11_keep_10 ⟨_, rfl, h⟩
set_option maxHeartbeats 4000000 in
set_option maxRecDepth 100000 in
theorem G10_bringBack_L47_b {p : Program} {e : Env} {s : State} {m : MethodId} {args : Array Value} {below : List Frame} {meth : Method} {c : Code} {l : Launch} {φ : Nat → Nat} {tc : Nat → ClassId} {D : va_G} {s0 : State} {dR : Nat} (C : CX p s m args meth c φ tc D (AX φ) s0 cX10_bringBack RX10 3) (hd : G10_bringBack_dep ≤ dR) (hr : meth.sig.returnType = (some .boolean))  {p1 : Int32} {Q : Int32 → MM → Prop} {K47 : Int32 × MM → Prop} {x : Int32 × MM}   (hK47 : ∀ (z2 : Int32) (zμ : MM), K47 (z2, zμ) → WX p l e (rmX dR) s m args below meth c φ tc D (AX φ) 3 0 0 (MQ below (QX φ tc D (QI Q)) args s 0 0 (AX φ)) 47 [(0, .ref 1), (1, .int p1), (2, .int z2)] [] zμ) (h : G10_bringBack_L47 p1 Q K47 x) : WX p l e (rmX dR) s m args below meth c φ tc D (AX φ) 3 0 0 (MQ below (QX φ tc D (QI Q)) args s 0 0 (AX φ)) 47 [(0, .ref 1), (1, .int p1), (2, .int x.1)] [] x.2 := by
  unfold G10_bringBack_L47 at h
  refine x_iload_n C rfl 2 rfl dX10_bringBack_47 ?_
  refine x_aload_n C rfl 0 rfl dX10_bringBack_48 ?_
  refine x_getI C (j := 10) ob1.1 ob1.2 (Nat.le_of_ble_eq_true rfl) (Nat.le_of_ble_eq_true rfl) (Or.inl rfl) tw_1_153 dX10_bringBack_49 ?_
  refine x_icmp_ge (tgt := 78) C dX10_bringBack_52 (by decide) (fun c19 => ?_) (fun c19 => ?_)
  · have h := h.1 c19
    refine x_iconst (v := 1) C (by decide) dX10_bringBack_78 ?_
    exact x_zret C hr bo_1 dX10_bringBack_79 ⟨_, rfl, h⟩
  · have h := h.2 c19
    refine x_aload_n C rfl 0 rfl dX10_bringBack_55 ?_
    refine x_getR (r := 9) C (j := 9) ob1.1 ob1.2 (Nat.le_of_ble_eq_true rfl) (Nat.le_of_ble_eq_true rfl) (fun _ _ _ => rfl) r_1_9 tw_1_143 dX10_bringBack_56 ?_
    refine x_iload_n C rfl 2 rfl dX10_bringBack_59 ?_
    obtain ⟨c20, h⟩ := h
    refine x_aald (r := (19 + x.1.toNatClampNeg)) C ob9.1 (by decide) (by decide) c20 rfl (rA9 c20) dX10_bringBack_60 ?_
    refine x_aload_n C rfl 0 rfl dX10_bringBack_61 ?_
    refine x_getR (r := 15) C (j := 17) ob1.1 ob1.2 (Nat.le_of_ble_eq_true rfl) (Nat.le_of_ble_eq_true rfl) (fun _ _ _ => rfl) r_1_17 tw_1_166 dX10_bringBack_62 ?_
    refine x_iload_n C rfl 1 rfl dX10_bringBack_65 ?_
    obtain ⟨c21, h⟩ := h
    refine x_aald (r := (16 + p1.toNatClampNeg)) C ob15.1 (by decide) (by decide) c21 rfl (rA15 c21) dX10_bringBack_66 ?_
    refine x_iload_n C rfl 2 rfl dX10_bringBack_67 ?_
    obtain ⟨c22, h⟩ := h
    refine x_iald C (obA15 c21).1 (obA15 c21).2 (by rw [lnA15 c21]; exact c22) rfl dX10_bringBack_68 ?_
    refine x_callVN (dC := G5_becomeState_dep) (as := [.int (gI x.2 (16 + p1.toNatClampNeg) x.1.toNatClampNeg)]) (st := []) C rX kX (Nat.le_trans (Nat.le_of_ble_eq_true rfl) hd) (Nat.le_of_ble_eq_true rfl) (obA9 c20).1 (obA9 c20).2 (Nat.le_of_ble_eq_true rfl) rfl ts_1_6 tw_2_232 tw_2_230 tc_2_233 tw_1_3 hyX5 hnX5_becomeState rfl (Nat.le_of_ble_eq_true rfl) dX10_bringBack_69 (G5_becomeState_met C.2.2.2.2.2.2.2.1 (Nat.le_refl _) (obA9 c20) h) (fun r0 μ23 hq => ?_)
    obtain ⟨rfl, h⟩ := hq
    refine x_st [] rfl ?_
    refine x_iinc (v := (x.1 + 1)) C [(2, .int (x.1 + 1)), (0, .ref 1), (1, .int p1)] 2 rfl (congrArg (fun z => x.1 + z) (by decide : Int32.ofInt (1) = 1)) (Nat.le_of_ble_eq_true rfl) rfl dX10_bringBack_72 ?_
    refine x_goto (tgt := 47) C dX10_bringBack_75 (by decide) ?_
    refine x_sub [(0, .ref 1), (1, .int p1), (2, .int (x.1 + 1))] [1, 2, 0] rfl ?_
    exact hK47 _ _ h
theorem G10_bringBack_L47_ok {p : Program} {e : Env} {s : State} {m : MethodId} {args : Array Value} {below : List Frame} {meth : Method} {c : Code} {l : Launch} {φ : Nat → Nat} {tc : Nat → ClassId} {D : va_G} {s0 : State} {dR : Nat} (C : CX p s m args meth c φ tc D (AX φ) s0 cX10_bringBack RX10 3) (hd : G10_bringBack_dep ≤ dR) (hr : meth.sig.returnType = (some .boolean))  {p1 : Int32} {Q : Int32 → MM → Prop}  {x : Int32 × MM}    (h : Lp (G10_bringBack_L47 p1 Q) x) : WX p l e (rmX dR) s m args below meth c φ tc D (AX φ) 3 0 0 (MQ below (QX φ tc D (QI Q)) args s 0 0 (AX φ)) 47 [(0, .ref 1), (1, .int p1), (2, .int x.1)] [] x.2 := by
  obtain ⟨n, h⟩ := h
  induction n generalizing x with
  | zero => exact h.elim
  | succ n ih => exact G10_bringBack_L47_b C hd hr   (fun z2 zμ hz => by have q := ih hz; exact q) h
set_option maxHeartbeats 4000000 in
set_option maxRecDepth 100000 in
theorem G10_bringBack_met {l : Launch} {φ : Nat → Nat} {tc : Nat → ClassId} {D : va_G} {s0 : State} (hG : GX φ tc D s0) {dR : Nat} (hd : G10_bringBack_dep ≤ dR) {v1 : Int32} {μ : MM} {Q : Int32 → MM → Prop}  (h : G10_bringBack v1 μ Q) : MX l φ tc D s0 dR yX10_bringBack cX10_bringBack 3 (some .boolean) [.ref 1, .int v1] μ (QI Q) := by
  refine MX.of (own := RX10) hG plX10 rfl (Nat.le_of_ble_eq_true rfl) (fun p e s m args below meth c C hr => ?_)
  refine x_sub [(0, .ref 1), (1, .int v1)] [0, 1] rfl ?_
  unfold G10_bringBack at h
  refine x_aload_n C rfl 0 rfl dX10_bringBack_0 ?_
  refine x_getR (r := 13) C (j := 15) ob1.1 ob1.2 (Nat.le_of_ble_eq_true rfl) (Nat.le_of_ble_eq_true rfl) (fun _ _ _ => rfl) r_1_15 tw_1_164 dX10_bringBack_1 ?_
  refine x_iload_n C rfl 1 rfl dX10_bringBack_4 ?_
  obtain ⟨c11, h⟩ := h
  refine x_iald C ob13.1 ob13.2 c11 rfl dX10_bringBack_5 ?_
  refine x_iconst (v := (-1)) C (by decide) dX10_bringBack_6 ?_
  refine x_icmp_eq (tgt := 23) C dX10_bringBack_7 (by decide) (fun c12 => ?_) (fun c12 => ?_)
  · have h := h.1 c12
    refine x_iconst (v := 0) C (by decide) dX10_bringBack_23 ?_
    exact x_zret C hr bo_0 dX10_bringBack_24 ⟨_, rfl, h⟩
  · have h := h.2 c12
    refine x_aload_n C rfl 0 rfl dX10_bringBack_10 ?_
    refine x_getR (r := 13) C (j := 15) ob1.1 ob1.2 (Nat.le_of_ble_eq_true rfl) (Nat.le_of_ble_eq_true rfl) (fun _ _ _ => rfl) r_1_15 tw_1_164 dX10_bringBack_11 ?_
    refine x_iload_n C rfl 1 rfl dX10_bringBack_14 ?_
    obtain ⟨c13, h⟩ := h
    refine x_iald C ob13.1 ob13.2 c13 rfl dX10_bringBack_15 ?_
    refine x_aload_n C rfl 0 rfl dX10_bringBack_16 ?_
    refine x_getI C (j := 10) ob1.1 ob1.2 (Nat.le_of_ble_eq_true rfl) (Nat.le_of_ble_eq_true rfl) (Or.inl rfl) tw_1_153 dX10_bringBack_17 ?_
    refine x_icmp_le (tgt := 25) C dX10_bringBack_20 (by decide) (fun c14 => ?_) (fun c14 => ?_)
    · have h := h.1 c14
      refine x_aload_n C rfl 0 rfl dX10_bringBack_25 ?_
      refine x_aload_n C rfl 0 rfl dX10_bringBack_26 ?_
      refine x_getR (r := 13) C (j := 15) ob1.1 ob1.2 (Nat.le_of_ble_eq_true rfl) (Nat.le_of_ble_eq_true rfl) (fun _ _ _ => rfl) r_1_15 tw_1_164 dX10_bringBack_27 ?_
      refine x_iload_n C rfl 1 rfl dX10_bringBack_30 ?_
      obtain ⟨c15, h⟩ := h
      refine x_iald C ob13.1 ob13.2 c15 rfl dX10_bringBack_31 ?_
      refine x_putI C (j := 10) ob1.1 ob1.2 (Nat.le_of_ble_eq_true rfl) (Nat.le_of_ble_eq_true rfl) (Or.inl rfl) rfl rfl rfl tw_1_153 dX10_bringBack_32 ?_
      refine x_mu (fun μ16 e_μ16 => ?_)
      have h := h μ16 e_μ16
      refine x_aload_n C rfl 0 rfl dX10_bringBack_35 ?_
      refine x_aload_n C rfl 0 rfl dX10_bringBack_36 ?_
      refine x_getR (r := 14) C (j := 16) ob1.1 ob1.2 (Nat.le_of_ble_eq_true rfl) (Nat.le_of_ble_eq_true rfl) (fun _ _ _ => rfl) r_1_16 tw_1_165 dX10_bringBack_37 ?_
      refine x_iload_n C rfl 1 rfl dX10_bringBack_40 ?_
      obtain ⟨c17, h⟩ := h
      refine x_iald C ob14.1 ob14.2 c17 rfl dX10_bringBack_41 ?_
      refine x_putI C (j := 14) ob1.1 ob1.2 (Nat.le_of_ble_eq_true rfl) (Nat.le_of_ble_eq_true rfl) (Or.inl rfl) rfl rfl rfl tw_1_162 dX10_bringBack_42 ?_
      refine x_mu (fun μ18 e_μ18 => ?_)
      have h := h μ18 e_μ18
      refine x_iconst (v := 0) C (by decide) dX10_bringBack_45 ?_
      refine x_istore_n C [(2, .int 0), (0, .ref 1), (1, .int v1)] rfl (Nat.le_of_ble_eq_true rfl) rfl dX10_bringBack_46 ?_
      refine x_sub [(0, .ref 1), (1, .int v1), (2, .int 0)] [1, 2, 0] rfl ?_
      exact G10_bringBack_L47_ok C hd hr  h
    · have h := h.2 c14
      refine x_iconst (v := 0) C (by decide) dX10_bringBack_23 ?_
      exact x_zret C hr bo_0 dX10_bringBack_24 ⟨_, rfl, h⟩
set_option maxHeartbeats 4000000 in
set_option maxRecDepth 100000 in
theorem G11_again_met {l : Launch} {φ : Nat → Nat} {tc : Nat → ClassId} {D : va_G} {s0 : State} (hG : GX φ tc D s0) {dR : Nat} (hd : G11_again_dep ≤ dR) {v1 : Int32} {μ : MM} {Q : Int32 → MM → Prop}  (h : G11_again v1 μ Q) : MX l φ tc D s0 dR yX11_again cX11_again 2 (some .boolean) [.ref 0, .int v1] μ (QI Q) := by
  refine MX.of (own := RX11) hG plX11 rfl (Nat.le_of_ble_eq_true rfl) (fun p e s m args below meth c C hr => ?_)
  refine x_sub [(0, .ref 0), (1, .int v1)] [0, 1] rfl ?_
  unfold G11_again at h
  refine x_iload_n C rfl 1 rfl dX11_again_0 ?_
  refine x_iconst (v := 0) C (by decide) dX11_again_1 ?_
  refine x_iconst (v := 2) C (by decide) dX11_again_2 ?_
  refine x_callS (dC := G11_within_dep) (as := [.int v1, .int 0, .int 2]) (st := []) C rX kX (Nat.le_trans (Nat.le_of_ble_eq_true rfl) hd) (Nat.le_of_ble_eq_true rfl) tw_2_196 tw_2_195 tc_2_197 tw_1_1 hyX11 hnX11_within rfl (Nat.le_of_ble_eq_true rfl) dX11_again_3 (G11_within_met C.2.2.2.2.2.2.2.1 (Nat.le_refl _)  h) (fun r0 μ6 hq => ?_)
  obtain ⟨r7, rfl, h⟩ := hq
  refine x_st [.int r7] rfl ?_
  refine x_if_eq (tgt := 20) C dX11_again_6 (by decide) (fun c8 => ?_) (fun c8 => ?_)
  · have h := h.1 c8
    refine x_iconst (v := 0) C (by decide) dX11_again_20 ?_
    exact x_zret C hr bo_0 dX11_again_21 ⟨_, rfl, h⟩
  · have h := h.2 c8
    refine x_aload_n C rfl 0 rfl dX11_again_9 ?_
    refine x_getR (r := 1) C (j := 0) ob0.1 ob0.2 (Nat.le_of_ble_eq_true rfl) (Nat.le_of_ble_eq_true rfl) (fun _ _ _ => rfl) r_0_0 tw_2_163 dX11_again_10 ?_
    refine x_iload_n C rfl 1 rfl dX11_again_13 ?_
    refine x_callVN (dC := G10_bringBack_dep) (as := [.int v1]) (st := []) C rX kX (Nat.le_trans (Nat.le_of_ble_eq_true rfl) hd) (Nat.le_of_ble_eq_true rfl) ob1.1 ob1.2 (Nat.le_of_ble_eq_true rfl) rfl ts_8_3 tw_6_61 tw_6_59 tc_6_62 tw_1_2 hyX10 hnX10_bringBack rfl (Nat.le_of_ble_eq_true rfl) dX11_again_14 (G10_bringBack_met C.2.2.2.2.2.2.2.1 (Nat.le_refl _)  h) (fun r0 μ9 hq => ?_)
    obtain ⟨r10, rfl, h⟩ := hq
    refine x_st [.int r10] rfl ?_
    refine x_if_ne (tgt := 22) C dX11_again_17 (by decide) (fun c11 => ?_) (fun c11 => ?_)
    · have h := h.1 c11
      refine x_aload_n C rfl 0 rfl dX11_again_22 ?_
      refine x_getR (r := 237) C (j := 5) ob0.1 ob0.2 (Nat.le_of_ble_eq_true rfl) (Nat.le_of_ble_eq_true rfl) (fun _ _ _ => rfl) r_0_5 tw_2_168 dX11_again_23 ?_
      refine x_iconst (v := 0) C (by decide) dX11_again_26 ?_
      refine x_putIN C (j := 5) ob237.1 ob237.2 (Nat.le_of_ble_eq_true rfl) (Nat.le_of_ble_eq_true rfl) (Or.inl rfl) rfl rfl rfl tw_2_118 dX11_again_27 ?_
      refine x_mu (fun μ12 e_μ12 => ?_)
      have h := h μ12 e_μ12
      refine x_iconst (v := 1) C (by decide) dX11_again_30 ?_
      exact x_zret C hr bo_1 dX11_again_31 ⟨_, rfl, h⟩
    · have h := h.2 c11
      refine x_iconst (v := 0) C (by decide) dX11_again_20 ?_
      exact x_zret C hr bo_0 dX11_again_21 ⟨_, rfl, h⟩
set_option maxHeartbeats 4000000 in
set_option maxRecDepth 100000 in
theorem G11_toldBits_L4_b {p : Program} {e : Env} {s : State} {m : MethodId} {args : Array Value} {below : List Frame} {meth : Method} {c : Code} {l : Launch} {φ : Nat → Nat} {tc : Nat → ClassId} {D : va_G} {s0 : State} {dR : Nat} (C : CX p s m args meth c φ tc D (AX φ) s0 cX11_toldBits RX11 3) (hd : G11_toldBits_dep ≤ dR) (hr : meth.sig.returnType = (some .int)) {a0 : Nat}  {Q : Int32 → MM → Prop} {K4 : Int32 × Int32 × MM → Prop} {x : Int32 × Int32 × MM} (o_a0 : Ob a0 17)  (hK4 : ∀ (z1 : Int32) (z2 : Int32) (zμ : MM), K4 (z1, z2, zμ) → WX p l e (rmX dR) s m args below meth c φ tc D (AX φ) 3 0 0 (MQ below (QX φ tc D (QI Q)) args s 0 0 (AX φ)) 4 [(0, .ref a0), (1, .int z1), (2, .int z2)] [] zμ) (h : G11_toldBits_L4 a0 Q K4 x) : WX p l e (rmX dR) s m args below meth c φ tc D (AX φ) 3 0 0 (MQ below (QX φ tc D (QI Q)) args s 0 0 (AX φ)) 4 [(0, .ref a0), (1, .int x.1), (2, .int x.2.1)] [] x.2.2 := by
  unfold G11_toldBits_L4 at h
  refine x_iload_n C rfl 2 rfl dX11_toldBits_4 ?_
  refine x_bipush (v := 6) C (by decide) dX11_toldBits_5 ?_
  refine x_icmp_ge (tgt := 31) C dX11_toldBits_7 (by decide) (fun c6 => ?_) (fun c6 => ?_)
  · have h := h.1 c6
    refine x_iload_n C rfl 1 rfl dX11_toldBits_31 ?_
    exact x_iret C hr dX11_toldBits_32 ⟨_, rfl, h⟩
  · have h := h.2 c6
    refine x_aload_n C rfl 0 rfl dX11_toldBits_10 ?_
    refine x_iload_n C rfl 2 rfl dX11_toldBits_11 ?_
    obtain ⟨c7, r8, e_r8, o_r8, h⟩ := h
    refine x_aald (r := r8) C o_a0.1 (by rw [o_a0.2]; decide) (by rw [o_a0.2]; decide) c7 rfl (SR_arr o_a0 (by decide) e_r8) dX11_toldBits_12 ?_
    refine x_callVN (dC := G3_isTold_dep) (as := []) (st := []) C rX kX (Nat.le_trans (Nat.le_of_ble_eq_true rfl) hd) (Nat.le_of_ble_eq_true rfl) o_r8.1 o_r8.2 (Nat.le_of_ble_eq_true rfl) rfl ts_2_7 tw_3_193 tw_6_78 tc_3_194 tw_1_4 hyX3 hnX3_isTold rfl (Nat.le_of_ble_eq_true rfl) dX11_toldBits_13 (G3_isTold_met C.2.2.2.2.2.2.2.1 (Nat.le_refl _) o_r8 h) (fun r0 μ9 hq => ?_)
    obtain ⟨r10, rfl, h⟩ := hq
    refine x_st [.int r10] rfl ?_
    refine x_if_eq (tgt := 25) C dX11_toldBits_16 (by decide) (fun c11 => ?_) (fun c11 => ?_)
    · have h := h.1 c11
      refine x_iinc (v := (x.2.1 + 1)) C [(2, .int (x.2.1 + 1)), (0, .ref a0), (1, .int x.1)] 2 rfl (congrArg (fun z => x.2.1 + z) (by decide : Int32.ofInt (1) = 1)) (Nat.le_of_ble_eq_true rfl) rfl dX11_toldBits_25 ?_
      refine x_goto (tgt := 4) C dX11_toldBits_28 (by decide) ?_
      refine x_sub [(0, .ref a0), (1, .int x.1), (2, .int (x.2.1 + 1))] [1, 2, 0] rfl ?_
      exact hK4 _ _ _ h
    · have h := h.2 c11
      refine x_iload_n C rfl 1 rfl dX11_toldBits_19 ?_
      refine x_iconst (v := 1) C (by decide) dX11_toldBits_20 ?_
      refine x_iload_n C rfl 2 rfl dX11_toldBits_21 ?_
      refine x_ishl C dX11_toldBits_22 ?_
      refine x_ior C dX11_toldBits_23 ?_
      refine x_topi (fun y12 e_y12 => ?_)
      have h := h y12 e_y12
      refine x_istore_n C [(1, .int y12), (0, .ref a0), (2, .int x.2.1)] rfl (Nat.le_of_ble_eq_true rfl) rfl dX11_toldBits_24 ?_
      refine x_iinc (v := (x.2.1 + 1)) C [(2, .int (x.2.1 + 1)), (1, .int y12), (0, .ref a0)] 2 rfl (congrArg (fun z => x.2.1 + z) (by decide : Int32.ofInt (1) = 1)) (Nat.le_of_ble_eq_true rfl) rfl dX11_toldBits_25 ?_
      refine x_goto (tgt := 4) C dX11_toldBits_28 (by decide) ?_
      refine x_sub [(0, .ref a0), (1, .int y12), (2, .int (x.2.1 + 1))] [2, 1, 0] rfl ?_
      exact hK4 _ _ _ h
theorem G11_toldBits_L4_ok {p : Program} {e : Env} {s : State} {m : MethodId} {args : Array Value} {below : List Frame} {meth : Method} {c : Code} {l : Launch} {φ : Nat → Nat} {tc : Nat → ClassId} {D : va_G} {s0 : State} {dR : Nat} (C : CX p s m args meth c φ tc D (AX φ) s0 cX11_toldBits RX11 3) (hd : G11_toldBits_dep ≤ dR) (hr : meth.sig.returnType = (some .int)) {a0 : Nat}  {Q : Int32 → MM → Prop}  {x : Int32 × Int32 × MM} (o_a0 : Ob a0 17)   (h : Lp (G11_toldBits_L4 a0 Q) x) : WX p l e (rmX dR) s m args below meth c φ tc D (AX φ) 3 0 0 (MQ below (QX φ tc D (QI Q)) args s 0 0 (AX φ)) 4 [(0, .ref a0), (1, .int x.1), (2, .int x.2.1)] [] x.2.2 := by
  obtain ⟨n, h⟩ := h
  induction n generalizing x with
  | zero => exact h.elim
  | succ n ih => exact G11_toldBits_L4_b C hd hr o_a0  (fun z1 z2 zμ hz => by have q := ih hz; exact q) h
set_option maxHeartbeats 4000000 in
set_option maxRecDepth 100000 in
theorem G11_toldBits_met {l : Launch} {φ : Nat → Nat} {tc : Nat → ClassId} {D : va_G} {s0 : State} (hG : GX φ tc D s0) {dR : Nat} (hd : G11_toldBits_dep ≤ dR) {a0 : Nat} {μ : MM} {Q : Int32 → MM → Prop} (o_a0 : Ob a0 17) (h : G11_toldBits a0 μ Q) : MX l φ tc D s0 dR yX11_toldBits cX11_toldBits 3 (some .int) [.ref a0] μ (QI Q) := by
  refine MX.of (own := RX11) hG plX11 rfl (Nat.le_of_ble_eq_true rfl) (fun p e s m args below meth c C hr => ?_)
  refine x_sub [(0, .ref a0)] [0] rfl ?_
  unfold G11_toldBits at h
  refine x_iconst (v := 0) C (by decide) dX11_toldBits_0 ?_
  refine x_istore_n C [(1, .int 0), (0, .ref a0)] rfl (Nat.le_of_ble_eq_true rfl) rfl dX11_toldBits_1 ?_
  refine x_iconst (v := 0) C (by decide) dX11_toldBits_2 ?_
  refine x_istore_n C [(2, .int 0), (1, .int 0), (0, .ref a0)] rfl (Nat.le_of_ble_eq_true rfl) rfl dX11_toldBits_3 ?_
  refine x_sub [(0, .ref a0), (1, .int 0), (2, .int 0)] [2, 1, 0] rfl ?_
  exact G11_toldBits_L4_ok C hd hr o_a0 h
set_option maxHeartbeats 4000000 in
set_option maxRecDepth 100000 in
theorem G10_readCount_L4_b {p : Program} {e : Env} {s : State} {m : MethodId} {args : Array Value} {below : List Frame} {meth : Method} {c : Code} {l : Launch} {φ : Nat → Nat} {tc : Nat → ClassId} {D : va_G} {s0 : State} {dR : Nat} (C : CX p s m args meth c φ tc D (AX φ) s0 cX10_readCount RX10 3) (hd : G10_readCount_dep ≤ dR) (hr : meth.sig.returnType = (some .int))   {Q : Int32 → MM → Prop} {K4 : Int32 × Int32 × MM → Prop} {x : Int32 × Int32 × MM}   (hK4 : ∀ (z1 : Int32) (z2 : Int32) (zμ : MM), K4 (z1, z2, zμ) → WX p l e (rmX dR) s m args below meth c φ tc D (AX φ) 3 0 0 (MQ below (QX φ tc D (QI Q)) args s 0 0 (AX φ)) 4 [(0, .ref 1), (1, .int z1), (2, .int z2)] [] zμ) (h : G10_readCount_L4  Q K4 x) : WX p l e (rmX dR) s m args below meth c φ tc D (AX φ) 3 0 0 (MQ below (QX φ tc D (QI Q)) args s 0 0 (AX φ)) 4 [(0, .ref 1), (1, .int x.1), (2, .int x.2.1)] [] x.2.2 := by
  unfold G10_readCount_L4 at h
  refine x_iload_n C rfl 2 rfl dX10_readCount_4 ?_
  refine x_aload_n C rfl 0 rfl dX10_readCount_5 ?_
  refine x_getI C (j := 10) ob1.1 ob1.2 (Nat.le_of_ble_eq_true rfl) (Nat.le_of_ble_eq_true rfl) (Or.inl rfl) tw_1_153 dX10_readCount_6 ?_
  refine x_icmp_ge (tgt := 38) C dX10_readCount_9 (by decide) (fun c4 => ?_) (fun c4 => ?_)
  · have h := h.1 c4
    refine x_iload_n C rfl 1 rfl dX10_readCount_38 ?_
    exact x_iret C hr dX10_readCount_39 ⟨_, rfl, h⟩
  · have h := h.2 c4
    refine x_iload_n C rfl 1 rfl dX10_readCount_12 ?_
    refine x_aload_n C rfl 0 rfl dX10_readCount_13 ?_
    refine x_getR (r := 9) C (j := 9) ob1.1 ob1.2 (Nat.le_of_ble_eq_true rfl) (Nat.le_of_ble_eq_true rfl) (fun _ _ _ => rfl) r_1_9 tw_1_143 dX10_readCount_14 ?_
    refine x_iload_n C rfl 2 rfl dX10_readCount_17 ?_
    obtain ⟨c5, h⟩ := h
    refine x_aald (r := (19 + x.2.1.toNatClampNeg)) C ob9.1 (by decide) (by decide) c5 rfl (rA9 c5) dX10_readCount_18 ?_
    refine x_getIN C (j := 6) (obA9 c5).1 (obA9 c5).2 (Nat.le_of_ble_eq_true rfl) (Nat.le_of_ble_eq_true rfl) (Or.inr rfl) tw_1_74 dX10_readCount_19 ?_
    refine x_if_eq (tgt := 29) C dX10_readCount_22 (by decide) (fun c6 => ?_) (fun c6 => ?_)
    · have h := h.1 c6
      refine x_iconst (v := 0) C (by decide) dX10_readCount_29 ?_
      refine x_iadd C dX10_readCount_30 ?_
      refine x_topi (fun y7 e_y7 => ?_)
      have h := h y7 e_y7
      refine x_istore_n C [(1, .int y7), (0, .ref 1), (2, .int x.2.1)] rfl (Nat.le_of_ble_eq_true rfl) rfl dX10_readCount_31 ?_
      refine x_iinc (v := (x.2.1 + 1)) C [(2, .int (x.2.1 + 1)), (1, .int y7), (0, .ref 1)] 2 rfl (congrArg (fun z => x.2.1 + z) (by decide : Int32.ofInt (1) = 1)) (Nat.le_of_ble_eq_true rfl) rfl dX10_readCount_32 ?_
      refine x_goto (tgt := 4) C dX10_readCount_35 (by decide) ?_
      refine x_sub [(0, .ref 1), (1, .int y7), (2, .int (x.2.1 + 1))] [2, 1, 0] rfl ?_
      exact hK4 _ _ _ h
    · have h := h.2 c6
      refine x_iconst (v := 1) C (by decide) dX10_readCount_25 ?_
      refine x_goto (tgt := 30) C dX10_readCount_26 (by decide) ?_
      refine x_iadd C dX10_readCount_30 ?_
      refine x_topi (fun y8 e_y8 => ?_)
      have h := h y8 e_y8
      refine x_istore_n C [(1, .int y8), (0, .ref 1), (2, .int x.2.1)] rfl (Nat.le_of_ble_eq_true rfl) rfl dX10_readCount_31 ?_
      refine x_iinc (v := (x.2.1 + 1)) C [(2, .int (x.2.1 + 1)), (1, .int y8), (0, .ref 1)] 2 rfl (congrArg (fun z => x.2.1 + z) (by decide : Int32.ofInt (1) = 1)) (Nat.le_of_ble_eq_true rfl) rfl dX10_readCount_32 ?_
      refine x_goto (tgt := 4) C dX10_readCount_35 (by decide) ?_
      refine x_sub [(0, .ref 1), (1, .int y8), (2, .int (x.2.1 + 1))] [2, 1, 0] rfl ?_
      exact hK4 _ _ _ h
theorem G10_readCount_L4_ok {p : Program} {e : Env} {s : State} {m : MethodId} {args : Array Value} {below : List Frame} {meth : Method} {c : Code} {l : Launch} {φ : Nat → Nat} {tc : Nat → ClassId} {D : va_G} {s0 : State} {dR : Nat} (C : CX p s m args meth c φ tc D (AX φ) s0 cX10_readCount RX10 3) (hd : G10_readCount_dep ≤ dR) (hr : meth.sig.returnType = (some .int))   {Q : Int32 → MM → Prop}  {x : Int32 × Int32 × MM}    (h : Lp (G10_readCount_L4  Q) x) : WX p l e (rmX dR) s m args below meth c φ tc D (AX φ) 3 0 0 (MQ below (QX φ tc D (QI Q)) args s 0 0 (AX φ)) 4 [(0, .ref 1), (1, .int x.1), (2, .int x.2.1)] [] x.2.2 := by
  obtain ⟨n, h⟩ := h
  induction n generalizing x with
  | zero => exact h.elim
  | succ n ih => exact G10_readCount_L4_b C hd hr   (fun z1 z2 zμ hz => by have q := ih hz; exact q) h
set_option maxHeartbeats 4000000 in
set_option maxRecDepth 100000 in
theorem G10_readCount_met {l : Launch} {φ : Nat → Nat} {tc : Nat → ClassId} {D : va_G} {s0 : State} (hG : GX φ tc D s0) {dR : Nat} (hd : G10_readCount_dep ≤ dR)  {μ : MM} {Q : Int32 → MM → Prop}  (h : G10_readCount  μ Q) : MX l φ tc D s0 dR yX10_readCount cX10_readCount 3 (some .int) [.ref 1] μ (QI Q) := by
  refine MX.of (own := RX10) hG plX10 rfl (Nat.le_of_ble_eq_true rfl) (fun p e s m args below meth c C hr => ?_)
  refine x_sub [(0, .ref 1)] [0] rfl ?_
  unfold G10_readCount at h
  refine x_iconst (v := 0) C (by decide) dX10_readCount_0 ?_
  refine x_istore_n C [(1, .int 0), (0, .ref 1)] rfl (Nat.le_of_ble_eq_true rfl) rfl dX10_readCount_1 ?_
  refine x_iconst (v := 0) C (by decide) dX10_readCount_2 ?_
  refine x_istore_n C [(2, .int 0), (1, .int 0), (0, .ref 1)] rfl (Nat.le_of_ble_eq_true rfl) rfl dX10_readCount_3 ?_
  refine x_sub [(0, .ref 1), (1, .int 0), (2, .int 0)] [2, 1, 0] rfl ?_
  exact G10_readCount_L4_ok C hd hr  h
set_option maxHeartbeats 4000000 in
set_option maxRecDepth 100000 in
theorem G10_rungCount_L4_b {p : Program} {e : Env} {s : State} {m : MethodId} {args : Array Value} {below : List Frame} {meth : Method} {c : Code} {l : Launch} {φ : Nat → Nat} {tc : Nat → ClassId} {D : va_G} {s0 : State} {dR : Nat} (C : CX p s m args meth c φ tc D (AX φ) s0 cX10_rungCount RX10 3) (hd : G10_rungCount_dep ≤ dR) (hr : meth.sig.returnType = (some .int))   {Q : Int32 → MM → Prop} {K4 : Int32 × Int32 × MM → Prop} {x : Int32 × Int32 × MM}   (hK4 : ∀ (z1 : Int32) (z2 : Int32) (zμ : MM), K4 (z1, z2, zμ) → WX p l e (rmX dR) s m args below meth c φ tc D (AX φ) 3 0 0 (MQ below (QX φ tc D (QI Q)) args s 0 0 (AX φ)) 4 [(0, .ref 1), (1, .int z1), (2, .int z2)] [] zμ) (h : G10_rungCount_L4  Q K4 x) : WX p l e (rmX dR) s m args below meth c φ tc D (AX φ) 3 0 0 (MQ below (QX φ tc D (QI Q)) args s 0 0 (AX φ)) 4 [(0, .ref 1), (1, .int x.1), (2, .int x.2.1)] [] x.2.2 := by
  unfold G10_rungCount_L4 at h
  refine x_iload_n C rfl 2 rfl dX10_rungCount_4 ?_
  refine x_aload_n C rfl 0 rfl dX10_rungCount_5 ?_
  refine x_getI C (j := 10) ob1.1 ob1.2 (Nat.le_of_ble_eq_true rfl) (Nat.le_of_ble_eq_true rfl) (Or.inl rfl) tw_1_153 dX10_rungCount_6 ?_
  refine x_icmp_ge (tgt := 38) C dX10_rungCount_9 (by decide) (fun c4 => ?_) (fun c4 => ?_)
  · have h := h.1 c4
    refine x_iload_n C rfl 1 rfl dX10_rungCount_38 ?_
    exact x_iret C hr dX10_rungCount_39 ⟨_, rfl, h⟩
  · have h := h.2 c4
    refine x_iload_n C rfl 1 rfl dX10_rungCount_12 ?_
    refine x_aload_n C rfl 0 rfl dX10_rungCount_13 ?_
    refine x_getR (r := 9) C (j := 9) ob1.1 ob1.2 (Nat.le_of_ble_eq_true rfl) (Nat.le_of_ble_eq_true rfl) (fun _ _ _ => rfl) r_1_9 tw_1_143 dX10_rungCount_14 ?_
    refine x_iload_n C rfl 2 rfl dX10_rungCount_17 ?_
    obtain ⟨c5, h⟩ := h
    refine x_aald (r := (19 + x.2.1.toNatClampNeg)) C ob9.1 (by decide) (by decide) c5 rfl (rA9 c5) dX10_rungCount_18 ?_
    refine x_getIN C (j := 7) (obA9 c5).1 (obA9 c5).2 (Nat.le_of_ble_eq_true rfl) (Nat.le_of_ble_eq_true rfl) (Or.inr rfl) tw_1_80 dX10_rungCount_19 ?_
    refine x_if_eq (tgt := 29) C dX10_rungCount_22 (by decide) (fun c6 => ?_) (fun c6 => ?_)
    · have h := h.1 c6
      refine x_iconst (v := 0) C (by decide) dX10_rungCount_29 ?_
      refine x_iadd C dX10_rungCount_30 ?_
      refine x_topi (fun y7 e_y7 => ?_)
      have h := h y7 e_y7
      refine x_istore_n C [(1, .int y7), (0, .ref 1), (2, .int x.2.1)] rfl (Nat.le_of_ble_eq_true rfl) rfl dX10_rungCount_31 ?_
      refine x_iinc (v := (x.2.1 + 1)) C [(2, .int (x.2.1 + 1)), (1, .int y7), (0, .ref 1)] 2 rfl (congrArg (fun z => x.2.1 + z) (by decide : Int32.ofInt (1) = 1)) (Nat.le_of_ble_eq_true rfl) rfl dX10_rungCount_32 ?_
      refine x_goto (tgt := 4) C dX10_rungCount_35 (by decide) ?_
      refine x_sub [(0, .ref 1), (1, .int y7), (2, .int (x.2.1 + 1))] [2, 1, 0] rfl ?_
      exact hK4 _ _ _ h
    · have h := h.2 c6
      refine x_iconst (v := 1) C (by decide) dX10_rungCount_25 ?_
      refine x_goto (tgt := 30) C dX10_rungCount_26 (by decide) ?_
      refine x_iadd C dX10_rungCount_30 ?_
      refine x_topi (fun y8 e_y8 => ?_)
      have h := h y8 e_y8
      refine x_istore_n C [(1, .int y8), (0, .ref 1), (2, .int x.2.1)] rfl (Nat.le_of_ble_eq_true rfl) rfl dX10_rungCount_31 ?_
      refine x_iinc (v := (x.2.1 + 1)) C [(2, .int (x.2.1 + 1)), (1, .int y8), (0, .ref 1)] 2 rfl (congrArg (fun z => x.2.1 + z) (by decide : Int32.ofInt (1) = 1)) (Nat.le_of_ble_eq_true rfl) rfl dX10_rungCount_32 ?_
      refine x_goto (tgt := 4) C dX10_rungCount_35 (by decide) ?_
      refine x_sub [(0, .ref 1), (1, .int y8), (2, .int (x.2.1 + 1))] [2, 1, 0] rfl ?_
      exact hK4 _ _ _ h
theorem G10_rungCount_L4_ok {p : Program} {e : Env} {s : State} {m : MethodId} {args : Array Value} {below : List Frame} {meth : Method} {c : Code} {l : Launch} {φ : Nat → Nat} {tc : Nat → ClassId} {D : va_G} {s0 : State} {dR : Nat} (C : CX p s m args meth c φ tc D (AX φ) s0 cX10_rungCount RX10 3) (hd : G10_rungCount_dep ≤ dR) (hr : meth.sig.returnType = (some .int))   {Q : Int32 → MM → Prop}  {x : Int32 × Int32 × MM}    (h : Lp (G10_rungCount_L4  Q) x) : WX p l e (rmX dR) s m args below meth c φ tc D (AX φ) 3 0 0 (MQ below (QX φ tc D (QI Q)) args s 0 0 (AX φ)) 4 [(0, .ref 1), (1, .int x.1), (2, .int x.2.1)] [] x.2.2 := by
  obtain ⟨n, h⟩ := h
  induction n generalizing x with
  | zero => exact h.elim
  | succ n ih => exact G10_rungCount_L4_b C hd hr   (fun z1 z2 zμ hz => by have q := ih hz; exact q) h
set_option maxHeartbeats 4000000 in
set_option maxRecDepth 100000 in
theorem G10_rungCount_met {l : Launch} {φ : Nat → Nat} {tc : Nat → ClassId} {D : va_G} {s0 : State} (hG : GX φ tc D s0) {dR : Nat} (hd : G10_rungCount_dep ≤ dR)  {μ : MM} {Q : Int32 → MM → Prop}  (h : G10_rungCount  μ Q) : MX l φ tc D s0 dR yX10_rungCount cX10_rungCount 3 (some .int) [.ref 1] μ (QI Q) := by
  refine MX.of (own := RX10) hG plX10 rfl (Nat.le_of_ble_eq_true rfl) (fun p e s m args below meth c C hr => ?_)
  refine x_sub [(0, .ref 1)] [0] rfl ?_
  unfold G10_rungCount at h
  refine x_iconst (v := 0) C (by decide) dX10_rungCount_0 ?_
  refine x_istore_n C [(1, .int 0), (0, .ref 1)] rfl (Nat.le_of_ble_eq_true rfl) rfl dX10_rungCount_1 ?_
  refine x_iconst (v := 0) C (by decide) dX10_rungCount_2 ?_
  refine x_istore_n C [(2, .int 0), (1, .int 0), (0, .ref 1)] rfl (Nat.le_of_ble_eq_true rfl) rfl dX10_rungCount_3 ?_
  refine x_sub [(0, .ref 1), (1, .int 0), (2, .int 0)] [2, 1, 0] rfl ?_
  exact G10_rungCount_L4_ok C hd hr  h
set_option maxHeartbeats 4000000 in
set_option maxRecDepth 100000 in
theorem G11_count_met {l : Launch} {φ : Nat → Nat} {tc : Nat → ClassId} {D : va_G} {s0 : State} (hG : GX φ tc D s0) {dR : Nat} (hd : G11_count_dep ≤ dR) {v1 : Int32} {μ : MM} {Q : Int32 → MM → Prop}  (h : G11_count v1 μ Q) : MX l φ tc D s0 dR yX11_count cX11_count 2 (some .int) [.ref 0, .int v1] μ (QI Q) := by
  refine MX.of (own := RX11) hG plX11 rfl (Nat.le_of_ble_eq_true rfl) (fun p e s m args below meth c C hr => ?_)
  refine x_sub [(0, .ref 0), (1, .int v1)] [0, 1] rfl ?_
  unfold G11_count at h
  refine x_iload_n C rfl 1 rfl dX11_count_0 ?_
  by_cases c9 : v1 = 0
  · have h := h.1 c9
    refine x_tIn (tgt := 56) C dX11_count_1 (by rw [c9]; decide) (by rw [c9]; decide) (by rw [c9]; rfl) (by decide) ?_
    refine x_aload_n C rfl 0 rfl dX11_count_56 ?_
    refine x_getR (r := 1) C (j := 0) ob0.1 ob0.2 (Nat.le_of_ble_eq_true rfl) (Nat.le_of_ble_eq_true rfl) (fun _ _ _ => rfl) r_0_0 tw_2_163 dX11_count_57 ?_
    refine x_getIN C (j := 4) ob1.1 ob1.2 (Nat.le_of_ble_eq_true rfl) (Nat.le_of_ble_eq_true rfl) (Or.inl rfl) tw_1_131 dX11_count_60 ?_
    exact x_iret C hr dX11_count_63 ⟨_, rfl, h⟩
  have h := h.2
  by_cases c10 : v1 = 1
  · have h := h.1 c10
    refine x_tIn (tgt := 64) C dX11_count_1 (by rw [c10]; decide) (by rw [c10]; decide) (by rw [c10]; rfl) (by decide) ?_
    refine x_aload_n C rfl 0 rfl dX11_count_64 ?_
    refine x_getR (r := 1) C (j := 0) ob0.1 ob0.2 (Nat.le_of_ble_eq_true rfl) (Nat.le_of_ble_eq_true rfl) (fun _ _ _ => rfl) r_0_0 tw_2_163 dX11_count_65 ?_
    refine x_getIN C (j := 8) ob1.1 ob1.2 (Nat.le_of_ble_eq_true rfl) (Nat.le_of_ble_eq_true rfl) (Or.inl rfl) tw_1_140 dX11_count_68 ?_
    exact x_iret C hr dX11_count_71 ⟨_, rfl, h⟩
  have h := h.2
  by_cases c11 : v1 = 2
  · have h := h.1 c11
    refine x_tIn (tgt := 72) C dX11_count_1 (by rw [c11]; decide) (by rw [c11]; decide) (by rw [c11]; rfl) (by decide) ?_
    refine x_aload_n C rfl 0 rfl dX11_count_72 ?_
    refine x_getR (r := 1) C (j := 0) ob0.1 ob0.2 (Nat.le_of_ble_eq_true rfl) (Nat.le_of_ble_eq_true rfl) (fun _ _ _ => rfl) r_0_0 tw_2_163 dX11_count_73 ?_
    refine x_getIN C (j := 10) ob1.1 ob1.2 (Nat.le_of_ble_eq_true rfl) (Nat.le_of_ble_eq_true rfl) (Or.inl rfl) tw_1_154 dX11_count_76 ?_
    exact x_iret C hr dX11_count_79 ⟨_, rfl, h⟩
  have h := h.2
  by_cases c12 : v1 = 3
  · have h := h.1 c12
    refine x_tIn (tgt := 80) C dX11_count_1 (by rw [c12]; decide) (by rw [c12]; decide) (by rw [c12]; rfl) (by decide) ?_
    refine x_aload_n C rfl 0 rfl dX11_count_80 ?_
    refine x_getR (r := 1) C (j := 0) ob0.1 ob0.2 (Nat.le_of_ble_eq_true rfl) (Nat.le_of_ble_eq_true rfl) (fun _ _ _ => rfl) r_0_0 tw_2_163 dX11_count_81 ?_
    refine x_callVN (dC := G10_readCount_dep) (as := []) (st := []) C rX kX (Nat.le_trans (Nat.le_of_ble_eq_true rfl) hd) (Nat.le_of_ble_eq_true rfl) ob1.1 ob1.2 (Nat.le_of_ble_eq_true rfl) rfl ts_8_4 tw_6_69 tw_6_67 tc_6_70 tw_1_2 hyX10 hnX10_readCount rfl (Nat.le_of_ble_eq_true rfl) dX11_count_84 (G10_readCount_met C.2.2.2.2.2.2.2.1 (Nat.le_refl _)  h) (fun r0 μ13 hq => ?_)
    obtain ⟨r14, rfl, h⟩ := hq
    refine x_st [.int r14] rfl ?_
    exact x_iret C hr dX11_count_87 ⟨_, rfl, h⟩
  have h := h.2
  by_cases c15 : v1 = 4
  · have h := h.1 c15
    refine x_tIn (tgt := 88) C dX11_count_1 (by rw [c15]; decide) (by rw [c15]; decide) (by rw [c15]; rfl) (by decide) ?_
    refine x_aload_n C rfl 0 rfl dX11_count_88 ?_
    refine x_getR (r := 1) C (j := 0) ob0.1 ob0.2 (Nat.le_of_ble_eq_true rfl) (Nat.le_of_ble_eq_true rfl) (fun _ _ _ => rfl) r_0_0 tw_2_163 dX11_count_89 ?_
    refine x_callVN (dC := G10_rungCount_dep) (as := []) (st := []) C rX kX (Nat.le_trans (Nat.le_of_ble_eq_true rfl) hd) (Nat.le_of_ble_eq_true rfl) ob1.1 ob1.2 (Nat.le_of_ble_eq_true rfl) rfl ts_8_5 tw_6_73 tw_6_71 tc_6_74 tw_1_2 hyX10 hnX10_rungCount rfl (Nat.le_of_ble_eq_true rfl) dX11_count_92 (G10_rungCount_met C.2.2.2.2.2.2.2.1 (Nat.le_refl _)  h) (fun r0 μ16 hq => ?_)
    obtain ⟨r17, rfl, h⟩ := hq
    refine x_st [.int r17] rfl ?_
    exact x_iret C hr dX11_count_95 ⟨_, rfl, h⟩
  have h := h.2
  by_cases c18 : v1 = 5
  · have h := h.1 c18
    refine x_tIn (tgt := 96) C dX11_count_1 (by rw [c18]; decide) (by rw [c18]; decide) (by rw [c18]; rfl) (by decide) ?_
    refine x_aload_n C rfl 0 rfl dX11_count_96 ?_
    refine x_getR (r := 1) C (j := 0) ob0.1 ob0.2 (Nat.le_of_ble_eq_true rfl) (Nat.le_of_ble_eq_true rfl) (fun _ _ _ => rfl) r_0_0 tw_2_163 dX11_count_97 ?_
    refine x_getRN (r := 10) C (j := 11) ob1.1 ob1.2 (Nat.le_of_ble_eq_true rfl) (Nat.le_of_ble_eq_true rfl) (fun _ _ _ => rfl) r_1_11 tw_1_157 dX11_count_100 ?_
    refine x_callS (dC := G11_toldBits_dep) (as := [.ref 10]) (st := []) C rX kX (Nat.le_trans (Nat.le_of_ble_eq_true rfl) hd) (Nat.le_of_ble_eq_true rfl) tw_6_76 tw_6_75 tc_6_77 tw_1_1 hyX11 hnX11_toldBits rfl (Nat.le_of_ble_eq_true rfl) dX11_count_103 (G11_toldBits_met C.2.2.2.2.2.2.2.1 (Nat.le_refl _) ob10 h) (fun r0 μ19 hq => ?_)
    obtain ⟨r20, rfl, h⟩ := hq
    refine x_st [.int r20] rfl ?_
    exact x_iret C hr dX11_count_106 ⟨_, rfl, h⟩
  have h := h.2
  by_cases c21 : v1 = 6
  · have h := h.1 c21
    refine x_tIn (tgt := 107) C dX11_count_1 (by rw [c21]; decide) (by rw [c21]; decide) (by rw [c21]; rfl) (by decide) ?_
    refine x_aload_n C rfl 0 rfl dX11_count_107 ?_
    refine x_getR (r := 1) C (j := 0) ob0.1 ob0.2 (Nat.le_of_ble_eq_true rfl) (Nat.le_of_ble_eq_true rfl) (fun _ _ _ => rfl) r_0_0 tw_2_163 dX11_count_108 ?_
    refine x_getRN (r := 11) C (j := 12) ob1.1 ob1.2 (Nat.le_of_ble_eq_true rfl) (Nat.le_of_ble_eq_true rfl) (fun _ _ _ => rfl) r_1_12 tw_1_159 dX11_count_111 ?_
    refine x_callS (dC := G11_toldBits_dep) (as := [.ref 11]) (st := []) C rX kX (Nat.le_trans (Nat.le_of_ble_eq_true rfl) hd) (Nat.le_of_ble_eq_true rfl) tw_6_76 tw_6_75 tc_6_77 tw_1_1 hyX11 hnX11_toldBits rfl (Nat.le_of_ble_eq_true rfl) dX11_count_114 (G11_toldBits_met C.2.2.2.2.2.2.2.1 (Nat.le_refl _) ob11 h) (fun r0 μ22 hq => ?_)
    obtain ⟨r23, rfl, h⟩ := hq
    refine x_st [.int r23] rfl ?_
    exact x_iret C hr dX11_count_117 ⟨_, rfl, h⟩
  have h := h.2
  by_cases c24 : v1 = 7
  · have h := h.1 c24
    refine x_tIn (tgt := 118) C dX11_count_1 (by rw [c24]; decide) (by rw [c24]; decide) (by rw [c24]; rfl) (by decide) ?_
    refine x_aload_n C rfl 0 rfl dX11_count_118 ?_
    refine x_getR (r := 237) C (j := 5) ob0.1 ob0.2 (Nat.le_of_ble_eq_true rfl) (Nat.le_of_ble_eq_true rfl) (fun _ _ _ => rfl) r_0_5 tw_2_168 dX11_count_119 ?_
    refine x_getIN C (j := 5) ob237.1 ob237.2 (Nat.le_of_ble_eq_true rfl) (Nat.le_of_ble_eq_true rfl) (Or.inl rfl) tw_2_118 dX11_count_122 ?_
    exact x_iret C hr dX11_count_125 ⟨_, rfl, h⟩
  have h := h.2
  by_cases c25 : v1 = 8
  · have h := h.1 c25
    refine x_tIn (tgt := 126) C dX11_count_1 (by rw [c25]; decide) (by rw [c25]; decide) (by rw [c25]; rfl) (by decide) ?_
    refine x_aload_n C rfl 0 rfl dX11_count_126 ?_
    refine x_getR (r := 151) C (j := 1) ob0.1 ob0.2 (Nat.le_of_ble_eq_true rfl) (Nat.le_of_ble_eq_true rfl) (fun _ _ _ => rfl) r_0_1 tw_2_164 dX11_count_127 ?_
    refine x_getIN C (j := 1) ob151.1 ob151.2 (Nat.le_of_ble_eq_true rfl) (Nat.le_of_ble_eq_true rfl) (Or.inl rfl) tw_1_213 dX11_count_130 ?_
    exact x_iret C hr dX11_count_133 ⟨_, rfl, h⟩
  have h := h.2
  by_cases c26 : v1 = 9
  · have h := h.1 c26
    refine x_tIn (tgt := 134) C dX11_count_1 (by rw [c26]; decide) (by rw [c26]; decide) (by rw [c26]; rfl) (by decide) ?_
    refine x_aload_n C rfl 0 rfl dX11_count_134 ?_
    refine x_getI C (j := 8) ob0.1 ob0.2 (Nat.le_of_ble_eq_true rfl) (Nat.le_of_ble_eq_true rfl) (Or.inl rfl) tw_2_171 dX11_count_135 ?_
    exact x_iret C hr dX11_count_138 ⟨_, rfl, h⟩
  have h := h.2
  have h := h c9 c10 c11 c12 c15 c18 c21 c24 c25 c26
  have n_c9 := lv_neT (a := 0) c9 (by decide)
  have n_c10 := lv_neT (a := 1) c10 (by decide)
  have n_c11 := lv_neT (a := 2) c11 (by decide)
  have n_c12 := lv_neT (a := 3) c12 (by decide)
  have n_c15 := lv_neT (a := 4) c15 (by decide)
  have n_c18 := lv_neT (a := 5) c18 (by decide)
  have n_c21 := lv_neT (a := 6) c21 (by decide)
  have n_c24 := lv_neT (a := 7) c24 (by decide)
  have n_c25 := lv_neT (a := 8) c25 (by decide)
  have n_c26 := lv_neT (a := 9) c26 (by decide)
  refine x_tOut (tgt := 139) C dX11_count_1 (by omega) (by decide) ?_
  refine x_iconst (v := (-1)) C (by decide) dX11_count_139 ?_
  exact x_iret C hr dX11_count_140 ⟨_, rfl, h⟩
set_option maxHeartbeats 4000000 in
set_option maxRecDepth 100000 in
theorem G11_row_J15_ok {p : Program} {e : Env} {s : State} {m : MethodId} {args : Array Value} {below : List Frame} {meth : Method} {c : Code} {l : Launch} {φ : Nat → Nat} {tc : Nat → ClassId} {D : va_G} {s0 : State} {dR : Nat} (C : CX p s m args meth c φ tc D (AX φ) s0 cX11_row RX11 2) (hd : G11_row_dep ≤ dR) (hr : meth.sig.returnType = (some .long)) {X : MM → Prop} (hfl : l.stackTraces = false) (hxt : ∀ x ∈ c.exceptionTable.toList, False)   {Q : Int64 → MM → Prop}  {μ : MM}    (h : G11_row_J15 μ Q X) : WX p l e (rmE dR) s m args below meth c φ tc D (AX φ) 2 0 0 (vx_MQ below (QX φ tc D (QJ Q)) (XCX φ tc D X) args s 1 6 (AX φ)) 15 [] [] μ := by
  unfold G11_row_J15 at h
  exact x_throwSW C hfl hxt (i := 3) (by decide) rfl rfl rfl (Nat.le_trans (Nat.le_of_ble_eq_true rfl) hd) dX11_row_15 dX11_row_18 dX11_row_19 dX11_row_22 dX11_row_25 h
set_option maxHeartbeats 4000000 in
set_option maxRecDepth 100000 in
theorem G11_row_met {l : Launch} {φ : Nat → Nat} {tc : Nat → ClassId} {D : va_G} {s0 : State} {X : MM → Prop} (hfl : l.stackTraces = false) (hG : GX φ tc D s0) {dR : Nat} (hd : G11_row_dep ≤ dR) {v1 : Int32} {μ : MM} {Q : Int64 → MM → Prop}  (h : G11_row v1 μ Q X) : MXX l φ tc D s0 dR yX11_row cX11_row 2 (some .long) [.ref 0, .int v1] μ (QJ Q) X := by
  refine MXX.of (own := RX11) hG plX11 rfl (Nat.le_of_ble_eq_true rfl) (fun p e s m args below meth c C hr hxt => ?_)
  refine x_sub [(0, .ref 0), (1, .int v1)] [0, 1] rfl ?_
  unfold G11_row at h
  refine x_iload_n C rfl 1 rfl dX11_row_0 ?_
  refine x_if_lt (tgt := 15) C dX11_row_1 (by decide) (fun c2 => ?_) (fun c2 => ?_)
  · have h := h.1 c2
    refine x_sub [] [] rfl ?_
    exact G11_row_J15_ok C hd hr hfl hxt  h
  · have h := h.2 c2
    refine x_iload_n C rfl 1 rfl dX11_row_4 ?_
    refine x_aload_n C rfl 0 rfl dX11_row_5 ?_
    refine x_getR (r := 151) C (j := 1) ob0.1 ob0.2 (Nat.le_of_ble_eq_true rfl) (Nat.le_of_ble_eq_true rfl) (fun _ _ _ => rfl) r_0_1 tw_2_164 dX11_row_6 ?_
    refine x_getIN C (j := 1) ob151.1 ob151.2 (Nat.le_of_ble_eq_true rfl) (Nat.le_of_ble_eq_true rfl) (Or.inl rfl) tw_1_213 dX11_row_9 ?_
    refine x_icmp_lt (tgt := 26) C dX11_row_12 (by decide) (fun c3 => ?_) (fun c3 => ?_)
    · have h := h.1 c3
      refine x_aload_n C rfl 0 rfl dX11_row_26 ?_
      refine x_getR (r := 151) C (j := 1) ob0.1 ob0.2 (Nat.le_of_ble_eq_true rfl) (Nat.le_of_ble_eq_true rfl) (fun _ _ _ => rfl) r_0_1 tw_2_164 dX11_row_27 ?_
      refine x_getRN (r := 152) C (j := 0) ob151.1 ob151.2 (Nat.le_of_ble_eq_true rfl) (Nat.le_of_ble_eq_true rfl) (fun _ _ _ => rfl) r_151_0 tw_1_211 dX11_row_30 ?_
      refine x_iload_n C rfl 1 rfl dX11_row_33 ?_
      obtain ⟨c4, h⟩ := h
      refine x_lald C ob152.1 ob152.2 c4 rfl dX11_row_34 ?_
      exact x_lretX C hr dX11_row_35 ⟨_, rfl, h⟩
    · have h := h.2 c3
      refine x_sub [] [] rfl ?_
      exact G11_row_J15_ok C hd hr hfl hxt  h
set_option maxHeartbeats 4000000 in
set_option maxRecDepth 100000 in
theorem G12_thrown_met {l : Launch} {φ : Nat → Nat} {tc : Nat → ClassId} {D : va_G} {s0 : State} (hG : GX φ tc D s0) {dR : Nat} (hd : G12_thrown_dep ≤ dR)  {μ : MM} {Q : Int32 → MM → Prop}  (h : G12_thrown  μ Q) : MX l φ tc D s0 dR yX12_thrown cX12_thrown 1 (some .int) [.ref 358] μ (QI Q) := by
  refine MX.of (own := RX12) hG plX12 rfl (Nat.le_of_ble_eq_true rfl) (fun p e s m args below meth c C hr => ?_)
  refine x_sub [(0, .ref 358)] [0] rfl ?_
  unfold G12_thrown at h
  refine x_aload_n C rfl 0 rfl dX12_thrown_0 ?_
  refine x_getI C (j := 0) ob358.1 ob358.2 (Nat.le_of_ble_eq_true rfl) (Nat.le_of_ble_eq_true rfl) (Or.inl rfl) tw_8_206 dX12_thrown_1 ?_
  exact x_iret C hr dX12_thrown_4 ⟨_, rfl, h⟩
set_option maxHeartbeats 4000000 in
set_option maxRecDepth 100000 in
theorem G12_in_J17_ok {p : Program} {e : Env} {s : State} {m : MethodId} {args : Array Value} {below : List Frame} {meth : Method} {c : Code} {l : Launch} {φ : Nat → Nat} {tc : Nat → ClassId} {D : va_G} {s0 : State} {dR : Nat} (C : CX p s m args meth c φ tc D (AX φ) s0 cX12_in RX12 6) (hd : G12_in_dep ≤ dR) (hr : meth.sig.returnType = (some .boolean))    {Q : Int32 → MM → Prop}  {μ : MM}    (h : G12_in_J17 μ Q) : WX p l e (rmX dR) s m args below meth c φ tc D (AX φ) 6 0 0 (MQ below (QX φ tc D (QI Q)) args s 0 0 (AX φ)) 17 [] [] μ := by
  unfold G12_in_J17 at h
  refine x_iconst (v := 0) C (by decide) dX12_in_17 ?_
  exact x_zret C hr bo_0 dX12_in_18 ⟨_, rfl, h⟩
set_option maxHeartbeats 4000000 in
set_option maxRecDepth 100000 in
theorem G12_in_met {l : Launch} {φ : Nat → Nat} {tc : Nat → ClassId} {D : va_G} {s0 : State} (hG : GX φ tc D s0) {dR : Nat} (hd : G12_in_dep ≤ dR) {v0 : Int64} {v2 : Int64} {v4 : Int64} {μ : MM} {Q : Int32 → MM → Prop}  (h : G12_in v0 v2 v4 μ Q) : MX l φ tc D s0 dR yX12_in cX12_in 6 (some .boolean) [.long v0, .long v2, .long v4] μ (QI Q) := by
  refine MX.of (own := RX12) hG plX12 rfl (Nat.le_of_ble_eq_true rfl) (fun p e s m args below meth c C hr => ?_)
  refine x_sub [(0, .long v0), (2, .long v2), (4, .long v4)] [0, 1, 2] rfl ?_
  unfold G12_in at h
  refine x_lload_n C rfl 0 rfl dX12_in_0 ?_
  refine x_lload_n C rfl 1 rfl dX12_in_1 ?_
  refine x_lcmp C dX12_in_2 ?_
  refine x_if_lt (tgt := 17) C dX12_in_3 (by decide) (fun c1 => ?_) (fun c1 => ?_)
  · have h := h.1 c1
    refine x_sub [] [] rfl ?_
    exact G12_in_J17_ok C hd hr  h
  · have h := h.2 c1
    refine x_lload_n C rfl 0 rfl dX12_in_6 ?_
    refine x_lload C 2 rfl dX12_in_7 ?_
    refine x_lcmp C dX12_in_9 ?_
    refine x_if_gt (tgt := 17) C dX12_in_10 (by decide) (fun c2 => ?_) (fun c2 => ?_)
    · have h := h.1 c2
      refine x_sub [] [] rfl ?_
      exact G12_in_J17_ok C hd hr  h
    · have h := h.2 c2
      refine x_iconst (v := 1) C (by decide) dX12_in_13 ?_
      refine x_goto (tgt := 18) C dX12_in_14 (by decide) ?_
      exact x_zret C hr bo_1 dX12_in_18 ⟨_, rfl, h⟩
set_option maxHeartbeats 4000000 in
set_option maxRecDepth 100000 in
theorem G12_has_met {l : Launch} {φ : Nat → Nat} {tc : Nat → ClassId} {D : va_G} {s0 : State} (hG : GX φ tc D s0) {dR : Nat} (hd : G12_has_dep ≤ dR) {v0 : Int32} {v1 : Int32} {μ : MM} {Q : Int32 → MM → Prop}  (h : G12_has v0 v1 μ Q) : MX l φ tc D s0 dR yX12_has cX12_has 2 (some .boolean) [.int v0, .int v1] μ (QI Q) := by
  refine MX.of (own := RX12) hG plX12 rfl (Nat.le_of_ble_eq_true rfl) (fun p e s m args below meth c C hr => ?_)
  refine x_sub [(0, .int v0), (1, .int v1)] [0, 1] rfl ?_
  unfold G12_has at h
  refine x_iload_n C rfl 0 rfl dX12_has_0 ?_
  refine x_iload_n C rfl 1 rfl dX12_has_1 ?_
  refine x_ishr C dX12_has_2 ?_
  refine x_iconst (v := 1) C (by decide) dX12_has_3 ?_
  refine x_iand C dX12_has_4 ?_
  refine x_iconst (v := 1) C (by decide) dX12_has_5 ?_
  refine x_icmp_ne (tgt := 13) C dX12_has_6 (by decide) (fun c1 => ?_) (fun c1 => ?_)
  · have h := h.1 c1
    refine x_iconst (v := 0) C (by decide) dX12_has_13 ?_
    exact x_zret C hr bo_0 dX12_has_14 ⟨_, rfl, h⟩
  · have h := h.2 c1
    refine x_iconst (v := 1) C (by decide) dX12_has_9 ?_
    refine x_goto (tgt := 14) C dX12_has_10 (by decide) ?_
    exact x_zret C hr bo_1 dX12_has_14 ⟨_, rfl, h⟩
set_option maxHeartbeats 4000000 in
set_option maxRecDepth 100000 in
theorem G12_flag_met {l : Launch} {φ : Nat → Nat} {tc : Nat → ClassId} {D : va_G} {s0 : State} (hG : GX φ tc D s0) {dR : Nat} (hd : G12_flag_dep ≤ dR) {v0 : Int32} {μ : MM} {Q : Int32 → MM → Prop}  (h : G12_flag v0 μ Q) : MX l φ tc D s0 dR yX12_flag cX12_flag 1 (some .int) [.int v0] μ (QI Q) := by
  refine MX.of (own := RX12) hG plX12 rfl (Nat.le_of_ble_eq_true rfl) (fun p e s m args below meth c C hr => ?_)
  refine x_sub [(0, .int v0)] [0] rfl ?_
  unfold G12_flag at h
  refine x_iload_n C rfl 0 rfl dX12_flag_0 ?_
  refine x_if_eq (tgt := 8) C dX12_flag_1 (by decide) (fun c1 => ?_) (fun c1 => ?_)
  · have h := h.1 c1
    refine x_iconst (v := 0) C (by decide) dX12_flag_8 ?_
    exact x_iret C hr dX12_flag_9 ⟨_, rfl, h⟩
  · have h := h.2 c1
    refine x_iconst (v := 1) C (by decide) dX12_flag_4 ?_
    refine x_goto (tgt := 9) C dX12_flag_5 (by decide) ?_
    exact x_iret C hr dX12_flag_9 ⟨_, rfl, h⟩
set_option maxHeartbeats 4000000 in
set_option maxRecDepth 100000 in
theorem G12_refuse_met {l : Launch} {φ : Nat → Nat} {tc : Nat → ClassId} {D : va_G} {s0 : State} (hG : GX φ tc D s0) {dR : Nat} (hd : G12_refuse_dep ≤ dR)  {μ : MM} {Q : Int32 → MM → Prop}  (h : G12_refuse  μ Q) : MX l φ tc D s0 dR yX12_refuse cX12_refuse 1 (some .int) [.ref 358] μ (QI Q) := by
  refine MX.of (own := RX12) hG plX12 rfl (Nat.le_of_ble_eq_true rfl) (fun p e s m args below meth c C hr => ?_)
  refine x_sub [(0, .ref 358)] [0] rfl ?_
  unfold G12_refuse at h
  refine x_aload_n C rfl 0 rfl dX12_refuse_0 ?_
  refine x_iconst (v := 1) C (by decide) dX12_refuse_1 ?_
  refine x_putI C (j := 0) ob358.1 ob358.2 (Nat.le_of_ble_eq_true rfl) (Nat.le_of_ble_eq_true rfl) (Or.inl rfl) rfl rfl rfl tw_8_206 dX12_refuse_2 ?_
  refine x_mu (fun μ2 e_μ2 => ?_)
  have h := h μ2 e_μ2
  refine x_iconst (v := 0) C (by decide) dX12_refuse_5 ?_
  exact x_iret C hr dX12_refuse_6 ⟨_, rfl, h⟩
set_option maxHeartbeats 4000000 in
set_option maxRecDepth 100000 in
theorem G12_enters_met {l : Launch} {φ : Nat → Nat} {tc : Nat → ClassId} {D : va_G} {s0 : State} (hG : GX φ tc D s0) {dR : Nat} (hd : G12_enters_dep ≤ dR) {v1 : Int64} {μ : MM} {Q : MM → Prop}  (h : G12_enters v1 μ Q) : MX l φ tc D s0 dR yX12_enters cX12_enters 3 none [.ref 358, .long v1] μ (QV Q) := by
  refine MX.of (own := RX12) hG plX12 rfl (Nat.le_of_ble_eq_true rfl) (fun p e s m args below meth c C hr => ?_)
  refine x_sub [(0, .ref 358), (1, .long v1)] [0, 1] rfl ?_
  unfold G12_enters at h
  refine x_aload_n C rfl 0 rfl dX12_enters_0 ?_
  refine x_getR (r := 359) C (j := 2) ob358.1 ob358.2 (Nat.le_of_ble_eq_true rfl) (Nat.le_of_ble_eq_true rfl) (fun _ _ _ => rfl) r_358_2 tw_8_208 dX12_enters_1 ?_
  refine x_aload_n C rfl 0 rfl dX12_enters_4 ?_
  refine x_getI C (j := 1) ob358.1 ob358.2 (Nat.le_of_ble_eq_true rfl) (Nat.le_of_ble_eq_true rfl) (Or.inl rfl) tw_8_207 dX12_enters_5 ?_
  refine x_lload_n C rfl 1 rfl dX12_enters_8 ?_
  obtain ⟨c4, h⟩ := h
  refine x_last C ob359.1 ob359.2 c4 rfl dX12_enters_9 ?_
  refine x_mu (fun μ5 e_μ5 => ?_)
  have h := h μ5 e_μ5
  refine x_aload_n C rfl 0 rfl dX12_enters_10 ?_
  refine x_dup C rfl dX12_enters_11 ?_
  refine x_getI C (j := 1) ob358.1 ob358.2 (Nat.le_of_ble_eq_true rfl) (Nat.le_of_ble_eq_true rfl) (Or.inl rfl) tw_8_207 dX12_enters_12 ?_
  refine x_iconst (v := 1) C (by decide) dX12_enters_15 ?_
  refine x_iadd C dX12_enters_16 ?_
  refine x_putI C (j := 1) ob358.1 ob358.2 (Nat.le_of_ble_eq_true rfl) (Nat.le_of_ble_eq_true rfl) (Or.inl rfl) rfl rfl rfl tw_8_207 dX12_enters_17 ?_
  refine x_mu (fun μ6 e_μ6 => ?_)
  have h := h μ6 e_μ6
  exact x_vret C hr dX12_enters_20 ⟨rfl, h⟩
set_option maxHeartbeats 4000000 in
set_option maxRecDepth 100000 in
theorem G12_common_L17_b {p : Program} {e : Env} {s : State} {m : MethodId} {args : Array Value} {below : List Frame} {meth : Method} {c : Code} {l : Launch} {φ : Nat → Nat} {tc : Nat → ClassId} {D : va_G} {s0 : State} {dR : Nat} (C : CX p s m args meth c φ tc D (AX φ) s0 cX12_common RX12 10) (hd : G12_common_dep ≤ dR) (hr : meth.sig.returnType = (some .long))   {Q : Int64 → MM → Prop} {K17 : Int64 × Int64 × MM → Prop} {x : Int64 × Int64 × MM}   (hK17 : ∀ (z4 : Int64) (z6 : Int64) (zμ : MM), K17 (z4, z6, zμ) → WX p l e (rmX dR) s m args below meth c φ tc D (AX φ) 10 0 0 (MQ below (QX φ tc D (QJ Q)) args s 0 0 (AX φ)) 17 [(4, .long z4), (6, .long z6)] [] zμ) (h : G12_common_L17  Q K17 x) : WX p l e (rmX dR) s m args below meth c φ tc D (AX φ) 10 0 0 (MQ below (QX φ tc D (QJ Q)) args s 0 0 (AX φ)) 17 [(4, .long x.1), (6, .long x.2.1)] [] x.2.2 := by
  unfold G12_common_L17 at h
  refine x_lload C 1 rfl dX12_common_17 ?_
  refine x_lconst (v := 0) C (by decide) dX12_common_19 ?_
  refine x_lcmp C dX12_common_20 ?_
  refine x_if_eq (tgt := 42) C dX12_common_21 (by decide) (fun c5 => ?_) (fun c5 => ?_)
  · have h := h.1 c5
    refine x_lload C 0 rfl dX12_common_42 ?_
    exact x_lret C hr dX12_common_44 ⟨_, rfl, h⟩
  · have h := h.2 c5
    refine x_lload C 0 rfl dX12_common_24 ?_
    refine x_lload C 1 rfl dX12_common_26 ?_
    obtain ⟨c6, h⟩ := h
    refine x_lrem C c6 dX12_common_28 ?_
    refine x_topl (fun y7 e_y7 => ?_)
    have h := h y7 e_y7
    refine x_lstore C [(8, .long y7), (4, .long x.1), (6, .long x.2.1)] (Nat.le_of_ble_eq_true rfl) rfl dX12_common_29 ?_
    refine x_lload C 2 rfl dX12_common_31 ?_
    refine x_lstore C [(4, .long x.2.1), (8, .long y7), (6, .long x.2.1)] (Nat.le_of_ble_eq_true rfl) rfl dX12_common_33 ?_
    refine x_lload C 1 rfl dX12_common_35 ?_
    refine x_lstore C [(6, .long y7), (4, .long x.2.1), (8, .long y7)] (Nat.le_of_ble_eq_true rfl) rfl dX12_common_37 ?_
    refine x_goto (tgt := 17) C dX12_common_39 (by decide) ?_
    refine x_sub [(4, .long x.2.1), (6, .long y7)] [1, 0] rfl ?_
    exact hK17 _ _ _ h
theorem G12_common_L17_ok {p : Program} {e : Env} {s : State} {m : MethodId} {args : Array Value} {below : List Frame} {meth : Method} {c : Code} {l : Launch} {φ : Nat → Nat} {tc : Nat → ClassId} {D : va_G} {s0 : State} {dR : Nat} (C : CX p s m args meth c φ tc D (AX φ) s0 cX12_common RX12 10) (hd : G12_common_dep ≤ dR) (hr : meth.sig.returnType = (some .long))   {Q : Int64 → MM → Prop}  {x : Int64 × Int64 × MM}    (h : Lp (G12_common_L17  Q) x) : WX p l e (rmX dR) s m args below meth c φ tc D (AX φ) 10 0 0 (MQ below (QX φ tc D (QJ Q)) args s 0 0 (AX φ)) 17 [(4, .long x.1), (6, .long x.2.1)] [] x.2.2 := by
  obtain ⟨n, h⟩ := h
  induction n generalizing x with
  | zero => exact h.elim
  | succ n ih => exact G12_common_L17_b C hd hr   (fun z4 z6 zμ hz => by have q := ih hz; exact q) h
set_option maxHeartbeats 4000000 in
set_option maxRecDepth 100000 in
theorem G12_common_met {l : Launch} {φ : Nat → Nat} {tc : Nat → ClassId} {D : va_G} {s0 : State} (hG : GX φ tc D s0) {dR : Nat} (hd : G12_common_dep ≤ dR) {v0 : Int64} {v2 : Int64} {μ : MM} {Q : Int64 → MM → Prop}  (h : G12_common v0 v2 μ Q) : MX l φ tc D s0 dR yX12_common cX12_common 10 (some .long) [.long v0, .long v2] μ (QJ Q) := by
  refine MX.of (own := RX12) hG plX12 rfl (Nat.le_of_ble_eq_true rfl) (fun p e s m args below meth c C hr => ?_)
  refine x_sub [(0, .long v0), (2, .long v2)] [0, 1] rfl ?_
  unfold G12_common at h
  refine x_lload_n C rfl 0 rfl dX12_common_0 ?_
  refine x_lconst (v := 0) C (by decide) dX12_common_1 ?_
  refine x_lcmp C dX12_common_2 ?_
  refine x_if_ge (tgt := 11) C dX12_common_3 (by decide) (fun c4 => ?_) (fun c4 => ?_)
  · have h := h.1 c4
    refine x_lload_n C rfl 0 rfl dX12_common_11 ?_
    refine x_lstore C [(4, .long v0), (0, .long v0), (2, .long v2)] (Nat.le_of_ble_eq_true rfl) rfl dX12_common_12 ?_
    refine x_lload_n C rfl 2 rfl dX12_common_14 ?_
    refine x_lstore C [(6, .long v2), (4, .long v0), (0, .long v0), (2, .long v2)] (Nat.le_of_ble_eq_true rfl) rfl dX12_common_15 ?_
    refine x_sub [(4, .long v0), (6, .long v2)] [1, 0] rfl ?_
    exact G12_common_L17_ok C hd hr  h
  · have h := h.2 c4
    refine x_lload_n C rfl 0 rfl dX12_common_6 ?_
    refine x_lneg C dX12_common_7 ?_
    refine x_goto (tgt := 12) C dX12_common_8 (by decide) ?_
    refine x_topl (fun y8 e_y8 => ?_)
    have h := h y8 e_y8
    refine x_lstore C [(4, .long y8), (0, .long v0), (2, .long v2)] (Nat.le_of_ble_eq_true rfl) rfl dX12_common_12 ?_
    refine x_lload_n C rfl 2 rfl dX12_common_14 ?_
    refine x_lstore C [(6, .long v2), (4, .long y8), (0, .long v0), (2, .long v2)] (Nat.le_of_ble_eq_true rfl) rfl dX12_common_15 ?_
    refine x_sub [(4, .long y8), (6, .long v2)] [1, 0] rfl ?_
    exact G12_common_L17_ok C hd hr  h
set_option maxHeartbeats 4000000 in
set_option maxRecDepth 100000 in
theorem G12_entersFraction_met {l : Launch} {φ : Nat → Nat} {tc : Nat → ClassId} {D : va_G} {s0 : State} (hG : GX φ tc D s0) {dR : Nat} (hd : G12_entersFraction_dep ≤ dR) {v1 : Int64} {v3 : Int64} {μ : MM} {Q : MM → Prop}  (h : G12_entersFraction v1 v3 μ Q) : MX l φ tc D s0 dR yX12_entersFraction cX12_entersFraction 7 none [.ref 358, .long v1, .long v3] μ (QV Q) := by
  refine MX.of (own := RX12) hG plX12 rfl (Nat.le_of_ble_eq_true rfl) (fun p e s m args below meth c C hr => ?_)
  refine x_sub [(0, .ref 358), (1, .long v1), (3, .long v3)] [0, 1, 2] rfl ?_
  unfold G12_entersFraction at h
  refine x_lload_n C rfl 1 rfl dX12_entersFraction_0 ?_
  refine x_lload_n C rfl 2 rfl dX12_entersFraction_1 ?_
  refine x_callS (dC := G12_common_dep) (as := [.long v1, .long v3]) (st := []) C rX kX (Nat.le_trans (Nat.le_of_ble_eq_true rfl) hd) (Nat.le_of_ble_eq_true rfl) tw_7_157 tw_7_156 tc_7_158 tw_1_13 hyX12 hnX12_common rfl (Nat.le_of_ble_eq_true rfl) dX12_entersFraction_2 (G12_common_met C.2.2.2.2.2.2.2.1 (Nat.le_refl _)  h) (fun r0 μ7 hq => ?_)
  obtain ⟨r8, rfl, h⟩ := hq
  refine x_st [.long r8] rfl ?_
  refine x_lstore C [(5, .long r8), (0, .ref 358), (1, .long v1), (3, .long v3)] (Nat.le_of_ble_eq_true rfl) rfl dX12_entersFraction_5 ?_
  refine x_aload_n C rfl 1 rfl dX12_entersFraction_7 ?_
  refine x_lload_n C rfl 2 rfl dX12_entersFraction_8 ?_
  refine x_lload C 0 rfl dX12_entersFraction_9 ?_
  obtain ⟨c9, h⟩ := h
  refine x_ldiv C c9 dX12_entersFraction_11 ?_
  refine x_callV (dC := G12_enters_dep) (as := [.long (v1 / r8)]) (st := []) C rX kX (Nat.le_trans (Nat.le_of_ble_eq_true rfl) hd) (Nat.le_of_ble_eq_true rfl) ob358.1 ob358.2 (Nat.le_of_ble_eq_true rfl) rfl ts_10_1 tw_7_161 tw_7_159 tc_7_162 tw_1_13 hyX12 hnX12_enters rfl (Nat.le_of_ble_eq_true rfl) dX12_entersFraction_12 (G12_enters_met C.2.2.2.2.2.2.2.1 (Nat.le_refl _)  h) (fun r0 μ10 hq => ?_)
  obtain ⟨rfl, h⟩ := hq
  refine x_st [] rfl ?_
  refine x_aload_n C rfl 1 rfl dX12_entersFraction_15 ?_
  refine x_lload_n C rfl 3 rfl dX12_entersFraction_16 ?_
  refine x_lload C 0 rfl dX12_entersFraction_17 ?_
  obtain ⟨c11, h⟩ := h
  refine x_ldiv C c11 dX12_entersFraction_19 ?_
  refine x_callV (dC := G12_enters_dep) (as := [.long (v3 / r8)]) (st := []) C rX kX (Nat.le_trans (Nat.le_of_ble_eq_true rfl) hd) (Nat.le_of_ble_eq_true rfl) ob358.1 ob358.2 (Nat.le_of_ble_eq_true rfl) rfl ts_10_1 tw_7_161 tw_7_159 tc_7_162 tw_1_13 hyX12 hnX12_enters rfl (Nat.le_of_ble_eq_true rfl) dX12_entersFraction_20 (G12_enters_met C.2.2.2.2.2.2.2.1 (Nat.le_refl _)  h) (fun r0 μ12 hq => ?_)
  obtain ⟨rfl, h⟩ := hq
  refine x_st [] rfl ?_
  exact x_vret C hr dX12_entersFraction_23 ⟨rfl, h⟩
set_option maxHeartbeats 4000000 in
set_option maxRecDepth 100000 in
theorem G12_draws_met {l : Launch} {φ : Nat → Nat} {tc : Nat → ClassId} {D : va_G} {s0 : State} (hG : GX φ tc D s0) {dR : Nat} (hd : G12_draws_dep ≤ dR) {v1 : Int32} {μ : MM} {Q : Int32 → MM → Prop}  (h : G12_draws v1 μ Q) : MX l φ tc D s0 dR yX12_draws cX12_draws 2 (some .int) [.ref 358, .int v1] μ (QI Q) := by
  refine MX.of (own := RX12) hG plX12 rfl (Nat.le_of_ble_eq_true rfl) (fun p e s m args below meth c C hr => ?_)
  refine x_sub [(0, .ref 358), (1, .int v1)] [0, 1] rfl ?_
  unfold G12_draws at h
  refine x_aload_n C rfl 0 rfl dX12_draws_0 ?_
  refine x_aload_n C rfl 0 rfl dX12_draws_1 ?_
  refine x_getI C (j := 22) ob358.1 ob358.2 (Nat.le_of_ble_eq_true rfl) (Nat.le_of_ble_eq_true rfl) (Or.inl rfl) tw_8_228 dX12_draws_2 ?_
  refine x_ldc (v := 1103515245) C tw_6_230 dX12_draws_5 ?_
  refine x_imul C dX12_draws_7 ?_
  refine x_sipush (v := 12345) C (by decide) dX12_draws_8 ?_
  refine x_iadd C dX12_draws_11 ?_
  refine x_putI C (j := 22) ob358.1 ob358.2 (Nat.le_of_ble_eq_true rfl) (Nat.le_of_ble_eq_true rfl) (Or.inl rfl) rfl rfl rfl tw_8_228 dX12_draws_12 ?_
  refine x_mu (fun μ3 e_μ3 => ?_)
  have h := h μ3 e_μ3
  refine x_aload_n C rfl 0 rfl dX12_draws_15 ?_
  refine x_getI C (j := 22) ob358.1 ob358.2 (Nat.le_of_ble_eq_true rfl) (Nat.le_of_ble_eq_true rfl) (Or.inl rfl) tw_8_228 dX12_draws_16 ?_
  refine x_bipush (v := 16) C (by decide) dX12_draws_19 ?_
  refine x_iushr C dX12_draws_21 ?_
  refine x_iload_n C rfl 1 rfl dX12_draws_22 ?_
  obtain ⟨c4, h⟩ := h
  refine x_irem C c4 dX12_draws_23 ?_
  exact x_iret C hr dX12_draws_24 ⟨_, rfl, h⟩
set_option maxHeartbeats 4000000 in
set_option maxRecDepth 100000 in
theorem G12_isName_met {l : Launch} {φ : Nat → Nat} {tc : Nat → ClassId} {D : va_G} {s0 : State} (hG : GX φ tc D s0) {dR : Nat} (hd : G12_isName_dep ≤ dR) {v1 : Int32} {μ : MM} {Q : Int32 → MM → Prop}  (h : G12_isName v1 μ Q) : MX l φ tc D s0 dR yX12_isName cX12_isName 2 (some .boolean) [.ref 358, .int v1] μ (QI Q) := by
  refine MX.of (own := RX12) hG plX12 rfl (Nat.le_of_ble_eq_true rfl) (fun p e s m args below meth c C hr => ?_)
  refine x_sub [(0, .ref 358), (1, .int v1)] [0, 1] rfl ?_
  unfold G12_isName at h
  refine x_iload_n C rfl 1 rfl dX12_isName_0 ?_
  refine x_i2l C dX12_isName_1 ?_
  refine x_lconst (v := 0) C (by decide) dX12_isName_2 ?_
  refine x_aload_n C rfl 0 rfl dX12_isName_3 ?_
  refine x_getI C (j := 3) ob358.1 ob358.2 (Nat.le_of_ble_eq_true rfl) (Nat.le_of_ble_eq_true rfl) (Or.inl rfl) tw_8_209 dX12_isName_4 ?_
  refine x_iconst (v := 1) C (by decide) dX12_isName_7 ?_
  refine x_isub C dX12_isName_8 ?_
  refine x_i2l C dX12_isName_9 ?_
  refine x_callS (dC := G12_in_dep) (as := [.long (v1.toInt64), .long 0, .long (((gI μ 358 3) - 1).toInt64)]) (st := []) C rX kX (Nat.le_trans (Nat.le_of_ble_eq_true rfl) hd) (Nat.le_of_ble_eq_true rfl) tw_6_183 tw_6_182 tc_6_184 tw_1_13 hyX12 hnX12_in rfl (Nat.le_of_ble_eq_true rfl) dX12_isName_10 (G12_in_met C.2.2.2.2.2.2.2.1 (Nat.le_refl _)  h) (fun r0 μ3 hq => ?_)
  obtain ⟨r4, rfl, h⟩ := hq
  refine x_st [.int r4] rfl ?_
  exact x_zret C hr h.1 dX12_isName_13 ⟨_, rfl, h.2⟩
set_option maxHeartbeats 4000000 in
set_option maxRecDepth 100000 in
theorem G12_isHouse_met {l : Launch} {φ : Nat → Nat} {tc : Nat → ClassId} {D : va_G} {s0 : State} (hG : GX φ tc D s0) {dR : Nat} (hd : G12_isHouse_dep ≤ dR) {v1 : Int32} {μ : MM} {Q : Int32 → MM → Prop}  (h : G12_isHouse v1 μ Q) : MX l φ tc D s0 dR yX12_isHouse cX12_isHouse 2 (some .boolean) [.ref 358, .int v1] μ (QI Q) := by
  refine MX.of (own := RX12) hG plX12 rfl (Nat.le_of_ble_eq_true rfl) (fun p e s m args below meth c C hr => ?_)
  refine x_sub [(0, .ref 358), (1, .int v1)] [0, 1] rfl ?_
  unfold G12_isHouse at h
  refine x_iload_n C rfl 1 rfl dX12_isHouse_0 ?_
  refine x_i2l C dX12_isHouse_1 ?_
  refine x_lconst (v := 0) C (by decide) dX12_isHouse_2 ?_
  refine x_aload_n C rfl 0 rfl dX12_isHouse_3 ?_
  refine x_getI C (j := 8) ob358.1 ob358.2 (Nat.le_of_ble_eq_true rfl) (Nat.le_of_ble_eq_true rfl) (Or.inl rfl) tw_8_214 dX12_isHouse_4 ?_
  refine x_iconst (v := 1) C (by decide) dX12_isHouse_7 ?_
  refine x_isub C dX12_isHouse_8 ?_
  refine x_i2l C dX12_isHouse_9 ?_
  refine x_callS (dC := G12_in_dep) (as := [.long (v1.toInt64), .long 0, .long (((gI μ 358 8) - 1).toInt64)]) (st := []) C rX kX (Nat.le_trans (Nat.le_of_ble_eq_true rfl) hd) (Nat.le_of_ble_eq_true rfl) tw_6_183 tw_6_182 tc_6_184 tw_1_13 hyX12 hnX12_in rfl (Nat.le_of_ble_eq_true rfl) dX12_isHouse_10 (G12_in_met C.2.2.2.2.2.2.2.1 (Nat.le_refl _)  h) (fun r0 μ3 hq => ?_)
  obtain ⟨r4, rfl, h⟩ := hq
  refine x_st [.int r4] rfl ?_
  exact x_zret C hr h.1 dX12_isHouse_13 ⟨_, rfl, h.2⟩
set_option maxHeartbeats 4000000 in
set_option maxRecDepth 100000 in
theorem G12_isLetter_met {l : Launch} {φ : Nat → Nat} {tc : Nat → ClassId} {D : va_G} {s0 : State} (hG : GX φ tc D s0) {dR : Nat} (hd : G12_isLetter_dep ≤ dR) {v1 : Int32} {μ : MM} {Q : Int32 → MM → Prop}  (h : G12_isLetter v1 μ Q) : MX l φ tc D s0 dR yX12_isLetter cX12_isLetter 2 (some .boolean) [.ref 358, .int v1] μ (QI Q) := by
  refine MX.of (own := RX12) hG plX12 rfl (Nat.le_of_ble_eq_true rfl) (fun p e s m args below meth c C hr => ?_)
  refine x_sub [(0, .ref 358), (1, .int v1)] [0, 1] rfl ?_
  unfold G12_isLetter at h
  refine x_iload_n C rfl 1 rfl dX12_isLetter_0 ?_
  refine x_i2l C dX12_isLetter_1 ?_
  refine x_lconst (v := 0) C (by decide) dX12_isLetter_2 ?_
  refine x_aload_n C rfl 0 rfl dX12_isLetter_3 ?_
  refine x_getI C (j := 12) ob358.1 ob358.2 (Nat.le_of_ble_eq_true rfl) (Nat.le_of_ble_eq_true rfl) (Or.inl rfl) tw_8_218 dX12_isLetter_4 ?_
  refine x_iconst (v := 1) C (by decide) dX12_isLetter_7 ?_
  refine x_isub C dX12_isLetter_8 ?_
  refine x_i2l C dX12_isLetter_9 ?_
  refine x_callS (dC := G12_in_dep) (as := [.long (v1.toInt64), .long 0, .long (((gI μ 358 12) - 1).toInt64)]) (st := []) C rX kX (Nat.le_trans (Nat.le_of_ble_eq_true rfl) hd) (Nat.le_of_ble_eq_true rfl) tw_6_183 tw_6_182 tc_6_184 tw_1_13 hyX12 hnX12_in rfl (Nat.le_of_ble_eq_true rfl) dX12_isLetter_10 (G12_in_met C.2.2.2.2.2.2.2.1 (Nat.le_refl _)  h) (fun r0 μ3 hq => ?_)
  obtain ⟨r4, rfl, h⟩ := hq
  refine x_st [.int r4] rfl ?_
  exact x_zret C hr h.1 dX12_isLetter_13 ⟨_, rfl, h.2⟩
set_option maxHeartbeats 4000000 in
set_option maxRecDepth 100000 in
theorem G12_name_met {l : Launch} {φ : Nat → Nat} {tc : Nat → ClassId} {D : va_G} {s0 : State} (hG : GX φ tc D s0) {dR : Nat} (hd : G12_name_dep ≤ dR) {v1 : Int32} {v2 : Int32} {v3 : Int32} {μ : MM} {Q : Int32 → MM → Prop}  (h : G12_name v1 v2 v3 μ Q) : MX l φ tc D s0 dR yX12_name cX12_name 4 (some .int) [.ref 358, .int v1, .int v2, .int v3] μ (QI Q) := by
  refine MX.of (own := RX12) hG plX12 rfl (Nat.le_of_ble_eq_true rfl) (fun p e s m args below meth c C hr => ?_)
  refine x_sub [(0, .ref 358), (1, .int v1), (2, .int v2), (3, .int v3)] [0, 1, 2, 3] rfl ?_
  unfold G12_name at h
  refine x_aload_n C rfl 0 rfl dX12_name_0 ?_
  refine x_iconst (v := 0) C (by decide) dX12_name_1 ?_
  refine x_putI C (j := 0) ob358.1 ob358.2 (Nat.le_of_ble_eq_true rfl) (Nat.le_of_ble_eq_true rfl) (Or.inl rfl) rfl rfl rfl tw_8_206 dX12_name_2 ?_
  refine x_mu (fun μ17 e_μ17 => ?_)
  have h := h μ17 e_μ17
  refine x_iload_n C rfl 1 rfl dX12_name_5 ?_
  refine x_i2l C dX12_name_6 ?_
  refine x_lconst (v := 0) C (by decide) dX12_name_7 ?_
  refine x_lconst (v := 1) C (by decide) dX12_name_8 ?_
  refine x_callS (dC := G12_in_dep) (as := [.long (v1.toInt64), .long 0, .long 1]) (st := []) C rX kX (Nat.le_trans (Nat.le_of_ble_eq_true rfl) hd) (Nat.le_of_ble_eq_true rfl) tw_6_183 tw_6_182 tc_6_184 tw_1_13 hyX12 hnX12_in rfl (Nat.le_of_ble_eq_true rfl) dX12_name_9 (G12_in_met C.2.2.2.2.2.2.2.1 (Nat.le_refl _)  h) (fun r0 μ18 hq => ?_)
  obtain ⟨r19, rfl, h⟩ := hq
  refine x_st [.int r19] rfl ?_
  refine x_if_eq (tgt := 53) C dX12_name_12 (by decide) (fun c20 => ?_) (fun c20 => ?_)
  · have h := h.1 c20
    refine x_iconst (v := (-1)) C (by decide) dX12_name_53 ?_
    exact x_iret C hr dX12_name_54 ⟨_, rfl, h⟩
  · have h := h.2 c20
    refine x_iload_n C rfl 2 rfl dX12_name_15 ?_
    refine x_i2l C dX12_name_16 ?_
    refine x_lconst (v := 0) C (by decide) dX12_name_17 ?_
    refine x_lconst (v := 1) C (by decide) dX12_name_18 ?_
    refine x_callS (dC := G12_in_dep) (as := [.long (v2.toInt64), .long 0, .long 1]) (st := []) C rX kX (Nat.le_trans (Nat.le_of_ble_eq_true rfl) hd) (Nat.le_of_ble_eq_true rfl) tw_6_183 tw_6_182 tc_6_184 tw_1_13 hyX12 hnX12_in rfl (Nat.le_of_ble_eq_true rfl) dX12_name_19 (G12_in_met C.2.2.2.2.2.2.2.1 (Nat.le_refl _)  h) (fun r0 μ21 hq => ?_)
    obtain ⟨r22, rfl, h⟩ := hq
    refine x_st [.int r22] rfl ?_
    refine x_if_eq (tgt := 53) C dX12_name_22 (by decide) (fun c23 => ?_) (fun c23 => ?_)
    · have h := h.1 c23
      refine x_iconst (v := (-1)) C (by decide) dX12_name_53 ?_
      exact x_iret C hr dX12_name_54 ⟨_, rfl, h⟩
    · have h := h.2 c23
      refine x_iload_n C rfl 3 rfl dX12_name_25 ?_
      refine x_if_lt (tgt := 53) C dX12_name_26 (by decide) (fun c24 => ?_) (fun c24 => ?_)
      · have h := h.1 c24
        refine x_iconst (v := (-1)) C (by decide) dX12_name_53 ?_
        exact x_iret C hr dX12_name_54 ⟨_, rfl, h⟩
      · have h := h.2 c24
        refine x_iload_n C rfl 3 rfl dX12_name_29 ?_
        refine x_bipush (v := 101) C (by decide) dX12_name_30 ?_
        refine x_idiv C (by decide) dX12_name_32 ?_
        refine x_i2l C dX12_name_33 ?_
        refine x_lconst (v := 0) C (by decide) dX12_name_34 ?_
        refine x_ldc2 (v := 9) C tw_6_185 dX12_name_35 ?_
        refine x_callS (dC := G12_in_dep) (as := [.long ((v3 / 101).toInt64), .long 0, .long 9]) (st := []) C rX kX (Nat.le_trans (Nat.le_of_ble_eq_true rfl) hd) (Nat.le_of_ble_eq_true rfl) tw_6_183 tw_6_182 tc_6_184 tw_1_13 hyX12 hnX12_in rfl (Nat.le_of_ble_eq_true rfl) dX12_name_38 (G12_in_met C.2.2.2.2.2.2.2.1 (Nat.le_refl _)  h) (fun r0 μ25 hq => ?_)
        obtain ⟨r26, rfl, h⟩ := hq
        refine x_st [.int r26] rfl ?_
        refine x_if_eq (tgt := 53) C dX12_name_41 (by decide) (fun c27 => ?_) (fun c27 => ?_)
        · have h := h.1 c27
          refine x_iconst (v := (-1)) C (by decide) dX12_name_53 ?_
          exact x_iret C hr dX12_name_54 ⟨_, rfl, h⟩
        · have h := h.2 c27
          refine x_aload_n C rfl 0 rfl dX12_name_44 ?_
          refine x_getI C (j := 3) ob358.1 ob358.2 (Nat.le_of_ble_eq_true rfl) (Nat.le_of_ble_eq_true rfl) (Or.inl rfl) tw_8_209 dX12_name_45 ?_
          refine x_bipush (v := 12) C (by decide) dX12_name_48 ?_
          refine x_icmp_ne (tgt := 55) C dX12_name_50 (by decide) (fun c28 => ?_) (fun c28 => ?_)
          · have h := h.1 c28
            refine x_aload_n C rfl 0 rfl dX12_name_55 ?_
            refine x_getR (r := 360) C (j := 4) ob358.1 ob358.2 (Nat.le_of_ble_eq_true rfl) (Nat.le_of_ble_eq_true rfl) (fun _ _ _ => rfl) r_358_4 tw_8_210 dX12_name_56 ?_
            refine x_aload_n C rfl 0 rfl dX12_name_59 ?_
            refine x_getI C (j := 3) ob358.1 ob358.2 (Nat.le_of_ble_eq_true rfl) (Nat.le_of_ble_eq_true rfl) (Or.inl rfl) tw_8_209 dX12_name_60 ?_
            refine x_iload_n C rfl 1 rfl dX12_name_63 ?_
            obtain ⟨c29, h⟩ := h
            refine x_iast C ob360.1 ob360.2 c29 rfl dX12_name_64 ?_
            refine x_mu (fun μ30 e_μ30 => ?_)
            have h := h μ30 e_μ30
            refine x_aload_n C rfl 0 rfl dX12_name_65 ?_
            refine x_getR (r := 361) C (j := 5) ob358.1 ob358.2 (Nat.le_of_ble_eq_true rfl) (Nat.le_of_ble_eq_true rfl) (fun _ _ _ => rfl) r_358_5 tw_8_211 dX12_name_66 ?_
            refine x_aload_n C rfl 0 rfl dX12_name_69 ?_
            refine x_getI C (j := 3) ob358.1 ob358.2 (Nat.le_of_ble_eq_true rfl) (Nat.le_of_ble_eq_true rfl) (Or.inl rfl) tw_8_209 dX12_name_70 ?_
            refine x_iload_n C rfl 2 rfl dX12_name_73 ?_
            obtain ⟨c31, h⟩ := h
            refine x_iast C ob361.1 ob361.2 c31 rfl dX12_name_74 ?_
            refine x_mu (fun μ32 e_μ32 => ?_)
            have h := h μ32 e_μ32
            refine x_aload_n C rfl 0 rfl dX12_name_75 ?_
            refine x_getR (r := 362) C (j := 6) ob358.1 ob358.2 (Nat.le_of_ble_eq_true rfl) (Nat.le_of_ble_eq_true rfl) (fun _ _ _ => rfl) r_358_6 tw_8_212 dX12_name_76 ?_
            refine x_aload_n C rfl 0 rfl dX12_name_79 ?_
            refine x_getI C (j := 3) ob358.1 ob358.2 (Nat.le_of_ble_eq_true rfl) (Nat.le_of_ble_eq_true rfl) (Or.inl rfl) tw_8_209 dX12_name_80 ?_
            refine x_iload_n C rfl 3 rfl dX12_name_83 ?_
            refine x_bipush (v := 101) C (by decide) dX12_name_84 ?_
            refine x_idiv C (by decide) dX12_name_86 ?_
            obtain ⟨c33, h⟩ := h
            refine x_iast C ob362.1 ob362.2 c33 rfl dX12_name_87 ?_
            refine x_mu (fun μ34 e_μ34 => ?_)
            have h := h μ34 e_μ34
            refine x_aload_n C rfl 0 rfl dX12_name_88 ?_
            refine x_getR (r := 363) C (j := 7) ob358.1 ob358.2 (Nat.le_of_ble_eq_true rfl) (Nat.le_of_ble_eq_true rfl) (fun _ _ _ => rfl) r_358_7 tw_8_213 dX12_name_89 ?_
            refine x_aload_n C rfl 0 rfl dX12_name_92 ?_
            refine x_getI C (j := 3) ob358.1 ob358.2 (Nat.le_of_ble_eq_true rfl) (Nat.le_of_ble_eq_true rfl) (Or.inl rfl) tw_8_209 dX12_name_93 ?_
            refine x_iload_n C rfl 3 rfl dX12_name_96 ?_
            refine x_bipush (v := 101) C (by decide) dX12_name_97 ?_
            refine x_irem C (by decide) dX12_name_99 ?_
            obtain ⟨c35, h⟩ := h
            refine x_iast C ob363.1 ob363.2 c35 rfl dX12_name_100 ?_
            refine x_mu (fun μ36 e_μ36 => ?_)
            have h := h μ36 e_μ36
            refine x_aload_n C rfl 0 rfl dX12_name_101 ?_
            refine x_dup C rfl dX12_name_102 ?_
            refine x_getI C (j := 3) ob358.1 ob358.2 (Nat.le_of_ble_eq_true rfl) (Nat.le_of_ble_eq_true rfl) (Or.inl rfl) tw_8_209 dX12_name_103 ?_
            refine x_iconst (v := 1) C (by decide) dX12_name_106 ?_
            refine x_iadd C dX12_name_107 ?_
            refine x_putI C (j := 3) ob358.1 ob358.2 (Nat.le_of_ble_eq_true rfl) (Nat.le_of_ble_eq_true rfl) (Or.inl rfl) rfl rfl rfl tw_8_209 dX12_name_108 ?_
            refine x_mu (fun μ37 e_μ37 => ?_)
            have h := h μ37 e_μ37
            refine x_aload_n C rfl 0 rfl dX12_name_111 ?_
            refine x_getI C (j := 3) ob358.1 ob358.2 (Nat.le_of_ble_eq_true rfl) (Nat.le_of_ble_eq_true rfl) (Or.inl rfl) tw_8_209 dX12_name_112 ?_
            refine x_iconst (v := 1) C (by decide) dX12_name_115 ?_
            refine x_isub C dX12_name_116 ?_
            exact x_iret C hr dX12_name_117 ⟨_, rfl, h⟩
          · have h := h.2 c28
            refine x_iconst (v := (-1)) C (by decide) dX12_name_53 ?_
            exact x_iret C hr dX12_name_54 ⟨_, rfl, h⟩
set_option maxHeartbeats 4000000 in
set_option maxRecDepth 100000 in
theorem G12_house_met {l : Launch} {φ : Nat → Nat} {tc : Nat → ClassId} {D : va_G} {s0 : State} (hG : GX φ tc D s0) {dR : Nat} (hd : G12_house_dep ≤ dR) {v1 : Int32} {v2 : Int32} {v3 : Int32} {μ : MM} {Q : Int32 → MM → Prop}  (h : G12_house v1 v2 v3 μ Q) : MX l φ tc D s0 dR yX12_house cX12_house 4 (some .int) [.ref 358, .int v1, .int v2, .int v3] μ (QI Q) := by
  refine MX.of (own := RX12) hG plX12 rfl (Nat.le_of_ble_eq_true rfl) (fun p e s m args below meth c C hr => ?_)
  refine x_sub [(0, .ref 358), (1, .int v1), (2, .int v2), (3, .int v3)] [0, 1, 2, 3] rfl ?_
  unfold G12_house at h
  refine x_aload_n C rfl 0 rfl dX12_house_0 ?_
  refine x_iconst (v := 0) C (by decide) dX12_house_1 ?_
  refine x_putI C (j := 0) ob358.1 ob358.2 (Nat.le_of_ble_eq_true rfl) (Nat.le_of_ble_eq_true rfl) (Or.inl rfl) rfl rfl rfl tw_8_206 dX12_house_2 ?_
  refine x_mu (fun μ15 e_μ15 => ?_)
  have h := h μ15 e_μ15
  refine x_iload_n C rfl 1 rfl dX12_house_5 ?_
  refine x_i2l C dX12_house_6 ?_
  refine x_lconst (v := 0) C (by decide) dX12_house_7 ?_
  refine x_ldc2 (v := 3) C tw_6_190 dX12_house_8 ?_
  refine x_callS (dC := G12_in_dep) (as := [.long (v1.toInt64), .long 0, .long 3]) (st := []) C rX kX (Nat.le_trans (Nat.le_of_ble_eq_true rfl) hd) (Nat.le_of_ble_eq_true rfl) tw_6_183 tw_6_182 tc_6_184 tw_1_13 hyX12 hnX12_in rfl (Nat.le_of_ble_eq_true rfl) dX12_house_11 (G12_in_met C.2.2.2.2.2.2.2.1 (Nat.le_refl _)  h) (fun r0 μ16 hq => ?_)
  obtain ⟨r17, rfl, h⟩ := hq
  refine x_st [.int r17] rfl ?_
  refine x_if_eq (tgt := 50) C dX12_house_14 (by decide) (fun c18 => ?_) (fun c18 => ?_)
  · have h := h.1 c18
    refine x_iconst (v := (-1)) C (by decide) dX12_house_50 ?_
    exact x_iret C hr dX12_house_51 ⟨_, rfl, h⟩
  · have h := h.2 c18
    refine x_iload_n C rfl 2 rfl dX12_house_17 ?_
    refine x_i2l C dX12_house_18 ?_
    refine x_lconst (v := 0) C (by decide) dX12_house_19 ?_
    refine x_ldc2 (v := 3) C tw_6_190 dX12_house_20 ?_
    refine x_callS (dC := G12_in_dep) (as := [.long (v2.toInt64), .long 0, .long 3]) (st := []) C rX kX (Nat.le_trans (Nat.le_of_ble_eq_true rfl) hd) (Nat.le_of_ble_eq_true rfl) tw_6_183 tw_6_182 tc_6_184 tw_1_13 hyX12 hnX12_in rfl (Nat.le_of_ble_eq_true rfl) dX12_house_23 (G12_in_met C.2.2.2.2.2.2.2.1 (Nat.le_refl _)  h) (fun r0 μ19 hq => ?_)
    obtain ⟨r20, rfl, h⟩ := hq
    refine x_st [.int r20] rfl ?_
    refine x_if_eq (tgt := 50) C dX12_house_26 (by decide) (fun c21 => ?_) (fun c21 => ?_)
    · have h := h.1 c21
      refine x_iconst (v := (-1)) C (by decide) dX12_house_50 ?_
      exact x_iret C hr dX12_house_51 ⟨_, rfl, h⟩
    · have h := h.2 c21
      refine x_iload_n C rfl 3 rfl dX12_house_29 ?_
      refine x_i2l C dX12_house_30 ?_
      refine x_lconst (v := 0) C (by decide) dX12_house_31 ?_
      refine x_ldc2 (v := 5) C tw_6_191 dX12_house_32 ?_
      refine x_callS (dC := G12_in_dep) (as := [.long (v3.toInt64), .long 0, .long 5]) (st := []) C rX kX (Nat.le_trans (Nat.le_of_ble_eq_true rfl) hd) (Nat.le_of_ble_eq_true rfl) tw_6_183 tw_6_182 tc_6_184 tw_1_13 hyX12 hnX12_in rfl (Nat.le_of_ble_eq_true rfl) dX12_house_35 (G12_in_met C.2.2.2.2.2.2.2.1 (Nat.le_refl _)  h) (fun r0 μ22 hq => ?_)
      obtain ⟨r23, rfl, h⟩ := hq
      refine x_st [.int r23] rfl ?_
      refine x_if_eq (tgt := 50) C dX12_house_38 (by decide) (fun c24 => ?_) (fun c24 => ?_)
      · have h := h.1 c24
        refine x_iconst (v := (-1)) C (by decide) dX12_house_50 ?_
        exact x_iret C hr dX12_house_51 ⟨_, rfl, h⟩
      · have h := h.2 c24
        refine x_aload_n C rfl 0 rfl dX12_house_41 ?_
        refine x_getI C (j := 8) ob358.1 ob358.2 (Nat.le_of_ble_eq_true rfl) (Nat.le_of_ble_eq_true rfl) (Or.inl rfl) tw_8_214 dX12_house_42 ?_
        refine x_bipush (v := 24) C (by decide) dX12_house_45 ?_
        refine x_icmp_ne (tgt := 52) C dX12_house_47 (by decide) (fun c25 => ?_) (fun c25 => ?_)
        · have h := h.1 c25
          refine x_aload_n C rfl 0 rfl dX12_house_52 ?_
          refine x_getR (r := 364) C (j := 9) ob358.1 ob358.2 (Nat.le_of_ble_eq_true rfl) (Nat.le_of_ble_eq_true rfl) (fun _ _ _ => rfl) r_358_9 tw_8_215 dX12_house_53 ?_
          refine x_aload_n C rfl 0 rfl dX12_house_56 ?_
          refine x_getI C (j := 8) ob358.1 ob358.2 (Nat.le_of_ble_eq_true rfl) (Nat.le_of_ble_eq_true rfl) (Or.inl rfl) tw_8_214 dX12_house_57 ?_
          refine x_iload_n C rfl 1 rfl dX12_house_60 ?_
          obtain ⟨c26, h⟩ := h
          refine x_iast C ob364.1 ob364.2 c26 rfl dX12_house_61 ?_
          refine x_mu (fun μ27 e_μ27 => ?_)
          have h := h μ27 e_μ27
          refine x_aload_n C rfl 0 rfl dX12_house_62 ?_
          refine x_getR (r := 365) C (j := 10) ob358.1 ob358.2 (Nat.le_of_ble_eq_true rfl) (Nat.le_of_ble_eq_true rfl) (fun _ _ _ => rfl) r_358_10 tw_8_216 dX12_house_63 ?_
          refine x_aload_n C rfl 0 rfl dX12_house_66 ?_
          refine x_getI C (j := 8) ob358.1 ob358.2 (Nat.le_of_ble_eq_true rfl) (Nat.le_of_ble_eq_true rfl) (Or.inl rfl) tw_8_214 dX12_house_67 ?_
          refine x_iload_n C rfl 2 rfl dX12_house_70 ?_
          obtain ⟨c28, h⟩ := h
          refine x_iast C ob365.1 ob365.2 c28 rfl dX12_house_71 ?_
          refine x_mu (fun μ29 e_μ29 => ?_)
          have h := h μ29 e_μ29
          refine x_aload_n C rfl 0 rfl dX12_house_72 ?_
          refine x_getR (r := 366) C (j := 11) ob358.1 ob358.2 (Nat.le_of_ble_eq_true rfl) (Nat.le_of_ble_eq_true rfl) (fun _ _ _ => rfl) r_358_11 tw_8_217 dX12_house_73 ?_
          refine x_aload_n C rfl 0 rfl dX12_house_76 ?_
          refine x_getI C (j := 8) ob358.1 ob358.2 (Nat.le_of_ble_eq_true rfl) (Nat.le_of_ble_eq_true rfl) (Or.inl rfl) tw_8_214 dX12_house_77 ?_
          refine x_iload_n C rfl 3 rfl dX12_house_80 ?_
          obtain ⟨c30, h⟩ := h
          refine x_iast C ob366.1 ob366.2 c30 rfl dX12_house_81 ?_
          refine x_mu (fun μ31 e_μ31 => ?_)
          have h := h μ31 e_μ31
          refine x_aload_n C rfl 0 rfl dX12_house_82 ?_
          refine x_dup C rfl dX12_house_83 ?_
          refine x_getI C (j := 8) ob358.1 ob358.2 (Nat.le_of_ble_eq_true rfl) (Nat.le_of_ble_eq_true rfl) (Or.inl rfl) tw_8_214 dX12_house_84 ?_
          refine x_iconst (v := 1) C (by decide) dX12_house_87 ?_
          refine x_iadd C dX12_house_88 ?_
          refine x_putI C (j := 8) ob358.1 ob358.2 (Nat.le_of_ble_eq_true rfl) (Nat.le_of_ble_eq_true rfl) (Or.inl rfl) rfl rfl rfl tw_8_214 dX12_house_89 ?_
          refine x_mu (fun μ32 e_μ32 => ?_)
          have h := h μ32 e_μ32
          refine x_aload_n C rfl 0 rfl dX12_house_92 ?_
          refine x_getI C (j := 8) ob358.1 ob358.2 (Nat.le_of_ble_eq_true rfl) (Nat.le_of_ble_eq_true rfl) (Or.inl rfl) tw_8_214 dX12_house_93 ?_
          refine x_iconst (v := 1) C (by decide) dX12_house_96 ?_
          refine x_isub C dX12_house_97 ?_
          exact x_iret C hr dX12_house_98 ⟨_, rfl, h⟩
        · have h := h.2 c25
          refine x_iconst (v := (-1)) C (by decide) dX12_house_50 ?_
          exact x_iret C hr dX12_house_51 ⟨_, rfl, h⟩
set_option maxHeartbeats 4000000 in
set_option maxRecDepth 100000 in
theorem G12_lettersTo_J28_ok {p : Program} {e : Env} {s : State} {m : MethodId} {args : Array Value} {below : List Frame} {meth : Method} {c : Code} {l : Launch} {φ : Nat → Nat} {tc : Nat → ClassId} {D : va_G} {s0 : State} {dR : Nat} (C : CX p s m args meth c φ tc D (AX φ) s0 cX12_lettersTo RX12 4) (hd : G12_lettersTo_dep ≤ dR) (hr : meth.sig.returnType = (some .int))   {p1 : Int32} {p3 : Int32} {q0 : Int32} {q1 : Int32} {Q : Int32 → MM → Prop} {K4 : Int32 × Int32 × MM → Prop} {μ : MM}   (hK4 : ∀ (z2 : Int32) (z3 : Int32) (zμ : MM), K4 (z2, z3, zμ) → WX p l e (rmX dR) s m args below meth c φ tc D (AX φ) 4 0 0 (MQ below (QX φ tc D (QI Q)) args s 0 0 (AX φ)) 4 [(0, .ref 358), (1, .int p1), (2, .int z2), (3, .int z3)] [] zμ) (h : G12_lettersTo_J28 p1 p3 q0 q1 μ K4 Q) : WX p l e (rmX dR) s m args below meth c φ tc D (AX φ) 4 0 0 (MQ below (QX φ tc D (QI Q)) args s 0 0 (AX φ)) 28 [(0, .ref 358), (1, .int p1), (3, .int p3)] [.int q0, .int q1] μ := by
  unfold G12_lettersTo_J28 at h
  refine x_callS (dC := G12_flag_dep) (as := [.int q0]) (st := [.int q1]) C rX kX (Nat.le_trans (Nat.le_of_ble_eq_true rfl) hd) (Nat.le_of_ble_eq_true rfl) tw_6_212 tw_6_211 tc_6_213 tw_1_13 hyX12 hnX12_flag rfl (Nat.le_of_ble_eq_true rfl) dX12_lettersTo_28 (G12_flag_met C.2.2.2.2.2.2.2.1 (Nat.le_refl _)  h) (fun r0 μ8 hq => ?_)
  obtain ⟨r9, rfl, h⟩ := hq
  refine x_st [.int r9, .int q1] rfl ?_
  refine x_iadd C dX12_lettersTo_31 ?_
  refine x_topi (fun y10 e_y10 => ?_)
  have h := h y10 e_y10
  refine x_istore_n C [(2, .int y10), (0, .ref 358), (1, .int p1), (3, .int p3)] rfl (Nat.le_of_ble_eq_true rfl) rfl dX12_lettersTo_32 ?_
  refine x_iinc (v := (p3 + 1)) C [(3, .int (p3 + 1)), (2, .int y10), (0, .ref 358), (1, .int p1)] 3 rfl (congrArg (fun z => p3 + z) (by decide : Int32.ofInt (1) = 1)) (Nat.le_of_ble_eq_true rfl) rfl dX12_lettersTo_33 ?_
  refine x_goto (tgt := 4) C dX12_lettersTo_36 (by decide) ?_
  refine x_sub [(0, .ref 358), (1, .int p1), (2, .int y10), (3, .int (p3 + 1))] [2, 3, 1, 0] rfl ?_
  exact hK4 _ _ _ h
set_option maxHeartbeats 4000000 in
set_option maxRecDepth 100000 in
theorem G12_lettersTo_L4_b {p : Program} {e : Env} {s : State} {m : MethodId} {args : Array Value} {below : List Frame} {meth : Method} {c : Code} {l : Launch} {φ : Nat → Nat} {tc : Nat → ClassId} {D : va_G} {s0 : State} {dR : Nat} (C : CX p s m args meth c φ tc D (AX φ) s0 cX12_lettersTo RX12 4) (hd : G12_lettersTo_dep ≤ dR) (hr : meth.sig.returnType = (some .int))  {p1 : Int32} {Q : Int32 → MM → Prop} {K4 : Int32 × Int32 × MM → Prop} {x : Int32 × Int32 × MM}   (hK4 : ∀ (z2 : Int32) (z3 : Int32) (zμ : MM), K4 (z2, z3, zμ) → WX p l e (rmX dR) s m args below meth c φ tc D (AX φ) 4 0 0 (MQ below (QX φ tc D (QI Q)) args s 0 0 (AX φ)) 4 [(0, .ref 358), (1, .int p1), (2, .int z2), (3, .int z3)] [] zμ) (h : G12_lettersTo_L4 p1 Q K4 x) : WX p l e (rmX dR) s m args below meth c φ tc D (AX φ) 4 0 0 (MQ below (QX φ tc D (QI Q)) args s 0 0 (AX φ)) 4 [(0, .ref 358), (1, .int p1), (2, .int x.1), (3, .int x.2.1)] [] x.2.2 := by
  unfold G12_lettersTo_L4 at h
  refine x_iload_n C rfl 3 rfl dX12_lettersTo_4 ?_
  refine x_aload_n C rfl 0 rfl dX12_lettersTo_5 ?_
  refine x_getI C (j := 12) ob358.1 ob358.2 (Nat.le_of_ble_eq_true rfl) (Nat.le_of_ble_eq_true rfl) (Or.inl rfl) tw_8_218 dX12_lettersTo_6 ?_
  refine x_icmp_ge (tgt := 39) C dX12_lettersTo_9 (by decide) (fun c5 => ?_) (fun c5 => ?_)
  · have h := h.1 c5
    refine x_iload_n C rfl 2 rfl dX12_lettersTo_39 ?_
    exact x_iret C hr dX12_lettersTo_40 ⟨_, rfl, h⟩
  · have h := h.2 c5
    refine x_iload_n C rfl 2 rfl dX12_lettersTo_12 ?_
    refine x_aload_n C rfl 0 rfl dX12_lettersTo_13 ?_
    refine x_getR (r := 367) C (j := 13) ob358.1 ob358.2 (Nat.le_of_ble_eq_true rfl) (Nat.le_of_ble_eq_true rfl) (fun _ _ _ => rfl) r_358_13 tw_8_219 dX12_lettersTo_14 ?_
    refine x_iload_n C rfl 3 rfl dX12_lettersTo_17 ?_
    obtain ⟨c6, h⟩ := h
    refine x_iald C ob367.1 ob367.2 c6 rfl dX12_lettersTo_18 ?_
    refine x_iload_n C rfl 1 rfl dX12_lettersTo_19 ?_
    refine x_icmp_ne (tgt := 27) C dX12_lettersTo_20 (by decide) (fun c7 => ?_) (fun c7 => ?_)
    · have h := h.1 c7
      refine x_iconst (v := 0) C (by decide) dX12_lettersTo_27 ?_
      refine x_sub [(0, .ref 358), (1, .int p1), (3, .int x.2.1)] [0, 1, 3] rfl ?_
      exact G12_lettersTo_J28_ok C hd hr hK4 h
    · have h := h.2 c7
      refine x_iconst (v := 1) C (by decide) dX12_lettersTo_23 ?_
      refine x_goto (tgt := 28) C dX12_lettersTo_24 (by decide) ?_
      refine x_sub [(0, .ref 358), (1, .int p1), (3, .int x.2.1)] [0, 1, 3] rfl ?_
      exact G12_lettersTo_J28_ok C hd hr hK4 h
theorem G12_lettersTo_L4_ok {p : Program} {e : Env} {s : State} {m : MethodId} {args : Array Value} {below : List Frame} {meth : Method} {c : Code} {l : Launch} {φ : Nat → Nat} {tc : Nat → ClassId} {D : va_G} {s0 : State} {dR : Nat} (C : CX p s m args meth c φ tc D (AX φ) s0 cX12_lettersTo RX12 4) (hd : G12_lettersTo_dep ≤ dR) (hr : meth.sig.returnType = (some .int))  {p1 : Int32} {Q : Int32 → MM → Prop}  {x : Int32 × Int32 × MM}    (h : Lp (G12_lettersTo_L4 p1 Q) x) : WX p l e (rmX dR) s m args below meth c φ tc D (AX φ) 4 0 0 (MQ below (QX φ tc D (QI Q)) args s 0 0 (AX φ)) 4 [(0, .ref 358), (1, .int p1), (2, .int x.1), (3, .int x.2.1)] [] x.2.2 := by
  obtain ⟨n, h⟩ := h
  induction n generalizing x with
  | zero => exact h.elim
  | succ n ih => exact G12_lettersTo_L4_b C hd hr   (fun z2 z3 zμ hz => by have q := ih hz; exact q) h
set_option maxHeartbeats 4000000 in
set_option maxRecDepth 100000 in
theorem G12_lettersTo_met {l : Launch} {φ : Nat → Nat} {tc : Nat → ClassId} {D : va_G} {s0 : State} (hG : GX φ tc D s0) {dR : Nat} (hd : G12_lettersTo_dep ≤ dR) {v1 : Int32} {μ : MM} {Q : Int32 → MM → Prop}  (h : G12_lettersTo v1 μ Q) : MX l φ tc D s0 dR yX12_lettersTo cX12_lettersTo 4 (some .int) [.ref 358, .int v1] μ (QI Q) := by
  refine MX.of (own := RX12) hG plX12 rfl (Nat.le_of_ble_eq_true rfl) (fun p e s m args below meth c C hr => ?_)
  refine x_sub [(0, .ref 358), (1, .int v1)] [0, 1] rfl ?_
  unfold G12_lettersTo at h
  refine x_iconst (v := 0) C (by decide) dX12_lettersTo_0 ?_
  refine x_istore_n C [(2, .int 0), (0, .ref 358), (1, .int v1)] rfl (Nat.le_of_ble_eq_true rfl) rfl dX12_lettersTo_1 ?_
  refine x_iconst (v := 0) C (by decide) dX12_lettersTo_2 ?_
  refine x_istore_n C [(3, .int 0), (2, .int 0), (0, .ref 358), (1, .int v1)] rfl (Nat.le_of_ble_eq_true rfl) rfl dX12_lettersTo_3 ?_
  refine x_sub [(0, .ref 358), (1, .int v1), (2, .int 0), (3, .int 0)] [2, 3, 1, 0] rfl ?_
  exact G12_lettersTo_L4_ok C hd hr  h
set_option maxHeartbeats 4000000 in
set_option maxRecDepth 100000 in
theorem G12_lays_met {l : Launch} {φ : Nat → Nat} {tc : Nat → ClassId} {D : va_G} {s0 : State} (hG : GX φ tc D s0) {dR : Nat} (hd : G12_lays_dep ≤ dR) {v1 : Int32} {v2 : Int32} {v3 : Int32} {v4 : Int32} {v5 : Int32} {v6 : Int32} {μ : MM} {Q : MM → Prop}  (h : G12_lays v1 v2 v3 v4 v5 v6 μ Q) : MX l φ tc D s0 dR yX12_lays cX12_lays 8 none [.ref 358, .int v1, .int v2, .int v3, .int v4, .int v5, .int v6] μ (QV Q) := by
  refine MX.of (own := RX12) hG plX12 rfl (Nat.le_of_ble_eq_true rfl) (fun p e s m args below meth c C hr => ?_)
  refine x_sub [(0, .ref 358), (1, .int v1), (2, .int v2), (3, .int v3), (4, .int v4), (5, .int v5), (6, .int v6)] [0, 1, 2, 3, 4, 5, 6] rfl ?_
  unfold G12_lays at h
  refine x_aload_n C rfl 0 rfl dX12_lays_0 ?_
  refine x_getI C (j := 12) ob358.1 ob358.2 (Nat.le_of_ble_eq_true rfl) (Nat.le_of_ble_eq_true rfl) (Or.inl rfl) tw_8_218 dX12_lays_1 ?_
  refine x_topi (fun y21 e_y21 => ?_)
  have h := h y21 e_y21
  refine x_istore C [(7, .int y21), (0, .ref 358), (1, .int v1), (2, .int v2), (3, .int v3), (4, .int v4), (5, .int v5), (6, .int v6)] (Nat.le_of_ble_eq_true rfl) rfl dX12_lays_4 ?_
  refine x_aload_n C rfl 1 rfl dX12_lays_6 ?_
  refine x_getR (r := 367) C (j := 13) ob358.1 ob358.2 (Nat.le_of_ble_eq_true rfl) (Nat.le_of_ble_eq_true rfl) (fun _ _ _ => rfl) r_358_13 tw_8_219 dX12_lays_7 ?_
  refine x_iload C 0 rfl dX12_lays_10 ?_
  refine x_iload_n C rfl 2 rfl dX12_lays_12 ?_
  obtain ⟨c22, h⟩ := h
  refine x_iast C ob367.1 ob367.2 c22 rfl dX12_lays_13 ?_
  refine x_mu (fun μ23 e_μ23 => ?_)
  have h := h μ23 e_μ23
  refine x_aload_n C rfl 1 rfl dX12_lays_14 ?_
  refine x_getR (r := 368) C (j := 14) ob358.1 ob358.2 (Nat.le_of_ble_eq_true rfl) (Nat.le_of_ble_eq_true rfl) (fun _ _ _ => rfl) r_358_14 tw_8_220 dX12_lays_15 ?_
  refine x_iload C 0 rfl dX12_lays_18 ?_
  refine x_iload_n C rfl 3 rfl dX12_lays_20 ?_
  obtain ⟨c24, h⟩ := h
  refine x_iast C ob368.1 ob368.2 c24 rfl dX12_lays_21 ?_
  refine x_mu (fun μ25 e_μ25 => ?_)
  have h := h μ25 e_μ25
  refine x_aload_n C rfl 1 rfl dX12_lays_22 ?_
  refine x_getR (r := 369) C (j := 15) ob358.1 ob358.2 (Nat.le_of_ble_eq_true rfl) (Nat.le_of_ble_eq_true rfl) (fun _ _ _ => rfl) r_358_15 tw_8_221 dX12_lays_23 ?_
  refine x_iload C 0 rfl dX12_lays_26 ?_
  refine x_iload_n C rfl 4 rfl dX12_lays_28 ?_
  obtain ⟨c26, h⟩ := h
  refine x_iast C ob369.1 ob369.2 c26 rfl dX12_lays_29 ?_
  refine x_mu (fun μ27 e_μ27 => ?_)
  have h := h μ27 e_μ27
  refine x_aload_n C rfl 1 rfl dX12_lays_30 ?_
  refine x_getR (r := 370) C (j := 16) ob358.1 ob358.2 (Nat.le_of_ble_eq_true rfl) (Nat.le_of_ble_eq_true rfl) (fun _ _ _ => rfl) r_358_16 tw_8_222 dX12_lays_31 ?_
  refine x_iload C 0 rfl dX12_lays_34 ?_
  refine x_iload C 5 rfl dX12_lays_36 ?_
  obtain ⟨c28, h⟩ := h
  refine x_iast C ob370.1 ob370.2 c28 rfl dX12_lays_38 ?_
  refine x_mu (fun μ29 e_μ29 => ?_)
  have h := h μ29 e_μ29
  refine x_aload_n C rfl 1 rfl dX12_lays_39 ?_
  refine x_getR (r := 371) C (j := 17) ob358.1 ob358.2 (Nat.le_of_ble_eq_true rfl) (Nat.le_of_ble_eq_true rfl) (fun _ _ _ => rfl) r_358_17 tw_8_223 dX12_lays_40 ?_
  refine x_iload C 0 rfl dX12_lays_43 ?_
  refine x_iload C 6 rfl dX12_lays_45 ?_
  obtain ⟨c30, h⟩ := h
  refine x_iast C ob371.1 ob371.2 c30 rfl dX12_lays_47 ?_
  refine x_mu (fun μ31 e_μ31 => ?_)
  have h := h μ31 e_μ31
  refine x_aload_n C rfl 1 rfl dX12_lays_48 ?_
  refine x_getR (r := 372) C (j := 18) ob358.1 ob358.2 (Nat.le_of_ble_eq_true rfl) (Nat.le_of_ble_eq_true rfl) (fun _ _ _ => rfl) r_358_18 tw_8_224 dX12_lays_49 ?_
  refine x_iload C 0 rfl dX12_lays_52 ?_
  refine x_iload C 7 rfl dX12_lays_54 ?_
  obtain ⟨c32, h⟩ := h
  refine x_iast C ob372.1 ob372.2 c32 rfl dX12_lays_56 ?_
  refine x_mu (fun μ33 e_μ33 => ?_)
  have h := h μ33 e_μ33
  refine x_aload_n C rfl 1 rfl dX12_lays_57 ?_
  refine x_getR (r := 373) C (j := 19) ob358.1 ob358.2 (Nat.le_of_ble_eq_true rfl) (Nat.le_of_ble_eq_true rfl) (fun _ _ _ => rfl) r_358_19 tw_8_225 dX12_lays_58 ?_
  refine x_iload C 0 rfl dX12_lays_61 ?_
  refine x_iconst (v := 0) C (by decide) dX12_lays_63 ?_
  obtain ⟨c34, h⟩ := h
  refine x_zast C ob373.1 ob373.2 c34 rfl dX12_lays_64 ?_
  refine x_mu (fun μ35 e_μ35 => ?_)
  have h := h μ35 e_μ35
  refine x_aload_n C rfl 1 rfl dX12_lays_65 ?_
  refine x_getR (r := 374) C (j := 20) ob358.1 ob358.2 (Nat.le_of_ble_eq_true rfl) (Nat.le_of_ble_eq_true rfl) (fun _ _ _ => rfl) r_358_20 tw_8_226 dX12_lays_66 ?_
  refine x_iload C 0 rfl dX12_lays_69 ?_
  refine x_iconst (v := 0) C (by decide) dX12_lays_71 ?_
  obtain ⟨c36, h⟩ := h
  refine x_zast C ob374.1 ob374.2 c36 rfl dX12_lays_72 ?_
  refine x_mu (fun μ37 e_μ37 => ?_)
  have h := h μ37 e_μ37
  refine x_aload_n C rfl 1 rfl dX12_lays_73 ?_
  refine x_getR (r := 375) C (j := 21) ob358.1 ob358.2 (Nat.le_of_ble_eq_true rfl) (Nat.le_of_ble_eq_true rfl) (fun _ _ _ => rfl) r_358_21 tw_8_227 dX12_lays_74 ?_
  refine x_iload C 0 rfl dX12_lays_77 ?_
  refine x_iconst (v := 0) C (by decide) dX12_lays_79 ?_
  obtain ⟨c38, h⟩ := h
  refine x_iast C ob375.1 ob375.2 c38 rfl dX12_lays_80 ?_
  refine x_mu (fun μ39 e_μ39 => ?_)
  have h := h μ39 e_μ39
  refine x_aload_n C rfl 1 rfl dX12_lays_81 ?_
  refine x_dup C rfl dX12_lays_82 ?_
  refine x_getI C (j := 12) ob358.1 ob358.2 (Nat.le_of_ble_eq_true rfl) (Nat.le_of_ble_eq_true rfl) (Or.inl rfl) tw_8_218 dX12_lays_83 ?_
  refine x_iconst (v := 1) C (by decide) dX12_lays_86 ?_
  refine x_iadd C dX12_lays_87 ?_
  refine x_putI C (j := 12) ob358.1 ob358.2 (Nat.le_of_ble_eq_true rfl) (Nat.le_of_ble_eq_true rfl) (Or.inl rfl) rfl rfl rfl tw_8_218 dX12_lays_88 ?_
  refine x_mu (fun μ40 e_μ40 => ?_)
  have h := h μ40 e_μ40
  exact x_vret C hr dX12_lays_91 ⟨rfl, h⟩
