set_option maxHeartbeats 4000000 in
set_option maxRecDepth 100000 in
theorem G0_become_met {l : Launch} {φ : Nat → Nat} {tc : Nat → ClassId} {D : va_G} {s0 : State} (hG : GX φ tc D s0) {dR : Nat} (hd : G0_become_dep ≤ dR) {t : Nat} {v1 : Int32} {μ : MM} {Q : MM → Prop} (o_t : Ob t 0) (h : G0_become t v1 μ Q) : MX l φ tc D s0 dR yX0_become cX0_become 2 none [.ref t, .int v1] μ (QV Q) := by
  refine MX.of (own := RX0) hG plX0 rfl (Nat.le_of_ble_eq_true rfl) (fun p e s m args below meth c C hr => ?_)
  refine x_sub [(0, .ref t), (1, .int v1)] [0, 1] rfl ?_
  unfold G0_become at h
  refine x_aload_n C rfl 0 rfl dX0_become_0 ?_
  refine x_iconst (v := 1) C (by decide) dX0_become_1 ?_
  refine x_putI C (j := 1) o_t.1 o_t.2 (Nat.le_of_ble_eq_true rfl) (Nat.le_of_ble_eq_true rfl) (Or.inl rfl) rfl rfl rfl tw_2_49 dX0_become_2 ?_
  refine x_mu (fun μ5 e_μ5 => ?_)
  have h := h μ5 e_μ5
  refine x_aload_n C rfl 0 rfl dX0_become_5 ?_
  refine x_getR (r := (t + 1)) C (j := 0) o_t.1 o_t.2 (Nat.le_of_ble_eq_true rfl) (Nat.le_of_ble_eq_true rfl) (fun _ _ _ => rfl) (rF0_0 o_t) tw_2_48 dX0_become_6 ?_
  refine x_iconst (v := 0) C (by decide) dX0_become_9 ?_
  refine x_iload_n C rfl 1 rfl dX0_become_10 ?_
  refine x_i2l C dX0_become_11 ?_
  obtain ⟨c6, h⟩ := h
  refine x_last C (obF0_0 o_t).1 (obF0_0 o_t).2 c6 (j := 0) (by decide) dX0_become_12 ?_
  refine x_mu (fun μ7 e_μ7 => ?_)
  have h := h μ7 e_μ7
  refine x_aload_n C rfl 0 rfl dX0_become_13 ?_
  refine x_callV (dC := G0_carry_dep) (as := []) (st := []) C rX kX (Nat.le_trans (Nat.le_of_ble_eq_true rfl) hd) (Nat.le_of_ble_eq_true rfl) o_t.1 o_t.2 (Nat.le_of_ble_eq_true rfl) rfl ts_5_11 tw_5_29 tw_5_27 tc_5_30 tw_1_9 hyX0 hnX0_carry rfl (Nat.le_of_ble_eq_true rfl) dX0_become_14 (G0_carry_met C.2.2.2.2.2.2.2.1 (Nat.le_refl _) o_t h) (fun r0 μ8 hq => ?_)
  obtain ⟨rfl, h⟩ := hq
  refine x_st [] rfl ?_
  exact x_vret C hr dX0_become_17 ⟨rfl, h⟩
set_option maxHeartbeats 4000000 in
set_option maxRecDepth 100000 in
theorem G0_isMoreThan_L35_b {p : Program} {e : Env} {s : State} {m : MethodId} {args : Array Value} {below : List Frame} {meth : Method} {c : Code} {l : Launch} {φ : Nat → Nat} {tc : Nat → ClassId} {D : va_G} {s0 : State} {dR : Nat} (C : CX p s m args meth c φ tc D (AX φ) s0 cX0_isMoreThan RX0 3) (hd : G0_isMoreThan_dep ≤ dR) (hr : meth.sig.returnType = (some .boolean)) {t : Nat} {a1 : Nat}  {Q : Int32 → MM → Prop} {K35 : Int32 × MM → Prop} {x : Int32 × MM} (o_t : Ob t 0) (o_a1 : Ob a1 0)  (hK35 : ∀ (z2 : Int32) (zμ : MM), K35 (z2, zμ) → WX p l e (rmX dR) s m args below meth c φ tc D (AX φ) 3 0 0 (MQ below (QX φ tc D (QI Q)) args s 0 0 (AX φ)) 35 [(0, .ref t), (1, .ref a1), (2, .int z2)] [] zμ) (h : G0_isMoreThan_L35 t a1 Q K35 x) : WX p l e (rmX dR) s m args below meth c φ tc D (AX φ) 3 0 0 (MQ below (QX φ tc D (QI Q)) args s 0 0 (AX φ)) 35 [(0, .ref t), (1, .ref a1), (2, .int x.1)] [] x.2 := by
  unfold G0_isMoreThan_L35 at h
  refine x_iload_n C rfl 2 rfl dX0_isMoreThan_35 ?_
  refine x_if_lt (tgt := 83) C dX0_isMoreThan_36 (by decide) (fun c8 => ?_) (fun c8 => ?_)
  · have h := h.1 c8
    refine x_iconst (v := 0) C (by decide) dX0_isMoreThan_83 ?_
    exact x_zret C hr bo_0 dX0_isMoreThan_84 ⟨_, rfl, h⟩
  · have h := h.2 c8
    refine x_aload_n C rfl 0 rfl dX0_isMoreThan_39 ?_
    refine x_getR (r := (t + 1)) C (j := 0) o_t.1 o_t.2 (Nat.le_of_ble_eq_true rfl) (Nat.le_of_ble_eq_true rfl) (fun _ _ _ => rfl) (rF0_0 o_t) tw_2_48 dX0_isMoreThan_40 ?_
    refine x_iload_n C rfl 2 rfl dX0_isMoreThan_43 ?_
    obtain ⟨c9, h⟩ := h
    refine x_lald C (obF0_0 o_t).1 (obF0_0 o_t).2 c9 rfl dX0_isMoreThan_44 ?_
    refine x_aload_n C rfl 1 rfl dX0_isMoreThan_45 ?_
    refine x_getR (r := (a1 + 1)) C (j := 0) o_a1.1 o_a1.2 (Nat.le_of_ble_eq_true rfl) (Nat.le_of_ble_eq_true rfl) (fun _ _ _ => rfl) (rF0_0 o_a1) tw_2_48 dX0_isMoreThan_46 ?_
    refine x_iload_n C rfl 2 rfl dX0_isMoreThan_49 ?_
    obtain ⟨c10, h⟩ := h
    refine x_lald C (obF0_0 o_a1).1 (obF0_0 o_a1).2 c10 rfl dX0_isMoreThan_50 ?_
    refine x_lcmp C dX0_isMoreThan_51 ?_
    refine x_if_eq (tgt := 77) C dX0_isMoreThan_52 (by decide) (fun c11 => ?_) (fun c11 => ?_)
    · have h := h.1 c11
      refine x_iinc (v := (x.1 + (-1))) C [(2, .int (x.1 + (-1))), (0, .ref t), (1, .ref a1)] 2 rfl (congrArg (fun z => x.1 + z) (by decide : Int32.ofInt (-1) = (-1))) (Nat.le_of_ble_eq_true rfl) rfl dX0_isMoreThan_77 ?_
      refine x_goto (tgt := 35) C dX0_isMoreThan_80 (by decide) ?_
      refine x_sub [(0, .ref t), (1, .ref a1), (2, .int (x.1 + (-1)))] [1, 2, 0] rfl ?_
      exact hK35 _ _ h
    · have h := h.2 c11
      refine x_aload_n C rfl 0 rfl dX0_isMoreThan_55 ?_
      refine x_getR (r := (t + 1)) C (j := 0) o_t.1 o_t.2 (Nat.le_of_ble_eq_true rfl) (Nat.le_of_ble_eq_true rfl) (fun _ _ _ => rfl) (rF0_0 o_t) tw_2_48 dX0_isMoreThan_56 ?_
      refine x_iload_n C rfl 2 rfl dX0_isMoreThan_59 ?_
      obtain ⟨c12, h⟩ := h
      refine x_lald C (obF0_0 o_t).1 (obF0_0 o_t).2 c12 rfl dX0_isMoreThan_60 ?_
      refine x_aload_n C rfl 1 rfl dX0_isMoreThan_61 ?_
      refine x_getR (r := (a1 + 1)) C (j := 0) o_a1.1 o_a1.2 (Nat.le_of_ble_eq_true rfl) (Nat.le_of_ble_eq_true rfl) (fun _ _ _ => rfl) (rF0_0 o_a1) tw_2_48 dX0_isMoreThan_62 ?_
      refine x_iload_n C rfl 2 rfl dX0_isMoreThan_65 ?_
      obtain ⟨c13, h⟩ := h
      refine x_lald C (obF0_0 o_a1).1 (obF0_0 o_a1).2 c13 rfl dX0_isMoreThan_66 ?_
      refine x_lcmp C dX0_isMoreThan_67 ?_
      refine x_if_le (tgt := 75) C dX0_isMoreThan_68 (by decide) (fun c14 => ?_) (fun c14 => ?_)
      · have h := h.1 c14
        refine x_iconst (v := 0) C (by decide) dX0_isMoreThan_75 ?_
        exact x_zret C hr bo_0 dX0_isMoreThan_76 ⟨_, rfl, h⟩
      · have h := h.2 c14
        refine x_iconst (v := 1) C (by decide) dX0_isMoreThan_71 ?_
        refine x_goto (tgt := 76) C dX0_isMoreThan_72 (by decide) ?_
        exact x_zret C hr bo_1 dX0_isMoreThan_76 ⟨_, rfl, h⟩
theorem G0_isMoreThan_L35_ok {p : Program} {e : Env} {s : State} {m : MethodId} {args : Array Value} {below : List Frame} {meth : Method} {c : Code} {l : Launch} {φ : Nat → Nat} {tc : Nat → ClassId} {D : va_G} {s0 : State} {dR : Nat} (C : CX p s m args meth c φ tc D (AX φ) s0 cX0_isMoreThan RX0 3) (hd : G0_isMoreThan_dep ≤ dR) (hr : meth.sig.returnType = (some .boolean)) {t : Nat} {a1 : Nat}  {Q : Int32 → MM → Prop}  {x : Int32 × MM} (o_t : Ob t 0) (o_a1 : Ob a1 0)   (h : Lp (G0_isMoreThan_L35 t a1 Q) x) : WX p l e (rmX dR) s m args below meth c φ tc D (AX φ) 3 0 0 (MQ below (QX φ tc D (QI Q)) args s 0 0 (AX φ)) 35 [(0, .ref t), (1, .ref a1), (2, .int x.1)] [] x.2 := by
  obtain ⟨n, h⟩ := h
  induction n generalizing x with
  | zero => exact h.elim
  | succ n ih => exact G0_isMoreThan_L35_b C hd hr o_t o_a1  (fun z2 zμ hz => by have q := ih hz; exact q) h
set_option maxHeartbeats 4000000 in
set_option maxRecDepth 100000 in
theorem G0_isMoreThan_met {l : Launch} {φ : Nat → Nat} {tc : Nat → ClassId} {D : va_G} {s0 : State} (hG : GX φ tc D s0) {dR : Nat} (hd : G0_isMoreThan_dep ≤ dR) {t : Nat} {a1 : Nat} {μ : MM} {Q : Int32 → MM → Prop} (o_t : Ob t 0) (o_a1 : Ob a1 0) (h : G0_isMoreThan t a1 μ Q) : MX l φ tc D s0 dR yX0_isMoreThan cX0_isMoreThan 3 (some .boolean) [.ref t, .ref a1] μ (QI Q) := by
  refine MX.of (own := RX0) hG plX0 rfl (Nat.le_of_ble_eq_true rfl) (fun p e s m args below meth c C hr => ?_)
  refine x_sub [(0, .ref t), (1, .ref a1)] [0, 1] rfl ?_
  unfold G0_isMoreThan at h
  refine x_aload_n C rfl 0 rfl dX0_isMoreThan_0 ?_
  refine x_getI C (j := 1) o_t.1 o_t.2 (Nat.le_of_ble_eq_true rfl) (Nat.le_of_ble_eq_true rfl) (Or.inl rfl) tw_2_49 dX0_isMoreThan_1 ?_
  refine x_aload_n C rfl 1 rfl dX0_isMoreThan_4 ?_
  refine x_getI C (j := 1) o_a1.1 o_a1.2 (Nat.le_of_ble_eq_true rfl) (Nat.le_of_ble_eq_true rfl) (Or.inl rfl) tw_2_49 dX0_isMoreThan_5 ?_
  refine x_icmp_eq (tgt := 28) C dX0_isMoreThan_8 (by decide) (fun c6 => ?_) (fun c6 => ?_)
  · have h := h.1 c6
    refine x_aload_n C rfl 0 rfl dX0_isMoreThan_28 ?_
    refine x_getI C (j := 1) o_t.1 o_t.2 (Nat.le_of_ble_eq_true rfl) (Nat.le_of_ble_eq_true rfl) (Or.inl rfl) tw_2_49 dX0_isMoreThan_29 ?_
    refine x_iconst (v := 1) C (by decide) dX0_isMoreThan_32 ?_
    refine x_isub C dX0_isMoreThan_33 ?_
    refine x_topi (fun y7 e_y7 => ?_)
    have h := h y7 e_y7
    refine x_istore_n C [(2, .int y7), (0, .ref t), (1, .ref a1)] rfl (Nat.le_of_ble_eq_true rfl) rfl dX0_isMoreThan_34 ?_
    refine x_sub [(0, .ref t), (1, .ref a1), (2, .int y7)] [1, 2, 0] rfl ?_
    exact G0_isMoreThan_L35_ok C hd hr o_t o_a1 h
  · have h := h.2 c6
    refine x_aload_n C rfl 0 rfl dX0_isMoreThan_11 ?_
    refine x_getI C (j := 1) o_t.1 o_t.2 (Nat.le_of_ble_eq_true rfl) (Nat.le_of_ble_eq_true rfl) (Or.inl rfl) tw_2_49 dX0_isMoreThan_12 ?_
    refine x_aload_n C rfl 1 rfl dX0_isMoreThan_15 ?_
    refine x_getI C (j := 1) o_a1.1 o_a1.2 (Nat.le_of_ble_eq_true rfl) (Nat.le_of_ble_eq_true rfl) (Or.inl rfl) tw_2_49 dX0_isMoreThan_16 ?_
    refine x_icmp_le (tgt := 26) C dX0_isMoreThan_19 (by decide) (fun c15 => ?_) (fun c15 => ?_)
    · have h := h.1 c15
      refine x_iconst (v := 0) C (by decide) dX0_isMoreThan_26 ?_
      exact x_zret C hr bo_0 dX0_isMoreThan_27 ⟨_, rfl, h⟩
    · have h := h.2 c15
      refine x_iconst (v := 1) C (by decide) dX0_isMoreThan_22 ?_
      refine x_goto (tgt := 27) C dX0_isMoreThan_23 (by decide) ?_
      exact x_zret C hr bo_1 dX0_isMoreThan_27 ⟨_, rfl, h⟩
set_option maxHeartbeats 4000000 in
set_option maxRecDepth 100000 in
theorem G0_times_L2_b {p : Program} {e : Env} {s : State} {m : MethodId} {args : Array Value} {below : List Frame} {meth : Method} {c : Code} {l : Launch} {φ : Nat → Nat} {tc : Nat → ClassId} {D : va_G} {s0 : State} {dR : Nat} (C : CX p s m args meth c φ tc D (AX φ) s0 cX0_times RX0 4) (hd : G0_times_dep ≤ dR) (hr : meth.sig.returnType = none) {t : Nat} {p1 : Int64} {Q : MM → Prop} {K2 : Int32 × MM → Prop} {x : Int32 × MM} (o_t : Ob t 0)  (hK2 : ∀ (z3 : Int32) (zμ : MM), K2 (z3, zμ) → WX p l e (rmX dR) s m args below meth c φ tc D (AX φ) 4 0 0 (MQ below (QX φ tc D (QV Q)) args s 0 0 (AX φ)) 2 [(0, .ref t), (1, .long p1), (3, .int z3)] [] zμ) (h : G0_times_L2 t p1 Q K2 x) : WX p l e (rmX dR) s m args below meth c φ tc D (AX φ) 4 0 0 (MQ below (QX φ tc D (QV Q)) args s 0 0 (AX φ)) 2 [(0, .ref t), (1, .long p1), (3, .int x.1)] [] x.2 := by
  unfold G0_times_L2 at h
  refine x_iload_n C rfl 2 rfl dX0_times_2 ?_
  refine x_aload_n C rfl 0 rfl dX0_times_3 ?_
  refine x_getI C (j := 1) o_t.1 o_t.2 (Nat.le_of_ble_eq_true rfl) (Nat.le_of_ble_eq_true rfl) (Or.inl rfl) tw_2_49 dX0_times_4 ?_
  refine x_icmp_ge (tgt := 26) C dX0_times_7 (by decide) (fun c5 => ?_) (fun c5 => ?_)
  · have h := h.1 c5
    refine x_aload_n C rfl 0 rfl dX0_times_26 ?_
    refine x_callV (dC := G0_carry_dep) (as := []) (st := []) C rX kX (Nat.le_trans (Nat.le_of_ble_eq_true rfl) hd) (Nat.le_of_ble_eq_true rfl) o_t.1 o_t.2 (Nat.le_of_ble_eq_true rfl) rfl ts_5_11 tw_5_29 tw_5_27 tc_5_30 tw_1_9 hyX0 hnX0_carry rfl (Nat.le_of_ble_eq_true rfl) dX0_times_27 (G0_carry_met C.2.2.2.2.2.2.2.1 (Nat.le_refl _) o_t h) (fun r0 μ6 hq => ?_)
    obtain ⟨rfl, h⟩ := hq
    refine x_st [] rfl ?_
    exact x_vret C hr dX0_times_30 ⟨rfl, h⟩
  · have h := h.2 c5
    refine x_aload_n C rfl 0 rfl dX0_times_10 ?_
    refine x_getR (r := (t + 1)) C (j := 0) o_t.1 o_t.2 (Nat.le_of_ble_eq_true rfl) (Nat.le_of_ble_eq_true rfl) (fun _ _ _ => rfl) (rF0_0 o_t) tw_2_48 dX0_times_11 ?_
    refine x_iload_n C rfl 2 rfl dX0_times_14 ?_
    refine x_dup2_11 C rfl rfl dX0_times_15 ?_
    obtain ⟨c7, h⟩ := h
    refine x_lald C (obF0_0 o_t).1 (obF0_0 o_t).2 c7 rfl dX0_times_16 ?_
    refine x_lload_n C rfl 1 rfl dX0_times_17 ?_
    refine x_lmul C dX0_times_18 ?_
    obtain ⟨c8, h⟩ := h
    refine x_last C (obF0_0 o_t).1 (obF0_0 o_t).2 c8 rfl dX0_times_19 ?_
    refine x_mu (fun μ9 e_μ9 => ?_)
    have h := h μ9 e_μ9
    refine x_iinc (v := (x.1 + 1)) C [(3, .int (x.1 + 1)), (0, .ref t), (1, .long p1)] 2 rfl (congrArg (fun z => x.1 + z) (by decide : Int32.ofInt (1) = 1)) (Nat.le_of_ble_eq_true rfl) rfl dX0_times_20 ?_
    refine x_goto (tgt := 2) C dX0_times_23 (by decide) ?_
    refine x_sub [(0, .ref t), (1, .long p1), (3, .int (x.1 + 1))] [1, 2, 0] rfl ?_
    exact hK2 _ _ h
theorem G0_times_L2_ok {p : Program} {e : Env} {s : State} {m : MethodId} {args : Array Value} {below : List Frame} {meth : Method} {c : Code} {l : Launch} {φ : Nat → Nat} {tc : Nat → ClassId} {D : va_G} {s0 : State} {dR : Nat} (C : CX p s m args meth c φ tc D (AX φ) s0 cX0_times RX0 4) (hd : G0_times_dep ≤ dR) (hr : meth.sig.returnType = none) {t : Nat} {p1 : Int64} {Q : MM → Prop}  {x : Int32 × MM} (o_t : Ob t 0)   (h : Lp (G0_times_L2 t p1 Q) x) : WX p l e (rmX dR) s m args below meth c φ tc D (AX φ) 4 0 0 (MQ below (QX φ tc D (QV Q)) args s 0 0 (AX φ)) 2 [(0, .ref t), (1, .long p1), (3, .int x.1)] [] x.2 := by
  obtain ⟨n, h⟩ := h
  induction n generalizing x with
  | zero => exact h.elim
  | succ n ih => exact G0_times_L2_b C hd hr o_t  (fun z3 zμ hz => by have q := ih hz; exact q) h
set_option maxHeartbeats 4000000 in
set_option maxRecDepth 100000 in
theorem G0_times_met {l : Launch} {φ : Nat → Nat} {tc : Nat → ClassId} {D : va_G} {s0 : State} (hG : GX φ tc D s0) {dR : Nat} (hd : G0_times_dep ≤ dR) {t : Nat} {v1 : Int64} {μ : MM} {Q : MM → Prop} (o_t : Ob t 0) (h : G0_times t v1 μ Q) : MX l φ tc D s0 dR yX0_times cX0_times 4 none [.ref t, .long v1] μ (QV Q) := by
  refine MX.of (own := RX0) hG plX0 rfl (Nat.le_of_ble_eq_true rfl) (fun p e s m args below meth c C hr => ?_)
  refine x_sub [(0, .ref t), (1, .long v1)] [0, 1] rfl ?_
  unfold G0_times at h
  refine x_iconst (v := 0) C (by decide) dX0_times_0 ?_
  refine x_istore_n C [(3, .int 0), (0, .ref t), (1, .long v1)] rfl (Nat.le_of_ble_eq_true rfl) rfl dX0_times_1 ?_
  refine x_sub [(0, .ref t), (1, .long v1), (3, .int 0)] [1, 2, 0] rfl ?_
  exact G0_times_L2_ok C hd hr o_t h
set_option maxHeartbeats 4000000 in
set_option maxRecDepth 100000 in
theorem G4_tenths_met {l : Launch} {φ : Nat → Nat} {tc : Nat → ClassId} {D : va_G} {s0 : State} (hG : GX φ tc D s0) {dR : Nat} (hd : G4_tenths_dep ≤ dR) {v0 : Int32} {v1 : Int32} {μ : MM} {Q : Int32 → MM → Prop}  (h : G4_tenths v0 v1 μ Q) : MX l φ tc D s0 dR yX4_tenths cX4_tenths 5 (some .int) [.int v0, .int v1] μ (QI Q) := by
  refine MX.of (own := RX4) hG plX4 rfl (Nat.le_of_ble_eq_true rfl) (fun p e s m args below meth c C hr => ?_)
  refine x_sub [(0, .int v0), (1, .int v1)] [0, 1] rfl ?_
  unfold G4_tenths at h
  refine x_iload_n C rfl 0 rfl dX4_tenths_0 ?_
  refine x_bipush (v := 121) C (by decide) dX4_tenths_1 ?_
  refine x_idiv C (by decide) dX4_tenths_3 ?_
  refine x_topi (fun y4 e_y4 => ?_)
  have h := h y4 e_y4
  refine x_istore_n C [(2, .int y4), (0, .int v0), (1, .int v1)] rfl (Nat.le_of_ble_eq_true rfl) rfl dX4_tenths_4 ?_
  refine x_iload_n C rfl 1 rfl dX4_tenths_5 ?_
  refine x_bipush (v := 11) C (by decide) dX4_tenths_6 ?_
  refine x_idiv C (by decide) dX4_tenths_8 ?_
  refine x_bipush (v := 11) C (by decide) dX4_tenths_9 ?_
  refine x_irem C (by decide) dX4_tenths_11 ?_
  refine x_topi (fun y5 e_y5 => ?_)
  have h := h y5 e_y5
  refine x_istore_n C [(3, .int y5), (2, .int y4), (0, .int v0), (1, .int v1)] rfl (Nat.le_of_ble_eq_true rfl) rfl dX4_tenths_12 ?_
  refine x_iload_n C rfl 2 rfl dX4_tenths_13 ?_
  refine x_bipush (v := 11) C (by decide) dX4_tenths_14 ?_
  refine x_irem C (by decide) dX4_tenths_16 ?_
  refine x_topi (fun y6 e_y6 => ?_)
  have h := h y6 e_y6
  refine x_istore C [(4, .int y6), (3, .int y5), (2, .int y4), (0, .int v0), (1, .int v1)] (Nat.le_of_ble_eq_true rfl) rfl dX4_tenths_17 ?_
  refine x_iload_n C rfl 4 rfl dX4_tenths_19 ?_
  by_cases c7 : v1 = 0
  · have h := h.1 c7
    refine x_tIn (tgt := 48) C dX4_tenths_20 (by rw [c7]; decide) (by rw [c7]; decide) (by rw [c7]; rfl) (by decide) ?_
    refine x_iload_n C rfl 2 rfl dX4_tenths_48 ?_
    exact x_iret C hr dX4_tenths_49 ⟨_, rfl, h⟩
  have h := h.2
  by_cases c8 : v1 = 1
  · have h := h.1 c8
    refine x_tIn (tgt := 50) C dX4_tenths_20 (by rw [c8]; decide) (by rw [c8]; decide) (by rw [c8]; rfl) (by decide) ?_
    refine x_iload_n C rfl 1 rfl dX4_tenths_50 ?_
    exact x_iret C hr dX4_tenths_51 ⟨_, rfl, h⟩
  have h := h.2
  by_cases c9 : v1 = 2
  · have h := h.1 c9
    refine x_tIn (tgt := 52) C dX4_tenths_20 (by rw [c9]; decide) (by rw [c9]; decide) (by rw [c9]; rfl) (by decide) ?_
    refine x_iload C 0 rfl dX4_tenths_52 ?_
    exact x_iret C hr dX4_tenths_54 ⟨_, rfl, h⟩
  have h := h.2
  have h := h c7 c8 c9
  have n_c7 := lv_neT (a := 0) c7 (by decide)
  have n_c8 := lv_neT (a := 1) c8 (by decide)
  have n_c9 := lv_neT (a := 2) c9 (by decide)
  refine x_tOut (tgt := 55) C dX4_tenths_20 (by omega) (by decide) ?_
  refine x_bipush (v := 10) C (by decide) dX4_tenths_55 ?_
  refine x_iload_n C rfl 2 rfl dX4_tenths_57 ?_
  refine x_isub C dX4_tenths_58 ?_
  refine x_iload_n C rfl 1 rfl dX4_tenths_59 ?_
  refine x_isub C dX4_tenths_60 ?_
  refine x_iload C 0 rfl dX4_tenths_61 ?_
  refine x_isub C dX4_tenths_63 ?_
  exact x_iret C hr dX4_tenths_64 ⟨_, rfl, h⟩
set_option maxHeartbeats 4000000 in
set_option maxRecDepth 100000 in
theorem G4_isLikelier_L21_b {p : Program} {e : Env} {s : State} {m : MethodId} {args : Array Value} {below : List Frame} {meth : Method} {c : Code} {l : Launch} {φ : Nat → Nat} {tc : Nat → ClassId} {D : va_G} {s0 : State} {dR : Nat} (C : CX p s m args meth c φ tc D (AX φ) s0 cX4_isLikelier RX4 7) (hd : G4_isLikelier_dep ≤ dR) (hr : meth.sig.returnType = (some .boolean))  {p1 : Int32} {p2 : Int32} {p3 : Int32} {Q : Int32 → MM → Prop} {K10 : Int32 × MM → Prop} {K21 : Int64 × Int32 × MM → Prop} {x : Int64 × Int32 × MM}   (hK10 : ∀ (z3 : Int32) (zμ : MM), K10 (z3, zμ) → WX p l e (rmX dR) s m args below meth c φ tc D (AX φ) 7 0 0 (MQ below (QX φ tc D (QI Q)) args s 0 0 (AX φ)) 10 [(0, .ref 168), (1, .int p1), (2, .int p2), (3, .int z3)] [] zμ) (hK21 : ∀ (z4 : Int64) (z6 : Int32) (zμ : MM), K21 (z4, z6, zμ) → WX p l e (rmX dR) s m args below meth c φ tc D (AX φ) 7 0 0 (MQ below (QX φ tc D (QI Q)) args s 0 0 (AX φ)) 21 [(0, .ref 168), (1, .int p1), (2, .int p2), (3, .int p3), (4, .long z4), (6, .int z6)] [] zμ) (h : G4_isLikelier_L21 p1 p2 p3 K10 Q K21 x) : WX p l e (rmX dR) s m args below meth c φ tc D (AX φ) 7 0 0 (MQ below (QX φ tc D (QI Q)) args s 0 0 (AX φ)) 21 [(0, .ref 168), (1, .int p1), (2, .int p2), (3, .int p3), (4, .long x.1), (6, .int x.2.1)] [] x.2.2 := by
  unfold G4_isLikelier_L21 at h
  refine x_iload C 5 rfl dX4_isLikelier_21 ?_
  refine x_iconst (v := 4) C (by decide) dX4_isLikelier_23 ?_
  refine x_icmp_ge (tgt := 55) C dX4_isLikelier_24 (by decide) (fun c30 => ?_) (fun c30 => ?_)
  · have h := h.1 c30
    refine x_lload C 4 rfl dX4_isLikelier_55 ?_
    refine x_lconst (v := 0) C (by decide) dX4_isLikelier_57 ?_
    refine x_lcmp C dX4_isLikelier_58 ?_
    refine x_if_ne (tgt := 64) C dX4_isLikelier_59 (by decide) (fun c31 => ?_) (fun c31 => ?_)
    · have h := h.1 c31
      refine x_aload_n C rfl 0 rfl dX4_isLikelier_64 ?_
      obtain ⟨r32, e_r32, o_r32, h⟩ := h
      refine x_getR (r := r32) C (j := 8) ob168.1 ob168.2 (Nat.le_of_ble_eq_true rfl) (Nat.le_of_ble_eq_true rfl) (fun _ _ _ => rfl) (fun _ => e_r32) tw_2_63 dX4_isLikelier_65 ?_
      refine x_lload C 4 rfl dX4_isLikelier_68 ?_
      refine x_callVN (dC := G0_times_dep) (as := [.long x.1]) (st := []) C rX kX (Nat.le_trans (Nat.le_of_ble_eq_true rfl) hd) (Nat.le_of_ble_eq_true rfl) o_r32.1 o_r32.2 (Nat.le_of_ble_eq_true rfl) rfl ts_5_14 tw_5_45 tw_5_43 tc_5_46 tw_1_9 hyX0 hnX0_times rfl (Nat.le_of_ble_eq_true rfl) dX4_isLikelier_70 (G0_times_met C.2.2.2.2.2.2.2.1 (Nat.le_refl _) o_r32 h) (fun r0 μ33 hq => ?_)
      obtain ⟨rfl, h⟩ := hq
      refine x_st [] rfl ?_
      refine x_iinc (v := (p3 + 1)) C [(3, .int (p3 + 1)), (0, .ref 168), (1, .int p1), (2, .int p2), (4, .long x.1), (6, .int x.2.1)] 3 rfl (congrArg (fun z => p3 + z) (by decide : Int32.ofInt (1) = 1)) (Nat.le_of_ble_eq_true rfl) rfl dX4_isLikelier_73 ?_
      refine x_goto (tgt := 10) C dX4_isLikelier_76 (by decide) ?_
      refine x_sub [(0, .ref 168), (1, .int p1), (2, .int p2), (3, .int (p3 + 1))] [1, 2, 3, 0] rfl ?_
      exact hK10 _ _ h
    · have h := h.2 c31
      refine x_iconst (v := 0) C (by decide) dX4_isLikelier_62 ?_
      exact x_zret C hr bo_0 dX4_isLikelier_63 ⟨_, rfl, h⟩
  · have h := h.2 c30
    refine x_lload C 4 rfl dX4_isLikelier_27 ?_
    refine x_iload_n C rfl 1 rfl dX4_isLikelier_29 ?_
    refine x_iload C 5 rfl dX4_isLikelier_30 ?_
    refine x_callS (dC := G4_tenths_dep) (as := [.int p1, .int x.2.1]) (st := [.long x.1]) C rX kX (Nat.le_trans (Nat.le_of_ble_eq_true rfl) hd) (Nat.le_of_ble_eq_true rfl) tw_5_41 tw_5_40 tc_5_42 tw_1_8 hyX4 hnX4_tenths rfl (Nat.le_of_ble_eq_true rfl) dX4_isLikelier_32 (G4_tenths_met C.2.2.2.2.2.2.2.1 (Nat.le_refl _)  h) (fun r0 μ34 hq => ?_)
    obtain ⟨r35, rfl, h⟩ := hq
    refine x_st [.int r35, .long x.1] rfl ?_
    refine x_i2l C dX4_isLikelier_35 ?_
    refine x_aload_n C rfl 0 rfl dX4_isLikelier_36 ?_
    refine x_getR (r := 172) C (j := 5) ob168.1 ob168.2 (Nat.le_of_ble_eq_true rfl) (Nat.le_of_ble_eq_true rfl) (fun _ _ _ => rfl) r_168_5 tw_2_60 dX4_isLikelier_37 ?_
    refine x_iload_n C rfl 3 rfl dX4_isLikelier_40 ?_
    obtain ⟨c36, h⟩ := h
    refine x_aald (r := (173 + p3.toNatClampNeg)) C ob172.1 (by decide) (by decide) c36 rfl (rA172 c36) dX4_isLikelier_41 ?_
    refine x_iload C 5 rfl dX4_isLikelier_42 ?_
    obtain ⟨c37, h⟩ := h
    refine x_lald C (obA172 c36).1 (obA172 c36).2 (by rw [lnA172 c36]; exact c37) rfl dX4_isLikelier_44 ?_
    refine x_lmul C dX4_isLikelier_45 ?_
    refine x_ladd C dX4_isLikelier_46 ?_
    refine x_topl (fun y38 e_y38 => ?_)
    have h := h y38 e_y38
    refine x_lstore C [(4, .long y38), (0, .ref 168), (1, .int p1), (2, .int p2), (3, .int p3), (6, .int x.2.1)] (Nat.le_of_ble_eq_true rfl) rfl dX4_isLikelier_47 ?_
    refine x_iinc (v := (x.2.1 + 1)) C [(6, .int (x.2.1 + 1)), (4, .long y38), (0, .ref 168), (1, .int p1), (2, .int p2), (3, .int p3)] 5 rfl (congrArg (fun z => x.2.1 + z) (by decide : Int32.ofInt (1) = 1)) (Nat.le_of_ble_eq_true rfl) rfl dX4_isLikelier_49 ?_
    refine x_goto (tgt := 21) C dX4_isLikelier_52 (by decide) ?_
    refine x_sub [(0, .ref 168), (1, .int p1), (2, .int p2), (3, .int p3), (4, .long y38), (6, .int (x.2.1 + 1))] [2, 3, 4, 5, 1, 0] rfl ?_
    exact hK21 _ _ _ h
theorem G4_isLikelier_L21_ok {p : Program} {e : Env} {s : State} {m : MethodId} {args : Array Value} {below : List Frame} {meth : Method} {c : Code} {l : Launch} {φ : Nat → Nat} {tc : Nat → ClassId} {D : va_G} {s0 : State} {dR : Nat} (C : CX p s m args meth c φ tc D (AX φ) s0 cX4_isLikelier RX4 7) (hd : G4_isLikelier_dep ≤ dR) (hr : meth.sig.returnType = (some .boolean))  {p1 : Int32} {p2 : Int32} {p3 : Int32} {Q : Int32 → MM → Prop} {K10 : Int32 × MM → Prop} {x : Int64 × Int32 × MM}   (hK10 : ∀ (z3 : Int32) (zμ : MM), K10 (z3, zμ) → WX p l e (rmX dR) s m args below meth c φ tc D (AX φ) 7 0 0 (MQ below (QX φ tc D (QI Q)) args s 0 0 (AX φ)) 10 [(0, .ref 168), (1, .int p1), (2, .int p2), (3, .int z3)] [] zμ) (h : Lp (G4_isLikelier_L21 p1 p2 p3 K10 Q) x) : WX p l e (rmX dR) s m args below meth c φ tc D (AX φ) 7 0 0 (MQ below (QX φ tc D (QI Q)) args s 0 0 (AX φ)) 21 [(0, .ref 168), (1, .int p1), (2, .int p2), (3, .int p3), (4, .long x.1), (6, .int x.2.1)] [] x.2.2 := by
  obtain ⟨n, h⟩ := h
  induction n generalizing x with
  | zero => exact h.elim
  | succ n ih => exact G4_isLikelier_L21_b C hd hr  hK10 (fun z4 z6 zμ hz => by have q := ih hz; exact q) h
set_option maxHeartbeats 4000000 in
set_option maxRecDepth 100000 in
theorem G4_isLikelier_L10_b {p : Program} {e : Env} {s : State} {m : MethodId} {args : Array Value} {below : List Frame} {meth : Method} {c : Code} {l : Launch} {φ : Nat → Nat} {tc : Nat → ClassId} {D : va_G} {s0 : State} {dR : Nat} (C : CX p s m args meth c φ tc D (AX φ) s0 cX4_isLikelier RX4 7) (hd : G4_isLikelier_dep ≤ dR) (hr : meth.sig.returnType = (some .boolean))  {p1 : Int32} {p2 : Int32} {Q : Int32 → MM → Prop} {K10 : Int32 × MM → Prop} {x : Int32 × MM}   (hK10 : ∀ (z3 : Int32) (zμ : MM), K10 (z3, zμ) → WX p l e (rmX dR) s m args below meth c φ tc D (AX φ) 7 0 0 (MQ below (QX φ tc D (QI Q)) args s 0 0 (AX φ)) 10 [(0, .ref 168), (1, .int p1), (2, .int p2), (3, .int z3)] [] zμ) (h : G4_isLikelier_L10 p1 p2 Q K10 x) : WX p l e (rmX dR) s m args below meth c φ tc D (AX φ) 7 0 0 (MQ below (QX φ tc D (QI Q)) args s 0 0 (AX φ)) 10 [(0, .ref 168), (1, .int p1), (2, .int p2), (3, .int x.1)] [] x.2 := by
  unfold G4_isLikelier_L10 at h
  refine x_iload_n C rfl 3 rfl dX4_isLikelier_10 ?_
  refine x_iload_n C rfl 2 rfl dX4_isLikelier_11 ?_
  refine x_icmp_ge (tgt := 79) C dX4_isLikelier_12 (by decide) (fun c20 => ?_) (fun c20 => ?_)
  · have h := h.1 c20
    refine x_aload_n C rfl 0 rfl dX4_isLikelier_79 ?_
    obtain ⟨r21, e_r21, o_r21, h⟩ := h
    refine x_getR (r := r21) C (j := 8) ob168.1 ob168.2 (Nat.le_of_ble_eq_true rfl) (Nat.le_of_ble_eq_true rfl) (fun _ _ _ => rfl) (fun _ => e_r21) tw_2_63 dX4_isLikelier_80 ?_
    refine x_aload_n C rfl 0 rfl dX4_isLikelier_83 ?_
    obtain ⟨r22, e_r22, o_r22, h⟩ := h
    refine x_getR (r := r22) C (j := 7) ob168.1 ob168.2 (Nat.le_of_ble_eq_true rfl) (Nat.le_of_ble_eq_true rfl) (fun _ _ _ => rfl) (fun _ => e_r22) tw_2_62 dX4_isLikelier_84 ?_
    refine x_callVN (dC := G0_isMoreThan_dep) (as := [.ref r22]) (st := []) C rX kX (Nat.le_trans (Nat.le_of_ble_eq_true rfl) hd) (Nat.le_of_ble_eq_true rfl) o_r21.1 o_r21.2 (Nat.le_of_ble_eq_true rfl) rfl ts_5_15 tw_5_49 tw_5_47 tc_5_50 tw_1_9 hyX0 hnX0_isMoreThan rfl (Nat.le_of_ble_eq_true rfl) dX4_isLikelier_87 (G0_isMoreThan_met C.2.2.2.2.2.2.2.1 (Nat.le_refl _) o_r21 o_r22 h) (fun r0 μ23 hq => ?_)
    obtain ⟨r24, rfl, h⟩ := hq
    refine x_st [.int r24] rfl ?_
    refine x_if_ne (tgt := 95) C dX4_isLikelier_90 (by decide) (fun c25 => ?_) (fun c25 => ?_)
    · have h := h.1 c25
      refine x_aload_n C rfl 0 rfl dX4_isLikelier_95 ?_
      obtain ⟨r26, e_r26, o_r26, h⟩ := h
      refine x_getR (r := r26) C (j := 7) ob168.1 ob168.2 (Nat.le_of_ble_eq_true rfl) (Nat.le_of_ble_eq_true rfl) (fun _ _ _ => rfl) (fun _ => e_r26) tw_2_62 dX4_isLikelier_96 ?_
      refine x_astore_n C [(3, .ref r26), (0, .ref 168), (1, .int p1), (2, .int p2)] rfl (Nat.le_of_ble_eq_true rfl) rfl dX4_isLikelier_99 ?_
      refine x_aload_n C rfl 1 rfl dX4_isLikelier_100 ?_
      refine x_aload_n C rfl 1 rfl dX4_isLikelier_101 ?_
      obtain ⟨r27, e_r27, o_r27, h⟩ := h
      refine x_getR (r := r27) C (j := 8) ob168.1 ob168.2 (Nat.le_of_ble_eq_true rfl) (Nat.le_of_ble_eq_true rfl) (fun _ _ _ => rfl) (fun _ => e_r27) tw_2_63 dX4_isLikelier_102 ?_
      refine x_putR7 C o_r27 tw_2_62 dX4_isLikelier_105 ?_
      refine x_mu (fun μ28 e_μ28 => ?_)
      have h := h μ28 e_μ28
      refine x_aload_n C rfl 1 rfl dX4_isLikelier_108 ?_
      refine x_aload_n C rfl 0 rfl dX4_isLikelier_109 ?_
      refine x_putR8 C o_r26 tw_2_63 dX4_isLikelier_110 ?_
      refine x_mu (fun μ29 e_μ29 => ?_)
      have h := h μ29 e_μ29
      refine x_iconst (v := 1) C (by decide) dX4_isLikelier_113 ?_
      exact x_zret C hr bo_1 dX4_isLikelier_114 ⟨_, rfl, h⟩
    · have h := h.2 c25
      refine x_iconst (v := 0) C (by decide) dX4_isLikelier_93 ?_
      exact x_zret C hr bo_0 dX4_isLikelier_94 ⟨_, rfl, h⟩
  · have h := h.2 c20
    refine x_lconst (v := 0) C (by decide) dX4_isLikelier_15 ?_
    refine x_lstore C [(4, .long 0), (0, .ref 168), (1, .int p1), (2, .int p2), (3, .int x.1)] (Nat.le_of_ble_eq_true rfl) rfl dX4_isLikelier_16 ?_
    refine x_iconst (v := 0) C (by decide) dX4_isLikelier_18 ?_
    refine x_istore C [(6, .int 0), (4, .long 0), (0, .ref 168), (1, .int p1), (2, .int p2), (3, .int x.1)] (Nat.le_of_ble_eq_true rfl) rfl dX4_isLikelier_19 ?_
    refine x_sub [(0, .ref 168), (1, .int p1), (2, .int p2), (3, .int x.1), (4, .long 0), (6, .int 0)] [2, 3, 4, 5, 1, 0] rfl ?_
    exact G4_isLikelier_L21_ok C hd hr hK10 h
theorem G4_isLikelier_L10_ok {p : Program} {e : Env} {s : State} {m : MethodId} {args : Array Value} {below : List Frame} {meth : Method} {c : Code} {l : Launch} {φ : Nat → Nat} {tc : Nat → ClassId} {D : va_G} {s0 : State} {dR : Nat} (C : CX p s m args meth c φ tc D (AX φ) s0 cX4_isLikelier RX4 7) (hd : G4_isLikelier_dep ≤ dR) (hr : meth.sig.returnType = (some .boolean))  {p1 : Int32} {p2 : Int32} {Q : Int32 → MM → Prop}  {x : Int32 × MM}    (h : Lp (G4_isLikelier_L10 p1 p2 Q) x) : WX p l e (rmX dR) s m args below meth c φ tc D (AX φ) 7 0 0 (MQ below (QX φ tc D (QI Q)) args s 0 0 (AX φ)) 10 [(0, .ref 168), (1, .int p1), (2, .int p2), (3, .int x.1)] [] x.2 := by
  obtain ⟨n, h⟩ := h
  induction n generalizing x with
  | zero => exact h.elim
  | succ n ih => exact G4_isLikelier_L10_b C hd hr   (fun z3 zμ hz => by have q := ih hz; exact q) h
set_option maxHeartbeats 4000000 in
set_option maxRecDepth 100000 in
theorem G4_isLikelier_met {l : Launch} {φ : Nat → Nat} {tc : Nat → ClassId} {D : va_G} {s0 : State} (hG : GX φ tc D s0) {dR : Nat} (hd : G4_isLikelier_dep ≤ dR) {v1 : Int32} {v2 : Int32} {μ : MM} {Q : Int32 → MM → Prop}  (h : G4_isLikelier v1 v2 μ Q) : MX l φ tc D s0 dR yX4_isLikelier cX4_isLikelier 7 (some .boolean) [.ref 168, .int v1, .int v2] μ (QI Q) := by
  refine MX.of (own := RX4) hG plX4 rfl (Nat.le_of_ble_eq_true rfl) (fun p e s m args below meth c C hr => ?_)
  refine x_sub [(0, .ref 168), (1, .int v1), (2, .int v2)] [0, 1, 2] rfl ?_
  unfold G4_isLikelier at h
  refine x_aload_n C rfl 0 rfl dX4_isLikelier_0 ?_
  obtain ⟨r18, e_r18, o_r18, h⟩ := h
  refine x_getR (r := r18) C (j := 8) ob168.1 ob168.2 (Nat.le_of_ble_eq_true rfl) (Nat.le_of_ble_eq_true rfl) (fun _ _ _ => rfl) (fun _ => e_r18) tw_2_63 dX4_isLikelier_1 ?_
  refine x_iconst (v := 1) C (by decide) dX4_isLikelier_4 ?_
  refine x_callVN (dC := G0_become_dep) (as := [.int 1]) (st := []) C rX kX (Nat.le_trans (Nat.le_of_ble_eq_true rfl) hd) (Nat.le_of_ble_eq_true rfl) o_r18.1 o_r18.2 (Nat.le_of_ble_eq_true rfl) rfl ts_5_10 tw_5_25 tw_5_23 tc_5_26 tw_1_9 hyX0 hnX0_become rfl (Nat.le_of_ble_eq_true rfl) dX4_isLikelier_5 (G0_become_met C.2.2.2.2.2.2.2.1 (Nat.le_refl _) o_r18 h) (fun r0 μ19 hq => ?_)
  obtain ⟨rfl, h⟩ := hq
  refine x_st [] rfl ?_
  refine x_iconst (v := 0) C (by decide) dX4_isLikelier_8 ?_
  refine x_istore_n C [(3, .int 0), (0, .ref 168), (1, .int v1), (2, .int v2)] rfl (Nat.le_of_ble_eq_true rfl) rfl dX4_isLikelier_9 ?_
  refine x_sub [(0, .ref 168), (1, .int v1), (2, .int v2), (3, .int 0)] [1, 2, 3, 0] rfl ?_
  exact G4_isLikelier_L10_ok C hd hr  h
set_option maxHeartbeats 4000000 in
set_option maxRecDepth 100000 in
theorem G4_tellFit_L137_b {p : Program} {e : Env} {s : State} {m : MethodId} {args : Array Value} {below : List Frame} {meth : Method} {c : Code} {l : Launch} {φ : Nat → Nat} {tc : Nat → ClassId} {D : va_G} {s0 : State} {dR : Nat} (C : CX p s m args meth c φ tc D (AX φ) s0 cX4_tellFit RX4 4) (hd : G4_tellFit_dep ≤ dR) (hr : meth.sig.returnType = (some .int))  {p1 : Int32} {p2 : Int32} {Q : Int32 → MM → Prop} {K137 : Int32 × MM → Prop} {x : Int32 × MM}   (hK137 : ∀ (z3 : Int32) (zμ : MM), K137 (z3, zμ) → WX p l e (rmX dR) s m args below meth c φ tc D (AX φ) 4 0 0 (MQ below (QX φ tc D (QI Q)) args s 0 0 (AX φ)) 137 [(0, .ref 168), (1, .int p1), (2, .int p2), (3, .int z3)] [] zμ) (h : G4_tellFit_L137 p1 p2 Q K137 x) : WX p l e (rmX dR) s m args below meth c φ tc D (AX φ) 4 0 0 (MQ below (QX φ tc D (QI Q)) args s 0 0 (AX φ)) 137 [(0, .ref 168), (1, .int p1), (2, .int p2), (3, .int x.1)] [] x.2 := by
  unfold G4_tellFit_L137 at h
  refine x_iload_n C rfl 3 rfl dX4_tellFit_137 ?_
  refine x_iconst (v := 4) C (by decide) dX4_tellFit_138 ?_
  refine x_icmp_ge (tgt := 161) C dX4_tellFit_139 (by decide) (fun c22 => ?_) (fun c22 => ?_)
  · have h := h.1 c22
    refine x_iload_n C rfl 1 rfl dX4_tellFit_161 ?_
    exact x_iret C hr dX4_tellFit_162 ⟨_, rfl, h⟩
  · have h := h.2 c22
    refine x_aload_n C rfl 0 rfl dX4_tellFit_142 ?_
    refine x_getR (r := 151) C (j := 1) ob168.1 ob168.2 (Nat.le_of_ble_eq_true rfl) (Nat.le_of_ble_eq_true rfl) (fun _ _ _ => rfl) r_168_1 tw_2_56 dX4_tellFit_143 ?_
    refine x_iload_n C rfl 2 rfl dX4_tellFit_146 ?_
    refine x_iload_n C rfl 3 rfl dX4_tellFit_147 ?_
    refine x_callS (dC := G4_tenths_dep) (as := [.int p2, .int x.1]) (st := [.ref 151]) C rX kX (Nat.le_trans (Nat.le_of_ble_eq_true rfl) hd) (Nat.le_of_ble_eq_true rfl) tw_5_41 tw_5_40 tc_5_42 tw_1_8 hyX4 hnX4_tenths rfl (Nat.le_of_ble_eq_true rfl) dX4_tellFit_148 (G4_tenths_met C.2.2.2.2.2.2.2.1 (Nat.le_refl _)  h) (fun r0 μ23 hq => ?_)
    obtain ⟨r24, rfl, h⟩ := hq
    refine x_st [.int r24, .ref 151] rfl ?_
    refine x_i2l C dX4_tellFit_151 ?_
    refine x_callVN (dC := G7_add_dep) (as := [.long (r24.toInt64)]) (st := []) C rX kX (Nat.le_trans (Nat.le_of_ble_eq_true rfl) hd) (Nat.le_of_ble_eq_true rfl) ob151.1 ob151.2 (Nat.le_of_ble_eq_true rfl) rfl ts_3_11 tw_4_63 tw_5_52 tc_4_64 tw_1_5 hyX7 hnX7_add rfl (Nat.le_of_ble_eq_true rfl) dX4_tellFit_152 (G7_add_met C.2.2.2.2.2.2.2.1 (Nat.le_refl _)  h) (fun r0 μ25 hq => ?_)
    obtain ⟨rfl, h⟩ := hq
    refine x_st [] rfl ?_
    refine x_iinc (v := (x.1 + 1)) C [(3, .int (x.1 + 1)), (0, .ref 168), (1, .int p1), (2, .int p2)] 3 rfl (congrArg (fun z => x.1 + z) (by decide : Int32.ofInt (1) = 1)) (Nat.le_of_ble_eq_true rfl) rfl dX4_tellFit_155 ?_
    refine x_goto (tgt := 137) C dX4_tellFit_158 (by decide) ?_
    refine x_sub [(0, .ref 168), (1, .int p1), (2, .int p2), (3, .int (x.1 + 1))] [1, 2, 3, 0] rfl ?_
    exact hK137 _ _ h
theorem G4_tellFit_L137_ok {p : Program} {e : Env} {s : State} {m : MethodId} {args : Array Value} {below : List Frame} {meth : Method} {c : Code} {l : Launch} {φ : Nat → Nat} {tc : Nat → ClassId} {D : va_G} {s0 : State} {dR : Nat} (C : CX p s m args meth c φ tc D (AX φ) s0 cX4_tellFit RX4 4) (hd : G4_tellFit_dep ≤ dR) (hr : meth.sig.returnType = (some .int))  {p1 : Int32} {p2 : Int32} {Q : Int32 → MM → Prop}  {x : Int32 × MM}    (h : Lp (G4_tellFit_L137 p1 p2 Q) x) : WX p l e (rmX dR) s m args below meth c φ tc D (AX φ) 4 0 0 (MQ below (QX φ tc D (QI Q)) args s 0 0 (AX φ)) 137 [(0, .ref 168), (1, .int p1), (2, .int p2), (3, .int x.1)] [] x.2 := by
  obtain ⟨n, h⟩ := h
  induction n generalizing x with
  | zero => exact h.elim
  | succ n ih => exact G4_tellFit_L137_b C hd hr   (fun z3 zμ hz => by have q := ih hz; exact q) h
set_option maxHeartbeats 4000000 in
set_option maxRecDepth 100000 in
theorem G4_tellFit_L74_b {p : Program} {e : Env} {s : State} {m : MethodId} {args : Array Value} {below : List Frame} {meth : Method} {c : Code} {l : Launch} {φ : Nat → Nat} {tc : Nat → ClassId} {D : va_G} {s0 : State} {dR : Nat} (C : CX p s m args meth c φ tc D (AX φ) s0 cX4_tellFit RX4 4) (hd : G4_tellFit_dep ≤ dR) (hr : meth.sig.returnType = (some .int))  {p1 : Int32} {Q : Int32 → MM → Prop} {K74 : Int32 × Int32 × MM → Prop} {x : Int32 × Int32 × MM}   (hK74 : ∀ (z2 : Int32) (z3 : Int32) (zμ : MM), K74 (z2, z3, zμ) → WX p l e (rmX dR) s m args below meth c φ tc D (AX φ) 4 0 0 (MQ below (QX φ tc D (QI Q)) args s 0 0 (AX φ)) 74 [(0, .ref 168), (1, .int p1), (2, .int z2), (3, .int z3)] [] zμ) (h : G4_tellFit_L74 p1 Q K74 x) : WX p l e (rmX dR) s m args below meth c φ tc D (AX φ) 4 0 0 (MQ below (QX φ tc D (QI Q)) args s 0 0 (AX φ)) 74 [(0, .ref 168), (1, .int p1), (2, .int x.1), (3, .int x.2.1)] [] x.2.2 := by
  unfold G4_tellFit_L74 at h
  refine x_iload_n C rfl 3 rfl dX4_tellFit_74 ?_
  refine x_sipush (v := 1331) C (by decide) dX4_tellFit_75 ?_
  refine x_icmp_ge (tgt := 120) C dX4_tellFit_78 (by decide) (fun c19 => ?_) (fun c19 => ?_)
  · have h := h.1 c19
    refine x_iload_n C rfl 2 rfl dX4_tellFit_120 ?_
    refine x_iconst (v := (-1)) C (by decide) dX4_tellFit_121 ?_
    refine x_icmp_ne (tgt := 128) C dX4_tellFit_122 (by decide) (fun c20 => ?_) (fun c20 => ?_)
    · have h := h.1 c20
      refine x_aload_n C rfl 0 rfl dX4_tellFit_128 ?_
      refine x_getR (r := 151) C (j := 1) ob168.1 ob168.2 (Nat.le_of_ble_eq_true rfl) (Nat.le_of_ble_eq_true rfl) (fun _ _ _ => rfl) r_168_1 tw_2_56 dX4_tellFit_129 ?_
      refine x_callVN (dC := G7_clear_dep) (as := []) (st := []) C rX kX (Nat.le_trans (Nat.le_of_ble_eq_true rfl) hd) (Nat.le_of_ble_eq_true rfl) ob151.1 ob151.2 (Nat.le_of_ble_eq_true rfl) rfl ts_3_8 tw_4_48 tw_5_51 tc_4_49 tw_1_5 hyX7 hnX7_clear rfl (Nat.le_of_ble_eq_true rfl) dX4_tellFit_132 (G7_clear_met C.2.2.2.2.2.2.2.1 (Nat.le_refl _)  h) (fun r0 μ21 hq => ?_)
      obtain ⟨rfl, h⟩ := hq
      refine x_st [] rfl ?_
      refine x_iconst (v := 0) C (by decide) dX4_tellFit_135 ?_
      refine x_istore_n C [(3, .int 0), (0, .ref 168), (1, .int p1), (2, .int x.1)] rfl (Nat.le_of_ble_eq_true rfl) rfl dX4_tellFit_136 ?_
      refine x_sub [(0, .ref 168), (1, .int p1), (2, .int x.1), (3, .int 0)] [1, 2, 3, 0] rfl ?_
      exact G4_tellFit_L137_ok C hd hr  h
    · have h := h.2 c20
      refine x_bipush (v := (-2)) C (by decide) dX4_tellFit_125 ?_
      exact x_iret C hr dX4_tellFit_127 ⟨_, rfl, h⟩
  · have h := h.2 c19
    refine x_iload_n C rfl 3 rfl dX4_tellFit_81 ?_
    refine x_bipush (v := 121) C (by decide) dX4_tellFit_82 ?_
    refine x_idiv C (by decide) dX4_tellFit_84 ?_
    refine x_iload_n C rfl 3 rfl dX4_tellFit_85 ?_
    refine x_bipush (v := 11) C (by decide) dX4_tellFit_86 ?_
    refine x_idiv C (by decide) dX4_tellFit_88 ?_
    refine x_bipush (v := 11) C (by decide) dX4_tellFit_89 ?_
    refine x_irem C (by decide) dX4_tellFit_91 ?_
    refine x_iadd C dX4_tellFit_92 ?_
    refine x_iload_n C rfl 3 rfl dX4_tellFit_93 ?_
    refine x_bipush (v := 11) C (by decide) dX4_tellFit_94 ?_
    refine x_irem C (by decide) dX4_tellFit_96 ?_
    refine x_iadd C dX4_tellFit_97 ?_
    refine x_bipush (v := 10) C (by decide) dX4_tellFit_98 ?_
    refine x_icmp_gt (tgt := 114) C dX4_tellFit_100 (by decide) (fun c26 => ?_) (fun c26 => ?_)
    · have h := h.1 c26
      refine x_iinc (v := (x.2.1 + 1)) C [(3, .int (x.2.1 + 1)), (0, .ref 168), (1, .int p1), (2, .int x.1)] 3 rfl (congrArg (fun z => x.2.1 + z) (by decide : Int32.ofInt (1) = 1)) (Nat.le_of_ble_eq_true rfl) rfl dX4_tellFit_114 ?_
      refine x_goto (tgt := 74) C dX4_tellFit_117 (by decide) ?_
      refine x_sub [(0, .ref 168), (1, .int p1), (2, .int x.1), (3, .int (x.2.1 + 1))] [1, 2, 3, 0] rfl ?_
      exact hK74 _ _ _ h
    · have h := h.2 c26
      refine x_aload_n C rfl 0 rfl dX4_tellFit_103 ?_
      refine x_iload_n C rfl 3 rfl dX4_tellFit_104 ?_
      refine x_iload_n C rfl 1 rfl dX4_tellFit_105 ?_
      refine x_callV (dC := G4_isLikelier_dep) (as := [.int x.2.1, .int p1]) (st := []) C rX kX (Nat.le_trans (Nat.le_of_ble_eq_true rfl) hd) (Nat.le_of_ble_eq_true rfl) ob168.1 ob168.2 (Nat.le_of_ble_eq_true rfl) rfl ts_5_13 tw_5_38 tw_5_36 tc_5_39 tw_1_8 hyX4 hnX4_isLikelier rfl (Nat.le_of_ble_eq_true rfl) dX4_tellFit_106 (G4_isLikelier_met C.2.2.2.2.2.2.2.1 (Nat.le_refl _)  h) (fun r0 μ27 hq => ?_)
      obtain ⟨r28, rfl, h⟩ := hq
      refine x_st [.int r28] rfl ?_
      refine x_if_eq (tgt := 114) C dX4_tellFit_109 (by decide) (fun c29 => ?_) (fun c29 => ?_)
      · have h := h.1 c29
        refine x_iinc (v := (x.2.1 + 1)) C [(3, .int (x.2.1 + 1)), (0, .ref 168), (1, .int p1), (2, .int x.1)] 3 rfl (congrArg (fun z => x.2.1 + z) (by decide : Int32.ofInt (1) = 1)) (Nat.le_of_ble_eq_true rfl) rfl dX4_tellFit_114 ?_
        refine x_goto (tgt := 74) C dX4_tellFit_117 (by decide) ?_
        refine x_sub [(0, .ref 168), (1, .int p1), (2, .int x.1), (3, .int (x.2.1 + 1))] [1, 2, 3, 0] rfl ?_
        exact hK74 _ _ _ h
      · have h := h.2 c29
        refine x_iload_n C rfl 3 rfl dX4_tellFit_112 ?_
        refine x_istore_n C [(2, .int x.2.1), (0, .ref 168), (1, .int p1), (3, .int x.2.1)] rfl (Nat.le_of_ble_eq_true rfl) rfl dX4_tellFit_113 ?_
        refine x_iinc (v := (x.2.1 + 1)) C [(3, .int (x.2.1 + 1)), (2, .int x.2.1), (0, .ref 168), (1, .int p1)] 3 rfl (congrArg (fun z => x.2.1 + z) (by decide : Int32.ofInt (1) = 1)) (Nat.le_of_ble_eq_true rfl) rfl dX4_tellFit_114 ?_
        refine x_goto (tgt := 74) C dX4_tellFit_117 (by decide) ?_
        refine x_sub [(0, .ref 168), (1, .int p1), (2, .int x.2.1), (3, .int (x.2.1 + 1))] [2, 3, 1, 0] rfl ?_
        exact hK74 _ _ _ h
theorem G4_tellFit_L74_ok {p : Program} {e : Env} {s : State} {m : MethodId} {args : Array Value} {below : List Frame} {meth : Method} {c : Code} {l : Launch} {φ : Nat → Nat} {tc : Nat → ClassId} {D : va_G} {s0 : State} {dR : Nat} (C : CX p s m args meth c φ tc D (AX φ) s0 cX4_tellFit RX4 4) (hd : G4_tellFit_dep ≤ dR) (hr : meth.sig.returnType = (some .int))  {p1 : Int32} {Q : Int32 → MM → Prop}  {x : Int32 × Int32 × MM}    (h : Lp (G4_tellFit_L74 p1 Q) x) : WX p l e (rmX dR) s m args below meth c φ tc D (AX φ) 4 0 0 (MQ below (QX φ tc D (QI Q)) args s 0 0 (AX φ)) 74 [(0, .ref 168), (1, .int p1), (2, .int x.1), (3, .int x.2.1)] [] x.2.2 := by
  obtain ⟨n, h⟩ := h
  induction n generalizing x with
  | zero => exact h.elim
  | succ n ih => exact G4_tellFit_L74_b C hd hr   (fun z2 z3 zμ hz => by have q := ih hz; exact q) h
set_option maxHeartbeats 4000000 in
set_option maxRecDepth 100000 in
theorem G4_tellFit_L28_b {p : Program} {e : Env} {s : State} {m : MethodId} {args : Array Value} {below : List Frame} {meth : Method} {c : Code} {l : Launch} {φ : Nat → Nat} {tc : Nat → ClassId} {D : va_G} {s0 : State} {dR : Nat} (C : CX p s m args meth c φ tc D (AX φ) s0 cX4_tellFit RX4 4) (hd : G4_tellFit_dep ≤ dR) (hr : meth.sig.returnType = (some .int))  {p1 : Int32} {p2 : Int32} {Q : Int32 → MM → Prop} {K4 : Int32 × Int32 × MM → Prop} {K28 : Int32 × MM → Prop} {x : Int32 × MM}   (hK4 : ∀ (z1 : Int32) (z2 : Int32) (zμ : MM), K4 (z1, z2, zμ) → WX p l e (rmX dR) s m args below meth c φ tc D (AX φ) 4 0 0 (MQ below (QX φ tc D (QI Q)) args s 0 0 (AX φ)) 4 [(0, .ref 168), (1, .int z1), (2, .int z2)] [] zμ) (hK28 : ∀ (z3 : Int32) (zμ : MM), K28 (z3, zμ) → WX p l e (rmX dR) s m args below meth c φ tc D (AX φ) 4 0 0 (MQ below (QX φ tc D (QI Q)) args s 0 0 (AX φ)) 28 [(0, .ref 168), (1, .int p1), (2, .int p2), (3, .int z3)] [] zμ) (h : G4_tellFit_L28 p1 p2 K4 Q K28 x) : WX p l e (rmX dR) s m args below meth c φ tc D (AX φ) 4 0 0 (MQ below (QX φ tc D (QI Q)) args s 0 0 (AX φ)) 28 [(0, .ref 168), (1, .int p1), (2, .int p2), (3, .int x.1)] [] x.2 := by
  unfold G4_tellFit_L28 at h
  refine x_iload_n C rfl 3 rfl dX4_tellFit_28 ?_
  refine x_iconst (v := 4) C (by decide) dX4_tellFit_29 ?_
  refine x_icmp_ge (tgt := 53) C dX4_tellFit_30 (by decide) (fun c33 => ?_) (fun c33 => ?_)
  · have h := h.1 c33
    refine x_iinc (v := (p1 + 1)) C [(1, .int (p1 + 1)), (0, .ref 168), (2, .int p2), (3, .int x.1)] 1 rfl (congrArg (fun z => p1 + z) (by decide : Int32.ofInt (1) = 1)) (Nat.le_of_ble_eq_true rfl) rfl dX4_tellFit_53 ?_
    refine x_iinc (v := (p2 + 1)) C [(2, .int (p2 + 1)), (1, .int (p1 + 1)), (0, .ref 168), (3, .int x.1)] 2 rfl (congrArg (fun z => p2 + z) (by decide : Int32.ofInt (1) = 1)) (Nat.le_of_ble_eq_true rfl) rfl dX4_tellFit_56 ?_
    refine x_goto (tgt := 4) C dX4_tellFit_59 (by decide) ?_
    refine x_sub [(0, .ref 168), (1, .int (p1 + 1)), (2, .int (p2 + 1))] [2, 1, 0] rfl ?_
    exact hK4 _ _ _ h
  · have h := h.2 c33
    refine x_aload_n C rfl 0 rfl dX4_tellFit_33 ?_
    refine x_getR (r := 172) C (j := 5) ob168.1 ob168.2 (Nat.le_of_ble_eq_true rfl) (Nat.le_of_ble_eq_true rfl) (fun _ _ _ => rfl) r_168_5 tw_2_60 dX4_tellFit_34 ?_
    refine x_iload_n C rfl 1 rfl dX4_tellFit_37 ?_
    obtain ⟨c34, h⟩ := h
    refine x_aald (r := (173 + p1.toNatClampNeg)) C ob172.1 (by decide) (by decide) c34 rfl (rA172 c34) dX4_tellFit_38 ?_
    refine x_iload_n C rfl 3 rfl dX4_tellFit_39 ?_
    refine x_aload_n C rfl 0 rfl dX4_tellFit_40 ?_
    refine x_iload_n C rfl 2 rfl dX4_tellFit_41 ?_
    refine x_iload_n C rfl 3 rfl dX4_tellFit_42 ?_
    refine x_callV (dC := G4_likelihood_dep) (as := [.int p2, .int x.1]) (st := [.int x.1, .ref (173 + p1.toNatClampNeg)]) C rX kX (Nat.le_trans (Nat.le_of_ble_eq_true rfl) hd) (Nat.le_of_ble_eq_true rfl) ob168.1 ob168.2 (Nat.le_of_ble_eq_true rfl) rfl ts_5_8 tw_5_12 tw_5_10 tc_5_13 tw_1_8 hyX4 hnX4_likelihood rfl (Nat.le_of_ble_eq_true rfl) dX4_tellFit_43 (G4_likelihood_met C.2.2.2.2.2.2.2.1 (Nat.le_refl _)  h) (fun r0 μ35 hq => ?_)
    obtain ⟨r36, rfl, h⟩ := hq
    refine x_st [.long r36, .int x.1, .ref (173 + p1.toNatClampNeg)] rfl ?_
    obtain ⟨c37, h⟩ := h
    refine x_last C (obA172 c34).1 (obA172 c34).2 (by rw [lnA172 c34]; exact c37) rfl dX4_tellFit_46 ?_
    refine x_mu (fun μ38 e_μ38 => ?_)
    have h := h μ38 e_μ38
    refine x_iinc (v := (x.1 + 1)) C [(3, .int (x.1 + 1)), (0, .ref 168), (1, .int p1), (2, .int p2)] 3 rfl (congrArg (fun z => x.1 + z) (by decide : Int32.ofInt (1) = 1)) (Nat.le_of_ble_eq_true rfl) rfl dX4_tellFit_47 ?_
    refine x_goto (tgt := 28) C dX4_tellFit_50 (by decide) ?_
    refine x_sub [(0, .ref 168), (1, .int p1), (2, .int p2), (3, .int (x.1 + 1))] [1, 2, 3, 0] rfl ?_
    exact hK28 _ _ h
theorem G4_tellFit_L28_ok {p : Program} {e : Env} {s : State} {m : MethodId} {args : Array Value} {below : List Frame} {meth : Method} {c : Code} {l : Launch} {φ : Nat → Nat} {tc : Nat → ClassId} {D : va_G} {s0 : State} {dR : Nat} (C : CX p s m args meth c φ tc D (AX φ) s0 cX4_tellFit RX4 4) (hd : G4_tellFit_dep ≤ dR) (hr : meth.sig.returnType = (some .int))  {p1 : Int32} {p2 : Int32} {Q : Int32 → MM → Prop} {K4 : Int32 × Int32 × MM → Prop} {x : Int32 × MM}   (hK4 : ∀ (z1 : Int32) (z2 : Int32) (zμ : MM), K4 (z1, z2, zμ) → WX p l e (rmX dR) s m args below meth c φ tc D (AX φ) 4 0 0 (MQ below (QX φ tc D (QI Q)) args s 0 0 (AX φ)) 4 [(0, .ref 168), (1, .int z1), (2, .int z2)] [] zμ) (h : Lp (G4_tellFit_L28 p1 p2 K4 Q) x) : WX p l e (rmX dR) s m args below meth c φ tc D (AX φ) 4 0 0 (MQ below (QX φ tc D (QI Q)) args s 0 0 (AX φ)) 28 [(0, .ref 168), (1, .int p1), (2, .int p2), (3, .int x.1)] [] x.2 := by
  obtain ⟨n, h⟩ := h
  induction n generalizing x with
  | zero => exact h.elim
  | succ n ih => exact G4_tellFit_L28_b C hd hr  hK4 (fun z3 zμ hz => by have q := ih hz; exact q) h
set_option maxHeartbeats 4000000 in
set_option maxRecDepth 100000 in
theorem G4_tellFit_L4_b {p : Program} {e : Env} {s : State} {m : MethodId} {args : Array Value} {below : List Frame} {meth : Method} {c : Code} {l : Launch} {φ : Nat → Nat} {tc : Nat → ClassId} {D : va_G} {s0 : State} {dR : Nat} (C : CX p s m args meth c φ tc D (AX φ) s0 cX4_tellFit RX4 4) (hd : G4_tellFit_dep ≤ dR) (hr : meth.sig.returnType = (some .int))   {Q : Int32 → MM → Prop} {K4 : Int32 × Int32 × MM → Prop} {x : Int32 × Int32 × MM}   (hK4 : ∀ (z1 : Int32) (z2 : Int32) (zμ : MM), K4 (z1, z2, zμ) → WX p l e (rmX dR) s m args below meth c φ tc D (AX φ) 4 0 0 (MQ below (QX φ tc D (QI Q)) args s 0 0 (AX φ)) 4 [(0, .ref 168), (1, .int z1), (2, .int z2)] [] zμ) (h : G4_tellFit_L4  Q K4 x) : WX p l e (rmX dR) s m args below meth c φ tc D (AX φ) 4 0 0 (MQ below (QX φ tc D (QI Q)) args s 0 0 (AX φ)) 4 [(0, .ref 168), (1, .int x.1), (2, .int x.2.1)] [] x.2.2 := by
  unfold G4_tellFit_L4 at h
  refine x_iload_n C rfl 2 rfl dX4_tellFit_4 ?_
  refine x_aload_n C rfl 0 rfl dX4_tellFit_5 ?_
  refine x_getR (r := 1) C (j := 0) ob168.1 ob168.2 (Nat.le_of_ble_eq_true rfl) (Nat.le_of_ble_eq_true rfl) (fun _ _ _ => rfl) r_168_0 tw_2_55 dX4_tellFit_6 ?_
  refine x_getIN C (j := 8) ob1.1 ob1.2 (Nat.le_of_ble_eq_true rfl) (Nat.le_of_ble_eq_true rfl) (Or.inl rfl) tw_1_139 dX4_tellFit_9 ?_
  refine x_icmp_ge (tgt := 62) C dX4_tellFit_12 (by decide) (fun c16 => ?_) (fun c16 => ?_)
  · have h := h.1 c16
    refine x_aload_n C rfl 0 rfl dX4_tellFit_62 ?_
    obtain ⟨r17, e_r17, o_r17, h⟩ := h
    refine x_getR (r := r17) C (j := 7) ob168.1 ob168.2 (Nat.le_of_ble_eq_true rfl) (Nat.le_of_ble_eq_true rfl) (fun _ _ _ => rfl) (fun _ => e_r17) tw_2_62 dX4_tellFit_63 ?_
    refine x_iconst (v := 0) C (by decide) dX4_tellFit_66 ?_
    refine x_callVN (dC := G0_become_dep) (as := [.int 0]) (st := []) C rX kX (Nat.le_trans (Nat.le_of_ble_eq_true rfl) hd) (Nat.le_of_ble_eq_true rfl) o_r17.1 o_r17.2 (Nat.le_of_ble_eq_true rfl) rfl ts_5_10 tw_5_25 tw_5_23 tc_5_26 tw_1_9 hyX0 hnX0_become rfl (Nat.le_of_ble_eq_true rfl) dX4_tellFit_67 (G0_become_met C.2.2.2.2.2.2.2.1 (Nat.le_refl _) o_r17 h) (fun r0 μ18 hq => ?_)
    obtain ⟨rfl, h⟩ := hq
    refine x_st [] rfl ?_
    refine x_iconst (v := (-1)) C (by decide) dX4_tellFit_70 ?_
    refine x_istore_n C [(2, .int (-1)), (0, .ref 168), (1, .int x.1)] rfl (Nat.le_of_ble_eq_true rfl) rfl dX4_tellFit_71 ?_
    refine x_iconst (v := 0) C (by decide) dX4_tellFit_72 ?_
    refine x_istore_n C [(3, .int 0), (2, .int (-1)), (0, .ref 168), (1, .int x.1)] rfl (Nat.le_of_ble_eq_true rfl) rfl dX4_tellFit_73 ?_
    refine x_sub [(0, .ref 168), (1, .int x.1), (2, .int (-1)), (3, .int 0)] [2, 3, 1, 0] rfl ?_
    exact G4_tellFit_L74_ok C hd hr  h
  · have h := h.2 c16
    refine x_aload_n C rfl 0 rfl dX4_tellFit_15 ?_
    refine x_getR (r := 1) C (j := 0) ob168.1 ob168.2 (Nat.le_of_ble_eq_true rfl) (Nat.le_of_ble_eq_true rfl) (fun _ _ _ => rfl) r_168_0 tw_2_55 dX4_tellFit_16 ?_
    refine x_iload_n C rfl 2 rfl dX4_tellFit_19 ?_
    refine x_callVN (dC := G10_hasRead_dep) (as := [.int x.2.1]) (st := []) C rX kX (Nat.le_trans (Nat.le_of_ble_eq_true rfl) hd) (Nat.le_of_ble_eq_true rfl) ob1.1 ob1.2 (Nat.le_of_ble_eq_true rfl) rfl ts_5_2 tw_4_214 tw_4_212 tc_4_215 tw_1_2 hyX10 hnX10_hasRead rfl (Nat.le_of_ble_eq_true rfl) dX4_tellFit_20 (G10_hasRead_met C.2.2.2.2.2.2.2.1 (Nat.le_refl _)  h) (fun r0 μ30 hq => ?_)
    obtain ⟨r31, rfl, h⟩ := hq
    refine x_st [.int r31] rfl ?_
    refine x_if_eq (tgt := 56) C dX4_tellFit_23 (by decide) (fun c32 => ?_) (fun c32 => ?_)
    · have h := h.1 c32
      refine x_iinc (v := (x.2.1 + 1)) C [(2, .int (x.2.1 + 1)), (0, .ref 168), (1, .int x.1)] 2 rfl (congrArg (fun z => x.2.1 + z) (by decide : Int32.ofInt (1) = 1)) (Nat.le_of_ble_eq_true rfl) rfl dX4_tellFit_56 ?_
      refine x_goto (tgt := 4) C dX4_tellFit_59 (by decide) ?_
      refine x_sub [(0, .ref 168), (1, .int x.1), (2, .int (x.2.1 + 1))] [1, 2, 0] rfl ?_
      exact hK4 _ _ _ h
    · have h := h.2 c32
      refine x_iconst (v := 0) C (by decide) dX4_tellFit_26 ?_
      refine x_istore_n C [(3, .int 0), (0, .ref 168), (1, .int x.1), (2, .int x.2.1)] rfl (Nat.le_of_ble_eq_true rfl) rfl dX4_tellFit_27 ?_
      refine x_sub [(0, .ref 168), (1, .int x.1), (2, .int x.2.1), (3, .int 0)] [1, 2, 3, 0] rfl ?_
      exact G4_tellFit_L28_ok C hd hr hK4 h
theorem G4_tellFit_L4_ok {p : Program} {e : Env} {s : State} {m : MethodId} {args : Array Value} {below : List Frame} {meth : Method} {c : Code} {l : Launch} {φ : Nat → Nat} {tc : Nat → ClassId} {D : va_G} {s0 : State} {dR : Nat} (C : CX p s m args meth c φ tc D (AX φ) s0 cX4_tellFit RX4 4) (hd : G4_tellFit_dep ≤ dR) (hr : meth.sig.returnType = (some .int))   {Q : Int32 → MM → Prop}  {x : Int32 × Int32 × MM}    (h : Lp (G4_tellFit_L4  Q) x) : WX p l e (rmX dR) s m args below meth c φ tc D (AX φ) 4 0 0 (MQ below (QX φ tc D (QI Q)) args s 0 0 (AX φ)) 4 [(0, .ref 168), (1, .int x.1), (2, .int x.2.1)] [] x.2.2 := by
  obtain ⟨n, h⟩ := h
  induction n generalizing x with
  | zero => exact h.elim
  | succ n ih => exact G4_tellFit_L4_b C hd hr   (fun z1 z2 zμ hz => by have q := ih hz; exact q) h
set_option maxHeartbeats 4000000 in
set_option maxRecDepth 100000 in
theorem G4_tellFit_met {l : Launch} {φ : Nat → Nat} {tc : Nat → ClassId} {D : va_G} {s0 : State} (hG : GX φ tc D s0) {dR : Nat} (hd : G4_tellFit_dep ≤ dR)  {μ : MM} {Q : Int32 → MM → Prop}  (h : G4_tellFit  μ Q) : MX l φ tc D s0 dR yX4_tellFit cX4_tellFit 4 (some .int) [.ref 168] μ (QI Q) := by
  refine MX.of (own := RX4) hG plX4 rfl (Nat.le_of_ble_eq_true rfl) (fun p e s m args below meth c C hr => ?_)
  refine x_sub [(0, .ref 168)] [0] rfl ?_
  unfold G4_tellFit at h
  refine x_iconst (v := 0) C (by decide) dX4_tellFit_0 ?_
  refine x_istore_n C [(1, .int 0), (0, .ref 168)] rfl (Nat.le_of_ble_eq_true rfl) rfl dX4_tellFit_1 ?_
  refine x_iconst (v := 0) C (by decide) dX4_tellFit_2 ?_
  refine x_istore_n C [(2, .int 0), (1, .int 0), (0, .ref 168)] rfl (Nat.le_of_ble_eq_true rfl) rfl dX4_tellFit_3 ?_
  refine x_sub [(0, .ref 168), (1, .int 0), (2, .int 0)] [2, 1, 0] rfl ?_
  exact G4_tellFit_L4_ok C hd hr  h
set_option maxHeartbeats 4000000 in
set_option maxRecDepth 100000 in
theorem G11_fit_met {l : Launch} {φ : Nat → Nat} {tc : Nat → ClassId} {D : va_G} {s0 : State} (hG : GX φ tc D s0) {dR : Nat} (hd : G11_fit_dep ≤ dR)  {μ : MM} {Q : Int32 → MM → Prop}  (h : G11_fit  μ Q) : MX l φ tc D s0 dR yX11_fit cX11_fit 1 (some .int) [.ref 0] μ (QI Q) := by
  refine MX.of (own := RX11) hG plX11 rfl (Nat.le_of_ble_eq_true rfl) (fun p e s m args below meth c C hr => ?_)
  refine x_sub [(0, .ref 0)] [0] rfl ?_
  unfold G11_fit at h
  refine x_aload_n C rfl 0 rfl dX11_fit_0 ?_
  refine x_getR (r := 168) C (j := 3) ob0.1 ob0.2 (Nat.le_of_ble_eq_true rfl) (Nat.le_of_ble_eq_true rfl) (fun _ _ _ => rfl) r_0_3 tw_2_166 dX11_fit_1 ?_
  refine x_callVN (dC := G4_tellFit_dep) (as := []) (st := []) C rX kX (Nat.le_trans (Nat.le_of_ble_eq_true rfl) hd) (Nat.le_of_ble_eq_true rfl) ob168.1 ob168.2 (Nat.le_of_ble_eq_true rfl) rfl ts_5_9 tw_5_21 tw_5_19 tc_5_22 tw_1_8 hyX4 hnX4_tellFit rfl (Nat.le_of_ble_eq_true rfl) dX11_fit_4 (G4_tellFit_met C.2.2.2.2.2.2.2.1 (Nat.le_refl _)  h) (fun r0 μ3 hq => ?_)
  obtain ⟨r4, rfl, h⟩ := hq
  refine x_st [.int r4] rfl ?_
  exact x_iret C hr dX11_fit_7 ⟨_, rfl, h⟩
set_option maxHeartbeats 4000000 in
set_option maxRecDepth 100000 in
theorem G4_fillSums_L2_b {p : Program} {e : Env} {s : State} {m : MethodId} {args : Array Value} {below : List Frame} {meth : Method} {c : Code} {l : Launch} {φ : Nat → Nat} {tc : Nat → ClassId} {D : va_G} {s0 : State} {dR : Nat} (C : CX p s m args meth c φ tc D (AX φ) s0 cX4_fillSums RX4 3) (hd : G4_fillSums_dep ≤ dR) (hr : meth.sig.returnType = none)  {p1 : Int32} {Q : MM → Prop} {K2 : Int32 × MM → Prop} {x : Int32 × MM}   (hK2 : ∀ (z2 : Int32) (zμ : MM), K2 (z2, zμ) → WX p l e (rmX dR) s m args below meth c φ tc D (AX φ) 3 0 0 (MQ below (QX φ tc D (QV Q)) args s 0 0 (AX φ)) 2 [(0, .ref 168), (1, .int p1), (2, .int z2)] [] zμ) (h : G4_fillSums_L2 p1 Q K2 x) : WX p l e (rmX dR) s m args below meth c φ tc D (AX φ) 3 0 0 (MQ below (QX φ tc D (QV Q)) args s 0 0 (AX φ)) 2 [(0, .ref 168), (1, .int p1), (2, .int x.1)] [] x.2 := by
  unfold G4_fillSums_L2 at h
  refine x_iload_n C rfl 2 rfl dX4_fillSums_2 ?_
  refine x_aload_n C rfl 0 rfl dX4_fillSums_3 ?_
  refine x_getR (r := 1) C (j := 0) ob168.1 ob168.2 (Nat.le_of_ble_eq_true rfl) (Nat.le_of_ble_eq_true rfl) (fun _ _ _ => rfl) r_168_0 tw_2_55 dX4_fillSums_4 ?_
  refine x_getIN C (j := 8) ob1.1 ob1.2 (Nat.le_of_ble_eq_true rfl) (Nat.le_of_ble_eq_true rfl) (Or.inl rfl) tw_1_139 dX4_fillSums_7 ?_
  refine x_icmp_ge (tgt := 46) C dX4_fillSums_10 (by decide) (fun c9 => ?_) (fun c9 => ?_)
  · have h := h.1 c9
    exact x_vret C hr dX4_fillSums_46 ⟨rfl, h⟩
  · have h := h.2 c9
    refine x_aload_n C rfl 0 rfl dX4_fillSums_13 ?_
    refine x_getR (r := 197) C (j := 6) ob168.1 ob168.2 (Nat.le_of_ble_eq_true rfl) (Nat.le_of_ble_eq_true rfl) (fun _ _ _ => rfl) r_168_6 tw_2_61 dX4_fillSums_14 ?_
    refine x_iload_n C rfl 2 rfl dX4_fillSums_17 ?_
    refine x_aload_n C rfl 0 rfl dX4_fillSums_18 ?_
    refine x_getR (r := 1) C (j := 0) ob168.1 ob168.2 (Nat.le_of_ble_eq_true rfl) (Nat.le_of_ble_eq_true rfl) (fun _ _ _ => rfl) r_168_0 tw_2_55 dX4_fillSums_19 ?_
    refine x_iload_n C rfl 2 rfl dX4_fillSums_22 ?_
    refine x_callVN (dC := G10_hasRead_dep) (as := [.int x.1]) (st := [.int x.1, .ref 197]) C rX kX (Nat.le_trans (Nat.le_of_ble_eq_true rfl) hd) (Nat.le_of_ble_eq_true rfl) ob1.1 ob1.2 (Nat.le_of_ble_eq_true rfl) rfl ts_5_2 tw_4_214 tw_4_212 tc_4_215 tw_1_2 hyX10 hnX10_hasRead rfl (Nat.le_of_ble_eq_true rfl) dX4_fillSums_23 (G10_hasRead_met C.2.2.2.2.2.2.2.1 (Nat.le_refl _)  h) (fun r0 μ10 hq => ?_)
    obtain ⟨r11, rfl, h⟩ := hq
    refine x_st [.int r11, .int x.1, .ref 197] rfl ?_
    refine x_if_eq (tgt := 38) C dX4_fillSums_26 (by decide) (fun c12 => ?_) (fun c12 => ?_)
    · have h := h.1 c12
      refine x_iconst (v := (-1)) C (by decide) dX4_fillSums_38 ?_
      obtain ⟨c13, h⟩ := h
      refine x_iast C ob197.1 ob197.2 c13 rfl dX4_fillSums_39 ?_
      refine x_mu (fun μ14 e_μ14 => ?_)
      have h := h μ14 e_μ14
      refine x_iinc (v := (x.1 + 1)) C [(2, .int (x.1 + 1)), (0, .ref 168), (1, .int p1)] 2 rfl (congrArg (fun z => x.1 + z) (by decide : Int32.ofInt (1) = 1)) (Nat.le_of_ble_eq_true rfl) rfl dX4_fillSums_40 ?_
      refine x_goto (tgt := 2) C dX4_fillSums_43 (by decide) ?_
      refine x_sub [(0, .ref 168), (1, .int p1), (2, .int (x.1 + 1))] [1, 2, 0] rfl ?_
      exact hK2 _ _ h
    · have h := h.2 c12
      refine x_aload_n C rfl 0 rfl dX4_fillSums_29 ?_
      refine x_iload_n C rfl 2 rfl dX4_fillSums_30 ?_
      refine x_iload_n C rfl 1 rfl dX4_fillSums_31 ?_
      refine x_callV (dC := G4_sumOfLikely_dep) (as := [.int x.1, .int p1]) (st := [.int x.1, .ref 197]) C rX kX (Nat.le_trans (Nat.le_of_ble_eq_true rfl) hd) (Nat.le_of_ble_eq_true rfl) ob168.1 ob168.2 (Nat.le_of_ble_eq_true rfl) rfl ts_5_7 tw_5_8 tw_5_6 tc_5_9 tw_1_8 hyX4 hnX4_sumOfLikely rfl (Nat.le_of_ble_eq_true rfl) dX4_fillSums_32 (G4_sumOfLikely_met C.2.2.2.2.2.2.2.1 (Nat.le_refl _)  h) (fun r0 μ15 hq => ?_)
      obtain ⟨r16, rfl, h⟩ := hq
      refine x_st [.int r16, .int x.1, .ref 197] rfl ?_
      refine x_goto (tgt := 39) C dX4_fillSums_35 (by decide) ?_
      obtain ⟨c17, h⟩ := h
      refine x_iast C ob197.1 ob197.2 c17 rfl dX4_fillSums_39 ?_
      refine x_mu (fun μ18 e_μ18 => ?_)
      have h := h μ18 e_μ18
      refine x_iinc (v := (x.1 + 1)) C [(2, .int (x.1 + 1)), (0, .ref 168), (1, .int p1)] 2 rfl (congrArg (fun z => x.1 + z) (by decide : Int32.ofInt (1) = 1)) (Nat.le_of_ble_eq_true rfl) rfl dX4_fillSums_40 ?_
      refine x_goto (tgt := 2) C dX4_fillSums_43 (by decide) ?_
      refine x_sub [(0, .ref 168), (1, .int p1), (2, .int (x.1 + 1))] [1, 2, 0] rfl ?_
      exact hK2 _ _ h
theorem G4_fillSums_L2_ok {p : Program} {e : Env} {s : State} {m : MethodId} {args : Array Value} {below : List Frame} {meth : Method} {c : Code} {l : Launch} {φ : Nat → Nat} {tc : Nat → ClassId} {D : va_G} {s0 : State} {dR : Nat} (C : CX p s m args meth c φ tc D (AX φ) s0 cX4_fillSums RX4 3) (hd : G4_fillSums_dep ≤ dR) (hr : meth.sig.returnType = none)  {p1 : Int32} {Q : MM → Prop}  {x : Int32 × MM}    (h : Lp (G4_fillSums_L2 p1 Q) x) : WX p l e (rmX dR) s m args below meth c φ tc D (AX φ) 3 0 0 (MQ below (QX φ tc D (QV Q)) args s 0 0 (AX φ)) 2 [(0, .ref 168), (1, .int p1), (2, .int x.1)] [] x.2 := by
  obtain ⟨n, h⟩ := h
  induction n generalizing x with
  | zero => exact h.elim
  | succ n ih => exact G4_fillSums_L2_b C hd hr   (fun z2 zμ hz => by have q := ih hz; exact q) h
set_option maxHeartbeats 4000000 in
set_option maxRecDepth 100000 in
theorem G4_fillSums_met {l : Launch} {φ : Nat → Nat} {tc : Nat → ClassId} {D : va_G} {s0 : State} (hG : GX φ tc D s0) {dR : Nat} (hd : G4_fillSums_dep ≤ dR) {v1 : Int32} {μ : MM} {Q : MM → Prop}  (h : G4_fillSums v1 μ Q) : MX l φ tc D s0 dR yX4_fillSums cX4_fillSums 3 none [.ref 168, .int v1] μ (QV Q) := by
  refine MX.of (own := RX4) hG plX4 rfl (Nat.le_of_ble_eq_true rfl) (fun p e s m args below meth c C hr => ?_)
  refine x_sub [(0, .ref 168), (1, .int v1)] [0, 1] rfl ?_
  unfold G4_fillSums at h
  refine x_iconst (v := 0) C (by decide) dX4_fillSums_0 ?_
  refine x_istore_n C [(2, .int 0), (0, .ref 168), (1, .int v1)] rfl (Nat.le_of_ble_eq_true rfl) rfl dX4_fillSums_1 ?_
  refine x_sub [(0, .ref 168), (1, .int v1), (2, .int 0)] [1, 2, 0] rfl ?_
  exact G4_fillSums_L2_ok C hd hr  h
set_option maxHeartbeats 4000000 in
set_option maxRecDepth 100000 in
theorem G4_isNamed_J23_ok {p : Program} {e : Env} {s : State} {m : MethodId} {args : Array Value} {below : List Frame} {meth : Method} {c : Code} {l : Launch} {φ : Nat → Nat} {tc : Nat → ClassId} {D : va_G} {s0 : State} {dR : Nat} (C : CX p s m args meth c φ tc D (AX φ) s0 cX4_isNamed RX4 3) (hd : G4_isNamed_dep ≤ dR) (hr : meth.sig.returnType = (some .boolean))    {Q : Int32 → MM → Prop}  {μ : MM}    (h : G4_isNamed_J23 μ Q) : WX p l e (rmX dR) s m args below meth c φ tc D (AX φ) 3 0 0 (MQ below (QX φ tc D (QI Q)) args s 0 0 (AX φ)) 23 [] [] μ := by
  unfold G4_isNamed_J23 at h
  refine x_iconst (v := 0) C (by decide) dX4_isNamed_23 ?_
  exact x_zret C hr bo_0 dX4_isNamed_24 ⟨_, rfl, h⟩
set_option maxHeartbeats 4000000 in
set_option maxRecDepth 100000 in
theorem G4_isNamed_met {l : Launch} {φ : Nat → Nat} {tc : Nat → ClassId} {D : va_G} {s0 : State} (hG : GX φ tc D s0) {dR : Nat} (hd : G4_isNamed_dep ≤ dR) {v1 : Int32} {v2 : Int32} {μ : MM} {Q : Int32 → MM → Prop}  (h : G4_isNamed v1 v2 μ Q) : MX l φ tc D s0 dR yX4_isNamed cX4_isNamed 3 (some .boolean) [.ref 168, .int v1, .int v2] μ (QI Q) := by
  refine MX.of (own := RX4) hG plX4 rfl (Nat.le_of_ble_eq_true rfl) (fun p e s m args below meth c C hr => ?_)
  refine x_sub [(0, .ref 168), (1, .int v1), (2, .int v2)] [0, 1, 2] rfl ?_
  unfold G4_isNamed at h
  refine x_aload_n C rfl 0 rfl dX4_isNamed_0 ?_
  refine x_getR (r := 197) C (j := 6) ob168.1 ob168.2 (Nat.le_of_ble_eq_true rfl) (Nat.le_of_ble_eq_true rfl) (fun _ _ _ => rfl) r_168_6 tw_2_61 dX4_isNamed_1 ?_
  refine x_iload_n C rfl 1 rfl dX4_isNamed_4 ?_
  obtain ⟨c3, h⟩ := h
  refine x_iald C ob197.1 ob197.2 c3 rfl dX4_isNamed_5 ?_
  refine x_if_lt (tgt := 23) C dX4_isNamed_6 (by decide) (fun c4 => ?_) (fun c4 => ?_)
  · have h := h.1 c4
    refine x_sub [] [] rfl ?_
    exact G4_isNamed_J23_ok C hd hr  h
  · have h := h.2 c4
    refine x_aload_n C rfl 0 rfl dX4_isNamed_9 ?_
    refine x_getR (r := 197) C (j := 6) ob168.1 ob168.2 (Nat.le_of_ble_eq_true rfl) (Nat.le_of_ble_eq_true rfl) (fun _ _ _ => rfl) r_168_6 tw_2_61 dX4_isNamed_10 ?_
    refine x_iload_n C rfl 1 rfl dX4_isNamed_13 ?_
    obtain ⟨c5, h⟩ := h
    refine x_iald C ob197.1 ob197.2 c5 rfl dX4_isNamed_14 ?_
    refine x_iload_n C rfl 2 rfl dX4_isNamed_15 ?_
    refine x_icmp_lt (tgt := 23) C dX4_isNamed_16 (by decide) (fun c6 => ?_) (fun c6 => ?_)
    · have h := h.1 c6
      refine x_sub [] [] rfl ?_
      exact G4_isNamed_J23_ok C hd hr  h
    · have h := h.2 c6
      refine x_iconst (v := 1) C (by decide) dX4_isNamed_19 ?_
      refine x_goto (tgt := 24) C dX4_isNamed_20 (by decide) ?_
      exact x_zret C hr bo_1 dX4_isNamed_24 ⟨_, rfl, h⟩
set_option maxHeartbeats 4000000 in
set_option maxRecDepth 100000 in
theorem G4_wronglyNamed_L5_b {p : Program} {e : Env} {s : State} {m : MethodId} {args : Array Value} {below : List Frame} {meth : Method} {c : Code} {l : Launch} {φ : Nat → Nat} {tc : Nat → ClassId} {D : va_G} {s0 : State} {dR : Nat} (C : CX p s m args meth c φ tc D (AX φ) s0 cX4_wronglyNamed RX4 5) (hd : G4_wronglyNamed_dep ≤ dR) (hr : meth.sig.returnType = (some .long))  {p1 : Int32} {Q : Int64 → MM → Prop} {K5 : Int64 × Int32 × MM → Prop} {x : Int64 × Int32 × MM}   (hK5 : ∀ (z2 : Int64) (z4 : Int32) (zμ : MM), K5 (z2, z4, zμ) → WX p l e (rmX dR) s m args below meth c φ tc D (AX φ) 5 0 0 (MQ below (QX φ tc D (QJ Q)) args s 0 0 (AX φ)) 5 [(0, .ref 168), (1, .int p1), (2, .long z2), (4, .int z4)] [] zμ) (h : G4_wronglyNamed_L5 p1 Q K5 x) : WX p l e (rmX dR) s m args below meth c φ tc D (AX φ) 5 0 0 (MQ below (QX φ tc D (QJ Q)) args s 0 0 (AX φ)) 5 [(0, .ref 168), (1, .int p1), (2, .long x.1), (4, .int x.2.1)] [] x.2.2 := by
  unfold G4_wronglyNamed_L5 at h
  refine x_iload C 3 rfl dX4_wronglyNamed_5 ?_
  refine x_aload_n C rfl 0 rfl dX4_wronglyNamed_7 ?_
  refine x_getR (r := 1) C (j := 0) ob168.1 ob168.2 (Nat.le_of_ble_eq_true rfl) (Nat.le_of_ble_eq_true rfl) (fun _ _ _ => rfl) r_168_0 tw_2_55 dX4_wronglyNamed_8 ?_
  refine x_getIN C (j := 8) ob1.1 ob1.2 (Nat.le_of_ble_eq_true rfl) (Nat.le_of_ble_eq_true rfl) (Or.inl rfl) tw_1_139 dX4_wronglyNamed_11 ?_
  refine x_icmp_ge (tgt := 51) C dX4_wronglyNamed_14 (by decide) (fun c6 => ?_) (fun c6 => ?_)
  · have h := h.1 c6
    refine x_lload_n C rfl 2 rfl dX4_wronglyNamed_51 ?_
    exact x_lret C hr dX4_wronglyNamed_52 ⟨_, rfl, h⟩
  · have h := h.2 c6
    refine x_lload_n C rfl 2 rfl dX4_wronglyNamed_17 ?_
    refine x_aload_n C rfl 0 rfl dX4_wronglyNamed_18 ?_
    refine x_iload C 3 rfl dX4_wronglyNamed_19 ?_
    refine x_iload_n C rfl 1 rfl dX4_wronglyNamed_21 ?_
    refine x_callV (dC := G4_isNamed_dep) (as := [.int x.2.1, .int p1]) (st := [.long x.1]) C rX kX (Nat.le_trans (Nat.le_of_ble_eq_true rfl) hd) (Nat.le_of_ble_eq_true rfl) ob168.1 ob168.2 (Nat.le_of_ble_eq_true rfl) rfl ts_6_2 tw_5_68 tw_5_66 tc_5_69 tw_1_8 hyX4 hnX4_isNamed rfl (Nat.le_of_ble_eq_true rfl) dX4_wronglyNamed_22 (G4_isNamed_met C.2.2.2.2.2.2.2.1 (Nat.le_refl _)  h) (fun r0 μ7 hq => ?_)
    obtain ⟨r8, rfl, h⟩ := hq
    refine x_st [.int r8, .long x.1] rfl ?_
    refine x_if_eq (tgt := 42) C dX4_wronglyNamed_25 (by decide) (fun c9 => ?_) (fun c9 => ?_)
    · have h := h.1 c9
      refine x_lconst (v := 0) C (by decide) dX4_wronglyNamed_42 ?_
      refine x_ladd C dX4_wronglyNamed_43 ?_
      refine x_topl (fun y10 e_y10 => ?_)
      have h := h y10 e_y10
      refine x_lstore_n C [(2, .long y10), (0, .ref 168), (1, .int p1), (4, .int x.2.1)] rfl (Nat.le_of_ble_eq_true rfl) rfl dX4_wronglyNamed_44 ?_
      refine x_iinc (v := (x.2.1 + 1)) C [(4, .int (x.2.1 + 1)), (2, .long y10), (0, .ref 168), (1, .int p1)] 3 rfl (congrArg (fun z => x.2.1 + z) (by decide : Int32.ofInt (1) = 1)) (Nat.le_of_ble_eq_true rfl) rfl dX4_wronglyNamed_45 ?_
      refine x_goto (tgt := 5) C dX4_wronglyNamed_48 (by decide) ?_
      refine x_sub [(0, .ref 168), (1, .int p1), (2, .long y10), (4, .int (x.2.1 + 1))] [2, 3, 1, 0] rfl ?_
      exact hK5 _ _ _ h
    · have h := h.2 c9
      refine x_ldc (v := 1000000) C tw_5_61 dX4_wronglyNamed_28 ?_
      refine x_aload_n C rfl 0 rfl dX4_wronglyNamed_30 ?_
      refine x_getR (r := 197) C (j := 6) ob168.1 ob168.2 (Nat.le_of_ble_eq_true rfl) (Nat.le_of_ble_eq_true rfl) (fun _ _ _ => rfl) r_168_6 tw_2_61 dX4_wronglyNamed_31 ?_
      refine x_iload C 3 rfl dX4_wronglyNamed_34 ?_
      obtain ⟨c11, h⟩ := h
      refine x_iald C ob197.1 ob197.2 c11 rfl dX4_wronglyNamed_36 ?_
      refine x_isub C dX4_wronglyNamed_37 ?_
      refine x_i2l C dX4_wronglyNamed_38 ?_
      refine x_goto (tgt := 43) C dX4_wronglyNamed_39 (by decide) ?_
      refine x_ladd C dX4_wronglyNamed_43 ?_
      refine x_topl (fun y12 e_y12 => ?_)
      have h := h y12 e_y12
      refine x_lstore_n C [(2, .long y12), (0, .ref 168), (1, .int p1), (4, .int x.2.1)] rfl (Nat.le_of_ble_eq_true rfl) rfl dX4_wronglyNamed_44 ?_
      refine x_iinc (v := (x.2.1 + 1)) C [(4, .int (x.2.1 + 1)), (2, .long y12), (0, .ref 168), (1, .int p1)] 3 rfl (congrArg (fun z => x.2.1 + z) (by decide : Int32.ofInt (1) = 1)) (Nat.le_of_ble_eq_true rfl) rfl dX4_wronglyNamed_45 ?_
      refine x_goto (tgt := 5) C dX4_wronglyNamed_48 (by decide) ?_
      refine x_sub [(0, .ref 168), (1, .int p1), (2, .long y12), (4, .int (x.2.1 + 1))] [2, 3, 1, 0] rfl ?_
      exact hK5 _ _ _ h
theorem G4_wronglyNamed_L5_ok {p : Program} {e : Env} {s : State} {m : MethodId} {args : Array Value} {below : List Frame} {meth : Method} {c : Code} {l : Launch} {φ : Nat → Nat} {tc : Nat → ClassId} {D : va_G} {s0 : State} {dR : Nat} (C : CX p s m args meth c φ tc D (AX φ) s0 cX4_wronglyNamed RX4 5) (hd : G4_wronglyNamed_dep ≤ dR) (hr : meth.sig.returnType = (some .long))  {p1 : Int32} {Q : Int64 → MM → Prop}  {x : Int64 × Int32 × MM}    (h : Lp (G4_wronglyNamed_L5 p1 Q) x) : WX p l e (rmX dR) s m args below meth c φ tc D (AX φ) 5 0 0 (MQ below (QX φ tc D (QJ Q)) args s 0 0 (AX φ)) 5 [(0, .ref 168), (1, .int p1), (2, .long x.1), (4, .int x.2.1)] [] x.2.2 := by
  obtain ⟨n, h⟩ := h
  induction n generalizing x with
  | zero => exact h.elim
  | succ n ih => exact G4_wronglyNamed_L5_b C hd hr   (fun z2 z4 zμ hz => by have q := ih hz; exact q) h
set_option maxHeartbeats 4000000 in
set_option maxRecDepth 100000 in
theorem G4_wronglyNamed_met {l : Launch} {φ : Nat → Nat} {tc : Nat → ClassId} {D : va_G} {s0 : State} (hG : GX φ tc D s0) {dR : Nat} (hd : G4_wronglyNamed_dep ≤ dR) {v1 : Int32} {μ : MM} {Q : Int64 → MM → Prop}  (h : G4_wronglyNamed v1 μ Q) : MX l φ tc D s0 dR yX4_wronglyNamed cX4_wronglyNamed 5 (some .long) [.ref 168, .int v1] μ (QJ Q) := by
  refine MX.of (own := RX4) hG plX4 rfl (Nat.le_of_ble_eq_true rfl) (fun p e s m args below meth c C hr => ?_)
  refine x_sub [(0, .ref 168), (1, .int v1)] [0, 1] rfl ?_
  unfold G4_wronglyNamed at h
  refine x_lconst (v := 0) C (by decide) dX4_wronglyNamed_0 ?_
  refine x_lstore_n C [(2, .long 0), (0, .ref 168), (1, .int v1)] rfl (Nat.le_of_ble_eq_true rfl) rfl dX4_wronglyNamed_1 ?_
  refine x_iconst (v := 0) C (by decide) dX4_wronglyNamed_2 ?_
  refine x_istore C [(4, .int 0), (2, .long 0), (0, .ref 168), (1, .int v1)] (Nat.le_of_ble_eq_true rfl) rfl dX4_wronglyNamed_3 ?_
  refine x_sub [(0, .ref 168), (1, .int v1), (2, .long 0), (4, .int 0)] [2, 3, 1, 0] rfl ?_
  exact G4_wronglyNamed_L5_ok C hd hr  h
set_option maxHeartbeats 4000000 in
set_option maxRecDepth 100000 in
theorem G4_tellNamed_L38_b {p : Program} {e : Env} {s : State} {m : MethodId} {args : Array Value} {below : List Frame} {meth : Method} {c : Code} {l : Launch} {φ : Nat → Nat} {tc : Nat → ClassId} {D : va_G} {s0 : State} {dR : Nat} (C : CX p s m args meth c φ tc D (AX φ) s0 cX4_tellNamed RX4 8) (hd : G4_tellNamed_dep ≤ dR) (hr : meth.sig.returnType = (some .int))  {p2 : Int32} {Q : Int32 → MM → Prop} {K38 : Int32 × Int32 × Int64 × Int32 × MM → Prop} {x : Int32 × Int32 × Int64 × Int32 × MM}   (hK38 : ∀ (z3 : Int32) (z4 : Int32) (z5 : Int64) (z7 : Int32) (zμ : MM), K38 (z3, z4, z5, z7, zμ) → WX p l e (rmX dR) s m args below meth c φ tc D (AX φ) 8 0 0 (MQ below (QX φ tc D (QI Q)) args s 0 0 (AX φ)) 38 [(0, .ref 168), (2, .int p2), (3, .int z3), (4, .int z4), (5, .long z5), (7, .int z7)] [] zμ) (h : G4_tellNamed_L38 p2 Q K38 x) : WX p l e (rmX dR) s m args below meth c φ tc D (AX φ) 8 0 0 (MQ below (QX φ tc D (QI Q)) args s 0 0 (AX φ)) 38 [(0, .ref 168), (2, .int p2), (3, .int x.1), (4, .int x.2.1), (5, .long x.2.2.1), (7, .int x.2.2.2.1)] [] x.2.2.2.2 := by
  unfold G4_tellNamed_L38 at h
  refine x_iload C 5 rfl dX4_tellNamed_38 ?_
  refine x_aload_n C rfl 0 rfl dX4_tellNamed_40 ?_
  refine x_getR (r := 1) C (j := 0) ob168.1 ob168.2 (Nat.le_of_ble_eq_true rfl) (Nat.le_of_ble_eq_true rfl) (fun _ _ _ => rfl) r_168_0 tw_2_55 dX4_tellNamed_41 ?_
  refine x_getIN C (j := 8) ob1.1 ob1.2 (Nat.le_of_ble_eq_true rfl) (Nat.le_of_ble_eq_true rfl) (Or.inl rfl) tw_1_139 dX4_tellNamed_44 ?_
  refine x_icmp_ge (tgt := 104) C dX4_tellNamed_47 (by decide) (fun c25 => ?_) (fun c25 => ?_)
  · have h := h.1 c25
    refine x_aload_n C rfl 0 rfl dX4_tellNamed_104 ?_
    refine x_getR (r := 151) C (j := 1) ob168.1 ob168.2 (Nat.le_of_ble_eq_true rfl) (Nat.le_of_ble_eq_true rfl) (fun _ _ _ => rfl) r_168_1 tw_2_56 dX4_tellNamed_105 ?_
    refine x_callVN (dC := G7_clear_dep) (as := []) (st := []) C rX kX (Nat.le_trans (Nat.le_of_ble_eq_true rfl) hd) (Nat.le_of_ble_eq_true rfl) ob151.1 ob151.2 (Nat.le_of_ble_eq_true rfl) rfl ts_3_8 tw_4_48 tw_5_51 tc_4_49 tw_1_5 hyX7 hnX7_clear rfl (Nat.le_of_ble_eq_true rfl) dX4_tellNamed_108 (G7_clear_met C.2.2.2.2.2.2.2.1 (Nat.le_refl _)  h) (fun r0 μ26 hq => ?_)
    obtain ⟨rfl, h⟩ := hq
    refine x_st [] rfl ?_
    refine x_aload_n C rfl 0 rfl dX4_tellNamed_111 ?_
    refine x_getR (r := 151) C (j := 1) ob168.1 ob168.2 (Nat.le_of_ble_eq_true rfl) (Nat.le_of_ble_eq_true rfl) (fun _ _ _ => rfl) r_168_1 tw_2_56 dX4_tellNamed_112 ?_
    refine x_iload C 3 rfl dX4_tellNamed_115 ?_
    refine x_i2l C dX4_tellNamed_117 ?_
    refine x_callVN (dC := G7_add_dep) (as := [.long (x.2.1.toInt64)]) (st := []) C rX kX (Nat.le_trans (Nat.le_of_ble_eq_true rfl) hd) (Nat.le_of_ble_eq_true rfl) ob151.1 ob151.2 (Nat.le_of_ble_eq_true rfl) rfl ts_3_11 tw_4_63 tw_5_52 tc_4_64 tw_1_5 hyX7 hnX7_add rfl (Nat.le_of_ble_eq_true rfl) dX4_tellNamed_118 (G7_add_met C.2.2.2.2.2.2.2.1 (Nat.le_refl _)  h) (fun r0 μ27 hq => ?_)
    obtain ⟨rfl, h⟩ := hq
    refine x_st [] rfl ?_
    refine x_aload_n C rfl 0 rfl dX4_tellNamed_121 ?_
    refine x_getR (r := 151) C (j := 1) ob168.1 ob168.2 (Nat.le_of_ble_eq_true rfl) (Nat.le_of_ble_eq_true rfl) (fun _ _ _ => rfl) r_168_1 tw_2_56 dX4_tellNamed_122 ?_
    refine x_aload_n C rfl 0 rfl dX4_tellNamed_125 ?_
    refine x_iload_n C rfl 1 rfl dX4_tellNamed_126 ?_
    refine x_callV (dC := G4_wronglyNamed_dep) (as := [.int p2]) (st := [.ref 151]) C rX kX (Nat.le_trans (Nat.le_of_ble_eq_true rfl) hd) (Nat.le_of_ble_eq_true rfl) ob168.1 ob168.2 (Nat.le_of_ble_eq_true rfl) rfl ts_6_3 tw_5_72 tw_5_70 tc_5_73 tw_1_8 hyX4 hnX4_wronglyNamed rfl (Nat.le_of_ble_eq_true rfl) dX4_tellNamed_127 (G4_wronglyNamed_met C.2.2.2.2.2.2.2.1 (Nat.le_refl _)  h) (fun r0 μ28 hq => ?_)
    obtain ⟨r29, rfl, h⟩ := hq
    refine x_st [.long r29, .ref 151] rfl ?_
    refine x_callVN (dC := G7_add_dep) (as := [.long r29]) (st := []) C rX kX (Nat.le_trans (Nat.le_of_ble_eq_true rfl) hd) (Nat.le_of_ble_eq_true rfl) ob151.1 ob151.2 (Nat.le_of_ble_eq_true rfl) rfl ts_3_11 tw_4_63 tw_5_52 tc_4_64 tw_1_5 hyX7 hnX7_add rfl (Nat.le_of_ble_eq_true rfl) dX4_tellNamed_130 (G7_add_met C.2.2.2.2.2.2.2.1 (Nat.le_refl _)  h) (fun r0 μ30 hq => ?_)
    obtain ⟨rfl, h⟩ := hq
    refine x_st [] rfl ?_
    refine x_aload_n C rfl 0 rfl dX4_tellNamed_133 ?_
    refine x_getR (r := 151) C (j := 1) ob168.1 ob168.2 (Nat.le_of_ble_eq_true rfl) (Nat.le_of_ble_eq_true rfl) (fun _ _ _ => rfl) r_168_1 tw_2_56 dX4_tellNamed_134 ?_
    refine x_lload C 4 rfl dX4_tellNamed_137 ?_
    refine x_callVN (dC := G7_add_dep) (as := [.long x.2.2.1]) (st := []) C rX kX (Nat.le_trans (Nat.le_of_ble_eq_true rfl) hd) (Nat.le_of_ble_eq_true rfl) ob151.1 ob151.2 (Nat.le_of_ble_eq_true rfl) rfl ts_3_11 tw_4_63 tw_5_52 tc_4_64 tw_1_5 hyX7 hnX7_add rfl (Nat.le_of_ble_eq_true rfl) dX4_tellNamed_139 (G7_add_met C.2.2.2.2.2.2.2.1 (Nat.le_refl _)  h) (fun r0 μ31 hq => ?_)
    obtain ⟨rfl, h⟩ := hq
    refine x_st [] rfl ?_
    refine x_iload_n C rfl 2 rfl dX4_tellNamed_142 ?_
    exact x_iret C hr dX4_tellNamed_143 ⟨_, rfl, h⟩
  · have h := h.2 c25
    refine x_aload_n C rfl 0 rfl dX4_tellNamed_50 ?_
    refine x_iload C 5 rfl dX4_tellNamed_51 ?_
    refine x_iload_n C rfl 1 rfl dX4_tellNamed_53 ?_
    refine x_callV (dC := G4_isNamed_dep) (as := [.int x.2.2.2.1, .int p2]) (st := []) C rX kX (Nat.le_trans (Nat.le_of_ble_eq_true rfl) hd) (Nat.le_of_ble_eq_true rfl) ob168.1 ob168.2 (Nat.le_of_ble_eq_true rfl) rfl ts_6_2 tw_5_68 tw_5_66 tc_5_69 tw_1_8 hyX4 hnX4_isNamed rfl (Nat.le_of_ble_eq_true rfl) dX4_tellNamed_54 (G4_isNamed_met C.2.2.2.2.2.2.2.1 (Nat.le_refl _)  h) (fun r0 μ32 hq => ?_)
    obtain ⟨r33, rfl, h⟩ := hq
    refine x_st [.int r33] rfl ?_
    refine x_if_eq (tgt := 75) C dX4_tellNamed_57 (by decide) (fun c34 => ?_) (fun c34 => ?_)
    · have h := h.1 c34
      refine x_aload_n C rfl 0 rfl dX4_tellNamed_75 ?_
      refine x_getR (r := 197) C (j := 6) ob168.1 ob168.2 (Nat.le_of_ble_eq_true rfl) (Nat.le_of_ble_eq_true rfl) (fun _ _ _ => rfl) r_168_6 tw_2_61 dX4_tellNamed_76 ?_
      refine x_iload C 5 rfl dX4_tellNamed_79 ?_
      obtain ⟨c35, h⟩ := h
      refine x_iald C ob197.1 ob197.2 c35 rfl dX4_tellNamed_81 ?_
      refine x_if_lt (tgt := 98) C dX4_tellNamed_82 (by decide) (fun c36 => ?_) (fun c36 => ?_)
      · have h := h.1 c36
        refine x_iinc (v := (x.2.2.2.1 + 1)) C [(7, .int (x.2.2.2.1 + 1)), (0, .ref 168), (2, .int p2), (3, .int x.1), (4, .int x.2.1), (5, .long x.2.2.1)] 5 rfl (congrArg (fun z => x.2.2.2.1 + z) (by decide : Int32.ofInt (1) = 1)) (Nat.le_of_ble_eq_true rfl) rfl dX4_tellNamed_98 ?_
        refine x_goto (tgt := 38) C dX4_tellNamed_101 (by decide) ?_
        refine x_sub [(0, .ref 168), (2, .int p2), (3, .int x.1), (4, .int x.2.1), (5, .long x.2.2.1), (7, .int (x.2.2.2.1 + 1))] [1, 2, 3, 4, 5, 0] rfl ?_
        exact hK38 _ _ _ _ _ h
      · have h := h.2 c36
        refine x_lload C 4 rfl dX4_tellNamed_85 ?_
        refine x_aload_n C rfl 0 rfl dX4_tellNamed_87 ?_
        refine x_getR (r := 197) C (j := 6) ob168.1 ob168.2 (Nat.le_of_ble_eq_true rfl) (Nat.le_of_ble_eq_true rfl) (fun _ _ _ => rfl) r_168_6 tw_2_61 dX4_tellNamed_88 ?_
        refine x_iload C 5 rfl dX4_tellNamed_91 ?_
        obtain ⟨c37, h⟩ := h
        refine x_iald C ob197.1 ob197.2 c37 rfl dX4_tellNamed_93 ?_
        refine x_i2l C dX4_tellNamed_94 ?_
        refine x_ladd C dX4_tellNamed_95 ?_
        refine x_topl (fun y38 e_y38 => ?_)
        have h := h y38 e_y38
        refine x_lstore C [(5, .long y38), (0, .ref 168), (2, .int p2), (3, .int x.1), (4, .int x.2.1), (7, .int x.2.2.2.1)] (Nat.le_of_ble_eq_true rfl) rfl dX4_tellNamed_96 ?_
        refine x_iinc (v := (x.2.2.2.1 + 1)) C [(7, .int (x.2.2.2.1 + 1)), (5, .long y38), (0, .ref 168), (2, .int p2), (3, .int x.1), (4, .int x.2.1)] 5 rfl (congrArg (fun z => x.2.2.2.1 + z) (by decide : Int32.ofInt (1) = 1)) (Nat.le_of_ble_eq_true rfl) rfl dX4_tellNamed_98 ?_
        refine x_goto (tgt := 38) C dX4_tellNamed_101 (by decide) ?_
        refine x_sub [(0, .ref 168), (2, .int p2), (3, .int x.1), (4, .int x.2.1), (5, .long y38), (7, .int (x.2.2.2.1 + 1))] [2, 3, 4, 5, 1, 0] rfl ?_
        exact hK38 _ _ _ _ _ h
    · have h := h.2 c34
      refine x_iinc (v := (x.1 + 1)) C [(3, .int (x.1 + 1)), (0, .ref 168), (2, .int p2), (4, .int x.2.1), (5, .long x.2.2.1), (7, .int x.2.2.2.1)] 2 rfl (congrArg (fun z => x.1 + z) (by decide : Int32.ofInt (1) = 1)) (Nat.le_of_ble_eq_true rfl) rfl dX4_tellNamed_60 ?_
      refine x_iload C 3 rfl dX4_tellNamed_63 ?_
      refine x_iconst (v := 1) C (by decide) dX4_tellNamed_65 ?_
      refine x_iload C 5 rfl dX4_tellNamed_66 ?_
      refine x_ishl C dX4_tellNamed_68 ?_
      refine x_ior C dX4_tellNamed_69 ?_
      refine x_topi (fun y39 e_y39 => ?_)
      have h := h y39 e_y39
      refine x_istore C [(4, .int y39), (3, .int (x.1 + 1)), (0, .ref 168), (2, .int p2), (5, .long x.2.2.1), (7, .int x.2.2.2.1)] (Nat.le_of_ble_eq_true rfl) rfl dX4_tellNamed_70 ?_
      refine x_goto (tgt := 98) C dX4_tellNamed_72 (by decide) ?_
      refine x_iinc (v := (x.2.2.2.1 + 1)) C [(7, .int (x.2.2.2.1 + 1)), (4, .int y39), (3, .int (x.1 + 1)), (0, .ref 168), (2, .int p2), (5, .long x.2.2.1)] 5 rfl (congrArg (fun z => x.2.2.2.1 + z) (by decide : Int32.ofInt (1) = 1)) (Nat.le_of_ble_eq_true rfl) rfl dX4_tellNamed_98 ?_
      refine x_goto (tgt := 38) C dX4_tellNamed_101 (by decide) ?_
      refine x_sub [(0, .ref 168), (2, .int p2), (3, .int (x.1 + 1)), (4, .int y39), (5, .long x.2.2.1), (7, .int (x.2.2.2.1 + 1))] [3, 4, 2, 1, 5, 0] rfl ?_
      exact hK38 _ _ _ _ _ h
theorem G4_tellNamed_L38_ok {p : Program} {e : Env} {s : State} {m : MethodId} {args : Array Value} {below : List Frame} {meth : Method} {c : Code} {l : Launch} {φ : Nat → Nat} {tc : Nat → ClassId} {D : va_G} {s0 : State} {dR : Nat} (C : CX p s m args meth c φ tc D (AX φ) s0 cX4_tellNamed RX4 8) (hd : G4_tellNamed_dep ≤ dR) (hr : meth.sig.returnType = (some .int))  {p2 : Int32} {Q : Int32 → MM → Prop}  {x : Int32 × Int32 × Int64 × Int32 × MM}    (h : Lp (G4_tellNamed_L38 p2 Q) x) : WX p l e (rmX dR) s m args below meth c φ tc D (AX φ) 8 0 0 (MQ below (QX φ tc D (QI Q)) args s 0 0 (AX φ)) 38 [(0, .ref 168), (2, .int p2), (3, .int x.1), (4, .int x.2.1), (5, .long x.2.2.1), (7, .int x.2.2.2.1)] [] x.2.2.2.2 := by
  obtain ⟨n, h⟩ := h
  induction n generalizing x with
  | zero => exact h.elim
  | succ n ih => exact G4_tellNamed_L38_b C hd hr   (fun z3 z4 z5 z7 zμ hz => by have q := ih hz; exact q) h
set_option maxHeartbeats 4000000 in
set_option maxRecDepth 100000 in
theorem G4_tellNamed_met {l : Launch} {φ : Nat → Nat} {tc : Nat → ClassId} {D : va_G} {s0 : State} (hG : GX φ tc D s0) {dR : Nat} (hd : G4_tellNamed_dep ≤ dR) {v1 : Int32} {v2 : Int32} {μ : MM} {Q : Int32 → MM → Prop}  (h : G4_tellNamed v1 v2 μ Q) : MX l φ tc D s0 dR yX4_tellNamed cX4_tellNamed 8 (some .int) [.ref 168, .int v1, .int v2] μ (QI Q) := by
  refine MX.of (own := RX4) hG plX4 rfl (Nat.le_of_ble_eq_true rfl) (fun p e s m args below meth c C hr => ?_)
  refine x_sub [(0, .ref 168), (1, .int v1), (2, .int v2)] [0, 1, 2] rfl ?_
  unfold G4_tellNamed at h
  refine x_iload_n C rfl 1 rfl dX4_tellNamed_0 ?_
  refine x_iconst (v := 1) C (by decide) dX4_tellNamed_1 ?_
  refine x_bipush (v := 15) C (by decide) dX4_tellNamed_2 ?_
  refine x_callSN (dC := G11_within_dep) (as := [.int v1, .int 1, .int 15]) (st := []) C rX kX (Nat.le_trans (Nat.le_of_ble_eq_true rfl) hd) (Nat.le_of_ble_eq_true rfl) tw_2_196 tw_4_211 tc_2_197 tw_1_1 hyX11 hnX11_within rfl (Nat.le_of_ble_eq_true rfl) dX4_tellNamed_4 (G11_within_met C.2.2.2.2.2.2.2.1 (Nat.le_refl _)  h) (fun r0 μ18 hq => ?_)
  obtain ⟨r19, rfl, h⟩ := hq
  refine x_st [.int r19] rfl ?_
  refine x_if_eq (tgt := 20) C dX4_tellNamed_7 (by decide) (fun c20 => ?_) (fun c20 => ?_)
  · have h := h.1 c20
    refine x_iconst (v := (-1)) C (by decide) dX4_tellNamed_20 ?_
    exact x_iret C hr dX4_tellNamed_21 ⟨_, rfl, h⟩
  · have h := h.2 c20
    refine x_iload_n C rfl 2 rfl dX4_tellNamed_10 ?_
    refine x_iconst (v := 0) C (by decide) dX4_tellNamed_11 ?_
    refine x_ldc (v := 1000000) C tw_5_61 dX4_tellNamed_12 ?_
    refine x_callSN (dC := G11_within_dep) (as := [.int v2, .int 0, .int 1000000]) (st := []) C rX kX (Nat.le_trans (Nat.le_of_ble_eq_true rfl) hd) (Nat.le_of_ble_eq_true rfl) tw_2_196 tw_4_211 tc_2_197 tw_1_1 hyX11 hnX11_within rfl (Nat.le_of_ble_eq_true rfl) dX4_tellNamed_14 (G11_within_met C.2.2.2.2.2.2.2.1 (Nat.le_refl _)  h) (fun r0 μ21 hq => ?_)
    obtain ⟨r22, rfl, h⟩ := hq
    refine x_st [.int r22] rfl ?_
    refine x_if_ne (tgt := 22) C dX4_tellNamed_17 (by decide) (fun c23 => ?_) (fun c23 => ?_)
    · have h := h.1 c23
      refine x_aload_n C rfl 0 rfl dX4_tellNamed_22 ?_
      refine x_iload_n C rfl 1 rfl dX4_tellNamed_23 ?_
      refine x_callV (dC := G4_fillSums_dep) (as := [.int v1]) (st := []) C rX kX (Nat.le_trans (Nat.le_of_ble_eq_true rfl) hd) (Nat.le_of_ble_eq_true rfl) ob168.1 ob168.2 (Nat.le_of_ble_eq_true rfl) rfl ts_6_1 tw_5_64 tw_5_62 tc_5_65 tw_1_8 hyX4 hnX4_fillSums rfl (Nat.le_of_ble_eq_true rfl) dX4_tellNamed_24 (G4_fillSums_met C.2.2.2.2.2.2.2.1 (Nat.le_refl _)  h) (fun r0 μ24 hq => ?_)
      obtain ⟨rfl, h⟩ := hq
      refine x_st [] rfl ?_
      refine x_iconst (v := 0) C (by decide) dX4_tellNamed_27 ?_
      refine x_istore_n C [(3, .int 0), (0, .ref 168), (1, .int v1), (2, .int v2)] rfl (Nat.le_of_ble_eq_true rfl) rfl dX4_tellNamed_28 ?_
      refine x_iconst (v := 0) C (by decide) dX4_tellNamed_29 ?_
      refine x_istore C [(4, .int 0), (3, .int 0), (0, .ref 168), (1, .int v1), (2, .int v2)] (Nat.le_of_ble_eq_true rfl) rfl dX4_tellNamed_30 ?_
      refine x_lconst (v := 0) C (by decide) dX4_tellNamed_32 ?_
      refine x_lstore C [(5, .long 0), (4, .int 0), (3, .int 0), (0, .ref 168), (1, .int v1), (2, .int v2)] (Nat.le_of_ble_eq_true rfl) rfl dX4_tellNamed_33 ?_
      refine x_iconst (v := 0) C (by decide) dX4_tellNamed_35 ?_
      refine x_istore C [(7, .int 0), (5, .long 0), (4, .int 0), (3, .int 0), (0, .ref 168), (1, .int v1), (2, .int v2)] (Nat.le_of_ble_eq_true rfl) rfl dX4_tellNamed_36 ?_
      refine x_sub [(0, .ref 168), (2, .int v2), (3, .int 0), (4, .int 0), (5, .long 0), (7, .int 0)] [4, 6, 3, 2, 1, 0] rfl ?_
      exact G4_tellNamed_L38_ok C hd hr  h
    · have h := h.2 c23
      refine x_iconst (v := (-1)) C (by decide) dX4_tellNamed_20 ?_
      exact x_iret C hr dX4_tellNamed_21 ⟨_, rfl, h⟩
set_option maxHeartbeats 4000000 in
set_option maxRecDepth 100000 in
theorem G11_named_met {l : Launch} {φ : Nat → Nat} {tc : Nat → ClassId} {D : va_G} {s0 : State} (hG : GX φ tc D s0) {dR : Nat} (hd : G11_named_dep ≤ dR) {v1 : Int32} {v2 : Int32} {μ : MM} {Q : Int32 → MM → Prop}  (h : G11_named v1 v2 μ Q) : MX l φ tc D s0 dR yX11_named cX11_named 3 (some .int) [.ref 0, .int v1, .int v2] μ (QI Q) := by
  refine MX.of (own := RX11) hG plX11 rfl (Nat.le_of_ble_eq_true rfl) (fun p e s m args below meth c C hr => ?_)
  refine x_sub [(0, .ref 0), (1, .int v1), (2, .int v2)] [0, 1, 2] rfl ?_
  unfold G11_named at h
  refine x_aload_n C rfl 0 rfl dX11_named_0 ?_
  refine x_getR (r := 168) C (j := 3) ob0.1 ob0.2 (Nat.le_of_ble_eq_true rfl) (Nat.le_of_ble_eq_true rfl) (fun _ _ _ => rfl) r_0_3 tw_2_166 dX11_named_1 ?_
  refine x_iload_n C rfl 1 rfl dX11_named_4 ?_
  refine x_iload_n C rfl 2 rfl dX11_named_5 ?_
  refine x_callVN (dC := G4_tellNamed_dep) (as := [.int v1, .int v2]) (st := []) C rX kX (Nat.le_trans (Nat.le_of_ble_eq_true rfl) hd) (Nat.le_of_ble_eq_true rfl) ob168.1 ob168.2 (Nat.le_of_ble_eq_true rfl) rfl ts_6_0 tw_5_59 tw_5_57 tc_5_60 tw_1_8 hyX4 hnX4_tellNamed rfl (Nat.le_of_ble_eq_true rfl) dX11_named_6 (G4_tellNamed_met C.2.2.2.2.2.2.2.1 (Nat.le_refl _)  h) (fun r0 μ3 hq => ?_)
  obtain ⟨r4, rfl, h⟩ := hq
  refine x_st [.int r4] rfl ?_
  exact x_iret C hr dX11_named_9 ⟨_, rfl, h⟩
set_option maxHeartbeats 4000000 in
set_option maxRecDepth 100000 in
theorem G4_leastLine_L29_b {p : Program} {e : Env} {s : State} {m : MethodId} {args : Array Value} {below : List Frame} {meth : Method} {c : Code} {l : Launch} {φ : Nat → Nat} {tc : Nat → ClassId} {D : va_G} {s0 : State} {dR : Nat} (C : CX p s m args meth c φ tc D (AX φ) s0 cX4_leastLine RX4 4) (hd : G4_leastLine_dep ≤ dR) (hr : meth.sig.returnType = (some .int))  {p2 : Int32} {Q : Int32 → MM → Prop} {K29 : Int32 × MM → Prop} {x : Int32 × MM}   (hK29 : ∀ (z3 : Int32) (zμ : MM), K29 (z3, zμ) → WX p l e (rmX dR) s m args below meth c φ tc D (AX φ) 4 0 0 (MQ below (QX φ tc D (QI Q)) args s 0 0 (AX φ)) 29 [(0, .ref 168), (2, .int p2), (3, .int z3)] [] zμ) (h : G4_leastLine_L29 p2 Q K29 x) : WX p l e (rmX dR) s m args below meth c φ tc D (AX φ) 4 0 0 (MQ below (QX φ tc D (QI Q)) args s 0 0 (AX φ)) 29 [(0, .ref 168), (2, .int p2), (3, .int x.1)] [] x.2 := by
  unfold G4_leastLine_L29 at h
  refine x_iload_n C rfl 2 rfl dX4_leastLine_29 ?_
  refine x_ldc (v := 1000000) C tw_5_61 dX4_leastLine_30 ?_
  refine x_icmp_gt (tgt := 57) C dX4_leastLine_32 (by decide) (fun c15 => ?_) (fun c15 => ?_)
  · have h := h.1 c15
    refine x_bipush (v := (-2)) C (by decide) dX4_leastLine_57 ?_
    exact x_iret C hr dX4_leastLine_59 ⟨_, rfl, h⟩
  · have h := h.2 c15
    refine x_aload_n C rfl 0 rfl dX4_leastLine_35 ?_
    refine x_iload_n C rfl 2 rfl dX4_leastLine_36 ?_
    refine x_callV (dC := G4_wronglyNamed_dep) (as := [.int x.1]) (st := []) C rX kX (Nat.le_trans (Nat.le_of_ble_eq_true rfl) hd) (Nat.le_of_ble_eq_true rfl) ob168.1 ob168.2 (Nat.le_of_ble_eq_true rfl) rfl ts_6_3 tw_5_72 tw_5_70 tc_5_73 tw_1_8 hyX4 hnX4_wronglyNamed rfl (Nat.le_of_ble_eq_true rfl) dX4_leastLine_37 (G4_wronglyNamed_met C.2.2.2.2.2.2.2.1 (Nat.le_refl _)  h) (fun r0 μ16 hq => ?_)
    obtain ⟨r17, rfl, h⟩ := hq
    refine x_st [.long r17] rfl ?_
    refine x_iload_n C rfl 1 rfl dX4_leastLine_40 ?_
    refine x_i2l C dX4_leastLine_41 ?_
    refine x_lcmp C dX4_leastLine_42 ?_
    refine x_if_gt (tgt := 48) C dX4_leastLine_43 (by decide) (fun c18 => ?_) (fun c18 => ?_)
    · have h := h.1 c18
      refine x_iincW (v := (x.1 + 1000)) C [(3, .int (x.1 + 1000)), (0, .ref 168), (2, .int p2)] 2 rfl (congrArg (fun z => x.1 + z) (by decide : Int32.ofInt (1000) = 1000)) (Nat.le_of_ble_eq_true rfl) rfl dX4_leastLine_48 ?_
      refine x_goto (tgt := 29) C dX4_leastLine_54 (by decide) ?_
      refine x_sub [(0, .ref 168), (2, .int p2), (3, .int (x.1 + 1000))] [1, 2, 0] rfl ?_
      exact hK29 _ _ h
    · have h := h.2 c18
      refine x_iload_n C rfl 2 rfl dX4_leastLine_46 ?_
      exact x_iret C hr dX4_leastLine_47 ⟨_, rfl, h⟩
theorem G4_leastLine_L29_ok {p : Program} {e : Env} {s : State} {m : MethodId} {args : Array Value} {below : List Frame} {meth : Method} {c : Code} {l : Launch} {φ : Nat → Nat} {tc : Nat → ClassId} {D : va_G} {s0 : State} {dR : Nat} (C : CX p s m args meth c φ tc D (AX φ) s0 cX4_leastLine RX4 4) (hd : G4_leastLine_dep ≤ dR) (hr : meth.sig.returnType = (some .int))  {p2 : Int32} {Q : Int32 → MM → Prop}  {x : Int32 × MM}    (h : Lp (G4_leastLine_L29 p2 Q) x) : WX p l e (rmX dR) s m args below meth c φ tc D (AX φ) 4 0 0 (MQ below (QX φ tc D (QI Q)) args s 0 0 (AX φ)) 29 [(0, .ref 168), (2, .int p2), (3, .int x.1)] [] x.2 := by
  obtain ⟨n, h⟩ := h
  induction n generalizing x with
  | zero => exact h.elim
  | succ n ih => exact G4_leastLine_L29_b C hd hr   (fun z3 zμ hz => by have q := ih hz; exact q) h
set_option maxHeartbeats 4000000 in
set_option maxRecDepth 100000 in
theorem G4_leastLine_met {l : Launch} {φ : Nat → Nat} {tc : Nat → ClassId} {D : va_G} {s0 : State} (hG : GX φ tc D s0) {dR : Nat} (hd : G4_leastLine_dep ≤ dR) {v1 : Int32} {v2 : Int32} {μ : MM} {Q : Int32 → MM → Prop}  (h : G4_leastLine v1 v2 μ Q) : MX l φ tc D s0 dR yX4_leastLine cX4_leastLine 4 (some .int) [.ref 168, .int v1, .int v2] μ (QI Q) := by
  refine MX.of (own := RX4) hG plX4 rfl (Nat.le_of_ble_eq_true rfl) (fun p e s m args below meth c C hr => ?_)
  refine x_sub [(0, .ref 168), (1, .int v1), (2, .int v2)] [0, 1, 2] rfl ?_
  unfold G4_leastLine at h
  refine x_iload_n C rfl 1 rfl dX4_leastLine_0 ?_
  refine x_iconst (v := 1) C (by decide) dX4_leastLine_1 ?_
  refine x_bipush (v := 15) C (by decide) dX4_leastLine_2 ?_
  refine x_callSN (dC := G11_within_dep) (as := [.int v1, .int 1, .int 15]) (st := []) C rX kX (Nat.le_trans (Nat.le_of_ble_eq_true rfl) hd) (Nat.le_of_ble_eq_true rfl) tw_2_196 tw_4_211 tc_2_197 tw_1_1 hyX11 hnX11_within rfl (Nat.le_of_ble_eq_true rfl) dX4_leastLine_4 (G11_within_met C.2.2.2.2.2.2.2.1 (Nat.le_refl _)  h) (fun r0 μ8 hq => ?_)
  obtain ⟨r9, rfl, h⟩ := hq
  refine x_st [.int r9] rfl ?_
  refine x_if_eq (tgt := 20) C dX4_leastLine_7 (by decide) (fun c10 => ?_) (fun c10 => ?_)
  · have h := h.1 c10
    refine x_iconst (v := (-1)) C (by decide) dX4_leastLine_20 ?_
    exact x_iret C hr dX4_leastLine_21 ⟨_, rfl, h⟩
  · have h := h.2 c10
    refine x_iload_n C rfl 2 rfl dX4_leastLine_10 ?_
    refine x_iconst (v := 0) C (by decide) dX4_leastLine_11 ?_
    refine x_ldc (v := 24000000) C tw_5_82 dX4_leastLine_12 ?_
    refine x_callSN (dC := G11_within_dep) (as := [.int v2, .int 0, .int 24000000]) (st := []) C rX kX (Nat.le_trans (Nat.le_of_ble_eq_true rfl) hd) (Nat.le_of_ble_eq_true rfl) tw_2_196 tw_4_211 tc_2_197 tw_1_1 hyX11 hnX11_within rfl (Nat.le_of_ble_eq_true rfl) dX4_leastLine_14 (G11_within_met C.2.2.2.2.2.2.2.1 (Nat.le_refl _)  h) (fun r0 μ11 hq => ?_)
    obtain ⟨r12, rfl, h⟩ := hq
    refine x_st [.int r12] rfl ?_
    refine x_if_ne (tgt := 22) C dX4_leastLine_17 (by decide) (fun c13 => ?_) (fun c13 => ?_)
    · have h := h.1 c13
      refine x_aload_n C rfl 0 rfl dX4_leastLine_22 ?_
      refine x_iload_n C rfl 1 rfl dX4_leastLine_23 ?_
      refine x_callV (dC := G4_fillSums_dep) (as := [.int v1]) (st := []) C rX kX (Nat.le_trans (Nat.le_of_ble_eq_true rfl) hd) (Nat.le_of_ble_eq_true rfl) ob168.1 ob168.2 (Nat.le_of_ble_eq_true rfl) rfl ts_6_1 tw_5_64 tw_5_62 tc_5_65 tw_1_8 hyX4 hnX4_fillSums rfl (Nat.le_of_ble_eq_true rfl) dX4_leastLine_24 (G4_fillSums_met C.2.2.2.2.2.2.2.1 (Nat.le_refl _)  h) (fun r0 μ14 hq => ?_)
      obtain ⟨rfl, h⟩ := hq
      refine x_st [] rfl ?_
      refine x_iconst (v := 0) C (by decide) dX4_leastLine_27 ?_
      refine x_istore_n C [(3, .int 0), (0, .ref 168), (1, .int v1), (2, .int v2)] rfl (Nat.le_of_ble_eq_true rfl) rfl dX4_leastLine_28 ?_
      refine x_sub [(0, .ref 168), (2, .int v2), (3, .int 0)] [1, 3, 0] rfl ?_
      exact G4_leastLine_L29_ok C hd hr  h
    · have h := h.2 c13
      refine x_iconst (v := (-1)) C (by decide) dX4_leastLine_20 ?_
      exact x_iret C hr dX4_leastLine_21 ⟨_, rfl, h⟩
set_option maxHeartbeats 4000000 in
set_option maxRecDepth 100000 in
theorem G11_sure_met {l : Launch} {φ : Nat → Nat} {tc : Nat → ClassId} {D : va_G} {s0 : State} (hG : GX φ tc D s0) {dR : Nat} (hd : G11_sure_dep ≤ dR) {v1 : Int32} {v2 : Int32} {μ : MM} {Q : Int32 → MM → Prop}  (h : G11_sure v1 v2 μ Q) : MX l φ tc D s0 dR yX11_sure cX11_sure 3 (some .int) [.ref 0, .int v1, .int v2] μ (QI Q) := by
  refine MX.of (own := RX11) hG plX11 rfl (Nat.le_of_ble_eq_true rfl) (fun p e s m args below meth c C hr => ?_)
  refine x_sub [(0, .ref 0), (1, .int v1), (2, .int v2)] [0, 1, 2] rfl ?_
  unfold G11_sure at h
  refine x_aload_n C rfl 0 rfl dX11_sure_0 ?_
  refine x_getR (r := 168) C (j := 3) ob0.1 ob0.2 (Nat.le_of_ble_eq_true rfl) (Nat.le_of_ble_eq_true rfl) (fun _ _ _ => rfl) r_0_3 tw_2_166 dX11_sure_1 ?_
  refine x_iload_n C rfl 1 rfl dX11_sure_4 ?_
  refine x_iload_n C rfl 2 rfl dX11_sure_5 ?_
  refine x_callVN (dC := G4_leastLine_dep) (as := [.int v1, .int v2]) (st := []) C rX kX (Nat.le_trans (Nat.le_of_ble_eq_true rfl) hd) (Nat.le_of_ble_eq_true rfl) ob168.1 ob168.2 (Nat.le_of_ble_eq_true rfl) rfl ts_6_4 tw_5_80 tw_5_78 tc_5_81 tw_1_8 hyX4 hnX4_leastLine rfl (Nat.le_of_ble_eq_true rfl) dX11_sure_6 (G4_leastLine_met C.2.2.2.2.2.2.2.1 (Nat.le_refl _)  h) (fun r0 μ3 hq => ?_)
  obtain ⟨r4, rfl, h⟩ := hq
  refine x_st [.int r4] rfl ?_
  exact x_iret C hr dX11_sure_9 ⟨_, rfl, h⟩
set_option maxHeartbeats 4000000 in
set_option maxRecDepth 100000 in
theorem G4_fewerIn_met {l : Launch} {φ : Nat → Nat} {tc : Nat → ClassId} {D : va_G} {s0 : State} (hG : GX φ tc D s0) {dR : Nat} (hd : G4_fewerIn_dep ≤ dR) {v1 : Int32} {μ : MM} {Q : Int32 → MM → Prop}  (h : G4_fewerIn v1 μ Q) : MX l φ tc D s0 dR yX4_fewerIn cX4_fewerIn 3 (some .int) [.ref 168, .int v1] μ (QI Q) := by
  refine MX.of (own := RX4) hG plX4 rfl (Nat.le_of_ble_eq_true rfl) (fun p e s m args below meth c C hr => ?_)
  refine x_sub [(0, .ref 168), (1, .int v1)] [0, 1] rfl ?_
  unfold G4_fewerIn at h
  refine x_aload_n C rfl 0 rfl dX4_fewerIn_0 ?_
  refine x_iload_n C rfl 1 rfl dX4_fewerIn_1 ?_
  refine x_iconst (v := 0) C (by decide) dX4_fewerIn_2 ?_
  refine x_callV (dC := G4_rungIn_dep) (as := [.int v1, .int 0]) (st := []) C rX kX (Nat.le_trans (Nat.le_of_ble_eq_true rfl) hd) (Nat.le_of_ble_eq_true rfl) ob168.1 ob168.2 (Nat.le_of_ble_eq_true rfl) rfl ts_5_3 tw_4_218 tw_4_216 tc_4_219 tw_1_8 hyX4 hnX4_rungIn rfl (Nat.le_of_ble_eq_true rfl) dX4_fewerIn_3 (G4_rungIn_met C.2.2.2.2.2.2.2.1 (Nat.le_refl _)  h) (fun r0 μ6 hq => ?_)
  obtain ⟨r7, rfl, h⟩ := hq
  refine x_st [.int r7] rfl ?_
  refine x_aload_n C rfl 0 rfl dX4_fewerIn_6 ?_
  refine x_iload_n C rfl 1 rfl dX4_fewerIn_7 ?_
  refine x_iconst (v := 1) C (by decide) dX4_fewerIn_8 ?_
  refine x_callV (dC := G4_rungIn_dep) (as := [.int v1, .int 1]) (st := [.int r7]) C rX kX (Nat.le_trans (Nat.le_of_ble_eq_true rfl) hd) (Nat.le_of_ble_eq_true rfl) ob168.1 ob168.2 (Nat.le_of_ble_eq_true rfl) rfl ts_5_3 tw_4_218 tw_4_216 tc_4_219 tw_1_8 hyX4 hnX4_rungIn rfl (Nat.le_of_ble_eq_true rfl) dX4_fewerIn_9 (G4_rungIn_met C.2.2.2.2.2.2.2.1 (Nat.le_refl _)  h) (fun r0 μ8 hq => ?_)
  obtain ⟨r9, rfl, h⟩ := hq
  refine x_st [.int r9, .int r7] rfl ?_
  refine x_isub C dX4_fewerIn_12 ?_
  refine x_topi (fun y10 e_y10 => ?_)
  have h := h y10 e_y10
  refine x_istore_n C [(2, .int y10), (0, .ref 168), (1, .int v1)] rfl (Nat.le_of_ble_eq_true rfl) rfl dX4_fewerIn_13 ?_
  refine x_iload_n C rfl 0 rfl dX4_fewerIn_14 ?_
  refine x_if_le (tgt := 22) C dX4_fewerIn_15 (by decide) (fun c11 => ?_) (fun c11 => ?_)
  · have h := h.1 c11
    refine x_iconst (v := 0) C (by decide) dX4_fewerIn_22 ?_
    exact x_iret C hr dX4_fewerIn_23 ⟨_, rfl, h⟩
  · have h := h.2 c11
    refine x_iload_n C rfl 0 rfl dX4_fewerIn_18 ?_
    refine x_goto (tgt := 23) C dX4_fewerIn_19 (by decide) ?_
    exact x_iret C hr dX4_fewerIn_23 ⟨_, rfl, h⟩
set_option maxHeartbeats 4000000 in
set_option maxRecDepth 100000 in
theorem G4_tellMost_L72_b {p : Program} {e : Env} {s : State} {m : MethodId} {args : Array Value} {below : List Frame} {meth : Method} {c : Code} {l : Launch} {φ : Nat → Nat} {tc : Nat → ClassId} {D : va_G} {s0 : State} {dR : Nat} (C : CX p s m args meth c φ tc D (AX φ) s0 cX4_tellMost RX4 7) (hd : G4_tellMost_dep ≤ dR) (hr : meth.sig.returnType = (some .int))  {p1 : Int32} {p2 : Int32} {p5 : Int32} {Q : Int32 → MM → Prop} {K64 : Int32 × Int32 × Int32 × MM → Prop} {K72 : Int32 × Int32 × Int32 × MM → Prop} {x : Int32 × Int32 × Int32 × MM}   (hK64 : ∀ (z3 : Int32) (z4 : Int32) (z5 : Int32) (zμ : MM), K64 (z3, z4, z5, zμ) → WX p l e (rmX dR) s m args below meth c φ tc D (AX φ) 7 0 0 (MQ below (QX φ tc D (QI Q)) args s 0 0 (AX φ)) 64 [(0, .ref 168), (1, .int p1), (2, .int p2), (3, .int z3), (4, .int z4), (5, .int z5)] [] zμ) (hK72 : ∀ (z3 : Int32) (z4 : Int32) (z6 : Int32) (zμ : MM), K72 (z3, z4, z6, zμ) → WX p l e (rmX dR) s m args below meth c φ tc D (AX φ) 7 0 0 (MQ below (QX φ tc D (QI Q)) args s 0 0 (AX φ)) 72 [(0, .ref 168), (1, .int p1), (2, .int p2), (3, .int z3), (4, .int z4), (5, .int p5), (6, .int z6)] [] zμ) (h : G4_tellMost_L72 p1 p2 p5 K64 Q K72 x) : WX p l e (rmX dR) s m args below meth c φ tc D (AX φ) 7 0 0 (MQ below (QX φ tc D (QI Q)) args s 0 0 (AX φ)) 72 [(0, .ref 168), (1, .int p1), (2, .int p2), (3, .int x.1), (4, .int x.2.1), (5, .int p5), (6, .int x.2.2.1)] [] x.2.2.2 := by
  unfold G4_tellMost_L72 at h
  refine x_iload C 6 rfl dX4_tellMost_72 ?_
  refine x_aload_n C rfl 0 rfl dX4_tellMost_74 ?_
  refine x_getR (r := 1) C (j := 0) ob168.1 ob168.2 (Nat.le_of_ble_eq_true rfl) (Nat.le_of_ble_eq_true rfl) (fun _ _ _ => rfl) r_168_0 tw_2_55 dX4_tellMost_75 ?_
  refine x_getIN C (j := 8) ob1.1 ob1.2 (Nat.le_of_ble_eq_true rfl) (Nat.le_of_ble_eq_true rfl) (Or.inl rfl) tw_1_139 dX4_tellMost_78 ?_
  refine x_icmp_ge (tgt := 120) C dX4_tellMost_81 (by decide) (fun c18 => ?_) (fun c18 => ?_)
  · have h := h.1 c18
    refine x_iinc (v := (p5 + (-1))) C [(5, .int (p5 + (-1))), (0, .ref 168), (1, .int p1), (2, .int p2), (3, .int x.1), (4, .int x.2.1), (6, .int x.2.2.1)] 5 rfl (congrArg (fun z => p5 + z) (by decide : Int32.ofInt (-1) = (-1))) (Nat.le_of_ble_eq_true rfl) rfl dX4_tellMost_120 ?_
    refine x_goto (tgt := 64) C dX4_tellMost_123 (by decide) ?_
    refine x_sub [(0, .ref 168), (1, .int p1), (2, .int p2), (3, .int x.1), (4, .int x.2.1), (5, .int (p5 + (-1)))] [1, 2, 3, 4, 5, 0] rfl ?_
    exact hK64 _ _ _ _ h
  · have h := h.2 c18
    refine x_iload C 4 rfl dX4_tellMost_84 ?_
    refine x_iconst (v := 2) C (by decide) dX4_tellMost_86 ?_
    refine x_imul C dX4_tellMost_87 ?_
    refine x_iload_n C rfl 2 rfl dX4_tellMost_88 ?_
    refine x_icmp_le (tgt := 120) C dX4_tellMost_89 (by decide) (fun c19 => ?_) (fun c19 => ?_)
    · have h := h.1 c19
      refine x_iinc (v := (p5 + (-1))) C [(5, .int (p5 + (-1))), (0, .ref 168), (1, .int p1), (2, .int p2), (3, .int x.1), (4, .int x.2.1), (6, .int x.2.2.1)] 5 rfl (congrArg (fun z => p5 + z) (by decide : Int32.ofInt (-1) = (-1))) (Nat.le_of_ble_eq_true rfl) rfl dX4_tellMost_120 ?_
      refine x_goto (tgt := 64) C dX4_tellMost_123 (by decide) ?_
      refine x_sub [(0, .ref 168), (1, .int p1), (2, .int p2), (3, .int x.1), (4, .int x.2.1), (5, .int (p5 + (-1)))] [1, 2, 3, 4, 5, 0] rfl ?_
      exact hK64 _ _ _ _ h
    · have h := h.2 c19
      refine x_aload_n C rfl 0 rfl dX4_tellMost_92 ?_
      refine x_getR (r := 197) C (j := 6) ob168.1 ob168.2 (Nat.le_of_ble_eq_true rfl) (Nat.le_of_ble_eq_true rfl) (fun _ _ _ => rfl) r_168_6 tw_2_61 dX4_tellMost_93 ?_
      refine x_iload C 6 rfl dX4_tellMost_96 ?_
      obtain ⟨c20, h⟩ := h
      refine x_iald C ob197.1 ob197.2 c20 rfl dX4_tellMost_98 ?_
      refine x_iload C 5 rfl dX4_tellMost_99 ?_
      refine x_icmp_ne (tgt := 114) C dX4_tellMost_101 (by decide) (fun c21 => ?_) (fun c21 => ?_)
      · have h := h.1 c21
        refine x_iinc (v := (x.2.2.1 + 1)) C [(6, .int (x.2.2.1 + 1)), (0, .ref 168), (1, .int p1), (2, .int p2), (3, .int x.1), (4, .int x.2.1), (5, .int p5)] 6 rfl (congrArg (fun z => x.2.2.1 + z) (by decide : Int32.ofInt (1) = 1)) (Nat.le_of_ble_eq_true rfl) rfl dX4_tellMost_114 ?_
        refine x_goto (tgt := 72) C dX4_tellMost_117 (by decide) ?_
        refine x_sub [(0, .ref 168), (1, .int p1), (2, .int p2), (3, .int x.1), (4, .int x.2.1), (5, .int p5), (6, .int (x.2.2.1 + 1))] [1, 2, 3, 4, 5, 6, 0] rfl ?_
        exact hK72 _ _ _ _ h
      · have h := h.2 c21
        refine x_iload C 4 rfl dX4_tellMost_104 ?_
        refine x_iload C 5 rfl dX4_tellMost_106 ?_
        refine x_isub C dX4_tellMost_108 ?_
        refine x_topi (fun y22 e_y22 => ?_)
        have h := h y22 e_y22
        refine x_istore C [(4, .int y22), (0, .ref 168), (1, .int p1), (2, .int p2), (3, .int x.1), (5, .int p5), (6, .int x.2.2.1)] (Nat.le_of_ble_eq_true rfl) rfl dX4_tellMost_109 ?_
        refine x_iinc (v := (x.1 + 1)) C [(3, .int (x.1 + 1)), (4, .int y22), (0, .ref 168), (1, .int p1), (2, .int p2), (5, .int p5), (6, .int x.2.2.1)] 4 rfl (congrArg (fun z => x.1 + z) (by decide : Int32.ofInt (1) = 1)) (Nat.le_of_ble_eq_true rfl) rfl dX4_tellMost_111 ?_
        refine x_iinc (v := (x.2.2.1 + 1)) C [(6, .int (x.2.2.1 + 1)), (3, .int (x.1 + 1)), (4, .int y22), (0, .ref 168), (1, .int p1), (2, .int p2), (5, .int p5)] 6 rfl (congrArg (fun z => x.2.2.1 + z) (by decide : Int32.ofInt (1) = 1)) (Nat.le_of_ble_eq_true rfl) rfl dX4_tellMost_114 ?_
        refine x_goto (tgt := 72) C dX4_tellMost_117 (by decide) ?_
        refine x_sub [(0, .ref 168), (1, .int p1), (2, .int p2), (3, .int (x.1 + 1)), (4, .int y22), (5, .int p5), (6, .int (x.2.2.1 + 1))] [3, 4, 5, 1, 2, 6, 0] rfl ?_
        exact hK72 _ _ _ _ h
theorem G4_tellMost_L72_ok {p : Program} {e : Env} {s : State} {m : MethodId} {args : Array Value} {below : List Frame} {meth : Method} {c : Code} {l : Launch} {φ : Nat → Nat} {tc : Nat → ClassId} {D : va_G} {s0 : State} {dR : Nat} (C : CX p s m args meth c φ tc D (AX φ) s0 cX4_tellMost RX4 7) (hd : G4_tellMost_dep ≤ dR) (hr : meth.sig.returnType = (some .int))  {p1 : Int32} {p2 : Int32} {p5 : Int32} {Q : Int32 → MM → Prop} {K64 : Int32 × Int32 × Int32 × MM → Prop} {x : Int32 × Int32 × Int32 × MM}   (hK64 : ∀ (z3 : Int32) (z4 : Int32) (z5 : Int32) (zμ : MM), K64 (z3, z4, z5, zμ) → WX p l e (rmX dR) s m args below meth c φ tc D (AX φ) 7 0 0 (MQ below (QX φ tc D (QI Q)) args s 0 0 (AX φ)) 64 [(0, .ref 168), (1, .int p1), (2, .int p2), (3, .int z3), (4, .int z4), (5, .int z5)] [] zμ) (h : Lp (G4_tellMost_L72 p1 p2 p5 K64 Q) x) : WX p l e (rmX dR) s m args below meth c φ tc D (AX φ) 7 0 0 (MQ below (QX φ tc D (QI Q)) args s 0 0 (AX φ)) 72 [(0, .ref 168), (1, .int p1), (2, .int p2), (3, .int x.1), (4, .int x.2.1), (5, .int p5), (6, .int x.2.2.1)] [] x.2.2.2 := by
  obtain ⟨n, h⟩ := h
  induction n generalizing x with
  | zero => exact h.elim
  | succ n ih => exact G4_tellMost_L72_b C hd hr  hK64 (fun z3 z4 z6 zμ hz => by have q := ih hz; exact q) h
set_option maxHeartbeats 4000000 in
set_option maxRecDepth 100000 in
theorem G4_tellMost_L64_b {p : Program} {e : Env} {s : State} {m : MethodId} {args : Array Value} {below : List Frame} {meth : Method} {c : Code} {l : Launch} {φ : Nat → Nat} {tc : Nat → ClassId} {D : va_G} {s0 : State} {dR : Nat} (C : CX p s m args meth c φ tc D (AX φ) s0 cX4_tellMost RX4 7) (hd : G4_tellMost_dep ≤ dR) (hr : meth.sig.returnType = (some .int))  {p1 : Int32} {p2 : Int32} {Q : Int32 → MM → Prop} {K64 : Int32 × Int32 × Int32 × MM → Prop} {x : Int32 × Int32 × Int32 × MM}   (hK64 : ∀ (z3 : Int32) (z4 : Int32) (z5 : Int32) (zμ : MM), K64 (z3, z4, z5, zμ) → WX p l e (rmX dR) s m args below meth c φ tc D (AX φ) 7 0 0 (MQ below (QX φ tc D (QI Q)) args s 0 0 (AX φ)) 64 [(0, .ref 168), (1, .int p1), (2, .int p2), (3, .int z3), (4, .int z4), (5, .int z5)] [] zμ) (h : G4_tellMost_L64 p1 p2 Q K64 x) : WX p l e (rmX dR) s m args below meth c φ tc D (AX φ) 7 0 0 (MQ below (QX φ tc D (QI Q)) args s 0 0 (AX φ)) 64 [(0, .ref 168), (1, .int p1), (2, .int p2), (3, .int x.1), (4, .int x.2.1), (5, .int x.2.2.1)] [] x.2.2.2 := by
  unfold G4_tellMost_L64 at h
  refine x_iload C 5 rfl dX4_tellMost_64 ?_
  refine x_if_le (tgt := 126) C dX4_tellMost_66 (by decide) (fun c14 => ?_) (fun c14 => ?_)
  · have h := h.1 c14
    refine x_aload_n C rfl 0 rfl dX4_tellMost_126 ?_
    refine x_getR (r := 151) C (j := 1) ob168.1 ob168.2 (Nat.le_of_ble_eq_true rfl) (Nat.le_of_ble_eq_true rfl) (fun _ _ _ => rfl) r_168_1 tw_2_56 dX4_tellMost_127 ?_
    refine x_callVN (dC := G7_clear_dep) (as := []) (st := []) C rX kX (Nat.le_trans (Nat.le_of_ble_eq_true rfl) hd) (Nat.le_of_ble_eq_true rfl) ob151.1 ob151.2 (Nat.le_of_ble_eq_true rfl) rfl ts_3_8 tw_4_48 tw_5_51 tc_4_49 tw_1_5 hyX7 hnX7_clear rfl (Nat.le_of_ble_eq_true rfl) dX4_tellMost_130 (G7_clear_met C.2.2.2.2.2.2.2.1 (Nat.le_refl _)  h) (fun r0 μ15 hq => ?_)
    obtain ⟨rfl, h⟩ := hq
    refine x_st [] rfl ?_
    refine x_aload_n C rfl 0 rfl dX4_tellMost_133 ?_
    refine x_getR (r := 151) C (j := 1) ob168.1 ob168.2 (Nat.le_of_ble_eq_true rfl) (Nat.le_of_ble_eq_true rfl) (fun _ _ _ => rfl) r_168_1 tw_2_56 dX4_tellMost_134 ?_
    refine x_iload_n C rfl 1 rfl dX4_tellMost_137 ?_
    refine x_i2l C dX4_tellMost_138 ?_
    refine x_callVN (dC := G7_add_dep) (as := [.long (p1.toInt64)]) (st := []) C rX kX (Nat.le_trans (Nat.le_of_ble_eq_true rfl) hd) (Nat.le_of_ble_eq_true rfl) ob151.1 ob151.2 (Nat.le_of_ble_eq_true rfl) rfl ts_3_11 tw_4_63 tw_5_52 tc_4_64 tw_1_5 hyX7 hnX7_add rfl (Nat.le_of_ble_eq_true rfl) dX4_tellMost_139 (G7_add_met C.2.2.2.2.2.2.2.1 (Nat.le_refl _)  h) (fun r0 μ16 hq => ?_)
    obtain ⟨rfl, h⟩ := hq
    refine x_st [] rfl ?_
    refine x_aload_n C rfl 0 rfl dX4_tellMost_142 ?_
    refine x_getR (r := 151) C (j := 1) ob168.1 ob168.2 (Nat.le_of_ble_eq_true rfl) (Nat.le_of_ble_eq_true rfl) (fun _ _ _ => rfl) r_168_1 tw_2_56 dX4_tellMost_143 ?_
    refine x_iload_n C rfl 2 rfl dX4_tellMost_146 ?_
    refine x_i2l C dX4_tellMost_147 ?_
    refine x_callVN (dC := G7_add_dep) (as := [.long (p2.toInt64)]) (st := []) C rX kX (Nat.le_trans (Nat.le_of_ble_eq_true rfl) hd) (Nat.le_of_ble_eq_true rfl) ob151.1 ob151.2 (Nat.le_of_ble_eq_true rfl) rfl ts_3_11 tw_4_63 tw_5_52 tc_4_64 tw_1_5 hyX7 hnX7_add rfl (Nat.le_of_ble_eq_true rfl) dX4_tellMost_148 (G7_add_met C.2.2.2.2.2.2.2.1 (Nat.le_refl _)  h) (fun r0 μ17 hq => ?_)
    obtain ⟨rfl, h⟩ := hq
    refine x_st [] rfl ?_
    refine x_iload_n C rfl 3 rfl dX4_tellMost_151 ?_
    exact x_iret C hr dX4_tellMost_152 ⟨_, rfl, h⟩
  · have h := h.2 c14
    refine x_iconst (v := 0) C (by decide) dX4_tellMost_69 ?_
    refine x_istore C [(6, .int 0), (0, .ref 168), (1, .int p1), (2, .int p2), (3, .int x.1), (4, .int x.2.1), (5, .int x.2.2.1)] (Nat.le_of_ble_eq_true rfl) rfl dX4_tellMost_70 ?_
    refine x_sub [(0, .ref 168), (1, .int p1), (2, .int p2), (3, .int x.1), (4, .int x.2.1), (5, .int x.2.2.1), (6, .int 0)] [1, 2, 3, 4, 5, 6, 0] rfl ?_
    exact G4_tellMost_L72_ok C hd hr hK64 h
theorem G4_tellMost_L64_ok {p : Program} {e : Env} {s : State} {m : MethodId} {args : Array Value} {below : List Frame} {meth : Method} {c : Code} {l : Launch} {φ : Nat → Nat} {tc : Nat → ClassId} {D : va_G} {s0 : State} {dR : Nat} (C : CX p s m args meth c φ tc D (AX φ) s0 cX4_tellMost RX4 7) (hd : G4_tellMost_dep ≤ dR) (hr : meth.sig.returnType = (some .int))  {p1 : Int32} {p2 : Int32} {Q : Int32 → MM → Prop}  {x : Int32 × Int32 × Int32 × MM}    (h : Lp (G4_tellMost_L64 p1 p2 Q) x) : WX p l e (rmX dR) s m args below meth c φ tc D (AX φ) 7 0 0 (MQ below (QX φ tc D (QI Q)) args s 0 0 (AX φ)) 64 [(0, .ref 168), (1, .int p1), (2, .int p2), (3, .int x.1), (4, .int x.2.1), (5, .int x.2.2.1)] [] x.2.2.2 := by
  obtain ⟨n, h⟩ := h
  induction n generalizing x with
  | zero => exact h.elim
  | succ n ih => exact G4_tellMost_L64_b C hd hr   (fun z3 z4 z5 zμ hz => by have q := ih hz; exact q) h
set_option maxHeartbeats 4000000 in
set_option maxRecDepth 100000 in
theorem G4_tellMost_L6_b {p : Program} {e : Env} {s : State} {m : MethodId} {args : Array Value} {below : List Frame} {meth : Method} {c : Code} {l : Launch} {φ : Nat → Nat} {tc : Nat → ClassId} {D : va_G} {s0 : State} {dR : Nat} (C : CX p s m args meth c φ tc D (AX φ) s0 cX4_tellMost RX4 7) (hd : G4_tellMost_dep ≤ dR) (hr : meth.sig.returnType = (some .int))   {Q : Int32 → MM → Prop} {K6 : Int32 × Int32 × Int32 × MM → Prop} {x : Int32 × Int32 × Int32 × MM}   (hK6 : ∀ (z1 : Int32) (z2 : Int32) (z3 : Int32) (zμ : MM), K6 (z1, z2, z3, zμ) → WX p l e (rmX dR) s m args below meth c φ tc D (AX φ) 7 0 0 (MQ below (QX φ tc D (QI Q)) args s 0 0 (AX φ)) 6 [(0, .ref 168), (1, .int z1), (2, .int z2), (3, .int z3)] [] zμ) (h : G4_tellMost_L6  Q K6 x) : WX p l e (rmX dR) s m args below meth c φ tc D (AX φ) 7 0 0 (MQ below (QX φ tc D (QI Q)) args s 0 0 (AX φ)) 6 [(0, .ref 168), (1, .int x.1), (2, .int x.2.1), (3, .int x.2.2.1)] [] x.2.2.2 := by
  unfold G4_tellMost_L6 at h
  refine x_iload_n C rfl 3 rfl dX4_tellMost_6 ?_
  refine x_aload_n C rfl 0 rfl dX4_tellMost_7 ?_
  refine x_getR (r := 1) C (j := 0) ob168.1 ob168.2 (Nat.le_of_ble_eq_true rfl) (Nat.le_of_ble_eq_true rfl) (fun _ _ _ => rfl) r_168_0 tw_2_55 dX4_tellMost_8 ?_
  refine x_getIN C (j := 8) ob1.1 ob1.2 (Nat.le_of_ble_eq_true rfl) (Nat.le_of_ble_eq_true rfl) (Or.inl rfl) tw_1_139 dX4_tellMost_11 ?_
  refine x_icmp_ge (tgt := 56) C dX4_tellMost_14 (by decide) (fun c13 => ?_) (fun c13 => ?_)
  · have h := h.1 c13
    refine x_iconst (v := 0) C (by decide) dX4_tellMost_56 ?_
    refine x_istore_n C [(3, .int 0), (0, .ref 168), (1, .int x.1), (2, .int x.2.1)] rfl (Nat.le_of_ble_eq_true rfl) rfl dX4_tellMost_57 ?_
    refine x_iload_n C rfl 3 rfl dX4_tellMost_58 ?_
    refine x_istore C [(4, .int x.2.1), (3, .int 0), (0, .ref 168), (1, .int x.1), (2, .int x.2.1)] (Nat.le_of_ble_eq_true rfl) rfl dX4_tellMost_59 ?_
    refine x_iconst (v := 4) C (by decide) dX4_tellMost_61 ?_
    refine x_istore C [(5, .int 4), (4, .int x.2.1), (3, .int 0), (0, .ref 168), (1, .int x.1), (2, .int x.2.1)] (Nat.le_of_ble_eq_true rfl) rfl dX4_tellMost_62 ?_
    refine x_sub [(0, .ref 168), (1, .int x.1), (2, .int x.2.1), (3, .int 0), (4, .int x.2.1), (5, .int 4)] [3, 4, 5, 2, 1, 0] rfl ?_
    exact G4_tellMost_L64_ok C hd hr  h
  · have h := h.2 c13
    refine x_aload_n C rfl 0 rfl dX4_tellMost_17 ?_
    refine x_iload_n C rfl 3 rfl dX4_tellMost_18 ?_
    refine x_callV (dC := G4_fewerIn_dep) (as := [.int x.2.2.1]) (st := []) C rX kX (Nat.le_trans (Nat.le_of_ble_eq_true rfl) hd) (Nat.le_of_ble_eq_true rfl) ob168.1 ob168.2 (Nat.le_of_ble_eq_true rfl) rfl ts_6_6 tw_5_93 tw_5_91 tc_5_94 tw_1_8 hyX4 hnX4_fewerIn rfl (Nat.le_of_ble_eq_true rfl) dX4_tellMost_19 (G4_fewerIn_met C.2.2.2.2.2.2.2.1 (Nat.le_refl _)  h) (fun r0 μ23 hq => ?_)
    obtain ⟨r24, rfl, h⟩ := hq
    refine x_st [.int r24] rfl ?_
    refine x_istore C [(4, .int r24), (0, .ref 168), (1, .int x.1), (2, .int x.2.1), (3, .int x.2.2.1)] (Nat.le_of_ble_eq_true rfl) rfl dX4_tellMost_22 ?_
    refine x_aload_n C rfl 1 rfl dX4_tellMost_24 ?_
    refine x_getR (r := 197) C (j := 6) ob168.1 ob168.2 (Nat.le_of_ble_eq_true rfl) (Nat.le_of_ble_eq_true rfl) (fun _ _ _ => rfl) r_168_6 tw_2_61 dX4_tellMost_25 ?_
    refine x_iload_n C rfl 4 rfl dX4_tellMost_28 ?_
    refine x_iload C 0 rfl dX4_tellMost_29 ?_
    obtain ⟨c25, h⟩ := h
    refine x_iast C ob197.1 ob197.2 c25 rfl dX4_tellMost_31 ?_
    refine x_mu (fun μ26 e_μ26 => ?_)
    have h := h μ26 e_μ26
    refine x_iload_n C rfl 3 rfl dX4_tellMost_32 ?_
    refine x_iload C 0 rfl dX4_tellMost_33 ?_
    refine x_iadd C dX4_tellMost_35 ?_
    refine x_topi (fun y27 e_y27 => ?_)
    have h := h y27 e_y27
    refine x_istore_n C [(2, .int y27), (4, .int r24), (0, .ref 168), (1, .int x.1), (3, .int x.2.2.1)] rfl (Nat.le_of_ble_eq_true rfl) rfl dX4_tellMost_36 ?_
    refine x_iload_n C rfl 3 rfl dX4_tellMost_37 ?_
    refine x_iload C 1 rfl dX4_tellMost_38 ?_
    refine x_if_le (tgt := 47) C dX4_tellMost_40 (by decide) (fun c28 => ?_) (fun c28 => ?_)
    · have h := h.1 c28
      refine x_iconst (v := 0) C (by decide) dX4_tellMost_47 ?_
      refine x_iadd C dX4_tellMost_48 ?_
      refine x_topi (fun y29 e_y29 => ?_)
      have h := h y29 e_y29
      refine x_istore_n C [(1, .int y29), (2, .int y27), (4, .int r24), (0, .ref 168), (3, .int x.2.2.1)] rfl (Nat.le_of_ble_eq_true rfl) rfl dX4_tellMost_49 ?_
      refine x_iinc (v := (x.2.2.1 + 1)) C [(3, .int (x.2.2.1 + 1)), (1, .int y29), (2, .int y27), (4, .int r24), (0, .ref 168)] 4 rfl (congrArg (fun z => x.2.2.1 + z) (by decide : Int32.ofInt (1) = 1)) (Nat.le_of_ble_eq_true rfl) rfl dX4_tellMost_50 ?_
      refine x_goto (tgt := 6) C dX4_tellMost_53 (by decide) ?_
      refine x_sub [(0, .ref 168), (1, .int y29), (2, .int y27), (3, .int (x.2.2.1 + 1))] [4, 1, 2, 0] rfl ?_
      exact hK6 _ _ _ _ h
    · have h := h.2 c28
      refine x_iconst (v := 1) C (by decide) dX4_tellMost_43 ?_
      refine x_goto (tgt := 48) C dX4_tellMost_44 (by decide) ?_
      refine x_iadd C dX4_tellMost_48 ?_
      refine x_topi (fun y30 e_y30 => ?_)
      have h := h y30 e_y30
      refine x_istore_n C [(1, .int y30), (2, .int y27), (4, .int r24), (0, .ref 168), (3, .int x.2.2.1)] rfl (Nat.le_of_ble_eq_true rfl) rfl dX4_tellMost_49 ?_
      refine x_iinc (v := (x.2.2.1 + 1)) C [(3, .int (x.2.2.1 + 1)), (1, .int y30), (2, .int y27), (4, .int r24), (0, .ref 168)] 4 rfl (congrArg (fun z => x.2.2.1 + z) (by decide : Int32.ofInt (1) = 1)) (Nat.le_of_ble_eq_true rfl) rfl dX4_tellMost_50 ?_
      refine x_goto (tgt := 6) C dX4_tellMost_53 (by decide) ?_
      refine x_sub [(0, .ref 168), (1, .int y30), (2, .int y27), (3, .int (x.2.2.1 + 1))] [4, 1, 2, 0] rfl ?_
      exact hK6 _ _ _ _ h
theorem G4_tellMost_L6_ok {p : Program} {e : Env} {s : State} {m : MethodId} {args : Array Value} {below : List Frame} {meth : Method} {c : Code} {l : Launch} {φ : Nat → Nat} {tc : Nat → ClassId} {D : va_G} {s0 : State} {dR : Nat} (C : CX p s m args meth c φ tc D (AX φ) s0 cX4_tellMost RX4 7) (hd : G4_tellMost_dep ≤ dR) (hr : meth.sig.returnType = (some .int))   {Q : Int32 → MM → Prop}  {x : Int32 × Int32 × Int32 × MM}    (h : Lp (G4_tellMost_L6  Q) x) : WX p l e (rmX dR) s m args below meth c φ tc D (AX φ) 7 0 0 (MQ below (QX φ tc D (QI Q)) args s 0 0 (AX φ)) 6 [(0, .ref 168), (1, .int x.1), (2, .int x.2.1), (3, .int x.2.2.1)] [] x.2.2.2 := by
  obtain ⟨n, h⟩ := h
  induction n generalizing x with
  | zero => exact h.elim
  | succ n ih => exact G4_tellMost_L6_b C hd hr   (fun z1 z2 z3 zμ hz => by have q := ih hz; exact q) h
set_option maxHeartbeats 4000000 in
set_option maxRecDepth 100000 in
theorem G4_tellMost_met {l : Launch} {φ : Nat → Nat} {tc : Nat → ClassId} {D : va_G} {s0 : State} (hG : GX φ tc D s0) {dR : Nat} (hd : G4_tellMost_dep ≤ dR)  {μ : MM} {Q : Int32 → MM → Prop}  (h : G4_tellMost  μ Q) : MX l φ tc D s0 dR yX4_tellMost cX4_tellMost 7 (some .int) [.ref 168] μ (QI Q) := by
  refine MX.of (own := RX4) hG plX4 rfl (Nat.le_of_ble_eq_true rfl) (fun p e s m args below meth c C hr => ?_)
  refine x_sub [(0, .ref 168)] [0] rfl ?_
  unfold G4_tellMost at h
  refine x_iconst (v := 0) C (by decide) dX4_tellMost_0 ?_
  refine x_istore_n C [(1, .int 0), (0, .ref 168)] rfl (Nat.le_of_ble_eq_true rfl) rfl dX4_tellMost_1 ?_
  refine x_iconst (v := 0) C (by decide) dX4_tellMost_2 ?_
  refine x_istore_n C [(2, .int 0), (1, .int 0), (0, .ref 168)] rfl (Nat.le_of_ble_eq_true rfl) rfl dX4_tellMost_3 ?_
  refine x_iconst (v := 0) C (by decide) dX4_tellMost_4 ?_
  refine x_istore_n C [(3, .int 0), (2, .int 0), (1, .int 0), (0, .ref 168)] rfl (Nat.le_of_ble_eq_true rfl) rfl dX4_tellMost_5 ?_
  refine x_sub [(0, .ref 168), (1, .int 0), (2, .int 0), (3, .int 0)] [3, 2, 1, 0] rfl ?_
  exact G4_tellMost_L6_ok C hd hr  h
set_option maxHeartbeats 4000000 in
set_option maxRecDepth 100000 in
theorem G11_most_met {l : Launch} {φ : Nat → Nat} {tc : Nat → ClassId} {D : va_G} {s0 : State} (hG : GX φ tc D s0) {dR : Nat} (hd : G11_most_dep ≤ dR)  {μ : MM} {Q : Int32 → MM → Prop}  (h : G11_most  μ Q) : MX l φ tc D s0 dR yX11_most cX11_most 1 (some .int) [.ref 0] μ (QI Q) := by
  refine MX.of (own := RX11) hG plX11 rfl (Nat.le_of_ble_eq_true rfl) (fun p e s m args below meth c C hr => ?_)
  refine x_sub [(0, .ref 0)] [0] rfl ?_
  unfold G11_most at h
  refine x_aload_n C rfl 0 rfl dX11_most_0 ?_
  refine x_getR (r := 168) C (j := 3) ob0.1 ob0.2 (Nat.le_of_ble_eq_true rfl) (Nat.le_of_ble_eq_true rfl) (fun _ _ _ => rfl) r_0_3 tw_2_166 dX11_most_1 ?_
  refine x_callVN (dC := G4_tellMost_dep) (as := []) (st := []) C rX kX (Nat.le_trans (Nat.le_of_ble_eq_true rfl) hd) (Nat.le_of_ble_eq_true rfl) ob168.1 ob168.2 (Nat.le_of_ble_eq_true rfl) rfl ts_6_5 tw_5_89 tw_5_87 tc_5_90 tw_1_8 hyX4 hnX4_tellMost rfl (Nat.le_of_ble_eq_true rfl) dX11_most_4 (G4_tellMost_met C.2.2.2.2.2.2.2.1 (Nat.le_refl _)  h) (fun r0 μ3 hq => ?_)
  obtain ⟨r4, rfl, h⟩ := hq
  refine x_st [.int r4] rfl ?_
  exact x_iret C hr dX11_most_7 ⟨_, rfl, h⟩
set_option maxHeartbeats 4000000 in
set_option maxRecDepth 100000 in
theorem G2_gatherWorth_L7_b {p : Program} {e : Env} {s : State} {m : MethodId} {args : Array Value} {below : List Frame} {meth : Method} {c : Code} {l : Launch} {φ : Nat → Nat} {tc : Nat → ClassId} {D : va_G} {s0 : State} {dR : Nat} (C : CX p s m args meth c φ tc D (AX φ) s0 cX2_gatherWorth RX2 6) (hd : G2_gatherWorth_dep ≤ dR) (hr : meth.sig.returnType = none) {a1 : Nat} {p2 : Int32} {p3 : Int32} {Q : MM → Prop} {K7 : Int32 × MM → Prop} {x : Int32 × MM} (o_a1 : Ob a1 9)  (hK7 : ∀ (z4 : Int32) (zμ : MM), K7 (z4, zμ) → WX p l e (rmX dR) s m args below meth c φ tc D (AX φ) 6 0 0 (MQ below (QX φ tc D (QV Q)) args s 0 0 (AX φ)) 7 [(0, .ref 202), (1, .ref a1), (2, .int p2), (3, .int p3), (4, .int z4)] [] zμ) (h : G2_gatherWorth_L7 a1 p2 p3 Q K7 x) : WX p l e (rmX dR) s m args below meth c φ tc D (AX φ) 6 0 0 (MQ below (QX φ tc D (QV Q)) args s 0 0 (AX φ)) 7 [(0, .ref 202), (1, .ref a1), (2, .int p2), (3, .int p3), (4, .int x.1)] [] x.2 := by
  unfold G2_gatherWorth_L7 at h
  refine x_iload C 4 rfl dX2_gatherWorth_7 ?_
  refine x_aload_n C rfl 0 rfl dX2_gatherWorth_9 ?_
  refine x_getR (r := 1) C (j := 0) ob202.1 ob202.2 (Nat.le_of_ble_eq_true rfl) (Nat.le_of_ble_eq_true rfl) (fun _ _ _ => rfl) r_202_0 tw_2_92 dX2_gatherWorth_10 ?_
  refine x_getIN C (j := 10) ob1.1 ob1.2 (Nat.le_of_ble_eq_true rfl) (Nat.le_of_ble_eq_true rfl) (Or.inl rfl) tw_1_152 dX2_gatherWorth_13 ?_
  refine x_icmp_ge (tgt := 76) C dX2_gatherWorth_16 (by decide) (fun c9 => ?_) (fun c9 => ?_)
  · have h := h.1 c9
    exact x_vret C hr dX2_gatherWorth_76 ⟨rfl, h⟩
  · have h := h.2 c9
    refine x_aload_n C rfl 0 rfl dX2_gatherWorth_19 ?_
    refine x_getR (r := 1) C (j := 0) ob202.1 ob202.2 (Nat.le_of_ble_eq_true rfl) (Nat.le_of_ble_eq_true rfl) (fun _ _ _ => rfl) r_202_0 tw_2_92 dX2_gatherWorth_20 ?_
    refine x_getRN (r := 9) C (j := 9) ob1.1 ob1.2 (Nat.le_of_ble_eq_true rfl) (Nat.le_of_ble_eq_true rfl) (fun _ _ _ => rfl) r_1_9 tw_1_147 dX2_gatherWorth_23 ?_
    refine x_iload C 4 rfl dX2_gatherWorth_26 ?_
    obtain ⟨c10, h⟩ := h
    refine x_aald (r := (19 + x.1.toNatClampNeg)) C ob9.1 (by decide) (by decide) c10 rfl (rA9 c10) dX2_gatherWorth_28 ?_
    refine x_astore C [(5, .ref (19 + x.1.toNatClampNeg)), (0, .ref 202), (1, .ref a1), (2, .int p2), (3, .int p3), (4, .int x.1)] (Nat.le_of_ble_eq_true rfl) rfl dX2_gatherWorth_29 ?_
    refine x_aload C 0 rfl dX2_gatherWorth_31 ?_
    refine x_getIN C (j := 6) (obA9 c10).1 (obA9 c10).2 (Nat.le_of_ble_eq_true rfl) (Nat.le_of_ble_eq_true rfl) (Or.inr rfl) tw_1_71 dX2_gatherWorth_33 ?_
    refine x_if_eq (tgt := 70) C dX2_gatherWorth_36 (by decide) (fun c11 => ?_) (fun c11 => ?_)
    · have h := h.1 c11
      refine x_iinc (v := (x.1 + 1)) C [(4, .int (x.1 + 1)), (5, .ref (19 + x.1.toNatClampNeg)), (0, .ref 202), (1, .ref a1), (2, .int p2), (3, .int p3)] 5 rfl (congrArg (fun z => x.1 + z) (by decide : Int32.ofInt (1) = 1)) (Nat.le_of_ble_eq_true rfl) rfl dX2_gatherWorth_70 ?_
      refine x_goto (tgt := 7) C dX2_gatherWorth_73 (by decide) ?_
      refine x_sub [(0, .ref 202), (1, .ref a1), (2, .int p2), (3, .int p3), (4, .int (x.1 + 1))] [2, 3, 4, 5, 0] rfl ?_
      exact hK7 _ _ h
    · have h := h.2 c11
      refine x_aload C 0 rfl dX2_gatherWorth_39 ?_
      refine x_getIN C (j := 2) (obA9 c10).1 (obA9 c10).2 (Nat.le_of_ble_eq_true rfl) (Nat.le_of_ble_eq_true rfl) (Or.inl rfl) tw_1_59 dX2_gatherWorth_41 ?_
      refine x_iload_n C rfl 3 rfl dX2_gatherWorth_44 ?_
      refine x_iload_n C rfl 4 rfl dX2_gatherWorth_45 ?_
      refine x_callSN (dC := G11_within_dep) (as := [.int (gI x.2 (19 + x.1.toNatClampNeg) 2), .int p2, .int p3]) (st := []) C rX kX (Nat.le_trans (Nat.le_of_ble_eq_true rfl) hd) (Nat.le_of_ble_eq_true rfl) tw_2_196 tw_5_103 tc_2_197 tw_1_1 hyX11 hnX11_within rfl (Nat.le_of_ble_eq_true rfl) dX2_gatherWorth_46 (G11_within_met C.2.2.2.2.2.2.2.1 (Nat.le_refl _)  h) (fun r0 μ12 hq => ?_)
      obtain ⟨r13, rfl, h⟩ := hq
      refine x_st [.int r13] rfl ?_
      refine x_if_eq (tgt := 70) C dX2_gatherWorth_49 (by decide) (fun c14 => ?_) (fun c14 => ?_)
      · have h := h.1 c14
        refine x_iinc (v := (x.1 + 1)) C [(4, .int (x.1 + 1)), (5, .ref (19 + x.1.toNatClampNeg)), (0, .ref 202), (1, .ref a1), (2, .int p2), (3, .int p3)] 5 rfl (congrArg (fun z => x.1 + z) (by decide : Int32.ofInt (1) = 1)) (Nat.le_of_ble_eq_true rfl) rfl dX2_gatherWorth_70 ?_
        refine x_goto (tgt := 7) C dX2_gatherWorth_73 (by decide) ?_
        refine x_sub [(0, .ref 202), (1, .ref a1), (2, .int p2), (3, .int p3), (4, .int (x.1 + 1))] [2, 3, 4, 5, 0] rfl ?_
        exact hK7 _ _ h
      · have h := h.2 c14
        refine x_aload_n C rfl 2 rfl dX2_gatherWorth_52 ?_
        refine x_aload_n C rfl 1 rfl dX2_gatherWorth_53 ?_
        refine x_getR (r := 1) C (j := 0) ob202.1 ob202.2 (Nat.le_of_ble_eq_true rfl) (Nat.le_of_ble_eq_true rfl) (fun _ _ _ => rfl) r_202_0 tw_2_92 dX2_gatherWorth_54 ?_
        refine x_aload C 0 rfl dX2_gatherWorth_57 ?_
        refine x_callVN (dC := G10_peopleOf_dep) (as := [.ref (19 + x.1.toNatClampNeg)]) (st := [.ref a1]) C rX kX (Nat.le_trans (Nat.le_of_ble_eq_true rfl) hd) (Nat.le_of_ble_eq_true rfl) ob1.1 ob1.2 (Nat.le_of_ble_eq_true rfl) rfl ts_3_6 tw_4_40 tw_5_109 tc_4_41 tw_1_2 hyX10 hnX10_peopleOf rfl (Nat.le_of_ble_eq_true rfl) dX2_gatherWorth_59 (G10_peopleOf_met C.2.2.2.2.2.2.2.1 (Nat.le_refl _) (obA9 c10) h) (fun r0 μ15 hq => ?_)
        obtain ⟨r16, rfl, h⟩ := hq
        refine x_st [.int r16, .ref a1] rfl ?_
        refine x_aload C 0 rfl dX2_gatherWorth_62 ?_
        refine x_getIN C (j := 7) (obA9 c10).1 (obA9 c10).2 (Nat.le_of_ble_eq_true rfl) (Nat.le_of_ble_eq_true rfl) (Or.inr rfl) tw_1_78 dX2_gatherWorth_64 ?_
        refine x_callVN (dC := G9_note_dep) (as := [.int r16, .int (gI μ15 (19 + x.1.toNatClampNeg) 7)]) (st := []) C rX kX (Nat.le_trans (Nat.le_of_ble_eq_true rfl) hd) (Nat.le_of_ble_eq_true rfl) o_a1.1 o_a1.2 (Nat.le_of_ble_eq_true rfl) rfl ts_3_7 tw_4_44 tw_5_110 tc_4_45 tw_1_7 hyX9 hnX9_note rfl (Nat.le_of_ble_eq_true rfl) dX2_gatherWorth_67 (G9_note_met C.2.2.2.2.2.2.2.1 (Nat.le_refl _) o_a1 h) (fun r0 μ17 hq => ?_)
        obtain ⟨rfl, h⟩ := hq
        refine x_st [] rfl ?_
        refine x_iinc (v := (x.1 + 1)) C [(4, .int (x.1 + 1)), (5, .ref (19 + x.1.toNatClampNeg)), (0, .ref 202), (1, .ref a1), (2, .int p2), (3, .int p3)] 5 rfl (congrArg (fun z => x.1 + z) (by decide : Int32.ofInt (1) = 1)) (Nat.le_of_ble_eq_true rfl) rfl dX2_gatherWorth_70 ?_
        refine x_goto (tgt := 7) C dX2_gatherWorth_73 (by decide) ?_
        refine x_sub [(0, .ref 202), (1, .ref a1), (2, .int p2), (3, .int p3), (4, .int (x.1 + 1))] [2, 3, 4, 5, 0] rfl ?_
        exact hK7 _ _ h
theorem G2_gatherWorth_L7_ok {p : Program} {e : Env} {s : State} {m : MethodId} {args : Array Value} {below : List Frame} {meth : Method} {c : Code} {l : Launch} {φ : Nat → Nat} {tc : Nat → ClassId} {D : va_G} {s0 : State} {dR : Nat} (C : CX p s m args meth c φ tc D (AX φ) s0 cX2_gatherWorth RX2 6) (hd : G2_gatherWorth_dep ≤ dR) (hr : meth.sig.returnType = none) {a1 : Nat} {p2 : Int32} {p3 : Int32} {Q : MM → Prop}  {x : Int32 × MM} (o_a1 : Ob a1 9)   (h : Lp (G2_gatherWorth_L7 a1 p2 p3 Q) x) : WX p l e (rmX dR) s m args below meth c φ tc D (AX φ) 6 0 0 (MQ below (QX φ tc D (QV Q)) args s 0 0 (AX φ)) 7 [(0, .ref 202), (1, .ref a1), (2, .int p2), (3, .int p3), (4, .int x.1)] [] x.2 := by
  obtain ⟨n, h⟩ := h
  induction n generalizing x with
  | zero => exact h.elim
  | succ n ih => exact G2_gatherWorth_L7_b C hd hr o_a1  (fun z4 zμ hz => by have q := ih hz; exact q) h
set_option maxHeartbeats 4000000 in
set_option maxRecDepth 100000 in
theorem G2_gatherWorth_met {l : Launch} {φ : Nat → Nat} {tc : Nat → ClassId} {D : va_G} {s0 : State} (hG : GX φ tc D s0) {dR : Nat} (hd : G2_gatherWorth_dep ≤ dR) {a1 : Nat} {v2 : Int32} {v3 : Int32} {μ : MM} {Q : MM → Prop} (o_a1 : Ob a1 9) (h : G2_gatherWorth a1 v2 v3 μ Q) : MX l φ tc D s0 dR yX2_gatherWorth cX2_gatherWorth 6 none [.ref 202, .ref a1, .int v2, .int v3] μ (QV Q) := by
  refine MX.of (own := RX2) hG plX2 rfl (Nat.le_of_ble_eq_true rfl) (fun p e s m args below meth c C hr => ?_)
  refine x_sub [(0, .ref 202), (1, .ref a1), (2, .int v2), (3, .int v3)] [0, 1, 2, 3] rfl ?_
  unfold G2_gatherWorth at h
  refine x_aload_n C rfl 1 rfl dX2_gatherWorth_0 ?_
  refine x_callVN (dC := G9_clear_dep) (as := []) (st := []) C rX kX (Nat.le_trans (Nat.le_of_ble_eq_true rfl) hd) (Nat.le_of_ble_eq_true rfl) o_a1.1 o_a1.2 (Nat.le_of_ble_eq_true rfl) rfl ts_3_4 tw_4_32 tw_5_108 tc_4_33 tw_1_7 hyX9 hnX9_clear rfl (Nat.le_of_ble_eq_true rfl) dX2_gatherWorth_1 (G9_clear_met C.2.2.2.2.2.2.2.1 (Nat.le_refl _) o_a1 h) (fun r0 μ8 hq => ?_)
  obtain ⟨rfl, h⟩ := hq
  refine x_st [] rfl ?_
  refine x_iconst (v := 0) C (by decide) dX2_gatherWorth_4 ?_
  refine x_istore C [(4, .int 0), (0, .ref 202), (1, .ref a1), (2, .int v2), (3, .int v3)] (Nat.le_of_ble_eq_true rfl) rfl dX2_gatherWorth_5 ?_
  refine x_sub [(0, .ref 202), (1, .ref a1), (2, .int v2), (3, .int v3), (4, .int 0)] [1, 2, 3, 4, 0] rfl ?_
  exact G2_gatherWorth_L7_ok C hd hr o_a1 h
set_option maxHeartbeats 4000000 in
set_option maxRecDepth 100000 in
theorem G2_tellBoth_L70_b {p : Program} {e : Env} {s : State} {m : MethodId} {args : Array Value} {below : List Frame} {meth : Method} {c : Code} {l : Launch} {φ : Nat → Nat} {tc : Nat → ClassId} {D : va_G} {s0 : State} {dR : Nat} (C : CX p s m args meth c φ tc D (AX φ) s0 cX2_tellBoth RX2 6) (hd : G2_tellBoth_dep ≤ dR) (hr : meth.sig.returnType = (some .int))   {Q : Int32 → MM → Prop} {K70 : Int32 × MM → Prop} {x : Int32 × MM}   (hK70 : ∀ (z4 : Int32) (zμ : MM), K70 (z4, zμ) → WX p l e (rmX dR) s m args below meth c φ tc D (AX φ) 6 0 0 (MQ below (QX φ tc D (QI Q)) args s 0 0 (AX φ)) 70 [(0, .ref 202), (2, .ref 207), (3, .ref 210), (4, .int z4)] [] zμ) (h : G2_tellBoth_L70  Q K70 x) : WX p l e (rmX dR) s m args below meth c φ tc D (AX φ) 6 0 0 (MQ below (QX φ tc D (QI Q)) args s 0 0 (AX φ)) 70 [(0, .ref 202), (2, .ref 207), (3, .ref 210), (4, .int x.1)] [] x.2 := by
  unfold G2_tellBoth_L70 at h
  refine x_iload C 3 rfl dX2_tellBoth_70 ?_
  refine x_iconst (v := 2) C (by decide) dX2_tellBoth_72 ?_
  refine x_icmp_ge (tgt := 142) C dX2_tellBoth_73 (by decide) (fun c44 => ?_) (fun c44 => ?_)
  · have h := h.1 c44
    refine x_aload_n C rfl 1 rfl dX2_tellBoth_142 ?_
    refine x_callVN (dC := G9_asideUpper_dep) (as := []) (st := []) C rX kX (Nat.le_trans (Nat.le_of_ble_eq_true rfl) hd) (Nat.le_of_ble_eq_true rfl) ob207.1 ob207.2 (Nat.le_of_ble_eq_true rfl) rfl ts_3_14 tw_4_79 tw_5_114 tc_4_80 tw_1_7 hyX9 hnX9_asideUpper rfl (Nat.le_of_ble_eq_true rfl) dX2_tellBoth_143 (G9_asideUpper_met C.2.2.2.2.2.2.2.1 (Nat.le_refl _) ob207 h) (fun r0 μ45 hq => ?_)
    obtain ⟨r46, rfl, h⟩ := hq
    refine x_st [.long r46] rfl ?_
    refine x_aload_n C rfl 2 rfl dX2_tellBoth_146 ?_
    refine x_callVN (dC := G9_asideLower_dep) (as := []) (st := [.long r46]) C rX kX (Nat.le_trans (Nat.le_of_ble_eq_true rfl) hd) (Nat.le_of_ble_eq_true rfl) ob210.1 ob210.2 (Nat.le_of_ble_eq_true rfl) rfl ts_3_15 tw_4_83 tw_5_115 tc_4_84 tw_1_7 hyX9 hnX9_asideLower rfl (Nat.le_of_ble_eq_true rfl) dX2_tellBoth_147 (G9_asideLower_met C.2.2.2.2.2.2.2.1 (Nat.le_refl _) ob210 h) (fun r0 μ47 hq => ?_)
    obtain ⟨r48, rfl, h⟩ := hq
    refine x_st [.long r48, .long r46] rfl ?_
    refine x_lmul C dX2_tellBoth_150 ?_
    refine x_aload_n C rfl 2 rfl dX2_tellBoth_151 ?_
    refine x_callVN (dC := G9_asideUpper_dep) (as := []) (st := [.long (r46 * r48)]) C rX kX (Nat.le_trans (Nat.le_of_ble_eq_true rfl) hd) (Nat.le_of_ble_eq_true rfl) ob210.1 ob210.2 (Nat.le_of_ble_eq_true rfl) rfl ts_3_14 tw_4_79 tw_5_114 tc_4_80 tw_1_7 hyX9 hnX9_asideUpper rfl (Nat.le_of_ble_eq_true rfl) dX2_tellBoth_152 (G9_asideUpper_met C.2.2.2.2.2.2.2.1 (Nat.le_refl _) ob210 h) (fun r0 μ49 hq => ?_)
    obtain ⟨r50, rfl, h⟩ := hq
    refine x_st [.long r50, .long (r46 * r48)] rfl ?_
    refine x_aload_n C rfl 1 rfl dX2_tellBoth_155 ?_
    refine x_callVN (dC := G9_asideLower_dep) (as := []) (st := [.long r50, .long (r46 * r48)]) C rX kX (Nat.le_trans (Nat.le_of_ble_eq_true rfl) hd) (Nat.le_of_ble_eq_true rfl) ob207.1 ob207.2 (Nat.le_of_ble_eq_true rfl) rfl ts_3_15 tw_4_83 tw_5_115 tc_4_84 tw_1_7 hyX9 hnX9_asideLower rfl (Nat.le_of_ble_eq_true rfl) dX2_tellBoth_156 (G9_asideLower_met C.2.2.2.2.2.2.2.1 (Nat.le_refl _) ob207 h) (fun r0 μ51 hq => ?_)
    obtain ⟨r52, rfl, h⟩ := hq
    refine x_st [.long r52, .long r50, .long (r46 * r48)] rfl ?_
    refine x_lmul C dX2_tellBoth_159 ?_
    refine x_lsub C dX2_tellBoth_160 ?_
    refine x_topl (fun y53 e_y53 => ?_)
    have h := h y53 e_y53
    refine x_lstore C [(4, .long y53), (0, .ref 202), (2, .ref 207), (3, .ref 210)] (Nat.le_of_ble_eq_true rfl) rfl dX2_tellBoth_161 ?_
    refine x_aload_n C rfl 1 rfl dX2_tellBoth_163 ?_
    refine x_getR (r := 151) C (j := 1) ob202.1 ob202.2 (Nat.le_of_ble_eq_true rfl) (Nat.le_of_ble_eq_true rfl) (fun _ _ _ => rfl) r_202_1 tw_2_93 dX2_tellBoth_164 ?_
    refine x_lload C 0 rfl dX2_tellBoth_167 ?_
    refine x_aload_n C rfl 2 rfl dX2_tellBoth_169 ?_
    refine x_callVN (dC := G9_asideLower_dep) (as := []) (st := [.long y53, .ref 151]) C rX kX (Nat.le_trans (Nat.le_of_ble_eq_true rfl) hd) (Nat.le_of_ble_eq_true rfl) ob207.1 ob207.2 (Nat.le_of_ble_eq_true rfl) rfl ts_3_15 tw_4_83 tw_5_115 tc_4_84 tw_1_7 hyX9 hnX9_asideLower rfl (Nat.le_of_ble_eq_true rfl) dX2_tellBoth_170 (G9_asideLower_met C.2.2.2.2.2.2.2.1 (Nat.le_refl _) ob207 h) (fun r0 μ54 hq => ?_)
    obtain ⟨r55, rfl, h⟩ := hq
    refine x_st [.long r55, .long y53, .ref 151] rfl ?_
    refine x_aload_n C rfl 3 rfl dX2_tellBoth_173 ?_
    refine x_callVN (dC := G9_asideLower_dep) (as := []) (st := [.long r55, .long y53, .ref 151]) C rX kX (Nat.le_trans (Nat.le_of_ble_eq_true rfl) hd) (Nat.le_of_ble_eq_true rfl) ob210.1 ob210.2 (Nat.le_of_ble_eq_true rfl) rfl ts_3_15 tw_4_83 tw_5_115 tc_4_84 tw_1_7 hyX9 hnX9_asideLower rfl (Nat.le_of_ble_eq_true rfl) dX2_tellBoth_174 (G9_asideLower_met C.2.2.2.2.2.2.2.1 (Nat.le_refl _) ob210 h) (fun r0 μ56 hq => ?_)
    obtain ⟨r57, rfl, h⟩ := hq
    refine x_st [.long r57, .long r55, .long y53, .ref 151] rfl ?_
    refine x_lmul C dX2_tellBoth_177 ?_
    refine x_callVN (dC := G7_addFraction_dep) (as := [.long y53, .long (r55 * r57)]) (st := []) C rX kX (Nat.le_trans (Nat.le_of_ble_eq_true rfl) hd) (Nat.le_of_ble_eq_true rfl) ob151.1 ob151.2 (Nat.le_of_ble_eq_true rfl) rfl ts_3_10 tw_4_56 tw_5_116 tc_4_57 tw_1_5 hyX7 hnX7_addFraction rfl (Nat.le_of_ble_eq_true rfl) dX2_tellBoth_178 (G7_addFraction_met C.2.2.2.2.2.2.2.1 (Nat.le_refl _)  h) (fun r0 μ58 hq => ?_)
    obtain ⟨rfl, h⟩ := hq
    refine x_st [] rfl ?_
    refine x_lload C 0 rfl dX2_tellBoth_181 ?_
    refine x_lconst (v := 0) C (by decide) dX2_tellBoth_183 ?_
    refine x_lcmp C dX2_tellBoth_184 ?_
    refine x_if_le (tgt := 192) C dX2_tellBoth_185 (by decide) (fun c59 => ?_) (fun c59 => ?_)
    · have h := h.1 c59
      refine x_lload C 0 rfl dX2_tellBoth_192 ?_
      refine x_lconst (v := 0) C (by decide) dX2_tellBoth_194 ?_
      refine x_lcmp C dX2_tellBoth_195 ?_
      refine x_if_ge (tgt := 203) C dX2_tellBoth_196 (by decide) (fun c60 => ?_) (fun c60 => ?_)
      · have h := h.1 c60
        refine x_iconst (v := 0) C (by decide) dX2_tellBoth_203 ?_
        exact x_iret C hr dX2_tellBoth_204 ⟨_, rfl, h⟩
      · have h := h.2 c60
        refine x_iconst (v := 2) C (by decide) dX2_tellBoth_199 ?_
        refine x_goto (tgt := 204) C dX2_tellBoth_200 (by decide) ?_
        exact x_iret C hr dX2_tellBoth_204 ⟨_, rfl, h⟩
    · have h := h.2 c59
      refine x_iconst (v := 1) C (by decide) dX2_tellBoth_188 ?_
      refine x_goto (tgt := 204) C dX2_tellBoth_189 (by decide) ?_
      exact x_iret C hr dX2_tellBoth_204 ⟨_, rfl, h⟩
  · have h := h.2 c44
    refine x_aload_n C rfl 0 rfl dX2_tellBoth_76 ?_
    refine x_getR (r := 151) C (j := 1) ob202.1 ob202.2 (Nat.le_of_ble_eq_true rfl) (Nat.le_of_ble_eq_true rfl) (fun _ _ _ => rfl) r_202_1 tw_2_93 dX2_tellBoth_77 ?_
    refine x_aload_n C rfl 1 rfl dX2_tellBoth_80 ?_
    refine x_getRN (r := 209) C (j := 1) ob207.1 ob207.2 (Nat.le_of_ble_eq_true rfl) (Nat.le_of_ble_eq_true rfl) (fun _ _ _ => rfl) r_207_1 tw_1_237 dX2_tellBoth_81 ?_
    refine x_iload C 3 rfl dX2_tellBoth_84 ?_
    obtain ⟨c61, h⟩ := h
    refine x_iald C ob209.1 ob209.2 c61 rfl dX2_tellBoth_86 ?_
    refine x_i2l C dX2_tellBoth_87 ?_
    refine x_callVN (dC := G7_add_dep) (as := [.long ((gI x.2 209 x.1.toNatClampNeg).toInt64)]) (st := []) C rX kX (Nat.le_trans (Nat.le_of_ble_eq_true rfl) hd) (Nat.le_of_ble_eq_true rfl) ob151.1 ob151.2 (Nat.le_of_ble_eq_true rfl) rfl ts_3_11 tw_4_63 tw_5_113 tc_4_64 tw_1_5 hyX7 hnX7_add rfl (Nat.le_of_ble_eq_true rfl) dX2_tellBoth_88 (G7_add_met C.2.2.2.2.2.2.2.1 (Nat.le_refl _)  h) (fun r0 μ62 hq => ?_)
    obtain ⟨rfl, h⟩ := hq
    refine x_st [] rfl ?_
    refine x_aload_n C rfl 0 rfl dX2_tellBoth_91 ?_
    refine x_getR (r := 151) C (j := 1) ob202.1 ob202.2 (Nat.le_of_ble_eq_true rfl) (Nat.le_of_ble_eq_true rfl) (fun _ _ _ => rfl) r_202_1 tw_2_93 dX2_tellBoth_92 ?_
    refine x_aload_n C rfl 1 rfl dX2_tellBoth_95 ?_
    refine x_getRN (r := 208) C (j := 0) ob207.1 ob207.2 (Nat.le_of_ble_eq_true rfl) (Nat.le_of_ble_eq_true rfl) (fun _ _ _ => rfl) r_207_0 tw_1_234 dX2_tellBoth_96 ?_
    refine x_iload C 3 rfl dX2_tellBoth_99 ?_
    obtain ⟨c63, h⟩ := h
    refine x_iald C ob208.1 ob208.2 c63 rfl dX2_tellBoth_101 ?_
    refine x_i2l C dX2_tellBoth_102 ?_
    refine x_callVN (dC := G7_add_dep) (as := [.long ((gI μ62 208 x.1.toNatClampNeg).toInt64)]) (st := []) C rX kX (Nat.le_trans (Nat.le_of_ble_eq_true rfl) hd) (Nat.le_of_ble_eq_true rfl) ob151.1 ob151.2 (Nat.le_of_ble_eq_true rfl) rfl ts_3_11 tw_4_63 tw_5_113 tc_4_64 tw_1_5 hyX7 hnX7_add rfl (Nat.le_of_ble_eq_true rfl) dX2_tellBoth_103 (G7_add_met C.2.2.2.2.2.2.2.1 (Nat.le_refl _)  h) (fun r0 μ64 hq => ?_)
    obtain ⟨rfl, h⟩ := hq
    refine x_st [] rfl ?_
    refine x_aload_n C rfl 0 rfl dX2_tellBoth_106 ?_
    refine x_getR (r := 151) C (j := 1) ob202.1 ob202.2 (Nat.le_of_ble_eq_true rfl) (Nat.le_of_ble_eq_true rfl) (fun _ _ _ => rfl) r_202_1 tw_2_93 dX2_tellBoth_107 ?_
    refine x_aload_n C rfl 2 rfl dX2_tellBoth_110 ?_
    refine x_getRN (r := 212) C (j := 1) ob210.1 ob210.2 (Nat.le_of_ble_eq_true rfl) (Nat.le_of_ble_eq_true rfl) (fun _ _ _ => rfl) r_210_1 tw_1_237 dX2_tellBoth_111 ?_
    refine x_iload C 3 rfl dX2_tellBoth_114 ?_
    obtain ⟨c65, h⟩ := h
    refine x_iald C ob212.1 ob212.2 c65 rfl dX2_tellBoth_116 ?_
    refine x_i2l C dX2_tellBoth_117 ?_
    refine x_callVN (dC := G7_add_dep) (as := [.long ((gI μ64 212 x.1.toNatClampNeg).toInt64)]) (st := []) C rX kX (Nat.le_trans (Nat.le_of_ble_eq_true rfl) hd) (Nat.le_of_ble_eq_true rfl) ob151.1 ob151.2 (Nat.le_of_ble_eq_true rfl) rfl ts_3_11 tw_4_63 tw_5_113 tc_4_64 tw_1_5 hyX7 hnX7_add rfl (Nat.le_of_ble_eq_true rfl) dX2_tellBoth_118 (G7_add_met C.2.2.2.2.2.2.2.1 (Nat.le_refl _)  h) (fun r0 μ66 hq => ?_)
    obtain ⟨rfl, h⟩ := hq
    refine x_st [] rfl ?_
    refine x_aload_n C rfl 0 rfl dX2_tellBoth_121 ?_
    refine x_getR (r := 151) C (j := 1) ob202.1 ob202.2 (Nat.le_of_ble_eq_true rfl) (Nat.le_of_ble_eq_true rfl) (fun _ _ _ => rfl) r_202_1 tw_2_93 dX2_tellBoth_122 ?_
    refine x_aload_n C rfl 2 rfl dX2_tellBoth_125 ?_
    refine x_getRN (r := 211) C (j := 0) ob210.1 ob210.2 (Nat.le_of_ble_eq_true rfl) (Nat.le_of_ble_eq_true rfl) (fun _ _ _ => rfl) r_210_0 tw_1_234 dX2_tellBoth_126 ?_
    refine x_iload C 3 rfl dX2_tellBoth_129 ?_
    obtain ⟨c67, h⟩ := h
    refine x_iald C ob211.1 ob211.2 c67 rfl dX2_tellBoth_131 ?_
    refine x_i2l C dX2_tellBoth_132 ?_
    refine x_callVN (dC := G7_add_dep) (as := [.long ((gI μ66 211 x.1.toNatClampNeg).toInt64)]) (st := []) C rX kX (Nat.le_trans (Nat.le_of_ble_eq_true rfl) hd) (Nat.le_of_ble_eq_true rfl) ob151.1 ob151.2 (Nat.le_of_ble_eq_true rfl) rfl ts_3_11 tw_4_63 tw_5_113 tc_4_64 tw_1_5 hyX7 hnX7_add rfl (Nat.le_of_ble_eq_true rfl) dX2_tellBoth_133 (G7_add_met C.2.2.2.2.2.2.2.1 (Nat.le_refl _)  h) (fun r0 μ68 hq => ?_)
    obtain ⟨rfl, h⟩ := hq
    refine x_st [] rfl ?_
    refine x_iinc (v := (x.1 + 1)) C [(4, .int (x.1 + 1)), (0, .ref 202), (2, .ref 207), (3, .ref 210)] 3 rfl (congrArg (fun z => x.1 + z) (by decide : Int32.ofInt (1) = 1)) (Nat.le_of_ble_eq_true rfl) rfl dX2_tellBoth_136 ?_
    refine x_goto (tgt := 70) C dX2_tellBoth_139 (by decide) ?_
    refine x_sub [(0, .ref 202), (2, .ref 207), (3, .ref 210), (4, .int (x.1 + 1))] [1, 2, 3, 0] rfl ?_
    exact hK70 _ _ h
theorem G2_tellBoth_L70_ok {p : Program} {e : Env} {s : State} {m : MethodId} {args : Array Value} {below : List Frame} {meth : Method} {c : Code} {l : Launch} {φ : Nat → Nat} {tc : Nat → ClassId} {D : va_G} {s0 : State} {dR : Nat} (C : CX p s m args meth c φ tc D (AX φ) s0 cX2_tellBoth RX2 6) (hd : G2_tellBoth_dep ≤ dR) (hr : meth.sig.returnType = (some .int))   {Q : Int32 → MM → Prop}  {x : Int32 × MM}    (h : Lp (G2_tellBoth_L70  Q) x) : WX p l e (rmX dR) s m args below meth c φ tc D (AX φ) 6 0 0 (MQ below (QX φ tc D (QI Q)) args s 0 0 (AX φ)) 70 [(0, .ref 202), (2, .ref 207), (3, .ref 210), (4, .int x.1)] [] x.2 := by
  obtain ⟨n, h⟩ := h
  induction n generalizing x with
  | zero => exact h.elim
  | succ n ih => exact G2_tellBoth_L70_b C hd hr   (fun z4 zμ hz => by have q := ih hz; exact q) h
set_option maxHeartbeats 4000000 in
set_option maxRecDepth 100000 in
theorem G2_tellBoth_met {l : Launch} {φ : Nat → Nat} {tc : Nat → ClassId} {D : va_G} {s0 : State} (hG : GX φ tc D s0) {dR : Nat} (hd : G2_tellBoth_dep ≤ dR) {v1 : Int32} {μ : MM} {Q : Int32 → MM → Prop}  (h : G2_tellBoth v1 μ Q) : MX l φ tc D s0 dR yX2_tellBoth cX2_tellBoth 6 (some .int) [.ref 202, .int v1] μ (QI Q) := by
  refine MX.of (own := RX2) hG plX2 rfl (Nat.le_of_ble_eq_true rfl) (fun p e s m args below meth c C hr => ?_)
  refine x_sub [(0, .ref 202), (1, .int v1)] [0, 1] rfl ?_
  unfold G2_tellBoth at h
  refine x_iload_n C rfl 1 rfl dX2_tellBoth_0 ?_
  refine x_iconst (v := 1) C (by decide) dX2_tellBoth_1 ?_
  refine x_bipush (v := 99) C (by decide) dX2_tellBoth_2 ?_
  refine x_callSN (dC := G11_within_dep) (as := [.int v1, .int 1, .int 99]) (st := []) C rX kX (Nat.le_trans (Nat.le_of_ble_eq_true rfl) hd) (Nat.le_of_ble_eq_true rfl) tw_2_196 tw_5_103 tc_2_197 tw_1_1 hyX11 hnX11_within rfl (Nat.le_of_ble_eq_true rfl) dX2_tellBoth_4 (G11_within_met C.2.2.2.2.2.2.2.1 (Nat.le_refl _)  h) (fun r0 μ32 hq => ?_)
  obtain ⟨r33, rfl, h⟩ := hq
  refine x_st [.int r33] rfl ?_
  refine x_if_ne (tgt := 12) C dX2_tellBoth_7 (by decide) (fun c34 => ?_) (fun c34 => ?_)
  · have h := h.1 c34
    refine x_aload_n C rfl 0 rfl dX2_tellBoth_12 ?_
    refine x_getR (r := 206) C (j := 3) ob202.1 ob202.2 (Nat.le_of_ble_eq_true rfl) (Nat.le_of_ble_eq_true rfl) (fun _ _ _ => rfl) r_202_3 tw_2_95 dX2_tellBoth_13 ?_
    refine x_iconst (v := 0) C (by decide) dX2_tellBoth_16 ?_
    refine x_aald (r := 207) C ob206.1 (by decide) (by decide) (by unfold vp_in; decide) (j := 0) (by decide) (r_206_0) dX2_tellBoth_17 ?_
    refine x_astore_n C [(2, .ref 207), (0, .ref 202), (1, .int v1)] rfl (Nat.le_of_ble_eq_true rfl) rfl dX2_tellBoth_18 ?_
    refine x_aload_n C rfl 1 rfl dX2_tellBoth_19 ?_
    refine x_getR (r := 206) C (j := 3) ob202.1 ob202.2 (Nat.le_of_ble_eq_true rfl) (Nat.le_of_ble_eq_true rfl) (fun _ _ _ => rfl) r_202_3 tw_2_95 dX2_tellBoth_20 ?_
    refine x_iconst (v := 1) C (by decide) dX2_tellBoth_23 ?_
    refine x_aald (r := 210) C ob206.1 (by decide) (by decide) (by unfold vp_in; decide) (j := 1) (by decide) (r_206_1) dX2_tellBoth_24 ?_
    refine x_astore_n C [(3, .ref 210), (2, .ref 207), (0, .ref 202), (1, .int v1)] rfl (Nat.le_of_ble_eq_true rfl) rfl dX2_tellBoth_25 ?_
    refine x_aload_n C rfl 2 rfl dX2_tellBoth_26 ?_
    refine x_aload_n C rfl 1 rfl dX2_tellBoth_27 ?_
    refine x_iload_n C rfl 3 rfl dX2_tellBoth_28 ?_
    refine x_bipush (v := 99) C (by decide) dX2_tellBoth_29 ?_
    refine x_callV (dC := G2_gatherWorth_dep) (as := [.ref 207, .int v1, .int 99]) (st := []) C rX kX (Nat.le_trans (Nat.le_of_ble_eq_true rfl) hd) (Nat.le_of_ble_eq_true rfl) ob202.1 ob202.2 (Nat.le_of_ble_eq_true rfl) rfl ts_6_8 tw_5_106 tw_5_104 tc_5_107 tw_1_10 hyX2 hnX2_gatherWorth rfl (Nat.le_of_ble_eq_true rfl) dX2_tellBoth_31 (G2_gatherWorth_met C.2.2.2.2.2.2.2.1 (Nat.le_refl _) ob207 h) (fun r0 μ35 hq => ?_)
    obtain ⟨rfl, h⟩ := hq
    refine x_st [] rfl ?_
    refine x_aload_n C rfl 2 rfl dX2_tellBoth_34 ?_
    refine x_aload_n C rfl 0 rfl dX2_tellBoth_35 ?_
    refine x_iconst (v := 0) C (by decide) dX2_tellBoth_36 ?_
    refine x_iload_n C rfl 3 rfl dX2_tellBoth_37 ?_
    refine x_iconst (v := 1) C (by decide) dX2_tellBoth_38 ?_
    refine x_isub C dX2_tellBoth_39 ?_
    refine x_callV (dC := G2_gatherWorth_dep) (as := [.ref 210, .int 0, .int (v1 - 1)]) (st := []) C rX kX (Nat.le_trans (Nat.le_of_ble_eq_true rfl) hd) (Nat.le_of_ble_eq_true rfl) ob202.1 ob202.2 (Nat.le_of_ble_eq_true rfl) rfl ts_6_8 tw_5_106 tw_5_104 tc_5_107 tw_1_10 hyX2 hnX2_gatherWorth rfl (Nat.le_of_ble_eq_true rfl) dX2_tellBoth_40 (G2_gatherWorth_met C.2.2.2.2.2.2.2.1 (Nat.le_refl _) ob210 h) (fun r0 μ36 hq => ?_)
    obtain ⟨rfl, h⟩ := hq
    refine x_st [] rfl ?_
    refine x_aload_n C rfl 1 rfl dX2_tellBoth_43 ?_
    refine x_callVN (dC := G9_hasBoth_dep) (as := []) (st := []) C rX kX (Nat.le_trans (Nat.le_of_ble_eq_true rfl) hd) (Nat.le_of_ble_eq_true rfl) ob207.1 ob207.2 (Nat.le_of_ble_eq_true rfl) rfl ts_3_13 tw_4_75 tw_5_111 tc_4_76 tw_1_7 hyX9 hnX9_hasBoth rfl (Nat.le_of_ble_eq_true rfl) dX2_tellBoth_44 (G9_hasBoth_met C.2.2.2.2.2.2.2.1 (Nat.le_refl _) ob207 h) (fun r0 μ37 hq => ?_)
    obtain ⟨r38, rfl, h⟩ := hq
    refine x_st [.int r38] rfl ?_
    refine x_if_eq (tgt := 57) C dX2_tellBoth_47 (by decide) (fun c39 => ?_) (fun c39 => ?_)
    · have h := h.1 c39
      refine x_bipush (v := (-2)) C (by decide) dX2_tellBoth_57 ?_
      exact x_iret C hr dX2_tellBoth_59 ⟨_, rfl, h⟩
    · have h := h.2 c39
      refine x_aload_n C rfl 0 rfl dX2_tellBoth_50 ?_
      refine x_callVN (dC := G9_hasBoth_dep) (as := []) (st := []) C rX kX (Nat.le_trans (Nat.le_of_ble_eq_true rfl) hd) (Nat.le_of_ble_eq_true rfl) ob210.1 ob210.2 (Nat.le_of_ble_eq_true rfl) rfl ts_3_13 tw_4_75 tw_5_111 tc_4_76 tw_1_7 hyX9 hnX9_hasBoth rfl (Nat.le_of_ble_eq_true rfl) dX2_tellBoth_51 (G9_hasBoth_met C.2.2.2.2.2.2.2.1 (Nat.le_refl _) ob210 h) (fun r0 μ40 hq => ?_)
      obtain ⟨r41, rfl, h⟩ := hq
      refine x_st [.int r41] rfl ?_
      refine x_if_ne (tgt := 60) C dX2_tellBoth_54 (by decide) (fun c42 => ?_) (fun c42 => ?_)
      · have h := h.1 c42
        refine x_aload_n C rfl 2 rfl dX2_tellBoth_60 ?_
        refine x_getR (r := 151) C (j := 1) ob202.1 ob202.2 (Nat.le_of_ble_eq_true rfl) (Nat.le_of_ble_eq_true rfl) (fun _ _ _ => rfl) r_202_1 tw_2_93 dX2_tellBoth_61 ?_
        refine x_callVN (dC := G7_clear_dep) (as := []) (st := []) C rX kX (Nat.le_trans (Nat.le_of_ble_eq_true rfl) hd) (Nat.le_of_ble_eq_true rfl) ob151.1 ob151.2 (Nat.le_of_ble_eq_true rfl) rfl ts_3_8 tw_4_48 tw_5_112 tc_4_49 tw_1_5 hyX7 hnX7_clear rfl (Nat.le_of_ble_eq_true rfl) dX2_tellBoth_64 (G7_clear_met C.2.2.2.2.2.2.2.1 (Nat.le_refl _)  h) (fun r0 μ43 hq => ?_)
        obtain ⟨rfl, h⟩ := hq
        refine x_st [] rfl ?_
        refine x_iconst (v := 0) C (by decide) dX2_tellBoth_67 ?_
        refine x_istore C [(4, .int 0), (3, .ref 210), (2, .ref 207), (0, .ref 202), (1, .int v1)] (Nat.le_of_ble_eq_true rfl) rfl dX2_tellBoth_68 ?_
        refine x_sub [(0, .ref 202), (2, .ref 207), (3, .ref 210), (4, .int 0)] [3, 2, 1, 0] rfl ?_
        exact G2_tellBoth_L70_ok C hd hr  h
      · have h := h.2 c42
        refine x_bipush (v := (-2)) C (by decide) dX2_tellBoth_57 ?_
        exact x_iret C hr dX2_tellBoth_59 ⟨_, rfl, h⟩
  · have h := h.2 c34
    refine x_iconst (v := (-1)) C (by decide) dX2_tellBoth_10 ?_
    exact x_iret C hr dX2_tellBoth_11 ⟨_, rfl, h⟩
set_option maxHeartbeats 4000000 in
set_option maxRecDepth 100000 in
theorem G11_both_met {l : Launch} {φ : Nat → Nat} {tc : Nat → ClassId} {D : va_G} {s0 : State} (hG : GX φ tc D s0) {dR : Nat} (hd : G11_both_dep ≤ dR) {v1 : Int32} {μ : MM} {Q : Int32 → MM → Prop}  (h : G11_both v1 μ Q) : MX l φ tc D s0 dR yX11_both cX11_both 2 (some .int) [.ref 0, .int v1] μ (QI Q) := by
  refine MX.of (own := RX11) hG plX11 rfl (Nat.le_of_ble_eq_true rfl) (fun p e s m args below meth c C hr => ?_)
  refine x_sub [(0, .ref 0), (1, .int v1)] [0, 1] rfl ?_
  unfold G11_both at h
  refine x_aload_n C rfl 0 rfl dX11_both_0 ?_
  refine x_getR (r := 202) C (j := 4) ob0.1 ob0.2 (Nat.le_of_ble_eq_true rfl) (Nat.le_of_ble_eq_true rfl) (fun _ _ _ => rfl) r_0_4 tw_2_167 dX11_both_1 ?_
  refine x_iload_n C rfl 1 rfl dX11_both_4 ?_
  refine x_callVN (dC := G2_tellBoth_dep) (as := [.int v1]) (st := []) C rX kX (Nat.le_trans (Nat.le_of_ble_eq_true rfl) hd) (Nat.le_of_ble_eq_true rfl) ob202.1 ob202.2 (Nat.le_of_ble_eq_true rfl) rfl ts_6_7 tw_5_101 tw_5_99 tc_5_102 tw_1_10 hyX2 hnX2_tellBoth rfl (Nat.le_of_ble_eq_true rfl) dX11_both_5 (G2_tellBoth_met C.2.2.2.2.2.2.2.1 (Nat.le_refl _)  h) (fun r0 μ3 hq => ?_)
  obtain ⟨r4, rfl, h⟩ := hq
  refine x_st [.int r4] rfl ?_
  exact x_iret C hr dX11_both_8 ⟨_, rfl, h⟩
set_option maxHeartbeats 4000000 in
set_option maxRecDepth 100000 in
theorem G2_valueOf_met {l : Launch} {φ : Nat → Nat} {tc : Nat → ClassId} {D : va_G} {s0 : State} (hG : GX φ tc D s0) {dR : Nat} (hd : G2_valueOf_dep ≤ dR) {a1 : Nat} {v2 : Int32} {μ : MM} {Q : Int32 → MM → Prop} (o_a1 : Ob a1 5) (h : G2_valueOf a1 v2 μ Q) : MX l φ tc D s0 dR yX2_valueOf cX2_valueOf 3 (some .int) [.ref 202, .ref a1, .int v2] μ (QI Q) := by
  refine MX.of (own := RX2) hG plX2 rfl (Nat.le_of_ble_eq_true rfl) (fun p e s m args below meth c C hr => ?_)
  refine x_sub [(0, .ref 202), (1, .ref a1), (2, .int v2)] [0, 1, 2] rfl ?_
  unfold G2_valueOf at h
  refine x_iload_n C rfl 2 rfl dX2_valueOf_0 ?_
  by_cases c3 : v2 = 0
  · have h := h.1 c3
    refine x_tIn (tgt := 28) C dX2_valueOf_1 (by rw [c3]; decide) (by rw [c3]; decide) (by rw [c3]; rfl) (by decide) ?_
    refine x_aload_n C rfl 1 rfl dX2_valueOf_28 ?_
    refine x_getIN C (j := 4) o_a1.1 o_a1.2 (Nat.le_of_ble_eq_true rfl) (Nat.le_of_ble_eq_true rfl) (Or.inl rfl) tw_1_64 dX2_valueOf_29 ?_
    exact x_iret C hr dX2_valueOf_32 ⟨_, rfl, h⟩
  have h := h.2
  by_cases c4 : v2 = 1
  · have h := h.1 c4
    refine x_tIn (tgt := 33) C dX2_valueOf_1 (by rw [c4]; decide) (by rw [c4]; decide) (by rw [c4]; rfl) (by decide) ?_
    refine x_aload_n C rfl 0 rfl dX2_valueOf_33 ?_
    refine x_getR (r := 1) C (j := 0) ob202.1 ob202.2 (Nat.le_of_ble_eq_true rfl) (Nat.le_of_ble_eq_true rfl) (fun _ _ _ => rfl) r_202_0 tw_2_92 dX2_valueOf_34 ?_
    refine x_getRN (r := 6) C (j := 5) ob1.1 ob1.2 (Nat.le_of_ble_eq_true rfl) (Nat.le_of_ble_eq_true rfl) (fun _ _ _ => rfl) r_1_5 tw_1_134 dX2_valueOf_37 ?_
    refine x_aload_n C rfl 1 rfl dX2_valueOf_40 ?_
    refine x_getIN C (j := 0) o_a1.1 o_a1.2 (Nat.le_of_ble_eq_true rfl) (Nat.le_of_ble_eq_true rfl) (Or.inl rfl) tw_1_51 dX2_valueOf_41 ?_
    obtain ⟨c5, h⟩ := h
    refine x_iald C ob6.1 ob6.2 c5 rfl dX2_valueOf_44 ?_
    exact x_iret C hr dX2_valueOf_45 ⟨_, rfl, h⟩
  have h := h.2
  by_cases c6 : v2 = 2
  · have h := h.1 c6
    refine x_tIn (tgt := 46) C dX2_valueOf_1 (by rw [c6]; decide) (by rw [c6]; decide) (by rw [c6]; rfl) (by decide) ?_
    refine x_aload_n C rfl 0 rfl dX2_valueOf_46 ?_
    refine x_getR (r := 1) C (j := 0) ob202.1 ob202.2 (Nat.le_of_ble_eq_true rfl) (Nat.le_of_ble_eq_true rfl) (fun _ _ _ => rfl) r_202_0 tw_2_92 dX2_valueOf_47 ?_
    refine x_getRN (r := 7) C (j := 6) ob1.1 ob1.2 (Nat.le_of_ble_eq_true rfl) (Nat.le_of_ble_eq_true rfl) (fun _ _ _ => rfl) r_1_6 tw_1_136 dX2_valueOf_50 ?_
    refine x_aload_n C rfl 1 rfl dX2_valueOf_53 ?_
    refine x_getIN C (j := 0) o_a1.1 o_a1.2 (Nat.le_of_ble_eq_true rfl) (Nat.le_of_ble_eq_true rfl) (Or.inl rfl) tw_1_51 dX2_valueOf_54 ?_
    obtain ⟨c7, h⟩ := h
    refine x_iald C ob7.1 ob7.2 c7 rfl dX2_valueOf_57 ?_
    exact x_iret C hr dX2_valueOf_58 ⟨_, rfl, h⟩
  have h := h.2
  have h := h c3 c4 c6
  have n_c3 := lv_neT (a := 0) c3 (by decide)
  have n_c4 := lv_neT (a := 1) c4 (by decide)
  have n_c6 := lv_neT (a := 2) c6 (by decide)
  refine x_tOut (tgt := 59) C dX2_valueOf_1 (by omega) (by decide) ?_
  refine x_aload_n C rfl 1 rfl dX2_valueOf_59 ?_
  refine x_getIN C (j := 3) o_a1.1 o_a1.2 (Nat.le_of_ble_eq_true rfl) (Nat.le_of_ble_eq_true rfl) (Or.inl rfl) tw_1_61 dX2_valueOf_60 ?_
  exact x_iret C hr dX2_valueOf_63 ⟨_, rfl, h⟩
set_option maxHeartbeats 4000000 in
set_option maxRecDepth 100000 in
theorem G2_gatherBy_L32_b {p : Program} {e : Env} {s : State} {m : MethodId} {args : Array Value} {below : List Frame} {meth : Method} {c : Code} {l : Launch} {φ : Nat → Nat} {tc : Nat → ClassId} {D : va_G} {s0 : State} {dR : Nat} (C : CX p s m args meth c φ tc D (AX φ) s0 cX2_gatherBy RX2 4) (hd : G2_gatherBy_dep ≤ dR) (hr : meth.sig.returnType = none)  {p1 : Int32} {Q : MM → Prop} {K32 : Int32 × MM → Prop} {x : Int32 × MM}   (hK32 : ∀ (z2 : Int32) (zμ : MM), K32 (z2, zμ) → WX p l e (rmX dR) s m args below meth c φ tc D (AX φ) 4 0 0 (MQ below (QX φ tc D (QV Q)) args s 0 0 (AX φ)) 32 [(0, .ref 202), (1, .int p1), (2, .int z2)] [] zμ) (h : G2_gatherBy_L32 p1 Q K32 x) : WX p l e (rmX dR) s m args below meth c φ tc D (AX φ) 4 0 0 (MQ below (QX φ tc D (QV Q)) args s 0 0 (AX φ)) 32 [(0, .ref 202), (1, .int p1), (2, .int x.1)] [] x.2 := by
  unfold G2_gatherBy_L32 at h
  refine x_iload_n C rfl 2 rfl dX2_gatherBy_32 ?_
  refine x_aload_n C rfl 0 rfl dX2_gatherBy_33 ?_
  refine x_getR (r := 1) C (j := 0) ob202.1 ob202.2 (Nat.le_of_ble_eq_true rfl) (Nat.le_of_ble_eq_true rfl) (fun _ _ _ => rfl) r_202_0 tw_2_92 dX2_gatherBy_34 ?_
  refine x_getIN C (j := 10) ob1.1 ob1.2 (Nat.le_of_ble_eq_true rfl) (Nat.le_of_ble_eq_true rfl) (Or.inl rfl) tw_1_152 dX2_gatherBy_37 ?_
  refine x_icmp_ge (tgt := 111) C dX2_gatherBy_40 (by decide) (fun c16 => ?_) (fun c16 => ?_)
  · have h := h.1 c16
    exact x_vret C hr dX2_gatherBy_111 ⟨rfl, h⟩
  · have h := h.2 c16
    refine x_aload_n C rfl 0 rfl dX2_gatherBy_43 ?_
    refine x_getR (r := 1) C (j := 0) ob202.1 ob202.2 (Nat.le_of_ble_eq_true rfl) (Nat.le_of_ble_eq_true rfl) (fun _ _ _ => rfl) r_202_0 tw_2_92 dX2_gatherBy_44 ?_
    refine x_getRN (r := 9) C (j := 9) ob1.1 ob1.2 (Nat.le_of_ble_eq_true rfl) (Nat.le_of_ble_eq_true rfl) (fun _ _ _ => rfl) r_1_9 tw_1_147 dX2_gatherBy_47 ?_
    refine x_iload_n C rfl 2 rfl dX2_gatherBy_50 ?_
    obtain ⟨c17, h⟩ := h
    refine x_aald (r := (19 + x.1.toNatClampNeg)) C ob9.1 (by decide) (by decide) c17 rfl (rA9 c17) dX2_gatherBy_51 ?_
    refine x_astore_n C [(3, .ref (19 + x.1.toNatClampNeg)), (0, .ref 202), (1, .int p1), (2, .int x.1)] rfl (Nat.le_of_ble_eq_true rfl) rfl dX2_gatherBy_52 ?_
    refine x_aload_n C rfl 0 rfl dX2_gatherBy_53 ?_
    refine x_getIN C (j := 6) (obA9 c17).1 (obA9 c17).2 (Nat.le_of_ble_eq_true rfl) (Nat.le_of_ble_eq_true rfl) (Or.inr rfl) tw_1_71 dX2_gatherBy_54 ?_
    refine x_if_eq (tgt := 105) C dX2_gatherBy_57 (by decide) (fun c18 => ?_) (fun c18 => ?_)
    · have h := h.1 c18
      refine x_iinc (v := (x.1 + 1)) C [(2, .int (x.1 + 1)), (3, .ref (19 + x.1.toNatClampNeg)), (0, .ref 202), (1, .int p1)] 3 rfl (congrArg (fun z => x.1 + z) (by decide : Int32.ofInt (1) = 1)) (Nat.le_of_ble_eq_true rfl) rfl dX2_gatherBy_105 ?_
      refine x_goto (tgt := 32) C dX2_gatherBy_108 (by decide) ?_
      refine x_sub [(0, .ref 202), (1, .int p1), (2, .int (x.1 + 1))] [2, 3, 0] rfl ?_
      exact hK32 _ _ h
    · have h := h.2 c18
      refine x_aload_n C rfl 1 rfl dX2_gatherBy_60 ?_
      refine x_getR (r := 203) C (j := 2) ob202.1 ob202.2 (Nat.le_of_ble_eq_true rfl) (Nat.le_of_ble_eq_true rfl) (fun _ _ _ => rfl) r_202_2 tw_2_94 dX2_gatherBy_61 ?_
      refine x_aload_n C rfl 1 rfl dX2_gatherBy_64 ?_
      refine x_getR (r := 1) C (j := 0) ob202.1 ob202.2 (Nat.le_of_ble_eq_true rfl) (Nat.le_of_ble_eq_true rfl) (fun _ _ _ => rfl) r_202_0 tw_2_92 dX2_gatherBy_65 ?_
      refine x_aload_n C rfl 0 rfl dX2_gatherBy_68 ?_
      refine x_callVN (dC := G10_peopleOf_dep) (as := [.ref (19 + x.1.toNatClampNeg)]) (st := [.ref 203]) C rX kX (Nat.le_trans (Nat.le_of_ble_eq_true rfl) hd) (Nat.le_of_ble_eq_true rfl) ob1.1 ob1.2 (Nat.le_of_ble_eq_true rfl) rfl ts_3_6 tw_4_40 tw_5_109 tc_4_41 tw_1_2 hyX10 hnX10_peopleOf rfl (Nat.le_of_ble_eq_true rfl) dX2_gatherBy_69 (G10_peopleOf_met C.2.2.2.2.2.2.2.1 (Nat.le_refl _) (obA9 c17) h) (fun r0 μ19 hq => ?_)
      obtain ⟨r20, rfl, h⟩ := hq
      refine x_st [.int r20, .ref 203] rfl ?_
      refine x_aload_n C rfl 0 rfl dX2_gatherBy_72 ?_
      refine x_getIN C (j := 7) (obA9 c17).1 (obA9 c17).2 (Nat.le_of_ble_eq_true rfl) (Nat.le_of_ble_eq_true rfl) (Or.inr rfl) tw_1_78 dX2_gatherBy_73 ?_
      refine x_callVN (dC := G9_note_dep) (as := [.int r20, .int (gI μ19 (19 + x.1.toNatClampNeg) 7)]) (st := []) C rX kX (Nat.le_trans (Nat.le_of_ble_eq_true rfl) hd) (Nat.le_of_ble_eq_true rfl) ob203.1 ob203.2 (Nat.le_of_ble_eq_true rfl) rfl ts_3_7 tw_4_44 tw_5_110 tc_4_45 tw_1_7 hyX9 hnX9_note rfl (Nat.le_of_ble_eq_true rfl) dX2_gatherBy_76 (G9_note_met C.2.2.2.2.2.2.2.1 (Nat.le_refl _) ob203 h) (fun r0 μ21 hq => ?_)
      obtain ⟨rfl, h⟩ := hq
      refine x_st [] rfl ?_
      refine x_aload_n C rfl 1 rfl dX2_gatherBy_79 ?_
      refine x_getR (r := 206) C (j := 3) ob202.1 ob202.2 (Nat.le_of_ble_eq_true rfl) (Nat.le_of_ble_eq_true rfl) (fun _ _ _ => rfl) r_202_3 tw_2_95 dX2_gatherBy_80 ?_
      refine x_aload_n C rfl 1 rfl dX2_gatherBy_83 ?_
      refine x_aload_n C rfl 0 rfl dX2_gatherBy_84 ?_
      refine x_iload_n C rfl 2 rfl dX2_gatherBy_85 ?_
      refine x_callV (dC := G2_valueOf_dep) (as := [.ref (19 + x.1.toNatClampNeg), .int p1]) (st := [.ref 206]) C rX kX (Nat.le_trans (Nat.le_of_ble_eq_true rfl) hd) (Nat.le_of_ble_eq_true rfl) ob202.1 ob202.2 (Nat.le_of_ble_eq_true rfl) rfl ts_6_11 tw_5_131 tw_5_129 tc_5_132 tw_1_10 hyX2 hnX2_valueOf rfl (Nat.le_of_ble_eq_true rfl) dX2_gatherBy_86 (G2_valueOf_met C.2.2.2.2.2.2.2.1 (Nat.le_refl _) (obA9 c17) h) (fun r0 μ22 hq => ?_)
      obtain ⟨r23, rfl, h⟩ := hq
      refine x_st [.int r23, .ref 206] rfl ?_
      obtain ⟨c24, h⟩ := h
      refine x_aald (r := (207 + 3 * r23.toNatClampNeg)) C ob206.1 (by decide) (by decide) c24 rfl (rA206 c24) dX2_gatherBy_89 ?_
      refine x_aload_n C rfl 1 rfl dX2_gatherBy_90 ?_
      refine x_getR (r := 1) C (j := 0) ob202.1 ob202.2 (Nat.le_of_ble_eq_true rfl) (Nat.le_of_ble_eq_true rfl) (fun _ _ _ => rfl) r_202_0 tw_2_92 dX2_gatherBy_91 ?_
      refine x_aload_n C rfl 0 rfl dX2_gatherBy_94 ?_
      refine x_callVN (dC := G10_peopleOf_dep) (as := [.ref (19 + x.1.toNatClampNeg)]) (st := [.ref (207 + 3 * r23.toNatClampNeg)]) C rX kX (Nat.le_trans (Nat.le_of_ble_eq_true rfl) hd) (Nat.le_of_ble_eq_true rfl) ob1.1 ob1.2 (Nat.le_of_ble_eq_true rfl) rfl ts_3_6 tw_4_40 tw_5_109 tc_4_41 tw_1_2 hyX10 hnX10_peopleOf rfl (Nat.le_of_ble_eq_true rfl) dX2_gatherBy_95 (G10_peopleOf_met C.2.2.2.2.2.2.2.1 (Nat.le_refl _) (obA9 c17) h) (fun r0 μ25 hq => ?_)
      obtain ⟨r26, rfl, h⟩ := hq
      refine x_st [.int r26, .ref (207 + 3 * r23.toNatClampNeg)] rfl ?_
      refine x_aload_n C rfl 0 rfl dX2_gatherBy_98 ?_
      refine x_getIN C (j := 7) (obA9 c17).1 (obA9 c17).2 (Nat.le_of_ble_eq_true rfl) (Nat.le_of_ble_eq_true rfl) (Or.inr rfl) tw_1_78 dX2_gatherBy_99 ?_
      refine x_callVN (dC := G9_note_dep) (as := [.int r26, .int (gI μ25 (19 + x.1.toNatClampNeg) 7)]) (st := []) C rX kX (Nat.le_trans (Nat.le_of_ble_eq_true rfl) hd) (Nat.le_of_ble_eq_true rfl) (obA206 c24).1 (obA206 c24).2 (Nat.le_of_ble_eq_true rfl) rfl ts_3_7 tw_4_44 tw_5_110 tc_4_45 tw_1_7 hyX9 hnX9_note rfl (Nat.le_of_ble_eq_true rfl) dX2_gatherBy_102 (G9_note_met C.2.2.2.2.2.2.2.1 (Nat.le_refl _) (obA206 c24) h) (fun r0 μ27 hq => ?_)
      obtain ⟨rfl, h⟩ := hq
      refine x_st [] rfl ?_
      refine x_iinc (v := (x.1 + 1)) C [(2, .int (x.1 + 1)), (3, .ref (19 + x.1.toNatClampNeg)), (0, .ref 202), (1, .int p1)] 3 rfl (congrArg (fun z => x.1 + z) (by decide : Int32.ofInt (1) = 1)) (Nat.le_of_ble_eq_true rfl) rfl dX2_gatherBy_105 ?_
      refine x_goto (tgt := 32) C dX2_gatherBy_108 (by decide) ?_
      refine x_sub [(0, .ref 202), (1, .int p1), (2, .int (x.1 + 1))] [2, 3, 0] rfl ?_
      exact hK32 _ _ h
theorem G2_gatherBy_L32_ok {p : Program} {e : Env} {s : State} {m : MethodId} {args : Array Value} {below : List Frame} {meth : Method} {c : Code} {l : Launch} {φ : Nat → Nat} {tc : Nat → ClassId} {D : va_G} {s0 : State} {dR : Nat} (C : CX p s m args meth c φ tc D (AX φ) s0 cX2_gatherBy RX2 4) (hd : G2_gatherBy_dep ≤ dR) (hr : meth.sig.returnType = none)  {p1 : Int32} {Q : MM → Prop}  {x : Int32 × MM}    (h : Lp (G2_gatherBy_L32 p1 Q) x) : WX p l e (rmX dR) s m args below meth c φ tc D (AX φ) 4 0 0 (MQ below (QX φ tc D (QV Q)) args s 0 0 (AX φ)) 32 [(0, .ref 202), (1, .int p1), (2, .int x.1)] [] x.2 := by
  obtain ⟨n, h⟩ := h
  induction n generalizing x with
  | zero => exact h.elim
  | succ n ih => exact G2_gatherBy_L32_b C hd hr   (fun z2 zμ hz => by have q := ih hz; exact q) h
set_option maxHeartbeats 4000000 in
set_option maxRecDepth 100000 in
theorem G2_gatherBy_L9_b {p : Program} {e : Env} {s : State} {m : MethodId} {args : Array Value} {below : List Frame} {meth : Method} {c : Code} {l : Launch} {φ : Nat → Nat} {tc : Nat → ClassId} {D : va_G} {s0 : State} {dR : Nat} (C : CX p s m args meth c φ tc D (AX φ) s0 cX2_gatherBy RX2 4) (hd : G2_gatherBy_dep ≤ dR) (hr : meth.sig.returnType = none)  {p1 : Int32} {Q : MM → Prop} {K9 : Int32 × MM → Prop} {x : Int32 × MM}   (hK9 : ∀ (z2 : Int32) (zμ : MM), K9 (z2, zμ) → WX p l e (rmX dR) s m args below meth c φ tc D (AX φ) 4 0 0 (MQ below (QX φ tc D (QV Q)) args s 0 0 (AX φ)) 9 [(0, .ref 202), (1, .int p1), (2, .int z2)] [] zμ) (h : G2_gatherBy_L9 p1 Q K9 x) : WX p l e (rmX dR) s m args below meth c φ tc D (AX φ) 4 0 0 (MQ below (QX φ tc D (QV Q)) args s 0 0 (AX φ)) 9 [(0, .ref 202), (1, .int p1), (2, .int x.1)] [] x.2 := by
  unfold G2_gatherBy_L9 at h
  refine x_iload_n C rfl 2 rfl dX2_gatherBy_9 ?_
  refine x_bipush (v := 10) C (by decide) dX2_gatherBy_10 ?_
  refine x_icmp_ge (tgt := 30) C dX2_gatherBy_12 (by decide) (fun c15 => ?_) (fun c15 => ?_)
  · have h := h.1 c15
    refine x_iconst (v := 0) C (by decide) dX2_gatherBy_30 ?_
    refine x_istore_n C [(2, .int 0), (0, .ref 202), (1, .int p1)] rfl (Nat.le_of_ble_eq_true rfl) rfl dX2_gatherBy_31 ?_
    refine x_sub [(0, .ref 202), (1, .int p1), (2, .int 0)] [1, 2, 0] rfl ?_
    exact G2_gatherBy_L32_ok C hd hr  h
  · have h := h.2 c15
    refine x_aload_n C rfl 0 rfl dX2_gatherBy_15 ?_
    refine x_getR (r := 206) C (j := 3) ob202.1 ob202.2 (Nat.le_of_ble_eq_true rfl) (Nat.le_of_ble_eq_true rfl) (fun _ _ _ => rfl) r_202_3 tw_2_95 dX2_gatherBy_16 ?_
    refine x_iload_n C rfl 2 rfl dX2_gatherBy_19 ?_
    obtain ⟨c28, h⟩ := h
    refine x_aald (r := (207 + 3 * x.1.toNatClampNeg)) C ob206.1 (by decide) (by decide) c28 rfl (rA206 c28) dX2_gatherBy_20 ?_
    refine x_callVN (dC := G9_clear_dep) (as := []) (st := []) C rX kX (Nat.le_trans (Nat.le_of_ble_eq_true rfl) hd) (Nat.le_of_ble_eq_true rfl) (obA206 c28).1 (obA206 c28).2 (Nat.le_of_ble_eq_true rfl) rfl ts_3_4 tw_4_32 tw_5_108 tc_4_33 tw_1_7 hyX9 hnX9_clear rfl (Nat.le_of_ble_eq_true rfl) dX2_gatherBy_21 (G9_clear_met C.2.2.2.2.2.2.2.1 (Nat.le_refl _) (obA206 c28) h) (fun r0 μ29 hq => ?_)
    obtain ⟨rfl, h⟩ := hq
    refine x_st [] rfl ?_
    refine x_iinc (v := (x.1 + 1)) C [(2, .int (x.1 + 1)), (0, .ref 202), (1, .int p1)] 2 rfl (congrArg (fun z => x.1 + z) (by decide : Int32.ofInt (1) = 1)) (Nat.le_of_ble_eq_true rfl) rfl dX2_gatherBy_24 ?_
    refine x_goto (tgt := 9) C dX2_gatherBy_27 (by decide) ?_
    refine x_sub [(0, .ref 202), (1, .int p1), (2, .int (x.1 + 1))] [1, 2, 0] rfl ?_
    exact hK9 _ _ h
theorem G2_gatherBy_L9_ok {p : Program} {e : Env} {s : State} {m : MethodId} {args : Array Value} {below : List Frame} {meth : Method} {c : Code} {l : Launch} {φ : Nat → Nat} {tc : Nat → ClassId} {D : va_G} {s0 : State} {dR : Nat} (C : CX p s m args meth c φ tc D (AX φ) s0 cX2_gatherBy RX2 4) (hd : G2_gatherBy_dep ≤ dR) (hr : meth.sig.returnType = none)  {p1 : Int32} {Q : MM → Prop}  {x : Int32 × MM}    (h : Lp (G2_gatherBy_L9 p1 Q) x) : WX p l e (rmX dR) s m args below meth c φ tc D (AX φ) 4 0 0 (MQ below (QX φ tc D (QV Q)) args s 0 0 (AX φ)) 9 [(0, .ref 202), (1, .int p1), (2, .int x.1)] [] x.2 := by
  obtain ⟨n, h⟩ := h
  induction n generalizing x with
  | zero => exact h.elim
  | succ n ih => exact G2_gatherBy_L9_b C hd hr   (fun z2 zμ hz => by have q := ih hz; exact q) h
set_option maxHeartbeats 4000000 in
set_option maxRecDepth 100000 in
theorem G2_gatherBy_met {l : Launch} {φ : Nat → Nat} {tc : Nat → ClassId} {D : va_G} {s0 : State} (hG : GX φ tc D s0) {dR : Nat} (hd : G2_gatherBy_dep ≤ dR) {v1 : Int32} {μ : MM} {Q : MM → Prop}  (h : G2_gatherBy v1 μ Q) : MX l φ tc D s0 dR yX2_gatherBy cX2_gatherBy 4 none [.ref 202, .int v1] μ (QV Q) := by
  refine MX.of (own := RX2) hG plX2 rfl (Nat.le_of_ble_eq_true rfl) (fun p e s m args below meth c C hr => ?_)
  refine x_sub [(0, .ref 202), (1, .int v1)] [0, 1] rfl ?_
  unfold G2_gatherBy at h
  refine x_aload_n C rfl 0 rfl dX2_gatherBy_0 ?_
  refine x_getR (r := 203) C (j := 2) ob202.1 ob202.2 (Nat.le_of_ble_eq_true rfl) (Nat.le_of_ble_eq_true rfl) (fun _ _ _ => rfl) r_202_2 tw_2_94 dX2_gatherBy_1 ?_
  refine x_callVN (dC := G9_clear_dep) (as := []) (st := []) C rX kX (Nat.le_trans (Nat.le_of_ble_eq_true rfl) hd) (Nat.le_of_ble_eq_true rfl) ob203.1 ob203.2 (Nat.le_of_ble_eq_true rfl) rfl ts_3_4 tw_4_32 tw_5_108 tc_4_33 tw_1_7 hyX9 hnX9_clear rfl (Nat.le_of_ble_eq_true rfl) dX2_gatherBy_4 (G9_clear_met C.2.2.2.2.2.2.2.1 (Nat.le_refl _) ob203 h) (fun r0 μ14 hq => ?_)
  obtain ⟨rfl, h⟩ := hq
  refine x_st [] rfl ?_
  refine x_iconst (v := 0) C (by decide) dX2_gatherBy_7 ?_
  refine x_istore_n C [(2, .int 0), (0, .ref 202), (1, .int v1)] rfl (Nat.le_of_ble_eq_true rfl) rfl dX2_gatherBy_8 ?_
  refine x_sub [(0, .ref 202), (1, .int v1), (2, .int 0)] [1, 2, 0] rfl ?_
  exact G2_gatherBy_L9_ok C hd hr  h
set_option maxHeartbeats 4000000 in
set_option maxRecDepth 100000 in
theorem G9_asideTimes_met {l : Launch} {φ : Nat → Nat} {tc : Nat → ClassId} {D : va_G} {s0 : State} (hG : GX φ tc D s0) {dR : Nat} (hd : G9_asideTimes_dep ≤ dR) {t : Nat} {v1 : Int64} {μ : MM} {Q : Int64 → MM → Prop} (o_t : Ob t 9) (h : G9_asideTimes t v1 μ Q) : MX l φ tc D s0 dR yX9_asideTimes cX9_asideTimes 3 (some .long) [.ref t, .long v1] μ (QJ Q) := by
  refine MX.of (own := RX9) hG plX9 rfl (Nat.le_of_ble_eq_true rfl) (fun p e s m args below meth c C hr => ?_)
  refine x_sub [(0, .ref t), (1, .long v1)] [0, 1] rfl ?_
  unfold G9_asideTimes at h
  refine x_aload_n C rfl 0 rfl dX9_asideTimes_0 ?_
  refine x_callV (dC := G9_hasBoth_dep) (as := []) (st := []) C rX kX (Nat.le_trans (Nat.le_of_ble_eq_true rfl) hd) (Nat.le_of_ble_eq_true rfl) o_t.1 o_t.2 (Nat.le_of_ble_eq_true rfl) rfl ts_3_13 tw_4_75 tw_5_139 tc_4_76 tw_1_7 hyX9 hnX9_hasBoth rfl (Nat.le_of_ble_eq_true rfl) dX9_asideTimes_1 (G9_hasBoth_met C.2.2.2.2.2.2.2.1 (Nat.le_refl _) o_t h) (fun r0 μ5 hq => ?_)
  obtain ⟨r6, rfl, h⟩ := hq
  refine x_st [.int r6] rfl ?_
  refine x_if_eq (tgt := 45) C dX9_asideTimes_4 (by decide) (fun c7 => ?_) (fun c7 => ?_)
  · have h := h.1 c7
    refine x_lconst (v := 0) C (by decide) dX9_asideTimes_45 ?_
    exact x_lret C hr dX9_asideTimes_46 ⟨_, rfl, h⟩
  · have h := h.2 c7
    refine x_aload_n C rfl 0 rfl dX9_asideTimes_7 ?_
    refine x_getR (r := (t + 2)) C (j := 1) o_t.1 o_t.2 (Nat.le_of_ble_eq_true rfl) (Nat.le_of_ble_eq_true rfl) (fun _ _ _ => rfl) (rF9_1 o_t) tw_1_235 dX9_asideTimes_8 ?_
    refine x_iconst (v := 0) C (by decide) dX9_asideTimes_11 ?_
    refine x_iald C (obF9_1 o_t).1 (obF9_1 o_t).2 (by rw [lnF9_1 o_t]; unfold vp_in; decide) (j := 0) (by decide) dX9_asideTimes_12 ?_
    refine x_i2l C dX9_asideTimes_13 ?_
    refine x_lload_n C rfl 1 rfl dX9_asideTimes_14 ?_
    refine x_aload_n C rfl 0 rfl dX9_asideTimes_15 ?_
    refine x_getR (r := (t + 1)) C (j := 0) o_t.1 o_t.2 (Nat.le_of_ble_eq_true rfl) (Nat.le_of_ble_eq_true rfl) (fun _ _ _ => rfl) (rF9_0 o_t) tw_1_232 dX9_asideTimes_16 ?_
    refine x_iconst (v := 0) C (by decide) dX9_asideTimes_19 ?_
    refine x_iald C (obF9_0 o_t).1 (obF9_0 o_t).2 (by rw [lnF9_0 o_t]; unfold vp_in; decide) (j := 0) (by decide) dX9_asideTimes_20 ?_
    refine x_i2l C dX9_asideTimes_21 ?_
    obtain ⟨c8, h⟩ := h
    refine x_ldiv C c8 dX9_asideTimes_22 ?_
    refine x_lmul C dX9_asideTimes_23 ?_
    refine x_aload_n C rfl 0 rfl dX9_asideTimes_24 ?_
    refine x_getR (r := (t + 2)) C (j := 1) o_t.1 o_t.2 (Nat.le_of_ble_eq_true rfl) (Nat.le_of_ble_eq_true rfl) (fun _ _ _ => rfl) (rF9_1 o_t) tw_1_235 dX9_asideTimes_25 ?_
    refine x_iconst (v := 1) C (by decide) dX9_asideTimes_28 ?_
    refine x_iald C (obF9_1 o_t).1 (obF9_1 o_t).2 (by rw [lnF9_1 o_t]; unfold vp_in; decide) (j := 1) (by decide) dX9_asideTimes_29 ?_
    refine x_i2l C dX9_asideTimes_30 ?_
    refine x_lload_n C rfl 1 rfl dX9_asideTimes_31 ?_
    refine x_aload_n C rfl 0 rfl dX9_asideTimes_32 ?_
    refine x_getR (r := (t + 1)) C (j := 0) o_t.1 o_t.2 (Nat.le_of_ble_eq_true rfl) (Nat.le_of_ble_eq_true rfl) (fun _ _ _ => rfl) (rF9_0 o_t) tw_1_232 dX9_asideTimes_33 ?_
    refine x_iconst (v := 1) C (by decide) dX9_asideTimes_36 ?_
    refine x_iald C (obF9_0 o_t).1 (obF9_0 o_t).2 (by rw [lnF9_0 o_t]; unfold vp_in; decide) (j := 1) (by decide) dX9_asideTimes_37 ?_
    refine x_i2l C dX9_asideTimes_38 ?_
    obtain ⟨c9, h⟩ := h
    refine x_ldiv C c9 dX9_asideTimes_39 ?_
    refine x_lmul C dX9_asideTimes_40 ?_
    refine x_lsub C dX9_asideTimes_41 ?_
    refine x_goto (tgt := 46) C dX9_asideTimes_42 (by decide) ?_
    exact x_lret C hr dX9_asideTimes_46 ⟨_, rfl, h⟩
set_option maxHeartbeats 4000000 in
set_option maxRecDepth 100000 in
theorem G2_tellExplained_L115_b {p : Program} {e : Env} {s : State} {m : MethodId} {args : Array Value} {below : List Frame} {meth : Method} {c : Code} {l : Launch} {φ : Nat → Nat} {tc : Nat → ClassId} {D : va_G} {s0 : State} {dR : Nat} (C : CX p s m args meth c φ tc D (AX φ) s0 cX2_tellExplained RX2 9) (hd : G2_tellExplained_dep ≤ dR) (hr : meth.sig.returnType = (some .int))  {p2 : Int64} {p4 : Int32} {Q : Int32 → MM → Prop} {K115 : Int64 × Int32 × MM → Prop} {x : Int64 × Int32 × MM}   (hK115 : ∀ (z5 : Int64) (z7 : Int32) (zμ : MM), K115 (z5, z7, zμ) → WX p l e (rmX dR) s m args below meth c φ tc D (AX φ) 9 0 0 (MQ below (QX φ tc D (QI Q)) args s 0 0 (AX φ)) 115 [(0, .ref 202), (2, .long p2), (4, .int p4), (5, .long z5), (7, .int z7)] [] zμ) (h : G2_tellExplained_L115 p2 p4 Q K115 x) : WX p l e (rmX dR) s m args below meth c φ tc D (AX φ) 9 0 0 (MQ below (QX φ tc D (QI Q)) args s 0 0 (AX φ)) 115 [(0, .ref 202), (2, .long p2), (4, .int p4), (5, .long x.1), (7, .int x.2.1)] [] x.2.2 := by
  unfold G2_tellExplained_L115 at h
  refine x_iload C 4 rfl dX2_tellExplained_115 ?_
  refine x_bipush (v := 10) C (by decide) dX2_tellExplained_117 ?_
  refine x_icmp_ge (tgt := 156) C dX2_tellExplained_119 (by decide) (fun c40 => ?_) (fun c40 => ?_)
  · have h := h.1 c40
    refine x_lload_n C rfl 1 rfl dX2_tellExplained_156 ?_
    refine x_iload C 2 rfl dX2_tellExplained_157 ?_
    refine x_i2l C dX2_tellExplained_159 ?_
    refine x_lmul C dX2_tellExplained_160 ?_
    refine x_topl (fun y41 e_y41 => ?_)
    have h := h y41 e_y41
    refine x_lstore C [(7, .long y41), (0, .ref 202), (2, .long p2), (4, .int p4), (5, .long x.1)] (Nat.le_of_ble_eq_true rfl) rfl dX2_tellExplained_161 ?_
    refine x_aload_n C rfl 1 rfl dX2_tellExplained_163 ?_
    refine x_getR (r := 151) C (j := 1) ob202.1 ob202.2 (Nat.le_of_ble_eq_true rfl) (Nat.le_of_ble_eq_true rfl) (fun _ _ _ => rfl) r_202_1 tw_2_93 dX2_tellExplained_164 ?_
    refine x_callVN (dC := G7_clear_dep) (as := []) (st := []) C rX kX (Nat.le_trans (Nat.le_of_ble_eq_true rfl) hd) (Nat.le_of_ble_eq_true rfl) ob151.1 ob151.2 (Nat.le_of_ble_eq_true rfl) rfl ts_3_8 tw_4_48 tw_5_112 tc_4_49 tw_1_5 hyX7 hnX7_clear rfl (Nat.le_of_ble_eq_true rfl) dX2_tellExplained_167 (G7_clear_met C.2.2.2.2.2.2.2.1 (Nat.le_refl _)  h) (fun r0 μ42 hq => ?_)
    obtain ⟨rfl, h⟩ := hq
    refine x_st [] rfl ?_
    refine x_aload_n C rfl 1 rfl dX2_tellExplained_170 ?_
    refine x_getR (r := 151) C (j := 1) ob202.1 ob202.2 (Nat.le_of_ble_eq_true rfl) (Nat.le_of_ble_eq_true rfl) (fun _ _ _ => rfl) r_202_1 tw_2_93 dX2_tellExplained_171 ?_
    refine x_lload C 4 rfl dX2_tellExplained_174 ?_
    refine x_lload C 0 rfl dX2_tellExplained_176 ?_
    refine x_callVN (dC := G7_addFraction_dep) (as := [.long x.1, .long y41]) (st := []) C rX kX (Nat.le_trans (Nat.le_of_ble_eq_true rfl) hd) (Nat.le_of_ble_eq_true rfl) ob151.1 ob151.2 (Nat.le_of_ble_eq_true rfl) rfl ts_3_10 tw_4_56 tw_5_116 tc_4_57 tw_1_5 hyX7 hnX7_addFraction rfl (Nat.le_of_ble_eq_true rfl) dX2_tellExplained_178 (G7_addFraction_met C.2.2.2.2.2.2.2.1 (Nat.le_refl _)  h) (fun r0 μ43 hq => ?_)
    obtain ⟨rfl, h⟩ := hq
    refine x_st [] rfl ?_
    refine x_aload_n C rfl 1 rfl dX2_tellExplained_181 ?_
    refine x_getR (r := 151) C (j := 1) ob202.1 ob202.2 (Nat.le_of_ble_eq_true rfl) (Nat.le_of_ble_eq_true rfl) (fun _ _ _ => rfl) r_202_1 tw_2_93 dX2_tellExplained_182 ?_
    refine x_aload_n C rfl 1 rfl dX2_tellExplained_185 ?_
    refine x_getR (r := 203) C (j := 2) ob202.1 ob202.2 (Nat.le_of_ble_eq_true rfl) (Nat.le_of_ble_eq_true rfl) (fun _ _ _ => rfl) r_202_2 tw_2_94 dX2_tellExplained_186 ?_
    refine x_callVN (dC := G9_asideUpper_dep) (as := []) (st := [.ref 151]) C rX kX (Nat.le_trans (Nat.le_of_ble_eq_true rfl) hd) (Nat.le_of_ble_eq_true rfl) ob203.1 ob203.2 (Nat.le_of_ble_eq_true rfl) rfl ts_3_14 tw_4_79 tw_5_114 tc_4_80 tw_1_7 hyX9 hnX9_asideUpper rfl (Nat.le_of_ble_eq_true rfl) dX2_tellExplained_189 (G9_asideUpper_met C.2.2.2.2.2.2.2.1 (Nat.le_refl _) ob203 h) (fun r0 μ44 hq => ?_)
    obtain ⟨r45, rfl, h⟩ := hq
    refine x_st [.long r45, .ref 151] rfl ?_
    refine x_lload C 0 rfl dX2_tellExplained_192 ?_
    refine x_lmul C dX2_tellExplained_194 ?_
    refine x_lload C 4 rfl dX2_tellExplained_195 ?_
    refine x_aload_n C rfl 1 rfl dX2_tellExplained_197 ?_
    refine x_getR (r := 203) C (j := 2) ob202.1 ob202.2 (Nat.le_of_ble_eq_true rfl) (Nat.le_of_ble_eq_true rfl) (fun _ _ _ => rfl) r_202_2 tw_2_94 dX2_tellExplained_198 ?_
    refine x_callVN (dC := G9_asideLower_dep) (as := []) (st := [.long x.1, .long (r45 * y41), .ref 151]) C rX kX (Nat.le_trans (Nat.le_of_ble_eq_true rfl) hd) (Nat.le_of_ble_eq_true rfl) ob203.1 ob203.2 (Nat.le_of_ble_eq_true rfl) rfl ts_3_15 tw_4_83 tw_5_115 tc_4_84 tw_1_7 hyX9 hnX9_asideLower rfl (Nat.le_of_ble_eq_true rfl) dX2_tellExplained_201 (G9_asideLower_met C.2.2.2.2.2.2.2.1 (Nat.le_refl _) ob203 h) (fun r0 μ46 hq => ?_)
    obtain ⟨r47, rfl, h⟩ := hq
    refine x_st [.long r47, .long x.1, .long (r45 * y41), .ref 151] rfl ?_
    refine x_lmul C dX2_tellExplained_204 ?_
    refine x_lsub C dX2_tellExplained_205 ?_
    refine x_aload_n C rfl 1 rfl dX2_tellExplained_206 ?_
    refine x_getR (r := 203) C (j := 2) ob202.1 ob202.2 (Nat.le_of_ble_eq_true rfl) (Nat.le_of_ble_eq_true rfl) (fun _ _ _ => rfl) r_202_2 tw_2_94 dX2_tellExplained_207 ?_
    refine x_callVN (dC := G9_asideLower_dep) (as := []) (st := [.long ((r45 * y41) - (x.1 * r47)), .ref 151]) C rX kX (Nat.le_trans (Nat.le_of_ble_eq_true rfl) hd) (Nat.le_of_ble_eq_true rfl) ob203.1 ob203.2 (Nat.le_of_ble_eq_true rfl) rfl ts_3_15 tw_4_83 tw_5_115 tc_4_84 tw_1_7 hyX9 hnX9_asideLower rfl (Nat.le_of_ble_eq_true rfl) dX2_tellExplained_210 (G9_asideLower_met C.2.2.2.2.2.2.2.1 (Nat.le_refl _) ob203 h) (fun r0 μ48 hq => ?_)
    obtain ⟨r49, rfl, h⟩ := hq
    refine x_st [.long r49, .long ((r45 * y41) - (x.1 * r47)), .ref 151] rfl ?_
    refine x_lload C 0 rfl dX2_tellExplained_213 ?_
    refine x_lmul C dX2_tellExplained_215 ?_
    refine x_callVN (dC := G7_addFraction_dep) (as := [.long ((r45 * y41) - (x.1 * r47)), .long (r49 * y41)]) (st := []) C rX kX (Nat.le_trans (Nat.le_of_ble_eq_true rfl) hd) (Nat.le_of_ble_eq_true rfl) ob151.1 ob151.2 (Nat.le_of_ble_eq_true rfl) rfl ts_3_10 tw_4_56 tw_5_116 tc_4_57 tw_1_5 hyX7 hnX7_addFraction rfl (Nat.le_of_ble_eq_true rfl) dX2_tellExplained_216 (G7_addFraction_met C.2.2.2.2.2.2.2.1 (Nat.le_refl _)  h) (fun r0 μ50 hq => ?_)
    obtain ⟨rfl, h⟩ := hq
    refine x_st [] rfl ?_
    refine x_iconst (v := 0) C (by decide) dX2_tellExplained_219 ?_
    exact x_iret C hr dX2_tellExplained_220 ⟨_, rfl, h⟩
  · have h := h.2 c40
    refine x_lload C 3 rfl dX2_tellExplained_122 ?_
    refine x_aload_n C rfl 0 rfl dX2_tellExplained_124 ?_
    refine x_getR (r := 206) C (j := 3) ob202.1 ob202.2 (Nat.le_of_ble_eq_true rfl) (Nat.le_of_ble_eq_true rfl) (fun _ _ _ => rfl) r_202_3 tw_2_95 dX2_tellExplained_125 ?_
    refine x_iload C 4 rfl dX2_tellExplained_128 ?_
    obtain ⟨c51, h⟩ := h
    refine x_aald (r := (207 + 3 * x.2.1.toNatClampNeg)) C ob206.1 (by decide) (by decide) c51 rfl (rA206 c51) dX2_tellExplained_130 ?_
    refine x_lload_n C rfl 1 rfl dX2_tellExplained_131 ?_
    refine x_callVN (dC := G9_asideTimes_dep) (as := [.long p2]) (st := [.long x.1]) C rX kX (Nat.le_trans (Nat.le_of_ble_eq_true rfl) hd) (Nat.le_of_ble_eq_true rfl) (obA206 c51).1 (obA206 c51).2 (Nat.le_of_ble_eq_true rfl) rfl ts_6_12 tw_5_137 tw_5_135 tc_5_138 tw_1_7 hyX9 hnX9_asideTimes rfl (Nat.le_of_ble_eq_true rfl) dX2_tellExplained_132 (G9_asideTimes_met C.2.2.2.2.2.2.2.1 (Nat.le_refl _) (obA206 c51) h) (fun r0 μ52 hq => ?_)
    obtain ⟨r53, rfl, h⟩ := hq
    refine x_st [.long r53, .long x.1] rfl ?_
    refine x_aload_n C rfl 0 rfl dX2_tellExplained_135 ?_
    refine x_getR (r := 206) C (j := 3) ob202.1 ob202.2 (Nat.le_of_ble_eq_true rfl) (Nat.le_of_ble_eq_true rfl) (fun _ _ _ => rfl) r_202_3 tw_2_95 dX2_tellExplained_136 ?_
    refine x_iload C 4 rfl dX2_tellExplained_139 ?_
    obtain ⟨c54, h⟩ := h
    refine x_aald (r := (207 + 3 * x.2.1.toNatClampNeg)) C ob206.1 (by decide) (by decide) c54 rfl (rA206 c54) dX2_tellExplained_141 ?_
    refine x_callVN (dC := G9_all_dep) (as := []) (st := [.long r53, .long x.1]) C rX kX (Nat.le_trans (Nat.le_of_ble_eq_true rfl) hd) (Nat.le_of_ble_eq_true rfl) (obA206 c54).1 (obA206 c54).2 (Nat.le_of_ble_eq_true rfl) rfl ts_3_9 tw_4_52 tw_5_134 tc_4_53 tw_1_7 hyX9 hnX9_all rfl (Nat.le_of_ble_eq_true rfl) dX2_tellExplained_142 (G9_all_met C.2.2.2.2.2.2.2.1 (Nat.le_refl _) (obA206 c54) h) (fun r0 μ55 hq => ?_)
    obtain ⟨r56, rfl, h⟩ := hq
    refine x_st [.int r56, .long r53, .long x.1] rfl ?_
    refine x_i2l C dX2_tellExplained_145 ?_
    refine x_lmul C dX2_tellExplained_146 ?_
    refine x_ladd C dX2_tellExplained_147 ?_
    refine x_topl (fun y57 e_y57 => ?_)
    have h := h y57 e_y57
    refine x_lstore C [(5, .long y57), (0, .ref 202), (2, .long p2), (4, .int p4), (7, .int x.2.1)] (Nat.le_of_ble_eq_true rfl) rfl dX2_tellExplained_148 ?_
    refine x_iinc (v := (x.2.1 + 1)) C [(7, .int (x.2.1 + 1)), (5, .long y57), (0, .ref 202), (2, .long p2), (4, .int p4)] 4 rfl (congrArg (fun z => x.2.1 + z) (by decide : Int32.ofInt (1) = 1)) (Nat.le_of_ble_eq_true rfl) rfl dX2_tellExplained_150 ?_
    refine x_goto (tgt := 115) C dX2_tellExplained_153 (by decide) ?_
    refine x_sub [(0, .ref 202), (2, .long p2), (4, .int p4), (5, .long y57), (7, .int (x.2.1 + 1))] [2, 3, 4, 1, 0] rfl ?_
    exact hK115 _ _ _ h
theorem G2_tellExplained_L115_ok {p : Program} {e : Env} {s : State} {m : MethodId} {args : Array Value} {below : List Frame} {meth : Method} {c : Code} {l : Launch} {φ : Nat → Nat} {tc : Nat → ClassId} {D : va_G} {s0 : State} {dR : Nat} (C : CX p s m args meth c φ tc D (AX φ) s0 cX2_tellExplained RX2 9) (hd : G2_tellExplained_dep ≤ dR) (hr : meth.sig.returnType = (some .int))  {p2 : Int64} {p4 : Int32} {Q : Int32 → MM → Prop}  {x : Int64 × Int32 × MM}    (h : Lp (G2_tellExplained_L115 p2 p4 Q) x) : WX p l e (rmX dR) s m args below meth c φ tc D (AX φ) 9 0 0 (MQ below (QX φ tc D (QI Q)) args s 0 0 (AX φ)) 115 [(0, .ref 202), (2, .long p2), (4, .int p4), (5, .long x.1), (7, .int x.2.1)] [] x.2.2 := by
  obtain ⟨n, h⟩ := h
  induction n generalizing x with
  | zero => exact h.elim
  | succ n ih => exact G2_tellExplained_L115_b C hd hr   (fun z5 z7 zμ hz => by have q := ih hz; exact q) h
set_option maxHeartbeats 4000000 in
set_option maxRecDepth 100000 in
theorem G2_tellExplained_L24_b {p : Program} {e : Env} {s : State} {m : MethodId} {args : Array Value} {below : List Frame} {meth : Method} {c : Code} {l : Launch} {φ : Nat → Nat} {tc : Nat → ClassId} {D : va_G} {s0 : State} {dR : Nat} (C : CX p s m args meth c φ tc D (AX φ) s0 cX2_tellExplained RX2 9) (hd : G2_tellExplained_dep ≤ dR) (hr : meth.sig.returnType = (some .int))   {Q : Int32 → MM → Prop} {K24 : Int64 × Int32 × Int32 × MM → Prop} {x : Int64 × Int32 × Int32 × MM}   (hK24 : ∀ (z2 : Int64) (z4 : Int32) (z5 : Int32) (zμ : MM), K24 (z2, z4, z5, zμ) → WX p l e (rmX dR) s m args below meth c φ tc D (AX φ) 9 0 0 (MQ below (QX φ tc D (QI Q)) args s 0 0 (AX φ)) 24 [(0, .ref 202), (2, .long z2), (4, .int z4), (5, .int z5)] [] zμ) (h : G2_tellExplained_L24  Q K24 x) : WX p l e (rmX dR) s m args below meth c φ tc D (AX φ) 9 0 0 (MQ below (QX φ tc D (QI Q)) args s 0 0 (AX φ)) 24 [(0, .ref 202), (2, .long x.1), (4, .int x.2.1), (5, .int x.2.2.1)] [] x.2.2.2 := by
  unfold G2_tellExplained_L24 at h
  refine x_iload C 3 rfl dX2_tellExplained_24 ?_
  refine x_bipush (v := 10) C (by decide) dX2_tellExplained_26 ?_
  refine x_icmp_ge (tgt := 101) C dX2_tellExplained_28 (by decide) (fun c38 => ?_) (fun c38 => ?_)
  · have h := h.1 c38
    refine x_iload C 2 rfl dX2_tellExplained_101 ?_
    refine x_if_ne (tgt := 109) C dX2_tellExplained_103 (by decide) (fun c39 => ?_) (fun c39 => ?_)
    · have h := h.1 c39
      refine x_lconst (v := 0) C (by decide) dX2_tellExplained_109 ?_
      refine x_lstore C [(5, .long 0), (0, .ref 202), (2, .long x.1), (4, .int x.2.1)] (Nat.le_of_ble_eq_true rfl) rfl dX2_tellExplained_110 ?_
      refine x_iconst (v := 0) C (by decide) dX2_tellExplained_112 ?_
      refine x_istore C [(7, .int 0), (5, .long 0), (0, .ref 202), (2, .long x.1), (4, .int x.2.1)] (Nat.le_of_ble_eq_true rfl) rfl dX2_tellExplained_113 ?_
      refine x_sub [(0, .ref 202), (2, .long x.1), (4, .int x.2.1), (5, .long 0), (7, .int 0)] [2, 3, 4, 1, 0] rfl ?_
      exact G2_tellExplained_L115_ok C hd hr  h
    · have h := h.2 c39
      refine x_bipush (v := (-2)) C (by decide) dX2_tellExplained_106 ?_
      exact x_iret C hr dX2_tellExplained_108 ⟨_, rfl, h⟩
  · have h := h.2 c38
    refine x_aload_n C rfl 0 rfl dX2_tellExplained_31 ?_
    refine x_getR (r := 206) C (j := 3) ob202.1 ob202.2 (Nat.le_of_ble_eq_true rfl) (Nat.le_of_ble_eq_true rfl) (fun _ _ _ => rfl) r_202_3 tw_2_95 dX2_tellExplained_32 ?_
    refine x_iload C 3 rfl dX2_tellExplained_35 ?_
    obtain ⟨c58, h⟩ := h
    refine x_aald (r := (207 + 3 * x.2.2.1.toNatClampNeg)) C ob206.1 (by decide) (by decide) c58 rfl (rA206 c58) dX2_tellExplained_37 ?_
    refine x_callVN (dC := G9_hasBoth_dep) (as := []) (st := []) C rX kX (Nat.le_trans (Nat.le_of_ble_eq_true rfl) hd) (Nat.le_of_ble_eq_true rfl) (obA206 c58).1 (obA206 c58).2 (Nat.le_of_ble_eq_true rfl) rfl ts_3_13 tw_4_75 tw_5_111 tc_4_76 tw_1_7 hyX9 hnX9_hasBoth rfl (Nat.le_of_ble_eq_true rfl) dX2_tellExplained_38 (G9_hasBoth_met C.2.2.2.2.2.2.2.1 (Nat.le_refl _) (obA206 c58) h) (fun r0 μ59 hq => ?_)
    obtain ⟨r60, rfl, h⟩ := hq
    refine x_st [.int r60] rfl ?_
    refine x_if_eq (tgt := 95) C dX2_tellExplained_41 (by decide) (fun c61 => ?_) (fun c61 => ?_)
    · have h := h.1 c61
      refine x_iinc (v := (x.2.2.1 + 1)) C [(5, .int (x.2.2.1 + 1)), (0, .ref 202), (2, .long x.1), (4, .int x.2.1)] 3 rfl (congrArg (fun z => x.2.2.1 + z) (by decide : Int32.ofInt (1) = 1)) (Nat.le_of_ble_eq_true rfl) rfl dX2_tellExplained_95 ?_
      refine x_goto (tgt := 24) C dX2_tellExplained_98 (by decide) ?_
      refine x_sub [(0, .ref 202), (2, .long x.1), (4, .int x.2.1), (5, .int (x.2.2.1 + 1))] [1, 2, 3, 0] rfl ?_
      exact hK24 _ _ _ _ h
    · have h := h.2 c61
      refine x_lload_n C rfl 1 rfl dX2_tellExplained_44 ?_
      refine x_aload_n C rfl 0 rfl dX2_tellExplained_45 ?_
      refine x_getR (r := 206) C (j := 3) ob202.1 ob202.2 (Nat.le_of_ble_eq_true rfl) (Nat.le_of_ble_eq_true rfl) (fun _ _ _ => rfl) r_202_3 tw_2_95 dX2_tellExplained_46 ?_
      refine x_iload C 3 rfl dX2_tellExplained_49 ?_
      obtain ⟨c62, h⟩ := h
      refine x_aald (r := (207 + 3 * x.2.2.1.toNatClampNeg)) C ob206.1 (by decide) (by decide) c62 rfl (rA206 c62) dX2_tellExplained_51 ?_
      refine x_getRN (r := ((207 + 3 * x.2.2.1.toNatClampNeg) + 1)) C (j := 0) (obA206 c62).1 (obA206 c62).2 (Nat.le_of_ble_eq_true rfl) (Nat.le_of_ble_eq_true rfl) (fun _ _ _ => rfl) (rF9_0 (obA206 c62)) tw_1_234 dX2_tellExplained_52 ?_
      refine x_iconst (v := 0) C (by decide) dX2_tellExplained_55 ?_
      refine x_iald C (obF9_0 (obA206 c62)).1 (obF9_0 (obA206 c62)).2 (by rw [lnF9_0 (obA206 c62)]; unfold vp_in; decide) (j := 0) (by decide) dX2_tellExplained_56 ?_
      refine x_i2l C dX2_tellExplained_57 ?_
      refine x_callSN (dC := G11_leastMultiple_dep) (as := [.long x.1, .long ((gI μ59 ((207 + 3 * x.2.2.1.toNatClampNeg) + 1) 0).toInt64)]) (st := []) C rX kX (Nat.le_trans (Nat.le_of_ble_eq_true rfl) hd) (Nat.le_of_ble_eq_true rfl) tw_4_144 tw_5_133 tc_4_145 tw_1_1 hyX11 hnX11_leastMultiple rfl (Nat.le_of_ble_eq_true rfl) dX2_tellExplained_58 (G11_leastMultiple_met C.2.2.2.2.2.2.2.1 (Nat.le_refl _)  h) (fun r0 μ63 hq => ?_)
      obtain ⟨r64, rfl, h⟩ := hq
      refine x_st [.long r64] rfl ?_
      refine x_lstore_n C [(2, .long r64), (0, .ref 202), (4, .int x.2.1), (5, .int x.2.2.1)] rfl (Nat.le_of_ble_eq_true rfl) rfl dX2_tellExplained_61 ?_
      refine x_lload_n C rfl 0 rfl dX2_tellExplained_62 ?_
      refine x_aload_n C rfl 1 rfl dX2_tellExplained_63 ?_
      refine x_getR (r := 206) C (j := 3) ob202.1 ob202.2 (Nat.le_of_ble_eq_true rfl) (Nat.le_of_ble_eq_true rfl) (fun _ _ _ => rfl) r_202_3 tw_2_95 dX2_tellExplained_64 ?_
      refine x_iload C 3 rfl dX2_tellExplained_67 ?_
      obtain ⟨c65, h⟩ := h
      refine x_aald (r := (207 + 3 * x.2.2.1.toNatClampNeg)) C ob206.1 (by decide) (by decide) c65 rfl (rA206 c65) dX2_tellExplained_69 ?_
      refine x_getRN (r := ((207 + 3 * x.2.2.1.toNatClampNeg) + 1)) C (j := 0) (obA206 c65).1 (obA206 c65).2 (Nat.le_of_ble_eq_true rfl) (Nat.le_of_ble_eq_true rfl) (fun _ _ _ => rfl) (rF9_0 (obA206 c65)) tw_1_234 dX2_tellExplained_70 ?_
      refine x_iconst (v := 1) C (by decide) dX2_tellExplained_73 ?_
      refine x_iald C (obF9_0 (obA206 c65)).1 (obF9_0 (obA206 c65)).2 (by rw [lnF9_0 (obA206 c65)]; unfold vp_in; decide) (j := 1) (by decide) dX2_tellExplained_74 ?_
      refine x_i2l C dX2_tellExplained_75 ?_
      refine x_callSN (dC := G11_leastMultiple_dep) (as := [.long r64, .long ((gI μ63 ((207 + 3 * x.2.2.1.toNatClampNeg) + 1) 1).toInt64)]) (st := []) C rX kX (Nat.le_trans (Nat.le_of_ble_eq_true rfl) hd) (Nat.le_of_ble_eq_true rfl) tw_4_144 tw_5_133 tc_4_145 tw_1_1 hyX11 hnX11_leastMultiple rfl (Nat.le_of_ble_eq_true rfl) dX2_tellExplained_76 (G11_leastMultiple_met C.2.2.2.2.2.2.2.1 (Nat.le_refl _)  h) (fun r0 μ66 hq => ?_)
      obtain ⟨r67, rfl, h⟩ := hq
      refine x_st [.long r67] rfl ?_
      refine x_lstore_n C [(2, .long r67), (0, .ref 202), (4, .int x.2.1), (5, .int x.2.2.1)] rfl (Nat.le_of_ble_eq_true rfl) rfl dX2_tellExplained_79 ?_
      refine x_iload C 2 rfl dX2_tellExplained_80 ?_
      refine x_aload_n C rfl 1 rfl dX2_tellExplained_82 ?_
      refine x_getR (r := 206) C (j := 3) ob202.1 ob202.2 (Nat.le_of_ble_eq_true rfl) (Nat.le_of_ble_eq_true rfl) (fun _ _ _ => rfl) r_202_3 tw_2_95 dX2_tellExplained_83 ?_
      refine x_iload C 3 rfl dX2_tellExplained_86 ?_
      obtain ⟨c68, h⟩ := h
      refine x_aald (r := (207 + 3 * x.2.2.1.toNatClampNeg)) C ob206.1 (by decide) (by decide) c68 rfl (rA206 c68) dX2_tellExplained_88 ?_
      refine x_callVN (dC := G9_all_dep) (as := []) (st := [.int x.2.1]) C rX kX (Nat.le_trans (Nat.le_of_ble_eq_true rfl) hd) (Nat.le_of_ble_eq_true rfl) (obA206 c68).1 (obA206 c68).2 (Nat.le_of_ble_eq_true rfl) rfl ts_3_9 tw_4_52 tw_5_134 tc_4_53 tw_1_7 hyX9 hnX9_all rfl (Nat.le_of_ble_eq_true rfl) dX2_tellExplained_89 (G9_all_met C.2.2.2.2.2.2.2.1 (Nat.le_refl _) (obA206 c68) h) (fun r0 μ69 hq => ?_)
      obtain ⟨r70, rfl, h⟩ := hq
      refine x_st [.int r70, .int x.2.1] rfl ?_
      refine x_iadd C dX2_tellExplained_92 ?_
      refine x_topi (fun y71 e_y71 => ?_)
      have h := h y71 e_y71
      refine x_istore C [(4, .int y71), (2, .long r67), (0, .ref 202), (5, .int x.2.2.1)] (Nat.le_of_ble_eq_true rfl) rfl dX2_tellExplained_93 ?_
      refine x_iinc (v := (x.2.2.1 + 1)) C [(5, .int (x.2.2.1 + 1)), (4, .int y71), (2, .long r67), (0, .ref 202)] 3 rfl (congrArg (fun z => x.2.2.1 + z) (by decide : Int32.ofInt (1) = 1)) (Nat.le_of_ble_eq_true rfl) rfl dX2_tellExplained_95 ?_
      refine x_goto (tgt := 24) C dX2_tellExplained_98 (by decide) ?_
      refine x_sub [(0, .ref 202), (2, .long r67), (4, .int y71), (5, .int (x.2.2.1 + 1))] [3, 2, 1, 0] rfl ?_
      exact hK24 _ _ _ _ h
theorem G2_tellExplained_L24_ok {p : Program} {e : Env} {s : State} {m : MethodId} {args : Array Value} {below : List Frame} {meth : Method} {c : Code} {l : Launch} {φ : Nat → Nat} {tc : Nat → ClassId} {D : va_G} {s0 : State} {dR : Nat} (C : CX p s m args meth c φ tc D (AX φ) s0 cX2_tellExplained RX2 9) (hd : G2_tellExplained_dep ≤ dR) (hr : meth.sig.returnType = (some .int))   {Q : Int32 → MM → Prop}  {x : Int64 × Int32 × Int32 × MM}    (h : Lp (G2_tellExplained_L24  Q) x) : WX p l e (rmX dR) s m args below meth c φ tc D (AX φ) 9 0 0 (MQ below (QX φ tc D (QI Q)) args s 0 0 (AX φ)) 24 [(0, .ref 202), (2, .long x.1), (4, .int x.2.1), (5, .int x.2.2.1)] [] x.2.2.2 := by
  obtain ⟨n, h⟩ := h
  induction n generalizing x with
  | zero => exact h.elim
  | succ n ih => exact G2_tellExplained_L24_b C hd hr   (fun z2 z4 z5 zμ hz => by have q := ih hz; exact q) h
set_option maxHeartbeats 4000000 in
set_option maxRecDepth 100000 in
theorem G2_tellExplained_met {l : Launch} {φ : Nat → Nat} {tc : Nat → ClassId} {D : va_G} {s0 : State} (hG : GX φ tc D s0) {dR : Nat} (hd : G2_tellExplained_dep ≤ dR) {v1 : Int32} {μ : MM} {Q : Int32 → MM → Prop}  (h : G2_tellExplained v1 μ Q) : MX l φ tc D s0 dR yX2_tellExplained cX2_tellExplained 9 (some .int) [.ref 202, .int v1] μ (QI Q) := by
  refine MX.of (own := RX2) hG plX2 rfl (Nat.le_of_ble_eq_true rfl) (fun p e s m args below meth c C hr => ?_)
  refine x_sub [(0, .ref 202), (1, .int v1)] [0, 1] rfl ?_
  unfold G2_tellExplained at h
  refine x_iload_n C rfl 1 rfl dX2_tellExplained_0 ?_
  refine x_iconst (v := 0) C (by decide) dX2_tellExplained_1 ?_
  refine x_iconst (v := 3) C (by decide) dX2_tellExplained_2 ?_
  refine x_callSN (dC := G11_within_dep) (as := [.int v1, .int 0, .int 3]) (st := []) C rX kX (Nat.le_trans (Nat.le_of_ble_eq_true rfl) hd) (Nat.le_of_ble_eq_true rfl) tw_2_196 tw_5_103 tc_2_197 tw_1_1 hyX11 hnX11_within rfl (Nat.le_of_ble_eq_true rfl) dX2_tellExplained_3 (G11_within_met C.2.2.2.2.2.2.2.1 (Nat.le_refl _)  h) (fun r0 μ34 hq => ?_)
  obtain ⟨r35, rfl, h⟩ := hq
  refine x_st [.int r35] rfl ?_
  refine x_if_ne (tgt := 11) C dX2_tellExplained_6 (by decide) (fun c36 => ?_) (fun c36 => ?_)
  · have h := h.1 c36
    refine x_aload_n C rfl 0 rfl dX2_tellExplained_11 ?_
    refine x_iload_n C rfl 1 rfl dX2_tellExplained_12 ?_
    refine x_callV (dC := G2_gatherBy_dep) (as := [.int v1]) (st := []) C rX kX (Nat.le_trans (Nat.le_of_ble_eq_true rfl) hd) (Nat.le_of_ble_eq_true rfl) ob202.1 ob202.2 (Nat.le_of_ble_eq_true rfl) rfl ts_6_10 tw_5_127 tw_5_125 tc_5_128 tw_1_10 hyX2 hnX2_gatherBy rfl (Nat.le_of_ble_eq_true rfl) dX2_tellExplained_13 (G2_gatherBy_met C.2.2.2.2.2.2.2.1 (Nat.le_refl _)  h) (fun r0 μ37 hq => ?_)
    obtain ⟨rfl, h⟩ := hq
    refine x_st [] rfl ?_
    refine x_lconst (v := 1) C (by decide) dX2_tellExplained_16 ?_
    refine x_lstore_n C [(2, .long 1), (0, .ref 202), (1, .int v1)] rfl (Nat.le_of_ble_eq_true rfl) rfl dX2_tellExplained_17 ?_
    refine x_iconst (v := 0) C (by decide) dX2_tellExplained_18 ?_
    refine x_istore C [(4, .int 0), (2, .long 1), (0, .ref 202), (1, .int v1)] (Nat.le_of_ble_eq_true rfl) rfl dX2_tellExplained_19 ?_
    refine x_iconst (v := 0) C (by decide) dX2_tellExplained_21 ?_
    refine x_istore C [(5, .int 0), (4, .int 0), (2, .long 1), (0, .ref 202), (1, .int v1)] (Nat.le_of_ble_eq_true rfl) rfl dX2_tellExplained_22 ?_
    refine x_sub [(0, .ref 202), (2, .long 1), (4, .int 0), (5, .int 0)] [3, 2, 1, 0] rfl ?_
    exact G2_tellExplained_L24_ok C hd hr  h
  · have h := h.2 c36
    refine x_iconst (v := (-1)) C (by decide) dX2_tellExplained_9 ?_
    exact x_iret C hr dX2_tellExplained_10 ⟨_, rfl, h⟩
