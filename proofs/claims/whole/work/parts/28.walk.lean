set_option maxHeartbeats 4000000 in
set_option maxRecDepth 100000 in
theorem G12_acted_J183_ok {p : Program} {e : Env} {s : State} {m : MethodId} {args : Array Value} {below : List Frame} {meth : Method} {c : Code} {l : Launch} {φ : Nat → Nat} {tc : Nat → ClassId} {D : va_G} {s0 : State} {dR : Nat} (C : CX p s m args meth c φ tc D (AX φ) s0 cX12_acted RX12 3) (hd : G12_acted_dep ≤ dR) (hr : meth.sig.returnType = (some .int))   {q0 : Int32} {Q : Int32 → MM → Prop}  {μ : MM}    (h : G12_acted_J183 q0 μ Q) : WX p l e (rmX dR) s m args below meth c φ tc D (AX φ) 3 0 0 (MQ below (QX φ tc D (QI Q)) args s 0 0 (AX φ)) 183 [] [.int q0] μ := by
  unfold G12_acted_J183 at h
  refine x_callS (dC := G12_flag_dep) (as := [.int q0]) (st := []) C rX kX (Nat.le_trans (Nat.le_of_ble_eq_true rfl) hd) (Nat.le_of_ble_eq_true rfl) tw_6_212 tw_6_211 tc_6_213 tw_1_13 hyX12 hnX12_flag rfl (Nat.le_of_ble_eq_true rfl) dX12_acted_183 (G12_flag_met C.2.2.2.2.2.2.2.1 (Nat.le_refl _)  h) (fun r0 μ13 hq => ?_)
  obtain ⟨r14, rfl, h⟩ := hq
  refine x_st [.int r14] rfl ?_
  exact x_iret C hr dX12_acted_186 ⟨_, rfl, h⟩
set_option maxHeartbeats 4000000 in
set_option maxRecDepth 100000 in
theorem G12_acted_J182_ok {p : Program} {e : Env} {s : State} {m : MethodId} {args : Array Value} {below : List Frame} {meth : Method} {c : Code} {l : Launch} {φ : Nat → Nat} {tc : Nat → ClassId} {D : va_G} {s0 : State} {dR : Nat} (C : CX p s m args meth c φ tc D (AX φ) s0 cX12_acted RX12 3) (hd : G12_acted_dep ≤ dR) (hr : meth.sig.returnType = (some .int))    {Q : Int32 → MM → Prop}  {μ : MM}    (h : G12_acted_J182 μ Q) : WX p l e (rmX dR) s m args below meth c φ tc D (AX φ) 3 0 0 (MQ below (QX φ tc D (QI Q)) args s 0 0 (AX φ)) 182 [] [] μ := by
  unfold G12_acted_J182 at h
  refine x_iconst (v := 0) C (by decide) dX12_acted_182 ?_
  exact G12_acted_J183_ok C hd hr  h
set_option maxHeartbeats 4000000 in
set_option maxRecDepth 100000 in
theorem G12_acted_J138_ok {p : Program} {e : Env} {s : State} {m : MethodId} {args : Array Value} {below : List Frame} {meth : Method} {c : Code} {l : Launch} {φ : Nat → Nat} {tc : Nat → ClassId} {D : va_G} {s0 : State} {dR : Nat} (C : CX p s m args meth c φ tc D (AX φ) s0 cX12_acted RX12 3) (hd : G12_acted_dep ≤ dR) (hr : meth.sig.returnType = (some .int))   {q0 : Int32} {Q : Int32 → MM → Prop}  {μ : MM}    (h : G12_acted_J138 q0 μ Q) : WX p l e (rmX dR) s m args below meth c φ tc D (AX φ) 3 0 0 (MQ below (QX φ tc D (QI Q)) args s 0 0 (AX φ)) 138 [] [.int q0] μ := by
  unfold G12_acted_J138 at h
  refine x_callS (dC := G12_flag_dep) (as := [.int q0]) (st := []) C rX kX (Nat.le_trans (Nat.le_of_ble_eq_true rfl) hd) (Nat.le_of_ble_eq_true rfl) tw_6_212 tw_6_211 tc_6_213 tw_1_13 hyX12 hnX12_flag rfl (Nat.le_of_ble_eq_true rfl) dX12_acted_138 (G12_flag_met C.2.2.2.2.2.2.2.1 (Nat.le_refl _)  h) (fun r0 μ21 hq => ?_)
  obtain ⟨r22, rfl, h⟩ := hq
  refine x_st [.int r22] rfl ?_
  exact x_iret C hr dX12_acted_141 ⟨_, rfl, h⟩
set_option maxHeartbeats 4000000 in
set_option maxRecDepth 100000 in
theorem G12_acted_J166_ok {p : Program} {e : Env} {s : State} {m : MethodId} {args : Array Value} {below : List Frame} {meth : Method} {c : Code} {l : Launch} {φ : Nat → Nat} {tc : Nat → ClassId} {D : va_G} {s0 : State} {dR : Nat} (C : CX p s m args meth c φ tc D (AX φ) s0 cX12_acted RX12 3) (hd : G12_acted_dep ≤ dR) (hr : meth.sig.returnType = (some .int))   {q0 : Int32} {Q : Int32 → MM → Prop}  {μ : MM}    (h : G12_acted_J166 q0 μ Q) : WX p l e (rmX dR) s m args below meth c φ tc D (AX φ) 3 0 0 (MQ below (QX φ tc D (QI Q)) args s 0 0 (AX φ)) 166 [] [.int q0] μ := by
  unfold G12_acted_J166 at h
  refine x_callS (dC := G12_flag_dep) (as := [.int q0]) (st := []) C rX kX (Nat.le_trans (Nat.le_of_ble_eq_true rfl) hd) (Nat.le_of_ble_eq_true rfl) tw_6_212 tw_6_211 tc_6_213 tw_1_13 hyX12 hnX12_flag rfl (Nat.le_of_ble_eq_true rfl) dX12_acted_166 (G12_flag_met C.2.2.2.2.2.2.2.1 (Nat.le_refl _)  h) (fun r0 μ25 hq => ?_)
  obtain ⟨r26, rfl, h⟩ := hq
  refine x_st [.int r26] rfl ?_
  exact x_iret C hr dX12_acted_169 ⟨_, rfl, h⟩
set_option maxHeartbeats 4000000 in
set_option maxRecDepth 100000 in
theorem G12_acted_J152_ok {p : Program} {e : Env} {s : State} {m : MethodId} {args : Array Value} {below : List Frame} {meth : Method} {c : Code} {l : Launch} {φ : Nat → Nat} {tc : Nat → ClassId} {D : va_G} {s0 : State} {dR : Nat} (C : CX p s m args meth c φ tc D (AX φ) s0 cX12_acted RX12 3) (hd : G12_acted_dep ≤ dR) (hr : meth.sig.returnType = (some .int))   {q0 : Int32} {Q : Int32 → MM → Prop}  {μ : MM}    (h : G12_acted_J152 q0 μ Q) : WX p l e (rmX dR) s m args below meth c φ tc D (AX φ) 3 0 0 (MQ below (QX φ tc D (QI Q)) args s 0 0 (AX φ)) 152 [] [.int q0] μ := by
  unfold G12_acted_J152 at h
  refine x_callS (dC := G12_flag_dep) (as := [.int q0]) (st := []) C rX kX (Nat.le_trans (Nat.le_of_ble_eq_true rfl) hd) (Nat.le_of_ble_eq_true rfl) tw_6_212 tw_6_211 tc_6_213 tw_1_13 hyX12 hnX12_flag rfl (Nat.le_of_ble_eq_true rfl) dX12_acted_152 (G12_flag_met C.2.2.2.2.2.2.2.1 (Nat.le_refl _)  h) (fun r0 μ29 hq => ?_)
  obtain ⟨r30, rfl, h⟩ := hq
  refine x_st [.int r30] rfl ?_
  exact x_iret C hr dX12_acted_155 ⟨_, rfl, h⟩
set_option maxHeartbeats 4000000 in
set_option maxRecDepth 100000 in
theorem G12_acted_J200_ok {p : Program} {e : Env} {s : State} {m : MethodId} {args : Array Value} {below : List Frame} {meth : Method} {c : Code} {l : Launch} {φ : Nat → Nat} {tc : Nat → ClassId} {D : va_G} {s0 : State} {dR : Nat} (C : CX p s m args meth c φ tc D (AX φ) s0 cX12_acted RX12 3) (hd : G12_acted_dep ≤ dR) (hr : meth.sig.returnType = (some .int))   {q0 : Int32} {Q : Int32 → MM → Prop}  {μ : MM}    (h : G12_acted_J200 q0 μ Q) : WX p l e (rmX dR) s m args below meth c φ tc D (AX φ) 3 0 0 (MQ below (QX φ tc D (QI Q)) args s 0 0 (AX φ)) 200 [] [.int q0] μ := by
  unfold G12_acted_J200 at h
  refine x_callS (dC := G12_flag_dep) (as := [.int q0]) (st := []) C rX kX (Nat.le_trans (Nat.le_of_ble_eq_true rfl) hd) (Nat.le_of_ble_eq_true rfl) tw_6_212 tw_6_211 tc_6_213 tw_1_13 hyX12 hnX12_flag rfl (Nat.le_of_ble_eq_true rfl) dX12_acted_200 (G12_flag_met C.2.2.2.2.2.2.2.1 (Nat.le_refl _)  h) (fun r0 μ32 hq => ?_)
  obtain ⟨r33, rfl, h⟩ := hq
  refine x_st [.int r33] rfl ?_
  exact x_iret C hr dX12_acted_203 ⟨_, rfl, h⟩
set_option maxHeartbeats 4000000 in
set_option maxRecDepth 100000 in
theorem G12_acted_J195_ok {p : Program} {e : Env} {s : State} {m : MethodId} {args : Array Value} {below : List Frame} {meth : Method} {c : Code} {l : Launch} {φ : Nat → Nat} {tc : Nat → ClassId} {D : va_G} {s0 : State} {dR : Nat} (C : CX p s m args meth c φ tc D (AX φ) s0 cX12_acted RX12 3) (hd : G12_acted_dep ≤ dR) (hr : meth.sig.returnType = (some .int))    {Q : Int32 → MM → Prop}  {μ : MM}    (h : G12_acted_J195 μ Q) : WX p l e (rmX dR) s m args below meth c φ tc D (AX φ) 3 0 0 (MQ below (QX φ tc D (QI Q)) args s 0 0 (AX φ)) 195 [] [] μ := by
  unfold G12_acted_J195 at h
  refine x_iconst (v := 1) C (by decide) dX12_acted_195 ?_
  refine x_goto (tgt := 200) C dX12_acted_196 (by decide) ?_
  exact G12_acted_J200_ok C hd hr  h
set_option maxHeartbeats 4000000 in
set_option maxRecDepth 100000 in
theorem G12_acted_met {l : Launch} {φ : Nat → Nat} {tc : Nat → ClassId} {D : va_G} {s0 : State} (hG : GX φ tc D s0) {dR : Nat} (hd : G12_acted_dep ≤ dR) {v0 : Int32} {v1 : Int32} {v2 : Int32} {μ : MM} {Q : Int32 → MM → Prop}  (h : G12_acted v0 v1 v2 μ Q) : MX l φ tc D s0 dR yX12_acted cX12_acted 3 (some .int) [.int v0, .int v1, .int v2] μ (QI Q) := by
  refine MX.of (own := RX12) hG plX12 rfl (Nat.le_of_ble_eq_true rfl) (fun p e s m args below meth c C hr => ?_)
  refine x_sub [(0, .int v0), (1, .int v1), (2, .int v2)] [0, 1, 2] rfl ?_
  unfold G12_acted at h
  refine x_iload_n C rfl 0 rfl dX12_acted_0 ?_
  by_cases c11 : v0 = 38
  · have h := h.1 c11
    refine x_tIn (tgt := 170) C dX12_acted_1 (by rw [c11]; decide) (by rw [c11]; decide) (by rw [c11]; rfl) (by decide) ?_
    refine x_iload_n C rfl 1 rfl dX12_acted_170 ?_
    refine x_if_eq (tgt := 182) C dX12_acted_171 (by decide) (fun c12 => ?_) (fun c12 => ?_)
    · have h := h.1 c12
      refine x_sub [] [] rfl ?_
      exact G12_acted_J182_ok C hd hr  h
    · have h := h.2 c12
      refine x_iload_n C rfl 2 rfl dX12_acted_174 ?_
      refine x_if_eq (tgt := 182) C dX12_acted_175 (by decide) (fun c15 => ?_) (fun c15 => ?_)
      · have h := h.1 c15
        refine x_sub [] [] rfl ?_
        exact G12_acted_J182_ok C hd hr  h
      · have h := h.2 c15
        refine x_iconst (v := 1) C (by decide) dX12_acted_178 ?_
        refine x_goto (tgt := 183) C dX12_acted_179 (by decide) ?_
        refine x_sub [] [] rfl ?_
        exact G12_acted_J183_ok C hd hr  h
  have h := h.2
  by_cases c16 : v0 = 42
  · have h := h.1 c16
    refine x_tIn (tgt := 124) C dX12_acted_1 (by rw [c16]; decide) (by rw [c16]; decide) (by rw [c16]; rfl) (by decide) ?_
    refine x_iload_n C rfl 1 rfl dX12_acted_124 ?_
    refine x_iload_n C rfl 2 rfl dX12_acted_125 ?_
    refine x_imul C dX12_acted_126 ?_
    exact x_iret C hr dX12_acted_127 ⟨_, rfl, h⟩
  have h := h.2
  by_cases c17 : v0 = 43
  · have h := h.1 c17
    refine x_tIn (tgt := 116) C dX12_acted_1 (by rw [c17]; decide) (by rw [c17]; decide) (by rw [c17]; rfl) (by decide) ?_
    refine x_iload_n C rfl 1 rfl dX12_acted_116 ?_
    refine x_iload_n C rfl 2 rfl dX12_acted_117 ?_
    refine x_iadd C dX12_acted_118 ?_
    exact x_iret C hr dX12_acted_119 ⟨_, rfl, h⟩
  have h := h.2
  by_cases c18 : v0 = 45
  · have h := h.1 c18
    refine x_tIn (tgt := 120) C dX12_acted_1 (by rw [c18]; decide) (by rw [c18]; decide) (by rw [c18]; rfl) (by decide) ?_
    refine x_iload_n C rfl 1 rfl dX12_acted_120 ?_
    refine x_iload_n C rfl 2 rfl dX12_acted_121 ?_
    refine x_isub C dX12_acted_122 ?_
    exact x_iret C hr dX12_acted_123 ⟨_, rfl, h⟩
  have h := h.2
  by_cases c19 : v0 = 60
  · have h := h.1 c19
    refine x_tIn (tgt := 128) C dX12_acted_1 (by rw [c19]; decide) (by rw [c19]; decide) (by rw [c19]; rfl) (by decide) ?_
    refine x_iload_n C rfl 1 rfl dX12_acted_128 ?_
    refine x_iload_n C rfl 2 rfl dX12_acted_129 ?_
    refine x_icmp_ge (tgt := 137) C dX12_acted_130 (by decide) (fun c20 => ?_) (fun c20 => ?_)
    · have h := h.1 c20
      refine x_iconst (v := 0) C (by decide) dX12_acted_137 ?_
      refine x_sub [] [] rfl ?_
      exact G12_acted_J138_ok C hd hr  h
    · have h := h.2 c20
      refine x_iconst (v := 1) C (by decide) dX12_acted_133 ?_
      refine x_goto (tgt := 138) C dX12_acted_134 (by decide) ?_
      refine x_sub [] [] rfl ?_
      exact G12_acted_J138_ok C hd hr  h
  have h := h.2
  by_cases c23 : v0 = 61
  · have h := h.1 c23
    refine x_tIn (tgt := 156) C dX12_acted_1 (by rw [c23]; decide) (by rw [c23]; decide) (by rw [c23]; rfl) (by decide) ?_
    refine x_iload_n C rfl 1 rfl dX12_acted_156 ?_
    refine x_iload_n C rfl 2 rfl dX12_acted_157 ?_
    refine x_icmp_ne (tgt := 165) C dX12_acted_158 (by decide) (fun c24 => ?_) (fun c24 => ?_)
    · have h := h.1 c24
      refine x_iconst (v := 0) C (by decide) dX12_acted_165 ?_
      refine x_sub [] [] rfl ?_
      exact G12_acted_J166_ok C hd hr  h
    · have h := h.2 c24
      refine x_iconst (v := 1) C (by decide) dX12_acted_161 ?_
      refine x_goto (tgt := 166) C dX12_acted_162 (by decide) ?_
      refine x_sub [] [] rfl ?_
      exact G12_acted_J166_ok C hd hr  h
  have h := h.2
  by_cases c27 : v0 = 62
  · have h := h.1 c27
    refine x_tIn (tgt := 142) C dX12_acted_1 (by rw [c27]; decide) (by rw [c27]; decide) (by rw [c27]; rfl) (by decide) ?_
    refine x_iload_n C rfl 1 rfl dX12_acted_142 ?_
    refine x_iload_n C rfl 2 rfl dX12_acted_143 ?_
    refine x_icmp_le (tgt := 151) C dX12_acted_144 (by decide) (fun c28 => ?_) (fun c28 => ?_)
    · have h := h.1 c28
      refine x_iconst (v := 0) C (by decide) dX12_acted_151 ?_
      refine x_sub [] [] rfl ?_
      exact G12_acted_J152_ok C hd hr  h
    · have h := h.2 c28
      refine x_iconst (v := 1) C (by decide) dX12_acted_147 ?_
      refine x_goto (tgt := 152) C dX12_acted_148 (by decide) ?_
      refine x_sub [] [] rfl ?_
      exact G12_acted_J152_ok C hd hr  h
  have h := h.2
  have h := h c11 c16 c17 c18 c19 c23 c27
  have n_c11 := lv_neT (a := 38) c11 (by decide)
  have n_c16 := lv_neT (a := 42) c16 (by decide)
  have n_c17 := lv_neT (a := 43) c17 (by decide)
  have n_c18 := lv_neT (a := 45) c18 (by decide)
  have n_c19 := lv_neT (a := 60) c19 (by decide)
  have n_c23 := lv_neT (a := 61) c23 (by decide)
  have n_c27 := lv_neT (a := 62) c27 (by decide)
  by_cases c35 : v0 = 39
  · refine x_tIn (tgt := 187) C dX12_acted_1 (by rw [c35]; decide) (by rw [c35]; decide) (by rw [c35]; rfl) (by decide) ?_
    refine x_iload_n C rfl 1 rfl dX12_acted_187 ?_
    refine x_if_ne (tgt := 195) C dX12_acted_188 (by decide) (fun c31 => ?_) (fun c31 => ?_)
    · have h := h.1 c31
      refine x_sub [] [] rfl ?_
      exact G12_acted_J195_ok C hd hr  h
    · have h := h.2 c31
      refine x_iload_n C rfl 2 rfl dX12_acted_191 ?_
      refine x_if_eq (tgt := 199) C dX12_acted_192 (by decide) (fun c34 => ?_) (fun c34 => ?_)
      · have h := h.1 c34
        refine x_iconst (v := 0) C (by decide) dX12_acted_199 ?_
        refine x_sub [] [] rfl ?_
        exact G12_acted_J200_ok C hd hr  h
      · have h := h.2 c34
        refine x_sub [] [] rfl ?_
        exact G12_acted_J195_ok C hd hr  h
  have n_c35 := lv_neT (a := 39) c35 (by decide)
  by_cases c36 : v0 = 40
  · refine x_tIn (tgt := 187) C dX12_acted_1 (by rw [c36]; decide) (by rw [c36]; decide) (by rw [c36]; rfl) (by decide) ?_
    refine x_iload_n C rfl 1 rfl dX12_acted_187 ?_
    refine x_if_ne (tgt := 195) C dX12_acted_188 (by decide) (fun c31 => ?_) (fun c31 => ?_)
    · have h := h.1 c31
      refine x_sub [] [] rfl ?_
      exact G12_acted_J195_ok C hd hr  h
    · have h := h.2 c31
      refine x_iload_n C rfl 2 rfl dX12_acted_191 ?_
      refine x_if_eq (tgt := 199) C dX12_acted_192 (by decide) (fun c34 => ?_) (fun c34 => ?_)
      · have h := h.1 c34
        refine x_iconst (v := 0) C (by decide) dX12_acted_199 ?_
        refine x_sub [] [] rfl ?_
        exact G12_acted_J200_ok C hd hr  h
      · have h := h.2 c34
        refine x_sub [] [] rfl ?_
        exact G12_acted_J195_ok C hd hr  h
  have n_c36 := lv_neT (a := 40) c36 (by decide)
  by_cases c37 : v0 = 41
  · refine x_tIn (tgt := 187) C dX12_acted_1 (by rw [c37]; decide) (by rw [c37]; decide) (by rw [c37]; rfl) (by decide) ?_
    refine x_iload_n C rfl 1 rfl dX12_acted_187 ?_
    refine x_if_ne (tgt := 195) C dX12_acted_188 (by decide) (fun c31 => ?_) (fun c31 => ?_)
    · have h := h.1 c31
      refine x_sub [] [] rfl ?_
      exact G12_acted_J195_ok C hd hr  h
    · have h := h.2 c31
      refine x_iload_n C rfl 2 rfl dX12_acted_191 ?_
      refine x_if_eq (tgt := 199) C dX12_acted_192 (by decide) (fun c34 => ?_) (fun c34 => ?_)
      · have h := h.1 c34
        refine x_iconst (v := 0) C (by decide) dX12_acted_199 ?_
        refine x_sub [] [] rfl ?_
        exact G12_acted_J200_ok C hd hr  h
      · have h := h.2 c34
        refine x_sub [] [] rfl ?_
        exact G12_acted_J195_ok C hd hr  h
  have n_c37 := lv_neT (a := 41) c37 (by decide)
  by_cases c38 : v0 = 44
  · refine x_tIn (tgt := 187) C dX12_acted_1 (by rw [c38]; decide) (by rw [c38]; decide) (by rw [c38]; rfl) (by decide) ?_
    refine x_iload_n C rfl 1 rfl dX12_acted_187 ?_
    refine x_if_ne (tgt := 195) C dX12_acted_188 (by decide) (fun c31 => ?_) (fun c31 => ?_)
    · have h := h.1 c31
      refine x_sub [] [] rfl ?_
      exact G12_acted_J195_ok C hd hr  h
    · have h := h.2 c31
      refine x_iload_n C rfl 2 rfl dX12_acted_191 ?_
      refine x_if_eq (tgt := 199) C dX12_acted_192 (by decide) (fun c34 => ?_) (fun c34 => ?_)
      · have h := h.1 c34
        refine x_iconst (v := 0) C (by decide) dX12_acted_199 ?_
        refine x_sub [] [] rfl ?_
        exact G12_acted_J200_ok C hd hr  h
      · have h := h.2 c34
        refine x_sub [] [] rfl ?_
        exact G12_acted_J195_ok C hd hr  h
  have n_c38 := lv_neT (a := 44) c38 (by decide)
  by_cases c39 : v0 = 46
  · refine x_tIn (tgt := 187) C dX12_acted_1 (by rw [c39]; decide) (by rw [c39]; decide) (by rw [c39]; rfl) (by decide) ?_
    refine x_iload_n C rfl 1 rfl dX12_acted_187 ?_
    refine x_if_ne (tgt := 195) C dX12_acted_188 (by decide) (fun c31 => ?_) (fun c31 => ?_)
    · have h := h.1 c31
      refine x_sub [] [] rfl ?_
      exact G12_acted_J195_ok C hd hr  h
    · have h := h.2 c31
      refine x_iload_n C rfl 2 rfl dX12_acted_191 ?_
      refine x_if_eq (tgt := 199) C dX12_acted_192 (by decide) (fun c34 => ?_) (fun c34 => ?_)
      · have h := h.1 c34
        refine x_iconst (v := 0) C (by decide) dX12_acted_199 ?_
        refine x_sub [] [] rfl ?_
        exact G12_acted_J200_ok C hd hr  h
      · have h := h.2 c34
        refine x_sub [] [] rfl ?_
        exact G12_acted_J195_ok C hd hr  h
  have n_c39 := lv_neT (a := 46) c39 (by decide)
  by_cases c40 : v0 = 47
  · refine x_tIn (tgt := 187) C dX12_acted_1 (by rw [c40]; decide) (by rw [c40]; decide) (by rw [c40]; rfl) (by decide) ?_
    refine x_iload_n C rfl 1 rfl dX12_acted_187 ?_
    refine x_if_ne (tgt := 195) C dX12_acted_188 (by decide) (fun c31 => ?_) (fun c31 => ?_)
    · have h := h.1 c31
      refine x_sub [] [] rfl ?_
      exact G12_acted_J195_ok C hd hr  h
    · have h := h.2 c31
      refine x_iload_n C rfl 2 rfl dX12_acted_191 ?_
      refine x_if_eq (tgt := 199) C dX12_acted_192 (by decide) (fun c34 => ?_) (fun c34 => ?_)
      · have h := h.1 c34
        refine x_iconst (v := 0) C (by decide) dX12_acted_199 ?_
        refine x_sub [] [] rfl ?_
        exact G12_acted_J200_ok C hd hr  h
      · have h := h.2 c34
        refine x_sub [] [] rfl ?_
        exact G12_acted_J195_ok C hd hr  h
  have n_c40 := lv_neT (a := 47) c40 (by decide)
  by_cases c41 : v0 = 48
  · refine x_tIn (tgt := 187) C dX12_acted_1 (by rw [c41]; decide) (by rw [c41]; decide) (by rw [c41]; rfl) (by decide) ?_
    refine x_iload_n C rfl 1 rfl dX12_acted_187 ?_
    refine x_if_ne (tgt := 195) C dX12_acted_188 (by decide) (fun c31 => ?_) (fun c31 => ?_)
    · have h := h.1 c31
      refine x_sub [] [] rfl ?_
      exact G12_acted_J195_ok C hd hr  h
    · have h := h.2 c31
      refine x_iload_n C rfl 2 rfl dX12_acted_191 ?_
      refine x_if_eq (tgt := 199) C dX12_acted_192 (by decide) (fun c34 => ?_) (fun c34 => ?_)
      · have h := h.1 c34
        refine x_iconst (v := 0) C (by decide) dX12_acted_199 ?_
        refine x_sub [] [] rfl ?_
        exact G12_acted_J200_ok C hd hr  h
      · have h := h.2 c34
        refine x_sub [] [] rfl ?_
        exact G12_acted_J195_ok C hd hr  h
  have n_c41 := lv_neT (a := 48) c41 (by decide)
  by_cases c42 : v0 = 49
  · refine x_tIn (tgt := 187) C dX12_acted_1 (by rw [c42]; decide) (by rw [c42]; decide) (by rw [c42]; rfl) (by decide) ?_
    refine x_iload_n C rfl 1 rfl dX12_acted_187 ?_
    refine x_if_ne (tgt := 195) C dX12_acted_188 (by decide) (fun c31 => ?_) (fun c31 => ?_)
    · have h := h.1 c31
      refine x_sub [] [] rfl ?_
      exact G12_acted_J195_ok C hd hr  h
    · have h := h.2 c31
      refine x_iload_n C rfl 2 rfl dX12_acted_191 ?_
      refine x_if_eq (tgt := 199) C dX12_acted_192 (by decide) (fun c34 => ?_) (fun c34 => ?_)
      · have h := h.1 c34
        refine x_iconst (v := 0) C (by decide) dX12_acted_199 ?_
        refine x_sub [] [] rfl ?_
        exact G12_acted_J200_ok C hd hr  h
      · have h := h.2 c34
        refine x_sub [] [] rfl ?_
        exact G12_acted_J195_ok C hd hr  h
  have n_c42 := lv_neT (a := 49) c42 (by decide)
  by_cases c43 : v0 = 50
  · refine x_tIn (tgt := 187) C dX12_acted_1 (by rw [c43]; decide) (by rw [c43]; decide) (by rw [c43]; rfl) (by decide) ?_
    refine x_iload_n C rfl 1 rfl dX12_acted_187 ?_
    refine x_if_ne (tgt := 195) C dX12_acted_188 (by decide) (fun c31 => ?_) (fun c31 => ?_)
    · have h := h.1 c31
      refine x_sub [] [] rfl ?_
      exact G12_acted_J195_ok C hd hr  h
    · have h := h.2 c31
      refine x_iload_n C rfl 2 rfl dX12_acted_191 ?_
      refine x_if_eq (tgt := 199) C dX12_acted_192 (by decide) (fun c34 => ?_) (fun c34 => ?_)
      · have h := h.1 c34
        refine x_iconst (v := 0) C (by decide) dX12_acted_199 ?_
        refine x_sub [] [] rfl ?_
        exact G12_acted_J200_ok C hd hr  h
      · have h := h.2 c34
        refine x_sub [] [] rfl ?_
        exact G12_acted_J195_ok C hd hr  h
  have n_c43 := lv_neT (a := 50) c43 (by decide)
  by_cases c44 : v0 = 51
  · refine x_tIn (tgt := 187) C dX12_acted_1 (by rw [c44]; decide) (by rw [c44]; decide) (by rw [c44]; rfl) (by decide) ?_
    refine x_iload_n C rfl 1 rfl dX12_acted_187 ?_
    refine x_if_ne (tgt := 195) C dX12_acted_188 (by decide) (fun c31 => ?_) (fun c31 => ?_)
    · have h := h.1 c31
      refine x_sub [] [] rfl ?_
      exact G12_acted_J195_ok C hd hr  h
    · have h := h.2 c31
      refine x_iload_n C rfl 2 rfl dX12_acted_191 ?_
      refine x_if_eq (tgt := 199) C dX12_acted_192 (by decide) (fun c34 => ?_) (fun c34 => ?_)
      · have h := h.1 c34
        refine x_iconst (v := 0) C (by decide) dX12_acted_199 ?_
        refine x_sub [] [] rfl ?_
        exact G12_acted_J200_ok C hd hr  h
      · have h := h.2 c34
        refine x_sub [] [] rfl ?_
        exact G12_acted_J195_ok C hd hr  h
  have n_c44 := lv_neT (a := 51) c44 (by decide)
  by_cases c45 : v0 = 52
  · refine x_tIn (tgt := 187) C dX12_acted_1 (by rw [c45]; decide) (by rw [c45]; decide) (by rw [c45]; rfl) (by decide) ?_
    refine x_iload_n C rfl 1 rfl dX12_acted_187 ?_
    refine x_if_ne (tgt := 195) C dX12_acted_188 (by decide) (fun c31 => ?_) (fun c31 => ?_)
    · have h := h.1 c31
      refine x_sub [] [] rfl ?_
      exact G12_acted_J195_ok C hd hr  h
    · have h := h.2 c31
      refine x_iload_n C rfl 2 rfl dX12_acted_191 ?_
      refine x_if_eq (tgt := 199) C dX12_acted_192 (by decide) (fun c34 => ?_) (fun c34 => ?_)
      · have h := h.1 c34
        refine x_iconst (v := 0) C (by decide) dX12_acted_199 ?_
        refine x_sub [] [] rfl ?_
        exact G12_acted_J200_ok C hd hr  h
      · have h := h.2 c34
        refine x_sub [] [] rfl ?_
        exact G12_acted_J195_ok C hd hr  h
  have n_c45 := lv_neT (a := 52) c45 (by decide)
  by_cases c46 : v0 = 53
  · refine x_tIn (tgt := 187) C dX12_acted_1 (by rw [c46]; decide) (by rw [c46]; decide) (by rw [c46]; rfl) (by decide) ?_
    refine x_iload_n C rfl 1 rfl dX12_acted_187 ?_
    refine x_if_ne (tgt := 195) C dX12_acted_188 (by decide) (fun c31 => ?_) (fun c31 => ?_)
    · have h := h.1 c31
      refine x_sub [] [] rfl ?_
      exact G12_acted_J195_ok C hd hr  h
    · have h := h.2 c31
      refine x_iload_n C rfl 2 rfl dX12_acted_191 ?_
      refine x_if_eq (tgt := 199) C dX12_acted_192 (by decide) (fun c34 => ?_) (fun c34 => ?_)
      · have h := h.1 c34
        refine x_iconst (v := 0) C (by decide) dX12_acted_199 ?_
        refine x_sub [] [] rfl ?_
        exact G12_acted_J200_ok C hd hr  h
      · have h := h.2 c34
        refine x_sub [] [] rfl ?_
        exact G12_acted_J195_ok C hd hr  h
  have n_c46 := lv_neT (a := 53) c46 (by decide)
  by_cases c47 : v0 = 54
  · refine x_tIn (tgt := 187) C dX12_acted_1 (by rw [c47]; decide) (by rw [c47]; decide) (by rw [c47]; rfl) (by decide) ?_
    refine x_iload_n C rfl 1 rfl dX12_acted_187 ?_
    refine x_if_ne (tgt := 195) C dX12_acted_188 (by decide) (fun c31 => ?_) (fun c31 => ?_)
    · have h := h.1 c31
      refine x_sub [] [] rfl ?_
      exact G12_acted_J195_ok C hd hr  h
    · have h := h.2 c31
      refine x_iload_n C rfl 2 rfl dX12_acted_191 ?_
      refine x_if_eq (tgt := 199) C dX12_acted_192 (by decide) (fun c34 => ?_) (fun c34 => ?_)
      · have h := h.1 c34
        refine x_iconst (v := 0) C (by decide) dX12_acted_199 ?_
        refine x_sub [] [] rfl ?_
        exact G12_acted_J200_ok C hd hr  h
      · have h := h.2 c34
        refine x_sub [] [] rfl ?_
        exact G12_acted_J195_ok C hd hr  h
  have n_c47 := lv_neT (a := 54) c47 (by decide)
  by_cases c48 : v0 = 55
  · refine x_tIn (tgt := 187) C dX12_acted_1 (by rw [c48]; decide) (by rw [c48]; decide) (by rw [c48]; rfl) (by decide) ?_
    refine x_iload_n C rfl 1 rfl dX12_acted_187 ?_
    refine x_if_ne (tgt := 195) C dX12_acted_188 (by decide) (fun c31 => ?_) (fun c31 => ?_)
    · have h := h.1 c31
      refine x_sub [] [] rfl ?_
      exact G12_acted_J195_ok C hd hr  h
    · have h := h.2 c31
      refine x_iload_n C rfl 2 rfl dX12_acted_191 ?_
      refine x_if_eq (tgt := 199) C dX12_acted_192 (by decide) (fun c34 => ?_) (fun c34 => ?_)
      · have h := h.1 c34
        refine x_iconst (v := 0) C (by decide) dX12_acted_199 ?_
        refine x_sub [] [] rfl ?_
        exact G12_acted_J200_ok C hd hr  h
      · have h := h.2 c34
        refine x_sub [] [] rfl ?_
        exact G12_acted_J195_ok C hd hr  h
  have n_c48 := lv_neT (a := 55) c48 (by decide)
  by_cases c49 : v0 = 56
  · refine x_tIn (tgt := 187) C dX12_acted_1 (by rw [c49]; decide) (by rw [c49]; decide) (by rw [c49]; rfl) (by decide) ?_
    refine x_iload_n C rfl 1 rfl dX12_acted_187 ?_
    refine x_if_ne (tgt := 195) C dX12_acted_188 (by decide) (fun c31 => ?_) (fun c31 => ?_)
    · have h := h.1 c31
      refine x_sub [] [] rfl ?_
      exact G12_acted_J195_ok C hd hr  h
    · have h := h.2 c31
      refine x_iload_n C rfl 2 rfl dX12_acted_191 ?_
      refine x_if_eq (tgt := 199) C dX12_acted_192 (by decide) (fun c34 => ?_) (fun c34 => ?_)
      · have h := h.1 c34
        refine x_iconst (v := 0) C (by decide) dX12_acted_199 ?_
        refine x_sub [] [] rfl ?_
        exact G12_acted_J200_ok C hd hr  h
      · have h := h.2 c34
        refine x_sub [] [] rfl ?_
        exact G12_acted_J195_ok C hd hr  h
  have n_c49 := lv_neT (a := 56) c49 (by decide)
  by_cases c50 : v0 = 57
  · refine x_tIn (tgt := 187) C dX12_acted_1 (by rw [c50]; decide) (by rw [c50]; decide) (by rw [c50]; rfl) (by decide) ?_
    refine x_iload_n C rfl 1 rfl dX12_acted_187 ?_
    refine x_if_ne (tgt := 195) C dX12_acted_188 (by decide) (fun c31 => ?_) (fun c31 => ?_)
    · have h := h.1 c31
      refine x_sub [] [] rfl ?_
      exact G12_acted_J195_ok C hd hr  h
    · have h := h.2 c31
      refine x_iload_n C rfl 2 rfl dX12_acted_191 ?_
      refine x_if_eq (tgt := 199) C dX12_acted_192 (by decide) (fun c34 => ?_) (fun c34 => ?_)
      · have h := h.1 c34
        refine x_iconst (v := 0) C (by decide) dX12_acted_199 ?_
        refine x_sub [] [] rfl ?_
        exact G12_acted_J200_ok C hd hr  h
      · have h := h.2 c34
        refine x_sub [] [] rfl ?_
        exact G12_acted_J195_ok C hd hr  h
  have n_c50 := lv_neT (a := 57) c50 (by decide)
  by_cases c51 : v0 = 58
  · refine x_tIn (tgt := 187) C dX12_acted_1 (by rw [c51]; decide) (by rw [c51]; decide) (by rw [c51]; rfl) (by decide) ?_
    refine x_iload_n C rfl 1 rfl dX12_acted_187 ?_
    refine x_if_ne (tgt := 195) C dX12_acted_188 (by decide) (fun c31 => ?_) (fun c31 => ?_)
    · have h := h.1 c31
      refine x_sub [] [] rfl ?_
      exact G12_acted_J195_ok C hd hr  h
    · have h := h.2 c31
      refine x_iload_n C rfl 2 rfl dX12_acted_191 ?_
      refine x_if_eq (tgt := 199) C dX12_acted_192 (by decide) (fun c34 => ?_) (fun c34 => ?_)
      · have h := h.1 c34
        refine x_iconst (v := 0) C (by decide) dX12_acted_199 ?_
        refine x_sub [] [] rfl ?_
        exact G12_acted_J200_ok C hd hr  h
      · have h := h.2 c34
        refine x_sub [] [] rfl ?_
        exact G12_acted_J195_ok C hd hr  h
  have n_c51 := lv_neT (a := 58) c51 (by decide)
  by_cases c52 : v0 = 59
  · refine x_tIn (tgt := 187) C dX12_acted_1 (by rw [c52]; decide) (by rw [c52]; decide) (by rw [c52]; rfl) (by decide) ?_
    refine x_iload_n C rfl 1 rfl dX12_acted_187 ?_
    refine x_if_ne (tgt := 195) C dX12_acted_188 (by decide) (fun c31 => ?_) (fun c31 => ?_)
    · have h := h.1 c31
      refine x_sub [] [] rfl ?_
      exact G12_acted_J195_ok C hd hr  h
    · have h := h.2 c31
      refine x_iload_n C rfl 2 rfl dX12_acted_191 ?_
      refine x_if_eq (tgt := 199) C dX12_acted_192 (by decide) (fun c34 => ?_) (fun c34 => ?_)
      · have h := h.1 c34
        refine x_iconst (v := 0) C (by decide) dX12_acted_199 ?_
        refine x_sub [] [] rfl ?_
        exact G12_acted_J200_ok C hd hr  h
      · have h := h.2 c34
        refine x_sub [] [] rfl ?_
        exact G12_acted_J195_ok C hd hr  h
  have n_c52 := lv_neT (a := 59) c52 (by decide)
  refine x_tOut (tgt := 187) C dX12_acted_1 (by omega) (by decide) ?_
  refine x_iload_n C rfl 1 rfl dX12_acted_187 ?_
  refine x_if_ne (tgt := 195) C dX12_acted_188 (by decide) (fun c31 => ?_) (fun c31 => ?_)
  · have h := h.1 c31
    refine x_sub [] [] rfl ?_
    exact G12_acted_J195_ok C hd hr  h
  · have h := h.2 c31
    refine x_iload_n C rfl 2 rfl dX12_acted_191 ?_
    refine x_if_eq (tgt := 199) C dX12_acted_192 (by decide) (fun c34 => ?_) (fun c34 => ?_)
    · have h := h.1 c34
      refine x_iconst (v := 0) C (by decide) dX12_acted_199 ?_
      refine x_sub [] [] rfl ?_
      exact G12_acted_J200_ok C hd hr  h
    · have h := h.2 c34
      refine x_sub [] [] rfl ?_
      exact G12_acted_J195_ok C hd hr  h
set_option maxHeartbeats 4000000 in
set_option maxRecDepth 100000 in
theorem G12_worked_J101_ok {p : Program} {e : Env} {s : State} {m : MethodId} {args : Array Value} {below : List Frame} {meth : Method} {c : Code} {l : Launch} {φ : Nat → Nat} {tc : Nat → ClassId} {D : va_G} {s0 : State} {dR : Nat} (C : CX p s m args meth c φ tc D (AX φ) s0 cX12_worked RX12 6) (hd : G12_worked_dep ≤ dR) (hr : meth.sig.returnType = (some .int))   {p1 : Int32} {p2 : Int32} {p3 : Int32} {p4 : Int32} {q0 : Int32} {q1 : Int32} {Q : Int32 → MM → Prop} {K5 : Int32 × Int32 × MM → Prop} {μ : MM}   (hK5 : ∀ (z3 : Int32) (z4 : Int32) (zμ : MM), K5 (z3, z4, zμ) → WX p l e (rmX dR) s m args below meth c φ tc D (AX φ) 6 0 0 (MQ below (QX φ tc D (QI Q)) args s 0 0 (AX φ)) 5 [(0, .ref 358), (1, .int p1), (2, .int p2), (3, .int z3), (4, .int z4)] [] zμ) (h : G12_worked_J101 p1 p2 p3 p4 q0 q1 μ K5 Q) : WX p l e (rmX dR) s m args below meth c φ tc D (AX φ) 6 0 0 (MQ below (QX φ tc D (QI Q)) args s 0 0 (AX φ)) 101 [(0, .ref 358), (1, .int p1), (2, .int p2), (3, .int p3), (4, .int p4)] [.int q0, .int q1, .ref 379] μ := by
  unfold G12_worked_J101 at h
  refine x_callS (dC := G12_flag_dep) (as := [.int q0]) (st := [.int q1, .ref 379]) C rX kX (Nat.le_trans (Nat.le_of_ble_eq_true rfl) hd) (Nat.le_of_ble_eq_true rfl) tw_6_212 tw_6_211 tc_6_213 tw_1_13 hyX12 hnX12_flag rfl (Nat.le_of_ble_eq_true rfl) dX12_worked_101 (G12_flag_met C.2.2.2.2.2.2.2.1 (Nat.le_refl _)  h) (fun r0 μ42 hq => ?_)
  obtain ⟨r43, rfl, h⟩ := hq
  refine x_st [.int r43, .int q1, .ref 379] rfl ?_
  obtain ⟨c44, h⟩ := h
  refine x_iast C ob379.1 ob379.2 c44 rfl dX12_worked_104 ?_
  refine x_mu (fun μ45 e_μ45 => ?_)
  have h := h μ45 e_μ45
  refine x_goto (tgt := 170) C dX12_worked_105 (by decide) ?_
  refine x_iinc (v := (p4 + 1)) C [(4, .int (p4 + 1)), (0, .ref 358), (1, .int p1), (2, .int p2), (3, .int p3)] 4 rfl (congrArg (fun z => p4 + z) (by decide : Int32.ofInt (1) = 1)) (Nat.le_of_ble_eq_true rfl) rfl dX12_worked_170 ?_
  refine x_goto (tgt := 5) C dX12_worked_173 (by decide) ?_
  refine x_sub [(0, .ref 358), (1, .int p1), (2, .int p2), (3, .int p3), (4, .int (p4 + 1))] [1, 2, 3, 4, 0] rfl ?_
  exact hK5 _ _ _ h
set_option maxHeartbeats 4000000 in
set_option maxRecDepth 100000 in
theorem G12_worked_L5_b {p : Program} {e : Env} {s : State} {m : MethodId} {args : Array Value} {below : List Frame} {meth : Method} {c : Code} {l : Launch} {φ : Nat → Nat} {tc : Nat → ClassId} {D : va_G} {s0 : State} {dR : Nat} (C : CX p s m args meth c φ tc D (AX φ) s0 cX12_worked RX12 6) (hd : G12_worked_dep ≤ dR) (hr : meth.sig.returnType = (some .int))  {p1 : Int32} {p2 : Int32} {Q : Int32 → MM → Prop} {K5 : Int32 × Int32 × MM → Prop} {x : Int32 × Int32 × MM}   (hK5 : ∀ (z3 : Int32) (z4 : Int32) (zμ : MM), K5 (z3, z4, zμ) → WX p l e (rmX dR) s m args below meth c φ tc D (AX φ) 6 0 0 (MQ below (QX φ tc D (QI Q)) args s 0 0 (AX φ)) 5 [(0, .ref 358), (1, .int p1), (2, .int p2), (3, .int z3), (4, .int z4)] [] zμ) (h : G12_worked_L5 p1 p2 Q K5 x) : WX p l e (rmX dR) s m args below meth c φ tc D (AX φ) 6 0 0 (MQ below (QX φ tc D (QI Q)) args s 0 0 (AX φ)) 5 [(0, .ref 358), (1, .int p1), (2, .int p2), (3, .int x.1), (4, .int x.2.1)] [] x.2.2 := by
  unfold G12_worked_L5 at h
  refine x_iload C 4 rfl dX12_worked_5 ?_
  refine x_aload_n C rfl 0 rfl dX12_worked_7 ?_
  refine x_getR (r := 378) C (j := 25) ob358.1 ob358.2 (Nat.le_of_ble_eq_true rfl) (Nat.le_of_ble_eq_true rfl) (fun _ _ _ => rfl) r_358_25 tw_8_231 dX12_worked_8 ?_
  refine x_iload_n C rfl 1 rfl dX12_worked_11 ?_
  obtain ⟨c24, h⟩ := h
  refine x_iald C ob378.1 ob378.2 c24 rfl dX12_worked_12 ?_
  refine x_icmp_ge (tgt := 176) C dX12_worked_13 (by decide) (fun c25 => ?_) (fun c25 => ?_)
  · have h := h.1 c25
    refine x_aload_n C rfl 0 rfl dX12_worked_176 ?_
    refine x_getR (r := 379) C (j := 26) ob358.1 ob358.2 (Nat.le_of_ble_eq_true rfl) (Nat.le_of_ble_eq_true rfl) (fun _ _ _ => rfl) r_358_26 tw_8_232 dX12_worked_177 ?_
    refine x_iconst (v := 0) C (by decide) dX12_worked_180 ?_
    refine x_iald C ob379.1 ob379.2 (by unfold vp_in; decide) (j := 0) (by decide) dX12_worked_181 ?_
    exact x_iret C hr dX12_worked_182 ⟨_, rfl, h⟩
  · have h := h.2 c25
    refine x_aload_n C rfl 0 rfl dX12_worked_16 ?_
    refine x_getR (r := 377) C (j := 24) ob358.1 ob358.2 (Nat.le_of_ble_eq_true rfl) (Nat.le_of_ble_eq_true rfl) (fun _ _ _ => rfl) r_358_24 tw_8_230 dX12_worked_17 ?_
    refine x_bipush (v := 48) C (by decide) dX12_worked_20 ?_
    refine x_iload_n C rfl 1 rfl dX12_worked_22 ?_
    refine x_imul C dX12_worked_23 ?_
    refine x_iload C 4 rfl dX12_worked_24 ?_
    refine x_iadd C dX12_worked_26 ?_
    obtain ⟨c26, h⟩ := h
    refine x_iald C ob377.1 ob377.2 c26 rfl dX12_worked_27 ?_
    refine x_topi (fun y27 e_y27 => ?_)
    have h := h y27 e_y27
    refine x_istore C [(5, .int y27), (0, .ref 358), (1, .int p1), (2, .int p2), (3, .int x.1), (4, .int x.2.1)] (Nat.le_of_ble_eq_true rfl) rfl dX12_worked_28 ?_
    refine x_iload C 0 rfl dX12_worked_30 ?_
    refine x_sipush (v := 2000) C (by decide) dX12_worked_32 ?_
    refine x_icmp_ge (tgt := 70) C dX12_worked_35 (by decide) (fun c28 => ?_) (fun c28 => ?_)
    · have h := h.1 c28
      refine x_iload C 0 rfl dX12_worked_70 ?_
      refine x_sipush (v := 2033) C (by decide) dX12_worked_72 ?_
      refine x_icmp_ne (tgt := 108) C dX12_worked_75 (by decide) (fun c29 => ?_) (fun c29 => ?_)
      · have h := h.1 c29
        refine x_iload C 0 rfl dX12_worked_108 ?_
        refine x_sipush (v := 2126) C (by decide) dX12_worked_110 ?_
        refine x_icmp_ne (tgt := 136) C dX12_worked_113 (by decide) (fun c30 => ?_) (fun c30 => ?_)
        · have h := h.1 c30
          refine x_iinc (v := (x.1 + (-1))) C [(3, .int (x.1 + (-1))), (5, .int y27), (0, .ref 358), (1, .int p1), (2, .int p2), (4, .int x.2.1)] 4 rfl (congrArg (fun z => x.1 + z) (by decide : Int32.ofInt (-1) = (-1))) (Nat.le_of_ble_eq_true rfl) rfl dX12_worked_136 ?_
          refine x_aload_n C rfl 2 rfl dX12_worked_139 ?_
          refine x_getR (r := 379) C (j := 26) ob358.1 ob358.2 (Nat.le_of_ble_eq_true rfl) (Nat.le_of_ble_eq_true rfl) (fun _ _ _ => rfl) r_358_26 tw_8_232 dX12_worked_140 ?_
          refine x_iload_n C rfl 0 rfl dX12_worked_143 ?_
          refine x_iconst (v := 1) C (by decide) dX12_worked_144 ?_
          refine x_isub C dX12_worked_145 ?_
          refine x_iload C 1 rfl dX12_worked_146 ?_
          refine x_sipush (v := 2000) C (by decide) dX12_worked_148 ?_
          refine x_isub C dX12_worked_151 ?_
          refine x_aload_n C rfl 2 rfl dX12_worked_152 ?_
          refine x_getR (r := 379) C (j := 26) ob358.1 ob358.2 (Nat.le_of_ble_eq_true rfl) (Nat.le_of_ble_eq_true rfl) (fun _ _ _ => rfl) r_358_26 tw_8_232 dX12_worked_153 ?_
          refine x_iload_n C rfl 0 rfl dX12_worked_156 ?_
          refine x_iconst (v := 1) C (by decide) dX12_worked_157 ?_
          refine x_isub C dX12_worked_158 ?_
          obtain ⟨c31, h⟩ := h
          refine x_iald C ob379.1 ob379.2 c31 rfl dX12_worked_159 ?_
          refine x_aload_n C rfl 2 rfl dX12_worked_160 ?_
          refine x_getR (r := 379) C (j := 26) ob358.1 ob358.2 (Nat.le_of_ble_eq_true rfl) (Nat.le_of_ble_eq_true rfl) (fun _ _ _ => rfl) r_358_26 tw_8_232 dX12_worked_161 ?_
          refine x_iload_n C rfl 0 rfl dX12_worked_164 ?_
          obtain ⟨c32, h⟩ := h
          refine x_iald C ob379.1 ob379.2 c32 rfl dX12_worked_165 ?_
          refine x_callS (dC := G12_acted_dep) (as := [.int (y27 - 2000), .int (gI x.2.2 379 (((x.1 + (-1)) - 1).toNatClampNeg)), .int (gI x.2.2 379 ((x.1 + (-1)).toNatClampNeg))]) (st := [.int ((x.1 + (-1)) - 1), .ref 379]) C rX kX (Nat.le_trans (Nat.le_of_ble_eq_true rfl) hd) (Nat.le_of_ble_eq_true rfl) tw_7_108 tw_7_107 tc_7_109 tw_1_13 hyX12 hnX12_acted rfl (Nat.le_of_ble_eq_true rfl) dX12_worked_166 (G12_acted_met C.2.2.2.2.2.2.2.1 (Nat.le_refl _)  h) (fun r0 μ33 hq => ?_)
          obtain ⟨r34, rfl, h⟩ := hq
          refine x_st [.int r34, .int ((x.1 + (-1)) - 1), .ref 379] rfl ?_
          obtain ⟨c35, h⟩ := h
          refine x_iast C ob379.1 ob379.2 c35 rfl dX12_worked_169 ?_
          refine x_mu (fun μ36 e_μ36 => ?_)
          have h := h μ36 e_μ36
          refine x_iinc (v := (x.2.1 + 1)) C [(4, .int (x.2.1 + 1)), (3, .int (x.1 + (-1))), (5, .int y27), (0, .ref 358), (1, .int p1), (2, .int p2)] 5 rfl (congrArg (fun z => x.2.1 + z) (by decide : Int32.ofInt (1) = 1)) (Nat.le_of_ble_eq_true rfl) rfl dX12_worked_170 ?_
          refine x_goto (tgt := 5) C dX12_worked_173 (by decide) ?_
          refine x_sub [(0, .ref 358), (1, .int p1), (2, .int p2), (3, .int (x.1 + (-1))), (4, .int (x.2.1 + 1))] [3, 4, 5, 1, 0] rfl ?_
          exact hK5 _ _ _ h
        · have h := h.2 c30
          refine x_aload_n C rfl 1 rfl dX12_worked_116 ?_
          refine x_getR (r := 379) C (j := 26) ob358.1 ob358.2 (Nat.le_of_ble_eq_true rfl) (Nat.le_of_ble_eq_true rfl) (fun _ _ _ => rfl) r_358_26 tw_8_232 dX12_worked_117 ?_
          refine x_iload_n C rfl 4 rfl dX12_worked_120 ?_
          refine x_iconst (v := 1) C (by decide) dX12_worked_121 ?_
          refine x_isub C dX12_worked_122 ?_
          refine x_aload_n C rfl 1 rfl dX12_worked_123 ?_
          refine x_getR (r := 379) C (j := 26) ob358.1 ob358.2 (Nat.le_of_ble_eq_true rfl) (Nat.le_of_ble_eq_true rfl) (fun _ _ _ => rfl) r_358_26 tw_8_232 dX12_worked_124 ?_
          refine x_iload_n C rfl 4 rfl dX12_worked_127 ?_
          refine x_iconst (v := 1) C (by decide) dX12_worked_128 ?_
          refine x_isub C dX12_worked_129 ?_
          obtain ⟨c37, h⟩ := h
          refine x_iald C ob379.1 ob379.2 c37 rfl dX12_worked_130 ?_
          refine x_ineg C dX12_worked_131 ?_
          obtain ⟨c38, h⟩ := h
          refine x_iast C ob379.1 ob379.2 c38 rfl dX12_worked_132 ?_
          refine x_mu (fun μ39 e_μ39 => ?_)
          have h := h μ39 e_μ39
          refine x_goto (tgt := 170) C dX12_worked_133 (by decide) ?_
          refine x_iinc (v := (x.2.1 + 1)) C [(4, .int (x.2.1 + 1)), (5, .int y27), (0, .ref 358), (1, .int p1), (2, .int p2), (3, .int x.1)] 5 rfl (congrArg (fun z => x.2.1 + z) (by decide : Int32.ofInt (1) = 1)) (Nat.le_of_ble_eq_true rfl) rfl dX12_worked_170 ?_
          refine x_goto (tgt := 5) C dX12_worked_173 (by decide) ?_
          refine x_sub [(0, .ref 358), (1, .int p1), (2, .int p2), (3, .int x.1), (4, .int (x.2.1 + 1))] [2, 3, 4, 5, 0] rfl ?_
          exact hK5 _ _ _ h
      · have h := h.2 c29
        refine x_aload_n C rfl 1 rfl dX12_worked_78 ?_
        refine x_getR (r := 379) C (j := 26) ob358.1 ob358.2 (Nat.le_of_ble_eq_true rfl) (Nat.le_of_ble_eq_true rfl) (fun _ _ _ => rfl) r_358_26 tw_8_232 dX12_worked_79 ?_
        refine x_iload_n C rfl 4 rfl dX12_worked_82 ?_
        refine x_iconst (v := 1) C (by decide) dX12_worked_83 ?_
        refine x_isub C dX12_worked_84 ?_
        refine x_aload_n C rfl 1 rfl dX12_worked_85 ?_
        refine x_getR (r := 379) C (j := 26) ob358.1 ob358.2 (Nat.le_of_ble_eq_true rfl) (Nat.le_of_ble_eq_true rfl) (fun _ _ _ => rfl) r_358_26 tw_8_232 dX12_worked_86 ?_
        refine x_iload_n C rfl 4 rfl dX12_worked_89 ?_
        refine x_iconst (v := 1) C (by decide) dX12_worked_90 ?_
        refine x_isub C dX12_worked_91 ?_
        obtain ⟨c40, h⟩ := h
        refine x_iald C ob379.1 ob379.2 c40 rfl dX12_worked_92 ?_
        refine x_if_ne (tgt := 100) C dX12_worked_93 (by decide) (fun c41 => ?_) (fun c41 => ?_)
        · have h := h.1 c41
          refine x_iconst (v := 0) C (by decide) dX12_worked_100 ?_
          refine x_sub [(0, .ref 358), (1, .int p1), (2, .int p2), (3, .int x.1), (4, .int x.2.1)] [1, 2, 3, 4, 5] rfl ?_
          exact G12_worked_J101_ok C hd hr hK5 h
        · have h := h.2 c41
          refine x_iconst (v := 1) C (by decide) dX12_worked_96 ?_
          refine x_goto (tgt := 101) C dX12_worked_97 (by decide) ?_
          refine x_sub [(0, .ref 358), (1, .int p1), (2, .int p2), (3, .int x.1), (4, .int x.2.1)] [1, 2, 3, 4, 5] rfl ?_
          exact G12_worked_J101_ok C hd hr hK5 h
    · have h := h.2 c28
      refine x_aload_n C rfl 1 rfl dX12_worked_38 ?_
      refine x_getR (r := 379) C (j := 26) ob358.1 ob358.2 (Nat.le_of_ble_eq_true rfl) (Nat.le_of_ble_eq_true rfl) (fun _ _ _ => rfl) r_358_26 tw_8_232 dX12_worked_39 ?_
      refine x_iload_n C rfl 4 rfl dX12_worked_42 ?_
      refine x_iload C 0 rfl dX12_worked_43 ?_
      refine x_sipush (v := 1000) C (by decide) dX12_worked_45 ?_
      refine x_icmp_ge (tgt := 56) C dX12_worked_48 (by decide) (fun c46 => ?_) (fun c46 => ?_)
      · have h := h.1 c46
        refine x_aload_n C rfl 1 rfl dX12_worked_56 ?_
        refine x_iload C 0 rfl dX12_worked_57 ?_
        refine x_iload_n C rfl 3 rfl dX12_worked_59 ?_
        refine x_callV (dC := G12_valueOf_dep) (as := [.int y27, .int p2]) (st := [.int x.1, .ref 379]) C rX kX (Nat.le_trans (Nat.le_of_ble_eq_true rfl) hd) (Nat.le_of_ble_eq_true rfl) ob358.1 ob358.2 (Nat.le_of_ble_eq_true rfl) rfl ts_9_11 tw_7_105 tw_7_103 tc_7_106 tw_1_13 hyX12 hnX12_valueOf rfl (Nat.le_of_ble_eq_true rfl) dX12_worked_60 (G12_valueOf_met C.2.2.2.2.2.2.2.1 (Nat.le_refl _)  h) (fun r0 μ47 hq => ?_)
        obtain ⟨r48, rfl, h⟩ := hq
        refine x_st [.int r48, .int x.1, .ref 379] rfl ?_
        obtain ⟨c49, h⟩ := h
        refine x_iast C ob379.1 ob379.2 c49 rfl dX12_worked_63 ?_
        refine x_mu (fun μ50 e_μ50 => ?_)
        have h := h μ50 e_μ50
        refine x_iinc (v := (x.1 + 1)) C [(3, .int (x.1 + 1)), (5, .int y27), (0, .ref 358), (1, .int p1), (2, .int p2), (4, .int x.2.1)] 4 rfl (congrArg (fun z => x.1 + z) (by decide : Int32.ofInt (1) = 1)) (Nat.le_of_ble_eq_true rfl) rfl dX12_worked_64 ?_
        refine x_goto (tgt := 170) C dX12_worked_67 (by decide) ?_
        refine x_iinc (v := (x.2.1 + 1)) C [(4, .int (x.2.1 + 1)), (3, .int (x.1 + 1)), (5, .int y27), (0, .ref 358), (1, .int p1), (2, .int p2)] 5 rfl (congrArg (fun z => x.2.1 + z) (by decide : Int32.ofInt (1) = 1)) (Nat.le_of_ble_eq_true rfl) rfl dX12_worked_170 ?_
        refine x_goto (tgt := 5) C dX12_worked_173 (by decide) ?_
        refine x_sub [(0, .ref 358), (1, .int p1), (2, .int p2), (3, .int (x.1 + 1)), (4, .int (x.2.1 + 1))] [3, 4, 5, 1, 0] rfl ?_
        exact hK5 _ _ _ h
      · have h := h.2 c46
        refine x_iload C 0 rfl dX12_worked_51 ?_
        refine x_goto (tgt := 63) C dX12_worked_53 (by decide) ?_
        obtain ⟨c51, h⟩ := h
        refine x_iast C ob379.1 ob379.2 c51 rfl dX12_worked_63 ?_
        refine x_mu (fun μ52 e_μ52 => ?_)
        have h := h μ52 e_μ52
        refine x_iinc (v := (x.1 + 1)) C [(3, .int (x.1 + 1)), (5, .int y27), (0, .ref 358), (1, .int p1), (2, .int p2), (4, .int x.2.1)] 4 rfl (congrArg (fun z => x.1 + z) (by decide : Int32.ofInt (1) = 1)) (Nat.le_of_ble_eq_true rfl) rfl dX12_worked_64 ?_
        refine x_goto (tgt := 170) C dX12_worked_67 (by decide) ?_
        refine x_iinc (v := (x.2.1 + 1)) C [(4, .int (x.2.1 + 1)), (3, .int (x.1 + 1)), (5, .int y27), (0, .ref 358), (1, .int p1), (2, .int p2)] 5 rfl (congrArg (fun z => x.2.1 + z) (by decide : Int32.ofInt (1) = 1)) (Nat.le_of_ble_eq_true rfl) rfl dX12_worked_170 ?_
        refine x_goto (tgt := 5) C dX12_worked_173 (by decide) ?_
        refine x_sub [(0, .ref 358), (1, .int p1), (2, .int p2), (3, .int (x.1 + 1)), (4, .int (x.2.1 + 1))] [3, 4, 5, 1, 0] rfl ?_
        exact hK5 _ _ _ h
theorem G12_worked_L5_ok {p : Program} {e : Env} {s : State} {m : MethodId} {args : Array Value} {below : List Frame} {meth : Method} {c : Code} {l : Launch} {φ : Nat → Nat} {tc : Nat → ClassId} {D : va_G} {s0 : State} {dR : Nat} (C : CX p s m args meth c φ tc D (AX φ) s0 cX12_worked RX12 6) (hd : G12_worked_dep ≤ dR) (hr : meth.sig.returnType = (some .int))  {p1 : Int32} {p2 : Int32} {Q : Int32 → MM → Prop}  {x : Int32 × Int32 × MM}    (h : Lp (G12_worked_L5 p1 p2 Q) x) : WX p l e (rmX dR) s m args below meth c φ tc D (AX φ) 6 0 0 (MQ below (QX φ tc D (QI Q)) args s 0 0 (AX φ)) 5 [(0, .ref 358), (1, .int p1), (2, .int p2), (3, .int x.1), (4, .int x.2.1)] [] x.2.2 := by
  obtain ⟨n, h⟩ := h
  induction n generalizing x with
  | zero => exact h.elim
  | succ n ih => exact G12_worked_L5_b C hd hr   (fun z3 z4 zμ hz => by have q := ih hz; exact q) h
set_option maxHeartbeats 4000000 in
set_option maxRecDepth 100000 in
theorem G12_worked_met {l : Launch} {φ : Nat → Nat} {tc : Nat → ClassId} {D : va_G} {s0 : State} (hG : GX φ tc D s0) {dR : Nat} (hd : G12_worked_dep ≤ dR) {v1 : Int32} {v2 : Int32} {μ : MM} {Q : Int32 → MM → Prop}  (h : G12_worked v1 v2 μ Q) : MX l φ tc D s0 dR yX12_worked cX12_worked 6 (some .int) [.ref 358, .int v1, .int v2] μ (QI Q) := by
  refine MX.of (own := RX12) hG plX12 rfl (Nat.le_of_ble_eq_true rfl) (fun p e s m args below meth c C hr => ?_)
  refine x_sub [(0, .ref 358), (1, .int v1), (2, .int v2)] [0, 1, 2] rfl ?_
  unfold G12_worked at h
  refine x_iconst (v := 0) C (by decide) dX12_worked_0 ?_
  refine x_istore_n C [(3, .int 0), (0, .ref 358), (1, .int v1), (2, .int v2)] rfl (Nat.le_of_ble_eq_true rfl) rfl dX12_worked_1 ?_
  refine x_iconst (v := 0) C (by decide) dX12_worked_2 ?_
  refine x_istore C [(4, .int 0), (3, .int 0), (0, .ref 358), (1, .int v1), (2, .int v2)] (Nat.le_of_ble_eq_true rfl) rfl dX12_worked_3 ?_
  refine x_sub [(0, .ref 358), (1, .int v1), (2, .int v2), (3, .int 0), (4, .int 0)] [2, 3, 4, 1, 0] rfl ?_
  exact G12_worked_L5_ok C hd hr  h
set_option maxHeartbeats 4000000 in
set_option maxRecDepth 100000 in
theorem G12_isTold_J25_ok {p : Program} {e : Env} {s : State} {m : MethodId} {args : Array Value} {below : List Frame} {meth : Method} {c : Code} {l : Launch} {φ : Nat → Nat} {tc : Nat → ClassId} {D : va_G} {s0 : State} {dR : Nat} (C : CX p s m args meth c φ tc D (AX φ) s0 cX12_isTold RX12 2) (hd : G12_isTold_dep ≤ dR) (hr : meth.sig.returnType = (some .boolean))    {Q : Int32 → MM → Prop}  {μ : MM}    (h : G12_isTold_J25 μ Q) : WX p l e (rmX dR) s m args below meth c φ tc D (AX φ) 2 0 0 (MQ below (QX φ tc D (QI Q)) args s 0 0 (AX φ)) 25 [] [] μ := by
  unfold G12_isTold_J25 at h
  refine x_iconst (v := 0) C (by decide) dX12_isTold_25 ?_
  exact x_zret C hr bo_0 dX12_isTold_26 ⟨_, rfl, h⟩
set_option maxHeartbeats 4000000 in
set_option maxRecDepth 100000 in
theorem G12_isTold_met {l : Launch} {φ : Nat → Nat} {tc : Nat → ClassId} {D : va_G} {s0 : State} (hG : GX φ tc D s0) {dR : Nat} (hd : G12_isTold_dep ≤ dR) {v1 : Int32} {μ : MM} {Q : Int32 → MM → Prop}  (h : G12_isTold v1 μ Q) : MX l φ tc D s0 dR yX12_isTold cX12_isTold 2 (some .boolean) [.ref 358, .int v1] μ (QI Q) := by
  refine MX.of (own := RX12) hG plX12 rfl (Nat.le_of_ble_eq_true rfl) (fun p e s m args below meth c C hr => ?_)
  refine x_sub [(0, .ref 358), (1, .int v1)] [0, 1] rfl ?_
  unfold G12_isTold at h
  refine x_iload_n C rfl 1 rfl dX12_isTold_0 ?_
  refine x_i2l C dX12_isTold_1 ?_
  refine x_lconst (v := 0) C (by decide) dX12_isTold_2 ?_
  refine x_ldc2 (v := 5) C tw_6_191 dX12_isTold_3 ?_
  refine x_callS (dC := G12_in_dep) (as := [.long (v1.toInt64), .long 0, .long 5]) (st := []) C rX kX (Nat.le_trans (Nat.le_of_ble_eq_true rfl) hd) (Nat.le_of_ble_eq_true rfl) tw_6_183 tw_6_182 tc_6_184 tw_1_13 hyX12 hnX12_in rfl (Nat.le_of_ble_eq_true rfl) dX12_isTold_6 (G12_in_met C.2.2.2.2.2.2.2.1 (Nat.le_refl _)  h) (fun r0 μ4 hq => ?_)
  obtain ⟨r5, rfl, h⟩ := hq
  refine x_st [.int r5] rfl ?_
  refine x_if_eq (tgt := 25) C dX12_isTold_9 (by decide) (fun c6 => ?_) (fun c6 => ?_)
  · have h := h.1 c6
    refine x_sub [] [] rfl ?_
    exact G12_isTold_J25_ok C hd hr  h
  · have h := h.2 c6
    refine x_aload_n C rfl 0 rfl dX12_isTold_12 ?_
    refine x_getR (r := 378) C (j := 25) ob358.1 ob358.2 (Nat.le_of_ble_eq_true rfl) (Nat.le_of_ble_eq_true rfl) (fun _ _ _ => rfl) r_358_25 tw_8_231 dX12_isTold_13 ?_
    refine x_iload_n C rfl 1 rfl dX12_isTold_16 ?_
    obtain ⟨c7, h⟩ := h
    refine x_iald C ob378.1 ob378.2 c7 rfl dX12_isTold_17 ?_
    refine x_if_le (tgt := 25) C dX12_isTold_18 (by decide) (fun c8 => ?_) (fun c8 => ?_)
    · have h := h.1 c8
      refine x_sub [] [] rfl ?_
      exact G12_isTold_J25_ok C hd hr  h
    · have h := h.2 c8
      refine x_iconst (v := 1) C (by decide) dX12_isTold_21 ?_
      refine x_goto (tgt := 26) C dX12_isTold_22 (by decide) ?_
      exact x_zret C hr bo_1 dX12_isTold_26 ⟨_, rfl, h⟩
set_option maxHeartbeats 4000000 in
set_option maxRecDepth 100000 in
theorem G12_value_J21_ok {p : Program} {e : Env} {s : State} {m : MethodId} {args : Array Value} {below : List Frame} {meth : Method} {c : Code} {l : Launch} {φ : Nat → Nat} {tc : Nat → ClassId} {D : va_G} {s0 : State} {dR : Nat} (C : CX p s m args meth c φ tc D (AX φ) s0 cX12_value RX12 3) (hd : G12_value_dep ≤ dR) (hr : meth.sig.returnType = (some .int))    {Q : Int32 → MM → Prop}  {μ : MM}    (h : G12_value_J21 μ Q) : WX p l e (rmX dR) s m args below meth c φ tc D (AX φ) 3 0 0 (MQ below (QX φ tc D (QI Q)) args s 0 0 (AX φ)) 21 [(0, .ref 358)] [] μ := by
  unfold G12_value_J21 at h
  refine x_aload_n C rfl 0 rfl dX12_value_21 ?_
  refine x_callV (dC := G12_refuse_dep) (as := []) (st := []) C rX kX (Nat.le_trans (Nat.le_of_ble_eq_true rfl) hd) (Nat.le_of_ble_eq_true rfl) ob358.1 ob358.2 (Nat.le_of_ble_eq_true rfl) rfl ts_9_0 tw_7_6 tw_7_4 tc_7_7 tw_1_13 hyX12 hnX12_refuse rfl (Nat.le_of_ble_eq_true rfl) dX12_value_22 (G12_refuse_met C.2.2.2.2.2.2.2.1 (Nat.le_refl _)  h) (fun r0 μ16 hq => ?_)
  obtain ⟨r17, rfl, h⟩ := hq
  refine x_st [.int r17] rfl ?_
  exact x_iret C hr dX12_value_25 ⟨_, rfl, h⟩
set_option maxHeartbeats 4000000 in
set_option maxRecDepth 100000 in
theorem G12_value_met {l : Launch} {φ : Nat → Nat} {tc : Nat → ClassId} {D : va_G} {s0 : State} (hG : GX φ tc D s0) {dR : Nat} (hd : G12_value_dep ≤ dR) {v1 : Int32} {v2 : Int32} {μ : MM} {Q : Int32 → MM → Prop}  (h : G12_value v1 v2 μ Q) : MX l φ tc D s0 dR yX12_value cX12_value 3 (some .int) [.ref 358, .int v1, .int v2] μ (QI Q) := by
  refine MX.of (own := RX12) hG plX12 rfl (Nat.le_of_ble_eq_true rfl) (fun p e s m args below meth c C hr => ?_)
  refine x_sub [(0, .ref 358), (1, .int v1), (2, .int v2)] [0, 1, 2] rfl ?_
  unfold G12_value at h
  refine x_aload_n C rfl 0 rfl dX12_value_0 ?_
  refine x_iconst (v := 0) C (by decide) dX12_value_1 ?_
  refine x_putI C (j := 0) ob358.1 ob358.2 (Nat.le_of_ble_eq_true rfl) (Nat.le_of_ble_eq_true rfl) (Or.inl rfl) rfl rfl rfl tw_8_206 dX12_value_2 ?_
  refine x_mu (fun μ12 e_μ12 => ?_)
  have h := h μ12 e_μ12
  refine x_aload_n C rfl 0 rfl dX12_value_5 ?_
  refine x_iload_n C rfl 2 rfl dX12_value_6 ?_
  refine x_callV (dC := G12_isLetter_dep) (as := [.int v2]) (st := []) C rX kX (Nat.le_trans (Nat.le_of_ble_eq_true rfl) hd) (Nat.le_of_ble_eq_true rfl) ob358.1 ob358.2 (Nat.le_of_ble_eq_true rfl) rfl ts_8_15 tw_7_1 tw_6_239 tc_7_2 tw_1_13 hyX12 hnX12_isLetter rfl (Nat.le_of_ble_eq_true rfl) dX12_value_7 (G12_isLetter_met C.2.2.2.2.2.2.2.1 (Nat.le_refl _)  h) (fun r0 μ13 hq => ?_)
  obtain ⟨r14, rfl, h⟩ := hq
  refine x_st [.int r14] rfl ?_
  refine x_if_eq (tgt := 21) C dX12_value_10 (by decide) (fun c15 => ?_) (fun c15 => ?_)
  · have h := h.1 c15
    refine x_sub [(0, .ref 358)] [0] rfl ?_
    exact G12_value_J21_ok C hd hr  h
  · have h := h.2 c15
    refine x_aload_n C rfl 0 rfl dX12_value_13 ?_
    refine x_iload_n C rfl 1 rfl dX12_value_14 ?_
    refine x_callV (dC := G12_isTold_dep) (as := [.int v1]) (st := []) C rX kX (Nat.le_trans (Nat.le_of_ble_eq_true rfl) hd) (Nat.le_of_ble_eq_true rfl) ob358.1 ob358.2 (Nat.le_of_ble_eq_true rfl) rfl ts_9_8 tw_7_92 tw_7_90 tc_7_93 tw_1_13 hyX12 hnX12_isTold rfl (Nat.le_of_ble_eq_true rfl) dX12_value_15 (G12_isTold_met C.2.2.2.2.2.2.2.1 (Nat.le_refl _)  h) (fun r0 μ18 hq => ?_)
    obtain ⟨r19, rfl, h⟩ := hq
    refine x_st [.int r19] rfl ?_
    refine x_if_ne (tgt := 26) C dX12_value_18 (by decide) (fun c20 => ?_) (fun c20 => ?_)
    · have h := h.1 c20
      refine x_aload_n C rfl 0 rfl dX12_value_26 ?_
      refine x_aload_n C rfl 0 rfl dX12_value_27 ?_
      refine x_getR (r := 367) C (j := 13) ob358.1 ob358.2 (Nat.le_of_ble_eq_true rfl) (Nat.le_of_ble_eq_true rfl) (fun _ _ _ => rfl) r_358_13 tw_8_219 dX12_value_28 ?_
      refine x_iload_n C rfl 2 rfl dX12_value_31 ?_
      obtain ⟨c21, h⟩ := h
      refine x_iald C ob367.1 ob367.2 c21 rfl dX12_value_32 ?_
      refine x_callV (dC := G12_countsTill_dep) (as := [.int (gI μ18 367 v2.toNatClampNeg)]) (st := []) C rX kX (Nat.le_trans (Nat.le_of_ble_eq_true rfl) hd) (Nat.le_of_ble_eq_true rfl) ob358.1 ob358.2 (Nat.le_of_ble_eq_true rfl) rfl ts_9_9 tw_7_96 tw_7_94 tc_7_97 tw_1_13 hyX12 hnX12_countsTill rfl (Nat.le_of_ble_eq_true rfl) dX12_value_33 (G12_countsTill_met C.2.2.2.2.2.2.2.1 (Nat.le_refl _)  h) (fun r0 μ22 hq => ?_)
      obtain ⟨rfl, h⟩ := hq
      refine x_st [] rfl ?_
      refine x_aload_n C rfl 0 rfl dX12_value_36 ?_
      refine x_iload_n C rfl 1 rfl dX12_value_37 ?_
      refine x_iload_n C rfl 2 rfl dX12_value_38 ?_
      refine x_callV (dC := G12_worked_dep) (as := [.int v1, .int v2]) (st := []) C rX kX (Nat.le_trans (Nat.le_of_ble_eq_true rfl) hd) (Nat.le_of_ble_eq_true rfl) ob358.1 ob358.2 (Nat.le_of_ble_eq_true rfl) rfl ts_9_10 tw_7_101 tw_7_99 tc_7_102 tw_1_13 hyX12 hnX12_worked rfl (Nat.le_of_ble_eq_true rfl) dX12_value_39 (G12_worked_met C.2.2.2.2.2.2.2.1 (Nat.le_refl _)  h) (fun r0 μ23 hq => ?_)
      obtain ⟨r24, rfl, h⟩ := hq
      refine x_st [.int r24] rfl ?_
      exact x_iret C hr dX12_value_42 ⟨_, rfl, h⟩
    · have h := h.2 c20
      refine x_sub [(0, .ref 358)] [0] rfl ?_
      exact G12_value_J21_ok C hd hr  h
set_option maxHeartbeats 4000000 in
set_option maxRecDepth 100000 in
theorem G12_read_J164_ok {p : Program} {e : Env} {s : State} {m : MethodId} {args : Array Value} {below : List Frame} {meth : Method} {c : Code} {l : Launch} {φ : Nat → Nat} {tc : Nat → ClassId} {D : va_G} {s0 : State} {dR : Nat} (C : CX p s m args meth c φ tc D (AX φ) s0 cX12_read RX12 7) (hd : G12_read_dep ≤ dR) (hr : meth.sig.returnType = (some .int))   {p1 : Int32} {p2 : Int32} {p3 : Int32} {p4 : Int32} {q0 : Int32} {q1 : Int32} {Q : Int32 → MM → Prop} {K23 : Int32 × Int32 × MM → Prop} {μ : MM}   (hK23 : ∀ (z2 : Int32) (z3 : Int32) (zμ : MM), K23 (z2, z3, zμ) → WX p l e (rmX dR) s m args below meth c φ tc D (AX φ) 7 0 0 (MQ below (QX φ tc D (QI Q)) args s 0 0 (AX φ)) 23 [(0, .ref 358), (1, .int p1), (2, .int z2), (3, .int z3)] [] zμ) (h : G12_read_J164 p1 p2 p3 p4 q0 q1 μ K23 Q) : WX p l e (rmX dR) s m args below meth c φ tc D (AX φ) 7 0 0 (MQ below (QX φ tc D (QI Q)) args s 0 0 (AX φ)) 164 [(0, .ref 358), (1, .int p1), (2, .int p2), (3, .int p3), (4, .int p4)] [.int q0, .int q1, .ref 374] μ := by
  unfold G12_read_J164 at h
  obtain ⟨c41, h⟩ := h
  refine x_zast C ob374.1 ob374.2 c41 rfl dX12_read_164 ?_
  refine x_mu (fun μ42 e_μ42 => ?_)
  have h := h μ42 e_μ42
  refine x_aload_n C rfl 0 rfl dX12_read_165 ?_
  refine x_getR (r := 373) C (j := 19) ob358.1 ob358.2 (Nat.le_of_ble_eq_true rfl) (Nat.le_of_ble_eq_true rfl) (fun _ _ _ => rfl) r_358_19 tw_8_225 dX12_read_166 ?_
  refine x_iload C 4 rfl dX12_read_169 ?_
  refine x_iconst (v := 1) C (by decide) dX12_read_171 ?_
  obtain ⟨c43, h⟩ := h
  refine x_zast C ob373.1 ob373.2 c43 rfl dX12_read_172 ?_
  refine x_mu (fun μ44 e_μ44 => ?_)
  have h := h μ44 e_μ44
  refine x_iload_n C rfl 2 rfl dX12_read_173 ?_
  refine x_aload_n C rfl 0 rfl dX12_read_174 ?_
  refine x_getR (r := 374) C (j := 20) ob358.1 ob358.2 (Nat.le_of_ble_eq_true rfl) (Nat.le_of_ble_eq_true rfl) (fun _ _ _ => rfl) r_358_20 tw_8_226 dX12_read_175 ?_
  refine x_iload C 4 rfl dX12_read_178 ?_
  obtain ⟨c45, h⟩ := h
  refine x_zald C ob374.1 ob374.2 c45 rfl dX12_read_180 ?_
  refine x_callS (dC := G12_flag_dep) (as := [.int (gI μ44 374 p4.toNatClampNeg)]) (st := [.int p2]) C rX kX (Nat.le_trans (Nat.le_of_ble_eq_true rfl) hd) (Nat.le_of_ble_eq_true rfl) tw_6_212 tw_6_211 tc_6_213 tw_1_13 hyX12 hnX12_flag rfl (Nat.le_of_ble_eq_true rfl) dX12_read_181 (G12_flag_met C.2.2.2.2.2.2.2.1 (Nat.le_refl _)  h) (fun r0 μ46 hq => ?_)
  obtain ⟨r47, rfl, h⟩ := hq
  refine x_st [.int r47, .int p2] rfl ?_
  refine x_iadd C dX12_read_184 ?_
  refine x_topi (fun y48 e_y48 => ?_)
  have h := h y48 e_y48
  refine x_istore_n C [(2, .int y48), (0, .ref 358), (1, .int p1), (3, .int p3), (4, .int p4)] rfl (Nat.le_of_ble_eq_true rfl) rfl dX12_read_185 ?_
  refine x_iinc (v := (p3 + 1)) C [(3, .int (p3 + 1)), (2, .int y48), (0, .ref 358), (1, .int p1), (4, .int p4)] 3 rfl (congrArg (fun z => p3 + z) (by decide : Int32.ofInt (1) = 1)) (Nat.le_of_ble_eq_true rfl) rfl dX12_read_186 ?_
  refine x_goto (tgt := 23) C dX12_read_189 (by decide) ?_
  refine x_sub [(0, .ref 358), (1, .int p1), (2, .int y48), (3, .int (p3 + 1))] [2, 3, 1, 0] rfl ?_
  exact hK23 _ _ _ h
set_option maxHeartbeats 4000000 in
set_option maxRecDepth 100000 in
theorem G12_read_J163_ok {p : Program} {e : Env} {s : State} {m : MethodId} {args : Array Value} {below : List Frame} {meth : Method} {c : Code} {l : Launch} {φ : Nat → Nat} {tc : Nat → ClassId} {D : va_G} {s0 : State} {dR : Nat} (C : CX p s m args meth c φ tc D (AX φ) s0 cX12_read RX12 7) (hd : G12_read_dep ≤ dR) (hr : meth.sig.returnType = (some .int))   {p1 : Int32} {p2 : Int32} {p3 : Int32} {p4 : Int32} {q0 : Int32} {Q : Int32 → MM → Prop} {K23 : Int32 × Int32 × MM → Prop} {μ : MM}   (hK23 : ∀ (z2 : Int32) (z3 : Int32) (zμ : MM), K23 (z2, z3, zμ) → WX p l e (rmX dR) s m args below meth c φ tc D (AX φ) 7 0 0 (MQ below (QX φ tc D (QI Q)) args s 0 0 (AX φ)) 23 [(0, .ref 358), (1, .int p1), (2, .int z2), (3, .int z3)] [] zμ) (h : G12_read_J163 p1 p2 p3 p4 q0 μ K23 Q) : WX p l e (rmX dR) s m args below meth c φ tc D (AX φ) 7 0 0 (MQ below (QX φ tc D (QI Q)) args s 0 0 (AX φ)) 163 [(0, .ref 358), (1, .int p1), (2, .int p2), (3, .int p3), (4, .int p4)] [.int q0, .ref 374] μ := by
  unfold G12_read_J163 at h
  refine x_iconst (v := 0) C (by decide) dX12_read_163 ?_
  exact G12_read_J164_ok C hd hr hK23 h
set_option maxHeartbeats 4000000 in
set_option maxRecDepth 100000 in
theorem G12_read_J80_ok {p : Program} {e : Env} {s : State} {m : MethodId} {args : Array Value} {below : List Frame} {meth : Method} {c : Code} {l : Launch} {φ : Nat → Nat} {tc : Nat → ClassId} {D : va_G} {s0 : State} {dR : Nat} (C : CX p s m args meth c φ tc D (AX φ) s0 cX12_read RX12 7) (hd : G12_read_dep ≤ dR) (hr : meth.sig.returnType = (some .int))   {p1 : Int32} {p2 : Int32} {p3 : Int32} {p4 : Int32} {p5 : Int32} {Q : Int32 → MM → Prop} {K23 : Int32 × Int32 × MM → Prop} {K34 : Int32 × Int32 × MM → Prop} {μ : MM}   (hK23 : ∀ (z2 : Int32) (z3 : Int32) (zμ : MM), K23 (z2, z3, zμ) → WX p l e (rmX dR) s m args below meth c φ tc D (AX φ) 7 0 0 (MQ below (QX φ tc D (QI Q)) args s 0 0 (AX φ)) 23 [(0, .ref 358), (1, .int p1), (2, .int z2), (3, .int z3)] [] zμ) (hK34 : ∀ (z4 : Int32) (z5 : Int32) (zμ : MM), K34 (z4, z5, zμ) → WX p l e (rmX dR) s m args below meth c φ tc D (AX φ) 7 0 0 (MQ below (QX φ tc D (QI Q)) args s 0 0 (AX φ)) 34 [(0, .ref 358), (1, .int p1), (2, .int p2), (3, .int p3), (4, .int z4), (5, .int z5)] [] zμ) (h : G12_read_J80 p1 p2 p3 p4 p5 μ K23 K34 Q) : WX p l e (rmX dR) s m args below meth c φ tc D (AX φ) 7 0 0 (MQ below (QX φ tc D (QI Q)) args s 0 0 (AX φ)) 80 [(0, .ref 358), (1, .int p1), (2, .int p2), (3, .int p3), (4, .int p4), (5, .int p5)] [] μ := by
  unfold G12_read_J80 at h
  refine x_iload C 4 rfl dX12_read_80 ?_
  refine x_istore C [(4, .int p4), (0, .ref 358), (1, .int p1), (2, .int p2), (3, .int p3), (5, .int p5)] (Nat.le_of_ble_eq_true rfl) rfl dX12_read_82 ?_
  refine x_iinc (v := (p5 + 1)) C [(5, .int (p5 + 1)), (4, .int p4), (0, .ref 358), (1, .int p1), (2, .int p2), (3, .int p3)] 5 rfl (congrArg (fun z => p5 + z) (by decide : Int32.ofInt (1) = 1)) (Nat.le_of_ble_eq_true rfl) rfl dX12_read_84 ?_
  refine x_goto (tgt := 34) C dX12_read_87 (by decide) ?_
  refine x_sub [(0, .ref 358), (1, .int p1), (2, .int p2), (3, .int p3), (4, .int p4), (5, .int (p5 + 1))] [2, 3, 4, 5, 1, 0] rfl ?_
  exact hK34 _ _ _ h
set_option maxHeartbeats 4000000 in
set_option maxRecDepth 100000 in
theorem G12_read_L34_b {p : Program} {e : Env} {s : State} {m : MethodId} {args : Array Value} {below : List Frame} {meth : Method} {c : Code} {l : Launch} {φ : Nat → Nat} {tc : Nat → ClassId} {D : va_G} {s0 : State} {dR : Nat} (C : CX p s m args meth c φ tc D (AX φ) s0 cX12_read RX12 7) (hd : G12_read_dep ≤ dR) (hr : meth.sig.returnType = (some .int))  {p1 : Int32} {p2 : Int32} {p3 : Int32} {Q : Int32 → MM → Prop} {K23 : Int32 × Int32 × MM → Prop} {K34 : Int32 × Int32 × MM → Prop} {x : Int32 × Int32 × MM}   (hK23 : ∀ (z2 : Int32) (z3 : Int32) (zμ : MM), K23 (z2, z3, zμ) → WX p l e (rmX dR) s m args below meth c φ tc D (AX φ) 7 0 0 (MQ below (QX φ tc D (QI Q)) args s 0 0 (AX φ)) 23 [(0, .ref 358), (1, .int p1), (2, .int z2), (3, .int z3)] [] zμ) (hK34 : ∀ (z4 : Int32) (z5 : Int32) (zμ : MM), K34 (z4, z5, zμ) → WX p l e (rmX dR) s m args below meth c φ tc D (AX φ) 7 0 0 (MQ below (QX φ tc D (QI Q)) args s 0 0 (AX φ)) 34 [(0, .ref 358), (1, .int p1), (2, .int p2), (3, .int p3), (4, .int z4), (5, .int z5)] [] zμ) (h : G12_read_L34 p1 p2 p3 K23 Q K34 x) : WX p l e (rmX dR) s m args below meth c φ tc D (AX φ) 7 0 0 (MQ below (QX φ tc D (QI Q)) args s 0 0 (AX φ)) 34 [(0, .ref 358), (1, .int p1), (2, .int p2), (3, .int p3), (4, .int x.1), (5, .int x.2.1)] [] x.2.2 := by
  unfold G12_read_L34 at h
  refine x_iload C 5 rfl dX12_read_34 ?_
  refine x_aload_n C rfl 0 rfl dX12_read_36 ?_
  refine x_getI C (j := 12) ob358.1 ob358.2 (Nat.le_of_ble_eq_true rfl) (Nat.le_of_ble_eq_true rfl) (Or.inl rfl) tw_8_218 dX12_read_37 ?_
  refine x_icmp_ge (tgt := 90) C dX12_read_40 (by decide) (fun c30 => ?_) (fun c30 => ?_)
  · have h := h.1 c30
    refine x_iload C 4 rfl dX12_read_90 ?_
    refine x_if_ge (tgt := 97) C dX12_read_92 (by decide) (fun c31 => ?_) (fun c31 => ?_)
    · have h := h.1 c31
      refine x_aload_n C rfl 0 rfl dX12_read_97 ?_
      refine x_bipush (v := 100) C (by decide) dX12_read_98 ?_
      refine x_callV (dC := G12_draws_dep) (as := [.int 100]) (st := []) C rX kX (Nat.le_trans (Nat.le_of_ble_eq_true rfl) hd) (Nat.le_of_ble_eq_true rfl) ob358.1 ob358.2 (Nat.le_of_ble_eq_true rfl) rfl ts_8_13 tw_6_228 tw_6_226 tc_6_229 tw_1_13 hyX12 hnX12_draws rfl (Nat.le_of_ble_eq_true rfl) dX12_read_100 (G12_draws_met C.2.2.2.2.2.2.2.1 (Nat.le_refl _)  h) (fun r0 μ32 hq => ?_)
      obtain ⟨r33, rfl, h⟩ := hq
      refine x_st [.int r33] rfl ?_
      refine x_istore C [(5, .int r33), (0, .ref 358), (1, .int p1), (2, .int p2), (3, .int p3), (4, .int x.1)] (Nat.le_of_ble_eq_true rfl) rfl dX12_read_103 ?_
      refine x_aload_n C rfl 1 rfl dX12_read_105 ?_
      refine x_getR (r := 366) C (j := 11) ob358.1 ob358.2 (Nat.le_of_ble_eq_true rfl) (Nat.le_of_ble_eq_true rfl) (fun _ _ _ => rfl) r_358_11 tw_8_217 dX12_read_106 ?_
      refine x_aload_n C rfl 1 rfl dX12_read_109 ?_
      refine x_getR (r := 367) C (j := 13) ob358.1 ob358.2 (Nat.le_of_ble_eq_true rfl) (Nat.le_of_ble_eq_true rfl) (fun _ _ _ => rfl) r_358_13 tw_8_219 dX12_read_110 ?_
      refine x_iload C 5 rfl dX12_read_113 ?_
      obtain ⟨c34, h⟩ := h
      refine x_iald C ob367.1 ob367.2 c34 rfl dX12_read_115 ?_
      obtain ⟨c35, h⟩ := h
      refine x_iald C ob366.1 ob366.2 c35 rfl dX12_read_116 ?_
      refine x_topi (fun y36 e_y36 => ?_)
      have h := h y36 e_y36
      refine x_istore C [(6, .int y36), (5, .int r33), (0, .ref 358), (1, .int p1), (2, .int p2), (3, .int p3), (4, .int x.1)] (Nat.le_of_ble_eq_true rfl) rfl dX12_read_117 ?_
      refine x_aload_n C rfl 2 rfl dX12_read_119 ?_
      refine x_aload_n C rfl 2 rfl dX12_read_120 ?_
      refine x_getR (r := 367) C (j := 13) ob358.1 ob358.2 (Nat.le_of_ble_eq_true rfl) (Nat.le_of_ble_eq_true rfl) (fun _ _ _ => rfl) r_358_13 tw_8_219 dX12_read_121 ?_
      refine x_iload C 6 rfl dX12_read_124 ?_
      obtain ⟨c37, h⟩ := h
      refine x_iald C ob367.1 ob367.2 c37 rfl dX12_read_126 ?_
      refine x_callV (dC := G12_countsTill_dep) (as := [.int (gI μ32 367 x.1.toNatClampNeg)]) (st := []) C rX kX (Nat.le_trans (Nat.le_of_ble_eq_true rfl) hd) (Nat.le_of_ble_eq_true rfl) ob358.1 ob358.2 (Nat.le_of_ble_eq_true rfl) rfl ts_9_9 tw_7_96 tw_7_94 tc_7_97 tw_1_13 hyX12 hnX12_countsTill rfl (Nat.le_of_ble_eq_true rfl) dX12_read_127 (G12_countsTill_met C.2.2.2.2.2.2.2.1 (Nat.le_refl _)  h) (fun r0 μ38 hq => ?_)
      obtain ⟨rfl, h⟩ := hq
      refine x_st [] rfl ?_
      refine x_aload_n C rfl 2 rfl dX12_read_130 ?_
      refine x_getR (r := 374) C (j := 20) ob358.1 ob358.2 (Nat.le_of_ble_eq_true rfl) (Nat.le_of_ble_eq_true rfl) (fun _ _ _ => rfl) r_358_20 tw_8_226 dX12_read_131 ?_
      refine x_iload C 6 rfl dX12_read_134 ?_
      refine x_aload_n C rfl 2 rfl dX12_read_136 ?_
      refine x_getR (r := 378) C (j := 25) ob358.1 ob358.2 (Nat.le_of_ble_eq_true rfl) (Nat.le_of_ble_eq_true rfl) (fun _ _ _ => rfl) r_358_25 tw_8_231 dX12_read_137 ?_
      refine x_iload C 0 rfl dX12_read_140 ?_
      obtain ⟨c39, h⟩ := h
      refine x_iald C ob378.1 ob378.2 c39 rfl dX12_read_142 ?_
      refine x_if_le (tgt := 163) C dX12_read_143 (by decide) (fun c40 => ?_) (fun c40 => ?_)
      · have h := h.1 c40
        refine x_sub [(0, .ref 358), (1, .int p1), (2, .int p2), (3, .int p3), (4, .int x.1)] [2, 3, 4, 5, 6] rfl ?_
        exact G12_read_J163_ok C hd hr hK23 h
      · have h := h.2 c40
        refine x_iload C 1 rfl dX12_read_146 ?_
        refine x_aload_n C rfl 2 rfl dX12_read_148 ?_
        refine x_iload C 0 rfl dX12_read_149 ?_
        refine x_iload C 6 rfl dX12_read_151 ?_
        refine x_callV (dC := G12_worked_dep) (as := [.int y36, .int x.1]) (st := [.int r33, .int x.1, .ref 374]) C rX kX (Nat.le_trans (Nat.le_of_ble_eq_true rfl) hd) (Nat.le_of_ble_eq_true rfl) ob358.1 ob358.2 (Nat.le_of_ble_eq_true rfl) rfl ts_9_10 tw_7_101 tw_7_99 tc_7_102 tw_1_13 hyX12 hnX12_worked rfl (Nat.le_of_ble_eq_true rfl) dX12_read_153 (G12_worked_met C.2.2.2.2.2.2.2.1 (Nat.le_refl _)  h) (fun r0 μ49 hq => ?_)
        obtain ⟨r50, rfl, h⟩ := hq
        refine x_st [.int r50, .int r33, .int x.1, .ref 374] rfl ?_
        refine x_icmp_ge (tgt := 163) C dX12_read_156 (by decide) (fun c51 => ?_) (fun c51 => ?_)
        · have h := h.1 c51
          refine x_sub [(0, .ref 358), (1, .int p1), (2, .int p2), (3, .int p3), (4, .int x.1)] [2, 3, 4, 5, 6] rfl ?_
          exact G12_read_J163_ok C hd hr hK23 h
        · have h := h.2 c51
          refine x_iconst (v := 1) C (by decide) dX12_read_159 ?_
          refine x_goto (tgt := 164) C dX12_read_160 (by decide) ?_
          refine x_sub [(0, .ref 358), (1, .int p1), (2, .int p2), (3, .int p3), (4, .int x.1)] [2, 3, 4, 5, 6] rfl ?_
          exact G12_read_J164_ok C hd hr hK23 h
    · have h := h.2 c31
      refine x_iload_n C rfl 2 rfl dX12_read_95 ?_
      exact x_iret C hr dX12_read_96 ⟨_, rfl, h⟩
  · have h := h.2 c30
    refine x_aload_n C rfl 0 rfl dX12_read_43 ?_
    refine x_getR (r := 373) C (j := 19) ob358.1 ob358.2 (Nat.le_of_ble_eq_true rfl) (Nat.le_of_ble_eq_true rfl) (fun _ _ _ => rfl) r_358_19 tw_8_225 dX12_read_44 ?_
    refine x_iload C 5 rfl dX12_read_47 ?_
    obtain ⟨c52, h⟩ := h
    refine x_zald C ob373.1 ob373.2 c52 rfl dX12_read_49 ?_
    refine x_if_ne (tgt := 80) C dX12_read_50 (by decide) (fun c53 => ?_) (fun c53 => ?_)
    · have h := h.1 c53
      exact G12_read_J80_ok C hd hr hK23 hK34 h
    · have h := h.2 c53
      refine x_iload C 4 rfl dX12_read_53 ?_
      refine x_if_lt (tgt := 75) C dX12_read_55 (by decide) (fun c54 => ?_) (fun c54 => ?_)
      · have h := h.1 c54
        refine x_iload C 5 rfl dX12_read_75 ?_
        refine x_goto (tgt := 82) C dX12_read_77 (by decide) ?_
        refine x_istore C [(4, .int x.2.1), (0, .ref 358), (1, .int p1), (2, .int p2), (3, .int p3), (5, .int x.2.1)] (Nat.le_of_ble_eq_true rfl) rfl dX12_read_82 ?_
        refine x_iinc (v := (x.2.1 + 1)) C [(5, .int (x.2.1 + 1)), (4, .int x.2.1), (0, .ref 358), (1, .int p1), (2, .int p2), (3, .int p3)] 5 rfl (congrArg (fun z => x.2.1 + z) (by decide : Int32.ofInt (1) = 1)) (Nat.le_of_ble_eq_true rfl) rfl dX12_read_84 ?_
        refine x_goto (tgt := 34) C dX12_read_87 (by decide) ?_
        refine x_sub [(0, .ref 358), (1, .int p1), (2, .int p2), (3, .int p3), (4, .int x.2.1), (5, .int (x.2.1 + 1))] [2, 3, 4, 5, 1, 0] rfl ?_
        exact hK34 _ _ _ h
      · have h := h.2 c54
        refine x_aload_n C rfl 0 rfl dX12_read_58 ?_
        refine x_getR (r := 372) C (j := 18) ob358.1 ob358.2 (Nat.le_of_ble_eq_true rfl) (Nat.le_of_ble_eq_true rfl) (fun _ _ _ => rfl) r_358_18 tw_8_224 dX12_read_59 ?_
        refine x_iload C 5 rfl dX12_read_62 ?_
        obtain ⟨c55, h⟩ := h
        refine x_iald C ob372.1 ob372.2 c55 rfl dX12_read_64 ?_
        refine x_aload_n C rfl 0 rfl dX12_read_65 ?_
        refine x_getR (r := 372) C (j := 18) ob358.1 ob358.2 (Nat.le_of_ble_eq_true rfl) (Nat.le_of_ble_eq_true rfl) (fun _ _ _ => rfl) r_358_18 tw_8_224 dX12_read_66 ?_
        refine x_iload C 4 rfl dX12_read_69 ?_
        obtain ⟨c56, h⟩ := h
        refine x_iald C ob372.1 ob372.2 c56 rfl dX12_read_71 ?_
        refine x_icmp_ge (tgt := 80) C dX12_read_72 (by decide) (fun c57 => ?_) (fun c57 => ?_)
        · have h := h.1 c57
          exact G12_read_J80_ok C hd hr hK23 hK34 h
        · have h := h.2 c57
          refine x_iload C 5 rfl dX12_read_75 ?_
          refine x_goto (tgt := 82) C dX12_read_77 (by decide) ?_
          refine x_istore C [(4, .int x.2.1), (0, .ref 358), (1, .int p1), (2, .int p2), (3, .int p3), (5, .int x.2.1)] (Nat.le_of_ble_eq_true rfl) rfl dX12_read_82 ?_
          refine x_iinc (v := (x.2.1 + 1)) C [(5, .int (x.2.1 + 1)), (4, .int x.2.1), (0, .ref 358), (1, .int p1), (2, .int p2), (3, .int p3)] 5 rfl (congrArg (fun z => x.2.1 + z) (by decide : Int32.ofInt (1) = 1)) (Nat.le_of_ble_eq_true rfl) rfl dX12_read_84 ?_
          refine x_goto (tgt := 34) C dX12_read_87 (by decide) ?_
          refine x_sub [(0, .ref 358), (1, .int p1), (2, .int p2), (3, .int p3), (4, .int x.2.1), (5, .int (x.2.1 + 1))] [2, 3, 4, 5, 1, 0] rfl ?_
          exact hK34 _ _ _ h
theorem G12_read_L34_ok {p : Program} {e : Env} {s : State} {m : MethodId} {args : Array Value} {below : List Frame} {meth : Method} {c : Code} {l : Launch} {φ : Nat → Nat} {tc : Nat → ClassId} {D : va_G} {s0 : State} {dR : Nat} (C : CX p s m args meth c φ tc D (AX φ) s0 cX12_read RX12 7) (hd : G12_read_dep ≤ dR) (hr : meth.sig.returnType = (some .int))  {p1 : Int32} {p2 : Int32} {p3 : Int32} {Q : Int32 → MM → Prop} {K23 : Int32 × Int32 × MM → Prop} {x : Int32 × Int32 × MM}   (hK23 : ∀ (z2 : Int32) (z3 : Int32) (zμ : MM), K23 (z2, z3, zμ) → WX p l e (rmX dR) s m args below meth c φ tc D (AX φ) 7 0 0 (MQ below (QX φ tc D (QI Q)) args s 0 0 (AX φ)) 23 [(0, .ref 358), (1, .int p1), (2, .int z2), (3, .int z3)] [] zμ) (h : Lp (G12_read_L34 p1 p2 p3 K23 Q) x) : WX p l e (rmX dR) s m args below meth c φ tc D (AX φ) 7 0 0 (MQ below (QX φ tc D (QI Q)) args s 0 0 (AX φ)) 34 [(0, .ref 358), (1, .int p1), (2, .int p2), (3, .int p3), (4, .int x.1), (5, .int x.2.1)] [] x.2.2 := by
  obtain ⟨n, h⟩ := h
  induction n generalizing x with
  | zero => exact h.elim
  | succ n ih => exact G12_read_L34_b C hd hr  hK23 (fun z4 z5 zμ hz => by have q := ih hz; exact q) h
set_option maxHeartbeats 4000000 in
set_option maxRecDepth 100000 in
theorem G12_read_L23_b {p : Program} {e : Env} {s : State} {m : MethodId} {args : Array Value} {below : List Frame} {meth : Method} {c : Code} {l : Launch} {φ : Nat → Nat} {tc : Nat → ClassId} {D : va_G} {s0 : State} {dR : Nat} (C : CX p s m args meth c φ tc D (AX φ) s0 cX12_read RX12 7) (hd : G12_read_dep ≤ dR) (hr : meth.sig.returnType = (some .int))  {p1 : Int32} {Q : Int32 → MM → Prop} {K23 : Int32 × Int32 × MM → Prop} {x : Int32 × Int32 × MM}   (hK23 : ∀ (z2 : Int32) (z3 : Int32) (zμ : MM), K23 (z2, z3, zμ) → WX p l e (rmX dR) s m args below meth c φ tc D (AX φ) 7 0 0 (MQ below (QX φ tc D (QI Q)) args s 0 0 (AX φ)) 23 [(0, .ref 358), (1, .int p1), (2, .int z2), (3, .int z3)] [] zμ) (h : G12_read_L23 p1 Q K23 x) : WX p l e (rmX dR) s m args below meth c φ tc D (AX φ) 7 0 0 (MQ below (QX φ tc D (QI Q)) args s 0 0 (AX φ)) 23 [(0, .ref 358), (1, .int p1), (2, .int x.1), (3, .int x.2.1)] [] x.2.2 := by
  unfold G12_read_L23 at h
  refine x_iload_n C rfl 3 rfl dX12_read_23 ?_
  refine x_iload_n C rfl 1 rfl dX12_read_24 ?_
  refine x_icmp_ge (tgt := 192) C dX12_read_25 (by decide) (fun c29 => ?_) (fun c29 => ?_)
  · have h := h.1 c29
    refine x_iload_n C rfl 2 rfl dX12_read_192 ?_
    exact x_iret C hr dX12_read_193 ⟨_, rfl, h⟩
  · have h := h.2 c29
    refine x_iconst (v := (-1)) C (by decide) dX12_read_28 ?_
    refine x_istore C [(4, .int (-1)), (0, .ref 358), (1, .int p1), (2, .int x.1), (3, .int x.2.1)] (Nat.le_of_ble_eq_true rfl) rfl dX12_read_29 ?_
    refine x_iconst (v := 0) C (by decide) dX12_read_31 ?_
    refine x_istore C [(5, .int 0), (4, .int (-1)), (0, .ref 358), (1, .int p1), (2, .int x.1), (3, .int x.2.1)] (Nat.le_of_ble_eq_true rfl) rfl dX12_read_32 ?_
    refine x_sub [(0, .ref 358), (1, .int p1), (2, .int x.1), (3, .int x.2.1), (4, .int (-1)), (5, .int 0)] [2, 3, 4, 5, 1, 0] rfl ?_
    exact G12_read_L34_ok C hd hr hK23 h
theorem G12_read_L23_ok {p : Program} {e : Env} {s : State} {m : MethodId} {args : Array Value} {below : List Frame} {meth : Method} {c : Code} {l : Launch} {φ : Nat → Nat} {tc : Nat → ClassId} {D : va_G} {s0 : State} {dR : Nat} (C : CX p s m args meth c φ tc D (AX φ) s0 cX12_read RX12 7) (hd : G12_read_dep ≤ dR) (hr : meth.sig.returnType = (some .int))  {p1 : Int32} {Q : Int32 → MM → Prop}  {x : Int32 × Int32 × MM}    (h : Lp (G12_read_L23 p1 Q) x) : WX p l e (rmX dR) s m args below meth c φ tc D (AX φ) 7 0 0 (MQ below (QX φ tc D (QI Q)) args s 0 0 (AX φ)) 23 [(0, .ref 358), (1, .int p1), (2, .int x.1), (3, .int x.2.1)] [] x.2.2 := by
  obtain ⟨n, h⟩ := h
  induction n generalizing x with
  | zero => exact h.elim
  | succ n ih => exact G12_read_L23_b C hd hr   (fun z2 z3 zμ hz => by have q := ih hz; exact q) h
set_option maxHeartbeats 4000000 in
set_option maxRecDepth 100000 in
theorem G12_read_met {l : Launch} {φ : Nat → Nat} {tc : Nat → ClassId} {D : va_G} {s0 : State} (hG : GX φ tc D s0) {dR : Nat} (hd : G12_read_dep ≤ dR) {v1 : Int32} {μ : MM} {Q : Int32 → MM → Prop}  (h : G12_read v1 μ Q) : MX l φ tc D s0 dR yX12_read cX12_read 7 (some .int) [.ref 358, .int v1] μ (QI Q) := by
  refine MX.of (own := RX12) hG plX12 rfl (Nat.le_of_ble_eq_true rfl) (fun p e s m args below meth c C hr => ?_)
  refine x_sub [(0, .ref 358), (1, .int v1)] [0, 1] rfl ?_
  unfold G12_read at h
  refine x_aload_n C rfl 0 rfl dX12_read_0 ?_
  refine x_iconst (v := 0) C (by decide) dX12_read_1 ?_
  refine x_putI C (j := 0) ob358.1 ob358.2 (Nat.le_of_ble_eq_true rfl) (Nat.le_of_ble_eq_true rfl) (Or.inl rfl) rfl rfl rfl tw_8_206 dX12_read_2 ?_
  refine x_mu (fun μ25 e_μ25 => ?_)
  have h := h μ25 e_μ25
  refine x_iload_n C rfl 1 rfl dX12_read_5 ?_
  refine x_i2l C dX12_read_6 ?_
  refine x_lconst (v := 0) C (by decide) dX12_read_7 ?_
  refine x_ldc2 (v := 96) C tw_7_114 dX12_read_8 ?_
  refine x_callS (dC := G12_in_dep) (as := [.long (v1.toInt64), .long 0, .long 96]) (st := []) C rX kX (Nat.le_trans (Nat.le_of_ble_eq_true rfl) hd) (Nat.le_of_ble_eq_true rfl) tw_6_183 tw_6_182 tc_6_184 tw_1_13 hyX12 hnX12_in rfl (Nat.le_of_ble_eq_true rfl) dX12_read_11 (G12_in_met C.2.2.2.2.2.2.2.1 (Nat.le_refl _)  h) (fun r0 μ26 hq => ?_)
  obtain ⟨r27, rfl, h⟩ := hq
  refine x_st [.int r27] rfl ?_
  refine x_if_ne (tgt := 19) C dX12_read_14 (by decide) (fun c28 => ?_) (fun c28 => ?_)
  · have h := h.1 c28
    refine x_iconst (v := 0) C (by decide) dX12_read_19 ?_
    refine x_istore_n C [(2, .int 0), (0, .ref 358), (1, .int v1)] rfl (Nat.le_of_ble_eq_true rfl) rfl dX12_read_20 ?_
    refine x_iconst (v := 0) C (by decide) dX12_read_21 ?_
    refine x_istore_n C [(3, .int 0), (2, .int 0), (0, .ref 358), (1, .int v1)] rfl (Nat.le_of_ble_eq_true rfl) rfl dX12_read_22 ?_
    refine x_sub [(0, .ref 358), (1, .int v1), (2, .int 0), (3, .int 0)] [2, 3, 1, 0] rfl ?_
    exact G12_read_L23_ok C hd hr  h
  · have h := h.2 c28
    refine x_iconst (v := (-1)) C (by decide) dX12_read_17 ?_
    exact x_iret C hr dX12_read_18 ⟨_, rfl, h⟩
set_option maxHeartbeats 4000000 in
set_option maxRecDepth 100000 in
theorem G12_ring_met {l : Launch} {φ : Nat → Nat} {tc : Nat → ClassId} {D : va_G} {s0 : State} (hG : GX φ tc D s0) {dR : Nat} (hd : G12_ring_dep ≤ dR) {v1 : Int32} {v2 : Int32} {μ : MM} {Q : Int32 → MM → Prop}  (h : G12_ring v1 v2 μ Q) : MX l φ tc D s0 dR yX12_ring cX12_ring 3 (some .boolean) [.ref 358, .int v1, .int v2] μ (QI Q) := by
  refine MX.of (own := RX12) hG plX12 rfl (Nat.le_of_ble_eq_true rfl) (fun p e s m args below meth c C hr => ?_)
  refine x_sub [(0, .ref 358), (1, .int v1), (2, .int v2)] [0, 1, 2] rfl ?_
  unfold G12_ring at h
  refine x_aload_n C rfl 0 rfl dX12_ring_0 ?_
  refine x_iconst (v := 0) C (by decide) dX12_ring_1 ?_
  refine x_putI C (j := 0) ob358.1 ob358.2 (Nat.le_of_ble_eq_true rfl) (Nat.le_of_ble_eq_true rfl) (Or.inl rfl) rfl rfl rfl tw_8_206 dX12_ring_2 ?_
  refine x_mu (fun μ9 e_μ9 => ?_)
  have h := h μ9 e_μ9
  refine x_aload_n C rfl 0 rfl dX12_ring_5 ?_
  refine x_iload_n C rfl 1 rfl dX12_ring_6 ?_
  refine x_callV (dC := G12_isLetter_dep) (as := [.int v1]) (st := []) C rX kX (Nat.le_trans (Nat.le_of_ble_eq_true rfl) hd) (Nat.le_of_ble_eq_true rfl) ob358.1 ob358.2 (Nat.le_of_ble_eq_true rfl) rfl ts_8_15 tw_7_1 tw_6_239 tc_7_2 tw_1_13 hyX12 hnX12_isLetter rfl (Nat.le_of_ble_eq_true rfl) dX12_ring_7 (G12_isLetter_met C.2.2.2.2.2.2.2.1 (Nat.le_refl _)  h) (fun r0 μ10 hq => ?_)
  obtain ⟨r11, rfl, h⟩ := hq
  refine x_st [.int r11] rfl ?_
  refine x_if_eq (tgt := 22) C dX12_ring_10 (by decide) (fun c12 => ?_) (fun c12 => ?_)
  · have h := h.1 c12
    refine x_iconst (v := 0) C (by decide) dX12_ring_22 ?_
    exact x_zret C hr bo_0 dX12_ring_23 ⟨_, rfl, h⟩
  · have h := h.2 c12
    refine x_aload_n C rfl 0 rfl dX12_ring_13 ?_
    refine x_getR (r := 373) C (j := 19) ob358.1 ob358.2 (Nat.le_of_ble_eq_true rfl) (Nat.le_of_ble_eq_true rfl) (fun _ _ _ => rfl) r_358_19 tw_8_225 dX12_ring_14 ?_
    refine x_iload_n C rfl 1 rfl dX12_ring_17 ?_
    obtain ⟨c13, h⟩ := h
    refine x_zald C ob373.1 ob373.2 c13 rfl dX12_ring_18 ?_
    refine x_if_eq (tgt := 24) C dX12_ring_19 (by decide) (fun c14 => ?_) (fun c14 => ?_)
    · have h := h.1 c14
      refine x_aload_n C rfl 0 rfl dX12_ring_24 ?_
      refine x_getR (r := 373) C (j := 19) ob358.1 ob358.2 (Nat.le_of_ble_eq_true rfl) (Nat.le_of_ble_eq_true rfl) (fun _ _ _ => rfl) r_358_19 tw_8_225 dX12_ring_25 ?_
      refine x_iload_n C rfl 1 rfl dX12_ring_28 ?_
      refine x_iconst (v := 1) C (by decide) dX12_ring_29 ?_
      obtain ⟨c15, h⟩ := h
      refine x_zast C ob373.1 ob373.2 c15 rfl dX12_ring_30 ?_
      refine x_mu (fun μ16 e_μ16 => ?_)
      have h := h μ16 e_μ16
      refine x_aload_n C rfl 0 rfl dX12_ring_31 ?_
      refine x_getR (r := 374) C (j := 20) ob358.1 ob358.2 (Nat.le_of_ble_eq_true rfl) (Nat.le_of_ble_eq_true rfl) (fun _ _ _ => rfl) r_358_20 tw_8_226 dX12_ring_32 ?_
      refine x_iload_n C rfl 1 rfl dX12_ring_35 ?_
      refine x_iload_n C rfl 2 rfl dX12_ring_36 ?_
      obtain ⟨c17, h⟩ := h
      refine x_zast C ob374.1 ob374.2 c17 rfl dX12_ring_37 ?_
      refine x_mu (fun μ18 e_μ18 => ?_)
      have h := h μ18 e_μ18
      refine x_iconst (v := 1) C (by decide) dX12_ring_38 ?_
      exact x_zret C hr bo_1 dX12_ring_39 ⟨_, rfl, h⟩
    · have h := h.2 c14
      refine x_iconst (v := 0) C (by decide) dX12_ring_22 ?_
      exact x_zret C hr bo_0 dX12_ring_23 ⟨_, rfl, h⟩
set_option maxHeartbeats 4000000 in
set_option maxRecDepth 100000 in
theorem G12_box_J149_ok {p : Program} {e : Env} {s : State} {m : MethodId} {args : Array Value} {below : List Frame} {meth : Method} {c : Code} {l : Launch} {φ : Nat → Nat} {tc : Nat → ClassId} {D : va_G} {s0 : State} {dR : Nat} (C : CX p s m args meth c φ tc D (AX φ) s0 cX12_box RX12 9) (hd : G12_box_dep ≤ dR) (hr : meth.sig.returnType = (some .int))   {p1 : Int32} {p2 : Int32} {p4 : Int32} {p5 : Int32} {p6 : Int32} {p7 : Int32} {q0 : Int32} {q1 : Int32} {Q : Int32 → MM → Prop} {K46 : Int32 × Int32 × Int32 × MM → Prop} {μ : MM}   (hK46 : ∀ (z5 : Int32) (z6 : Int32) (z7 : Int32) (zμ : MM), K46 (z5, z6, z7, zμ) → WX p l e (rmX dR) s m args below meth c φ tc D (AX φ) 9 0 0 (MQ below (QX φ tc D (QI Q)) args s 0 0 (AX φ)) 46 [(0, .ref 358), (1, .int p1), (2, .int p2), (4, .int p4), (5, .int z5), (6, .int z6), (7, .int z7)] [] zμ) (h : G12_box_J149 p1 p2 p4 p5 p6 p7 q0 q1 μ K46 Q) : WX p l e (rmX dR) s m args below meth c φ tc D (AX φ) 9 0 0 (MQ below (QX φ tc D (QI Q)) args s 0 0 (AX φ)) 149 [(0, .ref 358), (1, .int p1), (2, .int p2), (4, .int p4), (5, .int p5), (6, .int p6), (7, .int p7)] [.int q0, .int q1, .ref 374] μ := by
  unfold G12_box_J149 at h
  obtain ⟨c28, h⟩ := h
  refine x_zast C ob374.1 ob374.2 c28 rfl dX12_box_149 ?_
  refine x_mu (fun μ29 e_μ29 => ?_)
  have h := h μ29 e_μ29
  refine x_iinc (v := (p6 + 1)) C [(6, .int (p6 + 1)), (0, .ref 358), (1, .int p1), (2, .int p2), (4, .int p4), (5, .int p5), (7, .int p7)] 5 rfl (congrArg (fun z => p6 + z) (by decide : Int32.ofInt (1) = 1)) (Nat.le_of_ble_eq_true rfl) rfl dX12_box_150 ?_
  refine x_iinc (v := (p7 + 1)) C [(7, .int (p7 + 1)), (6, .int (p6 + 1)), (0, .ref 358), (1, .int p1), (2, .int p2), (4, .int p4), (5, .int p5)] 6 rfl (congrArg (fun z => p7 + z) (by decide : Int32.ofInt (1) = 1)) (Nat.le_of_ble_eq_true rfl) rfl dX12_box_153 ?_
  refine x_goto (tgt := 46) C dX12_box_156 (by decide) ?_
  refine x_sub [(0, .ref 358), (1, .int p1), (2, .int p2), (4, .int p4), (5, .int p5), (6, .int (p6 + 1)), (7, .int (p7 + 1))] [2, 3, 4, 5, 6, 1, 0] rfl ?_
  exact hK46 _ _ _ _ h
set_option maxHeartbeats 4000000 in
set_option maxRecDepth 100000 in
theorem G12_box_J98_ok {p : Program} {e : Env} {s : State} {m : MethodId} {args : Array Value} {below : List Frame} {meth : Method} {c : Code} {l : Launch} {φ : Nat → Nat} {tc : Nat → ClassId} {D : va_G} {s0 : State} {dR : Nat} (C : CX p s m args meth c φ tc D (AX φ) s0 cX12_box RX12 9) (hd : G12_box_dep ≤ dR) (hr : meth.sig.returnType = (some .int))   {p1 : Int32} {p2 : Int32} {p4 : Int32} {p5 : Int32} {p6 : Int32} {p7 : Int32} {q0 : Int32} {Q : Int32 → MM → Prop} {K46 : Int32 × Int32 × Int32 × MM → Prop} {μ : MM}   (hK46 : ∀ (z5 : Int32) (z6 : Int32) (z7 : Int32) (zμ : MM), K46 (z5, z6, z7, zμ) → WX p l e (rmX dR) s m args below meth c φ tc D (AX φ) 9 0 0 (MQ below (QX φ tc D (QI Q)) args s 0 0 (AX φ)) 46 [(0, .ref 358), (1, .int p1), (2, .int p2), (4, .int p4), (5, .int z5), (6, .int z6), (7, .int z7)] [] zμ) (h : G12_box_J98 p1 p2 p4 p5 p6 p7 q0 μ K46 Q) : WX p l e (rmX dR) s m args below meth c φ tc D (AX φ) 9 0 0 (MQ below (QX φ tc D (QI Q)) args s 0 0 (AX φ)) 98 [(0, .ref 358), (1, .int p1), (2, .int p2), (4, .int p4), (5, .int p5), (6, .int p6), (7, .int p7)] [.int q0] μ := by
  unfold G12_box_J98 at h
  refine x_istore C [(8, .int q0), (0, .ref 358), (1, .int p1), (2, .int p2), (4, .int p4), (5, .int p5), (6, .int p6), (7, .int p7)] (Nat.le_of_ble_eq_true rfl) rfl dX12_box_98 ?_
  refine x_iload C 5 rfl dX12_box_100 ?_
  refine x_iload C 4 rfl dX12_box_102 ?_
  refine x_iadd C dX12_box_104 ?_
  refine x_topi (fun y21 e_y21 => ?_)
  have h := h y21 e_y21
  refine x_istore C [(5, .int y21), (8, .int q0), (0, .ref 358), (1, .int p1), (2, .int p2), (4, .int p4), (6, .int p6), (7, .int p7)] (Nat.le_of_ble_eq_true rfl) rfl dX12_box_105 ?_
  refine x_aload_n C rfl 2 rfl dX12_box_107 ?_
  refine x_getR (r := 373) C (j := 19) ob358.1 ob358.2 (Nat.le_of_ble_eq_true rfl) (Nat.le_of_ble_eq_true rfl) (fun _ _ _ => rfl) r_358_19 tw_8_225 dX12_box_108 ?_
  refine x_iload C 7 rfl dX12_box_111 ?_
  obtain ⟨c22, h⟩ := h
  refine x_zald C ob373.1 ob373.2 c22 rfl dX12_box_113 ?_
  refine x_if_ne (tgt := 153) C dX12_box_114 (by decide) (fun c23 => ?_) (fun c23 => ?_)
  · have h := h.1 c23
    refine x_iinc (v := (p7 + 1)) C [(7, .int (p7 + 1)), (5, .int y21), (8, .int q0), (0, .ref 358), (1, .int p1), (2, .int p2), (4, .int p4), (6, .int p6)] 7 rfl (congrArg (fun z => p7 + z) (by decide : Int32.ofInt (1) = 1)) (Nat.le_of_ble_eq_true rfl) rfl dX12_box_153 ?_
    refine x_goto (tgt := 46) C dX12_box_156 (by decide) ?_
    refine x_sub [(0, .ref 358), (1, .int p1), (2, .int p2), (4, .int p4), (5, .int y21), (6, .int p6), (7, .int (p7 + 1))] [3, 4, 5, 6, 1, 7, 0] rfl ?_
    exact hK46 _ _ _ _ h
  · have h := h.2 c23
    refine x_iload C 1 rfl dX12_box_117 ?_
    refine x_if_ge (tgt := 125) C dX12_box_119 (by decide) (fun c24 => ?_) (fun c24 => ?_)
    · have h := h.1 c24
      refine x_aload_n C rfl 2 rfl dX12_box_125 ?_
      refine x_getR (r := 373) C (j := 19) ob358.1 ob358.2 (Nat.le_of_ble_eq_true rfl) (Nat.le_of_ble_eq_true rfl) (fun _ _ _ => rfl) r_358_19 tw_8_225 dX12_box_126 ?_
      refine x_iload C 7 rfl dX12_box_129 ?_
      refine x_iconst (v := 1) C (by decide) dX12_box_131 ?_
      obtain ⟨c25, h⟩ := h
      refine x_zast C ob373.1 ob373.2 c25 rfl dX12_box_132 ?_
      refine x_mu (fun μ26 e_μ26 => ?_)
      have h := h μ26 e_μ26
      refine x_aload_n C rfl 2 rfl dX12_box_133 ?_
      refine x_getR (r := 374) C (j := 20) ob358.1 ob358.2 (Nat.le_of_ble_eq_true rfl) (Nat.le_of_ble_eq_true rfl) (fun _ _ _ => rfl) r_358_20 tw_8_226 dX12_box_134 ?_
      refine x_iload C 7 rfl dX12_box_137 ?_
      refine x_iload C 1 rfl dX12_box_139 ?_
      refine x_if_le (tgt := 148) C dX12_box_141 (by decide) (fun c27 => ?_) (fun c27 => ?_)
      · have h := h.1 c27
        refine x_iconst (v := 0) C (by decide) dX12_box_148 ?_
        refine x_sub [(0, .ref 358), (1, .int p1), (2, .int p2), (4, .int p4), (5, .int y21), (6, .int p6), (7, .int p7)] [2, 3, 4, 5, 0, 6, 7] rfl ?_
        exact G12_box_J149_ok C hd hr hK46 h
      · have h := h.2 c27
        refine x_iconst (v := 1) C (by decide) dX12_box_144 ?_
        refine x_goto (tgt := 149) C dX12_box_145 (by decide) ?_
        refine x_sub [(0, .ref 358), (1, .int p1), (2, .int p2), (4, .int p4), (5, .int y21), (6, .int p6), (7, .int p7)] [2, 3, 4, 5, 0, 6, 7] rfl ?_
        exact G12_box_J149_ok C hd hr hK46 h
    · have h := h.2 c24
      refine x_goto (tgt := 153) C dX12_box_122 (by decide) ?_
      refine x_iinc (v := (p7 + 1)) C [(7, .int (p7 + 1)), (5, .int y21), (8, .int q0), (0, .ref 358), (1, .int p1), (2, .int p2), (4, .int p4), (6, .int p6)] 7 rfl (congrArg (fun z => p7 + z) (by decide : Int32.ofInt (1) = 1)) (Nat.le_of_ble_eq_true rfl) rfl dX12_box_153 ?_
      refine x_goto (tgt := 46) C dX12_box_156 (by decide) ?_
      refine x_sub [(0, .ref 358), (1, .int p1), (2, .int p2), (4, .int p4), (5, .int y21), (6, .int p6), (7, .int (p7 + 1))] [3, 4, 5, 6, 1, 7, 0] rfl ?_
      exact hK46 _ _ _ _ h
set_option maxHeartbeats 4000000 in
set_option maxRecDepth 100000 in
theorem G12_box_J66_ok {p : Program} {e : Env} {s : State} {m : MethodId} {args : Array Value} {below : List Frame} {meth : Method} {c : Code} {l : Launch} {φ : Nat → Nat} {tc : Nat → ClassId} {D : va_G} {s0 : State} {dR : Nat} (C : CX p s m args meth c φ tc D (AX φ) s0 cX12_box RX12 9) (hd : G12_box_dep ≤ dR) (hr : meth.sig.returnType = (some .int))   {p1 : Int32} {p2 : Int32} {p4 : Int32} {p5 : Int32} {p6 : Int32} {p7 : Int32} {Q : Int32 → MM → Prop} {K46 : Int32 × Int32 × Int32 × MM → Prop} {μ : MM}   (hK46 : ∀ (z5 : Int32) (z6 : Int32) (z7 : Int32) (zμ : MM), K46 (z5, z6, z7, zμ) → WX p l e (rmX dR) s m args below meth c φ tc D (AX φ) 9 0 0 (MQ below (QX φ tc D (QI Q)) args s 0 0 (AX φ)) 46 [(0, .ref 358), (1, .int p1), (2, .int p2), (4, .int p4), (5, .int z5), (6, .int z6), (7, .int z7)] [] zμ) (h : G12_box_J66 p1 p2 p4 p5 p6 p7 μ K46 Q) : WX p l e (rmX dR) s m args below meth c φ tc D (AX φ) 9 0 0 (MQ below (QX φ tc D (QI Q)) args s 0 0 (AX φ)) 66 [(0, .ref 358), (1, .int p1), (2, .int p2), (4, .int p4), (5, .int p5), (6, .int p6), (7, .int p7)] [] μ := by
  unfold G12_box_J66 at h
  refine x_iload_n C rfl 1 rfl dX12_box_66 ?_
  refine x_iconst (v := 3) C (by decide) dX12_box_67 ?_
  refine x_icmp_ne (tgt := 75) C dX12_box_68 (by decide) (fun c18 => ?_) (fun c18 => ?_)
  · have h := h.1 c18
    refine x_iload_n C rfl 1 rfl dX12_box_75 ?_
    refine x_if_ne (tgt := 85) C dX12_box_76 (by decide) (fun c19 => ?_) (fun c19 => ?_)
    · have h := h.1 c19
      refine x_iload_n C rfl 1 rfl dX12_box_85 ?_
      refine x_iconst (v := 1) C (by decide) dX12_box_86 ?_
      refine x_icmp_ne (tgt := 96) C dX12_box_87 (by decide) (fun c20 => ?_) (fun c20 => ?_)
      · have h := h.1 c20
        refine x_iload C 4 rfl dX12_box_96 ?_
        exact G12_box_J98_ok C hd hr hK46 h
      · have h := h.2 c20
        refine x_iload C 4 rfl dX12_box_90 ?_
        refine x_i2s C dX12_box_92 ?_
        refine x_goto (tgt := 98) C dX12_box_93 (by decide) ?_
        exact G12_box_J98_ok C hd hr hK46 h
    · have h := h.2 c19
      refine x_iload C 4 rfl dX12_box_79 ?_
      refine x_i2b C dX12_box_81 ?_
      refine x_goto (tgt := 98) C dX12_box_82 (by decide) ?_
      exact G12_box_J98_ok C hd hr hK46 h
  · have h := h.2 c18
    refine x_iconst (v := 0) C (by decide) dX12_box_71 ?_
    refine x_goto (tgt := 98) C dX12_box_72 (by decide) ?_
    exact G12_box_J98_ok C hd hr hK46 h
set_option maxHeartbeats 4000000 in
set_option maxRecDepth 100000 in
theorem G12_box_L46_b {p : Program} {e : Env} {s : State} {m : MethodId} {args : Array Value} {below : List Frame} {meth : Method} {c : Code} {l : Launch} {φ : Nat → Nat} {tc : Nat → ClassId} {D : va_G} {s0 : State} {dR : Nat} (C : CX p s m args meth c φ tc D (AX φ) s0 cX12_box RX12 9) (hd : G12_box_dep ≤ dR) (hr : meth.sig.returnType = (some .int))  {p1 : Int32} {p2 : Int32} {p4 : Int32} {Q : Int32 → MM → Prop} {K46 : Int32 × Int32 × Int32 × MM → Prop} {x : Int32 × Int32 × Int32 × MM}   (hK46 : ∀ (z5 : Int32) (z6 : Int32) (z7 : Int32) (zμ : MM), K46 (z5, z6, z7, zμ) → WX p l e (rmX dR) s m args below meth c φ tc D (AX φ) 9 0 0 (MQ below (QX φ tc D (QI Q)) args s 0 0 (AX φ)) 46 [(0, .ref 358), (1, .int p1), (2, .int p2), (4, .int p4), (5, .int z5), (6, .int z6), (7, .int z7)] [] zμ) (h : G12_box_L46 p1 p2 p4 Q K46 x) : WX p l e (rmX dR) s m args below meth c φ tc D (AX φ) 9 0 0 (MQ below (QX φ tc D (QI Q)) args s 0 0 (AX φ)) 46 [(0, .ref 358), (1, .int p1), (2, .int p2), (4, .int p4), (5, .int x.1), (6, .int x.2.1), (7, .int x.2.2.1)] [] x.2.2.2 := by
  unfold G12_box_L46 at h
  refine x_iload C 6 rfl dX12_box_46 ?_
  refine x_aload_n C rfl 0 rfl dX12_box_48 ?_
  refine x_getI C (j := 12) ob358.1 ob358.2 (Nat.le_of_ble_eq_true rfl) (Nat.le_of_ble_eq_true rfl) (Or.inl rfl) tw_8_218 dX12_box_49 ?_
  refine x_icmp_ge (tgt := 159) C dX12_box_52 (by decide) (fun c16 => ?_) (fun c16 => ?_)
  · have h := h.1 c16
    refine x_iload C 5 rfl dX12_box_159 ?_
    exact x_iret C hr dX12_box_161 ⟨_, rfl, h⟩
  · have h := h.2 c16
    refine x_iload_n C rfl 1 rfl dX12_box_55 ?_
    refine x_iconst (v := 3) C (by decide) dX12_box_56 ?_
    refine x_icmp_eq (tgt := 66) C dX12_box_57 (by decide) (fun c17 => ?_) (fun c17 => ?_)
    · have h := h.1 c17
      exact G12_box_J66_ok C hd hr hK46 h
    · have h := h.2 c17
      refine x_iload C 6 rfl dX12_box_60 ?_
      refine x_iload_n C rfl 2 rfl dX12_box_62 ?_
      refine x_icmp_ge (tgt := 159) C dX12_box_63 (by decide) (fun c30 => ?_) (fun c30 => ?_)
      · have h := h.1 c30
        refine x_iload C 5 rfl dX12_box_159 ?_
        exact x_iret C hr dX12_box_161 ⟨_, rfl, h⟩
      · have h := h.2 c30
        exact G12_box_J66_ok C hd hr hK46 h
theorem G12_box_L46_ok {p : Program} {e : Env} {s : State} {m : MethodId} {args : Array Value} {below : List Frame} {meth : Method} {c : Code} {l : Launch} {φ : Nat → Nat} {tc : Nat → ClassId} {D : va_G} {s0 : State} {dR : Nat} (C : CX p s m args meth c φ tc D (AX φ) s0 cX12_box RX12 9) (hd : G12_box_dep ≤ dR) (hr : meth.sig.returnType = (some .int))  {p1 : Int32} {p2 : Int32} {p4 : Int32} {Q : Int32 → MM → Prop}  {x : Int32 × Int32 × Int32 × MM}    (h : Lp (G12_box_L46 p1 p2 p4 Q) x) : WX p l e (rmX dR) s m args below meth c φ tc D (AX φ) 9 0 0 (MQ below (QX φ tc D (QI Q)) args s 0 0 (AX φ)) 46 [(0, .ref 358), (1, .int p1), (2, .int p2), (4, .int p4), (5, .int x.1), (6, .int x.2.1), (7, .int x.2.2.1)] [] x.2.2.2 := by
  obtain ⟨n, h⟩ := h
  induction n generalizing x with
  | zero => exact h.elim
  | succ n ih => exact G12_box_L46_b C hd hr   (fun z5 z6 z7 zμ hz => by have q := ih hz; exact q) h
set_option maxHeartbeats 4000000 in
set_option maxRecDepth 100000 in
theorem G12_box_met {l : Launch} {φ : Nat → Nat} {tc : Nat → ClassId} {D : va_G} {s0 : State} (hG : GX φ tc D s0) {dR : Nat} (hd : G12_box_dep ≤ dR) {v1 : Int32} {v2 : Int32} {v3 : Int32} {v4 : Int32} {μ : MM} {Q : Int32 → MM → Prop}  (h : G12_box v1 v2 v3 v4 μ Q) : MX l φ tc D s0 dR yX12_box cX12_box 9 (some .int) [.ref 358, .int v1, .int v2, .int v3, .int v4] μ (QI Q) := by
  refine MX.of (own := RX12) hG plX12 rfl (Nat.le_of_ble_eq_true rfl) (fun p e s m args below meth c C hr => ?_)
  refine x_sub [(0, .ref 358), (1, .int v1), (2, .int v2), (3, .int v3), (4, .int v4)] [0, 1, 2, 3, 4] rfl ?_
  unfold G12_box at h
  refine x_aload_n C rfl 0 rfl dX12_box_0 ?_
  refine x_iconst (v := 0) C (by decide) dX12_box_1 ?_
  refine x_putI C (j := 0) ob358.1 ob358.2 (Nat.le_of_ble_eq_true rfl) (Nat.le_of_ble_eq_true rfl) (Or.inl rfl) rfl rfl rfl tw_8_206 dX12_box_2 ?_
  refine x_mu (fun μ10 e_μ10 => ?_)
  have h := h μ10 e_μ10
  refine x_iload_n C rfl 1 rfl dX12_box_5 ?_
  refine x_i2l C dX12_box_6 ?_
  refine x_lconst (v := 0) C (by decide) dX12_box_7 ?_
  refine x_ldc2 (v := 3) C tw_6_190 dX12_box_8 ?_
  refine x_callS (dC := G12_in_dep) (as := [.long (v1.toInt64), .long 0, .long 3]) (st := []) C rX kX (Nat.le_trans (Nat.le_of_ble_eq_true rfl) hd) (Nat.le_of_ble_eq_true rfl) tw_6_183 tw_6_182 tc_6_184 tw_1_13 hyX12 hnX12_in rfl (Nat.le_of_ble_eq_true rfl) dX12_box_11 (G12_in_met C.2.2.2.2.2.2.2.1 (Nat.le_refl _)  h) (fun r0 μ11 hq => ?_)
  obtain ⟨r12, rfl, h⟩ := hq
  refine x_st [.int r12] rfl ?_
  refine x_if_eq (tgt := 23) C dX12_box_14 (by decide) (fun c13 => ?_) (fun c13 => ?_)
  · have h := h.1 c13
    refine x_iconst (v := (-1)) C (by decide) dX12_box_23 ?_
    exact x_iret C hr dX12_box_24 ⟨_, rfl, h⟩
  · have h := h.2 c13
    refine x_iload_n C rfl 2 rfl dX12_box_17 ?_
    refine x_bipush (v := 96) C (by decide) dX12_box_18 ?_
    refine x_icmp_le (tgt := 25) C dX12_box_20 (by decide) (fun c14 => ?_) (fun c14 => ?_)
    · have h := h.1 c14
      refine x_iload_n C rfl 1 rfl dX12_box_25 ?_
      refine x_iconst (v := 3) C (by decide) dX12_box_26 ?_
      refine x_icmp_eq (tgt := 37) C dX12_box_27 (by decide) (fun c15 => ?_) (fun c15 => ?_)
      · have h := h.1 c15
        refine x_iload_n C rfl 3 rfl dX12_box_37 ?_
        refine x_istore C [(5, .int v3), (0, .ref 358), (1, .int v1), (2, .int v2), (3, .int v3), (4, .int v4)] (Nat.le_of_ble_eq_true rfl) rfl dX12_box_38 ?_
        refine x_iconst (v := 0) C (by decide) dX12_box_40 ?_
        refine x_istore C [(6, .int 0), (5, .int v3), (0, .ref 358), (1, .int v1), (2, .int v2), (3, .int v3), (4, .int v4)] (Nat.le_of_ble_eq_true rfl) rfl dX12_box_41 ?_
        refine x_iconst (v := 0) C (by decide) dX12_box_43 ?_
        refine x_istore C [(7, .int 0), (6, .int 0), (5, .int v3), (0, .ref 358), (1, .int v1), (2, .int v2), (3, .int v3), (4, .int v4)] (Nat.le_of_ble_eq_true rfl) rfl dX12_box_44 ?_
        refine x_sub [(0, .ref 358), (1, .int v1), (2, .int v2), (4, .int v4), (5, .int v3), (6, .int 0), (7, .int 0)] [3, 4, 5, 7, 2, 1, 0] rfl ?_
        exact G12_box_L46_ok C hd hr  h
      · have h := h.2 c15
        refine x_iload_n C rfl 2 rfl dX12_box_30 ?_
        refine x_if_ge (tgt := 37) C dX12_box_31 (by decide) (fun c31 => ?_) (fun c31 => ?_)
        · have h := h.1 c31
          refine x_iload_n C rfl 3 rfl dX12_box_37 ?_
          refine x_istore C [(5, .int v3), (0, .ref 358), (1, .int v1), (2, .int v2), (3, .int v3), (4, .int v4)] (Nat.le_of_ble_eq_true rfl) rfl dX12_box_38 ?_
          refine x_iconst (v := 0) C (by decide) dX12_box_40 ?_
          refine x_istore C [(6, .int 0), (5, .int v3), (0, .ref 358), (1, .int v1), (2, .int v2), (3, .int v3), (4, .int v4)] (Nat.le_of_ble_eq_true rfl) rfl dX12_box_41 ?_
          refine x_iconst (v := 0) C (by decide) dX12_box_43 ?_
          refine x_istore C [(7, .int 0), (6, .int 0), (5, .int v3), (0, .ref 358), (1, .int v1), (2, .int v2), (3, .int v3), (4, .int v4)] (Nat.le_of_ble_eq_true rfl) rfl dX12_box_44 ?_
          refine x_sub [(0, .ref 358), (1, .int v1), (2, .int v2), (4, .int v4), (5, .int v3), (6, .int 0), (7, .int 0)] [3, 4, 5, 7, 2, 1, 0] rfl ?_
          exact G12_box_L46_ok C hd hr  h
        · have h := h.2 c31
          refine x_bipush (v := (-2)) C (by decide) dX12_box_34 ?_
          exact x_iret C hr dX12_box_36 ⟨_, rfl, h⟩
    · have h := h.2 c14
      refine x_iconst (v := (-1)) C (by decide) dX12_box_23 ?_
      exact x_iret C hr dX12_box_24 ⟨_, rfl, h⟩
set_option maxHeartbeats 4000000 in
set_option maxRecDepth 100000 in
theorem G12_after_met {l : Launch} {φ : Nat → Nat} {tc : Nat → ClassId} {D : va_G} {s0 : State} (hG : GX φ tc D s0) {dR : Nat} (hd : G12_after_dep ≤ dR) {v1 : Int32} {v2 : Int32} {μ : MM} {Q : Int32 → MM → Prop}  (h : G12_after v1 v2 μ Q) : MX l φ tc D s0 dR yX12_after cX12_after 4 (some .int) [.ref 358, .int v1, .int v2] μ (QI Q) := by
  refine MX.of (own := RX12) hG plX12 rfl (Nat.le_of_ble_eq_true rfl) (fun p e s m args below meth c C hr => ?_)
  refine x_sub [(0, .ref 358), (1, .int v1), (2, .int v2)] [0, 1, 2] rfl ?_
  unfold G12_after at h
  refine x_aload_n C rfl 0 rfl dX12_after_0 ?_
  refine x_iconst (v := 0) C (by decide) dX12_after_1 ?_
  refine x_putI C (j := 0) ob358.1 ob358.2 (Nat.le_of_ble_eq_true rfl) (Nat.le_of_ble_eq_true rfl) (Or.inl rfl) rfl rfl rfl tw_8_206 dX12_after_2 ?_
  refine x_mu (fun μ11 e_μ11 => ?_)
  have h := h μ11 e_μ11
  refine x_aload_n C rfl 0 rfl dX12_after_5 ?_
  refine x_iload_n C rfl 1 rfl dX12_after_6 ?_
  refine x_callV (dC := G12_isLetter_dep) (as := [.int v1]) (st := []) C rX kX (Nat.le_trans (Nat.le_of_ble_eq_true rfl) hd) (Nat.le_of_ble_eq_true rfl) ob358.1 ob358.2 (Nat.le_of_ble_eq_true rfl) rfl ts_8_15 tw_7_1 tw_6_239 tc_7_2 tw_1_13 hyX12 hnX12_isLetter rfl (Nat.le_of_ble_eq_true rfl) dX12_after_7 (G12_isLetter_met C.2.2.2.2.2.2.2.1 (Nat.le_refl _)  h) (fun r0 μ12 hq => ?_)
  obtain ⟨r13, rfl, h⟩ := hq
  refine x_st [.int r13] rfl ?_
  refine x_if_eq (tgt := 34) C dX12_after_10 (by decide) (fun c14 => ?_) (fun c14 => ?_)
  · have h := h.1 c14
    refine x_iconst (v := (-1)) C (by decide) dX12_after_34 ?_
    exact x_iret C hr dX12_after_35 ⟨_, rfl, h⟩
  · have h := h.2 c14
    refine x_aload_n C rfl 0 rfl dX12_after_13 ?_
    refine x_getR (r := 374) C (j := 20) ob358.1 ob358.2 (Nat.le_of_ble_eq_true rfl) (Nat.le_of_ble_eq_true rfl) (fun _ _ _ => rfl) r_358_20 tw_8_226 dX12_after_14 ?_
    refine x_iload_n C rfl 1 rfl dX12_after_17 ?_
    obtain ⟨c15, h⟩ := h
    refine x_zald C ob374.1 ob374.2 c15 rfl dX12_after_18 ?_
    refine x_if_eq (tgt := 34) C dX12_after_19 (by decide) (fun c16 => ?_) (fun c16 => ?_)
    · have h := h.1 c16
      refine x_iconst (v := (-1)) C (by decide) dX12_after_34 ?_
      exact x_iret C hr dX12_after_35 ⟨_, rfl, h⟩
    · have h := h.2 c16
      refine x_iload_n C rfl 2 rfl dX12_after_22 ?_
      refine x_i2l C dX12_after_23 ?_
      refine x_lconst (v := 0) C (by decide) dX12_after_24 ?_
      refine x_ldc2 (v := 2) C tw_7_127 dX12_after_25 ?_
      refine x_callS (dC := G12_in_dep) (as := [.long (v2.toInt64), .long 0, .long 2]) (st := []) C rX kX (Nat.le_trans (Nat.le_of_ble_eq_true rfl) hd) (Nat.le_of_ble_eq_true rfl) tw_6_183 tw_6_182 tc_6_184 tw_1_13 hyX12 hnX12_in rfl (Nat.le_of_ble_eq_true rfl) dX12_after_28 (G12_in_met C.2.2.2.2.2.2.2.1 (Nat.le_refl _)  h) (fun r0 μ17 hq => ?_)
      obtain ⟨r18, rfl, h⟩ := hq
      refine x_st [.int r18] rfl ?_
      refine x_if_ne (tgt := 36) C dX12_after_31 (by decide) (fun c19 => ?_) (fun c19 => ?_)
      · have h := h.1 c19
        refine x_aload_n C rfl 0 rfl dX12_after_36 ?_
        refine x_getR (r := 375) C (j := 21) ob358.1 ob358.2 (Nat.le_of_ble_eq_true rfl) (Nat.le_of_ble_eq_true rfl) (fun _ _ _ => rfl) r_358_21 tw_8_227 dX12_after_37 ?_
        refine x_iload_n C rfl 1 rfl dX12_after_40 ?_
        obtain ⟨c20, h⟩ := h
        refine x_iald C ob375.1 ob375.2 c20 rfl dX12_after_41 ?_
        refine x_topi (fun y21 e_y21 => ?_)
        have h := h y21 e_y21
        refine x_istore_n C [(3, .int y21), (0, .ref 358), (1, .int v1), (2, .int v2)] rfl (Nat.le_of_ble_eq_true rfl) rfl dX12_after_42 ?_
        refine x_aload_n C rfl 1 rfl dX12_after_43 ?_
        refine x_getR (r := 375) C (j := 21) ob358.1 ob358.2 (Nat.le_of_ble_eq_true rfl) (Nat.le_of_ble_eq_true rfl) (fun _ _ _ => rfl) r_358_21 tw_8_227 dX12_after_44 ?_
        refine x_iload_n C rfl 2 rfl dX12_after_47 ?_
        refine x_iload_n C rfl 3 rfl dX12_after_48 ?_
        obtain ⟨c22, h⟩ := h
        refine x_iast C ob375.1 ob375.2 c22 rfl dX12_after_49 ?_
        refine x_mu (fun μ23 e_μ23 => ?_)
        have h := h μ23 e_μ23
        refine x_iload_n C rfl 0 rfl dX12_after_50 ?_
        exact x_iret C hr dX12_after_51 ⟨_, rfl, h⟩
      · have h := h.2 c19
        refine x_iconst (v := (-1)) C (by decide) dX12_after_34 ?_
        exact x_iret C hr dX12_after_35 ⟨_, rfl, h⟩
set_option maxHeartbeats 4000000 in
set_option maxRecDepth 100000 in
theorem G12_seed_met {l : Launch} {φ : Nat → Nat} {tc : Nat → ClassId} {D : va_G} {s0 : State} (hG : GX φ tc D s0) {dR : Nat} (hd : G12_seed_dep ≤ dR) {v1 : Int32} {μ : MM} {Q : Int32 → MM → Prop}  (h : G12_seed v1 μ Q) : MX l φ tc D s0 dR yX12_seed cX12_seed 3 (some .int) [.ref 358, .int v1] μ (QI Q) := by
  refine MX.of (own := RX12) hG plX12 rfl (Nat.le_of_ble_eq_true rfl) (fun p e s m args below meth c C hr => ?_)
  refine x_sub [(0, .ref 358), (1, .int v1)] [0, 1] rfl ?_
  unfold G12_seed at h
  refine x_aload_n C rfl 0 rfl dX12_seed_0 ?_
  refine x_iconst (v := 0) C (by decide) dX12_seed_1 ?_
  refine x_putI C (j := 0) ob358.1 ob358.2 (Nat.le_of_ble_eq_true rfl) (Nat.le_of_ble_eq_true rfl) (Or.inl rfl) rfl rfl rfl tw_8_206 dX12_seed_2 ?_
  refine x_mu (fun μ4 e_μ4 => ?_)
  have h := h μ4 e_μ4
  refine x_aload_n C rfl 0 rfl dX12_seed_5 ?_
  refine x_getI C (j := 22) ob358.1 ob358.2 (Nat.le_of_ble_eq_true rfl) (Nat.le_of_ble_eq_true rfl) (Or.inl rfl) tw_8_228 dX12_seed_6 ?_
  refine x_topi (fun y5 e_y5 => ?_)
  have h := h y5 e_y5
  refine x_istore_n C [(2, .int y5), (0, .ref 358), (1, .int v1)] rfl (Nat.le_of_ble_eq_true rfl) rfl dX12_seed_9 ?_
  refine x_aload_n C rfl 1 rfl dX12_seed_10 ?_
  refine x_iload_n C rfl 2 rfl dX12_seed_11 ?_
  refine x_putI C (j := 22) ob358.1 ob358.2 (Nat.le_of_ble_eq_true rfl) (Nat.le_of_ble_eq_true rfl) (Or.inl rfl) rfl rfl rfl tw_8_228 dX12_seed_12 ?_
  refine x_mu (fun μ6 e_μ6 => ?_)
  have h := h μ6 e_μ6
  refine x_iload_n C rfl 0 rfl dX12_seed_15 ?_
  exact x_iret C hr dX12_seed_16 ⟨_, rfl, h⟩
set_option maxHeartbeats 4000000 in
set_option maxRecDepth 100000 in
theorem G12_isFilter_J33_ok {p : Program} {e : Env} {s : State} {m : MethodId} {args : Array Value} {below : List Frame} {meth : Method} {c : Code} {l : Launch} {φ : Nat → Nat} {tc : Nat → ClassId} {D : va_G} {s0 : State} {dR : Nat} (C : CX p s m args meth c φ tc D (AX φ) s0 cX12_isFilter RX12 2) (hd : G12_isFilter_dep ≤ dR) (hr : meth.sig.returnType = (some .boolean))    {Q : Int32 → MM → Prop}  {μ : MM}    (h : G12_isFilter_J33 μ Q) : WX p l e (rmX dR) s m args below meth c φ tc D (AX φ) 2 0 0 (MQ below (QX φ tc D (QI Q)) args s 0 0 (AX φ)) 33 [] [] μ := by
  unfold G12_isFilter_J33 at h
  refine x_iconst (v := 0) C (by decide) dX12_isFilter_33 ?_
  exact x_zret C hr bo_0 dX12_isFilter_34 ⟨_, rfl, h⟩
set_option maxHeartbeats 4000000 in
set_option maxRecDepth 100000 in
theorem G12_isFilter_met {l : Launch} {φ : Nat → Nat} {tc : Nat → ClassId} {D : va_G} {s0 : State} (hG : GX φ tc D s0) {dR : Nat} (hd : G12_isFilter_dep ≤ dR) {v1 : Int32} {μ : MM} {Q : Int32 → MM → Prop}  (h : G12_isFilter v1 μ Q) : MX l φ tc D s0 dR yX12_isFilter cX12_isFilter 2 (some .boolean) [.ref 358, .int v1] μ (QI Q) := by
  refine MX.of (own := RX12) hG plX12 rfl (Nat.le_of_ble_eq_true rfl) (fun p e s m args below meth c C hr => ?_)
  refine x_sub [(0, .ref 358), (1, .int v1)] [0, 1] rfl ?_
  unfold G12_isFilter at h
  refine x_iload_n C rfl 1 rfl dX12_isFilter_0 ?_
  refine x_iconst (v := (-1)) C (by decide) dX12_isFilter_1 ?_
  refine x_icmp_eq (tgt := 29) C dX12_isFilter_2 (by decide) (fun c4 => ?_) (fun c4 => ?_)
  · have h := h.1 c4
    refine x_iconst (v := 1) C (by decide) dX12_isFilter_29 ?_
    refine x_goto (tgt := 34) C dX12_isFilter_30 (by decide) ?_
    exact x_zret C hr bo_1 dX12_isFilter_34 ⟨_, rfl, h⟩
  · have h := h.2 c4
    refine x_iload_n C rfl 1 rfl dX12_isFilter_5 ?_
    refine x_i2l C dX12_isFilter_6 ?_
    refine x_lconst (v := 0) C (by decide) dX12_isFilter_7 ?_
    refine x_ldc2 (v := 5) C tw_6_191 dX12_isFilter_8 ?_
    refine x_callS (dC := G12_in_dep) (as := [.long (v1.toInt64), .long 0, .long 5]) (st := []) C rX kX (Nat.le_trans (Nat.le_of_ble_eq_true rfl) hd) (Nat.le_of_ble_eq_true rfl) tw_6_183 tw_6_182 tc_6_184 tw_1_13 hyX12 hnX12_in rfl (Nat.le_of_ble_eq_true rfl) dX12_isFilter_11 (G12_in_met C.2.2.2.2.2.2.2.1 (Nat.le_refl _)  h) (fun r0 μ5 hq => ?_)
    obtain ⟨r6, rfl, h⟩ := hq
    refine x_st [.int r6] rfl ?_
    refine x_if_eq (tgt := 33) C dX12_isFilter_14 (by decide) (fun c7 => ?_) (fun c7 => ?_)
    · have h := h.1 c7
      refine x_sub [] [] rfl ?_
      exact G12_isFilter_J33_ok C hd hr  h
    · have h := h.2 c7
      refine x_aload_n C rfl 0 rfl dX12_isFilter_17 ?_
      refine x_getR (r := 378) C (j := 25) ob358.1 ob358.2 (Nat.le_of_ble_eq_true rfl) (Nat.le_of_ble_eq_true rfl) (fun _ _ _ => rfl) r_358_25 tw_8_231 dX12_isFilter_18 ?_
      refine x_bipush (v := 6) C (by decide) dX12_isFilter_21 ?_
      refine x_iload_n C rfl 1 rfl dX12_isFilter_23 ?_
      refine x_iadd C dX12_isFilter_24 ?_
      obtain ⟨c8, h⟩ := h
      refine x_iald C ob378.1 ob378.2 c8 rfl dX12_isFilter_25 ?_
      refine x_if_le (tgt := 33) C dX12_isFilter_26 (by decide) (fun c9 => ?_) (fun c9 => ?_)
      · have h := h.1 c9
        refine x_sub [] [] rfl ?_
        exact G12_isFilter_J33_ok C hd hr  h
      · have h := h.2 c9
        refine x_iconst (v := 1) C (by decide) dX12_isFilter_29 ?_
        refine x_goto (tgt := 34) C dX12_isFilter_30 (by decide) ?_
        exact x_zret C hr bo_1 dX12_isFilter_34 ⟨_, rfl, h⟩
set_option maxHeartbeats 4000000 in
set_option maxRecDepth 100000 in
theorem G12_passes_J29_ok {p : Program} {e : Env} {s : State} {m : MethodId} {args : Array Value} {below : List Frame} {meth : Method} {c : Code} {l : Launch} {φ : Nat → Nat} {tc : Nat → ClassId} {D : va_G} {s0 : State} {dR : Nat} (C : CX p s m args meth c φ tc D (AX φ) s0 cX12_passes RX12 3) (hd : G12_passes_dep ≤ dR) (hr : meth.sig.returnType = (some .boolean))    {Q : Int32 → MM → Prop}  {μ : MM}    (h : G12_passes_J29 μ Q) : WX p l e (rmX dR) s m args below meth c φ tc D (AX φ) 3 0 0 (MQ below (QX φ tc D (QI Q)) args s 0 0 (AX φ)) 29 [] [] μ := by
  unfold G12_passes_J29 at h
  refine x_iconst (v := 0) C (by decide) dX12_passes_29 ?_
  exact x_zret C hr bo_0 dX12_passes_30 ⟨_, rfl, h⟩
set_option maxHeartbeats 4000000 in
set_option maxRecDepth 100000 in
theorem G12_passes_met {l : Launch} {φ : Nat → Nat} {tc : Nat → ClassId} {D : va_G} {s0 : State} (hG : GX φ tc D s0) {dR : Nat} (hd : G12_passes_dep ≤ dR) {v1 : Int32} {v2 : Int32} {μ : MM} {Q : Int32 → MM → Prop}  (h : G12_passes v1 v2 μ Q) : MX l φ tc D s0 dR yX12_passes cX12_passes 3 (some .boolean) [.ref 358, .int v1, .int v2] μ (QI Q) := by
  refine MX.of (own := RX12) hG plX12 rfl (Nat.le_of_ble_eq_true rfl) (fun p e s m args below meth c C hr => ?_)
  refine x_sub [(0, .ref 358), (1, .int v1), (2, .int v2)] [0, 1, 2] rfl ?_
  unfold G12_passes at h
  refine x_aload_n C rfl 0 rfl dX12_passes_0 ?_
  refine x_getR (r := 373) C (j := 19) ob358.1 ob358.2 (Nat.le_of_ble_eq_true rfl) (Nat.le_of_ble_eq_true rfl) (fun _ _ _ => rfl) r_358_19 tw_8_225 dX12_passes_1 ?_
  refine x_iload_n C rfl 2 rfl dX12_passes_4 ?_
  obtain ⟨c4, h⟩ := h
  refine x_zald C ob373.1 ob373.2 c4 rfl dX12_passes_5 ?_
  refine x_if_eq (tgt := 29) C dX12_passes_6 (by decide) (fun c5 => ?_) (fun c5 => ?_)
  · have h := h.1 c5
    refine x_sub [] [] rfl ?_
    exact G12_passes_J29_ok C hd hr  h
  · have h := h.2 c5
    refine x_iload_n C rfl 1 rfl dX12_passes_9 ?_
    refine x_if_lt (tgt := 25) C dX12_passes_10 (by decide) (fun c6 => ?_) (fun c6 => ?_)
    · have h := h.1 c6
      refine x_iconst (v := 1) C (by decide) dX12_passes_25 ?_
      refine x_goto (tgt := 30) C dX12_passes_26 (by decide) ?_
      exact x_zret C hr bo_1 dX12_passes_30 ⟨_, rfl, h⟩
    · have h := h.2 c6
      refine x_aload_n C rfl 0 rfl dX12_passes_13 ?_
      refine x_bipush (v := 6) C (by decide) dX12_passes_14 ?_
      refine x_iload_n C rfl 1 rfl dX12_passes_16 ?_
      refine x_iadd C dX12_passes_17 ?_
      refine x_iload_n C rfl 2 rfl dX12_passes_18 ?_
      refine x_callV (dC := G12_worked_dep) (as := [.int (6 + v1), .int v2]) (st := []) C rX kX (Nat.le_trans (Nat.le_of_ble_eq_true rfl) hd) (Nat.le_of_ble_eq_true rfl) ob358.1 ob358.2 (Nat.le_of_ble_eq_true rfl) rfl ts_9_10 tw_7_101 tw_7_99 tc_7_102 tw_1_13 hyX12 hnX12_worked rfl (Nat.le_of_ble_eq_true rfl) dX12_passes_19 (G12_worked_met C.2.2.2.2.2.2.2.1 (Nat.le_refl _)  h) (fun r0 μ7 hq => ?_)
      obtain ⟨r8, rfl, h⟩ := hq
      refine x_st [.int r8] rfl ?_
      refine x_if_eq (tgt := 29) C dX12_passes_22 (by decide) (fun c9 => ?_) (fun c9 => ?_)
      · have h := h.1 c9
        refine x_sub [] [] rfl ?_
        exact G12_passes_J29_ok C hd hr  h
      · have h := h.2 c9
        refine x_iconst (v := 1) C (by decide) dX12_passes_25 ?_
        refine x_goto (tgt := 30) C dX12_passes_26 (by decide) ?_
        exact x_zret C hr bo_1 dX12_passes_30 ⟨_, rfl, h⟩
set_option maxHeartbeats 4000000 in
set_option maxRecDepth 100000 in
theorem G12_peopleOf_met {l : Launch} {φ : Nat → Nat} {tc : Nat → ClassId} {D : va_G} {s0 : State} (hG : GX φ tc D s0) {dR : Nat} (hd : G12_peopleOf_dep ≤ dR) {v1 : Int32} {μ : MM} {Q : Int32 → MM → Prop}  (h : G12_peopleOf v1 μ Q) : MX l φ tc D s0 dR yX12_peopleOf cX12_peopleOf 2 (some .int) [.ref 358, .int v1] μ (QI Q) := by
  refine MX.of (own := RX12) hG plX12 rfl (Nat.le_of_ble_eq_true rfl) (fun p e s m args below meth c C hr => ?_)
  refine x_sub [(0, .ref 358), (1, .int v1)] [0, 1] rfl ?_
  unfold G12_peopleOf at h
  refine x_aload_n C rfl 0 rfl dX12_peopleOf_0 ?_
  refine x_getR (r := 360) C (j := 4) ob358.1 ob358.2 (Nat.le_of_ble_eq_true rfl) (Nat.le_of_ble_eq_true rfl) (fun _ _ _ => rfl) r_358_4 tw_8_210 dX12_peopleOf_1 ?_
  refine x_aload_n C rfl 0 rfl dX12_peopleOf_4 ?_
  refine x_getR (r := 368) C (j := 14) ob358.1 ob358.2 (Nat.le_of_ble_eq_true rfl) (Nat.le_of_ble_eq_true rfl) (fun _ _ _ => rfl) r_358_14 tw_8_220 dX12_peopleOf_5 ?_
  refine x_iload_n C rfl 1 rfl dX12_peopleOf_8 ?_
  obtain ⟨c3, h⟩ := h
  refine x_iald C ob368.1 ob368.2 c3 rfl dX12_peopleOf_9 ?_
  obtain ⟨c4, h⟩ := h
  refine x_iald C ob360.1 ob360.2 c4 rfl dX12_peopleOf_10 ?_
  exact x_iret C hr dX12_peopleOf_11 ⟨_, rfl, h⟩
set_option maxHeartbeats 4000000 in
set_option maxRecDepth 100000 in
theorem G12_counts_L29_b {p : Program} {e : Env} {s : State} {m : MethodId} {args : Array Value} {below : List Frame} {meth : Method} {c : Code} {l : Launch} {φ : Nat → Nat} {tc : Nat → ClassId} {D : va_G} {s0 : State} {dR : Nat} (C : CX p s m args meth c φ tc D (AX φ) s0 cX12_counts RX12 4) (hd : G12_counts_dep ≤ dR) (hr : meth.sig.returnType = none)  {p1 : Int32} {p2 : Int32} {Q : MM → Prop} {K29 : Int32 × MM → Prop} {x : Int32 × MM}   (hK29 : ∀ (z3 : Int32) (zμ : MM), K29 (z3, zμ) → WX p l e (rmX dR) s m args below meth c φ tc D (AX φ) 4 0 0 (MQ below (QX φ tc D (QV Q)) args s 0 0 (AX φ)) 29 [(0, .ref 358), (1, .int p1), (2, .int p2), (3, .int z3)] [] zμ) (h : G12_counts_L29 p1 p2 Q K29 x) : WX p l e (rmX dR) s m args below meth c φ tc D (AX φ) 4 0 0 (MQ below (QX φ tc D (QV Q)) args s 0 0 (AX φ)) 29 [(0, .ref 358), (1, .int p1), (2, .int p2), (3, .int x.1)] [] x.2 := by
  unfold G12_counts_L29 at h
  refine x_iload_n C rfl 3 rfl dX12_counts_29 ?_
  refine x_aload_n C rfl 0 rfl dX12_counts_30 ?_
  refine x_getI C (j := 12) ob358.1 ob358.2 (Nat.le_of_ble_eq_true rfl) (Nat.le_of_ble_eq_true rfl) (Or.inl rfl) tw_8_218 dX12_counts_31 ?_
  refine x_icmp_ge (tgt := 98) C dX12_counts_34 (by decide) (fun c22 => ?_) (fun c22 => ?_)
  · have h := h.1 c22
    exact x_vret C hr dX12_counts_98 ⟨rfl, h⟩
  · have h := h.2 c22
    refine x_aload_n C rfl 0 rfl dX12_counts_37 ?_
    refine x_getR (r := 367) C (j := 13) ob358.1 ob358.2 (Nat.le_of_ble_eq_true rfl) (Nat.le_of_ble_eq_true rfl) (fun _ _ _ => rfl) r_358_13 tw_8_219 dX12_counts_38 ?_
    refine x_iload_n C rfl 3 rfl dX12_counts_41 ?_
    obtain ⟨c23, h⟩ := h
    refine x_iald C ob367.1 ob367.2 c23 rfl dX12_counts_42 ?_
    refine x_iload_n C rfl 2 rfl dX12_counts_43 ?_
    refine x_icmp_eq (tgt := 92) C dX12_counts_44 (by decide) (fun c24 => ?_) (fun c24 => ?_)
    · have h := h.1 c24
      refine x_iinc (v := (x.1 + 1)) C [(3, .int (x.1 + 1)), (0, .ref 358), (1, .int p1), (2, .int p2)] 3 rfl (congrArg (fun z => x.1 + z) (by decide : Int32.ofInt (1) = 1)) (Nat.le_of_ble_eq_true rfl) rfl dX12_counts_92 ?_
      refine x_goto (tgt := 29) C dX12_counts_95 (by decide) ?_
      refine x_sub [(0, .ref 358), (1, .int p1), (2, .int p2), (3, .int (x.1 + 1))] [1, 2, 3, 0] rfl ?_
      exact hK29 _ _ h
    · have h := h.2 c24
      refine x_aload_n C rfl 0 rfl dX12_counts_47 ?_
      refine x_iload_n C rfl 1 rfl dX12_counts_48 ?_
      refine x_iload_n C rfl 3 rfl dX12_counts_49 ?_
      refine x_callV (dC := G12_passes_dep) (as := [.int p1, .int x.1]) (st := []) C rX kX (Nat.le_trans (Nat.le_of_ble_eq_true rfl) hd) (Nat.le_of_ble_eq_true rfl) ob358.1 ob358.2 (Nat.le_of_ble_eq_true rfl) rfl ts_9_14 tw_7_146 tw_7_144 tc_7_147 tw_1_13 hyX12 hnX12_passes rfl (Nat.le_of_ble_eq_true rfl) dX12_counts_50 (G12_passes_met C.2.2.2.2.2.2.2.1 (Nat.le_refl _)  h) (fun r0 μ25 hq => ?_)
      obtain ⟨r26, rfl, h⟩ := hq
      refine x_st [.int r26] rfl ?_
      refine x_if_eq (tgt := 92) C dX12_counts_53 (by decide) (fun c27 => ?_) (fun c27 => ?_)
      · have h := h.1 c27
        refine x_iinc (v := (x.1 + 1)) C [(3, .int (x.1 + 1)), (0, .ref 358), (1, .int p1), (2, .int p2)] 3 rfl (congrArg (fun z => x.1 + z) (by decide : Int32.ofInt (1) = 1)) (Nat.le_of_ble_eq_true rfl) rfl dX12_counts_92 ?_
        refine x_goto (tgt := 29) C dX12_counts_95 (by decide) ?_
        refine x_sub [(0, .ref 358), (1, .int p1), (2, .int p2), (3, .int (x.1 + 1))] [1, 2, 3, 0] rfl ?_
        exact hK29 _ _ h
      · have h := h.2 c27
        refine x_aload_n C rfl 0 rfl dX12_counts_56 ?_
        refine x_getR (r := 381) C (j := 36) ob358.1 ob358.2 (Nat.le_of_ble_eq_true rfl) (Nat.le_of_ble_eq_true rfl) (fun _ _ _ => rfl) r_358_36 tw_9_2 dX12_counts_57 ?_
        refine x_aload_n C rfl 0 rfl dX12_counts_60 ?_
        refine x_iload_n C rfl 3 rfl dX12_counts_61 ?_
        refine x_callV (dC := G12_peopleOf_dep) (as := [.int x.1]) (st := [.ref 381]) C rX kX (Nat.le_trans (Nat.le_of_ble_eq_true rfl) hd) (Nat.le_of_ble_eq_true rfl) ob358.1 ob358.2 (Nat.le_of_ble_eq_true rfl) rfl ts_9_15 tw_7_150 tw_7_148 tc_7_151 tw_1_13 hyX12 hnX12_peopleOf rfl (Nat.le_of_ble_eq_true rfl) dX12_counts_62 (G12_peopleOf_met C.2.2.2.2.2.2.2.1 (Nat.le_refl _)  h) (fun r0 μ28 hq => ?_)
        obtain ⟨r29, rfl, h⟩ := hq
        refine x_st [.int r29, .ref 381] rfl ?_
        refine x_dup2_11 C rfl rfl dX12_counts_65 ?_
        obtain ⟨c30, h⟩ := h
        refine x_iald C ob381.1 ob381.2 c30 rfl dX12_counts_66 ?_
        refine x_iconst (v := 1) C (by decide) dX12_counts_67 ?_
        refine x_iadd C dX12_counts_68 ?_
        obtain ⟨c31, h⟩ := h
        refine x_iast C ob381.1 ob381.2 c31 rfl dX12_counts_69 ?_
        refine x_mu (fun μ32 e_μ32 => ?_)
        have h := h μ32 e_μ32
        refine x_aload_n C rfl 0 rfl dX12_counts_70 ?_
        refine x_getR (r := 382) C (j := 37) ob358.1 ob358.2 (Nat.le_of_ble_eq_true rfl) (Nat.le_of_ble_eq_true rfl) (fun _ _ _ => rfl) r_358_37 tw_9_3 dX12_counts_71 ?_
        refine x_aload_n C rfl 0 rfl dX12_counts_74 ?_
        refine x_iload_n C rfl 3 rfl dX12_counts_75 ?_
        refine x_callV (dC := G12_peopleOf_dep) (as := [.int x.1]) (st := [.ref 382]) C rX kX (Nat.le_trans (Nat.le_of_ble_eq_true rfl) hd) (Nat.le_of_ble_eq_true rfl) ob358.1 ob358.2 (Nat.le_of_ble_eq_true rfl) rfl ts_9_15 tw_7_150 tw_7_148 tc_7_151 tw_1_13 hyX12 hnX12_peopleOf rfl (Nat.le_of_ble_eq_true rfl) dX12_counts_76 (G12_peopleOf_met C.2.2.2.2.2.2.2.1 (Nat.le_refl _)  h) (fun r0 μ33 hq => ?_)
        obtain ⟨r34, rfl, h⟩ := hq
        refine x_st [.int r34, .ref 382] rfl ?_
        refine x_dup2_11 C rfl rfl dX12_counts_79 ?_
        obtain ⟨c35, h⟩ := h
        refine x_iald C ob382.1 ob382.2 c35 rfl dX12_counts_80 ?_
        refine x_aload_n C rfl 0 rfl dX12_counts_81 ?_
        refine x_getR (r := 374) C (j := 20) ob358.1 ob358.2 (Nat.le_of_ble_eq_true rfl) (Nat.le_of_ble_eq_true rfl) (fun _ _ _ => rfl) r_358_20 tw_8_226 dX12_counts_82 ?_
        refine x_iload_n C rfl 3 rfl dX12_counts_85 ?_
        obtain ⟨c36, h⟩ := h
        refine x_zald C ob374.1 ob374.2 c36 rfl dX12_counts_86 ?_
        refine x_callS (dC := G12_flag_dep) (as := [.int (gI μ33 374 x.1.toNatClampNeg)]) (st := [.int (gI μ33 382 r34.toNatClampNeg), .int r34, .ref 382]) C rX kX (Nat.le_trans (Nat.le_of_ble_eq_true rfl) hd) (Nat.le_of_ble_eq_true rfl) tw_6_212 tw_6_211 tc_6_213 tw_1_13 hyX12 hnX12_flag rfl (Nat.le_of_ble_eq_true rfl) dX12_counts_87 (G12_flag_met C.2.2.2.2.2.2.2.1 (Nat.le_refl _)  h) (fun r0 μ37 hq => ?_)
        obtain ⟨r38, rfl, h⟩ := hq
        refine x_st [.int r38, .int (gI μ33 382 r34.toNatClampNeg), .int r34, .ref 382] rfl ?_
        refine x_iadd C dX12_counts_90 ?_
        obtain ⟨c39, h⟩ := h
        refine x_iast C ob382.1 ob382.2 c39 rfl dX12_counts_91 ?_
        refine x_mu (fun μ40 e_μ40 => ?_)
        have h := h μ40 e_μ40
        refine x_iinc (v := (x.1 + 1)) C [(3, .int (x.1 + 1)), (0, .ref 358), (1, .int p1), (2, .int p2)] 3 rfl (congrArg (fun z => x.1 + z) (by decide : Int32.ofInt (1) = 1)) (Nat.le_of_ble_eq_true rfl) rfl dX12_counts_92 ?_
        refine x_goto (tgt := 29) C dX12_counts_95 (by decide) ?_
        refine x_sub [(0, .ref 358), (1, .int p1), (2, .int p2), (3, .int (x.1 + 1))] [1, 2, 3, 0] rfl ?_
        exact hK29 _ _ h
theorem G12_counts_L29_ok {p : Program} {e : Env} {s : State} {m : MethodId} {args : Array Value} {below : List Frame} {meth : Method} {c : Code} {l : Launch} {φ : Nat → Nat} {tc : Nat → ClassId} {D : va_G} {s0 : State} {dR : Nat} (C : CX p s m args meth c φ tc D (AX φ) s0 cX12_counts RX12 4) (hd : G12_counts_dep ≤ dR) (hr : meth.sig.returnType = none)  {p1 : Int32} {p2 : Int32} {Q : MM → Prop}  {x : Int32 × MM}    (h : Lp (G12_counts_L29 p1 p2 Q) x) : WX p l e (rmX dR) s m args below meth c φ tc D (AX φ) 4 0 0 (MQ below (QX φ tc D (QV Q)) args s 0 0 (AX φ)) 29 [(0, .ref 358), (1, .int p1), (2, .int p2), (3, .int x.1)] [] x.2 := by
  obtain ⟨n, h⟩ := h
  induction n generalizing x with
  | zero => exact h.elim
  | succ n ih => exact G12_counts_L29_b C hd hr   (fun z3 zμ hz => by have q := ih hz; exact q) h
set_option maxHeartbeats 4000000 in
set_option maxRecDepth 100000 in
theorem G12_counts_L2_b {p : Program} {e : Env} {s : State} {m : MethodId} {args : Array Value} {below : List Frame} {meth : Method} {c : Code} {l : Launch} {φ : Nat → Nat} {tc : Nat → ClassId} {D : va_G} {s0 : State} {dR : Nat} (C : CX p s m args meth c φ tc D (AX φ) s0 cX12_counts RX12 4) (hd : G12_counts_dep ≤ dR) (hr : meth.sig.returnType = none)  {p1 : Int32} {p2 : Int32} {Q : MM → Prop} {K2 : Int32 × MM → Prop} {x : Int32 × MM}   (hK2 : ∀ (z3 : Int32) (zμ : MM), K2 (z3, zμ) → WX p l e (rmX dR) s m args below meth c φ tc D (AX φ) 4 0 0 (MQ below (QX φ tc D (QV Q)) args s 0 0 (AX φ)) 2 [(0, .ref 358), (1, .int p1), (2, .int p2), (3, .int z3)] [] zμ) (h : G12_counts_L2 p1 p2 Q K2 x) : WX p l e (rmX dR) s m args below meth c φ tc D (AX φ) 4 0 0 (MQ below (QX φ tc D (QV Q)) args s 0 0 (AX φ)) 2 [(0, .ref 358), (1, .int p1), (2, .int p2), (3, .int x.1)] [] x.2 := by
  unfold G12_counts_L2 at h
  refine x_iload_n C rfl 3 rfl dX12_counts_2 ?_
  refine x_iconst (v := 2) C (by decide) dX12_counts_3 ?_
  refine x_icmp_ge (tgt := 27) C dX12_counts_4 (by decide) (fun c21 => ?_) (fun c21 => ?_)
  · have h := h.1 c21
    refine x_iconst (v := 0) C (by decide) dX12_counts_27 ?_
    refine x_istore_n C [(3, .int 0), (0, .ref 358), (1, .int p1), (2, .int p2)] rfl (Nat.le_of_ble_eq_true rfl) rfl dX12_counts_28 ?_
    refine x_sub [(0, .ref 358), (1, .int p1), (2, .int p2), (3, .int 0)] [1, 2, 3, 0] rfl ?_
    exact G12_counts_L29_ok C hd hr  h
  · have h := h.2 c21
    refine x_aload_n C rfl 0 rfl dX12_counts_7 ?_
    refine x_getR (r := 381) C (j := 36) ob358.1 ob358.2 (Nat.le_of_ble_eq_true rfl) (Nat.le_of_ble_eq_true rfl) (fun _ _ _ => rfl) r_358_36 tw_9_2 dX12_counts_8 ?_
    refine x_iload_n C rfl 3 rfl dX12_counts_11 ?_
    refine x_iconst (v := 0) C (by decide) dX12_counts_12 ?_
    obtain ⟨c41, h⟩ := h
    refine x_iast C ob381.1 ob381.2 c41 rfl dX12_counts_13 ?_
    refine x_mu (fun μ42 e_μ42 => ?_)
    have h := h μ42 e_μ42
    refine x_aload_n C rfl 0 rfl dX12_counts_14 ?_
    refine x_getR (r := 382) C (j := 37) ob358.1 ob358.2 (Nat.le_of_ble_eq_true rfl) (Nat.le_of_ble_eq_true rfl) (fun _ _ _ => rfl) r_358_37 tw_9_3 dX12_counts_15 ?_
    refine x_iload_n C rfl 3 rfl dX12_counts_18 ?_
    refine x_iconst (v := 0) C (by decide) dX12_counts_19 ?_
    obtain ⟨c43, h⟩ := h
    refine x_iast C ob382.1 ob382.2 c43 rfl dX12_counts_20 ?_
    refine x_mu (fun μ44 e_μ44 => ?_)
    have h := h μ44 e_μ44
    refine x_iinc (v := (x.1 + 1)) C [(3, .int (x.1 + 1)), (0, .ref 358), (1, .int p1), (2, .int p2)] 3 rfl (congrArg (fun z => x.1 + z) (by decide : Int32.ofInt (1) = 1)) (Nat.le_of_ble_eq_true rfl) rfl dX12_counts_21 ?_
    refine x_goto (tgt := 2) C dX12_counts_24 (by decide) ?_
    refine x_sub [(0, .ref 358), (1, .int p1), (2, .int p2), (3, .int (x.1 + 1))] [1, 2, 3, 0] rfl ?_
    exact hK2 _ _ h
theorem G12_counts_L2_ok {p : Program} {e : Env} {s : State} {m : MethodId} {args : Array Value} {below : List Frame} {meth : Method} {c : Code} {l : Launch} {φ : Nat → Nat} {tc : Nat → ClassId} {D : va_G} {s0 : State} {dR : Nat} (C : CX p s m args meth c φ tc D (AX φ) s0 cX12_counts RX12 4) (hd : G12_counts_dep ≤ dR) (hr : meth.sig.returnType = none)  {p1 : Int32} {p2 : Int32} {Q : MM → Prop}  {x : Int32 × MM}    (h : Lp (G12_counts_L2 p1 p2 Q) x) : WX p l e (rmX dR) s m args below meth c φ tc D (AX φ) 4 0 0 (MQ below (QX φ tc D (QV Q)) args s 0 0 (AX φ)) 2 [(0, .ref 358), (1, .int p1), (2, .int p2), (3, .int x.1)] [] x.2 := by
  obtain ⟨n, h⟩ := h
  induction n generalizing x with
  | zero => exact h.elim
  | succ n ih => exact G12_counts_L2_b C hd hr   (fun z3 zμ hz => by have q := ih hz; exact q) h
set_option maxHeartbeats 4000000 in
set_option maxRecDepth 100000 in
theorem G12_counts_met {l : Launch} {φ : Nat → Nat} {tc : Nat → ClassId} {D : va_G} {s0 : State} (hG : GX φ tc D s0) {dR : Nat} (hd : G12_counts_dep ≤ dR) {v1 : Int32} {v2 : Int32} {μ : MM} {Q : MM → Prop}  (h : G12_counts v1 v2 μ Q) : MX l φ tc D s0 dR yX12_counts cX12_counts 4 none [.ref 358, .int v1, .int v2] μ (QV Q) := by
  refine MX.of (own := RX12) hG plX12 rfl (Nat.le_of_ble_eq_true rfl) (fun p e s m args below meth c C hr => ?_)
  refine x_sub [(0, .ref 358), (1, .int v1), (2, .int v2)] [0, 1, 2] rfl ?_
  unfold G12_counts at h
  refine x_iconst (v := 0) C (by decide) dX12_counts_0 ?_
  refine x_istore_n C [(3, .int 0), (0, .ref 358), (1, .int v1), (2, .int v2)] rfl (Nat.le_of_ble_eq_true rfl) rfl dX12_counts_1 ?_
  refine x_sub [(0, .ref 358), (1, .int v1), (2, .int v2), (3, .int 0)] [1, 2, 3, 0] rfl ?_
  exact G12_counts_L2_ok C hd hr  h
set_option maxHeartbeats 4000000 in
set_option maxRecDepth 100000 in
theorem G12_share_met {l : Launch} {φ : Nat → Nat} {tc : Nat → ClassId} {D : va_G} {s0 : State} (hG : GX φ tc D s0) {dR : Nat} (hd : G12_share_dep ≤ dR) {v1 : Int32} {μ : MM} {Q : Int32 → MM → Prop}  (h : G12_share v1 μ Q) : MX l φ tc D s0 dR yX12_share cX12_share 2 (some .int) [.ref 358, .int v1] μ (QI Q) := by
  refine MX.of (own := RX12) hG plX12 rfl (Nat.le_of_ble_eq_true rfl) (fun p e s m args below meth c C hr => ?_)
  refine x_sub [(0, .ref 358), (1, .int v1)] [0, 1] rfl ?_
  unfold G12_share at h
  refine x_aload_n C rfl 0 rfl dX12_share_0 ?_
  refine x_iconst (v := 0) C (by decide) dX12_share_1 ?_
  refine x_putI C (j := 0) ob358.1 ob358.2 (Nat.le_of_ble_eq_true rfl) (Nat.le_of_ble_eq_true rfl) (Or.inl rfl) rfl rfl rfl tw_8_206 dX12_share_2 ?_
  refine x_mu (fun μ7 e_μ7 => ?_)
  have h := h μ7 e_μ7
  refine x_aload_n C rfl 0 rfl dX12_share_5 ?_
  refine x_iload_n C rfl 1 rfl dX12_share_6 ?_
  refine x_callV (dC := G12_isFilter_dep) (as := [.int v1]) (st := []) C rX kX (Nat.le_trans (Nat.le_of_ble_eq_true rfl) hd) (Nat.le_of_ble_eq_true rfl) ob358.1 ob358.2 (Nat.le_of_ble_eq_true rfl) rfl ts_9_12 tw_7_138 tw_7_136 tc_7_139 tw_1_13 hyX12 hnX12_isFilter rfl (Nat.le_of_ble_eq_true rfl) dX12_share_7 (G12_isFilter_met C.2.2.2.2.2.2.2.1 (Nat.le_refl _)  h) (fun r0 μ8 hq => ?_)
  obtain ⟨r9, rfl, h⟩ := hq
  refine x_st [.int r9] rfl ?_
  refine x_if_ne (tgt := 15) C dX12_share_10 (by decide) (fun c10 => ?_) (fun c10 => ?_)
  · have h := h.1 c10
    refine x_aload_n C rfl 0 rfl dX12_share_15 ?_
    refine x_iload_n C rfl 1 rfl dX12_share_16 ?_
    refine x_iconst (v := (-1)) C (by decide) dX12_share_17 ?_
    refine x_callV (dC := G12_counts_dep) (as := [.int v1, .int (-1)]) (st := []) C rX kX (Nat.le_trans (Nat.le_of_ble_eq_true rfl) hd) (Nat.le_of_ble_eq_true rfl) ob358.1 ob358.2 (Nat.le_of_ble_eq_true rfl) rfl ts_9_13 tw_7_142 tw_7_140 tc_7_143 tw_1_13 hyX12 hnX12_counts rfl (Nat.le_of_ble_eq_true rfl) dX12_share_18 (G12_counts_met C.2.2.2.2.2.2.2.1 (Nat.le_refl _)  h) (fun r0 μ11 hq => ?_)
    obtain ⟨rfl, h⟩ := hq
    refine x_st [] rfl ?_
    refine x_aload_n C rfl 0 rfl dX12_share_21 ?_
    refine x_iconst (v := 0) C (by decide) dX12_share_22 ?_
    refine x_putI C (j := 1) ob358.1 ob358.2 (Nat.le_of_ble_eq_true rfl) (Nat.le_of_ble_eq_true rfl) (Or.inl rfl) rfl rfl rfl tw_8_207 dX12_share_23 ?_
    refine x_mu (fun μ12 e_μ12 => ?_)
    have h := h μ12 e_μ12
    refine x_aload_n C rfl 0 rfl dX12_share_26 ?_
    refine x_getR (r := 381) C (j := 36) ob358.1 ob358.2 (Nat.le_of_ble_eq_true rfl) (Nat.le_of_ble_eq_true rfl) (fun _ _ _ => rfl) r_358_36 tw_9_2 dX12_share_27 ?_
    refine x_iconst (v := 0) C (by decide) dX12_share_30 ?_
    refine x_iald C ob381.1 ob381.2 (by unfold vp_in; decide) (j := 0) (by decide) dX12_share_31 ?_
    refine x_aload_n C rfl 0 rfl dX12_share_32 ?_
    refine x_getR (r := 381) C (j := 36) ob358.1 ob358.2 (Nat.le_of_ble_eq_true rfl) (Nat.le_of_ble_eq_true rfl) (fun _ _ _ => rfl) r_358_36 tw_9_2 dX12_share_33 ?_
    refine x_iconst (v := 1) C (by decide) dX12_share_36 ?_
    refine x_iald C ob381.1 ob381.2 (by unfold vp_in; decide) (j := 1) (by decide) dX12_share_37 ?_
    refine x_iadd C dX12_share_38 ?_
    refine x_if_le (tgt := 74) C dX12_share_39 (by decide) (fun c13 => ?_) (fun c13 => ?_)
    · have h := h.1 c13
      refine x_aload_n C rfl 0 rfl dX12_share_74 ?_
      refine x_getR (r := 381) C (j := 36) ob358.1 ob358.2 (Nat.le_of_ble_eq_true rfl) (Nat.le_of_ble_eq_true rfl) (fun _ _ _ => rfl) r_358_36 tw_9_2 dX12_share_75 ?_
      refine x_iconst (v := 0) C (by decide) dX12_share_78 ?_
      refine x_iald C ob381.1 ob381.2 (by unfold vp_in; decide) (j := 0) (by decide) dX12_share_79 ?_
      refine x_aload_n C rfl 0 rfl dX12_share_80 ?_
      refine x_getR (r := 381) C (j := 36) ob358.1 ob358.2 (Nat.le_of_ble_eq_true rfl) (Nat.le_of_ble_eq_true rfl) (fun _ _ _ => rfl) r_358_36 tw_9_2 dX12_share_81 ?_
      refine x_iconst (v := 1) C (by decide) dX12_share_84 ?_
      refine x_iald C ob381.1 ob381.2 (by unfold vp_in; decide) (j := 1) (by decide) dX12_share_85 ?_
      refine x_iadd C dX12_share_86 ?_
      exact x_iret C hr dX12_share_87 ⟨_, rfl, h⟩
    · have h := h.2 c13
      refine x_aload_n C rfl 0 rfl dX12_share_42 ?_
      refine x_aload_n C rfl 0 rfl dX12_share_43 ?_
      refine x_getR (r := 382) C (j := 37) ob358.1 ob358.2 (Nat.le_of_ble_eq_true rfl) (Nat.le_of_ble_eq_true rfl) (fun _ _ _ => rfl) r_358_37 tw_9_3 dX12_share_44 ?_
      refine x_iconst (v := 0) C (by decide) dX12_share_47 ?_
      refine x_iald C ob382.1 ob382.2 (by unfold vp_in; decide) (j := 0) (by decide) dX12_share_48 ?_
      refine x_aload_n C rfl 0 rfl dX12_share_49 ?_
      refine x_getR (r := 382) C (j := 37) ob358.1 ob358.2 (Nat.le_of_ble_eq_true rfl) (Nat.le_of_ble_eq_true rfl) (fun _ _ _ => rfl) r_358_37 tw_9_3 dX12_share_50 ?_
      refine x_iconst (v := 1) C (by decide) dX12_share_53 ?_
      refine x_iald C ob382.1 ob382.2 (by unfold vp_in; decide) (j := 1) (by decide) dX12_share_54 ?_
      refine x_iadd C dX12_share_55 ?_
      refine x_i2l C dX12_share_56 ?_
      refine x_aload_n C rfl 0 rfl dX12_share_57 ?_
      refine x_getR (r := 381) C (j := 36) ob358.1 ob358.2 (Nat.le_of_ble_eq_true rfl) (Nat.le_of_ble_eq_true rfl) (fun _ _ _ => rfl) r_358_36 tw_9_2 dX12_share_58 ?_
      refine x_iconst (v := 0) C (by decide) dX12_share_61 ?_
      refine x_iald C ob381.1 ob381.2 (by unfold vp_in; decide) (j := 0) (by decide) dX12_share_62 ?_
      refine x_aload_n C rfl 0 rfl dX12_share_63 ?_
      refine x_getR (r := 381) C (j := 36) ob358.1 ob358.2 (Nat.le_of_ble_eq_true rfl) (Nat.le_of_ble_eq_true rfl) (fun _ _ _ => rfl) r_358_36 tw_9_2 dX12_share_64 ?_
      refine x_iconst (v := 1) C (by decide) dX12_share_67 ?_
      refine x_iald C ob381.1 ob381.2 (by unfold vp_in; decide) (j := 1) (by decide) dX12_share_68 ?_
      refine x_iadd C dX12_share_69 ?_
      refine x_i2l C dX12_share_70 ?_
      refine x_callV (dC := G12_entersFraction_dep) (as := [.long (((gI μ12 382 0) + (gI μ12 382 1)).toInt64), .long (((gI μ12 381 0) + (gI μ12 381 1)).toInt64)]) (st := []) C rX kX (Nat.le_trans (Nat.le_of_ble_eq_true rfl) hd) (Nat.le_of_ble_eq_true rfl) ob358.1 ob358.2 (Nat.le_of_ble_eq_true rfl) rfl ts_10_0 tw_7_154 tw_7_152 tc_7_155 tw_1_13 hyX12 hnX12_entersFraction rfl (Nat.le_of_ble_eq_true rfl) dX12_share_71 (G12_entersFraction_met C.2.2.2.2.2.2.2.1 (Nat.le_refl _)  h) (fun r0 μ14 hq => ?_)
      obtain ⟨rfl, h⟩ := hq
      refine x_st [] rfl ?_
      refine x_aload_n C rfl 0 rfl dX12_share_74 ?_
      refine x_getR (r := 381) C (j := 36) ob358.1 ob358.2 (Nat.le_of_ble_eq_true rfl) (Nat.le_of_ble_eq_true rfl) (fun _ _ _ => rfl) r_358_36 tw_9_2 dX12_share_75 ?_
      refine x_iconst (v := 0) C (by decide) dX12_share_78 ?_
      refine x_iald C ob381.1 ob381.2 (by unfold vp_in; decide) (j := 0) (by decide) dX12_share_79 ?_
      refine x_aload_n C rfl 0 rfl dX12_share_80 ?_
      refine x_getR (r := 381) C (j := 36) ob358.1 ob358.2 (Nat.le_of_ble_eq_true rfl) (Nat.le_of_ble_eq_true rfl) (fun _ _ _ => rfl) r_358_36 tw_9_2 dX12_share_81 ?_
      refine x_iconst (v := 1) C (by decide) dX12_share_84 ?_
      refine x_iald C ob381.1 ob381.2 (by unfold vp_in; decide) (j := 1) (by decide) dX12_share_85 ?_
      refine x_iadd C dX12_share_86 ?_
      exact x_iret C hr dX12_share_87 ⟨_, rfl, h⟩
  · have h := h.2 c10
    refine x_iconst (v := (-1)) C (by decide) dX12_share_13 ?_
    exact x_iret C hr dX12_share_14 ⟨_, rfl, h⟩
set_option maxHeartbeats 4000000 in
set_option maxRecDepth 100000 in
theorem G12_areBoth_J22_ok {p : Program} {e : Env} {s : State} {m : MethodId} {args : Array Value} {below : List Frame} {meth : Method} {c : Code} {l : Launch} {φ : Nat → Nat} {tc : Nat → ClassId} {D : va_G} {s0 : State} {dR : Nat} (C : CX p s m args meth c φ tc D (AX φ) s0 cX12_areBoth RX12 1) (hd : G12_areBoth_dep ≤ dR) (hr : meth.sig.returnType = (some .boolean))    {Q : Int32 → MM → Prop}  {μ : MM}    (h : G12_areBoth_J22 μ Q) : WX p l e (rmX dR) s m args below meth c φ tc D (AX φ) 1 0 0 (MQ below (QX φ tc D (QI Q)) args s 0 0 (AX φ)) 22 [] [] μ := by
  unfold G12_areBoth_J22 at h
  refine x_iconst (v := 0) C (by decide) dX12_areBoth_22 ?_
  exact x_zret C hr bo_0 dX12_areBoth_23 ⟨_, rfl, h⟩
set_option maxHeartbeats 4000000 in
set_option maxRecDepth 100000 in
theorem G12_areBoth_met {l : Launch} {φ : Nat → Nat} {tc : Nat → ClassId} {D : va_G} {s0 : State} (hG : GX φ tc D s0) {dR : Nat} (hd : G12_areBoth_dep ≤ dR)  {μ : MM} {Q : Int32 → MM → Prop}  (h : G12_areBoth  μ Q) : MX l φ tc D s0 dR yX12_areBoth cX12_areBoth 1 (some .boolean) [.ref 358] μ (QI Q) := by
  refine MX.of (own := RX12) hG plX12 rfl (Nat.le_of_ble_eq_true rfl) (fun p e s m args below meth c C hr => ?_)
  refine x_sub [(0, .ref 358)] [0] rfl ?_
  unfold G12_areBoth at h
  refine x_aload_n C rfl 0 rfl dX12_areBoth_0 ?_
  refine x_getR (r := 381) C (j := 36) ob358.1 ob358.2 (Nat.le_of_ble_eq_true rfl) (Nat.le_of_ble_eq_true rfl) (fun _ _ _ => rfl) r_358_36 tw_9_2 dX12_areBoth_1 ?_
  refine x_iconst (v := 0) C (by decide) dX12_areBoth_4 ?_
  refine x_iald C ob381.1 ob381.2 (by unfold vp_in; decide) (j := 0) (by decide) dX12_areBoth_5 ?_
  refine x_if_le (tgt := 22) C dX12_areBoth_6 (by decide) (fun c1 => ?_) (fun c1 => ?_)
  · have h := h.1 c1
    refine x_sub [] [] rfl ?_
    exact G12_areBoth_J22_ok C hd hr  h
  · have h := h.2 c1
    refine x_aload_n C rfl 0 rfl dX12_areBoth_9 ?_
    refine x_getR (r := 381) C (j := 36) ob358.1 ob358.2 (Nat.le_of_ble_eq_true rfl) (Nat.le_of_ble_eq_true rfl) (fun _ _ _ => rfl) r_358_36 tw_9_2 dX12_areBoth_10 ?_
    refine x_iconst (v := 1) C (by decide) dX12_areBoth_13 ?_
    refine x_iald C ob381.1 ob381.2 (by unfold vp_in; decide) (j := 1) (by decide) dX12_areBoth_14 ?_
    refine x_if_le (tgt := 22) C dX12_areBoth_15 (by decide) (fun c2 => ?_) (fun c2 => ?_)
    · have h := h.1 c2
      refine x_sub [] [] rfl ?_
      exact G12_areBoth_J22_ok C hd hr  h
    · have h := h.2 c2
      refine x_iconst (v := 1) C (by decide) dX12_areBoth_18 ?_
      refine x_goto (tgt := 23) C dX12_areBoth_19 (by decide) ?_
      exact x_zret C hr bo_1 dX12_areBoth_23 ⟨_, rfl, h⟩
set_option maxHeartbeats 4000000 in
set_option maxRecDepth 100000 in
theorem G12_aside_met {l : Launch} {φ : Nat → Nat} {tc : Nat → ClassId} {D : va_G} {s0 : State} (hG : GX φ tc D s0) {dR : Nat} (hd : G12_aside_dep ≤ dR) {v1 : Int32} {μ : MM} {Q : Int32 → MM → Prop}  (h : G12_aside v1 μ Q) : MX l φ tc D s0 dR yX12_aside cX12_aside 2 (some .int) [.ref 358, .int v1] μ (QI Q) := by
  refine MX.of (own := RX12) hG plX12 rfl (Nat.le_of_ble_eq_true rfl) (fun p e s m args below meth c C hr => ?_)
  refine x_sub [(0, .ref 358), (1, .int v1)] [0, 1] rfl ?_
  unfold G12_aside at h
  refine x_aload_n C rfl 0 rfl dX12_aside_0 ?_
  refine x_iconst (v := 0) C (by decide) dX12_aside_1 ?_
  refine x_putI C (j := 0) ob358.1 ob358.2 (Nat.le_of_ble_eq_true rfl) (Nat.le_of_ble_eq_true rfl) (Or.inl rfl) rfl rfl rfl tw_8_206 dX12_aside_2 ?_
  refine x_mu (fun μ13 e_μ13 => ?_)
  have h := h μ13 e_μ13
  refine x_aload_n C rfl 0 rfl dX12_aside_5 ?_
  refine x_iload_n C rfl 1 rfl dX12_aside_6 ?_
  refine x_callV (dC := G12_isFilter_dep) (as := [.int v1]) (st := []) C rX kX (Nat.le_trans (Nat.le_of_ble_eq_true rfl) hd) (Nat.le_of_ble_eq_true rfl) ob358.1 ob358.2 (Nat.le_of_ble_eq_true rfl) rfl ts_9_12 tw_7_138 tw_7_136 tc_7_139 tw_1_13 hyX12 hnX12_isFilter rfl (Nat.le_of_ble_eq_true rfl) dX12_aside_7 (G12_isFilter_met C.2.2.2.2.2.2.2.1 (Nat.le_refl _)  h) (fun r0 μ14 hq => ?_)
  obtain ⟨r15, rfl, h⟩ := hq
  refine x_st [.int r15] rfl ?_
  refine x_if_ne (tgt := 15) C dX12_aside_10 (by decide) (fun c16 => ?_) (fun c16 => ?_)
  · have h := h.1 c16
    refine x_aload_n C rfl 0 rfl dX12_aside_15 ?_
    refine x_iload_n C rfl 1 rfl dX12_aside_16 ?_
    refine x_iconst (v := (-1)) C (by decide) dX12_aside_17 ?_
    refine x_callV (dC := G12_counts_dep) (as := [.int v1, .int (-1)]) (st := []) C rX kX (Nat.le_trans (Nat.le_of_ble_eq_true rfl) hd) (Nat.le_of_ble_eq_true rfl) ob358.1 ob358.2 (Nat.le_of_ble_eq_true rfl) rfl ts_9_13 tw_7_142 tw_7_140 tc_7_143 tw_1_13 hyX12 hnX12_counts rfl (Nat.le_of_ble_eq_true rfl) dX12_aside_18 (G12_counts_met C.2.2.2.2.2.2.2.1 (Nat.le_refl _)  h) (fun r0 μ17 hq => ?_)
    obtain ⟨rfl, h⟩ := hq
    refine x_st [] rfl ?_
    refine x_aload_n C rfl 0 rfl dX12_aside_21 ?_
    refine x_callV (dC := G12_areBoth_dep) (as := []) (st := []) C rX kX (Nat.le_trans (Nat.le_of_ble_eq_true rfl) hd) (Nat.le_of_ble_eq_true rfl) ob358.1 ob358.2 (Nat.le_of_ble_eq_true rfl) rfl ts_10_2 tw_7_169 tw_7_167 tc_7_170 tw_1_13 hyX12 hnX12_areBoth rfl (Nat.le_of_ble_eq_true rfl) dX12_aside_22 (G12_areBoth_met C.2.2.2.2.2.2.2.1 (Nat.le_refl _)  h) (fun r0 μ18 hq => ?_)
    obtain ⟨r19, rfl, h⟩ := hq
    refine x_st [.int r19] rfl ?_
    refine x_if_ne (tgt := 31) C dX12_aside_25 (by decide) (fun c20 => ?_) (fun c20 => ?_)
    · have h := h.1 c20
      refine x_aload_n C rfl 0 rfl dX12_aside_31 ?_
      refine x_iconst (v := 0) C (by decide) dX12_aside_32 ?_
      refine x_putI C (j := 1) ob358.1 ob358.2 (Nat.le_of_ble_eq_true rfl) (Nat.le_of_ble_eq_true rfl) (Or.inl rfl) rfl rfl rfl tw_8_207 dX12_aside_33 ?_
      refine x_mu (fun μ21 e_μ21 => ?_)
      have h := h μ21 e_μ21
      refine x_aload_n C rfl 0 rfl dX12_aside_36 ?_
      refine x_aload_n C rfl 0 rfl dX12_aside_37 ?_
      refine x_getR (r := 382) C (j := 37) ob358.1 ob358.2 (Nat.le_of_ble_eq_true rfl) (Nat.le_of_ble_eq_true rfl) (fun _ _ _ => rfl) r_358_37 tw_9_3 dX12_aside_38 ?_
      refine x_iconst (v := 0) C (by decide) dX12_aside_41 ?_
      refine x_iald C ob382.1 ob382.2 (by unfold vp_in; decide) (j := 0) (by decide) dX12_aside_42 ?_
      refine x_aload_n C rfl 0 rfl dX12_aside_43 ?_
      refine x_getR (r := 381) C (j := 36) ob358.1 ob358.2 (Nat.le_of_ble_eq_true rfl) (Nat.le_of_ble_eq_true rfl) (fun _ _ _ => rfl) r_358_36 tw_9_2 dX12_aside_44 ?_
      refine x_iconst (v := 1) C (by decide) dX12_aside_47 ?_
      refine x_iald C ob381.1 ob381.2 (by unfold vp_in; decide) (j := 1) (by decide) dX12_aside_48 ?_
      refine x_imul C dX12_aside_49 ?_
      refine x_aload_n C rfl 0 rfl dX12_aside_50 ?_
      refine x_getR (r := 382) C (j := 37) ob358.1 ob358.2 (Nat.le_of_ble_eq_true rfl) (Nat.le_of_ble_eq_true rfl) (fun _ _ _ => rfl) r_358_37 tw_9_3 dX12_aside_51 ?_
      refine x_iconst (v := 1) C (by decide) dX12_aside_54 ?_
      refine x_iald C ob382.1 ob382.2 (by unfold vp_in; decide) (j := 1) (by decide) dX12_aside_55 ?_
      refine x_aload_n C rfl 0 rfl dX12_aside_56 ?_
      refine x_getR (r := 381) C (j := 36) ob358.1 ob358.2 (Nat.le_of_ble_eq_true rfl) (Nat.le_of_ble_eq_true rfl) (fun _ _ _ => rfl) r_358_36 tw_9_2 dX12_aside_57 ?_
      refine x_iconst (v := 0) C (by decide) dX12_aside_60 ?_
      refine x_iald C ob381.1 ob381.2 (by unfold vp_in; decide) (j := 0) (by decide) dX12_aside_61 ?_
      refine x_imul C dX12_aside_62 ?_
      refine x_isub C dX12_aside_63 ?_
      refine x_i2l C dX12_aside_64 ?_
      refine x_aload_n C rfl 0 rfl dX12_aside_65 ?_
      refine x_getR (r := 381) C (j := 36) ob358.1 ob358.2 (Nat.le_of_ble_eq_true rfl) (Nat.le_of_ble_eq_true rfl) (fun _ _ _ => rfl) r_358_36 tw_9_2 dX12_aside_66 ?_
      refine x_iconst (v := 0) C (by decide) dX12_aside_69 ?_
      refine x_iald C ob381.1 ob381.2 (by unfold vp_in; decide) (j := 0) (by decide) dX12_aside_70 ?_
      refine x_i2l C dX12_aside_71 ?_
      refine x_aload_n C rfl 0 rfl dX12_aside_72 ?_
      refine x_getR (r := 381) C (j := 36) ob358.1 ob358.2 (Nat.le_of_ble_eq_true rfl) (Nat.le_of_ble_eq_true rfl) (fun _ _ _ => rfl) r_358_36 tw_9_2 dX12_aside_73 ?_
      refine x_iconst (v := 1) C (by decide) dX12_aside_76 ?_
      refine x_iald C ob381.1 ob381.2 (by unfold vp_in; decide) (j := 1) (by decide) dX12_aside_77 ?_
      refine x_i2l C dX12_aside_78 ?_
      refine x_lmul C dX12_aside_79 ?_
      refine x_callV (dC := G12_entersFraction_dep) (as := [.long ((((gI μ21 382 0) * (gI μ21 381 1)) - ((gI μ21 382 1) * (gI μ21 381 0))).toInt64), .long (((gI μ21 381 0).toInt64) * ((gI μ21 381 1).toInt64))]) (st := []) C rX kX (Nat.le_trans (Nat.le_of_ble_eq_true rfl) hd) (Nat.le_of_ble_eq_true rfl) ob358.1 ob358.2 (Nat.le_of_ble_eq_true rfl) rfl ts_10_0 tw_7_154 tw_7_152 tc_7_155 tw_1_13 hyX12 hnX12_entersFraction rfl (Nat.le_of_ble_eq_true rfl) dX12_aside_80 (G12_entersFraction_met C.2.2.2.2.2.2.2.1 (Nat.le_refl _)  h) (fun r0 μ22 hq => ?_)
      obtain ⟨rfl, h⟩ := hq
      refine x_st [] rfl ?_
      refine x_aload_n C rfl 0 rfl dX12_aside_83 ?_
      refine x_aload_n C rfl 0 rfl dX12_aside_84 ?_
      refine x_getR (r := 381) C (j := 36) ob358.1 ob358.2 (Nat.le_of_ble_eq_true rfl) (Nat.le_of_ble_eq_true rfl) (fun _ _ _ => rfl) r_358_36 tw_9_2 dX12_aside_85 ?_
      refine x_iconst (v := 0) C (by decide) dX12_aside_88 ?_
      refine x_iald C ob381.1 ob381.2 (by unfold vp_in; decide) (j := 0) (by decide) dX12_aside_89 ?_
      refine x_i2l C dX12_aside_90 ?_
      refine x_callV (dC := G12_enters_dep) (as := [.long ((gI μ22 381 0).toInt64)]) (st := []) C rX kX (Nat.le_trans (Nat.le_of_ble_eq_true rfl) hd) (Nat.le_of_ble_eq_true rfl) ob358.1 ob358.2 (Nat.le_of_ble_eq_true rfl) rfl ts_10_1 tw_7_161 tw_7_159 tc_7_162 tw_1_13 hyX12 hnX12_enters rfl (Nat.le_of_ble_eq_true rfl) dX12_aside_91 (G12_enters_met C.2.2.2.2.2.2.2.1 (Nat.le_refl _)  h) (fun r0 μ23 hq => ?_)
      obtain ⟨rfl, h⟩ := hq
      refine x_st [] rfl ?_
      refine x_aload_n C rfl 0 rfl dX12_aside_94 ?_
      refine x_aload_n C rfl 0 rfl dX12_aside_95 ?_
      refine x_getR (r := 382) C (j := 37) ob358.1 ob358.2 (Nat.le_of_ble_eq_true rfl) (Nat.le_of_ble_eq_true rfl) (fun _ _ _ => rfl) r_358_37 tw_9_3 dX12_aside_96 ?_
      refine x_iconst (v := 0) C (by decide) dX12_aside_99 ?_
      refine x_iald C ob382.1 ob382.2 (by unfold vp_in; decide) (j := 0) (by decide) dX12_aside_100 ?_
      refine x_i2l C dX12_aside_101 ?_
      refine x_callV (dC := G12_enters_dep) (as := [.long ((gI μ23 382 0).toInt64)]) (st := []) C rX kX (Nat.le_trans (Nat.le_of_ble_eq_true rfl) hd) (Nat.le_of_ble_eq_true rfl) ob358.1 ob358.2 (Nat.le_of_ble_eq_true rfl) rfl ts_10_1 tw_7_161 tw_7_159 tc_7_162 tw_1_13 hyX12 hnX12_enters rfl (Nat.le_of_ble_eq_true rfl) dX12_aside_102 (G12_enters_met C.2.2.2.2.2.2.2.1 (Nat.le_refl _)  h) (fun r0 μ24 hq => ?_)
      obtain ⟨rfl, h⟩ := hq
      refine x_st [] rfl ?_
      refine x_aload_n C rfl 0 rfl dX12_aside_105 ?_
      refine x_aload_n C rfl 0 rfl dX12_aside_106 ?_
      refine x_getR (r := 381) C (j := 36) ob358.1 ob358.2 (Nat.le_of_ble_eq_true rfl) (Nat.le_of_ble_eq_true rfl) (fun _ _ _ => rfl) r_358_36 tw_9_2 dX12_aside_107 ?_
      refine x_iconst (v := 1) C (by decide) dX12_aside_110 ?_
      refine x_iald C ob381.1 ob381.2 (by unfold vp_in; decide) (j := 1) (by decide) dX12_aside_111 ?_
      refine x_i2l C dX12_aside_112 ?_
      refine x_callV (dC := G12_enters_dep) (as := [.long ((gI μ24 381 1).toInt64)]) (st := []) C rX kX (Nat.le_trans (Nat.le_of_ble_eq_true rfl) hd) (Nat.le_of_ble_eq_true rfl) ob358.1 ob358.2 (Nat.le_of_ble_eq_true rfl) rfl ts_10_1 tw_7_161 tw_7_159 tc_7_162 tw_1_13 hyX12 hnX12_enters rfl (Nat.le_of_ble_eq_true rfl) dX12_aside_113 (G12_enters_met C.2.2.2.2.2.2.2.1 (Nat.le_refl _)  h) (fun r0 μ25 hq => ?_)
      obtain ⟨rfl, h⟩ := hq
      refine x_st [] rfl ?_
      refine x_aload_n C rfl 0 rfl dX12_aside_116 ?_
      refine x_aload_n C rfl 0 rfl dX12_aside_117 ?_
      refine x_getR (r := 382) C (j := 37) ob358.1 ob358.2 (Nat.le_of_ble_eq_true rfl) (Nat.le_of_ble_eq_true rfl) (fun _ _ _ => rfl) r_358_37 tw_9_3 dX12_aside_118 ?_
      refine x_iconst (v := 1) C (by decide) dX12_aside_121 ?_
      refine x_iald C ob382.1 ob382.2 (by unfold vp_in; decide) (j := 1) (by decide) dX12_aside_122 ?_
      refine x_i2l C dX12_aside_123 ?_
      refine x_callV (dC := G12_enters_dep) (as := [.long ((gI μ25 382 1).toInt64)]) (st := []) C rX kX (Nat.le_trans (Nat.le_of_ble_eq_true rfl) hd) (Nat.le_of_ble_eq_true rfl) ob358.1 ob358.2 (Nat.le_of_ble_eq_true rfl) rfl ts_10_1 tw_7_161 tw_7_159 tc_7_162 tw_1_13 hyX12 hnX12_enters rfl (Nat.le_of_ble_eq_true rfl) dX12_aside_124 (G12_enters_met C.2.2.2.2.2.2.2.1 (Nat.le_refl _)  h) (fun r0 μ26 hq => ?_)
      obtain ⟨rfl, h⟩ := hq
      refine x_st [] rfl ?_
      refine x_iconst (v := 0) C (by decide) dX12_aside_127 ?_
      exact x_iret C hr dX12_aside_128 ⟨_, rfl, h⟩
    · have h := h.2 c20
      refine x_bipush (v := (-2)) C (by decide) dX12_aside_28 ?_
      exact x_iret C hr dX12_aside_30 ⟨_, rfl, h⟩
  · have h := h.2 c16
    refine x_iconst (v := (-1)) C (by decide) dX12_aside_13 ?_
    exact x_iret C hr dX12_aside_14 ⟨_, rfl, h⟩
set_option maxHeartbeats 4000000 in
set_option maxRecDepth 100000 in
theorem G12_choices_L16_b {p : Program} {e : Env} {s : State} {m : MethodId} {args : Array Value} {below : List Frame} {meth : Method} {c : Code} {l : Launch} {φ : Nat → Nat} {tc : Nat → ClassId} {D : va_G} {s0 : State} {dR : Nat} (C : CX p s m args meth c φ tc D (AX φ) s0 cX12_choices RX12 5) (hd : G12_choices_dep ≤ dR) (hr : meth.sig.returnType = (some .long))  {p0 : Int32} {p1 : Int32} {Q : Int64 → MM → Prop} {K16 : Int64 × Int32 × MM → Prop} {x : Int64 × Int32 × MM}   (hK16 : ∀ (z2 : Int64) (z4 : Int32) (zμ : MM), K16 (z2, z4, zμ) → WX p l e (rmX dR) s m args below meth c φ tc D (AX φ) 5 0 0 (MQ below (QX φ tc D (QJ Q)) args s 0 0 (AX φ)) 16 [(0, .int p0), (1, .int p1), (2, .long z2), (4, .int z4)] [] zμ) (h : G12_choices_L16 p0 p1 Q K16 x) : WX p l e (rmX dR) s m args below meth c φ tc D (AX φ) 5 0 0 (MQ below (QX φ tc D (QJ Q)) args s 0 0 (AX φ)) 16 [(0, .int p0), (1, .int p1), (2, .long x.1), (4, .int x.2.1)] [] x.2.2 := by
  unfold G12_choices_L16 at h
  refine x_iload C 3 rfl dX12_choices_16 ?_
  refine x_iload_n C rfl 1 rfl dX12_choices_18 ?_
  refine x_icmp_gt (tgt := 42) C dX12_choices_19 (by decide) (fun c5 => ?_) (fun c5 => ?_)
  · have h := h.1 c5
    refine x_lload_n C rfl 2 rfl dX12_choices_42 ?_
    exact x_lret C hr dX12_choices_43 ⟨_, rfl, h⟩
  · have h := h.2 c5
    refine x_lload_n C rfl 2 rfl dX12_choices_22 ?_
    refine x_iload_n C rfl 0 rfl dX12_choices_23 ?_
    refine x_iload_n C rfl 1 rfl dX12_choices_24 ?_
    refine x_isub C dX12_choices_25 ?_
    refine x_iload C 3 rfl dX12_choices_26 ?_
    refine x_iadd C dX12_choices_28 ?_
    refine x_i2l C dX12_choices_29 ?_
    refine x_lmul C dX12_choices_30 ?_
    refine x_iload C 3 rfl dX12_choices_31 ?_
    refine x_i2l C dX12_choices_33 ?_
    obtain ⟨c6, h⟩ := h
    refine x_ldiv C c6 dX12_choices_34 ?_
    refine x_topl (fun y7 e_y7 => ?_)
    have h := h y7 e_y7
    refine x_lstore_n C [(2, .long y7), (0, .int p0), (1, .int p1), (4, .int x.2.1)] rfl (Nat.le_of_ble_eq_true rfl) rfl dX12_choices_35 ?_
    refine x_iinc (v := (x.2.1 + 1)) C [(4, .int (x.2.1 + 1)), (2, .long y7), (0, .int p0), (1, .int p1)] 3 rfl (congrArg (fun z => x.2.1 + z) (by decide : Int32.ofInt (1) = 1)) (Nat.le_of_ble_eq_true rfl) rfl dX12_choices_36 ?_
    refine x_goto (tgt := 16) C dX12_choices_39 (by decide) ?_
    refine x_sub [(0, .int p0), (1, .int p1), (2, .long y7), (4, .int (x.2.1 + 1))] [2, 3, 1, 0] rfl ?_
    exact hK16 _ _ _ h
theorem G12_choices_L16_ok {p : Program} {e : Env} {s : State} {m : MethodId} {args : Array Value} {below : List Frame} {meth : Method} {c : Code} {l : Launch} {φ : Nat → Nat} {tc : Nat → ClassId} {D : va_G} {s0 : State} {dR : Nat} (C : CX p s m args meth c φ tc D (AX φ) s0 cX12_choices RX12 5) (hd : G12_choices_dep ≤ dR) (hr : meth.sig.returnType = (some .long))  {p0 : Int32} {p1 : Int32} {Q : Int64 → MM → Prop}  {x : Int64 × Int32 × MM}    (h : Lp (G12_choices_L16 p0 p1 Q) x) : WX p l e (rmX dR) s m args below meth c φ tc D (AX φ) 5 0 0 (MQ below (QX φ tc D (QJ Q)) args s 0 0 (AX φ)) 16 [(0, .int p0), (1, .int p1), (2, .long x.1), (4, .int x.2.1)] [] x.2.2 := by
  obtain ⟨n, h⟩ := h
  induction n generalizing x with
  | zero => exact h.elim
  | succ n ih => exact G12_choices_L16_b C hd hr   (fun z2 z4 zμ hz => by have q := ih hz; exact q) h
set_option maxHeartbeats 4000000 in
set_option maxRecDepth 100000 in
theorem G12_choices_met {l : Launch} {φ : Nat → Nat} {tc : Nat → ClassId} {D : va_G} {s0 : State} (hG : GX φ tc D s0) {dR : Nat} (hd : G12_choices_dep ≤ dR) {v0 : Int32} {v1 : Int32} {μ : MM} {Q : Int64 → MM → Prop}  (h : G12_choices v0 v1 μ Q) : MX l φ tc D s0 dR yX12_choices cX12_choices 5 (some .long) [.int v0, .int v1] μ (QJ Q) := by
  refine MX.of (own := RX12) hG plX12 rfl (Nat.le_of_ble_eq_true rfl) (fun p e s m args below meth c C hr => ?_)
  refine x_sub [(0, .int v0), (1, .int v1)] [0, 1] rfl ?_
  unfold G12_choices at h
  refine x_iload_n C rfl 1 rfl dX12_choices_0 ?_
  refine x_if_lt (tgt := 9) C dX12_choices_1 (by decide) (fun c3 => ?_) (fun c3 => ?_)
  · have h := h.1 c3
    refine x_lconst (v := 0) C (by decide) dX12_choices_9 ?_
    exact x_lret C hr dX12_choices_10 ⟨_, rfl, h⟩
  · have h := h.2 c3
    refine x_iload_n C rfl 1 rfl dX12_choices_4 ?_
    refine x_iload_n C rfl 0 rfl dX12_choices_5 ?_
    refine x_icmp_le (tgt := 11) C dX12_choices_6 (by decide) (fun c4 => ?_) (fun c4 => ?_)
    · have h := h.1 c4
      refine x_lconst (v := 1) C (by decide) dX12_choices_11 ?_
      refine x_lstore_n C [(2, .long 1), (0, .int v0), (1, .int v1)] rfl (Nat.le_of_ble_eq_true rfl) rfl dX12_choices_12 ?_
      refine x_iconst (v := 1) C (by decide) dX12_choices_13 ?_
      refine x_istore C [(4, .int 1), (2, .long 1), (0, .int v0), (1, .int v1)] (Nat.le_of_ble_eq_true rfl) rfl dX12_choices_14 ?_
      refine x_sub [(0, .int v0), (1, .int v1), (2, .long 1), (4, .int 1)] [2, 3, 1, 0] rfl ?_
      exact G12_choices_L16_ok C hd hr  h
    · have h := h.2 c4
      refine x_lconst (v := 0) C (by decide) dX12_choices_9 ?_
      exact x_lret C hr dX12_choices_10 ⟨_, rfl, h⟩
set_option maxHeartbeats 4000000 in
set_option maxRecDepth 100000 in
theorem G12_odds_J380_ok {p : Program} {e : Env} {s : State} {m : MethodId} {args : Array Value} {below : List Frame} {meth : Method} {c : Code} {l : Launch} {φ : Nat → Nat} {tc : Nat → ClassId} {D : va_G} {s0 : State} {dR : Nat} (C : CX p s m args meth c φ tc D (AX φ) s0 cX12_odds RX12 12) (hd : G12_odds_dep ≤ dR) (hr : meth.sig.returnType = (some .int))   {p2 : Int32} {p3 : Int32} {p6 : Int64} {p8 : Int32} {q0 : Int64} {Q : Int32 → MM → Prop} {K313 : Int64 × Int64 × Int32 × MM → Prop} {μ : MM}   (hK313 : ∀ (z4 : Int64) (z6 : Int64) (z8 : Int32) (zμ : MM), K313 (z4, z6, z8, zμ) → WX p l e (rmX dR) s m args below meth c φ tc D (AX φ) 12 0 0 (MQ below (QX φ tc D (QI Q)) args s 0 0 (AX φ)) 313 [(0, .ref 358), (2, .int p2), (3, .int p3), (4, .long z4), (6, .long z6), (8, .int z8)] [] zμ) (h : G12_odds_J380 p2 p3 p6 p8 q0 μ K313 Q) : WX p l e (rmX dR) s m args below meth c φ tc D (AX φ) 12 0 0 (MQ below (QX φ tc D (QI Q)) args s 0 0 (AX φ)) 380 [(0, .ref 358), (2, .int p2), (3, .int p3), (6, .long p6), (8, .int p8)] [.long q0] μ := by
  unfold G12_odds_J380 at h
  refine x_lconst (v := 0) C (by decide) dX12_odds_380 ?_
  refine x_ladd C dX12_odds_381 ?_
  refine x_topl (fun y67 e_y67 => ?_)
  have h := h y67 e_y67
  refine x_lstore C [(4, .long y67), (0, .ref 358), (2, .int p2), (3, .int p3), (6, .long p6), (8, .int p8)] (Nat.le_of_ble_eq_true rfl) rfl dX12_odds_382 ?_
  refine x_iinc (v := (p8 + 1)) C [(8, .int (p8 + 1)), (4, .long y67), (0, .ref 358), (2, .int p2), (3, .int p3), (6, .long p6)] 5 rfl (congrArg (fun z => p8 + z) (by decide : Int32.ofInt (1) = 1)) (Nat.le_of_ble_eq_true rfl) rfl dX12_odds_384 ?_
  refine x_goto (tgt := 313) C dX12_odds_387 (by decide) ?_
  refine x_sub [(0, .ref 358), (2, .int p2), (3, .int p3), (4, .long y67), (6, .long p6), (8, .int (p8 + 1))] [2, 3, 4, 1, 5, 0] rfl ?_
  exact hK313 _ _ _ _ h
set_option maxHeartbeats 4000000 in
set_option maxRecDepth 100000 in
theorem G12_odds_L313_b {p : Program} {e : Env} {s : State} {m : MethodId} {args : Array Value} {below : List Frame} {meth : Method} {c : Code} {l : Launch} {φ : Nat → Nat} {tc : Nat → ClassId} {D : va_G} {s0 : State} {dR : Nat} (C : CX p s m args meth c φ tc D (AX φ) s0 cX12_odds RX12 12) (hd : G12_odds_dep ≤ dR) (hr : meth.sig.returnType = (some .int))  {p2 : Int32} {p3 : Int32} {Q : Int32 → MM → Prop} {K313 : Int64 × Int64 × Int32 × MM → Prop} {x : Int64 × Int64 × Int32 × MM}   (hK313 : ∀ (z4 : Int64) (z6 : Int64) (z8 : Int32) (zμ : MM), K313 (z4, z6, z8, zμ) → WX p l e (rmX dR) s m args below meth c φ tc D (AX φ) 12 0 0 (MQ below (QX φ tc D (QI Q)) args s 0 0 (AX φ)) 313 [(0, .ref 358), (2, .int p2), (3, .int p3), (4, .long z4), (6, .long z6), (8, .int z8)] [] zμ) (h : G12_odds_L313 p2 p3 Q K313 x) : WX p l e (rmX dR) s m args below meth c φ tc D (AX φ) 12 0 0 (MQ below (QX φ tc D (QI Q)) args s 0 0 (AX φ)) 313 [(0, .ref 358), (2, .int p2), (3, .int p3), (4, .long x.1), (6, .long x.2.1), (8, .int x.2.2.1)] [] x.2.2.2 := by
  unfold G12_odds_L313 at h
  refine x_iload C 5 rfl dX12_odds_313 ?_
  refine x_aload_n C rfl 0 rfl dX12_odds_315 ?_
  refine x_getR (r := 383) C (j := 38) ob358.1 ob358.2 (Nat.le_of_ble_eq_true rfl) (Nat.le_of_ble_eq_true rfl) (fun _ _ _ => rfl) r_358_38 tw_9_4 dX12_odds_316 ?_
  refine x_alen (v := 192) C ob383.1 (by decide) (by decide) (by decide) dX12_odds_319 ?_
  refine x_icmp_ge (tgt := 390) C dX12_odds_320 (by decide) (fun c59 => ?_) (fun c59 => ?_)
  · have h := h.1 c59
    refine x_aload_n C rfl 0 rfl dX12_odds_390 ?_
    refine x_iconst (v := 0) C (by decide) dX12_odds_391 ?_
    refine x_putI C (j := 1) ob358.1 ob358.2 (Nat.le_of_ble_eq_true rfl) (Nat.le_of_ble_eq_true rfl) (Or.inl rfl) rfl rfl rfl tw_8_207 dX12_odds_392 ?_
    refine x_mu (fun μ60 e_μ60 => ?_)
    have h := h μ60 e_μ60
    refine x_aload_n C rfl 0 rfl dX12_odds_395 ?_
    refine x_lload C 3 rfl dX12_odds_396 ?_
    refine x_lload C 4 rfl dX12_odds_398 ?_
    refine x_callV (dC := G12_entersFraction_dep) (as := [.long x.1, .long x.2.1]) (st := []) C rX kX (Nat.le_trans (Nat.le_of_ble_eq_true rfl) hd) (Nat.le_of_ble_eq_true rfl) ob358.1 ob358.2 (Nat.le_of_ble_eq_true rfl) rfl ts_10_0 tw_7_154 tw_7_152 tc_7_155 tw_1_13 hyX12 hnX12_entersFraction rfl (Nat.le_of_ble_eq_true rfl) dX12_odds_400 (G12_entersFraction_met C.2.2.2.2.2.2.2.1 (Nat.le_refl _)  h) (fun r0 μ61 hq => ?_)
    obtain ⟨rfl, h⟩ := hq
    refine x_st [] rfl ?_
    refine x_iconst (v := 0) C (by decide) dX12_odds_403 ?_
    exact x_iret C hr dX12_odds_404 ⟨_, rfl, h⟩
  · have h := h.2 c59
    refine x_lload C 4 rfl dX12_odds_323 ?_
    refine x_aload_n C rfl 0 rfl dX12_odds_325 ?_
    refine x_getR (r := 383) C (j := 38) ob358.1 ob358.2 (Nat.le_of_ble_eq_true rfl) (Nat.le_of_ble_eq_true rfl) (fun _ _ _ => rfl) r_358_38 tw_9_4 dX12_odds_326 ?_
    refine x_iload C 5 rfl dX12_odds_329 ?_
    obtain ⟨c62, h⟩ := h
    refine x_lald C ob383.1 ob383.2 c62 rfl dX12_odds_331 ?_
    refine x_ladd C dX12_odds_332 ?_
    refine x_topl (fun y63 e_y63 => ?_)
    have h := h y63 e_y63
    refine x_lstore C [(6, .long y63), (0, .ref 358), (2, .int p2), (3, .int p3), (4, .long x.1), (8, .int x.2.2.1)] (Nat.le_of_ble_eq_true rfl) rfl dX12_odds_333 ?_
    refine x_lload C 4 rfl dX12_odds_335 ?_
    refine x_iload_n C rfl 2 rfl dX12_odds_337 ?_
    refine x_if_ne (tgt := 350) C dX12_odds_338 (by decide) (fun c64 => ?_) (fun c64 => ?_)
    · have h := h.1 c64
      refine x_iload_n C rfl 2 rfl dX12_odds_350 ?_
      refine x_iconst (v := 1) C (by decide) dX12_odds_351 ?_
      refine x_icmp_ne (tgt := 364) C dX12_odds_352 (by decide) (fun c65 => ?_) (fun c65 => ?_)
      · have h := h.1 c65
        refine x_iload C 5 rfl dX12_odds_364 ?_
        refine x_iload_n C rfl 3 rfl dX12_odds_366 ?_
        refine x_icmp_ne (tgt := 380) C dX12_odds_367 (by decide) (fun c66 => ?_) (fun c66 => ?_)
        · have h := h.1 c66
          refine x_sub [(0, .ref 358), (2, .int p2), (3, .int p3), (6, .long y63), (8, .int x.2.2.1)] [1, 2, 3, 0, 5] rfl ?_
          exact G12_odds_J380_ok C hd hr hK313 h
        · have h := h.2 c66
          refine x_aload_n C rfl 1 rfl dX12_odds_370 ?_
          refine x_getR (r := 383) C (j := 38) ob358.1 ob358.2 (Nat.le_of_ble_eq_true rfl) (Nat.le_of_ble_eq_true rfl) (fun _ _ _ => rfl) r_358_38 tw_9_4 dX12_odds_371 ?_
          refine x_iload C 5 rfl dX12_odds_374 ?_
          obtain ⟨c68, h⟩ := h
          refine x_lald C ob383.1 ob383.2 c68 rfl dX12_odds_376 ?_
          refine x_goto (tgt := 381) C dX12_odds_377 (by decide) ?_
          refine x_ladd C dX12_odds_381 ?_
          refine x_topl (fun y69 e_y69 => ?_)
          have h := h y69 e_y69
          refine x_lstore C [(4, .long y69), (6, .long y63), (0, .ref 358), (2, .int p2), (3, .int p3), (8, .int x.2.2.1)] (Nat.le_of_ble_eq_true rfl) rfl dX12_odds_382 ?_
          refine x_iinc (v := (x.2.2.1 + 1)) C [(8, .int (x.2.2.1 + 1)), (4, .long y69), (6, .long y63), (0, .ref 358), (2, .int p2), (3, .int p3)] 5 rfl (congrArg (fun z => x.2.2.1 + z) (by decide : Int32.ofInt (1) = 1)) (Nat.le_of_ble_eq_true rfl) rfl dX12_odds_384 ?_
          refine x_goto (tgt := 313) C dX12_odds_387 (by decide) ?_
          refine x_sub [(0, .ref 358), (2, .int p2), (3, .int p3), (4, .long y69), (6, .long y63), (8, .int (x.2.2.1 + 1))] [3, 4, 5, 1, 2, 0] rfl ?_
          exact hK313 _ _ _ _ h
      · have h := h.2 c65
        refine x_iload C 5 rfl dX12_odds_355 ?_
        refine x_iload_n C rfl 3 rfl dX12_odds_357 ?_
        refine x_icmp_lt (tgt := 380) C dX12_odds_358 (by decide) (fun c70 => ?_) (fun c70 => ?_)
        · have h := h.1 c70
          refine x_sub [(0, .ref 358), (2, .int p2), (3, .int p3), (6, .long y63), (8, .int x.2.2.1)] [1, 2, 3, 0, 5] rfl ?_
          exact G12_odds_J380_ok C hd hr hK313 h
        · have h := h.2 c70
          refine x_goto (tgt := 370) C dX12_odds_361 (by decide) ?_
          refine x_aload_n C rfl 1 rfl dX12_odds_370 ?_
          refine x_getR (r := 383) C (j := 38) ob358.1 ob358.2 (Nat.le_of_ble_eq_true rfl) (Nat.le_of_ble_eq_true rfl) (fun _ _ _ => rfl) r_358_38 tw_9_4 dX12_odds_371 ?_
          refine x_iload C 5 rfl dX12_odds_374 ?_
          obtain ⟨c71, h⟩ := h
          refine x_lald C ob383.1 ob383.2 c71 rfl dX12_odds_376 ?_
          refine x_goto (tgt := 381) C dX12_odds_377 (by decide) ?_
          refine x_ladd C dX12_odds_381 ?_
          refine x_topl (fun y72 e_y72 => ?_)
          have h := h y72 e_y72
          refine x_lstore C [(4, .long y72), (6, .long y63), (0, .ref 358), (2, .int p2), (3, .int p3), (8, .int x.2.2.1)] (Nat.le_of_ble_eq_true rfl) rfl dX12_odds_382 ?_
          refine x_iinc (v := (x.2.2.1 + 1)) C [(8, .int (x.2.2.1 + 1)), (4, .long y72), (6, .long y63), (0, .ref 358), (2, .int p2), (3, .int p3)] 5 rfl (congrArg (fun z => x.2.2.1 + z) (by decide : Int32.ofInt (1) = 1)) (Nat.le_of_ble_eq_true rfl) rfl dX12_odds_384 ?_
          refine x_goto (tgt := 313) C dX12_odds_387 (by decide) ?_
          refine x_sub [(0, .ref 358), (2, .int p2), (3, .int p3), (4, .long y72), (6, .long y63), (8, .int (x.2.2.1 + 1))] [3, 4, 5, 1, 2, 0] rfl ?_
          exact hK313 _ _ _ _ h
    · have h := h.2 c64
      refine x_iload C 5 rfl dX12_odds_341 ?_
      refine x_iload_n C rfl 3 rfl dX12_odds_343 ?_
      refine x_icmp_gt (tgt := 380) C dX12_odds_344 (by decide) (fun c73 => ?_) (fun c73 => ?_)
      · have h := h.1 c73
        refine x_sub [(0, .ref 358), (2, .int p2), (3, .int p3), (6, .long y63), (8, .int x.2.2.1)] [1, 2, 3, 0, 5] rfl ?_
        exact G12_odds_J380_ok C hd hr hK313 h
      · have h := h.2 c73
        refine x_goto (tgt := 370) C dX12_odds_347 (by decide) ?_
        refine x_aload_n C rfl 1 rfl dX12_odds_370 ?_
        refine x_getR (r := 383) C (j := 38) ob358.1 ob358.2 (Nat.le_of_ble_eq_true rfl) (Nat.le_of_ble_eq_true rfl) (fun _ _ _ => rfl) r_358_38 tw_9_4 dX12_odds_371 ?_
        refine x_iload C 5 rfl dX12_odds_374 ?_
        obtain ⟨c74, h⟩ := h
        refine x_lald C ob383.1 ob383.2 c74 rfl dX12_odds_376 ?_
        refine x_goto (tgt := 381) C dX12_odds_377 (by decide) ?_
        refine x_ladd C dX12_odds_381 ?_
        refine x_topl (fun y75 e_y75 => ?_)
        have h := h y75 e_y75
        refine x_lstore C [(4, .long y75), (6, .long y63), (0, .ref 358), (2, .int p2), (3, .int p3), (8, .int x.2.2.1)] (Nat.le_of_ble_eq_true rfl) rfl dX12_odds_382 ?_
        refine x_iinc (v := (x.2.2.1 + 1)) C [(8, .int (x.2.2.1 + 1)), (4, .long y75), (6, .long y63), (0, .ref 358), (2, .int p2), (3, .int p3)] 5 rfl (congrArg (fun z => x.2.2.1 + z) (by decide : Int32.ofInt (1) = 1)) (Nat.le_of_ble_eq_true rfl) rfl dX12_odds_384 ?_
        refine x_goto (tgt := 313) C dX12_odds_387 (by decide) ?_
        refine x_sub [(0, .ref 358), (2, .int p2), (3, .int p3), (4, .long y75), (6, .long y63), (8, .int (x.2.2.1 + 1))] [3, 4, 5, 1, 2, 0] rfl ?_
        exact hK313 _ _ _ _ h
theorem G12_odds_L313_ok {p : Program} {e : Env} {s : State} {m : MethodId} {args : Array Value} {below : List Frame} {meth : Method} {c : Code} {l : Launch} {φ : Nat → Nat} {tc : Nat → ClassId} {D : va_G} {s0 : State} {dR : Nat} (C : CX p s m args meth c φ tc D (AX φ) s0 cX12_odds RX12 12) (hd : G12_odds_dep ≤ dR) (hr : meth.sig.returnType = (some .int))  {p2 : Int32} {p3 : Int32} {Q : Int32 → MM → Prop}  {x : Int64 × Int64 × Int32 × MM}    (h : Lp (G12_odds_L313 p2 p3 Q) x) : WX p l e (rmX dR) s m args below meth c φ tc D (AX φ) 12 0 0 (MQ below (QX φ tc D (QI Q)) args s 0 0 (AX φ)) 313 [(0, .ref 358), (2, .int p2), (3, .int p3), (4, .long x.1), (6, .long x.2.1), (8, .int x.2.2.1)] [] x.2.2.2 := by
  obtain ⟨n, h⟩ := h
  induction n generalizing x with
  | zero => exact h.elim
  | succ n ih => exact G12_odds_L313_b C hd hr   (fun z4 z6 z8 zμ hz => by have q := ih hz; exact q) h
set_option maxHeartbeats 4000000 in
set_option maxRecDepth 100000 in
theorem G12_odds_L268_b {p : Program} {e : Env} {s : State} {m : MethodId} {args : Array Value} {below : List Frame} {meth : Method} {c : Code} {l : Launch} {φ : Nat → Nat} {tc : Nat → ClassId} {D : va_G} {s0 : State} {dR : Nat} (C : CX p s m args meth c φ tc D (AX φ) s0 cX12_odds RX12 12) (hd : G12_odds_dep ≤ dR) (hr : meth.sig.returnType = (some .int))  {p1 : Int32} {p2 : Int32} {p3 : Int32} {p4 : Int32} {Q : Int32 → MM → Prop} {K68 : Int32 × Int32 × MM → Prop} {K268 : Int32 × MM → Prop} {x : Int32 × MM}   (hK68 : ∀ (z3 : Int32) (z4 : Int32) (zμ : MM), K68 (z3, z4, zμ) → WX p l e (rmX dR) s m args below meth c φ tc D (AX φ) 12 0 0 (MQ below (QX φ tc D (QI Q)) args s 0 0 (AX φ)) 68 [(0, .ref 358), (1, .int p1), (2, .int p2), (3, .int z3), (4, .int z4)] [] zμ) (hK268 : ∀ (z8 : Int32) (zμ : MM), K268 (z8, zμ) → WX p l e (rmX dR) s m args below meth c φ tc D (AX φ) 12 0 0 (MQ below (QX φ tc D (QI Q)) args s 0 0 (AX φ)) 268 [(0, .ref 358), (1, .int p1), (2, .int p2), (3, .int p3), (4, .int p4), (8, .int z8)] [] zμ) (h : G12_odds_L268 p1 p2 p3 p4 K68 Q K268 x) : WX p l e (rmX dR) s m args below meth c φ tc D (AX φ) 12 0 0 (MQ below (QX φ tc D (QI Q)) args s 0 0 (AX φ)) 268 [(0, .ref 358), (1, .int p1), (2, .int p2), (3, .int p3), (4, .int p4), (8, .int x.1)] [] x.2 := by
  unfold G12_odds_L268 at h
  refine x_iload C 5 rfl dX12_odds_268 ?_
  refine x_aload_n C rfl 0 rfl dX12_odds_270 ?_
  refine x_getR (r := 383) C (j := 38) ob358.1 ob358.2 (Nat.le_of_ble_eq_true rfl) (Nat.le_of_ble_eq_true rfl) (fun _ _ _ => rfl) r_358_38 tw_9_4 dX12_odds_271 ?_
  refine x_alen (v := 192) C ob383.1 (by decide) (by decide) (by decide) dX12_odds_274 ?_
  refine x_icmp_ge (tgt := 298) C dX12_odds_275 (by decide) (fun c78 => ?_) (fun c78 => ?_)
  · have h := h.1 c78
    refine x_iinc (v := (p4 + 1)) C [(4, .int (p4 + 1)), (0, .ref 358), (1, .int p1), (2, .int p2), (3, .int p3), (8, .int x.1)] 4 rfl (congrArg (fun z => p4 + z) (by decide : Int32.ofInt (1) = 1)) (Nat.le_of_ble_eq_true rfl) rfl dX12_odds_298 ?_
    refine x_goto (tgt := 68) C dX12_odds_301 (by decide) ?_
    refine x_sub [(0, .ref 358), (1, .int p1), (2, .int p2), (3, .int p3), (4, .int (p4 + 1))] [1, 2, 3, 4, 0] rfl ?_
    exact hK68 _ _ _ h
  · have h := h.2 c78
    refine x_aload_n C rfl 0 rfl dX12_odds_278 ?_
    refine x_getR (r := 383) C (j := 38) ob358.1 ob358.2 (Nat.le_of_ble_eq_true rfl) (Nat.le_of_ble_eq_true rfl) (fun _ _ _ => rfl) r_358_38 tw_9_4 dX12_odds_279 ?_
    refine x_iload C 5 rfl dX12_odds_282 ?_
    refine x_aload_n C rfl 0 rfl dX12_odds_284 ?_
    refine x_getR (r := 384) C (j := 39) ob358.1 ob358.2 (Nat.le_of_ble_eq_true rfl) (Nat.le_of_ble_eq_true rfl) (fun _ _ _ => rfl) r_358_39 tw_9_5 dX12_odds_285 ?_
    refine x_iload C 5 rfl dX12_odds_288 ?_
    obtain ⟨c79, h⟩ := h
    refine x_lald C ob384.1 ob384.2 c79 rfl dX12_odds_290 ?_
    obtain ⟨c80, h⟩ := h
    refine x_last C ob383.1 ob383.2 c80 rfl dX12_odds_291 ?_
    refine x_mu (fun μ81 e_μ81 => ?_)
    have h := h μ81 e_μ81
    refine x_iinc (v := (x.1 + 1)) C [(8, .int (x.1 + 1)), (0, .ref 358), (1, .int p1), (2, .int p2), (3, .int p3), (4, .int p4)] 5 rfl (congrArg (fun z => x.1 + z) (by decide : Int32.ofInt (1) = 1)) (Nat.le_of_ble_eq_true rfl) rfl dX12_odds_292 ?_
    refine x_goto (tgt := 268) C dX12_odds_295 (by decide) ?_
    refine x_sub [(0, .ref 358), (1, .int p1), (2, .int p2), (3, .int p3), (4, .int p4), (8, .int (x.1 + 1))] [1, 2, 3, 4, 5, 0] rfl ?_
    exact hK268 _ _ h
theorem G12_odds_L268_ok {p : Program} {e : Env} {s : State} {m : MethodId} {args : Array Value} {below : List Frame} {meth : Method} {c : Code} {l : Launch} {φ : Nat → Nat} {tc : Nat → ClassId} {D : va_G} {s0 : State} {dR : Nat} (C : CX p s m args meth c φ tc D (AX φ) s0 cX12_odds RX12 12) (hd : G12_odds_dep ≤ dR) (hr : meth.sig.returnType = (some .int))  {p1 : Int32} {p2 : Int32} {p3 : Int32} {p4 : Int32} {Q : Int32 → MM → Prop} {K68 : Int32 × Int32 × MM → Prop} {x : Int32 × MM}   (hK68 : ∀ (z3 : Int32) (z4 : Int32) (zμ : MM), K68 (z3, z4, zμ) → WX p l e (rmX dR) s m args below meth c φ tc D (AX φ) 12 0 0 (MQ below (QX φ tc D (QI Q)) args s 0 0 (AX φ)) 68 [(0, .ref 358), (1, .int p1), (2, .int p2), (3, .int z3), (4, .int z4)] [] zμ) (h : Lp (G12_odds_L268 p1 p2 p3 p4 K68 Q) x) : WX p l e (rmX dR) s m args below meth c φ tc D (AX φ) 12 0 0 (MQ below (QX φ tc D (QI Q)) args s 0 0 (AX φ)) 268 [(0, .ref 358), (1, .int p1), (2, .int p2), (3, .int p3), (4, .int p4), (8, .int x.1)] [] x.2 := by
  obtain ⟨n, h⟩ := h
  induction n generalizing x with
  | zero => exact h.elim
  | succ n ih => exact G12_odds_L268_b C hd hr  hK68 (fun z8 zμ hz => by have q := ih hz; exact q) h
set_option maxHeartbeats 4000000 in
set_option maxRecDepth 100000 in
theorem G12_odds_L194_b {p : Program} {e : Env} {s : State} {m : MethodId} {args : Array Value} {below : List Frame} {meth : Method} {c : Code} {l : Launch} {φ : Nat → Nat} {tc : Nat → ClassId} {D : va_G} {s0 : State} {dR : Nat} (C : CX p s m args meth c φ tc D (AX φ) s0 cX12_odds RX12 12) (hd : G12_odds_dep ≤ dR) (hr : meth.sig.returnType = (some .int))  {p1 : Int32} {p2 : Int32} {p3 : Int32} {p4 : Int32} {p5 : Int32} {p6 : Int32} {p7 : Int32} {p8 : Int32} {Q : Int32 → MM → Prop} {K68 : Int32 × Int32 × MM → Prop} {K178 : Int32 × MM → Prop} {K194 : Int64 × Int32 × MM → Prop} {x : Int64 × Int32 × MM}   (hK68 : ∀ (z3 : Int32) (z4 : Int32) (zμ : MM), K68 (z3, z4, zμ) → WX p l e (rmX dR) s m args below meth c φ tc D (AX φ) 12 0 0 (MQ below (QX φ tc D (QI Q)) args s 0 0 (AX φ)) 68 [(0, .ref 358), (1, .int p1), (2, .int p2), (3, .int z3), (4, .int z4)] [] zμ) (hK178 : ∀ (z8 : Int32) (zμ : MM), K178 (z8, zμ) → WX p l e (rmX dR) s m args below meth c φ tc D (AX φ) 12 0 0 (MQ below (QX φ tc D (QI Q)) args s 0 0 (AX φ)) 178 [(0, .ref 358), (1, .int p1), (2, .int p2), (3, .int p3), (4, .int p4), (5, .int p5), (6, .int p6), (7, .int p7), (8, .int z8)] [] zμ) (hK194 : ∀ (z9 : Int64) (z11 : Int32) (zμ : MM), K194 (z9, z11, zμ) → WX p l e (rmX dR) s m args below meth c φ tc D (AX φ) 12 0 0 (MQ below (QX φ tc D (QI Q)) args s 0 0 (AX φ)) 194 [(0, .ref 358), (1, .int p1), (2, .int p2), (3, .int p3), (4, .int p4), (5, .int p5), (6, .int p6), (7, .int p7), (8, .int p8), (9, .long z9), (11, .int z11)] [] zμ) (h : G12_odds_L194 p1 p2 p3 p4 p5 p6 p7 p8 K68 K178 Q K194 x) : WX p l e (rmX dR) s m args below meth c φ tc D (AX φ) 12 0 0 (MQ below (QX φ tc D (QI Q)) args s 0 0 (AX φ)) 194 [(0, .ref 358), (1, .int p1), (2, .int p2), (3, .int p3), (4, .int p4), (5, .int p5), (6, .int p6), (7, .int p7), (8, .int p8), (9, .long x.1), (11, .int x.2.1)] [] x.2.2 := by
  unfold G12_odds_L194 at h
  refine x_iload C 10 rfl dX12_odds_194 ?_
  refine x_iconst (v := 4) C (by decide) dX12_odds_196 ?_
  refine x_icmp_gt (tgt := 250) C dX12_odds_197 (by decide) (fun c82 => ?_) (fun c82 => ?_)
  · have h := h.1 c82
    refine x_aload_n C rfl 0 rfl dX12_odds_250 ?_
    refine x_getR (r := 384) C (j := 39) ob358.1 ob358.2 (Nat.le_of_ble_eq_true rfl) (Nat.le_of_ble_eq_true rfl) (fun _ _ _ => rfl) r_358_39 tw_9_5 dX12_odds_251 ?_
    refine x_iload C 8 rfl dX12_odds_254 ?_
    refine x_lload C 9 rfl dX12_odds_256 ?_
    obtain ⟨c83, h⟩ := h
    refine x_last C ob384.1 ob384.2 c83 rfl dX12_odds_258 ?_
    refine x_mu (fun μ84 e_μ84 => ?_)
    have h := h μ84 e_μ84
    refine x_iinc (v := (p8 + 1)) C [(8, .int (p8 + 1)), (0, .ref 358), (1, .int p1), (2, .int p2), (3, .int p3), (4, .int p4), (5, .int p5), (6, .int p6), (7, .int p7), (9, .long x.1), (11, .int x.2.1)] 8 rfl (congrArg (fun z => p8 + z) (by decide : Int32.ofInt (1) = 1)) (Nat.le_of_ble_eq_true rfl) rfl dX12_odds_259 ?_
    refine x_goto (tgt := 178) C dX12_odds_262 (by decide) ?_
    refine x_sub [(0, .ref 358), (1, .int p1), (2, .int p2), (3, .int p3), (4, .int p4), (5, .int p5), (6, .int p6), (7, .int p7), (8, .int (p8 + 1))] [1, 2, 3, 4, 5, 6, 7, 8, 0] rfl ?_
    exact hK178 _ _ h
  · have h := h.2 c82
    refine x_iload C 10 rfl dX12_odds_200 ?_
    refine x_iload C 8 rfl dX12_odds_202 ?_
    refine x_icmp_gt (tgt := 250) C dX12_odds_204 (by decide) (fun c85 => ?_) (fun c85 => ?_)
    · have h := h.1 c85
      refine x_aload_n C rfl 0 rfl dX12_odds_250 ?_
      refine x_getR (r := 384) C (j := 39) ob358.1 ob358.2 (Nat.le_of_ble_eq_true rfl) (Nat.le_of_ble_eq_true rfl) (fun _ _ _ => rfl) r_358_39 tw_9_5 dX12_odds_251 ?_
      refine x_iload C 8 rfl dX12_odds_254 ?_
      refine x_lload C 9 rfl dX12_odds_256 ?_
      obtain ⟨c86, h⟩ := h
      refine x_last C ob384.1 ob384.2 c86 rfl dX12_odds_258 ?_
      refine x_mu (fun μ87 e_μ87 => ?_)
      have h := h μ87 e_μ87
      refine x_iinc (v := (p8 + 1)) C [(8, .int (p8 + 1)), (0, .ref 358), (1, .int p1), (2, .int p2), (3, .int p3), (4, .int p4), (5, .int p5), (6, .int p6), (7, .int p7), (9, .long x.1), (11, .int x.2.1)] 8 rfl (congrArg (fun z => p8 + z) (by decide : Int32.ofInt (1) = 1)) (Nat.le_of_ble_eq_true rfl) rfl dX12_odds_259 ?_
      refine x_goto (tgt := 178) C dX12_odds_262 (by decide) ?_
      refine x_sub [(0, .ref 358), (1, .int p1), (2, .int p2), (3, .int p3), (4, .int p4), (5, .int p5), (6, .int p6), (7, .int p7), (8, .int (p8 + 1))] [1, 2, 3, 4, 5, 6, 7, 8, 0] rfl ?_
      exact hK178 _ _ h
    · have h := h.2 c85
      refine x_lload C 9 rfl dX12_odds_207 ?_
      refine x_aload_n C rfl 0 rfl dX12_odds_209 ?_
      refine x_getR (r := 383) C (j := 38) ob358.1 ob358.2 (Nat.le_of_ble_eq_true rfl) (Nat.le_of_ble_eq_true rfl) (fun _ _ _ => rfl) r_358_38 tw_9_4 dX12_odds_210 ?_
      refine x_iload C 8 rfl dX12_odds_213 ?_
      refine x_iload C 10 rfl dX12_odds_215 ?_
      refine x_isub C dX12_odds_217 ?_
      obtain ⟨c88, h⟩ := h
      refine x_lald C ob383.1 ob383.2 c88 rfl dX12_odds_218 ?_
      refine x_iload C 7 rfl dX12_odds_219 ?_
      refine x_iload C 10 rfl dX12_odds_221 ?_
      refine x_callS (dC := G12_choices_dep) (as := [.int p7, .int x.2.1]) (st := [.long (gJ x.2.2 383 ((p8 - x.2.1).toNatClampNeg)), .long x.1]) C rX kX (Nat.le_trans (Nat.le_of_ble_eq_true rfl) hd) (Nat.le_of_ble_eq_true rfl) tw_7_176 tw_7_175 tc_7_177 tw_1_13 hyX12 hnX12_choices rfl (Nat.le_of_ble_eq_true rfl) dX12_odds_223 (G12_choices_met C.2.2.2.2.2.2.2.1 (Nat.le_refl _)  h) (fun r0 μ89 hq => ?_)
      obtain ⟨r90, rfl, h⟩ := hq
      refine x_st [.long r90, .long (gJ x.2.2 383 ((p8 - x.2.1).toNatClampNeg)), .long x.1] rfl ?_
      refine x_lmul C dX12_odds_226 ?_
      refine x_iload C 5 rfl dX12_odds_227 ?_
      refine x_iload C 7 rfl dX12_odds_229 ?_
      refine x_isub C dX12_odds_231 ?_
      refine x_iload C 6 rfl dX12_odds_232 ?_
      refine x_iload C 10 rfl dX12_odds_234 ?_
      refine x_isub C dX12_odds_236 ?_
      refine x_callS (dC := G12_choices_dep) (as := [.int (p5 - p7), .int (p6 - x.2.1)]) (st := [.long ((gJ x.2.2 383 ((p8 - x.2.1).toNatClampNeg)) * r90), .long x.1]) C rX kX (Nat.le_trans (Nat.le_of_ble_eq_true rfl) hd) (Nat.le_of_ble_eq_true rfl) tw_7_176 tw_7_175 tc_7_177 tw_1_13 hyX12 hnX12_choices rfl (Nat.le_of_ble_eq_true rfl) dX12_odds_237 (G12_choices_met C.2.2.2.2.2.2.2.1 (Nat.le_refl _)  h) (fun r0 μ91 hq => ?_)
      obtain ⟨r92, rfl, h⟩ := hq
      refine x_st [.long r92, .long ((gJ x.2.2 383 ((p8 - x.2.1).toNatClampNeg)) * r90), .long x.1] rfl ?_
      refine x_lmul C dX12_odds_240 ?_
      refine x_ladd C dX12_odds_241 ?_
      refine x_topl (fun y93 e_y93 => ?_)
      have h := h y93 e_y93
      refine x_lstore C [(9, .long y93), (0, .ref 358), (1, .int p1), (2, .int p2), (3, .int p3), (4, .int p4), (5, .int p5), (6, .int p6), (7, .int p7), (8, .int p8), (11, .int x.2.1)] (Nat.le_of_ble_eq_true rfl) rfl dX12_odds_242 ?_
      refine x_iinc (v := (x.2.1 + 1)) C [(11, .int (x.2.1 + 1)), (9, .long y93), (0, .ref 358), (1, .int p1), (2, .int p2), (3, .int p3), (4, .int p4), (5, .int p5), (6, .int p6), (7, .int p7), (8, .int p8)] 10 rfl (congrArg (fun z => x.2.1 + z) (by decide : Int32.ofInt (1) = 1)) (Nat.le_of_ble_eq_true rfl) rfl dX12_odds_244 ?_
      refine x_goto (tgt := 194) C dX12_odds_247 (by decide) ?_
      refine x_sub [(0, .ref 358), (1, .int p1), (2, .int p2), (3, .int p3), (4, .int p4), (5, .int p5), (6, .int p6), (7, .int p7), (8, .int p8), (9, .long y93), (11, .int (x.2.1 + 1))] [2, 3, 4, 5, 6, 7, 8, 9, 10, 1, 0] rfl ?_
      exact hK194 _ _ _ h
theorem G12_odds_L194_ok {p : Program} {e : Env} {s : State} {m : MethodId} {args : Array Value} {below : List Frame} {meth : Method} {c : Code} {l : Launch} {φ : Nat → Nat} {tc : Nat → ClassId} {D : va_G} {s0 : State} {dR : Nat} (C : CX p s m args meth c φ tc D (AX φ) s0 cX12_odds RX12 12) (hd : G12_odds_dep ≤ dR) (hr : meth.sig.returnType = (some .int))  {p1 : Int32} {p2 : Int32} {p3 : Int32} {p4 : Int32} {p5 : Int32} {p6 : Int32} {p7 : Int32} {p8 : Int32} {Q : Int32 → MM → Prop} {K68 : Int32 × Int32 × MM → Prop} {K178 : Int32 × MM → Prop} {x : Int64 × Int32 × MM}   (hK68 : ∀ (z3 : Int32) (z4 : Int32) (zμ : MM), K68 (z3, z4, zμ) → WX p l e (rmX dR) s m args below meth c φ tc D (AX φ) 12 0 0 (MQ below (QX φ tc D (QI Q)) args s 0 0 (AX φ)) 68 [(0, .ref 358), (1, .int p1), (2, .int p2), (3, .int z3), (4, .int z4)] [] zμ) (hK178 : ∀ (z8 : Int32) (zμ : MM), K178 (z8, zμ) → WX p l e (rmX dR) s m args below meth c φ tc D (AX φ) 12 0 0 (MQ below (QX φ tc D (QI Q)) args s 0 0 (AX φ)) 178 [(0, .ref 358), (1, .int p1), (2, .int p2), (3, .int p3), (4, .int p4), (5, .int p5), (6, .int p6), (7, .int p7), (8, .int z8)] [] zμ) (h : Lp (G12_odds_L194 p1 p2 p3 p4 p5 p6 p7 p8 K68 K178 Q) x) : WX p l e (rmX dR) s m args below meth c φ tc D (AX φ) 12 0 0 (MQ below (QX φ tc D (QI Q)) args s 0 0 (AX φ)) 194 [(0, .ref 358), (1, .int p1), (2, .int p2), (3, .int p3), (4, .int p4), (5, .int p5), (6, .int p6), (7, .int p7), (8, .int p8), (9, .long x.1), (11, .int x.2.1)] [] x.2.2 := by
  obtain ⟨n, h⟩ := h
  induction n generalizing x with
  | zero => exact h.elim
  | succ n ih => exact G12_odds_L194_b C hd hr  hK68 hK178 (fun z9 z11 zμ hz => by have q := ih hz; exact q) h
set_option maxHeartbeats 4000000 in
set_option maxRecDepth 100000 in
theorem G12_odds_L178_b {p : Program} {e : Env} {s : State} {m : MethodId} {args : Array Value} {below : List Frame} {meth : Method} {c : Code} {l : Launch} {φ : Nat → Nat} {tc : Nat → ClassId} {D : va_G} {s0 : State} {dR : Nat} (C : CX p s m args meth c φ tc D (AX φ) s0 cX12_odds RX12 12) (hd : G12_odds_dep ≤ dR) (hr : meth.sig.returnType = (some .int))  {p1 : Int32} {p2 : Int32} {p3 : Int32} {p4 : Int32} {p5 : Int32} {p6 : Int32} {p7 : Int32} {Q : Int32 → MM → Prop} {K68 : Int32 × Int32 × MM → Prop} {K178 : Int32 × MM → Prop} {x : Int32 × MM}   (hK68 : ∀ (z3 : Int32) (z4 : Int32) (zμ : MM), K68 (z3, z4, zμ) → WX p l e (rmX dR) s m args below meth c φ tc D (AX φ) 12 0 0 (MQ below (QX φ tc D (QI Q)) args s 0 0 (AX φ)) 68 [(0, .ref 358), (1, .int p1), (2, .int p2), (3, .int z3), (4, .int z4)] [] zμ) (hK178 : ∀ (z8 : Int32) (zμ : MM), K178 (z8, zμ) → WX p l e (rmX dR) s m args below meth c φ tc D (AX φ) 12 0 0 (MQ below (QX φ tc D (QI Q)) args s 0 0 (AX φ)) 178 [(0, .ref 358), (1, .int p1), (2, .int p2), (3, .int p3), (4, .int p4), (5, .int p5), (6, .int p6), (7, .int p7), (8, .int z8)] [] zμ) (h : G12_odds_L178 p1 p2 p3 p4 p5 p6 p7 K68 Q K178 x) : WX p l e (rmX dR) s m args below meth c φ tc D (AX φ) 12 0 0 (MQ below (QX φ tc D (QI Q)) args s 0 0 (AX φ)) 178 [(0, .ref 358), (1, .int p1), (2, .int p2), (3, .int p3), (4, .int p4), (5, .int p5), (6, .int p6), (7, .int p7), (8, .int x.1)] [] x.2 := by
  unfold G12_odds_L178 at h
  refine x_iload C 8 rfl dX12_odds_178 ?_
  refine x_aload_n C rfl 0 rfl dX12_odds_180 ?_
  refine x_getR (r := 383) C (j := 38) ob358.1 ob358.2 (Nat.le_of_ble_eq_true rfl) (Nat.le_of_ble_eq_true rfl) (fun _ _ _ => rfl) r_358_38 tw_9_4 dX12_odds_181 ?_
  refine x_alen (v := 192) C ob383.1 (by decide) (by decide) (by decide) dX12_odds_184 ?_
  refine x_icmp_ge (tgt := 265) C dX12_odds_185 (by decide) (fun c77 => ?_) (fun c77 => ?_)
  · have h := h.1 c77
    refine x_iconst (v := 0) C (by decide) dX12_odds_265 ?_
    refine x_istore C [(8, .int 0), (0, .ref 358), (1, .int p1), (2, .int p2), (3, .int p3), (4, .int p4), (5, .int p5), (6, .int p6), (7, .int p7)] (Nat.le_of_ble_eq_true rfl) rfl dX12_odds_266 ?_
    refine x_sub [(0, .ref 358), (1, .int p1), (2, .int p2), (3, .int p3), (4, .int p4), (8, .int 0)] [1, 2, 3, 4, 5, 0] rfl ?_
    exact G12_odds_L268_ok C hd hr hK68 h
  · have h := h.2 c77
    refine x_lconst (v := 0) C (by decide) dX12_odds_188 ?_
    refine x_lstore C [(9, .long 0), (0, .ref 358), (1, .int p1), (2, .int p2), (3, .int p3), (4, .int p4), (5, .int p5), (6, .int p6), (7, .int p7), (8, .int x.1)] (Nat.le_of_ble_eq_true rfl) rfl dX12_odds_189 ?_
    refine x_iconst (v := 0) C (by decide) dX12_odds_191 ?_
    refine x_istore C [(11, .int 0), (9, .long 0), (0, .ref 358), (1, .int p1), (2, .int p2), (3, .int p3), (4, .int p4), (5, .int p5), (6, .int p6), (7, .int p7), (8, .int x.1)] (Nat.le_of_ble_eq_true rfl) rfl dX12_odds_192 ?_
    refine x_sub [(0, .ref 358), (1, .int p1), (2, .int p2), (3, .int p3), (4, .int p4), (5, .int p5), (6, .int p6), (7, .int p7), (8, .int x.1), (9, .long 0), (11, .int 0)] [2, 3, 4, 5, 6, 7, 8, 9, 10, 1, 0] rfl ?_
    exact G12_odds_L194_ok C hd hr hK68 hK178 h
theorem G12_odds_L178_ok {p : Program} {e : Env} {s : State} {m : MethodId} {args : Array Value} {below : List Frame} {meth : Method} {c : Code} {l : Launch} {φ : Nat → Nat} {tc : Nat → ClassId} {D : va_G} {s0 : State} {dR : Nat} (C : CX p s m args meth c φ tc D (AX φ) s0 cX12_odds RX12 12) (hd : G12_odds_dep ≤ dR) (hr : meth.sig.returnType = (some .int))  {p1 : Int32} {p2 : Int32} {p3 : Int32} {p4 : Int32} {p5 : Int32} {p6 : Int32} {p7 : Int32} {Q : Int32 → MM → Prop} {K68 : Int32 × Int32 × MM → Prop} {x : Int32 × MM}   (hK68 : ∀ (z3 : Int32) (z4 : Int32) (zμ : MM), K68 (z3, z4, zμ) → WX p l e (rmX dR) s m args below meth c φ tc D (AX φ) 12 0 0 (MQ below (QX φ tc D (QI Q)) args s 0 0 (AX φ)) 68 [(0, .ref 358), (1, .int p1), (2, .int p2), (3, .int z3), (4, .int z4)] [] zμ) (h : Lp (G12_odds_L178 p1 p2 p3 p4 p5 p6 p7 K68 Q) x) : WX p l e (rmX dR) s m args below meth c φ tc D (AX φ) 12 0 0 (MQ below (QX φ tc D (QI Q)) args s 0 0 (AX φ)) 178 [(0, .ref 358), (1, .int p1), (2, .int p2), (3, .int p3), (4, .int p4), (5, .int p5), (6, .int p6), (7, .int p7), (8, .int x.1)] [] x.2 := by
  obtain ⟨n, h⟩ := h
  induction n generalizing x with
  | zero => exact h.elim
  | succ n ih => exact G12_odds_L178_b C hd hr  hK68 (fun z8 zμ hz => by have q := ih hz; exact q) h
set_option maxHeartbeats 4000000 in
set_option maxRecDepth 100000 in
theorem G12_odds_L89_b {p : Program} {e : Env} {s : State} {m : MethodId} {args : Array Value} {below : List Frame} {meth : Method} {c : Code} {l : Launch} {φ : Nat → Nat} {tc : Nat → ClassId} {D : va_G} {s0 : State} {dR : Nat} (C : CX p s m args meth c φ tc D (AX φ) s0 cX12_odds RX12 12) (hd : G12_odds_dep ≤ dR) (hr : meth.sig.returnType = (some .int))  {p1 : Int32} {p2 : Int32} {p4 : Int32} {Q : Int32 → MM → Prop} {K68 : Int32 × Int32 × MM → Prop} {K89 : Int32 × Int32 × Int32 × Int32 × Int32 × MM → Prop} {x : Int32 × Int32 × Int32 × Int32 × Int32 × MM}   (hK68 : ∀ (z3 : Int32) (z4 : Int32) (zμ : MM), K68 (z3, z4, zμ) → WX p l e (rmX dR) s m args below meth c φ tc D (AX φ) 12 0 0 (MQ below (QX φ tc D (QI Q)) args s 0 0 (AX φ)) 68 [(0, .ref 358), (1, .int p1), (2, .int p2), (3, .int z3), (4, .int z4)] [] zμ) (hK89 : ∀ (z3 : Int32) (z5 : Int32) (z6 : Int32) (z7 : Int32) (z8 : Int32) (zμ : MM), K89 (z3, z5, z6, z7, z8, zμ) → WX p l e (rmX dR) s m args below meth c φ tc D (AX φ) 12 0 0 (MQ below (QX φ tc D (QI Q)) args s 0 0 (AX φ)) 89 [(0, .ref 358), (1, .int p1), (2, .int p2), (3, .int z3), (4, .int p4), (5, .int z5), (6, .int z6), (7, .int z7), (8, .int z8)] [] zμ) (h : G12_odds_L89 p1 p2 p4 K68 Q K89 x) : WX p l e (rmX dR) s m args below meth c φ tc D (AX φ) 12 0 0 (MQ below (QX φ tc D (QI Q)) args s 0 0 (AX φ)) 89 [(0, .ref 358), (1, .int p1), (2, .int p2), (3, .int x.1), (4, .int p4), (5, .int x.2.1), (6, .int x.2.2.1), (7, .int x.2.2.2.1), (8, .int x.2.2.2.2.1)] [] x.2.2.2.2.2 := by
  unfold G12_odds_L89 at h
  refine x_iload C 8 rfl dX12_odds_89 ?_
  refine x_aload_n C rfl 0 rfl dX12_odds_91 ?_
  refine x_getI C (j := 12) ob358.1 ob358.2 (Nat.le_of_ble_eq_true rfl) (Nat.le_of_ble_eq_true rfl) (Or.inl rfl) tw_8_218 dX12_odds_92 ?_
  refine x_icmp_ge (tgt := 175) C dX12_odds_95 (by decide) (fun c76 => ?_) (fun c76 => ?_)
  · have h := h.1 c76
    refine x_iconst (v := 0) C (by decide) dX12_odds_175 ?_
    refine x_istore C [(8, .int 0), (0, .ref 358), (1, .int p1), (2, .int p2), (3, .int x.1), (4, .int p4), (5, .int x.2.1), (6, .int x.2.2.1), (7, .int x.2.2.2.1)] (Nat.le_of_ble_eq_true rfl) rfl dX12_odds_176 ?_
    refine x_sub [(0, .ref 358), (1, .int p1), (2, .int p2), (3, .int x.1), (4, .int p4), (5, .int x.2.1), (6, .int x.2.2.1), (7, .int x.2.2.2.1), (8, .int 0)] [1, 2, 3, 4, 5, 6, 7, 8, 0] rfl ?_
    exact G12_odds_L178_ok C hd hr hK68 h
  · have h := h.2 c76
    refine x_aload_n C rfl 0 rfl dX12_odds_98 ?_
    refine x_getR (r := 367) C (j := 13) ob358.1 ob358.2 (Nat.le_of_ble_eq_true rfl) (Nat.le_of_ble_eq_true rfl) (fun _ _ _ => rfl) r_358_13 tw_8_219 dX12_odds_99 ?_
    refine x_iload C 8 rfl dX12_odds_102 ?_
    obtain ⟨c94, h⟩ := h
    refine x_iald C ob367.1 ob367.2 c94 rfl dX12_odds_104 ?_
    refine x_iload C 4 rfl dX12_odds_105 ?_
    refine x_icmp_ne (tgt := 169) C dX12_odds_107 (by decide) (fun c95 => ?_) (fun c95 => ?_)
    · have h := h.1 c95
      refine x_iinc (v := (x.2.2.2.2.1 + 1)) C [(8, .int (x.2.2.2.2.1 + 1)), (0, .ref 358), (1, .int p1), (2, .int p2), (3, .int x.1), (4, .int p4), (5, .int x.2.1), (6, .int x.2.2.1), (7, .int x.2.2.2.1)] 8 rfl (congrArg (fun z => x.2.2.2.2.1 + z) (by decide : Int32.ofInt (1) = 1)) (Nat.le_of_ble_eq_true rfl) rfl dX12_odds_169 ?_
      refine x_goto (tgt := 89) C dX12_odds_172 (by decide) ?_
      refine x_sub [(0, .ref 358), (1, .int p1), (2, .int p2), (3, .int x.1), (4, .int p4), (5, .int x.2.1), (6, .int x.2.2.1), (7, .int x.2.2.2.1), (8, .int (x.2.2.2.2.1 + 1))] [1, 2, 3, 4, 5, 6, 7, 8, 0] rfl ?_
      exact hK89 _ _ _ _ _ _ h
    · have h := h.2 c95
      refine x_aload_n C rfl 0 rfl dX12_odds_110 ?_
      refine x_iload_n C rfl 1 rfl dX12_odds_111 ?_
      refine x_iload C 8 rfl dX12_odds_112 ?_
      refine x_callV (dC := G12_passes_dep) (as := [.int p1, .int x.2.2.2.2.1]) (st := []) C rX kX (Nat.le_trans (Nat.le_of_ble_eq_true rfl) hd) (Nat.le_of_ble_eq_true rfl) ob358.1 ob358.2 (Nat.le_of_ble_eq_true rfl) rfl ts_9_14 tw_7_146 tw_7_144 tc_7_147 tw_1_13 hyX12 hnX12_passes rfl (Nat.le_of_ble_eq_true rfl) dX12_odds_114 (G12_passes_met C.2.2.2.2.2.2.2.1 (Nat.le_refl _)  h) (fun r0 μ96 hq => ?_)
      obtain ⟨r97, rfl, h⟩ := hq
      refine x_st [.int r97] rfl ?_
      refine x_if_eq (tgt := 169) C dX12_odds_117 (by decide) (fun c98 => ?_) (fun c98 => ?_)
      · have h := h.1 c98
        refine x_iinc (v := (x.2.2.2.2.1 + 1)) C [(8, .int (x.2.2.2.2.1 + 1)), (0, .ref 358), (1, .int p1), (2, .int p2), (3, .int x.1), (4, .int p4), (5, .int x.2.1), (6, .int x.2.2.1), (7, .int x.2.2.2.1)] 8 rfl (congrArg (fun z => x.2.2.2.2.1 + z) (by decide : Int32.ofInt (1) = 1)) (Nat.le_of_ble_eq_true rfl) rfl dX12_odds_169 ?_
        refine x_goto (tgt := 89) C dX12_odds_172 (by decide) ?_
        refine x_sub [(0, .ref 358), (1, .int p1), (2, .int p2), (3, .int x.1), (4, .int p4), (5, .int x.2.1), (6, .int x.2.2.1), (7, .int x.2.2.2.1), (8, .int (x.2.2.2.2.1 + 1))] [1, 2, 3, 4, 5, 6, 7, 8, 0] rfl ?_
        exact hK89 _ _ _ _ _ _ h
      · have h := h.2 c98
        refine x_iinc (v := (x.2.1 + 1)) C [(5, .int (x.2.1 + 1)), (0, .ref 358), (1, .int p1), (2, .int p2), (3, .int x.1), (4, .int p4), (6, .int x.2.2.1), (7, .int x.2.2.2.1), (8, .int x.2.2.2.2.1)] 5 rfl (congrArg (fun z => x.2.1 + z) (by decide : Int32.ofInt (1) = 1)) (Nat.le_of_ble_eq_true rfl) rfl dX12_odds_120 ?_
        refine x_iload C 6 rfl dX12_odds_123 ?_
        refine x_aload_n C rfl 1 rfl dX12_odds_125 ?_
        refine x_iload C 8 rfl dX12_odds_126 ?_
        refine x_callV (dC := G12_peopleOf_dep) (as := [.int x.2.2.2.2.1]) (st := [.int x.2.2.1]) C rX kX (Nat.le_trans (Nat.le_of_ble_eq_true rfl) hd) (Nat.le_of_ble_eq_true rfl) ob358.1 ob358.2 (Nat.le_of_ble_eq_true rfl) rfl ts_9_15 tw_7_150 tw_7_148 tc_7_151 tw_1_13 hyX12 hnX12_peopleOf rfl (Nat.le_of_ble_eq_true rfl) dX12_odds_128 (G12_peopleOf_met C.2.2.2.2.2.2.2.1 (Nat.le_refl _)  h) (fun r0 μ99 hq => ?_)
        obtain ⟨r100, rfl, h⟩ := hq
        refine x_st [.int r100, .int x.2.2.1] rfl ?_
        refine x_iadd C dX12_odds_131 ?_
        refine x_topi (fun y101 e_y101 => ?_)
        have h := h y101 e_y101
        refine x_istore C [(6, .int y101), (5, .int (x.2.1 + 1)), (0, .ref 358), (1, .int p1), (2, .int p2), (3, .int x.1), (4, .int p4), (7, .int x.2.2.2.1), (8, .int x.2.2.2.2.1)] (Nat.le_of_ble_eq_true rfl) rfl dX12_odds_132 ?_
        refine x_iload C 7 rfl dX12_odds_134 ?_
        refine x_aload_n C rfl 2 rfl dX12_odds_136 ?_
        refine x_getR (r := 374) C (j := 20) ob358.1 ob358.2 (Nat.le_of_ble_eq_true rfl) (Nat.le_of_ble_eq_true rfl) (fun _ _ _ => rfl) r_358_20 tw_8_226 dX12_odds_137 ?_
        refine x_iload C 8 rfl dX12_odds_140 ?_
        obtain ⟨c102, h⟩ := h
        refine x_zald C ob374.1 ob374.2 c102 rfl dX12_odds_142 ?_
        refine x_callS (dC := G12_flag_dep) (as := [.int (gI μ99 374 x.2.2.2.2.1.toNatClampNeg)]) (st := [.int x.2.2.2.1]) C rX kX (Nat.le_trans (Nat.le_of_ble_eq_true rfl) hd) (Nat.le_of_ble_eq_true rfl) tw_6_212 tw_6_211 tc_6_213 tw_1_13 hyX12 hnX12_flag rfl (Nat.le_of_ble_eq_true rfl) dX12_odds_143 (G12_flag_met C.2.2.2.2.2.2.2.1 (Nat.le_refl _)  h) (fun r0 μ103 hq => ?_)
        obtain ⟨r104, rfl, h⟩ := hq
        refine x_st [.int r104, .int x.2.2.2.1] rfl ?_
        refine x_iadd C dX12_odds_146 ?_
        refine x_topi (fun y105 e_y105 => ?_)
        have h := h y105 e_y105
        refine x_istore C [(7, .int y105), (6, .int y101), (5, .int (x.2.1 + 1)), (0, .ref 358), (1, .int p1), (2, .int p2), (3, .int x.1), (4, .int p4), (8, .int x.2.2.2.2.1)] (Nat.le_of_ble_eq_true rfl) rfl dX12_odds_147 ?_
        refine x_iload_n C rfl 6 rfl dX12_odds_149 ?_
        refine x_aload_n C rfl 3 rfl dX12_odds_150 ?_
        refine x_iload C 8 rfl dX12_odds_151 ?_
        refine x_callV (dC := G12_peopleOf_dep) (as := [.int x.2.2.2.2.1]) (st := [.int x.1]) C rX kX (Nat.le_trans (Nat.le_of_ble_eq_true rfl) hd) (Nat.le_of_ble_eq_true rfl) ob358.1 ob358.2 (Nat.le_of_ble_eq_true rfl) rfl ts_9_15 tw_7_150 tw_7_148 tc_7_151 tw_1_13 hyX12 hnX12_peopleOf rfl (Nat.le_of_ble_eq_true rfl) dX12_odds_153 (G12_peopleOf_met C.2.2.2.2.2.2.2.1 (Nat.le_refl _)  h) (fun r0 μ106 hq => ?_)
        obtain ⟨r107, rfl, h⟩ := hq
        refine x_st [.int r107, .int x.1] rfl ?_
        refine x_aload_n C rfl 3 rfl dX12_odds_156 ?_
        refine x_getR (r := 374) C (j := 20) ob358.1 ob358.2 (Nat.le_of_ble_eq_true rfl) (Nat.le_of_ble_eq_true rfl) (fun _ _ _ => rfl) r_358_20 tw_8_226 dX12_odds_157 ?_
        refine x_iload C 8 rfl dX12_odds_160 ?_
        obtain ⟨c108, h⟩ := h
        refine x_zald C ob374.1 ob374.2 c108 rfl dX12_odds_162 ?_
        refine x_callS (dC := G12_flag_dep) (as := [.int (gI μ106 374 x.2.2.2.2.1.toNatClampNeg)]) (st := [.int r107, .int x.1]) C rX kX (Nat.le_trans (Nat.le_of_ble_eq_true rfl) hd) (Nat.le_of_ble_eq_true rfl) tw_6_212 tw_6_211 tc_6_213 tw_1_13 hyX12 hnX12_flag rfl (Nat.le_of_ble_eq_true rfl) dX12_odds_163 (G12_flag_met C.2.2.2.2.2.2.2.1 (Nat.le_refl _)  h) (fun r0 μ109 hq => ?_)
        obtain ⟨r110, rfl, h⟩ := hq
        refine x_st [.int r110, .int r107, .int x.1] rfl ?_
        refine x_imul C dX12_odds_166 ?_
        refine x_iadd C dX12_odds_167 ?_
        refine x_topi (fun y111 e_y111 => ?_)
        have h := h y111 e_y111
        refine x_istore_n C [(3, .int y111), (7, .int y105), (6, .int y101), (5, .int (x.2.1 + 1)), (0, .ref 358), (1, .int p1), (2, .int p2), (4, .int p4), (8, .int x.2.2.2.2.1)] rfl (Nat.le_of_ble_eq_true rfl) rfl dX12_odds_168 ?_
        refine x_iinc (v := (x.2.2.2.2.1 + 1)) C [(8, .int (x.2.2.2.2.1 + 1)), (3, .int y111), (7, .int y105), (6, .int y101), (5, .int (x.2.1 + 1)), (0, .ref 358), (1, .int p1), (2, .int p2), (4, .int p4)] 8 rfl (congrArg (fun z => x.2.2.2.2.1 + z) (by decide : Int32.ofInt (1) = 1)) (Nat.le_of_ble_eq_true rfl) rfl dX12_odds_169 ?_
        refine x_goto (tgt := 89) C dX12_odds_172 (by decide) ?_
        refine x_sub [(0, .ref 358), (1, .int p1), (2, .int p2), (3, .int y111), (4, .int p4), (5, .int (x.2.1 + 1)), (6, .int y101), (7, .int y105), (8, .int (x.2.2.2.2.1 + 1))] [5, 6, 7, 1, 8, 4, 3, 2, 0] rfl ?_
        exact hK89 _ _ _ _ _ _ h
theorem G12_odds_L89_ok {p : Program} {e : Env} {s : State} {m : MethodId} {args : Array Value} {below : List Frame} {meth : Method} {c : Code} {l : Launch} {φ : Nat → Nat} {tc : Nat → ClassId} {D : va_G} {s0 : State} {dR : Nat} (C : CX p s m args meth c φ tc D (AX φ) s0 cX12_odds RX12 12) (hd : G12_odds_dep ≤ dR) (hr : meth.sig.returnType = (some .int))  {p1 : Int32} {p2 : Int32} {p4 : Int32} {Q : Int32 → MM → Prop} {K68 : Int32 × Int32 × MM → Prop} {x : Int32 × Int32 × Int32 × Int32 × Int32 × MM}   (hK68 : ∀ (z3 : Int32) (z4 : Int32) (zμ : MM), K68 (z3, z4, zμ) → WX p l e (rmX dR) s m args below meth c φ tc D (AX φ) 12 0 0 (MQ below (QX φ tc D (QI Q)) args s 0 0 (AX φ)) 68 [(0, .ref 358), (1, .int p1), (2, .int p2), (3, .int z3), (4, .int z4)] [] zμ) (h : Lp (G12_odds_L89 p1 p2 p4 K68 Q) x) : WX p l e (rmX dR) s m args below meth c φ tc D (AX φ) 12 0 0 (MQ below (QX φ tc D (QI Q)) args s 0 0 (AX φ)) 89 [(0, .ref 358), (1, .int p1), (2, .int p2), (3, .int x.1), (4, .int p4), (5, .int x.2.1), (6, .int x.2.2.1), (7, .int x.2.2.2.1), (8, .int x.2.2.2.2.1)] [] x.2.2.2.2.2 := by
  obtain ⟨n, h⟩ := h
  induction n generalizing x with
  | zero => exact h.elim
  | succ n ih => exact G12_odds_L89_b C hd hr  hK68 (fun z3 z5 z6 z7 z8 zμ hz => by have q := ih hz; exact q) h
set_option maxHeartbeats 4000000 in
set_option maxRecDepth 100000 in
theorem G12_odds_L68_b {p : Program} {e : Env} {s : State} {m : MethodId} {args : Array Value} {below : List Frame} {meth : Method} {c : Code} {l : Launch} {φ : Nat → Nat} {tc : Nat → ClassId} {D : va_G} {s0 : State} {dR : Nat} (C : CX p s m args meth c φ tc D (AX φ) s0 cX12_odds RX12 12) (hd : G12_odds_dep ≤ dR) (hr : meth.sig.returnType = (some .int))  {p1 : Int32} {p2 : Int32} {Q : Int32 → MM → Prop} {K68 : Int32 × Int32 × MM → Prop} {x : Int32 × Int32 × MM}   (hK68 : ∀ (z3 : Int32) (z4 : Int32) (zμ : MM), K68 (z3, z4, zμ) → WX p l e (rmX dR) s m args below meth c φ tc D (AX φ) 12 0 0 (MQ below (QX φ tc D (QI Q)) args s 0 0 (AX φ)) 68 [(0, .ref 358), (1, .int p1), (2, .int p2), (3, .int z3), (4, .int z4)] [] zμ) (h : G12_odds_L68 p1 p2 Q K68 x) : WX p l e (rmX dR) s m args below meth c φ tc D (AX φ) 12 0 0 (MQ below (QX φ tc D (QI Q)) args s 0 0 (AX φ)) 68 [(0, .ref 358), (1, .int p1), (2, .int p2), (3, .int x.1), (4, .int x.2.1)] [] x.2.2 := by
  unfold G12_odds_L68 at h
  refine x_iload C 4 rfl dX12_odds_68 ?_
  refine x_aload_n C rfl 0 rfl dX12_odds_70 ?_
  refine x_getI C (j := 8) ob358.1 ob358.2 (Nat.le_of_ble_eq_true rfl) (Nat.le_of_ble_eq_true rfl) (Or.inl rfl) tw_8_214 dX12_odds_71 ?_
  refine x_icmp_ge (tgt := 304) C dX12_odds_74 (by decide) (fun c58 => ?_) (fun c58 => ?_)
  · have h := h.1 c58
    refine x_lconst (v := 0) C (by decide) dX12_odds_304 ?_
    refine x_lstore C [(4, .long 0), (0, .ref 358), (1, .int p1), (2, .int p2), (3, .int x.1)] (Nat.le_of_ble_eq_true rfl) rfl dX12_odds_305 ?_
    refine x_lconst (v := 0) C (by decide) dX12_odds_307 ?_
    refine x_lstore C [(6, .long 0), (4, .long 0), (0, .ref 358), (1, .int p1), (2, .int p2), (3, .int x.1)] (Nat.le_of_ble_eq_true rfl) rfl dX12_odds_308 ?_
    refine x_iconst (v := 0) C (by decide) dX12_odds_310 ?_
    refine x_istore C [(8, .int 0), (6, .long 0), (4, .long 0), (0, .ref 358), (1, .int p1), (2, .int p2), (3, .int x.1)] (Nat.le_of_ble_eq_true rfl) rfl dX12_odds_311 ?_
    refine x_sub [(0, .ref 358), (2, .int p2), (3, .int x.1), (4, .long 0), (6, .long 0), (8, .int 0)] [3, 5, 6, 2, 1, 0] rfl ?_
    exact G12_odds_L313_ok C hd hr  h
  · have h := h.2 c58
    refine x_iconst (v := 0) C (by decide) dX12_odds_77 ?_
    refine x_istore C [(5, .int 0), (0, .ref 358), (1, .int p1), (2, .int p2), (3, .int x.1), (4, .int x.2.1)] (Nat.le_of_ble_eq_true rfl) rfl dX12_odds_78 ?_
    refine x_iconst (v := 0) C (by decide) dX12_odds_80 ?_
    refine x_istore C [(6, .int 0), (5, .int 0), (0, .ref 358), (1, .int p1), (2, .int p2), (3, .int x.1), (4, .int x.2.1)] (Nat.le_of_ble_eq_true rfl) rfl dX12_odds_81 ?_
    refine x_iconst (v := 0) C (by decide) dX12_odds_83 ?_
    refine x_istore C [(7, .int 0), (6, .int 0), (5, .int 0), (0, .ref 358), (1, .int p1), (2, .int p2), (3, .int x.1), (4, .int x.2.1)] (Nat.le_of_ble_eq_true rfl) rfl dX12_odds_84 ?_
    refine x_iconst (v := 0) C (by decide) dX12_odds_86 ?_
    refine x_istore C [(8, .int 0), (7, .int 0), (6, .int 0), (5, .int 0), (0, .ref 358), (1, .int p1), (2, .int p2), (3, .int x.1), (4, .int x.2.1)] (Nat.le_of_ble_eq_true rfl) rfl dX12_odds_87 ?_
    refine x_sub [(0, .ref 358), (1, .int p1), (2, .int p2), (3, .int x.1), (4, .int x.2.1), (5, .int 0), (6, .int 0), (7, .int 0), (8, .int 0)] [4, 5, 6, 7, 8, 3, 2, 1, 0] rfl ?_
    exact G12_odds_L89_ok C hd hr hK68 h
theorem G12_odds_L68_ok {p : Program} {e : Env} {s : State} {m : MethodId} {args : Array Value} {below : List Frame} {meth : Method} {c : Code} {l : Launch} {φ : Nat → Nat} {tc : Nat → ClassId} {D : va_G} {s0 : State} {dR : Nat} (C : CX p s m args meth c φ tc D (AX φ) s0 cX12_odds RX12 12) (hd : G12_odds_dep ≤ dR) (hr : meth.sig.returnType = (some .int))  {p1 : Int32} {p2 : Int32} {Q : Int32 → MM → Prop}  {x : Int32 × Int32 × MM}    (h : Lp (G12_odds_L68 p1 p2 Q) x) : WX p l e (rmX dR) s m args below meth c φ tc D (AX φ) 12 0 0 (MQ below (QX φ tc D (QI Q)) args s 0 0 (AX φ)) 68 [(0, .ref 358), (1, .int p1), (2, .int p2), (3, .int x.1), (4, .int x.2.1)] [] x.2.2 := by
  obtain ⟨n, h⟩ := h
  induction n generalizing x with
  | zero => exact h.elim
  | succ n ih => exact G12_odds_L68_b C hd hr   (fun z3 z4 zμ hz => by have q := ih hz; exact q) h
set_option maxHeartbeats 4000000 in
set_option maxRecDepth 100000 in
theorem G12_odds_J52_ok {p : Program} {e : Env} {s : State} {m : MethodId} {args : Array Value} {below : List Frame} {meth : Method} {c : Code} {l : Launch} {φ : Nat → Nat} {tc : Nat → ClassId} {D : va_G} {s0 : State} {dR : Nat} (C : CX p s m args meth c φ tc D (AX φ) s0 cX12_odds RX12 12) (hd : G12_odds_dep ≤ dR) (hr : meth.sig.returnType = (some .int))   {p1 : Int32} {p2 : Int32} {p3 : Int32} {q0 : Int32} {q1 : Int32} {Q : Int32 → MM → Prop} {K29 : Int32 × MM → Prop} {μ : MM}   (hK29 : ∀ (z3 : Int32) (zμ : MM), K29 (z3, zμ) → WX p l e (rmX dR) s m args below meth c φ tc D (AX φ) 12 0 0 (MQ below (QX φ tc D (QI Q)) args s 0 0 (AX φ)) 29 [(0, .ref 358), (1, .int p1), (2, .int p2), (3, .int z3)] [] zμ) (h : G12_odds_J52 p1 p2 p3 q0 q1 μ K29 Q) : WX p l e (rmX dR) s m args below meth c φ tc D (AX φ) 12 0 0 (MQ below (QX φ tc D (QI Q)) args s 0 0 (AX φ)) 52 [(0, .ref 358), (1, .int p1), (2, .int p2), (3, .int p3)] [.int q0, .int q1, .ref 383] μ := by
  unfold G12_odds_J52 at h
  refine x_callS (dC := G12_flag_dep) (as := [.int q0]) (st := [.int q1, .ref 383]) C rX kX (Nat.le_trans (Nat.le_of_ble_eq_true rfl) hd) (Nat.le_of_ble_eq_true rfl) tw_6_212 tw_6_211 tc_6_213 tw_1_13 hyX12 hnX12_flag rfl (Nat.le_of_ble_eq_true rfl) dX12_odds_52 (G12_flag_met C.2.2.2.2.2.2.2.1 (Nat.le_refl _)  h) (fun r0 μ113 hq => ?_)
  obtain ⟨r114, rfl, h⟩ := hq
  refine x_st [.int r114, .int q1, .ref 383] rfl ?_
  refine x_i2l C dX12_odds_55 ?_
  obtain ⟨c115, h⟩ := h
  refine x_last C ob383.1 ob383.2 c115 rfl dX12_odds_56 ?_
  refine x_mu (fun μ116 e_μ116 => ?_)
  have h := h μ116 e_μ116
  refine x_iinc (v := (p3 + 1)) C [(3, .int (p3 + 1)), (0, .ref 358), (1, .int p1), (2, .int p2)] 3 rfl (congrArg (fun z => p3 + z) (by decide : Int32.ofInt (1) = 1)) (Nat.le_of_ble_eq_true rfl) rfl dX12_odds_57 ?_
  refine x_goto (tgt := 29) C dX12_odds_60 (by decide) ?_
  refine x_sub [(0, .ref 358), (1, .int p1), (2, .int p2), (3, .int (p3 + 1))] [1, 2, 3, 0] rfl ?_
  exact hK29 _ _ h
set_option maxHeartbeats 4000000 in
set_option maxRecDepth 100000 in
theorem G12_odds_L29_b {p : Program} {e : Env} {s : State} {m : MethodId} {args : Array Value} {below : List Frame} {meth : Method} {c : Code} {l : Launch} {φ : Nat → Nat} {tc : Nat → ClassId} {D : va_G} {s0 : State} {dR : Nat} (C : CX p s m args meth c φ tc D (AX φ) s0 cX12_odds RX12 12) (hd : G12_odds_dep ≤ dR) (hr : meth.sig.returnType = (some .int))  {p1 : Int32} {p2 : Int32} {Q : Int32 → MM → Prop} {K29 : Int32 × MM → Prop} {x : Int32 × MM}   (hK29 : ∀ (z3 : Int32) (zμ : MM), K29 (z3, zμ) → WX p l e (rmX dR) s m args below meth c φ tc D (AX φ) 12 0 0 (MQ below (QX φ tc D (QI Q)) args s 0 0 (AX φ)) 29 [(0, .ref 358), (1, .int p1), (2, .int p2), (3, .int z3)] [] zμ) (h : G12_odds_L29 p1 p2 Q K29 x) : WX p l e (rmX dR) s m args below meth c φ tc D (AX φ) 12 0 0 (MQ below (QX φ tc D (QI Q)) args s 0 0 (AX φ)) 29 [(0, .ref 358), (1, .int p1), (2, .int p2), (3, .int x.1)] [] x.2 := by
  unfold G12_odds_L29 at h
  refine x_iload_n C rfl 3 rfl dX12_odds_29 ?_
  refine x_aload_n C rfl 0 rfl dX12_odds_30 ?_
  refine x_getR (r := 383) C (j := 38) ob358.1 ob358.2 (Nat.le_of_ble_eq_true rfl) (Nat.le_of_ble_eq_true rfl) (fun _ _ _ => rfl) r_358_38 tw_9_4 dX12_odds_31 ?_
  refine x_alen (v := 192) C ob383.1 (by decide) (by decide) (by decide) dX12_odds_34 ?_
  refine x_icmp_ge (tgt := 63) C dX12_odds_35 (by decide) (fun c57 => ?_) (fun c57 => ?_)
  · have h := h.1 c57
    refine x_iconst (v := 0) C (by decide) dX12_odds_63 ?_
    refine x_istore_n C [(3, .int 0), (0, .ref 358), (1, .int p1), (2, .int p2)] rfl (Nat.le_of_ble_eq_true rfl) rfl dX12_odds_64 ?_
    refine x_iconst (v := 0) C (by decide) dX12_odds_65 ?_
    refine x_istore C [(4, .int 0), (3, .int 0), (0, .ref 358), (1, .int p1), (2, .int p2)] (Nat.le_of_ble_eq_true rfl) rfl dX12_odds_66 ?_
    refine x_sub [(0, .ref 358), (1, .int p1), (2, .int p2), (3, .int 0), (4, .int 0)] [2, 3, 4, 1, 0] rfl ?_
    exact G12_odds_L68_ok C hd hr  h
  · have h := h.2 c57
    refine x_aload_n C rfl 0 rfl dX12_odds_38 ?_
    refine x_getR (r := 383) C (j := 38) ob358.1 ob358.2 (Nat.le_of_ble_eq_true rfl) (Nat.le_of_ble_eq_true rfl) (fun _ _ _ => rfl) r_358_38 tw_9_4 dX12_odds_39 ?_
    refine x_iload_n C rfl 3 rfl dX12_odds_42 ?_
    refine x_iload_n C rfl 3 rfl dX12_odds_43 ?_
    refine x_if_ne (tgt := 51) C dX12_odds_44 (by decide) (fun c112 => ?_) (fun c112 => ?_)
    · have h := h.1 c112
      refine x_iconst (v := 0) C (by decide) dX12_odds_51 ?_
      exact G12_odds_J52_ok C hd hr hK29 h
    · have h := h.2 c112
      refine x_iconst (v := 1) C (by decide) dX12_odds_47 ?_
      refine x_goto (tgt := 52) C dX12_odds_48 (by decide) ?_
      exact G12_odds_J52_ok C hd hr hK29 h
theorem G12_odds_L29_ok {p : Program} {e : Env} {s : State} {m : MethodId} {args : Array Value} {below : List Frame} {meth : Method} {c : Code} {l : Launch} {φ : Nat → Nat} {tc : Nat → ClassId} {D : va_G} {s0 : State} {dR : Nat} (C : CX p s m args meth c φ tc D (AX φ) s0 cX12_odds RX12 12) (hd : G12_odds_dep ≤ dR) (hr : meth.sig.returnType = (some .int))  {p1 : Int32} {p2 : Int32} {Q : Int32 → MM → Prop}  {x : Int32 × MM}    (h : Lp (G12_odds_L29 p1 p2 Q) x) : WX p l e (rmX dR) s m args below meth c φ tc D (AX φ) 12 0 0 (MQ below (QX φ tc D (QI Q)) args s 0 0 (AX φ)) 29 [(0, .ref 358), (1, .int p1), (2, .int p2), (3, .int x.1)] [] x.2 := by
  obtain ⟨n, h⟩ := h
  induction n generalizing x with
  | zero => exact h.elim
  | succ n ih => exact G12_odds_L29_b C hd hr   (fun z3 zμ hz => by have q := ih hz; exact q) h
set_option maxHeartbeats 4000000 in
set_option maxRecDepth 100000 in
theorem G12_odds_met {l : Launch} {φ : Nat → Nat} {tc : Nat → ClassId} {D : va_G} {s0 : State} (hG : GX φ tc D s0) {dR : Nat} (hd : G12_odds_dep ≤ dR) {v1 : Int32} {v2 : Int32} {μ : MM} {Q : Int32 → MM → Prop}  (h : G12_odds v1 v2 μ Q) : MX l φ tc D s0 dR yX12_odds cX12_odds 12 (some .int) [.ref 358, .int v1, .int v2] μ (QI Q) := by
  refine MX.of (own := RX12) hG plX12 rfl (Nat.le_of_ble_eq_true rfl) (fun p e s m args below meth c C hr => ?_)
  refine x_sub [(0, .ref 358), (1, .int v1), (2, .int v2)] [0, 1, 2] rfl ?_
  unfold G12_odds at h
  refine x_aload_n C rfl 0 rfl dX12_odds_0 ?_
  refine x_iconst (v := 0) C (by decide) dX12_odds_1 ?_
  refine x_putI C (j := 0) ob358.1 ob358.2 (Nat.le_of_ble_eq_true rfl) (Nat.le_of_ble_eq_true rfl) (Or.inl rfl) rfl rfl rfl tw_8_206 dX12_odds_2 ?_
  refine x_mu (fun μ50 e_μ50 => ?_)
  have h := h μ50 e_μ50
  refine x_aload_n C rfl 0 rfl dX12_odds_5 ?_
  refine x_iload_n C rfl 1 rfl dX12_odds_6 ?_
  refine x_callV (dC := G12_isFilter_dep) (as := [.int v1]) (st := []) C rX kX (Nat.le_trans (Nat.le_of_ble_eq_true rfl) hd) (Nat.le_of_ble_eq_true rfl) ob358.1 ob358.2 (Nat.le_of_ble_eq_true rfl) rfl ts_9_12 tw_7_138 tw_7_136 tc_7_139 tw_1_13 hyX12 hnX12_isFilter rfl (Nat.le_of_ble_eq_true rfl) dX12_odds_7 (G12_isFilter_met C.2.2.2.2.2.2.2.1 (Nat.le_refl _)  h) (fun r0 μ51 hq => ?_)
  obtain ⟨r52, rfl, h⟩ := hq
  refine x_st [.int r52] rfl ?_
  refine x_if_eq (tgt := 25) C dX12_odds_10 (by decide) (fun c53 => ?_) (fun c53 => ?_)
  · have h := h.1 c53
    refine x_iconst (v := (-1)) C (by decide) dX12_odds_25 ?_
    exact x_iret C hr dX12_odds_26 ⟨_, rfl, h⟩
  · have h := h.2 c53
    refine x_iload_n C rfl 2 rfl dX12_odds_13 ?_
    refine x_i2l C dX12_odds_14 ?_
    refine x_lconst (v := 0) C (by decide) dX12_odds_15 ?_
    refine x_ldc2 (v := 2) C tw_7_127 dX12_odds_16 ?_
    refine x_callS (dC := G12_in_dep) (as := [.long (v2.toInt64), .long 0, .long 2]) (st := []) C rX kX (Nat.le_trans (Nat.le_of_ble_eq_true rfl) hd) (Nat.le_of_ble_eq_true rfl) tw_6_183 tw_6_182 tc_6_184 tw_1_13 hyX12 hnX12_in rfl (Nat.le_of_ble_eq_true rfl) dX12_odds_19 (G12_in_met C.2.2.2.2.2.2.2.1 (Nat.le_refl _)  h) (fun r0 μ54 hq => ?_)
    obtain ⟨r55, rfl, h⟩ := hq
    refine x_st [.int r55] rfl ?_
    refine x_if_ne (tgt := 27) C dX12_odds_22 (by decide) (fun c56 => ?_) (fun c56 => ?_)
    · have h := h.1 c56
      refine x_iconst (v := 0) C (by decide) dX12_odds_27 ?_
      refine x_istore_n C [(3, .int 0), (0, .ref 358), (1, .int v1), (2, .int v2)] rfl (Nat.le_of_ble_eq_true rfl) rfl dX12_odds_28 ?_
      refine x_sub [(0, .ref 358), (1, .int v1), (2, .int v2), (3, .int 0)] [1, 2, 3, 0] rfl ?_
      exact G12_odds_L29_ok C hd hr  h
    · have h := h.2 c56
      refine x_iconst (v := (-1)) C (by decide) dX12_odds_25 ?_
      exact x_iret C hr dX12_odds_26 ⟨_, rfl, h⟩
