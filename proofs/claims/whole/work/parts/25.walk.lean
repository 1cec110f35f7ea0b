set_option maxHeartbeats 4000000 in
set_option maxRecDepth 100000 in
theorem G11_explains_met {l : Launch} {φ : Nat → Nat} {tc : Nat → ClassId} {D : va_G} {s0 : State} (hG : GX φ tc D s0) {dR : Nat} (hd : G11_explains_dep ≤ dR) {v1 : Int32} {μ : MM} {Q : Int32 → MM → Prop}  (h : G11_explains v1 μ Q) : MX l φ tc D s0 dR yX11_explains cX11_explains 2 (some .int) [.ref 0, .int v1] μ (QI Q) := by
  refine MX.of (own := RX11) hG plX11 rfl (Nat.le_of_ble_eq_true rfl) (fun p e s m args below meth c C hr => ?_)
  refine x_sub [(0, .ref 0), (1, .int v1)] [0, 1] rfl ?_
  unfold G11_explains at h
  refine x_aload_n C rfl 0 rfl dX11_explains_0 ?_
  refine x_getR (r := 202) C (j := 4) ob0.1 ob0.2 (Nat.le_of_ble_eq_true rfl) (Nat.le_of_ble_eq_true rfl) (fun _ _ _ => rfl) r_0_4 tw_2_167 dX11_explains_1 ?_
  refine x_iload_n C rfl 1 rfl dX11_explains_4 ?_
  refine x_callVN (dC := G2_tellExplained_dep) (as := [.int v1]) (st := []) C rX kX (Nat.le_trans (Nat.le_of_ble_eq_true rfl) hd) (Nat.le_of_ble_eq_true rfl) ob202.1 ob202.2 (Nat.le_of_ble_eq_true rfl) rfl ts_6_9 tw_5_123 tw_5_121 tc_5_124 tw_1_10 hyX2 hnX2_tellExplained rfl (Nat.le_of_ble_eq_true rfl) dX11_explains_5 (G2_tellExplained_met C.2.2.2.2.2.2.2.1 (Nat.le_refl _)  h) (fun r0 μ3 hq => ?_)
  obtain ⟨r4, rfl, h⟩ := hq
  refine x_st [.int r4] rfl ?_
  exact x_iret C hr dX11_explains_8 ⟨_, rfl, h⟩
set_option maxHeartbeats 4000000 in
set_option maxRecDepth 100000 in
theorem G2_tellJoined_J125_ok {p : Program} {e : Env} {s : State} {m : MethodId} {args : Array Value} {below : List Frame} {meth : Method} {c : Code} {l : Launch} {φ : Nat → Nat} {tc : Nat → ClassId} {D : va_G} {s0 : State} {dR : Nat} (C : CX p s m args meth c φ tc D (AX φ) s0 cX2_tellJoined RX2 12) (hd : G2_tellJoined_dep ≤ dR) (hr : meth.sig.returnType = (some .int))   {p2 : Int64} {p4 : Int64} {p6 : Int64} {p8 : Int32} {p9 : Nat} {q0 : Int64} {Q : Int32 → MM → Prop} {K89 : Int64 × Int64 × Int32 × MM → Prop} {μ : MM}  (o_p9 : Ob p9 9) (hK89 : ∀ (z4 : Int64) (z6 : Int64) (z8 : Int32) (zμ : MM), K89 (z4, z6, z8, zμ) → WX p l e (rmX dR) s m args below meth c φ tc D (AX φ) 12 0 0 (MQ below (QX φ tc D (QI Q)) args s 0 0 (AX φ)) 89 [(0, .ref 202), (2, .long p2), (4, .long z4), (6, .long z6), (8, .int z8)] [] zμ) (h : G2_tellJoined_J125 p2 p4 p6 p8 p9 q0 μ K89 Q) : WX p l e (rmX dR) s m args below meth c φ tc D (AX φ) 12 0 0 (MQ below (QX φ tc D (QI Q)) args s 0 0 (AX φ)) 125 [(0, .ref 202), (2, .long p2), (4, .long p4), (6, .long p6), (8, .int p8), (9, .ref p9)] [.long q0] μ := by
  unfold G2_tellJoined_J125 at h
  refine x_lstore C [(10, .long q0), (0, .ref 202), (2, .long p2), (4, .long p4), (6, .long p6), (8, .int p8), (9, .ref p9)] (Nat.le_of_ble_eq_true rfl) rfl dX2_tellJoined_125 ?_
  refine x_lload C 3 rfl dX2_tellJoined_127 ?_
  refine x_lload C 0 rfl dX2_tellJoined_129 ?_
  refine x_aload C 6 rfl dX2_tellJoined_131 ?_
  refine x_getRN (r := (p9 + 2)) C (j := 1) o_p9.1 o_p9.2 (Nat.le_of_ble_eq_true rfl) (Nat.le_of_ble_eq_true rfl) (fun _ _ _ => rfl) (rF9_1 o_p9) tw_1_237 dX2_tellJoined_133 ?_
  refine x_iconst (v := 0) C (by decide) dX2_tellJoined_136 ?_
  refine x_iald C (obF9_1 o_p9).1 (obF9_1 o_p9).2 (by rw [lnF9_1 o_p9]; unfold vp_in; decide) (j := 0) (by decide) dX2_tellJoined_137 ?_
  refine x_i2l C dX2_tellJoined_138 ?_
  refine x_lmul C dX2_tellJoined_139 ?_
  refine x_aload C 6 rfl dX2_tellJoined_140 ?_
  refine x_getRN (r := (p9 + 1)) C (j := 0) o_p9.1 o_p9.2 (Nat.le_of_ble_eq_true rfl) (Nat.le_of_ble_eq_true rfl) (fun _ _ _ => rfl) (rF9_0 o_p9) tw_1_234 dX2_tellJoined_142 ?_
  refine x_iconst (v := 1) C (by decide) dX2_tellJoined_145 ?_
  refine x_iald C (obF9_0 o_p9).1 (obF9_0 o_p9).2 (by rw [lnF9_0 o_p9]; unfold vp_in; decide) (j := 1) (by decide) dX2_tellJoined_146 ?_
  refine x_aload C 6 rfl dX2_tellJoined_147 ?_
  refine x_getRN (r := (p9 + 2)) C (j := 1) o_p9.1 o_p9.2 (Nat.le_of_ble_eq_true rfl) (Nat.le_of_ble_eq_true rfl) (fun _ _ _ => rfl) (rF9_1 o_p9) tw_1_237 dX2_tellJoined_149 ?_
  refine x_iconst (v := 1) C (by decide) dX2_tellJoined_152 ?_
  refine x_iald C (obF9_1 o_p9).1 (obF9_1 o_p9).2 (by rw [lnF9_1 o_p9]; unfold vp_in; decide) (j := 1) (by decide) dX2_tellJoined_153 ?_
  refine x_isub C dX2_tellJoined_154 ?_
  refine x_i2l C dX2_tellJoined_155 ?_
  refine x_lmul C dX2_tellJoined_156 ?_
  refine x_ladd C dX2_tellJoined_157 ?_
  refine x_topl (fun y34 e_y34 => ?_)
  have h := h y34 e_y34
  refine x_lstore C [(4, .long y34), (10, .long q0), (0, .ref 202), (2, .long p2), (6, .long p6), (8, .int p8), (9, .ref p9)] (Nat.le_of_ble_eq_true rfl) rfl dX2_tellJoined_158 ?_
  refine x_lload C 4 rfl dX2_tellJoined_160 ?_
  refine x_lload C 1 rfl dX2_tellJoined_162 ?_
  refine x_aload C 6 rfl dX2_tellJoined_164 ?_
  refine x_getRN (r := (p9 + 1)) C (j := 0) o_p9.1 o_p9.2 (Nat.le_of_ble_eq_true rfl) (Nat.le_of_ble_eq_true rfl) (fun _ _ _ => rfl) (rF9_0 o_p9) tw_1_234 dX2_tellJoined_166 ?_
  refine x_iconst (v := 0) C (by decide) dX2_tellJoined_169 ?_
  refine x_iald C (obF9_0 o_p9).1 (obF9_0 o_p9).2 (by rw [lnF9_0 o_p9]; unfold vp_in; decide) (j := 0) (by decide) dX2_tellJoined_170 ?_
  refine x_aload C 6 rfl dX2_tellJoined_171 ?_
  refine x_getRN (r := (p9 + 2)) C (j := 1) o_p9.1 o_p9.2 (Nat.le_of_ble_eq_true rfl) (Nat.le_of_ble_eq_true rfl) (fun _ _ _ => rfl) (rF9_1 o_p9) tw_1_237 dX2_tellJoined_173 ?_
  refine x_iconst (v := 0) C (by decide) dX2_tellJoined_176 ?_
  refine x_iald C (obF9_1 o_p9).1 (obF9_1 o_p9).2 (by rw [lnF9_1 o_p9]; unfold vp_in; decide) (j := 0) (by decide) dX2_tellJoined_177 ?_
  refine x_isub C dX2_tellJoined_178 ?_
  refine x_i2l C dX2_tellJoined_179 ?_
  refine x_lmul C dX2_tellJoined_180 ?_
  refine x_aload C 6 rfl dX2_tellJoined_181 ?_
  refine x_getRN (r := (p9 + 2)) C (j := 1) o_p9.1 o_p9.2 (Nat.le_of_ble_eq_true rfl) (Nat.le_of_ble_eq_true rfl) (fun _ _ _ => rfl) (rF9_1 o_p9) tw_1_237 dX2_tellJoined_183 ?_
  refine x_iconst (v := 1) C (by decide) dX2_tellJoined_186 ?_
  refine x_iald C (obF9_1 o_p9).1 (obF9_1 o_p9).2 (by rw [lnF9_1 o_p9]; unfold vp_in; decide) (j := 1) (by decide) dX2_tellJoined_187 ?_
  refine x_i2l C dX2_tellJoined_188 ?_
  refine x_lmul C dX2_tellJoined_189 ?_
  refine x_ladd C dX2_tellJoined_190 ?_
  refine x_topl (fun y35 e_y35 => ?_)
  have h := h y35 e_y35
  refine x_lstore C [(6, .long y35), (4, .long y34), (10, .long q0), (0, .ref 202), (2, .long p2), (8, .int p8), (9, .ref p9)] (Nat.le_of_ble_eq_true rfl) rfl dX2_tellJoined_191 ?_
  refine x_iinc (v := (p8 + 1)) C [(8, .int (p8 + 1)), (6, .long y35), (4, .long y34), (10, .long q0), (0, .ref 202), (2, .long p2), (9, .ref p9)] 5 rfl (congrArg (fun z => p8 + z) (by decide : Int32.ofInt (1) = 1)) (Nat.le_of_ble_eq_true rfl) rfl dX2_tellJoined_193 ?_
  refine x_goto (tgt := 89) C dX2_tellJoined_196 (by decide) ?_
  refine x_sub [(0, .ref 202), (2, .long p2), (4, .long y34), (6, .long y35), (8, .int (p8 + 1))] [4, 5, 2, 1, 0] rfl ?_
  exact hK89 _ _ _ _ h
set_option maxHeartbeats 4000000 in
set_option maxRecDepth 100000 in
theorem G2_tellJoined_L89_b {p : Program} {e : Env} {s : State} {m : MethodId} {args : Array Value} {below : List Frame} {meth : Method} {c : Code} {l : Launch} {φ : Nat → Nat} {tc : Nat → ClassId} {D : va_G} {s0 : State} {dR : Nat} (C : CX p s m args meth c φ tc D (AX φ) s0 cX2_tellJoined RX2 12) (hd : G2_tellJoined_dep ≤ dR) (hr : meth.sig.returnType = (some .int))  {p2 : Int64} {Q : Int32 → MM → Prop} {K89 : Int64 × Int64 × Int32 × MM → Prop} {x : Int64 × Int64 × Int32 × MM}   (hK89 : ∀ (z4 : Int64) (z6 : Int64) (z8 : Int32) (zμ : MM), K89 (z4, z6, z8, zμ) → WX p l e (rmX dR) s m args below meth c φ tc D (AX φ) 12 0 0 (MQ below (QX φ tc D (QI Q)) args s 0 0 (AX φ)) 89 [(0, .ref 202), (2, .long p2), (4, .long z4), (6, .long z6), (8, .int z8)] [] zμ) (h : G2_tellJoined_L89 p2 Q K89 x) : WX p l e (rmX dR) s m args below meth c φ tc D (AX φ) 12 0 0 (MQ below (QX φ tc D (QI Q)) args s 0 0 (AX φ)) 89 [(0, .ref 202), (2, .long p2), (4, .long x.1), (6, .long x.2.1), (8, .int x.2.2.1)] [] x.2.2.2 := by
  unfold G2_tellJoined_L89 at h
  refine x_iload C 4 rfl dX2_tellJoined_89 ?_
  refine x_bipush (v := 10) C (by decide) dX2_tellJoined_91 ?_
  refine x_icmp_ge (tgt := 199) C dX2_tellJoined_93 (by decide) (fun c26 => ?_) (fun c26 => ?_)
  · have h := h.1 c26
    refine x_lload C 3 rfl dX2_tellJoined_199 ?_
    refine x_lconst (v := 0) C (by decide) dX2_tellJoined_201 ?_
    refine x_lcmp C dX2_tellJoined_202 ?_
    refine x_if_ne (tgt := 209) C dX2_tellJoined_203 (by decide) (fun c27 => ?_) (fun c27 => ?_)
    · have h := h.1 c27
      refine x_aload_n C rfl 0 rfl dX2_tellJoined_209 ?_
      refine x_getR (r := 151) C (j := 1) ob202.1 ob202.2 (Nat.le_of_ble_eq_true rfl) (Nat.le_of_ble_eq_true rfl) (fun _ _ _ => rfl) r_202_1 tw_2_93 dX2_tellJoined_210 ?_
      refine x_callVN (dC := G7_clear_dep) (as := []) (st := []) C rX kX (Nat.le_trans (Nat.le_of_ble_eq_true rfl) hd) (Nat.le_of_ble_eq_true rfl) ob151.1 ob151.2 (Nat.le_of_ble_eq_true rfl) rfl ts_3_8 tw_4_48 tw_5_112 tc_4_49 tw_1_5 hyX7 hnX7_clear rfl (Nat.le_of_ble_eq_true rfl) dX2_tellJoined_213 (G7_clear_met C.2.2.2.2.2.2.2.1 (Nat.le_refl _)  h) (fun r0 μ28 hq => ?_)
      obtain ⟨rfl, h⟩ := hq
      refine x_st [] rfl ?_
      refine x_aload_n C rfl 0 rfl dX2_tellJoined_216 ?_
      refine x_getR (r := 151) C (j := 1) ob202.1 ob202.2 (Nat.le_of_ble_eq_true rfl) (Nat.le_of_ble_eq_true rfl) (fun _ _ _ => rfl) r_202_1 tw_2_93 dX2_tellJoined_217 ?_
      refine x_lload C 2 rfl dX2_tellJoined_220 ?_
      refine x_lload C 3 rfl dX2_tellJoined_222 ?_
      refine x_callVN (dC := G7_addFraction_dep) (as := [.long x.1, .long x.2.1]) (st := []) C rX kX (Nat.le_trans (Nat.le_of_ble_eq_true rfl) hd) (Nat.le_of_ble_eq_true rfl) ob151.1 ob151.2 (Nat.le_of_ble_eq_true rfl) rfl ts_3_10 tw_4_56 tw_5_116 tc_4_57 tw_1_5 hyX7 hnX7_addFraction rfl (Nat.le_of_ble_eq_true rfl) dX2_tellJoined_224 (G7_addFraction_met C.2.2.2.2.2.2.2.1 (Nat.le_refl _)  h) (fun r0 μ29 hq => ?_)
      obtain ⟨rfl, h⟩ := hq
      refine x_st [] rfl ?_
      refine x_iconst (v := 0) C (by decide) dX2_tellJoined_227 ?_
      exact x_iret C hr dX2_tellJoined_228 ⟨_, rfl, h⟩
    · have h := h.2 c27
      refine x_bipush (v := (-2)) C (by decide) dX2_tellJoined_206 ?_
      exact x_iret C hr dX2_tellJoined_208 ⟨_, rfl, h⟩
  · have h := h.2 c26
    refine x_aload_n C rfl 0 rfl dX2_tellJoined_96 ?_
    refine x_getR (r := 206) C (j := 3) ob202.1 ob202.2 (Nat.le_of_ble_eq_true rfl) (Nat.le_of_ble_eq_true rfl) (fun _ _ _ => rfl) r_202_3 tw_2_95 dX2_tellJoined_97 ?_
    refine x_iload C 4 rfl dX2_tellJoined_100 ?_
    obtain ⟨c30, h⟩ := h
    refine x_aald (r := (207 + 3 * x.2.2.1.toNatClampNeg)) C ob206.1 (by decide) (by decide) c30 rfl (rA206 c30) dX2_tellJoined_102 ?_
    refine x_astore C [(9, .ref (207 + 3 * x.2.2.1.toNatClampNeg)), (0, .ref 202), (2, .long p2), (4, .long x.1), (6, .long x.2.1), (8, .int x.2.2.1)] (Nat.le_of_ble_eq_true rfl) rfl dX2_tellJoined_103 ?_
    refine x_aload C 0 rfl dX2_tellJoined_105 ?_
    refine x_callVN (dC := G9_all_dep) (as := []) (st := []) C rX kX (Nat.le_trans (Nat.le_of_ble_eq_true rfl) hd) (Nat.le_of_ble_eq_true rfl) (obA206 c30).1 (obA206 c30).2 (Nat.le_of_ble_eq_true rfl) rfl ts_3_9 tw_4_52 tw_5_134 tc_4_53 tw_1_7 hyX9 hnX9_all rfl (Nat.le_of_ble_eq_true rfl) dX2_tellJoined_107 (G9_all_met C.2.2.2.2.2.2.2.1 (Nat.le_refl _) (obA206 c30) h) (fun r0 μ31 hq => ?_)
    obtain ⟨r32, rfl, h⟩ := hq
    refine x_st [.int r32] rfl ?_
    refine x_if_le (tgt := 124) C dX2_tellJoined_110 (by decide) (fun c33 => ?_) (fun c33 => ?_)
    · have h := h.1 c33
      refine x_lconst (v := 0) C (by decide) dX2_tellJoined_124 ?_
      refine x_sub [(0, .ref 202), (2, .long p2), (4, .long x.1), (6, .long x.2.1), (8, .int x.2.2.1), (9, .ref (207 + 3 * x.2.2.1.toNatClampNeg))] [1, 2, 3, 4, 5, 0] rfl ?_
      exact G2_tellJoined_J125_ok C hd hr (obA206 c30) hK89 h
    · have h := h.2 c33
      refine x_lload_n C rfl 2 rfl dX2_tellJoined_113 ?_
      refine x_aload C 0 rfl dX2_tellJoined_114 ?_
      refine x_callVN (dC := G9_all_dep) (as := []) (st := [.long p2]) C rX kX (Nat.le_trans (Nat.le_of_ble_eq_true rfl) hd) (Nat.le_of_ble_eq_true rfl) (obA206 c30).1 (obA206 c30).2 (Nat.le_of_ble_eq_true rfl) rfl ts_3_9 tw_4_52 tw_5_134 tc_4_53 tw_1_7 hyX9 hnX9_all rfl (Nat.le_of_ble_eq_true rfl) dX2_tellJoined_116 (G9_all_met C.2.2.2.2.2.2.2.1 (Nat.le_refl _) (obA206 c30) h) (fun r0 μ36 hq => ?_)
      obtain ⟨r37, rfl, h⟩ := hq
      refine x_st [.int r37, .long p2] rfl ?_
      refine x_i2l C dX2_tellJoined_119 ?_
      obtain ⟨c38, h⟩ := h
      refine x_ldiv C c38 dX2_tellJoined_120 ?_
      refine x_goto (tgt := 125) C dX2_tellJoined_121 (by decide) ?_
      refine x_sub [(0, .ref 202), (2, .long p2), (4, .long x.1), (6, .long x.2.1), (8, .int x.2.2.1), (9, .ref (207 + 3 * x.2.2.1.toNatClampNeg))] [1, 2, 3, 4, 5, 0] rfl ?_
      exact G2_tellJoined_J125_ok C hd hr (obA206 c30) hK89 h
theorem G2_tellJoined_L89_ok {p : Program} {e : Env} {s : State} {m : MethodId} {args : Array Value} {below : List Frame} {meth : Method} {c : Code} {l : Launch} {φ : Nat → Nat} {tc : Nat → ClassId} {D : va_G} {s0 : State} {dR : Nat} (C : CX p s m args meth c φ tc D (AX φ) s0 cX2_tellJoined RX2 12) (hd : G2_tellJoined_dep ≤ dR) (hr : meth.sig.returnType = (some .int))  {p2 : Int64} {Q : Int32 → MM → Prop}  {x : Int64 × Int64 × Int32 × MM}    (h : Lp (G2_tellJoined_L89 p2 Q) x) : WX p l e (rmX dR) s m args below meth c φ tc D (AX φ) 12 0 0 (MQ below (QX φ tc D (QI Q)) args s 0 0 (AX φ)) 89 [(0, .ref 202), (2, .long p2), (4, .long x.1), (6, .long x.2.1), (8, .int x.2.2.1)] [] x.2.2.2 := by
  obtain ⟨n, h⟩ := h
  induction n generalizing x with
  | zero => exact h.elim
  | succ n ih => exact G2_tellJoined_L89_b C hd hr   (fun z4 z6 z8 zμ hz => by have q := ih hz; exact q) h
set_option maxHeartbeats 4000000 in
set_option maxRecDepth 100000 in
theorem G2_tellJoined_L38_b {p : Program} {e : Env} {s : State} {m : MethodId} {args : Array Value} {below : List Frame} {meth : Method} {c : Code} {l : Launch} {φ : Nat → Nat} {tc : Nat → ClassId} {D : va_G} {s0 : State} {dR : Nat} (C : CX p s m args meth c φ tc D (AX φ) s0 cX2_tellJoined RX2 12) (hd : G2_tellJoined_dep ≤ dR) (hr : meth.sig.returnType = (some .int))   {Q : Int32 → MM → Prop} {K38 : Int64 × Int32 × MM → Prop} {x : Int64 × Int32 × MM}   (hK38 : ∀ (z2 : Int64) (z4 : Int32) (zμ : MM), K38 (z2, z4, zμ) → WX p l e (rmX dR) s m args below meth c φ tc D (AX φ) 12 0 0 (MQ below (QX φ tc D (QI Q)) args s 0 0 (AX φ)) 38 [(0, .ref 202), (2, .long z2), (4, .int z4)] [] zμ) (h : G2_tellJoined_L38  Q K38 x) : WX p l e (rmX dR) s m args below meth c φ tc D (AX φ) 12 0 0 (MQ below (QX φ tc D (QI Q)) args s 0 0 (AX φ)) 38 [(0, .ref 202), (2, .long x.1), (4, .int x.2.1)] [] x.2.2 := by
  unfold G2_tellJoined_L38 at h
  refine x_iload C 2 rfl dX2_tellJoined_38 ?_
  refine x_bipush (v := 10) C (by decide) dX2_tellJoined_40 ?_
  refine x_icmp_ge (tgt := 80) C dX2_tellJoined_42 (by decide) (fun c25 => ?_) (fun c25 => ?_)
  · have h := h.1 c25
    refine x_lconst (v := 0) C (by decide) dX2_tellJoined_80 ?_
    refine x_lstore C [(4, .long 0), (0, .ref 202), (2, .long x.1)] (Nat.le_of_ble_eq_true rfl) rfl dX2_tellJoined_81 ?_
    refine x_lconst (v := 0) C (by decide) dX2_tellJoined_83 ?_
    refine x_lstore C [(6, .long 0), (4, .long 0), (0, .ref 202), (2, .long x.1)] (Nat.le_of_ble_eq_true rfl) rfl dX2_tellJoined_84 ?_
    refine x_iconst (v := 0) C (by decide) dX2_tellJoined_86 ?_
    refine x_istore C [(8, .int 0), (6, .long 0), (4, .long 0), (0, .ref 202), (2, .long x.1)] (Nat.le_of_ble_eq_true rfl) rfl dX2_tellJoined_87 ?_
    refine x_sub [(0, .ref 202), (2, .long x.1), (4, .long 0), (6, .long 0), (8, .int 0)] [3, 4, 2, 1, 0] rfl ?_
    exact G2_tellJoined_L89_ok C hd hr  h
  · have h := h.2 c25
    refine x_aload_n C rfl 0 rfl dX2_tellJoined_45 ?_
    refine x_getR (r := 206) C (j := 3) ob202.1 ob202.2 (Nat.le_of_ble_eq_true rfl) (Nat.le_of_ble_eq_true rfl) (fun _ _ _ => rfl) r_202_3 tw_2_95 dX2_tellJoined_46 ?_
    refine x_iload C 2 rfl dX2_tellJoined_49 ?_
    obtain ⟨c39, h⟩ := h
    refine x_aald (r := (207 + 3 * x.2.1.toNatClampNeg)) C ob206.1 (by decide) (by decide) c39 rfl (rA206 c39) dX2_tellJoined_51 ?_
    refine x_callVN (dC := G9_all_dep) (as := []) (st := []) C rX kX (Nat.le_trans (Nat.le_of_ble_eq_true rfl) hd) (Nat.le_of_ble_eq_true rfl) (obA206 c39).1 (obA206 c39).2 (Nat.le_of_ble_eq_true rfl) rfl ts_3_9 tw_4_52 tw_5_134 tc_4_53 tw_1_7 hyX9 hnX9_all rfl (Nat.le_of_ble_eq_true rfl) dX2_tellJoined_52 (G9_all_met C.2.2.2.2.2.2.2.1 (Nat.le_refl _) (obA206 c39) h) (fun r0 μ40 hq => ?_)
    obtain ⟨r41, rfl, h⟩ := hq
    refine x_st [.int r41] rfl ?_
    refine x_istore C [(5, .int r41), (0, .ref 202), (2, .long x.1), (4, .int x.2.1)] (Nat.le_of_ble_eq_true rfl) rfl dX2_tellJoined_55 ?_
    refine x_iload C 0 rfl dX2_tellJoined_57 ?_
    refine x_if_le (tgt := 72) C dX2_tellJoined_59 (by decide) (fun c42 => ?_) (fun c42 => ?_)
    · have h := h.1 c42
      refine x_lload_n C rfl 2 rfl dX2_tellJoined_72 ?_
      refine x_lstore_n C [(2, .long x.1), (5, .int r41), (0, .ref 202), (4, .int x.2.1)] rfl (Nat.le_of_ble_eq_true rfl) rfl dX2_tellJoined_73 ?_
      refine x_iinc (v := (x.2.1 + 1)) C [(4, .int (x.2.1 + 1)), (2, .long x.1), (5, .int r41), (0, .ref 202)] 3 rfl (congrArg (fun z => x.2.1 + z) (by decide : Int32.ofInt (1) = 1)) (Nat.le_of_ble_eq_true rfl) rfl dX2_tellJoined_74 ?_
      refine x_goto (tgt := 38) C dX2_tellJoined_77 (by decide) ?_
      refine x_sub [(0, .ref 202), (2, .long x.1), (4, .int (x.2.1 + 1))] [3, 1, 0] rfl ?_
      exact hK38 _ _ _ h
    · have h := h.2 c42
      refine x_lload_n C rfl 2 rfl dX2_tellJoined_62 ?_
      refine x_iload C 0 rfl dX2_tellJoined_63 ?_
      refine x_i2l C dX2_tellJoined_65 ?_
      refine x_callSN (dC := G11_leastMultiple_dep) (as := [.long x.1, .long (r41.toInt64)]) (st := []) C rX kX (Nat.le_trans (Nat.le_of_ble_eq_true rfl) hd) (Nat.le_of_ble_eq_true rfl) tw_4_144 tw_5_133 tc_4_145 tw_1_1 hyX11 hnX11_leastMultiple rfl (Nat.le_of_ble_eq_true rfl) dX2_tellJoined_66 (G11_leastMultiple_met C.2.2.2.2.2.2.2.1 (Nat.le_refl _)  h) (fun r0 μ43 hq => ?_)
      obtain ⟨r44, rfl, h⟩ := hq
      refine x_st [.long r44] rfl ?_
      refine x_goto (tgt := 73) C dX2_tellJoined_69 (by decide) ?_
      refine x_lstore_n C [(2, .long r44), (5, .int r41), (0, .ref 202), (4, .int x.2.1)] rfl (Nat.le_of_ble_eq_true rfl) rfl dX2_tellJoined_73 ?_
      refine x_iinc (v := (x.2.1 + 1)) C [(4, .int (x.2.1 + 1)), (2, .long r44), (5, .int r41), (0, .ref 202)] 3 rfl (congrArg (fun z => x.2.1 + z) (by decide : Int32.ofInt (1) = 1)) (Nat.le_of_ble_eq_true rfl) rfl dX2_tellJoined_74 ?_
      refine x_goto (tgt := 38) C dX2_tellJoined_77 (by decide) ?_
      refine x_sub [(0, .ref 202), (2, .long r44), (4, .int (x.2.1 + 1))] [3, 1, 0] rfl ?_
      exact hK38 _ _ _ h
theorem G2_tellJoined_L38_ok {p : Program} {e : Env} {s : State} {m : MethodId} {args : Array Value} {below : List Frame} {meth : Method} {c : Code} {l : Launch} {φ : Nat → Nat} {tc : Nat → ClassId} {D : va_G} {s0 : State} {dR : Nat} (C : CX p s m args meth c φ tc D (AX φ) s0 cX2_tellJoined RX2 12) (hd : G2_tellJoined_dep ≤ dR) (hr : meth.sig.returnType = (some .int))   {Q : Int32 → MM → Prop}  {x : Int64 × Int32 × MM}    (h : Lp (G2_tellJoined_L38  Q) x) : WX p l e (rmX dR) s m args below meth c φ tc D (AX φ) 12 0 0 (MQ below (QX φ tc D (QI Q)) args s 0 0 (AX φ)) 38 [(0, .ref 202), (2, .long x.1), (4, .int x.2.1)] [] x.2.2 := by
  obtain ⟨n, h⟩ := h
  induction n generalizing x with
  | zero => exact h.elim
  | succ n ih => exact G2_tellJoined_L38_b C hd hr   (fun z2 z4 zμ hz => by have q := ih hz; exact q) h
set_option maxHeartbeats 4000000 in
set_option maxRecDepth 100000 in
theorem G2_tellJoined_J30_ok {p : Program} {e : Env} {s : State} {m : MethodId} {args : Array Value} {below : List Frame} {meth : Method} {c : Code} {l : Launch} {φ : Nat → Nat} {tc : Nat → ClassId} {D : va_G} {s0 : State} {dR : Nat} (C : CX p s m args meth c φ tc D (AX φ) s0 cX2_tellJoined RX2 12) (hd : G2_tellJoined_dep ≤ dR) (hr : meth.sig.returnType = (some .int))   {q0 : Int32} {Q : Int32 → MM → Prop}  {μ : MM}    (h : G2_tellJoined_J30 q0 μ Q) : WX p l e (rmX dR) s m args below meth c φ tc D (AX φ) 12 0 0 (MQ below (QX φ tc D (QI Q)) args s 0 0 (AX φ)) 30 [(0, .ref 202)] [.int q0, .ref 202] μ := by
  unfold G2_tellJoined_J30 at h
  refine x_callV (dC := G2_gatherBy_dep) (as := [.int q0]) (st := []) C rX kX (Nat.le_trans (Nat.le_of_ble_eq_true rfl) hd) (Nat.le_of_ble_eq_true rfl) ob202.1 ob202.2 (Nat.le_of_ble_eq_true rfl) rfl ts_6_10 tw_5_127 tw_5_125 tc_5_128 tw_1_10 hyX2 hnX2_gatherBy rfl (Nat.le_of_ble_eq_true rfl) dX2_tellJoined_30 (G2_gatherBy_met C.2.2.2.2.2.2.2.1 (Nat.le_refl _)  h) (fun r0 μ24 hq => ?_)
  obtain ⟨rfl, h⟩ := hq
  refine x_st [] rfl ?_
  refine x_lconst (v := 1) C (by decide) dX2_tellJoined_33 ?_
  refine x_lstore_n C [(2, .long 1), (0, .ref 202)] rfl (Nat.le_of_ble_eq_true rfl) rfl dX2_tellJoined_34 ?_
  refine x_iconst (v := 0) C (by decide) dX2_tellJoined_35 ?_
  refine x_istore C [(4, .int 0), (2, .long 1), (0, .ref 202)] (Nat.le_of_ble_eq_true rfl) rfl dX2_tellJoined_36 ?_
  refine x_sub [(0, .ref 202), (2, .long 1), (4, .int 0)] [2, 1, 0] rfl ?_
  exact G2_tellJoined_L38_ok C hd hr  h
set_option maxHeartbeats 4000000 in
set_option maxRecDepth 100000 in
theorem G2_tellJoined_met {l : Launch} {φ : Nat → Nat} {tc : Nat → ClassId} {D : va_G} {s0 : State} (hG : GX φ tc D s0) {dR : Nat} (hd : G2_tellJoined_dep ≤ dR) {v1 : Int32} {μ : MM} {Q : Int32 → MM → Prop}  (h : G2_tellJoined v1 μ Q) : MX l φ tc D s0 dR yX2_tellJoined cX2_tellJoined 12 (some .int) [.ref 202, .int v1] μ (QI Q) := by
  refine MX.of (own := RX2) hG plX2 rfl (Nat.le_of_ble_eq_true rfl) (fun p e s m args below meth c C hr => ?_)
  refine x_sub [(0, .ref 202), (1, .int v1)] [0, 1] rfl ?_
  unfold G2_tellJoined at h
  refine x_iload_n C rfl 1 rfl dX2_tellJoined_0 ?_
  refine x_iconst (v := 0) C (by decide) dX2_tellJoined_1 ?_
  refine x_iconst (v := 2) C (by decide) dX2_tellJoined_2 ?_
  refine x_callSN (dC := G11_within_dep) (as := [.int v1, .int 0, .int 2]) (st := []) C rX kX (Nat.le_trans (Nat.le_of_ble_eq_true rfl) hd) (Nat.le_of_ble_eq_true rfl) tw_2_196 tw_5_103 tc_2_197 tw_1_1 hyX11 hnX11_within rfl (Nat.le_of_ble_eq_true rfl) dX2_tellJoined_3 (G11_within_met C.2.2.2.2.2.2.2.1 (Nat.le_refl _)  h) (fun r0 μ19 hq => ?_)
  obtain ⟨r20, rfl, h⟩ := hq
  refine x_st [.int r20] rfl ?_
  refine x_if_ne (tgt := 11) C dX2_tellJoined_6 (by decide) (fun c21 => ?_) (fun c21 => ?_)
  · have h := h.1 c21
    refine x_aload_n C rfl 0 rfl dX2_tellJoined_11 ?_
    refine x_iload_n C rfl 1 rfl dX2_tellJoined_12 ?_
    refine x_if_ne (tgt := 20) C dX2_tellJoined_13 (by decide) (fun c22 => ?_) (fun c22 => ?_)
    · have h := h.1 c22
      refine x_iload_n C rfl 1 rfl dX2_tellJoined_20 ?_
      refine x_iconst (v := 1) C (by decide) dX2_tellJoined_21 ?_
      refine x_icmp_ne (tgt := 29) C dX2_tellJoined_22 (by decide) (fun c23 => ?_) (fun c23 => ?_)
      · have h := h.1 c23
        refine x_iconst (v := 0) C (by decide) dX2_tellJoined_29 ?_
        refine x_sub [(0, .ref 202)] [0] rfl ?_
        exact G2_tellJoined_J30_ok C hd hr  h
      · have h := h.2 c23
        refine x_iconst (v := 2) C (by decide) dX2_tellJoined_25 ?_
        refine x_goto (tgt := 30) C dX2_tellJoined_26 (by decide) ?_
        refine x_sub [(0, .ref 202)] [0] rfl ?_
        exact G2_tellJoined_J30_ok C hd hr  h
    · have h := h.2 c22
      refine x_iconst (v := 1) C (by decide) dX2_tellJoined_16 ?_
      refine x_goto (tgt := 30) C dX2_tellJoined_17 (by decide) ?_
      refine x_sub [(0, .ref 202)] [0] rfl ?_
      exact G2_tellJoined_J30_ok C hd hr  h
  · have h := h.2 c21
    refine x_iconst (v := (-1)) C (by decide) dX2_tellJoined_9 ?_
    exact x_iret C hr dX2_tellJoined_10 ⟨_, rfl, h⟩
set_option maxHeartbeats 4000000 in
set_option maxRecDepth 100000 in
theorem G11_join_met {l : Launch} {φ : Nat → Nat} {tc : Nat → ClassId} {D : va_G} {s0 : State} (hG : GX φ tc D s0) {dR : Nat} (hd : G11_join_dep ≤ dR) {v1 : Int32} {μ : MM} {Q : Int32 → MM → Prop}  (h : G11_join v1 μ Q) : MX l φ tc D s0 dR yX11_join cX11_join 2 (some .int) [.ref 0, .int v1] μ (QI Q) := by
  refine MX.of (own := RX11) hG plX11 rfl (Nat.le_of_ble_eq_true rfl) (fun p e s m args below meth c C hr => ?_)
  refine x_sub [(0, .ref 0), (1, .int v1)] [0, 1] rfl ?_
  unfold G11_join at h
  refine x_aload_n C rfl 0 rfl dX11_join_0 ?_
  refine x_getR (r := 202) C (j := 4) ob0.1 ob0.2 (Nat.le_of_ble_eq_true rfl) (Nat.le_of_ble_eq_true rfl) (fun _ _ _ => rfl) r_0_4 tw_2_167 dX11_join_1 ?_
  refine x_iload_n C rfl 1 rfl dX11_join_4 ?_
  refine x_callVN (dC := G2_tellJoined_dep) (as := [.int v1]) (st := []) C rX kX (Nat.le_trans (Nat.le_of_ble_eq_true rfl) hd) (Nat.le_of_ble_eq_true rfl) ob202.1 ob202.2 (Nat.le_of_ble_eq_true rfl) rfl ts_6_13 tw_5_146 tw_5_144 tc_5_147 tw_1_10 hyX2 hnX2_tellJoined rfl (Nat.le_of_ble_eq_true rfl) dX11_join_5 (G2_tellJoined_met C.2.2.2.2.2.2.2.1 (Nat.le_refl _)  h) (fun r0 μ3 hq => ?_)
  obtain ⟨r4, rfl, h⟩ := hq
  refine x_st [.int r4] rfl ?_
  exact x_iret C hr dX11_join_8 ⟨_, rfl, h⟩
set_option maxHeartbeats 4000000 in
set_option maxRecDepth 100000 in
theorem G2_tellBounds_J117_ok {p : Program} {e : Env} {s : State} {m : MethodId} {args : Array Value} {below : List Frame} {meth : Method} {c : Code} {l : Launch} {φ : Nat → Nat} {tc : Nat → ClassId} {D : va_G} {s0 : State} {dR : Nat} (C : CX p s m args meth c φ tc D (AX φ) s0 cX2_tellBounds RX2 7) (hd : G2_tellBounds_dep ≤ dR) (hr : meth.sig.returnType = (some .int))   {p1 : Int32} {p2 : Int32} {p3 : Int32} {p5 : Int32} {q0 : Int32} {q1 : Int32} {Q : Int32 → MM → Prop} {K21 : Int32 × Int32 × Int32 × Int32 × MM → Prop} {μ : MM}   (hK21 : ∀ (z2 : Int32) (z3 : Int32) (z4 : Int32) (z5 : Int32) (zμ : MM), K21 (z2, z3, z4, z5, zμ) → WX p l e (rmX dR) s m args below meth c φ tc D (AX φ) 7 0 0 (MQ below (QX φ tc D (QI Q)) args s 0 0 (AX φ)) 21 [(0, .ref 202), (1, .int p1), (2, .int z2), (3, .int z3), (4, .int z4), (5, .int z5)] [] zμ) (h : G2_tellBounds_J117 p1 p2 p3 p5 q0 q1 μ K21 Q) : WX p l e (rmX dR) s m args below meth c φ tc D (AX φ) 7 0 0 (MQ below (QX φ tc D (QI Q)) args s 0 0 (AX φ)) 117 [(0, .ref 202), (1, .int p1), (2, .int p2), (3, .int p3), (5, .int p5)] [.int q0, .int q1] μ := by
  unfold G2_tellBounds_J117 at h
  refine x_iadd C dX2_tellBounds_117 ?_
  refine x_topi (fun y27 e_y27 => ?_)
  have h := h y27 e_y27
  refine x_istore C [(4, .int y27), (0, .ref 202), (1, .int p1), (2, .int p2), (3, .int p3), (5, .int p5)] (Nat.le_of_ble_eq_true rfl) rfl dX2_tellBounds_118 ?_
  refine x_iinc (v := (p5 + 1)) C [(5, .int (p5 + 1)), (4, .int y27), (0, .ref 202), (1, .int p1), (2, .int p2), (3, .int p3)] 5 rfl (congrArg (fun z => p5 + z) (by decide : Int32.ofInt (1) = 1)) (Nat.le_of_ble_eq_true rfl) rfl dX2_tellBounds_120 ?_
  refine x_goto (tgt := 21) C dX2_tellBounds_123 (by decide) ?_
  refine x_sub [(0, .ref 202), (1, .int p1), (2, .int p2), (3, .int p3), (4, .int y27), (5, .int (p5 + 1))] [2, 3, 4, 5, 1, 0] rfl ?_
  exact hK21 _ _ _ _ _ h
set_option maxHeartbeats 4000000 in
set_option maxRecDepth 100000 in
theorem G2_tellBounds_J116_ok {p : Program} {e : Env} {s : State} {m : MethodId} {args : Array Value} {below : List Frame} {meth : Method} {c : Code} {l : Launch} {φ : Nat → Nat} {tc : Nat → ClassId} {D : va_G} {s0 : State} {dR : Nat} (C : CX p s m args meth c φ tc D (AX φ) s0 cX2_tellBounds RX2 7) (hd : G2_tellBounds_dep ≤ dR) (hr : meth.sig.returnType = (some .int))   {p1 : Int32} {p2 : Int32} {p3 : Int32} {p5 : Int32} {q0 : Int32} {Q : Int32 → MM → Prop} {K21 : Int32 × Int32 × Int32 × Int32 × MM → Prop} {μ : MM}   (hK21 : ∀ (z2 : Int32) (z3 : Int32) (z4 : Int32) (z5 : Int32) (zμ : MM), K21 (z2, z3, z4, z5, zμ) → WX p l e (rmX dR) s m args below meth c φ tc D (AX φ) 7 0 0 (MQ below (QX φ tc D (QI Q)) args s 0 0 (AX φ)) 21 [(0, .ref 202), (1, .int p1), (2, .int z2), (3, .int z3), (4, .int z4), (5, .int z5)] [] zμ) (h : G2_tellBounds_J116 p1 p2 p3 p5 q0 μ K21 Q) : WX p l e (rmX dR) s m args below meth c φ tc D (AX φ) 7 0 0 (MQ below (QX φ tc D (QI Q)) args s 0 0 (AX φ)) 116 [(0, .ref 202), (1, .int p1), (2, .int p2), (3, .int p3), (5, .int p5)] [.int q0] μ := by
  unfold G2_tellBounds_J116 at h
  refine x_iconst (v := 0) C (by decide) dX2_tellBounds_116 ?_
  exact G2_tellBounds_J117_ok C hd hr hK21 h
set_option maxHeartbeats 4000000 in
set_option maxRecDepth 100000 in
theorem G2_tellBounds_J92_ok {p : Program} {e : Env} {s : State} {m : MethodId} {args : Array Value} {below : List Frame} {meth : Method} {c : Code} {l : Launch} {φ : Nat → Nat} {tc : Nat → ClassId} {D : va_G} {s0 : State} {dR : Nat} (C : CX p s m args meth c φ tc D (AX φ) s0 cX2_tellBounds RX2 7) (hd : G2_tellBounds_dep ≤ dR) (hr : meth.sig.returnType = (some .int))   {p1 : Int32} {p2 : Int32} {p4 : Int32} {p5 : Int32} {p6 : Nat} {q0 : Int32} {q1 : Int32} {Q : Int32 → MM → Prop} {K21 : Int32 × Int32 × Int32 × Int32 × MM → Prop} {μ : MM}  (o_p6 : Ob p6 5) (hK21 : ∀ (z2 : Int32) (z3 : Int32) (z4 : Int32) (z5 : Int32) (zμ : MM), K21 (z2, z3, z4, z5, zμ) → WX p l e (rmX dR) s m args below meth c φ tc D (AX φ) 7 0 0 (MQ below (QX φ tc D (QI Q)) args s 0 0 (AX φ)) 21 [(0, .ref 202), (1, .int p1), (2, .int z2), (3, .int z3), (4, .int z4), (5, .int z5)] [] zμ) (h : G2_tellBounds_J92 p1 p2 p4 p5 p6 q0 q1 μ K21 Q) : WX p l e (rmX dR) s m args below meth c φ tc D (AX φ) 7 0 0 (MQ below (QX φ tc D (QI Q)) args s 0 0 (AX φ)) 92 [(0, .ref 202), (1, .int p1), (2, .int p2), (4, .int p4), (5, .int p5), (6, .ref p6)] [.int q0, .int q1] μ := by
  unfold G2_tellBounds_J92 at h
  refine x_iadd C dX2_tellBounds_92 ?_
  refine x_topi (fun y25 e_y25 => ?_)
  have h := h y25 e_y25
  refine x_istore_n C [(3, .int y25), (0, .ref 202), (1, .int p1), (2, .int p2), (4, .int p4), (5, .int p5), (6, .ref p6)] rfl (Nat.le_of_ble_eq_true rfl) rfl dX2_tellBounds_93 ?_
  refine x_iload C 4 rfl dX2_tellBounds_94 ?_
  refine x_aload C 6 rfl dX2_tellBounds_96 ?_
  refine x_getIN C (j := 7) o_p6.1 o_p6.2 (Nat.le_of_ble_eq_true rfl) (Nat.le_of_ble_eq_true rfl) (Or.inr rfl) tw_1_78 dX2_tellBounds_98 ?_
  refine x_if_eq (tgt := 116) C dX2_tellBounds_101 (by decide) (fun c26 => ?_) (fun c26 => ?_)
  · have h := h.1 c26
    refine x_sub [(0, .ref 202), (1, .int p1), (2, .int p2), (3, .int y25), (5, .int p5)] [1, 2, 3, 0, 5] rfl ?_
    exact G2_tellBounds_J116_ok C hd hr hK21 h
  · have h := h.2 c26
    refine x_aload C 6 rfl dX2_tellBounds_104 ?_
    refine x_getIN C (j := 8) o_p6.1 o_p6.2 (Nat.le_of_ble_eq_true rfl) (Nat.le_of_ble_eq_true rfl) (Or.inl rfl) tw_1_82 dX2_tellBounds_106 ?_
    refine x_if_ne (tgt := 116) C dX2_tellBounds_109 (by decide) (fun c28 => ?_) (fun c28 => ?_)
    · have h := h.1 c28
      refine x_sub [(0, .ref 202), (1, .int p1), (2, .int p2), (3, .int y25), (5, .int p5)] [1, 2, 3, 0, 5] rfl ?_
      exact G2_tellBounds_J116_ok C hd hr hK21 h
    · have h := h.2 c28
      refine x_iconst (v := 1) C (by decide) dX2_tellBounds_112 ?_
      refine x_goto (tgt := 117) C dX2_tellBounds_113 (by decide) ?_
      refine x_sub [(0, .ref 202), (1, .int p1), (2, .int p2), (3, .int y25), (5, .int p5)] [1, 2, 3, 0, 5] rfl ?_
      exact G2_tellBounds_J117_ok C hd hr hK21 h
set_option maxHeartbeats 4000000 in
set_option maxRecDepth 100000 in
theorem G2_tellBounds_J91_ok {p : Program} {e : Env} {s : State} {m : MethodId} {args : Array Value} {below : List Frame} {meth : Method} {c : Code} {l : Launch} {φ : Nat → Nat} {tc : Nat → ClassId} {D : va_G} {s0 : State} {dR : Nat} (C : CX p s m args meth c φ tc D (AX φ) s0 cX2_tellBounds RX2 7) (hd : G2_tellBounds_dep ≤ dR) (hr : meth.sig.returnType = (some .int))   {p1 : Int32} {p2 : Int32} {p4 : Int32} {p5 : Int32} {p6 : Nat} {q0 : Int32} {Q : Int32 → MM → Prop} {K21 : Int32 × Int32 × Int32 × Int32 × MM → Prop} {μ : MM}  (o_p6 : Ob p6 5) (hK21 : ∀ (z2 : Int32) (z3 : Int32) (z4 : Int32) (z5 : Int32) (zμ : MM), K21 (z2, z3, z4, z5, zμ) → WX p l e (rmX dR) s m args below meth c φ tc D (AX φ) 7 0 0 (MQ below (QX φ tc D (QI Q)) args s 0 0 (AX φ)) 21 [(0, .ref 202), (1, .int p1), (2, .int z2), (3, .int z3), (4, .int z4), (5, .int z5)] [] zμ) (h : G2_tellBounds_J91 p1 p2 p4 p5 p6 q0 μ K21 Q) : WX p l e (rmX dR) s m args below meth c φ tc D (AX φ) 7 0 0 (MQ below (QX φ tc D (QI Q)) args s 0 0 (AX φ)) 91 [(0, .ref 202), (1, .int p1), (2, .int p2), (4, .int p4), (5, .int p5), (6, .ref p6)] [.int q0] μ := by
  unfold G2_tellBounds_J91 at h
  refine x_iconst (v := 0) C (by decide) dX2_tellBounds_91 ?_
  exact G2_tellBounds_J92_ok C hd hr o_p6 hK21 h
set_option maxHeartbeats 4000000 in
set_option maxRecDepth 100000 in
theorem G2_tellBounds_L21_b {p : Program} {e : Env} {s : State} {m : MethodId} {args : Array Value} {below : List Frame} {meth : Method} {c : Code} {l : Launch} {φ : Nat → Nat} {tc : Nat → ClassId} {D : va_G} {s0 : State} {dR : Nat} (C : CX p s m args meth c φ tc D (AX φ) s0 cX2_tellBounds RX2 7) (hd : G2_tellBounds_dep ≤ dR) (hr : meth.sig.returnType = (some .int))  {p1 : Int32} {Q : Int32 → MM → Prop} {K21 : Int32 × Int32 × Int32 × Int32 × MM → Prop} {x : Int32 × Int32 × Int32 × Int32 × MM}   (hK21 : ∀ (z2 : Int32) (z3 : Int32) (z4 : Int32) (z5 : Int32) (zμ : MM), K21 (z2, z3, z4, z5, zμ) → WX p l e (rmX dR) s m args below meth c φ tc D (AX φ) 7 0 0 (MQ below (QX φ tc D (QI Q)) args s 0 0 (AX φ)) 21 [(0, .ref 202), (1, .int p1), (2, .int z2), (3, .int z3), (4, .int z4), (5, .int z5)] [] zμ) (h : G2_tellBounds_L21 p1 Q K21 x) : WX p l e (rmX dR) s m args below meth c φ tc D (AX φ) 7 0 0 (MQ below (QX φ tc D (QI Q)) args s 0 0 (AX φ)) 21 [(0, .ref 202), (1, .int p1), (2, .int x.1), (3, .int x.2.1), (4, .int x.2.2.1), (5, .int x.2.2.2.1)] [] x.2.2.2.2 := by
  unfold G2_tellBounds_L21 at h
  refine x_iload C 5 rfl dX2_tellBounds_21 ?_
  refine x_aload_n C rfl 0 rfl dX2_tellBounds_23 ?_
  refine x_getR (r := 1) C (j := 0) ob202.1 ob202.2 (Nat.le_of_ble_eq_true rfl) (Nat.le_of_ble_eq_true rfl) (fun _ _ _ => rfl) r_202_0 tw_2_92 dX2_tellBounds_24 ?_
  refine x_getIN C (j := 10) ob1.1 ob1.2 (Nat.le_of_ble_eq_true rfl) (Nat.le_of_ble_eq_true rfl) (Or.inl rfl) tw_1_152 dX2_tellBounds_27 ?_
  refine x_icmp_ge (tgt := 126) C dX2_tellBounds_30 (by decide) (fun c14 => ?_) (fun c14 => ?_)
  · have h := h.1 c14
    refine x_iload_n C rfl 2 rfl dX2_tellBounds_126 ?_
    refine x_if_ne (tgt := 133) C dX2_tellBounds_127 (by decide) (fun c15 => ?_) (fun c15 => ?_)
    · have h := h.1 c15
      refine x_aload_n C rfl 0 rfl dX2_tellBounds_133 ?_
      refine x_getR (r := 151) C (j := 1) ob202.1 ob202.2 (Nat.le_of_ble_eq_true rfl) (Nat.le_of_ble_eq_true rfl) (fun _ _ _ => rfl) r_202_1 tw_2_93 dX2_tellBounds_134 ?_
      refine x_callVN (dC := G7_clear_dep) (as := []) (st := []) C rX kX (Nat.le_trans (Nat.le_of_ble_eq_true rfl) hd) (Nat.le_of_ble_eq_true rfl) ob151.1 ob151.2 (Nat.le_of_ble_eq_true rfl) rfl ts_3_8 tw_4_48 tw_5_112 tc_4_49 tw_1_5 hyX7 hnX7_clear rfl (Nat.le_of_ble_eq_true rfl) dX2_tellBounds_137 (G7_clear_met C.2.2.2.2.2.2.2.1 (Nat.le_refl _)  h) (fun r0 μ16 hq => ?_)
      obtain ⟨rfl, h⟩ := hq
      refine x_st [] rfl ?_
      refine x_aload_n C rfl 0 rfl dX2_tellBounds_140 ?_
      refine x_getR (r := 151) C (j := 1) ob202.1 ob202.2 (Nat.le_of_ble_eq_true rfl) (Nat.le_of_ble_eq_true rfl) (fun _ _ _ => rfl) r_202_1 tw_2_93 dX2_tellBounds_141 ?_
      refine x_iload_n C rfl 3 rfl dX2_tellBounds_144 ?_
      refine x_i2l C dX2_tellBounds_145 ?_
      refine x_iload_n C rfl 2 rfl dX2_tellBounds_146 ?_
      refine x_i2l C dX2_tellBounds_147 ?_
      refine x_callVN (dC := G7_addFraction_dep) (as := [.long (x.2.1.toInt64), .long (x.1.toInt64)]) (st := []) C rX kX (Nat.le_trans (Nat.le_of_ble_eq_true rfl) hd) (Nat.le_of_ble_eq_true rfl) ob151.1 ob151.2 (Nat.le_of_ble_eq_true rfl) rfl ts_3_10 tw_4_56 tw_5_116 tc_4_57 tw_1_5 hyX7 hnX7_addFraction rfl (Nat.le_of_ble_eq_true rfl) dX2_tellBounds_148 (G7_addFraction_met C.2.2.2.2.2.2.2.1 (Nat.le_refl _)  h) (fun r0 μ17 hq => ?_)
      obtain ⟨rfl, h⟩ := hq
      refine x_st [] rfl ?_
      refine x_aload_n C rfl 0 rfl dX2_tellBounds_151 ?_
      refine x_getR (r := 151) C (j := 1) ob202.1 ob202.2 (Nat.le_of_ble_eq_true rfl) (Nat.le_of_ble_eq_true rfl) (fun _ _ _ => rfl) r_202_1 tw_2_93 dX2_tellBounds_152 ?_
      refine x_iload_n C rfl 3 rfl dX2_tellBounds_155 ?_
      refine x_iload C 4 rfl dX2_tellBounds_156 ?_
      refine x_iadd C dX2_tellBounds_158 ?_
      refine x_i2l C dX2_tellBounds_159 ?_
      refine x_iload_n C rfl 2 rfl dX2_tellBounds_160 ?_
      refine x_i2l C dX2_tellBounds_161 ?_
      refine x_callVN (dC := G7_addFraction_dep) (as := [.long ((x.2.1 + x.2.2.1).toInt64), .long (x.1.toInt64)]) (st := []) C rX kX (Nat.le_trans (Nat.le_of_ble_eq_true rfl) hd) (Nat.le_of_ble_eq_true rfl) ob151.1 ob151.2 (Nat.le_of_ble_eq_true rfl) rfl ts_3_10 tw_4_56 tw_5_116 tc_4_57 tw_1_5 hyX7 hnX7_addFraction rfl (Nat.le_of_ble_eq_true rfl) dX2_tellBounds_162 (G7_addFraction_met C.2.2.2.2.2.2.2.1 (Nat.le_refl _)  h) (fun r0 μ18 hq => ?_)
      obtain ⟨rfl, h⟩ := hq
      refine x_st [] rfl ?_
      refine x_iload C 4 rfl dX2_tellBounds_165 ?_
      exact x_iret C hr dX2_tellBounds_167 ⟨_, rfl, h⟩
    · have h := h.2 c15
      refine x_bipush (v := (-2)) C (by decide) dX2_tellBounds_130 ?_
      exact x_iret C hr dX2_tellBounds_132 ⟨_, rfl, h⟩
  · have h := h.2 c14
    refine x_aload_n C rfl 0 rfl dX2_tellBounds_33 ?_
    refine x_getR (r := 1) C (j := 0) ob202.1 ob202.2 (Nat.le_of_ble_eq_true rfl) (Nat.le_of_ble_eq_true rfl) (fun _ _ _ => rfl) r_202_0 tw_2_92 dX2_tellBounds_34 ?_
    refine x_getRN (r := 9) C (j := 9) ob1.1 ob1.2 (Nat.le_of_ble_eq_true rfl) (Nat.le_of_ble_eq_true rfl) (fun _ _ _ => rfl) r_1_9 tw_1_147 dX2_tellBounds_37 ?_
    refine x_iload C 5 rfl dX2_tellBounds_40 ?_
    obtain ⟨c19, h⟩ := h
    refine x_aald (r := (19 + x.2.2.2.1.toNatClampNeg)) C ob9.1 (by decide) (by decide) c19 rfl (rA9 c19) dX2_tellBounds_42 ?_
    refine x_astore C [(6, .ref (19 + x.2.2.2.1.toNatClampNeg)), (0, .ref 202), (1, .int p1), (2, .int x.1), (3, .int x.2.1), (4, .int x.2.2.1), (5, .int x.2.2.2.1)] (Nat.le_of_ble_eq_true rfl) rfl dX2_tellBounds_43 ?_
    refine x_aload C 0 rfl dX2_tellBounds_45 ?_
    refine x_getIN C (j := 6) (obA9 c19).1 (obA9 c19).2 (Nat.le_of_ble_eq_true rfl) (Nat.le_of_ble_eq_true rfl) (Or.inr rfl) tw_1_71 dX2_tellBounds_47 ?_
    refine x_if_eq (tgt := 120) C dX2_tellBounds_50 (by decide) (fun c20 => ?_) (fun c20 => ?_)
    · have h := h.1 c20
      refine x_iinc (v := (x.2.2.2.1 + 1)) C [(5, .int (x.2.2.2.1 + 1)), (6, .ref (19 + x.2.2.2.1.toNatClampNeg)), (0, .ref 202), (1, .int p1), (2, .int x.1), (3, .int x.2.1), (4, .int x.2.2.1)] 6 rfl (congrArg (fun z => x.2.2.2.1 + z) (by decide : Int32.ofInt (1) = 1)) (Nat.le_of_ble_eq_true rfl) rfl dX2_tellBounds_120 ?_
      refine x_goto (tgt := 21) C dX2_tellBounds_123 (by decide) ?_
      refine x_sub [(0, .ref 202), (1, .int p1), (2, .int x.1), (3, .int x.2.1), (4, .int x.2.2.1), (5, .int (x.2.2.2.1 + 1))] [2, 3, 4, 5, 6, 0] rfl ?_
      exact hK21 _ _ _ _ _ h
    · have h := h.2 c20
      refine x_aload_n C rfl 1 rfl dX2_tellBounds_53 ?_
      refine x_getR (r := 1) C (j := 0) ob202.1 ob202.2 (Nat.le_of_ble_eq_true rfl) (Nat.le_of_ble_eq_true rfl) (fun _ _ _ => rfl) r_202_0 tw_2_92 dX2_tellBounds_54 ?_
      refine x_aload C 0 rfl dX2_tellBounds_57 ?_
      refine x_callVN (dC := G10_peopleOf_dep) (as := [.ref (19 + x.2.2.2.1.toNatClampNeg)]) (st := []) C rX kX (Nat.le_trans (Nat.le_of_ble_eq_true rfl) hd) (Nat.le_of_ble_eq_true rfl) ob1.1 ob1.2 (Nat.le_of_ble_eq_true rfl) rfl ts_3_6 tw_4_40 tw_5_109 tc_4_41 tw_1_2 hyX10 hnX10_peopleOf rfl (Nat.le_of_ble_eq_true rfl) dX2_tellBounds_59 (G10_peopleOf_met C.2.2.2.2.2.2.2.1 (Nat.le_refl _) (obA9 c19) h) (fun r0 μ21 hq => ?_)
      obtain ⟨r22, rfl, h⟩ := hq
      refine x_st [.int r22] rfl ?_
      refine x_iload_n C rfl 2 rfl dX2_tellBounds_62 ?_
      refine x_icmp_ne (tgt := 120) C dX2_tellBounds_63 (by decide) (fun c23 => ?_) (fun c23 => ?_)
      · have h := h.1 c23
        refine x_iinc (v := (x.2.2.2.1 + 1)) C [(5, .int (x.2.2.2.1 + 1)), (6, .ref (19 + x.2.2.2.1.toNatClampNeg)), (0, .ref 202), (1, .int p1), (2, .int x.1), (3, .int x.2.1), (4, .int x.2.2.1)] 6 rfl (congrArg (fun z => x.2.2.2.1 + z) (by decide : Int32.ofInt (1) = 1)) (Nat.le_of_ble_eq_true rfl) rfl dX2_tellBounds_120 ?_
        refine x_goto (tgt := 21) C dX2_tellBounds_123 (by decide) ?_
        refine x_sub [(0, .ref 202), (1, .int p1), (2, .int x.1), (3, .int x.2.1), (4, .int x.2.2.1), (5, .int (x.2.2.2.1 + 1))] [2, 3, 4, 5, 6, 0] rfl ?_
        exact hK21 _ _ _ _ _ h
      · have h := h.2 c23
        refine x_iinc (v := (x.1 + 1)) C [(2, .int (x.1 + 1)), (6, .ref (19 + x.2.2.2.1.toNatClampNeg)), (0, .ref 202), (1, .int p1), (3, .int x.2.1), (4, .int x.2.2.1), (5, .int x.2.2.2.1)] 3 rfl (congrArg (fun z => x.1 + z) (by decide : Int32.ofInt (1) = 1)) (Nat.le_of_ble_eq_true rfl) rfl dX2_tellBounds_66 ?_
        refine x_iload_n C rfl 4 rfl dX2_tellBounds_69 ?_
        refine x_aload C 1 rfl dX2_tellBounds_70 ?_
        refine x_getIN C (j := 7) (obA9 c19).1 (obA9 c19).2 (Nat.le_of_ble_eq_true rfl) (Nat.le_of_ble_eq_true rfl) (Or.inr rfl) tw_1_78 dX2_tellBounds_72 ?_
        refine x_if_eq (tgt := 91) C dX2_tellBounds_75 (by decide) (fun c24 => ?_) (fun c24 => ?_)
        · have h := h.1 c24
          refine x_sub [(0, .ref 202), (1, .int p1), (2, .int (x.1 + 1)), (4, .int x.2.2.1), (5, .int x.2.2.2.1), (6, .ref (19 + x.2.2.2.1.toNatClampNeg))] [2, 3, 0, 5, 6, 1] rfl ?_
          exact G2_tellBounds_J91_ok C hd hr (obA9 c19) hK21 h
        · have h := h.2 c24
          refine x_aload C 1 rfl dX2_tellBounds_78 ?_
          refine x_getIN C (j := 8) (obA9 c19).1 (obA9 c19).2 (Nat.le_of_ble_eq_true rfl) (Nat.le_of_ble_eq_true rfl) (Or.inl rfl) tw_1_82 dX2_tellBounds_80 ?_
          refine x_iconst (v := 1) C (by decide) dX2_tellBounds_83 ?_
          refine x_icmp_ne (tgt := 91) C dX2_tellBounds_84 (by decide) (fun c29 => ?_) (fun c29 => ?_)
          · have h := h.1 c29
            refine x_sub [(0, .ref 202), (1, .int p1), (2, .int (x.1 + 1)), (4, .int x.2.2.1), (5, .int x.2.2.2.1), (6, .ref (19 + x.2.2.2.1.toNatClampNeg))] [2, 3, 0, 5, 6, 1] rfl ?_
            exact G2_tellBounds_J91_ok C hd hr (obA9 c19) hK21 h
          · have h := h.2 c29
            refine x_iconst (v := 1) C (by decide) dX2_tellBounds_87 ?_
            refine x_goto (tgt := 92) C dX2_tellBounds_88 (by decide) ?_
            refine x_sub [(0, .ref 202), (1, .int p1), (2, .int (x.1 + 1)), (4, .int x.2.2.1), (5, .int x.2.2.2.1), (6, .ref (19 + x.2.2.2.1.toNatClampNeg))] [2, 3, 0, 5, 6, 1] rfl ?_
            exact G2_tellBounds_J92_ok C hd hr (obA9 c19) hK21 h
theorem G2_tellBounds_L21_ok {p : Program} {e : Env} {s : State} {m : MethodId} {args : Array Value} {below : List Frame} {meth : Method} {c : Code} {l : Launch} {φ : Nat → Nat} {tc : Nat → ClassId} {D : va_G} {s0 : State} {dR : Nat} (C : CX p s m args meth c φ tc D (AX φ) s0 cX2_tellBounds RX2 7) (hd : G2_tellBounds_dep ≤ dR) (hr : meth.sig.returnType = (some .int))  {p1 : Int32} {Q : Int32 → MM → Prop}  {x : Int32 × Int32 × Int32 × Int32 × MM}    (h : Lp (G2_tellBounds_L21 p1 Q) x) : WX p l e (rmX dR) s m args below meth c φ tc D (AX φ) 7 0 0 (MQ below (QX φ tc D (QI Q)) args s 0 0 (AX φ)) 21 [(0, .ref 202), (1, .int p1), (2, .int x.1), (3, .int x.2.1), (4, .int x.2.2.1), (5, .int x.2.2.2.1)] [] x.2.2.2.2 := by
  obtain ⟨n, h⟩ := h
  induction n generalizing x with
  | zero => exact h.elim
  | succ n ih => exact G2_tellBounds_L21_b C hd hr   (fun z2 z3 z4 z5 zμ hz => by have q := ih hz; exact q) h
set_option maxHeartbeats 4000000 in
set_option maxRecDepth 100000 in
theorem G2_tellBounds_met {l : Launch} {φ : Nat → Nat} {tc : Nat → ClassId} {D : va_G} {s0 : State} (hG : GX φ tc D s0) {dR : Nat} (hd : G2_tellBounds_dep ≤ dR) {v1 : Int32} {μ : MM} {Q : Int32 → MM → Prop}  (h : G2_tellBounds v1 μ Q) : MX l φ tc D s0 dR yX2_tellBounds cX2_tellBounds 7 (some .int) [.ref 202, .int v1] μ (QI Q) := by
  refine MX.of (own := RX2) hG plX2 rfl (Nat.le_of_ble_eq_true rfl) (fun p e s m args below meth c C hr => ?_)
  refine x_sub [(0, .ref 202), (1, .int v1)] [0, 1] rfl ?_
  unfold G2_tellBounds at h
  refine x_iload_n C rfl 1 rfl dX2_tellBounds_0 ?_
  refine x_iconst (v := 0) C (by decide) dX2_tellBounds_1 ?_
  refine x_iconst (v := 1) C (by decide) dX2_tellBounds_2 ?_
  refine x_callSN (dC := G11_within_dep) (as := [.int v1, .int 0, .int 1]) (st := []) C rX kX (Nat.le_trans (Nat.le_of_ble_eq_true rfl) hd) (Nat.le_of_ble_eq_true rfl) tw_2_196 tw_5_103 tc_2_197 tw_1_1 hyX11 hnX11_within rfl (Nat.le_of_ble_eq_true rfl) dX2_tellBounds_3 (G11_within_met C.2.2.2.2.2.2.2.1 (Nat.le_refl _)  h) (fun r0 μ11 hq => ?_)
  obtain ⟨r12, rfl, h⟩ := hq
  refine x_st [.int r12] rfl ?_
  refine x_if_ne (tgt := 11) C dX2_tellBounds_6 (by decide) (fun c13 => ?_) (fun c13 => ?_)
  · have h := h.1 c13
    refine x_iconst (v := 0) C (by decide) dX2_tellBounds_11 ?_
    refine x_istore_n C [(2, .int 0), (0, .ref 202), (1, .int v1)] rfl (Nat.le_of_ble_eq_true rfl) rfl dX2_tellBounds_12 ?_
    refine x_iconst (v := 0) C (by decide) dX2_tellBounds_13 ?_
    refine x_istore_n C [(3, .int 0), (2, .int 0), (0, .ref 202), (1, .int v1)] rfl (Nat.le_of_ble_eq_true rfl) rfl dX2_tellBounds_14 ?_
    refine x_iconst (v := 0) C (by decide) dX2_tellBounds_15 ?_
    refine x_istore C [(4, .int 0), (3, .int 0), (2, .int 0), (0, .ref 202), (1, .int v1)] (Nat.le_of_ble_eq_true rfl) rfl dX2_tellBounds_16 ?_
    refine x_iconst (v := 0) C (by decide) dX2_tellBounds_18 ?_
    refine x_istore C [(5, .int 0), (4, .int 0), (3, .int 0), (2, .int 0), (0, .ref 202), (1, .int v1)] (Nat.le_of_ble_eq_true rfl) rfl dX2_tellBounds_19 ?_
    refine x_sub [(0, .ref 202), (1, .int v1), (2, .int 0), (3, .int 0), (4, .int 0), (5, .int 0)] [4, 5, 3, 2, 1, 0] rfl ?_
    exact G2_tellBounds_L21_ok C hd hr  h
  · have h := h.2 c13
    refine x_iconst (v := (-1)) C (by decide) dX2_tellBounds_9 ?_
    exact x_iret C hr dX2_tellBounds_10 ⟨_, rfl, h⟩
set_option maxHeartbeats 4000000 in
set_option maxRecDepth 100000 in
theorem G11_bounds_met {l : Launch} {φ : Nat → Nat} {tc : Nat → ClassId} {D : va_G} {s0 : State} (hG : GX φ tc D s0) {dR : Nat} (hd : G11_bounds_dep ≤ dR) {v1 : Int32} {μ : MM} {Q : Int32 → MM → Prop}  (h : G11_bounds v1 μ Q) : MX l φ tc D s0 dR yX11_bounds cX11_bounds 2 (some .int) [.ref 0, .int v1] μ (QI Q) := by
  refine MX.of (own := RX11) hG plX11 rfl (Nat.le_of_ble_eq_true rfl) (fun p e s m args below meth c C hr => ?_)
  refine x_sub [(0, .ref 0), (1, .int v1)] [0, 1] rfl ?_
  unfold G11_bounds at h
  refine x_aload_n C rfl 0 rfl dX11_bounds_0 ?_
  refine x_getR (r := 202) C (j := 4) ob0.1 ob0.2 (Nat.le_of_ble_eq_true rfl) (Nat.le_of_ble_eq_true rfl) (fun _ _ _ => rfl) r_0_4 tw_2_167 dX11_bounds_1 ?_
  refine x_iload_n C rfl 1 rfl dX11_bounds_4 ?_
  refine x_callVN (dC := G2_tellBounds_dep) (as := [.int v1]) (st := []) C rX kX (Nat.le_trans (Nat.le_of_ble_eq_true rfl) hd) (Nat.le_of_ble_eq_true rfl) ob202.1 ob202.2 (Nat.le_of_ble_eq_true rfl) rfl ts_6_14 tw_5_154 tw_5_152 tc_5_155 tw_1_10 hyX2 hnX2_tellBounds rfl (Nat.le_of_ble_eq_true rfl) dX11_bounds_5 (G2_tellBounds_met C.2.2.2.2.2.2.2.1 (Nat.le_refl _)  h) (fun r0 μ3 hq => ?_)
  obtain ⟨r4, rfl, h⟩ := hq
  refine x_st [.int r4] rfl ?_
  exact x_iret C hr dX11_bounds_8 ⟨_, rfl, h⟩
set_option maxHeartbeats 4000000 in
set_option maxRecDepth 100000 in
theorem G2_tellYears_L32_b {p : Program} {e : Env} {s : State} {m : MethodId} {args : Array Value} {below : List Frame} {meth : Method} {c : Code} {l : Launch} {φ : Nat → Nat} {tc : Nat → ClassId} {D : va_G} {s0 : State} {dR : Nat} (C : CX p s m args meth c φ tc D (AX φ) s0 cX2_tellYears RX2 4) (hd : G2_tellYears_dep ≤ dR) (hr : meth.sig.returnType = (some .int))  {p1 : Int32} {Q : Int32 → MM → Prop} {K32 : Int32 × MM → Prop} {x : Int32 × MM}   (hK32 : ∀ (z3 : Int32) (zμ : MM), K32 (z3, zμ) → WX p l e (rmX dR) s m args below meth c φ tc D (AX φ) 4 0 0 (MQ below (QX φ tc D (QI Q)) args s 0 0 (AX φ)) 32 [(0, .ref 202), (1, .int p1), (2, .ref 207), (3, .int z3)] [] zμ) (h : G2_tellYears_L32 p1 Q K32 x) : WX p l e (rmX dR) s m args below meth c φ tc D (AX φ) 4 0 0 (MQ below (QX φ tc D (QI Q)) args s 0 0 (AX φ)) 32 [(0, .ref 202), (1, .int p1), (2, .ref 207), (3, .int x.1)] [] x.2 := by
  unfold G2_tellYears_L32 at h
  refine x_iload_n C rfl 1 rfl dX2_tellYears_32 ?_
  refine x_iload_n C rfl 3 rfl dX2_tellYears_33 ?_
  refine x_iadd C dX2_tellYears_34 ?_
  refine x_bipush (v := 99) C (by decide) dX2_tellYears_35 ?_
  refine x_icmp_gt (tgt := 142) C dX2_tellYears_37 (by decide) (fun c11 => ?_) (fun c11 => ?_)
  · have h := h.1 c11
    refine x_bipush (v := (-2)) C (by decide) dX2_tellYears_142 ?_
    exact x_iret C hr dX2_tellYears_144 ⟨_, rfl, h⟩
  · have h := h.2 c11
    refine x_aload_n C rfl 0 rfl dX2_tellYears_40 ?_
    refine x_getR (r := 203) C (j := 2) ob202.1 ob202.2 (Nat.le_of_ble_eq_true rfl) (Nat.le_of_ble_eq_true rfl) (fun _ _ _ => rfl) r_202_2 tw_2_94 dX2_tellYears_41 ?_
    refine x_getRN (r := 204) C (j := 0) ob203.1 ob203.2 (Nat.le_of_ble_eq_true rfl) (Nat.le_of_ble_eq_true rfl) (fun _ _ _ => rfl) r_203_0 tw_1_234 dX2_tellYears_44 ?_
    refine x_iconst (v := 0) C (by decide) dX2_tellYears_47 ?_
    refine x_iald C ob204.1 ob204.2 (by unfold vp_in; decide) (j := 0) (by decide) dX2_tellYears_48 ?_
    refine x_if_le (tgt := 142) C dX2_tellYears_49 (by decide) (fun c12 => ?_) (fun c12 => ?_)
    · have h := h.1 c12
      refine x_bipush (v := (-2)) C (by decide) dX2_tellYears_142 ?_
      exact x_iret C hr dX2_tellYears_144 ⟨_, rfl, h⟩
    · have h := h.2 c12
      refine x_aload_n C rfl 0 rfl dX2_tellYears_52 ?_
      refine x_aload_n C rfl 2 rfl dX2_tellYears_53 ?_
      refine x_iload_n C rfl 1 rfl dX2_tellYears_54 ?_
      refine x_iload_n C rfl 3 rfl dX2_tellYears_55 ?_
      refine x_iadd C dX2_tellYears_56 ?_
      refine x_bipush (v := 99) C (by decide) dX2_tellYears_57 ?_
      refine x_callV (dC := G2_gatherWorth_dep) (as := [.ref 207, .int (p1 + x.1), .int 99]) (st := []) C rX kX (Nat.le_trans (Nat.le_of_ble_eq_true rfl) hd) (Nat.le_of_ble_eq_true rfl) ob202.1 ob202.2 (Nat.le_of_ble_eq_true rfl) rfl ts_6_8 tw_5_106 tw_5_104 tc_5_107 tw_1_10 hyX2 hnX2_gatherWorth rfl (Nat.le_of_ble_eq_true rfl) dX2_tellYears_59 (G2_gatherWorth_met C.2.2.2.2.2.2.2.1 (Nat.le_refl _) ob207 h) (fun r0 μ13 hq => ?_)
      obtain ⟨rfl, h⟩ := hq
      refine x_st [] rfl ?_
      refine x_aload_n C rfl 2 rfl dX2_tellYears_62 ?_
      refine x_getRN (r := 208) C (j := 0) ob207.1 ob207.2 (Nat.le_of_ble_eq_true rfl) (Nat.le_of_ble_eq_true rfl) (fun _ _ _ => rfl) r_207_0 tw_1_234 dX2_tellYears_63 ?_
      refine x_iconst (v := 1) C (by decide) dX2_tellYears_66 ?_
      refine x_iald C ob208.1 ob208.2 (by unfold vp_in; decide) (j := 1) (by decide) dX2_tellYears_67 ?_
      refine x_if_le (tgt := 136) C dX2_tellYears_68 (by decide) (fun c14 => ?_) (fun c14 => ?_)
      · have h := h.1 c14
        refine x_iinc (v := (x.1 + 1)) C [(3, .int (x.1 + 1)), (0, .ref 202), (1, .int p1), (2, .ref 207)] 3 rfl (congrArg (fun z => x.1 + z) (by decide : Int32.ofInt (1) = 1)) (Nat.le_of_ble_eq_true rfl) rfl dX2_tellYears_136 ?_
        refine x_goto (tgt := 32) C dX2_tellYears_139 (by decide) ?_
        refine x_sub [(0, .ref 202), (1, .int p1), (2, .ref 207), (3, .int (x.1 + 1))] [1, 2, 3, 0] rfl ?_
        exact hK32 _ _ h
      · have h := h.2 c14
        refine x_aload_n C rfl 2 rfl dX2_tellYears_71 ?_
        refine x_getRN (r := 209) C (j := 1) ob207.1 ob207.2 (Nat.le_of_ble_eq_true rfl) (Nat.le_of_ble_eq_true rfl) (fun _ _ _ => rfl) r_207_1 tw_1_237 dX2_tellYears_72 ?_
        refine x_iconst (v := 1) C (by decide) dX2_tellYears_75 ?_
        refine x_iald C ob209.1 ob209.2 (by unfold vp_in; decide) (j := 1) (by decide) dX2_tellYears_76 ?_
        refine x_aload_n C rfl 0 rfl dX2_tellYears_77 ?_
        refine x_getR (r := 203) C (j := 2) ob202.1 ob202.2 (Nat.le_of_ble_eq_true rfl) (Nat.le_of_ble_eq_true rfl) (fun _ _ _ => rfl) r_202_2 tw_2_94 dX2_tellYears_78 ?_
        refine x_getRN (r := 204) C (j := 0) ob203.1 ob203.2 (Nat.le_of_ble_eq_true rfl) (Nat.le_of_ble_eq_true rfl) (fun _ _ _ => rfl) r_203_0 tw_1_234 dX2_tellYears_81 ?_
        refine x_iconst (v := 0) C (by decide) dX2_tellYears_84 ?_
        refine x_iald C ob204.1 ob204.2 (by unfold vp_in; decide) (j := 0) (by decide) dX2_tellYears_85 ?_
        refine x_imul C dX2_tellYears_86 ?_
        refine x_aload_n C rfl 0 rfl dX2_tellYears_87 ?_
        refine x_getR (r := 203) C (j := 2) ob202.1 ob202.2 (Nat.le_of_ble_eq_true rfl) (Nat.le_of_ble_eq_true rfl) (fun _ _ _ => rfl) r_202_2 tw_2_94 dX2_tellYears_88 ?_
        refine x_getRN (r := 205) C (j := 1) ob203.1 ob203.2 (Nat.le_of_ble_eq_true rfl) (Nat.le_of_ble_eq_true rfl) (fun _ _ _ => rfl) r_203_1 tw_1_237 dX2_tellYears_91 ?_
        refine x_iconst (v := 0) C (by decide) dX2_tellYears_94 ?_
        refine x_iald C ob205.1 ob205.2 (by unfold vp_in; decide) (j := 0) (by decide) dX2_tellYears_95 ?_
        refine x_aload_n C rfl 2 rfl dX2_tellYears_96 ?_
        refine x_getRN (r := 208) C (j := 0) ob207.1 ob207.2 (Nat.le_of_ble_eq_true rfl) (Nat.le_of_ble_eq_true rfl) (fun _ _ _ => rfl) r_207_0 tw_1_234 dX2_tellYears_97 ?_
        refine x_iconst (v := 1) C (by decide) dX2_tellYears_100 ?_
        refine x_iald C ob208.1 ob208.2 (by unfold vp_in; decide) (j := 1) (by decide) dX2_tellYears_101 ?_
        refine x_imul C dX2_tellYears_102 ?_
        refine x_icmp_lt (tgt := 136) C dX2_tellYears_103 (by decide) (fun c15 => ?_) (fun c15 => ?_)
        · have h := h.1 c15
          refine x_iinc (v := (x.1 + 1)) C [(3, .int (x.1 + 1)), (0, .ref 202), (1, .int p1), (2, .ref 207)] 3 rfl (congrArg (fun z => x.1 + z) (by decide : Int32.ofInt (1) = 1)) (Nat.le_of_ble_eq_true rfl) rfl dX2_tellYears_136 ?_
          refine x_goto (tgt := 32) C dX2_tellYears_139 (by decide) ?_
          refine x_sub [(0, .ref 202), (1, .int p1), (2, .ref 207), (3, .int (x.1 + 1))] [1, 2, 3, 0] rfl ?_
          exact hK32 _ _ h
        · have h := h.2 c15
          refine x_aload_n C rfl 0 rfl dX2_tellYears_106 ?_
          refine x_getR (r := 151) C (j := 1) ob202.1 ob202.2 (Nat.le_of_ble_eq_true rfl) (Nat.le_of_ble_eq_true rfl) (fun _ _ _ => rfl) r_202_1 tw_2_93 dX2_tellYears_107 ?_
          refine x_callVN (dC := G7_clear_dep) (as := []) (st := []) C rX kX (Nat.le_trans (Nat.le_of_ble_eq_true rfl) hd) (Nat.le_of_ble_eq_true rfl) ob151.1 ob151.2 (Nat.le_of_ble_eq_true rfl) rfl ts_3_8 tw_4_48 tw_5_112 tc_4_49 tw_1_5 hyX7 hnX7_clear rfl (Nat.le_of_ble_eq_true rfl) dX2_tellYears_110 (G7_clear_met C.2.2.2.2.2.2.2.1 (Nat.le_refl _)  h) (fun r0 μ16 hq => ?_)
          obtain ⟨rfl, h⟩ := hq
          refine x_st [] rfl ?_
          refine x_aload_n C rfl 0 rfl dX2_tellYears_113 ?_
          refine x_getR (r := 151) C (j := 1) ob202.1 ob202.2 (Nat.le_of_ble_eq_true rfl) (Nat.le_of_ble_eq_true rfl) (fun _ _ _ => rfl) r_202_1 tw_2_93 dX2_tellYears_114 ?_
          refine x_aload_n C rfl 2 rfl dX2_tellYears_117 ?_
          refine x_getRN (r := 209) C (j := 1) ob207.1 ob207.2 (Nat.le_of_ble_eq_true rfl) (Nat.le_of_ble_eq_true rfl) (fun _ _ _ => rfl) r_207_1 tw_1_237 dX2_tellYears_118 ?_
          refine x_iconst (v := 1) C (by decide) dX2_tellYears_121 ?_
          refine x_iald C ob209.1 ob209.2 (by unfold vp_in; decide) (j := 1) (by decide) dX2_tellYears_122 ?_
          refine x_i2l C dX2_tellYears_123 ?_
          refine x_aload_n C rfl 2 rfl dX2_tellYears_124 ?_
          refine x_getRN (r := 208) C (j := 0) ob207.1 ob207.2 (Nat.le_of_ble_eq_true rfl) (Nat.le_of_ble_eq_true rfl) (fun _ _ _ => rfl) r_207_0 tw_1_234 dX2_tellYears_125 ?_
          refine x_iconst (v := 1) C (by decide) dX2_tellYears_128 ?_
          refine x_iald C ob208.1 ob208.2 (by unfold vp_in; decide) (j := 1) (by decide) dX2_tellYears_129 ?_
          refine x_i2l C dX2_tellYears_130 ?_
          refine x_callVN (dC := G7_addFraction_dep) (as := [.long ((gI μ16 209 1).toInt64), .long ((gI μ16 208 1).toInt64)]) (st := []) C rX kX (Nat.le_trans (Nat.le_of_ble_eq_true rfl) hd) (Nat.le_of_ble_eq_true rfl) ob151.1 ob151.2 (Nat.le_of_ble_eq_true rfl) rfl ts_3_10 tw_4_56 tw_5_116 tc_4_57 tw_1_5 hyX7 hnX7_addFraction rfl (Nat.le_of_ble_eq_true rfl) dX2_tellYears_131 (G7_addFraction_met C.2.2.2.2.2.2.2.1 (Nat.le_refl _)  h) (fun r0 μ17 hq => ?_)
          obtain ⟨rfl, h⟩ := hq
          refine x_st [] rfl ?_
          refine x_iload_n C rfl 3 rfl dX2_tellYears_134 ?_
          exact x_iret C hr dX2_tellYears_135 ⟨_, rfl, h⟩
theorem G2_tellYears_L32_ok {p : Program} {e : Env} {s : State} {m : MethodId} {args : Array Value} {below : List Frame} {meth : Method} {c : Code} {l : Launch} {φ : Nat → Nat} {tc : Nat → ClassId} {D : va_G} {s0 : State} {dR : Nat} (C : CX p s m args meth c φ tc D (AX φ) s0 cX2_tellYears RX2 4) (hd : G2_tellYears_dep ≤ dR) (hr : meth.sig.returnType = (some .int))  {p1 : Int32} {Q : Int32 → MM → Prop}  {x : Int32 × MM}    (h : Lp (G2_tellYears_L32 p1 Q) x) : WX p l e (rmX dR) s m args below meth c φ tc D (AX φ) 4 0 0 (MQ below (QX φ tc D (QI Q)) args s 0 0 (AX φ)) 32 [(0, .ref 202), (1, .int p1), (2, .ref 207), (3, .int x.1)] [] x.2 := by
  obtain ⟨n, h⟩ := h
  induction n generalizing x with
  | zero => exact h.elim
  | succ n ih => exact G2_tellYears_L32_b C hd hr   (fun z3 zμ hz => by have q := ih hz; exact q) h
set_option maxHeartbeats 4000000 in
set_option maxRecDepth 100000 in
theorem G2_tellYears_met {l : Launch} {φ : Nat → Nat} {tc : Nat → ClassId} {D : va_G} {s0 : State} (hG : GX φ tc D s0) {dR : Nat} (hd : G2_tellYears_dep ≤ dR) {v1 : Int32} {μ : MM} {Q : Int32 → MM → Prop}  (h : G2_tellYears v1 μ Q) : MX l φ tc D s0 dR yX2_tellYears cX2_tellYears 4 (some .int) [.ref 202, .int v1] μ (QI Q) := by
  refine MX.of (own := RX2) hG plX2 rfl (Nat.le_of_ble_eq_true rfl) (fun p e s m args below meth c C hr => ?_)
  refine x_sub [(0, .ref 202), (1, .int v1)] [0, 1] rfl ?_
  unfold G2_tellYears at h
  refine x_iload_n C rfl 1 rfl dX2_tellYears_0 ?_
  refine x_iconst (v := 0) C (by decide) dX2_tellYears_1 ?_
  refine x_bipush (v := 99) C (by decide) dX2_tellYears_2 ?_
  refine x_callSN (dC := G11_within_dep) (as := [.int v1, .int 0, .int 99]) (st := []) C rX kX (Nat.le_trans (Nat.le_of_ble_eq_true rfl) hd) (Nat.le_of_ble_eq_true rfl) tw_2_196 tw_5_103 tc_2_197 tw_1_1 hyX11 hnX11_within rfl (Nat.le_of_ble_eq_true rfl) dX2_tellYears_4 (G11_within_met C.2.2.2.2.2.2.2.1 (Nat.le_refl _)  h) (fun r0 μ7 hq => ?_)
  obtain ⟨r8, rfl, h⟩ := hq
  refine x_st [.int r8] rfl ?_
  refine x_if_ne (tgt := 12) C dX2_tellYears_7 (by decide) (fun c9 => ?_) (fun c9 => ?_)
  · have h := h.1 c9
    refine x_aload_n C rfl 0 rfl dX2_tellYears_12 ?_
    refine x_getR (r := 206) C (j := 3) ob202.1 ob202.2 (Nat.le_of_ble_eq_true rfl) (Nat.le_of_ble_eq_true rfl) (fun _ _ _ => rfl) r_202_3 tw_2_95 dX2_tellYears_13 ?_
    refine x_iconst (v := 0) C (by decide) dX2_tellYears_16 ?_
    refine x_aald (r := 207) C ob206.1 (by decide) (by decide) (by unfold vp_in; decide) (j := 0) (by decide) (r_206_0) dX2_tellYears_17 ?_
    refine x_astore_n C [(2, .ref 207), (0, .ref 202), (1, .int v1)] rfl (Nat.le_of_ble_eq_true rfl) rfl dX2_tellYears_18 ?_
    refine x_aload_n C rfl 1 rfl dX2_tellYears_19 ?_
    refine x_aload_n C rfl 1 rfl dX2_tellYears_20 ?_
    refine x_getR (r := 203) C (j := 2) ob202.1 ob202.2 (Nat.le_of_ble_eq_true rfl) (Nat.le_of_ble_eq_true rfl) (fun _ _ _ => rfl) r_202_2 tw_2_94 dX2_tellYears_21 ?_
    refine x_iload_n C rfl 2 rfl dX2_tellYears_24 ?_
    refine x_bipush (v := 99) C (by decide) dX2_tellYears_25 ?_
    refine x_callV (dC := G2_gatherWorth_dep) (as := [.ref 203, .int v1, .int 99]) (st := []) C rX kX (Nat.le_trans (Nat.le_of_ble_eq_true rfl) hd) (Nat.le_of_ble_eq_true rfl) ob202.1 ob202.2 (Nat.le_of_ble_eq_true rfl) rfl ts_6_8 tw_5_106 tw_5_104 tc_5_107 tw_1_10 hyX2 hnX2_gatherWorth rfl (Nat.le_of_ble_eq_true rfl) dX2_tellYears_27 (G2_gatherWorth_met C.2.2.2.2.2.2.2.1 (Nat.le_refl _) ob203 h) (fun r0 μ10 hq => ?_)
    obtain ⟨rfl, h⟩ := hq
    refine x_st [] rfl ?_
    refine x_iconst (v := 0) C (by decide) dX2_tellYears_30 ?_
    refine x_istore_n C [(3, .int 0), (2, .ref 207), (0, .ref 202), (1, .int v1)] rfl (Nat.le_of_ble_eq_true rfl) rfl dX2_tellYears_31 ?_
    refine x_sub [(0, .ref 202), (1, .int v1), (2, .ref 207), (3, .int 0)] [2, 3, 1, 0] rfl ?_
    exact G2_tellYears_L32_ok C hd hr  h
  · have h := h.2 c9
    refine x_iconst (v := (-1)) C (by decide) dX2_tellYears_10 ?_
    exact x_iret C hr dX2_tellYears_11 ⟨_, rfl, h⟩
set_option maxHeartbeats 4000000 in
set_option maxRecDepth 100000 in
theorem G11_years_met {l : Launch} {φ : Nat → Nat} {tc : Nat → ClassId} {D : va_G} {s0 : State} (hG : GX φ tc D s0) {dR : Nat} (hd : G11_years_dep ≤ dR) {v1 : Int32} {μ : MM} {Q : Int32 → MM → Prop}  (h : G11_years v1 μ Q) : MX l φ tc D s0 dR yX11_years cX11_years 2 (some .int) [.ref 0, .int v1] μ (QI Q) := by
  refine MX.of (own := RX11) hG plX11 rfl (Nat.le_of_ble_eq_true rfl) (fun p e s m args below meth c C hr => ?_)
  refine x_sub [(0, .ref 0), (1, .int v1)] [0, 1] rfl ?_
  unfold G11_years at h
  refine x_aload_n C rfl 0 rfl dX11_years_0 ?_
  refine x_getR (r := 202) C (j := 4) ob0.1 ob0.2 (Nat.le_of_ble_eq_true rfl) (Nat.le_of_ble_eq_true rfl) (fun _ _ _ => rfl) r_0_4 tw_2_167 dX11_years_1 ?_
  refine x_iload_n C rfl 1 rfl dX11_years_4 ?_
  refine x_callVN (dC := G2_tellYears_dep) (as := [.int v1]) (st := []) C rX kX (Nat.le_trans (Nat.le_of_ble_eq_true rfl) hd) (Nat.le_of_ble_eq_true rfl) ob202.1 ob202.2 (Nat.le_of_ble_eq_true rfl) rfl ts_6_15 tw_5_162 tw_5_160 tc_5_163 tw_1_10 hyX2 hnX2_tellYears rfl (Nat.le_of_ble_eq_true rfl) dX11_years_5 (G2_tellYears_met C.2.2.2.2.2.2.2.1 (Nat.le_refl _)  h) (fun r0 μ3 hq => ?_)
  obtain ⟨r4, rfl, h⟩ := hq
  refine x_st [.int r4] rfl ?_
  exact x_iret C hr dX11_years_8 ⟨_, rfl, h⟩
set_option maxHeartbeats 4000000 in
set_option maxRecDepth 100000 in
theorem G2_tellMornings_J178_ok {p : Program} {e : Env} {s : State} {m : MethodId} {args : Array Value} {below : List Frame} {meth : Method} {c : Code} {l : Launch} {φ : Nat → Nat} {tc : Nat → ClassId} {D : va_G} {s0 : State} {dR : Nat} (C : CX p s m args meth c φ tc D (AX φ) s0 cX2_tellMornings RX2 11) (hd : G2_tellMornings_dep ≤ dR) (hr : meth.sig.returnType = (some .int))   {p1 : Int32} {p2 : Int32} {p3 : Int32} {p4 : Int32} {p7 : Int32} {p8 : Int32} {Q : Int32 → MM → Prop} {K45 : Int32 × Int32 × Int32 × Int32 × MM → Prop} {μ : MM}   (hK45 : ∀ (z4 : Int32) (z5 : Int32) (z6 : Int32) (z7 : Int32) (zμ : MM), K45 (z4, z5, z6, z7, zμ) → WX p l e (rmX dR) s m args below meth c φ tc D (AX φ) 11 0 0 (MQ below (QX φ tc D (QI Q)) args s 0 0 (AX φ)) 45 [(0, .ref 202), (1, .int p1), (2, .int p2), (3, .int p3), (4, .int z4), (5, .int z5), (6, .int z6), (7, .int z7)] [] zμ) (h : G2_tellMornings_J178 p1 p2 p3 p4 p7 p8 μ K45 Q) : WX p l e (rmX dR) s m args below meth c φ tc D (AX φ) 11 0 0 (MQ below (QX φ tc D (QI Q)) args s 0 0 (AX φ)) 178 [(0, .ref 202), (1, .int p1), (2, .int p2), (3, .int p3), (4, .int p4), (7, .int p7), (8, .int p8)] [] μ := by
  unfold G2_tellMornings_J178 at h
  refine x_iload C 5 rfl dX2_tellMornings_178 ?_
  refine x_istore C [(5, .int p7), (0, .ref 202), (1, .int p1), (2, .int p2), (3, .int p3), (4, .int p4), (7, .int p7), (8, .int p8)] (Nat.le_of_ble_eq_true rfl) rfl dX2_tellMornings_180 ?_
  refine x_iload C 7 rfl dX2_tellMornings_182 ?_
  refine x_istore C [(6, .int p8), (5, .int p7), (0, .ref 202), (1, .int p1), (2, .int p2), (3, .int p3), (4, .int p4), (7, .int p7), (8, .int p8)] (Nat.le_of_ble_eq_true rfl) rfl dX2_tellMornings_184 ?_
  refine x_iinc (v := (p7 + 1)) C [(7, .int (p7 + 1)), (6, .int p8), (5, .int p7), (0, .ref 202), (1, .int p1), (2, .int p2), (3, .int p3), (4, .int p4), (8, .int p8)] 7 rfl (congrArg (fun z => p7 + z) (by decide : Int32.ofInt (1) = 1)) (Nat.le_of_ble_eq_true rfl) rfl dX2_tellMornings_186 ?_
  refine x_goto (tgt := 45) C dX2_tellMornings_189 (by decide) ?_
  refine x_sub [(0, .ref 202), (1, .int p1), (2, .int p2), (3, .int p3), (4, .int p4), (5, .int p7), (6, .int p8), (7, .int (p7 + 1))] [3, 4, 5, 6, 7, 2, 1, 0] rfl ?_
  exact hK45 _ _ _ _ _ h
set_option maxHeartbeats 4000000 in
set_option maxRecDepth 100000 in
theorem G2_tellMornings_J149_ok {p : Program} {e : Env} {s : State} {m : MethodId} {args : Array Value} {below : List Frame} {meth : Method} {c : Code} {l : Launch} {φ : Nat → Nat} {tc : Nat → ClassId} {D : va_G} {s0 : State} {dR : Nat} (C : CX p s m args meth c φ tc D (AX φ) s0 cX2_tellMornings RX2 11) (hd : G2_tellMornings_dep ≤ dR) (hr : meth.sig.returnType = (some .int))   {p1 : Int32} {p2 : Int32} {p3 : Int32} {p4 : Int32} {p5 : Int32} {p6 : Int32} {p7 : Int32} {p9 : Int32} {q0 : Int32} {q1 : Int32} {Q : Int32 → MM → Prop} {K45 : Int32 × Int32 × Int32 × Int32 × MM → Prop} {K63 : Int32 × Int32 × MM → Prop} {μ : MM}   (hK45 : ∀ (z4 : Int32) (z5 : Int32) (z6 : Int32) (z7 : Int32) (zμ : MM), K45 (z4, z5, z6, z7, zμ) → WX p l e (rmX dR) s m args below meth c φ tc D (AX φ) 11 0 0 (MQ below (QX φ tc D (QI Q)) args s 0 0 (AX φ)) 45 [(0, .ref 202), (1, .int p1), (2, .int p2), (3, .int p3), (4, .int z4), (5, .int z5), (6, .int z6), (7, .int z7)] [] zμ) (hK63 : ∀ (z8 : Int32) (z9 : Int32) (zμ : MM), K63 (z8, z9, zμ) → WX p l e (rmX dR) s m args below meth c φ tc D (AX φ) 11 0 0 (MQ below (QX φ tc D (QI Q)) args s 0 0 (AX φ)) 63 [(0, .ref 202), (1, .int p1), (2, .int p2), (3, .int p3), (4, .int p4), (5, .int p5), (6, .int p6), (7, .int p7), (8, .int z8), (9, .int z9)] [] zμ) (h : G2_tellMornings_J149 p1 p2 p3 p4 p5 p6 p7 p9 q0 q1 μ K45 K63 Q) : WX p l e (rmX dR) s m args below meth c φ tc D (AX φ) 11 0 0 (MQ below (QX φ tc D (QI Q)) args s 0 0 (AX φ)) 149 [(0, .ref 202), (1, .int p1), (2, .int p2), (3, .int p3), (4, .int p4), (5, .int p5), (6, .int p6), (7, .int p7), (9, .int p9)] [.int q0, .int q1] μ := by
  unfold G2_tellMornings_J149 at h
  refine x_iadd C dX2_tellMornings_149 ?_
  refine x_topi (fun y37 e_y37 => ?_)
  have h := h y37 e_y37
  refine x_istore C [(8, .int y37), (0, .ref 202), (1, .int p1), (2, .int p2), (3, .int p3), (4, .int p4), (5, .int p5), (6, .int p6), (7, .int p7), (9, .int p9)] (Nat.le_of_ble_eq_true rfl) rfl dX2_tellMornings_150 ?_
  refine x_iinc (v := (p9 + 1)) C [(9, .int (p9 + 1)), (8, .int y37), (0, .ref 202), (1, .int p1), (2, .int p2), (3, .int p3), (4, .int p4), (5, .int p5), (6, .int p6), (7, .int p7)] 9 rfl (congrArg (fun z => p9 + z) (by decide : Int32.ofInt (1) = 1)) (Nat.le_of_ble_eq_true rfl) rfl dX2_tellMornings_152 ?_
  refine x_goto (tgt := 63) C dX2_tellMornings_155 (by decide) ?_
  refine x_sub [(0, .ref 202), (1, .int p1), (2, .int p2), (3, .int p3), (4, .int p4), (5, .int p5), (6, .int p6), (7, .int p7), (8, .int y37), (9, .int (p9 + 1))] [2, 3, 4, 5, 6, 7, 8, 9, 1, 0] rfl ?_
  exact hK63 _ _ _ h
set_option maxHeartbeats 4000000 in
set_option maxRecDepth 100000 in
theorem G2_tellMornings_J148_ok {p : Program} {e : Env} {s : State} {m : MethodId} {args : Array Value} {below : List Frame} {meth : Method} {c : Code} {l : Launch} {φ : Nat → Nat} {tc : Nat → ClassId} {D : va_G} {s0 : State} {dR : Nat} (C : CX p s m args meth c φ tc D (AX φ) s0 cX2_tellMornings RX2 11) (hd : G2_tellMornings_dep ≤ dR) (hr : meth.sig.returnType = (some .int))   {p1 : Int32} {p2 : Int32} {p3 : Int32} {p4 : Int32} {p5 : Int32} {p6 : Int32} {p7 : Int32} {p9 : Int32} {q0 : Int32} {Q : Int32 → MM → Prop} {K45 : Int32 × Int32 × Int32 × Int32 × MM → Prop} {K63 : Int32 × Int32 × MM → Prop} {μ : MM}   (hK45 : ∀ (z4 : Int32) (z5 : Int32) (z6 : Int32) (z7 : Int32) (zμ : MM), K45 (z4, z5, z6, z7, zμ) → WX p l e (rmX dR) s m args below meth c φ tc D (AX φ) 11 0 0 (MQ below (QX φ tc D (QI Q)) args s 0 0 (AX φ)) 45 [(0, .ref 202), (1, .int p1), (2, .int p2), (3, .int p3), (4, .int z4), (5, .int z5), (6, .int z6), (7, .int z7)] [] zμ) (hK63 : ∀ (z8 : Int32) (z9 : Int32) (zμ : MM), K63 (z8, z9, zμ) → WX p l e (rmX dR) s m args below meth c φ tc D (AX φ) 11 0 0 (MQ below (QX φ tc D (QI Q)) args s 0 0 (AX φ)) 63 [(0, .ref 202), (1, .int p1), (2, .int p2), (3, .int p3), (4, .int p4), (5, .int p5), (6, .int p6), (7, .int p7), (8, .int z8), (9, .int z9)] [] zμ) (h : G2_tellMornings_J148 p1 p2 p3 p4 p5 p6 p7 p9 q0 μ K45 K63 Q) : WX p l e (rmX dR) s m args below meth c φ tc D (AX φ) 11 0 0 (MQ below (QX φ tc D (QI Q)) args s 0 0 (AX φ)) 148 [(0, .ref 202), (1, .int p1), (2, .int p2), (3, .int p3), (4, .int p4), (5, .int p5), (6, .int p6), (7, .int p7), (9, .int p9)] [.int q0] μ := by
  unfold G2_tellMornings_J148 at h
  refine x_iconst (v := 0) C (by decide) dX2_tellMornings_148 ?_
  exact G2_tellMornings_J149_ok C hd hr hK45 hK63 h
set_option maxHeartbeats 4000000 in
set_option maxRecDepth 100000 in
theorem G2_tellMornings_J121_ok {p : Program} {e : Env} {s : State} {m : MethodId} {args : Array Value} {below : List Frame} {meth : Method} {c : Code} {l : Launch} {φ : Nat → Nat} {tc : Nat → ClassId} {D : va_G} {s0 : State} {dR : Nat} (C : CX p s m args meth c φ tc D (AX φ) s0 cX2_tellMornings RX2 11) (hd : G2_tellMornings_dep ≤ dR) (hr : meth.sig.returnType = (some .int))   {p1 : Int32} {p2 : Int32} {p3 : Int32} {p4 : Int32} {p5 : Int32} {p6 : Int32} {p7 : Int32} {p9 : Int32} {p10 : Nat} {q0 : Int32} {q1 : Int32} {q2 : Int32} {Q : Int32 → MM → Prop} {K45 : Int32 × Int32 × Int32 × Int32 × MM → Prop} {K63 : Int32 × Int32 × MM → Prop} {μ : MM}  (o_p10 : Ob p10 5) (hK45 : ∀ (z4 : Int32) (z5 : Int32) (z6 : Int32) (z7 : Int32) (zμ : MM), K45 (z4, z5, z6, z7, zμ) → WX p l e (rmX dR) s m args below meth c φ tc D (AX φ) 11 0 0 (MQ below (QX φ tc D (QI Q)) args s 0 0 (AX φ)) 45 [(0, .ref 202), (1, .int p1), (2, .int p2), (3, .int p3), (4, .int z4), (5, .int z5), (6, .int z6), (7, .int z7)] [] zμ) (hK63 : ∀ (z8 : Int32) (z9 : Int32) (zμ : MM), K63 (z8, z9, zμ) → WX p l e (rmX dR) s m args below meth c φ tc D (AX φ) 11 0 0 (MQ below (QX φ tc D (QI Q)) args s 0 0 (AX φ)) 63 [(0, .ref 202), (1, .int p1), (2, .int p2), (3, .int p3), (4, .int p4), (5, .int p5), (6, .int p6), (7, .int p7), (8, .int z8), (9, .int z9)] [] zμ) (h : G2_tellMornings_J121 p1 p2 p3 p4 p5 p6 p7 p9 p10 q0 q1 q2 μ K45 K63 Q) : WX p l e (rmX dR) s m args below meth c φ tc D (AX φ) 11 0 0 (MQ below (QX φ tc D (QI Q)) args s 0 0 (AX φ)) 121 [(0, .ref 202), (1, .int p1), (2, .int p2), (3, .int p3), (4, .int p4), (5, .int p5), (6, .int p6), (7, .int p7), (9, .int p9), (10, .ref p10)] [.int q0, .int q1, .int q2] μ := by
  unfold G2_tellMornings_J121 at h
  refine x_iadd C dX2_tellMornings_121 ?_
  refine x_iadd C dX2_tellMornings_122 ?_
  refine x_topi (fun y35 e_y35 => ?_)
  have h := h y35 e_y35
  refine x_istore C [(8, .int y35), (0, .ref 202), (1, .int p1), (2, .int p2), (3, .int p3), (4, .int p4), (5, .int p5), (6, .int p6), (7, .int p7), (9, .int p9), (10, .ref p10)] (Nat.le_of_ble_eq_true rfl) rfl dX2_tellMornings_123 ?_
  refine x_iload C 0 rfl dX2_tellMornings_125 ?_
  refine x_aload C 10 rfl dX2_tellMornings_127 ?_
  refine x_getIN C (j := 7) o_p10.1 o_p10.2 (Nat.le_of_ble_eq_true rfl) (Nat.le_of_ble_eq_true rfl) (Or.inr rfl) tw_1_78 dX2_tellMornings_129 ?_
  refine x_if_eq (tgt := 148) C dX2_tellMornings_132 (by decide) (fun c36 => ?_) (fun c36 => ?_)
  · have h := h.1 c36
    refine x_sub [(0, .ref 202), (1, .int p1), (2, .int p2), (3, .int p3), (4, .int p4), (5, .int p5), (6, .int p6), (7, .int p7), (9, .int p9)] [1, 2, 3, 4, 5, 6, 7, 8, 9] rfl ?_
    exact G2_tellMornings_J148_ok C hd hr hK45 hK63 h
  · have h := h.2 c36
    refine x_aload C 10 rfl dX2_tellMornings_135 ?_
    refine x_getIN C (j := 8) o_p10.1 o_p10.2 (Nat.le_of_ble_eq_true rfl) (Nat.le_of_ble_eq_true rfl) (Or.inl rfl) tw_1_82 dX2_tellMornings_137 ?_
    refine x_iconst (v := 2) C (by decide) dX2_tellMornings_140 ?_
    refine x_icmp_ne (tgt := 148) C dX2_tellMornings_141 (by decide) (fun c38 => ?_) (fun c38 => ?_)
    · have h := h.1 c38
      refine x_sub [(0, .ref 202), (1, .int p1), (2, .int p2), (3, .int p3), (4, .int p4), (5, .int p5), (6, .int p6), (7, .int p7), (9, .int p9)] [1, 2, 3, 4, 5, 6, 7, 8, 9] rfl ?_
      exact G2_tellMornings_J148_ok C hd hr hK45 hK63 h
    · have h := h.2 c38
      refine x_iload_n C rfl 4 rfl dX2_tellMornings_144 ?_
      refine x_goto (tgt := 149) C dX2_tellMornings_145 (by decide) ?_
      refine x_sub [(0, .ref 202), (1, .int p1), (2, .int p2), (3, .int p3), (4, .int p4), (5, .int p5), (6, .int p6), (7, .int p7), (9, .int p9)] [1, 2, 3, 4, 5, 6, 7, 8, 9] rfl ?_
      exact G2_tellMornings_J149_ok C hd hr hK45 hK63 h
set_option maxHeartbeats 4000000 in
set_option maxRecDepth 100000 in
theorem G2_tellMornings_L63_b {p : Program} {e : Env} {s : State} {m : MethodId} {args : Array Value} {below : List Frame} {meth : Method} {c : Code} {l : Launch} {φ : Nat → Nat} {tc : Nat → ClassId} {D : va_G} {s0 : State} {dR : Nat} (C : CX p s m args meth c φ tc D (AX φ) s0 cX2_tellMornings RX2 11) (hd : G2_tellMornings_dep ≤ dR) (hr : meth.sig.returnType = (some .int))  {p1 : Int32} {p2 : Int32} {p3 : Int32} {p4 : Int32} {p5 : Int32} {p6 : Int32} {p7 : Int32} {Q : Int32 → MM → Prop} {K45 : Int32 × Int32 × Int32 × Int32 × MM → Prop} {K63 : Int32 × Int32 × MM → Prop} {x : Int32 × Int32 × MM}   (hK45 : ∀ (z4 : Int32) (z5 : Int32) (z6 : Int32) (z7 : Int32) (zμ : MM), K45 (z4, z5, z6, z7, zμ) → WX p l e (rmX dR) s m args below meth c φ tc D (AX φ) 11 0 0 (MQ below (QX φ tc D (QI Q)) args s 0 0 (AX φ)) 45 [(0, .ref 202), (1, .int p1), (2, .int p2), (3, .int p3), (4, .int z4), (5, .int z5), (6, .int z6), (7, .int z7)] [] zμ) (hK63 : ∀ (z8 : Int32) (z9 : Int32) (zμ : MM), K63 (z8, z9, zμ) → WX p l e (rmX dR) s m args below meth c φ tc D (AX φ) 11 0 0 (MQ below (QX φ tc D (QI Q)) args s 0 0 (AX φ)) 63 [(0, .ref 202), (1, .int p1), (2, .int p2), (3, .int p3), (4, .int p4), (5, .int p5), (6, .int p6), (7, .int p7), (8, .int z8), (9, .int z9)] [] zμ) (h : G2_tellMornings_L63 p1 p2 p3 p4 p5 p6 p7 K45 Q K63 x) : WX p l e (rmX dR) s m args below meth c φ tc D (AX φ) 11 0 0 (MQ below (QX φ tc D (QI Q)) args s 0 0 (AX φ)) 63 [(0, .ref 202), (1, .int p1), (2, .int p2), (3, .int p3), (4, .int p4), (5, .int p5), (6, .int p6), (7, .int p7), (8, .int x.1), (9, .int x.2.1)] [] x.2.2 := by
  unfold G2_tellMornings_L63 at h
  refine x_iload C 9 rfl dX2_tellMornings_63 ?_
  refine x_aload_n C rfl 0 rfl dX2_tellMornings_65 ?_
  refine x_getR (r := 1) C (j := 0) ob202.1 ob202.2 (Nat.le_of_ble_eq_true rfl) (Nat.le_of_ble_eq_true rfl) (fun _ _ _ => rfl) r_202_0 tw_2_92 dX2_tellMornings_66 ?_
  refine x_getIN C (j := 10) ob1.1 ob1.2 (Nat.le_of_ble_eq_true rfl) (Nat.le_of_ble_eq_true rfl) (Or.inl rfl) tw_1_152 dX2_tellMornings_69 ?_
  refine x_icmp_ge (tgt := 158) C dX2_tellMornings_72 (by decide) (fun c27 => ?_) (fun c27 => ?_)
  · have h := h.1 c27
    refine x_iload C 4 rfl dX2_tellMornings_158 ?_
    refine x_iload C 8 rfl dX2_tellMornings_160 ?_
    refine x_iadd C dX2_tellMornings_162 ?_
    refine x_topi (fun y28 e_y28 => ?_)
    have h := h y28 e_y28
    refine x_istore C [(4, .int y28), (0, .ref 202), (1, .int p1), (2, .int p2), (3, .int p3), (5, .int p5), (6, .int p6), (7, .int p7), (8, .int x.1), (9, .int x.2.1)] (Nat.le_of_ble_eq_true rfl) rfl dX2_tellMornings_163 ?_
    refine x_iload C 5 rfl dX2_tellMornings_165 ?_
    refine x_iconst (v := (-1)) C (by decide) dX2_tellMornings_167 ?_
    refine x_icmp_eq (tgt := 178) C dX2_tellMornings_168 (by decide) (fun c29 => ?_) (fun c29 => ?_)
    · have h := h.1 c29
      refine x_sub [(0, .ref 202), (1, .int p1), (2, .int p2), (3, .int p3), (4, .int y28), (7, .int p7), (8, .int x.1)] [1, 2, 3, 4, 0, 7, 8] rfl ?_
      exact G2_tellMornings_J178_ok C hd hr hK45 h
    · have h := h.2 c29
      refine x_iload C 8 rfl dX2_tellMornings_171 ?_
      refine x_iload C 6 rfl dX2_tellMornings_173 ?_
      refine x_icmp_le (tgt := 186) C dX2_tellMornings_175 (by decide) (fun c30 => ?_) (fun c30 => ?_)
      · have h := h.1 c30
        refine x_iinc (v := (p7 + 1)) C [(7, .int (p7 + 1)), (4, .int y28), (0, .ref 202), (1, .int p1), (2, .int p2), (3, .int p3), (5, .int p5), (6, .int p6), (8, .int x.1), (9, .int x.2.1)] 7 rfl (congrArg (fun z => p7 + z) (by decide : Int32.ofInt (1) = 1)) (Nat.le_of_ble_eq_true rfl) rfl dX2_tellMornings_186 ?_
        refine x_goto (tgt := 45) C dX2_tellMornings_189 (by decide) ?_
        refine x_sub [(0, .ref 202), (1, .int p1), (2, .int p2), (3, .int p3), (4, .int y28), (5, .int p5), (6, .int p6), (7, .int (p7 + 1))] [2, 3, 4, 5, 1, 6, 7, 0] rfl ?_
        exact hK45 _ _ _ _ _ h
      · have h := h.2 c30
        refine x_sub [(0, .ref 202), (1, .int p1), (2, .int p2), (3, .int p3), (4, .int y28), (7, .int p7), (8, .int x.1)] [1, 2, 3, 4, 0, 7, 8] rfl ?_
        exact G2_tellMornings_J178_ok C hd hr hK45 h
  · have h := h.2 c27
    refine x_aload_n C rfl 0 rfl dX2_tellMornings_75 ?_
    refine x_getR (r := 1) C (j := 0) ob202.1 ob202.2 (Nat.le_of_ble_eq_true rfl) (Nat.le_of_ble_eq_true rfl) (fun _ _ _ => rfl) r_202_0 tw_2_92 dX2_tellMornings_76 ?_
    refine x_getRN (r := 9) C (j := 9) ob1.1 ob1.2 (Nat.le_of_ble_eq_true rfl) (Nat.le_of_ble_eq_true rfl) (fun _ _ _ => rfl) r_1_9 tw_1_147 dX2_tellMornings_79 ?_
    refine x_iload C 9 rfl dX2_tellMornings_82 ?_
    obtain ⟨c31, h⟩ := h
    refine x_aald (r := (19 + x.2.1.toNatClampNeg)) C ob9.1 (by decide) (by decide) c31 rfl (rA9 c31) dX2_tellMornings_84 ?_
    refine x_astore C [(10, .ref (19 + x.2.1.toNatClampNeg)), (0, .ref 202), (1, .int p1), (2, .int p2), (3, .int p3), (4, .int p4), (5, .int p5), (6, .int p6), (7, .int p7), (8, .int x.1), (9, .int x.2.1)] (Nat.le_of_ble_eq_true rfl) rfl dX2_tellMornings_85 ?_
    refine x_aload C 0 rfl dX2_tellMornings_87 ?_
    refine x_getIN C (j := 0) (obA9 c31).1 (obA9 c31).2 (Nat.le_of_ble_eq_true rfl) (Nat.le_of_ble_eq_true rfl) (Or.inl rfl) tw_1_51 dX2_tellMornings_89 ?_
    refine x_iload C 8 rfl dX2_tellMornings_92 ?_
    refine x_icmp_ne (tgt := 152) C dX2_tellMornings_94 (by decide) (fun c32 => ?_) (fun c32 => ?_)
    · have h := h.1 c32
      refine x_iinc (v := (x.2.1 + 1)) C [(9, .int (x.2.1 + 1)), (10, .ref (19 + x.2.1.toNatClampNeg)), (0, .ref 202), (1, .int p1), (2, .int p2), (3, .int p3), (4, .int p4), (5, .int p5), (6, .int p6), (7, .int p7), (8, .int x.1)] 10 rfl (congrArg (fun z => x.2.1 + z) (by decide : Int32.ofInt (1) = 1)) (Nat.le_of_ble_eq_true rfl) rfl dX2_tellMornings_152 ?_
      refine x_goto (tgt := 63) C dX2_tellMornings_155 (by decide) ?_
      refine x_sub [(0, .ref 202), (1, .int p1), (2, .int p2), (3, .int p3), (4, .int p4), (5, .int p5), (6, .int p6), (7, .int p7), (8, .int x.1), (9, .int (x.2.1 + 1))] [2, 3, 4, 5, 6, 7, 8, 9, 10, 0] rfl ?_
      exact hK63 _ _ _ h
    · have h := h.2 c32
      refine x_aload C 0 rfl dX2_tellMornings_97 ?_
      refine x_getIN C (j := 6) (obA9 c31).1 (obA9 c31).2 (Nat.le_of_ble_eq_true rfl) (Nat.le_of_ble_eq_true rfl) (Or.inr rfl) tw_1_71 dX2_tellMornings_99 ?_
      refine x_if_eq (tgt := 152) C dX2_tellMornings_102 (by decide) (fun c33 => ?_) (fun c33 => ?_)
      · have h := h.1 c33
        refine x_iinc (v := (x.2.1 + 1)) C [(9, .int (x.2.1 + 1)), (10, .ref (19 + x.2.1.toNatClampNeg)), (0, .ref 202), (1, .int p1), (2, .int p2), (3, .int p3), (4, .int p4), (5, .int p5), (6, .int p6), (7, .int p7), (8, .int x.1)] 10 rfl (congrArg (fun z => x.2.1 + z) (by decide : Int32.ofInt (1) = 1)) (Nat.le_of_ble_eq_true rfl) rfl dX2_tellMornings_152 ?_
        refine x_goto (tgt := 63) C dX2_tellMornings_155 (by decide) ?_
        refine x_sub [(0, .ref 202), (1, .int p1), (2, .int p2), (3, .int p3), (4, .int p4), (5, .int p5), (6, .int p6), (7, .int p7), (8, .int x.1), (9, .int (x.2.1 + 1))] [2, 3, 4, 5, 6, 7, 8, 9, 10, 0] rfl ?_
        exact hK63 _ _ _ h
      · have h := h.2 c33
        refine x_iload C 9 rfl dX2_tellMornings_105 ?_
        refine x_iload_n C rfl 2 rfl dX2_tellMornings_107 ?_
        refine x_aload C 0 rfl dX2_tellMornings_108 ?_
        refine x_getIN C (j := 7) (obA9 c31).1 (obA9 c31).2 (Nat.le_of_ble_eq_true rfl) (Nat.le_of_ble_eq_true rfl) (Or.inr rfl) tw_1_78 dX2_tellMornings_110 ?_
        refine x_if_eq (tgt := 120) C dX2_tellMornings_113 (by decide) (fun c34 => ?_) (fun c34 => ?_)
        · have h := h.1 c34
          refine x_iconst (v := 0) C (by decide) dX2_tellMornings_120 ?_
          refine x_sub [(0, .ref 202), (1, .int p1), (2, .int p2), (3, .int p3), (4, .int p4), (5, .int p5), (6, .int p6), (7, .int p7), (9, .int x.2.1), (10, .ref (19 + x.2.1.toNatClampNeg))] [1, 2, 3, 4, 5, 6, 7, 8, 10, 0] rfl ?_
          exact G2_tellMornings_J121_ok C hd hr (obA9 c31) hK45 hK63 h
        · have h := h.2 c34
          refine x_iload_n C rfl 3 rfl dX2_tellMornings_116 ?_
          refine x_goto (tgt := 121) C dX2_tellMornings_117 (by decide) ?_
          refine x_sub [(0, .ref 202), (1, .int p1), (2, .int p2), (3, .int p3), (4, .int p4), (5, .int p5), (6, .int p6), (7, .int p7), (9, .int x.2.1), (10, .ref (19 + x.2.1.toNatClampNeg))] [1, 2, 3, 4, 5, 6, 7, 8, 10, 0] rfl ?_
          exact G2_tellMornings_J121_ok C hd hr (obA9 c31) hK45 hK63 h
theorem G2_tellMornings_L63_ok {p : Program} {e : Env} {s : State} {m : MethodId} {args : Array Value} {below : List Frame} {meth : Method} {c : Code} {l : Launch} {φ : Nat → Nat} {tc : Nat → ClassId} {D : va_G} {s0 : State} {dR : Nat} (C : CX p s m args meth c φ tc D (AX φ) s0 cX2_tellMornings RX2 11) (hd : G2_tellMornings_dep ≤ dR) (hr : meth.sig.returnType = (some .int))  {p1 : Int32} {p2 : Int32} {p3 : Int32} {p4 : Int32} {p5 : Int32} {p6 : Int32} {p7 : Int32} {Q : Int32 → MM → Prop} {K45 : Int32 × Int32 × Int32 × Int32 × MM → Prop} {x : Int32 × Int32 × MM}   (hK45 : ∀ (z4 : Int32) (z5 : Int32) (z6 : Int32) (z7 : Int32) (zμ : MM), K45 (z4, z5, z6, z7, zμ) → WX p l e (rmX dR) s m args below meth c φ tc D (AX φ) 11 0 0 (MQ below (QX φ tc D (QI Q)) args s 0 0 (AX φ)) 45 [(0, .ref 202), (1, .int p1), (2, .int p2), (3, .int p3), (4, .int z4), (5, .int z5), (6, .int z6), (7, .int z7)] [] zμ) (h : Lp (G2_tellMornings_L63 p1 p2 p3 p4 p5 p6 p7 K45 Q) x) : WX p l e (rmX dR) s m args below meth c φ tc D (AX φ) 11 0 0 (MQ below (QX φ tc D (QI Q)) args s 0 0 (AX φ)) 63 [(0, .ref 202), (1, .int p1), (2, .int p2), (3, .int p3), (4, .int p4), (5, .int p5), (6, .int p6), (7, .int p7), (8, .int x.1), (9, .int x.2.1)] [] x.2.2 := by
  obtain ⟨n, h⟩ := h
  induction n generalizing x with
  | zero => exact h.elim
  | succ n ih => exact G2_tellMornings_L63_b C hd hr  hK45 (fun z8 z9 zμ hz => by have q := ih hz; exact q) h
set_option maxHeartbeats 4000000 in
set_option maxRecDepth 100000 in
theorem G2_tellMornings_L45_b {p : Program} {e : Env} {s : State} {m : MethodId} {args : Array Value} {below : List Frame} {meth : Method} {c : Code} {l : Launch} {φ : Nat → Nat} {tc : Nat → ClassId} {D : va_G} {s0 : State} {dR : Nat} (C : CX p s m args meth c φ tc D (AX φ) s0 cX2_tellMornings RX2 11) (hd : G2_tellMornings_dep ≤ dR) (hr : meth.sig.returnType = (some .int))  {p1 : Int32} {p2 : Int32} {p3 : Int32} {Q : Int32 → MM → Prop} {K45 : Int32 × Int32 × Int32 × Int32 × MM → Prop} {x : Int32 × Int32 × Int32 × Int32 × MM}   (hK45 : ∀ (z4 : Int32) (z5 : Int32) (z6 : Int32) (z7 : Int32) (zμ : MM), K45 (z4, z5, z6, z7, zμ) → WX p l e (rmX dR) s m args below meth c φ tc D (AX φ) 11 0 0 (MQ below (QX φ tc D (QI Q)) args s 0 0 (AX φ)) 45 [(0, .ref 202), (1, .int p1), (2, .int p2), (3, .int p3), (4, .int z4), (5, .int z5), (6, .int z6), (7, .int z7)] [] zμ) (h : G2_tellMornings_L45 p1 p2 p3 Q K45 x) : WX p l e (rmX dR) s m args below meth c φ tc D (AX φ) 11 0 0 (MQ below (QX φ tc D (QI Q)) args s 0 0 (AX φ)) 45 [(0, .ref 202), (1, .int p1), (2, .int p2), (3, .int p3), (4, .int x.1), (5, .int x.2.1), (6, .int x.2.2.1), (7, .int x.2.2.2.1)] [] x.2.2.2.2 := by
  unfold G2_tellMornings_L45 at h
  refine x_iload C 7 rfl dX2_tellMornings_45 ?_
  refine x_aload_n C rfl 0 rfl dX2_tellMornings_47 ?_
  refine x_getR (r := 1) C (j := 0) ob202.1 ob202.2 (Nat.le_of_ble_eq_true rfl) (Nat.le_of_ble_eq_true rfl) (fun _ _ _ => rfl) r_202_0 tw_2_92 dX2_tellMornings_48 ?_
  refine x_getIN C (j := 8) ob1.1 ob1.2 (Nat.le_of_ble_eq_true rfl) (Nat.le_of_ble_eq_true rfl) (Or.inl rfl) tw_1_142 dX2_tellMornings_51 ?_
  refine x_icmp_ge (tgt := 192) C dX2_tellMornings_54 (by decide) (fun c23 => ?_) (fun c23 => ?_)
  · have h := h.1 c23
    refine x_aload_n C rfl 0 rfl dX2_tellMornings_192 ?_
    refine x_getR (r := 151) C (j := 1) ob202.1 ob202.2 (Nat.le_of_ble_eq_true rfl) (Nat.le_of_ble_eq_true rfl) (fun _ _ _ => rfl) r_202_1 tw_2_93 dX2_tellMornings_193 ?_
    refine x_callVN (dC := G7_clear_dep) (as := []) (st := []) C rX kX (Nat.le_trans (Nat.le_of_ble_eq_true rfl) hd) (Nat.le_of_ble_eq_true rfl) ob151.1 ob151.2 (Nat.le_of_ble_eq_true rfl) rfl ts_3_8 tw_4_48 tw_5_112 tc_4_49 tw_1_5 hyX7 hnX7_clear rfl (Nat.le_of_ble_eq_true rfl) dX2_tellMornings_196 (G7_clear_met C.2.2.2.2.2.2.2.1 (Nat.le_refl _)  h) (fun r0 μ24 hq => ?_)
    obtain ⟨rfl, h⟩ := hq
    refine x_st [] rfl ?_
    refine x_aload_n C rfl 0 rfl dX2_tellMornings_199 ?_
    refine x_getR (r := 151) C (j := 1) ob202.1 ob202.2 (Nat.le_of_ble_eq_true rfl) (Nat.le_of_ble_eq_true rfl) (fun _ _ _ => rfl) r_202_1 tw_2_93 dX2_tellMornings_200 ?_
    refine x_iload C 5 rfl dX2_tellMornings_203 ?_
    refine x_i2l C dX2_tellMornings_205 ?_
    refine x_callVN (dC := G7_add_dep) (as := [.long (x.2.1.toInt64)]) (st := []) C rX kX (Nat.le_trans (Nat.le_of_ble_eq_true rfl) hd) (Nat.le_of_ble_eq_true rfl) ob151.1 ob151.2 (Nat.le_of_ble_eq_true rfl) rfl ts_3_11 tw_4_63 tw_5_113 tc_4_64 tw_1_5 hyX7 hnX7_add rfl (Nat.le_of_ble_eq_true rfl) dX2_tellMornings_206 (G7_add_met C.2.2.2.2.2.2.2.1 (Nat.le_refl _)  h) (fun r0 μ25 hq => ?_)
    obtain ⟨rfl, h⟩ := hq
    refine x_st [] rfl ?_
    refine x_aload_n C rfl 0 rfl dX2_tellMornings_209 ?_
    refine x_getR (r := 151) C (j := 1) ob202.1 ob202.2 (Nat.le_of_ble_eq_true rfl) (Nat.le_of_ble_eq_true rfl) (fun _ _ _ => rfl) r_202_1 tw_2_93 dX2_tellMornings_210 ?_
    refine x_iload C 6 rfl dX2_tellMornings_213 ?_
    refine x_i2l C dX2_tellMornings_215 ?_
    refine x_callVN (dC := G7_add_dep) (as := [.long (x.2.2.1.toInt64)]) (st := []) C rX kX (Nat.le_trans (Nat.le_of_ble_eq_true rfl) hd) (Nat.le_of_ble_eq_true rfl) ob151.1 ob151.2 (Nat.le_of_ble_eq_true rfl) rfl ts_3_11 tw_4_63 tw_5_113 tc_4_64 tw_1_5 hyX7 hnX7_add rfl (Nat.le_of_ble_eq_true rfl) dX2_tellMornings_216 (G7_add_met C.2.2.2.2.2.2.2.1 (Nat.le_refl _)  h) (fun r0 μ26 hq => ?_)
    obtain ⟨rfl, h⟩ := hq
    refine x_st [] rfl ?_
    refine x_iload C 4 rfl dX2_tellMornings_219 ?_
    exact x_iret C hr dX2_tellMornings_221 ⟨_, rfl, h⟩
  · have h := h.2 c23
    refine x_iconst (v := 0) C (by decide) dX2_tellMornings_57 ?_
    refine x_istore C [(8, .int 0), (0, .ref 202), (1, .int p1), (2, .int p2), (3, .int p3), (4, .int x.1), (5, .int x.2.1), (6, .int x.2.2.1), (7, .int x.2.2.2.1)] (Nat.le_of_ble_eq_true rfl) rfl dX2_tellMornings_58 ?_
    refine x_iconst (v := 0) C (by decide) dX2_tellMornings_60 ?_
    refine x_istore C [(9, .int 0), (8, .int 0), (0, .ref 202), (1, .int p1), (2, .int p2), (3, .int p3), (4, .int x.1), (5, .int x.2.1), (6, .int x.2.2.1), (7, .int x.2.2.2.1)] (Nat.le_of_ble_eq_true rfl) rfl dX2_tellMornings_61 ?_
    refine x_sub [(0, .ref 202), (1, .int p1), (2, .int p2), (3, .int p3), (4, .int x.1), (5, .int x.2.1), (6, .int x.2.2.1), (7, .int x.2.2.2.1), (8, .int 0), (9, .int 0)] [2, 3, 4, 5, 6, 7, 8, 9, 1, 0] rfl ?_
    exact G2_tellMornings_L63_ok C hd hr hK45 h
theorem G2_tellMornings_L45_ok {p : Program} {e : Env} {s : State} {m : MethodId} {args : Array Value} {below : List Frame} {meth : Method} {c : Code} {l : Launch} {φ : Nat → Nat} {tc : Nat → ClassId} {D : va_G} {s0 : State} {dR : Nat} (C : CX p s m args meth c φ tc D (AX φ) s0 cX2_tellMornings RX2 11) (hd : G2_tellMornings_dep ≤ dR) (hr : meth.sig.returnType = (some .int))  {p1 : Int32} {p2 : Int32} {p3 : Int32} {Q : Int32 → MM → Prop}  {x : Int32 × Int32 × Int32 × Int32 × MM}    (h : Lp (G2_tellMornings_L45 p1 p2 p3 Q) x) : WX p l e (rmX dR) s m args below meth c φ tc D (AX φ) 11 0 0 (MQ below (QX φ tc D (QI Q)) args s 0 0 (AX φ)) 45 [(0, .ref 202), (1, .int p1), (2, .int p2), (3, .int p3), (4, .int x.1), (5, .int x.2.1), (6, .int x.2.2.1), (7, .int x.2.2.2.1)] [] x.2.2.2.2 := by
  obtain ⟨n, h⟩ := h
  induction n generalizing x with
  | zero => exact h.elim
  | succ n ih => exact G2_tellMornings_L45_b C hd hr   (fun z4 z5 z6 z7 zμ hz => by have q := ih hz; exact q) h
set_option maxHeartbeats 4000000 in
set_option maxRecDepth 100000 in
theorem G2_tellMornings_met {l : Launch} {φ : Nat → Nat} {tc : Nat → ClassId} {D : va_G} {s0 : State} (hG : GX φ tc D s0) {dR : Nat} (hd : G2_tellMornings_dep ≤ dR) {v1 : Int32} {v2 : Int32} {v3 : Int32} {μ : MM} {Q : Int32 → MM → Prop}  (h : G2_tellMornings v1 v2 v3 μ Q) : MX l φ tc D s0 dR yX2_tellMornings cX2_tellMornings 11 (some .int) [.ref 202, .int v1, .int v2, .int v3] μ (QI Q) := by
  refine MX.of (own := RX2) hG plX2 rfl (Nat.le_of_ble_eq_true rfl) (fun p e s m args below meth c C hr => ?_)
  refine x_sub [(0, .ref 202), (1, .int v1), (2, .int v2), (3, .int v3)] [0, 1, 2, 3] rfl ?_
  unfold G2_tellMornings at h
  refine x_iload_n C rfl 1 rfl dX2_tellMornings_0 ?_
  refine x_iconst (v := 0) C (by decide) dX2_tellMornings_1 ?_
  refine x_bipush (v := 99) C (by decide) dX2_tellMornings_2 ?_
  refine x_callSN (dC := G11_within_dep) (as := [.int v1, .int 0, .int 99]) (st := []) C rX kX (Nat.le_trans (Nat.le_of_ble_eq_true rfl) hd) (Nat.le_of_ble_eq_true rfl) tw_2_196 tw_5_103 tc_2_197 tw_1_1 hyX11 hnX11_within rfl (Nat.le_of_ble_eq_true rfl) dX2_tellMornings_4 (G11_within_met C.2.2.2.2.2.2.2.1 (Nat.le_refl _)  h) (fun r0 μ14 hq => ?_)
  obtain ⟨r15, rfl, h⟩ := hq
  refine x_st [.int r15] rfl ?_
  refine x_if_eq (tgt := 31) C dX2_tellMornings_7 (by decide) (fun c16 => ?_) (fun c16 => ?_)
  · have h := h.1 c16
    refine x_iconst (v := (-1)) C (by decide) dX2_tellMornings_31 ?_
    exact x_iret C hr dX2_tellMornings_32 ⟨_, rfl, h⟩
  · have h := h.2 c16
    refine x_iload_n C rfl 2 rfl dX2_tellMornings_10 ?_
    refine x_iconst (v := 0) C (by decide) dX2_tellMornings_11 ?_
    refine x_bipush (v := 99) C (by decide) dX2_tellMornings_12 ?_
    refine x_callSN (dC := G11_within_dep) (as := [.int v2, .int 0, .int 99]) (st := []) C rX kX (Nat.le_trans (Nat.le_of_ble_eq_true rfl) hd) (Nat.le_of_ble_eq_true rfl) tw_2_196 tw_5_103 tc_2_197 tw_1_1 hyX11 hnX11_within rfl (Nat.le_of_ble_eq_true rfl) dX2_tellMornings_14 (G11_within_met C.2.2.2.2.2.2.2.1 (Nat.le_refl _)  h) (fun r0 μ17 hq => ?_)
    obtain ⟨r18, rfl, h⟩ := hq
    refine x_st [.int r18] rfl ?_
    refine x_if_eq (tgt := 31) C dX2_tellMornings_17 (by decide) (fun c19 => ?_) (fun c19 => ?_)
    · have h := h.1 c19
      refine x_iconst (v := (-1)) C (by decide) dX2_tellMornings_31 ?_
      exact x_iret C hr dX2_tellMornings_32 ⟨_, rfl, h⟩
    · have h := h.2 c19
      refine x_iload_n C rfl 3 rfl dX2_tellMornings_20 ?_
      refine x_iconst (v := 0) C (by decide) dX2_tellMornings_21 ?_
      refine x_sipush (v := 999) C (by decide) dX2_tellMornings_22 ?_
      refine x_callSN (dC := G11_within_dep) (as := [.int v3, .int 0, .int 999]) (st := []) C rX kX (Nat.le_trans (Nat.le_of_ble_eq_true rfl) hd) (Nat.le_of_ble_eq_true rfl) tw_2_196 tw_5_103 tc_2_197 tw_1_1 hyX11 hnX11_within rfl (Nat.le_of_ble_eq_true rfl) dX2_tellMornings_25 (G11_within_met C.2.2.2.2.2.2.2.1 (Nat.le_refl _)  h) (fun r0 μ20 hq => ?_)
      obtain ⟨r21, rfl, h⟩ := hq
      refine x_st [.int r21] rfl ?_
      refine x_if_ne (tgt := 33) C dX2_tellMornings_28 (by decide) (fun c22 => ?_) (fun c22 => ?_)
      · have h := h.1 c22
        refine x_iconst (v := 0) C (by decide) dX2_tellMornings_33 ?_
        refine x_istore C [(4, .int 0), (0, .ref 202), (1, .int v1), (2, .int v2), (3, .int v3)] (Nat.le_of_ble_eq_true rfl) rfl dX2_tellMornings_34 ?_
        refine x_iconst (v := (-1)) C (by decide) dX2_tellMornings_36 ?_
        refine x_istore C [(5, .int (-1)), (4, .int 0), (0, .ref 202), (1, .int v1), (2, .int v2), (3, .int v3)] (Nat.le_of_ble_eq_true rfl) rfl dX2_tellMornings_37 ?_
        refine x_iconst (v := 0) C (by decide) dX2_tellMornings_39 ?_
        refine x_istore C [(6, .int 0), (5, .int (-1)), (4, .int 0), (0, .ref 202), (1, .int v1), (2, .int v2), (3, .int v3)] (Nat.le_of_ble_eq_true rfl) rfl dX2_tellMornings_40 ?_
        refine x_iconst (v := 0) C (by decide) dX2_tellMornings_42 ?_
        refine x_istore C [(7, .int 0), (6, .int 0), (5, .int (-1)), (4, .int 0), (0, .ref 202), (1, .int v1), (2, .int v2), (3, .int v3)] (Nat.le_of_ble_eq_true rfl) rfl dX2_tellMornings_43 ?_
        refine x_sub [(0, .ref 202), (1, .int v1), (2, .int v2), (3, .int v3), (4, .int 0), (5, .int (-1)), (6, .int 0), (7, .int 0)] [4, 5, 6, 7, 3, 2, 1, 0] rfl ?_
        exact G2_tellMornings_L45_ok C hd hr  h
      · have h := h.2 c22
        refine x_iconst (v := (-1)) C (by decide) dX2_tellMornings_31 ?_
        exact x_iret C hr dX2_tellMornings_32 ⟨_, rfl, h⟩
set_option maxHeartbeats 4000000 in
set_option maxRecDepth 100000 in
theorem G11_mornings_met {l : Launch} {φ : Nat → Nat} {tc : Nat → ClassId} {D : va_G} {s0 : State} (hG : GX φ tc D s0) {dR : Nat} (hd : G11_mornings_dep ≤ dR) {v1 : Int32} {v2 : Int32} {v3 : Int32} {μ : MM} {Q : Int32 → MM → Prop}  (h : G11_mornings v1 v2 v3 μ Q) : MX l φ tc D s0 dR yX11_mornings cX11_mornings 4 (some .int) [.ref 0, .int v1, .int v2, .int v3] μ (QI Q) := by
  refine MX.of (own := RX11) hG plX11 rfl (Nat.le_of_ble_eq_true rfl) (fun p e s m args below meth c C hr => ?_)
  refine x_sub [(0, .ref 0), (1, .int v1), (2, .int v2), (3, .int v3)] [0, 1, 2, 3] rfl ?_
  unfold G11_mornings at h
  refine x_aload_n C rfl 0 rfl dX11_mornings_0 ?_
  refine x_getR (r := 202) C (j := 4) ob0.1 ob0.2 (Nat.le_of_ble_eq_true rfl) (Nat.le_of_ble_eq_true rfl) (fun _ _ _ => rfl) r_0_4 tw_2_167 dX11_mornings_1 ?_
  refine x_iload_n C rfl 1 rfl dX11_mornings_4 ?_
  refine x_iload_n C rfl 2 rfl dX11_mornings_5 ?_
  refine x_iload_n C rfl 3 rfl dX11_mornings_6 ?_
  refine x_callVN (dC := G2_tellMornings_dep) (as := [.int v1, .int v2, .int v3]) (st := []) C rX kX (Nat.le_trans (Nat.le_of_ble_eq_true rfl) hd) (Nat.le_of_ble_eq_true rfl) ob202.1 ob202.2 (Nat.le_of_ble_eq_true rfl) rfl ts_7_0 tw_5_170 tw_5_168 tc_5_171 tw_1_10 hyX2 hnX2_tellMornings rfl (Nat.le_of_ble_eq_true rfl) dX11_mornings_7 (G2_tellMornings_met C.2.2.2.2.2.2.2.1 (Nat.le_refl _)  h) (fun r0 μ3 hq => ?_)
  obtain ⟨r4, rfl, h⟩ := hq
  refine x_st [.int r4] rfl ?_
  exact x_iret C hr dX11_mornings_10 ⟨_, rfl, h⟩
set_option maxHeartbeats 4000000 in
set_option maxRecDepth 100000 in
theorem G6_noteAsking_J41_ok {p : Program} {e : Env} {s : State} {m : MethodId} {args : Array Value} {below : List Frame} {meth : Method} {c : Code} {l : Launch} {φ : Nat → Nat} {tc : Nat → ClassId} {D : va_G} {s0 : State} {dR : Nat} (C : CX p s m args meth c φ tc D (AX φ) s0 cX6_noteAsking RX6 5) (hd : G6_noteAsking_dep ≤ dR) (hr : meth.sig.returnType = (some .int))   {p1 : Int32} {p2 : Int32} {p3 : Int32} {q0 : Int32} {Q : Int32 → MM → Prop}  {μ : MM}    (h : G6_noteAsking_J41 p1 p2 p3 q0 μ Q) : WX p l e (rmX dR) s m args below meth c φ tc D (AX φ) 5 0 0 (MQ below (QX φ tc D (QI Q)) args s 0 0 (AX φ)) 41 [(0, .ref 237), (1, .int p1), (2, .int p2), (3, .int p3)] [.int q0] μ := by
  unfold G6_noteAsking_J41 at h
  refine x_istore C [(4, .int q0), (0, .ref 237), (1, .int p1), (2, .int p2), (3, .int p3)] (Nat.le_of_ble_eq_true rfl) rfl dX6_noteAsking_41 ?_
  refine x_iload C 0 rfl dX6_noteAsking_43 ?_
  refine x_if_eq (tgt := 57) C dX6_noteAsking_45 (by decide) (fun c17 => ?_) (fun c17 => ?_)
  · have h := h.1 c17
    refine x_iconst (v := (-1)) C (by decide) dX6_noteAsking_57 ?_
    exact x_iret C hr dX6_noteAsking_58 ⟨_, rfl, h⟩
  · have h := h.2 c17
    refine x_aload_n C rfl 1 rfl dX6_noteAsking_48 ?_
    refine x_getI C (j := 5) ob237.1 ob237.2 (Nat.le_of_ble_eq_true rfl) (Nat.le_of_ble_eq_true rfl) (Or.inl rfl) tw_2_117 dX6_noteAsking_49 ?_
    refine x_bipush (v := 40) C (by decide) dX6_noteAsking_52 ?_
    refine x_icmp_ne (tgt := 59) C dX6_noteAsking_54 (by decide) (fun c18 => ?_) (fun c18 => ?_)
    · have h := h.1 c18
      refine x_aload_n C rfl 1 rfl dX6_noteAsking_59 ?_
      refine x_getR (r := 238) C (j := 2) ob237.1 ob237.2 (Nat.le_of_ble_eq_true rfl) (Nat.le_of_ble_eq_true rfl) (fun _ _ _ => rfl) r_237_2 tw_2_114 dX6_noteAsking_60 ?_
      refine x_aload_n C rfl 1 rfl dX6_noteAsking_63 ?_
      refine x_getI C (j := 5) ob237.1 ob237.2 (Nat.le_of_ble_eq_true rfl) (Nat.le_of_ble_eq_true rfl) (Or.inl rfl) tw_2_117 dX6_noteAsking_64 ?_
      refine x_iload_n C rfl 2 rfl dX6_noteAsking_67 ?_
      obtain ⟨c19, h⟩ := h
      refine x_iast C ob238.1 ob238.2 c19 rfl dX6_noteAsking_68 ?_
      refine x_mu (fun μ20 e_μ20 => ?_)
      have h := h μ20 e_μ20
      refine x_aload_n C rfl 1 rfl dX6_noteAsking_69 ?_
      refine x_getR (r := 239) C (j := 3) ob237.1 ob237.2 (Nat.le_of_ble_eq_true rfl) (Nat.le_of_ble_eq_true rfl) (fun _ _ _ => rfl) r_237_3 tw_2_115 dX6_noteAsking_70 ?_
      refine x_aload_n C rfl 1 rfl dX6_noteAsking_73 ?_
      refine x_getI C (j := 5) ob237.1 ob237.2 (Nat.le_of_ble_eq_true rfl) (Nat.le_of_ble_eq_true rfl) (Or.inl rfl) tw_2_117 dX6_noteAsking_74 ?_
      refine x_iload_n C rfl 3 rfl dX6_noteAsking_77 ?_
      obtain ⟨c21, h⟩ := h
      refine x_iast C ob239.1 ob239.2 c21 rfl dX6_noteAsking_78 ?_
      refine x_mu (fun μ22 e_μ22 => ?_)
      have h := h μ22 e_μ22
      refine x_aload_n C rfl 1 rfl dX6_noteAsking_79 ?_
      refine x_getR (r := 240) C (j := 4) ob237.1 ob237.2 (Nat.le_of_ble_eq_true rfl) (Nat.le_of_ble_eq_true rfl) (fun _ _ _ => rfl) r_237_4 tw_2_116 dX6_noteAsking_80 ?_
      refine x_aload_n C rfl 1 rfl dX6_noteAsking_83 ?_
      refine x_getI C (j := 5) ob237.1 ob237.2 (Nat.le_of_ble_eq_true rfl) (Nat.le_of_ble_eq_true rfl) (Or.inl rfl) tw_2_117 dX6_noteAsking_84 ?_
      refine x_iload_n C rfl 4 rfl dX6_noteAsking_87 ?_
      obtain ⟨c23, h⟩ := h
      refine x_iast C ob240.1 ob240.2 c23 rfl dX6_noteAsking_88 ?_
      refine x_mu (fun μ24 e_μ24 => ?_)
      have h := h μ24 e_μ24
      refine x_aload_n C rfl 1 rfl dX6_noteAsking_89 ?_
      refine x_dup C rfl dX6_noteAsking_90 ?_
      refine x_getI C (j := 5) ob237.1 ob237.2 (Nat.le_of_ble_eq_true rfl) (Nat.le_of_ble_eq_true rfl) (Or.inl rfl) tw_2_117 dX6_noteAsking_91 ?_
      refine x_iconst (v := 1) C (by decide) dX6_noteAsking_94 ?_
      refine x_iadd C dX6_noteAsking_95 ?_
      refine x_putI C (j := 5) ob237.1 ob237.2 (Nat.le_of_ble_eq_true rfl) (Nat.le_of_ble_eq_true rfl) (Or.inl rfl) rfl rfl rfl tw_2_117 dX6_noteAsking_96 ?_
      refine x_mu (fun μ25 e_μ25 => ?_)
      have h := h μ25 e_μ25
      refine x_aload_n C rfl 1 rfl dX6_noteAsking_99 ?_
      refine x_getI C (j := 5) ob237.1 ob237.2 (Nat.le_of_ble_eq_true rfl) (Nat.le_of_ble_eq_true rfl) (Or.inl rfl) tw_2_117 dX6_noteAsking_100 ?_
      exact x_iret C hr dX6_noteAsking_103 ⟨_, rfl, h⟩
    · have h := h.2 c18
      refine x_iconst (v := (-1)) C (by decide) dX6_noteAsking_57 ?_
      exact x_iret C hr dX6_noteAsking_58 ⟨_, rfl, h⟩
set_option maxHeartbeats 4000000 in
set_option maxRecDepth 100000 in
theorem G6_noteAsking_J40_ok {p : Program} {e : Env} {s : State} {m : MethodId} {args : Array Value} {below : List Frame} {meth : Method} {c : Code} {l : Launch} {φ : Nat → Nat} {tc : Nat → ClassId} {D : va_G} {s0 : State} {dR : Nat} (C : CX p s m args meth c φ tc D (AX φ) s0 cX6_noteAsking RX6 5) (hd : G6_noteAsking_dep ≤ dR) (hr : meth.sig.returnType = (some .int))   {p1 : Int32} {p2 : Int32} {p3 : Int32} {Q : Int32 → MM → Prop}  {μ : MM}    (h : G6_noteAsking_J40 p1 p2 p3 μ Q) : WX p l e (rmX dR) s m args below meth c φ tc D (AX φ) 5 0 0 (MQ below (QX φ tc D (QI Q)) args s 0 0 (AX φ)) 40 [(0, .ref 237), (1, .int p1), (2, .int p2), (3, .int p3)] [] μ := by
  unfold G6_noteAsking_J40 at h
  refine x_iconst (v := 0) C (by decide) dX6_noteAsking_40 ?_
  exact G6_noteAsking_J41_ok C hd hr  h
set_option maxHeartbeats 4000000 in
set_option maxRecDepth 100000 in
theorem G6_noteAsking_met {l : Launch} {φ : Nat → Nat} {tc : Nat → ClassId} {D : va_G} {s0 : State} (hG : GX φ tc D s0) {dR : Nat} (hd : G6_noteAsking_dep ≤ dR) {v1 : Int32} {v2 : Int32} {v3 : Int32} {μ : MM} {Q : Int32 → MM → Prop}  (h : G6_noteAsking v1 v2 v3 μ Q) : MX l φ tc D s0 dR yX6_noteAsking cX6_noteAsking 5 (some .int) [.ref 237, .int v1, .int v2, .int v3] μ (QI Q) := by
  refine MX.of (own := RX6) hG plX6 rfl (Nat.le_of_ble_eq_true rfl) (fun p e s m args below meth c C hr => ?_)
  refine x_sub [(0, .ref 237), (1, .int v1), (2, .int v2), (3, .int v3)] [0, 1, 2, 3] rfl ?_
  unfold G6_noteAsking at h
  refine x_aload_n C rfl 0 rfl dX6_noteAsking_0 ?_
  refine x_getR (r := 1) C (j := 0) ob237.1 ob237.2 (Nat.le_of_ble_eq_true rfl) (Nat.le_of_ble_eq_true rfl) (fun _ _ _ => rfl) r_237_0 tw_2_112 dX6_noteAsking_1 ?_
  refine x_iload_n C rfl 1 rfl dX6_noteAsking_4 ?_
  refine x_callVN (dC := G10_isLetter_dep) (as := [.int v1]) (st := []) C rX kX (Nat.le_trans (Nat.le_of_ble_eq_true rfl) hd) (Nat.le_of_ble_eq_true rfl) ob1.1 ob1.2 (Nat.le_of_ble_eq_true rfl) rfl ts_2_14 tw_3_228 tw_5_180 tc_3_229 tw_1_2 hyX10 hnX10_isLetter rfl (Nat.le_of_ble_eq_true rfl) dX6_noteAsking_5 (G10_isLetter_met C.2.2.2.2.2.2.2.1 (Nat.le_refl _)  h) (fun r0 μ14 hq => ?_)
  obtain ⟨r15, rfl, h⟩ := hq
  refine x_st [.int r15] rfl ?_
  refine x_if_eq (tgt := 40) C dX6_noteAsking_8 (by decide) (fun c16 => ?_) (fun c16 => ?_)
  · have h := h.1 c16
    exact G6_noteAsking_J40_ok C hd hr  h
  · have h := h.2 c16
    refine x_aload_n C rfl 0 rfl dX6_noteAsking_11 ?_
    refine x_getR (r := 1) C (j := 0) ob237.1 ob237.2 (Nat.le_of_ble_eq_true rfl) (Nat.le_of_ble_eq_true rfl) (fun _ _ _ => rfl) r_237_0 tw_2_112 dX6_noteAsking_12 ?_
    refine x_iload_n C rfl 2 rfl dX6_noteAsking_15 ?_
    refine x_callVN (dC := G10_isLetter_dep) (as := [.int v2]) (st := []) C rX kX (Nat.le_trans (Nat.le_of_ble_eq_true rfl) hd) (Nat.le_of_ble_eq_true rfl) ob1.1 ob1.2 (Nat.le_of_ble_eq_true rfl) rfl ts_2_14 tw_3_228 tw_5_180 tc_3_229 tw_1_2 hyX10 hnX10_isLetter rfl (Nat.le_of_ble_eq_true rfl) dX6_noteAsking_16 (G10_isLetter_met C.2.2.2.2.2.2.2.1 (Nat.le_refl _)  h) (fun r0 μ26 hq => ?_)
    obtain ⟨r27, rfl, h⟩ := hq
    refine x_st [.int r27] rfl ?_
    refine x_if_eq (tgt := 40) C dX6_noteAsking_19 (by decide) (fun c28 => ?_) (fun c28 => ?_)
    · have h := h.1 c28
      exact G6_noteAsking_J40_ok C hd hr  h
    · have h := h.2 c28
      refine x_iload_n C rfl 1 rfl dX6_noteAsking_22 ?_
      refine x_iload_n C rfl 2 rfl dX6_noteAsking_23 ?_
      refine x_icmp_eq (tgt := 40) C dX6_noteAsking_24 (by decide) (fun c29 => ?_) (fun c29 => ?_)
      · have h := h.1 c29
        exact G6_noteAsking_J40_ok C hd hr  h
      · have h := h.2 c29
        refine x_iload_n C rfl 3 rfl dX6_noteAsking_27 ?_
        refine x_iconst (v := 0) C (by decide) dX6_noteAsking_28 ?_
        refine x_iconst (v := 2) C (by decide) dX6_noteAsking_29 ?_
        refine x_callSN (dC := G11_within_dep) (as := [.int v3, .int 0, .int 2]) (st := []) C rX kX (Nat.le_trans (Nat.le_of_ble_eq_true rfl) hd) (Nat.le_of_ble_eq_true rfl) tw_2_196 tw_5_181 tc_2_197 tw_1_1 hyX11 hnX11_within rfl (Nat.le_of_ble_eq_true rfl) dX6_noteAsking_30 (G11_within_met C.2.2.2.2.2.2.2.1 (Nat.le_refl _)  h) (fun r0 μ30 hq => ?_)
        obtain ⟨r31, rfl, h⟩ := hq
        refine x_st [.int r31] rfl ?_
        refine x_if_eq (tgt := 40) C dX6_noteAsking_33 (by decide) (fun c32 => ?_) (fun c32 => ?_)
        · have h := h.1 c32
          exact G6_noteAsking_J40_ok C hd hr  h
        · have h := h.2 c32
          refine x_iconst (v := 1) C (by decide) dX6_noteAsking_36 ?_
          refine x_goto (tgt := 41) C dX6_noteAsking_37 (by decide) ?_
          exact G6_noteAsking_J41_ok C hd hr  h
set_option maxHeartbeats 4000000 in
set_option maxRecDepth 100000 in
theorem G11_asked_met {l : Launch} {φ : Nat → Nat} {tc : Nat → ClassId} {D : va_G} {s0 : State} (hG : GX φ tc D s0) {dR : Nat} (hd : G11_asked_dep ≤ dR) {v1 : Int32} {v2 : Int32} {v3 : Int32} {μ : MM} {Q : Int32 → MM → Prop}  (h : G11_asked v1 v2 v3 μ Q) : MX l φ tc D s0 dR yX11_asked cX11_asked 4 (some .int) [.ref 0, .int v1, .int v2, .int v3] μ (QI Q) := by
  refine MX.of (own := RX11) hG plX11 rfl (Nat.le_of_ble_eq_true rfl) (fun p e s m args below meth c C hr => ?_)
  refine x_sub [(0, .ref 0), (1, .int v1), (2, .int v2), (3, .int v3)] [0, 1, 2, 3] rfl ?_
  unfold G11_asked at h
  refine x_aload_n C rfl 0 rfl dX11_asked_0 ?_
  refine x_getR (r := 237) C (j := 5) ob0.1 ob0.2 (Nat.le_of_ble_eq_true rfl) (Nat.le_of_ble_eq_true rfl) (fun _ _ _ => rfl) r_0_5 tw_2_168 dX11_asked_1 ?_
  refine x_iload_n C rfl 1 rfl dX11_asked_4 ?_
  refine x_iload_n C rfl 2 rfl dX11_asked_5 ?_
  refine x_iload_n C rfl 3 rfl dX11_asked_6 ?_
  refine x_callVN (dC := G6_noteAsking_dep) (as := [.int v1, .int v2, .int v3]) (st := []) C rX kX (Nat.le_trans (Nat.le_of_ble_eq_true rfl) hd) (Nat.le_of_ble_eq_true rfl) ob237.1 ob237.2 (Nat.le_of_ble_eq_true rfl) rfl ts_7_1 tw_5_178 tw_5_176 tc_5_179 tw_1_11 hyX6 hnX6_noteAsking rfl (Nat.le_of_ble_eq_true rfl) dX11_asked_7 (G6_noteAsking_met C.2.2.2.2.2.2.2.1 (Nat.le_refl _)  h) (fun r0 μ3 hq => ?_)
  obtain ⟨r4, rfl, h⟩ := hq
  refine x_st [.int r4] rfl ?_
  exact x_iret C hr dX11_asked_10 ⟨_, rfl, h⟩
set_option maxHeartbeats 4000000 in
set_option maxRecDepth 100000 in
theorem G6_goesAgainst_met {l : Launch} {φ : Nat → Nat} {tc : Nat → ClassId} {D : va_G} {s0 : State} (hG : GX φ tc D s0) {dR : Nat} (hd : G6_goesAgainst_dep ≤ dR) {v1 : Int32} {v2 : Int32} {v3 : Int32} {v4 : Int32} {μ : MM} {Q : Int32 → MM → Prop}  (h : G6_goesAgainst v1 v2 v3 v4 μ Q) : MX l φ tc D s0 dR yX6_goesAgainst cX6_goesAgainst 6 (some .boolean) [.ref 237, .int v1, .int v2, .int v3, .int v4] μ (QI Q) := by
  refine MX.of (own := RX6) hG plX6 rfl (Nat.le_of_ble_eq_true rfl) (fun p e s m args below meth c C hr => ?_)
  refine x_sub [(0, .ref 237), (1, .int v1), (2, .int v2), (3, .int v3), (4, .int v4)] [0, 1, 2, 3, 4] rfl ?_
  unfold G6_goesAgainst at h
  refine x_aload_n C rfl 0 rfl dX6_goesAgainst_0 ?_
  refine x_getR (r := 241) C (j := 6) ob237.1 ob237.2 (Nat.le_of_ble_eq_true rfl) (Nat.le_of_ble_eq_true rfl) (fun _ _ _ => rfl) r_237_6 tw_2_119 dX6_goesAgainst_1 ?_
  refine x_iload_n C rfl 1 rfl dX6_goesAgainst_4 ?_
  obtain ⟨c7, h⟩ := h
  refine x_aald (r := (242 + v1.toNatClampNeg)) C ob241.1 (by decide) (by decide) c7 rfl (rA241 c7) dX6_goesAgainst_5 ?_
  refine x_iload_n C rfl 2 rfl dX6_goesAgainst_6 ?_
  obtain ⟨c8, h⟩ := h
  refine x_iald C (obA241 c7).1 (obA241 c7).2 (by rw [lnA241 c7]; exact c8) rfl dX6_goesAgainst_7 ?_
  refine x_aload_n C rfl 0 rfl dX6_goesAgainst_8 ?_
  refine x_getR (r := 241) C (j := 6) ob237.1 ob237.2 (Nat.le_of_ble_eq_true rfl) (Nat.le_of_ble_eq_true rfl) (fun _ _ _ => rfl) r_237_6 tw_2_119 dX6_goesAgainst_9 ?_
  refine x_iload_n C rfl 1 rfl dX6_goesAgainst_12 ?_
  obtain ⟨c9, h⟩ := h
  refine x_aald (r := (242 + v1.toNatClampNeg)) C ob241.1 (by decide) (by decide) c9 rfl (rA241 c9) dX6_goesAgainst_13 ?_
  refine x_iload_n C rfl 3 rfl dX6_goesAgainst_14 ?_
  obtain ⟨c10, h⟩ := h
  refine x_iald C (obA241 c9).1 (obA241 c9).2 (by rw [lnA241 c9]; exact c10) rfl dX6_goesAgainst_15 ?_
  refine x_callS (dC := GJ6_compare_7cf53_dep) (as := [.int (gI μ (242 + v1.toNatClampNeg) v2.toNatClampNeg), .int (gI μ (242 + v1.toNatClampNeg) v3.toNatClampNeg)]) (st := []) C rX kX (Nat.le_trans (Nat.le_of_ble_eq_true rfl) hd) (Nat.le_of_ble_eq_true rfl) tw_4_174 tw_5_201 tc_4_175 tw_1_24 hyJ6 hnJ6_compare_7cf53 rfl (Nat.le_of_ble_eq_true rfl) dX6_goesAgainst_16 (GJ6_compare_7cf53_met C.2.2.2.2.2.2.2.1 (Nat.le_refl _)  h) (fun r0 μ11 hq => ?_)
  obtain ⟨r12, rfl, h⟩ := hq
  refine x_st [.int r12] rfl ?_
  refine x_istore C [(5, .int r12), (0, .ref 237), (1, .int v1), (2, .int v2), (3, .int v3), (4, .int v4)] (Nat.le_of_ble_eq_true rfl) rfl dX6_goesAgainst_19 ?_
  refine x_iload C 5 rfl dX6_goesAgainst_21 ?_
  by_cases c13 : v4 = 1
  · have h := h.1 c13
    refine x_look (tgt := 48) C dX6_goesAgainst_23 (by decide) (off := 25) (by rw [c13]; decide) (by decide) ?_
    refine x_iload C 0 rfl dX6_goesAgainst_48 ?_
    refine x_if_ge (tgt := 57) C dX6_goesAgainst_50 (by decide) (fun c14 => ?_) (fun c14 => ?_)
    · have h := h.1 c14
      refine x_iconst (v := 0) C (by decide) dX6_goesAgainst_57 ?_
      exact x_zret C hr bo_0 dX6_goesAgainst_58 ⟨_, rfl, h⟩
    · have h := h.2 c14
      refine x_iconst (v := 1) C (by decide) dX6_goesAgainst_53 ?_
      refine x_goto (tgt := 58) C dX6_goesAgainst_54 (by decide) ?_
      exact x_zret C hr bo_1 dX6_goesAgainst_58 ⟨_, rfl, h⟩
  have h := h.2
  by_cases c15 : v4 = 2
  · have h := h.1 c15
    refine x_look (tgt := 59) C dX6_goesAgainst_23 (by decide) (off := 36) (by rw [c15]; decide) (by decide) ?_
    refine x_iload C 0 rfl dX6_goesAgainst_59 ?_
    refine x_if_le (tgt := 68) C dX6_goesAgainst_61 (by decide) (fun c16 => ?_) (fun c16 => ?_)
    · have h := h.1 c16
      refine x_iconst (v := 0) C (by decide) dX6_goesAgainst_68 ?_
      exact x_zret C hr bo_0 dX6_goesAgainst_69 ⟨_, rfl, h⟩
    · have h := h.2 c16
      refine x_iconst (v := 1) C (by decide) dX6_goesAgainst_64 ?_
      refine x_goto (tgt := 69) C dX6_goesAgainst_65 (by decide) ?_
      exact x_zret C hr bo_1 dX6_goesAgainst_69 ⟨_, rfl, h⟩
  have h := h.2
  have h := h c13 c15
  refine x_look (tgt := 70) C dX6_goesAgainst_23 (by decide) (off := 47) (by show Op.lookupswitch.offset [(1, 25), (2, 36)] 47 _ = 47; rw [lv_osw c13 (by decide), lv_osw c15 (by decide)]; rfl) (by decide) ?_
  refine x_iload C 0 rfl dX6_goesAgainst_70 ?_
  refine x_if_eq (tgt := 79) C dX6_goesAgainst_72 (by decide) (fun c17 => ?_) (fun c17 => ?_)
  · have h := h.1 c17
    refine x_iconst (v := 0) C (by decide) dX6_goesAgainst_79 ?_
    exact x_zret C hr bo_0 dX6_goesAgainst_80 ⟨_, rfl, h⟩
  · have h := h.2 c17
    refine x_iconst (v := 1) C (by decide) dX6_goesAgainst_75 ?_
    refine x_goto (tgt := 80) C dX6_goesAgainst_76 (by decide) ?_
    exact x_zret C hr bo_1 dX6_goesAgainst_80 ⟨_, rfl, h⟩
set_option maxHeartbeats 4000000 in
set_option maxRecDepth 100000 in
theorem G6_weigh_L108_b {p : Program} {e : Env} {s : State} {m : MethodId} {args : Array Value} {below : List Frame} {meth : Method} {c : Code} {l : Launch} {φ : Nat → Nat} {tc : Nat → ClassId} {D : va_G} {s0 : State} {dR : Nat} (C : CX p s m args meth c φ tc D (AX φ) s0 cX6_weigh RX6 3) (hd : G6_weigh_dep ≤ dR) (hr : meth.sig.returnType = none)  {p1 : Int32} {Q : MM → Prop} {K93 : Int32 × MM → Prop} {K108 : Int32 × MM → Prop} {x : Int32 × MM}   (hK93 : ∀ (z1 : Int32) (zμ : MM), K93 (z1, zμ) → WX p l e (rmX dR) s m args below meth c φ tc D (AX φ) 3 0 0 (MQ below (QX φ tc D (QV Q)) args s 0 0 (AX φ)) 93 [(0, .ref 237), (1, .int z1)] [] zμ) (hK108 : ∀ (z2 : Int32) (zμ : MM), K108 (z2, zμ) → WX p l e (rmX dR) s m args below meth c φ tc D (AX φ) 3 0 0 (MQ below (QX φ tc D (QV Q)) args s 0 0 (AX φ)) 108 [(0, .ref 237), (1, .int p1), (2, .int z2)] [] zμ) (h : G6_weigh_L108 p1 K93 Q K108 x) : WX p l e (rmX dR) s m args below meth c φ tc D (AX φ) 3 0 0 (MQ below (QX φ tc D (QV Q)) args s 0 0 (AX φ)) 108 [(0, .ref 237), (1, .int p1), (2, .int x.1)] [] x.2 := by
  unfold G6_weigh_L108 at h
  refine x_iload_n C rfl 2 rfl dX6_weigh_108 ?_
  refine x_aload_n C rfl 0 rfl dX6_weigh_109 ?_
  refine x_getI C (j := 5) ob237.1 ob237.2 (Nat.le_of_ble_eq_true rfl) (Nat.le_of_ble_eq_true rfl) (Or.inl rfl) tw_2_117 dX6_weigh_110 ?_
  refine x_icmp_ge (tgt := 162) C dX6_weigh_113 (by decide) (fun c29 => ?_) (fun c29 => ?_)
  · have h := h.1 c29
    refine x_iinc (v := (p1 + 1)) C [(1, .int (p1 + 1)), (0, .ref 237), (2, .int x.1)] 1 rfl (congrArg (fun z => p1 + z) (by decide : Int32.ofInt (1) = 1)) (Nat.le_of_ble_eq_true rfl) rfl dX6_weigh_162 ?_
    refine x_goto (tgt := 93) C dX6_weigh_165 (by decide) ?_
    refine x_sub [(0, .ref 237), (1, .int (p1 + 1))] [1, 0] rfl ?_
    exact hK93 _ _ h
  · have h := h.2 c29
    refine x_aload_n C rfl 0 rfl dX6_weigh_116 ?_
    refine x_getR (r := 248) C (j := 7) ob237.1 ob237.2 (Nat.le_of_ble_eq_true rfl) (Nat.le_of_ble_eq_true rfl) (fun _ _ _ => rfl) r_237_7 tw_2_120 dX6_weigh_117 ?_
    refine x_iload_n C rfl 1 rfl dX6_weigh_120 ?_
    refine x_dup2_11 C rfl rfl dX6_weigh_121 ?_
    obtain ⟨c30, h⟩ := h
    refine x_iald C ob248.1 ob248.2 c30 rfl dX6_weigh_122 ?_
    refine x_aload_n C rfl 0 rfl dX6_weigh_123 ?_
    refine x_iload_n C rfl 1 rfl dX6_weigh_124 ?_
    refine x_aload_n C rfl 0 rfl dX6_weigh_125 ?_
    refine x_getR (r := 238) C (j := 2) ob237.1 ob237.2 (Nat.le_of_ble_eq_true rfl) (Nat.le_of_ble_eq_true rfl) (fun _ _ _ => rfl) r_237_2 tw_2_114 dX6_weigh_126 ?_
    refine x_iload_n C rfl 2 rfl dX6_weigh_129 ?_
    obtain ⟨c31, h⟩ := h
    refine x_iald C ob238.1 ob238.2 c31 rfl dX6_weigh_130 ?_
    refine x_aload_n C rfl 0 rfl dX6_weigh_131 ?_
    refine x_getR (r := 239) C (j := 3) ob237.1 ob237.2 (Nat.le_of_ble_eq_true rfl) (Nat.le_of_ble_eq_true rfl) (fun _ _ _ => rfl) r_237_3 tw_2_115 dX6_weigh_132 ?_
    refine x_iload_n C rfl 2 rfl dX6_weigh_135 ?_
    obtain ⟨c32, h⟩ := h
    refine x_iald C ob239.1 ob239.2 c32 rfl dX6_weigh_136 ?_
    refine x_aload_n C rfl 0 rfl dX6_weigh_137 ?_
    refine x_getR (r := 240) C (j := 4) ob237.1 ob237.2 (Nat.le_of_ble_eq_true rfl) (Nat.le_of_ble_eq_true rfl) (fun _ _ _ => rfl) r_237_4 tw_2_116 dX6_weigh_138 ?_
    refine x_iload_n C rfl 2 rfl dX6_weigh_141 ?_
    obtain ⟨c33, h⟩ := h
    refine x_iald C ob240.1 ob240.2 c33 rfl dX6_weigh_142 ?_
    refine x_callV (dC := G6_goesAgainst_dep) (as := [.int p1, .int (gI x.2 238 x.1.toNatClampNeg), .int (gI x.2 239 x.1.toNatClampNeg), .int (gI x.2 240 x.1.toNatClampNeg)]) (st := [.int (gI x.2 248 p1.toNatClampNeg), .int p1, .ref 248]) C rX kX (Nat.le_trans (Nat.le_of_ble_eq_true rfl) hd) (Nat.le_of_ble_eq_true rfl) ob237.1 ob237.2 (Nat.le_of_ble_eq_true rfl) rfl ts_7_4 tw_5_199 tw_5_197 tc_5_200 tw_1_11 hyX6 hnX6_goesAgainst rfl (Nat.le_of_ble_eq_true rfl) dX6_weigh_143 (G6_goesAgainst_met C.2.2.2.2.2.2.2.1 (Nat.le_refl _)  h) (fun r0 μ34 hq => ?_)
    obtain ⟨r35, rfl, h⟩ := hq
    refine x_st [.int r35, .int (gI x.2 248 p1.toNatClampNeg), .int p1, .ref 248] rfl ?_
    refine x_if_eq (tgt := 153) C dX6_weigh_146 (by decide) (fun c36 => ?_) (fun c36 => ?_)
    · have h := h.1 c36
      refine x_iconst (v := 0) C (by decide) dX6_weigh_153 ?_
      refine x_iadd C dX6_weigh_154 ?_
      obtain ⟨c37, h⟩ := h
      refine x_iast C ob248.1 ob248.2 c37 rfl dX6_weigh_155 ?_
      refine x_mu (fun μ38 e_μ38 => ?_)
      have h := h μ38 e_μ38
      refine x_iinc (v := (x.1 + 1)) C [(2, .int (x.1 + 1)), (0, .ref 237), (1, .int p1)] 2 rfl (congrArg (fun z => x.1 + z) (by decide : Int32.ofInt (1) = 1)) (Nat.le_of_ble_eq_true rfl) rfl dX6_weigh_156 ?_
      refine x_goto (tgt := 108) C dX6_weigh_159 (by decide) ?_
      refine x_sub [(0, .ref 237), (1, .int p1), (2, .int (x.1 + 1))] [1, 2, 0] rfl ?_
      exact hK108 _ _ h
    · have h := h.2 c36
      refine x_iconst (v := 1) C (by decide) dX6_weigh_149 ?_
      refine x_goto (tgt := 154) C dX6_weigh_150 (by decide) ?_
      refine x_iadd C dX6_weigh_154 ?_
      obtain ⟨c39, h⟩ := h
      refine x_iast C ob248.1 ob248.2 c39 rfl dX6_weigh_155 ?_
      refine x_mu (fun μ40 e_μ40 => ?_)
      have h := h μ40 e_μ40
      refine x_iinc (v := (x.1 + 1)) C [(2, .int (x.1 + 1)), (0, .ref 237), (1, .int p1)] 2 rfl (congrArg (fun z => x.1 + z) (by decide : Int32.ofInt (1) = 1)) (Nat.le_of_ble_eq_true rfl) rfl dX6_weigh_156 ?_
      refine x_goto (tgt := 108) C dX6_weigh_159 (by decide) ?_
      refine x_sub [(0, .ref 237), (1, .int p1), (2, .int (x.1 + 1))] [1, 2, 0] rfl ?_
      exact hK108 _ _ h
theorem G6_weigh_L108_ok {p : Program} {e : Env} {s : State} {m : MethodId} {args : Array Value} {below : List Frame} {meth : Method} {c : Code} {l : Launch} {φ : Nat → Nat} {tc : Nat → ClassId} {D : va_G} {s0 : State} {dR : Nat} (C : CX p s m args meth c φ tc D (AX φ) s0 cX6_weigh RX6 3) (hd : G6_weigh_dep ≤ dR) (hr : meth.sig.returnType = none)  {p1 : Int32} {Q : MM → Prop} {K93 : Int32 × MM → Prop} {x : Int32 × MM}   (hK93 : ∀ (z1 : Int32) (zμ : MM), K93 (z1, zμ) → WX p l e (rmX dR) s m args below meth c φ tc D (AX φ) 3 0 0 (MQ below (QX φ tc D (QV Q)) args s 0 0 (AX φ)) 93 [(0, .ref 237), (1, .int z1)] [] zμ) (h : Lp (G6_weigh_L108 p1 K93 Q) x) : WX p l e (rmX dR) s m args below meth c φ tc D (AX φ) 3 0 0 (MQ below (QX φ tc D (QV Q)) args s 0 0 (AX φ)) 108 [(0, .ref 237), (1, .int p1), (2, .int x.1)] [] x.2 := by
  obtain ⟨n, h⟩ := h
  induction n generalizing x with
  | zero => exact h.elim
  | succ n ih => exact G6_weigh_L108_b C hd hr  hK93 (fun z2 zμ hz => by have q := ih hz; exact q) h
set_option maxHeartbeats 4000000 in
set_option maxRecDepth 100000 in
theorem G6_weigh_L93_b {p : Program} {e : Env} {s : State} {m : MethodId} {args : Array Value} {below : List Frame} {meth : Method} {c : Code} {l : Launch} {φ : Nat → Nat} {tc : Nat → ClassId} {D : va_G} {s0 : State} {dR : Nat} (C : CX p s m args meth c φ tc D (AX φ) s0 cX6_weigh RX6 3) (hd : G6_weigh_dep ≤ dR) (hr : meth.sig.returnType = none)   {Q : MM → Prop} {K93 : Int32 × MM → Prop} {x : Int32 × MM}   (hK93 : ∀ (z1 : Int32) (zμ : MM), K93 (z1, zμ) → WX p l e (rmX dR) s m args below meth c φ tc D (AX φ) 3 0 0 (MQ below (QX φ tc D (QV Q)) args s 0 0 (AX φ)) 93 [(0, .ref 237), (1, .int z1)] [] zμ) (h : G6_weigh_L93  Q K93 x) : WX p l e (rmX dR) s m args below meth c φ tc D (AX φ) 3 0 0 (MQ below (QX φ tc D (QV Q)) args s 0 0 (AX φ)) 93 [(0, .ref 237), (1, .int x.1)] [] x.2 := by
  unfold G6_weigh_L93 at h
  refine x_iload_n C rfl 1 rfl dX6_weigh_93 ?_
  refine x_bipush (v := 6) C (by decide) dX6_weigh_94 ?_
  refine x_icmp_ge (tgt := 168) C dX6_weigh_96 (by decide) (fun c26 => ?_) (fun c26 => ?_)
  · have h := h.1 c26
    exact x_vret C hr dX6_weigh_168 ⟨rfl, h⟩
  · have h := h.2 c26
    refine x_aload_n C rfl 0 rfl dX6_weigh_99 ?_
    refine x_getR (r := 248) C (j := 7) ob237.1 ob237.2 (Nat.le_of_ble_eq_true rfl) (Nat.le_of_ble_eq_true rfl) (fun _ _ _ => rfl) r_237_7 tw_2_120 dX6_weigh_100 ?_
    refine x_iload_n C rfl 1 rfl dX6_weigh_103 ?_
    refine x_iconst (v := 0) C (by decide) dX6_weigh_104 ?_
    obtain ⟨c27, h⟩ := h
    refine x_iast C ob248.1 ob248.2 c27 rfl dX6_weigh_105 ?_
    refine x_mu (fun μ28 e_μ28 => ?_)
    have h := h μ28 e_μ28
    refine x_iconst (v := 0) C (by decide) dX6_weigh_106 ?_
    refine x_istore_n C [(2, .int 0), (0, .ref 237), (1, .int x.1)] rfl (Nat.le_of_ble_eq_true rfl) rfl dX6_weigh_107 ?_
    refine x_sub [(0, .ref 237), (1, .int x.1), (2, .int 0)] [1, 2, 0] rfl ?_
    exact G6_weigh_L108_ok C hd hr hK93 h
theorem G6_weigh_L93_ok {p : Program} {e : Env} {s : State} {m : MethodId} {args : Array Value} {below : List Frame} {meth : Method} {c : Code} {l : Launch} {φ : Nat → Nat} {tc : Nat → ClassId} {D : va_G} {s0 : State} {dR : Nat} (C : CX p s m args meth c φ tc D (AX φ) s0 cX6_weigh RX6 3) (hd : G6_weigh_dep ≤ dR) (hr : meth.sig.returnType = none)   {Q : MM → Prop}  {x : Int32 × MM}    (h : Lp (G6_weigh_L93  Q) x) : WX p l e (rmX dR) s m args below meth c φ tc D (AX φ) 3 0 0 (MQ below (QX φ tc D (QV Q)) args s 0 0 (AX φ)) 93 [(0, .ref 237), (1, .int x.1)] [] x.2 := by
  obtain ⟨n, h⟩ := h
  induction n generalizing x with
  | zero => exact h.elim
  | succ n ih => exact G6_weigh_L93_b C hd hr   (fun z1 zμ hz => by have q := ih hz; exact q) h
set_option maxHeartbeats 4000000 in
set_option maxRecDepth 100000 in
theorem G6_weigh_L31_b {p : Program} {e : Env} {s : State} {m : MethodId} {args : Array Value} {below : List Frame} {meth : Method} {c : Code} {l : Launch} {φ : Nat → Nat} {tc : Nat → ClassId} {D : va_G} {s0 : State} {dR : Nat} (C : CX p s m args meth c φ tc D (AX φ) s0 cX6_weigh RX6 3) (hd : G6_weigh_dep ≤ dR) (hr : meth.sig.returnType = none)  {p1 : Int32} {Q : MM → Prop} {K2 : Int32 × MM → Prop} {K31 : Int32 × MM → Prop} {x : Int32 × MM}   (hK2 : ∀ (z1 : Int32) (zμ : MM), K2 (z1, zμ) → WX p l e (rmX dR) s m args below meth c φ tc D (AX φ) 3 0 0 (MQ below (QX φ tc D (QV Q)) args s 0 0 (AX φ)) 2 [(0, .ref 237), (1, .int z1)] [] zμ) (hK31 : ∀ (z2 : Int32) (zμ : MM), K31 (z2, zμ) → WX p l e (rmX dR) s m args below meth c φ tc D (AX φ) 3 0 0 (MQ below (QX φ tc D (QV Q)) args s 0 0 (AX φ)) 31 [(0, .ref 237), (1, .int p1), (2, .int z2)] [] zμ) (h : G6_weigh_L31 p1 K2 Q K31 x) : WX p l e (rmX dR) s m args below meth c φ tc D (AX φ) 3 0 0 (MQ below (QX φ tc D (QV Q)) args s 0 0 (AX φ)) 31 [(0, .ref 237), (1, .int p1), (2, .int x.1)] [] x.2 := by
  unfold G6_weigh_L31 at h
  refine x_iload_n C rfl 2 rfl dX6_weigh_31 ?_
  refine x_bipush (v := 6) C (by decide) dX6_weigh_32 ?_
  refine x_icmp_ge (tgt := 85) C dX6_weigh_34 (by decide) (fun c43 => ?_) (fun c43 => ?_)
  · have h := h.1 c43
    refine x_iinc (v := (p1 + 1)) C [(1, .int (p1 + 1)), (0, .ref 237), (2, .int x.1)] 1 rfl (congrArg (fun z => p1 + z) (by decide : Int32.ofInt (1) = 1)) (Nat.le_of_ble_eq_true rfl) rfl dX6_weigh_85 ?_
    refine x_goto (tgt := 2) C dX6_weigh_88 (by decide) ?_
    refine x_sub [(0, .ref 237), (1, .int (p1 + 1))] [1, 0] rfl ?_
    exact hK2 _ _ h
  · have h := h.2 c43
    refine x_aload_n C rfl 0 rfl dX6_weigh_37 ?_
    refine x_getR (r := 241) C (j := 6) ob237.1 ob237.2 (Nat.le_of_ble_eq_true rfl) (Nat.le_of_ble_eq_true rfl) (fun _ _ _ => rfl) r_237_6 tw_2_119 dX6_weigh_38 ?_
    refine x_iload_n C rfl 2 rfl dX6_weigh_41 ?_
    obtain ⟨c44, h⟩ := h
    refine x_aald (r := (242 + x.1.toNatClampNeg)) C ob241.1 (by decide) (by decide) c44 rfl (rA241 c44) dX6_weigh_42 ?_
    refine x_iload_n C rfl 1 rfl dX6_weigh_43 ?_
    refine x_aload_n C rfl 0 rfl dX6_weigh_44 ?_
    refine x_getR (r := 1) C (j := 0) ob237.1 ob237.2 (Nat.le_of_ble_eq_true rfl) (Nat.le_of_ble_eq_true rfl) (fun _ _ _ => rfl) r_237_0 tw_2_112 dX6_weigh_45 ?_
    refine x_iload_n C rfl 2 rfl dX6_weigh_48 ?_
    refine x_callVN (dC := G10_isLaw_dep) (as := [.int x.1]) (st := [.int p1, .ref (242 + x.1.toNatClampNeg)]) C rX kX (Nat.le_trans (Nat.le_of_ble_eq_true rfl) hd) (Nat.le_of_ble_eq_true rfl) ob1.1 ob1.2 (Nat.le_of_ble_eq_true rfl) rfl ts_2_6 tw_3_188 tw_5_195 tc_3_189 tw_1_2 hyX10 hnX10_isLaw rfl (Nat.le_of_ble_eq_true rfl) dX6_weigh_49 (G10_isLaw_met C.2.2.2.2.2.2.2.1 (Nat.le_refl _)  h) (fun r0 μ45 hq => ?_)
    obtain ⟨r46, rfl, h⟩ := hq
    refine x_st [.int r46, .int p1, .ref (242 + x.1.toNatClampNeg)] rfl ?_
    refine x_if_eq (tgt := 77) C dX6_weigh_52 (by decide) (fun c47 => ?_) (fun c47 => ?_)
    · have h := h.1 c47
      refine x_iconst (v := 0) C (by decide) dX6_weigh_77 ?_
      obtain ⟨c48, h⟩ := h
      refine x_iast C (obA241 c44).1 (obA241 c44).2 (by rw [lnA241 c44]; exact c48) rfl dX6_weigh_78 ?_
      refine x_mu (fun μ49 e_μ49 => ?_)
      have h := h μ49 e_μ49
      refine x_iinc (v := (x.1 + 1)) C [(2, .int (x.1 + 1)), (0, .ref 237), (1, .int p1)] 2 rfl (congrArg (fun z => x.1 + z) (by decide : Int32.ofInt (1) = 1)) (Nat.le_of_ble_eq_true rfl) rfl dX6_weigh_79 ?_
      refine x_goto (tgt := 31) C dX6_weigh_82 (by decide) ?_
      refine x_sub [(0, .ref 237), (1, .int p1), (2, .int (x.1 + 1))] [1, 2, 0] rfl ?_
      exact hK31 _ _ h
    · have h := h.2 c47
      refine x_aload_n C rfl 0 rfl dX6_weigh_55 ?_
      refine x_getR (r := 1) C (j := 0) ob237.1 ob237.2 (Nat.le_of_ble_eq_true rfl) (Nat.le_of_ble_eq_true rfl) (fun _ _ _ => rfl) r_237_0 tw_2_112 dX6_weigh_56 ?_
      refine x_getRN (r := 10) C (j := 11) ob1.1 ob1.2 (Nat.le_of_ble_eq_true rfl) (Nat.le_of_ble_eq_true rfl) (fun _ _ _ => rfl) r_1_11 tw_1_156 dX6_weigh_59 ?_
      refine x_iload_n C rfl 2 rfl dX6_weigh_62 ?_
      obtain ⟨c50, h⟩ := h
      refine x_aald (r := (115 + 6 * x.1.toNatClampNeg)) C ob10.1 (by decide) (by decide) c50 rfl (rA10 c50) dX6_weigh_63 ?_
      refine x_aload_n C rfl 0 rfl dX6_weigh_64 ?_
      refine x_getR (r := 1) C (j := 0) ob237.1 ob237.2 (Nat.le_of_ble_eq_true rfl) (Nat.le_of_ble_eq_true rfl) (fun _ _ _ => rfl) r_237_0 tw_2_112 dX6_weigh_65 ?_
      refine x_getRN (r := 12) C (j := 13) ob1.1 ob1.2 (Nat.le_of_ble_eq_true rfl) (Nat.le_of_ble_eq_true rfl) (fun _ _ _ => rfl) r_1_13 tw_1_161 dX6_weigh_68 ?_
      refine x_callVN (dC := G3_result_dep) (as := [.ref 12]) (st := [.int p1, .ref (242 + x.1.toNatClampNeg)]) C rX kX (Nat.le_trans (Nat.le_of_ble_eq_true rfl) hd) (Nat.le_of_ble_eq_true rfl) (obA10 c50).1 (obA10 c50).2 (Nat.le_of_ble_eq_true rfl) rfl ts_2_11 tw_3_209 tw_5_196 tc_3_210 tw_1_4 hyX3 hnX3_result rfl (Nat.le_of_ble_eq_true rfl) dX6_weigh_71 (G3_result_met C.2.2.2.2.2.2.2.1 (Nat.le_refl _) (obA10 c50) ob12 h) (fun r0 μ51 hq => ?_)
      obtain ⟨r52, rfl, h⟩ := hq
      refine x_st [.int r52, .int p1, .ref (242 + x.1.toNatClampNeg)] rfl ?_
      refine x_goto (tgt := 78) C dX6_weigh_74 (by decide) ?_
      obtain ⟨c53, h⟩ := h
      refine x_iast C (obA241 c44).1 (obA241 c44).2 (by rw [lnA241 c44]; exact c53) rfl dX6_weigh_78 ?_
      refine x_mu (fun μ54 e_μ54 => ?_)
      have h := h μ54 e_μ54
      refine x_iinc (v := (x.1 + 1)) C [(2, .int (x.1 + 1)), (0, .ref 237), (1, .int p1)] 2 rfl (congrArg (fun z => x.1 + z) (by decide : Int32.ofInt (1) = 1)) (Nat.le_of_ble_eq_true rfl) rfl dX6_weigh_79 ?_
      refine x_goto (tgt := 31) C dX6_weigh_82 (by decide) ?_
      refine x_sub [(0, .ref 237), (1, .int p1), (2, .int (x.1 + 1))] [1, 2, 0] rfl ?_
      exact hK31 _ _ h
theorem G6_weigh_L31_ok {p : Program} {e : Env} {s : State} {m : MethodId} {args : Array Value} {below : List Frame} {meth : Method} {c : Code} {l : Launch} {φ : Nat → Nat} {tc : Nat → ClassId} {D : va_G} {s0 : State} {dR : Nat} (C : CX p s m args meth c φ tc D (AX φ) s0 cX6_weigh RX6 3) (hd : G6_weigh_dep ≤ dR) (hr : meth.sig.returnType = none)  {p1 : Int32} {Q : MM → Prop} {K2 : Int32 × MM → Prop} {x : Int32 × MM}   (hK2 : ∀ (z1 : Int32) (zμ : MM), K2 (z1, zμ) → WX p l e (rmX dR) s m args below meth c φ tc D (AX φ) 3 0 0 (MQ below (QX φ tc D (QV Q)) args s 0 0 (AX φ)) 2 [(0, .ref 237), (1, .int z1)] [] zμ) (h : Lp (G6_weigh_L31 p1 K2 Q) x) : WX p l e (rmX dR) s m args below meth c φ tc D (AX φ) 3 0 0 (MQ below (QX φ tc D (QV Q)) args s 0 0 (AX φ)) 31 [(0, .ref 237), (1, .int p1), (2, .int x.1)] [] x.2 := by
  obtain ⟨n, h⟩ := h
  induction n generalizing x with
  | zero => exact h.elim
  | succ n ih => exact G6_weigh_L31_b C hd hr  hK2 (fun z2 zμ hz => by have q := ih hz; exact q) h
set_option maxHeartbeats 4000000 in
set_option maxRecDepth 100000 in
theorem G6_weigh_L2_b {p : Program} {e : Env} {s : State} {m : MethodId} {args : Array Value} {below : List Frame} {meth : Method} {c : Code} {l : Launch} {φ : Nat → Nat} {tc : Nat → ClassId} {D : va_G} {s0 : State} {dR : Nat} (C : CX p s m args meth c φ tc D (AX φ) s0 cX6_weigh RX6 3) (hd : G6_weigh_dep ≤ dR) (hr : meth.sig.returnType = none)   {Q : MM → Prop} {K2 : Int32 × MM → Prop} {x : Int32 × MM}   (hK2 : ∀ (z1 : Int32) (zμ : MM), K2 (z1, zμ) → WX p l e (rmX dR) s m args below meth c φ tc D (AX φ) 3 0 0 (MQ below (QX φ tc D (QV Q)) args s 0 0 (AX φ)) 2 [(0, .ref 237), (1, .int z1)] [] zμ) (h : G6_weigh_L2  Q K2 x) : WX p l e (rmX dR) s m args below meth c φ tc D (AX φ) 3 0 0 (MQ below (QX φ tc D (QV Q)) args s 0 0 (AX φ)) 2 [(0, .ref 237), (1, .int x.1)] [] x.2 := by
  unfold G6_weigh_L2 at h
  refine x_iload_n C rfl 1 rfl dX6_weigh_2 ?_
  refine x_aload_n C rfl 0 rfl dX6_weigh_3 ?_
  refine x_getR (r := 1) C (j := 0) ob237.1 ob237.2 (Nat.le_of_ble_eq_true rfl) (Nat.le_of_ble_eq_true rfl) (fun _ _ _ => rfl) r_237_0 tw_2_112 dX6_weigh_4 ?_
  refine x_getIN C (j := 10) ob1.1 ob1.2 (Nat.le_of_ble_eq_true rfl) (Nat.le_of_ble_eq_true rfl) (Or.inl rfl) tw_1_151 dX6_weigh_7 ?_
  refine x_icmp_ge (tgt := 91) C dX6_weigh_10 (by decide) (fun c25 => ?_) (fun c25 => ?_)
  · have h := h.1 c25
    refine x_iconst (v := 0) C (by decide) dX6_weigh_91 ?_
    refine x_istore_n C [(1, .int 0), (0, .ref 237)] rfl (Nat.le_of_ble_eq_true rfl) rfl dX6_weigh_92 ?_
    refine x_sub [(0, .ref 237), (1, .int 0)] [1, 0] rfl ?_
    exact G6_weigh_L93_ok C hd hr  h
  · have h := h.2 c25
    refine x_aload_n C rfl 0 rfl dX6_weigh_13 ?_
    refine x_getR (r := 1) C (j := 0) ob237.1 ob237.2 (Nat.le_of_ble_eq_true rfl) (Nat.le_of_ble_eq_true rfl) (fun _ _ _ => rfl) r_237_0 tw_2_112 dX6_weigh_14 ?_
    refine x_aload_n C rfl 0 rfl dX6_weigh_17 ?_
    refine x_getR (r := 1) C (j := 0) ob237.1 ob237.2 (Nat.le_of_ble_eq_true rfl) (Nat.le_of_ble_eq_true rfl) (fun _ _ _ => rfl) r_237_0 tw_2_112 dX6_weigh_18 ?_
    refine x_getRN (r := 9) C (j := 9) ob1.1 ob1.2 (Nat.le_of_ble_eq_true rfl) (Nat.le_of_ble_eq_true rfl) (fun _ _ _ => rfl) r_1_9 tw_1_146 dX6_weigh_21 ?_
    refine x_iload_n C rfl 1 rfl dX6_weigh_24 ?_
    obtain ⟨c41, h⟩ := h
    refine x_aald (r := (19 + x.1.toNatClampNeg)) C ob9.1 (by decide) (by decide) c41 rfl (rA9 c41) dX6_weigh_25 ?_
    refine x_callVN (dC := G10_lookAt_dep) (as := [.ref (19 + x.1.toNatClampNeg)]) (st := []) C rX kX (Nat.le_trans (Nat.le_of_ble_eq_true rfl) hd) (Nat.le_of_ble_eq_true rfl) ob1.1 ob1.2 (Nat.le_of_ble_eq_true rfl) rfl ts_2_9 tw_3_201 tw_5_194 tc_3_202 tw_1_2 hyX10 hnX10_lookAt rfl (Nat.le_of_ble_eq_true rfl) dX6_weigh_26 (G10_lookAt_met C.2.2.2.2.2.2.2.1 (Nat.le_refl _) (obA9 c41) h) (fun r0 μ42 hq => ?_)
    obtain ⟨rfl, h⟩ := hq
    refine x_st [] rfl ?_
    refine x_iconst (v := 0) C (by decide) dX6_weigh_29 ?_
    refine x_istore_n C [(2, .int 0), (0, .ref 237), (1, .int x.1)] rfl (Nat.le_of_ble_eq_true rfl) rfl dX6_weigh_30 ?_
    refine x_sub [(0, .ref 237), (1, .int x.1), (2, .int 0)] [1, 2, 0] rfl ?_
    exact G6_weigh_L31_ok C hd hr hK2 h
theorem G6_weigh_L2_ok {p : Program} {e : Env} {s : State} {m : MethodId} {args : Array Value} {below : List Frame} {meth : Method} {c : Code} {l : Launch} {φ : Nat → Nat} {tc : Nat → ClassId} {D : va_G} {s0 : State} {dR : Nat} (C : CX p s m args meth c φ tc D (AX φ) s0 cX6_weigh RX6 3) (hd : G6_weigh_dep ≤ dR) (hr : meth.sig.returnType = none)   {Q : MM → Prop}  {x : Int32 × MM}    (h : Lp (G6_weigh_L2  Q) x) : WX p l e (rmX dR) s m args below meth c φ tc D (AX φ) 3 0 0 (MQ below (QX φ tc D (QV Q)) args s 0 0 (AX φ)) 2 [(0, .ref 237), (1, .int x.1)] [] x.2 := by
  obtain ⟨n, h⟩ := h
  induction n generalizing x with
  | zero => exact h.elim
  | succ n ih => exact G6_weigh_L2_b C hd hr   (fun z1 zμ hz => by have q := ih hz; exact q) h
set_option maxHeartbeats 4000000 in
set_option maxRecDepth 100000 in
theorem G6_weigh_met {l : Launch} {φ : Nat → Nat} {tc : Nat → ClassId} {D : va_G} {s0 : State} (hG : GX φ tc D s0) {dR : Nat} (hd : G6_weigh_dep ≤ dR)  {μ : MM} {Q : MM → Prop}  (h : G6_weigh  μ Q) : MX l φ tc D s0 dR yX6_weigh cX6_weigh 3 none [.ref 237] μ (QV Q) := by
  refine MX.of (own := RX6) hG plX6 rfl (Nat.le_of_ble_eq_true rfl) (fun p e s m args below meth c C hr => ?_)
  refine x_sub [(0, .ref 237)] [0] rfl ?_
  unfold G6_weigh at h
  refine x_iconst (v := 0) C (by decide) dX6_weigh_0 ?_
  refine x_istore_n C [(1, .int 0), (0, .ref 237)] rfl (Nat.le_of_ble_eq_true rfl) rfl dX6_weigh_1 ?_
  refine x_sub [(0, .ref 237), (1, .int 0)] [1, 0] rfl ?_
  exact G6_weigh_L2_ok C hd hr  h
set_option maxHeartbeats 4000000 in
set_option maxRecDepth 100000 in
theorem G6_weighedWithin_L4_b {p : Program} {e : Env} {s : State} {m : MethodId} {args : Array Value} {below : List Frame} {meth : Method} {c : Code} {l : Launch} {φ : Nat → Nat} {tc : Nat → ClassId} {D : va_G} {s0 : State} {dR : Nat} (C : CX p s m args meth c φ tc D (AX φ) s0 cX6_weighedWithin RX6 4) (hd : G6_weighedWithin_dep ≤ dR) (hr : meth.sig.returnType = (some .int))  {p1 : Int32} {Q : Int32 → MM → Prop} {K4 : Int32 × Int32 × MM → Prop} {x : Int32 × Int32 × MM}   (hK4 : ∀ (z2 : Int32) (z3 : Int32) (zμ : MM), K4 (z2, z3, zμ) → WX p l e (rmX dR) s m args below meth c φ tc D (AX φ) 4 0 0 (MQ below (QX φ tc D (QI Q)) args s 0 0 (AX φ)) 4 [(0, .ref 237), (1, .int p1), (2, .int z2), (3, .int z3)] [] zμ) (h : G6_weighedWithin_L4 p1 Q K4 x) : WX p l e (rmX dR) s m args below meth c φ tc D (AX φ) 4 0 0 (MQ below (QX φ tc D (QI Q)) args s 0 0 (AX φ)) 4 [(0, .ref 237), (1, .int p1), (2, .int x.1), (3, .int x.2.1)] [] x.2.2 := by
  unfold G6_weighedWithin_L4 at h
  refine x_iload_n C rfl 3 rfl dX6_weighedWithin_4 ?_
  refine x_bipush (v := 6) C (by decide) dX6_weighedWithin_5 ?_
  refine x_icmp_ge (tgt := 43) C dX6_weighedWithin_7 (by decide) (fun c5 => ?_) (fun c5 => ?_)
  · have h := h.1 c5
    refine x_iload_n C rfl 2 rfl dX6_weighedWithin_43 ?_
    exact x_iret C hr dX6_weighedWithin_44 ⟨_, rfl, h⟩
  · have h := h.2 c5
    refine x_aload_n C rfl 0 rfl dX6_weighedWithin_10 ?_
    refine x_getR (r := 1) C (j := 0) ob237.1 ob237.2 (Nat.le_of_ble_eq_true rfl) (Nat.le_of_ble_eq_true rfl) (fun _ _ _ => rfl) r_237_0 tw_2_112 dX6_weighedWithin_11 ?_
    refine x_iload_n C rfl 3 rfl dX6_weighedWithin_14 ?_
    refine x_callVN (dC := G10_isLaw_dep) (as := [.int x.2.1]) (st := []) C rX kX (Nat.le_trans (Nat.le_of_ble_eq_true rfl) hd) (Nat.le_of_ble_eq_true rfl) ob1.1 ob1.2 (Nat.le_of_ble_eq_true rfl) rfl ts_2_6 tw_3_188 tw_5_195 tc_3_189 tw_1_2 hyX10 hnX10_isLaw rfl (Nat.le_of_ble_eq_true rfl) dX6_weighedWithin_15 (G10_isLaw_met C.2.2.2.2.2.2.2.1 (Nat.le_refl _)  h) (fun r0 μ6 hq => ?_)
    obtain ⟨r7, rfl, h⟩ := hq
    refine x_st [.int r7] rfl ?_
    refine x_if_eq (tgt := 37) C dX6_weighedWithin_18 (by decide) (fun c8 => ?_) (fun c8 => ?_)
    · have h := h.1 c8
      refine x_iinc (v := (x.2.1 + 1)) C [(3, .int (x.2.1 + 1)), (0, .ref 237), (1, .int p1), (2, .int x.1)] 3 rfl (congrArg (fun z => x.2.1 + z) (by decide : Int32.ofInt (1) = 1)) (Nat.le_of_ble_eq_true rfl) rfl dX6_weighedWithin_37 ?_
      refine x_goto (tgt := 4) C dX6_weighedWithin_40 (by decide) ?_
      refine x_sub [(0, .ref 237), (1, .int p1), (2, .int x.1), (3, .int (x.2.1 + 1))] [1, 2, 3, 0] rfl ?_
      exact hK4 _ _ _ h
    · have h := h.2 c8
      refine x_aload_n C rfl 0 rfl dX6_weighedWithin_21 ?_
      refine x_getR (r := 248) C (j := 7) ob237.1 ob237.2 (Nat.le_of_ble_eq_true rfl) (Nat.le_of_ble_eq_true rfl) (fun _ _ _ => rfl) r_237_7 tw_2_120 dX6_weighedWithin_22 ?_
      refine x_iload_n C rfl 3 rfl dX6_weighedWithin_25 ?_
      obtain ⟨c9, h⟩ := h
      refine x_iald C ob248.1 ob248.2 c9 rfl dX6_weighedWithin_26 ?_
      refine x_iload_n C rfl 1 rfl dX6_weighedWithin_27 ?_
      refine x_icmp_gt (tgt := 37) C dX6_weighedWithin_28 (by decide) (fun c10 => ?_) (fun c10 => ?_)
      · have h := h.1 c10
        refine x_iinc (v := (x.2.1 + 1)) C [(3, .int (x.2.1 + 1)), (0, .ref 237), (1, .int p1), (2, .int x.1)] 3 rfl (congrArg (fun z => x.2.1 + z) (by decide : Int32.ofInt (1) = 1)) (Nat.le_of_ble_eq_true rfl) rfl dX6_weighedWithin_37 ?_
        refine x_goto (tgt := 4) C dX6_weighedWithin_40 (by decide) ?_
        refine x_sub [(0, .ref 237), (1, .int p1), (2, .int x.1), (3, .int (x.2.1 + 1))] [1, 2, 3, 0] rfl ?_
        exact hK4 _ _ _ h
      · have h := h.2 c10
        refine x_iload_n C rfl 2 rfl dX6_weighedWithin_31 ?_
        refine x_iconst (v := 1) C (by decide) dX6_weighedWithin_32 ?_
        refine x_iload_n C rfl 3 rfl dX6_weighedWithin_33 ?_
        refine x_ishl C dX6_weighedWithin_34 ?_
        refine x_ior C dX6_weighedWithin_35 ?_
        refine x_topi (fun y11 e_y11 => ?_)
        have h := h y11 e_y11
        refine x_istore_n C [(2, .int y11), (0, .ref 237), (1, .int p1), (3, .int x.2.1)] rfl (Nat.le_of_ble_eq_true rfl) rfl dX6_weighedWithin_36 ?_
        refine x_iinc (v := (x.2.1 + 1)) C [(3, .int (x.2.1 + 1)), (2, .int y11), (0, .ref 237), (1, .int p1)] 3 rfl (congrArg (fun z => x.2.1 + z) (by decide : Int32.ofInt (1) = 1)) (Nat.le_of_ble_eq_true rfl) rfl dX6_weighedWithin_37 ?_
        refine x_goto (tgt := 4) C dX6_weighedWithin_40 (by decide) ?_
        refine x_sub [(0, .ref 237), (1, .int p1), (2, .int y11), (3, .int (x.2.1 + 1))] [2, 3, 1, 0] rfl ?_
        exact hK4 _ _ _ h
theorem G6_weighedWithin_L4_ok {p : Program} {e : Env} {s : State} {m : MethodId} {args : Array Value} {below : List Frame} {meth : Method} {c : Code} {l : Launch} {φ : Nat → Nat} {tc : Nat → ClassId} {D : va_G} {s0 : State} {dR : Nat} (C : CX p s m args meth c φ tc D (AX φ) s0 cX6_weighedWithin RX6 4) (hd : G6_weighedWithin_dep ≤ dR) (hr : meth.sig.returnType = (some .int))  {p1 : Int32} {Q : Int32 → MM → Prop}  {x : Int32 × Int32 × MM}    (h : Lp (G6_weighedWithin_L4 p1 Q) x) : WX p l e (rmX dR) s m args below meth c φ tc D (AX φ) 4 0 0 (MQ below (QX φ tc D (QI Q)) args s 0 0 (AX φ)) 4 [(0, .ref 237), (1, .int p1), (2, .int x.1), (3, .int x.2.1)] [] x.2.2 := by
  obtain ⟨n, h⟩ := h
  induction n generalizing x with
  | zero => exact h.elim
  | succ n ih => exact G6_weighedWithin_L4_b C hd hr   (fun z2 z3 zμ hz => by have q := ih hz; exact q) h
set_option maxHeartbeats 4000000 in
set_option maxRecDepth 100000 in
theorem G6_weighedWithin_met {l : Launch} {φ : Nat → Nat} {tc : Nat → ClassId} {D : va_G} {s0 : State} (hG : GX φ tc D s0) {dR : Nat} (hd : G6_weighedWithin_dep ≤ dR) {v1 : Int32} {μ : MM} {Q : Int32 → MM → Prop}  (h : G6_weighedWithin v1 μ Q) : MX l φ tc D s0 dR yX6_weighedWithin cX6_weighedWithin 4 (some .int) [.ref 237, .int v1] μ (QI Q) := by
  refine MX.of (own := RX6) hG plX6 rfl (Nat.le_of_ble_eq_true rfl) (fun p e s m args below meth c C hr => ?_)
  refine x_sub [(0, .ref 237), (1, .int v1)] [0, 1] rfl ?_
  unfold G6_weighedWithin at h
  refine x_iconst (v := 0) C (by decide) dX6_weighedWithin_0 ?_
  refine x_istore_n C [(2, .int 0), (0, .ref 237), (1, .int v1)] rfl (Nat.le_of_ble_eq_true rfl) rfl dX6_weighedWithin_1 ?_
  refine x_iconst (v := 0) C (by decide) dX6_weighedWithin_2 ?_
  refine x_istore_n C [(3, .int 0), (2, .int 0), (0, .ref 237), (1, .int v1)] rfl (Nat.le_of_ble_eq_true rfl) rfl dX6_weighedWithin_3 ?_
  refine x_sub [(0, .ref 237), (1, .int v1), (2, .int 0), (3, .int 0)] [2, 3, 1, 0] rfl ?_
  exact G6_weighedWithin_L4_ok C hd hr  h
set_option maxHeartbeats 4000000 in
set_option maxRecDepth 100000 in
theorem G6_tellPairs_J47_ok {p : Program} {e : Env} {s : State} {m : MethodId} {args : Array Value} {below : List Frame} {meth : Method} {c : Code} {l : Launch} {φ : Nat → Nat} {tc : Nat → ClassId} {D : va_G} {s0 : State} {dR : Nat} (C : CX p s m args meth c φ tc D (AX φ) s0 cX6_tellPairs RX6 2) (hd : G6_tellPairs_dep ≤ dR) (hr : meth.sig.returnType = (some .int))   {p1 : Int32} {q0 : Int64} {Q : Int32 → MM → Prop} {K13 : Int32 × MM → Prop} {μ : MM}   (hK13 : ∀ (z1 : Int32) (zμ : MM), K13 (z1, zμ) → WX p l e (rmX dR) s m args below meth c φ tc D (AX φ) 2 0 0 (MQ below (QX φ tc D (QI Q)) args s 0 0 (AX φ)) 13 [(0, .ref 237), (1, .int z1)] [] zμ) (h : G6_tellPairs_J47 p1 q0 μ K13 Q) : WX p l e (rmX dR) s m args below meth c φ tc D (AX φ) 2 0 0 (MQ below (QX φ tc D (QI Q)) args s 0 0 (AX φ)) 47 [(0, .ref 237), (1, .int p1)] [.long q0, .ref 151] μ := by
  unfold G6_tellPairs_J47 at h
  refine x_callVN (dC := G7_add_dep) (as := [.long q0]) (st := []) C rX kX (Nat.le_trans (Nat.le_of_ble_eq_true rfl) hd) (Nat.le_of_ble_eq_true rfl) ob151.1 ob151.2 (Nat.le_of_ble_eq_true rfl) rfl ts_3_11 tw_4_63 tw_5_204 tc_4_64 tw_1_5 hyX7 hnX7_add rfl (Nat.le_of_ble_eq_true rfl) dX6_tellPairs_47 (G7_add_met C.2.2.2.2.2.2.2.1 (Nat.le_refl _)  h) (fun r0 μ17 hq => ?_)
  obtain ⟨rfl, h⟩ := hq
  refine x_st [] rfl ?_
  refine x_iinc (v := (p1 + 1)) C [(1, .int (p1 + 1)), (0, .ref 237)] 1 rfl (congrArg (fun z => p1 + z) (by decide : Int32.ofInt (1) = 1)) (Nat.le_of_ble_eq_true rfl) rfl dX6_tellPairs_50 ?_
  refine x_goto (tgt := 13) C dX6_tellPairs_53 (by decide) ?_
  refine x_sub [(0, .ref 237), (1, .int (p1 + 1))] [1, 0] rfl ?_
  exact hK13 _ _ h
set_option maxHeartbeats 4000000 in
set_option maxRecDepth 100000 in
theorem G6_tellPairs_L13_b {p : Program} {e : Env} {s : State} {m : MethodId} {args : Array Value} {below : List Frame} {meth : Method} {c : Code} {l : Launch} {φ : Nat → Nat} {tc : Nat → ClassId} {D : va_G} {s0 : State} {dR : Nat} (C : CX p s m args meth c φ tc D (AX φ) s0 cX6_tellPairs RX6 2) (hd : G6_tellPairs_dep ≤ dR) (hr : meth.sig.returnType = (some .int))   {Q : Int32 → MM → Prop} {K13 : Int32 × MM → Prop} {x : Int32 × MM}   (hK13 : ∀ (z1 : Int32) (zμ : MM), K13 (z1, zμ) → WX p l e (rmX dR) s m args below meth c φ tc D (AX φ) 2 0 0 (MQ below (QX φ tc D (QI Q)) args s 0 0 (AX φ)) 13 [(0, .ref 237), (1, .int z1)] [] zμ) (h : G6_tellPairs_L13  Q K13 x) : WX p l e (rmX dR) s m args below meth c φ tc D (AX φ) 2 0 0 (MQ below (QX φ tc D (QI Q)) args s 0 0 (AX φ)) 13 [(0, .ref 237), (1, .int x.1)] [] x.2 := by
  unfold G6_tellPairs_L13 at h
  refine x_iload_n C rfl 1 rfl dX6_tellPairs_13 ?_
  refine x_bipush (v := 6) C (by decide) dX6_tellPairs_14 ?_
  refine x_icmp_ge (tgt := 56) C dX6_tellPairs_16 (by decide) (fun c11 => ?_) (fun c11 => ?_)
  · have h := h.1 c11
    refine x_aload_n C rfl 0 rfl dX6_tellPairs_56 ?_
    refine x_iconst (v := 0) C (by decide) dX6_tellPairs_57 ?_
    refine x_callV (dC := G6_weighedWithin_dep) (as := [.int 0]) (st := []) C rX kX (Nat.le_trans (Nat.le_of_ble_eq_true rfl) hd) (Nat.le_of_ble_eq_true rfl) ob237.1 ob237.2 (Nat.le_of_ble_eq_true rfl) rfl ts_7_5 tw_5_207 tw_5_205 tc_5_208 tw_1_11 hyX6 hnX6_weighedWithin rfl (Nat.le_of_ble_eq_true rfl) dX6_tellPairs_58 (G6_weighedWithin_met C.2.2.2.2.2.2.2.1 (Nat.le_refl _)  h) (fun r0 μ12 hq => ?_)
    obtain ⟨r13, rfl, h⟩ := hq
    refine x_st [.int r13] rfl ?_
    exact x_iret C hr dX6_tellPairs_61 ⟨_, rfl, h⟩
  · have h := h.2 c11
    refine x_aload_n C rfl 0 rfl dX6_tellPairs_19 ?_
    refine x_getR (r := 151) C (j := 1) ob237.1 ob237.2 (Nat.le_of_ble_eq_true rfl) (Nat.le_of_ble_eq_true rfl) (fun _ _ _ => rfl) r_237_1 tw_2_113 dX6_tellPairs_20 ?_
    refine x_aload_n C rfl 0 rfl dX6_tellPairs_23 ?_
    refine x_getR (r := 1) C (j := 0) ob237.1 ob237.2 (Nat.le_of_ble_eq_true rfl) (Nat.le_of_ble_eq_true rfl) (fun _ _ _ => rfl) r_237_0 tw_2_112 dX6_tellPairs_24 ?_
    refine x_iload_n C rfl 1 rfl dX6_tellPairs_27 ?_
    refine x_callVN (dC := G10_isLaw_dep) (as := [.int x.1]) (st := [.ref 151]) C rX kX (Nat.le_trans (Nat.le_of_ble_eq_true rfl) hd) (Nat.le_of_ble_eq_true rfl) ob1.1 ob1.2 (Nat.le_of_ble_eq_true rfl) rfl ts_2_6 tw_3_188 tw_5_195 tc_3_189 tw_1_2 hyX10 hnX10_isLaw rfl (Nat.le_of_ble_eq_true rfl) dX6_tellPairs_28 (G10_isLaw_met C.2.2.2.2.2.2.2.1 (Nat.le_refl _)  h) (fun r0 μ14 hq => ?_)
    obtain ⟨r15, rfl, h⟩ := hq
    refine x_st [.int r15, .ref 151] rfl ?_
    refine x_if_eq (tgt := 44) C dX6_tellPairs_31 (by decide) (fun c16 => ?_) (fun c16 => ?_)
    · have h := h.1 c16
      refine x_ldc2 (v := (-1)) C tw_5_203 dX6_tellPairs_44 ?_
      exact G6_tellPairs_J47_ok C hd hr hK13 h
    · have h := h.2 c16
      refine x_aload_n C rfl 0 rfl dX6_tellPairs_34 ?_
      refine x_getR (r := 248) C (j := 7) ob237.1 ob237.2 (Nat.le_of_ble_eq_true rfl) (Nat.le_of_ble_eq_true rfl) (fun _ _ _ => rfl) r_237_7 tw_2_120 dX6_tellPairs_35 ?_
      refine x_iload_n C rfl 1 rfl dX6_tellPairs_38 ?_
      obtain ⟨c18, h⟩ := h
      refine x_iald C ob248.1 ob248.2 c18 rfl dX6_tellPairs_39 ?_
      refine x_i2l C dX6_tellPairs_40 ?_
      refine x_goto (tgt := 47) C dX6_tellPairs_41 (by decide) ?_
      exact G6_tellPairs_J47_ok C hd hr hK13 h
theorem G6_tellPairs_L13_ok {p : Program} {e : Env} {s : State} {m : MethodId} {args : Array Value} {below : List Frame} {meth : Method} {c : Code} {l : Launch} {φ : Nat → Nat} {tc : Nat → ClassId} {D : va_G} {s0 : State} {dR : Nat} (C : CX p s m args meth c φ tc D (AX φ) s0 cX6_tellPairs RX6 2) (hd : G6_tellPairs_dep ≤ dR) (hr : meth.sig.returnType = (some .int))   {Q : Int32 → MM → Prop}  {x : Int32 × MM}    (h : Lp (G6_tellPairs_L13  Q) x) : WX p l e (rmX dR) s m args below meth c φ tc D (AX φ) 2 0 0 (MQ below (QX φ tc D (QI Q)) args s 0 0 (AX φ)) 13 [(0, .ref 237), (1, .int x.1)] [] x.2 := by
  obtain ⟨n, h⟩ := h
  induction n generalizing x with
  | zero => exact h.elim
  | succ n ih => exact G6_tellPairs_L13_b C hd hr   (fun z1 zμ hz => by have q := ih hz; exact q) h
set_option maxHeartbeats 4000000 in
set_option maxRecDepth 100000 in
theorem G6_tellPairs_met {l : Launch} {φ : Nat → Nat} {tc : Nat → ClassId} {D : va_G} {s0 : State} (hG : GX φ tc D s0) {dR : Nat} (hd : G6_tellPairs_dep ≤ dR)  {μ : MM} {Q : Int32 → MM → Prop}  (h : G6_tellPairs  μ Q) : MX l φ tc D s0 dR yX6_tellPairs cX6_tellPairs 2 (some .int) [.ref 237] μ (QI Q) := by
  refine MX.of (own := RX6) hG plX6 rfl (Nat.le_of_ble_eq_true rfl) (fun p e s m args below meth c C hr => ?_)
  refine x_sub [(0, .ref 237)] [0] rfl ?_
  unfold G6_tellPairs at h
  refine x_aload_n C rfl 0 rfl dX6_tellPairs_0 ?_
  refine x_callV (dC := G6_weigh_dep) (as := []) (st := []) C rX kX (Nat.le_trans (Nat.le_of_ble_eq_true rfl) hd) (Nat.le_of_ble_eq_true rfl) ob237.1 ob237.2 (Nat.le_of_ble_eq_true rfl) rfl ts_7_3 tw_5_192 tw_5_190 tc_5_193 tw_1_11 hyX6 hnX6_weigh rfl (Nat.le_of_ble_eq_true rfl) dX6_tellPairs_1 (G6_weigh_met C.2.2.2.2.2.2.2.1 (Nat.le_refl _)  h) (fun r0 μ9 hq => ?_)
  obtain ⟨rfl, h⟩ := hq
  refine x_st [] rfl ?_
  refine x_aload_n C rfl 0 rfl dX6_tellPairs_4 ?_
  refine x_getR (r := 151) C (j := 1) ob237.1 ob237.2 (Nat.le_of_ble_eq_true rfl) (Nat.le_of_ble_eq_true rfl) (fun _ _ _ => rfl) r_237_1 tw_2_113 dX6_tellPairs_5 ?_
  refine x_callVN (dC := G7_clear_dep) (as := []) (st := []) C rX kX (Nat.le_trans (Nat.le_of_ble_eq_true rfl) hd) (Nat.le_of_ble_eq_true rfl) ob151.1 ob151.2 (Nat.le_of_ble_eq_true rfl) rfl ts_3_8 tw_4_48 tw_5_202 tc_4_49 tw_1_5 hyX7 hnX7_clear rfl (Nat.le_of_ble_eq_true rfl) dX6_tellPairs_8 (G7_clear_met C.2.2.2.2.2.2.2.1 (Nat.le_refl _)  h) (fun r0 μ10 hq => ?_)
  obtain ⟨rfl, h⟩ := hq
  refine x_st [] rfl ?_
  refine x_iconst (v := 0) C (by decide) dX6_tellPairs_11 ?_
  refine x_istore_n C [(1, .int 0), (0, .ref 237)] rfl (Nat.le_of_ble_eq_true rfl) rfl dX6_tellPairs_12 ?_
  refine x_sub [(0, .ref 237), (1, .int 0)] [1, 0] rfl ?_
  exact G6_tellPairs_L13_ok C hd hr  h
set_option maxHeartbeats 4000000 in
set_option maxRecDepth 100000 in
theorem G11_pairs_met {l : Launch} {φ : Nat → Nat} {tc : Nat → ClassId} {D : va_G} {s0 : State} (hG : GX φ tc D s0) {dR : Nat} (hd : G11_pairs_dep ≤ dR)  {μ : MM} {Q : Int32 → MM → Prop}  (h : G11_pairs  μ Q) : MX l φ tc D s0 dR yX11_pairs cX11_pairs 1 (some .int) [.ref 0] μ (QI Q) := by
  refine MX.of (own := RX11) hG plX11 rfl (Nat.le_of_ble_eq_true rfl) (fun p e s m args below meth c C hr => ?_)
  refine x_sub [(0, .ref 0)] [0] rfl ?_
  unfold G11_pairs at h
  refine x_aload_n C rfl 0 rfl dX11_pairs_0 ?_
  refine x_getR (r := 237) C (j := 5) ob0.1 ob0.2 (Nat.le_of_ble_eq_true rfl) (Nat.le_of_ble_eq_true rfl) (fun _ _ _ => rfl) r_0_5 tw_2_168 dX11_pairs_1 ?_
  refine x_callVN (dC := G6_tellPairs_dep) (as := []) (st := []) C rX kX (Nat.le_trans (Nat.le_of_ble_eq_true rfl) hd) (Nat.le_of_ble_eq_true rfl) ob237.1 ob237.2 (Nat.le_of_ble_eq_true rfl) rfl ts_7_2 tw_5_188 tw_5_186 tc_5_189 tw_1_11 hyX6 hnX6_tellPairs rfl (Nat.le_of_ble_eq_true rfl) dX11_pairs_4 (G6_tellPairs_met C.2.2.2.2.2.2.2.1 (Nat.le_refl _)  h) (fun r0 μ3 hq => ?_)
  obtain ⟨r4, rfl, h⟩ := hq
  refine x_st [.int r4] rfl ?_
  exact x_iret C hr dX11_pairs_7 ⟨_, rfl, h⟩
set_option maxHeartbeats 4000000 in
set_option maxRecDepth 100000 in
theorem G6_mostLeft_J94_ok {p : Program} {e : Env} {s : State} {m : MethodId} {args : Array Value} {below : List Frame} {meth : Method} {c : Code} {l : Launch} {φ : Nat → Nat} {tc : Nat → ClassId} {D : va_G} {s0 : State} {dR : Nat} (C : CX p s m args meth c φ tc D (AX φ) s0 cX6_mostLeft RX6 9) (hd : G6_mostLeft_dep ≤ dR) (hr : meth.sig.returnType = (some .int))   {p1 : Int32} {p2 : Int32} {p3 : Int32} {p4 : Int32} {p5 : Int32} {p7 : Int32} {q0 : Int32} {q1 : Int32} {Q : Int32 → MM → Prop} {K12 : Int32 × Int32 × Int32 × Int32 × MM → Prop} {μ : MM}   (hK12 : ∀ (z4 : Int32) (z5 : Int32) (z6 : Int32) (z7 : Int32) (zμ : MM), K12 (z4, z5, z6, z7, zμ) → WX p l e (rmX dR) s m args below meth c φ tc D (AX φ) 9 0 0 (MQ below (QX φ tc D (QI Q)) args s 0 0 (AX φ)) 12 [(0, .ref 237), (1, .int p1), (2, .int p2), (3, .int p3), (4, .int z4), (5, .int z5), (6, .int z6), (7, .int z7)] [] zμ) (h : G6_mostLeft_J94 p1 p2 p3 p4 p5 p7 q0 q1 μ K12 Q) : WX p l e (rmX dR) s m args below meth c φ tc D (AX φ) 9 0 0 (MQ below (QX φ tc D (QI Q)) args s 0 0 (AX φ)) 94 [(0, .ref 237), (1, .int p1), (2, .int p2), (3, .int p3), (4, .int p4), (5, .int p5), (7, .int p7)] [.int q0, .int q1] μ := by
  unfold G6_mostLeft_J94 at h
  refine x_iadd C dX6_mostLeft_94 ?_
  refine x_topi (fun y23 e_y23 => ?_)
  have h := h y23 e_y23
  refine x_istore C [(6, .int y23), (0, .ref 237), (1, .int p1), (2, .int p2), (3, .int p3), (4, .int p4), (5, .int p5), (7, .int p7)] (Nat.le_of_ble_eq_true rfl) rfl dX6_mostLeft_95 ?_
  refine x_iinc (v := (p7 + 1)) C [(7, .int (p7 + 1)), (6, .int y23), (0, .ref 237), (1, .int p1), (2, .int p2), (3, .int p3), (4, .int p4), (5, .int p5)] 7 rfl (congrArg (fun z => p7 + z) (by decide : Int32.ofInt (1) = 1)) (Nat.le_of_ble_eq_true rfl) rfl dX6_mostLeft_97 ?_
  refine x_goto (tgt := 12) C dX6_mostLeft_100 (by decide) ?_
  refine x_sub [(0, .ref 237), (1, .int p1), (2, .int p2), (3, .int p3), (4, .int p4), (5, .int p5), (6, .int y23), (7, .int (p7 + 1))] [2, 3, 4, 5, 6, 7, 1, 0] rfl ?_
  exact hK12 _ _ _ _ _ h
set_option maxHeartbeats 4000000 in
set_option maxRecDepth 100000 in
theorem G6_mostLeft_J79_ok {p : Program} {e : Env} {s : State} {m : MethodId} {args : Array Value} {below : List Frame} {meth : Method} {c : Code} {l : Launch} {φ : Nat → Nat} {tc : Nat → ClassId} {D : va_G} {s0 : State} {dR : Nat} (C : CX p s m args meth c φ tc D (AX φ) s0 cX6_mostLeft RX6 9) (hd : G6_mostLeft_dep ≤ dR) (hr : meth.sig.returnType = (some .int))   {p1 : Int32} {p2 : Int32} {p3 : Int32} {p4 : Int32} {p6 : Int32} {p7 : Int32} {p8 : Int32} {q0 : Int32} {q1 : Int32} {Q : Int32 → MM → Prop} {K12 : Int32 × Int32 × Int32 × Int32 × MM → Prop} {μ : MM}   (hK12 : ∀ (z4 : Int32) (z5 : Int32) (z6 : Int32) (z7 : Int32) (zμ : MM), K12 (z4, z5, z6, z7, zμ) → WX p l e (rmX dR) s m args below meth c φ tc D (AX φ) 9 0 0 (MQ below (QX φ tc D (QI Q)) args s 0 0 (AX φ)) 12 [(0, .ref 237), (1, .int p1), (2, .int p2), (3, .int p3), (4, .int z4), (5, .int z5), (6, .int z6), (7, .int z7)] [] zμ) (h : G6_mostLeft_J79 p1 p2 p3 p4 p6 p7 p8 q0 q1 μ K12 Q) : WX p l e (rmX dR) s m args below meth c φ tc D (AX φ) 9 0 0 (MQ below (QX φ tc D (QI Q)) args s 0 0 (AX φ)) 79 [(0, .ref 237), (1, .int p1), (2, .int p2), (3, .int p3), (4, .int p4), (6, .int p6), (7, .int p7), (8, .int p8)] [.int q0, .int q1] μ := by
  unfold G6_mostLeft_J79 at h
  refine x_iadd C dX6_mostLeft_79 ?_
  refine x_topi (fun y21 e_y21 => ?_)
  have h := h y21 e_y21
  refine x_istore C [(5, .int y21), (0, .ref 237), (1, .int p1), (2, .int p2), (3, .int p3), (4, .int p4), (6, .int p6), (7, .int p7), (8, .int p8)] (Nat.le_of_ble_eq_true rfl) rfl dX6_mostLeft_80 ?_
  refine x_iload C 6 rfl dX6_mostLeft_82 ?_
  refine x_iload C 8 rfl dX6_mostLeft_84 ?_
  refine x_if_ge (tgt := 93) C dX6_mostLeft_86 (by decide) (fun c22 => ?_) (fun c22 => ?_)
  · have h := h.1 c22
    refine x_iconst (v := 0) C (by decide) dX6_mostLeft_93 ?_
    refine x_sub [(0, .ref 237), (1, .int p1), (2, .int p2), (3, .int p3), (4, .int p4), (5, .int y21), (7, .int p7)] [1, 2, 3, 4, 5, 0, 7] rfl ?_
    exact G6_mostLeft_J94_ok C hd hr hK12 h
  · have h := h.2 c22
    refine x_iconst (v := 1) C (by decide) dX6_mostLeft_89 ?_
    refine x_goto (tgt := 94) C dX6_mostLeft_90 (by decide) ?_
    refine x_sub [(0, .ref 237), (1, .int p1), (2, .int p2), (3, .int p3), (4, .int p4), (5, .int y21), (7, .int p7)] [1, 2, 3, 4, 5, 0, 7] rfl ?_
    exact G6_mostLeft_J94_ok C hd hr hK12 h
set_option maxHeartbeats 4000000 in
set_option maxRecDepth 100000 in
theorem G6_mostLeft_J64_ok {p : Program} {e : Env} {s : State} {m : MethodId} {args : Array Value} {below : List Frame} {meth : Method} {c : Code} {l : Launch} {φ : Nat → Nat} {tc : Nat → ClassId} {D : va_G} {s0 : State} {dR : Nat} (C : CX p s m args meth c φ tc D (AX φ) s0 cX6_mostLeft RX6 9) (hd : G6_mostLeft_dep ≤ dR) (hr : meth.sig.returnType = (some .int))   {p1 : Int32} {p2 : Int32} {p3 : Int32} {p5 : Int32} {p6 : Int32} {p7 : Int32} {p8 : Int32} {q0 : Int32} {q1 : Int32} {Q : Int32 → MM → Prop} {K12 : Int32 × Int32 × Int32 × Int32 × MM → Prop} {μ : MM}   (hK12 : ∀ (z4 : Int32) (z5 : Int32) (z6 : Int32) (z7 : Int32) (zμ : MM), K12 (z4, z5, z6, z7, zμ) → WX p l e (rmX dR) s m args below meth c φ tc D (AX φ) 9 0 0 (MQ below (QX φ tc D (QI Q)) args s 0 0 (AX φ)) 12 [(0, .ref 237), (1, .int p1), (2, .int p2), (3, .int p3), (4, .int z4), (5, .int z5), (6, .int z6), (7, .int z7)] [] zμ) (h : G6_mostLeft_J64 p1 p2 p3 p5 p6 p7 p8 q0 q1 μ K12 Q) : WX p l e (rmX dR) s m args below meth c φ tc D (AX φ) 9 0 0 (MQ below (QX φ tc D (QI Q)) args s 0 0 (AX φ)) 64 [(0, .ref 237), (1, .int p1), (2, .int p2), (3, .int p3), (5, .int p5), (6, .int p6), (7, .int p7), (8, .int p8)] [.int q0, .int q1] μ := by
  unfold G6_mostLeft_J64 at h
  refine x_iadd C dX6_mostLeft_64 ?_
  refine x_topi (fun y19 e_y19 => ?_)
  have h := h y19 e_y19
  refine x_istore C [(4, .int y19), (0, .ref 237), (1, .int p1), (2, .int p2), (3, .int p3), (5, .int p5), (6, .int p6), (7, .int p7), (8, .int p8)] (Nat.le_of_ble_eq_true rfl) rfl dX6_mostLeft_65 ?_
  refine x_iload C 5 rfl dX6_mostLeft_67 ?_
  refine x_iload C 8 rfl dX6_mostLeft_69 ?_
  refine x_if_le (tgt := 78) C dX6_mostLeft_71 (by decide) (fun c20 => ?_) (fun c20 => ?_)
  · have h := h.1 c20
    refine x_iconst (v := 0) C (by decide) dX6_mostLeft_78 ?_
    refine x_sub [(0, .ref 237), (1, .int p1), (2, .int p2), (3, .int p3), (4, .int y19), (6, .int p6), (7, .int p7), (8, .int p8)] [1, 2, 3, 4, 0, 6, 7, 8] rfl ?_
    exact G6_mostLeft_J79_ok C hd hr hK12 h
  · have h := h.2 c20
    refine x_iconst (v := 1) C (by decide) dX6_mostLeft_74 ?_
    refine x_goto (tgt := 79) C dX6_mostLeft_75 (by decide) ?_
    refine x_sub [(0, .ref 237), (1, .int p1), (2, .int p2), (3, .int p3), (4, .int y19), (6, .int p6), (7, .int p7), (8, .int p8)] [1, 2, 3, 4, 0, 6, 7, 8] rfl ?_
    exact G6_mostLeft_J79_ok C hd hr hK12 h
set_option maxHeartbeats 4000000 in
set_option maxRecDepth 100000 in
theorem G6_mostLeft_L12_b {p : Program} {e : Env} {s : State} {m : MethodId} {args : Array Value} {below : List Frame} {meth : Method} {c : Code} {l : Launch} {φ : Nat → Nat} {tc : Nat → ClassId} {D : va_G} {s0 : State} {dR : Nat} (C : CX p s m args meth c φ tc D (AX φ) s0 cX6_mostLeft RX6 9) (hd : G6_mostLeft_dep ≤ dR) (hr : meth.sig.returnType = (some .int))  {p1 : Int32} {p2 : Int32} {p3 : Int32} {Q : Int32 → MM → Prop} {K12 : Int32 × Int32 × Int32 × Int32 × MM → Prop} {x : Int32 × Int32 × Int32 × Int32 × MM}   (hK12 : ∀ (z4 : Int32) (z5 : Int32) (z6 : Int32) (z7 : Int32) (zμ : MM), K12 (z4, z5, z6, z7, zμ) → WX p l e (rmX dR) s m args below meth c φ tc D (AX φ) 9 0 0 (MQ below (QX φ tc D (QI Q)) args s 0 0 (AX φ)) 12 [(0, .ref 237), (1, .int p1), (2, .int p2), (3, .int p3), (4, .int z4), (5, .int z5), (6, .int z6), (7, .int z7)] [] zμ) (h : G6_mostLeft_L12 p1 p2 p3 Q K12 x) : WX p l e (rmX dR) s m args below meth c φ tc D (AX φ) 9 0 0 (MQ below (QX φ tc D (QI Q)) args s 0 0 (AX φ)) 12 [(0, .ref 237), (1, .int p1), (2, .int p2), (3, .int p3), (4, .int x.1), (5, .int x.2.1), (6, .int x.2.2.1), (7, .int x.2.2.2.1)] [] x.2.2.2.2 := by
  unfold G6_mostLeft_L12 at h
  refine x_iload C 7 rfl dX6_mostLeft_12 ?_
  refine x_bipush (v := 6) C (by decide) dX6_mostLeft_14 ?_
  refine x_icmp_ge (tgt := 103) C dX6_mostLeft_16 (by decide) (fun c10 => ?_) (fun c10 => ?_)
  · have h := h.1 c10
    refine x_iload C 4 rfl dX6_mostLeft_103 ?_
    refine x_iload C 5 rfl dX6_mostLeft_105 ?_
    refine x_iload C 6 rfl dX6_mostLeft_107 ?_
    refine x_mmax C rX kX (Nat.le_trans (Nat.le_of_ble_eq_true rfl) hd) tw_5_222 tw_3_77 tw_1_20 (Nat.le_of_ble_eq_true rfl) dX6_mostLeft_109 ?_
    refine x_iadd C dX6_mostLeft_112 ?_
    exact x_iret C hr dX6_mostLeft_113 ⟨_, rfl, h⟩
  · have h := h.2 c10
    refine x_iload_n C rfl 1 rfl dX6_mostLeft_19 ?_
    refine x_iload C 7 rfl dX6_mostLeft_20 ?_
    refine x_ishr C dX6_mostLeft_22 ?_
    refine x_iconst (v := 1) C (by decide) dX6_mostLeft_23 ?_
    refine x_iand C dX6_mostLeft_24 ?_
    refine x_iconst (v := 1) C (by decide) dX6_mostLeft_25 ?_
    refine x_icmp_ne (tgt := 97) C dX6_mostLeft_26 (by decide) (fun c11 => ?_) (fun c11 => ?_)
    · have h := h.1 c11
      refine x_iinc (v := (x.2.2.2.1 + 1)) C [(7, .int (x.2.2.2.1 + 1)), (0, .ref 237), (1, .int p1), (2, .int p2), (3, .int p3), (4, .int x.1), (5, .int x.2.1), (6, .int x.2.2.1)] 7 rfl (congrArg (fun z => x.2.2.2.1 + z) (by decide : Int32.ofInt (1) = 1)) (Nat.le_of_ble_eq_true rfl) rfl dX6_mostLeft_97 ?_
      refine x_goto (tgt := 12) C dX6_mostLeft_100 (by decide) ?_
      refine x_sub [(0, .ref 237), (1, .int p1), (2, .int p2), (3, .int p3), (4, .int x.1), (5, .int x.2.1), (6, .int x.2.2.1), (7, .int (x.2.2.2.1 + 1))] [1, 2, 3, 4, 5, 6, 7, 0] rfl ?_
      exact hK12 _ _ _ _ _ h
    · have h := h.2 c11
      refine x_aload_n C rfl 0 rfl dX6_mostLeft_29 ?_
      refine x_getR (r := 241) C (j := 6) ob237.1 ob237.2 (Nat.le_of_ble_eq_true rfl) (Nat.le_of_ble_eq_true rfl) (fun _ _ _ => rfl) r_237_6 tw_2_119 dX6_mostLeft_30 ?_
      refine x_iload C 7 rfl dX6_mostLeft_33 ?_
      obtain ⟨c12, h⟩ := h
      refine x_aald (r := (242 + x.2.2.2.1.toNatClampNeg)) C ob241.1 (by decide) (by decide) c12 rfl (rA241 c12) dX6_mostLeft_35 ?_
      refine x_iload_n C rfl 2 rfl dX6_mostLeft_36 ?_
      obtain ⟨c13, h⟩ := h
      refine x_iald C (obA241 c12).1 (obA241 c12).2 (by rw [lnA241 c12]; exact c13) rfl dX6_mostLeft_37 ?_
      refine x_aload_n C rfl 0 rfl dX6_mostLeft_38 ?_
      refine x_getR (r := 241) C (j := 6) ob237.1 ob237.2 (Nat.le_of_ble_eq_true rfl) (Nat.le_of_ble_eq_true rfl) (fun _ _ _ => rfl) r_237_6 tw_2_119 dX6_mostLeft_39 ?_
      refine x_iload C 7 rfl dX6_mostLeft_42 ?_
      obtain ⟨c14, h⟩ := h
      refine x_aald (r := (242 + x.2.2.2.1.toNatClampNeg)) C ob241.1 (by decide) (by decide) c14 rfl (rA241 c14) dX6_mostLeft_44 ?_
      refine x_iload_n C rfl 3 rfl dX6_mostLeft_45 ?_
      obtain ⟨c15, h⟩ := h
      refine x_iald C (obA241 c14).1 (obA241 c14).2 (by rw [lnA241 c14]; exact c15) rfl dX6_mostLeft_46 ?_
      refine x_callS (dC := GJ6_compare_7cf53_dep) (as := [.int (gI x.2.2.2.2 (242 + x.2.2.2.1.toNatClampNeg) p2.toNatClampNeg), .int (gI x.2.2.2.2 (242 + x.2.2.2.1.toNatClampNeg) p3.toNatClampNeg)]) (st := []) C rX kX (Nat.le_trans (Nat.le_of_ble_eq_true rfl) hd) (Nat.le_of_ble_eq_true rfl) tw_4_174 tw_5_201 tc_4_175 tw_1_24 hyJ6 hnJ6_compare_7cf53 rfl (Nat.le_of_ble_eq_true rfl) dX6_mostLeft_47 (GJ6_compare_7cf53_met C.2.2.2.2.2.2.2.1 (Nat.le_refl _)  h) (fun r0 μ16 hq => ?_)
      obtain ⟨r17, rfl, h⟩ := hq
      refine x_st [.int r17] rfl ?_
      refine x_istore C [(8, .int r17), (0, .ref 237), (1, .int p1), (2, .int p2), (3, .int p3), (4, .int x.1), (5, .int x.2.1), (6, .int x.2.2.1), (7, .int x.2.2.2.1)] (Nat.le_of_ble_eq_true rfl) rfl dX6_mostLeft_50 ?_
      refine x_iload C 5 rfl dX6_mostLeft_52 ?_
      refine x_iload C 0 rfl dX6_mostLeft_54 ?_
      refine x_if_ne (tgt := 63) C dX6_mostLeft_56 (by decide) (fun c18 => ?_) (fun c18 => ?_)
      · have h := h.1 c18
        refine x_iconst (v := 0) C (by decide) dX6_mostLeft_63 ?_
        refine x_sub [(0, .ref 237), (1, .int p1), (2, .int p2), (3, .int p3), (5, .int x.2.1), (6, .int x.2.2.1), (7, .int x.2.2.2.1), (8, .int r17)] [1, 2, 3, 4, 6, 7, 8, 0] rfl ?_
        exact G6_mostLeft_J64_ok C hd hr hK12 h
      · have h := h.2 c18
        refine x_iconst (v := 1) C (by decide) dX6_mostLeft_59 ?_
        refine x_goto (tgt := 64) C dX6_mostLeft_60 (by decide) ?_
        refine x_sub [(0, .ref 237), (1, .int p1), (2, .int p2), (3, .int p3), (5, .int x.2.1), (6, .int x.2.2.1), (7, .int x.2.2.2.1), (8, .int r17)] [1, 2, 3, 4, 6, 7, 8, 0] rfl ?_
        exact G6_mostLeft_J64_ok C hd hr hK12 h
theorem G6_mostLeft_L12_ok {p : Program} {e : Env} {s : State} {m : MethodId} {args : Array Value} {below : List Frame} {meth : Method} {c : Code} {l : Launch} {φ : Nat → Nat} {tc : Nat → ClassId} {D : va_G} {s0 : State} {dR : Nat} (C : CX p s m args meth c φ tc D (AX φ) s0 cX6_mostLeft RX6 9) (hd : G6_mostLeft_dep ≤ dR) (hr : meth.sig.returnType = (some .int))  {p1 : Int32} {p2 : Int32} {p3 : Int32} {Q : Int32 → MM → Prop}  {x : Int32 × Int32 × Int32 × Int32 × MM}    (h : Lp (G6_mostLeft_L12 p1 p2 p3 Q) x) : WX p l e (rmX dR) s m args below meth c φ tc D (AX φ) 9 0 0 (MQ below (QX φ tc D (QI Q)) args s 0 0 (AX φ)) 12 [(0, .ref 237), (1, .int p1), (2, .int p2), (3, .int p3), (4, .int x.1), (5, .int x.2.1), (6, .int x.2.2.1), (7, .int x.2.2.2.1)] [] x.2.2.2.2 := by
  obtain ⟨n, h⟩ := h
  induction n generalizing x with
  | zero => exact h.elim
  | succ n ih => exact G6_mostLeft_L12_b C hd hr   (fun z4 z5 z6 z7 zμ hz => by have q := ih hz; exact q) h
set_option maxHeartbeats 4000000 in
set_option maxRecDepth 100000 in
theorem G6_mostLeft_met {l : Launch} {φ : Nat → Nat} {tc : Nat → ClassId} {D : va_G} {s0 : State} (hG : GX φ tc D s0) {dR : Nat} (hd : G6_mostLeft_dep ≤ dR) {v1 : Int32} {v2 : Int32} {v3 : Int32} {μ : MM} {Q : Int32 → MM → Prop}  (h : G6_mostLeft v1 v2 v3 μ Q) : MX l φ tc D s0 dR yX6_mostLeft cX6_mostLeft 9 (some .int) [.ref 237, .int v1, .int v2, .int v3] μ (QI Q) := by
  refine MX.of (own := RX6) hG plX6 rfl (Nat.le_of_ble_eq_true rfl) (fun p e s m args below meth c C hr => ?_)
  refine x_sub [(0, .ref 237), (1, .int v1), (2, .int v2), (3, .int v3)] [0, 1, 2, 3] rfl ?_
  unfold G6_mostLeft at h
  refine x_iconst (v := 0) C (by decide) dX6_mostLeft_0 ?_
  refine x_istore C [(4, .int 0), (0, .ref 237), (1, .int v1), (2, .int v2), (3, .int v3)] (Nat.le_of_ble_eq_true rfl) rfl dX6_mostLeft_1 ?_
  refine x_iconst (v := 0) C (by decide) dX6_mostLeft_3 ?_
  refine x_istore C [(5, .int 0), (4, .int 0), (0, .ref 237), (1, .int v1), (2, .int v2), (3, .int v3)] (Nat.le_of_ble_eq_true rfl) rfl dX6_mostLeft_4 ?_
  refine x_iconst (v := 0) C (by decide) dX6_mostLeft_6 ?_
  refine x_istore C [(6, .int 0), (5, .int 0), (4, .int 0), (0, .ref 237), (1, .int v1), (2, .int v2), (3, .int v3)] (Nat.le_of_ble_eq_true rfl) rfl dX6_mostLeft_7 ?_
  refine x_iconst (v := 0) C (by decide) dX6_mostLeft_9 ?_
  refine x_istore C [(7, .int 0), (6, .int 0), (5, .int 0), (4, .int 0), (0, .ref 237), (1, .int v1), (2, .int v2), (3, .int v3)] (Nat.le_of_ble_eq_true rfl) rfl dX6_mostLeft_10 ?_
  refine x_sub [(0, .ref 237), (1, .int v1), (2, .int v2), (3, .int v3), (4, .int 0), (5, .int 0), (6, .int 0), (7, .int 0)] [4, 5, 6, 7, 3, 2, 1, 0] rfl ?_
  exact G6_mostLeft_L12_ok C hd hr  h
set_option maxHeartbeats 4000000 in
set_option maxRecDepth 100000 in
theorem G6_tellNext_L61_b {p : Program} {e : Env} {s : State} {m : MethodId} {args : Array Value} {below : List Frame} {meth : Method} {c : Code} {l : Launch} {φ : Nat → Nat} {tc : Nat → ClassId} {D : va_G} {s0 : State} {dR : Nat} (C : CX p s m args meth c φ tc D (AX φ) s0 cX6_tellNext RX6 8) (hd : G6_tellNext_dep ≤ dR) (hr : meth.sig.returnType = (some .int))  {p1 : Int32} {p5 : Int32} {Q : Int32 → MM → Prop} {K43 : Int32 × Int32 × Int32 × Int32 × MM → Prop} {K61 : Int32 × Int32 × Int32 × Int32 × MM → Prop} {x : Int32 × Int32 × Int32 × Int32 × MM}   (hK43 : ∀ (z2 : Int32) (z3 : Int32) (z4 : Int32) (z5 : Int32) (zμ : MM), K43 (z2, z3, z4, z5, zμ) → WX p l e (rmX dR) s m args below meth c φ tc D (AX φ) 8 0 0 (MQ below (QX φ tc D (QI Q)) args s 0 0 (AX φ)) 43 [(0, .ref 237), (1, .int p1), (2, .int z2), (3, .int z3), (4, .int z4), (5, .int z5)] [] zμ) (hK61 : ∀ (z2 : Int32) (z3 : Int32) (z4 : Int32) (z6 : Int32) (zμ : MM), K61 (z2, z3, z4, z6, zμ) → WX p l e (rmX dR) s m args below meth c φ tc D (AX φ) 8 0 0 (MQ below (QX φ tc D (QI Q)) args s 0 0 (AX φ)) 61 [(0, .ref 237), (1, .int p1), (2, .int z2), (3, .int z3), (4, .int z4), (5, .int p5), (6, .int z6)] [] zμ) (h : G6_tellNext_L61 p1 p5 K43 Q K61 x) : WX p l e (rmX dR) s m args below meth c φ tc D (AX φ) 8 0 0 (MQ below (QX φ tc D (QI Q)) args s 0 0 (AX φ)) 61 [(0, .ref 237), (1, .int p1), (2, .int x.1), (3, .int x.2.1), (4, .int x.2.2.1), (5, .int p5), (6, .int x.2.2.2.1)] [] x.2.2.2.2 := by
  unfold G6_tellNext_L61 at h
  refine x_iload C 6 rfl dX6_tellNext_61 ?_
  refine x_aload_n C rfl 0 rfl dX6_tellNext_63 ?_
  refine x_getR (r := 1) C (j := 0) ob237.1 ob237.2 (Nat.le_of_ble_eq_true rfl) (Nat.le_of_ble_eq_true rfl) (fun _ _ _ => rfl) r_237_0 tw_2_112 dX6_tellNext_64 ?_
  refine x_getIN C (j := 10) ob1.1 ob1.2 (Nat.le_of_ble_eq_true rfl) (Nat.le_of_ble_eq_true rfl) (Or.inl rfl) tw_1_151 dX6_tellNext_67 ?_
  refine x_icmp_ge (tgt := 106) C dX6_tellNext_70 (by decide) (fun c24 => ?_) (fun c24 => ?_)
  · have h := h.1 c24
    refine x_iinc (v := (p5 + 1)) C [(5, .int (p5 + 1)), (0, .ref 237), (1, .int p1), (2, .int x.1), (3, .int x.2.1), (4, .int x.2.2.1), (6, .int x.2.2.2.1)] 5 rfl (congrArg (fun z => p5 + z) (by decide : Int32.ofInt (1) = 1)) (Nat.le_of_ble_eq_true rfl) rfl dX6_tellNext_106 ?_
    refine x_goto (tgt := 43) C dX6_tellNext_109 (by decide) ?_
    refine x_sub [(0, .ref 237), (1, .int p1), (2, .int x.1), (3, .int x.2.1), (4, .int x.2.2.1), (5, .int (p5 + 1))] [1, 2, 3, 4, 5, 0] rfl ?_
    exact hK43 _ _ _ _ _ h
  · have h := h.2 c24
    refine x_aload_n C rfl 0 rfl dX6_tellNext_73 ?_
    refine x_iload_n C rfl 1 rfl dX6_tellNext_74 ?_
    refine x_iload C 5 rfl dX6_tellNext_75 ?_
    refine x_iload C 6 rfl dX6_tellNext_77 ?_
    refine x_callV (dC := G6_mostLeft_dep) (as := [.int p1, .int p5, .int x.2.2.2.1]) (st := []) C rX kX (Nat.le_trans (Nat.le_of_ble_eq_true rfl) hd) (Nat.le_of_ble_eq_true rfl) ob237.1 ob237.2 (Nat.le_of_ble_eq_true rfl) rfl ts_7_7 tw_5_220 tw_5_218 tc_5_221 tw_1_11 hyX6 hnX6_mostLeft rfl (Nat.le_of_ble_eq_true rfl) dX6_tellNext_79 (G6_mostLeft_met C.2.2.2.2.2.2.2.1 (Nat.le_refl _)  h) (fun r0 μ25 hq => ?_)
    obtain ⟨r26, rfl, h⟩ := hq
    refine x_st [.int r26] rfl ?_
    refine x_istore C [(7, .int r26), (0, .ref 237), (1, .int p1), (2, .int x.1), (3, .int x.2.1), (4, .int x.2.2.1), (5, .int p5), (6, .int x.2.2.2.1)] (Nat.le_of_ble_eq_true rfl) rfl dX6_tellNext_82 ?_
    refine x_iload C 0 rfl dX6_tellNext_84 ?_
    refine x_iload_n C rfl 3 rfl dX6_tellNext_86 ?_
    refine x_icmp_ge (tgt := 100) C dX6_tellNext_87 (by decide) (fun c27 => ?_) (fun c27 => ?_)
    · have h := h.1 c27
      refine x_iinc (v := (x.2.2.2.1 + 1)) C [(6, .int (x.2.2.2.1 + 1)), (7, .int r26), (0, .ref 237), (1, .int p1), (2, .int x.1), (3, .int x.2.1), (4, .int x.2.2.1), (5, .int p5)] 7 rfl (congrArg (fun z => x.2.2.2.1 + z) (by decide : Int32.ofInt (1) = 1)) (Nat.le_of_ble_eq_true rfl) rfl dX6_tellNext_100 ?_
      refine x_goto (tgt := 61) C dX6_tellNext_103 (by decide) ?_
      refine x_sub [(0, .ref 237), (1, .int p1), (2, .int x.1), (3, .int x.2.1), (4, .int x.2.2.1), (5, .int p5), (6, .int (x.2.2.2.1 + 1))] [2, 3, 4, 5, 6, 7, 0] rfl ?_
      exact hK61 _ _ _ _ _ h
    · have h := h.2 c27
      refine x_iload C 0 rfl dX6_tellNext_90 ?_
      refine x_istore_n C [(2, .int r26), (7, .int r26), (0, .ref 237), (1, .int p1), (3, .int x.2.1), (4, .int x.2.2.1), (5, .int p5), (6, .int x.2.2.2.1)] rfl (Nat.le_of_ble_eq_true rfl) rfl dX6_tellNext_92 ?_
      refine x_iload C 6 rfl dX6_tellNext_93 ?_
      refine x_istore_n C [(3, .int p5), (2, .int r26), (7, .int r26), (0, .ref 237), (1, .int p1), (4, .int x.2.2.1), (5, .int p5), (6, .int x.2.2.2.1)] rfl (Nat.le_of_ble_eq_true rfl) rfl dX6_tellNext_95 ?_
      refine x_iload C 7 rfl dX6_tellNext_96 ?_
      refine x_istore C [(4, .int x.2.2.2.1), (3, .int p5), (2, .int r26), (7, .int r26), (0, .ref 237), (1, .int p1), (5, .int p5), (6, .int x.2.2.2.1)] (Nat.le_of_ble_eq_true rfl) rfl dX6_tellNext_98 ?_
      refine x_iinc (v := (x.2.2.2.1 + 1)) C [(6, .int (x.2.2.2.1 + 1)), (4, .int x.2.2.2.1), (3, .int p5), (2, .int r26), (7, .int r26), (0, .ref 237), (1, .int p1), (5, .int p5)] 7 rfl (congrArg (fun z => x.2.2.2.1 + z) (by decide : Int32.ofInt (1) = 1)) (Nat.le_of_ble_eq_true rfl) rfl dX6_tellNext_100 ?_
      refine x_goto (tgt := 61) C dX6_tellNext_103 (by decide) ?_
      refine x_sub [(0, .ref 237), (1, .int p1), (2, .int r26), (3, .int p5), (4, .int x.2.2.2.1), (5, .int p5), (6, .int (x.2.2.2.1 + 1))] [5, 6, 3, 2, 1, 7, 0] rfl ?_
      exact hK61 _ _ _ _ _ h
theorem G6_tellNext_L61_ok {p : Program} {e : Env} {s : State} {m : MethodId} {args : Array Value} {below : List Frame} {meth : Method} {c : Code} {l : Launch} {φ : Nat → Nat} {tc : Nat → ClassId} {D : va_G} {s0 : State} {dR : Nat} (C : CX p s m args meth c φ tc D (AX φ) s0 cX6_tellNext RX6 8) (hd : G6_tellNext_dep ≤ dR) (hr : meth.sig.returnType = (some .int))  {p1 : Int32} {p5 : Int32} {Q : Int32 → MM → Prop} {K43 : Int32 × Int32 × Int32 × Int32 × MM → Prop} {x : Int32 × Int32 × Int32 × Int32 × MM}   (hK43 : ∀ (z2 : Int32) (z3 : Int32) (z4 : Int32) (z5 : Int32) (zμ : MM), K43 (z2, z3, z4, z5, zμ) → WX p l e (rmX dR) s m args below meth c φ tc D (AX φ) 8 0 0 (MQ below (QX φ tc D (QI Q)) args s 0 0 (AX φ)) 43 [(0, .ref 237), (1, .int p1), (2, .int z2), (3, .int z3), (4, .int z4), (5, .int z5)] [] zμ) (h : Lp (G6_tellNext_L61 p1 p5 K43 Q) x) : WX p l e (rmX dR) s m args below meth c φ tc D (AX φ) 8 0 0 (MQ below (QX φ tc D (QI Q)) args s 0 0 (AX φ)) 61 [(0, .ref 237), (1, .int p1), (2, .int x.1), (3, .int x.2.1), (4, .int x.2.2.1), (5, .int p5), (6, .int x.2.2.2.1)] [] x.2.2.2.2 := by
  obtain ⟨n, h⟩ := h
  induction n generalizing x with
  | zero => exact h.elim
  | succ n ih => exact G6_tellNext_L61_b C hd hr  hK43 (fun z2 z3 z4 z6 zμ hz => by have q := ih hz; exact q) h
set_option maxHeartbeats 4000000 in
set_option maxRecDepth 100000 in
theorem G6_tellNext_L43_b {p : Program} {e : Env} {s : State} {m : MethodId} {args : Array Value} {below : List Frame} {meth : Method} {c : Code} {l : Launch} {φ : Nat → Nat} {tc : Nat → ClassId} {D : va_G} {s0 : State} {dR : Nat} (C : CX p s m args meth c φ tc D (AX φ) s0 cX6_tellNext RX6 8) (hd : G6_tellNext_dep ≤ dR) (hr : meth.sig.returnType = (some .int))  {p1 : Int32} {Q : Int32 → MM → Prop} {K43 : Int32 × Int32 × Int32 × Int32 × MM → Prop} {x : Int32 × Int32 × Int32 × Int32 × MM}   (hK43 : ∀ (z2 : Int32) (z3 : Int32) (z4 : Int32) (z5 : Int32) (zμ : MM), K43 (z2, z3, z4, z5, zμ) → WX p l e (rmX dR) s m args below meth c φ tc D (AX φ) 8 0 0 (MQ below (QX φ tc D (QI Q)) args s 0 0 (AX φ)) 43 [(0, .ref 237), (1, .int p1), (2, .int z2), (3, .int z3), (4, .int z4), (5, .int z5)] [] zμ) (h : G6_tellNext_L43 p1 Q K43 x) : WX p l e (rmX dR) s m args below meth c φ tc D (AX φ) 8 0 0 (MQ below (QX φ tc D (QI Q)) args s 0 0 (AX φ)) 43 [(0, .ref 237), (1, .int p1), (2, .int x.1), (3, .int x.2.1), (4, .int x.2.2.1), (5, .int x.2.2.2.1)] [] x.2.2.2.2 := by
  unfold G6_tellNext_L43 at h
  refine x_iload C 5 rfl dX6_tellNext_43 ?_
  refine x_aload_n C rfl 0 rfl dX6_tellNext_45 ?_
  refine x_getR (r := 1) C (j := 0) ob237.1 ob237.2 (Nat.le_of_ble_eq_true rfl) (Nat.le_of_ble_eq_true rfl) (fun _ _ _ => rfl) r_237_0 tw_2_112 dX6_tellNext_46 ?_
  refine x_getIN C (j := 10) ob1.1 ob1.2 (Nat.le_of_ble_eq_true rfl) (Nat.le_of_ble_eq_true rfl) (Or.inl rfl) tw_1_151 dX6_tellNext_49 ?_
  refine x_icmp_ge (tgt := 112) C dX6_tellNext_52 (by decide) (fun c19 => ?_) (fun c19 => ?_)
  · have h := h.1 c19
    refine x_aload_n C rfl 0 rfl dX6_tellNext_112 ?_
    refine x_getR (r := 151) C (j := 1) ob237.1 ob237.2 (Nat.le_of_ble_eq_true rfl) (Nat.le_of_ble_eq_true rfl) (fun _ _ _ => rfl) r_237_1 tw_2_113 dX6_tellNext_113 ?_
    refine x_callVN (dC := G7_clear_dep) (as := []) (st := []) C rX kX (Nat.le_trans (Nat.le_of_ble_eq_true rfl) hd) (Nat.le_of_ble_eq_true rfl) ob151.1 ob151.2 (Nat.le_of_ble_eq_true rfl) rfl ts_3_8 tw_4_48 tw_5_202 tc_4_49 tw_1_5 hyX7 hnX7_clear rfl (Nat.le_of_ble_eq_true rfl) dX6_tellNext_116 (G7_clear_met C.2.2.2.2.2.2.2.1 (Nat.le_refl _)  h) (fun r0 μ20 hq => ?_)
    obtain ⟨rfl, h⟩ := hq
    refine x_st [] rfl ?_
    refine x_aload_n C rfl 0 rfl dX6_tellNext_119 ?_
    refine x_getR (r := 151) C (j := 1) ob237.1 ob237.2 (Nat.le_of_ble_eq_true rfl) (Nat.le_of_ble_eq_true rfl) (fun _ _ _ => rfl) r_237_1 tw_2_113 dX6_tellNext_120 ?_
    refine x_iload_n C rfl 3 rfl dX6_tellNext_123 ?_
    refine x_i2l C dX6_tellNext_124 ?_
    refine x_callVN (dC := G7_add_dep) (as := [.long (x.2.1.toInt64)]) (st := []) C rX kX (Nat.le_trans (Nat.le_of_ble_eq_true rfl) hd) (Nat.le_of_ble_eq_true rfl) ob151.1 ob151.2 (Nat.le_of_ble_eq_true rfl) rfl ts_3_11 tw_4_63 tw_5_204 tc_4_64 tw_1_5 hyX7 hnX7_add rfl (Nat.le_of_ble_eq_true rfl) dX6_tellNext_125 (G7_add_met C.2.2.2.2.2.2.2.1 (Nat.le_refl _)  h) (fun r0 μ21 hq => ?_)
    obtain ⟨rfl, h⟩ := hq
    refine x_st [] rfl ?_
    refine x_aload_n C rfl 0 rfl dX6_tellNext_128 ?_
    refine x_getR (r := 151) C (j := 1) ob237.1 ob237.2 (Nat.le_of_ble_eq_true rfl) (Nat.le_of_ble_eq_true rfl) (fun _ _ _ => rfl) r_237_1 tw_2_113 dX6_tellNext_129 ?_
    refine x_iload C 4 rfl dX6_tellNext_132 ?_
    refine x_i2l C dX6_tellNext_134 ?_
    refine x_callVN (dC := G7_add_dep) (as := [.long (x.2.2.1.toInt64)]) (st := []) C rX kX (Nat.le_trans (Nat.le_of_ble_eq_true rfl) hd) (Nat.le_of_ble_eq_true rfl) ob151.1 ob151.2 (Nat.le_of_ble_eq_true rfl) rfl ts_3_11 tw_4_63 tw_5_204 tc_4_64 tw_1_5 hyX7 hnX7_add rfl (Nat.le_of_ble_eq_true rfl) dX6_tellNext_135 (G7_add_met C.2.2.2.2.2.2.2.1 (Nat.le_refl _)  h) (fun r0 μ22 hq => ?_)
    obtain ⟨rfl, h⟩ := hq
    refine x_st [] rfl ?_
    refine x_iload_n C rfl 2 rfl dX6_tellNext_138 ?_
    exact x_iret C hr dX6_tellNext_139 ⟨_, rfl, h⟩
  · have h := h.2 c19
    refine x_iload C 5 rfl dX6_tellNext_55 ?_
    refine x_iconst (v := 1) C (by decide) dX6_tellNext_57 ?_
    refine x_iadd C dX6_tellNext_58 ?_
    refine x_topi (fun y23 e_y23 => ?_)
    have h := h y23 e_y23
    refine x_istore C [(6, .int y23), (0, .ref 237), (1, .int p1), (2, .int x.1), (3, .int x.2.1), (4, .int x.2.2.1), (5, .int x.2.2.2.1)] (Nat.le_of_ble_eq_true rfl) rfl dX6_tellNext_59 ?_
    refine x_sub [(0, .ref 237), (1, .int p1), (2, .int x.1), (3, .int x.2.1), (4, .int x.2.2.1), (5, .int x.2.2.2.1), (6, .int y23)] [1, 2, 3, 4, 5, 6, 0] rfl ?_
    exact G6_tellNext_L61_ok C hd hr hK43 h
theorem G6_tellNext_L43_ok {p : Program} {e : Env} {s : State} {m : MethodId} {args : Array Value} {below : List Frame} {meth : Method} {c : Code} {l : Launch} {φ : Nat → Nat} {tc : Nat → ClassId} {D : va_G} {s0 : State} {dR : Nat} (C : CX p s m args meth c φ tc D (AX φ) s0 cX6_tellNext RX6 8) (hd : G6_tellNext_dep ≤ dR) (hr : meth.sig.returnType = (some .int))  {p1 : Int32} {Q : Int32 → MM → Prop}  {x : Int32 × Int32 × Int32 × Int32 × MM}    (h : Lp (G6_tellNext_L43 p1 Q) x) : WX p l e (rmX dR) s m args below meth c φ tc D (AX φ) 8 0 0 (MQ below (QX φ tc D (QI Q)) args s 0 0 (AX φ)) 43 [(0, .ref 237), (1, .int p1), (2, .int x.1), (3, .int x.2.1), (4, .int x.2.2.1), (5, .int x.2.2.2.1)] [] x.2.2.2.2 := by
  obtain ⟨n, h⟩ := h
  induction n generalizing x with
  | zero => exact h.elim
  | succ n ih => exact G6_tellNext_L43_b C hd hr   (fun z2 z3 z4 z5 zμ hz => by have q := ih hz; exact q) h
set_option maxHeartbeats 4000000 in
set_option maxRecDepth 100000 in
theorem G6_tellNext_met {l : Launch} {φ : Nat → Nat} {tc : Nat → ClassId} {D : va_G} {s0 : State} (hG : GX φ tc D s0) {dR : Nat} (hd : G6_tellNext_dep ≤ dR)  {μ : MM} {Q : Int32 → MM → Prop}  (h : G6_tellNext  μ Q) : MX l φ tc D s0 dR yX6_tellNext cX6_tellNext 8 (some .int) [.ref 237] μ (QI Q) := by
  refine MX.of (own := RX6) hG plX6 rfl (Nat.le_of_ble_eq_true rfl) (fun p e s m args below meth c C hr => ?_)
  refine x_sub [(0, .ref 237)] [0] rfl ?_
  unfold G6_tellNext at h
  refine x_aload_n C rfl 0 rfl dX6_tellNext_0 ?_
  refine x_callV (dC := G6_weigh_dep) (as := []) (st := []) C rX kX (Nat.le_trans (Nat.le_of_ble_eq_true rfl) hd) (Nat.le_of_ble_eq_true rfl) ob237.1 ob237.2 (Nat.le_of_ble_eq_true rfl) rfl ts_7_3 tw_5_192 tw_5_190 tc_5_193 tw_1_11 hyX6 hnX6_weigh rfl (Nat.le_of_ble_eq_true rfl) dX6_tellNext_1 (G6_weigh_met C.2.2.2.2.2.2.2.1 (Nat.le_refl _)  h) (fun r0 μ12 hq => ?_)
  obtain ⟨rfl, h⟩ := hq
  refine x_st [] rfl ?_
  refine x_aload_n C rfl 0 rfl dX6_tellNext_4 ?_
  refine x_iconst (v := 0) C (by decide) dX6_tellNext_5 ?_
  refine x_callV (dC := G6_weighedWithin_dep) (as := [.int 0]) (st := []) C rX kX (Nat.le_trans (Nat.le_of_ble_eq_true rfl) hd) (Nat.le_of_ble_eq_true rfl) ob237.1 ob237.2 (Nat.le_of_ble_eq_true rfl) rfl ts_7_5 tw_5_207 tw_5_205 tc_5_208 tw_1_11 hyX6 hnX6_weighedWithin rfl (Nat.le_of_ble_eq_true rfl) dX6_tellNext_6 (G6_weighedWithin_met C.2.2.2.2.2.2.2.1 (Nat.le_refl _)  h) (fun r0 μ13 hq => ?_)
  obtain ⟨r14, rfl, h⟩ := hq
  refine x_st [.int r14] rfl ?_
  refine x_istore_n C [(1, .int r14), (0, .ref 237)] rfl (Nat.le_of_ble_eq_true rfl) rfl dX6_tellNext_9 ?_
  refine x_iload_n C rfl 0 rfl dX6_tellNext_10 ?_
  refine x_callS (dC := GJ6_bitCount_0f7a4_dep) (as := [.int r14]) (st := []) C rX kX (Nat.le_trans (Nat.le_of_ble_eq_true rfl) hd) (Nat.le_of_ble_eq_true rfl) tw_4_148 tw_5_217 tc_4_149 tw_1_24 hyJ6 hnJ6_bitCount_0f7a4 rfl (Nat.le_of_ble_eq_true rfl) dX6_tellNext_11 (GJ6_bitCount_0f7a4_met C.2.2.2.2.2.2.2.1 (Nat.le_refl _)  h) (fun r0 μ15 hq => ?_)
  obtain ⟨r16, rfl, h⟩ := hq
  refine x_st [.int r16] rfl ?_
  refine x_iconst (v := 2) C (by decide) dX6_tellNext_14 ?_
  refine x_icmp_lt (tgt := 29) C dX6_tellNext_15 (by decide) (fun c17 => ?_) (fun c17 => ?_)
  · have h := h.1 c17
    refine x_bipush (v := (-2)) C (by decide) dX6_tellNext_29 ?_
    exact x_iret C hr dX6_tellNext_31 ⟨_, rfl, h⟩
  · have h := h.2 c17
    refine x_aload_n C rfl 1 rfl dX6_tellNext_18 ?_
    refine x_getR (r := 1) C (j := 0) ob237.1 ob237.2 (Nat.le_of_ble_eq_true rfl) (Nat.le_of_ble_eq_true rfl) (fun _ _ _ => rfl) r_237_0 tw_2_112 dX6_tellNext_19 ?_
    refine x_getIN C (j := 10) ob1.1 ob1.2 (Nat.le_of_ble_eq_true rfl) (Nat.le_of_ble_eq_true rfl) (Or.inl rfl) tw_1_151 dX6_tellNext_22 ?_
    refine x_iconst (v := 2) C (by decide) dX6_tellNext_25 ?_
    refine x_icmp_ge (tgt := 32) C dX6_tellNext_26 (by decide) (fun c18 => ?_) (fun c18 => ?_)
    · have h := h.1 c18
      refine x_bipush (v := 7) C (by decide) dX6_tellNext_32 ?_
      refine x_istore_n C [(2, .int 7), (1, .int r14), (0, .ref 237)] rfl (Nat.le_of_ble_eq_true rfl) rfl dX6_tellNext_34 ?_
      refine x_iconst (v := 0) C (by decide) dX6_tellNext_35 ?_
      refine x_istore_n C [(3, .int 0), (2, .int 7), (1, .int r14), (0, .ref 237)] rfl (Nat.le_of_ble_eq_true rfl) rfl dX6_tellNext_36 ?_
      refine x_iconst (v := 0) C (by decide) dX6_tellNext_37 ?_
      refine x_istore C [(4, .int 0), (3, .int 0), (2, .int 7), (1, .int r14), (0, .ref 237)] (Nat.le_of_ble_eq_true rfl) rfl dX6_tellNext_38 ?_
      refine x_iconst (v := 0) C (by decide) dX6_tellNext_40 ?_
      refine x_istore C [(5, .int 0), (4, .int 0), (3, .int 0), (2, .int 7), (1, .int r14), (0, .ref 237)] (Nat.le_of_ble_eq_true rfl) rfl dX6_tellNext_41 ?_
      refine x_sub [(0, .ref 237), (1, .int r14), (2, .int 7), (3, .int 0), (4, .int 0), (5, .int 0)] [5, 4, 3, 2, 1, 0] rfl ?_
      exact G6_tellNext_L43_ok C hd hr  h
    · have h := h.2 c18
      refine x_bipush (v := (-2)) C (by decide) dX6_tellNext_29 ?_
      exact x_iret C hr dX6_tellNext_31 ⟨_, rfl, h⟩
set_option maxHeartbeats 4000000 in
set_option maxRecDepth 100000 in
theorem G11_ask_met {l : Launch} {φ : Nat → Nat} {tc : Nat → ClassId} {D : va_G} {s0 : State} (hG : GX φ tc D s0) {dR : Nat} (hd : G11_ask_dep ≤ dR)  {μ : MM} {Q : Int32 → MM → Prop}  (h : G11_ask  μ Q) : MX l φ tc D s0 dR yX11_ask cX11_ask 1 (some .int) [.ref 0] μ (QI Q) := by
  refine MX.of (own := RX11) hG plX11 rfl (Nat.le_of_ble_eq_true rfl) (fun p e s m args below meth c C hr => ?_)
  refine x_sub [(0, .ref 0)] [0] rfl ?_
  unfold G11_ask at h
  refine x_aload_n C rfl 0 rfl dX11_ask_0 ?_
  refine x_getR (r := 237) C (j := 5) ob0.1 ob0.2 (Nat.le_of_ble_eq_true rfl) (Nat.le_of_ble_eq_true rfl) (fun _ _ _ => rfl) r_0_5 tw_2_168 dX11_ask_1 ?_
  refine x_callVN (dC := G6_tellNext_dep) (as := []) (st := []) C rX kX (Nat.le_trans (Nat.le_of_ble_eq_true rfl) hd) (Nat.le_of_ble_eq_true rfl) ob237.1 ob237.2 (Nat.le_of_ble_eq_true rfl) rfl ts_7_6 tw_5_215 tw_5_213 tc_5_216 tw_1_11 hyX6 hnX6_tellNext rfl (Nat.le_of_ble_eq_true rfl) dX11_ask_4 (G6_tellNext_met C.2.2.2.2.2.2.2.1 (Nat.le_refl _)  h) (fun r0 μ3 hq => ?_)
  obtain ⟨r4, rfl, h⟩ := hq
  refine x_st [.int r4] rfl ?_
  exact x_iret C hr dX11_ask_7 ⟨_, rfl, h⟩
set_option maxHeartbeats 4000000 in
set_option maxRecDepth 100000 in
theorem G6_lawsWithin_met {l : Launch} {φ : Nat → Nat} {tc : Nat → ClassId} {D : va_G} {s0 : State} (hG : GX φ tc D s0) {dR : Nat} (hd : G6_lawsWithin_dep ≤ dR) {v1 : Int32} {μ : MM} {Q : Int32 → MM → Prop}  (h : G6_lawsWithin v1 μ Q) : MX l φ tc D s0 dR yX6_lawsWithin cX6_lawsWithin 2 (some .int) [.ref 237, .int v1] μ (QI Q) := by
  refine MX.of (own := RX6) hG plX6 rfl (Nat.le_of_ble_eq_true rfl) (fun p e s m args below meth c C hr => ?_)
  refine x_sub [(0, .ref 237), (1, .int v1)] [0, 1] rfl ?_
  unfold G6_lawsWithin at h
  refine x_iload_n C rfl 1 rfl dX6_lawsWithin_0 ?_
  refine x_iconst (v := 0) C (by decide) dX6_lawsWithin_1 ?_
  refine x_bipush (v := 40) C (by decide) dX6_lawsWithin_2 ?_
  refine x_callSN (dC := G11_within_dep) (as := [.int v1, .int 0, .int 40]) (st := []) C rX kX (Nat.le_trans (Nat.le_of_ble_eq_true rfl) hd) (Nat.le_of_ble_eq_true rfl) tw_2_196 tw_5_181 tc_2_197 tw_1_1 hyX11 hnX11_within rfl (Nat.le_of_ble_eq_true rfl) dX6_lawsWithin_4 (G11_within_met C.2.2.2.2.2.2.2.1 (Nat.le_refl _)  h) (fun r0 μ6 hq => ?_)
  obtain ⟨r7, rfl, h⟩ := hq
  refine x_st [.int r7] rfl ?_
  refine x_if_ne (tgt := 12) C dX6_lawsWithin_7 (by decide) (fun c8 => ?_) (fun c8 => ?_)
  · have h := h.1 c8
    refine x_aload_n C rfl 0 rfl dX6_lawsWithin_12 ?_
    refine x_callV (dC := G6_weigh_dep) (as := []) (st := []) C rX kX (Nat.le_trans (Nat.le_of_ble_eq_true rfl) hd) (Nat.le_of_ble_eq_true rfl) ob237.1 ob237.2 (Nat.le_of_ble_eq_true rfl) rfl ts_7_3 tw_5_192 tw_5_190 tc_5_193 tw_1_11 hyX6 hnX6_weigh rfl (Nat.le_of_ble_eq_true rfl) dX6_lawsWithin_13 (G6_weigh_met C.2.2.2.2.2.2.2.1 (Nat.le_refl _)  h) (fun r0 μ9 hq => ?_)
    obtain ⟨rfl, h⟩ := hq
    refine x_st [] rfl ?_
    refine x_aload_n C rfl 0 rfl dX6_lawsWithin_16 ?_
    refine x_iload_n C rfl 1 rfl dX6_lawsWithin_17 ?_
    refine x_callV (dC := G6_weighedWithin_dep) (as := [.int v1]) (st := []) C rX kX (Nat.le_trans (Nat.le_of_ble_eq_true rfl) hd) (Nat.le_of_ble_eq_true rfl) ob237.1 ob237.2 (Nat.le_of_ble_eq_true rfl) rfl ts_7_5 tw_5_207 tw_5_205 tc_5_208 tw_1_11 hyX6 hnX6_weighedWithin rfl (Nat.le_of_ble_eq_true rfl) dX6_lawsWithin_18 (G6_weighedWithin_met C.2.2.2.2.2.2.2.1 (Nat.le_refl _)  h) (fun r0 μ10 hq => ?_)
    obtain ⟨r11, rfl, h⟩ := hq
    refine x_st [.int r11] rfl ?_
    exact x_iret C hr dX6_lawsWithin_21 ⟨_, rfl, h⟩
  · have h := h.2 c8
    refine x_iconst (v := (-1)) C (by decide) dX6_lawsWithin_10 ?_
    exact x_iret C hr dX6_lawsWithin_11 ⟨_, rfl, h⟩
