section LL
variable {p : Program} {l : Launch} {e : Env} {R : Room} {s : State} {m : MethodId} {args : Array Value} {below : List Frame} {meth : Method} {c : Code}
variable {φ : Nat → Nat} {tc : Nat → ClassId} {D : va_G} {s0 : State} {Q : State → Prop} {cc : ByteArray} {own : String} {LA : Nat → Prop} {nL kc ks pc : Nat} {ls : List (Nat × Value)} {st : List Value} {μ : MM}
theorem x_widen {k n : Nat} (h1 : kc ≤ k) (h2 : ks ≤ n) (h : WX p l e R s m args below meth c φ tc D LA nL k n Q pc ls st μ) : WX p l e R s m args below meth c φ tc D LA nL kc ks Q pc ls st μ := fun H locs ar hP hR hS hl => W.widen h1 h2 (h H locs ar hP hR hS hl)
theorem x_sld (C : CX p s m args meth c φ tc D LA s0 cc own nL) {b L : Nat} {xs : Nat → Int32} (hX : va_X b L xs s s.heap) (hbl : b < s.heap.size) (hbA : φ 800 = b ∧ ¬ LA b) {i v : Int32} (hin : vp_in i L) (hv : xs i.toNatClampNeg = v) (d : decode cc pc = .ok (.iaload, 1)) (h : WX p l e R s m args below meth c φ tc D LA nL kc ks Q (pc + 1) ls (.int v :: st) μ) : WX p l e R s m args below meth c φ tc D LA nL kc ks Q pc ls (.int i :: .ref 800 :: st) μ := by
  intro H locs ar hP hR hS hl
  have h9 := h H locs ar hP hR hS hl
  rw [← hv] at h9
  have h8 : rv φ (.ref 800) = .ref b := congrArg Value.ref hbA.1
  show W p l e R s m args below meth c H locs kc ks Q (F0 m pc ar (.int i :: rv φ (.ref 800) :: st.map (rv φ)))
  rw [h8]
  exact va_sld C.1 C.2.1 hX hbl hbA.2 hS hin d h9
theorem x_slen (C : CX p s m args meth c φ tc D LA s0 cc own nL) {b L : Nat} {xs : Nat → Int32} (hX : va_X b L xs s s.heap) (hbl : b < s.heap.size) (hbA : φ 800 = b ∧ ¬ LA b) (d : decode cc pc = .ok (.arraylength, 1)) (h : WX p l e R s m args below meth c φ tc D LA nL kc ks Q (pc + 1) ls (.int (Int32.ofNat L) :: st) μ) : WX p l e R s m args below meth c φ tc D LA nL kc ks Q pc ls (.ref 800 :: st) μ := by
  intro H locs ar hP hR hS hl
  have h8 : rv φ (.ref 800) = .ref b := congrArg Value.ref hbA.1
  show W p l e R s m args below meth c H locs kc ks Q (F0 m pc ar (rv φ (.ref 800) :: st.map (rv φ)))
  rw [h8]
  exact va_slen C.1 C.2.1 hX hbl hbA.2 hS d (h H locs ar hP hR hS hl)
theorem wsH_good {y : MethodName} {by_ : ByteArray} {mL : Nat} {ret : Option FieldType} {hh : List (Nat × Nat × Nat × Nat)} (wc : Cond.codeWith y by_ mL ret hh ∈ tblG) : GoodIn tblG (wsH y by_ mL ret hh) := by
  intro w hw
  rcases List.mem_cons.mp hw with rfl | h
  · exact ⟨wc, (tbl_all _ wc).2⟩
  · exact ⟨h, (tbl_all _ h).2⟩
theorem x_callSH {y : MethodName} {by_ : ByteArray} {mL : Nat} {ret : Option FieldType} {hh : List (Nat × Nat × Nat × Nat)} {dC dR idx n : Nat} {as : List Value} {Qr : Option Value → MM → Prop} (C : CX p s m args meth c φ tc D LA s0 cc own nL) (hR0 : dR ≤ R.frames ∧ 100 * dR ≤ R.locals) (hkc : kc + 1 ≤ R.cells ∧ ks + 6 ≤ R.slots) (hd : dC + 1 ≤ dR) (hm81 : mL ≤ 81) (wst : Cond.static y ∈ tblA) (wl : Cond.methodLink own idx y ∈ tblA) (wc : Cond.codeWith y by_ mL ret hh ∈ tblG) (wini : Cond.initialized y.cls ∈ tblA) (hy : y.cls ≠ "java/lang/invoke/MethodHandle" ∧ y.cls ≠ "java/lang/invoke/VarHandle") (hn : (parseMethodDescriptor y.desc).map (fun d => d.parameters.length) = some n) (has : as.length = n) (hst : (st.map fun v => v.category).sum ≤ 8) (d : decode cc pc = .ok (.invokestatic idx, 3)) (hM : MH l φ tc D s0 dC y by_ mL ret hh as μ Qr)
    (kk : ∀ (r : Option Value) (μ' : MM), Qr r μ' → WX p l e R s m args below meth c φ tc D LA nL (kc + 1) (ks + 6) Q (pc + 3) ls (r.toList ++ st) μ') : WX p l e R s m args below meth c φ tc D LA nL kc ks Q pc ls (as.reverse ++ st) μ := by
  intro H locs ar hP hR hS hl
  have hts := C.2.2.2.2.1
  have hG := wsH_good wc
  have hb1 : (rmE dC).frames + 1 ≤ R.frames ∧ 8 + (mL + 11) + (rmE dC).locals ≤ R.locals := ⟨Nat.le_trans hd hR0.1, by show 8 + (mL + 11) + 100 * dC ≤ R.locals; have := hR0.2; omega⟩
  have hsig : ∀ sig, parseMethodDescriptor y.desc = some sig → n = sig.parameters.length := fun sig h => by
    rw [h] at hn
    exact (Option.some.inj hn).symm
  have hr := vx_runSW (l := l) (e := e) (below := below) (meth := meth) (H := H) (locs := locs) (cells := kc) (slots := ks) (mc := 1) (ms := 6) (As := as.map (rv φ)) (rest := st.map (rv φ)) (g := F0 m pc ar ((as.reverse ++ st).map (rv φ))) ⟨C.1, C.2.1, C.2.2.1, C.2.2.2.1, hts⟩ hM ⟨⟨rfl, rfl, hb1.1, hb1.2, pay_in (fun w hw => hts w (tbl_ga hw)) hG, List.mem_cons_self⟩, hts _ (tbl_ga wc), hts _ wini, hy, hsig, hts _ wl, hts _ wst⟩ ⟨PX.blind, fun U hU hW => ⟨rfl, x_pre C hP hR hS hU hW⟩⟩ rfl (by rw [List.length_map]; exact has) hl.1 (by rw [List.map_append, List.map_reverse]) (lv_room (by rw [rv_sum]; exact hst)) d hkc
  exact x_runE C.2.2.2.2.2.2.2.2.2.2.2.1 hS hl hr kk
theorem rL : 840 ≤ room_1.frames ∧ 100 * 840 ≤ room_1.locals := by decide
theorem hyL : RL ≠ "java/lang/invoke/MethodHandle" ∧ RL ≠ "java/lang/invoke/VarHandle" := ⟨by decide +kernel, by decide +kernel⟩
theorem hnL_of : (parseMethodDescriptor yL_of.desc).map (fun d => d.parameters.length) = some 4 := by decide +kernel
theorem hnL_value : (parseMethodDescriptor yL_value.desc).map (fun d => d.parameters.length) = some 4 := by decide +kernel
theorem hnL_row : (parseMethodDescriptor yL_row.desc).map (fun d => d.parameters.length) = some 3 := by decide +kernel
def Glaw_0 (v1 v2 v3 v4 v5 : Int32) (μ : MM) (Kk : MM → Prop) : Prop :=
  G11_name v1 v2 v3 μ (fun r2 μ1 => G12_name v1 v2 v3 μ1 (fun r4 μ3 => ((r2 = r4 → Kk μ3) ∧ (¬ (r2 = r4) → False))))
def Glaw_1 (v1 v2 v3 v4 v5 : Int32) (μ : MM) (Kk : MM → Prop) : Prop :=
  G11_house v1 v2 v3 μ (fun r7 μ6 => G12_house v1 v2 v3 μ6 (fun r9 μ8 => ((r7 = r9 → Kk μ8) ∧ (¬ (r7 = r9) → False))))
def Glaw_2 (v1 v2 v3 v4 v5 : Int32) (μ : MM) (Kk : MM → Prop) : Prop :=
  G11_letter v1 v2 v3 v4 v5 μ (fun r12 μ11 => G12_letter v1 v2 v3 v4 v5 μ11 (fun r14 μ13 => ((r12 = r14 → Kk μ13) ∧ (¬ (r12 = r14) → False))))
def Glaw_3 (v1 v2 v3 v4 v5 : Int32) (μ : MM) (Kk : MM → Prop) : Prop :=
  G11_deal v1 v2 v3 μ (fun r17 μ16 => G12_deal v1 v2 v3 μ16 (fun r19 μ18 => ((r17 = r19 → Kk μ18) ∧ (¬ (r17 = r19) → False))))
def Glaw_4 (v1 v2 v3 v4 v5 : Int32) (μ : MM) (Kk : MM → Prop) : Prop :=
  GL_of v1 v2 μ (fun r21 μ22 => G12_of v1 v2 μ22 (fun r24 μ23 => G12_thrown μ23 (fun r26 μ25 => ((r26 = r21 → ((¬ r21 = 0 → Kk μ25) ∧ (r21 = 0 → (((lg_cmp (gJ μ25 410 0) (r24.toInt64)) = 0 → Kk μ25) ∧ (¬ ((lg_cmp (gJ μ25 410 0) (r24.toInt64)) = 0) → False))))) ∧ (¬ (r26 = r21) → False)))))
def Glaw_5 (v1 v2 v3 v4 v5 : Int32) (μ : MM) (Kk : MM → Prop) : Prop :=
  G11_sign v1 μ (fun r31 μ30 => G12_sign v1 μ30 (fun r33 μ32 => ((r31 = r33 → Kk μ32) ∧ (¬ (r31 = r33) → False))))
def Glaw_6 (v1 v2 v3 v4 v5 : Int32) (μ : MM) (Kk : MM → Prop) : Prop :=
  G11_end v1 μ (fun r36 μ35 => G12_end v1 μ35 (fun r38 μ37 => ((r36 = r38 → Kk μ37) ∧ (¬ (r36 = r38) → False))))
def Glaw_7 (v1 v2 v3 v4 v5 : Int32) (μ : MM) (Kk : MM → Prop) : Prop :=
  G11_law v1 μ (fun r41 μ40 => G12_law v1 μ40 (fun r43 μ42 => ((r41 = r43 → Kk μ42) ∧ (¬ (r41 = r43) → False))))
def Glaw_8 (v1 v2 v3 v4 v5 : Int32) (μ : MM) (Kk : MM → Prop) : Prop :=
  G11_filter v1 μ (fun r46 μ45 => G12_filter v1 μ45 (fun r48 μ47 => ((r46 = r48 → Kk μ47) ∧ (¬ (r46 = r48) → False))))
def Glaw_9 (v1 v2 v3 v4 v5 : Int32) (μ : MM) (Kk : MM → Prop) : Prop :=
  GL_value v1 v2 μ (fun r50 μ51 => G12_value v1 v2 μ51 (fun r53 μ52 => G12_thrown μ52 (fun r55 μ54 => ((r55 = r50 → ((¬ r50 = 0 → Kk μ54) ∧ (r50 = 0 → (((lg_cmp (gJ μ54 410 0) (r53.toInt64)) = 0 → Kk μ54) ∧ (¬ ((lg_cmp (gJ μ54 410 0) (r53.toInt64)) = 0) → False))))) ∧ (¬ (r55 = r50) → False)))))
def Glaw_10 (v1 v2 v3 v4 v5 : Int32) (μ : MM) (Kk : MM → Prop) : Prop :=
  G11_read v1 μ (fun r60 μ59 => G12_read v1 μ59 (fun r62 μ61 => ((r60 = r62 → Kk μ61) ∧ (¬ (r60 = r62) → False))))
def Glaw_11 (v1 v2 v3 v4 v5 : Int32) (μ : MM) (Kk : MM → Prop) : Prop :=
  ((v2 = 0 → G11_ring v1 0 μ (fun r66 μ65 => ((v2 = 0 → G12_ring v1 0 μ65 (fun r69 μ68 => ((r66 = r69 → Kk μ68) ∧ (¬ (r66 = r69) → False)))) ∧ (¬ (v2 = 0) → G12_ring v1 1 μ65 (fun r72 μ71 => ((r66 = r72 → Kk μ71) ∧ (¬ (r66 = r72) → False))))))) ∧ (¬ (v2 = 0) → G11_ring v1 1 μ (fun r75 μ74 => ((v2 = 0 → G12_ring v1 0 μ74 (fun r78 μ77 => ((r75 = r78 → Kk μ77) ∧ (¬ (r75 = r78) → False)))) ∧ (¬ (v2 = 0) → G12_ring v1 1 μ74 (fun r81 μ80 => ((r75 = r81 → Kk μ80) ∧ (¬ (r75 = r81) → False))))))))
def Glaw_12 (v1 v2 v3 v4 v5 : Int32) (μ : MM) (Kk : MM → Prop) : Prop :=
  G11_box v1 v2 v3 v4 μ (fun r84 μ83 => G12_box v1 v2 v3 v4 μ83 (fun r86 μ85 => ((r84 = r86 → Kk μ85) ∧ (¬ (r84 = r86) → False))))
def Glaw_13 (v1 v2 v3 v4 v5 : Int32) (μ : MM) (Kk : MM → Prop) : Prop :=
  G11_after v1 v2 μ (fun r89 μ88 => G12_after v1 v2 μ88 (fun r91 μ90 => ((r89 = r91 → Kk μ90) ∧ (¬ (r89 = r91) → False))))
def Glaw_14 (v1 v2 v3 v4 v5 : Int32) (μ : MM) (Kk : MM → Prop) : Prop :=
  G11_seed v1 μ (fun r94 μ93 => G12_seed v1 μ93 (fun r96 μ95 => ((r94 = r96 → Kk μ95) ∧ (¬ (r94 = r96) → False))))
def Glaw_15 (v1 v2 v3 v4 v5 : Int32) (μ : MM) (Kk : MM → Prop) : Prop :=
  G11_share v1 μ (fun r99 μ98 => G12_share v1 μ98 (fun r101 μ100 => ((r99 = r101 → Kk μ100) ∧ (¬ (r99 = r101) → False))))
def Glaw_16 (v1 v2 v3 v4 v5 : Int32) (μ : MM) (Kk : MM → Prop) : Prop :=
  G11_aside v1 μ (fun r104 μ103 => G12_aside v1 μ103 (fun r106 μ105 => ((r104 = r106 → Kk μ105) ∧ (¬ (r104 = r106) → False))))
def Glaw_17 (v1 v2 v3 v4 v5 : Int32) (μ : MM) (Kk : MM → Prop) : Prop :=
  G11_odds v1 v2 μ (fun r109 μ108 => G12_odds v1 v2 μ108 (fun r111 μ110 => ((r109 = r111 → Kk μ110) ∧ (¬ (r109 = r111) → False))))
def Glaw_18 (v1 v2 v3 v4 v5 : Int32) (μ : MM) (Kk : MM → Prop) : Prop :=
  G11_weighs μ (fun r114 μ113 => G12_weighs μ113 (fun r116 μ115 => ((r114 = r116 → Kk μ115) ∧ (¬ (r114 = r116) → False))))
def Glaw_19 (v1 v2 v3 v4 v5 : Int32) (μ : MM) (Kk : MM → Prop) : Prop :=
  G11_names v1 μ (fun r119 μ118 => G12_names v1 μ118 (fun r121 μ120 => ((r119 = r121 → Kk μ120) ∧ (¬ (r119 = r121) → False))))
def Glaw_20 (v1 v2 v3 v4 v5 : Int32) (μ : MM) (Kk : MM → Prop) : Prop :=
  G11_drawn μ (fun r124 μ123 => G12_drawn μ123 (fun r126 μ125 => ((r124 = r126 → Kk μ125) ∧ (¬ (r124 = r126) → False))))
def Glaw_21 (v1 v2 v3 v4 v5 : Int32) (μ : MM) (Kk : MM → Prop) : Prop :=
  G11_goes v1 μ (fun r129 μ128 => G12_goes v1 μ128 (fun r131 μ130 => ((r129 = r131 → Kk μ130) ∧ (¬ (r129 = r131) → False))))
def Glaw_22 (v1 v2 v3 v4 v5 : Int32) (μ : MM) (Kk : MM → Prop) : Prop :=
  G11_says μ (fun r134 μ133 => G12_says μ133 (fun r136 μ135 => ((r134 = r136 → Kk μ135) ∧ (¬ (r134 = r136) → False))))
def Glaw_23 (v1 v2 v3 v4 v5 : Int32) (μ : MM) (Kk : MM → Prop) : Prop :=
  G11_child v1 μ (fun r139 μ138 => G12_child v1 μ138 (fun r141 μ140 => ((r139 = r141 → Kk μ140) ∧ (¬ (r139 = r141) → False))))
def Glaw_24 (v1 v2 v3 v4 v5 : Int32) (μ : MM) (Kk : MM → Prop) : Prop :=
  G11_table v1 v2 μ (fun r144 μ143 => G12_table v1 v2 μ143 (fun r146 μ145 => ((r144 = r146 → Kk μ145) ∧ (¬ (r144 = r146) → False))))
def Glaw_25 (v1 v2 v3 v4 v5 : Int32) (μ : MM) (Kk : MM → Prop) : Prop :=
  G11_kind v1 v2 v3 μ (fun r149 μ148 => G12_kind v1 v2 v3 μ148 (fun r151 μ150 => ((r149 = r151 → Kk μ150) ∧ (¬ (r149 = r151) → False))))
def Glaw_26 (v1 v2 v3 v4 v5 : Int32) (μ : MM) (Kk : MM → Prop) : Prop :=
  G11_parts v1 v2 μ (fun r154 μ153 => G12_parts v1 v2 μ153 (fun r156 μ155 => ((r154 = r156 → Kk μ155) ∧ (¬ (r154 = r156) → False))))
def Glaw_27 (v1 v2 v3 v4 v5 : Int32) (μ : MM) (Kk : MM → Prop) : Prop :=
  G11_likely v1 v2 μ (fun r159 μ158 => G12_likely v1 v2 μ158 (fun r161 μ160 => ((r159 = r161 → Kk μ160) ∧ (¬ (r159 = r161) → False))))
def Glaw_28 (v1 v2 v3 v4 v5 : Int32) (μ : MM) (Kk : MM → Prop) : Prop :=
  G11_fit μ (fun r164 μ163 => G12_fit μ163 (fun r166 μ165 => ((r164 = r166 → Kk μ165) ∧ (¬ (r164 = r166) → False))))
def Glaw_29 (v1 v2 v3 v4 v5 : Int32) (μ : MM) (Kk : MM → Prop) : Prop :=
  G11_named v1 v2 μ (fun r169 μ168 => G12_named v1 v2 μ168 (fun r171 μ170 => ((r169 = r171 → Kk μ170) ∧ (¬ (r169 = r171) → False))))
def Glaw_30 (v1 v2 v3 v4 v5 : Int32) (μ : MM) (Kk : MM → Prop) : Prop :=
  G11_sure v1 v2 μ (fun r174 μ173 => G12_sure v1 v2 μ173 (fun r176 μ175 => ((r174 = r176 → Kk μ175) ∧ (¬ (r174 = r176) → False))))
def Glaw_31 (v1 v2 v3 v4 v5 : Int32) (μ : MM) (Kk : MM → Prop) : Prop :=
  G11_most μ (fun r179 μ178 => G12_most μ178 (fun r181 μ180 => ((r179 = r181 → Kk μ180) ∧ (¬ (r179 = r181) → False))))
def Glaw_32 (v1 v2 v3 v4 v5 : Int32) (μ : MM) (Kk : MM → Prop) : Prop :=
  G11_both v1 μ (fun r184 μ183 => G12_both v1 μ183 (fun r186 μ185 => ((r184 = r186 → Kk μ185) ∧ (¬ (r184 = r186) → False))))
def Glaw_33 (v1 v2 v3 v4 v5 : Int32) (μ : MM) (Kk : MM → Prop) : Prop :=
  G11_explains v1 μ (fun r189 μ188 => G12_explains v1 μ188 (fun r191 μ190 => ((r189 = r191 → Kk μ190) ∧ (¬ (r189 = r191) → False))))
def Glaw_34 (v1 v2 v3 v4 v5 : Int32) (μ : MM) (Kk : MM → Prop) : Prop :=
  G11_join v1 μ (fun r194 μ193 => G12_join v1 μ193 (fun r196 μ195 => ((r194 = r196 → Kk μ195) ∧ (¬ (r194 = r196) → False))))
def Glaw_35 (v1 v2 v3 v4 v5 : Int32) (μ : MM) (Kk : MM → Prop) : Prop :=
  G11_bounds v1 μ (fun r199 μ198 => G12_bounds v1 μ198 (fun r201 μ200 => ((r199 = r201 → Kk μ200) ∧ (¬ (r199 = r201) → False))))
def Glaw_36 (v1 v2 v3 v4 v5 : Int32) (μ : MM) (Kk : MM → Prop) : Prop :=
  G11_years v1 μ (fun r204 μ203 => G12_years v1 μ203 (fun r206 μ205 => ((r204 = r206 → Kk μ205) ∧ (¬ (r204 = r206) → False))))
def Glaw_37 (v1 v2 v3 v4 v5 : Int32) (μ : MM) (Kk : MM → Prop) : Prop :=
  G11_mornings v1 v2 v3 μ (fun r209 μ208 => G12_mornings v1 v2 v3 μ208 (fun r211 μ210 => ((r209 = r211 → Kk μ210) ∧ (¬ (r209 = r211) → False))))
def Glaw_38 (v1 v2 v3 v4 v5 : Int32) (μ : MM) (Kk : MM → Prop) : Prop :=
  G11_asked v1 v2 v3 μ (fun r214 μ213 => G12_asked v1 v2 v3 μ213 (fun r216 μ215 => ((r214 = r216 → Kk μ215) ∧ (¬ (r214 = r216) → False))))
def Glaw_39 (v1 v2 v3 v4 v5 : Int32) (μ : MM) (Kk : MM → Prop) : Prop :=
  G11_pairs μ (fun r219 μ218 => G12_pairs μ218 (fun r221 μ220 => ((r219 = r221 → Kk μ220) ∧ (¬ (r219 = r221) → False))))
def Glaw_40 (v1 v2 v3 v4 v5 : Int32) (μ : MM) (Kk : MM → Prop) : Prop :=
  G11_ask μ (fun r224 μ223 => G12_ask μ223 (fun r226 μ225 => ((r224 = r226 → Kk μ225) ∧ (¬ (r224 = r226) → False))))
def Glaw_41 (v1 v2 v3 v4 v5 : Int32) (μ : MM) (Kk : MM → Prop) : Prop :=
  G11_nearly v1 μ (fun r229 μ228 => G12_nearly v1 μ228 (fun r231 μ230 => ((r229 = r231 → Kk μ230) ∧ (¬ (r229 = r231) → False))))
def Glaw_42 (v1 v2 v3 v4 v5 : Int32) (μ : MM) (Kk : MM → Prop) : Prop :=
  G11_shows v1 v2 v3 v4 μ (fun r234 μ233 => G12_shows v1 v2 v3 v4 μ233 (fun r236 μ235 => ((r234 = r236 → Kk μ235) ∧ (¬ (r234 = r236) → False))))
def Glaw_43 (v1 v2 v3 v4 v5 : Int32) (μ : MM) (Kk : MM → Prop) : Prop :=
  G11_least v1 v2 v3 v4 μ (fun r239 μ238 => G12_least v1 v2 v3 v4 μ238 (fun r241 μ240 => ((r239 = r241 → Kk μ240) ∧ (¬ (r239 = r241) → False))))
def Glaw_44 (v1 v2 v3 v4 v5 : Int32) (μ : MM) (Kk : MM → Prop) : Prop :=
  G11_keep v1 μ (fun r244 μ243 => G12_keep v1 μ243 (fun r246 μ245 => ((r244 = r246 → Kk μ245) ∧ (¬ (r244 = r246) → False))))
def Glaw_45 (v1 v2 v3 v4 v5 : Int32) (μ : MM) (Kk : MM → Prop) : Prop :=
  G11_again v1 μ (fun r249 μ248 => G12_again v1 μ248 (fun r251 μ250 => ((r249 = r251 → Kk μ250) ∧ (¬ (r249 = r251) → False))))
def Glaw_46 (v1 v2 v3 v4 v5 : Int32) (μ : MM) (Kk : MM → Prop) : Prop :=
  G11_count v1 μ (fun r254 μ253 => G12_count v1 μ253 (fun r256 μ255 => ((r254 = r256 → Kk μ255) ∧ (¬ (r254 = r256) → False))))
def Glaw_47 (v1 v2 v3 v4 v5 : Int32) (μ : MM) (Kk : MM → Prop) : Prop :=
  GL_row v1 μ (fun r258 μ259 => G12_row v1 μ259 (fun r261 μ260 => G12_thrown μ260 (fun r263 μ262 => ((r263 = r258 → ((¬ r258 = 0 → Kk μ262) ∧ (r258 = 0 → (((lg_cmp (gJ μ262 410 0) r261) = 0 → Kk μ262) ∧ (¬ ((lg_cmp (gJ μ262 410 0) r261) = 0) → False))))) ∧ (¬ (r263 = r258) → False)))))
def Glaw (xs : Nat → Int32) (i v0 : Int32) (μ : MM) (Kk : MM → Prop) : Prop :=
  Bd (v0 &&& 63) fun y267 => ((y267 = 0 → Glaw_0 (xs (i + 1).toNatClampNeg) (xs (i + 2).toNatClampNeg) (xs (i + 3).toNatClampNeg) (xs (i + 4).toNatClampNeg) (xs (i + 5).toNatClampNeg) μ Kk) ∧ (y267 = 1 → Glaw_1 (xs (i + 1).toNatClampNeg) (xs (i + 2).toNatClampNeg) (xs (i + 3).toNatClampNeg) (xs (i + 4).toNatClampNeg) (xs (i + 5).toNatClampNeg) μ Kk) ∧ (y267 = 2 → Glaw_2 (xs (i + 1).toNatClampNeg) (xs (i + 2).toNatClampNeg) (xs (i + 3).toNatClampNeg) (xs (i + 4).toNatClampNeg) (xs (i + 5).toNatClampNeg) μ Kk) ∧ (y267 = 3 → Glaw_3 (xs (i + 1).toNatClampNeg) (xs (i + 2).toNatClampNeg) (xs (i + 3).toNatClampNeg) (xs (i + 4).toNatClampNeg) (xs (i + 5).toNatClampNeg) μ Kk) ∧ (y267 = 4 → Glaw_4 (xs (i + 1).toNatClampNeg) (xs (i + 2).toNatClampNeg) (xs (i + 3).toNatClampNeg) (xs (i + 4).toNatClampNeg) (xs (i + 5).toNatClampNeg) μ Kk) ∧ (y267 = 5 → Glaw_5 (xs (i + 1).toNatClampNeg) (xs (i + 2).toNatClampNeg) (xs (i + 3).toNatClampNeg) (xs (i + 4).toNatClampNeg) (xs (i + 5).toNatClampNeg) μ Kk) ∧ (y267 = 6 → Glaw_6 (xs (i + 1).toNatClampNeg) (xs (i + 2).toNatClampNeg) (xs (i + 3).toNatClampNeg) (xs (i + 4).toNatClampNeg) (xs (i + 5).toNatClampNeg) μ Kk) ∧ (y267 = 7 → Glaw_7 (xs (i + 1).toNatClampNeg) (xs (i + 2).toNatClampNeg) (xs (i + 3).toNatClampNeg) (xs (i + 4).toNatClampNeg) (xs (i + 5).toNatClampNeg) μ Kk) ∧ (y267 = 8 → Glaw_8 (xs (i + 1).toNatClampNeg) (xs (i + 2).toNatClampNeg) (xs (i + 3).toNatClampNeg) (xs (i + 4).toNatClampNeg) (xs (i + 5).toNatClampNeg) μ Kk) ∧ (y267 = 9 → Glaw_9 (xs (i + 1).toNatClampNeg) (xs (i + 2).toNatClampNeg) (xs (i + 3).toNatClampNeg) (xs (i + 4).toNatClampNeg) (xs (i + 5).toNatClampNeg) μ Kk) ∧ (y267 = 10 → Glaw_10 (xs (i + 1).toNatClampNeg) (xs (i + 2).toNatClampNeg) (xs (i + 3).toNatClampNeg) (xs (i + 4).toNatClampNeg) (xs (i + 5).toNatClampNeg) μ Kk) ∧ (y267 = 11 → Glaw_11 (xs (i + 1).toNatClampNeg) (xs (i + 2).toNatClampNeg) (xs (i + 3).toNatClampNeg) (xs (i + 4).toNatClampNeg) (xs (i + 5).toNatClampNeg) μ Kk) ∧ (y267 = 12 → Glaw_12 (xs (i + 1).toNatClampNeg) (xs (i + 2).toNatClampNeg) (xs (i + 3).toNatClampNeg) (xs (i + 4).toNatClampNeg) (xs (i + 5).toNatClampNeg) μ Kk) ∧ (y267 = 13 → Glaw_13 (xs (i + 1).toNatClampNeg) (xs (i + 2).toNatClampNeg) (xs (i + 3).toNatClampNeg) (xs (i + 4).toNatClampNeg) (xs (i + 5).toNatClampNeg) μ Kk) ∧ (y267 = 14 → Glaw_14 (xs (i + 1).toNatClampNeg) (xs (i + 2).toNatClampNeg) (xs (i + 3).toNatClampNeg) (xs (i + 4).toNatClampNeg) (xs (i + 5).toNatClampNeg) μ Kk) ∧ (y267 = 15 → Glaw_15 (xs (i + 1).toNatClampNeg) (xs (i + 2).toNatClampNeg) (xs (i + 3).toNatClampNeg) (xs (i + 4).toNatClampNeg) (xs (i + 5).toNatClampNeg) μ Kk) ∧ (y267 = 16 → Glaw_16 (xs (i + 1).toNatClampNeg) (xs (i + 2).toNatClampNeg) (xs (i + 3).toNatClampNeg) (xs (i + 4).toNatClampNeg) (xs (i + 5).toNatClampNeg) μ Kk) ∧ (y267 = 17 → Glaw_17 (xs (i + 1).toNatClampNeg) (xs (i + 2).toNatClampNeg) (xs (i + 3).toNatClampNeg) (xs (i + 4).toNatClampNeg) (xs (i + 5).toNatClampNeg) μ Kk) ∧ (y267 = 18 → Glaw_18 (xs (i + 1).toNatClampNeg) (xs (i + 2).toNatClampNeg) (xs (i + 3).toNatClampNeg) (xs (i + 4).toNatClampNeg) (xs (i + 5).toNatClampNeg) μ Kk) ∧ (y267 = 19 → Glaw_19 (xs (i + 1).toNatClampNeg) (xs (i + 2).toNatClampNeg) (xs (i + 3).toNatClampNeg) (xs (i + 4).toNatClampNeg) (xs (i + 5).toNatClampNeg) μ Kk) ∧ (y267 = 20 → Glaw_20 (xs (i + 1).toNatClampNeg) (xs (i + 2).toNatClampNeg) (xs (i + 3).toNatClampNeg) (xs (i + 4).toNatClampNeg) (xs (i + 5).toNatClampNeg) μ Kk) ∧ (y267 = 21 → Glaw_21 (xs (i + 1).toNatClampNeg) (xs (i + 2).toNatClampNeg) (xs (i + 3).toNatClampNeg) (xs (i + 4).toNatClampNeg) (xs (i + 5).toNatClampNeg) μ Kk) ∧ (y267 = 22 → Glaw_22 (xs (i + 1).toNatClampNeg) (xs (i + 2).toNatClampNeg) (xs (i + 3).toNatClampNeg) (xs (i + 4).toNatClampNeg) (xs (i + 5).toNatClampNeg) μ Kk) ∧ (y267 = 23 → Glaw_23 (xs (i + 1).toNatClampNeg) (xs (i + 2).toNatClampNeg) (xs (i + 3).toNatClampNeg) (xs (i + 4).toNatClampNeg) (xs (i + 5).toNatClampNeg) μ Kk) ∧ (y267 = 24 → Glaw_24 (xs (i + 1).toNatClampNeg) (xs (i + 2).toNatClampNeg) (xs (i + 3).toNatClampNeg) (xs (i + 4).toNatClampNeg) (xs (i + 5).toNatClampNeg) μ Kk) ∧ (y267 = 25 → Glaw_25 (xs (i + 1).toNatClampNeg) (xs (i + 2).toNatClampNeg) (xs (i + 3).toNatClampNeg) (xs (i + 4).toNatClampNeg) (xs (i + 5).toNatClampNeg) μ Kk) ∧ (y267 = 26 → Glaw_26 (xs (i + 1).toNatClampNeg) (xs (i + 2).toNatClampNeg) (xs (i + 3).toNatClampNeg) (xs (i + 4).toNatClampNeg) (xs (i + 5).toNatClampNeg) μ Kk) ∧ (y267 = 27 → Glaw_27 (xs (i + 1).toNatClampNeg) (xs (i + 2).toNatClampNeg) (xs (i + 3).toNatClampNeg) (xs (i + 4).toNatClampNeg) (xs (i + 5).toNatClampNeg) μ Kk) ∧ (y267 = 28 → Glaw_28 (xs (i + 1).toNatClampNeg) (xs (i + 2).toNatClampNeg) (xs (i + 3).toNatClampNeg) (xs (i + 4).toNatClampNeg) (xs (i + 5).toNatClampNeg) μ Kk) ∧ (y267 = 29 → Glaw_29 (xs (i + 1).toNatClampNeg) (xs (i + 2).toNatClampNeg) (xs (i + 3).toNatClampNeg) (xs (i + 4).toNatClampNeg) (xs (i + 5).toNatClampNeg) μ Kk) ∧ (y267 = 30 → Glaw_30 (xs (i + 1).toNatClampNeg) (xs (i + 2).toNatClampNeg) (xs (i + 3).toNatClampNeg) (xs (i + 4).toNatClampNeg) (xs (i + 5).toNatClampNeg) μ Kk) ∧ (y267 = 31 → Glaw_31 (xs (i + 1).toNatClampNeg) (xs (i + 2).toNatClampNeg) (xs (i + 3).toNatClampNeg) (xs (i + 4).toNatClampNeg) (xs (i + 5).toNatClampNeg) μ Kk) ∧ (y267 = 32 → Glaw_32 (xs (i + 1).toNatClampNeg) (xs (i + 2).toNatClampNeg) (xs (i + 3).toNatClampNeg) (xs (i + 4).toNatClampNeg) (xs (i + 5).toNatClampNeg) μ Kk) ∧ (y267 = 33 → Glaw_33 (xs (i + 1).toNatClampNeg) (xs (i + 2).toNatClampNeg) (xs (i + 3).toNatClampNeg) (xs (i + 4).toNatClampNeg) (xs (i + 5).toNatClampNeg) μ Kk) ∧ (y267 = 34 → Glaw_34 (xs (i + 1).toNatClampNeg) (xs (i + 2).toNatClampNeg) (xs (i + 3).toNatClampNeg) (xs (i + 4).toNatClampNeg) (xs (i + 5).toNatClampNeg) μ Kk) ∧ (y267 = 35 → Glaw_35 (xs (i + 1).toNatClampNeg) (xs (i + 2).toNatClampNeg) (xs (i + 3).toNatClampNeg) (xs (i + 4).toNatClampNeg) (xs (i + 5).toNatClampNeg) μ Kk) ∧ (y267 = 36 → Glaw_36 (xs (i + 1).toNatClampNeg) (xs (i + 2).toNatClampNeg) (xs (i + 3).toNatClampNeg) (xs (i + 4).toNatClampNeg) (xs (i + 5).toNatClampNeg) μ Kk) ∧ (y267 = 37 → Glaw_37 (xs (i + 1).toNatClampNeg) (xs (i + 2).toNatClampNeg) (xs (i + 3).toNatClampNeg) (xs (i + 4).toNatClampNeg) (xs (i + 5).toNatClampNeg) μ Kk) ∧ (y267 = 38 → Glaw_38 (xs (i + 1).toNatClampNeg) (xs (i + 2).toNatClampNeg) (xs (i + 3).toNatClampNeg) (xs (i + 4).toNatClampNeg) (xs (i + 5).toNatClampNeg) μ Kk) ∧ (y267 = 39 → Glaw_39 (xs (i + 1).toNatClampNeg) (xs (i + 2).toNatClampNeg) (xs (i + 3).toNatClampNeg) (xs (i + 4).toNatClampNeg) (xs (i + 5).toNatClampNeg) μ Kk) ∧ (y267 = 40 → Glaw_40 (xs (i + 1).toNatClampNeg) (xs (i + 2).toNatClampNeg) (xs (i + 3).toNatClampNeg) (xs (i + 4).toNatClampNeg) (xs (i + 5).toNatClampNeg) μ Kk) ∧ (y267 = 41 → Glaw_41 (xs (i + 1).toNatClampNeg) (xs (i + 2).toNatClampNeg) (xs (i + 3).toNatClampNeg) (xs (i + 4).toNatClampNeg) (xs (i + 5).toNatClampNeg) μ Kk) ∧ (y267 = 42 → Glaw_42 (xs (i + 1).toNatClampNeg) (xs (i + 2).toNatClampNeg) (xs (i + 3).toNatClampNeg) (xs (i + 4).toNatClampNeg) (xs (i + 5).toNatClampNeg) μ Kk) ∧ (y267 = 43 → Glaw_43 (xs (i + 1).toNatClampNeg) (xs (i + 2).toNatClampNeg) (xs (i + 3).toNatClampNeg) (xs (i + 4).toNatClampNeg) (xs (i + 5).toNatClampNeg) μ Kk) ∧ (y267 = 44 → Glaw_44 (xs (i + 1).toNatClampNeg) (xs (i + 2).toNatClampNeg) (xs (i + 3).toNatClampNeg) (xs (i + 4).toNatClampNeg) (xs (i + 5).toNatClampNeg) μ Kk) ∧ (y267 = 45 → Glaw_45 (xs (i + 1).toNatClampNeg) (xs (i + 2).toNatClampNeg) (xs (i + 3).toNatClampNeg) (xs (i + 4).toNatClampNeg) (xs (i + 5).toNatClampNeg) μ Kk) ∧ (y267 = 46 → Glaw_46 (xs (i + 1).toNatClampNeg) (xs (i + 2).toNatClampNeg) (xs (i + 3).toNatClampNeg) (xs (i + 4).toNatClampNeg) (xs (i + 5).toNatClampNeg) μ Kk) ∧ (y267 = 47 → Glaw_47 (xs (i + 1).toNatClampNeg) (xs (i + 2).toNatClampNeg) (xs (i + 3).toNatClampNeg) (xs (i + 4).toNatClampNeg) (xs (i + 5).toNatClampNeg) μ Kk) ∧ (¬ y267 = 0 → ¬ y267 = 1 → ¬ y267 = 2 → ¬ y267 = 3 → ¬ y267 = 4 → ¬ y267 = 5 → ¬ y267 = 6 → ¬ y267 = 7 → ¬ y267 = 8 → ¬ y267 = 9 → ¬ y267 = 10 → ¬ y267 = 11 → ¬ y267 = 12 → ¬ y267 = 13 → ¬ y267 = 14 → ¬ y267 = 15 → ¬ y267 = 16 → ¬ y267 = 17 → ¬ y267 = 18 → ¬ y267 = 19 → ¬ y267 = 20 → ¬ y267 = 21 → ¬ y267 = 22 → ¬ y267 = 23 → ¬ y267 = 24 → ¬ y267 = 25 → ¬ y267 = 26 → ¬ y267 = 27 → ¬ y267 = 28 → ¬ y267 = 29 → ¬ y267 = 30 → ¬ y267 = 31 → ¬ y267 = 32 → ¬ y267 = 33 → ¬ y267 = 34 → ¬ y267 = 35 → ¬ y267 = 36 → ¬ y267 = 37 → ¬ y267 = 38 → ¬ y267 = 39 → ¬ y267 = 40 → ¬ y267 = 41 → ¬ y267 = 42 → ¬ y267 = 43 → ¬ y267 = 44 → ¬ y267 = 45 → ¬ y267 = 46 → ¬ y267 = 47 → Kk μ))
/-- what each operation owes: from two that are alike, the same answer and two that are alike -/
def OPS (Rel : MM → Prop) : Prop :=
  (∀ (v1 v2 v3 v4 v5 : Int32) (μ : MM), Rel μ → Glaw_0 v1 v2 v3 v4 v5 μ Rel) ∧ (∀ (v1 v2 v3 v4 v5 : Int32) (μ : MM), Rel μ → Glaw_1 v1 v2 v3 v4 v5 μ Rel) ∧ (∀ (v1 v2 v3 v4 v5 : Int32) (μ : MM), Rel μ → Glaw_2 v1 v2 v3 v4 v5 μ Rel) ∧ (∀ (v1 v2 v3 v4 v5 : Int32) (μ : MM), Rel μ → Glaw_3 v1 v2 v3 v4 v5 μ Rel) ∧ (∀ (v1 v2 v3 v4 v5 : Int32) (μ : MM), Rel μ → Glaw_4 v1 v2 v3 v4 v5 μ Rel) ∧ (∀ (v1 v2 v3 v4 v5 : Int32) (μ : MM), Rel μ → Glaw_5 v1 v2 v3 v4 v5 μ Rel) ∧ (∀ (v1 v2 v3 v4 v5 : Int32) (μ : MM), Rel μ → Glaw_6 v1 v2 v3 v4 v5 μ Rel) ∧ (∀ (v1 v2 v3 v4 v5 : Int32) (μ : MM), Rel μ → Glaw_7 v1 v2 v3 v4 v5 μ Rel) ∧ (∀ (v1 v2 v3 v4 v5 : Int32) (μ : MM), Rel μ → Glaw_8 v1 v2 v3 v4 v5 μ Rel) ∧ (∀ (v1 v2 v3 v4 v5 : Int32) (μ : MM), Rel μ → Glaw_9 v1 v2 v3 v4 v5 μ Rel) ∧ (∀ (v1 v2 v3 v4 v5 : Int32) (μ : MM), Rel μ → Glaw_10 v1 v2 v3 v4 v5 μ Rel) ∧ (∀ (v1 v2 v3 v4 v5 : Int32) (μ : MM), Rel μ → Glaw_11 v1 v2 v3 v4 v5 μ Rel) ∧ (∀ (v1 v2 v3 v4 v5 : Int32) (μ : MM), Rel μ → Glaw_12 v1 v2 v3 v4 v5 μ Rel) ∧ (∀ (v1 v2 v3 v4 v5 : Int32) (μ : MM), Rel μ → Glaw_13 v1 v2 v3 v4 v5 μ Rel) ∧ (∀ (v1 v2 v3 v4 v5 : Int32) (μ : MM), Rel μ → Glaw_14 v1 v2 v3 v4 v5 μ Rel) ∧ (∀ (v1 v2 v3 v4 v5 : Int32) (μ : MM), Rel μ → Glaw_15 v1 v2 v3 v4 v5 μ Rel) ∧ (∀ (v1 v2 v3 v4 v5 : Int32) (μ : MM), Rel μ → Glaw_16 v1 v2 v3 v4 v5 μ Rel) ∧ (∀ (v1 v2 v3 v4 v5 : Int32) (μ : MM), Rel μ → Glaw_17 v1 v2 v3 v4 v5 μ Rel) ∧ (∀ (v1 v2 v3 v4 v5 : Int32) (μ : MM), Rel μ → Glaw_18 v1 v2 v3 v4 v5 μ Rel) ∧ (∀ (v1 v2 v3 v4 v5 : Int32) (μ : MM), Rel μ → Glaw_19 v1 v2 v3 v4 v5 μ Rel) ∧ (∀ (v1 v2 v3 v4 v5 : Int32) (μ : MM), Rel μ → Glaw_20 v1 v2 v3 v4 v5 μ Rel) ∧ (∀ (v1 v2 v3 v4 v5 : Int32) (μ : MM), Rel μ → Glaw_21 v1 v2 v3 v4 v5 μ Rel) ∧ (∀ (v1 v2 v3 v4 v5 : Int32) (μ : MM), Rel μ → Glaw_22 v1 v2 v3 v4 v5 μ Rel) ∧ (∀ (v1 v2 v3 v4 v5 : Int32) (μ : MM), Rel μ → Glaw_23 v1 v2 v3 v4 v5 μ Rel) ∧ (∀ (v1 v2 v3 v4 v5 : Int32) (μ : MM), Rel μ → Glaw_24 v1 v2 v3 v4 v5 μ Rel) ∧ (∀ (v1 v2 v3 v4 v5 : Int32) (μ : MM), Rel μ → Glaw_25 v1 v2 v3 v4 v5 μ Rel) ∧ (∀ (v1 v2 v3 v4 v5 : Int32) (μ : MM), Rel μ → Glaw_26 v1 v2 v3 v4 v5 μ Rel) ∧ (∀ (v1 v2 v3 v4 v5 : Int32) (μ : MM), Rel μ → Glaw_27 v1 v2 v3 v4 v5 μ Rel) ∧ (∀ (v1 v2 v3 v4 v5 : Int32) (μ : MM), Rel μ → Glaw_28 v1 v2 v3 v4 v5 μ Rel) ∧ (∀ (v1 v2 v3 v4 v5 : Int32) (μ : MM), Rel μ → Glaw_29 v1 v2 v3 v4 v5 μ Rel) ∧ (∀ (v1 v2 v3 v4 v5 : Int32) (μ : MM), Rel μ → Glaw_30 v1 v2 v3 v4 v5 μ Rel) ∧ (∀ (v1 v2 v3 v4 v5 : Int32) (μ : MM), Rel μ → Glaw_31 v1 v2 v3 v4 v5 μ Rel) ∧ (∀ (v1 v2 v3 v4 v5 : Int32) (μ : MM), Rel μ → Glaw_32 v1 v2 v3 v4 v5 μ Rel) ∧ (∀ (v1 v2 v3 v4 v5 : Int32) (μ : MM), Rel μ → Glaw_33 v1 v2 v3 v4 v5 μ Rel) ∧ (∀ (v1 v2 v3 v4 v5 : Int32) (μ : MM), Rel μ → Glaw_34 v1 v2 v3 v4 v5 μ Rel) ∧ (∀ (v1 v2 v3 v4 v5 : Int32) (μ : MM), Rel μ → Glaw_35 v1 v2 v3 v4 v5 μ Rel) ∧ (∀ (v1 v2 v3 v4 v5 : Int32) (μ : MM), Rel μ → Glaw_36 v1 v2 v3 v4 v5 μ Rel) ∧ (∀ (v1 v2 v3 v4 v5 : Int32) (μ : MM), Rel μ → Glaw_37 v1 v2 v3 v4 v5 μ Rel) ∧ (∀ (v1 v2 v3 v4 v5 : Int32) (μ : MM), Rel μ → Glaw_38 v1 v2 v3 v4 v5 μ Rel) ∧ (∀ (v1 v2 v3 v4 v5 : Int32) (μ : MM), Rel μ → Glaw_39 v1 v2 v3 v4 v5 μ Rel) ∧ (∀ (v1 v2 v3 v4 v5 : Int32) (μ : MM), Rel μ → Glaw_40 v1 v2 v3 v4 v5 μ Rel) ∧ (∀ (v1 v2 v3 v4 v5 : Int32) (μ : MM), Rel μ → Glaw_41 v1 v2 v3 v4 v5 μ Rel) ∧ (∀ (v1 v2 v3 v4 v5 : Int32) (μ : MM), Rel μ → Glaw_42 v1 v2 v3 v4 v5 μ Rel) ∧ (∀ (v1 v2 v3 v4 v5 : Int32) (μ : MM), Rel μ → Glaw_43 v1 v2 v3 v4 v5 μ Rel) ∧ (∀ (v1 v2 v3 v4 v5 : Int32) (μ : MM), Rel μ → Glaw_44 v1 v2 v3 v4 v5 μ Rel) ∧ (∀ (v1 v2 v3 v4 v5 : Int32) (μ : MM), Rel μ → Glaw_45 v1 v2 v3 v4 v5 μ Rel) ∧ (∀ (v1 v2 v3 v4 v5 : Int32) (μ : MM), Rel μ → Glaw_46 v1 v2 v3 v4 v5 μ Rel) ∧ (∀ (v1 v2 v3 v4 v5 : Int32) (μ : MM), Rel μ → Glaw_47 v1 v2 v3 v4 v5 μ Rel)
set_option maxHeartbeats 4000000 in
set_option maxRecDepth 100000 in
theorem law_0 (hfl : l.stackTraces = false) (C : CX p s m args meth c φ tc D LA s0 code RL 8) {b L : Nat} {xs : Nat → Int32} (hX : va_X b L xs s s.heap) (hbl : b < s.heap.size) (hbA : φ 800 = b ∧ ¬ LA b) (hkc : kc + 1 ≤ room_1.cells ∧ ks + 6 ≤ room_1.slots) {i v1 v2 v3 v4 v5 : Int32} (a1 : vp_in (i + 1) L) (a2 : vp_in (i + 2) L) (a3 : vp_in (i + 3) L) (a4 : vp_in (i + 4) L) (a5 : vp_in (i + 5) L) (e1 : xs (i + 1).toNatClampNeg = v1) (e2 : xs (i + 2).toNatClampNeg = v2) (e3 : xs (i + 3).toNatClampNeg = v3) (e4 : xs (i + 4).toNatClampNeg = v4) (e5 : xs (i + 5).toNatClampNeg = v5) {Kk : MM → Prop} (K : ∀ μ, Kk μ → WX p l e room_1 s m args below meth c φ tc D LA 8 (kc + 1) (ks + 6) Q 1892 [(0, .ref 800), (1, .ref 0), (2, .ref 358), (3, .ref 410), (4, .int i)] [] μ) {μ : MM} (h : Glaw_0 v1 v2 v3 v4 v5 μ Kk) : WX p l e room_1 s m args below meth c φ tc D LA 8 kc ks Q 248 [(0, .ref 800), (1, .ref 0), (2, .ref 358), (3, .ref 410), (4, .int i)] [] μ := by
  have hk0 : kc ≤ room_1.cells ∧ ks ≤ room_1.slots := ⟨by omega, by omega⟩
  unfold Glaw_0 at h
  refine x_aload_n C rfl 1 rfl dL_law_248 ?_
  refine x_aload_n C rfl 0 rfl dL_law_249 ?_
  refine x_iload C 4 rfl dL_law_250 ?_
  refine x_iconst (v := 1) C (by decide) dL_law_252 ?_
  refine x_iadd C dL_law_253 ?_
  refine x_sld C hX hbl hbA a1 e1 dL_law_254 ?_
  refine x_aload_n C rfl 0 rfl dL_law_255 ?_
  refine x_iload C 4 rfl dL_law_256 ?_
  refine x_iconst (v := 2) C (by decide) dL_law_258 ?_
  refine x_iadd C dL_law_259 ?_
  refine x_sld C hX hbl hbA a2 e2 dL_law_260 ?_
  refine x_aload_n C rfl 0 rfl dL_law_261 ?_
  refine x_iload C 4 rfl dL_law_262 ?_
  refine x_iconst (v := 3) C (by decide) dL_law_264 ?_
  refine x_iadd C dL_law_265 ?_
  refine x_sld C hX hbl hbA a3 e3 dL_law_266 ?_
  refine x_callV (dC := G11_name_dep) (as := [.int v1, .int v2, .int v3]) (st := []) C rL hk0 (Nat.le_trans (Nat.le_of_ble_eq_true rfl) (Nat.le_refl 840)) (Nat.le_of_ble_eq_true rfl) ob0.1 ob0.2 (Nat.le_of_ble_eq_true rfl) rfl tw_2_193 tw_2_192 tw_2_191 tc_2_194 tw_1_1 hyX11 hnX11_name rfl (Nat.le_of_ble_eq_true rfl) dL_law_267 (G11_name_met C.2.2.2.2.2.2.2.1 (Nat.le_refl _)  h) (fun r0 μ1 hq => ?_)
  obtain ⟨r2, rfl, h⟩ := hq
  refine x_st [.int r2] rfl ?_
  refine x_aload_n C rfl 2 rfl dL_law_270 ?_
  refine x_aload_n C rfl 0 rfl dL_law_271 ?_
  refine x_iload C 4 rfl dL_law_272 ?_
  refine x_iconst (v := 1) C (by decide) dL_law_274 ?_
  refine x_iadd C dL_law_275 ?_
  refine x_sld C hX hbl hbA a1 e1 dL_law_276 ?_
  refine x_aload_n C rfl 0 rfl dL_law_277 ?_
  refine x_iload C 4 rfl dL_law_278 ?_
  refine x_iconst (v := 2) C (by decide) dL_law_280 ?_
  refine x_iadd C dL_law_281 ?_
  refine x_sld C hX hbl hbA a2 e2 dL_law_282 ?_
  refine x_aload_n C rfl 0 rfl dL_law_283 ?_
  refine x_iload C 4 rfl dL_law_284 ?_
  refine x_iconst (v := 3) C (by decide) dL_law_286 ?_
  refine x_iadd C dL_law_287 ?_
  refine x_sld C hX hbl hbA a3 e3 dL_law_288 ?_
  refine x_callV (dC := G12_name_dep) (as := [.int v1, .int v2, .int v3]) (st := [.int r2]) C rL hk0 (Nat.le_trans (Nat.le_of_ble_eq_true rfl) (Nat.le_refl 840)) (Nat.le_of_ble_eq_true rfl) ob358.1 ob358.2 (Nat.le_of_ble_eq_true rfl) rfl tw_6_180 tw_6_179 tw_6_178 tc_6_181 tw_1_13 hyX12 hnX12_name rfl (Nat.le_of_ble_eq_true rfl) dL_law_289 (G12_name_met C.2.2.2.2.2.2.2.1 (Nat.le_refl _)  h) (fun r0 μ3 hq => ?_)
  obtain ⟨r4, rfl, h⟩ := hq
  refine x_st [.int r4, .int r2] rfl ?_
  refine x_icmp_eq (tgt := 1892) C dL_law_292 (by decide) (fun c5 => ?_) (fun c5 => ?_)
  · have h := h.1 c5
    refine x_widen (Nat.le_add_right _ 1) (Nat.le_add_right _ 6) ?_
    exact K _ h
  · have h := h.2 c5
    refine x_iconst (v := 0) C (by decide) dL_law_295 ?_
    exact h.elim
set_option maxHeartbeats 4000000 in
set_option maxRecDepth 100000 in
theorem law_1 (hfl : l.stackTraces = false) (C : CX p s m args meth c φ tc D LA s0 code RL 8) {b L : Nat} {xs : Nat → Int32} (hX : va_X b L xs s s.heap) (hbl : b < s.heap.size) (hbA : φ 800 = b ∧ ¬ LA b) (hkc : kc + 1 ≤ room_1.cells ∧ ks + 6 ≤ room_1.slots) {i v1 v2 v3 v4 v5 : Int32} (a1 : vp_in (i + 1) L) (a2 : vp_in (i + 2) L) (a3 : vp_in (i + 3) L) (a4 : vp_in (i + 4) L) (a5 : vp_in (i + 5) L) (e1 : xs (i + 1).toNatClampNeg = v1) (e2 : xs (i + 2).toNatClampNeg = v2) (e3 : xs (i + 3).toNatClampNeg = v3) (e4 : xs (i + 4).toNatClampNeg = v4) (e5 : xs (i + 5).toNatClampNeg = v5) {Kk : MM → Prop} (K : ∀ μ, Kk μ → WX p l e room_1 s m args below meth c φ tc D LA 8 (kc + 1) (ks + 6) Q 1892 [(0, .ref 800), (1, .ref 0), (2, .ref 358), (3, .ref 410), (4, .int i)] [] μ) {μ : MM} (h : Glaw_1 v1 v2 v3 v4 v5 μ Kk) : WX p l e room_1 s m args below meth c φ tc D LA 8 kc ks Q 297 [(0, .ref 800), (1, .ref 0), (2, .ref 358), (3, .ref 410), (4, .int i)] [] μ := by
  have hk0 : kc ≤ room_1.cells ∧ ks ≤ room_1.slots := ⟨by omega, by omega⟩
  unfold Glaw_1 at h
  refine x_aload_n C rfl 1 rfl dL_law_297 ?_
  refine x_aload_n C rfl 0 rfl dL_law_298 ?_
  refine x_iload C 4 rfl dL_law_299 ?_
  refine x_iconst (v := 1) C (by decide) dL_law_301 ?_
  refine x_iadd C dL_law_302 ?_
  refine x_sld C hX hbl hbA a1 e1 dL_law_303 ?_
  refine x_aload_n C rfl 0 rfl dL_law_304 ?_
  refine x_iload C 4 rfl dL_law_305 ?_
  refine x_iconst (v := 2) C (by decide) dL_law_307 ?_
  refine x_iadd C dL_law_308 ?_
  refine x_sld C hX hbl hbA a2 e2 dL_law_309 ?_
  refine x_aload_n C rfl 0 rfl dL_law_310 ?_
  refine x_iload C 4 rfl dL_law_311 ?_
  refine x_iconst (v := 3) C (by decide) dL_law_313 ?_
  refine x_iadd C dL_law_314 ?_
  refine x_sld C hX hbl hbA a3 e3 dL_law_315 ?_
  refine x_callV (dC := G11_house_dep) (as := [.int v1, .int v2, .int v3]) (st := []) C rL hk0 (Nat.le_trans (Nat.le_of_ble_eq_true rfl) (Nat.le_refl 840)) (Nat.le_of_ble_eq_true rfl) ob0.1 ob0.2 (Nat.le_of_ble_eq_true rfl) rfl tw_2_204 tw_2_203 tw_2_202 tc_2_205 tw_1_1 hyX11 hnX11_house rfl (Nat.le_of_ble_eq_true rfl) dL_law_316 (G11_house_met C.2.2.2.2.2.2.2.1 (Nat.le_refl _)  h) (fun r0 μ6 hq => ?_)
  obtain ⟨r7, rfl, h⟩ := hq
  refine x_st [.int r7] rfl ?_
  refine x_aload_n C rfl 2 rfl dL_law_319 ?_
  refine x_aload_n C rfl 0 rfl dL_law_320 ?_
  refine x_iload C 4 rfl dL_law_321 ?_
  refine x_iconst (v := 1) C (by decide) dL_law_323 ?_
  refine x_iadd C dL_law_324 ?_
  refine x_sld C hX hbl hbA a1 e1 dL_law_325 ?_
  refine x_aload_n C rfl 0 rfl dL_law_326 ?_
  refine x_iload C 4 rfl dL_law_327 ?_
  refine x_iconst (v := 2) C (by decide) dL_law_329 ?_
  refine x_iadd C dL_law_330 ?_
  refine x_sld C hX hbl hbA a2 e2 dL_law_331 ?_
  refine x_aload_n C rfl 0 rfl dL_law_332 ?_
  refine x_iload C 4 rfl dL_law_333 ?_
  refine x_iconst (v := 3) C (by decide) dL_law_335 ?_
  refine x_iadd C dL_law_336 ?_
  refine x_sld C hX hbl hbA a3 e3 dL_law_337 ?_
  refine x_callV (dC := G12_house_dep) (as := [.int v1, .int v2, .int v3]) (st := [.int r7]) C rL hk0 (Nat.le_trans (Nat.le_of_ble_eq_true rfl) (Nat.le_refl 840)) (Nat.le_of_ble_eq_true rfl) ob358.1 ob358.2 (Nat.le_of_ble_eq_true rfl) rfl tw_6_188 tw_6_187 tw_6_186 tc_6_189 tw_1_13 hyX12 hnX12_house rfl (Nat.le_of_ble_eq_true rfl) dL_law_338 (G12_house_met C.2.2.2.2.2.2.2.1 (Nat.le_refl _)  h) (fun r0 μ8 hq => ?_)
  obtain ⟨r9, rfl, h⟩ := hq
  refine x_st [.int r9, .int r7] rfl ?_
  refine x_icmp_eq (tgt := 1892) C dL_law_341 (by decide) (fun c10 => ?_) (fun c10 => ?_)
  · have h := h.1 c10
    refine x_widen (Nat.le_add_right _ 1) (Nat.le_add_right _ 6) ?_
    exact K _ h
  · have h := h.2 c10
    refine x_iconst (v := 0) C (by decide) dL_law_344 ?_
    exact h.elim
set_option maxHeartbeats 4000000 in
set_option maxRecDepth 100000 in
theorem law_2 (hfl : l.stackTraces = false) (C : CX p s m args meth c φ tc D LA s0 code RL 8) {b L : Nat} {xs : Nat → Int32} (hX : va_X b L xs s s.heap) (hbl : b < s.heap.size) (hbA : φ 800 = b ∧ ¬ LA b) (hkc : kc + 1 ≤ room_1.cells ∧ ks + 6 ≤ room_1.slots) {i v1 v2 v3 v4 v5 : Int32} (a1 : vp_in (i + 1) L) (a2 : vp_in (i + 2) L) (a3 : vp_in (i + 3) L) (a4 : vp_in (i + 4) L) (a5 : vp_in (i + 5) L) (e1 : xs (i + 1).toNatClampNeg = v1) (e2 : xs (i + 2).toNatClampNeg = v2) (e3 : xs (i + 3).toNatClampNeg = v3) (e4 : xs (i + 4).toNatClampNeg = v4) (e5 : xs (i + 5).toNatClampNeg = v5) {Kk : MM → Prop} (K : ∀ μ, Kk μ → WX p l e room_1 s m args below meth c φ tc D LA 8 (kc + 1) (ks + 6) Q 1892 [(0, .ref 800), (1, .ref 0), (2, .ref 358), (3, .ref 410), (4, .int i)] [] μ) {μ : MM} (h : Glaw_2 v1 v2 v3 v4 v5 μ Kk) : WX p l e room_1 s m args below meth c φ tc D LA 8 kc ks Q 346 [(0, .ref 800), (1, .ref 0), (2, .ref 358), (3, .ref 410), (4, .int i)] [] μ := by
  have hk0 : kc ≤ room_1.cells ∧ ks ≤ room_1.slots := ⟨by omega, by omega⟩
  unfold Glaw_2 at h
  refine x_aload_n C rfl 1 rfl dL_law_346 ?_
  refine x_aload_n C rfl 0 rfl dL_law_347 ?_
  refine x_iload C 4 rfl dL_law_348 ?_
  refine x_iconst (v := 1) C (by decide) dL_law_350 ?_
  refine x_iadd C dL_law_351 ?_
  refine x_sld C hX hbl hbA a1 e1 dL_law_352 ?_
  refine x_aload_n C rfl 0 rfl dL_law_353 ?_
  refine x_iload C 4 rfl dL_law_354 ?_
  refine x_iconst (v := 2) C (by decide) dL_law_356 ?_
  refine x_iadd C dL_law_357 ?_
  refine x_sld C hX hbl hbA a2 e2 dL_law_358 ?_
  refine x_aload_n C rfl 0 rfl dL_law_359 ?_
  refine x_iload C 4 rfl dL_law_360 ?_
  refine x_iconst (v := 3) C (by decide) dL_law_362 ?_
  refine x_iadd C dL_law_363 ?_
  refine x_sld C hX hbl hbA a3 e3 dL_law_364 ?_
  refine x_aload_n C rfl 0 rfl dL_law_365 ?_
  refine x_iload C 4 rfl dL_law_366 ?_
  refine x_iconst (v := 4) C (by decide) dL_law_368 ?_
  refine x_iadd C dL_law_369 ?_
  refine x_sld C hX hbl hbA a4 e4 dL_law_370 ?_
  refine x_aload_n C rfl 0 rfl dL_law_371 ?_
  refine x_iload C 4 rfl dL_law_372 ?_
  refine x_iconst (v := 5) C (by decide) dL_law_374 ?_
  refine x_iadd C dL_law_375 ?_
  refine x_sld C hX hbl hbA a5 e5 dL_law_376 ?_
  refine x_callV (dC := G11_letter_dep) (as := [.int v1, .int v2, .int v3, .int v4, .int v5]) (st := []) C rL hk0 (Nat.le_trans (Nat.le_of_ble_eq_true rfl) (Nat.le_refl 840)) (Nat.le_of_ble_eq_true rfl) ob0.1 ob0.2 (Nat.le_of_ble_eq_true rfl) rfl tw_2_212 tw_2_211 tw_2_210 tc_2_213 tw_1_1 hyX11 hnX11_letter rfl (Nat.le_of_ble_eq_true rfl) dL_law_377 (G11_letter_met C.2.2.2.2.2.2.2.1 (Nat.le_refl _)  h) (fun r0 μ11 hq => ?_)
  obtain ⟨r12, rfl, h⟩ := hq
  refine x_st [.int r12] rfl ?_
  refine x_aload_n C rfl 2 rfl dL_law_380 ?_
  refine x_aload_n C rfl 0 rfl dL_law_381 ?_
  refine x_iload C 4 rfl dL_law_382 ?_
  refine x_iconst (v := 1) C (by decide) dL_law_384 ?_
  refine x_iadd C dL_law_385 ?_
  refine x_sld C hX hbl hbA a1 e1 dL_law_386 ?_
  refine x_aload_n C rfl 0 rfl dL_law_387 ?_
  refine x_iload C 4 rfl dL_law_388 ?_
  refine x_iconst (v := 2) C (by decide) dL_law_390 ?_
  refine x_iadd C dL_law_391 ?_
  refine x_sld C hX hbl hbA a2 e2 dL_law_392 ?_
  refine x_aload_n C rfl 0 rfl dL_law_393 ?_
  refine x_iload C 4 rfl dL_law_394 ?_
  refine x_iconst (v := 3) C (by decide) dL_law_396 ?_
  refine x_iadd C dL_law_397 ?_
  refine x_sld C hX hbl hbA a3 e3 dL_law_398 ?_
  refine x_aload_n C rfl 0 rfl dL_law_399 ?_
  refine x_iload C 4 rfl dL_law_400 ?_
  refine x_iconst (v := 4) C (by decide) dL_law_402 ?_
  refine x_iadd C dL_law_403 ?_
  refine x_sld C hX hbl hbA a4 e4 dL_law_404 ?_
  refine x_aload_n C rfl 0 rfl dL_law_405 ?_
  refine x_iload C 4 rfl dL_law_406 ?_
  refine x_iconst (v := 5) C (by decide) dL_law_408 ?_
  refine x_iadd C dL_law_409 ?_
  refine x_sld C hX hbl hbA a5 e5 dL_law_410 ?_
  refine x_callV (dC := G12_letter_dep) (as := [.int v1, .int v2, .int v3, .int v4, .int v5]) (st := [.int r12]) C rL hk0 (Nat.le_trans (Nat.le_of_ble_eq_true rfl) (Nat.le_refl 840)) (Nat.le_of_ble_eq_true rfl) ob358.1 ob358.2 (Nat.le_of_ble_eq_true rfl) rfl tw_6_194 tw_6_193 tw_6_192 tc_6_195 tw_1_13 hyX12 hnX12_letter rfl (Nat.le_of_ble_eq_true rfl) dL_law_411 (G12_letter_met C.2.2.2.2.2.2.2.1 (Nat.le_refl _)  h) (fun r0 μ13 hq => ?_)
  obtain ⟨r14, rfl, h⟩ := hq
  refine x_st [.int r14, .int r12] rfl ?_
  refine x_icmp_eq (tgt := 1892) C dL_law_414 (by decide) (fun c15 => ?_) (fun c15 => ?_)
  · have h := h.1 c15
    refine x_widen (Nat.le_add_right _ 1) (Nat.le_add_right _ 6) ?_
    exact K _ h
  · have h := h.2 c15
    refine x_iconst (v := 0) C (by decide) dL_law_417 ?_
    exact h.elim
set_option maxHeartbeats 4000000 in
set_option maxRecDepth 100000 in
theorem law_3 (hfl : l.stackTraces = false) (C : CX p s m args meth c φ tc D LA s0 code RL 8) {b L : Nat} {xs : Nat → Int32} (hX : va_X b L xs s s.heap) (hbl : b < s.heap.size) (hbA : φ 800 = b ∧ ¬ LA b) (hkc : kc + 1 ≤ room_1.cells ∧ ks + 6 ≤ room_1.slots) {i v1 v2 v3 v4 v5 : Int32} (a1 : vp_in (i + 1) L) (a2 : vp_in (i + 2) L) (a3 : vp_in (i + 3) L) (a4 : vp_in (i + 4) L) (a5 : vp_in (i + 5) L) (e1 : xs (i + 1).toNatClampNeg = v1) (e2 : xs (i + 2).toNatClampNeg = v2) (e3 : xs (i + 3).toNatClampNeg = v3) (e4 : xs (i + 4).toNatClampNeg = v4) (e5 : xs (i + 5).toNatClampNeg = v5) {Kk : MM → Prop} (K : ∀ μ, Kk μ → WX p l e room_1 s m args below meth c φ tc D LA 8 (kc + 1) (ks + 6) Q 1892 [(0, .ref 800), (1, .ref 0), (2, .ref 358), (3, .ref 410), (4, .int i)] [] μ) {μ : MM} (h : Glaw_3 v1 v2 v3 v4 v5 μ Kk) : WX p l e room_1 s m args below meth c φ tc D LA 8 kc ks Q 419 [(0, .ref 800), (1, .ref 0), (2, .ref 358), (3, .ref 410), (4, .int i)] [] μ := by
  have hk0 : kc ≤ room_1.cells ∧ ks ≤ room_1.slots := ⟨by omega, by omega⟩
  unfold Glaw_3 at h
  refine x_aload_n C rfl 1 rfl dL_law_419 ?_
  refine x_aload_n C rfl 0 rfl dL_law_420 ?_
  refine x_iload C 4 rfl dL_law_421 ?_
  refine x_iconst (v := 1) C (by decide) dL_law_423 ?_
  refine x_iadd C dL_law_424 ?_
  refine x_sld C hX hbl hbA a1 e1 dL_law_425 ?_
  refine x_aload_n C rfl 0 rfl dL_law_426 ?_
  refine x_iload C 4 rfl dL_law_427 ?_
  refine x_iconst (v := 2) C (by decide) dL_law_429 ?_
  refine x_iadd C dL_law_430 ?_
  refine x_sld C hX hbl hbA a2 e2 dL_law_431 ?_
  refine x_aload_n C rfl 0 rfl dL_law_432 ?_
  refine x_iload C 4 rfl dL_law_433 ?_
  refine x_iconst (v := 3) C (by decide) dL_law_435 ?_
  refine x_iadd C dL_law_436 ?_
  refine x_sld C hX hbl hbA a3 e3 dL_law_437 ?_
  refine x_callV (dC := G11_deal_dep) (as := [.int v1, .int v2, .int v3]) (st := []) C rL hk0 (Nat.le_trans (Nat.le_of_ble_eq_true rfl) (Nat.le_refl 840)) (Nat.le_of_ble_eq_true rfl) ob0.1 ob0.2 (Nat.le_of_ble_eq_true rfl) rfl tw_2_236 tw_2_235 tw_2_234 tc_2_237 tw_1_1 hyX11 hnX11_deal rfl (Nat.le_of_ble_eq_true rfl) dL_law_438 (G11_deal_met C.2.2.2.2.2.2.2.1 (Nat.le_refl _)  h) (fun r0 μ16 hq => ?_)
  obtain ⟨r17, rfl, h⟩ := hq
  refine x_st [.int r17] rfl ?_
  refine x_aload_n C rfl 2 rfl dL_law_441 ?_
  refine x_aload_n C rfl 0 rfl dL_law_442 ?_
  refine x_iload C 4 rfl dL_law_443 ?_
  refine x_iconst (v := 1) C (by decide) dL_law_445 ?_
  refine x_iadd C dL_law_446 ?_
  refine x_sld C hX hbl hbA a1 e1 dL_law_447 ?_
  refine x_aload_n C rfl 0 rfl dL_law_448 ?_
  refine x_iload C 4 rfl dL_law_449 ?_
  refine x_iconst (v := 2) C (by decide) dL_law_451 ?_
  refine x_iadd C dL_law_452 ?_
  refine x_sld C hX hbl hbA a2 e2 dL_law_453 ?_
  refine x_aload_n C rfl 0 rfl dL_law_454 ?_
  refine x_iload C 4 rfl dL_law_455 ?_
  refine x_iconst (v := 3) C (by decide) dL_law_457 ?_
  refine x_iadd C dL_law_458 ?_
  refine x_sld C hX hbl hbA a3 e3 dL_law_459 ?_
  refine x_callV (dC := G12_deal_dep) (as := [.int v1, .int v2, .int v3]) (st := [.int r17]) C rL hk0 (Nat.le_trans (Nat.le_of_ble_eq_true rfl) (Nat.le_refl 840)) (Nat.le_of_ble_eq_true rfl) ob358.1 ob358.2 (Nat.le_of_ble_eq_true rfl) rfl tw_6_220 tw_6_219 tw_6_218 tc_6_221 tw_1_13 hyX12 hnX12_deal rfl (Nat.le_of_ble_eq_true rfl) dL_law_460 (G12_deal_met C.2.2.2.2.2.2.2.1 (Nat.le_refl _)  h) (fun r0 μ18 hq => ?_)
  obtain ⟨r19, rfl, h⟩ := hq
  refine x_st [.int r19, .int r17] rfl ?_
  refine x_icmp_eq (tgt := 1892) C dL_law_463 (by decide) (fun c20 => ?_) (fun c20 => ?_)
  · have h := h.1 c20
    refine x_widen (Nat.le_add_right _ 1) (Nat.le_add_right _ 6) ?_
    exact K _ h
  · have h := h.2 c20
    refine x_iconst (v := 0) C (by decide) dL_law_466 ?_
    exact h.elim
set_option maxHeartbeats 4000000 in
set_option maxRecDepth 100000 in
theorem law_4 (hfl : l.stackTraces = false) (C : CX p s m args meth c φ tc D LA s0 code RL 8) {b L : Nat} {xs : Nat → Int32} (hX : va_X b L xs s s.heap) (hbl : b < s.heap.size) (hbA : φ 800 = b ∧ ¬ LA b) (hkc : kc + 1 ≤ room_1.cells ∧ ks + 6 ≤ room_1.slots) {i v1 v2 v3 v4 v5 : Int32} (a1 : vp_in (i + 1) L) (a2 : vp_in (i + 2) L) (a3 : vp_in (i + 3) L) (a4 : vp_in (i + 4) L) (a5 : vp_in (i + 5) L) (e1 : xs (i + 1).toNatClampNeg = v1) (e2 : xs (i + 2).toNatClampNeg = v2) (e3 : xs (i + 3).toNatClampNeg = v3) (e4 : xs (i + 4).toNatClampNeg = v4) (e5 : xs (i + 5).toNatClampNeg = v5) {Kk : MM → Prop} (K : ∀ μ, Kk μ → WX p l e room_1 s m args below meth c φ tc D LA 8 (kc + 1) (ks + 6) Q 1892 [(0, .ref 800), (1, .ref 0), (2, .ref 358), (3, .ref 410), (4, .int i)] [] μ) {μ : MM} (h : Glaw_4 v1 v2 v3 v4 v5 μ Kk) : WX p l e room_1 s m args below meth c φ tc D LA 8 kc ks Q 468 [(0, .ref 800), (1, .ref 0), (2, .ref 358), (3, .ref 410), (4, .int i)] [] μ := by
  have hk0 : kc ≤ room_1.cells ∧ ks ≤ room_1.slots := ⟨by omega, by omega⟩
  unfold Glaw_4 at h
  refine x_aload_n C rfl 1 rfl dL_law_468 ?_
  refine x_aload_n C rfl 0 rfl dL_law_469 ?_
  refine x_iload C 4 rfl dL_law_470 ?_
  refine x_iconst (v := 1) C (by decide) dL_law_472 ?_
  refine x_iadd C dL_law_473 ?_
  refine x_sld C hX hbl hbA a1 e1 dL_law_474 ?_
  refine x_aload_n C rfl 0 rfl dL_law_475 ?_
  refine x_iload C 4 rfl dL_law_476 ?_
  refine x_iconst (v := 2) C (by decide) dL_law_478 ?_
  refine x_iadd C dL_law_479 ?_
  refine x_sld C hX hbl hbA a2 e2 dL_law_480 ?_
  refine x_aload_n C rfl 3 rfl dL_law_481 ?_
  refine x_callSH (dC := G11_of_dep + 1) (as := [.ref 0, .int v1, .int v2, .ref 410]) (st := []) C rL hkc (Nat.le_of_ble_eq_true rfl) (Nat.le_of_ble_eq_true rfl) tw_6_80 tw_6_79 th_of tw_1_0 hyL hnL_of rfl (Nat.le_of_ble_eq_true rfl) dL_law_482 (GL_of_met hfl C.2.2.2.2.2.2.2.1 (Nat.le_refl _) h) (fun r0 μ22 hq => ?_)
  obtain ⟨r21, rfl, h⟩ := hq
  refine x_st [.int r21] rfl ?_
  refine x_istore C [(5, .int r21), (0, .ref 800), (1, .ref 0), (2, .ref 358), (3, .ref 410), (4, .int i)] (Nat.le_of_ble_eq_true rfl) rfl dL_law_485 ?_
  refine x_aload_n C rfl 3 rfl dL_law_487 ?_
  refine x_aload_n C rfl 1 rfl dL_law_488 ?_
  refine x_iload C 5 rfl dL_law_489 ?_
  refine x_iconst (v := 1) C (by decide) dL_law_491 ?_
  refine x_iadd C dL_law_492 ?_
  refine x_sld C hX hbl hbA a1 e1 dL_law_493 ?_
  refine x_aload_n C rfl 1 rfl dL_law_494 ?_
  refine x_iload C 5 rfl dL_law_495 ?_
  refine x_iconst (v := 2) C (by decide) dL_law_497 ?_
  refine x_iadd C dL_law_498 ?_
  refine x_sld C hX hbl hbA a2 e2 dL_law_499 ?_
  refine x_callV (dC := G12_of_dep) (as := [.int v1, .int v2]) (st := []) C rL hkc (Nat.le_trans (Nat.le_of_ble_eq_true rfl) (Nat.le_refl 840)) (Nat.le_of_ble_eq_true rfl) ob358.1 ob358.2 (Nat.le_of_ble_eq_true rfl) rfl tw_6_237 tw_6_236 tw_6_235 tc_6_238 tw_1_13 hyX12 hnX12_of rfl (Nat.le_of_ble_eq_true rfl) dL_law_500 (G12_of_met C.2.2.2.2.2.2.2.1 (Nat.le_refl _)  h) (fun r0 μ23 hq => ?_)
  obtain ⟨r24, rfl, h⟩ := hq
  refine x_st [.int r24] rfl ?_
  refine x_istore C [(6, .int r24), (5, .int r21), (0, .ref 800), (1, .ref 0), (2, .ref 358), (3, .ref 410), (4, .int i)] (Nat.le_of_ble_eq_true rfl) rfl dL_law_503 ?_
  refine x_aload_n C rfl 4 rfl dL_law_505 ?_
  refine x_callV (dC := G12_thrown_dep) (as := []) (st := []) C rL hkc (Nat.le_trans (Nat.le_of_ble_eq_true rfl) (Nat.le_refl 840)) (Nat.le_of_ble_eq_true rfl) ob358.1 ob358.2 (Nat.le_of_ble_eq_true rfl) rfl tw_6_176 tw_6_175 tw_6_174 tc_6_177 tw_1_13 hyX12 hnX12_thrown rfl (Nat.le_of_ble_eq_true rfl) dL_law_506 (G12_thrown_met C.2.2.2.2.2.2.2.1 (Nat.le_refl _)  h) (fun r0 μ25 hq => ?_)
  obtain ⟨r26, rfl, h⟩ := hq
  refine x_st [.int r26] rfl ?_
  refine x_iload C 1 rfl dL_law_509 ?_
  refine x_icmp_eq (tgt := 516) C dL_law_511 (by decide) (fun c27 => ?_) (fun c27 => ?_)
  · have h := h.1 c27
    refine x_iload C 1 rfl dL_law_516 ?_
    refine x_if_ne (tgt := 533) C dL_law_518 (by decide) (fun c28 => ?_) (fun c28 => ?_)
    · have h := h.1 c28
      refine x_goto (tgt := 1892) C dL_law_533 (by decide) ?_
      refine x_sub [(0, .ref 800), (1, .ref 0), (2, .ref 358), (3, .ref 410), (4, .int i)] [2, 3, 4, 5, 6] rfl ?_
      exact K _ h
    · have h := h.2 c28
      refine x_aload_n C rfl 5 rfl dL_law_521 ?_
      refine x_iconst (v := 0) C (by decide) dL_law_522 ?_
      refine x_lald C ob410.1 ob410.2 (by unfold vp_in; decide) (j := 0) (by decide) dL_law_523 ?_
      refine x_iload C 0 rfl dL_law_524 ?_
      refine x_i2l C dL_law_526 ?_
      refine x_lcmp C dL_law_527 ?_
      refine x_if_eq (tgt := 533) C dL_law_528 (by decide) (fun c29 => ?_) (fun c29 => ?_)
      · have h := h.1 c29
        refine x_goto (tgt := 1892) C dL_law_533 (by decide) ?_
        refine x_sub [(0, .ref 800), (1, .ref 0), (2, .ref 358), (3, .ref 410), (4, .int i)] [2, 3, 4, 5, 6] rfl ?_
        exact K _ h
      · have h := h.2 c29
        refine x_iconst (v := 0) C (by decide) dL_law_531 ?_
        exact h.elim
  · have h := h.2 c27
    refine x_iconst (v := 0) C (by decide) dL_law_514 ?_
    exact h.elim
set_option maxHeartbeats 4000000 in
set_option maxRecDepth 100000 in
theorem law_5 (hfl : l.stackTraces = false) (C : CX p s m args meth c φ tc D LA s0 code RL 8) {b L : Nat} {xs : Nat → Int32} (hX : va_X b L xs s s.heap) (hbl : b < s.heap.size) (hbA : φ 800 = b ∧ ¬ LA b) (hkc : kc + 1 ≤ room_1.cells ∧ ks + 6 ≤ room_1.slots) {i v1 v2 v3 v4 v5 : Int32} (a1 : vp_in (i + 1) L) (a2 : vp_in (i + 2) L) (a3 : vp_in (i + 3) L) (a4 : vp_in (i + 4) L) (a5 : vp_in (i + 5) L) (e1 : xs (i + 1).toNatClampNeg = v1) (e2 : xs (i + 2).toNatClampNeg = v2) (e3 : xs (i + 3).toNatClampNeg = v3) (e4 : xs (i + 4).toNatClampNeg = v4) (e5 : xs (i + 5).toNatClampNeg = v5) {Kk : MM → Prop} (K : ∀ μ, Kk μ → WX p l e room_1 s m args below meth c φ tc D LA 8 (kc + 1) (ks + 6) Q 1892 [(0, .ref 800), (1, .ref 0), (2, .ref 358), (3, .ref 410), (4, .int i)] [] μ) {μ : MM} (h : Glaw_5 v1 v2 v3 v4 v5 μ Kk) : WX p l e room_1 s m args below meth c φ tc D LA 8 kc ks Q 536 [(0, .ref 800), (1, .ref 0), (2, .ref 358), (3, .ref 410), (4, .int i)] [] μ := by
  have hk0 : kc ≤ room_1.cells ∧ ks ≤ room_1.slots := ⟨by omega, by omega⟩
  unfold Glaw_5 at h
  refine x_aload_n C rfl 1 rfl dL_law_536 ?_
  refine x_aload_n C rfl 0 rfl dL_law_537 ?_
  refine x_iload C 4 rfl dL_law_538 ?_
  refine x_iconst (v := 1) C (by decide) dL_law_540 ?_
  refine x_iadd C dL_law_541 ?_
  refine x_sld C hX hbl hbA a1 e1 dL_law_542 ?_
  refine x_callV (dC := G11_sign_dep) (as := [.int v1]) (st := []) C rL hk0 (Nat.le_trans (Nat.le_of_ble_eq_true rfl) (Nat.le_refl 840)) (Nat.le_of_ble_eq_true rfl) ob0.1 ob0.2 (Nat.le_of_ble_eq_true rfl) rfl tw_3_24 tw_3_23 tw_3_22 tc_3_25 tw_1_1 hyX11 hnX11_sign rfl (Nat.le_of_ble_eq_true rfl) dL_law_543 (G11_sign_met C.2.2.2.2.2.2.2.1 (Nat.le_refl _)  h) (fun r0 μ30 hq => ?_)
  obtain ⟨r31, rfl, h⟩ := hq
  refine x_st [.int r31] rfl ?_
  refine x_aload_n C rfl 2 rfl dL_law_546 ?_
  refine x_aload_n C rfl 0 rfl dL_law_547 ?_
  refine x_iload C 4 rfl dL_law_548 ?_
  refine x_iconst (v := 1) C (by decide) dL_law_550 ?_
  refine x_iadd C dL_law_551 ?_
  refine x_sld C hX hbl hbA a1 e1 dL_law_552 ?_
  refine x_callV (dC := G12_sign_dep) (as := [.int v1]) (st := [.int r31]) C rL hk0 (Nat.le_trans (Nat.le_of_ble_eq_true rfl) (Nat.le_refl 840)) (Nat.le_of_ble_eq_true rfl) ob358.1 ob358.2 (Nat.le_of_ble_eq_true rfl) rfl tw_7_10 tw_7_9 tw_7_8 tc_7_11 tw_1_13 hyX12 hnX12_sign rfl (Nat.le_of_ble_eq_true rfl) dL_law_553 (G12_sign_met C.2.2.2.2.2.2.2.1 (Nat.le_refl _)  h) (fun r0 μ32 hq => ?_)
  obtain ⟨r33, rfl, h⟩ := hq
  refine x_st [.int r33, .int r31] rfl ?_
  refine x_icmp_eq (tgt := 1892) C dL_law_556 (by decide) (fun c34 => ?_) (fun c34 => ?_)
  · have h := h.1 c34
    refine x_widen (Nat.le_add_right _ 1) (Nat.le_add_right _ 6) ?_
    exact K _ h
  · have h := h.2 c34
    refine x_iconst (v := 0) C (by decide) dL_law_559 ?_
    exact h.elim
set_option maxHeartbeats 4000000 in
set_option maxRecDepth 100000 in
theorem law_6 (hfl : l.stackTraces = false) (C : CX p s m args meth c φ tc D LA s0 code RL 8) {b L : Nat} {xs : Nat → Int32} (hX : va_X b L xs s s.heap) (hbl : b < s.heap.size) (hbA : φ 800 = b ∧ ¬ LA b) (hkc : kc + 1 ≤ room_1.cells ∧ ks + 6 ≤ room_1.slots) {i v1 v2 v3 v4 v5 : Int32} (a1 : vp_in (i + 1) L) (a2 : vp_in (i + 2) L) (a3 : vp_in (i + 3) L) (a4 : vp_in (i + 4) L) (a5 : vp_in (i + 5) L) (e1 : xs (i + 1).toNatClampNeg = v1) (e2 : xs (i + 2).toNatClampNeg = v2) (e3 : xs (i + 3).toNatClampNeg = v3) (e4 : xs (i + 4).toNatClampNeg = v4) (e5 : xs (i + 5).toNatClampNeg = v5) {Kk : MM → Prop} (K : ∀ μ, Kk μ → WX p l e room_1 s m args below meth c φ tc D LA 8 (kc + 1) (ks + 6) Q 1892 [(0, .ref 800), (1, .ref 0), (2, .ref 358), (3, .ref 410), (4, .int i)] [] μ) {μ : MM} (h : Glaw_6 v1 v2 v3 v4 v5 μ Kk) : WX p l e room_1 s m args below meth c φ tc D LA 8 kc ks Q 561 [(0, .ref 800), (1, .ref 0), (2, .ref 358), (3, .ref 410), (4, .int i)] [] μ := by
  have hk0 : kc ≤ room_1.cells ∧ ks ≤ room_1.slots := ⟨by omega, by omega⟩
  unfold Glaw_6 at h
  refine x_aload_n C rfl 1 rfl dL_law_561 ?_
  refine x_aload_n C rfl 0 rfl dL_law_562 ?_
  refine x_iload C 4 rfl dL_law_563 ?_
  refine x_iconst (v := 1) C (by decide) dL_law_565 ?_
  refine x_iadd C dL_law_566 ?_
  refine x_sld C hX hbl hbA a1 e1 dL_law_567 ?_
  refine x_callV (dC := G11_end_dep) (as := [.int v1]) (st := []) C rL hk0 (Nat.le_trans (Nat.le_of_ble_eq_true rfl) (Nat.le_refl 840)) (Nat.le_of_ble_eq_true rfl) ob0.1 ob0.2 (Nat.le_of_ble_eq_true rfl) rfl tw_3_28 tw_3_27 tw_3_26 tc_3_29 tw_1_1 hyX11 hnX11_end rfl (Nat.le_of_ble_eq_true rfl) dL_law_568 (G11_end_met C.2.2.2.2.2.2.2.1 (Nat.le_refl _)  h) (fun r0 μ35 hq => ?_)
  obtain ⟨r36, rfl, h⟩ := hq
  refine x_st [.int r36] rfl ?_
  refine x_aload_n C rfl 2 rfl dL_law_571 ?_
  refine x_aload_n C rfl 0 rfl dL_law_572 ?_
  refine x_iload C 4 rfl dL_law_573 ?_
  refine x_iconst (v := 1) C (by decide) dL_law_575 ?_
  refine x_iadd C dL_law_576 ?_
  refine x_sld C hX hbl hbA a1 e1 dL_law_577 ?_
  refine x_callV (dC := G12_end_dep) (as := [.int v1]) (st := [.int r36]) C rL hk0 (Nat.le_trans (Nat.le_of_ble_eq_true rfl) (Nat.le_refl 840)) (Nat.le_of_ble_eq_true rfl) ob358.1 ob358.2 (Nat.le_of_ble_eq_true rfl) rfl tw_7_14 tw_7_13 tw_7_12 tc_7_15 tw_1_13 hyX12 hnX12_end rfl (Nat.le_of_ble_eq_true rfl) dL_law_578 (G12_end_met C.2.2.2.2.2.2.2.1 (Nat.le_refl _)  h) (fun r0 μ37 hq => ?_)
  obtain ⟨r38, rfl, h⟩ := hq
  refine x_st [.int r38, .int r36] rfl ?_
  refine x_icmp_eq (tgt := 1892) C dL_law_581 (by decide) (fun c39 => ?_) (fun c39 => ?_)
  · have h := h.1 c39
    refine x_widen (Nat.le_add_right _ 1) (Nat.le_add_right _ 6) ?_
    exact K _ h
  · have h := h.2 c39
    refine x_iconst (v := 0) C (by decide) dL_law_584 ?_
    exact h.elim
set_option maxHeartbeats 4000000 in
set_option maxRecDepth 100000 in
theorem law_7 (hfl : l.stackTraces = false) (C : CX p s m args meth c φ tc D LA s0 code RL 8) {b L : Nat} {xs : Nat → Int32} (hX : va_X b L xs s s.heap) (hbl : b < s.heap.size) (hbA : φ 800 = b ∧ ¬ LA b) (hkc : kc + 1 ≤ room_1.cells ∧ ks + 6 ≤ room_1.slots) {i v1 v2 v3 v4 v5 : Int32} (a1 : vp_in (i + 1) L) (a2 : vp_in (i + 2) L) (a3 : vp_in (i + 3) L) (a4 : vp_in (i + 4) L) (a5 : vp_in (i + 5) L) (e1 : xs (i + 1).toNatClampNeg = v1) (e2 : xs (i + 2).toNatClampNeg = v2) (e3 : xs (i + 3).toNatClampNeg = v3) (e4 : xs (i + 4).toNatClampNeg = v4) (e5 : xs (i + 5).toNatClampNeg = v5) {Kk : MM → Prop} (K : ∀ μ, Kk μ → WX p l e room_1 s m args below meth c φ tc D LA 8 (kc + 1) (ks + 6) Q 1892 [(0, .ref 800), (1, .ref 0), (2, .ref 358), (3, .ref 410), (4, .int i)] [] μ) {μ : MM} (h : Glaw_7 v1 v2 v3 v4 v5 μ Kk) : WX p l e room_1 s m args below meth c φ tc D LA 8 kc ks Q 586 [(0, .ref 800), (1, .ref 0), (2, .ref 358), (3, .ref 410), (4, .int i)] [] μ := by
  have hk0 : kc ≤ room_1.cells ∧ ks ≤ room_1.slots := ⟨by omega, by omega⟩
  unfold Glaw_7 at h
  refine x_aload_n C rfl 1 rfl dL_law_586 ?_
  refine x_aload_n C rfl 0 rfl dL_law_587 ?_
  refine x_iload C 4 rfl dL_law_588 ?_
  refine x_iconst (v := 1) C (by decide) dL_law_590 ?_
  refine x_iadd C dL_law_591 ?_
  refine x_sld C hX hbl hbA a1 e1 dL_law_592 ?_
  refine x_callV (dC := G11_law_dep) (as := [.int v1]) (st := []) C rL hk0 (Nat.le_trans (Nat.le_of_ble_eq_true rfl) (Nat.le_refl 840)) (Nat.le_of_ble_eq_true rfl) ob0.1 ob0.2 (Nat.le_of_ble_eq_true rfl) rfl tw_3_32 tw_3_31 tw_3_30 tc_3_33 tw_1_1 hyX11 hnX11_law rfl (Nat.le_of_ble_eq_true rfl) dL_law_593 (G11_law_met C.2.2.2.2.2.2.2.1 (Nat.le_refl _)  h) (fun r0 μ40 hq => ?_)
  obtain ⟨r41, rfl, h⟩ := hq
  refine x_st [.int r41] rfl ?_
  refine x_aload_n C rfl 2 rfl dL_law_596 ?_
  refine x_aload_n C rfl 0 rfl dL_law_597 ?_
  refine x_iload C 4 rfl dL_law_598 ?_
  refine x_iconst (v := 1) C (by decide) dL_law_600 ?_
  refine x_iadd C dL_law_601 ?_
  refine x_sld C hX hbl hbA a1 e1 dL_law_602 ?_
  refine x_callV (dC := G12_law_dep) (as := [.int v1]) (st := [.int r41]) C rL hk0 (Nat.le_trans (Nat.le_of_ble_eq_true rfl) (Nat.le_refl 840)) (Nat.le_of_ble_eq_true rfl) ob358.1 ob358.2 (Nat.le_of_ble_eq_true rfl) rfl tw_7_18 tw_7_17 tw_7_16 tc_7_19 tw_1_13 hyX12 hnX12_law rfl (Nat.le_of_ble_eq_true rfl) dL_law_603 (G12_law_met C.2.2.2.2.2.2.2.1 (Nat.le_refl _)  h) (fun r0 μ42 hq => ?_)
  obtain ⟨r43, rfl, h⟩ := hq
  refine x_st [.int r43, .int r41] rfl ?_
  refine x_icmp_eq (tgt := 1892) C dL_law_606 (by decide) (fun c44 => ?_) (fun c44 => ?_)
  · have h := h.1 c44
    refine x_widen (Nat.le_add_right _ 1) (Nat.le_add_right _ 6) ?_
    exact K _ h
  · have h := h.2 c44
    refine x_iconst (v := 0) C (by decide) dL_law_609 ?_
    exact h.elim
set_option maxHeartbeats 4000000 in
set_option maxRecDepth 100000 in
theorem law_8 (hfl : l.stackTraces = false) (C : CX p s m args meth c φ tc D LA s0 code RL 8) {b L : Nat} {xs : Nat → Int32} (hX : va_X b L xs s s.heap) (hbl : b < s.heap.size) (hbA : φ 800 = b ∧ ¬ LA b) (hkc : kc + 1 ≤ room_1.cells ∧ ks + 6 ≤ room_1.slots) {i v1 v2 v3 v4 v5 : Int32} (a1 : vp_in (i + 1) L) (a2 : vp_in (i + 2) L) (a3 : vp_in (i + 3) L) (a4 : vp_in (i + 4) L) (a5 : vp_in (i + 5) L) (e1 : xs (i + 1).toNatClampNeg = v1) (e2 : xs (i + 2).toNatClampNeg = v2) (e3 : xs (i + 3).toNatClampNeg = v3) (e4 : xs (i + 4).toNatClampNeg = v4) (e5 : xs (i + 5).toNatClampNeg = v5) {Kk : MM → Prop} (K : ∀ μ, Kk μ → WX p l e room_1 s m args below meth c φ tc D LA 8 (kc + 1) (ks + 6) Q 1892 [(0, .ref 800), (1, .ref 0), (2, .ref 358), (3, .ref 410), (4, .int i)] [] μ) {μ : MM} (h : Glaw_8 v1 v2 v3 v4 v5 μ Kk) : WX p l e room_1 s m args below meth c φ tc D LA 8 kc ks Q 611 [(0, .ref 800), (1, .ref 0), (2, .ref 358), (3, .ref 410), (4, .int i)] [] μ := by
  have hk0 : kc ≤ room_1.cells ∧ ks ≤ room_1.slots := ⟨by omega, by omega⟩
  unfold Glaw_8 at h
  refine x_aload_n C rfl 1 rfl dL_law_611 ?_
  refine x_aload_n C rfl 0 rfl dL_law_612 ?_
  refine x_iload C 4 rfl dL_law_613 ?_
  refine x_iconst (v := 1) C (by decide) dL_law_615 ?_
  refine x_iadd C dL_law_616 ?_
  refine x_sld C hX hbl hbA a1 e1 dL_law_617 ?_
  refine x_callV (dC := G11_filter_dep) (as := [.int v1]) (st := []) C rL hk0 (Nat.le_trans (Nat.le_of_ble_eq_true rfl) (Nat.le_refl 840)) (Nat.le_of_ble_eq_true rfl) ob0.1 ob0.2 (Nat.le_of_ble_eq_true rfl) rfl tw_3_168 tw_3_167 tw_3_166 tc_3_169 tw_1_1 hyX11 hnX11_filter rfl (Nat.le_of_ble_eq_true rfl) dL_law_618 (G11_filter_met C.2.2.2.2.2.2.2.1 (Nat.le_refl _)  h) (fun r0 μ45 hq => ?_)
  obtain ⟨r46, rfl, h⟩ := hq
  refine x_st [.int r46] rfl ?_
  refine x_aload_n C rfl 2 rfl dL_law_621 ?_
  refine x_aload_n C rfl 0 rfl dL_law_622 ?_
  refine x_iload C 4 rfl dL_law_623 ?_
  refine x_iconst (v := 1) C (by decide) dL_law_625 ?_
  refine x_iadd C dL_law_626 ?_
  refine x_sld C hX hbl hbA a1 e1 dL_law_627 ?_
  refine x_callV (dC := G12_filter_dep) (as := [.int v1]) (st := [.int r46]) C rL hk0 (Nat.le_trans (Nat.le_of_ble_eq_true rfl) (Nat.le_refl 840)) (Nat.le_of_ble_eq_true rfl) ob358.1 ob358.2 (Nat.le_of_ble_eq_true rfl) rfl tw_7_84 tw_7_83 tw_7_82 tc_7_85 tw_1_13 hyX12 hnX12_filter rfl (Nat.le_of_ble_eq_true rfl) dL_law_628 (G12_filter_met C.2.2.2.2.2.2.2.1 (Nat.le_refl _)  h) (fun r0 μ47 hq => ?_)
  obtain ⟨r48, rfl, h⟩ := hq
  refine x_st [.int r48, .int r46] rfl ?_
  refine x_icmp_eq (tgt := 1892) C dL_law_631 (by decide) (fun c49 => ?_) (fun c49 => ?_)
  · have h := h.1 c49
    refine x_widen (Nat.le_add_right _ 1) (Nat.le_add_right _ 6) ?_
    exact K _ h
  · have h := h.2 c49
    refine x_iconst (v := 0) C (by decide) dL_law_634 ?_
    exact h.elim
set_option maxHeartbeats 4000000 in
set_option maxRecDepth 100000 in
theorem law_9 (hfl : l.stackTraces = false) (C : CX p s m args meth c φ tc D LA s0 code RL 8) {b L : Nat} {xs : Nat → Int32} (hX : va_X b L xs s s.heap) (hbl : b < s.heap.size) (hbA : φ 800 = b ∧ ¬ LA b) (hkc : kc + 1 ≤ room_1.cells ∧ ks + 6 ≤ room_1.slots) {i v1 v2 v3 v4 v5 : Int32} (a1 : vp_in (i + 1) L) (a2 : vp_in (i + 2) L) (a3 : vp_in (i + 3) L) (a4 : vp_in (i + 4) L) (a5 : vp_in (i + 5) L) (e1 : xs (i + 1).toNatClampNeg = v1) (e2 : xs (i + 2).toNatClampNeg = v2) (e3 : xs (i + 3).toNatClampNeg = v3) (e4 : xs (i + 4).toNatClampNeg = v4) (e5 : xs (i + 5).toNatClampNeg = v5) {Kk : MM → Prop} (K : ∀ μ, Kk μ → WX p l e room_1 s m args below meth c φ tc D LA 8 (kc + 1) (ks + 6) Q 1892 [(0, .ref 800), (1, .ref 0), (2, .ref 358), (3, .ref 410), (4, .int i)] [] μ) {μ : MM} (h : Glaw_9 v1 v2 v3 v4 v5 μ Kk) : WX p l e room_1 s m args below meth c φ tc D LA 8 kc ks Q 636 [(0, .ref 800), (1, .ref 0), (2, .ref 358), (3, .ref 410), (4, .int i)] [] μ := by
  have hk0 : kc ≤ room_1.cells ∧ ks ≤ room_1.slots := ⟨by omega, by omega⟩
  unfold Glaw_9 at h
  refine x_aload_n C rfl 1 rfl dL_law_636 ?_
  refine x_aload_n C rfl 0 rfl dL_law_637 ?_
  refine x_iload C 4 rfl dL_law_638 ?_
  refine x_iconst (v := 1) C (by decide) dL_law_640 ?_
  refine x_iadd C dL_law_641 ?_
  refine x_sld C hX hbl hbA a1 e1 dL_law_642 ?_
  refine x_aload_n C rfl 0 rfl dL_law_643 ?_
  refine x_iload C 4 rfl dL_law_644 ?_
  refine x_iconst (v := 2) C (by decide) dL_law_646 ?_
  refine x_iadd C dL_law_647 ?_
  refine x_sld C hX hbl hbA a2 e2 dL_law_648 ?_
  refine x_aload_n C rfl 3 rfl dL_law_649 ?_
  refine x_callSH (dC := G11_value_dep + 1) (as := [.ref 0, .int v1, .int v2, .ref 410]) (st := []) C rL hkc (Nat.le_of_ble_eq_true rfl) (Nat.le_of_ble_eq_true rfl) tw_6_157 tw_6_156 th_value tw_1_0 hyL hnL_value rfl (Nat.le_of_ble_eq_true rfl) dL_law_650 (GL_value_met hfl C.2.2.2.2.2.2.2.1 (Nat.le_refl _) h) (fun r0 μ51 hq => ?_)
  obtain ⟨r50, rfl, h⟩ := hq
  refine x_st [.int r50] rfl ?_
  refine x_istore C [(5, .int r50), (0, .ref 800), (1, .ref 0), (2, .ref 358), (3, .ref 410), (4, .int i)] (Nat.le_of_ble_eq_true rfl) rfl dL_law_653 ?_
  refine x_aload_n C rfl 3 rfl dL_law_655 ?_
  refine x_aload_n C rfl 1 rfl dL_law_656 ?_
  refine x_iload C 5 rfl dL_law_657 ?_
  refine x_iconst (v := 1) C (by decide) dL_law_659 ?_
  refine x_iadd C dL_law_660 ?_
  refine x_sld C hX hbl hbA a1 e1 dL_law_661 ?_
  refine x_aload_n C rfl 1 rfl dL_law_662 ?_
  refine x_iload C 5 rfl dL_law_663 ?_
  refine x_iconst (v := 2) C (by decide) dL_law_665 ?_
  refine x_iadd C dL_law_666 ?_
  refine x_sld C hX hbl hbA a2 e2 dL_law_667 ?_
  refine x_callV (dC := G12_value_dep) (as := [.int v1, .int v2]) (st := []) C rL hkc (Nat.le_trans (Nat.le_of_ble_eq_true rfl) (Nat.le_refl 840)) (Nat.le_of_ble_eq_true rfl) ob358.1 ob358.2 (Nat.le_of_ble_eq_true rfl) rfl tw_7_88 tw_7_87 tw_7_86 tc_7_89 tw_1_13 hyX12 hnX12_value rfl (Nat.le_of_ble_eq_true rfl) dL_law_668 (G12_value_met C.2.2.2.2.2.2.2.1 (Nat.le_refl _)  h) (fun r0 μ52 hq => ?_)
  obtain ⟨r53, rfl, h⟩ := hq
  refine x_st [.int r53] rfl ?_
  refine x_istore C [(6, .int r53), (5, .int r50), (0, .ref 800), (1, .ref 0), (2, .ref 358), (3, .ref 410), (4, .int i)] (Nat.le_of_ble_eq_true rfl) rfl dL_law_671 ?_
  refine x_aload_n C rfl 4 rfl dL_law_673 ?_
  refine x_callV (dC := G12_thrown_dep) (as := []) (st := []) C rL hkc (Nat.le_trans (Nat.le_of_ble_eq_true rfl) (Nat.le_refl 840)) (Nat.le_of_ble_eq_true rfl) ob358.1 ob358.2 (Nat.le_of_ble_eq_true rfl) rfl tw_6_176 tw_6_175 tw_6_174 tc_6_177 tw_1_13 hyX12 hnX12_thrown rfl (Nat.le_of_ble_eq_true rfl) dL_law_674 (G12_thrown_met C.2.2.2.2.2.2.2.1 (Nat.le_refl _)  h) (fun r0 μ54 hq => ?_)
  obtain ⟨r55, rfl, h⟩ := hq
  refine x_st [.int r55] rfl ?_
  refine x_iload C 1 rfl dL_law_677 ?_
  refine x_icmp_eq (tgt := 684) C dL_law_679 (by decide) (fun c56 => ?_) (fun c56 => ?_)
  · have h := h.1 c56
    refine x_iload C 1 rfl dL_law_684 ?_
    refine x_if_ne (tgt := 701) C dL_law_686 (by decide) (fun c57 => ?_) (fun c57 => ?_)
    · have h := h.1 c57
      refine x_goto (tgt := 1892) C dL_law_701 (by decide) ?_
      refine x_sub [(0, .ref 800), (1, .ref 0), (2, .ref 358), (3, .ref 410), (4, .int i)] [2, 3, 4, 5, 6] rfl ?_
      exact K _ h
    · have h := h.2 c57
      refine x_aload_n C rfl 5 rfl dL_law_689 ?_
      refine x_iconst (v := 0) C (by decide) dL_law_690 ?_
      refine x_lald C ob410.1 ob410.2 (by unfold vp_in; decide) (j := 0) (by decide) dL_law_691 ?_
      refine x_iload C 0 rfl dL_law_692 ?_
      refine x_i2l C dL_law_694 ?_
      refine x_lcmp C dL_law_695 ?_
      refine x_if_eq (tgt := 701) C dL_law_696 (by decide) (fun c58 => ?_) (fun c58 => ?_)
      · have h := h.1 c58
        refine x_goto (tgt := 1892) C dL_law_701 (by decide) ?_
        refine x_sub [(0, .ref 800), (1, .ref 0), (2, .ref 358), (3, .ref 410), (4, .int i)] [2, 3, 4, 5, 6] rfl ?_
        exact K _ h
      · have h := h.2 c58
        refine x_iconst (v := 0) C (by decide) dL_law_699 ?_
        exact h.elim
  · have h := h.2 c56
    refine x_iconst (v := 0) C (by decide) dL_law_682 ?_
    exact h.elim
set_option maxHeartbeats 4000000 in
set_option maxRecDepth 100000 in
theorem law_10 (hfl : l.stackTraces = false) (C : CX p s m args meth c φ tc D LA s0 code RL 8) {b L : Nat} {xs : Nat → Int32} (hX : va_X b L xs s s.heap) (hbl : b < s.heap.size) (hbA : φ 800 = b ∧ ¬ LA b) (hkc : kc + 1 ≤ room_1.cells ∧ ks + 6 ≤ room_1.slots) {i v1 v2 v3 v4 v5 : Int32} (a1 : vp_in (i + 1) L) (a2 : vp_in (i + 2) L) (a3 : vp_in (i + 3) L) (a4 : vp_in (i + 4) L) (a5 : vp_in (i + 5) L) (e1 : xs (i + 1).toNatClampNeg = v1) (e2 : xs (i + 2).toNatClampNeg = v2) (e3 : xs (i + 3).toNatClampNeg = v3) (e4 : xs (i + 4).toNatClampNeg = v4) (e5 : xs (i + 5).toNatClampNeg = v5) {Kk : MM → Prop} (K : ∀ μ, Kk μ → WX p l e room_1 s m args below meth c φ tc D LA 8 (kc + 1) (ks + 6) Q 1892 [(0, .ref 800), (1, .ref 0), (2, .ref 358), (3, .ref 410), (4, .int i)] [] μ) {μ : MM} (h : Glaw_10 v1 v2 v3 v4 v5 μ Kk) : WX p l e room_1 s m args below meth c φ tc D LA 8 kc ks Q 704 [(0, .ref 800), (1, .ref 0), (2, .ref 358), (3, .ref 410), (4, .int i)] [] μ := by
  have hk0 : kc ≤ room_1.cells ∧ ks ≤ room_1.slots := ⟨by omega, by omega⟩
  unfold Glaw_10 at h
  refine x_aload_n C rfl 1 rfl dL_law_704 ?_
  refine x_aload_n C rfl 0 rfl dL_law_705 ?_
  refine x_iload C 4 rfl dL_law_706 ?_
  refine x_iconst (v := 1) C (by decide) dL_law_708 ?_
  refine x_iadd C dL_law_709 ?_
  refine x_sld C hX hbl hbA a1 e1 dL_law_710 ?_
  refine x_callV (dC := G11_read_dep) (as := [.int v1]) (st := []) C rL hk0 (Nat.le_trans (Nat.le_of_ble_eq_true rfl) (Nat.le_refl 840)) (Nat.le_of_ble_eq_true rfl) ob0.1 ob0.2 (Nat.le_of_ble_eq_true rfl) rfl tw_3_172 tw_3_171 tw_3_170 tc_3_173 tw_1_1 hyX11 hnX11_read rfl (Nat.le_of_ble_eq_true rfl) dL_law_711 (G11_read_met C.2.2.2.2.2.2.2.1 (Nat.le_refl _)  h) (fun r0 μ59 hq => ?_)
  obtain ⟨r60, rfl, h⟩ := hq
  refine x_st [.int r60] rfl ?_
  refine x_aload_n C rfl 2 rfl dL_law_714 ?_
  refine x_aload_n C rfl 0 rfl dL_law_715 ?_
  refine x_iload C 4 rfl dL_law_716 ?_
  refine x_iconst (v := 1) C (by decide) dL_law_718 ?_
  refine x_iadd C dL_law_719 ?_
  refine x_sld C hX hbl hbA a1 e1 dL_law_720 ?_
  refine x_callV (dC := G12_read_dep) (as := [.int v1]) (st := [.int r60]) C rL hk0 (Nat.le_trans (Nat.le_of_ble_eq_true rfl) (Nat.le_refl 840)) (Nat.le_of_ble_eq_true rfl) ob358.1 ob358.2 (Nat.le_of_ble_eq_true rfl) rfl tw_7_112 tw_7_111 tw_7_110 tc_7_113 tw_1_13 hyX12 hnX12_read rfl (Nat.le_of_ble_eq_true rfl) dL_law_721 (G12_read_met C.2.2.2.2.2.2.2.1 (Nat.le_refl _)  h) (fun r0 μ61 hq => ?_)
  obtain ⟨r62, rfl, h⟩ := hq
  refine x_st [.int r62, .int r60] rfl ?_
  refine x_icmp_eq (tgt := 1892) C dL_law_724 (by decide) (fun c63 => ?_) (fun c63 => ?_)
  · have h := h.1 c63
    refine x_widen (Nat.le_add_right _ 1) (Nat.le_add_right _ 6) ?_
    exact K _ h
  · have h := h.2 c63
    refine x_iconst (v := 0) C (by decide) dL_law_727 ?_
    exact h.elim
set_option maxHeartbeats 4000000 in
set_option maxRecDepth 100000 in
theorem law_11 (hfl : l.stackTraces = false) (C : CX p s m args meth c φ tc D LA s0 code RL 8) {b L : Nat} {xs : Nat → Int32} (hX : va_X b L xs s s.heap) (hbl : b < s.heap.size) (hbA : φ 800 = b ∧ ¬ LA b) (hkc : kc + 1 ≤ room_1.cells ∧ ks + 6 ≤ room_1.slots) {i v1 v2 v3 v4 v5 : Int32} (a1 : vp_in (i + 1) L) (a2 : vp_in (i + 2) L) (a3 : vp_in (i + 3) L) (a4 : vp_in (i + 4) L) (a5 : vp_in (i + 5) L) (e1 : xs (i + 1).toNatClampNeg = v1) (e2 : xs (i + 2).toNatClampNeg = v2) (e3 : xs (i + 3).toNatClampNeg = v3) (e4 : xs (i + 4).toNatClampNeg = v4) (e5 : xs (i + 5).toNatClampNeg = v5) {Kk : MM → Prop} (K : ∀ μ, Kk μ → WX p l e room_1 s m args below meth c φ tc D LA 8 (kc + 1) (ks + 6) Q 1892 [(0, .ref 800), (1, .ref 0), (2, .ref 358), (3, .ref 410), (4, .int i)] [] μ) {μ : MM} (h : Glaw_11 v1 v2 v3 v4 v5 μ Kk) : WX p l e room_1 s m args below meth c φ tc D LA 8 kc ks Q 729 [(0, .ref 800), (1, .ref 0), (2, .ref 358), (3, .ref 410), (4, .int i)] [] μ := by
  have hk0 : kc ≤ room_1.cells ∧ ks ≤ room_1.slots := ⟨by omega, by omega⟩
  unfold Glaw_11 at h
  refine x_aload_n C rfl 1 rfl dL_law_729 ?_
  refine x_aload_n C rfl 0 rfl dL_law_730 ?_
  refine x_iload C 4 rfl dL_law_731 ?_
  refine x_iconst (v := 1) C (by decide) dL_law_733 ?_
  refine x_iadd C dL_law_734 ?_
  refine x_sld C hX hbl hbA a1 e1 dL_law_735 ?_
  refine x_aload_n C rfl 0 rfl dL_law_736 ?_
  refine x_iload C 4 rfl dL_law_737 ?_
  refine x_iconst (v := 2) C (by decide) dL_law_739 ?_
  refine x_iadd C dL_law_740 ?_
  refine x_sld C hX hbl hbA a2 e2 dL_law_741 ?_
  refine x_if_eq (tgt := 749) C dL_law_742 (by decide) (fun c64 => ?_) (fun c64 => ?_)
  · have h := h.1 c64
    refine x_iconst (v := 0) C (by decide) dL_law_749 ?_
    refine x_callV (dC := G11_ring_dep) (as := [.int v1, .int 0]) (st := []) C rL hk0 (Nat.le_trans (Nat.le_of_ble_eq_true rfl) (Nat.le_refl 840)) (Nat.le_of_ble_eq_true rfl) ob0.1 ob0.2 (Nat.le_of_ble_eq_true rfl) rfl tw_3_224 tw_3_223 tw_3_222 tc_3_225 tw_1_1 hyX11 hnX11_ring rfl (Nat.le_of_ble_eq_true rfl) dL_law_750 (G11_ring_met C.2.2.2.2.2.2.2.1 (Nat.le_refl _)  h) (fun r0 μ65 hq => ?_)
    obtain ⟨r66, rfl, h⟩ := hq
    refine x_st [.int r66] rfl ?_
    refine x_aload_n C rfl 2 rfl dL_law_753 ?_
    refine x_aload_n C rfl 0 rfl dL_law_754 ?_
    refine x_iload C 4 rfl dL_law_755 ?_
    refine x_iconst (v := 1) C (by decide) dL_law_757 ?_
    refine x_iadd C dL_law_758 ?_
    refine x_sld C hX hbl hbA a1 e1 dL_law_759 ?_
    refine x_aload_n C rfl 0 rfl dL_law_760 ?_
    refine x_iload C 4 rfl dL_law_761 ?_
    refine x_iconst (v := 2) C (by decide) dL_law_763 ?_
    refine x_iadd C dL_law_764 ?_
    refine x_sld C hX hbl hbA a2 e2 dL_law_765 ?_
    refine x_if_eq (tgt := 773) C dL_law_766 (by decide) (fun c67 => ?_) (fun c67 => ?_)
    · have h := h.1 c67
      refine x_iconst (v := 0) C (by decide) dL_law_773 ?_
      refine x_callV (dC := G12_ring_dep) (as := [.int v1, .int 0]) (st := [.int r66]) C rL hk0 (Nat.le_trans (Nat.le_of_ble_eq_true rfl) (Nat.le_refl 840)) (Nat.le_of_ble_eq_true rfl) ob358.1 ob358.2 (Nat.le_of_ble_eq_true rfl) rfl tw_7_117 tw_7_116 tw_7_115 tc_7_118 tw_1_13 hyX12 hnX12_ring rfl (Nat.le_of_ble_eq_true rfl) dL_law_774 (G12_ring_met C.2.2.2.2.2.2.2.1 (Nat.le_refl _)  h) (fun r0 μ68 hq => ?_)
      obtain ⟨r69, rfl, h⟩ := hq
      refine x_st [.int r69, .int r66] rfl ?_
      refine x_icmp_eq (tgt := 1892) C dL_law_777 (by decide) (fun c70 => ?_) (fun c70 => ?_)
      · have h := h.1 c70
        refine x_widen (Nat.le_add_right _ 1) (Nat.le_add_right _ 6) ?_
        exact K _ h
      · have h := h.2 c70
        refine x_iconst (v := 0) C (by decide) dL_law_780 ?_
        exact h.elim
    · have h := h.2 c67
      refine x_iconst (v := 1) C (by decide) dL_law_769 ?_
      refine x_goto (tgt := 774) C dL_law_770 (by decide) ?_
      refine x_callV (dC := G12_ring_dep) (as := [.int v1, .int 1]) (st := [.int r66]) C rL hk0 (Nat.le_trans (Nat.le_of_ble_eq_true rfl) (Nat.le_refl 840)) (Nat.le_of_ble_eq_true rfl) ob358.1 ob358.2 (Nat.le_of_ble_eq_true rfl) rfl tw_7_117 tw_7_116 tw_7_115 tc_7_118 tw_1_13 hyX12 hnX12_ring rfl (Nat.le_of_ble_eq_true rfl) dL_law_774 (G12_ring_met C.2.2.2.2.2.2.2.1 (Nat.le_refl _)  h) (fun r0 μ71 hq => ?_)
      obtain ⟨r72, rfl, h⟩ := hq
      refine x_st [.int r72, .int r66] rfl ?_
      refine x_icmp_eq (tgt := 1892) C dL_law_777 (by decide) (fun c73 => ?_) (fun c73 => ?_)
      · have h := h.1 c73
        refine x_widen (Nat.le_add_right _ 1) (Nat.le_add_right _ 6) ?_
        exact K _ h
      · have h := h.2 c73
        refine x_iconst (v := 0) C (by decide) dL_law_780 ?_
        exact h.elim
  · have h := h.2 c64
    refine x_iconst (v := 1) C (by decide) dL_law_745 ?_
    refine x_goto (tgt := 750) C dL_law_746 (by decide) ?_
    refine x_callV (dC := G11_ring_dep) (as := [.int v1, .int 1]) (st := []) C rL hk0 (Nat.le_trans (Nat.le_of_ble_eq_true rfl) (Nat.le_refl 840)) (Nat.le_of_ble_eq_true rfl) ob0.1 ob0.2 (Nat.le_of_ble_eq_true rfl) rfl tw_3_224 tw_3_223 tw_3_222 tc_3_225 tw_1_1 hyX11 hnX11_ring rfl (Nat.le_of_ble_eq_true rfl) dL_law_750 (G11_ring_met C.2.2.2.2.2.2.2.1 (Nat.le_refl _)  h) (fun r0 μ74 hq => ?_)
    obtain ⟨r75, rfl, h⟩ := hq
    refine x_st [.int r75] rfl ?_
    refine x_aload_n C rfl 2 rfl dL_law_753 ?_
    refine x_aload_n C rfl 0 rfl dL_law_754 ?_
    refine x_iload C 4 rfl dL_law_755 ?_
    refine x_iconst (v := 1) C (by decide) dL_law_757 ?_
    refine x_iadd C dL_law_758 ?_
    refine x_sld C hX hbl hbA a1 e1 dL_law_759 ?_
    refine x_aload_n C rfl 0 rfl dL_law_760 ?_
    refine x_iload C 4 rfl dL_law_761 ?_
    refine x_iconst (v := 2) C (by decide) dL_law_763 ?_
    refine x_iadd C dL_law_764 ?_
    refine x_sld C hX hbl hbA a2 e2 dL_law_765 ?_
    refine x_if_eq (tgt := 773) C dL_law_766 (by decide) (fun c76 => ?_) (fun c76 => ?_)
    · have h := h.1 c76
      refine x_iconst (v := 0) C (by decide) dL_law_773 ?_
      refine x_callV (dC := G12_ring_dep) (as := [.int v1, .int 0]) (st := [.int r75]) C rL hk0 (Nat.le_trans (Nat.le_of_ble_eq_true rfl) (Nat.le_refl 840)) (Nat.le_of_ble_eq_true rfl) ob358.1 ob358.2 (Nat.le_of_ble_eq_true rfl) rfl tw_7_117 tw_7_116 tw_7_115 tc_7_118 tw_1_13 hyX12 hnX12_ring rfl (Nat.le_of_ble_eq_true rfl) dL_law_774 (G12_ring_met C.2.2.2.2.2.2.2.1 (Nat.le_refl _)  h) (fun r0 μ77 hq => ?_)
      obtain ⟨r78, rfl, h⟩ := hq
      refine x_st [.int r78, .int r75] rfl ?_
      refine x_icmp_eq (tgt := 1892) C dL_law_777 (by decide) (fun c79 => ?_) (fun c79 => ?_)
      · have h := h.1 c79
        refine x_widen (Nat.le_add_right _ 1) (Nat.le_add_right _ 6) ?_
        exact K _ h
      · have h := h.2 c79
        refine x_iconst (v := 0) C (by decide) dL_law_780 ?_
        exact h.elim
    · have h := h.2 c76
      refine x_iconst (v := 1) C (by decide) dL_law_769 ?_
      refine x_goto (tgt := 774) C dL_law_770 (by decide) ?_
      refine x_callV (dC := G12_ring_dep) (as := [.int v1, .int 1]) (st := [.int r75]) C rL hk0 (Nat.le_trans (Nat.le_of_ble_eq_true rfl) (Nat.le_refl 840)) (Nat.le_of_ble_eq_true rfl) ob358.1 ob358.2 (Nat.le_of_ble_eq_true rfl) rfl tw_7_117 tw_7_116 tw_7_115 tc_7_118 tw_1_13 hyX12 hnX12_ring rfl (Nat.le_of_ble_eq_true rfl) dL_law_774 (G12_ring_met C.2.2.2.2.2.2.2.1 (Nat.le_refl _)  h) (fun r0 μ80 hq => ?_)
      obtain ⟨r81, rfl, h⟩ := hq
      refine x_st [.int r81, .int r75] rfl ?_
      refine x_icmp_eq (tgt := 1892) C dL_law_777 (by decide) (fun c82 => ?_) (fun c82 => ?_)
      · have h := h.1 c82
        refine x_widen (Nat.le_add_right _ 1) (Nat.le_add_right _ 6) ?_
        exact K _ h
      · have h := h.2 c82
        refine x_iconst (v := 0) C (by decide) dL_law_780 ?_
        exact h.elim
set_option maxHeartbeats 4000000 in
set_option maxRecDepth 100000 in
theorem law_12 (hfl : l.stackTraces = false) (C : CX p s m args meth c φ tc D LA s0 code RL 8) {b L : Nat} {xs : Nat → Int32} (hX : va_X b L xs s s.heap) (hbl : b < s.heap.size) (hbA : φ 800 = b ∧ ¬ LA b) (hkc : kc + 1 ≤ room_1.cells ∧ ks + 6 ≤ room_1.slots) {i v1 v2 v3 v4 v5 : Int32} (a1 : vp_in (i + 1) L) (a2 : vp_in (i + 2) L) (a3 : vp_in (i + 3) L) (a4 : vp_in (i + 4) L) (a5 : vp_in (i + 5) L) (e1 : xs (i + 1).toNatClampNeg = v1) (e2 : xs (i + 2).toNatClampNeg = v2) (e3 : xs (i + 3).toNatClampNeg = v3) (e4 : xs (i + 4).toNatClampNeg = v4) (e5 : xs (i + 5).toNatClampNeg = v5) {Kk : MM → Prop} (K : ∀ μ, Kk μ → WX p l e room_1 s m args below meth c φ tc D LA 8 (kc + 1) (ks + 6) Q 1892 [(0, .ref 800), (1, .ref 0), (2, .ref 358), (3, .ref 410), (4, .int i)] [] μ) {μ : MM} (h : Glaw_12 v1 v2 v3 v4 v5 μ Kk) : WX p l e room_1 s m args below meth c φ tc D LA 8 kc ks Q 782 [(0, .ref 800), (1, .ref 0), (2, .ref 358), (3, .ref 410), (4, .int i)] [] μ := by
  have hk0 : kc ≤ room_1.cells ∧ ks ≤ room_1.slots := ⟨by omega, by omega⟩
  unfold Glaw_12 at h
  refine x_aload_n C rfl 1 rfl dL_law_782 ?_
  refine x_aload_n C rfl 0 rfl dL_law_783 ?_
  refine x_iload C 4 rfl dL_law_784 ?_
  refine x_iconst (v := 1) C (by decide) dL_law_786 ?_
  refine x_iadd C dL_law_787 ?_
  refine x_sld C hX hbl hbA a1 e1 dL_law_788 ?_
  refine x_aload_n C rfl 0 rfl dL_law_789 ?_
  refine x_iload C 4 rfl dL_law_790 ?_
  refine x_iconst (v := 2) C (by decide) dL_law_792 ?_
  refine x_iadd C dL_law_793 ?_
  refine x_sld C hX hbl hbA a2 e2 dL_law_794 ?_
  refine x_aload_n C rfl 0 rfl dL_law_795 ?_
  refine x_iload C 4 rfl dL_law_796 ?_
  refine x_iconst (v := 3) C (by decide) dL_law_798 ?_
  refine x_iadd C dL_law_799 ?_
  refine x_sld C hX hbl hbA a3 e3 dL_law_800 ?_
  refine x_aload_n C rfl 0 rfl dL_law_801 ?_
  refine x_iload C 4 rfl dL_law_802 ?_
  refine x_iconst (v := 4) C (by decide) dL_law_804 ?_
  refine x_iadd C dL_law_805 ?_
  refine x_sld C hX hbl hbA a4 e4 dL_law_806 ?_
  refine x_callV (dC := G11_box_dep) (as := [.int v1, .int v2, .int v3, .int v4]) (st := []) C rL hk0 (Nat.le_trans (Nat.le_of_ble_eq_true rfl) (Nat.le_refl 840)) (Nat.le_of_ble_eq_true rfl) ob0.1 ob0.2 (Nat.le_of_ble_eq_true rfl) rfl tw_3_233 tw_3_232 tw_3_231 tc_3_234 tw_1_1 hyX11 hnX11_box rfl (Nat.le_of_ble_eq_true rfl) dL_law_807 (G11_box_met C.2.2.2.2.2.2.2.1 (Nat.le_refl _)  h) (fun r0 μ83 hq => ?_)
  obtain ⟨r84, rfl, h⟩ := hq
  refine x_st [.int r84] rfl ?_
  refine x_aload_n C rfl 2 rfl dL_law_810 ?_
  refine x_aload_n C rfl 0 rfl dL_law_811 ?_
  refine x_iload C 4 rfl dL_law_812 ?_
  refine x_iconst (v := 1) C (by decide) dL_law_814 ?_
  refine x_iadd C dL_law_815 ?_
  refine x_sld C hX hbl hbA a1 e1 dL_law_816 ?_
  refine x_aload_n C rfl 0 rfl dL_law_817 ?_
  refine x_iload C 4 rfl dL_law_818 ?_
  refine x_iconst (v := 2) C (by decide) dL_law_820 ?_
  refine x_iadd C dL_law_821 ?_
  refine x_sld C hX hbl hbA a2 e2 dL_law_822 ?_
  refine x_aload_n C rfl 0 rfl dL_law_823 ?_
  refine x_iload C 4 rfl dL_law_824 ?_
  refine x_iconst (v := 3) C (by decide) dL_law_826 ?_
  refine x_iadd C dL_law_827 ?_
  refine x_sld C hX hbl hbA a3 e3 dL_law_828 ?_
  refine x_aload_n C rfl 0 rfl dL_law_829 ?_
  refine x_iload C 4 rfl dL_law_830 ?_
  refine x_iconst (v := 4) C (by decide) dL_law_832 ?_
  refine x_iadd C dL_law_833 ?_
  refine x_sld C hX hbl hbA a4 e4 dL_law_834 ?_
  refine x_callV (dC := G12_box_dep) (as := [.int v1, .int v2, .int v3, .int v4]) (st := [.int r84]) C rL hk0 (Nat.le_trans (Nat.le_of_ble_eq_true rfl) (Nat.le_refl 840)) (Nat.le_of_ble_eq_true rfl) ob358.1 ob358.2 (Nat.le_of_ble_eq_true rfl) rfl tw_7_121 tw_7_120 tw_7_119 tc_7_122 tw_1_13 hyX12 hnX12_box rfl (Nat.le_of_ble_eq_true rfl) dL_law_835 (G12_box_met C.2.2.2.2.2.2.2.1 (Nat.le_refl _)  h) (fun r0 μ85 hq => ?_)
  obtain ⟨r86, rfl, h⟩ := hq
  refine x_st [.int r86, .int r84] rfl ?_
  refine x_icmp_eq (tgt := 1892) C dL_law_838 (by decide) (fun c87 => ?_) (fun c87 => ?_)
  · have h := h.1 c87
    refine x_widen (Nat.le_add_right _ 1) (Nat.le_add_right _ 6) ?_
    exact K _ h
  · have h := h.2 c87
    refine x_iconst (v := 0) C (by decide) dL_law_841 ?_
    exact h.elim
set_option maxHeartbeats 4000000 in
set_option maxRecDepth 100000 in
theorem law_13 (hfl : l.stackTraces = false) (C : CX p s m args meth c φ tc D LA s0 code RL 8) {b L : Nat} {xs : Nat → Int32} (hX : va_X b L xs s s.heap) (hbl : b < s.heap.size) (hbA : φ 800 = b ∧ ¬ LA b) (hkc : kc + 1 ≤ room_1.cells ∧ ks + 6 ≤ room_1.slots) {i v1 v2 v3 v4 v5 : Int32} (a1 : vp_in (i + 1) L) (a2 : vp_in (i + 2) L) (a3 : vp_in (i + 3) L) (a4 : vp_in (i + 4) L) (a5 : vp_in (i + 5) L) (e1 : xs (i + 1).toNatClampNeg = v1) (e2 : xs (i + 2).toNatClampNeg = v2) (e3 : xs (i + 3).toNatClampNeg = v3) (e4 : xs (i + 4).toNatClampNeg = v4) (e5 : xs (i + 5).toNatClampNeg = v5) {Kk : MM → Prop} (K : ∀ μ, Kk μ → WX p l e room_1 s m args below meth c φ tc D LA 8 (kc + 1) (ks + 6) Q 1892 [(0, .ref 800), (1, .ref 0), (2, .ref 358), (3, .ref 410), (4, .int i)] [] μ) {μ : MM} (h : Glaw_13 v1 v2 v3 v4 v5 μ Kk) : WX p l e room_1 s m args below meth c φ tc D LA 8 kc ks Q 843 [(0, .ref 800), (1, .ref 0), (2, .ref 358), (3, .ref 410), (4, .int i)] [] μ := by
  have hk0 : kc ≤ room_1.cells ∧ ks ≤ room_1.slots := ⟨by omega, by omega⟩
  unfold Glaw_13 at h
  refine x_aload_n C rfl 1 rfl dL_law_843 ?_
  refine x_aload_n C rfl 0 rfl dL_law_844 ?_
  refine x_iload C 4 rfl dL_law_845 ?_
  refine x_iconst (v := 1) C (by decide) dL_law_847 ?_
  refine x_iadd C dL_law_848 ?_
  refine x_sld C hX hbl hbA a1 e1 dL_law_849 ?_
  refine x_aload_n C rfl 0 rfl dL_law_850 ?_
  refine x_iload C 4 rfl dL_law_851 ?_
  refine x_iconst (v := 2) C (by decide) dL_law_853 ?_
  refine x_iadd C dL_law_854 ?_
  refine x_sld C hX hbl hbA a2 e2 dL_law_855 ?_
  refine x_callV (dC := G11_after_dep) (as := [.int v1, .int v2]) (st := []) C rL hk0 (Nat.le_trans (Nat.le_of_ble_eq_true rfl) (Nat.le_refl 840)) (Nat.le_of_ble_eq_true rfl) ob0.1 ob0.2 (Nat.le_of_ble_eq_true rfl) rfl tw_4_8 tw_4_7 tw_4_6 tc_4_9 tw_1_1 hyX11 hnX11_after rfl (Nat.le_of_ble_eq_true rfl) dL_law_856 (G11_after_met C.2.2.2.2.2.2.2.1 (Nat.le_refl _)  h) (fun r0 μ88 hq => ?_)
  obtain ⟨r89, rfl, h⟩ := hq
  refine x_st [.int r89] rfl ?_
  refine x_aload_n C rfl 2 rfl dL_law_859 ?_
  refine x_aload_n C rfl 0 rfl dL_law_860 ?_
  refine x_iload C 4 rfl dL_law_861 ?_
  refine x_iconst (v := 1) C (by decide) dL_law_863 ?_
  refine x_iadd C dL_law_864 ?_
  refine x_sld C hX hbl hbA a1 e1 dL_law_865 ?_
  refine x_aload_n C rfl 0 rfl dL_law_866 ?_
  refine x_iload C 4 rfl dL_law_867 ?_
  refine x_iconst (v := 2) C (by decide) dL_law_869 ?_
  refine x_iadd C dL_law_870 ?_
  refine x_sld C hX hbl hbA a2 e2 dL_law_871 ?_
  refine x_callV (dC := G12_after_dep) (as := [.int v1, .int v2]) (st := [.int r89]) C rL hk0 (Nat.le_trans (Nat.le_of_ble_eq_true rfl) (Nat.le_refl 840)) (Nat.le_of_ble_eq_true rfl) ob358.1 ob358.2 (Nat.le_of_ble_eq_true rfl) rfl tw_7_125 tw_7_124 tw_7_123 tc_7_126 tw_1_13 hyX12 hnX12_after rfl (Nat.le_of_ble_eq_true rfl) dL_law_872 (G12_after_met C.2.2.2.2.2.2.2.1 (Nat.le_refl _)  h) (fun r0 μ90 hq => ?_)
  obtain ⟨r91, rfl, h⟩ := hq
  refine x_st [.int r91, .int r89] rfl ?_
  refine x_icmp_eq (tgt := 1892) C dL_law_875 (by decide) (fun c92 => ?_) (fun c92 => ?_)
  · have h := h.1 c92
    refine x_widen (Nat.le_add_right _ 1) (Nat.le_add_right _ 6) ?_
    exact K _ h
  · have h := h.2 c92
    refine x_iconst (v := 0) C (by decide) dL_law_878 ?_
    exact h.elim
set_option maxHeartbeats 4000000 in
set_option maxRecDepth 100000 in
theorem law_14 (hfl : l.stackTraces = false) (C : CX p s m args meth c φ tc D LA s0 code RL 8) {b L : Nat} {xs : Nat → Int32} (hX : va_X b L xs s s.heap) (hbl : b < s.heap.size) (hbA : φ 800 = b ∧ ¬ LA b) (hkc : kc + 1 ≤ room_1.cells ∧ ks + 6 ≤ room_1.slots) {i v1 v2 v3 v4 v5 : Int32} (a1 : vp_in (i + 1) L) (a2 : vp_in (i + 2) L) (a3 : vp_in (i + 3) L) (a4 : vp_in (i + 4) L) (a5 : vp_in (i + 5) L) (e1 : xs (i + 1).toNatClampNeg = v1) (e2 : xs (i + 2).toNatClampNeg = v2) (e3 : xs (i + 3).toNatClampNeg = v3) (e4 : xs (i + 4).toNatClampNeg = v4) (e5 : xs (i + 5).toNatClampNeg = v5) {Kk : MM → Prop} (K : ∀ μ, Kk μ → WX p l e room_1 s m args below meth c φ tc D LA 8 (kc + 1) (ks + 6) Q 1892 [(0, .ref 800), (1, .ref 0), (2, .ref 358), (3, .ref 410), (4, .int i)] [] μ) {μ : MM} (h : Glaw_14 v1 v2 v3 v4 v5 μ Kk) : WX p l e room_1 s m args below meth c φ tc D LA 8 kc ks Q 880 [(0, .ref 800), (1, .ref 0), (2, .ref 358), (3, .ref 410), (4, .int i)] [] μ := by
  have hk0 : kc ≤ room_1.cells ∧ ks ≤ room_1.slots := ⟨by omega, by omega⟩
  unfold Glaw_14 at h
  refine x_aload_n C rfl 1 rfl dL_law_880 ?_
  refine x_aload_n C rfl 0 rfl dL_law_881 ?_
  refine x_iload C 4 rfl dL_law_882 ?_
  refine x_iconst (v := 1) C (by decide) dL_law_884 ?_
  refine x_iadd C dL_law_885 ?_
  refine x_sld C hX hbl hbA a1 e1 dL_law_886 ?_
  refine x_callV (dC := G11_seed_dep) (as := [.int v1]) (st := []) C rL hk0 (Nat.le_trans (Nat.le_of_ble_eq_true rfl) (Nat.le_refl 840)) (Nat.le_of_ble_eq_true rfl) ob0.1 ob0.2 (Nat.le_of_ble_eq_true rfl) rfl tw_4_12 tw_4_11 tw_4_10 tc_4_13 tw_1_1 hyX11 hnX11_seed rfl (Nat.le_of_ble_eq_true rfl) dL_law_887 (G11_seed_met C.2.2.2.2.2.2.2.1 (Nat.le_refl _)  h) (fun r0 μ93 hq => ?_)
  obtain ⟨r94, rfl, h⟩ := hq
  refine x_st [.int r94] rfl ?_
  refine x_aload_n C rfl 2 rfl dL_law_890 ?_
  refine x_aload_n C rfl 0 rfl dL_law_891 ?_
  refine x_iload C 4 rfl dL_law_892 ?_
  refine x_iconst (v := 1) C (by decide) dL_law_894 ?_
  refine x_iadd C dL_law_895 ?_
  refine x_sld C hX hbl hbA a1 e1 dL_law_896 ?_
  refine x_callV (dC := G12_seed_dep) (as := [.int v1]) (st := [.int r94]) C rL hk0 (Nat.le_trans (Nat.le_of_ble_eq_true rfl) (Nat.le_refl 840)) (Nat.le_of_ble_eq_true rfl) ob358.1 ob358.2 (Nat.le_of_ble_eq_true rfl) rfl tw_7_130 tw_7_129 tw_7_128 tc_7_131 tw_1_13 hyX12 hnX12_seed rfl (Nat.le_of_ble_eq_true rfl) dL_law_897 (G12_seed_met C.2.2.2.2.2.2.2.1 (Nat.le_refl _)  h) (fun r0 μ95 hq => ?_)
  obtain ⟨r96, rfl, h⟩ := hq
  refine x_st [.int r96, .int r94] rfl ?_
  refine x_icmp_eq (tgt := 1892) C dL_law_900 (by decide) (fun c97 => ?_) (fun c97 => ?_)
  · have h := h.1 c97
    refine x_widen (Nat.le_add_right _ 1) (Nat.le_add_right _ 6) ?_
    exact K _ h
  · have h := h.2 c97
    refine x_iconst (v := 0) C (by decide) dL_law_903 ?_
    exact h.elim
set_option maxHeartbeats 4000000 in
set_option maxRecDepth 100000 in
theorem law_15 (hfl : l.stackTraces = false) (C : CX p s m args meth c φ tc D LA s0 code RL 8) {b L : Nat} {xs : Nat → Int32} (hX : va_X b L xs s s.heap) (hbl : b < s.heap.size) (hbA : φ 800 = b ∧ ¬ LA b) (hkc : kc + 1 ≤ room_1.cells ∧ ks + 6 ≤ room_1.slots) {i v1 v2 v3 v4 v5 : Int32} (a1 : vp_in (i + 1) L) (a2 : vp_in (i + 2) L) (a3 : vp_in (i + 3) L) (a4 : vp_in (i + 4) L) (a5 : vp_in (i + 5) L) (e1 : xs (i + 1).toNatClampNeg = v1) (e2 : xs (i + 2).toNatClampNeg = v2) (e3 : xs (i + 3).toNatClampNeg = v3) (e4 : xs (i + 4).toNatClampNeg = v4) (e5 : xs (i + 5).toNatClampNeg = v5) {Kk : MM → Prop} (K : ∀ μ, Kk μ → WX p l e room_1 s m args below meth c φ tc D LA 8 (kc + 1) (ks + 6) Q 1892 [(0, .ref 800), (1, .ref 0), (2, .ref 358), (3, .ref 410), (4, .int i)] [] μ) {μ : MM} (h : Glaw_15 v1 v2 v3 v4 v5 μ Kk) : WX p l e room_1 s m args below meth c φ tc D LA 8 kc ks Q 905 [(0, .ref 800), (1, .ref 0), (2, .ref 358), (3, .ref 410), (4, .int i)] [] μ := by
  have hk0 : kc ≤ room_1.cells ∧ ks ≤ room_1.slots := ⟨by omega, by omega⟩
  unfold Glaw_15 at h
  refine x_aload_n C rfl 1 rfl dL_law_905 ?_
  refine x_aload_n C rfl 0 rfl dL_law_906 ?_
  refine x_iload C 4 rfl dL_law_907 ?_
  refine x_iconst (v := 1) C (by decide) dL_law_909 ?_
  refine x_iadd C dL_law_910 ?_
  refine x_sld C hX hbl hbA a1 e1 dL_law_911 ?_
  refine x_callV (dC := G11_share_dep) (as := [.int v1]) (st := []) C rL hk0 (Nat.le_trans (Nat.le_of_ble_eq_true rfl) (Nat.le_refl 840)) (Nat.le_of_ble_eq_true rfl) ob0.1 ob0.2 (Nat.le_of_ble_eq_true rfl) rfl tw_4_16 tw_4_15 tw_4_14 tc_4_17 tw_1_1 hyX11 hnX11_share rfl (Nat.le_of_ble_eq_true rfl) dL_law_912 (G11_share_met C.2.2.2.2.2.2.2.1 (Nat.le_refl _)  h) (fun r0 μ98 hq => ?_)
  obtain ⟨r99, rfl, h⟩ := hq
  refine x_st [.int r99] rfl ?_
  refine x_aload_n C rfl 2 rfl dL_law_915 ?_
  refine x_aload_n C rfl 0 rfl dL_law_916 ?_
  refine x_iload C 4 rfl dL_law_917 ?_
  refine x_iconst (v := 1) C (by decide) dL_law_919 ?_
  refine x_iadd C dL_law_920 ?_
  refine x_sld C hX hbl hbA a1 e1 dL_law_921 ?_
  refine x_callV (dC := G12_share_dep) (as := [.int v1]) (st := [.int r99]) C rL hk0 (Nat.le_trans (Nat.le_of_ble_eq_true rfl) (Nat.le_refl 840)) (Nat.le_of_ble_eq_true rfl) ob358.1 ob358.2 (Nat.le_of_ble_eq_true rfl) rfl tw_7_134 tw_7_133 tw_7_132 tc_7_135 tw_1_13 hyX12 hnX12_share rfl (Nat.le_of_ble_eq_true rfl) dL_law_922 (G12_share_met C.2.2.2.2.2.2.2.1 (Nat.le_refl _)  h) (fun r0 μ100 hq => ?_)
  obtain ⟨r101, rfl, h⟩ := hq
  refine x_st [.int r101, .int r99] rfl ?_
  refine x_icmp_eq (tgt := 1892) C dL_law_925 (by decide) (fun c102 => ?_) (fun c102 => ?_)
  · have h := h.1 c102
    refine x_widen (Nat.le_add_right _ 1) (Nat.le_add_right _ 6) ?_
    exact K _ h
  · have h := h.2 c102
    refine x_iconst (v := 0) C (by decide) dL_law_928 ?_
    exact h.elim
set_option maxHeartbeats 4000000 in
set_option maxRecDepth 100000 in
theorem law_16 (hfl : l.stackTraces = false) (C : CX p s m args meth c φ tc D LA s0 code RL 8) {b L : Nat} {xs : Nat → Int32} (hX : va_X b L xs s s.heap) (hbl : b < s.heap.size) (hbA : φ 800 = b ∧ ¬ LA b) (hkc : kc + 1 ≤ room_1.cells ∧ ks + 6 ≤ room_1.slots) {i v1 v2 v3 v4 v5 : Int32} (a1 : vp_in (i + 1) L) (a2 : vp_in (i + 2) L) (a3 : vp_in (i + 3) L) (a4 : vp_in (i + 4) L) (a5 : vp_in (i + 5) L) (e1 : xs (i + 1).toNatClampNeg = v1) (e2 : xs (i + 2).toNatClampNeg = v2) (e3 : xs (i + 3).toNatClampNeg = v3) (e4 : xs (i + 4).toNatClampNeg = v4) (e5 : xs (i + 5).toNatClampNeg = v5) {Kk : MM → Prop} (K : ∀ μ, Kk μ → WX p l e room_1 s m args below meth c φ tc D LA 8 (kc + 1) (ks + 6) Q 1892 [(0, .ref 800), (1, .ref 0), (2, .ref 358), (3, .ref 410), (4, .int i)] [] μ) {μ : MM} (h : Glaw_16 v1 v2 v3 v4 v5 μ Kk) : WX p l e room_1 s m args below meth c φ tc D LA 8 kc ks Q 930 [(0, .ref 800), (1, .ref 0), (2, .ref 358), (3, .ref 410), (4, .int i)] [] μ := by
  have hk0 : kc ≤ room_1.cells ∧ ks ≤ room_1.slots := ⟨by omega, by omega⟩
  unfold Glaw_16 at h
  refine x_aload_n C rfl 1 rfl dL_law_930 ?_
  refine x_aload_n C rfl 0 rfl dL_law_931 ?_
  refine x_iload C 4 rfl dL_law_932 ?_
  refine x_iconst (v := 1) C (by decide) dL_law_934 ?_
  refine x_iadd C dL_law_935 ?_
  refine x_sld C hX hbl hbA a1 e1 dL_law_936 ?_
  refine x_callV (dC := G11_aside_dep) (as := [.int v1]) (st := []) C rL hk0 (Nat.le_trans (Nat.le_of_ble_eq_true rfl) (Nat.le_refl 840)) (Nat.le_of_ble_eq_true rfl) ob0.1 ob0.2 (Nat.le_of_ble_eq_true rfl) rfl tw_4_67 tw_4_66 tw_4_65 tc_4_68 tw_1_1 hyX11 hnX11_aside rfl (Nat.le_of_ble_eq_true rfl) dL_law_937 (G11_aside_met C.2.2.2.2.2.2.2.1 (Nat.le_refl _)  h) (fun r0 μ103 hq => ?_)
  obtain ⟨r104, rfl, h⟩ := hq
  refine x_st [.int r104] rfl ?_
  refine x_aload_n C rfl 2 rfl dL_law_940 ?_
  refine x_aload_n C rfl 0 rfl dL_law_941 ?_
  refine x_iload C 4 rfl dL_law_942 ?_
  refine x_iconst (v := 1) C (by decide) dL_law_944 ?_
  refine x_iadd C dL_law_945 ?_
  refine x_sld C hX hbl hbA a1 e1 dL_law_946 ?_
  refine x_callV (dC := G12_aside_dep) (as := [.int v1]) (st := [.int r104]) C rL hk0 (Nat.le_trans (Nat.le_of_ble_eq_true rfl) (Nat.le_refl 840)) (Nat.le_of_ble_eq_true rfl) ob358.1 ob358.2 (Nat.le_of_ble_eq_true rfl) rfl tw_7_165 tw_7_164 tw_7_163 tc_7_166 tw_1_13 hyX12 hnX12_aside rfl (Nat.le_of_ble_eq_true rfl) dL_law_947 (G12_aside_met C.2.2.2.2.2.2.2.1 (Nat.le_refl _)  h) (fun r0 μ105 hq => ?_)
  obtain ⟨r106, rfl, h⟩ := hq
  refine x_st [.int r106, .int r104] rfl ?_
  refine x_icmp_eq (tgt := 1892) C dL_law_950 (by decide) (fun c107 => ?_) (fun c107 => ?_)
  · have h := h.1 c107
    refine x_widen (Nat.le_add_right _ 1) (Nat.le_add_right _ 6) ?_
    exact K _ h
  · have h := h.2 c107
    refine x_iconst (v := 0) C (by decide) dL_law_953 ?_
    exact h.elim
set_option maxHeartbeats 4000000 in
set_option maxRecDepth 100000 in
theorem law_17 (hfl : l.stackTraces = false) (C : CX p s m args meth c φ tc D LA s0 code RL 8) {b L : Nat} {xs : Nat → Int32} (hX : va_X b L xs s s.heap) (hbl : b < s.heap.size) (hbA : φ 800 = b ∧ ¬ LA b) (hkc : kc + 1 ≤ room_1.cells ∧ ks + 6 ≤ room_1.slots) {i v1 v2 v3 v4 v5 : Int32} (a1 : vp_in (i + 1) L) (a2 : vp_in (i + 2) L) (a3 : vp_in (i + 3) L) (a4 : vp_in (i + 4) L) (a5 : vp_in (i + 5) L) (e1 : xs (i + 1).toNatClampNeg = v1) (e2 : xs (i + 2).toNatClampNeg = v2) (e3 : xs (i + 3).toNatClampNeg = v3) (e4 : xs (i + 4).toNatClampNeg = v4) (e5 : xs (i + 5).toNatClampNeg = v5) {Kk : MM → Prop} (K : ∀ μ, Kk μ → WX p l e room_1 s m args below meth c φ tc D LA 8 (kc + 1) (ks + 6) Q 1892 [(0, .ref 800), (1, .ref 0), (2, .ref 358), (3, .ref 410), (4, .int i)] [] μ) {μ : MM} (h : Glaw_17 v1 v2 v3 v4 v5 μ Kk) : WX p l e room_1 s m args below meth c φ tc D LA 8 kc ks Q 955 [(0, .ref 800), (1, .ref 0), (2, .ref 358), (3, .ref 410), (4, .int i)] [] μ := by
  have hk0 : kc ≤ room_1.cells ∧ ks ≤ room_1.slots := ⟨by omega, by omega⟩
  unfold Glaw_17 at h
  refine x_aload_n C rfl 1 rfl dL_law_955 ?_
  refine x_aload_n C rfl 0 rfl dL_law_956 ?_
  refine x_iload C 4 rfl dL_law_957 ?_
  refine x_iconst (v := 1) C (by decide) dL_law_959 ?_
  refine x_iadd C dL_law_960 ?_
  refine x_sld C hX hbl hbA a1 e1 dL_law_961 ?_
  refine x_aload_n C rfl 0 rfl dL_law_962 ?_
  refine x_iload C 4 rfl dL_law_963 ?_
  refine x_iconst (v := 2) C (by decide) dL_law_965 ?_
  refine x_iadd C dL_law_966 ?_
  refine x_sld C hX hbl hbA a2 e2 dL_law_967 ?_
  refine x_callV (dC := G11_odds_dep) (as := [.int v1, .int v2]) (st := []) C rL hk0 (Nat.le_trans (Nat.le_of_ble_eq_true rfl) (Nat.le_refl 840)) (Nat.le_of_ble_eq_true rfl) ob0.1 ob0.2 (Nat.le_of_ble_eq_true rfl) rfl tw_4_88 tw_4_87 tw_4_86 tc_4_89 tw_1_1 hyX11 hnX11_odds rfl (Nat.le_of_ble_eq_true rfl) dL_law_968 (G11_odds_met C.2.2.2.2.2.2.2.1 (Nat.le_refl _)  h) (fun r0 μ108 hq => ?_)
  obtain ⟨r109, rfl, h⟩ := hq
  refine x_st [.int r109] rfl ?_
  refine x_aload_n C rfl 2 rfl dL_law_971 ?_
  refine x_aload_n C rfl 0 rfl dL_law_972 ?_
  refine x_iload C 4 rfl dL_law_973 ?_
  refine x_iconst (v := 1) C (by decide) dL_law_975 ?_
  refine x_iadd C dL_law_976 ?_
  refine x_sld C hX hbl hbA a1 e1 dL_law_977 ?_
  refine x_aload_n C rfl 0 rfl dL_law_978 ?_
  refine x_iload C 4 rfl dL_law_979 ?_
  refine x_iconst (v := 2) C (by decide) dL_law_981 ?_
  refine x_iadd C dL_law_982 ?_
  refine x_sld C hX hbl hbA a2 e2 dL_law_983 ?_
  refine x_callV (dC := G12_odds_dep) (as := [.int v1, .int v2]) (st := [.int r109]) C rL hk0 (Nat.le_trans (Nat.le_of_ble_eq_true rfl) (Nat.le_refl 840)) (Nat.le_of_ble_eq_true rfl) ob358.1 ob358.2 (Nat.le_of_ble_eq_true rfl) rfl tw_7_173 tw_7_172 tw_7_171 tc_7_174 tw_1_13 hyX12 hnX12_odds rfl (Nat.le_of_ble_eq_true rfl) dL_law_984 (G12_odds_met C.2.2.2.2.2.2.2.1 (Nat.le_refl _)  h) (fun r0 μ110 hq => ?_)
  obtain ⟨r111, rfl, h⟩ := hq
  refine x_st [.int r111, .int r109] rfl ?_
  refine x_icmp_eq (tgt := 1892) C dL_law_987 (by decide) (fun c112 => ?_) (fun c112 => ?_)
  · have h := h.1 c112
    refine x_widen (Nat.le_add_right _ 1) (Nat.le_add_right _ 6) ?_
    exact K _ h
  · have h := h.2 c112
    refine x_iconst (v := 0) C (by decide) dL_law_990 ?_
    exact h.elim
set_option maxHeartbeats 4000000 in
set_option maxRecDepth 100000 in
theorem law_18 (hfl : l.stackTraces = false) (C : CX p s m args meth c φ tc D LA s0 code RL 8) {b L : Nat} {xs : Nat → Int32} (hX : va_X b L xs s s.heap) (hbl : b < s.heap.size) (hbA : φ 800 = b ∧ ¬ LA b) (hkc : kc + 1 ≤ room_1.cells ∧ ks + 6 ≤ room_1.slots) {i v1 v2 v3 v4 v5 : Int32} (a1 : vp_in (i + 1) L) (a2 : vp_in (i + 2) L) (a3 : vp_in (i + 3) L) (a4 : vp_in (i + 4) L) (a5 : vp_in (i + 5) L) (e1 : xs (i + 1).toNatClampNeg = v1) (e2 : xs (i + 2).toNatClampNeg = v2) (e3 : xs (i + 3).toNatClampNeg = v3) (e4 : xs (i + 4).toNatClampNeg = v4) (e5 : xs (i + 5).toNatClampNeg = v5) {Kk : MM → Prop} (K : ∀ μ, Kk μ → WX p l e room_1 s m args below meth c φ tc D LA 8 (kc + 1) (ks + 6) Q 1892 [(0, .ref 800), (1, .ref 0), (2, .ref 358), (3, .ref 410), (4, .int i)] [] μ) {μ : MM} (h : Glaw_18 v1 v2 v3 v4 v5 μ Kk) : WX p l e room_1 s m args below meth c φ tc D LA 8 kc ks Q 992 [(0, .ref 800), (1, .ref 0), (2, .ref 358), (3, .ref 410), (4, .int i)] [] μ := by
  have hk0 : kc ≤ room_1.cells ∧ ks ≤ room_1.slots := ⟨by omega, by omega⟩
  unfold Glaw_18 at h
  refine x_aload_n C rfl 1 rfl dL_law_992 ?_
  refine x_callV (dC := G11_weighs_dep) (as := []) (st := []) C rL hk0 (Nat.le_trans (Nat.le_of_ble_eq_true rfl) (Nat.le_refl 840)) (Nat.le_of_ble_eq_true rfl) ob0.1 ob0.2 (Nat.le_of_ble_eq_true rfl) rfl tw_4_108 tw_4_107 tw_4_106 tc_4_109 tw_1_1 hyX11 hnX11_weighs rfl (Nat.le_of_ble_eq_true rfl) dL_law_993 (G11_weighs_met C.2.2.2.2.2.2.2.1 (Nat.le_refl _)  h) (fun r0 μ113 hq => ?_)
  obtain ⟨r114, rfl, h⟩ := hq
  refine x_st [.int r114] rfl ?_
  refine x_aload_n C rfl 2 rfl dL_law_996 ?_
  refine x_callV (dC := G12_weighs_dep) (as := []) (st := [.int r114]) C rL hk0 (Nat.le_trans (Nat.le_of_ble_eq_true rfl) (Nat.le_refl 840)) (Nat.le_of_ble_eq_true rfl) ob358.1 ob358.2 (Nat.le_of_ble_eq_true rfl) rfl tw_7_180 tw_7_179 tw_7_178 tc_7_181 tw_1_13 hyX12 hnX12_weighs rfl (Nat.le_of_ble_eq_true rfl) dL_law_997 (G12_weighs_met C.2.2.2.2.2.2.2.1 (Nat.le_refl _)  h) (fun r0 μ115 hq => ?_)
  obtain ⟨r116, rfl, h⟩ := hq
  refine x_st [.int r116, .int r114] rfl ?_
  refine x_icmp_eq (tgt := 1892) C dL_law_1000 (by decide) (fun c117 => ?_) (fun c117 => ?_)
  · have h := h.1 c117
    refine x_widen (Nat.le_add_right _ 1) (Nat.le_add_right _ 6) ?_
    exact K _ h
  · have h := h.2 c117
    refine x_iconst (v := 0) C (by decide) dL_law_1003 ?_
    exact h.elim
set_option maxHeartbeats 4000000 in
set_option maxRecDepth 100000 in
theorem law_19 (hfl : l.stackTraces = false) (C : CX p s m args meth c φ tc D LA s0 code RL 8) {b L : Nat} {xs : Nat → Int32} (hX : va_X b L xs s s.heap) (hbl : b < s.heap.size) (hbA : φ 800 = b ∧ ¬ LA b) (hkc : kc + 1 ≤ room_1.cells ∧ ks + 6 ≤ room_1.slots) {i v1 v2 v3 v4 v5 : Int32} (a1 : vp_in (i + 1) L) (a2 : vp_in (i + 2) L) (a3 : vp_in (i + 3) L) (a4 : vp_in (i + 4) L) (a5 : vp_in (i + 5) L) (e1 : xs (i + 1).toNatClampNeg = v1) (e2 : xs (i + 2).toNatClampNeg = v2) (e3 : xs (i + 3).toNatClampNeg = v3) (e4 : xs (i + 4).toNatClampNeg = v4) (e5 : xs (i + 5).toNatClampNeg = v5) {Kk : MM → Prop} (K : ∀ μ, Kk μ → WX p l e room_1 s m args below meth c φ tc D LA 8 (kc + 1) (ks + 6) Q 1892 [(0, .ref 800), (1, .ref 0), (2, .ref 358), (3, .ref 410), (4, .int i)] [] μ) {μ : MM} (h : Glaw_19 v1 v2 v3 v4 v5 μ Kk) : WX p l e room_1 s m args below meth c φ tc D LA 8 kc ks Q 1005 [(0, .ref 800), (1, .ref 0), (2, .ref 358), (3, .ref 410), (4, .int i)] [] μ := by
  have hk0 : kc ≤ room_1.cells ∧ ks ≤ room_1.slots := ⟨by omega, by omega⟩
  unfold Glaw_19 at h
  refine x_aload_n C rfl 1 rfl dL_law_1005 ?_
  refine x_aload_n C rfl 0 rfl dL_law_1006 ?_
  refine x_iload C 4 rfl dL_law_1007 ?_
  refine x_iconst (v := 1) C (by decide) dL_law_1009 ?_
  refine x_iadd C dL_law_1010 ?_
  refine x_sld C hX hbl hbA a1 e1 dL_law_1011 ?_
  refine x_callV (dC := G11_names_dep) (as := [.int v1]) (st := []) C rL hk0 (Nat.le_trans (Nat.le_of_ble_eq_true rfl) (Nat.le_refl 840)) (Nat.le_of_ble_eq_true rfl) ob0.1 ob0.2 (Nat.le_of_ble_eq_true rfl) rfl tw_4_120 tw_4_119 tw_4_118 tc_4_121 tw_1_1 hyX11 hnX11_names rfl (Nat.le_of_ble_eq_true rfl) dL_law_1012 (G11_names_met C.2.2.2.2.2.2.2.1 (Nat.le_refl _)  h) (fun r0 μ118 hq => ?_)
  obtain ⟨r119, rfl, h⟩ := hq
  refine x_st [.int r119] rfl ?_
  refine x_aload_n C rfl 2 rfl dL_law_1015 ?_
  refine x_aload_n C rfl 0 rfl dL_law_1016 ?_
  refine x_iload C 4 rfl dL_law_1017 ?_
  refine x_iconst (v := 1) C (by decide) dL_law_1019 ?_
  refine x_iadd C dL_law_1020 ?_
  refine x_sld C hX hbl hbA a1 e1 dL_law_1021 ?_
  refine x_callV (dC := G12_names_dep) (as := [.int v1]) (st := [.int r119]) C rL hk0 (Nat.le_trans (Nat.le_of_ble_eq_true rfl) (Nat.le_refl 840)) (Nat.le_of_ble_eq_true rfl) ob358.1 ob358.2 (Nat.le_of_ble_eq_true rfl) rfl tw_7_191 tw_7_190 tw_7_189 tc_7_192 tw_1_13 hyX12 hnX12_names rfl (Nat.le_of_ble_eq_true rfl) dL_law_1022 (G12_names_met C.2.2.2.2.2.2.2.1 (Nat.le_refl _)  h) (fun r0 μ120 hq => ?_)
  obtain ⟨r121, rfl, h⟩ := hq
  refine x_st [.int r121, .int r119] rfl ?_
  refine x_icmp_eq (tgt := 1892) C dL_law_1025 (by decide) (fun c122 => ?_) (fun c122 => ?_)
  · have h := h.1 c122
    refine x_widen (Nat.le_add_right _ 1) (Nat.le_add_right _ 6) ?_
    exact K _ h
  · have h := h.2 c122
    refine x_iconst (v := 0) C (by decide) dL_law_1028 ?_
    exact h.elim
set_option maxHeartbeats 4000000 in
set_option maxRecDepth 100000 in
theorem law_20 (hfl : l.stackTraces = false) (C : CX p s m args meth c φ tc D LA s0 code RL 8) {b L : Nat} {xs : Nat → Int32} (hX : va_X b L xs s s.heap) (hbl : b < s.heap.size) (hbA : φ 800 = b ∧ ¬ LA b) (hkc : kc + 1 ≤ room_1.cells ∧ ks + 6 ≤ room_1.slots) {i v1 v2 v3 v4 v5 : Int32} (a1 : vp_in (i + 1) L) (a2 : vp_in (i + 2) L) (a3 : vp_in (i + 3) L) (a4 : vp_in (i + 4) L) (a5 : vp_in (i + 5) L) (e1 : xs (i + 1).toNatClampNeg = v1) (e2 : xs (i + 2).toNatClampNeg = v2) (e3 : xs (i + 3).toNatClampNeg = v3) (e4 : xs (i + 4).toNatClampNeg = v4) (e5 : xs (i + 5).toNatClampNeg = v5) {Kk : MM → Prop} (K : ∀ μ, Kk μ → WX p l e room_1 s m args below meth c φ tc D LA 8 (kc + 1) (ks + 6) Q 1892 [(0, .ref 800), (1, .ref 0), (2, .ref 358), (3, .ref 410), (4, .int i)] [] μ) {μ : MM} (h : Glaw_20 v1 v2 v3 v4 v5 μ Kk) : WX p l e room_1 s m args below meth c φ tc D LA 8 kc ks Q 1030 [(0, .ref 800), (1, .ref 0), (2, .ref 358), (3, .ref 410), (4, .int i)] [] μ := by
  have hk0 : kc ≤ room_1.cells ∧ ks ≤ room_1.slots := ⟨by omega, by omega⟩
  unfold Glaw_20 at h
  refine x_aload_n C rfl 1 rfl dL_law_1030 ?_
  refine x_callV (dC := G11_drawn_dep) (as := []) (st := []) C rL hk0 (Nat.le_trans (Nat.le_of_ble_eq_true rfl) (Nat.le_refl 840)) (Nat.le_of_ble_eq_true rfl) ob0.1 ob0.2 (Nat.le_of_ble_eq_true rfl) rfl tw_4_133 tw_4_132 tw_4_131 tc_4_134 tw_1_1 hyX11 hnX11_drawn rfl (Nat.le_of_ble_eq_true rfl) dL_law_1031 (G11_drawn_met C.2.2.2.2.2.2.2.1 (Nat.le_refl _)  h) (fun r0 μ123 hq => ?_)
  obtain ⟨r124, rfl, h⟩ := hq
  refine x_st [.int r124] rfl ?_
  refine x_aload_n C rfl 2 rfl dL_law_1034 ?_
  refine x_callV (dC := G12_drawn_dep) (as := []) (st := [.int r124]) C rL hk0 (Nat.le_trans (Nat.le_of_ble_eq_true rfl) (Nat.le_refl 840)) (Nat.le_of_ble_eq_true rfl) ob358.1 ob358.2 (Nat.le_of_ble_eq_true rfl) rfl tw_7_199 tw_7_198 tw_7_197 tc_7_200 tw_1_13 hyX12 hnX12_drawn rfl (Nat.le_of_ble_eq_true rfl) dL_law_1035 (G12_drawn_met C.2.2.2.2.2.2.2.1 (Nat.le_refl _)  h) (fun r0 μ125 hq => ?_)
  obtain ⟨r126, rfl, h⟩ := hq
  refine x_st [.int r126, .int r124] rfl ?_
  refine x_icmp_eq (tgt := 1892) C dL_law_1038 (by decide) (fun c127 => ?_) (fun c127 => ?_)
  · have h := h.1 c127
    refine x_widen (Nat.le_add_right _ 1) (Nat.le_add_right _ 6) ?_
    exact K _ h
  · have h := h.2 c127
    refine x_iconst (v := 0) C (by decide) dL_law_1041 ?_
    exact h.elim
set_option maxHeartbeats 4000000 in
set_option maxRecDepth 100000 in
theorem law_21 (hfl : l.stackTraces = false) (C : CX p s m args meth c φ tc D LA s0 code RL 8) {b L : Nat} {xs : Nat → Int32} (hX : va_X b L xs s s.heap) (hbl : b < s.heap.size) (hbA : φ 800 = b ∧ ¬ LA b) (hkc : kc + 1 ≤ room_1.cells ∧ ks + 6 ≤ room_1.slots) {i v1 v2 v3 v4 v5 : Int32} (a1 : vp_in (i + 1) L) (a2 : vp_in (i + 2) L) (a3 : vp_in (i + 3) L) (a4 : vp_in (i + 4) L) (a5 : vp_in (i + 5) L) (e1 : xs (i + 1).toNatClampNeg = v1) (e2 : xs (i + 2).toNatClampNeg = v2) (e3 : xs (i + 3).toNatClampNeg = v3) (e4 : xs (i + 4).toNatClampNeg = v4) (e5 : xs (i + 5).toNatClampNeg = v5) {Kk : MM → Prop} (K : ∀ μ, Kk μ → WX p l e room_1 s m args below meth c φ tc D LA 8 (kc + 1) (ks + 6) Q 1892 [(0, .ref 800), (1, .ref 0), (2, .ref 358), (3, .ref 410), (4, .int i)] [] μ) {μ : MM} (h : Glaw_21 v1 v2 v3 v4 v5 μ Kk) : WX p l e room_1 s m args below meth c φ tc D LA 8 kc ks Q 1043 [(0, .ref 800), (1, .ref 0), (2, .ref 358), (3, .ref 410), (4, .int i)] [] μ := by
  have hk0 : kc ≤ room_1.cells ∧ ks ≤ room_1.slots := ⟨by omega, by omega⟩
  unfold Glaw_21 at h
  refine x_aload_n C rfl 1 rfl dL_law_1043 ?_
  refine x_aload_n C rfl 0 rfl dL_law_1044 ?_
  refine x_iload C 4 rfl dL_law_1045 ?_
  refine x_iconst (v := 1) C (by decide) dL_law_1047 ?_
  refine x_iadd C dL_law_1048 ?_
  refine x_sld C hX hbl hbA a1 e1 dL_law_1049 ?_
  refine x_callV (dC := G11_goes_dep) (as := [.int v1]) (st := []) C rL hk0 (Nat.le_trans (Nat.le_of_ble_eq_true rfl) (Nat.le_refl 840)) (Nat.le_of_ble_eq_true rfl) ob0.1 ob0.2 (Nat.le_of_ble_eq_true rfl) rfl tw_4_159 tw_4_158 tw_4_157 tc_4_160 tw_1_1 hyX11 hnX11_goes rfl (Nat.le_of_ble_eq_true rfl) dL_law_1050 (G11_goes_met C.2.2.2.2.2.2.2.1 (Nat.le_refl _)  h) (fun r0 μ128 hq => ?_)
  obtain ⟨r129, rfl, h⟩ := hq
  refine x_st [.int r129] rfl ?_
  refine x_aload_n C rfl 2 rfl dL_law_1053 ?_
  refine x_aload_n C rfl 0 rfl dL_law_1054 ?_
  refine x_iload C 4 rfl dL_law_1055 ?_
  refine x_iconst (v := 1) C (by decide) dL_law_1057 ?_
  refine x_iadd C dL_law_1058 ?_
  refine x_sld C hX hbl hbA a1 e1 dL_law_1059 ?_
  refine x_callV (dC := G12_goes_dep) (as := [.int v1]) (st := [.int r129]) C rL hk0 (Nat.le_trans (Nat.le_of_ble_eq_true rfl) (Nat.le_refl 840)) (Nat.le_of_ble_eq_true rfl) ob358.1 ob358.2 (Nat.le_of_ble_eq_true rfl) rfl tw_7_207 tw_7_206 tw_7_205 tc_7_208 tw_1_13 hyX12 hnX12_goes rfl (Nat.le_of_ble_eq_true rfl) dL_law_1060 (G12_goes_met C.2.2.2.2.2.2.2.1 (Nat.le_refl _)  h) (fun r0 μ130 hq => ?_)
  obtain ⟨r131, rfl, h⟩ := hq
  refine x_st [.int r131, .int r129] rfl ?_
  refine x_icmp_eq (tgt := 1892) C dL_law_1063 (by decide) (fun c132 => ?_) (fun c132 => ?_)
  · have h := h.1 c132
    refine x_widen (Nat.le_add_right _ 1) (Nat.le_add_right _ 6) ?_
    exact K _ h
  · have h := h.2 c132
    refine x_iconst (v := 0) C (by decide) dL_law_1066 ?_
    exact h.elim
set_option maxHeartbeats 4000000 in
set_option maxRecDepth 100000 in
theorem law_22 (hfl : l.stackTraces = false) (C : CX p s m args meth c φ tc D LA s0 code RL 8) {b L : Nat} {xs : Nat → Int32} (hX : va_X b L xs s s.heap) (hbl : b < s.heap.size) (hbA : φ 800 = b ∧ ¬ LA b) (hkc : kc + 1 ≤ room_1.cells ∧ ks + 6 ≤ room_1.slots) {i v1 v2 v3 v4 v5 : Int32} (a1 : vp_in (i + 1) L) (a2 : vp_in (i + 2) L) (a3 : vp_in (i + 3) L) (a4 : vp_in (i + 4) L) (a5 : vp_in (i + 5) L) (e1 : xs (i + 1).toNatClampNeg = v1) (e2 : xs (i + 2).toNatClampNeg = v2) (e3 : xs (i + 3).toNatClampNeg = v3) (e4 : xs (i + 4).toNatClampNeg = v4) (e5 : xs (i + 5).toNatClampNeg = v5) {Kk : MM → Prop} (K : ∀ μ, Kk μ → WX p l e room_1 s m args below meth c φ tc D LA 8 (kc + 1) (ks + 6) Q 1892 [(0, .ref 800), (1, .ref 0), (2, .ref 358), (3, .ref 410), (4, .int i)] [] μ) {μ : MM} (h : Glaw_22 v1 v2 v3 v4 v5 μ Kk) : WX p l e room_1 s m args below meth c φ tc D LA 8 kc ks Q 1068 [(0, .ref 800), (1, .ref 0), (2, .ref 358), (3, .ref 410), (4, .int i)] [] μ := by
  have hk0 : kc ≤ room_1.cells ∧ ks ≤ room_1.slots := ⟨by omega, by omega⟩
  unfold Glaw_22 at h
  refine x_aload_n C rfl 1 rfl dL_law_1068 ?_
  refine x_callV (dC := G11_says_dep) (as := []) (st := []) C rL hk0 (Nat.le_trans (Nat.le_of_ble_eq_true rfl) (Nat.le_refl 840)) (Nat.le_of_ble_eq_true rfl) ob0.1 ob0.2 (Nat.le_of_ble_eq_true rfl) rfl tw_4_182 tw_4_181 tw_4_180 tc_4_183 tw_1_1 hyX11 hnX11_says rfl (Nat.le_of_ble_eq_true rfl) dL_law_1069 (G11_says_met C.2.2.2.2.2.2.2.1 (Nat.le_refl _)  h) (fun r0 μ133 hq => ?_)
  obtain ⟨r134, rfl, h⟩ := hq
  refine x_st [.int r134] rfl ?_
  refine x_aload_n C rfl 2 rfl dL_law_1072 ?_
  refine x_callV (dC := G12_says_dep) (as := []) (st := [.int r134]) C rL hk0 (Nat.le_trans (Nat.le_of_ble_eq_true rfl) (Nat.le_refl 840)) (Nat.le_of_ble_eq_true rfl) ob358.1 ob358.2 (Nat.le_of_ble_eq_true rfl) rfl tw_7_227 tw_7_226 tw_7_225 tc_7_228 tw_1_13 hyX12 hnX12_says rfl (Nat.le_of_ble_eq_true rfl) dL_law_1073 (G12_says_met C.2.2.2.2.2.2.2.1 (Nat.le_refl _)  h) (fun r0 μ135 hq => ?_)
  obtain ⟨r136, rfl, h⟩ := hq
  refine x_st [.int r136, .int r134] rfl ?_
  refine x_icmp_eq (tgt := 1892) C dL_law_1076 (by decide) (fun c137 => ?_) (fun c137 => ?_)
  · have h := h.1 c137
    refine x_widen (Nat.le_add_right _ 1) (Nat.le_add_right _ 6) ?_
    exact K _ h
  · have h := h.2 c137
    refine x_iconst (v := 0) C (by decide) dL_law_1079 ?_
    exact h.elim
set_option maxHeartbeats 4000000 in
set_option maxRecDepth 100000 in
theorem law_23 (hfl : l.stackTraces = false) (C : CX p s m args meth c φ tc D LA s0 code RL 8) {b L : Nat} {xs : Nat → Int32} (hX : va_X b L xs s s.heap) (hbl : b < s.heap.size) (hbA : φ 800 = b ∧ ¬ LA b) (hkc : kc + 1 ≤ room_1.cells ∧ ks + 6 ≤ room_1.slots) {i v1 v2 v3 v4 v5 : Int32} (a1 : vp_in (i + 1) L) (a2 : vp_in (i + 2) L) (a3 : vp_in (i + 3) L) (a4 : vp_in (i + 4) L) (a5 : vp_in (i + 5) L) (e1 : xs (i + 1).toNatClampNeg = v1) (e2 : xs (i + 2).toNatClampNeg = v2) (e3 : xs (i + 3).toNatClampNeg = v3) (e4 : xs (i + 4).toNatClampNeg = v4) (e5 : xs (i + 5).toNatClampNeg = v5) {Kk : MM → Prop} (K : ∀ μ, Kk μ → WX p l e room_1 s m args below meth c φ tc D LA 8 (kc + 1) (ks + 6) Q 1892 [(0, .ref 800), (1, .ref 0), (2, .ref 358), (3, .ref 410), (4, .int i)] [] μ) {μ : MM} (h : Glaw_23 v1 v2 v3 v4 v5 μ Kk) : WX p l e room_1 s m args below meth c φ tc D LA 8 kc ks Q 1081 [(0, .ref 800), (1, .ref 0), (2, .ref 358), (3, .ref 410), (4, .int i)] [] μ := by
  have hk0 : kc ≤ room_1.cells ∧ ks ≤ room_1.slots := ⟨by omega, by omega⟩
  unfold Glaw_23 at h
  refine x_aload_n C rfl 1 rfl dL_law_1081 ?_
  refine x_aload_n C rfl 0 rfl dL_law_1082 ?_
  refine x_iload C 4 rfl dL_law_1083 ?_
  refine x_iconst (v := 1) C (by decide) dL_law_1085 ?_
  refine x_iadd C dL_law_1086 ?_
  refine x_sld C hX hbl hbA a1 e1 dL_law_1087 ?_
  refine x_callV (dC := G11_child_dep) (as := [.int v1]) (st := []) C rL hk0 (Nat.le_trans (Nat.le_of_ble_eq_true rfl) (Nat.le_refl 840)) (Nat.le_of_ble_eq_true rfl) ob0.1 ob0.2 (Nat.le_of_ble_eq_true rfl) rfl tw_4_193 tw_4_192 tw_4_191 tc_4_194 tw_1_1 hyX11 hnX11_child rfl (Nat.le_of_ble_eq_true rfl) dL_law_1088 (G11_child_met C.2.2.2.2.2.2.2.1 (Nat.le_refl _)  h) (fun r0 μ138 hq => ?_)
  obtain ⟨r139, rfl, h⟩ := hq
  refine x_st [.int r139] rfl ?_
  refine x_aload_n C rfl 2 rfl dL_law_1091 ?_
  refine x_aload_n C rfl 0 rfl dL_law_1092 ?_
  refine x_iload C 4 rfl dL_law_1093 ?_
  refine x_iconst (v := 1) C (by decide) dL_law_1095 ?_
  refine x_iadd C dL_law_1096 ?_
  refine x_sld C hX hbl hbA a1 e1 dL_law_1097 ?_
  refine x_callV (dC := G12_child_dep) (as := [.int v1]) (st := [.int r139]) C rL hk0 (Nat.le_trans (Nat.le_of_ble_eq_true rfl) (Nat.le_refl 840)) (Nat.le_of_ble_eq_true rfl) ob358.1 ob358.2 (Nat.le_of_ble_eq_true rfl) rfl tw_7_232 tw_7_231 tw_7_230 tc_7_233 tw_1_13 hyX12 hnX12_child rfl (Nat.le_of_ble_eq_true rfl) dL_law_1098 (G12_child_met C.2.2.2.2.2.2.2.1 (Nat.le_refl _)  h) (fun r0 μ140 hq => ?_)
  obtain ⟨r141, rfl, h⟩ := hq
  refine x_st [.int r141, .int r139] rfl ?_
  refine x_icmp_eq (tgt := 1892) C dL_law_1101 (by decide) (fun c142 => ?_) (fun c142 => ?_)
  · have h := h.1 c142
    refine x_widen (Nat.le_add_right _ 1) (Nat.le_add_right _ 6) ?_
    exact K _ h
  · have h := h.2 c142
    refine x_iconst (v := 0) C (by decide) dL_law_1104 ?_
    exact h.elim
set_option maxHeartbeats 4000000 in
set_option maxRecDepth 100000 in
theorem law_24 (hfl : l.stackTraces = false) (C : CX p s m args meth c φ tc D LA s0 code RL 8) {b L : Nat} {xs : Nat → Int32} (hX : va_X b L xs s s.heap) (hbl : b < s.heap.size) (hbA : φ 800 = b ∧ ¬ LA b) (hkc : kc + 1 ≤ room_1.cells ∧ ks + 6 ≤ room_1.slots) {i v1 v2 v3 v4 v5 : Int32} (a1 : vp_in (i + 1) L) (a2 : vp_in (i + 2) L) (a3 : vp_in (i + 3) L) (a4 : vp_in (i + 4) L) (a5 : vp_in (i + 5) L) (e1 : xs (i + 1).toNatClampNeg = v1) (e2 : xs (i + 2).toNatClampNeg = v2) (e3 : xs (i + 3).toNatClampNeg = v3) (e4 : xs (i + 4).toNatClampNeg = v4) (e5 : xs (i + 5).toNatClampNeg = v5) {Kk : MM → Prop} (K : ∀ μ, Kk μ → WX p l e room_1 s m args below meth c φ tc D LA 8 (kc + 1) (ks + 6) Q 1892 [(0, .ref 800), (1, .ref 0), (2, .ref 358), (3, .ref 410), (4, .int i)] [] μ) {μ : MM} (h : Glaw_24 v1 v2 v3 v4 v5 μ Kk) : WX p l e room_1 s m args below meth c φ tc D LA 8 kc ks Q 1106 [(0, .ref 800), (1, .ref 0), (2, .ref 358), (3, .ref 410), (4, .int i)] [] μ := by
  have hk0 : kc ≤ room_1.cells ∧ ks ≤ room_1.slots := ⟨by omega, by omega⟩
  unfold Glaw_24 at h
  refine x_aload_n C rfl 1 rfl dL_law_1106 ?_
  refine x_aload_n C rfl 0 rfl dL_law_1107 ?_
  refine x_iload C 4 rfl dL_law_1108 ?_
  refine x_iconst (v := 1) C (by decide) dL_law_1110 ?_
  refine x_iadd C dL_law_1111 ?_
  refine x_sld C hX hbl hbA a1 e1 dL_law_1112 ?_
  refine x_aload_n C rfl 0 rfl dL_law_1113 ?_
  refine x_iload C 4 rfl dL_law_1114 ?_
  refine x_iconst (v := 2) C (by decide) dL_law_1116 ?_
  refine x_iadd C dL_law_1117 ?_
  refine x_sld C hX hbl hbA a2 e2 dL_law_1118 ?_
  refine x_callV (dC := G11_table_dep) (as := [.int v1, .int v2]) (st := []) C rL hk0 (Nat.le_trans (Nat.le_of_ble_eq_true rfl) (Nat.le_refl 840)) (Nat.le_of_ble_eq_true rfl) ob0.1 ob0.2 (Nat.le_of_ble_eq_true rfl) rfl tw_4_205 tw_4_204 tw_4_203 tc_4_206 tw_1_1 hyX11 hnX11_table rfl (Nat.le_of_ble_eq_true rfl) dL_law_1119 (G11_table_met C.2.2.2.2.2.2.2.1 (Nat.le_refl _)  h) (fun r0 μ143 hq => ?_)
  obtain ⟨r144, rfl, h⟩ := hq
  refine x_st [.int r144] rfl ?_
  refine x_aload_n C rfl 2 rfl dL_law_1122 ?_
  refine x_aload_n C rfl 0 rfl dL_law_1123 ?_
  refine x_iload C 4 rfl dL_law_1124 ?_
  refine x_iconst (v := 1) C (by decide) dL_law_1126 ?_
  refine x_iadd C dL_law_1127 ?_
  refine x_sld C hX hbl hbA a1 e1 dL_law_1128 ?_
  refine x_aload_n C rfl 0 rfl dL_law_1129 ?_
  refine x_iload C 4 rfl dL_law_1130 ?_
  refine x_iconst (v := 2) C (by decide) dL_law_1132 ?_
  refine x_iadd C dL_law_1133 ?_
  refine x_sld C hX hbl hbA a2 e2 dL_law_1134 ?_
  refine x_callV (dC := G12_table_dep) (as := [.int v1, .int v2]) (st := [.int r144]) C rL hk0 (Nat.le_trans (Nat.le_of_ble_eq_true rfl) (Nat.le_refl 840)) (Nat.le_of_ble_eq_true rfl) ob358.1 ob358.2 (Nat.le_of_ble_eq_true rfl) rfl tw_7_236 tw_7_235 tw_7_234 tc_7_237 tw_1_13 hyX12 hnX12_table rfl (Nat.le_of_ble_eq_true rfl) dL_law_1135 (G12_table_met C.2.2.2.2.2.2.2.1 (Nat.le_refl _)  h) (fun r0 μ145 hq => ?_)
  obtain ⟨r146, rfl, h⟩ := hq
  refine x_st [.int r146, .int r144] rfl ?_
  refine x_icmp_eq (tgt := 1892) C dL_law_1138 (by decide) (fun c147 => ?_) (fun c147 => ?_)
  · have h := h.1 c147
    refine x_widen (Nat.le_add_right _ 1) (Nat.le_add_right _ 6) ?_
    exact K _ h
  · have h := h.2 c147
    refine x_iconst (v := 0) C (by decide) dL_law_1141 ?_
    exact h.elim
set_option maxHeartbeats 4000000 in
set_option maxRecDepth 100000 in
theorem law_25 (hfl : l.stackTraces = false) (C : CX p s m args meth c φ tc D LA s0 code RL 8) {b L : Nat} {xs : Nat → Int32} (hX : va_X b L xs s s.heap) (hbl : b < s.heap.size) (hbA : φ 800 = b ∧ ¬ LA b) (hkc : kc + 1 ≤ room_1.cells ∧ ks + 6 ≤ room_1.slots) {i v1 v2 v3 v4 v5 : Int32} (a1 : vp_in (i + 1) L) (a2 : vp_in (i + 2) L) (a3 : vp_in (i + 3) L) (a4 : vp_in (i + 4) L) (a5 : vp_in (i + 5) L) (e1 : xs (i + 1).toNatClampNeg = v1) (e2 : xs (i + 2).toNatClampNeg = v2) (e3 : xs (i + 3).toNatClampNeg = v3) (e4 : xs (i + 4).toNatClampNeg = v4) (e5 : xs (i + 5).toNatClampNeg = v5) {Kk : MM → Prop} (K : ∀ μ, Kk μ → WX p l e room_1 s m args below meth c φ tc D LA 8 (kc + 1) (ks + 6) Q 1892 [(0, .ref 800), (1, .ref 0), (2, .ref 358), (3, .ref 410), (4, .int i)] [] μ) {μ : MM} (h : Glaw_25 v1 v2 v3 v4 v5 μ Kk) : WX p l e room_1 s m args below meth c φ tc D LA 8 kc ks Q 1143 [(0, .ref 800), (1, .ref 0), (2, .ref 358), (3, .ref 410), (4, .int i)] [] μ := by
  have hk0 : kc ≤ room_1.cells ∧ ks ≤ room_1.slots := ⟨by omega, by omega⟩
  unfold Glaw_25 at h
  refine x_aload_n C rfl 1 rfl dL_law_1143 ?_
  refine x_aload_n C rfl 0 rfl dL_law_1144 ?_
  refine x_iload C 4 rfl dL_law_1145 ?_
  refine x_iconst (v := 1) C (by decide) dL_law_1147 ?_
  refine x_iadd C dL_law_1148 ?_
  refine x_sld C hX hbl hbA a1 e1 dL_law_1149 ?_
  refine x_aload_n C rfl 0 rfl dL_law_1150 ?_
  refine x_iload C 4 rfl dL_law_1151 ?_
  refine x_iconst (v := 2) C (by decide) dL_law_1153 ?_
  refine x_iadd C dL_law_1154 ?_
  refine x_sld C hX hbl hbA a2 e2 dL_law_1155 ?_
  refine x_aload_n C rfl 0 rfl dL_law_1156 ?_
  refine x_iload C 4 rfl dL_law_1157 ?_
  refine x_iconst (v := 3) C (by decide) dL_law_1159 ?_
  refine x_iadd C dL_law_1160 ?_
  refine x_sld C hX hbl hbA a3 e3 dL_law_1161 ?_
  refine x_callV (dC := G11_kind_dep) (as := [.int v1, .int v2, .int v3]) (st := []) C rL hk0 (Nat.le_trans (Nat.le_of_ble_eq_true rfl) (Nat.le_refl 840)) (Nat.le_of_ble_eq_true rfl) ob0.1 ob0.2 (Nat.le_of_ble_eq_true rfl) rfl tw_4_223 tw_4_222 tw_4_221 tc_4_224 tw_1_1 hyX11 hnX11_kind rfl (Nat.le_of_ble_eq_true rfl) dL_law_1162 (G11_kind_met C.2.2.2.2.2.2.2.1 (Nat.le_refl _)  h) (fun r0 μ148 hq => ?_)
  obtain ⟨r149, rfl, h⟩ := hq
  refine x_st [.int r149] rfl ?_
  refine x_aload_n C rfl 2 rfl dL_law_1165 ?_
  refine x_aload_n C rfl 0 rfl dL_law_1166 ?_
  refine x_iload C 4 rfl dL_law_1167 ?_
  refine x_iconst (v := 1) C (by decide) dL_law_1169 ?_
  refine x_iadd C dL_law_1170 ?_
  refine x_sld C hX hbl hbA a1 e1 dL_law_1171 ?_
  refine x_aload_n C rfl 0 rfl dL_law_1172 ?_
  refine x_iload C 4 rfl dL_law_1173 ?_
  refine x_iconst (v := 2) C (by decide) dL_law_1175 ?_
  refine x_iadd C dL_law_1176 ?_
  refine x_sld C hX hbl hbA a2 e2 dL_law_1177 ?_
  refine x_aload_n C rfl 0 rfl dL_law_1178 ?_
  refine x_iload C 4 rfl dL_law_1179 ?_
  refine x_iconst (v := 3) C (by decide) dL_law_1181 ?_
  refine x_iadd C dL_law_1182 ?_
  refine x_sld C hX hbl hbA a3 e3 dL_law_1183 ?_
  refine x_callV (dC := G12_kind_dep) (as := [.int v1, .int v2, .int v3]) (st := [.int r149]) C rL hk0 (Nat.le_trans (Nat.le_of_ble_eq_true rfl) (Nat.le_refl 840)) (Nat.le_of_ble_eq_true rfl) ob358.1 ob358.2 (Nat.le_of_ble_eq_true rfl) rfl tw_8_5 tw_8_4 tw_8_3 tc_8_6 tw_1_13 hyX12 hnX12_kind rfl (Nat.le_of_ble_eq_true rfl) dL_law_1184 (G12_kind_met C.2.2.2.2.2.2.2.1 (Nat.le_refl _)  h) (fun r0 μ150 hq => ?_)
  obtain ⟨r151, rfl, h⟩ := hq
  refine x_st [.int r151, .int r149] rfl ?_
  refine x_icmp_eq (tgt := 1892) C dL_law_1187 (by decide) (fun c152 => ?_) (fun c152 => ?_)
  · have h := h.1 c152
    refine x_widen (Nat.le_add_right _ 1) (Nat.le_add_right _ 6) ?_
    exact K _ h
  · have h := h.2 c152
    refine x_iconst (v := 0) C (by decide) dL_law_1190 ?_
    exact h.elim
set_option maxHeartbeats 4000000 in
set_option maxRecDepth 100000 in
theorem law_26 (hfl : l.stackTraces = false) (C : CX p s m args meth c φ tc D LA s0 code RL 8) {b L : Nat} {xs : Nat → Int32} (hX : va_X b L xs s s.heap) (hbl : b < s.heap.size) (hbA : φ 800 = b ∧ ¬ LA b) (hkc : kc + 1 ≤ room_1.cells ∧ ks + 6 ≤ room_1.slots) {i v1 v2 v3 v4 v5 : Int32} (a1 : vp_in (i + 1) L) (a2 : vp_in (i + 2) L) (a3 : vp_in (i + 3) L) (a4 : vp_in (i + 4) L) (a5 : vp_in (i + 5) L) (e1 : xs (i + 1).toNatClampNeg = v1) (e2 : xs (i + 2).toNatClampNeg = v2) (e3 : xs (i + 3).toNatClampNeg = v3) (e4 : xs (i + 4).toNatClampNeg = v4) (e5 : xs (i + 5).toNatClampNeg = v5) {Kk : MM → Prop} (K : ∀ μ, Kk μ → WX p l e room_1 s m args below meth c φ tc D LA 8 (kc + 1) (ks + 6) Q 1892 [(0, .ref 800), (1, .ref 0), (2, .ref 358), (3, .ref 410), (4, .int i)] [] μ) {μ : MM} (h : Glaw_26 v1 v2 v3 v4 v5 μ Kk) : WX p l e room_1 s m args below meth c φ tc D LA 8 kc ks Q 1192 [(0, .ref 800), (1, .ref 0), (2, .ref 358), (3, .ref 410), (4, .int i)] [] μ := by
  have hk0 : kc ≤ room_1.cells ∧ ks ≤ room_1.slots := ⟨by omega, by omega⟩
  unfold Glaw_26 at h
  refine x_aload_n C rfl 1 rfl dL_law_1192 ?_
  refine x_aload_n C rfl 0 rfl dL_law_1193 ?_
  refine x_iload C 4 rfl dL_law_1194 ?_
  refine x_iconst (v := 1) C (by decide) dL_law_1196 ?_
  refine x_iadd C dL_law_1197 ?_
  refine x_sld C hX hbl hbA a1 e1 dL_law_1198 ?_
  refine x_aload_n C rfl 0 rfl dL_law_1199 ?_
  refine x_iload C 4 rfl dL_law_1200 ?_
  refine x_iconst (v := 2) C (by decide) dL_law_1202 ?_
  refine x_iadd C dL_law_1203 ?_
  refine x_sld C hX hbl hbA a2 e2 dL_law_1204 ?_
  refine x_callV (dC := G11_parts_dep) (as := [.int v1, .int v2]) (st := []) C rL hk0 (Nat.le_trans (Nat.le_of_ble_eq_true rfl) (Nat.le_refl 840)) (Nat.le_of_ble_eq_true rfl) ob0.1 ob0.2 (Nat.le_of_ble_eq_true rfl) rfl tw_4_231 tw_4_230 tw_4_229 tc_4_232 tw_1_1 hyX11 hnX11_parts rfl (Nat.le_of_ble_eq_true rfl) dL_law_1205 (G11_parts_met C.2.2.2.2.2.2.2.1 (Nat.le_refl _)  h) (fun r0 μ153 hq => ?_)
  obtain ⟨r154, rfl, h⟩ := hq
  refine x_st [.int r154] rfl ?_
  refine x_aload_n C rfl 2 rfl dL_law_1208 ?_
  refine x_aload_n C rfl 0 rfl dL_law_1209 ?_
  refine x_iload C 4 rfl dL_law_1210 ?_
  refine x_iconst (v := 1) C (by decide) dL_law_1212 ?_
  refine x_iadd C dL_law_1213 ?_
  refine x_sld C hX hbl hbA a1 e1 dL_law_1214 ?_
  refine x_aload_n C rfl 0 rfl dL_law_1215 ?_
  refine x_iload C 4 rfl dL_law_1216 ?_
  refine x_iconst (v := 2) C (by decide) dL_law_1218 ?_
  refine x_iadd C dL_law_1219 ?_
  refine x_sld C hX hbl hbA a2 e2 dL_law_1220 ?_
  refine x_callV (dC := G12_parts_dep) (as := [.int v1, .int v2]) (st := [.int r154]) C rL hk0 (Nat.le_trans (Nat.le_of_ble_eq_true rfl) (Nat.le_refl 840)) (Nat.le_of_ble_eq_true rfl) ob358.1 ob358.2 (Nat.le_of_ble_eq_true rfl) rfl tw_8_13 tw_8_12 tw_8_11 tc_8_14 tw_1_13 hyX12 hnX12_parts rfl (Nat.le_of_ble_eq_true rfl) dL_law_1221 (G12_parts_met C.2.2.2.2.2.2.2.1 (Nat.le_refl _)  h) (fun r0 μ155 hq => ?_)
  obtain ⟨r156, rfl, h⟩ := hq
  refine x_st [.int r156, .int r154] rfl ?_
  refine x_icmp_eq (tgt := 1892) C dL_law_1224 (by decide) (fun c157 => ?_) (fun c157 => ?_)
  · have h := h.1 c157
    refine x_widen (Nat.le_add_right _ 1) (Nat.le_add_right _ 6) ?_
    exact K _ h
  · have h := h.2 c157
    refine x_iconst (v := 0) C (by decide) dL_law_1227 ?_
    exact h.elim
set_option maxHeartbeats 4000000 in
set_option maxRecDepth 100000 in
theorem law_27 (hfl : l.stackTraces = false) (C : CX p s m args meth c φ tc D LA s0 code RL 8) {b L : Nat} {xs : Nat → Int32} (hX : va_X b L xs s s.heap) (hbl : b < s.heap.size) (hbA : φ 800 = b ∧ ¬ LA b) (hkc : kc + 1 ≤ room_1.cells ∧ ks + 6 ≤ room_1.slots) {i v1 v2 v3 v4 v5 : Int32} (a1 : vp_in (i + 1) L) (a2 : vp_in (i + 2) L) (a3 : vp_in (i + 3) L) (a4 : vp_in (i + 4) L) (a5 : vp_in (i + 5) L) (e1 : xs (i + 1).toNatClampNeg = v1) (e2 : xs (i + 2).toNatClampNeg = v2) (e3 : xs (i + 3).toNatClampNeg = v3) (e4 : xs (i + 4).toNatClampNeg = v4) (e5 : xs (i + 5).toNatClampNeg = v5) {Kk : MM → Prop} (K : ∀ μ, Kk μ → WX p l e room_1 s m args below meth c φ tc D LA 8 (kc + 1) (ks + 6) Q 1892 [(0, .ref 800), (1, .ref 0), (2, .ref 358), (3, .ref 410), (4, .int i)] [] μ) {μ : MM} (h : Glaw_27 v1 v2 v3 v4 v5 μ Kk) : WX p l e room_1 s m args below meth c φ tc D LA 8 kc ks Q 1229 [(0, .ref 800), (1, .ref 0), (2, .ref 358), (3, .ref 410), (4, .int i)] [] μ := by
  have hk0 : kc ≤ room_1.cells ∧ ks ≤ room_1.slots := ⟨by omega, by omega⟩
  unfold Glaw_27 at h
  refine x_aload_n C rfl 1 rfl dL_law_1229 ?_
  refine x_aload_n C rfl 0 rfl dL_law_1230 ?_
  refine x_iload C 4 rfl dL_law_1231 ?_
  refine x_iconst (v := 1) C (by decide) dL_law_1233 ?_
  refine x_iadd C dL_law_1234 ?_
  refine x_sld C hX hbl hbA a1 e1 dL_law_1235 ?_
  refine x_aload_n C rfl 0 rfl dL_law_1236 ?_
  refine x_iload C 4 rfl dL_law_1237 ?_
  refine x_iconst (v := 2) C (by decide) dL_law_1239 ?_
  refine x_iadd C dL_law_1240 ?_
  refine x_sld C hX hbl hbA a2 e2 dL_law_1241 ?_
  refine x_callV (dC := G11_likely_dep) (as := [.int v1, .int v2]) (st := []) C rL hk0 (Nat.le_trans (Nat.le_of_ble_eq_true rfl) (Nat.le_refl 840)) (Nat.le_of_ble_eq_true rfl) ob0.1 ob0.2 (Nat.le_of_ble_eq_true rfl) rfl tw_4_239 tw_4_238 tw_4_237 tc_5_0 tw_1_1 hyX11 hnX11_likely rfl (Nat.le_of_ble_eq_true rfl) dL_law_1242 (G11_likely_met C.2.2.2.2.2.2.2.1 (Nat.le_refl _)  h) (fun r0 μ158 hq => ?_)
  obtain ⟨r159, rfl, h⟩ := hq
  refine x_st [.int r159] rfl ?_
  refine x_aload_n C rfl 2 rfl dL_law_1245 ?_
  refine x_aload_n C rfl 0 rfl dL_law_1246 ?_
  refine x_iload C 4 rfl dL_law_1247 ?_
  refine x_iconst (v := 1) C (by decide) dL_law_1249 ?_
  refine x_iadd C dL_law_1250 ?_
  refine x_sld C hX hbl hbA a1 e1 dL_law_1251 ?_
  refine x_aload_n C rfl 0 rfl dL_law_1252 ?_
  refine x_iload C 4 rfl dL_law_1253 ?_
  refine x_iconst (v := 2) C (by decide) dL_law_1255 ?_
  refine x_iadd C dL_law_1256 ?_
  refine x_sld C hX hbl hbA a2 e2 dL_law_1257 ?_
  refine x_callV (dC := G12_likely_dep) (as := [.int v1, .int v2]) (st := [.int r159]) C rL hk0 (Nat.le_trans (Nat.le_of_ble_eq_true rfl) (Nat.le_refl 840)) (Nat.le_of_ble_eq_true rfl) ob358.1 ob358.2 (Nat.le_of_ble_eq_true rfl) rfl tw_8_17 tw_8_16 tw_8_15 tc_8_18 tw_1_13 hyX12 hnX12_likely rfl (Nat.le_of_ble_eq_true rfl) dL_law_1258 (G12_likely_met C.2.2.2.2.2.2.2.1 (Nat.le_refl _)  h) (fun r0 μ160 hq => ?_)
  obtain ⟨r161, rfl, h⟩ := hq
  refine x_st [.int r161, .int r159] rfl ?_
  refine x_icmp_eq (tgt := 1892) C dL_law_1261 (by decide) (fun c162 => ?_) (fun c162 => ?_)
  · have h := h.1 c162
    refine x_widen (Nat.le_add_right _ 1) (Nat.le_add_right _ 6) ?_
    exact K _ h
  · have h := h.2 c162
    refine x_iconst (v := 0) C (by decide) dL_law_1264 ?_
    exact h.elim
set_option maxHeartbeats 4000000 in
set_option maxRecDepth 100000 in
theorem law_28 (hfl : l.stackTraces = false) (C : CX p s m args meth c φ tc D LA s0 code RL 8) {b L : Nat} {xs : Nat → Int32} (hX : va_X b L xs s s.heap) (hbl : b < s.heap.size) (hbA : φ 800 = b ∧ ¬ LA b) (hkc : kc + 1 ≤ room_1.cells ∧ ks + 6 ≤ room_1.slots) {i v1 v2 v3 v4 v5 : Int32} (a1 : vp_in (i + 1) L) (a2 : vp_in (i + 2) L) (a3 : vp_in (i + 3) L) (a4 : vp_in (i + 4) L) (a5 : vp_in (i + 5) L) (e1 : xs (i + 1).toNatClampNeg = v1) (e2 : xs (i + 2).toNatClampNeg = v2) (e3 : xs (i + 3).toNatClampNeg = v3) (e4 : xs (i + 4).toNatClampNeg = v4) (e5 : xs (i + 5).toNatClampNeg = v5) {Kk : MM → Prop} (K : ∀ μ, Kk μ → WX p l e room_1 s m args below meth c φ tc D LA 8 (kc + 1) (ks + 6) Q 1892 [(0, .ref 800), (1, .ref 0), (2, .ref 358), (3, .ref 410), (4, .int i)] [] μ) {μ : MM} (h : Glaw_28 v1 v2 v3 v4 v5 μ Kk) : WX p l e room_1 s m args below meth c φ tc D LA 8 kc ks Q 1266 [(0, .ref 800), (1, .ref 0), (2, .ref 358), (3, .ref 410), (4, .int i)] [] μ := by
  have hk0 : kc ≤ room_1.cells ∧ ks ≤ room_1.slots := ⟨by omega, by omega⟩
  unfold Glaw_28 at h
  refine x_aload_n C rfl 1 rfl dL_law_1266 ?_
  refine x_callV (dC := G11_fit_dep) (as := []) (st := []) C rL hk0 (Nat.le_trans (Nat.le_of_ble_eq_true rfl) (Nat.le_refl 840)) (Nat.le_of_ble_eq_true rfl) ob0.1 ob0.2 (Nat.le_of_ble_eq_true rfl) rfl tw_5_17 tw_5_16 tw_5_15 tc_5_18 tw_1_1 hyX11 hnX11_fit rfl (Nat.le_of_ble_eq_true rfl) dL_law_1267 (G11_fit_met C.2.2.2.2.2.2.2.1 (Nat.le_refl _)  h) (fun r0 μ163 hq => ?_)
  obtain ⟨r164, rfl, h⟩ := hq
  refine x_st [.int r164] rfl ?_
  refine x_aload_n C rfl 2 rfl dL_law_1270 ?_
  refine x_callV (dC := G12_fit_dep) (as := []) (st := [.int r164]) C rL hk0 (Nat.le_trans (Nat.le_of_ble_eq_true rfl) (Nat.le_refl 840)) (Nat.le_of_ble_eq_true rfl) ob358.1 ob358.2 (Nat.le_of_ble_eq_true rfl) rfl tw_8_37 tw_8_36 tw_8_35 tc_8_38 tw_1_13 hyX12 hnX12_fit rfl (Nat.le_of_ble_eq_true rfl) dL_law_1271 (G12_fit_met C.2.2.2.2.2.2.2.1 (Nat.le_refl _)  h) (fun r0 μ165 hq => ?_)
  obtain ⟨r166, rfl, h⟩ := hq
  refine x_st [.int r166, .int r164] rfl ?_
  refine x_icmp_eq (tgt := 1892) C dL_law_1274 (by decide) (fun c167 => ?_) (fun c167 => ?_)
  · have h := h.1 c167
    refine x_widen (Nat.le_add_right _ 1) (Nat.le_add_right _ 6) ?_
    exact K _ h
  · have h := h.2 c167
    refine x_iconst (v := 0) C (by decide) dL_law_1277 ?_
    exact h.elim
set_option maxHeartbeats 4000000 in
set_option maxRecDepth 100000 in
theorem law_29 (hfl : l.stackTraces = false) (C : CX p s m args meth c φ tc D LA s0 code RL 8) {b L : Nat} {xs : Nat → Int32} (hX : va_X b L xs s s.heap) (hbl : b < s.heap.size) (hbA : φ 800 = b ∧ ¬ LA b) (hkc : kc + 1 ≤ room_1.cells ∧ ks + 6 ≤ room_1.slots) {i v1 v2 v3 v4 v5 : Int32} (a1 : vp_in (i + 1) L) (a2 : vp_in (i + 2) L) (a3 : vp_in (i + 3) L) (a4 : vp_in (i + 4) L) (a5 : vp_in (i + 5) L) (e1 : xs (i + 1).toNatClampNeg = v1) (e2 : xs (i + 2).toNatClampNeg = v2) (e3 : xs (i + 3).toNatClampNeg = v3) (e4 : xs (i + 4).toNatClampNeg = v4) (e5 : xs (i + 5).toNatClampNeg = v5) {Kk : MM → Prop} (K : ∀ μ, Kk μ → WX p l e room_1 s m args below meth c φ tc D LA 8 (kc + 1) (ks + 6) Q 1892 [(0, .ref 800), (1, .ref 0), (2, .ref 358), (3, .ref 410), (4, .int i)] [] μ) {μ : MM} (h : Glaw_29 v1 v2 v3 v4 v5 μ Kk) : WX p l e room_1 s m args below meth c φ tc D LA 8 kc ks Q 1279 [(0, .ref 800), (1, .ref 0), (2, .ref 358), (3, .ref 410), (4, .int i)] [] μ := by
  have hk0 : kc ≤ room_1.cells ∧ ks ≤ room_1.slots := ⟨by omega, by omega⟩
  unfold Glaw_29 at h
  refine x_aload_n C rfl 1 rfl dL_law_1279 ?_
  refine x_aload_n C rfl 0 rfl dL_law_1280 ?_
  refine x_iload C 4 rfl dL_law_1281 ?_
  refine x_iconst (v := 1) C (by decide) dL_law_1283 ?_
  refine x_iadd C dL_law_1284 ?_
  refine x_sld C hX hbl hbA a1 e1 dL_law_1285 ?_
  refine x_aload_n C rfl 0 rfl dL_law_1286 ?_
  refine x_iload C 4 rfl dL_law_1287 ?_
  refine x_iconst (v := 2) C (by decide) dL_law_1289 ?_
  refine x_iadd C dL_law_1290 ?_
  refine x_sld C hX hbl hbA a2 e2 dL_law_1291 ?_
  refine x_callV (dC := G11_named_dep) (as := [.int v1, .int v2]) (st := []) C rL hk0 (Nat.le_trans (Nat.le_of_ble_eq_true rfl) (Nat.le_refl 840)) (Nat.le_of_ble_eq_true rfl) ob0.1 ob0.2 (Nat.le_of_ble_eq_true rfl) rfl tw_5_55 tw_5_54 tw_5_53 tc_5_56 tw_1_1 hyX11 hnX11_named rfl (Nat.le_of_ble_eq_true rfl) dL_law_1292 (G11_named_met C.2.2.2.2.2.2.2.1 (Nat.le_refl _)  h) (fun r0 μ168 hq => ?_)
  obtain ⟨r169, rfl, h⟩ := hq
  refine x_st [.int r169] rfl ?_
  refine x_aload_n C rfl 2 rfl dL_law_1295 ?_
  refine x_aload_n C rfl 0 rfl dL_law_1296 ?_
  refine x_iload C 4 rfl dL_law_1297 ?_
  refine x_iconst (v := 1) C (by decide) dL_law_1299 ?_
  refine x_iadd C dL_law_1300 ?_
  refine x_sld C hX hbl hbA a1 e1 dL_law_1301 ?_
  refine x_aload_n C rfl 0 rfl dL_law_1302 ?_
  refine x_iload C 4 rfl dL_law_1303 ?_
  refine x_iconst (v := 2) C (by decide) dL_law_1305 ?_
  refine x_iadd C dL_law_1306 ?_
  refine x_sld C hX hbl hbA a2 e2 dL_law_1307 ?_
  refine x_callV (dC := G12_named_dep) (as := [.int v1, .int v2]) (st := [.int r169]) C rL hk0 (Nat.le_trans (Nat.le_of_ble_eq_true rfl) (Nat.le_refl 840)) (Nat.le_of_ble_eq_true rfl) ob358.1 ob358.2 (Nat.le_of_ble_eq_true rfl) rfl tw_8_54 tw_8_53 tw_8_52 tc_8_55 tw_1_13 hyX12 hnX12_named rfl (Nat.le_of_ble_eq_true rfl) dL_law_1308 (G12_named_met C.2.2.2.2.2.2.2.1 (Nat.le_refl _)  h) (fun r0 μ170 hq => ?_)
  obtain ⟨r171, rfl, h⟩ := hq
  refine x_st [.int r171, .int r169] rfl ?_
  refine x_icmp_eq (tgt := 1892) C dL_law_1311 (by decide) (fun c172 => ?_) (fun c172 => ?_)
  · have h := h.1 c172
    refine x_widen (Nat.le_add_right _ 1) (Nat.le_add_right _ 6) ?_
    exact K _ h
  · have h := h.2 c172
    refine x_iconst (v := 0) C (by decide) dL_law_1314 ?_
    exact h.elim
set_option maxHeartbeats 4000000 in
set_option maxRecDepth 100000 in
theorem law_30 (hfl : l.stackTraces = false) (C : CX p s m args meth c φ tc D LA s0 code RL 8) {b L : Nat} {xs : Nat → Int32} (hX : va_X b L xs s s.heap) (hbl : b < s.heap.size) (hbA : φ 800 = b ∧ ¬ LA b) (hkc : kc + 1 ≤ room_1.cells ∧ ks + 6 ≤ room_1.slots) {i v1 v2 v3 v4 v5 : Int32} (a1 : vp_in (i + 1) L) (a2 : vp_in (i + 2) L) (a3 : vp_in (i + 3) L) (a4 : vp_in (i + 4) L) (a5 : vp_in (i + 5) L) (e1 : xs (i + 1).toNatClampNeg = v1) (e2 : xs (i + 2).toNatClampNeg = v2) (e3 : xs (i + 3).toNatClampNeg = v3) (e4 : xs (i + 4).toNatClampNeg = v4) (e5 : xs (i + 5).toNatClampNeg = v5) {Kk : MM → Prop} (K : ∀ μ, Kk μ → WX p l e room_1 s m args below meth c φ tc D LA 8 (kc + 1) (ks + 6) Q 1892 [(0, .ref 800), (1, .ref 0), (2, .ref 358), (3, .ref 410), (4, .int i)] [] μ) {μ : MM} (h : Glaw_30 v1 v2 v3 v4 v5 μ Kk) : WX p l e room_1 s m args below meth c φ tc D LA 8 kc ks Q 1316 [(0, .ref 800), (1, .ref 0), (2, .ref 358), (3, .ref 410), (4, .int i)] [] μ := by
  have hk0 : kc ≤ room_1.cells ∧ ks ≤ room_1.slots := ⟨by omega, by omega⟩
  unfold Glaw_30 at h
  refine x_aload_n C rfl 1 rfl dL_law_1316 ?_
  refine x_aload_n C rfl 0 rfl dL_law_1317 ?_
  refine x_iload C 4 rfl dL_law_1318 ?_
  refine x_iconst (v := 1) C (by decide) dL_law_1320 ?_
  refine x_iadd C dL_law_1321 ?_
  refine x_sld C hX hbl hbA a1 e1 dL_law_1322 ?_
  refine x_aload_n C rfl 0 rfl dL_law_1323 ?_
  refine x_iload C 4 rfl dL_law_1324 ?_
  refine x_iconst (v := 2) C (by decide) dL_law_1326 ?_
  refine x_iadd C dL_law_1327 ?_
  refine x_sld C hX hbl hbA a2 e2 dL_law_1328 ?_
  refine x_callV (dC := G11_sure_dep) (as := [.int v1, .int v2]) (st := []) C rL hk0 (Nat.le_trans (Nat.le_of_ble_eq_true rfl) (Nat.le_refl 840)) (Nat.le_of_ble_eq_true rfl) ob0.1 ob0.2 (Nat.le_of_ble_eq_true rfl) rfl tw_5_76 tw_5_75 tw_5_74 tc_5_77 tw_1_1 hyX11 hnX11_sure rfl (Nat.le_of_ble_eq_true rfl) dL_law_1329 (G11_sure_met C.2.2.2.2.2.2.2.1 (Nat.le_refl _)  h) (fun r0 μ173 hq => ?_)
  obtain ⟨r174, rfl, h⟩ := hq
  refine x_st [.int r174] rfl ?_
  refine x_aload_n C rfl 2 rfl dL_law_1332 ?_
  refine x_aload_n C rfl 0 rfl dL_law_1333 ?_
  refine x_iload C 4 rfl dL_law_1334 ?_
  refine x_iconst (v := 1) C (by decide) dL_law_1336 ?_
  refine x_iadd C dL_law_1337 ?_
  refine x_sld C hX hbl hbA a1 e1 dL_law_1338 ?_
  refine x_aload_n C rfl 0 rfl dL_law_1339 ?_
  refine x_iload C 4 rfl dL_law_1340 ?_
  refine x_iconst (v := 2) C (by decide) dL_law_1342 ?_
  refine x_iadd C dL_law_1343 ?_
  refine x_sld C hX hbl hbA a2 e2 dL_law_1344 ?_
  refine x_callV (dC := G12_sure_dep) (as := [.int v1, .int v2]) (st := [.int r174]) C rL hk0 (Nat.le_trans (Nat.le_of_ble_eq_true rfl) (Nat.le_refl 840)) (Nat.le_of_ble_eq_true rfl) ob358.1 ob358.2 (Nat.le_of_ble_eq_true rfl) rfl tw_8_65 tw_8_64 tw_8_63 tc_8_66 tw_1_13 hyX12 hnX12_sure rfl (Nat.le_of_ble_eq_true rfl) dL_law_1345 (G12_sure_met C.2.2.2.2.2.2.2.1 (Nat.le_refl _)  h) (fun r0 μ175 hq => ?_)
  obtain ⟨r176, rfl, h⟩ := hq
  refine x_st [.int r176, .int r174] rfl ?_
  refine x_icmp_eq (tgt := 1892) C dL_law_1348 (by decide) (fun c177 => ?_) (fun c177 => ?_)
  · have h := h.1 c177
    refine x_widen (Nat.le_add_right _ 1) (Nat.le_add_right _ 6) ?_
    exact K _ h
  · have h := h.2 c177
    refine x_iconst (v := 0) C (by decide) dL_law_1351 ?_
    exact h.elim
set_option maxHeartbeats 4000000 in
set_option maxRecDepth 100000 in
theorem law_31 (hfl : l.stackTraces = false) (C : CX p s m args meth c φ tc D LA s0 code RL 8) {b L : Nat} {xs : Nat → Int32} (hX : va_X b L xs s s.heap) (hbl : b < s.heap.size) (hbA : φ 800 = b ∧ ¬ LA b) (hkc : kc + 1 ≤ room_1.cells ∧ ks + 6 ≤ room_1.slots) {i v1 v2 v3 v4 v5 : Int32} (a1 : vp_in (i + 1) L) (a2 : vp_in (i + 2) L) (a3 : vp_in (i + 3) L) (a4 : vp_in (i + 4) L) (a5 : vp_in (i + 5) L) (e1 : xs (i + 1).toNatClampNeg = v1) (e2 : xs (i + 2).toNatClampNeg = v2) (e3 : xs (i + 3).toNatClampNeg = v3) (e4 : xs (i + 4).toNatClampNeg = v4) (e5 : xs (i + 5).toNatClampNeg = v5) {Kk : MM → Prop} (K : ∀ μ, Kk μ → WX p l e room_1 s m args below meth c φ tc D LA 8 (kc + 1) (ks + 6) Q 1892 [(0, .ref 800), (1, .ref 0), (2, .ref 358), (3, .ref 410), (4, .int i)] [] μ) {μ : MM} (h : Glaw_31 v1 v2 v3 v4 v5 μ Kk) : WX p l e room_1 s m args below meth c φ tc D LA 8 kc ks Q 1353 [(0, .ref 800), (1, .ref 0), (2, .ref 358), (3, .ref 410), (4, .int i)] [] μ := by
  have hk0 : kc ≤ room_1.cells ∧ ks ≤ room_1.slots := ⟨by omega, by omega⟩
  unfold Glaw_31 at h
  refine x_aload_n C rfl 1 rfl dL_law_1353 ?_
  refine x_callV (dC := G11_most_dep) (as := []) (st := []) C rL hk0 (Nat.le_trans (Nat.le_of_ble_eq_true rfl) (Nat.le_refl 840)) (Nat.le_of_ble_eq_true rfl) ob0.1 ob0.2 (Nat.le_of_ble_eq_true rfl) rfl tw_5_85 tw_5_84 tw_5_83 tc_5_86 tw_1_1 hyX11 hnX11_most rfl (Nat.le_of_ble_eq_true rfl) dL_law_1354 (G11_most_met C.2.2.2.2.2.2.2.1 (Nat.le_refl _)  h) (fun r0 μ178 hq => ?_)
  obtain ⟨r179, rfl, h⟩ := hq
  refine x_st [.int r179] rfl ?_
  refine x_aload_n C rfl 2 rfl dL_law_1357 ?_
  refine x_callV (dC := G12_most_dep) (as := []) (st := [.int r179]) C rL hk0 (Nat.le_trans (Nat.le_of_ble_eq_true rfl) (Nat.le_refl 840)) (Nat.le_of_ble_eq_true rfl) ob358.1 ob358.2 (Nat.le_of_ble_eq_true rfl) rfl tw_8_70 tw_8_69 tw_8_68 tc_8_71 tw_1_13 hyX12 hnX12_most rfl (Nat.le_of_ble_eq_true rfl) dL_law_1358 (G12_most_met C.2.2.2.2.2.2.2.1 (Nat.le_refl _)  h) (fun r0 μ180 hq => ?_)
  obtain ⟨r181, rfl, h⟩ := hq
  refine x_st [.int r181, .int r179] rfl ?_
  refine x_icmp_eq (tgt := 1892) C dL_law_1361 (by decide) (fun c182 => ?_) (fun c182 => ?_)
  · have h := h.1 c182
    refine x_widen (Nat.le_add_right _ 1) (Nat.le_add_right _ 6) ?_
    exact K _ h
  · have h := h.2 c182
    refine x_iconst (v := 0) C (by decide) dL_law_1364 ?_
    exact h.elim
set_option maxHeartbeats 4000000 in
set_option maxRecDepth 100000 in
theorem law_32 (hfl : l.stackTraces = false) (C : CX p s m args meth c φ tc D LA s0 code RL 8) {b L : Nat} {xs : Nat → Int32} (hX : va_X b L xs s s.heap) (hbl : b < s.heap.size) (hbA : φ 800 = b ∧ ¬ LA b) (hkc : kc + 1 ≤ room_1.cells ∧ ks + 6 ≤ room_1.slots) {i v1 v2 v3 v4 v5 : Int32} (a1 : vp_in (i + 1) L) (a2 : vp_in (i + 2) L) (a3 : vp_in (i + 3) L) (a4 : vp_in (i + 4) L) (a5 : vp_in (i + 5) L) (e1 : xs (i + 1).toNatClampNeg = v1) (e2 : xs (i + 2).toNatClampNeg = v2) (e3 : xs (i + 3).toNatClampNeg = v3) (e4 : xs (i + 4).toNatClampNeg = v4) (e5 : xs (i + 5).toNatClampNeg = v5) {Kk : MM → Prop} (K : ∀ μ, Kk μ → WX p l e room_1 s m args below meth c φ tc D LA 8 (kc + 1) (ks + 6) Q 1892 [(0, .ref 800), (1, .ref 0), (2, .ref 358), (3, .ref 410), (4, .int i)] [] μ) {μ : MM} (h : Glaw_32 v1 v2 v3 v4 v5 μ Kk) : WX p l e room_1 s m args below meth c φ tc D LA 8 kc ks Q 1366 [(0, .ref 800), (1, .ref 0), (2, .ref 358), (3, .ref 410), (4, .int i)] [] μ := by
  have hk0 : kc ≤ room_1.cells ∧ ks ≤ room_1.slots := ⟨by omega, by omega⟩
  unfold Glaw_32 at h
  refine x_aload_n C rfl 1 rfl dL_law_1366 ?_
  refine x_aload_n C rfl 0 rfl dL_law_1367 ?_
  refine x_iload C 4 rfl dL_law_1368 ?_
  refine x_iconst (v := 1) C (by decide) dL_law_1370 ?_
  refine x_iadd C dL_law_1371 ?_
  refine x_sld C hX hbl hbA a1 e1 dL_law_1372 ?_
  refine x_callV (dC := G11_both_dep) (as := [.int v1]) (st := []) C rL hk0 (Nat.le_trans (Nat.le_of_ble_eq_true rfl) (Nat.le_refl 840)) (Nat.le_of_ble_eq_true rfl) ob0.1 ob0.2 (Nat.le_of_ble_eq_true rfl) rfl tw_5_97 tw_5_96 tw_5_95 tc_5_98 tw_1_1 hyX11 hnX11_both rfl (Nat.le_of_ble_eq_true rfl) dL_law_1373 (G11_both_met C.2.2.2.2.2.2.2.1 (Nat.le_refl _)  h) (fun r0 μ183 hq => ?_)
  obtain ⟨r184, rfl, h⟩ := hq
  refine x_st [.int r184] rfl ?_
  refine x_aload_n C rfl 2 rfl dL_law_1376 ?_
  refine x_aload_n C rfl 0 rfl dL_law_1377 ?_
  refine x_iload C 4 rfl dL_law_1378 ?_
  refine x_iconst (v := 1) C (by decide) dL_law_1380 ?_
  refine x_iadd C dL_law_1381 ?_
  refine x_sld C hX hbl hbA a1 e1 dL_law_1382 ?_
  refine x_callV (dC := G12_both_dep) (as := [.int v1]) (st := [.int r184]) C rL hk0 (Nat.le_trans (Nat.le_of_ble_eq_true rfl) (Nat.le_refl 840)) (Nat.le_of_ble_eq_true rfl) ob358.1 ob358.2 (Nat.le_of_ble_eq_true rfl) rfl tw_8_74 tw_8_73 tw_8_72 tc_8_75 tw_1_13 hyX12 hnX12_both rfl (Nat.le_of_ble_eq_true rfl) dL_law_1383 (G12_both_met C.2.2.2.2.2.2.2.1 (Nat.le_refl _)  h) (fun r0 μ185 hq => ?_)
  obtain ⟨r186, rfl, h⟩ := hq
  refine x_st [.int r186, .int r184] rfl ?_
  refine x_icmp_eq (tgt := 1892) C dL_law_1386 (by decide) (fun c187 => ?_) (fun c187 => ?_)
  · have h := h.1 c187
    refine x_widen (Nat.le_add_right _ 1) (Nat.le_add_right _ 6) ?_
    exact K _ h
  · have h := h.2 c187
    refine x_iconst (v := 0) C (by decide) dL_law_1389 ?_
    exact h.elim
set_option maxHeartbeats 4000000 in
set_option maxRecDepth 100000 in
theorem law_33 (hfl : l.stackTraces = false) (C : CX p s m args meth c φ tc D LA s0 code RL 8) {b L : Nat} {xs : Nat → Int32} (hX : va_X b L xs s s.heap) (hbl : b < s.heap.size) (hbA : φ 800 = b ∧ ¬ LA b) (hkc : kc + 1 ≤ room_1.cells ∧ ks + 6 ≤ room_1.slots) {i v1 v2 v3 v4 v5 : Int32} (a1 : vp_in (i + 1) L) (a2 : vp_in (i + 2) L) (a3 : vp_in (i + 3) L) (a4 : vp_in (i + 4) L) (a5 : vp_in (i + 5) L) (e1 : xs (i + 1).toNatClampNeg = v1) (e2 : xs (i + 2).toNatClampNeg = v2) (e3 : xs (i + 3).toNatClampNeg = v3) (e4 : xs (i + 4).toNatClampNeg = v4) (e5 : xs (i + 5).toNatClampNeg = v5) {Kk : MM → Prop} (K : ∀ μ, Kk μ → WX p l e room_1 s m args below meth c φ tc D LA 8 (kc + 1) (ks + 6) Q 1892 [(0, .ref 800), (1, .ref 0), (2, .ref 358), (3, .ref 410), (4, .int i)] [] μ) {μ : MM} (h : Glaw_33 v1 v2 v3 v4 v5 μ Kk) : WX p l e room_1 s m args below meth c φ tc D LA 8 kc ks Q 1391 [(0, .ref 800), (1, .ref 0), (2, .ref 358), (3, .ref 410), (4, .int i)] [] μ := by
  have hk0 : kc ≤ room_1.cells ∧ ks ≤ room_1.slots := ⟨by omega, by omega⟩
  unfold Glaw_33 at h
  refine x_aload_n C rfl 1 rfl dL_law_1391 ?_
  refine x_aload_n C rfl 0 rfl dL_law_1392 ?_
  refine x_iload C 4 rfl dL_law_1393 ?_
  refine x_iconst (v := 1) C (by decide) dL_law_1395 ?_
  refine x_iadd C dL_law_1396 ?_
  refine x_sld C hX hbl hbA a1 e1 dL_law_1397 ?_
  refine x_callV (dC := G11_explains_dep) (as := [.int v1]) (st := []) C rL hk0 (Nat.le_trans (Nat.le_of_ble_eq_true rfl) (Nat.le_refl 840)) (Nat.le_of_ble_eq_true rfl) ob0.1 ob0.2 (Nat.le_of_ble_eq_true rfl) rfl tw_5_119 tw_5_118 tw_5_117 tc_5_120 tw_1_1 hyX11 hnX11_explains rfl (Nat.le_of_ble_eq_true rfl) dL_law_1398 (G11_explains_met C.2.2.2.2.2.2.2.1 (Nat.le_refl _)  h) (fun r0 μ188 hq => ?_)
  obtain ⟨r189, rfl, h⟩ := hq
  refine x_st [.int r189] rfl ?_
  refine x_aload_n C rfl 2 rfl dL_law_1401 ?_
  refine x_aload_n C rfl 0 rfl dL_law_1402 ?_
  refine x_iload C 4 rfl dL_law_1403 ?_
  refine x_iconst (v := 1) C (by decide) dL_law_1405 ?_
  refine x_iadd C dL_law_1406 ?_
  refine x_sld C hX hbl hbA a1 e1 dL_law_1407 ?_
  refine x_callV (dC := G12_explains_dep) (as := [.int v1]) (st := [.int r189]) C rL hk0 (Nat.le_trans (Nat.le_of_ble_eq_true rfl) (Nat.le_refl 840)) (Nat.le_of_ble_eq_true rfl) ob358.1 ob358.2 (Nat.le_of_ble_eq_true rfl) rfl tw_8_78 tw_8_77 tw_8_76 tc_8_79 tw_1_13 hyX12 hnX12_explains rfl (Nat.le_of_ble_eq_true rfl) dL_law_1408 (G12_explains_met C.2.2.2.2.2.2.2.1 (Nat.le_refl _)  h) (fun r0 μ190 hq => ?_)
  obtain ⟨r191, rfl, h⟩ := hq
  refine x_st [.int r191, .int r189] rfl ?_
  refine x_icmp_eq (tgt := 1892) C dL_law_1411 (by decide) (fun c192 => ?_) (fun c192 => ?_)
  · have h := h.1 c192
    refine x_widen (Nat.le_add_right _ 1) (Nat.le_add_right _ 6) ?_
    exact K _ h
  · have h := h.2 c192
    refine x_iconst (v := 0) C (by decide) dL_law_1414 ?_
    exact h.elim
set_option maxHeartbeats 4000000 in
set_option maxRecDepth 100000 in
theorem law_34 (hfl : l.stackTraces = false) (C : CX p s m args meth c φ tc D LA s0 code RL 8) {b L : Nat} {xs : Nat → Int32} (hX : va_X b L xs s s.heap) (hbl : b < s.heap.size) (hbA : φ 800 = b ∧ ¬ LA b) (hkc : kc + 1 ≤ room_1.cells ∧ ks + 6 ≤ room_1.slots) {i v1 v2 v3 v4 v5 : Int32} (a1 : vp_in (i + 1) L) (a2 : vp_in (i + 2) L) (a3 : vp_in (i + 3) L) (a4 : vp_in (i + 4) L) (a5 : vp_in (i + 5) L) (e1 : xs (i + 1).toNatClampNeg = v1) (e2 : xs (i + 2).toNatClampNeg = v2) (e3 : xs (i + 3).toNatClampNeg = v3) (e4 : xs (i + 4).toNatClampNeg = v4) (e5 : xs (i + 5).toNatClampNeg = v5) {Kk : MM → Prop} (K : ∀ μ, Kk μ → WX p l e room_1 s m args below meth c φ tc D LA 8 (kc + 1) (ks + 6) Q 1892 [(0, .ref 800), (1, .ref 0), (2, .ref 358), (3, .ref 410), (4, .int i)] [] μ) {μ : MM} (h : Glaw_34 v1 v2 v3 v4 v5 μ Kk) : WX p l e room_1 s m args below meth c φ tc D LA 8 kc ks Q 1416 [(0, .ref 800), (1, .ref 0), (2, .ref 358), (3, .ref 410), (4, .int i)] [] μ := by
  have hk0 : kc ≤ room_1.cells ∧ ks ≤ room_1.slots := ⟨by omega, by omega⟩
  unfold Glaw_34 at h
  refine x_aload_n C rfl 1 rfl dL_law_1416 ?_
  refine x_aload_n C rfl 0 rfl dL_law_1417 ?_
  refine x_iload C 4 rfl dL_law_1418 ?_
  refine x_iconst (v := 1) C (by decide) dL_law_1420 ?_
  refine x_iadd C dL_law_1421 ?_
  refine x_sld C hX hbl hbA a1 e1 dL_law_1422 ?_
  refine x_callV (dC := G11_join_dep) (as := [.int v1]) (st := []) C rL hk0 (Nat.le_trans (Nat.le_of_ble_eq_true rfl) (Nat.le_refl 840)) (Nat.le_of_ble_eq_true rfl) ob0.1 ob0.2 (Nat.le_of_ble_eq_true rfl) rfl tw_5_142 tw_5_141 tw_5_140 tc_5_143 tw_1_1 hyX11 hnX11_join rfl (Nat.le_of_ble_eq_true rfl) dL_law_1423 (G11_join_met C.2.2.2.2.2.2.2.1 (Nat.le_refl _)  h) (fun r0 μ193 hq => ?_)
  obtain ⟨r194, rfl, h⟩ := hq
  refine x_st [.int r194] rfl ?_
  refine x_aload_n C rfl 2 rfl dL_law_1426 ?_
  refine x_aload_n C rfl 0 rfl dL_law_1427 ?_
  refine x_iload C 4 rfl dL_law_1428 ?_
  refine x_iconst (v := 1) C (by decide) dL_law_1430 ?_
  refine x_iadd C dL_law_1431 ?_
  refine x_sld C hX hbl hbA a1 e1 dL_law_1432 ?_
  refine x_callV (dC := G12_join_dep) (as := [.int v1]) (st := [.int r194]) C rL hk0 (Nat.le_trans (Nat.le_of_ble_eq_true rfl) (Nat.le_refl 840)) (Nat.le_of_ble_eq_true rfl) ob358.1 ob358.2 (Nat.le_of_ble_eq_true rfl) rfl tw_8_94 tw_8_93 tw_8_92 tc_8_95 tw_1_13 hyX12 hnX12_join rfl (Nat.le_of_ble_eq_true rfl) dL_law_1433 (G12_join_met C.2.2.2.2.2.2.2.1 (Nat.le_refl _)  h) (fun r0 μ195 hq => ?_)
  obtain ⟨r196, rfl, h⟩ := hq
  refine x_st [.int r196, .int r194] rfl ?_
  refine x_icmp_eq (tgt := 1892) C dL_law_1436 (by decide) (fun c197 => ?_) (fun c197 => ?_)
  · have h := h.1 c197
    refine x_widen (Nat.le_add_right _ 1) (Nat.le_add_right _ 6) ?_
    exact K _ h
  · have h := h.2 c197
    refine x_iconst (v := 0) C (by decide) dL_law_1439 ?_
    exact h.elim
set_option maxHeartbeats 4000000 in
set_option maxRecDepth 100000 in
theorem law_35 (hfl : l.stackTraces = false) (C : CX p s m args meth c φ tc D LA s0 code RL 8) {b L : Nat} {xs : Nat → Int32} (hX : va_X b L xs s s.heap) (hbl : b < s.heap.size) (hbA : φ 800 = b ∧ ¬ LA b) (hkc : kc + 1 ≤ room_1.cells ∧ ks + 6 ≤ room_1.slots) {i v1 v2 v3 v4 v5 : Int32} (a1 : vp_in (i + 1) L) (a2 : vp_in (i + 2) L) (a3 : vp_in (i + 3) L) (a4 : vp_in (i + 4) L) (a5 : vp_in (i + 5) L) (e1 : xs (i + 1).toNatClampNeg = v1) (e2 : xs (i + 2).toNatClampNeg = v2) (e3 : xs (i + 3).toNatClampNeg = v3) (e4 : xs (i + 4).toNatClampNeg = v4) (e5 : xs (i + 5).toNatClampNeg = v5) {Kk : MM → Prop} (K : ∀ μ, Kk μ → WX p l e room_1 s m args below meth c φ tc D LA 8 (kc + 1) (ks + 6) Q 1892 [(0, .ref 800), (1, .ref 0), (2, .ref 358), (3, .ref 410), (4, .int i)] [] μ) {μ : MM} (h : Glaw_35 v1 v2 v3 v4 v5 μ Kk) : WX p l e room_1 s m args below meth c φ tc D LA 8 kc ks Q 1441 [(0, .ref 800), (1, .ref 0), (2, .ref 358), (3, .ref 410), (4, .int i)] [] μ := by
  have hk0 : kc ≤ room_1.cells ∧ ks ≤ room_1.slots := ⟨by omega, by omega⟩
  unfold Glaw_35 at h
  refine x_aload_n C rfl 1 rfl dL_law_1441 ?_
  refine x_aload_n C rfl 0 rfl dL_law_1442 ?_
  refine x_iload C 4 rfl dL_law_1443 ?_
  refine x_iconst (v := 1) C (by decide) dL_law_1445 ?_
  refine x_iadd C dL_law_1446 ?_
  refine x_sld C hX hbl hbA a1 e1 dL_law_1447 ?_
  refine x_callV (dC := G11_bounds_dep) (as := [.int v1]) (st := []) C rL hk0 (Nat.le_trans (Nat.le_of_ble_eq_true rfl) (Nat.le_refl 840)) (Nat.le_of_ble_eq_true rfl) ob0.1 ob0.2 (Nat.le_of_ble_eq_true rfl) rfl tw_5_150 tw_5_149 tw_5_148 tc_5_151 tw_1_1 hyX11 hnX11_bounds rfl (Nat.le_of_ble_eq_true rfl) dL_law_1448 (G11_bounds_met C.2.2.2.2.2.2.2.1 (Nat.le_refl _)  h) (fun r0 μ198 hq => ?_)
  obtain ⟨r199, rfl, h⟩ := hq
  refine x_st [.int r199] rfl ?_
  refine x_aload_n C rfl 2 rfl dL_law_1451 ?_
  refine x_aload_n C rfl 0 rfl dL_law_1452 ?_
  refine x_iload C 4 rfl dL_law_1453 ?_
  refine x_iconst (v := 1) C (by decide) dL_law_1455 ?_
  refine x_iadd C dL_law_1456 ?_
  refine x_sld C hX hbl hbA a1 e1 dL_law_1457 ?_
  refine x_callV (dC := G12_bounds_dep) (as := [.int v1]) (st := [.int r199]) C rL hk0 (Nat.le_trans (Nat.le_of_ble_eq_true rfl) (Nat.le_refl 840)) (Nat.le_of_ble_eq_true rfl) ob358.1 ob358.2 (Nat.le_of_ble_eq_true rfl) rfl tw_8_98 tw_8_97 tw_8_96 tc_8_99 tw_1_13 hyX12 hnX12_bounds rfl (Nat.le_of_ble_eq_true rfl) dL_law_1458 (G12_bounds_met C.2.2.2.2.2.2.2.1 (Nat.le_refl _)  h) (fun r0 μ200 hq => ?_)
  obtain ⟨r201, rfl, h⟩ := hq
  refine x_st [.int r201, .int r199] rfl ?_
  refine x_icmp_eq (tgt := 1892) C dL_law_1461 (by decide) (fun c202 => ?_) (fun c202 => ?_)
  · have h := h.1 c202
    refine x_widen (Nat.le_add_right _ 1) (Nat.le_add_right _ 6) ?_
    exact K _ h
  · have h := h.2 c202
    refine x_iconst (v := 0) C (by decide) dL_law_1464 ?_
    exact h.elim
set_option maxHeartbeats 4000000 in
set_option maxRecDepth 100000 in
theorem law_36 (hfl : l.stackTraces = false) (C : CX p s m args meth c φ tc D LA s0 code RL 8) {b L : Nat} {xs : Nat → Int32} (hX : va_X b L xs s s.heap) (hbl : b < s.heap.size) (hbA : φ 800 = b ∧ ¬ LA b) (hkc : kc + 1 ≤ room_1.cells ∧ ks + 6 ≤ room_1.slots) {i v1 v2 v3 v4 v5 : Int32} (a1 : vp_in (i + 1) L) (a2 : vp_in (i + 2) L) (a3 : vp_in (i + 3) L) (a4 : vp_in (i + 4) L) (a5 : vp_in (i + 5) L) (e1 : xs (i + 1).toNatClampNeg = v1) (e2 : xs (i + 2).toNatClampNeg = v2) (e3 : xs (i + 3).toNatClampNeg = v3) (e4 : xs (i + 4).toNatClampNeg = v4) (e5 : xs (i + 5).toNatClampNeg = v5) {Kk : MM → Prop} (K : ∀ μ, Kk μ → WX p l e room_1 s m args below meth c φ tc D LA 8 (kc + 1) (ks + 6) Q 1892 [(0, .ref 800), (1, .ref 0), (2, .ref 358), (3, .ref 410), (4, .int i)] [] μ) {μ : MM} (h : Glaw_36 v1 v2 v3 v4 v5 μ Kk) : WX p l e room_1 s m args below meth c φ tc D LA 8 kc ks Q 1466 [(0, .ref 800), (1, .ref 0), (2, .ref 358), (3, .ref 410), (4, .int i)] [] μ := by
  have hk0 : kc ≤ room_1.cells ∧ ks ≤ room_1.slots := ⟨by omega, by omega⟩
  unfold Glaw_36 at h
  refine x_aload_n C rfl 1 rfl dL_law_1466 ?_
  refine x_aload_n C rfl 0 rfl dL_law_1467 ?_
  refine x_iload C 4 rfl dL_law_1468 ?_
  refine x_iconst (v := 1) C (by decide) dL_law_1470 ?_
  refine x_iadd C dL_law_1471 ?_
  refine x_sld C hX hbl hbA a1 e1 dL_law_1472 ?_
  refine x_callV (dC := G11_years_dep) (as := [.int v1]) (st := []) C rL hk0 (Nat.le_trans (Nat.le_of_ble_eq_true rfl) (Nat.le_refl 840)) (Nat.le_of_ble_eq_true rfl) ob0.1 ob0.2 (Nat.le_of_ble_eq_true rfl) rfl tw_5_158 tw_5_157 tw_5_156 tc_5_159 tw_1_1 hyX11 hnX11_years rfl (Nat.le_of_ble_eq_true rfl) dL_law_1473 (G11_years_met C.2.2.2.2.2.2.2.1 (Nat.le_refl _)  h) (fun r0 μ203 hq => ?_)
  obtain ⟨r204, rfl, h⟩ := hq
  refine x_st [.int r204] rfl ?_
  refine x_aload_n C rfl 2 rfl dL_law_1476 ?_
  refine x_aload_n C rfl 0 rfl dL_law_1477 ?_
  refine x_iload C 4 rfl dL_law_1478 ?_
  refine x_iconst (v := 1) C (by decide) dL_law_1480 ?_
  refine x_iadd C dL_law_1481 ?_
  refine x_sld C hX hbl hbA a1 e1 dL_law_1482 ?_
  refine x_callV (dC := G12_years_dep) (as := [.int v1]) (st := [.int r204]) C rL hk0 (Nat.le_trans (Nat.le_of_ble_eq_true rfl) (Nat.le_refl 840)) (Nat.le_of_ble_eq_true rfl) ob358.1 ob358.2 (Nat.le_of_ble_eq_true rfl) rfl tw_8_102 tw_8_101 tw_8_100 tc_8_103 tw_1_13 hyX12 hnX12_years rfl (Nat.le_of_ble_eq_true rfl) dL_law_1483 (G12_years_met C.2.2.2.2.2.2.2.1 (Nat.le_refl _)  h) (fun r0 μ205 hq => ?_)
  obtain ⟨r206, rfl, h⟩ := hq
  refine x_st [.int r206, .int r204] rfl ?_
  refine x_icmp_eq (tgt := 1892) C dL_law_1486 (by decide) (fun c207 => ?_) (fun c207 => ?_)
  · have h := h.1 c207
    refine x_widen (Nat.le_add_right _ 1) (Nat.le_add_right _ 6) ?_
    exact K _ h
  · have h := h.2 c207
    refine x_iconst (v := 0) C (by decide) dL_law_1489 ?_
    exact h.elim
set_option maxHeartbeats 4000000 in
set_option maxRecDepth 100000 in
theorem law_37 (hfl : l.stackTraces = false) (C : CX p s m args meth c φ tc D LA s0 code RL 8) {b L : Nat} {xs : Nat → Int32} (hX : va_X b L xs s s.heap) (hbl : b < s.heap.size) (hbA : φ 800 = b ∧ ¬ LA b) (hkc : kc + 1 ≤ room_1.cells ∧ ks + 6 ≤ room_1.slots) {i v1 v2 v3 v4 v5 : Int32} (a1 : vp_in (i + 1) L) (a2 : vp_in (i + 2) L) (a3 : vp_in (i + 3) L) (a4 : vp_in (i + 4) L) (a5 : vp_in (i + 5) L) (e1 : xs (i + 1).toNatClampNeg = v1) (e2 : xs (i + 2).toNatClampNeg = v2) (e3 : xs (i + 3).toNatClampNeg = v3) (e4 : xs (i + 4).toNatClampNeg = v4) (e5 : xs (i + 5).toNatClampNeg = v5) {Kk : MM → Prop} (K : ∀ μ, Kk μ → WX p l e room_1 s m args below meth c φ tc D LA 8 (kc + 1) (ks + 6) Q 1892 [(0, .ref 800), (1, .ref 0), (2, .ref 358), (3, .ref 410), (4, .int i)] [] μ) {μ : MM} (h : Glaw_37 v1 v2 v3 v4 v5 μ Kk) : WX p l e room_1 s m args below meth c φ tc D LA 8 kc ks Q 1491 [(0, .ref 800), (1, .ref 0), (2, .ref 358), (3, .ref 410), (4, .int i)] [] μ := by
  have hk0 : kc ≤ room_1.cells ∧ ks ≤ room_1.slots := ⟨by omega, by omega⟩
  unfold Glaw_37 at h
  refine x_aload_n C rfl 1 rfl dL_law_1491 ?_
  refine x_aload_n C rfl 0 rfl dL_law_1492 ?_
  refine x_iload C 4 rfl dL_law_1493 ?_
  refine x_iconst (v := 1) C (by decide) dL_law_1495 ?_
  refine x_iadd C dL_law_1496 ?_
  refine x_sld C hX hbl hbA a1 e1 dL_law_1497 ?_
  refine x_aload_n C rfl 0 rfl dL_law_1498 ?_
  refine x_iload C 4 rfl dL_law_1499 ?_
  refine x_iconst (v := 2) C (by decide) dL_law_1501 ?_
  refine x_iadd C dL_law_1502 ?_
  refine x_sld C hX hbl hbA a2 e2 dL_law_1503 ?_
  refine x_aload_n C rfl 0 rfl dL_law_1504 ?_
  refine x_iload C 4 rfl dL_law_1505 ?_
  refine x_iconst (v := 3) C (by decide) dL_law_1507 ?_
  refine x_iadd C dL_law_1508 ?_
  refine x_sld C hX hbl hbA a3 e3 dL_law_1509 ?_
  refine x_callV (dC := G11_mornings_dep) (as := [.int v1, .int v2, .int v3]) (st := []) C rL hk0 (Nat.le_trans (Nat.le_of_ble_eq_true rfl) (Nat.le_refl 840)) (Nat.le_of_ble_eq_true rfl) ob0.1 ob0.2 (Nat.le_of_ble_eq_true rfl) rfl tw_5_166 tw_5_165 tw_5_164 tc_5_167 tw_1_1 hyX11 hnX11_mornings rfl (Nat.le_of_ble_eq_true rfl) dL_law_1510 (G11_mornings_met C.2.2.2.2.2.2.2.1 (Nat.le_refl _)  h) (fun r0 μ208 hq => ?_)
  obtain ⟨r209, rfl, h⟩ := hq
  refine x_st [.int r209] rfl ?_
  refine x_aload_n C rfl 2 rfl dL_law_1513 ?_
  refine x_aload_n C rfl 0 rfl dL_law_1514 ?_
  refine x_iload C 4 rfl dL_law_1515 ?_
  refine x_iconst (v := 1) C (by decide) dL_law_1517 ?_
  refine x_iadd C dL_law_1518 ?_
  refine x_sld C hX hbl hbA a1 e1 dL_law_1519 ?_
  refine x_aload_n C rfl 0 rfl dL_law_1520 ?_
  refine x_iload C 4 rfl dL_law_1521 ?_
  refine x_iconst (v := 2) C (by decide) dL_law_1523 ?_
  refine x_iadd C dL_law_1524 ?_
  refine x_sld C hX hbl hbA a2 e2 dL_law_1525 ?_
  refine x_aload_n C rfl 0 rfl dL_law_1526 ?_
  refine x_iload C 4 rfl dL_law_1527 ?_
  refine x_iconst (v := 3) C (by decide) dL_law_1529 ?_
  refine x_iadd C dL_law_1530 ?_
  refine x_sld C hX hbl hbA a3 e3 dL_law_1531 ?_
  refine x_callV (dC := G12_mornings_dep) (as := [.int v1, .int v2, .int v3]) (st := [.int r209]) C rL hk0 (Nat.le_trans (Nat.le_of_ble_eq_true rfl) (Nat.le_refl 840)) (Nat.le_of_ble_eq_true rfl) ob358.1 ob358.2 (Nat.le_of_ble_eq_true rfl) rfl tw_8_110 tw_8_109 tw_8_108 tc_8_111 tw_1_13 hyX12 hnX12_mornings rfl (Nat.le_of_ble_eq_true rfl) dL_law_1532 (G12_mornings_met C.2.2.2.2.2.2.2.1 (Nat.le_refl _)  h) (fun r0 μ210 hq => ?_)
  obtain ⟨r211, rfl, h⟩ := hq
  refine x_st [.int r211, .int r209] rfl ?_
  refine x_icmp_eq (tgt := 1892) C dL_law_1535 (by decide) (fun c212 => ?_) (fun c212 => ?_)
  · have h := h.1 c212
    refine x_widen (Nat.le_add_right _ 1) (Nat.le_add_right _ 6) ?_
    exact K _ h
  · have h := h.2 c212
    refine x_iconst (v := 0) C (by decide) dL_law_1538 ?_
    exact h.elim
set_option maxHeartbeats 4000000 in
set_option maxRecDepth 100000 in
theorem law_38 (hfl : l.stackTraces = false) (C : CX p s m args meth c φ tc D LA s0 code RL 8) {b L : Nat} {xs : Nat → Int32} (hX : va_X b L xs s s.heap) (hbl : b < s.heap.size) (hbA : φ 800 = b ∧ ¬ LA b) (hkc : kc + 1 ≤ room_1.cells ∧ ks + 6 ≤ room_1.slots) {i v1 v2 v3 v4 v5 : Int32} (a1 : vp_in (i + 1) L) (a2 : vp_in (i + 2) L) (a3 : vp_in (i + 3) L) (a4 : vp_in (i + 4) L) (a5 : vp_in (i + 5) L) (e1 : xs (i + 1).toNatClampNeg = v1) (e2 : xs (i + 2).toNatClampNeg = v2) (e3 : xs (i + 3).toNatClampNeg = v3) (e4 : xs (i + 4).toNatClampNeg = v4) (e5 : xs (i + 5).toNatClampNeg = v5) {Kk : MM → Prop} (K : ∀ μ, Kk μ → WX p l e room_1 s m args below meth c φ tc D LA 8 (kc + 1) (ks + 6) Q 1892 [(0, .ref 800), (1, .ref 0), (2, .ref 358), (3, .ref 410), (4, .int i)] [] μ) {μ : MM} (h : Glaw_38 v1 v2 v3 v4 v5 μ Kk) : WX p l e room_1 s m args below meth c φ tc D LA 8 kc ks Q 1540 [(0, .ref 800), (1, .ref 0), (2, .ref 358), (3, .ref 410), (4, .int i)] [] μ := by
  have hk0 : kc ≤ room_1.cells ∧ ks ≤ room_1.slots := ⟨by omega, by omega⟩
  unfold Glaw_38 at h
  refine x_aload_n C rfl 1 rfl dL_law_1540 ?_
  refine x_aload_n C rfl 0 rfl dL_law_1541 ?_
  refine x_iload C 4 rfl dL_law_1542 ?_
  refine x_iconst (v := 1) C (by decide) dL_law_1544 ?_
  refine x_iadd C dL_law_1545 ?_
  refine x_sld C hX hbl hbA a1 e1 dL_law_1546 ?_
  refine x_aload_n C rfl 0 rfl dL_law_1547 ?_
  refine x_iload C 4 rfl dL_law_1548 ?_
  refine x_iconst (v := 2) C (by decide) dL_law_1550 ?_
  refine x_iadd C dL_law_1551 ?_
  refine x_sld C hX hbl hbA a2 e2 dL_law_1552 ?_
  refine x_aload_n C rfl 0 rfl dL_law_1553 ?_
  refine x_iload C 4 rfl dL_law_1554 ?_
  refine x_iconst (v := 3) C (by decide) dL_law_1556 ?_
  refine x_iadd C dL_law_1557 ?_
  refine x_sld C hX hbl hbA a3 e3 dL_law_1558 ?_
  refine x_callV (dC := G11_asked_dep) (as := [.int v1, .int v2, .int v3]) (st := []) C rL hk0 (Nat.le_trans (Nat.le_of_ble_eq_true rfl) (Nat.le_refl 840)) (Nat.le_of_ble_eq_true rfl) ob0.1 ob0.2 (Nat.le_of_ble_eq_true rfl) rfl tw_5_174 tw_5_173 tw_5_172 tc_5_175 tw_1_1 hyX11 hnX11_asked rfl (Nat.le_of_ble_eq_true rfl) dL_law_1559 (G11_asked_met C.2.2.2.2.2.2.2.1 (Nat.le_refl _)  h) (fun r0 μ213 hq => ?_)
  obtain ⟨r214, rfl, h⟩ := hq
  refine x_st [.int r214] rfl ?_
  refine x_aload_n C rfl 2 rfl dL_law_1562 ?_
  refine x_aload_n C rfl 0 rfl dL_law_1563 ?_
  refine x_iload C 4 rfl dL_law_1564 ?_
  refine x_iconst (v := 1) C (by decide) dL_law_1566 ?_
  refine x_iadd C dL_law_1567 ?_
  refine x_sld C hX hbl hbA a1 e1 dL_law_1568 ?_
  refine x_aload_n C rfl 0 rfl dL_law_1569 ?_
  refine x_iload C 4 rfl dL_law_1570 ?_
  refine x_iconst (v := 2) C (by decide) dL_law_1572 ?_
  refine x_iadd C dL_law_1573 ?_
  refine x_sld C hX hbl hbA a2 e2 dL_law_1574 ?_
  refine x_aload_n C rfl 0 rfl dL_law_1575 ?_
  refine x_iload C 4 rfl dL_law_1576 ?_
  refine x_iconst (v := 3) C (by decide) dL_law_1578 ?_
  refine x_iadd C dL_law_1579 ?_
  refine x_sld C hX hbl hbA a3 e3 dL_law_1580 ?_
  refine x_callV (dC := G12_asked_dep) (as := [.int v1, .int v2, .int v3]) (st := [.int r214]) C rL hk0 (Nat.le_trans (Nat.le_of_ble_eq_true rfl) (Nat.le_refl 840)) (Nat.le_of_ble_eq_true rfl) ob358.1 ob358.2 (Nat.le_of_ble_eq_true rfl) rfl tw_8_115 tw_8_114 tw_8_113 tc_8_116 tw_1_13 hyX12 hnX12_asked rfl (Nat.le_of_ble_eq_true rfl) dL_law_1581 (G12_asked_met C.2.2.2.2.2.2.2.1 (Nat.le_refl _)  h) (fun r0 μ215 hq => ?_)
  obtain ⟨r216, rfl, h⟩ := hq
  refine x_st [.int r216, .int r214] rfl ?_
  refine x_icmp_eq (tgt := 1892) C dL_law_1584 (by decide) (fun c217 => ?_) (fun c217 => ?_)
  · have h := h.1 c217
    refine x_widen (Nat.le_add_right _ 1) (Nat.le_add_right _ 6) ?_
    exact K _ h
  · have h := h.2 c217
    refine x_iconst (v := 0) C (by decide) dL_law_1587 ?_
    exact h.elim
set_option maxHeartbeats 4000000 in
set_option maxRecDepth 100000 in
theorem law_39 (hfl : l.stackTraces = false) (C : CX p s m args meth c φ tc D LA s0 code RL 8) {b L : Nat} {xs : Nat → Int32} (hX : va_X b L xs s s.heap) (hbl : b < s.heap.size) (hbA : φ 800 = b ∧ ¬ LA b) (hkc : kc + 1 ≤ room_1.cells ∧ ks + 6 ≤ room_1.slots) {i v1 v2 v3 v4 v5 : Int32} (a1 : vp_in (i + 1) L) (a2 : vp_in (i + 2) L) (a3 : vp_in (i + 3) L) (a4 : vp_in (i + 4) L) (a5 : vp_in (i + 5) L) (e1 : xs (i + 1).toNatClampNeg = v1) (e2 : xs (i + 2).toNatClampNeg = v2) (e3 : xs (i + 3).toNatClampNeg = v3) (e4 : xs (i + 4).toNatClampNeg = v4) (e5 : xs (i + 5).toNatClampNeg = v5) {Kk : MM → Prop} (K : ∀ μ, Kk μ → WX p l e room_1 s m args below meth c φ tc D LA 8 (kc + 1) (ks + 6) Q 1892 [(0, .ref 800), (1, .ref 0), (2, .ref 358), (3, .ref 410), (4, .int i)] [] μ) {μ : MM} (h : Glaw_39 v1 v2 v3 v4 v5 μ Kk) : WX p l e room_1 s m args below meth c φ tc D LA 8 kc ks Q 1589 [(0, .ref 800), (1, .ref 0), (2, .ref 358), (3, .ref 410), (4, .int i)] [] μ := by
  have hk0 : kc ≤ room_1.cells ∧ ks ≤ room_1.slots := ⟨by omega, by omega⟩
  unfold Glaw_39 at h
  refine x_aload_n C rfl 1 rfl dL_law_1589 ?_
  refine x_callV (dC := G11_pairs_dep) (as := []) (st := []) C rL hk0 (Nat.le_trans (Nat.le_of_ble_eq_true rfl) (Nat.le_refl 840)) (Nat.le_of_ble_eq_true rfl) ob0.1 ob0.2 (Nat.le_of_ble_eq_true rfl) rfl tw_5_184 tw_5_183 tw_5_182 tc_5_185 tw_1_1 hyX11 hnX11_pairs rfl (Nat.le_of_ble_eq_true rfl) dL_law_1590 (G11_pairs_met C.2.2.2.2.2.2.2.1 (Nat.le_refl _)  h) (fun r0 μ218 hq => ?_)
  obtain ⟨r219, rfl, h⟩ := hq
  refine x_st [.int r219] rfl ?_
  refine x_aload_n C rfl 2 rfl dL_law_1593 ?_
  refine x_callV (dC := G12_pairs_dep) (as := []) (st := [.int r219]) C rL hk0 (Nat.le_trans (Nat.le_of_ble_eq_true rfl) (Nat.le_refl 840)) (Nat.le_of_ble_eq_true rfl) ob358.1 ob358.2 (Nat.le_of_ble_eq_true rfl) rfl tw_8_119 tw_8_118 tw_8_117 tc_8_120 tw_1_13 hyX12 hnX12_pairs rfl (Nat.le_of_ble_eq_true rfl) dL_law_1594 (G12_pairs_met C.2.2.2.2.2.2.2.1 (Nat.le_refl _)  h) (fun r0 μ220 hq => ?_)
  obtain ⟨r221, rfl, h⟩ := hq
  refine x_st [.int r221, .int r219] rfl ?_
  refine x_icmp_eq (tgt := 1892) C dL_law_1597 (by decide) (fun c222 => ?_) (fun c222 => ?_)
  · have h := h.1 c222
    refine x_widen (Nat.le_add_right _ 1) (Nat.le_add_right _ 6) ?_
    exact K _ h
  · have h := h.2 c222
    refine x_iconst (v := 0) C (by decide) dL_law_1600 ?_
    exact h.elim
set_option maxHeartbeats 4000000 in
set_option maxRecDepth 100000 in
theorem law_40 (hfl : l.stackTraces = false) (C : CX p s m args meth c φ tc D LA s0 code RL 8) {b L : Nat} {xs : Nat → Int32} (hX : va_X b L xs s s.heap) (hbl : b < s.heap.size) (hbA : φ 800 = b ∧ ¬ LA b) (hkc : kc + 1 ≤ room_1.cells ∧ ks + 6 ≤ room_1.slots) {i v1 v2 v3 v4 v5 : Int32} (a1 : vp_in (i + 1) L) (a2 : vp_in (i + 2) L) (a3 : vp_in (i + 3) L) (a4 : vp_in (i + 4) L) (a5 : vp_in (i + 5) L) (e1 : xs (i + 1).toNatClampNeg = v1) (e2 : xs (i + 2).toNatClampNeg = v2) (e3 : xs (i + 3).toNatClampNeg = v3) (e4 : xs (i + 4).toNatClampNeg = v4) (e5 : xs (i + 5).toNatClampNeg = v5) {Kk : MM → Prop} (K : ∀ μ, Kk μ → WX p l e room_1 s m args below meth c φ tc D LA 8 (kc + 1) (ks + 6) Q 1892 [(0, .ref 800), (1, .ref 0), (2, .ref 358), (3, .ref 410), (4, .int i)] [] μ) {μ : MM} (h : Glaw_40 v1 v2 v3 v4 v5 μ Kk) : WX p l e room_1 s m args below meth c φ tc D LA 8 kc ks Q 1602 [(0, .ref 800), (1, .ref 0), (2, .ref 358), (3, .ref 410), (4, .int i)] [] μ := by
  have hk0 : kc ≤ room_1.cells ∧ ks ≤ room_1.slots := ⟨by omega, by omega⟩
  unfold Glaw_40 at h
  refine x_aload_n C rfl 1 rfl dL_law_1602 ?_
  refine x_callV (dC := G11_ask_dep) (as := []) (st := []) C rL hk0 (Nat.le_trans (Nat.le_of_ble_eq_true rfl) (Nat.le_refl 840)) (Nat.le_of_ble_eq_true rfl) ob0.1 ob0.2 (Nat.le_of_ble_eq_true rfl) rfl tw_5_211 tw_5_210 tw_5_209 tc_5_212 tw_1_1 hyX11 hnX11_ask rfl (Nat.le_of_ble_eq_true rfl) dL_law_1603 (G11_ask_met C.2.2.2.2.2.2.2.1 (Nat.le_refl _)  h) (fun r0 μ223 hq => ?_)
  obtain ⟨r224, rfl, h⟩ := hq
  refine x_st [.int r224] rfl ?_
  refine x_aload_n C rfl 2 rfl dL_law_1606 ?_
  refine x_callV (dC := G12_ask_dep) (as := []) (st := [.int r224]) C rL hk0 (Nat.le_trans (Nat.le_of_ble_eq_true rfl) (Nat.le_refl 840)) (Nat.le_of_ble_eq_true rfl) ob358.1 ob358.2 (Nat.le_of_ble_eq_true rfl) rfl tw_8_139 tw_8_138 tw_8_137 tc_8_140 tw_1_13 hyX12 hnX12_ask rfl (Nat.le_of_ble_eq_true rfl) dL_law_1607 (G12_ask_met C.2.2.2.2.2.2.2.1 (Nat.le_refl _)  h) (fun r0 μ225 hq => ?_)
  obtain ⟨r226, rfl, h⟩ := hq
  refine x_st [.int r226, .int r224] rfl ?_
  refine x_icmp_eq (tgt := 1892) C dL_law_1610 (by decide) (fun c227 => ?_) (fun c227 => ?_)
  · have h := h.1 c227
    refine x_widen (Nat.le_add_right _ 1) (Nat.le_add_right _ 6) ?_
    exact K _ h
  · have h := h.2 c227
    refine x_iconst (v := 0) C (by decide) dL_law_1613 ?_
    exact h.elim
set_option maxHeartbeats 4000000 in
set_option maxRecDepth 100000 in
theorem law_41 (hfl : l.stackTraces = false) (C : CX p s m args meth c φ tc D LA s0 code RL 8) {b L : Nat} {xs : Nat → Int32} (hX : va_X b L xs s s.heap) (hbl : b < s.heap.size) (hbA : φ 800 = b ∧ ¬ LA b) (hkc : kc + 1 ≤ room_1.cells ∧ ks + 6 ≤ room_1.slots) {i v1 v2 v3 v4 v5 : Int32} (a1 : vp_in (i + 1) L) (a2 : vp_in (i + 2) L) (a3 : vp_in (i + 3) L) (a4 : vp_in (i + 4) L) (a5 : vp_in (i + 5) L) (e1 : xs (i + 1).toNatClampNeg = v1) (e2 : xs (i + 2).toNatClampNeg = v2) (e3 : xs (i + 3).toNatClampNeg = v3) (e4 : xs (i + 4).toNatClampNeg = v4) (e5 : xs (i + 5).toNatClampNeg = v5) {Kk : MM → Prop} (K : ∀ μ, Kk μ → WX p l e room_1 s m args below meth c φ tc D LA 8 (kc + 1) (ks + 6) Q 1892 [(0, .ref 800), (1, .ref 0), (2, .ref 358), (3, .ref 410), (4, .int i)] [] μ) {μ : MM} (h : Glaw_41 v1 v2 v3 v4 v5 μ Kk) : WX p l e room_1 s m args below meth c φ tc D LA 8 kc ks Q 1615 [(0, .ref 800), (1, .ref 0), (2, .ref 358), (3, .ref 410), (4, .int i)] [] μ := by
  have hk0 : kc ≤ room_1.cells ∧ ks ≤ room_1.slots := ⟨by omega, by omega⟩
  unfold Glaw_41 at h
  refine x_aload_n C rfl 1 rfl dL_law_1615 ?_
  refine x_aload_n C rfl 0 rfl dL_law_1616 ?_
  refine x_iload C 4 rfl dL_law_1617 ?_
  refine x_iconst (v := 1) C (by decide) dL_law_1619 ?_
  refine x_iadd C dL_law_1620 ?_
  refine x_sld C hX hbl hbA a1 e1 dL_law_1621 ?_
  refine x_callV (dC := G11_nearly_dep) (as := [.int v1]) (st := []) C rL hk0 (Nat.le_trans (Nat.le_of_ble_eq_true rfl) (Nat.le_refl 840)) (Nat.le_of_ble_eq_true rfl) ob0.1 ob0.2 (Nat.le_of_ble_eq_true rfl) rfl tw_5_225 tw_5_224 tw_5_223 tc_5_226 tw_1_1 hyX11 hnX11_nearly rfl (Nat.le_of_ble_eq_true rfl) dL_law_1622 (G11_nearly_met C.2.2.2.2.2.2.2.1 (Nat.le_refl _)  h) (fun r0 μ228 hq => ?_)
  obtain ⟨r229, rfl, h⟩ := hq
  refine x_st [.int r229] rfl ?_
  refine x_aload_n C rfl 2 rfl dL_law_1625 ?_
  refine x_aload_n C rfl 0 rfl dL_law_1626 ?_
  refine x_iload C 4 rfl dL_law_1627 ?_
  refine x_iconst (v := 1) C (by decide) dL_law_1629 ?_
  refine x_iadd C dL_law_1630 ?_
  refine x_sld C hX hbl hbA a1 e1 dL_law_1631 ?_
  refine x_callV (dC := G12_nearly_dep) (as := [.int v1]) (st := [.int r229]) C rL hk0 (Nat.le_trans (Nat.le_of_ble_eq_true rfl) (Nat.le_refl 840)) (Nat.le_of_ble_eq_true rfl) ob358.1 ob358.2 (Nat.le_of_ble_eq_true rfl) rfl tw_8_143 tw_8_142 tw_8_141 tc_8_144 tw_1_13 hyX12 hnX12_nearly rfl (Nat.le_of_ble_eq_true rfl) dL_law_1632 (G12_nearly_met C.2.2.2.2.2.2.2.1 (Nat.le_refl _)  h) (fun r0 μ230 hq => ?_)
  obtain ⟨r231, rfl, h⟩ := hq
  refine x_st [.int r231, .int r229] rfl ?_
  refine x_icmp_eq (tgt := 1892) C dL_law_1635 (by decide) (fun c232 => ?_) (fun c232 => ?_)
  · have h := h.1 c232
    refine x_widen (Nat.le_add_right _ 1) (Nat.le_add_right _ 6) ?_
    exact K _ h
  · have h := h.2 c232
    refine x_iconst (v := 0) C (by decide) dL_law_1638 ?_
    exact h.elim
set_option maxHeartbeats 4000000 in
set_option maxRecDepth 100000 in
theorem law_42 (hfl : l.stackTraces = false) (C : CX p s m args meth c φ tc D LA s0 code RL 8) {b L : Nat} {xs : Nat → Int32} (hX : va_X b L xs s s.heap) (hbl : b < s.heap.size) (hbA : φ 800 = b ∧ ¬ LA b) (hkc : kc + 1 ≤ room_1.cells ∧ ks + 6 ≤ room_1.slots) {i v1 v2 v3 v4 v5 : Int32} (a1 : vp_in (i + 1) L) (a2 : vp_in (i + 2) L) (a3 : vp_in (i + 3) L) (a4 : vp_in (i + 4) L) (a5 : vp_in (i + 5) L) (e1 : xs (i + 1).toNatClampNeg = v1) (e2 : xs (i + 2).toNatClampNeg = v2) (e3 : xs (i + 3).toNatClampNeg = v3) (e4 : xs (i + 4).toNatClampNeg = v4) (e5 : xs (i + 5).toNatClampNeg = v5) {Kk : MM → Prop} (K : ∀ μ, Kk μ → WX p l e room_1 s m args below meth c φ tc D LA 8 (kc + 1) (ks + 6) Q 1892 [(0, .ref 800), (1, .ref 0), (2, .ref 358), (3, .ref 410), (4, .int i)] [] μ) {μ : MM} (h : Glaw_42 v1 v2 v3 v4 v5 μ Kk) : WX p l e room_1 s m args below meth c φ tc D LA 8 kc ks Q 1640 [(0, .ref 800), (1, .ref 0), (2, .ref 358), (3, .ref 410), (4, .int i)] [] μ := by
  have hk0 : kc ≤ room_1.cells ∧ ks ≤ room_1.slots := ⟨by omega, by omega⟩
  unfold Glaw_42 at h
  refine x_aload_n C rfl 1 rfl dL_law_1640 ?_
  refine x_aload_n C rfl 0 rfl dL_law_1641 ?_
  refine x_iload C 4 rfl dL_law_1642 ?_
  refine x_iconst (v := 1) C (by decide) dL_law_1644 ?_
  refine x_iadd C dL_law_1645 ?_
  refine x_sld C hX hbl hbA a1 e1 dL_law_1646 ?_
  refine x_aload_n C rfl 0 rfl dL_law_1647 ?_
  refine x_iload C 4 rfl dL_law_1648 ?_
  refine x_iconst (v := 2) C (by decide) dL_law_1650 ?_
  refine x_iadd C dL_law_1651 ?_
  refine x_sld C hX hbl hbA a2 e2 dL_law_1652 ?_
  refine x_aload_n C rfl 0 rfl dL_law_1653 ?_
  refine x_iload C 4 rfl dL_law_1654 ?_
  refine x_iconst (v := 3) C (by decide) dL_law_1656 ?_
  refine x_iadd C dL_law_1657 ?_
  refine x_sld C hX hbl hbA a3 e3 dL_law_1658 ?_
  refine x_aload_n C rfl 0 rfl dL_law_1659 ?_
  refine x_iload C 4 rfl dL_law_1660 ?_
  refine x_iconst (v := 4) C (by decide) dL_law_1662 ?_
  refine x_iadd C dL_law_1663 ?_
  refine x_sld C hX hbl hbA a4 e4 dL_law_1664 ?_
  refine x_callV (dC := G11_shows_dep) (as := [.int v1, .int v2, .int v3, .int v4]) (st := []) C rL hk0 (Nat.le_trans (Nat.le_of_ble_eq_true rfl) (Nat.le_refl 840)) (Nat.le_of_ble_eq_true rfl) ob0.1 ob0.2 (Nat.le_of_ble_eq_true rfl) rfl tw_5_233 tw_5_232 tw_5_231 tc_5_234 tw_1_1 hyX11 hnX11_shows rfl (Nat.le_of_ble_eq_true rfl) dL_law_1665 (G11_shows_met C.2.2.2.2.2.2.2.1 (Nat.le_refl _)  h) (fun r0 μ233 hq => ?_)
  obtain ⟨r234, rfl, h⟩ := hq
  refine x_st [.int r234] rfl ?_
  refine x_aload_n C rfl 2 rfl dL_law_1668 ?_
  refine x_aload_n C rfl 0 rfl dL_law_1669 ?_
  refine x_iload C 4 rfl dL_law_1670 ?_
  refine x_iconst (v := 1) C (by decide) dL_law_1672 ?_
  refine x_iadd C dL_law_1673 ?_
  refine x_sld C hX hbl hbA a1 e1 dL_law_1674 ?_
  refine x_aload_n C rfl 0 rfl dL_law_1675 ?_
  refine x_iload C 4 rfl dL_law_1676 ?_
  refine x_iconst (v := 2) C (by decide) dL_law_1678 ?_
  refine x_iadd C dL_law_1679 ?_
  refine x_sld C hX hbl hbA a2 e2 dL_law_1680 ?_
  refine x_aload_n C rfl 0 rfl dL_law_1681 ?_
  refine x_iload C 4 rfl dL_law_1682 ?_
  refine x_iconst (v := 3) C (by decide) dL_law_1684 ?_
  refine x_iadd C dL_law_1685 ?_
  refine x_sld C hX hbl hbA a3 e3 dL_law_1686 ?_
  refine x_aload_n C rfl 0 rfl dL_law_1687 ?_
  refine x_iload C 4 rfl dL_law_1688 ?_
  refine x_iconst (v := 4) C (by decide) dL_law_1690 ?_
  refine x_iadd C dL_law_1691 ?_
  refine x_sld C hX hbl hbA a4 e4 dL_law_1692 ?_
  refine x_callV (dC := G12_shows_dep) (as := [.int v1, .int v2, .int v3, .int v4]) (st := [.int r234]) C rL hk0 (Nat.le_trans (Nat.le_of_ble_eq_true rfl) (Nat.le_refl 840)) (Nat.le_of_ble_eq_true rfl) ob358.1 ob358.2 (Nat.le_of_ble_eq_true rfl) rfl tw_8_148 tw_8_147 tw_8_146 tc_8_149 tw_1_13 hyX12 hnX12_shows rfl (Nat.le_of_ble_eq_true rfl) dL_law_1693 (G12_shows_met C.2.2.2.2.2.2.2.1 (Nat.le_refl _)  h) (fun r0 μ235 hq => ?_)
  obtain ⟨r236, rfl, h⟩ := hq
  refine x_st [.int r236, .int r234] rfl ?_
  refine x_icmp_eq (tgt := 1892) C dL_law_1696 (by decide) (fun c237 => ?_) (fun c237 => ?_)
  · have h := h.1 c237
    refine x_widen (Nat.le_add_right _ 1) (Nat.le_add_right _ 6) ?_
    exact K _ h
  · have h := h.2 c237
    refine x_iconst (v := 0) C (by decide) dL_law_1699 ?_
    exact h.elim
set_option maxHeartbeats 4000000 in
set_option maxRecDepth 100000 in
theorem law_43 (hfl : l.stackTraces = false) (C : CX p s m args meth c φ tc D LA s0 code RL 8) {b L : Nat} {xs : Nat → Int32} (hX : va_X b L xs s s.heap) (hbl : b < s.heap.size) (hbA : φ 800 = b ∧ ¬ LA b) (hkc : kc + 1 ≤ room_1.cells ∧ ks + 6 ≤ room_1.slots) {i v1 v2 v3 v4 v5 : Int32} (a1 : vp_in (i + 1) L) (a2 : vp_in (i + 2) L) (a3 : vp_in (i + 3) L) (a4 : vp_in (i + 4) L) (a5 : vp_in (i + 5) L) (e1 : xs (i + 1).toNatClampNeg = v1) (e2 : xs (i + 2).toNatClampNeg = v2) (e3 : xs (i + 3).toNatClampNeg = v3) (e4 : xs (i + 4).toNatClampNeg = v4) (e5 : xs (i + 5).toNatClampNeg = v5) {Kk : MM → Prop} (K : ∀ μ, Kk μ → WX p l e room_1 s m args below meth c φ tc D LA 8 (kc + 1) (ks + 6) Q 1892 [(0, .ref 800), (1, .ref 0), (2, .ref 358), (3, .ref 410), (4, .int i)] [] μ) {μ : MM} (h : Glaw_43 v1 v2 v3 v4 v5 μ Kk) : WX p l e room_1 s m args below meth c φ tc D LA 8 kc ks Q 1701 [(0, .ref 800), (1, .ref 0), (2, .ref 358), (3, .ref 410), (4, .int i)] [] μ := by
  have hk0 : kc ≤ room_1.cells ∧ ks ≤ room_1.slots := ⟨by omega, by omega⟩
  unfold Glaw_43 at h
  refine x_aload_n C rfl 1 rfl dL_law_1701 ?_
  refine x_aload_n C rfl 0 rfl dL_law_1702 ?_
  refine x_iload C 4 rfl dL_law_1703 ?_
  refine x_iconst (v := 1) C (by decide) dL_law_1705 ?_
  refine x_iadd C dL_law_1706 ?_
  refine x_sld C hX hbl hbA a1 e1 dL_law_1707 ?_
  refine x_aload_n C rfl 0 rfl dL_law_1708 ?_
  refine x_iload C 4 rfl dL_law_1709 ?_
  refine x_iconst (v := 2) C (by decide) dL_law_1711 ?_
  refine x_iadd C dL_law_1712 ?_
  refine x_sld C hX hbl hbA a2 e2 dL_law_1713 ?_
  refine x_aload_n C rfl 0 rfl dL_law_1714 ?_
  refine x_iload C 4 rfl dL_law_1715 ?_
  refine x_iconst (v := 3) C (by decide) dL_law_1717 ?_
  refine x_iadd C dL_law_1718 ?_
  refine x_sld C hX hbl hbA a3 e3 dL_law_1719 ?_
  refine x_aload_n C rfl 0 rfl dL_law_1720 ?_
  refine x_iload C 4 rfl dL_law_1721 ?_
  refine x_iconst (v := 4) C (by decide) dL_law_1723 ?_
  refine x_iadd C dL_law_1724 ?_
  refine x_sld C hX hbl hbA a4 e4 dL_law_1725 ?_
  refine x_callV (dC := G11_least_dep) (as := [.int v1, .int v2, .int v3, .int v4]) (st := []) C rL hk0 (Nat.le_trans (Nat.le_of_ble_eq_true rfl) (Nat.le_refl 840)) (Nat.le_of_ble_eq_true rfl) ob0.1 ob0.2 (Nat.le_of_ble_eq_true rfl) rfl tw_6_34 tw_6_33 tw_6_32 tc_6_35 tw_1_1 hyX11 hnX11_least rfl (Nat.le_of_ble_eq_true rfl) dL_law_1726 (G11_least_met C.2.2.2.2.2.2.2.1 (Nat.le_refl _)  h) (fun r0 μ238 hq => ?_)
  obtain ⟨r239, rfl, h⟩ := hq
  refine x_st [.int r239] rfl ?_
  refine x_aload_n C rfl 2 rfl dL_law_1729 ?_
  refine x_aload_n C rfl 0 rfl dL_law_1730 ?_
  refine x_iload C 4 rfl dL_law_1731 ?_
  refine x_iconst (v := 1) C (by decide) dL_law_1733 ?_
  refine x_iadd C dL_law_1734 ?_
  refine x_sld C hX hbl hbA a1 e1 dL_law_1735 ?_
  refine x_aload_n C rfl 0 rfl dL_law_1736 ?_
  refine x_iload C 4 rfl dL_law_1737 ?_
  refine x_iconst (v := 2) C (by decide) dL_law_1739 ?_
  refine x_iadd C dL_law_1740 ?_
  refine x_sld C hX hbl hbA a2 e2 dL_law_1741 ?_
  refine x_aload_n C rfl 0 rfl dL_law_1742 ?_
  refine x_iload C 4 rfl dL_law_1743 ?_
  refine x_iconst (v := 3) C (by decide) dL_law_1745 ?_
  refine x_iadd C dL_law_1746 ?_
  refine x_sld C hX hbl hbA a3 e3 dL_law_1747 ?_
  refine x_aload_n C rfl 0 rfl dL_law_1748 ?_
  refine x_iload C 4 rfl dL_law_1749 ?_
  refine x_iconst (v := 4) C (by decide) dL_law_1751 ?_
  refine x_iadd C dL_law_1752 ?_
  refine x_sld C hX hbl hbA a4 e4 dL_law_1753 ?_
  refine x_callV (dC := G12_least_dep) (as := [.int v1, .int v2, .int v3, .int v4]) (st := [.int r239]) C rL hk0 (Nat.le_trans (Nat.le_of_ble_eq_true rfl) (Nat.le_refl 840)) (Nat.le_of_ble_eq_true rfl) ob358.1 ob358.2 (Nat.le_of_ble_eq_true rfl) rfl tw_8_179 tw_8_178 tw_8_177 tc_8_180 tw_1_13 hyX12 hnX12_least rfl (Nat.le_of_ble_eq_true rfl) dL_law_1754 (G12_least_met C.2.2.2.2.2.2.2.1 (Nat.le_refl _)  h) (fun r0 μ240 hq => ?_)
  obtain ⟨r241, rfl, h⟩ := hq
  refine x_st [.int r241, .int r239] rfl ?_
  refine x_icmp_eq (tgt := 1892) C dL_law_1757 (by decide) (fun c242 => ?_) (fun c242 => ?_)
  · have h := h.1 c242
    refine x_widen (Nat.le_add_right _ 1) (Nat.le_add_right _ 6) ?_
    exact K _ h
  · have h := h.2 c242
    refine x_iconst (v := 0) C (by decide) dL_law_1760 ?_
    exact h.elim
set_option maxHeartbeats 4000000 in
set_option maxRecDepth 100000 in
theorem law_44 (hfl : l.stackTraces = false) (C : CX p s m args meth c φ tc D LA s0 code RL 8) {b L : Nat} {xs : Nat → Int32} (hX : va_X b L xs s s.heap) (hbl : b < s.heap.size) (hbA : φ 800 = b ∧ ¬ LA b) (hkc : kc + 1 ≤ room_1.cells ∧ ks + 6 ≤ room_1.slots) {i v1 v2 v3 v4 v5 : Int32} (a1 : vp_in (i + 1) L) (a2 : vp_in (i + 2) L) (a3 : vp_in (i + 3) L) (a4 : vp_in (i + 4) L) (a5 : vp_in (i + 5) L) (e1 : xs (i + 1).toNatClampNeg = v1) (e2 : xs (i + 2).toNatClampNeg = v2) (e3 : xs (i + 3).toNatClampNeg = v3) (e4 : xs (i + 4).toNatClampNeg = v4) (e5 : xs (i + 5).toNatClampNeg = v5) {Kk : MM → Prop} (K : ∀ μ, Kk μ → WX p l e room_1 s m args below meth c φ tc D LA 8 (kc + 1) (ks + 6) Q 1892 [(0, .ref 800), (1, .ref 0), (2, .ref 358), (3, .ref 410), (4, .int i)] [] μ) {μ : MM} (h : Glaw_44 v1 v2 v3 v4 v5 μ Kk) : WX p l e room_1 s m args below meth c φ tc D LA 8 kc ks Q 1762 [(0, .ref 800), (1, .ref 0), (2, .ref 358), (3, .ref 410), (4, .int i)] [] μ := by
  have hk0 : kc ≤ room_1.cells ∧ ks ≤ room_1.slots := ⟨by omega, by omega⟩
  unfold Glaw_44 at h
  refine x_aload_n C rfl 1 rfl dL_law_1762 ?_
  refine x_aload_n C rfl 0 rfl dL_law_1763 ?_
  refine x_iload C 4 rfl dL_law_1764 ?_
  refine x_iconst (v := 1) C (by decide) dL_law_1766 ?_
  refine x_iadd C dL_law_1767 ?_
  refine x_sld C hX hbl hbA a1 e1 dL_law_1768 ?_
  refine x_callV (dC := G11_keep_dep) (as := [.int v1]) (st := []) C rL hk0 (Nat.le_trans (Nat.le_of_ble_eq_true rfl) (Nat.le_refl 840)) (Nat.le_of_ble_eq_true rfl) ob0.1 ob0.2 (Nat.le_of_ble_eq_true rfl) rfl tw_6_45 tw_6_44 tw_6_43 tc_6_46 tw_1_1 hyX11 hnX11_keep rfl (Nat.le_of_ble_eq_true rfl) dL_law_1769 (G11_keep_met C.2.2.2.2.2.2.2.1 (Nat.le_refl _)  h) (fun r0 μ243 hq => ?_)
  obtain ⟨r244, rfl, h⟩ := hq
  refine x_st [.int r244] rfl ?_
  refine x_aload_n C rfl 2 rfl dL_law_1772 ?_
  refine x_aload_n C rfl 0 rfl dL_law_1773 ?_
  refine x_iload C 4 rfl dL_law_1774 ?_
  refine x_iconst (v := 1) C (by decide) dL_law_1776 ?_
  refine x_iadd C dL_law_1777 ?_
  refine x_sld C hX hbl hbA a1 e1 dL_law_1778 ?_
  refine x_callV (dC := G12_keep_dep) (as := [.int v1]) (st := [.int r244]) C rL hk0 (Nat.le_trans (Nat.le_of_ble_eq_true rfl) (Nat.le_refl 840)) (Nat.le_of_ble_eq_true rfl) ob358.1 ob358.2 (Nat.le_of_ble_eq_true rfl) rfl tw_8_183 tw_8_182 tw_8_181 tc_8_184 tw_1_13 hyX12 hnX12_keep rfl (Nat.le_of_ble_eq_true rfl) dL_law_1779 (G12_keep_met C.2.2.2.2.2.2.2.1 (Nat.le_refl _)  h) (fun r0 μ245 hq => ?_)
  obtain ⟨r246, rfl, h⟩ := hq
  refine x_st [.int r246, .int r244] rfl ?_
  refine x_icmp_eq (tgt := 1892) C dL_law_1782 (by decide) (fun c247 => ?_) (fun c247 => ?_)
  · have h := h.1 c247
    refine x_widen (Nat.le_add_right _ 1) (Nat.le_add_right _ 6) ?_
    exact K _ h
  · have h := h.2 c247
    refine x_iconst (v := 0) C (by decide) dL_law_1785 ?_
    exact h.elim
set_option maxHeartbeats 4000000 in
set_option maxRecDepth 100000 in
theorem law_45 (hfl : l.stackTraces = false) (C : CX p s m args meth c φ tc D LA s0 code RL 8) {b L : Nat} {xs : Nat → Int32} (hX : va_X b L xs s s.heap) (hbl : b < s.heap.size) (hbA : φ 800 = b ∧ ¬ LA b) (hkc : kc + 1 ≤ room_1.cells ∧ ks + 6 ≤ room_1.slots) {i v1 v2 v3 v4 v5 : Int32} (a1 : vp_in (i + 1) L) (a2 : vp_in (i + 2) L) (a3 : vp_in (i + 3) L) (a4 : vp_in (i + 4) L) (a5 : vp_in (i + 5) L) (e1 : xs (i + 1).toNatClampNeg = v1) (e2 : xs (i + 2).toNatClampNeg = v2) (e3 : xs (i + 3).toNatClampNeg = v3) (e4 : xs (i + 4).toNatClampNeg = v4) (e5 : xs (i + 5).toNatClampNeg = v5) {Kk : MM → Prop} (K : ∀ μ, Kk μ → WX p l e room_1 s m args below meth c φ tc D LA 8 (kc + 1) (ks + 6) Q 1892 [(0, .ref 800), (1, .ref 0), (2, .ref 358), (3, .ref 410), (4, .int i)] [] μ) {μ : MM} (h : Glaw_45 v1 v2 v3 v4 v5 μ Kk) : WX p l e room_1 s m args below meth c φ tc D LA 8 kc ks Q 1787 [(0, .ref 800), (1, .ref 0), (2, .ref 358), (3, .ref 410), (4, .int i)] [] μ := by
  have hk0 : kc ≤ room_1.cells ∧ ks ≤ room_1.slots := ⟨by omega, by omega⟩
  unfold Glaw_45 at h
  refine x_aload_n C rfl 1 rfl dL_law_1787 ?_
  refine x_aload_n C rfl 0 rfl dL_law_1788 ?_
  refine x_iload C 4 rfl dL_law_1789 ?_
  refine x_iconst (v := 1) C (by decide) dL_law_1791 ?_
  refine x_iadd C dL_law_1792 ?_
  refine x_sld C hX hbl hbA a1 e1 dL_law_1793 ?_
  refine x_callV (dC := G11_again_dep) (as := [.int v1]) (st := []) C rL hk0 (Nat.le_trans (Nat.le_of_ble_eq_true rfl) (Nat.le_refl 840)) (Nat.le_of_ble_eq_true rfl) ob0.1 ob0.2 (Nat.le_of_ble_eq_true rfl) rfl tw_6_57 tw_6_56 tw_6_55 tc_6_58 tw_1_1 hyX11 hnX11_again rfl (Nat.le_of_ble_eq_true rfl) dL_law_1794 (G11_again_met C.2.2.2.2.2.2.2.1 (Nat.le_refl _)  h) (fun r0 μ248 hq => ?_)
  obtain ⟨r249, rfl, h⟩ := hq
  refine x_st [.int r249] rfl ?_
  refine x_aload_n C rfl 2 rfl dL_law_1797 ?_
  refine x_aload_n C rfl 0 rfl dL_law_1798 ?_
  refine x_iload C 4 rfl dL_law_1799 ?_
  refine x_iconst (v := 1) C (by decide) dL_law_1801 ?_
  refine x_iadd C dL_law_1802 ?_
  refine x_sld C hX hbl hbA a1 e1 dL_law_1803 ?_
  refine x_callV (dC := G12_again_dep) (as := [.int v1]) (st := [.int r249]) C rL hk0 (Nat.le_trans (Nat.le_of_ble_eq_true rfl) (Nat.le_refl 840)) (Nat.le_of_ble_eq_true rfl) ob358.1 ob358.2 (Nat.le_of_ble_eq_true rfl) rfl tw_8_187 tw_8_186 tw_8_185 tc_8_188 tw_1_13 hyX12 hnX12_again rfl (Nat.le_of_ble_eq_true rfl) dL_law_1804 (G12_again_met C.2.2.2.2.2.2.2.1 (Nat.le_refl _)  h) (fun r0 μ250 hq => ?_)
  obtain ⟨r251, rfl, h⟩ := hq
  refine x_st [.int r251, .int r249] rfl ?_
  refine x_icmp_eq (tgt := 1892) C dL_law_1807 (by decide) (fun c252 => ?_) (fun c252 => ?_)
  · have h := h.1 c252
    refine x_widen (Nat.le_add_right _ 1) (Nat.le_add_right _ 6) ?_
    exact K _ h
  · have h := h.2 c252
    refine x_iconst (v := 0) C (by decide) dL_law_1810 ?_
    exact h.elim
set_option maxHeartbeats 4000000 in
set_option maxRecDepth 100000 in
theorem law_46 (hfl : l.stackTraces = false) (C : CX p s m args meth c φ tc D LA s0 code RL 8) {b L : Nat} {xs : Nat → Int32} (hX : va_X b L xs s s.heap) (hbl : b < s.heap.size) (hbA : φ 800 = b ∧ ¬ LA b) (hkc : kc + 1 ≤ room_1.cells ∧ ks + 6 ≤ room_1.slots) {i v1 v2 v3 v4 v5 : Int32} (a1 : vp_in (i + 1) L) (a2 : vp_in (i + 2) L) (a3 : vp_in (i + 3) L) (a4 : vp_in (i + 4) L) (a5 : vp_in (i + 5) L) (e1 : xs (i + 1).toNatClampNeg = v1) (e2 : xs (i + 2).toNatClampNeg = v2) (e3 : xs (i + 3).toNatClampNeg = v3) (e4 : xs (i + 4).toNatClampNeg = v4) (e5 : xs (i + 5).toNatClampNeg = v5) {Kk : MM → Prop} (K : ∀ μ, Kk μ → WX p l e room_1 s m args below meth c φ tc D LA 8 (kc + 1) (ks + 6) Q 1892 [(0, .ref 800), (1, .ref 0), (2, .ref 358), (3, .ref 410), (4, .int i)] [] μ) {μ : MM} (h : Glaw_46 v1 v2 v3 v4 v5 μ Kk) : WX p l e room_1 s m args below meth c φ tc D LA 8 kc ks Q 1812 [(0, .ref 800), (1, .ref 0), (2, .ref 358), (3, .ref 410), (4, .int i)] [] μ := by
  have hk0 : kc ≤ room_1.cells ∧ ks ≤ room_1.slots := ⟨by omega, by omega⟩
  unfold Glaw_46 at h
  refine x_aload_n C rfl 1 rfl dL_law_1812 ?_
  refine x_aload_n C rfl 0 rfl dL_law_1813 ?_
  refine x_iload C 4 rfl dL_law_1814 ?_
  refine x_iconst (v := 1) C (by decide) dL_law_1816 ?_
  refine x_iadd C dL_law_1817 ?_
  refine x_sld C hX hbl hbA a1 e1 dL_law_1818 ?_
  refine x_callV (dC := G11_count_dep) (as := [.int v1]) (st := []) C rL hk0 (Nat.le_trans (Nat.le_of_ble_eq_true rfl) (Nat.le_refl 840)) (Nat.le_of_ble_eq_true rfl) ob0.1 ob0.2 (Nat.le_of_ble_eq_true rfl) rfl tw_6_65 tw_6_64 tw_6_63 tc_6_66 tw_1_1 hyX11 hnX11_count rfl (Nat.le_of_ble_eq_true rfl) dL_law_1819 (G11_count_met C.2.2.2.2.2.2.2.1 (Nat.le_refl _)  h) (fun r0 μ253 hq => ?_)
  obtain ⟨r254, rfl, h⟩ := hq
  refine x_st [.int r254] rfl ?_
  refine x_aload_n C rfl 2 rfl dL_law_1822 ?_
  refine x_aload_n C rfl 0 rfl dL_law_1823 ?_
  refine x_iload C 4 rfl dL_law_1824 ?_
  refine x_iconst (v := 1) C (by decide) dL_law_1826 ?_
  refine x_iadd C dL_law_1827 ?_
  refine x_sld C hX hbl hbA a1 e1 dL_law_1828 ?_
  refine x_callV (dC := G12_count_dep) (as := [.int v1]) (st := [.int r254]) C rL hk0 (Nat.le_trans (Nat.le_of_ble_eq_true rfl) (Nat.le_refl 840)) (Nat.le_of_ble_eq_true rfl) ob358.1 ob358.2 (Nat.le_of_ble_eq_true rfl) rfl tw_8_191 tw_8_190 tw_8_189 tc_8_192 tw_1_13 hyX12 hnX12_count rfl (Nat.le_of_ble_eq_true rfl) dL_law_1829 (G12_count_met C.2.2.2.2.2.2.2.1 (Nat.le_refl _)  h) (fun r0 μ255 hq => ?_)
  obtain ⟨r256, rfl, h⟩ := hq
  refine x_st [.int r256, .int r254] rfl ?_
  refine x_icmp_eq (tgt := 1892) C dL_law_1832 (by decide) (fun c257 => ?_) (fun c257 => ?_)
  · have h := h.1 c257
    refine x_widen (Nat.le_add_right _ 1) (Nat.le_add_right _ 6) ?_
    exact K _ h
  · have h := h.2 c257
    refine x_iconst (v := 0) C (by decide) dL_law_1835 ?_
    exact h.elim
set_option maxHeartbeats 4000000 in
set_option maxRecDepth 100000 in
theorem law_47 (hfl : l.stackTraces = false) (C : CX p s m args meth c φ tc D LA s0 code RL 8) {b L : Nat} {xs : Nat → Int32} (hX : va_X b L xs s s.heap) (hbl : b < s.heap.size) (hbA : φ 800 = b ∧ ¬ LA b) (hkc : kc + 1 ≤ room_1.cells ∧ ks + 6 ≤ room_1.slots) {i v1 v2 v3 v4 v5 : Int32} (a1 : vp_in (i + 1) L) (a2 : vp_in (i + 2) L) (a3 : vp_in (i + 3) L) (a4 : vp_in (i + 4) L) (a5 : vp_in (i + 5) L) (e1 : xs (i + 1).toNatClampNeg = v1) (e2 : xs (i + 2).toNatClampNeg = v2) (e3 : xs (i + 3).toNatClampNeg = v3) (e4 : xs (i + 4).toNatClampNeg = v4) (e5 : xs (i + 5).toNatClampNeg = v5) {Kk : MM → Prop} (K : ∀ μ, Kk μ → WX p l e room_1 s m args below meth c φ tc D LA 8 (kc + 1) (ks + 6) Q 1892 [(0, .ref 800), (1, .ref 0), (2, .ref 358), (3, .ref 410), (4, .int i)] [] μ) {μ : MM} (h : Glaw_47 v1 v2 v3 v4 v5 μ Kk) : WX p l e room_1 s m args below meth c φ tc D LA 8 kc ks Q 1837 [(0, .ref 800), (1, .ref 0), (2, .ref 358), (3, .ref 410), (4, .int i)] [] μ := by
  have hk0 : kc ≤ room_1.cells ∧ ks ≤ room_1.slots := ⟨by omega, by omega⟩
  unfold Glaw_47 at h
  refine x_aload_n C rfl 1 rfl dL_law_1837 ?_
  refine x_aload_n C rfl 0 rfl dL_law_1838 ?_
  refine x_iload C 4 rfl dL_law_1839 ?_
  refine x_iconst (v := 1) C (by decide) dL_law_1841 ?_
  refine x_iadd C dL_law_1842 ?_
  refine x_sld C hX hbl hbA a1 e1 dL_law_1843 ?_
  refine x_aload_n C rfl 3 rfl dL_law_1844 ?_
  refine x_callSH (dC := G11_row_dep + 1) (as := [.ref 0, .int v1, .ref 410]) (st := []) C rL hkc (Nat.le_of_ble_eq_true rfl) (Nat.le_of_ble_eq_true rfl) tw_6_167 tw_6_166 th_row tw_1_0 hyL hnL_row rfl (Nat.le_of_ble_eq_true rfl) dL_law_1845 (GL_row_met hfl C.2.2.2.2.2.2.2.1 (Nat.le_refl _) h) (fun r0 μ259 hq => ?_)
  obtain ⟨r258, rfl, h⟩ := hq
  refine x_st [.int r258] rfl ?_
  refine x_istore C [(5, .int r258), (0, .ref 800), (1, .ref 0), (2, .ref 358), (3, .ref 410), (4, .int i)] (Nat.le_of_ble_eq_true rfl) rfl dL_law_1848 ?_
  refine x_aload_n C rfl 3 rfl dL_law_1850 ?_
  refine x_aload_n C rfl 1 rfl dL_law_1851 ?_
  refine x_iload C 5 rfl dL_law_1852 ?_
  refine x_iconst (v := 1) C (by decide) dL_law_1854 ?_
  refine x_iadd C dL_law_1855 ?_
  refine x_sld C hX hbl hbA a1 e1 dL_law_1856 ?_
  refine x_callV (dC := G12_row_dep) (as := [.int v1]) (st := []) C rL hkc (Nat.le_trans (Nat.le_of_ble_eq_true rfl) (Nat.le_refl 840)) (Nat.le_of_ble_eq_true rfl) ob358.1 ob358.2 (Nat.le_of_ble_eq_true rfl) rfl tw_9_183 tw_9_182 tw_9_181 tc_9_184 tw_1_13 hyX12 hnX12_row rfl (Nat.le_of_ble_eq_true rfl) dL_law_1857 (G12_row_met C.2.2.2.2.2.2.2.1 (Nat.le_refl _)  h) (fun r0 μ260 hq => ?_)
  obtain ⟨r261, rfl, h⟩ := hq
  refine x_st [.long r261] rfl ?_
  refine x_lstore C [(6, .long r261), (5, .int r258), (0, .ref 800), (1, .ref 0), (2, .ref 358), (3, .ref 410), (4, .int i)] (Nat.le_of_ble_eq_true rfl) rfl dL_law_1860 ?_
  refine x_aload_n C rfl 4 rfl dL_law_1862 ?_
  refine x_callV (dC := G12_thrown_dep) (as := []) (st := []) C rL hkc (Nat.le_trans (Nat.le_of_ble_eq_true rfl) (Nat.le_refl 840)) (Nat.le_of_ble_eq_true rfl) ob358.1 ob358.2 (Nat.le_of_ble_eq_true rfl) rfl tw_6_176 tw_6_175 tw_6_174 tc_6_177 tw_1_13 hyX12 hnX12_thrown rfl (Nat.le_of_ble_eq_true rfl) dL_law_1863 (G12_thrown_met C.2.2.2.2.2.2.2.1 (Nat.le_refl _)  h) (fun r0 μ262 hq => ?_)
  obtain ⟨r263, rfl, h⟩ := hq
  refine x_st [.int r263] rfl ?_
  refine x_iload C 1 rfl dL_law_1866 ?_
  refine x_icmp_eq (tgt := 1873) C dL_law_1868 (by decide) (fun c264 => ?_) (fun c264 => ?_)
  · have h := h.1 c264
    refine x_iload C 1 rfl dL_law_1873 ?_
    refine x_if_ne (tgt := 1889) C dL_law_1875 (by decide) (fun c265 => ?_) (fun c265 => ?_)
    · have h := h.1 c265
      refine x_goto (tgt := 1892) C dL_law_1889 (by decide) ?_
      refine x_sub [(0, .ref 800), (1, .ref 0), (2, .ref 358), (3, .ref 410), (4, .int i)] [2, 3, 4, 5, 6] rfl ?_
      exact K _ h
    · have h := h.2 c265
      refine x_aload_n C rfl 5 rfl dL_law_1878 ?_
      refine x_iconst (v := 0) C (by decide) dL_law_1879 ?_
      refine x_lald C ob410.1 ob410.2 (by unfold vp_in; decide) (j := 0) (by decide) dL_law_1880 ?_
      refine x_lload C 0 rfl dL_law_1881 ?_
      refine x_lcmp C dL_law_1883 ?_
      refine x_if_eq (tgt := 1889) C dL_law_1884 (by decide) (fun c266 => ?_) (fun c266 => ?_)
      · have h := h.1 c266
        refine x_goto (tgt := 1892) C dL_law_1889 (by decide) ?_
        refine x_sub [(0, .ref 800), (1, .ref 0), (2, .ref 358), (3, .ref 410), (4, .int i)] [2, 3, 4, 5, 6] rfl ?_
        exact K _ h
      · have h := h.2 c266
        refine x_iconst (v := 0) C (by decide) dL_law_1887 ?_
        exact h.elim
  · have h := h.2 c264
    refine x_iconst (v := 0) C (by decide) dL_law_1871 ?_
    exact h.elim
set_option maxHeartbeats 8000000 in
set_option maxRecDepth 100000 in
theorem law_round (hfl : l.stackTraces = false) (C : CX p s m args meth c φ tc D LA s0 code RL 8) {b L : Nat} {xs : Nat → Int32} (hX : va_X b L xs s s.heap) (hbl : b < s.heap.size) (hbA : φ 800 = b ∧ ¬ LA b) (hkc : kc + 1 ≤ room_1.cells ∧ ks + 6 ≤ room_1.slots) {i v0 : Int32} (a0 : vp_in i L) (e0 : xs i.toNatClampNeg = v0) (a1 : vp_in (i + 1) L) (a2 : vp_in (i + 2) L) (a3 : vp_in (i + 3) L) (a4 : vp_in (i + 4) L) (a5 : vp_in (i + 5) L) {Kk : MM → Prop} (K : ∀ μ, Kk μ → WX p l e room_1 s m args below meth c φ tc D LA 8 (kc + 1) (ks + 6) Q 1892 [(0, .ref 800), (1, .ref 0), (2, .ref 358), (3, .ref 410), (4, .int i)] [] μ) {μ : MM} (h : Glaw xs i v0 μ Kk) : WX p l e room_1 s m args below meth c φ tc D LA 8 kc ks Q 33 [(0, .ref 800), (1, .ref 0), (2, .ref 358), (3, .ref 410), (4, .int i)] [] μ := by
  have hk0 : kc ≤ room_1.cells ∧ ks ≤ room_1.slots := ⟨by omega, by omega⟩
  unfold Glaw at h
  refine x_aload_n C rfl 0 rfl dL_law_33 ?_
  refine x_iload C 4 rfl dL_law_34 ?_
  refine x_sld C hX hbl hbA a0 e0 dL_law_36 ?_
  refine x_bipush (v := 63) C (by decide) dL_law_37 ?_
  refine x_iand C dL_law_39 ?_
  refine x_topi (fun y267 e_y267 => ?_)
  have h := h y267 e_y267
  by_cases c268 : y267 = 0
  · have h := h.1 c268
    refine x_tIn (tgt := 248) C dL_law_40 (by rw [c268]; decide) (by rw [c268]; decide) (by rw [c268]; rfl) (by decide) ?_
    exact law_0 hfl C hX hbl hbA hkc a1 a2 a3 a4 a5 rfl rfl rfl rfl rfl K h
  have h := h.2
  by_cases c269 : y267 = 1
  · have h := h.1 c269
    refine x_tIn (tgt := 297) C dL_law_40 (by rw [c269]; decide) (by rw [c269]; decide) (by rw [c269]; rfl) (by decide) ?_
    exact law_1 hfl C hX hbl hbA hkc a1 a2 a3 a4 a5 rfl rfl rfl rfl rfl K h
  have h := h.2
  by_cases c270 : y267 = 2
  · have h := h.1 c270
    refine x_tIn (tgt := 346) C dL_law_40 (by rw [c270]; decide) (by rw [c270]; decide) (by rw [c270]; rfl) (by decide) ?_
    exact law_2 hfl C hX hbl hbA hkc a1 a2 a3 a4 a5 rfl rfl rfl rfl rfl K h
  have h := h.2
  by_cases c271 : y267 = 3
  · have h := h.1 c271
    refine x_tIn (tgt := 419) C dL_law_40 (by rw [c271]; decide) (by rw [c271]; decide) (by rw [c271]; rfl) (by decide) ?_
    exact law_3 hfl C hX hbl hbA hkc a1 a2 a3 a4 a5 rfl rfl rfl rfl rfl K h
  have h := h.2
  by_cases c272 : y267 = 4
  · have h := h.1 c272
    refine x_tIn (tgt := 468) C dL_law_40 (by rw [c272]; decide) (by rw [c272]; decide) (by rw [c272]; rfl) (by decide) ?_
    exact law_4 hfl C hX hbl hbA hkc a1 a2 a3 a4 a5 rfl rfl rfl rfl rfl K h
  have h := h.2
  by_cases c273 : y267 = 5
  · have h := h.1 c273
    refine x_tIn (tgt := 536) C dL_law_40 (by rw [c273]; decide) (by rw [c273]; decide) (by rw [c273]; rfl) (by decide) ?_
    exact law_5 hfl C hX hbl hbA hkc a1 a2 a3 a4 a5 rfl rfl rfl rfl rfl K h
  have h := h.2
  by_cases c274 : y267 = 6
  · have h := h.1 c274
    refine x_tIn (tgt := 561) C dL_law_40 (by rw [c274]; decide) (by rw [c274]; decide) (by rw [c274]; rfl) (by decide) ?_
    exact law_6 hfl C hX hbl hbA hkc a1 a2 a3 a4 a5 rfl rfl rfl rfl rfl K h
  have h := h.2
  by_cases c275 : y267 = 7
  · have h := h.1 c275
    refine x_tIn (tgt := 586) C dL_law_40 (by rw [c275]; decide) (by rw [c275]; decide) (by rw [c275]; rfl) (by decide) ?_
    exact law_7 hfl C hX hbl hbA hkc a1 a2 a3 a4 a5 rfl rfl rfl rfl rfl K h
  have h := h.2
  by_cases c276 : y267 = 8
  · have h := h.1 c276
    refine x_tIn (tgt := 611) C dL_law_40 (by rw [c276]; decide) (by rw [c276]; decide) (by rw [c276]; rfl) (by decide) ?_
    exact law_8 hfl C hX hbl hbA hkc a1 a2 a3 a4 a5 rfl rfl rfl rfl rfl K h
  have h := h.2
  by_cases c277 : y267 = 9
  · have h := h.1 c277
    refine x_tIn (tgt := 636) C dL_law_40 (by rw [c277]; decide) (by rw [c277]; decide) (by rw [c277]; rfl) (by decide) ?_
    exact law_9 hfl C hX hbl hbA hkc a1 a2 a3 a4 a5 rfl rfl rfl rfl rfl K h
  have h := h.2
  by_cases c278 : y267 = 10
  · have h := h.1 c278
    refine x_tIn (tgt := 704) C dL_law_40 (by rw [c278]; decide) (by rw [c278]; decide) (by rw [c278]; rfl) (by decide) ?_
    exact law_10 hfl C hX hbl hbA hkc a1 a2 a3 a4 a5 rfl rfl rfl rfl rfl K h
  have h := h.2
  by_cases c279 : y267 = 11
  · have h := h.1 c279
    refine x_tIn (tgt := 729) C dL_law_40 (by rw [c279]; decide) (by rw [c279]; decide) (by rw [c279]; rfl) (by decide) ?_
    exact law_11 hfl C hX hbl hbA hkc a1 a2 a3 a4 a5 rfl rfl rfl rfl rfl K h
  have h := h.2
  by_cases c280 : y267 = 12
  · have h := h.1 c280
    refine x_tIn (tgt := 782) C dL_law_40 (by rw [c280]; decide) (by rw [c280]; decide) (by rw [c280]; rfl) (by decide) ?_
    exact law_12 hfl C hX hbl hbA hkc a1 a2 a3 a4 a5 rfl rfl rfl rfl rfl K h
  have h := h.2
  by_cases c281 : y267 = 13
  · have h := h.1 c281
    refine x_tIn (tgt := 843) C dL_law_40 (by rw [c281]; decide) (by rw [c281]; decide) (by rw [c281]; rfl) (by decide) ?_
    exact law_13 hfl C hX hbl hbA hkc a1 a2 a3 a4 a5 rfl rfl rfl rfl rfl K h
  have h := h.2
  by_cases c282 : y267 = 14
  · have h := h.1 c282
    refine x_tIn (tgt := 880) C dL_law_40 (by rw [c282]; decide) (by rw [c282]; decide) (by rw [c282]; rfl) (by decide) ?_
    exact law_14 hfl C hX hbl hbA hkc a1 a2 a3 a4 a5 rfl rfl rfl rfl rfl K h
  have h := h.2
  by_cases c283 : y267 = 15
  · have h := h.1 c283
    refine x_tIn (tgt := 905) C dL_law_40 (by rw [c283]; decide) (by rw [c283]; decide) (by rw [c283]; rfl) (by decide) ?_
    exact law_15 hfl C hX hbl hbA hkc a1 a2 a3 a4 a5 rfl rfl rfl rfl rfl K h
  have h := h.2
  by_cases c284 : y267 = 16
  · have h := h.1 c284
    refine x_tIn (tgt := 930) C dL_law_40 (by rw [c284]; decide) (by rw [c284]; decide) (by rw [c284]; rfl) (by decide) ?_
    exact law_16 hfl C hX hbl hbA hkc a1 a2 a3 a4 a5 rfl rfl rfl rfl rfl K h
  have h := h.2
  by_cases c285 : y267 = 17
  · have h := h.1 c285
    refine x_tIn (tgt := 955) C dL_law_40 (by rw [c285]; decide) (by rw [c285]; decide) (by rw [c285]; rfl) (by decide) ?_
    exact law_17 hfl C hX hbl hbA hkc a1 a2 a3 a4 a5 rfl rfl rfl rfl rfl K h
  have h := h.2
  by_cases c286 : y267 = 18
  · have h := h.1 c286
    refine x_tIn (tgt := 992) C dL_law_40 (by rw [c286]; decide) (by rw [c286]; decide) (by rw [c286]; rfl) (by decide) ?_
    exact law_18 hfl C hX hbl hbA hkc a1 a2 a3 a4 a5 rfl rfl rfl rfl rfl K h
  have h := h.2
  by_cases c287 : y267 = 19
  · have h := h.1 c287
    refine x_tIn (tgt := 1005) C dL_law_40 (by rw [c287]; decide) (by rw [c287]; decide) (by rw [c287]; rfl) (by decide) ?_
    exact law_19 hfl C hX hbl hbA hkc a1 a2 a3 a4 a5 rfl rfl rfl rfl rfl K h
  have h := h.2
  by_cases c288 : y267 = 20
  · have h := h.1 c288
    refine x_tIn (tgt := 1030) C dL_law_40 (by rw [c288]; decide) (by rw [c288]; decide) (by rw [c288]; rfl) (by decide) ?_
    exact law_20 hfl C hX hbl hbA hkc a1 a2 a3 a4 a5 rfl rfl rfl rfl rfl K h
  have h := h.2
  by_cases c289 : y267 = 21
  · have h := h.1 c289
    refine x_tIn (tgt := 1043) C dL_law_40 (by rw [c289]; decide) (by rw [c289]; decide) (by rw [c289]; rfl) (by decide) ?_
    exact law_21 hfl C hX hbl hbA hkc a1 a2 a3 a4 a5 rfl rfl rfl rfl rfl K h
  have h := h.2
  by_cases c290 : y267 = 22
  · have h := h.1 c290
    refine x_tIn (tgt := 1068) C dL_law_40 (by rw [c290]; decide) (by rw [c290]; decide) (by rw [c290]; rfl) (by decide) ?_
    exact law_22 hfl C hX hbl hbA hkc a1 a2 a3 a4 a5 rfl rfl rfl rfl rfl K h
  have h := h.2
  by_cases c291 : y267 = 23
  · have h := h.1 c291
    refine x_tIn (tgt := 1081) C dL_law_40 (by rw [c291]; decide) (by rw [c291]; decide) (by rw [c291]; rfl) (by decide) ?_
    exact law_23 hfl C hX hbl hbA hkc a1 a2 a3 a4 a5 rfl rfl rfl rfl rfl K h
  have h := h.2
  by_cases c292 : y267 = 24
  · have h := h.1 c292
    refine x_tIn (tgt := 1106) C dL_law_40 (by rw [c292]; decide) (by rw [c292]; decide) (by rw [c292]; rfl) (by decide) ?_
    exact law_24 hfl C hX hbl hbA hkc a1 a2 a3 a4 a5 rfl rfl rfl rfl rfl K h
  have h := h.2
  by_cases c293 : y267 = 25
  · have h := h.1 c293
    refine x_tIn (tgt := 1143) C dL_law_40 (by rw [c293]; decide) (by rw [c293]; decide) (by rw [c293]; rfl) (by decide) ?_
    exact law_25 hfl C hX hbl hbA hkc a1 a2 a3 a4 a5 rfl rfl rfl rfl rfl K h
  have h := h.2
  by_cases c294 : y267 = 26
  · have h := h.1 c294
    refine x_tIn (tgt := 1192) C dL_law_40 (by rw [c294]; decide) (by rw [c294]; decide) (by rw [c294]; rfl) (by decide) ?_
    exact law_26 hfl C hX hbl hbA hkc a1 a2 a3 a4 a5 rfl rfl rfl rfl rfl K h
  have h := h.2
  by_cases c295 : y267 = 27
  · have h := h.1 c295
    refine x_tIn (tgt := 1229) C dL_law_40 (by rw [c295]; decide) (by rw [c295]; decide) (by rw [c295]; rfl) (by decide) ?_
    exact law_27 hfl C hX hbl hbA hkc a1 a2 a3 a4 a5 rfl rfl rfl rfl rfl K h
  have h := h.2
  by_cases c296 : y267 = 28
  · have h := h.1 c296
    refine x_tIn (tgt := 1266) C dL_law_40 (by rw [c296]; decide) (by rw [c296]; decide) (by rw [c296]; rfl) (by decide) ?_
    exact law_28 hfl C hX hbl hbA hkc a1 a2 a3 a4 a5 rfl rfl rfl rfl rfl K h
  have h := h.2
  by_cases c297 : y267 = 29
  · have h := h.1 c297
    refine x_tIn (tgt := 1279) C dL_law_40 (by rw [c297]; decide) (by rw [c297]; decide) (by rw [c297]; rfl) (by decide) ?_
    exact law_29 hfl C hX hbl hbA hkc a1 a2 a3 a4 a5 rfl rfl rfl rfl rfl K h
  have h := h.2
  by_cases c298 : y267 = 30
  · have h := h.1 c298
    refine x_tIn (tgt := 1316) C dL_law_40 (by rw [c298]; decide) (by rw [c298]; decide) (by rw [c298]; rfl) (by decide) ?_
    exact law_30 hfl C hX hbl hbA hkc a1 a2 a3 a4 a5 rfl rfl rfl rfl rfl K h
  have h := h.2
  by_cases c299 : y267 = 31
  · have h := h.1 c299
    refine x_tIn (tgt := 1353) C dL_law_40 (by rw [c299]; decide) (by rw [c299]; decide) (by rw [c299]; rfl) (by decide) ?_
    exact law_31 hfl C hX hbl hbA hkc a1 a2 a3 a4 a5 rfl rfl rfl rfl rfl K h
  have h := h.2
  by_cases c300 : y267 = 32
  · have h := h.1 c300
    refine x_tIn (tgt := 1366) C dL_law_40 (by rw [c300]; decide) (by rw [c300]; decide) (by rw [c300]; rfl) (by decide) ?_
    exact law_32 hfl C hX hbl hbA hkc a1 a2 a3 a4 a5 rfl rfl rfl rfl rfl K h
  have h := h.2
  by_cases c301 : y267 = 33
  · have h := h.1 c301
    refine x_tIn (tgt := 1391) C dL_law_40 (by rw [c301]; decide) (by rw [c301]; decide) (by rw [c301]; rfl) (by decide) ?_
    exact law_33 hfl C hX hbl hbA hkc a1 a2 a3 a4 a5 rfl rfl rfl rfl rfl K h
  have h := h.2
  by_cases c302 : y267 = 34
  · have h := h.1 c302
    refine x_tIn (tgt := 1416) C dL_law_40 (by rw [c302]; decide) (by rw [c302]; decide) (by rw [c302]; rfl) (by decide) ?_
    exact law_34 hfl C hX hbl hbA hkc a1 a2 a3 a4 a5 rfl rfl rfl rfl rfl K h
  have h := h.2
  by_cases c303 : y267 = 35
  · have h := h.1 c303
    refine x_tIn (tgt := 1441) C dL_law_40 (by rw [c303]; decide) (by rw [c303]; decide) (by rw [c303]; rfl) (by decide) ?_
    exact law_35 hfl C hX hbl hbA hkc a1 a2 a3 a4 a5 rfl rfl rfl rfl rfl K h
  have h := h.2
  by_cases c304 : y267 = 36
  · have h := h.1 c304
    refine x_tIn (tgt := 1466) C dL_law_40 (by rw [c304]; decide) (by rw [c304]; decide) (by rw [c304]; rfl) (by decide) ?_
    exact law_36 hfl C hX hbl hbA hkc a1 a2 a3 a4 a5 rfl rfl rfl rfl rfl K h
  have h := h.2
  by_cases c305 : y267 = 37
  · have h := h.1 c305
    refine x_tIn (tgt := 1491) C dL_law_40 (by rw [c305]; decide) (by rw [c305]; decide) (by rw [c305]; rfl) (by decide) ?_
    exact law_37 hfl C hX hbl hbA hkc a1 a2 a3 a4 a5 rfl rfl rfl rfl rfl K h
  have h := h.2
  by_cases c306 : y267 = 38
  · have h := h.1 c306
    refine x_tIn (tgt := 1540) C dL_law_40 (by rw [c306]; decide) (by rw [c306]; decide) (by rw [c306]; rfl) (by decide) ?_
    exact law_38 hfl C hX hbl hbA hkc a1 a2 a3 a4 a5 rfl rfl rfl rfl rfl K h
  have h := h.2
  by_cases c307 : y267 = 39
  · have h := h.1 c307
    refine x_tIn (tgt := 1589) C dL_law_40 (by rw [c307]; decide) (by rw [c307]; decide) (by rw [c307]; rfl) (by decide) ?_
    exact law_39 hfl C hX hbl hbA hkc a1 a2 a3 a4 a5 rfl rfl rfl rfl rfl K h
  have h := h.2
  by_cases c308 : y267 = 40
  · have h := h.1 c308
    refine x_tIn (tgt := 1602) C dL_law_40 (by rw [c308]; decide) (by rw [c308]; decide) (by rw [c308]; rfl) (by decide) ?_
    exact law_40 hfl C hX hbl hbA hkc a1 a2 a3 a4 a5 rfl rfl rfl rfl rfl K h
  have h := h.2
  by_cases c309 : y267 = 41
  · have h := h.1 c309
    refine x_tIn (tgt := 1615) C dL_law_40 (by rw [c309]; decide) (by rw [c309]; decide) (by rw [c309]; rfl) (by decide) ?_
    exact law_41 hfl C hX hbl hbA hkc a1 a2 a3 a4 a5 rfl rfl rfl rfl rfl K h
  have h := h.2
  by_cases c310 : y267 = 42
  · have h := h.1 c310
    refine x_tIn (tgt := 1640) C dL_law_40 (by rw [c310]; decide) (by rw [c310]; decide) (by rw [c310]; rfl) (by decide) ?_
    exact law_42 hfl C hX hbl hbA hkc a1 a2 a3 a4 a5 rfl rfl rfl rfl rfl K h
  have h := h.2
  by_cases c311 : y267 = 43
  · have h := h.1 c311
    refine x_tIn (tgt := 1701) C dL_law_40 (by rw [c311]; decide) (by rw [c311]; decide) (by rw [c311]; rfl) (by decide) ?_
    exact law_43 hfl C hX hbl hbA hkc a1 a2 a3 a4 a5 rfl rfl rfl rfl rfl K h
  have h := h.2
  by_cases c312 : y267 = 44
  · have h := h.1 c312
    refine x_tIn (tgt := 1762) C dL_law_40 (by rw [c312]; decide) (by rw [c312]; decide) (by rw [c312]; rfl) (by decide) ?_
    exact law_44 hfl C hX hbl hbA hkc a1 a2 a3 a4 a5 rfl rfl rfl rfl rfl K h
  have h := h.2
  by_cases c313 : y267 = 45
  · have h := h.1 c313
    refine x_tIn (tgt := 1787) C dL_law_40 (by rw [c313]; decide) (by rw [c313]; decide) (by rw [c313]; rfl) (by decide) ?_
    exact law_45 hfl C hX hbl hbA hkc a1 a2 a3 a4 a5 rfl rfl rfl rfl rfl K h
  have h := h.2
  by_cases c314 : y267 = 46
  · have h := h.1 c314
    refine x_tIn (tgt := 1812) C dL_law_40 (by rw [c314]; decide) (by rw [c314]; decide) (by rw [c314]; rfl) (by decide) ?_
    exact law_46 hfl C hX hbl hbA hkc a1 a2 a3 a4 a5 rfl rfl rfl rfl rfl K h
  have h := h.2
  by_cases c315 : y267 = 47
  · have h := h.1 c315
    refine x_tIn (tgt := 1837) C dL_law_40 (by rw [c315]; decide) (by rw [c315]; decide) (by rw [c315]; rfl) (by decide) ?_
    exact law_47 hfl C hX hbl hbA hkc a1 a2 a3 a4 a5 rfl rfl rfl rfl rfl K h
  have h := h.2
  have h := h c268 c269 c270 c271 c272 c273 c274 c275 c276 c277 c278 c279 c280 c281 c282 c283 c284 c285 c286 c287 c288 c289 c290 c291 c292 c293 c294 c295 c296 c297 c298 c299 c300 c301 c302 c303 c304 c305 c306 c307 c308 c309 c310 c311 c312 c313 c314 c315
  have n_c268 := lv_neT (a := 0) c268 (by decide)
  have n_c269 := lv_neT (a := 1) c269 (by decide)
  have n_c270 := lv_neT (a := 2) c270 (by decide)
  have n_c271 := lv_neT (a := 3) c271 (by decide)
  have n_c272 := lv_neT (a := 4) c272 (by decide)
  have n_c273 := lv_neT (a := 5) c273 (by decide)
  have n_c274 := lv_neT (a := 6) c274 (by decide)
  have n_c275 := lv_neT (a := 7) c275 (by decide)
  have n_c276 := lv_neT (a := 8) c276 (by decide)
  have n_c277 := lv_neT (a := 9) c277 (by decide)
  have n_c278 := lv_neT (a := 10) c278 (by decide)
  have n_c279 := lv_neT (a := 11) c279 (by decide)
  have n_c280 := lv_neT (a := 12) c280 (by decide)
  have n_c281 := lv_neT (a := 13) c281 (by decide)
  have n_c282 := lv_neT (a := 14) c282 (by decide)
  have n_c283 := lv_neT (a := 15) c283 (by decide)
  have n_c284 := lv_neT (a := 16) c284 (by decide)
  have n_c285 := lv_neT (a := 17) c285 (by decide)
  have n_c286 := lv_neT (a := 18) c286 (by decide)
  have n_c287 := lv_neT (a := 19) c287 (by decide)
  have n_c288 := lv_neT (a := 20) c288 (by decide)
  have n_c289 := lv_neT (a := 21) c289 (by decide)
  have n_c290 := lv_neT (a := 22) c290 (by decide)
  have n_c291 := lv_neT (a := 23) c291 (by decide)
  have n_c292 := lv_neT (a := 24) c292 (by decide)
  have n_c293 := lv_neT (a := 25) c293 (by decide)
  have n_c294 := lv_neT (a := 26) c294 (by decide)
  have n_c295 := lv_neT (a := 27) c295 (by decide)
  have n_c296 := lv_neT (a := 28) c296 (by decide)
  have n_c297 := lv_neT (a := 29) c297 (by decide)
  have n_c298 := lv_neT (a := 30) c298 (by decide)
  have n_c299 := lv_neT (a := 31) c299 (by decide)
  have n_c300 := lv_neT (a := 32) c300 (by decide)
  have n_c301 := lv_neT (a := 33) c301 (by decide)
  have n_c302 := lv_neT (a := 34) c302 (by decide)
  have n_c303 := lv_neT (a := 35) c303 (by decide)
  have n_c304 := lv_neT (a := 36) c304 (by decide)
  have n_c305 := lv_neT (a := 37) c305 (by decide)
  have n_c306 := lv_neT (a := 38) c306 (by decide)
  have n_c307 := lv_neT (a := 39) c307 (by decide)
  have n_c308 := lv_neT (a := 40) c308 (by decide)
  have n_c309 := lv_neT (a := 41) c309 (by decide)
  have n_c310 := lv_neT (a := 42) c310 (by decide)
  have n_c311 := lv_neT (a := 43) c311 (by decide)
  have n_c312 := lv_neT (a := 44) c312 (by decide)
  have n_c313 := lv_neT (a := 45) c313 (by decide)
  have n_c314 := lv_neT (a := 46) c314 (by decide)
  have n_c315 := lv_neT (a := 47) c315 (by decide)
  refine x_tOut (tgt := 1892) C dL_law_40 (by omega) (by decide) ?_
  refine x_widen (Nat.le_add_right _ 1) (Nat.le_add_right _ 6) ?_
  exact K _ h
theorem law_all {Rel : MM → Prop} (ops : OPS Rel) {xs : Nat → Int32} {i v0 : Int32} {μ : MM} (hr : Rel μ) : Glaw xs i v0 μ Rel := by
  intro y _
  exact ⟨fun _ => ops.1 _ _ _ _ _ _ hr, fun _ => ops.2.1 _ _ _ _ _ _ hr, fun _ => ops.2.2.1 _ _ _ _ _ _ hr, fun _ => ops.2.2.2.1 _ _ _ _ _ _ hr, fun _ => ops.2.2.2.2.1 _ _ _ _ _ _ hr, fun _ => ops.2.2.2.2.2.1 _ _ _ _ _ _ hr, fun _ => ops.2.2.2.2.2.2.1 _ _ _ _ _ _ hr, fun _ => ops.2.2.2.2.2.2.2.1 _ _ _ _ _ _ hr, fun _ => ops.2.2.2.2.2.2.2.2.1 _ _ _ _ _ _ hr, fun _ => ops.2.2.2.2.2.2.2.2.2.1 _ _ _ _ _ _ hr, fun _ => ops.2.2.2.2.2.2.2.2.2.2.1 _ _ _ _ _ _ hr, fun _ => ops.2.2.2.2.2.2.2.2.2.2.2.1 _ _ _ _ _ _ hr, fun _ => ops.2.2.2.2.2.2.2.2.2.2.2.2.1 _ _ _ _ _ _ hr, fun _ => ops.2.2.2.2.2.2.2.2.2.2.2.2.2.1 _ _ _ _ _ _ hr, fun _ => ops.2.2.2.2.2.2.2.2.2.2.2.2.2.2.1 _ _ _ _ _ _ hr, fun _ => ops.2.2.2.2.2.2.2.2.2.2.2.2.2.2.2.1 _ _ _ _ _ _ hr, fun _ => ops.2.2.2.2.2.2.2.2.2.2.2.2.2.2.2.2.1 _ _ _ _ _ _ hr, fun _ => ops.2.2.2.2.2.2.2.2.2.2.2.2.2.2.2.2.2.1 _ _ _ _ _ _ hr, fun _ => ops.2.2.2.2.2.2.2.2.2.2.2.2.2.2.2.2.2.2.1 _ _ _ _ _ _ hr, fun _ => ops.2.2.2.2.2.2.2.2.2.2.2.2.2.2.2.2.2.2.2.1 _ _ _ _ _ _ hr, fun _ => ops.2.2.2.2.2.2.2.2.2.2.2.2.2.2.2.2.2.2.2.2.1 _ _ _ _ _ _ hr, fun _ => ops.2.2.2.2.2.2.2.2.2.2.2.2.2.2.2.2.2.2.2.2.2.1 _ _ _ _ _ _ hr, fun _ => ops.2.2.2.2.2.2.2.2.2.2.2.2.2.2.2.2.2.2.2.2.2.2.1 _ _ _ _ _ _ hr, fun _ => ops.2.2.2.2.2.2.2.2.2.2.2.2.2.2.2.2.2.2.2.2.2.2.2.1 _ _ _ _ _ _ hr, fun _ => ops.2.2.2.2.2.2.2.2.2.2.2.2.2.2.2.2.2.2.2.2.2.2.2.2.1 _ _ _ _ _ _ hr, fun _ => ops.2.2.2.2.2.2.2.2.2.2.2.2.2.2.2.2.2.2.2.2.2.2.2.2.2.1 _ _ _ _ _ _ hr, fun _ => ops.2.2.2.2.2.2.2.2.2.2.2.2.2.2.2.2.2.2.2.2.2.2.2.2.2.2.1 _ _ _ _ _ _ hr, fun _ => ops.2.2.2.2.2.2.2.2.2.2.2.2.2.2.2.2.2.2.2.2.2.2.2.2.2.2.2.1 _ _ _ _ _ _ hr, fun _ => ops.2.2.2.2.2.2.2.2.2.2.2.2.2.2.2.2.2.2.2.2.2.2.2.2.2.2.2.2.1 _ _ _ _ _ _ hr, fun _ => ops.2.2.2.2.2.2.2.2.2.2.2.2.2.2.2.2.2.2.2.2.2.2.2.2.2.2.2.2.2.1 _ _ _ _ _ _ hr, fun _ => ops.2.2.2.2.2.2.2.2.2.2.2.2.2.2.2.2.2.2.2.2.2.2.2.2.2.2.2.2.2.2.1 _ _ _ _ _ _ hr, fun _ => ops.2.2.2.2.2.2.2.2.2.2.2.2.2.2.2.2.2.2.2.2.2.2.2.2.2.2.2.2.2.2.2.1 _ _ _ _ _ _ hr, fun _ => ops.2.2.2.2.2.2.2.2.2.2.2.2.2.2.2.2.2.2.2.2.2.2.2.2.2.2.2.2.2.2.2.2.1 _ _ _ _ _ _ hr, fun _ => ops.2.2.2.2.2.2.2.2.2.2.2.2.2.2.2.2.2.2.2.2.2.2.2.2.2.2.2.2.2.2.2.2.2.1 _ _ _ _ _ _ hr, fun _ => ops.2.2.2.2.2.2.2.2.2.2.2.2.2.2.2.2.2.2.2.2.2.2.2.2.2.2.2.2.2.2.2.2.2.2.1 _ _ _ _ _ _ hr, fun _ => ops.2.2.2.2.2.2.2.2.2.2.2.2.2.2.2.2.2.2.2.2.2.2.2.2.2.2.2.2.2.2.2.2.2.2.2.1 _ _ _ _ _ _ hr, fun _ => ops.2.2.2.2.2.2.2.2.2.2.2.2.2.2.2.2.2.2.2.2.2.2.2.2.2.2.2.2.2.2.2.2.2.2.2.2.1 _ _ _ _ _ _ hr, fun _ => ops.2.2.2.2.2.2.2.2.2.2.2.2.2.2.2.2.2.2.2.2.2.2.2.2.2.2.2.2.2.2.2.2.2.2.2.2.2.1 _ _ _ _ _ _ hr, fun _ => ops.2.2.2.2.2.2.2.2.2.2.2.2.2.2.2.2.2.2.2.2.2.2.2.2.2.2.2.2.2.2.2.2.2.2.2.2.2.2.1 _ _ _ _ _ _ hr, fun _ => ops.2.2.2.2.2.2.2.2.2.2.2.2.2.2.2.2.2.2.2.2.2.2.2.2.2.2.2.2.2.2.2.2.2.2.2.2.2.2.2.1 _ _ _ _ _ _ hr, fun _ => ops.2.2.2.2.2.2.2.2.2.2.2.2.2.2.2.2.2.2.2.2.2.2.2.2.2.2.2.2.2.2.2.2.2.2.2.2.2.2.2.2.1 _ _ _ _ _ _ hr, fun _ => ops.2.2.2.2.2.2.2.2.2.2.2.2.2.2.2.2.2.2.2.2.2.2.2.2.2.2.2.2.2.2.2.2.2.2.2.2.2.2.2.2.2.1 _ _ _ _ _ _ hr, fun _ => ops.2.2.2.2.2.2.2.2.2.2.2.2.2.2.2.2.2.2.2.2.2.2.2.2.2.2.2.2.2.2.2.2.2.2.2.2.2.2.2.2.2.2.1 _ _ _ _ _ _ hr, fun _ => ops.2.2.2.2.2.2.2.2.2.2.2.2.2.2.2.2.2.2.2.2.2.2.2.2.2.2.2.2.2.2.2.2.2.2.2.2.2.2.2.2.2.2.2.1 _ _ _ _ _ _ hr, fun _ => ops.2.2.2.2.2.2.2.2.2.2.2.2.2.2.2.2.2.2.2.2.2.2.2.2.2.2.2.2.2.2.2.2.2.2.2.2.2.2.2.2.2.2.2.2.1 _ _ _ _ _ _ hr, fun _ => ops.2.2.2.2.2.2.2.2.2.2.2.2.2.2.2.2.2.2.2.2.2.2.2.2.2.2.2.2.2.2.2.2.2.2.2.2.2.2.2.2.2.2.2.2.2.1 _ _ _ _ _ _ hr, fun _ => ops.2.2.2.2.2.2.2.2.2.2.2.2.2.2.2.2.2.2.2.2.2.2.2.2.2.2.2.2.2.2.2.2.2.2.2.2.2.2.2.2.2.2.2.2.2.2.1 _ _ _ _ _ _ hr, fun _ => ops.2.2.2.2.2.2.2.2.2.2.2.2.2.2.2.2.2.2.2.2.2.2.2.2.2.2.2.2.2.2.2.2.2.2.2.2.2.2.2.2.2.2.2.2.2.2.2 _ _ _ _ _ _ hr, by intros; exact hr⟩
theorem ofNI {n : Nat} (h : n < 2 ^ 31) : (Int32.ofNat n).toInt = n := Int32.toInt_ofNat_of_lt h
theorem i_sub {a b : Int32} (h1 : -2147483648 ≤ a.toInt - b.toInt) (h2 : a.toInt - b.toInt < 2147483648) : (a - b).toInt = a.toInt - b.toInt := by
  rw [Int32.toInt_sub]
  exact Int.bmod_eq_of_le (by omega) (by omega)
theorem l_gt {L n : Nat} (hL : L ≤ 3072) (hn : n ≤ 3078) : (Int32.ofNat L - 6 < Int32.ofNat n) ↔ L < n + 6 := by
  have h6 : (6 : Int32).toInt = 6 := by decide
  have hl : (Int32.ofNat L).toInt = L := ofNI (by omega)
  have hm : (Int32.ofNat n).toInt = n := ofNI (by omega)
  rw [Int32.lt_iff_toInt_lt, i_sub (by omega) (by omega), hl, hm, h6]
  omega
theorem vin {n L : Nat} (h : n < L) (hL : L ≤ 3072) : vp_in (Int32.ofNat n) L := by
  have hm : (Int32.ofNat n).toInt = n := ofNI (by omega)
  have h0 : (0 : Int32).toInt = 0 := by decide
  unfold vp_in
  rw [Int32.lt_iff_toInt_lt, hm, h0, Int32.toNatClampNeg_ofNat_of_lt (by omega)]
  omega
theorem law_head (C : CX p s m args meth c φ tc D LA s0 code RL 8) {b L : Nat} {xs : Nat → Int32} (hX : va_X b L xs s s.heap) (hbl : b < s.heap.size) (hbA : φ 800 = b ∧ ¬ LA b) (hL : L ≤ 3072) {j : Nat} (hj : 6 * j ≤ L + 6) {μ : MM} (hend : L < 6 * j + 6 → WX p l e room_1 s m args below meth c φ tc D LA 8 kc ks Q 1898 [(0, .ref 800), (1, .ref 0), (2, .ref 358), (3, .ref 410), (4, .int (Int32.ofNat (6 * j)))] [] μ) (hgo : 6 * j + 6 ≤ L → WX p l e room_1 s m args below meth c φ tc D LA 8 kc ks Q 33 [(0, .ref 800), (1, .ref 0), (2, .ref 358), (3, .ref 410), (4, .int (Int32.ofNat (6 * j)))] [] μ) : WX p l e room_1 s m args below meth c φ tc D LA 8 kc ks Q 23 [(0, .ref 800), (1, .ref 0), (2, .ref 358), (3, .ref 410), (4, .int (Int32.ofNat (6 * j)))] [] μ := by
  refine x_iload C 4 rfl dL_law_23 ?_
  refine x_aload_n C rfl 0 rfl dL_law_25 ?_
  refine x_slen C hX hbl hbA dL_law_26 ?_
  refine x_bipush (v := 6) C (by decide) dL_law_27 ?_
  refine x_isub C dL_law_29 ?_
  exact x_icmp_gt (tgt := 1898) C dL_law_30 (by decide) (fun q => hend ((l_gt hL (by omega)).mp q)) (fun q => hgo (Nat.not_lt.mp (fun z => q ((l_gt hL (by omega)).mpr z))))
theorem law_loop (hfl : l.stackTraces = false) (C : CX p s m args meth c φ tc D LA s0 code RL 8) {b L : Nat} {xs : Nat → Int32} (hX : va_X b L xs s s.heap) (hbl : b < s.heap.size) (hbA : φ 800 = b ∧ ¬ LA b) (hL : L ≤ 3072) {Rel : MM → Prop} (ops : OPS Rel) (hend : ∀ (kc ks : Nat) (i : Int32) (μ : MM), kc ≤ 601024 → ks ≤ 7293034 → Rel μ → WX p l e room_1 s m args below meth c φ tc D LA 8 kc ks Q 1898 [(0, .ref 800), (1, .ref 0), (2, .ref 358), (3, .ref 410), (4, .int i)] [] μ) :
    ∀ (n j kc ks : Nat) (μ : MM), L < 6 * j + 6 * n + 6 → 6 * j ≤ L + 6 → kc + n ≤ 601024 → ks + 6 * n ≤ 7293034 → Rel μ → WX p l e room_1 s m args below meth c φ tc D LA 8 kc ks Q 23 [(0, .ref 800), (1, .ref 0), (2, .ref 358), (3, .ref 410), (4, .int (Int32.ofNat (6 * j)))] [] μ := by
  intro n
  induction n with
  | zero =>
    intro j kc ks μ h1 h2 h3 h4 hr
    exact law_head C hX hbl hbA hL h2 (fun _ => hend kc ks _ μ (by omega) (by omega) hr) (fun z => absurd z (by omega))
  | succ n ih =>
    intro j kc ks μ h1 h2 h3 h4 hr
    refine law_head C hX hbl hbA hL h2 (fun _ => hend kc ks _ μ (by omega) (by omega) hr) (fun z => ?_)
    have ak : ∀ k : Nat, k < 6 → vp_in (Int32.ofNat (6 * j) + Int32.ofNat k) L := fun k hk => by
      rw [← Int32.ofNat_add]
      exact vin (by omega) hL
    refine law_round hfl C hX hbl hbA ⟨by show kc + 1 ≤ 601024; omega, by show ks + 6 ≤ 7293034; omega⟩ (vin (by omega) hL) rfl (ak 1 (by decide)) (ak 2 (by decide)) (ak 3 (by decide)) (ak 4 (by decide)) (ak 5 (by decide)) (Kk := Rel) (fun μ hr => ?_) (law_all ops hr)
    have hv : Int32.ofNat (6 * j) + Int32.ofInt 6 = Int32.ofNat (6 * (j + 1)) := by
      rw [show Int32.ofInt 6 = Int32.ofNat 6 by decide, ← Int32.ofNat_add]
      exact congrArg Int32.ofNat (by omega)
    refine x_iinc (v := Int32.ofNat (6 * (j + 1))) C [(4, .int (Int32.ofNat (6 * (j + 1)))), (0, .ref 800), (1, .ref 0), (2, .ref 358), (3, .ref 410)] 4 rfl hv (Nat.le_of_ble_eq_true rfl) rfl dL_law_1892 ?_
    refine x_goto (tgt := 23) C dL_law_1895 (by decide) ?_
    refine x_sub [(0, .ref 800), (1, .ref 0), (2, .ref 358), (3, .ref 410), (4, .int (Int32.ofNat (6 * (j + 1))))] [1, 2, 3, 4, 0] rfl ?_
    exact ih (j + 1) (kc + 1) (ks + 6) μ (by omega) (by omega) (by omega) (by omega) hr
end LL
