def GL_of (v1 v2 : Int32) (μ : MM) (Q : Int32 → MM → Prop) : Prop := G11_of v1 v2 μ (fun r μ1 => Q 0 (sJ μ1 410 0 r.toInt64)) (fun μ1 => Q 1 μ1)
def GL_value (v1 v2 : Int32) (μ : MM) (Q : Int32 → MM → Prop) : Prop := G11_value v1 v2 μ (fun r μ1 => Q 0 (sJ μ1 410 0 r.toInt64)) (fun μ1 => Q 1 μ1)
def GL_row (v1 : Int32) (μ : MM) (Q : Int32 → MM → Prop) : Prop := G11_row v1 μ (fun r μ1 => Q 0 (sJ μ1 410 0 r)) (fun μ1 => Q 1 μ1)
section HH
variable {l : Launch} {φ : Nat → Nat} {tc : Nat → ClassId} {D : va_G} {s0 : State} {μ : MM}
def wsH (y : MethodName) (cc : ByteArray) (nL : Nat) (ret : Option FieldType) (hh : List (Nat × Nat × Nat × Nat)) : List Cond := .codeWith y cc nL ret hh :: tblG
/-- the contract of a method with a table of its own, which lets nothing out; a cell may be new -/
def MH (l : Launch) (φ : Nat → Nat) (tc : Nat → ClassId) (D : va_G) (s0 : State) (d : Nat) (y : MethodName) (cc : ByteArray) (nL : Nat) (ret : Option FieldType) (hh : List (Nat × Nat × Nat × Nat)) (as : List Value) (μ : MM) (Qr : Option Value → MM → Prop) : Prop :=
  Met l y (wsH y cc nL ret hh) (rmE d) (va_Pc (as.map (rv φ)) (PX φ tc D s0 μ)) (QX φ tc D Qr) 1 6 (AX φ)
theorem MH.of {dR : Nat} {y : MethodName} {cc : ByteArray} {nL : Nat} {ret : Option FieldType} {hh : List (Nat × Nat × Nat × Nat)} {as : List Value} {Qr : Option Value → MM → Prop} {own : String} (hG : GX φ tc D s0) (hy : plainName y.cls = true) (ho : y.cls = own) (hn : (lg_sl (as.map (rv φ))).length ≤ nL)
    (k : ∀ (p : Program) (e : Env) (s : State) (m : MethodId) (args : Array Value) (below : List Frame) (meth : Method) (c : Code), CX p s m args meth c φ tc D (AX φ) s0 cc own nL → meth.sig.returnType = ret → c.exceptionTable.toList = tableOf hh →
      WX p l e (rmE dR) s m args below meth c φ tc D (AX φ) nL 0 0 (MQ below (QX φ tc D Qr) args s 1 6 (AX φ)) 0 (lv_args 0 as) [] μ) : MH l φ tc D s0 dR y cc nL ret hh as μ Qr := by
  unfold MH Met
  refine MetFree.of_bodyS (code := cc) (maxLocals := nL) (ret := ret) hy ?_ ?_
  · intro args s m h hn
    obtain ⟨m9, meth, c, hn9, h1, h2, h3, h4, -, h5, h6, -⟩ := Cond.codeWith_spec (atoms_spec (ws := wsH y cc nL ret hh) h _ List.mem_cons_self)
    cases hn.symm.trans hn9
    exact ⟨meth, c, h1, h2, h3, h4, h5, h6⟩
  · intro p e s m args below meth c s₁ B hml hv _
    have hh0 : s₁.heap = s.heap := by rw [B.state]; rfl
    obtain ⟨rfl, hal, hsz, hhp, hP, hR, hN⟩ := hv
    have hts : ∀ w ∈ wsH y cc nL ret hh, w.before _ s = true := atoms_spec (ws := wsH y cc nL ret hh) B.pre
    have hown : s.vm.findClass own = some m.cls := by rw [← ho]; exact findClass_of_methodNamed B.named
    have C : CX p s m (as.map (rv φ)).toArray meth c φ tc D (AX φ) s0 cc own nL := ⟨B.exec, B.bytes, hml, hown, fun w hw => (tbl_gn hw).elim (fun q => hts w (List.mem_cons_of_mem _ q)) (fun q => va_Nw.use (nest_on (List.mem_filter.mp q).2) (hN w q)), va_K.moved hal.alike hG.1, B.notSynchronized, hG, hal, hsz, hhp, fun _ h => h, fun q ⟨k, h1, h2⟩ => by rw [h2]; exact hG.2.2.1 k h1⟩
    have hl := lv_entry (as.map (rv φ)) hn
    have K := k p e s m _ below meth c C B.returns (vx_table (x := y) B (hts _ List.mem_cons_self)) s.heap [] _ hP hR va_S.rf (by rw [rl_args]; exact hl)
    rw [lg_entry_eq]
    obtain ⟨t, a1, o, b1, b2, b3⟩ := K s₁ hh0 (Stand.of_body B)
    exact ⟨t, o, a1, b1, b2, b3⟩
variable {p : Program} {e : Env} {R : Room} {s : State} {m : MethodId} {args : Array Value} {below : List Frame} {meth : Method} {c : Code} {H : Heap} {locs : List Loc} {ar : Array Slot}
variable {Q : State → Prop} {cc : ByteArray} {own : String} {LA : Nat → Prop} {nL kc ks pc : Nat} {ls : List (Nat × Value)} {st : List Value}
/-- behind a call that may lay cells -/
theorem x_runE {Qr : Option Value → MM → Prop} {a : Array Value} {st0 : List Value} {mc ms : Nat} (hLA : ∀ q, AX φ q → LA q) (hS : va_S LA s.heap H locs) (hl : lv_has ar nL (ls.map (rl φ))) (hr : va_Run p l e R s m args below meth c H locs kc ks mc ms (F0 m pc ar st0) (st.map (rv φ)) (QX φ tc D Qr a) (AX φ))
    (kk : ∀ (r : Option Value) (μ' : MM), Qr r μ' → WX p l e R s m args below meth c φ tc D LA nL (kc + mc) (ks + ms) Q (pc + 3) ls (r.toList ++ st) μ') : W p l e R s m args below meth c H locs kc ks Q (F0 m pc ar st0) := by
  intro T hT X
  obtain ⟨v, st₀, t, T', L, h0, X', hL, e1, e2, ⟨r, μ', hv, hQ, hP1, hR1, hz, hk⟩, stp⟩ := hr T hT X
  have hv' : v = r.map (rv φ) := by injection hv
  subst hv'
  rw [h0] at hz hk
  have hst : (r.map (rv φ)).toList ++ st.map (rv φ) = (r.toList ++ st).map (rv φ) := by cases r <;> simp
  obtain ⟨t2, a1, b1⟩ := kk r μ' hQ T'.heap (locs ++ L) ar (by rw [e1]; exact hP1) hR1 ⟨Nat.le_trans hS.1 (by rw [e1]; exact hz), fun q h1 h2 => by rw [e1, hk q (Nat.lt_of_lt_of_le h1 hS.1) (fun z => h2 (hLA q z))]; exact hS.2.1 q h1 h2, fun q hq => (List.mem_append.mp hq).elim (hS.2.2 q) (fun z => hLA _ (hL q z))⟩ hl T' rfl X'
  refine ⟨t2, stp t2 ?_, b1⟩
  show Steps _ _ _ (T'.setTop { F0 m pc ar st0 with pc := pc + 3, stack := (r.map (rv φ)).toList ++ st.map (rv φ) }) t2
  rw [hst]
  exact a1
/-- a call of a method that may throw: it goes on behind the call, or at the handler -/
theorem x_callVX {y : MethodName} {by_ : ByteArray} {mL : Nat} {ret : Option FieldType} {dC dR idx n : Nat} {as : List Value} {Qr : Option Value → MM → Prop} {X : MM → Prop} (C : CX p s m args meth c φ tc D LA s0 cc own nL) (hR0 : dR ≤ R.frames ∧ 100 * dR ≤ R.locals) (hkc : kc + 1 ≤ R.cells ∧ ks + 6 ≤ R.slots) (hd : dC + 1 ≤ dR) (hm81 : mL ≤ 81) {k ci : Nat} (hk : k < NC) (hs : sh k = ci) (hci : ci < 13) (hcn : cnC ci = y.cls) (wsel : Cond.selects y.cls y y ∈ tblA) (wi : Cond.instanceMethod y ∈ tblA) (wl : Cond.methodLink own idx y ∈ tblA) (wc : Cond.code y by_ mL ret ∈ tblG) (wini : Cond.initialized y.cls ∈ tblA) (hy : y.cls ≠ "java/lang/invoke/MethodHandle" ∧ y.cls ≠ "java/lang/invoke/VarHandle") (hn : (parseMethodDescriptor y.desc).map (fun d => d.parameters.length) = some n) (has : as.length = n) (hst : (st.map fun v => v.category).sum ≤ 8) (d : decode cc pc = .ok (.invokevirtual idx, 3)) (hM : MXX l φ tc D s0 dC y by_ mL ret (.ref k :: as) μ Qr X)
    (kk : ∀ (r : Option Value) (μ' : MM), Qr r μ' → WX p l e R s m args below meth c φ tc D LA nL (kc + 1) (ks + 6) Q (pc + 3) ls (r.toList ++ st) μ')
    (kx : ∀ (μ' : MM) (H : Heap) (locs : List Loc) (ar : Array Slot) (q : Nat) (ce : Cell), X μ' → va_P D vwCl (mw φ tc NC μ') H → SR μ' → va_S LA s.heap H locs → lv_has ar nL (ls.map (rl φ)) → H[q]? = some ce → ce.vm = .none → s.vm.findClass "java/util/NoSuchElementException" = some ce.cls → vx_W p l e R s m args below meth c H locs (kc + 1) (ks + 6) Q (F0 m pc ar (st.map (rv φ))) q) : WX p l e R s m args below meth c φ tc D LA nL kc ks Q pc ls (as.reverse ++ .ref k :: st) μ := by
  intro H locs ar hP hR hS hl
  have hts := C.2.2.2.2.1
  have hLA := C.2.2.2.2.2.2.2.2.2.2.2.1
  have hG := wsY_good wc
  have hb1 : (rmE dC).frames + 1 ≤ R.frames ∧ 8 + (mL + 11) + (rmE dC).locals ≤ R.locals := ⟨Nat.le_trans hd hR0.1, by show 8 + (mL + 11) + 100 * dC ≤ R.locals; have := hR0.2; omega⟩
  have hsig : ∀ sig, parseMethodDescriptor y.desc = some sig → n = sig.parameters.length := fun sig h => by
    rw [h] at hn
    exact (Option.some.inj hn).symm
  have hr := vx_runV (l := l) (e := e) (below := below) (meth := meth) (H := H) (locs := locs) (cells := kc) (slots := ks) (mc := 1) (ms := 6) (C := y.cls) (b := φ k) (As := as.map (rv φ)) (rest := st.map (rv φ)) (g := F0 m pc ar ((as.reverse ++ .ref k :: st).map (rv φ))) ⟨C.1, C.2.1, C.2.2.1, C.2.2.2.1, hts⟩ hM ⟨⟨rfl, rfl, hb1.1, hb1.2, pay_in (fun w hw => hts w (tbl_ga hw)) hG, List.mem_cons_self, hts _ (tbl_ga wc), hts _ wini, hy, hsig, hts _ wl⟩, hts _ wi, hts _ wsel⟩ ⟨PX.blind, by rw [← hcn]; exact va_recv C.2.2.2.2.2.1 hP (vwC ci hci) ((mw_get hk).trans (by rw [ent_obj hs hci])), fun U hU hW => ⟨rfl, x_pre C hP hR hS hU hW⟩⟩ rfl (by rw [List.length_map]; exact has) hl.1 (by rw [List.map_append, List.map_reverse, List.map_cons]; rfl) (lv_room (by rw [rv_sum]; exact hst)) d hkc
  intro T hT X0
  rcases hr T hT X0 with ⟨v, st₀, t, T', L, h0, X', hL, e1, e2, ⟨r, μ', hv, hQ, hP1, hR1, hz, hk9⟩, stp⟩ | ⟨q, st₀, t, T', L, E, ce, h0, X', hL, e1, e2, ⟨hE, μ', hX, hP1, hR1, hz, hk9⟩, hce, hcv, hcl, stp⟩
  · have hv' : v = r.map (rv φ) := by injection hv
    subst hv'
    rw [h0] at hz hk9
    have hst9 : (r.map (rv φ)).toList ++ st.map (rv φ) = (r.toList ++ st).map (rv φ) := by cases r <;> simp
    obtain ⟨t2, a1, b1⟩ := kk r μ' hQ T'.heap (locs ++ L) ar (by rw [e1]; exact hP1) hR1 ⟨Nat.le_trans hS.1 (by rw [e1]; exact hz), fun q h1 h2 => by rw [e1, hk9 q (Nat.lt_of_lt_of_le h1 hS.1) (fun z => h2 (hLA q z))]; exact hS.2.1 q h1 h2, fun q hq => (List.mem_append.mp hq).elim (hS.2.2 q) (fun z => hLA _ (hL q z))⟩ hl T' rfl X'
    refine ⟨t2, stp t2 ?_, b1⟩
    show Steps _ _ _ (T'.setTop { F0 m pc ar ((as.reverse ++ .ref k :: st).map (rv φ)) with pc := pc + 3, stack := (r.map (rv φ)).toList ++ st.map (rv φ) }) t2
    rw [hst9]
    exact a1
  · subst hE
    rw [h0] at hz hk9
    obtain ⟨t2, a1, b1⟩ := kx μ' T'.heap (locs ++ L) ar q ce hX (by rw [e1]; exact hP1) hR1 ⟨Nat.le_trans hS.1 (by rw [e1]; exact hz), fun q h1 h2 => by rw [e1, hk9 q (Nat.lt_of_lt_of_le h1 hS.1) (fun z => h2 (hLA q z))]; exact hS.2.1 q h1 h2, fun q hq => (List.mem_append.mp hq).elim (hS.2.2 q) (fun z => hLA _ (hL q z))⟩ hl (by rw [e1]; exact hce) hcv hcl T' rfl X'
    exact ⟨t2, stp.trans a1, b1⟩
theorem x_iretH {Qr : Option Value → MM → Prop} (C : CX p s m args meth c φ tc D (AX φ) s0 cc own nL) {v : Int32} (hr : meth.sig.returnType = some .int) (d : decode cc pc = .ok (.ireturn, 1)) (h : Qr (some (.int v)) μ) : WX p l e R s m args below meth c φ tc D (AX φ) nL 1 6 (MQ below (QX φ tc D Qr) args s 1 6 (AX φ)) pc ls [.int v] μ := by
  intro H locs ar hP hR hS hl
  have hlocks := C.2.2.2.2.2.2.1
  exact W.iret (v := v) C.1 C.2.1 hr (fun t ht hW => ⟨some (.int v), μ, rfl, h, by rw [ht]; exact hP, hR, hS.F ht⟩) hS.2.2 d
def NSE : String := "java/util/NoSuchElementException"
set_option maxRecDepth 20000 in
theorem ex_self : Cond.castable "java/util/NoSuchElementException" "java/util/NoSuchElementException" ∈ tblA := tbl_a (tbl_in6 (List.mem_of_getElem? (i := 89) (by decide +kernel))) (by decide +kernel)
theorem GL_of_met (hfl : l.stackTraces = false) (hG : GX φ tc D s0) {dR : Nat} (hd : G11_of_dep + 1 ≤ dR) {v1 v2 : Int32} {Q : Int32 → MM → Prop} (h : GL_of v1 v2 μ Q) : MH l φ tc D s0 dR yL_of cL_of 5 (some .int) [(0, 10, 13, 13)] [.ref 0, .int v1, .int v2, .ref 410] μ (QI Q) := by
  unfold GL_of at h
  refine MH.of (own := RL) hG (by decide +kernel) rfl (Nat.le_of_ble_eq_true rfl) (fun p e s m args below meth c C hr htab => ?_)
  refine x_sub [(0, .ref 0), (1, .int v1), (2, .int v2), (3, .ref 410)] [0, 1, 2, 3] rfl ?_
  refine x_aload_n C rfl 3 rfl dL_of_0 ?_
  refine x_iconst C (v := 0) rfl dL_of_1 ?_
  refine x_aload_n C rfl 0 rfl dL_of_2 ?_
  refine x_iload_n C rfl 1 rfl dL_of_3 ?_
  refine x_iload_n C rfl 2 rfl dL_of_4 ?_
  refine x_callVX (dC := G11_of_dep) (as := [.int v1, .int v2]) (st := [.int 0, .ref 410]) C rE ⟨Nat.le_refl 1, Nat.le_refl 6⟩ hd (Nat.le_of_ble_eq_true rfl) ob0.1 ob0.2 (Nat.le_of_ble_eq_true rfl) rfl tw_6_85 tw_6_84 tw_6_83 tc_6_86 tw_1_1 hyX11 hnX11_of rfl (Nat.le_of_ble_eq_true rfl) dL_of_5 (G11_of_met hfl hG (Nat.le_refl _) h) (fun r0 μ1 hq => ?_) (fun μ1 H locs ar q ce hX hP hR hS hl hce hcv hcl => ?_)
  · obtain ⟨r, rfl, hq⟩ := hq
    refine x_i2l C dL_of_8 ?_
    refine x_last (k := 410) (j := 0) C (Nat.le_of_ble_eq_true rfl) (by decide +kernel) (by unfold vp_in; decide +kernel) rfl dL_of_9 ?_
    refine x_goto (tgt := 17) C dL_of_10 rfl ?_
    refine x_iconst C (v := 0) rfl dL_of_17 ?_
    exact x_iretH C hr dL_of_18 ⟨_, rfl, hq⟩
  · have hts := C.2.2.2.2.1
    refine vx_catch (name := "java/util/NoSuchElementException") (E := "java/util/NoSuchElementException") C.2.2.2.1 [] ⟨0, 10, 13, 13⟩ [] htab (fun z hz => by cases hz) (by decide) (by decide) (hts _ tw_6_82) (hts _ ex_self) hce hcv hcl ?_
    refine lv_astore C.1 C.2.1 dL_of_13 hl (Nat.le_of_ble_eq_true rfl) rfl (fun ar hl => ?_)
    refine lv_iconst C.1 C.2.1 (v := 1) dL_of_15 rfl ?_
    have hlocks := C.2.2.2.2.2.2.1
    exact W.iret (v := 1) C.1 C.2.1 hr (fun t ht hW => ⟨some (.int 1), μ1, rfl, ⟨_, rfl, hX⟩, by rw [ht]; exact hP, hR, hS.F ht⟩) hS.2.2 dL_of_16
theorem GL_value_met (hfl : l.stackTraces = false) (hG : GX φ tc D s0) {dR : Nat} (hd : G11_value_dep + 1 ≤ dR) {v1 v2 : Int32} {Q : Int32 → MM → Prop} (h : GL_value v1 v2 μ Q) : MH l φ tc D s0 dR yL_value cL_value 5 (some .int) [(0, 10, 13, 13)] [.ref 0, .int v1, .int v2, .ref 410] μ (QI Q) := by
  unfold GL_value at h
  refine MH.of (own := RL) hG (by decide +kernel) rfl (Nat.le_of_ble_eq_true rfl) (fun p e s m args below meth c C hr htab => ?_)
  refine x_sub [(0, .ref 0), (1, .int v1), (2, .int v2), (3, .ref 410)] [0, 1, 2, 3] rfl ?_
  refine x_aload_n C rfl 3 rfl dL_value_0 ?_
  refine x_iconst C (v := 0) rfl dL_value_1 ?_
  refine x_aload_n C rfl 0 rfl dL_value_2 ?_
  refine x_iload_n C rfl 1 rfl dL_value_3 ?_
  refine x_iload_n C rfl 2 rfl dL_value_4 ?_
  refine x_callVX (dC := G11_value_dep) (as := [.int v1, .int v2]) (st := [.int 0, .ref 410]) C rE ⟨Nat.le_refl 1, Nat.le_refl 6⟩ hd (Nat.le_of_ble_eq_true rfl) ob0.1 ob0.2 (Nat.le_of_ble_eq_true rfl) rfl tw_6_161 tw_6_160 tw_6_159 tc_6_162 tw_1_1 hyX11 hnX11_value rfl (Nat.le_of_ble_eq_true rfl) dL_value_5 (G11_value_met hfl hG (Nat.le_refl _) h) (fun r0 μ1 hq => ?_) (fun μ1 H locs ar q ce hX hP hR hS hl hce hcv hcl => ?_)
  · obtain ⟨r, rfl, hq⟩ := hq
    refine x_i2l C dL_value_8 ?_
    refine x_last (k := 410) (j := 0) C (Nat.le_of_ble_eq_true rfl) (by decide +kernel) (by unfold vp_in; decide +kernel) rfl dL_value_9 ?_
    refine x_goto (tgt := 17) C dL_value_10 rfl ?_
    refine x_iconst C (v := 0) rfl dL_value_17 ?_
    exact x_iretH C hr dL_value_18 ⟨_, rfl, hq⟩
  · have hts := C.2.2.2.2.1
    refine vx_catch (name := "java/util/NoSuchElementException") (E := "java/util/NoSuchElementException") C.2.2.2.1 [] ⟨0, 10, 13, 13⟩ [] htab (fun z hz => by cases hz) (by decide) (by decide) (hts _ tw_6_82) (hts _ ex_self) hce hcv hcl ?_
    refine lv_astore C.1 C.2.1 dL_value_13 hl (Nat.le_of_ble_eq_true rfl) rfl (fun ar hl => ?_)
    refine lv_iconst C.1 C.2.1 (v := 1) dL_value_15 rfl ?_
    have hlocks := C.2.2.2.2.2.2.1
    exact W.iret (v := 1) C.1 C.2.1 hr (fun t ht hW => ⟨some (.int 1), μ1, rfl, ⟨_, rfl, hX⟩, by rw [ht]; exact hP, hR, hS.F ht⟩) hS.2.2 dL_value_16
theorem GL_row_met (hfl : l.stackTraces = false) (hG : GX φ tc D s0) {dR : Nat} (hd : G11_row_dep + 1 ≤ dR) {v1 : Int32} {Q : Int32 → MM → Prop} (h : GL_row v1 μ Q) : MH l φ tc D s0 dR yL_row cL_row 4 (some .int) [(0, 8, 11, 13)] [.ref 0, .int v1, .ref 410] μ (QI Q) := by
  unfold GL_row at h
  refine MH.of (own := RL) hG (by decide +kernel) rfl (Nat.le_of_ble_eq_true rfl) (fun p e s m args below meth c C hr htab => ?_)
  refine x_sub [(0, .ref 0), (1, .int v1), (2, .ref 410)] [0, 1, 2] rfl ?_
  refine x_aload_n C rfl 2 rfl dL_row_0 ?_
  refine x_iconst C (v := 0) rfl dL_row_1 ?_
  refine x_aload_n C rfl 0 rfl dL_row_2 ?_
  refine x_iload_n C rfl 1 rfl dL_row_3 ?_
  refine x_callVX (dC := G11_row_dep) (as := [.int v1]) (st := [.int 0, .ref 410]) C rE ⟨Nat.le_refl 1, Nat.le_refl 6⟩ hd (Nat.le_of_ble_eq_true rfl) ob0.1 ob0.2 (Nat.le_of_ble_eq_true rfl) rfl tw_6_171 tw_6_170 tw_6_169 tc_6_172 tw_1_1 hyX11 hnX11_row rfl (Nat.le_of_ble_eq_true rfl) dL_row_4 (G11_row_met hfl hG (Nat.le_refl _) h) (fun r0 μ1 hq => ?_) (fun μ1 H locs ar q ce hX hP hR hS hl hce hcv hcl => ?_)
  · obtain ⟨r, rfl, hq⟩ := hq
    refine x_last (k := 410) (j := 0) C (Nat.le_of_ble_eq_true rfl) (by decide +kernel) (by unfold vp_in; decide +kernel) rfl dL_row_7 ?_
    refine x_goto (tgt := 14) C dL_row_8 rfl ?_
    refine x_iconst C (v := 0) rfl dL_row_14 ?_
    exact x_iretH C hr dL_row_15 ⟨_, rfl, hq⟩
  · have hts := C.2.2.2.2.1
    refine vx_catch (name := "java/util/NoSuchElementException") (E := "java/util/NoSuchElementException") C.2.2.2.1 [] ⟨0, 8, 11, 13⟩ [] htab (fun z hz => by cases hz) (by decide) (by decide) (hts _ tw_6_82) (hts _ ex_self) hce hcv hcl ?_
    refine lv_astore_n C.1 C.2.1 dL_row_11 rfl hl (Nat.le_of_ble_eq_true rfl) rfl (fun ar hl => ?_)
    refine lv_iconst C.1 C.2.1 (v := 1) dL_row_12 rfl ?_
    have hlocks := C.2.2.2.2.2.2.1
    exact W.iret (v := 1) C.1 C.2.1 hr (fun t ht hW => ⟨some (.int 1), μ1, rfl, ⟨_, rfl, hX⟩, by rw [ht]; exact hP, hR, hS.F ht⟩) hS.2.2 dL_row_13
end HH
