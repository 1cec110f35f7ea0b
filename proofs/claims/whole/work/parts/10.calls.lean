/-! a contract out of a walk; calls of contracts -/
section YY
variable {l : Launch} {φ : Nat → Nat} {tc : Nat → ClassId} {D : va_G} {s0 : State} {μ : MM}
theorem MX.of {dR : Nat} {y : MethodName} {cc : ByteArray} {nL : Nat} {ret : Option FieldType} {as : List Value} {Qr : Option Value → MM → Prop} {own : String} (hG : GX φ tc D s0) (hy : plainName y.cls = true) (ho : y.cls = own) (hn : (lg_sl (as.map (rv φ))).length ≤ nL)
    (k : ∀ (p : Program) (e : Env) (s : State) (m : MethodId) (args : Array Value) (below : List Frame) (meth : Method) (c : Code), CX p s m args meth c φ tc D (AX φ) s0 cc own nL → meth.sig.returnType = ret →
      WX p l e (rmX dR) s m args below meth c φ tc D (AX φ) nL 0 0 (MQ below (QX φ tc D Qr) args s 0 0 (AX φ)) 0 (lv_args 0 as) [] μ) : MX l φ tc D s0 dR y cc nL ret as μ Qr := by
  refine Met.ofW (cc := cc) (maxL := nL) (ret := ret) hy rfl ?_
  intro p e s m args below meth c s₁ B hml hv
  obtain ⟨rfl, hal, hsz, hhp, hP, hR, hN⟩ := hv
  have hts : ∀ w ∈ wsY y cc nL ret, w.before _ s = true := atoms_spec (ws := wsY y cc nL ret) B.pre
  have hown : s.vm.findClass own = some m.cls := by rw [← ho]; exact findClass_of_methodNamed B.named
  have C : CX p s m (as.map (rv φ)).toArray meth c φ tc D (AX φ) s0 cc own nL := ⟨B.exec, B.bytes, hml, hown, fun w hw => (tbl_gn hw).elim (fun q => hts w (List.mem_cons_of_mem _ q)) (fun q => va_Nw.use (nest_on (List.mem_filter.mp q).2) (hN w q)), va_K.moved hal.alike hG.1, B.notSynchronized, hG, hal, hsz, hhp, fun _ h => h, fun q ⟨k, h1, h2⟩ => by rw [h2]; exact hG.2.2.1 k h1⟩
  have hl := lv_entry (as.map (rv φ)) hn
  rw [lg_entry_eq]
  exact k p e s m _ below meth c C B.returns s.heap [] _ hP hR va_S.rf (by rw [rl_args]; exact hl)
theorem PX.blind {as : List Value} : FrameBlind (va_Pc as (PX φ tc D s0 μ)) := fun a U g mk h => ⟨h.1, h.2.1, h.2.2.1, h.2.2.2.1, h.2.2.2.2.1, h.2.2.2.2.2.1, fun w hw => va_Nw.same (u := U) (U := U.calling g mk a) (nest_on (List.mem_filter.mp hw).2) rfl (h.2.2.2.2.2.2 w hw)⟩
theorem MX.mono {dR : Nat} {y : MethodName} {cc : ByteArray} {nL : Nat} {ret : Option FieldType} {as : List Value} {Qr Qr' : Option Value → MM → Prop} (h : MX l φ tc D s0 dR y cc nL ret as μ Qr) (e : Qr = Qr') : MX l φ tc D s0 dR y cc nL ret as μ Qr' := e ▸ h
variable {p : Program} {e : Env} {R : Room} {s : State} {m : MethodId} {args : Array Value} {below : List Frame} {meth : Method} {c : Code} {H : Heap} {locs : List Loc} {ar : Array Slot}
variable {Q : State → Prop} {cc : ByteArray} {own : String} {LA : Nat → Prop} {nL kc ks pc : Nat} {ls : List (Nat × Value)} {st : List Value}
theorem x_run {Qr : Option Value → MM → Prop} {a : Array Value} {st0 : List Value} (hLA : ∀ q, AX φ q → LA q) (hS : va_S LA s.heap H locs) (hl : lv_has ar nL (ls.map (rl φ))) (hr : va_Run p l e R s m args below meth c H locs kc ks 0 0 (F0 m pc ar st0) (st.map (rv φ)) (QX φ tc D Qr a) (AX φ))
    (kk : ∀ (r : Option Value) (μ' : MM), Qr r μ' → WX p l e R s m args below meth c φ tc D LA nL kc ks Q (pc + 3) ls (r.toList ++ st) μ') : W p l e R s m args below meth c H locs kc ks Q (F0 m pc ar st0) := by
  intro T hT X
  obtain ⟨v, st₀, t, T', L, h0, X', hL, e1, e2, ⟨r, μ', hv, hQ, hP1, hR1, hz, hk⟩, stp⟩ := hr T hT X
  have hv' : v = r.map (rv φ) := by injection hv
  subst hv'
  rw [h0] at hz hk
  have hst : (r.map (rv φ)).toList ++ st.map (rv φ) = (r.toList ++ st).map (rv φ) := by cases r <;> simp
  obtain ⟨t2, a1, b1⟩ := kk r μ' hQ T'.heap (locs ++ L) ar (by rw [e1]; exact hP1) hR1 ⟨Nat.le_trans hS.1 (by rw [e1]; exact hz), fun q h1 h2 => by rw [e1, hk q (Nat.lt_of_lt_of_le h1 hS.1) (fun z => h2 (hLA q z))]; exact hS.2.1 q h1 h2, fun q hq => (List.mem_append.mp hq).elim (hS.2.2 q) (fun z => hLA _ (hL q z))⟩ hl T' rfl X'
  refine ⟨t2, stp t2 ?_, b1⟩
  show Steps _ _ _ (T'.setTop { F0 m pc ar st0 with pc := pc + 3, stack := (r.map (rv φ)).toList ++ st.map (rv φ) }) t2
  rw [hst]
  exact a1
/-- what a callee's start asks, out of the caller's state -/
theorem x_pre (C : CX p s m args meth c φ tc D LA s0 cc own nL) (hP : va_P D vwCl (mw φ tc NC μ) H) (hR : SR μ) (hS : va_S LA s.heap H locs) {U : State} (hU : U.heap = H) (hW : s.WarmedH U.vm) : PX φ tc D s0 μ U := by
  obtain ⟨-, -, -, -, hts, -, -, hG, hal, hsz, hhp, hLA, hLE⟩ := C
  refine ⟨State.WarmedH.trans hal hW, by rw [hU]; exact Nat.le_trans hsz hS.1, fun q hq => ?_, by rw [hU]; exact hP, hR, fun w hw => nest_warm (List.mem_filter.mp hw).2 hW (hts w (tbl_na hw))⟩
  rw [hU, hS.2.1 q (Nat.lt_of_lt_of_le hq hsz) (fun z => by have h8 : s0.heap.size ≤ q := hLE q z; omega)]
  exact hhp q hq
theorem wsY_good {y : MethodName} {by_ : ByteArray} {mL : Nat} {ret : Option FieldType} (wc : Cond.code y by_ mL ret ∈ tblG) : GoodIn tblG (wsY y by_ mL ret) := by
  intro w hw
  rcases List.mem_cons.mp hw with rfl | h
  · exact ⟨wc, (tbl_all _ wc).2⟩
  · exact ⟨h, (tbl_all _ h).2⟩
theorem x_callV {y : MethodName} {by_ : ByteArray} {mL : Nat} {ret : Option FieldType} {dC dR idx n : Nat} {as : List Value} {Qr : Option Value → MM → Prop} (C : CX p s m args meth c φ tc D LA s0 cc own nL) (hR0 : dR ≤ R.frames ∧ 100 * dR ≤ R.locals) (hkc : kc ≤ R.cells ∧ ks ≤ R.slots) (hd : dC + 1 ≤ dR) (hm81 : mL ≤ 81) {k ci : Nat} (hk : k < NC) (hs : sh k = ci) (hci : ci < 13) (hcn : cnC ci = y.cls) (wsel : Cond.selects y.cls y y ∈ tblA) (wi : Cond.instanceMethod y ∈ tblA) (wl : Cond.methodLink own idx y ∈ tblA) (wc : Cond.code y by_ mL ret ∈ tblG) (wini : Cond.initialized y.cls ∈ tblA) (hy : y.cls ≠ "java/lang/invoke/MethodHandle" ∧ y.cls ≠ "java/lang/invoke/VarHandle") (hn : (parseMethodDescriptor y.desc).map (fun d => d.parameters.length) = some n) (has : as.length = n) (hst : (st.map fun v => v.category).sum ≤ 8) (d : decode cc pc = .ok (.invokevirtual idx, 3)) (hM : MX l φ tc D s0 dC y by_ mL ret (.ref k :: as) μ Qr) (kk : ∀ (r : Option Value) (μ' : MM), Qr r μ' → WX p l e R s m args below meth c φ tc D LA nL kc ks Q (pc + 3) ls (r.toList ++ st) μ') : WX p l e R s m args below meth c φ tc D LA nL kc ks Q pc ls (as.reverse ++ .ref k :: st) μ := by
  intro H locs ar hP hR hS hl
  have hts := C.2.2.2.2.1
  have hG := wsY_good wc
  have hb1 : (rmX dC).frames + 1 ≤ R.frames ∧ 8 + (mL + 11) + (rmX dC).locals ≤ R.locals := ⟨Nat.le_trans hd hR0.1, by show 8 + (mL + 11) + 100 * dC ≤ R.locals; have := hR0.2; omega⟩
  have hsig : ∀ sig, parseMethodDescriptor y.desc = some sig → n = sig.parameters.length := fun sig h => by
    rw [h] at hn
    exact (Option.some.inj hn).symm
  have hr := va_runV (l := l) (e := e) (below := below) (meth := meth) (H := H) (locs := locs) (cells := kc) (slots := ks) (mc := 0) (ms := 0) (C := y.cls) (b := φ k) (As := as.map (rv φ)) (rest := st.map (rv φ)) (g := F0 m pc ar ((as.reverse ++ .ref k :: st).map (rv φ))) ⟨C.1, C.2.1, C.2.2.1, C.2.2.2.1, hts⟩ hM ⟨⟨rfl, rfl, hb1.1, hb1.2, pay_in (fun w hw => hts w (tbl_ga hw)) hG, List.mem_cons_self, hts _ (tbl_ga wc), hts _ wini, hy, hsig, hts _ wl⟩, hts _ wi, hts _ wsel⟩ ⟨PX.blind, by rw [← hcn]; exact va_recv C.2.2.2.2.2.1 hP (vwC ci hci) ((mw_get hk).trans (by rw [ent_obj hs hci])), fun U hU hW => ⟨rfl, x_pre C hP hR hS hU hW⟩⟩ rfl (by rw [List.length_map]; exact has) hl.1 (by rw [List.map_append, List.map_reverse, List.map_cons]; rfl) (lv_room (by rw [rv_sum]; exact hst)) d hkc
  exact x_run C.2.2.2.2.2.2.2.2.2.2.2.1 hS hl hr kk
theorem x_callVN {y : MethodName} {by_ : ByteArray} {mL : Nat} {ret : Option FieldType} {dC dR idx n : Nat} {as : List Value} {Qr : Option Value → MM → Prop} {host : String} (C : CX p s m args meth c φ tc D LA s0 cc own nL) (hR0 : dR ≤ R.frames ∧ 100 * dR ≤ R.locals) (hkc : kc ≤ R.cells ∧ ks ≤ R.slots) (hd : dC + 1 ≤ dR) (hm81 : mL ≤ 81) {k ci : Nat} (hk : k < NC) (hs : sh k = ci) (hci : ci < 13) (hcn : cnC ci = y.cls) (wsel : Cond.selects y.cls y y ∈ tblA) (wi : Cond.instanceMethod y ∈ tblA) (wl : Cond.methodLinkNest own idx y host ∈ tblA) (wc : Cond.code y by_ mL ret ∈ tblG) (wini : Cond.initialized y.cls ∈ tblA) (hy : y.cls ≠ "java/lang/invoke/MethodHandle" ∧ y.cls ≠ "java/lang/invoke/VarHandle") (hn : (parseMethodDescriptor y.desc).map (fun d => d.parameters.length) = some n) (has : as.length = n) (hst : (st.map fun v => v.category).sum ≤ 8) (d : decode cc pc = .ok (.invokevirtual idx, 3)) (hM : MX l φ tc D s0 dC y by_ mL ret (.ref k :: as) μ Qr) (kk : ∀ (r : Option Value) (μ' : MM), Qr r μ' → WX p l e R s m args below meth c φ tc D LA nL kc ks Q (pc + 3) ls (r.toList ++ st) μ') : WX p l e R s m args below meth c φ tc D LA nL kc ks Q pc ls (as.reverse ++ .ref k :: st) μ := by
  intro H locs ar hP hR hS hl
  have hts := C.2.2.2.2.1
  have hG := wsY_good wc
  have hb1 : (rmX dC).frames + 1 ≤ R.frames ∧ 8 + (mL + 11) + (rmX dC).locals ≤ R.locals := ⟨Nat.le_trans hd hR0.1, by show 8 + (mL + 11) + 100 * dC ≤ R.locals; have := hR0.2; omega⟩
  have hsig : ∀ sig, parseMethodDescriptor y.desc = some sig → n = sig.parameters.length := fun sig h => by
    rw [h] at hn
    exact (Option.some.inj hn).symm
  have hr := va_runVN (l := l) (e := e) (below := below) (meth := meth) (H := H) (locs := locs) (cells := kc) (slots := ks) (mc := 0) (ms := 0) (C := y.cls) (b := φ k) (As := as.map (rv φ)) (rest := st.map (rv φ)) (g := F0 m pc ar ((as.reverse ++ .ref k :: st).map (rv φ))) ⟨C.1, C.2.1, C.2.2.1, C.2.2.2.1, hts⟩ hM ⟨⟨⟨rfl, rfl, hb1.1, hb1.2, pay_in (fun w hw => hts w (tbl_ga hw)) hG, List.mem_cons_self⟩, hts _ (tbl_ga wc), hts _ wini, hy, hsig, hts _ wl⟩, hts _ wi, hts _ wsel⟩ ⟨PX.blind, by rw [← hcn]; exact va_recv C.2.2.2.2.2.1 hP (vwC ci hci) ((mw_get hk).trans (by rw [ent_obj hs hci])), fun U hU hW => ⟨rfl, x_pre C hP hR hS hU hW⟩⟩ rfl (by rw [List.length_map]; exact has) hl.1 (by rw [List.map_append, List.map_reverse, List.map_cons]; rfl) (lv_room (by rw [rv_sum]; exact hst)) d hkc
  exact x_run C.2.2.2.2.2.2.2.2.2.2.2.1 hS hl hr kk
theorem x_callS {y : MethodName} {by_ : ByteArray} {mL : Nat} {ret : Option FieldType} {dC dR idx n : Nat} {as : List Value} {Qr : Option Value → MM → Prop} (C : CX p s m args meth c φ tc D LA s0 cc own nL) (hR0 : dR ≤ R.frames ∧ 100 * dR ≤ R.locals) (hkc : kc ≤ R.cells ∧ ks ≤ R.slots) (hd : dC + 1 ≤ dR) (hm81 : mL ≤ 81) (wst : Cond.static y ∈ tblA) (wl : Cond.methodLink own idx y ∈ tblA) (wc : Cond.code y by_ mL ret ∈ tblG) (wini : Cond.initialized y.cls ∈ tblA) (hy : y.cls ≠ "java/lang/invoke/MethodHandle" ∧ y.cls ≠ "java/lang/invoke/VarHandle") (hn : (parseMethodDescriptor y.desc).map (fun d => d.parameters.length) = some n) (has : as.length = n) (hst : (st.map fun v => v.category).sum ≤ 8) (d : decode cc pc = .ok (.invokestatic idx, 3)) (hM : MX l φ tc D s0 dC y by_ mL ret as μ Qr) (kk : ∀ (r : Option Value) (μ' : MM), Qr r μ' → WX p l e R s m args below meth c φ tc D LA nL kc ks Q (pc + 3) ls (r.toList ++ st) μ') : WX p l e R s m args below meth c φ tc D LA nL kc ks Q pc ls (as.reverse ++ st) μ := by
  intro H locs ar hP hR hS hl
  have hts := C.2.2.2.2.1
  have hG := wsY_good wc
  have hb1 : (rmX dC).frames + 1 ≤ R.frames ∧ 8 + (mL + 11) + (rmX dC).locals ≤ R.locals := ⟨Nat.le_trans hd hR0.1, by show 8 + (mL + 11) + 100 * dC ≤ R.locals; have := hR0.2; omega⟩
  have hsig : ∀ sig, parseMethodDescriptor y.desc = some sig → n = sig.parameters.length := fun sig h => by
    rw [h] at hn
    exact (Option.some.inj hn).symm
  have hr := va_runS (l := l) (e := e) (below := below) (meth := meth) (H := H) (locs := locs) (cells := kc) (slots := ks) (mc := 0) (ms := 0) (As := as.map (rv φ)) (rest := st.map (rv φ)) (g := F0 m pc ar ((as.reverse ++ st).map (rv φ))) ⟨C.1, C.2.1, C.2.2.1, C.2.2.2.1, hts⟩ hM ⟨⟨rfl, rfl, hb1.1, hb1.2, pay_in (fun w hw => hts w (tbl_ga hw)) hG, List.mem_cons_self, hts _ (tbl_ga wc), hts _ wini, hy, hsig, hts _ wl⟩, hts _ wst⟩ ⟨PX.blind, fun U hU hW => ⟨rfl, x_pre C hP hR hS hU hW⟩⟩ rfl (by rw [List.length_map]; exact has) hl.1 (by rw [List.map_append, List.map_reverse]) (lv_room (by rw [rv_sum]; exact hst)) d hkc
  exact x_run C.2.2.2.2.2.2.2.2.2.2.2.1 hS hl hr kk
theorem x_callSN {y : MethodName} {by_ : ByteArray} {mL : Nat} {ret : Option FieldType} {dC dR idx n : Nat} {as : List Value} {Qr : Option Value → MM → Prop} {host : String} (C : CX p s m args meth c φ tc D LA s0 cc own nL) (hR0 : dR ≤ R.frames ∧ 100 * dR ≤ R.locals) (hkc : kc ≤ R.cells ∧ ks ≤ R.slots) (hd : dC + 1 ≤ dR) (hm81 : mL ≤ 81) (wst : Cond.static y ∈ tblA) (wl : Cond.methodLinkNest own idx y host ∈ tblA) (wc : Cond.code y by_ mL ret ∈ tblG) (wini : Cond.initialized y.cls ∈ tblA) (hy : y.cls ≠ "java/lang/invoke/MethodHandle" ∧ y.cls ≠ "java/lang/invoke/VarHandle") (hn : (parseMethodDescriptor y.desc).map (fun d => d.parameters.length) = some n) (has : as.length = n) (hst : (st.map fun v => v.category).sum ≤ 8) (d : decode cc pc = .ok (.invokestatic idx, 3)) (hM : MX l φ tc D s0 dC y by_ mL ret as μ Qr) (kk : ∀ (r : Option Value) (μ' : MM), Qr r μ' → WX p l e R s m args below meth c φ tc D LA nL kc ks Q (pc + 3) ls (r.toList ++ st) μ') : WX p l e R s m args below meth c φ tc D LA nL kc ks Q pc ls (as.reverse ++ st) μ := by
  intro H locs ar hP hR hS hl
  have hts := C.2.2.2.2.1
  have hG := wsY_good wc
  have hb1 : (rmX dC).frames + 1 ≤ R.frames ∧ 8 + (mL + 11) + (rmX dC).locals ≤ R.locals := ⟨Nat.le_trans hd hR0.1, by show 8 + (mL + 11) + 100 * dC ≤ R.locals; have := hR0.2; omega⟩
  have hsig : ∀ sig, parseMethodDescriptor y.desc = some sig → n = sig.parameters.length := fun sig h => by
    rw [h] at hn
    exact (Option.some.inj hn).symm
  have hr := va_runSN (l := l) (e := e) (below := below) (meth := meth) (H := H) (locs := locs) (cells := kc) (slots := ks) (mc := 0) (ms := 0) (As := as.map (rv φ)) (rest := st.map (rv φ)) (g := F0 m pc ar ((as.reverse ++ st).map (rv φ))) ⟨C.1, C.2.1, C.2.2.1, C.2.2.2.1, hts⟩ hM ⟨⟨⟨rfl, rfl, hb1.1, hb1.2, pay_in (fun w hw => hts w (tbl_ga hw)) hG, List.mem_cons_self⟩, hts _ (tbl_ga wc), hts _ wini, hy, hsig, hts _ wl⟩, hts _ wst, trivial⟩ ⟨PX.blind, fun U hU hW => ⟨rfl, x_pre C hP hR hS hU hW⟩⟩ rfl (by rw [List.length_map]; exact has) hl.1 (by rw [List.map_append, List.map_reverse]) (lv_room (by rw [rv_sum]; exact hst)) d hkc
  exact x_run C.2.2.2.2.2.2.2.2.2.2.2.1 hS hl hr kk

/-! texts and statics -/
theorem EX.nar (C : CX p s m args meth c φ tc D LA s0 cc own nL) : ∀ q, LA q → AE s0 q := C.2.2.2.2.2.2.2.2.2.2.2.2
theorem EX.hp (C : CX p s m args meth c φ tc D LA s0 cc own nL) : ∀ a : Nat, a < s0.heap.size → ¬ AE s0 a → s.heap[a]? = s0.heap[a]? := fun a h _ => C.2.2.2.2.2.2.2.2.2.2.1 a h
theorem EX.S (C : CX p s m args meth c φ tc D LA s0 cc own nL) : vk_S nJS lenJS bytJS (fun i => φ (500 + i)) (fun i => φ (600 + i)) LA s s.heap := ((C.2.2.2.2.2.2.2.1.2.2.2.1.moved C.2.2.2.2.2.2.2.2.1.alike).kept (EX.hp C)).narrow (EX.nar C)
theorem EX.Z {a b d : String} {v : Value} (C : CX p s m args meth c φ tc D LA s0 cc own nL) (h : va_Z a b d v (AE s0) s0 s0.heap) : va_Z a b d v LA s s.heap := ((h.moved C.2.2.2.2.2.2.2.2.1.alike).kept (EX.hp C)).narrow (EX.nar C)
theorem EX.X1 (C : CX p s m args meth c φ tc D LA s0 cc own nL) : vx_Zq Bundle.tN "UNASSIGNED_STACK" Bundle.steD LA s s.heap := ((C.2.2.2.2.2.2.2.1.2.2.2.2.2.2.2.2.2.1.moved C.2.2.2.2.2.2.2.2.1.alike).kept (EX.hp C)).narrow (EX.nar C)
theorem EX.X2 (C : CX p s m args meth c φ tc D LA s0 cc own nL) : vx_Zq Bundle.tN "SUPPRESSED_SENTINEL" Bundle.listD LA s s.heap := ((C.2.2.2.2.2.2.2.1.2.2.2.2.2.2.2.2.2.2.moved C.2.2.2.2.2.2.2.2.1.alike).kept (EX.hp C)).narrow (EX.nar C)
theorem EX.T (C : CX p s m args meth c φ tc D LA s0 cc own nL) : va_T .int (φ 700) 6 (fun j => .int (twoL.getD j 0)) LA s s.heap := ((C.2.2.2.2.2.2.2.1.2.2.2.2.2.2.1.moved C.2.2.2.2.2.2.2.2.1.alike).kept (EX.hp C)).narrow (EX.nar C)
theorem x_ldcS (C : CX p s m args meth c φ tc D LA s0 cc own nL) {i idx : Nat} (hi : i < nJS) (ho : ownJS.getD i "" = own) (hx : idxJS.getD i 0 = idx) (d : decode cc pc = .ok (.ldc idx, 2)) (h : WX p l e R s m args below meth c φ tc D LA nL kc ks Q (pc + 2) ls (.ref (500 + i) :: st) μ) : WX p l e R s m args below meth c φ tc D LA nL kc ks Q pc ls st μ := by
  intro H locs ar hP hR hS hl
  subst hx
  exact va_ldcS C.1 C.2.1 C.2.2.2.1 (by rw [← ho]; exact (C.2.2.2.2.2.2.2.1.2.2.2.2.1 i hi).warm C.2.2.2.2.2.2.2.2.1) d (h H locs ar hP hR hS hl)
theorem x_getSv (C : CX p s m args meth c φ tc D LA s0 cc own nL) {i idx : Nat} (hi : i < nJS) (w : Cond.fieldLink own idx "java/lang/String" "value" "[B" ∈ tblA) (d : decode cc pc = .ok (.getfield idx, 3)) (h : WX p l e R s m args below meth c φ tc D LA nL kc ks Q (pc + 3) ls (.ref (600 + i) :: st) μ) : WX p l e R s m args below meth c φ tc D LA nL kc ks Q pc ls (.ref (500 + i) :: st) μ := by
  intro H locs ar hP hR hS hl
  exact vk_getf (o := "java/lang/String") (v := .ref (φ (600 + i))) C.1 C.2.1 ((EX.S C).1 i hi).2.2.1 hS C.2.2.2.1 (C.2.2.2.2.1 _ w) (fun _ h9 => h9) d (h H locs ar hP hR hS hl)
theorem x_getSc (C : CX p s m args meth c φ tc D LA s0 cc own nL) {i idx : Nat} (hi : i < nJS) (w : Cond.fieldLink own idx "java/lang/String" "code\x72" "B" ∈ tblA) (d : decode cc pc = .ok (.getfield idx, 3)) (h : WX p l e R s m args below meth c φ tc D LA nL kc ks Q (pc + 3) ls (.int 0 :: st) μ) : WX p l e R s m args below meth c φ tc D LA nL kc ks Q pc ls (.ref (500 + i) :: st) μ := by
  intro H locs ar hP hR hS hl
  exact vk_getf (o := "java/lang/String") (v := .int 0) C.1 C.2.1 ((EX.S C).1 i hi).2.1 hS C.2.2.2.1 (C.2.2.2.2.1 _ w) (fun _ h9 => h9) d (h H locs ar hP hR hS hl)
theorem x_baldS (C : CX p s m args meth c φ tc D LA s0 cc own nL) {i j : Nat} {k : Int32} (hi : i < nJS) (hin : vp_in k (lenJS.getD i 0)) (hj : k.toNatClampNeg = j) (d : decode cc pc = .ok (.baload, 1)) (h : WX p l e R s m args below meth c φ tc D LA nL kc ks Q (pc + 1) ls (.int ((bytJS.getD i []).getD j 0) :: st) μ) : WX p l e R s m args below meth c φ tc D LA nL kc ks Q pc ls (.int k :: .ref (600 + i) :: st) μ := by
  subst hj
  intro H locs ar hP hR hS hl
  exact va_tb C.1 C.2.1 ((EX.S C).1 i hi).2.2.2 hS hin rfl d (h H locs ar hP hR hS hl)
theorem x_alenS (C : CX p s m args meth c φ tc D LA s0 cc own nL) {i : Nat} (hi : i < nJS) (d : decode cc pc = .ok (.arraylength, 1)) (h : WX p l e R s m args below meth c φ tc D LA nL kc ks Q (pc + 1) ls (.int (Int32.ofNat (lenJS.getD i 0)) :: st) μ) : WX p l e R s m args below meth c φ tc D LA nL kc ks Q pc ls (.ref (600 + i) :: st) μ := by
  intro H locs ar hP hR hS hl
  exact va_tlen C.1 C.2.1 ((EX.S C).1 i hi).2.2.2 hS rfl d (h H locs ar hP hR hS hl)
theorem x_getsC (C : CX p s m args meth c φ tc D LA s0 cc own nL) {idx : Nat} (w : Cond.fieldLink own idx "java/lang/String" "COMPACT_STRINGS" "Z" ∈ tblA) (d : decode cc pc = .ok (.getstatic idx, 3)) (h : WX p l e R s m args below meth c φ tc D LA nL kc ks Q (pc + 3) ls (.int 1 :: st) μ) : WX p l e R s m args below meth c φ tc D LA nL kc ks Q pc ls st μ := by
  intro H locs ar hP hR hS hl
  exact va_gets (v := .int 1) C.1 C.2.1 (EX.Z C C.2.2.2.2.2.2.2.1.2.2.2.2.2.2.2.1) hS C.2.2.2.1 (C.2.2.2.2.1 _ w) (fun _ h9 => h9) d (h H locs ar hP hR hS hl)
theorem x_gets2 (C : CX p s m args meth c φ tc D LA s0 cc own nL) {idx : Nat} (w : Cond.fieldLink own idx "NamesOnLetters$Told" "TWO_OF_FOUR" "[I" ∈ tblA) (d : decode cc pc = .ok (.getstatic idx, 3)) (h : WX p l e R s m args below meth c φ tc D LA nL kc ks Q (pc + 3) ls (.ref 700 :: st) μ) : WX p l e R s m args below meth c φ tc D LA nL kc ks Q pc ls st μ := by
  intro H locs ar hP hR hS hl
  exact va_gets (v := .ref (φ 700)) C.1 C.2.1 (EX.Z C C.2.2.2.2.2.2.2.1.2.2.2.2.2.1) hS C.2.2.2.1 (C.2.2.2.2.1 _ w) (fun _ h9 => h9) d (h H locs ar hP hR hS hl)
theorem x_ald2 (C : CX p s m args meth c φ tc D LA s0 cc own nL) {j : Nat} {k : Int32} (hin : vp_in k 6) (hj : k.toNatClampNeg = j) (d : decode cc pc = .ok (.iaload, 1)) (h : WX p l e R s m args below meth c φ tc D LA nL kc ks Q (pc + 1) ls (.int (twoL.getD j 0) :: st) μ) : WX p l e R s m args below meth c φ tc D LA nL kc ks Q pc ls (.int k :: .ref 700 :: st) μ := by
  subst hj
  intro H locs ar hP hR hS hl
  exact va_ti C.1 C.2.1 (EX.T C) hS hin rfl d (h H locs ar hP hR hS hl)
theorem x_getsQ (C : CX p s m args meth c φ tc D LA s0 cc own nL) {idx : Nat} (w : Cond.fieldLink own idx "jdk/internal/util/Preconditions" "SIOOBE_FORMATTER" "Ljava/util/function/BiFunction;" ∈ tblA) (d : decode cc pc = .ok (.getstatic idx, 3)) (h : ∀ v : Value, v.category = 1 → WX p l e R s m args below meth c φ tc D LA nL kc ks Q (pc + 3) ls (v :: st) μ) : WX p l e R s m args below meth c φ tc D LA nL kc ks Q pc ls st μ := by
  intro H locs ar hP hR hS hl
  rcases C.2.2.2.2.2.2.2.1.2.2.2.2.2.2.2.2.1 with q | q
  · exact va_gets (v := .null) C.1 C.2.1 (EX.Z C q) hS C.2.2.2.1 (C.2.2.2.2.1 _ w) (fun _ h9 => h9) d (h .null rfl H locs ar hP hR hS hl)
  · exact va_gets (v := .ref (φ 701)) C.1 C.2.1 (EX.Z C q) hS C.2.2.2.1 (C.2.2.2.2.1 _ w) (fun _ h9 => h9) d (h (.ref 701) rfl H locs ar hP hR hS hl)
theorem x_callVS {y : MethodName} {by_ : ByteArray} {mL : Nat} {ret : Option FieldType} {dC dR idx n : Nat} {as : List Value} {Qr : Option Value → MM → Prop} (C : CX p s m args meth c φ tc D LA s0 cc own nL) (hR0 : dR ≤ R.frames ∧ 100 * dR ≤ R.locals) (hkc : kc ≤ R.cells ∧ ks ≤ R.slots) (hd : dC + 1 ≤ dR) (hm81 : mL ≤ 81) {i : Nat} (hi : i < nJS) (hcn : "java/lang/String" = y.cls) (wsel : Cond.selects y.cls y y ∈ tblA) (wi : Cond.instanceMethod y ∈ tblA) (wl : Cond.methodLink own idx y ∈ tblA) (wc : Cond.code y by_ mL ret ∈ tblG) (wini : Cond.initialized y.cls ∈ tblA) (hy : y.cls ≠ "java/lang/invoke/MethodHandle" ∧ y.cls ≠ "java/lang/invoke/VarHandle") (hn : (parseMethodDescriptor y.desc).map (fun d => d.parameters.length) = some n) (has : as.length = n) (hst : (st.map fun v => v.category).sum ≤ 8) (d : decode cc pc = .ok (.invokevirtual idx, 3)) (hM : MX l φ tc D s0 dC y by_ mL ret (.ref (500 + i) :: as) μ Qr) (kk : ∀ (r : Option Value) (μ' : MM), Qr r μ' → WX p l e R s m args below meth c φ tc D LA nL kc ks Q (pc + 3) ls (r.toList ++ st) μ') : WX p l e R s m args below meth c φ tc D LA nL kc ks Q pc ls (as.reverse ++ .ref (500 + i) :: st) μ := by
  intro H locs ar hP hR hS hl
  have hts := C.2.2.2.2.1
  have hG := wsY_good wc
  have hb1 : (rmX dC).frames + 1 ≤ R.frames ∧ 8 + (mL + 11) + (rmX dC).locals ≤ R.locals := ⟨Nat.le_trans hd hR0.1, by show 8 + (mL + 11) + 100 * dC ≤ R.locals; have := hR0.2; omega⟩
  have hsig : ∀ sig, parseMethodDescriptor y.desc = some sig → n = sig.parameters.length := fun sig h => by
    rw [h] at hn
    exact (Option.some.inj hn).symm
  have hr := va_runV (l := l) (e := e) (below := below) (meth := meth) (H := H) (locs := locs) (cells := kc) (slots := ks) (mc := 0) (ms := 0) (C := y.cls) (b := φ (500 + i)) (As := as.map (rv φ)) (rest := st.map (rv φ)) (g := F0 m pc ar ((as.reverse ++ .ref (500 + i) :: st).map (rv φ))) ⟨C.1, C.2.1, C.2.2.1, C.2.2.2.1, hts⟩ hM ⟨⟨rfl, rfl, hb1.1, hb1.2, pay_in (fun w hw => hts w (tbl_ga hw)) hG, List.mem_cons_self, hts _ (tbl_ga wc), hts _ wini, hy, hsig, hts _ wl⟩, hts _ wi, hts _ wsel⟩ ⟨PX.blind, by rw [← hcn]; exact vk_recv (adK := fun i => φ (500 + i)) (i := i) (EX.S C) hi hS, fun U hU hW => ⟨rfl, x_pre C hP hR hS hU hW⟩⟩ rfl (by rw [List.length_map]; exact has) hl.1 (by rw [List.map_append, List.map_reverse, List.map_cons]; rfl) (lv_room (by rw [rv_sum]; exact hst)) d hkc
  exact x_run C.2.2.2.2.2.2.2.2.2.2.2.1 hS hl hr kk
theorem tm_max : Cond.code Lib.Math.max.name Lib.Math.max.code 2 (some .int) ∈ tblG := tbl_g (by decide +kernel) (by decide +kernel)
theorem tm_min : Cond.code Lib.Math.min.name Lib.Math.min.code 2 (some .int) ∈ tblG := tbl_g (by decide +kernel) (by decide +kernel)
theorem tm_abs : Cond.code Lib.Math.abs.name Lib.Math.abs.code 1 (some .int) ∈ tblG := tbl_g (by decide +kernel) (by decide +kernel)
theorem tm_labs : Cond.code Lib.MathLoose.abs_long.x Lib.MathLoose.abs_long.code 2 (some .long) ∈ tblG := tbl_g (by decide +kernel) (by decide +kernel)
theorem x_mmax {x y : Int32} {dR idx : Nat} (C : CX p s m args meth c φ tc D LA s0 cc own nL) (hR0 : dR ≤ R.frames ∧ 100 * dR ≤ R.locals) (hkc : kc ≤ R.cells ∧ ks ≤ R.slots) (hd : 1 ≤ dR) (wl : Cond.methodLink own idx Lib.Math.max.name ∈ tblA) (wst : Cond.static Lib.Math.max.name ∈ tblA) (wini : Cond.initialized "java/lang/Math" ∈ tblA) (hst : (st.map fun v => v.category).sum ≤ 8) (d : decode cc pc = .ok (.invokestatic idx, 3)) (h : WX p l e R s m args below meth c φ tc D LA nL kc ks Q (pc + 3) ls (.int (if x < y then y else x) :: st) μ) : WX p l e R s m args below meth c φ tc D LA nL kc ks Q pc ls (.int y :: .int x :: st) μ := by
  intro H locs ar hP hR hS hl
  have hts := C.2.2.2.2.1
  exact va_mmax C.1 C.2.1 (C.2.2.1.trans hl.1.symm) C.2.2.2.1 (hts _ wl) (hts _ wst) (hts _ wini) (hts _ (tbl_ga tm_max)) (Nat.le_trans hd hR0.1) (by rw [rv_sum]; have := hR0.2; omega) hkc.1 hkc.2 d (h H locs ar hP hR hS hl)
theorem x_mmin {x y : Int32} {dR idx : Nat} (C : CX p s m args meth c φ tc D LA s0 cc own nL) (hR0 : dR ≤ R.frames ∧ 100 * dR ≤ R.locals) (hkc : kc ≤ R.cells ∧ ks ≤ R.slots) (hd : 1 ≤ dR) (wl : Cond.methodLink own idx Lib.Math.min.name ∈ tblA) (wst : Cond.static Lib.Math.min.name ∈ tblA) (wini : Cond.initialized "java/lang/Math" ∈ tblA) (hst : (st.map fun v => v.category).sum ≤ 8) (d : decode cc pc = .ok (.invokestatic idx, 3)) (h : WX p l e R s m args below meth c φ tc D LA nL kc ks Q (pc + 3) ls (.int (if y < x then y else x) :: st) μ) : WX p l e R s m args below meth c φ tc D LA nL kc ks Q pc ls (.int y :: .int x :: st) μ := by
  intro H locs ar hP hR hS hl
  have hts := C.2.2.2.2.1
  exact va_mmin C.1 C.2.1 (C.2.2.1.trans hl.1.symm) C.2.2.2.1 (hts _ wl) (hts _ wst) (hts _ wini) (hts _ (tbl_ga tm_min)) (Nat.le_trans hd hR0.1) (by rw [rv_sum]; have := hR0.2; omega) hkc.1 hkc.2 d (h H locs ar hP hR hS hl)
theorem x_mabs {x : Int32} {dR idx : Nat} (C : CX p s m args meth c φ tc D LA s0 cc own nL) (hR0 : dR ≤ R.frames ∧ 100 * dR ≤ R.locals) (hkc : kc ≤ R.cells ∧ ks ≤ R.slots) (hd : 1 ≤ dR) (wl : Cond.methodLink own idx Lib.Math.abs.name ∈ tblA) (wst : Cond.static Lib.Math.abs.name ∈ tblA) (wini : Cond.initialized "java/lang/Math" ∈ tblA) (hst : (st.map fun v => v.category).sum ≤ 8) (d : decode cc pc = .ok (.invokestatic idx, 3)) (h : WX p l e R s m args below meth c φ tc D LA nL kc ks Q (pc + 3) ls (.int (if 0 ≤ x then x else 0 - x) :: st) μ) : WX p l e R s m args below meth c φ tc D LA nL kc ks Q pc ls (.int x :: st) μ := by
  intro H locs ar hP hR hS hl
  have hts := C.2.2.2.2.1
  exact va_mabs C.1 C.2.1 (C.2.2.1.trans hl.1.symm) C.2.2.2.1 (hts _ wl) (hts _ wst) (hts _ wini) (hts _ (tbl_ga tm_abs)) (Nat.le_trans hd hR0.1) (by rw [rv_sum]; have := hR0.2; omega) hkc.1 hkc.2 d (h H locs ar hP hR hS hl)
theorem x_mlabs {x : Int64} {dR idx : Nat} (C : CX p s m args meth c φ tc D LA s0 cc own nL) (hR0 : dR ≤ R.frames ∧ 100 * dR ≤ R.locals) (hkc : kc ≤ R.cells ∧ ks ≤ R.slots) (hd : 1 ≤ dR) (wl : Cond.methodLink own idx Lib.MathLoose.abs_long.x ∈ tblA) (wst : Cond.static Lib.MathLoose.abs_long.x ∈ tblA) (wini : Cond.initialized "java/lang/Math" ∈ tblA) (hst : (st.map fun v => v.category).sum ≤ 8) (d : decode cc pc = .ok (.invokestatic idx, 3)) (h : WX p l e R s m args below meth c φ tc D LA nL kc ks Q (pc + 3) ls (.long (if 0 < x then x else -x) :: st) μ) : WX p l e R s m args below meth c φ tc D LA nL kc ks Q pc ls (.long x :: st) μ := by
  intro H locs ar hP hR hS hl
  have hts := C.2.2.2.2.1
  exact va_mabs_long C.1 C.2.1 (C.2.2.1.trans hl.1.symm) C.2.2.2.1 (hts _ wl) (hts _ wst) (hts _ wini) (hts _ (tbl_ga tm_labs)) (Nat.le_trans hd hR0.1) (by rw [rv_sum]; have := hR0.2; omega) hkc.1 hkc.2 d (h H locs ar hP hR hS hl)
theorem x_topi {x : Int32} (k : ∀ y : Int32, y = x → WX p l e R s m args below meth c φ tc D LA nL kc ks Q pc ls (.int y :: st) μ) : WX p l e R s m args below meth c φ tc D LA nL kc ks Q pc ls (.int x :: st) μ := k x rfl
theorem x_topl {x : Int64} (k : ∀ y : Int64, y = x → WX p l e R s m args below meth c φ tc D LA nL kc ks Q pc ls (.long y :: st) μ) : WX p l e R s m args below meth c φ tc D LA nL kc ks Q pc ls (.long x :: st) μ := k x rfl
theorem x_mu (k : ∀ μ1 : MM, μ1 = μ → WX p l e R s m args below meth c φ tc D LA nL kc ks Q pc ls st μ1) : WX p l e R s m args below meth c φ tc D LA nL kc ks Q pc ls st μ := k μ rfl
theorem x_st (st' : List Value) (h : st = st') (k : WX p l e R s m args below meth c φ tc D LA nL kc ks Q pc ls st' μ) : WX p l e R s m args below meth c φ tc D LA nL kc ks Q pc ls st μ := h ▸ k
theorem x_pc (pc' : Nat) (h : pc = pc') (k : WX p l e R s m args below meth c φ tc D LA nL kc ks Q pc' ls st μ) : WX p l e R s m args below meth c φ tc D LA nL kc ks Q pc ls st μ := h ▸ k
theorem rX {dR : Nat} : dR ≤ (rmX dR).frames ∧ 100 * dR ≤ (rmX dR).locals := ⟨Nat.le_refl _, Nat.le_refl _⟩
theorem kX {R : Room} : 0 ≤ R.cells ∧ 0 ≤ R.slots := ⟨Nat.zero_le _, Nat.zero_le _⟩
end YY
