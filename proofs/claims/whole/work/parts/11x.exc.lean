section EE
variable {l : Launch} {φ : Nat → Nat} {tc : Nat → ClassId} {D : va_G} {s0 : State} {μ : MM}
def rmE (d : Nat) : Room := { frames := d, cells := 1, slots := 6, locals := 100 * d }
theorem rE {dR : Nat} : dR ≤ (rmE dR).frames ∧ 100 * dR ≤ (rmE dR).locals := ⟨Nat.le_refl _, Nat.le_refl _⟩
def XCX (φ : Nat → Nat) (tc : Nat → ClassId) (D : va_G) (X : MM → Prop) : String → State → State → Prop := fun E st t => E = "java/util/NoSuchElementException" ∧ ∃ μ' : MM, X μ' ∧ va_P D vwCl (mw φ tc NC μ') t.heap ∧ SR μ' ∧ va_F (AX φ) st t
/-- the contract of a method that may throw -/
def MXX (l : Launch) (φ : Nat → Nat) (tc : Nat → ClassId) (D : va_G) (s0 : State) (d : Nat) (y : MethodName) (cc : ByteArray) (nL : Nat) (ret : Option FieldType) (as : List Value) (μ : MM) (Qr : Option Value → MM → Prop) (X : MM → Prop) : Prop :=
  vx_Met l y (wsY y cc nL ret) (rmE d) (va_Pc (as.map (rv φ)) (PX φ tc D s0 μ)) (QX φ tc D Qr) (XCX φ tc D X) 1 6 (AX φ)
theorem MXX.of {dR : Nat} {y : MethodName} {cc : ByteArray} {nL : Nat} {ret : Option FieldType} {as : List Value} {Qr : Option Value → MM → Prop} {X : MM → Prop} {own : String} (hG : GX φ tc D s0) (hy : plainName y.cls = true) (ho : y.cls = own) (hn : (lg_sl (as.map (rv φ))).length ≤ nL)
    (k : ∀ (p : Program) (e : Env) (s : State) (m : MethodId) (args : Array Value) (below : List Frame) (meth : Method) (c : Code), CX p s m args meth c φ tc D (AX φ) s0 cc own nL → meth.sig.returnType = ret → (∀ x ∈ c.exceptionTable.toList, False) →
      WX p l e (rmE dR) s m args below meth c φ tc D (AX φ) nL 0 0 (vx_MQ below (QX φ tc D Qr) (XCX φ tc D X) args s 1 6 (AX φ)) 0 (lv_args 0 as) [] μ) : MXX l φ tc D s0 dR y cc nL ret as μ Qr X := by
  refine vx_ofW (cc := cc) (maxL := nL) (ret := ret) hy rfl ?_
  intro p e s m args below meth c s₁ B hml hxt hv
  obtain ⟨rfl, hal, hsz, hhp, hP, hR, hN⟩ := hv
  have hts : ∀ w ∈ wsY y cc nL ret, w.before _ s = true := atoms_spec (ws := wsY y cc nL ret) B.pre
  have hown : s.vm.findClass own = some m.cls := by rw [← ho]; exact findClass_of_methodNamed B.named
  have C : CX p s m (as.map (rv φ)).toArray meth c φ tc D (AX φ) s0 cc own nL := ⟨B.exec, B.bytes, hml, hown, fun w hw => (tbl_gn hw).elim (fun q => hts w (List.mem_cons_of_mem _ q)) (fun q => va_Nw.use (nest_on (List.mem_filter.mp q).2) (hN w q)), va_K.moved hal.alike hG.1, B.notSynchronized, hG, hal, hsz, hhp, fun _ h => h, fun q ⟨k, h1, h2⟩ => by rw [h2]; exact hG.2.2.1 k h1⟩
  have hl := lv_entry (as.map (rv φ)) hn
  rw [lg_entry_eq]
  exact k p e s m _ below meth c C B.returns hxt s.heap [] _ hP hR va_S.rf (by rw [rl_args]; exact hl)
variable {p : Program} {e : Env} {R : Room} {s : State} {m : MethodId} {args : Array Value} {below : List Frame} {meth : Method} {c : Code}
variable {Q : State → Prop} {cc : ByteArray} {own : String} {LA : Nat → Prop} {nL kc ks pc : Nat} {ls : List (Nat × Value)} {st : List Value}
theorem x_iretX {Qr : Option Value → MM → Prop} {X : MM → Prop} (C : CX p s m args meth c φ tc D (AX φ) s0 cc own nL) {v : Int32} (hr : meth.sig.returnType = some .int) (d : decode cc pc = .ok (.ireturn, 1)) (h : Qr (some (.int v)) μ) : WX p l e R s m args below meth c φ tc D (AX φ) nL 0 0 (vx_MQ below (QX φ tc D Qr) (XCX φ tc D X) args s 1 6 (AX φ)) pc ls [.int v] μ := by
  intro H locs ar hP hR hS hl
  have hlocks := C.2.2.2.2.2.2.1
  exact W.widen (Nat.zero_le 1) (Nat.zero_le 6) (vx_ret (W.iret (v := v) C.1 C.2.1 hr (fun t ht hW => ⟨some (.int v), μ, rfl, h, by rw [ht]; exact hP, hR, hS.F ht⟩) hS.2.2 d))
theorem x_lretX {Qr : Option Value → MM → Prop} {X : MM → Prop} (C : CX p s m args meth c φ tc D (AX φ) s0 cc own nL) {v : Int64} (hr : meth.sig.returnType = some .long) (d : decode cc pc = .ok (.lreturn, 1)) (h : Qr (some (.long v)) μ) : WX p l e R s m args below meth c φ tc D (AX φ) nL 0 0 (vx_MQ below (QX φ tc D Qr) (XCX φ tc D X) args s 1 6 (AX φ)) pc ls [.long v] μ := by
  intro H locs ar hP hR hS hl
  have hlocks := C.2.2.2.2.2.2.1
  exact W.widen (Nat.zero_le 1) (Nat.zero_le 6) (vx_ret (W.lret (v := v) C.1 C.2.1 hr (fun t ht hW => ⟨some (.long v), μ, rfl, h, by rw [ht]; exact hP, hR, hS.F ht⟩) hS.2.2 d))
end EE
section EC
variable {p : Program} {l : Launch} {e : Env} {R : Room} {s : State} {m : MethodId} {args : Array Value} {below : List Frame} {meth : Method} {c : Code}
abbrev exC : String := "java/util/NoSuchElementException"
abbrev exS : String := "java/lang/RuntimeException"
def exU : List String := ["java/lang/Exception"]
/-- the words of 'throw new NoSuchElementException(text)', whose constructor has its own place for its parent's -/
def exA (own : String) (ic ix : Nat) (rx : ByteArray) : List Cond :=
  Bundle.passSAtoms exC exS ix rx ++ (Bundle.chainSAtoms exS exU ++ (Bundle.throwableAtoms ++ (Bundle.throwableSAtoms ++ [.methodLink own ic (Bundle.initS exC), .instantiable exC 6, .selects exC Bundle.tFill0 Bundle.tFill0, .selects exC Bundle.tFill Bundle.tFill, .lays exC Bundle.tN "cause" "Ljava/lang/Throwable;", .lays exC Bundle.tN "stackTrace" Bundle.steD, .lays exC Bundle.tN "suppressedExceptions" Bundle.listD, .lays exC Bundle.tN "detailMessage" "Ljava/lang/String;", .lays exC Bundle.tN "backtrace" "Ljava/lang/Object;", .lays Bundle.tN Bundle.tN "backtrace" "Ljava/lang/Object;", .fieldLink Bundle.tN 198 Bundle.tN "backtrace" "Ljava/lang/Object;", .isRef (.static Bundle.tN "UNASSIGNED_STACK" Bundle.steD), .isRef (.static Bundle.tN "SUPPRESSED_SENTINEL" Bundle.listD)])))
/-- its constructor and the throw, in a launch without stack traces -/
theorem ex_ctor {W : State} {cells slots : Nat} (X : Stand p l e R s m args below meth c W [] cells slots) (hx : p.tables.exec = Jvm.exec) (htr : e.platform.stackTraces = false) {own : String} {ic ix : Nat} {rx : ByteArray}
    (x0 : decode rx 0 = .ok (.aload_n 0, 1)) (x1 : decode rx 1 = .ok (.aload_n 1, 1)) (x2 : decode rx 2 = .ok (.invokespecial ix, 3)) (x5 : decode rx 5 = .ok (.return_, 1))
    (hown : s.vm.findClass own = some m.cls) (h : ∀ w ∈ exA own ic ix rx, w.before args s = true) {q : Addr} {cX : ClassId} {kX : Class} (hfX : s.vm.findClass exC = some cX) (hkX : s.vm.classes[cX]? = some kX)
    (hq : W.heap[q]? = some (freshCell cX kX)) (hnew : s.heap.size ≤ q) {msg : Value} (hmsg : msg.isRef = true) {g : JFrame} (hg : g.method = m) (hsz : g.locals.size = c.maxLocals) (hlk : g.locked = none) (hen : g.entered = []) {rest : List Value}
    (hst : g.stack = msg :: .ref q :: .ref q :: rest) (d6 : decode c.code g.pc = .ok (.invokespecial ic, 3)) (d9 : decode c.code (g.pc + 3) = .ok (.athrow, 1)) (hout : ∀ x ∈ c.exceptionTable.toList, covers x (g.pc + 3) = false)
    (hRf : 5 < R.frames) (hRl : 2 * g.monitorRoom + ((Value.ref q :: rest).map fun v => v.category).sum + 81 ≤ R.locals) (hlocks : meth.locks = false) :
    ∃ U : State, Steps p.tables e below (W.setTop g) U ∧ U.status = .running ∧ Ended U below (.threw q) ∧ s.WarmedH U.vm ∧ s.sameButNew ({ U with vm := s.vm } : State) [] cells slots ∧ ∃ ce, U.heap[q]? = some ce ∧ ce.cls = cX ∧ ce.vm = .none := by
  have hpl : e.platform.magicAccessors = ({} : Platform).magicAccessors := by rw [X.admits.platform]
  have hA : ∀ w, w ∈ Bundle.passSAtoms exC exS ix rx → w.before args s = true := fun w hw => h w (List.mem_append_left _ hw)
  have hB : ∀ w, w ∈ Bundle.chainSAtoms exS exU → w.before args s = true := fun w hw => h w (List.mem_append_right _ (List.mem_append_left _ hw))
  have hT : ∀ w, w ∈ Bundle.throwableAtoms → w.before args s = true := fun w hw => h w (List.mem_append_right _ (List.mem_append_right _ (List.mem_append_left _ hw)))
  have hTS : ∀ w, w ∈ Bundle.throwableSAtoms → w.before args s = true := fun w hw => h w (List.mem_append_right _ (List.mem_append_right _ (List.mem_append_right _ (List.mem_append_left _ hw))))
  have own9 : ∀ (i : Nat) (w : Cond), ([.methodLink own ic (Bundle.initS exC), .instantiable exC 6, .selects exC Bundle.tFill0 Bundle.tFill0, .selects exC Bundle.tFill Bundle.tFill, .lays exC Bundle.tN "cause" "Ljava/lang/Throwable;", .lays exC Bundle.tN "stackTrace" Bundle.steD, .lays exC Bundle.tN "suppressedExceptions" Bundle.listD, .lays exC Bundle.tN "detailMessage" "Ljava/lang/String;", .lays exC Bundle.tN "backtrace" "Ljava/lang/Object;", .lays Bundle.tN Bundle.tN "backtrace" "Ljava/lang/Object;", .fieldLink Bundle.tN 198 Bundle.tN "backtrace" "Ljava/lang/Object;", .isRef (.static Bundle.tN "UNASSIGNED_STACK" Bundle.steD), .isRef (.static Bundle.tN "SUPPRESSED_SENTINEL" Bundle.listD)] : List Cond)[i]? = some w → w.before args s = true := fun i w hw => h w (List.mem_append_right _ (List.mem_append_right _ (List.mem_append_right _ (List.mem_append_right _ (List.mem_of_getElem? hw)))))
  have w10 : (Cond.fieldLink Bundle.tN 198 Bundle.tN "backtrace" "Ljava/lang/Object;").before args s = true := own9 10 _ rfl
  have w9 : (Cond.lays Bundle.tN Bundle.tN "backtrace" "Ljava/lang/Object;").before args s = true := own9 9 _ rfl
  have w4 : (Cond.lays exC Bundle.tN "cause" "Ljava/lang/Throwable;").before args s = true := own9 4 _ rfl
  have w5 : (Cond.lays exC Bundle.tN "stackTrace" Bundle.steD).before args s = true := own9 5 _ rfl
  have w6 : (Cond.lays exC Bundle.tN "suppressedExceptions" Bundle.listD).before args s = true := own9 6 _ rfl
  have w7 : (Cond.lays exC Bundle.tN "detailMessage" "Ljava/lang/String;").before args s = true := own9 7 _ rfl
  have w8 : (Cond.lays exC Bundle.tN "backtrace" "Ljava/lang/Object;").before args s = true := own9 8 _ rfl
  have w11 : (Cond.isRef (.static Bundle.tN "UNASSIGNED_STACK" Bundle.steD)).before args s = true := own9 11 _ rfl
  have w12 : (Cond.isRef (.static Bundle.tN "SUPPRESSED_SENTINEL" Bundle.listD)).before args s = true := own9 12 _ rfl
  obtain ⟨T, Z0, L, -, Y⟩ := ThrowableC.of_atoms (args := args) (by rw [X.admits.platform]) (by rw [X.admits.platform]) hpl hT
  obtain ⟨Z, M, LZ, LM, hZ⟩ := Init0T.ofS_atoms (args := args) hpl L Y hTS
  have hf1 : Bundle.fit exC = true := by decide +kernel
  have hf2 : Bundle.fit exS = true := by decide +kernel
  obtain ⟨P1, L1, hm1, hs1⟩ := PassC.ofS_atoms (args := args) (s := s) hpl (X := exC) (Y := exS) (Bundle.fit_spec hf1).1 (Bundle.fit_spec hf2).2 x0 x1 x2 x5 hA
  obtain ⟨P2, Ps, hlen, L2, hLs, hm2, hsup, hpass⟩ := Bundle.chainS (args := args) hpl hZ exU exS hf2 (fun n hn => by cases List.mem_singleton.mp hn; decide +kernel) hB
  have hlk1 : P1.sup = P2.m := Option.some.inj (hs1.symm.trans hm2)
  have hf : s.vm.findClass exC = some P1.m.cls := findClass_of_methodNamed hm1
  cases Option.some.inj (hfX.symm.trans hf)
  obtain ⟨c1, k1, hc1, hk, hord, -, -, -⟩ := Cond.instantiable_spec (own9 1 _ rfl)
  cases Option.some.inj (hc1.symm.trans hf)
  cases Option.some.inj (hkX.symm.trans hk)
  have hsel : ∀ {y : MethodName} {k : MethodId}, (y.cls ≠ "java/lang/invoke/MethodHandle" ∧ y.cls ≠ "java/lang/invoke/VarHandle") → s.methodNamed? y = some k → (Cond.selects exC y y).before args s = true → selectMethod e.platform s.vm P1.m.cls k = .method k := by
    intro y k hy hn hw
    obtain ⟨c2, r2, m2, q1, q2, q3, q4, -⟩ := Cond.selects_spec hw
    cases Option.some.inj (q1.symm.trans hf)
    cases Option.some.inj (q2.symm.trans (State.methodFound?_of_named hn hy))
    cases Option.some.inj (q3.symm.trans hn)
    rw [Launch.admits_selectMethod X.admits]
    exact q4
  obtain ⟨cS0, hS0, hiss⟩ := Y.statics
  obtain ⟨u0, hu0⟩ := Cond.staticRefV Y.unassigned L.unassignedStatic L.statics hS0 hiss w11
  obtain ⟨sen, hsen⟩ := Cond.staticRefV Y.sentinel L.sentinelStatic L.statics hS0 hiss w12
  obtain ⟨bi, bj, fB, hb1, hb2, hb3, hb4, -, hb5, hb6, hb7⟩ := Cond.ownField (t := .object "java/lang/Object") Y.found L.cls (by decide +kernel) w10 w9 e.platform hpl
  obtain ⟨cS, hcS, heS, -, hkeep⟩ := X.same.2.2.2.2.2 T.aS cS0 hS0
  have hnl : ∀ i, (⟨T.aS, i⟩ : Loc) ∉ ([] : List Loc) := fun i hz => nomatch hz
  have hkn : cS.vm ≠ .unknown := by
    rw [heS]
    intro hu
    rw [show cS0.vm = .unknown from hu] at hiss
    cases hiss
  have hneS : T.aS ≠ q := Nat.ne_of_lt (Nat.lt_of_lt_of_le (Array.getElem?_eq_some_iff.mp hS0).1 hnew)
  obtain ⟨iM, hM⟩ := Y.msg
  obtain ⟨tC, eC, lC, nC⟩ := Cond.laysAt hf hk Y.cause w4
  obtain ⟨tS, eS, lS, nS⟩ := Cond.laysAt hf hk Y.stack w5
  obtain ⟨tP, eP, lP, nP⟩ := Cond.laysAt hf hk Y.supp w6
  obtain ⟨tM, eM, lM, nM⟩ := Cond.laysAt hf hk hM w7
  obtain ⟨tB, eB, lB, nB⟩ := Cond.laysAt hf hk hb7 w8
  have aC := Cond.laysApart lB lC nB nC (by rw [hb5, Y.causeName]; decide)
  have aS := Cond.laysApart lB lS nB nS (by rw [hb5, Y.stackName]; decide)
  have aP := Cond.laysApart lB lP nB nP (by rw [hb5, Y.suppName]; decide)
  have hskip : SkipFacts T e.platform s (fun u => u) u0 ((preparedCellV T.toThrowableT (freshCell P1.m.cls kX) q u0 sen).withEntry W.cur) := by
    refine ⟨{ ci198 := bi, i198 := bj, fBack := fB }, ⟨hb1, hb2, hb3, hb4⟩, ?_, fun _ _ => rfl⟩
    have h9 := fresh_default (c := P1.m.cls) tB
    rw [hb6] at h9
    simpa [preparedCellV, Cell.setSlot, Cell.withEntry, Array.getElem?_setIfInBounds, aC, aS, aP, aC.symm, aS.symm, aP.symm, defaultValue] using h9
  obtain ⟨t9, m9, c9, k9, vm₁, hn9, -, -, -, -, -, -, -, hW₁, st1⟩ := Steps.initColdS (tb := p.tables) (e := e) (below := below) (s := s) (U := W) X.here hx X.warmed hpl hown (t := Bundle.initS exC) rfl rfl (Bundle.fit_spec hf1).2 (own9 0 _ rfl) (hA (.instanceMethod (Bundle.initS exC)) (by simp [Bundle.passSAtoms])) (bytes := rx) (maxL := 2) (hA (.code (Bundle.initS exC) rx 2 none) (by simp [Bundle.passSAtoms])) (f := g) hg (a := q) (msg := msg) (rest := .ref q :: rest) hst d6
  cases Option.some.inj (hn9.symm.trans hm1)
  have X₁ := X.noted hW₁
  have hl2 : (P1 :: P2 :: Ps).length = 3 := by simp only [List.length_cons, hlen]; rfl
  obtain ⟨vm₂, X₂, st2⟩ := X₁.ctorMessageOffV hx (g := { g with stack := .ref q :: rest }) hg hsz T L Z LZ M LM (P1 :: P2 :: Ps)
    (fun P hP => by
      rcases List.mem_cons.mp hP with rfl | hP
      · exact L1
      · rcases List.mem_cons.mp hP with rfl | hP
        · exact L2
        · exact hLs P hP)
    ⟨hlk1, hsup, hpass⟩ (u0 := u0) (sen := sen) (self := q) hmsg (cell := freshCell P1.m.cls kX) (cellS := cS) hq (fun _ => by simp) (by simp) rfl rfl (hsel (by decide) Y.fill0 (own9 2 _ rfl)) (hsel (by decide) Y.fill (own9 3 _ rfl)) hcS hneS hkn (by rw [hkeep _ (hnl _)]; exact hu0) (by rw [hkeep _ (hnl _)]; exact hsen)
    (Takes.of_laid hk hord tC (by rw [Y.causeType]; rfl)) (Takes.of_laid hk hord tS (by rw [Y.stackType]; exact fits_refV_array _ u0)) (Takes.of_laid hk hord tP (by rw [Y.suppType]; exact fits_refV_object _ sen)) (Takes.of_laid hk hord tM (by rw [Y.msgType]; exact fits_refV_object _ ⟨msg, hmsg⟩)) Y.objLocals hskip htr [] d6
    (by rw [hl2]; omega) (by rw [hl2]; exact hRl)
  obtain ⟨hwalk, hrun, hended, hWU, hsame⟩ := X₂.athrowLeaves hx (g := { g with stack := .ref q :: rest, pc := g.pc + 3 }) hg hlk hen hout (a := q) (rest := rest) rfl d9
  have hlt : q < ((W.setVm vm₁).setVm vm₂).heap.size := (Array.getElem?_eq_some_iff.mp hq).1
  have hU := heapAt_setCell_self (s := (W.setVm vm₁).setVm vm₂) (plainBareV T.toThrowableT (freshCell P1.m.cls kX) q u0 sen msg) hlt
  refine ⟨_, st1 _ (fun acts => ?_), hrun, hended, hWU, hsame.weaken (fun y hy hlt' => ?_) (Nat.le_refl _) (Nat.le_refl _), _, hU, rfl, rfl⟩
  · rw [doInvoke_state]
    exact st2 _ hwalk
  · exfalso
    have hb : y.base = q := by
      simp only [List.mem_cons, List.not_mem_nil, or_false, List.nil_append] at hy
      rcases hy with rfl | rfl | rfl | rfl | rfl <;> rfl
    rw [hb] at hlt'
    exact Nat.not_lt.mpr hnew hlt'
theorem ex_thrS {H : Heap} {locs : List Loc} {cells slots mc ms : Nat} {rest : List Value} {ls : Array Slot} {Qc : Array Value → State → Outcome → State → Prop} {XC : String → State → State → Prop} {free A : Nat → Prop} {cc : ByteArray} {pc : Nat} (hx : p.tables.exec = Jvm.exec) (hb : c.code = cc) (hl : l.stackTraces = false) {own text : String} {ik is ic ix sa : Nat} {rx : ByteArray}
    (x0 : decode rx 0 = .ok (.aload_n 0, 1)) (x1 : decode rx 1 = .ok (.aload_n 1, 1)) (x2 : decode rx 2 = .ok (.invokespecial ix, 3)) (x5 : decode rx 5 = .ok (.return_, 1)) (hown : s.vm.findClass own = some m.cls)
    (hts : ∀ w ∈ Cond.classLink own ik exC :: Cond.initialized exC :: (exA own ic ix rx).filter vx_no, w.before args s = true) (hstr : vk_R own is text sa s) (hgood : ∀ w ∈ Cond.classLink own ik exC :: Cond.initialized exC :: (exA own ic ix rx).filter vx_no, vx_ot w = true)
    (hU : vx_Zq Bundle.tN "UNASSIGNED_STACK" Bundle.steD A s s.heap) (hN : vx_Zq Bundle.tN "SUPPRESSED_SENTINEL" Bundle.listD A s s.heap) (hS : va_S A s.heap H locs) (hsz : ls.size = c.maxLocals)
    (d0 : decode cc pc = .ok (.new ik, 3)) (d3 : decode cc (pc + 3) = .ok (.dup, 1)) (d4 : decode cc (pc + 4) = .ok (.ldc is, 2)) (d6 : decode cc (pc + 6) = .ok (.invokespecial ic, 3)) (d9 : decode cc (pc + 9) = .ok (.athrow, 1)) (hout : ∀ x ∈ c.exceptionTable.toList, covers x (pc + 9) = false)
    (hRf : 5 < R.frames) (hRl : (rest.map fun v => v.category).sum + 82 ≤ R.locals) (hRc : cells + 1 ≤ R.cells) (hRs : slots + 6 ≤ R.slots) (hlocks : meth.locks = false)
    (hX : ∀ t : State, s.vm.Alike t.vm → H.size ≤ t.heap.size → (∀ q : Nat, q < H.size → t.heap[q]? = H[q]?) → XC exC s t) (hf : ∀ z ∈ locs, free z.base) (hc : cells + 1 ≤ mc) (hs : slots + 6 ≤ ms) :
    W p l e R s m args below meth c H locs cells slots (vx_MQ below Qc XC args s mc ms free) (F0 m pc ls rest) := by
  intro T hT X
  have htr : e.platform.stackTraces = false := (show e.platform.stackTraces = l.stackTraces by rw [X.admits.platform]).trans hl
  have Y := vx_rebase X (R' := { frames := R.frames, locals := R.locals, cells := 1, slots := 6 }) (Nat.le_refl _) (Nat.le_refl _) hRc hRs
  obtain ⟨z, hz⟩ : ∃ z, z = (T.setVm s.vm).setFrames (.invoking m args :: below) := ⟨_, rfl⟩
  rw [← hz] at Y
  have hvm : z.vm = s.vm := by rw [hz]; rfl
  have hhp : z.heap = H := by rw [hz]; exact hT
  have hW0 : s.WarmedH z.vm := by rw [hvm]; exact State.WarmedH.refl s
  have ht9 : ∀ w ∈ Cond.classLink own ik exC :: Cond.initialized exC :: (exA own ic ix rx).filter vx_no, w.before args z = true := fun w hw => vx_ot_at hW0 hvm.symm (hgood w hw) (hts w hw)
  have hU9 : vx_Zq Bundle.tN "UNASSIGNED_STACK" Bundle.steD A z z.heap := by rw [hhp]; exact vx_Zq.moved hW0.alike (hU.kept hS.2.1)
  have hN9 : vx_Zq Bundle.tN "SUPPRESSED_SENTINEL" Bundle.listD A z z.heap := by rw [hhp]; exact vx_Zq.moved hW0.alike (hN.kept hS.2.1)
  have h : ∀ w ∈ exA own ic ix rx, w.before args z = true := vx_own (fun w hw => ht9 w (List.mem_cons_of_mem _ (List.mem_cons_of_mem _ hw))) (vx_isRefq hU9.1) (vx_isRefq hN9.1) hU9.2.word hN9.2.word
  have hown9 : z.vm.findClass own = some m.cls := by rw [hvm]; exact hown
  obtain ⟨vm₁, cX, kX, hfX, hkX, -, -, X₁, st1⟩ := Y.newCold hx (own := own) (C := exC) (index := ik) (n := 6) hown9 (ht9 _ List.mem_cons_self) (h _ (by simp [exA])) (ht9 _ (List.mem_cons_of_mem _ List.mem_cons_self)) (g := F0 m pc ls rest) rfl (by rw [hb]; exact d0) (Nat.le_refl _) (Nat.le_refl _)
  generalize hT1 : (T.setVm vm₁).pushCell { cls := cX, slots := kX.instanceTypes.map defaultValue, vm := .none } = T1 at X₁ st1
  have hcat : (Value.ref T.heap.size).category = 1 := rfl
  have hcl9 : T1.heap[T.heap.size]? = some (freshCell cX kX) := by rw [← hT1]; exact State.heap_pushCell_size _ _
  have e3 : decode c.code (pc + 3) = .ok (.dup, 1) := by rw [hb]; exact d3
  have e4 : decode c.code (pc + 4) = .ok (.ldc is, 2) := by rw [hb]; exact d4
  have hs9 : vk_R own is text sa z := vk_R.warm hW0 hstr
  obtain ⟨U, hsteps, hrun, hend, hW, hsame, ce, hce, hcc, hcv⟩ := ex_ctor X₁ hx htr (own := own) (ic := ic) x0 x1 x2 x5 hown9 h hfX hkX hcl9 (by rw [hhp, hT]; exact Nat.le_refl _) (msg := .ref sa) rfl
    (g := { method := m, pc := pc + 6, locals := ls, stack := .ref sa :: .ref T.heap.size :: .ref T.heap.size :: rest, locked := none }) rfl hsz rfl rfl (rest := rest) rfl (by rw [hb]; exact d6) (by rw [hb]; exact d9) hout hRf (by simp only [List.map_cons, List.sum_cons, hcat]; show 2 * 0 + _ + 81 ≤ _; omega) hlocks
  obtain ⟨f1, f2⟩ := vx_frame hsame
  rw [hhp] at f1 f2
  have hWs : s.WarmedH U.vm := State.WarmedH.trans hW0 hW
  have hcl : s.vm.findClass exC = some ce.cls := by
    rw [hvm] at hfX
    rw [hcc]
    exact hfX
  have hall : s.sameButNew ({ U with vm := s.vm } : State) locs mc ms := by
    subst hz
    obtain ⟨e1, e2⟩ := hsame
    rw [State.setFrames_setFrames] at e1
    have h2 : (T.setVm s.vm).sameButNew ({ U with vm := s.vm } : State) [] (0 + 1) (0 + 6) := ⟨e1, e2⟩
    have h3 := X.same.trans h2
    rw [List.append_nil] at h3
    exact h3.mono hc hs
  refine ⟨U, ?_, .threw T.heap.size, hrun, hend, Or.inr ⟨T.heap.size, rfl, exC, ce, locs, hX U hWs.alike f1 (fun q hq => f2 q hq (fun y hy => nomatch hy)), hce, hcv, hcl, hWs, hall, hf⟩⟩
  refine st1 _ ?_
  show Steps p.tables e below (T1.setTop { method := m, pc := pc + 3, locals := ls, stack := .ref T.heap.size :: rest, locked := none }) _
  jvm_step X₁.here [X₁.here.top, hx, e3, Value.category]
  exact X₁.ldcString hx (own := own) (text := text) (index := is) (a := sa) hown9 hs9.1 hs9.2 (g := { method := m, pc := pc + 4, locals := ls, stack := .ref T.heap.size :: .ref T.heap.size :: rest, locked := none }) rfl e4 _ hsteps
theorem ex_thrSW {H : Heap} {locs : List Loc} {cells slots mc ms : Nat} {rest : List Value} {ls : Array Slot} {Qc : Array Value → State → Outcome → State → Prop} {XC : String → State → State → Prop} {free A : Nat → Prop} {cc : ByteArray} {pc : Nat} (hx : p.tables.exec = Jvm.exec) (hb : c.code = cc) (hl : l.stackTraces = false) {own text : String} {ik is ic ix sa : Nat} {rx : ByteArray}
    (x0 : decode rx 0 = .ok (.aload_n 0, 1)) (x1 : decode rx 1 = .ok (.aload_n 1, 1)) (x2 : decode rx 2 = .ok (.invokespecial ix, 3)) (x5 : decode rx 5 = .ok (.return_, 1)) (hown : s.vm.findClass own = some m.cls)
    (hts : ∀ w ∈ Cond.classLink own ik exC :: Cond.initialized exC :: (exA own ic ix rx).filter vx_no, w.before args s = true) (hstr : vk_R own is text sa s) (hgood : ∀ w ∈ Cond.classLink own ik exC :: Cond.initialized exC :: (exA own ic ix rx).filter vx_no, vx_ot w = true)
    (hU : vx_Zq Bundle.tN "UNASSIGNED_STACK" Bundle.steD A s s.heap) (hN : vx_Zq Bundle.tN "SUPPRESSED_SENTINEL" Bundle.listD A s s.heap) (hS : va_S A s.heap H locs) (hsz : ls.size = c.maxLocals)
    (d0 : decode cc pc = .ok (.new ik, 3)) (d3 : decode cc (pc + 3) = .ok (.dup, 1)) (d4 : decode cc (pc + 4) = .ok (.ldc_w is, 3)) (d6 : decode cc (pc + 7) = .ok (.invokespecial ic, 3)) (d9 : decode cc (pc + 10) = .ok (.athrow, 1)) (hout : ∀ x ∈ c.exceptionTable.toList, covers x (pc + 10) = false)
    (hRf : 5 < R.frames) (hRl : (rest.map fun v => v.category).sum + 82 ≤ R.locals) (hRc : cells + 1 ≤ R.cells) (hRs : slots + 6 ≤ R.slots) (hlocks : meth.locks = false)
    (hX : ∀ t : State, s.vm.Alike t.vm → H.size ≤ t.heap.size → (∀ q : Nat, q < H.size → t.heap[q]? = H[q]?) → XC exC s t) (hf : ∀ z ∈ locs, free z.base) (hc : cells + 1 ≤ mc) (hs : slots + 6 ≤ ms) :
    W p l e R s m args below meth c H locs cells slots (vx_MQ below Qc XC args s mc ms free) (F0 m pc ls rest) := by
  intro T hT X
  have htr : e.platform.stackTraces = false := (show e.platform.stackTraces = l.stackTraces by rw [X.admits.platform]).trans hl
  have Y := vx_rebase X (R' := { frames := R.frames, locals := R.locals, cells := 1, slots := 6 }) (Nat.le_refl _) (Nat.le_refl _) hRc hRs
  obtain ⟨z, hz⟩ : ∃ z, z = (T.setVm s.vm).setFrames (.invoking m args :: below) := ⟨_, rfl⟩
  rw [← hz] at Y
  have hvm : z.vm = s.vm := by rw [hz]; rfl
  have hhp : z.heap = H := by rw [hz]; exact hT
  have hW0 : s.WarmedH z.vm := by rw [hvm]; exact State.WarmedH.refl s
  have ht9 : ∀ w ∈ Cond.classLink own ik exC :: Cond.initialized exC :: (exA own ic ix rx).filter vx_no, w.before args z = true := fun w hw => vx_ot_at hW0 hvm.symm (hgood w hw) (hts w hw)
  have hU9 : vx_Zq Bundle.tN "UNASSIGNED_STACK" Bundle.steD A z z.heap := by rw [hhp]; exact vx_Zq.moved hW0.alike (hU.kept hS.2.1)
  have hN9 : vx_Zq Bundle.tN "SUPPRESSED_SENTINEL" Bundle.listD A z z.heap := by rw [hhp]; exact vx_Zq.moved hW0.alike (hN.kept hS.2.1)
  have h : ∀ w ∈ exA own ic ix rx, w.before args z = true := vx_own (fun w hw => ht9 w (List.mem_cons_of_mem _ (List.mem_cons_of_mem _ hw))) (vx_isRefq hU9.1) (vx_isRefq hN9.1) hU9.2.word hN9.2.word
  have hown9 : z.vm.findClass own = some m.cls := by rw [hvm]; exact hown
  obtain ⟨vm₁, cX, kX, hfX, hkX, -, -, X₁, st1⟩ := Y.newCold hx (own := own) (C := exC) (index := ik) (n := 6) hown9 (ht9 _ List.mem_cons_self) (h _ (by simp [exA])) (ht9 _ (List.mem_cons_of_mem _ List.mem_cons_self)) (g := F0 m pc ls rest) rfl (by rw [hb]; exact d0) (Nat.le_refl _) (Nat.le_refl _)
  generalize hT1 : (T.setVm vm₁).pushCell { cls := cX, slots := kX.instanceTypes.map defaultValue, vm := .none } = T1 at X₁ st1
  have hcat : (Value.ref T.heap.size).category = 1 := rfl
  have hcl9 : T1.heap[T.heap.size]? = some (freshCell cX kX) := by rw [← hT1]; exact State.heap_pushCell_size _ _
  have e3 : decode c.code (pc + 3) = .ok (.dup, 1) := by rw [hb]; exact d3
  have e4 : decode c.code (pc + 4) = .ok (.ldc_w is, 3) := by rw [hb]; exact d4
  have hs9 : vk_R own is text sa z := vk_R.warm hW0 hstr
  obtain ⟨U, hsteps, hrun, hend, hW, hsame, ce, hce, hcc, hcv⟩ := ex_ctor X₁ hx htr (own := own) (ic := ic) x0 x1 x2 x5 hown9 h hfX hkX hcl9 (by rw [hhp, hT]; exact Nat.le_refl _) (msg := .ref sa) rfl
    (g := { method := m, pc := pc + 7, locals := ls, stack := .ref sa :: .ref T.heap.size :: .ref T.heap.size :: rest, locked := none }) rfl hsz rfl rfl (rest := rest) rfl (by rw [hb]; exact d6) (by rw [hb]; exact d9) hout hRf (by simp only [List.map_cons, List.sum_cons, hcat]; show 2 * 0 + _ + 81 ≤ _; omega) hlocks
  obtain ⟨f1, f2⟩ := vx_frame hsame
  rw [hhp] at f1 f2
  have hWs : s.WarmedH U.vm := State.WarmedH.trans hW0 hW
  have hcl : s.vm.findClass exC = some ce.cls := by
    rw [hvm] at hfX
    rw [hcc]
    exact hfX
  have hall : s.sameButNew ({ U with vm := s.vm } : State) locs mc ms := by
    subst hz
    obtain ⟨e1, e2⟩ := hsame
    rw [State.setFrames_setFrames] at e1
    have h2 : (T.setVm s.vm).sameButNew ({ U with vm := s.vm } : State) [] (0 + 1) (0 + 6) := ⟨e1, e2⟩
    have h3 := X.same.trans h2
    rw [List.append_nil] at h3
    exact h3.mono hc hs
  refine ⟨U, ?_, .threw T.heap.size, hrun, hend, Or.inr ⟨T.heap.size, rfl, exC, ce, locs, hX U hWs.alike f1 (fun q hq => f2 q hq (fun y hy => nomatch hy)), hce, hcv, hcl, hWs, hall, hf⟩⟩
  refine st1 _ ?_
  show Steps p.tables e below (T1.setTop { method := m, pc := pc + 3, locals := ls, stack := .ref T.heap.size :: rest, locked := none }) _
  jvm_step X₁.here [X₁.here.top, hx, e3, Value.category]
  exact X₁.ldcStringW hx (own := own) (text := text) (index := is) (a := sa) hown9 hs9.1 hs9.2 (g := { method := m, pc := pc + 4, locals := ls, stack := .ref T.heap.size :: .ref T.heap.size :: rest, locked := none }) rfl e4 _ hsteps
end EC
section EE
variable {l : Launch} {φ : Nat → Nat} {tc : Nat → ClassId} {D : va_G} {s0 : State} {μ : MM}
variable {p : Program} {e : Env} {R : Room} {s : State} {m : MethodId} {args : Array Value} {below : List Frame} {meth : Method} {c : Code}
variable {Q : State → Prop} {cc : ByteArray} {own : String} {LA : Nat → Prop} {nL kc ks pc : Nat} {ls : List (Nat × Value)} {st : List Value}
set_option maxRecDepth 20000 in
theorem ex_in : ∀ w ∈ Cond.classLink RX11 111 exC :: Cond.initialized exC :: (exA RX11 115 13 prog_29_method_4_code).filter vx_no, w ∈ tblA := by decide +kernel
theorem ex_ot : ∀ w ∈ Cond.classLink RX11 111 exC :: Cond.initialized exC :: (exA RX11 115 13 prog_29_method_4_code).filter vx_no, vx_ot w = true := by decide +kernel
theorem ex_0 : decode prog_29_method_4_code 0 = .ok (.aload_n 0, 1) := by decide +kernel
theorem ex_1 : decode prog_29_method_4_code 1 = .ok (.aload_n 1, 1) := by decide +kernel
theorem ex_2 : decode prog_29_method_4_code 2 = .ok (.invokespecial 13, 3) := by decide +kernel
theorem ex_5 : decode prog_29_method_4_code 5 = .ok (.return_, 1) := by decide +kernel
theorem x_throwS {Qr : Option Value → MM → Prop} {X : MM → Prop} {dR : Nat} (C : CX p s m args meth c φ tc D (AX φ) s0 cc RX11 nL) (hfl : l.stackTraces = false) (hxt : ∀ x ∈ c.exceptionTable.toList, False) {i is : Nat} (hi : i < nJS) (ho : ownJS.getD i "" = RX11) (hxi : idxJS.getD i 0 = is) (hst : st = []) (hd : 6 ≤ dR) (d0 : decode cc pc = .ok (.new 111, 3)) (d3 : decode cc (pc + 3) = .ok (.dup, 1)) (d4 : decode cc (pc + 4) = .ok (.ldc is, 2)) (d6 : decode cc (pc + 6) = .ok (.invokespecial 115, 3)) (d9 : decode cc (pc + 9) = .ok (.athrow, 1)) (h : X μ) : WX p l e (rmE dR) s m args below meth c φ tc D (AX φ) nL 0 0 (vx_MQ below (QX φ tc D Qr) (XCX φ tc D X) args s 1 6 (AX φ)) pc ls st μ := by
  subst hst
  intro H locs ar hP hR hS hl
  have hts := C.2.2.2.2.1
  refine ex_thrS (A := AX φ) (own := RX11) (text := txJS.getD i "") (is := is) C.1 C.2.1 hfl ex_0 ex_1 ex_2 ex_5 C.2.2.2.1 (fun w hw => hts _ (ex_in w hw)) (by rw [← ho, ← hxi]; exact (C.2.2.2.2.2.2.2.1.2.2.2.2.1 i hi).warm C.2.2.2.2.2.2.2.2.1) ex_ot (EX.X1 C) (EX.X2 C) hS (hl.1.trans C.2.2.1.symm) d0 d3 d4 d6 d9 (fun x hx => (hxt x hx).elim) hd (by show 0 + 82 ≤ 100 * dR; omega) (Nat.le_refl 1) (Nat.le_refl 6) C.2.2.2.2.2.2.1 (fun t hvm hz hq => ⟨rfl, μ, h, hP.kept (fun k x hx => hq x.1 ((hP k x hx).lt)), hR, Nat.le_trans hS.1 hz, fun q h1 h2 => ?_⟩) hS.2.2 (Nat.le_refl 1) (Nat.le_refl 6)
  rw [hq q (Nat.lt_of_lt_of_le h1 hS.1)]
  exact hS.2.1 q h1 h2
theorem x_throwSW {Qr : Option Value → MM → Prop} {X : MM → Prop} {dR : Nat} (C : CX p s m args meth c φ tc D (AX φ) s0 cc RX11 nL) (hfl : l.stackTraces = false) (hxt : ∀ x ∈ c.exceptionTable.toList, False) {i is : Nat} (hi : i < nJS) (ho : ownJS.getD i "" = RX11) (hxi : idxJS.getD i 0 = is) (hst : st = []) (hd : 6 ≤ dR) (d0 : decode cc pc = .ok (.new 111, 3)) (d3 : decode cc (pc + 3) = .ok (.dup, 1)) (d4 : decode cc (pc + 4) = .ok (.ldc_w is, 3)) (d6 : decode cc (pc + 7) = .ok (.invokespecial 115, 3)) (d9 : decode cc (pc + 10) = .ok (.athrow, 1)) (h : X μ) : WX p l e (rmE dR) s m args below meth c φ tc D (AX φ) nL 0 0 (vx_MQ below (QX φ tc D Qr) (XCX φ tc D X) args s 1 6 (AX φ)) pc ls st μ := by
  subst hst
  intro H locs ar hP hR hS hl
  have hts := C.2.2.2.2.1
  refine ex_thrSW (A := AX φ) (own := RX11) (text := txJS.getD i "") (is := is) C.1 C.2.1 hfl ex_0 ex_1 ex_2 ex_5 C.2.2.2.1 (fun w hw => hts _ (ex_in w hw)) (by rw [← ho, ← hxi]; exact (C.2.2.2.2.2.2.2.1.2.2.2.2.1 i hi).warm C.2.2.2.2.2.2.2.2.1) ex_ot (EX.X1 C) (EX.X2 C) hS (hl.1.trans C.2.2.1.symm) d0 d3 d4 d6 d9 (fun x hx => (hxt x hx).elim) hd (by show 0 + 82 ≤ 100 * dR; omega) (Nat.le_refl 1) (Nat.le_refl 6) C.2.2.2.2.2.2.1 (fun t hvm hz hq => ⟨rfl, μ, h, hP.kept (fun k x hx => hq x.1 ((hP k x hx).lt)), hR, Nat.le_trans hS.1 hz, fun q h1 h2 => ?_⟩) hS.2.2 (Nat.le_refl 1) (Nat.le_refl 6)
  rw [hq q (Nat.lt_of_lt_of_le h1 hS.1)]
  exact hS.2.1 q h1 h2
end EE
