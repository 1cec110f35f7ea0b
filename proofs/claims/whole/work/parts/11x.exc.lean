section EE
variable {l : Launch} {φ : Nat → Nat} {tc : Nat → ClassId} {D : va_G} {s0 : State} {μ : MM}
def rmE (d : Nat) : Room := { frames := d, cells := 1, slots := 6, locals := 100 * d }
theorem rE {dR : Nat} : dR ≤ (rmE dR).frames ∧ 100 * dR ≤ (rmE dR).locals := ⟨Nat.le_refl _, Nat.le_refl _⟩
def XCX (φ : Nat → Nat) (tc : Nat → ClassId) (D : va_G) (X : MM → Prop) : String → State → State → Prop := fun E st t => E = "java/util/NoSuchElementException" ∧ ∃ μ' : MM, X μ' ∧ va_P D vwCl (mw φ tc NC μ') t.heap ∧ SR μ' ∧ va_F (AX φ) st t
/-- the contract of a method that may throw -/
def MXX (l : Launch) (φ : Nat → Nat) (tc : Nat → ClassId) (D : va_G) (s0 : State) (d : Nat) (y : MethodName) (cc : ByteArray) (nL : Nat) (ret : Option FieldType) (as : List Value) (μ : MM) (Qr : Option Value → MM → Prop) (X : MM → Prop) : Prop :=
  vx_Met l y (wsY y cc nL ret) (rmE d) (va_Pc (as.map (rv φ)) (PX φ tc D s0 μ)) (QX φ tc D Qr) (XCX φ tc D X) 1 6 (AX φ)
theorem MXX.of {dR : Nat} {y : MethodName} {cc : ByteArray} {nL : Nat} {ret : Option FieldType} {as : List Value} {Qr : Option Value → MM → Prop} {X : MM → Prop} {own : String} (hG : GX φ tc D s0) (hy : plainName y.cls = true) (ho : y.cls = own) (hn : (lg_sl (as.map (rv φ))).length ≤ nL)
    (k : ∀ (p : Program) (e : Env) (s : State) (m : MethodId) (args : Array Value) (below : List Frame) (meth : Method) (c : Code), CX p s m args meth c φ tc D (AX φ) s0 cc own nL → meth.sig.returnType = ret → (∀ x ∈ c.exceptionTable.toList, False) →
      WX p l e (rmE dR) s m args below meth c φ tc D (AX φ) nL 0 0 (vx_MQ below (QX φ tc D Qr) (XCX φ tc D X) args s 1 6 (AX φ)) 0 (lv_args 0 as) [] μ) : MXX l φ tc D s0 dR y cc nL ret as μ Qr X := by
  refine vx_ofW (cc := cc) (maxL := nL) (ret := ret) hy rfl ?_
  intro p e s m args below meth c s₁ B hml hxt hv
  obtain ⟨rfl, hal, hsz, hhp, hP, hR, hN⟩ := hv
  have hts : ∀ w ∈ wsY y cc nL ret, w.before _ s = true := atoms_spec (ws := wsY y cc nL ret) B.pre
  have hown : s.vm.findClass own = some m.cls := by rw [← ho]; exact findClass_of_methodNamed B.named
  have C : CX p s m (as.map (rv φ)).toArray meth c φ tc D (AX φ) s0 cc own nL := ⟨B.exec, B.bytes, hml, hown, fun w hw => (tbl_gn hw).elim (fun q => hts w (List.mem_cons_of_mem _ q)) (fun q => va_Nw.use (nest_on (List.mem_filter.mp q).2) (hN w q)), va_K.moved hal.alike hG.1, B.notSynchronized, hG, hal, hsz, hhp, fun _ h => h, fun q ⟨k, h1, h2⟩ => by rw [h2]; exact hG.2.2.1 k h1⟩
  have hl := lv_entry (as.map (rv φ)) hn
  rw [lg_entry_eq]
  exact k p e s m _ below meth c C B.returns hxt s.heap [] _ hP hR va_S.rf (by rw [rl_args]; exact hl)
variable {p : Program} {e : Env} {R : Room} {s : State} {m : MethodId} {args : Array Value} {below : List Frame} {meth : Method} {c : Code}
variable {Q : State → Prop} {cc : ByteArray} {own : String} {LA : Nat → Prop} {nL kc ks pc : Nat} {ls : List (Nat × Value)} {st : List Value}
theorem x_iretX {Qr : Option Value → MM → Prop} {X : MM → Prop} (C : CX p s m args meth c φ tc D (AX φ) s0 cc own nL) {v : Int32} (hr : meth.sig.returnType = some .int) (d : decode cc pc = .ok (.ireturn, 1)) (h : Qr (some (.int v)) μ) : WX p l e R s m args below meth c φ tc D (AX φ) nL 0 0 (vx_MQ below (QX φ tc D Qr) (XCX φ tc D X) args s 1 6 (AX φ)) pc ls [.int v] μ := by
  intro H locs ar hP hR hS hl
  have hlocks := C.2.2.2.2.2.2.1
  exact W.widen (Nat.zero_le 1) (Nat.zero_le 6) (vx_ret (W.iret (v := v) C.1 C.2.1 hr (fun t ht hW => ⟨some (.int v), μ, rfl, h, by rw [ht]; exact hP, hR, hS.F ht⟩) hS.2.2 d))
theorem x_lretX {Qr : Option Value → MM → Prop} {X : MM → Prop} (C : CX p s m args meth c φ tc D (AX φ) s0 cc own nL) {v : Int64} (hr : meth.sig.returnType = some .long) (d : decode cc pc = .ok (.lreturn, 1)) (h : Qr (some (.long v)) μ) : WX p l e R s m args below meth c φ tc D (AX φ) nL 0 0 (vx_MQ below (QX φ tc D Qr) (XCX φ tc D X) args s 1 6 (AX φ)) pc ls [.long v] μ := by
  intro H locs ar hP hR hS hl
  have hlocks := C.2.2.2.2.2.2.1
  exact W.widen (Nat.zero_le 1) (Nat.zero_le 6) (vx_ret (W.lret (v := v) C.1 C.2.1 hr (fun t ht hW => ⟨some (.long v), μ, rfl, h, by rw [ht]; exact hP, hR, hS.F ht⟩) hS.2.2 d))
def exN : List String := ["java/lang/RuntimeException", "java/lang/Exception"]
set_option maxRecDepth 20000 in
theorem ex_in : ∀ w ∈ Cond.classLink RX11 111 "java/util/NoSuchElementException" :: Cond.initialized "java/util/NoSuchElementException" :: vx_atS RX11 115 "java/util/NoSuchElementException" exN, w ∈ tblA := by decide +kernel
theorem ex_ot : ∀ w ∈ Cond.classLink RX11 111 "java/util/NoSuchElementException" :: Cond.initialized "java/util/NoSuchElementException" :: vx_atS RX11 115 "java/util/NoSuchElementException" exN, vx_ot w = true := by decide +kernel
theorem x_throwS {Qr : Option Value → MM → Prop} {X : MM → Prop} {dR : Nat} (C : CX p s m args meth c φ tc D (AX φ) s0 cc RX11 nL) (hfl : l.stackTraces = false) (hxt : ∀ x ∈ c.exceptionTable.toList, False) {i is : Nat} (hi : i < nJS) (ho : ownJS.getD i "" = RX11) (hxi : idxJS.getD i 0 = is) (hst : st = []) (hd : 6 ≤ dR) (d0 : decode cc pc = .ok (.new 111, 3)) (d3 : decode cc (pc + 3) = .ok (.dup, 1)) (d4 : decode cc (pc + 4) = .ok (.ldc is, 2)) (d6 : decode cc (pc + 6) = .ok (.invokespecial 115, 3)) (d9 : decode cc (pc + 9) = .ok (.athrow, 1)) (h : X μ) : WX p l e (rmE dR) s m args below meth c φ tc D (AX φ) nL 0 0 (vx_MQ below (QX φ tc D Qr) (XCX φ tc D X) args s 1 6 (AX φ)) pc ls st μ := by
  subst hst
  intro H locs ar hP hR hS hl
  have hts := C.2.2.2.2.1
  refine vx_throwS (A := AX φ) (own := RX11) (cls := "java/util/NoSuchElementException") (text := txJS.getD i "") (names := exN) (is := is) C.1 C.2.1 hfl C.2.2.2.1 (by decide +kernel) (by decide +kernel) (hts _ (ex_in _ List.mem_cons_self)) (hts _ (ex_in _ (List.mem_cons_of_mem _ List.mem_cons_self))) (by rw [← ho, ← hxi]; exact (C.2.2.2.2.2.2.2.1.2.2.2.2.1 i hi).warm C.2.2.2.2.2.2.2.2.1) (fun w hw => hts _ (ex_in _ (List.mem_cons_of_mem _ (List.mem_cons_of_mem _ hw)))) ex_ot (EX.X1 C) (EX.X2 C) hS (hl.1.trans C.2.2.1.symm) d0 d3 d4 d6 d9 (fun x hx => (hxt x hx).elim) hd (by show 0 + (13 * 3 + 43) ≤ 100 * dR; omega) (Nat.le_refl 1) (Nat.le_refl 6) C.2.2.2.2.2.2.1 (fun t hvm hz hq => ⟨rfl, μ, h, hP.kept (fun k x hx => hq x.1 ((hP k x hx).lt)), hR, Nat.le_trans hS.1 hz, fun q h1 h2 => ?_⟩) hS.2.2 (Nat.le_refl 1) (Nat.le_refl 6)
  rw [hq q (Nat.lt_of_lt_of_le h1 hS.1)]
  exact hS.2.1 q h1 h2
theorem x_throwSW {Qr : Option Value → MM → Prop} {X : MM → Prop} {dR : Nat} (C : CX p s m args meth c φ tc D (AX φ) s0 cc RX11 nL) (hfl : l.stackTraces = false) (hxt : ∀ x ∈ c.exceptionTable.toList, False) {i is : Nat} (hi : i < nJS) (ho : ownJS.getD i "" = RX11) (hxi : idxJS.getD i 0 = is) (hst : st = []) (hd : 6 ≤ dR) (d0 : decode cc pc = .ok (.new 111, 3)) (d3 : decode cc (pc + 3) = .ok (.dup, 1)) (d4 : decode cc (pc + 4) = .ok (.ldc_w is, 3)) (d6 : decode cc (pc + 7) = .ok (.invokespecial 115, 3)) (d9 : decode cc (pc + 10) = .ok (.athrow, 1)) (h : X μ) : WX p l e (rmE dR) s m args below meth c φ tc D (AX φ) nL 0 0 (vx_MQ below (QX φ tc D Qr) (XCX φ tc D X) args s 1 6 (AX φ)) pc ls st μ := by
  subst hst
  intro H locs ar hP hR hS hl
  have hts := C.2.2.2.2.1
  refine vx_throwSW (A := AX φ) (own := RX11) (cls := "java/util/NoSuchElementException") (text := txJS.getD i "") (names := exN) (is := is) C.1 C.2.1 hfl C.2.2.2.1 (by decide +kernel) (by decide +kernel) (hts _ (ex_in _ List.mem_cons_self)) (hts _ (ex_in _ (List.mem_cons_of_mem _ List.mem_cons_self))) (by rw [← ho, ← hxi]; exact (C.2.2.2.2.2.2.2.1.2.2.2.2.1 i hi).warm C.2.2.2.2.2.2.2.2.1) (fun w hw => hts _ (ex_in _ (List.mem_cons_of_mem _ (List.mem_cons_of_mem _ hw)))) ex_ot (EX.X1 C) (EX.X2 C) hS (hl.1.trans C.2.2.1.symm) d0 d3 d4 d6 d9 (fun x hx => (hxt x hx).elim) hd (by show 0 + (13 * 3 + 43) ≤ 100 * dR; omega) (Nat.le_refl 1) (Nat.le_refl 6) C.2.2.2.2.2.2.1 (fun t hvm hz hq => ⟨rfl, μ, h, hP.kept (fun k x hx => hq x.1 ((hP k x hx).lt)), hR, Nat.le_trans hS.1 hz, fun q h1 h2 => ?_⟩) hS.2.2 (Nat.le_refl 1) (Nat.le_refl 6)
  rw [hq q (Nat.lt_of_lt_of_le h1 hS.1)]
  exact hS.2.1 q h1 h2
end EE
