section NN
/-- the cells that are made stand one behind the other -/
def PHI (φ : Nat → Nat) (s0 : State) : Prop := ∀ k, k < NC → φ k = s0.heap.size + k
/-- what isn't made yet is zero -/
def FR (n : Nat) (μ : MM) : Prop := ∀ k, n ≤ k → ∀ j, μ.1 k j = 0 ∧ μ.2.1 k j = 0 ∧ μ.2.2 k j = none
/-- what the tables say of arrays of references: no call changes it -/
def aoW : List Cond := [.arrayOver (.object RX0), .arrayOver (.object RX3), .arrayOver (.object RX5), .arrayOver (.object RX9), .arrayOver (.array .int), .arrayOver (.array .long)]
def AO (s : State) : Prop := ∀ w ∈ aoW, ∀ args : Array Value, w.before args s = true
theorem aoW_at : ∀ w ∈ aoW, w.overAtom = true := by
  intro w hw
  simp only [aoW, List.mem_cons, List.not_mem_nil, or_false] at hw
  rcases hw with rfl | rfl | rfl | rfl | rfl | rfl <;> rfl
theorem AO.moved {u U : State} (hvm : u.vm.Alike U.vm) (h : AO u) : AO U := by
  intro w hw args
  have h1 := Cond.overAtom_setVm (args := args) hvm w (aoW_at w hw) (h w hw args)
  simp only [aoW, List.mem_cons, List.not_mem_nil, or_false] at hw
  rcases hw with rfl | rfl | rfl | rfl | rfl | rfl <;> exact h1
variable {p : Program} {l : Launch} {e : Env} {R : Room} {s : State} {m : MethodId} {args : Array Value} {below : List Frame} {meth : Method} {c : Code}
variable {φ : Nat → Nat} {tc : Nat → ClassId} {D : va_G} {s0 : State} {Q : State → Prop} {cc : ByteArray} {own : String} {LA : Nat → Prop} {nn nL kc ks pc : Nat} {ls : List (Nat × Value)} {st : List Value} {μ : MM}
/-- a walk while the first nn cells are made -/
def WN (p : Program) (l : Launch) (e : Env) (R : Room) (s : State) (m : MethodId) (args : Array Value) (below : List Frame) (meth : Method) (c : Code) (φ : Nat → Nat) (tc : Nat → ClassId) (D : va_G) (LA : Nat → Prop) (s0 : State) (nn nL kc ks : Nat) (Q : State → Prop) (pc : Nat) (ls : List (Nat × Value)) (st : List Value) (μ : MM) : Prop :=
  ∀ (H : Heap) (locs : List Loc) (ar : Array Slot), va_P D vwCl (mw φ tc nn μ) H → H.size = s0.heap.size + nn → FR nn μ → va_S LA s.heap H locs → lv_has ar nL (ls.map (rl φ)) → W p l e R s m args below meth c H locs kc ks Q (F0 m pc ar (st.map (rv φ)))
theorem n_iconst (C : CX p s m args meth c φ tc D LA s0 cc own nL) {n : Int} {v : Int32} (hv : Int32.ofInt n = v) (d : decode cc pc = .ok (.iconst n, 1)) (h : WN p l e R s m args below meth c φ tc D LA s0 nn nL kc ks Q (pc + 1) (ls) (.int v :: st) μ) : WN p l e R s m args below meth c φ tc D LA s0 nn nL kc ks Q (pc) (ls) (st) μ := fun H locs ar hP hZ hF hS hl => lv_iconst C.1 C.2.1 d hv (h H locs ar hP hZ hF hS hl)
theorem n_bipush (C : CX p s m args meth c φ tc D LA s0 cc own nL) {n : Int} {v : Int32} (hv : (Int8.ofInt n).toInt32 = v) (d : decode cc pc = .ok (.bipush n, 2)) (h : WN p l e R s m args below meth c φ tc D LA s0 nn nL kc ks Q (pc + 2) (ls) (.int v :: st) μ) : WN p l e R s m args below meth c φ tc D LA s0 nn nL kc ks Q (pc) (ls) (st) μ := fun H locs ar hP hZ hF hS hl => lv_bipush C.1 C.2.1 d hv (h H locs ar hP hZ hF hS hl)
theorem n_sipush (C : CX p s m args meth c φ tc D LA s0 cc own nL) {n : Int} {v : Int32} (hv : (Int16.ofInt n).toInt32 = v) (d : decode cc pc = .ok (.sipush n, 3)) (h : WN p l e R s m args below meth c φ tc D LA s0 nn nL kc ks Q (pc + 3) (ls) (.int v :: st) μ) : WN p l e R s m args below meth c φ tc D LA s0 nn nL kc ks Q (pc) (ls) (st) μ := fun H locs ar hP hZ hF hS hl => lv_sipush C.1 C.2.1 d hv (h H locs ar hP hZ hF hS hl)
theorem n_astore_n (C : CX p s m args meth c φ tc D LA s0 cc own nL) {k : Fin 4} {i : Nat} {x : Nat} (ls' : List (Nat × Value)) (hi : (k : Nat) = i) (hn : i < nL) (hls : (i, .ref x) :: ls.filter (fun q => !(q.1 == i) && !(q.1 + 1 == i && q.2.category == 2)) = ls') (d : decode cc pc = .ok (.astore_n k, 1)) (h : WN p l e R s m args below meth c φ tc D LA s0 nn nL kc ks Q (pc + 1) (ls') (st) μ) : WN p l e R s m args below meth c φ tc D LA s0 nn nL kc ks Q (pc) (ls) (.ref x :: st) μ := fun H locs ar hP hZ hF hS hl => lv_astore_n C.1 C.2.1 d hi hl hn (rl_f1 hls) (fun ar hl => h H locs ar hP hZ hF hS hl)
theorem n_istore (C : CX p s m args meth c φ tc D LA s0 cc own nL) {i : Nat} {x : Int32} (ls' : List (Nat × Value)) (hn : i < nL) (hls : (i, .int x) :: ls.filter (fun q => !(q.1 == i) && !(q.1 + 1 == i && q.2.category == 2)) = ls') (d : decode cc pc = .ok (.istore i, 2)) (h : WN p l e R s m args below meth c φ tc D LA s0 nn nL kc ks Q (pc + 2) (ls') (st) μ) : WN p l e R s m args below meth c φ tc D LA s0 nn nL kc ks Q (pc) (ls) (.int x :: st) μ := fun H locs ar hP hZ hF hS hl => lv_istore C.1 C.2.1 d hl hn (rl_f1 hls) (fun ar hl => h H locs ar hP hZ hF hS hl)
theorem n_iload_n (C : CX p s m args meth c φ tc D LA s0 cc own nL) {k : Fin 4} {i : Nat} {x : Int32} (hi : (k : Nat) = i) (j : Nat) (hj : ls[j]? = some (i, .int x)) (d : decode cc pc = .ok (.iload_n k, 1)) (h : WN p l e R s m args below meth c φ tc D LA s0 nn nL kc ks Q (pc + 1) (ls) (.int x :: st) μ) : WN p l e R s m args below meth c φ tc D LA s0 nn nL kc ks Q (pc) (ls) (st) μ := fun H locs ar hP hZ hF hS hl => lv_iload_n C.1 C.2.1 d hi (lv_at hl j (rl_at hj)) (h H locs ar hP hZ hF hS hl)
theorem n_iload (C : CX p s m args meth c φ tc D LA s0 cc own nL) {i : Nat} {x : Int32} (j : Nat) (hj : ls[j]? = some (i, .int x)) (d : decode cc pc = .ok (.iload i, 2)) (h : WN p l e R s m args below meth c φ tc D LA s0 nn nL kc ks Q (pc + 2) (ls) (.int x :: st) μ) : WN p l e R s m args below meth c φ tc D LA s0 nn nL kc ks Q (pc) (ls) (st) μ := fun H locs ar hP hZ hF hS hl => lv_iload C.1 C.2.1 d (lv_at hl j (rl_at hj)) (h H locs ar hP hZ hF hS hl)
theorem n_istore_n (C : CX p s m args meth c φ tc D LA s0 cc own nL) {k : Fin 4} {i : Nat} {x : Int32} (ls' : List (Nat × Value)) (hi : (k : Nat) = i) (hn : i < nL) (hls : (i, .int x) :: ls.filter (fun q => !(q.1 == i) && !(q.1 + 1 == i && q.2.category == 2)) = ls') (d : decode cc pc = .ok (.istore_n k, 1)) (h : WN p l e R s m args below meth c φ tc D LA s0 nn nL kc ks Q (pc + 1) (ls') (st) μ) : WN p l e R s m args below meth c φ tc D LA s0 nn nL kc ks Q (pc) (ls) (.int x :: st) μ := fun H locs ar hP hZ hF hS hl => lv_istore_n C.1 C.2.1 d hi hl hn (rl_f1 hls) (fun ar hl => h H locs ar hP hZ hF hS hl)
theorem n_aload_n (C : CX p s m args meth c φ tc D LA s0 cc own nL) {k : Fin 4} {i : Nat} {x : Nat} (hi : (k : Nat) = i) (j : Nat) (hj : ls[j]? = some (i, .ref x)) (d : decode cc pc = .ok (.aload_n k, 1)) (h : WN p l e R s m args below meth c φ tc D LA s0 nn nL kc ks Q (pc + 1) (ls) (.ref x :: st) μ) : WN p l e R s m args below meth c φ tc D LA s0 nn nL kc ks Q (pc) (ls) (st) μ := fun H locs ar hP hZ hF hS hl => lv_aload_n C.1 C.2.1 d hi (lv_at hl j (rl_at hj)) (h H locs ar hP hZ hF hS hl)
theorem n_aload (C : CX p s m args meth c φ tc D LA s0 cc own nL) {i : Nat} {x : Nat} (j : Nat) (hj : ls[j]? = some (i, .ref x)) (d : decode cc pc = .ok (.aload i, 2)) (h : WN p l e R s m args below meth c φ tc D LA s0 nn nL kc ks Q (pc + 2) (ls) (.ref x :: st) μ) : WN p l e R s m args below meth c φ tc D LA s0 nn nL kc ks Q (pc) (ls) (st) μ := fun H locs ar hP hZ hF hS hl => lv_aload C.1 C.2.1 d (lv_at hl j (rl_at hj)) (h H locs ar hP hZ hF hS hl)
theorem n_iinc (C : CX p s m args meth c φ tc D LA s0 cc own nL) {i : Nat} {n : Int} {x v : Int32} (ls' : List (Nat × Value)) (j : Nat) (hj : ls[j]? = some (i, .int x)) (hv : x + Int32.ofInt n = v) (hn : i < nL) (hls : (i, .int v) :: ls.filter (fun q => !(q.1 == i) && !(q.1 + 1 == i && q.2.category == 2)) = ls') (d : decode cc pc = .ok (.iinc i n, 3)) (h : WN p l e R s m args below meth c φ tc D LA s0 nn nL kc ks Q (pc + 3) (ls') (st) μ) : WN p l e R s m args below meth c φ tc D LA s0 nn nL kc ks Q (pc) (ls) (st) μ := fun H locs ar hP hZ hF hS hl => lv_iinc C.1 C.2.1 d hl (rl_at hj) hv hn (rl_f1 hls) (fun ar hl => h H locs ar hP hZ hF hS hl)
theorem n_sub (ls' : List (Nat × Value)) (ps : List Nat) (hk : lv_pick ls ps = ls') (h : WN p l e R s m args below meth c φ tc D LA s0 nn nL kc ks Q (pc) (ls') (st) μ) : WN p l e R s m args below meth c φ tc D LA s0 nn nL kc ks Q (pc) (ls) (st) μ := fun H locs ar hP hZ hF hS hl => h H locs ar hP hZ hF hS (lv_sub hl ps (rl_pick ps hk))
theorem n_icmp_ge (C : CX p s m args meth c φ tc D LA s0 cc own nL) {x y : Int32} {off : Int} {tgt : Nat} (d : decode cc pc = .ok (.if_icmp .ge off, 3)) (ht : (pc : Int) + off = (tgt : Int)) (kt : y ≤ x → WN p l e R s m args below meth c φ tc D LA s0 nn nL kc ks Q (tgt) (ls) (st) μ) (kf : ¬ (y ≤ x) → WN p l e R s m args below meth c φ tc D LA s0 nn nL kc ks Q (pc + 3) (ls) (st) μ) : WN p l e R s m args below meth c φ tc D LA s0 nn nL kc ks Q (pc) (ls) (.int y :: .int x :: st) μ := fun H locs ar hP hZ hF hS hl => lv_icmp_ge C.1 C.2.1 d ht (fun q => kt q H locs ar hP hZ hF hS hl) (fun q => kf q H locs ar hP hZ hF hS hl)
theorem n_icmp_gt (C : CX p s m args meth c φ tc D LA s0 cc own nL) {x y : Int32} {off : Int} {tgt : Nat} (d : decode cc pc = .ok (.if_icmp .gt off, 3)) (ht : (pc : Int) + off = (tgt : Int)) (kt : y < x → WN p l e R s m args below meth c φ tc D LA s0 nn nL kc ks Q (tgt) (ls) (st) μ) (kf : ¬ (y < x) → WN p l e R s m args below meth c φ tc D LA s0 nn nL kc ks Q (pc + 3) (ls) (st) μ) : WN p l e R s m args below meth c φ tc D LA s0 nn nL kc ks Q (pc) (ls) (.int y :: .int x :: st) μ := fun H locs ar hP hZ hF hS hl => lv_icmp_gt C.1 C.2.1 d ht (fun q => kt q H locs ar hP hZ hF hS hl) (fun q => kf q H locs ar hP hZ hF hS hl)
theorem n_icmp_le (C : CX p s m args meth c φ tc D LA s0 cc own nL) {x y : Int32} {off : Int} {tgt : Nat} (d : decode cc pc = .ok (.if_icmp .le off, 3)) (ht : (pc : Int) + off = (tgt : Int)) (kt : x ≤ y → WN p l e R s m args below meth c φ tc D LA s0 nn nL kc ks Q (tgt) (ls) (st) μ) (kf : ¬ (x ≤ y) → WN p l e R s m args below meth c φ tc D LA s0 nn nL kc ks Q (pc + 3) (ls) (st) μ) : WN p l e R s m args below meth c φ tc D LA s0 nn nL kc ks Q (pc) (ls) (.int y :: .int x :: st) μ := fun H locs ar hP hZ hF hS hl => lv_icmp_le C.1 C.2.1 d ht (fun q => kt q H locs ar hP hZ hF hS hl) (fun q => kf q H locs ar hP hZ hF hS hl)
theorem n_goto (C : CX p s m args meth c φ tc D LA s0 cc own nL) {off : Int} {tgt : Nat} (d : decode cc pc = .ok (.goto off, 3)) (ht : (pc : Int) + off = (tgt : Int)) (h : WN p l e R s m args below meth c φ tc D LA s0 nn nL kc ks Q (tgt) (ls) (st) μ) : WN p l e R s m args below meth c φ tc D LA s0 nn nL kc ks Q (pc) (ls) (st) μ := fun H locs ar hP hZ hF hS hl => lv_goto C.1 C.2.1 d ht (h H locs ar hP hZ hF hS hl)
theorem n_dup (C : CX p s m args meth c φ tc D LA s0 cc own nL) {va : Value} (hva : va.category = 1) (d : decode cc pc = .ok (.dup, 1)) (h : WN p l e R s m args below meth c φ tc D LA s0 nn nL kc ks Q (pc + 1) (ls) (va :: va :: st) μ) : WN p l e R s m args below meth c φ tc D LA s0 nn nL kc ks Q (pc) (ls) (va :: st) μ := fun H locs ar hP hZ hF hS hl => lv_dup C.1 C.2.1 d ((rv_cat φ va).trans hva) (h H locs ar hP hZ hF hS hl)
theorem al_one {H H1 : Heap} (hph : φ nn = H.size) (hP : va_P D vwCl (mw φ tc nn μ) H) (z : ∀ q, q < H.size → H1[q]? = H[q]?) (e : va_at D vwCl (φ nn, ent φ tc μ nn) H1) : va_P D vwCl (mw φ tc (nn + 1) μ) H1 := by
  intro k q hk
  have hlt : k < nn + 1 := by
    have := (List.getElem?_eq_some_iff.mp hk).1
    simpa [mw] using this
  rw [mw_get hlt] at hk
  cases hk
  by_cases h : k < nn
  · exact (hP k _ (mw_get h)).kept (z _ ((hP k _ (mw_get h)).lt))
  · have hkn : k = nn := by omega
    rw [hkn]
    exact e
theorem al_S {H H1 : Heap} {locs : List Loc} (hS : va_S LA s.heap H locs) (h1 : H.size ≤ H1.size) (z : ∀ q, q < H.size → H1[q]? = H[q]?) : va_S LA s.heap H1 locs := ⟨Nat.le_trans hS.1 h1, fun x q1 q2 => (z x (Nat.lt_of_lt_of_le q1 hS.1)).trans (hS.2.1 x q1 q2), hS.2.2⟩
theorem fr_up {a b : Nat} (h : FR a μ) (hab : a ≤ b) : FR b μ := fun k hk j => h k (Nat.le_trans hab hk) j
theorem mw_Dn (hinj : ∀ i j, i < NC → j < NC → φ i = φ j → i = j) (hn : nn ≤ NC) : va_D (AX φ) (mw φ tc nn μ) := by
  have hat : ∀ (i : Nat) (p : Nat × va_E), (mw φ tc nn μ)[i]? = some p → i < nn ∧ p.1 = φ i := by
    intro i p hp
    by_cases hn : i < nn
    · rw [mw_get hn] at hp
      cases hp
      exact ⟨hn, rfl⟩
    · simp [mw, hn] at hp
  refine ⟨fun i j p q hp hq he => ?_, fun k q hq => ?_⟩
  · obtain ⟨h1, h2⟩ := hat i p hp
    obtain ⟨h3, h4⟩ := hat j q hq
    exact hinj i j (by omega) (by omega) (by rw [← h2, ← h4, he])
  · obtain ⟨h1, h2⟩ := hat k q hq
    exact ⟨k, by omega, h2⟩
def fv0 (ty : FieldType) : Value := match ty with
  | .int => .int 0
  | .boolean => .int 0
  | .long => .long 0
  | _ => .null
theorem fv0_ok : ∀ ci, ci < 13 → ∀ j, j < nfC ci → defaultValue (tyC ci j) = fv0 (tyC ci j) := by decide +kernel
theorem n_new (C : CX p s m args meth c φ tc D LA s0 cc own nL) (hφ : PHI φ s0) {ci idx : Nat} (hn : nn < NC) (hs : sh nn = ci) (hc : ci < 13) (w1 : Cond.classLink own idx (cnC ci) ∈ tblA) (w2 : Cond.instantiable (cnC ci) (nfC ci) ∈ tblA) (w3 : Cond.initialized (cnC ci) ∈ tblA) (hk : kc + 1 ≤ R.cells ∧ ks + nfC ci ≤ R.slots) (d : decode cc pc = .ok (.new idx, 3)) (h : WN p l e R s m args below meth c φ tc D LA s0 (nn + 1) nL (kc + 1) (ks + nfC ci) Q (pc + 3) ls (.ref nn :: st) μ) : WN p l e R s m args below meth c φ tc D LA s0 nn nL kc ks Q pc ls st μ := by
  intro H locs ar hP hZ hF hS hl
  obtain ⟨hx, hb, hml, hown, hts, hK, hlk, hG, hal, hsz, hhp, hLA, hLE⟩ := C
  have hKn := hK.1 ci _ (vwC ci hc)
  have hph : φ nn = H.size := by rw [hφ nn hn, hZ]
  refine W.newcK hx hb hown (hts _ w1) (hts _ w2) (hts _ w3) (g := F0 m pc ar (st.map (rv φ))) rfl d hk.1 hk.2 hKn.2.1 rfl fun H1 kC hkC e1 z1 o1 => ?_
  rw [← hph]
  refine h H1 locs ar (al_one hph hP o1 ?_) (by rw [z1, hZ]; omega) (fr_up hF (by omega)) (al_S hS (by omega) o1) hl
  rw [ent_obj hs hc]
  refine ⟨_, vwC ci hc, (u_born (tyC ci) hts (inC ci hc) hKn hkC (by rw [hph]; exact e1) (tyC_ok ci hc)).to (fun j hj => ?_)⟩
  rw [fv0_ok ci hc j hj]
  show fv0 (tyC ci j) = ((List.range (nfC ci)).map (fun j => fvl φ μ nn (tyC ci j) j)).getD j .null
  rw [List.getD_eq_getElem?_getD, rg_get hj]
  obtain ⟨f1, f2, f3⟩ := hF nn (Nat.le_refl nn) j
  show fv0 (tyC ci j) = fvl φ μ nn (tyC ci j) j
  unfold fv0 fvl
  rw [f1, f2, f3]
  cases tyC ci j <;> rfl
theorem n_newI (C : CX p s m args meth c φ tc D LA s0 cc own nL) (hφ : PHI φ s0) {v : Int32} {N : Nat} (hn : nn < NC) (hs : sh nn = 13) (hln : ln nn = N) (hv : ¬ v < 0) (hN : v.toNatClampNeg = N) (hbd : N * 4 ≤ 536870912) (w : Cond.arrayClass .int ∈ tblA) (hk : kc + 1 ≤ R.cells ∧ ks + N ≤ R.slots) (d : decode cc pc = .ok (.newarray .int, 2)) (h : WN p l e R s m args below meth c φ tc D LA s0 (nn + 1) nL (kc + 1) (ks + N) Q (pc + 2) ls (.ref nn :: st) μ) : WN p l e R s m args below meth c φ tc D LA s0 nn nL kc ks Q pc ls (.int v :: st) μ := by
  intro H locs ar hP hZ hF hS hl
  obtain ⟨hx, hb, hml, hown, hts, hK, hlk, hG, hal, hsz, hhp, hLA, hLE⟩ := C
  have hph : φ nn = H.size := by rw [hφ nn hn, hZ]
  refine va_newaK hx hb (atype := .int) (hts _ w) (g := F0 m pc ar ((.int v :: st).map (rv φ))) rfl d rfl hv hN hbd hk.1 hk.2 rfl fun H1 cA e1 z1 o1 hAr hNm => ?_
  have hcA : s.vm.findClass ("[" ++ (FieldType.int).toString) = some (tc 0) := (hK.2 0 (tc 0, .int) rfl).2
  have hcB : s.vm.findClass ("[" ++ (FieldType.int).toString) = some cA := hNm
  cases Option.some.inj (hcB.symm.trans hcA)
  rw [← hph]
  refine h H1 locs ar (al_one hph hP o1 ?_) (by rw [z1, hZ]; omega) (fr_up hF (by omega)) (al_S hS (by omega) o1) hl
  have hz : μ.1 nn = fun _ => 0 := funext fun j => (hF nn (Nat.le_refl nn) j).1
  rw [ent_ai hs]
  show H1[φ nn]? = some (vp_cell (tc 0) (ln nn, .inl (μ.1 nn)))
  rw [hph, hz, hln]
  exact e1
theorem n_newJ (C : CX p s m args meth c φ tc D LA s0 cc own nL) (hφ : PHI φ s0) {v : Int32} {N : Nat} (hn : nn < NC) (hs : sh nn = 14) (hln : ln nn = N) (hv : ¬ v < 0) (hN : v.toNatClampNeg = N) (hbd : N * 8 ≤ 536870912) (w : Cond.arrayClass .long ∈ tblA) (hk : kc + 1 ≤ R.cells ∧ ks + N ≤ R.slots) (d : decode cc pc = .ok (.newarray .long, 2)) (h : WN p l e R s m args below meth c φ tc D LA s0 (nn + 1) nL (kc + 1) (ks + N) Q (pc + 2) ls (.ref nn :: st) μ) : WN p l e R s m args below meth c φ tc D LA s0 nn nL kc ks Q pc ls (.int v :: st) μ := by
  intro H locs ar hP hZ hF hS hl
  obtain ⟨hx, hb, hml, hown, hts, hK, hlk, hG, hal, hsz, hhp, hLA, hLE⟩ := C
  have hph : φ nn = H.size := by rw [hφ nn hn, hZ]
  refine va_newaK hx hb (atype := .long) (hts _ w) (g := F0 m pc ar ((.int v :: st).map (rv φ))) rfl d rfl hv hN hbd hk.1 hk.2 rfl fun H1 cA e1 z1 o1 hAr hNm => ?_
  have hcA : s.vm.findClass ("[" ++ (FieldType.long).toString) = some (tc 1) := (hK.2 1 (tc 1, .long) rfl).2
  have hcB : s.vm.findClass ("[" ++ (FieldType.long).toString) = some cA := hNm
  cases Option.some.inj (hcB.symm.trans hcA)
  rw [← hph]
  refine h H1 locs ar (al_one hph hP o1 ?_) (by rw [z1, hZ]; omega) (fr_up hF (by omega)) (al_S hS (by omega) o1) hl
  have hz : μ.2.1 nn = fun _ => 0 := funext fun j => (hF nn (Nat.le_refl nn) j).2.1
  rw [ent_aj hs]
  show H1[φ nn]? = some (vp_cell (tc 1) (ln nn, .inr (.inl (μ.2.1 nn))))
  rw [hph, hz, hln]
  exact e1
theorem n_newZ (C : CX p s m args meth c φ tc D LA s0 cc own nL) (hφ : PHI φ s0) {v : Int32} {N : Nat} (hn : nn < NC) (hs : sh nn = 15) (hln : ln nn = N) (hv : ¬ v < 0) (hN : v.toNatClampNeg = N) (hbd : N * 1 ≤ 536870912) (w : Cond.arrayClass .boolean ∈ tblA) (hk : kc + 1 ≤ R.cells ∧ ks + N ≤ R.slots) (d : decode cc pc = .ok (.newarray .boolean, 2)) (h : WN p l e R s m args below meth c φ tc D LA s0 (nn + 1) nL (kc + 1) (ks + N) Q (pc + 2) ls (.ref nn :: st) μ) : WN p l e R s m args below meth c φ tc D LA s0 nn nL kc ks Q pc ls (.int v :: st) μ := by
  intro H locs ar hP hZ hF hS hl
  obtain ⟨hx, hb, hml, hown, hts, hK, hlk, hG, hal, hsz, hhp, hLA, hLE⟩ := C
  have hph : φ nn = H.size := by rw [hφ nn hn, hZ]
  refine va_newaK hx hb (atype := .boolean) (hts _ w) (g := F0 m pc ar ((.int v :: st).map (rv φ))) rfl d rfl hv hN hbd hk.1 hk.2 rfl fun H1 cA e1 z1 o1 hAr hNm => ?_
  have hcA : s.vm.findClass ("[" ++ (FieldType.boolean).toString) = some (tc 2) := (hK.2 2 (tc 2, .boolean) rfl).2
  have hcB : s.vm.findClass ("[" ++ (FieldType.boolean).toString) = some cA := hNm
  cases Option.some.inj (hcB.symm.trans hcA)
  rw [← hph]
  refine h H1 locs ar (al_one hph hP o1 ?_) (by rw [z1, hZ]; omega) (fr_up hF (by omega)) (al_S hS (by omega) o1) hl
  have hz : μ.1 nn = fun _ => 0 := funext fun j => (hF nn (Nat.le_refl nn) j).1
  rw [ent_az hs]
  show H1[φ nn]? = some (vp_cell (tc 2) (ln nn, .inl (μ.1 nn)))
  rw [hph, hz, hln]
  exact e1
theorem n_anew (C : CX p s m args meth c φ tc D LA s0 cc own nL) (hφ : PHI φ s0) (hAO : AO s0) {v : Int32} {N kd idx : Nat} {E : String} (hn : nn < NC) (hs : sh nn = kd) (h16 : 15 < kd) (hln : ln nn = N) (hty : (tyL tc)[kd - 13]? = some (tc (kd - 13), .object E)) (hao : Cond.arrayOver (.object E) ∈ aoW) (hv : ¬ v < 0) (hN : v.toNatClampNeg = N) (hbd : N * 4 ≤ 536870912) (w : Cond.classLink own idx E ∈ tblA) (hk : kc + 1 ≤ R.cells ∧ ks + N ≤ R.slots) (d : decode cc pc = .ok (.anewarray idx, 3)) (h : WN p l e R s m args below meth c φ tc D LA s0 (nn + 1) nL (kc + 1) (ks + N) Q (pc + 3) ls (.ref nn :: st) μ) : WN p l e R s m args below meth c φ tc D LA s0 nn nL kc ks Q pc ls (.int v :: st) μ := by
  subst hN
  intro H locs ar hP hZ hF hS hl
  obtain ⟨hx, hb, hml, hown, hts, hK, hlk, hG, hal, hsz, hhp, hLA, hLE⟩ := C
  have hph : φ nn = H.size := by rw [hφ nn hn, hZ]
  refine W.anew hx hb hown (hts _ w) (AO.moved hal.alike hAO _ hao _) (g := F0 m pc ar ((.int v :: st).map (rv φ))) rfl d rfl hv hbd hk.1 hk.2 fun cA kA comp f1 f2 f3 f4 => ?_
  obtain ⟨kA', comp', g1, g2, g3, g4⟩ : va_RA s (tc (kd - 13)) (.object E) := (hK.2 (kd - 13) _ hty).2
  cases Option.some.inj (f1.symm.trans g4)
  generalize hH1 : H.push ({ cls := tc (kd - 13), slots := Array.replicate v.toNatClampNeg .null, vm := .none } : Cell) = H1
  have z1 : H1.size = H.size + 1 := by rw [← hH1, Array.size_push]
  have e1 : H1[H.size]? = some (arrV (tc (kd - 13)) v.toNatClampNeg (fun _ => .null)) := by rw [← hH1, Array.getElem?_push_size, ← arrV_new]
  have o1 : ∀ q : Nat, q < H.size → H1[q]? = H[q]? := fun q hq => by rw [← hH1, Array.getElem?_push, if_neg (Nat.ne_of_lt hq)]
  rw [← hph]
  refine h H1 locs ar (al_one hph hP o1 ?_) (by rw [z1, hZ]; omega) (fr_up hF (by omega)) (al_S hS (by omega) o1) hl
  rw [ent_ar (by omega), hs]
  show H1[φ nn]? = some (vp_cell (tc (kd - 13)) (ln nn, .inr (.inr (.inr (.inr (fun i => (μ.2.2 nn i).map φ))))))
  rw [vp_cell_q, hph, hln, e1]
  refine congrArg (fun f => some (arrV (tc (kd - 13)) v.toNatClampNeg f)) ?_
  funext j
  rw [(hF nn (Nat.le_refl nn) j).2.2]
  rfl
theorem sized {H : Heap} {locs : List Loc} {g : JFrame} (k : H.size ≤ s.heap.size + kc → W p l e R s m args below meth c H locs kc ks Q g) : W p l e R s m args below meth c H locs kc ks Q g := fun T hT X => k (by have h := X.heapSize; rw [hT] at h; exact h) T hT X
theorem S_here {H : Heap} {locs : List Loc} (hS : va_S LA s.heap H locs) : va_S LA H H locs := ⟨Nat.le_refl _, fun _ _ _ => rfl, hS.2.2⟩
theorem S_trans {H H1 : Heap} {locs locs1 : List Loc} (hS : va_S LA s.heap H locs) (h1 : va_S LA H H1 locs1) : va_S LA s.heap H1 locs1 := ⟨Nat.le_trans hS.1 h1.1, fun q q1 q2 => (h1.2.1 q (Nat.lt_of_lt_of_le q1 hS.1) q2).trans (hS.2.1 q q1 q2), h1.2.2⟩
theorem fr_sR {k j : Nat} {v : Option Nat} (h : FR nn μ) (hk : k < nn) : FR nn (sR μ k j v) := fun q hq i => ⟨(h q hq i).1, (h q hq i).2.1, by
  show up2 μ.2.2 k j v q i = none
  rw [up2_ne (by omega)]
  exact (h q hq i).2.2⟩
theorem fr_sI {k j : Nat} {v : Int32} (h : FR nn μ) (hk : k < nn) : FR nn (sI μ k j v) := fun q hq i => ⟨by
  show up2 μ.1 k j v q i = 0
  rw [up2_ne (by omega)]
  exact (h q hq i).1, (h q hq i).2.1, (h q hq i).2.2⟩
theorem n_putR (C : CX p s m args meth c φ tc D LA s0 cc own nL) (hn : nn ≤ NC) (hs : s.heap.size + kc ≤ s0.heap.size + nn) {ci j k r idx : Nat} (hkn : k < nn) (hsh : sh k = ci) (hc : ci < 13) (hj : j < nfC ci) (hty : ∀ (φ : Nat → Nat) (μ : MM) (k : Nat), fvl φ μ k (tyC ci j) j = va_rf ((μ.2.2 k j).map φ)) (hf : (txC ci j).2.2.2 = false) (hnr : ∀ a, narrow (tyC ci j) (.ref a) = .ref a) (hft : ∀ a, fits (tyC ci j) (.ref a) = true) (w : Cond.fieldLink own idx (txC ci j).1 (txC ci j).2.1 (txC ci j).2.2.1 ∈ tblA) (d : decode cc pc = .ok (.putfield idx, 3)) (h : WN p l e R s m args below meth c φ tc D LA s0 nn nL kc ks Q (pc + 3) ls st (sR μ k j (some r))) : WN p l e R s m args below meth c φ tc D LA s0 nn nL kc ks Q pc ls (.ref r :: .ref k :: st) μ := by
  intro H locs ar hP hZ hF hS hl
  obtain ⟨hx, hb, hml, hown, hts, hK, hlk, hG, hal, hsz, hhp, hLA, hLE⟩ := C
  refine va_put (D := D) (cl := vwCl) (Ts := tblA) (C := cnC ci) (T := txC ci) (N := nfC ci) (ci := ci) (ref := (txC ci j).1) hx hb hts (inC ci hc) (tyC ci) (tyC_ok ci hc) (nmC ci hc) hown hK hP ((mw_Dn hG.2.1 hn).weaken (fun _ _ _ h9 => hLA _ h9)) (S_here hS) k ((mw_get hkn).trans (by rw [ent_obj hsh hc])) (vwC ci hc) j hj (hts _ w) (fun _ h9 => h9) hf (tyC_ok ci hc j hj) (hnr _) (hft _) (by simp; exact hj) d (fun H1 locs1 hP1 hD1 hS1 => sized (fun hb1 => h H1 locs1 ar ?_ (by have := hS1.1; omega) (fr_sR hF hkn) (S_trans hS hS1) hl))
  rw [mw_set (μ := μ) (μ' := sR μ k j (some r)) (fun i hi => ent_congr rfl rfl (up2_ne hi))] at hP1
  · exact hP1
  · rw [ent_obj hsh hc]
    refine congrArg (fun t => Sum.inr (ci, t)) (rg_set (fun i hi => ?_) ?_).symm
    · simp [fvl, sR, up2, hi]
    · rw [hty]
      simp [sR, up2, va_rf, rv]
theorem n_putF (C : CX p s m args meth c φ tc D LA s0 cc own nL) (hn : nn ≤ NC) (hs : s.heap.size + kc ≤ s0.heap.size + nn) (hnm : meth.name = "<init>") {ci j k r idx : Nat} (hdo : (txC ci j).1 = own) (hkn : k < nn) (hsh : sh k = ci) (hc : ci < 13) (hj : j < nfC ci) (hty : ∀ (φ : Nat → Nat) (μ : MM) (k : Nat), fvl φ μ k (tyC ci j) j = va_rf ((μ.2.2 k j).map φ)) (hf : (txC ci j).2.2.2 = true) (hnr : ∀ a, narrow (tyC ci j) (.ref a) = .ref a) (hft : ∀ a, fits (tyC ci j) (.ref a) = true) (w : Cond.fieldLink own idx (txC ci j).1 (txC ci j).2.1 (txC ci j).2.2.1 ∈ tblA) (d : decode cc pc = .ok (.putfield idx, 3)) (h : WN p l e R s m args below meth c φ tc D LA s0 nn nL kc ks Q (pc + 3) ls st (sR μ k j (some r))) : WN p l e R s m args below meth c φ tc D LA s0 nn nL kc ks Q pc ls (.ref r :: .ref k :: st) μ := by
  intro H locs ar hP hZ hF hS hl
  obtain ⟨hx, hb, hml, hown, hts, hK, hlk, hG, hal, hsz, hhp, hLA, hLE⟩ := C
  refine va_putF (D := D) (cl := vwCl) (Ts := tblA) (C := cnC ci) (T := txC ci) (N := nfC ci) (ci := ci) (ref := (txC ci j).1) hx hb hts (inC ci hc) (tyC ci) (tyC_ok ci hc) (nmC ci hc) hown hK hP ((mw_Dn hG.2.1 hn).weaken (fun _ _ _ h9 => hLA _ h9)) (S_here hS) k ((mw_get hkn).trans (by rw [ent_obj hsh hc])) (vwC ci hc) j hj (hts _ w) (fun _ h9 => h9) hf hnm hdo (tyC_ok ci hc j hj) (hnr _) (hft _) (by simp; exact hj) d (fun H1 locs1 hP1 hD1 hS1 => sized (fun hb1 => h H1 locs1 ar ?_ (by have := hS1.1; omega) (fr_sR hF hkn) (S_trans hS hS1) hl))
  rw [mw_set (μ := μ) (μ' := sR μ k j (some r)) (fun i hi => ent_congr rfl rfl (up2_ne hi))] at hP1
  · exact hP1
  · rw [ent_obj hsh hc]
    refine congrArg (fun t => Sum.inr (ci, t)) (rg_set (fun i hi => ?_) ?_).symm
    · simp [fvl, sR, up2, hi]
    · rw [hty]
      simp [sR, up2, va_rf, rv]
theorem n_putI (C : CX p s m args meth c φ tc D LA s0 cc own nL) (hn : nn ≤ NC) (hs : s.heap.size + kc ≤ s0.heap.size + nn) {ci j k idx : Nat} (hkn : k < nn) (hsh : sh k = ci) (hc : ci < 13) (hj : j < nfC ci) {v : Int32} (hty : tyC ci j = .int) (hf : (txC ci j).2.2.2 = false) (w : Cond.fieldLink own idx (txC ci j).1 (txC ci j).2.1 (txC ci j).2.2.1 ∈ tblA) (d : decode cc pc = .ok (.putfield idx, 3)) (h : WN p l e R s m args below meth c φ tc D LA s0 nn nL kc ks Q (pc + 3) ls st (sI μ k j v)) : WN p l e R s m args below meth c φ tc D LA s0 nn nL kc ks Q pc ls (.int v :: .ref k :: st) μ := by
  intro H locs ar hP hZ hF hS hl
  obtain ⟨hx, hb, hml, hown, hts, hK, hlk, hG, hal, hsz, hhp, hLA, hLE⟩ := C
  refine va_put (D := D) (cl := vwCl) (Ts := tblA) (C := cnC ci) (T := txC ci) (N := nfC ci) (ci := ci) (ref := (txC ci j).1) hx hb hts (inC ci hc) (tyC ci) (tyC_ok ci hc) (nmC ci hc) hown hK hP ((mw_Dn hG.2.1 hn).weaken (fun _ _ _ h9 => hLA _ h9)) (S_here hS) k ((mw_get hkn).trans (by rw [ent_obj hsh hc])) (vwC ci hc) j hj (hts _ w) (fun _ h9 => h9) hf (tyC_ok ci hc j hj) (by rw [hty]; rfl) (by rw [hty]; rfl) (by simp; exact hj) d (fun H1 locs1 hP1 hD1 hS1 => sized (fun hb1 => h H1 locs1 ar ?_ (by have := hS1.1; omega) (fr_sI hF hkn) (S_trans hS hS1) hl))
  rw [mw_set (μ := μ) (μ' := sI μ k j v) (fun i hi => ent_congr (up2_ne hi) rfl rfl)] at hP1
  · exact hP1
  · rw [ent_obj hsh hc]
    refine congrArg (fun t => Sum.inr (ci, t)) (rg_set (fun i hi => ?_) ?_).symm
    · simp [fvl, sI, up2, hi]
    · simp [fvl, hty, sI, up2, rv]
theorem n_iast (C : CX p s m args meth c φ tc D LA s0 cc own nL) (hn : nn ≤ NC) (hs : s.heap.size + kc ≤ s0.heap.size + nn) {k j : Nat} {i x : Int32} (hkn : k < nn) (hsh : sh k = 13) (hin : vp_in i (ln k)) (hj : i.toNatClampNeg = j) (d : decode cc pc = .ok (.iastore, 1)) (h : WN p l e R s m args below meth c φ tc D LA s0 nn nL kc ks Q (pc + 1) ls st (sI μ k j x)) : WN p l e R s m args below meth c φ tc D LA s0 nn nL kc ks Q pc ls (.int x :: .int i :: .ref k :: st) μ := by
  subst hj
  intro H locs ar hP hZ hF hS hl
  obtain ⟨hx, hb, hml, hown, hts, hK, hlk, hG, hal, hsz, hhp, hLA, hLE⟩ := C
  refine va_iast hx hb hK hP ((mw_Dn hG.2.1 hn).weaken (fun _ _ _ h9 => hLA _ h9)) (S_here hS) k 0 ((mw_get hkn).trans (by rw [ent_ai hsh])) rfl hin d (fun H1 locs1 hP1 hD1 hS1 => sized (fun hb1 => h H1 locs1 ar ?_ (by have := hS1.1; omega) (fr_sI hF hkn) (S_trans hS hS1) hl))
  rw [mw_set (μ := μ) (μ' := sI μ k i.toNatClampNeg x) (fun j9 hj9 => ent_congr (up2_ne hj9) rfl rfl)] at hP1
  · exact hP1
  · rw [ent_ai hsh]
    refine congrArg (fun t9 => (Sum.inl (tc 0, ln k, Sum.inl t9) : va_E)) ?_
    funext j9
    by_cases hj9 : j9 = i.toNatClampNeg <;> simp [sI, up2, upd, hj9]
theorem n_aast (C : CX p s m args meth c φ tc D LA s0 cc own nL) (hn : nn ≤ NC) (hs : s.heap.size + kc ≤ s0.heap.size + nn) {k r ci kd : Nat} {i : Int32} (hkn : k < nn) (hrn : r < nn) (hsh : sh k = kd) (h16 : 15 < kd) (hsr : sh r = ci) (hc : ci < 13) (hty : (tyL tc)[kd - 13]? = some (tc (kd - 13), .object (cnC ci))) (hin : vp_in i (ln k)) (d : decode cc pc = .ok (.aastore, 1)) (h : WN p l e R s m args below meth c φ tc D LA s0 nn nL kc ks Q (pc + 1) ls st (sR μ k i.toNatClampNeg (some r))) : WN p l e R s m args below meth c φ tc D LA s0 nn nL kc ks Q pc ls (.ref r :: .int i :: .ref k :: st) μ := by
  intro H locs ar hP hZ hF hS hl
  obtain ⟨hx, hb, hml, hown, hts, hK, hlk, hG, hal, hsz, hhp, hLA, hLE⟩ := C
  refine va_astq hx hb hK hP ((mw_Dn hG.2.1 hn).weaken (fun _ _ _ h9 => hLA _ h9)) (S_here hS) k (kd - 13) r ci (r := (cnC ci, txC ci, nfC ci)) ((mw_get hkn).trans (by rw [ent_ar (by omega), hsh])) hty ((mw_get hrn).trans (by rw [ent_obj hsr hc])) (vwC ci hc) hin d (fun H1 locs1 hP1 hD1 hS1 => sized (fun hb1 => h H1 locs1 ar ?_ (by have := hS1.1; omega) (fr_sR hF hkn) (S_trans hS hS1) hl))
  rw [mw_set (μ := μ) (μ' := sR μ k i.toNatClampNeg (some r)) (fun j9 hj9 => ent_congr rfl rfl (up2_ne hj9))] at hP1
  · exact hP1
  · rw [ent_ar (by omega), hsh]
    refine congrArg (fun t9 => (Sum.inl (tc (kd - 13), ln k, Sum.inr (Sum.inr (Sum.inr (Sum.inr t9)))) : va_E)) ?_
    funext j9
    by_cases hj9 : j9 = i.toNatClampNeg <;> simp [sR, up2, va_up, hj9]
theorem n_getR (C : CX p s m args meth c φ tc D LA s0 cc own nL) {ci j k r idx : Nat} (hkn : k < nn) (hsh : sh k = ci) (hc : ci < 13) (hj : j < nfC ci) (hty : ∀ (φ : Nat → Nat) (μ : MM) (k : Nat), fvl φ μ k (tyC ci j) j = va_rf ((μ.2.2 k j).map φ)) (hr : gR μ k j = some r) (w : Cond.fieldLink own idx (txC ci j).1 (txC ci j).2.1 (txC ci j).2.2.1 ∈ tblA) (d : decode cc pc = .ok (.getfield idx, 3)) (h : WN p l e R s m args below meth c φ tc D LA s0 nn nL kc ks Q (pc + 3) ls (.ref r :: st) μ) : WN p l e R s m args below meth c φ tc D LA s0 nn nL kc ks Q pc ls (.ref k :: st) μ := by
  intro H locs ar hP hZ hF hS hl
  obtain ⟨hx, hb, hml, hown, hts, hK, hlk, hG, hal, hsz, hhp, hLA, hLE⟩ := C
  refine va_get (D := D) (cl := vwCl) (Ts := tblA) (C := cnC ci) (T := txC ci) (N := nfC ci) (ci := ci) (ref := (txC ci j).1) hx hb hts (inC ci hc) hown hK hP k ((mw_get hkn).trans (by rw [ent_obj hsh hc])) (vwC ci hc) j hj (hts _ w) (fun _ h9 => h9) (v := .ref (φ r)) ((rg_get hj).trans ?_) d (h H locs ar hP hZ hF hS hl)
  rw [hty]
  have h8 : μ.2.2 k j = some r := hr
  rw [h8]
  rfl
def rmN (d cs sl : Nat) : Room := { frames := d, cells := cs, slots := sl, locals := 100 * d }
theorem rNr {dR cs sl : Nat} : dR ≤ (rmN dR cs sl).frames ∧ 100 * dR ≤ (rmN dR cs sl).locals := ⟨Nat.le_refl _, Nat.le_refl _⟩
def PNx (φ : Nat → Nat) (tc : Nat → ClassId) (D : va_G) (s0 : State) (nn : Nat) (μ : MM) (U : State) : Prop := s0.WarmedH U.vm ∧ s0.heap.size ≤ U.heap.size ∧ (∀ q, q < s0.heap.size → U.heap[q]? = s0.heap[q]?) ∧ va_P D vwCl (mw φ tc nn μ) U.heap ∧ (U.heap.size = s0.heap.size + nn ∧ FR nn μ) ∧ ∀ w ∈ tblN, va_Nw w U
def QNx (φ : Nat → Nat) (tc : Nat → ClassId) (D : va_G) (s0 : State) (n' : Nat) (Q : MM → Prop) : Array Value → State → Outcome → State → Prop := fun _ st oc t => ∃ μ' : MM, oc = .returned none ∧ Q μ' ∧ va_P D vwCl (mw φ tc n' μ') t.heap ∧ (t.heap.size = s0.heap.size + n' ∧ FR n' μ') ∧ va_F (AX φ) st t
/-- a constructor's contract: of cells nn and on it makes those up to n' -/
def MN (l : Launch) (φ : Nat → Nat) (tc : Nat → ClassId) (D : va_G) (s0 : State) (d cs sl : Nat) (y : MethodName) (cc : ByteArray) (nL : Nat) (as : List Value) (nn : Nat) (μ : MM) (n' : Nat) (Q : MM → Prop) : Prop :=
  Met l y (wsY y cc nL none) (rmN d cs sl) (va_Pc (as.map (rv φ)) (PNx φ tc D s0 nn μ)) (QNx φ tc D s0 n' Q) cs sl (AX φ)
theorem MN.of {dR cs sl nn n' : Nat} {y : MethodName} {cc : ByteArray} {nL : Nat} {as : List Value} {Q : MM → Prop} {own : String} (hG : GX φ tc D s0) (hy : plainName y.cls = true) (ho : y.cls = own) (hi : y.name = "<init>") (hn : (lg_sl (as.map (rv φ))).length ≤ nL)
    (k : ∀ (p : Program) (e : Env) (s : State) (m : MethodId) (args : Array Value) (below : List Frame) (meth : Method) (c : Code), CX p s m args meth c φ tc D (AX φ) s0 cc own nL → meth.sig.returnType = none → meth.name = "<init>" → s.heap.size = s0.heap.size + nn →
      WN p l e (rmN dR cs sl) s m args below meth c φ tc D (AX φ) s0 nn nL 0 0 (MQ below (QNx φ tc D s0 n' Q) args s cs sl (AX φ)) 0 (lv_args 0 as) [] μ) : MN l φ tc D s0 dR cs sl y cc nL as nn μ n' Q := by
  refine Met.ofW (cc := cc) (maxL := nL) (ret := none) hy rfl ?_
  intro p e s m args below meth c s₁ B hml hv
  obtain ⟨rfl, hal, hsz, hhp, hP, ⟨hZ, hF⟩, hN⟩ := hv
  have hts : ∀ w ∈ wsY y cc nL none, w.before _ s = true := atoms_spec (ws := wsY y cc nL none) B.pre
  have hown : s.vm.findClass own = some m.cls := by rw [← ho]; exact findClass_of_methodNamed B.named
  have C : CX p s m (as.map (rv φ)).toArray meth c φ tc D (AX φ) s0 cc own nL := ⟨B.exec, B.bytes, hml, hown, fun w hw => (tbl_gn hw).elim (fun q => hts w (List.mem_cons_of_mem _ q)) (fun q => va_Nw.use (nest_on (List.mem_filter.mp q).2) (hN w q)), va_K.moved hal.alike hG.1, B.notSynchronized, hG, hal, hsz, hhp, fun _ h => h, fun q ⟨k, h1, h2⟩ => by rw [h2]; exact hG.2.2.1 k h1⟩
  have hl := lv_entry (as.map (rv φ)) hn
  rw [lg_entry_eq]
  exact k p e s m _ below meth c C B.returns ((name_of_methodNamed B.named B.method).1.trans hi) hZ s.heap [] _ hP hZ hF va_S.rf (by rw [rl_args]; exact hl)
theorem PNx.blind {as : List Value} : FrameBlind (va_Pc as (PNx φ tc D s0 nn μ)) := fun a U g mk h => ⟨h.1, h.2.1, h.2.2.1, h.2.2.2.1, h.2.2.2.2.1, h.2.2.2.2.2.1, fun w hw => va_Nw.same (u := U) (U := U.calling g mk a) (nest_on (List.mem_filter.mp hw).2) rfl (h.2.2.2.2.2.2 w hw)⟩
theorem n_pre {H : Heap} {locs : List Loc} (C : CX p s m args meth c φ tc D LA s0 cc own nL) (hP : va_P D vwCl (mw φ tc nn μ) H) (hZ : H.size = s0.heap.size + nn) (hF : FR nn μ) (hS : va_S LA s.heap H locs) {U : State} (hU : U.heap = H) (hW : s.WarmedH U.vm) : PNx φ tc D s0 nn μ U := by
  obtain ⟨-, -, -, -, hts, -, -, hG, hal, hsz, hhp, hLA, hLE⟩ := C
  refine ⟨State.WarmedH.trans hal hW, by rw [hU]; exact Nat.le_trans hsz hS.1, fun q hq => ?_, by rw [hU]; exact hP, ⟨by rw [hU]; exact hZ, hF⟩, fun w hw => nest_warm (List.mem_filter.mp hw).2 hW (hts w (tbl_na hw))⟩
  rw [hU, hS.2.1 q (Nat.lt_of_lt_of_le hq hsz) (fun z => by have h8 : s0.heap.size ≤ q := hLE q z; omega)]
  exact hhp q hq
theorem n_ret {Q' : MM → Prop} {cs sl : Nat} (C : CX p s m args meth c φ tc D (AX φ) s0 cc own nL) (hr : meth.sig.returnType = none) (d : decode cc pc = .ok (.return_, 1)) (h : Q' μ) : WN p l e R s m args below meth c φ tc D (AX φ) s0 nn nL cs sl (MQ below (QNx φ tc D s0 nn Q') args s cs sl (AX φ)) pc ls [] μ := by
  intro H locs ar hP hZ hF hS hl
  have hlocks := C.2.2.2.2.2.2.1
  exact W.vret C.1 C.2.1 hr (fun t ht hW => ⟨μ, rfl, h, by rw [ht]; exact hP, ⟨by rw [ht]; exact hZ, hF⟩, hS.F ht⟩) hS.2.2 d
theorem n_obj (C : CX p s m args meth c φ tc D LA s0 cc own nL) {idx k : Nat} (wl : Cond.methodLink own idx Lib.objectInit ∈ tblA) (wi : Cond.instanceMethod Lib.objectInit ∈ tblA) (wc : Cond.code Lib.objectInit ⟨#[0xb1]⟩ 1 none ∈ tblA) (hf : 1 ≤ R.frames) (hlo : (st.map fun v => v.category).sum + 12 ≤ R.locals) (d : decode cc pc = .ok (.invokespecial idx, 3)) (h : WN p l e R s m args below meth c φ tc D LA s0 nn nL kc ks Q (pc + 3) ls st μ) : WN p l e R s m args below meth c φ tc D LA s0 nn nL kc ks Q pc ls (.ref k :: st) μ := by
  intro H locs ar hP hZ hF hS hl
  have hts := C.2.2.2.2.1
  exact W.objInit C.1 C.2.1 C.2.2.2.1 (hts _ wl) (hts _ wi) (hts _ wc) (g := F0 m pc ar ((.ref k :: st).map (rv φ))) rfl (hl.1.trans C.2.2.1.symm) rfl d hf (by show 2 * 0 + ((st.map (rv φ)).map fun v => v.category).sum + 12 ≤ _; rw [rv_sum]; omega) (h H locs ar hP hZ hF hS hl)
theorem n_call {y : MethodName} {by_ : ByteArray} {mL : Nat} {dC dR idx n n' cs sl k : Nat} {as : List Value} {Q' : MM → Prop} (C : CX p s m args meth c φ tc D LA s0 cc own nL) (hR0 : dR ≤ R.frames ∧ 100 * dR ≤ R.locals) (hkc : kc + cs ≤ R.cells ∧ ks + sl ≤ R.slots) (hd : dC + 1 ≤ dR) (hm81 : mL ≤ 81) (wi : Cond.instanceMethod y ∈ tblA) (wl : Cond.methodLink own idx y ∈ tblA) (wc : Cond.code y by_ mL none ∈ tblG) (wini : Cond.initialized y.cls ∈ tblA) (hy : y.cls ≠ "java/lang/invoke/MethodHandle" ∧ y.cls ≠ "java/lang/invoke/VarHandle") (hin : y.name = "<init>") (hn : (parseMethodDescriptor y.desc).map (fun d => d.parameters.length) = some n) (has : as.length = n) (hst : (st.map fun v => v.category).sum ≤ 8) (d : decode cc pc = .ok (.invokespecial idx, 3)) (hM : MN l φ tc D s0 dC cs sl y by_ mL (.ref k :: as) nn μ n' Q')
    (kk : ∀ μ' : MM, Q' μ' → WN p l e R s m args below meth c φ tc D LA s0 n' nL (kc + cs) (ks + sl) Q (pc + 3) ls st μ') : WN p l e R s m args below meth c φ tc D LA s0 nn nL kc ks Q pc ls (as.reverse ++ .ref k :: st) μ := by
  intro H locs ar hP hZ hF hS hl
  have hts := C.2.2.2.2.1
  have hLA := C.2.2.2.2.2.2.2.2.2.2.2.1
  have hG := wsY_good wc
  have hb1 : (rmN dC cs sl).frames + 1 ≤ R.frames ∧ 8 + (mL + 11) + (rmN dC cs sl).locals ≤ R.locals := ⟨Nat.le_trans hd hR0.1, by show 8 + (mL + 11) + 100 * dC ≤ R.locals; have := hR0.2; omega⟩
  have hsig : ∀ sig, parseMethodDescriptor y.desc = some sig → n = sig.parameters.length := fun sig h => by
    rw [h] at hn
    exact (Option.some.inj hn).symm
  have hr := va_runI (l := l) (e := e) (below := below) (meth := meth) (H := H) (locs := locs) (cells := kc) (slots := ks) (mc := cs) (ms := sl) (b := φ k) (As := as.map (rv φ)) (rest := st.map (rv φ)) (g := F0 m pc ar ((as.reverse ++ .ref k :: st).map (rv φ))) ⟨C.1, C.2.1, C.2.2.1, C.2.2.2.1, hts⟩ hM ⟨⟨rfl, rfl, hb1.1, hb1.2, pay_in (fun w hw => hts w (tbl_ga hw)) hG, List.mem_cons_self, hts _ (tbl_ga wc), hts _ wini, hy, hsig, hts _ wl⟩, hin, hts _ wi⟩ ⟨PNx.blind, fun U hU hW => ⟨rfl, n_pre C hP hZ hF hS hU hW⟩⟩ rfl (by rw [List.length_map]; exact has) hl.1 (by rw [List.map_append, List.map_reverse, List.map_cons]; rfl) (lv_room (by rw [rv_sum]; exact hst)) d hkc
  intro T hT X
  obtain ⟨v, st₀, t, T', L, h0, X', hL, e1, e2, ⟨μ', hv, hQ, hP1, ⟨hZ1, hF1⟩, hz, hk9⟩, stp⟩ := hr T hT X
  have hv' : v = none := by injection hv
  subst hv'
  rw [h0] at hz hk9
  obtain ⟨t2, a1, b1⟩ := kk μ' hQ T'.heap (locs ++ L) ar (by rw [e1]; exact hP1) (by rw [e1]; exact hZ1) hF1 ⟨Nat.le_trans hS.1 (by rw [e1]; exact hz), fun q h1 h2 => by rw [e1, hk9 q (Nat.lt_of_lt_of_le h1 hS.1) (fun z => h2 (hLA q z))]; exact hS.2.1 q h1 h2, fun q hq => (List.mem_append.mp hq).elim (hS.2.2 q) (fun z => hLA _ (hL q z))⟩ hl T' rfl X'
  exact ⟨t2, stp t2 a1, b1⟩
theorem n_callN {host : String} {y : MethodName} {by_ : ByteArray} {mL : Nat} {dC dR idx n n' cs sl k : Nat} {as : List Value} {Q' : MM → Prop} (C : CX p s m args meth c φ tc D LA s0 cc own nL) (hR0 : dR ≤ R.frames ∧ 100 * dR ≤ R.locals) (hkc : kc + cs ≤ R.cells ∧ ks + sl ≤ R.slots) (hd : dC + 1 ≤ dR) (hm81 : mL ≤ 81) (wi : Cond.instanceMethod y ∈ tblA) (wl : Cond.methodLinkNest own idx y host ∈ tblA) (wc : Cond.code y by_ mL none ∈ tblG) (wini : Cond.initialized y.cls ∈ tblA) (hy : y.cls ≠ "java/lang/invoke/MethodHandle" ∧ y.cls ≠ "java/lang/invoke/VarHandle") (hin : y.name = "<init>") (hn : (parseMethodDescriptor y.desc).map (fun d => d.parameters.length) = some n) (has : as.length = n) (hst : (st.map fun v => v.category).sum ≤ 8) (d : decode cc pc = .ok (.invokespecial idx, 3)) (hM : MN l φ tc D s0 dC cs sl y by_ mL (.ref k :: as) nn μ n' Q')
    (kk : ∀ μ' : MM, Q' μ' → WN p l e R s m args below meth c φ tc D LA s0 n' nL (kc + cs) (ks + sl) Q (pc + 3) ls st μ') : WN p l e R s m args below meth c φ tc D LA s0 nn nL kc ks Q pc ls (as.reverse ++ .ref k :: st) μ := by
  intro H locs ar hP hZ hF hS hl
  have hts := C.2.2.2.2.1
  have hLA := C.2.2.2.2.2.2.2.2.2.2.2.1
  have hG := wsY_good wc
  have hb1 : (rmN dC cs sl).frames + 1 ≤ R.frames ∧ 8 + (mL + 11) + (rmN dC cs sl).locals ≤ R.locals := ⟨Nat.le_trans hd hR0.1, by show 8 + (mL + 11) + 100 * dC ≤ R.locals; have := hR0.2; omega⟩
  have hsig : ∀ sig, parseMethodDescriptor y.desc = some sig → n = sig.parameters.length := fun sig h => by
    rw [h] at hn
    exact (Option.some.inj hn).symm
  have hr := va_runIN (l := l) (e := e) (below := below) (meth := meth) (H := H) (locs := locs) (cells := kc) (slots := ks) (mc := cs) (ms := sl) (b := φ k) (As := as.map (rv φ)) (rest := st.map (rv φ)) (g := F0 m pc ar ((as.reverse ++ .ref k :: st).map (rv φ))) ⟨C.1, C.2.1, C.2.2.1, C.2.2.2.1, hts⟩ hM ⟨⟨⟨rfl, rfl, hb1.1, hb1.2, pay_in (fun w hw => hts w (tbl_ga hw)) hG, List.mem_cons_self⟩, hts _ (tbl_ga wc), hts _ wini, hy, hsig, hts _ wl⟩, hin, hts _ wi⟩ ⟨PNx.blind, fun U hU hW => ⟨rfl, n_pre C hP hZ hF hS hU hW⟩⟩ rfl (by rw [List.length_map]; exact has) hl.1 (by rw [List.map_append, List.map_reverse, List.map_cons]; rfl) (lv_room (by rw [rv_sum]; exact hst)) d hkc
  intro T hT X
  obtain ⟨v, st₀, t, T', L, h0, X', hL, e1, e2, ⟨μ', hv, hQ, hP1, ⟨hZ1, hF1⟩, hz, hk9⟩, stp⟩ := hr T hT X
  have hv' : v = none := by injection hv
  subst hv'
  rw [h0] at hz hk9
  obtain ⟨t2, a1, b1⟩ := kk μ' hQ T'.heap (locs ++ L) ar (by rw [e1]; exact hP1) (by rw [e1]; exact hZ1) hF1 ⟨Nat.le_trans hS.1 (by rw [e1]; exact hz), fun q h1 h2 => by rw [e1, hk9 q (Nat.lt_of_lt_of_le h1 hS.1) (fun z => h2 (hLA q z))]; exact hS.2.1 q h1 h2, fun q hq => (List.mem_append.mp hq).elim (hS.2.2 q) (fun z => hLA _ (hL q z))⟩ hl T' rfl X'
  exact ⟨t2, stp t2 a1, b1⟩
def mulR (μ : MM) (k N : Nat) : MM := (μ.1, μ.2.1, fun a j => if a = k ∧ j < N then some (k + 1 + j) else μ.2.2 a j)
theorem n_multiI (C : CX p s m args meth c φ tc D LA s0 cc own nL) (hφ : PHI φ s0) (hAO : AO s0) {v1 v2 : Int32} {N M idx : Nat} (hn : nn + N < NC) (hsh : sh nn = 20) (hln : ln nn = N) (hin : ∀ j, j < N → sh (nn + 1 + j) = 13 ∧ ln (nn + 1 + j) = M) (h1 : ¬ v1 < 0) (h2 : ¬ v2 < 0) (hN : v1.toNatClampNeg = N) (hM : v2.toNatClampNeg = M) (hb1 : N * 4 ≤ 536870912) (hb2 : M * 4 ≤ 536870912) (hb3 : M ≤ 536870912) (w : Cond.classLink own idx "[[I" ∈ tblA) (wa : Cond.arrayClass .int ∈ tblA) (hk : kc + (1 + N) ≤ R.cells ∧ ks + (N + N * M) ≤ R.slots) (d : decode cc pc = .ok (.multianewarray idx 2, 4)) (h : WN p l e R s m args below meth c φ tc D LA s0 (nn + 1 + N) nL (kc + 1 + N) (ks + N + N * M) Q (pc + 4) ls (.ref nn :: st) (mulR μ nn N)) : WN p l e R s m args below meth c φ tc D LA s0 nn nL kc ks Q pc ls (.int v2 :: .int v1 :: st) μ := by
  intro H locs ar hP hZ hF hS hl
  obtain ⟨hx, hb, hml, hown, hts, hK, hlk, hG, hal, hsz, hhp, hLA, hLE⟩ := C
  have hph : φ nn = H.size := by rw [hφ nn (by omega), hZ]
  have hcl : (Cond.classLink own idx ("[" ++ (FieldType.array .int).toString)).before args s = true := by
    rw [show "[" ++ (FieldType.array .int).toString = "[[I" by decide +kernel]
    exact hts _ w
  refine w_multi hx hb (ty := .int) hown hcl (AO.moved hal.alike hAO _ (by simp [aoW]) _) (hts _ wa) h1 h2 hN hM hb1 hb2 hb3 rfl rfl hk.1 hk.2 d fun H1 cA comp f1 f2 z1 o1 eA eI => ?_
  have hcA : s.vm.findClass ("[" ++ (FieldType.array .int).toString) = some (tc 7) := (hK.2 7 (tc 7, .array .int) rfl).2
  have hcB : s.vm.findClass ("[" ++ (FieldType.int).toString) = some (tc 0) := (hK.2 0 (tc 0, .int) rfl).2
  have hcC : s.vm.findClass ("[" ++ (FieldType.int).toString) = some comp := f2
  cases Option.some.inj (f1.symm.trans hcA)
  cases Option.some.inj (hcC.symm.trans hcB)
  rw [← hph]
  refine h H1 _ ar ?_ (by rw [z1, hZ]; omega) ?_ ⟨Nat.le_trans hS.1 (by omega), fun x q1 q2 => (o1 x (Nat.lt_of_lt_of_le q1 hS.1)).trans (hS.2.1 x q1 q2), fun x hx9 => ?_⟩ hl
  · intro k q hk9
    have hlt : k < nn + 1 + N := by
      have := (List.getElem?_eq_some_iff.mp hk9).1
      simpa [mw] using this
    rw [mw_get hlt] at hk9
    cases hk9
    have hne : ∀ i, i ≠ nn → ent φ tc (mulR μ nn N) i = ent φ tc μ i := fun i hi => ent_congr rfl rfl (funext fun b => if_neg (fun z => hi z.1))
    by_cases ha : k < nn
    · rw [hne k (by omega)]
      exact (hP k _ (mw_get ha)).kept (o1 _ ((hP k _ (mw_get ha)).lt))
    · by_cases hb9 : k = nn
      · rw [hb9, ent_ar (by omega), hsh]
        show H1[φ nn]? = some (vp_cell (tc 7) (ln nn, .inr (.inr (.inr (.inr (fun i => ((mulR μ nn N).2.2 nn i).map φ))))))
        rw [vp_cell_q, hph, hln, eA]
        refine congrArg (fun f => some (arrV (tc 7) N f)) ?_
        funext j
        show _ = va_rf ((if nn = nn ∧ j < N then some (nn + 1 + j) else μ.2.2 nn j).map φ)
        by_cases hj : j < N
        · rw [if_pos hj, if_pos ⟨rfl, hj⟩]
          show Value.ref (H.size + 1 + j) = .ref (φ (nn + 1 + j))
          rw [hφ (nn + 1 + j) (by omega), hZ]
          have e9 : s0.heap.size + nn + 1 + j = s0.heap.size + (nn + 1 + j) := by omega
          exact congrArg Value.ref e9
        · rw [if_neg hj, if_neg (fun z => hj z.2), (hF nn (Nat.le_refl nn) j).2.2]
          rfl
      · obtain ⟨j, hj⟩ : ∃ j, k = nn + 1 + j := ⟨k - (nn + 1), by omega⟩
        subst hj
        obtain ⟨s1, s2⟩ := hin j (by omega)
        rw [hne _ (by omega), ent_ai s1]
        show H1[φ (nn + 1 + j)]? = some (vp_cell (tc 0) (ln (nn + 1 + j), .inl (μ.1 (nn + 1 + j))))
        have hz : μ.1 (nn + 1 + j) = fun _ => 0 := funext fun i => (hF (nn + 1 + j) (by omega) i).1
        rw [hz, s2, hφ (nn + 1 + j) (by omega), show s0.heap.size + (nn + 1 + j) = H.size + 1 + j by omega]
        exact eI j (by omega)
  · intro k hk9 j
    refine ⟨(hF k (by omega) j).1, (hF k (by omega) j).2.1, ?_⟩
    show (if k = nn ∧ j < N then some (nn + 1 + j) else μ.2.2 k j) = none
    rw [if_neg (fun z => by omega)]
    exact (hF k (by omega) j).2.2
  · rcases List.mem_append.mp hx9 with h9 | h9
    · exact hS.2.2 x h9
    · obtain ⟨j, -, rfl⟩ := List.mem_map.mp h9
      exact hLA _ ⟨nn, by omega, rfl⟩
theorem n_multiJ (C : CX p s m args meth c φ tc D LA s0 cc own nL) (hφ : PHI φ s0) (hAO : AO s0) {v1 v2 : Int32} {N M idx : Nat} (hn : nn + N < NC) (hsh : sh nn = 21) (hln : ln nn = N) (hin : ∀ j, j < N → sh (nn + 1 + j) = 14 ∧ ln (nn + 1 + j) = M) (h1 : ¬ v1 < 0) (h2 : ¬ v2 < 0) (hN : v1.toNatClampNeg = N) (hM : v2.toNatClampNeg = M) (hb1 : N * 4 ≤ 536870912) (hb2 : M * 8 ≤ 536870912) (hb3 : M ≤ 536870912) (w : Cond.classLink own idx "[[J" ∈ tblA) (wa : Cond.arrayClass .long ∈ tblA) (hk : kc + (1 + N) ≤ R.cells ∧ ks + (N + N * M) ≤ R.slots) (d : decode cc pc = .ok (.multianewarray idx 2, 4)) (h : WN p l e R s m args below meth c φ tc D LA s0 (nn + 1 + N) nL (kc + 1 + N) (ks + N + N * M) Q (pc + 4) ls (.ref nn :: st) (mulR μ nn N)) : WN p l e R s m args below meth c φ tc D LA s0 nn nL kc ks Q pc ls (.int v2 :: .int v1 :: st) μ := by
  intro H locs ar hP hZ hF hS hl
  obtain ⟨hx, hb, hml, hown, hts, hK, hlk, hG, hal, hsz, hhp, hLA, hLE⟩ := C
  have hph : φ nn = H.size := by rw [hφ nn (by omega), hZ]
  have hcl : (Cond.classLink own idx ("[" ++ (FieldType.array .long).toString)).before args s = true := by
    rw [show "[" ++ (FieldType.array .long).toString = "[[J" by decide +kernel]
    exact hts _ w
  refine w_multi hx hb (ty := .long) hown hcl (AO.moved hal.alike hAO _ (by simp [aoW]) _) (hts _ wa) h1 h2 hN hM hb1 hb2 hb3 rfl rfl hk.1 hk.2 d fun H1 cA comp f1 f2 z1 o1 eA eI => ?_
  have hcA : s.vm.findClass ("[" ++ (FieldType.array .long).toString) = some (tc 8) := (hK.2 8 (tc 8, .array .long) rfl).2
  have hcB : s.vm.findClass ("[" ++ (FieldType.long).toString) = some (tc 1) := (hK.2 1 (tc 1, .long) rfl).2
  have hcC : s.vm.findClass ("[" ++ (FieldType.long).toString) = some comp := f2
  cases Option.some.inj (f1.symm.trans hcA)
  cases Option.some.inj (hcC.symm.trans hcB)
  rw [← hph]
  refine h H1 _ ar ?_ (by rw [z1, hZ]; omega) ?_ ⟨Nat.le_trans hS.1 (by omega), fun x q1 q2 => (o1 x (Nat.lt_of_lt_of_le q1 hS.1)).trans (hS.2.1 x q1 q2), fun x hx9 => ?_⟩ hl
  · intro k q hk9
    have hlt : k < nn + 1 + N := by
      have := (List.getElem?_eq_some_iff.mp hk9).1
      simpa [mw] using this
    rw [mw_get hlt] at hk9
    cases hk9
    have hne : ∀ i, i ≠ nn → ent φ tc (mulR μ nn N) i = ent φ tc μ i := fun i hi => ent_congr rfl rfl (funext fun b => if_neg (fun z => hi z.1))
    by_cases ha : k < nn
    · rw [hne k (by omega)]
      exact (hP k _ (mw_get ha)).kept (o1 _ ((hP k _ (mw_get ha)).lt))
    · by_cases hb9 : k = nn
      · rw [hb9, ent_ar (by omega), hsh]
        show H1[φ nn]? = some (vp_cell (tc 8) (ln nn, .inr (.inr (.inr (.inr (fun i => ((mulR μ nn N).2.2 nn i).map φ))))))
        rw [vp_cell_q, hph, hln, eA]
        refine congrArg (fun f => some (arrV (tc 8) N f)) ?_
        funext j
        show _ = va_rf ((if nn = nn ∧ j < N then some (nn + 1 + j) else μ.2.2 nn j).map φ)
        by_cases hj : j < N
        · rw [if_pos hj, if_pos ⟨rfl, hj⟩]
          show Value.ref (H.size + 1 + j) = .ref (φ (nn + 1 + j))
          rw [hφ (nn + 1 + j) (by omega), hZ]
          have e9 : s0.heap.size + nn + 1 + j = s0.heap.size + (nn + 1 + j) := by omega
          exact congrArg Value.ref e9
        · rw [if_neg hj, if_neg (fun z => hj z.2), (hF nn (Nat.le_refl nn) j).2.2]
          rfl
      · obtain ⟨j, hj⟩ : ∃ j, k = nn + 1 + j := ⟨k - (nn + 1), by omega⟩
        subst hj
        obtain ⟨s1, s2⟩ := hin j (by omega)
        rw [hne _ (by omega), ent_aj s1]
        show H1[φ (nn + 1 + j)]? = some (vp_cell (tc 1) (ln (nn + 1 + j), .inr (.inl (μ.2.1 (nn + 1 + j)))))
        have hz : μ.2.1 (nn + 1 + j) = fun _ => 0 := funext fun i => (hF (nn + 1 + j) (by omega) i).2.1
        rw [hz, s2, hφ (nn + 1 + j) (by omega), show s0.heap.size + (nn + 1 + j) = H.size + 1 + j by omega]
        exact eI j (by omega)
  · intro k hk9 j
    refine ⟨(hF k (by omega) j).1, (hF k (by omega) j).2.1, ?_⟩
    show (if k = nn ∧ j < N then some (nn + 1 + j) else μ.2.2 k j) = none
    rw [if_neg (fun z => by omega)]
    exact (hF k (by omega) j).2.2
  · rcases List.mem_append.mp hx9 with h9 | h9
    · exact hS.2.2 x h9
    · obtain ⟨j, -, rfl⟩ := List.mem_map.mp h9
      exact hLA _ ⟨nn, by omega, rfl⟩
end NN
