/-! the law's start (what stands down to lw_At is the given skeleton's text) -/
/-! THE CLAIM OUT OF ONE WALK OF THE LAW'S BODY. Your part is whole_start (and what it stands on); all else here is the same for every law, but numbers. -/
def R_law : String := "NamesOnLettersLaw"
def lw_P (b : Addr) (xs : List Int32) (args : Array Value) (s : State) : Prop := args = #[.ref b] ∧ s.IntsAt b xs ∧ xs.length ≤ 3072 ∧ (Jvm.Cond.and given_1 narrow_1).before args s = true
def lw_Q (_ : Array Value) (s : State) (o : Outcome) (t : State) : Prop := o = .returned (some (.int 1)) ∧ Framed s o t [] 601024 7293034
def lw_Z (below : List Frame) (a : Array Value) (s : State) : State → Prop := fun t => ∃ o, t.status = .running ∧ Ended t below o ∧ lw_Q a s o t
/-- the law's own end, with 1 on the stack, nothing written that was there before, its room as the claim has it -/
theorem lw_ret {p : Program} {l : Launch} {e : Env} {s : State} {m : MethodId} {below : List Frame} {meth : Method} {c : Code} {b : Nat} (hx : p.tables.exec = Jvm.exec) (hb : c.code = code) (hr : meth.sig.returnType = ret) (hlocks : meth.locks = false) {pc : Nat} {H : Heap} {ls : Array Slot} (hdg : decode code pc = .ok (.ireturn, 1)) : W p l e room_1 s m #[Value.ref b] below meth c H [] 601024 7293034 (lw_Z below #[Value.ref b] s) (F0 m pc ls [.int 1]) := by
  intro T hT X
  obtain ⟨fs, hret, hrun, hended, hW, hframe⟩ := X.leave (v := some (.int 1)) (hlocks := hlocks) (fun h => by rw [hr] at h; cases h)
  have hmeth' : T.vm.method? m = some meth := X.method'
  refine ⟨T.setFrames fs, ?_, .returned (some (.int 1)), hrun, hended, rfl, ⟨_, rfl⟩, hW, hframe⟩
  jvm_step X.here [X.here.top, hx, hb, hdg, hmeth', hr, ret, narrow_b1]
  (try refine ⟨rfl, ?_⟩); (try refine ⟨rfl, ?_⟩)
  first | (intro acts; rw [hret _ acts rfl rfl rfl]) | rw [hret _ _ rfl rfl rfl]
  exact Steps.refl _
/-- what holds at the law's entry: the machine, the code, the tables' words (any of lw_tbl by 'hts w (by decide +kernel)'), the script of L ints xs at the cell b, what the Statement gives of the start (any of its parts by flat_of_before) -/
def lw_At (p : Program) (s : State) (m : MethodId) (meth : Method) (c : Code) (b L : Nat) (xs : Nat → Int32) : Prop :=
  p.tables.exec = Jvm.exec ∧ c.code = code ∧ meth.sig.returnType = ret ∧ c.maxLocals = 8 ∧ s.vm.findClass R_law = some m.cls ∧ (∀ w ∈ lw_tbl, w.before #[Value.ref b] s = true) ∧ va_X b L xs s s.heap ∧ b < s.heap.size ∧ meth.locks = false ∧ (Jvm.Cond.and given_1 narrow_1).before #[Value.ref b] s = true
theorem st_inst : ∀ c, c < 13 → Cond.instantiable (cnC c) (nfC c) ∈ tblA := by
  intro c hc
  match c, hc with
  | 0, _ => exact tw_2_43
  | 1, _ => exact tw_2_139
  | 2, _ => exact tw_2_84
  | 3, _ => exact tw_1_104
  | 4, _ => exact tw_2_35
  | 5, _ => exact tw_1_45
  | 6, _ => exact tw_2_106
  | 7, _ => exact tw_1_205
  | 8, _ => exact tw_1_221
  | 9, _ => exact tw_1_227
  | 10, _ => exact tw_1_34
  | 11, _ => exact tw_1_26
  | 12, _ => exact tw_6_199
  | c + 13, h => exact absurd h (by omega)
theorem st_str : ∀ i, i < nJS → Cond.stringRef (ownJS.getD i "") (idxJS.getD i 0) (txJS.getD i "") ∈ lw_tbl := by
  intro i hi
  match i, hi with
  | 0, _ => exact tbl_in3 (List.mem_of_getElem? (i := 47) (by decide +kernel))
  | 1, _ => exact tbl_in6 (List.mem_of_getElem? (i := 126) (by decide +kernel))
  | 2, _ => exact tbl_in6 (List.mem_of_getElem? (i := 164) (by decide +kernel))
  | 3, _ => exact tbl_in6 (List.mem_of_getElem? (i := 173) (by decide +kernel))
  | 4, _ => exact tbl_in7 (List.mem_of_getElem? (i := 33) (by decide +kernel))
  | 5, _ => exact tbl_in7 (List.mem_of_getElem? (i := 73) (by decide +kernel))
  | 6, _ => exact tbl_in7 (List.mem_of_getElem? (i := 74) (by decide +kernel))
  | 7, _ => exact tbl_in7 (List.mem_of_getElem? (i := 75) (by decide +kernel))
  | 8, _ => exact tbl_in7 (List.mem_of_getElem? (i := 76) (by decide +kernel))
  | 9, _ => exact tbl_in7 (List.mem_of_getElem? (i := 77) (by decide +kernel))
  | 10, _ => exact tbl_in7 (List.mem_of_getElem? (i := 78) (by decide +kernel))
  | 11, _ => exact tbl_in7 (List.mem_of_getElem? (i := 79) (by decide +kernel))
  | 12, _ => exact tbl_in7 (List.mem_of_getElem? (i := 80) (by decide +kernel))
  | 13, _ => exact tbl_in7 (List.mem_of_getElem? (i := 81) (by decide +kernel))
  | i + 14, h => exact absurd h (by show ¬ i + 14 < 14; omega)
def tmJS (i : Nat) : Term := .string (ownJS.getD i "") (idxJS.getD i 0)
def vlJS (i : Nat) : Term := .field (tmJS i) "java/lang/String" "value" "[B"
def baJS : List Nat := [33, 51, 111, 157, 190, 200, 222, 243, 255, 268, 282, 297, 315, 333]
def giv : List Cond := flatC (Jvm.Cond.and given_1 narrow_1)
set_option maxRecDepth 100000 in
theorem st_ex : ∀ i, i < 14 → giv[baJS.getD i 0]? = some (Cond.exactly (tmJS i) "java/lang/String") := by decide +kernel
set_option maxRecDepth 100000 in
theorem st_co : ∀ i, i < 14 → giv[baJS.getD i 0 + 1]? = some (Cond.eq (.field (tmJS i) "java/lang/String" "coder" "B") (.int 0)) := by decide +kernel
set_option maxRecDepth 100000 in
theorem st_ar : ∀ i, i < 14 → giv[baJS.getD i 0 + 2]? = some (Cond.arrayOf (vlJS i) .byte) := by decide +kernel
set_option maxRecDepth 100000 in
theorem st_le : ∀ i, i < 14 → giv[baJS.getD i 0 + 3]? = some (Cond.eq (.length (vlJS i)) (.int (Int32.ofNat (lenJS.getD i 0)))) := by decide +kernel
set_option maxRecDepth 100000 in
theorem st_el : ∀ i, i < 14 → ∀ j, j < lenJS.getD i 0 → giv[baJS.getD i 0 + 4 + j]? = some (Cond.eq (.elem (vlJS i) (.int (Int32.ofNat j))) (.int ((bytJS.getD i []).getD j 0))) := by decide +kernel
set_option maxRecDepth 100000 in
theorem st_ne : ∀ j, j < 14 → ∀ i, i < j → giv[baJS.getD j 0 + 4 + lenJS.getD j 0 + i]? = some (Cond.not (Cond.eq (tmJS i) (tmJS j))) := by decide +kernel
def twT : Term := .static "NamesOnLetters$Told" "TWO_OF_FOUR" "[I"
set_option maxRecDepth 100000 in
theorem st_t5 : giv[5]? = some (Cond.arrayOf twT .int) := by decide +kernel
set_option maxRecDepth 100000 in
theorem st_t6 : giv[6]? = some (Cond.eq (.length twT) (.int 6)) := by decide +kernel
set_option maxRecDepth 100000 in
theorem st_t7 : ∀ j, j < 6 → giv[7 + j]? = some (Cond.eq (.elem twT (.int (Int32.ofNat j))) (.int (twoL.getD j 0))) := by decide +kernel
set_option maxRecDepth 100000 in
theorem st_t13 : giv[13]? = some (Cond.eq (.static "java/lang/String" "COMPACT_STRINGS" "Z") (.int 1)) := by decide +kernel
set_option maxRecDepth 100000 in
theorem st_t14 : giv[14]? = some (Cond.isRef (.static "jdk/internal/util/Preconditions" "SIOOBE_FORMATTER" "Ljava/util/function/BiFunction;")) := by decide +kernel
set_option maxRecDepth 100000 in
theorem st_t18 : giv[18]? = some (Cond.isRef (.static "java/lang/Throwable" "UNASSIGNED_STACK" "[Ljava/lang/StackTraceElement;")) := by decide +kernel
set_option maxRecDepth 100000 in
theorem st_t19 : giv[19]? = some (Cond.isRef (.static "java/lang/Throwable" "SUPPRESSED_SENTINEL" "Ljava/util/List;")) := by decide +kernel
theorem st_arr {s : State} {args : Array Value} {ty : FieldType} (hne : ∀ C, ty ≠ .object C) (h : (Cond.arrayClass ty).before args s = true) : ∃ cA, ArrOfT s cA ty ∧ va_RA s cA ty := by
  obtain ⟨c, k, comp, h1, h2, h3⟩ := Cond.arrayClass_spec (args := args) (first := s) (o := none) (s := s) (idx := []) h
  refine ⟨c, fun n z => ⟨(fun _ q => by cases q), k, h2, comp, h3⟩, ?_⟩
  cases ty with
  | object C => exact absurd rfl (hne C)
  | _ => exact h1
theorem st_arrO {s : State} {args : Array Value} {C : String} (h : (Cond.arrayOver (.object C)).before args s = true) : ∃ cA, ArrOfT s cA (.object C) ∧ va_RA s cA (.object C) := by
  obtain ⟨comp, c, k, h1, h2, h3, h4, h5⟩ := Cond.arrayOver_spec (args := args) (first := s) (o := none) (s := s) (idx := []) h
  exact ⟨c, fun n z => ⟨(fun _ q => by cases q), k, h3, comp, h4⟩, k, comp, h3, h4, h1, h5⟩
theorem st_arrA {s : State} {args : Array Value} {t : FieldType} (h : (Cond.arrayOver (.array t)).before args s = true) : ∃ cA, ArrOfT s cA (.array t) ∧ va_RA s cA (.array t) := by
  obtain ⟨comp, c, k, h1, h2, h3, h4⟩ := Cond.arrayOver_specA (args := args) (first := s) (o := none) (s := s) (idx := []) h
  exact ⟨c, fun n z => ⟨(fun _ q => by cases q), k, h2, comp, h3⟩, h4⟩
def tyS (i : Nat) : FieldType := [FieldType.int, .long, .boolean, .object RX0, .object RX3, .object RX5, .object RX9, .array .int, .array .long].getD i .int
theorem st_K {s : State} {args : Array Value} (hts : ∀ w ∈ lw_tbl, w.before args s = true) : ∃ (D : va_G) (tc : Nat → ClassId), va_K D vwCl (tyL tc) s := by
  have h0 : ∀ c : Nat, ∃ q : ClassId × (Nat → Nat), c < 13 → u_Kn s (cnC c) (txC c) (nfC c) q.1 q.2 := by
    intro c
    by_cases hc : c < 13
    · obtain ⟨a, b, h⟩ := u_known (C := cnC c) (T := txC c) (N := nfC c) (n := nfC c) hts (fun w hw => (List.mem_filter.mp (inC c hc w hw)).1) (hts _ (List.mem_filter.mp (st_inst c hc)).1)
      exact ⟨(a, b), fun _ => h⟩
    · exact ⟨(0, fun _ => 0), fun h => absurd h hc⟩
  have h1 : ∀ i : Nat, ∃ cA : ClassId, i < 9 → ArrOfT s cA (tyS i) ∧ va_RA s cA (tyS i) := by
    intro i
    by_cases hi : i < 9
    · have : ∃ cA : ClassId, ArrOfT s cA (tyS i) ∧ va_RA s cA (tyS i) := by
        match i, hi with
        | 0, _ => exact st_arr (ty := .int) (fun C h => by cases h) (hts _ (tbl_in1 (List.mem_of_getElem? (i := 103) (by decide +kernel))))
        | 1, _ => exact st_arr (ty := .long) (fun C h => by cases h) (hts _ (tbl_in1 (List.mem_of_getElem? (i := 219) (by decide +kernel))))
        | 2, _ => exact st_arr (ty := .boolean) (fun C h => by cases h) (hts _ (tbl_in9 (List.mem_of_getElem? (i := 180) (by decide +kernel))))
        | 3, _ => exact st_arrO (C := RX0) (hts _ (tbl_in2 (List.mem_of_getElem? (i := 145) (by decide +kernel))))
        | 4, _ => exact st_arrO (C := RX3) (hts _ (tbl_in1 (List.mem_of_getElem? (i := 42) (by decide +kernel))))
        | 5, _ => exact st_arrO (C := RX5) (hts _ (tbl_in1 (List.mem_of_getElem? (i := 40) (by decide +kernel))))
        | 6, _ => exact st_arrO (C := RX9) (hts _ (tbl_in2 (List.mem_of_getElem? (i := 91) (by decide +kernel))))
        | 7, _ => exact st_arrA (t := .int) (hts _ (tbl_in1 (List.mem_of_getElem? (i := 44) (by decide +kernel))))
        | 8, _ => exact st_arrA (t := .long) (hts _ (tbl_in2 (List.mem_of_getElem? (i := 41) (by decide +kernel))))
        | i + 9, h => exact absurd h (by omega)
      obtain ⟨cA, h⟩ := this
      exact ⟨cA, fun _ => h⟩
    · exact ⟨0, fun h => absurd h hi⟩
  obtain ⟨f, hf⟩ := Classical.axiomOfChoice h0
  obtain ⟨tc, htc⟩ := Classical.axiomOfChoice h1
  refine ⟨(fun c => (f c).1, fun c => (f c).2), tc, fun c q hq => ?_, fun k q hk => ?_⟩
  · by_cases hc : c < 13
    · rw [vwC c hc] at hq
      cases hq
      exact hf c hc
    · have : vwCl[c]? = none := List.getElem?_eq_none (by show 13 ≤ c; omega)
      rw [this] at hq
      cases hq
  · match k, hk with
    | 0, hk => cases hk; exact htc 0 (by decide)
    | 1, hk => cases hk; exact htc 1 (by decide)
    | 2, hk => cases hk; exact htc 2 (by decide)
    | 3, hk => cases hk; exact htc 3 (by decide)
    | 4, hk => cases hk; exact htc 4 (by decide)
    | 5, hk => cases hk; exact htc 5 (by decide)
    | 6, hk => cases hk; exact htc 6 (by decide)
    | 7, hk => cases hk; exact htc 7 (by decide)
    | 8, hk => cases hk; exact htc 8 (by decide)
    | k + 9, hk => simp [tyL] at hk
theorem st_AO {s : State} {args : Array Value} (hts : ∀ w ∈ lw_tbl, w.before args s = true) : AO s := by
  intro w hw a
  simp only [aoW, List.mem_cons, List.not_mem_nil, or_false] at hw
  rcases hw with rfl | rfl | rfl | rfl | rfl | rfl
  · exact (show (Cond.arrayOver (.object RX0)).before a s = true from hts (Cond.arrayOver (.object RX0)) (tbl_in2 (List.mem_of_getElem? (i := 145) (by decide +kernel))))
  · exact (show (Cond.arrayOver (.object RX3)).before a s = true from hts (Cond.arrayOver (.object RX3)) (tbl_in1 (List.mem_of_getElem? (i := 42) (by decide +kernel))))
  · exact (show (Cond.arrayOver (.object RX5)).before a s = true from hts (Cond.arrayOver (.object RX5)) (tbl_in1 (List.mem_of_getElem? (i := 40) (by decide +kernel))))
  · exact (show (Cond.arrayOver (.object RX9)).before a s = true from hts (Cond.arrayOver (.object RX9)) (tbl_in2 (List.mem_of_getElem? (i := 91) (by decide +kernel))))
  · exact (show (Cond.arrayOver (.array .int)).before a s = true from hts (Cond.arrayOver (.array .int)) (tbl_in1 (List.mem_of_getElem? (i := 44) (by decide +kernel))))
  · exact (show (Cond.arrayOver (.array .long)).before a s = true from hts (Cond.arrayOver (.array .long)) (tbl_in2 (List.mem_of_getElem? (i := 41) (by decide +kernel))))
theorem st_EX {s : State} {b : Addr} (hts : ∀ w ∈ lw_tbl, w.before #[Value.ref b] s = true) (hgv : (Jvm.Cond.and given_1 narrow_1).before #[Value.ref b] s = true) : ∃ φ : Nat → Nat, PHI φ s ∧ φ 800 = b ∧ EX φ s := by
  have hg : ∀ c ∈ giv, c.before #[Value.ref b] s = true := flat_of_before _ hgv
  have hq : ∀ {k : Nat} {c : Cond}, giv[k]? = some c → c.before #[Value.ref b] s = true := fun h => hg _ (List.mem_of_getElem? h)
  have hA : ∀ a : Nat, a < s.heap.size → ¬ AE s a := fun a ha hc => absurd ha (Nat.not_lt.mpr hc)
  obtain ⟨adK, adV, hS, hR⟩ := vk_Sof (args := #[Value.ref b]) (s := s) (N := 14) (tm := tmJS) (len := lenJS) (byt := bytJS) (A := AE s) (by decide) (fun i hi => hq (st_ex i hi)) (fun i hi => hq (st_co i hi)) (fun i hi => hq (st_ar i hi)) (fun i hi => hq (st_le i hi)) (fun i hi j hj => hq (st_el i hi j hj))
    (fun i j hi hj hij => by
      rcases Nat.lt_or_gt_of_ne hij with h | h
      · exact Or.inl (hq (st_ne j hj i h))
      · exact Or.inr (hq (st_ne i hi j h))) hA
  obtain ⟨t, ht, hT⟩ := va_Tof (args := #[Value.ref b]) (s := s) (tm := twT) (ty := .int) (N := 6) (f := fun j => .int (twoL.getD j 0)) (A := AE s) (by decide) (hq st_t5) (va_eqt (hq st_t6)) (fun j hj => va_eqt (hq (st_t7 j hj))) hA
  have hZ1 := va_Zof (A := AE s) (hts _ (tbl_in3 (List.mem_of_getElem? (i := 7) (by decide +kernel)))) (hts _ (tbl_in1 (List.mem_of_getElem? (i := 2) (by decide +kernel)))) ht hA
  have hZ2 := va_Zof (A := AE s) (hts _ (tbl_in3 (List.mem_of_getElem? (i := 61) (by decide +kernel)))) (hts _ (tbl_in1 (List.mem_of_getElem? (i := 18) (by decide +kernel)))) (va_eqi (hq st_t13)) hA
  have hZ3 := va_Zqof (A := AE s) (hts _ (tbl_in3 (List.mem_of_getElem? (i := 104) (by decide +kernel)))) (hts _ (tbl_in1 (List.mem_of_getElem? (i := 22) (by decide +kernel)))) (hq st_t14) hA
  have hZ4 : vx_Zq Bundle.tN "UNASSIGNED_STACK" Bundle.steD (AE s) s s.heap := vx_Zqof (A := AE s) (hts _ (tbl_in6 (List.mem_of_getElem? (i := 114) (by decide +kernel)))) (hts _ (tbl_in1 (List.mem_of_getElem? (i := 14) (by decide +kernel)))) (hq st_t18) hA
  have hZ5 : vx_Zq Bundle.tN "SUPPRESSED_SENTINEL" Bundle.listD (AE s) s s.heap := vx_Zqof (A := AE s) (hts _ (tbl_in6 (List.mem_of_getElem? (i := 116) (by decide +kernel)))) (hts _ (tbl_in1 (List.mem_of_getElem? (i := 14) (by decide +kernel)))) (hq st_t19) hA
  obtain ⟨t2, hZ3⟩ : ∃ t2 : Nat, va_Z "jdk/internal/util/Preconditions" "SIOOBE_FORMATTER" "Ljava/util/function/BiFunction;" .null (AE s) s s.heap ∨ va_Z "jdk/internal/util/Preconditions" "SIOOBE_FORMATTER" "Ljava/util/function/BiFunction;" (.ref t2) (AE s) s s.heap := by
    rcases hZ3 with h | ⟨t2, h⟩
    · exact ⟨0, Or.inl h⟩
    · exact ⟨t2, Or.inr h⟩
  refine ⟨fun k => if k < 411 then s.heap.size + k else if k = 700 then t else if k = 701 then t2 else if k = 800 then b else if k < 600 then adK (k - 500) else adV (k - 600), fun k hk => if_pos hk, rfl, ⟨fun i hi => ?_, fun i j hi hj e => ?_⟩, fun i hi => ?_, hZ1, hT, hZ2, hZ3, hZ4, hZ5⟩
  · have hi' : i < 14 := hi
    have e1 : (if 500 + i < 411 then s.heap.size + (500 + i) else if 500 + i = 700 then t else if 500 + i = 701 then t2 else if 500 + i = 800 then b else if 500 + i < 600 then adK (500 + i - 500) else adV (500 + i - 600)) = adK i := by
      rw [if_neg (by omega), if_neg (by omega), if_neg (by omega), if_neg (by omega), if_pos (by omega), Nat.add_sub_cancel_left]
    have e2 : (if 600 + i < 411 then s.heap.size + (600 + i) else if 600 + i = 700 then t else if 600 + i = 701 then t2 else if 600 + i = 800 then b else if 600 + i < 600 then adK (600 + i - 500) else adV (600 + i - 600)) = adV i := by
      rw [if_neg (by omega), if_neg (by omega), if_neg (by omega), if_neg (by omega), if_neg (by omega), Nat.add_sub_cancel_left]
    have := hS.1 i hi'
    simp only [e1, e2]
    exact this
  · have hi' : i < 14 := hi
    have hj' : j < 14 := hj
    have e1 : ∀ i, i < 14 → (if 500 + i < 411 then s.heap.size + (500 + i) else if 500 + i = 700 then t else if 500 + i = 701 then t2 else if 500 + i = 800 then b else if 500 + i < 600 then adK (500 + i - 500) else adV (500 + i - 600)) = adK i := fun i hi => by
      rw [if_neg (by omega), if_neg (by omega), if_neg (by omega), if_neg (by omega), if_pos (by omega), Nat.add_sub_cancel_left]
    simp only [e1 i hi', e1 j hj'] at e
    exact hS.2 i j hi' hj' e
  · have hi' : i < 14 := hi
    have e1 : (if 500 + i < 411 then s.heap.size + (500 + i) else if 500 + i = 700 then t else if 500 + i = 701 then t2 else if 500 + i = 800 then b else if 500 + i < 600 then adK (500 + i - 500) else adV (500 + i - 600)) = adK i := by
      rw [if_neg (by omega), if_neg (by omega), if_neg (by omega), if_neg (by omega), if_pos (by omega), Nat.add_sub_cancel_left]
    simp only [e1]
    exact vk_R.of (A := #[Value.ref b]) (hts _ (st_str i hi)) (hR i hi')
set_option maxHeartbeats 4000000 in
theorem start_of {p : Program} {e : Env} {s : State} {m : MethodId} {below : List Frame} {meth : Method} {c : Code} (l : Launch) (hflags : l.flags = flags0) {b L : Nat} {xs : Nat → Int32} (hL : L ≤ 3072) {Rel : MM → Prop} (ops : OPS Rel) (h0 : Rel m0) (C0 : lw_At p s m meth c b L xs) : W p l e room_1 s m #[Value.ref b] below meth c s.heap [] 0 0 (lw_Z below #[Value.ref b] s) (entryFrame m ([Value.ref b] : List Value).toArray 8) := by
  obtain ⟨hx, hb, hr, hml, hown, hts, hX, hbl, hlocks, hgv⟩ := id C0
  have hfl : l.stackTraces = false := by
    unfold Launch.stackTraces
    rw [hflags]
    decide +kernel
  obtain ⟨D, tc, hK⟩ := st_K hts
  obtain ⟨φ, hφ, h800, hEX⟩ := st_EX hts hgv
  have hinj : ∀ i j, i < NC → j < NC → φ i = φ j → i = j := fun i j hi hj q => by
    rw [hφ i hi, hφ j hj] at q
    omega
  have hG : GX φ tc D s := ⟨hK, hinj, fun k hk => by rw [hφ k hk]; omega, hEX⟩
  have C : CX p s m #[Value.ref b] meth c φ tc D (fun q : Nat => s.heap.size ≤ q) s code RL 8 := ⟨hx, hb, hml, hown, fun w hw => hts w (List.mem_filter.mp hw).1, hK, hlocks, hG, State.WarmedH.refl s, Nat.le_refl _, fun q _ => rfl, fun q hq => by
    obtain ⟨k, hk, rfl⟩ := hq
    show s.heap.size ≤ φ k
    rw [hφ k hk]
    omega, fun q hq => hq⟩
  have hbA : φ 800 = b ∧ ¬ (fun q : Nat => s.heap.size ≤ q) b := ⟨h800, Nat.not_le.mpr hbl⟩
  have key := law_start (p := p) (e := e) (below := below) (Q := lw_Z below #[Value.ref b] s) hfl hG hφ (st_AO hts) C hX hbl hbA hL ops h0 (fun kc ks i μ hkc hks hR => ?_)
  · have hl := lv_entry ([.ref b]) (n := 8) (Nat.le_of_ble_eq_true rfl)
    rw [lg_entry_eq]
    generalize (lg_sl ([.ref b]) ++ List.replicate (8 - (lg_sl ([.ref b])).length) Slot.unset).toArray = ls at hl ⊢
    have hl2 : lv_has ls 8 (([(0, .ref 800)] : List (Nat × Value)).map (rl φ)) := by
      show lv_has ls 8 [(0, .ref (φ 800))]
      rw [h800]
      exact hl
    exact key s.heap [] ls (fun k q h => by simp [mw] at h) rfl (fun k _ j => ⟨rfl, rfl, rfl⟩) va_S.rf hl2
  · refine x_iconst (v := 1) C (by decide) dL_law_1898 ?_
    intro H locs ar hP hSR hS hl
    refine W.widen (k := 601024) (n := 7293034) hkc hks ?_
    refine va_forget (fun q hq => hS.2.2 q hq) ?_
    exact lw_ret hx hb hr hlocks dL_law_1899
