/-! the words of the tables that keep, and where each stands -/
def tblG : List Cond := lw_tbl.filter goodWord
def nestW : Cond → Bool
  | .fieldLinkNest .. => true
  | .methodLinkNest .. => true
  | .castable .. => true
  | .declares _ => true
  | _ => false
def tblN : List Cond := lw_tbl.filter nestW
def tblA : List Cond := lw_tbl.filter (fun w => goodWord w || nestW w)
theorem tbl_ga {w : Cond} (h : w ∈ tblG) : w ∈ tblA := List.mem_filter.mpr ⟨(List.mem_filter.mp h).1, by rw [(List.mem_filter.mp h).2]; rfl⟩
theorem tbl_na {w : Cond} (h : w ∈ tblN) : w ∈ tblA := List.mem_filter.mpr ⟨(List.mem_filter.mp h).1, by rw [(List.mem_filter.mp h).2, Bool.or_true]⟩
theorem tbl_gn {w : Cond} (h : w ∈ tblA) : w ∈ tblG ∨ w ∈ tblN := by
  obtain ⟨h1, h2⟩ := List.mem_filter.mp h
  rcases (Bool.or_eq_true _ _).mp h2 with q | q
  · exact Or.inl (List.mem_filter.mpr ⟨h1, q⟩)
  · exact Or.inr (List.mem_filter.mpr ⟨h1, q⟩)
theorem tbl_a {w : Cond} (h : w ∈ lw_tbl) (g : (goodWord w || nestW w) = true) : w ∈ tblA := List.mem_filter.mpr ⟨h, g⟩
theorem nest_warm {w : Cond} (hn : nestW w = true) {s U : State} (hW : s.WarmedH U.vm) {args : Array Value} (h : w.before args s = true) : va_Nw w U := by
  cases w <;> first | exact va_Nw.warmF hW (va_Nw.of rfl h) | exact va_Nw.warmM hW (va_Nw.of rfl h) | exact va_Nw.warmC hW (va_Nw.of rfl h) | exact va_Nw.warmD hW (va_Nw.of rfl h) | (cases hn; done)
theorem nest_on {w : Cond} (hn : nestW w = true) : w.onTables = true := by
  cases w <;> first | (cases hn; done) | rfl
theorem tbl_sub {w : Cond} (h : w ∈ tables_1) : w ∈ lw_tbl := List.mem_append_right _ h
theorem tbl_in1 {w : Cond} (h : w ∈ tables_1_1) : w ∈ lw_tbl := tbl_sub (List.mem_append_left _ h)
theorem tbl_in2 {w : Cond} (h : w ∈ tables_1_2) : w ∈ lw_tbl := tbl_sub (List.mem_append_right _ (List.mem_append_left _ h))
theorem tbl_in3 {w : Cond} (h : w ∈ tables_1_3) : w ∈ lw_tbl := tbl_sub (List.mem_append_right _ (List.mem_append_right _ (List.mem_append_left _ h)))
theorem tbl_in4 {w : Cond} (h : w ∈ tables_1_4) : w ∈ lw_tbl := tbl_sub (List.mem_append_right _ (List.mem_append_right _ (List.mem_append_right _ (List.mem_append_left _ h))))
theorem tbl_in5 {w : Cond} (h : w ∈ tables_1_5) : w ∈ lw_tbl := tbl_sub (List.mem_append_right _ (List.mem_append_right _ (List.mem_append_right _ (List.mem_append_right _ (List.mem_append_left _ h)))))
theorem tbl_in6 {w : Cond} (h : w ∈ tables_1_6) : w ∈ lw_tbl := tbl_sub (List.mem_append_right _ (List.mem_append_right _ (List.mem_append_right _ (List.mem_append_right _ (List.mem_append_right _ (List.mem_append_left _ h))))))
theorem tbl_in7 {w : Cond} (h : w ∈ tables_1_7) : w ∈ lw_tbl := tbl_sub (List.mem_append_right _ (List.mem_append_right _ (List.mem_append_right _ (List.mem_append_right _ (List.mem_append_right _ (List.mem_append_right _ (List.mem_append_left _ h)))))))
theorem tbl_in8 {w : Cond} (h : w ∈ tables_1_8) : w ∈ lw_tbl := tbl_sub (List.mem_append_right _ (List.mem_append_right _ (List.mem_append_right _ (List.mem_append_right _ (List.mem_append_right _ (List.mem_append_right _ (List.mem_append_right _ (List.mem_append_left _ h))))))))
theorem tbl_in9 {w : Cond} (h : w ∈ tables_1_9) : w ∈ lw_tbl := tbl_sub (List.mem_append_right _ (List.mem_append_right _ (List.mem_append_right _ (List.mem_append_right _ (List.mem_append_right _ (List.mem_append_right _ (List.mem_append_right _ (List.mem_append_right _ (h)))))))))
theorem tbl_sel {q : MethodName × Nat} (h : q ∈ lw_privs) : Cond.selects q.1.cls q.1 q.1 ∈ lw_tbl := List.mem_append_left _ (List.mem_map.mpr ⟨q, h, rfl⟩)
theorem tbl_sel1 {q : MethodName × Nat} (h : q ∈ lw_privs_1) : Cond.selects q.1.cls q.1 q.1 ∈ lw_tbl := tbl_sel (List.mem_append_left _ h)
theorem tbl_sel2 {q : MethodName × Nat} (h : q ∈ lw_privs_2) : Cond.selects q.1.cls q.1 q.1 ∈ lw_tbl := tbl_sel (List.mem_append_right _ (List.mem_append_left _ h))
theorem tbl_sel3 {q : MethodName × Nat} (h : q ∈ lw_privs_3) : Cond.selects q.1.cls q.1 q.1 ∈ lw_tbl := tbl_sel (List.mem_append_right _ (List.mem_append_right _ (List.mem_append_left _ h)))
theorem tbl_sel4 {q : MethodName × Nat} (h : q ∈ lw_privs_4) : Cond.selects q.1.cls q.1 q.1 ∈ lw_tbl := tbl_sel (List.mem_append_right _ (List.mem_append_right _ (List.mem_append_right _ (List.mem_append_left _ h))))
theorem tbl_sel5 {q : MethodName × Nat} (h : q ∈ lw_privs_5) : Cond.selects q.1.cls q.1 q.1 ∈ lw_tbl := tbl_sel (List.mem_append_right _ (List.mem_append_right _ (List.mem_append_right _ (List.mem_append_right _ (List.mem_append_left _ h)))))
theorem tbl_sel6 {q : MethodName × Nat} (h : q ∈ lw_privs_6) : Cond.selects q.1.cls q.1 q.1 ∈ lw_tbl := tbl_sel (List.mem_append_right _ (List.mem_append_right _ (List.mem_append_right _ (List.mem_append_right _ (List.mem_append_right _ (List.mem_append_left _ h))))))
theorem tbl_sel7 {q : MethodName × Nat} (h : q ∈ lw_privs_7) : Cond.selects q.1.cls q.1 q.1 ∈ lw_tbl := tbl_sel (List.mem_append_right _ (List.mem_append_right _ (List.mem_append_right _ (List.mem_append_right _ (List.mem_append_right _ (List.mem_append_right _ (List.mem_append_left _ h)))))))
theorem tbl_sel8 {q : MethodName × Nat} (h : q ∈ lw_privs_8) : Cond.selects q.1.cls q.1 q.1 ∈ lw_tbl := tbl_sel (List.mem_append_right _ (List.mem_append_right _ (List.mem_append_right _ (List.mem_append_right _ (List.mem_append_right _ (List.mem_append_right _ (List.mem_append_right _ (List.mem_append_left _ h))))))))
theorem tbl_sel9 {q : MethodName × Nat} (h : q ∈ lw_privs_9) : Cond.selects q.1.cls q.1 q.1 ∈ lw_tbl := tbl_sel (List.mem_append_right _ (List.mem_append_right _ (List.mem_append_right _ (List.mem_append_right _ (List.mem_append_right _ (List.mem_append_right _ (List.mem_append_right _ (List.mem_append_right _ (List.mem_append_left _ h)))))))))
theorem tbl_sel10 {q : MethodName × Nat} (h : q ∈ lw_privs_10) : Cond.selects q.1.cls q.1 q.1 ∈ lw_tbl := tbl_sel (List.mem_append_right _ (List.mem_append_right _ (List.mem_append_right _ (List.mem_append_right _ (List.mem_append_right _ (List.mem_append_right _ (List.mem_append_right _ (List.mem_append_right _ (List.mem_append_right _ (List.mem_append_left _ h))))))))))
theorem tbl_sel11 {q : MethodName × Nat} (h : q ∈ lw_privs_11) : Cond.selects q.1.cls q.1 q.1 ∈ lw_tbl := tbl_sel (List.mem_append_right _ (List.mem_append_right _ (List.mem_append_right _ (List.mem_append_right _ (List.mem_append_right _ (List.mem_append_right _ (List.mem_append_right _ (List.mem_append_right _ (List.mem_append_right _ (List.mem_append_right _ (h)))))))))))
theorem tbl_g {w : Cond} (h : w ∈ lw_tbl) (g : goodWord w = true) : w ∈ tblG := List.mem_filter.mpr ⟨h, g⟩
theorem tbl_all : ∀ w ∈ tblG, w ∈ lw_tbl ∧ ((w.onTables && w.keeps) = true ∨ ∃ ty, w = .arrayClass ty) := fun w h => ⟨(List.mem_filter.mp h).1, good_of_word (List.mem_filter.mp h).2⟩
theorem tw_1_0 : Cond.initialized "NamesOnLettersLaw" ∈ tblA := tbl_a (tbl_in1 (List.mem_of_getElem? (i := 0) (by decide +kernel))) (by decide +kernel)
theorem tw_1_1 : Cond.initialized "NamesOnLetters" ∈ tblA := tbl_a (tbl_in1 (List.mem_of_getElem? (i := 1) (by decide +kernel))) (by decide +kernel)
theorem tw_1_2 : Cond.initialized "NamesOnLetters$Told" ∈ tblA := tbl_a (tbl_in1 (List.mem_of_getElem? (i := 2) (by decide +kernel))) (by decide +kernel)
theorem tw_1_3 : Cond.initialized "NamesOnLetters$Lette\x72" ∈ tblA := tbl_a (tbl_in1 (List.mem_of_getElem? (i := 3) (by decide +kernel))) (by decide +kernel)
theorem tw_1_4 : Cond.initialized "NamesOnLetters$Expression" ∈ tblA := tbl_a (tbl_in1 (List.mem_of_getElem? (i := 4) (by decide +kernel))) (by decide +kernel)
theorem tw_1_5 : Cond.initialized "NamesOnLetters$Row" ∈ tblA := tbl_a (tbl_in1 (List.mem_of_getElem? (i := 5) (by decide +kernel))) (by decide +kernel)
theorem tw_1_6 : Cond.initialized "NamesOnLetters$Shares" ∈ tblA := tbl_a (tbl_in1 (List.mem_of_getElem? (i := 6) (by decide +kernel))) (by decide +kernel)
theorem tw_1_7 : Cond.initialized "NamesOnLetters$Tally" ∈ tblA := tbl_a (tbl_in1 (List.mem_of_getElem? (i := 7) (by decide +kernel))) (by decide +kernel)
theorem tw_1_8 : Cond.initialized "NamesOnLetters$Kinds" ∈ tblA := tbl_a (tbl_in1 (List.mem_of_getElem? (i := 8) (by decide +kernel))) (by decide +kernel)
theorem tw_1_9 : Cond.initialized "NamesOnLetters$Big" ∈ tblA := tbl_a (tbl_in1 (List.mem_of_getElem? (i := 9) (by decide +kernel))) (by decide +kernel)
theorem tw_1_10 : Cond.initialized "NamesOnLetters$Explained" ∈ tblA := tbl_a (tbl_in1 (List.mem_of_getElem? (i := 10) (by decide +kernel))) (by decide +kernel)
theorem tw_1_11 : Cond.initialized "NamesOnLetters$Machine" ∈ tblA := tbl_a (tbl_in1 (List.mem_of_getElem? (i := 11) (by decide +kernel))) (by decide +kernel)
theorem tw_1_12 : Cond.initialized "NamesOnLetters$Chances" ∈ tblA := tbl_a (tbl_in1 (List.mem_of_getElem? (i := 12) (by decide +kernel))) (by decide +kernel)
theorem tw_1_13 : Cond.initialized "NamesOnLettersModel" ∈ tblA := tbl_a (tbl_in1 (List.mem_of_getElem? (i := 13) (by decide +kernel))) (by decide +kernel)
theorem tw_1_14 : Cond.initialized "java/lang/Throwable" ∈ tblA := tbl_a (tbl_in1 (List.mem_of_getElem? (i := 14) (by decide +kernel))) (by decide +kernel)
theorem tw_1_15 : Cond.initialized "java/lang/Exception" ∈ tblA := tbl_a (tbl_in1 (List.mem_of_getElem? (i := 15) (by decide +kernel))) (by decide +kernel)
theorem tw_1_16 : Cond.initialized "java/lang/RuntimeException" ∈ tblA := tbl_a (tbl_in1 (List.mem_of_getElem? (i := 16) (by decide +kernel))) (by decide +kernel)
theorem tw_1_17 : Cond.initialized "java/util/NoSuchElementException" ∈ tblA := tbl_a (tbl_in1 (List.mem_of_getElem? (i := 17) (by decide +kernel))) (by decide +kernel)
theorem tw_1_18 : Cond.initialized "java/lang/String" ∈ tblA := tbl_a (tbl_in1 (List.mem_of_getElem? (i := 18) (by decide +kernel))) (by decide +kernel)
theorem tw_1_19 : Cond.initialized "java/lang/StringLatin1" ∈ tblA := tbl_a (tbl_in1 (List.mem_of_getElem? (i := 19) (by decide +kernel))) (by decide +kernel)
theorem tw_1_20 : Cond.initialized "java/lang/Math" ∈ tblA := tbl_a (tbl_in1 (List.mem_of_getElem? (i := 20) (by decide +kernel))) (by decide +kernel)
theorem tw_1_21 : Cond.initialized "java/lang/StringUTF16" ∈ tblA := tbl_a (tbl_in1 (List.mem_of_getElem? (i := 21) (by decide +kernel))) (by decide +kernel)
theorem tw_1_22 : Cond.initialized "jdk/internal/util/Preconditions" ∈ tblA := tbl_a (tbl_in1 (List.mem_of_getElem? (i := 22) (by decide +kernel))) (by decide +kernel)
theorem tw_1_23 : Cond.initialized "java/lang/Characte\x72" ∈ tblA := tbl_a (tbl_in1 (List.mem_of_getElem? (i := 23) (by decide +kernel))) (by decide +kernel)
theorem tw_1_24 : Cond.initialized "java/lang/Intege\x72" ∈ tblA := tbl_a (tbl_in1 (List.mem_of_getElem? (i := 24) (by decide +kernel))) (by decide +kernel)
theorem tw_1_25 : Cond.classLink "NamesOnLettersLaw" 8 "NamesOnLetters" ∈ tblA := tbl_a (tbl_in1 (List.mem_of_getElem? (i := 25) (by decide +kernel))) (by decide +kernel)
theorem tw_1_26 : Cond.instantiable "NamesOnLetters" 9 ∈ tblA := tbl_a (tbl_in1 (List.mem_of_getElem? (i := 26) (by decide +kernel))) (by decide +kernel)
theorem tw_1_27 : Cond.methodLink "NamesOnLettersLaw" 22 ⟨"NamesOnLetters", "<init>", "()V"⟩ ∈ tblA := tbl_a (tbl_in1 (List.mem_of_getElem? (i := 27) (by decide +kernel))) (by decide +kernel)
theorem tw_1_28 : Cond.instanceMethod ⟨"NamesOnLetters", "<init>", "()V"⟩ ∈ tblA := tbl_a (tbl_in1 (List.mem_of_getElem? (i := 28) (by decide +kernel))) (by decide +kernel)
theorem tw_1_30 : Cond.methodLink "NamesOnLetters" 1 ⟨"java/lang/Object", "<init>", "()V"⟩ ∈ tblA := tbl_a (tbl_in1 (List.mem_of_getElem? (i := 30) (by decide +kernel))) (by decide +kernel)
theorem tw_1_31 : Cond.instanceMethod ⟨"java/lang/Object", "<init>", "()V"⟩ ∈ tblA := tbl_a (tbl_in1 (List.mem_of_getElem? (i := 31) (by decide +kernel))) (by decide +kernel)
theorem tw_1_33 : Cond.classLink "NamesOnLetters" 7 "NamesOnLetters$Told" ∈ tblA := tbl_a (tbl_in1 (List.mem_of_getElem? (i := 33) (by decide +kernel))) (by decide +kernel)
theorem tw_1_34 : Cond.instantiable "NamesOnLetters$Told" 18 ∈ tblA := tbl_a (tbl_in1 (List.mem_of_getElem? (i := 34) (by decide +kernel))) (by decide +kernel)
theorem tw_1_35 : Cond.methodLinkNest "NamesOnLetters" 9 ⟨"NamesOnLetters$Told", "<init>", "()V"⟩ "NamesOnLetters" ∈ tblA := tbl_a (tbl_in1 (List.mem_of_getElem? (i := 35) (by decide +kernel))) (by decide +kernel)
theorem tw_1_36 : Cond.instanceMethod ⟨"NamesOnLetters$Told", "<init>", "()V"⟩ ∈ tblA := tbl_a (tbl_in1 (List.mem_of_getElem? (i := 36) (by decide +kernel))) (by decide +kernel)
theorem tw_1_38 : Cond.methodLink "NamesOnLetters$Told" 3 ⟨"java/lang/Object", "<init>", "()V"⟩ ∈ tblA := tbl_a (tbl_in1 (List.mem_of_getElem? (i := 38) (by decide +kernel))) (by decide +kernel)
theorem tw_1_39 : Cond.classLink "NamesOnLetters$Told" 33 "NamesOnLetters$Lette\x72" ∈ tblA := tbl_a (tbl_in1 (List.mem_of_getElem? (i := 39) (by decide +kernel))) (by decide +kernel)
theorem tw_1_41 : Cond.classLink "NamesOnLetters$Told" 39 "NamesOnLetters$Expression" ∈ tblA := tbl_a (tbl_in1 (List.mem_of_getElem? (i := 41) (by decide +kernel))) (by decide +kernel)
theorem tw_1_43 : Cond.classLink "NamesOnLetters$Told" 61 "[[I" ∈ tblA := tbl_a (tbl_in1 (List.mem_of_getElem? (i := 43) (by decide +kernel))) (by decide +kernel)
theorem tw_1_45 : Cond.instantiable "NamesOnLetters$Lette\x72" 9 ∈ tblA := tbl_a (tbl_in1 (List.mem_of_getElem? (i := 45) (by decide +kernel))) (by decide +kernel)
theorem tw_1_46 : Cond.methodLinkNest "NamesOnLetters$Told" 66 ⟨"NamesOnLetters$Lette\x72", "<init>", "()V"⟩ "NamesOnLetters" ∈ tblA := tbl_a (tbl_in1 (List.mem_of_getElem? (i := 46) (by decide +kernel))) (by decide +kernel)
theorem tw_1_47 : Cond.instanceMethod ⟨"NamesOnLetters$Lette\x72", "<init>", "()V"⟩ ∈ tblA := tbl_a (tbl_in1 (List.mem_of_getElem? (i := 47) (by decide +kernel))) (by decide +kernel)
theorem tw_1_49 : Cond.methodLink "NamesOnLetters$Lette\x72" 1 ⟨"java/lang/Object", "<init>", "()V"⟩ ∈ tblA := tbl_a (tbl_in1 (List.mem_of_getElem? (i := 49) (by decide +kernel))) (by decide +kernel)
theorem tw_1_50 : Cond.fieldLinkNest "NamesOnLetters$Kinds" 59 "NamesOnLetters$Lette\x72" "house" "I" "NamesOnLetters" ∈ tblA := tbl_a (tbl_in1 (List.mem_of_getElem? (i := 50) (by decide +kernel))) (by decide +kernel)
theorem tw_1_51 : Cond.fieldLinkNest "NamesOnLetters$Explained" 42 "NamesOnLetters$Lette\x72" "house" "I" "NamesOnLetters" ∈ tblA := tbl_a (tbl_in1 (List.mem_of_getElem? (i := 51) (by decide +kernel))) (by decide +kernel)
theorem tw_1_52 : Cond.fieldLinkNest "NamesOnLetters$Shares" 68 "NamesOnLetters$Lette\x72" "house" "I" "NamesOnLetters" ∈ tblA := tbl_a (tbl_in1 (List.mem_of_getElem? (i := 52) (by decide +kernel))) (by decide +kernel)
theorem tw_1_53 : Cond.fieldLink "NamesOnLetters$Lette\x72" 7 "NamesOnLetters$Lette\x72" "house" "I" ∈ tblA := tbl_a (tbl_in1 (List.mem_of_getElem? (i := 53) (by decide +kernel))) (by decide +kernel)
theorem tw_1_54 : Cond.fieldLinkNest "NamesOnLetters$Told" 85 "NamesOnLetters$Lette\x72" "house" "I" "NamesOnLetters" ∈ tblA := tbl_a (tbl_in1 (List.mem_of_getElem? (i := 54) (by decide +kernel))) (by decide +kernel)
theorem tw_1_55 : Cond.fieldLink "NamesOnLetters$Lette\x72" 13 "NamesOnLetters$Lette\x72" "name" "I" ∈ tblA := tbl_a (tbl_in1 (List.mem_of_getElem? (i := 55) (by decide +kernel))) (by decide +kernel)
theorem tw_1_56 : Cond.fieldLinkNest "NamesOnLetters$Told" 88 "NamesOnLetters$Lette\x72" "name" "I" "NamesOnLetters" ∈ tblA := tbl_a (tbl_in1 (List.mem_of_getElem? (i := 56) (by decide +kernel))) (by decide +kernel)
theorem tw_1_57 : Cond.fieldLinkNest "NamesOnLetters$Shares" 145 "NamesOnLetters$Lette\x72" "name" "I" "NamesOnLetters" ∈ tblA := tbl_a (tbl_in1 (List.mem_of_getElem? (i := 57) (by decide +kernel))) (by decide +kernel)
theorem tw_1_58 : Cond.fieldLink "NamesOnLetters$Lette\x72" 16 "NamesOnLetters$Lette\x72" "worth" "I" ∈ tblA := tbl_a (tbl_in1 (List.mem_of_getElem? (i := 58) (by decide +kernel))) (by decide +kernel)
theorem tw_1_59 : Cond.fieldLinkNest "NamesOnLetters$Explained" 80 "NamesOnLetters$Lette\x72" "worth" "I" "NamesOnLetters" ∈ tblA := tbl_a (tbl_in1 (List.mem_of_getElem? (i := 59) (by decide +kernel))) (by decide +kernel)
theorem tw_1_60 : Cond.fieldLinkNest "NamesOnLetters$Told" 91 "NamesOnLetters$Lette\x72" "worth" "I" "NamesOnLetters" ∈ tblA := tbl_a (tbl_in1 (List.mem_of_getElem? (i := 60) (by decide +kernel))) (by decide +kernel)
theorem tw_1_61 : Cond.fieldLinkNest "NamesOnLetters$Explained" 48 "NamesOnLetters$Lette\x72" "errors" "I" "NamesOnLetters" ∈ tblA := tbl_a (tbl_in1 (List.mem_of_getElem? (i := 61) (by decide +kernel))) (by decide +kernel)
theorem tw_1_62 : Cond.fieldLink "NamesOnLetters$Lette\x72" 19 "NamesOnLetters$Lette\x72" "errors" "I" ∈ tblA := tbl_a (tbl_in1 (List.mem_of_getElem? (i := 62) (by decide +kernel))) (by decide +kernel)
theorem tw_1_63 : Cond.fieldLinkNest "NamesOnLetters$Told" 94 "NamesOnLetters$Lette\x72" "errors" "I" "NamesOnLetters" ∈ tblA := tbl_a (tbl_in1 (List.mem_of_getElem? (i := 63) (by decide +kernel))) (by decide +kernel)
theorem tw_1_64 : Cond.fieldLinkNest "NamesOnLetters$Explained" 30 "NamesOnLetters$Lette\x72" "street" "I" "NamesOnLetters" ∈ tblA := tbl_a (tbl_in1 (List.mem_of_getElem? (i := 64) (by decide +kernel))) (by decide +kernel)
theorem tw_1_65 : Cond.fieldLink "NamesOnLetters$Lette\x72" 22 "NamesOnLetters$Lette\x72" "street" "I" ∈ tblA := tbl_a (tbl_in1 (List.mem_of_getElem? (i := 65) (by decide +kernel))) (by decide +kernel)
theorem tw_1_66 : Cond.fieldLinkNest "NamesOnLetters$Told" 97 "NamesOnLetters$Lette\x72" "street" "I" "NamesOnLetters" ∈ tblA := tbl_a (tbl_in1 (List.mem_of_getElem? (i := 66) (by decide +kernel))) (by decide +kernel)
theorem tw_1_67 : Cond.fieldLink "NamesOnLetters$Lette\x72" 25 "NamesOnLetters$Lette\x72" "day" "I" ∈ tblA := tbl_a (tbl_in1 (List.mem_of_getElem? (i := 67) (by decide +kernel))) (by decide +kernel)
theorem tw_1_68 : Cond.fieldLinkNest "NamesOnLetters$Told" 100 "NamesOnLetters$Lette\x72" "day" "I" "NamesOnLetters" ∈ tblA := tbl_a (tbl_in1 (List.mem_of_getElem? (i := 68) (by decide +kernel))) (by decide +kernel)
theorem tw_1_69 : Cond.fieldLinkNest "NamesOnLetters$Shares" 62 "NamesOnLetters$Lette\x72" "read" "Z" "NamesOnLetters" ∈ tblA := tbl_a (tbl_in1 (List.mem_of_getElem? (i := 69) (by decide +kernel))) (by decide +kernel)
theorem tw_1_70 : Cond.fieldLink "NamesOnLetters$Lette\x72" 28 "NamesOnLetters$Lette\x72" "read" "Z" ∈ tblA := tbl_a (tbl_in1 (List.mem_of_getElem? (i := 70) (by decide +kernel))) (by decide +kernel)
theorem tw_1_71 : Cond.fieldLinkNest "NamesOnLetters$Explained" 61 "NamesOnLetters$Lette\x72" "read" "Z" "NamesOnLetters" ∈ tblA := tbl_a (tbl_in1 (List.mem_of_getElem? (i := 71) (by decide +kernel))) (by decide +kernel)
theorem tw_1_72 : Cond.fieldLinkNest "NamesOnLetters$Kinds" 87 "NamesOnLetters$Lette\x72" "read" "Z" "NamesOnLetters" ∈ tblA := tbl_a (tbl_in1 (List.mem_of_getElem? (i := 72) (by decide +kernel))) (by decide +kernel)
theorem tw_1_73 : Cond.fieldLinkNest "NamesOnLetters" 152 "NamesOnLetters$Lette\x72" "read" "Z" "NamesOnLetters" ∈ tblA := tbl_a (tbl_in1 (List.mem_of_getElem? (i := 73) (by decide +kernel))) (by decide +kernel)
theorem tw_1_74 : Cond.fieldLinkNest "NamesOnLetters$Told" 126 "NamesOnLetters$Lette\x72" "read" "Z" "NamesOnLetters" ∈ tblA := tbl_a (tbl_in1 (List.mem_of_getElem? (i := 74) (by decide +kernel))) (by decide +kernel)
theorem tw_1_75 : Cond.fieldLinkNest "NamesOnLetters$Kinds" 64 "NamesOnLetters$Lette\x72" "rung" "Z" "NamesOnLetters" ∈ tblA := tbl_a (tbl_in1 (List.mem_of_getElem? (i := 75) (by decide +kernel))) (by decide +kernel)
theorem tw_1_76 : Cond.fieldLinkNest "NamesOnLetters$Shares" 79 "NamesOnLetters$Lette\x72" "rung" "Z" "NamesOnLetters" ∈ tblA := tbl_a (tbl_in1 (List.mem_of_getElem? (i := 76) (by decide +kernel))) (by decide +kernel)
theorem tw_1_77 : Cond.fieldLink "NamesOnLetters$Lette\x72" 32 "NamesOnLetters$Lette\x72" "rung" "Z" ∈ tblA := tbl_a (tbl_in1 (List.mem_of_getElem? (i := 77) (by decide +kernel))) (by decide +kernel)
theorem tw_1_78 : Cond.fieldLinkNest "NamesOnLetters$Explained" 69 "NamesOnLetters$Lette\x72" "rung" "Z" "NamesOnLetters" ∈ tblA := tbl_a (tbl_in1 (List.mem_of_getElem? (i := 78) (by decide +kernel))) (by decide +kernel)
theorem tw_1_79 : Cond.fieldLinkNest "NamesOnLetters" 168 "NamesOnLetters$Lette\x72" "rung" "Z" "NamesOnLetters" ∈ tblA := tbl_a (tbl_in1 (List.mem_of_getElem? (i := 79) (by decide +kernel))) (by decide +kernel)
theorem tw_1_80 : Cond.fieldLinkNest "NamesOnLetters$Told" 130 "NamesOnLetters$Lette\x72" "rung" "Z" "NamesOnLetters" ∈ tblA := tbl_a (tbl_in1 (List.mem_of_getElem? (i := 80) (by decide +kernel))) (by decide +kernel)
theorem tw_1_81 : Cond.fieldLink "NamesOnLetters$Lette\x72" 35 "NamesOnLetters$Lette\x72" "afte\x72" "I" ∈ tblA := tbl_a (tbl_in1 (List.mem_of_getElem? (i := 81) (by decide +kernel))) (by decide +kernel)
theorem tw_1_82 : Cond.fieldLinkNest "NamesOnLetters$Explained" 132 "NamesOnLetters$Lette\x72" "afte\x72" "I" "NamesOnLetters" ∈ tblA := tbl_a (tbl_in1 (List.mem_of_getElem? (i := 82) (by decide +kernel))) (by decide +kernel)
theorem tw_1_83 : Cond.fieldLinkNest "NamesOnLetters" 171 "NamesOnLetters$Lette\x72" "afte\x72" "I" "NamesOnLetters" ∈ tblA := tbl_a (tbl_in1 (List.mem_of_getElem? (i := 83) (by decide +kernel))) (by decide +kernel)
theorem tw_1_84 : Cond.lays "NamesOnLetters$Lette\x72" "NamesOnLetters$Lette\x72" "house" "I" ∈ tblA := tbl_a (tbl_in1 (List.mem_of_getElem? (i := 84) (by decide +kernel))) (by decide +kernel)
theorem tw_1_86 : Cond.lays "NamesOnLetters$Lette\x72" "NamesOnLetters$Lette\x72" "name" "I" ∈ tblA := tbl_a (tbl_in1 (List.mem_of_getElem? (i := 86) (by decide +kernel))) (by decide +kernel)
theorem tw_1_88 : Cond.lays "NamesOnLetters$Lette\x72" "NamesOnLetters$Lette\x72" "worth" "I" ∈ tblA := tbl_a (tbl_in1 (List.mem_of_getElem? (i := 88) (by decide +kernel))) (by decide +kernel)
theorem tw_1_90 : Cond.lays "NamesOnLetters$Lette\x72" "NamesOnLetters$Lette\x72" "errors" "I" ∈ tblA := tbl_a (tbl_in1 (List.mem_of_getElem? (i := 90) (by decide +kernel))) (by decide +kernel)
theorem tw_1_92 : Cond.lays "NamesOnLetters$Lette\x72" "NamesOnLetters$Lette\x72" "street" "I" ∈ tblA := tbl_a (tbl_in1 (List.mem_of_getElem? (i := 92) (by decide +kernel))) (by decide +kernel)
theorem tw_1_94 : Cond.lays "NamesOnLetters$Lette\x72" "NamesOnLetters$Lette\x72" "day" "I" ∈ tblA := tbl_a (tbl_in1 (List.mem_of_getElem? (i := 94) (by decide +kernel))) (by decide +kernel)
theorem tw_1_96 : Cond.lays "NamesOnLetters$Lette\x72" "NamesOnLetters$Lette\x72" "read" "Z" ∈ tblA := tbl_a (tbl_in1 (List.mem_of_getElem? (i := 96) (by decide +kernel))) (by decide +kernel)
theorem tw_1_98 : Cond.lays "NamesOnLetters$Lette\x72" "NamesOnLetters$Lette\x72" "rung" "Z" ∈ tblA := tbl_a (tbl_in1 (List.mem_of_getElem? (i := 98) (by decide +kernel))) (by decide +kernel)
theorem tw_1_100 : Cond.lays "NamesOnLetters$Lette\x72" "NamesOnLetters$Lette\x72" "afte\x72" "I" ∈ tblA := tbl_a (tbl_in1 (List.mem_of_getElem? (i := 100) (by decide +kernel))) (by decide +kernel)
theorem tw_1_104 : Cond.instantiable "NamesOnLetters$Expression" 4 ∈ tblA := tbl_a (tbl_in1 (List.mem_of_getElem? (i := 104) (by decide +kernel))) (by decide +kernel)
theorem tw_1_105 : Cond.methodLinkNest "NamesOnLetters$Told" 67 ⟨"NamesOnLetters$Expression", "<init>", "()V"⟩ "NamesOnLetters" ∈ tblA := tbl_a (tbl_in1 (List.mem_of_getElem? (i := 105) (by decide +kernel))) (by decide +kernel)
theorem tw_1_106 : Cond.instanceMethod ⟨"NamesOnLetters$Expression", "<init>", "()V"⟩ ∈ tblA := tbl_a (tbl_in1 (List.mem_of_getElem? (i := 106) (by decide +kernel))) (by decide +kernel)
theorem tw_1_108 : Cond.methodLink "NamesOnLetters$Expression" 3 ⟨"java/lang/Object", "<init>", "()V"⟩ ∈ tblA := tbl_a (tbl_in1 (List.mem_of_getElem? (i := 108) (by decide +kernel))) (by decide +kernel)
theorem tw_1_109 : Cond.fieldLink "NamesOnLetters$Expression" 11 "NamesOnLetters$Expression" "code" "[I" ∈ tblA := tbl_a (tbl_in1 (List.mem_of_getElem? (i := 109) (by decide +kernel))) (by decide +kernel)
theorem tw_1_110 : Cond.fieldLink "NamesOnLetters$Expression" 18 "NamesOnLetters$Expression" "length" "I" ∈ tblA := tbl_a (tbl_in1 (List.mem_of_getElem? (i := 110) (by decide +kernel))) (by decide +kernel)
theorem tw_1_111 : Cond.fieldLink "NamesOnLetters$Expression" 15 "NamesOnLetters$Expression" "stack" "[I" ∈ tblA := tbl_a (tbl_in1 (List.mem_of_getElem? (i := 111) (by decide +kernel))) (by decide +kernel)
theorem tw_1_112 : Cond.fieldLink "NamesOnLetters$Expression" 48 "NamesOnLetters$Expression" "top" "I" ∈ tblA := tbl_a (tbl_in1 (List.mem_of_getElem? (i := 112) (by decide +kernel))) (by decide +kernel)
theorem tw_1_113 : Cond.laysFinal "NamesOnLetters$Expression" "NamesOnLetters$Expression" "code" "[I" ∈ tblA := tbl_a (tbl_in1 (List.mem_of_getElem? (i := 113) (by decide +kernel))) (by decide +kernel)
theorem tw_1_115 : Cond.lays "NamesOnLetters$Expression" "NamesOnLetters$Expression" "length" "I" ∈ tblA := tbl_a (tbl_in1 (List.mem_of_getElem? (i := 115) (by decide +kernel))) (by decide +kernel)
theorem tw_1_117 : Cond.laysFinal "NamesOnLetters$Expression" "NamesOnLetters$Expression" "stack" "[I" ∈ tblA := tbl_a (tbl_in1 (List.mem_of_getElem? (i := 117) (by decide +kernel))) (by decide +kernel)
theorem tw_1_119 : Cond.lays "NamesOnLetters$Expression" "NamesOnLetters$Expression" "top" "I" ∈ tblA := tbl_a (tbl_in1 (List.mem_of_getElem? (i := 119) (by decide +kernel))) (by decide +kernel)
theorem tw_1_122 : Cond.fieldLink "NamesOnLetters$Told" 9 "NamesOnLetters$Told" "people" "[I" ∈ tblA := tbl_a (tbl_in1 (List.mem_of_getElem? (i := 122) (by decide +kernel))) (by decide +kernel)
theorem tw_1_123 : Cond.fieldLinkNest "NamesOnLetters$Shares" 160 "NamesOnLetters$Told" "people" "[I" "NamesOnLetters" ∈ tblA := tbl_a (tbl_in1 (List.mem_of_getElem? (i := 123) (by decide +kernel))) (by decide +kernel)
theorem tw_1_124 : Cond.fieldLink "NamesOnLetters$Told" 15 "NamesOnLetters$Told" "sex" "[I" ∈ tblA := tbl_a (tbl_in1 (List.mem_of_getElem? (i := 124) (by decide +kernel))) (by decide +kernel)
theorem tw_1_125 : Cond.fieldLinkNest "NamesOnLetters$Shares" 180 "NamesOnLetters$Told" "sex" "[I" "NamesOnLetters" ∈ tblA := tbl_a (tbl_in1 (List.mem_of_getElem? (i := 125) (by decide +kernel))) (by decide +kernel)
theorem tw_1_126 : Cond.fieldLink "NamesOnLetters$Told" 18 "NamesOnLetters$Told" "level" "[I" ∈ tblA := tbl_a (tbl_in1 (List.mem_of_getElem? (i := 126) (by decide +kernel))) (by decide +kernel)
theorem tw_1_127 : Cond.fieldLinkNest "NamesOnLetters$Shares" 183 "NamesOnLetters$Told" "level" "[I" "NamesOnLetters" ∈ tblA := tbl_a (tbl_in1 (List.mem_of_getElem? (i := 127) (by decide +kernel))) (by decide +kernel)
theorem tw_1_128 : Cond.fieldLink "NamesOnLetters$Told" 21 "NamesOnLetters$Told" "taken" "[I" ∈ tblA := tbl_a (tbl_in1 (List.mem_of_getElem? (i := 128) (by decide +kernel))) (by decide +kernel)
theorem tw_1_129 : Cond.fieldLinkNest "NamesOnLetters$Shares" 186 "NamesOnLetters$Told" "taken" "[I" "NamesOnLetters" ∈ tblA := tbl_a (tbl_in1 (List.mem_of_getElem? (i := 129) (by decide +kernel))) (by decide +kernel)
theorem tw_1_130 : Cond.fieldLink "NamesOnLetters$Told" 68 "NamesOnLetters$Told" "nameCount" "I" ∈ tblA := tbl_a (tbl_in1 (List.mem_of_getElem? (i := 130) (by decide +kernel))) (by decide +kernel)
theorem tw_1_131 : Cond.fieldLinkNest "NamesOnLetters" 70 "NamesOnLetters$Told" "nameCount" "I" "NamesOnLetters" ∈ tblA := tbl_a (tbl_in1 (List.mem_of_getElem? (i := 131) (by decide +kernel))) (by decide +kernel)
theorem tw_1_132 : Cond.fieldLinkNest "NamesOnLetters$Shares" 148 "NamesOnLetters$Told" "nameCount" "I" "NamesOnLetters" ∈ tblA := tbl_a (tbl_in1 (List.mem_of_getElem? (i := 132) (by decide +kernel))) (by decide +kernel)
theorem tw_1_133 : Cond.fieldLink "NamesOnLetters$Told" 24 "NamesOnLetters$Told" "trade" "[I" ∈ tblA := tbl_a (tbl_in1 (List.mem_of_getElem? (i := 133) (by decide +kernel))) (by decide +kernel)
theorem tw_1_134 : Cond.fieldLinkNest "NamesOnLetters$Explained" 36 "NamesOnLetters$Told" "trade" "[I" "NamesOnLetters" ∈ tblA := tbl_a (tbl_in1 (List.mem_of_getElem? (i := 134) (by decide +kernel))) (by decide +kernel)
theorem tw_1_135 : Cond.fieldLink "NamesOnLetters$Told" 27 "NamesOnLetters$Told" "town" "[I" ∈ tblA := tbl_a (tbl_in1 (List.mem_of_getElem? (i := 135) (by decide +kernel))) (by decide +kernel)
theorem tw_1_136 : Cond.fieldLinkNest "NamesOnLetters$Explained" 45 "NamesOnLetters$Told" "town" "[I" "NamesOnLetters" ∈ tblA := tbl_a (tbl_in1 (List.mem_of_getElem? (i := 136) (by decide +kernel))) (by decide +kernel)
theorem tw_1_137 : Cond.fieldLink "NamesOnLetters$Told" 30 "NamesOnLetters$Told" "lawOf" "[I" ∈ tblA := tbl_a (tbl_in1 (List.mem_of_getElem? (i := 137) (by decide +kernel))) (by decide +kernel)
theorem tw_1_138 : Cond.fieldLink "NamesOnLetters$Told" 71 "NamesOnLetters$Told" "houseCount" "I" ∈ tblA := tbl_a (tbl_in1 (List.mem_of_getElem? (i := 138) (by decide +kernel))) (by decide +kernel)
theorem tw_1_139 : Cond.fieldLinkNest "NamesOnLetters$Kinds" 76 "NamesOnLetters$Told" "houseCount" "I" "NamesOnLetters" ∈ tblA := tbl_a (tbl_in1 (List.mem_of_getElem? (i := 139) (by decide +kernel))) (by decide +kernel)
theorem tw_1_140 : Cond.fieldLinkNest "NamesOnLetters" 78 "NamesOnLetters$Told" "houseCount" "I" "NamesOnLetters" ∈ tblA := tbl_a (tbl_in1 (List.mem_of_getElem? (i := 140) (by decide +kernel))) (by decide +kernel)
theorem tw_1_141 : Cond.fieldLinkNest "NamesOnLetters$Shares" 131 "NamesOnLetters$Told" "houseCount" "I" "NamesOnLetters" ∈ tblA := tbl_a (tbl_in1 (List.mem_of_getElem? (i := 141) (by decide +kernel))) (by decide +kernel)
theorem tw_1_142 : Cond.fieldLinkNest "NamesOnLetters$Explained" 135 "NamesOnLetters$Told" "houseCount" "I" "NamesOnLetters" ∈ tblA := tbl_a (tbl_in1 (List.mem_of_getElem? (i := 142) (by decide +kernel))) (by decide +kernel)
theorem tw_1_143 : Cond.fieldLink "NamesOnLetters$Told" 35 "NamesOnLetters$Told" "letters" "[LNamesOnLetters$Letter;" ∈ tblA := tbl_a (tbl_in1 (List.mem_of_getElem? (i := 143) (by decide +kernel))) (by decide +kernel)
theorem tw_1_144 : Cond.fieldLinkNest "NamesOnLetters$Kinds" 55 "NamesOnLetters$Told" "letters" "[LNamesOnLetters$Letter;" "NamesOnLetters" ∈ tblA := tbl_a (tbl_in1 (List.mem_of_getElem? (i := 144) (by decide +kernel))) (by decide +kernel)
theorem tw_1_145 : Cond.fieldLinkNest "NamesOnLetters$Shares" 58 "NamesOnLetters$Told" "letters" "[LNamesOnLetters$Letter;" "NamesOnLetters" ∈ tblA := tbl_a (tbl_in1 (List.mem_of_getElem? (i := 145) (by decide +kernel))) (by decide +kernel)
theorem tw_1_146 : Cond.fieldLinkNest "NamesOnLetters$Machine" 54 "NamesOnLetters$Told" "letters" "[LNamesOnLetters$Letter;" "NamesOnLetters" ∈ tblA := tbl_a (tbl_in1 (List.mem_of_getElem? (i := 146) (by decide +kernel))) (by decide +kernel)
theorem tw_1_147 : Cond.fieldLinkNest "NamesOnLetters$Explained" 57 "NamesOnLetters$Told" "letters" "[LNamesOnLetters$Letter;" "NamesOnLetters" ∈ tblA := tbl_a (tbl_in1 (List.mem_of_getElem? (i := 147) (by decide +kernel))) (by decide +kernel)
theorem tw_1_148 : Cond.fieldLinkNest "NamesOnLetters" 118 "NamesOnLetters$Told" "letters" "[LNamesOnLetters$Letter;" "NamesOnLetters" ∈ tblA := tbl_a (tbl_in1 (List.mem_of_getElem? (i := 148) (by decide +kernel))) (by decide +kernel)
theorem tw_1_149 : Cond.fieldLinkNest "NamesOnLetters$Kinds" 49 "NamesOnLetters$Told" "letterCount" "I" "NamesOnLetters" ∈ tblA := tbl_a (tbl_in1 (List.mem_of_getElem? (i := 149) (by decide +kernel))) (by decide +kernel)
theorem tw_1_150 : Cond.fieldLinkNest "NamesOnLetters$Shares" 52 "NamesOnLetters$Told" "letterCount" "I" "NamesOnLetters" ∈ tblA := tbl_a (tbl_in1 (List.mem_of_getElem? (i := 150) (by decide +kernel))) (by decide +kernel)
theorem tw_1_151 : Cond.fieldLinkNest "NamesOnLetters$Machine" 51 "NamesOnLetters$Told" "letterCount" "I" "NamesOnLetters" ∈ tblA := tbl_a (tbl_in1 (List.mem_of_getElem? (i := 151) (by decide +kernel))) (by decide +kernel)
theorem tw_1_152 : Cond.fieldLinkNest "NamesOnLetters$Explained" 54 "NamesOnLetters$Told" "letterCount" "I" "NamesOnLetters" ∈ tblA := tbl_a (tbl_in1 (List.mem_of_getElem? (i := 152) (by decide +kernel))) (by decide +kernel)
theorem tw_1_153 : Cond.fieldLink "NamesOnLetters$Told" 74 "NamesOnLetters$Told" "letterCount" "I" ∈ tblA := tbl_a (tbl_in1 (List.mem_of_getElem? (i := 153) (by decide +kernel))) (by decide +kernel)
theorem tw_1_154 : Cond.fieldLinkNest "NamesOnLetters" 91 "NamesOnLetters$Told" "letterCount" "I" "NamesOnLetters" ∈ tblA := tbl_a (tbl_in1 (List.mem_of_getElem? (i := 154) (by decide +kernel))) (by decide +kernel)
theorem tw_1_155 : Cond.fieldLink "NamesOnLetters$Told" 41 "NamesOnLetters$Told" "laws" "[LNamesOnLetters$Expression;" ∈ tblA := tbl_a (tbl_in1 (List.mem_of_getElem? (i := 155) (by decide +kernel))) (by decide +kernel)
theorem tw_1_156 : Cond.fieldLinkNest "NamesOnLetters$Machine" 65 "NamesOnLetters$Told" "laws" "[LNamesOnLetters$Expression;" "NamesOnLetters" ∈ tblA := tbl_a (tbl_in1 (List.mem_of_getElem? (i := 156) (by decide +kernel))) (by decide +kernel)
theorem tw_1_157 : Cond.fieldLinkNest "NamesOnLetters" 129 "NamesOnLetters$Told" "laws" "[LNamesOnLetters$Expression;" "NamesOnLetters" ∈ tblA := tbl_a (tbl_in1 (List.mem_of_getElem? (i := 157) (by decide +kernel))) (by decide +kernel)
theorem tw_1_158 : Cond.fieldLink "NamesOnLetters$Told" 45 "NamesOnLetters$Told" "filters" "[LNamesOnLetters$Expression;" ∈ tblA := tbl_a (tbl_in1 (List.mem_of_getElem? (i := 158) (by decide +kernel))) (by decide +kernel)
theorem tw_1_159 : Cond.fieldLinkNest "NamesOnLetters" 137 "NamesOnLetters$Told" "filters" "[LNamesOnLetters$Expression;" "NamesOnLetters" ∈ tblA := tbl_a (tbl_in1 (List.mem_of_getElem? (i := 159) (by decide +kernel))) (by decide +kernel)
theorem tw_1_160 : Cond.fieldLink "NamesOnLetters$Told" 48 "NamesOnLetters$Told" "things" "[I" ∈ tblA := tbl_a (tbl_in1 (List.mem_of_getElem? (i := 160) (by decide +kernel))) (by decide +kernel)
theorem tw_1_161 : Cond.fieldLinkNest "NamesOnLetters$Machine" 69 "NamesOnLetters$Told" "things" "[I" "NamesOnLetters" ∈ tblA := tbl_a (tbl_in1 (List.mem_of_getElem? (i := 161) (by decide +kernel))) (by decide +kernel)
theorem tw_1_162 : Cond.fieldLink "NamesOnLetters$Told" 51 "NamesOnLetters$Told" "\x72" "I" ∈ tblA := tbl_a (tbl_in1 (List.mem_of_getElem? (i := 162) (by decide +kernel))) (by decide +kernel)
theorem tw_1_163 : Cond.fieldLinkNest "NamesOnLetters" 174 "NamesOnLetters$Told" "\x72" "I" "NamesOnLetters" ∈ tblA := tbl_a (tbl_in1 (List.mem_of_getElem? (i := 163) (by decide +kernel))) (by decide +kernel)
theorem tw_1_164 : Cond.fieldLink "NamesOnLetters$Told" 55 "NamesOnLetters$Told" "keptCount" "[I" ∈ tblA := tbl_a (tbl_in1 (List.mem_of_getElem? (i := 164) (by decide +kernel))) (by decide +kernel)
theorem tw_1_165 : Cond.fieldLink "NamesOnLetters$Told" 58 "NamesOnLetters$Told" "keptR" "[I" ∈ tblA := tbl_a (tbl_in1 (List.mem_of_getElem? (i := 165) (by decide +kernel))) (by decide +kernel)
theorem tw_1_166 : Cond.fieldLink "NamesOnLetters$Told" 63 "NamesOnLetters$Told" "keptState" "[[I" ∈ tblA := tbl_a (tbl_in1 (List.mem_of_getElem? (i := 166) (by decide +kernel))) (by decide +kernel)
theorem tw_1_167 : Cond.laysFinal "NamesOnLetters$Told" "NamesOnLetters$Told" "people" "[I" ∈ tblA := tbl_a (tbl_in1 (List.mem_of_getElem? (i := 167) (by decide +kernel))) (by decide +kernel)
theorem tw_1_169 : Cond.laysFinal "NamesOnLetters$Told" "NamesOnLetters$Told" "sex" "[I" ∈ tblA := tbl_a (tbl_in1 (List.mem_of_getElem? (i := 169) (by decide +kernel))) (by decide +kernel)
theorem tw_1_171 : Cond.laysFinal "NamesOnLetters$Told" "NamesOnLetters$Told" "level" "[I" ∈ tblA := tbl_a (tbl_in1 (List.mem_of_getElem? (i := 171) (by decide +kernel))) (by decide +kernel)
theorem tw_1_173 : Cond.laysFinal "NamesOnLetters$Told" "NamesOnLetters$Told" "taken" "[I" ∈ tblA := tbl_a (tbl_in1 (List.mem_of_getElem? (i := 173) (by decide +kernel))) (by decide +kernel)
theorem tw_1_175 : Cond.lays "NamesOnLetters$Told" "NamesOnLetters$Told" "nameCount" "I" ∈ tblA := tbl_a (tbl_in1 (List.mem_of_getElem? (i := 175) (by decide +kernel))) (by decide +kernel)
theorem tw_1_177 : Cond.laysFinal "NamesOnLetters$Told" "NamesOnLetters$Told" "trade" "[I" ∈ tblA := tbl_a (tbl_in1 (List.mem_of_getElem? (i := 177) (by decide +kernel))) (by decide +kernel)
theorem tw_1_179 : Cond.laysFinal "NamesOnLetters$Told" "NamesOnLetters$Told" "town" "[I" ∈ tblA := tbl_a (tbl_in1 (List.mem_of_getElem? (i := 179) (by decide +kernel))) (by decide +kernel)
theorem tw_1_181 : Cond.laysFinal "NamesOnLetters$Told" "NamesOnLetters$Told" "lawOf" "[I" ∈ tblA := tbl_a (tbl_in1 (List.mem_of_getElem? (i := 181) (by decide +kernel))) (by decide +kernel)
theorem tw_1_183 : Cond.lays "NamesOnLetters$Told" "NamesOnLetters$Told" "houseCount" "I" ∈ tblA := tbl_a (tbl_in1 (List.mem_of_getElem? (i := 183) (by decide +kernel))) (by decide +kernel)
theorem tw_1_185 : Cond.laysFinal "NamesOnLetters$Told" "NamesOnLetters$Told" "letters" "[LNamesOnLetters$Letter;" ∈ tblA := tbl_a (tbl_in1 (List.mem_of_getElem? (i := 185) (by decide +kernel))) (by decide +kernel)
theorem tw_1_187 : Cond.lays "NamesOnLetters$Told" "NamesOnLetters$Told" "letterCount" "I" ∈ tblA := tbl_a (tbl_in1 (List.mem_of_getElem? (i := 187) (by decide +kernel))) (by decide +kernel)
theorem tw_1_189 : Cond.laysFinal "NamesOnLetters$Told" "NamesOnLetters$Told" "laws" "[LNamesOnLetters$Expression;" ∈ tblA := tbl_a (tbl_in1 (List.mem_of_getElem? (i := 189) (by decide +kernel))) (by decide +kernel)
theorem tw_1_191 : Cond.laysFinal "NamesOnLetters$Told" "NamesOnLetters$Told" "filters" "[LNamesOnLetters$Expression;" ∈ tblA := tbl_a (tbl_in1 (List.mem_of_getElem? (i := 191) (by decide +kernel))) (by decide +kernel)
theorem tw_1_193 : Cond.laysFinal "NamesOnLetters$Told" "NamesOnLetters$Told" "things" "[I" ∈ tblA := tbl_a (tbl_in1 (List.mem_of_getElem? (i := 193) (by decide +kernel))) (by decide +kernel)
theorem tw_1_195 : Cond.lays "NamesOnLetters$Told" "NamesOnLetters$Told" "\x72" "I" ∈ tblA := tbl_a (tbl_in1 (List.mem_of_getElem? (i := 195) (by decide +kernel))) (by decide +kernel)
theorem tw_1_197 : Cond.laysFinal "NamesOnLetters$Told" "NamesOnLetters$Told" "keptCount" "[I" ∈ tblA := tbl_a (tbl_in1 (List.mem_of_getElem? (i := 197) (by decide +kernel))) (by decide +kernel)
theorem tw_1_199 : Cond.laysFinal "NamesOnLetters$Told" "NamesOnLetters$Told" "keptR" "[I" ∈ tblA := tbl_a (tbl_in1 (List.mem_of_getElem? (i := 199) (by decide +kernel))) (by decide +kernel)
theorem tw_1_201 : Cond.laysFinal "NamesOnLetters$Told" "NamesOnLetters$Told" "keptState" "[[I" ∈ tblA := tbl_a (tbl_in1 (List.mem_of_getElem? (i := 201) (by decide +kernel))) (by decide +kernel)
theorem tw_1_204 : Cond.classLink "NamesOnLetters" 16 "NamesOnLetters$Row" ∈ tblA := tbl_a (tbl_in1 (List.mem_of_getElem? (i := 204) (by decide +kernel))) (by decide +kernel)
theorem tw_1_205 : Cond.instantiable "NamesOnLetters$Row" 2 ∈ tblA := tbl_a (tbl_in1 (List.mem_of_getElem? (i := 205) (by decide +kernel))) (by decide +kernel)
theorem tw_1_206 : Cond.methodLinkNest "NamesOnLetters" 18 ⟨"NamesOnLetters$Row", "<init>", "()V"⟩ "NamesOnLetters" ∈ tblA := tbl_a (tbl_in1 (List.mem_of_getElem? (i := 206) (by decide +kernel))) (by decide +kernel)
theorem tw_1_207 : Cond.instanceMethod ⟨"NamesOnLetters$Row", "<init>", "()V"⟩ ∈ tblA := tbl_a (tbl_in1 (List.mem_of_getElem? (i := 207) (by decide +kernel))) (by decide +kernel)
theorem tw_1_209 : Cond.methodLink "NamesOnLetters$Row" 1 ⟨"java/lang/Object", "<init>", "()V"⟩ ∈ tblA := tbl_a (tbl_in1 (List.mem_of_getElem? (i := 209) (by decide +kernel))) (by decide +kernel)
theorem tw_1_210 : Cond.fieldLink "NamesOnLetters$Row" 9 "NamesOnLetters$Row" "numbers" "[J" ∈ tblA := tbl_a (tbl_in1 (List.mem_of_getElem? (i := 210) (by decide +kernel))) (by decide +kernel)
theorem tw_1_211 : Cond.fieldLinkNest "NamesOnLetters" 290 "NamesOnLetters$Row" "numbers" "[J" "NamesOnLetters" ∈ tblA := tbl_a (tbl_in1 (List.mem_of_getElem? (i := 211) (by decide +kernel))) (by decide +kernel)
theorem tw_1_212 : Cond.fieldLink "NamesOnLetters$Row" 13 "NamesOnLetters$Row" "size" "I" ∈ tblA := tbl_a (tbl_in1 (List.mem_of_getElem? (i := 212) (by decide +kernel))) (by decide +kernel)
theorem tw_1_213 : Cond.fieldLinkNest "NamesOnLetters" 285 "NamesOnLetters$Row" "size" "I" "NamesOnLetters" ∈ tblA := tbl_a (tbl_in1 (List.mem_of_getElem? (i := 213) (by decide +kernel))) (by decide +kernel)
theorem tw_1_214 : Cond.laysFinal "NamesOnLetters$Row" "NamesOnLetters$Row" "numbers" "[J" ∈ tblA := tbl_a (tbl_in1 (List.mem_of_getElem? (i := 214) (by decide +kernel))) (by decide +kernel)
theorem tw_1_216 : Cond.lays "NamesOnLetters$Row" "NamesOnLetters$Row" "size" "I" ∈ tblA := tbl_a (tbl_in1 (List.mem_of_getElem? (i := 216) (by decide +kernel))) (by decide +kernel)
theorem tw_1_220 : Cond.classLink "NamesOnLetters" 23 "NamesOnLetters$Shares" ∈ tblA := tbl_a (tbl_in1 (List.mem_of_getElem? (i := 220) (by decide +kernel))) (by decide +kernel)
theorem tw_1_221 : Cond.instantiable "NamesOnLetters$Shares" 10 ∈ tblA := tbl_a (tbl_in1 (List.mem_of_getElem? (i := 221) (by decide +kernel))) (by decide +kernel)
theorem tw_1_222 : Cond.methodLinkNest "NamesOnLetters" 25 ⟨"NamesOnLetters$Shares", "<init>", "(LNamesOnLetters$Told;LNamesOnLetters$Row;)V"⟩ "NamesOnLetters" ∈ tblA := tbl_a (tbl_in1 (List.mem_of_getElem? (i := 222) (by decide +kernel))) (by decide +kernel)
theorem tw_1_223 : Cond.instanceMethod ⟨"NamesOnLetters$Shares", "<init>", "(LNamesOnLetters$Told;LNamesOnLetters$Row;)V"⟩ ∈ tblA := tbl_a (tbl_in1 (List.mem_of_getElem? (i := 223) (by decide +kernel))) (by decide +kernel)
theorem tw_1_225 : Cond.methodLink "NamesOnLetters$Shares" 3 ⟨"java/lang/Object", "<init>", "()V"⟩ ∈ tblA := tbl_a (tbl_in1 (List.mem_of_getElem? (i := 225) (by decide +kernel))) (by decide +kernel)
theorem tw_1_226 : Cond.classLink "NamesOnLetters$Shares" 9 "NamesOnLetters$Tally" ∈ tblA := tbl_a (tbl_in1 (List.mem_of_getElem? (i := 226) (by decide +kernel))) (by decide +kernel)
theorem tw_1_227 : Cond.instantiable "NamesOnLetters$Tally" 2 ∈ tblA := tbl_a (tbl_in1 (List.mem_of_getElem? (i := 227) (by decide +kernel))) (by decide +kernel)
theorem tw_1_228 : Cond.methodLinkNest "NamesOnLetters$Shares" 11 ⟨"NamesOnLetters$Tally", "<init>", "()V"⟩ "NamesOnLetters" ∈ tblA := tbl_a (tbl_in1 (List.mem_of_getElem? (i := 228) (by decide +kernel))) (by decide +kernel)
theorem tw_1_229 : Cond.instanceMethod ⟨"NamesOnLetters$Tally", "<init>", "()V"⟩ ∈ tblA := tbl_a (tbl_in1 (List.mem_of_getElem? (i := 229) (by decide +kernel))) (by decide +kernel)
theorem tw_1_231 : Cond.methodLink "NamesOnLetters$Tally" 1 ⟨"java/lang/Object", "<init>", "()V"⟩ ∈ tblA := tbl_a (tbl_in1 (List.mem_of_getElem? (i := 231) (by decide +kernel))) (by decide +kernel)
theorem tw_1_232 : Cond.fieldLink "NamesOnLetters$Tally" 7 "NamesOnLetters$Tally" "letters" "[I" ∈ tblA := tbl_a (tbl_in1 (List.mem_of_getElem? (i := 232) (by decide +kernel))) (by decide +kernel)
theorem tw_1_233 : Cond.fieldLinkNest "NamesOnLetters$Shares" 117 "NamesOnLetters$Tally" "letters" "[I" "NamesOnLetters" ∈ tblA := tbl_a (tbl_in1 (List.mem_of_getElem? (i := 233) (by decide +kernel))) (by decide +kernel)
theorem tw_1_234 : Cond.fieldLinkNest "NamesOnLetters$Explained" 104 "NamesOnLetters$Tally" "letters" "[I" "NamesOnLetters" ∈ tblA := tbl_a (tbl_in1 (List.mem_of_getElem? (i := 234) (by decide +kernel))) (by decide +kernel)
theorem tw_1_235 : Cond.fieldLink "NamesOnLetters$Tally" 13 "NamesOnLetters$Tally" "rung" "[I" ∈ tblA := tbl_a (tbl_in1 (List.mem_of_getElem? (i := 235) (by decide +kernel))) (by decide +kernel)
theorem tw_1_236 : Cond.fieldLinkNest "NamesOnLetters$Shares" 100 "NamesOnLetters$Tally" "rung" "[I" "NamesOnLetters" ∈ tblA := tbl_a (tbl_in1 (List.mem_of_getElem? (i := 236) (by decide +kernel))) (by decide +kernel)
theorem tw_1_237 : Cond.fieldLinkNest "NamesOnLetters$Explained" 98 "NamesOnLetters$Tally" "rung" "[I" "NamesOnLetters" ∈ tblA := tbl_a (tbl_in1 (List.mem_of_getElem? (i := 237) (by decide +kernel))) (by decide +kernel)
theorem tw_1_238 : Cond.laysFinal "NamesOnLetters$Tally" "NamesOnLetters$Tally" "letters" "[I" ∈ tblA := tbl_a (tbl_in1 (List.mem_of_getElem? (i := 238) (by decide +kernel))) (by decide +kernel)
theorem tw_2_0 : Cond.laysFinal "NamesOnLetters$Tally" "NamesOnLetters$Tally" "rung" "[I" ∈ tblA := tbl_a (tbl_in2 (List.mem_of_getElem? (i := 0) (by decide +kernel))) (by decide +kernel)
theorem tw_2_3 : Cond.fieldLink "NamesOnLetters$Shares" 41 "NamesOnLetters$Shares" "told" "LNamesOnLetters$Told;" ∈ tblA := tbl_a (tbl_in2 (List.mem_of_getElem? (i := 3) (by decide +kernel))) (by decide +kernel)
theorem tw_2_4 : Cond.fieldLink "NamesOnLetters$Shares" 45 "NamesOnLetters$Shares" "row" "LNamesOnLetters$Row;" ∈ tblA := tbl_a (tbl_in2 (List.mem_of_getElem? (i := 4) (by decide +kernel))) (by decide +kernel)
theorem tw_2_5 : Cond.fieldLink "NamesOnLetters$Shares" 12 "NamesOnLetters$Shares" "all" "LNamesOnLetters$Tally;" ∈ tblA := tbl_a (tbl_in2 (List.mem_of_getElem? (i := 5) (by decide +kernel))) (by decide +kernel)
theorem tw_2_6 : Cond.fieldLink "NamesOnLetters$Shares" 18 "NamesOnLetters$Shares" "part" "LNamesOnLetters$Tally;" ∈ tblA := tbl_a (tbl_in2 (List.mem_of_getElem? (i := 6) (by decide +kernel))) (by decide +kernel)
theorem tw_2_7 : Cond.fieldLink "NamesOnLetters$Shares" 21 "NamesOnLetters$Shares" "rest" "LNamesOnLetters$Tally;" ∈ tblA := tbl_a (tbl_in2 (List.mem_of_getElem? (i := 7) (by decide +kernel))) (by decide +kernel)
theorem tw_2_8 : Cond.fieldLink "NamesOnLetters$Shares" 24 "NamesOnLetters$Shares" "ways" "[J" ∈ tblA := tbl_a (tbl_in2 (List.mem_of_getElem? (i := 8) (by decide +kernel))) (by decide +kernel)
theorem tw_2_9 : Cond.fieldLink "NamesOnLetters$Shares" 28 "NamesOnLetters$Shares" "lettersOf" "[I" ∈ tblA := tbl_a (tbl_in2 (List.mem_of_getElem? (i := 9) (by decide +kernel))) (by decide +kernel)
theorem tw_2_10 : Cond.fieldLink "NamesOnLetters$Shares" 32 "NamesOnLetters$Shares" "rungOf" "[I" ∈ tblA := tbl_a (tbl_in2 (List.mem_of_getElem? (i := 10) (by decide +kernel))) (by decide +kernel)
theorem tw_2_11 : Cond.fieldLink "NamesOnLetters$Shares" 35 "NamesOnLetters$Shares" "met" "[I" ∈ tblA := tbl_a (tbl_in2 (List.mem_of_getElem? (i := 11) (by decide +kernel))) (by decide +kernel)
theorem tw_2_12 : Cond.fieldLink "NamesOnLetters$Shares" 38 "NamesOnLetters$Shares" "scaled" "[J" ∈ tblA := tbl_a (tbl_in2 (List.mem_of_getElem? (i := 12) (by decide +kernel))) (by decide +kernel)
theorem tw_2_13 : Cond.laysFinal "NamesOnLetters$Shares" "NamesOnLetters$Shares" "told" "LNamesOnLetters$Told;" ∈ tblA := tbl_a (tbl_in2 (List.mem_of_getElem? (i := 13) (by decide +kernel))) (by decide +kernel)
theorem tw_2_15 : Cond.laysFinal "NamesOnLetters$Shares" "NamesOnLetters$Shares" "row" "LNamesOnLetters$Row;" ∈ tblA := tbl_a (tbl_in2 (List.mem_of_getElem? (i := 15) (by decide +kernel))) (by decide +kernel)
theorem tw_2_17 : Cond.laysFinal "NamesOnLetters$Shares" "NamesOnLetters$Shares" "all" "LNamesOnLetters$Tally;" ∈ tblA := tbl_a (tbl_in2 (List.mem_of_getElem? (i := 17) (by decide +kernel))) (by decide +kernel)
theorem tw_2_19 : Cond.laysFinal "NamesOnLetters$Shares" "NamesOnLetters$Shares" "part" "LNamesOnLetters$Tally;" ∈ tblA := tbl_a (tbl_in2 (List.mem_of_getElem? (i := 19) (by decide +kernel))) (by decide +kernel)
theorem tw_2_21 : Cond.laysFinal "NamesOnLetters$Shares" "NamesOnLetters$Shares" "rest" "LNamesOnLetters$Tally;" ∈ tblA := tbl_a (tbl_in2 (List.mem_of_getElem? (i := 21) (by decide +kernel))) (by decide +kernel)
theorem tw_2_23 : Cond.laysFinal "NamesOnLetters$Shares" "NamesOnLetters$Shares" "ways" "[J" ∈ tblA := tbl_a (tbl_in2 (List.mem_of_getElem? (i := 23) (by decide +kernel))) (by decide +kernel)
theorem tw_2_25 : Cond.laysFinal "NamesOnLetters$Shares" "NamesOnLetters$Shares" "lettersOf" "[I" ∈ tblA := tbl_a (tbl_in2 (List.mem_of_getElem? (i := 25) (by decide +kernel))) (by decide +kernel)
theorem tw_2_27 : Cond.laysFinal "NamesOnLetters$Shares" "NamesOnLetters$Shares" "rungOf" "[I" ∈ tblA := tbl_a (tbl_in2 (List.mem_of_getElem? (i := 27) (by decide +kernel))) (by decide +kernel)
theorem tw_2_29 : Cond.laysFinal "NamesOnLetters$Shares" "NamesOnLetters$Shares" "met" "[I" ∈ tblA := tbl_a (tbl_in2 (List.mem_of_getElem? (i := 29) (by decide +kernel))) (by decide +kernel)
theorem tw_2_31 : Cond.laysFinal "NamesOnLetters$Shares" "NamesOnLetters$Shares" "scaled" "[J" ∈ tblA := tbl_a (tbl_in2 (List.mem_of_getElem? (i := 31) (by decide +kernel))) (by decide +kernel)
theorem tw_2_34 : Cond.classLink "NamesOnLetters" 32 "NamesOnLetters$Kinds" ∈ tblA := tbl_a (tbl_in2 (List.mem_of_getElem? (i := 34) (by decide +kernel))) (by decide +kernel)
theorem tw_2_35 : Cond.instantiable "NamesOnLetters$Kinds" 9 ∈ tblA := tbl_a (tbl_in2 (List.mem_of_getElem? (i := 35) (by decide +kernel))) (by decide +kernel)
theorem tw_2_36 : Cond.methodLinkNest "NamesOnLetters" 34 ⟨"NamesOnLetters$Kinds", "<init>", "(LNamesOnLetters$Told;LNamesOnLetters$Row;)V"⟩ "NamesOnLetters" ∈ tblA := tbl_a (tbl_in2 (List.mem_of_getElem? (i := 36) (by decide +kernel))) (by decide +kernel)
theorem tw_2_37 : Cond.instanceMethod ⟨"NamesOnLetters$Kinds", "<init>", "(LNamesOnLetters$Told;LNamesOnLetters$Row;)V"⟩ ∈ tblA := tbl_a (tbl_in2 (List.mem_of_getElem? (i := 37) (by decide +kernel))) (by decide +kernel)
theorem tw_2_39 : Cond.methodLink "NamesOnLetters$Kinds" 3 ⟨"java/lang/Object", "<init>", "()V"⟩ ∈ tblA := tbl_a (tbl_in2 (List.mem_of_getElem? (i := 39) (by decide +kernel))) (by decide +kernel)
theorem tw_2_40 : Cond.classLink "NamesOnLetters$Kinds" 21 "[[J" ∈ tblA := tbl_a (tbl_in2 (List.mem_of_getElem? (i := 40) (by decide +kernel))) (by decide +kernel)
theorem tw_2_42 : Cond.classLink "NamesOnLetters$Kinds" 29 "NamesOnLetters$Big" ∈ tblA := tbl_a (tbl_in2 (List.mem_of_getElem? (i := 42) (by decide +kernel))) (by decide +kernel)
theorem tw_2_43 : Cond.instantiable "NamesOnLetters$Big" 2 ∈ tblA := tbl_a (tbl_in2 (List.mem_of_getElem? (i := 43) (by decide +kernel))) (by decide +kernel)
theorem tw_2_44 : Cond.methodLinkNest "NamesOnLetters$Kinds" 31 ⟨"NamesOnLetters$Big", "<init>", "(I)V"⟩ "NamesOnLetters" ∈ tblA := tbl_a (tbl_in2 (List.mem_of_getElem? (i := 44) (by decide +kernel))) (by decide +kernel)
theorem tw_2_45 : Cond.instanceMethod ⟨"NamesOnLetters$Big", "<init>", "(I)V"⟩ ∈ tblA := tbl_a (tbl_in2 (List.mem_of_getElem? (i := 45) (by decide +kernel))) (by decide +kernel)
theorem tw_2_47 : Cond.methodLink "NamesOnLetters$Big" 1 ⟨"java/lang/Object", "<init>", "()V"⟩ ∈ tblA := tbl_a (tbl_in2 (List.mem_of_getElem? (i := 47) (by decide +kernel))) (by decide +kernel)
theorem tw_2_48 : Cond.fieldLink "NamesOnLetters$Big" 7 "NamesOnLetters$Big" "limbs" "[J" ∈ tblA := tbl_a (tbl_in2 (List.mem_of_getElem? (i := 48) (by decide +kernel))) (by decide +kernel)
theorem tw_2_49 : Cond.fieldLink "NamesOnLetters$Big" 13 "NamesOnLetters$Big" "used" "I" ∈ tblA := tbl_a (tbl_in2 (List.mem_of_getElem? (i := 49) (by decide +kernel))) (by decide +kernel)
theorem tw_2_50 : Cond.laysFinal "NamesOnLetters$Big" "NamesOnLetters$Big" "limbs" "[J" ∈ tblA := tbl_a (tbl_in2 (List.mem_of_getElem? (i := 50) (by decide +kernel))) (by decide +kernel)
theorem tw_2_52 : Cond.lays "NamesOnLetters$Big" "NamesOnLetters$Big" "used" "I" ∈ tblA := tbl_a (tbl_in2 (List.mem_of_getElem? (i := 52) (by decide +kernel))) (by decide +kernel)
theorem tw_2_55 : Cond.fieldLink "NamesOnLetters$Kinds" 41 "NamesOnLetters$Kinds" "told" "LNamesOnLetters$Told;" ∈ tblA := tbl_a (tbl_in2 (List.mem_of_getElem? (i := 55) (by decide +kernel))) (by decide +kernel)
theorem tw_2_56 : Cond.fieldLink "NamesOnLetters$Kinds" 45 "NamesOnLetters$Kinds" "row" "LNamesOnLetters$Row;" ∈ tblA := tbl_a (tbl_in2 (List.mem_of_getElem? (i := 56) (by decide +kernel))) (by decide +kernel)
theorem tw_2_57 : Cond.fieldLink "NamesOnLetters$Kinds" 9 "NamesOnLetters$Kinds" "zeroRings" "[I" ∈ tblA := tbl_a (tbl_in2 (List.mem_of_getElem? (i := 57) (by decide +kernel))) (by decide +kernel)
theorem tw_2_58 : Cond.fieldLink "NamesOnLetters$Kinds" 15 "NamesOnLetters$Kinds" "oneRings" "[I" ∈ tblA := tbl_a (tbl_in2 (List.mem_of_getElem? (i := 58) (by decide +kernel))) (by decide +kernel)
theorem tw_2_59 : Cond.fieldLink "NamesOnLetters$Kinds" 18 "NamesOnLetters$Kinds" "part" "[I" ∈ tblA := tbl_a (tbl_in2 (List.mem_of_getElem? (i := 59) (by decide +kernel))) (by decide +kernel)
theorem tw_2_60 : Cond.fieldLink "NamesOnLetters$Kinds" 23 "NamesOnLetters$Kinds" "wouldBe" "[[J" ∈ tblA := tbl_a (tbl_in2 (List.mem_of_getElem? (i := 60) (by decide +kernel))) (by decide +kernel)
theorem tw_2_61 : Cond.fieldLink "NamesOnLetters$Kinds" 26 "NamesOnLetters$Kinds" "sums" "[I" ∈ tblA := tbl_a (tbl_in2 (List.mem_of_getElem? (i := 61) (by decide +kernel))) (by decide +kernel)
theorem tw_2_62 : Cond.fieldLink "NamesOnLetters$Kinds" 34 "NamesOnLetters$Kinds" "likeliest" "LNamesOnLetters$Big;" ∈ tblA := tbl_a (tbl_in2 (List.mem_of_getElem? (i := 62) (by decide +kernel))) (by decide +kernel)
theorem tw_2_63 : Cond.fieldLink "NamesOnLetters$Kinds" 38 "NamesOnLetters$Kinds" "tried" "LNamesOnLetters$Big;" ∈ tblA := tbl_a (tbl_in2 (List.mem_of_getElem? (i := 63) (by decide +kernel))) (by decide +kernel)
theorem tw_2_64 : Cond.laysFinal "NamesOnLetters$Kinds" "NamesOnLetters$Kinds" "told" "LNamesOnLetters$Told;" ∈ tblA := tbl_a (tbl_in2 (List.mem_of_getElem? (i := 64) (by decide +kernel))) (by decide +kernel)
theorem tw_2_66 : Cond.laysFinal "NamesOnLetters$Kinds" "NamesOnLetters$Kinds" "row" "LNamesOnLetters$Row;" ∈ tblA := tbl_a (tbl_in2 (List.mem_of_getElem? (i := 66) (by decide +kernel))) (by decide +kernel)
theorem tw_2_68 : Cond.laysFinal "NamesOnLetters$Kinds" "NamesOnLetters$Kinds" "zeroRings" "[I" ∈ tblA := tbl_a (tbl_in2 (List.mem_of_getElem? (i := 68) (by decide +kernel))) (by decide +kernel)
theorem tw_2_70 : Cond.laysFinal "NamesOnLetters$Kinds" "NamesOnLetters$Kinds" "oneRings" "[I" ∈ tblA := tbl_a (tbl_in2 (List.mem_of_getElem? (i := 70) (by decide +kernel))) (by decide +kernel)
theorem tw_2_72 : Cond.laysFinal "NamesOnLetters$Kinds" "NamesOnLetters$Kinds" "part" "[I" ∈ tblA := tbl_a (tbl_in2 (List.mem_of_getElem? (i := 72) (by decide +kernel))) (by decide +kernel)
theorem tw_2_74 : Cond.laysFinal "NamesOnLetters$Kinds" "NamesOnLetters$Kinds" "wouldBe" "[[J" ∈ tblA := tbl_a (tbl_in2 (List.mem_of_getElem? (i := 74) (by decide +kernel))) (by decide +kernel)
theorem tw_2_76 : Cond.laysFinal "NamesOnLetters$Kinds" "NamesOnLetters$Kinds" "sums" "[I" ∈ tblA := tbl_a (tbl_in2 (List.mem_of_getElem? (i := 76) (by decide +kernel))) (by decide +kernel)
theorem tw_2_78 : Cond.lays "NamesOnLetters$Kinds" "NamesOnLetters$Kinds" "likeliest" "LNamesOnLetters$Big;" ∈ tblA := tbl_a (tbl_in2 (List.mem_of_getElem? (i := 78) (by decide +kernel))) (by decide +kernel)
theorem tw_2_80 : Cond.lays "NamesOnLetters$Kinds" "NamesOnLetters$Kinds" "tried" "LNamesOnLetters$Big;" ∈ tblA := tbl_a (tbl_in2 (List.mem_of_getElem? (i := 80) (by decide +kernel))) (by decide +kernel)
theorem tw_2_83 : Cond.classLink "NamesOnLetters" 39 "NamesOnLetters$Explained" ∈ tblA := tbl_a (tbl_in2 (List.mem_of_getElem? (i := 83) (by decide +kernel))) (by decide +kernel)
theorem tw_2_84 : Cond.instantiable "NamesOnLetters$Explained" 4 ∈ tblA := tbl_a (tbl_in2 (List.mem_of_getElem? (i := 84) (by decide +kernel))) (by decide +kernel)
theorem tw_2_85 : Cond.methodLinkNest "NamesOnLetters" 41 ⟨"NamesOnLetters$Explained", "<init>", "(LNamesOnLetters$Told;LNamesOnLetters$Row;)V"⟩ "NamesOnLetters" ∈ tblA := tbl_a (tbl_in2 (List.mem_of_getElem? (i := 85) (by decide +kernel))) (by decide +kernel)
theorem tw_2_86 : Cond.instanceMethod ⟨"NamesOnLetters$Explained", "<init>", "(LNamesOnLetters$Told;LNamesOnLetters$Row;)V"⟩ ∈ tblA := tbl_a (tbl_in2 (List.mem_of_getElem? (i := 86) (by decide +kernel))) (by decide +kernel)
theorem tw_2_88 : Cond.methodLink "NamesOnLetters$Explained" 3 ⟨"java/lang/Object", "<init>", "()V"⟩ ∈ tblA := tbl_a (tbl_in2 (List.mem_of_getElem? (i := 88) (by decide +kernel))) (by decide +kernel)
theorem tw_2_89 : Cond.classLink "NamesOnLetters$Explained" 9 "NamesOnLetters$Tally" ∈ tblA := tbl_a (tbl_in2 (List.mem_of_getElem? (i := 89) (by decide +kernel))) (by decide +kernel)
theorem tw_2_90 : Cond.methodLinkNest "NamesOnLetters$Explained" 11 ⟨"NamesOnLetters$Tally", "<init>", "()V"⟩ "NamesOnLetters" ∈ tblA := tbl_a (tbl_in2 (List.mem_of_getElem? (i := 90) (by decide +kernel))) (by decide +kernel)
theorem tw_2_92 : Cond.fieldLink "NamesOnLetters$Explained" 22 "NamesOnLetters$Explained" "told" "LNamesOnLetters$Told;" ∈ tblA := tbl_a (tbl_in2 (List.mem_of_getElem? (i := 92) (by decide +kernel))) (by decide +kernel)
theorem tw_2_93 : Cond.fieldLink "NamesOnLetters$Explained" 26 "NamesOnLetters$Explained" "row" "LNamesOnLetters$Row;" ∈ tblA := tbl_a (tbl_in2 (List.mem_of_getElem? (i := 93) (by decide +kernel))) (by decide +kernel)
theorem tw_2_94 : Cond.fieldLink "NamesOnLetters$Explained" 12 "NamesOnLetters$Explained" "all" "LNamesOnLetters$Tally;" ∈ tblA := tbl_a (tbl_in2 (List.mem_of_getElem? (i := 94) (by decide +kernel))) (by decide +kernel)
theorem tw_2_95 : Cond.fieldLink "NamesOnLetters$Explained" 18 "NamesOnLetters$Explained" "byValue" "[LNamesOnLetters$Tally;" ∈ tblA := tbl_a (tbl_in2 (List.mem_of_getElem? (i := 95) (by decide +kernel))) (by decide +kernel)
theorem tw_2_96 : Cond.laysFinal "NamesOnLetters$Explained" "NamesOnLetters$Explained" "told" "LNamesOnLetters$Told;" ∈ tblA := tbl_a (tbl_in2 (List.mem_of_getElem? (i := 96) (by decide +kernel))) (by decide +kernel)
theorem tw_2_98 : Cond.laysFinal "NamesOnLetters$Explained" "NamesOnLetters$Explained" "row" "LNamesOnLetters$Row;" ∈ tblA := tbl_a (tbl_in2 (List.mem_of_getElem? (i := 98) (by decide +kernel))) (by decide +kernel)
theorem tw_2_100 : Cond.laysFinal "NamesOnLetters$Explained" "NamesOnLetters$Explained" "all" "LNamesOnLetters$Tally;" ∈ tblA := tbl_a (tbl_in2 (List.mem_of_getElem? (i := 100) (by decide +kernel))) (by decide +kernel)
theorem tw_2_102 : Cond.laysFinal "NamesOnLetters$Explained" "NamesOnLetters$Explained" "byValue" "[LNamesOnLetters$Tally;" ∈ tblA := tbl_a (tbl_in2 (List.mem_of_getElem? (i := 102) (by decide +kernel))) (by decide +kernel)
theorem tw_2_105 : Cond.classLink "NamesOnLetters" 46 "NamesOnLetters$Machine" ∈ tblA := tbl_a (tbl_in2 (List.mem_of_getElem? (i := 105) (by decide +kernel))) (by decide +kernel)
theorem tw_2_106 : Cond.instantiable "NamesOnLetters$Machine" 8 ∈ tblA := tbl_a (tbl_in2 (List.mem_of_getElem? (i := 106) (by decide +kernel))) (by decide +kernel)
theorem tw_2_107 : Cond.methodLinkNest "NamesOnLetters" 48 ⟨"NamesOnLetters$Machine", "<init>", "(LNamesOnLetters$Told;LNamesOnLetters$Row;)V"⟩ "NamesOnLetters" ∈ tblA := tbl_a (tbl_in2 (List.mem_of_getElem? (i := 107) (by decide +kernel))) (by decide +kernel)
theorem tw_2_108 : Cond.instanceMethod ⟨"NamesOnLetters$Machine", "<init>", "(LNamesOnLetters$Told;LNamesOnLetters$Row;)V"⟩ ∈ tblA := tbl_a (tbl_in2 (List.mem_of_getElem? (i := 108) (by decide +kernel))) (by decide +kernel)
theorem tw_2_110 : Cond.methodLink "NamesOnLetters$Machine" 3 ⟨"java/lang/Object", "<init>", "()V"⟩ ∈ tblA := tbl_a (tbl_in2 (List.mem_of_getElem? (i := 110) (by decide +kernel))) (by decide +kernel)
theorem tw_2_111 : Cond.classLink "NamesOnLetters$Machine" 21 "[[I" ∈ tblA := tbl_a (tbl_in2 (List.mem_of_getElem? (i := 111) (by decide +kernel))) (by decide +kernel)
theorem tw_2_112 : Cond.fieldLink "NamesOnLetters$Machine" 29 "NamesOnLetters$Machine" "told" "LNamesOnLetters$Told;" ∈ tblA := tbl_a (tbl_in2 (List.mem_of_getElem? (i := 112) (by decide +kernel))) (by decide +kernel)
theorem tw_2_113 : Cond.fieldLink "NamesOnLetters$Machine" 33 "NamesOnLetters$Machine" "row" "LNamesOnLetters$Row;" ∈ tblA := tbl_a (tbl_in2 (List.mem_of_getElem? (i := 113) (by decide +kernel))) (by decide +kernel)
theorem tw_2_114 : Cond.fieldLink "NamesOnLetters$Machine" 11 "NamesOnLetters$Machine" "first" "[I" ∈ tblA := tbl_a (tbl_in2 (List.mem_of_getElem? (i := 114) (by decide +kernel))) (by decide +kernel)
theorem tw_2_115 : Cond.fieldLink "NamesOnLetters$Machine" 15 "NamesOnLetters$Machine" "second" "[I" ∈ tblA := tbl_a (tbl_in2 (List.mem_of_getElem? (i := 115) (by decide +kernel))) (by decide +kernel)
theorem tw_2_116 : Cond.fieldLink "NamesOnLetters$Machine" 18 "NamesOnLetters$Machine" "took" "[I" ∈ tblA := tbl_a (tbl_in2 (List.mem_of_getElem? (i := 116) (by decide +kernel))) (by decide +kernel)
theorem tw_2_117 : Cond.fieldLink "NamesOnLetters$Machine" 47 "NamesOnLetters$Machine" "askings" "I" ∈ tblA := tbl_a (tbl_in2 (List.mem_of_getElem? (i := 117) (by decide +kernel))) (by decide +kernel)
theorem tw_2_118 : Cond.fieldLinkNest "NamesOnLetters" 272 "NamesOnLetters$Machine" "askings" "I" "NamesOnLetters" ∈ tblA := tbl_a (tbl_in2 (List.mem_of_getElem? (i := 118) (by decide +kernel))) (by decide +kernel)
theorem tw_2_119 : Cond.fieldLink "NamesOnLetters$Machine" 23 "NamesOnLetters$Machine" "values" "[[I" ∈ tblA := tbl_a (tbl_in2 (List.mem_of_getElem? (i := 119) (by decide +kernel))) (by decide +kernel)
theorem tw_2_120 : Cond.fieldLink "NamesOnLetters$Machine" 26 "NamesOnLetters$Machine" "against" "[I" ∈ tblA := tbl_a (tbl_in2 (List.mem_of_getElem? (i := 120) (by decide +kernel))) (by decide +kernel)
theorem tw_2_121 : Cond.laysFinal "NamesOnLetters$Machine" "NamesOnLetters$Machine" "told" "LNamesOnLetters$Told;" ∈ tblA := tbl_a (tbl_in2 (List.mem_of_getElem? (i := 121) (by decide +kernel))) (by decide +kernel)
theorem tw_2_123 : Cond.laysFinal "NamesOnLetters$Machine" "NamesOnLetters$Machine" "row" "LNamesOnLetters$Row;" ∈ tblA := tbl_a (tbl_in2 (List.mem_of_getElem? (i := 123) (by decide +kernel))) (by decide +kernel)
theorem tw_2_125 : Cond.laysFinal "NamesOnLetters$Machine" "NamesOnLetters$Machine" "first" "[I" ∈ tblA := tbl_a (tbl_in2 (List.mem_of_getElem? (i := 125) (by decide +kernel))) (by decide +kernel)
theorem tw_2_127 : Cond.laysFinal "NamesOnLetters$Machine" "NamesOnLetters$Machine" "second" "[I" ∈ tblA := tbl_a (tbl_in2 (List.mem_of_getElem? (i := 127) (by decide +kernel))) (by decide +kernel)
theorem tw_2_129 : Cond.laysFinal "NamesOnLetters$Machine" "NamesOnLetters$Machine" "took" "[I" ∈ tblA := tbl_a (tbl_in2 (List.mem_of_getElem? (i := 129) (by decide +kernel))) (by decide +kernel)
theorem tw_2_131 : Cond.lays "NamesOnLetters$Machine" "NamesOnLetters$Machine" "askings" "I" ∈ tblA := tbl_a (tbl_in2 (List.mem_of_getElem? (i := 131) (by decide +kernel))) (by decide +kernel)
theorem tw_2_133 : Cond.laysFinal "NamesOnLetters$Machine" "NamesOnLetters$Machine" "values" "[[I" ∈ tblA := tbl_a (tbl_in2 (List.mem_of_getElem? (i := 133) (by decide +kernel))) (by decide +kernel)
theorem tw_2_135 : Cond.laysFinal "NamesOnLetters$Machine" "NamesOnLetters$Machine" "against" "[I" ∈ tblA := tbl_a (tbl_in2 (List.mem_of_getElem? (i := 135) (by decide +kernel))) (by decide +kernel)
theorem tw_2_138 : Cond.classLink "NamesOnLetters" 53 "NamesOnLetters$Chances" ∈ tblA := tbl_a (tbl_in2 (List.mem_of_getElem? (i := 138) (by decide +kernel))) (by decide +kernel)
theorem tw_2_139 : Cond.instantiable "NamesOnLetters$Chances" 5 ∈ tblA := tbl_a (tbl_in2 (List.mem_of_getElem? (i := 139) (by decide +kernel))) (by decide +kernel)
theorem tw_2_140 : Cond.methodLinkNest "NamesOnLetters" 55 ⟨"NamesOnLetters$Chances", "<init>", "(LNamesOnLetters$Row;)V"⟩ "NamesOnLetters" ∈ tblA := tbl_a (tbl_in2 (List.mem_of_getElem? (i := 140) (by decide +kernel))) (by decide +kernel)
theorem tw_2_141 : Cond.instanceMethod ⟨"NamesOnLetters$Chances", "<init>", "(LNamesOnLetters$Row;)V"⟩ ∈ tblA := tbl_a (tbl_in2 (List.mem_of_getElem? (i := 141) (by decide +kernel))) (by decide +kernel)
theorem tw_2_143 : Cond.methodLink "NamesOnLetters$Chances" 3 ⟨"java/lang/Object", "<init>", "()V"⟩ ∈ tblA := tbl_a (tbl_in2 (List.mem_of_getElem? (i := 143) (by decide +kernel))) (by decide +kernel)
theorem tw_2_144 : Cond.classLink "NamesOnLetters$Chances" 11 "NamesOnLetters$Big" ∈ tblA := tbl_a (tbl_in2 (List.mem_of_getElem? (i := 144) (by decide +kernel))) (by decide +kernel)
theorem tw_2_146 : Cond.methodLinkNest "NamesOnLetters$Chances" 23 ⟨"NamesOnLetters$Big", "<init>", "(I)V"⟩ "NamesOnLetters" ∈ tblA := tbl_a (tbl_in2 (List.mem_of_getElem? (i := 146) (by decide +kernel))) (by decide +kernel)
theorem tw_2_147 : Cond.fieldLink "NamesOnLetters$Chances" 30 "NamesOnLetters$Chances" "row" "LNamesOnLetters$Row;" ∈ tblA := tbl_a (tbl_in2 (List.mem_of_getElem? (i := 147) (by decide +kernel))) (by decide +kernel)
theorem tw_2_148 : Cond.fieldLink "NamesOnLetters$Chances" 13 "NamesOnLetters$Chances" "zeroWays" "[LNamesOnLetters$Big;" ∈ tblA := tbl_a (tbl_in2 (List.mem_of_getElem? (i := 148) (by decide +kernel))) (by decide +kernel)
theorem tw_2_149 : Cond.fieldLink "NamesOnLetters$Chances" 17 "NamesOnLetters$Chances" "oneWays" "[LNamesOnLetters$Big;" ∈ tblA := tbl_a (tbl_in2 (List.mem_of_getElem? (i := 149) (by decide +kernel))) (by decide +kernel)
theorem tw_2_150 : Cond.fieldLink "NamesOnLetters$Chances" 20 "NamesOnLetters$Chances" "oneUpTo" "[LNamesOnLetters$Big;" ∈ tblA := tbl_a (tbl_in2 (List.mem_of_getElem? (i := 150) (by decide +kernel))) (by decide +kernel)
theorem tw_2_151 : Cond.fieldLink "NamesOnLetters$Chances" 26 "NamesOnLetters$Chances" "sum" "LNamesOnLetters$Big;" ∈ tblA := tbl_a (tbl_in2 (List.mem_of_getElem? (i := 151) (by decide +kernel))) (by decide +kernel)
theorem tw_2_152 : Cond.laysFinal "NamesOnLetters$Chances" "NamesOnLetters$Chances" "row" "LNamesOnLetters$Row;" ∈ tblA := tbl_a (tbl_in2 (List.mem_of_getElem? (i := 152) (by decide +kernel))) (by decide +kernel)
theorem tw_2_154 : Cond.laysFinal "NamesOnLetters$Chances" "NamesOnLetters$Chances" "zeroWays" "[LNamesOnLetters$Big;" ∈ tblA := tbl_a (tbl_in2 (List.mem_of_getElem? (i := 154) (by decide +kernel))) (by decide +kernel)
theorem tw_2_156 : Cond.laysFinal "NamesOnLetters$Chances" "NamesOnLetters$Chances" "oneWays" "[LNamesOnLetters$Big;" ∈ tblA := tbl_a (tbl_in2 (List.mem_of_getElem? (i := 156) (by decide +kernel))) (by decide +kernel)
theorem tw_2_158 : Cond.laysFinal "NamesOnLetters$Chances" "NamesOnLetters$Chances" "oneUpTo" "[LNamesOnLetters$Big;" ∈ tblA := tbl_a (tbl_in2 (List.mem_of_getElem? (i := 158) (by decide +kernel))) (by decide +kernel)
theorem tw_2_160 : Cond.laysFinal "NamesOnLetters$Chances" "NamesOnLetters$Chances" "sum" "LNamesOnLetters$Big;" ∈ tblA := tbl_a (tbl_in2 (List.mem_of_getElem? (i := 160) (by decide +kernel))) (by decide +kernel)
theorem tw_2_163 : Cond.fieldLink "NamesOnLetters" 10 "NamesOnLetters" "told" "LNamesOnLetters$Told;" ∈ tblA := tbl_a (tbl_in2 (List.mem_of_getElem? (i := 163) (by decide +kernel))) (by decide +kernel)
theorem tw_2_164 : Cond.fieldLink "NamesOnLetters" 19 "NamesOnLetters" "row" "LNamesOnLetters$Row;" ∈ tblA := tbl_a (tbl_in2 (List.mem_of_getElem? (i := 164) (by decide +kernel))) (by decide +kernel)
theorem tw_2_165 : Cond.fieldLink "NamesOnLetters" 28 "NamesOnLetters" "shares" "LNamesOnLetters$Shares;" ∈ tblA := tbl_a (tbl_in2 (List.mem_of_getElem? (i := 165) (by decide +kernel))) (by decide +kernel)
theorem tw_2_166 : Cond.fieldLink "NamesOnLetters" 35 "NamesOnLetters" "kinds" "LNamesOnLetters$Kinds;" ∈ tblA := tbl_a (tbl_in2 (List.mem_of_getElem? (i := 166) (by decide +kernel))) (by decide +kernel)
theorem tw_2_167 : Cond.fieldLink "NamesOnLetters" 42 "NamesOnLetters" "explained" "LNamesOnLetters$Explained;" ∈ tblA := tbl_a (tbl_in2 (List.mem_of_getElem? (i := 167) (by decide +kernel))) (by decide +kernel)
theorem tw_2_168 : Cond.fieldLink "NamesOnLetters" 49 "NamesOnLetters" "machine" "LNamesOnLetters$Machine;" ∈ tblA := tbl_a (tbl_in2 (List.mem_of_getElem? (i := 168) (by decide +kernel))) (by decide +kernel)
theorem tw_2_169 : Cond.fieldLink "NamesOnLetters" 58 "NamesOnLetters" "chances" "LNamesOnLetters$Chances;" ∈ tblA := tbl_a (tbl_in2 (List.mem_of_getElem? (i := 169) (by decide +kernel))) (by decide +kernel)
theorem tw_2_170 : Cond.fieldLink "NamesOnLetters" 62 "NamesOnLetters" "text" "[I" ∈ tblA := tbl_a (tbl_in2 (List.mem_of_getElem? (i := 170) (by decide +kernel))) (by decide +kernel)
theorem tw_2_171 : Cond.fieldLink "NamesOnLetters" 126 "NamesOnLetters" "signs" "I" ∈ tblA := tbl_a (tbl_in2 (List.mem_of_getElem? (i := 171) (by decide +kernel))) (by decide +kernel)
theorem tw_2_172 : Cond.laysFinal "NamesOnLetters" "NamesOnLetters" "told" "LNamesOnLetters$Told;" ∈ tblA := tbl_a (tbl_in2 (List.mem_of_getElem? (i := 172) (by decide +kernel))) (by decide +kernel)
theorem tw_2_174 : Cond.laysFinal "NamesOnLetters" "NamesOnLetters" "row" "LNamesOnLetters$Row;" ∈ tblA := tbl_a (tbl_in2 (List.mem_of_getElem? (i := 174) (by decide +kernel))) (by decide +kernel)
theorem tw_2_176 : Cond.laysFinal "NamesOnLetters" "NamesOnLetters" "shares" "LNamesOnLetters$Shares;" ∈ tblA := tbl_a (tbl_in2 (List.mem_of_getElem? (i := 176) (by decide +kernel))) (by decide +kernel)
theorem tw_2_178 : Cond.laysFinal "NamesOnLetters" "NamesOnLetters" "kinds" "LNamesOnLetters$Kinds;" ∈ tblA := tbl_a (tbl_in2 (List.mem_of_getElem? (i := 178) (by decide +kernel))) (by decide +kernel)
theorem tw_2_180 : Cond.laysFinal "NamesOnLetters" "NamesOnLetters" "explained" "LNamesOnLetters$Explained;" ∈ tblA := tbl_a (tbl_in2 (List.mem_of_getElem? (i := 180) (by decide +kernel))) (by decide +kernel)
theorem tw_2_182 : Cond.laysFinal "NamesOnLetters" "NamesOnLetters" "machine" "LNamesOnLetters$Machine;" ∈ tblA := tbl_a (tbl_in2 (List.mem_of_getElem? (i := 182) (by decide +kernel))) (by decide +kernel)
theorem tw_2_184 : Cond.laysFinal "NamesOnLetters" "NamesOnLetters" "chances" "LNamesOnLetters$Chances;" ∈ tblA := tbl_a (tbl_in2 (List.mem_of_getElem? (i := 184) (by decide +kernel))) (by decide +kernel)
theorem tw_2_186 : Cond.laysFinal "NamesOnLetters" "NamesOnLetters" "text" "[I" ∈ tblA := tbl_a (tbl_in2 (List.mem_of_getElem? (i := 186) (by decide +kernel))) (by decide +kernel)
theorem tw_2_188 : Cond.lays "NamesOnLetters" "NamesOnLetters" "signs" "I" ∈ tblA := tbl_a (tbl_in2 (List.mem_of_getElem? (i := 188) (by decide +kernel))) (by decide +kernel)
theorem tw_2_191 : Cond.methodLink "NamesOnLettersLaw" 26 ⟨"NamesOnLetters", "name", "(III)I"⟩ ∈ tblA := tbl_a (tbl_in2 (List.mem_of_getElem? (i := 191) (by decide +kernel))) (by decide +kernel)
theorem tw_2_192 : Cond.instanceMethod ⟨"NamesOnLetters", "name", "(III)I"⟩ ∈ tblA := tbl_a (tbl_in2 (List.mem_of_getElem? (i := 192) (by decide +kernel))) (by decide +kernel)
theorem tw_2_193 : Cond.selects "NamesOnLetters" ⟨"NamesOnLetters", "name", "(III)I"⟩ ⟨"NamesOnLetters", "name", "(III)I"⟩ ∈ tblA := tbl_a (tbl_in2 (List.mem_of_getElem? (i := 193) (by decide +kernel))) (by decide +kernel)
theorem tw_2_195 : Cond.methodLink "NamesOnLetters" 66 ⟨"NamesOnLetters", "within", "(III)Z"⟩ ∈ tblA := tbl_a (tbl_in2 (List.mem_of_getElem? (i := 195) (by decide +kernel))) (by decide +kernel)
theorem tw_2_196 : Cond.static ⟨"NamesOnLetters", "within", "(III)Z"⟩ ∈ tblA := tbl_a (tbl_in2 (List.mem_of_getElem? (i := 196) (by decide +kernel))) (by decide +kernel)
theorem tw_2_198 : Cond.methodLinkNest "NamesOnLetters" 74 ⟨"NamesOnLetters$Told", "addName", "(III)I"⟩ "NamesOnLetters" ∈ tblA := tbl_a (tbl_in2 (List.mem_of_getElem? (i := 198) (by decide +kernel))) (by decide +kernel)
theorem tw_2_200 : Cond.instanceMethod ⟨"NamesOnLetters$Told", "addName", "(III)I"⟩ ∈ tblA := tbl_a (tbl_in2 (List.mem_of_getElem? (i := 200) (by decide +kernel))) (by decide +kernel)
theorem tw_2_202 : Cond.methodLink "NamesOnLettersLaw" 31 ⟨"NamesOnLetters", "house", "(III)I"⟩ ∈ tblA := tbl_a (tbl_in2 (List.mem_of_getElem? (i := 202) (by decide +kernel))) (by decide +kernel)
theorem tw_2_203 : Cond.instanceMethod ⟨"NamesOnLetters", "house", "(III)I"⟩ ∈ tblA := tbl_a (tbl_in2 (List.mem_of_getElem? (i := 203) (by decide +kernel))) (by decide +kernel)
theorem tw_2_204 : Cond.selects "NamesOnLetters" ⟨"NamesOnLetters", "house", "(III)I"⟩ ⟨"NamesOnLetters", "house", "(III)I"⟩ ∈ tblA := tbl_a (tbl_in2 (List.mem_of_getElem? (i := 204) (by decide +kernel))) (by decide +kernel)
theorem tw_2_206 : Cond.methodLinkNest "NamesOnLetters" 81 ⟨"NamesOnLetters$Told", "addHouse", "(III)I"⟩ "NamesOnLetters" ∈ tblA := tbl_a (tbl_in2 (List.mem_of_getElem? (i := 206) (by decide +kernel))) (by decide +kernel)
theorem tw_2_208 : Cond.instanceMethod ⟨"NamesOnLetters$Told", "addHouse", "(III)I"⟩ ∈ tblA := tbl_a (tbl_in2 (List.mem_of_getElem? (i := 208) (by decide +kernel))) (by decide +kernel)
theorem tw_2_210 : Cond.methodLink "NamesOnLettersLaw" 35 ⟨"NamesOnLetters", "lette\x72", "(IIIII)I"⟩ ∈ tblA := tbl_a (tbl_in2 (List.mem_of_getElem? (i := 210) (by decide +kernel))) (by decide +kernel)
theorem tw_2_211 : Cond.instanceMethod ⟨"NamesOnLetters", "lette\x72", "(IIIII)I"⟩ ∈ tblA := tbl_a (tbl_in2 (List.mem_of_getElem? (i := 211) (by decide +kernel))) (by decide +kernel)
theorem tw_2_212 : Cond.selects "NamesOnLetters" ⟨"NamesOnLetters", "lette\x72", "(IIIII)I"⟩ ⟨"NamesOnLetters", "lette\x72", "(IIIII)I"⟩ ∈ tblA := tbl_a (tbl_in2 (List.mem_of_getElem? (i := 212) (by decide +kernel))) (by decide +kernel)
theorem tw_2_214 : Cond.methodLinkNest "NamesOnLetters" 84 ⟨"NamesOnLetters$Told", "isHouse", "(I)Z"⟩ "NamesOnLetters" ∈ tblA := tbl_a (tbl_in2 (List.mem_of_getElem? (i := 214) (by decide +kernel))) (by decide +kernel)
theorem tw_2_216 : Cond.instanceMethod ⟨"NamesOnLetters$Told", "isHouse", "(I)Z"⟩ ∈ tblA := tbl_a (tbl_in2 (List.mem_of_getElem? (i := 216) (by decide +kernel))) (by decide +kernel)
theorem tw_2_218 : Cond.methodLinkNest "NamesOnLetters" 88 ⟨"NamesOnLetters$Told", "isName", "(I)Z"⟩ "NamesOnLetters" ∈ tblA := tbl_a (tbl_in2 (List.mem_of_getElem? (i := 218) (by decide +kernel))) (by decide +kernel)
theorem tw_2_220 : Cond.instanceMethod ⟨"NamesOnLetters$Told", "isName", "(I)Z"⟩ ∈ tblA := tbl_a (tbl_in2 (List.mem_of_getElem? (i := 220) (by decide +kernel))) (by decide +kernel)
theorem tw_2_222 : Cond.methodLinkNest "NamesOnLetters" 94 ⟨"NamesOnLetters$Told", "lettersTo", "(I)I"⟩ "NamesOnLetters" ∈ tblA := tbl_a (tbl_in2 (List.mem_of_getElem? (i := 222) (by decide +kernel))) (by decide +kernel)
theorem tw_2_224 : Cond.instanceMethod ⟨"NamesOnLetters$Told", "lettersTo", "(I)I"⟩ ∈ tblA := tbl_a (tbl_in2 (List.mem_of_getElem? (i := 224) (by decide +kernel))) (by decide +kernel)
theorem tw_2_226 : Cond.methodLinkNest "NamesOnLetters" 98 ⟨"NamesOnLetters$Told", "addLette\x72", "(IIIII)I"⟩ "NamesOnLetters" ∈ tblA := tbl_a (tbl_in2 (List.mem_of_getElem? (i := 226) (by decide +kernel))) (by decide +kernel)
theorem tw_2_228 : Cond.instanceMethod ⟨"NamesOnLetters$Told", "addLette\x72", "(IIIII)I"⟩ ∈ tblA := tbl_a (tbl_in2 (List.mem_of_getElem? (i := 228) (by decide +kernel))) (by decide +kernel)
theorem tw_2_230 : Cond.methodLinkNest "NamesOnLetters$Told" 103 ⟨"NamesOnLetters$Lette\x72", "becomeState", "(I)V"⟩ "NamesOnLetters" ∈ tblA := tbl_a (tbl_in2 (List.mem_of_getElem? (i := 230) (by decide +kernel))) (by decide +kernel)
theorem tw_2_232 : Cond.instanceMethod ⟨"NamesOnLetters$Lette\x72", "becomeState", "(I)V"⟩ ∈ tblA := tbl_a (tbl_in2 (List.mem_of_getElem? (i := 232) (by decide +kernel))) (by decide +kernel)
theorem tw_2_234 : Cond.methodLink "NamesOnLettersLaw" 40 ⟨"NamesOnLetters", "deal", "(III)I"⟩ ∈ tblA := tbl_a (tbl_in2 (List.mem_of_getElem? (i := 234) (by decide +kernel))) (by decide +kernel)
theorem tw_2_235 : Cond.instanceMethod ⟨"NamesOnLetters", "deal", "(III)I"⟩ ∈ tblA := tbl_a (tbl_in2 (List.mem_of_getElem? (i := 235) (by decide +kernel))) (by decide +kernel)
theorem tw_2_236 : Cond.selects "NamesOnLetters" ⟨"NamesOnLetters", "deal", "(III)I"⟩ ⟨"NamesOnLetters", "deal", "(III)I"⟩ ∈ tblA := tbl_a (tbl_in2 (List.mem_of_getElem? (i := 236) (by decide +kernel))) (by decide +kernel)
theorem tw_2_238 : Cond.methodLinkNest "NamesOnLetters" 102 ⟨"NamesOnLetters$Told", "namesOf", "(I)I"⟩ "NamesOnLetters" ∈ tblA := tbl_a (tbl_in2 (List.mem_of_getElem? (i := 238) (by decide +kernel))) (by decide +kernel)
theorem tw_3_0 : Cond.instanceMethod ⟨"NamesOnLetters$Told", "namesOf", "(I)I"⟩ ∈ tblA := tbl_a (tbl_in3 (List.mem_of_getElem? (i := 0) (by decide +kernel))) (by decide +kernel)
theorem tw_3_2 : Cond.methodLinkNest "NamesOnLetters" 105 ⟨"NamesOnLetters$Told", "dealTo", "(III)I"⟩ "NamesOnLetters" ∈ tblA := tbl_a (tbl_in3 (List.mem_of_getElem? (i := 2) (by decide +kernel))) (by decide +kernel)
theorem tw_3_4 : Cond.instanceMethod ⟨"NamesOnLetters$Told", "dealTo", "(III)I"⟩ ∈ tblA := tbl_a (tbl_in3 (List.mem_of_getElem? (i := 4) (by decide +kernel))) (by decide +kernel)
theorem tw_3_6 : Cond.fieldLink "NamesOnLetters$Told" 108 "NamesOnLetters$Told" "TWO_OF_FOUR" "[I" ∈ tblA := tbl_a (tbl_in3 (List.mem_of_getElem? (i := 6) (by decide +kernel))) (by decide +kernel)
theorem tw_3_8 : Cond.methodLink "NamesOnLetters$Told" 111 ⟨"NamesOnLetters$Told", "draw", "(I)I"⟩ ∈ tblA := tbl_a (tbl_in3 (List.mem_of_getElem? (i := 8) (by decide +kernel))) (by decide +kernel)
theorem tw_3_10 : Cond.instanceMethod ⟨"NamesOnLetters$Told", "draw", "(I)I"⟩ ∈ tblA := tbl_a (tbl_in3 (List.mem_of_getElem? (i := 10) (by decide +kernel))) (by decide +kernel)
theorem tw_3_12 : Cond.constant "NamesOnLetters$Told" 107 (1103515245) ∈ tblA := tbl_a (tbl_in3 (List.mem_of_getElem? (i := 12) (by decide +kernel))) (by decide +kernel)
theorem tw_3_13 : Cond.methodLink "NamesOnLetters$Told" 115 ⟨"NamesOnLetters$Told", "drawName", "(II)I"⟩ ∈ tblA := tbl_a (tbl_in3 (List.mem_of_getElem? (i := 13) (by decide +kernel))) (by decide +kernel)
theorem tw_3_15 : Cond.instanceMethod ⟨"NamesOnLetters$Told", "drawName", "(II)I"⟩ ∈ tblA := tbl_a (tbl_in3 (List.mem_of_getElem? (i := 15) (by decide +kernel))) (by decide +kernel)
theorem tw_3_17 : Cond.methodLink "NamesOnLetters$Told" 123 ⟨"NamesOnLetters$Told", "isFree", "(III)Z"⟩ ∈ tblA := tbl_a (tbl_in3 (List.mem_of_getElem? (i := 17) (by decide +kernel))) (by decide +kernel)
theorem tw_3_19 : Cond.instanceMethod ⟨"NamesOnLetters$Told", "isFree", "(III)Z"⟩ ∈ tblA := tbl_a (tbl_in3 (List.mem_of_getElem? (i := 19) (by decide +kernel))) (by decide +kernel)
theorem tw_3_21 : Cond.methodLink "NamesOnLetters$Told" 119 ⟨"NamesOnLetters$Told", "addLette\x72", "(IIIII)I"⟩ ∈ tblA := tbl_a (tbl_in3 (List.mem_of_getElem? (i := 21) (by decide +kernel))) (by decide +kernel)
theorem tw_3_22 : Cond.methodLink "NamesOnLettersLaw" 54 ⟨"NamesOnLetters", "sign", "(I)I"⟩ ∈ tblA := tbl_a (tbl_in3 (List.mem_of_getElem? (i := 22) (by decide +kernel))) (by decide +kernel)
theorem tw_3_23 : Cond.instanceMethod ⟨"NamesOnLetters", "sign", "(I)I"⟩ ∈ tblA := tbl_a (tbl_in3 (List.mem_of_getElem? (i := 23) (by decide +kernel))) (by decide +kernel)
theorem tw_3_24 : Cond.selects "NamesOnLetters" ⟨"NamesOnLetters", "sign", "(I)I"⟩ ⟨"NamesOnLetters", "sign", "(I)I"⟩ ∈ tblA := tbl_a (tbl_in3 (List.mem_of_getElem? (i := 24) (by decide +kernel))) (by decide +kernel)
theorem tw_3_26 : Cond.methodLink "NamesOnLettersLaw" 59 ⟨"NamesOnLetters", "end", "(I)Z"⟩ ∈ tblA := tbl_a (tbl_in3 (List.mem_of_getElem? (i := 26) (by decide +kernel))) (by decide +kernel)
theorem tw_3_27 : Cond.instanceMethod ⟨"NamesOnLetters", "end", "(I)Z"⟩ ∈ tblA := tbl_a (tbl_in3 (List.mem_of_getElem? (i := 27) (by decide +kernel))) (by decide +kernel)
theorem tw_3_28 : Cond.selects "NamesOnLetters" ⟨"NamesOnLetters", "end", "(I)Z"⟩ ⟨"NamesOnLetters", "end", "(I)Z"⟩ ∈ tblA := tbl_a (tbl_in3 (List.mem_of_getElem? (i := 28) (by decide +kernel))) (by decide +kernel)
theorem tw_3_30 : Cond.methodLink "NamesOnLettersLaw" 64 ⟨"NamesOnLetters", "law", "(I)I"⟩ ∈ tblA := tbl_a (tbl_in3 (List.mem_of_getElem? (i := 30) (by decide +kernel))) (by decide +kernel)
theorem tw_3_31 : Cond.instanceMethod ⟨"NamesOnLetters", "law", "(I)I"⟩ ∈ tblA := tbl_a (tbl_in3 (List.mem_of_getElem? (i := 31) (by decide +kernel))) (by decide +kernel)
theorem tw_3_32 : Cond.selects "NamesOnLetters" ⟨"NamesOnLetters", "law", "(I)I"⟩ ⟨"NamesOnLetters", "law", "(I)I"⟩ ∈ tblA := tbl_a (tbl_in3 (List.mem_of_getElem? (i := 32) (by decide +kernel))) (by decide +kernel)
theorem tw_3_34 : Cond.methodLink "NamesOnLetters" 133 ⟨"NamesOnLetters", "takeText", "([LNamesOnLetters$Expression;IZ)I"⟩ ∈ tblA := tbl_a (tbl_in3 (List.mem_of_getElem? (i := 34) (by decide +kernel))) (by decide +kernel)
theorem tw_3_36 : Cond.instanceMethod ⟨"NamesOnLetters", "takeText", "([LNamesOnLetters$Expression;IZ)I"⟩ ∈ tblA := tbl_a (tbl_in3 (List.mem_of_getElem? (i := 36) (by decide +kernel))) (by decide +kernel)
theorem tw_3_38 : Cond.methodLinkNest "NamesOnLetters" 294 ⟨"NamesOnLetters$Expression", "firstWrong", "([IIZ)I"⟩ "NamesOnLetters" ∈ tblA := tbl_a (tbl_in3 (List.mem_of_getElem? (i := 38) (by decide +kernel))) (by decide +kernel)
theorem tw_3_39 : Cond.static ⟨"NamesOnLetters$Expression", "firstWrong", "([IIZ)I"⟩ ∈ tblA := tbl_a (tbl_in3 (List.mem_of_getElem? (i := 39) (by decide +kernel))) (by decide +kernel)
theorem tw_3_41 : Cond.methodLink "NamesOnLetters$Expression" 22 ⟨"NamesOnLetters$Expression", "isDigit", "(I)Z"⟩ ∈ tblA := tbl_a (tbl_in3 (List.mem_of_getElem? (i := 41) (by decide +kernel))) (by decide +kernel)
theorem tw_3_42 : Cond.static ⟨"NamesOnLetters$Expression", "isDigit", "(I)Z"⟩ ∈ tblA := tbl_a (tbl_in3 (List.mem_of_getElem? (i := 42) (by decide +kernel))) (by decide +kernel)
theorem tw_3_44 : Cond.methodLink "NamesOnLetters$Expression" 26 ⟨"NamesOnLetters$Expression", "isThing", "(IZ)Z"⟩ ∈ tblA := tbl_a (tbl_in3 (List.mem_of_getElem? (i := 44) (by decide +kernel))) (by decide +kernel)
theorem tw_3_45 : Cond.static ⟨"NamesOnLetters$Expression", "isThing", "(IZ)Z"⟩ ∈ tblA := tbl_a (tbl_in3 (List.mem_of_getElem? (i := 45) (by decide +kernel))) (by decide +kernel)
theorem tw_3_48 : Cond.methodLink "NamesOnLetters$Expression" 39 ⟨"java/lang/String", "indexOf", "(I)I"⟩ ∈ tblA := tbl_a (tbl_in3 (List.mem_of_getElem? (i := 48) (by decide +kernel))) (by decide +kernel)
theorem tw_3_49 : Cond.instanceMethod ⟨"java/lang/String", "indexOf", "(I)I"⟩ ∈ tblA := tbl_a (tbl_in3 (List.mem_of_getElem? (i := 49) (by decide +kernel))) (by decide +kernel)
theorem tw_3_50 : Cond.selects "java/lang/String" ⟨"java/lang/String", "indexOf", "(I)I"⟩ ⟨"java/lang/String", "indexOf", "(I)I"⟩ ∈ tblA := tbl_a (tbl_in3 (List.mem_of_getElem? (i := 50) (by decide +kernel))) (by decide +kernel)
theorem tw_3_52 : Cond.methodLink "java/lang/String" 633 ⟨"java/lang/String", "indexOf", "(II)I"⟩ ∈ tblA := tbl_a (tbl_in3 (List.mem_of_getElem? (i := 52) (by decide +kernel))) (by decide +kernel)
theorem tw_3_53 : Cond.instanceMethod ⟨"java/lang/String", "indexOf", "(II)I"⟩ ∈ tblA := tbl_a (tbl_in3 (List.mem_of_getElem? (i := 53) (by decide +kernel))) (by decide +kernel)
theorem tw_3_54 : Cond.selects "java/lang/String" ⟨"java/lang/String", "indexOf", "(II)I"⟩ ⟨"java/lang/String", "indexOf", "(II)I"⟩ ∈ tblA := tbl_a (tbl_in3 (List.mem_of_getElem? (i := 54) (by decide +kernel))) (by decide +kernel)
theorem tw_3_56 : Cond.methodLink "java/lang/String" 492 ⟨"java/lang/String", "isLatin1", "()Z"⟩ ∈ tblA := tbl_a (tbl_in3 (List.mem_of_getElem? (i := 56) (by decide +kernel))) (by decide +kernel)
theorem tw_3_57 : Cond.instanceMethod ⟨"java/lang/String", "isLatin1", "()Z"⟩ ∈ tblA := tbl_a (tbl_in3 (List.mem_of_getElem? (i := 57) (by decide +kernel))) (by decide +kernel)
theorem tw_3_58 : Cond.selects "java/lang/String" ⟨"java/lang/String", "isLatin1", "()Z"⟩ ⟨"java/lang/String", "isLatin1", "()Z"⟩ ∈ tblA := tbl_a (tbl_in3 (List.mem_of_getElem? (i := 58) (by decide +kernel))) (by decide +kernel)
theorem tw_3_60 : Cond.fieldLink "java/lang/String" 38 "java/lang/String" "COMPACT_STRINGS" "Z" ∈ tblA := tbl_a (tbl_in3 (List.mem_of_getElem? (i := 60) (by decide +kernel))) (by decide +kernel)
theorem tw_3_62 : Cond.methodLink "java/lang/String" 505 ⟨"java/lang/String", "length", "()I"⟩ ∈ tblA := tbl_a (tbl_in3 (List.mem_of_getElem? (i := 62) (by decide +kernel))) (by decide +kernel)
theorem tw_3_63 : Cond.instanceMethod ⟨"java/lang/String", "length", "()I"⟩ ∈ tblA := tbl_a (tbl_in3 (List.mem_of_getElem? (i := 63) (by decide +kernel))) (by decide +kernel)
theorem tw_3_64 : Cond.selects "java/lang/String" ⟨"java/lang/String", "length", "()I"⟩ ⟨"java/lang/String", "length", "()I"⟩ ∈ tblA := tbl_a (tbl_in3 (List.mem_of_getElem? (i := 64) (by decide +kernel))) (by decide +kernel)
theorem tw_3_66 : Cond.methodLink "java/lang/String" 335 ⟨"java/lang/String", "code\x72", "()B"⟩ ∈ tblA := tbl_a (tbl_in3 (List.mem_of_getElem? (i := 66) (by decide +kernel))) (by decide +kernel)
theorem tw_3_67 : Cond.instanceMethod ⟨"java/lang/String", "code\x72", "()B"⟩ ∈ tblA := tbl_a (tbl_in3 (List.mem_of_getElem? (i := 67) (by decide +kernel))) (by decide +kernel)
theorem tw_3_68 : Cond.selects "java/lang/String" ⟨"java/lang/String", "code\x72", "()B"⟩ ⟨"java/lang/String", "code\x72", "()B"⟩ ∈ tblA := tbl_a (tbl_in3 (List.mem_of_getElem? (i := 68) (by decide +kernel))) (by decide +kernel)
theorem tw_3_70 : Cond.methodLink "java/lang/String" 637 ⟨"java/lang/StringLatin1", "indexOf", "([BIII)I"⟩ ∈ tblA := tbl_a (tbl_in3 (List.mem_of_getElem? (i := 70) (by decide +kernel))) (by decide +kernel)
theorem tw_3_71 : Cond.static ⟨"java/lang/StringLatin1", "indexOf", "([BIII)I"⟩ ∈ tblA := tbl_a (tbl_in3 (List.mem_of_getElem? (i := 71) (by decide +kernel))) (by decide +kernel)
theorem tw_3_73 : Cond.methodLink "java/lang/StringLatin1" 88 ⟨"java/lang/StringLatin1", "canEncode", "(I)Z"⟩ ∈ tblA := tbl_a (tbl_in3 (List.mem_of_getElem? (i := 73) (by decide +kernel))) (by decide +kernel)
theorem tw_3_74 : Cond.static ⟨"java/lang/StringLatin1", "canEncode", "(I)Z"⟩ ∈ tblA := tbl_a (tbl_in3 (List.mem_of_getElem? (i := 74) (by decide +kernel))) (by decide +kernel)
theorem tw_3_76 : Cond.methodLink "java/lang/StringLatin1" 92 ⟨"java/lang/Math", "max", "(II)I"⟩ ∈ tblA := tbl_a (tbl_in3 (List.mem_of_getElem? (i := 76) (by decide +kernel))) (by decide +kernel)
theorem tw_3_77 : Cond.static ⟨"java/lang/Math", "max", "(II)I"⟩ ∈ tblA := tbl_a (tbl_in3 (List.mem_of_getElem? (i := 77) (by decide +kernel))) (by decide +kernel)
theorem tw_3_79 : Cond.methodLink "java/lang/StringLatin1" 38 ⟨"java/lang/Math", "min", "(II)I"⟩ ∈ tblA := tbl_a (tbl_in3 (List.mem_of_getElem? (i := 79) (by decide +kernel))) (by decide +kernel)
theorem tw_3_80 : Cond.static ⟨"java/lang/Math", "min", "(II)I"⟩ ∈ tblA := tbl_a (tbl_in3 (List.mem_of_getElem? (i := 80) (by decide +kernel))) (by decide +kernel)
theorem tw_3_82 : Cond.methodLink "java/lang/StringLatin1" 95 ⟨"java/lang/StringLatin1", "indexOfCha\x72", "([BIII)I"⟩ ∈ tblA := tbl_a (tbl_in3 (List.mem_of_getElem? (i := 82) (by decide +kernel))) (by decide +kernel)
theorem tw_3_83 : Cond.static ⟨"java/lang/StringLatin1", "indexOfCha\x72", "([BIII)I"⟩ ∈ tblA := tbl_a (tbl_in3 (List.mem_of_getElem? (i := 83) (by decide +kernel))) (by decide +kernel)
theorem tw_3_85 : Cond.methodLink "java/lang/String" 640 ⟨"java/lang/StringUTF16", "indexOf", "([BIII)I"⟩ ∈ tblA := tbl_a (tbl_in3 (List.mem_of_getElem? (i := 85) (by decide +kernel))) (by decide +kernel)
theorem tw_3_86 : Cond.static ⟨"java/lang/StringUTF16", "indexOf", "([BIII)I"⟩ ∈ tblA := tbl_a (tbl_in3 (List.mem_of_getElem? (i := 86) (by decide +kernel))) (by decide +kernel)
theorem tw_3_88 : Cond.methodLink "java/lang/StringUTF16" 224 ⟨"java/lang/Math", "max", "(II)I"⟩ ∈ tblA := tbl_a (tbl_in3 (List.mem_of_getElem? (i := 88) (by decide +kernel))) (by decide +kernel)
theorem tw_3_89 : Cond.methodLink "java/lang/StringUTF16" 183 ⟨"java/lang/Math", "min", "(II)I"⟩ ∈ tblA := tbl_a (tbl_in3 (List.mem_of_getElem? (i := 89) (by decide +kernel))) (by decide +kernel)
theorem tw_3_90 : Cond.constant "java/lang/StringUTF16" 227 (65536) ∈ tblA := tbl_a (tbl_in3 (List.mem_of_getElem? (i := 90) (by decide +kernel))) (by decide +kernel)
theorem tw_3_91 : Cond.methodLink "java/lang/StringUTF16" 228 ⟨"java/lang/StringUTF16", "indexOfCha\x72", "([BIII)I"⟩ ∈ tblA := tbl_a (tbl_in3 (List.mem_of_getElem? (i := 91) (by decide +kernel))) (by decide +kernel)
theorem tw_3_92 : Cond.static ⟨"java/lang/StringUTF16", "indexOfCha\x72", "([BIII)I"⟩ ∈ tblA := tbl_a (tbl_in3 (List.mem_of_getElem? (i := 92) (by decide +kernel))) (by decide +kernel)
theorem tw_3_94 : Cond.methodLink "java/lang/StringUTF16" 96 ⟨"java/lang/StringUTF16", "checkBoundsBeginEnd", "(II[B)V"⟩ ∈ tblA := tbl_a (tbl_in3 (List.mem_of_getElem? (i := 94) (by decide +kernel))) (by decide +kernel)
theorem tw_3_95 : Cond.static ⟨"java/lang/StringUTF16", "checkBoundsBeginEnd", "(II[B)V"⟩ ∈ tblA := tbl_a (tbl_in3 (List.mem_of_getElem? (i := 95) (by decide +kernel))) (by decide +kernel)
theorem tw_3_97 : Cond.methodLink "java/lang/StringUTF16" 48 ⟨"java/lang/StringUTF16", "length", "([B)I"⟩ ∈ tblA := tbl_a (tbl_in3 (List.mem_of_getElem? (i := 97) (by decide +kernel))) (by decide +kernel)
theorem tw_3_98 : Cond.static ⟨"java/lang/StringUTF16", "length", "([B)I"⟩ ∈ tblA := tbl_a (tbl_in3 (List.mem_of_getElem? (i := 98) (by decide +kernel))) (by decide +kernel)
theorem tw_3_100 : Cond.methodLink "java/lang/StringUTF16" 241 ⟨"java/lang/String", "checkBoundsBeginEnd", "(III)V"⟩ ∈ tblA := tbl_a (tbl_in3 (List.mem_of_getElem? (i := 100) (by decide +kernel))) (by decide +kernel)
theorem tw_3_101 : Cond.static ⟨"java/lang/String", "checkBoundsBeginEnd", "(III)V"⟩ ∈ tblA := tbl_a (tbl_in3 (List.mem_of_getElem? (i := 101) (by decide +kernel))) (by decide +kernel)
theorem tw_3_103 : Cond.fieldLink "java/lang/String" 1053 "jdk/internal/util/Preconditions" "SIOOBE_FORMATTER" "Ljava/util/function/BiFunction;" ∈ tblA := tbl_a (tbl_in3 (List.mem_of_getElem? (i := 103) (by decide +kernel))) (by decide +kernel)
theorem tw_3_105 : Cond.methodLink "java/lang/String" 1062 ⟨"jdk/internal/util/Preconditions", "checkFromToIndex", "(IIILjava/util/function/BiFunction;)I"⟩ ∈ tblA := tbl_a (tbl_in3 (List.mem_of_getElem? (i := 105) (by decide +kernel))) (by decide +kernel)
theorem tw_3_106 : Cond.static ⟨"jdk/internal/util/Preconditions", "checkFromToIndex", "(IIILjava/util/function/BiFunction;)I"⟩ ∈ tblA := tbl_a (tbl_in3 (List.mem_of_getElem? (i := 106) (by decide +kernel))) (by decide +kernel)
theorem tw_3_108 : Cond.methodLink "java/lang/StringUTF16" 244 ⟨"java/lang/StringUTF16", "indexOfCharUnsafe", "([BIII)I"⟩ ∈ tblA := tbl_a (tbl_in3 (List.mem_of_getElem? (i := 108) (by decide +kernel))) (by decide +kernel)
theorem tw_3_109 : Cond.static ⟨"java/lang/StringUTF16", "indexOfCharUnsafe", "([BIII)I"⟩ ∈ tblA := tbl_a (tbl_in3 (List.mem_of_getElem? (i := 109) (by decide +kernel))) (by decide +kernel)
theorem tw_3_111 : Cond.methodLink "java/lang/StringUTF16" 71 ⟨"java/lang/StringUTF16", "getCha\x72", "([BI)C"⟩ ∈ tblA := tbl_a (tbl_in3 (List.mem_of_getElem? (i := 111) (by decide +kernel))) (by decide +kernel)
theorem tw_3_112 : Cond.static ⟨"java/lang/StringUTF16", "getCha\x72", "([BI)C"⟩ ∈ tblA := tbl_a (tbl_in3 (List.mem_of_getElem? (i := 112) (by decide +kernel))) (by decide +kernel)
theorem tw_3_114 : Cond.fieldLink "java/lang/StringUTF16" 44 "java/lang/StringUTF16" "$assertionsDisabled" "Z" ∈ tblA := tbl_a (tbl_in3 (List.mem_of_getElem? (i := 114) (by decide +kernel))) (by decide +kernel)
theorem tw_3_116 : Cond.fieldLink "java/lang/StringUTF16" 59 "java/lang/StringUTF16" "HI_BYTE_SHIFT" "I" ∈ tblA := tbl_a (tbl_in3 (List.mem_of_getElem? (i := 116) (by decide +kernel))) (by decide +kernel)
theorem tw_3_118 : Cond.fieldLink "java/lang/StringUTF16" 63 "java/lang/StringUTF16" "LO_BYTE_SHIFT" "I" ∈ tblA := tbl_a (tbl_in3 (List.mem_of_getElem? (i := 118) (by decide +kernel))) (by decide +kernel)
theorem tw_3_120 : Cond.methodLink "java/lang/StringUTF16" 232 ⟨"java/lang/StringUTF16", "indexOfSupplementary", "([BIII)I"⟩ ∈ tblA := tbl_a (tbl_in3 (List.mem_of_getElem? (i := 120) (by decide +kernel))) (by decide +kernel)
theorem tw_3_121 : Cond.static ⟨"java/lang/StringUTF16", "indexOfSupplementary", "([BIII)I"⟩ ∈ tblA := tbl_a (tbl_in3 (List.mem_of_getElem? (i := 121) (by decide +kernel))) (by decide +kernel)
theorem tw_3_123 : Cond.methodLink "java/lang/StringUTF16" 164 ⟨"java/lang/Characte\x72", "isValidCodePoint", "(I)Z"⟩ ∈ tblA := tbl_a (tbl_in3 (List.mem_of_getElem? (i := 123) (by decide +kernel))) (by decide +kernel)
theorem tw_3_124 : Cond.static ⟨"java/lang/Characte\x72", "isValidCodePoint", "(I)Z"⟩ ∈ tblA := tbl_a (tbl_in3 (List.mem_of_getElem? (i := 124) (by decide +kernel))) (by decide +kernel)
theorem tw_3_126 : Cond.methodLink "java/lang/StringUTF16" 157 ⟨"java/lang/Characte\x72", "highSurrogate", "(I)C"⟩ ∈ tblA := tbl_a (tbl_in3 (List.mem_of_getElem? (i := 126) (by decide +kernel))) (by decide +kernel)
theorem tw_3_127 : Cond.static ⟨"java/lang/Characte\x72", "highSurrogate", "(I)C"⟩ ∈ tblA := tbl_a (tbl_in3 (List.mem_of_getElem? (i := 127) (by decide +kernel))) (by decide +kernel)
theorem tw_3_129 : Cond.constant "java/lang/Characte\x72" 110 (55232) ∈ tblA := tbl_a (tbl_in3 (List.mem_of_getElem? (i := 129) (by decide +kernel))) (by decide +kernel)
theorem tw_3_130 : Cond.methodLink "java/lang/StringUTF16" 161 ⟨"java/lang/Characte\x72", "lowSurrogate", "(I)C"⟩ ∈ tblA := tbl_a (tbl_in3 (List.mem_of_getElem? (i := 130) (by decide +kernel))) (by decide +kernel)
theorem tw_3_131 : Cond.static ⟨"java/lang/Characte\x72", "lowSurrogate", "(I)C"⟩ ∈ tblA := tbl_a (tbl_in3 (List.mem_of_getElem? (i := 131) (by decide +kernel))) (by decide +kernel)
theorem tw_3_133 : Cond.constant "java/lang/Characte\x72" 76 (56320) ∈ tblA := tbl_a (tbl_in3 (List.mem_of_getElem? (i := 133) (by decide +kernel))) (by decide +kernel)
theorem tw_3_134 : Cond.methodLink "NamesOnLetters$Expression" 30 ⟨"NamesOnLetters$Expression", "strength", "(I)I"⟩ ∈ tblA := tbl_a (tbl_in3 (List.mem_of_getElem? (i := 134) (by decide +kernel))) (by decide +kernel)
theorem tw_3_135 : Cond.static ⟨"NamesOnLetters$Expression", "strength", "(I)I"⟩ ∈ tblA := tbl_a (tbl_in3 (List.mem_of_getElem? (i := 135) (by decide +kernel))) (by decide +kernel)
theorem tw_3_137 : Cond.methodLink "NamesOnLetters$Expression" 34 ⟨"NamesOnLetters$Expression", "isJoining", "(I)Z"⟩ ∈ tblA := tbl_a (tbl_in3 (List.mem_of_getElem? (i := 137) (by decide +kernel))) (by decide +kernel)
theorem tw_3_138 : Cond.static ⟨"NamesOnLetters$Expression", "isJoining", "(I)Z"⟩ ∈ tblA := tbl_a (tbl_in3 (List.mem_of_getElem? (i := 138) (by decide +kernel))) (by decide +kernel)
theorem tw_3_140 : Cond.methodLinkNest "NamesOnLetters$Expression" 44 ⟨"NamesOnLetters", "within", "(III)Z"⟩ "NamesOnLetters" ∈ tblA := tbl_a (tbl_in3 (List.mem_of_getElem? (i := 140) (by decide +kernel))) (by decide +kernel)
theorem tw_3_141 : Cond.methodLinkNest "NamesOnLetters" 300 ⟨"NamesOnLetters$Expression", "become", "([II)V"⟩ "NamesOnLetters" ∈ tblA := tbl_a (tbl_in3 (List.mem_of_getElem? (i := 141) (by decide +kernel))) (by decide +kernel)
theorem tw_3_143 : Cond.instanceMethod ⟨"NamesOnLetters$Expression", "become", "([II)V"⟩ ∈ tblA := tbl_a (tbl_in3 (List.mem_of_getElem? (i := 143) (by decide +kernel))) (by decide +kernel)
theorem tw_3_145 : Cond.methodLink "NamesOnLetters$Expression" 51 ⟨"NamesOnLetters$Expression", "putDigit", "(IZ)V"⟩ ∈ tblA := tbl_a (tbl_in3 (List.mem_of_getElem? (i := 145) (by decide +kernel))) (by decide +kernel)
theorem tw_3_147 : Cond.instanceMethod ⟨"NamesOnLetters$Expression", "putDigit", "(IZ)V"⟩ ∈ tblA := tbl_a (tbl_in3 (List.mem_of_getElem? (i := 147) (by decide +kernel))) (by decide +kernel)
theorem tw_3_149 : Cond.methodLink "NamesOnLetters$Expression" 66 ⟨"NamesOnLetters$Expression", "put", "(I)V"⟩ ∈ tblA := tbl_a (tbl_in3 (List.mem_of_getElem? (i := 149) (by decide +kernel))) (by decide +kernel)
theorem tw_3_151 : Cond.instanceMethod ⟨"NamesOnLetters$Expression", "put", "(I)V"⟩ ∈ tblA := tbl_a (tbl_in3 (List.mem_of_getElem? (i := 151) (by decide +kernel))) (by decide +kernel)
theorem tw_3_153 : Cond.methodLink "NamesOnLetters$Expression" 55 ⟨"NamesOnLetters$Expression", "push", "(I)V"⟩ ∈ tblA := tbl_a (tbl_in3 (List.mem_of_getElem? (i := 153) (by decide +kernel))) (by decide +kernel)
theorem tw_3_155 : Cond.instanceMethod ⟨"NamesOnLetters$Expression", "push", "(I)V"⟩ ∈ tblA := tbl_a (tbl_in3 (List.mem_of_getElem? (i := 155) (by decide +kernel))) (by decide +kernel)
theorem tw_3_157 : Cond.methodLink "NamesOnLetters$Expression" 59 ⟨"NamesOnLetters$Expression", "putStronge\x72", "(I)V"⟩ ∈ tblA := tbl_a (tbl_in3 (List.mem_of_getElem? (i := 157) (by decide +kernel))) (by decide +kernel)
theorem tw_3_159 : Cond.instanceMethod ⟨"NamesOnLetters$Expression", "putStronge\x72", "(I)V"⟩ ∈ tblA := tbl_a (tbl_in3 (List.mem_of_getElem? (i := 159) (by decide +kernel))) (by decide +kernel)
theorem tw_3_161 : Cond.methodLink "NamesOnLetters$Expression" 62 ⟨"NamesOnLetters$Expression", "pop", "()I"⟩ ∈ tblA := tbl_a (tbl_in3 (List.mem_of_getElem? (i := 161) (by decide +kernel))) (by decide +kernel)
theorem tw_3_163 : Cond.instanceMethod ⟨"NamesOnLetters$Expression", "pop", "()I"⟩ ∈ tblA := tbl_a (tbl_in3 (List.mem_of_getElem? (i := 163) (by decide +kernel))) (by decide +kernel)
theorem tw_3_166 : Cond.methodLink "NamesOnLettersLaw" 68 ⟨"NamesOnLetters", "filte\x72", "(I)I"⟩ ∈ tblA := tbl_a (tbl_in3 (List.mem_of_getElem? (i := 166) (by decide +kernel))) (by decide +kernel)
theorem tw_3_167 : Cond.instanceMethod ⟨"NamesOnLetters", "filte\x72", "(I)I"⟩ ∈ tblA := tbl_a (tbl_in3 (List.mem_of_getElem? (i := 167) (by decide +kernel))) (by decide +kernel)
theorem tw_3_168 : Cond.selects "NamesOnLetters" ⟨"NamesOnLetters", "filte\x72", "(I)I"⟩ ⟨"NamesOnLetters", "filte\x72", "(I)I"⟩ ∈ tblA := tbl_a (tbl_in3 (List.mem_of_getElem? (i := 168) (by decide +kernel))) (by decide +kernel)
theorem tw_3_170 : Cond.methodLink "NamesOnLettersLaw" 75 ⟨"NamesOnLetters", "read", "(I)I"⟩ ∈ tblA := tbl_a (tbl_in3 (List.mem_of_getElem? (i := 170) (by decide +kernel))) (by decide +kernel)
theorem tw_3_171 : Cond.instanceMethod ⟨"NamesOnLetters", "read", "(I)I"⟩ ∈ tblA := tbl_a (tbl_in3 (List.mem_of_getElem? (i := 171) (by decide +kernel))) (by decide +kernel)
theorem tw_3_172 : Cond.selects "NamesOnLetters" ⟨"NamesOnLetters", "read", "(I)I"⟩ ⟨"NamesOnLetters", "read", "(I)I"⟩ ∈ tblA := tbl_a (tbl_in3 (List.mem_of_getElem? (i := 172) (by decide +kernel))) (by decide +kernel)
theorem tw_3_174 : Cond.methodLinkNest "NamesOnLetters" 149 ⟨"NamesOnLetters$Told", "readNext", "(I)I"⟩ "NamesOnLetters" ∈ tblA := tbl_a (tbl_in3 (List.mem_of_getElem? (i := 174) (by decide +kernel))) (by decide +kernel)
theorem tw_3_176 : Cond.instanceMethod ⟨"NamesOnLetters$Told", "readNext", "(I)I"⟩ ∈ tblA := tbl_a (tbl_in3 (List.mem_of_getElem? (i := 176) (by decide +kernel))) (by decide +kernel)
theorem tw_3_178 : Cond.methodLink "NamesOnLetters$Told" 144 ⟨"NamesOnLetters$Told", "nextUnread", "()I"⟩ ∈ tblA := tbl_a (tbl_in3 (List.mem_of_getElem? (i := 178) (by decide +kernel))) (by decide +kernel)
theorem tw_3_180 : Cond.instanceMethod ⟨"NamesOnLetters$Told", "nextUnread", "()I"⟩ ∈ tblA := tbl_a (tbl_in3 (List.mem_of_getElem? (i := 180) (by decide +kernel))) (by decide +kernel)
theorem tw_3_182 : Cond.methodLink "NamesOnLetters$Told" 148 ⟨"NamesOnLetters$Told", "isRungByHouse", "(LNamesOnLetters$Letter;)Z"⟩ ∈ tblA := tbl_a (tbl_in3 (List.mem_of_getElem? (i := 182) (by decide +kernel))) (by decide +kernel)
theorem tw_3_184 : Cond.instanceMethod ⟨"NamesOnLetters$Told", "isRungByHouse", "(LNamesOnLetters$Letter;)Z"⟩ ∈ tblA := tbl_a (tbl_in3 (List.mem_of_getElem? (i := 184) (by decide +kernel))) (by decide +kernel)
theorem tw_3_186 : Cond.methodLink "NamesOnLetters$Told" 152 ⟨"NamesOnLetters$Told", "isLaw", "(I)Z"⟩ ∈ tblA := tbl_a (tbl_in3 (List.mem_of_getElem? (i := 186) (by decide +kernel))) (by decide +kernel)
theorem tw_3_188 : Cond.instanceMethod ⟨"NamesOnLetters$Told", "isLaw", "(I)Z"⟩ ∈ tblA := tbl_a (tbl_in3 (List.mem_of_getElem? (i := 188) (by decide +kernel))) (by decide +kernel)
theorem tw_3_190 : Cond.methodLinkNest "NamesOnLetters$Told" 77 ⟨"NamesOnLetters", "within", "(III)Z"⟩ "NamesOnLetters" ∈ tblA := tbl_a (tbl_in3 (List.mem_of_getElem? (i := 190) (by decide +kernel))) (by decide +kernel)
theorem tw_3_191 : Cond.methodLinkNest "NamesOnLetters$Told" 81 ⟨"NamesOnLetters$Expression", "isTold", "()Z"⟩ "NamesOnLetters" ∈ tblA := tbl_a (tbl_in3 (List.mem_of_getElem? (i := 191) (by decide +kernel))) (by decide +kernel)
theorem tw_3_193 : Cond.instanceMethod ⟨"NamesOnLetters$Expression", "isTold", "()Z"⟩ ∈ tblA := tbl_a (tbl_in3 (List.mem_of_getElem? (i := 193) (by decide +kernel))) (by decide +kernel)
theorem tw_3_195 : Cond.methodLink "NamesOnLetters$Told" 156 ⟨"NamesOnLetters$Told", "lawFo\x72", "(ILNamesOnLetters$Letter;)I"⟩ ∈ tblA := tbl_a (tbl_in3 (List.mem_of_getElem? (i := 195) (by decide +kernel))) (by decide +kernel)
theorem tw_3_197 : Cond.instanceMethod ⟨"NamesOnLetters$Told", "lawFo\x72", "(ILNamesOnLetters$Letter;)I"⟩ ∈ tblA := tbl_a (tbl_in3 (List.mem_of_getElem? (i := 197) (by decide +kernel))) (by decide +kernel)
theorem tw_3_199 : Cond.methodLink "NamesOnLetters$Told" 133 ⟨"NamesOnLetters$Told", "lookAt", "(LNamesOnLetters$Letter;)V"⟩ ∈ tblA := tbl_a (tbl_in3 (List.mem_of_getElem? (i := 199) (by decide +kernel))) (by decide +kernel)
theorem tw_3_201 : Cond.instanceMethod ⟨"NamesOnLetters$Told", "lookAt", "(LNamesOnLetters$Letter;)V"⟩ ∈ tblA := tbl_a (tbl_in3 (List.mem_of_getElem? (i := 201) (by decide +kernel))) (by decide +kernel)
theorem tw_3_203 : Cond.methodLink "NamesOnLetters$Told" 137 ⟨"NamesOnLetters$Told", "lookAtHouse", "(I)V"⟩ ∈ tblA := tbl_a (tbl_in3 (List.mem_of_getElem? (i := 203) (by decide +kernel))) (by decide +kernel)
theorem tw_3_205 : Cond.instanceMethod ⟨"NamesOnLetters$Told", "lookAtHouse", "(I)V"⟩ ∈ tblA := tbl_a (tbl_in3 (List.mem_of_getElem? (i := 205) (by decide +kernel))) (by decide +kernel)
theorem tw_3_207 : Cond.methodLinkNest "NamesOnLetters$Told" 140 ⟨"NamesOnLetters$Expression", "result", "([I)I"⟩ "NamesOnLetters" ∈ tblA := tbl_a (tbl_in3 (List.mem_of_getElem? (i := 207) (by decide +kernel))) (by decide +kernel)
theorem tw_3_209 : Cond.instanceMethod ⟨"NamesOnLetters$Expression", "result", "([I)I"⟩ ∈ tblA := tbl_a (tbl_in3 (List.mem_of_getElem? (i := 209) (by decide +kernel))) (by decide +kernel)
theorem tw_3_211 : Cond.methodLink "NamesOnLetters$Expression" 69 ⟨"NamesOnLetters$Expression", "operate", "(I)V"⟩ ∈ tblA := tbl_a (tbl_in3 (List.mem_of_getElem? (i := 211) (by decide +kernel))) (by decide +kernel)
theorem tw_3_213 : Cond.instanceMethod ⟨"NamesOnLetters$Expression", "operate", "(I)V"⟩ ∈ tblA := tbl_a (tbl_in3 (List.mem_of_getElem? (i := 213) (by decide +kernel))) (by decide +kernel)
theorem tw_3_215 : Cond.methodLink "NamesOnLetters$Expression" 72 ⟨"NamesOnLetters$Expression", "joined", "(III)I"⟩ ∈ tblA := tbl_a (tbl_in3 (List.mem_of_getElem? (i := 215) (by decide +kernel))) (by decide +kernel)
theorem tw_3_216 : Cond.static ⟨"NamesOnLetters$Expression", "joined", "(III)I"⟩ ∈ tblA := tbl_a (tbl_in3 (List.mem_of_getElem? (i := 216) (by decide +kernel))) (by decide +kernel)
theorem tw_3_218 : Cond.methodLinkNest "NamesOnLetters$Told" 160 ⟨"NamesOnLetters$Lette\x72", "becomeRead", "(Z)V"⟩ "NamesOnLetters" ∈ tblA := tbl_a (tbl_in3 (List.mem_of_getElem? (i := 218) (by decide +kernel))) (by decide +kernel)
theorem tw_3_220 : Cond.instanceMethod ⟨"NamesOnLetters$Lette\x72", "becomeRead", "(Z)V"⟩ ∈ tblA := tbl_a (tbl_in3 (List.mem_of_getElem? (i := 220) (by decide +kernel))) (by decide +kernel)
theorem tw_3_222 : Cond.methodLink "NamesOnLettersLaw" 79 ⟨"NamesOnLetters", "ring", "(IZ)Z"⟩ ∈ tblA := tbl_a (tbl_in3 (List.mem_of_getElem? (i := 222) (by decide +kernel))) (by decide +kernel)
theorem tw_3_223 : Cond.instanceMethod ⟨"NamesOnLetters", "ring", "(IZ)Z"⟩ ∈ tblA := tbl_a (tbl_in3 (List.mem_of_getElem? (i := 223) (by decide +kernel))) (by decide +kernel)
theorem tw_3_224 : Cond.selects "NamesOnLetters" ⟨"NamesOnLetters", "ring", "(IZ)Z"⟩ ⟨"NamesOnLetters", "ring", "(IZ)Z"⟩ ∈ tblA := tbl_a (tbl_in3 (List.mem_of_getElem? (i := 224) (by decide +kernel))) (by decide +kernel)
theorem tw_3_226 : Cond.methodLinkNest "NamesOnLetters" 108 ⟨"NamesOnLetters$Told", "isLette\x72", "(I)Z"⟩ "NamesOnLetters" ∈ tblA := tbl_a (tbl_in3 (List.mem_of_getElem? (i := 226) (by decide +kernel))) (by decide +kernel)
theorem tw_3_228 : Cond.instanceMethod ⟨"NamesOnLetters$Told", "isLette\x72", "(I)Z"⟩ ∈ tblA := tbl_a (tbl_in3 (List.mem_of_getElem? (i := 228) (by decide +kernel))) (by decide +kernel)
theorem tw_3_230 : Cond.methodLinkNest "NamesOnLetters" 156 ⟨"NamesOnLetters$Lette\x72", "becomeRead", "(Z)V"⟩ "NamesOnLetters" ∈ tblA := tbl_a (tbl_in3 (List.mem_of_getElem? (i := 230) (by decide +kernel))) (by decide +kernel)
theorem tw_3_231 : Cond.methodLink "NamesOnLettersLaw" 84 ⟨"NamesOnLetters", "box", "(IIII)I"⟩ ∈ tblA := tbl_a (tbl_in3 (List.mem_of_getElem? (i := 231) (by decide +kernel))) (by decide +kernel)
theorem tw_3_232 : Cond.instanceMethod ⟨"NamesOnLetters", "box", "(IIII)I"⟩ ∈ tblA := tbl_a (tbl_in3 (List.mem_of_getElem? (i := 232) (by decide +kernel))) (by decide +kernel)
theorem tw_3_233 : Cond.selects "NamesOnLetters" ⟨"NamesOnLetters", "box", "(IIII)I"⟩ ⟨"NamesOnLetters", "box", "(IIII)I"⟩ ∈ tblA := tbl_a (tbl_in3 (List.mem_of_getElem? (i := 233) (by decide +kernel))) (by decide +kernel)
theorem tw_3_235 : Cond.methodLinkNest "NamesOnLetters" 160 ⟨"NamesOnLetters$Told", "readAllWithoutRings", "()I"⟩ "NamesOnLetters" ∈ tblA := tbl_a (tbl_in3 (List.mem_of_getElem? (i := 235) (by decide +kernel))) (by decide +kernel)
theorem tw_3_237 : Cond.instanceMethod ⟨"NamesOnLetters$Told", "readAllWithoutRings", "()I"⟩ ∈ tblA := tbl_a (tbl_in3 (List.mem_of_getElem? (i := 237) (by decide +kernel))) (by decide +kernel)
theorem tw_3_239 : Cond.methodLinkNest "NamesOnLetters" 164 ⟨"NamesOnLetters$Told", "readAsBoxed", "(IIII)I"⟩ "NamesOnLetters" ∈ tblA := tbl_a (tbl_in3 (List.mem_of_getElem? (i := 239) (by decide +kernel))) (by decide +kernel)
theorem tw_4_1 : Cond.instanceMethod ⟨"NamesOnLetters$Told", "readAsBoxed", "(IIII)I"⟩ ∈ tblA := tbl_a (tbl_in4 (List.mem_of_getElem? (i := 1) (by decide +kernel))) (by decide +kernel)
theorem tw_4_3 : Cond.methodLink "NamesOnLetters$Told" 164 ⟨"NamesOnLetters$Told", "asHeld", "(II)I"⟩ ∈ tblA := tbl_a (tbl_in4 (List.mem_of_getElem? (i := 3) (by decide +kernel))) (by decide +kernel)
theorem tw_4_4 : Cond.static ⟨"NamesOnLetters$Told", "asHeld", "(II)I"⟩ ∈ tblA := tbl_a (tbl_in4 (List.mem_of_getElem? (i := 4) (by decide +kernel))) (by decide +kernel)
theorem tw_4_6 : Cond.methodLink "NamesOnLettersLaw" 89 ⟨"NamesOnLetters", "afte\x72", "(II)I"⟩ ∈ tblA := tbl_a (tbl_in4 (List.mem_of_getElem? (i := 6) (by decide +kernel))) (by decide +kernel)
theorem tw_4_7 : Cond.instanceMethod ⟨"NamesOnLetters", "afte\x72", "(II)I"⟩ ∈ tblA := tbl_a (tbl_in4 (List.mem_of_getElem? (i := 7) (by decide +kernel))) (by decide +kernel)
theorem tw_4_8 : Cond.selects "NamesOnLetters" ⟨"NamesOnLetters", "afte\x72", "(II)I"⟩ ⟨"NamesOnLetters", "afte\x72", "(II)I"⟩ ∈ tblA := tbl_a (tbl_in4 (List.mem_of_getElem? (i := 8) (by decide +kernel))) (by decide +kernel)
theorem tw_4_10 : Cond.methodLink "NamesOnLettersLaw" 93 ⟨"NamesOnLetters", "seed", "(I)I"⟩ ∈ tblA := tbl_a (tbl_in4 (List.mem_of_getElem? (i := 10) (by decide +kernel))) (by decide +kernel)
theorem tw_4_11 : Cond.instanceMethod ⟨"NamesOnLetters", "seed", "(I)I"⟩ ∈ tblA := tbl_a (tbl_in4 (List.mem_of_getElem? (i := 11) (by decide +kernel))) (by decide +kernel)
theorem tw_4_12 : Cond.selects "NamesOnLetters" ⟨"NamesOnLetters", "seed", "(I)I"⟩ ⟨"NamesOnLetters", "seed", "(I)I"⟩ ∈ tblA := tbl_a (tbl_in4 (List.mem_of_getElem? (i := 12) (by decide +kernel))) (by decide +kernel)
theorem tw_4_14 : Cond.methodLink "NamesOnLettersLaw" 97 ⟨"NamesOnLetters", "share", "(I)I"⟩ ∈ tblA := tbl_a (tbl_in4 (List.mem_of_getElem? (i := 14) (by decide +kernel))) (by decide +kernel)
theorem tw_4_15 : Cond.instanceMethod ⟨"NamesOnLetters", "share", "(I)I"⟩ ∈ tblA := tbl_a (tbl_in4 (List.mem_of_getElem? (i := 15) (by decide +kernel))) (by decide +kernel)
theorem tw_4_16 : Cond.selects "NamesOnLetters" ⟨"NamesOnLetters", "share", "(I)I"⟩ ⟨"NamesOnLetters", "share", "(I)I"⟩ ∈ tblA := tbl_a (tbl_in4 (List.mem_of_getElem? (i := 16) (by decide +kernel))) (by decide +kernel)
theorem tw_4_18 : Cond.methodLinkNest "NamesOnLetters" 177 ⟨"NamesOnLetters$Shares", "tellShare", "(I)I"⟩ "NamesOnLetters" ∈ tblA := tbl_a (tbl_in4 (List.mem_of_getElem? (i := 18) (by decide +kernel))) (by decide +kernel)
theorem tw_4_20 : Cond.instanceMethod ⟨"NamesOnLetters$Shares", "tellShare", "(I)I"⟩ ∈ tblA := tbl_a (tbl_in4 (List.mem_of_getElem? (i := 20) (by decide +kernel))) (by decide +kernel)
theorem tw_4_22 : Cond.methodLinkNest "NamesOnLetters$Shares" 86 ⟨"NamesOnLetters$Told", "isFilte\x72", "(I)Z"⟩ "NamesOnLetters" ∈ tblA := tbl_a (tbl_in4 (List.mem_of_getElem? (i := 22) (by decide +kernel))) (by decide +kernel)
theorem tw_4_24 : Cond.instanceMethod ⟨"NamesOnLetters$Told", "isFilte\x72", "(I)Z"⟩ ∈ tblA := tbl_a (tbl_in4 (List.mem_of_getElem? (i := 24) (by decide +kernel))) (by decide +kernel)
theorem tw_4_26 : Cond.methodLink "NamesOnLetters$Shares" 90 ⟨"NamesOnLetters$Shares", "gathe\x72", "(LNamesOnLetters$Tally;II)V"⟩ ∈ tblA := tbl_a (tbl_in4 (List.mem_of_getElem? (i := 26) (by decide +kernel))) (by decide +kernel)
theorem tw_4_28 : Cond.instanceMethod ⟨"NamesOnLetters$Shares", "gathe\x72", "(LNamesOnLetters$Tally;II)V"⟩ ∈ tblA := tbl_a (tbl_in4 (List.mem_of_getElem? (i := 28) (by decide +kernel))) (by decide +kernel)
theorem tw_4_30 : Cond.methodLinkNest "NamesOnLetters$Shares" 49 ⟨"NamesOnLetters$Tally", "clea\x72", "()V"⟩ "NamesOnLetters" ∈ tblA := tbl_a (tbl_in4 (List.mem_of_getElem? (i := 30) (by decide +kernel))) (by decide +kernel)
theorem tw_4_32 : Cond.instanceMethod ⟨"NamesOnLetters$Tally", "clea\x72", "()V"⟩ ∈ tblA := tbl_a (tbl_in4 (List.mem_of_getElem? (i := 32) (by decide +kernel))) (by decide +kernel)
theorem tw_4_34 : Cond.methodLinkNest "NamesOnLetters$Shares" 71 ⟨"NamesOnLetters$Told", "passes", "(LNamesOnLetters$Letter;I)Z"⟩ "NamesOnLetters" ∈ tblA := tbl_a (tbl_in4 (List.mem_of_getElem? (i := 34) (by decide +kernel))) (by decide +kernel)
theorem tw_4_36 : Cond.instanceMethod ⟨"NamesOnLetters$Told", "passes", "(LNamesOnLetters$Letter;I)Z"⟩ ∈ tblA := tbl_a (tbl_in4 (List.mem_of_getElem? (i := 36) (by decide +kernel))) (by decide +kernel)
theorem tw_4_38 : Cond.methodLinkNest "NamesOnLetters$Shares" 75 ⟨"NamesOnLetters$Told", "peopleOf", "(LNamesOnLetters$Letter;)I"⟩ "NamesOnLetters" ∈ tblA := tbl_a (tbl_in4 (List.mem_of_getElem? (i := 38) (by decide +kernel))) (by decide +kernel)
theorem tw_4_40 : Cond.instanceMethod ⟨"NamesOnLetters$Told", "peopleOf", "(LNamesOnLetters$Letter;)I"⟩ ∈ tblA := tbl_a (tbl_in4 (List.mem_of_getElem? (i := 40) (by decide +kernel))) (by decide +kernel)
theorem tw_4_42 : Cond.methodLinkNest "NamesOnLetters$Shares" 82 ⟨"NamesOnLetters$Tally", "note", "(IZ)V"⟩ "NamesOnLetters" ∈ tblA := tbl_a (tbl_in4 (List.mem_of_getElem? (i := 42) (by decide +kernel))) (by decide +kernel)
theorem tw_4_44 : Cond.instanceMethod ⟨"NamesOnLetters$Tally", "note", "(IZ)V"⟩ ∈ tblA := tbl_a (tbl_in4 (List.mem_of_getElem? (i := 44) (by decide +kernel))) (by decide +kernel)
theorem tw_4_46 : Cond.methodLinkNest "NamesOnLetters$Shares" 94 ⟨"NamesOnLetters$Row", "clea\x72", "()V"⟩ "NamesOnLetters" ∈ tblA := tbl_a (tbl_in4 (List.mem_of_getElem? (i := 46) (by decide +kernel))) (by decide +kernel)
theorem tw_4_48 : Cond.instanceMethod ⟨"NamesOnLetters$Row", "clea\x72", "()V"⟩ ∈ tblA := tbl_a (tbl_in4 (List.mem_of_getElem? (i := 48) (by decide +kernel))) (by decide +kernel)
theorem tw_4_50 : Cond.methodLinkNest "NamesOnLetters$Shares" 97 ⟨"NamesOnLetters$Tally", "all", "()I"⟩ "NamesOnLetters" ∈ tblA := tbl_a (tbl_in4 (List.mem_of_getElem? (i := 50) (by decide +kernel))) (by decide +kernel)
theorem tw_4_52 : Cond.instanceMethod ⟨"NamesOnLetters$Tally", "all", "()I"⟩ ∈ tblA := tbl_a (tbl_in4 (List.mem_of_getElem? (i := 52) (by decide +kernel))) (by decide +kernel)
theorem tw_4_54 : Cond.methodLinkNest "NamesOnLetters$Shares" 102 ⟨"NamesOnLetters$Row", "addFraction", "(JJ)V"⟩ "NamesOnLetters" ∈ tblA := tbl_a (tbl_in4 (List.mem_of_getElem? (i := 54) (by decide +kernel))) (by decide +kernel)
theorem tw_4_56 : Cond.instanceMethod ⟨"NamesOnLetters$Row", "addFraction", "(JJ)V"⟩ ∈ tblA := tbl_a (tbl_in4 (List.mem_of_getElem? (i := 56) (by decide +kernel))) (by decide +kernel)
theorem tw_4_58 : Cond.methodLinkNest "NamesOnLetters$Row" 17 ⟨"NamesOnLetters", "greatestDiviso\x72", "(JJ)J"⟩ "NamesOnLetters" ∈ tblA := tbl_a (tbl_in4 (List.mem_of_getElem? (i := 58) (by decide +kernel))) (by decide +kernel)
theorem tw_4_59 : Cond.static ⟨"NamesOnLetters", "greatestDiviso\x72", "(JJ)J"⟩ ∈ tblA := tbl_a (tbl_in4 (List.mem_of_getElem? (i := 59) (by decide +kernel))) (by decide +kernel)
theorem tw_4_61 : Cond.methodLink "NamesOnLetters$Row" 23 ⟨"NamesOnLetters$Row", "add", "(J)V"⟩ ∈ tblA := tbl_a (tbl_in4 (List.mem_of_getElem? (i := 61) (by decide +kernel))) (by decide +kernel)
theorem tw_4_63 : Cond.instanceMethod ⟨"NamesOnLetters$Row", "add", "(J)V"⟩ ∈ tblA := tbl_a (tbl_in4 (List.mem_of_getElem? (i := 63) (by decide +kernel))) (by decide +kernel)
theorem tw_4_65 : Cond.methodLink "NamesOnLettersLaw" 101 ⟨"NamesOnLetters", "aside", "(I)I"⟩ ∈ tblA := tbl_a (tbl_in4 (List.mem_of_getElem? (i := 65) (by decide +kernel))) (by decide +kernel)
theorem tw_4_66 : Cond.instanceMethod ⟨"NamesOnLetters", "aside", "(I)I"⟩ ∈ tblA := tbl_a (tbl_in4 (List.mem_of_getElem? (i := 66) (by decide +kernel))) (by decide +kernel)
theorem tw_4_67 : Cond.selects "NamesOnLetters" ⟨"NamesOnLetters", "aside", "(I)I"⟩ ⟨"NamesOnLetters", "aside", "(I)I"⟩ ∈ tblA := tbl_a (tbl_in4 (List.mem_of_getElem? (i := 67) (by decide +kernel))) (by decide +kernel)
theorem tw_4_69 : Cond.methodLinkNest "NamesOnLetters" 180 ⟨"NamesOnLetters$Shares", "tellAside", "(I)I"⟩ "NamesOnLetters" ∈ tblA := tbl_a (tbl_in4 (List.mem_of_getElem? (i := 69) (by decide +kernel))) (by decide +kernel)
theorem tw_4_71 : Cond.instanceMethod ⟨"NamesOnLetters$Shares", "tellAside", "(I)I"⟩ ∈ tblA := tbl_a (tbl_in4 (List.mem_of_getElem? (i := 71) (by decide +kernel))) (by decide +kernel)
theorem tw_4_73 : Cond.methodLinkNest "NamesOnLetters$Shares" 106 ⟨"NamesOnLetters$Tally", "hasBoth", "()Z"⟩ "NamesOnLetters" ∈ tblA := tbl_a (tbl_in4 (List.mem_of_getElem? (i := 73) (by decide +kernel))) (by decide +kernel)
theorem tw_4_75 : Cond.instanceMethod ⟨"NamesOnLetters$Tally", "hasBoth", "()Z"⟩ ∈ tblA := tbl_a (tbl_in4 (List.mem_of_getElem? (i := 75) (by decide +kernel))) (by decide +kernel)
theorem tw_4_77 : Cond.methodLinkNest "NamesOnLetters$Shares" 110 ⟨"NamesOnLetters$Tally", "asideUppe\x72", "()J"⟩ "NamesOnLetters" ∈ tblA := tbl_a (tbl_in4 (List.mem_of_getElem? (i := 77) (by decide +kernel))) (by decide +kernel)
theorem tw_4_79 : Cond.instanceMethod ⟨"NamesOnLetters$Tally", "asideUppe\x72", "()J"⟩ ∈ tblA := tbl_a (tbl_in4 (List.mem_of_getElem? (i := 79) (by decide +kernel))) (by decide +kernel)
theorem tw_4_81 : Cond.methodLinkNest "NamesOnLetters$Shares" 114 ⟨"NamesOnLetters$Tally", "asideLowe\x72", "()J"⟩ "NamesOnLetters" ∈ tblA := tbl_a (tbl_in4 (List.mem_of_getElem? (i := 81) (by decide +kernel))) (by decide +kernel)
theorem tw_4_83 : Cond.instanceMethod ⟨"NamesOnLetters$Tally", "asideLowe\x72", "()J"⟩ ∈ tblA := tbl_a (tbl_in4 (List.mem_of_getElem? (i := 83) (by decide +kernel))) (by decide +kernel)
theorem tw_4_85 : Cond.methodLinkNest "NamesOnLetters$Shares" 119 ⟨"NamesOnLetters$Row", "add", "(J)V"⟩ "NamesOnLetters" ∈ tblA := tbl_a (tbl_in4 (List.mem_of_getElem? (i := 85) (by decide +kernel))) (by decide +kernel)
theorem tw_4_86 : Cond.methodLink "NamesOnLettersLaw" 105 ⟨"NamesOnLetters", "odds", "(II)I"⟩ ∈ tblA := tbl_a (tbl_in4 (List.mem_of_getElem? (i := 86) (by decide +kernel))) (by decide +kernel)
theorem tw_4_87 : Cond.instanceMethod ⟨"NamesOnLetters", "odds", "(II)I"⟩ ∈ tblA := tbl_a (tbl_in4 (List.mem_of_getElem? (i := 87) (by decide +kernel))) (by decide +kernel)
theorem tw_4_88 : Cond.selects "NamesOnLetters" ⟨"NamesOnLetters", "odds", "(II)I"⟩ ⟨"NamesOnLetters", "odds", "(II)I"⟩ ∈ tblA := tbl_a (tbl_in4 (List.mem_of_getElem? (i := 88) (by decide +kernel))) (by decide +kernel)
theorem tw_4_90 : Cond.methodLinkNest "NamesOnLetters" 183 ⟨"NamesOnLetters$Shares", "tellOdds", "(II)I"⟩ "NamesOnLetters" ∈ tblA := tbl_a (tbl_in4 (List.mem_of_getElem? (i := 90) (by decide +kernel))) (by decide +kernel)
theorem tw_4_92 : Cond.instanceMethod ⟨"NamesOnLetters$Shares", "tellOdds", "(II)I"⟩ ∈ tblA := tbl_a (tbl_in4 (List.mem_of_getElem? (i := 92) (by decide +kernel))) (by decide +kernel)
theorem tw_4_94 : Cond.methodLinkNest "NamesOnLetters$Shares" 123 ⟨"NamesOnLetters", "within", "(III)Z"⟩ "NamesOnLetters" ∈ tblA := tbl_a (tbl_in4 (List.mem_of_getElem? (i := 94) (by decide +kernel))) (by decide +kernel)
theorem tw_4_95 : Cond.methodLink "NamesOnLetters$Shares" 127 ⟨"NamesOnLetters$Shares", "countWays", "(I)V"⟩ ∈ tblA := tbl_a (tbl_in4 (List.mem_of_getElem? (i := 95) (by decide +kernel))) (by decide +kernel)
theorem tw_4_97 : Cond.instanceMethod ⟨"NamesOnLetters$Shares", "countWays", "(I)V"⟩ ∈ tblA := tbl_a (tbl_in4 (List.mem_of_getElem? (i := 97) (by decide +kernel))) (by decide +kernel)
theorem tw_4_99 : Cond.methodLink "NamesOnLetters$Shares" 134 ⟨"NamesOnLetters$Shares", "joinWaysOfPart", "()V"⟩ ∈ tblA := tbl_a (tbl_in4 (List.mem_of_getElem? (i := 99) (by decide +kernel))) (by decide +kernel)
theorem tw_4_101 : Cond.instanceMethod ⟨"NamesOnLetters$Shares", "joinWaysOfPart", "()V"⟩ ∈ tblA := tbl_a (tbl_in4 (List.mem_of_getElem? (i := 101) (by decide +kernel))) (by decide +kernel)
theorem tw_4_103 : Cond.methodLinkNest "NamesOnLetters$Shares" 137 ⟨"NamesOnLetters", "choices", "(II)J"⟩ "NamesOnLetters" ∈ tblA := tbl_a (tbl_in4 (List.mem_of_getElem? (i := 103) (by decide +kernel))) (by decide +kernel)
theorem tw_4_104 : Cond.static ⟨"NamesOnLetters", "choices", "(II)J"⟩ ∈ tblA := tbl_a (tbl_in4 (List.mem_of_getElem? (i := 104) (by decide +kernel))) (by decide +kernel)
theorem tw_4_106 : Cond.methodLink "NamesOnLettersLaw" 109 ⟨"NamesOnLetters", "weighs", "()I"⟩ ∈ tblA := tbl_a (tbl_in4 (List.mem_of_getElem? (i := 106) (by decide +kernel))) (by decide +kernel)
theorem tw_4_107 : Cond.instanceMethod ⟨"NamesOnLetters", "weighs", "()I"⟩ ∈ tblA := tbl_a (tbl_in4 (List.mem_of_getElem? (i := 107) (by decide +kernel))) (by decide +kernel)
theorem tw_4_108 : Cond.selects "NamesOnLetters" ⟨"NamesOnLetters", "weighs", "()I"⟩ ⟨"NamesOnLetters", "weighs", "()I"⟩ ∈ tblA := tbl_a (tbl_in4 (List.mem_of_getElem? (i := 108) (by decide +kernel))) (by decide +kernel)
theorem tw_4_110 : Cond.methodLinkNest "NamesOnLetters" 187 ⟨"NamesOnLetters$Shares", "tellHeaviest", "()I"⟩ "NamesOnLetters" ∈ tblA := tbl_a (tbl_in4 (List.mem_of_getElem? (i := 110) (by decide +kernel))) (by decide +kernel)
theorem tw_4_112 : Cond.instanceMethod ⟨"NamesOnLetters$Shares", "tellHeaviest", "()I"⟩ ∈ tblA := tbl_a (tbl_in4 (List.mem_of_getElem? (i := 112) (by decide +kernel))) (by decide +kernel)
theorem tw_4_114 : Cond.methodLinkNest "NamesOnLetters$Shares" 141 ⟨"NamesOnLetters$Tally", "becomeWithout", "(LNamesOnLetters$Tally;LNamesOnLetters$Tally;)V"⟩ "NamesOnLetters" ∈ tblA := tbl_a (tbl_in4 (List.mem_of_getElem? (i := 114) (by decide +kernel))) (by decide +kernel)
theorem tw_4_116 : Cond.instanceMethod ⟨"NamesOnLetters$Tally", "becomeWithout", "(LNamesOnLetters$Tally;LNamesOnLetters$Tally;)V"⟩ ∈ tblA := tbl_a (tbl_in4 (List.mem_of_getElem? (i := 116) (by decide +kernel))) (by decide +kernel)
theorem tw_4_118 : Cond.methodLink "NamesOnLettersLaw" 113 ⟨"NamesOnLetters", "names", "(I)I"⟩ ∈ tblA := tbl_a (tbl_in4 (List.mem_of_getElem? (i := 118) (by decide +kernel))) (by decide +kernel)
theorem tw_4_119 : Cond.instanceMethod ⟨"NamesOnLetters", "names", "(I)I"⟩ ∈ tblA := tbl_a (tbl_in4 (List.mem_of_getElem? (i := 119) (by decide +kernel))) (by decide +kernel)
theorem tw_4_120 : Cond.selects "NamesOnLetters" ⟨"NamesOnLetters", "names", "(I)I"⟩ ⟨"NamesOnLetters", "names", "(I)I"⟩ ∈ tblA := tbl_a (tbl_in4 (List.mem_of_getElem? (i := 120) (by decide +kernel))) (by decide +kernel)
theorem tw_4_122 : Cond.methodLinkNest "NamesOnLetters" 190 ⟨"NamesOnLetters$Shares", "tellName", "(I)I"⟩ "NamesOnLetters" ∈ tblA := tbl_a (tbl_in4 (List.mem_of_getElem? (i := 122) (by decide +kernel))) (by decide +kernel)
theorem tw_4_124 : Cond.instanceMethod ⟨"NamesOnLetters$Shares", "tellName", "(I)I"⟩ ∈ tblA := tbl_a (tbl_in4 (List.mem_of_getElem? (i := 124) (by decide +kernel))) (by decide +kernel)
theorem tw_4_126 : Cond.methodLinkNest "NamesOnLetters$Shares" 151 ⟨"NamesOnLetters$Told", "isName", "(I)Z"⟩ "NamesOnLetters" ∈ tblA := tbl_a (tbl_in4 (List.mem_of_getElem? (i := 126) (by decide +kernel))) (by decide +kernel)
theorem tw_4_127 : Cond.methodLink "NamesOnLetters$Shares" 154 ⟨"NamesOnLetters$Shares", "gatherNames", "()I"⟩ ∈ tblA := tbl_a (tbl_in4 (List.mem_of_getElem? (i := 127) (by decide +kernel))) (by decide +kernel)
theorem tw_4_129 : Cond.instanceMethod ⟨"NamesOnLetters$Shares", "gatherNames", "()I"⟩ ∈ tblA := tbl_a (tbl_in4 (List.mem_of_getElem? (i := 129) (by decide +kernel))) (by decide +kernel)
theorem tw_4_131 : Cond.methodLink "NamesOnLettersLaw" 117 ⟨"NamesOnLetters", "drawn", "()I"⟩ ∈ tblA := tbl_a (tbl_in4 (List.mem_of_getElem? (i := 131) (by decide +kernel))) (by decide +kernel)
theorem tw_4_132 : Cond.instanceMethod ⟨"NamesOnLetters", "drawn", "()I"⟩ ∈ tblA := tbl_a (tbl_in4 (List.mem_of_getElem? (i := 132) (by decide +kernel))) (by decide +kernel)
theorem tw_4_133 : Cond.selects "NamesOnLetters" ⟨"NamesOnLetters", "drawn", "()I"⟩ ⟨"NamesOnLetters", "drawn", "()I"⟩ ∈ tblA := tbl_a (tbl_in4 (List.mem_of_getElem? (i := 133) (by decide +kernel))) (by decide +kernel)
theorem tw_4_135 : Cond.methodLinkNest "NamesOnLetters" 193 ⟨"NamesOnLetters$Shares", "tellDrawn", "()I"⟩ "NamesOnLetters" ∈ tblA := tbl_a (tbl_in4 (List.mem_of_getElem? (i := 135) (by decide +kernel))) (by decide +kernel)
theorem tw_4_137 : Cond.instanceMethod ⟨"NamesOnLetters$Shares", "tellDrawn", "()I"⟩ ∈ tblA := tbl_a (tbl_in4 (List.mem_of_getElem? (i := 137) (by decide +kernel))) (by decide +kernel)
theorem tw_4_139 : Cond.methodLink "NamesOnLetters$Shares" 157 ⟨"NamesOnLetters$Shares", "scaleShares", "(I)V"⟩ ∈ tblA := tbl_a (tbl_in4 (List.mem_of_getElem? (i := 139) (by decide +kernel))) (by decide +kernel)
theorem tw_4_141 : Cond.instanceMethod ⟨"NamesOnLetters$Shares", "scaleShares", "(I)V"⟩ ∈ tblA := tbl_a (tbl_in4 (List.mem_of_getElem? (i := 141) (by decide +kernel))) (by decide +kernel)
theorem tw_4_143 : Cond.methodLinkNest "NamesOnLetters$Shares" 172 ⟨"NamesOnLetters", "leastMultiple", "(JJ)J"⟩ "NamesOnLetters" ∈ tblA := tbl_a (tbl_in4 (List.mem_of_getElem? (i := 143) (by decide +kernel))) (by decide +kernel)
theorem tw_4_144 : Cond.static ⟨"NamesOnLetters", "leastMultiple", "(JJ)J"⟩ ∈ tblA := tbl_a (tbl_in4 (List.mem_of_getElem? (i := 144) (by decide +kernel))) (by decide +kernel)
theorem tw_4_146 : Cond.methodLink "NamesOnLetters" 307 ⟨"NamesOnLetters", "greatestDiviso\x72", "(JJ)J"⟩ ∈ tblA := tbl_a (tbl_in4 (List.mem_of_getElem? (i := 146) (by decide +kernel))) (by decide +kernel)
theorem tw_4_147 : Cond.methodLink "NamesOnLetters$Shares" 163 ⟨"java/lang/Intege\x72", "bitCount", "(I)I"⟩ ∈ tblA := tbl_a (tbl_in4 (List.mem_of_getElem? (i := 147) (by decide +kernel))) (by decide +kernel)
theorem tw_4_148 : Cond.static ⟨"java/lang/Intege\x72", "bitCount", "(I)I"⟩ ∈ tblA := tbl_a (tbl_in4 (List.mem_of_getElem? (i := 148) (by decide +kernel))) (by decide +kernel)
theorem tw_4_150 : Cond.constant "java/lang/Intege\x72" 265 (1431655765) ∈ tblA := tbl_a (tbl_in4 (List.mem_of_getElem? (i := 150) (by decide +kernel))) (by decide +kernel)
theorem tw_4_151 : Cond.constant "java/lang/Intege\x72" 266 (858993459) ∈ tblA := tbl_a (tbl_in4 (List.mem_of_getElem? (i := 151) (by decide +kernel))) (by decide +kernel)
theorem tw_4_152 : Cond.constant "java/lang/Intege\x72" 267 (252645135) ∈ tblA := tbl_a (tbl_in4 (List.mem_of_getElem? (i := 152) (by decide +kernel))) (by decide +kernel)
theorem tw_4_153 : Cond.methodLink "NamesOnLetters$Shares" 169 ⟨"NamesOnLetters$Shares", "sumOfShares", "(II)J"⟩ ∈ tblA := tbl_a (tbl_in4 (List.mem_of_getElem? (i := 153) (by decide +kernel))) (by decide +kernel)
theorem tw_4_155 : Cond.instanceMethod ⟨"NamesOnLetters$Shares", "sumOfShares", "(II)J"⟩ ∈ tblA := tbl_a (tbl_in4 (List.mem_of_getElem? (i := 155) (by decide +kernel))) (by decide +kernel)
theorem tw_4_157 : Cond.methodLink "NamesOnLettersLaw" 121 ⟨"NamesOnLetters", "goes", "(I)I"⟩ ∈ tblA := tbl_a (tbl_in4 (List.mem_of_getElem? (i := 157) (by decide +kernel))) (by decide +kernel)
theorem tw_4_158 : Cond.instanceMethod ⟨"NamesOnLetters", "goes", "(I)I"⟩ ∈ tblA := tbl_a (tbl_in4 (List.mem_of_getElem? (i := 158) (by decide +kernel))) (by decide +kernel)
theorem tw_4_159 : Cond.selects "NamesOnLetters" ⟨"NamesOnLetters", "goes", "(I)I"⟩ ⟨"NamesOnLetters", "goes", "(I)I"⟩ ∈ tblA := tbl_a (tbl_in4 (List.mem_of_getElem? (i := 159) (by decide +kernel))) (by decide +kernel)
theorem tw_4_161 : Cond.methodLinkNest "NamesOnLetters" 196 ⟨"NamesOnLetters$Shares", "tellGoing", "(I)I"⟩ "NamesOnLetters" ∈ tblA := tbl_a (tbl_in4 (List.mem_of_getElem? (i := 161) (by decide +kernel))) (by decide +kernel)
theorem tw_4_163 : Cond.instanceMethod ⟨"NamesOnLetters$Shares", "tellGoing", "(I)I"⟩ ∈ tblA := tbl_a (tbl_in4 (List.mem_of_getElem? (i := 163) (by decide +kernel))) (by decide +kernel)
theorem tw_4_165 : Cond.methodLink "NamesOnLetters$Shares" 196 ⟨"NamesOnLetters$Shares", "pairsGoing", "(III)I"⟩ ∈ tblA := tbl_a (tbl_in4 (List.mem_of_getElem? (i := 165) (by decide +kernel))) (by decide +kernel)
theorem tw_4_167 : Cond.instanceMethod ⟨"NamesOnLetters$Shares", "pairsGoing", "(III)I"⟩ ∈ tblA := tbl_a (tbl_in4 (List.mem_of_getElem? (i := 167) (by decide +kernel))) (by decide +kernel)
theorem tw_4_169 : Cond.methodLink "NamesOnLetters$Shares" 189 ⟨"NamesOnLetters$Shares", "compareBy", "(III)I"⟩ ∈ tblA := tbl_a (tbl_in4 (List.mem_of_getElem? (i := 169) (by decide +kernel))) (by decide +kernel)
theorem tw_4_171 : Cond.instanceMethod ⟨"NamesOnLetters$Shares", "compareBy", "(III)I"⟩ ∈ tblA := tbl_a (tbl_in4 (List.mem_of_getElem? (i := 171) (by decide +kernel))) (by decide +kernel)
theorem tw_4_173 : Cond.methodLink "NamesOnLetters$Shares" 176 ⟨"java/lang/Intege\x72", "compare", "(II)I"⟩ ∈ tblA := tbl_a (tbl_in4 (List.mem_of_getElem? (i := 173) (by decide +kernel))) (by decide +kernel)
theorem tw_4_174 : Cond.static ⟨"java/lang/Intege\x72", "compare", "(II)I"⟩ ∈ tblA := tbl_a (tbl_in4 (List.mem_of_getElem? (i := 174) (by decide +kernel))) (by decide +kernel)
theorem tw_4_176 : Cond.methodLink "NamesOnLetters$Shares" 193 ⟨"NamesOnLetters$Shares", "compareShares", "(II)I"⟩ ∈ tblA := tbl_a (tbl_in4 (List.mem_of_getElem? (i := 176) (by decide +kernel))) (by decide +kernel)
theorem tw_4_178 : Cond.instanceMethod ⟨"NamesOnLetters$Shares", "compareShares", "(II)I"⟩ ∈ tblA := tbl_a (tbl_in4 (List.mem_of_getElem? (i := 178) (by decide +kernel))) (by decide +kernel)
theorem tw_4_180 : Cond.methodLink "NamesOnLettersLaw" 125 ⟨"NamesOnLetters", "says", "()I"⟩ ∈ tblA := tbl_a (tbl_in4 (List.mem_of_getElem? (i := 180) (by decide +kernel))) (by decide +kernel)
theorem tw_4_181 : Cond.instanceMethod ⟨"NamesOnLetters", "says", "()I"⟩ ∈ tblA := tbl_a (tbl_in4 (List.mem_of_getElem? (i := 181) (by decide +kernel))) (by decide +kernel)
theorem tw_4_182 : Cond.selects "NamesOnLetters" ⟨"NamesOnLetters", "says", "()I"⟩ ⟨"NamesOnLetters", "says", "()I"⟩ ∈ tblA := tbl_a (tbl_in4 (List.mem_of_getElem? (i := 182) (by decide +kernel))) (by decide +kernel)
theorem tw_4_184 : Cond.methodLinkNest "NamesOnLetters" 199 ⟨"NamesOnLetters$Shares", "tellSaid", "()I"⟩ "NamesOnLetters" ∈ tblA := tbl_a (tbl_in4 (List.mem_of_getElem? (i := 184) (by decide +kernel))) (by decide +kernel)
theorem tw_4_186 : Cond.instanceMethod ⟨"NamesOnLetters$Shares", "tellSaid", "()I"⟩ ∈ tblA := tbl_a (tbl_in4 (List.mem_of_getElem? (i := 186) (by decide +kernel))) (by decide +kernel)
theorem tw_4_188 : Cond.methodLink "NamesOnLetters$Shares" 199 ⟨"java/lang/Math", "abs", "(I)I"⟩ ∈ tblA := tbl_a (tbl_in4 (List.mem_of_getElem? (i := 188) (by decide +kernel))) (by decide +kernel)
theorem tw_4_189 : Cond.static ⟨"java/lang/Math", "abs", "(I)I"⟩ ∈ tblA := tbl_a (tbl_in4 (List.mem_of_getElem? (i := 189) (by decide +kernel))) (by decide +kernel)
theorem tw_4_191 : Cond.methodLink "NamesOnLettersLaw" 129 ⟨"NamesOnLetters", "child", "(I)I"⟩ ∈ tblA := tbl_a (tbl_in4 (List.mem_of_getElem? (i := 191) (by decide +kernel))) (by decide +kernel)
theorem tw_4_192 : Cond.instanceMethod ⟨"NamesOnLetters", "child", "(I)I"⟩ ∈ tblA := tbl_a (tbl_in4 (List.mem_of_getElem? (i := 192) (by decide +kernel))) (by decide +kernel)
theorem tw_4_193 : Cond.selects "NamesOnLetters" ⟨"NamesOnLetters", "child", "(I)I"⟩ ⟨"NamesOnLetters", "child", "(I)I"⟩ ∈ tblA := tbl_a (tbl_in4 (List.mem_of_getElem? (i := 193) (by decide +kernel))) (by decide +kernel)
theorem tw_4_195 : Cond.methodLinkNest "NamesOnLetters" 202 ⟨"NamesOnLetters$Shares", "tellChild", "(I)I"⟩ "NamesOnLetters" ∈ tblA := tbl_a (tbl_in4 (List.mem_of_getElem? (i := 195) (by decide +kernel))) (by decide +kernel)
theorem tw_4_197 : Cond.instanceMethod ⟨"NamesOnLetters$Shares", "tellChild", "(I)I"⟩ ∈ tblA := tbl_a (tbl_in4 (List.mem_of_getElem? (i := 197) (by decide +kernel))) (by decide +kernel)
theorem tw_4_199 : Cond.methodLink "NamesOnLetters$Shares" 204 ⟨"NamesOnLetters$Shares", "isChildPai\x72", "(III)Z"⟩ ∈ tblA := tbl_a (tbl_in4 (List.mem_of_getElem? (i := 199) (by decide +kernel))) (by decide +kernel)
theorem tw_4_201 : Cond.instanceMethod ⟨"NamesOnLetters$Shares", "isChildPai\x72", "(III)Z"⟩ ∈ tblA := tbl_a (tbl_in4 (List.mem_of_getElem? (i := 201) (by decide +kernel))) (by decide +kernel)
theorem tw_4_203 : Cond.methodLink "NamesOnLettersLaw" 133 ⟨"NamesOnLetters", "table", "(II)I"⟩ ∈ tblA := tbl_a (tbl_in4 (List.mem_of_getElem? (i := 203) (by decide +kernel))) (by decide +kernel)
theorem tw_4_204 : Cond.instanceMethod ⟨"NamesOnLetters", "table", "(II)I"⟩ ∈ tblA := tbl_a (tbl_in4 (List.mem_of_getElem? (i := 204) (by decide +kernel))) (by decide +kernel)
theorem tw_4_205 : Cond.selects "NamesOnLetters" ⟨"NamesOnLetters", "table", "(II)I"⟩ ⟨"NamesOnLetters", "table", "(II)I"⟩ ∈ tblA := tbl_a (tbl_in4 (List.mem_of_getElem? (i := 205) (by decide +kernel))) (by decide +kernel)
theorem tw_4_207 : Cond.methodLinkNest "NamesOnLetters" 205 ⟨"NamesOnLetters$Kinds", "housesWith", "(II)I"⟩ "NamesOnLetters" ∈ tblA := tbl_a (tbl_in4 (List.mem_of_getElem? (i := 207) (by decide +kernel))) (by decide +kernel)
theorem tw_4_209 : Cond.instanceMethod ⟨"NamesOnLetters$Kinds", "housesWith", "(II)I"⟩ ∈ tblA := tbl_a (tbl_in4 (List.mem_of_getElem? (i := 209) (by decide +kernel))) (by decide +kernel)
theorem tw_4_211 : Cond.methodLinkNest "NamesOnLetters$Kinds" 72 ⟨"NamesOnLetters", "within", "(III)Z"⟩ "NamesOnLetters" ∈ tblA := tbl_a (tbl_in4 (List.mem_of_getElem? (i := 211) (by decide +kernel))) (by decide +kernel)
theorem tw_4_212 : Cond.methodLinkNest "NamesOnLetters$Kinds" 79 ⟨"NamesOnLetters$Told", "hasRead", "(I)Z"⟩ "NamesOnLetters" ∈ tblA := tbl_a (tbl_in4 (List.mem_of_getElem? (i := 212) (by decide +kernel))) (by decide +kernel)
theorem tw_4_214 : Cond.instanceMethod ⟨"NamesOnLetters$Told", "hasRead", "(I)Z"⟩ ∈ tblA := tbl_a (tbl_in4 (List.mem_of_getElem? (i := 214) (by decide +kernel))) (by decide +kernel)
theorem tw_4_216 : Cond.methodLink "NamesOnLetters$Kinds" 83 ⟨"NamesOnLetters$Kinds", "rungIn", "(II)I"⟩ ∈ tblA := tbl_a (tbl_in4 (List.mem_of_getElem? (i := 216) (by decide +kernel))) (by decide +kernel)
theorem tw_4_218 : Cond.instanceMethod ⟨"NamesOnLetters$Kinds", "rungIn", "(II)I"⟩ ∈ tblA := tbl_a (tbl_in4 (List.mem_of_getElem? (i := 218) (by decide +kernel))) (by decide +kernel)
theorem tw_4_220 : Cond.methodLinkNest "NamesOnLetters$Kinds" 68 ⟨"NamesOnLetters$Told", "peopleOf", "(LNamesOnLetters$Letter;)I"⟩ "NamesOnLetters" ∈ tblA := tbl_a (tbl_in4 (List.mem_of_getElem? (i := 220) (by decide +kernel))) (by decide +kernel)
theorem tw_4_221 : Cond.methodLink "NamesOnLettersLaw" 137 ⟨"NamesOnLetters", "kind", "(III)Z"⟩ ∈ tblA := tbl_a (tbl_in4 (List.mem_of_getElem? (i := 221) (by decide +kernel))) (by decide +kernel)
theorem tw_4_222 : Cond.instanceMethod ⟨"NamesOnLetters", "kind", "(III)Z"⟩ ∈ tblA := tbl_a (tbl_in4 (List.mem_of_getElem? (i := 222) (by decide +kernel))) (by decide +kernel)
theorem tw_4_223 : Cond.selects "NamesOnLetters" ⟨"NamesOnLetters", "kind", "(III)Z"⟩ ⟨"NamesOnLetters", "kind", "(III)Z"⟩ ∈ tblA := tbl_a (tbl_in4 (List.mem_of_getElem? (i := 223) (by decide +kernel))) (by decide +kernel)
theorem tw_4_225 : Cond.methodLinkNest "NamesOnLetters" 208 ⟨"NamesOnLetters$Kinds", "become", "(III)Z"⟩ "NamesOnLetters" ∈ tblA := tbl_a (tbl_in4 (List.mem_of_getElem? (i := 225) (by decide +kernel))) (by decide +kernel)
theorem tw_4_227 : Cond.instanceMethod ⟨"NamesOnLetters$Kinds", "become", "(III)Z"⟩ ∈ tblA := tbl_a (tbl_in4 (List.mem_of_getElem? (i := 227) (by decide +kernel))) (by decide +kernel)
theorem tw_4_229 : Cond.methodLink "NamesOnLettersLaw" 142 ⟨"NamesOnLetters", "parts", "(II)I"⟩ ∈ tblA := tbl_a (tbl_in4 (List.mem_of_getElem? (i := 229) (by decide +kernel))) (by decide +kernel)
theorem tw_4_230 : Cond.instanceMethod ⟨"NamesOnLetters", "parts", "(II)I"⟩ ∈ tblA := tbl_a (tbl_in4 (List.mem_of_getElem? (i := 230) (by decide +kernel))) (by decide +kernel)
theorem tw_4_231 : Cond.selects "NamesOnLetters" ⟨"NamesOnLetters", "parts", "(II)I"⟩ ⟨"NamesOnLetters", "parts", "(II)I"⟩ ∈ tblA := tbl_a (tbl_in4 (List.mem_of_getElem? (i := 231) (by decide +kernel))) (by decide +kernel)
theorem tw_4_233 : Cond.methodLinkNest "NamesOnLetters" 211 ⟨"NamesOnLetters$Kinds", "becomePart", "(II)I"⟩ "NamesOnLetters" ∈ tblA := tbl_a (tbl_in4 (List.mem_of_getElem? (i := 233) (by decide +kernel))) (by decide +kernel)
theorem tw_4_235 : Cond.instanceMethod ⟨"NamesOnLetters$Kinds", "becomePart", "(II)I"⟩ ∈ tblA := tbl_a (tbl_in4 (List.mem_of_getElem? (i := 235) (by decide +kernel))) (by decide +kernel)
theorem tw_4_237 : Cond.methodLink "NamesOnLettersLaw" 146 ⟨"NamesOnLetters", "likely", "(II)I"⟩ ∈ tblA := tbl_a (tbl_in4 (List.mem_of_getElem? (i := 237) (by decide +kernel))) (by decide +kernel)
theorem tw_4_238 : Cond.instanceMethod ⟨"NamesOnLetters", "likely", "(II)I"⟩ ∈ tblA := tbl_a (tbl_in4 (List.mem_of_getElem? (i := 238) (by decide +kernel))) (by decide +kernel)
theorem tw_4_239 : Cond.selects "NamesOnLetters" ⟨"NamesOnLetters", "likely", "(II)I"⟩ ⟨"NamesOnLetters", "likely", "(II)I"⟩ ∈ tblA := tbl_a (tbl_in4 (List.mem_of_getElem? (i := 239) (by decide +kernel))) (by decide +kernel)
theorem tw_5_1 : Cond.methodLinkNest "NamesOnLetters" 214 ⟨"NamesOnLetters$Kinds", "howLikely", "(II)I"⟩ "NamesOnLetters" ∈ tblA := tbl_a (tbl_in5 (List.mem_of_getElem? (i := 1) (by decide +kernel))) (by decide +kernel)
theorem tw_5_3 : Cond.instanceMethod ⟨"NamesOnLetters$Kinds", "howLikely", "(II)I"⟩ ∈ tblA := tbl_a (tbl_in5 (List.mem_of_getElem? (i := 3) (by decide +kernel))) (by decide +kernel)
theorem tw_5_5 : Cond.methodLinkNest "NamesOnLetters$Kinds" 90 ⟨"NamesOnLetters$Told", "isHouse", "(I)Z"⟩ "NamesOnLetters" ∈ tblA := tbl_a (tbl_in5 (List.mem_of_getElem? (i := 5) (by decide +kernel))) (by decide +kernel)
theorem tw_5_6 : Cond.methodLink "NamesOnLetters$Kinds" 93 ⟨"NamesOnLetters$Kinds", "sumOfLikely", "(II)I"⟩ ∈ tblA := tbl_a (tbl_in5 (List.mem_of_getElem? (i := 6) (by decide +kernel))) (by decide +kernel)
theorem tw_5_8 : Cond.instanceMethod ⟨"NamesOnLetters$Kinds", "sumOfLikely", "(II)I"⟩ ∈ tblA := tbl_a (tbl_in5 (List.mem_of_getElem? (i := 8) (by decide +kernel))) (by decide +kernel)
theorem tw_5_10 : Cond.methodLink "NamesOnLetters$Kinds" 96 ⟨"NamesOnLetters$Kinds", "likelihood", "(II)J"⟩ ∈ tblA := tbl_a (tbl_in5 (List.mem_of_getElem? (i := 10) (by decide +kernel))) (by decide +kernel)
theorem tw_5_12 : Cond.instanceMethod ⟨"NamesOnLetters$Kinds", "likelihood", "(II)J"⟩ ∈ tblA := tbl_a (tbl_in5 (List.mem_of_getElem? (i := 12) (by decide +kernel))) (by decide +kernel)
theorem tw_5_14 : Cond.constantLong "NamesOnLetters$Kinds" 100 (1000000) ∈ tblA := tbl_a (tbl_in5 (List.mem_of_getElem? (i := 14) (by decide +kernel))) (by decide +kernel)
theorem tw_5_15 : Cond.methodLink "NamesOnLettersLaw" 150 ⟨"NamesOnLetters", "fit", "()I"⟩ ∈ tblA := tbl_a (tbl_in5 (List.mem_of_getElem? (i := 15) (by decide +kernel))) (by decide +kernel)
theorem tw_5_16 : Cond.instanceMethod ⟨"NamesOnLetters", "fit", "()I"⟩ ∈ tblA := tbl_a (tbl_in5 (List.mem_of_getElem? (i := 16) (by decide +kernel))) (by decide +kernel)
theorem tw_5_17 : Cond.selects "NamesOnLetters" ⟨"NamesOnLetters", "fit", "()I"⟩ ⟨"NamesOnLetters", "fit", "()I"⟩ ∈ tblA := tbl_a (tbl_in5 (List.mem_of_getElem? (i := 17) (by decide +kernel))) (by decide +kernel)
theorem tw_5_19 : Cond.methodLinkNest "NamesOnLetters" 217 ⟨"NamesOnLetters$Kinds", "tellFit", "()I"⟩ "NamesOnLetters" ∈ tblA := tbl_a (tbl_in5 (List.mem_of_getElem? (i := 19) (by decide +kernel))) (by decide +kernel)
theorem tw_5_21 : Cond.instanceMethod ⟨"NamesOnLetters$Kinds", "tellFit", "()I"⟩ ∈ tblA := tbl_a (tbl_in5 (List.mem_of_getElem? (i := 21) (by decide +kernel))) (by decide +kernel)
theorem tw_5_23 : Cond.methodLinkNest "NamesOnLetters$Kinds" 102 ⟨"NamesOnLetters$Big", "become", "(I)V"⟩ "NamesOnLetters" ∈ tblA := tbl_a (tbl_in5 (List.mem_of_getElem? (i := 23) (by decide +kernel))) (by decide +kernel)
theorem tw_5_25 : Cond.instanceMethod ⟨"NamesOnLetters$Big", "become", "(I)V"⟩ ∈ tblA := tbl_a (tbl_in5 (List.mem_of_getElem? (i := 25) (by decide +kernel))) (by decide +kernel)
theorem tw_5_27 : Cond.methodLink "NamesOnLetters$Big" 17 ⟨"NamesOnLetters$Big", "carry", "()V"⟩ ∈ tblA := tbl_a (tbl_in5 (List.mem_of_getElem? (i := 27) (by decide +kernel))) (by decide +kernel)
theorem tw_5_29 : Cond.instanceMethod ⟨"NamesOnLetters$Big", "carry", "()V"⟩ ∈ tblA := tbl_a (tbl_in5 (List.mem_of_getElem? (i := 29) (by decide +kernel))) (by decide +kernel)
theorem tw_5_31 : Cond.methodLink "NamesOnLetters$Big" 20 ⟨"NamesOnLetters$Big", "stretch", "(I)V"⟩ ∈ tblA := tbl_a (tbl_in5 (List.mem_of_getElem? (i := 31) (by decide +kernel))) (by decide +kernel)
theorem tw_5_33 : Cond.instanceMethod ⟨"NamesOnLetters$Big", "stretch", "(I)V"⟩ ∈ tblA := tbl_a (tbl_in5 (List.mem_of_getElem? (i := 33) (by decide +kernel))) (by decide +kernel)
theorem tw_5_35 : Cond.constantLong "NamesOnLetters$Big" 24 (100000000) ∈ tblA := tbl_a (tbl_in5 (List.mem_of_getElem? (i := 35) (by decide +kernel))) (by decide +kernel)
theorem tw_5_36 : Cond.methodLink "NamesOnLetters$Kinds" 105 ⟨"NamesOnLetters$Kinds", "isLikelie\x72", "(II)Z"⟩ ∈ tblA := tbl_a (tbl_in5 (List.mem_of_getElem? (i := 36) (by decide +kernel))) (by decide +kernel)
theorem tw_5_38 : Cond.instanceMethod ⟨"NamesOnLetters$Kinds", "isLikelie\x72", "(II)Z"⟩ ∈ tblA := tbl_a (tbl_in5 (List.mem_of_getElem? (i := 38) (by decide +kernel))) (by decide +kernel)
theorem tw_5_40 : Cond.methodLink "NamesOnLetters$Kinds" 114 ⟨"NamesOnLetters$Kinds", "tenths", "(II)I"⟩ ∈ tblA := tbl_a (tbl_in5 (List.mem_of_getElem? (i := 40) (by decide +kernel))) (by decide +kernel)
theorem tw_5_41 : Cond.static ⟨"NamesOnLetters$Kinds", "tenths", "(II)I"⟩ ∈ tblA := tbl_a (tbl_in5 (List.mem_of_getElem? (i := 41) (by decide +kernel))) (by decide +kernel)
theorem tw_5_43 : Cond.methodLinkNest "NamesOnLetters$Kinds" 121 ⟨"NamesOnLetters$Big", "times", "(J)V"⟩ "NamesOnLetters" ∈ tblA := tbl_a (tbl_in5 (List.mem_of_getElem? (i := 43) (by decide +kernel))) (by decide +kernel)
theorem tw_5_45 : Cond.instanceMethod ⟨"NamesOnLetters$Big", "times", "(J)V"⟩ ∈ tblA := tbl_a (tbl_in5 (List.mem_of_getElem? (i := 45) (by decide +kernel))) (by decide +kernel)
theorem tw_5_47 : Cond.methodLinkNest "NamesOnLetters$Kinds" 124 ⟨"NamesOnLetters$Big", "isMoreThan", "(LNamesOnLetters$Big;)Z"⟩ "NamesOnLetters" ∈ tblA := tbl_a (tbl_in5 (List.mem_of_getElem? (i := 47) (by decide +kernel))) (by decide +kernel)
theorem tw_5_49 : Cond.instanceMethod ⟨"NamesOnLetters$Big", "isMoreThan", "(LNamesOnLetters$Big;)Z"⟩ ∈ tblA := tbl_a (tbl_in5 (List.mem_of_getElem? (i := 49) (by decide +kernel))) (by decide +kernel)
theorem tw_5_51 : Cond.methodLinkNest "NamesOnLetters$Kinds" 109 ⟨"NamesOnLetters$Row", "clea\x72", "()V"⟩ "NamesOnLetters" ∈ tblA := tbl_a (tbl_in5 (List.mem_of_getElem? (i := 51) (by decide +kernel))) (by decide +kernel)
theorem tw_5_52 : Cond.methodLinkNest "NamesOnLetters$Kinds" 117 ⟨"NamesOnLetters$Row", "add", "(J)V"⟩ "NamesOnLetters" ∈ tblA := tbl_a (tbl_in5 (List.mem_of_getElem? (i := 52) (by decide +kernel))) (by decide +kernel)
theorem tw_5_53 : Cond.methodLink "NamesOnLettersLaw" 154 ⟨"NamesOnLetters", "named", "(II)I"⟩ ∈ tblA := tbl_a (tbl_in5 (List.mem_of_getElem? (i := 53) (by decide +kernel))) (by decide +kernel)
theorem tw_5_54 : Cond.instanceMethod ⟨"NamesOnLetters", "named", "(II)I"⟩ ∈ tblA := tbl_a (tbl_in5 (List.mem_of_getElem? (i := 54) (by decide +kernel))) (by decide +kernel)
theorem tw_5_55 : Cond.selects "NamesOnLetters" ⟨"NamesOnLetters", "named", "(II)I"⟩ ⟨"NamesOnLetters", "named", "(II)I"⟩ ∈ tblA := tbl_a (tbl_in5 (List.mem_of_getElem? (i := 55) (by decide +kernel))) (by decide +kernel)
theorem tw_5_57 : Cond.methodLinkNest "NamesOnLetters" 220 ⟨"NamesOnLetters$Kinds", "tellNamed", "(II)I"⟩ "NamesOnLetters" ∈ tblA := tbl_a (tbl_in5 (List.mem_of_getElem? (i := 57) (by decide +kernel))) (by decide +kernel)
theorem tw_5_59 : Cond.instanceMethod ⟨"NamesOnLetters$Kinds", "tellNamed", "(II)I"⟩ ∈ tblA := tbl_a (tbl_in5 (List.mem_of_getElem? (i := 59) (by decide +kernel))) (by decide +kernel)
theorem tw_5_61 : Cond.constant "NamesOnLetters$Kinds" 131 (1000000) ∈ tblA := tbl_a (tbl_in5 (List.mem_of_getElem? (i := 61) (by decide +kernel))) (by decide +kernel)
theorem tw_5_62 : Cond.methodLink "NamesOnLetters$Kinds" 132 ⟨"NamesOnLetters$Kinds", "fillSums", "(I)V"⟩ ∈ tblA := tbl_a (tbl_in5 (List.mem_of_getElem? (i := 62) (by decide +kernel))) (by decide +kernel)
theorem tw_5_64 : Cond.instanceMethod ⟨"NamesOnLetters$Kinds", "fillSums", "(I)V"⟩ ∈ tblA := tbl_a (tbl_in5 (List.mem_of_getElem? (i := 64) (by decide +kernel))) (by decide +kernel)
theorem tw_5_66 : Cond.methodLink "NamesOnLetters$Kinds" 128 ⟨"NamesOnLetters$Kinds", "isNamed", "(II)Z"⟩ ∈ tblA := tbl_a (tbl_in5 (List.mem_of_getElem? (i := 66) (by decide +kernel))) (by decide +kernel)
theorem tw_5_68 : Cond.instanceMethod ⟨"NamesOnLetters$Kinds", "isNamed", "(II)Z"⟩ ∈ tblA := tbl_a (tbl_in5 (List.mem_of_getElem? (i := 68) (by decide +kernel))) (by decide +kernel)
theorem tw_5_70 : Cond.methodLink "NamesOnLetters$Kinds" 135 ⟨"NamesOnLetters$Kinds", "wronglyNamed", "(I)J"⟩ ∈ tblA := tbl_a (tbl_in5 (List.mem_of_getElem? (i := 70) (by decide +kernel))) (by decide +kernel)
theorem tw_5_72 : Cond.instanceMethod ⟨"NamesOnLetters$Kinds", "wronglyNamed", "(I)J"⟩ ∈ tblA := tbl_a (tbl_in5 (List.mem_of_getElem? (i := 72) (by decide +kernel))) (by decide +kernel)
theorem tw_5_74 : Cond.methodLink "NamesOnLettersLaw" 158 ⟨"NamesOnLetters", "sure", "(II)I"⟩ ∈ tblA := tbl_a (tbl_in5 (List.mem_of_getElem? (i := 74) (by decide +kernel))) (by decide +kernel)
theorem tw_5_75 : Cond.instanceMethod ⟨"NamesOnLetters", "sure", "(II)I"⟩ ∈ tblA := tbl_a (tbl_in5 (List.mem_of_getElem? (i := 75) (by decide +kernel))) (by decide +kernel)
theorem tw_5_76 : Cond.selects "NamesOnLetters" ⟨"NamesOnLetters", "sure", "(II)I"⟩ ⟨"NamesOnLetters", "sure", "(II)I"⟩ ∈ tblA := tbl_a (tbl_in5 (List.mem_of_getElem? (i := 76) (by decide +kernel))) (by decide +kernel)
theorem tw_5_78 : Cond.methodLinkNest "NamesOnLetters" 223 ⟨"NamesOnLetters$Kinds", "leastLine", "(II)I"⟩ "NamesOnLetters" ∈ tblA := tbl_a (tbl_in5 (List.mem_of_getElem? (i := 78) (by decide +kernel))) (by decide +kernel)
theorem tw_5_80 : Cond.instanceMethod ⟨"NamesOnLetters$Kinds", "leastLine", "(II)I"⟩ ∈ tblA := tbl_a (tbl_in5 (List.mem_of_getElem? (i := 80) (by decide +kernel))) (by decide +kernel)
theorem tw_5_82 : Cond.constant "NamesOnLetters$Kinds" 139 (24000000) ∈ tblA := tbl_a (tbl_in5 (List.mem_of_getElem? (i := 82) (by decide +kernel))) (by decide +kernel)
theorem tw_5_83 : Cond.methodLink "NamesOnLettersLaw" 162 ⟨"NamesOnLetters", "most", "()I"⟩ ∈ tblA := tbl_a (tbl_in5 (List.mem_of_getElem? (i := 83) (by decide +kernel))) (by decide +kernel)
theorem tw_5_84 : Cond.instanceMethod ⟨"NamesOnLetters", "most", "()I"⟩ ∈ tblA := tbl_a (tbl_in5 (List.mem_of_getElem? (i := 84) (by decide +kernel))) (by decide +kernel)
theorem tw_5_85 : Cond.selects "NamesOnLetters" ⟨"NamesOnLetters", "most", "()I"⟩ ⟨"NamesOnLetters", "most", "()I"⟩ ∈ tblA := tbl_a (tbl_in5 (List.mem_of_getElem? (i := 85) (by decide +kernel))) (by decide +kernel)
theorem tw_5_87 : Cond.methodLinkNest "NamesOnLetters" 226 ⟨"NamesOnLetters$Kinds", "tellMost", "()I"⟩ "NamesOnLetters" ∈ tblA := tbl_a (tbl_in5 (List.mem_of_getElem? (i := 87) (by decide +kernel))) (by decide +kernel)
theorem tw_5_89 : Cond.instanceMethod ⟨"NamesOnLetters$Kinds", "tellMost", "()I"⟩ ∈ tblA := tbl_a (tbl_in5 (List.mem_of_getElem? (i := 89) (by decide +kernel))) (by decide +kernel)
theorem tw_5_91 : Cond.methodLink "NamesOnLetters$Kinds" 140 ⟨"NamesOnLetters$Kinds", "fewerIn", "(I)I"⟩ ∈ tblA := tbl_a (tbl_in5 (List.mem_of_getElem? (i := 91) (by decide +kernel))) (by decide +kernel)
theorem tw_5_93 : Cond.instanceMethod ⟨"NamesOnLetters$Kinds", "fewerIn", "(I)I"⟩ ∈ tblA := tbl_a (tbl_in5 (List.mem_of_getElem? (i := 93) (by decide +kernel))) (by decide +kernel)
theorem tw_5_95 : Cond.methodLink "NamesOnLettersLaw" 166 ⟨"NamesOnLetters", "both", "(I)I"⟩ ∈ tblA := tbl_a (tbl_in5 (List.mem_of_getElem? (i := 95) (by decide +kernel))) (by decide +kernel)
theorem tw_5_96 : Cond.instanceMethod ⟨"NamesOnLetters", "both", "(I)I"⟩ ∈ tblA := tbl_a (tbl_in5 (List.mem_of_getElem? (i := 96) (by decide +kernel))) (by decide +kernel)
theorem tw_5_97 : Cond.selects "NamesOnLetters" ⟨"NamesOnLetters", "both", "(I)I"⟩ ⟨"NamesOnLetters", "both", "(I)I"⟩ ∈ tblA := tbl_a (tbl_in5 (List.mem_of_getElem? (i := 97) (by decide +kernel))) (by decide +kernel)
theorem tw_5_99 : Cond.methodLinkNest "NamesOnLetters" 229 ⟨"NamesOnLetters$Explained", "tellBoth", "(I)I"⟩ "NamesOnLetters" ∈ tblA := tbl_a (tbl_in5 (List.mem_of_getElem? (i := 99) (by decide +kernel))) (by decide +kernel)
theorem tw_5_101 : Cond.instanceMethod ⟨"NamesOnLetters$Explained", "tellBoth", "(I)I"⟩ ∈ tblA := tbl_a (tbl_in5 (List.mem_of_getElem? (i := 101) (by decide +kernel))) (by decide +kernel)
theorem tw_5_103 : Cond.methodLinkNest "NamesOnLetters$Explained" 83 ⟨"NamesOnLetters", "within", "(III)Z"⟩ "NamesOnLetters" ∈ tblA := tbl_a (tbl_in5 (List.mem_of_getElem? (i := 103) (by decide +kernel))) (by decide +kernel)
theorem tw_5_104 : Cond.methodLink "NamesOnLetters$Explained" 87 ⟨"NamesOnLetters$Explained", "gatherWorth", "(LNamesOnLetters$Tally;II)V"⟩ ∈ tblA := tbl_a (tbl_in5 (List.mem_of_getElem? (i := 104) (by decide +kernel))) (by decide +kernel)
theorem tw_5_106 : Cond.instanceMethod ⟨"NamesOnLetters$Explained", "gatherWorth", "(LNamesOnLetters$Tally;II)V"⟩ ∈ tblA := tbl_a (tbl_in5 (List.mem_of_getElem? (i := 106) (by decide +kernel))) (by decide +kernel)
theorem tw_5_108 : Cond.methodLinkNest "NamesOnLetters$Explained" 51 ⟨"NamesOnLetters$Tally", "clea\x72", "()V"⟩ "NamesOnLetters" ∈ tblA := tbl_a (tbl_in5 (List.mem_of_getElem? (i := 108) (by decide +kernel))) (by decide +kernel)
theorem tw_5_109 : Cond.methodLinkNest "NamesOnLetters$Explained" 65 ⟨"NamesOnLetters$Told", "peopleOf", "(LNamesOnLetters$Letter;)I"⟩ "NamesOnLetters" ∈ tblA := tbl_a (tbl_in5 (List.mem_of_getElem? (i := 109) (by decide +kernel))) (by decide +kernel)
theorem tw_5_110 : Cond.methodLinkNest "NamesOnLetters$Explained" 72 ⟨"NamesOnLetters$Tally", "note", "(IZ)V"⟩ "NamesOnLetters" ∈ tblA := tbl_a (tbl_in5 (List.mem_of_getElem? (i := 110) (by decide +kernel))) (by decide +kernel)
theorem tw_5_111 : Cond.methodLinkNest "NamesOnLetters$Explained" 91 ⟨"NamesOnLetters$Tally", "hasBoth", "()Z"⟩ "NamesOnLetters" ∈ tblA := tbl_a (tbl_in5 (List.mem_of_getElem? (i := 111) (by decide +kernel))) (by decide +kernel)
theorem tw_5_112 : Cond.methodLinkNest "NamesOnLetters$Explained" 95 ⟨"NamesOnLetters$Row", "clea\x72", "()V"⟩ "NamesOnLetters" ∈ tblA := tbl_a (tbl_in5 (List.mem_of_getElem? (i := 112) (by decide +kernel))) (by decide +kernel)
theorem tw_5_113 : Cond.methodLinkNest "NamesOnLetters$Explained" 100 ⟨"NamesOnLetters$Row", "add", "(J)V"⟩ "NamesOnLetters" ∈ tblA := tbl_a (tbl_in5 (List.mem_of_getElem? (i := 113) (by decide +kernel))) (by decide +kernel)
theorem tw_5_114 : Cond.methodLinkNest "NamesOnLetters$Explained" 106 ⟨"NamesOnLetters$Tally", "asideUppe\x72", "()J"⟩ "NamesOnLetters" ∈ tblA := tbl_a (tbl_in5 (List.mem_of_getElem? (i := 114) (by decide +kernel))) (by decide +kernel)
theorem tw_5_115 : Cond.methodLinkNest "NamesOnLetters$Explained" 110 ⟨"NamesOnLetters$Tally", "asideLowe\x72", "()J"⟩ "NamesOnLetters" ∈ tblA := tbl_a (tbl_in5 (List.mem_of_getElem? (i := 115) (by decide +kernel))) (by decide +kernel)
theorem tw_5_116 : Cond.methodLinkNest "NamesOnLetters$Explained" 113 ⟨"NamesOnLetters$Row", "addFraction", "(JJ)V"⟩ "NamesOnLetters" ∈ tblA := tbl_a (tbl_in5 (List.mem_of_getElem? (i := 116) (by decide +kernel))) (by decide +kernel)
theorem tw_5_117 : Cond.methodLink "NamesOnLettersLaw" 170 ⟨"NamesOnLetters", "explains", "(I)I"⟩ ∈ tblA := tbl_a (tbl_in5 (List.mem_of_getElem? (i := 117) (by decide +kernel))) (by decide +kernel)
theorem tw_5_118 : Cond.instanceMethod ⟨"NamesOnLetters", "explains", "(I)I"⟩ ∈ tblA := tbl_a (tbl_in5 (List.mem_of_getElem? (i := 118) (by decide +kernel))) (by decide +kernel)
theorem tw_5_119 : Cond.selects "NamesOnLetters" ⟨"NamesOnLetters", "explains", "(I)I"⟩ ⟨"NamesOnLetters", "explains", "(I)I"⟩ ∈ tblA := tbl_a (tbl_in5 (List.mem_of_getElem? (i := 119) (by decide +kernel))) (by decide +kernel)
theorem tw_5_121 : Cond.methodLinkNest "NamesOnLetters" 232 ⟨"NamesOnLetters$Explained", "tellExplained", "(I)I"⟩ "NamesOnLetters" ∈ tblA := tbl_a (tbl_in5 (List.mem_of_getElem? (i := 121) (by decide +kernel))) (by decide +kernel)
theorem tw_5_123 : Cond.instanceMethod ⟨"NamesOnLetters$Explained", "tellExplained", "(I)I"⟩ ∈ tblA := tbl_a (tbl_in5 (List.mem_of_getElem? (i := 123) (by decide +kernel))) (by decide +kernel)
theorem tw_5_125 : Cond.methodLink "NamesOnLetters$Explained" 117 ⟨"NamesOnLetters$Explained", "gatherBy", "(I)V"⟩ ∈ tblA := tbl_a (tbl_in5 (List.mem_of_getElem? (i := 125) (by decide +kernel))) (by decide +kernel)
theorem tw_5_127 : Cond.instanceMethod ⟨"NamesOnLetters$Explained", "gatherBy", "(I)V"⟩ ∈ tblA := tbl_a (tbl_in5 (List.mem_of_getElem? (i := 127) (by decide +kernel))) (by decide +kernel)
theorem tw_5_129 : Cond.methodLink "NamesOnLetters$Explained" 76 ⟨"NamesOnLetters$Explained", "valueOf", "(LNamesOnLetters$Letter;I)I"⟩ ∈ tblA := tbl_a (tbl_in5 (List.mem_of_getElem? (i := 129) (by decide +kernel))) (by decide +kernel)
theorem tw_5_131 : Cond.instanceMethod ⟨"NamesOnLetters$Explained", "valueOf", "(LNamesOnLetters$Letter;I)I"⟩ ∈ tblA := tbl_a (tbl_in5 (List.mem_of_getElem? (i := 131) (by decide +kernel))) (by decide +kernel)
theorem tw_5_133 : Cond.methodLinkNest "NamesOnLetters$Explained" 121 ⟨"NamesOnLetters", "leastMultiple", "(JJ)J"⟩ "NamesOnLetters" ∈ tblA := tbl_a (tbl_in5 (List.mem_of_getElem? (i := 133) (by decide +kernel))) (by decide +kernel)
theorem tw_5_134 : Cond.methodLinkNest "NamesOnLetters$Explained" 125 ⟨"NamesOnLetters$Tally", "all", "()I"⟩ "NamesOnLetters" ∈ tblA := tbl_a (tbl_in5 (List.mem_of_getElem? (i := 134) (by decide +kernel))) (by decide +kernel)
theorem tw_5_135 : Cond.methodLinkNest "NamesOnLetters$Explained" 128 ⟨"NamesOnLetters$Tally", "asideTimes", "(J)J"⟩ "NamesOnLetters" ∈ tblA := tbl_a (tbl_in5 (List.mem_of_getElem? (i := 135) (by decide +kernel))) (by decide +kernel)
theorem tw_5_137 : Cond.instanceMethod ⟨"NamesOnLetters$Tally", "asideTimes", "(J)J"⟩ ∈ tblA := tbl_a (tbl_in5 (List.mem_of_getElem? (i := 137) (by decide +kernel))) (by decide +kernel)
theorem tw_5_139 : Cond.methodLink "NamesOnLetters$Tally" 16 ⟨"NamesOnLetters$Tally", "hasBoth", "()Z"⟩ ∈ tblA := tbl_a (tbl_in5 (List.mem_of_getElem? (i := 139) (by decide +kernel))) (by decide +kernel)
theorem tw_5_140 : Cond.methodLink "NamesOnLettersLaw" 174 ⟨"NamesOnLetters", "join", "(I)I"⟩ ∈ tblA := tbl_a (tbl_in5 (List.mem_of_getElem? (i := 140) (by decide +kernel))) (by decide +kernel)
theorem tw_5_141 : Cond.instanceMethod ⟨"NamesOnLetters", "join", "(I)I"⟩ ∈ tblA := tbl_a (tbl_in5 (List.mem_of_getElem? (i := 141) (by decide +kernel))) (by decide +kernel)
theorem tw_5_142 : Cond.selects "NamesOnLetters" ⟨"NamesOnLetters", "join", "(I)I"⟩ ⟨"NamesOnLetters", "join", "(I)I"⟩ ∈ tblA := tbl_a (tbl_in5 (List.mem_of_getElem? (i := 142) (by decide +kernel))) (by decide +kernel)
theorem tw_5_144 : Cond.methodLinkNest "NamesOnLetters" 235 ⟨"NamesOnLetters$Explained", "tellJoined", "(I)I"⟩ "NamesOnLetters" ∈ tblA := tbl_a (tbl_in5 (List.mem_of_getElem? (i := 144) (by decide +kernel))) (by decide +kernel)
theorem tw_5_146 : Cond.instanceMethod ⟨"NamesOnLetters$Explained", "tellJoined", "(I)I"⟩ ∈ tblA := tbl_a (tbl_in5 (List.mem_of_getElem? (i := 146) (by decide +kernel))) (by decide +kernel)
theorem tw_5_148 : Cond.methodLink "NamesOnLettersLaw" 178 ⟨"NamesOnLetters", "bounds", "(I)I"⟩ ∈ tblA := tbl_a (tbl_in5 (List.mem_of_getElem? (i := 148) (by decide +kernel))) (by decide +kernel)
theorem tw_5_149 : Cond.instanceMethod ⟨"NamesOnLetters", "bounds", "(I)I"⟩ ∈ tblA := tbl_a (tbl_in5 (List.mem_of_getElem? (i := 149) (by decide +kernel))) (by decide +kernel)
theorem tw_5_150 : Cond.selects "NamesOnLetters" ⟨"NamesOnLetters", "bounds", "(I)I"⟩ ⟨"NamesOnLetters", "bounds", "(I)I"⟩ ∈ tblA := tbl_a (tbl_in5 (List.mem_of_getElem? (i := 150) (by decide +kernel))) (by decide +kernel)
theorem tw_5_152 : Cond.methodLinkNest "NamesOnLetters" 238 ⟨"NamesOnLetters$Explained", "tellBounds", "(I)I"⟩ "NamesOnLetters" ∈ tblA := tbl_a (tbl_in5 (List.mem_of_getElem? (i := 152) (by decide +kernel))) (by decide +kernel)
theorem tw_5_154 : Cond.instanceMethod ⟨"NamesOnLetters$Explained", "tellBounds", "(I)I"⟩ ∈ tblA := tbl_a (tbl_in5 (List.mem_of_getElem? (i := 154) (by decide +kernel))) (by decide +kernel)
theorem tw_5_156 : Cond.methodLink "NamesOnLettersLaw" 182 ⟨"NamesOnLetters", "years", "(I)I"⟩ ∈ tblA := tbl_a (tbl_in5 (List.mem_of_getElem? (i := 156) (by decide +kernel))) (by decide +kernel)
theorem tw_5_157 : Cond.instanceMethod ⟨"NamesOnLetters", "years", "(I)I"⟩ ∈ tblA := tbl_a (tbl_in5 (List.mem_of_getElem? (i := 157) (by decide +kernel))) (by decide +kernel)
theorem tw_5_158 : Cond.selects "NamesOnLetters" ⟨"NamesOnLetters", "years", "(I)I"⟩ ⟨"NamesOnLetters", "years", "(I)I"⟩ ∈ tblA := tbl_a (tbl_in5 (List.mem_of_getElem? (i := 158) (by decide +kernel))) (by decide +kernel)
theorem tw_5_160 : Cond.methodLinkNest "NamesOnLetters" 241 ⟨"NamesOnLetters$Explained", "tellYears", "(I)I"⟩ "NamesOnLetters" ∈ tblA := tbl_a (tbl_in5 (List.mem_of_getElem? (i := 160) (by decide +kernel))) (by decide +kernel)
theorem tw_5_162 : Cond.instanceMethod ⟨"NamesOnLetters$Explained", "tellYears", "(I)I"⟩ ∈ tblA := tbl_a (tbl_in5 (List.mem_of_getElem? (i := 162) (by decide +kernel))) (by decide +kernel)
theorem tw_5_164 : Cond.methodLink "NamesOnLettersLaw" 186 ⟨"NamesOnLetters", "mornings", "(III)I"⟩ ∈ tblA := tbl_a (tbl_in5 (List.mem_of_getElem? (i := 164) (by decide +kernel))) (by decide +kernel)
theorem tw_5_165 : Cond.instanceMethod ⟨"NamesOnLetters", "mornings", "(III)I"⟩ ∈ tblA := tbl_a (tbl_in5 (List.mem_of_getElem? (i := 165) (by decide +kernel))) (by decide +kernel)
theorem tw_5_166 : Cond.selects "NamesOnLetters" ⟨"NamesOnLetters", "mornings", "(III)I"⟩ ⟨"NamesOnLetters", "mornings", "(III)I"⟩ ∈ tblA := tbl_a (tbl_in5 (List.mem_of_getElem? (i := 166) (by decide +kernel))) (by decide +kernel)
theorem tw_5_168 : Cond.methodLinkNest "NamesOnLetters" 244 ⟨"NamesOnLetters$Explained", "tellMornings", "(III)I"⟩ "NamesOnLetters" ∈ tblA := tbl_a (tbl_in5 (List.mem_of_getElem? (i := 168) (by decide +kernel))) (by decide +kernel)
theorem tw_5_170 : Cond.instanceMethod ⟨"NamesOnLetters$Explained", "tellMornings", "(III)I"⟩ ∈ tblA := tbl_a (tbl_in5 (List.mem_of_getElem? (i := 170) (by decide +kernel))) (by decide +kernel)
theorem tw_5_172 : Cond.methodLink "NamesOnLettersLaw" 190 ⟨"NamesOnLetters", "asked", "(III)I"⟩ ∈ tblA := tbl_a (tbl_in5 (List.mem_of_getElem? (i := 172) (by decide +kernel))) (by decide +kernel)
theorem tw_5_173 : Cond.instanceMethod ⟨"NamesOnLetters", "asked", "(III)I"⟩ ∈ tblA := tbl_a (tbl_in5 (List.mem_of_getElem? (i := 173) (by decide +kernel))) (by decide +kernel)
theorem tw_5_174 : Cond.selects "NamesOnLetters" ⟨"NamesOnLetters", "asked", "(III)I"⟩ ⟨"NamesOnLetters", "asked", "(III)I"⟩ ∈ tblA := tbl_a (tbl_in5 (List.mem_of_getElem? (i := 174) (by decide +kernel))) (by decide +kernel)
theorem tw_5_176 : Cond.methodLinkNest "NamesOnLetters" 247 ⟨"NamesOnLetters$Machine", "noteAsking", "(III)I"⟩ "NamesOnLetters" ∈ tblA := tbl_a (tbl_in5 (List.mem_of_getElem? (i := 176) (by decide +kernel))) (by decide +kernel)
theorem tw_5_178 : Cond.instanceMethod ⟨"NamesOnLetters$Machine", "noteAsking", "(III)I"⟩ ∈ tblA := tbl_a (tbl_in5 (List.mem_of_getElem? (i := 178) (by decide +kernel))) (by decide +kernel)
theorem tw_5_180 : Cond.methodLinkNest "NamesOnLetters$Machine" 37 ⟨"NamesOnLetters$Told", "isLette\x72", "(I)Z"⟩ "NamesOnLetters" ∈ tblA := tbl_a (tbl_in5 (List.mem_of_getElem? (i := 180) (by decide +kernel))) (by decide +kernel)
theorem tw_5_181 : Cond.methodLinkNest "NamesOnLetters$Machine" 43 ⟨"NamesOnLetters", "within", "(III)Z"⟩ "NamesOnLetters" ∈ tblA := tbl_a (tbl_in5 (List.mem_of_getElem? (i := 181) (by decide +kernel))) (by decide +kernel)
theorem tw_5_182 : Cond.methodLink "NamesOnLettersLaw" 194 ⟨"NamesOnLetters", "pairs", "()I"⟩ ∈ tblA := tbl_a (tbl_in5 (List.mem_of_getElem? (i := 182) (by decide +kernel))) (by decide +kernel)
theorem tw_5_183 : Cond.instanceMethod ⟨"NamesOnLetters", "pairs", "()I"⟩ ∈ tblA := tbl_a (tbl_in5 (List.mem_of_getElem? (i := 183) (by decide +kernel))) (by decide +kernel)
theorem tw_5_184 : Cond.selects "NamesOnLetters" ⟨"NamesOnLetters", "pairs", "()I"⟩ ⟨"NamesOnLetters", "pairs", "()I"⟩ ∈ tblA := tbl_a (tbl_in5 (List.mem_of_getElem? (i := 184) (by decide +kernel))) (by decide +kernel)
theorem tw_5_186 : Cond.methodLinkNest "NamesOnLetters" 250 ⟨"NamesOnLetters$Machine", "tellPairs", "()I"⟩ "NamesOnLetters" ∈ tblA := tbl_a (tbl_in5 (List.mem_of_getElem? (i := 186) (by decide +kernel))) (by decide +kernel)
theorem tw_5_188 : Cond.instanceMethod ⟨"NamesOnLetters$Machine", "tellPairs", "()I"⟩ ∈ tblA := tbl_a (tbl_in5 (List.mem_of_getElem? (i := 188) (by decide +kernel))) (by decide +kernel)
theorem tw_5_190 : Cond.methodLink "NamesOnLetters$Machine" 88 ⟨"NamesOnLetters$Machine", "weigh", "()V"⟩ ∈ tblA := tbl_a (tbl_in5 (List.mem_of_getElem? (i := 190) (by decide +kernel))) (by decide +kernel)
theorem tw_5_192 : Cond.instanceMethod ⟨"NamesOnLetters$Machine", "weigh", "()V"⟩ ∈ tblA := tbl_a (tbl_in5 (List.mem_of_getElem? (i := 192) (by decide +kernel))) (by decide +kernel)
theorem tw_5_194 : Cond.methodLinkNest "NamesOnLetters$Machine" 58 ⟨"NamesOnLetters$Told", "lookAt", "(LNamesOnLetters$Letter;)V"⟩ "NamesOnLetters" ∈ tblA := tbl_a (tbl_in5 (List.mem_of_getElem? (i := 194) (by decide +kernel))) (by decide +kernel)
theorem tw_5_195 : Cond.methodLinkNest "NamesOnLetters$Machine" 62 ⟨"NamesOnLetters$Told", "isLaw", "(I)Z"⟩ "NamesOnLetters" ∈ tblA := tbl_a (tbl_in5 (List.mem_of_getElem? (i := 195) (by decide +kernel))) (by decide +kernel)
theorem tw_5_196 : Cond.methodLinkNest "NamesOnLetters$Machine" 72 ⟨"NamesOnLetters$Expression", "result", "([I)I"⟩ "NamesOnLetters" ∈ tblA := tbl_a (tbl_in5 (List.mem_of_getElem? (i := 196) (by decide +kernel))) (by decide +kernel)
theorem tw_5_197 : Cond.methodLink "NamesOnLetters$Machine" 78 ⟨"NamesOnLetters$Machine", "goesAgainst", "(IIII)Z"⟩ ∈ tblA := tbl_a (tbl_in5 (List.mem_of_getElem? (i := 197) (by decide +kernel))) (by decide +kernel)
theorem tw_5_199 : Cond.instanceMethod ⟨"NamesOnLetters$Machine", "goesAgainst", "(IIII)Z"⟩ ∈ tblA := tbl_a (tbl_in5 (List.mem_of_getElem? (i := 199) (by decide +kernel))) (by decide +kernel)
theorem tw_5_201 : Cond.methodLink "NamesOnLetters$Machine" 82 ⟨"java/lang/Intege\x72", "compare", "(II)I"⟩ ∈ tblA := tbl_a (tbl_in5 (List.mem_of_getElem? (i := 201) (by decide +kernel))) (by decide +kernel)
theorem tw_5_202 : Cond.methodLinkNest "NamesOnLetters$Machine" 91 ⟨"NamesOnLetters$Row", "clea\x72", "()V"⟩ "NamesOnLetters" ∈ tblA := tbl_a (tbl_in5 (List.mem_of_getElem? (i := 202) (by decide +kernel))) (by decide +kernel)
theorem tw_5_203 : Cond.constantLong "NamesOnLetters$Machine" 96 (-1) ∈ tblA := tbl_a (tbl_in5 (List.mem_of_getElem? (i := 203) (by decide +kernel))) (by decide +kernel)
theorem tw_5_204 : Cond.methodLinkNest "NamesOnLetters$Machine" 98 ⟨"NamesOnLetters$Row", "add", "(J)V"⟩ "NamesOnLetters" ∈ tblA := tbl_a (tbl_in5 (List.mem_of_getElem? (i := 204) (by decide +kernel))) (by decide +kernel)
theorem tw_5_205 : Cond.methodLink "NamesOnLetters$Machine" 102 ⟨"NamesOnLetters$Machine", "weighedWithin", "(I)I"⟩ ∈ tblA := tbl_a (tbl_in5 (List.mem_of_getElem? (i := 205) (by decide +kernel))) (by decide +kernel)
theorem tw_5_207 : Cond.instanceMethod ⟨"NamesOnLetters$Machine", "weighedWithin", "(I)I"⟩ ∈ tblA := tbl_a (tbl_in5 (List.mem_of_getElem? (i := 207) (by decide +kernel))) (by decide +kernel)
theorem tw_5_209 : Cond.methodLink "NamesOnLettersLaw" 198 ⟨"NamesOnLetters", "ask", "()I"⟩ ∈ tblA := tbl_a (tbl_in5 (List.mem_of_getElem? (i := 209) (by decide +kernel))) (by decide +kernel)
theorem tw_5_210 : Cond.instanceMethod ⟨"NamesOnLetters", "ask", "()I"⟩ ∈ tblA := tbl_a (tbl_in5 (List.mem_of_getElem? (i := 210) (by decide +kernel))) (by decide +kernel)
theorem tw_5_211 : Cond.selects "NamesOnLetters" ⟨"NamesOnLetters", "ask", "()I"⟩ ⟨"NamesOnLetters", "ask", "()I"⟩ ∈ tblA := tbl_a (tbl_in5 (List.mem_of_getElem? (i := 211) (by decide +kernel))) (by decide +kernel)
theorem tw_5_213 : Cond.methodLinkNest "NamesOnLetters" 253 ⟨"NamesOnLetters$Machine", "tellNext", "()I"⟩ "NamesOnLetters" ∈ tblA := tbl_a (tbl_in5 (List.mem_of_getElem? (i := 213) (by decide +kernel))) (by decide +kernel)
theorem tw_5_215 : Cond.instanceMethod ⟨"NamesOnLetters$Machine", "tellNext", "()I"⟩ ∈ tblA := tbl_a (tbl_in5 (List.mem_of_getElem? (i := 215) (by decide +kernel))) (by decide +kernel)
theorem tw_5_217 : Cond.methodLink "NamesOnLetters$Machine" 106 ⟨"java/lang/Intege\x72", "bitCount", "(I)I"⟩ ∈ tblA := tbl_a (tbl_in5 (List.mem_of_getElem? (i := 217) (by decide +kernel))) (by decide +kernel)
theorem tw_5_218 : Cond.methodLink "NamesOnLetters$Machine" 109 ⟨"NamesOnLetters$Machine", "mostLeft", "(III)I"⟩ ∈ tblA := tbl_a (tbl_in5 (List.mem_of_getElem? (i := 218) (by decide +kernel))) (by decide +kernel)
theorem tw_5_220 : Cond.instanceMethod ⟨"NamesOnLetters$Machine", "mostLeft", "(III)I"⟩ ∈ tblA := tbl_a (tbl_in5 (List.mem_of_getElem? (i := 220) (by decide +kernel))) (by decide +kernel)
theorem tw_5_222 : Cond.methodLink "NamesOnLetters$Machine" 113 ⟨"java/lang/Math", "max", "(II)I"⟩ ∈ tblA := tbl_a (tbl_in5 (List.mem_of_getElem? (i := 222) (by decide +kernel))) (by decide +kernel)
theorem tw_5_223 : Cond.methodLink "NamesOnLettersLaw" 202 ⟨"NamesOnLetters", "nearly", "(I)I"⟩ ∈ tblA := tbl_a (tbl_in5 (List.mem_of_getElem? (i := 223) (by decide +kernel))) (by decide +kernel)
theorem tw_5_224 : Cond.instanceMethod ⟨"NamesOnLetters", "nearly", "(I)I"⟩ ∈ tblA := tbl_a (tbl_in5 (List.mem_of_getElem? (i := 224) (by decide +kernel))) (by decide +kernel)
theorem tw_5_225 : Cond.selects "NamesOnLetters" ⟨"NamesOnLetters", "nearly", "(I)I"⟩ ⟨"NamesOnLetters", "nearly", "(I)I"⟩ ∈ tblA := tbl_a (tbl_in5 (List.mem_of_getElem? (i := 225) (by decide +kernel))) (by decide +kernel)
theorem tw_5_227 : Cond.methodLinkNest "NamesOnLetters" 256 ⟨"NamesOnLetters$Machine", "lawsWithin", "(I)I"⟩ "NamesOnLetters" ∈ tblA := tbl_a (tbl_in5 (List.mem_of_getElem? (i := 227) (by decide +kernel))) (by decide +kernel)
theorem tw_5_229 : Cond.instanceMethod ⟨"NamesOnLetters$Machine", "lawsWithin", "(I)I"⟩ ∈ tblA := tbl_a (tbl_in5 (List.mem_of_getElem? (i := 229) (by decide +kernel))) (by decide +kernel)
theorem tw_5_231 : Cond.methodLink "NamesOnLettersLaw" 206 ⟨"NamesOnLetters", "shows", "(IIII)I"⟩ ∈ tblA := tbl_a (tbl_in5 (List.mem_of_getElem? (i := 231) (by decide +kernel))) (by decide +kernel)
theorem tw_5_232 : Cond.instanceMethod ⟨"NamesOnLetters", "shows", "(IIII)I"⟩ ∈ tblA := tbl_a (tbl_in5 (List.mem_of_getElem? (i := 232) (by decide +kernel))) (by decide +kernel)
theorem tw_5_233 : Cond.selects "NamesOnLetters" ⟨"NamesOnLetters", "shows", "(IIII)I"⟩ ⟨"NamesOnLetters", "shows", "(IIII)I"⟩ ∈ tblA := tbl_a (tbl_in5 (List.mem_of_getElem? (i := 233) (by decide +kernel))) (by decide +kernel)
theorem tw_5_235 : Cond.methodLinkNest "NamesOnLetters" 259 ⟨"NamesOnLetters$Chances", "chanceOf", "(IIII)I"⟩ "NamesOnLetters" ∈ tblA := tbl_a (tbl_in5 (List.mem_of_getElem? (i := 235) (by decide +kernel))) (by decide +kernel)
theorem tw_5_237 : Cond.instanceMethod ⟨"NamesOnLetters$Chances", "chanceOf", "(IIII)I"⟩ ∈ tblA := tbl_a (tbl_in5 (List.mem_of_getElem? (i := 237) (by decide +kernel))) (by decide +kernel)
theorem tw_5_239 : Cond.methodLinkNest "NamesOnLetters$Chances" 34 ⟨"NamesOnLetters", "within", "(III)Z"⟩ "NamesOnLetters" ∈ tblA := tbl_a (tbl_in5 (List.mem_of_getElem? (i := 239) (by decide +kernel))) (by decide +kernel)
theorem tw_6_0 : Cond.methodLink "NamesOnLetters$Chances" 38 ⟨"NamesOnLetters$Chances", "fill", "(III)V"⟩ ∈ tblA := tbl_a (tbl_in6 (List.mem_of_getElem? (i := 0) (by decide +kernel))) (by decide +kernel)
theorem tw_6_2 : Cond.instanceMethod ⟨"NamesOnLetters$Chances", "fill", "(III)V"⟩ ∈ tblA := tbl_a (tbl_in6 (List.mem_of_getElem? (i := 2) (by decide +kernel))) (by decide +kernel)
theorem tw_6_4 : Cond.methodLink "NamesOnLetters$Chances" 56 ⟨"NamesOnLetters$Chances", "fillWays", "(LNamesOnLetters$Big;III)V"⟩ ∈ tblA := tbl_a (tbl_in6 (List.mem_of_getElem? (i := 4) (by decide +kernel))) (by decide +kernel)
theorem tw_6_5 : Cond.static ⟨"NamesOnLetters$Chances", "fillWays", "(LNamesOnLetters$Big;III)V"⟩ ∈ tblA := tbl_a (tbl_in6 (List.mem_of_getElem? (i := 5) (by decide +kernel))) (by decide +kernel)
theorem tw_6_7 : Cond.methodLinkNest "NamesOnLetters$Chances" 66 ⟨"NamesOnLetters", "choices", "(II)J"⟩ "NamesOnLetters" ∈ tblA := tbl_a (tbl_in6 (List.mem_of_getElem? (i := 7) (by decide +kernel))) (by decide +kernel)
theorem tw_6_8 : Cond.methodLinkNest "NamesOnLetters$Chances" 60 ⟨"NamesOnLetters$Big", "become", "(I)V"⟩ "NamesOnLetters" ∈ tblA := tbl_a (tbl_in6 (List.mem_of_getElem? (i := 8) (by decide +kernel))) (by decide +kernel)
theorem tw_6_9 : Cond.methodLinkNest "NamesOnLetters$Chances" 70 ⟨"NamesOnLetters$Big", "times", "(J)V"⟩ "NamesOnLetters" ∈ tblA := tbl_a (tbl_in6 (List.mem_of_getElem? (i := 9) (by decide +kernel))) (by decide +kernel)
theorem tw_6_10 : Cond.methodLinkNest "NamesOnLetters$Chances" 63 ⟨"NamesOnLetters$Big", "add", "(LNamesOnLetters$Big;)V"⟩ "NamesOnLetters" ∈ tblA := tbl_a (tbl_in6 (List.mem_of_getElem? (i := 10) (by decide +kernel))) (by decide +kernel)
theorem tw_6_12 : Cond.instanceMethod ⟨"NamesOnLetters$Big", "add", "(LNamesOnLetters$Big;)V"⟩ ∈ tblA := tbl_a (tbl_in6 (List.mem_of_getElem? (i := 12) (by decide +kernel))) (by decide +kernel)
theorem tw_6_14 : Cond.methodLink "NamesOnLetters$Chances" 42 ⟨"NamesOnLetters$Chances", "chance", "(II[LNamesOnLetters$Big;)I"⟩ ∈ tblA := tbl_a (tbl_in6 (List.mem_of_getElem? (i := 14) (by decide +kernel))) (by decide +kernel)
theorem tw_6_16 : Cond.instanceMethod ⟨"NamesOnLetters$Chances", "chance", "(II[LNamesOnLetters$Big;)I"⟩ ∈ tblA := tbl_a (tbl_in6 (List.mem_of_getElem? (i := 16) (by decide +kernel))) (by decide +kernel)
theorem tw_6_18 : Cond.methodLinkNest "NamesOnLetters$Chances" 73 ⟨"NamesOnLetters$Big", "addProduct", "(LNamesOnLetters$Big;LNamesOnLetters$Big;)V"⟩ "NamesOnLetters" ∈ tblA := tbl_a (tbl_in6 (List.mem_of_getElem? (i := 18) (by decide +kernel))) (by decide +kernel)
theorem tw_6_20 : Cond.instanceMethod ⟨"NamesOnLetters$Big", "addProduct", "(LNamesOnLetters$Big;LNamesOnLetters$Big;)V"⟩ ∈ tblA := tbl_a (tbl_in6 (List.mem_of_getElem? (i := 20) (by decide +kernel))) (by decide +kernel)
theorem tw_6_22 : Cond.constantLong "NamesOnLetters$Chances" 77 (1000000) ∈ tblA := tbl_a (tbl_in6 (List.mem_of_getElem? (i := 22) (by decide +kernel))) (by decide +kernel)
theorem tw_6_23 : Cond.methodLinkNest "NamesOnLetters$Chances" 79 ⟨"NamesOnLetters$Big", "cutBy", "(I)J"⟩ "NamesOnLetters" ∈ tblA := tbl_a (tbl_in6 (List.mem_of_getElem? (i := 23) (by decide +kernel))) (by decide +kernel)
theorem tw_6_25 : Cond.instanceMethod ⟨"NamesOnLetters$Big", "cutBy", "(I)J"⟩ ∈ tblA := tbl_a (tbl_in6 (List.mem_of_getElem? (i := 25) (by decide +kernel))) (by decide +kernel)
theorem tw_6_27 : Cond.methodLink "NamesOnLetters$Big" 26 ⟨"NamesOnLetters$Big", "limb", "(I)J"⟩ ∈ tblA := tbl_a (tbl_in6 (List.mem_of_getElem? (i := 27) (by decide +kernel))) (by decide +kernel)
theorem tw_6_29 : Cond.instanceMethod ⟨"NamesOnLetters$Big", "limb", "(I)J"⟩ ∈ tblA := tbl_a (tbl_in6 (List.mem_of_getElem? (i := 29) (by decide +kernel))) (by decide +kernel)
theorem tw_6_31 : Cond.constantLong "NamesOnLetters$Big" 30 (10000) ∈ tblA := tbl_a (tbl_in6 (List.mem_of_getElem? (i := 31) (by decide +kernel))) (by decide +kernel)
theorem tw_6_32 : Cond.methodLink "NamesOnLettersLaw" 210 ⟨"NamesOnLetters", "least", "(IIII)I"⟩ ∈ tblA := tbl_a (tbl_in6 (List.mem_of_getElem? (i := 32) (by decide +kernel))) (by decide +kernel)
theorem tw_6_33 : Cond.instanceMethod ⟨"NamesOnLetters", "least", "(IIII)I"⟩ ∈ tblA := tbl_a (tbl_in6 (List.mem_of_getElem? (i := 33) (by decide +kernel))) (by decide +kernel)
theorem tw_6_34 : Cond.selects "NamesOnLetters" ⟨"NamesOnLetters", "least", "(IIII)I"⟩ ⟨"NamesOnLetters", "least", "(IIII)I"⟩ ∈ tblA := tbl_a (tbl_in6 (List.mem_of_getElem? (i := 34) (by decide +kernel))) (by decide +kernel)
theorem tw_6_36 : Cond.methodLinkNest "NamesOnLetters" 262 ⟨"NamesOnLetters$Chances", "tellLeast", "(IIII)I"⟩ "NamesOnLetters" ∈ tblA := tbl_a (tbl_in6 (List.mem_of_getElem? (i := 36) (by decide +kernel))) (by decide +kernel)
theorem tw_6_38 : Cond.instanceMethod ⟨"NamesOnLetters$Chances", "tellLeast", "(IIII)I"⟩ ∈ tblA := tbl_a (tbl_in6 (List.mem_of_getElem? (i := 38) (by decide +kernel))) (by decide +kernel)
theorem tw_6_40 : Cond.constant "NamesOnLetters$Chances" 46 (1000000) ∈ tblA := tbl_a (tbl_in6 (List.mem_of_getElem? (i := 40) (by decide +kernel))) (by decide +kernel)
theorem tw_6_41 : Cond.methodLinkNest "NamesOnLetters$Chances" 47 ⟨"NamesOnLetters$Row", "clea\x72", "()V"⟩ "NamesOnLetters" ∈ tblA := tbl_a (tbl_in6 (List.mem_of_getElem? (i := 41) (by decide +kernel))) (by decide +kernel)
theorem tw_6_42 : Cond.methodLinkNest "NamesOnLetters$Chances" 52 ⟨"NamesOnLetters$Row", "add", "(J)V"⟩ "NamesOnLetters" ∈ tblA := tbl_a (tbl_in6 (List.mem_of_getElem? (i := 42) (by decide +kernel))) (by decide +kernel)
theorem tw_6_43 : Cond.methodLink "NamesOnLettersLaw" 214 ⟨"NamesOnLetters", "keep", "(I)Z"⟩ ∈ tblA := tbl_a (tbl_in6 (List.mem_of_getElem? (i := 43) (by decide +kernel))) (by decide +kernel)
theorem tw_6_44 : Cond.instanceMethod ⟨"NamesOnLetters", "keep", "(I)Z"⟩ ∈ tblA := tbl_a (tbl_in6 (List.mem_of_getElem? (i := 44) (by decide +kernel))) (by decide +kernel)
theorem tw_6_45 : Cond.selects "NamesOnLetters" ⟨"NamesOnLetters", "keep", "(I)Z"⟩ ⟨"NamesOnLetters", "keep", "(I)Z"⟩ ∈ tblA := tbl_a (tbl_in6 (List.mem_of_getElem? (i := 45) (by decide +kernel))) (by decide +kernel)
theorem tw_6_47 : Cond.methodLinkNest "NamesOnLetters" 265 ⟨"NamesOnLetters$Told", "keepUnde\x72", "(I)V"⟩ "NamesOnLetters" ∈ tblA := tbl_a (tbl_in6 (List.mem_of_getElem? (i := 47) (by decide +kernel))) (by decide +kernel)
theorem tw_6_49 : Cond.instanceMethod ⟨"NamesOnLetters$Told", "keepUnde\x72", "(I)V"⟩ ∈ tblA := tbl_a (tbl_in6 (List.mem_of_getElem? (i := 49) (by decide +kernel))) (by decide +kernel)
theorem tw_6_51 : Cond.methodLinkNest "NamesOnLetters$Told" 167 ⟨"NamesOnLetters$Lette\x72", "state", "()I"⟩ "NamesOnLetters" ∈ tblA := tbl_a (tbl_in6 (List.mem_of_getElem? (i := 51) (by decide +kernel))) (by decide +kernel)
theorem tw_6_53 : Cond.instanceMethod ⟨"NamesOnLetters$Lette\x72", "state", "()I"⟩ ∈ tblA := tbl_a (tbl_in6 (List.mem_of_getElem? (i := 53) (by decide +kernel))) (by decide +kernel)
theorem tw_6_55 : Cond.methodLink "NamesOnLettersLaw" 218 ⟨"NamesOnLetters", "again", "(I)Z"⟩ ∈ tblA := tbl_a (tbl_in6 (List.mem_of_getElem? (i := 55) (by decide +kernel))) (by decide +kernel)
theorem tw_6_56 : Cond.instanceMethod ⟨"NamesOnLetters", "again", "(I)Z"⟩ ∈ tblA := tbl_a (tbl_in6 (List.mem_of_getElem? (i := 56) (by decide +kernel))) (by decide +kernel)
theorem tw_6_57 : Cond.selects "NamesOnLetters" ⟨"NamesOnLetters", "again", "(I)Z"⟩ ⟨"NamesOnLetters", "again", "(I)Z"⟩ ∈ tblA := tbl_a (tbl_in6 (List.mem_of_getElem? (i := 57) (by decide +kernel))) (by decide +kernel)
theorem tw_6_59 : Cond.methodLinkNest "NamesOnLetters" 269 ⟨"NamesOnLetters$Told", "bringBack", "(I)Z"⟩ "NamesOnLetters" ∈ tblA := tbl_a (tbl_in6 (List.mem_of_getElem? (i := 59) (by decide +kernel))) (by decide +kernel)
theorem tw_6_61 : Cond.instanceMethod ⟨"NamesOnLetters$Told", "bringBack", "(I)Z"⟩ ∈ tblA := tbl_a (tbl_in6 (List.mem_of_getElem? (i := 61) (by decide +kernel))) (by decide +kernel)
theorem tw_6_63 : Cond.methodLink "NamesOnLettersLaw" 222 ⟨"NamesOnLetters", "count", "(I)I"⟩ ∈ tblA := tbl_a (tbl_in6 (List.mem_of_getElem? (i := 63) (by decide +kernel))) (by decide +kernel)
theorem tw_6_64 : Cond.instanceMethod ⟨"NamesOnLetters", "count", "(I)I"⟩ ∈ tblA := tbl_a (tbl_in6 (List.mem_of_getElem? (i := 64) (by decide +kernel))) (by decide +kernel)
theorem tw_6_65 : Cond.selects "NamesOnLetters" ⟨"NamesOnLetters", "count", "(I)I"⟩ ⟨"NamesOnLetters", "count", "(I)I"⟩ ∈ tblA := tbl_a (tbl_in6 (List.mem_of_getElem? (i := 65) (by decide +kernel))) (by decide +kernel)
theorem tw_6_67 : Cond.methodLinkNest "NamesOnLetters" 275 ⟨"NamesOnLetters$Told", "readCount", "()I"⟩ "NamesOnLetters" ∈ tblA := tbl_a (tbl_in6 (List.mem_of_getElem? (i := 67) (by decide +kernel))) (by decide +kernel)
theorem tw_6_69 : Cond.instanceMethod ⟨"NamesOnLetters$Told", "readCount", "()I"⟩ ∈ tblA := tbl_a (tbl_in6 (List.mem_of_getElem? (i := 69) (by decide +kernel))) (by decide +kernel)
theorem tw_6_71 : Cond.methodLinkNest "NamesOnLetters" 278 ⟨"NamesOnLetters$Told", "rungCount", "()I"⟩ "NamesOnLetters" ∈ tblA := tbl_a (tbl_in6 (List.mem_of_getElem? (i := 71) (by decide +kernel))) (by decide +kernel)
theorem tw_6_73 : Cond.instanceMethod ⟨"NamesOnLetters$Told", "rungCount", "()I"⟩ ∈ tblA := tbl_a (tbl_in6 (List.mem_of_getElem? (i := 73) (by decide +kernel))) (by decide +kernel)
theorem tw_6_75 : Cond.methodLink "NamesOnLetters" 281 ⟨"NamesOnLetters", "toldBits", "([LNamesOnLetters$Expression;)I"⟩ ∈ tblA := tbl_a (tbl_in6 (List.mem_of_getElem? (i := 75) (by decide +kernel))) (by decide +kernel)
theorem tw_6_76 : Cond.static ⟨"NamesOnLetters", "toldBits", "([LNamesOnLetters$Expression;)I"⟩ ∈ tblA := tbl_a (tbl_in6 (List.mem_of_getElem? (i := 76) (by decide +kernel))) (by decide +kernel)
theorem tw_6_78 : Cond.methodLinkNest "NamesOnLetters" 303 ⟨"NamesOnLetters$Expression", "isTold", "()Z"⟩ "NamesOnLetters" ∈ tblA := tbl_a (tbl_in6 (List.mem_of_getElem? (i := 78) (by decide +kernel))) (by decide +kernel)
theorem tw_6_79 : Cond.methodLink "NamesOnLettersLaw" 44 ⟨"NamesOnLettersLaw", "of", "(LNamesOnLetters;II[J)I"⟩ ∈ tblA := tbl_a (tbl_in6 (List.mem_of_getElem? (i := 79) (by decide +kernel))) (by decide +kernel)
theorem tw_6_80 : Cond.static ⟨"NamesOnLettersLaw", "of", "(LNamesOnLetters;II[J)I"⟩ ∈ tblA := tbl_a (tbl_in6 (List.mem_of_getElem? (i := 80) (by decide +kernel))) (by decide +kernel)
theorem tw_6_82 : Cond.classLink "NamesOnLettersLaw" 13 "java/util/NoSuchElementException" ∈ tblA := tbl_a (tbl_in6 (List.mem_of_getElem? (i := 82) (by decide +kernel))) (by decide +kernel)
theorem tw_6_83 : Cond.methodLink "NamesOnLettersLaw" 7 ⟨"NamesOnLetters", "of", "(II)I"⟩ ∈ tblA := tbl_a (tbl_in6 (List.mem_of_getElem? (i := 83) (by decide +kernel))) (by decide +kernel)
theorem tw_6_84 : Cond.instanceMethod ⟨"NamesOnLetters", "of", "(II)I"⟩ ∈ tblA := tbl_a (tbl_in6 (List.mem_of_getElem? (i := 84) (by decide +kernel))) (by decide +kernel)
theorem tw_6_85 : Cond.selects "NamesOnLetters" ⟨"NamesOnLetters", "of", "(II)I"⟩ ⟨"NamesOnLetters", "of", "(II)I"⟩ ∈ tblA := tbl_a (tbl_in6 (List.mem_of_getElem? (i := 85) (by decide +kernel))) (by decide +kernel)
theorem tw_6_87 : Cond.classLink "NamesOnLetters" 111 "java/util/NoSuchElementException" ∈ tblA := tbl_a (tbl_in6 (List.mem_of_getElem? (i := 87) (by decide +kernel))) (by decide +kernel)
theorem tw_6_88 : Cond.instantiable "java/util/NoSuchElementException" 6 ∈ tblA := tbl_a (tbl_in6 (List.mem_of_getElem? (i := 88) (by decide +kernel))) (by decide +kernel)
theorem tw_6_96 : Cond.selects "java/util/NoSuchElementException" ⟨"java/lang/Throwable", "fillInStackTrace", "(I)Ljava/lang/Throwable;"⟩ ⟨"java/lang/Throwable", "fillInStackTrace", "(I)Ljava/lang/Throwable;"⟩ ∈ tblA := tbl_a (tbl_in6 (List.mem_of_getElem? (i := 96) (by decide +kernel))) (by decide +kernel)
theorem tw_6_97 : Cond.selects "java/util/NoSuchElementException" ⟨"java/lang/Throwable", "fillInStackTrace", "()Ljava/lang/Throwable;"⟩ ⟨"java/lang/Throwable", "fillInStackTrace", "()Ljava/lang/Throwable;"⟩ ∈ tblA := tbl_a (tbl_in6 (List.mem_of_getElem? (i := 97) (by decide +kernel))) (by decide +kernel)
theorem tw_6_98 : Cond.lays "java/util/NoSuchElementException" "java/lang/Throwable" "cause" "Ljava/lang/Throwable;" ∈ tblA := tbl_a (tbl_in6 (List.mem_of_getElem? (i := 98) (by decide +kernel))) (by decide +kernel)
theorem tw_6_99 : Cond.lays "java/lang/Throwable" "java/lang/Throwable" "cause" "Ljava/lang/Throwable;" ∈ tblA := tbl_a (tbl_in6 (List.mem_of_getElem? (i := 99) (by decide +kernel))) (by decide +kernel)
theorem tw_6_100 : Cond.lays "java/util/NoSuchElementException" "java/lang/Throwable" "stackTrace" "[Ljava/lang/StackTraceElement;" ∈ tblA := tbl_a (tbl_in6 (List.mem_of_getElem? (i := 100) (by decide +kernel))) (by decide +kernel)
theorem tw_6_101 : Cond.lays "java/lang/Throwable" "java/lang/Throwable" "stackTrace" "[Ljava/lang/StackTraceElement;" ∈ tblA := tbl_a (tbl_in6 (List.mem_of_getElem? (i := 101) (by decide +kernel))) (by decide +kernel)
theorem tw_6_102 : Cond.lays "java/util/NoSuchElementException" "java/lang/Throwable" "suppressedExceptions" "Ljava/util/List;" ∈ tblA := tbl_a (tbl_in6 (List.mem_of_getElem? (i := 102) (by decide +kernel))) (by decide +kernel)
theorem tw_6_103 : Cond.lays "java/lang/Throwable" "java/lang/Throwable" "suppressedExceptions" "Ljava/util/List;" ∈ tblA := tbl_a (tbl_in6 (List.mem_of_getElem? (i := 103) (by decide +kernel))) (by decide +kernel)
theorem tw_6_104 : Cond.lays "java/util/NoSuchElementException" "java/lang/Throwable" "detailMessage" "Ljava/lang/String;" ∈ tblA := tbl_a (tbl_in6 (List.mem_of_getElem? (i := 104) (by decide +kernel))) (by decide +kernel)
theorem tw_6_105 : Cond.lays "java/lang/Throwable" "java/lang/Throwable" "detailMessage" "Ljava/lang/String;" ∈ tblA := tbl_a (tbl_in6 (List.mem_of_getElem? (i := 105) (by decide +kernel))) (by decide +kernel)
theorem tw_6_106 : Cond.lays "java/util/NoSuchElementException" "java/lang/Throwable" "backtrace" "Ljava/lang/Object;" ∈ tblA := tbl_a (tbl_in6 (List.mem_of_getElem? (i := 106) (by decide +kernel))) (by decide +kernel)
theorem tw_6_107 : Cond.lays "java/lang/Throwable" "java/lang/Throwable" "backtrace" "Ljava/lang/Object;" ∈ tblA := tbl_a (tbl_in6 (List.mem_of_getElem? (i := 107) (by decide +kernel))) (by decide +kernel)
theorem tw_6_139 : Cond.fieldLink "java/lang/Throwable" 198 "java/lang/Throwable" "backtrace" "Ljava/lang/Object;" ∈ tblA := tbl_a (tbl_in6 (List.mem_of_getElem? (i := 139) (by decide +kernel))) (by decide +kernel)
theorem tw_6_110 : Cond.instanceMethod ⟨"java/lang/Throwable", "<init>", "()V"⟩ ∈ tblA := tbl_a (tbl_in6 (List.mem_of_getElem? (i := 110) (by decide +kernel))) (by decide +kernel)
theorem tw_6_112 : Cond.methodLink "java/lang/Throwable" 1 ⟨"java/lang/Object", "<init>", "()V"⟩ ∈ tblA := tbl_a (tbl_in6 (List.mem_of_getElem? (i := 112) (by decide +kernel))) (by decide +kernel)
theorem tw_6_113 : Cond.fieldLink "java/lang/Throwable" 13 "java/lang/Throwable" "UNASSIGNED_STACK" "[Ljava/lang/StackTraceElement;" ∈ tblA := tbl_a (tbl_in6 (List.mem_of_getElem? (i := 113) (by decide +kernel))) (by decide +kernel)
theorem tw_6_115 : Cond.fieldLink "java/lang/Throwable" 20 "java/lang/Throwable" "SUPPRESSED_SENTINEL" "Ljava/util/List;" ∈ tblA := tbl_a (tbl_in6 (List.mem_of_getElem? (i := 115) (by decide +kernel))) (by decide +kernel)
theorem tw_6_117 : Cond.methodLink "java/lang/Throwable" 27 ⟨"java/lang/Throwable", "fillInStackTrace", "()Ljava/lang/Throwable;"⟩ ∈ tblA := tbl_a (tbl_in6 (List.mem_of_getElem? (i := 117) (by decide +kernel))) (by decide +kernel)
theorem tw_6_118 : Cond.instanceMethod ⟨"java/lang/Throwable", "fillInStackTrace", "()Ljava/lang/Throwable;"⟩ ∈ tblA := tbl_a (tbl_in6 (List.mem_of_getElem? (i := 118) (by decide +kernel))) (by decide +kernel)
theorem tw_6_121 : Cond.methodLink "java/lang/Throwable" 202 ⟨"java/lang/Throwable", "fillInStackTrace", "(I)Ljava/lang/Throwable;"⟩ ∈ tblA := tbl_a (tbl_in6 (List.mem_of_getElem? (i := 121) (by decide +kernel))) (by decide +kernel)
theorem tw_6_123 : Cond.instanceMethod ⟨"java/lang/Throwable", "fillInStackTrace", "(I)Ljava/lang/Throwable;"⟩ ∈ tblA := tbl_a (tbl_in6 (List.mem_of_getElem? (i := 123) (by decide +kernel))) (by decide +kernel)
theorem tw_6_124 : Cond.instantiable "java/lang/Throwable" 6 ∈ tblA := tbl_a (tbl_in6 (List.mem_of_getElem? (i := 124) (by decide +kernel))) (by decide +kernel)
theorem tw_6_127 : Cond.methodLink "NamesOnLetters" 115 ⟨"java/util/NoSuchElementException", "<init>", "(Ljava/lang/String;)V"⟩ ∈ tblA := tbl_a (tbl_in6 (List.mem_of_getElem? (i := 127) (by decide +kernel))) (by decide +kernel)
theorem tw_6_128 : Cond.instanceMethod ⟨"java/util/NoSuchElementException", "<init>", "(Ljava/lang/String;)V"⟩ ∈ tblA := tbl_a (tbl_in6 (List.mem_of_getElem? (i := 128) (by decide +kernel))) (by decide +kernel)
theorem tw_6_130 : Cond.methodLink "java/util/NoSuchElementException" 13 ⟨"java/lang/RuntimeException", "<init>", "(Ljava/lang/String;)V"⟩ ∈ tblA := tbl_a (tbl_in6 (List.mem_of_getElem? (i := 130) (by decide +kernel))) (by decide +kernel)
theorem tw_6_131 : Cond.instanceMethod ⟨"java/lang/RuntimeException", "<init>", "(Ljava/lang/String;)V"⟩ ∈ tblA := tbl_a (tbl_in6 (List.mem_of_getElem? (i := 131) (by decide +kernel))) (by decide +kernel)
theorem tw_6_133 : Cond.methodLink "java/lang/RuntimeException" 7 ⟨"java/lang/Exception", "<init>", "(Ljava/lang/String;)V"⟩ ∈ tblA := tbl_a (tbl_in6 (List.mem_of_getElem? (i := 133) (by decide +kernel))) (by decide +kernel)
theorem tw_6_134 : Cond.instanceMethod ⟨"java/lang/Exception", "<init>", "(Ljava/lang/String;)V"⟩ ∈ tblA := tbl_a (tbl_in6 (List.mem_of_getElem? (i := 134) (by decide +kernel))) (by decide +kernel)
theorem tw_6_136 : Cond.methodLink "java/lang/Exception" 7 ⟨"java/lang/Throwable", "<init>", "(Ljava/lang/String;)V"⟩ ∈ tblA := tbl_a (tbl_in6 (List.mem_of_getElem? (i := 136) (by decide +kernel))) (by decide +kernel)
theorem tw_6_137 : Cond.instanceMethod ⟨"java/lang/Throwable", "<init>", "(Ljava/lang/String;)V"⟩ ∈ tblA := tbl_a (tbl_in6 (List.mem_of_getElem? (i := 137) (by decide +kernel))) (by decide +kernel)
theorem tw_6_140 : Cond.fieldLink "java/lang/Throwable" 31 "java/lang/Throwable" "detailMessage" "Ljava/lang/String;" ∈ tblA := tbl_a (tbl_in6 (List.mem_of_getElem? (i := 140) (by decide +kernel))) (by decide +kernel)
theorem tw_6_141 : Cond.fieldLink "java/lang/Throwable" 7 "java/lang/Throwable" "cause" "Ljava/lang/Throwable;" ∈ tblA := tbl_a (tbl_in6 (List.mem_of_getElem? (i := 141) (by decide +kernel))) (by decide +kernel)
theorem tw_6_142 : Cond.fieldLink "java/lang/Throwable" 17 "java/lang/Throwable" "stackTrace" "[Ljava/lang/StackTraceElement;" ∈ tblA := tbl_a (tbl_in6 (List.mem_of_getElem? (i := 142) (by decide +kernel))) (by decide +kernel)
theorem tw_6_143 : Cond.fieldLink "java/lang/Throwable" 24 "java/lang/Throwable" "suppressedExceptions" "Ljava/util/List;" ∈ tblA := tbl_a (tbl_in6 (List.mem_of_getElem? (i := 143) (by decide +kernel))) (by decide +kernel)
theorem tw_6_148 : Cond.lays "java/util/NoSuchElementException" "java/lang/Throwable" "depth" "I" ∈ tblA := tbl_a (tbl_in6 (List.mem_of_getElem? (i := 148) (by decide +kernel))) (by decide +kernel)
theorem tw_6_152 : Cond.methodLinkNest "NamesOnLetters" 122 ⟨"NamesOnLetters$Lette\x72", "told", "(I)I"⟩ "NamesOnLetters" ∈ tblA := tbl_a (tbl_in6 (List.mem_of_getElem? (i := 152) (by decide +kernel))) (by decide +kernel)
theorem tw_6_154 : Cond.instanceMethod ⟨"NamesOnLetters$Lette\x72", "told", "(I)I"⟩ ∈ tblA := tbl_a (tbl_in6 (List.mem_of_getElem? (i := 154) (by decide +kernel))) (by decide +kernel)
theorem tw_6_156 : Cond.methodLink "NamesOnLettersLaw" 72 ⟨"NamesOnLettersLaw", "value", "(LNamesOnLetters;II[J)I"⟩ ∈ tblA := tbl_a (tbl_in6 (List.mem_of_getElem? (i := 156) (by decide +kernel))) (by decide +kernel)
theorem tw_6_157 : Cond.static ⟨"NamesOnLettersLaw", "value", "(LNamesOnLetters;II[J)I"⟩ ∈ tblA := tbl_a (tbl_in6 (List.mem_of_getElem? (i := 157) (by decide +kernel))) (by decide +kernel)
theorem tw_6_159 : Cond.methodLink "NamesOnLettersLaw" 15 ⟨"NamesOnLetters", "value", "(II)I"⟩ ∈ tblA := tbl_a (tbl_in6 (List.mem_of_getElem? (i := 159) (by decide +kernel))) (by decide +kernel)
theorem tw_6_160 : Cond.instanceMethod ⟨"NamesOnLetters", "value", "(II)I"⟩ ∈ tblA := tbl_a (tbl_in6 (List.mem_of_getElem? (i := 160) (by decide +kernel))) (by decide +kernel)
theorem tw_6_161 : Cond.selects "NamesOnLetters" ⟨"NamesOnLetters", "value", "(II)I"⟩ ⟨"NamesOnLetters", "value", "(II)I"⟩ ∈ tblA := tbl_a (tbl_in6 (List.mem_of_getElem? (i := 161) (by decide +kernel))) (by decide +kernel)
theorem tw_6_163 : Cond.methodLinkNest "NamesOnLetters" 140 ⟨"NamesOnLetters$Told", "isLaw", "(I)Z"⟩ "NamesOnLetters" ∈ tblA := tbl_a (tbl_in6 (List.mem_of_getElem? (i := 163) (by decide +kernel))) (by decide +kernel)
theorem tw_6_165 : Cond.methodLinkNest "NamesOnLetters" 145 ⟨"NamesOnLetters$Told", "lawFo\x72", "(ILNamesOnLetters$Letter;)I"⟩ "NamesOnLetters" ∈ tblA := tbl_a (tbl_in6 (List.mem_of_getElem? (i := 165) (by decide +kernel))) (by decide +kernel)
theorem tw_6_166 : Cond.methodLink "NamesOnLettersLaw" 226 ⟨"NamesOnLettersLaw", "row", "(LNamesOnLetters;I[J)I"⟩ ∈ tblA := tbl_a (tbl_in6 (List.mem_of_getElem? (i := 166) (by decide +kernel))) (by decide +kernel)
theorem tw_6_167 : Cond.static ⟨"NamesOnLettersLaw", "row", "(LNamesOnLetters;I[J)I"⟩ ∈ tblA := tbl_a (tbl_in6 (List.mem_of_getElem? (i := 167) (by decide +kernel))) (by decide +kernel)
theorem tw_6_169 : Cond.methodLink "NamesOnLettersLaw" 18 ⟨"NamesOnLetters", "row", "(I)J"⟩ ∈ tblA := tbl_a (tbl_in6 (List.mem_of_getElem? (i := 169) (by decide +kernel))) (by decide +kernel)
theorem tw_6_170 : Cond.instanceMethod ⟨"NamesOnLetters", "row", "(I)J"⟩ ∈ tblA := tbl_a (tbl_in6 (List.mem_of_getElem? (i := 170) (by decide +kernel))) (by decide +kernel)
theorem tw_6_171 : Cond.selects "NamesOnLetters" ⟨"NamesOnLetters", "row", "(I)J"⟩ ⟨"NamesOnLetters", "row", "(I)J"⟩ ∈ tblA := tbl_a (tbl_in6 (List.mem_of_getElem? (i := 171) (by decide +kernel))) (by decide +kernel)
theorem tw_6_174 : Cond.methodLink "NamesOnLettersLaw" 50 ⟨"NamesOnLettersModel", "thrown", "()I"⟩ ∈ tblA := tbl_a (tbl_in6 (List.mem_of_getElem? (i := 174) (by decide +kernel))) (by decide +kernel)
theorem tw_6_175 : Cond.instanceMethod ⟨"NamesOnLettersModel", "thrown", "()I"⟩ ∈ tblA := tbl_a (tbl_in6 (List.mem_of_getElem? (i := 175) (by decide +kernel))) (by decide +kernel)
theorem tw_6_176 : Cond.selects "NamesOnLettersModel" ⟨"NamesOnLettersModel", "thrown", "()I"⟩ ⟨"NamesOnLettersModel", "thrown", "()I"⟩ ∈ tblA := tbl_a (tbl_in6 (List.mem_of_getElem? (i := 176) (by decide +kernel))) (by decide +kernel)
theorem tw_6_178 : Cond.methodLink "NamesOnLettersLaw" 30 ⟨"NamesOnLettersModel", "name", "(III)I"⟩ ∈ tblA := tbl_a (tbl_in6 (List.mem_of_getElem? (i := 178) (by decide +kernel))) (by decide +kernel)
theorem tw_6_179 : Cond.instanceMethod ⟨"NamesOnLettersModel", "name", "(III)I"⟩ ∈ tblA := tbl_a (tbl_in6 (List.mem_of_getElem? (i := 179) (by decide +kernel))) (by decide +kernel)
theorem tw_6_180 : Cond.selects "NamesOnLettersModel" ⟨"NamesOnLettersModel", "name", "(III)I"⟩ ⟨"NamesOnLettersModel", "name", "(III)I"⟩ ∈ tblA := tbl_a (tbl_in6 (List.mem_of_getElem? (i := 180) (by decide +kernel))) (by decide +kernel)
theorem tw_6_182 : Cond.methodLink "NamesOnLettersModel" 29 ⟨"NamesOnLettersModel", "in", "(JJJ)Z"⟩ ∈ tblA := tbl_a (tbl_in6 (List.mem_of_getElem? (i := 182) (by decide +kernel))) (by decide +kernel)
theorem tw_6_183 : Cond.static ⟨"NamesOnLettersModel", "in", "(JJJ)Z"⟩ ∈ tblA := tbl_a (tbl_in6 (List.mem_of_getElem? (i := 183) (by decide +kernel))) (by decide +kernel)
theorem tw_6_185 : Cond.constantLong "NamesOnLettersModel" 39 (9) ∈ tblA := tbl_a (tbl_in6 (List.mem_of_getElem? (i := 185) (by decide +kernel))) (by decide +kernel)
theorem tw_6_186 : Cond.methodLink "NamesOnLettersLaw" 34 ⟨"NamesOnLettersModel", "house", "(III)I"⟩ ∈ tblA := tbl_a (tbl_in6 (List.mem_of_getElem? (i := 186) (by decide +kernel))) (by decide +kernel)
theorem tw_6_187 : Cond.instanceMethod ⟨"NamesOnLettersModel", "house", "(III)I"⟩ ∈ tblA := tbl_a (tbl_in6 (List.mem_of_getElem? (i := 187) (by decide +kernel))) (by decide +kernel)
theorem tw_6_188 : Cond.selects "NamesOnLettersModel" ⟨"NamesOnLettersModel", "house", "(III)I"⟩ ⟨"NamesOnLettersModel", "house", "(III)I"⟩ ∈ tblA := tbl_a (tbl_in6 (List.mem_of_getElem? (i := 188) (by decide +kernel))) (by decide +kernel)
theorem tw_6_190 : Cond.constantLong "NamesOnLettersModel" 54 (3) ∈ tblA := tbl_a (tbl_in6 (List.mem_of_getElem? (i := 190) (by decide +kernel))) (by decide +kernel)
theorem tw_6_191 : Cond.constantLong "NamesOnLettersModel" 56 (5) ∈ tblA := tbl_a (tbl_in6 (List.mem_of_getElem? (i := 191) (by decide +kernel))) (by decide +kernel)
theorem tw_6_192 : Cond.methodLink "NamesOnLettersLaw" 39 ⟨"NamesOnLettersModel", "lette\x72", "(IIIII)I"⟩ ∈ tblA := tbl_a (tbl_in6 (List.mem_of_getElem? (i := 192) (by decide +kernel))) (by decide +kernel)
theorem tw_6_193 : Cond.instanceMethod ⟨"NamesOnLettersModel", "lette\x72", "(IIIII)I"⟩ ∈ tblA := tbl_a (tbl_in6 (List.mem_of_getElem? (i := 193) (by decide +kernel))) (by decide +kernel)
theorem tw_6_194 : Cond.selects "NamesOnLettersModel" ⟨"NamesOnLettersModel", "lette\x72", "(IIIII)I"⟩ ⟨"NamesOnLettersModel", "lette\x72", "(IIIII)I"⟩ ∈ tblA := tbl_a (tbl_in6 (List.mem_of_getElem? (i := 194) (by decide +kernel))) (by decide +kernel)
theorem tw_6_196 : Cond.methodLink "NamesOnLettersModel" 99 ⟨"NamesOnLettersModel", "isHouse", "(I)Z"⟩ ∈ tblA := tbl_a (tbl_in6 (List.mem_of_getElem? (i := 196) (by decide +kernel))) (by decide +kernel)
theorem tw_6_198 : Cond.instanceMethod ⟨"NamesOnLettersModel", "isHouse", "(I)Z"⟩ ∈ tblA := tbl_a (tbl_in6 (List.mem_of_getElem? (i := 198) (by decide +kernel))) (by decide +kernel)
theorem tw_6_199 : Cond.instantiable "NamesOnLettersModel" 71 ∈ tblA := tbl_a (tbl_in6 (List.mem_of_getElem? (i := 199) (by decide +kernel))) (by decide +kernel)
theorem tw_6_201 : Cond.methodLink "NamesOnLettersModel" 103 ⟨"NamesOnLettersModel", "isName", "(I)Z"⟩ ∈ tblA := tbl_a (tbl_in6 (List.mem_of_getElem? (i := 201) (by decide +kernel))) (by decide +kernel)
theorem tw_6_203 : Cond.instanceMethod ⟨"NamesOnLettersModel", "isName", "(I)Z"⟩ ∈ tblA := tbl_a (tbl_in6 (List.mem_of_getElem? (i := 203) (by decide +kernel))) (by decide +kernel)
theorem tw_6_205 : Cond.constantLong "NamesOnLettersModel" 106 (99) ∈ tblA := tbl_a (tbl_in6 (List.mem_of_getElem? (i := 205) (by decide +kernel))) (by decide +kernel)
theorem tw_6_206 : Cond.constantLong "NamesOnLettersModel" 108 (399) ∈ tblA := tbl_a (tbl_in6 (List.mem_of_getElem? (i := 206) (by decide +kernel))) (by decide +kernel)
theorem tw_6_207 : Cond.methodLink "NamesOnLettersModel" 110 ⟨"NamesOnLettersModel", "lettersTo", "(I)I"⟩ ∈ tblA := tbl_a (tbl_in6 (List.mem_of_getElem? (i := 207) (by decide +kernel))) (by decide +kernel)
theorem tw_6_209 : Cond.instanceMethod ⟨"NamesOnLettersModel", "lettersTo", "(I)I"⟩ ∈ tblA := tbl_a (tbl_in6 (List.mem_of_getElem? (i := 209) (by decide +kernel))) (by decide +kernel)
theorem tw_6_211 : Cond.methodLink "NamesOnLettersModel" 70 ⟨"NamesOnLettersModel", "flag", "(Z)I"⟩ ∈ tblA := tbl_a (tbl_in6 (List.mem_of_getElem? (i := 211) (by decide +kernel))) (by decide +kernel)
theorem tw_6_212 : Cond.static ⟨"NamesOnLettersModel", "flag", "(Z)I"⟩ ∈ tblA := tbl_a (tbl_in6 (List.mem_of_getElem? (i := 212) (by decide +kernel))) (by decide +kernel)
theorem tw_6_214 : Cond.methodLink "NamesOnLettersModel" 114 ⟨"NamesOnLettersModel", "lays", "(IIIIII)V"⟩ ∈ tblA := tbl_a (tbl_in6 (List.mem_of_getElem? (i := 214) (by decide +kernel))) (by decide +kernel)
theorem tw_6_216 : Cond.instanceMethod ⟨"NamesOnLettersModel", "lays", "(IIIIII)V"⟩ ∈ tblA := tbl_a (tbl_in6 (List.mem_of_getElem? (i := 216) (by decide +kernel))) (by decide +kernel)
theorem tw_6_218 : Cond.methodLink "NamesOnLettersLaw" 43 ⟨"NamesOnLettersModel", "deal", "(III)I"⟩ ∈ tblA := tbl_a (tbl_in6 (List.mem_of_getElem? (i := 218) (by decide +kernel))) (by decide +kernel)
theorem tw_6_219 : Cond.instanceMethod ⟨"NamesOnLettersModel", "deal", "(III)I"⟩ ∈ tblA := tbl_a (tbl_in6 (List.mem_of_getElem? (i := 219) (by decide +kernel))) (by decide +kernel)
theorem tw_6_220 : Cond.selects "NamesOnLettersModel" ⟨"NamesOnLettersModel", "deal", "(III)I"⟩ ⟨"NamesOnLettersModel", "deal", "(III)I"⟩ ∈ tblA := tbl_a (tbl_in6 (List.mem_of_getElem? (i := 220) (by decide +kernel))) (by decide +kernel)
theorem tw_6_222 : Cond.methodLink "NamesOnLettersModel" 118 ⟨"NamesOnLettersModel", "namesOf", "(I)I"⟩ ∈ tblA := tbl_a (tbl_in6 (List.mem_of_getElem? (i := 222) (by decide +kernel))) (by decide +kernel)
theorem tw_6_224 : Cond.instanceMethod ⟨"NamesOnLettersModel", "namesOf", "(I)I"⟩ ∈ tblA := tbl_a (tbl_in6 (List.mem_of_getElem? (i := 224) (by decide +kernel))) (by decide +kernel)
theorem tw_6_226 : Cond.methodLink "NamesOnLettersModel" 121 ⟨"NamesOnLettersModel", "draws", "(I)I"⟩ ∈ tblA := tbl_a (tbl_in6 (List.mem_of_getElem? (i := 226) (by decide +kernel))) (by decide +kernel)
theorem tw_6_228 : Cond.instanceMethod ⟨"NamesOnLettersModel", "draws", "(I)I"⟩ ∈ tblA := tbl_a (tbl_in6 (List.mem_of_getElem? (i := 228) (by decide +kernel))) (by decide +kernel)
theorem tw_6_230 : Cond.constant "NamesOnLettersModel" 25 (1103515245) ∈ tblA := tbl_a (tbl_in6 (List.mem_of_getElem? (i := 230) (by decide +kernel))) (by decide +kernel)
theorem tw_6_231 : Cond.methodLink "NamesOnLettersModel" 127 ⟨"NamesOnLettersModel", "freeName", "(III)I"⟩ ∈ tblA := tbl_a (tbl_in6 (List.mem_of_getElem? (i := 231) (by decide +kernel))) (by decide +kernel)
theorem tw_6_233 : Cond.instanceMethod ⟨"NamesOnLettersModel", "freeName", "(III)I"⟩ ∈ tblA := tbl_a (tbl_in6 (List.mem_of_getElem? (i := 233) (by decide +kernel))) (by decide +kernel)
theorem tw_6_235 : Cond.methodLink "NamesOnLettersLaw" 49 ⟨"NamesOnLettersModel", "of", "(II)I"⟩ ∈ tblA := tbl_a (tbl_in6 (List.mem_of_getElem? (i := 235) (by decide +kernel))) (by decide +kernel)
theorem tw_6_236 : Cond.instanceMethod ⟨"NamesOnLettersModel", "of", "(II)I"⟩ ∈ tblA := tbl_a (tbl_in6 (List.mem_of_getElem? (i := 236) (by decide +kernel))) (by decide +kernel)
theorem tw_6_237 : Cond.selects "NamesOnLettersModel" ⟨"NamesOnLettersModel", "of", "(II)I"⟩ ⟨"NamesOnLettersModel", "of", "(II)I"⟩ ∈ tblA := tbl_a (tbl_in6 (List.mem_of_getElem? (i := 237) (by decide +kernel))) (by decide +kernel)
theorem tw_6_239 : Cond.methodLink "NamesOnLettersModel" 131 ⟨"NamesOnLettersModel", "isLette\x72", "(I)Z"⟩ ∈ tblA := tbl_a (tbl_in6 (List.mem_of_getElem? (i := 239) (by decide +kernel))) (by decide +kernel)
theorem tw_7_1 : Cond.instanceMethod ⟨"NamesOnLettersModel", "isLette\x72", "(I)Z"⟩ ∈ tblA := tbl_a (tbl_in7 (List.mem_of_getElem? (i := 1) (by decide +kernel))) (by decide +kernel)
theorem tw_7_3 : Cond.constantLong "NamesOnLettersModel" 134 (8) ∈ tblA := tbl_a (tbl_in7 (List.mem_of_getElem? (i := 3) (by decide +kernel))) (by decide +kernel)
theorem tw_7_4 : Cond.methodLink "NamesOnLettersModel" 136 ⟨"NamesOnLettersModel", "refuse", "()I"⟩ ∈ tblA := tbl_a (tbl_in7 (List.mem_of_getElem? (i := 4) (by decide +kernel))) (by decide +kernel)
theorem tw_7_6 : Cond.instanceMethod ⟨"NamesOnLettersModel", "refuse", "()I"⟩ ∈ tblA := tbl_a (tbl_in7 (List.mem_of_getElem? (i := 6) (by decide +kernel))) (by decide +kernel)
theorem tw_7_8 : Cond.methodLink "NamesOnLettersLaw" 58 ⟨"NamesOnLettersModel", "sign", "(I)I"⟩ ∈ tblA := tbl_a (tbl_in7 (List.mem_of_getElem? (i := 8) (by decide +kernel))) (by decide +kernel)
theorem tw_7_9 : Cond.instanceMethod ⟨"NamesOnLettersModel", "sign", "(I)I"⟩ ∈ tblA := tbl_a (tbl_in7 (List.mem_of_getElem? (i := 9) (by decide +kernel))) (by decide +kernel)
theorem tw_7_10 : Cond.selects "NamesOnLettersModel" ⟨"NamesOnLettersModel", "sign", "(I)I"⟩ ⟨"NamesOnLettersModel", "sign", "(I)I"⟩ ∈ tblA := tbl_a (tbl_in7 (List.mem_of_getElem? (i := 10) (by decide +kernel))) (by decide +kernel)
theorem tw_7_12 : Cond.methodLink "NamesOnLettersLaw" 63 ⟨"NamesOnLettersModel", "end", "(I)Z"⟩ ∈ tblA := tbl_a (tbl_in7 (List.mem_of_getElem? (i := 12) (by decide +kernel))) (by decide +kernel)
theorem tw_7_13 : Cond.instanceMethod ⟨"NamesOnLettersModel", "end", "(I)Z"⟩ ∈ tblA := tbl_a (tbl_in7 (List.mem_of_getElem? (i := 13) (by decide +kernel))) (by decide +kernel)
theorem tw_7_14 : Cond.selects "NamesOnLettersModel" ⟨"NamesOnLettersModel", "end", "(I)Z"⟩ ⟨"NamesOnLettersModel", "end", "(I)Z"⟩ ∈ tblA := tbl_a (tbl_in7 (List.mem_of_getElem? (i := 14) (by decide +kernel))) (by decide +kernel)
theorem tw_7_16 : Cond.methodLink "NamesOnLettersLaw" 67 ⟨"NamesOnLettersModel", "law", "(I)I"⟩ ∈ tblA := tbl_a (tbl_in7 (List.mem_of_getElem? (i := 16) (by decide +kernel))) (by decide +kernel)
theorem tw_7_17 : Cond.instanceMethod ⟨"NamesOnLettersModel", "law", "(I)I"⟩ ∈ tblA := tbl_a (tbl_in7 (List.mem_of_getElem? (i := 17) (by decide +kernel))) (by decide +kernel)
theorem tw_7_18 : Cond.selects "NamesOnLettersModel" ⟨"NamesOnLettersModel", "law", "(I)I"⟩ ⟨"NamesOnLettersModel", "law", "(I)I"⟩ ∈ tblA := tbl_a (tbl_in7 (List.mem_of_getElem? (i := 18) (by decide +kernel))) (by decide +kernel)
theorem tw_7_20 : Cond.methodLink "NamesOnLettersModel" 225 ⟨"NamesOnLettersModel", "reads", "(IZ)I"⟩ ∈ tblA := tbl_a (tbl_in7 (List.mem_of_getElem? (i := 20) (by decide +kernel))) (by decide +kernel)
theorem tw_7_22 : Cond.instanceMethod ⟨"NamesOnLettersModel", "reads", "(IZ)I"⟩ ∈ tblA := tbl_a (tbl_in7 (List.mem_of_getElem? (i := 22) (by decide +kernel))) (by decide +kernel)
theorem tw_7_24 : Cond.methodLink "NamesOnLettersModel" 219 ⟨"java/lang/Math", "min", "(II)I"⟩ ∈ tblA := tbl_a (tbl_in7 (List.mem_of_getElem? (i := 24) (by decide +kernel))) (by decide +kernel)
theorem tw_7_25 : Cond.methodLink "NamesOnLettersModel" 196 ⟨"NamesOnLettersModel", "ranked", "(I)Z"⟩ ∈ tblA := tbl_a (tbl_in7 (List.mem_of_getElem? (i := 25) (by decide +kernel))) (by decide +kernel)
theorem tw_7_27 : Cond.instanceMethod ⟨"NamesOnLettersModel", "ranked", "(I)Z"⟩ ∈ tblA := tbl_a (tbl_in7 (List.mem_of_getElem? (i := 27) (by decide +kernel))) (by decide +kernel)
theorem tw_7_29 : Cond.methodLink "NamesOnLettersModel" 206 ⟨"NamesOnLettersModel", "ahead", "()Z"⟩ ∈ tblA := tbl_a (tbl_in7 (List.mem_of_getElem? (i := 29) (by decide +kernel))) (by decide +kernel)
theorem tw_7_31 : Cond.instanceMethod ⟨"NamesOnLettersModel", "ahead", "()Z"⟩ ∈ tblA := tbl_a (tbl_in7 (List.mem_of_getElem? (i := 31) (by decide +kernel))) (by decide +kernel)
theorem tw_7_34 : Cond.methodLink "NamesOnLettersModel" 187 ⟨"NamesOnLettersModel", "among", "(Ljava/lang/String;)I"⟩ ∈ tblA := tbl_a (tbl_in7 (List.mem_of_getElem? (i := 34) (by decide +kernel))) (by decide +kernel)
theorem tw_7_36 : Cond.instanceMethod ⟨"NamesOnLettersModel", "among", "(Ljava/lang/String;)I"⟩ ∈ tblA := tbl_a (tbl_in7 (List.mem_of_getElem? (i := 36) (by decide +kernel))) (by decide +kernel)
theorem tw_7_38 : Cond.methodLink "NamesOnLettersModel" 156 ⟨"java/lang/String", "length", "()I"⟩ ∈ tblA := tbl_a (tbl_in7 (List.mem_of_getElem? (i := 38) (by decide +kernel))) (by decide +kernel)
theorem tw_7_39 : Cond.methodLink "NamesOnLettersModel" 161 ⟨"java/lang/String", "charAt", "(I)C"⟩ ∈ tblA := tbl_a (tbl_in7 (List.mem_of_getElem? (i := 39) (by decide +kernel))) (by decide +kernel)
theorem tw_7_40 : Cond.instanceMethod ⟨"java/lang/String", "charAt", "(I)C"⟩ ∈ tblA := tbl_a (tbl_in7 (List.mem_of_getElem? (i := 40) (by decide +kernel))) (by decide +kernel)
theorem tw_7_41 : Cond.selects "java/lang/String" ⟨"java/lang/String", "charAt", "(I)C"⟩ ⟨"java/lang/String", "charAt", "(I)C"⟩ ∈ tblA := tbl_a (tbl_in7 (List.mem_of_getElem? (i := 41) (by decide +kernel))) (by decide +kernel)
theorem tw_7_43 : Cond.methodLink "java/lang/String" 495 ⟨"java/lang/StringLatin1", "charAt", "([BI)C"⟩ ∈ tblA := tbl_a (tbl_in7 (List.mem_of_getElem? (i := 43) (by decide +kernel))) (by decide +kernel)
theorem tw_7_44 : Cond.static ⟨"java/lang/StringLatin1", "charAt", "([BI)C"⟩ ∈ tblA := tbl_a (tbl_in7 (List.mem_of_getElem? (i := 44) (by decide +kernel))) (by decide +kernel)
theorem tw_7_46 : Cond.methodLink "java/lang/StringLatin1" 9 ⟨"java/lang/String", "checkIndex", "(II)V"⟩ ∈ tblA := tbl_a (tbl_in7 (List.mem_of_getElem? (i := 46) (by decide +kernel))) (by decide +kernel)
theorem tw_7_47 : Cond.static ⟨"java/lang/String", "checkIndex", "(II)V"⟩ ∈ tblA := tbl_a (tbl_in7 (List.mem_of_getElem? (i := 47) (by decide +kernel))) (by decide +kernel)
theorem tw_7_49 : Cond.methodLink "java/lang/String" 1059 ⟨"jdk/internal/util/Preconditions", "checkIndex", "(IILjava/util/function/BiFunction;)I"⟩ ∈ tblA := tbl_a (tbl_in7 (List.mem_of_getElem? (i := 49) (by decide +kernel))) (by decide +kernel)
theorem tw_7_50 : Cond.static ⟨"jdk/internal/util/Preconditions", "checkIndex", "(IILjava/util/function/BiFunction;)I"⟩ ∈ tblA := tbl_a (tbl_in7 (List.mem_of_getElem? (i := 50) (by decide +kernel))) (by decide +kernel)
theorem tw_7_52 : Cond.methodLink "java/lang/String" 498 ⟨"java/lang/StringUTF16", "charAt", "([BI)C"⟩ ∈ tblA := tbl_a (tbl_in7 (List.mem_of_getElem? (i := 52) (by decide +kernel))) (by decide +kernel)
theorem tw_7_53 : Cond.static ⟨"java/lang/StringUTF16", "charAt", "([BI)C"⟩ ∈ tblA := tbl_a (tbl_in7 (List.mem_of_getElem? (i := 53) (by decide +kernel))) (by decide +kernel)
theorem tw_7_55 : Cond.methodLink "java/lang/StringUTF16" 67 ⟨"java/lang/StringUTF16", "checkIndex", "(I[B)V"⟩ ∈ tblA := tbl_a (tbl_in7 (List.mem_of_getElem? (i := 55) (by decide +kernel))) (by decide +kernel)
theorem tw_7_56 : Cond.static ⟨"java/lang/StringUTF16", "checkIndex", "(I[B)V"⟩ ∈ tblA := tbl_a (tbl_in7 (List.mem_of_getElem? (i := 56) (by decide +kernel))) (by decide +kernel)
theorem tw_7_58 : Cond.methodLink "java/lang/StringUTF16" 414 ⟨"java/lang/String", "checkIndex", "(II)V"⟩ ∈ tblA := tbl_a (tbl_in7 (List.mem_of_getElem? (i := 58) (by decide +kernel))) (by decide +kernel)
theorem tw_7_59 : Cond.methodLink "NamesOnLettersModel" 203 ⟨"NamesOnLettersModel", "thing", "()Z"⟩ ∈ tblA := tbl_a (tbl_in7 (List.mem_of_getElem? (i := 59) (by decide +kernel))) (by decide +kernel)
theorem tw_7_61 : Cond.instanceMethod ⟨"NamesOnLettersModel", "thing", "()Z"⟩ ∈ tblA := tbl_a (tbl_in7 (List.mem_of_getElem? (i := 61) (by decide +kernel))) (by decide +kernel)
theorem tw_7_63 : Cond.methodLink "NamesOnLettersModel" 171 ⟨"NamesOnLettersModel", "isDigit", "()Z"⟩ ∈ tblA := tbl_a (tbl_in7 (List.mem_of_getElem? (i := 63) (by decide +kernel))) (by decide +kernel)
theorem tw_7_65 : Cond.instanceMethod ⟨"NamesOnLettersModel", "isDigit", "()Z"⟩ ∈ tblA := tbl_a (tbl_in7 (List.mem_of_getElem? (i := 65) (by decide +kernel))) (by decide +kernel)
theorem tw_7_67 : Cond.constantLong "NamesOnLettersModel" 152 (48) ∈ tblA := tbl_a (tbl_in7 (List.mem_of_getElem? (i := 67) (by decide +kernel))) (by decide +kernel)
theorem tw_7_68 : Cond.constantLong "NamesOnLettersModel" 154 (57) ∈ tblA := tbl_a (tbl_in7 (List.mem_of_getElem? (i := 68) (by decide +kernel))) (by decide +kernel)
theorem tw_7_69 : Cond.methodLink "NamesOnLettersModel" 175 ⟨"NamesOnLettersModel", "marks", "(I)V"⟩ ∈ tblA := tbl_a (tbl_in7 (List.mem_of_getElem? (i := 69) (by decide +kernel))) (by decide +kernel)
theorem tw_7_71 : Cond.instanceMethod ⟨"NamesOnLettersModel", "marks", "(I)V"⟩ ∈ tblA := tbl_a (tbl_in7 (List.mem_of_getElem? (i := 71) (by decide +kernel))) (by decide +kernel)
theorem tw_7_82 : Cond.methodLink "NamesOnLettersLaw" 71 ⟨"NamesOnLettersModel", "filte\x72", "(I)I"⟩ ∈ tblA := tbl_a (tbl_in7 (List.mem_of_getElem? (i := 82) (by decide +kernel))) (by decide +kernel)
theorem tw_7_83 : Cond.instanceMethod ⟨"NamesOnLettersModel", "filte\x72", "(I)I"⟩ ∈ tblA := tbl_a (tbl_in7 (List.mem_of_getElem? (i := 83) (by decide +kernel))) (by decide +kernel)
theorem tw_7_84 : Cond.selects "NamesOnLettersModel" ⟨"NamesOnLettersModel", "filte\x72", "(I)I"⟩ ⟨"NamesOnLettersModel", "filte\x72", "(I)I"⟩ ∈ tblA := tbl_a (tbl_in7 (List.mem_of_getElem? (i := 84) (by decide +kernel))) (by decide +kernel)
theorem tw_7_86 : Cond.methodLink "NamesOnLettersLaw" 74 ⟨"NamesOnLettersModel", "value", "(II)I"⟩ ∈ tblA := tbl_a (tbl_in7 (List.mem_of_getElem? (i := 86) (by decide +kernel))) (by decide +kernel)
theorem tw_7_87 : Cond.instanceMethod ⟨"NamesOnLettersModel", "value", "(II)I"⟩ ∈ tblA := tbl_a (tbl_in7 (List.mem_of_getElem? (i := 87) (by decide +kernel))) (by decide +kernel)
theorem tw_7_88 : Cond.selects "NamesOnLettersModel" ⟨"NamesOnLettersModel", "value", "(II)I"⟩ ⟨"NamesOnLettersModel", "value", "(II)I"⟩ ∈ tblA := tbl_a (tbl_in7 (List.mem_of_getElem? (i := 88) (by decide +kernel))) (by decide +kernel)
theorem tw_7_90 : Cond.methodLink "NamesOnLettersModel" 250 ⟨"NamesOnLettersModel", "isTold", "(I)Z"⟩ ∈ tblA := tbl_a (tbl_in7 (List.mem_of_getElem? (i := 90) (by decide +kernel))) (by decide +kernel)
theorem tw_7_92 : Cond.instanceMethod ⟨"NamesOnLettersModel", "isTold", "(I)Z"⟩ ∈ tblA := tbl_a (tbl_in7 (List.mem_of_getElem? (i := 92) (by decide +kernel))) (by decide +kernel)
theorem tw_7_94 : Cond.methodLink "NamesOnLettersModel" 253 ⟨"NamesOnLettersModel", "countsTill", "(I)V"⟩ ∈ tblA := tbl_a (tbl_in7 (List.mem_of_getElem? (i := 94) (by decide +kernel))) (by decide +kernel)
theorem tw_7_96 : Cond.instanceMethod ⟨"NamesOnLettersModel", "countsTill", "(I)V"⟩ ∈ tblA := tbl_a (tbl_in7 (List.mem_of_getElem? (i := 96) (by decide +kernel))) (by decide +kernel)
theorem tw_7_98 : Cond.methodLink "NamesOnLettersModel" 238 ⟨"java/lang/Math", "max", "(II)I"⟩ ∈ tblA := tbl_a (tbl_in7 (List.mem_of_getElem? (i := 98) (by decide +kernel))) (by decide +kernel)
theorem tw_7_99 : Cond.methodLink "NamesOnLettersModel" 256 ⟨"NamesOnLettersModel", "worked", "(II)I"⟩ ∈ tblA := tbl_a (tbl_in7 (List.mem_of_getElem? (i := 99) (by decide +kernel))) (by decide +kernel)
theorem tw_7_101 : Cond.instanceMethod ⟨"NamesOnLettersModel", "worked", "(II)I"⟩ ∈ tblA := tbl_a (tbl_in7 (List.mem_of_getElem? (i := 101) (by decide +kernel))) (by decide +kernel)
theorem tw_7_103 : Cond.methodLink "NamesOnLettersModel" 244 ⟨"NamesOnLettersModel", "valueOf", "(II)I"⟩ ∈ tblA := tbl_a (tbl_in7 (List.mem_of_getElem? (i := 103) (by decide +kernel))) (by decide +kernel)
theorem tw_7_105 : Cond.instanceMethod ⟨"NamesOnLettersModel", "valueOf", "(II)I"⟩ ∈ tblA := tbl_a (tbl_in7 (List.mem_of_getElem? (i := 105) (by decide +kernel))) (by decide +kernel)
theorem tw_7_107 : Cond.methodLink "NamesOnLettersModel" 247 ⟨"NamesOnLettersModel", "acted", "(III)I"⟩ ∈ tblA := tbl_a (tbl_in7 (List.mem_of_getElem? (i := 107) (by decide +kernel))) (by decide +kernel)
theorem tw_7_108 : Cond.static ⟨"NamesOnLettersModel", "acted", "(III)I"⟩ ∈ tblA := tbl_a (tbl_in7 (List.mem_of_getElem? (i := 108) (by decide +kernel))) (by decide +kernel)
theorem tw_7_110 : Cond.methodLink "NamesOnLettersLaw" 78 ⟨"NamesOnLettersModel", "read", "(I)I"⟩ ∈ tblA := tbl_a (tbl_in7 (List.mem_of_getElem? (i := 110) (by decide +kernel))) (by decide +kernel)
theorem tw_7_111 : Cond.instanceMethod ⟨"NamesOnLettersModel", "read", "(I)I"⟩ ∈ tblA := tbl_a (tbl_in7 (List.mem_of_getElem? (i := 111) (by decide +kernel))) (by decide +kernel)
theorem tw_7_112 : Cond.selects "NamesOnLettersModel" ⟨"NamesOnLettersModel", "read", "(I)I"⟩ ⟨"NamesOnLettersModel", "read", "(I)I"⟩ ∈ tblA := tbl_a (tbl_in7 (List.mem_of_getElem? (i := 112) (by decide +kernel))) (by decide +kernel)
theorem tw_7_114 : Cond.constantLong "NamesOnLettersModel" 259 (96) ∈ tblA := tbl_a (tbl_in7 (List.mem_of_getElem? (i := 114) (by decide +kernel))) (by decide +kernel)
theorem tw_7_115 : Cond.methodLink "NamesOnLettersLaw" 83 ⟨"NamesOnLettersModel", "ring", "(IZ)Z"⟩ ∈ tblA := tbl_a (tbl_in7 (List.mem_of_getElem? (i := 115) (by decide +kernel))) (by decide +kernel)
theorem tw_7_116 : Cond.instanceMethod ⟨"NamesOnLettersModel", "ring", "(IZ)Z"⟩ ∈ tblA := tbl_a (tbl_in7 (List.mem_of_getElem? (i := 116) (by decide +kernel))) (by decide +kernel)
theorem tw_7_117 : Cond.selects "NamesOnLettersModel" ⟨"NamesOnLettersModel", "ring", "(IZ)Z"⟩ ⟨"NamesOnLettersModel", "ring", "(IZ)Z"⟩ ∈ tblA := tbl_a (tbl_in7 (List.mem_of_getElem? (i := 117) (by decide +kernel))) (by decide +kernel)
theorem tw_7_119 : Cond.methodLink "NamesOnLettersLaw" 88 ⟨"NamesOnLettersModel", "box", "(IIII)I"⟩ ∈ tblA := tbl_a (tbl_in7 (List.mem_of_getElem? (i := 119) (by decide +kernel))) (by decide +kernel)
theorem tw_7_120 : Cond.instanceMethod ⟨"NamesOnLettersModel", "box", "(IIII)I"⟩ ∈ tblA := tbl_a (tbl_in7 (List.mem_of_getElem? (i := 120) (by decide +kernel))) (by decide +kernel)
theorem tw_7_121 : Cond.selects "NamesOnLettersModel" ⟨"NamesOnLettersModel", "box", "(IIII)I"⟩ ⟨"NamesOnLettersModel", "box", "(IIII)I"⟩ ∈ tblA := tbl_a (tbl_in7 (List.mem_of_getElem? (i := 121) (by decide +kernel))) (by decide +kernel)
theorem tw_7_123 : Cond.methodLink "NamesOnLettersLaw" 92 ⟨"NamesOnLettersModel", "afte\x72", "(II)I"⟩ ∈ tblA := tbl_a (tbl_in7 (List.mem_of_getElem? (i := 123) (by decide +kernel))) (by decide +kernel)
theorem tw_7_124 : Cond.instanceMethod ⟨"NamesOnLettersModel", "afte\x72", "(II)I"⟩ ∈ tblA := tbl_a (tbl_in7 (List.mem_of_getElem? (i := 124) (by decide +kernel))) (by decide +kernel)
theorem tw_7_125 : Cond.selects "NamesOnLettersModel" ⟨"NamesOnLettersModel", "afte\x72", "(II)I"⟩ ⟨"NamesOnLettersModel", "afte\x72", "(II)I"⟩ ∈ tblA := tbl_a (tbl_in7 (List.mem_of_getElem? (i := 125) (by decide +kernel))) (by decide +kernel)
theorem tw_7_127 : Cond.constantLong "NamesOnLettersModel" 261 (2) ∈ tblA := tbl_a (tbl_in7 (List.mem_of_getElem? (i := 127) (by decide +kernel))) (by decide +kernel)
theorem tw_7_128 : Cond.methodLink "NamesOnLettersLaw" 96 ⟨"NamesOnLettersModel", "seed", "(I)I"⟩ ∈ tblA := tbl_a (tbl_in7 (List.mem_of_getElem? (i := 128) (by decide +kernel))) (by decide +kernel)
theorem tw_7_129 : Cond.instanceMethod ⟨"NamesOnLettersModel", "seed", "(I)I"⟩ ∈ tblA := tbl_a (tbl_in7 (List.mem_of_getElem? (i := 129) (by decide +kernel))) (by decide +kernel)
theorem tw_7_130 : Cond.selects "NamesOnLettersModel" ⟨"NamesOnLettersModel", "seed", "(I)I"⟩ ⟨"NamesOnLettersModel", "seed", "(I)I"⟩ ∈ tblA := tbl_a (tbl_in7 (List.mem_of_getElem? (i := 130) (by decide +kernel))) (by decide +kernel)
theorem tw_7_132 : Cond.methodLink "NamesOnLettersLaw" 100 ⟨"NamesOnLettersModel", "share", "(I)I"⟩ ∈ tblA := tbl_a (tbl_in7 (List.mem_of_getElem? (i := 132) (by decide +kernel))) (by decide +kernel)
theorem tw_7_133 : Cond.instanceMethod ⟨"NamesOnLettersModel", "share", "(I)I"⟩ ∈ tblA := tbl_a (tbl_in7 (List.mem_of_getElem? (i := 133) (by decide +kernel))) (by decide +kernel)
theorem tw_7_134 : Cond.selects "NamesOnLettersModel" ⟨"NamesOnLettersModel", "share", "(I)I"⟩ ⟨"NamesOnLettersModel", "share", "(I)I"⟩ ∈ tblA := tbl_a (tbl_in7 (List.mem_of_getElem? (i := 134) (by decide +kernel))) (by decide +kernel)
theorem tw_7_136 : Cond.methodLink "NamesOnLettersModel" 276 ⟨"NamesOnLettersModel", "isFilte\x72", "(I)Z"⟩ ∈ tblA := tbl_a (tbl_in7 (List.mem_of_getElem? (i := 136) (by decide +kernel))) (by decide +kernel)
theorem tw_7_138 : Cond.instanceMethod ⟨"NamesOnLettersModel", "isFilte\x72", "(I)Z"⟩ ∈ tblA := tbl_a (tbl_in7 (List.mem_of_getElem? (i := 138) (by decide +kernel))) (by decide +kernel)
theorem tw_7_140 : Cond.methodLink "NamesOnLettersModel" 279 ⟨"NamesOnLettersModel", "counts", "(II)V"⟩ ∈ tblA := tbl_a (tbl_in7 (List.mem_of_getElem? (i := 140) (by decide +kernel))) (by decide +kernel)
theorem tw_7_142 : Cond.instanceMethod ⟨"NamesOnLettersModel", "counts", "(II)V"⟩ ∈ tblA := tbl_a (tbl_in7 (List.mem_of_getElem? (i := 142) (by decide +kernel))) (by decide +kernel)
theorem tw_7_144 : Cond.methodLink "NamesOnLettersModel" 269 ⟨"NamesOnLettersModel", "passes", "(II)Z"⟩ ∈ tblA := tbl_a (tbl_in7 (List.mem_of_getElem? (i := 144) (by decide +kernel))) (by decide +kernel)
theorem tw_7_146 : Cond.instanceMethod ⟨"NamesOnLettersModel", "passes", "(II)Z"⟩ ∈ tblA := tbl_a (tbl_in7 (List.mem_of_getElem? (i := 146) (by decide +kernel))) (by decide +kernel)
theorem tw_7_148 : Cond.methodLink "NamesOnLettersModel" 273 ⟨"NamesOnLettersModel", "peopleOf", "(I)I"⟩ ∈ tblA := tbl_a (tbl_in7 (List.mem_of_getElem? (i := 148) (by decide +kernel))) (by decide +kernel)
theorem tw_7_150 : Cond.instanceMethod ⟨"NamesOnLettersModel", "peopleOf", "(I)I"⟩ ∈ tblA := tbl_a (tbl_in7 (List.mem_of_getElem? (i := 150) (by decide +kernel))) (by decide +kernel)
theorem tw_7_152 : Cond.methodLink "NamesOnLettersModel" 283 ⟨"NamesOnLettersModel", "entersFraction", "(JJ)V"⟩ ∈ tblA := tbl_a (tbl_in7 (List.mem_of_getElem? (i := 152) (by decide +kernel))) (by decide +kernel)
theorem tw_7_154 : Cond.instanceMethod ⟨"NamesOnLettersModel", "entersFraction", "(JJ)V"⟩ ∈ tblA := tbl_a (tbl_in7 (List.mem_of_getElem? (i := 154) (by decide +kernel))) (by decide +kernel)
theorem tw_7_156 : Cond.methodLink "NamesOnLettersModel" 14 ⟨"NamesOnLettersModel", "common", "(JJ)J"⟩ ∈ tblA := tbl_a (tbl_in7 (List.mem_of_getElem? (i := 156) (by decide +kernel))) (by decide +kernel)
theorem tw_7_157 : Cond.static ⟨"NamesOnLettersModel", "common", "(JJ)J"⟩ ∈ tblA := tbl_a (tbl_in7 (List.mem_of_getElem? (i := 157) (by decide +kernel))) (by decide +kernel)
theorem tw_7_159 : Cond.methodLink "NamesOnLettersModel" 18 ⟨"NamesOnLettersModel", "enters", "(J)V"⟩ ∈ tblA := tbl_a (tbl_in7 (List.mem_of_getElem? (i := 159) (by decide +kernel))) (by decide +kernel)
theorem tw_7_161 : Cond.instanceMethod ⟨"NamesOnLettersModel", "enters", "(J)V"⟩ ∈ tblA := tbl_a (tbl_in7 (List.mem_of_getElem? (i := 161) (by decide +kernel))) (by decide +kernel)
theorem tw_7_163 : Cond.methodLink "NamesOnLettersLaw" 104 ⟨"NamesOnLettersModel", "aside", "(I)I"⟩ ∈ tblA := tbl_a (tbl_in7 (List.mem_of_getElem? (i := 163) (by decide +kernel))) (by decide +kernel)
theorem tw_7_164 : Cond.instanceMethod ⟨"NamesOnLettersModel", "aside", "(I)I"⟩ ∈ tblA := tbl_a (tbl_in7 (List.mem_of_getElem? (i := 164) (by decide +kernel))) (by decide +kernel)
theorem tw_7_165 : Cond.selects "NamesOnLettersModel" ⟨"NamesOnLettersModel", "aside", "(I)I"⟩ ⟨"NamesOnLettersModel", "aside", "(I)I"⟩ ∈ tblA := tbl_a (tbl_in7 (List.mem_of_getElem? (i := 165) (by decide +kernel))) (by decide +kernel)
theorem tw_7_167 : Cond.methodLink "NamesOnLettersModel" 287 ⟨"NamesOnLettersModel", "areBoth", "()Z"⟩ ∈ tblA := tbl_a (tbl_in7 (List.mem_of_getElem? (i := 167) (by decide +kernel))) (by decide +kernel)
theorem tw_7_169 : Cond.instanceMethod ⟨"NamesOnLettersModel", "areBoth", "()Z"⟩ ∈ tblA := tbl_a (tbl_in7 (List.mem_of_getElem? (i := 169) (by decide +kernel))) (by decide +kernel)
theorem tw_7_171 : Cond.methodLink "NamesOnLettersLaw" 108 ⟨"NamesOnLettersModel", "odds", "(II)I"⟩ ∈ tblA := tbl_a (tbl_in7 (List.mem_of_getElem? (i := 171) (by decide +kernel))) (by decide +kernel)
theorem tw_7_172 : Cond.instanceMethod ⟨"NamesOnLettersModel", "odds", "(II)I"⟩ ∈ tblA := tbl_a (tbl_in7 (List.mem_of_getElem? (i := 172) (by decide +kernel))) (by decide +kernel)
theorem tw_7_173 : Cond.selects "NamesOnLettersModel" ⟨"NamesOnLettersModel", "odds", "(II)I"⟩ ⟨"NamesOnLettersModel", "odds", "(II)I"⟩ ∈ tblA := tbl_a (tbl_in7 (List.mem_of_getElem? (i := 173) (by decide +kernel))) (by decide +kernel)
theorem tw_7_175 : Cond.methodLink "NamesOnLettersModel" 293 ⟨"NamesOnLettersModel", "choices", "(II)J"⟩ ∈ tblA := tbl_a (tbl_in7 (List.mem_of_getElem? (i := 175) (by decide +kernel))) (by decide +kernel)
theorem tw_7_176 : Cond.static ⟨"NamesOnLettersModel", "choices", "(II)J"⟩ ∈ tblA := tbl_a (tbl_in7 (List.mem_of_getElem? (i := 176) (by decide +kernel))) (by decide +kernel)
theorem tw_7_178 : Cond.methodLink "NamesOnLettersLaw" 112 ⟨"NamesOnLettersModel", "weighs", "()I"⟩ ∈ tblA := tbl_a (tbl_in7 (List.mem_of_getElem? (i := 178) (by decide +kernel))) (by decide +kernel)
theorem tw_7_179 : Cond.instanceMethod ⟨"NamesOnLettersModel", "weighs", "()I"⟩ ∈ tblA := tbl_a (tbl_in7 (List.mem_of_getElem? (i := 179) (by decide +kernel))) (by decide +kernel)
theorem tw_7_180 : Cond.selects "NamesOnLettersModel" ⟨"NamesOnLettersModel", "weighs", "()I"⟩ ⟨"NamesOnLettersModel", "weighs", "()I"⟩ ∈ tblA := tbl_a (tbl_in7 (List.mem_of_getElem? (i := 180) (by decide +kernel))) (by decide +kernel)
theorem tw_7_182 : Cond.methodLink "NamesOnLettersModel" 300 ⟨"NamesOnLettersModel", "readMany", "()I"⟩ ∈ tblA := tbl_a (tbl_in7 (List.mem_of_getElem? (i := 182) (by decide +kernel))) (by decide +kernel)
theorem tw_7_184 : Cond.instanceMethod ⟨"NamesOnLettersModel", "readMany", "()I"⟩ ∈ tblA := tbl_a (tbl_in7 (List.mem_of_getElem? (i := 184) (by decide +kernel))) (by decide +kernel)
theorem tw_7_186 : Cond.methodLink "NamesOnLettersModel" 303 ⟨"java/lang/Math", "abs", "(J)J"⟩ ∈ tblA := tbl_a (tbl_in7 (List.mem_of_getElem? (i := 186) (by decide +kernel))) (by decide +kernel)
theorem tw_7_187 : Cond.static ⟨"java/lang/Math", "abs", "(J)J"⟩ ∈ tblA := tbl_a (tbl_in7 (List.mem_of_getElem? (i := 187) (by decide +kernel))) (by decide +kernel)
theorem tw_7_189 : Cond.methodLink "NamesOnLettersLaw" 116 ⟨"NamesOnLettersModel", "names", "(I)I"⟩ ∈ tblA := tbl_a (tbl_in7 (List.mem_of_getElem? (i := 189) (by decide +kernel))) (by decide +kernel)
theorem tw_7_190 : Cond.instanceMethod ⟨"NamesOnLettersModel", "names", "(I)I"⟩ ∈ tblA := tbl_a (tbl_in7 (List.mem_of_getElem? (i := 190) (by decide +kernel))) (by decide +kernel)
theorem tw_7_191 : Cond.selects "NamesOnLettersModel" ⟨"NamesOnLettersModel", "names", "(I)I"⟩ ⟨"NamesOnLettersModel", "names", "(I)I"⟩ ∈ tblA := tbl_a (tbl_in7 (List.mem_of_getElem? (i := 191) (by decide +kernel))) (by decide +kernel)
theorem tw_7_193 : Cond.methodLink "NamesOnLettersModel" 313 ⟨"NamesOnLettersModel", "countsNames", "()V"⟩ ∈ tblA := tbl_a (tbl_in7 (List.mem_of_getElem? (i := 193) (by decide +kernel))) (by decide +kernel)
theorem tw_7_195 : Cond.instanceMethod ⟨"NamesOnLettersModel", "countsNames", "()V"⟩ ∈ tblA := tbl_a (tbl_in7 (List.mem_of_getElem? (i := 195) (by decide +kernel))) (by decide +kernel)
theorem tw_7_197 : Cond.methodLink "NamesOnLettersLaw" 120 ⟨"NamesOnLettersModel", "drawn", "()I"⟩ ∈ tblA := tbl_a (tbl_in7 (List.mem_of_getElem? (i := 197) (by decide +kernel))) (by decide +kernel)
theorem tw_7_198 : Cond.instanceMethod ⟨"NamesOnLettersModel", "drawn", "()I"⟩ ∈ tblA := tbl_a (tbl_in7 (List.mem_of_getElem? (i := 198) (by decide +kernel))) (by decide +kernel)
theorem tw_7_199 : Cond.selects "NamesOnLettersModel" ⟨"NamesOnLettersModel", "drawn", "()I"⟩ ⟨"NamesOnLettersModel", "drawn", "()I"⟩ ∈ tblA := tbl_a (tbl_in7 (List.mem_of_getElem? (i := 199) (by decide +kernel))) (by decide +kernel)
theorem tw_7_201 : Cond.methodLink "NamesOnLettersModel" 317 ⟨"java/lang/Intege\x72", "bitCount", "(I)I"⟩ ∈ tblA := tbl_a (tbl_in7 (List.mem_of_getElem? (i := 201) (by decide +kernel))) (by decide +kernel)
theorem tw_7_202 : Cond.methodLink "NamesOnLettersModel" 322 ⟨"NamesOnLettersModel", "has", "(II)Z"⟩ ∈ tblA := tbl_a (tbl_in7 (List.mem_of_getElem? (i := 202) (by decide +kernel))) (by decide +kernel)
theorem tw_7_203 : Cond.static ⟨"NamesOnLettersModel", "has", "(II)Z"⟩ ∈ tblA := tbl_a (tbl_in7 (List.mem_of_getElem? (i := 203) (by decide +kernel))) (by decide +kernel)
theorem tw_7_205 : Cond.methodLink "NamesOnLettersLaw" 124 ⟨"NamesOnLettersModel", "goes", "(I)I"⟩ ∈ tblA := tbl_a (tbl_in7 (List.mem_of_getElem? (i := 205) (by decide +kernel))) (by decide +kernel)
theorem tw_7_206 : Cond.instanceMethod ⟨"NamesOnLettersModel", "goes", "(I)I"⟩ ∈ tblA := tbl_a (tbl_in7 (List.mem_of_getElem? (i := 206) (by decide +kernel))) (by decide +kernel)
theorem tw_7_207 : Cond.selects "NamesOnLettersModel" ⟨"NamesOnLettersModel", "goes", "(I)I"⟩ ⟨"NamesOnLettersModel", "goes", "(I)I"⟩ ∈ tblA := tbl_a (tbl_in7 (List.mem_of_getElem? (i := 207) (by decide +kernel))) (by decide +kernel)
theorem tw_7_209 : Cond.methodLink "NamesOnLettersModel" 346 ⟨"NamesOnLettersModel", "pairsOf", "(I)V"⟩ ∈ tblA := tbl_a (tbl_in7 (List.mem_of_getElem? (i := 209) (by decide +kernel))) (by decide +kernel)
theorem tw_7_211 : Cond.instanceMethod ⟨"NamesOnLettersModel", "pairsOf", "(I)V"⟩ ∈ tblA := tbl_a (tbl_in7 (List.mem_of_getElem? (i := 211) (by decide +kernel))) (by decide +kernel)
theorem tw_7_213 : Cond.methodLink "NamesOnLettersModel" 337 ⟨"NamesOnLettersModel", "saysOf", "(II)I"⟩ ∈ tblA := tbl_a (tbl_in7 (List.mem_of_getElem? (i := 213) (by decide +kernel))) (by decide +kernel)
theorem tw_7_215 : Cond.instanceMethod ⟨"NamesOnLettersModel", "saysOf", "(II)I"⟩ ∈ tblA := tbl_a (tbl_in7 (List.mem_of_getElem? (i := 215) (by decide +kernel))) (by decide +kernel)
theorem tw_7_217 : Cond.methodLink "NamesOnLettersModel" 340 ⟨"java/lang/Intege\x72", "signum", "(I)I"⟩ ∈ tblA := tbl_a (tbl_in7 (List.mem_of_getElem? (i := 217) (by decide +kernel))) (by decide +kernel)
theorem tw_7_218 : Cond.static ⟨"java/lang/Intege\x72", "signum", "(I)I"⟩ ∈ tblA := tbl_a (tbl_in7 (List.mem_of_getElem? (i := 218) (by decide +kernel))) (by decide +kernel)
theorem tw_7_220 : Cond.methodLink "NamesOnLettersModel" 343 ⟨"NamesOnLettersModel", "compares", "(II)I"⟩ ∈ tblA := tbl_a (tbl_in7 (List.mem_of_getElem? (i := 220) (by decide +kernel))) (by decide +kernel)
theorem tw_7_222 : Cond.instanceMethod ⟨"NamesOnLettersModel", "compares", "(II)I"⟩ ∈ tblA := tbl_a (tbl_in7 (List.mem_of_getElem? (i := 222) (by decide +kernel))) (by decide +kernel)
theorem tw_7_224 : Cond.methodLink "NamesOnLettersModel" 325 ⟨"java/lang/Intege\x72", "compare", "(II)I"⟩ ∈ tblA := tbl_a (tbl_in7 (List.mem_of_getElem? (i := 224) (by decide +kernel))) (by decide +kernel)
theorem tw_7_225 : Cond.methodLink "NamesOnLettersLaw" 128 ⟨"NamesOnLettersModel", "says", "()I"⟩ ∈ tblA := tbl_a (tbl_in7 (List.mem_of_getElem? (i := 225) (by decide +kernel))) (by decide +kernel)
theorem tw_7_226 : Cond.instanceMethod ⟨"NamesOnLettersModel", "says", "()I"⟩ ∈ tblA := tbl_a (tbl_in7 (List.mem_of_getElem? (i := 226) (by decide +kernel))) (by decide +kernel)
theorem tw_7_227 : Cond.selects "NamesOnLettersModel" ⟨"NamesOnLettersModel", "says", "()I"⟩ ⟨"NamesOnLettersModel", "says", "()I"⟩ ∈ tblA := tbl_a (tbl_in7 (List.mem_of_getElem? (i := 227) (by decide +kernel))) (by decide +kernel)
theorem tw_7_229 : Cond.methodLink "NamesOnLettersModel" 349 ⟨"java/lang/Math", "abs", "(I)I"⟩ ∈ tblA := tbl_a (tbl_in7 (List.mem_of_getElem? (i := 229) (by decide +kernel))) (by decide +kernel)
theorem tw_7_230 : Cond.methodLink "NamesOnLettersLaw" 132 ⟨"NamesOnLettersModel", "child", "(I)I"⟩ ∈ tblA := tbl_a (tbl_in7 (List.mem_of_getElem? (i := 230) (by decide +kernel))) (by decide +kernel)
theorem tw_7_231 : Cond.instanceMethod ⟨"NamesOnLettersModel", "child", "(I)I"⟩ ∈ tblA := tbl_a (tbl_in7 (List.mem_of_getElem? (i := 231) (by decide +kernel))) (by decide +kernel)
theorem tw_7_232 : Cond.selects "NamesOnLettersModel" ⟨"NamesOnLettersModel", "child", "(I)I"⟩ ⟨"NamesOnLettersModel", "child", "(I)I"⟩ ∈ tblA := tbl_a (tbl_in7 (List.mem_of_getElem? (i := 232) (by decide +kernel))) (by decide +kernel)
theorem tw_7_234 : Cond.methodLink "NamesOnLettersLaw" 136 ⟨"NamesOnLettersModel", "table", "(II)I"⟩ ∈ tblA := tbl_a (tbl_in7 (List.mem_of_getElem? (i := 234) (by decide +kernel))) (by decide +kernel)
theorem tw_7_235 : Cond.instanceMethod ⟨"NamesOnLettersModel", "table", "(II)I"⟩ ∈ tblA := tbl_a (tbl_in7 (List.mem_of_getElem? (i := 235) (by decide +kernel))) (by decide +kernel)
theorem tw_7_236 : Cond.selects "NamesOnLettersModel" ⟨"NamesOnLettersModel", "table", "(II)I"⟩ ⟨"NamesOnLettersModel", "table", "(II)I"⟩ ∈ tblA := tbl_a (tbl_in7 (List.mem_of_getElem? (i := 236) (by decide +kernel))) (by decide +kernel)
theorem tw_7_238 : Cond.constantLong "NamesOnLettersModel" 357 (4) ∈ tblA := tbl_a (tbl_in7 (List.mem_of_getElem? (i := 238) (by decide +kernel))) (by decide +kernel)
theorem tw_7_239 : Cond.methodLink "NamesOnLettersModel" 359 ⟨"NamesOnLettersModel", "countsHouse", "(I)I"⟩ ∈ tblA := tbl_a (tbl_in7 (List.mem_of_getElem? (i := 239) (by decide +kernel))) (by decide +kernel)
theorem tw_8_1 : Cond.instanceMethod ⟨"NamesOnLettersModel", "countsHouse", "(I)I"⟩ ∈ tblA := tbl_a (tbl_in8 (List.mem_of_getElem? (i := 1) (by decide +kernel))) (by decide +kernel)
theorem tw_8_3 : Cond.methodLink "NamesOnLettersLaw" 141 ⟨"NamesOnLettersModel", "kind", "(III)Z"⟩ ∈ tblA := tbl_a (tbl_in8 (List.mem_of_getElem? (i := 3) (by decide +kernel))) (by decide +kernel)
theorem tw_8_4 : Cond.instanceMethod ⟨"NamesOnLettersModel", "kind", "(III)Z"⟩ ∈ tblA := tbl_a (tbl_in8 (List.mem_of_getElem? (i := 4) (by decide +kernel))) (by decide +kernel)
theorem tw_8_5 : Cond.selects "NamesOnLettersModel" ⟨"NamesOnLettersModel", "kind", "(III)Z"⟩ ⟨"NamesOnLettersModel", "kind", "(III)Z"⟩ ∈ tblA := tbl_a (tbl_in8 (List.mem_of_getElem? (i := 5) (by decide +kernel))) (by decide +kernel)
theorem tw_8_7 : Cond.methodLink "NamesOnLettersModel" 362 ⟨"NamesOnLettersModel", "isKind", "(I)Z"⟩ ∈ tblA := tbl_a (tbl_in8 (List.mem_of_getElem? (i := 7) (by decide +kernel))) (by decide +kernel)
theorem tw_8_8 : Cond.static ⟨"NamesOnLettersModel", "isKind", "(I)Z"⟩ ∈ tblA := tbl_a (tbl_in8 (List.mem_of_getElem? (i := 8) (by decide +kernel))) (by decide +kernel)
theorem tw_8_10 : Cond.constantLong "NamesOnLettersModel" 365 (100) ∈ tblA := tbl_a (tbl_in8 (List.mem_of_getElem? (i := 10) (by decide +kernel))) (by decide +kernel)
theorem tw_8_11 : Cond.methodLink "NamesOnLettersLaw" 145 ⟨"NamesOnLettersModel", "parts", "(II)I"⟩ ∈ tblA := tbl_a (tbl_in8 (List.mem_of_getElem? (i := 11) (by decide +kernel))) (by decide +kernel)
theorem tw_8_12 : Cond.instanceMethod ⟨"NamesOnLettersModel", "parts", "(II)I"⟩ ∈ tblA := tbl_a (tbl_in8 (List.mem_of_getElem? (i := 12) (by decide +kernel))) (by decide +kernel)
theorem tw_8_13 : Cond.selects "NamesOnLettersModel" ⟨"NamesOnLettersModel", "parts", "(II)I"⟩ ⟨"NamesOnLettersModel", "parts", "(II)I"⟩ ∈ tblA := tbl_a (tbl_in8 (List.mem_of_getElem? (i := 13) (by decide +kernel))) (by decide +kernel)
theorem tw_8_15 : Cond.methodLink "NamesOnLettersLaw" 149 ⟨"NamesOnLettersModel", "likely", "(II)I"⟩ ∈ tblA := tbl_a (tbl_in8 (List.mem_of_getElem? (i := 15) (by decide +kernel))) (by decide +kernel)
theorem tw_8_16 : Cond.instanceMethod ⟨"NamesOnLettersModel", "likely", "(II)I"⟩ ∈ tblA := tbl_a (tbl_in8 (List.mem_of_getElem? (i := 16) (by decide +kernel))) (by decide +kernel)
theorem tw_8_17 : Cond.selects "NamesOnLettersModel" ⟨"NamesOnLettersModel", "likely", "(II)I"⟩ ⟨"NamesOnLettersModel", "likely", "(II)I"⟩ ∈ tblA := tbl_a (tbl_in8 (List.mem_of_getElem? (i := 17) (by decide +kernel))) (by decide +kernel)
theorem tw_8_19 : Cond.methodLink "NamesOnLettersModel" 385 ⟨"NamesOnLettersModel", "allKinds", "()J"⟩ ∈ tblA := tbl_a (tbl_in8 (List.mem_of_getElem? (i := 19) (by decide +kernel))) (by decide +kernel)
theorem tw_8_21 : Cond.instanceMethod ⟨"NamesOnLettersModel", "allKinds", "()J"⟩ ∈ tblA := tbl_a (tbl_in8 (List.mem_of_getElem? (i := 21) (by decide +kernel))) (by decide +kernel)
theorem tw_8_23 : Cond.methodLink "NamesOnLettersModel" 380 ⟨"NamesOnLettersModel", "wouldBe", "(I)J"⟩ ∈ tblA := tbl_a (tbl_in8 (List.mem_of_getElem? (i := 23) (by decide +kernel))) (by decide +kernel)
theorem tw_8_25 : Cond.instanceMethod ⟨"NamesOnLettersModel", "wouldBe", "(I)J"⟩ ∈ tblA := tbl_a (tbl_in8 (List.mem_of_getElem? (i := 25) (by decide +kernel))) (by decide +kernel)
theorem tw_8_27 : Cond.methodLink "NamesOnLettersModel" 376 ⟨"NamesOnLettersModel", "powe\x72", "(JI)J"⟩ ∈ tblA := tbl_a (tbl_in8 (List.mem_of_getElem? (i := 27) (by decide +kernel))) (by decide +kernel)
theorem tw_8_28 : Cond.static ⟨"NamesOnLettersModel", "powe\x72", "(JI)J"⟩ ∈ tblA := tbl_a (tbl_in8 (List.mem_of_getElem? (i := 28) (by decide +kernel))) (by decide +kernel)
theorem tw_8_30 : Cond.methodLink "NamesOnLettersModel" 389 ⟨"NamesOnLettersModel", "likelyOf", "(I)J"⟩ ∈ tblA := tbl_a (tbl_in8 (List.mem_of_getElem? (i := 30) (by decide +kernel))) (by decide +kernel)
theorem tw_8_32 : Cond.instanceMethod ⟨"NamesOnLettersModel", "likelyOf", "(I)J"⟩ ∈ tblA := tbl_a (tbl_in8 (List.mem_of_getElem? (i := 32) (by decide +kernel))) (by decide +kernel)
theorem tw_8_34 : Cond.constant "NamesOnLettersModel" 384 (1000000) ∈ tblA := tbl_a (tbl_in8 (List.mem_of_getElem? (i := 34) (by decide +kernel))) (by decide +kernel)
theorem tw_8_35 : Cond.methodLink "NamesOnLettersLaw" 153 ⟨"NamesOnLettersModel", "fit", "()I"⟩ ∈ tblA := tbl_a (tbl_in8 (List.mem_of_getElem? (i := 35) (by decide +kernel))) (by decide +kernel)
theorem tw_8_36 : Cond.instanceMethod ⟨"NamesOnLettersModel", "fit", "()I"⟩ ∈ tblA := tbl_a (tbl_in8 (List.mem_of_getElem? (i := 36) (by decide +kernel))) (by decide +kernel)
theorem tw_8_37 : Cond.selects "NamesOnLettersModel" ⟨"NamesOnLettersModel", "fit", "()I"⟩ ⟨"NamesOnLettersModel", "fit", "()I"⟩ ∈ tblA := tbl_a (tbl_in8 (List.mem_of_getElem? (i := 37) (by decide +kernel))) (by decide +kernel)
theorem tw_8_39 : Cond.methodLink "NamesOnLettersModel" 400 ⟨"NamesOnLettersModel", "isSmall", "([II)V"⟩ ∈ tblA := tbl_a (tbl_in8 (List.mem_of_getElem? (i := 39) (by decide +kernel))) (by decide +kernel)
theorem tw_8_40 : Cond.static ⟨"NamesOnLettersModel", "isSmall", "([II)V"⟩ ∈ tblA := tbl_a (tbl_in8 (List.mem_of_getElem? (i := 40) (by decide +kernel))) (by decide +kernel)
theorem tw_8_42 : Cond.methodLink "NamesOnLettersModel" 410 ⟨"NamesOnLettersModel", "times", "([IJ)V"⟩ ∈ tblA := tbl_a (tbl_in8 (List.mem_of_getElem? (i := 42) (by decide +kernel))) (by decide +kernel)
theorem tw_8_43 : Cond.static ⟨"NamesOnLettersModel", "times", "([IJ)V"⟩ ∈ tblA := tbl_a (tbl_in8 (List.mem_of_getElem? (i := 43) (by decide +kernel))) (by decide +kernel)
theorem tw_8_45 : Cond.constantLong "NamesOnLettersModel" 392 (10000) ∈ tblA := tbl_a (tbl_in8 (List.mem_of_getElem? (i := 45) (by decide +kernel))) (by decide +kernel)
theorem tw_8_46 : Cond.methodLink "NamesOnLettersModel" 414 ⟨"NamesOnLettersModel", "comparesGreat", "([I[I)I"⟩ ∈ tblA := tbl_a (tbl_in8 (List.mem_of_getElem? (i := 46) (by decide +kernel))) (by decide +kernel)
theorem tw_8_47 : Cond.static ⟨"NamesOnLettersModel", "comparesGreat", "([I[I)I"⟩ ∈ tblA := tbl_a (tbl_in8 (List.mem_of_getElem? (i := 47) (by decide +kernel))) (by decide +kernel)
theorem tw_8_49 : Cond.methodLink "NamesOnLettersModel" 418 ⟨"NamesOnLettersModel", "becomes", "([I[I)V"⟩ ∈ tblA := tbl_a (tbl_in8 (List.mem_of_getElem? (i := 49) (by decide +kernel))) (by decide +kernel)
theorem tw_8_50 : Cond.static ⟨"NamesOnLettersModel", "becomes", "([I[I)V"⟩ ∈ tblA := tbl_a (tbl_in8 (List.mem_of_getElem? (i := 50) (by decide +kernel))) (by decide +kernel)
theorem tw_8_52 : Cond.methodLink "NamesOnLettersLaw" 157 ⟨"NamesOnLettersModel", "named", "(II)I"⟩ ∈ tblA := tbl_a (tbl_in8 (List.mem_of_getElem? (i := 52) (by decide +kernel))) (by decide +kernel)
theorem tw_8_53 : Cond.instanceMethod ⟨"NamesOnLettersModel", "named", "(II)I"⟩ ∈ tblA := tbl_a (tbl_in8 (List.mem_of_getElem? (i := 53) (by decide +kernel))) (by decide +kernel)
theorem tw_8_54 : Cond.selects "NamesOnLettersModel" ⟨"NamesOnLettersModel", "named", "(II)I"⟩ ⟨"NamesOnLettersModel", "named", "(II)I"⟩ ∈ tblA := tbl_a (tbl_in8 (List.mem_of_getElem? (i := 54) (by decide +kernel))) (by decide +kernel)
theorem tw_8_56 : Cond.constantLong "NamesOnLettersModel" 430 (15) ∈ tblA := tbl_a (tbl_in8 (List.mem_of_getElem? (i := 56) (by decide +kernel))) (by decide +kernel)
theorem tw_8_57 : Cond.constantLong "NamesOnLettersModel" 432 (1000000) ∈ tblA := tbl_a (tbl_in8 (List.mem_of_getElem? (i := 57) (by decide +kernel))) (by decide +kernel)
theorem tw_8_58 : Cond.methodLink "NamesOnLettersModel" 434 ⟨"NamesOnLettersModel", "likelies", "(I)V"⟩ ∈ tblA := tbl_a (tbl_in8 (List.mem_of_getElem? (i := 58) (by decide +kernel))) (by decide +kernel)
theorem tw_8_60 : Cond.instanceMethod ⟨"NamesOnLettersModel", "likelies", "(I)V"⟩ ∈ tblA := tbl_a (tbl_in8 (List.mem_of_getElem? (i := 60) (by decide +kernel))) (by decide +kernel)
theorem tw_8_62 : Cond.constantLong "NamesOnLettersModel" 428 (-1) ∈ tblA := tbl_a (tbl_in8 (List.mem_of_getElem? (i := 62) (by decide +kernel))) (by decide +kernel)
theorem tw_8_63 : Cond.methodLink "NamesOnLettersLaw" 161 ⟨"NamesOnLettersModel", "sure", "(II)I"⟩ ∈ tblA := tbl_a (tbl_in8 (List.mem_of_getElem? (i := 63) (by decide +kernel))) (by decide +kernel)
theorem tw_8_64 : Cond.instanceMethod ⟨"NamesOnLettersModel", "sure", "(II)I"⟩ ∈ tblA := tbl_a (tbl_in8 (List.mem_of_getElem? (i := 64) (by decide +kernel))) (by decide +kernel)
theorem tw_8_65 : Cond.selects "NamesOnLettersModel" ⟨"NamesOnLettersModel", "sure", "(II)I"⟩ ⟨"NamesOnLettersModel", "sure", "(II)I"⟩ ∈ tblA := tbl_a (tbl_in8 (List.mem_of_getElem? (i := 65) (by decide +kernel))) (by decide +kernel)
theorem tw_8_67 : Cond.constantLong "NamesOnLettersModel" 437 (24000000) ∈ tblA := tbl_a (tbl_in8 (List.mem_of_getElem? (i := 67) (by decide +kernel))) (by decide +kernel)
theorem tw_8_68 : Cond.methodLink "NamesOnLettersLaw" 165 ⟨"NamesOnLettersModel", "most", "()I"⟩ ∈ tblA := tbl_a (tbl_in8 (List.mem_of_getElem? (i := 68) (by decide +kernel))) (by decide +kernel)
theorem tw_8_69 : Cond.instanceMethod ⟨"NamesOnLettersModel", "most", "()I"⟩ ∈ tblA := tbl_a (tbl_in8 (List.mem_of_getElem? (i := 69) (by decide +kernel))) (by decide +kernel)
theorem tw_8_70 : Cond.selects "NamesOnLettersModel" ⟨"NamesOnLettersModel", "most", "()I"⟩ ⟨"NamesOnLettersModel", "most", "()I"⟩ ∈ tblA := tbl_a (tbl_in8 (List.mem_of_getElem? (i := 70) (by decide +kernel))) (by decide +kernel)
theorem tw_8_72 : Cond.methodLink "NamesOnLettersLaw" 169 ⟨"NamesOnLettersModel", "both", "(I)I"⟩ ∈ tblA := tbl_a (tbl_in8 (List.mem_of_getElem? (i := 72) (by decide +kernel))) (by decide +kernel)
theorem tw_8_73 : Cond.instanceMethod ⟨"NamesOnLettersModel", "both", "(I)I"⟩ ∈ tblA := tbl_a (tbl_in8 (List.mem_of_getElem? (i := 73) (by decide +kernel))) (by decide +kernel)
theorem tw_8_74 : Cond.selects "NamesOnLettersModel" ⟨"NamesOnLettersModel", "both", "(I)I"⟩ ⟨"NamesOnLettersModel", "both", "(I)I"⟩ ∈ tblA := tbl_a (tbl_in8 (List.mem_of_getElem? (i := 74) (by decide +kernel))) (by decide +kernel)
theorem tw_8_76 : Cond.methodLink "NamesOnLettersLaw" 173 ⟨"NamesOnLettersModel", "explains", "(I)I"⟩ ∈ tblA := tbl_a (tbl_in8 (List.mem_of_getElem? (i := 76) (by decide +kernel))) (by decide +kernel)
theorem tw_8_77 : Cond.instanceMethod ⟨"NamesOnLettersModel", "explains", "(I)I"⟩ ∈ tblA := tbl_a (tbl_in8 (List.mem_of_getElem? (i := 77) (by decide +kernel))) (by decide +kernel)
theorem tw_8_78 : Cond.selects "NamesOnLettersModel" ⟨"NamesOnLettersModel", "explains", "(I)I"⟩ ⟨"NamesOnLettersModel", "explains", "(I)I"⟩ ∈ tblA := tbl_a (tbl_in8 (List.mem_of_getElem? (i := 78) (by decide +kernel))) (by decide +kernel)
theorem tw_8_80 : Cond.methodLink "NamesOnLettersModel" 458 ⟨"NamesOnLettersModel", "countsBy", "(II)V"⟩ ∈ tblA := tbl_a (tbl_in8 (List.mem_of_getElem? (i := 80) (by decide +kernel))) (by decide +kernel)
theorem tw_8_82 : Cond.instanceMethod ⟨"NamesOnLettersModel", "countsBy", "(II)V"⟩ ∈ tblA := tbl_a (tbl_in8 (List.mem_of_getElem? (i := 82) (by decide +kernel))) (by decide +kernel)
theorem tw_8_84 : Cond.methodLink "NamesOnLettersModel" 448 ⟨"NamesOnLettersModel", "byWhat", "(II)I"⟩ ∈ tblA := tbl_a (tbl_in8 (List.mem_of_getElem? (i := 84) (by decide +kernel))) (by decide +kernel)
theorem tw_8_86 : Cond.instanceMethod ⟨"NamesOnLettersModel", "byWhat", "(II)I"⟩ ∈ tblA := tbl_a (tbl_in8 (List.mem_of_getElem? (i := 86) (by decide +kernel))) (by decide +kernel)
theorem tw_8_88 : Cond.methodLink "NamesOnLettersModel" 461 ⟨"NamesOnLettersModel", "sums", "(JJ)V"⟩ ∈ tblA := tbl_a (tbl_in8 (List.mem_of_getElem? (i := 88) (by decide +kernel))) (by decide +kernel)
theorem tw_8_90 : Cond.instanceMethod ⟨"NamesOnLettersModel", "sums", "(JJ)V"⟩ ∈ tblA := tbl_a (tbl_in8 (List.mem_of_getElem? (i := 90) (by decide +kernel))) (by decide +kernel)
theorem tw_8_92 : Cond.methodLink "NamesOnLettersLaw" 177 ⟨"NamesOnLettersModel", "join", "(I)I"⟩ ∈ tblA := tbl_a (tbl_in8 (List.mem_of_getElem? (i := 92) (by decide +kernel))) (by decide +kernel)
theorem tw_8_93 : Cond.instanceMethod ⟨"NamesOnLettersModel", "join", "(I)I"⟩ ∈ tblA := tbl_a (tbl_in8 (List.mem_of_getElem? (i := 93) (by decide +kernel))) (by decide +kernel)
theorem tw_8_94 : Cond.selects "NamesOnLettersModel" ⟨"NamesOnLettersModel", "join", "(I)I"⟩ ⟨"NamesOnLettersModel", "join", "(I)I"⟩ ∈ tblA := tbl_a (tbl_in8 (List.mem_of_getElem? (i := 94) (by decide +kernel))) (by decide +kernel)
theorem tw_8_96 : Cond.methodLink "NamesOnLettersLaw" 181 ⟨"NamesOnLettersModel", "bounds", "(I)I"⟩ ∈ tblA := tbl_a (tbl_in8 (List.mem_of_getElem? (i := 96) (by decide +kernel))) (by decide +kernel)
theorem tw_8_97 : Cond.instanceMethod ⟨"NamesOnLettersModel", "bounds", "(I)I"⟩ ∈ tblA := tbl_a (tbl_in8 (List.mem_of_getElem? (i := 97) (by decide +kernel))) (by decide +kernel)
theorem tw_8_98 : Cond.selects "NamesOnLettersModel" ⟨"NamesOnLettersModel", "bounds", "(I)I"⟩ ⟨"NamesOnLettersModel", "bounds", "(I)I"⟩ ∈ tblA := tbl_a (tbl_in8 (List.mem_of_getElem? (i := 98) (by decide +kernel))) (by decide +kernel)
theorem tw_8_100 : Cond.methodLink "NamesOnLettersLaw" 185 ⟨"NamesOnLettersModel", "years", "(I)I"⟩ ∈ tblA := tbl_a (tbl_in8 (List.mem_of_getElem? (i := 100) (by decide +kernel))) (by decide +kernel)
theorem tw_8_101 : Cond.instanceMethod ⟨"NamesOnLettersModel", "years", "(I)I"⟩ ∈ tblA := tbl_a (tbl_in8 (List.mem_of_getElem? (i := 101) (by decide +kernel))) (by decide +kernel)
theorem tw_8_102 : Cond.selects "NamesOnLettersModel" ⟨"NamesOnLettersModel", "years", "(I)I"⟩ ⟨"NamesOnLettersModel", "years", "(I)I"⟩ ∈ tblA := tbl_a (tbl_in8 (List.mem_of_getElem? (i := 102) (by decide +kernel))) (by decide +kernel)
theorem tw_8_104 : Cond.methodLink "NamesOnLettersModel" 464 ⟨"NamesOnLettersModel", "countsWorth", "(II)V"⟩ ∈ tblA := tbl_a (tbl_in8 (List.mem_of_getElem? (i := 104) (by decide +kernel))) (by decide +kernel)
theorem tw_8_106 : Cond.instanceMethod ⟨"NamesOnLettersModel", "countsWorth", "(II)V"⟩ ∈ tblA := tbl_a (tbl_in8 (List.mem_of_getElem? (i := 106) (by decide +kernel))) (by decide +kernel)
theorem tw_8_108 : Cond.methodLink "NamesOnLettersLaw" 189 ⟨"NamesOnLettersModel", "mornings", "(III)I"⟩ ∈ tblA := tbl_a (tbl_in8 (List.mem_of_getElem? (i := 108) (by decide +kernel))) (by decide +kernel)
theorem tw_8_109 : Cond.instanceMethod ⟨"NamesOnLettersModel", "mornings", "(III)I"⟩ ∈ tblA := tbl_a (tbl_in8 (List.mem_of_getElem? (i := 109) (by decide +kernel))) (by decide +kernel)
theorem tw_8_110 : Cond.selects "NamesOnLettersModel" ⟨"NamesOnLettersModel", "mornings", "(III)I"⟩ ⟨"NamesOnLettersModel", "mornings", "(III)I"⟩ ∈ tblA := tbl_a (tbl_in8 (List.mem_of_getElem? (i := 110) (by decide +kernel))) (by decide +kernel)
theorem tw_8_112 : Cond.constantLong "NamesOnLettersModel" 467 (999) ∈ tblA := tbl_a (tbl_in8 (List.mem_of_getElem? (i := 112) (by decide +kernel))) (by decide +kernel)
theorem tw_8_113 : Cond.methodLink "NamesOnLettersLaw" 193 ⟨"NamesOnLettersModel", "asked", "(III)I"⟩ ∈ tblA := tbl_a (tbl_in8 (List.mem_of_getElem? (i := 113) (by decide +kernel))) (by decide +kernel)
theorem tw_8_114 : Cond.instanceMethod ⟨"NamesOnLettersModel", "asked", "(III)I"⟩ ∈ tblA := tbl_a (tbl_in8 (List.mem_of_getElem? (i := 114) (by decide +kernel))) (by decide +kernel)
theorem tw_8_115 : Cond.selects "NamesOnLettersModel" ⟨"NamesOnLettersModel", "asked", "(III)I"⟩ ⟨"NamesOnLettersModel", "asked", "(III)I"⟩ ∈ tblA := tbl_a (tbl_in8 (List.mem_of_getElem? (i := 115) (by decide +kernel))) (by decide +kernel)
theorem tw_8_117 : Cond.methodLink "NamesOnLettersLaw" 197 ⟨"NamesOnLettersModel", "pairs", "()I"⟩ ∈ tblA := tbl_a (tbl_in8 (List.mem_of_getElem? (i := 117) (by decide +kernel))) (by decide +kernel)
theorem tw_8_118 : Cond.instanceMethod ⟨"NamesOnLettersModel", "pairs", "()I"⟩ ∈ tblA := tbl_a (tbl_in8 (List.mem_of_getElem? (i := 118) (by decide +kernel))) (by decide +kernel)
theorem tw_8_119 : Cond.selects "NamesOnLettersModel" ⟨"NamesOnLettersModel", "pairs", "()I"⟩ ⟨"NamesOnLettersModel", "pairs", "()I"⟩ ∈ tblA := tbl_a (tbl_in8 (List.mem_of_getElem? (i := 119) (by decide +kernel))) (by decide +kernel)
theorem tw_8_121 : Cond.methodLink "NamesOnLettersModel" 488 ⟨"NamesOnLettersModel", "against", "(I)I"⟩ ∈ tblA := tbl_a (tbl_in8 (List.mem_of_getElem? (i := 121) (by decide +kernel))) (by decide +kernel)
theorem tw_8_123 : Cond.instanceMethod ⟨"NamesOnLettersModel", "against", "(I)I"⟩ ∈ tblA := tbl_a (tbl_in8 (List.mem_of_getElem? (i := 123) (by decide +kernel))) (by decide +kernel)
theorem tw_8_125 : Cond.methodLink "NamesOnLettersModel" 484 ⟨"NamesOnLettersModel", "isAgainst", "(IIII)Z"⟩ ∈ tblA := tbl_a (tbl_in8 (List.mem_of_getElem? (i := 125) (by decide +kernel))) (by decide +kernel)
theorem tw_8_127 : Cond.instanceMethod ⟨"NamesOnLettersModel", "isAgainst", "(IIII)Z"⟩ ∈ tblA := tbl_a (tbl_in8 (List.mem_of_getElem? (i := 127) (by decide +kernel))) (by decide +kernel)
theorem tw_8_129 : Cond.methodLink "NamesOnLettersModel" 481 ⟨"NamesOnLettersModel", "countsNone", "()V"⟩ ∈ tblA := tbl_a (tbl_in8 (List.mem_of_getElem? (i := 129) (by decide +kernel))) (by decide +kernel)
theorem tw_8_131 : Cond.instanceMethod ⟨"NamesOnLettersModel", "countsNone", "()V"⟩ ∈ tblA := tbl_a (tbl_in8 (List.mem_of_getElem? (i := 131) (by decide +kernel))) (by decide +kernel)
theorem tw_8_133 : Cond.methodLink "NamesOnLettersModel" 491 ⟨"NamesOnLettersModel", "couldBe", "(I)I"⟩ ∈ tblA := tbl_a (tbl_in8 (List.mem_of_getElem? (i := 133) (by decide +kernel))) (by decide +kernel)
theorem tw_8_135 : Cond.instanceMethod ⟨"NamesOnLettersModel", "couldBe", "(I)I"⟩ ∈ tblA := tbl_a (tbl_in8 (List.mem_of_getElem? (i := 135) (by decide +kernel))) (by decide +kernel)
theorem tw_8_137 : Cond.methodLink "NamesOnLettersLaw" 201 ⟨"NamesOnLettersModel", "ask", "()I"⟩ ∈ tblA := tbl_a (tbl_in8 (List.mem_of_getElem? (i := 137) (by decide +kernel))) (by decide +kernel)
theorem tw_8_138 : Cond.instanceMethod ⟨"NamesOnLettersModel", "ask", "()I"⟩ ∈ tblA := tbl_a (tbl_in8 (List.mem_of_getElem? (i := 138) (by decide +kernel))) (by decide +kernel)
theorem tw_8_139 : Cond.selects "NamesOnLettersModel" ⟨"NamesOnLettersModel", "ask", "()I"⟩ ⟨"NamesOnLettersModel", "ask", "()I"⟩ ∈ tblA := tbl_a (tbl_in8 (List.mem_of_getElem? (i := 139) (by decide +kernel))) (by decide +kernel)
theorem tw_8_141 : Cond.methodLink "NamesOnLettersLaw" 205 ⟨"NamesOnLettersModel", "nearly", "(I)I"⟩ ∈ tblA := tbl_a (tbl_in8 (List.mem_of_getElem? (i := 141) (by decide +kernel))) (by decide +kernel)
theorem tw_8_142 : Cond.instanceMethod ⟨"NamesOnLettersModel", "nearly", "(I)I"⟩ ∈ tblA := tbl_a (tbl_in8 (List.mem_of_getElem? (i := 142) (by decide +kernel))) (by decide +kernel)
theorem tw_8_143 : Cond.selects "NamesOnLettersModel" ⟨"NamesOnLettersModel", "nearly", "(I)I"⟩ ⟨"NamesOnLettersModel", "nearly", "(I)I"⟩ ∈ tblA := tbl_a (tbl_in8 (List.mem_of_getElem? (i := 143) (by decide +kernel))) (by decide +kernel)
theorem tw_8_145 : Cond.constantLong "NamesOnLettersModel" 494 (40) ∈ tblA := tbl_a (tbl_in8 (List.mem_of_getElem? (i := 145) (by decide +kernel))) (by decide +kernel)
theorem tw_8_146 : Cond.methodLink "NamesOnLettersLaw" 209 ⟨"NamesOnLettersModel", "shows", "(IIII)I"⟩ ∈ tblA := tbl_a (tbl_in8 (List.mem_of_getElem? (i := 146) (by decide +kernel))) (by decide +kernel)
theorem tw_8_147 : Cond.instanceMethod ⟨"NamesOnLettersModel", "shows", "(IIII)I"⟩ ∈ tblA := tbl_a (tbl_in8 (List.mem_of_getElem? (i := 147) (by decide +kernel))) (by decide +kernel)
theorem tw_8_148 : Cond.selects "NamesOnLettersModel" ⟨"NamesOnLettersModel", "shows", "(IIII)I"⟩ ⟨"NamesOnLettersModel", "shows", "(IIII)I"⟩ ∈ tblA := tbl_a (tbl_in8 (List.mem_of_getElem? (i := 148) (by decide +kernel))) (by decide +kernel)
theorem tw_8_150 : Cond.constantLong "NamesOnLettersModel" 516 (16) ∈ tblA := tbl_a (tbl_in8 (List.mem_of_getElem? (i := 150) (by decide +kernel))) (by decide +kernel)
theorem tw_8_151 : Cond.methodLink "NamesOnLettersModel" 518 ⟨"NamesOnLettersModel", "isPercent", "(I)Z"⟩ ∈ tblA := tbl_a (tbl_in8 (List.mem_of_getElem? (i := 151) (by decide +kernel))) (by decide +kernel)
theorem tw_8_152 : Cond.static ⟨"NamesOnLettersModel", "isPercent", "(I)Z"⟩ ∈ tblA := tbl_a (tbl_in8 (List.mem_of_getElem? (i := 152) (by decide +kernel))) (by decide +kernel)
theorem tw_8_154 : Cond.methodLink "NamesOnLettersModel" 521 ⟨"NamesOnLettersModel", "chances", "(III)V"⟩ ∈ tblA := tbl_a (tbl_in8 (List.mem_of_getElem? (i := 154) (by decide +kernel))) (by decide +kernel)
theorem tw_8_156 : Cond.instanceMethod ⟨"NamesOnLettersModel", "chances", "(III)V"⟩ ∈ tblA := tbl_a (tbl_in8 (List.mem_of_getElem? (i := 156) (by decide +kernel))) (by decide +kernel)
theorem tw_8_158 : Cond.methodLink "NamesOnLettersModel" 502 ⟨"NamesOnLettersModel", "powers", "(III)V"⟩ ∈ tblA := tbl_a (tbl_in8 (List.mem_of_getElem? (i := 158) (by decide +kernel))) (by decide +kernel)
theorem tw_8_160 : Cond.instanceMethod ⟨"NamesOnLettersModel", "powers", "(III)V"⟩ ∈ tblA := tbl_a (tbl_in8 (List.mem_of_getElem? (i := 160) (by decide +kernel))) (by decide +kernel)
theorem tw_8_162 : Cond.methodLink "NamesOnLettersModel" 506 ⟨"NamesOnLettersModel", "adds", "([I[I)V"⟩ ∈ tblA := tbl_a (tbl_in8 (List.mem_of_getElem? (i := 162) (by decide +kernel))) (by decide +kernel)
theorem tw_8_163 : Cond.static ⟨"NamesOnLettersModel", "adds", "([I[I)V"⟩ ∈ tblA := tbl_a (tbl_in8 (List.mem_of_getElem? (i := 163) (by decide +kernel))) (by decide +kernel)
theorem tw_8_165 : Cond.methodLink "NamesOnLettersModel" 509 ⟨"NamesOnLettersModel", "laysAt", "(I[I)V"⟩ ∈ tblA := tbl_a (tbl_in8 (List.mem_of_getElem? (i := 165) (by decide +kernel))) (by decide +kernel)
theorem tw_8_167 : Cond.instanceMethod ⟨"NamesOnLettersModel", "laysAt", "(I[I)V"⟩ ∈ tblA := tbl_a (tbl_in8 (List.mem_of_getElem? (i := 167) (by decide +kernel))) (by decide +kernel)
theorem tw_8_169 : Cond.methodLink "NamesOnLettersModel" 513 ⟨"NamesOnLettersModel", "takesFrom", "(I[I)V"⟩ ∈ tblA := tbl_a (tbl_in8 (List.mem_of_getElem? (i := 169) (by decide +kernel))) (by decide +kernel)
theorem tw_8_171 : Cond.instanceMethod ⟨"NamesOnLettersModel", "takesFrom", "(I[I)V"⟩ ∈ tblA := tbl_a (tbl_in8 (List.mem_of_getElem? (i := 171) (by decide +kernel))) (by decide +kernel)
theorem tw_8_173 : Cond.methodLink "NamesOnLettersModel" 524 ⟨"NamesOnLettersModel", "chanceOf", "(II)I"⟩ ∈ tblA := tbl_a (tbl_in8 (List.mem_of_getElem? (i := 173) (by decide +kernel))) (by decide +kernel)
theorem tw_8_175 : Cond.instanceMethod ⟨"NamesOnLettersModel", "chanceOf", "(II)I"⟩ ∈ tblA := tbl_a (tbl_in8 (List.mem_of_getElem? (i := 175) (by decide +kernel))) (by decide +kernel)
theorem tw_8_177 : Cond.methodLink "NamesOnLettersLaw" 213 ⟨"NamesOnLettersModel", "least", "(IIII)I"⟩ ∈ tblA := tbl_a (tbl_in8 (List.mem_of_getElem? (i := 177) (by decide +kernel))) (by decide +kernel)
theorem tw_8_178 : Cond.instanceMethod ⟨"NamesOnLettersModel", "least", "(IIII)I"⟩ ∈ tblA := tbl_a (tbl_in8 (List.mem_of_getElem? (i := 178) (by decide +kernel))) (by decide +kernel)
theorem tw_8_179 : Cond.selects "NamesOnLettersModel" ⟨"NamesOnLettersModel", "least", "(IIII)I"⟩ ⟨"NamesOnLettersModel", "least", "(IIII)I"⟩ ∈ tblA := tbl_a (tbl_in8 (List.mem_of_getElem? (i := 179) (by decide +kernel))) (by decide +kernel)
theorem tw_8_181 : Cond.methodLink "NamesOnLettersLaw" 217 ⟨"NamesOnLettersModel", "keep", "(I)Z"⟩ ∈ tblA := tbl_a (tbl_in8 (List.mem_of_getElem? (i := 181) (by decide +kernel))) (by decide +kernel)
theorem tw_8_182 : Cond.instanceMethod ⟨"NamesOnLettersModel", "keep", "(I)Z"⟩ ∈ tblA := tbl_a (tbl_in8 (List.mem_of_getElem? (i := 182) (by decide +kernel))) (by decide +kernel)
theorem tw_8_183 : Cond.selects "NamesOnLettersModel" ⟨"NamesOnLettersModel", "keep", "(I)Z"⟩ ⟨"NamesOnLettersModel", "keep", "(I)Z"⟩ ∈ tblA := tbl_a (tbl_in8 (List.mem_of_getElem? (i := 183) (by decide +kernel))) (by decide +kernel)
theorem tw_8_185 : Cond.methodLink "NamesOnLettersLaw" 221 ⟨"NamesOnLettersModel", "again", "(I)Z"⟩ ∈ tblA := tbl_a (tbl_in8 (List.mem_of_getElem? (i := 185) (by decide +kernel))) (by decide +kernel)
theorem tw_8_186 : Cond.instanceMethod ⟨"NamesOnLettersModel", "again", "(I)Z"⟩ ∈ tblA := tbl_a (tbl_in8 (List.mem_of_getElem? (i := 186) (by decide +kernel))) (by decide +kernel)
theorem tw_8_187 : Cond.selects "NamesOnLettersModel" ⟨"NamesOnLettersModel", "again", "(I)Z"⟩ ⟨"NamesOnLettersModel", "again", "(I)Z"⟩ ∈ tblA := tbl_a (tbl_in8 (List.mem_of_getElem? (i := 187) (by decide +kernel))) (by decide +kernel)
theorem tw_8_189 : Cond.methodLink "NamesOnLettersLaw" 225 ⟨"NamesOnLettersModel", "count", "(I)I"⟩ ∈ tblA := tbl_a (tbl_in8 (List.mem_of_getElem? (i := 189) (by decide +kernel))) (by decide +kernel)
theorem tw_8_190 : Cond.instanceMethod ⟨"NamesOnLettersModel", "count", "(I)I"⟩ ∈ tblA := tbl_a (tbl_in8 (List.mem_of_getElem? (i := 190) (by decide +kernel))) (by decide +kernel)
theorem tw_8_191 : Cond.selects "NamesOnLettersModel" ⟨"NamesOnLettersModel", "count", "(I)I"⟩ ⟨"NamesOnLettersModel", "count", "(I)I"⟩ ∈ tblA := tbl_a (tbl_in8 (List.mem_of_getElem? (i := 191) (by decide +kernel))) (by decide +kernel)
theorem tw_8_193 : Cond.methodLink "NamesOnLettersModel" 539 ⟨"NamesOnLettersModel", "rungMany", "()I"⟩ ∈ tblA := tbl_a (tbl_in8 (List.mem_of_getElem? (i := 193) (by decide +kernel))) (by decide +kernel)
theorem tw_8_195 : Cond.instanceMethod ⟨"NamesOnLettersModel", "rungMany", "()I"⟩ ∈ tblA := tbl_a (tbl_in8 (List.mem_of_getElem? (i := 195) (by decide +kernel))) (by decide +kernel)
theorem tw_8_197 : Cond.methodLink "NamesOnLettersModel" 542 ⟨"NamesOnLettersModel", "toldBits", "(I)I"⟩ ∈ tblA := tbl_a (tbl_in8 (List.mem_of_getElem? (i := 197) (by decide +kernel))) (by decide +kernel)
theorem tw_8_199 : Cond.instanceMethod ⟨"NamesOnLettersModel", "toldBits", "(I)I"⟩ ∈ tblA := tbl_a (tbl_in8 (List.mem_of_getElem? (i := 199) (by decide +kernel))) (by decide +kernel)
theorem tw_8_201 : Cond.classLink "NamesOnLettersLaw" 23 "NamesOnLettersModel" ∈ tblA := tbl_a (tbl_in8 (List.mem_of_getElem? (i := 201) (by decide +kernel))) (by decide +kernel)
theorem tw_8_202 : Cond.methodLink "NamesOnLettersLaw" 25 ⟨"NamesOnLettersModel", "<init>", "()V"⟩ ∈ tblA := tbl_a (tbl_in8 (List.mem_of_getElem? (i := 202) (by decide +kernel))) (by decide +kernel)
theorem tw_8_203 : Cond.instanceMethod ⟨"NamesOnLettersModel", "<init>", "()V"⟩ ∈ tblA := tbl_a (tbl_in8 (List.mem_of_getElem? (i := 203) (by decide +kernel))) (by decide +kernel)
theorem tw_8_205 : Cond.methodLink "NamesOnLettersModel" 545 ⟨"java/lang/Object", "<init>", "()V"⟩ ∈ tblA := tbl_a (tbl_in8 (List.mem_of_getElem? (i := 205) (by decide +kernel))) (by decide +kernel)
theorem tw_8_206 : Cond.fieldLink "NamesOnLettersModel" 3 "NamesOnLettersModel" "thrown" "I" ∈ tblA := tbl_a (tbl_in8 (List.mem_of_getElem? (i := 206) (by decide +kernel))) (by decide +kernel)
theorem tw_8_207 : Cond.fieldLink "NamesOnLettersModel" 11 "NamesOnLettersModel" "rows" "I" ∈ tblA := tbl_a (tbl_in8 (List.mem_of_getElem? (i := 207) (by decide +kernel))) (by decide +kernel)
theorem tw_8_208 : Cond.fieldLink "NamesOnLettersModel" 7 "NamesOnLettersModel" "row" "[J" ∈ tblA := tbl_a (tbl_in8 (List.mem_of_getElem? (i := 208) (by decide +kernel))) (by decide +kernel)
theorem tw_8_209 : Cond.fieldLink "NamesOnLettersModel" 26 "NamesOnLettersModel" "nameMany" "I" ∈ tblA := tbl_a (tbl_in8 (List.mem_of_getElem? (i := 209) (by decide +kernel))) (by decide +kernel)
theorem tw_8_210 : Cond.fieldLink "NamesOnLettersModel" 41 "NamesOnLettersModel" "people" "[I" ∈ tblA := tbl_a (tbl_in8 (List.mem_of_getElem? (i := 210) (by decide +kernel))) (by decide +kernel)
theorem tw_8_211 : Cond.fieldLink "NamesOnLettersModel" 45 "NamesOnLettersModel" "sex" "[I" ∈ tblA := tbl_a (tbl_in8 (List.mem_of_getElem? (i := 211) (by decide +kernel))) (by decide +kernel)
theorem tw_8_212 : Cond.fieldLink "NamesOnLettersModel" 48 "NamesOnLettersModel" "childOf" "[I" ∈ tblA := tbl_a (tbl_in8 (List.mem_of_getElem? (i := 212) (by decide +kernel))) (by decide +kernel)
theorem tw_8_213 : Cond.fieldLink "NamesOnLettersModel" 51 "NamesOnLettersModel" "takenFo\x72" "[I" ∈ tblA := tbl_a (tbl_in8 (List.mem_of_getElem? (i := 213) (by decide +kernel))) (by decide +kernel)
theorem tw_8_214 : Cond.fieldLink "NamesOnLettersModel" 33 "NamesOnLettersModel" "houseMany" "I" ∈ tblA := tbl_a (tbl_in8 (List.mem_of_getElem? (i := 214) (by decide +kernel))) (by decide +kernel)
theorem tw_8_215 : Cond.fieldLink "NamesOnLettersModel" 58 "NamesOnLettersModel" "trade" "[I" ∈ tblA := tbl_a (tbl_in8 (List.mem_of_getElem? (i := 215) (by decide +kernel))) (by decide +kernel)
theorem tw_8_216 : Cond.fieldLink "NamesOnLettersModel" 61 "NamesOnLettersModel" "town" "[I" ∈ tblA := tbl_a (tbl_in8 (List.mem_of_getElem? (i := 216) (by decide +kernel))) (by decide +kernel)
theorem tw_8_217 : Cond.fieldLink "NamesOnLettersModel" 64 "NamesOnLettersModel" "lawOf" "[I" ∈ tblA := tbl_a (tbl_in8 (List.mem_of_getElem? (i := 217) (by decide +kernel))) (by decide +kernel)
theorem tw_8_218 : Cond.fieldLink "NamesOnLettersModel" 36 "NamesOnLettersModel" "letterMany" "I" ∈ tblA := tbl_a (tbl_in8 (List.mem_of_getElem? (i := 218) (by decide +kernel))) (by decide +kernel)
theorem tw_8_219 : Cond.fieldLink "NamesOnLettersModel" 67 "NamesOnLettersModel" "houseOf" "[I" ∈ tblA := tbl_a (tbl_in8 (List.mem_of_getElem? (i := 219) (by decide +kernel))) (by decide +kernel)
theorem tw_8_220 : Cond.fieldLink "NamesOnLettersModel" 74 "NamesOnLettersModel" "nameOf" "[I" ∈ tblA := tbl_a (tbl_in8 (List.mem_of_getElem? (i := 220) (by decide +kernel))) (by decide +kernel)
theorem tw_8_221 : Cond.fieldLink "NamesOnLettersModel" 77 "NamesOnLettersModel" "worth" "[I" ∈ tblA := tbl_a (tbl_in8 (List.mem_of_getElem? (i := 221) (by decide +kernel))) (by decide +kernel)
theorem tw_8_222 : Cond.fieldLink "NamesOnLettersModel" 80 "NamesOnLettersModel" "errors" "[I" ∈ tblA := tbl_a (tbl_in8 (List.mem_of_getElem? (i := 222) (by decide +kernel))) (by decide +kernel)
theorem tw_8_223 : Cond.fieldLink "NamesOnLettersModel" 83 "NamesOnLettersModel" "street" "[I" ∈ tblA := tbl_a (tbl_in8 (List.mem_of_getElem? (i := 223) (by decide +kernel))) (by decide +kernel)
theorem tw_8_224 : Cond.fieldLink "NamesOnLettersModel" 86 "NamesOnLettersModel" "day" "[I" ∈ tblA := tbl_a (tbl_in8 (List.mem_of_getElem? (i := 224) (by decide +kernel))) (by decide +kernel)
theorem tw_8_225 : Cond.fieldLink "NamesOnLettersModel" 89 "NamesOnLettersModel" "isRead" "[Z" ∈ tblA := tbl_a (tbl_in8 (List.mem_of_getElem? (i := 225) (by decide +kernel))) (by decide +kernel)
theorem tw_8_226 : Cond.fieldLink "NamesOnLettersModel" 93 "NamesOnLettersModel" "isRung" "[Z" ∈ tblA := tbl_a (tbl_in8 (List.mem_of_getElem? (i := 226) (by decide +kernel))) (by decide +kernel)
theorem tw_8_227 : Cond.fieldLink "NamesOnLettersModel" 96 "NamesOnLettersModel" "afterwards" "[I" ∈ tblA := tbl_a (tbl_in8 (List.mem_of_getElem? (i := 227) (by decide +kernel))) (by decide +kernel)
theorem tw_8_228 : Cond.fieldLink "NamesOnLettersModel" 22 "NamesOnLettersModel" "random" "I" ∈ tblA := tbl_a (tbl_in8 (List.mem_of_getElem? (i := 228) (by decide +kernel))) (by decide +kernel)
theorem tw_8_229 : Cond.fieldLink "NamesOnLettersModel" 124 "NamesOnLettersModel" "often" "[I" ∈ tblA := tbl_a (tbl_in8 (List.mem_of_getElem? (i := 229) (by decide +kernel))) (by decide +kernel)
theorem tw_8_230 : Cond.fieldLink "NamesOnLettersModel" 165 "NamesOnLettersModel" "code" "[I" ∈ tblA := tbl_a (tbl_in8 (List.mem_of_getElem? (i := 230) (by decide +kernel))) (by decide +kernel)
theorem tw_8_231 : Cond.fieldLink "NamesOnLettersModel" 168 "NamesOnLettersModel" "codes" "[I" ∈ tblA := tbl_a (tbl_in8 (List.mem_of_getElem? (i := 231) (by decide +kernel))) (by decide +kernel)
theorem tw_8_232 : Cond.fieldLink "NamesOnLettersModel" 241 "NamesOnLettersModel" "stack" "[I" ∈ tblA := tbl_a (tbl_in8 (List.mem_of_getElem? (i := 232) (by decide +kernel))) (by decide +kernel)
theorem tw_8_233 : Cond.fieldLink "NamesOnLettersModel" 143 "NamesOnLettersModel" "tape" "[I" ∈ tblA := tbl_a (tbl_in8 (List.mem_of_getElem? (i := 233) (by decide +kernel))) (by decide +kernel)
theorem tw_8_234 : Cond.fieldLink "NamesOnLettersModel" 140 "NamesOnLettersModel" "taped" "I" ∈ tblA := tbl_a (tbl_in8 (List.mem_of_getElem? (i := 234) (by decide +kernel))) (by decide +kernel)
theorem tw_8_235 : Cond.fieldLink "NamesOnLettersModel" 146 "NamesOnLettersModel" "at" "I" ∈ tblA := tbl_a (tbl_in8 (List.mem_of_getElem? (i := 235) (by decide +kernel))) (by decide +kernel)
theorem tw_8_236 : Cond.fieldLink "NamesOnLettersModel" 149 "NamesOnLettersModel" "to" "I" ∈ tblA := tbl_a (tbl_in8 (List.mem_of_getElem? (i := 236) (by decide +kernel))) (by decide +kernel)
theorem tw_8_237 : Cond.fieldLink "NamesOnLettersModel" 193 "NamesOnLettersModel" "open" "I" ∈ tblA := tbl_a (tbl_in8 (List.mem_of_getElem? (i := 237) (by decide +kernel))) (by decide +kernel)
theorem tw_8_238 : Cond.fieldLink "NamesOnLettersModel" 179 "NamesOnLettersModel" "isLaw" "Z" ∈ tblA := tbl_a (tbl_in8 (List.mem_of_getElem? (i := 238) (by decide +kernel))) (by decide +kernel)
theorem tw_8_239 : Cond.fieldLink "NamesOnLettersModel" 229 "NamesOnLettersModel" "rungTill" "I" ∈ tblA := tbl_a (tbl_in8 (List.mem_of_getElem? (i := 239) (by decide +kernel))) (by decide +kernel)
theorem tw_9_0 : Cond.fieldLink "NamesOnLettersModel" 232 "NamesOnLettersModel" "readTill" "I" ∈ tblA := tbl_a (tbl_in9 (List.mem_of_getElem? (i := 0) (by decide +kernel))) (by decide +kernel)
theorem tw_9_1 : Cond.fieldLink "NamesOnLettersModel" 235 "NamesOnLettersModel" "worthTill" "I" ∈ tblA := tbl_a (tbl_in9 (List.mem_of_getElem? (i := 1) (by decide +kernel))) (by decide +kernel)
theorem tw_9_2 : Cond.fieldLink "NamesOnLettersModel" 263 "NamesOnLettersModel" "n" "[I" ∈ tblA := tbl_a (tbl_in9 (List.mem_of_getElem? (i := 2) (by decide +kernel))) (by decide +kernel)
theorem tw_9_3 : Cond.fieldLink "NamesOnLettersModel" 266 "NamesOnLettersModel" "\x72" "[I" ∈ tblA := tbl_a (tbl_in9 (List.mem_of_getElem? (i := 3) (by decide +kernel))) (by decide +kernel)
theorem tw_9_4 : Cond.fieldLink "NamesOnLettersModel" 290 "NamesOnLettersModel" "ways" "[J" ∈ tblA := tbl_a (tbl_in9 (List.mem_of_getElem? (i := 4) (by decide +kernel))) (by decide +kernel)
theorem tw_9_5 : Cond.fieldLink "NamesOnLettersModel" 297 "NamesOnLettersModel" "waysNext" "[J" ∈ tblA := tbl_a (tbl_in9 (List.mem_of_getElem? (i := 5) (by decide +kernel))) (by decide +kernel)
theorem tw_9_6 : Cond.fieldLink "NamesOnLettersModel" 307 "NamesOnLettersModel" "nameLetters" "[I" ∈ tblA := tbl_a (tbl_in9 (List.mem_of_getElem? (i := 6) (by decide +kernel))) (by decide +kernel)
theorem tw_9_7 : Cond.fieldLink "NamesOnLettersModel" 310 "NamesOnLettersModel" "nameRung" "[I" ∈ tblA := tbl_a (tbl_in9 (List.mem_of_getElem? (i := 7) (by decide +kernel))) (by decide +kernel)
theorem tw_9_8 : Cond.fieldLink "NamesOnLettersModel" 328 "NamesOnLettersModel" "oneWay" "I" ∈ tblA := tbl_a (tbl_in9 (List.mem_of_getElem? (i := 8) (by decide +kernel))) (by decide +kernel)
theorem tw_9_9 : Cond.fieldLink "NamesOnLettersModel" 331 "NamesOnLettersModel" "otherWay" "I" ∈ tblA := tbl_a (tbl_in9 (List.mem_of_getElem? (i := 9) (by decide +kernel))) (by decide +kernel)
theorem tw_9_10 : Cond.fieldLink "NamesOnLettersModel" 334 "NamesOnLettersModel" "alike" "I" ∈ tblA := tbl_a (tbl_in9 (List.mem_of_getElem? (i := 10) (by decide +kernel))) (by decide +kernel)
theorem tw_9_11 : Cond.fieldLink "NamesOnLettersModel" 367 "NamesOnLettersModel" "ringsZero" "[I" ∈ tblA := tbl_a (tbl_in9 (List.mem_of_getElem? (i := 11) (by decide +kernel))) (by decide +kernel)
theorem tw_9_12 : Cond.fieldLink "NamesOnLettersModel" 370 "NamesOnLettersModel" "ringsOne" "[I" ∈ tblA := tbl_a (tbl_in9 (List.mem_of_getElem? (i := 12) (by decide +kernel))) (by decide +kernel)
theorem tw_9_13 : Cond.fieldLink "NamesOnLettersModel" 373 "NamesOnLettersModel" "part" "[I" ∈ tblA := tbl_a (tbl_in9 (List.mem_of_getElem? (i := 13) (by decide +kernel))) (by decide +kernel)
theorem tw_9_14 : Cond.fieldLink "NamesOnLettersModel" 351 "NamesOnLettersModel" "readTo" "[I" ∈ tblA := tbl_a (tbl_in9 (List.mem_of_getElem? (i := 14) (by decide +kernel))) (by decide +kernel)
theorem tw_9_15 : Cond.fieldLink "NamesOnLettersModel" 354 "NamesOnLettersModel" "rungTo" "[I" ∈ tblA := tbl_a (tbl_in9 (List.mem_of_getElem? (i := 15) (by decide +kernel))) (by decide +kernel)
theorem tw_9_16 : Cond.fieldLink "NamesOnLettersModel" 407 "NamesOnLettersModel" "great" "[I" ∈ tblA := tbl_a (tbl_in9 (List.mem_of_getElem? (i := 16) (by decide +kernel))) (by decide +kernel)
theorem tw_9_17 : Cond.fieldLink "NamesOnLettersModel" 397 "NamesOnLettersModel" "greatest" "[I" ∈ tblA := tbl_a (tbl_in9 (List.mem_of_getElem? (i := 17) (by decide +kernel))) (by decide +kernel)
theorem tw_9_18 : Cond.fieldLink "NamesOnLettersModel" 394 "NamesOnLettersModel" "wouldOf" "[J" ∈ tblA := tbl_a (tbl_in9 (List.mem_of_getElem? (i := 18) (by decide +kernel))) (by decide +kernel)
theorem tw_9_19 : Cond.fieldLink "NamesOnLettersModel" 404 "NamesOnLettersModel" "tenths" "[I" ∈ tblA := tbl_a (tbl_in9 (List.mem_of_getElem? (i := 19) (by decide +kernel))) (by decide +kernel)
theorem tw_9_20 : Cond.fieldLink "NamesOnLettersModel" 422 "NamesOnLettersModel" "tenthsBest" "[I" ∈ tblA := tbl_a (tbl_in9 (List.mem_of_getElem? (i := 20) (by decide +kernel))) (by decide +kernel)
theorem tw_9_21 : Cond.fieldLink "NamesOnLettersModel" 425 "NamesOnLettersModel" "likelyBits" "[J" ∈ tblA := tbl_a (tbl_in9 (List.mem_of_getElem? (i := 21) (by decide +kernel))) (by decide +kernel)
theorem tw_9_22 : Cond.fieldLink "NamesOnLettersModel" 439 "NamesOnLettersModel" "fewerOf" "[I" ∈ tblA := tbl_a (tbl_in9 (List.mem_of_getElem? (i := 22) (by decide +kernel))) (by decide +kernel)
theorem tw_9_23 : Cond.fieldLink "NamesOnLettersModel" 442 "NamesOnLettersModel" "fou\x72" "[I" ∈ tblA := tbl_a (tbl_in9 (List.mem_of_getElem? (i := 23) (by decide +kernel))) (by decide +kernel)
theorem tw_9_24 : Cond.fieldLink "NamesOnLettersModel" 445 "NamesOnLettersModel" "fourRung" "[I" ∈ tblA := tbl_a (tbl_in9 (List.mem_of_getElem? (i := 24) (by decide +kernel))) (by decide +kernel)
theorem tw_9_25 : Cond.fieldLink "NamesOnLettersModel" 455 "NamesOnLettersModel" "sumUp" "J" ∈ tblA := tbl_a (tbl_in9 (List.mem_of_getElem? (i := 25) (by decide +kernel))) (by decide +kernel)
theorem tw_9_26 : Cond.fieldLink "NamesOnLettersModel" 451 "NamesOnLettersModel" "sumLow" "J" ∈ tblA := tbl_a (tbl_in9 (List.mem_of_getElem? (i := 26) (by decide +kernel))) (by decide +kernel)
theorem tw_9_27 : Cond.fieldLink "NamesOnLettersModel" 469 "NamesOnLettersModel" "askedMany" "I" ∈ tblA := tbl_a (tbl_in9 (List.mem_of_getElem? (i := 27) (by decide +kernel))) (by decide +kernel)
theorem tw_9_28 : Cond.fieldLink "NamesOnLettersModel" 472 "NamesOnLettersModel" "askedOne" "[I" ∈ tblA := tbl_a (tbl_in9 (List.mem_of_getElem? (i := 28) (by decide +kernel))) (by decide +kernel)
theorem tw_9_29 : Cond.fieldLink "NamesOnLettersModel" 475 "NamesOnLettersModel" "askedOthe\x72" "[I" ∈ tblA := tbl_a (tbl_in9 (List.mem_of_getElem? (i := 29) (by decide +kernel))) (by decide +kernel)
theorem tw_9_30 : Cond.fieldLink "NamesOnLettersModel" 478 "NamesOnLettersModel" "askedTook" "[I" ∈ tblA := tbl_a (tbl_in9 (List.mem_of_getElem? (i := 30) (by decide +kernel))) (by decide +kernel)
theorem tw_9_31 : Cond.fieldLink "NamesOnLettersModel" 496 "NamesOnLettersModel" "byMore" "[I" ∈ tblA := tbl_a (tbl_in9 (List.mem_of_getElem? (i := 31) (by decide +kernel))) (by decide +kernel)
theorem tw_9_32 : Cond.fieldLink "NamesOnLettersModel" 499 "NamesOnLettersModel" "piece" "[I" ∈ tblA := tbl_a (tbl_in9 (List.mem_of_getElem? (i := 32) (by decide +kernel))) (by decide +kernel)
theorem tw_9_33 : Cond.fieldLink "NamesOnLettersModel" 527 "NamesOnLettersModel" "powerOf" "[I" ∈ tblA := tbl_a (tbl_in9 (List.mem_of_getElem? (i := 33) (by decide +kernel))) (by decide +kernel)
theorem tw_9_34 : Cond.fieldLink "NamesOnLettersModel" 530 "NamesOnLettersModel" "keptMany" "[I" ∈ tblA := tbl_a (tbl_in9 (List.mem_of_getElem? (i := 34) (by decide +kernel))) (by decide +kernel)
theorem tw_9_35 : Cond.fieldLink "NamesOnLettersModel" 533 "NamesOnLettersModel" "keptRandom" "[I" ∈ tblA := tbl_a (tbl_in9 (List.mem_of_getElem? (i := 35) (by decide +kernel))) (by decide +kernel)
theorem tw_9_36 : Cond.fieldLink "NamesOnLettersModel" 536 "NamesOnLettersModel" "keptState" "[I" ∈ tblA := tbl_a (tbl_in9 (List.mem_of_getElem? (i := 36) (by decide +kernel))) (by decide +kernel)
theorem tw_9_37 : Cond.lays "NamesOnLettersModel" "NamesOnLettersModel" "thrown" "I" ∈ tblA := tbl_a (tbl_in9 (List.mem_of_getElem? (i := 37) (by decide +kernel))) (by decide +kernel)
theorem tw_9_39 : Cond.lays "NamesOnLettersModel" "NamesOnLettersModel" "rows" "I" ∈ tblA := tbl_a (tbl_in9 (List.mem_of_getElem? (i := 39) (by decide +kernel))) (by decide +kernel)
theorem tw_9_41 : Cond.laysFinal "NamesOnLettersModel" "NamesOnLettersModel" "row" "[J" ∈ tblA := tbl_a (tbl_in9 (List.mem_of_getElem? (i := 41) (by decide +kernel))) (by decide +kernel)
theorem tw_9_43 : Cond.lays "NamesOnLettersModel" "NamesOnLettersModel" "nameMany" "I" ∈ tblA := tbl_a (tbl_in9 (List.mem_of_getElem? (i := 43) (by decide +kernel))) (by decide +kernel)
theorem tw_9_45 : Cond.laysFinal "NamesOnLettersModel" "NamesOnLettersModel" "people" "[I" ∈ tblA := tbl_a (tbl_in9 (List.mem_of_getElem? (i := 45) (by decide +kernel))) (by decide +kernel)
theorem tw_9_47 : Cond.laysFinal "NamesOnLettersModel" "NamesOnLettersModel" "sex" "[I" ∈ tblA := tbl_a (tbl_in9 (List.mem_of_getElem? (i := 47) (by decide +kernel))) (by decide +kernel)
theorem tw_9_49 : Cond.laysFinal "NamesOnLettersModel" "NamesOnLettersModel" "childOf" "[I" ∈ tblA := tbl_a (tbl_in9 (List.mem_of_getElem? (i := 49) (by decide +kernel))) (by decide +kernel)
theorem tw_9_51 : Cond.laysFinal "NamesOnLettersModel" "NamesOnLettersModel" "takenFo\x72" "[I" ∈ tblA := tbl_a (tbl_in9 (List.mem_of_getElem? (i := 51) (by decide +kernel))) (by decide +kernel)
theorem tw_9_53 : Cond.lays "NamesOnLettersModel" "NamesOnLettersModel" "houseMany" "I" ∈ tblA := tbl_a (tbl_in9 (List.mem_of_getElem? (i := 53) (by decide +kernel))) (by decide +kernel)
theorem tw_9_55 : Cond.laysFinal "NamesOnLettersModel" "NamesOnLettersModel" "trade" "[I" ∈ tblA := tbl_a (tbl_in9 (List.mem_of_getElem? (i := 55) (by decide +kernel))) (by decide +kernel)
theorem tw_9_57 : Cond.laysFinal "NamesOnLettersModel" "NamesOnLettersModel" "town" "[I" ∈ tblA := tbl_a (tbl_in9 (List.mem_of_getElem? (i := 57) (by decide +kernel))) (by decide +kernel)
theorem tw_9_59 : Cond.laysFinal "NamesOnLettersModel" "NamesOnLettersModel" "lawOf" "[I" ∈ tblA := tbl_a (tbl_in9 (List.mem_of_getElem? (i := 59) (by decide +kernel))) (by decide +kernel)
theorem tw_9_61 : Cond.lays "NamesOnLettersModel" "NamesOnLettersModel" "letterMany" "I" ∈ tblA := tbl_a (tbl_in9 (List.mem_of_getElem? (i := 61) (by decide +kernel))) (by decide +kernel)
theorem tw_9_63 : Cond.laysFinal "NamesOnLettersModel" "NamesOnLettersModel" "houseOf" "[I" ∈ tblA := tbl_a (tbl_in9 (List.mem_of_getElem? (i := 63) (by decide +kernel))) (by decide +kernel)
theorem tw_9_65 : Cond.laysFinal "NamesOnLettersModel" "NamesOnLettersModel" "nameOf" "[I" ∈ tblA := tbl_a (tbl_in9 (List.mem_of_getElem? (i := 65) (by decide +kernel))) (by decide +kernel)
theorem tw_9_67 : Cond.laysFinal "NamesOnLettersModel" "NamesOnLettersModel" "worth" "[I" ∈ tblA := tbl_a (tbl_in9 (List.mem_of_getElem? (i := 67) (by decide +kernel))) (by decide +kernel)
theorem tw_9_69 : Cond.laysFinal "NamesOnLettersModel" "NamesOnLettersModel" "errors" "[I" ∈ tblA := tbl_a (tbl_in9 (List.mem_of_getElem? (i := 69) (by decide +kernel))) (by decide +kernel)
theorem tw_9_71 : Cond.laysFinal "NamesOnLettersModel" "NamesOnLettersModel" "street" "[I" ∈ tblA := tbl_a (tbl_in9 (List.mem_of_getElem? (i := 71) (by decide +kernel))) (by decide +kernel)
theorem tw_9_73 : Cond.laysFinal "NamesOnLettersModel" "NamesOnLettersModel" "day" "[I" ∈ tblA := tbl_a (tbl_in9 (List.mem_of_getElem? (i := 73) (by decide +kernel))) (by decide +kernel)
theorem tw_9_75 : Cond.laysFinal "NamesOnLettersModel" "NamesOnLettersModel" "isRead" "[Z" ∈ tblA := tbl_a (tbl_in9 (List.mem_of_getElem? (i := 75) (by decide +kernel))) (by decide +kernel)
theorem tw_9_77 : Cond.laysFinal "NamesOnLettersModel" "NamesOnLettersModel" "isRung" "[Z" ∈ tblA := tbl_a (tbl_in9 (List.mem_of_getElem? (i := 77) (by decide +kernel))) (by decide +kernel)
theorem tw_9_79 : Cond.laysFinal "NamesOnLettersModel" "NamesOnLettersModel" "afterwards" "[I" ∈ tblA := tbl_a (tbl_in9 (List.mem_of_getElem? (i := 79) (by decide +kernel))) (by decide +kernel)
theorem tw_9_81 : Cond.lays "NamesOnLettersModel" "NamesOnLettersModel" "random" "I" ∈ tblA := tbl_a (tbl_in9 (List.mem_of_getElem? (i := 81) (by decide +kernel))) (by decide +kernel)
theorem tw_9_83 : Cond.laysFinal "NamesOnLettersModel" "NamesOnLettersModel" "often" "[I" ∈ tblA := tbl_a (tbl_in9 (List.mem_of_getElem? (i := 83) (by decide +kernel))) (by decide +kernel)
theorem tw_9_85 : Cond.laysFinal "NamesOnLettersModel" "NamesOnLettersModel" "code" "[I" ∈ tblA := tbl_a (tbl_in9 (List.mem_of_getElem? (i := 85) (by decide +kernel))) (by decide +kernel)
theorem tw_9_87 : Cond.laysFinal "NamesOnLettersModel" "NamesOnLettersModel" "codes" "[I" ∈ tblA := tbl_a (tbl_in9 (List.mem_of_getElem? (i := 87) (by decide +kernel))) (by decide +kernel)
theorem tw_9_89 : Cond.laysFinal "NamesOnLettersModel" "NamesOnLettersModel" "stack" "[I" ∈ tblA := tbl_a (tbl_in9 (List.mem_of_getElem? (i := 89) (by decide +kernel))) (by decide +kernel)
theorem tw_9_91 : Cond.laysFinal "NamesOnLettersModel" "NamesOnLettersModel" "tape" "[I" ∈ tblA := tbl_a (tbl_in9 (List.mem_of_getElem? (i := 91) (by decide +kernel))) (by decide +kernel)
theorem tw_9_93 : Cond.lays "NamesOnLettersModel" "NamesOnLettersModel" "taped" "I" ∈ tblA := tbl_a (tbl_in9 (List.mem_of_getElem? (i := 93) (by decide +kernel))) (by decide +kernel)
theorem tw_9_95 : Cond.lays "NamesOnLettersModel" "NamesOnLettersModel" "at" "I" ∈ tblA := tbl_a (tbl_in9 (List.mem_of_getElem? (i := 95) (by decide +kernel))) (by decide +kernel)
theorem tw_9_97 : Cond.lays "NamesOnLettersModel" "NamesOnLettersModel" "to" "I" ∈ tblA := tbl_a (tbl_in9 (List.mem_of_getElem? (i := 97) (by decide +kernel))) (by decide +kernel)
theorem tw_9_99 : Cond.lays "NamesOnLettersModel" "NamesOnLettersModel" "open" "I" ∈ tblA := tbl_a (tbl_in9 (List.mem_of_getElem? (i := 99) (by decide +kernel))) (by decide +kernel)
theorem tw_9_101 : Cond.lays "NamesOnLettersModel" "NamesOnLettersModel" "isLaw" "Z" ∈ tblA := tbl_a (tbl_in9 (List.mem_of_getElem? (i := 101) (by decide +kernel))) (by decide +kernel)
theorem tw_9_103 : Cond.lays "NamesOnLettersModel" "NamesOnLettersModel" "rungTill" "I" ∈ tblA := tbl_a (tbl_in9 (List.mem_of_getElem? (i := 103) (by decide +kernel))) (by decide +kernel)
theorem tw_9_105 : Cond.lays "NamesOnLettersModel" "NamesOnLettersModel" "readTill" "I" ∈ tblA := tbl_a (tbl_in9 (List.mem_of_getElem? (i := 105) (by decide +kernel))) (by decide +kernel)
theorem tw_9_107 : Cond.lays "NamesOnLettersModel" "NamesOnLettersModel" "worthTill" "I" ∈ tblA := tbl_a (tbl_in9 (List.mem_of_getElem? (i := 107) (by decide +kernel))) (by decide +kernel)
theorem tw_9_109 : Cond.laysFinal "NamesOnLettersModel" "NamesOnLettersModel" "n" "[I" ∈ tblA := tbl_a (tbl_in9 (List.mem_of_getElem? (i := 109) (by decide +kernel))) (by decide +kernel)
theorem tw_9_111 : Cond.laysFinal "NamesOnLettersModel" "NamesOnLettersModel" "\x72" "[I" ∈ tblA := tbl_a (tbl_in9 (List.mem_of_getElem? (i := 111) (by decide +kernel))) (by decide +kernel)
theorem tw_9_113 : Cond.laysFinal "NamesOnLettersModel" "NamesOnLettersModel" "ways" "[J" ∈ tblA := tbl_a (tbl_in9 (List.mem_of_getElem? (i := 113) (by decide +kernel))) (by decide +kernel)
theorem tw_9_115 : Cond.laysFinal "NamesOnLettersModel" "NamesOnLettersModel" "waysNext" "[J" ∈ tblA := tbl_a (tbl_in9 (List.mem_of_getElem? (i := 115) (by decide +kernel))) (by decide +kernel)
theorem tw_9_117 : Cond.laysFinal "NamesOnLettersModel" "NamesOnLettersModel" "nameLetters" "[I" ∈ tblA := tbl_a (tbl_in9 (List.mem_of_getElem? (i := 117) (by decide +kernel))) (by decide +kernel)
theorem tw_9_119 : Cond.laysFinal "NamesOnLettersModel" "NamesOnLettersModel" "nameRung" "[I" ∈ tblA := tbl_a (tbl_in9 (List.mem_of_getElem? (i := 119) (by decide +kernel))) (by decide +kernel)
theorem tw_9_121 : Cond.lays "NamesOnLettersModel" "NamesOnLettersModel" "oneWay" "I" ∈ tblA := tbl_a (tbl_in9 (List.mem_of_getElem? (i := 121) (by decide +kernel))) (by decide +kernel)
theorem tw_9_123 : Cond.lays "NamesOnLettersModel" "NamesOnLettersModel" "otherWay" "I" ∈ tblA := tbl_a (tbl_in9 (List.mem_of_getElem? (i := 123) (by decide +kernel))) (by decide +kernel)
theorem tw_9_125 : Cond.lays "NamesOnLettersModel" "NamesOnLettersModel" "alike" "I" ∈ tblA := tbl_a (tbl_in9 (List.mem_of_getElem? (i := 125) (by decide +kernel))) (by decide +kernel)
theorem tw_9_127 : Cond.laysFinal "NamesOnLettersModel" "NamesOnLettersModel" "ringsZero" "[I" ∈ tblA := tbl_a (tbl_in9 (List.mem_of_getElem? (i := 127) (by decide +kernel))) (by decide +kernel)
theorem tw_9_129 : Cond.laysFinal "NamesOnLettersModel" "NamesOnLettersModel" "ringsOne" "[I" ∈ tblA := tbl_a (tbl_in9 (List.mem_of_getElem? (i := 129) (by decide +kernel))) (by decide +kernel)
theorem tw_9_131 : Cond.laysFinal "NamesOnLettersModel" "NamesOnLettersModel" "part" "[I" ∈ tblA := tbl_a (tbl_in9 (List.mem_of_getElem? (i := 131) (by decide +kernel))) (by decide +kernel)
theorem tw_9_133 : Cond.laysFinal "NamesOnLettersModel" "NamesOnLettersModel" "readTo" "[I" ∈ tblA := tbl_a (tbl_in9 (List.mem_of_getElem? (i := 133) (by decide +kernel))) (by decide +kernel)
theorem tw_9_135 : Cond.laysFinal "NamesOnLettersModel" "NamesOnLettersModel" "rungTo" "[I" ∈ tblA := tbl_a (tbl_in9 (List.mem_of_getElem? (i := 135) (by decide +kernel))) (by decide +kernel)
theorem tw_9_137 : Cond.laysFinal "NamesOnLettersModel" "NamesOnLettersModel" "great" "[I" ∈ tblA := tbl_a (tbl_in9 (List.mem_of_getElem? (i := 137) (by decide +kernel))) (by decide +kernel)
theorem tw_9_139 : Cond.laysFinal "NamesOnLettersModel" "NamesOnLettersModel" "greatest" "[I" ∈ tblA := tbl_a (tbl_in9 (List.mem_of_getElem? (i := 139) (by decide +kernel))) (by decide +kernel)
theorem tw_9_141 : Cond.laysFinal "NamesOnLettersModel" "NamesOnLettersModel" "wouldOf" "[J" ∈ tblA := tbl_a (tbl_in9 (List.mem_of_getElem? (i := 141) (by decide +kernel))) (by decide +kernel)
theorem tw_9_143 : Cond.laysFinal "NamesOnLettersModel" "NamesOnLettersModel" "tenths" "[I" ∈ tblA := tbl_a (tbl_in9 (List.mem_of_getElem? (i := 143) (by decide +kernel))) (by decide +kernel)
theorem tw_9_145 : Cond.laysFinal "NamesOnLettersModel" "NamesOnLettersModel" "tenthsBest" "[I" ∈ tblA := tbl_a (tbl_in9 (List.mem_of_getElem? (i := 145) (by decide +kernel))) (by decide +kernel)
theorem tw_9_147 : Cond.laysFinal "NamesOnLettersModel" "NamesOnLettersModel" "likelyBits" "[J" ∈ tblA := tbl_a (tbl_in9 (List.mem_of_getElem? (i := 147) (by decide +kernel))) (by decide +kernel)
theorem tw_9_149 : Cond.laysFinal "NamesOnLettersModel" "NamesOnLettersModel" "fewerOf" "[I" ∈ tblA := tbl_a (tbl_in9 (List.mem_of_getElem? (i := 149) (by decide +kernel))) (by decide +kernel)
theorem tw_9_151 : Cond.laysFinal "NamesOnLettersModel" "NamesOnLettersModel" "fou\x72" "[I" ∈ tblA := tbl_a (tbl_in9 (List.mem_of_getElem? (i := 151) (by decide +kernel))) (by decide +kernel)
theorem tw_9_153 : Cond.laysFinal "NamesOnLettersModel" "NamesOnLettersModel" "fourRung" "[I" ∈ tblA := tbl_a (tbl_in9 (List.mem_of_getElem? (i := 153) (by decide +kernel))) (by decide +kernel)
theorem tw_9_155 : Cond.lays "NamesOnLettersModel" "NamesOnLettersModel" "sumUp" "J" ∈ tblA := tbl_a (tbl_in9 (List.mem_of_getElem? (i := 155) (by decide +kernel))) (by decide +kernel)
theorem tw_9_157 : Cond.lays "NamesOnLettersModel" "NamesOnLettersModel" "sumLow" "J" ∈ tblA := tbl_a (tbl_in9 (List.mem_of_getElem? (i := 157) (by decide +kernel))) (by decide +kernel)
theorem tw_9_159 : Cond.lays "NamesOnLettersModel" "NamesOnLettersModel" "askedMany" "I" ∈ tblA := tbl_a (tbl_in9 (List.mem_of_getElem? (i := 159) (by decide +kernel))) (by decide +kernel)
theorem tw_9_161 : Cond.laysFinal "NamesOnLettersModel" "NamesOnLettersModel" "askedOne" "[I" ∈ tblA := tbl_a (tbl_in9 (List.mem_of_getElem? (i := 161) (by decide +kernel))) (by decide +kernel)
theorem tw_9_163 : Cond.laysFinal "NamesOnLettersModel" "NamesOnLettersModel" "askedOthe\x72" "[I" ∈ tblA := tbl_a (tbl_in9 (List.mem_of_getElem? (i := 163) (by decide +kernel))) (by decide +kernel)
theorem tw_9_165 : Cond.laysFinal "NamesOnLettersModel" "NamesOnLettersModel" "askedTook" "[I" ∈ tblA := tbl_a (tbl_in9 (List.mem_of_getElem? (i := 165) (by decide +kernel))) (by decide +kernel)
theorem tw_9_167 : Cond.laysFinal "NamesOnLettersModel" "NamesOnLettersModel" "byMore" "[I" ∈ tblA := tbl_a (tbl_in9 (List.mem_of_getElem? (i := 167) (by decide +kernel))) (by decide +kernel)
theorem tw_9_169 : Cond.laysFinal "NamesOnLettersModel" "NamesOnLettersModel" "piece" "[I" ∈ tblA := tbl_a (tbl_in9 (List.mem_of_getElem? (i := 169) (by decide +kernel))) (by decide +kernel)
theorem tw_9_171 : Cond.laysFinal "NamesOnLettersModel" "NamesOnLettersModel" "powerOf" "[I" ∈ tblA := tbl_a (tbl_in9 (List.mem_of_getElem? (i := 171) (by decide +kernel))) (by decide +kernel)
theorem tw_9_173 : Cond.laysFinal "NamesOnLettersModel" "NamesOnLettersModel" "keptMany" "[I" ∈ tblA := tbl_a (tbl_in9 (List.mem_of_getElem? (i := 173) (by decide +kernel))) (by decide +kernel)
theorem tw_9_175 : Cond.laysFinal "NamesOnLettersModel" "NamesOnLettersModel" "keptRandom" "[I" ∈ tblA := tbl_a (tbl_in9 (List.mem_of_getElem? (i := 175) (by decide +kernel))) (by decide +kernel)
theorem tw_9_177 : Cond.laysFinal "NamesOnLettersModel" "NamesOnLettersModel" "keptState" "[I" ∈ tblA := tbl_a (tbl_in9 (List.mem_of_getElem? (i := 177) (by decide +kernel))) (by decide +kernel)
theorem tw_9_181 : Cond.methodLink "NamesOnLettersLaw" 229 ⟨"NamesOnLettersModel", "row", "(I)J"⟩ ∈ tblA := tbl_a (tbl_in9 (List.mem_of_getElem? (i := 181) (by decide +kernel))) (by decide +kernel)
theorem tw_9_182 : Cond.instanceMethod ⟨"NamesOnLettersModel", "row", "(I)J"⟩ ∈ tblA := tbl_a (tbl_in9 (List.mem_of_getElem? (i := 182) (by decide +kernel))) (by decide +kernel)
theorem tw_9_183 : Cond.selects "NamesOnLettersModel" ⟨"NamesOnLettersModel", "row", "(I)J"⟩ ⟨"NamesOnLettersModel", "row", "(I)J"⟩ ∈ tblA := tbl_a (tbl_in9 (List.mem_of_getElem? (i := 183) (by decide +kernel))) (by decide +kernel)
theorem tw_9_202 : Cond.fieldLink "java/lang/String" 15 "java/lang/String" "code\x72" "B" ∈ tblA := tbl_a (tbl_in9 (List.mem_of_getElem? (i := 202) (by decide +kernel))) (by decide +kernel)
theorem tw_9_203 : Cond.fieldLink "java/lang/String" 9 "java/lang/String" "value" "[B" ∈ tblA := tbl_a (tbl_in9 (List.mem_of_getElem? (i := 203) (by decide +kernel))) (by decide +kernel)
theorem ts_1_0 : Cond.selects "NamesOnLetters$Told" ⟨"NamesOnLetters$Told", "addName", "(III)I"⟩ ⟨"NamesOnLetters$Told", "addName", "(III)I"⟩ ∈ tblA := tbl_a (tbl_sel1 (q := (⟨"NamesOnLetters$Told", "addName", "(III)I"⟩, 18)) (List.mem_of_getElem? (i := 0) (by decide +kernel))) (by decide +kernel)
theorem ts_1_1 : Cond.selects "NamesOnLetters$Told" ⟨"NamesOnLetters$Told", "addHouse", "(III)I"⟩ ⟨"NamesOnLetters$Told", "addHouse", "(III)I"⟩ ∈ tblA := tbl_a (tbl_sel1 (q := (⟨"NamesOnLetters$Told", "addHouse", "(III)I"⟩, 18)) (List.mem_of_getElem? (i := 1) (by decide +kernel))) (by decide +kernel)
theorem ts_1_2 : Cond.selects "NamesOnLetters$Told" ⟨"NamesOnLetters$Told", "isHouse", "(I)Z"⟩ ⟨"NamesOnLetters$Told", "isHouse", "(I)Z"⟩ ∈ tblA := tbl_a (tbl_sel1 (q := (⟨"NamesOnLetters$Told", "isHouse", "(I)Z"⟩, 18)) (List.mem_of_getElem? (i := 2) (by decide +kernel))) (by decide +kernel)
theorem ts_1_3 : Cond.selects "NamesOnLetters$Told" ⟨"NamesOnLetters$Told", "isName", "(I)Z"⟩ ⟨"NamesOnLetters$Told", "isName", "(I)Z"⟩ ∈ tblA := tbl_a (tbl_sel1 (q := (⟨"NamesOnLetters$Told", "isName", "(I)Z"⟩, 18)) (List.mem_of_getElem? (i := 3) (by decide +kernel))) (by decide +kernel)
theorem ts_1_4 : Cond.selects "NamesOnLetters$Told" ⟨"NamesOnLetters$Told", "lettersTo", "(I)I"⟩ ⟨"NamesOnLetters$Told", "lettersTo", "(I)I"⟩ ∈ tblA := tbl_a (tbl_sel1 (q := (⟨"NamesOnLetters$Told", "lettersTo", "(I)I"⟩, 18)) (List.mem_of_getElem? (i := 4) (by decide +kernel))) (by decide +kernel)
theorem ts_1_5 : Cond.selects "NamesOnLetters$Told" ⟨"NamesOnLetters$Told", "addLette\x72", "(IIIII)I"⟩ ⟨"NamesOnLetters$Told", "addLette\x72", "(IIIII)I"⟩ ∈ tblA := tbl_a (tbl_sel1 (q := (⟨"NamesOnLetters$Told", "addLette\x72", "(IIIII)I"⟩, 18)) (List.mem_of_getElem? (i := 5) (by decide +kernel))) (by decide +kernel)
theorem ts_1_6 : Cond.selects "NamesOnLetters$Lette\x72" ⟨"NamesOnLetters$Lette\x72", "becomeState", "(I)V"⟩ ⟨"NamesOnLetters$Lette\x72", "becomeState", "(I)V"⟩ ∈ tblA := tbl_a (tbl_sel1 (q := (⟨"NamesOnLetters$Lette\x72", "becomeState", "(I)V"⟩, 9)) (List.mem_of_getElem? (i := 6) (by decide +kernel))) (by decide +kernel)
theorem ts_1_7 : Cond.selects "NamesOnLetters$Told" ⟨"NamesOnLetters$Told", "namesOf", "(I)I"⟩ ⟨"NamesOnLetters$Told", "namesOf", "(I)I"⟩ ∈ tblA := tbl_a (tbl_sel1 (q := (⟨"NamesOnLetters$Told", "namesOf", "(I)I"⟩, 18)) (List.mem_of_getElem? (i := 7) (by decide +kernel))) (by decide +kernel)
theorem ts_1_8 : Cond.selects "NamesOnLetters$Told" ⟨"NamesOnLetters$Told", "dealTo", "(III)I"⟩ ⟨"NamesOnLetters$Told", "dealTo", "(III)I"⟩ ∈ tblA := tbl_a (tbl_sel1 (q := (⟨"NamesOnLetters$Told", "dealTo", "(III)I"⟩, 18)) (List.mem_of_getElem? (i := 8) (by decide +kernel))) (by decide +kernel)
theorem ts_1_9 : Cond.selects "NamesOnLetters$Told" ⟨"NamesOnLetters$Told", "draw", "(I)I"⟩ ⟨"NamesOnLetters$Told", "draw", "(I)I"⟩ ∈ tblA := tbl_a (tbl_sel1 (q := (⟨"NamesOnLetters$Told", "draw", "(I)I"⟩, 18)) (List.mem_of_getElem? (i := 9) (by decide +kernel))) (by decide +kernel)
theorem ts_1_10 : Cond.selects "NamesOnLetters$Told" ⟨"NamesOnLetters$Told", "drawName", "(II)I"⟩ ⟨"NamesOnLetters$Told", "drawName", "(II)I"⟩ ∈ tblA := tbl_a (tbl_sel1 (q := (⟨"NamesOnLetters$Told", "drawName", "(II)I"⟩, 18)) (List.mem_of_getElem? (i := 10) (by decide +kernel))) (by decide +kernel)
theorem ts_1_11 : Cond.selects "NamesOnLetters$Told" ⟨"NamesOnLetters$Told", "isFree", "(III)Z"⟩ ⟨"NamesOnLetters$Told", "isFree", "(III)Z"⟩ ∈ tblA := tbl_a (tbl_sel1 (q := (⟨"NamesOnLetters$Told", "isFree", "(III)Z"⟩, 18)) (List.mem_of_getElem? (i := 11) (by decide +kernel))) (by decide +kernel)
theorem ts_1_12 : Cond.selects "NamesOnLetters" ⟨"NamesOnLetters", "takeText", "([LNamesOnLetters$Expression;IZ)I"⟩ ⟨"NamesOnLetters", "takeText", "([LNamesOnLetters$Expression;IZ)I"⟩ ∈ tblA := tbl_a (tbl_sel1 (q := (⟨"NamesOnLetters", "takeText", "([LNamesOnLetters$Expression;IZ)I"⟩, 9)) (List.mem_of_getElem? (i := 12) (by decide +kernel))) (by decide +kernel)
theorem ts_1_13 : Cond.selects "NamesOnLetters$Expression" ⟨"NamesOnLetters$Expression", "become", "([II)V"⟩ ⟨"NamesOnLetters$Expression", "become", "([II)V"⟩ ∈ tblA := tbl_a (tbl_sel1 (q := (⟨"NamesOnLetters$Expression", "become", "([II)V"⟩, 4)) (List.mem_of_getElem? (i := 13) (by decide +kernel))) (by decide +kernel)
theorem ts_1_14 : Cond.selects "NamesOnLetters$Expression" ⟨"NamesOnLetters$Expression", "putDigit", "(IZ)V"⟩ ⟨"NamesOnLetters$Expression", "putDigit", "(IZ)V"⟩ ∈ tblA := tbl_a (tbl_sel1 (q := (⟨"NamesOnLetters$Expression", "putDigit", "(IZ)V"⟩, 4)) (List.mem_of_getElem? (i := 14) (by decide +kernel))) (by decide +kernel)
theorem ts_1_15 : Cond.selects "NamesOnLetters$Expression" ⟨"NamesOnLetters$Expression", "put", "(I)V"⟩ ⟨"NamesOnLetters$Expression", "put", "(I)V"⟩ ∈ tblA := tbl_a (tbl_sel1 (q := (⟨"NamesOnLetters$Expression", "put", "(I)V"⟩, 4)) (List.mem_of_getElem? (i := 15) (by decide +kernel))) (by decide +kernel)
theorem ts_2_0 : Cond.selects "NamesOnLetters$Expression" ⟨"NamesOnLetters$Expression", "push", "(I)V"⟩ ⟨"NamesOnLetters$Expression", "push", "(I)V"⟩ ∈ tblA := tbl_a (tbl_sel2 (q := (⟨"NamesOnLetters$Expression", "push", "(I)V"⟩, 4)) (List.mem_of_getElem? (i := 0) (by decide +kernel))) (by decide +kernel)
theorem ts_2_1 : Cond.selects "NamesOnLetters$Expression" ⟨"NamesOnLetters$Expression", "putStronge\x72", "(I)V"⟩ ⟨"NamesOnLetters$Expression", "putStronge\x72", "(I)V"⟩ ∈ tblA := tbl_a (tbl_sel2 (q := (⟨"NamesOnLetters$Expression", "putStronge\x72", "(I)V"⟩, 4)) (List.mem_of_getElem? (i := 1) (by decide +kernel))) (by decide +kernel)
theorem ts_2_2 : Cond.selects "NamesOnLetters$Expression" ⟨"NamesOnLetters$Expression", "pop", "()I"⟩ ⟨"NamesOnLetters$Expression", "pop", "()I"⟩ ∈ tblA := tbl_a (tbl_sel2 (q := (⟨"NamesOnLetters$Expression", "pop", "()I"⟩, 4)) (List.mem_of_getElem? (i := 2) (by decide +kernel))) (by decide +kernel)
theorem ts_2_3 : Cond.selects "NamesOnLetters$Told" ⟨"NamesOnLetters$Told", "readNext", "(I)I"⟩ ⟨"NamesOnLetters$Told", "readNext", "(I)I"⟩ ∈ tblA := tbl_a (tbl_sel2 (q := (⟨"NamesOnLetters$Told", "readNext", "(I)I"⟩, 18)) (List.mem_of_getElem? (i := 3) (by decide +kernel))) (by decide +kernel)
theorem ts_2_4 : Cond.selects "NamesOnLetters$Told" ⟨"NamesOnLetters$Told", "nextUnread", "()I"⟩ ⟨"NamesOnLetters$Told", "nextUnread", "()I"⟩ ∈ tblA := tbl_a (tbl_sel2 (q := (⟨"NamesOnLetters$Told", "nextUnread", "()I"⟩, 18)) (List.mem_of_getElem? (i := 4) (by decide +kernel))) (by decide +kernel)
theorem ts_2_5 : Cond.selects "NamesOnLetters$Told" ⟨"NamesOnLetters$Told", "isRungByHouse", "(LNamesOnLetters$Letter;)Z"⟩ ⟨"NamesOnLetters$Told", "isRungByHouse", "(LNamesOnLetters$Letter;)Z"⟩ ∈ tblA := tbl_a (tbl_sel2 (q := (⟨"NamesOnLetters$Told", "isRungByHouse", "(LNamesOnLetters$Letter;)Z"⟩, 18)) (List.mem_of_getElem? (i := 5) (by decide +kernel))) (by decide +kernel)
theorem ts_2_6 : Cond.selects "NamesOnLetters$Told" ⟨"NamesOnLetters$Told", "isLaw", "(I)Z"⟩ ⟨"NamesOnLetters$Told", "isLaw", "(I)Z"⟩ ∈ tblA := tbl_a (tbl_sel2 (q := (⟨"NamesOnLetters$Told", "isLaw", "(I)Z"⟩, 18)) (List.mem_of_getElem? (i := 6) (by decide +kernel))) (by decide +kernel)
theorem ts_2_7 : Cond.selects "NamesOnLetters$Expression" ⟨"NamesOnLetters$Expression", "isTold", "()Z"⟩ ⟨"NamesOnLetters$Expression", "isTold", "()Z"⟩ ∈ tblA := tbl_a (tbl_sel2 (q := (⟨"NamesOnLetters$Expression", "isTold", "()Z"⟩, 4)) (List.mem_of_getElem? (i := 7) (by decide +kernel))) (by decide +kernel)
theorem ts_2_8 : Cond.selects "NamesOnLetters$Told" ⟨"NamesOnLetters$Told", "lawFo\x72", "(ILNamesOnLetters$Letter;)I"⟩ ⟨"NamesOnLetters$Told", "lawFo\x72", "(ILNamesOnLetters$Letter;)I"⟩ ∈ tblA := tbl_a (tbl_sel2 (q := (⟨"NamesOnLetters$Told", "lawFo\x72", "(ILNamesOnLetters$Letter;)I"⟩, 18)) (List.mem_of_getElem? (i := 8) (by decide +kernel))) (by decide +kernel)
theorem ts_2_9 : Cond.selects "NamesOnLetters$Told" ⟨"NamesOnLetters$Told", "lookAt", "(LNamesOnLetters$Letter;)V"⟩ ⟨"NamesOnLetters$Told", "lookAt", "(LNamesOnLetters$Letter;)V"⟩ ∈ tblA := tbl_a (tbl_sel2 (q := (⟨"NamesOnLetters$Told", "lookAt", "(LNamesOnLetters$Letter;)V"⟩, 18)) (List.mem_of_getElem? (i := 9) (by decide +kernel))) (by decide +kernel)
theorem ts_2_10 : Cond.selects "NamesOnLetters$Told" ⟨"NamesOnLetters$Told", "lookAtHouse", "(I)V"⟩ ⟨"NamesOnLetters$Told", "lookAtHouse", "(I)V"⟩ ∈ tblA := tbl_a (tbl_sel2 (q := (⟨"NamesOnLetters$Told", "lookAtHouse", "(I)V"⟩, 18)) (List.mem_of_getElem? (i := 10) (by decide +kernel))) (by decide +kernel)
theorem ts_2_11 : Cond.selects "NamesOnLetters$Expression" ⟨"NamesOnLetters$Expression", "result", "([I)I"⟩ ⟨"NamesOnLetters$Expression", "result", "([I)I"⟩ ∈ tblA := tbl_a (tbl_sel2 (q := (⟨"NamesOnLetters$Expression", "result", "([I)I"⟩, 4)) (List.mem_of_getElem? (i := 11) (by decide +kernel))) (by decide +kernel)
theorem ts_2_12 : Cond.selects "NamesOnLetters$Expression" ⟨"NamesOnLetters$Expression", "operate", "(I)V"⟩ ⟨"NamesOnLetters$Expression", "operate", "(I)V"⟩ ∈ tblA := tbl_a (tbl_sel2 (q := (⟨"NamesOnLetters$Expression", "operate", "(I)V"⟩, 4)) (List.mem_of_getElem? (i := 12) (by decide +kernel))) (by decide +kernel)
theorem ts_2_13 : Cond.selects "NamesOnLetters$Lette\x72" ⟨"NamesOnLetters$Lette\x72", "becomeRead", "(Z)V"⟩ ⟨"NamesOnLetters$Lette\x72", "becomeRead", "(Z)V"⟩ ∈ tblA := tbl_a (tbl_sel2 (q := (⟨"NamesOnLetters$Lette\x72", "becomeRead", "(Z)V"⟩, 9)) (List.mem_of_getElem? (i := 13) (by decide +kernel))) (by decide +kernel)
theorem ts_2_14 : Cond.selects "NamesOnLetters$Told" ⟨"NamesOnLetters$Told", "isLette\x72", "(I)Z"⟩ ⟨"NamesOnLetters$Told", "isLette\x72", "(I)Z"⟩ ∈ tblA := tbl_a (tbl_sel2 (q := (⟨"NamesOnLetters$Told", "isLette\x72", "(I)Z"⟩, 18)) (List.mem_of_getElem? (i := 14) (by decide +kernel))) (by decide +kernel)
theorem ts_2_15 : Cond.selects "NamesOnLetters$Told" ⟨"NamesOnLetters$Told", "readAllWithoutRings", "()I"⟩ ⟨"NamesOnLetters$Told", "readAllWithoutRings", "()I"⟩ ∈ tblA := tbl_a (tbl_sel2 (q := (⟨"NamesOnLetters$Told", "readAllWithoutRings", "()I"⟩, 18)) (List.mem_of_getElem? (i := 15) (by decide +kernel))) (by decide +kernel)
theorem ts_3_0 : Cond.selects "NamesOnLetters$Told" ⟨"NamesOnLetters$Told", "readAsBoxed", "(IIII)I"⟩ ⟨"NamesOnLetters$Told", "readAsBoxed", "(IIII)I"⟩ ∈ tblA := tbl_a (tbl_sel3 (q := (⟨"NamesOnLetters$Told", "readAsBoxed", "(IIII)I"⟩, 18)) (List.mem_of_getElem? (i := 0) (by decide +kernel))) (by decide +kernel)
theorem ts_3_1 : Cond.selects "NamesOnLetters$Shares" ⟨"NamesOnLetters$Shares", "tellShare", "(I)I"⟩ ⟨"NamesOnLetters$Shares", "tellShare", "(I)I"⟩ ∈ tblA := tbl_a (tbl_sel3 (q := (⟨"NamesOnLetters$Shares", "tellShare", "(I)I"⟩, 10)) (List.mem_of_getElem? (i := 1) (by decide +kernel))) (by decide +kernel)
theorem ts_3_2 : Cond.selects "NamesOnLetters$Told" ⟨"NamesOnLetters$Told", "isFilte\x72", "(I)Z"⟩ ⟨"NamesOnLetters$Told", "isFilte\x72", "(I)Z"⟩ ∈ tblA := tbl_a (tbl_sel3 (q := (⟨"NamesOnLetters$Told", "isFilte\x72", "(I)Z"⟩, 18)) (List.mem_of_getElem? (i := 2) (by decide +kernel))) (by decide +kernel)
theorem ts_3_3 : Cond.selects "NamesOnLetters$Shares" ⟨"NamesOnLetters$Shares", "gathe\x72", "(LNamesOnLetters$Tally;II)V"⟩ ⟨"NamesOnLetters$Shares", "gathe\x72", "(LNamesOnLetters$Tally;II)V"⟩ ∈ tblA := tbl_a (tbl_sel3 (q := (⟨"NamesOnLetters$Shares", "gathe\x72", "(LNamesOnLetters$Tally;II)V"⟩, 10)) (List.mem_of_getElem? (i := 3) (by decide +kernel))) (by decide +kernel)
theorem ts_3_4 : Cond.selects "NamesOnLetters$Tally" ⟨"NamesOnLetters$Tally", "clea\x72", "()V"⟩ ⟨"NamesOnLetters$Tally", "clea\x72", "()V"⟩ ∈ tblA := tbl_a (tbl_sel3 (q := (⟨"NamesOnLetters$Tally", "clea\x72", "()V"⟩, 2)) (List.mem_of_getElem? (i := 4) (by decide +kernel))) (by decide +kernel)
theorem ts_3_5 : Cond.selects "NamesOnLetters$Told" ⟨"NamesOnLetters$Told", "passes", "(LNamesOnLetters$Letter;I)Z"⟩ ⟨"NamesOnLetters$Told", "passes", "(LNamesOnLetters$Letter;I)Z"⟩ ∈ tblA := tbl_a (tbl_sel3 (q := (⟨"NamesOnLetters$Told", "passes", "(LNamesOnLetters$Letter;I)Z"⟩, 18)) (List.mem_of_getElem? (i := 5) (by decide +kernel))) (by decide +kernel)
theorem ts_3_6 : Cond.selects "NamesOnLetters$Told" ⟨"NamesOnLetters$Told", "peopleOf", "(LNamesOnLetters$Letter;)I"⟩ ⟨"NamesOnLetters$Told", "peopleOf", "(LNamesOnLetters$Letter;)I"⟩ ∈ tblA := tbl_a (tbl_sel3 (q := (⟨"NamesOnLetters$Told", "peopleOf", "(LNamesOnLetters$Letter;)I"⟩, 18)) (List.mem_of_getElem? (i := 6) (by decide +kernel))) (by decide +kernel)
theorem ts_3_7 : Cond.selects "NamesOnLetters$Tally" ⟨"NamesOnLetters$Tally", "note", "(IZ)V"⟩ ⟨"NamesOnLetters$Tally", "note", "(IZ)V"⟩ ∈ tblA := tbl_a (tbl_sel3 (q := (⟨"NamesOnLetters$Tally", "note", "(IZ)V"⟩, 2)) (List.mem_of_getElem? (i := 7) (by decide +kernel))) (by decide +kernel)
theorem ts_3_8 : Cond.selects "NamesOnLetters$Row" ⟨"NamesOnLetters$Row", "clea\x72", "()V"⟩ ⟨"NamesOnLetters$Row", "clea\x72", "()V"⟩ ∈ tblA := tbl_a (tbl_sel3 (q := (⟨"NamesOnLetters$Row", "clea\x72", "()V"⟩, 2)) (List.mem_of_getElem? (i := 8) (by decide +kernel))) (by decide +kernel)
theorem ts_3_9 : Cond.selects "NamesOnLetters$Tally" ⟨"NamesOnLetters$Tally", "all", "()I"⟩ ⟨"NamesOnLetters$Tally", "all", "()I"⟩ ∈ tblA := tbl_a (tbl_sel3 (q := (⟨"NamesOnLetters$Tally", "all", "()I"⟩, 2)) (List.mem_of_getElem? (i := 9) (by decide +kernel))) (by decide +kernel)
theorem ts_3_10 : Cond.selects "NamesOnLetters$Row" ⟨"NamesOnLetters$Row", "addFraction", "(JJ)V"⟩ ⟨"NamesOnLetters$Row", "addFraction", "(JJ)V"⟩ ∈ tblA := tbl_a (tbl_sel3 (q := (⟨"NamesOnLetters$Row", "addFraction", "(JJ)V"⟩, 2)) (List.mem_of_getElem? (i := 10) (by decide +kernel))) (by decide +kernel)
theorem ts_3_11 : Cond.selects "NamesOnLetters$Row" ⟨"NamesOnLetters$Row", "add", "(J)V"⟩ ⟨"NamesOnLetters$Row", "add", "(J)V"⟩ ∈ tblA := tbl_a (tbl_sel3 (q := (⟨"NamesOnLetters$Row", "add", "(J)V"⟩, 2)) (List.mem_of_getElem? (i := 11) (by decide +kernel))) (by decide +kernel)
theorem ts_3_12 : Cond.selects "NamesOnLetters$Shares" ⟨"NamesOnLetters$Shares", "tellAside", "(I)I"⟩ ⟨"NamesOnLetters$Shares", "tellAside", "(I)I"⟩ ∈ tblA := tbl_a (tbl_sel3 (q := (⟨"NamesOnLetters$Shares", "tellAside", "(I)I"⟩, 10)) (List.mem_of_getElem? (i := 12) (by decide +kernel))) (by decide +kernel)
theorem ts_3_13 : Cond.selects "NamesOnLetters$Tally" ⟨"NamesOnLetters$Tally", "hasBoth", "()Z"⟩ ⟨"NamesOnLetters$Tally", "hasBoth", "()Z"⟩ ∈ tblA := tbl_a (tbl_sel3 (q := (⟨"NamesOnLetters$Tally", "hasBoth", "()Z"⟩, 2)) (List.mem_of_getElem? (i := 13) (by decide +kernel))) (by decide +kernel)
theorem ts_3_14 : Cond.selects "NamesOnLetters$Tally" ⟨"NamesOnLetters$Tally", "asideUppe\x72", "()J"⟩ ⟨"NamesOnLetters$Tally", "asideUppe\x72", "()J"⟩ ∈ tblA := tbl_a (tbl_sel3 (q := (⟨"NamesOnLetters$Tally", "asideUppe\x72", "()J"⟩, 2)) (List.mem_of_getElem? (i := 14) (by decide +kernel))) (by decide +kernel)
theorem ts_3_15 : Cond.selects "NamesOnLetters$Tally" ⟨"NamesOnLetters$Tally", "asideLowe\x72", "()J"⟩ ⟨"NamesOnLetters$Tally", "asideLowe\x72", "()J"⟩ ∈ tblA := tbl_a (tbl_sel3 (q := (⟨"NamesOnLetters$Tally", "asideLowe\x72", "()J"⟩, 2)) (List.mem_of_getElem? (i := 15) (by decide +kernel))) (by decide +kernel)
theorem ts_4_0 : Cond.selects "NamesOnLetters$Shares" ⟨"NamesOnLetters$Shares", "tellOdds", "(II)I"⟩ ⟨"NamesOnLetters$Shares", "tellOdds", "(II)I"⟩ ∈ tblA := tbl_a (tbl_sel4 (q := (⟨"NamesOnLetters$Shares", "tellOdds", "(II)I"⟩, 10)) (List.mem_of_getElem? (i := 0) (by decide +kernel))) (by decide +kernel)
theorem ts_4_1 : Cond.selects "NamesOnLetters$Shares" ⟨"NamesOnLetters$Shares", "countWays", "(I)V"⟩ ⟨"NamesOnLetters$Shares", "countWays", "(I)V"⟩ ∈ tblA := tbl_a (tbl_sel4 (q := (⟨"NamesOnLetters$Shares", "countWays", "(I)V"⟩, 10)) (List.mem_of_getElem? (i := 1) (by decide +kernel))) (by decide +kernel)
theorem ts_4_2 : Cond.selects "NamesOnLetters$Shares" ⟨"NamesOnLetters$Shares", "joinWaysOfPart", "()V"⟩ ⟨"NamesOnLetters$Shares", "joinWaysOfPart", "()V"⟩ ∈ tblA := tbl_a (tbl_sel4 (q := (⟨"NamesOnLetters$Shares", "joinWaysOfPart", "()V"⟩, 10)) (List.mem_of_getElem? (i := 2) (by decide +kernel))) (by decide +kernel)
theorem ts_4_3 : Cond.selects "NamesOnLetters$Shares" ⟨"NamesOnLetters$Shares", "tellHeaviest", "()I"⟩ ⟨"NamesOnLetters$Shares", "tellHeaviest", "()I"⟩ ∈ tblA := tbl_a (tbl_sel4 (q := (⟨"NamesOnLetters$Shares", "tellHeaviest", "()I"⟩, 10)) (List.mem_of_getElem? (i := 3) (by decide +kernel))) (by decide +kernel)
theorem ts_4_4 : Cond.selects "NamesOnLetters$Tally" ⟨"NamesOnLetters$Tally", "becomeWithout", "(LNamesOnLetters$Tally;LNamesOnLetters$Tally;)V"⟩ ⟨"NamesOnLetters$Tally", "becomeWithout", "(LNamesOnLetters$Tally;LNamesOnLetters$Tally;)V"⟩ ∈ tblA := tbl_a (tbl_sel4 (q := (⟨"NamesOnLetters$Tally", "becomeWithout", "(LNamesOnLetters$Tally;LNamesOnLetters$Tally;)V"⟩, 2)) (List.mem_of_getElem? (i := 4) (by decide +kernel))) (by decide +kernel)
theorem ts_4_5 : Cond.selects "NamesOnLetters$Shares" ⟨"NamesOnLetters$Shares", "tellName", "(I)I"⟩ ⟨"NamesOnLetters$Shares", "tellName", "(I)I"⟩ ∈ tblA := tbl_a (tbl_sel4 (q := (⟨"NamesOnLetters$Shares", "tellName", "(I)I"⟩, 10)) (List.mem_of_getElem? (i := 5) (by decide +kernel))) (by decide +kernel)
theorem ts_4_6 : Cond.selects "NamesOnLetters$Shares" ⟨"NamesOnLetters$Shares", "gatherNames", "()I"⟩ ⟨"NamesOnLetters$Shares", "gatherNames", "()I"⟩ ∈ tblA := tbl_a (tbl_sel4 (q := (⟨"NamesOnLetters$Shares", "gatherNames", "()I"⟩, 10)) (List.mem_of_getElem? (i := 6) (by decide +kernel))) (by decide +kernel)
theorem ts_4_7 : Cond.selects "NamesOnLetters$Shares" ⟨"NamesOnLetters$Shares", "tellDrawn", "()I"⟩ ⟨"NamesOnLetters$Shares", "tellDrawn", "()I"⟩ ∈ tblA := tbl_a (tbl_sel4 (q := (⟨"NamesOnLetters$Shares", "tellDrawn", "()I"⟩, 10)) (List.mem_of_getElem? (i := 7) (by decide +kernel))) (by decide +kernel)
theorem ts_4_8 : Cond.selects "NamesOnLetters$Shares" ⟨"NamesOnLetters$Shares", "scaleShares", "(I)V"⟩ ⟨"NamesOnLetters$Shares", "scaleShares", "(I)V"⟩ ∈ tblA := tbl_a (tbl_sel4 (q := (⟨"NamesOnLetters$Shares", "scaleShares", "(I)V"⟩, 10)) (List.mem_of_getElem? (i := 8) (by decide +kernel))) (by decide +kernel)
theorem ts_4_9 : Cond.selects "NamesOnLetters$Shares" ⟨"NamesOnLetters$Shares", "sumOfShares", "(II)J"⟩ ⟨"NamesOnLetters$Shares", "sumOfShares", "(II)J"⟩ ∈ tblA := tbl_a (tbl_sel4 (q := (⟨"NamesOnLetters$Shares", "sumOfShares", "(II)J"⟩, 10)) (List.mem_of_getElem? (i := 9) (by decide +kernel))) (by decide +kernel)
theorem ts_4_10 : Cond.selects "NamesOnLetters$Shares" ⟨"NamesOnLetters$Shares", "tellGoing", "(I)I"⟩ ⟨"NamesOnLetters$Shares", "tellGoing", "(I)I"⟩ ∈ tblA := tbl_a (tbl_sel4 (q := (⟨"NamesOnLetters$Shares", "tellGoing", "(I)I"⟩, 10)) (List.mem_of_getElem? (i := 10) (by decide +kernel))) (by decide +kernel)
theorem ts_4_11 : Cond.selects "NamesOnLetters$Shares" ⟨"NamesOnLetters$Shares", "pairsGoing", "(III)I"⟩ ⟨"NamesOnLetters$Shares", "pairsGoing", "(III)I"⟩ ∈ tblA := tbl_a (tbl_sel4 (q := (⟨"NamesOnLetters$Shares", "pairsGoing", "(III)I"⟩, 10)) (List.mem_of_getElem? (i := 11) (by decide +kernel))) (by decide +kernel)
theorem ts_4_12 : Cond.selects "NamesOnLetters$Shares" ⟨"NamesOnLetters$Shares", "compareBy", "(III)I"⟩ ⟨"NamesOnLetters$Shares", "compareBy", "(III)I"⟩ ∈ tblA := tbl_a (tbl_sel4 (q := (⟨"NamesOnLetters$Shares", "compareBy", "(III)I"⟩, 10)) (List.mem_of_getElem? (i := 12) (by decide +kernel))) (by decide +kernel)
theorem ts_4_13 : Cond.selects "NamesOnLetters$Shares" ⟨"NamesOnLetters$Shares", "compareShares", "(II)I"⟩ ⟨"NamesOnLetters$Shares", "compareShares", "(II)I"⟩ ∈ tblA := tbl_a (tbl_sel4 (q := (⟨"NamesOnLetters$Shares", "compareShares", "(II)I"⟩, 10)) (List.mem_of_getElem? (i := 13) (by decide +kernel))) (by decide +kernel)
theorem ts_4_14 : Cond.selects "NamesOnLetters$Shares" ⟨"NamesOnLetters$Shares", "tellSaid", "()I"⟩ ⟨"NamesOnLetters$Shares", "tellSaid", "()I"⟩ ∈ tblA := tbl_a (tbl_sel4 (q := (⟨"NamesOnLetters$Shares", "tellSaid", "()I"⟩, 10)) (List.mem_of_getElem? (i := 14) (by decide +kernel))) (by decide +kernel)
theorem ts_4_15 : Cond.selects "NamesOnLetters$Shares" ⟨"NamesOnLetters$Shares", "tellChild", "(I)I"⟩ ⟨"NamesOnLetters$Shares", "tellChild", "(I)I"⟩ ∈ tblA := tbl_a (tbl_sel4 (q := (⟨"NamesOnLetters$Shares", "tellChild", "(I)I"⟩, 10)) (List.mem_of_getElem? (i := 15) (by decide +kernel))) (by decide +kernel)
theorem ts_5_0 : Cond.selects "NamesOnLetters$Shares" ⟨"NamesOnLetters$Shares", "isChildPai\x72", "(III)Z"⟩ ⟨"NamesOnLetters$Shares", "isChildPai\x72", "(III)Z"⟩ ∈ tblA := tbl_a (tbl_sel5 (q := (⟨"NamesOnLetters$Shares", "isChildPai\x72", "(III)Z"⟩, 10)) (List.mem_of_getElem? (i := 0) (by decide +kernel))) (by decide +kernel)
theorem ts_5_1 : Cond.selects "NamesOnLetters$Kinds" ⟨"NamesOnLetters$Kinds", "housesWith", "(II)I"⟩ ⟨"NamesOnLetters$Kinds", "housesWith", "(II)I"⟩ ∈ tblA := tbl_a (tbl_sel5 (q := (⟨"NamesOnLetters$Kinds", "housesWith", "(II)I"⟩, 9)) (List.mem_of_getElem? (i := 1) (by decide +kernel))) (by decide +kernel)
theorem ts_5_2 : Cond.selects "NamesOnLetters$Told" ⟨"NamesOnLetters$Told", "hasRead", "(I)Z"⟩ ⟨"NamesOnLetters$Told", "hasRead", "(I)Z"⟩ ∈ tblA := tbl_a (tbl_sel5 (q := (⟨"NamesOnLetters$Told", "hasRead", "(I)Z"⟩, 18)) (List.mem_of_getElem? (i := 2) (by decide +kernel))) (by decide +kernel)
theorem ts_5_3 : Cond.selects "NamesOnLetters$Kinds" ⟨"NamesOnLetters$Kinds", "rungIn", "(II)I"⟩ ⟨"NamesOnLetters$Kinds", "rungIn", "(II)I"⟩ ∈ tblA := tbl_a (tbl_sel5 (q := (⟨"NamesOnLetters$Kinds", "rungIn", "(II)I"⟩, 9)) (List.mem_of_getElem? (i := 3) (by decide +kernel))) (by decide +kernel)
theorem ts_5_4 : Cond.selects "NamesOnLetters$Kinds" ⟨"NamesOnLetters$Kinds", "become", "(III)Z"⟩ ⟨"NamesOnLetters$Kinds", "become", "(III)Z"⟩ ∈ tblA := tbl_a (tbl_sel5 (q := (⟨"NamesOnLetters$Kinds", "become", "(III)Z"⟩, 9)) (List.mem_of_getElem? (i := 4) (by decide +kernel))) (by decide +kernel)
theorem ts_5_5 : Cond.selects "NamesOnLetters$Kinds" ⟨"NamesOnLetters$Kinds", "becomePart", "(II)I"⟩ ⟨"NamesOnLetters$Kinds", "becomePart", "(II)I"⟩ ∈ tblA := tbl_a (tbl_sel5 (q := (⟨"NamesOnLetters$Kinds", "becomePart", "(II)I"⟩, 9)) (List.mem_of_getElem? (i := 5) (by decide +kernel))) (by decide +kernel)
theorem ts_5_6 : Cond.selects "NamesOnLetters$Kinds" ⟨"NamesOnLetters$Kinds", "howLikely", "(II)I"⟩ ⟨"NamesOnLetters$Kinds", "howLikely", "(II)I"⟩ ∈ tblA := tbl_a (tbl_sel5 (q := (⟨"NamesOnLetters$Kinds", "howLikely", "(II)I"⟩, 9)) (List.mem_of_getElem? (i := 6) (by decide +kernel))) (by decide +kernel)
theorem ts_5_7 : Cond.selects "NamesOnLetters$Kinds" ⟨"NamesOnLetters$Kinds", "sumOfLikely", "(II)I"⟩ ⟨"NamesOnLetters$Kinds", "sumOfLikely", "(II)I"⟩ ∈ tblA := tbl_a (tbl_sel5 (q := (⟨"NamesOnLetters$Kinds", "sumOfLikely", "(II)I"⟩, 9)) (List.mem_of_getElem? (i := 7) (by decide +kernel))) (by decide +kernel)
theorem ts_5_8 : Cond.selects "NamesOnLetters$Kinds" ⟨"NamesOnLetters$Kinds", "likelihood", "(II)J"⟩ ⟨"NamesOnLetters$Kinds", "likelihood", "(II)J"⟩ ∈ tblA := tbl_a (tbl_sel5 (q := (⟨"NamesOnLetters$Kinds", "likelihood", "(II)J"⟩, 9)) (List.mem_of_getElem? (i := 8) (by decide +kernel))) (by decide +kernel)
theorem ts_5_9 : Cond.selects "NamesOnLetters$Kinds" ⟨"NamesOnLetters$Kinds", "tellFit", "()I"⟩ ⟨"NamesOnLetters$Kinds", "tellFit", "()I"⟩ ∈ tblA := tbl_a (tbl_sel5 (q := (⟨"NamesOnLetters$Kinds", "tellFit", "()I"⟩, 9)) (List.mem_of_getElem? (i := 9) (by decide +kernel))) (by decide +kernel)
theorem ts_5_10 : Cond.selects "NamesOnLetters$Big" ⟨"NamesOnLetters$Big", "become", "(I)V"⟩ ⟨"NamesOnLetters$Big", "become", "(I)V"⟩ ∈ tblA := tbl_a (tbl_sel5 (q := (⟨"NamesOnLetters$Big", "become", "(I)V"⟩, 2)) (List.mem_of_getElem? (i := 10) (by decide +kernel))) (by decide +kernel)
theorem ts_5_11 : Cond.selects "NamesOnLetters$Big" ⟨"NamesOnLetters$Big", "carry", "()V"⟩ ⟨"NamesOnLetters$Big", "carry", "()V"⟩ ∈ tblA := tbl_a (tbl_sel5 (q := (⟨"NamesOnLetters$Big", "carry", "()V"⟩, 2)) (List.mem_of_getElem? (i := 11) (by decide +kernel))) (by decide +kernel)
theorem ts_5_12 : Cond.selects "NamesOnLetters$Big" ⟨"NamesOnLetters$Big", "stretch", "(I)V"⟩ ⟨"NamesOnLetters$Big", "stretch", "(I)V"⟩ ∈ tblA := tbl_a (tbl_sel5 (q := (⟨"NamesOnLetters$Big", "stretch", "(I)V"⟩, 2)) (List.mem_of_getElem? (i := 12) (by decide +kernel))) (by decide +kernel)
theorem ts_5_13 : Cond.selects "NamesOnLetters$Kinds" ⟨"NamesOnLetters$Kinds", "isLikelie\x72", "(II)Z"⟩ ⟨"NamesOnLetters$Kinds", "isLikelie\x72", "(II)Z"⟩ ∈ tblA := tbl_a (tbl_sel5 (q := (⟨"NamesOnLetters$Kinds", "isLikelie\x72", "(II)Z"⟩, 9)) (List.mem_of_getElem? (i := 13) (by decide +kernel))) (by decide +kernel)
theorem ts_5_14 : Cond.selects "NamesOnLetters$Big" ⟨"NamesOnLetters$Big", "times", "(J)V"⟩ ⟨"NamesOnLetters$Big", "times", "(J)V"⟩ ∈ tblA := tbl_a (tbl_sel5 (q := (⟨"NamesOnLetters$Big", "times", "(J)V"⟩, 2)) (List.mem_of_getElem? (i := 14) (by decide +kernel))) (by decide +kernel)
theorem ts_5_15 : Cond.selects "NamesOnLetters$Big" ⟨"NamesOnLetters$Big", "isMoreThan", "(LNamesOnLetters$Big;)Z"⟩ ⟨"NamesOnLetters$Big", "isMoreThan", "(LNamesOnLetters$Big;)Z"⟩ ∈ tblA := tbl_a (tbl_sel5 (q := (⟨"NamesOnLetters$Big", "isMoreThan", "(LNamesOnLetters$Big;)Z"⟩, 2)) (List.mem_of_getElem? (i := 15) (by decide +kernel))) (by decide +kernel)
theorem ts_6_0 : Cond.selects "NamesOnLetters$Kinds" ⟨"NamesOnLetters$Kinds", "tellNamed", "(II)I"⟩ ⟨"NamesOnLetters$Kinds", "tellNamed", "(II)I"⟩ ∈ tblA := tbl_a (tbl_sel6 (q := (⟨"NamesOnLetters$Kinds", "tellNamed", "(II)I"⟩, 9)) (List.mem_of_getElem? (i := 0) (by decide +kernel))) (by decide +kernel)
theorem ts_6_1 : Cond.selects "NamesOnLetters$Kinds" ⟨"NamesOnLetters$Kinds", "fillSums", "(I)V"⟩ ⟨"NamesOnLetters$Kinds", "fillSums", "(I)V"⟩ ∈ tblA := tbl_a (tbl_sel6 (q := (⟨"NamesOnLetters$Kinds", "fillSums", "(I)V"⟩, 9)) (List.mem_of_getElem? (i := 1) (by decide +kernel))) (by decide +kernel)
theorem ts_6_2 : Cond.selects "NamesOnLetters$Kinds" ⟨"NamesOnLetters$Kinds", "isNamed", "(II)Z"⟩ ⟨"NamesOnLetters$Kinds", "isNamed", "(II)Z"⟩ ∈ tblA := tbl_a (tbl_sel6 (q := (⟨"NamesOnLetters$Kinds", "isNamed", "(II)Z"⟩, 9)) (List.mem_of_getElem? (i := 2) (by decide +kernel))) (by decide +kernel)
theorem ts_6_3 : Cond.selects "NamesOnLetters$Kinds" ⟨"NamesOnLetters$Kinds", "wronglyNamed", "(I)J"⟩ ⟨"NamesOnLetters$Kinds", "wronglyNamed", "(I)J"⟩ ∈ tblA := tbl_a (tbl_sel6 (q := (⟨"NamesOnLetters$Kinds", "wronglyNamed", "(I)J"⟩, 9)) (List.mem_of_getElem? (i := 3) (by decide +kernel))) (by decide +kernel)
theorem ts_6_4 : Cond.selects "NamesOnLetters$Kinds" ⟨"NamesOnLetters$Kinds", "leastLine", "(II)I"⟩ ⟨"NamesOnLetters$Kinds", "leastLine", "(II)I"⟩ ∈ tblA := tbl_a (tbl_sel6 (q := (⟨"NamesOnLetters$Kinds", "leastLine", "(II)I"⟩, 9)) (List.mem_of_getElem? (i := 4) (by decide +kernel))) (by decide +kernel)
theorem ts_6_5 : Cond.selects "NamesOnLetters$Kinds" ⟨"NamesOnLetters$Kinds", "tellMost", "()I"⟩ ⟨"NamesOnLetters$Kinds", "tellMost", "()I"⟩ ∈ tblA := tbl_a (tbl_sel6 (q := (⟨"NamesOnLetters$Kinds", "tellMost", "()I"⟩, 9)) (List.mem_of_getElem? (i := 5) (by decide +kernel))) (by decide +kernel)
theorem ts_6_6 : Cond.selects "NamesOnLetters$Kinds" ⟨"NamesOnLetters$Kinds", "fewerIn", "(I)I"⟩ ⟨"NamesOnLetters$Kinds", "fewerIn", "(I)I"⟩ ∈ tblA := tbl_a (tbl_sel6 (q := (⟨"NamesOnLetters$Kinds", "fewerIn", "(I)I"⟩, 9)) (List.mem_of_getElem? (i := 6) (by decide +kernel))) (by decide +kernel)
theorem ts_6_7 : Cond.selects "NamesOnLetters$Explained" ⟨"NamesOnLetters$Explained", "tellBoth", "(I)I"⟩ ⟨"NamesOnLetters$Explained", "tellBoth", "(I)I"⟩ ∈ tblA := tbl_a (tbl_sel6 (q := (⟨"NamesOnLetters$Explained", "tellBoth", "(I)I"⟩, 4)) (List.mem_of_getElem? (i := 7) (by decide +kernel))) (by decide +kernel)
theorem ts_6_8 : Cond.selects "NamesOnLetters$Explained" ⟨"NamesOnLetters$Explained", "gatherWorth", "(LNamesOnLetters$Tally;II)V"⟩ ⟨"NamesOnLetters$Explained", "gatherWorth", "(LNamesOnLetters$Tally;II)V"⟩ ∈ tblA := tbl_a (tbl_sel6 (q := (⟨"NamesOnLetters$Explained", "gatherWorth", "(LNamesOnLetters$Tally;II)V"⟩, 4)) (List.mem_of_getElem? (i := 8) (by decide +kernel))) (by decide +kernel)
theorem ts_6_9 : Cond.selects "NamesOnLetters$Explained" ⟨"NamesOnLetters$Explained", "tellExplained", "(I)I"⟩ ⟨"NamesOnLetters$Explained", "tellExplained", "(I)I"⟩ ∈ tblA := tbl_a (tbl_sel6 (q := (⟨"NamesOnLetters$Explained", "tellExplained", "(I)I"⟩, 4)) (List.mem_of_getElem? (i := 9) (by decide +kernel))) (by decide +kernel)
theorem ts_6_10 : Cond.selects "NamesOnLetters$Explained" ⟨"NamesOnLetters$Explained", "gatherBy", "(I)V"⟩ ⟨"NamesOnLetters$Explained", "gatherBy", "(I)V"⟩ ∈ tblA := tbl_a (tbl_sel6 (q := (⟨"NamesOnLetters$Explained", "gatherBy", "(I)V"⟩, 4)) (List.mem_of_getElem? (i := 10) (by decide +kernel))) (by decide +kernel)
theorem ts_6_11 : Cond.selects "NamesOnLetters$Explained" ⟨"NamesOnLetters$Explained", "valueOf", "(LNamesOnLetters$Letter;I)I"⟩ ⟨"NamesOnLetters$Explained", "valueOf", "(LNamesOnLetters$Letter;I)I"⟩ ∈ tblA := tbl_a (tbl_sel6 (q := (⟨"NamesOnLetters$Explained", "valueOf", "(LNamesOnLetters$Letter;I)I"⟩, 4)) (List.mem_of_getElem? (i := 11) (by decide +kernel))) (by decide +kernel)
theorem ts_6_12 : Cond.selects "NamesOnLetters$Tally" ⟨"NamesOnLetters$Tally", "asideTimes", "(J)J"⟩ ⟨"NamesOnLetters$Tally", "asideTimes", "(J)J"⟩ ∈ tblA := tbl_a (tbl_sel6 (q := (⟨"NamesOnLetters$Tally", "asideTimes", "(J)J"⟩, 2)) (List.mem_of_getElem? (i := 12) (by decide +kernel))) (by decide +kernel)
theorem ts_6_13 : Cond.selects "NamesOnLetters$Explained" ⟨"NamesOnLetters$Explained", "tellJoined", "(I)I"⟩ ⟨"NamesOnLetters$Explained", "tellJoined", "(I)I"⟩ ∈ tblA := tbl_a (tbl_sel6 (q := (⟨"NamesOnLetters$Explained", "tellJoined", "(I)I"⟩, 4)) (List.mem_of_getElem? (i := 13) (by decide +kernel))) (by decide +kernel)
theorem ts_6_14 : Cond.selects "NamesOnLetters$Explained" ⟨"NamesOnLetters$Explained", "tellBounds", "(I)I"⟩ ⟨"NamesOnLetters$Explained", "tellBounds", "(I)I"⟩ ∈ tblA := tbl_a (tbl_sel6 (q := (⟨"NamesOnLetters$Explained", "tellBounds", "(I)I"⟩, 4)) (List.mem_of_getElem? (i := 14) (by decide +kernel))) (by decide +kernel)
theorem ts_6_15 : Cond.selects "NamesOnLetters$Explained" ⟨"NamesOnLetters$Explained", "tellYears", "(I)I"⟩ ⟨"NamesOnLetters$Explained", "tellYears", "(I)I"⟩ ∈ tblA := tbl_a (tbl_sel6 (q := (⟨"NamesOnLetters$Explained", "tellYears", "(I)I"⟩, 4)) (List.mem_of_getElem? (i := 15) (by decide +kernel))) (by decide +kernel)
theorem ts_7_0 : Cond.selects "NamesOnLetters$Explained" ⟨"NamesOnLetters$Explained", "tellMornings", "(III)I"⟩ ⟨"NamesOnLetters$Explained", "tellMornings", "(III)I"⟩ ∈ tblA := tbl_a (tbl_sel7 (q := (⟨"NamesOnLetters$Explained", "tellMornings", "(III)I"⟩, 4)) (List.mem_of_getElem? (i := 0) (by decide +kernel))) (by decide +kernel)
theorem ts_7_1 : Cond.selects "NamesOnLetters$Machine" ⟨"NamesOnLetters$Machine", "noteAsking", "(III)I"⟩ ⟨"NamesOnLetters$Machine", "noteAsking", "(III)I"⟩ ∈ tblA := tbl_a (tbl_sel7 (q := (⟨"NamesOnLetters$Machine", "noteAsking", "(III)I"⟩, 8)) (List.mem_of_getElem? (i := 1) (by decide +kernel))) (by decide +kernel)
theorem ts_7_2 : Cond.selects "NamesOnLetters$Machine" ⟨"NamesOnLetters$Machine", "tellPairs", "()I"⟩ ⟨"NamesOnLetters$Machine", "tellPairs", "()I"⟩ ∈ tblA := tbl_a (tbl_sel7 (q := (⟨"NamesOnLetters$Machine", "tellPairs", "()I"⟩, 8)) (List.mem_of_getElem? (i := 2) (by decide +kernel))) (by decide +kernel)
theorem ts_7_3 : Cond.selects "NamesOnLetters$Machine" ⟨"NamesOnLetters$Machine", "weigh", "()V"⟩ ⟨"NamesOnLetters$Machine", "weigh", "()V"⟩ ∈ tblA := tbl_a (tbl_sel7 (q := (⟨"NamesOnLetters$Machine", "weigh", "()V"⟩, 8)) (List.mem_of_getElem? (i := 3) (by decide +kernel))) (by decide +kernel)
theorem ts_7_4 : Cond.selects "NamesOnLetters$Machine" ⟨"NamesOnLetters$Machine", "goesAgainst", "(IIII)Z"⟩ ⟨"NamesOnLetters$Machine", "goesAgainst", "(IIII)Z"⟩ ∈ tblA := tbl_a (tbl_sel7 (q := (⟨"NamesOnLetters$Machine", "goesAgainst", "(IIII)Z"⟩, 8)) (List.mem_of_getElem? (i := 4) (by decide +kernel))) (by decide +kernel)
theorem ts_7_5 : Cond.selects "NamesOnLetters$Machine" ⟨"NamesOnLetters$Machine", "weighedWithin", "(I)I"⟩ ⟨"NamesOnLetters$Machine", "weighedWithin", "(I)I"⟩ ∈ tblA := tbl_a (tbl_sel7 (q := (⟨"NamesOnLetters$Machine", "weighedWithin", "(I)I"⟩, 8)) (List.mem_of_getElem? (i := 5) (by decide +kernel))) (by decide +kernel)
theorem ts_7_6 : Cond.selects "NamesOnLetters$Machine" ⟨"NamesOnLetters$Machine", "tellNext", "()I"⟩ ⟨"NamesOnLetters$Machine", "tellNext", "()I"⟩ ∈ tblA := tbl_a (tbl_sel7 (q := (⟨"NamesOnLetters$Machine", "tellNext", "()I"⟩, 8)) (List.mem_of_getElem? (i := 6) (by decide +kernel))) (by decide +kernel)
theorem ts_7_7 : Cond.selects "NamesOnLetters$Machine" ⟨"NamesOnLetters$Machine", "mostLeft", "(III)I"⟩ ⟨"NamesOnLetters$Machine", "mostLeft", "(III)I"⟩ ∈ tblA := tbl_a (tbl_sel7 (q := (⟨"NamesOnLetters$Machine", "mostLeft", "(III)I"⟩, 8)) (List.mem_of_getElem? (i := 7) (by decide +kernel))) (by decide +kernel)
theorem ts_7_8 : Cond.selects "NamesOnLetters$Machine" ⟨"NamesOnLetters$Machine", "lawsWithin", "(I)I"⟩ ⟨"NamesOnLetters$Machine", "lawsWithin", "(I)I"⟩ ∈ tblA := tbl_a (tbl_sel7 (q := (⟨"NamesOnLetters$Machine", "lawsWithin", "(I)I"⟩, 8)) (List.mem_of_getElem? (i := 8) (by decide +kernel))) (by decide +kernel)
theorem ts_7_9 : Cond.selects "NamesOnLetters$Chances" ⟨"NamesOnLetters$Chances", "chanceOf", "(IIII)I"⟩ ⟨"NamesOnLetters$Chances", "chanceOf", "(IIII)I"⟩ ∈ tblA := tbl_a (tbl_sel7 (q := (⟨"NamesOnLetters$Chances", "chanceOf", "(IIII)I"⟩, 5)) (List.mem_of_getElem? (i := 9) (by decide +kernel))) (by decide +kernel)
theorem ts_7_10 : Cond.selects "NamesOnLetters$Chances" ⟨"NamesOnLetters$Chances", "fill", "(III)V"⟩ ⟨"NamesOnLetters$Chances", "fill", "(III)V"⟩ ∈ tblA := tbl_a (tbl_sel7 (q := (⟨"NamesOnLetters$Chances", "fill", "(III)V"⟩, 5)) (List.mem_of_getElem? (i := 10) (by decide +kernel))) (by decide +kernel)
theorem ts_7_11 : Cond.selects "NamesOnLetters$Big" ⟨"NamesOnLetters$Big", "add", "(LNamesOnLetters$Big;)V"⟩ ⟨"NamesOnLetters$Big", "add", "(LNamesOnLetters$Big;)V"⟩ ∈ tblA := tbl_a (tbl_sel7 (q := (⟨"NamesOnLetters$Big", "add", "(LNamesOnLetters$Big;)V"⟩, 2)) (List.mem_of_getElem? (i := 11) (by decide +kernel))) (by decide +kernel)
theorem ts_7_12 : Cond.selects "NamesOnLetters$Chances" ⟨"NamesOnLetters$Chances", "chance", "(II[LNamesOnLetters$Big;)I"⟩ ⟨"NamesOnLetters$Chances", "chance", "(II[LNamesOnLetters$Big;)I"⟩ ∈ tblA := tbl_a (tbl_sel7 (q := (⟨"NamesOnLetters$Chances", "chance", "(II[LNamesOnLetters$Big;)I"⟩, 5)) (List.mem_of_getElem? (i := 12) (by decide +kernel))) (by decide +kernel)
theorem ts_7_13 : Cond.selects "NamesOnLetters$Big" ⟨"NamesOnLetters$Big", "addProduct", "(LNamesOnLetters$Big;LNamesOnLetters$Big;)V"⟩ ⟨"NamesOnLetters$Big", "addProduct", "(LNamesOnLetters$Big;LNamesOnLetters$Big;)V"⟩ ∈ tblA := tbl_a (tbl_sel7 (q := (⟨"NamesOnLetters$Big", "addProduct", "(LNamesOnLetters$Big;LNamesOnLetters$Big;)V"⟩, 2)) (List.mem_of_getElem? (i := 13) (by decide +kernel))) (by decide +kernel)
theorem ts_7_14 : Cond.selects "NamesOnLetters$Big" ⟨"NamesOnLetters$Big", "cutBy", "(I)J"⟩ ⟨"NamesOnLetters$Big", "cutBy", "(I)J"⟩ ∈ tblA := tbl_a (tbl_sel7 (q := (⟨"NamesOnLetters$Big", "cutBy", "(I)J"⟩, 2)) (List.mem_of_getElem? (i := 14) (by decide +kernel))) (by decide +kernel)
theorem ts_7_15 : Cond.selects "NamesOnLetters$Big" ⟨"NamesOnLetters$Big", "limb", "(I)J"⟩ ⟨"NamesOnLetters$Big", "limb", "(I)J"⟩ ∈ tblA := tbl_a (tbl_sel7 (q := (⟨"NamesOnLetters$Big", "limb", "(I)J"⟩, 2)) (List.mem_of_getElem? (i := 15) (by decide +kernel))) (by decide +kernel)
theorem ts_8_0 : Cond.selects "NamesOnLetters$Chances" ⟨"NamesOnLetters$Chances", "tellLeast", "(IIII)I"⟩ ⟨"NamesOnLetters$Chances", "tellLeast", "(IIII)I"⟩ ∈ tblA := tbl_a (tbl_sel8 (q := (⟨"NamesOnLetters$Chances", "tellLeast", "(IIII)I"⟩, 5)) (List.mem_of_getElem? (i := 0) (by decide +kernel))) (by decide +kernel)
theorem ts_8_1 : Cond.selects "NamesOnLetters$Told" ⟨"NamesOnLetters$Told", "keepUnde\x72", "(I)V"⟩ ⟨"NamesOnLetters$Told", "keepUnde\x72", "(I)V"⟩ ∈ tblA := tbl_a (tbl_sel8 (q := (⟨"NamesOnLetters$Told", "keepUnde\x72", "(I)V"⟩, 18)) (List.mem_of_getElem? (i := 1) (by decide +kernel))) (by decide +kernel)
theorem ts_8_2 : Cond.selects "NamesOnLetters$Lette\x72" ⟨"NamesOnLetters$Lette\x72", "state", "()I"⟩ ⟨"NamesOnLetters$Lette\x72", "state", "()I"⟩ ∈ tblA := tbl_a (tbl_sel8 (q := (⟨"NamesOnLetters$Lette\x72", "state", "()I"⟩, 9)) (List.mem_of_getElem? (i := 2) (by decide +kernel))) (by decide +kernel)
theorem ts_8_3 : Cond.selects "NamesOnLetters$Told" ⟨"NamesOnLetters$Told", "bringBack", "(I)Z"⟩ ⟨"NamesOnLetters$Told", "bringBack", "(I)Z"⟩ ∈ tblA := tbl_a (tbl_sel8 (q := (⟨"NamesOnLetters$Told", "bringBack", "(I)Z"⟩, 18)) (List.mem_of_getElem? (i := 3) (by decide +kernel))) (by decide +kernel)
theorem ts_8_4 : Cond.selects "NamesOnLetters$Told" ⟨"NamesOnLetters$Told", "readCount", "()I"⟩ ⟨"NamesOnLetters$Told", "readCount", "()I"⟩ ∈ tblA := tbl_a (tbl_sel8 (q := (⟨"NamesOnLetters$Told", "readCount", "()I"⟩, 18)) (List.mem_of_getElem? (i := 4) (by decide +kernel))) (by decide +kernel)
theorem ts_8_5 : Cond.selects "NamesOnLetters$Told" ⟨"NamesOnLetters$Told", "rungCount", "()I"⟩ ⟨"NamesOnLetters$Told", "rungCount", "()I"⟩ ∈ tblA := tbl_a (tbl_sel8 (q := (⟨"NamesOnLetters$Told", "rungCount", "()I"⟩, 18)) (List.mem_of_getElem? (i := 5) (by decide +kernel))) (by decide +kernel)
theorem ts_8_6 : Cond.selects "java/lang/Throwable" ⟨"java/lang/Throwable", "fillInStackTrace", "(I)Ljava/lang/Throwable;"⟩ ⟨"java/lang/Throwable", "fillInStackTrace", "(I)Ljava/lang/Throwable;"⟩ ∈ tblA := tbl_a (tbl_sel8 (q := (⟨"java/lang/Throwable", "fillInStackTrace", "(I)Ljava/lang/Throwable;"⟩, 6)) (List.mem_of_getElem? (i := 6) (by decide +kernel))) (by decide +kernel)
theorem ts_8_7 : Cond.selects "NamesOnLetters$Lette\x72" ⟨"NamesOnLetters$Lette\x72", "told", "(I)I"⟩ ⟨"NamesOnLetters$Lette\x72", "told", "(I)I"⟩ ∈ tblA := tbl_a (tbl_sel8 (q := (⟨"NamesOnLetters$Lette\x72", "told", "(I)I"⟩, 9)) (List.mem_of_getElem? (i := 7) (by decide +kernel))) (by decide +kernel)
theorem ts_8_8 : Cond.selects "NamesOnLettersModel" ⟨"NamesOnLettersModel", "isHouse", "(I)Z"⟩ ⟨"NamesOnLettersModel", "isHouse", "(I)Z"⟩ ∈ tblA := tbl_a (tbl_sel8 (q := (⟨"NamesOnLettersModel", "isHouse", "(I)Z"⟩, 71)) (List.mem_of_getElem? (i := 8) (by decide +kernel))) (by decide +kernel)
theorem ts_8_9 : Cond.selects "NamesOnLettersModel" ⟨"NamesOnLettersModel", "isName", "(I)Z"⟩ ⟨"NamesOnLettersModel", "isName", "(I)Z"⟩ ∈ tblA := tbl_a (tbl_sel8 (q := (⟨"NamesOnLettersModel", "isName", "(I)Z"⟩, 71)) (List.mem_of_getElem? (i := 9) (by decide +kernel))) (by decide +kernel)
theorem ts_8_10 : Cond.selects "NamesOnLettersModel" ⟨"NamesOnLettersModel", "lettersTo", "(I)I"⟩ ⟨"NamesOnLettersModel", "lettersTo", "(I)I"⟩ ∈ tblA := tbl_a (tbl_sel8 (q := (⟨"NamesOnLettersModel", "lettersTo", "(I)I"⟩, 71)) (List.mem_of_getElem? (i := 10) (by decide +kernel))) (by decide +kernel)
theorem ts_8_11 : Cond.selects "NamesOnLettersModel" ⟨"NamesOnLettersModel", "lays", "(IIIIII)V"⟩ ⟨"NamesOnLettersModel", "lays", "(IIIIII)V"⟩ ∈ tblA := tbl_a (tbl_sel8 (q := (⟨"NamesOnLettersModel", "lays", "(IIIIII)V"⟩, 71)) (List.mem_of_getElem? (i := 11) (by decide +kernel))) (by decide +kernel)
theorem ts_8_12 : Cond.selects "NamesOnLettersModel" ⟨"NamesOnLettersModel", "namesOf", "(I)I"⟩ ⟨"NamesOnLettersModel", "namesOf", "(I)I"⟩ ∈ tblA := tbl_a (tbl_sel8 (q := (⟨"NamesOnLettersModel", "namesOf", "(I)I"⟩, 71)) (List.mem_of_getElem? (i := 12) (by decide +kernel))) (by decide +kernel)
theorem ts_8_13 : Cond.selects "NamesOnLettersModel" ⟨"NamesOnLettersModel", "draws", "(I)I"⟩ ⟨"NamesOnLettersModel", "draws", "(I)I"⟩ ∈ tblA := tbl_a (tbl_sel8 (q := (⟨"NamesOnLettersModel", "draws", "(I)I"⟩, 71)) (List.mem_of_getElem? (i := 13) (by decide +kernel))) (by decide +kernel)
theorem ts_8_14 : Cond.selects "NamesOnLettersModel" ⟨"NamesOnLettersModel", "freeName", "(III)I"⟩ ⟨"NamesOnLettersModel", "freeName", "(III)I"⟩ ∈ tblA := tbl_a (tbl_sel8 (q := (⟨"NamesOnLettersModel", "freeName", "(III)I"⟩, 71)) (List.mem_of_getElem? (i := 14) (by decide +kernel))) (by decide +kernel)
theorem ts_8_15 : Cond.selects "NamesOnLettersModel" ⟨"NamesOnLettersModel", "isLette\x72", "(I)Z"⟩ ⟨"NamesOnLettersModel", "isLette\x72", "(I)Z"⟩ ∈ tblA := tbl_a (tbl_sel8 (q := (⟨"NamesOnLettersModel", "isLette\x72", "(I)Z"⟩, 71)) (List.mem_of_getElem? (i := 15) (by decide +kernel))) (by decide +kernel)
theorem ts_9_0 : Cond.selects "NamesOnLettersModel" ⟨"NamesOnLettersModel", "refuse", "()I"⟩ ⟨"NamesOnLettersModel", "refuse", "()I"⟩ ∈ tblA := tbl_a (tbl_sel9 (q := (⟨"NamesOnLettersModel", "refuse", "()I"⟩, 71)) (List.mem_of_getElem? (i := 0) (by decide +kernel))) (by decide +kernel)
theorem ts_9_1 : Cond.selects "NamesOnLettersModel" ⟨"NamesOnLettersModel", "reads", "(IZ)I"⟩ ⟨"NamesOnLettersModel", "reads", "(IZ)I"⟩ ∈ tblA := tbl_a (tbl_sel9 (q := (⟨"NamesOnLettersModel", "reads", "(IZ)I"⟩, 71)) (List.mem_of_getElem? (i := 1) (by decide +kernel))) (by decide +kernel)
theorem ts_9_2 : Cond.selects "NamesOnLettersModel" ⟨"NamesOnLettersModel", "ranked", "(I)Z"⟩ ⟨"NamesOnLettersModel", "ranked", "(I)Z"⟩ ∈ tblA := tbl_a (tbl_sel9 (q := (⟨"NamesOnLettersModel", "ranked", "(I)Z"⟩, 71)) (List.mem_of_getElem? (i := 2) (by decide +kernel))) (by decide +kernel)
theorem ts_9_3 : Cond.selects "NamesOnLettersModel" ⟨"NamesOnLettersModel", "ahead", "()Z"⟩ ⟨"NamesOnLettersModel", "ahead", "()Z"⟩ ∈ tblA := tbl_a (tbl_sel9 (q := (⟨"NamesOnLettersModel", "ahead", "()Z"⟩, 71)) (List.mem_of_getElem? (i := 3) (by decide +kernel))) (by decide +kernel)
theorem ts_9_4 : Cond.selects "NamesOnLettersModel" ⟨"NamesOnLettersModel", "among", "(Ljava/lang/String;)I"⟩ ⟨"NamesOnLettersModel", "among", "(Ljava/lang/String;)I"⟩ ∈ tblA := tbl_a (tbl_sel9 (q := (⟨"NamesOnLettersModel", "among", "(Ljava/lang/String;)I"⟩, 71)) (List.mem_of_getElem? (i := 4) (by decide +kernel))) (by decide +kernel)
theorem ts_9_5 : Cond.selects "NamesOnLettersModel" ⟨"NamesOnLettersModel", "thing", "()Z"⟩ ⟨"NamesOnLettersModel", "thing", "()Z"⟩ ∈ tblA := tbl_a (tbl_sel9 (q := (⟨"NamesOnLettersModel", "thing", "()Z"⟩, 71)) (List.mem_of_getElem? (i := 5) (by decide +kernel))) (by decide +kernel)
theorem ts_9_6 : Cond.selects "NamesOnLettersModel" ⟨"NamesOnLettersModel", "isDigit", "()Z"⟩ ⟨"NamesOnLettersModel", "isDigit", "()Z"⟩ ∈ tblA := tbl_a (tbl_sel9 (q := (⟨"NamesOnLettersModel", "isDigit", "()Z"⟩, 71)) (List.mem_of_getElem? (i := 6) (by decide +kernel))) (by decide +kernel)
theorem ts_9_7 : Cond.selects "NamesOnLettersModel" ⟨"NamesOnLettersModel", "marks", "(I)V"⟩ ⟨"NamesOnLettersModel", "marks", "(I)V"⟩ ∈ tblA := tbl_a (tbl_sel9 (q := (⟨"NamesOnLettersModel", "marks", "(I)V"⟩, 71)) (List.mem_of_getElem? (i := 7) (by decide +kernel))) (by decide +kernel)
theorem ts_9_8 : Cond.selects "NamesOnLettersModel" ⟨"NamesOnLettersModel", "isTold", "(I)Z"⟩ ⟨"NamesOnLettersModel", "isTold", "(I)Z"⟩ ∈ tblA := tbl_a (tbl_sel9 (q := (⟨"NamesOnLettersModel", "isTold", "(I)Z"⟩, 71)) (List.mem_of_getElem? (i := 8) (by decide +kernel))) (by decide +kernel)
theorem ts_9_9 : Cond.selects "NamesOnLettersModel" ⟨"NamesOnLettersModel", "countsTill", "(I)V"⟩ ⟨"NamesOnLettersModel", "countsTill", "(I)V"⟩ ∈ tblA := tbl_a (tbl_sel9 (q := (⟨"NamesOnLettersModel", "countsTill", "(I)V"⟩, 71)) (List.mem_of_getElem? (i := 9) (by decide +kernel))) (by decide +kernel)
theorem ts_9_10 : Cond.selects "NamesOnLettersModel" ⟨"NamesOnLettersModel", "worked", "(II)I"⟩ ⟨"NamesOnLettersModel", "worked", "(II)I"⟩ ∈ tblA := tbl_a (tbl_sel9 (q := (⟨"NamesOnLettersModel", "worked", "(II)I"⟩, 71)) (List.mem_of_getElem? (i := 10) (by decide +kernel))) (by decide +kernel)
theorem ts_9_11 : Cond.selects "NamesOnLettersModel" ⟨"NamesOnLettersModel", "valueOf", "(II)I"⟩ ⟨"NamesOnLettersModel", "valueOf", "(II)I"⟩ ∈ tblA := tbl_a (tbl_sel9 (q := (⟨"NamesOnLettersModel", "valueOf", "(II)I"⟩, 71)) (List.mem_of_getElem? (i := 11) (by decide +kernel))) (by decide +kernel)
theorem ts_9_12 : Cond.selects "NamesOnLettersModel" ⟨"NamesOnLettersModel", "isFilte\x72", "(I)Z"⟩ ⟨"NamesOnLettersModel", "isFilte\x72", "(I)Z"⟩ ∈ tblA := tbl_a (tbl_sel9 (q := (⟨"NamesOnLettersModel", "isFilte\x72", "(I)Z"⟩, 71)) (List.mem_of_getElem? (i := 12) (by decide +kernel))) (by decide +kernel)
theorem ts_9_13 : Cond.selects "NamesOnLettersModel" ⟨"NamesOnLettersModel", "counts", "(II)V"⟩ ⟨"NamesOnLettersModel", "counts", "(II)V"⟩ ∈ tblA := tbl_a (tbl_sel9 (q := (⟨"NamesOnLettersModel", "counts", "(II)V"⟩, 71)) (List.mem_of_getElem? (i := 13) (by decide +kernel))) (by decide +kernel)
theorem ts_9_14 : Cond.selects "NamesOnLettersModel" ⟨"NamesOnLettersModel", "passes", "(II)Z"⟩ ⟨"NamesOnLettersModel", "passes", "(II)Z"⟩ ∈ tblA := tbl_a (tbl_sel9 (q := (⟨"NamesOnLettersModel", "passes", "(II)Z"⟩, 71)) (List.mem_of_getElem? (i := 14) (by decide +kernel))) (by decide +kernel)
theorem ts_9_15 : Cond.selects "NamesOnLettersModel" ⟨"NamesOnLettersModel", "peopleOf", "(I)I"⟩ ⟨"NamesOnLettersModel", "peopleOf", "(I)I"⟩ ∈ tblA := tbl_a (tbl_sel9 (q := (⟨"NamesOnLettersModel", "peopleOf", "(I)I"⟩, 71)) (List.mem_of_getElem? (i := 15) (by decide +kernel))) (by decide +kernel)
theorem ts_10_0 : Cond.selects "NamesOnLettersModel" ⟨"NamesOnLettersModel", "entersFraction", "(JJ)V"⟩ ⟨"NamesOnLettersModel", "entersFraction", "(JJ)V"⟩ ∈ tblA := tbl_a (tbl_sel10 (q := (⟨"NamesOnLettersModel", "entersFraction", "(JJ)V"⟩, 71)) (List.mem_of_getElem? (i := 0) (by decide +kernel))) (by decide +kernel)
theorem ts_10_1 : Cond.selects "NamesOnLettersModel" ⟨"NamesOnLettersModel", "enters", "(J)V"⟩ ⟨"NamesOnLettersModel", "enters", "(J)V"⟩ ∈ tblA := tbl_a (tbl_sel10 (q := (⟨"NamesOnLettersModel", "enters", "(J)V"⟩, 71)) (List.mem_of_getElem? (i := 1) (by decide +kernel))) (by decide +kernel)
theorem ts_10_2 : Cond.selects "NamesOnLettersModel" ⟨"NamesOnLettersModel", "areBoth", "()Z"⟩ ⟨"NamesOnLettersModel", "areBoth", "()Z"⟩ ∈ tblA := tbl_a (tbl_sel10 (q := (⟨"NamesOnLettersModel", "areBoth", "()Z"⟩, 71)) (List.mem_of_getElem? (i := 2) (by decide +kernel))) (by decide +kernel)
theorem ts_10_3 : Cond.selects "NamesOnLettersModel" ⟨"NamesOnLettersModel", "readMany", "()I"⟩ ⟨"NamesOnLettersModel", "readMany", "()I"⟩ ∈ tblA := tbl_a (tbl_sel10 (q := (⟨"NamesOnLettersModel", "readMany", "()I"⟩, 71)) (List.mem_of_getElem? (i := 3) (by decide +kernel))) (by decide +kernel)
theorem ts_10_4 : Cond.selects "NamesOnLettersModel" ⟨"NamesOnLettersModel", "countsNames", "()V"⟩ ⟨"NamesOnLettersModel", "countsNames", "()V"⟩ ∈ tblA := tbl_a (tbl_sel10 (q := (⟨"NamesOnLettersModel", "countsNames", "()V"⟩, 71)) (List.mem_of_getElem? (i := 4) (by decide +kernel))) (by decide +kernel)
theorem ts_10_5 : Cond.selects "NamesOnLettersModel" ⟨"NamesOnLettersModel", "pairsOf", "(I)V"⟩ ⟨"NamesOnLettersModel", "pairsOf", "(I)V"⟩ ∈ tblA := tbl_a (tbl_sel10 (q := (⟨"NamesOnLettersModel", "pairsOf", "(I)V"⟩, 71)) (List.mem_of_getElem? (i := 5) (by decide +kernel))) (by decide +kernel)
theorem ts_10_6 : Cond.selects "NamesOnLettersModel" ⟨"NamesOnLettersModel", "saysOf", "(II)I"⟩ ⟨"NamesOnLettersModel", "saysOf", "(II)I"⟩ ∈ tblA := tbl_a (tbl_sel10 (q := (⟨"NamesOnLettersModel", "saysOf", "(II)I"⟩, 71)) (List.mem_of_getElem? (i := 6) (by decide +kernel))) (by decide +kernel)
theorem ts_10_7 : Cond.selects "NamesOnLettersModel" ⟨"NamesOnLettersModel", "compares", "(II)I"⟩ ⟨"NamesOnLettersModel", "compares", "(II)I"⟩ ∈ tblA := tbl_a (tbl_sel10 (q := (⟨"NamesOnLettersModel", "compares", "(II)I"⟩, 71)) (List.mem_of_getElem? (i := 7) (by decide +kernel))) (by decide +kernel)
theorem ts_10_8 : Cond.selects "NamesOnLettersModel" ⟨"NamesOnLettersModel", "countsHouse", "(I)I"⟩ ⟨"NamesOnLettersModel", "countsHouse", "(I)I"⟩ ∈ tblA := tbl_a (tbl_sel10 (q := (⟨"NamesOnLettersModel", "countsHouse", "(I)I"⟩, 71)) (List.mem_of_getElem? (i := 8) (by decide +kernel))) (by decide +kernel)
theorem ts_10_9 : Cond.selects "NamesOnLettersModel" ⟨"NamesOnLettersModel", "allKinds", "()J"⟩ ⟨"NamesOnLettersModel", "allKinds", "()J"⟩ ∈ tblA := tbl_a (tbl_sel10 (q := (⟨"NamesOnLettersModel", "allKinds", "()J"⟩, 71)) (List.mem_of_getElem? (i := 9) (by decide +kernel))) (by decide +kernel)
theorem ts_10_10 : Cond.selects "NamesOnLettersModel" ⟨"NamesOnLettersModel", "wouldBe", "(I)J"⟩ ⟨"NamesOnLettersModel", "wouldBe", "(I)J"⟩ ∈ tblA := tbl_a (tbl_sel10 (q := (⟨"NamesOnLettersModel", "wouldBe", "(I)J"⟩, 71)) (List.mem_of_getElem? (i := 10) (by decide +kernel))) (by decide +kernel)
theorem ts_10_11 : Cond.selects "NamesOnLettersModel" ⟨"NamesOnLettersModel", "likelyOf", "(I)J"⟩ ⟨"NamesOnLettersModel", "likelyOf", "(I)J"⟩ ∈ tblA := tbl_a (tbl_sel10 (q := (⟨"NamesOnLettersModel", "likelyOf", "(I)J"⟩, 71)) (List.mem_of_getElem? (i := 11) (by decide +kernel))) (by decide +kernel)
theorem ts_10_12 : Cond.selects "NamesOnLettersModel" ⟨"NamesOnLettersModel", "likelies", "(I)V"⟩ ⟨"NamesOnLettersModel", "likelies", "(I)V"⟩ ∈ tblA := tbl_a (tbl_sel10 (q := (⟨"NamesOnLettersModel", "likelies", "(I)V"⟩, 71)) (List.mem_of_getElem? (i := 12) (by decide +kernel))) (by decide +kernel)
theorem ts_10_13 : Cond.selects "NamesOnLettersModel" ⟨"NamesOnLettersModel", "countsBy", "(II)V"⟩ ⟨"NamesOnLettersModel", "countsBy", "(II)V"⟩ ∈ tblA := tbl_a (tbl_sel10 (q := (⟨"NamesOnLettersModel", "countsBy", "(II)V"⟩, 71)) (List.mem_of_getElem? (i := 13) (by decide +kernel))) (by decide +kernel)
theorem ts_10_14 : Cond.selects "NamesOnLettersModel" ⟨"NamesOnLettersModel", "byWhat", "(II)I"⟩ ⟨"NamesOnLettersModel", "byWhat", "(II)I"⟩ ∈ tblA := tbl_a (tbl_sel10 (q := (⟨"NamesOnLettersModel", "byWhat", "(II)I"⟩, 71)) (List.mem_of_getElem? (i := 14) (by decide +kernel))) (by decide +kernel)
theorem ts_10_15 : Cond.selects "NamesOnLettersModel" ⟨"NamesOnLettersModel", "sums", "(JJ)V"⟩ ⟨"NamesOnLettersModel", "sums", "(JJ)V"⟩ ∈ tblA := tbl_a (tbl_sel10 (q := (⟨"NamesOnLettersModel", "sums", "(JJ)V"⟩, 71)) (List.mem_of_getElem? (i := 15) (by decide +kernel))) (by decide +kernel)
theorem ts_11_0 : Cond.selects "NamesOnLettersModel" ⟨"NamesOnLettersModel", "countsWorth", "(II)V"⟩ ⟨"NamesOnLettersModel", "countsWorth", "(II)V"⟩ ∈ tblA := tbl_a (tbl_sel11 (q := (⟨"NamesOnLettersModel", "countsWorth", "(II)V"⟩, 71)) (List.mem_of_getElem? (i := 0) (by decide +kernel))) (by decide +kernel)
theorem ts_11_1 : Cond.selects "NamesOnLettersModel" ⟨"NamesOnLettersModel", "against", "(I)I"⟩ ⟨"NamesOnLettersModel", "against", "(I)I"⟩ ∈ tblA := tbl_a (tbl_sel11 (q := (⟨"NamesOnLettersModel", "against", "(I)I"⟩, 71)) (List.mem_of_getElem? (i := 1) (by decide +kernel))) (by decide +kernel)
theorem ts_11_2 : Cond.selects "NamesOnLettersModel" ⟨"NamesOnLettersModel", "isAgainst", "(IIII)Z"⟩ ⟨"NamesOnLettersModel", "isAgainst", "(IIII)Z"⟩ ∈ tblA := tbl_a (tbl_sel11 (q := (⟨"NamesOnLettersModel", "isAgainst", "(IIII)Z"⟩, 71)) (List.mem_of_getElem? (i := 2) (by decide +kernel))) (by decide +kernel)
theorem ts_11_3 : Cond.selects "NamesOnLettersModel" ⟨"NamesOnLettersModel", "countsNone", "()V"⟩ ⟨"NamesOnLettersModel", "countsNone", "()V"⟩ ∈ tblA := tbl_a (tbl_sel11 (q := (⟨"NamesOnLettersModel", "countsNone", "()V"⟩, 71)) (List.mem_of_getElem? (i := 3) (by decide +kernel))) (by decide +kernel)
theorem ts_11_4 : Cond.selects "NamesOnLettersModel" ⟨"NamesOnLettersModel", "couldBe", "(I)I"⟩ ⟨"NamesOnLettersModel", "couldBe", "(I)I"⟩ ∈ tblA := tbl_a (tbl_sel11 (q := (⟨"NamesOnLettersModel", "couldBe", "(I)I"⟩, 71)) (List.mem_of_getElem? (i := 4) (by decide +kernel))) (by decide +kernel)
theorem ts_11_5 : Cond.selects "NamesOnLettersModel" ⟨"NamesOnLettersModel", "chances", "(III)V"⟩ ⟨"NamesOnLettersModel", "chances", "(III)V"⟩ ∈ tblA := tbl_a (tbl_sel11 (q := (⟨"NamesOnLettersModel", "chances", "(III)V"⟩, 71)) (List.mem_of_getElem? (i := 5) (by decide +kernel))) (by decide +kernel)
theorem ts_11_6 : Cond.selects "NamesOnLettersModel" ⟨"NamesOnLettersModel", "powers", "(III)V"⟩ ⟨"NamesOnLettersModel", "powers", "(III)V"⟩ ∈ tblA := tbl_a (tbl_sel11 (q := (⟨"NamesOnLettersModel", "powers", "(III)V"⟩, 71)) (List.mem_of_getElem? (i := 6) (by decide +kernel))) (by decide +kernel)
theorem ts_11_7 : Cond.selects "NamesOnLettersModel" ⟨"NamesOnLettersModel", "laysAt", "(I[I)V"⟩ ⟨"NamesOnLettersModel", "laysAt", "(I[I)V"⟩ ∈ tblA := tbl_a (tbl_sel11 (q := (⟨"NamesOnLettersModel", "laysAt", "(I[I)V"⟩, 71)) (List.mem_of_getElem? (i := 7) (by decide +kernel))) (by decide +kernel)
theorem ts_11_8 : Cond.selects "NamesOnLettersModel" ⟨"NamesOnLettersModel", "takesFrom", "(I[I)V"⟩ ⟨"NamesOnLettersModel", "takesFrom", "(I[I)V"⟩ ∈ tblA := tbl_a (tbl_sel11 (q := (⟨"NamesOnLettersModel", "takesFrom", "(I[I)V"⟩, 71)) (List.mem_of_getElem? (i := 8) (by decide +kernel))) (by decide +kernel)
theorem ts_11_9 : Cond.selects "NamesOnLettersModel" ⟨"NamesOnLettersModel", "chanceOf", "(II)I"⟩ ⟨"NamesOnLettersModel", "chanceOf", "(II)I"⟩ ∈ tblA := tbl_a (tbl_sel11 (q := (⟨"NamesOnLettersModel", "chanceOf", "(II)I"⟩, 71)) (List.mem_of_getElem? (i := 9) (by decide +kernel))) (by decide +kernel)
theorem ts_11_10 : Cond.selects "NamesOnLettersModel" ⟨"NamesOnLettersModel", "rungMany", "()I"⟩ ⟨"NamesOnLettersModel", "rungMany", "()I"⟩ ∈ tblA := tbl_a (tbl_sel11 (q := (⟨"NamesOnLettersModel", "rungMany", "()I"⟩, 71)) (List.mem_of_getElem? (i := 10) (by decide +kernel))) (by decide +kernel)
theorem ts_11_11 : Cond.selects "NamesOnLettersModel" ⟨"NamesOnLettersModel", "toldBits", "(I)I"⟩ ⟨"NamesOnLettersModel", "toldBits", "(I)I"⟩ ∈ tblA := tbl_a (tbl_sel11 (q := (⟨"NamesOnLettersModel", "toldBits", "(I)I"⟩, 71)) (List.mem_of_getElem? (i := 11) (by decide +kernel))) (by decide +kernel)
theorem tc_1_29 : Cond.code yX11_init cX11_init 1 none ∈ tblG := tbl_g (tbl_in1 (List.mem_of_getElem? (i := 29) rfl)) rfl
theorem tc_1_37 : Cond.code yX10_init cX10_init 2 none ∈ tblG := tbl_g (tbl_in1 (List.mem_of_getElem? (i := 37) rfl)) rfl
theorem tc_1_48 : Cond.code yX5_init cX5_init 1 none ∈ tblG := tbl_g (tbl_in1 (List.mem_of_getElem? (i := 48) rfl)) rfl
theorem tc_1_107 : Cond.code yX3_init cX3_init 1 none ∈ tblG := tbl_g (tbl_in1 (List.mem_of_getElem? (i := 107) rfl)) rfl
theorem tc_1_208 : Cond.code yX7_init cX7_init 1 none ∈ tblG := tbl_g (tbl_in1 (List.mem_of_getElem? (i := 208) rfl)) rfl
theorem tc_1_224 : Cond.code yX8_init cX8_init 3 none ∈ tblG := tbl_g (tbl_in1 (List.mem_of_getElem? (i := 224) rfl)) rfl
theorem tc_1_230 : Cond.code yX9_init cX9_init 1 none ∈ tblG := tbl_g (tbl_in1 (List.mem_of_getElem? (i := 230) rfl)) rfl
theorem tc_2_38 : Cond.code yX4_init cX4_init 3 none ∈ tblG := tbl_g (tbl_in2 (List.mem_of_getElem? (i := 38) rfl)) rfl
theorem tc_2_46 : Cond.code yX0_init cX0_init 2 none ∈ tblG := tbl_g (tbl_in2 (List.mem_of_getElem? (i := 46) rfl)) rfl
theorem tc_2_87 : Cond.code yX2_init cX2_init 4 none ∈ tblG := tbl_g (tbl_in2 (List.mem_of_getElem? (i := 87) rfl)) rfl
theorem tc_2_109 : Cond.code yX6_init cX6_init 3 none ∈ tblG := tbl_g (tbl_in2 (List.mem_of_getElem? (i := 109) rfl)) rfl
theorem tc_2_142 : Cond.code yX1_init cX1_init 3 none ∈ tblG := tbl_g (tbl_in2 (List.mem_of_getElem? (i := 142) rfl)) rfl
theorem tc_2_194 : Cond.code yX11_name cX11_name 5 (.some .int) ∈ tblG := tbl_g (tbl_in2 (List.mem_of_getElem? (i := 194) rfl)) rfl
theorem tc_2_197 : Cond.code yX11_within cX11_within 3 (.some .boolean) ∈ tblG := tbl_g (tbl_in2 (List.mem_of_getElem? (i := 197) rfl)) rfl
theorem tc_2_201 : Cond.code yX10_addName cX10_addName 4 (.some .int) ∈ tblG := tbl_g (tbl_in2 (List.mem_of_getElem? (i := 201) rfl)) rfl
theorem tc_2_205 : Cond.code yX11_house cX11_house 5 (.some .int) ∈ tblG := tbl_g (tbl_in2 (List.mem_of_getElem? (i := 205) rfl)) rfl
theorem tc_2_209 : Cond.code yX10_addHouse cX10_addHouse 4 (.some .int) ∈ tblG := tbl_g (tbl_in2 (List.mem_of_getElem? (i := 209) rfl)) rfl
theorem tc_2_213 : Cond.code yX11_letter cX11_letter 8 (.some .int) ∈ tblG := tbl_g (tbl_in2 (List.mem_of_getElem? (i := 213) rfl)) rfl
theorem tc_2_217 : Cond.code yX10_isHouse cX10_isHouse 2 (.some .boolean) ∈ tblG := tbl_g (tbl_in2 (List.mem_of_getElem? (i := 217) rfl)) rfl
theorem tc_2_221 : Cond.code yX10_isName cX10_isName 2 (.some .boolean) ∈ tblG := tbl_g (tbl_in2 (List.mem_of_getElem? (i := 221) rfl)) rfl
theorem tc_2_225 : Cond.code yX10_lettersTo cX10_lettersTo 4 (.some .int) ∈ tblG := tbl_g (tbl_in2 (List.mem_of_getElem? (i := 225) rfl)) rfl
theorem tc_2_229 : Cond.code yX10_addLetter cX10_addLetter 7 (.some .int) ∈ tblG := tbl_g (tbl_in2 (List.mem_of_getElem? (i := 229) rfl)) rfl
theorem tc_2_233 : Cond.code yX5_becomeState cX5_becomeState 2 none ∈ tblG := tbl_g (tbl_in2 (List.mem_of_getElem? (i := 233) rfl)) rfl
theorem tc_2_237 : Cond.code yX11_deal cX11_deal 7 (.some .int) ∈ tblG := tbl_g (tbl_in2 (List.mem_of_getElem? (i := 237) rfl)) rfl
theorem tc_3_1 : Cond.code yX10_namesOf cX10_namesOf 4 (.some .int) ∈ tblG := tbl_g (tbl_in3 (List.mem_of_getElem? (i := 1) rfl)) rfl
theorem tc_3_5 : Cond.code yX10_dealTo cX10_dealTo 12 (.some .int) ∈ tblG := tbl_g (tbl_in3 (List.mem_of_getElem? (i := 5) rfl)) rfl
theorem tc_3_11 : Cond.code yX10_draw cX10_draw 2 (.some .int) ∈ tblG := tbl_g (tbl_in3 (List.mem_of_getElem? (i := 11) rfl)) rfl
theorem tc_3_16 : Cond.code yX10_drawName cX10_drawName 6 (.some .int) ∈ tblG := tbl_g (tbl_in3 (List.mem_of_getElem? (i := 16) rfl)) rfl
theorem tc_3_20 : Cond.code yX10_isFree cX10_isFree 5 (.some .boolean) ∈ tblG := tbl_g (tbl_in3 (List.mem_of_getElem? (i := 20) rfl)) rfl
theorem tc_3_25 : Cond.code yX11_sign cX11_sign 3 (.some .int) ∈ tblG := tbl_g (tbl_in3 (List.mem_of_getElem? (i := 25) rfl)) rfl
theorem tc_3_29 : Cond.code yX11_end cX11_end 2 (.some .boolean) ∈ tblG := tbl_g (tbl_in3 (List.mem_of_getElem? (i := 29) rfl)) rfl
theorem tc_3_33 : Cond.code yX11_law cX11_law 2 (.some .int) ∈ tblG := tbl_g (tbl_in3 (List.mem_of_getElem? (i := 33) rfl)) rfl
theorem tc_3_37 : Cond.code yX11_takeText cX11_takeText 6 (.some .int) ∈ tblG := tbl_g (tbl_in3 (List.mem_of_getElem? (i := 37) rfl)) rfl
theorem tc_3_40 : Cond.code yX3_firstWrong cX3_firstWrong 10 (.some .int) ∈ tblG := tbl_g (tbl_in3 (List.mem_of_getElem? (i := 40) rfl)) rfl
theorem tc_3_43 : Cond.code yX3_isDigit cX3_isDigit 1 (.some .boolean) ∈ tblG := tbl_g (tbl_in3 (List.mem_of_getElem? (i := 43) rfl)) rfl
theorem tc_3_46 : Cond.code yX3_isThing cX3_isThing 3 (.some .boolean) ∈ tblG := tbl_g (tbl_in3 (List.mem_of_getElem? (i := 46) rfl)) rfl
theorem tc_3_51 : Cond.code yJ0_indexOf_0f7a4 cJ0_indexOf_0f7a4 2 (.some .int) ∈ tblG := tbl_g (tbl_in3 (List.mem_of_getElem? (i := 51) rfl)) rfl
theorem tc_3_55 : Cond.code yJ0_indexOf_7cf53 cJ0_indexOf_7cf53 3 (.some .int) ∈ tblG := tbl_g (tbl_in3 (List.mem_of_getElem? (i := 55) rfl)) rfl
theorem tc_3_59 : Cond.code yJ0_isLatin1_aae02 cJ0_isLatin1_aae02 1 (.some .boolean) ∈ tblG := tbl_g (tbl_in3 (List.mem_of_getElem? (i := 59) rfl)) rfl
theorem tc_3_65 : Cond.code yJ0_length_8abf5 cJ0_length_8abf5 1 (.some .int) ∈ tblG := tbl_g (tbl_in3 (List.mem_of_getElem? (i := 65) rfl)) rfl
theorem tc_3_69 : Cond.code yJ0_coder_7d493 cJ0_coder_7d493 1 (.some .byte) ∈ tblG := tbl_g (tbl_in3 (List.mem_of_getElem? (i := 69) rfl)) rfl
theorem tc_3_72 : Cond.code yJ1_indexOf_4cfef cJ1_indexOf_4cfef 4 (.some .int) ∈ tblG := tbl_g (tbl_in3 (List.mem_of_getElem? (i := 72) rfl)) rfl
theorem tc_3_75 : Cond.code yJ1_canEncode_9a6ad cJ1_canEncode_9a6ad 1 (.some .boolean) ∈ tblG := tbl_g (tbl_in3 (List.mem_of_getElem? (i := 75) rfl)) rfl
theorem tc_3_78 : Cond.code yJ9_max_7cf53 cJ9_max_7cf53 2 (.some .int) ∈ tblG := tbl_g (tbl_in3 (List.mem_of_getElem? (i := 78) rfl)) rfl
theorem tc_3_81 : Cond.code yJ9_min_7cf53 cJ9_min_7cf53 2 (.some .int) ∈ tblG := tbl_g (tbl_in3 (List.mem_of_getElem? (i := 81) rfl)) rfl
theorem tc_3_84 : Cond.code yJ1_indexOfChar_4cfef cJ1_indexOfChar_4cfef 6 (.some .int) ∈ tblG := tbl_g (tbl_in3 (List.mem_of_getElem? (i := 84) rfl)) rfl
theorem tc_3_87 : Cond.code yJ2_indexOf_4cfef cJ2_indexOf_4cfef 4 (.some .int) ∈ tblG := tbl_g (tbl_in3 (List.mem_of_getElem? (i := 87) rfl)) rfl
theorem tc_3_93 : Cond.code yJ2_indexOfChar_4cfef cJ2_indexOfChar_4cfef 4 (.some .int) ∈ tblG := tbl_g (tbl_in3 (List.mem_of_getElem? (i := 93) rfl)) rfl
theorem tc_3_96 : Cond.code yJ2_checkBoundsBeginEnd_d044e cJ2_checkBoundsBeginEnd_d044e 3 none ∈ tblG := tbl_g (tbl_in3 (List.mem_of_getElem? (i := 96) rfl)) rfl
theorem tc_3_99 : Cond.code yJ2_length_9d52b cJ2_length_9d52b 1 (.some .int) ∈ tblG := tbl_g (tbl_in3 (List.mem_of_getElem? (i := 99) rfl)) rfl
theorem tc_3_102 : Cond.code yJ0_checkBoundsBeginEnd_23922 cJ0_checkBoundsBeginEnd_23922 3 none ∈ tblG := tbl_g (tbl_in3 (List.mem_of_getElem? (i := 102) rfl)) rfl
theorem tc_3_107 : Cond.code yJ3_checkFromToIndex_8c36e cJ3_checkFromToIndex_8c36e 4 (.some .int) ∈ tblG := tbl_g (tbl_in3 (List.mem_of_getElem? (i := 107) rfl)) rfl
theorem tc_3_110 : Cond.code yJ2_indexOfCharUnsafe_4cfef cJ2_indexOfCharUnsafe_4cfef 5 (.some .int) ∈ tblG := tbl_g (tbl_in3 (List.mem_of_getElem? (i := 110) rfl)) rfl
theorem tc_3_113 : Cond.code yJ2_getChar_3b067 cJ2_getChar_3b067 2 (.some .char) ∈ tblG := tbl_g (tbl_in3 (List.mem_of_getElem? (i := 113) rfl)) rfl
theorem tc_3_122 : Cond.code yJ2_indexOfSupplementary_4cfef cJ2_indexOfSupplementary_4cfef 7 (.some .int) ∈ tblG := tbl_g (tbl_in3 (List.mem_of_getElem? (i := 122) rfl)) rfl
theorem tc_3_125 : Cond.code yJ11_isValidCodePoint_9a6ad cJ11_isValidCodePoint_9a6ad 2 (.some .boolean) ∈ tblG := tbl_g (tbl_in3 (List.mem_of_getElem? (i := 125) rfl)) rfl
theorem tc_3_128 : Cond.code yJ11_highSurrogate_5068e cJ11_highSurrogate_5068e 1 (.some .char) ∈ tblG := tbl_g (tbl_in3 (List.mem_of_getElem? (i := 128) rfl)) rfl
theorem tc_3_132 : Cond.code yJ11_lowSurrogate_5068e cJ11_lowSurrogate_5068e 1 (.some .char) ∈ tblG := tbl_g (tbl_in3 (List.mem_of_getElem? (i := 132) rfl)) rfl
theorem tc_3_136 : Cond.code yX3_strength cX3_strength 1 (.some .int) ∈ tblG := tbl_g (tbl_in3 (List.mem_of_getElem? (i := 136) rfl)) rfl
theorem tc_3_139 : Cond.code yX3_isJoining cX3_isJoining 1 (.some .boolean) ∈ tblG := tbl_g (tbl_in3 (List.mem_of_getElem? (i := 139) rfl)) rfl
theorem tc_3_144 : Cond.code yX3_become cX3_become 6 none ∈ tblG := tbl_g (tbl_in3 (List.mem_of_getElem? (i := 144) rfl)) rfl
theorem tc_3_148 : Cond.code yX3_putDigit cX3_putDigit 3 none ∈ tblG := tbl_g (tbl_in3 (List.mem_of_getElem? (i := 148) rfl)) rfl
theorem tc_3_152 : Cond.code yX3_put cX3_put 2 none ∈ tblG := tbl_g (tbl_in3 (List.mem_of_getElem? (i := 152) rfl)) rfl
theorem tc_3_156 : Cond.code yX3_push cX3_push 2 none ∈ tblG := tbl_g (tbl_in3 (List.mem_of_getElem? (i := 156) rfl)) rfl
theorem tc_3_160 : Cond.code yX3_putStronger cX3_putStronger 3 none ∈ tblG := tbl_g (tbl_in3 (List.mem_of_getElem? (i := 160) rfl)) rfl
theorem tc_3_164 : Cond.code yX3_pop cX3_pop 1 (.some .int) ∈ tblG := tbl_g (tbl_in3 (List.mem_of_getElem? (i := 164) rfl)) rfl
theorem tc_3_169 : Cond.code yX11_filter cX11_filter 2 (.some .int) ∈ tblG := tbl_g (tbl_in3 (List.mem_of_getElem? (i := 169) rfl)) rfl
theorem tc_3_173 : Cond.code yX11_read cX11_read 2 (.some .int) ∈ tblG := tbl_g (tbl_in3 (List.mem_of_getElem? (i := 173) rfl)) rfl
theorem tc_3_177 : Cond.code yX10_readNext cX10_readNext 5 (.some .int) ∈ tblG := tbl_g (tbl_in3 (List.mem_of_getElem? (i := 177) rfl)) rfl
theorem tc_3_181 : Cond.code yX10_nextUnread cX10_nextUnread 3 (.some .int) ∈ tblG := tbl_g (tbl_in3 (List.mem_of_getElem? (i := 181) rfl)) rfl
theorem tc_3_185 : Cond.code yX10_isRungByHouse cX10_isRungByHouse 4 (.some .boolean) ∈ tblG := tbl_g (tbl_in3 (List.mem_of_getElem? (i := 185) rfl)) rfl
theorem tc_3_189 : Cond.code yX10_isLaw cX10_isLaw 2 (.some .boolean) ∈ tblG := tbl_g (tbl_in3 (List.mem_of_getElem? (i := 189) rfl)) rfl
theorem tc_3_194 : Cond.code yX3_isTold cX3_isTold 1 (.some .boolean) ∈ tblG := tbl_g (tbl_in3 (List.mem_of_getElem? (i := 194) rfl)) rfl
theorem tc_3_198 : Cond.code yX10_lawFor cX10_lawFor 3 (.some .int) ∈ tblG := tbl_g (tbl_in3 (List.mem_of_getElem? (i := 198) rfl)) rfl
theorem tc_3_202 : Cond.code yX10_lookAt cX10_lookAt 2 none ∈ tblG := tbl_g (tbl_in3 (List.mem_of_getElem? (i := 202) rfl)) rfl
theorem tc_3_206 : Cond.code yX10_lookAtHouse cX10_lookAtHouse 4 none ∈ tblG := tbl_g (tbl_in3 (List.mem_of_getElem? (i := 206) rfl)) rfl
theorem tc_3_210 : Cond.code yX3_result cX3_result 4 (.some .int) ∈ tblG := tbl_g (tbl_in3 (List.mem_of_getElem? (i := 210) rfl)) rfl
theorem tc_3_214 : Cond.code yX3_operate cX3_operate 3 none ∈ tblG := tbl_g (tbl_in3 (List.mem_of_getElem? (i := 214) rfl)) rfl
theorem tc_3_217 : Cond.code yX3_joined cX3_joined 3 (.some .int) ∈ tblG := tbl_g (tbl_in3 (List.mem_of_getElem? (i := 217) rfl)) rfl
theorem tc_3_221 : Cond.code yX5_becomeRead cX5_becomeRead 2 none ∈ tblG := tbl_g (tbl_in3 (List.mem_of_getElem? (i := 221) rfl)) rfl
theorem tc_3_225 : Cond.code yX11_ring cX11_ring 3 (.some .boolean) ∈ tblG := tbl_g (tbl_in3 (List.mem_of_getElem? (i := 225) rfl)) rfl
theorem tc_3_229 : Cond.code yX10_isLetter cX10_isLetter 2 (.some .boolean) ∈ tblG := tbl_g (tbl_in3 (List.mem_of_getElem? (i := 229) rfl)) rfl
theorem tc_3_234 : Cond.code yX11_box cX11_box 5 (.some .int) ∈ tblG := tbl_g (tbl_in3 (List.mem_of_getElem? (i := 234) rfl)) rfl
theorem tc_3_238 : Cond.code yX10_readAllWithoutRings cX10_readAllWithoutRings 3 (.some .int) ∈ tblG := tbl_g (tbl_in3 (List.mem_of_getElem? (i := 238) rfl)) rfl
theorem tc_4_2 : Cond.code yX10_readAsBoxed cX10_readAsBoxed 8 (.some .int) ∈ tblG := tbl_g (tbl_in4 (List.mem_of_getElem? (i := 2) rfl)) rfl
theorem tc_4_5 : Cond.code yX10_asHeld cX10_asHeld 2 (.some .int) ∈ tblG := tbl_g (tbl_in4 (List.mem_of_getElem? (i := 5) rfl)) rfl
theorem tc_4_9 : Cond.code yX11_after cX11_after 4 (.some .int) ∈ tblG := tbl_g (tbl_in4 (List.mem_of_getElem? (i := 9) rfl)) rfl
theorem tc_4_13 : Cond.code yX11_seed cX11_seed 3 (.some .int) ∈ tblG := tbl_g (tbl_in4 (List.mem_of_getElem? (i := 13) rfl)) rfl
theorem tc_4_17 : Cond.code yX11_share cX11_share 2 (.some .int) ∈ tblG := tbl_g (tbl_in4 (List.mem_of_getElem? (i := 17) rfl)) rfl
theorem tc_4_21 : Cond.code yX8_tellShare cX8_tellShare 2 (.some .int) ∈ tblG := tbl_g (tbl_in4 (List.mem_of_getElem? (i := 21) rfl)) rfl
theorem tc_4_25 : Cond.code yX10_isFilter cX10_isFilter 2 (.some .boolean) ∈ tblG := tbl_g (tbl_in4 (List.mem_of_getElem? (i := 25) rfl)) rfl
theorem tc_4_29 : Cond.code yX8_gather cX8_gather 7 none ∈ tblG := tbl_g (tbl_in4 (List.mem_of_getElem? (i := 29) rfl)) rfl
theorem tc_4_33 : Cond.code yX9_clear cX9_clear 1 none ∈ tblG := tbl_g (tbl_in4 (List.mem_of_getElem? (i := 33) rfl)) rfl
theorem tc_4_37 : Cond.code yX10_passes cX10_passes 3 (.some .boolean) ∈ tblG := tbl_g (tbl_in4 (List.mem_of_getElem? (i := 37) rfl)) rfl
theorem tc_4_41 : Cond.code yX10_peopleOf cX10_peopleOf 2 (.some .int) ∈ tblG := tbl_g (tbl_in4 (List.mem_of_getElem? (i := 41) rfl)) rfl
theorem tc_4_45 : Cond.code yX9_note cX9_note 3 none ∈ tblG := tbl_g (tbl_in4 (List.mem_of_getElem? (i := 45) rfl)) rfl
theorem tc_4_49 : Cond.code yX7_clear cX7_clear 1 none ∈ tblG := tbl_g (tbl_in4 (List.mem_of_getElem? (i := 49) rfl)) rfl
theorem tc_4_53 : Cond.code yX9_all cX9_all 1 (.some .int) ∈ tblG := tbl_g (tbl_in4 (List.mem_of_getElem? (i := 53) rfl)) rfl
theorem tc_4_57 : Cond.code yX7_addFraction cX7_addFraction 7 none ∈ tblG := tbl_g (tbl_in4 (List.mem_of_getElem? (i := 57) rfl)) rfl
theorem tc_4_60 : Cond.code yX11_greatestDivisor cX11_greatestDivisor 11 (.some .long) ∈ tblG := tbl_g (tbl_in4 (List.mem_of_getElem? (i := 60) rfl)) rfl
theorem tc_4_64 : Cond.code yX7_add cX7_add 3 none ∈ tblG := tbl_g (tbl_in4 (List.mem_of_getElem? (i := 64) rfl)) rfl
theorem tc_4_68 : Cond.code yX11_aside cX11_aside 2 (.some .int) ∈ tblG := tbl_g (tbl_in4 (List.mem_of_getElem? (i := 68) rfl)) rfl
theorem tc_4_72 : Cond.code yX8_tellAside cX8_tellAside 3 (.some .int) ∈ tblG := tbl_g (tbl_in4 (List.mem_of_getElem? (i := 72) rfl)) rfl
theorem tc_4_76 : Cond.code yX9_hasBoth cX9_hasBoth 1 (.some .boolean) ∈ tblG := tbl_g (tbl_in4 (List.mem_of_getElem? (i := 76) rfl)) rfl
theorem tc_4_80 : Cond.code yX9_asideUpper cX9_asideUpper 1 (.some .long) ∈ tblG := tbl_g (tbl_in4 (List.mem_of_getElem? (i := 80) rfl)) rfl
theorem tc_4_84 : Cond.code yX9_asideLower cX9_asideLower 1 (.some .long) ∈ tblG := tbl_g (tbl_in4 (List.mem_of_getElem? (i := 84) rfl)) rfl
theorem tc_4_89 : Cond.code yX11_odds cX11_odds 3 (.some .int) ∈ tblG := tbl_g (tbl_in4 (List.mem_of_getElem? (i := 89) rfl)) rfl
theorem tc_4_93 : Cond.code yX8_tellOdds cX8_tellOdds 10 (.some .int) ∈ tblG := tbl_g (tbl_in4 (List.mem_of_getElem? (i := 93) rfl)) rfl
theorem tc_4_98 : Cond.code yX8_countWays cX8_countWays 3 none ∈ tblG := tbl_g (tbl_in4 (List.mem_of_getElem? (i := 98) rfl)) rfl
theorem tc_4_102 : Cond.code yX8_joinWaysOfPart cX8_joinWaysOfPart 9 none ∈ tblG := tbl_g (tbl_in4 (List.mem_of_getElem? (i := 102) rfl)) rfl
theorem tc_4_105 : Cond.code yX11_choices cX11_choices 5 (.some .long) ∈ tblG := tbl_g (tbl_in4 (List.mem_of_getElem? (i := 105) rfl)) rfl
theorem tc_4_109 : Cond.code yX11_weighs cX11_weighs 1 (.some .int) ∈ tblG := tbl_g (tbl_in4 (List.mem_of_getElem? (i := 109) rfl)) rfl
theorem tc_4_113 : Cond.code yX8_tellHeaviest cX8_tellHeaviest 13 (.some .int) ∈ tblG := tbl_g (tbl_in4 (List.mem_of_getElem? (i := 113) rfl)) rfl
theorem tc_4_117 : Cond.code yX9_becomeWithout cX9_becomeWithout 4 none ∈ tblG := tbl_g (tbl_in4 (List.mem_of_getElem? (i := 117) rfl)) rfl
theorem tc_4_121 : Cond.code yX11_names cX11_names 2 (.some .int) ∈ tblG := tbl_g (tbl_in4 (List.mem_of_getElem? (i := 121) rfl)) rfl
theorem tc_4_125 : Cond.code yX8_tellName cX8_tellName 2 (.some .int) ∈ tblG := tbl_g (tbl_in4 (List.mem_of_getElem? (i := 125) rfl)) rfl
theorem tc_4_130 : Cond.code yX8_gatherNames cX8_gatherNames 3 (.some .int) ∈ tblG := tbl_g (tbl_in4 (List.mem_of_getElem? (i := 130) rfl)) rfl
theorem tc_4_134 : Cond.code yX11_drawn cX11_drawn 1 (.some .int) ∈ tblG := tbl_g (tbl_in4 (List.mem_of_getElem? (i := 134) rfl)) rfl
theorem tc_4_138 : Cond.code yX8_tellDrawn cX8_tellDrawn 9 (.some .int) ∈ tblG := tbl_g (tbl_in4 (List.mem_of_getElem? (i := 138) rfl)) rfl
theorem tc_4_142 : Cond.code yX8_scaleShares cX8_scaleShares 6 none ∈ tblG := tbl_g (tbl_in4 (List.mem_of_getElem? (i := 142) rfl)) rfl
theorem tc_4_145 : Cond.code yX11_leastMultiple cX11_leastMultiple 6 (.some .long) ∈ tblG := tbl_g (tbl_in4 (List.mem_of_getElem? (i := 145) rfl)) rfl
theorem tc_4_149 : Cond.code yJ6_bitCount_0f7a4 cJ6_bitCount_0f7a4 1 (.some .int) ∈ tblG := tbl_g (tbl_in4 (List.mem_of_getElem? (i := 149) rfl)) rfl
theorem tc_4_156 : Cond.code yX8_sumOfShares cX8_sumOfShares 6 (.some .long) ∈ tblG := tbl_g (tbl_in4 (List.mem_of_getElem? (i := 156) rfl)) rfl
theorem tc_4_160 : Cond.code yX11_goes cX11_goes 2 (.some .int) ∈ tblG := tbl_g (tbl_in4 (List.mem_of_getElem? (i := 160) rfl)) rfl
theorem tc_4_164 : Cond.code yX8_tellGoing cX8_tellGoing 3 (.some .int) ∈ tblG := tbl_g (tbl_in4 (List.mem_of_getElem? (i := 164) rfl)) rfl
theorem tc_4_168 : Cond.code yX8_pairsGoing cX8_pairsGoing 8 (.some .int) ∈ tblG := tbl_g (tbl_in4 (List.mem_of_getElem? (i := 168) rfl)) rfl
theorem tc_4_172 : Cond.code yX8_compareBy cX8_compareBy 4 (.some .int) ∈ tblG := tbl_g (tbl_in4 (List.mem_of_getElem? (i := 172) rfl)) rfl
theorem tc_4_175 : Cond.code yJ6_compare_7cf53 cJ6_compare_7cf53 2 (.some .int) ∈ tblG := tbl_g (tbl_in4 (List.mem_of_getElem? (i := 175) rfl)) rfl
theorem tc_4_179 : Cond.code yX8_compareShares cX8_compareShares 3 (.some .int) ∈ tblG := tbl_g (tbl_in4 (List.mem_of_getElem? (i := 179) rfl)) rfl
theorem tc_4_183 : Cond.code yX11_says cX11_says 1 (.some .int) ∈ tblG := tbl_g (tbl_in4 (List.mem_of_getElem? (i := 183) rfl)) rfl
theorem tc_4_187 : Cond.code yX8_tellSaid cX8_tellSaid 6 (.some .int) ∈ tblG := tbl_g (tbl_in4 (List.mem_of_getElem? (i := 187) rfl)) rfl
theorem tc_4_190 : Cond.code yJ9_abs_0f7a4 cJ9_abs_0f7a4 1 (.some .int) ∈ tblG := tbl_g (tbl_in4 (List.mem_of_getElem? (i := 190) rfl)) rfl
theorem tc_4_194 : Cond.code yX11_child cX11_child 2 (.some .int) ∈ tblG := tbl_g (tbl_in4 (List.mem_of_getElem? (i := 194) rfl)) rfl
theorem tc_4_198 : Cond.code yX8_tellChild cX8_tellChild 9 (.some .int) ∈ tblG := tbl_g (tbl_in4 (List.mem_of_getElem? (i := 198) rfl)) rfl
theorem tc_4_202 : Cond.code yX8_isChildPair cX8_isChildPair 4 (.some .boolean) ∈ tblG := tbl_g (tbl_in4 (List.mem_of_getElem? (i := 202) rfl)) rfl
theorem tc_4_206 : Cond.code yX11_table cX11_table 3 (.some .int) ∈ tblG := tbl_g (tbl_in4 (List.mem_of_getElem? (i := 206) rfl)) rfl
theorem tc_4_210 : Cond.code yX4_housesWith cX4_housesWith 5 (.some .int) ∈ tblG := tbl_g (tbl_in4 (List.mem_of_getElem? (i := 210) rfl)) rfl
theorem tc_4_215 : Cond.code yX10_hasRead cX10_hasRead 3 (.some .boolean) ∈ tblG := tbl_g (tbl_in4 (List.mem_of_getElem? (i := 215) rfl)) rfl
theorem tc_4_219 : Cond.code yX4_rungIn cX4_rungIn 6 (.some .int) ∈ tblG := tbl_g (tbl_in4 (List.mem_of_getElem? (i := 219) rfl)) rfl
theorem tc_4_224 : Cond.code yX11_kind cX11_kind 4 (.some .boolean) ∈ tblG := tbl_g (tbl_in4 (List.mem_of_getElem? (i := 224) rfl)) rfl
theorem tc_4_228 : Cond.code yX4_become cX4_become 4 (.some .boolean) ∈ tblG := tbl_g (tbl_in4 (List.mem_of_getElem? (i := 228) rfl)) rfl
theorem tc_4_232 : Cond.code yX11_parts cX11_parts 3 (.some .int) ∈ tblG := tbl_g (tbl_in4 (List.mem_of_getElem? (i := 232) rfl)) rfl
theorem tc_4_236 : Cond.code yX4_becomePart cX4_becomePart 5 (.some .int) ∈ tblG := tbl_g (tbl_in4 (List.mem_of_getElem? (i := 236) rfl)) rfl
theorem tc_5_0 : Cond.code yX11_likely cX11_likely 3 (.some .int) ∈ tblG := tbl_g (tbl_in5 (List.mem_of_getElem? (i := 0) rfl)) rfl
theorem tc_5_4 : Cond.code yX4_howLikely cX4_howLikely 4 (.some .int) ∈ tblG := tbl_g (tbl_in5 (List.mem_of_getElem? (i := 4) rfl)) rfl
theorem tc_5_9 : Cond.code yX4_sumOfLikely cX4_sumOfLikely 8 (.some .int) ∈ tblG := tbl_g (tbl_in5 (List.mem_of_getElem? (i := 9) rfl)) rfl
theorem tc_5_13 : Cond.code yX4_likelihood cX4_likelihood 8 (.some .long) ∈ tblG := tbl_g (tbl_in5 (List.mem_of_getElem? (i := 13) rfl)) rfl
theorem tc_5_18 : Cond.code yX11_fit cX11_fit 1 (.some .int) ∈ tblG := tbl_g (tbl_in5 (List.mem_of_getElem? (i := 18) rfl)) rfl
theorem tc_5_22 : Cond.code yX4_tellFit cX4_tellFit 4 (.some .int) ∈ tblG := tbl_g (tbl_in5 (List.mem_of_getElem? (i := 22) rfl)) rfl
theorem tc_5_26 : Cond.code yX0_become cX0_become 2 none ∈ tblG := tbl_g (tbl_in5 (List.mem_of_getElem? (i := 26) rfl)) rfl
theorem tc_5_30 : Cond.code yX0_carry cX0_carry 4 none ∈ tblG := tbl_g (tbl_in5 (List.mem_of_getElem? (i := 30) rfl)) rfl
theorem tc_5_34 : Cond.code yX0_stretch cX0_stretch 3 none ∈ tblG := tbl_g (tbl_in5 (List.mem_of_getElem? (i := 34) rfl)) rfl
theorem tc_5_39 : Cond.code yX4_isLikelier cX4_isLikelier 7 (.some .boolean) ∈ tblG := tbl_g (tbl_in5 (List.mem_of_getElem? (i := 39) rfl)) rfl
theorem tc_5_42 : Cond.code yX4_tenths cX4_tenths 5 (.some .int) ∈ tblG := tbl_g (tbl_in5 (List.mem_of_getElem? (i := 42) rfl)) rfl
theorem tc_5_46 : Cond.code yX0_times cX0_times 4 none ∈ tblG := tbl_g (tbl_in5 (List.mem_of_getElem? (i := 46) rfl)) rfl
theorem tc_5_50 : Cond.code yX0_isMoreThan cX0_isMoreThan 3 (.some .boolean) ∈ tblG := tbl_g (tbl_in5 (List.mem_of_getElem? (i := 50) rfl)) rfl
theorem tc_5_56 : Cond.code yX11_named cX11_named 3 (.some .int) ∈ tblG := tbl_g (tbl_in5 (List.mem_of_getElem? (i := 56) rfl)) rfl
theorem tc_5_60 : Cond.code yX4_tellNamed cX4_tellNamed 8 (.some .int) ∈ tblG := tbl_g (tbl_in5 (List.mem_of_getElem? (i := 60) rfl)) rfl
theorem tc_5_65 : Cond.code yX4_fillSums cX4_fillSums 3 none ∈ tblG := tbl_g (tbl_in5 (List.mem_of_getElem? (i := 65) rfl)) rfl
theorem tc_5_69 : Cond.code yX4_isNamed cX4_isNamed 3 (.some .boolean) ∈ tblG := tbl_g (tbl_in5 (List.mem_of_getElem? (i := 69) rfl)) rfl
theorem tc_5_73 : Cond.code yX4_wronglyNamed cX4_wronglyNamed 5 (.some .long) ∈ tblG := tbl_g (tbl_in5 (List.mem_of_getElem? (i := 73) rfl)) rfl
theorem tc_5_77 : Cond.code yX11_sure cX11_sure 3 (.some .int) ∈ tblG := tbl_g (tbl_in5 (List.mem_of_getElem? (i := 77) rfl)) rfl
theorem tc_5_81 : Cond.code yX4_leastLine cX4_leastLine 4 (.some .int) ∈ tblG := tbl_g (tbl_in5 (List.mem_of_getElem? (i := 81) rfl)) rfl
theorem tc_5_86 : Cond.code yX11_most cX11_most 1 (.some .int) ∈ tblG := tbl_g (tbl_in5 (List.mem_of_getElem? (i := 86) rfl)) rfl
theorem tc_5_90 : Cond.code yX4_tellMost cX4_tellMost 7 (.some .int) ∈ tblG := tbl_g (tbl_in5 (List.mem_of_getElem? (i := 90) rfl)) rfl
theorem tc_5_94 : Cond.code yX4_fewerIn cX4_fewerIn 3 (.some .int) ∈ tblG := tbl_g (tbl_in5 (List.mem_of_getElem? (i := 94) rfl)) rfl
theorem tc_5_98 : Cond.code yX11_both cX11_both 2 (.some .int) ∈ tblG := tbl_g (tbl_in5 (List.mem_of_getElem? (i := 98) rfl)) rfl
theorem tc_5_102 : Cond.code yX2_tellBoth cX2_tellBoth 6 (.some .int) ∈ tblG := tbl_g (tbl_in5 (List.mem_of_getElem? (i := 102) rfl)) rfl
theorem tc_5_107 : Cond.code yX2_gatherWorth cX2_gatherWorth 6 none ∈ tblG := tbl_g (tbl_in5 (List.mem_of_getElem? (i := 107) rfl)) rfl
theorem tc_5_120 : Cond.code yX11_explains cX11_explains 2 (.some .int) ∈ tblG := tbl_g (tbl_in5 (List.mem_of_getElem? (i := 120) rfl)) rfl
theorem tc_5_124 : Cond.code yX2_tellExplained cX2_tellExplained 9 (.some .int) ∈ tblG := tbl_g (tbl_in5 (List.mem_of_getElem? (i := 124) rfl)) rfl
theorem tc_5_128 : Cond.code yX2_gatherBy cX2_gatherBy 4 none ∈ tblG := tbl_g (tbl_in5 (List.mem_of_getElem? (i := 128) rfl)) rfl
theorem tc_5_132 : Cond.code yX2_valueOf cX2_valueOf 3 (.some .int) ∈ tblG := tbl_g (tbl_in5 (List.mem_of_getElem? (i := 132) rfl)) rfl
theorem tc_5_138 : Cond.code yX9_asideTimes cX9_asideTimes 3 (.some .long) ∈ tblG := tbl_g (tbl_in5 (List.mem_of_getElem? (i := 138) rfl)) rfl
theorem tc_5_143 : Cond.code yX11_join cX11_join 2 (.some .int) ∈ tblG := tbl_g (tbl_in5 (List.mem_of_getElem? (i := 143) rfl)) rfl
theorem tc_5_147 : Cond.code yX2_tellJoined cX2_tellJoined 12 (.some .int) ∈ tblG := tbl_g (tbl_in5 (List.mem_of_getElem? (i := 147) rfl)) rfl
theorem tc_5_151 : Cond.code yX11_bounds cX11_bounds 2 (.some .int) ∈ tblG := tbl_g (tbl_in5 (List.mem_of_getElem? (i := 151) rfl)) rfl
theorem tc_5_155 : Cond.code yX2_tellBounds cX2_tellBounds 7 (.some .int) ∈ tblG := tbl_g (tbl_in5 (List.mem_of_getElem? (i := 155) rfl)) rfl
theorem tc_5_159 : Cond.code yX11_years cX11_years 2 (.some .int) ∈ tblG := tbl_g (tbl_in5 (List.mem_of_getElem? (i := 159) rfl)) rfl
theorem tc_5_163 : Cond.code yX2_tellYears cX2_tellYears 4 (.some .int) ∈ tblG := tbl_g (tbl_in5 (List.mem_of_getElem? (i := 163) rfl)) rfl
theorem tc_5_167 : Cond.code yX11_mornings cX11_mornings 4 (.some .int) ∈ tblG := tbl_g (tbl_in5 (List.mem_of_getElem? (i := 167) rfl)) rfl
theorem tc_5_171 : Cond.code yX2_tellMornings cX2_tellMornings 11 (.some .int) ∈ tblG := tbl_g (tbl_in5 (List.mem_of_getElem? (i := 171) rfl)) rfl
theorem tc_5_175 : Cond.code yX11_asked cX11_asked 4 (.some .int) ∈ tblG := tbl_g (tbl_in5 (List.mem_of_getElem? (i := 175) rfl)) rfl
theorem tc_5_179 : Cond.code yX6_noteAsking cX6_noteAsking 5 (.some .int) ∈ tblG := tbl_g (tbl_in5 (List.mem_of_getElem? (i := 179) rfl)) rfl
theorem tc_5_185 : Cond.code yX11_pairs cX11_pairs 1 (.some .int) ∈ tblG := tbl_g (tbl_in5 (List.mem_of_getElem? (i := 185) rfl)) rfl
theorem tc_5_189 : Cond.code yX6_tellPairs cX6_tellPairs 2 (.some .int) ∈ tblG := tbl_g (tbl_in5 (List.mem_of_getElem? (i := 189) rfl)) rfl
theorem tc_5_193 : Cond.code yX6_weigh cX6_weigh 3 none ∈ tblG := tbl_g (tbl_in5 (List.mem_of_getElem? (i := 193) rfl)) rfl
theorem tc_5_200 : Cond.code yX6_goesAgainst cX6_goesAgainst 6 (.some .boolean) ∈ tblG := tbl_g (tbl_in5 (List.mem_of_getElem? (i := 200) rfl)) rfl
theorem tc_5_208 : Cond.code yX6_weighedWithin cX6_weighedWithin 4 (.some .int) ∈ tblG := tbl_g (tbl_in5 (List.mem_of_getElem? (i := 208) rfl)) rfl
theorem tc_5_212 : Cond.code yX11_ask cX11_ask 1 (.some .int) ∈ tblG := tbl_g (tbl_in5 (List.mem_of_getElem? (i := 212) rfl)) rfl
theorem tc_5_216 : Cond.code yX6_tellNext cX6_tellNext 8 (.some .int) ∈ tblG := tbl_g (tbl_in5 (List.mem_of_getElem? (i := 216) rfl)) rfl
theorem tc_5_221 : Cond.code yX6_mostLeft cX6_mostLeft 9 (.some .int) ∈ tblG := tbl_g (tbl_in5 (List.mem_of_getElem? (i := 221) rfl)) rfl
theorem tc_5_226 : Cond.code yX11_nearly cX11_nearly 2 (.some .int) ∈ tblG := tbl_g (tbl_in5 (List.mem_of_getElem? (i := 226) rfl)) rfl
theorem tc_5_230 : Cond.code yX6_lawsWithin cX6_lawsWithin 2 (.some .int) ∈ tblG := tbl_g (tbl_in5 (List.mem_of_getElem? (i := 230) rfl)) rfl
theorem tc_5_234 : Cond.code yX11_shows cX11_shows 5 (.some .int) ∈ tblG := tbl_g (tbl_in5 (List.mem_of_getElem? (i := 234) rfl)) rfl
theorem tc_5_238 : Cond.code yX1_chanceOf cX1_chanceOf 6 (.some .int) ∈ tblG := tbl_g (tbl_in5 (List.mem_of_getElem? (i := 238) rfl)) rfl
theorem tc_6_3 : Cond.code yX1_fill cX1_fill 5 none ∈ tblG := tbl_g (tbl_in6 (List.mem_of_getElem? (i := 3) rfl)) rfl
theorem tc_6_6 : Cond.code yX1_fillWays cX1_fillWays 5 none ∈ tblG := tbl_g (tbl_in6 (List.mem_of_getElem? (i := 6) rfl)) rfl
theorem tc_6_13 : Cond.code yX0_add cX0_add 3 none ∈ tblG := tbl_g (tbl_in6 (List.mem_of_getElem? (i := 13) rfl)) rfl
theorem tc_6_17 : Cond.code yX1_chance cX1_chance 5 (.some .int) ∈ tblG := tbl_g (tbl_in6 (List.mem_of_getElem? (i := 17) rfl)) rfl
theorem tc_6_21 : Cond.code yX0_addProduct cX0_addProduct 5 none ∈ tblG := tbl_g (tbl_in6 (List.mem_of_getElem? (i := 21) rfl)) rfl
theorem tc_6_26 : Cond.code yX0_cutBy cX0_cutBy 5 (.some .long) ∈ tblG := tbl_g (tbl_in6 (List.mem_of_getElem? (i := 26) rfl)) rfl
theorem tc_6_30 : Cond.code yX0_limb cX0_limb 2 (.some .long) ∈ tblG := tbl_g (tbl_in6 (List.mem_of_getElem? (i := 30) rfl)) rfl
theorem tc_6_35 : Cond.code yX11_least cX11_least 5 (.some .int) ∈ tblG := tbl_g (tbl_in6 (List.mem_of_getElem? (i := 35) rfl)) rfl
theorem tc_6_39 : Cond.code yX1_tellLeast cX1_tellLeast 9 (.some .int) ∈ tblG := tbl_g (tbl_in6 (List.mem_of_getElem? (i := 39) rfl)) rfl
theorem tc_6_46 : Cond.code yX11_keep cX11_keep 2 (.some .boolean) ∈ tblG := tbl_g (tbl_in6 (List.mem_of_getElem? (i := 46) rfl)) rfl
theorem tc_6_50 : Cond.code yX10_keepUnder cX10_keepUnder 3 none ∈ tblG := tbl_g (tbl_in6 (List.mem_of_getElem? (i := 50) rfl)) rfl
theorem tc_6_54 : Cond.code yX5_state cX5_state 1 (.some .int) ∈ tblG := tbl_g (tbl_in6 (List.mem_of_getElem? (i := 54) rfl)) rfl
theorem tc_6_58 : Cond.code yX11_again cX11_again 2 (.some .boolean) ∈ tblG := tbl_g (tbl_in6 (List.mem_of_getElem? (i := 58) rfl)) rfl
theorem tc_6_62 : Cond.code yX10_bringBack cX10_bringBack 3 (.some .boolean) ∈ tblG := tbl_g (tbl_in6 (List.mem_of_getElem? (i := 62) rfl)) rfl
theorem tc_6_66 : Cond.code yX11_count cX11_count 2 (.some .int) ∈ tblG := tbl_g (tbl_in6 (List.mem_of_getElem? (i := 66) rfl)) rfl
theorem tc_6_70 : Cond.code yX10_readCount cX10_readCount 3 (.some .int) ∈ tblG := tbl_g (tbl_in6 (List.mem_of_getElem? (i := 70) rfl)) rfl
theorem tc_6_74 : Cond.code yX10_rungCount cX10_rungCount 3 (.some .int) ∈ tblG := tbl_g (tbl_in6 (List.mem_of_getElem? (i := 74) rfl)) rfl
theorem tc_6_77 : Cond.code yX11_toldBits cX11_toldBits 3 (.some .int) ∈ tblG := tbl_g (tbl_in6 (List.mem_of_getElem? (i := 77) rfl)) rfl
theorem tc_6_86 : Cond.code yX11_of cX11_of 3 (.some .int) ∈ tblG := tbl_g (tbl_in6 (List.mem_of_getElem? (i := 86) rfl)) rfl
theorem tc_6_155 : Cond.code yX5_told cX5_told 2 (.some .int) ∈ tblG := tbl_g (tbl_in6 (List.mem_of_getElem? (i := 155) rfl)) rfl
theorem tc_6_162 : Cond.code yX11_value cX11_value 3 (.some .int) ∈ tblG := tbl_g (tbl_in6 (List.mem_of_getElem? (i := 162) rfl)) rfl
theorem tc_6_172 : Cond.code yX11_row cX11_row 2 (.some .long) ∈ tblG := tbl_g (tbl_in6 (List.mem_of_getElem? (i := 172) rfl)) rfl
theorem tc_6_177 : Cond.code yX12_thrown cX12_thrown 1 (.some .int) ∈ tblG := tbl_g (tbl_in6 (List.mem_of_getElem? (i := 177) rfl)) rfl
theorem tc_6_181 : Cond.code yX12_name cX12_name 4 (.some .int) ∈ tblG := tbl_g (tbl_in6 (List.mem_of_getElem? (i := 181) rfl)) rfl
theorem tc_6_184 : Cond.code yX12_in cX12_in 6 (.some .boolean) ∈ tblG := tbl_g (tbl_in6 (List.mem_of_getElem? (i := 184) rfl)) rfl
theorem tc_6_189 : Cond.code yX12_house cX12_house 4 (.some .int) ∈ tblG := tbl_g (tbl_in6 (List.mem_of_getElem? (i := 189) rfl)) rfl
theorem tc_6_195 : Cond.code yX12_letter cX12_letter 7 (.some .int) ∈ tblG := tbl_g (tbl_in6 (List.mem_of_getElem? (i := 195) rfl)) rfl
theorem tc_6_200 : Cond.code yX12_isHouse cX12_isHouse 2 (.some .boolean) ∈ tblG := tbl_g (tbl_in6 (List.mem_of_getElem? (i := 200) rfl)) rfl
theorem tc_6_204 : Cond.code yX12_isName cX12_isName 2 (.some .boolean) ∈ tblG := tbl_g (tbl_in6 (List.mem_of_getElem? (i := 204) rfl)) rfl
theorem tc_6_210 : Cond.code yX12_lettersTo cX12_lettersTo 4 (.some .int) ∈ tblG := tbl_g (tbl_in6 (List.mem_of_getElem? (i := 210) rfl)) rfl
theorem tc_6_213 : Cond.code yX12_flag cX12_flag 1 (.some .int) ∈ tblG := tbl_g (tbl_in6 (List.mem_of_getElem? (i := 213) rfl)) rfl
theorem tc_6_217 : Cond.code yX12_lays cX12_lays 8 none ∈ tblG := tbl_g (tbl_in6 (List.mem_of_getElem? (i := 217) rfl)) rfl
theorem tc_6_221 : Cond.code yX12_deal cX12_deal 14 (.some .int) ∈ tblG := tbl_g (tbl_in6 (List.mem_of_getElem? (i := 221) rfl)) rfl
theorem tc_6_225 : Cond.code yX12_namesOf cX12_namesOf 4 (.some .int) ∈ tblG := tbl_g (tbl_in6 (List.mem_of_getElem? (i := 225) rfl)) rfl
theorem tc_6_229 : Cond.code yX12_draws cX12_draws 2 (.some .int) ∈ tblG := tbl_g (tbl_in6 (List.mem_of_getElem? (i := 229) rfl)) rfl
theorem tc_6_234 : Cond.code yX12_freeName cX12_freeName 8 (.some .int) ∈ tblG := tbl_g (tbl_in6 (List.mem_of_getElem? (i := 234) rfl)) rfl
theorem tc_6_238 : Cond.code yX12_of cX12_of 3 (.some .int) ∈ tblG := tbl_g (tbl_in6 (List.mem_of_getElem? (i := 238) rfl)) rfl
theorem tc_7_2 : Cond.code yX12_isLetter cX12_isLetter 2 (.some .boolean) ∈ tblG := tbl_g (tbl_in7 (List.mem_of_getElem? (i := 2) rfl)) rfl
theorem tc_7_7 : Cond.code yX12_refuse cX12_refuse 1 (.some .int) ∈ tblG := tbl_g (tbl_in7 (List.mem_of_getElem? (i := 7) rfl)) rfl
theorem tc_7_11 : Cond.code yX12_sign cX12_sign 3 (.some .int) ∈ tblG := tbl_g (tbl_in7 (List.mem_of_getElem? (i := 11) rfl)) rfl
theorem tc_7_15 : Cond.code yX12_end cX12_end 2 (.some .boolean) ∈ tblG := tbl_g (tbl_in7 (List.mem_of_getElem? (i := 15) rfl)) rfl
theorem tc_7_19 : Cond.code yX12_law cX12_law 2 (.some .int) ∈ tblG := tbl_g (tbl_in7 (List.mem_of_getElem? (i := 19) rfl)) rfl
theorem tc_7_23 : Cond.code yX12_reads cX12_reads 7 (.some .int) ∈ tblG := tbl_g (tbl_in7 (List.mem_of_getElem? (i := 23) rfl)) rfl
theorem tc_7_28 : Cond.code yX12_ranked cX12_ranked 6 (.some .boolean) ∈ tblG := tbl_g (tbl_in7 (List.mem_of_getElem? (i := 28) rfl)) rfl
theorem tc_7_32 : Cond.code yX12_ahead cX12_ahead 3 (.some .boolean) ∈ tblG := tbl_g (tbl_in7 (List.mem_of_getElem? (i := 32) rfl)) rfl
theorem tc_7_37 : Cond.code yX12_among cX12_among 3 (.some .int) ∈ tblG := tbl_g (tbl_in7 (List.mem_of_getElem? (i := 37) rfl)) rfl
theorem tc_7_42 : Cond.code yJ0_charAt_5068e cJ0_charAt_5068e 2 (.some .char) ∈ tblG := tbl_g (tbl_in7 (List.mem_of_getElem? (i := 42) rfl)) rfl
theorem tc_7_45 : Cond.code yJ1_charAt_3b067 cJ1_charAt_3b067 2 (.some .char) ∈ tblG := tbl_g (tbl_in7 (List.mem_of_getElem? (i := 45) rfl)) rfl
theorem tc_7_48 : Cond.code yJ0_checkIndex_df160 cJ0_checkIndex_df160 2 none ∈ tblG := tbl_g (tbl_in7 (List.mem_of_getElem? (i := 48) rfl)) rfl
theorem tc_7_51 : Cond.code yJ3_checkIndex_8e157 cJ3_checkIndex_8e157 3 (.some .int) ∈ tblG := tbl_g (tbl_in7 (List.mem_of_getElem? (i := 51) rfl)) rfl
theorem tc_7_54 : Cond.code yJ2_charAt_3b067 cJ2_charAt_3b067 2 (.some .char) ∈ tblG := tbl_g (tbl_in7 (List.mem_of_getElem? (i := 54) rfl)) rfl
theorem tc_7_57 : Cond.code yJ2_checkIndex_2214a cJ2_checkIndex_2214a 2 none ∈ tblG := tbl_g (tbl_in7 (List.mem_of_getElem? (i := 57) rfl)) rfl
theorem tc_7_62 : Cond.code yX12_thing cX12_thing 3 (.some .boolean) ∈ tblG := tbl_g (tbl_in7 (List.mem_of_getElem? (i := 62) rfl)) rfl
theorem tc_7_66 : Cond.code yX12_isDigit cX12_isDigit 1 (.some .boolean) ∈ tblG := tbl_g (tbl_in7 (List.mem_of_getElem? (i := 66) rfl)) rfl
theorem tc_7_72 : Cond.code yX12_marks cX12_marks 2 none ∈ tblG := tbl_g (tbl_in7 (List.mem_of_getElem? (i := 72) rfl)) rfl
theorem tc_7_85 : Cond.code yX12_filter cX12_filter 2 (.some .int) ∈ tblG := tbl_g (tbl_in7 (List.mem_of_getElem? (i := 85) rfl)) rfl
theorem tc_7_89 : Cond.code yX12_value cX12_value 3 (.some .int) ∈ tblG := tbl_g (tbl_in7 (List.mem_of_getElem? (i := 89) rfl)) rfl
theorem tc_7_93 : Cond.code yX12_isTold cX12_isTold 2 (.some .boolean) ∈ tblG := tbl_g (tbl_in7 (List.mem_of_getElem? (i := 93) rfl)) rfl
theorem tc_7_97 : Cond.code yX12_countsTill cX12_countsTill 3 none ∈ tblG := tbl_g (tbl_in7 (List.mem_of_getElem? (i := 97) rfl)) rfl
theorem tc_7_102 : Cond.code yX12_worked cX12_worked 6 (.some .int) ∈ tblG := tbl_g (tbl_in7 (List.mem_of_getElem? (i := 102) rfl)) rfl
theorem tc_7_106 : Cond.code yX12_valueOf cX12_valueOf 4 (.some .int) ∈ tblG := tbl_g (tbl_in7 (List.mem_of_getElem? (i := 106) rfl)) rfl
theorem tc_7_109 : Cond.code yX12_acted cX12_acted 3 (.some .int) ∈ tblG := tbl_g (tbl_in7 (List.mem_of_getElem? (i := 109) rfl)) rfl
theorem tc_7_113 : Cond.code yX12_read cX12_read 7 (.some .int) ∈ tblG := tbl_g (tbl_in7 (List.mem_of_getElem? (i := 113) rfl)) rfl
theorem tc_7_118 : Cond.code yX12_ring cX12_ring 3 (.some .boolean) ∈ tblG := tbl_g (tbl_in7 (List.mem_of_getElem? (i := 118) rfl)) rfl
theorem tc_7_122 : Cond.code yX12_box cX12_box 9 (.some .int) ∈ tblG := tbl_g (tbl_in7 (List.mem_of_getElem? (i := 122) rfl)) rfl
theorem tc_7_126 : Cond.code yX12_after cX12_after 4 (.some .int) ∈ tblG := tbl_g (tbl_in7 (List.mem_of_getElem? (i := 126) rfl)) rfl
theorem tc_7_131 : Cond.code yX12_seed cX12_seed 3 (.some .int) ∈ tblG := tbl_g (tbl_in7 (List.mem_of_getElem? (i := 131) rfl)) rfl
theorem tc_7_135 : Cond.code yX12_share cX12_share 2 (.some .int) ∈ tblG := tbl_g (tbl_in7 (List.mem_of_getElem? (i := 135) rfl)) rfl
theorem tc_7_139 : Cond.code yX12_isFilter cX12_isFilter 2 (.some .boolean) ∈ tblG := tbl_g (tbl_in7 (List.mem_of_getElem? (i := 139) rfl)) rfl
theorem tc_7_143 : Cond.code yX12_counts cX12_counts 4 none ∈ tblG := tbl_g (tbl_in7 (List.mem_of_getElem? (i := 143) rfl)) rfl
theorem tc_7_147 : Cond.code yX12_passes cX12_passes 3 (.some .boolean) ∈ tblG := tbl_g (tbl_in7 (List.mem_of_getElem? (i := 147) rfl)) rfl
theorem tc_7_151 : Cond.code yX12_peopleOf cX12_peopleOf 2 (.some .int) ∈ tblG := tbl_g (tbl_in7 (List.mem_of_getElem? (i := 151) rfl)) rfl
theorem tc_7_155 : Cond.code yX12_entersFraction cX12_entersFraction 7 none ∈ tblG := tbl_g (tbl_in7 (List.mem_of_getElem? (i := 155) rfl)) rfl
theorem tc_7_158 : Cond.code yX12_common cX12_common 10 (.some .long) ∈ tblG := tbl_g (tbl_in7 (List.mem_of_getElem? (i := 158) rfl)) rfl
theorem tc_7_162 : Cond.code yX12_enters cX12_enters 3 none ∈ tblG := tbl_g (tbl_in7 (List.mem_of_getElem? (i := 162) rfl)) rfl
theorem tc_7_166 : Cond.code yX12_aside cX12_aside 2 (.some .int) ∈ tblG := tbl_g (tbl_in7 (List.mem_of_getElem? (i := 166) rfl)) rfl
theorem tc_7_170 : Cond.code yX12_areBoth cX12_areBoth 1 (.some .boolean) ∈ tblG := tbl_g (tbl_in7 (List.mem_of_getElem? (i := 170) rfl)) rfl
theorem tc_7_174 : Cond.code yX12_odds cX12_odds 12 (.some .int) ∈ tblG := tbl_g (tbl_in7 (List.mem_of_getElem? (i := 174) rfl)) rfl
theorem tc_7_177 : Cond.code yX12_choices cX12_choices 5 (.some .long) ∈ tblG := tbl_g (tbl_in7 (List.mem_of_getElem? (i := 177) rfl)) rfl
theorem tc_7_181 : Cond.code yX12_weighs cX12_weighs 22 (.some .int) ∈ tblG := tbl_g (tbl_in7 (List.mem_of_getElem? (i := 181) rfl)) rfl
theorem tc_7_185 : Cond.code yX12_readMany cX12_readMany 3 (.some .int) ∈ tblG := tbl_g (tbl_in7 (List.mem_of_getElem? (i := 185) rfl)) rfl
theorem tc_7_188 : Cond.code yJ9_abs_067f4 cJ9_abs_067f4 2 (.some .long) ∈ tblG := tbl_g (tbl_in7 (List.mem_of_getElem? (i := 188) rfl)) rfl
theorem tc_7_192 : Cond.code yX12_names cX12_names 2 (.some .int) ∈ tblG := tbl_g (tbl_in7 (List.mem_of_getElem? (i := 192) rfl)) rfl
theorem tc_7_196 : Cond.code yX12_countsNames cX12_countsNames 2 none ∈ tblG := tbl_g (tbl_in7 (List.mem_of_getElem? (i := 196) rfl)) rfl
theorem tc_7_200 : Cond.code yX12_drawn cX12_drawn 14 (.some .int) ∈ tblG := tbl_g (tbl_in7 (List.mem_of_getElem? (i := 200) rfl)) rfl
theorem tc_7_204 : Cond.code yX12_has cX12_has 2 (.some .boolean) ∈ tblG := tbl_g (tbl_in7 (List.mem_of_getElem? (i := 204) rfl)) rfl
theorem tc_7_208 : Cond.code yX12_goes cX12_goes 2 (.some .int) ∈ tblG := tbl_g (tbl_in7 (List.mem_of_getElem? (i := 208) rfl)) rfl
theorem tc_7_212 : Cond.code yX12_pairsOf cX12_pairsOf 5 none ∈ tblG := tbl_g (tbl_in7 (List.mem_of_getElem? (i := 212) rfl)) rfl
theorem tc_7_216 : Cond.code yX12_saysOf cX12_saysOf 3 (.some .int) ∈ tblG := tbl_g (tbl_in7 (List.mem_of_getElem? (i := 216) rfl)) rfl
theorem tc_7_219 : Cond.code yJ6_signum_0f7a4 cJ6_signum_0f7a4 1 (.some .int) ∈ tblG := tbl_g (tbl_in7 (List.mem_of_getElem? (i := 219) rfl)) rfl
theorem tc_7_223 : Cond.code yX12_compares cX12_compares 3 (.some .int) ∈ tblG := tbl_g (tbl_in7 (List.mem_of_getElem? (i := 223) rfl)) rfl
theorem tc_7_228 : Cond.code yX12_says cX12_says 5 (.some .int) ∈ tblG := tbl_g (tbl_in7 (List.mem_of_getElem? (i := 228) rfl)) rfl
theorem tc_7_233 : Cond.code yX12_child cX12_child 8 (.some .int) ∈ tblG := tbl_g (tbl_in7 (List.mem_of_getElem? (i := 233) rfl)) rfl
theorem tc_7_237 : Cond.code yX12_table cX12_table 5 (.some .int) ∈ tblG := tbl_g (tbl_in7 (List.mem_of_getElem? (i := 237) rfl)) rfl
theorem tc_8_2 : Cond.code yX12_countsHouse cX12_countsHouse 3 (.some .int) ∈ tblG := tbl_g (tbl_in8 (List.mem_of_getElem? (i := 2) rfl)) rfl
theorem tc_8_6 : Cond.code yX12_kind cX12_kind 4 (.some .boolean) ∈ tblG := tbl_g (tbl_in8 (List.mem_of_getElem? (i := 6) rfl)) rfl
theorem tc_8_9 : Cond.code yX12_isKind cX12_isKind 1 (.some .boolean) ∈ tblG := tbl_g (tbl_in8 (List.mem_of_getElem? (i := 9) rfl)) rfl
theorem tc_8_14 : Cond.code yX12_parts cX12_parts 5 (.some .int) ∈ tblG := tbl_g (tbl_in8 (List.mem_of_getElem? (i := 14) rfl)) rfl
theorem tc_8_18 : Cond.code yX12_likely cX12_likely 3 (.some .int) ∈ tblG := tbl_g (tbl_in8 (List.mem_of_getElem? (i := 18) rfl)) rfl
theorem tc_8_22 : Cond.code yX12_allKinds cX12_allKinds 4 (.some .long) ∈ tblG := tbl_g (tbl_in8 (List.mem_of_getElem? (i := 22) rfl)) rfl
theorem tc_8_26 : Cond.code yX12_wouldBe cX12_wouldBe 6 (.some .long) ∈ tblG := tbl_g (tbl_in8 (List.mem_of_getElem? (i := 26) rfl)) rfl
theorem tc_8_29 : Cond.code yX12_power cX12_power 6 (.some .long) ∈ tblG := tbl_g (tbl_in8 (List.mem_of_getElem? (i := 29) rfl)) rfl
theorem tc_8_33 : Cond.code yX12_likelyOf cX12_likelyOf 2 (.some .long) ∈ tblG := tbl_g (tbl_in8 (List.mem_of_getElem? (i := 33) rfl)) rfl
theorem tc_8_38 : Cond.code yX12_fit cX12_fit 7 (.some .int) ∈ tblG := tbl_g (tbl_in8 (List.mem_of_getElem? (i := 38) rfl)) rfl
theorem tc_8_41 : Cond.code yX12_isSmall cX12_isSmall 2 none ∈ tblG := tbl_g (tbl_in8 (List.mem_of_getElem? (i := 41) rfl)) rfl
theorem tc_8_44 : Cond.code yX12_times cX12_times 6 none ∈ tblG := tbl_g (tbl_in8 (List.mem_of_getElem? (i := 44) rfl)) rfl
theorem tc_8_48 : Cond.code yX12_comparesGreat cX12_comparesGreat 3 (.some .int) ∈ tblG := tbl_g (tbl_in8 (List.mem_of_getElem? (i := 48) rfl)) rfl
theorem tc_8_51 : Cond.code yX12_becomes cX12_becomes 3 none ∈ tblG := tbl_g (tbl_in8 (List.mem_of_getElem? (i := 51) rfl)) rfl
theorem tc_8_55 : Cond.code yX12_named cX12_named 10 (.some .int) ∈ tblG := tbl_g (tbl_in8 (List.mem_of_getElem? (i := 55) rfl)) rfl
theorem tc_8_61 : Cond.code yX12_likelies cX12_likelies 4 none ∈ tblG := tbl_g (tbl_in8 (List.mem_of_getElem? (i := 61) rfl)) rfl
theorem tc_8_66 : Cond.code yX12_sure cX12_sure 7 (.some .int) ∈ tblG := tbl_g (tbl_in8 (List.mem_of_getElem? (i := 66) rfl)) rfl
theorem tc_8_71 : Cond.code yX12_most cX12_most 8 (.some .int) ∈ tblG := tbl_g (tbl_in8 (List.mem_of_getElem? (i := 71) rfl)) rfl
theorem tc_8_75 : Cond.code yX12_both cX12_both 15 (.some .int) ∈ tblG := tbl_g (tbl_in8 (List.mem_of_getElem? (i := 75) rfl)) rfl
theorem tc_8_79 : Cond.code yX12_explains cX12_explains 9 (.some .int) ∈ tblG := tbl_g (tbl_in8 (List.mem_of_getElem? (i := 79) rfl)) rfl
theorem tc_8_83 : Cond.code yX12_countsBy cX12_countsBy 4 none ∈ tblG := tbl_g (tbl_in8 (List.mem_of_getElem? (i := 83) rfl)) rfl
theorem tc_8_87 : Cond.code yX12_byWhat cX12_byWhat 3 (.some .int) ∈ tblG := tbl_g (tbl_in8 (List.mem_of_getElem? (i := 87) rfl)) rfl
theorem tc_8_91 : Cond.code yX12_sums cX12_sums 13 none ∈ tblG := tbl_g (tbl_in8 (List.mem_of_getElem? (i := 91) rfl)) rfl
theorem tc_8_95 : Cond.code yX12_join cX12_join 8 (.some .int) ∈ tblG := tbl_g (tbl_in8 (List.mem_of_getElem? (i := 95) rfl)) rfl
theorem tc_8_99 : Cond.code yX12_bounds cX12_bounds 6 (.some .int) ∈ tblG := tbl_g (tbl_in8 (List.mem_of_getElem? (i := 99) rfl)) rfl
theorem tc_8_103 : Cond.code yX12_years cX12_years 3 (.some .int) ∈ tblG := tbl_g (tbl_in8 (List.mem_of_getElem? (i := 103) rfl)) rfl
theorem tc_8_107 : Cond.code yX12_countsWorth cX12_countsWorth 4 none ∈ tblG := tbl_g (tbl_in8 (List.mem_of_getElem? (i := 107) rfl)) rfl
theorem tc_8_111 : Cond.code yX12_mornings cX12_mornings 10 (.some .int) ∈ tblG := tbl_g (tbl_in8 (List.mem_of_getElem? (i := 111) rfl)) rfl
theorem tc_8_116 : Cond.code yX12_asked cX12_asked 4 (.some .int) ∈ tblG := tbl_g (tbl_in8 (List.mem_of_getElem? (i := 116) rfl)) rfl
theorem tc_8_120 : Cond.code yX12_pairs cX12_pairs 2 (.some .int) ∈ tblG := tbl_g (tbl_in8 (List.mem_of_getElem? (i := 120) rfl)) rfl
theorem tc_8_124 : Cond.code yX12_against cX12_against 4 (.some .int) ∈ tblG := tbl_g (tbl_in8 (List.mem_of_getElem? (i := 124) rfl)) rfl
theorem tc_8_128 : Cond.code yX12_isAgainst cX12_isAgainst 7 (.some .boolean) ∈ tblG := tbl_g (tbl_in8 (List.mem_of_getElem? (i := 128) rfl)) rfl
theorem tc_8_132 : Cond.code yX12_countsNone cX12_countsNone 1 none ∈ tblG := tbl_g (tbl_in8 (List.mem_of_getElem? (i := 132) rfl)) rfl
theorem tc_8_136 : Cond.code yX12_couldBe cX12_couldBe 4 (.some .int) ∈ tblG := tbl_g (tbl_in8 (List.mem_of_getElem? (i := 136) rfl)) rfl
theorem tc_8_140 : Cond.code yX12_ask cX12_ask 11 (.some .int) ∈ tblG := tbl_g (tbl_in8 (List.mem_of_getElem? (i := 140) rfl)) rfl
theorem tc_8_144 : Cond.code yX12_nearly cX12_nearly 2 (.some .int) ∈ tblG := tbl_g (tbl_in8 (List.mem_of_getElem? (i := 144) rfl)) rfl
theorem tc_8_149 : Cond.code yX12_shows cX12_shows 5 (.some .int) ∈ tblG := tbl_g (tbl_in8 (List.mem_of_getElem? (i := 149) rfl)) rfl
theorem tc_8_153 : Cond.code yX12_isPercent cX12_isPercent 1 (.some .boolean) ∈ tblG := tbl_g (tbl_in8 (List.mem_of_getElem? (i := 153) rfl)) rfl
theorem tc_8_157 : Cond.code yX12_chances cX12_chances 6 none ∈ tblG := tbl_g (tbl_in8 (List.mem_of_getElem? (i := 157) rfl)) rfl
theorem tc_8_161 : Cond.code yX12_powers cX12_powers 5 none ∈ tblG := tbl_g (tbl_in8 (List.mem_of_getElem? (i := 161) rfl)) rfl
theorem tc_8_164 : Cond.code yX12_adds cX12_adds 6 none ∈ tblG := tbl_g (tbl_in8 (List.mem_of_getElem? (i := 164) rfl)) rfl
theorem tc_8_168 : Cond.code yX12_laysAt cX12_laysAt 4 none ∈ tblG := tbl_g (tbl_in8 (List.mem_of_getElem? (i := 168) rfl)) rfl
theorem tc_8_172 : Cond.code yX12_takesFrom cX12_takesFrom 4 none ∈ tblG := tbl_g (tbl_in8 (List.mem_of_getElem? (i := 172) rfl)) rfl
theorem tc_8_176 : Cond.code yX12_chanceOf cX12_chanceOf 6 (.some .int) ∈ tblG := tbl_g (tbl_in8 (List.mem_of_getElem? (i := 176) rfl)) rfl
theorem tc_8_180 : Cond.code yX12_least cX12_least 7 (.some .int) ∈ tblG := tbl_g (tbl_in8 (List.mem_of_getElem? (i := 180) rfl)) rfl
theorem tc_8_184 : Cond.code yX12_keep cX12_keep 3 (.some .boolean) ∈ tblG := tbl_g (tbl_in8 (List.mem_of_getElem? (i := 184) rfl)) rfl
theorem tc_8_188 : Cond.code yX12_again cX12_again 4 (.some .boolean) ∈ tblG := tbl_g (tbl_in8 (List.mem_of_getElem? (i := 188) rfl)) rfl
theorem tc_8_192 : Cond.code yX12_count cX12_count 2 (.some .int) ∈ tblG := tbl_g (tbl_in8 (List.mem_of_getElem? (i := 192) rfl)) rfl
theorem tc_8_196 : Cond.code yX12_rungMany cX12_rungMany 3 (.some .int) ∈ tblG := tbl_g (tbl_in8 (List.mem_of_getElem? (i := 196) rfl)) rfl
theorem tc_8_200 : Cond.code yX12_toldBits cX12_toldBits 4 (.some .int) ∈ tblG := tbl_g (tbl_in8 (List.mem_of_getElem? (i := 200) rfl)) rfl
theorem tc_8_204 : Cond.code yX12_init cX12_init 1 none ∈ tblG := tbl_g (tbl_in8 (List.mem_of_getElem? (i := 204) rfl)) rfl
theorem tc_9_184 : Cond.code yX12_row cX12_row 2 (.some .long) ∈ tblG := tbl_g (tbl_in9 (List.mem_of_getElem? (i := 184) rfl)) rfl
theorem th_of : Cond.codeWith yL_of cL_of 5 (some .int) [(0, 10, 13, 13)] ∈ tblG := tbl_g (tbl_in6 (List.mem_of_getElem? (i := 81) rfl)) rfl
theorem th_value : Cond.codeWith yL_value cL_value 5 (some .int) [(0, 10, 13, 13)] ∈ tblG := tbl_g (tbl_in6 (List.mem_of_getElem? (i := 158) rfl)) rfl
theorem th_row : Cond.codeWith yL_row cL_row 4 (some .int) [(0, 8, 11, 13)] ∈ tblG := tbl_g (tbl_in6 (List.mem_of_getElem? (i := 168) rfl)) rfl
def cnC (c : Nat) : String := match c with
  | 0 => RX0
  | 1 => RX1
  | 2 => RX2
  | 3 => RX3
  | 4 => RX4
  | 5 => RX5
  | 6 => RX6
  | 7 => RX7
  | 8 => RX8
  | 9 => RX9
  | 10 => RX10
  | 11 => RX11
  | _ => RX12
def txC (c : Nat) : u_T := match c with
  | 0 => TX0
  | 1 => TX1
  | 2 => TX2
  | 3 => TX3
  | 4 => TX4
  | 5 => TX5
  | 6 => TX6
  | 7 => TX7
  | 8 => TX8
  | 9 => TX9
  | 10 => TX10
  | 11 => TX11
  | _ => TX12
def tyC (c : Nat) : Nat → FieldType := match c with
  | 0 => tyX0
  | 1 => tyX1
  | 2 => tyX2
  | 3 => tyX3
  | 4 => tyX4
  | 5 => tyX5
  | 6 => tyX6
  | 7 => tyX7
  | 8 => tyX8
  | 9 => tyX9
  | 10 => tyX10
  | 11 => tyX11
  | _ => tyX12
def nfC (c : Nat) : Nat := match c with
  | 0 => 2
  | 1 => 5
  | 2 => 4
  | 3 => 4
  | 4 => 9
  | 5 => 9
  | 6 => 8
  | 7 => 2
  | 8 => 10
  | 9 => 2
  | 10 => 18
  | 11 => 9
  | _ => 71
set_option maxRecDepth 20000 in
theorem inC0 : ∀ w ∈ u_ws RX0 TX0 2, w ∈ tblA := by
  have h : ∀ w ∈ ([u_lay RX0 TX0 0, u_lay RX0 TX0 1] : List Cond), w ∈ tblA := (List.forall_mem_cons.mpr ⟨tw_2_50, (List.forall_mem_cons.mpr ⟨tw_2_52, (List.forall_mem_nil _)⟩)⟩)
  exact h
set_option maxRecDepth 20000 in
theorem inC1 : ∀ w ∈ u_ws RX1 TX1 5, w ∈ tblA := by
  have h : ∀ w ∈ ([u_lay RX1 TX1 0, u_lay RX1 TX1 1, u_lay RX1 TX1 2, u_lay RX1 TX1 3, u_lay RX1 TX1 4] : List Cond), w ∈ tblA := (List.forall_mem_cons.mpr ⟨tw_2_152, (List.forall_mem_cons.mpr ⟨tw_2_154, (List.forall_mem_cons.mpr ⟨tw_2_156, (List.forall_mem_cons.mpr ⟨tw_2_158, (List.forall_mem_cons.mpr ⟨tw_2_160, (List.forall_mem_nil _)⟩)⟩)⟩)⟩)⟩)
  exact h
set_option maxRecDepth 20000 in
theorem inC2 : ∀ w ∈ u_ws RX2 TX2 4, w ∈ tblA := by
  have h : ∀ w ∈ ([u_lay RX2 TX2 0, u_lay RX2 TX2 1, u_lay RX2 TX2 2, u_lay RX2 TX2 3] : List Cond), w ∈ tblA := (List.forall_mem_cons.mpr ⟨tw_2_96, (List.forall_mem_cons.mpr ⟨tw_2_98, (List.forall_mem_cons.mpr ⟨tw_2_100, (List.forall_mem_cons.mpr ⟨tw_2_102, (List.forall_mem_nil _)⟩)⟩)⟩)⟩)
  exact h
set_option maxRecDepth 20000 in
theorem inC3 : ∀ w ∈ u_ws RX3 TX3 4, w ∈ tblA := by
  have h : ∀ w ∈ ([u_lay RX3 TX3 0, u_lay RX3 TX3 1, u_lay RX3 TX3 2, u_lay RX3 TX3 3] : List Cond), w ∈ tblA := (List.forall_mem_cons.mpr ⟨tw_1_113, (List.forall_mem_cons.mpr ⟨tw_1_115, (List.forall_mem_cons.mpr ⟨tw_1_117, (List.forall_mem_cons.mpr ⟨tw_1_119, (List.forall_mem_nil _)⟩)⟩)⟩)⟩)
  exact h
set_option maxRecDepth 20000 in
theorem inC4 : ∀ w ∈ u_ws RX4 TX4 9, w ∈ tblA := by
  have h : ∀ w ∈ ([u_lay RX4 TX4 0, u_lay RX4 TX4 1, u_lay RX4 TX4 2, u_lay RX4 TX4 3, u_lay RX4 TX4 4, u_lay RX4 TX4 5, u_lay RX4 TX4 6, u_lay RX4 TX4 7, u_lay RX4 TX4 8] : List Cond), w ∈ tblA := (List.forall_mem_cons.mpr ⟨tw_2_64, (List.forall_mem_cons.mpr ⟨tw_2_66, (List.forall_mem_cons.mpr ⟨tw_2_68, (List.forall_mem_cons.mpr ⟨tw_2_70, (List.forall_mem_cons.mpr ⟨tw_2_72, (List.forall_mem_cons.mpr ⟨tw_2_74, (List.forall_mem_cons.mpr ⟨tw_2_76, (List.forall_mem_cons.mpr ⟨tw_2_78, (List.forall_mem_cons.mpr ⟨tw_2_80, (List.forall_mem_nil _)⟩)⟩)⟩)⟩)⟩)⟩)⟩)⟩)⟩)
  exact h
set_option maxRecDepth 20000 in
theorem inC5 : ∀ w ∈ u_ws RX5 TX5 9, w ∈ tblA := by
  have h : ∀ w ∈ ([u_lay RX5 TX5 0, u_lay RX5 TX5 1, u_lay RX5 TX5 2, u_lay RX5 TX5 3, u_lay RX5 TX5 4, u_lay RX5 TX5 5, u_lay RX5 TX5 6, u_lay RX5 TX5 7, u_lay RX5 TX5 8] : List Cond), w ∈ tblA := (List.forall_mem_cons.mpr ⟨tw_1_84, (List.forall_mem_cons.mpr ⟨tw_1_86, (List.forall_mem_cons.mpr ⟨tw_1_88, (List.forall_mem_cons.mpr ⟨tw_1_90, (List.forall_mem_cons.mpr ⟨tw_1_92, (List.forall_mem_cons.mpr ⟨tw_1_94, (List.forall_mem_cons.mpr ⟨tw_1_96, (List.forall_mem_cons.mpr ⟨tw_1_98, (List.forall_mem_cons.mpr ⟨tw_1_100, (List.forall_mem_nil _)⟩)⟩)⟩)⟩)⟩)⟩)⟩)⟩)⟩)
  exact h
set_option maxRecDepth 20000 in
theorem inC6 : ∀ w ∈ u_ws RX6 TX6 8, w ∈ tblA := by
  have h : ∀ w ∈ ([u_lay RX6 TX6 0, u_lay RX6 TX6 1, u_lay RX6 TX6 2, u_lay RX6 TX6 3, u_lay RX6 TX6 4, u_lay RX6 TX6 5, u_lay RX6 TX6 6, u_lay RX6 TX6 7] : List Cond), w ∈ tblA := (List.forall_mem_cons.mpr ⟨tw_2_121, (List.forall_mem_cons.mpr ⟨tw_2_123, (List.forall_mem_cons.mpr ⟨tw_2_125, (List.forall_mem_cons.mpr ⟨tw_2_127, (List.forall_mem_cons.mpr ⟨tw_2_129, (List.forall_mem_cons.mpr ⟨tw_2_131, (List.forall_mem_cons.mpr ⟨tw_2_133, (List.forall_mem_cons.mpr ⟨tw_2_135, (List.forall_mem_nil _)⟩)⟩)⟩)⟩)⟩)⟩)⟩)⟩)
  exact h
set_option maxRecDepth 20000 in
theorem inC7 : ∀ w ∈ u_ws RX7 TX7 2, w ∈ tblA := by
  have h : ∀ w ∈ ([u_lay RX7 TX7 0, u_lay RX7 TX7 1] : List Cond), w ∈ tblA := (List.forall_mem_cons.mpr ⟨tw_1_214, (List.forall_mem_cons.mpr ⟨tw_1_216, (List.forall_mem_nil _)⟩)⟩)
  exact h
set_option maxRecDepth 20000 in
theorem inC8 : ∀ w ∈ u_ws RX8 TX8 10, w ∈ tblA := by
  have h : ∀ w ∈ ([u_lay RX8 TX8 0, u_lay RX8 TX8 1, u_lay RX8 TX8 2, u_lay RX8 TX8 3, u_lay RX8 TX8 4, u_lay RX8 TX8 5, u_lay RX8 TX8 6, u_lay RX8 TX8 7, u_lay RX8 TX8 8, u_lay RX8 TX8 9] : List Cond), w ∈ tblA := (List.forall_mem_cons.mpr ⟨tw_2_13, (List.forall_mem_cons.mpr ⟨tw_2_15, (List.forall_mem_cons.mpr ⟨tw_2_17, (List.forall_mem_cons.mpr ⟨tw_2_19, (List.forall_mem_cons.mpr ⟨tw_2_21, (List.forall_mem_cons.mpr ⟨tw_2_23, (List.forall_mem_cons.mpr ⟨tw_2_25, (List.forall_mem_cons.mpr ⟨tw_2_27, (List.forall_mem_cons.mpr ⟨tw_2_29, (List.forall_mem_cons.mpr ⟨tw_2_31, (List.forall_mem_nil _)⟩)⟩)⟩)⟩)⟩)⟩)⟩)⟩)⟩)⟩)
  exact h
set_option maxRecDepth 20000 in
theorem inC9 : ∀ w ∈ u_ws RX9 TX9 2, w ∈ tblA := by
  have h : ∀ w ∈ ([u_lay RX9 TX9 0, u_lay RX9 TX9 1] : List Cond), w ∈ tblA := (List.forall_mem_cons.mpr ⟨tw_1_238, (List.forall_mem_cons.mpr ⟨tw_2_0, (List.forall_mem_nil _)⟩)⟩)
  exact h
set_option maxRecDepth 20000 in
theorem inC10 : ∀ w ∈ u_ws RX10 TX10 18, w ∈ tblA := by
  have h : ∀ w ∈ ([u_lay RX10 TX10 0, u_lay RX10 TX10 1, u_lay RX10 TX10 2, u_lay RX10 TX10 3, u_lay RX10 TX10 4, u_lay RX10 TX10 5, u_lay RX10 TX10 6, u_lay RX10 TX10 7, u_lay RX10 TX10 8, u_lay RX10 TX10 9, u_lay RX10 TX10 10, u_lay RX10 TX10 11, u_lay RX10 TX10 12, u_lay RX10 TX10 13, u_lay RX10 TX10 14, u_lay RX10 TX10 15, u_lay RX10 TX10 16, u_lay RX10 TX10 17] : List Cond), w ∈ tblA := (List.forall_mem_cons.mpr ⟨tw_1_167, (List.forall_mem_cons.mpr ⟨tw_1_169, (List.forall_mem_cons.mpr ⟨tw_1_171, (List.forall_mem_cons.mpr ⟨tw_1_173, (List.forall_mem_cons.mpr ⟨tw_1_175, (List.forall_mem_cons.mpr ⟨tw_1_177, (List.forall_mem_cons.mpr ⟨tw_1_179, (List.forall_mem_cons.mpr ⟨tw_1_181, (List.forall_mem_cons.mpr ⟨tw_1_183, (List.forall_mem_cons.mpr ⟨tw_1_185, (List.forall_mem_cons.mpr ⟨tw_1_187, (List.forall_mem_cons.mpr ⟨tw_1_189, (List.forall_mem_cons.mpr ⟨tw_1_191, (List.forall_mem_cons.mpr ⟨tw_1_193, (List.forall_mem_cons.mpr ⟨tw_1_195, (List.forall_mem_cons.mpr ⟨tw_1_197, (List.forall_mem_cons.mpr ⟨tw_1_199, (List.forall_mem_cons.mpr ⟨tw_1_201, (List.forall_mem_nil _)⟩)⟩)⟩)⟩)⟩)⟩)⟩)⟩)⟩)⟩)⟩)⟩)⟩)⟩)⟩)⟩)⟩)⟩)
  exact h
set_option maxRecDepth 20000 in
theorem inC11 : ∀ w ∈ u_ws RX11 TX11 9, w ∈ tblA := by
  have h : ∀ w ∈ ([u_lay RX11 TX11 0, u_lay RX11 TX11 1, u_lay RX11 TX11 2, u_lay RX11 TX11 3, u_lay RX11 TX11 4, u_lay RX11 TX11 5, u_lay RX11 TX11 6, u_lay RX11 TX11 7, u_lay RX11 TX11 8] : List Cond), w ∈ tblA := (List.forall_mem_cons.mpr ⟨tw_2_172, (List.forall_mem_cons.mpr ⟨tw_2_174, (List.forall_mem_cons.mpr ⟨tw_2_176, (List.forall_mem_cons.mpr ⟨tw_2_178, (List.forall_mem_cons.mpr ⟨tw_2_180, (List.forall_mem_cons.mpr ⟨tw_2_182, (List.forall_mem_cons.mpr ⟨tw_2_184, (List.forall_mem_cons.mpr ⟨tw_2_186, (List.forall_mem_cons.mpr ⟨tw_2_188, (List.forall_mem_nil _)⟩)⟩)⟩)⟩)⟩)⟩)⟩)⟩)⟩)
  exact h
set_option maxRecDepth 20000 in
theorem inC12 : ∀ w ∈ u_ws RX12 TX12 71, w ∈ tblA := by
  have h : ∀ w ∈ ([u_lay RX12 TX12 0, u_lay RX12 TX12 1, u_lay RX12 TX12 2, u_lay RX12 TX12 3, u_lay RX12 TX12 4, u_lay RX12 TX12 5, u_lay RX12 TX12 6, u_lay RX12 TX12 7, u_lay RX12 TX12 8, u_lay RX12 TX12 9, u_lay RX12 TX12 10, u_lay RX12 TX12 11, u_lay RX12 TX12 12, u_lay RX12 TX12 13, u_lay RX12 TX12 14, u_lay RX12 TX12 15, u_lay RX12 TX12 16, u_lay RX12 TX12 17, u_lay RX12 TX12 18, u_lay RX12 TX12 19, u_lay RX12 TX12 20, u_lay RX12 TX12 21, u_lay RX12 TX12 22, u_lay RX12 TX12 23, u_lay RX12 TX12 24, u_lay RX12 TX12 25, u_lay RX12 TX12 26, u_lay RX12 TX12 27, u_lay RX12 TX12 28, u_lay RX12 TX12 29, u_lay RX12 TX12 30, u_lay RX12 TX12 31, u_lay RX12 TX12 32, u_lay RX12 TX12 33, u_lay RX12 TX12 34, u_lay RX12 TX12 35, u_lay RX12 TX12 36, u_lay RX12 TX12 37, u_lay RX12 TX12 38, u_lay RX12 TX12 39, u_lay RX12 TX12 40, u_lay RX12 TX12 41, u_lay RX12 TX12 42, u_lay RX12 TX12 43, u_lay RX12 TX12 44, u_lay RX12 TX12 45, u_lay RX12 TX12 46, u_lay RX12 TX12 47, u_lay RX12 TX12 48, u_lay RX12 TX12 49, u_lay RX12 TX12 50, u_lay RX12 TX12 51, u_lay RX12 TX12 52, u_lay RX12 TX12 53, u_lay RX12 TX12 54, u_lay RX12 TX12 55, u_lay RX12 TX12 56, u_lay RX12 TX12 57, u_lay RX12 TX12 58, u_lay RX12 TX12 59, u_lay RX12 TX12 60, u_lay RX12 TX12 61, u_lay RX12 TX12 62, u_lay RX12 TX12 63, u_lay RX12 TX12 64, u_lay RX12 TX12 65, u_lay RX12 TX12 66, u_lay RX12 TX12 67, u_lay RX12 TX12 68, u_lay RX12 TX12 69, u_lay RX12 TX12 70] : List Cond), w ∈ tblA := (List.forall_mem_cons.mpr ⟨tw_9_37, (List.forall_mem_cons.mpr ⟨tw_9_39, (List.forall_mem_cons.mpr ⟨tw_9_41, (List.forall_mem_cons.mpr ⟨tw_9_43, (List.forall_mem_cons.mpr ⟨tw_9_45, (List.forall_mem_cons.mpr ⟨tw_9_47, (List.forall_mem_cons.mpr ⟨tw_9_49, (List.forall_mem_cons.mpr ⟨tw_9_51, (List.forall_mem_cons.mpr ⟨tw_9_53, (List.forall_mem_cons.mpr ⟨tw_9_55, (List.forall_mem_cons.mpr ⟨tw_9_57, (List.forall_mem_cons.mpr ⟨tw_9_59, (List.forall_mem_cons.mpr ⟨tw_9_61, (List.forall_mem_cons.mpr ⟨tw_9_63, (List.forall_mem_cons.mpr ⟨tw_9_65, (List.forall_mem_cons.mpr ⟨tw_9_67, (List.forall_mem_cons.mpr ⟨tw_9_69, (List.forall_mem_cons.mpr ⟨tw_9_71, (List.forall_mem_cons.mpr ⟨tw_9_73, (List.forall_mem_cons.mpr ⟨tw_9_75, (List.forall_mem_cons.mpr ⟨tw_9_77, (List.forall_mem_cons.mpr ⟨tw_9_79, (List.forall_mem_cons.mpr ⟨tw_9_81, (List.forall_mem_cons.mpr ⟨tw_9_83, (List.forall_mem_cons.mpr ⟨tw_9_85, (List.forall_mem_cons.mpr ⟨tw_9_87, (List.forall_mem_cons.mpr ⟨tw_9_89, (List.forall_mem_cons.mpr ⟨tw_9_91, (List.forall_mem_cons.mpr ⟨tw_9_93, (List.forall_mem_cons.mpr ⟨tw_9_95, (List.forall_mem_cons.mpr ⟨tw_9_97, (List.forall_mem_cons.mpr ⟨tw_9_99, (List.forall_mem_cons.mpr ⟨tw_9_101, (List.forall_mem_cons.mpr ⟨tw_9_103, (List.forall_mem_cons.mpr ⟨tw_9_105, (List.forall_mem_cons.mpr ⟨tw_9_107, (List.forall_mem_cons.mpr ⟨tw_9_109, (List.forall_mem_cons.mpr ⟨tw_9_111, (List.forall_mem_cons.mpr ⟨tw_9_113, (List.forall_mem_cons.mpr ⟨tw_9_115, (List.forall_mem_cons.mpr ⟨tw_9_117, (List.forall_mem_cons.mpr ⟨tw_9_119, (List.forall_mem_cons.mpr ⟨tw_9_121, (List.forall_mem_cons.mpr ⟨tw_9_123, (List.forall_mem_cons.mpr ⟨tw_9_125, (List.forall_mem_cons.mpr ⟨tw_9_127, (List.forall_mem_cons.mpr ⟨tw_9_129, (List.forall_mem_cons.mpr ⟨tw_9_131, (List.forall_mem_cons.mpr ⟨tw_9_133, (List.forall_mem_cons.mpr ⟨tw_9_135, (List.forall_mem_cons.mpr ⟨tw_9_137, (List.forall_mem_cons.mpr ⟨tw_9_139, (List.forall_mem_cons.mpr ⟨tw_9_141, (List.forall_mem_cons.mpr ⟨tw_9_143, (List.forall_mem_cons.mpr ⟨tw_9_145, (List.forall_mem_cons.mpr ⟨tw_9_147, (List.forall_mem_cons.mpr ⟨tw_9_149, (List.forall_mem_cons.mpr ⟨tw_9_151, (List.forall_mem_cons.mpr ⟨tw_9_153, (List.forall_mem_cons.mpr ⟨tw_9_155, (List.forall_mem_cons.mpr ⟨tw_9_157, (List.forall_mem_cons.mpr ⟨tw_9_159, (List.forall_mem_cons.mpr ⟨tw_9_161, (List.forall_mem_cons.mpr ⟨tw_9_163, (List.forall_mem_cons.mpr ⟨tw_9_165, (List.forall_mem_cons.mpr ⟨tw_9_167, (List.forall_mem_cons.mpr ⟨tw_9_169, (List.forall_mem_cons.mpr ⟨tw_9_171, (List.forall_mem_cons.mpr ⟨tw_9_173, (List.forall_mem_cons.mpr ⟨tw_9_175, (List.forall_mem_cons.mpr ⟨tw_9_177, (List.forall_mem_nil _)⟩)⟩)⟩)⟩)⟩)⟩)⟩)⟩)⟩)⟩)⟩)⟩)⟩)⟩)⟩)⟩)⟩)⟩)⟩)⟩)⟩)⟩)⟩)⟩)⟩)⟩)⟩)⟩)⟩)⟩)⟩)⟩)⟩)⟩)⟩)⟩)⟩)⟩)⟩)⟩)⟩)⟩)⟩)⟩)⟩)⟩)⟩)⟩)⟩)⟩)⟩)⟩)⟩)⟩)⟩)⟩)⟩)⟩)⟩)⟩)⟩)⟩)⟩)⟩)⟩)⟩)⟩)⟩)⟩)⟩)⟩)
  exact h
theorem inC : ∀ c, c < 13 → ∀ w ∈ u_ws (cnC c) (txC c) (nfC c), w ∈ tblA := by
  intro c hc
  match c, hc with
  | 0, _ => exact inC0
  | 1, _ => exact inC1
  | 2, _ => exact inC2
  | 3, _ => exact inC3
  | 4, _ => exact inC4
  | 5, _ => exact inC5
  | 6, _ => exact inC6
  | 7, _ => exact inC7
  | 8, _ => exact inC8
  | 9, _ => exact inC9
  | 10, _ => exact inC10
  | 11, _ => exact inC11
  | 12, _ => exact inC12
  | c + 13, h => exact absurd h (by omega)
theorem vwC : ∀ c, c < 13 → vwCl[c]? = some (cnC c, txC c, nfC c) := by
  intro c hc
  match c, hc with
  | 0, _ => rfl
  | 1, _ => rfl
  | 2, _ => rfl
  | 3, _ => rfl
  | 4, _ => rfl
  | 5, _ => rfl
  | 6, _ => rfl
  | 7, _ => rfl
  | 8, _ => rfl
  | 9, _ => rfl
  | 10, _ => rfl
  | 11, _ => rfl
  | 12, _ => rfl
  | c + 13, h => exact absurd h (by omega)
theorem tyC_ok : ∀ c, c < 13 → ∀ k, k < nfC c → parseFieldDescriptor (txC c k).2.2.1 = some (tyC c k) := by
  intro c hc
  match c, hc with
  | 0, _ => exact tyX0_ok
  | 1, _ => exact tyX1_ok
  | 2, _ => exact tyX2_ok
  | 3, _ => exact tyX3_ok
  | 4, _ => exact tyX4_ok
  | 5, _ => exact tyX5_ok
  | 6, _ => exact tyX6_ok
  | 7, _ => exact tyX7_ok
  | 8, _ => exact tyX8_ok
  | 9, _ => exact tyX9_ok
  | 10, _ => exact tyX10_ok
  | 11, _ => exact tyX11_ok
  | 12, _ => exact tyX12_ok
  | c + 13, h => exact absurd h (by omega)
theorem nmC : ∀ c, c < 13 → ∀ a, a < nfC c → ∀ b, b < nfC c → a ≠ b → (txC c a).2.1 ≠ (txC c b).2.1 := by
  intro c hc
  match c, hc with
  | 0, _ => exact nmX0
  | 1, _ => exact nmX1
  | 2, _ => exact nmX2
  | 3, _ => exact nmX3
  | 4, _ => exact nmX4
  | 5, _ => exact nmX5
  | 6, _ => exact nmX6
  | 7, _ => exact nmX7
  | 8, _ => exact nmX8
  | 9, _ => exact nmX9
  | 10, _ => exact nmX10
  | 11, _ => exact nmX11
  | 12, _ => exact nmX12
  | c + 13, h => exact absurd h (by omega)
