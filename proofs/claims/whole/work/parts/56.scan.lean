/-! scans over letters and names -/
theorem flag_q {a : Nat} (ha : a < 2) {μ : MM} {Q : Int32 → MM → Prop} : G12_flag (qN a) μ Q ↔ Q (qN a) μ := by
  have : a = 0 ∨ a = 1 := by omega
  unfold G12_flag
  rcases this with rfl | rfl
  · exact ⟨fun h => h.1 rfl, fun h => ⟨fun _ => h, fun q => absurd rfl q⟩⟩
  · exact ⟨fun h => h.2 (by decide), fun h => ⟨fun q => absurd q (by decide), fun _ => h⟩⟩

theorem c_lettersTo {A : Nat → Nat → Nat} {μ : MM} {Q : Int32 → MM → Prop} (hI : ∀ f i, dom f i → A f i < bnd f i) (hA : Ca A μ) {v : Int32}
    (h : Q (qN (cnt (fun i => decide (qN (A 367 i) = v)) (A 358 12))) μ) : G10_lettersTo v μ Q := by
  refine Lp.upE (A 358 12) (fun i => (qN (cnt (fun i => decide (qN (A 367 i) = v)) i), qN i, μ)) ?_
  intro i K hi hK
  have hn : A 358 12 < 97 := hI 358 12 (by unfold dom; decide)
  have hc := cnt_le (fun i => decide (qN (A 367 i) = v)) i
  rcases Nat.lt_or_ge i (A 358 12) with hl | hl
  · have hk := hK hl
    have hi9 : i < 96 := by omega
    have hf0 : A 367 i < 24 := hI 367 i (by unfold dom; omega)
    simp only [cnt] at hk
    simp (disch := omega) only [bo_q0, bo_q1, qN_le, qN_lt, qN_eq, qN_vp, qN_nat, qN_neg1, qN_neg, qN_nn, qN_lit, qN_add, qN_sub, qN_mul, qN_div, Bd_eq, reduceIte, Nat.add_sub_cancel, dm_l, Nat.zero_le, Nat.not_lt_zero, Nat.reduceEqDiff, Nat.reduceLT, Nat.reduceLeDiff, Nat.reduceAdd, Nat.reduceSub, Nat.reduceMul, Nat.reduceDiv, Nat.reduceMod, reduceCtorEq, true_implies, false_implies, not_true_eq_false, not_false_eq_true, true_and, and_true, implies_true, and_false, false_and, forall_const, true_or, or_true, false_or, or_false, G10_lettersTo_L4, Ca_s12 hA, Ca_367 hA, hi9, Nat.not_le.mpr hl, flag_q]
    repeat' (first | (refine And.intro ?_ ?_) | (refine fun _ => ?_))
    all_goals simpa [*] using hk
  · have e : i = A 358 12 := by omega
    subst e
    simp (disch := omega) only [bo_q0, bo_q1, qN_le, qN_lt, qN_eq, qN_vp, qN_nat, qN_neg1, qN_neg, qN_nn, qN_lit, qN_add, qN_sub, qN_mul, qN_div, Bd_eq, reduceIte, Nat.add_sub_cancel, dm_l, Nat.zero_le, Nat.not_lt_zero, Nat.reduceEqDiff, Nat.reduceLT, Nat.reduceLeDiff, Nat.reduceAdd, Nat.reduceSub, Nat.reduceMul, Nat.reduceDiv, Nat.reduceMod, reduceCtorEq, true_implies, false_implies, not_true_eq_false, not_false_eq_true, true_and, and_true, implies_true, and_false, false_and, forall_const, true_or, or_true, false_or, or_false, G10_lettersTo_L4, Ca_s12 hA, Nat.le_refl]
    exact h

theorem c_namesOf {A : Nat → Nat → Nat} {μ : MM} {Q : Int32 → MM → Prop} (hI : ∀ f i, dom f i → A f i < bnd f i) (hA : Ca A μ) {v : Nat} (hv : v < 2147483648)
    (h : Q (qN (cnt (fun i => decide (A 360 i = v)) (A 358 3))) μ) : G10_namesOf (qN v) μ Q := by
  refine Lp.upE (A 358 3) (fun i => (qN (cnt (fun i => decide (A 360 i = v)) i), qN i, μ)) ?_
  intro i K hi hK
  have hn : A 358 3 < 13 := hI 358 3 (by unfold dom; decide)
  have hc := cnt_le (fun i => decide (A 360 i = v)) i
  rcases Nat.lt_or_ge i (A 358 3) with hl | hl
  · have hk := hK hl
    have hi9 : i < 12 := by omega
    have hf0 : A 360 i < 2 := hI 360 i (by unfold dom; omega)
    simp only [cnt] at hk
    simp (disch := omega) only [bo_q0, bo_q1, qN_le, qN_lt, qN_eq, qN_vp, qN_nat, qN_neg1, qN_neg, qN_nn, qN_lit, qN_add, qN_sub, qN_mul, qN_div, Bd_eq, reduceIte, Nat.add_sub_cancel, dm_l, Nat.zero_le, Nat.not_lt_zero, Nat.reduceEqDiff, Nat.reduceLT, Nat.reduceLeDiff, Nat.reduceAdd, Nat.reduceSub, Nat.reduceMul, Nat.reduceDiv, Nat.reduceMod, reduceCtorEq, true_implies, false_implies, not_true_eq_false, not_false_eq_true, true_and, and_true, implies_true, and_false, false_and, forall_const, true_or, or_true, false_or, or_false, G10_namesOf_L4, Ca_s3 hA, Ca_360 hA, hi9, Nat.not_le.mpr hl, flag_q]
    repeat' (first | (refine And.intro ?_ ?_) | (refine fun _ => ?_))
    all_goals simpa [*] using hk
  · have e : i = A 358 3 := by omega
    subst e
    simp (disch := omega) only [bo_q0, bo_q1, qN_le, qN_lt, qN_eq, qN_vp, qN_nat, qN_neg1, qN_neg, qN_nn, qN_lit, qN_add, qN_sub, qN_mul, qN_div, Bd_eq, reduceIte, Nat.add_sub_cancel, dm_l, Nat.zero_le, Nat.not_lt_zero, Nat.reduceEqDiff, Nat.reduceLT, Nat.reduceLeDiff, Nat.reduceAdd, Nat.reduceSub, Nat.reduceMul, Nat.reduceDiv, Nat.reduceMod, reduceCtorEq, true_implies, false_implies, not_true_eq_false, not_false_eq_true, true_and, and_true, implies_true, and_false, false_and, forall_const, true_or, or_true, false_or, or_false, G10_namesOf_L4, Ca_s3 hA, Nat.le_refl]
    exact h

theorem m_lettersTo {A : Nat → Nat → Nat} {μ : MM} {Q : Int32 → MM → Prop} (hI : ∀ f i, dom f i → A f i < bnd f i) (hA : Ma A μ) {v : Int32}
    (h : Q (qN (cnt (fun i => decide (qN (A 367 i) = v)) (A 358 12))) μ) : G12_lettersTo v μ Q := by
  refine Lp.upE (A 358 12) (fun i => (qN (cnt (fun i => decide (qN (A 367 i) = v)) i), qN i, μ)) ?_
  intro i K hi hK
  have hn : A 358 12 < 97 := hI 358 12 (by unfold dom; decide)
  have hc := cnt_le (fun i => decide (qN (A 367 i) = v)) i
  rcases Nat.lt_or_ge i (A 358 12) with hl | hl
  · have hk := hK hl
    have hi9 : i < 96 := by omega
    have hf0 : A 367 i < 24 := hI 367 i (by unfold dom; omega)
    simp only [cnt] at hk
    simp (disch := omega) only [bo_q0, bo_q1, qN_le, qN_lt, qN_eq, qN_vp, qN_nat, qN_neg1, qN_neg, qN_nn, qN_lit, qN_add, qN_sub, qN_mul, qN_div, Bd_eq, reduceIte, Nat.add_sub_cancel, dm_l, Nat.zero_le, Nat.not_lt_zero, Nat.reduceEqDiff, Nat.reduceLT, Nat.reduceLeDiff, Nat.reduceAdd, Nat.reduceSub, Nat.reduceMul, Nat.reduceDiv, Nat.reduceMod, reduceCtorEq, true_implies, false_implies, not_true_eq_false, not_false_eq_true, true_and, and_true, implies_true, and_false, false_and, forall_const, true_or, or_true, false_or, or_false, G12_lettersTo_L4, G12_lettersTo_J28, Ma_s12 hA, Ma_367 hA, hi9, Nat.not_le.mpr hl, flag_q]
    repeat' (first | (refine And.intro ?_ ?_) | (refine fun _ => ?_))
    all_goals simpa [*] using hk
  · have e : i = A 358 12 := by omega
    subst e
    simp (disch := omega) only [bo_q0, bo_q1, qN_le, qN_lt, qN_eq, qN_vp, qN_nat, qN_neg1, qN_neg, qN_nn, qN_lit, qN_add, qN_sub, qN_mul, qN_div, Bd_eq, reduceIte, Nat.add_sub_cancel, dm_l, Nat.zero_le, Nat.not_lt_zero, Nat.reduceEqDiff, Nat.reduceLT, Nat.reduceLeDiff, Nat.reduceAdd, Nat.reduceSub, Nat.reduceMul, Nat.reduceDiv, Nat.reduceMod, reduceCtorEq, true_implies, false_implies, not_true_eq_false, not_false_eq_true, true_and, and_true, implies_true, and_false, false_and, forall_const, true_or, or_true, false_or, or_false, G12_lettersTo_L4, G12_lettersTo_J28, Ma_s12 hA, Nat.le_refl]
    exact h

theorem m_namesOf {A : Nat → Nat → Nat} {μ : MM} {Q : Int32 → MM → Prop} (hI : ∀ f i, dom f i → A f i < bnd f i) (hA : Ma A μ) {v : Nat} (hv : v < 2147483648)
    (h : Q (qN (cnt (fun i => decide (A 360 i = v)) (A 358 3))) μ) : G12_namesOf (qN v) μ Q := by
  refine Lp.upE (A 358 3) (fun i => (qN (cnt (fun i => decide (A 360 i = v)) i), qN i, μ)) ?_
  intro i K hi hK
  have hn : A 358 3 < 13 := hI 358 3 (by unfold dom; decide)
  have hc := cnt_le (fun i => decide (A 360 i = v)) i
  rcases Nat.lt_or_ge i (A 358 3) with hl | hl
  · have hk := hK hl
    have hi9 : i < 12 := by omega
    have hf0 : A 360 i < 2 := hI 360 i (by unfold dom; omega)
    simp only [cnt] at hk
    simp (disch := omega) only [bo_q0, bo_q1, qN_le, qN_lt, qN_eq, qN_vp, qN_nat, qN_neg1, qN_neg, qN_nn, qN_lit, qN_add, qN_sub, qN_mul, qN_div, Bd_eq, reduceIte, Nat.add_sub_cancel, dm_l, Nat.zero_le, Nat.not_lt_zero, Nat.reduceEqDiff, Nat.reduceLT, Nat.reduceLeDiff, Nat.reduceAdd, Nat.reduceSub, Nat.reduceMul, Nat.reduceDiv, Nat.reduceMod, reduceCtorEq, true_implies, false_implies, not_true_eq_false, not_false_eq_true, true_and, and_true, implies_true, and_false, false_and, forall_const, true_or, or_true, false_or, or_false, G12_namesOf_L4, G12_namesOf_J28, Ma_s3 hA, Ma_360 hA, hi9, Nat.not_le.mpr hl, flag_q]
    repeat' (first | (refine And.intro ?_ ?_) | (refine fun _ => ?_))
    all_goals simpa [*] using hk
  · have e : i = A 358 3 := by omega
    subst e
    simp (disch := omega) only [bo_q0, bo_q1, qN_le, qN_lt, qN_eq, qN_vp, qN_nat, qN_neg1, qN_neg, qN_nn, qN_lit, qN_add, qN_sub, qN_mul, qN_div, Bd_eq, reduceIte, Nat.add_sub_cancel, dm_l, Nat.zero_le, Nat.not_lt_zero, Nat.reduceEqDiff, Nat.reduceLT, Nat.reduceLeDiff, Nat.reduceAdd, Nat.reduceSub, Nat.reduceMul, Nat.reduceDiv, Nat.reduceMod, reduceCtorEq, true_implies, false_implies, not_true_eq_false, not_false_eq_true, true_and, and_true, implies_true, and_false, false_and, forall_const, true_or, or_true, false_or, or_false, G12_namesOf_L4, G12_namesOf_J28, Ma_s3 hA, Nat.le_refl]
    exact h

theorem c_readCount {A : Nat → Nat → Nat} {μ : MM} {Q : Int32 → MM → Prop} (hI : ∀ f i, dom f i → A f i < bnd f i) (hA : Ca A μ) 
    (h : Q (qN (cnt (fun i => decide (A 373 i = 1)) (A 358 12))) μ) : G10_readCount μ Q := by
  refine Lp.upE (A 358 12) (fun i => (qN (cnt (fun i => decide (A 373 i = 1)) i), qN i, μ)) ?_
  intro i K hi hK
  have hn : A 358 12 < 97 := hI 358 12 (by unfold dom; decide)
  have hc := cnt_le (fun i => decide (A 373 i = 1)) i
  rcases Nat.lt_or_ge i (A 358 12) with hl | hl
  · have hk := hK hl
    have hi9 : i < 96 := by omega
    have hf0 : A 373 i < 2 := hI 373 i (by unfold dom; omega)
    simp only [cnt] at hk
    simp (disch := omega) only [bo_q0, bo_q1, qN_le, qN_lt, qN_eq, qN_vp, qN_nat, qN_neg1, qN_neg, qN_nn, qN_lit, qN_add, qN_sub, qN_mul, qN_div, Bd_eq, reduceIte, Nat.add_sub_cancel, dm_l, Nat.zero_le, Nat.not_lt_zero, Nat.reduceEqDiff, Nat.reduceLT, Nat.reduceLeDiff, Nat.reduceAdd, Nat.reduceSub, Nat.reduceMul, Nat.reduceDiv, Nat.reduceMod, reduceCtorEq, true_implies, false_implies, not_true_eq_false, not_false_eq_true, true_and, and_true, implies_true, and_false, false_and, forall_const, true_or, or_true, false_or, or_false, G10_readCount_L4, Ca_s12 hA, Ca_373 hA, hi9, Nat.not_le.mpr hl, flag_q]
    repeat' (first | (refine And.intro ?_ ?_) | (refine fun _ => ?_))
    all_goals (have r1 : A 373 i = 0 ∨ A 373 i = 1 := by omega
               rcases r1 with r1 | r1 <;> simp_all)
  · have e : i = A 358 12 := by omega
    subst e
    simp (disch := omega) only [bo_q0, bo_q1, qN_le, qN_lt, qN_eq, qN_vp, qN_nat, qN_neg1, qN_neg, qN_nn, qN_lit, qN_add, qN_sub, qN_mul, qN_div, Bd_eq, reduceIte, Nat.add_sub_cancel, dm_l, Nat.zero_le, Nat.not_lt_zero, Nat.reduceEqDiff, Nat.reduceLT, Nat.reduceLeDiff, Nat.reduceAdd, Nat.reduceSub, Nat.reduceMul, Nat.reduceDiv, Nat.reduceMod, reduceCtorEq, true_implies, false_implies, not_true_eq_false, not_false_eq_true, true_and, and_true, implies_true, and_false, false_and, forall_const, true_or, or_true, false_or, or_false, G10_readCount_L4, Ca_s12 hA, Nat.le_refl]
    exact h

theorem m_readMany {A : Nat → Nat → Nat} {μ : MM} {Q : Int32 → MM → Prop} (hI : ∀ f i, dom f i → A f i < bnd f i) (hA : Ma A μ) 
    (h : Q (qN (cnt (fun i => decide (A 373 i = 1)) (A 358 12))) μ) : G12_readMany μ Q := by
  refine Lp.upE (A 358 12) (fun i => (qN (cnt (fun i => decide (A 373 i = 1)) i), qN i, μ)) ?_
  intro i K hi hK
  have hn : A 358 12 < 97 := hI 358 12 (by unfold dom; decide)
  have hc := cnt_le (fun i => decide (A 373 i = 1)) i
  rcases Nat.lt_or_ge i (A 358 12) with hl | hl
  · have hk := hK hl
    have hi9 : i < 96 := by omega
    have hf0 : A 373 i < 2 := hI 373 i (by unfold dom; omega)
    simp only [cnt] at hk
    simp (disch := omega) only [bo_q0, bo_q1, qN_le, qN_lt, qN_eq, qN_vp, qN_nat, qN_neg1, qN_neg, qN_nn, qN_lit, qN_add, qN_sub, qN_mul, qN_div, Bd_eq, reduceIte, Nat.add_sub_cancel, dm_l, Nat.zero_le, Nat.not_lt_zero, Nat.reduceEqDiff, Nat.reduceLT, Nat.reduceLeDiff, Nat.reduceAdd, Nat.reduceSub, Nat.reduceMul, Nat.reduceDiv, Nat.reduceMod, reduceCtorEq, true_implies, false_implies, not_true_eq_false, not_false_eq_true, true_and, and_true, implies_true, and_false, false_and, forall_const, true_or, or_true, false_or, or_false, G12_readMany_L4, Ma_s12 hA, Ma_373 hA, hi9, Nat.not_le.mpr hl, flag_q]
    repeat' (first | (refine And.intro ?_ ?_) | (refine fun _ => ?_))
    all_goals (have r1 : A 373 i = 0 ∨ A 373 i = 1 := by omega
               rcases r1 with r1 | r1 <;> simp_all)
  · have e : i = A 358 12 := by omega
    subst e
    simp (disch := omega) only [bo_q0, bo_q1, qN_le, qN_lt, qN_eq, qN_vp, qN_nat, qN_neg1, qN_neg, qN_nn, qN_lit, qN_add, qN_sub, qN_mul, qN_div, Bd_eq, reduceIte, Nat.add_sub_cancel, dm_l, Nat.zero_le, Nat.not_lt_zero, Nat.reduceEqDiff, Nat.reduceLT, Nat.reduceLeDiff, Nat.reduceAdd, Nat.reduceSub, Nat.reduceMul, Nat.reduceDiv, Nat.reduceMod, reduceCtorEq, true_implies, false_implies, not_true_eq_false, not_false_eq_true, true_and, and_true, implies_true, and_false, false_and, forall_const, true_or, or_true, false_or, or_false, G12_readMany_L4, Ma_s12 hA, Nat.le_refl]
    exact h

theorem c_rungCount {A : Nat → Nat → Nat} {μ : MM} {Q : Int32 → MM → Prop} (hI : ∀ f i, dom f i → A f i < bnd f i) (hA : Ca A μ) 
    (h : Q (qN (cnt (fun i => decide (A 374 i = 1)) (A 358 12))) μ) : G10_rungCount μ Q := by
  refine Lp.upE (A 358 12) (fun i => (qN (cnt (fun i => decide (A 374 i = 1)) i), qN i, μ)) ?_
  intro i K hi hK
  have hn : A 358 12 < 97 := hI 358 12 (by unfold dom; decide)
  have hc := cnt_le (fun i => decide (A 374 i = 1)) i
  rcases Nat.lt_or_ge i (A 358 12) with hl | hl
  · have hk := hK hl
    have hi9 : i < 96 := by omega
    have hf0 : A 374 i < 2 := hI 374 i (by unfold dom; omega)
    simp only [cnt] at hk
    simp (disch := omega) only [bo_q0, bo_q1, qN_le, qN_lt, qN_eq, qN_vp, qN_nat, qN_neg1, qN_neg, qN_nn, qN_lit, qN_add, qN_sub, qN_mul, qN_div, Bd_eq, reduceIte, Nat.add_sub_cancel, dm_l, Nat.zero_le, Nat.not_lt_zero, Nat.reduceEqDiff, Nat.reduceLT, Nat.reduceLeDiff, Nat.reduceAdd, Nat.reduceSub, Nat.reduceMul, Nat.reduceDiv, Nat.reduceMod, reduceCtorEq, true_implies, false_implies, not_true_eq_false, not_false_eq_true, true_and, and_true, implies_true, and_false, false_and, forall_const, true_or, or_true, false_or, or_false, G10_rungCount_L4, Ca_s12 hA, Ca_374 hA, hi9, Nat.not_le.mpr hl, flag_q]
    repeat' (first | (refine And.intro ?_ ?_) | (refine fun _ => ?_))
    all_goals (have r1 : A 374 i = 0 ∨ A 374 i = 1 := by omega
               rcases r1 with r1 | r1 <;> simp_all)
  · have e : i = A 358 12 := by omega
    subst e
    simp (disch := omega) only [bo_q0, bo_q1, qN_le, qN_lt, qN_eq, qN_vp, qN_nat, qN_neg1, qN_neg, qN_nn, qN_lit, qN_add, qN_sub, qN_mul, qN_div, Bd_eq, reduceIte, Nat.add_sub_cancel, dm_l, Nat.zero_le, Nat.not_lt_zero, Nat.reduceEqDiff, Nat.reduceLT, Nat.reduceLeDiff, Nat.reduceAdd, Nat.reduceSub, Nat.reduceMul, Nat.reduceDiv, Nat.reduceMod, reduceCtorEq, true_implies, false_implies, not_true_eq_false, not_false_eq_true, true_and, and_true, implies_true, and_false, false_and, forall_const, true_or, or_true, false_or, or_false, G10_rungCount_L4, Ca_s12 hA, Nat.le_refl]
    exact h

theorem m_rungMany {A : Nat → Nat → Nat} {μ : MM} {Q : Int32 → MM → Prop} (hI : ∀ f i, dom f i → A f i < bnd f i) (hA : Ma A μ) (hR : ∀ i, i < 96 → A 374 i = 1 → A 373 i = 1)
    (h : Q (qN (cnt (fun i => decide (A 374 i = 1)) (A 358 12))) μ) : G12_rungMany μ Q := by
  refine Lp.upE (A 358 12) (fun i => (qN (cnt (fun i => decide (A 374 i = 1)) i), qN i, μ)) ?_
  intro i K hi hK
  have hn : A 358 12 < 97 := hI 358 12 (by unfold dom; decide)
  have hc := cnt_le (fun i => decide (A 374 i = 1)) i
  rcases Nat.lt_or_ge i (A 358 12) with hl | hl
  · have hk := hK hl
    have hi9 : i < 96 := by omega
    have hf0 : A 373 i < 2 := hI 373 i (by unfold dom; omega)
    have hf1 : A 374 i < 2 := hI 374 i (by unfold dom; omega)
    simp only [cnt] at hk
    simp (disch := omega) only [bo_q0, bo_q1, qN_le, qN_lt, qN_eq, qN_vp, qN_nat, qN_neg1, qN_neg, qN_nn, qN_lit, qN_add, qN_sub, qN_mul, qN_div, Bd_eq, reduceIte, Nat.add_sub_cancel, dm_l, Nat.zero_le, Nat.not_lt_zero, Nat.reduceEqDiff, Nat.reduceLT, Nat.reduceLeDiff, Nat.reduceAdd, Nat.reduceSub, Nat.reduceMul, Nat.reduceDiv, Nat.reduceMod, reduceCtorEq, true_implies, false_implies, not_true_eq_false, not_false_eq_true, true_and, and_true, implies_true, and_false, false_and, forall_const, true_or, or_true, false_or, or_false, G12_rungMany_L4, G12_rungMany_J35, G12_rungMany_J36, Ma_s12 hA, Ma_373 hA, Ma_374 hA, hi9, Nat.not_le.mpr hl, flag_q]
    repeat' (first | (refine And.intro ?_ ?_) | (refine fun _ => ?_))
    all_goals (have r0 := hR i hi9
               have r1 : A 374 i = 0 ∨ A 374 i = 1 := by omega
               have r2 : A 373 i = 0 ∨ A 373 i = 1 := by omega
               rcases r1 with r1 | r1 <;> rcases r2 with r2 | r2 <;> simp_all)
  · have e : i = A 358 12 := by omega
    subst e
    simp (disch := omega) only [bo_q0, bo_q1, qN_le, qN_lt, qN_eq, qN_vp, qN_nat, qN_neg1, qN_neg, qN_nn, qN_lit, qN_add, qN_sub, qN_mul, qN_div, Bd_eq, reduceIte, Nat.add_sub_cancel, dm_l, Nat.zero_le, Nat.not_lt_zero, Nat.reduceEqDiff, Nat.reduceLT, Nat.reduceLeDiff, Nat.reduceAdd, Nat.reduceSub, Nat.reduceMul, Nat.reduceDiv, Nat.reduceMod, reduceCtorEq, true_implies, false_implies, not_true_eq_false, not_false_eq_true, true_and, and_true, implies_true, and_false, false_and, forall_const, true_or, or_true, false_or, or_false, G12_rungMany_L4, G12_rungMany_J35, G12_rungMany_J36, Ma_s12 hA, Nat.le_refl]
    exact h

theorem cnt_q {A : Nat → Nat → Nat} (hI : ∀ f i, dom f i → A f i < bnd f i) {a : Nat} (ha : a < 2147483648) {n : Nat} (hn : n ≤ 96) : cnt (fun i => decide (qN (A 367 i) = qN a)) n = cnt (fun i => decide (A 367 i = a)) n :=
  cnt_congr (fun i hi => by
    have hf : A 367 i < 24 := hI 367 i (by unfold dom; omega)
    simp (disch := omega) only [qN_eq])
