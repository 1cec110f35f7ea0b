/-! simple operations: names, houses, seed, kinds, askings .. -/
theorem bnd_w {A : Nat → Nat → Nat} (h : ∀ f i, dom f i → A f i < bnd f i) {f i v : Nat} (hv : v < bnd f i) : ∀ g j, dom g j → up2 A f i v g j < bnd g j := by
  intro g j d
  unfold up2
  split
  · rename_i q
    rw [q.1, q.2]
    exact hv
  · exact h g j d

theorem c_name {A X : Nat → Nat → Nat} {W : List Int64} {μ : MM} {v1 v2 v3 : Int32} {Q : Int32 → MM → Prop} (hI : ∀ f i, dom f i → A f i < bnd f i) (h : Cs A X W μ)
    (hy : ∀ a b c, a < 2 → b < 2 → c < 1010 → v1 = qN a → v2 = qN b → v3 = qN c → A 358 3 < 12 → ∀ μ', Cs (up2 (up2 (up2 (up2 (up2 A 360 (A 358 3) (a)) 361 (A 358 3) (b)) 362 (A 358 3) (c / 101)) 363 (A 358 3) (c % 101)) 358 (3) (A 358 3 + 1)) X W μ' → FC μ μ' → Q (qN (A 358 3)) μ')
    (hn : ¬ (inr v1 2 ∧ inr v2 2 ∧ inr v3 1010 ∧ A 358 3 < 12) → Q (-1) μ) : G11_name v1 v2 v3 μ Q := by
  have hA := h.1
  have hb : A 358 3 < 13 := hI 358 3 (by unfold dom; decide)
  unfold G11_name
  refine within0_s 1 rfl (by decide) (fun q1 => ?_) (fun q1 => ?_)
  case refine_2 =>
    simp (disch := omega) only [bo_q0, bo_q1, qN_le, qN_lt, qN_eq, qN_vp, qN_nat, qN_neg1, qN_neg, qN_nn, qN_lit, qN_add, qN_sub, qN_mul, qN_div, Bd_eq, reduceIte, Nat.add_sub_cancel, dm_l, Nat.zero_le, Nat.not_lt_zero, Nat.reduceEqDiff, Nat.reduceLT, Nat.reduceLeDiff, Nat.reduceAdd, Nat.reduceSub, Nat.reduceMul, Nat.reduceDiv, Nat.reduceMod, reduceCtorEq, true_implies, false_implies, not_true_eq_false, not_false_eq_true, true_and, and_true, implies_true, and_false, false_and, forall_const, true_or, or_true, false_or, or_false, G11_name_J33, G11_name_J34, G11_name_J66]
    exact hn (fun r => q1 r.1)
  simp (disch := omega) only [bo_q0, bo_q1, qN_le, qN_lt, qN_eq, qN_vp, qN_nat, qN_neg1, qN_neg, qN_nn, qN_lit, qN_add, qN_sub, qN_mul, qN_div, Bd_eq, reduceIte, Nat.add_sub_cancel, dm_l, Nat.zero_le, Nat.not_lt_zero, Nat.reduceEqDiff, Nat.reduceLT, Nat.reduceLeDiff, Nat.reduceAdd, Nat.reduceSub, Nat.reduceMul, Nat.reduceDiv, Nat.reduceMod, reduceCtorEq, true_implies, false_implies, not_true_eq_false, not_false_eq_true, true_and, and_true, implies_true, and_false, false_and, forall_const, true_or, or_true, false_or, or_false, ]
  refine within0_s 1 rfl (by decide) (fun q2 => ?_) (fun q2 => ?_)
  case refine_2 =>
    simp (disch := omega) only [bo_q0, bo_q1, qN_le, qN_lt, qN_eq, qN_vp, qN_nat, qN_neg1, qN_neg, qN_nn, qN_lit, qN_add, qN_sub, qN_mul, qN_div, Bd_eq, reduceIte, Nat.add_sub_cancel, dm_l, Nat.zero_le, Nat.not_lt_zero, Nat.reduceEqDiff, Nat.reduceLT, Nat.reduceLeDiff, Nat.reduceAdd, Nat.reduceSub, Nat.reduceMul, Nat.reduceDiv, Nat.reduceMod, reduceCtorEq, true_implies, false_implies, not_true_eq_false, not_false_eq_true, true_and, and_true, implies_true, and_false, false_and, forall_const, true_or, or_true, false_or, or_false, G11_name_J33, G11_name_J34, G11_name_J66]
    exact hn (fun r => q2 r.2.1)
  simp (disch := omega) only [bo_q0, bo_q1, qN_le, qN_lt, qN_eq, qN_vp, qN_nat, qN_neg1, qN_neg, qN_nn, qN_lit, qN_add, qN_sub, qN_mul, qN_div, Bd_eq, reduceIte, Nat.add_sub_cancel, dm_l, Nat.zero_le, Nat.not_lt_zero, Nat.reduceEqDiff, Nat.reduceLT, Nat.reduceLeDiff, Nat.reduceAdd, Nat.reduceSub, Nat.reduceMul, Nat.reduceDiv, Nat.reduceMod, reduceCtorEq, true_implies, false_implies, not_true_eq_false, not_false_eq_true, true_and, and_true, implies_true, and_false, false_and, forall_const, true_or, or_true, false_or, or_false, ]
  refine within0_s 1009 rfl (by decide) (fun q3 => ?_) (fun q3 => ?_)
  case refine_2 =>
    simp (disch := omega) only [bo_q0, bo_q1, qN_le, qN_lt, qN_eq, qN_vp, qN_nat, qN_neg1, qN_neg, qN_nn, qN_lit, qN_add, qN_sub, qN_mul, qN_div, Bd_eq, reduceIte, Nat.add_sub_cancel, dm_l, Nat.zero_le, Nat.not_lt_zero, Nat.reduceEqDiff, Nat.reduceLT, Nat.reduceLeDiff, Nat.reduceAdd, Nat.reduceSub, Nat.reduceMul, Nat.reduceDiv, Nat.reduceMod, reduceCtorEq, true_implies, false_implies, not_true_eq_false, not_false_eq_true, true_and, and_true, implies_true, and_false, false_and, forall_const, true_or, or_true, false_or, or_false, G11_name_J33, G11_name_J34, G11_name_J66]
    exact hn (fun r => q3 r.2.2.1)
  simp (disch := omega) only [bo_q0, bo_q1, qN_le, qN_lt, qN_eq, qN_vp, qN_nat, qN_neg1, qN_neg, qN_nn, qN_lit, qN_add, qN_sub, qN_mul, qN_div, Bd_eq, reduceIte, Nat.add_sub_cancel, dm_l, Nat.zero_le, Nat.not_lt_zero, Nat.reduceEqDiff, Nat.reduceLT, Nat.reduceLeDiff, Nat.reduceAdd, Nat.reduceSub, Nat.reduceMul, Nat.reduceDiv, Nat.reduceMod, reduceCtorEq, true_implies, false_implies, not_true_eq_false, not_false_eq_true, true_and, and_true, implies_true, and_false, false_and, forall_const, true_or, or_true, false_or, or_false, G11_name_J33, G11_name_J34, G11_name_J66, Ca_s3 hA]
  refine ⟨fun q => hn (fun r => by omega), fun q => ?_⟩
  have q' : A 358 3 < 12 := by omega
  obtain ⟨a, ha, rfl⟩ := q1
  obtain ⟨b, hb2, rfl⟩ := q2
  obtain ⟨c, hc, rfl⟩ := q3
  simp (disch := omega) only [bo_q0, bo_q1, qN_le, qN_lt, qN_eq, qN_vp, qN_nat, qN_neg1, qN_neg, qN_nn, qN_lit, qN_add, qN_sub, qN_mul, qN_div, Bd_eq, reduceIte, Nat.add_sub_cancel, dm_l, Nat.zero_le, Nat.not_lt_zero, Nat.reduceEqDiff, Nat.reduceLT, Nat.reduceLeDiff, Nat.reduceAdd, Nat.reduceSub, Nat.reduceMul, Nat.reduceDiv, Nat.reduceMod, reduceCtorEq, true_implies, false_implies, not_true_eq_false, not_false_eq_true, true_and, and_true, implies_true, and_false, false_and, forall_const, true_or, or_true, false_or, or_false, G10_addName, Ca_s3 hA, gI_I, gI_J, gI_R, gJ_I, gJ_J, gJ_R, gR_I, gR_J, gR_R, q']
  have hA' := (Cw_s3 (Cw_363 (Cw_362 (Cw_361 (Cw_360 hA (i := A 358 3) (by omega) (a)) (i := A 358 3) (by omega) (b)) (i := A 358 3) (by omega) (c / 101)) (i := A 358 3) (by omega) (c % 101)) (A 358 3 + 1))
  have hs : Sm cT μ _ := (((((Sm.rfl'.wI (qN (a)) (k := 2) (j := A 358 3) (by unfold cT; omega)).wI (qN (b)) (k := 3) (j := A 358 3) (by unfold cT; omega)).wI (qN (c / 101)) (k := 4) (j := A 358 3) (by unfold cT; omega)).wI (qN (c % 101)) (k := 5) (j := A 358 3) (by unfold cT; omega)).wI (qN (A 358 3 + 1)) (k := 1) (j := 4) (by unfold cT; omega))
  exact hy a b c ha hb2 hc rfl rfl rfl q' _ (h.up hs hA' (fun p hp => rfl)) (FC_cT hs)

theorem m_name {A X : Nat → Nat → Nat} {W : List Int64} {μ : MM} {v1 v2 v3 : Int32} {Q : Int32 → MM → Prop} (hI : ∀ f i, dom f i → A f i < bnd f i) (h : Ms A X W μ)
    (hy : ∀ a b c, a < 2 → b < 2 → c < 1010 → v1 = qN a → v2 = qN b → v3 = qN c → A 358 3 < 12 → ∀ μ', Ms (up2 (up2 (up2 (up2 (up2 A 360 (A 358 3) (a)) 361 (A 358 3) (b)) 362 (A 358 3) (c / 101)) 363 (A 358 3) (c % 101)) 358 (3) (A 358 3 + 1)) X W μ' → FM μ μ' → Q (qN (A 358 3)) μ')
    (hn : ¬ (inr v1 2 ∧ inr v2 2 ∧ inr v3 1010 ∧ A 358 3 < 12) → ∀ μ', Ms A X W μ' → FM μ μ' → Q (-1) μ') : G12_name v1 v2 v3 μ Q := by
  unfold G12_name
  rw [Bd_eq]
  have h0 := m_thr h 0
  have f0 := fm_thr μ 0
  revert h0 f0
  generalize sI μ 358 0 0 = μ0
  intro h0 f0
  have hA := h0.1
  have hb : A 358 3 < 13 := hI 358 3 (by unfold dom; decide)
  refine in0_s 1 rfl (by decide) (fun q1 => ?_) (fun q1 => ?_)
  case refine_2 =>
    simp (disch := omega) only [bo_q0, bo_q1, qN_le, qN_lt, qN_eq, qN_vp, qN_nat, qN_neg1, qN_neg, qN_nn, qN_lit, qN_add, qN_sub, qN_mul, qN_div, Bd_eq, reduceIte, Nat.add_sub_cancel, dm_l, Nat.zero_le, Nat.not_lt_zero, Nat.reduceEqDiff, Nat.reduceLT, Nat.reduceLeDiff, Nat.reduceAdd, Nat.reduceSub, Nat.reduceMul, Nat.reduceDiv, Nat.reduceMod, reduceCtorEq, true_implies, false_implies, not_true_eq_false, not_false_eq_true, true_and, and_true, implies_true, and_false, false_and, forall_const, true_or, or_true, false_or, or_false, ]
    exact hn (fun r => q1 r.1) _ h0 f0
  simp (disch := omega) only [bo_q0, bo_q1, qN_le, qN_lt, qN_eq, qN_vp, qN_nat, qN_neg1, qN_neg, qN_nn, qN_lit, qN_add, qN_sub, qN_mul, qN_div, Bd_eq, reduceIte, Nat.add_sub_cancel, dm_l, Nat.zero_le, Nat.not_lt_zero, Nat.reduceEqDiff, Nat.reduceLT, Nat.reduceLeDiff, Nat.reduceAdd, Nat.reduceSub, Nat.reduceMul, Nat.reduceDiv, Nat.reduceMod, reduceCtorEq, true_implies, false_implies, not_true_eq_false, not_false_eq_true, true_and, and_true, implies_true, and_false, false_and, forall_const, true_or, or_true, false_or, or_false, ]
  refine in0_s 1 rfl (by decide) (fun q2 => ?_) (fun q2 => ?_)
  case refine_2 =>
    simp (disch := omega) only [bo_q0, bo_q1, qN_le, qN_lt, qN_eq, qN_vp, qN_nat, qN_neg1, qN_neg, qN_nn, qN_lit, qN_add, qN_sub, qN_mul, qN_div, Bd_eq, reduceIte, Nat.add_sub_cancel, dm_l, Nat.zero_le, Nat.not_lt_zero, Nat.reduceEqDiff, Nat.reduceLT, Nat.reduceLeDiff, Nat.reduceAdd, Nat.reduceSub, Nat.reduceMul, Nat.reduceDiv, Nat.reduceMod, reduceCtorEq, true_implies, false_implies, not_true_eq_false, not_false_eq_true, true_and, and_true, implies_true, and_false, false_and, forall_const, true_or, or_true, false_or, or_false, ]
    exact hn (fun r => q2 r.2.1) _ h0 f0
  simp (disch := omega) only [bo_q0, bo_q1, qN_le, qN_lt, qN_eq, qN_vp, qN_nat, qN_neg1, qN_neg, qN_nn, qN_lit, qN_add, qN_sub, qN_mul, qN_div, Bd_eq, reduceIte, Nat.add_sub_cancel, dm_l, Nat.zero_le, Nat.not_lt_zero, Nat.reduceEqDiff, Nat.reduceLT, Nat.reduceLeDiff, Nat.reduceAdd, Nat.reduceSub, Nat.reduceMul, Nat.reduceDiv, Nat.reduceMod, reduceCtorEq, true_implies, false_implies, not_true_eq_false, not_false_eq_true, true_and, and_true, implies_true, and_false, false_and, forall_const, true_or, or_true, false_or, or_false, ]
  refine ⟨fun q => hn (fun r => ?_) _ h0 f0, fun q3 => ?_⟩
  · obtain ⟨c, hc, rfl⟩ := r.2.2.1
    rw [← qN_lit 0, qN_neg (by omega)] at q
    exact q
  obtain ⟨c, hc, rfl⟩ := qN_of q3
  simp (disch := omega) only [bo_q0, bo_q1, qN_le, qN_lt, qN_eq, qN_vp, qN_nat, qN_neg1, qN_neg, qN_nn, qN_lit, qN_add, qN_sub, qN_mul, qN_div, Bd_eq, reduceIte, Nat.add_sub_cancel, dm_l, Nat.zero_le, Nat.not_lt_zero, Nat.reduceEqDiff, Nat.reduceLT, Nat.reduceLeDiff, Nat.reduceAdd, Nat.reduceSub, Nat.reduceMul, Nat.reduceDiv, Nat.reduceMod, reduceCtorEq, true_implies, false_implies, not_true_eq_false, not_false_eq_true, true_and, and_true, implies_true, and_false, false_and, forall_const, true_or, or_true, false_or, or_false, ]
  refine in0_s 9 rfl (by decide) (fun q4 => ?_) (fun q4 => ?_)
  case refine_2 =>
    simp (disch := omega) only [bo_q0, bo_q1, qN_le, qN_lt, qN_eq, qN_vp, qN_nat, qN_neg1, qN_neg, qN_nn, qN_lit, qN_add, qN_sub, qN_mul, qN_div, Bd_eq, reduceIte, Nat.add_sub_cancel, dm_l, Nat.zero_le, Nat.not_lt_zero, Nat.reduceEqDiff, Nat.reduceLT, Nat.reduceLeDiff, Nat.reduceAdd, Nat.reduceSub, Nat.reduceMul, Nat.reduceDiv, Nat.reduceMod, reduceCtorEq, true_implies, false_implies, not_true_eq_false, not_false_eq_true, true_and, and_true, implies_true, and_false, false_and, forall_const, true_or, or_true, false_or, or_false, ]
    exact hn (fun r => q4 (by have r3 := r.2.2.1; rw [inr_q hc (by decide)] at r3; exact ⟨c / 101, by omega, rfl⟩)) _ h0 f0
  rw [inr_q (by omega) (by decide)] at q4
  simp (disch := omega) only [bo_q0, bo_q1, qN_le, qN_lt, qN_eq, qN_vp, qN_nat, qN_neg1, qN_neg, qN_nn, qN_lit, qN_add, qN_sub, qN_mul, qN_div, Bd_eq, reduceIte, Nat.add_sub_cancel, dm_l, Nat.zero_le, Nat.not_lt_zero, Nat.reduceEqDiff, Nat.reduceLT, Nat.reduceLeDiff, Nat.reduceAdd, Nat.reduceSub, Nat.reduceMul, Nat.reduceDiv, Nat.reduceMod, reduceCtorEq, true_implies, false_implies, not_true_eq_false, not_false_eq_true, true_and, and_true, implies_true, and_false, false_and, forall_const, true_or, or_true, false_or, or_false, Ma_s3 hA]
  refine ⟨fun q => ?_, fun q => hn (fun r => by omega) _ h0 f0⟩
  have q' : A 358 3 < 12 := by omega
  obtain ⟨a, ha, rfl⟩ := q1
  obtain ⟨b, hb2, rfl⟩ := q2
  simp (disch := omega) only [bo_q0, bo_q1, qN_le, qN_lt, qN_eq, qN_vp, qN_nat, qN_neg1, qN_neg, qN_nn, qN_lit, qN_add, qN_sub, qN_mul, qN_div, Bd_eq, reduceIte, Nat.add_sub_cancel, dm_l, Nat.zero_le, Nat.not_lt_zero, Nat.reduceEqDiff, Nat.reduceLT, Nat.reduceLeDiff, Nat.reduceAdd, Nat.reduceSub, Nat.reduceMul, Nat.reduceDiv, Nat.reduceMod, reduceCtorEq, true_implies, false_implies, not_true_eq_false, not_false_eq_true, true_and, and_true, implies_true, and_false, false_and, forall_const, true_or, or_true, false_or, or_false, Ma_s3 hA, gI_I, gI_J, gI_R, gJ_I, gJ_J, gJ_R, gR_I, gR_J, gR_R, q']
  have hA' := (Ma_w (Ma_w (Ma_w (Ma_w (Ma_w hA 360 (A 358 3) (a)) 361 (A 358 3) (b)) 362 (A 358 3) (c / 101)) 363 (A 358 3) (c % 101)) 358 (3) (A 358 3 + 1))
  have hs : Sm mT μ0 _ := (((((Sm.rfl'.wI (qN (a)) (k := 360) (j := A 358 3) (by unfold mT; omega)).wI (qN (b)) (k := 361) (j := A 358 3) (by unfold mT; omega)).wI (qN (c / 101)) (k := 362) (j := A 358 3) (by unfold mT; omega)).wI (qN (c % 101)) (k := 363) (j := A 358 3) (by unfold mT; omega)).wI (qN (A 358 3 + 1)) (k := 358) (j := 3) (by unfold mT; omega))
  exact hy a b c ha hb2 (by omega) rfl rfl rfl q' _ (h0.up hs hA' (fun p hp => rfl)) (f0.tr (FM_mT hs))

theorem c_house {A X : Nat → Nat → Nat} {W : List Int64} {μ : MM} {v1 v2 v3 : Int32} {Q : Int32 → MM → Prop} (hI : ∀ f i, dom f i → A f i < bnd f i) (h : Cs A X W μ)
    (hy : ∀ a b c, a < 4 → b < 4 → c < 6 → v1 = qN a → v2 = qN b → v3 = qN c → A 358 8 < 24 → ∀ μ', Cs (up2 (up2 (up2 (up2 A 364 (A 358 8) (a)) 365 (A 358 8) (b)) 366 (A 358 8) (c)) 358 (8) (A 358 8 + 1)) X W μ' → FC μ μ' → Q (qN (A 358 8)) μ')
    (hn : ¬ (inr v1 4 ∧ inr v2 4 ∧ inr v3 6 ∧ A 358 8 < 24) → Q (-1) μ) : G11_house v1 v2 v3 μ Q := by
  have hA := h.1
  have hb : A 358 8 < 25 := hI 358 8 (by unfold dom; decide)
  unfold G11_house
  refine within0_s 3 rfl (by decide) (fun q1 => ?_) (fun q1 => ?_)
  case refine_2 =>
    simp (disch := omega) only [bo_q0, bo_q1, qN_le, qN_lt, qN_eq, qN_vp, qN_nat, qN_neg1, qN_neg, qN_nn, qN_lit, qN_add, qN_sub, qN_mul, qN_div, Bd_eq, reduceIte, Nat.add_sub_cancel, dm_l, Nat.zero_le, Nat.not_lt_zero, Nat.reduceEqDiff, Nat.reduceLT, Nat.reduceLeDiff, Nat.reduceAdd, Nat.reduceSub, Nat.reduceMul, Nat.reduceDiv, Nat.reduceMod, reduceCtorEq, true_implies, false_implies, not_true_eq_false, not_false_eq_true, true_and, and_true, implies_true, and_false, false_and, forall_const, true_or, or_true, false_or, or_false, G11_house_J31, G11_house_J32, G11_house_J64]
    exact hn (fun r => q1 r.1)
  simp (disch := omega) only [bo_q0, bo_q1, qN_le, qN_lt, qN_eq, qN_vp, qN_nat, qN_neg1, qN_neg, qN_nn, qN_lit, qN_add, qN_sub, qN_mul, qN_div, Bd_eq, reduceIte, Nat.add_sub_cancel, dm_l, Nat.zero_le, Nat.not_lt_zero, Nat.reduceEqDiff, Nat.reduceLT, Nat.reduceLeDiff, Nat.reduceAdd, Nat.reduceSub, Nat.reduceMul, Nat.reduceDiv, Nat.reduceMod, reduceCtorEq, true_implies, false_implies, not_true_eq_false, not_false_eq_true, true_and, and_true, implies_true, and_false, false_and, forall_const, true_or, or_true, false_or, or_false, ]
  refine within0_s 3 rfl (by decide) (fun q2 => ?_) (fun q2 => ?_)
  case refine_2 =>
    simp (disch := omega) only [bo_q0, bo_q1, qN_le, qN_lt, qN_eq, qN_vp, qN_nat, qN_neg1, qN_neg, qN_nn, qN_lit, qN_add, qN_sub, qN_mul, qN_div, Bd_eq, reduceIte, Nat.add_sub_cancel, dm_l, Nat.zero_le, Nat.not_lt_zero, Nat.reduceEqDiff, Nat.reduceLT, Nat.reduceLeDiff, Nat.reduceAdd, Nat.reduceSub, Nat.reduceMul, Nat.reduceDiv, Nat.reduceMod, reduceCtorEq, true_implies, false_implies, not_true_eq_false, not_false_eq_true, true_and, and_true, implies_true, and_false, false_and, forall_const, true_or, or_true, false_or, or_false, G11_house_J31, G11_house_J32, G11_house_J64]
    exact hn (fun r => q2 r.2.1)
  simp (disch := omega) only [bo_q0, bo_q1, qN_le, qN_lt, qN_eq, qN_vp, qN_nat, qN_neg1, qN_neg, qN_nn, qN_lit, qN_add, qN_sub, qN_mul, qN_div, Bd_eq, reduceIte, Nat.add_sub_cancel, dm_l, Nat.zero_le, Nat.not_lt_zero, Nat.reduceEqDiff, Nat.reduceLT, Nat.reduceLeDiff, Nat.reduceAdd, Nat.reduceSub, Nat.reduceMul, Nat.reduceDiv, Nat.reduceMod, reduceCtorEq, true_implies, false_implies, not_true_eq_false, not_false_eq_true, true_and, and_true, implies_true, and_false, false_and, forall_const, true_or, or_true, false_or, or_false, ]
  refine within0_s 5 rfl (by decide) (fun q3 => ?_) (fun q3 => ?_)
  case refine_2 =>
    simp (disch := omega) only [bo_q0, bo_q1, qN_le, qN_lt, qN_eq, qN_vp, qN_nat, qN_neg1, qN_neg, qN_nn, qN_lit, qN_add, qN_sub, qN_mul, qN_div, Bd_eq, reduceIte, Nat.add_sub_cancel, dm_l, Nat.zero_le, Nat.not_lt_zero, Nat.reduceEqDiff, Nat.reduceLT, Nat.reduceLeDiff, Nat.reduceAdd, Nat.reduceSub, Nat.reduceMul, Nat.reduceDiv, Nat.reduceMod, reduceCtorEq, true_implies, false_implies, not_true_eq_false, not_false_eq_true, true_and, and_true, implies_true, and_false, false_and, forall_const, true_or, or_true, false_or, or_false, G11_house_J31, G11_house_J32, G11_house_J64]
    exact hn (fun r => q3 r.2.2.1)
  simp (disch := omega) only [bo_q0, bo_q1, qN_le, qN_lt, qN_eq, qN_vp, qN_nat, qN_neg1, qN_neg, qN_nn, qN_lit, qN_add, qN_sub, qN_mul, qN_div, Bd_eq, reduceIte, Nat.add_sub_cancel, dm_l, Nat.zero_le, Nat.not_lt_zero, Nat.reduceEqDiff, Nat.reduceLT, Nat.reduceLeDiff, Nat.reduceAdd, Nat.reduceSub, Nat.reduceMul, Nat.reduceDiv, Nat.reduceMod, reduceCtorEq, true_implies, false_implies, not_true_eq_false, not_false_eq_true, true_and, and_true, implies_true, and_false, false_and, forall_const, true_or, or_true, false_or, or_false, G11_house_J31, G11_house_J32, G11_house_J64, Ca_s8 hA]
  refine ⟨fun q => hn (fun r => by omega), fun q => ?_⟩
  have q' : A 358 8 < 24 := by omega
  obtain ⟨a, ha, rfl⟩ := q1
  obtain ⟨b, hb2, rfl⟩ := q2
  obtain ⟨c, hc, rfl⟩ := q3
  simp (disch := omega) only [bo_q0, bo_q1, qN_le, qN_lt, qN_eq, qN_vp, qN_nat, qN_neg1, qN_neg, qN_nn, qN_lit, qN_add, qN_sub, qN_mul, qN_div, Bd_eq, reduceIte, Nat.add_sub_cancel, dm_l, Nat.zero_le, Nat.not_lt_zero, Nat.reduceEqDiff, Nat.reduceLT, Nat.reduceLeDiff, Nat.reduceAdd, Nat.reduceSub, Nat.reduceMul, Nat.reduceDiv, Nat.reduceMod, reduceCtorEq, true_implies, false_implies, not_true_eq_false, not_false_eq_true, true_and, and_true, implies_true, and_false, false_and, forall_const, true_or, or_true, false_or, or_false, G10_addHouse, Ca_s8 hA, gI_I, gI_J, gI_R, gJ_I, gJ_J, gJ_R, gR_I, gR_J, gR_R, q']
  have hA' := (Cw_s8 (Cw_366 (Cw_365 (Cw_364 hA (i := A 358 8) (by omega) (a)) (i := A 358 8) (by omega) (b)) (i := A 358 8) (by omega) (c)) (A 358 8 + 1))
  have hs : Sm cT μ _ := ((((Sm.rfl'.wI (qN (a)) (k := 6) (j := A 358 8) (by unfold cT; omega)).wI (qN (b)) (k := 7) (j := A 358 8) (by unfold cT; omega)).wI (qN (c)) (k := 8) (j := A 358 8) (by unfold cT; omega)).wI (qN (A 358 8 + 1)) (k := 1) (j := 8) (by unfold cT; omega))
  exact hy a b c ha hb2 hc rfl rfl rfl q' _ (h.up hs hA' (fun p hp => rfl)) (FC_cT hs)

theorem m_house {A X : Nat → Nat → Nat} {W : List Int64} {μ : MM} {v1 v2 v3 : Int32} {Q : Int32 → MM → Prop} (hI : ∀ f i, dom f i → A f i < bnd f i) (h : Ms A X W μ)
    (hy : ∀ a b c, a < 4 → b < 4 → c < 6 → v1 = qN a → v2 = qN b → v3 = qN c → A 358 8 < 24 → ∀ μ', Ms (up2 (up2 (up2 (up2 A 364 (A 358 8) (a)) 365 (A 358 8) (b)) 366 (A 358 8) (c)) 358 (8) (A 358 8 + 1)) X W μ' → FM μ μ' → Q (qN (A 358 8)) μ')
    (hn : ¬ (inr v1 4 ∧ inr v2 4 ∧ inr v3 6 ∧ A 358 8 < 24) → ∀ μ', Ms A X W μ' → FM μ μ' → Q (-1) μ') : G12_house v1 v2 v3 μ Q := by
  unfold G12_house
  rw [Bd_eq]
  have h0 := m_thr h 0
  have f0 := fm_thr μ 0
  revert h0 f0
  generalize sI μ 358 0 0 = μ0
  intro h0 f0
  have hA := h0.1
  have hb : A 358 8 < 25 := hI 358 8 (by unfold dom; decide)
  refine in0_s 3 rfl (by decide) (fun q1 => ?_) (fun q1 => ?_)
  case refine_2 =>
    simp (disch := omega) only [bo_q0, bo_q1, qN_le, qN_lt, qN_eq, qN_vp, qN_nat, qN_neg1, qN_neg, qN_nn, qN_lit, qN_add, qN_sub, qN_mul, qN_div, Bd_eq, reduceIte, Nat.add_sub_cancel, dm_l, Nat.zero_le, Nat.not_lt_zero, Nat.reduceEqDiff, Nat.reduceLT, Nat.reduceLeDiff, Nat.reduceAdd, Nat.reduceSub, Nat.reduceMul, Nat.reduceDiv, Nat.reduceMod, reduceCtorEq, true_implies, false_implies, not_true_eq_false, not_false_eq_true, true_and, and_true, implies_true, and_false, false_and, forall_const, true_or, or_true, false_or, or_false, ]
    exact hn (fun r => q1 r.1) _ h0 f0
  simp (disch := omega) only [bo_q0, bo_q1, qN_le, qN_lt, qN_eq, qN_vp, qN_nat, qN_neg1, qN_neg, qN_nn, qN_lit, qN_add, qN_sub, qN_mul, qN_div, Bd_eq, reduceIte, Nat.add_sub_cancel, dm_l, Nat.zero_le, Nat.not_lt_zero, Nat.reduceEqDiff, Nat.reduceLT, Nat.reduceLeDiff, Nat.reduceAdd, Nat.reduceSub, Nat.reduceMul, Nat.reduceDiv, Nat.reduceMod, reduceCtorEq, true_implies, false_implies, not_true_eq_false, not_false_eq_true, true_and, and_true, implies_true, and_false, false_and, forall_const, true_or, or_true, false_or, or_false, ]
  refine in0_s 3 rfl (by decide) (fun q2 => ?_) (fun q2 => ?_)
  case refine_2 =>
    simp (disch := omega) only [bo_q0, bo_q1, qN_le, qN_lt, qN_eq, qN_vp, qN_nat, qN_neg1, qN_neg, qN_nn, qN_lit, qN_add, qN_sub, qN_mul, qN_div, Bd_eq, reduceIte, Nat.add_sub_cancel, dm_l, Nat.zero_le, Nat.not_lt_zero, Nat.reduceEqDiff, Nat.reduceLT, Nat.reduceLeDiff, Nat.reduceAdd, Nat.reduceSub, Nat.reduceMul, Nat.reduceDiv, Nat.reduceMod, reduceCtorEq, true_implies, false_implies, not_true_eq_false, not_false_eq_true, true_and, and_true, implies_true, and_false, false_and, forall_const, true_or, or_true, false_or, or_false, ]
    exact hn (fun r => q2 r.2.1) _ h0 f0
  simp (disch := omega) only [bo_q0, bo_q1, qN_le, qN_lt, qN_eq, qN_vp, qN_nat, qN_neg1, qN_neg, qN_nn, qN_lit, qN_add, qN_sub, qN_mul, qN_div, Bd_eq, reduceIte, Nat.add_sub_cancel, dm_l, Nat.zero_le, Nat.not_lt_zero, Nat.reduceEqDiff, Nat.reduceLT, Nat.reduceLeDiff, Nat.reduceAdd, Nat.reduceSub, Nat.reduceMul, Nat.reduceDiv, Nat.reduceMod, reduceCtorEq, true_implies, false_implies, not_true_eq_false, not_false_eq_true, true_and, and_true, implies_true, and_false, false_and, forall_const, true_or, or_true, false_or, or_false, ]
  refine in0_s 5 rfl (by decide) (fun q3 => ?_) (fun q3 => ?_)
  case refine_2 =>
    simp (disch := omega) only [bo_q0, bo_q1, qN_le, qN_lt, qN_eq, qN_vp, qN_nat, qN_neg1, qN_neg, qN_nn, qN_lit, qN_add, qN_sub, qN_mul, qN_div, Bd_eq, reduceIte, Nat.add_sub_cancel, dm_l, Nat.zero_le, Nat.not_lt_zero, Nat.reduceEqDiff, Nat.reduceLT, Nat.reduceLeDiff, Nat.reduceAdd, Nat.reduceSub, Nat.reduceMul, Nat.reduceDiv, Nat.reduceMod, reduceCtorEq, true_implies, false_implies, not_true_eq_false, not_false_eq_true, true_and, and_true, implies_true, and_false, false_and, forall_const, true_or, or_true, false_or, or_false, ]
    exact hn (fun r => q3 r.2.2.1) _ h0 f0
  simp (disch := omega) only [bo_q0, bo_q1, qN_le, qN_lt, qN_eq, qN_vp, qN_nat, qN_neg1, qN_neg, qN_nn, qN_lit, qN_add, qN_sub, qN_mul, qN_div, Bd_eq, reduceIte, Nat.add_sub_cancel, dm_l, Nat.zero_le, Nat.not_lt_zero, Nat.reduceEqDiff, Nat.reduceLT, Nat.reduceLeDiff, Nat.reduceAdd, Nat.reduceSub, Nat.reduceMul, Nat.reduceDiv, Nat.reduceMod, reduceCtorEq, true_implies, false_implies, not_true_eq_false, not_false_eq_true, true_and, and_true, implies_true, and_false, false_and, forall_const, true_or, or_true, false_or, or_false, Ma_s8 hA]
  refine ⟨fun q => ?_, fun q => hn (fun r => by omega) _ h0 f0⟩
  have q' : A 358 8 < 24 := by omega
  obtain ⟨a, ha, rfl⟩ := q1
  obtain ⟨b, hb2, rfl⟩ := q2
  obtain ⟨c, hc, rfl⟩ := q3
  simp (disch := omega) only [bo_q0, bo_q1, qN_le, qN_lt, qN_eq, qN_vp, qN_nat, qN_neg1, qN_neg, qN_nn, qN_lit, qN_add, qN_sub, qN_mul, qN_div, Bd_eq, reduceIte, Nat.add_sub_cancel, dm_l, Nat.zero_le, Nat.not_lt_zero, Nat.reduceEqDiff, Nat.reduceLT, Nat.reduceLeDiff, Nat.reduceAdd, Nat.reduceSub, Nat.reduceMul, Nat.reduceDiv, Nat.reduceMod, reduceCtorEq, true_implies, false_implies, not_true_eq_false, not_false_eq_true, true_and, and_true, implies_true, and_false, false_and, forall_const, true_or, or_true, false_or, or_false, Ma_s8 hA, gI_I, gI_J, gI_R, gJ_I, gJ_J, gJ_R, gR_I, gR_J, gR_R, q']
  have hA' := (Ma_w (Ma_w (Ma_w (Ma_w hA 364 (A 358 8) (a)) 365 (A 358 8) (b)) 366 (A 358 8) (c)) 358 (8) (A 358 8 + 1))
  have hs : Sm mT μ0 _ := ((((Sm.rfl'.wI (qN (a)) (k := 364) (j := A 358 8) (by unfold mT; omega)).wI (qN (b)) (k := 365) (j := A 358 8) (by unfold mT; omega)).wI (qN (c)) (k := 366) (j := A 358 8) (by unfold mT; omega)).wI (qN (A 358 8 + 1)) (k := 358) (j := 8) (by unfold mT; omega))
  exact hy a b c ha hb2 hc rfl rfl rfl q' _ (h0.up hs hA' (fun p hp => rfl)) (f0.tr (FM_mT hs))

theorem c_end {A X : Nat → Nat → Nat} {W : List Int64} {μ : MM} {v1 : Int32} {Q : Int32 → MM → Prop} (hI : ∀ f i, dom f i → A f i < bnd f i) (h : Cs A X W μ)
    (hy : ∀ a, a ≤ A 358 28 → v1 = qN a → ∀ μ', Cs (up2 A 358 (28) (a)) X W μ' → FC μ μ' → Q (1) μ')
    (hn : ¬ (inr v1 (A 358 28 + 1)) → Q (0) μ) : G11_end v1 μ Q := by
  have hA := h.1
  have hb : A 358 28 < 61 := hI 358 28 (by unfold dom; decide)
  unfold G11_end
  rw [Ca_s28 hA]
  refine within0_s (A 358 28) rfl (by omega) (fun q => ?_) (fun q => ?_)
  · obtain ⟨a, ha, rfl⟩ := q
    simp (disch := omega) only [bo_q0, bo_q1, qN_le, qN_lt, qN_eq, qN_vp, qN_nat, qN_neg1, qN_neg, qN_nn, qN_lit, qN_add, qN_sub, qN_mul, qN_div, Bd_eq, reduceIte, Nat.add_sub_cancel, dm_l, Nat.zero_le, Nat.not_lt_zero, Nat.reduceEqDiff, Nat.reduceLT, Nat.reduceLeDiff, Nat.reduceAdd, Nat.reduceSub, Nat.reduceMul, Nat.reduceDiv, Nat.reduceMod, reduceCtorEq, true_implies, false_implies, not_true_eq_false, not_false_eq_true, true_and, and_true, implies_true, and_false, false_and, forall_const, true_or, or_true, false_or, or_false, ]
    have hA' := (Cw_s28 hA (a))
    have hs : Sm cT μ _ := (Sm.rfl'.wI (qN (a)) (k := 0) (j := 8) (by unfold cT; omega))
    exact hy a (by omega) rfl _ (h.up hs hA' (fun p hp => rfl)) (FC_cT hs)
  · simp (disch := omega) only [bo_q0, bo_q1, qN_le, qN_lt, qN_eq, qN_vp, qN_nat, qN_neg1, qN_neg, qN_nn, qN_lit, qN_add, qN_sub, qN_mul, qN_div, Bd_eq, reduceIte, Nat.add_sub_cancel, dm_l, Nat.zero_le, Nat.not_lt_zero, Nat.reduceEqDiff, Nat.reduceLT, Nat.reduceLeDiff, Nat.reduceAdd, Nat.reduceSub, Nat.reduceMul, Nat.reduceDiv, Nat.reduceMod, reduceCtorEq, true_implies, false_implies, not_true_eq_false, not_false_eq_true, true_and, and_true, implies_true, and_false, false_and, forall_const, true_or, or_true, false_or, or_false, ]
    exact hn q

theorem m_end {A X : Nat → Nat → Nat} {W : List Int64} {μ : MM} {v1 : Int32} {Q : Int32 → MM → Prop} (hI : ∀ f i, dom f i → A f i < bnd f i) (h : Ms A X W μ)
    (hy : ∀ a, a ≤ A 358 28 → v1 = qN a → ∀ μ', Ms (up2 A 358 (28) (a)) X W μ' → FM μ μ' → Q (1) μ')
    (hn : ¬ (inr v1 (A 358 28 + 1)) → ∀ μ', Ms A X W μ' → FM μ μ' → Q (0) μ') : G12_end v1 μ Q := by
  unfold G12_end
  rw [Bd_eq]
  have h0 := m_thr h 0
  have f0 := fm_thr μ 0
  revert h0 f0
  generalize sI μ 358 0 0 = μ0
  intro h0 f0
  have hA := h0.1
  have hb : A 358 28 < 61 := hI 358 28 (by unfold dom; decide)
  rw [Ma_s28 hA]
  refine in0_s (A 358 28) rfl (by omega) (fun q => ?_) (fun q => ?_)
  · obtain ⟨a, ha, rfl⟩ := q
    simp (disch := omega) only [bo_q0, bo_q1, qN_le, qN_lt, qN_eq, qN_vp, qN_nat, qN_neg1, qN_neg, qN_nn, qN_lit, qN_add, qN_sub, qN_mul, qN_div, Bd_eq, reduceIte, Nat.add_sub_cancel, dm_l, Nat.zero_le, Nat.not_lt_zero, Nat.reduceEqDiff, Nat.reduceLT, Nat.reduceLeDiff, Nat.reduceAdd, Nat.reduceSub, Nat.reduceMul, Nat.reduceDiv, Nat.reduceMod, reduceCtorEq, true_implies, false_implies, not_true_eq_false, not_false_eq_true, true_and, and_true, implies_true, and_false, false_and, forall_const, true_or, or_true, false_or, or_false, ]
    have hA' := (Ma_w hA 358 (28) (a))
    have hs : Sm mT μ0 _ := (Sm.rfl'.wI (qN (a)) (k := 358) (j := 28) (by unfold mT; omega))
    exact hy a (by omega) rfl _ (h0.up hs hA' (fun p hp => rfl)) (f0.tr (FM_mT hs))
  · simp (disch := omega) only [bo_q0, bo_q1, qN_le, qN_lt, qN_eq, qN_vp, qN_nat, qN_neg1, qN_neg, qN_nn, qN_lit, qN_add, qN_sub, qN_mul, qN_div, Bd_eq, reduceIte, Nat.add_sub_cancel, dm_l, Nat.zero_le, Nat.not_lt_zero, Nat.reduceEqDiff, Nat.reduceLT, Nat.reduceLeDiff, Nat.reduceAdd, Nat.reduceSub, Nat.reduceMul, Nat.reduceDiv, Nat.reduceMod, reduceCtorEq, true_implies, false_implies, not_true_eq_false, not_false_eq_true, true_and, and_true, implies_true, and_false, false_and, forall_const, true_or, or_true, false_or, or_false, ]
    exact hn q _ h0 f0

theorem c_kind {A X : Nat → Nat → Nat} {W : List Int64} {μ : MM} {v1 v2 v3 : Int32} {Q : Int32 → MM → Prop} (hI : ∀ f i, dom f i → A f i < bnd f i) (h : Cs A X W μ)
    (hy : ∀ a b c, a < 4 → b < 101 → c < 101 → v1 = qN a → v2 = qN b → v3 = qN c → ∀ μ', Cs (up2 (up2 A 387 (a) (b)) 388 (a) (c)) X W μ' → FC μ μ' → Q (1) μ')
    (hn : ¬ (inr v1 4 ∧ inr v2 101 ∧ inr v3 101) → Q (0) μ) : G11_kind v1 v2 v3 μ Q := by
  have hA := h.1
  unfold G11_kind G4_become
  refine within0_s 3 rfl (by decide) (fun q1 => ?_) (fun q1 => ?_)
  case refine_2 =>
    simp (disch := omega) only [bo_q0, bo_q1, qN_le, qN_lt, qN_eq, qN_vp, qN_nat, qN_neg1, qN_neg, qN_nn, qN_lit, qN_add, qN_sub, qN_mul, qN_div, Bd_eq, reduceIte, Nat.add_sub_cancel, dm_l, Nat.zero_le, Nat.not_lt_zero, Nat.reduceEqDiff, Nat.reduceLT, Nat.reduceLeDiff, Nat.reduceAdd, Nat.reduceSub, Nat.reduceMul, Nat.reduceDiv, Nat.reduceMod, reduceCtorEq, true_implies, false_implies, not_true_eq_false, not_false_eq_true, true_and, and_true, implies_true, and_false, false_and, forall_const, true_or, or_true, false_or, or_false, bo_0]
    exact hn (fun r => q1 r.1)
  simp (disch := omega) only [bo_q0, bo_q1, qN_le, qN_lt, qN_eq, qN_vp, qN_nat, qN_neg1, qN_neg, qN_nn, qN_lit, qN_add, qN_sub, qN_mul, qN_div, Bd_eq, reduceIte, Nat.add_sub_cancel, dm_l, Nat.zero_le, Nat.not_lt_zero, Nat.reduceEqDiff, Nat.reduceLT, Nat.reduceLeDiff, Nat.reduceAdd, Nat.reduceSub, Nat.reduceMul, Nat.reduceDiv, Nat.reduceMod, reduceCtorEq, true_implies, false_implies, not_true_eq_false, not_false_eq_true, true_and, and_true, implies_true, and_false, false_and, forall_const, true_or, or_true, false_or, or_false, ]
  refine within0_s 100 rfl (by decide) (fun q2 => ?_) (fun q2 => ?_)
  case refine_2 =>
    simp (disch := omega) only [bo_q0, bo_q1, qN_le, qN_lt, qN_eq, qN_vp, qN_nat, qN_neg1, qN_neg, qN_nn, qN_lit, qN_add, qN_sub, qN_mul, qN_div, Bd_eq, reduceIte, Nat.add_sub_cancel, dm_l, Nat.zero_le, Nat.not_lt_zero, Nat.reduceEqDiff, Nat.reduceLT, Nat.reduceLeDiff, Nat.reduceAdd, Nat.reduceSub, Nat.reduceMul, Nat.reduceDiv, Nat.reduceMod, reduceCtorEq, true_implies, false_implies, not_true_eq_false, not_false_eq_true, true_and, and_true, implies_true, and_false, false_and, forall_const, true_or, or_true, false_or, or_false, bo_0]
    exact hn (fun r => q2 r.2.1)
  simp (disch := omega) only [bo_q0, bo_q1, qN_le, qN_lt, qN_eq, qN_vp, qN_nat, qN_neg1, qN_neg, qN_nn, qN_lit, qN_add, qN_sub, qN_mul, qN_div, Bd_eq, reduceIte, Nat.add_sub_cancel, dm_l, Nat.zero_le, Nat.not_lt_zero, Nat.reduceEqDiff, Nat.reduceLT, Nat.reduceLeDiff, Nat.reduceAdd, Nat.reduceSub, Nat.reduceMul, Nat.reduceDiv, Nat.reduceMod, reduceCtorEq, true_implies, false_implies, not_true_eq_false, not_false_eq_true, true_and, and_true, implies_true, and_false, false_and, forall_const, true_or, or_true, false_or, or_false, ]
  refine within0_s 100 rfl (by decide) (fun q3 => ?_) (fun q3 => ?_)
  case refine_2 =>
    simp (disch := omega) only [bo_q0, bo_q1, qN_le, qN_lt, qN_eq, qN_vp, qN_nat, qN_neg1, qN_neg, qN_nn, qN_lit, qN_add, qN_sub, qN_mul, qN_div, Bd_eq, reduceIte, Nat.add_sub_cancel, dm_l, Nat.zero_le, Nat.not_lt_zero, Nat.reduceEqDiff, Nat.reduceLT, Nat.reduceLeDiff, Nat.reduceAdd, Nat.reduceSub, Nat.reduceMul, Nat.reduceDiv, Nat.reduceMod, reduceCtorEq, true_implies, false_implies, not_true_eq_false, not_false_eq_true, true_and, and_true, implies_true, and_false, false_and, forall_const, true_or, or_true, false_or, or_false, bo_0]
    exact hn (fun r => q3 r.2.2)
  obtain ⟨a, ha, rfl⟩ := q1
  obtain ⟨b, hb2, rfl⟩ := q2
  obtain ⟨c, hc, rfl⟩ := q3
  simp (disch := omega) only [bo_q0, bo_q1, qN_le, qN_lt, qN_eq, qN_vp, qN_nat, qN_neg1, qN_neg, qN_nn, qN_lit, qN_add, qN_sub, qN_mul, qN_div, Bd_eq, reduceIte, Nat.add_sub_cancel, dm_l, Nat.zero_le, Nat.not_lt_zero, Nat.reduceEqDiff, Nat.reduceLT, Nat.reduceLeDiff, Nat.reduceAdd, Nat.reduceSub, Nat.reduceMul, Nat.reduceDiv, Nat.reduceMod, reduceCtorEq, true_implies, false_implies, not_true_eq_false, not_false_eq_true, true_and, and_true, implies_true, and_false, false_and, forall_const, true_or, or_true, false_or, or_false, ha, bo_1]
  have hA' := (Cw_388 (Cw_387 hA (i := a) (by omega) (b)) (i := a) (by omega) (c))
  have hs : Sm cT μ _ := ((Sm.rfl'.wI (qN (b)) (k := 169) (j := a) (by unfold cT; omega)).wI (qN (c)) (k := 170) (j := a) (by unfold cT; omega))
  exact hy a b c ha hb2 hc rfl rfl rfl _ (h.up hs hA' (fun p hp => rfl)) (FC_cT hs)

theorem m_kind {A X : Nat → Nat → Nat} {W : List Int64} {μ : MM} {v1 v2 v3 : Int32} {Q : Int32 → MM → Prop} (hI : ∀ f i, dom f i → A f i < bnd f i) (h : Ms A X W μ)
    (hy : ∀ a b c, a < 4 → b < 101 → c < 101 → v1 = qN a → v2 = qN b → v3 = qN c → ∀ μ', Ms (up2 (up2 A 387 (a) (b)) 388 (a) (c)) X W μ' → FM μ μ' → Q (1) μ')
    (hn : ¬ (inr v1 4 ∧ inr v2 101 ∧ inr v3 101) → ∀ μ', Ms A X W μ' → FM μ μ' → Q (0) μ') : G12_kind v1 v2 v3 μ Q := by
  unfold G12_kind
  rw [Bd_eq]
  have h0 := m_thr h 0
  have f0 := fm_thr μ 0
  revert h0 f0
  generalize sI μ 358 0 0 = μ0
  intro h0 f0
  have hA := h0.1
  unfold G12_isKind
  refine in0_s 3 rfl (by decide) (fun q1 => ?_) (fun q1 => ?_)
  case refine_2 =>
    simp (disch := omega) only [bo_q0, bo_q1, qN_le, qN_lt, qN_eq, qN_vp, qN_nat, qN_neg1, qN_neg, qN_nn, qN_lit, qN_add, qN_sub, qN_mul, qN_div, Bd_eq, reduceIte, Nat.add_sub_cancel, dm_l, Nat.zero_le, Nat.not_lt_zero, Nat.reduceEqDiff, Nat.reduceLT, Nat.reduceLeDiff, Nat.reduceAdd, Nat.reduceSub, Nat.reduceMul, Nat.reduceDiv, Nat.reduceMod, reduceCtorEq, true_implies, false_implies, not_true_eq_false, not_false_eq_true, true_and, and_true, implies_true, and_false, false_and, forall_const, true_or, or_true, false_or, or_false, bo_0]
    exact hn (fun r => q1 r.1) _ h0 f0
  simp (disch := omega) only [bo_q0, bo_q1, qN_le, qN_lt, qN_eq, qN_vp, qN_nat, qN_neg1, qN_neg, qN_nn, qN_lit, qN_add, qN_sub, qN_mul, qN_div, Bd_eq, reduceIte, Nat.add_sub_cancel, dm_l, Nat.zero_le, Nat.not_lt_zero, Nat.reduceEqDiff, Nat.reduceLT, Nat.reduceLeDiff, Nat.reduceAdd, Nat.reduceSub, Nat.reduceMul, Nat.reduceDiv, Nat.reduceMod, reduceCtorEq, true_implies, false_implies, not_true_eq_false, not_false_eq_true, true_and, and_true, implies_true, and_false, false_and, forall_const, true_or, or_true, false_or, or_false, bo_1]
  refine in0_s 100 rfl (by decide) (fun q2 => ?_) (fun q2 => ?_)
  case refine_2 =>
    simp (disch := omega) only [bo_q0, bo_q1, qN_le, qN_lt, qN_eq, qN_vp, qN_nat, qN_neg1, qN_neg, qN_nn, qN_lit, qN_add, qN_sub, qN_mul, qN_div, Bd_eq, reduceIte, Nat.add_sub_cancel, dm_l, Nat.zero_le, Nat.not_lt_zero, Nat.reduceEqDiff, Nat.reduceLT, Nat.reduceLeDiff, Nat.reduceAdd, Nat.reduceSub, Nat.reduceMul, Nat.reduceDiv, Nat.reduceMod, reduceCtorEq, true_implies, false_implies, not_true_eq_false, not_false_eq_true, true_and, and_true, implies_true, and_false, false_and, forall_const, true_or, or_true, false_or, or_false, ]
    exact hn (fun r => q2 r.2.1) _ h0 f0
  simp (disch := omega) only [bo_q0, bo_q1, qN_le, qN_lt, qN_eq, qN_vp, qN_nat, qN_neg1, qN_neg, qN_nn, qN_lit, qN_add, qN_sub, qN_mul, qN_div, Bd_eq, reduceIte, Nat.add_sub_cancel, dm_l, Nat.zero_le, Nat.not_lt_zero, Nat.reduceEqDiff, Nat.reduceLT, Nat.reduceLeDiff, Nat.reduceAdd, Nat.reduceSub, Nat.reduceMul, Nat.reduceDiv, Nat.reduceMod, reduceCtorEq, true_implies, false_implies, not_true_eq_false, not_false_eq_true, true_and, and_true, implies_true, and_false, false_and, forall_const, true_or, or_true, false_or, or_false, ]
  refine in0_s 100 rfl (by decide) (fun q3 => ?_) (fun q3 => ?_)
  case refine_2 =>
    simp (disch := omega) only [bo_q0, bo_q1, qN_le, qN_lt, qN_eq, qN_vp, qN_nat, qN_neg1, qN_neg, qN_nn, qN_lit, qN_add, qN_sub, qN_mul, qN_div, Bd_eq, reduceIte, Nat.add_sub_cancel, dm_l, Nat.zero_le, Nat.not_lt_zero, Nat.reduceEqDiff, Nat.reduceLT, Nat.reduceLeDiff, Nat.reduceAdd, Nat.reduceSub, Nat.reduceMul, Nat.reduceDiv, Nat.reduceMod, reduceCtorEq, true_implies, false_implies, not_true_eq_false, not_false_eq_true, true_and, and_true, implies_true, and_false, false_and, forall_const, true_or, or_true, false_or, or_false, ]
    exact hn (fun r => q3 r.2.2) _ h0 f0
  obtain ⟨a, ha, rfl⟩ := q1
  obtain ⟨b, hb2, rfl⟩ := q2
  obtain ⟨c, hc, rfl⟩ := q3
  simp (disch := omega) only [bo_q0, bo_q1, qN_le, qN_lt, qN_eq, qN_vp, qN_nat, qN_neg1, qN_neg, qN_nn, qN_lit, qN_add, qN_sub, qN_mul, qN_div, Bd_eq, reduceIte, Nat.add_sub_cancel, dm_l, Nat.zero_le, Nat.not_lt_zero, Nat.reduceEqDiff, Nat.reduceLT, Nat.reduceLeDiff, Nat.reduceAdd, Nat.reduceSub, Nat.reduceMul, Nat.reduceDiv, Nat.reduceMod, reduceCtorEq, true_implies, false_implies, not_true_eq_false, not_false_eq_true, true_and, and_true, implies_true, and_false, false_and, forall_const, true_or, or_true, false_or, or_false, ha]
  have hA' := (Ma_w (Ma_w hA 387 (a) (b)) 388 (a) (c))
  have hs : Sm mT μ0 _ := ((Sm.rfl'.wI (qN (b)) (k := 387) (j := a) (by unfold mT; omega)).wI (qN (c)) (k := 388) (j := a) (by unfold mT; omega))
  exact hy a b c ha hb2 hc rfl rfl rfl _ (h0.up hs hA' (fun p hp => rfl)) (f0.tr (FM_mT hs))

theorem c_asked {A X : Nat → Nat → Nat} {W : List Int64} {μ : MM} {v1 v2 v3 : Int32} {Q : Int32 → MM → Prop} (hI : ∀ f i, dom f i → A f i < bnd f i) (h : Cs A X W μ)
    (hy : ∀ a b c, a < A 358 12 → b < A 358 12 → c < 3 → ¬ a = b → v1 = qN a → v2 = qN b → v3 = qN c → A 358 61 < 40 → ∀ μ', Cs (up2 (up2 (up2 (up2 A 401 (A 358 61) (a)) 402 (A 358 61) (b)) 403 (A 358 61) (c)) 358 (61) (A 358 61 + 1)) X W μ' → FC μ μ' → Q (qN (A 358 61 + 1)) μ')
    (hn : ¬ (inr v1 (A 358 12) ∧ inr v2 (A 358 12) ∧ inr v3 3 ∧ ¬ v1 = v2 ∧ A 358 61 < 40) → Q (-1) μ) : G11_asked v1 v2 v3 μ Q := by
  have hA := h.1
  have hb : A 358 61 < 41 := hI 358 61 (by unfold dom; decide)
  have hc12 : A 358 12 < 97 := hI 358 12 (by unfold dom; decide)
  unfold G11_asked G6_noteAsking
  refine c_isLetter hA (by omega) (fun q1 => ?_) (fun q1 => ?_)
  case refine_2 =>
    simp (disch := omega) only [bo_q0, bo_q1, qN_le, qN_lt, qN_eq, qN_vp, qN_nat, qN_neg1, qN_neg, qN_nn, qN_lit, qN_add, qN_sub, qN_mul, qN_div, Bd_eq, reduceIte, Nat.add_sub_cancel, dm_l, Nat.zero_le, Nat.not_lt_zero, Nat.reduceEqDiff, Nat.reduceLT, Nat.reduceLeDiff, Nat.reduceAdd, Nat.reduceSub, Nat.reduceMul, Nat.reduceDiv, Nat.reduceMod, reduceCtorEq, true_implies, false_implies, not_true_eq_false, not_false_eq_true, true_and, and_true, implies_true, and_false, false_and, forall_const, true_or, or_true, false_or, or_false, G6_noteAsking_J40, G6_noteAsking_J41]
    exact hn (fun r => q1 r.1)
  simp (disch := omega) only [bo_q0, bo_q1, qN_le, qN_lt, qN_eq, qN_vp, qN_nat, qN_neg1, qN_neg, qN_nn, qN_lit, qN_add, qN_sub, qN_mul, qN_div, Bd_eq, reduceIte, Nat.add_sub_cancel, dm_l, Nat.zero_le, Nat.not_lt_zero, Nat.reduceEqDiff, Nat.reduceLT, Nat.reduceLeDiff, Nat.reduceAdd, Nat.reduceSub, Nat.reduceMul, Nat.reduceDiv, Nat.reduceMod, reduceCtorEq, true_implies, false_implies, not_true_eq_false, not_false_eq_true, true_and, and_true, implies_true, and_false, false_and, forall_const, true_or, or_true, false_or, or_false, ]
  refine c_isLetter hA (by omega) (fun q2 => ?_) (fun q2 => ?_)
  case refine_2 =>
    simp (disch := omega) only [bo_q0, bo_q1, qN_le, qN_lt, qN_eq, qN_vp, qN_nat, qN_neg1, qN_neg, qN_nn, qN_lit, qN_add, qN_sub, qN_mul, qN_div, Bd_eq, reduceIte, Nat.add_sub_cancel, dm_l, Nat.zero_le, Nat.not_lt_zero, Nat.reduceEqDiff, Nat.reduceLT, Nat.reduceLeDiff, Nat.reduceAdd, Nat.reduceSub, Nat.reduceMul, Nat.reduceDiv, Nat.reduceMod, reduceCtorEq, true_implies, false_implies, not_true_eq_false, not_false_eq_true, true_and, and_true, implies_true, and_false, false_and, forall_const, true_or, or_true, false_or, or_false, G6_noteAsking_J40, G6_noteAsking_J41]
    exact hn (fun r => q2 r.2.1)
  obtain ⟨a, ha, rfl⟩ := q1
  obtain ⟨b, hb2, rfl⟩ := q2
  simp (disch := omega) only [bo_q0, bo_q1, qN_le, qN_lt, qN_eq, qN_vp, qN_nat, qN_neg1, qN_neg, qN_nn, qN_lit, qN_add, qN_sub, qN_mul, qN_div, Bd_eq, reduceIte, Nat.add_sub_cancel, dm_l, Nat.zero_le, Nat.not_lt_zero, Nat.reduceEqDiff, Nat.reduceLT, Nat.reduceLeDiff, Nat.reduceAdd, Nat.reduceSub, Nat.reduceMul, Nat.reduceDiv, Nat.reduceMod, reduceCtorEq, true_implies, false_implies, not_true_eq_false, not_false_eq_true, true_and, and_true, implies_true, and_false, false_and, forall_const, true_or, or_true, false_or, or_false, ]
  refine ⟨fun q => ?_, fun q => ?_⟩
  · simp (disch := omega) only [bo_q0, bo_q1, qN_le, qN_lt, qN_eq, qN_vp, qN_nat, qN_neg1, qN_neg, qN_nn, qN_lit, qN_add, qN_sub, qN_mul, qN_div, Bd_eq, reduceIte, Nat.add_sub_cancel, dm_l, Nat.zero_le, Nat.not_lt_zero, Nat.reduceEqDiff, Nat.reduceLT, Nat.reduceLeDiff, Nat.reduceAdd, Nat.reduceSub, Nat.reduceMul, Nat.reduceDiv, Nat.reduceMod, reduceCtorEq, true_implies, false_implies, not_true_eq_false, not_false_eq_true, true_and, and_true, implies_true, and_false, false_and, forall_const, true_or, or_true, false_or, or_false, G6_noteAsking_J40, G6_noteAsking_J41]
    exact hn (fun r => r.2.2.2.1 (congrArg qN q))
  refine within0_s 2 rfl (by decide) (fun q3 => ?_) (fun q3 => ?_)
  case refine_2 =>
    simp (disch := omega) only [bo_q0, bo_q1, qN_le, qN_lt, qN_eq, qN_vp, qN_nat, qN_neg1, qN_neg, qN_nn, qN_lit, qN_add, qN_sub, qN_mul, qN_div, Bd_eq, reduceIte, Nat.add_sub_cancel, dm_l, Nat.zero_le, Nat.not_lt_zero, Nat.reduceEqDiff, Nat.reduceLT, Nat.reduceLeDiff, Nat.reduceAdd, Nat.reduceSub, Nat.reduceMul, Nat.reduceDiv, Nat.reduceMod, reduceCtorEq, true_implies, false_implies, not_true_eq_false, not_false_eq_true, true_and, and_true, implies_true, and_false, false_and, forall_const, true_or, or_true, false_or, or_false, G6_noteAsking_J40, G6_noteAsking_J41]
    exact hn (fun r => q3 r.2.2.1)
  obtain ⟨c, hc, rfl⟩ := q3
  simp (disch := omega) only [bo_q0, bo_q1, qN_le, qN_lt, qN_eq, qN_vp, qN_nat, qN_neg1, qN_neg, qN_nn, qN_lit, qN_add, qN_sub, qN_mul, qN_div, Bd_eq, reduceIte, Nat.add_sub_cancel, dm_l, Nat.zero_le, Nat.not_lt_zero, Nat.reduceEqDiff, Nat.reduceLT, Nat.reduceLeDiff, Nat.reduceAdd, Nat.reduceSub, Nat.reduceMul, Nat.reduceDiv, Nat.reduceMod, reduceCtorEq, true_implies, false_implies, not_true_eq_false, not_false_eq_true, true_and, and_true, implies_true, and_false, false_and, forall_const, true_or, or_true, false_or, or_false, G6_noteAsking_J40, G6_noteAsking_J41, Ca_s61 hA]
  refine ⟨fun q5 => ?_, fun q5 => hn (fun r => by omega)⟩
  have q' : A 358 61 < 40 := by omega
  simp (disch := omega) only [bo_q0, bo_q1, qN_le, qN_lt, qN_eq, qN_vp, qN_nat, qN_neg1, qN_neg, qN_nn, qN_lit, qN_add, qN_sub, qN_mul, qN_div, Bd_eq, reduceIte, Nat.add_sub_cancel, dm_l, Nat.zero_le, Nat.not_lt_zero, Nat.reduceEqDiff, Nat.reduceLT, Nat.reduceLeDiff, Nat.reduceAdd, Nat.reduceSub, Nat.reduceMul, Nat.reduceDiv, Nat.reduceMod, reduceCtorEq, true_implies, false_implies, not_true_eq_false, not_false_eq_true, true_and, and_true, implies_true, and_false, false_and, forall_const, true_or, or_true, false_or, or_false, Ca_s61 hA, gI_I, gI_J, gI_R, gJ_I, gJ_J, gJ_R, gR_I, gR_J, gR_R, q']
  have hA' := (Cw_s61 (Cw_403 (Cw_402 (Cw_401 hA (i := A 358 61) (by omega) (a)) (i := A 358 61) (by omega) (b)) (i := A 358 61) (by omega) (c)) (A 358 61 + 1))
  have hs : Sm cT μ _ := ((((Sm.rfl'.wI (qN (a)) (k := 238) (j := A 358 61) (by unfold cT; omega)).wI (qN (b)) (k := 239) (j := A 358 61) (by unfold cT; omega)).wI (qN (c)) (k := 240) (j := A 358 61) (by unfold cT; omega)).wI (qN (A 358 61 + 1)) (k := 237) (j := 5) (by unfold cT; omega))
  exact hy a b c ha hb2 hc q rfl rfl rfl q' _ (h.up hs hA' (fun p hp => rfl)) (FC_cT hs)

theorem m_asked {A X : Nat → Nat → Nat} {W : List Int64} {μ : MM} {v1 v2 v3 : Int32} {Q : Int32 → MM → Prop} (hI : ∀ f i, dom f i → A f i < bnd f i) (h : Ms A X W μ)
    (hy : ∀ a b c, a < A 358 12 → b < A 358 12 → c < 3 → ¬ a = b → v1 = qN a → v2 = qN b → v3 = qN c → A 358 61 < 40 → ∀ μ', Ms (up2 (up2 (up2 (up2 A 401 (A 358 61) (a)) 402 (A 358 61) (b)) 403 (A 358 61) (c)) 358 (61) (A 358 61 + 1)) X W μ' → FM μ μ' → Q (qN (A 358 61 + 1)) μ')
    (hn : ¬ (inr v1 (A 358 12) ∧ inr v2 (A 358 12) ∧ inr v3 3 ∧ ¬ v1 = v2 ∧ A 358 61 < 40) → ∀ μ', Ms A X W μ' → FM μ μ' → Q (-1) μ') : G12_asked v1 v2 v3 μ Q := by
  unfold G12_asked
  rw [Bd_eq]
  have h0 := m_thr h 0
  have f0 := fm_thr μ 0
  revert h0 f0
  generalize sI μ 358 0 0 = μ0
  intro h0 f0
  have hA := h0.1
  have hb : A 358 61 < 41 := hI 358 61 (by unfold dom; decide)
  have hc12 : A 358 12 < 97 := hI 358 12 (by unfold dom; decide)
  refine m_isLetter hA (by omega) (fun q1 => ?_) (fun q1 => ?_)
  case refine_2 =>
    simp (disch := omega) only [bo_q0, bo_q1, qN_le, qN_lt, qN_eq, qN_vp, qN_nat, qN_neg1, qN_neg, qN_nn, qN_lit, qN_add, qN_sub, qN_mul, qN_div, Bd_eq, reduceIte, Nat.add_sub_cancel, dm_l, Nat.zero_le, Nat.not_lt_zero, Nat.reduceEqDiff, Nat.reduceLT, Nat.reduceLeDiff, Nat.reduceAdd, Nat.reduceSub, Nat.reduceMul, Nat.reduceDiv, Nat.reduceMod, reduceCtorEq, true_implies, false_implies, not_true_eq_false, not_false_eq_true, true_and, and_true, implies_true, and_false, false_and, forall_const, true_or, or_true, false_or, or_false, ]
    exact hn (fun r => q1 r.1) _ h0 f0
  simp (disch := omega) only [bo_q0, bo_q1, qN_le, qN_lt, qN_eq, qN_vp, qN_nat, qN_neg1, qN_neg, qN_nn, qN_lit, qN_add, qN_sub, qN_mul, qN_div, Bd_eq, reduceIte, Nat.add_sub_cancel, dm_l, Nat.zero_le, Nat.not_lt_zero, Nat.reduceEqDiff, Nat.reduceLT, Nat.reduceLeDiff, Nat.reduceAdd, Nat.reduceSub, Nat.reduceMul, Nat.reduceDiv, Nat.reduceMod, reduceCtorEq, true_implies, false_implies, not_true_eq_false, not_false_eq_true, true_and, and_true, implies_true, and_false, false_and, forall_const, true_or, or_true, false_or, or_false, ]
  refine m_isLetter hA (by omega) (fun q2 => ?_) (fun q2 => ?_)
  case refine_2 =>
    simp (disch := omega) only [bo_q0, bo_q1, qN_le, qN_lt, qN_eq, qN_vp, qN_nat, qN_neg1, qN_neg, qN_nn, qN_lit, qN_add, qN_sub, qN_mul, qN_div, Bd_eq, reduceIte, Nat.add_sub_cancel, dm_l, Nat.zero_le, Nat.not_lt_zero, Nat.reduceEqDiff, Nat.reduceLT, Nat.reduceLeDiff, Nat.reduceAdd, Nat.reduceSub, Nat.reduceMul, Nat.reduceDiv, Nat.reduceMod, reduceCtorEq, true_implies, false_implies, not_true_eq_false, not_false_eq_true, true_and, and_true, implies_true, and_false, false_and, forall_const, true_or, or_true, false_or, or_false, ]
    exact hn (fun r => q2 r.2.1) _ h0 f0
  obtain ⟨a, ha, rfl⟩ := q1
  obtain ⟨b, hb2, rfl⟩ := q2
  simp (disch := omega) only [bo_q0, bo_q1, qN_le, qN_lt, qN_eq, qN_vp, qN_nat, qN_neg1, qN_neg, qN_nn, qN_lit, qN_add, qN_sub, qN_mul, qN_div, Bd_eq, reduceIte, Nat.add_sub_cancel, dm_l, Nat.zero_le, Nat.not_lt_zero, Nat.reduceEqDiff, Nat.reduceLT, Nat.reduceLeDiff, Nat.reduceAdd, Nat.reduceSub, Nat.reduceMul, Nat.reduceDiv, Nat.reduceMod, reduceCtorEq, true_implies, false_implies, not_true_eq_false, not_false_eq_true, true_and, and_true, implies_true, and_false, false_and, forall_const, true_or, or_true, false_or, or_false, ]
  refine ⟨fun q => ?_, fun q => ?_⟩
  · exact hn (fun r => r.2.2.2.1 (congrArg qN q)) _ h0 f0
  refine in0_s 2 rfl (by decide) (fun q3 => ?_) (fun q3 => ?_)
  case refine_2 =>
    simp (disch := omega) only [bo_q0, bo_q1, qN_le, qN_lt, qN_eq, qN_vp, qN_nat, qN_neg1, qN_neg, qN_nn, qN_lit, qN_add, qN_sub, qN_mul, qN_div, Bd_eq, reduceIte, Nat.add_sub_cancel, dm_l, Nat.zero_le, Nat.not_lt_zero, Nat.reduceEqDiff, Nat.reduceLT, Nat.reduceLeDiff, Nat.reduceAdd, Nat.reduceSub, Nat.reduceMul, Nat.reduceDiv, Nat.reduceMod, reduceCtorEq, true_implies, false_implies, not_true_eq_false, not_false_eq_true, true_and, and_true, implies_true, and_false, false_and, forall_const, true_or, or_true, false_or, or_false, ]
    exact hn (fun r => q3 r.2.2.1) _ h0 f0
  obtain ⟨c, hc, rfl⟩ := q3
  simp (disch := omega) only [bo_q0, bo_q1, qN_le, qN_lt, qN_eq, qN_vp, qN_nat, qN_neg1, qN_neg, qN_nn, qN_lit, qN_add, qN_sub, qN_mul, qN_div, Bd_eq, reduceIte, Nat.add_sub_cancel, dm_l, Nat.zero_le, Nat.not_lt_zero, Nat.reduceEqDiff, Nat.reduceLT, Nat.reduceLeDiff, Nat.reduceAdd, Nat.reduceSub, Nat.reduceMul, Nat.reduceDiv, Nat.reduceMod, reduceCtorEq, true_implies, false_implies, not_true_eq_false, not_false_eq_true, true_and, and_true, implies_true, and_false, false_and, forall_const, true_or, or_true, false_or, or_false, Ma_s61 hA]
  refine ⟨fun q5 => ?_, fun q5 => hn (fun r => by omega) _ h0 f0⟩
  have q' : A 358 61 < 40 := by omega
  simp (disch := omega) only [bo_q0, bo_q1, qN_le, qN_lt, qN_eq, qN_vp, qN_nat, qN_neg1, qN_neg, qN_nn, qN_lit, qN_add, qN_sub, qN_mul, qN_div, Bd_eq, reduceIte, Nat.add_sub_cancel, dm_l, Nat.zero_le, Nat.not_lt_zero, Nat.reduceEqDiff, Nat.reduceLT, Nat.reduceLeDiff, Nat.reduceAdd, Nat.reduceSub, Nat.reduceMul, Nat.reduceDiv, Nat.reduceMod, reduceCtorEq, true_implies, false_implies, not_true_eq_false, not_false_eq_true, true_and, and_true, implies_true, and_false, false_and, forall_const, true_or, or_true, false_or, or_false, Ma_s61 hA, gI_I, gI_J, gI_R, gJ_I, gJ_J, gJ_R, gR_I, gR_J, gR_R, q']
  have hA' := (Ma_w (Ma_w (Ma_w (Ma_w hA 401 (A 358 61) (a)) 402 (A 358 61) (b)) 403 (A 358 61) (c)) 358 (61) (A 358 61 + 1))
  have hs : Sm mT μ0 _ := ((((Sm.rfl'.wI (qN (a)) (k := 401) (j := A 358 61) (by unfold mT; omega)).wI (qN (b)) (k := 402) (j := A 358 61) (by unfold mT; omega)).wI (qN (c)) (k := 403) (j := A 358 61) (by unfold mT; omega)).wI (qN (A 358 61 + 1)) (k := 358) (j := 61) (by unfold mT; omega))
  exact hy a b c ha hb2 hc q rfl rfl rfl q' _ (h0.up hs hA' (fun p hp => rfl)) (f0.tr (FM_mT hs))

theorem c_after {A X : Nat → Nat → Nat} {W : List Int64} {μ : MM} {v1 v2 : Int32} {Q : Int32 → MM → Prop} (hI : ∀ f i, dom f i → A f i < bnd f i) (h : Cs A X W μ)
    (hy : ∀ a b, a < A 358 12 → A 374 a = 1 → b < 3 → v1 = qN a → v2 = qN b → ∀ μ', Cs (up2 A 375 (a) (b)) X W μ' → FC μ μ' → Q (qN (A 375 a)) μ')
    (hn : ¬ (inr v1 (A 358 12) ∧ (∃ a, (a < 96 ∧ A 374 a = 1) ∧ v1 = qN a) ∧ inr v2 3) → Q (-1) μ) : G11_after v1 v2 μ Q := by
  have hA := h.1
  have hc12 : A 358 12 < 97 := hI 358 12 (by unfold dom; decide)
  unfold G11_after
  refine c_isLetter hA (by omega) (fun q1 => ?_) (fun q1 => ?_)
  case refine_2 =>
    simp (disch := omega) only [bo_q0, bo_q1, qN_le, qN_lt, qN_eq, qN_vp, qN_nat, qN_neg1, qN_neg, qN_nn, qN_lit, qN_add, qN_sub, qN_mul, qN_div, Bd_eq, reduceIte, Nat.add_sub_cancel, dm_l, Nat.zero_le, Nat.not_lt_zero, Nat.reduceEqDiff, Nat.reduceLT, Nat.reduceLeDiff, Nat.reduceAdd, Nat.reduceSub, Nat.reduceMul, Nat.reduceDiv, Nat.reduceMod, reduceCtorEq, true_implies, false_implies, not_true_eq_false, not_false_eq_true, true_and, and_true, implies_true, and_false, false_and, forall_const, true_or, or_true, false_or, or_false, ]
    exact hn (fun r => q1 r.1)
  obtain ⟨a, ha, rfl⟩ := q1
  have ha96 : a < 96 := by omega
  have hr : A 374 a < 2 := hI 374 a (by unfold dom; omega)
  have hf : A 375 a < 3 := hI 375 a (by unfold dom; omega)
  simp (disch := omega) only [bo_q0, bo_q1, qN_le, qN_lt, qN_eq, qN_vp, qN_nat, qN_neg1, qN_neg, qN_nn, qN_lit, qN_add, qN_sub, qN_mul, qN_div, Bd_eq, reduceIte, Nat.add_sub_cancel, dm_l, Nat.zero_le, Nat.not_lt_zero, Nat.reduceEqDiff, Nat.reduceLT, Nat.reduceLeDiff, Nat.reduceAdd, Nat.reduceSub, Nat.reduceMul, Nat.reduceDiv, Nat.reduceMod, reduceCtorEq, true_implies, false_implies, not_true_eq_false, not_false_eq_true, true_and, and_true, implies_true, and_false, false_and, forall_const, true_or, or_true, false_or, or_false, Ca_374 hA, Ca_375 hA, ha96]
  refine ⟨fun q => hn (fun r => ?_), fun q => ?_⟩
  · obtain ⟨a2, ha2, e⟩ := r.2.1
    rw [qN_eq (by omega) (by omega)] at e
    subst e
    omega
  refine within0_s 2 rfl (by decide) (fun q3 => ?_) (fun q3 => ?_)
  case refine_2 =>
    simp (disch := omega) only [bo_q0, bo_q1, qN_le, qN_lt, qN_eq, qN_vp, qN_nat, qN_neg1, qN_neg, qN_nn, qN_lit, qN_add, qN_sub, qN_mul, qN_div, Bd_eq, reduceIte, Nat.add_sub_cancel, dm_l, Nat.zero_le, Nat.not_lt_zero, Nat.reduceEqDiff, Nat.reduceLT, Nat.reduceLeDiff, Nat.reduceAdd, Nat.reduceSub, Nat.reduceMul, Nat.reduceDiv, Nat.reduceMod, reduceCtorEq, true_implies, false_implies, not_true_eq_false, not_false_eq_true, true_and, and_true, implies_true, and_false, false_and, forall_const, true_or, or_true, false_or, or_false, ]
    exact hn (fun r => q3 r.2.2)
  obtain ⟨b, hb2, rfl⟩ := q3
  simp (disch := omega) only [bo_q0, bo_q1, qN_le, qN_lt, qN_eq, qN_vp, qN_nat, qN_neg1, qN_neg, qN_nn, qN_lit, qN_add, qN_sub, qN_mul, qN_div, Bd_eq, reduceIte, Nat.add_sub_cancel, dm_l, Nat.zero_le, Nat.not_lt_zero, Nat.reduceEqDiff, Nat.reduceLT, Nat.reduceLeDiff, Nat.reduceAdd, Nat.reduceSub, Nat.reduceMul, Nat.reduceDiv, Nat.reduceMod, reduceCtorEq, true_implies, false_implies, not_true_eq_false, not_false_eq_true, true_and, and_true, implies_true, and_false, false_and, forall_const, true_or, or_true, false_or, or_false, Ca_375 hA, ha96]
  have hA' := (Cw_375 hA (i := a) (by omega) (b))
  have hs : Sm cT μ _ := (Sm.rfl'.wI (qN (b)) (k := (19 + a)) (j := 8) (by unfold cT; omega))
  exact hy a b ha (by omega) hb2 rfl rfl _ (h.up hs hA' (fun p hp => rfl)) (FC_cT hs)

theorem m_after {A X : Nat → Nat → Nat} {W : List Int64} {μ : MM} {v1 v2 : Int32} {Q : Int32 → MM → Prop} (hI : ∀ f i, dom f i → A f i < bnd f i) (h : Ms A X W μ)
    (hy : ∀ a b, a < A 358 12 → A 374 a = 1 → b < 3 → v1 = qN a → v2 = qN b → ∀ μ', Ms (up2 A 375 (a) (b)) X W μ' → FM μ μ' → Q (qN (A 375 a)) μ')
    (hn : ¬ (inr v1 (A 358 12) ∧ (∃ a, (a < 96 ∧ A 374 a = 1) ∧ v1 = qN a) ∧ inr v2 3) → ∀ μ', Ms A X W μ' → FM μ μ' → Q (-1) μ') : G12_after v1 v2 μ Q := by
  unfold G12_after
  rw [Bd_eq]
  have h0 := m_thr h 0
  have f0 := fm_thr μ 0
  revert h0 f0
  generalize sI μ 358 0 0 = μ0
  intro h0 f0
  have hA := h0.1
  have hc12 : A 358 12 < 97 := hI 358 12 (by unfold dom; decide)
  refine m_isLetter hA (by omega) (fun q1 => ?_) (fun q1 => ?_)
  case refine_2 =>
    simp (disch := omega) only [bo_q0, bo_q1, qN_le, qN_lt, qN_eq, qN_vp, qN_nat, qN_neg1, qN_neg, qN_nn, qN_lit, qN_add, qN_sub, qN_mul, qN_div, Bd_eq, reduceIte, Nat.add_sub_cancel, dm_l, Nat.zero_le, Nat.not_lt_zero, Nat.reduceEqDiff, Nat.reduceLT, Nat.reduceLeDiff, Nat.reduceAdd, Nat.reduceSub, Nat.reduceMul, Nat.reduceDiv, Nat.reduceMod, reduceCtorEq, true_implies, false_implies, not_true_eq_false, not_false_eq_true, true_and, and_true, implies_true, and_false, false_and, forall_const, true_or, or_true, false_or, or_false, ]
    exact hn (fun r => q1 r.1) _ h0 f0
  obtain ⟨a, ha, rfl⟩ := q1
  have ha96 : a < 96 := by omega
  have hr : A 374 a < 2 := hI 374 a (by unfold dom; omega)
  have hf : A 375 a < 3 := hI 375 a (by unfold dom; omega)
  simp (disch := omega) only [bo_q0, bo_q1, qN_le, qN_lt, qN_eq, qN_vp, qN_nat, qN_neg1, qN_neg, qN_nn, qN_lit, qN_add, qN_sub, qN_mul, qN_div, Bd_eq, reduceIte, Nat.add_sub_cancel, dm_l, Nat.zero_le, Nat.not_lt_zero, Nat.reduceEqDiff, Nat.reduceLT, Nat.reduceLeDiff, Nat.reduceAdd, Nat.reduceSub, Nat.reduceMul, Nat.reduceDiv, Nat.reduceMod, reduceCtorEq, true_implies, false_implies, not_true_eq_false, not_false_eq_true, true_and, and_true, implies_true, and_false, false_and, forall_const, true_or, or_true, false_or, or_false, Ma_374 hA, Ma_375 hA, ha96]
  refine ⟨fun q => hn (fun r => ?_) _ h0 f0, fun q => ?_⟩
  · obtain ⟨a2, ha2, e⟩ := r.2.1
    rw [qN_eq (by omega) (by omega)] at e
    subst e
    omega
  refine in0_s 2 rfl (by decide) (fun q3 => ?_) (fun q3 => ?_)
  case refine_2 =>
    simp (disch := omega) only [bo_q0, bo_q1, qN_le, qN_lt, qN_eq, qN_vp, qN_nat, qN_neg1, qN_neg, qN_nn, qN_lit, qN_add, qN_sub, qN_mul, qN_div, Bd_eq, reduceIte, Nat.add_sub_cancel, dm_l, Nat.zero_le, Nat.not_lt_zero, Nat.reduceEqDiff, Nat.reduceLT, Nat.reduceLeDiff, Nat.reduceAdd, Nat.reduceSub, Nat.reduceMul, Nat.reduceDiv, Nat.reduceMod, reduceCtorEq, true_implies, false_implies, not_true_eq_false, not_false_eq_true, true_and, and_true, implies_true, and_false, false_and, forall_const, true_or, or_true, false_or, or_false, ]
    exact hn (fun r => q3 r.2.2) _ h0 f0
  obtain ⟨b, hb2, rfl⟩ := q3
  simp (disch := omega) only [bo_q0, bo_q1, qN_le, qN_lt, qN_eq, qN_vp, qN_nat, qN_neg1, qN_neg, qN_nn, qN_lit, qN_add, qN_sub, qN_mul, qN_div, Bd_eq, reduceIte, Nat.add_sub_cancel, dm_l, Nat.zero_le, Nat.not_lt_zero, Nat.reduceEqDiff, Nat.reduceLT, Nat.reduceLeDiff, Nat.reduceAdd, Nat.reduceSub, Nat.reduceMul, Nat.reduceDiv, Nat.reduceMod, reduceCtorEq, true_implies, false_implies, not_true_eq_false, not_false_eq_true, true_and, and_true, implies_true, and_false, false_and, forall_const, true_or, or_true, false_or, or_false, Ma_375 hA, ha96]
  have hA' := (Ma_w hA 375 (a) (b))
  have hs : Sm mT μ0 _ := (Sm.rfl'.wI (qN (b)) (k := 375) (j := a) (by unfold mT; omega))
  exact hy a b ha (by omega) hb2 rfl rfl _ (h0.up hs hA' (fun p hp => rfl)) (f0.tr (FM_mT hs))

theorem bo_q {b : Nat} (hb : b < 2) : bo (qN b) := by
  have : b = 0 ∨ b = 1 := by omega
  rcases this with rfl | rfl
  · exact bo_0
  · exact bo_1
theorem nar_q {b : Nat} (hb : b < 2) : vp_nar .boolean (qN b) = qN b := by
  have : b = 0 ∨ b = 1 := by omega
  rcases this with rfl | rfl <;> decide

theorem c_ring {A X : Nat → Nat → Nat} {W : List Int64} {μ : MM} {v1 v2 : Int32} {Q : Int32 → MM → Prop} (hv : inr v2 2) (hI : ∀ f i, dom f i → A f i < bnd f i) (h : Cs A X W μ)
    (hy : ∀ a b, a < A 358 12 → A 373 a = 0 → b < 2 → v1 = qN a → v2 = qN b → ∀ μ', Cs (up2 (up2 A 373 (a) (1)) 374 (a) (b)) X W μ' → FC μ μ' → Q (1) μ')
    (hn : ¬ (inr v1 (A 358 12) ∧ (∃ a, (a < 96 ∧ A 373 a = 0) ∧ v1 = qN a)) → Q (0) μ) : G11_ring v1 v2 μ Q := by
  have hA := h.1
  have hc12 : A 358 12 < 97 := hI 358 12 (by unfold dom; decide)
  unfold G11_ring
  refine c_isLetter hA (by omega) (fun q1 => ?_) (fun q1 => ?_)
  case refine_2 =>
    simp (disch := omega) only [bo_q0, bo_q1, qN_le, qN_lt, qN_eq, qN_vp, qN_nat, qN_neg1, qN_neg, qN_nn, qN_lit, qN_add, qN_sub, qN_mul, qN_div, Bd_eq, reduceIte, Nat.add_sub_cancel, dm_l, Nat.zero_le, Nat.not_lt_zero, Nat.reduceEqDiff, Nat.reduceLT, Nat.reduceLeDiff, Nat.reduceAdd, Nat.reduceSub, Nat.reduceMul, Nat.reduceDiv, Nat.reduceMod, reduceCtorEq, true_implies, false_implies, not_true_eq_false, not_false_eq_true, true_and, and_true, implies_true, and_false, false_and, forall_const, true_or, or_true, false_or, or_false, ]
    exact hn (fun r => q1 r.1)
  obtain ⟨a, ha, rfl⟩ := q1
  have ha96 : a < 96 := by omega
  have hr : A 373 a < 2 := hI 373 a (by unfold dom; omega)
  simp (disch := omega) only [bo_q0, bo_q1, qN_le, qN_lt, qN_eq, qN_vp, qN_nat, qN_neg1, qN_neg, qN_nn, qN_lit, qN_add, qN_sub, qN_mul, qN_div, Bd_eq, reduceIte, Nat.add_sub_cancel, dm_l, Nat.zero_le, Nat.not_lt_zero, Nat.reduceEqDiff, Nat.reduceLT, Nat.reduceLeDiff, Nat.reduceAdd, Nat.reduceSub, Nat.reduceMul, Nat.reduceDiv, Nat.reduceMod, reduceCtorEq, true_implies, false_implies, not_true_eq_false, not_false_eq_true, true_and, and_true, implies_true, and_false, false_and, forall_const, true_or, or_true, false_or, or_false, Ca_373 hA, ha96]
  refine ⟨fun q => ?_, fun q => hn (fun r => ?_)⟩
  · obtain ⟨b, hb2, rfl⟩ := hv
    simp (disch := omega) only [bo_q0, bo_q1, qN_le, qN_lt, qN_eq, qN_vp, qN_nat, qN_neg1, qN_neg, qN_nn, qN_lit, qN_add, qN_sub, qN_mul, qN_div, Bd_eq, reduceIte, Nat.add_sub_cancel, dm_l, Nat.zero_le, Nat.not_lt_zero, Nat.reduceEqDiff, Nat.reduceLT, Nat.reduceLeDiff, Nat.reduceAdd, Nat.reduceSub, Nat.reduceMul, Nat.reduceDiv, Nat.reduceMod, reduceCtorEq, true_implies, false_implies, not_true_eq_false, not_false_eq_true, true_and, and_true, implies_true, and_false, false_and, forall_const, true_or, or_true, false_or, or_false, G5_becomeRead, bo_q hb2]
    have hA' := (Cw_374 (Cw_373 hA (i := a) (by omega) (1)) (i := a) (by omega) (b))
    have hs : Sm cT μ _ := ((Sm.rfl'.wI (qN (1)) (k := (19 + a)) (j := 6) (by unfold cT; omega)).wI (qN (b)) (k := (19 + a)) (j := 7) (by unfold cT; omega))
    exact hy a b ha (by omega) hb2 rfl rfl _ (h.up hs hA' (fun p hp => rfl)) (FC_cT hs)
  · obtain ⟨a2, ha2, e⟩ := r.2
    rw [qN_eq (by omega) (by omega)] at e
    subst e
    omega

theorem m_ring {A X : Nat → Nat → Nat} {W : List Int64} {μ : MM} {v1 v2 : Int32} {Q : Int32 → MM → Prop} (hv : inr v2 2) (hI : ∀ f i, dom f i → A f i < bnd f i) (h : Ms A X W μ)
    (hy : ∀ a b, a < A 358 12 → A 373 a = 0 → b < 2 → v1 = qN a → v2 = qN b → ∀ μ', Ms (up2 (up2 A 373 (a) (1)) 374 (a) (b)) X W μ' → FM μ μ' → Q (1) μ')
    (hn : ¬ (inr v1 (A 358 12) ∧ (∃ a, (a < 96 ∧ A 373 a = 0) ∧ v1 = qN a)) → ∀ μ', Ms A X W μ' → FM μ μ' → Q (0) μ') : G12_ring v1 v2 μ Q := by
  unfold G12_ring
  rw [Bd_eq]
  have h0 := m_thr h 0
  have f0 := fm_thr μ 0
  revert h0 f0
  generalize sI μ 358 0 0 = μ0
  intro h0 f0
  have hA := h0.1
  have hc12 : A 358 12 < 97 := hI 358 12 (by unfold dom; decide)
  refine m_isLetter hA (by omega) (fun q1 => ?_) (fun q1 => ?_)
  case refine_2 =>
    simp (disch := omega) only [bo_q0, bo_q1, qN_le, qN_lt, qN_eq, qN_vp, qN_nat, qN_neg1, qN_neg, qN_nn, qN_lit, qN_add, qN_sub, qN_mul, qN_div, Bd_eq, reduceIte, Nat.add_sub_cancel, dm_l, Nat.zero_le, Nat.not_lt_zero, Nat.reduceEqDiff, Nat.reduceLT, Nat.reduceLeDiff, Nat.reduceAdd, Nat.reduceSub, Nat.reduceMul, Nat.reduceDiv, Nat.reduceMod, reduceCtorEq, true_implies, false_implies, not_true_eq_false, not_false_eq_true, true_and, and_true, implies_true, and_false, false_and, forall_const, true_or, or_true, false_or, or_false, ]
    exact hn (fun r => q1 r.1) _ h0 f0
  obtain ⟨a, ha, rfl⟩ := q1
  have ha96 : a < 96 := by omega
  have hr : A 373 a < 2 := hI 373 a (by unfold dom; omega)
  simp (disch := omega) only [bo_q0, bo_q1, qN_le, qN_lt, qN_eq, qN_vp, qN_nat, qN_neg1, qN_neg, qN_nn, qN_lit, qN_add, qN_sub, qN_mul, qN_div, Bd_eq, reduceIte, Nat.add_sub_cancel, dm_l, Nat.zero_le, Nat.not_lt_zero, Nat.reduceEqDiff, Nat.reduceLT, Nat.reduceLeDiff, Nat.reduceAdd, Nat.reduceSub, Nat.reduceMul, Nat.reduceDiv, Nat.reduceMod, reduceCtorEq, true_implies, false_implies, not_true_eq_false, not_false_eq_true, true_and, and_true, implies_true, and_false, false_and, forall_const, true_or, or_true, false_or, or_false, Ma_373 hA, ha96]
  refine ⟨fun q => ?_, fun q => hn (fun r => ?_) _ h0 f0⟩
  · obtain ⟨b, hb2, rfl⟩ := hv
    simp (disch := omega) only [bo_q0, bo_q1, qN_le, qN_lt, qN_eq, qN_vp, qN_nat, qN_neg1, qN_neg, qN_nn, qN_lit, qN_add, qN_sub, qN_mul, qN_div, Bd_eq, reduceIte, Nat.add_sub_cancel, dm_l, Nat.zero_le, Nat.not_lt_zero, Nat.reduceEqDiff, Nat.reduceLT, Nat.reduceLeDiff, Nat.reduceAdd, Nat.reduceSub, Nat.reduceMul, Nat.reduceDiv, Nat.reduceMod, reduceCtorEq, true_implies, false_implies, not_true_eq_false, not_false_eq_true, true_and, and_true, implies_true, and_false, false_and, forall_const, true_or, or_true, false_or, or_false, nar_q hb2, nar_q (show 1 < 2 by decide)]
    have hA' := (Ma_w (Ma_w hA 373 (a) (1)) 374 (a) (b))
    have hs : Sm mT μ0 _ := ((Sm.rfl'.wI (qN (1)) (k := 373) (j := a) (by unfold mT; omega)).wI (qN (b)) (k := 374) (j := a) (by unfold mT; omega))
    exact hy a b ha (by omega) hb2 rfl rfl _ (h0.up hs hA' (fun p hp => rfl)) (f0.tr (FM_mT hs))
  · obtain ⟨a2, ha2, e⟩ := r.2
    rw [qN_eq (by omega) (by omega)] at e
    subst e
    omega

theorem qN_u (v : Int32) : qN v.toUInt32.toNat = v := by
  apply Int32.toBitVec.inj
  show BitVec.ofNat 32 v.toUInt32.toNat = v.toBitVec
  show BitVec.ofNat 32 v.toBitVec.toNat = v.toBitVec
  exact BitVec.ofNat_toNat 32 v.toBitVec

theorem c_seed {A X : Nat → Nat → Nat} {W : List Int64} {μ : MM} {v1 : Int32} {Q : Int32 → MM → Prop} (hI : ∀ f i, dom f i → A f i < bnd f i) (h : Cs A X W μ)
    (hy : ∀ μ', Cs (up2 A 358 (22) (v1.toUInt32.toNat)) X W μ' → FC μ μ' → Q (qN (A 358 22)) μ')
    (hn : ¬ (True) → Q (-1) μ) : G11_seed v1 μ Q := by
  have hA := h.1
  unfold G11_seed
  rw [Bd_eq, Bd_eq, Ca_s22 hA]
  have hA' := (Cw_s22 hA (v1.toUInt32.toNat))
  have hs : Sm cT μ _ := (Sm.rfl'.wI v1 (k := 1) (j := 14) (by unfold cT; omega))
  rw [qN_u] at hA'
  exact hy _ (h.up hs hA' (fun p hp => rfl)) (FC_cT hs)

theorem m_seed {A X : Nat → Nat → Nat} {W : List Int64} {μ : MM} {v1 : Int32} {Q : Int32 → MM → Prop} (hI : ∀ f i, dom f i → A f i < bnd f i) (h : Ms A X W μ)
    (hy : ∀ μ', Ms (up2 A 358 (22) (v1.toUInt32.toNat)) X W μ' → FM μ μ' → Q (qN (A 358 22)) μ')
    (hn : ¬ (True) → ∀ μ', Ms A X W μ' → FM μ μ' → Q (-1) μ') : G12_seed v1 μ Q := by
  unfold G12_seed
  rw [Bd_eq]
  have h0 := m_thr h 0
  have f0 := fm_thr μ 0
  revert h0 f0
  generalize sI μ 358 0 0 = μ0
  intro h0 f0
  have hA := h0.1
  rw [Bd_eq, Bd_eq, Ma_s22 hA]
  have hA' := (Ma_w hA 358 (22) (v1.toUInt32.toNat))
  have hs : Sm mT μ0 _ := (Sm.rfl'.wI v1 (k := 358) (j := 22) (by unfold mT; omega))
  rw [qN_u] at hA'
  exact hy _ (h0.up hs hA' (fun p hp => rfl)) (f0.tr (FM_mT hs))
