/-! letter, of, sign, parts, row, count -/
theorem bst_q {s t : Nat} (hs : st5 s) {μ : MM} {Q : MM → Prop} : G5_becomeState t (qN s) μ Q ↔ Q (sI (sI (sI μ t 6 (qN (s % 2))) t 7 (qN (s / 2 % 2))) t 8 (qN (s / 4))) := by
  unfold G5_becomeState G5_becomeState_J12
  rcases hs with rfl | rfl | rfl | rfl | rfl
  · have e1 : (qN 0 &&& 1) = 0 := by decide
    have e2 : (qN 0 &&& 2) = 0 := by decide
    have e3 : (qN 0 >>> (2 &&& 31)) = qN (0 / 4) := by decide
    simp only [e1, e2, e3, Bd_eq, true_implies, false_implies, not_true_eq_false, not_false_eq_true, true_and, and_true, implies_true, and_false, false_and, forall_const, true_or, or_true, false_or, or_false, bo_0]
    exact Iff.rfl
  · have e1 : ((qN 1 &&& 1) = 0) = False := by decide
    have e2 : (qN 1 &&& 2) = 0 := by decide
    have e3 : (qN 1 >>> (2 &&& 31)) = qN (1 / 4) := by decide
    simp only [e1, e2, e3, Bd_eq, true_implies, false_implies, not_true_eq_false, not_false_eq_true, true_and, and_true, implies_true, and_false, false_and, forall_const, true_or, or_true, false_or, or_false, bo_1]
    exact Iff.rfl
  · have e1 : ((qN 3 &&& 1) = 0) = False := by decide
    have e2 : ((qN 3 &&& 2) = 0) = False := by decide
    have e3 : (qN 3 >>> (2 &&& 31)) = qN (3 / 4) := by decide
    simp only [e1, e2, e3, Bd_eq, true_implies, false_implies, not_true_eq_false, not_false_eq_true, true_and, and_true, implies_true, and_false, false_and, forall_const, true_or, or_true, false_or, or_false, bo_1]
    exact Iff.rfl
  · have e1 : ((qN 7 &&& 1) = 0) = False := by decide
    have e2 : ((qN 7 &&& 2) = 0) = False := by decide
    have e3 : (qN 7 >>> (2 &&& 31)) = qN (7 / 4) := by decide
    simp only [e1, e2, e3, Bd_eq, true_implies, false_implies, not_true_eq_false, not_false_eq_true, true_and, and_true, implies_true, and_false, false_and, forall_const, true_or, or_true, false_or, or_false, bo_1]
    exact Iff.rfl
  · have e1 : ((qN 11 &&& 1) = 0) = False := by decide
    have e2 : ((qN 11 &&& 2) = 0) = False := by decide
    have e3 : (qN 11 >>> (2 &&& 31)) = qN (11 / 4) := by decide
    simp only [e1, e2, e3, Bd_eq, true_implies, false_implies, not_true_eq_false, not_false_eq_true, true_and, and_true, implies_true, and_false, false_and, forall_const, true_or, or_true, false_or, or_false, bo_1]
    exact Iff.rfl
theorem st5_0 : st5 0 := Or.inl rfl

def aL (A : Nat → Nat → Nat) (a b c e d : Nat) : Nat → Nat → Nat := (up2 (up2 (up2 (up2 (up2 (up2 (up2 (up2 (up2 (up2 A 367 (A 358 12) (a)) 368 (A 358 12) (b)) 369 (A 358 12) (c)) 370 (A 358 12) (e / 4)) 371 (A 358 12) (e % 4)) 372 (A 358 12) (d)) 373 (A 358 12) (0)) 374 (A 358 12) (0)) 375 (A 358 12) (0)) 358 (12) (A 358 12 + 1))
theorem c_addLetter {A X : Nat → Nat → Nat} {W : List Int64} {μ : MM} {a b c e d : Nat} {Q : Int32 → MM → Prop} (h : Cs A X W μ) (hn : A 358 12 < 96) (he : e < 2147483648)
    (hy : ∀ μ', Cs (aL A a b c e d) X W μ' → FC μ μ' → Q (qN (A 358 12)) μ') : G10_addLetter (qN a) (qN b) (qN c) (qN e) (qN d) μ Q := by
  have hA := h.1
  have ofk1 : ∀ k : Nat, (1 = 19 + k) = False := fun k => by simp only [eq_iff_iff, iff_false]; omega
  unfold G10_addLetter
  simp (disch := omega) only [bo_q0, bo_q1, qN_le, qN_lt, qN_eq, qN_vp, qN_nat, qN_neg1, qN_neg, qN_nn, qN_lit, qN_add, qN_sub, qN_mul, qN_div, Bd_eq, reduceIte, Nat.add_sub_cancel, dm_l, Nat.zero_le, Nat.not_lt_zero, Nat.reduceEqDiff, Nat.reduceLT, Nat.reduceLeDiff, Nat.reduceAdd, Nat.reduceSub, Nat.reduceMul, Nat.reduceDiv, Nat.reduceMod, reduceCtorEq, true_implies, false_implies, not_true_eq_false, not_false_eq_true, true_and, and_true, implies_true, and_false, false_and, forall_const, true_or, or_true, false_or, or_false, Ca_s12 hA, bst_q st5_0, gI_I, gI_J, gI_R, gJ_I, gJ_J, gJ_R, gR_I, gR_J, gR_R, ofk1, hn, Nat.zero_mod, Nat.zero_div]
  have hA' := (Cw_s12 (Cw_375 (Cw_374 (Cw_373 (Cw_372 (Cw_371 (Cw_370 (Cw_369 (Cw_368 (Cw_367 hA (i := A 358 12) (by omega) (a)) (i := A 358 12) (by omega) (b)) (i := A 358 12) (by omega) (c)) (i := A 358 12) (by omega) (e / 4)) (i := A 358 12) (by omega) (e % 4)) (i := A 358 12) (by omega) (d)) (i := A 358 12) (by omega) (0)) (i := A 358 12) (by omega) (0)) (i := A 358 12) (by omega) (0)) (A 358 12 + 1))
  have hs : Sm cT μ _ := ((((((((((Sm.rfl'.wI (qN (a)) (k := (19 + A 358 12)) (j := 0) (by unfold cT; omega)).wI (qN (b)) (k := (19 + A 358 12)) (j := 1) (by unfold cT; omega)).wI (qN (c)) (k := (19 + A 358 12)) (j := 2) (by unfold cT; omega)).wI (qN (e / 4)) (k := (19 + A 358 12)) (j := 3) (by unfold cT; omega)).wI (qN (e % 4)) (k := (19 + A 358 12)) (j := 4) (by unfold cT; omega)).wI (qN (d)) (k := (19 + A 358 12)) (j := 5) (by unfold cT; omega)).wI (qN (0)) (k := (19 + A 358 12)) (j := 6) (by unfold cT; omega)).wI (qN (0)) (k := (19 + A 358 12)) (j := 7) (by unfold cT; omega)).wI (qN (0)) (k := (19 + A 358 12)) (j := 8) (by unfold cT; omega)).wI (qN (A 358 12 + 1)) (k := 1) (j := 10) (by unfold cT; omega))
  exact hy _ (h.up hs hA' (fun p hp => rfl)) (FC_cT hs)

theorem m_lays {A X : Nat → Nat → Nat} {W : List Int64} {μ : MM} {a b c e d : Nat} {Q : MM → Prop} (h : Ms A X W μ) (hn : A 358 12 < 96)
    (hy : ∀ μ', Ms (aL A a b c e d) X W μ' → FM μ μ' → (∀ j, gI μ' 376 j = gI μ 376 j) → Q μ') : G12_lays (qN a) (qN b) (qN c) (qN (e / 4)) (qN (e % 4)) (qN d) μ Q := by
  have hA := h.1
  have n0 := nar_q (b := 0) (by decide)
  unfold G12_lays
  simp (disch := omega) only [bo_q0, bo_q1, qN_le, qN_lt, qN_eq, qN_vp, qN_nat, qN_neg1, qN_neg, qN_nn, qN_lit, qN_add, qN_sub, qN_mul, qN_div, Bd_eq, reduceIte, Nat.add_sub_cancel, dm_l, Nat.zero_le, Nat.not_lt_zero, Nat.reduceEqDiff, Nat.reduceLT, Nat.reduceLeDiff, Nat.reduceAdd, Nat.reduceSub, Nat.reduceMul, Nat.reduceDiv, Nat.reduceMod, reduceCtorEq, true_implies, false_implies, not_true_eq_false, not_false_eq_true, true_and, and_true, implies_true, and_false, false_and, forall_const, true_or, or_true, false_or, or_false, Ma_s12 hA, gI_I, gI_J, gI_R, gJ_I, gJ_J, gJ_R, gR_I, gR_J, gR_R, hn, n0]
  have hA' := (Ma_w (Ma_w (Ma_w (Ma_w (Ma_w (Ma_w (Ma_w (Ma_w (Ma_w (Ma_w hA 367 (A 358 12) (a)) 368 (A 358 12) (b)) 369 (A 358 12) (c)) 370 (A 358 12) (e / 4)) 371 (A 358 12) (e % 4)) 372 (A 358 12) (d)) 373 (A 358 12) (0)) 374 (A 358 12) (0)) 375 (A 358 12) (0)) 358 (12) (A 358 12 + 1))
  have hs : Sm mT μ _ := ((((((((((Sm.rfl'.wI (qN (a)) (k := 367) (j := A 358 12) (by unfold mT; omega)).wI (qN (b)) (k := 368) (j := A 358 12) (by unfold mT; omega)).wI (qN (c)) (k := 369) (j := A 358 12) (by unfold mT; omega)).wI (qN (e / 4)) (k := 370) (j := A 358 12) (by unfold mT; omega)).wI (qN (e % 4)) (k := 371) (j := A 358 12) (by unfold mT; omega)).wI (qN (d)) (k := 372) (j := A 358 12) (by unfold mT; omega)).wI (qN (0)) (k := 373) (j := A 358 12) (by unfold mT; omega)).wI (qN (0)) (k := 374) (j := A 358 12) (by unfold mT; omega)).wI (qN (0)) (k := 375) (j := A 358 12) (by unfold mT; omega)).wI (qN (A 358 12 + 1)) (k := 358) (j := 12) (by unfold mT; omega))
  exact hy _ (h.up hs hA' (fun p hp => rfl)) (FM_mT hs) (fun j => rfl)

theorem let60_0 {A : Nat → Nat → Nat} {μ : MM} {v1 v2 v3 v4 v5 : Int32} {Q : Int32 → MM → Prop} (hI : ∀ f i, dom f i → A f i < bnd f i) (hA : Ca A μ) (h : Q (-1) μ) : G11_letter_J60 v1 v2 v3 v4 v5 0 μ Q := by
  refine ⟨fun _ => ?_, fun _ => c_lettersTo hI hA ⟨fun _ => ?_, fun _ => ?_⟩⟩
  all_goals
    simp (disch := omega) only [bo_q0, bo_q1, qN_le, qN_lt, qN_eq, qN_vp, qN_nat, qN_neg1, qN_neg, qN_nn, qN_lit, qN_add, qN_sub, qN_mul, qN_div, Bd_eq, reduceIte, Nat.add_sub_cancel, dm_l, Nat.zero_le, Nat.not_lt_zero, Nat.reduceEqDiff, Nat.reduceLT, Nat.reduceLeDiff, Nat.reduceAdd, Nat.reduceSub, Nat.reduceMul, Nat.reduceDiv, Nat.reduceMod, reduceCtorEq, true_implies, false_implies, not_true_eq_false, not_false_eq_true, true_and, and_true, implies_true, and_false, false_and, forall_const, true_or, or_true, false_or, or_false, G11_letter_J59, G11_letter_J60, G11_letter_J90, G11_letter_J91, G11_letter_J120]
    exact h
theorem c_letter {A X : Nat → Nat → Nat} {W : List Int64} {μ : MM} {v1 v2 v3 v4 v5 : Int32} {Q : Int32 → MM → Prop} (hI : ∀ f i, dom f i → A f i < bnd f i) (h : Cs A X W μ)
    (hy : ∀ a b c e d, a < A 358 8 → b < A 358 3 → c < 100 → e < 40 → d < 400 → v1 = qN a → v2 = qN b → v3 = qN c → v4 = qN e → v5 = qN d → A 358 12 < 96 → cnt (fun i => decide (A 367 i = a)) (A 358 12) < 4 → ∀ μ', Cs (aL A a b c e d) X W μ' → FC μ μ' → Q (qN (A 358 12)) μ')
    (hn : ¬ (inr v1 (A 358 8) ∧ inr v2 (A 358 3) ∧ inr v3 100 ∧ inr v4 40 ∧ inr v5 400 ∧ A 358 12 < 96 ∧ cnt (fun i => decide (qN (A 367 i) = v1)) (A 358 12) < 4) → Q (-1) μ) : G11_letter v1 v2 v3 v4 v5 μ Q := by
  have hA := h.1
  have hb3 : A 358 3 < 13 := hI 358 3 (by unfold dom; decide)
  have hb8 : A 358 8 < 25 := hI 358 8 (by unfold dom; decide)
  have hc12 : A 358 12 < 97 := hI 358 12 (by unfold dom; decide)
  have hcn := cnt_le (fun i => decide (qN (A 367 i) = v1)) (A 358 12)
  unfold G11_letter
  refine c_isHouse hA (by omega) (fun q1 => ?_) (fun q1 => ⟨fun _ => let60_0 hI hA (hn (fun r => q1 r.1)), fun q => absurd rfl q⟩)
  refine ⟨fun q => absurd q (by decide), fun _ => ?_⟩
  refine c_isName hA (by omega) (fun q2 => ?_) (fun q2 => ⟨fun _ => let60_0 hI hA (hn (fun r => q2 r.2.1)), fun q => absurd rfl q⟩)
  refine ⟨fun q => absurd q (by decide), fun _ => ?_⟩
  refine within0_s 99 rfl (by decide) (fun q3 => ?_) (fun q3 => ⟨fun _ => let60_0 hI hA (hn (fun r => q3 r.2.2.1)), fun q => absurd rfl q⟩)
  refine ⟨fun q => absurd q (by decide), fun _ => ?_⟩
  refine within0_s 39 rfl (by decide) (fun q4 => ?_) (fun q4 => ⟨fun _ => let60_0 hI hA (hn (fun r => q4 r.2.2.2.1)), fun q => absurd rfl q⟩)
  refine ⟨fun q => absurd q (by decide), fun _ => ?_⟩
  refine within0_s 399 rfl (by decide) (fun q5 => ?_) (fun q5 => ⟨fun _ => let60_0 hI hA (hn (fun r => q5 r.2.2.2.2.1)), fun q => absurd rfl q⟩)
  refine ⟨fun q => absurd q (by decide), fun _ => ?_⟩
  simp (disch := omega) only [bo_q0, bo_q1, qN_le, qN_lt, qN_eq, qN_vp, qN_nat, qN_neg1, qN_neg, qN_nn, qN_lit, qN_add, qN_sub, qN_mul, qN_div, Bd_eq, reduceIte, Nat.add_sub_cancel, dm_l, Nat.zero_le, Nat.not_lt_zero, Nat.reduceEqDiff, Nat.reduceLT, Nat.reduceLeDiff, Nat.reduceAdd, Nat.reduceSub, Nat.reduceMul, Nat.reduceDiv, Nat.reduceMod, reduceCtorEq, true_implies, false_implies, not_true_eq_false, not_false_eq_true, true_and, and_true, implies_true, and_false, false_and, forall_const, true_or, or_true, false_or, or_false, G11_letter_J59, G11_letter_J60, G11_letter_J90, G11_letter_J91, G11_letter_J120, Ca_s12 hA]
  refine ⟨fun q => hn (fun r => by omega), fun q => c_lettersTo hI hA ?_⟩
  simp (disch := omega) only [bo_q0, bo_q1, qN_le, qN_lt, qN_eq, qN_vp, qN_nat, qN_neg1, qN_neg, qN_nn, qN_lit, qN_add, qN_sub, qN_mul, qN_div, Bd_eq, reduceIte, Nat.add_sub_cancel, dm_l, Nat.zero_le, Nat.not_lt_zero, Nat.reduceEqDiff, Nat.reduceLT, Nat.reduceLeDiff, Nat.reduceAdd, Nat.reduceSub, Nat.reduceMul, Nat.reduceDiv, Nat.reduceMod, reduceCtorEq, true_implies, false_implies, not_true_eq_false, not_false_eq_true, true_and, and_true, implies_true, and_false, false_and, forall_const, true_or, or_true, false_or, or_false, ]
  refine ⟨fun q6 => hn (fun r => by omega), fun q6 => ?_⟩
  obtain ⟨a, ha, rfl⟩ := q1
  obtain ⟨b, hb2, rfl⟩ := q2
  obtain ⟨c, hc3, rfl⟩ := q3
  obtain ⟨e, he, rfl⟩ := q4
  obtain ⟨d, hd, rfl⟩ := q5
  rw [cnt_q hI (by omega) (by omega)] at q6
  exact c_addLetter h (by omega) (by omega) (hy a b c e d ha hb2 hc3 he hd rfl rfl rfl rfl rfl (by omega) (by omega))
theorem m_letter {A X : Nat → Nat → Nat} {W : List Int64} {μ : MM} {v1 v2 v3 v4 v5 : Int32} {Q : Int32 → MM → Prop} (hI : ∀ f i, dom f i → A f i < bnd f i) (h4 : ∀ h, cnt (fun i => decide (A 367 i = h)) (A 358 12) ≤ 4) (h : Ms A X W μ)
    (hy : ∀ a b c e d, a < A 358 8 → b < A 358 3 → c < 100 → e < 40 → d < 400 → v1 = qN a → v2 = qN b → v3 = qN c → v4 = qN e → v5 = qN d → A 358 12 < 96 → cnt (fun i => decide (A 367 i = a)) (A 358 12) < 4 → ∀ μ', Ms (aL A a b c e d) X W μ' → FM μ μ' → Q (qN (A 358 12)) μ')
    (hn : ¬ (inr v1 (A 358 8) ∧ inr v2 (A 358 3) ∧ inr v3 100 ∧ inr v4 40 ∧ inr v5 400 ∧ A 358 12 < 96 ∧ cnt (fun i => decide (qN (A 367 i) = v1)) (A 358 12) < 4) → ∀ μ', Ms A X W μ' → FM μ μ' → Q (-1) μ') : G12_letter v1 v2 v3 v4 v5 μ Q := by
  unfold G12_letter
  rw [Bd_eq]
  have h0 := m_thr h 0
  have f0 := fm_thr μ 0
  revert h0 f0
  generalize sI μ 358 0 0 = μ0
  intro h0 f0
  have hA := h0.1
  have hb3 : A 358 3 < 13 := hI 358 3 (by unfold dom; decide)
  have hb8 : A 358 8 < 25 := hI 358 8 (by unfold dom; decide)
  have hc12 : A 358 12 < 97 := hI 358 12 (by unfold dom; decide)
  have hcn := cnt_le (fun i => decide (qN (A 367 i) = v1)) (A 358 12)
  have h70 : Q (-1) μ0 → G12_letter_J70 v1 v2 v3 v4 v5 μ0 Q := fun q => ⟨fun _ => q, fun q => absurd rfl q⟩
  refine m_isHouse hA (by omega) (fun q1 => ?_) (fun q1 => ⟨fun _ => h70 (hn (fun r => q1 r.1) _ h0 f0), fun q => absurd rfl q⟩)
  refine ⟨fun q => absurd q (by decide), fun _ => ?_⟩
  refine m_isName hA (by omega) (fun q2 => ?_) (fun q2 => ⟨fun _ => h70 (hn (fun r => q2 r.2.1) _ h0 f0), fun q => absurd rfl q⟩)
  refine ⟨fun q => absurd q (by decide), fun _ => ?_⟩
  refine in0_s 99 rfl (by decide) (fun q3 => ?_) (fun q3 => ⟨fun _ => h70 (hn (fun r => q3 r.2.2.1) _ h0 f0), fun q => absurd rfl q⟩)
  refine ⟨fun q => absurd q (by decide), fun _ => ⟨fun q4 => h70 (hn (fun r => ?_) _ h0 f0), fun q4 => ?_⟩⟩
  · obtain ⟨c, hc, rfl⟩ := r.2.2.2.1
    rw [qN_neg (by omega)] at q4
    exact q4
  obtain ⟨e, he, rfl⟩ := qN_of q4
  rw [qN_lit 4, qN_div he (by decide)]
  refine in0_s 9 rfl (by decide) (fun q5 => ?_) (fun q5 => ⟨fun _ => h70 (hn (fun r => q5 (by have r3 := r.2.2.2.1; rw [inr_q he (by decide)] at r3; exact ⟨e / 4, by omega, rfl⟩)) _ h0 f0), fun q => absurd rfl q⟩)
  refine ⟨fun q => absurd q (by decide), fun _ => ?_⟩
  rw [inr_q (by omega) (by decide)] at q5
  refine in0_s 399 rfl (by decide) (fun q6 => ?_) (fun q6 => ⟨fun _ => h70 (hn (fun r => q6 r.2.2.2.2.1) _ h0 f0), fun q => absurd rfl q⟩)
  refine ⟨fun q => absurd q (by decide), fun _ => ?_⟩
  obtain ⟨a, ha, rfl⟩ := q1
  obtain ⟨b, hb2, rfl⟩ := q2
  obtain ⟨c, hc3, rfl⟩ := q3
  obtain ⟨d, hd, rfl⟩ := q6
  have h4a := h4 a
  rw [cnt_q hI (by omega) (by omega)] at hcn
  simp (disch := omega) only [bo_q0, bo_q1, qN_le, qN_lt, qN_eq, qN_vp, qN_nat, qN_neg1, qN_neg, qN_nn, qN_lit, qN_add, qN_sub, qN_mul, qN_div, Bd_eq, reduceIte, Nat.add_sub_cancel, dm_l, Nat.zero_le, Nat.not_lt_zero, Nat.reduceEqDiff, Nat.reduceLT, Nat.reduceLeDiff, Nat.reduceAdd, Nat.reduceSub, Nat.reduceMul, Nat.reduceDiv, Nat.reduceMod, reduceCtorEq, true_implies, false_implies, not_true_eq_false, not_false_eq_true, true_and, and_true, implies_true, and_false, false_and, forall_const, true_or, or_true, false_or, or_false, G12_letter_J71, Ma_s12 hA]
  refine ⟨fun q => hn (fun r => by omega) _ h0 f0, fun q => m_lettersTo hI hA ?_⟩
  rw [cnt_q hI (by omega) (by omega)]
  simp (disch := omega) only [bo_q0, bo_q1, qN_le, qN_lt, qN_eq, qN_vp, qN_nat, qN_neg1, qN_neg, qN_nn, qN_lit, qN_add, qN_sub, qN_mul, qN_div, Bd_eq, reduceIte, Nat.add_sub_cancel, dm_l, Nat.zero_le, Nat.not_lt_zero, Nat.reduceEqDiff, Nat.reduceLT, Nat.reduceLeDiff, Nat.reduceAdd, Nat.reduceSub, Nat.reduceMul, Nat.reduceDiv, Nat.reduceMod, reduceCtorEq, true_implies, false_implies, not_true_eq_false, not_false_eq_true, true_and, and_true, implies_true, and_false, false_and, forall_const, true_or, or_true, false_or, or_false, ]
  refine ⟨fun q6 => ?_, fun q6 => hn (fun r => ?_) _ h0 f0⟩
  · refine m_lays h0 (by omega) (fun μ' k1 k2 _ => ?_)
    have e1 : gI μ' 358 12 = qN (A 358 12 + 1) := Ma_s12 k1.1
    simp (disch := omega) only [bo_q0, bo_q1, qN_le, qN_lt, qN_eq, qN_vp, qN_nat, qN_neg1, qN_neg, qN_nn, qN_lit, qN_add, qN_sub, qN_mul, qN_div, Bd_eq, reduceIte, Nat.add_sub_cancel, dm_l, Nat.zero_le, Nat.not_lt_zero, Nat.reduceEqDiff, Nat.reduceLT, Nat.reduceLeDiff, Nat.reduceAdd, Nat.reduceSub, Nat.reduceMul, Nat.reduceDiv, Nat.reduceMod, reduceCtorEq, true_implies, false_implies, not_true_eq_false, not_false_eq_true, true_and, and_true, implies_true, and_false, false_and, forall_const, true_or, or_true, false_or, or_false, e1]
    exact hy a b c e d ha hb2 hc3 (by omega) hd rfl rfl rfl rfl rfl (by omega) (by omega) μ' k1 (f0.tr k2)
  · have r7 := r.2.2.2.2.2.2
    rw [cnt_q hI (by omega) (by omega)] at r7
    omega

theorem c_of {A X : Nat → Nat → Nat} {W : List Int64} {μ : MM} {v1 v2 : Int32} {Q : Int32 → MM → Prop} {Xx : MM → Prop} (hI : ∀ f i, dom f i → A f i < bnd f i) (h : Cs A X W μ)
    (hy : ∀ a b, a < A 358 12 → b < 9 → v1 = qN a → v2 = qN b → Q (qN (A (367 + b) a)) μ) (hn : ¬ (inr v1 (A 358 12) ∧ inr v2 9) → Xx μ) : G11_of v1 v2 μ Q Xx := by
  have hA := h.1
  have hc12 : A 358 12 < 97 := hI 358 12 (by unfold dom; decide)
  unfold G11_of
  refine c_isLetter hA (by omega) (fun q1 => ?_) (fun q1 => ?_)
  case refine_2 =>
    refine ⟨fun _ => ?_, fun q => absurd rfl q⟩
    · unfold G11_of_J21
      exact hn (fun r => q1 r.1)
  refine ⟨fun q => absurd q (by decide), fun _ => ?_⟩
  refine within0_s 8 rfl (by decide) (fun q2 => ?_) (fun q2 => ?_)
  case refine_2 =>
    refine ⟨fun q => absurd rfl q, fun _ => ?_⟩
    · unfold G11_of_J21
      exact hn (fun r => q2 r.2)
  obtain ⟨a, ha, rfl⟩ := q1
  obtain ⟨b, hb, rfl⟩ := q2
  have ha96 : a < 96 := by omega
  have h6 : A 373 a < 2 := hI 373 a (by unfold dom; omega)
  have h7 : A 374 a < 2 := hI 374 a (by unfold dom; omega)
  have hbb : b = 0 ∨ b = 1 ∨ b = 2 ∨ b = 3 ∨ b = 4 ∨ b = 5 ∨ b = 6 ∨ b = 7 ∨ b = 8 := by omega
  rcases hbb with rfl | rfl | rfl | rfl | rfl | rfl | rfl | rfl | rfl
  all_goals
    simp (disch := omega) only [bo_q0, bo_q1, qN_le, qN_lt, qN_eq, qN_vp, qN_nat, qN_neg1, qN_neg, qN_nn, qN_lit, qN_add, qN_sub, qN_mul, qN_div, Bd_eq, reduceIte, Nat.add_sub_cancel, dm_l, Nat.zero_le, Nat.not_lt_zero, Nat.reduceEqDiff, Nat.reduceLT, Nat.reduceLeDiff, Nat.reduceAdd, Nat.reduceSub, Nat.reduceMul, Nat.reduceDiv, Nat.reduceMod, reduceCtorEq, true_implies, false_implies, not_true_eq_false, not_false_eq_true, true_and, and_true, implies_true, and_false, false_and, forall_const, true_or, or_true, false_or, or_false, G5_told, Ca_367 hA, Ca_368 hA, Ca_369 hA, Ca_370 hA, Ca_371 hA, Ca_372 hA, Ca_373 hA, Ca_374 hA, Ca_375 hA, ha96]
  · exact hy a _ ha (by decide) rfl rfl
  · exact hy a _ ha (by decide) rfl rfl
  · exact hy a _ ha (by decide) rfl rfl
  · exact hy a _ ha (by decide) rfl rfl
  · exact hy a _ ha (by decide) rfl rfl
  · exact hy a _ ha (by decide) rfl rfl
  · refine ⟨fun q => ?_, fun q => ?_⟩
    · have e : qN (A (367 + 6) a) = qN 0 := congrArg qN q
      rw [← e]
      exact hy a _ ha (by decide) rfl rfl
    · have e : qN (A (367 + 6) a) = qN 1 := congrArg qN (show A 373 a = 1 by omega)
      rw [← e]
      exact hy a _ ha (by decide) rfl rfl
  · refine ⟨fun q => ?_, fun q => ?_⟩
    · have e : qN (A (367 + 7) a) = qN 0 := congrArg qN q
      rw [← e]
      exact hy a _ ha (by decide) rfl rfl
    · have e : qN (A (367 + 7) a) = qN 1 := congrArg qN (show A 374 a = 1 by omega)
      rw [← e]
      exact hy a _ ha (by decide) rfl rfl
  · exact hy a _ ha (by decide) rfl rfl

theorem m_of {A X : Nat → Nat → Nat} {W : List Int64} {μ : MM} {v1 v2 : Int32} {Q : Int32 → MM → Prop}  (hI : ∀ f i, dom f i → A f i < bnd f i) (h : Ms A X W μ)
    (hy : ∀ a b, a < A 358 12 → b < 9 → v1 = qN a → v2 = qN b → ∀ μ', Ms A X W μ' → FM μ μ' → gI μ' 358 0 = 0 → Q (qN (A (367 + b) a)) μ') (hn : ¬ (inr v1 (A 358 12) ∧ inr v2 9) → ∀ μ', Ms A X W μ' → FM μ μ' → gI μ' 358 0 = 1 → ∀ r, Q r μ') : G12_of v1 v2 μ Q := by
  unfold G12_of
  rw [Bd_eq]
  have h0 := m_thr h 0
  have f0 := fm_thr μ 0
  have z0 : gI (sI μ 358 0 0) 358 0 = 0 := rfl
  revert h0 f0 z0
  generalize sI μ 358 0 0 = μ0
  intro h0 f0 z0
  have hA := h0.1
  have hc12 : A 358 12 < 97 := hI 358 12 (by unfold dom; decide)
  skip
  refine m_isLetter hA (by omega) (fun q1 => ?_) (fun q1 => ?_)
  case refine_2 =>
    refine ⟨fun _ => ?_, fun q => absurd rfl q⟩
    · unfold G12_of_J25 G12_refuse
      rw [Bd_eq]
      exact hn (fun r => q1 r.1) _ (m_thr h0 1) (f0.tr (fm_thr μ0 1)) rfl 0
  refine ⟨fun q => absurd q (by decide), fun _ => ?_⟩
  refine in0_s 8 rfl (by decide) (fun q2 => ?_) (fun q2 => ?_)
  case refine_2 =>
    refine ⟨fun q => absurd rfl q, fun _ => ?_⟩
    · unfold G12_of_J25 G12_refuse
      rw [Bd_eq]
      exact hn (fun r => q2 r.2) _ (m_thr h0 1) (f0.tr (fm_thr μ0 1)) rfl 0
  obtain ⟨a, ha, rfl⟩ := q1
  obtain ⟨b, hb, rfl⟩ := q2
  have ha96 : a < 96 := by omega
  have h6 : A 373 a < 2 := hI 373 a (by unfold dom; omega)
  have h7 : A 374 a < 2 := hI 374 a (by unfold dom; omega)
  have hbb : b = 0 ∨ b = 1 ∨ b = 2 ∨ b = 3 ∨ b = 4 ∨ b = 5 ∨ b = 6 ∨ b = 7 ∨ b = 8 := by omega
  rcases hbb with rfl | rfl | rfl | rfl | rfl | rfl | rfl | rfl | rfl
  all_goals
    simp (disch := omega) only [bo_q0, bo_q1, qN_le, qN_lt, qN_eq, qN_vp, qN_nat, qN_neg1, qN_neg, qN_nn, qN_lit, qN_add, qN_sub, qN_mul, qN_div, Bd_eq, reduceIte, Nat.add_sub_cancel, dm_l, Nat.zero_le, Nat.not_lt_zero, Nat.reduceEqDiff, Nat.reduceLT, Nat.reduceLeDiff, Nat.reduceAdd, Nat.reduceSub, Nat.reduceMul, Nat.reduceDiv, Nat.reduceMod, reduceCtorEq, true_implies, false_implies, not_true_eq_false, not_false_eq_true, true_and, and_true, implies_true, and_false, false_and, forall_const, true_or, or_true, false_or, or_false, Ma_367 hA, Ma_368 hA, Ma_369 hA, Ma_370 hA, Ma_371 hA, Ma_372 hA, Ma_373 hA, Ma_374 hA, Ma_375 hA, ha96, flag_q]
  · exact hy a _ ha (by decide) rfl rfl _ h0 f0 z0
  · exact hy a _ ha (by decide) rfl rfl _ h0 f0 z0
  · exact hy a _ ha (by decide) rfl rfl _ h0 f0 z0
  · exact hy a _ ha (by decide) rfl rfl _ h0 f0 z0
  · exact hy a _ ha (by decide) rfl rfl _ h0 f0 z0
  · exact hy a _ ha (by decide) rfl rfl _ h0 f0 z0
  · exact hy a _ ha (by decide) rfl rfl _ h0 f0 z0
  · exact hy a _ ha (by decide) rfl rfl _ h0 f0 z0
  · exact hy a _ ha (by decide) rfl rfl _ h0 f0 z0

theorem c_parts {A X : Nat → Nat → Nat} {W : List Int64} {μ : MM} {v1 v2 : Int32} {Q : Int32 → MM → Prop} (hI : ∀ f i, dom f i → A f i < bnd f i) (h : Cs A X W μ)
    (hy : ∀ a b, a < 4 → b < 100 → v1 = qN a → v2 = qN b → A 389 0 + A 389 1 + A 389 2 + A 389 3 + b - A 389 a ≠ 0 → ∀ μ', Cs (up2 A 389 (a) (b)) X W μ' → FC μ μ' → Q (qN (A 389 a)) μ')
    (hn : ¬ (inr v1 4 ∧ inr v2 100 ∧ ∃ a b, v1 = qN a ∧ v2 = qN b ∧ a < 4 ∧ b < 100 ∧ A 389 0 + A 389 1 + A 389 2 + A 389 3 + b - A 389 a ≠ 0) → Q (-1) μ) : G11_parts v1 v2 μ Q := by
  have hA := h.1
  unfold G11_parts G4_becomePart
  refine within0_s 3 rfl (by decide) (fun q1 => ?_) (fun q1 => ?_)
  case refine_2 =>
    simp (disch := omega) only [bo_q0, bo_q1, qN_le, qN_lt, qN_eq, qN_vp, qN_nat, qN_neg1, qN_neg, qN_nn, qN_lit, qN_add, qN_sub, qN_mul, qN_div, Bd_eq, reduceIte, Nat.add_sub_cancel, dm_l, Nat.zero_le, Nat.not_lt_zero, Nat.reduceEqDiff, Nat.reduceLT, Nat.reduceLeDiff, Nat.reduceAdd, Nat.reduceSub, Nat.reduceMul, Nat.reduceDiv, Nat.reduceMod, reduceCtorEq, true_implies, false_implies, not_true_eq_false, not_false_eq_true, true_and, and_true, implies_true, and_false, false_and, forall_const, true_or, or_true, false_or, or_false, ]
    exact hn (fun r => q1 r.1)
  simp (disch := omega) only [bo_q0, bo_q1, qN_le, qN_lt, qN_eq, qN_vp, qN_nat, qN_neg1, qN_neg, qN_nn, qN_lit, qN_add, qN_sub, qN_mul, qN_div, Bd_eq, reduceIte, Nat.add_sub_cancel, dm_l, Nat.zero_le, Nat.not_lt_zero, Nat.reduceEqDiff, Nat.reduceLT, Nat.reduceLeDiff, Nat.reduceAdd, Nat.reduceSub, Nat.reduceMul, Nat.reduceDiv, Nat.reduceMod, reduceCtorEq, true_implies, false_implies, not_true_eq_false, not_false_eq_true, true_and, and_true, implies_true, and_false, false_and, forall_const, true_or, or_true, false_or, or_false, ]
  refine within0_s 99 rfl (by decide) (fun q2 => ?_) (fun q2 => ?_)
  case refine_2 =>
    simp (disch := omega) only [bo_q0, bo_q1, qN_le, qN_lt, qN_eq, qN_vp, qN_nat, qN_neg1, qN_neg, qN_nn, qN_lit, qN_add, qN_sub, qN_mul, qN_div, Bd_eq, reduceIte, Nat.add_sub_cancel, dm_l, Nat.zero_le, Nat.not_lt_zero, Nat.reduceEqDiff, Nat.reduceLT, Nat.reduceLeDiff, Nat.reduceAdd, Nat.reduceSub, Nat.reduceMul, Nat.reduceDiv, Nat.reduceMod, reduceCtorEq, true_implies, false_implies, not_true_eq_false, not_false_eq_true, true_and, and_true, implies_true, and_false, false_and, forall_const, true_or, or_true, false_or, or_false, ]
    exact hn (fun r => q2 r.2.1)
  obtain ⟨a, ha, rfl⟩ := q1
  obtain ⟨b, hb, rfl⟩ := q2
  have p0 : A 389 0 < 100 := hI 389 0 (by unfold dom; omega)
  have p1 : A 389 1 < 100 := hI 389 1 (by unfold dom; omega)
  have p2 : A 389 2 < 100 := hI 389 2 (by unfold dom; omega)
  have p3 : A 389 3 < 100 := hI 389 3 (by unfold dom; omega)
  have pa : A 389 a < 100 := hI 389 a (by unfold dom; omega)
  have pa2 : A 389 a ≤ A 389 0 + A 389 1 + A 389 2 + A 389 3 := by
    have : a = 0 ∨ a = 1 ∨ a = 2 ∨ a = 3 := by omega
    rcases this with rfl | rfl | rfl | rfl <;> omega
  simp (disch := omega) only [bo_q0, bo_q1, qN_le, qN_lt, qN_eq, qN_vp, qN_nat, qN_neg1, qN_neg, qN_nn, qN_lit, qN_add, qN_sub, qN_mul, qN_div, Bd_eq, reduceIte, Nat.add_sub_cancel, dm_l, Nat.zero_le, Nat.not_lt_zero, Nat.reduceEqDiff, Nat.reduceLT, Nat.reduceLeDiff, Nat.reduceAdd, Nat.reduceSub, Nat.reduceMul, Nat.reduceDiv, Nat.reduceMod, reduceCtorEq, true_implies, false_implies, not_true_eq_false, not_false_eq_true, true_and, and_true, implies_true, and_false, false_and, forall_const, true_or, or_true, false_or, or_false, Ca_389 hA, ha]
  rw [show (qN b - qN (A 389 a), qN 0, μ) = (qN b - qN (A 389 a) + qN (sm (fun k => A 389 k) 0), qN 0, μ) from by
    rw [show qN (sm (fun k => A 389 k) 0) = 0 from rfl, Int32.add_zero]]
  refine Lp.upE 4 (fun i => (qN b - qN (A 389 a) + qN (sm (fun k => A 389 k) i), qN i, μ)) ?_
  intro i K hi hK
  rcases Nat.lt_or_ge i 4 with hl | hl
  · have hk := hK hl
    simp only [sm] at hk
    simp (disch := omega) only [bo_q0, bo_q1, qN_le, qN_lt, qN_eq, qN_vp, qN_nat, qN_neg1, qN_neg, qN_nn, qN_lit, qN_add, qN_sub, qN_mul, qN_div, Bd_eq, reduceIte, Nat.add_sub_cancel, dm_l, Nat.zero_le, Nat.not_lt_zero, Nat.reduceEqDiff, Nat.reduceLT, Nat.reduceLeDiff, Nat.reduceAdd, Nat.reduceSub, Nat.reduceMul, Nat.reduceDiv, Nat.reduceMod, reduceCtorEq, true_implies, false_implies, not_true_eq_false, not_false_eq_true, true_and, and_true, implies_true, and_false, false_and, forall_const, true_or, or_true, false_or, or_false, G4_becomePart_L33, Ca_389 hA, hl, Nat.not_le.mpr hl]
    rw [Int32.add_assoc, qN_add]
    exact hk
  · have e : i = 4 := by omega
    subst e
    have e2 : qN b - qN (A 389 a) + qN (sm (fun k => A 389 k) 4) = qN (A 389 0 + A 389 1 + A 389 2 + A 389 3 + b - A 389 a) := by
      rw [show A 389 0 + A 389 1 + A 389 2 + A 389 3 + b - A 389 a = (A 389 0 + A 389 1 + A 389 2 + A 389 3 + b) - A 389 a from rfl, ← qN_sub (by omega), ← qN_add]
      simp only [sm, Nat.zero_add]
      rw [Int32.sub_eq_add_neg, Int32.sub_eq_add_neg, Int32.add_assoc, Int32.add_comm (-qN (A 389 a)), ← Int32.add_assoc, Int32.add_comm (qN b)]
    simp (disch := omega) only [bo_q0, bo_q1, qN_le, qN_lt, qN_eq, qN_vp, qN_nat, qN_neg1, qN_neg, qN_nn, qN_lit, qN_add, qN_sub, qN_mul, qN_div, Bd_eq, reduceIte, Nat.add_sub_cancel, dm_l, Nat.zero_le, Nat.not_lt_zero, Nat.reduceEqDiff, Nat.reduceLT, Nat.reduceLeDiff, Nat.reduceAdd, Nat.reduceSub, Nat.reduceMul, Nat.reduceDiv, Nat.reduceMod, reduceCtorEq, true_implies, false_implies, not_true_eq_false, not_false_eq_true, true_and, and_true, implies_true, and_false, false_and, forall_const, true_or, or_true, false_or, or_false, G4_becomePart_L33, e2, Ca_389 hA, ha]
    refine ⟨fun hz => ?_, fun q => hn (fun r => ?_)⟩
    · have hz : A 389 0 + A 389 1 + A 389 2 + A 389 3 + b - A 389 a ≠ 0 := hz
      have hA' := (Cw_389 hA (i := a) (by omega) (b))
      have hs : Sm cT μ _ := (Sm.rfl'.wI (qN (b)) (k := 171) (j := a) (by unfold cT; omega))
      exact hy a b ha hb rfl rfl hz _ (h.up hs hA' (fun p hp => rfl)) (FC_cT hs)
    · obtain ⟨a2, b2, e3, e4, h3, h4, h5⟩ := r.2.2
      rw [qN_eq (by omega) (by omega)] at e3 e4
      subst e3 e4
      exact h5 q

theorem m_parts {A X : Nat → Nat → Nat} {W : List Int64} {μ : MM} {v1 v2 : Int32} {Q : Int32 → MM → Prop} (hI : ∀ f i, dom f i → A f i < bnd f i) (h : Ms A X W μ)
    (hy : ∀ a b, a < 4 → b < 100 → v1 = qN a → v2 = qN b → A 389 0 + A 389 1 + A 389 2 + A 389 3 + b - A 389 a ≠ 0 → ∀ μ', Ms (up2 A 389 (a) (b)) X W μ' → FM μ μ' → Q (qN (A 389 a)) μ')
    (hn : ¬ (inr v1 4 ∧ inr v2 100 ∧ ∃ a b, v1 = qN a ∧ v2 = qN b ∧ a < 4 ∧ b < 100 ∧ A 389 0 + A 389 1 + A 389 2 + A 389 3 + b - A 389 a ≠ 0) → ∀ μ', Ms A X W μ' → FM μ μ' → Q (-1) μ') : G12_parts v1 v2 μ Q := by
  unfold G12_parts
  rw [Bd_eq]
  have h0 := m_thr h 0
  have f0 := fm_thr μ 0
  revert h0 f0
  generalize sI μ 358 0 0 = μ0
  intro h0 f0
  have hA := h0.1
  unfold G12_isKind
  refine in0_s 3 rfl (by decide) (fun q1 => ?_) (fun q1 => ?_)
  case refine_2 =>
    simp (disch := omega) only [bo_q0, bo_q1, qN_le, qN_lt, qN_eq, qN_vp, qN_nat, qN_neg1, qN_neg, qN_nn, qN_lit, qN_add, qN_sub, qN_mul, qN_div, Bd_eq, reduceIte, Nat.add_sub_cancel, dm_l, Nat.zero_le, Nat.not_lt_zero, Nat.reduceEqDiff, Nat.reduceLT, Nat.reduceLeDiff, Nat.reduceAdd, Nat.reduceSub, Nat.reduceMul, Nat.reduceDiv, Nat.reduceMod, reduceCtorEq, true_implies, false_implies, not_true_eq_false, not_false_eq_true, true_and, and_true, implies_true, and_false, false_and, forall_const, true_or, or_true, false_or, or_false, ]
    exact hn (fun r => q1 r.1) _ h0 f0
  simp (disch := omega) only [bo_q0, bo_q1, qN_le, qN_lt, qN_eq, qN_vp, qN_nat, qN_neg1, qN_neg, qN_nn, qN_lit, qN_add, qN_sub, qN_mul, qN_div, Bd_eq, reduceIte, Nat.add_sub_cancel, dm_l, Nat.zero_le, Nat.not_lt_zero, Nat.reduceEqDiff, Nat.reduceLT, Nat.reduceLeDiff, Nat.reduceAdd, Nat.reduceSub, Nat.reduceMul, Nat.reduceDiv, Nat.reduceMod, reduceCtorEq, true_implies, false_implies, not_true_eq_false, not_false_eq_true, true_and, and_true, implies_true, and_false, false_and, forall_const, true_or, or_true, false_or, or_false, ]
  refine in0_s 99 rfl (by decide) (fun q2 => ?_) (fun q2 => ?_)
  case refine_2 =>
    simp (disch := omega) only [bo_q0, bo_q1, qN_le, qN_lt, qN_eq, qN_vp, qN_nat, qN_neg1, qN_neg, qN_nn, qN_lit, qN_add, qN_sub, qN_mul, qN_div, Bd_eq, reduceIte, Nat.add_sub_cancel, dm_l, Nat.zero_le, Nat.not_lt_zero, Nat.reduceEqDiff, Nat.reduceLT, Nat.reduceLeDiff, Nat.reduceAdd, Nat.reduceSub, Nat.reduceMul, Nat.reduceDiv, Nat.reduceMod, reduceCtorEq, true_implies, false_implies, not_true_eq_false, not_false_eq_true, true_and, and_true, implies_true, and_false, false_and, forall_const, true_or, or_true, false_or, or_false, ]
    exact hn (fun r => q2 r.2.1) _ h0 f0
  obtain ⟨a, ha, rfl⟩ := q1
  obtain ⟨b, hb, rfl⟩ := q2
  have p0 : A 389 0 < 100 := hI 389 0 (by unfold dom; omega)
  have p1 : A 389 1 < 100 := hI 389 1 (by unfold dom; omega)
  have p2 : A 389 2 < 100 := hI 389 2 (by unfold dom; omega)
  have p3 : A 389 3 < 100 := hI 389 3 (by unfold dom; omega)
  have pa : A 389 a < 100 := hI 389 a (by unfold dom; omega)
  have pa2 : A 389 a ≤ A 389 0 + A 389 1 + A 389 2 + A 389 3 := by
    have : a = 0 ∨ a = 1 ∨ a = 2 ∨ a = 3 := by omega
    rcases this with rfl | rfl | rfl | rfl <;> omega
  simp (disch := omega) only [bo_q0, bo_q1, qN_le, qN_lt, qN_eq, qN_vp, qN_nat, qN_neg1, qN_neg, qN_nn, qN_lit, qN_add, qN_sub, qN_mul, qN_div, Bd_eq, reduceIte, Nat.add_sub_cancel, dm_l, Nat.zero_le, Nat.not_lt_zero, Nat.reduceEqDiff, Nat.reduceLT, Nat.reduceLeDiff, Nat.reduceAdd, Nat.reduceSub, Nat.reduceMul, Nat.reduceDiv, Nat.reduceMod, reduceCtorEq, true_implies, false_implies, not_true_eq_false, not_false_eq_true, true_and, and_true, implies_true, and_false, false_and, forall_const, true_or, or_true, false_or, or_false, Ma_389 hA, ha]
  rw [show (qN b - qN (A 389 a), qN 0, μ0) = (qN b - qN (A 389 a) + qN (sm (fun k => A 389 k) 0), qN 0, μ0) from by
    rw [show qN (sm (fun k => A 389 k) 0) = 0 from rfl, Int32.add_zero]]
  refine Lp.upE 4 (fun i => (qN b - qN (A 389 a) + qN (sm (fun k => A 389 k) i), qN i, μ0)) ?_
  intro i K hi hK
  rcases Nat.lt_or_ge i 4 with hl | hl
  · have hk := hK hl
    simp only [sm] at hk
    simp (disch := omega) only [bo_q0, bo_q1, qN_le, qN_lt, qN_eq, qN_vp, qN_nat, qN_neg1, qN_neg, qN_nn, qN_lit, qN_add, qN_sub, qN_mul, qN_div, Bd_eq, reduceIte, Nat.add_sub_cancel, dm_l, Nat.zero_le, Nat.not_lt_zero, Nat.reduceEqDiff, Nat.reduceLT, Nat.reduceLeDiff, Nat.reduceAdd, Nat.reduceSub, Nat.reduceMul, Nat.reduceDiv, Nat.reduceMod, reduceCtorEq, true_implies, false_implies, not_true_eq_false, not_false_eq_true, true_and, and_true, implies_true, and_false, false_and, forall_const, true_or, or_true, false_or, or_false, G12_parts_L38, Ma_389 hA, hl, Nat.not_le.mpr hl]
    rw [Int32.add_assoc, qN_add]
    exact hk
  · have e : i = 4 := by omega
    subst e
    have e2 : qN b - qN (A 389 a) + qN (sm (fun k => A 389 k) 4) = qN (A 389 0 + A 389 1 + A 389 2 + A 389 3 + b - A 389 a) := by
      rw [show A 389 0 + A 389 1 + A 389 2 + A 389 3 + b - A 389 a = (A 389 0 + A 389 1 + A 389 2 + A 389 3 + b) - A 389 a from rfl, ← qN_sub (by omega), ← qN_add]
      simp only [sm, Nat.zero_add]
      rw [Int32.sub_eq_add_neg, Int32.sub_eq_add_neg, Int32.add_assoc, Int32.add_comm (-qN (A 389 a)), ← Int32.add_assoc, Int32.add_comm (qN b)]
    simp (disch := omega) only [bo_q0, bo_q1, qN_le, qN_lt, qN_eq, qN_vp, qN_nat, qN_neg1, qN_neg, qN_nn, qN_lit, qN_add, qN_sub, qN_mul, qN_div, Bd_eq, reduceIte, Nat.add_sub_cancel, dm_l, Nat.zero_le, Nat.not_lt_zero, Nat.reduceEqDiff, Nat.reduceLT, Nat.reduceLeDiff, Nat.reduceAdd, Nat.reduceSub, Nat.reduceMul, Nat.reduceDiv, Nat.reduceMod, reduceCtorEq, true_implies, false_implies, not_true_eq_false, not_false_eq_true, true_and, and_true, implies_true, and_false, false_and, forall_const, true_or, or_true, false_or, or_false, G12_parts_L38, e2, Ma_389 hA, ha]
    refine ⟨fun hz => ?_, fun q => hn (fun r => ?_) _ h0 f0⟩
    · have hz : A 389 0 + A 389 1 + A 389 2 + A 389 3 + b - A 389 a ≠ 0 := hz
      have hA' := (Ma_w hA 389 (a) (b))
      have hs : Sm mT μ0 _ := (Sm.rfl'.wI (qN (b)) (k := 389) (j := a) (by unfold mT; omega))
      exact hy a b ha hb rfl rfl hz _ (h0.up hs hA' (fun p hp => rfl)) (f0.tr (FM_mT hs))
    · obtain ⟨a2, b2, e3, e4, h3, h4, h5⟩ := r.2.2
      rw [qN_eq (by omega) (by omega)] at e3 e4
      subst e3 e4
      exact h5 q
