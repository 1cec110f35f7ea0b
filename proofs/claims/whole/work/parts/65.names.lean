/-! tallies by name; all tallies of a value -/
def nl (A : Nat → Nat → Nat) (k n : Nat) : Nat := cnt (fun i => decide (A 373 i = 1) && decide (A 368 i = k)) n
def nr (A : Nat → Nat → Nat) (k n : Nat) : Nat := cnt (fun i => decide (A 373 i = 1) && decide (A 368 i = k) && decide (A 374 i = 1)) n
theorem nl_le (A : Nat → Nat → Nat) (k n : Nat) : nl A k n ≤ n := cnt_le _ _
theorem nr_le (A : Nat → Nat → Nat) (k n : Nat) : nr A k n ≤ nl A k n := cnt_mono (fun i h => by simp at h ⊢; exact h.1) n
def Nl (μ : MM) (cl cr : Nat) (A : Nat → Nat → Nat) (n : Nat) : Prop := ∀ k, k < 12 → gI μ cl k = qN (nl A k n) ∧ gI μ cr k = qN (nr A k n)
theorem Nl_0 {μ : MM} {cl cr : Nat} {A : Nat → Nat → Nat} (h : ∀ p, p < 12 → gI μ cl p = 0 ∧ gI μ cr p = 0) : Nl μ cl cr A 0 := h
def mc (A : Nat → Nat → Nat) (k : Nat) : Nat := cnt (fun k => decide (0 < nl A k (A 358 12))) k
def mtf (A : Nat → Nat → Nat) : Nat → Nat → Nat
  | 0 => fun _ => 0
  | k + 1 => if 0 < nl A k (A 358 12) then (fun j => if j = mc A k then k else mtf A k j) else mtf A k
theorem nl_s (A : Nat → Nat → Nat) (k n : Nat) : nl A k (n + 1) = nl A k n + (if A 373 n = 1 ∧ A 368 n = k then 1 else 0) := by
  show _ + (decide (A 373 n = 1) && decide (A 368 n = k)).toNat = _
  refine congrArg (nl A k n + ·) ?_
  by_cases h1 : A 373 n = 1 <;> by_cases h2 : A 368 n = k <;> simp [h1, h2]
theorem nr_s (A : Nat → Nat → Nat) (k n : Nat) (h4 : A 374 n < 2) : nr A k (n + 1) = nr A k n + (if A 373 n = 1 ∧ A 368 n = k then A 374 n else 0) := by
  show _ + (decide (A 373 n = 1) && decide (A 368 n = k) && decide (A 374 n = 1)).toNat = _
  refine congrArg (nr A k n + ·) ?_
  rcases (show A 374 n = 0 ∨ A 374 n = 1 by omega) with h3 | h3 <;> by_cases h1 : A 373 n = 1 <;> by_cases h2 : A 368 n = k <;> simp [h1, h2, h3]
theorem mc_s (A : Nat → Nat → Nat) (k : Nat) : mc A (k + 1) = mc A k + (if 0 < nl A k (A 358 12) then 1 else 0) := by
  show _ + (decide (0 < nl A k (A 358 12))).toNat = _
  refine congrArg (mc A k + ·) ?_
  by_cases h : 0 < nl A k (A 358 12) <;> simp [h]
theorem mc_le (A : Nat → Nat → Nat) (k : Nat) : mc A k ≤ k := cnt_le _ _
theorem c_gatherNames {A X : Nat → Nat → Nat} {W : List Int64} {μ : MM} {Q : Int32 → MM → Prop} (hV : Inv A X) (h : Cs A X W μ)
    (hQ : ∀ μ', Cs A X W μ' → Sm (fun k _ => k = 164 ∨ k = 165 ∨ k = 166) μ μ' → Nl μ' 164 165 A (A 358 12) → (∀ j, j < mc A (A 358 3) → gI μ' 166 j = qN (mtf A (A 358 3) j)) → Q (qN (mc A (A 358 3))) μ') : G8_gatherNames μ Q := by
  have hn : A 358 12 < 97 := hV.b 358 12 (by unfold dom; decide)
  have hn3 : A 358 3 < 13 := hV.b 358 3 (by unfold dom; decide)
  have gc : ∀ k j : Nat, (k = 164 ∨ k = 165 ∨ k = 166) → cS k j := fun k j q => by unfold cS; omega
  refine Lp.up 12 (fun i x => x.1 = qN i ∧ Sm (fun k _ => k = 164 ∨ k = 165 ∨ k = 166) μ x.2 ∧ ∀ p, p < i → gI x.2 164 p = 0 ∧ gI x.2 165 p = 0) ?_ ⟨rfl, Sm.rfl', fun p hp => absurd hp (by omega)⟩
  rintro i K hi hK ⟨y, ν⟩ ⟨rfl, hs, hz⟩
  simp only at hs hz
  rcases Nat.lt_or_ge i 12 with hl | hl
  · simp (disch := omega) only [bo_q0, bo_q1, qN_le, qN_lt, qN_eq, qN_vp, qN_nat, qN_neg1, qN_neg, qN_nn, qN_lit, qN_add, qN_sub, qN_mul, qN_div, Bd_eq, reduceIte, Nat.add_sub_cancel, dm_l, Nat.zero_le, Nat.not_lt_zero, Nat.reduceEqDiff, Nat.reduceLT, Nat.reduceLeDiff, Nat.reduceAdd, Nat.reduceSub, Nat.reduceMul, Nat.reduceDiv, Nat.reduceMod, reduceCtorEq, true_implies, false_implies, not_true_eq_false, not_false_eq_true, true_and, and_true, implies_true, and_false, false_and, forall_const, true_or, or_true, false_or, or_false, G8_gatherNames_L2, Nat.not_le.mpr hl, hl]
    refine hK hl _ ⟨rfl, (hs.wI _ (Or.inl rfl)).wI _ (Or.inr (Or.inl rfl)), fun p hp => ?_⟩
    simp only [gI_I, gI_J, gI_R, gJ_I, gJ_J, gJ_R, gR_I, gR_J, gR_R, Nat.reduceEqDiff, false_and, reduceIte, true_and]
    by_cases q : p = i
    · rw [if_pos q, if_pos q]; exact ⟨rfl, rfl⟩
    · rw [if_neg q, if_neg q]; exact hz p (by omega)
  have e : i = 12 := by omega
  subst e
  simp (disch := omega) only [bo_q0, bo_q1, qN_le, qN_lt, qN_eq, qN_vp, qN_nat, qN_neg1, qN_neg, qN_nn, qN_lit, qN_add, qN_sub, qN_mul, qN_div, Bd_eq, reduceIte, Nat.add_sub_cancel, dm_l, Nat.zero_le, Nat.not_lt_zero, Nat.reduceEqDiff, Nat.reduceLT, Nat.reduceLeDiff, Nat.reduceAdd, Nat.reduceSub, Nat.reduceMul, Nat.reduceDiv, Nat.reduceMod, reduceCtorEq, true_implies, false_implies, not_true_eq_false, not_false_eq_true, true_and, and_true, implies_true, and_false, false_and, forall_const, true_or, or_true, false_or, or_false, G8_gatherNames_L2]
  clear hK K
  refine Lp.up (A 358 12) (fun i x => x.1 = qN i ∧ Sm (fun k _ => k = 164 ∨ k = 165 ∨ k = 166) μ x.2 ∧ Nl x.2 164 165 A i) ?_ ⟨rfl, hs, Nl_0 hz⟩
  clear hz hs
  rintro i K hi hK ⟨y, ν⟩ ⟨rfl, hs, hT⟩
  simp only at hs hT
  have hC := h.sm (hs.mo gc)
  have hB := hC.1
  rcases Nat.lt_or_ge i (A 358 12) with hl | hl
  · have hk := hK hl
    have hi9 : i < 96 := by omega
    have b2 : A 368 i < 12 := hV.b 368 i (by unfold dom; omega)
    have b3 : A 373 i < 2 := hV.b 373 i (by unfold dom; omega)
    have b4 : A 374 i < 2 := hV.b 374 i (by unfold dom; omega)
    have n164 : ∀ i : Nat, i < 96 → (19 + i = 164) = False := fun i _ => by simp only [eq_iff_iff, iff_false]; omega
    have n165 : ∀ i : Nat, i < 96 → (19 + i = 165) = False := fun i _ => by simp only [eq_iff_iff, iff_false]; omega
    simp (disch := omega) only [bo_q0, bo_q1, qN_le, qN_lt, qN_eq, qN_vp, qN_nat, qN_neg1, qN_neg, qN_nn, qN_lit, qN_add, qN_sub, qN_mul, qN_div, Bd_eq, reduceIte, Nat.add_sub_cancel, dm_l, Nat.zero_le, Nat.not_lt_zero, Nat.reduceEqDiff, Nat.reduceLT, Nat.reduceLeDiff, Nat.reduceAdd, Nat.reduceSub, Nat.reduceMul, Nat.reduceDiv, Nat.reduceMod, reduceCtorEq, true_implies, false_implies, not_true_eq_false, not_false_eq_true, true_and, and_true, implies_true, and_false, false_and, forall_const, true_or, or_true, false_or, or_false, G8_gatherNames_L30, Ca_s12 hB, Ca_373 hB, Ca_368 hB, Ca_374 hB, hi9, b2, Nat.not_le.mpr hl, gI_I, gI_J, gI_R, gJ_I, gJ_J, gJ_R, gR_I, gR_J, gR_R, n164, n165, G8_gatherNames_J93]
    have fin : ∀ r, A 374 i = r → ¬ A 373 i = 0 → K (qN (i + 1), sI (sI ν 164 (A 368 i) (gI ν 164 (A 368 i) + qN 1)) 165 (A 368 i) (gI ν 165 (A 368 i) + qN r)) := by
      intro r q1 q2
      subst q1
      refine hk _ ⟨rfl, (hs.wI _ (Or.inl rfl)).wI _ (Or.inr (Or.inl rfl)), fun k hk2 => ?_⟩
      simp only [gI_I, gI_J, gI_R, gJ_I, gJ_J, gJ_R, gR_I, gR_J, gR_R, Nat.reduceEqDiff, false_and, reduceIte, true_and]
      rw [nl_s, nr_s _ _ _ b4]
      by_cases q : k = A 368 i
      · rw [if_pos q, if_pos q, if_pos ⟨by omega, q.symm⟩, if_pos ⟨by omega, q.symm⟩, ← q, (hT k hk2).1, (hT k hk2).2, qN_add, qN_add]
        exact ⟨rfl, rfl⟩
      · rw [if_neg q, if_neg q, if_neg (fun r => q r.2.symm), if_neg (fun r => q r.2.symm)]
        exact hT k hk2
    refine ⟨fun q => hk _ ⟨rfl, hs, fun k hk2 => ?_⟩, fun q => ⟨fun q2 => ?_, fun q2 => ?_⟩⟩
    · rw [nl_s, nr_s _ _ _ b4, if_neg (by omega), if_neg (by omega)]
      exact hT k hk2
    · exact fin 0 q2 q
    · exact fin 1 (by omega) q
  have e : i = A 358 12 := by omega
  subst e
  simp (disch := omega) only [bo_q0, bo_q1, qN_le, qN_lt, qN_eq, qN_vp, qN_nat, qN_neg1, qN_neg, qN_nn, qN_lit, qN_add, qN_sub, qN_mul, qN_div, Bd_eq, reduceIte, Nat.add_sub_cancel, dm_l, Nat.zero_le, Nat.not_lt_zero, Nat.reduceEqDiff, Nat.reduceLT, Nat.reduceLeDiff, Nat.reduceAdd, Nat.reduceSub, Nat.reduceMul, Nat.reduceDiv, Nat.reduceMod, reduceCtorEq, true_implies, false_implies, not_true_eq_false, not_false_eq_true, true_and, and_true, implies_true, and_false, false_and, forall_const, true_or, or_true, false_or, or_false, G8_gatherNames_L30, Ca_s12 hB, Nat.le_refl]
  clear hK K hi hl
  refine Lp.up (A 358 3) (fun i x => x.1 = qN (mc A i) ∧ x.2.1 = qN i ∧ Sm (fun k _ => k = 166) ν x.2.2 ∧ ∀ j, j < mc A i → gI x.2.2 166 j = qN (mtf A i j)) ?_ ⟨rfl, rfl, Sm.rfl', fun j hj => absurd hj (by simp [mc, cnt])⟩
  rintro i K hi hK ⟨y1, y2, ν2⟩ ⟨rfl, rfl, hs2, hM⟩
  simp only at hs2 hM
  have hC2 := hC.sm (hs2.mo (fun k j q => gc k j (Or.inr (Or.inr q))))
  have hT2 : Nl ν2 164 165 A (A 358 12) := fun k hk => by
    rw [(hs2.1 164 k (by show ¬ 164 = 166; decide)).1, (hs2.1 165 k (by show ¬ 165 = 166; decide)).1]
    exact hT k hk
  have hmc := mc_le A i
  rcases Nat.lt_or_ge i (A 358 3) with hl | hl
  · have hk := hK hl
    have hi12 : i < 12 := by omega
    have hm12 : mc A i < 12 := by omega
    have e1 := (hT2 i hi12).1
    have b7 := nl_le A i (A 358 12)
    simp (disch := omega) only [bo_q0, bo_q1, qN_le, qN_lt, qN_eq, qN_vp, qN_nat, qN_neg1, qN_neg, qN_nn, qN_lit, qN_add, qN_sub, qN_mul, qN_div, Bd_eq, reduceIte, Nat.add_sub_cancel, dm_l, Nat.zero_le, Nat.not_lt_zero, Nat.reduceEqDiff, Nat.reduceLT, Nat.reduceLeDiff, Nat.reduceAdd, Nat.reduceSub, Nat.reduceMul, Nat.reduceDiv, Nat.reduceMod, reduceCtorEq, true_implies, false_implies, not_true_eq_false, not_false_eq_true, true_and, and_true, implies_true, and_false, false_and, forall_const, true_or, or_true, false_or, or_false, G8_gatherNames_L105, Ca_s3 hC2.1, e1, hi12, hm12, Nat.not_le.mpr hl]
    refine ⟨fun q => hk _ ⟨?_, rfl, hs2, ?_⟩, fun q => hk _ ⟨?_, rfl, hs2.wI _ rfl, fun j hj => ?_⟩⟩
    · rw [mc_s, if_neg (by omega)]; rfl
    · rw [mc_s, if_neg (by omega)]
      show ∀ j, j < mc A i → gI ν2 166 j = qN ((if 0 < nl A i (A 358 12) then _ else mtf A i) j)
      rw [if_neg (by omega)]
      exact hM
    · rw [mc_s, if_pos (by omega)]
    · rw [mc_s, if_pos (by omega)] at hj
      show gI (sI ν2 166 (mc A i) (qN i)) 166 j = qN ((if 0 < nl A i (A 358 12) then (fun j => if j = mc A i then i else mtf A i j) else mtf A i) j)
      rw [if_pos (by omega)]
      simp only [gI_I, gI_J, gI_R, gJ_I, gJ_J, gJ_R, gR_I, gR_J, gR_R, true_and]
      by_cases q3 : j = mc A i
      · rw [if_pos q3, if_pos q3]
      · rw [if_neg q3, if_neg q3]
        exact hM j (by omega)
  · have e : i = A 358 3 := by omega
    subst e
    simp (disch := omega) only [bo_q0, bo_q1, qN_le, qN_lt, qN_eq, qN_vp, qN_nat, qN_neg1, qN_neg, qN_nn, qN_lit, qN_add, qN_sub, qN_mul, qN_div, Bd_eq, reduceIte, Nat.add_sub_cancel, dm_l, Nat.zero_le, Nat.not_lt_zero, Nat.reduceEqDiff, Nat.reduceLT, Nat.reduceLeDiff, Nat.reduceAdd, Nat.reduceSub, Nat.reduceMul, Nat.reduceDiv, Nat.reduceMod, reduceCtorEq, true_implies, false_implies, not_true_eq_false, not_false_eq_true, true_and, and_true, implies_true, and_false, false_and, forall_const, true_or, or_true, false_or, or_false, G8_gatherNames_L105, Ca_s3 hC2.1, Nat.le_refl]
    exact hQ _ hC2 (hs.tr (hs2.mo (fun k j q => Or.inr (Or.inr q)))) hT2 hM
theorem m_countsNames {A X : Nat → Nat → Nat} {W : List Int64} {μ : MM} {Q : MM → Prop} (hV : Inv A X) (h : Ms A X W μ)
    (hQ : ∀ μ', Ms A X W μ' → Sm (fun k _ => k = 385 ∨ k = 386) μ μ' → Nl μ' 385 386 A (A 358 12) → Q μ') : G12_countsNames μ Q := by
  have hn : A 358 12 < 97 := hV.b 358 12 (by unfold dom; decide)
  have toM : ∀ k j : Nat, (k = 385 ∨ k = 386) → mS k j := fun k j q => by unfold mS; omega
  refine Lp.up 12 (fun i x => x.1 = qN i ∧ Sm (fun k _ => k = 385 ∨ k = 386) μ x.2 ∧ ∀ p, p < i → gI x.2 385 p = 0 ∧ gI x.2 386 p = 0) ?_ ⟨rfl, Sm.rfl', fun p hp => absurd hp (by omega)⟩
  rintro i K hi hK ⟨y, ν⟩ ⟨rfl, hs, hz⟩
  simp only at hs hz
  rcases Nat.lt_or_ge i 12 with hl | hl
  · simp (disch := omega) only [bo_q0, bo_q1, qN_le, qN_lt, qN_eq, qN_vp, qN_nat, qN_neg1, qN_neg, qN_nn, qN_lit, qN_add, qN_sub, qN_mul, qN_div, Bd_eq, reduceIte, Nat.add_sub_cancel, dm_l, Nat.zero_le, Nat.not_lt_zero, Nat.reduceEqDiff, Nat.reduceLT, Nat.reduceLeDiff, Nat.reduceAdd, Nat.reduceSub, Nat.reduceMul, Nat.reduceDiv, Nat.reduceMod, reduceCtorEq, true_implies, false_implies, not_true_eq_false, not_false_eq_true, true_and, and_true, implies_true, and_false, false_and, forall_const, true_or, or_true, false_or, or_false, G12_countsNames_L2, Nat.not_le.mpr hl, hl]
    refine hK hl _ ⟨rfl, (hs.wI _ (Or.inl rfl)).wI _ (Or.inr rfl), fun p hp => ?_⟩
    simp only [gI_I, gI_J, gI_R, gJ_I, gJ_J, gJ_R, gR_I, gR_J, gR_R, Nat.reduceEqDiff, false_and, reduceIte, true_and]
    by_cases q : p = i
    · rw [if_pos q, if_pos q]; exact ⟨rfl, rfl⟩
    · rw [if_neg q, if_neg q]; exact hz p (by omega)
  have e : i = 12 := by omega
  subst e
  simp (disch := omega) only [bo_q0, bo_q1, qN_le, qN_lt, qN_eq, qN_vp, qN_nat, qN_neg1, qN_neg, qN_nn, qN_lit, qN_add, qN_sub, qN_mul, qN_div, Bd_eq, reduceIte, Nat.add_sub_cancel, dm_l, Nat.zero_le, Nat.not_lt_zero, Nat.reduceEqDiff, Nat.reduceLT, Nat.reduceLeDiff, Nat.reduceAdd, Nat.reduceSub, Nat.reduceMul, Nat.reduceDiv, Nat.reduceMod, reduceCtorEq, true_implies, false_implies, not_true_eq_false, not_false_eq_true, true_and, and_true, implies_true, and_false, false_and, forall_const, true_or, or_true, false_or, or_false, G12_countsNames_L2]
  clear hK K
  refine Lp.up (A 358 12) (fun i x => x.1 = qN i ∧ Sm (fun k _ => k = 385 ∨ k = 386) μ x.2 ∧ Nl x.2 385 386 A i) ?_ ⟨rfl, hs, Nl_0 hz⟩
  clear hz hs
  rintro i K hi hK ⟨y, ν⟩ ⟨rfl, hs, hT⟩
  simp only at hs hT
  have hC := h.sm (mn378 hV) (hs.mo toM)
  have hB := hC.1
  rcases Nat.lt_or_ge i (A 358 12) with hl | hl
  · have hk := hK hl
    have hi9 : i < 96 := by omega
    have b2 : A 368 i < 12 := hV.b 368 i (by unfold dom; omega)
    have b3 : A 373 i < 2 := hV.b 373 i (by unfold dom; omega)
    have b4 : A 374 i < 2 := hV.b 374 i (by unfold dom; omega)
    have f1 : (1 : Nat) < 2 := by decide
    have f0 : (0 : Nat) < 2 := by decide
    simp (disch := omega) only [bo_q0, bo_q1, qN_le, qN_lt, qN_eq, qN_vp, qN_nat, qN_neg1, qN_neg, qN_nn, qN_lit, qN_add, qN_sub, qN_mul, qN_div, Bd_eq, reduceIte, Nat.add_sub_cancel, dm_l, Nat.zero_le, Nat.not_lt_zero, Nat.reduceEqDiff, Nat.reduceLT, Nat.reduceLeDiff, Nat.reduceAdd, Nat.reduceSub, Nat.reduceMul, Nat.reduceDiv, Nat.reduceMod, reduceCtorEq, true_implies, false_implies, not_true_eq_false, not_false_eq_true, true_and, and_true, implies_true, and_false, false_and, forall_const, true_or, or_true, false_or, or_false, G12_countsNames_L30, Ma_s12 hB, Ma_373 hB, Ma_368 hB, Ma_374 hB, hi9, b2, Nat.not_le.mpr hl, gI_I, gI_J, gI_R, gJ_I, gJ_J, gJ_R, gR_I, gR_J, gR_R, flag_q, G12_countsNames_J96, G12_countsNames_J95]
    have fin : ∀ a r, A 373 i = a → (if a = 1 then A 374 i else 0) = r → K (qN (i + 1), sI (sI ν 385 (A 368 i) (gI ν 385 (A 368 i) + qN a)) 386 (A 368 i) (gI ν 386 (A 368 i) + qN r)) := by
      intro a r q1 q2
      subst q1 q2
      refine hk _ ⟨rfl, (hs.wI _ (Or.inl rfl)).wI _ (Or.inr rfl), fun k hk2 => ?_⟩
      simp only [gI_I, gI_J, gI_R, gJ_I, gJ_J, gJ_R, gR_I, gR_J, gR_R, Nat.reduceEqDiff, false_and, reduceIte, true_and]
      rw [nl_s, nr_s _ _ _ b4]
      by_cases q : k = A 368 i
      · rw [if_pos q, if_pos q, ← q, (hT k hk2).1, (hT k hk2).2, qN_add, qN_add]
        rcases (show A 373 i = 0 ∨ A 373 i = 1 by omega) with r | r
        · rw [r]; simp
        · rw [r]; simp
      · rw [if_neg q, if_neg q, if_neg (fun r => q r.2.symm), if_neg (fun r => q r.2.symm)]
        exact hT k hk2
    refine ⟨fun q => ?_, fun q => ⟨fun q2 => ?_, fun q2 => ?_⟩⟩
    · exact fin _ 0 rfl (by rw [if_neg (by omega)])
    · exact fin _ 0 rfl (by rw [if_pos (by omega)]; exact q2)
    · exact fin _ 1 rfl (by rw [if_pos (by omega)]; omega)
  · have e : i = A 358 12 := by omega
    subst e
    simp (disch := omega) only [bo_q0, bo_q1, qN_le, qN_lt, qN_eq, qN_vp, qN_nat, qN_neg1, qN_neg, qN_nn, qN_lit, qN_add, qN_sub, qN_mul, qN_div, Bd_eq, reduceIte, Nat.add_sub_cancel, dm_l, Nat.zero_le, Nat.not_lt_zero, Nat.reduceEqDiff, Nat.reduceLT, Nat.reduceLeDiff, Nat.reduceAdd, Nat.reduceSub, Nat.reduceMul, Nat.reduceDiv, Nat.reduceMod, reduceCtorEq, true_implies, false_implies, not_true_eq_false, not_false_eq_true, true_and, and_true, implies_true, and_false, false_and, forall_const, true_or, or_true, false_or, or_false, G12_countsNames_L30, Ma_s12 hB, Nat.le_refl]
    exact hQ _ hC hs hT
/-- all read letters -/
def sA (A : Nat → Nat → Nat) (i : Nat) : Bool := decide (A 373 i = 1)
theorem c_gatherBy {A X : Nat → Nat → Nat} {W : List Int64} {μ : MM} {Q : MM → Prop} (hV : Inv A X) (h : Cs A X W μ) {w : Nat} (hw : w < 4)
    (hQ : ∀ μ', Cs A X W μ' → Sm (fun k _ => 203 ≤ k ∧ k < 237) μ μ' → Tl μ' 203 A (sA A) (A 358 12) → (∀ v, v < 10 → Tl μ' (207 + 3 * v) A (sB A w v) (A 358 12)) → Q μ') : G2_gatherBy (qN w) μ Q := by
  have hn : A 358 12 < 97 := hV.b 358 12 (by unfold dom; decide)
  have gc : ∀ k j : Nat, (203 ≤ k ∧ k < 237) → cS k j := fun k j q => by unfold cS; omega
  unfold G2_gatherBy
  refine c_tclear (fun μ1 f1 z1 => ?_)
  refine Lp.up 10 (fun i x => x.1 = qN i ∧ Sm (fun k _ => 203 ≤ k ∧ k < 237) μ x.2 ∧ (∀ p, p < 2 → gI x.2 204 p = 0 ∧ gI x.2 205 p = 0) ∧ ∀ v, v < i → ∀ p, p < 2 → gI x.2 (207 + 3 * v + 1) p = 0 ∧ gI x.2 (207 + 3 * v + 2) p = 0) ?_ ⟨rfl, f1.mo (fun k j q => by omega), z1, fun v hv => absurd hv (by omega)⟩
  rintro i K hi hK ⟨y, ν⟩ ⟨rfl, hs, hz, hz2⟩
  simp only at hs hz hz2
  rcases Nat.lt_or_ge i 10 with hl | hl
  · simp (disch := omega) only [bo_q0, bo_q1, qN_le, qN_lt, qN_eq, qN_vp, qN_nat, qN_neg1, qN_neg, qN_nn, qN_lit, qN_add, qN_sub, qN_mul, qN_div, Bd_eq, reduceIte, Nat.add_sub_cancel, dm_l, Nat.zero_le, Nat.not_lt_zero, Nat.reduceEqDiff, Nat.reduceLT, Nat.reduceLeDiff, Nat.reduceAdd, Nat.reduceSub, Nat.reduceMul, Nat.reduceDiv, Nat.reduceMod, reduceCtorEq, true_implies, false_implies, not_true_eq_false, not_false_eq_true, true_and, and_true, implies_true, and_false, false_and, forall_const, true_or, or_true, false_or, or_false, G2_gatherBy_L9, Nat.not_le.mpr hl, hl]
    refine c_tclear (fun μ2 f2 z2 => ?_)
    refine hK hl _ ⟨rfl, hs.tr (f2.mo (fun k j q => by omega)), fun p hp => ?_, fun v hv p hp => ?_⟩
    · rw [(f2.1 204 p (by omega)).1, (f2.1 205 p (by omega)).1]
      exact hz p hp
    · by_cases q : v = i
      · subst q; exact z2 p hp
      · rw [(f2.1 (207 + 3 * v + 1) p (by omega)).1, (f2.1 (207 + 3 * v + 2) p (by omega)).1]
        exact hz2 v (by omega) p hp
  have e : i = 10 := by omega
  subst e
  simp (disch := omega) only [bo_q0, bo_q1, qN_le, qN_lt, qN_eq, qN_vp, qN_nat, qN_neg1, qN_neg, qN_nn, qN_lit, qN_add, qN_sub, qN_mul, qN_div, Bd_eq, reduceIte, Nat.add_sub_cancel, dm_l, Nat.zero_le, Nat.not_lt_zero, Nat.reduceEqDiff, Nat.reduceLT, Nat.reduceLeDiff, Nat.reduceAdd, Nat.reduceSub, Nat.reduceMul, Nat.reduceDiv, Nat.reduceMod, reduceCtorEq, true_implies, false_implies, not_true_eq_false, not_false_eq_true, true_and, and_true, implies_true, and_false, false_and, forall_const, true_or, or_true, false_or, or_false, G2_gatherBy_L9]
  clear hK K
  refine Lp.up (A 358 12) (fun i x => x.1 = qN i ∧ Sm (fun k _ => 203 ≤ k ∧ k < 237) μ x.2 ∧ Tl x.2 203 A (sA A) i ∧ ∀ v, v < 10 → Tl x.2 (207 + 3 * v) A (sB A w v) i) ?_ ⟨rfl, hs, Tl_0 hz, fun v hv => Tl_0 (hz2 v hv)⟩
  clear hz hs hz2
  rintro i K hi hK ⟨y, ν⟩ ⟨rfl, hs, hT, hTv⟩
  simp only at hs hT hTv
  have hC := h.sm (hs.mo gc)
  have hB := hC.1
  rcases Nat.lt_or_ge i (A 358 12) with hl | hl
  · have hk := hK hl
    have hi9 : i < 96 := by omega
    have b2 : A 368 i < 12 := hV.b 368 i (by unfold dom; omega)
    have b3 : A 373 i < 2 := hV.b 373 i (by unfold dom; omega)
    have b4 : A 374 i < 2 := hV.b 374 i (by unfold dom; omega)
    have b5 : A 360 (A 368 i) < 2 := hV.b 360 (A 368 i) (by unfold dom; omega)
    have bw : byW A w i < 10 := byW_lt hV.b hi9
    simp (disch := omega) only [bo_q0, bo_q1, qN_le, qN_lt, qN_eq, qN_vp, qN_nat, qN_neg1, qN_neg, qN_nn, qN_lit, qN_add, qN_sub, qN_mul, qN_div, Bd_eq, reduceIte, Nat.add_sub_cancel, dm_l, Nat.zero_le, Nat.not_lt_zero, Nat.reduceEqDiff, Nat.reduceLT, Nat.reduceLeDiff, Nat.reduceAdd, Nat.reduceSub, Nat.reduceMul, Nat.reduceDiv, Nat.reduceMod, reduceCtorEq, true_implies, false_implies, not_true_eq_false, not_false_eq_true, true_and, and_true, implies_true, and_false, false_and, forall_const, true_or, or_true, false_or, or_false, G2_gatherBy_L32, Ca_s12 hB, Ca_373 hB, hi9, Nat.not_le.mpr hl, G10_peopleOf, Ca_368 hB, Ca_360 hB, Ca_374 hB, b2]
    refine ⟨fun q => hk _ ⟨rfl, hs, Tl_no hT (by unfold sA; simp [q]), fun v hv => Tl_no (hTv v hv) (by unfold sB; simp [q])⟩, fun q => ?_⟩
    have q3 : A 373 i = 1 := by omega
    refine c_note b5 b4 (fun ν2 f2 e2 => ?_)
    have f2' : Sm (fun k _ => 203 ≤ k ∧ k < 237) ν ν2 := f2.mo (fun k j q => by omega)
    have hC2 := hC.sm (f2'.mo gc)
    have hT2 : Tl ν2 203 A (sA A) (i + 1) := Tl_yes hT (by unfold sA; simp [q3]) b4 e2
    have hTv2 : ∀ v, v < 10 → Tl ν2 (207 + 3 * v) A (sB A w v) i := fun v hv p hp => by
      rw [(f2.1 (207 + 3 * v + 1) p (by omega)).1, (f2.1 (207 + 3 * v + 2) p (by omega)).1]
      exact hTv v hv p hp
    rw [c_valueOf hV.b hC2.1 hw hi9]
    simp (disch := omega) only [bo_q0, bo_q1, qN_le, qN_lt, qN_eq, qN_vp, qN_nat, qN_neg1, qN_neg, qN_nn, qN_lit, qN_add, qN_sub, qN_mul, qN_div, Bd_eq, reduceIte, Nat.add_sub_cancel, dm_l, Nat.zero_le, Nat.not_lt_zero, Nat.reduceEqDiff, Nat.reduceLT, Nat.reduceLeDiff, Nat.reduceAdd, Nat.reduceSub, Nat.reduceMul, Nat.reduceDiv, Nat.reduceMod, reduceCtorEq, true_implies, false_implies, not_true_eq_false, not_false_eq_true, true_and, and_true, implies_true, and_false, false_and, forall_const, true_or, or_true, false_or, or_false, bw, Ca_368 hC2.1, Ca_360 hC2.1, Ca_374 hC2.1, hi9, b2]
    refine c_note b5 b4 (fun ν3 f3 e3 => hk _ ⟨rfl, (hs.tr f2').tr (f3.mo (fun k j q => by omega)), fun p hp => ?_, fun v hv => ?_⟩)
    · rw [(f3.1 204 p (by omega)).1, (f3.1 205 p (by omega)).1]
      exact hT2 p hp
    · by_cases qv : v = byW A w i
      · subst qv
        exact Tl_yes (hTv2 _ hv) (by unfold sB; simp [q3]) b4 e3
      · refine Tl_no (fun p hp => ?_) (by unfold sB; simp [Ne.symm qv])
        rw [(f3.1 (207 + 3 * v + 1) p (by omega)).1, (f3.1 (207 + 3 * v + 2) p (by omega)).1]
        exact hTv2 v hv p hp
  · have e : i = A 358 12 := by omega
    subst e
    simp (disch := omega) only [bo_q0, bo_q1, qN_le, qN_lt, qN_eq, qN_vp, qN_nat, qN_neg1, qN_neg, qN_nn, qN_lit, qN_add, qN_sub, qN_mul, qN_div, Bd_eq, reduceIte, Nat.add_sub_cancel, dm_l, Nat.zero_le, Nat.not_lt_zero, Nat.reduceEqDiff, Nat.reduceLT, Nat.reduceLeDiff, Nat.reduceAdd, Nat.reduceSub, Nat.reduceMul, Nat.reduceDiv, Nat.reduceMod, reduceCtorEq, true_implies, false_implies, not_true_eq_false, not_false_eq_true, true_and, and_true, implies_true, and_false, false_and, forall_const, true_or, or_true, false_or, or_false, G2_gatherBy_L32, Ca_s12 hB, Nat.le_refl]
    exact hQ _ hC hs hT hTv
