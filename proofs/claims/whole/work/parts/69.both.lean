/-! both in the model -/
theorem tc_s (A : Nat → Nat → Nat) (S : Nat → Bool) (p n : Nat) : tc A S p (n + 1) = tc A S p n + (if S n = true ∧ zp A n = p then 1 else 0) := by
  show _ + (S n && decide (zp A n = p)).toNat = _
  refine congrArg (tc A S p n + ·) ?_
  by_cases h1 : S n = true <;> by_cases h2 : zp A n = p <;> simp [h1, h2]
theorem tr_s (A : Nat → Nat → Nat) (S : Nat → Bool) (p n : Nat) (hr : A 374 n < 2) : tr A S p (n + 1) = tr A S p n + (if S n = true ∧ zp A n = p then A 374 n else 0) := by
  show _ + (S n && decide (zp A n = p) && decide (A 374 n = 1)).toNat = _
  refine congrArg (tr A S p n + ·) ?_
  rcases (show A 374 n = 0 ∨ A 374 n = 1 by omega) with h3 | h3 <;> by_cases h1 : S n = true <;> by_cases h2 : zp A n = p <;> simp [h1, h2, h3]
def F4 (A : Nat → Nat → Nat) (v : Nat) (ν : MM) (n : Nat) : Prop := ∀ p, p < 2 → (gI ν 399 (2 * p) = qN (tc A (sW A v 99) p n) ∧ gI ν 400 (2 * p) = qN (tr A (sW A v 99) p n)) ∧ (gI ν 399 (2 * p + 1) = qN (tc A (sW A 0 (v - 1)) p n) ∧ gI ν 400 (2 * p + 1) = qN (tr A (sW A 0 (v - 1)) p n))
theorem F4_no {A : Nat → Nat → Nat} {v : Nat} {ν : MM} {n : Nat} (h : F4 A v ν n) (hr : A 374 n < 2) (hs : A 373 n ≠ 1) : F4 A v ν (n + 1) := fun p hp => by
  have e1 : sW A v 99 n = false := by unfold sW; simp [hs]
  have e2 : sW A 0 (v - 1) n = false := by unfold sW; simp [hs]
  rw [tc_s, tr_s _ _ _ _ hr, tc_s, tr_s _ _ _ _ hr, e1, e2]
  simpa using h p hp
theorem F4_yes {A : Nat → Nat → Nat} {v : Nat} {ν : MM} {n l : Nat} (h : F4 A v ν n) (hr : A 374 n < 2) (hs : A 373 n = 1) (hw : A 369 n < 100) (hv : 1 ≤ v) (hl : l = if A 369 n < v then 1 else 0) :
    F4 A v (sI (sI ν 399 (2 * zp A n + l) (gI ν 399 (2 * zp A n + l) + 1)) 400 (2 * zp A n + l) (gI ν 400 (2 * zp A n + l) + qN (A 374 n))) (n + 1) := fun p hp => by
  obtain ⟨⟨a1, a2⟩, a3, a4⟩ := h p hp
  have e1 : (sW A v 99 n = true) = (l = 0) := by
    unfold sW
    by_cases q : A 369 n < v
    · rw [hl, if_pos q]
      have : ¬ (v ≤ A 369 n ∧ A 369 n ≤ 99) := by omega
      simp [hs]; omega
    · rw [hl, if_neg q]
      simp [hs]; omega
  have e2 : (sW A 0 (v - 1) n = true) = (l = 1) := by
    unfold sW
    by_cases q : A 369 n < v
    · rw [hl, if_pos q]
      simp [hs]; omega
    · rw [hl, if_neg q]
      simp [hs]; omega
  have hl2 : l = 0 ∨ l = 1 := by rw [hl]; split <;> omega
  rw [tc_s, tr_s _ _ _ _ hr, tc_s, tr_s _ _ _ _ hr]
  simp only [e1, e2, gI_I, Nat.reduceEqDiff, false_and, reduceIte, true_and]
  have i1 : (2 * p = 2 * zp A n + l) = (l = 0 ∧ zp A n = p) := by simp only [eq_iff_iff]; omega
  have i2 : (2 * p + 1 = 2 * zp A n + l) = (l = 1 ∧ zp A n = p) := by simp only [eq_iff_iff]; omega
  simp only [i1, i2]
  refine ⟨⟨?_, ?_⟩, ?_, ?_⟩
  · by_cases q : l = 0 ∧ zp A n = p
    · rw [if_pos q, if_pos q, q.1, q.2, Nat.add_zero, a1, qN_lit 1, qN_add]
    · rw [if_neg q, if_neg q, a1]; rfl
  · by_cases q : l = 0 ∧ zp A n = p
    · rw [if_pos q, if_pos q, q.1, q.2, Nat.add_zero, a2, qN_add]
    · rw [if_neg q, if_neg q, a2]; rfl
  · by_cases q : l = 1 ∧ zp A n = p
    · rw [if_pos q, if_pos q, q.1, q.2, a3, qN_lit 1, qN_add]
    · rw [if_neg q, if_neg q, a3]; rfl
  · by_cases q : l = 1 ∧ zp A n = p
    · rw [if_pos q, if_pos q, q.1, q.2, a4, qN_add]
    · rw [if_neg q, if_neg q, a4]; rfl
def boL (A : Nat → Nat → Nat) (v : Nat) : Nat → List Int64
  | 0 => []
  | 1 => [qJ (tr A (sW A v 99) 0 (A 358 12) : Int)] ++ [qJ (tc A (sW A v 99) 0 (A 358 12) : Int)]
  | 2 => (([qJ (tr A (sW A v 99) 0 (A 358 12) : Int)] ++ [qJ (tc A (sW A v 99) 0 (A 358 12) : Int)]) ++ [qJ (tr A (sW A 0 (v - 1)) 0 (A 358 12) : Int)]) ++ [qJ (tc A (sW A 0 (v - 1)) 0 (A 358 12) : Int)]
  | 3 => (((([qJ (tr A (sW A v 99) 0 (A 358 12) : Int)] ++ [qJ (tc A (sW A v 99) 0 (A 358 12) : Int)]) ++ [qJ (tr A (sW A 0 (v - 1)) 0 (A 358 12) : Int)]) ++ [qJ (tc A (sW A 0 (v - 1)) 0 (A 358 12) : Int)]) ++ [qJ (tr A (sW A v 99) 1 (A 358 12) : Int)]) ++ [qJ (tc A (sW A v 99) 1 (A 358 12) : Int)]
  | _ => (((((([qJ (tr A (sW A v 99) 0 (A 358 12) : Int)] ++ [qJ (tc A (sW A v 99) 0 (A 358 12) : Int)]) ++ [qJ (tr A (sW A 0 (v - 1)) 0 (A 358 12) : Int)]) ++ [qJ (tc A (sW A 0 (v - 1)) 0 (A 358 12) : Int)]) ++ [qJ (tr A (sW A v 99) 1 (A 358 12) : Int)]) ++ [qJ (tc A (sW A v 99) 1 (A 358 12) : Int)]) ++ [qJ (tr A (sW A 0 (v - 1)) 1 (A 358 12) : Int)]) ++ [qJ (tc A (sW A 0 (v - 1)) 1 (A 358 12) : Int)]
theorem F4_J {A : Nat → Nat → Nat} {v : Nat} {ν : MM} (h : F4 A v ν (A 358 12)) (hn : A 358 12 < 97) {k : Nat} (hk : k < 4) : ∃ a b : Nat, a ≤ 96 ∧ b ≤ 96 ∧ gI ν 399 k = qN a ∧ gI ν 400 k = qN b ∧ boL A v (k + 1) = (boL A v k ++ [qJ (b : Int)]) ++ [qJ (a : Int)] ∧ (a = 0 → ¬ (asB A (sW A v 99) ∧ asB A (sW A 0 (v - 1)))) := by
  have c0 := fun S p => tc_le A S p (A 358 12)
  have c1 := fun S p => tr_le A S p (A 358 12)
  have d0 := c0 (sW A v 99) 0
  have d1 := c0 (sW A v 99) 1
  have d2 := c0 (sW A 0 (v - 1)) 0
  have d3 := c0 (sW A 0 (v - 1)) 1
  have g0 := c1 (sW A v 99) 0
  have g1 := c1 (sW A v 99) 1
  have g2 := c1 (sW A 0 (v - 1)) 0
  have g3 := c1 (sW A 0 (v - 1)) 1
  obtain ⟨⟨a1, a2⟩, a3, a4⟩ := h 0 (by decide)
  obtain ⟨⟨b1, b2⟩, b3, b4⟩ := h 1 (by decide)
  unfold asB
  rcases (show k = 0 ∨ k = 1 ∨ k = 2 ∨ k = 3 by omega) with rfl | rfl | rfl | rfl
  · exact ⟨_, _, by omega, by omega, a1, a2, rfl, fun q r => by omega⟩
  · exact ⟨_, _, by omega, by omega, a3, a4, rfl, fun q r => by omega⟩
  · exact ⟨_, _, by omega, by omega, b1, b2, rfl, fun q r => by omega⟩
  · exact ⟨_, _, by omega, by omega, b3, b4, rfl, fun q r => by omega⟩
theorem boX (A : Nat → Nat → Nat) (v : Nat) : boI A v = ((tr A (sW A v 99) 0 (A 358 12) : Int) * (tc A (sW A 0 (v - 1)) 0 (A 358 12) : Int) - (tr A (sW A 0 (v - 1)) 0 (A 358 12) : Int) * (tc A (sW A v 99) 0 (A 358 12) : Int)) * ((tc A (sW A v 99) 1 (A 358 12) : Int) * (tc A (sW A 0 (v - 1)) 1 (A 358 12) : Int)) -
    ((tr A (sW A v 99) 1 (A 358 12) : Int) * (tc A (sW A 0 (v - 1)) 1 (A 358 12) : Int) - (tr A (sW A 0 (v - 1)) 1 (A 358 12) : Int) * (tc A (sW A v 99) 1 (A 358 12) : Int)) * ((tc A (sW A v 99) 0 (A 358 12) : Int) * (tc A (sW A 0 (v - 1)) 0 (A 358 12) : Int)) := by
  unfold boI asU asL
  rw [Int.natCast_mul, Int.natCast_mul]
  generalize (tr A (sW A v 99) 0 (A 358 12) : Int) = a
  generalize (tr A (sW A v 99) 1 (A 358 12) : Int) = b
  generalize (tc A (sW A v 99) 0 (A 358 12) : Int) = c
  generalize (tc A (sW A v 99) 1 (A 358 12) : Int) = d
  generalize (tr A (sW A 0 (v - 1)) 0 (A 358 12) : Int) = e
  generalize (tr A (sW A 0 (v - 1)) 1 (A 358 12) : Int) = f
  generalize (tc A (sW A 0 (v - 1)) 0 (A 358 12) : Int) = g
  generalize (tc A (sW A 0 (v - 1)) 1 (A 358 12) : Int) = h
  grind

theorem m_both {A X : Nat → Nat → Nat} {W : List Int64} {μ : MM} {v1 : Int32} {Q : Int32 → MM → Prop} (hV : Inv A X) (h : Ms A X W μ)
    (hy : ∀ v, 1 ≤ v → v ≤ 99 → v1 = qN v → asB A (sW A v 99) → asB A (sW A 0 (v - 1)) → ∀ μ', Ms A X (boW A v) μ' → FM μ μ' → Q (boR (boI A v)) μ')
    (hz : ∀ v, 1 ≤ v → v ≤ 99 → v1 = qN v → ¬ (asB A (sW A v 99) ∧ asB A (sW A 0 (v - 1))) → ∀ μ', Ms A X W μ' → FM μ μ' → Q (-2) μ') (hn : ¬ (∃ k, 1 ≤ k ∧ k ≤ 99 ∧ v1 = qN k) → ∀ μ', Ms A X W μ' → FM μ μ' → Q (-1) μ') : G12_both v1 μ Q := by
  have hl : A 358 12 < 97 := hV.b 358 12 (by unfold dom; decide)
  have toM : ∀ k j : Nat, (k = 399 ∨ k = 400) → mS k j := fun k j q => by unfold mS; omega
  unfold G12_both
  rw [Bd_eq]
  have h0 := m_thr h 0
  have f0 := fm_thr μ 0
  revert h0 f0
  generalize sI μ 358 0 0 = μ0
  intro h0 f0
  refine in1_s 99 rfl (by decide) (fun q1 => ⟨fun _ => ?_, fun r => absurd r (by decide)⟩) (fun q1 => ⟨fun r => absurd rfl r, fun _ => hn q1 _ h0 f0⟩)
  obtain ⟨v, hv1, hv, rfl⟩ := q1
  refine Lp.up 4 (fun i x => x.1 = qN i ∧ Sm (fun k _ => k = 399 ∨ k = 400) μ0 x.2 ∧ ∀ p, p < i → gI x.2 399 p = 0 ∧ gI x.2 400 p = 0) ?_ ⟨rfl, Sm.rfl', fun p hp => absurd hp (by omega)⟩
  rintro i K hi hK ⟨y, ν⟩ ⟨rfl, hs, hz0⟩
  simp only at hs hz0
  rcases Nat.lt_or_ge i 4 with hl1 | hl1
  · simp (disch := omega) only [bo_q0, bo_q1, qN_le, qN_lt, qN_eq, qN_vp, qN_nat, qN_neg1, qN_neg, qN_nn, qN_lit, qN_add, qN_sub, qN_mul, qN_div, Bd_eq, reduceIte, Nat.add_sub_cancel, dm_l, Nat.zero_le, Nat.not_lt_zero, Nat.reduceEqDiff, Nat.reduceLT, Nat.reduceLeDiff, Nat.reduceAdd, Nat.reduceSub, Nat.reduceMul, Nat.reduceDiv, Nat.reduceMod, reduceCtorEq, true_implies, false_implies, not_true_eq_false, not_false_eq_true, true_and, and_true, implies_true, and_false, false_and, forall_const, true_or, or_true, false_or, or_false, G12_both_L32, Nat.not_le.mpr hl1, hl1]
    refine hK hl1 _ ⟨rfl, (hs.wI _ (Or.inl rfl)).wI _ (Or.inr rfl), fun p hp => ?_⟩
    simp only [gI_I, gI_J, gI_R, gJ_I, gJ_J, gJ_R, gR_I, gR_J, gR_R, Nat.reduceEqDiff, false_and, reduceIte, true_and]
    by_cases q : p = i
    · rw [if_pos q, if_pos q]; exact ⟨rfl, rfl⟩
    · rw [if_neg q, if_neg q]; exact hz0 p (by omega)
  have e : i = 4 := by omega
  subst e
  simp (disch := omega) only [bo_q0, bo_q1, qN_le, qN_lt, qN_eq, qN_vp, qN_nat, qN_neg1, qN_neg, qN_nn, qN_lit, qN_add, qN_sub, qN_mul, qN_div, Bd_eq, reduceIte, Nat.add_sub_cancel, dm_l, Nat.zero_le, Nat.not_lt_zero, Nat.reduceEqDiff, Nat.reduceLT, Nat.reduceLeDiff, Nat.reduceAdd, Nat.reduceSub, Nat.reduceMul, Nat.reduceDiv, Nat.reduceMod, reduceCtorEq, true_implies, false_implies, not_true_eq_false, not_false_eq_true, true_and, and_true, implies_true, and_false, false_and, forall_const, true_or, or_true, false_or, or_false, G12_both_L32]
  clear hK K
  refine Lp.up (A 358 12) (fun i x => x.1 = qN i ∧ Sm (fun k _ => k = 399 ∨ k = 400) μ0 x.2 ∧ F4 A v x.2 i) ?_ ⟨rfl, hs, fun p hp => ⟨hz0 (2 * p) (by omega), hz0 (2 * p + 1) (by omega)⟩⟩
  clear hz0 hs
  rintro i K hi hK ⟨y, ν⟩ ⟨rfl, hs, hT⟩
  simp only at hs hT
  have hC := h0.sm (mn378 hV) (hs.mo toM)
  have hB := hC.1
  rcases Nat.lt_or_ge i (A 358 12) with hl1 | hl1
  · have hk := hK hl1
    have hi9 : i < 96 := by omega
    have b2 : A 368 i < 12 := hV.b 368 i (by unfold dom; omega)
    have b3 : A 373 i < 2 := hV.b 373 i (by unfold dom; omega)
    have b4 : A 374 i < 2 := hV.b 374 i (by unfold dom; omega)
    have b5 : A 360 (A 368 i) < 2 := hV.b 360 (A 368 i) (by unfold dom; omega)
    have b6 : A 369 i < 100 := hV.b 369 i (by unfold dom; omega)
    have z1 : (1 : Nat) < 2 := by decide
    have z0 : (0 : Nat) < 2 := by decide
    have z4 : 2 * A 360 (A 368 i) + 0 < 4 := by omega
    have z5 : 2 * A 360 (A 368 i) + 1 < 4 := by omega
    simp (disch := omega) only [bo_q0, bo_q1, qN_le, qN_lt, qN_eq, qN_vp, qN_nat, qN_neg1, qN_neg, qN_nn, qN_lit, qN_add, qN_sub, qN_mul, qN_div, Bd_eq, reduceIte, Nat.add_sub_cancel, dm_l, Nat.zero_le, Nat.not_lt_zero, Nat.reduceEqDiff, Nat.reduceLT, Nat.reduceLeDiff, Nat.reduceAdd, Nat.reduceSub, Nat.reduceMul, Nat.reduceDiv, Nat.reduceMod, reduceCtorEq, true_implies, false_implies, not_true_eq_false, not_false_eq_true, true_and, and_true, implies_true, and_false, false_and, forall_const, true_or, or_true, false_or, or_false, G12_both_L57, Ma_s12 hB, Ma_373 hB, Ma_369 hB, hi9, Nat.not_le.mpr hl1, G12_peopleOf, Ma_368 hB, Ma_360 hB, Ma_374 hB, b2, flag_q, gI_I, gI_J, gI_R, gJ_I, gJ_J, gJ_R, gR_I, gR_J, gR_R, G12_both_J100, z4, z5]
    refine ⟨fun q => hk _ ⟨rfl, hs, F4_no hT b4 (by omega)⟩, fun q => ⟨fun q2 => ?_, fun q2 => ?_⟩⟩
    · exact hk _ ⟨rfl, (hs.wI _ (Or.inl rfl)).wI _ (Or.inr rfl), F4_yes hT b4 (by omega) b6 hv1 (by rw [if_neg (by omega)])⟩
    · exact hk _ ⟨rfl, (hs.wI _ (Or.inl rfl)).wI _ (Or.inr rfl), F4_yes hT b4 (by omega) b6 hv1 (by rw [if_pos (by omega)])⟩
  have e : i = A 358 12 := by omega
  subst e
  simp (disch := omega) only [bo_q0, bo_q1, qN_le, qN_lt, qN_eq, qN_vp, qN_nat, qN_neg1, qN_neg, qN_nn, qN_lit, qN_add, qN_sub, qN_mul, qN_div, Bd_eq, reduceIte, Nat.add_sub_cancel, dm_l, Nat.zero_le, Nat.not_lt_zero, Nat.reduceEqDiff, Nat.reduceLT, Nat.reduceLeDiff, Nat.reduceAdd, Nat.reduceSub, Nat.reduceMul, Nat.reduceDiv, Nat.reduceMod, reduceCtorEq, true_implies, false_implies, not_true_eq_false, not_false_eq_true, true_and, and_true, implies_true, and_false, false_and, forall_const, true_or, or_true, false_or, or_false, G12_both_L57, Ma_s12 hB, Nat.le_refl]
  clear hK K
  have fm : FM μ ν := f0.tr (FM_mS (hs.mo toM))
  have hZ : ∀ {a : Nat} (q : a = 0 → ¬ (asB A (sW A v 99) ∧ asB A (sW A 0 (v - 1)))), a = 0 → Q (-2) ν := fun q r => hz v hv1 hv rfl (q r) _ hC fm
  refine Lp.up 4 (fun i x => x = (qN i, ν) ∧ ∀ k, k < i → gI ν 399 k ≠ qN 0) ?_ ⟨rfl, fun k hk => absurd hk (by omega)⟩
  rintro i K hi hK _ ⟨rfl, hnz⟩
  rcases Nat.lt_or_ge i 4 with hl2 | hl2
  · obtain ⟨a, b, ha, hb, e1, e2, e3, e4⟩ := F4_J hT hl hl2
    simp (disch := omega) only [bo_q0, bo_q1, qN_le, qN_lt, qN_eq, qN_vp, qN_nat, qN_neg1, qN_neg, qN_nn, qN_lit, qN_add, qN_sub, qN_mul, qN_div, Bd_eq, reduceIte, Nat.add_sub_cancel, dm_l, Nat.zero_le, Nat.not_lt_zero, Nat.reduceEqDiff, Nat.reduceLT, Nat.reduceLeDiff, Nat.reduceAdd, Nat.reduceSub, Nat.reduceMul, Nat.reduceDiv, Nat.reduceMod, reduceCtorEq, true_implies, false_implies, not_true_eq_false, not_false_eq_true, true_and, and_true, implies_true, and_false, false_and, forall_const, true_or, or_true, false_or, or_false, G12_both_L140, Nat.not_le.mpr hl2, hl2, e1]
    refine ⟨fun q => hK hl2 _ ⟨rfl, fun k hk => ?_⟩, fun q => hZ e4 q⟩
    by_cases r : k = i
    · rw [r, e1]
      intro s
      rw [qN_eq (by omega) (by decide)] at s
      exact q s
    · exact hnz k (by omega)
  have e : i = 4 := by omega
  subst e
  obtain ⟨a0, b0, ha0, hb0, p0, r0, x0, y0⟩ := F4_J hT hl (show 0 < 4 by decide)
  obtain ⟨a1, b1, ha1, hb1, p1, r1, x1, y1⟩ := F4_J hT hl (show 1 < 4 by decide)
  obtain ⟨a2, b2, ha2, hb2, p2, r2, x2, y2⟩ := F4_J hT hl (show 2 < 4 by decide)
  obtain ⟨a3, b3, ha3, hb3, p3, r3, x3, y3⟩ := F4_J hT hl (show 3 < 4 by decide)
  have c0 := fun S p => tc_le A S p (A 358 12)
  have c1 := fun S p => tr_le A S p (A 358 12)
  have d0 := c0 (sW A v 99) 0
  have d1 := c0 (sW A v 99) 1
  have d2 := c0 (sW A 0 (v - 1)) 0
  have d3 := c0 (sW A 0 (v - 1)) 1
  have g0 := c1 (sW A v 99) 0
  have g1 := c1 (sW A v 99) 1
  have g2 := c1 (sW A 0 (v - 1)) 0
  have g3 := c1 (sW A 0 (v - 1)) 1
  have ha0' : a0 = tc A (sW A v 99) 0 (A 358 12) := by have := (hT 0 (by decide)).1.1; rw [show 2 * 0 = 0 from rfl, p0, qN_eq (by omega) (by omega)] at this; exact this
  have ha1' : a1 = tc A (sW A 0 (v - 1)) 0 (A 358 12) := by have := (hT 0 (by decide)).2.1; rw [show 2 * 0 + 1 = 1 from rfl, p1, qN_eq (by omega) (by omega)] at this; exact this
  have ha2' : a2 = tc A (sW A v 99) 1 (A 358 12) := by have := (hT 1 (by decide)).1.1; rw [show 2 * 1 = 2 from rfl, p2, qN_eq (by omega) (by omega)] at this; exact this
  have ha3' : a3 = tc A (sW A 0 (v - 1)) 1 (A 358 12) := by have := (hT 1 (by decide)).2.1; rw [show 2 * 1 + 1 = 3 from rfl, p3, qN_eq (by omega) (by omega)] at this; exact this
  have hb0' : b0 = tr A (sW A v 99) 0 (A 358 12) := by have := (hT 0 (by decide)).1.2; rw [show 2 * 0 = 0 from rfl, r0, qN_eq (by omega) (by omega)] at this; exact this
  have hb1' : b1 = tr A (sW A 0 (v - 1)) 0 (A 358 12) := by have := (hT 0 (by decide)).2.2; rw [show 2 * 0 + 1 = 1 from rfl, r1, qN_eq (by omega) (by omega)] at this; exact this
  have hb2' : b2 = tr A (sW A v 99) 1 (A 358 12) := by have := (hT 1 (by decide)).1.2; rw [show 2 * 1 = 2 from rfl, r2, qN_eq (by omega) (by omega)] at this; exact this
  have hb3' : b3 = tr A (sW A 0 (v - 1)) 1 (A 358 12) := by have := (hT 1 (by decide)).2.2; rw [show 2 * 1 + 1 = 3 from rfl, r3, qN_eq (by omega) (by omega)] at this; exact this
  have n0 : 0 < a0 := by rcases Nat.eq_zero_or_pos a0 with q | q; exact absurd (q ▸ p0) (hnz 0 (by decide)); exact q
  have n1 : 0 < a1 := by rcases Nat.eq_zero_or_pos a1 with q | q; exact absurd (q ▸ p1) (hnz 1 (by decide)); exact q
  have n2 : 0 < a2 := by rcases Nat.eq_zero_or_pos a2 with q | q; exact absurd (q ▸ p2) (hnz 2 (by decide)); exact q
  have n3 : 0 < a3 := by rcases Nat.eq_zero_or_pos a3 with q | q; exact absurd (q ▸ p3) (hnz 3 (by decide)); exact q
  have ib := boI_b (A := A) (v := v) hl
  have ix := boX A v
  rw [← ha0', ← ha1', ← ha2', ← ha3', ← hb0', ← hb1', ← hb2', ← hb3'] at ix
  have qy := hy v hv1 hv rfl ⟨by omega, by omega⟩ ⟨by omega, by omega⟩
  have eW : boW A v = boL A v 4 ++ frc (boI A v) (asL A (sW A v 99) * asL A (sW A 0 (v - 1))) := rfl
  have eL : asL A (sW A v 99) * asL A (sW A 0 (v - 1)) = (a0 * a1) * (a2 * a3) := by
    unfold asL
    rw [← ha0', ← ha1', ← ha2', ← ha3']
    exact Nat.mul_mul_mul_comm a0 a2 a1 a3
  rw [eW, eL] at qy
  have m1 := mulb ha0 ha1
  have m2 := mulb ha2 ha3
  have m3 := mulb m1 m2
  have m4 : 0 < (a0 * a1) * (a2 * a3) := Nat.mul_pos (Nat.mul_pos n0 n1) (Nat.mul_pos n2 n3)
  simp (disch := omega) only [bo_q0, bo_q1, qN_le, qN_lt, qN_eq, qN_vp, qN_nat, qN_neg1, qN_neg, qN_nn, qN_lit, qN_add, qN_sub, qN_mul, qN_div, Bd_eq, reduceIte, Nat.add_sub_cancel, dm_l, Nat.zero_le, Nat.not_lt_zero, Nat.reduceEqDiff, Nat.reduceLT, Nat.reduceLeDiff, Nat.reduceAdd, Nat.reduceSub, Nat.reduceMul, Nat.reduceDiv, Nat.reduceMod, reduceCtorEq, true_implies, false_implies, not_true_eq_false, not_false_eq_true, true_and, and_true, implies_true, and_false, false_and, forall_const, true_or, or_true, false_or, or_false, G12_both_L140, p0, p1, p2, p3, r0, r1, r2, r3, qN_J, qJ_mul, qJ_sub]
  rw [← ix, ← Int.natCast_mul, ← Int.natCast_mul]
  obtain ⟨h2, f2⟩ := m_rc hC
  have hT2 : F4 A v (sI ν 358 1 (qN 0)) (A 358 12) := hT
  have h2' : Ms A X (boL A v 0) (sI ν 358 1 (qN 0)) := h2
  refine Lp.up 4 (fun i x => x.1 = qN i ∧ Ms A X (boL A v i) x.2 ∧ FM μ x.2 ∧ F4 A v x.2 (A 358 12)) ?_ ⟨rfl, h2', fm.tr (FM_row f2), hT2⟩
  rintro i K hi hK ⟨y, ν2⟩ ⟨rfl, hC2, hf2, hU⟩
  simp only at hC2 hf2 hU
  rcases Nat.lt_or_ge i 4 with hl3 | hl3
  · obtain ⟨a, b, ha, hb, e1, e2, e3, e4⟩ := F4_J hU hl hl3
    have len : (boL A v i).length = 2 * i := by rcases (show i = 0 ∨ i = 1 ∨ i = 2 ∨ i = 3 by omega) with rfl | rfl | rfl | rfl <;> rfl
    have t5 : ∀ ν', Sm (fun k j => (k = 358 ∧ j = 1) ∨ k = 359) ν2 ν' → F4 A v ν' (A 358 12) := fun ν' f p hp => by
      rw [(f.1 399 (2 * p) (by omega)).1, (f.1 400 (2 * p) (by omega)).1, (f.1 399 (2 * p + 1) (by omega)).1, (f.1 400 (2 * p + 1) (by omega)).1]
      exact hU p hp
    simp (disch := omega) only [bo_q0, bo_q1, qN_le, qN_lt, qN_eq, qN_vp, qN_nat, qN_neg1, qN_neg, qN_nn, qN_lit, qN_add, qN_sub, qN_mul, qN_div, Bd_eq, reduceIte, Nat.add_sub_cancel, dm_l, Nat.zero_le, Nat.not_lt_zero, Nat.reduceEqDiff, Nat.reduceLT, Nat.reduceLeDiff, Nat.reduceAdd, Nat.reduceSub, Nat.reduceMul, Nat.reduceDiv, Nat.reduceMod, reduceCtorEq, true_implies, false_implies, not_true_eq_false, not_false_eq_true, true_and, and_true, implies_true, and_false, false_and, forall_const, true_or, or_true, false_or, or_false, G12_both_L247, Nat.not_le.mpr hl3, hl3, e2, qN_J]
    refine m_radd hC2 (by omega) (fun ν3 g1 k1 => ?_)
    rw [(k1.1 399 i (by omega)).1, e1, qN_J (by omega)]
    refine m_radd g1 (by rw [List.length_append, List.length_singleton]; omega) (fun ν4 g2 k2 => hK hl3 _ ⟨rfl, ?_, (hf2.tr (FM_row k1)).tr (FM_row k2), t5 _ (k1.tr k2)⟩)
    rw [e3]
    exact g2
  · have e : i = 4 := by omega
    subst e
    simp (disch := omega) only [bo_q0, bo_q1, qN_le, qN_lt, qN_eq, qN_vp, qN_nat, qN_neg1, qN_neg, qN_nn, qN_lit, qN_add, qN_sub, qN_mul, qN_div, Bd_eq, reduceIte, Nat.add_sub_cancel, dm_l, Nat.zero_le, Nat.not_lt_zero, Nat.reduceEqDiff, Nat.reduceLT, Nat.reduceLeDiff, Nat.reduceAdd, Nat.reduceSub, Nat.reduceMul, Nat.reduceDiv, Nat.reduceMod, reduceCtorEq, true_implies, false_implies, not_true_eq_false, not_false_eq_true, true_and, and_true, implies_true, and_false, false_and, forall_const, true_or, or_true, false_or, or_false, G12_both_L247, qJ_mul]
    rw [← Int.natCast_mul]
    refine m_rfrac hC2 (show (8 : Nat) < 9 by decide) ⟨by omega, by omega⟩ m4 (by omega) (fun μ4 h4 f4 => ?_)
    exact boR_s ib.1 ib.2 (qy _ h4 (hf2.tr (FM_row f4)))
