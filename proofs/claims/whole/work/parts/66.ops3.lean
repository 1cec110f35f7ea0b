/-! names, table, aside, bounds, mornings, years -/
theorem m_rc {A X : Nat → Nat → Nat} {W : List Int64} {μ : MM} (h : Ms A X W μ) : Ms A X [] (sI μ 358 1 (qN 0)) ∧ Sm (fun k j => (k = 358 ∧ j = 1) ∨ k = 359) μ (sI μ 358 1 (qN 0)) := by
  have f : Sm (fun k j => (k = 358 ∧ j = 1) ∨ k = 359) μ (sI μ 358 1 (qN 0)) := Sm.rfl'.wI _ (Or.inl ⟨rfl, rfl⟩)
  exact ⟨h.row f rfl (fun i hi => absurd hi (by simp)), f⟩

def nmW (A : Nat → Nat → Nat) (a : Nat) : List Int64 := if 0 < nl A a (A 358 12) then frc ((nr A a (A 358 12) : Nat) : Int) (nl A a (A 358 12)) else []
theorem c_names {A X : Nat → Nat → Nat} {W : List Int64} {μ : MM} {v1 : Int32} {Q : Int32 → MM → Prop} (hV : Inv A X) (h : Cs A X W μ)
    (hy : ∀ a, a < A 358 3 → v1 = qN a → ∀ μ', Cs A X (nmW A a) μ' → FC μ μ' → Q (qN (nl A a (A 358 12))) μ') (hn : ¬ inr v1 (A 358 3) → Q (-1) μ) : G11_names v1 μ Q := by
  have hl : A 358 12 < 97 := hV.b 358 12 (by unfold dom; decide)
  have hN : A 358 3 < 13 := hV.b 358 3 (by unfold dom; decide)
  unfold G11_names G8_tellName
  refine c_isName h.1 (by omega) (fun q => ⟨fun _ => ?_, fun r => absurd r (by decide)⟩) (fun q => ⟨fun r => absurd rfl r, fun _ => hn q⟩)
  obtain ⟨a, ha, rfl⟩ := q
  have ha12 : a < 12 := by omega
  refine c_gatherNames hV h (fun μ1 h1 f1 hT hM => ?_)
  refine c_rclear h1 (fun μ2 h2 f2 => ?_)
  have e1 : gI μ2 164 a = qN (nl A a (A 358 12)) := (f2.1 164 a (by show ¬ (164 = 151 ∨ 164 = 152); decide)).1.trans (hT a ha12).1
  have e2 : gI μ2 165 a = qN (nr A a (A 358 12)) := (f2.1 165 a (by show ¬ (165 = 151 ∨ 165 = 152); decide)).1.trans (hT a ha12).2
  have b1 := nl_le A a (A 358 12)
  have b2 := nr_le A a (A 358 12)
  have fc : FC μ μ2 := (FC_cS (f1.mo (fun k j q => by unfold cS; omega))).tr (FC_row f2)
  have hW := hy a ha rfl
  unfold nmW at hW
  simp (disch := omega) only [bo_q0, bo_q1, qN_le, qN_lt, qN_eq, qN_vp, qN_nat, qN_neg1, qN_neg, qN_nn, qN_lit, qN_add, qN_sub, qN_mul, qN_div, Bd_eq, reduceIte, Nat.add_sub_cancel, dm_l, Nat.zero_le, Nat.not_lt_zero, Nat.reduceEqDiff, Nat.reduceLT, Nat.reduceLeDiff, Nat.reduceAdd, Nat.reduceSub, Nat.reduceMul, Nat.reduceDiv, Nat.reduceMod, reduceCtorEq, true_implies, false_implies, not_true_eq_false, not_false_eq_true, true_and, and_true, implies_true, and_false, false_and, forall_const, true_or, or_true, false_or, or_false, e1, e2, ha12, qN_J]
  refine ⟨fun r => hW _ (by rw [if_neg (by omega)]; exact h2) fc, fun r => ?_⟩
  refine c_rfrac h2 (by decide) ⟨by omega, by omega⟩ (by omega) (by omega) (fun μ3 h3 f3 => ?_)
  have e3 : gI μ3 164 a = qN (nl A a (A 358 12)) := (f3.1 164 a (by show ¬ (164 = 151 ∨ 164 = 152); decide)).1.trans e1
  rw [e3]
  exact hW _ (by rw [if_pos (by omega)]; exact h3) (fc.tr (FC_row f3))
theorem m_names {A X : Nat → Nat → Nat} {W : List Int64} {μ : MM} {v1 : Int32} {Q : Int32 → MM → Prop} (hV : Inv A X) (h : Ms A X W μ)
    (hy : ∀ a, a < A 358 3 → v1 = qN a → ∀ μ', Ms A X (nmW A a) μ' → FM μ μ' → Q (qN (nl A a (A 358 12))) μ') (hn : ¬ inr v1 (A 358 3) → ∀ μ', Ms A X W μ' → FM μ μ' → Q (-1) μ') : G12_names v1 μ Q := by
  have hl : A 358 12 < 97 := hV.b 358 12 (by unfold dom; decide)
  have hN : A 358 3 < 13 := hV.b 358 3 (by unfold dom; decide)
  unfold G12_names
  rw [Bd_eq]
  have h0 := m_thr h 0
  have f0 := fm_thr μ 0
  revert h0 f0
  generalize sI μ 358 0 0 = μ0
  intro h0 f0
  refine m_isName h0.1 (by omega) (fun q => ⟨fun _ => ?_, fun r => absurd r (by decide)⟩) (fun q => ⟨fun r => absurd rfl r, fun _ => hn q _ h0 f0⟩)
  obtain ⟨a, ha, rfl⟩ := q
  have ha12 : a < 12 := by omega
  refine m_countsNames hV h0 (fun μ1 h1 f1 hT => ?_)
  refine m_rclear h1 (fun μ2 h2 f2 => ?_)
  have e1 : gI μ2 385 a = qN (nl A a (A 358 12)) := (f2.1 385 a (by omega)).1.trans (hT a ha12).1
  have e2 : gI μ2 386 a = qN (nr A a (A 358 12)) := (f2.1 386 a (by omega)).1.trans (hT a ha12).2
  have b1 := nl_le A a (A 358 12)
  have b2 := nr_le A a (A 358 12)
  have fc : FM μ μ2 := (f0.tr (FM_mS (f1.mo (fun k j q => by unfold mS; omega)))).tr (FM_row f2)
  have hW := hy a ha rfl
  unfold nmW at hW
  simp (disch := omega) only [bo_q0, bo_q1, qN_le, qN_lt, qN_eq, qN_vp, qN_nat, qN_neg1, qN_neg, qN_nn, qN_lit, qN_add, qN_sub, qN_mul, qN_div, Bd_eq, reduceIte, Nat.add_sub_cancel, dm_l, Nat.zero_le, Nat.not_lt_zero, Nat.reduceEqDiff, Nat.reduceLT, Nat.reduceLeDiff, Nat.reduceAdd, Nat.reduceSub, Nat.reduceMul, Nat.reduceDiv, Nat.reduceMod, reduceCtorEq, true_implies, false_implies, not_true_eq_false, not_false_eq_true, true_and, and_true, implies_true, and_false, false_and, forall_const, true_or, or_true, false_or, or_false, e1, e2, ha12, qN_J]
  refine ⟨fun r => hW _ (by rw [if_neg (by omega)]; exact h2) fc, fun r => ?_⟩
  refine m_rfrac h2 (by decide) ⟨by omega, by omega⟩ (by omega) (by omega) (fun μ3 h3 f3 => ?_)
  have e3 : gI μ3 385 a = qN (nl A a (A 358 12)) := (f3.1 385 a (by omega)).1.trans e1
  rw [e3]
  exact hW _ (by rw [if_pos (by omega)]; exact h3) (fc.tr (FM_row f3))

def tbH (A : Nat → Nat → Nat) (a b h : Nat) : Bool := decide (0 < hR A h) && decide (tr A (sH A h) 0 (A 358 12) = a) && decide (tr A (sH A h) 1 (A 358 12) = b)
theorem Inv.rr {A X : Nat → Nat → Nat} (h : Inv A X) : ∀ i, i < 96 → A 374 i = 1 → A 373 i = 1 := fun i hi => (h.2.2.1 i hi).1
theorem c_table {A X : Nat → Nat → Nat} {W : List Int64} {μ : MM} {v1 v2 : Int32} {Q : Int32 → MM → Prop} (hV : Inv A X) (h : Cs A X W μ)
    (hy : ∀ a b, a < 5 → b < 5 → v1 = qN a → v2 = qN b → Q (qN (cnt (tbH A a b) (A 358 8))) μ) (hn : ¬ (inr v1 5 ∧ inr v2 5) → Q (-1) μ) : G11_table v1 v2 μ Q := by
  have hl : A 358 12 < 97 := hV.b 358 12 (by unfold dom; decide)
  have hH : A 358 8 < 25 := hV.b 358 8 (by unfold dom; decide)
  have hA := h.1
  unfold G11_table G4_housesWith
  refine within0_s 4 rfl (by decide) (fun q1 => ⟨fun r => absurd r (by decide), fun _ => ?_⟩) (fun q1 => ⟨fun _ => hn (fun r => q1 r.1), fun r => absurd rfl r⟩)
  refine within0_s 4 rfl (by decide) (fun q2 => ⟨fun _ => ?_, fun r => absurd r (by decide)⟩) (fun q2 => ⟨fun r => absurd rfl r, fun _ => hn (fun r => q2 r.2)⟩)
  obtain ⟨a, ha, rfl⟩ := q1
  obtain ⟨b, hb, rfl⟩ := q2
  refine Lp.upE (A 358 8) (fun i => (qN (cnt (tbH A a b) i), qN i, μ)) ?_
  intro i K hi hK
  rcases Nat.lt_or_ge i (A 358 8) with hl1 | hl1
  · have hk := hK hl1
    have hi9 : i < 24 := by omega
    have t0 := Nat.le_trans (tr_le A (sH A i) 0 (A 358 12)) (tc_le A (sH A i) 0 (A 358 12))
    have t1 := Nat.le_trans (tr_le A (sH A i) 1 (A 358 12)) (tc_le A (sH A i) 1 (A 358 12))
    have hz : ∀ q : Bool, tbH A a b i = q → K (qN (cnt (tbH A a b) i + q.toNat), qN (i + 1), μ) := fun q e => by
      subst e; exact hk
    unfold tbH at hz
    simp (disch := omega) only [bo_q0, bo_q1, qN_le, qN_lt, qN_eq, qN_vp, qN_nat, qN_neg1, qN_neg, qN_nn, qN_lit, qN_add, qN_sub, qN_mul, qN_div, Bd_eq, reduceIte, Nat.add_sub_cancel, dm_l, Nat.zero_le, Nat.not_lt_zero, Nat.reduceEqDiff, Nat.reduceLT, Nat.reduceLeDiff, Nat.reduceAdd, Nat.reduceSub, Nat.reduceMul, Nat.reduceDiv, Nat.reduceMod, reduceCtorEq, true_implies, false_implies, not_true_eq_false, not_false_eq_true, true_and, and_true, implies_true, and_false, false_and, forall_const, true_or, or_true, false_or, or_false, G4_housesWith_L25, Ca_s8 hA, Nat.not_le.mpr hl1, G4_housesWith_J76]
    refine c_hasRead hV.b hA hi9 ?_
    by_cases q : 0 < hR A i
    · simp (disch := omega) only [bo_q0, bo_q1, qN_le, qN_lt, qN_eq, qN_vp, qN_nat, qN_neg1, qN_neg, qN_nn, qN_lit, qN_add, qN_sub, qN_mul, qN_div, Bd_eq, reduceIte, Nat.add_sub_cancel, dm_l, Nat.zero_le, Nat.not_lt_zero, Nat.reduceEqDiff, Nat.reduceLT, Nat.reduceLeDiff, Nat.reduceAdd, Nat.reduceSub, Nat.reduceMul, Nat.reduceDiv, Nat.reduceMod, reduceCtorEq, true_implies, false_implies, not_true_eq_false, not_false_eq_true, true_and, and_true, implies_true, and_false, false_and, forall_const, true_or, or_true, false_or, or_false, q]
      refine c_rungIn hV.b hV.rr hA hi9 (by decide) ?_
      simp (disch := omega) only [bo_q0, bo_q1, qN_le, qN_lt, qN_eq, qN_vp, qN_nat, qN_neg1, qN_neg, qN_nn, qN_lit, qN_add, qN_sub, qN_mul, qN_div, Bd_eq, reduceIte, Nat.add_sub_cancel, dm_l, Nat.zero_le, Nat.not_lt_zero, Nat.reduceEqDiff, Nat.reduceLT, Nat.reduceLeDiff, Nat.reduceAdd, Nat.reduceSub, Nat.reduceMul, Nat.reduceDiv, Nat.reduceMod, reduceCtorEq, true_implies, false_implies, not_true_eq_false, not_false_eq_true, true_and, and_true, implies_true, and_false, false_and, forall_const, true_or, or_true, false_or, or_false, ]
      refine ⟨fun q2 => ?_, fun q2 => ?_⟩
      · exact hz false (by simp [q2])
      refine c_rungIn hV.b hV.rr hA hi9 (by decide) ?_
      simp (disch := omega) only [bo_q0, bo_q1, qN_le, qN_lt, qN_eq, qN_vp, qN_nat, qN_neg1, qN_neg, qN_nn, qN_lit, qN_add, qN_sub, qN_mul, qN_div, Bd_eq, reduceIte, Nat.add_sub_cancel, dm_l, Nat.zero_le, Nat.not_lt_zero, Nat.reduceEqDiff, Nat.reduceLT, Nat.reduceLeDiff, Nat.reduceAdd, Nat.reduceSub, Nat.reduceMul, Nat.reduceDiv, Nat.reduceMod, reduceCtorEq, true_implies, false_implies, not_true_eq_false, not_false_eq_true, true_and, and_true, implies_true, and_false, false_and, forall_const, true_or, or_true, false_or, or_false, ]
      refine ⟨fun q3 => ?_, fun q3 => ?_⟩
      · exact hz false (by simp [q3])
      · exact hz true (by simp [q, q2, q3])
    · simp (disch := omega) only [bo_q0, bo_q1, qN_le, qN_lt, qN_eq, qN_vp, qN_nat, qN_neg1, qN_neg, qN_nn, qN_lit, qN_add, qN_sub, qN_mul, qN_div, Bd_eq, reduceIte, Nat.add_sub_cancel, dm_l, Nat.zero_le, Nat.not_lt_zero, Nat.reduceEqDiff, Nat.reduceLT, Nat.reduceLeDiff, Nat.reduceAdd, Nat.reduceSub, Nat.reduceMul, Nat.reduceDiv, Nat.reduceMod, reduceCtorEq, true_implies, false_implies, not_true_eq_false, not_false_eq_true, true_and, and_true, implies_true, and_false, false_and, forall_const, true_or, or_true, false_or, or_false, q]
      exact hz false (by simp [q])
  · have e : i = A 358 8 := by omega
    subst e
    simp (disch := omega) only [bo_q0, bo_q1, qN_le, qN_lt, qN_eq, qN_vp, qN_nat, qN_neg1, qN_neg, qN_nn, qN_lit, qN_add, qN_sub, qN_mul, qN_div, Bd_eq, reduceIte, Nat.add_sub_cancel, dm_l, Nat.zero_le, Nat.not_lt_zero, Nat.reduceEqDiff, Nat.reduceLT, Nat.reduceLeDiff, Nat.reduceAdd, Nat.reduceSub, Nat.reduceMul, Nat.reduceDiv, Nat.reduceMod, reduceCtorEq, true_implies, false_implies, not_true_eq_false, not_false_eq_true, true_and, and_true, implies_true, and_false, false_and, forall_const, true_or, or_true, false_or, or_false, G4_housesWith_L25, Ca_s8 hA, Nat.le_refl]
    exact hy a b ha hb rfl rfl
theorem m_table {A X : Nat → Nat → Nat} {W : List Int64} {μ : MM} {v1 v2 : Int32} {Q : Int32 → MM → Prop} (hV : Inv A X) (h : Ms A X W μ)
    (hy : ∀ a b, a < 5 → b < 5 → v1 = qN a → v2 = qN b → ∀ μ', Ms A X W μ' → FM μ μ' → Q (qN (cnt (tbH A a b) (A 358 8))) μ') (hn : ¬ (inr v1 5 ∧ inr v2 5) → ∀ μ', Ms A X W μ' → FM μ μ' → Q (-1) μ') : G12_table v1 v2 μ Q := by
  have hl : A 358 12 < 97 := hV.b 358 12 (by unfold dom; decide)
  have hH : A 358 8 < 25 := hV.b 358 8 (by unfold dom; decide)
  unfold G12_table
  rw [Bd_eq]
  have h0 := m_thr h 0
  have f0 := fm_thr μ 0
  revert h0 f0
  generalize sI μ 358 0 0 = μ0
  intro h0 f0
  refine in0_s 4 rfl (by decide) (fun q1 => ⟨fun r => absurd r (by decide), fun _ => ?_⟩) (fun q1 => ⟨fun _ => hn (fun r => q1 r.1) _ h0 f0, fun r => absurd rfl r⟩)
  refine in0_s 4 rfl (by decide) (fun q2 => ⟨fun _ => ?_, fun r => absurd r (by decide)⟩) (fun q2 => ⟨fun r => absurd rfl r, fun _ => hn (fun r => q2 r.2) _ h0 f0⟩)
  obtain ⟨a, ha, rfl⟩ := q1
  obtain ⟨b, hb, rfl⟩ := q2
  refine Lp.up (A 358 8) (fun i x => x.1 = qN (cnt (tbH A a b) i) ∧ x.2.1 = qN i ∧ Ms A X W x.2.2 ∧ FM μ x.2.2) ?_ ⟨rfl, rfl, h0, f0⟩
  rintro i K hi hK ⟨y1, y2, ν⟩ ⟨rfl, rfl, hC, hf⟩
  simp only at hC hf
  have hB := hC.1
  rcases Nat.lt_or_ge i (A 358 8) with hl1 | hl1
  · have hk := hK hl1
    have hi9 : i < 24 := by omega
    have t0 := Nat.le_trans (tr_le A (sH A i) 0 (A 358 12)) (tc_le A (sH A i) 0 (A 358 12))
    have t1 := Nat.le_trans (tr_le A (sH A i) 1 (A 358 12)) (tc_le A (sH A i) 1 (A 358 12))
    have t2 := tc_sum A (sH A i) (A 358 12)
    simp (disch := omega) only [bo_q0, bo_q1, qN_le, qN_lt, qN_eq, qN_vp, qN_nat, qN_neg1, qN_neg, qN_nn, qN_lit, qN_add, qN_sub, qN_mul, qN_div, Bd_eq, reduceIte, Nat.add_sub_cancel, dm_l, Nat.zero_le, Nat.not_lt_zero, Nat.reduceEqDiff, Nat.reduceLT, Nat.reduceLeDiff, Nat.reduceAdd, Nat.reduceSub, Nat.reduceMul, Nat.reduceDiv, Nat.reduceMod, reduceCtorEq, true_implies, false_implies, not_true_eq_false, not_false_eq_true, true_and, and_true, implies_true, and_false, false_and, forall_const, true_or, or_true, false_or, or_false, G12_table_L36, Ma_s8 hB, Nat.not_le.mpr hl1]
    refine m_countsHouse hV hC hi9 (fun ν1 h1 f1 hT => ?_)
    have g0 : gI ν1 391 0 = qN (tr A (sH A i) 0 (A 358 12)) := (hT 0 (by decide)).2
    have g1 : gI ν1 391 1 = qN (tr A (sH A i) 1 (A 358 12)) := (hT 1 (by decide)).2
    have hz : ∀ q : Bool, tbH A a b i = q → K (qN (cnt (tbH A a b) i + q.toNat), qN (i + 1), ν1) := fun q e => by
      subst e; exact hk _ ⟨rfl, rfl, h1, hf.tr (FM_mS (f1.mo (fun k j q => by unfold mS; omega)))⟩
    unfold tbH hR at hz
    have z1 : (1 : Nat) < 2 := by decide
    have z0 : (0 : Nat) < 2 := by decide
    simp (disch := omega) only [bo_q0, bo_q1, qN_le, qN_lt, qN_eq, qN_vp, qN_nat, qN_neg1, qN_neg, qN_nn, qN_lit, qN_add, qN_sub, qN_mul, qN_div, Bd_eq, reduceIte, Nat.add_sub_cancel, dm_l, Nat.zero_le, Nat.not_lt_zero, Nat.reduceEqDiff, Nat.reduceLT, Nat.reduceLeDiff, Nat.reduceAdd, Nat.reduceSub, Nat.reduceMul, Nat.reduceDiv, Nat.reduceMod, reduceCtorEq, true_implies, false_implies, not_true_eq_false, not_false_eq_true, true_and, and_true, implies_true, and_false, false_and, forall_const, true_or, or_true, false_or, or_false, G12_table_J79, G12_table_J80, flag_q, g0, g1]
    refine ⟨fun q => hz false ?_, fun q => ⟨fun q2 => hz false ?_, fun q2 => ⟨fun q3 => hz false ?_, fun q3 => hz true ?_⟩⟩⟩
    · have q' : ¬ 0 < tc A (sH A i) 0 (A 358 12) + tc A (sH A i) 1 (A 358 12) := by omega
      rw [decide_eq_false q']; rfl
    · simp [q2]
    · simp [q3]
    · have q' : 0 < tc A (sH A i) 0 (A 358 12) + tc A (sH A i) 1 (A 358 12) := by omega
      rw [decide_eq_true q', decide_eq_true q2, decide_eq_true q3]; rfl
  · have e : i = A 358 8 := by omega
    subst e
    simp (disch := omega) only [bo_q0, bo_q1, qN_le, qN_lt, qN_eq, qN_vp, qN_nat, qN_neg1, qN_neg, qN_nn, qN_lit, qN_add, qN_sub, qN_mul, qN_div, Bd_eq, reduceIte, Nat.add_sub_cancel, dm_l, Nat.zero_le, Nat.not_lt_zero, Nat.reduceEqDiff, Nat.reduceLT, Nat.reduceLeDiff, Nat.reduceAdd, Nat.reduceSub, Nat.reduceMul, Nat.reduceDiv, Nat.reduceMod, reduceCtorEq, true_implies, false_implies, not_true_eq_false, not_false_eq_true, true_and, and_true, implies_true, and_false, false_and, forall_const, true_or, or_true, false_or, or_false, G12_table_L36, Ma_s8 hB, Nat.le_refl]
    exact hy a b ha hb rfl rfl _ hC hf

def bSel (A : Nat → Nat → Nat) (p : Nat) (i : Nat) : Bool := decide (A 373 i = 1) && decide (zp A i = p)
def bL (A : Nat → Nat → Nat) (p n : Nat) : Nat := cnt (fun i => bSel A p i) n
def bT (A : Nat → Nat → Nat) (p n : Nat) : Nat := cnt (fun i => bSel A p i && decide (A 375 i = 1)) n
def bO (A : Nat → Nat → Nat) (p n : Nat) : Nat := cnt (fun i => bSel A p i && (decide (A 374 i = 1) && decide (A 375 i = 0))) n
theorem b_s (A : Nat → Nat → Nat) (p n : Nat) : bL A p (n + 1) = bL A p n + (if A 373 n = 1 ∧ zp A n = p then 1 else 0) ∧ bT A p (n + 1) = bT A p n + (if A 373 n = 1 ∧ zp A n = p ∧ A 375 n = 1 then 1 else 0) ∧
    bO A p (n + 1) = bO A p n + (if A 373 n = 1 ∧ zp A n = p ∧ A 374 n = 1 ∧ A 375 n = 0 then 1 else 0) := by
  refine ⟨congrArg (bL A p n + ·) ?_, congrArg (bT A p n + ·) ?_, congrArg (bO A p n + ·) ?_⟩
  all_goals
    unfold bSel
    by_cases h1 : A 373 n = 1 <;> by_cases h2 : zp A n = p <;> by_cases h3 : A 375 n = 1 <;> by_cases h4 : A 374 n = 1 <;> by_cases h5 : A 375 n = 0 <;> simp [h1, h2, h3, h4, h5]
def bdW (A : Nat → Nat → Nat) (p : Nat) : List Int64 := frc ((bT A p (A 358 12) : Nat) : Int) (bL A p (A 358 12)) ++ frc ((bT A p (A 358 12) + bO A p (A 358 12) : Nat) : Int) (bL A p (A 358 12))

theorem c_bounds {A X : Nat → Nat → Nat} {W : List Int64} {μ : MM} {v1 : Int32} {Q : Int32 → MM → Prop} (hV : Inv A X) (h : Cs A X W μ)
    (hy : ∀ a, a < 2 → v1 = qN a → 0 < bL A a (A 358 12) → ∀ μ', Cs A X (bdW A a) μ' → FC μ μ' → Q (qN (bO A a (A 358 12))) μ') (hz : ∀ a, a < 2 → v1 = qN a → bL A a (A 358 12) = 0 → Q (-2) μ) (hn : ¬ inr v1 2 → Q (-1) μ) : G11_bounds v1 μ Q := by
  have hl : A 358 12 < 97 := hV.b 358 12 (by unfold dom; decide)
  unfold G11_bounds G2_tellBounds
  refine within0_s 1 rfl (by decide) (fun q1 => ⟨fun _ => ?_, fun r => absurd r (by decide)⟩) (fun q1 => ⟨fun r => absurd rfl r, fun _ => hn q1⟩)
  obtain ⟨a, ha, rfl⟩ := q1
  have ha2 : a < 2 := ha
  have hA := h.1
  refine Lp.upE (A 358 12) (fun i => (qN (bL A a i), qN (bT A a i), qN (bO A a i), qN i, μ)) ?_
  intro i K hi hK
  rcases Nat.lt_or_ge i (A 358 12) with hl1 | hl1
  · have hk := hK hl1
    have hi9 : i < 96 := by omega
    have b2 : A 368 i < 12 := hV.b 368 i (by unfold dom; omega)
    have b3 : A 373 i < 2 := hV.b 373 i (by unfold dom; omega)
    have b4 : A 374 i < 2 := hV.b 374 i (by unfold dom; omega)
    have b6 : A 375 i < 3 := hV.b 375 i (by unfold dom; omega)
    have b5 : A 360 (A 368 i) < 2 := hV.b 360 (A 368 i) (by unfold dom; omega)
    have rr := hV.2.2.1 i hi9
    have z1 : (1 : Nat) < 2 := by decide
    have z0 : (0 : Nat) < 2 := by decide
    have ez : zp A i = A 360 (A 368 i) := rfl
    rw [(b_s A a i).1, (b_s A a i).2.1, (b_s A a i).2.2, ez] at hk
    simp (disch := omega) only [bo_q0, bo_q1, qN_le, qN_lt, qN_eq, qN_vp, qN_nat, qN_neg1, qN_neg, qN_nn, qN_lit, qN_add, qN_sub, qN_mul, qN_div, Bd_eq, reduceIte, Nat.add_sub_cancel, dm_l, Nat.zero_le, Nat.not_lt_zero, Nat.reduceEqDiff, Nat.reduceLT, Nat.reduceLeDiff, Nat.reduceAdd, Nat.reduceSub, Nat.reduceMul, Nat.reduceDiv, Nat.reduceMod, reduceCtorEq, true_implies, false_implies, not_true_eq_false, not_false_eq_true, true_and, and_true, implies_true, and_false, false_and, forall_const, true_or, or_true, false_or, or_false, G2_tellBounds_L21, Ca_s12 hA, Ca_373 hA, Ca_374 hA, Ca_375 hA, Ca_368 hA, Ca_360 hA, hi9, b2, Nat.not_le.mpr hl1, G2_tellBounds_J117, G2_tellBounds_J116, G2_tellBounds_J92, G2_tellBounds_J91, G10_peopleOf]
    repeat' (first | (refine And.intro ?_ ?_) | (refine fun _ => ?_))
    all_goals
      repeat' split at hk
      all_goals first
        | exact hk
        | (exfalso; omega)
  · have e : i = A 358 12 := by omega
    subst e
    have c1 : bL A a (A 358 12) ≤ A 358 12 := cnt_le _ _
    have c2 : bT A a (A 358 12) ≤ A 358 12 := cnt_le _ _
    have c3 : bO A a (A 358 12) ≤ A 358 12 := cnt_le _ _
    simp (disch := omega) only [bo_q0, bo_q1, qN_le, qN_lt, qN_eq, qN_vp, qN_nat, qN_neg1, qN_neg, qN_nn, qN_lit, qN_add, qN_sub, qN_mul, qN_div, Bd_eq, reduceIte, Nat.add_sub_cancel, dm_l, Nat.zero_le, Nat.not_lt_zero, Nat.reduceEqDiff, Nat.reduceLT, Nat.reduceLeDiff, Nat.reduceAdd, Nat.reduceSub, Nat.reduceMul, Nat.reduceDiv, Nat.reduceMod, reduceCtorEq, true_implies, false_implies, not_true_eq_false, not_false_eq_true, true_and, and_true, implies_true, and_false, false_and, forall_const, true_or, or_true, false_or, or_false, G2_tellBounds_L21, Ca_s12 hA, Nat.le_refl, qN_J]
    refine ⟨fun r => ?_, fun r => hz a ha rfl r⟩
    · refine c_rclear h (fun μ2 h2 f2 => ?_)
      refine c_rfrac h2 (by decide) ⟨by omega, by omega⟩ (by omega) (by omega) (fun μ3 h3 f3 => ?_)
      refine c_rfrac h3 (show (2 : Nat) < 9 by decide) ⟨by omega, by omega⟩ (by omega) (by omega) (fun μ4 h4 f4 => ?_)
      exact hy a ha rfl (by omega) _ h4 (((FC_row f2).tr (FC_row f3)).tr (FC_row f4))

theorem m_bounds {A X : Nat → Nat → Nat} {W : List Int64} {μ : MM} {v1 : Int32} {Q : Int32 → MM → Prop} (hV : Inv A X) (h : Ms A X W μ)
    (hy : ∀ a, a < 2 → v1 = qN a → 0 < bL A a (A 358 12) → ∀ μ', Ms A X (bdW A a) μ' → FM μ μ' → Q (qN (bO A a (A 358 12))) μ') (hz : ∀ a, a < 2 → v1 = qN a → bL A a (A 358 12) = 0 → ∀ μ', Ms A X W μ' → FM μ μ' → Q (-2) μ') (hn : ¬ inr v1 2 → ∀ μ', Ms A X W μ' → FM μ μ' → Q (-1) μ') : G12_bounds v1 μ Q := by
  have hl : A 358 12 < 97 := hV.b 358 12 (by unfold dom; decide)
  unfold G12_bounds
  rw [Bd_eq]
  have h0 := m_thr h 0
  have f0 := fm_thr μ 0
  revert h0 f0
  generalize sI μ 358 0 0 = μ0
  intro h0 f0
  refine in0_s 1 rfl (by decide) (fun q1 => ⟨fun _ => ?_, fun r => absurd r (by decide)⟩) (fun q1 => ⟨fun r => absurd rfl r, fun _ => hn q1 _ h0 f0⟩)
  obtain ⟨a, ha, rfl⟩ := q1
  have ha2 : a < 2 := ha
  have hA := h0.1
  refine Lp.upE (A 358 12) (fun i => (qN (bL A a i), qN (bT A a i), qN (bO A a i), qN i, μ0)) ?_
  intro i K hi hK
  rcases Nat.lt_or_ge i (A 358 12) with hl1 | hl1
  · have hk := hK hl1
    have hi9 : i < 96 := by omega
    have b2 : A 368 i < 12 := hV.b 368 i (by unfold dom; omega)
    have b3 : A 373 i < 2 := hV.b 373 i (by unfold dom; omega)
    have b4 : A 374 i < 2 := hV.b 374 i (by unfold dom; omega)
    have b6 : A 375 i < 3 := hV.b 375 i (by unfold dom; omega)
    have b5 : A 360 (A 368 i) < 2 := hV.b 360 (A 368 i) (by unfold dom; omega)
    have rr := hV.2.2.1 i hi9
    have z1 : (1 : Nat) < 2 := by decide
    have z0 : (0 : Nat) < 2 := by decide
    have ez : zp A i = A 360 (A 368 i) := rfl
    rw [(b_s A a i).1, (b_s A a i).2.1, (b_s A a i).2.2, ez] at hk
    simp (disch := omega) only [bo_q0, bo_q1, qN_le, qN_lt, qN_eq, qN_vp, qN_nat, qN_neg1, qN_neg, qN_nn, qN_lit, qN_add, qN_sub, qN_mul, qN_div, Bd_eq, reduceIte, Nat.add_sub_cancel, dm_l, Nat.zero_le, Nat.not_lt_zero, Nat.reduceEqDiff, Nat.reduceLT, Nat.reduceLeDiff, Nat.reduceAdd, Nat.reduceSub, Nat.reduceMul, Nat.reduceDiv, Nat.reduceMod, reduceCtorEq, true_implies, false_implies, not_true_eq_false, not_false_eq_true, true_and, and_true, implies_true, and_false, false_and, forall_const, true_or, or_true, false_or, or_false, G12_bounds_L27, Ma_s12 hA, Ma_373 hA, Ma_374 hA, Ma_375 hA, Ma_368 hA, Ma_360 hA, hi9, b2, Nat.not_le.mpr hl1, G12_bounds_J108, G12_bounds_J107, G12_bounds_J76, G12_peopleOf, flag_q]
    repeat' (first | (refine And.intro ?_ ?_) | (refine fun _ => ?_))
    all_goals
      repeat' split at hk
      all_goals first
        | exact hk
        | (exfalso; omega)
  · have e : i = A 358 12 := by omega
    subst e
    have c1 : bL A a (A 358 12) ≤ A 358 12 := cnt_le _ _
    have c2 : bT A a (A 358 12) ≤ A 358 12 := cnt_le _ _
    have c3 : bO A a (A 358 12) ≤ A 358 12 := cnt_le _ _
    simp (disch := omega) only [bo_q0, bo_q1, qN_le, qN_lt, qN_eq, qN_vp, qN_nat, qN_neg1, qN_neg, qN_nn, qN_lit, qN_add, qN_sub, qN_mul, qN_div, Bd_eq, reduceIte, Nat.add_sub_cancel, dm_l, Nat.zero_le, Nat.not_lt_zero, Nat.reduceEqDiff, Nat.reduceLT, Nat.reduceLeDiff, Nat.reduceAdd, Nat.reduceSub, Nat.reduceMul, Nat.reduceDiv, Nat.reduceMod, reduceCtorEq, true_implies, false_implies, not_true_eq_false, not_false_eq_true, true_and, and_true, implies_true, and_false, false_and, forall_const, true_or, or_true, false_or, or_false, G12_bounds_L27, Ma_s12 hA, Nat.le_refl, qN_J]
    refine ⟨fun r => ?_, fun r => hz a ha rfl r _ h0 f0⟩
    · obtain ⟨h2, f2⟩ := m_rc h0
      refine m_rfrac h2 (by decide) ⟨by omega, by omega⟩ (by omega) (by omega) (fun μ3 h3 f3 => ?_)
      refine m_rfrac h3 (show (2 : Nat) < 9 by decide) ⟨by omega, by omega⟩ (by omega) (by omega) (fun μ4 h4 f4 => ?_)
      exact hy a ha rfl (by omega) _ h4 (((f0.tr (FM_row f2)).tr (FM_row f3)).tr (FM_row f4))
