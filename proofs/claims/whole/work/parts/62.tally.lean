/-! tallies -/
def zp (A : Nat → Nat → Nat) (i : Nat) : Nat := A 360 (A 368 i)
def tc (A : Nat → Nat → Nat) (S : Nat → Bool) (p n : Nat) : Nat := cnt (fun i => S i && decide (zp A i = p)) n
def tr (A : Nat → Nat → Nat) (S : Nat → Bool) (p n : Nat) : Nat := cnt (fun i => S i && decide (zp A i = p) && decide (A 374 i = 1)) n
def Tl (μ : MM) (t : Nat) (A : Nat → Nat → Nat) (S : Nat → Bool) (n : Nat) : Prop := ∀ p, p < 2 → gI μ (t + 1) p = qN (tc A S p n) ∧ gI μ (t + 2) p = qN (tr A S p n)
theorem tc_le (A : Nat → Nat → Nat) (S : Nat → Bool) (p n : Nat) : tc A S p n ≤ n := cnt_le _ _
theorem cnt_mono {P R : Nat → Bool} (h : ∀ i, P i = true → R i = true) : ∀ n, cnt P n ≤ cnt R n
  | 0 => Nat.le_refl _
  | n + 1 => by
    have h1 := cnt_mono h n
    have h2 := h n
    show cnt P n + (P n).toNat ≤ cnt R n + (R n).toNat
    cases hp : P n
    · simp; omega
    · rw [h2 hp]; simp; omega
theorem tr_le (A : Nat → Nat → Nat) (S : Nat → Bool) (p n : Nat) : tr A S p n ≤ tc A S p n := cnt_mono (fun i h => by simp at h ⊢; exact h.1) n
theorem tc_sum (A : Nat → Nat → Nat) (S : Nat → Bool) : ∀ n, tc A S 0 n + tc A S 1 n ≤ n
  | 0 => Nat.le_refl _
  | n + 1 => by
    have h1 := tc_sum A S n
    show (tc A S 0 n + (S n && decide (zp A n = 0)).toNat) + (tc A S 1 n + (S n && decide (zp A n = 1)).toNat) ≤ n + 1
    by_cases h0 : zp A n = 0
    · have : ¬ zp A n = 1 := by omega
      simp [h0]
      cases S n <;> simp <;> omega
    · simp [h0]
      cases S n <;> cases decide (zp A n = 1) <;> simp <;> omega
theorem Tl_0 {μ : MM} {t : Nat} {A : Nat → Nat → Nat} {S : Nat → Bool} (h : ∀ p, p < 2 → gI μ (t + 1) p = 0 ∧ gI μ (t + 2) p = 0) : Tl μ t A S 0 := h
theorem Tl_no {μ : MM} {t : Nat} {A : Nat → Nat → Nat} {S : Nat → Bool} {n : Nat} (h : Tl μ t A S n) (hs : S n = false) : Tl μ t A S (n + 1) := fun p hp => by
  have e1 : tc A S p (n + 1) = tc A S p n := by show _ + (S n && decide (zp A n = p)).toNat = _; simp [hs, tc]
  have e2 : tr A S p (n + 1) = tr A S p n := by show _ + (S n && decide (zp A n = p) && decide (A 374 n = 1)).toNat = _; simp [hs, tr]
  rw [e1, e2]
  exact h p hp
theorem Tl_yes {μ μ' : MM} {t : Nat} {A : Nat → Nat → Nat} {S : Nat → Bool} {n : Nat} (h : Tl μ t A S n) (hs : S n = true) (hr : A 374 n < 2)
    (e : ∀ p, p < 2 → gI μ' (t + 1) p = (if p = zp A n then gI μ (t + 1) p + 1 else gI μ (t + 1) p) ∧ gI μ' (t + 2) p = (if p = zp A n then gI μ (t + 2) p + qN (A 374 n) else gI μ (t + 2) p)) : Tl μ' t A S (n + 1) := fun p hp => by
  have h1 := h p hp
  rw [(e p hp).1, (e p hp).2, h1.1, h1.2]
  have e1 : tc A S p (n + 1) = tc A S p n + (if p = zp A n then 1 else 0) := by
    show _ + (S n && decide (zp A n = p)).toNat = _
    by_cases q : p = zp A n
    · simp [hs, q, tc]
    · simp [hs, q, tc, Ne.symm q]
  have e2 : tr A S p (n + 1) = tr A S p n + (if p = zp A n then A 374 n else 0) := by
    show _ + (S n && decide (zp A n = p) && decide (A 374 n = 1)).toNat = _
    rcases (show A 374 n = 0 ∨ A 374 n = 1 by omega) with r | r
    · simp [r, tr]
    · by_cases q : p = zp A n
      · simp [hs, q, tr, r]
      · simp [hs, q, tr, r, Ne.symm q]
  rw [e1, e2]
  by_cases q : p = zp A n
  · simp only [if_pos q]
    exact ⟨(qN_lit 1 ▸ qN_add _ _), qN_add _ _⟩
  · simp only [if_neg q]
    exact ⟨rfl, rfl⟩
theorem c_note {μ : MM} {t p r : Nat} {Q : MM → Prop} (hp : p < 2) (hr : r < 2) (h : ∀ μ', Sm (fun k _ => k = t + 1 ∨ k = t + 2) μ μ' →
    (∀ p', p' < 2 → gI μ' (t + 1) p' = (if p' = p then gI μ (t + 1) p' + 1 else gI μ (t + 1) p') ∧ gI μ' (t + 2) p' = (if p' = p then gI μ (t + 2) p' + qN r else gI μ (t + 2) p')) → Q μ') : G9_note t (qN p) (qN r) μ Q := by
  have t2 : ∀ t : Nat, (t + 2 = t + 1) = False := fun t => by simp
  have t3 : ∀ t : Nat, (t + 1 = t + 2) = False := fun t => by simp
  unfold G9_note
  simp (disch := omega) only [bo_q0, bo_q1, qN_le, qN_lt, qN_eq, qN_vp, qN_nat, qN_neg1, qN_neg, qN_nn, qN_lit, qN_add, qN_sub, qN_mul, qN_div, Bd_eq, reduceIte, Nat.add_sub_cancel, dm_l, Nat.zero_le, Nat.not_lt_zero, Nat.reduceEqDiff, Nat.reduceLT, Nat.reduceLeDiff, Nat.reduceAdd, Nat.reduceSub, Nat.reduceMul, Nat.reduceDiv, Nat.reduceMod, reduceCtorEq, true_implies, false_implies, not_true_eq_false, not_false_eq_true, true_and, and_true, implies_true, and_false, false_and, forall_const, true_or, or_true, false_or, or_false, hp, gI_I, gI_J, gI_R, gJ_I, gJ_J, gJ_R, gR_I, gR_J, gR_R, t2, t3]
  have f := fun v1 v2 => ((Sm.rfl' (S := fun k _ => k = t + 1 ∨ k = t + 2) (μ := μ)).wI (k := t + 1) (j := p) v1 (Or.inl rfl)).wI (k := t + 2) (j := p) v2 (Or.inr rfl)
  refine ⟨fun q => h _ (f _ _) (fun p' hp' => ?_), fun q => h _ (f _ _) (fun p' hp' => ?_)⟩
  · subst q
    simp only [gI_I, gI_J, gI_R, gJ_I, gJ_J, gJ_R, gR_I, gR_J, gR_R, t2, t3, false_and, reduceIte, true_and, qN_lit]
    refine ⟨?_, ?_⟩ <;> split
    · rename_i e; subst e; rfl
    · rfl
    · rename_i e; subst e; rfl
    · rfl
  · have e1 : r = 1 := by omega
    subst e1
    simp only [gI_I, gI_J, gI_R, gJ_I, gJ_J, gJ_R, gR_I, gR_J, gR_R, t2, t3, false_and, reduceIte, true_and, qN_lit]
    refine ⟨?_, ?_⟩ <;> split
    · rename_i e; subst e; rfl
    · rfl
    · rename_i e; subst e; rfl
    · rfl
theorem c_tclear {μ : MM} {t : Nat} {Q : MM → Prop} (h : ∀ μ', Sm (fun k _ => k = t + 1 ∨ k = t + 2) μ μ' → (∀ p, p < 2 → gI μ' (t + 1) p = 0 ∧ gI μ' (t + 2) p = 0) → Q μ') : G9_clear t μ Q := by
  have t2 : ∀ t : Nat, (t + 2 = t + 1) = False := fun t => by simp
  have t3 : ∀ t : Nat, (t + 1 = t + 2) = False := fun t => by simp
  unfold G9_clear
  rw [Bd_eq, Bd_eq, Bd_eq, Bd_eq]
  refine h _ ((((Sm.rfl'.wI _ (Or.inl rfl)).wI _ (Or.inl rfl)).wI _ (Or.inr rfl)).wI _ (Or.inr rfl)) (fun p hp => ?_)
  rcases (show p = 0 ∨ p = 1 by omega) with rfl | rfl
  · simp [gI_I]
  · simp [gI_I]
/-- the letters that a tally gathers -/
def gSel (A X : Nat → Nat → Nat) (v w : Int32) (i : Nat) : Bool := decide (A 373 i = 1) && (decide (w = -1) || decide (qN (A 367 i) = w)) && fps A X v i
def gS (t k j : Nat) : Prop := pS k j ∨ k = t + 1 ∨ k = t + 2
theorem c_gather {A X : Nat → Nat → Nat} {W : List Int64} {μ : MM} {Q : MM → Prop} (hV : Inv A X) (h : Cs A X W μ) {v w : Int32} (hv : tF A v) {t : Nat} (ht : 154 ≤ t) (ht2 : t ≤ 165)
    (hQ : ∀ μ', Cs A X W μ' → Sm (gS t) μ μ' → Tl μ' t A (gSel A X v w) (A 358 12) → Q μ') : G8_gather t v w μ Q := by
  have hn : A 358 12 < 97 := hV.b 358 12 (by unfold dom; decide)
  have gc : ∀ k j, gS t k j → cS k j := fun k j q => by
    rcases q with q | q | q
    · exact pS_c q
    · unfold cS; omega
    · unfold cS; omega
  unfold G8_gather
  refine c_tclear (fun μ1 f1 z1 => ?_)
  have f1' : Sm (gS t) μ μ1 := f1.mo (fun k j q => Or.inr q)
  refine Lp.up (A 358 12) (fun i x => x.1 = qN i ∧ Sm (gS t) μ x.2 ∧ Tl x.2 t A (gSel A X v w) i) ?_ ⟨rfl, f1', Tl_0 z1⟩
  rintro i K hi hK ⟨y, ν⟩ ⟨rfl, hs, hT⟩
  simp only at hs hT
  have hC := h.sm (hs.mo gc)
  have hB := hC.1
  rcases Nat.lt_or_ge i (A 358 12) with hl | hl
  · have hk := hK hl
    have hi9 : i < 96 := by omega
    have b1 : A 367 i < 24 := hV.b 367 i (by unfold dom; omega)
    have b2 : A 368 i < 12 := hV.b 368 i (by unfold dom; omega)
    have b3 : A 373 i < 2 := hV.b 373 i (by unfold dom; omega)
    have b4 : A 374 i < 2 := hV.b 374 i (by unfold dom; omega)
    have b5 : A 360 (A 368 i) < 2 := hV.b 360 (A 368 i) (by unfold dom; omega)
    have no : gSel A X v w i = false → K (qN (i + 1), ν) := fun q => hk _ ⟨rfl, hs, Tl_no hT q⟩
    have yes : A 373 i = 1 → (w = -1 ∨ qN (A 367 i) = w) → G8_gather_J58 t v w (qN i) (19 + i) 1 ν K Q := by
      intro q1 q2
      have e0 : gSel A X v w i = fps A X v i := by
        unfold gSel
        rcases q2 with q2 | q2 <;> simp [q1, q2]
      unfold G8_gather_J58
      simp (disch := omega) only [bo_q0, bo_q1, qN_le, qN_lt, qN_eq, qN_vp, qN_nat, qN_neg1, qN_neg, qN_nn, qN_lit, qN_add, qN_sub, qN_mul, qN_div, Bd_eq, reduceIte, Nat.add_sub_cancel, dm_l, Nat.zero_le, Nat.not_lt_zero, Nat.reduceEqDiff, Nat.reduceLT, Nat.reduceLeDiff, Nat.reduceAdd, Nat.reduceSub, Nat.reduceMul, Nat.reduceDiv, Nat.reduceMod, reduceCtorEq, true_implies, false_implies, not_true_eq_false, not_false_eq_true, true_and, and_true, implies_true, and_false, false_and, forall_const, true_or, or_true, false_or, or_false, ]
      refine c_passes hV hC hv hi9 (fun ν1 f2 => ?_)
      have f2' : Sm (gS t) ν ν1 := f2.mo (fun k j q => Or.inl q)
      have hC1 := hC.sm (f2'.mo gc)
      have hT1 : Tl ν1 t A (gSel A X v w) i := fun p hp => by
        rw [(f2.1 (t + 1) p (by unfold pS; omega)).1, (f2.1 (t + 2) p (by unfold pS; omega)).1]
        exact hT p hp
      cases hp : fps A X v i
      · simp (disch := omega) only [bo_q0, bo_q1, qN_le, qN_lt, qN_eq, qN_vp, qN_nat, qN_neg1, qN_neg, qN_nn, qN_lit, qN_add, qN_sub, qN_mul, qN_div, Bd_eq, reduceIte, Nat.add_sub_cancel, dm_l, Nat.zero_le, Nat.not_lt_zero, Nat.reduceEqDiff, Nat.reduceLT, Nat.reduceLeDiff, Nat.reduceAdd, Nat.reduceSub, Nat.reduceMul, Nat.reduceDiv, Nat.reduceMod, reduceCtorEq, true_implies, false_implies, not_true_eq_false, not_false_eq_true, true_and, and_true, implies_true, and_false, false_and, forall_const, true_or, or_true, false_or, or_false, Bool.false_eq_true]
        exact hk _ ⟨rfl, hs.tr f2', Tl_no hT1 (e0.trans hp)⟩
      · simp (disch := omega) only [bo_q0, bo_q1, qN_le, qN_lt, qN_eq, qN_vp, qN_nat, qN_neg1, qN_neg, qN_nn, qN_lit, qN_add, qN_sub, qN_mul, qN_div, Bd_eq, reduceIte, Nat.add_sub_cancel, dm_l, Nat.zero_le, Nat.not_lt_zero, Nat.reduceEqDiff, Nat.reduceLT, Nat.reduceLeDiff, Nat.reduceAdd, Nat.reduceSub, Nat.reduceMul, Nat.reduceDiv, Nat.reduceMod, reduceCtorEq, true_implies, false_implies, not_true_eq_false, not_false_eq_true, true_and, and_true, implies_true, and_false, false_and, forall_const, true_or, or_true, false_or, or_false, G10_peopleOf, Ca_368 hC1.1, Ca_360 hC1.1, Ca_374 hC1.1, hi9, b2]
        refine c_note b5 b4 (fun ν2 f3 e3 => hk _ ⟨rfl, (hs.tr f2').tr (f3.mo (fun k j q => Or.inr q)), Tl_yes hT1 (e0.trans hp) b4 e3⟩)
    simp (disch := omega) only [bo_q0, bo_q1, qN_le, qN_lt, qN_eq, qN_vp, qN_nat, qN_neg1, qN_neg, qN_nn, qN_lit, qN_add, qN_sub, qN_mul, qN_div, Bd_eq, reduceIte, Nat.add_sub_cancel, dm_l, Nat.zero_le, Nat.not_lt_zero, Nat.reduceEqDiff, Nat.reduceLT, Nat.reduceLeDiff, Nat.reduceAdd, Nat.reduceSub, Nat.reduceMul, Nat.reduceDiv, Nat.reduceMod, reduceCtorEq, true_implies, false_implies, not_true_eq_false, not_false_eq_true, true_and, and_true, implies_true, and_false, false_and, forall_const, true_or, or_true, false_or, or_false, G8_gather_L7, Ca_s12 hB, Ca_373 hB, Ca_367 hB, hi9, Nat.not_le.mpr hl, G8_gather_J57, G8_gather_J53]
    refine ⟨fun q => ?_, fun q => ⟨fun q2 => ?_, fun q2 => ⟨fun q3 => ?_, fun q3 => ?_⟩⟩⟩
    · unfold G8_gather_J58
      simp (disch := omega) only [bo_q0, bo_q1, qN_le, qN_lt, qN_eq, qN_vp, qN_nat, qN_neg1, qN_neg, qN_nn, qN_lit, qN_add, qN_sub, qN_mul, qN_div, Bd_eq, reduceIte, Nat.add_sub_cancel, dm_l, Nat.zero_le, Nat.not_lt_zero, Nat.reduceEqDiff, Nat.reduceLT, Nat.reduceLeDiff, Nat.reduceAdd, Nat.reduceSub, Nat.reduceMul, Nat.reduceDiv, Nat.reduceMod, reduceCtorEq, true_implies, false_implies, not_true_eq_false, not_false_eq_true, true_and, and_true, implies_true, and_false, false_and, forall_const, true_or, or_true, false_or, or_false, ]
      exact no (by unfold gSel; simp [q])
    · exact yes (by omega) (Or.inl q2)
    · unfold G8_gather_J58
      simp (disch := omega) only [bo_q0, bo_q1, qN_le, qN_lt, qN_eq, qN_vp, qN_nat, qN_neg1, qN_neg, qN_nn, qN_lit, qN_add, qN_sub, qN_mul, qN_div, Bd_eq, reduceIte, Nat.add_sub_cancel, dm_l, Nat.zero_le, Nat.not_lt_zero, Nat.reduceEqDiff, Nat.reduceLT, Nat.reduceLeDiff, Nat.reduceAdd, Nat.reduceSub, Nat.reduceMul, Nat.reduceDiv, Nat.reduceMod, reduceCtorEq, true_implies, false_implies, not_true_eq_false, not_false_eq_true, true_and, and_true, implies_true, and_false, false_and, forall_const, true_or, or_true, false_or, or_false, ]
      have q4 : (w = -1) = False := eq_false q2
      have q5 : (qN (A 367 i) = w) = False := eq_false q3
      exact no (by unfold gSel; simp [q4, q5])
    · exact yes (by omega) (Or.inr q3)
  · have e : i = A 358 12 := by omega
    subst e
    simp (disch := omega) only [bo_q0, bo_q1, qN_le, qN_lt, qN_eq, qN_vp, qN_nat, qN_neg1, qN_neg, qN_nn, qN_lit, qN_add, qN_sub, qN_mul, qN_div, Bd_eq, reduceIte, Nat.add_sub_cancel, dm_l, Nat.zero_le, Nat.not_lt_zero, Nat.reduceEqDiff, Nat.reduceLT, Nat.reduceLeDiff, Nat.reduceAdd, Nat.reduceSub, Nat.reduceMul, Nat.reduceDiv, Nat.reduceMod, reduceCtorEq, true_implies, false_implies, not_true_eq_false, not_false_eq_true, true_and, and_true, implies_true, and_false, false_and, forall_const, true_or, or_true, false_or, or_false, G8_gather_L7, Ca_s12 hB, Nat.le_refl]
    exact hQ _ hC hs hT
/-- the letters that the model counts -/
def mSel (A X : Nat → Nat → Nat) (v w : Int32) (i : Nat) : Bool := !decide (qN (A 367 i) = w) && (decide (A 373 i = 1) && fps A X v i)
def nS (k _j : Nat) : Prop := k = 379 ∨ k = 381 ∨ k = 382
theorem nS_m {k j : Nat} (h : nS k j) : mS k j := by
  unfold nS at h
  unfold mS
  omega
theorem mn378 {A X : Nat → Nat → Nat} (hV : Inv A X) : ∀ p, p < 12 → A 378 p ≤ 48 := fun p hp => by
  have : A 378 p < 41 := hV.b 378 p (by unfold dom; omega)
  omega
theorem m_counts {A X : Nat → Nat → Nat} {W : List Int64} {μ : MM} {Q : MM → Prop} (hV : Inv A X) (h : Ms A X W μ) {v w : Int32} (hv : tF A v)
    (hQ : ∀ μ', Ms A X W μ' → Sm nS μ μ' → Tl μ' 380 A (mSel A X v w) (A 358 12) → Q μ') : G12_counts v w μ Q := by
  have hn : A 358 12 < 97 := hV.b 358 12 (by unfold dom; decide)
  unfold G12_counts
  refine Lp.up 2 (fun i x => x.1 = qN i ∧ Sm nS μ x.2 ∧ ∀ p, p < i → gI x.2 381 p = 0 ∧ gI x.2 382 p = 0) ?_ ⟨rfl, Sm.rfl', fun p hp => absurd hp (by omega)⟩
  rintro i K hi hK ⟨y, ν⟩ ⟨rfl, hs, hz⟩
  simp only at hs hz
  rcases Nat.lt_or_ge i 2 with hl | hl
  · simp (disch := omega) only [bo_q0, bo_q1, qN_le, qN_lt, qN_eq, qN_vp, qN_nat, qN_neg1, qN_neg, qN_nn, qN_lit, qN_add, qN_sub, qN_mul, qN_div, Bd_eq, reduceIte, Nat.add_sub_cancel, dm_l, Nat.zero_le, Nat.not_lt_zero, Nat.reduceEqDiff, Nat.reduceLT, Nat.reduceLeDiff, Nat.reduceAdd, Nat.reduceSub, Nat.reduceMul, Nat.reduceDiv, Nat.reduceMod, reduceCtorEq, true_implies, false_implies, not_true_eq_false, not_false_eq_true, true_and, and_true, implies_true, and_false, false_and, forall_const, true_or, or_true, false_or, or_false, G12_counts_L2, Nat.not_le.mpr hl, hl]
    refine hK hl _ ⟨rfl, (hs.wI _ (Or.inr (Or.inl rfl))).wI _ (Or.inr (Or.inr rfl)), fun p hp => ?_⟩
    simp only [gI_I, gI_J, gI_R, gJ_I, gJ_J, gJ_R, gR_I, gR_J, gR_R, Nat.reduceEqDiff, false_and, reduceIte, true_and]
    by_cases q : p = i
    · rw [if_pos q, if_pos q]; exact ⟨rfl, rfl⟩
    · rw [if_neg q, if_neg q]; exact hz p (by omega)
  have e : i = 2 := by omega
  subst e
  simp (disch := omega) only [bo_q0, bo_q1, qN_le, qN_lt, qN_eq, qN_vp, qN_nat, qN_neg1, qN_neg, qN_nn, qN_lit, qN_add, qN_sub, qN_mul, qN_div, Bd_eq, reduceIte, Nat.add_sub_cancel, dm_l, Nat.zero_le, Nat.not_lt_zero, Nat.reduceEqDiff, Nat.reduceLT, Nat.reduceLeDiff, Nat.reduceAdd, Nat.reduceSub, Nat.reduceMul, Nat.reduceDiv, Nat.reduceMod, reduceCtorEq, true_implies, false_implies, not_true_eq_false, not_false_eq_true, true_and, and_true, implies_true, and_false, false_and, forall_const, true_or, or_true, false_or, or_false, G12_counts_L2]
  clear hK K
  refine Lp.up (A 358 12) (fun i x => x.1 = qN i ∧ Sm nS μ x.2 ∧ Tl x.2 380 A (mSel A X v w) i) ?_ ⟨rfl, hs, Tl_0 hz⟩
  clear hz hs
  rintro i K hi hK ⟨y, ν⟩ ⟨rfl, hs, hT⟩
  simp only at hs hT
  have hC := h.sm (mn378 hV) (hs.mo (fun _ _ q => nS_m q))
  have hB := hC.1
  rcases Nat.lt_or_ge i (A 358 12) with hl | hl
  · have hk := hK hl
    have hi9 : i < 96 := by omega
    have b1 : A 367 i < 24 := hV.b 367 i (by unfold dom; omega)
    have b2 : A 368 i < 12 := hV.b 368 i (by unfold dom; omega)
    have b4 : A 374 i < 2 := hV.b 374 i (by unfold dom; omega)
    have b5 : A 360 (A 368 i) < 2 := hV.b 360 (A 368 i) (by unfold dom; omega)
    have no : mSel A X v w i = false → ∀ ν', Sm nS ν ν' → (∀ p, gI ν' 381 p = gI ν 381 p ∧ gI ν' 382 p = gI ν 382 p) → K (qN (i + 1), ν') := fun q ν' f e => hk _ ⟨rfl, hs.tr f, Tl_no (fun p hp => by rw [(e p).1, (e p).2]; exact hT p hp) q⟩
    simp (disch := omega) only [bo_q0, bo_q1, qN_le, qN_lt, qN_eq, qN_vp, qN_nat, qN_neg1, qN_neg, qN_nn, qN_lit, qN_add, qN_sub, qN_mul, qN_div, Bd_eq, reduceIte, Nat.add_sub_cancel, dm_l, Nat.zero_le, Nat.not_lt_zero, Nat.reduceEqDiff, Nat.reduceLT, Nat.reduceLeDiff, Nat.reduceAdd, Nat.reduceSub, Nat.reduceMul, Nat.reduceDiv, Nat.reduceMod, reduceCtorEq, true_implies, false_implies, not_true_eq_false, not_false_eq_true, true_and, and_true, implies_true, and_false, false_and, forall_const, true_or, or_true, false_or, or_false, G12_counts_L29, Ma_s12 hB, Ma_367 hB, hi9, Nat.not_le.mpr hl]
    refine ⟨fun q => no (by unfold mSel; simp [q]) ν Sm.rfl' (fun p => ⟨rfl, rfl⟩), fun q => ?_⟩
    refine m_passes hV hC hv hi9 (fun ν1 f2 => ?_)
    have f2' : Sm nS ν ν1 := f2.mo (fun k j q => Or.inl q)
    have hC1 := hC.sm (mn378 hV) (f2'.mo (fun _ _ q => nS_m q))
    have e2 : ∀ p, gI ν1 381 p = gI ν 381 p ∧ gI ν1 382 p = gI ν 382 p := fun p => ⟨(f2.1 381 p (by show ¬ 381 = 379; decide)).1, (f2.1 382 p (by show ¬ 382 = 379; decide)).1⟩
    have hT1 : Tl ν1 380 A (mSel A X v w) i := fun p hp => by rw [(e2 p).1, (e2 p).2]; exact hT p hp
    by_cases hp : A 373 i = 1 ∧ fps A X v i = true
    · simp (disch := omega) only [bo_q0, bo_q1, qN_le, qN_lt, qN_eq, qN_vp, qN_nat, qN_neg1, qN_neg, qN_nn, qN_lit, qN_add, qN_sub, qN_mul, qN_div, Bd_eq, reduceIte, Nat.add_sub_cancel, dm_l, Nat.zero_le, Nat.not_lt_zero, Nat.reduceEqDiff, Nat.reduceLT, Nat.reduceLeDiff, Nat.reduceAdd, Nat.reduceSub, Nat.reduceMul, Nat.reduceDiv, Nat.reduceMod, reduceCtorEq, true_implies, false_implies, not_true_eq_false, not_false_eq_true, true_and, and_true, implies_true, and_false, false_and, forall_const, true_or, or_true, false_or, or_false, hp, G12_peopleOf, Ma_368 hC1.1, Ma_360 hC1.1, Ma_374 hC1.1, hi9, b2, b5, flag_q, gI_I, gI_J, gI_R, gJ_I, gJ_J, gJ_R, gR_I, gR_J, gR_R]
      have b6 : zp A i < 2 := b5
      refine hk _ ⟨rfl, ((hs.tr f2').wI _ (Or.inr (Or.inl rfl))).wI _ (Or.inr (Or.inr rfl)), Tl_yes hT1 (by unfold mSel; simp [q, hp]) b4 (fun p hp2 => ?_)⟩
      show gI (sI (sI ν1 381 (A 360 (A 368 i)) _) 382 (A 360 (A 368 i)) _) 381 p = _ ∧ gI (sI (sI ν1 381 (A 360 (A 368 i)) _) 382 (A 360 (A 368 i)) _) 382 p = _
      simp only [gI_I, gI_J, gI_R, gJ_I, gJ_J, gJ_R, gR_I, gR_J, gR_R, Nat.reduceEqDiff, Nat.reduceAdd, false_and, reduceIte, true_and, qN_lit, show zp A i = A 360 (A 368 i) from rfl]
      refine ⟨?_, ?_⟩ <;> split
      · rename_i e; rw [e]
      · rfl
      · rename_i e; rw [e]
      · rfl
    · simp (disch := omega) only [bo_q0, bo_q1, qN_le, qN_lt, qN_eq, qN_vp, qN_nat, qN_neg1, qN_neg, qN_nn, qN_lit, qN_add, qN_sub, qN_mul, qN_div, Bd_eq, reduceIte, Nat.add_sub_cancel, dm_l, Nat.zero_le, Nat.not_lt_zero, Nat.reduceEqDiff, Nat.reduceLT, Nat.reduceLeDiff, Nat.reduceAdd, Nat.reduceSub, Nat.reduceMul, Nat.reduceDiv, Nat.reduceMod, reduceCtorEq, true_implies, false_implies, not_true_eq_false, not_false_eq_true, true_and, and_true, implies_true, and_false, false_and, forall_const, true_or, or_true, false_or, or_false, hp]
      exact no (by
        unfold mSel
        rw [← Bool.not_eq_true]
        intro r
        simp at r
        exact hp ⟨r.2.1, r.2.2⟩) ν1 f2' e2
  · have e : i = A 358 12 := by omega
    subst e
    simp (disch := omega) only [bo_q0, bo_q1, qN_le, qN_lt, qN_eq, qN_vp, qN_nat, qN_neg1, qN_neg, qN_nn, qN_lit, qN_add, qN_sub, qN_mul, qN_div, Bd_eq, reduceIte, Nat.add_sub_cancel, dm_l, Nat.zero_le, Nat.not_lt_zero, Nat.reduceEqDiff, Nat.reduceLT, Nat.reduceLeDiff, Nat.reduceAdd, Nat.reduceSub, Nat.reduceMul, Nat.reduceDiv, Nat.reduceMod, reduceCtorEq, true_implies, false_implies, not_true_eq_false, not_false_eq_true, true_and, and_true, implies_true, and_false, false_and, forall_const, true_or, or_true, false_or, or_false, G12_counts_L29, Ma_s12 hB, Nat.le_refl]
    exact hQ _ hC hs hT
