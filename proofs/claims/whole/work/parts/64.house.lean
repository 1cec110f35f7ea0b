/-! tallies by house, by name -/
def sH (A : Nat → Nat → Nat) (h : Nat) (i : Nat) : Bool := decide (A 367 i = h) && decide (A 373 i = 1)
theorem cnt_pos {P : Nat → Bool} {i : Nat} (hp : P i = true) : ∀ n, i < n → 0 < cnt P n
  | 0, h => absurd h (by omega)
  | n + 1, h => by
    show 0 < cnt P n + (P n).toNat
    by_cases e : i = n
    · subst e; rw [hp]; simp
    · have := cnt_pos hp n (by omega); omega
theorem cnt_zero {P : Nat → Bool} : ∀ n, (∀ i, i < n → P i = false) → cnt P n = 0
  | 0, _ => rfl
  | n + 1, h => by
    show cnt P n + (P n).toNat = 0
    rw [cnt_zero n (fun i hi => h i (by omega)), h n (by omega)]; rfl
/-- how many of a house are read -/
def hR (A : Nat → Nat → Nat) (h : Nat) : Nat := tc A (sH A h) 0 (A 358 12) + tc A (sH A h) 1 (A 358 12)
theorem c_hasRead {A : Nat → Nat → Nat} {μ : MM} {Q : Int32 → MM → Prop} (hI : ∀ f i, dom f i → A f i < bnd f i) (hA : Ca A μ) {h : Nat} (hh : h < 24) (hq : Q (if 0 < hR A h then 1 else 0) μ) : G10_hasRead (qN h) μ Q := by
  have hn : A 358 12 < 97 := hI 358 12 (by unfold dom; decide)
  refine Lp.up (A 358 12) (fun i x => x = (qN i, μ) ∧ ∀ j, j < i → sH A h j = false) ?_ ⟨rfl, fun j hj => absurd hj (by omega)⟩
  rintro i K hi hK _ ⟨rfl, hz⟩
  rcases Nat.lt_or_ge i (A 358 12) with hl | hl
  · have hk := hK hl
    have hi9 : i < 96 := by omega
    have b1 : A 367 i < 24 := hI 367 i (by unfold dom; omega)
    have b2 : A 368 i < 12 := hI 368 i (by unfold dom; omega)
    have b3 : A 373 i < 2 := hI 373 i (by unfold dom; omega)
    have b5 : A 360 (A 368 i) < 2 := hI 360 (A 368 i) (by unfold dom; omega)
    simp (disch := omega) only [bo_q0, bo_q1, qN_le, qN_lt, qN_eq, qN_vp, qN_nat, qN_neg1, qN_neg, qN_nn, qN_lit, qN_add, qN_sub, qN_mul, qN_div, Bd_eq, reduceIte, Nat.add_sub_cancel, dm_l, Nat.zero_le, Nat.not_lt_zero, Nat.reduceEqDiff, Nat.reduceLT, Nat.reduceLeDiff, Nat.reduceAdd, Nat.reduceSub, Nat.reduceMul, Nat.reduceDiv, Nat.reduceMod, reduceCtorEq, true_implies, false_implies, not_true_eq_false, not_false_eq_true, true_and, and_true, implies_true, and_false, false_and, forall_const, true_or, or_true, false_or, or_false, G10_hasRead_L2, Ca_s12 hA, Ca_367 hA, Ca_373 hA, hi9, Nat.not_le.mpr hl]
    have no : sH A h i = false → K (qN (i + 1), μ) := fun q => hk _ ⟨rfl, fun j hj => by
      by_cases e : j = i
      · rw [e]; exact q
      · exact hz j (by omega)⟩
    refine ⟨fun q => no (by unfold sH; simp [q]), fun q => ⟨fun q2 => no (by unfold sH; simp [q2]), fun q2 => ?_⟩⟩
    have q3 : A 373 i = 1 := by omega
    have : 0 < hR A h := by
      unfold hR tc
      rcases (show A 360 (A 368 i) = 0 ∨ A 360 (A 368 i) = 1 by omega) with r | r
      · have := cnt_pos (P := fun i => sH A h i && decide (zp A i = 0)) (i := i) (by simp [sH, zp, q, q3, r]) _ hl
        omega
      · have := cnt_pos (P := fun i => sH A h i && decide (zp A i = 1)) (i := i) (by simp [sH, zp, q, q3, r]) _ hl
        omega
    rw [if_pos this] at hq
    exact hq
  · have e : i = A 358 12 := by omega
    subst e
    have : ¬ 0 < hR A h := by
      unfold hR tc
      rw [cnt_zero _ (fun j hj => by simp [hz j hj]), cnt_zero _ (fun j hj => by simp [hz j hj])]
      omega
    rw [if_neg this] at hq
    simp (disch := omega) only [bo_q0, bo_q1, qN_le, qN_lt, qN_eq, qN_vp, qN_nat, qN_neg1, qN_neg, qN_nn, qN_lit, qN_add, qN_sub, qN_mul, qN_div, Bd_eq, reduceIte, Nat.add_sub_cancel, dm_l, Nat.zero_le, Nat.not_lt_zero, Nat.reduceEqDiff, Nat.reduceLT, Nat.reduceLeDiff, Nat.reduceAdd, Nat.reduceSub, Nat.reduceMul, Nat.reduceDiv, Nat.reduceMod, reduceCtorEq, true_implies, false_implies, not_true_eq_false, not_false_eq_true, true_and, and_true, implies_true, and_false, false_and, forall_const, true_or, or_true, false_or, or_false, G10_hasRead_L2, Ca_s12 hA, Nat.le_refl]
    exact hq
theorem c_rungIn {A : Nat → Nat → Nat} {μ : MM} {Q : Int32 → MM → Prop} (hI : ∀ f i, dom f i → A f i < bnd f i) (hR : ∀ i, i < 96 → A 374 i = 1 → A 373 i = 1) (hA : Ca A μ) {h p : Nat} (hh : h < 24) (hp : p < 2) (hq : Q (qN (tr A (sH A h) p (A 358 12))) μ) : G4_rungIn (qN h) (qN p) μ Q := by
  have hn : A 358 12 < 97 := hI 358 12 (by unfold dom; decide)
  refine Lp.upE (A 358 12) (fun i => (qN (tr A (sH A h) p i), qN i, μ)) ?_
  intro i K hi hK
  rcases Nat.lt_or_ge i (A 358 12) with hl | hl
  · have hk := hK hl
    have hi9 : i < 96 := by omega
    have b1 : A 367 i < 24 := hI 367 i (by unfold dom; omega)
    have b2 : A 368 i < 12 := hI 368 i (by unfold dom; omega)
    have b3 : A 373 i < 2 := hI 373 i (by unfold dom; omega)
    have b4 : A 374 i < 2 := hI 374 i (by unfold dom; omega)
    have b5 : A 360 (A 368 i) < 2 := hI 360 (A 368 i) (by unfold dom; omega)
    have r4 := hR i hi9
    have e : tr A (sH A h) p (i + 1) = tr A (sH A h) p i + (if A 367 i = h ∧ A 374 i = 1 ∧ A 360 (A 368 i) = p then 1 else 0) := by
      show _ + (sH A h i && decide (zp A i = p) && decide (A 374 i = 1)).toNat = _
      refine congrArg (tr A (sH A h) p i + ·) ?_
      unfold sH zp
      rcases (show A 374 i = 0 ∨ A 374 i = 1 by omega) with r | r
      · simp [r]
      · have r5 := r4 r
        by_cases r6 : A 367 i = h <;> by_cases r7 : A 360 (A 368 i) = p <;> simp [r, r5, r6, r7]
    rw [e] at hk
    simp (disch := omega) only [bo_q0, bo_q1, qN_le, qN_lt, qN_eq, qN_vp, qN_nat, qN_neg1, qN_neg, qN_nn, qN_lit, qN_add, qN_sub, qN_mul, qN_div, Bd_eq, reduceIte, Nat.add_sub_cancel, dm_l, Nat.zero_le, Nat.not_lt_zero, Nat.reduceEqDiff, Nat.reduceLT, Nat.reduceLeDiff, Nat.reduceAdd, Nat.reduceSub, Nat.reduceMul, Nat.reduceDiv, Nat.reduceMod, reduceCtorEq, true_implies, false_implies, not_true_eq_false, not_false_eq_true, true_and, and_true, implies_true, and_false, false_and, forall_const, true_or, or_true, false_or, or_false, G4_rungIn_L5, G4_rungIn_J64, G10_peopleOf, Ca_s12 hA, Ca_367 hA, Ca_374 hA, Ca_368 hA, Ca_360 hA, hi9, b2, Nat.not_le.mpr hl]
    refine ⟨fun q => ?_, fun q => ⟨fun q2 => ?_, fun q2 => ⟨fun q3 => ?_, fun q3 => ?_⟩⟩⟩
    · rw [if_neg (by omega)] at hk; exact hk
    · rw [if_neg (by omega)] at hk; exact hk
    · rw [if_neg (by omega)] at hk; exact hk
    · rw [if_pos (by omega)] at hk; exact hk
  · have e : i = A 358 12 := by omega
    subst e
    simp (disch := omega) only [bo_q0, bo_q1, qN_le, qN_lt, qN_eq, qN_vp, qN_nat, qN_neg1, qN_neg, qN_nn, qN_lit, qN_add, qN_sub, qN_mul, qN_div, Bd_eq, reduceIte, Nat.add_sub_cancel, dm_l, Nat.zero_le, Nat.not_lt_zero, Nat.reduceEqDiff, Nat.reduceLT, Nat.reduceLeDiff, Nat.reduceAdd, Nat.reduceSub, Nat.reduceMul, Nat.reduceDiv, Nat.reduceMod, reduceCtorEq, true_implies, false_implies, not_true_eq_false, not_false_eq_true, true_and, and_true, implies_true, and_false, false_and, forall_const, true_or, or_true, false_or, or_false, G4_rungIn_L5, Ca_s12 hA, Nat.le_refl]
    exact hq

theorem m_countsHouse {A X : Nat → Nat → Nat} {W : List Int64} {μ : MM} {Q : Int32 → MM → Prop} (hV : Inv A X) (h : Ms A X W μ) {a : Nat} (hh : a < 24)
    (hQ : ∀ μ', Ms A X W μ' → Sm (fun k _ => k = 390 ∨ k = 391) μ μ' → Tl μ' 389 A (sH A a) (A 358 12) → Q (qN (tc A (sH A a) 0 (A 358 12) + tc A (sH A a) 1 (A 358 12))) μ') : G12_countsHouse (qN a) μ Q := by
  have hn : A 358 12 < 97 := hV.b 358 12 (by unfold dom; decide)
  have toM : ∀ k j : Nat, (k = 390 ∨ k = 391) → mS k j := fun k j q => by unfold mS; omega
  unfold G12_countsHouse
  refine Lp.up 2 (fun i x => x.1 = qN i ∧ Sm (fun k _ => k = 390 ∨ k = 391) μ x.2 ∧ ∀ p, p < i → gI x.2 390 p = 0 ∧ gI x.2 391 p = 0) ?_ ⟨rfl, Sm.rfl', fun p hp => absurd hp (by omega)⟩
  rintro i K hi hK ⟨y, ν⟩ ⟨rfl, hs, hz⟩
  simp only at hs hz
  rcases Nat.lt_or_ge i 2 with hl | hl
  · simp (disch := omega) only [bo_q0, bo_q1, qN_le, qN_lt, qN_eq, qN_vp, qN_nat, qN_neg1, qN_neg, qN_nn, qN_lit, qN_add, qN_sub, qN_mul, qN_div, Bd_eq, reduceIte, Nat.add_sub_cancel, dm_l, Nat.zero_le, Nat.not_lt_zero, Nat.reduceEqDiff, Nat.reduceLT, Nat.reduceLeDiff, Nat.reduceAdd, Nat.reduceSub, Nat.reduceMul, Nat.reduceDiv, Nat.reduceMod, reduceCtorEq, true_implies, false_implies, not_true_eq_false, not_false_eq_true, true_and, and_true, implies_true, and_false, false_and, forall_const, true_or, or_true, false_or, or_false, G12_countsHouse_L2, Nat.not_le.mpr hl, hl]
    refine hK hl _ ⟨rfl, (hs.wI _ (Or.inl rfl)).wI _ (Or.inr rfl), fun p hp => ?_⟩
    simp only [gI_I, gI_J, gI_R, gJ_I, gJ_J, gJ_R, gR_I, gR_J, gR_R, Nat.reduceEqDiff, false_and, reduceIte, true_and]
    by_cases q : p = i
    · rw [if_pos q, if_pos q]; exact ⟨rfl, rfl⟩
    · rw [if_neg q, if_neg q]; exact hz p (by omega)
  have e : i = 2 := by omega
  subst e
  simp (disch := omega) only [bo_q0, bo_q1, qN_le, qN_lt, qN_eq, qN_vp, qN_nat, qN_neg1, qN_neg, qN_nn, qN_lit, qN_add, qN_sub, qN_mul, qN_div, Bd_eq, reduceIte, Nat.add_sub_cancel, dm_l, Nat.zero_le, Nat.not_lt_zero, Nat.reduceEqDiff, Nat.reduceLT, Nat.reduceLeDiff, Nat.reduceAdd, Nat.reduceSub, Nat.reduceMul, Nat.reduceDiv, Nat.reduceMod, reduceCtorEq, true_implies, false_implies, not_true_eq_false, not_false_eq_true, true_and, and_true, implies_true, and_false, false_and, forall_const, true_or, or_true, false_or, or_false, G12_countsHouse_L2]
  clear hK K
  refine Lp.up (A 358 12) (fun i x => x.1 = qN i ∧ Sm (fun k _ => k = 390 ∨ k = 391) μ x.2 ∧ Tl x.2 389 A (sH A a) i) ?_ ⟨rfl, hs, Tl_0 hz⟩
  clear hz hs
  rintro i K hi hK ⟨y, ν⟩ ⟨rfl, hs, hT⟩
  simp only at hs hT
  have hC := h.sm (mn378 hV) (hs.mo toM)
  have hB := hC.1
  rcases Nat.lt_or_ge i (A 358 12) with hl | hl
  · have hk := hK hl
    have hi9 : i < 96 := by omega
    have b1 : A 367 i < 24 := hV.b 367 i (by unfold dom; omega)
    have b2 : A 368 i < 12 := hV.b 368 i (by unfold dom; omega)
    have b3 : A 373 i < 2 := hV.b 373 i (by unfold dom; omega)
    have b4 : A 374 i < 2 := hV.b 374 i (by unfold dom; omega)
    have b5 : A 360 (A 368 i) < 2 := hV.b 360 (A 368 i) (by unfold dom; omega)
    have no : (sH A a) i = false → K (qN (i + 1), ν) := fun q => hk _ ⟨rfl, hs, Tl_no hT q⟩
    have yes : (sH A a) i = true → K (qN (i + 1), sI (sI ν 390 (A 360 (A 368 i)) (gI ν 390 (A 360 (A 368 i)) + qN 1)) 391 (A 360 (A 368 i)) (gI ν 391 (A 360 (A 368 i)) + qN (A 374 i))) := fun q =>
      hk _ ⟨rfl, (hs.wI _ (Or.inl rfl)).wI _ (Or.inr rfl), Tl_yes hT q b4 (fun p hp2 => by
        simp only [gI_I, gI_J, gI_R, gJ_I, gJ_J, gJ_R, gR_I, gR_J, gR_R, Nat.reduceEqDiff, Nat.reduceAdd, false_and, reduceIte, true_and, qN_lit, show zp A i = A 360 (A 368 i) from rfl]
        refine ⟨?_, ?_⟩ <;> split
        · rename_i e; rw [e]
        · rfl
        · rename_i e; rw [e]
        · rfl)⟩
    simp (disch := omega) only [bo_q0, bo_q1, qN_le, qN_lt, qN_eq, qN_vp, qN_nat, qN_neg1, qN_neg, qN_nn, qN_lit, qN_add, qN_sub, qN_mul, qN_div, Bd_eq, reduceIte, Nat.add_sub_cancel, dm_l, Nat.zero_le, Nat.not_lt_zero, Nat.reduceEqDiff, Nat.reduceLT, Nat.reduceLeDiff, Nat.reduceAdd, Nat.reduceSub, Nat.reduceMul, Nat.reduceDiv, Nat.reduceMod, reduceCtorEq, true_implies, false_implies, not_true_eq_false, not_false_eq_true, true_and, and_true, implies_true, and_false, false_and, forall_const, true_or, or_true, false_or, or_false, G12_countsHouse_L29, Ma_s12 hB, Ma_367 hB, Ma_373 hB, hi9, Nat.not_le.mpr hl, G12_peopleOf, Ma_368 hB, Ma_360 hB, Ma_374 hB, b2, b5, flag_q, gI_I, gI_J, gI_R, gJ_I, gJ_J, gJ_R, gR_I, gR_J, gR_R]
    refine ⟨fun q => no (by unfold sH; simp [q]), fun q => ⟨fun q2 => no (by unfold sH; simp [q2]), fun q2 => yes ?_⟩⟩
    have q3 : A 373 i = 1 := by omega
    unfold sH
    simp [q, q3]
  · have e : i = A 358 12 := by omega
    subst e
    have s0 := tc_sum A (sH A a) (A 358 12)
    have g0 : gI ν 390 0 = qN (tc A (sH A a) 0 (A 358 12)) := (hT 0 (by decide)).1
    have g1 : gI ν 390 1 = qN (tc A (sH A a) 1 (A 358 12)) := (hT 1 (by decide)).1
    simp (disch := omega) only [bo_q0, bo_q1, qN_le, qN_lt, qN_eq, qN_vp, qN_nat, qN_neg1, qN_neg, qN_nn, qN_lit, qN_add, qN_sub, qN_mul, qN_div, Bd_eq, reduceIte, Nat.add_sub_cancel, dm_l, Nat.zero_le, Nat.not_lt_zero, Nat.reduceEqDiff, Nat.reduceLT, Nat.reduceLeDiff, Nat.reduceAdd, Nat.reduceSub, Nat.reduceMul, Nat.reduceDiv, Nat.reduceMod, reduceCtorEq, true_implies, false_implies, not_true_eq_false, not_false_eq_true, true_and, and_true, implies_true, and_false, false_and, forall_const, true_or, or_true, false_or, or_false, G12_countsHouse_L29, Ma_s12 hB, Nat.le_refl, g0, g1]
    exact hQ _ hC hs hT

def byW (A : Nat → Nat → Nat) (w i : Nat) : Nat := if w = 0 then A 371 i else if w = 1 then A 364 (A 367 i) else if w = 2 then A 365 (A 367 i) else A 370 i
def sB (A : Nat → Nat → Nat) (w v : Nat) (i : Nat) : Bool := decide (A 373 i = 1) && decide (byW A w i = v)
theorem byW_lt {A : Nat → Nat → Nat} (hI : ∀ f i, dom f i → A f i < bnd f i) {w i : Nat} (hi : i < 96) : byW A w i < 10 := by
  have b1 : A 367 i < 24 := hI 367 i (by unfold dom; omega)
  have c1 : A 371 i < 4 := hI 371 i (by unfold dom; omega)
  have c2 : A 364 (A 367 i) < 4 := hI 364 (A 367 i) (by unfold dom; omega)
  have c3 : A 365 (A 367 i) < 4 := hI 365 (A 367 i) (by unfold dom; omega)
  have c4 : A 370 i < 10 := hI 370 i (by unfold dom; omega)
  unfold byW
  split
  · omega
  · split
    · omega
    · split <;> omega
theorem m_byWhat {A : Nat → Nat → Nat} {μ : MM} {Q : Int32 → MM → Prop} (hI : ∀ f i, dom f i → A f i < bnd f i) (hA : Ma A μ) {w i : Nat} (hw : w < 4) (hi : i < 96) : G12_byWhat (qN w) (qN i) μ Q ↔ Q (qN (byW A w i)) μ := by
  have b1 : A 367 i < 24 := hI 367 i (by unfold dom; omega)
  rcases (show w = 0 ∨ w = 1 ∨ w = 2 ∨ w = 3 by omega) with rfl | rfl | rfl | rfl
  all_goals
    simp (disch := omega) only [bo_q0, bo_q1, qN_le, qN_lt, qN_eq, qN_vp, qN_nat, qN_neg1, qN_neg, qN_nn, qN_lit, qN_add, qN_sub, qN_mul, qN_div, Bd_eq, reduceIte, Nat.add_sub_cancel, dm_l, Nat.zero_le, Nat.not_lt_zero, Nat.reduceEqDiff, Nat.reduceLT, Nat.reduceLeDiff, Nat.reduceAdd, Nat.reduceSub, Nat.reduceMul, Nat.reduceDiv, Nat.reduceMod, reduceCtorEq, true_implies, false_implies, not_true_eq_false, not_false_eq_true, true_and, and_true, implies_true, and_false, false_and, forall_const, true_or, or_true, false_or, or_false, G12_byWhat, Ma_371 hA, Ma_364 hA, Ma_365 hA, Ma_367 hA, Ma_370 hA, hi, b1, byW]
theorem c_valueOf {A : Nat → Nat → Nat} {μ : MM} {Q : Int32 → MM → Prop} (hI : ∀ f i, dom f i → A f i < bnd f i) (hA : Ca A μ) {w i : Nat} (hw : w < 4) (hi : i < 96) : G2_valueOf (19 + i) (qN w) μ Q ↔ Q (qN (byW A w i)) μ := by
  have b1 : A 367 i < 24 := hI 367 i (by unfold dom; omega)
  rcases (show w = 0 ∨ w = 1 ∨ w = 2 ∨ w = 3 by omega) with rfl | rfl | rfl | rfl
  all_goals
    simp (disch := omega) only [bo_q0, bo_q1, qN_le, qN_lt, qN_eq, qN_vp, qN_nat, qN_neg1, qN_neg, qN_nn, qN_lit, qN_add, qN_sub, qN_mul, qN_div, Bd_eq, reduceIte, Nat.add_sub_cancel, dm_l, Nat.zero_le, Nat.not_lt_zero, Nat.reduceEqDiff, Nat.reduceLT, Nat.reduceLeDiff, Nat.reduceAdd, Nat.reduceSub, Nat.reduceMul, Nat.reduceDiv, Nat.reduceMod, reduceCtorEq, true_implies, false_implies, not_true_eq_false, not_false_eq_true, true_and, and_true, implies_true, and_false, false_and, forall_const, true_or, or_true, false_or, or_false, G2_valueOf, Ca_371 hA, Ca_364 hA, Ca_365 hA, Ca_367 hA, Ca_370 hA, hi, b1, byW]

theorem m_countsBy {A X : Nat → Nat → Nat} {W : List Int64} {μ : MM} {Q :  MM → Prop} (hV : Inv A X) (h : Ms A X W μ) {w v : Nat} (hw : w < 4) (hv : v < 2147483648)
    (hQ : ∀ μ', Ms A X W μ' → Sm (fun k _ => k = 381 ∨ k = 382) μ μ' → Tl μ' 380 A (sB A w v) (A 358 12) → Q  μ') : G12_countsBy (qN w) (qN v) μ Q := by
  have hn : A 358 12 < 97 := hV.b 358 12 (by unfold dom; decide)
  have toM : ∀ k j : Nat, (k = 381 ∨ k = 382) → mS k j := fun k j q => by unfold mS; omega
  unfold G12_countsBy
  refine Lp.up 2 (fun i x => x.1 = qN i ∧ Sm (fun k _ => k = 381 ∨ k = 382) μ x.2 ∧ ∀ p, p < i → gI x.2 381 p = 0 ∧ gI x.2 382 p = 0) ?_ ⟨rfl, Sm.rfl', fun p hp => absurd hp (by omega)⟩
  rintro i K hi hK ⟨y, ν⟩ ⟨rfl, hs, hz⟩
  simp only at hs hz
  rcases Nat.lt_or_ge i 2 with hl | hl
  · simp (disch := omega) only [bo_q0, bo_q1, qN_le, qN_lt, qN_eq, qN_vp, qN_nat, qN_neg1, qN_neg, qN_nn, qN_lit, qN_add, qN_sub, qN_mul, qN_div, Bd_eq, reduceIte, Nat.add_sub_cancel, dm_l, Nat.zero_le, Nat.not_lt_zero, Nat.reduceEqDiff, Nat.reduceLT, Nat.reduceLeDiff, Nat.reduceAdd, Nat.reduceSub, Nat.reduceMul, Nat.reduceDiv, Nat.reduceMod, reduceCtorEq, true_implies, false_implies, not_true_eq_false, not_false_eq_true, true_and, and_true, implies_true, and_false, false_and, forall_const, true_or, or_true, false_or, or_false, G12_countsBy_L2, Nat.not_le.mpr hl, hl]
    refine hK hl _ ⟨rfl, (hs.wI _ (Or.inl rfl)).wI _ (Or.inr rfl), fun p hp => ?_⟩
    simp only [gI_I, gI_J, gI_R, gJ_I, gJ_J, gJ_R, gR_I, gR_J, gR_R, Nat.reduceEqDiff, false_and, reduceIte, true_and]
    by_cases q : p = i
    · rw [if_pos q, if_pos q]; exact ⟨rfl, rfl⟩
    · rw [if_neg q, if_neg q]; exact hz p (by omega)
  have e : i = 2 := by omega
  subst e
  simp (disch := omega) only [bo_q0, bo_q1, qN_le, qN_lt, qN_eq, qN_vp, qN_nat, qN_neg1, qN_neg, qN_nn, qN_lit, qN_add, qN_sub, qN_mul, qN_div, Bd_eq, reduceIte, Nat.add_sub_cancel, dm_l, Nat.zero_le, Nat.not_lt_zero, Nat.reduceEqDiff, Nat.reduceLT, Nat.reduceLeDiff, Nat.reduceAdd, Nat.reduceSub, Nat.reduceMul, Nat.reduceDiv, Nat.reduceMod, reduceCtorEq, true_implies, false_implies, not_true_eq_false, not_false_eq_true, true_and, and_true, implies_true, and_false, false_and, forall_const, true_or, or_true, false_or, or_false, G12_countsBy_L2]
  clear hK K
  refine Lp.up (A 358 12) (fun i x => x.1 = qN i ∧ Sm (fun k _ => k = 381 ∨ k = 382) μ x.2 ∧ Tl x.2 380 A (sB A w v) i) ?_ ⟨rfl, hs, Tl_0 hz⟩
  clear hz hs
  rintro i K hi hK ⟨y, ν⟩ ⟨rfl, hs, hT⟩
  simp only at hs hT
  have hC := h.sm (mn378 hV) (hs.mo toM)
  have hB := hC.1
  rcases Nat.lt_or_ge i (A 358 12) with hl | hl
  · have hk := hK hl
    have hi9 : i < 96 := by omega
    have b1 : A 367 i < 24 := hV.b 367 i (by unfold dom; omega)
    have b2 : A 368 i < 12 := hV.b 368 i (by unfold dom; omega)
    have b3 : A 373 i < 2 := hV.b 373 i (by unfold dom; omega)
    have b4 : A 374 i < 2 := hV.b 374 i (by unfold dom; omega)
    have b5 : A 360 (A 368 i) < 2 := hV.b 360 (A 368 i) (by unfold dom; omega)
    have bw : byW A w i < 10 := byW_lt hV.b hi9
    have no : (sB A w v) i = false → K (qN (i + 1), ν) := fun q => hk _ ⟨rfl, hs, Tl_no hT q⟩
    have yes : (sB A w v) i = true → K (qN (i + 1), sI (sI ν 381 (A 360 (A 368 i)) (gI ν 381 (A 360 (A 368 i)) + qN 1)) 382 (A 360 (A 368 i)) (gI ν 382 (A 360 (A 368 i)) + qN (A 374 i))) := fun q =>
      hk _ ⟨rfl, (hs.wI _ (Or.inl rfl)).wI _ (Or.inr rfl), Tl_yes hT q b4 (fun p hp2 => by
        simp only [gI_I, gI_J, gI_R, gJ_I, gJ_J, gJ_R, gR_I, gR_J, gR_R, Nat.reduceEqDiff, Nat.reduceAdd, false_and, reduceIte, true_and, qN_lit, show zp A i = A 360 (A 368 i) from rfl]
        refine ⟨?_, ?_⟩ <;> split
        · rename_i e; rw [e]
        · rfl
        · rename_i e; rw [e]
        · rfl)⟩
    simp (disch := omega) only [bo_q0, bo_q1, qN_le, qN_lt, qN_eq, qN_vp, qN_nat, qN_neg1, qN_neg, qN_nn, qN_lit, qN_add, qN_sub, qN_mul, qN_div, Bd_eq, reduceIte, Nat.add_sub_cancel, dm_l, Nat.zero_le, Nat.not_lt_zero, Nat.reduceEqDiff, Nat.reduceLT, Nat.reduceLeDiff, Nat.reduceAdd, Nat.reduceSub, Nat.reduceMul, Nat.reduceDiv, Nat.reduceMod, reduceCtorEq, true_implies, false_implies, not_true_eq_false, not_false_eq_true, true_and, and_true, implies_true, and_false, false_and, forall_const, true_or, or_true, false_or, or_false, G12_countsBy_L29, Ma_s12 hB, Ma_373 hB, m_byWhat hV.b hB, hi9, Nat.not_le.mpr hl, G12_peopleOf, Ma_368 hB, Ma_360 hB, Ma_374 hB, b2, b5, flag_q, gI_I, gI_J, gI_R, gJ_I, gJ_J, gJ_R, gR_I, gR_J, gR_R]
    refine ⟨fun q => no (by unfold sB; simp [q]), fun q => ⟨fun q2 => no (by unfold sB; simp [q2]), fun q2 => yes ?_⟩⟩
    have q3 : A 373 i = 1 := by omega
    unfold sB
    simp [q2, q3]
  · have e : i = A 358 12 := by omega
    subst e
    have s0 := tc_sum A (sB A w v) (A 358 12)
    simp (disch := omega) only [bo_q0, bo_q1, qN_le, qN_lt, qN_eq, qN_vp, qN_nat, qN_neg1, qN_neg, qN_nn, qN_lit, qN_add, qN_sub, qN_mul, qN_div, Bd_eq, reduceIte, Nat.add_sub_cancel, dm_l, Nat.zero_le, Nat.not_lt_zero, Nat.reduceEqDiff, Nat.reduceLT, Nat.reduceLeDiff, Nat.reduceAdd, Nat.reduceSub, Nat.reduceMul, Nat.reduceDiv, Nat.reduceMod, reduceCtorEq, true_implies, false_implies, not_true_eq_false, not_false_eq_true, true_and, and_true, implies_true, and_false, false_and, forall_const, true_or, or_true, false_or, or_false, G12_countsBy_L29, Ma_s12 hB, Nat.le_refl]
    exact hQ _ hC hs hT

def sW (A : Nat → Nat → Nat) (lo hi : Nat) (i : Nat) : Bool := decide (A 373 i = 1) && decide (lo ≤ A 369 i ∧ A 369 i ≤ hi)
theorem within_q {a b c : Nat} (ha : a < 2147483648) (hb : b < 2147483648) (hc : c < 2147483648) {μ : MM} {Q : Int32 → MM → Prop} : G11_within (qN a) (qN b) (qN c) μ Q ↔ Q (if b ≤ a ∧ a ≤ c then qN 1 else qN 0) μ := by
  unfold G11_within G11_within_J14
  rw [qN_lt ha hb, qN_lt hc ha]
  by_cases h : b ≤ a ∧ a ≤ c
  · rw [if_pos h]
    exact ⟨fun q => (q.2 (by omega)).2 (by omega), fun q => ⟨fun r => absurd r (by omega), fun _ => ⟨fun r => absurd r (by omega), fun _ => q⟩⟩⟩
  · rw [if_neg h]
    refine ⟨fun q => ?_, fun q => ⟨fun _ => q, fun _ => ⟨fun _ => q, fun r => absurd ⟨by omega, by omega⟩ h⟩⟩⟩
    by_cases h2 : a < b
    · exact q.1 h2
    · exact (q.2 h2).1 (by omega)

theorem c_gatherWorth {A X : Nat → Nat → Nat} {W : List Int64} {μ : MM} {Q : MM → Prop} (hV : Inv A X) (h : Cs A X W μ) {lo mx : Nat} (hlo : lo < 2147483648) (hhi : mx < 2147483648) {t : Nat} (ht : 203 ≤ t) (ht2 : t ≤ 234)
    (hQ : ∀ μ', Cs A X W μ' → Sm (fun k _ => k = t + 1 ∨ k = t + 2) μ μ' → Tl μ' t A (sW A lo mx) (A 358 12) → Q μ') : G2_gatherWorth t (qN lo) (qN mx) μ Q := by
  have hn : A 358 12 < 97 := hV.b 358 12 (by unfold dom; decide)
  have gc : ∀ k j : Nat, (k = t + 1 ∨ k = t + 2) → cS k j := fun k j q => by unfold cS; omega
  unfold G2_gatherWorth
  refine c_tclear (fun μ1 f1 z1 => ?_)
  refine Lp.up (A 358 12) (fun i x => x.1 = qN i ∧ Sm (fun k _ => k = t + 1 ∨ k = t + 2) μ x.2 ∧ Tl x.2 t A (sW A lo mx) i) ?_ ⟨rfl, f1, Tl_0 z1⟩
  rintro i K hi hK ⟨y, ν⟩ ⟨rfl, hs, hT⟩
  simp only at hs hT
  have hC := h.sm (hs.mo gc)
  have hB := hC.1
  rcases Nat.lt_or_ge i (A 358 12) with hl | hl
  · have hk := hK hl
    have hi9 : i < 96 := by omega
    have b1 : A 367 i < 24 := hV.b 367 i (by unfold dom; omega)
    have b2 : A 368 i < 12 := hV.b 368 i (by unfold dom; omega)
    have b3 : A 373 i < 2 := hV.b 373 i (by unfold dom; omega)
    have b4 : A 374 i < 2 := hV.b 374 i (by unfold dom; omega)
    have b5 : A 360 (A 368 i) < 2 := hV.b 360 (A 368 i) (by unfold dom; omega)
    have b6 : A 369 i < 100 := hV.b 369 i (by unfold dom; omega)
    have no : (sW A lo mx) i = false → K (qN (i + 1), ν) := fun q => hk _ ⟨rfl, hs, Tl_no hT q⟩
    have yes : (sW A lo mx) i = true → G9_note t (qN (A 360 (A 368 i))) (qN (A 374 i)) ν (fun μ17 => K (qN (i + 1), μ17)) := fun q =>
      c_note b5 b4 (fun ν2 f3 e3 => hk _ ⟨rfl, hs.tr f3, Tl_yes hT q b4 e3⟩)
    simp (disch := omega) only [bo_q0, bo_q1, qN_le, qN_lt, qN_eq, qN_vp, qN_nat, qN_neg1, qN_neg, qN_nn, qN_lit, qN_add, qN_sub, qN_mul, qN_div, Bd_eq, reduceIte, Nat.add_sub_cancel, dm_l, Nat.zero_le, Nat.not_lt_zero, Nat.reduceEqDiff, Nat.reduceLT, Nat.reduceLeDiff, Nat.reduceAdd, Nat.reduceSub, Nat.reduceMul, Nat.reduceDiv, Nat.reduceMod, reduceCtorEq, true_implies, false_implies, not_true_eq_false, not_false_eq_true, true_and, and_true, implies_true, and_false, false_and, forall_const, true_or, or_true, false_or, or_false, G2_gatherWorth_L7, Ca_s12 hB, Ca_373 hB, Ca_369 hB, hi9, Nat.not_le.mpr hl, G10_peopleOf, Ca_368 hB, Ca_360 hB, Ca_374 hB, b2]
    refine ⟨fun q => no (by unfold sW; simp [q]), fun q => ?_⟩
    have q3 : A 373 i = 1 := by omega
    rw [within_q (by omega) hlo hhi]
    by_cases q4 : lo ≤ A 369 i ∧ A 369 i ≤ mx
    · simp (disch := omega) only [bo_q0, bo_q1, qN_le, qN_lt, qN_eq, qN_vp, qN_nat, qN_neg1, qN_neg, qN_nn, qN_lit, qN_add, qN_sub, qN_mul, qN_div, Bd_eq, reduceIte, Nat.add_sub_cancel, dm_l, Nat.zero_le, Nat.not_lt_zero, Nat.reduceEqDiff, Nat.reduceLT, Nat.reduceLeDiff, Nat.reduceAdd, Nat.reduceSub, Nat.reduceMul, Nat.reduceDiv, Nat.reduceMod, reduceCtorEq, true_implies, false_implies, not_true_eq_false, not_false_eq_true, true_and, and_true, implies_true, and_false, false_and, forall_const, true_or, or_true, false_or, or_false, q4, and_self, G10_peopleOf, Ca_368 hB, Ca_360 hB, Ca_374 hB, b2, hi9]
      exact yes (by unfold sW; simp [q3, q4])
    · simp (disch := omega) only [bo_q0, bo_q1, qN_le, qN_lt, qN_eq, qN_vp, qN_nat, qN_neg1, qN_neg, qN_nn, qN_lit, qN_add, qN_sub, qN_mul, qN_div, Bd_eq, reduceIte, Nat.add_sub_cancel, dm_l, Nat.zero_le, Nat.not_lt_zero, Nat.reduceEqDiff, Nat.reduceLT, Nat.reduceLeDiff, Nat.reduceAdd, Nat.reduceSub, Nat.reduceMul, Nat.reduceDiv, Nat.reduceMod, reduceCtorEq, true_implies, false_implies, not_true_eq_false, not_false_eq_true, true_and, and_true, implies_true, and_false, false_and, forall_const, true_or, or_true, false_or, or_false, q4]
      refine no ?_
      have e4 : decide (lo ≤ A 369 i ∧ A 369 i ≤ mx) = false := decide_eq_false q4
      unfold sW
      rw [e4, Bool.and_false]
  · have e : i = A 358 12 := by omega
    subst e
    simp (disch := omega) only [bo_q0, bo_q1, qN_le, qN_lt, qN_eq, qN_vp, qN_nat, qN_neg1, qN_neg, qN_nn, qN_lit, qN_add, qN_sub, qN_mul, qN_div, Bd_eq, reduceIte, Nat.add_sub_cancel, dm_l, Nat.zero_le, Nat.not_lt_zero, Nat.reduceEqDiff, Nat.reduceLT, Nat.reduceLeDiff, Nat.reduceAdd, Nat.reduceSub, Nat.reduceMul, Nat.reduceDiv, Nat.reduceMod, reduceCtorEq, true_implies, false_implies, not_true_eq_false, not_false_eq_true, true_and, and_true, implies_true, and_false, false_and, forall_const, true_or, or_true, false_or, or_false, G2_gatherWorth_L7, Ca_s12 hB, Nat.le_refl]
    exact hQ _ hC hs hT

/-- the model counts worth for one people at a time -/
theorem m_countsWorth {A X : Nat → Nat → Nat} {W : List Int64} {μ : MM} {Q : MM → Prop} (hV : Inv A X) (h : Ms A X W μ) {p v : Nat} (hp : p < 2) (hv : v < 2147483648)
    (hQ : ∀ μ', Ms A X W μ' → Sm (fun k j => (k = 381 ∨ k = 382) ∧ j = p) μ μ' → gI μ' 381 p = qN (tc A (sW A v 99) p (A 358 12)) → gI μ' 382 p = qN (tr A (sW A v 99) p (A 358 12)) → Q μ') : G12_countsWorth (qN p) (qN v) μ Q := by
  have hn : A 358 12 < 97 := hV.b 358 12 (by unfold dom; decide)
  have toM : ∀ k j : Nat, ((k = 381 ∨ k = 382) ∧ j = p) → mS k j := fun k j q => by unfold mS; omega
  unfold G12_countsWorth
  simp (disch := omega) only [bo_q0, bo_q1, qN_le, qN_lt, qN_eq, qN_vp, qN_nat, qN_neg1, qN_neg, qN_nn, qN_lit, qN_add, qN_sub, qN_mul, qN_div, Bd_eq, reduceIte, Nat.add_sub_cancel, dm_l, Nat.zero_le, Nat.not_lt_zero, Nat.reduceEqDiff, Nat.reduceLT, Nat.reduceLeDiff, Nat.reduceAdd, Nat.reduceSub, Nat.reduceMul, Nat.reduceDiv, Nat.reduceMod, reduceCtorEq, true_implies, false_implies, not_true_eq_false, not_false_eq_true, true_and, and_true, implies_true, and_false, false_and, forall_const, true_or, or_true, false_or, or_false, hp]
  refine Lp.up (A 358 12) (fun i x => x.1 = qN i ∧ Sm (fun k j => (k = 381 ∨ k = 382) ∧ j = p) μ x.2 ∧ gI x.2 381 p = qN (tc A (sW A v 99) p i) ∧ gI x.2 382 p = qN (tr A (sW A v 99) p i)) ?_ ⟨rfl, (Sm.rfl'.wI _ ⟨Or.inl rfl, rfl⟩).wI _ ⟨Or.inr rfl, rfl⟩, by simp [gI_I, tc, cnt], by simp [gI_I, tr, cnt]⟩
  rintro i K hi hK ⟨y, ν⟩ ⟨rfl, hs, e0, e1⟩
  simp only at hs e0 e1
  have hC := h.sm (mn378 hV) (hs.mo toM)
  have hB := hC.1
  rcases Nat.lt_or_ge i (A 358 12) with hl | hl
  · have hk := hK hl
    have hi9 : i < 96 := by omega
    have b2 : A 368 i < 12 := hV.b 368 i (by unfold dom; omega)
    have b3 : A 373 i < 2 := hV.b 373 i (by unfold dom; omega)
    have b4 : A 374 i < 2 := hV.b 374 i (by unfold dom; omega)
    have b6 : A 369 i < 100 := hV.b 369 i (by unfold dom; omega)
    have b5 : A 360 (A 368 i) < 2 := hV.b 360 (A 368 i) (by unfold dom; omega)
    have t1 : tc A (sW A v 99) p (i + 1) = tc A (sW A v 99) p i + (if A 373 i = 1 ∧ A 360 (A 368 i) = p ∧ v ≤ A 369 i then 1 else 0) := by
      show _ + (sW A v 99 i && decide (zp A i = p)).toNat = _
      refine congrArg (tc A (sW A v 99) p i + ·) ?_
      have : A 369 i ≤ 99 := by omega
      unfold sW zp
      by_cases r1 : A 373 i = 1 <;> by_cases r2 : A 360 (A 368 i) = p <;> by_cases r3 : v ≤ A 369 i <;> simp [r1, r2, r3, this]
    have t2 : tr A (sW A v 99) p (i + 1) = tr A (sW A v 99) p i + (if A 373 i = 1 ∧ A 360 (A 368 i) = p ∧ v ≤ A 369 i then A 374 i else 0) := by
      show _ + (sW A v 99 i && decide (zp A i = p) && decide (A 374 i = 1)).toNat = _
      refine congrArg (tr A (sW A v 99) p i + ·) ?_
      have : A 369 i ≤ 99 := by omega
      unfold sW zp
      rcases (show A 374 i = 0 ∨ A 374 i = 1 by omega) with r4 | r4 <;>
        by_cases r1 : A 373 i = 1 <;> by_cases r2 : A 360 (A 368 i) = p <;> by_cases r3 : v ≤ A 369 i <;> simp [r1, r2, r3, r4, this]
    have no : ¬ (A 373 i = 1 ∧ A 360 (A 368 i) = p ∧ v ≤ A 369 i) → K (qN (i + 1), ν) := fun q => hk _ ⟨rfl, hs, by rw [t1, if_neg q]; exact e0, by rw [t2, if_neg q]; exact e1⟩
    simp (disch := omega) only [bo_q0, bo_q1, qN_le, qN_lt, qN_eq, qN_vp, qN_nat, qN_neg1, qN_neg, qN_nn, qN_lit, qN_add, qN_sub, qN_mul, qN_div, Bd_eq, reduceIte, Nat.add_sub_cancel, dm_l, Nat.zero_le, Nat.not_lt_zero, Nat.reduceEqDiff, Nat.reduceLT, Nat.reduceLeDiff, Nat.reduceAdd, Nat.reduceSub, Nat.reduceMul, Nat.reduceDiv, Nat.reduceMod, reduceCtorEq, true_implies, false_implies, not_true_eq_false, not_false_eq_true, true_and, and_true, implies_true, and_false, false_and, forall_const, true_or, or_true, false_or, or_false, G12_countsWorth_L16, Ma_s12 hB, Ma_373 hB, Ma_369 hB, hi9, Nat.not_le.mpr hl, G12_peopleOf, Ma_368 hB, Ma_360 hB, Ma_374 hB, b2, hp, flag_q, gI_I, gI_J, gI_R, gJ_I, gJ_J, gJ_R, gR_I, gR_J, gR_R, e0, e1]
    refine ⟨fun q => no (by omega), fun q => ⟨fun q2 => no (by omega), fun q2 => ⟨fun q3 => no (by omega), fun q3 => ?_⟩⟩⟩
    refine hk _ ⟨rfl, (hs.wI _ ⟨Or.inl rfl, rfl⟩).wI _ ⟨Or.inr rfl, rfl⟩, ?_, ?_⟩
    · simp only [gI_I, gI_J, gI_R, gJ_I, gJ_J, gJ_R, gR_I, gR_J, gR_R, Nat.reduceEqDiff, false_and, reduceIte, true_and]
      rw [t1, if_pos (by omega)]
    · simp only [gI_I, gI_J, gI_R, gJ_I, gJ_J, gJ_R, gR_I, gR_J, gR_R, Nat.reduceEqDiff, false_and, reduceIte, true_and]
      rw [t2, if_pos (by omega)]
  · have e : i = A 358 12 := by omega
    subst e
    simp (disch := omega) only [bo_q0, bo_q1, qN_le, qN_lt, qN_eq, qN_vp, qN_nat, qN_neg1, qN_neg, qN_nn, qN_lit, qN_add, qN_sub, qN_mul, qN_div, Bd_eq, reduceIte, Nat.add_sub_cancel, dm_l, Nat.zero_le, Nat.not_lt_zero, Nat.reduceEqDiff, Nat.reduceLT, Nat.reduceLeDiff, Nat.reduceAdd, Nat.reduceSub, Nat.reduceMul, Nat.reduceDiv, Nat.reduceMod, reduceCtorEq, true_implies, false_implies, not_true_eq_false, not_false_eq_true, true_and, and_true, implies_true, and_false, false_and, forall_const, true_or, or_true, false_or, or_false, G12_countsWorth_L16, Ma_s12 hB, Nat.le_refl]
    exact hQ _ hC hs e0 e1
