/-! kinds: how likely -/
def rgk (A : Nat → Nat → Nat) (k i : Nat) : Nat := if zp A i = 0 then A 387 k else A 388 k
def lkf (A : Nat → Nat → Nat) (h k n : Nat) : Nat := if sH A h n = true then (if A 374 n = 0 then 100 - rgk A k n else rgk A k n) else 1
def lk (A : Nat → Nat → Nat) (h k : Nat) : Nat → Nat
  | 0 => 1
  | n + 1 => lk A h k n * lkf A h k n
theorem rgk_le {A : Nat → Nat → Nat} (hI : ∀ f i, dom f i → A f i < bnd f i) {k : Nat} (hk : k < 4) (i : Nat) : rgk A k i ≤ 100 := by
  have b1 : A 387 k < 101 := hI 387 k (by unfold dom; omega)
  have b2 : A 388 k < 101 := hI 388 k (by unfold dom; omega)
  unfold rgk
  split <;> omega
theorem lk_le {A : Nat → Nat → Nat} (hI : ∀ f i, dom f i → A f i < bnd f i) {h k : Nat} (hk : k < 4) : ∀ n, lk A h k n ≤ 100 ^ cnt (fun i => decide (A 367 i = h)) n
  | 0 => Nat.le_refl _
  | n + 1 => by
    have ih := lk_le hI (h := h) hk n
    have r := rgk_le hI hk n
    show lk A h k n * lkf A h k n ≤ 100 ^ (cnt (fun i => decide (A 367 i = h)) n + (decide (A 367 n = h)).toNat)
    by_cases q : A 367 n = h
    · simp only [q, decide_true, Bool.toNat_true, Nat.pow_succ]
      refine Nat.mul_le_mul ih ?_
      unfold lkf
      split
      · split <;> omega
      · omega
    · have e : lkf A h k n = 1 := by unfold lkf sH; simp [q]
      simp only [q, decide_false, Bool.toNat_false, Nat.add_zero, e, Nat.mul_one]
      exact ih
theorem lk_b {A X : Nat → Nat → Nat} (hV : Inv A X) {h k n : Nat} (hk : k < 4) (hn : n ≤ A 358 12) : lk A h k n ≤ 100000000 := by
  have h1 := lk_le hV.b (h := h) hk n
  have h2 := Nat.le_trans (cnt_up (P := fun i => decide (A 367 i = h)) hn) (hV.2.2.2.2.2.2.2.2 h)
  have h3 : 100 ^ cnt (fun i => decide (A 367 i = h)) n ≤ 100 ^ 4 := Nat.pow_le_pow_right (by decide) h2
  exact Nat.le_trans h1 h3
def pwk (A : Nat → Nat → Nat) (h k n : Nat) : Nat := (A 387 k ^ tr A (sH A h) 0 n * (100 - A 387 k) ^ (tc A (sH A h) 0 n - tr A (sH A h) 0 n)) * (A 388 k ^ tr A (sH A h) 1 n * (100 - A 388 k) ^ (tc A (sH A h) 1 n - tr A (sH A h) 1 n))
theorem lk_pow {A : Nat → Nat → Nat} (hI : ∀ f i, dom f i → A f i < bnd f i) {h k : Nat} : ∀ n, n ≤ 96 → lk A h k n = pwk A h k n
  | 0, _ => by simp [lk, pwk, tr, tc, cnt]
  | n + 1, hn => by
    have ih := lk_pow hI (h := h) (k := k) n (by omega)
    have b2 : A 368 n < 12 := hI 368 n (by unfold dom; omega)
    have b4 : A 374 n < 2 := hI 374 n (by unfold dom; omega)
    have b5 : A 360 (A 368 n) < 2 := hI 360 (A 368 n) (by unfold dom; omega)
    have r0 := tr_le A (sH A h) 0 n
    have r1 := tr_le A (sH A h) 1 n
    show lk A h k n * lkf A h k n = pwk A h k (n + 1)
    rw [ih]
    unfold pwk
    rw [tc_s, tr_s _ _ _ _ b4, tc_s, tr_s _ _ _ _ b4]
    unfold lkf rgk
    by_cases q : sH A h n = true
    · rw [if_pos q]
      have ez : zp A n = A 360 (A 368 n) := rfl
      rcases (show A 360 (A 368 n) = 0 ∨ A 360 (A 368 n) = 1 by omega) with z | z <;> rcases (show A 374 n = 0 ∨ A 374 n = 1 by omega) with g | g
      · simp only [q, ez, z, g, true_and, if_true, Nat.add_zero, Nat.reduceEqDiff, if_false]
        rw [show tc A (sH A h) 0 n + 1 - tr A (sH A h) 0 n = tc A (sH A h) 0 n - tr A (sH A h) 0 n + 1 by omega, Nat.pow_succ]
        simp only [Nat.mul_assoc, Nat.mul_comm, Nat.mul_left_comm]
      · simp only [q, ez, z, g, true_and, if_true, Nat.add_zero, Nat.reduceEqDiff, if_false, Nat.one_ne_zero]
        rw [show tc A (sH A h) 0 n + 1 - (tr A (sH A h) 0 n + 1) = tc A (sH A h) 0 n - tr A (sH A h) 0 n by omega, Nat.pow_succ]
        simp only [Nat.mul_assoc, Nat.mul_comm, Nat.mul_left_comm]
      · simp only [q, ez, z, g, true_and, if_true, Nat.add_zero, Nat.reduceEqDiff, if_false, Nat.one_ne_zero]
        rw [show tc A (sH A h) 1 n + 1 - tr A (sH A h) 1 n = tc A (sH A h) 1 n - tr A (sH A h) 1 n + 1 by omega, Nat.pow_succ]
        simp only [Nat.mul_assoc, Nat.mul_comm, Nat.mul_left_comm]
      · simp only [q, ez, z, g, true_and, if_true, Nat.add_zero, Nat.reduceEqDiff, if_false, Nat.one_ne_zero]
        rw [show tc A (sH A h) 1 n + 1 - (tr A (sH A h) 1 n + 1) = tc A (sH A h) 1 n - tr A (sH A h) 1 n by omega, Nat.pow_succ]
        simp only [Nat.mul_assoc, Nat.mul_comm, Nat.mul_left_comm]
    · rw [if_neg q]
      simp [q]
def wbk (A : Nat → Nat → Nat) (h k : Nat) : Nat := A 389 k * lk A h k (A 358 12)
def evk (A : Nat → Nat → Nat) (h : Nat) : Nat := sm (wbk A h) 4
def qk (A : Nat → Nat → Nat) (h k : Nat) : Nat := wbk A h k * 1000000 / evk A h
def btk (bits : Int32) (k : Nat) : Prop := ((bits >>> (qN k &&& qN 31)) &&& qN 1) = qN 1
theorem wbk_b {A X : Nat → Nat → Nat} (hV : Inv A X) {h k : Nat} (hk : k < 4) : wbk A h k ≤ 9900000000 := by
  have b : A 389 k < 100 := hV.b 389 k (by unfold dom; omega)
  have := lk_b hV (h := h) hk (Nat.le_refl (A 358 12))
  exact Nat.mul_le_mul (show A 389 k ≤ 99 by omega) this
theorem evk_b {A X : Nat → Nat → Nat} (hV : Inv A X) {h : Nat} : ∀ n, n ≤ 4 → sm (wbk A h) n ≤ n * 9900000000
  | 0, _ => by simp [sm]
  | n + 1, hn => by
    have ih := evk_b hV (h := h) n (by omega)
    have := wbk_b hV (h := h) (show n < 4 by omega)
    show sm (wbk A h) n + wbk A h n ≤ (n + 1) * 9900000000
    omega
theorem sm_ge {f : Nat → Nat} {k : Nat} : ∀ {n : Nat}, k < n → f k ≤ sm f n
  | 0, h => absurd h (by omega)
  | n + 1, h => by
    show f k ≤ sm f n + f n
    by_cases e : k = n
    · subst e; omega
    · have := sm_ge (f := f) (show k < n by omega)
      omega
theorem qk_b {A : Nat → Nat → Nat} {h k : Nat} (hk : k < 4) : qk A h k ≤ 1000000 := by
  unfold qk
  have h1 : wbk A h k ≤ evk A h := sm_ge hk
  rcases Nat.eq_zero_or_pos (evk A h) with z | z
  · rw [z]; simp
  · exact Nat.div_le_of_le_mul (Nat.mul_le_mul_right _ h1)
theorem qL_32 (n : Nat) : (qL n).toInt32 = qN n := Int64.toInt32_ofNat'
theorem c_likelihood {A X : Nat → Nat → Nat} {μ : MM} {Q : Int64 → MM → Prop} (hV : Inv A X) (hA : Ca A μ) {h k : Nat} (hh : h < 24) (hk4 : k < 4) (hQ : Q (qL (lk A h k (A 358 12))) μ) : G4_likelihood (qN h) (qN k) μ Q := by
  have hn : A 358 12 < 97 := hV.b 358 12 (by unfold dom; decide)
  refine Lp.upE (A 358 12) (fun i => (qL (lk A h k i), qN i, μ)) ?_
  intro i K hi hK
  have g1 : A 387 k < 101 := hV.b 387 k (by unfold dom; omega)
  have g2 : A 388 k < 101 := hV.b 388 k (by unfold dom; omega)
  rcases Nat.lt_or_ge i (A 358 12) with hl | hl
  · have hk := hK hl
    have hi9 : i < 96 := by omega
    have b1 : A 367 i < 24 := hV.b 367 i (by unfold dom; omega)
    have b2 : A 368 i < 12 := hV.b 368 i (by unfold dom; omega)
    have b3 : A 373 i < 2 := hV.b 373 i (by unfold dom; omega)
    have b4 : A 374 i < 2 := hV.b 374 i (by unfold dom; omega)
    have b5 : A 360 (A 368 i) < 2 := hV.b 360 (A 368 i) (by unfold dom; omega)
    have e1 : lk A h k (i + 1) = lk A h k i * lkf A h k i := rfl
    rw [e1] at hk
    have ec : gI μ 169 k = qN (A 387 k) := Ca_387 hA hk4
    have ed : gI μ 170 k = qN (A 388 k) := Ca_388 hA hk4
    have no : sH A h i = false → K (qL (lk A h k i), qN (i + 1), μ) := fun q => by
      have : lkf A h k i = 1 := by unfold lkf; rw [if_neg (by rw [q]; decide)]
      rw [this, Nat.mul_one] at hk
      exact hk
    simp (disch := omega) only [bo_q0, bo_q1, qN_le, qN_lt, qN_eq, qN_vp, qN_nat, qN_neg1, qN_neg, qN_nn, qN_lit, qN_add, qN_sub, qN_mul, qN_div, Bd_eq, reduceIte, Nat.add_sub_cancel, dm_l, Nat.zero_le, Nat.not_lt_zero, Nat.reduceEqDiff, Nat.reduceLT, Nat.reduceLeDiff, Nat.reduceAdd, Nat.reduceSub, Nat.reduceMul, Nat.reduceDiv, Nat.reduceMod, reduceCtorEq, true_implies, false_implies, not_true_eq_false, not_false_eq_true, true_and, and_true, implies_true, and_false, false_and, forall_const, true_or, or_true, false_or, or_false, G4_likelihood_L5, Ca_s12 hA, Ca_367 hA, Ca_373 hA, hi9, Nat.not_le.mpr hl, G10_peopleOf, Ca_368 hA, Ca_360 hA, b2, hk4, ec, ed, G4_likelihood_J73, Ca_374 hA, G4_likelihood_J96, qN_6, qL_mul]
    refine ⟨fun q => no (by unfold sH; simp [q]), fun q => ⟨fun q2 => no (by unfold sH; simp [q2]), fun q2 => ?_⟩⟩
    have hs : sH A h i = true := by unfold sH; simp [q]; omega
    have ez : zp A i = A 360 (A 368 i) := rfl
    have fin : ∀ v, v = lkf A h k i → K (qL (lk A h k i * v), qN (i + 1), μ) := fun v hv => by subst hv; exact hk
    unfold lkf rgk at fin
    rw [if_pos hs, ez] at fin
    refine ⟨fun q3 => ⟨fun q4 => fin _ ?_, fun q4 => fin _ ?_⟩, fun q3 => ⟨fun q4 => fin _ ?_, fun q4 => fin _ ?_⟩⟩
    · rw [if_pos q4, if_neg q3]
    · rw [if_neg q4, if_neg q3]
    · rw [if_pos q4, if_pos q3]
    · rw [if_neg q4, if_pos q3]
  · have e : i = A 358 12 := by omega
    subst e
    simp (disch := omega) only [bo_q0, bo_q1, qN_le, qN_lt, qN_eq, qN_vp, qN_nat, qN_neg1, qN_neg, qN_nn, qN_lit, qN_add, qN_sub, qN_mul, qN_div, Bd_eq, reduceIte, Nat.add_sub_cancel, dm_l, Nat.zero_le, Nat.not_lt_zero, Nat.reduceEqDiff, Nat.reduceLT, Nat.reduceLeDiff, Nat.reduceAdd, Nat.reduceSub, Nat.reduceMul, Nat.reduceDiv, Nat.reduceMod, reduceCtorEq, true_implies, false_implies, not_true_eq_false, not_false_eq_true, true_and, and_true, implies_true, and_false, false_and, forall_const, true_or, or_true, false_or, or_false, G4_likelihood_L5, Ca_s12 hA, Nat.le_refl]
    exact hQ
def slk (A : Nat → Nat → Nat) (bits : Int32) (h : Nat) : Nat → Nat
  | 0 => 0
  | k + 1 => slk A bits h k + (if ((bits >>> (qN k &&& qN 31)) &&& qN 1) = qN 1 then qk A h k else 0)
theorem slk_b (A : Nat → Nat → Nat) (bits : Int32) (h : Nat) : ∀ k, k ≤ 4 → slk A bits h k ≤ k * 1000000
  | 0, _ => by simp [slk]
  | k + 1, hk => by
    have ih := slk_b A bits h k (by omega)
    have := qk_b (A := A) (h := h) (show k < 4 by omega)
    show slk A bits h k + (if ((bits >>> (qN k &&& qN 31)) &&& qN 1) = qN 1 then qk A h k else 0) ≤ (k + 1) * 1000000
    generalize slk A bits h k = s at *
    generalize qk A h k = t at *
    have h9 : (if ((bits >>> (qN k &&& qN 31)) &&& qN 1) = qN 1 then t else 0) ≤ t := by
      by_cases q : ((bits >>> (qN k &&& qN 31)) &&& qN 1) = qN 1
      · rw [if_pos q]; exact Nat.le_refl _
      · rw [if_neg q]; exact Nat.zero_le _
    omega
theorem slk_d (A : Nat → Nat → Nat) (bits : Int32) (h : Nat) (he : 0 < evk A h) : ∀ k, slk A bits h k ≤ sm (wbk A h) k * 1000000 / evk A h
  | 0 => by simp [slk]
  | k + 1 => by
    have ih := slk_d A bits h he k
    have h1 : qk A h k = wbk A h k * 1000000 / evk A h := rfl
    have h2 : sm (wbk A h) k * 1000000 / evk A h + wbk A h k * 1000000 / evk A h ≤ sm (wbk A h) (k + 1) * 1000000 / evk A h := by
      show _ ≤ (sm (wbk A h) k + wbk A h k) * 1000000 / evk A h
      rw [Nat.add_mul, Nat.le_div_iff_mul_le he, Nat.add_mul]
      exact Nat.add_le_add (Nat.div_mul_le_self _ _) (Nat.div_mul_le_self _ _)
    show slk A bits h k + (if ((bits >>> (qN k &&& qN 31)) &&& qN 1) = qN 1 then qk A h k else 0) ≤ _
    have h9 : (if ((bits >>> (qN k &&& qN 31)) &&& qN 1) = qN 1 then qk A h k else 0) ≤ qk A h k := by
      by_cases q : ((bits >>> (qN k &&& qN 31)) &&& qN 1) = qN 1
      · rw [if_pos q]; exact Nat.le_refl _
      · rw [if_neg q]; exact Nat.zero_le _
    rw [h1] at h9
    exact Nat.le_trans (Nat.add_le_add ih h9) h2
theorem slk_M {A : Nat → Nat → Nat} {bits : Int32} {h : Nat} (he : 0 < evk A h) : slk A bits h 4 ≤ 1000000 := by
  have h1 := slk_d A bits h he 4
  have h2 : sm (wbk A h) 4 * 1000000 / evk A h = 1000000 := by
    show evk A h * 1000000 / evk A h = 1000000
    exact Nat.mul_div_cancel_left _ he
  omega
theorem c_sumOf {A X : Nat → Nat → Nat} {W : List Int64} {μ : MM} {bits : Int32} {Q : Int32 → MM → Prop} (hV : Inv A X) (h : Cs A X W μ) {a : Nat} (ha : a < 24)
    (hQ : ∀ μ', Cs A X W μ' → Sm (fun k _ => k = 173 + a) μ μ' → Q (if evk A a = 0 then -2 else qN (slk A bits a 4)) μ') : G4_sumOfLikely (qN a) bits μ Q := by
  have gc : ∀ k j : Nat, k = 173 + a → cS k j := fun k j q => by unfold cS; omega
  refine Lp.up 4 (fun k x => x.1 = qL (sm (wbk A a) k) ∧ x.2.1 = qN k ∧ Cs A X W x.2.2 ∧ Sm (fun k _ => k = 173 + a) μ x.2.2 ∧ ∀ j, j < k → gJ x.2.2 (173 + a) j = qL (wbk A a j)) ?_ ⟨rfl, rfl, h, Sm.rfl', fun j hj => absurd hj (by omega)⟩
  rintro k K hk hK ⟨y1, y2, ν⟩ ⟨rfl, rfl, hC, hs, hj⟩
  simp only at hC hs hj
  have eb := evk_b hV (h := a) k (by omega)
  rcases Nat.lt_or_ge k 4 with hl | hl
  · have hk2 := hK hl
    have wb := wbk_b hV (h := a) hl
    have lb := lk_b hV (h := a) hl (Nat.le_refl (A 358 12))
    have g1 : A 389 k < 100 := hV.b 389 k (by unfold dom; omega)
    simp (disch := omega) only [bo_q0, bo_q1, qN_le, qN_lt, qN_eq, qN_vp, qN_nat, qN_neg1, qN_neg, qN_nn, qN_lit, qN_add, qN_sub, qN_mul, qN_div, Bd_eq, reduceIte, Nat.add_sub_cancel, dm_l, Nat.zero_le, Nat.not_lt_zero, Nat.reduceEqDiff, Nat.reduceLT, Nat.reduceLeDiff, Nat.reduceAdd, Nat.reduceSub, Nat.reduceMul, Nat.reduceDiv, Nat.reduceMod, reduceCtorEq, true_implies, false_implies, not_true_eq_false, not_false_eq_true, true_and, and_true, implies_true, and_false, false_and, forall_const, true_or, or_true, false_or, or_false, G4_sumOfLikely_L5, Nat.not_le.mpr hl, ha, hl]
    refine c_likelihood hV hC.1 ha hl ?_
    simp (disch := omega) only [bo_q0, bo_q1, qN_le, qN_lt, qN_eq, qN_vp, qN_nat, qN_neg1, qN_neg, qN_nn, qN_lit, qN_add, qN_sub, qN_mul, qN_div, Bd_eq, reduceIte, Nat.add_sub_cancel, dm_l, Nat.zero_le, Nat.not_lt_zero, Nat.reduceEqDiff, Nat.reduceLT, Nat.reduceLeDiff, Nat.reduceAdd, Nat.reduceSub, Nat.reduceMul, Nat.reduceDiv, Nat.reduceMod, reduceCtorEq, true_implies, false_implies, not_true_eq_false, not_false_eq_true, true_and, and_true, implies_true, and_false, false_and, forall_const, true_or, or_true, false_or, or_false, hl, Ca_389 hC.1, qN_6, qL_mul, gI_I, gI_J, gI_R, gJ_I, gJ_J, gJ_R, gR_I, gR_J, gR_R, qL_add]
    have e1 : sm (wbk A a) (k + 1) = sm (wbk A a) k + wbk A a k := rfl
    rw [e1] at hk2
    have s1 := hs.wJ (qL (wbk A a k)) (k := 173 + a) (j := k) rfl
    refine hk2 _ ⟨rfl, rfl, hC.sm ((Sm.rfl'.wJ (qL (wbk A a k)) (k := 173 + a) (j := k) rfl).mo gc), s1, fun j hj2 => ?_⟩
    simp only [gI_I, gI_J, gI_R, gJ_I, gJ_J, gJ_R, gR_I, gR_J, gR_R, true_and]
    by_cases q : j = k
    · rw [if_pos q, q]; rfl
    · rw [if_neg q]; exact hj j (by omega)
  · have e : k = 4 := by omega
    subst e
    have e4 : sm (wbk A a) 4 = evk A a := rfl
    have w1 := hQ ν hC hs
    rw [e4] at eb ⊢
    have z : (lg_cmp (qL (evk A a)) 0 = qN 0) = (evk A a = 0) := by
      show (lg_cmp (qL (evk A a)) 0 = 0) = _
      rw [lg_0, qL_0 (by omega)]
    simp (disch := omega) only [bo_q0, bo_q1, qN_le, qN_lt, qN_eq, qN_vp, qN_nat, qN_neg1, qN_neg, qN_nn, qN_lit, qN_add, qN_sub, qN_mul, qN_div, Bd_eq, reduceIte, Nat.add_sub_cancel, dm_l, Nat.zero_le, Nat.not_lt_zero, Nat.reduceEqDiff, Nat.reduceLT, Nat.reduceLeDiff, Nat.reduceAdd, Nat.reduceSub, Nat.reduceMul, Nat.reduceDiv, Nat.reduceMod, reduceCtorEq, true_implies, false_implies, not_true_eq_false, not_false_eq_true, true_and, and_true, implies_true, and_false, false_and, forall_const, true_or, or_true, false_or, or_false, G4_sumOfLikely_L5]
    rw [z]
    refine ⟨fun q => ?_, fun q => ?_⟩
    · rw [if_neg q] at w1
      refine Lp.upE 4 (fun k => (qL (slk A bits a k), qN k, ν)) ?_
      intro k K2 hk2 hK2
      rcases Nat.lt_or_ge k 4 with hl2 | hl2
      · have hk3 := hK2 hl2
        have wb := wbk_b hV (h := a) hl2
        have e5 : slk A bits a (k + 1) = slk A bits a k + (if ((bits >>> (qN k &&& qN 31)) &&& qN 1) = qN 1 then qk A a k else 0) := rfl
        rw [e5] at hk3
        have ne : ¬ (qL (evk A a) = 0) := by rw [qL_0 (by omega)]; exact q
        have ej : gJ ν (173 + a) k = qL (wbk A a k) := hj k hl2
        have ex : qL (wbk A a k) * 1000000 / qL (evk A a) = qL (qk A a k) := by
          rw [qL_lit 1000000, qL_mul, qL_div (by omega) (by omega)]
          rfl
        have h4 : ¬ ((4 : Int32) ≤ qN k) := by rw [qN_lit 4, qN_le (by omega) (by omega)]; omega
        refine ⟨fun r => absurd r h4, fun _ => ⟨fun r => ?_, fun r => ?_⟩⟩
        · rw [if_neg (show ¬ ((bits >>> (qN k &&& qN 31)) &&& qN 1) = qN 1 from r)] at hk3
          rw [Bd_eq, qL_lit 0, qL_add, qN_lit 1, qN_add]
          exact hk3
        · rw [if_pos (show ((bits >>> (qN k &&& qN 31)) &&& qN 1) = qN 1 from r)] at hk3
          rw [Bd_eq]
          show vp_in (qN a) 24 ∧ vp_in (qN k) 4 ∧ ¬ qL (evk A a) = 0 ∧ K2 (qL (slk A bits a k) + gJ ν (173 + (qN a).toNatClampNeg) (qN k).toNatClampNeg * 1000000 / qL (evk A a), qN k + 1, ν)
          rw [qN_vp (by omega), qN_vp (by omega), qN_nat (by omega), qN_nat (by omega), ej, ex, qL_add, qN_lit 1, qN_add]
          exact ⟨ha, hl2, ne, hk3⟩
      · have e : k = 4 := by omega
        subst e
        refine ⟨fun _ => ?_, fun r => absurd (show (4 : Int32) ≤ qN 4 by decide) r⟩
        show Q (qL (slk A bits a 4)).toInt32 ν
        rw [qL_32]
        exact w1
    · rw [if_pos q] at w1
      exact w1
/-! the model's side -/
theorem m_power {μ : MM} {Q : Int64 → MM → Prop} {b n : Nat} (hn : n < 2147483648) (hQ : Q (qL (b ^ n)) μ) : G12_power (qL b) (qN n) μ Q := by
  refine Lp.upE n (fun i => (qL (b ^ i), qN i, μ)) ?_
  intro i K hi hK
  rcases Nat.lt_or_ge i n with hl | hl
  · have hk := hK hl
    rw [Nat.pow_succ] at hk
    simp (disch := omega) only [bo_q0, bo_q1, qN_le, qN_lt, qN_eq, qN_vp, qN_nat, qN_neg1, qN_neg, qN_nn, qN_lit, qN_add, qN_sub, qN_mul, qN_div, Bd_eq, reduceIte, Nat.add_sub_cancel, dm_l, Nat.zero_le, Nat.not_lt_zero, Nat.reduceEqDiff, Nat.reduceLT, Nat.reduceLeDiff, Nat.reduceAdd, Nat.reduceSub, Nat.reduceMul, Nat.reduceDiv, Nat.reduceMod, reduceCtorEq, true_implies, false_implies, not_true_eq_false, not_false_eq_true, true_and, and_true, implies_true, and_false, false_and, forall_const, true_or, or_true, false_or, or_false, G12_power_L5, Nat.not_le.mpr hl, qL_mul]
    exact hk
  · have e : i = n := by omega
    subst e
    simp (disch := omega) only [bo_q0, bo_q1, qN_le, qN_lt, qN_eq, qN_vp, qN_nat, qN_neg1, qN_neg, qN_nn, qN_lit, qN_add, qN_sub, qN_mul, qN_div, Bd_eq, reduceIte, Nat.add_sub_cancel, dm_l, Nat.zero_le, Nat.not_lt_zero, Nat.reduceEqDiff, Nat.reduceLT, Nat.reduceLeDiff, Nat.reduceAdd, Nat.reduceSub, Nat.reduceMul, Nat.reduceDiv, Nat.reduceMod, reduceCtorEq, true_implies, false_implies, not_true_eq_false, not_false_eq_true, true_and, and_true, implies_true, and_false, false_and, forall_const, true_or, or_true, false_or, or_false, G12_power_L5, Nat.le_refl]
    exact hQ
theorem m_wouldBe {A X : Nat → Nat → Nat} {μ : MM} {Q : Int64 → MM → Prop} (hV : Inv A X) (hA : Ma A μ) {h k : Nat} (hk4 : k < 4) (hT : Tl μ 389 A (sH A h) (A 358 12)) (hQ : Q (qL (lk A h k (A 358 12))) μ) : G12_wouldBe (qN k) μ Q := by
  have hn : A 358 12 < 97 := hV.b 358 12 (by unfold dom; decide)
  have g1 : A 387 k < 101 := hV.b 387 k (by unfold dom; omega)
  have g2 : A 388 k < 101 := hV.b 388 k (by unfold dom; omega)
  have e0 : gI μ 390 0 = qN (tc A (sH A h) 0 (A 358 12)) := (hT 0 (by decide)).1
  have e1 : gI μ 390 1 = qN (tc A (sH A h) 1 (A 358 12)) := (hT 1 (by decide)).1
  have e2 : gI μ 391 0 = qN (tr A (sH A h) 0 (A 358 12)) := (hT 0 (by decide)).2
  have e3 : gI μ 391 1 = qN (tr A (sH A h) 1 (A 358 12)) := (hT 1 (by decide)).2
  have c0 := tc_le A (sH A h) 0 (A 358 12)
  have c1 := tc_le A (sH A h) 1 (A 358 12)
  have r0 := tr_le A (sH A h) 0 (A 358 12)
  have r1 := tr_le A (sH A h) 1 (A 358 12)
  rw [lk_pow hV.b _ (by omega)] at hQ
  unfold pwk at hQ
  unfold G12_wouldBe
  rw [qN_vp (by omega), qN_nat (by omega), Ma_387 hA hk4, e2, qN_6 (by omega)]
  refine ⟨hk4, m_power (by omega) ?_⟩
  rw [Ma_387 hA hk4, e0, e2, qN_lit 100, qN_sub (by omega), qN_6 (by omega), qN_sub (by omega)]
  refine ⟨hk4, m_power (by omega) ?_⟩
  rw [Bd_eq, Ma_388 hA hk4, e3, qN_6 (by omega)]
  refine ⟨hk4, m_power (by omega) ?_⟩
  rw [Ma_388 hA hk4, e1, e3, qN_sub (by omega), qN_6 (by omega), qN_sub (by omega)]
  refine ⟨hk4, m_power (by omega) ?_⟩
  rw [Bd_eq, qL_mul, qL_mul, qL_mul]
  exact hQ
theorem m_allKinds {A X : Nat → Nat → Nat} {μ : MM} {Q : Int64 → MM → Prop} (hV : Inv A X) (hA : Ma A μ) {h : Nat} (hT : Tl μ 389 A (sH A h) (A 358 12)) (hQ : Q (qL (evk A h)) μ) : G12_allKinds μ Q := by
  refine Lp.upE 4 (fun i => (qL (sm (wbk A h) i), qN i, μ)) ?_
  intro i K hi hK
  rcases Nat.lt_or_ge i 4 with hl | hl
  · have hk := hK hl
    have g1 : A 389 i < 100 := hV.b 389 i (by unfold dom; omega)
    simp (disch := omega) only [bo_q0, bo_q1, qN_le, qN_lt, qN_eq, qN_vp, qN_nat, qN_neg1, qN_neg, qN_nn, qN_lit, qN_add, qN_sub, qN_mul, qN_div, Bd_eq, reduceIte, Nat.add_sub_cancel, dm_l, Nat.zero_le, Nat.not_lt_zero, Nat.reduceEqDiff, Nat.reduceLT, Nat.reduceLeDiff, Nat.reduceAdd, Nat.reduceSub, Nat.reduceMul, Nat.reduceDiv, Nat.reduceMod, reduceCtorEq, true_implies, false_implies, not_true_eq_false, not_false_eq_true, true_and, and_true, implies_true, and_false, false_and, forall_const, true_or, or_true, false_or, or_false, G12_allKinds_L4, Nat.not_le.mpr hl, hl]
    refine m_wouldBe hV hA hl hT ?_
    simp (disch := omega) only [bo_q0, bo_q1, qN_le, qN_lt, qN_eq, qN_vp, qN_nat, qN_neg1, qN_neg, qN_nn, qN_lit, qN_add, qN_sub, qN_mul, qN_div, Bd_eq, reduceIte, Nat.add_sub_cancel, dm_l, Nat.zero_le, Nat.not_lt_zero, Nat.reduceEqDiff, Nat.reduceLT, Nat.reduceLeDiff, Nat.reduceAdd, Nat.reduceSub, Nat.reduceMul, Nat.reduceDiv, Nat.reduceMod, reduceCtorEq, true_implies, false_implies, not_true_eq_false, not_false_eq_true, true_and, and_true, implies_true, and_false, false_and, forall_const, true_or, or_true, false_or, or_false, Ma_389 hA, hl, qN_6, qL_mul, qL_add]
    exact hk
  · have e : i = 4 := by omega
    subst e
    simp (disch := omega) only [bo_q0, bo_q1, qN_le, qN_lt, qN_eq, qN_vp, qN_nat, qN_neg1, qN_neg, qN_nn, qN_lit, qN_add, qN_sub, qN_mul, qN_div, Bd_eq, reduceIte, Nat.add_sub_cancel, dm_l, Nat.zero_le, Nat.not_lt_zero, Nat.reduceEqDiff, Nat.reduceLT, Nat.reduceLeDiff, Nat.reduceAdd, Nat.reduceSub, Nat.reduceMul, Nat.reduceDiv, Nat.reduceMod, reduceCtorEq, true_implies, false_implies, not_true_eq_false, not_false_eq_true, true_and, and_true, implies_true, and_false, false_and, forall_const, true_or, or_true, false_or, or_false, G12_allKinds_L4]
    exact hQ
theorem m_likelyOf {A X : Nat → Nat → Nat} {μ : MM} {Q : Int64 → MM → Prop} (hV : Inv A X) (hA : Ma A μ) {h k : Nat} (hk4 : k < 4) (hT : Tl μ 389 A (sH A h) (A 358 12)) (he : evk A h ≠ 0) (hQ : Q (qL (qk A h k)) μ) : G12_likelyOf (qN k) μ Q := by
  have g1 : A 389 k < 100 := hV.b 389 k (by unfold dom; omega)
  have eb := evk_b hV (h := h) 4 (by omega)
  have wb := wbk_b hV (h := h) hk4
  have e4 : sm (wbk A h) 4 = evk A h := rfl
  rw [e4] at eb
  unfold G12_likelyOf
  rw [qN_vp (by omega), qN_nat (by omega)]
  refine ⟨hk4, m_wouldBe hV hA hk4 hT (m_allKinds hV hA hT ?_)⟩
  rw [qL_0 (by omega), Ma_389 hA hk4, qN_lit 1000000, qN_mul, qN_6 (by omega), qL_mul]
  have e5 : 1000000 * A 389 k * lk A h k (A 358 12) = wbk A h k * 1000000 := by
    unfold wbk
    rw [Nat.mul_assoc, Nat.mul_comm]
  rw [e5, qL_div (by omega) (by omega)]
  exact ⟨he, hQ⟩

theorem btk_1 : ∀ (a k : Fin 4), ((((1 : Int32) <<< (qN a.val &&& 31)) >>> (qN k.val &&& qN 31)) &&& qN 1 = qN 1) ↔ k = a := by decide
theorem slk_1 (A : Nat → Nat → Nat) (h : Nat) {a : Nat} (ha : a < 4) : slk A ((1 : Int32) <<< (qN a &&& 31)) h 4 = qk A h a := by
  have e := fun k (hk : k < 4) => btk_1 ⟨a, ha⟩ ⟨k, hk⟩
  have e0 := e 0 (by decide)
  have e1 := e 1 (by decide)
  have e2 := e 2 (by decide)
  have e3 := e 3 (by decide)
  simp only [Fin.mk.injEq] at e0 e1 e2 e3
  simp only [slk, e0, e1, e2, e3]
  rcases (show a = 0 ∨ a = 1 ∨ a = 2 ∨ a = 3 by omega) with rfl | rfl | rfl | rfl <;> simp
theorem c_likely {A X : Nat → Nat → Nat} {W : List Int64} {μ : MM} {v1 v2 : Int32} {Q : Int32 → MM → Prop} (hV : Inv A X) (h : Cs A X W μ)
    (hy : ∀ a k, a < A 358 8 → k < 4 → v1 = qN a → v2 = qN k → ∀ μ', Cs A X W μ' → FC μ μ' → Q (if evk A a = 0 then -2 else qN (qk A a k)) μ') (hn : ¬ (inr v1 (A 358 8) ∧ inr v2 4) → Q (-1) μ) : G11_likely v1 v2 μ Q := by
  have hH : A 358 8 < 25 := hV.b 358 8 (by unfold dom; decide)
  unfold G11_likely G4_howLikely
  refine c_isHouse h.1 (by omega) (fun q1 => ⟨fun r => absurd r (by decide), fun _ => ?_⟩) (fun q1 => ⟨fun _ => ⟨fun _ => hn (fun r => q1 r.1), fun r => absurd rfl r⟩, fun r => absurd rfl r⟩)
  refine within0_s 3 rfl (by decide) (fun q2 => ⟨fun r => absurd r (by decide), fun _ => ⟨fun r => absurd r (by decide), fun _ => ?_⟩⟩) (fun q2 => ⟨fun _ => ⟨fun _ => hn (fun r => q2 r.2), fun r => absurd rfl r⟩, fun r => absurd rfl r⟩)
  obtain ⟨a, ha, rfl⟩ := q1
  obtain ⟨k, hk, rfl⟩ := q2
  refine c_sumOf hV h (by omega) (fun μ' h' f => ?_)
  rw [slk_1 A a hk]
  exact hy a k ha hk rfl rfl _ h' (FC_cS (f.mo (fun k j q => by unfold cS; omega)))
theorem m_likely {A X : Nat → Nat → Nat} {W : List Int64} {μ : MM} {v1 v2 : Int32} {Q : Int32 → MM → Prop} (hV : Inv A X) (h : Ms A X W μ)
    (hy : ∀ a k, a < A 358 8 → k < 4 → v1 = qN a → v2 = qN k → ∀ μ', Ms A X W μ' → FM μ μ' → Q (if evk A a = 0 then -2 else qN (qk A a k)) μ') (hn : ¬ (inr v1 (A 358 8) ∧ inr v2 4) → ∀ μ', Ms A X W μ' → FM μ μ' → Q (-1) μ') : G12_likely v1 v2 μ Q := by
  have hH : A 358 8 < 25 := hV.b 358 8 (by unfold dom; decide)
  unfold G12_likely G12_isKind
  rw [Bd_eq]
  have h0 := m_thr h 0
  have f0 := fm_thr μ 0
  revert h0 f0
  generalize sI μ 358 0 0 = μ0
  intro h0 f0
  refine m_isHouse h0.1 (by omega) (fun q1 => ⟨fun r => absurd r (by decide), fun _ => ?_⟩) (fun q1 => ⟨fun _ => hn (fun r => q1 r.1) _ h0 f0, fun r => absurd rfl r⟩)
  refine in0_s 3 rfl (by decide) (fun q2 => ⟨bo_1, fun _ => ?_, fun r => absurd r (by decide)⟩) (fun q2 => ⟨bo_0, fun r => absurd rfl r, fun _ => hn (fun r => q2 r.2) _ h0 f0⟩)
  obtain ⟨a, ha, rfl⟩ := q1
  obtain ⟨k, hk, rfl⟩ := q2
  have w1 := hy a k ha hk rfl rfl
  refine m_countsHouse hV h0 (by omega) (fun μ1 h1 f1 hT => ?_)
  have fm := f0.tr (FM_mS (f1.mo (fun k j q => show mS k j by unfold mS; omega)))
  refine m_allKinds hV h1.1 hT ?_
  have eb := evk_b hV (h := a) 4 (by omega)
  have e4 : sm (wbk A a) 4 = evk A a := rfl
  rw [e4] at eb
  rw [lg_0, qL_0 (by omega)]
  refine ⟨fun q => ?_, fun q => ?_⟩
  · refine m_likelyOf hV h1.1 hk hT q ?_
    rw [qL_32]
    have := w1 _ h1 fm
    rw [if_neg q] at this
    exact this
  · have := w1 _ h1 fm
    rw [if_pos q] at this
    exact this
