/-! goes, says -/
def cq (a b : Nat) : Int32 := if a < b then -1 else if a = b then 0 else 1
theorem cq_3 (a b : Nat) : cq a b = -1 ∨ cq a b = 0 ∨ cq a b = 1 := by
  unfold cq
  split
  · exact Or.inl rfl
  · split
    · exact Or.inr (Or.inl rfl)
    · exact Or.inr (Or.inr rfl)
theorem cmp_q {a b : Nat} (ha : a < 2147483648) (hb : b < 2147483648) {μ : MM} {Q : Int32 → MM → Prop} : GJ6_compare_7cf53 (qN a) (qN b) μ Q ↔ Q (cq a b) μ := by
  unfold GJ6_compare_7cf53
  rw [qN_le hb ha, qN_eq ha hb]
  unfold cq
  by_cases h : a < b
  · rw [if_pos h]
    exact ⟨fun q => q.2 (by omega), fun q => ⟨fun r => absurd h (by omega), fun _ => q⟩⟩
  · rw [if_neg h]
    by_cases h2 : a = b
    · rw [if_pos h2]
      exact ⟨fun q => (q.1 (by omega)).2 h2, fun q => ⟨fun _ => ⟨fun r => absurd h2 r, fun _ => q⟩, fun r => absurd (by omega) r⟩⟩
    · rw [if_neg h2]
      exact ⟨fun q => (q.1 (by omega)).1 h2, fun q => ⟨fun _ => ⟨fun _ => q, fun r => absurd r h2⟩, fun r => absurd (by omega) r⟩⟩
theorem cq_p (a b c d : Nat) : (cq a b * cq c d = -1 ∨ cq a b * cq c d = 0 ∨ cq a b * cq c d = 1) := by
  rcases cq_3 a b with h | h | h <;> rcases cq_3 c d with h2 | h2 | h2 <;> rw [h, h2] <;> decide
theorem cmp_3 {x : Int32} (hx : x = -1 ∨ x = 0 ∨ x = 1) {μ : MM} {Q : Int32 → MM → Prop} : GJ6_compare_7cf53 x 0 μ Q ↔ Q x μ := by
  unfold GJ6_compare_7cf53
  rcases hx with rfl | rfl | rfl
  · exact ⟨fun q => q.2 (by decide), fun q => ⟨fun r => absurd r (by decide), fun _ => q⟩⟩
  · exact ⟨fun q => (q.1 (by decide)).2 rfl, fun q => ⟨fun _ => ⟨fun r => absurd rfl r, fun _ => q⟩, fun r => absurd (by decide) r⟩⟩
  · exact ⟨fun q => (q.1 (by decide)).1 (by decide), fun q => ⟨fun _ => ⟨fun _ => q, fun r => absurd r (by decide)⟩, fun r => absurd (by decide) r⟩⟩
theorem sgn_d : ∀ n : Fin 203, ((qI ((n.val : Int) - 101)) >>> ((31 : Int32) &&& 31)) ||| (((-(qI ((n.val : Int) - 101))).toUInt32 >>> ((31 : Int32).toUInt32 &&& Int32.toUInt32 31)).toInt32) = cq n.val 101 := by decide +kernel
theorem sgn_q {a b : Nat} (ha : a < 101) (hb : b < 101) : ((qN a - qN b) >>> ((31 : Int32) &&& 31)) ||| (((-(qN a - qN b)).toUInt32 >>> ((31 : Int32).toUInt32 &&& Int32.toUInt32 31)).toInt32) = cq a b := by
  have h1 := sgn_d ⟨a + 101 - b, by omega⟩
  have h2 : qN a - qN b = qI (((a + 101 - b : Nat) : Int) - 101) := by
    rw [qN_I, qN_I, qI_sub]
    congr 1
    omega
  rw [h2]
  refine h1.trans ?_
  show cq (a + 101 - b) 101 = cq a b
  unfold cq
  by_cases h3 : a < b
  · rw [if_pos h3, if_pos (by omega)]
  · rw [if_neg h3, if_neg (by omega)]
    by_cases h4 : a = b
    · rw [if_pos h4, if_pos (by omega)]
    · rw [if_neg h4, if_neg (by omega)]
/-- which way a pair of names goes -/
def shq (A : Nat → Nat → Nat) (a b : Nat) : Int32 := cq (nr A a (A 358 12) * nl A b (A 358 12)) (nr A b (A 358 12) * nl A a (A 358 12))
def gw (A : Nat → Nat → Nat) (w a b : Nat) : Int32 := cq (A (360 + w) a) (A (360 + w) b) * shq A a b
theorem gw_3 (A : Nat → Nat → Nat) (w a b : Nat) : gw A w a b = -1 ∨ gw A w a b = 0 ∨ gw A w a b = 1 := cq_p _ _ _ _
/-- sums over the met names -/
def metl (A : Nat → Nat → Nat) (a : Nat) : Bool := decide (0 < nl A a (A 358 12))
theorem mtf_st (A : Nat → Nat → Nat) {k n : Nat} (h : k ≤ n) : ∀ j, j < mc A k → mtf A n j = mtf A k j := by
  induction n with
  | zero =>
    intro j hj
    have : k = 0 := by omega
    subst this
    rfl
  | succ n ih =>
    intro j hj
    by_cases e : k = n + 1
    · rw [e]
    · have hk : k ≤ n := by omega
      have hm : mc A k ≤ mc A n := by
        clear ih hj e h
        induction n with
        | zero => have : k = 0 := by omega
                  subst this; exact Nat.le_refl _
        | succ n ih2 =>
          by_cases e : k = n + 1
          · rw [e]; exact Nat.le_refl _
          · have := ih2 (by omega)
            rw [mc_s]
            omega
      rw [← ih hk j hj]
      show (if 0 < nl A n (A 358 12) then (fun j => if j = mc A n then n else mtf A n j) else mtf A n) j = mtf A n j
      split
      · show (if j = mc A n then n else mtf A n j) = mtf A n j
        rw [if_neg (by omega)]
      · rfl
theorem mtf_at (A : Nat → Nat → Nat) {k n : Nat} (h : k < n) (hm : 0 < nl A k (A 358 12)) : mtf A n (mc A k) = k := by
  have h1 : mc A k < mc A (k + 1) := by rw [mc_s, if_pos hm]; omega
  rw [mtf_st A (show k + 1 ≤ n from h) _ h1]
  show (if 0 < nl A k (A 358 12) then (fun j => if j = mc A k then k else mtf A k j) else mtf A k) (mc A k) = k
  rw [if_pos hm]
  exact if_pos rfl
theorem met_cnt (A : Nat → Nat → Nat) (P : Nat → Bool) {n : Nat} : ∀ k, k ≤ n → cnt (fun j => P (mtf A n j)) (mc A k) = cnt (fun b => metl A b && P b) k
  | 0, _ => rfl
  | k + 1, hk => by
    have ih := met_cnt A P (n := n) k (by omega)
    show _ = cnt (fun b => metl A b && P b) k + (metl A k && P k).toNat
    rw [← ih, mc_s]
    by_cases h : 0 < nl A k (A 358 12)
    · rw [if_pos h]
      show cnt (fun j => P (mtf A n j)) (mc A k) + (P (mtf A n (mc A k))).toNat = _
      rw [mtf_at A hk h]
      simp [metl, h]
    · rw [if_neg h]
      simp [metl, h]
theorem met_sm (A : Nat → Nat → Nat) (f : Nat → Nat → Nat) {n : Nat} : ∀ k, k ≤ n → sm (fun j => f j (mtf A n j)) (mc A k) = sm (fun a => if 0 < nl A a (A 358 12) then f (mc A a) a else 0) k
  | 0, _ => rfl
  | k + 1, hk => by
    have ih := met_sm A f (n := n) k (by omega)
    show _ = sm (fun a => if 0 < nl A a (A 358 12) then f (mc A a) a else 0) k + (if 0 < nl A k (A 358 12) then f (mc A k) k else 0)
    rw [← ih, mc_s]
    by_cases h : 0 < nl A k (A 358 12)
    · rw [if_pos h, if_pos h]
      show sm (fun j => f j (mtf A n j)) (mc A k) + f (mc A k) (mtf A n (mc A k)) = _
      rw [mtf_at A hk h]
    · rw [if_neg h, if_neg h]
      rfl
theorem sm_congr {f g : Nat → Nat} : ∀ {n : Nat}, (∀ i, i < n → f i = g i) → sm f n = sm g n
  | 0, _ => rfl
  | n + 1, h => by
    show sm f n + f n = sm g n + g n
    rw [sm_congr (n := n) (fun i hi => h i (by omega)), h n (by omega)]
/-- how many pairs go a way -/
def pN (A : Nat → Nat → Nat) (w : Nat) (y : Int32) (n : Nat) : Nat := sm (fun a => if 0 < nl A a (A 358 12) then cnt (fun b => metl A b && decide (gw A w a b = y)) a else 0) n
theorem pN_met (A : Nat → Nat → Nat) (w : Nat) (y : Int32) (n : Nat) : sm (fun j => cnt (fun k => decide (gw A w (mtf A n j) (mtf A n k) = y)) j) (mc A n) = pN A w y n := by
  have h1 := met_sm A (fun j a => cnt (fun k => decide (gw A w a (mtf A n k) = y)) j) (n := n) n (Nat.le_refl n)
  refine h1.trans (sm_congr (fun a ha => ?_))
  by_cases h : 0 < nl A a (A 358 12)
  · rw [if_pos h, if_pos h]
    exact met_cnt A (fun b => decide (gw A w a b = y)) a (by omega)
  · rw [if_neg h, if_neg h]
theorem pN_le (A : Nat → Nat → Nat) (w : Nat) (y : Int32) : ∀ n, n ≤ 12 → pN A w y n ≤ n * 12
  | 0, _ => by simp [pN, sm]
  | n + 1, h => by
    have ih := pN_le A w y n (by omega)
    show pN A w y n + (if 0 < nl A n (A 358 12) then cnt (fun b => metl A b && decide (gw A w n b = y)) n else 0) ≤ _
    have := cnt_le (fun b => metl A b && decide (gw A w n b = y)) n
    rw [Nat.add_mul]
    split <;> omega
theorem mtf_lt (A : Nat → Nat → Nat) : ∀ n j, j < mc A n → mtf A n j < n
  | 0, j, h => absurd h (by simp [mc, cnt])
  | n + 1, j, h => by
    have ih := mtf_lt A n
    show (if 0 < nl A n (A 358 12) then (fun j => if j = mc A n then n else mtf A n j) else mtf A n) j < n + 1
    rw [mc_s] at h
    split
    · rename_i q
      show (if j = mc A n then n else mtf A n j) < n + 1
      split
      · omega
      · have := ih j (by rw [if_pos q] at h; omega)
        omega
    · rename_i q
      have := ih j (by rw [if_neg q] at h; omega)
      omega
theorem c_compareBy {A : Nat → Nat → Nat} {μ : MM} {Q : Int32 → MM → Prop} (hI : ∀ f i, dom f i → A f i < bnd f i) (hA : Ca A μ) {w a b : Nat} (hw : w < 4) (ha : a < 12) (hb : b < 12) : G8_compareBy (qN w) (qN a) (qN b) μ Q ↔ Q (cq (A (360 + w) a) (A (360 + w) b)) μ := by
  have p0 : A 360 a < 2 := hI 360 a (by unfold dom; omega)
  have p1 : A 360 b < 2 := hI 360 b (by unfold dom; omega)
  have p2 : A 361 a < 2 := hI 361 a (by unfold dom; omega)
  have p3 : A 361 b < 2 := hI 361 b (by unfold dom; omega)
  have p4 : A 362 a < 10 := hI 362 a (by unfold dom; omega)
  have p5 : A 362 b < 10 := hI 362 b (by unfold dom; omega)
  have p6 : A 363 a < 101 := hI 363 a (by unfold dom; omega)
  have p7 : A 363 b < 101 := hI 363 b (by unfold dom; omega)
  rcases (show w = 0 ∨ w = 1 ∨ w = 2 ∨ w = 3 by omega) with rfl | rfl | rfl | rfl
  all_goals
    simp (disch := omega) only [bo_q0, bo_q1, qN_le, qN_lt, qN_eq, qN_vp, qN_nat, qN_neg1, qN_neg, qN_nn, qN_lit, qN_add, qN_sub, qN_mul, qN_div, Bd_eq, reduceIte, Nat.add_sub_cancel, dm_l, Nat.zero_le, Nat.not_lt_zero, Nat.reduceEqDiff, Nat.reduceLT, Nat.reduceLeDiff, Nat.reduceAdd, Nat.reduceSub, Nat.reduceMul, Nat.reduceDiv, Nat.reduceMod, reduceCtorEq, true_implies, false_implies, not_true_eq_false, not_false_eq_true, true_and, and_true, implies_true, and_false, false_and, forall_const, true_or, or_true, false_or, or_false, G8_compareBy, Ca_360 hA, Ca_361 hA, Ca_362 hA, Ca_363 hA, ha, hb, cmp_q]
theorem nlr_b (A : Nat → Nat → Nat) (a b : Nat) (h : A 358 12 < 97) : nr A a (A 358 12) * nl A b (A 358 12) ≤ 9216 := by
  have h1 := nl_le A b (A 358 12)
  have h2 := nl_le A a (A 358 12)
  have h3 := nr_le A a (A 358 12)
  exact mulb (show nr A a (A 358 12) ≤ 96 by omega) (show nl A b (A 358 12) ≤ 96 by omega)
theorem c_compareShares {A : Nat → Nat → Nat} {μ : MM} {Q : Int32 → MM → Prop} (hl : A 358 12 < 97) (hT : Nl μ 164 165 A (A 358 12)) {a b : Nat} (ha : a < 12) (hb : b < 12) : G8_compareShares (qN a) (qN b) μ Q ↔ Q (shq A a b) μ := by
  have q1 := nlr_b A a b hl
  have q2 := nlr_b A b a hl
  unfold G8_compareShares shq
  rw [qN_nat (by omega), qN_nat (by omega), (hT a ha).1, (hT a ha).2, (hT b hb).1, (hT b hb).2]
  simp (disch := omega) only [bo_q0, bo_q1, qN_le, qN_lt, qN_eq, qN_vp, qN_nat, qN_neg1, qN_neg, qN_nn, qN_lit, qN_add, qN_sub, qN_mul, qN_div, Bd_eq, reduceIte, Nat.add_sub_cancel, dm_l, Nat.zero_le, Nat.not_lt_zero, Nat.reduceEqDiff, Nat.reduceLT, Nat.reduceLeDiff, Nat.reduceAdd, Nat.reduceSub, Nat.reduceMul, Nat.reduceDiv, Nat.reduceMod, reduceCtorEq, true_implies, false_implies, not_true_eq_false, not_false_eq_true, true_and, and_true, implies_true, and_false, false_and, forall_const, true_or, or_true, false_or, or_false, ha, hb, cmp_q]
theorem m_compares {A : Nat → Nat → Nat} {μ : MM} {Q : Int32 → MM → Prop} (hl : A 358 12 < 97) (hT : Nl μ 385 386 A (A 358 12)) {a b : Nat} (ha : a < 12) (hb : b < 12) : G12_compares (qN a) (qN b) μ Q ↔ Q (shq A a b) μ := by
  have q1 := nlr_b A a b hl
  have q2 := nlr_b A b a hl
  unfold G12_compares shq
  rw [qN_nat (by omega), qN_nat (by omega), (hT a ha).1, (hT a ha).2, (hT b hb).1, (hT b hb).2]
  simp (disch := omega) only [bo_q0, bo_q1, qN_le, qN_lt, qN_eq, qN_vp, qN_nat, qN_neg1, qN_neg, qN_nn, qN_lit, qN_add, qN_sub, qN_mul, qN_div, Bd_eq, reduceIte, Nat.add_sub_cancel, dm_l, Nat.zero_le, Nat.not_lt_zero, Nat.reduceEqDiff, Nat.reduceLT, Nat.reduceLeDiff, Nat.reduceAdd, Nat.reduceSub, Nat.reduceMul, Nat.reduceDiv, Nat.reduceMod, reduceCtorEq, true_implies, false_implies, not_true_eq_false, not_false_eq_true, true_and, and_true, implies_true, and_false, false_and, forall_const, true_or, or_true, false_or, or_false, ha, hb, cmp_q]
theorem m_saysOf {A : Nat → Nat → Nat} {μ : MM} {Q : Int32 → MM → Prop} (hA : Ma A μ) {w a : Nat} (hw : w < 4) (ha : a < 12) : G12_saysOf (qN w) (qN a) μ Q ↔ Q (qN (A (360 + w) a)) μ := by
  rcases (show w = 0 ∨ w = 1 ∨ w = 2 ∨ w = 3 by omega) with rfl | rfl | rfl | rfl
  all_goals
    simp (disch := omega) only [bo_q0, bo_q1, qN_le, qN_lt, qN_eq, qN_vp, qN_nat, qN_neg1, qN_neg, qN_nn, qN_lit, qN_add, qN_sub, qN_mul, qN_div, Bd_eq, reduceIte, Nat.add_sub_cancel, dm_l, Nat.zero_le, Nat.not_lt_zero, Nat.reduceEqDiff, Nat.reduceLT, Nat.reduceLeDiff, Nat.reduceAdd, Nat.reduceSub, Nat.reduceMul, Nat.reduceDiv, Nat.reduceMod, reduceCtorEq, true_implies, false_implies, not_true_eq_false, not_false_eq_true, true_and, and_true, implies_true, and_false, false_and, forall_const, true_or, or_true, false_or, or_false, G12_saysOf, Ma_360 hA, Ma_361 hA, Ma_362 hA, Ma_363 hA, ha]
/-- the class's pairs; memory stays -/
theorem c_pairsGoing {A : Nat → Nat → Nat} {μ : MM} {Q : Int32 → MM → Prop} (hI : ∀ f i, dom f i → A f i < bnd f i) (hA : Ca A μ) (hT : Nl μ 164 165 A (A 358 12)) (hM : ∀ j, j < mc A (A 358 3) → gI μ 166 j = qN (mtf A (A 358 3) j)) {w : Nat} (hw : w < 4) {y : Int32}
    (hQ : Q (qN (pN A w y (A 358 3))) μ) : G8_pairsGoing (qN w) y (qN (mc A (A 358 3))) μ Q := by
  have hl : A 358 12 < 97 := hI 358 12 (by unfold dom; decide)
  have hN : A 358 3 < 13 := hI 358 3 (by unfold dom; decide)
  have hmc := mc_le A (A 358 3)
  rw [← pN_met] at hQ
  refine Lp.upE (mc A (A 358 3)) (fun j => (qN (sm (fun j => cnt (fun k => decide (gw A w (mtf A (A 358 3) j) (mtf A (A 358 3) k) = y)) j) j), qN j, μ)) ?_
  intro j K hj hK
  rcases Nat.lt_or_ge j (mc A (A 358 3)) with hl1 | hl1
  · have hk := hK hl1
    simp only [sm] at hk
    clear hK
    simp (disch := omega) only [bo_q0, bo_q1, qN_le, qN_lt, qN_eq, qN_vp, qN_nat, qN_neg1, qN_neg, qN_nn, qN_lit, qN_add, qN_sub, qN_mul, qN_div, Bd_eq, reduceIte, Nat.add_sub_cancel, dm_l, Nat.zero_le, Nat.not_lt_zero, Nat.reduceEqDiff, Nat.reduceLT, Nat.reduceLeDiff, Nat.reduceAdd, Nat.reduceSub, Nat.reduceMul, Nat.reduceDiv, Nat.reduceMod, reduceCtorEq, true_implies, false_implies, not_true_eq_false, not_false_eq_true, true_and, and_true, implies_true, and_false, false_and, forall_const, true_or, or_true, false_or, or_false, G8_pairsGoing_L6, Nat.not_le.mpr hl1]
    generalize sm (fun j => cnt (fun k => decide (gw A w (mtf A (A 358 3) j) (mtf A (A 358 3) k) = y)) j) j = s at *
    refine Lp.upE j (fun k => (qN (s + cnt (fun k => decide (gw A w (mtf A (A 358 3) j) (mtf A (A 358 3) k) = y)) k), qN k, μ)) ?_
    intro k K2 hk2 hK2
    rcases Nat.lt_or_ge k j with hl2 | hl2
    · have hk3 := hK2 hl2
      have t1 := mtf_lt A (A 358 3) j hl1
      have t2 := mtf_lt A (A 358 3) k (by omega)
      have j12 : j < 12 := by omega
      have k12 : k < 12 := by omega
      have u1 : mtf A (A 358 3) j < 12 := by omega
      have u2 : mtf A (A 358 3) k < 12 := by omega
      have e1 : gI μ 166 j = qN (mtf A (A 358 3) j) := hM j hl1
      have e2 : gI μ 166 k = qN (mtf A (A 358 3) k) := hM k (by omega)
      simp only [cnt] at hk3
      simp (disch := omega) only [bo_q0, bo_q1, qN_le, qN_lt, qN_eq, qN_vp, qN_nat, qN_neg1, qN_neg, qN_nn, qN_lit, qN_add, qN_sub, qN_mul, qN_div, Bd_eq, reduceIte, Nat.add_sub_cancel, dm_l, Nat.zero_le, Nat.not_lt_zero, Nat.reduceEqDiff, Nat.reduceLT, Nat.reduceLeDiff, Nat.reduceAdd, Nat.reduceSub, Nat.reduceMul, Nat.reduceDiv, Nat.reduceMod, reduceCtorEq, true_implies, false_implies, not_true_eq_false, not_false_eq_true, true_and, and_true, implies_true, and_false, false_and, forall_const, true_or, or_true, false_or, or_false, G8_pairsGoing_L15, Nat.not_le.mpr hl2, j12, k12, e1, e2]
      rw [c_compareBy hI hA hw u1 u2]
      simp (disch := omega) only [bo_q0, bo_q1, qN_le, qN_lt, qN_eq, qN_vp, qN_nat, qN_neg1, qN_neg, qN_nn, qN_lit, qN_add, qN_sub, qN_mul, qN_div, Bd_eq, reduceIte, Nat.add_sub_cancel, dm_l, Nat.zero_le, Nat.not_lt_zero, Nat.reduceEqDiff, Nat.reduceLT, Nat.reduceLeDiff, Nat.reduceAdd, Nat.reduceSub, Nat.reduceMul, Nat.reduceDiv, Nat.reduceMod, reduceCtorEq, true_implies, false_implies, not_true_eq_false, not_false_eq_true, true_and, and_true, implies_true, and_false, false_and, forall_const, true_or, or_true, false_or, or_false, e1, e2, j12, k12]
      rw [c_compareShares hl hT u1 u2]
      have eg : cq (A (360 + w) (mtf A (A 358 3) j)) (A (360 + w) (mtf A (A 358 3) k)) * shq A (mtf A (A 358 3) j) (mtf A (A 358 3) k) = gw A w (mtf A (A 358 3) j) (mtf A (A 358 3) k) := rfl
      rw [show qN 0 = (0 : Int32) from rfl, eg, cmp_3 (gw_3 A w _ _)]
      by_cases q : gw A w (mtf A (A 358 3) j) (mtf A (A 358 3) k) = y
      · rw [decide_eq_true q] at hk3
        exact ⟨fun r => absurd q r, fun _ => hk3⟩
      · rw [decide_eq_false q] at hk3
        exact ⟨fun _ => hk3, fun r => absurd r q⟩
    · have e : k = j := by omega
      subst e
      simp (disch := omega) only [bo_q0, bo_q1, qN_le, qN_lt, qN_eq, qN_vp, qN_nat, qN_neg1, qN_neg, qN_nn, qN_lit, qN_add, qN_sub, qN_mul, qN_div, Bd_eq, reduceIte, Nat.add_sub_cancel, dm_l, Nat.zero_le, Nat.not_lt_zero, Nat.reduceEqDiff, Nat.reduceLT, Nat.reduceLeDiff, Nat.reduceAdd, Nat.reduceSub, Nat.reduceMul, Nat.reduceDiv, Nat.reduceMod, reduceCtorEq, true_implies, false_implies, not_true_eq_false, not_false_eq_true, true_and, and_true, implies_true, and_false, false_and, forall_const, true_or, or_true, false_or, or_false, G8_pairsGoing_L15, Nat.le_refl]
      exact hk
  · have e : j = mc A (A 358 3) := by omega
    subst e
    simp (disch := omega) only [bo_q0, bo_q1, qN_le, qN_lt, qN_eq, qN_vp, qN_nat, qN_neg1, qN_neg, qN_nn, qN_lit, qN_add, qN_sub, qN_mul, qN_div, Bd_eq, reduceIte, Nat.add_sub_cancel, dm_l, Nat.zero_le, Nat.not_lt_zero, Nat.reduceEqDiff, Nat.reduceLT, Nat.reduceLeDiff, Nat.reduceAdd, Nat.reduceSub, Nat.reduceMul, Nat.reduceDiv, Nat.reduceMod, reduceCtorEq, true_implies, false_implies, not_true_eq_false, not_false_eq_true, true_and, and_true, implies_true, and_false, false_and, forall_const, true_or, or_true, false_or, or_false, G8_pairsGoing_L6, Nat.le_refl]
    exact hQ

/-- the model's pairs: three counts at once -/
theorem m_pairsOf {A X : Nat → Nat → Nat} {W : List Int64} {μ : MM} {Q : MM → Prop} (hV : Inv A X) (h : Ms A X W μ) (hT : Nl μ 385 386 A (A 358 12)) {w : Nat} (hw : w < 4)
    (hQ : ∀ μ', Ms A X W μ' → Sm (fun k j => k = 358 ∧ 42 ≤ j ∧ j < 45) μ μ' → gI μ' 358 42 = qN (pN A w 1 (A 358 3)) → gI μ' 358 43 = qN (pN A w (-1) (A 358 3)) → gI μ' 358 44 = qN (pN A w 0 (A 358 3)) → Q μ') : G12_pairsOf (qN w) μ Q := by
  have hl : A 358 12 < 97 := hV.b 358 12 (by unfold dom; decide)
  have hN : A 358 3 < 13 := hV.b 358 3 (by unfold dom; decide)
  have toM : ∀ k j : Nat, (k = 358 ∧ 42 ≤ j ∧ j < 45) → mS k j := fun k j q => by unfold mS; omega
  unfold G12_pairsOf
  rw [Bd_eq, Bd_eq, Bd_eq]
  refine Lp.up (A 358 3) (fun i x => x.1 = qN i ∧ Sm (fun k j => k = 358 ∧ 42 ≤ j ∧ j < 45) μ x.2 ∧ gI x.2 358 42 = qN (pN A w 1 i) ∧ gI x.2 358 43 = qN (pN A w (-1) i) ∧ gI x.2 358 44 = qN (pN A w 0 i)) ?_ ⟨rfl, ((Sm.rfl'.wI _ (by decide)).wI _ (by decide)).wI _ (by decide), rfl, rfl, rfl⟩
  rintro i K hi hK ⟨y, ν⟩ ⟨rfl, hs, e1, e2, e3⟩
  simp only at hs e1 e2 e3
  have hC := h.sm (mn378 hV) (hs.mo toM)
  rcases Nat.lt_or_ge i (A 358 3) with hl1 | hl1
  · have hk := hK hl1
    clear hK
    have i12 : i < 12 := by omega
    simp (disch := omega) only [bo_q0, bo_q1, qN_le, qN_lt, qN_eq, qN_vp, qN_nat, qN_neg1, qN_neg, qN_nn, qN_lit, qN_add, qN_sub, qN_mul, qN_div, Bd_eq, reduceIte, Nat.add_sub_cancel, dm_l, Nat.zero_le, Nat.not_lt_zero, Nat.reduceEqDiff, Nat.reduceLT, Nat.reduceLeDiff, Nat.reduceAdd, Nat.reduceSub, Nat.reduceMul, Nat.reduceDiv, Nat.reduceMod, reduceCtorEq, true_implies, false_implies, not_true_eq_false, not_false_eq_true, true_and, and_true, implies_true, and_false, false_and, forall_const, true_or, or_true, false_or, or_false, G12_pairsOf_L17, Ma_s3 hC.1, Nat.not_le.mpr hl1]
    have ps : ∀ y, pN A w y (i + 1) = pN A w y i + (if 0 < nl A i (A 358 12) then cnt (fun b => metl A b && decide (gw A w i b = y)) i else 0) := fun y => rfl
    rw [ps, ps, ps] at hk
    refine Lp.up i (fun k x => x.1 = qN k ∧ Sm (fun k j => k = 358 ∧ 42 ≤ j ∧ j < 45) μ x.2 ∧ gI x.2 358 42 = qN (pN A w 1 i + (if 0 < nl A i (A 358 12) then cnt (fun b => metl A b && decide (gw A w i b = 1)) k else 0)) ∧
      gI x.2 358 43 = qN (pN A w (-1) i + (if 0 < nl A i (A 358 12) then cnt (fun b => metl A b && decide (gw A w i b = -1)) k else 0)) ∧ gI x.2 358 44 = qN (pN A w 0 i + (if 0 < nl A i (A 358 12) then cnt (fun b => metl A b && decide (gw A w i b = 0)) k else 0))) ?_ ⟨rfl, hs, ?_, ?_, ?_⟩
    rotate_left
    · rw [e1]; congr 1; split <;> simp [cnt]
    · rw [e2]; congr 1; split <;> simp [cnt]
    · rw [e3]; congr 1; split <;> simp [cnt]
    clear e1 e2 e3 hs hC ν
    rintro k K2 hk2 hK2 ⟨y, ν⟩ ⟨rfl, hs, e1, e2, e3⟩
    simp only at hs e1 e2 e3
    have hC := h.sm (mn378 hV) (hs.mo toM)
    have hT2 : Nl ν 385 386 A (A 358 12) := fun k hk => by rw [(hs.1 385 k (by omega)).1, (hs.1 386 k (by omega)).1]; exact hT k hk
    rcases Nat.lt_or_ge k i with hl2 | hl2
    · have hk3 := hK2 hl2
      have k12 : k < 12 := by omega
      have d1 := (hT2 i i12).1
      have d2 := (hT2 k k12).1
      have c1 := nl_le A i (A 358 12)
      have c2 := nl_le A k (A 358 12)
      have p0 : A (360 + w) i < 101 := by
        have p0 : A 360 i < 2 := hV.b 360 i (by unfold dom; omega)
        have p2 : A 361 i < 2 := hV.b 361 i (by unfold dom; omega)
        have p4 : A 362 i < 10 := hV.b 362 i (by unfold dom; omega)
        have p6 : A 363 i < 101 := hV.b 363 i (by unfold dom; omega)
        rcases (show w = 0 ∨ w = 1 ∨ w = 2 ∨ w = 3 by omega) with rfl | rfl | rfl | rfl
        · exact Nat.lt_trans p0 (by decide)
        · exact Nat.lt_trans p2 (by decide)
        · exact Nat.lt_trans p4 (by decide)
        · exact p6
      have p1 : A (360 + w) k < 101 := by
        have t0 : A 360 k < 2 := hV.b 360 k (by unfold dom; omega)
        have t2 : A 361 k < 2 := hV.b 361 k (by unfold dom; omega)
        have t4 : A 362 k < 10 := hV.b 362 k (by unfold dom; omega)
        have t6 : A 363 k < 101 := hV.b 363 k (by unfold dom; omega)
        rcases (show w = 0 ∨ w = 1 ∨ w = 2 ∨ w = 3 by omega) with rfl | rfl | rfl | rfl
        · exact Nat.lt_trans t0 (by decide)
        · exact Nat.lt_trans t2 (by decide)
        · exact Nat.lt_trans t4 (by decide)
        · exact t6
      have cs : ∀ y, cnt (fun b => metl A b && decide (gw A w i b = y)) (k + 1) = cnt (fun b => metl A b && decide (gw A w i b = y)) k + (if 0 < nl A k (A 358 12) ∧ gw A w i k = y then 1 else 0) := fun y => by
        show _ + (metl A k && decide (gw A w i k = y)).toNat = _
        refine congrArg (cnt (fun b => metl A b && decide (gw A w i b = y)) k + ·) ?_
        unfold metl
        by_cases q1 : 0 < nl A k (A 358 12) <;> by_cases q2 : gw A w i k = y <;> simp [q1, q2]
      have same : ∀ (q : ¬ (0 < nl A i (A 358 12) ∧ 0 < nl A k (A 358 12))), K2 (qN (k + 1), ν) := fun q => by
        have z : ∀ y, (if 0 < nl A i (A 358 12) then cnt (fun b => metl A b && decide (gw A w i b = y)) (k + 1) else 0) = (if 0 < nl A i (A 358 12) then cnt (fun b => metl A b && decide (gw A w i b = y)) k else 0) := fun y => by
          by_cases q1 : 0 < nl A i (A 358 12)
          · rw [if_pos q1, if_pos q1, cs, if_neg (fun r => q ⟨q1, r.1⟩)]; rfl
          · rw [if_neg q1, if_neg q1]
        refine hk3 _ ⟨rfl, hs, ?_, ?_, ?_⟩
        · rw [z]; exact e1
        · rw [z]; exact e2
        · rw [z]; exact e3
      have z1 : (1 : Nat) < 2 := by decide
      have z0 : (0 : Nat) < 2 := by decide
      simp (disch := omega) only [bo_q0, bo_q1, qN_le, qN_lt, qN_eq, qN_vp, qN_nat, qN_neg1, qN_neg, qN_nn, qN_lit, qN_add, qN_sub, qN_mul, qN_div, Bd_eq, reduceIte, Nat.add_sub_cancel, dm_l, Nat.zero_le, Nat.not_lt_zero, Nat.reduceEqDiff, Nat.reduceLT, Nat.reduceLeDiff, Nat.reduceAdd, Nat.reduceSub, Nat.reduceMul, Nat.reduceDiv, Nat.reduceMod, reduceCtorEq, true_implies, false_implies, not_true_eq_false, not_false_eq_true, true_and, and_true, implies_true, and_false, false_and, forall_const, true_or, or_true, false_or, or_false, G12_pairsOf_L27, Nat.not_le.mpr hl2, i12, k12, d1, d2]
      refine ⟨fun q => same (by omega), fun q => ⟨fun q2 => ?_, fun q2 => same (by omega)⟩⟩
      have r1 : 0 < nl A i (A 358 12) := by omega
      have r2 : 0 < nl A k (A 358 12) := by omega
      simp only [r1, if_true] at e1 e2 e3 hk3
      rw [m_saysOf hC.1 hw i12, m_saysOf hC.1 hw k12]
      unfold GJ6_signum_0f7a4
      rw [sgn_q p0 p1]
      simp only [m_compares hl hT2 i12 k12]
      have eg : cq (A (360 + w) i) (A (360 + w) k) * shq A i k = gw A w i k := rfl
      rw [eg]
      have fin : ∀ a b c : Nat, a < 2 → b < 2 → c < 2 → (a = if gw A w i k = 1 then 1 else 0) → (b = if gw A w i k = -1 then 1 else 0) → (c = if gw A w i k = 0 then 1 else 0) →
          K2 (qN (k + 1), sI (sI (sI ν 358 42 (gI ν 358 42 + qN a)) 358 43 (gI ν 358 43 + qN b)) 358 44 (gI ν 358 44 + qN c)) := by
        intro a b c ha hb hc ea eb ec
        refine hk3 _ ⟨rfl, ((hs.wI _ (by decide)).wI _ (by decide)).wI _ (by decide), ?_, ?_, ?_⟩
        · simp only [gI_I, gI_J, gI_R, gJ_I, gJ_J, gJ_R, gR_I, gR_J, gR_R, Nat.reduceEqDiff, true_implies, false_implies, not_true_eq_false, not_false_eq_true, true_and, and_true, implies_true, and_false, false_and, forall_const, true_or, or_true, false_or, or_false, reduceIte]
          rw [e1, cs, qN_add, ea, Nat.add_assoc]
          simp only [r2, true_and]
        · simp only [gI_I, gI_J, gI_R, gJ_I, gJ_J, gJ_R, gR_I, gR_J, gR_R, Nat.reduceEqDiff, true_implies, false_implies, not_true_eq_false, not_false_eq_true, true_and, and_true, implies_true, and_false, false_and, forall_const, true_or, or_true, false_or, or_false, reduceIte]
          rw [e2, cs, qN_add, eb, Nat.add_assoc]
          simp only [r2, true_and]
        · simp only [gI_I, gI_J, gI_R, gJ_I, gJ_J, gJ_R, gR_I, gR_J, gR_R, Nat.reduceEqDiff, true_implies, false_implies, not_true_eq_false, not_false_eq_true, true_and, and_true, implies_true, and_false, false_and, forall_const, true_or, or_true, false_or, or_false, reduceIte]
          rw [e3, cs, qN_add, ec, Nat.add_assoc]
          simp only [r2, true_and]
      simp (disch := omega) only [bo_q0, bo_q1, qN_le, qN_lt, qN_eq, qN_vp, qN_nat, qN_neg1, qN_neg, qN_nn, qN_lit, qN_add, qN_sub, qN_mul, qN_div, Bd_eq, reduceIte, Nat.add_sub_cancel, dm_l, Nat.zero_le, Nat.not_lt_zero, Nat.reduceEqDiff, Nat.reduceLT, Nat.reduceLeDiff, Nat.reduceAdd, Nat.reduceSub, Nat.reduceMul, Nat.reduceDiv, Nat.reduceMod, reduceCtorEq, true_implies, false_implies, not_true_eq_false, not_false_eq_true, true_and, and_true, implies_true, and_false, false_and, forall_const, true_or, or_true, false_or, or_false, G12_pairsOf_J93, G12_pairsOf_J115, G12_pairsOf_J137, flag_q, gI_I, gI_J, gI_R, gJ_I, gJ_J, gJ_R, gR_I, gR_J, gR_R]
      rcases gw_3 A w i k with g | g | g
      · rw [g]
        refine ⟨fun _ => ⟨fun q => absurd q (by decide), fun _ => ⟨fun _ => ?_, fun q => absurd q (by decide)⟩⟩, fun q => absurd (show (-1 : Int32) ≤ 0 by decide) q⟩
        exact fin 0 1 0 (by decide) (by decide) (by decide) (by rw [g]; decide) (by rw [g]; decide) (by rw [g]; decide)
      · rw [g]
        refine ⟨fun _ => ⟨fun _ => ⟨fun q => absurd (show (0 : Int32) = 0 from rfl) q, fun _ => ?_⟩, fun q => absurd (show (0 : Int32) ≤ 0 by decide) q⟩, fun q => absurd (show (0 : Int32) ≤ 0 by decide) q⟩
        exact fin 0 0 1 (by decide) (by decide) (by decide) (by rw [g]; decide) (by rw [g]; decide) (by rw [g]; decide)
      · rw [g]
        refine ⟨fun q => absurd q (by decide), fun _ => ⟨fun _ => ⟨fun _ => ?_, fun q => absurd q (by decide)⟩, fun q => absurd (show (0 : Int32) ≤ 1 by decide) q⟩⟩
        exact fin 1 0 0 (by decide) (by decide) (by decide) (by rw [g]; decide) (by rw [g]; decide) (by rw [g]; decide)
    · have e : k = i := by omega
      subst e
      simp (disch := omega) only [bo_q0, bo_q1, qN_le, qN_lt, qN_eq, qN_vp, qN_nat, qN_neg1, qN_neg, qN_nn, qN_lit, qN_add, qN_sub, qN_mul, qN_div, Bd_eq, reduceIte, Nat.add_sub_cancel, dm_l, Nat.zero_le, Nat.not_lt_zero, Nat.reduceEqDiff, Nat.reduceLT, Nat.reduceLeDiff, Nat.reduceAdd, Nat.reduceSub, Nat.reduceMul, Nat.reduceDiv, Nat.reduceMod, reduceCtorEq, true_implies, false_implies, not_true_eq_false, not_false_eq_true, true_and, and_true, implies_true, and_false, false_and, forall_const, true_or, or_true, false_or, or_false, G12_pairsOf_L27, Nat.le_refl]
      exact hk _ ⟨rfl, hs, e1, e2, e3⟩
  · have e : i = A 358 3 := by omega
    subst e
    simp (disch := omega) only [bo_q0, bo_q1, qN_le, qN_lt, qN_eq, qN_vp, qN_nat, qN_neg1, qN_neg, qN_nn, qN_lit, qN_add, qN_sub, qN_mul, qN_div, Bd_eq, reduceIte, Nat.add_sub_cancel, dm_l, Nat.zero_le, Nat.not_lt_zero, Nat.reduceEqDiff, Nat.reduceLT, Nat.reduceLeDiff, Nat.reduceAdd, Nat.reduceSub, Nat.reduceMul, Nat.reduceDiv, Nat.reduceMod, reduceCtorEq, true_implies, false_implies, not_true_eq_false, not_false_eq_true, true_and, and_true, implies_true, and_false, false_and, forall_const, true_or, or_true, false_or, or_false, G12_pairsOf_L17, Ma_s3 hC.1, Nat.le_refl]
    exact hQ _ hC hs e1 e2 e3
