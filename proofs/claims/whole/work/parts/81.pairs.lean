/-! pairs, nearly -/
theorem c_within {A X : Nat → Nat → Nat} {W : List Int64} {μ : MM} {Q : Int32 → MM → Prop} (hV : Inv A X) (h : Cs A X W μ) {w : Nat} (hw : w < 2147483648) (hg : ∀ p, p < 6 → 0 < A 378 p → gI μ 248 p = qN (agc A X p (A 358 61))) (hQ : Q (cbz A X w 6) μ) : G6_weighedWithin (qN w) μ Q := by
  have h61 : A 358 61 < 41 := hV.b 358 61 (by unfold dom; decide)
  refine Lp.upE 6 (fun i => (cbz A X w i, qN i, μ)) ?_
  intro i K hi hK
  rcases Nat.lt_or_ge i 6 with hl | hl
  · have hk := hK hl
    have al := agc_le A X i (A 358 61)
    have eS : cbz A X w (i + 1) = if 0 < A 378 i ∧ agc A X i (A 358 61) ≤ w then cbz A X w i ||| (qN 1 <<< (qN i &&& qN 31)) else cbz A X w i := rfl
    rw [eS] at hk
    simp (disch := omega) only [bo_q0, bo_q1, qN_le, qN_lt, qN_eq, qN_vp, qN_nat, qN_neg1, qN_neg, qN_nn, qN_lit, qN_add, qN_sub, qN_mul, qN_div, Bd_eq, reduceIte, Nat.add_sub_cancel, dm_l, Nat.zero_le, Nat.not_lt_zero, Nat.reduceEqDiff, Nat.reduceLT, Nat.reduceLeDiff, Nat.reduceAdd, Nat.reduceSub, Nat.reduceMul, Nat.reduceDiv, Nat.reduceMod, reduceCtorEq, true_implies, false_implies, not_true_eq_false, not_false_eq_true, true_and, and_true, implies_true, and_false, false_and, forall_const, true_or, or_true, false_or, or_false, G6_weighedWithin_L4, Nat.not_le.mpr hl]
    refine c_isLaw hV.b h.1 (fun q => ?_) (fun q => ?_)
    · obtain ⟨p', hp', e, h0⟩ := q
      obtain rfl := (qN_eq (by omega) (by omega)).mp e
      simp (disch := omega) only [bo_q0, bo_q1, qN_le, qN_lt, qN_eq, qN_vp, qN_nat, qN_neg1, qN_neg, qN_nn, qN_lit, qN_add, qN_sub, qN_mul, qN_div, Bd_eq, reduceIte, Nat.add_sub_cancel, dm_l, Nat.zero_le, Nat.not_lt_zero, Nat.reduceEqDiff, Nat.reduceLT, Nat.reduceLeDiff, Nat.reduceAdd, Nat.reduceSub, Nat.reduceMul, Nat.reduceDiv, Nat.reduceMod, reduceCtorEq, true_implies, false_implies, not_true_eq_false, not_false_eq_true, true_and, and_true, implies_true, and_false, false_and, forall_const, true_or, or_true, false_or, or_false, hl, hg i hl h0]
      refine ⟨fun r => ?_, fun r => ?_⟩
      · rw [if_neg (by omega)] at hk; exact hk
      · rw [if_pos ⟨h0, by omega⟩] at hk; exact hk
    · simp (disch := omega) only [bo_q0, bo_q1, qN_le, qN_lt, qN_eq, qN_vp, qN_nat, qN_neg1, qN_neg, qN_nn, qN_lit, qN_add, qN_sub, qN_mul, qN_div, Bd_eq, reduceIte, Nat.add_sub_cancel, dm_l, Nat.zero_le, Nat.not_lt_zero, Nat.reduceEqDiff, Nat.reduceLT, Nat.reduceLeDiff, Nat.reduceAdd, Nat.reduceSub, Nat.reduceMul, Nat.reduceDiv, Nat.reduceMod, reduceCtorEq, true_implies, false_implies, not_true_eq_false, not_false_eq_true, true_and, and_true, implies_true, and_false, false_and, forall_const, true_or, or_true, false_or, or_false, ]
      rw [if_neg (fun r => q ⟨i, hl, rfl, r.1⟩)] at hk
      exact hk
  · have e : i = 6 := by omega
    subst e
    simp (disch := omega) only [bo_q0, bo_q1, qN_le, qN_lt, qN_eq, qN_vp, qN_nat, qN_neg1, qN_neg, qN_nn, qN_lit, qN_add, qN_sub, qN_mul, qN_div, Bd_eq, reduceIte, Nat.add_sub_cancel, dm_l, Nat.zero_le, Nat.not_lt_zero, Nat.reduceEqDiff, Nat.reduceLT, Nat.reduceLeDiff, Nat.reduceAdd, Nat.reduceSub, Nat.reduceMul, Nat.reduceDiv, Nat.reduceMod, reduceCtorEq, true_implies, false_implies, not_true_eq_false, not_false_eq_true, true_and, and_true, implies_true, and_false, false_and, forall_const, true_or, or_true, false_or, or_false, G6_weighedWithin_L4]
    exact hQ
theorem c_nearly {A X : Nat → Nat → Nat} {W : List Int64} {μ : MM} {v1 : Int32} {Q : Int32 → MM → Prop} (hV : Inv A X) (h : Cs A X W μ)
    (hy : ∀ w, w ≤ 40 → v1 = qN w → ∀ μ', Cs A X W μ' → FC μ μ' → Q (cbz A X w 6) μ') (hn : ¬ inr v1 41 → Q (-1) μ) : G11_nearly v1 μ Q := by
  unfold G11_nearly G6_lawsWithin
  refine within0_s 40 rfl (by decide) (fun q1 => ⟨fun _ => ?_, fun r => absurd r (by decide)⟩) (fun q1 => ⟨fun r => absurd rfl r, fun _ => hn q1⟩)
  obtain ⟨w, hw, rfl⟩ := q1
  refine c_weigh hV h (fun μ1 h1 f1 _ hg => ?_)
  exact c_within hV h1 (by omega) hg (hy w (by omega) rfl _ h1 f1)
theorem m_isAgainst {A X : Nat → Nat → Nat} {W : List Int64} {μ : MM} {Q : Int32 → MM → Prop} (hV : Inv A X) (h : Ms A X W μ) {p a b t : Nat} (hp : p < 6) (h0 : 0 < A 378 p) (ha : a < 96) (hb : b < 96) (ht : t < 3)
    (hQ : ∀ μ', Ms A X W μ' → Sm kS μ μ' → Q (if agn A X p a b t = true then 1 else 0) μ') : G12_isAgainst (qN p) (qN a) (qN b) (qN t) μ Q := by
  unfold G12_isAgainst G12_countsNone
  rw [Bd_eq, Bd_eq, Bd_eq]
  have s0 : Sm kS μ (sI (sI (sI μ 358 33 0) 358 34 0) 358 35 0) := ((Sm.rfl'.wI _ (k := 358) (j := 33) (by unfold kS; omega)).wI _ (k := 358) (j := 34) (by unfold kS; omega)).wI _ (k := 358) (j := 35) (by unfold kS; omega)
  have e33 : gI (sI (sI (sI μ 358 33 0) 358 34 0) 358 35 0) 358 33 = 0 := by simp [gI_I]
  have e34 : gI (sI (sI (sI μ 358 33 0) 358 34 0) 358 35 0) 358 34 = 0 := by simp [gI_I]
  have e35 : gI (sI (sI (sI μ 358 33 0) 358 34 0) 358 35 0) 358 35 = 0 := by simp [gI_I]
  have h1 := h.sm (mn378 hV) (s0.mo (fun _ _ q => kS_m q))
  revert h1 s0 e33 e34 e35
  generalize sI (sI (sI μ 358 33 0) 358 34 0) 358 35 0 = μ1
  intro s0 e33 e34 e35 h1
  refine m_worked hV.b h1.1 (c := X p) (by omega) ha rfl h0 (fun k hk => h1.2.1 p (by omega) k hk) (hV.w (by omega)) (fun μ2 f2 => ?_)
  have f2' : Sm kS μ1 μ2 := f2.mo (fun k j q => Or.inr q)
  have h2 := h1.sm (mn378 hV) (f2'.mo (fun _ _ q => kS_m q))
  have d33 : gI μ2 358 33 = 0 := ((f2.1 358 33 (by decide)).1).trans e33
  have d34 : gI μ2 358 34 = 0 := ((f2.1 358 34 (by decide)).1).trans e34
  have d35 : gI μ2 358 35 = 0 := ((f2.1 358 35 (by decide)).1).trans e35
  refine m_worked hV.b h2.1 (c := X p) (by omega) hb rfl h0 (fun k hk => h2.2.1 p (by omega) k hk) (hV.w (by omega)) (fun μ3 f3 => ?_)
  have f3' : Sm kS μ2 μ3 := f3.mo (fun k j q => Or.inr q)
  have h3 := h2.sm (mn378 hV) (f3'.mo (fun _ _ q => kS_m q))
  have w1 := hQ μ3 h3 ((s0.tr f2').tr f3')
  rw [e33, e34, e35, d33, d34, d35]
  have t1 : (qN t = 1) = (t = 1) := by rw [eq_iff_iff, show (1 : Int32) = qN 1 from rfl, qN_eq (by omega) (by decide)]
  have t2 : (qN t = 2) = (t = 2) := by rw [eq_iff_iff, show (2 : Int32) = qN 2 from rfl, qN_eq (by omega) (by decide)]
  show (¬ qN t = 1 → ((¬ qN t = 2 → ((lwa A X p a = lwa A X p b → Q 0 μ3) ∧ (¬ (lwa A X p a = lwa A X p b) → Q 1 μ3))) ∧ (qN t = 2 → ((lwa A X p a ≤ lwa A X p b → Q 0 μ3) ∧ (¬ (lwa A X p a ≤ lwa A X p b) → Q 1 μ3))))) ∧ (qN t = 1 → ((lwa A X p b ≤ lwa A X p a → Q 0 μ3) ∧ (¬ (lwa A X p b ≤ lwa A X p a) → Q 1 μ3)))
  rw [t1, t2]
  unfold agn at w1
  generalize lwa A X p a = x at *
  generalize lwa A X p b = y at *
  refine ⟨fun r1 => ⟨fun r2 => ⟨fun q => ?_, fun q => ?_⟩, fun r2 => ⟨fun q => ?_, fun q => ?_⟩⟩, fun r1 => ⟨fun q => ?_, fun q => ?_⟩⟩
  · rw [if_neg r1, if_neg r2, decide_eq_true q] at w1; exact w1
  · rw [if_neg r1, if_neg r2, decide_eq_false q] at w1; exact w1
  · rw [if_neg r1, if_pos r2, decide_eq_false (Int32.not_lt.mpr q)] at w1; exact w1
  · rw [if_neg r1, if_pos r2, decide_eq_true (Int32.not_le.mp q)] at w1; exact w1
  · rw [if_pos r1, decide_eq_false (Int32.not_lt.mpr q)] at w1; exact w1
  · rw [if_pos r1, decide_eq_true (Int32.not_le.mp q)] at w1; exact w1
theorem m_against {A X : Nat → Nat → Nat} {W : List Int64} {μ : MM} {Q : Int32 → MM → Prop} (hV : Inv A X) (h : Ms A X W μ) {p : Nat} (hp : p < 6) (h0 : 0 < A 378 p)
    (hQ : ∀ μ', Ms A X W μ' → Sm kS μ μ' → Q (qN (agc A X p (A 358 61))) μ') : G12_against (qN p) μ Q := by
  have hl : A 358 12 < 97 := hV.b 358 12 (by unfold dom; decide)
  have h61 : A 358 61 < 41 := hV.b 358 61 (by unfold dom; decide)
  refine Lp.up (A 358 61) (fun k x => x.1 = qN (agc A X p k) ∧ x.2.1 = qN k ∧ Ms A X W x.2.2 ∧ Sm kS μ x.2.2) ?_ ⟨rfl, rfl, h, Sm.rfl'⟩
  rintro k K hk hK ⟨y1, y2, ν⟩ ⟨rfl, rfl, hC, hs⟩
  simp only at hC hs
  have al := agc_le A X p k
  rcases Nat.lt_or_ge k (A 358 61) with hl3 | hl3
  · have hk4 := hK hl3
    have k40 : k < 40 := by omega
    have ab := hV.2.2.2.2.2.2.1 k hl3
    have b3 : A 403 k < 3 := hV.b 403 k (by unfold dom; omega)
    have es : agc A X p (k + 1) = agc A X p k + (agn A X p (A 401 k) (A 402 k) (A 403 k)).toNat := rfl
    have z1 : (1 : Nat) < 2 := by decide
    have z0 : (0 : Nat) < 2 := by decide
    rw [es] at hk4
    simp (disch := omega) only [bo_q0, bo_q1, qN_le, qN_lt, qN_eq, qN_vp, qN_nat, qN_neg1, qN_neg, qN_nn, qN_lit, qN_add, qN_sub, qN_mul, qN_div, Bd_eq, reduceIte, Nat.add_sub_cancel, dm_l, Nat.zero_le, Nat.not_lt_zero, Nat.reduceEqDiff, Nat.reduceLT, Nat.reduceLeDiff, Nat.reduceAdd, Nat.reduceSub, Nat.reduceMul, Nat.reduceDiv, Nat.reduceMod, reduceCtorEq, true_implies, false_implies, not_true_eq_false, not_false_eq_true, true_and, and_true, implies_true, and_false, false_and, forall_const, true_or, or_true, false_or, or_false, G12_against_L4, Ma_s61 hC.1, Nat.not_le.mpr hl3, k40, Ma_401 hC.1, Ma_402 hC.1, Ma_403 hC.1]
    refine m_isAgainst hV hC hp h0 (by omega) (by omega) b3 (fun ν2 h2 f2 => ?_)
    cases hb : agn A X p (A 401 k) (A 402 k) (A 403 k)
    · rw [hb] at hk4
      simp (disch := omega) only [bo_q0, bo_q1, qN_le, qN_lt, qN_eq, qN_vp, qN_nat, qN_neg1, qN_neg, qN_nn, qN_lit, qN_add, qN_sub, qN_mul, qN_div, Bd_eq, reduceIte, Nat.add_sub_cancel, dm_l, Nat.zero_le, Nat.not_lt_zero, Nat.reduceEqDiff, Nat.reduceLT, Nat.reduceLeDiff, Nat.reduceAdd, Nat.reduceSub, Nat.reduceMul, Nat.reduceDiv, Nat.reduceMod, reduceCtorEq, true_implies, false_implies, not_true_eq_false, not_false_eq_true, true_and, and_true, implies_true, and_false, false_and, forall_const, true_or, or_true, false_or, or_false, Bool.false_eq_true, flag_q]
      exact hk4 _ ⟨rfl, rfl, h2, hs.tr f2⟩
    · rw [hb] at hk4
      simp (disch := omega) only [bo_q0, bo_q1, qN_le, qN_lt, qN_eq, qN_vp, qN_nat, qN_neg1, qN_neg, qN_nn, qN_lit, qN_add, qN_sub, qN_mul, qN_div, Bd_eq, reduceIte, Nat.add_sub_cancel, dm_l, Nat.zero_le, Nat.not_lt_zero, Nat.reduceEqDiff, Nat.reduceLT, Nat.reduceLeDiff, Nat.reduceAdd, Nat.reduceSub, Nat.reduceMul, Nat.reduceDiv, Nat.reduceMod, reduceCtorEq, true_implies, false_implies, not_true_eq_false, not_false_eq_true, true_and, and_true, implies_true, and_false, false_and, forall_const, true_or, or_true, false_or, or_false, flag_q]
      exact hk4 _ ⟨rfl, rfl, h2, hs.tr f2⟩
  · have e : k = A 358 61 := by omega
    subst e
    simp (disch := omega) only [bo_q0, bo_q1, qN_le, qN_lt, qN_eq, qN_vp, qN_nat, qN_neg1, qN_neg, qN_nn, qN_lit, qN_add, qN_sub, qN_mul, qN_div, Bd_eq, reduceIte, Nat.add_sub_cancel, dm_l, Nat.zero_le, Nat.not_lt_zero, Nat.reduceEqDiff, Nat.reduceLT, Nat.reduceLeDiff, Nat.reduceAdd, Nat.reduceSub, Nat.reduceMul, Nat.reduceDiv, Nat.reduceMod, reduceCtorEq, true_implies, false_implies, not_true_eq_false, not_false_eq_true, true_and, and_true, implies_true, and_false, false_and, forall_const, true_or, or_true, false_or, or_false, G12_against_L4, Ma_s61 hC.1, Nat.le_refl]
    exact hQ _ hC hs
theorem m_couldBe {A X : Nat → Nat → Nat} {W : List Int64} {μ : MM} {Q : Int32 → MM → Prop} (hV : Inv A X) (h : Ms A X W μ) {w : Nat} (hw : w < 2147483648)
    (hQ : ∀ μ', Ms A X W μ' → Sm kS μ μ' → Q (cbz A X w 6) μ') : G12_couldBe (qN w) μ Q := by
  have h61 : A 358 61 < 41 := hV.b 358 61 (by unfold dom; decide)
  refine Lp.up 6 (fun k x => x.1 = cbz A X w k ∧ x.2.1 = qN k ∧ Ms A X W x.2.2 ∧ Sm kS μ x.2.2) ?_ ⟨rfl, rfl, h, Sm.rfl'⟩
  rintro k K hk hK ⟨y1, y2, ν⟩ ⟨rfl, rfl, hC, hs⟩
  simp only at hC hs
  rcases Nat.lt_or_ge k 6 with hl | hl
  · have hk4 := hK hl
    have al := agc_le A X k (A 358 61)
    have b8 : A 378 k < 41 := hV.b 378 k (by unfold dom; omega)
    have k13 : k < 13 := by omega
    have k12 : k < 12 := by omega
    have eS : cbz A X w (k + 1) = if 0 < A 378 k ∧ agc A X k (A 358 61) ≤ w then cbz A X w k ||| (qN 1 <<< (qN k &&& qN 31)) else cbz A X w k := rfl
    rw [eS] at hk4
    simp (disch := omega) only [bo_q0, bo_q1, qN_le, qN_lt, qN_eq, qN_vp, qN_nat, qN_neg1, qN_neg, qN_nn, qN_lit, qN_add, qN_sub, qN_mul, qN_div, Bd_eq, reduceIte, Nat.add_sub_cancel, dm_l, Nat.zero_le, Nat.not_lt_zero, Nat.reduceEqDiff, Nat.reduceLT, Nat.reduceLeDiff, Nat.reduceAdd, Nat.reduceSub, Nat.reduceMul, Nat.reduceDiv, Nat.reduceMod, reduceCtorEq, true_implies, false_implies, not_true_eq_false, not_false_eq_true, true_and, and_true, implies_true, and_false, false_and, forall_const, true_or, or_true, false_or, or_false, G12_couldBe_L4, Nat.not_le.mpr hl, k13, Ma_378 hC.1, k12, G12_couldBe_J35, or_q0]
    refine ⟨fun q => ?_, fun q => ?_⟩
    · rw [if_neg (by omega)] at hk4
      exact hk4 _ ⟨rfl, rfl, hC, hs⟩
    · refine m_against hV hC hl (by omega) (fun ν2 h2 f2 => ?_)
      simp (disch := omega) only [bo_q0, bo_q1, qN_le, qN_lt, qN_eq, qN_vp, qN_nat, qN_neg1, qN_neg, qN_nn, qN_lit, qN_add, qN_sub, qN_mul, qN_div, Bd_eq, reduceIte, Nat.add_sub_cancel, dm_l, Nat.zero_le, Nat.not_lt_zero, Nat.reduceEqDiff, Nat.reduceLT, Nat.reduceLeDiff, Nat.reduceAdd, Nat.reduceSub, Nat.reduceMul, Nat.reduceDiv, Nat.reduceMod, reduceCtorEq, true_implies, false_implies, not_true_eq_false, not_false_eq_true, true_and, and_true, implies_true, and_false, false_and, forall_const, true_or, or_true, false_or, or_false, ]
      refine ⟨fun r => ?_, fun r => ?_⟩
      · rw [if_neg (by omega)] at hk4
        exact hk4 _ ⟨rfl, rfl, h2, hs.tr f2⟩
      · rw [if_pos ⟨by omega, by omega⟩] at hk4
        exact hk4 _ ⟨rfl, rfl, h2, hs.tr f2⟩
  · have e : k = 6 := by omega
    subst e
    simp (disch := omega) only [bo_q0, bo_q1, qN_le, qN_lt, qN_eq, qN_vp, qN_nat, qN_neg1, qN_neg, qN_nn, qN_lit, qN_add, qN_sub, qN_mul, qN_div, Bd_eq, reduceIte, Nat.add_sub_cancel, dm_l, Nat.zero_le, Nat.not_lt_zero, Nat.reduceEqDiff, Nat.reduceLT, Nat.reduceLeDiff, Nat.reduceAdd, Nat.reduceSub, Nat.reduceMul, Nat.reduceDiv, Nat.reduceMod, reduceCtorEq, true_implies, false_implies, not_true_eq_false, not_false_eq_true, true_and, and_true, implies_true, and_false, false_and, forall_const, true_or, or_true, false_or, or_false, G12_couldBe_L4]
    exact hQ _ hC hs
def plW (A X : Nat → Nat → Nat) : Nat → List Int64
  | 0 => []
  | k + 1 => plW A X k ++ [if 0 < A 378 k then qJ (agc A X k (A 358 61) : Int) else -1]
theorem plW_l (A X : Nat → Nat → Nat) : ∀ k, (plW A X k).length = k
  | 0 => rfl
  | k + 1 => by
    show (plW A X k ++ [if 0 < A 378 k then qJ (agc A X k (A 358 61) : Int) else -1]).length = k + 1
    rw [List.length_append, plW_l A X k]; rfl

theorem m_nearly {A X : Nat → Nat → Nat} {W : List Int64} {μ : MM} {v1 : Int32} {Q : Int32 → MM → Prop} (hV : Inv A X) (h : Ms A X W μ)
    (hy : ∀ w, w ≤ 40 → v1 = qN w → ∀ μ', Ms A X W μ' → FM μ μ' → Q (cbz A X w 6) μ') (hn : ¬ inr v1 41 → ∀ μ', Ms A X W μ' → FM μ μ' → Q (-1) μ') : G12_nearly v1 μ Q := by
  unfold G12_nearly
  rw [Bd_eq]
  have h0 := m_thr h 0
  have f0 := fm_thr μ 0
  revert h0 f0
  generalize sI μ 358 0 0 = μ0
  intro h0 f0
  refine in0_s 40 rfl (by decide) (fun q1 => ⟨fun r => absurd r (by decide), fun _ => ?_⟩) (fun q1 => ⟨fun _ => hn q1 _ h0 f0, fun r => absurd rfl r⟩)
  obtain ⟨w, hw, rfl⟩ := q1
  exact m_couldBe hV h0 (by omega) (fun μ1 h1 f1 => hy w (by omega) rfl _ h1 (f0.tr (FM_mS (f1.mo (fun _ _ q => kS_m q)))))
theorem c_pairs {A X : Nat → Nat → Nat} {W : List Int64} {μ : MM} {Q : Int32 → MM → Prop} (hV : Inv A X) (h : Cs A X W μ) (hy : ∀ μ', Cs A X (plW A X 6) μ' → FC μ μ' → Q (cbz A X 0 6) μ') : G11_pairs μ Q := by
  have h61 : A 358 61 < 41 := hV.b 358 61 (by unfold dom; decide)
  unfold G11_pairs G6_tellPairs
  refine c_weigh hV h (fun μ1 h1 f1 _ hg => ?_)
  refine c_rclear h1 (fun μ2 h2 f2 => ?_)
  have hg2 : ∀ p, p < 6 → 0 < A 378 p → gI μ2 248 p = qN (agc A X p (A 358 61)) := fun p hp h0 => ((f2.1 248 p (by show ¬ (248 = 151 ∨ 248 = 152); decide)).1).trans (hg p hp h0)
  refine Lp.up 6 (fun k x => x.1 = qN k ∧ Cs A X (plW A X k) x.2 ∧ FC μ x.2 ∧ ∀ p, p < 6 → 0 < A 378 p → gI x.2 248 p = qN (agc A X p (A 358 61))) ?_ ⟨rfl, (show Cs A X (plW A X 0) μ2 from h2), f1.tr (FC_row f2), hg2⟩
  rintro k K hk hK ⟨y1, ν⟩ ⟨rfl, hC, hf, hgk⟩
  simp only at hC hf hgk
  rcases Nat.lt_or_ge k 6 with hl | hl
  · have hk4 := hK hl
    have al := agc_le A X k (A 358 61)
    have eS : plW A X (k + 1) = plW A X k ++ [if 0 < A 378 k then qJ (agc A X k (A 358 61) : Int) else -1] := rfl
    rw [eS] at hk4
    have nx : ∀ v, v = (if 0 < A 378 k then qJ (agc A X k (A 358 61) : Int) else -1) → G7_add v ν (fun μ17 => K (qN (k + 1), μ17)) := by
      intro v hv
      subst hv
      refine c_radd hC (by rw [plW_l]; omega) (fun ν2 g2 k2 => hk4 _ ⟨rfl, g2, hf.tr (FC_row k2), fun p hp h0 => ((k2.1 248 p (by show ¬ (248 = 151 ∨ 248 = 152); decide)).1).trans (hgk p hp h0)⟩)
    simp (disch := omega) only [bo_q0, bo_q1, qN_le, qN_lt, qN_eq, qN_vp, qN_nat, qN_neg1, qN_neg, qN_nn, qN_lit, qN_add, qN_sub, qN_mul, qN_div, Bd_eq, reduceIte, Nat.add_sub_cancel, dm_l, Nat.zero_le, Nat.not_lt_zero, Nat.reduceEqDiff, Nat.reduceLT, Nat.reduceLeDiff, Nat.reduceAdd, Nat.reduceSub, Nat.reduceMul, Nat.reduceDiv, Nat.reduceMod, reduceCtorEq, true_implies, false_implies, not_true_eq_false, not_false_eq_true, true_and, and_true, implies_true, and_false, false_and, forall_const, true_or, or_true, false_or, or_false, G6_tellPairs_L13, Nat.not_le.mpr hl, G6_tellPairs_J47]
    refine c_isLaw hV.b hC.1 (fun q => ?_) (fun q => ?_)
    · obtain ⟨p', hp', e, h0⟩ := q
      obtain rfl := (qN_eq (by omega) (by omega)).mp e
      simp (disch := omega) only [bo_q0, bo_q1, qN_le, qN_lt, qN_eq, qN_vp, qN_nat, qN_neg1, qN_neg, qN_nn, qN_lit, qN_add, qN_sub, qN_mul, qN_div, Bd_eq, reduceIte, Nat.add_sub_cancel, dm_l, Nat.zero_le, Nat.not_lt_zero, Nat.reduceEqDiff, Nat.reduceLT, Nat.reduceLeDiff, Nat.reduceAdd, Nat.reduceSub, Nat.reduceMul, Nat.reduceDiv, Nat.reduceMod, reduceCtorEq, true_implies, false_implies, not_true_eq_false, not_false_eq_true, true_and, and_true, implies_true, and_false, false_and, forall_const, true_or, or_true, false_or, or_false, hl, hgk k hl h0, qN_J]
      exact nx _ (by rw [if_pos h0])
    · simp (disch := omega) only [bo_q0, bo_q1, qN_le, qN_lt, qN_eq, qN_vp, qN_nat, qN_neg1, qN_neg, qN_nn, qN_lit, qN_add, qN_sub, qN_mul, qN_div, Bd_eq, reduceIte, Nat.add_sub_cancel, dm_l, Nat.zero_le, Nat.not_lt_zero, Nat.reduceEqDiff, Nat.reduceLT, Nat.reduceLeDiff, Nat.reduceAdd, Nat.reduceSub, Nat.reduceMul, Nat.reduceDiv, Nat.reduceMod, reduceCtorEq, true_implies, false_implies, not_true_eq_false, not_false_eq_true, true_and, and_true, implies_true, and_false, false_and, forall_const, true_or, or_true, false_or, or_false, ]
      exact nx _ (by rw [if_neg (fun r => q ⟨k, hl, rfl, r⟩)])
  · have e : k = 6 := by omega
    subst e
    simp (disch := omega) only [bo_q0, bo_q1, qN_le, qN_lt, qN_eq, qN_vp, qN_nat, qN_neg1, qN_neg, qN_nn, qN_lit, qN_add, qN_sub, qN_mul, qN_div, Bd_eq, reduceIte, Nat.add_sub_cancel, dm_l, Nat.zero_le, Nat.not_lt_zero, Nat.reduceEqDiff, Nat.reduceLT, Nat.reduceLeDiff, Nat.reduceAdd, Nat.reduceSub, Nat.reduceMul, Nat.reduceDiv, Nat.reduceMod, reduceCtorEq, true_implies, false_implies, not_true_eq_false, not_false_eq_true, true_and, and_true, implies_true, and_false, false_and, forall_const, true_or, or_true, false_or, or_false, G6_tellPairs_L13]
    exact c_within hV hC (by decide) hgk (hy _ hC hf)
theorem m_pairs {A X : Nat → Nat → Nat} {W : List Int64} {μ : MM} {Q : Int32 → MM → Prop} (hV : Inv A X) (h : Ms A X W μ) (hy : ∀ μ', Ms A X (plW A X 6) μ' → FM μ μ' → Q (cbz A X 0 6) μ') : G12_pairs μ Q := by
  have h61 : A 358 61 < 41 := hV.b 358 61 (by unfold dom; decide)
  unfold G12_pairs
  rw [Bd_eq]
  have h0 := m_thr h 0
  have f0 := fm_thr μ 0
  revert h0 f0
  generalize sI μ 358 0 0 = μ0
  intro h0 f0
  rw [Bd_eq]
  obtain ⟨h2, f2⟩ := m_rc h0
  refine Lp.up 6 (fun k x => x.1 = qN k ∧ Ms A X (plW A X k) x.2 ∧ FM μ x.2) ?_ ⟨rfl, (show Ms A X (plW A X 0) (sI μ0 358 1 0) from h2), f0.tr (FM_row f2)⟩
  rintro k K hk hK ⟨y1, ν⟩ ⟨rfl, hC, hf⟩
  simp only at hC hf
  rcases Nat.lt_or_ge k 6 with hl | hl
  · have hk4 := hK hl
    have al := agc_le A X k (A 358 61)
    have b8 : A 378 k < 41 := hV.b 378 k (by unfold dom; omega)
    have k13 : k < 13 := by omega
    have k12 : k < 12 := by omega
    have eS : plW A X (k + 1) = plW A X k ++ [if 0 < A 378 k then qJ (agc A X k (A 358 61) : Int) else -1] := rfl
    rw [eS] at hk4
    have nx : ∀ ν2 v, Ms A X (plW A X k) ν2 → FM μ ν2 → v = (if 0 < A 378 k then qJ (agc A X k (A 358 61) : Int) else -1) → G12_enters v ν2 (fun μ16 => K (qN (k + 1), μ16)) := by
      intro ν2 v h3 f3 hv
      subst hv
      exact m_radd h3 (by rw [plW_l]; omega) (fun ν4 g4 k4 => hk4 _ ⟨rfl, g4, f3.tr (FM_row k4)⟩)
    simp (disch := omega) only [bo_q0, bo_q1, qN_le, qN_lt, qN_eq, qN_vp, qN_nat, qN_neg1, qN_neg, qN_nn, qN_lit, qN_add, qN_sub, qN_mul, qN_div, Bd_eq, reduceIte, Nat.add_sub_cancel, dm_l, Nat.zero_le, Nat.not_lt_zero, Nat.reduceEqDiff, Nat.reduceLT, Nat.reduceLeDiff, Nat.reduceAdd, Nat.reduceSub, Nat.reduceMul, Nat.reduceDiv, Nat.reduceMod, reduceCtorEq, true_implies, false_implies, not_true_eq_false, not_false_eq_true, true_and, and_true, implies_true, and_false, false_and, forall_const, true_or, or_true, false_or, or_false, G12_pairs_L12, Nat.not_le.mpr hl, k13, Ma_378 hC.1, k12, G12_pairs_J40]
    refine ⟨fun q => nx _ _ hC hf (by rw [if_neg (by omega)]), fun q => ?_⟩
    refine m_against hV hC hl (by omega) (fun ν2 h3 f3 => ?_)
    rw [qN_J (by omega)]
    exact nx _ _ h3 (hf.tr (FM_mS (f3.mo (fun _ _ q => kS_m q)))) (by rw [if_pos (by omega)])
  · have e : k = 6 := by omega
    subst e
    simp (disch := omega) only [bo_q0, bo_q1, qN_le, qN_lt, qN_eq, qN_vp, qN_nat, qN_neg1, qN_neg, qN_nn, qN_lit, qN_add, qN_sub, qN_mul, qN_div, Bd_eq, reduceIte, Nat.add_sub_cancel, dm_l, Nat.zero_le, Nat.not_lt_zero, Nat.reduceEqDiff, Nat.reduceLT, Nat.reduceLeDiff, Nat.reduceAdd, Nat.reduceSub, Nat.reduceMul, Nat.reduceDiv, Nat.reduceMod, reduceCtorEq, true_implies, false_implies, not_true_eq_false, not_false_eq_true, true_and, and_true, implies_true, and_false, false_and, forall_const, true_or, or_true, false_or, or_false, G12_pairs_L12]
    exact m_couldBe hV hC (by decide) (fun μ1 h1 f1 => hy _ h1 (hf.tr (FM_mS (f1.mo (fun _ _ q => kS_m q)))))
theorem op_39 (v1 v2 v3 v4 v5 : Int32) (μ : MM) : Rel μ → Glaw_39 v1 v2 v3 v4 v5 μ Rel := by
  rintro ⟨A, X, W, hV, hW, hC, hM⟩
  refine c_pairs hV hC (fun μ1 h1 f1 => ?_)
  refine m_pairs hV (hM.fc f1) (fun μ2 h2 f2 => ?_)
  exact ⟨fun _ => ⟨A, X, plW A X 6, hV, by rw [plW_l]; decide, h1.fm f2, h2⟩, fun q => q rfl⟩
theorem op_41 (v1 v2 v3 v4 v5 : Int32) (μ : MM) : Rel μ → Glaw_41 v1 v2 v3 v4 v5 μ Rel := by
  rintro ⟨A, X, W, hV, hW, hC, hM⟩
  refine c_nearly hV hC (fun w hw e μ1 h1 f1 => ?_) (fun q => ?_)
  · subst e
    refine m_nearly hV (hM.fc f1) (fun w' hw' e μ2 h2 f2 => ?_) (fun r => absurd ⟨w, by omega, rfl⟩ r)
    obtain rfl := qN_inj e (by omega) (by omega)
    exact ⟨fun _ => ⟨A, X, W, hV, hW, h1.fm f2, h2⟩, fun q => q rfl⟩
  · refine m_nearly hV hM (fun w hw e => absurd ⟨w, by omega, e⟩ q) (fun _ μ2 h2 f2 => ?_)
    exact ⟨fun _ => ⟨A, X, W, hV, hW, hC.fm f2, h2⟩, fun q => q rfl⟩
