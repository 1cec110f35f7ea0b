/-! laws and filters: told or not, what they answer -/
def tL (A : Nat → Nat → Nat) (v : Int32) : Prop := ∃ p, p < 6 ∧ v = qN p ∧ 0 < A 378 p
def tF (A : Nat → Nat → Nat) (v : Int32) : Prop := v = -1 ∨ ∃ p, p < 6 ∧ v = qN p ∧ 0 < A 378 (6 + p)
theorem c_isLaw {A : Nat → Nat → Nat} {μ : MM} {v : Int32} {Q : Int32 → MM → Prop} (hI : ∀ f i, dom f i → A f i < bnd f i) (hA : Ca A μ) (hy : tL A v → Q 1 μ) (hn : ¬ tL A v → Q 0 μ) : G10_isLaw v μ Q := by
  unfold G10_isLaw
  refine within0_s 5 rfl (by decide) (fun q => ?_) (fun q => ⟨fun _ => hn ?_, fun r => absurd rfl r⟩)
  · obtain ⟨p, hp, rfl⟩ := q
    have hp' : p < 6 := hp
    have b : A 378 p < 41 := hI 378 p (by unfold dom; omega)
    simp (disch := omega) only [bo_q0, bo_q1, qN_le, qN_lt, qN_eq, qN_vp, qN_nat, qN_neg1, qN_neg, qN_nn, qN_lit, qN_add, qN_sub, qN_mul, qN_div, Bd_eq, reduceIte, Nat.add_sub_cancel, dm_l, Nat.zero_le, Nat.not_lt_zero, Nat.reduceEqDiff, Nat.reduceLT, Nat.reduceLeDiff, Nat.reduceAdd, Nat.reduceSub, Nat.reduceMul, Nat.reduceDiv, Nat.reduceMod, reduceCtorEq, true_implies, false_implies, not_true_eq_false, not_false_eq_true, true_and, and_true, implies_true, and_false, false_and, forall_const, true_or, or_true, false_or, or_false, G3_isTold, Ca_378 hA, hp', G10_isLaw_J25]
    refine ⟨fun q => hn ?_, fun q => hy ⟨p, hp, rfl, by omega⟩⟩
    rintro ⟨p2, h1, h2, h3⟩
    rw [qN_eq (by omega) (by omega)] at h2
    subst h2
    omega
  · rintro ⟨p, h1, h2, h3⟩
    exact q ⟨p, h1, h2⟩
theorem m_isTold {A : Nat → Nat → Nat} {μ : MM} {v : Int32} {Q : Int32 → MM → Prop} (hI : ∀ f i, dom f i → A f i < bnd f i) (hA : Ma A μ) (hy : tL A v → Q 1 μ) (hn : ¬ tL A v → Q 0 μ) : G12_isTold v μ Q := by
  unfold G12_isTold
  refine in0_s 5 rfl (by decide) (fun q => ?_) (fun q => ⟨fun _ => hn ?_, fun r => absurd rfl r⟩)
  · obtain ⟨p, hp, rfl⟩ := q
    have hp' : p < 12 := by omega
    have b : A 378 p < 41 := hI 378 p (by unfold dom; omega)
    have hp3 : p < 13 := by omega
    simp (disch := omega) only [bo_q0, bo_q1, qN_le, qN_lt, qN_eq, qN_vp, qN_nat, qN_neg1, qN_neg, qN_nn, qN_lit, qN_add, qN_sub, qN_mul, qN_div, Bd_eq, reduceIte, Nat.add_sub_cancel, dm_l, Nat.zero_le, Nat.not_lt_zero, Nat.reduceEqDiff, Nat.reduceLT, Nat.reduceLeDiff, Nat.reduceAdd, Nat.reduceSub, Nat.reduceMul, Nat.reduceDiv, Nat.reduceMod, reduceCtorEq, true_implies, false_implies, not_true_eq_false, not_false_eq_true, true_and, and_true, implies_true, and_false, false_and, forall_const, true_or, or_true, false_or, or_false, Ma_378 hA, hp', hp3, G12_isTold_J25]
    refine ⟨fun q => hn ?_, fun q => hy ⟨p, hp, rfl, by omega⟩⟩
    rintro ⟨p2, h1, h2, h3⟩
    rw [qN_eq (by omega) (by omega)] at h2
    subst h2
    omega
  · rintro ⟨p, h1, h2, h3⟩
    exact q ⟨p, h1, h2⟩
theorem c_isFilter {A : Nat → Nat → Nat} {μ : MM} {v : Int32} {Q : Int32 → MM → Prop} (hI : ∀ f i, dom f i → A f i < bnd f i) (hA : Ca A μ) (hy : tF A v → Q 1 μ) (hn : ¬ tF A v → Q 0 μ) : G10_isFilter v μ Q := by
  unfold G10_isFilter
  refine ⟨fun q => hy (Or.inl q), fun qv => ?_⟩
  refine within0_s 5 rfl (by decide) (fun q => ?_) (fun q => ⟨fun _ => hn ?_, fun r => absurd rfl r⟩)
  · obtain ⟨p, hp, rfl⟩ := q
    have hp' : p < 6 := hp
    have b : A 378 (6 + p) < 41 := hI 378 (6 + p) (by unfold dom; omega)
    simp (disch := omega) only [bo_q0, bo_q1, qN_le, qN_lt, qN_eq, qN_vp, qN_nat, qN_neg1, qN_neg, qN_nn, qN_lit, qN_add, qN_sub, qN_mul, qN_div, Bd_eq, reduceIte, Nat.add_sub_cancel, dm_l, Nat.zero_le, Nat.not_lt_zero, Nat.reduceEqDiff, Nat.reduceLT, Nat.reduceLeDiff, Nat.reduceAdd, Nat.reduceSub, Nat.reduceMul, Nat.reduceDiv, Nat.reduceMod, reduceCtorEq, true_implies, false_implies, not_true_eq_false, not_false_eq_true, true_and, and_true, implies_true, and_false, false_and, forall_const, true_or, or_true, false_or, or_false, G3_isTold, Ca_378f hA, hp', G10_isFilter_J30]
    refine ⟨fun q => hn ?_, fun q => hy (Or.inr ⟨p, hp, rfl, by omega⟩)⟩
    rintro (h | ⟨p2, h1, h2, h3⟩)
    · exact qv h
    · rw [qN_eq (by omega) (by omega)] at h2
      subst h2
      omega
  · rintro (h | ⟨p, h1, h2, h3⟩)
    · exact qv h
    · exact q ⟨p, h1, h2⟩
theorem m_isFilter {A : Nat → Nat → Nat} {μ : MM} {v : Int32} {Q : Int32 → MM → Prop} (hI : ∀ f i, dom f i → A f i < bnd f i) (hA : Ma A μ) (hy : tF A v → Q 1 μ) (hn : ¬ tF A v → Q 0 μ) : G12_isFilter v μ Q := by
  unfold G12_isFilter
  refine ⟨fun q => hy (Or.inl q), fun qv => ?_⟩
  refine in0_s 5 rfl (by decide) (fun q => ?_) (fun q => ⟨fun _ => hn ?_, fun r => absurd rfl r⟩)
  · obtain ⟨p, hp, rfl⟩ := q
    have hp' : 6 + p < 12 := by omega
    have b : A 378 (6 + p) < 41 := hI 378 (6 + p) (by unfold dom; omega)
    have hp3 : 6 + p < 13 := by omega
    simp (disch := omega) only [bo_q0, bo_q1, qN_le, qN_lt, qN_eq, qN_vp, qN_nat, qN_neg1, qN_neg, qN_nn, qN_lit, qN_add, qN_sub, qN_mul, qN_div, Bd_eq, reduceIte, Nat.add_sub_cancel, dm_l, Nat.zero_le, Nat.not_lt_zero, Nat.reduceEqDiff, Nat.reduceLT, Nat.reduceLeDiff, Nat.reduceAdd, Nat.reduceSub, Nat.reduceMul, Nat.reduceDiv, Nat.reduceMod, reduceCtorEq, true_implies, false_implies, not_true_eq_false, not_false_eq_true, true_and, and_true, implies_true, and_false, false_and, forall_const, true_or, or_true, false_or, or_false, Ma_378 hA, hp', hp3, G12_isFilter_J33]
    refine ⟨fun q => hn ?_, fun q => hy (Or.inr ⟨p, hp, rfl, by omega⟩)⟩
    rintro (h | ⟨p2, h1, h2, h3⟩)
    · exact qv h
    · rw [qN_eq (by omega) (by omega)] at h2
      subst h2
      omega
  · rintro (h | ⟨p, h1, h2, h3⟩)
    · exact qv h
    · exact q ⟨p, h1, h2⟩
/-- what law p says of letter i -/
def lwv (A X : Nat → Nat → Nat) (p i : Nat) : Int32 := evl (thv A i (qN (uT A (A 367 i) (A 358 12))) (qN (vT A (A 367 i) (A 358 12))) (qN (wT A (A 367 i) (A 358 12)))) (X p) (A 378 p)
/-- what law p says of letter i alone -/
def lwa (A X : Nat → Nat → Nat) (p i : Nat) : Int32 := evl (thv A i 0 0 0) (X p) (A 378 p)
def pS (k j : Nat) : Prop := k = 12 ∨ (115 ≤ k ∧ k < 151 ∧ ((k - 115) % 3 = 2 ∨ ((k - 115) % 3 = 0 ∧ j = 3)))
theorem pS_c {k j : Nat} (h : pS k j) : cS k j := by
  unfold pS at h
  unfold cS
  omega
theorem Inv.b {A X : Nat → Nat → Nat} (h : Inv A X) : ∀ f i, dom f i → A f i < bnd f i := h.1
theorem Inv.w {A X : Nat → Nat → Nat} (h : Inv A X) {p : Nat} (hp : p < 12) : wfX (decide (p < 6)) (X p) (A 378 p) := h.2.2.2.2.2.2.2.1 p hp
theorem c_code {A X : Nat → Nat → Nat} {W : List Int64} {μ μ' : MM} (h : Cs A X W μ) (f : Sm cS μ μ') {p : Nat} (hp : p < 12) : ∀ k, k < A 378 p → gI μ' (ecp p + 1) k = ecd (X p k) := fun k hk => (f.1 (ecp p + 1) k (ecp_S hp k).2.1).1.trans (h.2.1 p hp k hk)
/-- a law or filter over things that are laid -/
theorem c_res {A X : Nat → Nat → Nat} {W : List Int64} {μ : MM} {Q : Int32 → MM → Prop} (hV : Inv A X) (h : Cs A X W μ) {p : Nat} (hp : p < 12) (h0 : 0 < A 378 p) {th : Nat → Int32} (hth : ∀ j, j < 14 → gI μ 12 j = th j)
    (hQ : ∀ μ', Sm pS μ μ' → Q (evl th (X p) (A 378 p)) μ') : G3_result (ecp p) 12 μ Q := by
  have hb : A 378 p < 41 := hV.b 378 p (by unfold dom; omega)
  have e1 : cc 378 p = ecp p := rfl
  have g1 : gI μ (ecp p) 1 = qN (A 378 p) := h.1 378 p (by unfold dom; omega)
  have h3 := ecp_S hp 0
  refine c_result (by omega) g1 (by omega) h0 (h.2.1 p hp) (hV.w hp) hth (fun μ' f => hQ μ' (f.mo (fun k j q => ?_)))
  unfold eS at q
  unfold pS
  unfold ecp at q
  split at q <;> omega
theorem c_lawFor {A X : Nat → Nat → Nat} {W : List Int64} {μ : MM} {Q : Int32 → MM → Prop} (hV : Inv A X) (h : Cs A X W μ) {p i : Nat} (hp : p < 6) (h0 : 0 < A 378 p) (hi : i < 96)
    (hQ : ∀ μ', Sm pS μ μ' → Q (lwv A X p i) μ') : G10_lawFor (qN p) (19 + i) μ Q := by
  have hA := h.1
  have b1 : A 367 i < 24 := hV.b 367 i (by unfold dom; omega)
  refine c_lookAt hV.b hA hi (fun μ1 f1 e1 => ?_)
  have f1' : Sm pS μ μ1 := f1.mo (fun k j q => Or.inl q)
  have h1 := h.sm (f1'.mo (fun k j q => pS_c q))
  rw [Ca_367 h1.1 hi]
  refine c_lookAtHouse hV.b h1.1 b1 (e1 10 (by decide)) (e1 11 (by decide)) (e1 12 (by decide)) (fun μ2 f2 k0 k1 k2 => ?_)
  have f2' : Sm pS μ1 μ2 := f2.mo (fun k j q => Or.inl q.1)
  have h2 := h1.sm (f2'.mo (fun k j q => pS_c q))
  have hp2 : p < 6 := hp
  simp (disch := omega) only [bo_q0, bo_q1, qN_le, qN_lt, qN_eq, qN_vp, qN_nat, qN_neg1, qN_neg, qN_nn, qN_lit, qN_add, qN_sub, qN_mul, qN_div, Bd_eq, reduceIte, Nat.add_sub_cancel, dm_l, Nat.zero_le, Nat.not_lt_zero, Nat.reduceEqDiff, Nat.reduceLT, Nat.reduceLeDiff, Nat.reduceAdd, Nat.reduceSub, Nat.reduceMul, Nat.reduceDiv, Nat.reduceMod, reduceCtorEq, true_implies, false_implies, not_true_eq_false, not_false_eq_true, true_and, and_true, implies_true, and_false, false_and, forall_const, true_or, or_true, false_or, or_false, hp2]
  have ep : 115 + 6 * p = ecp p := by unfold ecp; rw [if_pos hp]
  rw [ep]
  refine c_res hV h2 (by omega) h0 (th := thv A i (qN (uT A (A 367 i) (A 358 12))) (qN (vT A (A 367 i) (A 358 12))) (qN (wT A (A 367 i) (A 358 12)))) (fun j hj => ?_) (fun μ3 f3 => hQ μ3 ((f1'.tr f2').tr f3))
  have hj2 : j = 10 ∨ j = 11 ∨ j = 12 ∨ (j < 10 ∨ j = 13) := by omega
  rcases hj2 with rfl | rfl | rfl | hj2
  · exact k0
  · exact k1
  · exact k2
  · rw [(f2.1 12 j (by omega)).1, e1 j hj]
    have hj3 : j = 0 ∨ j = 1 ∨ j = 2 ∨ j = 3 ∨ j = 4 ∨ j = 5 ∨ j = 6 ∨ j = 7 ∨ j = 8 ∨ j = 9 ∨ j = 13 := by omega
    rcases hj3 with rfl | rfl | rfl | rfl | rfl | rfl | rfl | rfl | rfl | rfl | rfl <;> rfl
/-- whether a letter passes a filter -/
def fps (A X : Nat → Nat → Nat) (v : Int32) (i : Nat) : Bool := decide (v = -1) || !decide (lwa A X (6 + v.toNatClampNeg) i = 0)
theorem c_passes {A X : Nat → Nat → Nat} {W : List Int64} {μ : MM} {Q : Int32 → MM → Prop} (hV : Inv A X) (h : Cs A X W μ) {v : Int32} (hv : tF A v) {i : Nat} (hi : i < 96)
    (hQ : ∀ μ', Sm pS μ μ' → Q (if fps A X v i = true then 1 else 0) μ') : G10_passes (19 + i) v μ Q := by
  unfold G10_passes
  refine ⟨fun q => ?_, fun q => ?_⟩
  · obtain ⟨p, hp, rfl, h0⟩ := hv.resolve_left q
    refine c_lookAt hV.b h.1 hi (fun μ1 f1 e1 => ?_)
    have f1' : Sm pS μ μ1 := f1.mo (fun k j q => Or.inl q)
    have h1 := h.sm (f1'.mo (fun k j q => pS_c q))
    simp (disch := omega) only [bo_q0, bo_q1, qN_le, qN_lt, qN_eq, qN_vp, qN_nat, qN_neg1, qN_neg, qN_nn, qN_lit, qN_add, qN_sub, qN_mul, qN_div, Bd_eq, reduceIte, Nat.add_sub_cancel, dm_l, Nat.zero_le, Nat.not_lt_zero, Nat.reduceEqDiff, Nat.reduceLT, Nat.reduceLeDiff, Nat.reduceAdd, Nat.reduceSub, Nat.reduceMul, Nat.reduceDiv, Nat.reduceMod, reduceCtorEq, true_implies, false_implies, not_true_eq_false, not_false_eq_true, true_and, and_true, implies_true, and_false, false_and, forall_const, true_or, or_true, false_or, or_false, hp]
    have ep : 118 + 6 * p = ecp (6 + p) := by unfold ecp; rw [if_neg (by omega)]; omega
    rw [ep]
    have q' : (qN p = -1) = False := eq_false q
    refine c_res hV h1 (by omega) h0 e1 (fun μ3 f3 => ?_)
    have hq := hQ μ3 (f1'.tr f3)
    unfold fps at hq
    rw [qN_nat (by omega)] at hq
    simp only [q', decide_false, Bool.false_or] at hq
    refine ⟨fun r => ?_, fun r => ?_⟩
    · have r' : lwa A X (6 + p) i = 0 := r
      rw [r'] at hq
      exact hq
    · have r' : ¬ lwa A X (6 + p) i = 0 := r
      simp only [r', decide_false, Bool.not_false, reduceIte] at hq
      exact hq
  · have hq := hQ μ Sm.rfl'
    unfold fps at hq
    simpa [q] using hq
theorem m_passes {A X : Nat → Nat → Nat} {W : List Int64} {μ : MM} {Q : Int32 → MM → Prop} (hV : Inv A X) (h : Ms A X W μ) {v : Int32} (hv : tF A v) {i : Nat} (hi : i < 96)
    (hQ : ∀ μ', Sm (fun k _ => k = 379) μ μ' → Q (if A 373 i = 1 ∧ fps A X v i = true then 1 else 0) μ') : G12_passes v (qN i) μ Q := by
  have hA := h.1
  have b3 : A 373 i < 2 := hV.b 373 i (by unfold dom; omega)
  have n1 : ((-1 : Int32) < 0) = True := by decide
  simp (disch := omega) only [bo_q0, bo_q1, qN_le, qN_lt, qN_eq, qN_vp, qN_nat, qN_neg1, qN_neg, qN_nn, qN_lit, qN_add, qN_sub, qN_mul, qN_div, Bd_eq, reduceIte, Nat.add_sub_cancel, dm_l, Nat.zero_le, Nat.not_lt_zero, Nat.reduceEqDiff, Nat.reduceLT, Nat.reduceLeDiff, Nat.reduceAdd, Nat.reduceSub, Nat.reduceMul, Nat.reduceDiv, Nat.reduceMod, reduceCtorEq, true_implies, false_implies, not_true_eq_false, not_false_eq_true, true_and, and_true, implies_true, and_false, false_and, forall_const, true_or, or_true, false_or, or_false, G12_passes, Ma_373 hA, hi, G12_passes_J29]
  refine ⟨fun q => ?_, fun q => ?_⟩
  · have hq := hQ μ Sm.rfl'
    rw [if_neg (by omega)] at hq
    exact hq
  · have q1 : A 373 i = 1 := by omega
    rcases hv with rfl | ⟨p, hp, rfl, h0⟩
    · have hq := hQ μ Sm.rfl'
      unfold fps at hq
      simp [q1] at hq
      exact ⟨fun _ => hq, fun q2 => absurd (show (-1 : Int32) < 0 by decide) q2⟩
    · simp (disch := omega) only [bo_q0, bo_q1, qN_le, qN_lt, qN_eq, qN_vp, qN_nat, qN_neg1, qN_neg, qN_nn, qN_lit, qN_add, qN_sub, qN_mul, qN_div, Bd_eq, reduceIte, Nat.add_sub_cancel, dm_l, Nat.zero_le, Nat.not_lt_zero, Nat.reduceEqDiff, Nat.reduceLT, Nat.reduceLeDiff, Nat.reduceAdd, Nat.reduceSub, Nat.reduceMul, Nat.reduceDiv, Nat.reduceMod, reduceCtorEq, true_implies, false_implies, not_true_eq_false, not_false_eq_true, true_and, and_true, implies_true, and_false, false_and, forall_const, true_or, or_true, false_or, or_false, ]
      refine m_worked hV.b hA (b := false) (c := X (6 + p)) (by omega) hi rfl h0 (fun k hk => h.2.1 (6 + p) (by omega) k hk) ?_ (fun μ1 f1 => ?_)
      · have := hV.w (p := 6 + p) (by omega)
        rwa [decide_eq_false (by omega)] at this
      · have e : evl (thv A i (gI μ 358 33) (gI μ 358 34) (gI μ 358 35)) (X (6 + p)) (A 378 (6 + p)) = lwa A X (6 + p) i := by
          have hw := hV.w (p := 6 + p) (by omega)
          rw [decide_eq_false (by omega)] at hw
          refine evl_congr hw (fun j hj hb => ?_)
          obtain ⟨x1, x2, x3⟩ := hb rfl
          have hj3 : j = 0 ∨ j = 1 ∨ j = 2 ∨ j = 3 ∨ j = 4 ∨ j = 5 ∨ j = 6 ∨ j = 7 ∨ j = 8 ∨ j = 9 ∨ j = 13 := by omega
          rcases hj3 with rfl | rfl | rfl | rfl | rfl | rfl | rfl | rfl | rfl | rfl | rfl <;> rfl
        rw [e]
        have hq := hQ μ1 f1
        have q' : (qN p = -1) = False := by rw [qN_neg1 (by omega)]
        unfold fps at hq
        rw [qN_nat (by omega)] at hq
        simp only [q', decide_false, Bool.false_or, q1, true_and] at hq
        refine ⟨fun r => ?_, fun r => ?_⟩
        · rw [← qN_lit 0] at r
          rw [r] at hq
          exact hq
        · rw [← qN_lit 0] at r
          simp only [r, decide_false, Bool.not_false, reduceIte] at hq
          exact hq
