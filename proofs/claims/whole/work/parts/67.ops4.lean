/-! aside, mornings, years, both -/
theorem qN_I (a : Nat) : qN a = qI (a : Int) := qN_iI a
theorem qI_add (a b : Int) : qI a + qI b = qI (a + b) := (Int32.ofInt_add a b).symm
theorem qI_sub (a b : Int) : qI a - qI b = qI (a - b) := (Int32.ofInt_sub a b).symm
theorem qI_mul (a b : Int) : qI a * qI b = qI (a * b) := (Int32.ofInt_mul a b).symm
theorem qI_6 {a : Int} (h1 : -2147483648 ≤ a) (h2 : a < 2147483648) : (qI a).toInt64 = qJ a := by
  apply Int64.toInt.inj
  rw [Int32.toInt_toInt64, qJ_t (by omega) (by omega)]
  exact Int32.toInt_ofInt_of_le h1 h2
theorem mulb {a b m n : Nat} (h1 : a ≤ m) (h2 : b ≤ n) : a * b ≤ m * n := Nat.mul_le_mul h1 h2
/-- the difference of two shares, by crosses -/
def asU (A : Nat → Nat → Nat) (S : Nat → Bool) : Int := (tr A S 0 (A 358 12) : Int) * (tc A S 1 (A 358 12) : Int) - (tr A S 1 (A 358 12) : Int) * (tc A S 0 (A 358 12) : Int)
def asL (A : Nat → Nat → Nat) (S : Nat → Bool) : Nat := tc A S 0 (A 358 12) * tc A S 1 (A 358 12)
def asB (A : Nat → Nat → Nat) (S : Nat → Bool) : Prop := 0 < tc A S 0 (A 358 12) ∧ 0 < tc A S 1 (A 358 12)
theorem asU_b {A : Nat → Nat → Nat} {S : Nat → Bool} (h : A 358 12 < 97) : -9216 ≤ asU A S ∧ asU A S ≤ 9216 := by
  have s0 := tc_le A S 0 (A 358 12)
  have s1 := tc_le A S 1 (A 358 12)
  have s2 := tr_le A S 0 (A 358 12)
  have s3 := tr_le A S 1 (A 358 12)
  unfold asU
  have m1 := mulb (show tr A S 0 (A 358 12) ≤ 96 by omega) (show tc A S 1 (A 358 12) ≤ 96 by omega)
  have m2 := mulb (show tr A S 1 (A 358 12) ≤ 96 by omega) (show tc A S 0 (A 358 12) ≤ 96 by omega)
  rw [← Int.natCast_mul, ← Int.natCast_mul]
  omega
theorem asL_b {A : Nat → Nat → Nat} {S : Nat → Bool} (h : A 358 12 < 97) : asL A S ≤ 9216 := by
  have s0 := tc_le A S 0 (A 358 12)
  have s1 := tc_le A S 1 (A 358 12)
  exact mulb (show tc A S 0 (A 358 12) ≤ 96 by omega) (show tc A S 1 (A 358 12) ≤ 96 by omega)
theorem asL_p {A : Nat → Nat → Nat} {S : Nat → Bool} (h : asB A S) : 0 < asL A S := Nat.mul_pos h.1 h.2
/-- what a tally's cells say, for longs -/
theorem Tl_J {μ : MM} {t : Nat} {A : Nat → Nat → Nat} {S : Nat → Bool} (h : A 358 12 < 97) (hT : Tl μ t A S (A 358 12)) : ∀ p, p < 2 → (gI μ (t + 1) p).toInt64 = qJ (tc A S p (A 358 12) : Int) ∧ (gI μ (t + 2) p).toInt64 = qJ (tr A S p (A 358 12) : Int) := fun p hp => by
  have s0 := tc_le A S p (A 358 12)
  have s2 := tr_le A S p (A 358 12)
  rw [(hT p hp).1, (hT p hp).2, qN_J (by omega), qN_J (by omega)]
  exact ⟨rfl, rfl⟩
theorem c_asU {μ : MM} {t : Nat} {A : Nat → Nat → Nat} {S : Nat → Bool} {Q : Int64 → MM → Prop} (h : A 358 12 < 97) (hT : Tl μ t A S (A 358 12)) (hQ : Q (qJ (asU A S)) μ) : G9_asideUpper t μ Q := by
  unfold G9_asideUpper
  rw [(Tl_J h hT 0 (by decide)).1, (Tl_J h hT 1 (by decide)).1, (Tl_J h hT 0 (by decide)).2, (Tl_J h hT 1 (by decide)).2, qJ_mul, qJ_mul, qJ_sub]
  exact hQ
theorem c_asL {μ : MM} {t : Nat} {A : Nat → Nat → Nat} {S : Nat → Bool} {Q : Int64 → MM → Prop} (h : A 358 12 < 97) (hT : Tl μ t A S (A 358 12)) (hQ : Q (qJ (asL A S : Int)) μ) : G9_asideLower t μ Q := by
  unfold G9_asideLower
  rw [(Tl_J h hT 0 (by decide)).1, (Tl_J h hT 1 (by decide)).1, qJ_mul, ← Int.natCast_mul]
  exact hQ
theorem c_hasBoth {μ : MM} {t : Nat} {A : Nat → Nat → Nat} {S : Nat → Bool} {Q : Int32 → MM → Prop} (h : A 358 12 < 97) (hT : Tl μ t A S (A 358 12)) (hy : asB A S → Q 1 μ) (hn : ¬ asB A S → Q 0 μ) : G9_hasBoth t μ Q := by
  have s0 := tc_le A S 0 (A 358 12)
  have s1 := tc_le A S 1 (A 358 12)
  unfold asB at hy hn
  simp (disch := omega) only [bo_q0, bo_q1, qN_le, qN_lt, qN_eq, qN_vp, qN_nat, qN_neg1, qN_neg, qN_nn, qN_lit, qN_add, qN_sub, qN_mul, qN_div, Bd_eq, reduceIte, Nat.add_sub_cancel, dm_l, Nat.zero_le, Nat.not_lt_zero, Nat.reduceEqDiff, Nat.reduceLT, Nat.reduceLeDiff, Nat.reduceAdd, Nat.reduceSub, Nat.reduceMul, Nat.reduceDiv, Nat.reduceMod, reduceCtorEq, true_implies, false_implies, not_true_eq_false, not_false_eq_true, true_and, and_true, implies_true, and_false, false_and, forall_const, true_or, or_true, false_or, or_false, G9_hasBoth, G9_hasBoth_J22, (hT 0 (by decide)).1, (hT 1 (by decide)).1]
  exact ⟨fun q => hn (by omega), fun q => ⟨fun q2 => hn (by omega), fun q2 => hy (by omega)⟩⟩
theorem m_areBoth {μ : MM} {A : Nat → Nat → Nat} {S : Nat → Bool} {Q : Int32 → MM → Prop} (h : A 358 12 < 97) (hT : Tl μ 380 A S (A 358 12)) (hy : asB A S → Q 1 μ) (hn : ¬ asB A S → Q 0 μ) : G12_areBoth μ Q := by
  have s0 := tc_le A S 0 (A 358 12)
  have s1 := tc_le A S 1 (A 358 12)
  have e0 : gI μ 381 0 = qN (tc A S 0 (A 358 12)) := (hT 0 (by decide)).1
  have e1 : gI μ 381 1 = qN (tc A S 1 (A 358 12)) := (hT 1 (by decide)).1
  unfold asB at hy hn
  simp (disch := omega) only [bo_q0, bo_q1, qN_le, qN_lt, qN_eq, qN_vp, qN_nat, qN_neg1, qN_neg, qN_nn, qN_lit, qN_add, qN_sub, qN_mul, qN_div, Bd_eq, reduceIte, Nat.add_sub_cancel, dm_l, Nat.zero_le, Nat.not_lt_zero, Nat.reduceEqDiff, Nat.reduceLT, Nat.reduceLeDiff, Nat.reduceAdd, Nat.reduceSub, Nat.reduceMul, Nat.reduceDiv, Nat.reduceMod, reduceCtorEq, true_implies, false_implies, not_true_eq_false, not_false_eq_true, true_and, and_true, implies_true, and_false, false_and, forall_const, true_or, or_true, false_or, or_false, G12_areBoth, G12_areBoth_J22, e0, e1]
  exact ⟨fun q => hn (by omega), fun q => ⟨fun q2 => hn (by omega), fun q2 => hy (by omega)⟩⟩
theorem Tl_sm {μ μ' : MM} {t n : Nat} {A : Nat → Nat → Nat} {S : Nat → Bool} {Z : Nat → Nat → Prop} (hT : Tl μ t A S n) (f : Sm Z μ μ') (hz : ∀ j, ¬ Z (t + 1) j ∧ ¬ Z (t + 2) j) : Tl μ' t A S n := fun p hp => by
  rw [(f.1 _ _ (hz p).1).1, (f.1 _ _ (hz p).2).1]
  exact hT p hp
/-- the model's cross, in ints -/
theorem m_cross {μ : MM} {A : Nat → Nat → Nat} {S : Nat → Bool} (h : A 358 12 < 97) (hT : Tl μ 380 A S (A 358 12)) : (gI μ 382 0 * gI μ 381 1 - gI μ 382 1 * gI μ 381 0) = qI (asU A S) := by
  have e0 : gI μ 381 0 = qN (tc A S 0 (A 358 12)) := (hT 0 (by decide)).1
  have e1 : gI μ 381 1 = qN (tc A S 1 (A 358 12)) := (hT 1 (by decide)).1
  have e2 : gI μ 382 0 = qN (tr A S 0 (A 358 12)) := (hT 0 (by decide)).2
  have e3 : gI μ 382 1 = qN (tr A S 1 (A 358 12)) := (hT 1 (by decide)).2
  rw [e0, e1, e2, e3, qN_I, qN_I, qN_I, qN_I, qI_mul, qI_mul, qI_sub]
  rfl
theorem m_low {μ : MM} {A : Nat → Nat → Nat} {S : Nat → Bool} (h : A 358 12 < 97) (hT : Tl μ 380 A S (A 358 12)) : (gI μ 381 0).toInt64 * (gI μ 381 1).toInt64 = qJ (asL A S : Int) := by
  have e0 := (Tl_J h hT 0 (by decide)).1
  have e1 := (Tl_J h hT 1 (by decide)).1
  rw [show gI μ 381 0 = gI μ (380 + 1) 0 from rfl, show gI μ 381 1 = gI μ (380 + 1) 1 from rfl, e0, e1, qJ_mul, ← Int.natCast_mul]
  rfl
def asW (A : Nat → Nat → Nat) (S : Nat → Bool) : List Int64 := ((((frc (asU A S) (asL A S)) ++ [qJ (tc A S 0 (A 358 12) : Int)]) ++ [qJ (tr A S 0 (A 358 12) : Int)]) ++ [qJ (tc A S 1 (A 358 12) : Int)]) ++ [qJ (tr A S 1 (A 358 12) : Int)]

theorem c_aside {A X : Nat → Nat → Nat} {W : List Int64} {μ : MM} {v1 : Int32} {Q : Int32 → MM → Prop} (hV : Inv A X) (h : Cs A X W μ)
    (hy : tF A v1 → asB A (gSel A X v1 (-1)) → ∀ μ', Cs A X (asW A (gSel A X v1 (-1))) μ' → FC μ μ' → Q 0 μ')
    (hz : tF A v1 → ¬ asB A (gSel A X v1 (-1)) → ∀ μ', Cs A X W μ' → FC μ μ' → Q (-2) μ') (hn : ¬ tF A v1 → Q (-1) μ) : G11_aside v1 μ Q := by
  have hl : A 358 12 < 97 := hV.b 358 12 (by unfold dom; decide)
  unfold G11_aside G8_tellAside
  refine c_isFilter hV.b h.1 (fun q => ⟨fun _ => ?_, fun r => absurd r (by decide)⟩) (fun q => ⟨fun r => absurd rfl r, fun _ => hn q⟩)
  refine c_gather hV h q (t := 154) (by decide) (by decide) (fun μ1 h1 f1 hT => ?_)
  have fc : FC μ μ1 := FC_cS (f1.mo (fun k j q => by rcases q with q | q | q; exact pS_c q; unfold cS; omega; unfold cS; omega))
  generalize gSel A X v1 (-1) = S at *
  have s0 := asU_b (A := A) (S := S) hl
  have s1 := asL_b (A := A) (S := S) hl
  refine c_hasBoth hl hT (fun qb => ⟨fun _ => ?_, fun r => absurd r (by decide)⟩) (fun qb => ⟨fun r => absurd rfl r, fun _ => hz q qb _ h1 fc⟩)
  have hp := asL_p qb
  refine c_rclear h1 (fun μ2 h2 f2 => ?_)
  have z5 : ∀ j : Nat, ¬ ((154 + 1 : Nat) = 151 ∨ (154 + 1 : Nat) = 152) ∧ ¬ ((154 + 2 : Nat) = 151 ∨ (154 + 2 : Nat) = 152) := fun j => by omega
  have hT2 := Tl_sm hT f2 z5
  refine c_asU hl hT2 (c_asL hl hT2 ?_)
  refine c_rfrac h2 (by decide) ⟨by omega, by omega⟩ hp (by omega) (fun μ3 h3 f3 => ?_)
  have hT3 := Tl_sm hT2 f3 z5
  refine Lp.up 2 (fun i x => x.1 = qN i ∧ Cs A X (if i = 0 then frc (asU A S) (asL A S) else if i = 1 then (frc (asU A S) (asL A S) ++ [qJ (tc A S 0 (A 358 12) : Int)]) ++ [qJ (tr A S 0 (A 358 12) : Int)] else asW A S) x.2 ∧ Tl x.2 154 A S (A 358 12) ∧ FC μ x.2) ?_ ⟨rfl, (by simp only [reduceIte]; exact h3), hT3, (fc.tr (FC_row f2)).tr (FC_row f3)⟩
  rintro i K hi hK ⟨y, ν⟩ ⟨rfl, hC, hTn, hf⟩
  simp only at hC hTn hf
  rcases Nat.lt_or_ge i 2 with hl1 | hl1
  · have hk := hK hl1
    have t1 := (Tl_J hl hTn i hl1).1
    have t2 : ∀ ν', Tl ν' 154 A S (A 358 12) → (gI ν' 156 i).toInt64 = qJ (tr A S i (A 358 12) : Int) := fun ν' q => (Tl_J hl q i hl1).2
    simp (disch := omega) only [bo_q0, bo_q1, qN_le, qN_lt, qN_eq, qN_vp, qN_nat, qN_neg1, qN_neg, qN_nn, qN_lit, qN_add, qN_sub, qN_mul, qN_div, Bd_eq, reduceIte, Nat.add_sub_cancel, dm_l, Nat.zero_le, Nat.not_lt_zero, Nat.reduceEqDiff, Nat.reduceLT, Nat.reduceLeDiff, Nat.reduceAdd, Nat.reduceSub, Nat.reduceMul, Nat.reduceDiv, Nat.reduceMod, reduceCtorEq, true_implies, false_implies, not_true_eq_false, not_false_eq_true, true_and, and_true, implies_true, and_false, false_and, forall_const, true_or, or_true, false_or, or_false, G8_tellAside_L66, Nat.not_le.mpr hl1, hl1, t1]
    refine c_radd hC (by split; (show (2 : Nat) < 10; decide); split; (show (4 : Nat) < 10; decide); omega) (fun ν1 g1 k1 => ?_)
    have hT4 := Tl_sm hTn k1 z5
    rw [t2 ν1 hT4]
    refine c_radd g1 (by rw [List.length_append]; split; (show (3 : Nat) < 10; decide); split; (show (5 : Nat) < 10; decide); omega) (fun ν2 g2 k2 => hk _ ⟨rfl, ?_, Tl_sm hT4 k2 z5, (hf.tr (FC_row k1)).tr (FC_row k2)⟩)
    rcases (show i = 0 ∨ i = 1 by omega) with rfl | rfl
    · exact g2
    · exact g2
  · have e : i = 2 := by omega
    subst e
    simp (disch := omega) only [bo_q0, bo_q1, qN_le, qN_lt, qN_eq, qN_vp, qN_nat, qN_neg1, qN_neg, qN_nn, qN_lit, qN_add, qN_sub, qN_mul, qN_div, Bd_eq, reduceIte, Nat.add_sub_cancel, dm_l, Nat.zero_le, Nat.not_lt_zero, Nat.reduceEqDiff, Nat.reduceLT, Nat.reduceLeDiff, Nat.reduceAdd, Nat.reduceSub, Nat.reduceMul, Nat.reduceDiv, Nat.reduceMod, reduceCtorEq, true_implies, false_implies, not_true_eq_false, not_false_eq_true, true_and, and_true, implies_true, and_false, false_and, forall_const, true_or, or_true, false_or, or_false, G8_tellAside_L66]
    exact hy q qb _ hC hf
theorem m_aside {A X : Nat → Nat → Nat} {W : List Int64} {μ : MM} {v1 : Int32} {Q : Int32 → MM → Prop} (hV : Inv A X) (h : Ms A X W μ)
    (hy : tF A v1 → asB A (gSel A X v1 (-1)) → ∀ μ', Ms A X (asW A (gSel A X v1 (-1))) μ' → FM μ μ' → Q 0 μ')
    (hz : tF A v1 → ¬ asB A (gSel A X v1 (-1)) → ∀ μ', Ms A X W μ' → FM μ μ' → Q (-2) μ') (hn : ¬ tF A v1 → ∀ μ', Ms A X W μ' → FM μ μ' → Q (-1) μ') : G12_aside v1 μ Q := by
  have hl : A 358 12 < 97 := hV.b 358 12 (by unfold dom; decide)
  unfold G12_aside
  rw [Bd_eq]
  have h0 := m_thr h 0
  have f0 := fm_thr μ 0
  revert h0 f0
  generalize sI μ 358 0 0 = μ0
  intro h0 f0
  refine m_isFilter hV.b h0.1 (fun q => ⟨fun _ => ?_, fun r => absurd r (by decide)⟩) (fun q => ⟨fun r => absurd rfl r, fun _ => hn q _ h0 f0⟩)
  refine m_counts hV h0 q (fun μ1 h1 f1 hT => ?_)
  replace hT := Tl_congr (fun i hi => (sel_eq A X v1 hV.b (n := A 358 12) (by omega) i hi).symm) hT
  have fc : FM μ μ1 := f0.tr (FM_mS (f1.mo (fun k j q => nS_m q)))
  generalize gSel A X v1 (-1) = S at *
  have s0 := asU_b (A := A) (S := S) hl
  have s1 := asL_b (A := A) (S := S) hl
  refine m_areBoth hl hT (fun qb => ⟨fun _ => ?_, fun r => absurd r (by decide)⟩) (fun qb => ⟨fun r => absurd rfl r, fun _ => hz q qb _ h1 fc⟩)
  have hp := asL_p qb
  refine m_rclear h1 (fun μ2 h2 f2 => ?_)
  have z5 : ∀ j : Nat, ¬ (((380 + 1 : Nat) = 358 ∧ j = 1) ∨ (380 + 1 : Nat) = 359) ∧ ¬ (((380 + 2 : Nat) = 358 ∧ j = 1) ∨ (380 + 2 : Nat) = 359) := fun j => by omega
  have hT2 := Tl_sm hT f2 z5
  rw [m_cross hl hT2, m_low hl hT2, qI_6 (by omega) (by omega)]
  refine m_rfrac h2 (by decide) ⟨by omega, by omega⟩ hp (by omega) (fun μ3 h3 f3 => ?_)
  have hT3 := Tl_sm hT2 f3 z5
  rw [show gI μ3 381 0 = gI μ3 (380 + 1) 0 from rfl, (Tl_J hl hT3 0 (by decide)).1]
  refine m_radd h3 (show (2 : Nat) < 10 by decide) (fun μ4 h4 f4 => ?_)
  have hT4 := Tl_sm hT3 f4 z5
  rw [show gI μ4 382 0 = gI μ4 (380 + 2) 0 from rfl, (Tl_J hl hT4 0 (by decide)).2]
  refine m_radd h4 (show (3 : Nat) < 10 by decide) (fun μ5 h5 f5 => ?_)
  have hT5 := Tl_sm hT4 f5 z5
  rw [show gI μ5 381 1 = gI μ5 (380 + 1) 1 from rfl, (Tl_J hl hT5 1 (by decide)).1]
  refine m_radd h5 (show (4 : Nat) < 10 by decide) (fun μ6 h6 f6 => ?_)
  have hT6 := Tl_sm hT5 f6 z5
  rw [show gI μ6 382 1 = gI μ6 (380 + 2) 1 from rfl, (Tl_J hl hT6 1 (by decide)).2]
  refine m_radd h6 (show (5 : Nat) < 10 by decide) (fun μ7 h7 f7 => ?_)
  exact hy q qb _ h7 ((((((fc.tr (FM_row f2)).tr (FM_row f3)).tr (FM_row f4)).tr (FM_row f5)).tr (FM_row f6)).tr (FM_row f7))

def yrs (A : Nat → Nat → Nat) (v d : Nat) : Prop := 0 < tc A (sW A v 99) 0 (A 358 12) ∧ 0 < tc A (sW A (v + d) 99) 1 (A 358 12) ∧ tr A (sW A v 99) 0 (A 358 12) * tc A (sW A (v + d) 99) 1 (A 358 12) ≤ tr A (sW A (v + d) 99) 1 (A 358 12) * tc A (sW A v 99) 0 (A 358 12)
def yrW (A : Nat → Nat → Nat) (w : Nat) : List Int64 := frc (tr A (sW A w 99) 1 (A 358 12) : Int) (tc A (sW A w 99) 1 (A 358 12))
theorem yrs_no {A : Nat → Nat → Nat} {v d : Nat} (h : 99 < v + d) : ¬ yrs A v d := fun q => by
  have : tc A (sW A (v + d) 99) 1 (A 358 12) = 0 := cnt_zero _ (fun i hi => by
    have : ¬ (v + d ≤ A 369 i ∧ A 369 i ≤ 99) := by omega
    unfold sW
    rw [decide_eq_false this]; simp)
  have := q.2.1
  omega
theorem c_years {A X : Nat → Nat → Nat} {W : List Int64} {μ : MM} {v1 : Int32} {Q : Int32 → MM → Prop} (hV : Inv A X) (h : Cs A X W μ)
    (hy : ∀ v d, v < 100 → d < 100 → v1 = qN v → yrs A v d → (∀ e, e < d → ¬ yrs A v e) → ∀ μ', Cs A X (yrW A (v + d)) μ' → FC μ μ' → Q (qN d) μ')
    (hz : ∀ v, v < 100 → v1 = qN v → (∀ e, e < 100 → ¬ yrs A v e) → ∀ μ', Cs A X W μ' → FC μ μ' → Q (-2) μ') (hn : ¬ inr v1 100 → Q (-1) μ) : G11_years v1 μ Q := by
  have hl : A 358 12 < 97 := hV.b 358 12 (by unfold dom; decide)
  unfold G11_years G2_tellYears
  refine within0_s 99 rfl (by decide) (fun q1 => ⟨fun _ => ?_, fun r => absurd r (by decide)⟩) (fun q1 => ⟨fun r => absurd rfl r, fun _ => hn q1⟩)
  obtain ⟨v, hv, rfl⟩ := q1
  refine c_gatherWorth hV h (lo := v) (mx := 99) (by omega) (by decide) (t := 203) (by decide) (by decide) (fun μ1 h1 f1 hT => ?_)
  have gc : ∀ k j : Nat, (k = 203 + 1 ∨ k = 203 + 2) → cS k j := fun k j q => by unfold cS; omega
  have gc2 : ∀ k j : Nat, (k = 207 + 1 ∨ k = 207 + 2) → cS k j := fun k j q => by unfold cS; omega
  refine Lp.up (100 - v) (fun i x => x.1 = qN i ∧ Cs A X W x.2 ∧ FC μ x.2 ∧ Tl x.2 203 A (sW A v 99) (A 358 12) ∧ ∀ e, e < i → ¬ yrs A v e) ?_ ⟨rfl, h1, FC_cS (f1.mo gc), hT, fun e he => absurd he (by omega)⟩
  rintro i K hi hK ⟨y, ν⟩ ⟨rfl, hC, hf, hTn, hno⟩
  simp only at hC hf hTn hno
  have c0 := tc_le A (sW A v 99) 0 (A 358 12)
  have c1 := tr_le A (sW A v 99) 0 (A 358 12)
  have e0 : gI ν 204 0 = qN (tc A (sW A v 99) 0 (A 358 12)) := (hTn 0 (by decide)).1
  rcases Nat.lt_or_ge i (100 - v) with hl1 | hl1
  · have hk := hK hl1
    have hvi : ¬ 99 < v + i := by omega
    simp (disch := omega) only [bo_q0, bo_q1, qN_le, qN_lt, qN_eq, qN_vp, qN_nat, qN_neg1, qN_neg, qN_nn, qN_lit, qN_add, qN_sub, qN_mul, qN_div, Bd_eq, reduceIte, Nat.add_sub_cancel, dm_l, Nat.zero_le, Nat.not_lt_zero, Nat.reduceEqDiff, Nat.reduceLT, Nat.reduceLeDiff, Nat.reduceAdd, Nat.reduceSub, Nat.reduceMul, Nat.reduceDiv, Nat.reduceMod, reduceCtorEq, true_implies, false_implies, not_true_eq_false, not_false_eq_true, true_and, and_true, implies_true, and_false, false_and, forall_const, true_or, or_true, false_or, or_false, G2_tellYears_L32, hvi, e0]
    refine ⟨fun q => hz v hv rfl (fun e _ r => by have := r.1; omega) _ hC hf, fun q => ?_⟩
    refine c_gatherWorth hV hC (lo := v + i) (mx := 99) (by omega) (by decide) (t := 207) (by decide) (by decide) (fun ν1 g1 k1 hT1 => ?_)
    have hTn1 := Tl_sm hTn k1 (fun j => by omega)
    have d0 := tc_le A (sW A (v + i) 99) 1 (A 358 12)
    have d1 := tr_le A (sW A (v + i) 99) 1 (A 358 12)
    have e1 : gI ν1 204 0 = qN (tc A (sW A v 99) 0 (A 358 12)) := (hTn1 0 (by decide)).1
    have e2 : gI ν1 205 0 = qN (tr A (sW A v 99) 0 (A 358 12)) := (hTn1 0 (by decide)).2
    have e3 : gI ν1 208 1 = qN (tc A (sW A (v + i) 99) 1 (A 358 12)) := (hT1 1 (by decide)).1
    have e4 : gI ν1 209 1 = qN (tr A (sW A (v + i) 99) 1 (A 358 12)) := (hT1 1 (by decide)).2
    have m1 := mulb (show tr A (sW A (v + i) 99) 1 (A 358 12) ≤ 96 by omega) (show tc A (sW A v 99) 0 (A 358 12) ≤ 96 by omega)
    have m2 := mulb (show tr A (sW A v 99) 0 (A 358 12) ≤ 96 by omega) (show tc A (sW A (v + i) 99) 1 (A 358 12) ≤ 96 by omega)
    have hf1 := hf.tr (FC_cS (k1.mo gc2))
    have nxt : ¬ yrs A v i → K (qN (i + 1), ν1) := fun q5 => hk _ ⟨rfl, g1, hf1, hTn1, fun e he => by
      by_cases q6 : e = i
      · rw [q6]; exact q5
      · exact hno e (by omega)⟩
    simp (disch := omega) only [bo_q0, bo_q1, qN_le, qN_lt, qN_eq, qN_vp, qN_nat, qN_neg1, qN_neg, qN_nn, qN_lit, qN_add, qN_sub, qN_mul, qN_div, Bd_eq, reduceIte, Nat.add_sub_cancel, dm_l, Nat.zero_le, Nat.not_lt_zero, Nat.reduceEqDiff, Nat.reduceLT, Nat.reduceLeDiff, Nat.reduceAdd, Nat.reduceSub, Nat.reduceMul, Nat.reduceDiv, Nat.reduceMod, reduceCtorEq, true_implies, false_implies, not_true_eq_false, not_false_eq_true, true_and, and_true, implies_true, and_false, false_and, forall_const, true_or, or_true, false_or, or_false, e1, e2, e3, e4]
    refine ⟨fun q2 => nxt (fun r => by have := r.2.1; omega), fun q2 => ⟨fun q3 => nxt (fun r => by have := r.2.2; omega), fun q3 => ?_⟩⟩
    refine c_rclear g1 (fun ν2 g2 k2 => ?_)
    have e5 : gI ν2 208 1 = qN (tc A (sW A (v + i) 99) 1 (A 358 12)) := (k2.1 208 1 (by show ¬ (208 = 151 ∨ 208 = 152); decide)).1.trans e3
    have e6 : gI ν2 209 1 = qN (tr A (sW A (v + i) 99) 1 (A 358 12)) := (k2.1 209 1 (by show ¬ (209 = 151 ∨ 209 = 152); decide)).1.trans e4
    rw [e5, e6, qN_J (by omega), qN_J (by omega)]
    refine c_rfrac g2 (by decide) ⟨by omega, by omega⟩ (by omega) (by omega) (fun ν3 g3 k3 => ?_)
    exact hy v i hv (by omega) rfl ⟨by omega, by omega, by omega⟩ hno _ g3 ((hf1.tr (FC_row k2)).tr (FC_row k3))
  · have e : i = 100 - v := by omega
    have hvi : 99 < v + i := by omega
    simp (disch := omega) only [bo_q0, bo_q1, qN_le, qN_lt, qN_eq, qN_vp, qN_nat, qN_neg1, qN_neg, qN_nn, qN_lit, qN_add, qN_sub, qN_mul, qN_div, Bd_eq, reduceIte, Nat.add_sub_cancel, dm_l, Nat.zero_le, Nat.not_lt_zero, Nat.reduceEqDiff, Nat.reduceLT, Nat.reduceLeDiff, Nat.reduceAdd, Nat.reduceSub, Nat.reduceMul, Nat.reduceDiv, Nat.reduceMod, reduceCtorEq, true_implies, false_implies, not_true_eq_false, not_false_eq_true, true_and, and_true, implies_true, and_false, false_and, forall_const, true_or, or_true, false_or, or_false, G2_tellYears_L32, hvi]
    exact hz v hv rfl (fun e he r => by
      by_cases q6 : e < i
      · exact hno e q6 r
      · exact yrs_no (by omega) r) _ hC hf
theorem m_years {A X : Nat → Nat → Nat} {W : List Int64} {μ : MM} {v1 : Int32} {Q : Int32 → MM → Prop} (hV : Inv A X) (h : Ms A X W μ)
    (hy : ∀ v d, v < 100 → d < 100 → v1 = qN v → yrs A v d → (∀ e, e < d → ¬ yrs A v e) → ∀ μ', Ms A X (yrW A (v + d)) μ' → FM μ μ' → Q (qN d) μ')
    (hz : ∀ v, v < 100 → v1 = qN v → (∀ e, e < 100 → ¬ yrs A v e) → ∀ μ', Ms A X W μ' → FM μ μ' → Q (-2) μ') (hn : ¬ inr v1 100 → ∀ μ', Ms A X W μ' → FM μ μ' → Q (-1) μ') : G12_years v1 μ Q := by
  have hl : A 358 12 < 97 := hV.b 358 12 (by unfold dom; decide)
  unfold G12_years
  rw [Bd_eq]
  have h0 := m_thr h 0
  have f0 := fm_thr μ 0
  revert h0 f0
  generalize sI μ 358 0 0 = μ0
  intro h0 f0
  refine in0_s 99 rfl (by decide) (fun q1 => ⟨fun _ => ?_, fun r => absurd r (by decide)⟩) (fun q1 => ⟨fun r => absurd rfl r, fun _ => hn q1 _ h0 f0⟩)
  obtain ⟨v, hv, rfl⟩ := q1
  refine m_countsWorth hV h0 (p := 0) (v := v) (by decide) (by omega) (fun μ1 h1 f1 a0 a1 => ?_)
  have gm : ∀ p, ∀ k j : Nat, ((k = 381 ∨ k = 382) ∧ j = p) → mS k j := fun p k j q => by unfold mS; omega
  refine Lp.up 100 (fun i x => x.1 = qN i ∧ Ms A X W x.2 ∧ FM μ x.2 ∧ gI x.2 381 0 = qN (tc A (sW A v 99) 0 (A 358 12)) ∧ gI x.2 382 0 = qN (tr A (sW A v 99) 0 (A 358 12)) ∧ ∀ e, e < i → ¬ yrs A v e) ?_ ⟨rfl, h1, f0.tr (FM_mS (f1.mo (gm 0))), a0, a1, fun e he => absurd he (by omega)⟩
  clear a0 a1
  rintro i K hi hK ⟨y, ν⟩ ⟨rfl, hC, hf, a0, a1, hno⟩
  simp only at hC hf a0 a1 hno
  have c0 := tc_le A (sW A v 99) 0 (A 358 12)
  have c1 := tr_le A (sW A v 99) 0 (A 358 12)
  rcases Nat.lt_or_ge i 100 with hl1 | hl1
  · have hk := hK hl1
    have hvi : ¬ 99 < i := by omega
    simp (disch := omega) only [bo_q0, bo_q1, qN_le, qN_lt, qN_eq, qN_vp, qN_nat, qN_neg1, qN_neg, qN_nn, qN_lit, qN_add, qN_sub, qN_mul, qN_div, Bd_eq, reduceIte, Nat.add_sub_cancel, dm_l, Nat.zero_le, Nat.not_lt_zero, Nat.reduceEqDiff, Nat.reduceLT, Nat.reduceLeDiff, Nat.reduceAdd, Nat.reduceSub, Nat.reduceMul, Nat.reduceDiv, Nat.reduceMod, reduceCtorEq, true_implies, false_implies, not_true_eq_false, not_false_eq_true, true_and, and_true, implies_true, and_false, false_and, forall_const, true_or, or_true, false_or, or_false, G12_years_L27, hvi]
    refine m_countsWorth hV hC (p := 1) (v := v + i) (by decide) (by omega) (fun ν1 g1 k1 b0 b1 => ?_)
    have d0 := tc_le A (sW A (v + i) 99) 1 (A 358 12)
    have d1 := tr_le A (sW A (v + i) 99) 1 (A 358 12)
    have a2 : gI ν1 381 0 = qN (tc A (sW A v 99) 0 (A 358 12)) := (k1.1 381 0 (by omega)).1.trans a0
    have a3 : gI ν1 382 0 = qN (tr A (sW A v 99) 0 (A 358 12)) := (k1.1 382 0 (by omega)).1.trans a1
    have m1 := mulb (show tr A (sW A (v + i) 99) 1 (A 358 12) ≤ 96 by omega) (show tc A (sW A v 99) 0 (A 358 12) ≤ 96 by omega)
    have m2 := mulb (show tr A (sW A v 99) 0 (A 358 12) ≤ 96 by omega) (show tc A (sW A (v + i) 99) 1 (A 358 12) ≤ 96 by omega)
    have hf1 := hf.tr (FM_mS (k1.mo (gm 1)))
    have nxt : ¬ yrs A v i → K (qN (i + 1), ν1) := fun q5 => hk _ ⟨rfl, g1, hf1, a2, a3, fun e he => by
      by_cases q6 : e = i
      · rw [q6]; exact q5
      · exact hno e (by omega)⟩
    simp (disch := omega) only [bo_q0, bo_q1, qN_le, qN_lt, qN_eq, qN_vp, qN_nat, qN_neg1, qN_neg, qN_nn, qN_lit, qN_add, qN_sub, qN_mul, qN_div, Bd_eq, reduceIte, Nat.add_sub_cancel, dm_l, Nat.zero_le, Nat.not_lt_zero, Nat.reduceEqDiff, Nat.reduceLT, Nat.reduceLeDiff, Nat.reduceAdd, Nat.reduceSub, Nat.reduceMul, Nat.reduceDiv, Nat.reduceMod, reduceCtorEq, true_implies, false_implies, not_true_eq_false, not_false_eq_true, true_and, and_true, implies_true, and_false, false_and, forall_const, true_or, or_true, false_or, or_false, G12_areBoth, G12_areBoth_J22, a2, a3, b0, b1]
    refine ⟨fun q2 => nxt (fun r => by have := r.1; omega), fun q2 => ⟨fun q3 => nxt (fun r => by have := r.2.1; omega), fun q3 => ⟨fun q4 => nxt (fun r => by have := r.2.2; omega), fun q4 => ?_⟩⟩⟩
    obtain ⟨g2, k2⟩ := m_rc g1
    simp only [gI_I, Nat.reduceEqDiff, true_implies, false_implies, not_true_eq_false, not_false_eq_true, true_and, and_true, implies_true, and_false, false_and, forall_const, true_or, or_true, false_or, or_false, reduceIte]
    rw [b0, b1, qN_J (by omega), qN_J (by omega)]
    refine m_rfrac g2 (by decide) ⟨by omega, by omega⟩ (by omega) (by omega) (fun ν3 g3 k3 => ?_)
    exact hy v i hv (by omega) rfl ⟨by omega, by omega, by omega⟩ hno _ g3 ((hf1.tr (FM_row k2)).tr (FM_row k3))
  · have e : i = 100 := by omega
    subst e
    simp (disch := omega) only [bo_q0, bo_q1, qN_le, qN_lt, qN_eq, qN_vp, qN_nat, qN_neg1, qN_neg, qN_nn, qN_lit, qN_add, qN_sub, qN_mul, qN_div, Bd_eq, reduceIte, Nat.add_sub_cancel, dm_l, Nat.zero_le, Nat.not_lt_zero, Nat.reduceEqDiff, Nat.reduceLT, Nat.reduceLeDiff, Nat.reduceAdd, Nat.reduceSub, Nat.reduceMul, Nat.reduceDiv, Nat.reduceMod, reduceCtorEq, true_implies, false_implies, not_true_eq_false, not_false_eq_true, true_and, and_true, implies_true, and_false, false_and, forall_const, true_or, or_true, false_or, or_false, G12_years_L27]
    exact hz v hv rfl hno _ hC hf
