/-! box -/
/-- the entry as it is held -/
def bxE (a : Nat) (f st : Int32) (k : Nat) : Int32 := if a = 3 then 0 else if a = 0 then (f + qN k * st).toInt8.toInt32 else if a = 1 then (f + qN k * st).toInt16.toInt32 else f + qN k * st
def bx (A : Nat → Nat → Nat) (a : Nat) (f st : Int32) : Nat → (Nat → Nat → Nat) × Nat
  | 0 => (A, 0)
  | k + 1 => if A 373 k = 0 ∧ ¬ bxE a f st k < 0 then (up2 (up2 (bx A a f st k).1 373 k 1) 374 k (if 0 < bxE a f st k then 1 else 0), (bx A a f st k).2 + 1) else bx A a f st k
theorem bx_o (A : Nat → Nat → Nat) (a : Nat) (f st : Int32) {g j : Nat} (h : g ≠ 373 ∧ g ≠ 374) : ∀ k, (bx A a f st k).1 g j = A g j
  | 0 => rfl
  | k + 1 => by
    have ih := bx_o A a f st (g := g) (j := j) h k
    show (if A 373 k = 0 ∧ ¬ bxE a f st k < 0 then _ else bx A a f st k).1 g j = A g j
    split
    · show up2 (up2 (bx A a f st k).1 373 k 1) 374 k _ g j = A g j
      rw [up2_o (by omega), up2_o (by omega), ih]
    · exact ih
theorem bx_n (A : Nat → Nat → Nat) (a : Nat) (f st : Int32) {j : Nat} : ∀ k, k ≤ j → (bx A a f st k).1 373 j = A 373 j
  | 0, _ => rfl
  | k + 1, hk => by
    have ih := bx_n A a f st (j := j) k (by omega)
    show (if A 373 k = 0 ∧ ¬ bxE a f st k < 0 then _ else bx A a f st k).1 373 j = A 373 j
    split
    · show up2 (up2 (bx A a f st k).1 373 k 1) 374 k (if 0 < bxE a f st k then 1 else 0) 373 j = A 373 j
      rw [up2_o (by omega), up2_o (by omega), ih]
    · exact ih
theorem bx_c (A : Nat → Nat → Nat) (a : Nat) (f st : Int32) : ∀ k, (bx A a f st k).2 ≤ k
  | 0 => Nat.le_refl _
  | k + 1 => by
    have ih := bx_c A a f st k
    show (if A 373 k = 0 ∧ ¬ bxE a f st k < 0 then _ else bx A a f st k).2 ≤ k + 1
    split
    · show (bx A a f st k).2 + 1 ≤ k + 1
      omega
    · omega
theorem bx_inv {A X : Nat → Nat → Nat} (hV : Inv A X) (a : Nat) (f st : Int32) : ∀ k, k ≤ 96 → Inv (bx A a f st k).1 X
  | 0, _ => hV
  | k + 1, hk => by
    have ih := bx_inv hV a f st k (by omega)
    show Inv (if A 373 k = 0 ∧ ¬ bxE a f st k < 0 then _ else bx A a f st k).1 X
    split
    · rename_i q
      exact ih.ring (by omega) (by rw [bx_n _ _ _ _ _ (Nat.le_refl _)]; exact q.1) (by split <;> decide)
    · exact ih
theorem bx_s (A : Nat → Nat → Nat) (a : Nat) (f st : Int32) (k : Nat) : bx A a f st (k + 1) = if A 373 k = 0 ∧ ¬ bxE a f st k < 0 then (up2 (up2 (bx A a f st k).1 373 k 1) 374 k (if 0 < bxE a f st k then 1 else 0), (bx A a f st k).2 + 1) else bx A a f st k := rfl
theorem bxE_v (f st : Int32) (k : Nat) : f + qN (k + 1) * st = f + qN k * st + st := by
  rw [← qN_add, Int32.add_mul, Int32.add_assoc]
  congr 1
  rw [show qN 1 = (1 : Int32) from rfl, Int32.one_mul]
def nmin (a b : Nat) : Nat := if a ≤ b then a else b

theorem i_le {v w : Int32} : (v ≤ w) ↔ ¬ (w < v) := Int32.not_lt.symm
theorem c_box {A X : Nat → Nat → Nat} {W : List Int64} {μ : MM} {v1 v2 v3 v4 : Int32} {Q : Int32 → MM → Prop} (hV : Inv A X) (h : Cs A X W μ)
    (hy : ∀ a n, a < 3 → n ≤ 96 → v1 = qN a → v2 = qN n → ∀ μ', Cs (bx A a v3 v4 (nmin n (A 358 12))).1 X W μ' → FC μ μ' → Q (qN (bx A a v3 v4 (nmin n (A 358 12))).2) μ')
    (h3 : v1 = qN 3 → v2 ≤ 96 → ∀ μ', Cs (bx A 3 v3 v4 (A 358 12)).1 X W μ' → FC μ μ' → Q (qN (bx A 3 v3 v4 (A 358 12)).2) μ')
    (hz : ∀ a, a < 3 → v1 = qN a → v2 ≤ 96 → v2 < 0 → Q (-2) μ) (hn : ¬ (inr v1 4 ∧ v2 ≤ 96) → Q (-1) μ) : G11_box v1 v2 v3 v4 μ Q := by
  have hl : A 358 12 < 97 := hV.b 358 12 (by unfold dom; decide)
  unfold G11_box
  refine within0_s 3 rfl (by decide) (fun q1 => ⟨fun r => absurd r (by decide), fun _ => ⟨fun q2 => ?_, fun q2 => hn (fun r => q2 r.2)⟩⟩) (fun q1 => ⟨fun _ => hn (fun r => q1 r.1), fun r => absurd rfl r⟩)
  obtain ⟨a, ha, rfl⟩ := q1
  have e3 : (qN a = 3) = (a = 3) := by rw [eq_iff_iff, show (3 : Int32) = qN 3 from rfl, qN_eq (by omega) (by decide)]
  rw [e3]
  refine ⟨fun q3 => ⟨fun q4 => ?_, fun q4 => hz a (by omega) rfl q2 (Int32.not_le.mp q4)⟩, fun q3 => ?_⟩
  · have n0 : ¬ v2 < 0 := Int32.not_lt.mpr q4
    obtain ⟨n, hn2, rfl⟩ := qN_of n0
    rw [show (96 : Int32) = qN 96 from rfl, qN_le hn2 (by decide)] at q2
    have w1 := hy a n (by omega) q2 rfl rfl
    refine Lp.up (nmin n (A 358 12)) (fun k x => x.1 = qN (bx A a v3 v4 k).2 ∧ x.2.1 = qN k ∧ Cs (bx A a v3 v4 k).1 X W x.2.2 ∧ FC μ x.2.2) ?_ ⟨rfl, rfl, (show Cs (bx A a v3 v4 0).1 X W μ from h), FC.rfl'⟩
    rintro k K hk hK ⟨y1, y2, ν⟩ ⟨rfl, rfl, hC, hf⟩
    simp only at hC hf
    have hA := hC.1
    have e12 : gI ν 1 10 = qN (A 358 12) := by rw [Ca_s12 hA, bx_o _ _ _ _ (by omega)]
    have mn : nmin n (A 358 12) ≤ n ∧ nmin n (A 358 12) ≤ A 358 12 ∧ (nmin n (A 358 12) = n ∨ nmin n (A 358 12) = A 358 12) := by unfold nmin; split <;> omega
    rcases Nat.lt_or_ge k (nmin n (A 358 12)) with hl1 | hl1
    · have hk2 := hK hl1
      have hk9 : k < 96 := by omega
      have c1 : ¬ n ≤ k := by omega
      have c2 : ¬ A 358 12 ≤ k := by omega
      have b3 : A 373 k < 2 := hV.b 373 k (by unfold dom; omega)
      have e6 : gI ν (19 + k) 6 = qN (A 373 k) := by rw [Ca_373 hA hk9, bx_n _ _ _ _ _ (Nat.le_refl _)]
      have cc := bx_c A a v3 v4 k
      have eE : ∀ P : Int32 → Prop, P (bxE a v3 v4 k) → ((qN a = 0 → P ((v3 + qN k * v4).toInt8.toInt32)) ∧ (qN a = 1 → P ((v3 + qN k * v4).toInt16.toInt32)) ∧ (¬ qN a = 0 → ¬ qN a = 1 → P (v3 + qN k * v4))) := by
        intro P hP
        unfold bxE at hP
        rw [if_neg q3] at hP
        rw [show (0 : Int32) = qN 0 from rfl, show (1 : Int32) = qN 1 from rfl, qN_eq (by omega) (by decide), qN_eq (by omega) (by decide)]
        refine ⟨fun r => ?_, fun r => ?_, fun r r2 => ?_⟩
        · rw [if_pos r] at hP; exact hP
        · rw [if_neg (by omega), if_pos r] at hP; exact hP
        · rw [if_neg r, if_neg r2] at hP; exact hP
      rw [bx_s] at hk2
      show G10_readAsBoxed_L6 (qN a) (qN n) v3 v4 (fun r14 μ13 => Q r14 μ13) K (qN (bx A a v3 v4 k).2, qN k, ν)
      unfold G10_readAsBoxed_L6
      rw [e12, qN_le (by omega) (by omega), qN_le (by omega) (by omega)]
      refine ⟨fun r => absurd r c1, fun _ => ⟨fun r => absurd r c2, fun _ => ?_⟩⟩
      unfold G10_asHeld
      refine eE (fun r9 => vp_in (qN k) 96 ∧ ((¬ (gI ν (19 + (qN k).toNatClampNeg) 6) = 0 → K (qN (bx A a v3 v4 k).2, (qN k + 1), ν)) ∧ ((gI ν (19 + (qN k).toNatClampNeg) 6) = 0 → ((r9 < 0 → K (qN (bx A a v3 v4 k).2, (qN k + 1), ν)) ∧ (¬ (r9 < 0) → vp_in (qN k) 96 ∧ ((r9 ≤ 0 → G10_readAsBoxed_J69 (qN a) (qN n) v3 v4 (qN (bx A a v3 v4 k).2) (qN k) 0 (19 + (qN k).toNatClampNeg) ν K (fun r14 μ13 => Q r14 μ13)) ∧ (¬ (r9 ≤ 0) → G10_readAsBoxed_J69 (qN a) (qN n) v3 v4 (qN (bx A a v3 v4 k).2) (qN k) 1 (19 + (qN k).toNatClampNeg) ν K (fun r14 μ13 => Q r14 μ13)))))))) ?_
      have z1 : (1 : Nat) < 2 := by decide
      have z0 : (0 : Nat) < 2 := by decide
      have wr : ∀ v : Nat, v < 2 → (if A 373 k = 0 ∧ ¬ bxE a v3 v4 k < 0 then (up2 (up2 (bx A a v3 v4 k).1 373 k 1) 374 k (if 0 < bxE a v3 v4 k then 1 else 0), (bx A a v3 v4 k).2 + 1) else bx A a v3 v4 k) = (up2 (up2 (bx A a v3 v4 k).1 373 k 1) 374 k v, (bx A a v3 v4 k).2 + 1) → K (qN ((bx A a v3 v4 k).2 + 1), qN (k + 1), sI (sI ν (19 + k) 6 (qN 1)) (19 + k) 7 (qN v)) := by
        intro v hv e
        rw [e] at hk2
        have hs : Sm cT ν (sI (sI ν (19 + k) 6 (qN 1)) (19 + k) 7 (qN v)) := (Sm.rfl'.wI (qN 1) (k := 19 + k) (j := 6) (by unfold cT; omega)).wI (qN v) (k := 19 + k) (j := 7) (by unfold cT; omega)
        exact hk2 _ ⟨rfl, rfl, hC.up hs (Cw_374 (Cw_373 hA hk9 1) hk9 v) (fun p hp => rfl), hf.tr (FC_cT hs)⟩
      simp (disch := omega) only [bo_q0, bo_q1, qN_le, qN_lt, qN_eq, qN_vp, qN_nat, qN_neg1, qN_neg, qN_nn, qN_lit, qN_add, qN_sub, qN_mul, qN_div, Bd_eq, reduceIte, Nat.add_sub_cancel, dm_l, Nat.zero_le, Nat.not_lt_zero, Nat.reduceEqDiff, Nat.reduceLT, Nat.reduceLeDiff, Nat.reduceAdd, Nat.reduceSub, Nat.reduceMul, Nat.reduceDiv, Nat.reduceMod, reduceCtorEq, true_implies, false_implies, not_true_eq_false, not_false_eq_true, true_and, and_true, implies_true, and_false, false_and, forall_const, true_or, or_true, false_or, or_false, hk9, e6, G10_readAsBoxed_J69, G5_becomeRead]
      refine ⟨fun r => ?_, fun r => ⟨fun r2 => ?_, fun r2 => ⟨fun r3 => ?_, fun r3 => ?_⟩⟩⟩
      · rw [if_neg (fun s => r s.1)] at hk2
        exact hk2 _ ⟨rfl, rfl, hC, hf⟩
      · rw [if_neg (fun s => s.2 r2)] at hk2
        exact hk2 _ ⟨rfl, rfl, hC, hf⟩
      · exact wr 0 z0 (by rw [if_pos ⟨r, (show ¬ bxE a v3 v4 k < 0 from r2)⟩, if_neg (show ¬ (0 : Int32) < bxE a v3 v4 k from Int32.not_lt.mpr r3)])
      · exact wr 1 z1 (by rw [if_pos ⟨r, (show ¬ bxE a v3 v4 k < 0 from r2)⟩, if_pos (show (0 : Int32) < bxE a v3 v4 k from Int32.not_le.mp r3)])
    · have e : k = nmin n (A 358 12) := by omega
      subst e
      show G10_readAsBoxed_L6 (qN a) (qN n) v3 v4 (fun r14 μ13 => Q r14 μ13) K (qN (bx A a v3 v4 (nmin n (A 358 12))).2, qN (nmin n (A 358 12)), ν)
      unfold G10_readAsBoxed_L6
      rw [e12, qN_le (by omega) (by omega), qN_le (by omega) (by omega)]
      exact ⟨fun _ => w1 _ hC hf, fun r => ⟨fun _ => w1 _ hC hf, fun r2 => absurd r2 (by omega)⟩⟩
  · subst q3
    have w1 := h3 rfl q2
    refine Lp.up (A 358 12) (fun k x => x.1 = qN (bx A 3 v3 v4 k).2 ∧ x.2.1 = qN k ∧ Cs (bx A 3 v3 v4 k).1 X W x.2.2 ∧ FC μ x.2.2) ?_ ⟨rfl, rfl, (show Cs (bx A 3 v3 v4 0).1 X W μ from h), FC.rfl'⟩
    rintro k K hk hK ⟨y1, y2, ν⟩ ⟨rfl, rfl, hC, hf⟩
    simp only at hC hf
    have hA := hC.1
    have e12 : gI ν 1 10 = qN (A 358 12) := by rw [Ca_s12 hA, bx_o _ _ _ _ (by omega)]
    rcases Nat.lt_or_ge k (A 358 12) with hl1 | hl1
    · have hk2 := hK hl1
      have hk9 : k < 96 := by omega
      have b3 : A 373 k < 2 := hV.b 373 k (by unfold dom; omega)
      have e6 : gI ν (19 + k) 6 = qN (A 373 k) := by rw [Ca_373 hA hk9, bx_n _ _ _ _ _ (Nat.le_refl _)]
      have eE : bxE 3 v3 v4 k = 0 := rfl
      have ez : ¬ ((0 : Int32) < 0) := by decide
      rw [bx_s, eE] at hk2
      simp (disch := omega) only [bo_q0, bo_q1, qN_le, qN_lt, qN_eq, qN_vp, qN_nat, qN_neg1, qN_neg, qN_nn, qN_lit, qN_add, qN_sub, qN_mul, qN_div, Bd_eq, reduceIte, Nat.add_sub_cancel, dm_l, Nat.zero_le, Nat.not_lt_zero, Nat.reduceEqDiff, Nat.reduceLT, Nat.reduceLeDiff, Nat.reduceAdd, Nat.reduceSub, Nat.reduceMul, Nat.reduceDiv, Nat.reduceMod, reduceCtorEq, true_implies, false_implies, not_true_eq_false, not_false_eq_true, true_and, and_true, implies_true, and_false, false_and, forall_const, true_or, or_true, false_or, or_false, G10_readAllWithoutRings_L4, e12, hk9, e6, Nat.not_le.mpr hl1, G5_becomeRead]
      refine ⟨fun r => ?_, fun r => ?_⟩
      · rw [if_neg (fun s => r s.1)] at hk2
        exact hk2 _ ⟨rfl, rfl, hC, hf⟩
      · rw [if_pos ⟨r, ez⟩, if_neg ez] at hk2
        have hs : Sm cT ν (sI (sI ν (19 + k) 6 (qN 1)) (19 + k) 7 (qN 0)) := (Sm.rfl'.wI (qN 1) (k := 19 + k) (j := 6) (by unfold cT; omega)).wI (qN 0) (k := 19 + k) (j := 7) (by unfold cT; omega)
        exact hk2 _ ⟨rfl, rfl, hC.up hs (Cw_374 (Cw_373 hA hk9 1) hk9 0) (fun p hp => rfl), hf.tr (FC_cT hs)⟩
    · have e : k = A 358 12 := by omega
      subst e
      simp (disch := omega) only [bo_q0, bo_q1, qN_le, qN_lt, qN_eq, qN_vp, qN_nat, qN_neg1, qN_neg, qN_nn, qN_lit, qN_add, qN_sub, qN_mul, qN_div, Bd_eq, reduceIte, Nat.add_sub_cancel, dm_l, Nat.zero_le, Nat.not_lt_zero, Nat.reduceEqDiff, Nat.reduceLT, Nat.reduceLeDiff, Nat.reduceAdd, Nat.reduceSub, Nat.reduceMul, Nat.reduceDiv, Nat.reduceMod, reduceCtorEq, true_implies, false_implies, not_true_eq_false, not_false_eq_true, true_and, and_true, implies_true, and_false, false_and, forall_const, true_or, or_true, false_or, or_false, G10_readAllWithoutRings_L4, e12, Nat.le_refl]
      exact w1 _ hC hf
theorem m_box {A X : Nat → Nat → Nat} {W : List Int64} {μ : MM} {v1 v2 v3 v4 : Int32} {Q : Int32 → MM → Prop} (hV : Inv A X) (h : Ms A X W μ)
    (hy : ∀ a n, a < 3 → n ≤ 96 → v1 = qN a → v2 = qN n → ∀ μ', Ms (bx A a v3 v4 (nmin n (A 358 12))).1 X W μ' → FM μ μ' → Q (qN (bx A a v3 v4 (nmin n (A 358 12))).2) μ')
    (h3 : v1 = qN 3 → v2 ≤ 96 → ∀ μ', Ms (bx A 3 v3 v4 (A 358 12)).1 X W μ' → FM μ μ' → Q (qN (bx A 3 v3 v4 (A 358 12)).2) μ')
    (hz : ∀ a, a < 3 → v1 = qN a → v2 ≤ 96 → v2 < 0 → ∀ μ', Ms A X W μ' → FM μ μ' → Q (-2) μ') (hn : ¬ (inr v1 4 ∧ v2 ≤ 96) → ∀ μ', Ms A X W μ' → FM μ μ' → Q (-1) μ') : G12_box v1 v2 v3 v4 μ Q := by
  have hl : A 358 12 < 97 := hV.b 358 12 (by unfold dom; decide)
  unfold G12_box
  rw [Bd_eq]
  have h0 := m_thr h 0
  have f0 := fm_thr μ 0
  revert h0 f0
  generalize sI μ 358 0 0 = μ0
  intro h0 f0
  refine in0_s 3 rfl (by decide) (fun q1 => ⟨fun r => absurd r (by decide), fun _ => ⟨fun q2 => ?_, fun q2 => hn (fun r => q2 r.2) _ h0 f0⟩⟩) (fun q1 => ⟨fun _ => hn (fun r => q1 r.1) _ h0 f0, fun r => absurd rfl r⟩)
  obtain ⟨a, ha, rfl⟩ := q1
  have e3 : (qN a = 3) = (a = 3) := by rw [eq_iff_iff, show (3 : Int32) = qN 3 from rfl, qN_eq (by omega) (by decide)]
  have key : ∀ M, M ≤ A 358 12 → (a = 3 → M = A 358 12) → (a ≠ 3 → ∃ n, n ≤ 96 ∧ v2 = qN n ∧ M = nmin n (A 358 12)) → (∀ μ', Ms (bx A a v3 v4 M).1 X W μ' → FM μ μ' → Q (qN (bx A a v3 v4 M).2) μ') → Lp (G12_box_L46 (qN a) v2 v4 Q) (v3, 0, 0, μ0) := by
    intro M hM1 hM2 hM3 w1
    have ev : v3 = v3 + qN 0 * v4 := by rw [show qN 0 = (0 : Int32) from rfl, Int32.zero_mul, Int32.add_zero]
    refine Lp.up M (fun k x => x.1 = v3 + qN k * v4 ∧ x.2.1 = qN (bx A a v3 v4 k).2 ∧ x.2.2.1 = qN k ∧ Ms (bx A a v3 v4 k).1 X W x.2.2.2 ∧ FM μ x.2.2.2) ?_ ⟨ev, rfl, rfl, (show Ms (bx A a v3 v4 0).1 X W μ0 from h0), f0⟩
    rintro k K hk hK ⟨y1, y2, y3, ν⟩ ⟨rfl, rfl, rfl, hC, hf⟩
    simp only at hC hf
    have hA := hC.1
    have e12 : gI ν 358 12 = qN (A 358 12) := by rw [Ma_s12 hA, bx_o _ _ _ _ (by omega)]
    have stepk : k < M → G12_box_J66 (qN a) v2 v4 (v3 + qN k * v4) (qN (bx A a v3 v4 k).2) (qN k) ν K Q := by
      intro hl1
      have hk2 := hK hl1
      have hk9 : k < 96 := by omega
      have b3 : A 373 k < 2 := hV.b 373 k (by unfold dom; omega)
      have e6 : gI ν 373 k = qN (A 373 k) := by rw [Ma_373 hA hk9, bx_n _ _ _ _ _ (Nat.le_refl _)]
      have cc := bx_c A a v3 v4 k
      rw [bx_s, bxE_v] at hk2
      have z1 : (1 : Nat) < 2 := by decide
      have z0 : (0 : Nat) < 2 := by decide
      have wr : ∀ v : Nat, v < 2 → (if A 373 k = 0 ∧ ¬ bxE a v3 v4 k < 0 then (up2 (up2 (bx A a v3 v4 k).1 373 k 1) 374 k (if 0 < bxE a v3 v4 k then 1 else 0), (bx A a v3 v4 k).2 + 1) else bx A a v3 v4 k) = (up2 (up2 (bx A a v3 v4 k).1 373 k 1) 374 k v, (bx A a v3 v4 k).2 + 1) → K (v3 + qN k * v4 + v4, qN ((bx A a v3 v4 k).2 + 1), qN (k + 1), sI (sI ν 373 k (qN 1)) 374 k (qN v)) := by
        intro v hv e
        rw [e] at hk2
        have hs : Sm mT ν (sI (sI ν 373 k (qN 1)) 374 k (qN v)) := (Sm.rfl'.wI (qN 1) (k := 373) (j := k) (by unfold mT; omega)).wI (qN v) (k := 374) (j := k) (by unfold mT; omega)
        exact hk2 _ ⟨rfl, rfl, rfl, hC.up hs (Ma_w (Ma_w hA 373 k 1) 374 k v) (fun p hp => rfl), hf.tr (FM_mT hs)⟩
      have main : ∀ r9, r9 = bxE a v3 v4 k → G12_box_J98 (qN a) v2 v4 (v3 + qN k * v4) (qN (bx A a v3 v4 k).2) (qN k) r9 ν K Q := by
        intro r9 hr
        subst hr
        simp (disch := omega) only [bo_q0, bo_q1, qN_le, qN_lt, qN_eq, qN_vp, qN_nat, qN_neg1, qN_neg, qN_nn, qN_lit, qN_add, qN_sub, qN_mul, qN_div, Bd_eq, reduceIte, Nat.add_sub_cancel, dm_l, Nat.zero_le, Nat.not_lt_zero, Nat.reduceEqDiff, Nat.reduceLT, Nat.reduceLeDiff, Nat.reduceAdd, Nat.reduceSub, Nat.reduceMul, Nat.reduceDiv, Nat.reduceMod, reduceCtorEq, true_implies, false_implies, not_true_eq_false, not_false_eq_true, true_and, and_true, implies_true, and_false, false_and, forall_const, true_or, or_true, false_or, or_false, G12_box_J98, G12_box_J149, hk9, e6, nar_q z1, nar_q z0]
        refine ⟨fun r => ?_, fun r => ⟨fun r2 => ⟨fun r3 => ?_, fun r3 => ?_⟩, fun r2 => ?_⟩⟩
        · rw [if_neg (fun s => r s.1)] at hk2
          exact hk2 _ ⟨rfl, rfl, rfl, hC, hf⟩
        · exact wr 0 z0 (by rw [if_pos ⟨r, (show ¬ bxE a v3 v4 k < 0 from Int32.not_lt.mpr r2)⟩, if_neg (show ¬ (0 : Int32) < bxE a v3 v4 k from Int32.not_lt.mpr r3)])
        · exact wr 1 z1 (by rw [if_pos ⟨r, (show ¬ bxE a v3 v4 k < 0 from Int32.not_lt.mpr r2)⟩, if_pos (show (0 : Int32) < bxE a v3 v4 k from Int32.not_le.mp r3)])
        · rw [if_neg (fun s => s.2 (show bxE a v3 v4 k < 0 from Int32.not_le.mp r2))] at hk2
          exact hk2 _ ⟨rfl, rfl, rfl, hC, hf⟩
      unfold G12_box_J66
      rw [e3, show (0 : Int32) = qN 0 from rfl, show (1 : Int32) = qN 1 from rfl, qN_eq (by omega) (by decide), qN_eq (by omega) (by decide)]
      unfold bxE at main
      refine ⟨fun r => ⟨fun r2 => ⟨fun r3 => main _ ?_, fun r3 => main _ ?_⟩, fun r2 => main _ ?_⟩, fun r => main _ ?_⟩
      · rw [if_neg r, if_neg r2, if_neg r3]
      · rw [if_neg r, if_neg r2, if_pos r3]
      · rw [if_neg r, if_pos r2]
      · rw [if_pos r]; rfl
    show G12_box_L46 (qN a) v2 v4 Q K (v3 + qN k * v4, qN (bx A a v3 v4 k).2, qN k, ν)
    unfold G12_box_L46
    rw [e12, qN_le (by omega) (by omega), e3]
    have fin : k = M → Q (qN (bx A a v3 v4 k).2) ν := fun q => by
      subst q; exact w1 _ hC hf
    by_cases q3 : a = 3
    · have hM := hM2 q3
      exact ⟨fun r => fin (by omega), fun r => ⟨fun _ => stepk (by omega), fun s => absurd q3 s⟩⟩
    · obtain ⟨n, hn1, hn2, hn3⟩ := hM3 q3
      have mn : nmin n (A 358 12) ≤ n ∧ nmin n (A 358 12) ≤ A 358 12 ∧ (nmin n (A 358 12) = n ∨ nmin n (A 358 12) = A 358 12) := by unfold nmin; split <;> omega
      rw [hn2, qN_le (by omega) (by omega)]
      rw [hn2] at stepk
      exact ⟨fun r => fin (by omega), fun r => ⟨fun s => absurd s q3, fun _ => ⟨fun s => fin (by omega), fun s => stepk (by omega)⟩⟩⟩
  rw [e3]
  refine ⟨fun q3 => key (A 358 12) (Nat.le_refl _) (fun _ => rfl) (fun r => absurd q3 r) ?_, fun q3 => ⟨fun q4 => ?_, fun q4 => hz a (by omega) rfl q2 (Int32.not_le.mp q4) _ h0 f0⟩⟩
  · subst q3
    exact h3 rfl q2
  · have n0 : ¬ v2 < 0 := Int32.not_lt.mpr q4
    obtain ⟨n, hn2, rfl⟩ := qN_of n0
    rw [show (96 : Int32) = qN 96 from rfl, qN_le hn2 (by decide)] at q2
    exact key (nmin n (A 358 12)) (by unfold nmin; split <;> omega) (fun r => absurd r q3) (fun _ => ⟨n, q2, rfl, rfl⟩) (hy a n (by omega) q2 rfl rfl)
