/-! sure -/
def nam (A : Nat → Nat → Nat) (h : Nat) : Prop := 0 < hR A h ∧ evk A h ≠ 0
/-- what the class and the model hold of a house -/
def sgl (A : Nat → Nat → Nat) (bits : Int32) (h : Nat) (μ : MM) : Prop := (nam A h → gI μ 197 h = qN (slk A bits h 4)) ∧ (¬ nam A h → gI μ 197 h < 0)
def sgm (A : Nat → Nat → Nat) (bits : Int32) (h : Nat) (μ : MM) : Prop := (nam A h → gJ μ 397 h = qL (slk A bits h 4)) ∧ (¬ nam A h → gJ μ 397 h = -1)
theorem c_fillSums {A X : Nat → Nat → Nat} {W : List Int64} {μ : MM} {bits : Int32} {Q : MM → Prop} (hV : Inv A X) (h : Cs A X W μ)
    (hQ : ∀ μ', Cs A X W μ' → FC μ μ' → (∀ h, h < A 358 8 → sgl A bits h μ') → Q μ') : G4_fillSums bits μ Q := by
  have hH : A 358 8 < 25 := hV.b 358 8 (by unfold dom; decide)
  refine Lp.up (A 358 8) (fun i x => x.1 = qN i ∧ Cs A X W x.2 ∧ FC μ x.2 ∧ ∀ h, h < i → sgl A bits h x.2) ?_ ⟨rfl, h, FC.rfl', fun j hj => absurd hj (by omega)⟩
  rintro i K hi hK ⟨y, ν⟩ ⟨rfl, hC, hf, hg⟩
  simp only at hC hf hg
  rcases Nat.lt_or_ge i (A 358 8) with hl | hl
  · have hk := hK hl
    have hi9 : i < 24 := by omega
    have wr : ∀ (ν2 : MM) (v : Int32), Cs A X W ν2 → Sm (fun k _ => k = 173 + i) ν ν2 → ((nam A i → v = qN (slk A bits i 4)) ∧ (¬ nam A i → v < 0)) → K (qN (i + 1), sI ν2 197 i v) := by
      intro ν2 v h2 f2 hv
      have s1 : Sm cS ν2 (sI ν2 197 i v) := Sm.rfl'.wI v (k := 197) (j := i) (by unfold cS; omega)
      refine hk _ ⟨rfl, h2.sm s1, (hf.tr (FC_cS (f2.mo (fun k j q => show cS k j by unfold cS; omega)))).tr (FC_cS s1), fun j hj => ?_⟩
      unfold sgl
      rw [gI_I]
      by_cases q : j = i
      · rw [if_pos ⟨rfl, q⟩, q]; exact hv
      · rw [if_neg (fun r => q r.2), (f2.1 197 j (by omega)).1]
        exact hg j (by omega)
    simp (disch := omega) only [bo_q0, bo_q1, qN_le, qN_lt, qN_eq, qN_vp, qN_nat, qN_neg1, qN_neg, qN_nn, qN_lit, qN_add, qN_sub, qN_mul, qN_div, Bd_eq, reduceIte, Nat.add_sub_cancel, dm_l, Nat.zero_le, Nat.not_lt_zero, Nat.reduceEqDiff, Nat.reduceLT, Nat.reduceLeDiff, Nat.reduceAdd, Nat.reduceSub, Nat.reduceMul, Nat.reduceDiv, Nat.reduceMod, reduceCtorEq, true_implies, false_implies, not_true_eq_false, not_false_eq_true, true_and, and_true, implies_true, and_false, false_and, forall_const, true_or, or_true, false_or, or_false, G4_fillSums_L2, Ca_s8 hC.1, Nat.not_le.mpr hl]
    refine c_hasRead hV.b hC.1 hi9 ?_
    by_cases q : 0 < hR A i
    · simp (disch := omega) only [bo_q0, bo_q1, qN_le, qN_lt, qN_eq, qN_vp, qN_nat, qN_neg1, qN_neg, qN_nn, qN_lit, qN_add, qN_sub, qN_mul, qN_div, Bd_eq, reduceIte, Nat.add_sub_cancel, dm_l, Nat.zero_le, Nat.not_lt_zero, Nat.reduceEqDiff, Nat.reduceLT, Nat.reduceLeDiff, Nat.reduceAdd, Nat.reduceSub, Nat.reduceMul, Nat.reduceDiv, Nat.reduceMod, reduceCtorEq, true_implies, false_implies, not_true_eq_false, not_false_eq_true, true_and, and_true, implies_true, and_false, false_and, forall_const, true_or, or_true, false_or, or_false, q]
      refine c_sumOf hV hC hi9 (fun ν2 h2 f2 => ?_)
      simp (disch := omega) only [bo_q0, bo_q1, qN_le, qN_lt, qN_eq, qN_vp, qN_nat, qN_neg1, qN_neg, qN_nn, qN_lit, qN_add, qN_sub, qN_mul, qN_div, Bd_eq, reduceIte, Nat.add_sub_cancel, dm_l, Nat.zero_le, Nat.not_lt_zero, Nat.reduceEqDiff, Nat.reduceLT, Nat.reduceLeDiff, Nat.reduceAdd, Nat.reduceSub, Nat.reduceMul, Nat.reduceDiv, Nat.reduceMod, reduceCtorEq, true_implies, false_implies, not_true_eq_false, not_false_eq_true, true_and, and_true, implies_true, and_false, false_and, forall_const, true_or, or_true, false_or, or_false, hi9]
      refine wr ν2 _ h2 f2 ⟨fun r => ?_, fun r => ?_⟩
      · rw [if_neg r.2]
      · have : evk A i = 0 := by
          rcases Nat.eq_zero_or_pos (evk A i) with s | s
          · exact s
          · exact absurd ⟨q, by omega⟩ r
        rw [if_pos this]
        decide
    · simp (disch := omega) only [bo_q0, bo_q1, qN_le, qN_lt, qN_eq, qN_vp, qN_nat, qN_neg1, qN_neg, qN_nn, qN_lit, qN_add, qN_sub, qN_mul, qN_div, Bd_eq, reduceIte, Nat.add_sub_cancel, dm_l, Nat.zero_le, Nat.not_lt_zero, Nat.reduceEqDiff, Nat.reduceLT, Nat.reduceLeDiff, Nat.reduceAdd, Nat.reduceSub, Nat.reduceMul, Nat.reduceDiv, Nat.reduceMod, reduceCtorEq, true_implies, false_implies, not_true_eq_false, not_false_eq_true, true_and, and_true, implies_true, and_false, false_and, forall_const, true_or, or_true, false_or, or_false, q, hi9]
      exact wr ν _ hC Sm.rfl' ⟨fun r => absurd r.1 q, fun _ => by decide⟩
  · have e : i = A 358 8 := by omega
    subst e
    simp (disch := omega) only [bo_q0, bo_q1, qN_le, qN_lt, qN_eq, qN_vp, qN_nat, qN_neg1, qN_neg, qN_nn, qN_lit, qN_add, qN_sub, qN_mul, qN_div, Bd_eq, reduceIte, Nat.add_sub_cancel, dm_l, Nat.zero_le, Nat.not_lt_zero, Nat.reduceEqDiff, Nat.reduceLT, Nat.reduceLeDiff, Nat.reduceAdd, Nat.reduceSub, Nat.reduceMul, Nat.reduceDiv, Nat.reduceMod, reduceCtorEq, true_implies, false_implies, not_true_eq_false, not_false_eq_true, true_and, and_true, implies_true, and_false, false_and, forall_const, true_or, or_true, false_or, or_false, G4_fillSums_L2, Ca_s8 hC.1, Nat.le_refl]
    exact hQ _ hC hf hg
/-- what the wrongly named come to -/
noncomputable def wny (A : Nat → Nat → Nat) (bits : Int32) (line : Nat) (n : Nat) : Nat := sm (fun h => @ite Nat (nam A h ∧ line ≤ slk A bits h 4) (Classical.propDecidable _) (1000000 - slk A bits h 4) 0) n
theorem wny_y {A : Nat → Nat → Nat} {bits : Int32} {line n : Nat} (h : nam A n ∧ line ≤ slk A bits n 4) : wny A bits line (n + 1) = wny A bits line n + (1000000 - slk A bits n 4) := congrArg (wny A bits line n + ·) (if_pos h)
theorem wny_n {A : Nat → Nat → Nat} {bits : Int32} {line n : Nat} (h : ¬ (nam A n ∧ line ≤ slk A bits n 4)) : wny A bits line (n + 1) = wny A bits line n := congrArg (wny A bits line n + ·) (if_neg h)
theorem wny_b (A : Nat → Nat → Nat) (bits : Int32) (line : Nat) : ∀ n, wny A bits line n ≤ n * 1000000
  | 0 => by simp [wny, sm]
  | n + 1 => by
    have ih := wny_b A bits line n
    by_cases h : nam A n ∧ line ≤ slk A bits n 4
    · rw [wny_y h]; omega
    · rw [wny_n h]; exact Nat.le_trans ih (Nat.mul_le_mul_right _ (Nat.le_succ n))
theorem slk_nam {A : Nat → Nat → Nat} {bits : Int32} {h : Nat} (q : nam A h) : slk A bits h 4 ≤ 1000000 := slk_M (Nat.pos_of_ne_zero q.2)
theorem c_isNamed {A : Nat → Nat → Nat} {bits : Int32} {μ : MM} {Q : Int32 → MM → Prop} {h line : Nat} (hh : h < 24) (hline : line < 2147483648) (hg : sgl A bits h μ) (hy : nam A h ∧ line ≤ slk A bits h 4 → Q 1 μ) (hn : ¬ (nam A h ∧ line ≤ slk A bits h 4) → Q 0 μ) : G4_isNamed (qN h) (qN line) μ Q := by
  unfold G4_isNamed G4_isNamed_J23
  rw [qN_vp (by omega), qN_nat (by omega)]
  refine ⟨hh, fun q => hn (fun r => ?_), fun q => ⟨hh, fun q2 => hn (fun r => ?_), fun q2 => hy ?_⟩⟩
  · have b := slk_nam (bits := bits) r.1
    rw [hg.1 r.1, qN_neg (by omega)] at q
    exact q
  · have b := slk_nam (bits := bits) r.1
    rw [hg.1 r.1, qN_lt (by omega) hline] at q2
    omega
  · have nn : nam A h := Classical.byContradiction (fun s => q (hg.2 s))
    have b := slk_nam (bits := bits) nn
    rw [hg.1 nn, qN_lt (by omega) hline] at q2
    exact ⟨nn, by omega⟩
theorem c_wrongly {A X : Nat → Nat → Nat} {W : List Int64} {bits : Int32} {μ : MM} {Q : Int64 → MM → Prop} {line : Nat} (hV : Inv A X) (hC : Cs A X W μ) (hline : line < 2147483648) (hg : ∀ h, h < A 358 8 → sgl A bits h μ) (hQ : Q (qL (wny A bits line (A 358 8))) μ) : G4_wronglyNamed (qN line) μ Q := by
  have hH : A 358 8 < 25 := hV.b 358 8 (by unfold dom; decide)
  refine Lp.upE (A 358 8) (fun i => (qL (wny A bits line i), qN i, μ)) ?_
  intro i K hi hK
  have wb := wny_b A bits line i
  rcases Nat.lt_or_ge i (A 358 8) with hl | hl
  · have hk := hK hl
    have hi9 : i < 24 := by omega
    simp (disch := omega) only [bo_q0, bo_q1, qN_le, qN_lt, qN_eq, qN_vp, qN_nat, qN_neg1, qN_neg, qN_nn, qN_lit, qN_add, qN_sub, qN_mul, qN_div, Bd_eq, reduceIte, Nat.add_sub_cancel, dm_l, Nat.zero_le, Nat.not_lt_zero, Nat.reduceEqDiff, Nat.reduceLT, Nat.reduceLeDiff, Nat.reduceAdd, Nat.reduceSub, Nat.reduceMul, Nat.reduceDiv, Nat.reduceMod, reduceCtorEq, true_implies, false_implies, not_true_eq_false, not_false_eq_true, true_and, and_true, implies_true, and_false, false_and, forall_const, true_or, or_true, false_or, or_false, G4_wronglyNamed_L5, Ca_s8 hC.1, Nat.not_le.mpr hl]
    refine c_isNamed hi9 hline (hg i hl) (fun q => ?_) (fun q => ?_)
    · rw [wny_y q] at hk
      have b := slk_nam (bits := bits) q.1
      simp (disch := omega) only [bo_q0, bo_q1, qN_le, qN_lt, qN_eq, qN_vp, qN_nat, qN_neg1, qN_neg, qN_nn, qN_lit, qN_add, qN_sub, qN_mul, qN_div, Bd_eq, reduceIte, Nat.add_sub_cancel, dm_l, Nat.zero_le, Nat.not_lt_zero, Nat.reduceEqDiff, Nat.reduceLT, Nat.reduceLeDiff, Nat.reduceAdd, Nat.reduceSub, Nat.reduceMul, Nat.reduceDiv, Nat.reduceMod, reduceCtorEq, true_implies, false_implies, not_true_eq_false, not_false_eq_true, true_and, and_true, implies_true, and_false, false_and, forall_const, true_or, or_true, false_or, or_false, hi9, (hg i hl).1 q.1, qN_6, qL_add]
      exact hk
    · rw [wny_n q] at hk
      simp (disch := omega) only [bo_q0, bo_q1, qN_le, qN_lt, qN_eq, qN_vp, qN_nat, qN_neg1, qN_neg, qN_nn, qN_lit, qN_add, qN_sub, qN_mul, qN_div, Bd_eq, reduceIte, Nat.add_sub_cancel, dm_l, Nat.zero_le, Nat.not_lt_zero, Nat.reduceEqDiff, Nat.reduceLT, Nat.reduceLeDiff, Nat.reduceAdd, Nat.reduceSub, Nat.reduceMul, Nat.reduceDiv, Nat.reduceMod, reduceCtorEq, true_implies, false_implies, not_true_eq_false, not_false_eq_true, true_and, and_true, implies_true, and_false, false_and, forall_const, true_or, or_true, false_or, or_false, hi9, qL_lit 0, qL_add]
      exact hk
  · have e : i = A 358 8 := by omega
    subst e
    simp (disch := omega) only [bo_q0, bo_q1, qN_le, qN_lt, qN_eq, qN_vp, qN_nat, qN_neg1, qN_neg, qN_nn, qN_lit, qN_add, qN_sub, qN_mul, qN_div, Bd_eq, reduceIte, Nat.add_sub_cancel, dm_l, Nat.zero_le, Nat.not_lt_zero, Nat.reduceEqDiff, Nat.reduceLT, Nat.reduceLeDiff, Nat.reduceAdd, Nat.reduceSub, Nat.reduceMul, Nat.reduceDiv, Nat.reduceMod, reduceCtorEq, true_implies, false_implies, not_true_eq_false, not_false_eq_true, true_and, and_true, implies_true, and_false, false_and, forall_const, true_or, or_true, false_or, or_false, G4_wronglyNamed_L5, Ca_s8 hC.1, Nat.le_refl]
    exact hQ
theorem m_likelies {A X : Nat → Nat → Nat} {W : List Int64} {μ : MM} {bits : Int32} {Q : MM → Prop} (hV : Inv A X) (h : Ms A X W μ)
    (hQ : ∀ μ', Ms A X W μ' → FM μ μ' → (∀ h, h < A 358 8 → sgm A bits h μ') → Q μ') : G12_likelies bits μ Q := by
  have hH : A 358 8 < 25 := hV.b 358 8 (by unfold dom; decide)
  have hn : A 358 12 < 97 := hV.b 358 12 (by unfold dom; decide)
  refine Lp.up (A 358 8) (fun i x => x.1 = qN i ∧ Ms A X W x.2 ∧ FM μ x.2 ∧ ∀ h, h < i → sgm A bits h x.2) ?_ ⟨rfl, h, FM.rfl', fun j hj => absurd hj (by omega)⟩
  rintro i K hi hK ⟨y, ν⟩ ⟨rfl, hC, hf, hg⟩
  simp only at hC hf hg
  rcases Nat.lt_or_ge i (A 358 8) with hl | hl
  · have hk := hK hl
    clear hK
    have hi9 : i < 24 := by omega
    have eb := evk_b hV (h := i) 4 (by omega)
    have e4 : sm (wbk A i) 4 = evk A i := rfl
    rw [e4] at eb
    have s1 : Sm mS ν (sJ ν 397 i (-1)) := Sm.rfl'.wJ (-1) (k := 397) (j := i) (by unfold mS; omega)
    have h1 := hC.sm (mn378 hV) s1
    have g1 : ∀ h, h < i → sgm A bits h (sJ ν 397 i (-1)) := fun j hj => by
      unfold sgm
      rw [gJ_J, if_neg (fun r => by omega)]
      exact hg j hj
    have z1 : gJ (sJ ν 397 i (-1)) 397 i = -1 := by simp [gJ_J]
    have f1 := hf.tr (FM_mS s1)
    have hnot : ¬ ((A 358 8 : Nat) ≤ i) := by omega
    unfold G12_likelies_L2
    rw [Ma_s8 hC.1, qN_le (by omega) (by omega), qN_vp (by omega), qN_nat (by omega), Bd_eq]
    refine ⟨fun q => absurd q hnot, fun _ => ⟨hi9, ?_⟩⟩
    revert h1 g1 z1 f1
    generalize sJ ν 397 i (-1) = ν1
    intro h1 g1 z1 f1
    refine m_countsHouse hV h1 hi9 (fun ν2 h2 f2 hT => ?_)
    have f2' : Sm mS ν1 ν2 := f2.mo (fun k j q => show mS k j by unfold mS; omega)
    have g2 : ∀ h, h < i → sgm A bits h ν2 := fun j hj => by
      unfold sgm
      rw [(f2.1 397 j (by omega)).2]
      exact g1 j hj
    have z2 : gJ ν2 397 i = -1 := ((f2.1 397 i (by omega)).2).trans z1
    have f3 := f1.tr (FM_mS f2')
    have ts := tc_sum A (sH A i) (A 358 12)
    have eh : tc A (sH A i) 0 (A 358 12) + tc A (sH A i) 1 (A 358 12) = hR A i := rfl
    have skip : ¬ nam A i → K (qN (i + 1), ν2) := fun q => hk _ ⟨rfl, h2, f3, fun j hj => by
      by_cases r : j = i
      · subst r; exact ⟨fun s => absurd s q, fun _ => z2⟩
      · exact g2 j (by omega)⟩
    rw [eh] at ts ⊢
    have eq0 : (qN (hR A i) = 0) = (hR A i = 0) := by rw [eq_iff_iff, show (0 : Int32) = qN 0 from rfl, qN_eq (by omega) (by decide)]
    rw [eq0, qN_lit 1, qN_add]
    refine ⟨fun q => skip (fun r => by have := r.1; omega), fun q => m_allKinds hV h2.1 hT ?_⟩
    rw [lg_0, qL_0 (by omega)]
    refine ⟨fun q2 => ?_, fun q2 => skip (fun r => r.2 q2)⟩
    have nn : nam A i := ⟨by omega, q2⟩
    rw [Bd_eq]
    refine ⟨hi9, ?_⟩
    have s3 : Sm mS ν2 (sJ ν2 397 i 0) := Sm.rfl'.wJ 0 (k := 397) (j := i) (by unfold mS; omega)
    have h3 := h2.sm (mn378 hV) s3
    have f4 := f3.tr (FM_mS s3)
    refine Lp.up 4 (fun k x => x.1 = qN k ∧ Ms A X W x.2 ∧ FM μ x.2 ∧ (∀ h, h < i → sgm A bits h x.2) ∧ gJ x.2 397 i = qL (slk A bits i k) ∧ Tl x.2 389 A (sH A i) (A 358 12)) ?_ ⟨rfl, h3, f4, fun j hj => ?_, ?_, hT⟩
    rotate_left
    · unfold sgm
      rw [gJ_J, if_neg (fun r => by omega)]
      exact g2 j hj
    · simp [gJ_J]; rfl
    rintro k K2 hk4 hK2 ⟨y, ω⟩ ⟨rfl, hO, fO, gO, zO, tO⟩
    simp only at hO fO gO zO tO
    have sb := slk_b A bits i k (by omega)
    rcases Nat.lt_or_ge k 4 with hl2 | hl2
    · have hk3 := hK2 hl2
      have qb := qk_b (A := A) (h := i) hl2
      have e5 : slk A bits i (k + 1) = slk A bits i k + (if ((bits >>> (qN k &&& qN 31)) &&& qN 1) = qN 1 then qk A i k else 0) := rfl
      rw [e5] at hk3
      have wr : ∀ v, v = (if ((bits >>> (qN k &&& qN 31)) &&& qN 1) = qN 1 then qk A i k else 0) → K2 (qN (k + 1), sJ ω 397 i (qL (slk A bits i k + v))) := by
        intro v hv
        subst hv
        have s5 : Sm mS ω (sJ ω 397 i (qL (slk A bits i k + (if ((bits >>> (qN k &&& qN 31)) &&& qN 1) = qN 1 then qk A i k else 0)))) := Sm.rfl'.wJ _ (k := 397) (j := i) (by unfold mS; omega)
        refine hk3 _ ⟨rfl, hO.sm (mn378 hV) s5, fO.tr (FM_mS s5), fun j hj => ?_, by simp [gJ_J], tO⟩
        unfold sgm
        rw [gJ_J, if_neg (fun r => by omega)]
        exact gO j hj
      have h4 : ¬ ((4 : Int32) ≤ qN k) := by rw [qN_lit 4, qN_le (by omega) (by omega)]; omega
      have vi : vp_in (qN i) 24 := by rw [qN_vp (by omega)]; exact hi9
      refine ⟨fun r => absurd r h4, fun _ => ⟨vi, ?_⟩⟩
      unfold G12_has
      refine ⟨fun r => ⟨fun _ => ⟨vi, ?_⟩, fun s => absurd rfl s⟩, fun r => ⟨fun s => absurd s (by decide), fun _ => ?_⟩⟩
      · have := wr 0 (by rw [if_neg (show ¬ ((bits >>> (qN k &&& qN 31)) &&& qN 1) = qN 1 from r)])
        rw [Bd_eq]
        show K2 (qN k + 1, sJ ω 397 (qN i).toNatClampNeg (gJ ω 397 (qN i).toNatClampNeg + 0))
        rw [qN_nat (by omega), zO, qL_lit 0, qL_add, qN_lit 1, qN_add]
        exact this
      · refine m_likelyOf hV hO.1 hl2 tO q2 ⟨vi, ?_⟩
        have := wr (qk A i k) (by rw [if_pos (show ((bits >>> (qN k &&& qN 31)) &&& qN 1) = qN 1 from r)])
        rw [Bd_eq]
        show K2 (qN k + 1, sJ ω 397 (qN i).toNatClampNeg (gJ ω 397 (qN i).toNatClampNeg + qL (qk A i k)))
        rw [qN_nat (by omega), zO, qL_add, qN_lit 1, qN_add]
        exact this
    · have e : k = 4 := by omega
      subst e
      refine ⟨fun _ => ?_, fun r => absurd (show (4 : Int32) ≤ qN 4 by decide) r⟩
      show K (qN i + 1, ω)
      rw [qN_lit 1, qN_add]
      refine hk _ ⟨rfl, hO, fO, fun j hj => ?_⟩
      by_cases r : j = i
      · subst r; exact ⟨fun _ => zO, fun s => absurd nn s⟩
      · exact gO j (by omega)
  · have e : i = A 358 8 := by omega
    subst e
    simp (disch := omega) only [bo_q0, bo_q1, qN_le, qN_lt, qN_eq, qN_vp, qN_nat, qN_neg1, qN_neg, qN_nn, qN_lit, qN_add, qN_sub, qN_mul, qN_div, Bd_eq, reduceIte, Nat.add_sub_cancel, dm_l, Nat.zero_le, Nat.not_lt_zero, Nat.reduceEqDiff, Nat.reduceLT, Nat.reduceLeDiff, Nat.reduceAdd, Nat.reduceSub, Nat.reduceMul, Nat.reduceDiv, Nat.reduceMod, reduceCtorEq, true_implies, false_implies, not_true_eq_false, not_false_eq_true, true_and, and_true, implies_true, and_false, false_and, forall_const, true_or, or_true, false_or, or_false, G12_likelies_L2, Ma_s8 hC.1, Nat.le_refl]
    exact hQ _ hC hf hg

theorem c_sure {A X : Nat → Nat → Nat} {W : List Int64} {μ : MM} {v1 v2 : Int32} {Q : Int32 → MM → Prop} (hV : Inv A X) (h : Cs A X W μ)
    (hy : ∀ b w j, 1 ≤ b → b ≤ 15 → w ≤ 24000000 → v1 = qN b → v2 = qN w → j ≤ 1000 → wny A v1 (1000 * j) (A 358 8) ≤ w → (∀ i, i < j → ¬ wny A v1 (1000 * i) (A 358 8) ≤ w) → ∀ μ', Cs A X W μ' → FC μ μ' → Q (qN (1000 * j)) μ')
    (hz : ∀ b w, 1 ≤ b → b ≤ 15 → w ≤ 24000000 → v1 = qN b → v2 = qN w → (∀ i, i ≤ 1000 → ¬ wny A v1 (1000 * i) (A 358 8) ≤ w) → ∀ μ', Cs A X W μ' → FC μ μ' → Q (-2) μ') (hn : ¬ ((∃ k, 1 ≤ k ∧ k ≤ 15 ∧ v1 = qN k) ∧ inr v2 24000001) → Q (-1) μ) : G11_sure v1 v2 μ Q := by
  have hH : A 358 8 < 25 := hV.b 358 8 (by unfold dom; decide)
  unfold G11_sure G4_leastLine
  refine within1_s 15 rfl (by decide) (fun q1 => ⟨fun r => absurd r (by decide), fun _ => ?_⟩) (fun q1 => ⟨fun _ => hn (fun r => q1 r.1), fun r => absurd rfl r⟩)
  refine within0_s 24000000 rfl (by decide) (fun q2 => ⟨fun _ => ?_, fun r => absurd r (by decide)⟩) (fun q2 => ⟨fun r => absurd rfl r, fun _ => hn (fun r => q2 r.2)⟩)
  obtain ⟨b, hb1, hb2, e1⟩ := q1
  obtain ⟨w, hw, rfl⟩ := q2
  refine c_fillSums hV h (fun μ1 h1 f1 hg => ?_)
  refine Lp.up 1001 (fun j x => x = (qN (1000 * j), μ1) ∧ ∀ i, i < j → ¬ wny A v1 (1000 * i) (A 358 8) ≤ w) ?_ ⟨rfl, fun i hi => absurd hi (by omega)⟩
  rintro j K hj hK _ ⟨rfl, hno⟩
  rcases Nat.lt_or_ge j 1001 with hl | hl
  · have hk := hK hl
    have n1 : ¬ (1000000 < 1000 * j) := by omega
    have wb := wny_b A v1 (1000 * j) (A 358 8)
    simp (disch := omega) only [bo_q0, bo_q1, qN_le, qN_lt, qN_eq, qN_vp, qN_nat, qN_neg1, qN_neg, qN_nn, qN_lit, qN_add, qN_sub, qN_mul, qN_div, Bd_eq, reduceIte, Nat.add_sub_cancel, dm_l, Nat.zero_le, Nat.not_lt_zero, Nat.reduceEqDiff, Nat.reduceLT, Nat.reduceLeDiff, Nat.reduceAdd, Nat.reduceSub, Nat.reduceMul, Nat.reduceDiv, Nat.reduceMod, reduceCtorEq, true_implies, false_implies, not_true_eq_false, not_false_eq_true, true_and, and_true, implies_true, and_false, false_and, forall_const, true_or, or_true, false_or, or_false, G4_leastLine_L29, n1]
    refine c_wrongly hV h1 (by omega) hg ?_
    have z : (qN 0 < lg_cmp (qL (wny A v1 (1000 * j) (A 358 8))) (qN w).toInt64) = (w < wny A v1 (1000 * j) (A 358 8)) := by
      show ((0 : Int32) < lg_cmp (qL (wny A v1 (1000 * j) (A 358 8))) (qN w).toInt64) = _
      rw [lg_gt, qN_6 (by omega), qL_lt (by omega) (by omega)]
    rw [z]
    refine ⟨fun q => hk _ ⟨rfl, fun i hi => ?_⟩, fun q => ?_⟩
    · by_cases r : i = j
      · rw [r]; omega
      · exact hno i (by omega)
    · exact hy b w j hb1 hb2 (by omega) e1 rfl (by omega) (by omega) hno _ h1 f1
  · have e : j = 1001 := by omega
    subst e
    simp (disch := omega) only [bo_q0, bo_q1, qN_le, qN_lt, qN_eq, qN_vp, qN_nat, qN_neg1, qN_neg, qN_nn, qN_lit, qN_add, qN_sub, qN_mul, qN_div, Bd_eq, reduceIte, Nat.add_sub_cancel, dm_l, Nat.zero_le, Nat.not_lt_zero, Nat.reduceEqDiff, Nat.reduceLT, Nat.reduceLeDiff, Nat.reduceAdd, Nat.reduceSub, Nat.reduceMul, Nat.reduceDiv, Nat.reduceMod, reduceCtorEq, true_implies, false_implies, not_true_eq_false, not_false_eq_true, true_and, and_true, implies_true, and_false, false_and, forall_const, true_or, or_true, false_or, or_false, G4_leastLine_L29]
    exact hz b w hb1 hb2 (by omega) e1 rfl (fun i hi => hno i (by omega)) _ h1 f1

theorem m_sure {A X : Nat → Nat → Nat} {W : List Int64} {μ : MM} {v1 v2 : Int32} {Q : Int32 → MM → Prop} (hV : Inv A X) (h : Ms A X W μ)
    (hy : ∀ b w j, 1 ≤ b → b ≤ 15 → w ≤ 24000000 → v1 = qN b → v2 = qN w → j ≤ 1000 → wny A v1 (1000 * j) (A 358 8) ≤ w → (∀ i, i < j → ¬ wny A v1 (1000 * i) (A 358 8) ≤ w) → ∀ μ', Ms A X W μ' → FM μ μ' → Q (qN (1000 * j)) μ')
    (hz : ∀ b w, 1 ≤ b → b ≤ 15 → w ≤ 24000000 → v1 = qN b → v2 = qN w → (∀ i, i ≤ 1000 → ¬ wny A v1 (1000 * i) (A 358 8) ≤ w) → ∀ μ', Ms A X W μ' → FM μ μ' → Q (-2) μ') (hn : ¬ ((∃ k, 1 ≤ k ∧ k ≤ 15 ∧ v1 = qN k) ∧ inr v2 24000001) → ∀ μ', Ms A X W μ' → FM μ μ' → Q (-1) μ') : G12_sure v1 v2 μ Q := by
  have hH : A 358 8 < 25 := hV.b 358 8 (by unfold dom; decide)
  unfold G12_sure
  rw [Bd_eq]
  have h0 := m_thr h 0
  have f0 := fm_thr μ 0
  revert h0 f0
  generalize sI μ 358 0 0 = μ0
  intro h0 f0
  refine in1_s 15 rfl (by decide) (fun q1 => ⟨fun r => absurd r (by decide), fun _ => ?_⟩) (fun q1 => ⟨fun _ => hn (fun r => q1 r.1) _ h0 f0, fun r => absurd rfl r⟩)
  refine in0_s 24000000 rfl (by decide) (fun q2 => ⟨fun _ => ?_, fun r => absurd r (by decide)⟩) (fun q2 => ⟨fun r => absurd rfl r, fun _ => hn (fun r => q2 r.2) _ h0 f0⟩)
  obtain ⟨b, hb1, hb2, e1⟩ := q1
  obtain ⟨w, hw, rfl⟩ := q2
  refine m_likelies hV h0 (fun μ1 h1 f1 hg => ?_)
  have fm := f0.tr f1
  refine Lp.up 1001 (fun j x => x = (qN (1000 * j), μ1) ∧ ∀ i, i < j → ¬ wny A v1 (1000 * i) (A 358 8) ≤ w) ?_ ⟨rfl, fun i hi => absurd hi (by omega)⟩
  rintro j K hj hK _ ⟨rfl, hno⟩
  rcases Nat.lt_or_ge j 1001 with hl | hl
  · have hk := hK hl
    clear hK
    have n1 : ¬ (1000000 < 1000 * j) := by omega
    simp (disch := omega) only [bo_q0, bo_q1, qN_le, qN_lt, qN_eq, qN_vp, qN_nat, qN_neg1, qN_neg, qN_nn, qN_lit, qN_add, qN_sub, qN_mul, qN_div, Bd_eq, reduceIte, Nat.add_sub_cancel, dm_l, Nat.zero_le, Nat.not_lt_zero, Nat.reduceEqDiff, Nat.reduceLT, Nat.reduceLeDiff, Nat.reduceAdd, Nat.reduceSub, Nat.reduceMul, Nat.reduceDiv, Nat.reduceMod, reduceCtorEq, true_implies, false_implies, not_true_eq_false, not_false_eq_true, true_and, and_true, implies_true, and_false, false_and, forall_const, true_or, or_true, false_or, or_false, G12_sure_L38, n1]
    refine Lp.upE (A 358 8) (fun i => (qL (wny A v1 (1000 * j) i), qN i, μ1)) ?_
    intro i K2 hi hK2
    have wb := wny_b A v1 (1000 * j) i
    rcases Nat.lt_or_ge i (A 358 8) with hl2 | hl2
    · have hk2 := hK2 hl2
      have hi9 : i < 24 := by omega
      have vi : vp_in (qN i) 24 := by rw [qN_vp (by omega)]; exact hi9
      unfold G12_sure_L51
      rw [Ma_s8 h1.1, qN_le (by omega) (by omega), qN_nat (by omega), qN_6 (show 1000 * j < 2147483648 by omega), lg_lt]
      refine ⟨fun q => absurd q (by omega), fun _ => ⟨vi, ?_⟩⟩
      by_cases nn : nam A i
      · have b2 := slk_nam (bits := v1) nn
        rw [(hg i hl2).1 nn, qL_lt (by omega) (by omega)]
        refine ⟨fun q => ?_, fun q => ⟨vi, ?_⟩⟩
        · rw [wny_n (fun r => by omega)] at hk2
          rw [Bd_eq, qL_lit 0, qL_add, qN_lit 1, qN_add]
          exact hk2
        · rw [wny_y ⟨nn, by omega⟩] at hk2
          rw [Bd_eq, qL_lit 1000000, qL_sub b2, qL_add, qN_lit 1, qN_add]
          exact hk2
      · have lt : (-1 : Int64) < qL (1000 * j) := by
          rw [Int64.lt_iff_toInt_lt, qL_t (by omega)]
          have : (-1 : Int64).toInt = -1 := by decide
          omega
        rw [(hg i hl2).2 nn]
        refine ⟨fun q => ?_, fun q => absurd lt q⟩
        rw [wny_n (fun r => nn r.1)] at hk2
        rw [Bd_eq, qL_lit 0, qL_add, qN_lit 1, qN_add]
        exact hk2
    · have e : i = A 358 8 := by omega
      subst e
      have z : (qN 0 < lg_cmp (qL (wny A v1 (1000 * j) (A 358 8))) (qN w).toInt64) = (w < wny A v1 (1000 * j) (A 358 8)) := by
        show ((0 : Int32) < lg_cmp (qL (wny A v1 (1000 * j) (A 358 8))) (qN w).toInt64) = _
        rw [lg_gt, qN_6 (by omega), qL_lt (by omega) (by omega)]
      simp (disch := omega) only [bo_q0, bo_q1, qN_le, qN_lt, qN_eq, qN_vp, qN_nat, qN_neg1, qN_neg, qN_nn, qN_lit, qN_add, qN_sub, qN_mul, qN_div, Bd_eq, reduceIte, Nat.add_sub_cancel, dm_l, Nat.zero_le, Nat.not_lt_zero, Nat.reduceEqDiff, Nat.reduceLT, Nat.reduceLeDiff, Nat.reduceAdd, Nat.reduceSub, Nat.reduceMul, Nat.reduceDiv, Nat.reduceMod, reduceCtorEq, true_implies, false_implies, not_true_eq_false, not_false_eq_true, true_and, and_true, implies_true, and_false, false_and, forall_const, true_or, or_true, false_or, or_false, G12_sure_L51, Ma_s8 h1.1, Nat.le_refl]
      rw [z]
      refine ⟨fun q => hk _ ⟨rfl, fun i hi => ?_⟩, fun q => ?_⟩
      · by_cases r : i = j
        · rw [r]; omega
        · exact hno i (by omega)
      · exact hy b w j hb1 hb2 (by omega) e1 rfl (by omega) (by omega) hno _ h1 fm
  · have e : j = 1001 := by omega
    subst e
    simp (disch := omega) only [bo_q0, bo_q1, qN_le, qN_lt, qN_eq, qN_vp, qN_nat, qN_neg1, qN_neg, qN_nn, qN_lit, qN_add, qN_sub, qN_mul, qN_div, Bd_eq, reduceIte, Nat.add_sub_cancel, dm_l, Nat.zero_le, Nat.not_lt_zero, Nat.reduceEqDiff, Nat.reduceLT, Nat.reduceLeDiff, Nat.reduceAdd, Nat.reduceSub, Nat.reduceMul, Nat.reduceDiv, Nat.reduceMod, reduceCtorEq, true_implies, false_implies, not_true_eq_false, not_false_eq_true, true_and, and_true, implies_true, and_false, false_and, forall_const, true_or, or_true, false_or, or_false, G12_sure_L38]
    exact hz b w hb1 hb2 (by omega) e1 rfl (fun i hi => hno i (by omega)) _ h1 fm

theorem op_27 (v1 v2 v3 v4 v5 : Int32) (μ : MM) : Rel μ → Glaw_27 v1 v2 v3 v4 v5 μ Rel := by
  rintro ⟨A, X, W, hV, hW, hC, hM⟩
  have b8 : A 358 8 < 25 := hV.b 358 8 (by unfold dom; decide)
  refine c_likely hV hC (fun a k ha hk e1 e2 μ1 h1 f1 => ?_) (fun q => ?_)
  · subst e1 e2
    refine m_likely hV (hM.fc f1) (fun a' k' ha' hk' e1' e2' μ2 h2 f2 => ?_) (fun q => absurd ⟨⟨a, ha, rfl⟩, ⟨k, hk, rfl⟩⟩ q)
    obtain rfl := qN_inj e1' (by omega) (by omega)
    obtain rfl := qN_inj e2' (by omega) (by omega)
    exact ⟨fun _ => ⟨A, X, W, hV, hW, h1.fm f2, h2⟩, fun q => q rfl⟩
  · refine m_likely hV hM (fun a k ha hk e1 e2 => absurd ⟨⟨a, ha, e1⟩, ⟨k, hk, e2⟩⟩ q) (fun _ μ2 h2 f2 => ?_)
    exact ⟨fun _ => ⟨A, X, W, hV, hW, hC.fm f2, h2⟩, fun q => q rfl⟩
theorem op_30 (v1 v2 v3 v4 v5 : Int32) (μ : MM) : Rel μ → Glaw_30 v1 v2 v3 v4 v5 μ Rel := by
  rintro ⟨A, X, W, hV, hW, hC, hM⟩
  refine c_sure hV hC (fun b w j hb1 hb2 hw e1 e2 hj hy hno μ1 h1 f1 => ?_) (fun b w hb1 hb2 hw e1 e2 hno μ1 h1 f1 => ?_) (fun q => ?_)
  · refine m_sure hV (hM.fc f1) (fun b' w' j' _ _ hw' _ e2' hj' hy' hno' μ2 h2 f2 => ?_) (fun b' w' _ _ hw' _ e2' hno' => ?_) (fun r => absurd ⟨⟨b, hb1, hb2, e1⟩, ⟨w, by omega, e2⟩⟩ r)
    · obtain rfl := qN_inj (e2.symm.trans e2') (by omega) (by omega)
      have : j = j' := by
        rcases Nat.lt_trichotomy j j' with s | s | s
        · exact absurd hy (hno' j s)
        · exact s
        · exact absurd hy' (hno j' s)
      subst this
      exact ⟨fun _ => ⟨A, X, W, hV, hW, h1.fm f2, h2⟩, fun q => q rfl⟩
    · obtain rfl := qN_inj (e2.symm.trans e2') (by omega) (by omega)
      exact absurd hy (hno' j hj)
  · refine m_sure hV (hM.fc f1) (fun b' w' j' _ _ hw' _ e2' hj' hy' hno' => ?_) (fun b' w' _ _ hw' _ e2' hno' μ2 h2 f2 => ?_) (fun r => absurd ⟨⟨b, hb1, hb2, e1⟩, ⟨w, by omega, e2⟩⟩ r)
    · obtain rfl := qN_inj (e2.symm.trans e2') (by omega) (by omega)
      exact absurd hy' (hno j' hj')
    · exact ⟨fun _ => ⟨A, X, W, hV, hW, h1.fm f2, h2⟩, fun q => q rfl⟩
  · refine m_sure hV hM (fun b w j hb1 hb2 hw e1 e2 => absurd ⟨⟨b, hb1, hb2, e1⟩, ⟨w, by omega, e2⟩⟩ q) (fun b w hb1 hb2 hw e1 e2 => absurd ⟨⟨b, hb1, hb2, e1⟩, ⟨w, by omega, e2⟩⟩ q) (fun _ μ2 h2 f2 => ?_)
    exact ⟨fun _ => ⟨A, X, W, hV, hW, hC.fm f2, h2⟩, fun q => q rfl⟩
