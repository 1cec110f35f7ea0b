/-! share, aside: what they tell -/
theorem sel_eq (A X : Nat → Nat → Nat) (v : Int32) {n : Nat} (hI : ∀ f i, dom f i → A f i < bnd f i) (hn : n ≤ 96) : ∀ i, i < n → gSel A X v (-1) i = mSel A X v (-1) i := fun i hi => by
  have b1 : A 367 i < 24 := hI 367 i (by unfold dom; omega)
  have q : (qN (A 367 i) = -1) = False := by rw [qN_neg1 (by omega)]
  unfold gSel mSel
  simp [q]
theorem tc_congr {A : Nat → Nat → Nat} {S R : Nat → Bool} {p n : Nat} (h : ∀ i, i < n → S i = R i) : tc A S p n = tc A R p n := cnt_congr (fun i hi => by rw [h i hi])
theorem tr_congr {A : Nat → Nat → Nat} {S R : Nat → Bool} {p n : Nat} (h : ∀ i, i < n → S i = R i) : tr A S p n = tr A R p n := cnt_congr (fun i hi => by rw [h i hi])
theorem Tl_congr {μ : MM} {t : Nat} {A : Nat → Nat → Nat} {S R : Nat → Bool} {n : Nat} (h : ∀ i, i < n → S i = R i) (hT : Tl μ t A S n) : Tl μ t A R n := fun p hp => by
  rw [← tc_congr h, ← tr_congr h]; exact hT p hp
theorem tF_cs (A : Nat → Nat → Nat) : tF A (-1) := Or.inl rfl
def shW (A : Nat → Nat → Nat) (S : Nat → Bool) : List Int64 := if 0 < tc A S 0 (A 358 12) + tc A S 1 (A 358 12) then frc ((tr A S 0 (A 358 12) + tr A S 1 (A 358 12) : Nat) : Int) (tc A S 0 (A 358 12) + tc A S 1 (A 358 12)) else []
theorem c_share {A X : Nat → Nat → Nat} {W : List Int64} {μ : MM} {v1 : Int32} {Q : Int32 → MM → Prop} (hV : Inv A X) (h : Cs A X W μ)
    (hy : tF A v1 → ∀ μ', Cs A X (shW A (gSel A X v1 (-1))) μ' → FC μ μ' → Q (qN (tc A (gSel A X v1 (-1)) 0 (A 358 12) + tc A (gSel A X v1 (-1)) 1 (A 358 12))) μ')
    (hn : ¬ tF A v1 → Q (-1) μ) : G11_share v1 μ Q := by
  have hl : A 358 12 < 97 := hV.b 358 12 (by unfold dom; decide)
  unfold G11_share G8_tellShare
  refine c_isFilter hV.b h.1 (fun q => ⟨fun _ => ?_, fun r => absurd r (by decide)⟩) (fun q => ⟨fun r => absurd rfl r, fun _ => hn q⟩)
  refine c_gather hV h q (t := 154) (by decide) (by decide) (fun μ1 h1 f1 hT => ?_)
  refine c_rclear h1 (fun μ2 h2 f2 => ?_)
  have s0 := tc_sum A (gSel A X v1 (-1)) (A 358 12)
  have s1 := tr_le A (gSel A X v1 (-1)) 0 (A 358 12)
  have s2 := tr_le A (gSel A X v1 (-1)) 1 (A 358 12)
  have e1 : gI μ2 155 0 = qN (tc A (gSel A X v1 (-1)) 0 (A 358 12)) := (f2.1 155 0 (by decide)).1.trans (hT 0 (by decide)).1
  have e2 : gI μ2 155 1 = qN (tc A (gSel A X v1 (-1)) 1 (A 358 12)) := (f2.1 155 1 (by decide)).1.trans (hT 1 (by decide)).1
  have e3 : gI μ2 156 0 = qN (tr A (gSel A X v1 (-1)) 0 (A 358 12)) := (f2.1 156 0 (by decide)).1.trans (hT 0 (by decide)).2
  have e4 : gI μ2 156 1 = qN (tr A (gSel A X v1 (-1)) 1 (A 358 12)) := (f2.1 156 1 (by decide)).1.trans (hT 1 (by decide)).2
  have fc : FC μ μ2 := (FC_cS (f1.mo (fun k j q => by rcases q with q | q | q; exact pS_c q; unfold cS; omega; unfold cS; omega))).tr (FC_row f2)
  have hW := hy q
  unfold shW at hW
  generalize tc A (gSel A X v1 (-1)) 0 (A 358 12) = a0 at *
  generalize tc A (gSel A X v1 (-1)) 1 (A 358 12) = a1 at *
  generalize tr A (gSel A X v1 (-1)) 0 (A 358 12) = b0 at *
  generalize tr A (gSel A X v1 (-1)) 1 (A 358 12) = b1 at *
  simp (disch := omega) only [bo_q0, bo_q1, qN_le, qN_lt, qN_eq, qN_vp, qN_nat, qN_neg1, qN_neg, qN_nn, qN_lit, qN_add, qN_sub, qN_mul, qN_div, Bd_eq, reduceIte, Nat.add_sub_cancel, dm_l, Nat.zero_le, Nat.not_lt_zero, Nat.reduceEqDiff, Nat.reduceLT, Nat.reduceLeDiff, Nat.reduceAdd, Nat.reduceSub, Nat.reduceMul, Nat.reduceDiv, Nat.reduceMod, reduceCtorEq, true_implies, false_implies, not_true_eq_false, not_false_eq_true, true_and, and_true, implies_true, and_false, false_and, forall_const, true_or, or_true, false_or, or_false, G9_all, G8_tellShare_J75, e1, e2, e3, e4, qN_J]
  refine ⟨fun r => ?_, fun r => ?_⟩
  · have hh := hW μ2 (by rw [if_neg (by omega)]; exact h2) fc
    exact hh
  · rw [show ((b0 + b1 : Nat) : Int) = ((b0 + b1 : Nat) : Int) from rfl]
    refine c_rfrac h2 (by decide) ⟨by omega, by omega⟩ (by omega) (by omega) (fun μ3 h3 f3 => ?_)
    have g1 : gI μ3 155 0 = qN a0 := (f3.1 155 0 (by decide)).1.trans e1
    have g2 : gI μ3 155 1 = qN a1 := (f3.1 155 1 (by decide)).1.trans e2
    rw [g1, g2, qN_add]
    exact hW μ3 (by rw [if_pos (by omega)]; exact h3) (fc.tr (FC_row f3))
theorem m_share {A X : Nat → Nat → Nat} {W : List Int64} {μ : MM} {v1 : Int32} {Q : Int32 → MM → Prop} (hV : Inv A X) (h : Ms A X W μ)
    (hy : tF A v1 → ∀ μ', Ms A X (shW A (gSel A X v1 (-1))) μ' → FM μ μ' → Q (qN (tc A (gSel A X v1 (-1)) 0 (A 358 12) + tc A (gSel A X v1 (-1)) 1 (A 358 12))) μ')
    (hn : ¬ tF A v1 → ∀ μ', Ms A X W μ' → FM μ μ' → Q (-1) μ') : G12_share v1 μ Q := by
  have hl : A 358 12 < 97 := hV.b 358 12 (by unfold dom; decide)
  unfold G12_share
  rw [Bd_eq]
  have h0 := m_thr h 0
  have f0 := fm_thr μ 0
  revert h0 f0
  generalize sI μ 358 0 0 = μ0
  intro h0 f0
  refine m_isFilter hV.b h0.1 (fun q => ⟨fun _ => ?_, fun r => absurd r (by decide)⟩) (fun q => ⟨fun r => absurd rfl r, fun _ => hn q _ h0 f0⟩)
  refine m_counts hV h0 q (fun μ1 h1 f1 hT => ?_)
  replace hT := Tl_congr (fun i hi => (sel_eq A X v1 hV.b (n := A 358 12) (by omega) i hi).symm) hT
  refine m_rclear h1 (fun μ2 h2 f2 => ?_)
  have s0 := tc_sum A (gSel A X v1 (-1)) (A 358 12)
  have s1 := tr_le A (gSel A X v1 (-1)) 0 (A 358 12)
  have s2 := tr_le A (gSel A X v1 (-1)) 1 (A 358 12)
  have e1 : gI μ2 381 0 = qN (tc A (gSel A X v1 (-1)) 0 (A 358 12)) := (f2.1 381 0 (by decide)).1.trans (hT 0 (by decide)).1
  have e2 : gI μ2 381 1 = qN (tc A (gSel A X v1 (-1)) 1 (A 358 12)) := (f2.1 381 1 (by decide)).1.trans (hT 1 (by decide)).1
  have e3 : gI μ2 382 0 = qN (tr A (gSel A X v1 (-1)) 0 (A 358 12)) := (f2.1 382 0 (by decide)).1.trans (hT 0 (by decide)).2
  have e4 : gI μ2 382 1 = qN (tr A (gSel A X v1 (-1)) 1 (A 358 12)) := (f2.1 382 1 (by decide)).1.trans (hT 1 (by decide)).2
  have fc : FM μ μ2 := (f0.tr (FM_mS (f1.mo (fun k j q => nS_m q)))).tr (FM_row f2)
  have hW := hy q
  unfold shW at hW
  generalize tc A (gSel A X v1 (-1)) 0 (A 358 12) = a0 at *
  generalize tc A (gSel A X v1 (-1)) 1 (A 358 12) = a1 at *
  generalize tr A (gSel A X v1 (-1)) 0 (A 358 12) = b0 at *
  generalize tr A (gSel A X v1 (-1)) 1 (A 358 12) = b1 at *
  simp (disch := omega) only [bo_q0, bo_q1, qN_le, qN_lt, qN_eq, qN_vp, qN_nat, qN_neg1, qN_neg, qN_nn, qN_lit, qN_add, qN_sub, qN_mul, qN_div, Bd_eq, reduceIte, Nat.add_sub_cancel, dm_l, Nat.zero_le, Nat.not_lt_zero, Nat.reduceEqDiff, Nat.reduceLT, Nat.reduceLeDiff, Nat.reduceAdd, Nat.reduceSub, Nat.reduceMul, Nat.reduceDiv, Nat.reduceMod, reduceCtorEq, true_implies, false_implies, not_true_eq_false, not_false_eq_true, true_and, and_true, implies_true, and_false, false_and, forall_const, true_or, or_true, false_or, or_false, e1, e2, e3, e4, qN_J]
  refine ⟨fun r => ?_, fun r => ?_⟩
  · exact hW μ2 (by rw [if_neg (by omega)]; exact h2) fc
  · refine m_rfrac h2 (by decide) ⟨by omega, by omega⟩ (by omega) (by omega) (fun μ3 h3 f3 => ?_)
    have g1 : gI μ3 381 0 = qN a0 := (f3.1 381 0 (by decide)).1.trans e1
    have g2 : gI μ3 381 1 = qN a1 := (f3.1 381 1 (by decide)).1.trans e2
    rw [g1, g2, qN_add]
    exact hW μ3 (by rw [if_pos (by omega)]; exact h3) (fc.tr (FM_row f3))
