/-! odds: the model's houses; op 17 -/
theorem m_oddsH {A X : Nat → Nat → Nat} {W : List Int64} {v : Int32} {w : Nat} {μ : MM} {Q : Int32 → MM → Prop} (hV : Inv A X) (hC : Ms A X W μ) (hv : tF A v) (hw : w < 3) (hg : ∀ k, k < 192 → gJ μ 383 k = qL (wy A X v 0 k))
    (hQ : ∀ μ', Ms A X ([] ++ oF A X v w) μ' → FM μ μ' → Q 0 μ') : Lp (G12_odds_L68 v (qN w) Q) (0, 0, μ) := by
  have hn : A 358 12 < 97 := hV.b 358 12 (by unfold dom; decide)
  have hH : A 358 8 < 25 := hV.b 358 8 (by unfold dom; decide)
  have M3 := mn378 hV
  have s38 : ∀ ν ν' : MM, Sm (fun k _ => k = 383 ∨ k = 384) ν ν' → Sm mS ν ν' := fun ν ν' s => s.mo (fun k j q => by unfold mS; omega)
  have s37 : ∀ ν ν' : MM, Sm (fun k _ => k = 379) ν ν' → Sm mS ν ν' := fun ν ν' s => s.mo (fun k j q => by unfold mS; omega)
  refine Lp.up (A 358 8) (fun h (x : Int32 × Int32 × MM) => x.1 = qN (sm (fun h => tr A (gSel A X v (qN h)) 1 (A 358 12)) h) ∧ x.2.1 = qN h ∧ Ms A X W x.2.2 ∧ FM μ x.2.2 ∧ ∀ k, k < 192 → gJ x.2.2 383 k = qL (wy A X v h k)) ?_ ⟨rfl, rfl, hC, FM.rfl', hg⟩
  rintro h K hh hK ⟨x1, x2, ω⟩ ⟨e1, e2, hD, hF, hg⟩
  simp only at e1 e2 hD hF hg
  subst e1 e2
  have c1 : qN (A 358 8) ≤ qN h ↔ A 358 8 ≤ h := qN_le (by omega) (by omega)
  unfold G12_odds_L68
  simp only [Ma_s8 hD.1, c1]
  refine ⟨fun q => ?_, fun q => ?_⟩
  · have e : h = A 358 8 := by omega
    subst e
    rw [its_sum hV v (by omega) _ (by omega) (fun i hi => (hV.2.1 i hi).1)]
    exact m_oddsW hV hD hw hg (fun μ' h1 f1 => hQ μ' h1 (hF.tr f1))
  · have hl : h < A 358 8 := by omega
    have hk := hK hl
    have ov : qN h + 1 = qN (h + 1) := qN_add h 1
    have es : sm (fun h => tr A (gSel A X v (qN h)) 1 (A 358 12)) (h + 1) = sm (fun h => tr A (gSel A X v (qN h)) 1 (A 358 12)) h + tr A (gSel A X v (qN h)) 1 (A 358 12) := rfl
    revert hk
    rw [es]
    generalize sm (fun h => tr A (gSel A X v (qN h)) 1 (A 358 12)) h = B
    intro hk
    clear es hK
    refine Lp.up (A 358 12) (fun i (x : Int32 × Int32 × Int32 × Int32 × Int32 × MM) => x.1 = qN (B + tr A (gSel A X v (qN h)) 1 i) ∧ x.2.1 = qN (tc A (gSel A X v (qN h)) 0 i + tc A (gSel A X v (qN h)) 1 i) ∧ x.2.2.1 = qN (tc A (gSel A X v (qN h)) 1 i) ∧ x.2.2.2.1 = qN (tr A (gSel A X v (qN h)) 0 i + tr A (gSel A X v (qN h)) 1 i) ∧ x.2.2.2.2.1 = qN i ∧ Ms A X W x.2.2.2.2.2 ∧ Sm (fun k _ => k = 379) ω x.2.2.2.2.2) ?_ ⟨rfl, rfl, rfl, rfl, rfl, hD, Sm.rfl'⟩
    rintro i K2 hi hK2 ⟨x1, x2, x3, x4, x5, ν⟩ ⟨e1, e2, e3, e4, e5, hE, hs⟩
    simp only at e1 e2 e3 e4 e5 hE hs
    subst e1 e2 e3 e4 e5
    rcases Nat.lt_or_ge i (A 358 12) with hl2 | hl2
    · have hk2 := hK2 hl2
      have hi9 : i < 96 := by omega
      have b1 : A 367 i < 24 := hV.b 367 i (by unfold dom; omega)
      have b2 : A 368 i < 12 := hV.b 368 i (by unfold dom; omega)
      have b4 : A 374 i < 2 := hV.b 374 i (by unfold dom; omega)
      have b5 : A 360 (A 368 i) < 2 := hV.b 360 (A 368 i) (by unfold dom; omega)
      have q0 : (qN h = -1) = False := by rw [qN_neg1 (by omega)]
      have t0 := tc_s A (gSel A X v (qN h)) 0 i
      have t1 := tc_s A (gSel A X v (qN h)) 1 i
      have r0 := tr_s A (gSel A X v (qN h)) 0 i b4
      have r1 := tr_s A (gSel A X v (qN h)) 1 i b4
      have no : gSel A X v (qN h) i = false → ∀ ν', Ms A X W ν' → Sm (fun k _ => k = 379) ω ν' → K2 (qN (B + tr A (gSel A X v (qN h)) 1 i), qN (tc A (gSel A X v (qN h)) 0 i + tc A (gSel A X v (qN h)) 1 i), qN (tc A (gSel A X v (qN h)) 1 i), qN (tr A (gSel A X v (qN h)) 0 i + tr A (gSel A X v (qN h)) 1 i), qN (i + 1), ν') := fun q ν' h1 f1 => by
        rw [q] at t0 t1 r0 r1
        simp only [Bool.false_eq_true, false_and, reduceIte, Nat.add_zero] at t0 t1 r0 r1
        refine hk2 _ ⟨?_, ?_, ?_, ?_, rfl, h1, f1⟩ <;> simp only [t0, t1, r0, r1]
      simp (disch := omega) only [bo_q0, bo_q1, qN_le, qN_lt, qN_eq, qN_vp, qN_nat, qN_neg1, qN_neg, qN_nn, qN_lit, qN_add, qN_sub, qN_mul, qN_div, Bd_eq, reduceIte, Nat.add_sub_cancel, dm_l, Nat.zero_le, Nat.not_lt_zero, Nat.reduceEqDiff, Nat.reduceLT, Nat.reduceLeDiff, Nat.reduceAdd, Nat.reduceSub, Nat.reduceMul, Nat.reduceDiv, Nat.reduceMod, reduceCtorEq, true_implies, false_implies, not_true_eq_false, not_false_eq_true, true_and, and_true, implies_true, and_false, false_and, forall_const, true_or, or_true, false_or, or_false, G12_odds_L89, Ma_s12 hE.1, Ma_367 hE.1, hi9, Nat.not_le.mpr hl2]
      refine ⟨fun q => no (by
        have q1 : (qN (A 367 i) = qN h) = False := by rw [qN_eq (by omega) (by omega)]; exact eq_false q
        unfold gSel
        simp [q0, q1]) ν hE hs, fun q => ?_⟩
      refine m_passes hV hE hv hi9 (fun ν1 f2 => ?_)
      have hE1 := hE.sm M3 (s37 _ _ f2)
      have sel : gSel A X v (qN h) i = (decide (A 373 i = 1) && fps A X v i) := by
        unfold gSel; simp [q0, q]
      by_cases hp : A 373 i = 1 ∧ fps A X v i = true
      · have sy : gSel A X v (qN h) i = true := by rw [sel]; simp [hp]
        rw [sy] at t0 t1 r0 r1
        have zz : zp A i = A 360 (A 368 i) := rfl
        rw [zz] at t0 t1 r0 r1
        simp (disch := omega) only [bo_q0, bo_q1, qN_le, qN_lt, qN_eq, qN_vp, qN_nat, qN_neg1, qN_neg, qN_nn, qN_lit, qN_add, qN_sub, qN_mul, qN_div, Bd_eq, reduceIte, Nat.add_sub_cancel, dm_l, Nat.zero_le, Nat.not_lt_zero, Nat.reduceEqDiff, Nat.reduceLT, Nat.reduceLeDiff, Nat.reduceAdd, Nat.reduceSub, Nat.reduceMul, Nat.reduceDiv, Nat.reduceMod, reduceCtorEq, true_implies, false_implies, not_true_eq_false, not_false_eq_true, true_and, and_true, implies_true, and_false, false_and, forall_const, true_or, or_true, false_or, or_false, hp, G12_peopleOf, Ma_368 hE1.1, Ma_360 hE1.1, Ma_374 hE1.1, hi9, b2, b5, flag_q]
        have z1 : A 360 (A 368 i) = 0 ∨ A 360 (A 368 i) = 1 := by omega
        rcases z1 with z1 | z1 <;> rw [z1] at t0 t1 r0 r1 ⊢ <;> simp only [true_and, Nat.zero_ne_one, Nat.one_ne_zero, and_false, reduceIte, Nat.add_zero, Nat.zero_mul, Nat.one_mul] at t0 t1 r0 r1 ⊢
        · refine hk2 _ ⟨?_, ?_, ?_, ?_, rfl, hE1, hs.tr f2⟩ <;> simp only [t0, t1, r0, r1]
          · first | (congr 1; omega) | congr 1
          · first | (congr 1; omega) | congr 1
        · refine hk2 _ ⟨?_, ?_, ?_, ?_, rfl, hE1, hs.tr f2⟩ <;> simp only [t0, t1, r0, r1]
          · first | (congr 1; omega) | congr 1
          · first | (congr 1; omega) | congr 1
          · first | (congr 1; omega) | congr 1
      · simp (disch := omega) only [bo_q0, bo_q1, qN_le, qN_lt, qN_eq, qN_vp, qN_nat, qN_neg1, qN_neg, qN_nn, qN_lit, qN_add, qN_sub, qN_mul, qN_div, Bd_eq, reduceIte, Nat.add_sub_cancel, dm_l, Nat.zero_le, Nat.not_lt_zero, Nat.reduceEqDiff, Nat.reduceLT, Nat.reduceLeDiff, Nat.reduceAdd, Nat.reduceSub, Nat.reduceMul, Nat.reduceDiv, Nat.reduceMod, reduceCtorEq, true_implies, false_implies, not_true_eq_false, not_false_eq_true, true_and, and_true, implies_true, and_false, false_and, forall_const, true_or, or_true, false_or, or_false, hp]
        exact no (by
          rw [sel, ← Bool.not_eq_true]
          intro r
          simp at r
          exact hp r) ν1 hE1 (hs.tr f2)
    · have e : i = A 358 12 := by omega
      subst e
      unfold G12_odds_L89
      have c3 : (gI ν 358 12) ≤ qN (A 358 12) := by rw [Ma_s12 hE.1]; exact (qN_le (by omega) (by omega)).mpr (Nat.le_refl _)
      refine ⟨fun _ => ?_, fun r => absurd c3 r⟩
      refine m_joinH hV (by omega) v (qN w) (qN (B + tr A (gSel A X v (qN h)) 1 (A 358 12))) K Q (fun k hk9 => by rw [(hs.1 383 k (by omega)).2]; exact hg k hk9) (fun μ' f1 g1 => ?_)
      rw [ov]
      exact hk _ ⟨rfl, rfl, hE.sm M3 (s38 _ _ f1), (hF.tr (FM_mS (s37 _ _ hs))).tr (FM_mS (s38 _ _ f1)), g1⟩
theorem op_17 (v1 v2 v3 v4 v5 : Int32) (μ : MM) : Rel μ → Glaw_17 v1 v2 v3 v4 v5 μ Rel := by
  rintro ⟨A, X, W, hV, hW, hC, hM⟩
  have M3 := mn378 hV
  have s38 : ∀ ν ν' : MM, Sm (fun k _ => k = 383) ν ν' → Sm mS ν ν' := fun ν ν' s => s.mo (fun k j q => by unfold mS; omega)
  have C : ∀ (ν : MM) (Q : Int32 → MM → Prop), Cs A X W ν → (∀ w, w < 3 → v2 = qN w → tF A v1 → ∀ μ', Cs A X ([] ++ oF A X v1 w) μ' → FC ν μ' → Q 0 μ') → (¬ (tF A v1 ∧ inr v2 3) → Q (-1) ν) → G11_odds v1 v2 ν Q := fun ν Q h hy hn => by
    unfold G11_odds G8_tellOdds
    refine c_isFilter hV.b h.1 (fun q => ⟨fun r => absurd r (by decide), fun _ => ?_⟩) (fun q => ⟨fun _ => hn (fun r => q r.1), fun r => absurd rfl r⟩)
    refine within0_s 2 rfl (by decide) (fun q1 => ⟨fun _ => ?_, fun r => absurd r (by decide)⟩) (fun q1 => ⟨fun r => absurd rfl r, fun _ => hn (fun r => q1 r.2)⟩)
    obtain ⟨w, hw, e⟩ := q1
    refine c_countWays hV h q (fun μ1 h1 f1 g1 => ?_)
    refine c_gather hV h1 q (t := 154) (by decide) (by decide) (fun μ2 h2 f2 hT => ?_)
    have gc : Sm cS μ1 μ2 := f2.mo (fun k j q => by
      rcases q with q | q | q
      · exact pS_c q
      · unfold cS; omega
      · unfold cS; omega)
    have e2 : gI μ2 156 1 = qN (tr A (gSel A X v1 (-1)) 1 (A 358 12)) := (hT 1 (by decide)).2
    rw [Bd_eq, e2, e]
    exact c_oddsW hV h2 hw (fun k hk => by rw [(f2.1 163 k (by unfold gS pS; omega)).2]; exact g1 k hk) (fun μ' h3 f3 => hy w hw e q μ' h3 (((FC_cS f1).tr (FC_cS gc)).tr f3))
  have M : ∀ (ν : MM) (Q : Int32 → MM → Prop), Ms A X W ν → (∀ w, w < 3 → v2 = qN w → tF A v1 → ∀ μ', Ms A X ([] ++ oF A X v1 w) μ' → FM ν μ' → Q 0 μ') → (¬ (tF A v1 ∧ inr v2 3) → ∀ μ', Ms A X W μ' → FM ν μ' → Q (-1) μ') → G12_odds v1 v2 ν Q := fun ν Q h hy hn => by
    unfold G12_odds
    rw [Bd_eq]
    have h0 := m_thr h 0
    have f0 := fm_thr ν 0
    revert h0 f0
    generalize sI ν 358 0 0 = ν0
    intro h0 f0
    refine m_isFilter hV.b h0.1 (fun q => ⟨fun r => absurd r (by decide), fun _ => ?_⟩) (fun q => ⟨fun _ => hn (fun r => q r.1) _ h0 f0, fun r => absurd rfl r⟩)
    refine in0_s 2 rfl (by decide) (fun q1 => ⟨fun _ => ?_, fun r => absurd r (by decide)⟩) (fun q1 => ⟨fun r => absurd rfl r, fun _ => hn (fun r => q1 r.2) _ h0 f0⟩)
    obtain ⟨w, hw, e⟩ := q1
    refine Lp.up 192 (fun i (x : Int32 × MM) => x.1 = qN i ∧ Sm (fun k _ => k = 383) ν0 x.2 ∧ ∀ k, k < i → gJ x.2 383 k = qL (wy A X v1 0 k)) ?_ ⟨rfl, Sm.rfl', fun k hk => absurd hk (by omega)⟩
    rintro i K hi hK ⟨x1, ω⟩ ⟨rfl, hs, hg⟩
    simp only at hs hg
    have c1 : (192 : Int32) ≤ qN i ↔ 192 ≤ i := qN_le (a := 192) (by decide) (by omega)
    have c2 : qN i = 0 ↔ i = 0 := qN_eq (b := 0) (by omega) (by decide)
    refine ⟨fun r => ?_, fun r => ?_⟩
    · have e9 : i = 192 := by have := c1.mp r; omega
      subst e9
      rw [e]
      exact m_oddsH hV (h0.sm M3 (s38 _ _ hs)) q hw hg (fun μ' h3 f3 => hy w hw e q μ' h3 ((f0.tr (FM_mS (s38 _ _ hs))).tr f3))
    · have hl : i < 192 := by
        rcases Nat.lt_or_ge i 192 with s | s
        · exact s
        · exact absurd (c1.mpr (by omega)) r
      have hk := hK hl
      have ov : qN i + 1 = qN (i + 1) := qN_add i 1
      have put : ∀ s, s = wy A X v1 0 i → vp_in (qN i) 192 ∧ Bd (sJ ω 383 (qN i).toNatClampNeg (qL s)) fun μ18 => K (qN i + 1, μ18) := fun s es => by
        rw [qN_vp (by omega), qN_nat (by omega), Bd_eq, ov]
        refine ⟨hl, hk _ ⟨rfl, hs.wJ _ rfl, fun k hk9 => ?_⟩⟩
        show gJ (sJ ω 383 i (qL s)) 383 k = _
        rw [gJ_J]
        by_cases q2 : k = i
        · rw [if_pos ⟨rfl, q2⟩, es, q2]
        · rw [if_neg (fun r => q2 r.2)]; exact hg k (by omega)
      rw [c2]
      refine ⟨fun r => ⟨fun _ => ?_, fun r2 => absurd rfl r2⟩, fun r => ⟨fun r2 => absurd r2 (by decide), fun _ => ?_⟩⟩
      · have := put 0 (by show 0 = if i = 0 then 1 else 0; rw [if_neg r])
        exact this
      · have := put 1 (by show 1 = if i = 0 then 1 else 0; rw [if_pos r])
        exact this
  unfold Glaw_17
  refine C _ _ hC (fun w hw e q μ1 h1 f1 => ?_) (fun q => ?_)
  · refine M _ _ (hM.fc f1) (fun w' hw' e' _ μ2 h2 f2 => ?_) (fun r => absurd ⟨q, w, hw, e⟩ r)
    obtain rfl := qN_inj (e.symm.trans e') (by omega) (by omega)
    refine ⟨fun _ => ⟨A, X, _, hV, ?_, h1.fm f2, h2⟩, fun q => q rfl⟩
    show 2 ≤ 10
    decide
  · refine M _ _ hM (fun w' hw' e' q' _ _ _ => absurd ⟨q', w', hw', e'⟩ q) (fun _ μ2 h2 f2 => ?_)
    exact ⟨fun _ => ⟨A, X, W, hV, hW, hC.fm f2, h2⟩, fun q => q rfl⟩
