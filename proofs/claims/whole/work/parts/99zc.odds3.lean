/-! odds: the model, told -/
def oC (w t k : Nat) : Bool := if w = 0 then decide (k ≤ t) else if w = 1 then decide (t ≤ k) else decide (k = t)
def oS (A X : Nat → Nat → Nat) (v : Int32) (w : Nat) (n : Nat) : Nat := sm (fun k => if oC w (tr A (gSel A X v (-1)) 1 (A 358 12)) k = true then wy A X v (A 358 8) k else 0) n
def oE (A X : Nat → Nat → Nat) (v : Int32) (n : Nat) : Nat := sm (wy A X v (A 358 8)) n
theorem oE_192 {A X : Nat → Nat → Nat} (hV : Inv A X) (v : Int32) : oE A X v 192 = oE A X v 97 := by
  have hH : A 358 8 < 25 := hV.b 358 8 (by unfold dom; decide)
  exact sm_tail 192 (by decide) (fun j h1 _ => wy_far A X v _ j (by omega))
theorem oS_192 {A X : Nat → Nat → Nat} (hV : Inv A X) (v : Int32) (w : Nat) : oS A X v w 192 = oS A X v w 97 := by
  have hH : A 358 8 < 25 := hV.b 358 8 (by unfold dom; decide)
  exact sm_tail 192 (by decide) (fun j h1 _ => by rw [wy_far A X v _ j (by omega)]; split <;> rfl)
theorem oE_b {A X : Nat → Nat → Nat} (hV : Inv A X) (v : Int32) (n : Nat) : oE A X v n ≤ 4738381338321616896 := by
  have hH : A 358 8 < 25 := hV.b 358 8 (by unfold dom; decide)
  have h1 := wy_sm hV v n (A 358 8) (by omega)
  have h2 : 6 ^ (A 358 8) ≤ 6 ^ 24 := Nat.pow_le_pow_right (by decide) (by omega)
  have e : 6 ^ 24 = 4738381338321616896 := by decide
  show sm (wy A X v (A 358 8)) n ≤ _
  omega
theorem oE_p {A X : Nat → Nat → Nat} (hV : Inv A X) (v : Int32) : 0 < oE A X v 97 := by
  have hH : A 358 8 < 25 := hV.b 358 8 (by unfold dom; decide)
  obtain ⟨k, h1, h2⟩ := wy_pos hV v (A 358 8) (by omega)
  exact Nat.lt_of_lt_of_le h2 (sm_ge (f := wy A X v (A 358 8)) (by omega))
theorem oS_b {A X : Nat → Nat → Nat} (hV : Inv A X) (v : Int32) (w n : Nat) : oS A X v w n ≤ 4738381338321616896 := by
  refine Nat.le_trans (sm_mn (fun k => ?_) n) (oE_b hV v n)
  split
  · exact Nat.le_refl _
  · exact Nat.zero_le _
def oF (A X : Nat → Nat → Nat) (v : Int32) (w : Nat) : List Int64 := frc ((oS A X v w 97 : Nat) : Int) (oE A X v 97)
theorem c_oddsW {A X : Nat → Nat → Nat} {W : List Int64} {v : Int32} {w : Nat} {μ : MM} {Q : Int32 → MM → Prop} (hV : Inv A X) (hC : Cs A X W μ) (hw : w < 3) (hg : ∀ k, k < 97 → gJ μ 163 k = qL (wy A X v (A 358 8) k))
    (hQ : ∀ μ', Cs A X ([] ++ oF A X v w) μ' → FC μ μ' → Q 0 μ') : Lp (G8_tellOdds_L56 (qN w) (qN (tr A (gSel A X v (-1)) 1 (A 358 12))) Q) (0, 0, 0, μ) := by
  have hn : A 358 12 < 97 := hV.b 358 12 (by unfold dom; decide)
  have tb : tr A (gSel A X v (-1)) 1 (A 358 12) < 97 := by
    have h1 := tr_le A (gSel A X v (-1)) 1 (A 358 12)
    have h2 := tc_le A (gSel A X v (-1)) 1 (A 358 12)
    omega
  have eS : ∀ n, oS A X v w (n + 1) = oS A X v w n + (if oC w (tr A (gSel A X v (-1)) 1 (A 358 12)) n = true then wy A X v (A 358 8) n else 0) := fun n => rfl
  have e0 : qN w = 0 ↔ w = 0 := qN_eq (b := 0) (by omega) (by decide)
  have e1 : qN w = 1 ↔ w = 1 := qN_eq (b := 1) (by omega) (by decide)
  revert eS tb
  generalize tr A (gSel A X v (-1)) 1 (A 358 12) = t
  intro tb eS
  refine Lp.up 97 (fun k (x : Int64 × Int64 × Int32 × MM) => x = (qL (oS A X v w k), qL (oE A X v k), qN k, μ)) ?_ rfl
  rintro k K hk9 hK _ rfl
  have c1 : (96 : Int32) < qN k ↔ 96 < k := qN_lt (a := 96) (by decide) (by omega)
  refine ⟨fun q => ?_, fun q => ?_⟩
  · have e : k = 97 := by have := c1.mp q; omega
    subst e
    show G7_clear μ (fun μ24 => G7_addFraction (qL (oS A X v w 97)) (qL (oE A X v 97)) μ24 (fun μ25 => Q 0 μ25))
    have b1 := oS_b hV v w 97
    have b2 := oE_b hV v 97
    have b3 := oE_p hV v
    refine c_rclear hC (fun μ1 h1 f1 => ?_)
    rw [qL_J, qL_J]
    exact c_rfrac h1 (by simp) ⟨by omega, by omega⟩ b3 (by omega) (fun μ2 h2 f2 => hQ μ2 h2 ((FC_row f1).tr (FC_row f2)))
  · have hl : k < 97 := by
      rcases Nat.lt_or_ge k 97 with s | s
      · exact s
      · exact absurd (c1.mpr (by omega)) q
    have hk := hK hl _ rfl
    have ov : qN k + 1 = qN (k + 1) := qN_add k 1
    have put : ∀ s, s = (if oC w t k = true then wy A X v (A 358 8) k else 0) → G8_tellOdds_J131 (qN w) (qN t) (qL (oE A X v k)) (qN k) (qL s) (qL (oS A X v w k)) μ K Q := fun s es => by
      unfold G8_tellOdds_J131
      rw [Bd_eq, qN_vp (by omega), qN_nat (by omega), Bd_eq, hg k hl, qL_add, qL_add, ov]
      rw [eS, ← es] at hk
      exact ⟨hl, hk⟩
    have no : oC w t k = false → G8_tellOdds_J111 (qN w) (qN t) (qL (oS A X v w k)) (qL (oE A X v k)) (qN k) 0 μ K Q := fun q => by
      refine ⟨fun _ => ?_, fun r => absurd rfl r⟩
      exact put 0 (by rw [q]; rfl)
    have yes : oC w t k = true → G8_tellOdds_J111 (qN w) (qN t) (qL (oS A X v w k)) (qL (oE A X v k)) (qN k) 1 μ K Q := fun q => by
      refine ⟨fun r => absurd r (by decide), fun _ => ?_⟩
      rw [qN_vp (by omega), qN_nat (by omega), hg k hl]
      exact ⟨hl, put _ (by rw [q]; rfl)⟩
    show ((¬ qN w = 0 → ((¬ qN w = 1 → ((¬ qN k = qN t → G8_tellOdds_J111 _ _ _ _ _ 0 _ K Q) ∧ (qN k = qN t → G8_tellOdds_J111 _ _ _ _ _ 1 _ K Q))) ∧ (qN w = 1 → ((qN k < qN t → G8_tellOdds_J111 _ _ _ _ _ 0 _ K Q) ∧ (¬ (qN k < qN t) → G8_tellOdds_J111 _ _ _ _ _ 1 _ K Q))))) ∧ (qN w = 0 → ((qN t < qN k → G8_tellOdds_J111 _ _ _ _ _ 0 _ K Q) ∧ (¬ (qN t < qN k) → G8_tellOdds_J111 _ _ _ _ _ 1 _ K Q))))
    rw [e0, e1, qN_eq (by omega) (by omega), qN_lt (by omega) (by omega), qN_lt (by omega) (by omega)]
    refine ⟨fun r0 => ⟨fun r1 => ⟨fun r => no ?_, fun r => yes ?_⟩, fun r1 => ⟨fun r => no ?_, fun r => yes ?_⟩⟩, fun r0 => ⟨fun r => no ?_, fun r => yes ?_⟩⟩
    · unfold oC; rw [if_neg r0, if_neg r1]; exact decide_eq_false r
    · unfold oC; rw [if_neg r0, if_neg r1]; exact decide_eq_true r
    · unfold oC; rw [if_neg r0, if_pos r1]; exact decide_eq_false (by omega)
    · unfold oC; rw [if_neg r0, if_pos r1]; exact decide_eq_true (by omega)
    · unfold oC; rw [if_pos r0]; exact decide_eq_false (by omega)
    · unfold oC; rw [if_pos r0]; exact decide_eq_true (by omega)
theorem m_oddsW {A X : Nat → Nat → Nat} {W : List Int64} {v : Int32} {w : Nat} {μ : MM} {Q : Int32 → MM → Prop} (hV : Inv A X) (hC : Ms A X W μ) (hw : w < 3) (hg : ∀ k, k < 192 → gJ μ 383 k = qL (wy A X v (A 358 8) k))
    (hQ : ∀ μ', Ms A X ([] ++ oF A X v w) μ' → FM μ μ' → Q 0 μ') : Lp (G12_odds_L313 (qN w) (qN (tr A (gSel A X v (-1)) 1 (A 358 12))) Q) (0, 0, 0, μ) := by
  have hn : A 358 12 < 97 := hV.b 358 12 (by unfold dom; decide)
  have tb : tr A (gSel A X v (-1)) 1 (A 358 12) < 97 := by
    have h1 := tr_le A (gSel A X v (-1)) 1 (A 358 12)
    have h2 := tc_le A (gSel A X v (-1)) 1 (A 358 12)
    omega
  have eS : ∀ n, oS A X v w (n + 1) = oS A X v w n + (if oC w (tr A (gSel A X v (-1)) 1 (A 358 12)) n = true then wy A X v (A 358 8) n else 0) := fun n => rfl
  have e0 : qN w = 0 ↔ w = 0 := qN_eq (b := 0) (by omega) (by decide)
  have e1 : qN w = 1 ↔ w = 1 := qN_eq (b := 1) (by omega) (by decide)
  revert eS tb
  generalize tr A (gSel A X v (-1)) 1 (A 358 12) = t
  intro tb eS
  refine Lp.up 192 (fun k (x : Int64 × Int64 × Int32 × MM) => x = (qL (oS A X v w k), qL (oE A X v k), qN k, μ)) ?_ rfl
  rintro k K hk9 hK _ rfl
  have c1 : (192 : Int32) ≤ qN k ↔ 192 ≤ k := qN_le (a := 192) (by decide) (by omega)
  refine ⟨fun q => ?_, fun q => ?_⟩
  · have e : k = 192 := by have := c1.mp q; omega
    subst e
    show Bd (sI μ 358 1 0) fun μ60 => G12_entersFraction (qL (oS A X v w 192)) (qL (oE A X v 192)) μ60 (fun μ61 => Q 0 μ61)
    rw [oS_192 hV, oE_192 hV]
    have b1 := oS_b hV v w 97
    have b2 := oE_b hV v 97
    have b3 := oE_p hV v
    refine m_rclear hC (fun μ1 h1 f1 => ?_)
    rw [qL_J, qL_J]
    exact m_rfrac h1 (by simp) ⟨by omega, by omega⟩ b3 (by omega) (fun μ2 h2 f2 => hQ μ2 h2 ((FM_row f1).tr (FM_row f2)))
  · have hl : k < 192 := by
      rcases Nat.lt_or_ge k 192 with s | s
      · exact s
      · exact absurd (c1.mpr (by omega)) q
    have hk := hK hl _ rfl
    have ov : qN k + 1 = qN (k + 1) := qN_add k 1
    have oe : oE A X v (k + 1) = oE A X v k + wy A X v (A 358 8) k := rfl
    have no : oC w t k = false → G12_odds_J380 (qN w) (qN t) (qL (oE A X v (k + 1))) (qN k) (qL (oS A X v w k)) μ K Q := fun q => by
      unfold G12_odds_J380
      rw [show (0 : Int64) = qL 0 from rfl, qL_add, Bd_eq, ov, Nat.add_zero]
      rw [eS, q, if_neg (by decide), Nat.add_zero] at hk
      exact hk
    have yes : oC w t k = true → vp_in (qN k) 192 ∧ Bd (qL (oS A X v w k) + gJ μ 383 (qN k).toNatClampNeg) fun y => K (y, qL (oE A X v (k + 1)), qN k + 1, μ) := fun q => by
      rw [qN_vp (by omega), qN_nat (by omega), hg k hl, qL_add, Bd_eq, ov]
      rw [eS, q, if_pos rfl] at hk
      exact ⟨hl, hk⟩
    show vp_in (qN k) 192 ∧ Bd (qL (oE A X v k) + (gJ μ 383 (qN k).toNatClampNeg)) fun y63 => ((¬ qN w = 0 → ((¬ qN w = 1 → ((¬ qN k = qN t → G12_odds_J380 (qN w) (qN t) y63 (qN k) (qL (oS A X v w k)) μ K Q) ∧ (qN k = qN t → vp_in (qN k) 192 ∧ Bd (qL (oS A X v w k) + (gJ μ 383 (qN k).toNatClampNeg)) fun y69 => K (y69, y63, (qN k + 1), μ)))) ∧ (qN w = 1 → ((qN k < qN t → G12_odds_J380 (qN w) (qN t) y63 (qN k) (qL (oS A X v w k)) μ K Q) ∧ (¬ (qN k < qN t) → vp_in (qN k) 192 ∧ Bd (qL (oS A X v w k) + (gJ μ 383 (qN k).toNatClampNeg)) fun y72 => K (y72, y63, (qN k + 1), μ)))))) ∧ (qN w = 0 → ((qN t < qN k → G12_odds_J380 (qN w) (qN t) y63 (qN k) (qL (oS A X v w k)) μ K Q) ∧ (¬ (qN t < qN k) → vp_in (qN k) 192 ∧ Bd (qL (oS A X v w k) + (gJ μ 383 (qN k).toNatClampNeg)) fun y75 => K (y75, y63, (qN k + 1), μ)))))
    have ee : qL (oE A X v k) + gJ μ 383 (qN k).toNatClampNeg = qL (oE A X v (k + 1)) := by rw [qN_nat (by omega), hg k hl, qL_add, oe]
    rw [ee, Bd_eq, e0, e1, qN_eq (by omega) (by omega), qN_lt (by omega) (by omega), qN_lt (by omega) (by omega)]
    refine ⟨(qN_vp (by omega)).mpr hl, fun r0 => ⟨fun r1 => ⟨fun r => no ?_, fun r => yes ?_⟩, fun r1 => ⟨fun r => no ?_, fun r => yes ?_⟩⟩, fun r0 => ⟨fun r => no ?_, fun r => yes ?_⟩⟩
    · unfold oC; rw [if_neg r0, if_neg r1]; exact decide_eq_false r
    · unfold oC; rw [if_neg r0, if_neg r1]; exact decide_eq_true r
    · unfold oC; rw [if_neg r0, if_pos r1]; exact decide_eq_false (by omega)
    · unfold oC; rw [if_neg r0, if_pos r1]; exact decide_eq_true (by omega)
    · unfold oC; rw [if_pos r0]; exact decide_eq_false (by omega)
    · unfold oC; rw [if_pos r0]; exact decide_eq_true (by omega)
/-- the model joins a house -/
theorem m_joinH {A X : Nat → Nat → Nat} {v : Int32} {h : Nat} {μ : MM} (hV : Inv A X) (hh : h < 24) (p1 p2 p3 : Int32) (K68 : Int32 × Int32 × MM → Prop) (Q : Int32 → MM → Prop) (g : ∀ k, k < 192 → gJ μ 383 k = qL (wy A X v h k))
    (hQ : ∀ μ', Sm (fun k _ => k = 383 ∨ k = 384) μ μ' → (∀ k, k < 192 → gJ μ' 383 k = qL (wy A X v (h + 1) k)) → K68 (p3, qN h + 1, μ')) : Lp (G12_odds_L178 p1 p2 p3 (qN h) (qN (oa A X v h)) (qN (oo A X v h)) (qN (og A X v h)) K68 Q) (0, μ) := by
  have a4 := oa_b hV v hh
  have r4 := og_b A X v h
  have o4 := oo_b A X v h
  refine Lp.up 192 (fun i (x : Int32 × MM) => x.1 = qN i ∧ Sm (fun k _ => k = 383 ∨ k = 384) μ x.2 ∧ (∀ k, k < 192 → gJ x.2 383 k = qL (wy A X v h k)) ∧ ∀ k, k < i → gJ x.2 384 k = qL (wy A X v (h + 1) k)) ?_ ⟨rfl, Sm.rfl', g, fun k hk => absurd hk (by omega)⟩
  rintro i K hi hK ⟨x1, ν⟩ ⟨rfl, hs, hg, hn⟩
  simp only at hs hg hn
  have c1 : (192 : Int32) ≤ qN i ↔ 192 ≤ i := qN_le (a := 192) (by decide) (by omega)
  refine ⟨fun q => ?_, fun q => ?_⟩
  · have e : i = 192 := by have := c1.mp q; omega
    subst e
    clear hK K
    refine Lp.up 192 (fun i (x : Int32 × MM) => x.1 = qN i ∧ Sm (fun k _ => k = 383 ∨ k = 384) μ x.2 ∧ (∀ k, k < i → gJ x.2 383 k = qL (wy A X v (h + 1) k)) ∧ ∀ k, k < 192 → gJ x.2 384 k = qL (wy A X v (h + 1) k)) ?_ ⟨rfl, hs, fun k hk => absurd hk (by omega), hn⟩
    clear hs hg hn ν q c1 hi
    rintro i K hi hK ⟨x1, ν⟩ ⟨rfl, hs, hg, hn⟩
    simp only at hs hg hn
    have c1 : (192 : Int32) ≤ qN i ↔ 192 ≤ i := qN_le (a := 192) (by decide) (by omega)
    refine ⟨fun q => ?_, fun q => ?_⟩
    · have e : i = 192 := by have := c1.mp q; omega
      subst e
      exact hQ ν hs hg
    · have hl : i < 192 := by
        rcases Nat.lt_or_ge i 192 with s | s
        · exact s
        · exact absurd (c1.mpr (by omega)) q
      have hk := hK hl
      have ov : qN i + 1 = qN (i + 1) := qN_add i 1
      show vp_in (qN i) 192 ∧ vp_in (qN i) 192 ∧ Bd (sJ ν 383 (qN i).toNatClampNeg (gJ ν 384 (qN i).toNatClampNeg)) fun μ81 => K (qN i + 1, μ81)
      rw [qN_vp (by omega), qN_nat (by omega), Bd_eq, ov, hn i hl]
      refine ⟨hl, hl, hk _ ⟨rfl, hs.wJ _ (Or.inl rfl), fun k hk9 => ?_, fun k hk9 => ?_⟩⟩
      · show gJ (sJ ν 383 i _) 383 k = _
        rw [gJ_J]
        by_cases q2 : k = i
        · rw [if_pos ⟨rfl, q2⟩, q2]
        · rw [if_neg (fun r => q2 r.2)]; exact hg k (by omega)
      · show gJ (sJ ν 383 i _) 384 k = _
        rw [gJ_J, if_neg (fun r => by omega)]
        exact hn k hk9
  · have hl : i < 192 := by
      rcases Nat.lt_or_ge i 192 with s | s
      · exact s
      · exact absurd (c1.mpr (by omega)) q
    have hk := hK hl
    have ov : qN i + 1 = qN (i + 1) := qN_add i 1
    have fin : ∀ s, s = wy A X v (h + 1) i → vp_in (qN i) 192 ∧ Bd (sJ ν 384 (qN i).toNatClampNeg (qL s)) fun μ84 => K (qN i + 1, μ84) := fun s es => by
      rw [qN_vp (by omega), qN_nat (by omega), Bd_eq, ov]
      refine ⟨hl, hk _ ⟨rfl, hs.wJ _ (Or.inr rfl), fun k hk9 => ?_, fun k hk9 => ?_⟩⟩
      · show gJ (sJ ν 384 i _) 383 k = _
        rw [gJ_J, if_neg (fun r => by omega)]
        exact hg k hk9
      · show gJ (sJ ν 384 i _) 384 k = _
        rw [gJ_J]
        by_cases q2 : k = i
        · rw [if_pos ⟨rfl, q2⟩, es, q2]
        · rw [if_neg (fun r => q2 r.2)]; exact hn k (by omega)
    refine Lp.up (min 4 i + 1) (fun j (y : Int64 × Int32 × MM) => y = (qL (wyj (wy A X v h) (oa A X v h) (og A X v h) (oo A X v h) i j), qN j, ν)) ?_ rfl
    rintro j K2 hj hK2 _ rfl
    have c2 : (4 : Int32) < qN j ↔ 4 < j := qN_lt (a := 4) (by decide) (by omega)
    refine ⟨fun r => fin _ ?_, fun r => ⟨fun r2 => fin _ ?_, fun r2 => ?_⟩⟩
    · have := c2.mp r
      exact wyj_end (by omega) (by omega) (Or.inl (by omega))
    · have := (qN_lt (by omega) (by omega)).mp r2
      exact wyj_end (by omega) (by omega) (Or.inr this)
    · have j1 : j ≤ 4 := by
        rcases Nat.lt_or_ge 4 j with s | s
        · exact absurd (c2.mpr s) r
        · exact s
      have j2 : j ≤ i := by
        rcases Nat.lt_or_ge i j with s | s
        · exact absurd ((qN_lt (by omega) (by omega)).mpr s) r2
        · exact s
      have hk2 := hK2 (by omega) _ rfl
      show vp_in (qN i - qN j) 192 ∧ G12_choices (qN (og A X v h)) (qN j) ν (fun r90 μ89 => G12_choices (qN (oa A X v h) - qN (og A X v h)) (qN (oo A X v h) - qN j) μ89 (fun r92 μ91 => Bd (qL (wyj (wy A X v h) (oa A X v h) (og A X v h) (oo A X v h) i j) + (((gJ ν 383 ((qN i - qN j).toNatClampNeg)) * r90) * r92)) fun y93 => K2 (y93, (qN j + 1), μ91)))
      rw [qN_sub j2, qN_vp (by omega), qN_sub r4]
      refine ⟨by omega, ?_⟩
      refine m_chs0 (by omega) (by omega) ?_
      refine m_chs (by omega) (by omega) (by omega) ?_
      rw [qN_nat (by omega), hg _ (by omega), qL_mul, qL_mul, qL_add, Bd_eq]
      have e3 : wyj (wy A X v h) (oa A X v h) (og A X v h) (oo A X v h) i (j + 1) = wyj (wy A X v h) (oa A X v h) (og A X v h) (oo A X v h) i j + wy A X v h (i - j) * bin (og A X v h) j * cz (oa A X v h - og A X v h) (oo A X v h) j := by
        show wyj _ _ _ _ _ j + (if j ≤ i then _ else 0) = _
        rw [if_pos j2, Nat.mul_assoc]
        rfl
      rw [e3] at hk2
      rw [show qN j + 1 = qN (j + 1) from qN_add j 1]
      exact hk2
