/-! weighs -/
/-- the letters that are left without a house -/
def sR0 (A : Nat → Nat → Nat) (h i : Nat) : Bool := !decide (A 367 i = h) && decide (A 373 i = 1)
theorem fps_n (A X : Nat → Nat → Nat) (i : Nat) : fps A X (-1) i = true := by
  unfold fps
  rw [decide_eq_true rfl]
  rfl
theorem gSel_all (A X : Nat → Nat → Nat) (i : Nat) : gSel A X (-1) (-1) i = sA A i := by
  unfold gSel sA
  rw [fps_n]
  simp
theorem gSel_h {A X : Nat → Nat → Nat} (hI : ∀ f i, dom f i → A f i < bnd f i) {h i : Nat} (hh : h < 24) (hi : i < 96) : gSel A X (-1) (qN h) i = sH A h i := by
  have b1 : A 367 i < 24 := hI 367 i (by unfold dom; omega)
  have e1 : (qN h = -1) = False := by rw [qN_neg1 (by omega)]
  have e2 : (qN (A 367 i) = qN h) = (A 367 i = h) := by rw [qN_eq (by omega) (by omega)]
  unfold gSel sH
  rw [fps_n]
  simp only [e1, e2, decide_false, Bool.false_or, Bool.and_true]
  exact Bool.and_comm _ _
theorem mSel_all {A X : Nat → Nat → Nat} (hI : ∀ f i, dom f i → A f i < bnd f i) {i : Nat} (hi : i < 96) : mSel A X (-1) (-1) i = sA A i := by
  have b1 : A 367 i < 24 := hI 367 i (by unfold dom; omega)
  have e1 : (qN (A 367 i) = -1) = False := by rw [qN_neg1 (by omega)]
  unfold mSel sA
  rw [fps_n]
  simp [e1]
theorem mSel_h {A X : Nat → Nat → Nat} (hI : ∀ f i, dom f i → A f i < bnd f i) {h i : Nat} (hh : h < 24) (hi : i < 96) : mSel A X (-1) (qN h) i = sR0 A h i := by
  have b1 : A 367 i < 24 := hI 367 i (by unfold dom; omega)
  have e2 : (qN (A 367 i) = qN h) = (A 367 i = h) := by rw [qN_eq (by omega) (by omega)]
  unfold mSel sR0
  rw [fps_n]
  simp [e2]
theorem tc_split (A : Nat → Nat → Nat) (h p : Nat) : ∀ n, tc A (sA A) p n = tc A (sH A h) p n + tc A (sR0 A h) p n
  | 0 => rfl
  | n + 1 => by
    have ih := tc_split A h p n
    rw [tc_s, tc_s, tc_s, ih]
    unfold sA sH sR0
    by_cases h1 : A 367 n = h <;> by_cases h2 : A 373 n = 1 <;> by_cases h3 : zp A n = p <;> simp [h1, h2, h3] <;> omega
theorem tr_split {A : Nat → Nat → Nat} (hI : ∀ f i, dom f i → A f i < bnd f i) (h p : Nat) : ∀ n, n ≤ 96 → tr A (sA A) p n = tr A (sH A h) p n + tr A (sR0 A h) p n
  | 0, _ => rfl
  | n + 1, hn => by
    have ih := tr_split hI h p n (by omega)
    have b4 : A 374 n < 2 := hI 374 n (by unfold dom; omega)
    rw [tr_s _ _ _ _ b4, tr_s _ _ _ _ b4, tr_s _ _ _ _ b4, ih]
    unfold sA sH sR0
    by_cases h1 : A 367 n = h <;> by_cases h2 : A 373 n = 1 <;> by_cases h3 : zp A n = p <;> simp [h1, h2, h3] <;> omega
theorem c_without {A X : Nat → Nat → Nat} {W : List Int64} {μ : MM} {Q : MM → Prop} (hV : Inv A X) (hC : Cs A X W μ) {h : Nat} (hT : Tl μ 154 A (sA A) (A 358 12)) (hP : Tl μ 157 A (sH A h) (A 358 12))
    (hQ : ∀ μ', Cs A X W μ' → Sm (fun k _ => k = 161 ∨ k = 162) μ μ' → Tl μ' 160 A (sR0 A h) (A 358 12) → Q μ') : G9_becomeWithout 160 154 157 μ Q := by
  have hn : A 358 12 < 97 := hV.b 358 12 (by unfold dom; decide)
  refine Lp.up 2 (fun i x => x.1 = qN i ∧ Sm (fun k _ => k = 161 ∨ k = 162) μ x.2 ∧ ∀ p, p < i → gI x.2 161 p = qN (tc A (sR0 A h) p (A 358 12)) ∧ gI x.2 162 p = qN (tr A (sR0 A h) p (A 358 12))) ?_ ⟨rfl, Sm.rfl', fun p hp => absurd hp (by omega)⟩
  rintro i K hi hK ⟨y, ν⟩ ⟨rfl, hs, hg⟩
  simp only at hs hg
  rcases Nat.lt_or_ge i 2 with hl | hl
  · have hk := hK hl
    have e1 : gI ν 155 i = qN (tc A (sA A) i (A 358 12)) := ((hs.1 155 i (by show ¬ (155 = 161 ∨ 155 = 162); decide)).1).trans (hT i hl).1
    have e2 : gI ν 156 i = qN (tr A (sA A) i (A 358 12)) := ((hs.1 156 i (by show ¬ (156 = 161 ∨ 156 = 162); decide)).1).trans (hT i hl).2
    have e3 : gI ν 158 i = qN (tc A (sH A h) i (A 358 12)) := ((hs.1 158 i (by show ¬ (158 = 161 ∨ 158 = 162); decide)).1).trans (hP i hl).1
    have e4 : gI ν 159 i = qN (tr A (sH A h) i (A 358 12)) := ((hs.1 159 i (by show ¬ (159 = 161 ∨ 159 = 162); decide)).1).trans (hP i hl).2
    have s1 := tc_split A h i (A 358 12)
    have s2 := tr_split hV.b h i (A 358 12) (by omega)
    simp (disch := omega) only [bo_q0, bo_q1, qN_le, qN_lt, qN_eq, qN_vp, qN_nat, qN_neg1, qN_neg, qN_nn, qN_lit, qN_add, qN_sub, qN_mul, qN_div, Bd_eq, reduceIte, Nat.add_sub_cancel, dm_l, Nat.zero_le, Nat.not_lt_zero, Nat.reduceEqDiff, Nat.reduceLT, Nat.reduceLeDiff, Nat.reduceAdd, Nat.reduceSub, Nat.reduceMul, Nat.reduceDiv, Nat.reduceMod, reduceCtorEq, true_implies, false_implies, not_true_eq_false, not_false_eq_true, true_and, and_true, implies_true, and_false, false_and, forall_const, true_or, or_true, false_or, or_false, G9_becomeWithout_L2, Nat.not_le.mpr hl, hl, e1, e2, e3, e4, gI_I, gI_J, gI_R, gJ_I, gJ_J, gJ_R, gR_I, gR_J, gR_R]
    refine hk _ ⟨rfl, (hs.wI _ (Or.inl rfl)).wI _ (Or.inr rfl), fun p hp => ?_⟩
    simp only [gI_I, gI_J, gI_R, gJ_I, gJ_J, gJ_R, gR_I, gR_J, gR_R, Nat.reduceEqDiff, false_and, reduceIte, true_and]
    by_cases q : p = i
    · rw [if_pos q, if_pos q, q]
      refine ⟨?_, ?_⟩
      · congr 1; omega
      · congr 1; omega
    · rw [if_neg q, if_neg q]; exact hg p (by omega)
  · have e : i = 2 := by omega
    subst e
    simp (disch := omega) only [bo_q0, bo_q1, qN_le, qN_lt, qN_eq, qN_vp, qN_nat, qN_neg1, qN_neg, qN_nn, qN_lit, qN_add, qN_sub, qN_mul, qN_div, Bd_eq, reduceIte, Nat.add_sub_cancel, dm_l, Nat.zero_le, Nat.not_lt_zero, Nat.reduceEqDiff, Nat.reduceLT, Nat.reduceLeDiff, Nat.reduceAdd, Nat.reduceSub, Nat.reduceMul, Nat.reduceDiv, Nat.reduceMod, reduceCtorEq, true_implies, false_implies, not_true_eq_false, not_false_eq_true, true_and, and_true, implies_true, and_false, false_and, forall_const, true_or, or_true, false_or, or_false, G9_becomeWithout_L2]
    exact hQ _ (hC.sm (hs.mo (fun k j q => by unfold cS; omega))) hs hg
/-- the size of the change when a house is left out, over the product of the counts -/
def wgF (A : Nat → Nat → Nat) (h : Nat) : Int := asU A (sA A) * (asL A (sR0 A h) : Int) - asU A (sR0 A h) * (asL A (sA A) : Int)
noncomputable def wOk (A : Nat → Nat → Nat) (h : Nat) : Bool := decide (0 < hR A h) && (decide (0 < tc A (sR0 A h) 0 (A 358 12)) && decide (0 < tc A (sR0 A h) 1 (A 358 12)))
/-- best, its change, its count, its cross -/
noncomputable def wgs (A : Nat → Nat → Nat) : Nat → Int32 × Nat × Nat × Int
  | 0 => (-1, 0, 1, 0)
  | k + 1 => if wOk A k = true ∧ ((wgs A k).1 = -1 ∨ (wgs A k).2.1 * asL A (sR0 A k) < (wgF A k).natAbs * (wgs A k).2.2.1) then (qN k, (wgF A k).natAbs, asL A (sR0 A k), asU A (sR0 A k)) else wgs A k
theorem wgF_b {A : Nat → Nat → Nat} (h : A 358 12 < 97) (k : Nat) : -169869312 ≤ wgF A k ∧ wgF A k ≤ 169869312 := by
  have u1 := asU_b (A := A) (S := sA A) h
  have u2 := asU_b (A := A) (S := sR0 A k) h
  have l1 := asL_b (A := A) (S := sA A) h
  have l2 := asL_b (A := A) (S := sR0 A k) h
  have p1 := mul_b u1.1 u1.2 rfl l2
  have p2 := mul_b u2.1 u2.2 rfl l1
  unfold wgF
  omega
theorem wOk_p {A : Nat → Nat → Nat} {k : Nat} (h : wOk A k = true) : 0 < hR A k ∧ asB A (sR0 A k) := by
  unfold wOk at h
  simp at h
  exact ⟨h.1, h.2⟩
theorem wgs_i {A : Nat → Nat → Nat} (h : A 358 12 < 97) : ∀ k, (((wgs A k).1 = -1 ∧ (wgs A k).2.1 = 0 ∧ (wgs A k).2.2.1 = 1) ∨ ∃ j, j < k ∧ (wgs A k).1 = qN j ∧ wOk A j = true ∧ (wgs A k).2.1 = (wgF A j).natAbs ∧ (wgs A k).2.2.1 = asL A (sR0 A j) ∧ (wgs A k).2.2.2 = asU A (sR0 A j)) ∧ (wgs A k).2.1 ≤ 169869312 ∧ 0 < (wgs A k).2.2.1 ∧ (wgs A k).2.2.1 ≤ 9216
  | 0 => ⟨Or.inl ⟨rfl, rfl, rfl⟩, Nat.zero_le _, Nat.one_pos, by show 1 ≤ 9216; decide⟩
  | k + 1 => by
    obtain ⟨i1, i2, i3, i4⟩ := wgs_i h k
    have fb := wgF_b h k
    have lb := asL_b (A := A) (S := sR0 A k) h
    have eS : wgs A (k + 1) = if wOk A k = true ∧ ((wgs A k).1 = -1 ∨ (wgs A k).2.1 * asL A (sR0 A k) < (wgF A k).natAbs * (wgs A k).2.2.1) then (qN k, (wgF A k).natAbs, asL A (sR0 A k), asU A (sR0 A k)) else wgs A k := rfl
    rw [eS]
    by_cases q : wOk A k = true ∧ ((wgs A k).1 = -1 ∨ (wgs A k).2.1 * asL A (sR0 A k) < (wgF A k).natAbs * (wgs A k).2.2.1)
    · rw [if_pos q]
      have hp := asL_p (wOk_p q.1).2
      exact ⟨Or.inr ⟨k, by omega, rfl, q.1, rfl, rfl, rfl⟩, by show (wgF A k).natAbs ≤ 169869312; omega, hp, lb⟩
    · rw [if_neg q]
      refine ⟨?_, i2, i3, i4⟩
      rcases i1 with i1 | ⟨j, a, b⟩
      · exact Or.inl i1
      · exact Or.inr ⟨j, by omega, b⟩

theorem c_weighs {A X : Nat → Nat → Nat} {W : List Int64} {μ : MM} {Q : Int32 → MM → Prop} (hV : Inv A X) (h : Cs A X W μ)
    (hy : ∀ j, asB A (sA A) → (wgs A (A 358 8)).1 = qN j → j < 24 → ∀ μ', Cs A X (frc (asU A (sR0 A j)) (asL A (sR0 A j))) μ' → FC μ μ' → Q (qN j) μ')
    (hz : ¬ (asB A (sA A) ∧ ¬ (wgs A (A 358 8)).1 = -1) → ∀ μ', Cs A X W μ' → FC μ μ' → Q (-2) μ') : G11_weighs μ Q := by
  have hl : A 358 12 < 97 := hV.b 358 12 (by unfold dom; decide)
  have hH : A 358 8 < 25 := hV.b 358 8 (by unfold dom; decide)
  unfold G11_weighs G8_tellHeaviest
  have gc : ∀ t, 154 ≤ t → t ≤ 165 → ∀ k j, gS t k j → cS k j := fun t h1 h2 k j q => by
    rcases q with q | q | q
    · exact pS_c q
    · unfold cS; omega
    · unfold cS; omega
  refine c_gather hV h (tF_cs A) (t := 154) (by decide) (by decide) (fun μ1 h1 f1 hT => ?_)
  replace hT := Tl_congr (fun i hi => gSel_all A X i) hT
  have fc := FC_cS (f1.mo (gc 154 (by decide) (by decide)))
  refine c_hasBoth hl hT (fun qb => ⟨fun _ => ?_, fun r => absurd r (by decide)⟩) (fun qb => ⟨fun r => absurd rfl r, fun _ => hz (fun r => qb r.1) _ h1 fc⟩)
  have U := asU_b (A := A) (S := sA A) hl
  have Lb := asL_b (A := A) (S := sA A) hl
  have Lp0 := asL_p qb
  refine Lp.up (A 358 8) (fun k x => x.1 = (wgs A k).1 ∧ x.2.1 = qL (wgs A k).2.1 ∧ x.2.2.1 = qL (if (wgs A k).1 = -1 then 1 else asL A (sA A) * (wgs A k).2.2.1) ∧ x.2.2.2.1 = qN k ∧ Cs A X W x.2.2.2.2 ∧ FC μ x.2.2.2.2 ∧ Tl x.2.2.2.2 154 A (sA A) (A 358 12)) ?_ ⟨rfl, rfl, rfl, rfl, h1, fc, hT⟩
  rintro k K hk hK ⟨y1, y2, y3, y4, ν⟩ ⟨rfl, rfl, rfl, rfl, hC, hf, hTn⟩
  simp only at hC hf hTn
  obtain ⟨i1, i2, i3, i4⟩ := wgs_i hl k
  rcases Nat.lt_or_ge k (A 358 8) with hl1 | hl1
  · have hk2 := hK hl1
    have k24 : k < 24 := by omega
    have eS : wgs A (k + 1) = if wOk A k = true ∧ ((wgs A k).1 = -1 ∨ (wgs A k).2.1 * asL A (sR0 A k) < (wgF A k).natAbs * (wgs A k).2.2.1) then (qN k, (wgF A k).natAbs, asL A (sR0 A k), asU A (sR0 A k)) else wgs A k := rfl
    rw [eS] at hk2
    have u := asU_b (A := A) (S := sR0 A k) hl
    have l := asL_b (A := A) (S := sR0 A k) hl
    have c0 : ¬ (qN (A 358 8) ≤ qN k) := by rw [qN_le (by omega) (by omega)]; omega
    unfold G8_tellHeaviest_L33
    rw [Ca_s8 hC.1]
    refine ⟨fun r => absurd r c0, fun _ => ?_⟩
    refine c_gather hV hC (tF_cs A) (t := 157) (by decide) (by decide) (fun ν1 g1 k1 hP => ?_)
    replace hP := Tl_congr (fun i hi => gSel_h hV.b (X := X) k24 (by omega)) hP
    have z4 : ∀ j, ¬ gS 157 (154 + 1) j ∧ ¬ gS 157 (154 + 2) j := fun j => ⟨fun q => by unfold gS pS at q; omega, fun q => by unfold gS pS at q; omega⟩
    have hT1 := Tl_sm hTn k1 z4
    refine c_without hV g1 hT1 hP (fun ν2 g2 k2 hR2 => ?_)
    have hT2 := Tl_sm hT1 k2 (fun j => by omega)
    have hP2 := Tl_sm hP k2 (fun j => by omega)
    have f2 := (hf.tr (FC_cS (k1.mo (gc 157 (by decide) (by decide))))).tr (FC_cS (k2.mo (fun k j q => show cS k j by unfold cS; omega)))
    have ts := tc_sum A (sH A k) (A 358 12)
    have ea : gI ν2 (157 + 1) 0 + gI ν2 (157 + 1) 1 = qN (hR A k) := by rw [(hP2 0 (by decide)).1, (hP2 1 (by decide)).1, qN_add]; rfl
    have eh : hR A k = tc A (sH A k) 0 (A 358 12) + tc A (sH A k) 1 (A 358 12) := rfl
    have z0 : (qN (hR A k) = 0) = (hR A k = 0) := by rw [eq_iff_iff, show (0 : Int32) = qN 0 from rfl, qN_eq (by omega) (by decide)]
    have skip : ¬ wOk A k = true → K ((wgs A k).1, qL (wgs A k).2.1, qL (if (wgs A k).1 = -1 then 1 else asL A (sA A) * (wgs A k).2.2.1), qN k + 1, ν2) := fun q => by
      rw [if_neg (fun r => q r.1)] at hk2
      exact hk2 _ ⟨rfl, rfl, rfl, by show qN k + 1 = _; rw [qN_lit 1, qN_add], g2, f2, hT2⟩
    unfold G9_all
    rw [ea]
    show (qN (hR A k) = 0 → _) ∧ (¬ qN (hR A k) = 0 → _)
    rw [z0]
    refine ⟨fun r => skip (fun s => by have := (wOk_p s).1; omega), fun r => ?_⟩
    refine c_hasBoth hl hR2 (fun qc => ⟨fun _ => ?_, fun s => absurd s (by decide)⟩) (fun qc => ⟨fun s => absurd rfl s, fun _ => skip (fun s => qc (wOk_p s).2)⟩)
    have ok : wOk A k = true := by
      unfold wOk
      rw [decide_eq_true (show 0 < hR A k by omega), decide_eq_true qc.1, decide_eq_true qc.2]; rfl
    have lp := asL_p qc
    refine c_asU hl hT2 (c_asL hl hR2 (c_asU hl hR2 (c_asL hl hT2 ?_)))
    have fb := wgF_b hl k
    have eF : asU A (sA A) * (asL A (sR0 A k) : Int) - asU A (sR0 A k) * (asL A (sA A) : Int) = wgF A k := rfl
    rw [Bd_eq, qJ_mul, qJ_mul, qJ_sub, eF, lg_ge, show (0 : Int64) = qJ 0 from rfl, qJ_lt (by omega) (by omega) (by omega) (by omega), qJ_neg]
    have main : ∀ z : Int64, z = qL (wgF A k).natAbs → G8_tellHeaviest_J142 (wgs A k).1 (qL (wgs A k).2.1) (qL (if (wgs A k).1 = -1 then 1 else asL A (sA A) * (wgs A k).2.2.1)) (qN k) z ν2 K Q := by
      intro z hz2
      subst hz2
      unfold G8_tellHeaviest_J142
      refine c_asL hl hT2 (c_asL hl hR2 ?_)
      rw [Bd_eq, qJ_mul, ← Int.natCast_mul, ← qL_J]
      have take : (wgs A k).1 = -1 ∨ (wgs A k).2.1 * asL A (sR0 A k) < (wgF A k).natAbs * (wgs A k).2.2.1 → G8_tellHeaviest_J179 (qN k) (qL (wgF A k).natAbs) (qL (asL A (sA A) * asL A (sR0 A k))) ν2 K Q := fun q => by
        rw [if_pos ⟨ok, q⟩] at hk2
        unfold G8_tellHeaviest_J179
        refine hk2 _ ⟨rfl, rfl, ?_, by show qN k + 1 = _; rw [qN_lit 1, qN_add], g2, f2, hT2⟩
        rw [if_neg (show ¬ (qN k = (-1 : Int32)) by rw [qN_neg1 (by omega)]; exact id)]
      refine ⟨fun q => take (Or.inl q), fun q => ?_⟩
      rw [if_neg q, qL_mul, qL_mul, lg_le]
      have m1 : (wgF A k).natAbs * (asL A (sA A) * (wgs A k).2.2.1) ≤ 169869312 * (9216 * 9216) := mulb (by omega) (mulb Lb i4)
      have m2 : (wgs A k).2.1 * (asL A (sA A) * asL A (sR0 A k)) ≤ 169869312 * (9216 * 9216) := mulb i2 (mulb Lb l)
      have cmp : ((wgs A k).2.1 * (asL A (sA A) * asL A (sR0 A k)) < (wgF A k).natAbs * (asL A (sA A) * (wgs A k).2.2.1)) ↔ ((wgs A k).2.1 * asL A (sR0 A k) < (wgF A k).natAbs * (wgs A k).2.2.1) := by
        rw [Nat.mul_left_comm, Nat.mul_left_comm (wgF A k).natAbs]
        exact Nat.mul_lt_mul_left Lp0
      rw [qL_lt (by omega) (by omega), cmp]
      refine ⟨fun s => ?_, fun s => take (Or.inr (Classical.byContradiction s))⟩
      rw [if_neg (fun t => by rcases t.2 with t | t; exact q t; exact s t)] at hk2
      exact hk2 _ ⟨rfl, rfl, by rw [if_neg q], by show qN k + 1 = _; rw [qN_lit 1, qN_add], g2, f2, hT2⟩
    refine ⟨fun s => main _ ?_, fun s => main _ ?_⟩
    · rw [qL_J]; congr 1; omega
    · rw [qL_J]; congr 1; omega
  · have e : k = A 358 8 := by omega
    subst e
    unfold G8_tellHeaviest_L33
    rw [Ca_s8 hC.1]
    refine ⟨fun _ => ⟨fun q => ?_, fun q => hz (fun r => r.2 q) _ hC hf⟩, fun r => absurd (show qN (A 358 8) ≤ qN (A 358 8) by rw [qN_le (by omega) (by omega)]; exact Nat.le_refl _) r⟩
    rcases i1 with i1 | ⟨j, hj, e1, ok, e2, e3, e4⟩
    · exact absurd i1.1 q
    have j24 : j < 24 := by omega
    rw [e1]
    refine c_gather hV hC (tF_cs A) (t := 157) (by decide) (by decide) (fun ν1 g1 k1 hP => ?_)
    replace hP := Tl_congr (fun i hi => gSel_h hV.b (X := X) j24 (by omega)) hP
    have z4 : ∀ j, ¬ gS 157 (154 + 1) j ∧ ¬ gS 157 (154 + 2) j := fun j => ⟨fun q => by unfold gS pS at q; omega, fun q => by unfold gS pS at q; omega⟩
    refine c_without hV g1 (Tl_sm hTn k1 z4) hP (fun ν2 g2 k2 hR2 => ?_)
    have f2 := (hf.tr (FC_cS (k1.mo (gc 157 (by decide) (by decide))))).tr (FC_cS (k2.mo (fun k j q => show cS k j by unfold cS; omega)))
    refine c_rclear g2 (fun ν3 g3 k3 => ?_)
    have hR3 := Tl_sm hR2 k3 (fun j => by omega)
    have u := asU_b (A := A) (S := sR0 A j) hl
    have l := asL_b (A := A) (S := sR0 A j) hl
    have lp := asL_p (wOk_p ok).2
    refine c_asU hl hR3 (c_asL hl hR3 ?_)
    refine c_rfrac g3 (by decide) ⟨by omega, by omega⟩ lp (by omega) (fun ν4 g4 k4 => ?_)
    exact hy j qb e1 j24 _ g4 ((f2.tr (FC_row k3)).tr (FC_row k4))

theorem readMany_t (A : Nat → Nat → Nat) (hI : ∀ f i, dom f i → A f i < bnd f i) : ∀ n, n ≤ 96 → cnt (fun i => decide (A 373 i = 1)) n = tc A (sA A) 0 n + tc A (sA A) 1 n
  | 0, _ => rfl
  | n + 1, hn => by
    have ih := readMany_t A hI n (by omega)
    have b2 : A 368 n < 12 := hI 368 n (by unfold dom; omega)
    have b5 : A 360 (A 368 n) < 2 := hI 360 (A 368 n) (by unfold dom; omega)
    have ez : zp A n = A 360 (A 368 n) := rfl
    show cnt (fun i => decide (A 373 i = 1)) n + (decide (A 373 n = 1)).toNat = _
    rw [tc_s, tc_s, ih]
    unfold sA
    rcases (show A 360 (A 368 n) = 0 ∨ A 360 (A 368 n) = 1 by omega) with z | z <;> by_cases q : A 373 n = 1 <;> simp [q, ez, z] <;> omega
theorem m_weighs {A X : Nat → Nat → Nat} {W : List Int64} {μ : MM} {Q : Int32 → MM → Prop} (hV : Inv A X) (h : Ms A X W μ)
    (hy : ∀ j, asB A (sA A) → (wgs A (A 358 8)).1 = qN j → j < 24 → ∀ μ', Ms A X (frc (asU A (sR0 A j)) (asL A (sR0 A j))) μ' → FM μ μ' → Q (qN j) μ')
    (hz : ¬ (asB A (sA A) ∧ ¬ (wgs A (A 358 8)).1 = -1) → ∀ μ', Ms A X W μ' → FM μ μ' → Q (-2) μ') : G12_weighs μ Q := by
  have hl : A 358 12 < 97 := hV.b 358 12 (by unfold dom; decide)
  have hH : A 358 8 < 25 := hV.b 358 8 (by unfold dom; decide)
  unfold G12_weighs
  rw [Bd_eq]
  have h0 := m_thr h 0
  have f0 := fm_thr μ 0
  revert h0 f0
  generalize sI μ 358 0 0 = μ0
  intro h0 f0
  refine m_counts hV h0 (tF_cs A) (fun μ1 h1 f1 hT => ?_)
  replace hT := Tl_congr (fun i hi => mSel_all hV.b (X := X) (by omega)) hT
  have fm := f0.tr (FM_mS (f1.mo (fun k j q => nS_m q)))
  refine m_areBoth hl hT (fun qb => ⟨fun _ => ?_, fun r => absurd r (by decide)⟩) (fun qb => ⟨fun r => absurd rfl r, fun _ => hz (fun r => qb r.1) _ h1 fm⟩)
  have U := asU_b (A := A) (S := sA A) hl
  have Lb := asL_b (A := A) (S := sA A) hl
  have Lp0 := asL_p qb
  rw [Bd_eq, Bd_eq, m_cross hl hT, m_low hl hT, qI_6 (a := asU A (sA A)) (by omega) (by omega)]
  refine Lp.up (A 358 8) (fun k x => x.1 = (if (wgs A k).1 = -1 then -2 else (wgs A k).1) ∧ x.2.1 = qL (wgs A k).2.1 ∧ x.2.2.1 = qL (wgs A k).2.2.1 ∧ x.2.2.2.1 = qJ (wgs A k).2.2.2 ∧ x.2.2.2.2.1 = qL (wgs A k).2.2.1 ∧ x.2.2.2.2.2.1 = qN k ∧ Ms A X W x.2.2.2.2.2.2 ∧ FM μ x.2.2.2.2.2.2) ?_ ⟨rfl, rfl, rfl, rfl, rfl, rfl, h1, fm⟩
  rintro k K hk hK ⟨y1, y2, y3, y4, y5, y6, ν⟩ ⟨rfl, rfl, rfl, rfl, rfl, rfl, hC, hf⟩
  simp only at hC hf
  obtain ⟨i1, i2, i3, i4⟩ := wgs_i hl k
  have neg : ((if (wgs A k).1 = -1 then (-2 : Int32) else (wgs A k).1) < 0) ↔ ((wgs A k).1 = -1) := by
    by_cases q : (wgs A k).1 = -1
    · rw [if_pos q]; exact ⟨fun _ => q, fun _ => by decide⟩
    · rw [if_neg q]
      rcases i1 with i1 | ⟨j, hj, e1, _⟩
      · exact absurd i1.1 q
      · rw [e1, qN_neg (by omega)]
        rw [e1] at q
        exact ⟨fun r => absurd r id, fun r => q r⟩
  rcases Nat.lt_or_ge k (A 358 8) with hl1 | hl1
  · have hk2 := hK hl1
    have k24 : k < 24 := by omega
    have eS : wgs A (k + 1) = if wOk A k = true ∧ ((wgs A k).1 = -1 ∨ (wgs A k).2.1 * asL A (sR0 A k) < (wgF A k).natAbs * (wgs A k).2.2.1) then (qN k, (wgF A k).natAbs, asL A (sR0 A k), asU A (sR0 A k)) else wgs A k := rfl
    have u := asU_b (A := A) (S := sR0 A k) hl
    have l := asL_b (A := A) (S := sR0 A k) hl
    have c0 : ¬ (qN (A 358 8) ≤ qN k) := by rw [qN_le (by omega) (by omega)]; omega
    unfold G12_weighs_L85
    rw [Ma_s8 hC.1]
    refine ⟨fun r => absurd r c0, fun _ => ?_⟩
    refine m_counts hV hC (tF_cs A) (fun ν1 g1 k1 hR2 => ?_)
    replace hR2 := Tl_congr (fun i hi => mSel_h hV.b (X := X) k24 (by omega)) hR2
    have f2 := hf.tr (FM_mS (k1.mo (fun k j q => nS_m q)))
    have skip : ¬ wOk A k = true → K ((if (wgs A k).1 = -1 then -2 else (wgs A k).1), qL (wgs A k).2.1, qL (wgs A k).2.2.1, qJ (wgs A k).2.2.2, qL (wgs A k).2.2.1, qN k + 1, ν1) := fun q => by
      have eK : wgs A (k + 1) = wgs A k := by rw [eS, if_neg (fun r => q r.1)]
      rw [eK] at hk2
      exact hk2 _ ⟨rfl, rfl, rfl, rfl, rfl, by show qN k + 1 = _; rw [qN_lit 1, qN_add], g1, f2⟩
    have t0 := tc_split A k 0 (A 358 12)
    have t1 := tc_split A k 1 (A 358 12)
    have eh : hR A k = tc A (sH A k) 0 (A 358 12) + tc A (sH A k) 1 (A 358 12) := rfl
    have ra := tc_sum A (sA A) (A 358 12)
    have s132 : ¬ wOk A k = true → G12_weighs_J132 (qJ (asU A (sA A))) (qJ (asL A (sA A) : Int)) (if (wgs A k).1 = -1 then -2 else (wgs A k).1) (qL (wgs A k).2.1) (qL (wgs A k).2.2.1) (qJ (wgs A k).2.2.2) (qL (wgs A k).2.2.1) (qN k) ν1 K Q := fun q => ⟨fun r => absurd rfl r, fun _ => skip q⟩
    refine m_areBoth hl hR2 (fun qc => ⟨fun s => absurd s (by decide), fun _ => ?_⟩) (fun qc => ⟨fun _ => s132 (fun s => qc (wOk_p s).2), fun s => absurd rfl s⟩)
    refine m_readMany hV.b g1.1 ?_
    have e0 : gI ν1 381 0 + gI ν1 381 1 = qN (tc A (sR0 A k) 0 (A 358 12) + tc A (sR0 A k) 1 (A 358 12)) := by
      rw [show gI ν1 381 0 = gI ν1 (380 + 1) 0 from rfl, show gI ν1 381 1 = gI ν1 (380 + 1) 1 from rfl, (hR2 0 (by decide)).1, (hR2 1 (by decide)).1, qN_add]
    rw [readMany_t A hV.b _ (by omega), e0, qN_le (by omega) (by omega)]
    refine ⟨fun s => s132 (fun t => by have := (wOk_p t).1; omega), fun s => ⟨fun _ => ?_, fun t => absurd t (by decide)⟩⟩
    have ok : wOk A k = true := by
      unfold wOk
      rw [decide_eq_true (show 0 < hR A k by omega), decide_eq_true qc.1, decide_eq_true qc.2]; rfl
    have lp := asL_p qc
    have fb := wgF_b hl k
    have p1 := mul_b u.1 u.2 (rfl : (asL A (sA A) : Int) = _) Lb
    have p2 := mul_b U.1 U.2 (rfl : (asL A (sR0 A k) : Int) = _) l
    have eF : asU A (sR0 A k) * (asL A (sA A) : Int) - asU A (sA A) * (asL A (sR0 A k) : Int) = -wgF A k := by
      unfold wgF
      omega
    have eAbs : (if (0 : Int64) < qJ (asU A (sR0 A k)) * qJ (asL A (sA A) : Int) - qJ (asU A (sA A)) * qJ (asL A (sR0 A k) : Int) then qJ (asU A (sR0 A k)) * qJ (asL A (sA A) : Int) - qJ (asU A (sA A)) * qJ (asL A (sR0 A k) : Int) else -(qJ (asU A (sR0 A k)) * qJ (asL A (sA A) : Int) - qJ (asU A (sA A)) * qJ (asL A (sR0 A k) : Int))) = qL (wgF A k).natAbs := by
      rw [qJ_mul, qJ_mul, qJ_sub, eF, show (0 : Int64) = qJ 0 from rfl]
      by_cases r : 0 < -wgF A k
      · rw [if_pos (by rw [qJ_lt (by omega) (by omega) (by omega) (by omega)]; exact r), qL_J]; congr 1; omega
      · rw [if_neg (by rw [qJ_lt (by omega) (by omega) (by omega) (by omega)]; exact r), qJ_neg, qL_J]; congr 1; omega
    rw [m_cross hl hR2, m_low hl hR2, qI_6 (a := asU A (sR0 A k)) (by omega) (by omega), Bd_eq, Bd_eq, Bd_eq, eAbs, neg]
    have take : (wgs A k).1 = -1 ∨ (wgs A k).2.1 * asL A (sR0 A k) < (wgF A k).natAbs * (wgs A k).2.2.1 → G12_weighs_J223 (qJ (asU A (sA A))) (qJ (asL A (sA A) : Int)) (qN k) (qJ (asU A (sR0 A k))) (qJ (asL A (sR0 A k) : Int)) (qL (wgF A k).natAbs) ν1 K Q := fun q => by
      have eK : wgs A (k + 1) = (qN k, (wgF A k).natAbs, asL A (sR0 A k), asU A (sR0 A k)) := by rw [eS, if_pos ⟨ok, q⟩]
      rw [eK] at hk2
      unfold G12_weighs_J223
      refine hk2 _ ⟨?_, rfl, (qL_J _).symm, rfl, (qL_J _).symm, by show qN k + 1 = _; rw [qN_lit 1, qN_add], g1, f2⟩
      rw [if_neg (show ¬ (qN k = (-1 : Int32)) by rw [qN_neg1 (by omega)]; exact id)]
    refine ⟨fun q => take (Or.inl q), fun q => ?_⟩
    have m1 : (wgF A k).natAbs * (wgs A k).2.2.1 ≤ 169869312 * 9216 := mulb (by omega) i4
    have m2 : (wgs A k).2.1 * asL A (sR0 A k) ≤ 169869312 * 9216 := mulb i2 l
    rw [← qL_J (asL A (sR0 A k)), qL_mul, qL_mul, lg_le, qL_lt (a := (wgs A k).2.1 * asL A (sR0 A k)) (b := (wgF A k).natAbs * (wgs A k).2.2.1) (by omega) (by omega)]
    rw [← qL_J (asL A (sR0 A k))] at take
    refine ⟨fun s => ?_, fun s => take (Or.inr (Classical.byContradiction s))⟩
    have eK : wgs A (k + 1) = wgs A k := by rw [eS, if_neg (fun t => by rcases t.2 with t | t; exact q t; exact s t)]
    rw [eK] at hk2
    exact hk2 _ ⟨rfl, rfl, rfl, rfl, rfl, by show qN k + 1 = _; rw [qN_lit 1, qN_add], g1, f2⟩
  · have e : k = A 358 8 := by omega
    subst e
    unfold G12_weighs_L85
    rw [Ma_s8 hC.1]
    refine ⟨fun _ => ?_, fun r => absurd (show qN (A 358 8) ≤ qN (A 358 8) by rw [qN_le (by omega) (by omega)]; exact Nat.le_refl _) r⟩
    rw [neg]
    refine ⟨fun q => ?_, fun q => ?_⟩
    · rw [if_pos q]; exact hz (fun r => r.2 q) _ hC hf
    · rw [if_neg q]
      rcases i1 with i1 | ⟨j, hj, e1, ok, e2, e3, e4⟩
      · exact absurd i1.1 q
      have j24 : j < 24 := by omega
      have u := asU_b (A := A) (S := sR0 A j) hl
      have l := asL_b (A := A) (S := sR0 A j) hl
      have lp := asL_p (wOk_p ok).2
      obtain ⟨h2, f2⟩ := m_rc hC
      rw [Bd_eq, e4, e3, qL_J]
      refine m_rfrac h2 (by decide) ⟨by omega, by omega⟩ lp (by omega) (fun ν4 g4 k4 => ?_)
      show Q (wgs A (A 358 8)).1 ν4
      rw [e1]
      exact hy j qb e1 j24 _ g4 ((hf.tr (FM_row f2)).tr (FM_row k4))
theorem op_18 (v1 v2 v3 v4 v5 : Int32) (μ : MM) : Rel μ → Glaw_18 v1 v2 v3 v4 v5 μ Rel := by
  rintro ⟨A, X, W, hV, hW, hC, hM⟩
  refine c_weighs hV hC (fun j qb e hj μ1 h1 f1 => ?_) (fun q μ1 h1 f1 => ?_)
  · refine m_weighs hV (hM.fc f1) (fun j' _ e' hj' μ2 h2 f2 => ?_) (fun q => absurd ⟨qb, by rw [e, qN_neg1 (by omega)]; exact id⟩ q)
    obtain rfl := qN_inj (e.symm.trans e') (by omega) (by omega)
    exact ⟨fun _ => ⟨A, X, frc (asU A (sR0 A j)) (asL A (sR0 A j)), hV, (show (2 : Nat) ≤ 10 by decide), h1.fm f2, h2⟩, fun q => q rfl⟩
  · refine m_weighs hV (hM.fc f1) (fun j qb e hj => absurd ⟨qb, by rw [e, qN_neg1 (by omega)]; exact id⟩ q) (fun _ μ2 h2 f2 => ?_)
    exact ⟨fun _ => ⟨A, X, W, hV, hW, h1.fm f2, h2⟩, fun q => q rfl⟩
