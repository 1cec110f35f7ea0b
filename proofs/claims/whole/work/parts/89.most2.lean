/-! most, told -/
theorem sub_le0 {a b : Nat} (ha : a < 1000) (hb : b < 1000) : qN a - qN b ≤ 0 ↔ a ≤ b := by
  rcases Nat.le_total b a with q | q
  · rw [qN_sub q, show (0 : Int32) = qN 0 from rfl, qN_le (by omega) (by decide)]
    omega
  · have e : qN a - qN b = qI ((a : Int) - b) := by
      rw [qN_iI, qN_iI]
      exact (Int32.ofInt_sub _ _).symm
    refine ⟨fun _ => q, fun _ => ?_⟩
    rw [e, Int32.le_iff_toInt_le]
    show (Int32.ofInt ((a : Int) - b)).toInt ≤ 0
    rw [Int32.toInt_ofInt_of_le (by show (-2147483648 : Int) ≤ _; omega) (by show _ < (2147483648 : Int); omega)]
    omega
theorem c_most {A X : Nat → Nat → Nat} {W : List Int64} {μ : MM} {Q : Int32 → MM → Prop} (hV : Inv A X) (h : Cs A X W μ)
    (hQ : ∀ t, t ≤ 96 → Mt (mf A) (A 358 8) t → 2 * lf (mf A) (A 358 8) t ≤ sm (mf A) (A 358 8) → ∀ μ', Cs A X (mW A) μ' → FC μ μ' → Q (qN t) μ') : G11_most μ Q := by
  have hH : A 358 8 < 25 := hV.b 358 8 (by unfold dom; decide)
  have b12 : A 358 12 < 97 := hV.b 358 12 (by unfold dom; decide)
  refine Lp.up (A 358 8) (fun i (x : Int32 × Int32 × Int32 × MM) => x.1 = qN (mhv A i) ∧ x.2.1 = qN (sm (mf A) i) ∧ x.2.2.1 = qN i ∧ Cs A X W x.2.2.2 ∧ FC μ x.2.2.2 ∧ ∀ j, j < i → gI x.2.2.2 197 j = qN (mf A j)) ?_ ⟨rfl, rfl, rfl, h, FC.rfl', fun j hj => absurd hj (by omega)⟩
  rintro i K hi hK ⟨x1, x2, x3, ν⟩ ⟨rfl, rfl, rfl, hC, hf, hg⟩
  have e8 := Ca_s8 hC.1
  have c1 : gI ν 1 8 ≤ qN i ↔ A 358 8 ≤ i := by
    rw [e8]; exact qN_le (by omega) (by omega)
  refine ⟨fun q => ?_, fun q => ?_⟩
  · rw [c1] at q
    have e : i = A 358 8 := by omega
    subst e
    exact c_most2 hV hC hf hg hQ
  · rw [c1] at q
    have hk := hK (by omega)
    have hi9 : i < 24 := by omega
    have m4 := mf_le hV i
    have sb := sm_mf hV i
    have cb : mhv A i ≤ i := cnt_le _ _
    have go : ∀ r : Int32, r = qN (mf A i) → vp_in (qN i) 24 ∧ Bd (sI ν 197 (qN i).toNatClampNeg r) fun μ26 => Bd (qN (sm (mf A) i) + r) fun y27 => ((r ≤ 0 → Bd (qN (mhv A i) + 0) fun y29 => K (y29, y27, (qN i + 1), μ26)) ∧ (¬ (r ≤ 0) → Bd (qN (mhv A i) + 1) fun y30 => K (y30, y27, (qN i + 1), μ26))) := fun r hr => by
      subst hr
      refine ⟨(qN_vp (by omega)).mpr hi9, ?_⟩
      have s1 : Sm cS ν (sI ν 197 i (qN (mf A i))) := Sm.rfl'.wI _ (k := 197) (j := i) (by unfold cS; omega)
      have fin : ∀ u : Nat, u = (decide (0 < mf A i)).toNat → K (qN (mhv A i + u), qN (sm (mf A) i + mf A i), qN (i + 1), sI ν 197 i (qN (mf A i))) := fun u hu => by
        subst hu
        refine hk _ ⟨rfl, rfl, rfl, hC.sm s1, hf.tr (FC_cS s1), fun j hj => ?_⟩
        rw [gI_I]
        by_cases q : j = i
        · subst q; rw [if_pos ⟨rfl, rfl⟩]
        · rw [if_neg (fun r => q r.2)]; exact hg j (by omega)
      have c3 : qN (mf A i) ≤ 0 ↔ mf A i ≤ 0 := qN_le (b := 0) (by omega) (by decide)
      rw [Bd_eq, Bd_eq, qN_nat (by omega), qN_add, show (qN i + 1 : Int32) = qN (i + 1) from qN_add i 1, Bd_eq, Bd_eq, c3]
      refine ⟨fun q => ?_, fun q => ?_⟩
      · have := fin 0 (by rw [decide_eq_false (by omega)]; rfl)
        rw [show qN (mhv A i) + 0 = qN (mhv A i + 0) from qN_add _ 0]
        exact this
      · have := fin 1 (by rw [decide_eq_true (by omega)]; rfl)
        rw [show qN (mhv A i) + 1 = qN (mhv A i + 1) from qN_add _ 1]
        exact this
    have t0 := tr_le A (sH A i) 0 (A 358 12)
    have t1 := tr_le A (sH A i) 1 (A 358 12)
    have t2 := tc_le A (sH A i) 0 (A 358 12)
    have t3 := tc_le A (sH A i) 1 (A 358 12)
    refine c_rungIn hV.b hV.rr hC.1 hi9 (p := 0) (by decide) ?_
    refine c_rungIn hV.b hV.rr hC.1 hi9 (p := 1) (by decide) ?_
    rw [Bd_eq]
    have em : mf A i = tr A (sH A i) 0 (A 358 12) - tr A (sH A i) 1 (A 358 12) := rfl
    have c4 := sub_le0 (a := tr A (sH A i) 0 (A 358 12)) (b := tr A (sH A i) 1 (A 358 12)) (by omega) (by omega)
    refine ⟨fun s => go 0 ?_, fun s => go _ ?_⟩
    · rw [c4] at s
      rw [em, show tr A (sH A i) 0 (A 358 12) - tr A (sH A i) 1 (A 358 12) = 0 by omega]; rfl
    · rw [c4] at s
      rw [em, qN_sub (by omega)]
theorem m_most2 {A X : Nat → Nat → Nat} {W : List Int64} {μ ν : MM} {Q : Int32 → MM → Prop} (hV : Inv A X) (h : Ms A X W ν) (f0 : FM μ ν) (hg : ∀ j, j < A 358 8 → gI ν 398 j = qN (mf A j))
    (hQ : ∀ t, t ≤ 96 → Mt (mf A) (A 358 8) t → 2 * lf (mf A) (A 358 8) t ≤ sm (mf A) (A 358 8) → ∀ μ', Ms A X (mW A) μ' → FM μ μ' → Q (qN t) μ') : Lp (G12_most_L91 (qN (sm (mf A) (A 358 8))) (qN (mhv A (A 358 8))) Q) (0, 0, ν) := by
  have hH : A 358 8 < 25 := hV.b 358 8 (by unfold dom; decide)
  have hS := sm_mf hV (A 358 8)
  have M3 := mn378 hV
  unfold mW at hQ
  have e8 : ∀ {μ' : MM}, Ms A X W μ' → gI μ' 358 8 = qN (A 358 8) := fun hh => Ma_s8 hh.1
  generalize mhv A (A 358 8) = hv at *
  generalize hf : mf A = f at *
  generalize A 358 8 = H at *
  have l0 : lf f H 0 = sm f H := rfl
  generalize hs : sm f H = S at *
  have f4 : ∀ h, f h ≤ 4 := fun h => by rw [← hf]; exact mf_le hV h
  refine Lp.up S (fun t (x : Int32 × Int32 × MM) => x.1 = qN t ∧ x.2.1 = qN (S - lf f H t) ∧ Ms A X W x.2.2 ∧ FM μ x.2.2 ∧ Mt f H t ∧ t + lf f H t ≤ S ∧ ∀ h, h < H → gI x.2.2 398 h = qN (ga f H t h) ∧ ga f H t h ≤ 4) ?_ ⟨rfl, by rw [l0, Nat.sub_self]; rfl, h, f0, fun _ q => absurd q (by omega), by omega, fun j hj => ⟨hg j hj, f4 j⟩⟩
  rintro t K ht hK ⟨x1, x2, ω⟩ ⟨rfl, rfl, hC, hF, hM, hb, hga⟩
  have c1 : qN S ≤ 2 * qN (S - lf f H t) ↔ S ≤ 2 * (S - lf f H t) := by
    rw [show (2 : Int32) = qN 2 from rfl, qN_mul]
    exact qN_le (by omega) (by omega)
  refine ⟨fun q => ?_, fun q => ?_⟩
  · rw [c1] at q
    refine m_rclear hC (fun μ1 h1 s1 => m_radd h1 (by simp) (fun μ2 h2 s2 => m_radd h2 (by simp) (fun μ3 h3 s3 => ?_)))
    exact hQ t (by omega) hM (by omega) μ3 h3 (((hF.tr (FM_row s1)).tr (FM_row s2)).tr (FM_row s3))
  · rw [c1] at q
    have q2 : S < 2 * lf f H t := by omega
    obtain ⟨hH0, hp⟩ := lf_p (f := f) (H := H) (t := t) (by omega)
    have hk := hK (by omega)
    have ls := lf_s (f := f) (H := H) (t := t) hH0
    refine Lp.up (H - 1) (fun k (x : Int32 × Int32 × MM) => x = (qN (am (ga f H t) k), qN (k + 1), ω)) ?_ rfl
    rintro k K2 hk' hK2 _ rfl
    have ak := am_le (ga f H t) k
    have c2 : gI ω 358 8 ≤ qN (k + 1) ↔ H ≤ k + 1 := by
      rw [e8 hC]; exact qN_le (by omega) (by omega)
    refine ⟨fun s => ?_, fun s => ?_⟩
    · rw [c2] at s
      have e : k = H - 1 := by omega
      subst e
      obtain ⟨g1, g2⟩ := hga (am (ga f H t) (H - 1)) (by omega)
      show vp_in (qN (am (ga f H t) (H - 1))) 24 ∧ Bd (qN (S - lf f H t) + gI ω 398 (qN (am (ga f H t) (H - 1))).toNatClampNeg) fun y29 => vp_in (qN (am (ga f H t) (H - 1))) 24 ∧ Bd (sI ω 398 (qN (am (ga f H t) (H - 1))).toNatClampNeg 0) fun μ31 => K ((qN t + qN 1), y29, μ31)
      rw [qN_nat (by omega), g1, qN_add, qN_add, Bd_eq, Bd_eq, show S - lf f H t + ga f H t (am (ga f H t) (H - 1)) = S - lf f H (t + 1) by omega]
      refine ⟨(qN_vp (by omega)).mpr (by omega), (qN_vp (by omega)).mpr (by omega), ?_⟩
      have s1 : Sm mS ω (sI ω 398 (am (ga f H t) (H - 1)) 0) := Sm.rfl'.wI _ (by unfold mS; omega)
      refine hk _ ⟨rfl, rfl, hC.sm M3 s1, hF.tr (FM_mS s1), Mt_s hM (by omega), by omega, fun j hj => ?_⟩
      have e2 : ga f H (t + 1) j = if j = am (ga f H t) (H - 1) then 0 else ga f H t j := rfl
      rw [gI_I, e2]
      by_cases r : j = am (ga f H t) (H - 1)
      · rw [if_pos ⟨rfl, r⟩, if_pos r]
        exact ⟨rfl, by decide⟩
      · rw [if_neg (fun w => r w.2), if_neg r]
        exact hga j hj
    · rw [c2] at s
      have hk2 := hK2 (by omega)
      obtain ⟨g1, g2⟩ := hga (k + 1) (by omega)
      obtain ⟨g3, g4⟩ := hga (am (ga f H t) k) (by omega)
      have ea : am (ga f H t) (k + 1) = if ga f H t (am (ga f H t) k) < ga f H t (k + 1) then k + 1 else am (ga f H t) k := rfl
      show vp_in (qN (k + 1)) 24 ∧ vp_in (qN (am (ga f H t) k)) 24 ∧ ((gI ω 398 (qN (k + 1)).toNatClampNeg ≤ gI ω 398 (qN (am (ga f H t) k)).toNatClampNeg → K2 (qN (am (ga f H t) k), qN (k + 1) + qN 1, ω)) ∧ (¬ (gI ω 398 (qN (k + 1)).toNatClampNeg ≤ gI ω 398 (qN (am (ga f H t) k)).toNatClampNeg) → K2 (qN (k + 1), qN (k + 1) + qN 1, ω)))
      rw [qN_nat (by omega), qN_nat (by omega), g1, g3, qN_add, qN_le (by omega) (by omega)]
      refine ⟨(qN_vp (by omega)).mpr (by omega), (qN_vp (by omega)).mpr (by omega), fun r => hk2 _ ?_, fun r => hk2 _ ?_⟩
      · rw [ea, if_neg (by omega)]
      · rw [ea, if_pos (by omega)]
theorem m_most {A X : Nat → Nat → Nat} {W : List Int64} {μ : MM} {Q : Int32 → MM → Prop} (hV : Inv A X) (h : Ms A X W μ)
    (hQ : ∀ t, t ≤ 96 → Mt (mf A) (A 358 8) t → 2 * lf (mf A) (A 358 8) t ≤ sm (mf A) (A 358 8) → ∀ μ', Ms A X (mW A) μ' → FM μ μ' → Q (qN t) μ') : G12_most μ Q := by
  have hH : A 358 8 < 25 := hV.b 358 8 (by unfold dom; decide)
  have b12 : A 358 12 < 97 := hV.b 358 12 (by unfold dom; decide)
  unfold G12_most
  rw [Bd_eq]
  have h0 := m_thr h 0
  have f0 := fm_thr μ 0
  revert h0 f0
  generalize sI μ 358 0 0 = μ0
  intro h0 f0
  refine Lp.up (A 358 8) (fun i (x : Int32 × Int32 × Int32 × MM) => x.1 = qN (sm (mf A) i) ∧ x.2.1 = qN (mhv A i) ∧ x.2.2.1 = qN i ∧ Ms A X W x.2.2.2 ∧ FM μ x.2.2.2 ∧ ∀ j, j < i → gI x.2.2.2 398 j = qN (mf A j)) ?_ ⟨rfl, rfl, rfl, h0, f0, fun j hj => absurd hj (by omega)⟩
  rintro i K hi hK ⟨x1, x2, x3, ν⟩ ⟨rfl, rfl, rfl, hC, hf, hg⟩
  have c1 : gI ν 358 8 ≤ qN i ↔ A 358 8 ≤ i := by
    rw [Ma_s8 hC.1]; exact qN_le (by omega) (by omega)
  refine ⟨fun q => ?_, fun q => ?_⟩
  · rw [c1] at q
    have e : i = A 358 8 := by omega
    subst e
    exact m_most2 hV hC hf hg hQ
  · rw [c1] at q
    have hk := hK (by omega)
    have hi9 : i < 24 := by omega
    have m4 := mf_le hV i
    have sb := sm_mf hV i
    have cb : mhv A i ≤ i := cnt_le _ _
    have t0 := tr_le A (sH A i) 0 (A 358 12)
    have t1 := tr_le A (sH A i) 1 (A 358 12)
    have t2 := tc_le A (sH A i) 0 (A 358 12)
    have t3 := tc_le A (sH A i) 1 (A 358 12)
    refine m_countsHouse hV hC hi9 (fun ν1 h1 f1 hT => ?_)
    have g0 : gI ν1 391 0 = qN (tr A (sH A i) 0 (A 358 12)) := (hT 0 (by decide)).2
    have g1 : gI ν1 391 1 = qN (tr A (sH A i) 1 (A 358 12)) := (hT 1 (by decide)).2
    have em : mf A i = tr A (sH A i) 0 (A 358 12) - tr A (sH A i) 1 (A 358 12) := rfl
    have c4 := sub_le0 (a := tr A (sH A i) 0 (A 358 12)) (b := tr A (sH A i) 1 (A 358 12)) (by omega) (by omega)
    have ev : (if 0 < (gI ν1 391 0) - (gI ν1 391 1) then (gI ν1 391 0) - (gI ν1 391 1) else 0) = qN (mf A i) := by
      rw [g0, g1]
      by_cases r : tr A (sH A i) 0 (A 358 12) ≤ tr A (sH A i) 1 (A 358 12)
      · have := c4.mpr r
        rw [if_neg (Int32.not_lt.mpr this), em, show tr A (sH A i) 0 (A 358 12) - tr A (sH A i) 1 (A 358 12) = 0 by omega]; rfl
      · rw [if_pos (Int32.not_le.mp (fun w => r (c4.mp w))), em, qN_sub (by omega)]
    show vp_in (qN i) 24 ∧ Bd (sI ν1 398 (qN i).toNatClampNeg _) fun μ38 => vp_in (qN i) 24 ∧ Bd (qN (sm (mf A) i) + gI μ38 398 (qN i).toNatClampNeg) fun y40 => vp_in (qN i) 24 ∧ ((gI μ38 398 (qN i).toNatClampNeg ≤ 0 → G12_most_J74 y40 (qN i) 0 (qN (mhv A i)) μ38 K Q) ∧ (¬ (gI μ38 398 (qN i).toNatClampNeg ≤ 0) → G12_most_J74 y40 (qN i) 1 (qN (mhv A i)) μ38 K Q))
    rw [ev, Bd_eq, qN_nat (by omega), Bd_eq]
    have s1 : Sm mS ν1 (sI ν1 398 i (qN (mf A i))) := Sm.rfl'.wI _ (k := 398) (j := i) (by unfold mS; omega)
    have f1' : Sm mS ν ν1 := f1.mo (fun k j q => show mS k j by unfold mS; omega)
    have e1 : gI (sI ν1 398 i (qN (mf A i))) 398 i = qN (mf A i) := by rw [gI_I, if_pos ⟨rfl, rfl⟩]
    have fin : ∀ u : Nat, u = (decide (0 < mf A i)).toNat → K (qN (sm (mf A) i + mf A i), qN (mhv A i + u), qN (i + 1), sI ν1 398 i (qN (mf A i))) := fun u hu => by
      subst hu
      refine hk _ ⟨rfl, rfl, rfl, h1.sm (mn378 hV) s1, (hf.tr (FM_mS f1')).tr (FM_mS s1), fun j hj => ?_⟩
      rw [gI_I]
      by_cases q : j = i
      · subst q; rw [if_pos ⟨rfl, rfl⟩]
      · rw [if_neg (fun r => q r.2), (f1.1 398 j (by omega)).1]; exact hg j (by omega)
    have c3 : qN (mf A i) ≤ 0 ↔ mf A i ≤ 0 := qN_le (b := 0) (by omega) (by decide)
    have vp : vp_in (qN i) 24 := (qN_vp (by omega)).mpr hi9
    have jj : ∀ u : Nat, u < 2 → u = (decide (0 < mf A i)).toNat → G12_most_J74 (qN (sm (mf A) i + mf A i)) (qN i) (qN u) (qN (mhv A i)) (sI ν1 398 i (qN (mf A i))) K Q := fun u hu e => by
      unfold G12_most_J74
      rw [flag_q hu, Bd_eq, qN_add, show (qN i + 1 : Int32) = qN (i + 1) from qN_add i 1]
      exact fin u e
    rw [e1, qN_add, c3]
    exact ⟨vp, vp, vp, fun s => jj 0 (by decide) (by rw [decide_eq_false (by omega)]; rfl), fun s => jj 1 (by decide) (by rw [decide_eq_true (by omega)]; rfl)⟩
theorem op_31 (v1 v2 v3 v4 v5 : Int32) (μ : MM) : Rel μ → Glaw_31 v1 v2 v3 v4 v5 μ Rel := by
  rintro ⟨A, X, W, hV, hW, hC, hM⟩
  refine c_most hV hC (fun t ht m1 m2 μ1 h1 f1 => ?_)
  refine m_most hV (hM.fc f1) (fun t' ht' m1' m2' μ2 h2 f2 => ?_)
  obtain rfl := Mt_u m1 m2 m1' m2'
  exact ⟨fun _ => ⟨A, X, mW A, hV, show 2 ≤ 10 by decide, h1.fm f2, h2⟩, fun q => q rfl⟩
