/-! odds: the class -/
theorem c_chs {n k j : Nat} (hn : n < 5) (hk : k < 17) (hj : j < 17) {μ : MM} {Q : Int64 → MM → Prop} (hQ : Q (qL (cz n k j)) μ) : G11_choices (qN n) (qN k - qN j) μ Q := by
  unfold cz at hQ
  by_cases q : j ≤ k
  · rw [if_pos q] at hQ
    rw [qN_sub q]
    by_cases q2 : k - j ≤ n
    · exact c_choices (by omega) q2 hQ
    · refine ⟨fun r => absurd ((qN_neg (by omega)).mp r) id, fun _ => ⟨fun r => absurd ((qN_le (by omega) (by omega)).mp r) q2, fun _ => ?_⟩⟩
      rw [bin_0 n hn _ (by omega)] at hQ
      exact hQ
  · rw [if_neg q] at hQ
    refine ⟨fun _ => hQ, fun r => absurd ?_ r⟩
    rw [Int32.lt_iff_toInt_lt, q_sub (by rw [qN_t (by omega), qN_t (by omega)]; omega) (by rw [qN_t (by omega), qN_t (by omega)]; omega), qN_t (by omega), qN_t (by omega), Int32.toInt_zero]
    omega
theorem c_chs0 {n k : Nat} (hn : n < 5) (hk : k < 17) {μ : MM} {Q : Int64 → MM → Prop} (hQ : Q (qL (bin n k)) μ) : G11_choices (qN n) (qN k) μ Q := by
  by_cases q2 : k ≤ n
  · exact c_choices (by omega) q2 hQ
  · refine ⟨fun r => absurd ((qN_neg (by omega)).mp r) id, fun _ => ⟨fun r => absurd ((qN_le (by omega) (by omega)).mp r) q2, fun _ => ?_⟩⟩
    rw [bin_0 n hn _ (by omega)] at hQ
    exact hQ
theorem m_chs {n k j : Nat} (hn : n < 5) (hk : k < 17) (hj : j < 17) {μ : MM} {Q : Int64 → MM → Prop} (hQ : Q (qL (cz n k j)) μ) : G12_choices (qN n) (qN k - qN j) μ Q := by
  unfold cz at hQ
  by_cases q : j ≤ k
  · rw [if_pos q] at hQ
    rw [qN_sub q]
    by_cases q2 : k - j ≤ n
    · exact m_choices (by omega) q2 hQ
    · refine ⟨fun r => absurd ((qN_neg (by omega)).mp r) id, fun _ => ⟨fun r => absurd ((qN_le (by omega) (by omega)).mp r) q2, fun _ => ?_⟩⟩
      rw [bin_0 n hn _ (by omega)] at hQ
      exact hQ
  · rw [if_neg q] at hQ
    refine ⟨fun _ => hQ, fun r => absurd ?_ r⟩
    rw [Int32.lt_iff_toInt_lt, q_sub (by rw [qN_t (by omega), qN_t (by omega)]; omega) (by rw [qN_t (by omega), qN_t (by omega)]; omega), qN_t (by omega), qN_t (by omega), Int32.toInt_zero]
    omega
theorem m_chs0 {n k : Nat} (hn : n < 5) (hk : k < 17) {μ : MM} {Q : Int64 → MM → Prop} (hQ : Q (qL (bin n k)) μ) : G12_choices (qN n) (qN k) μ Q := by
  by_cases q2 : k ≤ n
  · exact m_choices (by omega) q2 hQ
  · refine ⟨fun r => absurd ((qN_neg (by omega)).mp r) id, fun _ => ⟨fun r => absurd ((qN_le (by omega) (by omega)).mp r) q2, fun _ => ?_⟩⟩
    rw [bin_0 n hn _ (by omega)] at hQ
    exact hQ
theorem sm_tail {f : Nat → Nat} {a : Nat} : ∀ b, a ≤ b → (∀ j, a ≤ j → j < b → f j = 0) → sm f b = sm f a
  | 0, h, _ => by rw [show a = 0 by omega]
  | b + 1, h, z => by
    rcases Nat.lt_or_ge a (b + 1) with q | q
    · show sm f b + f b = _
      rw [z b (by omega) (by omega), Nat.add_zero]
      exact sm_tail b (by omega) (fun j h1 h2 => z j h1 (by omega))
    · rw [show a = b + 1 by omega]
theorem wyj_end {g : Nat → Nat} {a r o k n : Nat} (hr : r < 5) (hn : n ≤ 5) (h : r < n ∨ k < n) : wyj g a r o k n = wyj g a r o k 5 := by
  refine (sm_tail 5 hn (fun j h1 h2 => ?_)).symm
  rcases h with h | h
  · split
    · unfold owc
      rw [bin_0 r hr j (by omega), Nat.zero_mul, Nat.mul_zero]
    · rfl
  · rw [if_neg (by omega)]
theorem c_joinWays {A X : Nat → Nat → Nat} {v : Int32} {h : Nat} {μ : MM} {Q : MM → Prop} (hV : Inv A X) (hh : h < 24) (T : Tl μ 157 A (gSel A X v (qN h)) (A 358 12)) (g : ∀ k, k < 97 → gJ μ 163 k = qL (wy A X v h k))
    (hQ : ∀ μ', Sm (fun k _ => k = 163) μ μ' → (∀ k, k < 97 → gJ μ' 163 k = qL (wy A X v (h + 1) k)) → Q μ') : G8_joinWaysOfPart μ Q := by
  have a4 := oa_b hV v hh
  have r4 := og_b A X v h
  have o4 := oo_b A X v h
  have t0 := T 0 (by decide)
  have t1 := T 1 (by decide)
  have c0 : gI μ 158 0 = qN (tc A (gSel A X v (qN h)) 0 (A 358 12)) := t0.1
  have c1 : gI μ 158 1 = qN (oo A X v h) := t1.1
  have d0 : gI μ 159 0 = qN (tr A (gSel A X v (qN h)) 0 (A 358 12)) := t0.2
  have d1 : gI μ 159 1 = qN (tr A (gSel A X v (qN h)) 1 (A 358 12)) := t1.2
  have e1 : gI μ 159 0 + gI μ 159 1 = qN (og A X v h) := by rw [d0, d1, qN_add]; rfl
  have e2 : gI μ 158 0 + gI μ 158 1 - qN (og A X v h) = qN (oa A X v h - og A X v h) := by rw [c0, c1, qN_add]; exact qN_sub r4
  show Bd (gI μ 159 0 + gI μ 159 1) fun y16 => Bd (gI μ 158 0 + gI μ 158 1 - y16) fun y19 => Lp (G8_joinWaysOfPart_L33 y16 y19 Q) (96, μ)
  rw [e1, Bd_eq, e2, Bd_eq]
  refine Lp.up 97 (fun i (x : Int32 × MM) => x.1 = (if i = 97 then -1 else qN (96 - i)) ∧ Sm (fun k _ => k = 163) μ x.2 ∧ ∀ k, k < 97 → gJ x.2 163 k = qL (if k + i < 97 then wy A X v h k else wy A X v (h + 1) k)) ?_ ⟨rfl, Sm.rfl', fun k hk => by rw [if_pos (by omega)]; exact g k hk⟩
  rintro i K hi hK ⟨x1, ν⟩ ⟨hx, hs, hg⟩
  simp only at hx hs hg
  subst hx
  rcases Nat.lt_or_ge i 97 with hl | hl
  · have hk := hK hl
    rw [if_neg (by omega)]
    refine ⟨fun r => absurd ((qN_neg (by omega)).mp r) id, fun _ => ?_⟩
    have dec : qN (96 - i) + (-1) = (if i + 1 = 97 then -1 else qN (96 - (i + 1))) := by
      by_cases q : i + 1 = 97
      · rw [if_pos q, show 96 - i = 0 by omega]; decide
      · rw [if_neg q, m1_sub (by omega)]; congr 1
    have f1 : gI ν 158 1 = qN (oo A X v h) := by rw [(hs.1 158 1 (by omega)).1]; exact c1
    have fin : ∀ s, s = wy A X v (h + 1) (96 - i) → vp_in (qN (96 - i)) 97 ∧ Bd (sJ ν 163 (qN (96 - i)).toNatClampNeg (qL s)) fun μ23 => K (qN (96 - i) + (-1), μ23) := fun s es => by
      rw [qN_vp (by omega), qN_nat (by omega), Bd_eq, dec]
      refine ⟨by omega, hk _ ⟨rfl, hs.wJ _ rfl, fun k hk9 => ?_⟩⟩
      show gJ (sJ ν 163 (96 - i) (qL s)) 163 k = _
      rw [gJ_J]
      by_cases q : k = 96 - i
      · rw [if_pos ⟨rfl, q⟩, if_neg (by omega), es, q]
      · rw [if_neg (fun r => q r.2), hg k hk9]
        by_cases q2 : k + i < 97
        · rw [if_pos q2, if_pos (by omega)]
        · rw [if_neg q2, if_neg (by omega)]
    refine Lp.up (min (og A X v h) (96 - i) + 1) (fun j (y : Int64 × Int32 × MM) => y = (qL (wyj (wy A X v h) (oa A X v h) (og A X v h) (oo A X v h) (96 - i) j), qN j, ν)) ?_ rfl
    rintro j K2 hj hK2 _ rfl
    refine ⟨fun r => fin _ ?_, fun r => ⟨fun r2 => fin _ ?_, fun r2 => ?_⟩⟩
    · have := (qN_lt (by omega) (by omega)).mp r
      exact wyj_end (by omega) (by omega) (Or.inl this)
    · have := (qN_lt (by omega) (by omega)).mp r2
      exact wyj_end (by omega) (by omega) (Or.inr this)
    · have j1 : j ≤ og A X v h := by
        rcases Nat.lt_or_ge (og A X v h) j with s | s
        · exact absurd ((qN_lt (by omega) (by omega)).mpr s) r
        · exact s
      have j2 : j ≤ 96 - i := by
        rcases Nat.lt_or_ge (96 - i) j with s | s
        · exact absurd ((qN_lt (by omega) (by omega)).mpr s) r2
        · exact s
      have hk2 := hK2 (by omega) _ rfl
      show G11_choices (qN (og A X v h)) (qN j) ν (fun r28 μ27 => G11_choices (qN (oa A X v h - og A X v h)) ((gI μ27 158 1) - qN j) μ27 (fun r30 μ29 => Bd (r28 * r30) fun y31 => vp_in (qN (96 - i) - qN j) 97 ∧ Bd (qL (wyj (wy A X v h) (oa A X v h) (og A X v h) (oo A X v h) (96 - i) j) + ((gJ μ29 163 ((qN (96 - i) - qN j).toNatClampNeg)) * y31)) fun y33 => K2 (y33, (qN j + 1), μ29)))
      refine c_chs0 (by omega) (by omega) ?_
      rw [f1]
      refine c_chs (by omega) (by omega) (by omega) ?_
      rw [qN_sub j2, qN_vp (by omega), qN_nat (by omega), Bd_eq, hg _ (by omega), if_pos (by omega), qL_mul, qL_mul, qL_add, Bd_eq]
      refine ⟨by omega, ?_⟩
      have e3 : wyj (wy A X v h) (oa A X v h) (og A X v h) (oo A X v h) (96 - i) (j + 1) = wyj (wy A X v h) (oa A X v h) (og A X v h) (oo A X v h) (96 - i) j + wy A X v h (96 - i - j) * (bin (og A X v h) j * cz (oa A X v h - og A X v h) (oo A X v h) j) := by
        show wyj _ _ _ _ _ j + (if j ≤ 96 - i then _ else 0) = _
        rw [if_pos j2]
        rfl
      rw [e3] at hk2
      rw [show qN j + 1 = qN (j + 1) from qN_add j 1]
      exact hk2
  · rw [if_pos (by omega)]
    exact ⟨fun _ => hQ ν hs (fun k hk => by rw [hg k hk, if_neg (by omega)]), fun r => absurd (show (-1 : Int32) < 0 by decide) r⟩
theorem c_countWays {A X : Nat → Nat → Nat} {W : List Int64} {v : Int32} {μ : MM} {Q : MM → Prop} (hV : Inv A X) (hC : Cs A X W μ) (hv : tF A v)
    (hQ : ∀ μ', Cs A X W μ' → Sm cS μ μ' → (∀ k, k < 97 → gJ μ' 163 k = qL (wy A X v (A 358 8) k)) → Q μ') : G8_countWays v μ Q := by
  have hn : A 358 12 < 97 := hV.b 358 12 (by unfold dom; decide)
  have hH : A 358 8 < 25 := hV.b 358 8 (by unfold dom; decide)
  have cS163 : ∀ ν ν' : MM, Sm (fun k _ => k = 163) ν ν' → Sm cS ν ν' := fun ν ν' s => s.mo (fun k j q => by unfold cS; omega)
  refine Lp.up 97 (fun i (x : Int32 × MM) => x.1 = qN i ∧ Sm (fun k _ => k = 163) μ x.2 ∧ ∀ k, k < i → gJ x.2 163 k = qL (wy A X v 0 k)) ?_ ⟨rfl, Sm.rfl', fun k hk => absurd hk (by omega)⟩
  rintro i K hi hK ⟨x1, ν⟩ ⟨rfl, hs, hg⟩
  simp only at hs hg
  have c1 : (96 : Int32) < qN i ↔ 96 < i := qN_lt (a := 96) (by decide) (by omega)
  have c2 : qN i = 0 ↔ i = 0 := qN_eq (b := 0) (by omega) (by decide)
  refine ⟨fun q => ?_, fun q => ?_⟩
  · have e : i = 97 := by have := c1.mp q; omega
    subst e
    clear hK K
    have hC1 := hC.sm (cS163 _ _ hs)
    refine Lp.up (A 358 8) (fun h (x : Int32 × MM) => x.1 = qN h ∧ Cs A X W x.2 ∧ Sm cS μ x.2 ∧ ∀ k, k < 97 → gJ x.2 163 k = qL (wy A X v h k)) ?_ ⟨rfl, hC1, cS163 _ _ hs, hg⟩
    clear hC1 hs hg q c1 c2 hi
    rintro h K hh hK ⟨x1, ω⟩ ⟨rfl, hD, hs, hg⟩
    simp only at hD hs hg
    have c1 : qN (A 358 8) ≤ qN h ↔ A 358 8 ≤ h := qN_le (by omega) (by omega)
    show ((gI ω 1 8 ≤ qN h → Q ω) ∧ (¬ (gI ω 1 8 ≤ qN h) → G8_gather 157 v (qN h) ω (fun μ11 => ((gI μ11 158 0 + gI μ11 158 1 ≤ 0 → K (qN h + 1, μ11)) ∧ (¬ (gI μ11 158 0 + gI μ11 158 1 ≤ 0) → G8_joinWaysOfPart μ11 (fun μ15 => K (qN h + 1, μ15)))))))
    rw [Ca_s8 hD.1, c1]
    refine ⟨fun q => ?_, fun q => ?_⟩
    · have e : h = A 358 8 := by omega
      subst e
      exact hQ ω hD hs hg
    · have hl : h < A 358 8 := by omega
      have hk := hK hl
      have ov : qN h + 1 = qN (h + 1) := qN_add h 1
      refine c_gather hV hD hv (t := 157) (by decide) (by decide) (fun μ1 h1 f1 hT => ?_)
      have gc : Sm cS ω μ1 := f1.mo (fun k j q => by
        rcases q with q | q | q
        · exact pS_c q
        · unfold cS; omega
        · unfold cS; omega)
      have g1 : ∀ k, k < 97 → gJ μ1 163 k = qL (wy A X v h k) := fun k hk => by
        rw [(f1.1 163 k (by unfold gS pS; omega)).2]; exact hg k hk
      have t0 := (hT 0 (by decide)).1
      have t1 := (hT 1 (by decide)).1
      have te : gI μ1 158 0 + gI μ1 158 1 = qN (oa A X v h) := by
        show gI μ1 (157 + 1) 0 + gI μ1 (157 + 1) 1 = _
        rw [t0, t1, qN_add]; rfl
      have a4 := oa_b hV v (h := h) (by omega)
      have z5 : qN (oa A X v h) ≤ 0 ↔ oa A X v h ≤ 0 := qN_le (b := 0) (by omega) (by decide)
      rw [te, z5, ov]
      refine ⟨fun r => hk _ ⟨rfl, h1, hs.tr gc, fun k hk => ?_⟩, fun r => ?_⟩
      · rw [wy_skip A X v (by omega) k]; exact g1 k hk
      · refine c_joinWays hV (by omega) hT g1 (fun μ2 f2 g2 => hk _ ⟨rfl, h1.sm (cS163 _ _ f2), (hs.tr gc).tr (cS163 _ _ f2), g2⟩)
  · have hl : i < 97 := by
      rcases Nat.lt_or_ge i 97 with s | s
      · exact s
      · exact absurd (c1.mpr (by omega)) q
    have hk := hK hl
    have ov : qN i + 1 = qN (i + 1) := qN_add i 1
    have put : ∀ s, s = wy A X v 0 i → vp_in (qN i) 97 ∧ Bd (sJ ν 163 (qN i).toNatClampNeg (qL s)) fun μ18 => K (qN i + 1, μ18) := fun s es => by
      rw [qN_vp (by omega), qN_nat (by omega), Bd_eq, ov]
      refine ⟨hl, hk _ ⟨rfl, hs.wJ _ rfl, fun k hk9 => ?_⟩⟩
      show gJ (sJ ν 163 i (qL s)) 163 k = _
      rw [gJ_J]
      by_cases q2 : k = i
      · rw [if_pos ⟨rfl, q2⟩, es, q2]
      · rw [if_neg (fun r => q2 r.2)]; exact hg k (by omega)
    rw [c2]
    exact ⟨fun r => put 0 (by show 0 = if i = 0 then 1 else 0; rw [if_neg r]), fun r => put 1 (by show 1 = if i = 0 then 1 else 0; rw [if_pos r])⟩
