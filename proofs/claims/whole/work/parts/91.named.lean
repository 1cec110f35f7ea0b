/-! named -/
def nbP (A : Nat → Nat → Nat) (bits : Int32) (line h : Nat) : Prop := nam A h ∧ line ≤ slk A bits h 4
noncomputable def nbS (A : Nat → Nat → Nat) (bits : Int32) (line h : Nat) : Bool := @decide (nbP A bits line h) (Classical.propDecidable _)
theorem nbS_t {A : Nat → Nat → Nat} {bits : Int32} {line h : Nat} (q : nbP A bits line h) : nbS A bits line h = true := @decide_eq_true _ (Classical.propDecidable _) q
theorem nbS_f {A : Nat → Nat → Nat} {bits : Int32} {line h : Nat} (q : ¬ nbP A bits line h) : nbS A bits line h = false := @decide_eq_false _ (Classical.propDecidable _) q
noncomputable def nwy (A : Nat → Nat → Nat) (bits : Int32) (line : Nat) (n : Nat) : Nat := sm (fun h => @ite Nat (nam A h ∧ ¬ line ≤ slk A bits h 4) (Classical.propDecidable _) (slk A bits h 4) 0) n
theorem nwy_y {A : Nat → Nat → Nat} {bits : Int32} {line n : Nat} (h : nam A n ∧ ¬ line ≤ slk A bits n 4) : nwy A bits line (n + 1) = nwy A bits line n + slk A bits n 4 := congrArg (nwy A bits line n + ·) (if_pos h)
theorem nwy_n {A : Nat → Nat → Nat} {bits : Int32} {line n : Nat} (h : ¬ (nam A n ∧ ¬ line ≤ slk A bits n 4)) : nwy A bits line (n + 1) = nwy A bits line n := congrArg (nwy A bits line n + ·) (if_neg h)
noncomputable def ncn (A : Nat → Nat → Nat) (bits : Int32) (line n : Nat) : Nat := cnt (nbS A bits line) n
noncomputable def nbn (A : Nat → Nat → Nat) (bits : Int32) (line n : Nat) : Nat := bnb (nbS A bits line) n
theorem ncn_y {A : Nat → Nat → Nat} {bits : Int32} {line n : Nat} (h : nbP A bits line n) : ncn A bits line (n + 1) = ncn A bits line n + 1 ∧ nbn A bits line (n + 1) = nbn A bits line n + 2 ^ n := by
  refine ⟨?_, ?_⟩
  · show _ + (nbS A bits line n).toNat = _
    rw [nbS_t h]; rfl
  · show _ + (if nbS A bits line n then 2 ^ n else 0) = _
    rw [nbS_t h]; rfl
theorem ncn_n {A : Nat → Nat → Nat} {bits : Int32} {line n : Nat} (h : ¬ nbP A bits line n) : ncn A bits line (n + 1) = ncn A bits line n ∧ nbn A bits line (n + 1) = nbn A bits line n := by
  refine ⟨?_, ?_⟩
  · show _ + (nbS A bits line n).toNat = _
    rw [nbS_f h]; rfl
  · show _ + (if nbS A bits line n then 2 ^ n else 0) = _
    rw [nbS_f h]; rfl
noncomputable def nW (A : Nat → Nat → Nat) (bits : Int32) (line : Nat) : List Int64 := (([] ++ [(qN (nbn A bits line (A 358 8))).toInt64]) ++ [qL (wny A bits line (A 358 8))]) ++ [qL (nwy A bits line (A 358 8))]
theorem c_named {A X : Nat → Nat → Nat} {W : List Int64} {μ : MM} {v1 v2 : Int32} {Q : Int32 → MM → Prop} (hV : Inv A X) (h : Cs A X W μ)
    (hy : ∀ b w, 1 ≤ b → b ≤ 15 → w ≤ 1000000 → v1 = qN b → v2 = qN w → ∀ μ', Cs A X (nW A v1 w) μ' → FC μ μ' → Q (qN (ncn A v1 w (A 358 8))) μ') (hn : ¬ ((∃ k, 1 ≤ k ∧ k ≤ 15 ∧ v1 = qN k) ∧ inr v2 1000001) → Q (-1) μ) : G11_named v1 v2 μ Q := by
  have hH : A 358 8 < 25 := hV.b 358 8 (by unfold dom; decide)
  unfold G11_named G4_tellNamed
  refine within1_s 15 rfl (by decide) (fun q1 => ⟨fun r => absurd r (by decide), fun _ => ?_⟩) (fun q1 => ⟨fun _ => hn (fun r => q1 r.1), fun r => absurd rfl r⟩)
  refine within0_s 1000000 rfl (by decide) (fun q2 => ⟨fun _ => ?_, fun r => absurd r (by decide)⟩) (fun q2 => ⟨fun r => absurd rfl r, fun _ => hn (fun r => q2 r.2)⟩)
  obtain ⟨b, hb1, hb2, e1⟩ := q1
  obtain ⟨w, hw, rfl⟩ := q2
  have hy' := hy b w hb1 hb2 (by omega) e1 rfl
  refine c_fillSums hV h (fun μ1 h1 f1 hg => ?_)
  refine Lp.upE (A 358 8) (fun i => (qN (ncn A v1 w i), qN (nbn A v1 w i), qL (nwy A v1 w i), qN i, μ1)) ?_
  intro i K hi hK
  have c1 : gI μ1 1 8 ≤ qN i ↔ A 358 8 ≤ i := by
    rw [Ca_s8 h1.1]; exact qN_le (by omega) (by omega)
  refine ⟨fun q => ?_, fun q => ?_⟩
  · rw [c1] at q
    have e : i = A 358 8 := by omega
    subst e
    refine c_rclear h1 (fun μ2 h2 s2 => c_radd h2 (by simp) (fun μ3 h3 s3 => ?_))
    refine c_wrongly (bits := v1) hV h3 (by omega) (fun j hj => ?_) ?_
    · unfold sgl
      rw [(s3.1 197 j (by omega)).1, (s2.1 197 j (by omega)).1]
      exact hg j hj
    refine c_radd h3 (by simp) (fun μ4 h4 s4 => c_radd h4 (by simp) (fun μ5 h5 s5 => ?_))
    exact hy' μ5 h5 ((((f1.tr (FC_row s2)).tr (FC_row s3)).tr (FC_row s4)).tr (FC_row s5))
  · rw [c1] at q
    have hl : i < A 358 8 := by omega
    have hk := hK hl
    have hi9 : i < 24 := by omega
    have vp : vp_in (qN i) 24 := (qN_vp (by omega)).mpr hi9
    refine c_isNamed hi9 (by omega) (hg i hl) (fun p => ⟨fun r => absurd r (by decide), fun _ => ?_⟩) (fun p => ⟨fun _ => ⟨vp, ?_⟩, fun r => absurd rfl r⟩)
    · obtain ⟨y1, y2⟩ := ncn_y (A := A) (bits := v1) (line := w) (n := i) p
      rw [y1, y2, nwy_n (fun r => r.2 p.2)] at hk
      show Bd (qN (nbn A v1 w i) ||| ((1 : Int32) <<< (qN i &&& 31))) fun y39 => K (qN (ncn A v1 w i) + qN 1, y39, qL (nwy A v1 w i), qN i + qN 1, μ1)
      rw [Bd_eq]
      unfold nbn at hk ⊢
      rw [bnb_or hi9, qN_add, qN_add]
      exact hk
    · obtain ⟨y1, y2⟩ := ncn_n (A := A) (bits := v1) (line := w) (n := i) p
      rw [y1, y2] at hk
      show (gI μ1 197 (qN i).toNatClampNeg < 0 → K (qN (ncn A v1 w i), qN (nbn A v1 w i), qL (nwy A v1 w i), qN i + qN 1, μ1)) ∧ (¬ (gI μ1 197 (qN i).toNatClampNeg < 0) → vp_in (qN i) 24 ∧ Bd (qL (nwy A v1 w i) + (gI μ1 197 (qN i).toNatClampNeg).toInt64) fun y38 => K (qN (ncn A v1 w i), qN (nbn A v1 w i), y38, qN i + qN 1, μ1))
      rw [qN_nat (by omega), qN_add]
      by_cases nn : nam A i
      · have b2 := slk_nam (bits := v1) nn
        rw [(hg i hl).1 nn, qN_neg (by omega)]
        refine ⟨fun r => r.elim, fun _ => ⟨vp, ?_⟩⟩
        rw [nwy_y ⟨nn, fun r => p ⟨nn, r⟩⟩] at hk
        rw [Bd_eq, qN_6 (by omega), qL_add]
        exact hk
      · have lt := (hg i hl).2 nn
        rw [nwy_n (fun r => nn r.1)] at hk
        exact ⟨fun _ => hk, fun r => absurd lt r⟩
theorem m_named {A X : Nat → Nat → Nat} {W : List Int64} {μ : MM} {v1 v2 : Int32} {Q : Int32 → MM → Prop} (hV : Inv A X) (h : Ms A X W μ)
    (hy : ∀ b w, 1 ≤ b → b ≤ 15 → w ≤ 1000000 → v1 = qN b → v2 = qN w → ∀ μ', Ms A X (nW A v1 w) μ' → FM μ μ' → Q (qN (ncn A v1 w (A 358 8))) μ') (hn : ¬ ((∃ k, 1 ≤ k ∧ k ≤ 15 ∧ v1 = qN k) ∧ inr v2 1000001) → ∀ μ', Ms A X W μ' → FM μ μ' → Q (-1) μ') : G12_named v1 v2 μ Q := by
  have hH : A 358 8 < 25 := hV.b 358 8 (by unfold dom; decide)
  unfold G12_named
  rw [Bd_eq]
  have h0 := m_thr h 0
  have f0 := fm_thr μ 0
  revert h0 f0
  generalize sI μ 358 0 0 = μ0
  intro h0 f0
  refine in1_s 15 rfl (by decide) (fun q1 => ⟨fun r => absurd r (by decide), fun _ => ?_⟩) (fun q1 => ⟨fun _ => hn (fun r => q1 r.1) _ h0 f0, fun r => absurd rfl r⟩)
  refine in0_s 1000000 rfl (by decide) (fun q2 => ⟨fun _ => ?_, fun r => absurd r (by decide)⟩) (fun q2 => ⟨fun r => absurd rfl r, fun _ => hn (fun r => q2 r.2) _ h0 f0⟩)
  obtain ⟨b, hb1, hb2, e1⟩ := q1
  obtain ⟨w, hw, rfl⟩ := q2
  have hy' := hy b w hb1 hb2 (by omega) e1 rfl
  refine m_likelies hV h0 (fun μ1 h1 f1 hg => ?_)
  have fm := f0.tr f1
  refine Lp.upE (A 358 8) (fun i => (qN (nbn A v1 w i), qL (wny A v1 w i), qL (nwy A v1 w i), qN i, μ1)) ?_
  intro i K hi hK
  have c1 : gI μ1 358 8 ≤ qN i ↔ A 358 8 ≤ i := by
    rw [Ma_s8 h1.1]; exact qN_le (by omega) (by omega)
  refine ⟨fun q => ?_, fun q => ?_⟩
  · rw [c1] at q
    have e : i = A 358 8 := by omega
    subst e
    refine m_rclear h1 (fun μ2 h2 s2 => m_radd h2 (by simp) (fun μ3 h3 s3 => m_radd h3 (by simp) (fun μ4 h4 s4 => m_radd h4 (by simp) (fun μ5 h5 s5 => ?_))))
    exact bnb_c (by omega) (hy' μ5 h5 ((((fm.tr (FM_row s2)).tr (FM_row s3)).tr (FM_row s4)).tr (FM_row s5)))
  · rw [c1] at q
    have hl : i < A 358 8 := by omega
    have hk := hK hl
    have hi9 : i < 24 := by omega
    have vp : vp_in (qN i) 24 := (qN_vp (by omega)).mpr hi9
    refine ⟨vp, ?_⟩
    show ((0 : Int32) ≤ lg_cmp (gJ μ1 397 (qN i).toNatClampNeg) 0 → vp_in (qN i) 24 ∧ ((lg_cmp (gJ μ1 397 (qN i).toNatClampNeg) (qN w).toInt64 < 0 → G12_named_J89 (qN w) (qN (nbn A v1 w i)) (qL (wny A v1 w i)) (qL (nwy A v1 w i)) (qN i) 0 μ1 K Q) ∧ (¬ (lg_cmp (gJ μ1 397 (qN i).toNatClampNeg) (qN w).toInt64 < 0) → G12_named_J89 (qN w) (qN (nbn A v1 w i)) (qL (wny A v1 w i)) (qL (nwy A v1 w i)) (qN i) 1 μ1 K Q))) ∧ (¬ ((0 : Int32) ≤ lg_cmp (gJ μ1 397 (qN i).toNatClampNeg) 0) → K (qN (nbn A v1 w i), qL (wny A v1 w i), qL (nwy A v1 w i), qN i + qN 1, μ1))
    rw [qN_nat (by omega), qN_add, lg_ge, lg_lt, qN_6 (by omega)]
    by_cases nn : nam A i
    · have b2 := slk_nam (bits := v1) nn
      have e9 := (hg i hl).1 nn
      have n0 : ¬ (qL (slk A v1 i 4) < 0) := by
        rw [show (0 : Int64) = qL 0 from rfl, qL_lt (by omega) (by decide)]; omega
      rw [e9, qL_lt (by omega) (by omega)]
      refine ⟨fun _ => ⟨vp, fun p => ?_, fun p => ?_⟩, fun r => absurd n0 r⟩
      · have p' : ¬ nbP A v1 w i := fun r => by have := r.2; omega
        obtain ⟨y1, y2⟩ := ncn_n (A := A) (bits := v1) (line := w) (n := i) p'
        rw [y2, wny_n p', nwy_y ⟨nn, fun r => p' ⟨nn, r⟩⟩] at hk
        refine ⟨fun _ => ?_, fun r => absurd rfl r⟩
        unfold G12_named_J105
        rw [Bd_eq, show qN (nbn A v1 w i) ||| (0 : Int32) = qN (nbn A v1 w i) from Int32.or_zero]
        refine ⟨fun _ => ?_, fun r => absurd rfl r⟩
        unfold G12_named_J129
        rw [Bd_eq]
        refine ⟨fun _ => ⟨vp, ?_⟩, fun r => absurd rfl r⟩
        unfold G12_named_J150
        rw [Bd_eq, qN_nat (by omega), e9, qL_add, show qL (wny A v1 w i) + 0 = qL (wny A v1 w i + 0) from qL_add _ 0, show (qN i + 1 : Int32) = qN (i + 1) from qN_add i 1]
        exact hk
      · have p' : nbP A v1 w i := ⟨nn, by omega⟩
        obtain ⟨y1, y2⟩ := ncn_y (A := A) (bits := v1) (line := w) (n := i) p'
        rw [y2, wny_y p', nwy_n (fun r => r.2 p'.2)] at hk
        refine ⟨fun r => absurd r (by decide), fun _ => ?_⟩
        unfold G12_named_J105
        unfold nbn at hk ⊢
        rw [Bd_eq, bnb_or hi9]
        refine ⟨fun r => absurd r (by decide), fun _ => ⟨vp, ?_⟩⟩
        unfold G12_named_J129
        rw [Bd_eq]
        refine ⟨fun r => absurd r (by decide), fun _ => ?_⟩
        unfold G12_named_J150
        rw [Bd_eq, qN_nat (by omega), e9, show (1000000 : Int64) = qL 1000000 from rfl, qL_sub b2, qL_add, show qL (nwy A v1 w i) + 0 = qL (nwy A v1 w i + 0) from qL_add _ 0, show (qN i + 1 : Int32) = qN (i + 1) from qN_add i 1]
        exact hk
    · have e9 := (hg i hl).2 nn
      have p' : ¬ nbP A v1 w i := fun r => nn r.1
      obtain ⟨y1, y2⟩ := ncn_n (A := A) (bits := v1) (line := w) (n := i) p'
      rw [y2, wny_n p', nwy_n (fun r => nn r.1)] at hk
      rw [e9]
      exact ⟨fun r => absurd (show (-1 : Int64) < 0 by decide) r, fun _ => hk⟩
theorem op_29 (v1 v2 v3 v4 v5 : Int32) (μ : MM) : Rel μ → Glaw_29 v1 v2 v3 v4 v5 μ Rel := by
  rintro ⟨A, X, W, hV, hW, hC, hM⟩
  refine c_named hV hC (fun b w hb1 hb2 hw e1 e2 μ1 h1 f1 => ?_) (fun q => ?_)
  · refine m_named hV (hM.fc f1) (fun b' w' hb1' hb2' hw' e1' e2' μ2 h2 f2 => ?_) (fun q => absurd ⟨⟨b, hb1, hb2, e1⟩, ⟨w, by omega, e2⟩⟩ q)
    obtain rfl := qN_inj (e2.symm.trans e2') (by omega) (by omega)
    exact ⟨fun _ => ⟨A, X, nW A v1 w, hV, show 3 ≤ 10 by decide, h1.fm f2, h2⟩, fun q => q rfl⟩
  · refine m_named hV hM (fun b' w' hb1' hb2' hw' e1' e2' μ2 h2 f2 => absurd ⟨⟨b', hb1', hb2', e1'⟩, ⟨w', by omega, e2'⟩⟩ q) (fun _ μ2 h2 f2 => ?_)
    exact ⟨fun _ => ⟨A, X, W, hV, hW, hC.fm f2, h2⟩, fun r => r rfl⟩
