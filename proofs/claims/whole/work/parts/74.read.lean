/-! value, read, box -/
def kS (k j : Nat) : Prop := (k = 358 ∧ 33 ≤ j ∧ j < 36) ∨ k = 379
theorem kS_m {k j : Nat} (h : kS k j) : mS k j := by
  unfold kS at h
  unfold mS
  omega
theorem m_worked2 {A X : Nat → Nat → Nat} {W : List Int64} {μ : MM} {Q : Int32 → MM → Prop} (hV : Inv A X) (h : Ms A X W μ) {p i hh : Nat} (hp : p < 6) (h0 : 0 < A 378 p) (hi : i < 96) (hh2 : hh = A 367 i)
    (e0 : gI μ 358 33 = qN (uT A hh (A 358 12))) (e1 : gI μ 358 34 = qN (vT A hh (A 358 12))) (e2 : gI μ 358 35 = qN (wT A hh (A 358 12)))
    (hQ : ∀ μ', Sm kS μ μ' → Q (lwv A X p i) μ') : G12_worked (qN p) (qN i) μ Q := by
  subst hh2
  refine m_worked hV.b h.1 (c := X p) (by omega) hi rfl h0 (fun k hk => h.2.1 p (by omega) k hk) (hV.w (by omega)) (fun μ' f => ?_)
  rw [e0, e1, e2]
  exact hQ μ' (f.mo (fun k j q => Or.inr q))
theorem c_value {A X : Nat → Nat → Nat} {W : List Int64} {μ : MM} {v1 v2 : Int32} {Q : Int32 → MM → Prop} {Xx : MM → Prop} (hV : Inv A X) (h : Cs A X W μ)
    (hy : ∀ p i, p < 6 → 0 < A 378 p → i < A 358 12 → v1 = qN p → v2 = qN i → ∀ μ', Cs A X W μ' → FC μ μ' → Q (lwv A X p i) μ') (hn : ¬ (inr v2 (A 358 12) ∧ tL A v1) → Xx μ) : G11_value v1 v2 μ Q Xx := by
  have hl : A 358 12 < 97 := hV.b 358 12 (by unfold dom; decide)
  unfold G11_value
  refine c_isLetter h.1 (by omega) (fun q1 => ⟨fun r => absurd r (by decide), fun _ => ?_⟩) (fun q1 => ⟨fun _ => hn (fun r => q1 r.1), fun r => absurd rfl r⟩)
  refine c_isLaw hV.b h.1 (fun q2 => ⟨fun _ => ?_, fun r => absurd r (by decide)⟩) (fun q2 => ⟨fun r => absurd rfl r, fun _ => hn (fun r => q2 r.2)⟩)
  obtain ⟨i, hi, rfl⟩ := q1
  obtain ⟨p, hp, rfl, h0⟩ := q2
  have hi9 : i < 96 := by omega
  rw [qN_vp (by omega), qN_nat (by omega)]
  refine ⟨hi9, c_lawFor hV h hp h0 hi9 (fun μ' f => ?_)⟩
  have f2 := f.mo (fun k j q => pS_c q)
  exact hy p i hp h0 hi rfl rfl _ (h.sm f2) (FC_cS f2)
theorem m_value {A X : Nat → Nat → Nat} {W : List Int64} {μ : MM} {v1 v2 : Int32} {Q : Int32 → MM → Prop} (hV : Inv A X) (h : Ms A X W μ)
    (hy : ∀ p i, p < 6 → 0 < A 378 p → i < A 358 12 → v1 = qN p → v2 = qN i → ∀ μ', Ms A X W μ' → FM μ μ' → gI μ' 358 0 = 0 → Q (lwv A X p i) μ')
    (hn : ¬ (inr v2 (A 358 12) ∧ tL A v1) → ∀ μ', Ms A X W μ' → FM μ μ' → gI μ' 358 0 = 1 → ∀ r, Q r μ') : G12_value v1 v2 μ Q := by
  have hl : A 358 12 < 97 := hV.b 358 12 (by unfold dom; decide)
  unfold G12_value G12_value_J21 G12_refuse
  rw [Bd_eq]
  have h0 := m_thr h 0
  have f0 := fm_thr μ 0
  have z0 : gI (sI μ 358 0 0) 358 0 = 0 := rfl
  revert h0 f0 z0
  generalize sI μ 358 0 0 = μ0
  intro h0 f0 z0
  have no : ¬ (inr v2 (A 358 12) ∧ tL A v1) → Bd (sI μ0 358 0 1) (fun μ2 => Q 0 μ2) := fun q => by
    rw [Bd_eq]
    exact hn q _ (m_thr h0 1) (f0.tr (fm_thr μ0 1)) rfl 0
  refine m_isLetter h0.1 (by omega) (fun q1 => ⟨fun r => absurd r (by decide), fun _ => ?_⟩) (fun q1 => ⟨fun _ => no (fun r => q1 r.1), fun r => absurd rfl r⟩)
  refine m_isTold hV.b h0.1 (fun q2 => ⟨fun _ => ?_, fun r => absurd r (by decide)⟩) (fun q2 => ⟨fun r => absurd rfl r, fun _ => no (fun r => q2 r.2)⟩)
  obtain ⟨i, hi, rfl⟩ := q1
  obtain ⟨p, hp, rfl, hp0⟩ := q2
  have hi9 : i < 96 := by omega
  have b1 : A 367 i < 24 := hV.b 367 i (by unfold dom; omega)
  rw [qN_vp (by omega), qN_nat (by omega), Ma_367 h0.1 hi9]
  refine ⟨hi9, m_countsTill hV.b h0.1 b1 (fun μ1 f1 e0 e1 e2 => ?_)⟩
  have f1' : Sm kS μ0 μ1 := f1.mo (fun k j q => Or.inl q)
  have h1 := h0.sm (mn378 hV) (f1'.mo (fun _ _ q => kS_m q))
  refine m_worked2 hV h1 hp hp0 hi9 rfl e0 e1 e2 (fun μ2 f2 => ?_)
  have h2 := h1.sm (mn378 hV) (f2.mo (fun _ _ q => kS_m q))
  refine hy p i hp hp0 hi rfl rfl _ h2 (f0.tr (FM_mS ((f1'.tr f2).mo (fun _ _ q => kS_m q)))) ?_
  rw [((f1'.tr f2).1 358 0 (by unfold kS; omega)).1, z0]
/-- the next letter to be read -/
def nx (A : Nat → Nat → Nat) : Nat → Int32
  | 0 => -1
  | k + 1 => if A 373 k = 0 ∧ (nx A k = -1 ∨ A 372 k < A 372 (nx A k).toNatClampNeg) then qN k else nx A k
theorem nx_b (A : Nat → Nat → Nat) : ∀ k, k ≤ 96 → nx A k = -1 ∨ ∃ j, j < k ∧ nx A k = qN j ∧ A 373 j = 0
  | 0, _ => Or.inl rfl
  | k + 1, hk => by
    have ih := nx_b A k (by omega)
    show (if A 373 k = 0 ∧ (nx A k = -1 ∨ A 372 k < A 372 (nx A k).toNatClampNeg) then qN k else nx A k) = -1 ∨ ∃ j, j < k + 1 ∧ (if A 373 k = 0 ∧ (nx A k = -1 ∨ A 372 k < A 372 (nx A k).toNatClampNeg) then qN k else nx A k) = qN j ∧ A 373 j = 0
    split
    · rename_i q
      exact Or.inr ⟨k, by omega, rfl, q.1⟩
    · rcases ih with ih | ⟨j, a, b, c⟩
      · exact Or.inl ih
      · exact Or.inr ⟨j, by omega, b, c⟩
theorem nx_cases (A : Nat → Nat → Nat) {k : Nat} (hk : k ≤ 96) : (nx A k = -1) ∨ (∃ j, j < k ∧ nx A k = qN j ∧ A 373 j = 0 ∧ ¬ (nx A k = -1) ∧ (nx A k).toNatClampNeg = j) := by
  rcases nx_b A k hk with h | ⟨j, a, b, c⟩
  · exact Or.inl h
  · refine Or.inr ⟨j, a, b, c, ?_, ?_⟩
    · rw [b, qN_neg1 (by omega)]; exact id
    · rw [b, qN_nat (by omega)]
theorem c_nextUnread {A : Nat → Nat → Nat} {μ : MM} {Q : Int32 → MM → Prop} (hI : ∀ f i, dom f i → A f i < bnd f i) (hA : Ca A μ) (hQ : Q (nx A (A 358 12)) μ) : G10_nextUnread μ Q := by
  have hn : A 358 12 < 97 := hI 358 12 (by unfold dom; decide)
  refine Lp.upE (A 358 12) (fun i => (nx A i, qN i, μ)) ?_
  intro i K hi hK
  have n1 : -qN 1 = (-1 : Int32) := rfl
  rcases Nat.lt_or_ge i (A 358 12) with hl | hl
  · have hk := hK hl
    have hi9 : i < 96 := by omega
    have b3 : A 373 i < 2 := hI 373 i (by unfold dom; omega)
    have b5 : A 372 i < 400 := hI 372 i (by unfold dom; omega)
    have eS : nx A (i + 1) = if A 373 i = 0 ∧ (nx A i = -1 ∨ A 372 i < A 372 (nx A i).toNatClampNeg) then qN i else nx A i := rfl
    rw [eS] at hk
    simp (disch := omega) only [bo_q0, bo_q1, qN_le, qN_lt, qN_eq, qN_vp, qN_nat, qN_neg1, qN_neg, qN_nn, qN_lit, qN_add, qN_sub, qN_mul, qN_div, Bd_eq, reduceIte, Nat.add_sub_cancel, dm_l, Nat.zero_le, Nat.not_lt_zero, Nat.reduceEqDiff, Nat.reduceLT, Nat.reduceLeDiff, Nat.reduceAdd, Nat.reduceSub, Nat.reduceMul, Nat.reduceDiv, Nat.reduceMod, reduceCtorEq, true_implies, false_implies, not_true_eq_false, not_false_eq_true, true_and, and_true, implies_true, and_false, false_and, forall_const, true_or, or_true, false_or, or_false, G10_nextUnread_L4, Ca_s12 hA, Ca_373 hA, Ca_372 hA, hi9, Nat.not_le.mpr hl, G10_nextUnread_J50]
    rw [n1]
    rcases nx_cases A (k := i) (by omega) with q | ⟨j, a, b, c, d, e⟩
    · refine ⟨fun r => ?_, fun r => ⟨fun _ => ?_, fun r2 => absurd q r2⟩⟩
      · rw [if_neg (fun s => r s.1)] at hk; exact hk
      · rw [if_pos ⟨r, Or.inl q⟩] at hk; exact hk
    · have hj9 : j < 96 := by omega
      have b6 : A 372 j < 400 := hI 372 j (by unfold dom; omega)
      rw [e] at hk
      refine ⟨fun r => ?_, fun r => ⟨fun r2 => absurd r2 d, fun _ => ?_⟩⟩
      · rw [if_neg (fun s => r s.1)] at hk; exact hk
      · rw [e, Ca_372 hA hj9, b, qN_vp (by omega), qN_le (by omega) (by omega)]
        refine ⟨hj9, fun r2 => ?_, fun r2 => ?_⟩
        · rw [if_neg (fun s => by rcases s.2 with s | s; exact d s; omega), b] at hk; exact hk
        · rw [if_pos ⟨r, Or.inr (by omega)⟩] at hk; exact hk
  · have e : i = A 358 12 := by omega
    subst e
    simp (disch := omega) only [bo_q0, bo_q1, qN_le, qN_lt, qN_eq, qN_vp, qN_nat, qN_neg1, qN_neg, qN_nn, qN_lit, qN_add, qN_sub, qN_mul, qN_div, Bd_eq, reduceIte, Nat.add_sub_cancel, dm_l, Nat.zero_le, Nat.not_lt_zero, Nat.reduceEqDiff, Nat.reduceLT, Nat.reduceLeDiff, Nat.reduceAdd, Nat.reduceSub, Nat.reduceMul, Nat.reduceDiv, Nat.reduceMod, reduceCtorEq, true_implies, false_implies, not_true_eq_false, not_false_eq_true, true_and, and_true, implies_true, and_false, false_and, forall_const, true_or, or_true, false_or, or_false, G10_nextUnread_L4, Ca_s12 hA, Nat.le_refl]
    exact hQ
/-- one letter read -/
theorem qN_mod32 (n : Nat) : qN (n % 4294967296) = qN n := by
  apply Int32.toBitVec.inj
  show BitVec.ofNat 32 (n % 4294967296) = BitVec.ofNat 32 n
  apply BitVec.eq_of_toNat_eq
  rw [BitVec.toNat_ofNat, BitVec.toNat_ofNat]
  exact Nat.mod_mod n _
theorem lcg_ex : ∃ F : Nat → Nat, ∀ r, F r < 4294967296 ∧ (qN r * 1103515245) + 12345 = qN (F r) :=
  ⟨fun r => (r * 1103515245 + 12345) % 4294967296, fun r => ⟨Nat.mod_lt _ (by decide), by rw [qN_mod32, qN_lit 1103515245, qN_lit 12345, qN_mul, qN_add]⟩⟩
noncomputable def lcg : Nat → Nat := Classical.choose lcg_ex
noncomputable def rr1 (A : Nat → Nat → Nat) : Nat := lcg (A 358 22)
noncomputable def rdB (A : Nat → Nat → Nat) : Nat → Nat → Nat := up2 A 358 22 (rr1 A)
noncomputable def rdR (A X : Nat → Nat → Nat) (j : Nat) : Nat := if 0 < A 378 (A 366 (A 367 j)) ∧ qN (rr1 A / 65536 % 100) < lwv (rdB A) X (A 366 (A 367 j)) j then 1 else 0
noncomputable def rdS (A X : Nat → Nat → Nat) (j : Nat) : Nat → Nat → Nat := up2 (up2 (rdB A) 373 j 1) 374 j (rdR A X j)
noncomputable def rs (A X : Nat → Nat → Nat) : Nat → (Nat → Nat → Nat) × Nat
  | 0 => (A, 0)
  | k + 1 => if nx (rs A X k).1 (A 358 12) = -1 then rs A X k else (rdS (rs A X k).1 X (nx (rs A X k).1 (A 358 12)).toNatClampNeg, (rs A X k).2 + rdR (rs A X k).1 X (nx (rs A X k).1 (A 358 12)).toNatClampNeg)
theorem shr16 {r : Nat} (hr : r < 4294967296) : ((qN r).toUInt32 >>> ((16 : Int32).toUInt32 &&& Int32.toUInt32 31)).toInt32 = qN (r / 65536) := by
  apply Int32.toBitVec.inj
  apply BitVec.eq_of_toNat_eq
  show ((BitVec.ofNat 32 r) >>> 16).toNat = (BitVec.ofNat 32 (r / 65536)).toNat
  rw [BitVec.toNat_ushiftRight, BitVec.toNat_ofNat, BitVec.toNat_ofNat, Nat.shiftRight_eq_div_pow, Nat.mod_eq_of_lt (show r < 2 ^ 32 from hr)]
  exact (Nat.mod_eq_of_lt (by omega)).symm
theorem rr1_lt (A : Nat → Nat → Nat) : rr1 A < 4294967296 := (Classical.choose_spec lcg_ex (A 358 22)).1
theorem rr_e (A : Nat → Nat → Nat) : (qN (A 358 22) * 1103515245) + 12345 = qN (rr1 A) := (Classical.choose_spec lcg_ex (A 358 22)).2
theorem drawn_q {r n : Nat} (hr : r < 4294967296) (hn : n < 2147483648) : (((qN r).toUInt32 >>> ((16 : Int32).toUInt32 &&& Int32.toUInt32 31)).toInt32) - (((qN r).toUInt32 >>> ((16 : Int32).toUInt32 &&& Int32.toUInt32 31)).toInt32) / qN n * qN n = qN (r / 65536 % n) := by
  rw [shr16 hr, qN_div (by omega) hn, qN_mul, qN_sub (Nat.div_mul_le_self _ _), dm_l]
theorem c_draw {A X : Nat → Nat → Nat} {W : List Int64} {μ : MM} {Q : Int32 → MM → Prop} (hV : Inv A X) (h : Cs A X W μ) {n : Nat} (h0 : 0 < n) (hn : n < 2147483648) (hQ : ∀ μ', Cs (rdB A) X W μ' → FC μ μ' → Q (qN (rr1 A / 65536 % n)) μ') : G10_draw (qN n) μ Q := by
  unfold G10_draw
  rw [Ca_s22 h.1, rr_e, Bd_eq]
  have hs : Sm cT μ (sI μ 1 14 (qN (rr1 A))) := Sm.rfl'.wI _ (by unfold cT; omega)
  have c1 := h.up hs (Cw_s22 h.1 (rr1 A)) (fun p hp => rfl)
  have e : gI (sI μ 1 14 (qN (rr1 A))) 1 14 = qN (rr1 A) := by simp [gI_I]
  rw [e, drawn_q (rr1_lt A) hn]
  have z1 : (qN n ≤ 0) ↔ False := by rw [show (0 : Int32) = qN 0 from rfl, qN_le (by omega) (by decide)]; exact iff_false_intro (by omega)
  have z2 : (qN n = 0) ↔ False := by rw [show (0 : Int32) = qN 0 from rfl, qN_eq (by omega) (by decide)]; exact iff_false_intro (by omega)
  exact ⟨fun q => absurd (z1.mp q) id, fun _ => ⟨fun q => z2.mp q, hQ _ c1 (FC_cT hs)⟩⟩
theorem m_draws {A X : Nat → Nat → Nat} {W : List Int64} {μ : MM} {Q : Int32 → MM → Prop} (hV : Inv A X) (h : Ms A X W μ) {n : Nat} (h0 : 0 < n) (hn : n < 2147483648) (hQ : ∀ μ', Ms (rdB A) X W μ' → FM μ μ' → (∀ j, gI μ' 376 j = gI μ 376 j) → Q (qN (rr1 A / 65536 % n)) μ') : G12_draws (qN n) μ Q := by
  unfold G12_draws
  rw [Ma_s22 h.1, rr_e, Bd_eq]
  have hs : Sm mT μ (sI μ 358 22 (qN (rr1 A))) := Sm.rfl'.wI _ (by unfold mT; omega)
  have c1 := h.up hs (Ma_w h.1 358 22 (rr1 A)) (fun p hp => rfl)
  have e : gI (sI μ 358 22 (qN (rr1 A))) 358 22 = qN (rr1 A) := by simp [gI_I]
  rw [e, drawn_q (rr1_lt A) hn]
  have z2 : (qN n = 0) ↔ False := by rw [show (0 : Int32) = qN 0 from rfl, qN_eq (by omega) (by decide)]; exact iff_false_intro (by omega)
  exact ⟨fun q => z2.mp q, hQ _ c1 (FM_mT hs) (fun j => rfl)⟩
theorem rdR_lt (A X : Nat → Nat → Nat) (j : Nat) : rdR A X j < 2 := by unfold rdR; split <;> decide
theorem rdS_inv {A X : Nat → Nat → Nat} (hV : Inv A X) {j : Nat} (hj : j < 96) (h0 : A 373 j = 0) : Inv (rdS A X j) X := (hV.r (rr1_lt A)).ring hj ((up2_o (by omega)).trans h0) (rdR_lt A X j)
theorem rs_inv {A X : Nat → Nat → Nat} (hV : Inv A X) : ∀ k, Inv (rs A X k).1 X ∧ (rs A X k).1 358 12 = A 358 12 ∧ (rs A X k).2 ≤ k
  | 0 => ⟨hV, rfl, Nat.le_refl _⟩
  | k + 1 => by
    have hl : A 358 12 < 97 := hV.b 358 12 (by unfold dom; decide)
    obtain ⟨a, b, c⟩ := rs_inv hV k
    show Inv (if nx (rs A X k).1 (A 358 12) = -1 then rs A X k else _).1 X ∧ (if nx (rs A X k).1 (A 358 12) = -1 then rs A X k else _).1 358 12 = A 358 12 ∧ (if nx (rs A X k).1 (A 358 12) = -1 then rs A X k else _).2 ≤ k + 1
    rcases nx_cases (rs A X k).1 (k := A 358 12) (by omega) with q | ⟨j, d, e, f, g, i⟩
    · rw [if_pos q]
      exact ⟨a, b, by omega⟩
    · rw [if_neg g, i]
      refine ⟨rdS_inv a (by omega) f, ?_, ?_⟩
      · show rdS (rs A X k).1 X j 358 12 = _
        unfold rdS rdB
        rw [up2_o (by omega), up2_o (by omega), up2_o (by omega)]
        exact b
      · have := rdR_lt (rs A X k).1 X j
        show (rs A X k).2 + rdR (rs A X k).1 X j ≤ k + 1
        omega
theorem rs_stop {A X : Nat → Nat → Nat} {k : Nat} (h : nx (rs A X k).1 (A 358 12) = -1) : ∀ m, rs A X (k + m) = rs A X k
  | 0 => rfl
  | m + 1 => by
    have ih := rs_stop h m
    show (if nx (rs A X (k + m)).1 (A 358 12) = -1 then rs A X (k + m) else _) = _
    rw [ih, if_pos h]

theorem c_rung {A X : Nat → Nat → Nat} {W : List Int64} {μ : MM} {Q : Int32 → MM → Prop} (hV : Inv A X) (h : Cs A X W μ) {j : Nat} (hj : j < 96) (hQ : ∀ μ', Cs (rdS A X j) X W μ' → FC μ μ' → Q (qN (rdR A X j)) μ') : G10_isRungByHouse (19 + j) μ Q := by
  have b1 : A 367 j < 24 := hV.b 367 j (by unfold dom; omega)
  have b2 : A 366 (A 367 j) < 6 := hV.b 366 (A 367 j) (by unfold dom; omega)
  unfold G10_isRungByHouse
  refine c_draw hV h (by decide) (by decide) (fun μ1 h1 f1 => ?_)
  have hV1 : Inv (rdB A) X := hV.r (rr1_lt A)
  have o1 : rdB A 367 j = A 367 j := up2_o (by omega)
  have o2 : ∀ i, rdB A 366 i = A 366 i := fun i => up2_o (by omega)
  have o3 : ∀ i, rdB A 378 i = A 378 i := fun i => up2_o (by omega)
  have e1 : gI μ1 (19 + j) 0 = qN (A 367 j) := by rw [Ca_367 h1.1 hj, o1]
  have e2 : gI μ1 8 (A 367 j) = qN (A 366 (A 367 j)) := by rw [Ca_366 h1.1 b1, o2]
  rw [e1, qN_vp (by omega), qN_nat (by omega), e2, Bd_eq]
  refine ⟨b1, ?_⟩
  have fin : ∀ v μ2, Cs (rdB A) X W μ2 → FC μ μ2 → v = rdR A X j → G10_isRungByHouse_J41 (19 + j) (qN v) μ2 Q := by
    intro v μ2 h2 f2 hv
    subst hv
    have hρ := rdR_lt A X j
    unfold G10_isRungByHouse_J41 G5_becomeRead
    have hA' := Cw_374 (Cw_373 h2.1 hj 1) hj (rdR A X j)
    have hs : Sm cT μ2 (sI (sI μ2 (19 + j) 6 (qN 1)) (19 + j) 7 (qN (rdR A X j))) := (Sm.rfl'.wI (qN 1) (k := 19 + j) (j := 6) (by unfold cT; omega)).wI (qN (rdR A X j)) (k := 19 + j) (j := 7) (by unfold cT; omega)
    have e5 : gI (sI (sI μ2 (19 + j) 6 (qN 1)) (19 + j) 7 (qN (rdR A X j))) (19 + j) 7 = qN (rdR A X j) := by simp [gI_I]
    rw [Bd_eq, Bd_eq]
    refine ⟨bo_q hρ, ?_⟩
    show bo (gI (sI (sI μ2 (19 + j) 6 (qN 1)) (19 + j) 7 (qN (rdR A X j))) (19 + j) 7) ∧ Q (gI (sI (sI μ2 (19 + j) 6 (qN 1)) (19 + j) 7 (qN (rdR A X j))) (19 + j) 7) _
    rw [e5]
    exact ⟨bo_q hρ, hQ _ (h2.up hs hA' (fun p hp => rfl)) (f2.tr (FC_cT hs))⟩
  refine c_isLaw hV1.b h1.1 (fun q => ⟨fun r => absurd r (by decide), fun _ => ?_⟩) (fun q => ⟨fun _ => ?_, fun r => absurd rfl r⟩)
  · obtain ⟨p, hp, e, h0⟩ := q
    rw [qN_eq (by omega) (by omega)] at e
    subst e
    rw [o3] at h0
    refine c_lawFor hV1 h1 b2 (by rw [o3]; exact h0) hj (fun μ2 f2 => ?_)
    have f2' := f2.mo (fun k j q => pS_c q)
    refine ⟨fun r => fin 0 μ2 (h1.sm f2') (f1.tr (FC_cS f2')) ?_, fun r => fin 1 μ2 (h1.sm f2') (f1.tr (FC_cS f2')) ?_⟩
    · unfold rdR
      rw [if_neg (fun s => absurd s.2 (Int32.not_lt.mpr r))]
    · unfold rdR
      rw [if_pos ⟨h0, Int32.not_le.mp r⟩]
  · refine fin 0 μ1 h1 f1 ?_
    unfold rdR
    rw [if_neg (fun s => q ⟨_, b2, rfl, by rw [o3]; exact s.1⟩)]
theorem c_read {A X : Nat → Nat → Nat} {W : List Int64} {μ : MM} {v1 : Int32} {Q : Int32 → MM → Prop} (hV : Inv A X) (h : Cs A X W μ)
    (hy : ∀ n, n ≤ 96 → v1 = qN n → ∀ μ', Cs (rs A X n).1 X W μ' → FC μ μ' → Q (qN (rs A X n).2) μ') (hn : ¬ inr v1 97 → Q (-1) μ) : G11_read v1 μ Q := by
  have hl : A 358 12 < 97 := hV.b 358 12 (by unfold dom; decide)
  unfold G11_read G10_readNext
  refine within0_s 96 rfl (by decide) (fun q1 => ⟨fun r => absurd r (by decide), fun _ => ?_⟩) (fun q1 => ⟨fun _ => hn q1, fun r => absurd rfl r⟩)
  obtain ⟨n, hn9, rfl⟩ := q1
  have w1 := hy n (by omega) rfl
  refine Lp.up n (fun k x => x.1 = qN (rs A X k).2 ∧ x.2.1 = qN k ∧ Cs (rs A X k).1 X W x.2.2 ∧ FC μ x.2.2) ?_ ⟨rfl, rfl, (show Cs (rs A X 0).1 X W μ from h), FC.rfl'⟩
  rintro k K hk hK ⟨y1, y2, ν⟩ ⟨rfl, rfl, hC, hf⟩
  simp only at hC hf
  obtain ⟨iV, i12, i2⟩ := rs_inv hV k
  rcases Nat.lt_or_ge k n with hl1 | hl1
  · have hk2 := hK hl1
    have eS : rs A X (k + 1) = if nx (rs A X k).1 (A 358 12) = -1 then rs A X k else (rdS (rs A X k).1 X (nx (rs A X k).1 (A 358 12)).toNatClampNeg, (rs A X k).2 + rdR (rs A X k).1 X (nx (rs A X k).1 (A 358 12)).toNatClampNeg) := rfl
    have n1 : -qN 1 = (-1 : Int32) := rfl
    simp (disch := omega) only [bo_q0, bo_q1, qN_le, qN_lt, qN_eq, qN_vp, qN_nat, qN_neg1, qN_neg, qN_nn, qN_lit, qN_add, qN_sub, qN_mul, qN_div, Bd_eq, reduceIte, Nat.add_sub_cancel, dm_l, Nat.zero_le, Nat.not_lt_zero, Nat.reduceEqDiff, Nat.reduceLT, Nat.reduceLeDiff, Nat.reduceAdd, Nat.reduceSub, Nat.reduceMul, Nat.reduceDiv, Nat.reduceMod, reduceCtorEq, true_implies, false_implies, not_true_eq_false, not_false_eq_true, true_and, and_true, implies_true, and_false, false_and, forall_const, true_or, or_true, false_or, or_false, G10_readNext_L4, Nat.not_le.mpr hl1]
    refine c_nextUnread iV.b hC.1 ?_
    rw [i12]
    rcases nx_cases (rs A X k).1 (k := A 358 12) (by omega) with q | ⟨j, d, e, f, g, i⟩
    · refine ⟨fun r => absurd q r, fun _ => ?_⟩
      have := rs_stop q (n - k)
      rw [show k + (n - k) = n by omega] at this
      rw [this] at w1
      exact w1 _ hC hf
    · refine ⟨fun _ => ?_, fun r => absurd r g⟩
      rw [if_neg g, i] at eS
      rw [i, e, qN_vp (by omega)]
      refine ⟨by omega, c_rung iV hC (by omega) (fun μ2 h2 f2 => ?_)⟩
      have r2 := rdR_lt (rs A X k).1 X j
      have key : K (qN ((rs A X k).2 + rdR (rs A X k).1 X j), qN (k + 1), μ2) := hk2 _ ⟨by rw [eS], rfl, by rw [eS]; exact h2, hf.tr f2⟩
      rw [show qN 0 = qN 0 from rfl, qN_eq (by omega) (by decide)]
      refine ⟨fun r => ?_, fun r => ?_⟩
      · rw [r] at key; exact key
      · rw [show rdR (rs A X k).1 X j = 1 by omega] at key; exact key
  · have e : k = n := by omega
    subst e
    simp (disch := omega) only [bo_q0, bo_q1, qN_le, qN_lt, qN_eq, qN_vp, qN_nat, qN_neg1, qN_neg, qN_nn, qN_lit, qN_add, qN_sub, qN_mul, qN_div, Bd_eq, reduceIte, Nat.add_sub_cancel, dm_l, Nat.zero_le, Nat.not_lt_zero, Nat.reduceEqDiff, Nat.reduceLT, Nat.reduceLeDiff, Nat.reduceAdd, Nat.reduceSub, Nat.reduceMul, Nat.reduceDiv, Nat.reduceMod, reduceCtorEq, true_implies, false_implies, not_true_eq_false, not_false_eq_true, true_and, and_true, implies_true, and_false, false_and, forall_const, true_or, or_true, false_or, or_false, G10_readNext_L4, Nat.le_refl]
    exact w1 _ hC hf

theorem m_read {A X : Nat → Nat → Nat} {W : List Int64} {μ : MM} {v1 : Int32} {Q : Int32 → MM → Prop} (hV : Inv A X) (h : Ms A X W μ)
    (hy : ∀ n, n ≤ 96 → v1 = qN n → ∀ μ', Ms (rs A X n).1 X W μ' → FM μ μ' → Q (qN (rs A X n).2) μ') (hn : ¬ inr v1 97 → ∀ μ', Ms A X W μ' → FM μ μ' → Q (-1) μ') : G12_read v1 μ Q := by
  have hl : A 358 12 < 97 := hV.b 358 12 (by unfold dom; decide)
  unfold G12_read
  rw [Bd_eq]
  have h0 := m_thr h 0
  have f0 := fm_thr μ 0
  revert h0 f0
  generalize sI μ 358 0 0 = μ0
  intro h0 f0
  refine in0_s 96 rfl (by decide) (fun q1 => ⟨fun _ => ?_, fun r => absurd r (by decide)⟩) (fun q1 => ⟨fun r => absurd rfl r, fun _ => hn q1 _ h0 f0⟩)
  obtain ⟨n, hn9, rfl⟩ := q1
  have w1 := hy n (by omega) rfl
  refine Lp.up n (fun k x => x.1 = qN (rs A X k).2 ∧ x.2.1 = qN k ∧ Ms (rs A X k).1 X W x.2.2 ∧ FM μ x.2.2) ?_ ⟨rfl, rfl, (show Ms (rs A X 0).1 X W μ0 from h0), f0⟩
  rintro k K hk hK ⟨y1, y2, ν⟩ ⟨rfl, rfl, hC, hf⟩
  simp only at hC hf
  obtain ⟨iV, i12, i2⟩ := rs_inv hV k
  rcases Nat.lt_or_ge k n with hl1 | hl1
  · have hk2 := hK hl1
    clear hK
    have eS : rs A X (k + 1) = if nx (rs A X k).1 (A 358 12) = -1 then rs A X k else (rdS (rs A X k).1 X (nx (rs A X k).1 (A 358 12)).toNatClampNeg, (rs A X k).2 + rdR (rs A X k).1 X (nx (rs A X k).1 (A 358 12)).toNatClampNeg) := rfl
    have stp := fun q => rs_stop (A := A) (X := X) (k := k) q (n - k)
    rw [show k + (n - k) = n by omega] at stp
    simp (disch := omega) only [bo_q0, bo_q1, qN_le, qN_lt, qN_eq, qN_vp, qN_nat, qN_neg1, qN_neg, qN_nn, qN_lit, qN_add, qN_sub, qN_mul, qN_div, Bd_eq, reduceIte, Nat.add_sub_cancel, dm_l, Nat.zero_le, Nat.not_lt_zero, Nat.reduceEqDiff, Nat.reduceLT, Nat.reduceLeDiff, Nat.reduceAdd, Nat.reduceSub, Nat.reduceMul, Nat.reduceDiv, Nat.reduceMod, reduceCtorEq, true_implies, false_implies, not_true_eq_false, not_false_eq_true, true_and, and_true, implies_true, and_false, false_and, forall_const, true_or, or_true, false_or, or_false, G12_read_L23, Nat.not_le.mpr hl1]
    generalize hBB : (rs A X k).1 = B at *
    have b12 : B 358 12 < 97 := iV.b 358 12 (by unfold dom; decide)
    refine Lp.upE (A 358 12) (fun i => (nx B i, qN i, ν)) ?_
    intro i K2 hi hK2
    have hA := hC.1
    have n1 : -qN 1 = (-1 : Int32) := rfl
    rcases Nat.lt_or_ge i (A 358 12) with hl | hl
    · have hk := hK2 hl
      have hi9 : i < 96 := by omega
      have b3 : B 373 i < 2 := iV.b 373 i (by unfold dom; omega)
      have b5 : B 372 i < 400 := iV.b 372 i (by unfold dom; omega)
      have eX : nx B (i + 1) = if B 373 i = 0 ∧ (nx B i = -1 ∨ B 372 i < B 372 (nx B i).toNatClampNeg) then qN i else nx B i := rfl
      rw [eX] at hk
      simp (disch := omega) only [bo_q0, bo_q1, qN_le, qN_lt, qN_eq, qN_vp, qN_nat, qN_neg1, qN_neg, qN_nn, qN_lit, qN_add, qN_sub, qN_mul, qN_div, Bd_eq, reduceIte, Nat.add_sub_cancel, dm_l, Nat.zero_le, Nat.not_lt_zero, Nat.reduceEqDiff, Nat.reduceLT, Nat.reduceLeDiff, Nat.reduceAdd, Nat.reduceSub, Nat.reduceMul, Nat.reduceDiv, Nat.reduceMod, reduceCtorEq, true_implies, false_implies, not_true_eq_false, not_false_eq_true, true_and, and_true, implies_true, and_false, false_and, forall_const, true_or, or_true, false_or, or_false, G12_read_L34, Ma_s12 hA, i12, Ma_373 hA, Ma_372 hA, hi9, Nat.not_le.mpr hl, G12_read_J80]
      rcases nx_cases B (k := i) (by omega) with q | ⟨j, a, b, c, d, e⟩
      · have qn : nx B i < qN 0 := by rw [q]; decide
        refine ⟨fun r => ?_, fun r => ⟨fun _ => ?_, fun r2 => absurd qn r2⟩⟩
        · rw [if_neg (fun s => r s.1)] at hk; exact hk
        · rw [if_pos ⟨r, Or.inl q⟩] at hk; exact hk
      · have hj9 : j < 96 := by omega
        have b6 : B 372 j < 400 := iV.b 372 j (by unfold dom; omega)
        have qn : ¬ nx B i < qN 0 := by rw [b, show qN 0 = (0 : Int32) from rfl, qN_neg (by omega)]; exact id
        rw [e] at hk
        refine ⟨fun r => ?_, fun r => ⟨fun r2 => absurd r2 qn, fun _ => ?_⟩⟩
        · rw [if_neg (fun s => r s.1)] at hk; exact hk
        · rw [e, Ma_372 hA hj9, b, qN_vp (by omega), qN_le (by omega) (by omega)]
          refine ⟨hj9, fun r2 => ?_, fun r2 => ?_⟩
          · rw [if_neg (fun s => by rcases s.2 with s | s; exact d s; omega), b] at hk; exact hk
          · rw [if_pos ⟨r, Or.inr (by omega)⟩] at hk; exact hk
    · have e : i = A 358 12 := by omega
      subst e
      clear hK2
      simp (disch := omega) only [bo_q0, bo_q1, qN_le, qN_lt, qN_eq, qN_vp, qN_nat, qN_neg1, qN_neg, qN_nn, qN_lit, qN_add, qN_sub, qN_mul, qN_div, Bd_eq, reduceIte, Nat.add_sub_cancel, dm_l, Nat.zero_le, Nat.not_lt_zero, Nat.reduceEqDiff, Nat.reduceLT, Nat.reduceLeDiff, Nat.reduceAdd, Nat.reduceSub, Nat.reduceMul, Nat.reduceDiv, Nat.reduceMod, reduceCtorEq, true_implies, false_implies, not_true_eq_false, not_false_eq_true, true_and, and_true, implies_true, and_false, false_and, forall_const, true_or, or_true, false_or, or_false, G12_read_L34, Ma_s12 hA, i12, Nat.le_refl]
      rcases nx_cases B (k := A 358 12) (by omega) with q | ⟨j, d, e, f, g, i⟩
      · have qn : ¬ qN 0 ≤ nx B (A 358 12) := by rw [q]; decide
        refine ⟨fun r => absurd r qn, fun _ => ?_⟩
        have st := stp q
        rw [st, hBB] at w1
        exact w1 _ hC hf
      · rw [if_neg g, i] at eS
        have hj9 : j < 96 := by omega
        rw [e]
        refine ⟨fun _ => ?_, fun r => absurd (by rw [qN_le (by decide) (by omega)]; omega) r⟩
        have b1 : B 367 j < 24 := iV.b 367 j (by unfold dom; omega)
        have b2 : B 366 (B 367 j) < 6 := iV.b 366 (B 367 j) (by unfold dom; omega)
        refine m_draws iV hC (by decide) (by decide) (fun ν1 h1 f1 _ => ?_)
        have hV1 : Inv (rdB B) X := iV.r (rr1_lt B)
        have o1 : rdB B 367 j = B 367 j := up2_o (by omega)
        have o2 : ∀ i, rdB B 366 i = B 366 i := fun i => up2_o (by omega)
        have o3 : ∀ i, rdB B 378 i = B 378 i := fun i => up2_o (by omega)
        have e1 : gI ν1 367 j = qN (B 367 j) := by rw [Ma_367 h1.1 hj9, o1]
        have e2 : gI ν1 366 (B 367 j) = qN (B 366 (B 367 j)) := by rw [Ma_366 h1.1 b1, o2]
        have c13 : B 366 (B 367 j) < 13 := by omega
        have b8 : B 378 (B 366 (B 367 j)) < 41 := iV.b 378 (B 366 (B 367 j)) (by unfold dom; omega)
        simp (disch := omega) only [bo_q0, bo_q1, qN_le, qN_lt, qN_eq, qN_vp, qN_nat, qN_neg1, qN_neg, qN_nn, qN_lit, qN_add, qN_sub, qN_mul, qN_div, Bd_eq, reduceIte, Nat.add_sub_cancel, dm_l, Nat.zero_le, Nat.not_lt_zero, Nat.reduceEqDiff, Nat.reduceLT, Nat.reduceLeDiff, Nat.reduceAdd, Nat.reduceSub, Nat.reduceMul, Nat.reduceDiv, Nat.reduceMod, reduceCtorEq, true_implies, false_implies, not_true_eq_false, not_false_eq_true, true_and, and_true, implies_true, and_false, false_and, forall_const, true_or, or_true, false_or, or_false, e1, e2, hj9, b1, c13]
        refine m_countsTill hV1.b h1.1 (by omega) (fun ν2 f2 t0 t1 t2 => ?_)
        have f2' : Sm kS ν1 ν2 := f2.mo (fun k j q => Or.inl q)
        have h2 := h1.sm (mn378 hV1) (f2'.mo (fun _ _ q => kS_m q))
        have e3 : gI ν2 378 (B 366 (B 367 j)) = qN (B 378 (B 366 (B 367 j))) := by rw [Ma_378 h2.1 (by omega), o3]
        have fin : ∀ v ν3, Ms (rdB B) X W ν3 → FM μ ν3 → v = rdR B X j → G12_read_J164 (qN n) (qN (rs A X k).2) (qN k) (qN j) (qN v) (qN j) ν3 K Q := by
          intro v ν3 h3 f3 hv
          subst hv
          have hρ := rdR_lt B X j
          have z2 : (1 : Nat) < 2 := by decide
          have hA' := Ma_w (Ma_w h3.1 374 j (rdR B X j)) 373 j 1
          have hs : Sm mT ν3 (sI (sI ν3 374 j (qN (rdR B X j))) 373 j (qN 1)) := (Sm.rfl'.wI (qN (rdR B X j)) (k := 374) (j := j) (by unfold mT; omega)).wI (qN 1) (k := 373) (j := j) (by unfold mT; omega)
          rw [up2_comm (f := 374) (g := 373) (by omega)] at hA'
          simp (disch := omega) only [bo_q0, bo_q1, qN_le, qN_lt, qN_eq, qN_vp, qN_nat, qN_neg1, qN_neg, qN_nn, qN_lit, qN_add, qN_sub, qN_mul, qN_div, Bd_eq, reduceIte, Nat.add_sub_cancel, dm_l, Nat.zero_le, Nat.not_lt_zero, Nat.reduceEqDiff, Nat.reduceLT, Nat.reduceLeDiff, Nat.reduceAdd, Nat.reduceSub, Nat.reduceMul, Nat.reduceDiv, Nat.reduceMod, reduceCtorEq, true_implies, false_implies, not_true_eq_false, not_false_eq_true, true_and, and_true, implies_true, and_false, false_and, forall_const, true_or, or_true, false_or, or_false, G12_read_J164, hj9, nar_q hρ, nar_q z2, gI_I, gI_J, gI_R, gJ_I, gJ_J, gJ_R, gR_I, gR_J, gR_R, flag_q]
          refine hk2 _ ⟨by rw [eS], rfl, by rw [eS]; exact h3.up hs hA' (fun p hp => rfl), f3.tr (FM_mT hs)⟩
        rw [e3, show qN 0 = (0 : Int32) from rfl]
        have le0 : (qN (B 378 (B 366 (B 367 j))) ≤ 0) = (B 378 (B 366 (B 367 j)) = 0) := by
          rw [show (0 : Int32) = qN 0 from rfl, eq_iff_iff, qN_le (by omega) (by decide)]; omega
        rw [le0]
        unfold G12_read_J163
        refine ⟨fun r => fin 0 ν2 h2 (hf.tr (f1.tr (FM_mS (f2'.mo (fun _ _ q => kS_m q))))) ?_, fun r => ?_⟩
        · unfold rdR
          rw [if_neg (fun s => by omega)]
        · refine m_worked2 hV1 h2 b2 (by rw [o3]; omega) hj9 (by rw [o1]) t0 t1 t2 (fun ν3 f3 => ?_)
          have h3 := h2.sm (mn378 hV1) (f3.mo (fun _ _ q => kS_m q))
          have f4 := hf.tr (f1.tr (FM_mS ((f2'.tr f3).mo (fun _ _ q => kS_m q))))
          refine ⟨fun s => fin 0 ν3 h3 f4 ?_, fun s => fin 1 ν3 h3 f4 ?_⟩
          · unfold rdR
            rw [if_neg (fun t => absurd t.2 (Int32.not_lt.mpr s))]
          · unfold rdR
            rw [if_pos ⟨by omega, Int32.not_le.mp s⟩]
  · have e : k = n := by omega
    subst e
    simp (disch := omega) only [bo_q0, bo_q1, qN_le, qN_lt, qN_eq, qN_vp, qN_nat, qN_neg1, qN_neg, qN_nn, qN_lit, qN_add, qN_sub, qN_mul, qN_div, Bd_eq, reduceIte, Nat.add_sub_cancel, dm_l, Nat.zero_le, Nat.not_lt_zero, Nat.reduceEqDiff, Nat.reduceLT, Nat.reduceLeDiff, Nat.reduceAdd, Nat.reduceSub, Nat.reduceMul, Nat.reduceDiv, Nat.reduceMod, reduceCtorEq, true_implies, false_implies, not_true_eq_false, not_false_eq_true, true_and, and_true, implies_true, and_false, false_and, forall_const, true_or, or_true, false_or, or_false, G12_read_L23, Nat.le_refl]
    exact w1 _ hC hf
