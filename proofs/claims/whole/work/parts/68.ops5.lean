/-! mornings, both -/
def msA (A : Nat → Nat → Nat) (a b c h i : Nat) : Nat := if A 367 i = h ∧ A 373 i = 1 then a + (if A 374 i = 1 then b else 0) + (if A 374 i = 1 ∧ A 375 i = 2 then c else 0) else 0
def ms (A : Nat → Nat → Nat) (a b c h : Nat) : Nat := sm (msA A a b c h) (A 358 12)
theorem sm_le {f : Nat → Nat} {m : Nat} (h : ∀ i, f i ≤ m) : ∀ n, sm f n ≤ n * m
  | 0 => by simp [sm]
  | n + 1 => by
    have h1 := sm_le h n
    have h2 := h n
    show sm f n + f n ≤ (n + 1) * m
    rw [Nat.add_mul, Nat.one_mul]
    omega
theorem msA_le {A : Nat → Nat → Nat} {a b c : Nat} (ha : a < 100) (hb : b < 100) (hc : c < 1000) (h i : Nat) : msA A a b c h i ≤ 1197 := by
  unfold msA
  split
  · split <;> split <;> omega
  · omega
theorem ms_le {A : Nat → Nat → Nat} {a b c : Nat} (ha : a < 100) (hb : b < 100) (hc : c < 1000) (h : Nat) {n : Nat} (hn : n ≤ 96) : sm (msA A a b c h) n ≤ 114912 := by
  have h1 := sm_le (msA_le (A := A) ha hb hc h) n
  have h2 : n * 1197 ≤ 96 * 1197 := Nat.mul_le_mul_right _ hn
  omega
/-- every, longest, most -/
def mo (A : Nat → Nat → Nat) (a b c : Nat) : Nat → Nat × Int32 × Nat
  | 0 => (0, -1, 0)
  | k + 1 => ((mo A a b c k).1 + ms A a b c k, if (mo A a b c k).2.1 = -1 ∨ (mo A a b c k).2.2 < ms A a b c k then (qN k, ms A a b c k) else (mo A a b c k).2)
theorem mo_b {A : Nat → Nat → Nat} {a b c : Nat} (ha : a < 100) (hb : b < 100) (hc : c < 1000) (hn : A 358 12 ≤ 96) : ∀ k, k ≤ 24 → (mo A a b c k).1 ≤ k * 114912 ∧ ((mo A a b c k).2.1 = -1 ∨ ∃ j, j < k ∧ (mo A a b c k).2.1 = qN j) ∧ (mo A a b c k).2.2 ≤ 114912
  | 0, _ => ⟨by simp [mo], Or.inl rfl, by simp [mo]⟩
  | k + 1, hk => by
    obtain ⟨h1, h2, h3⟩ := mo_b ha hb hc hn k (by omega)
    have h4 := ms_le (A := A) ha hb hc k hn
    have h5 : ms A a b c k ≤ 114912 := h4
    refine ⟨?_, ?_, ?_⟩
    · show (mo A a b c k).1 + ms A a b c k ≤ (k + 1) * 114912
      rw [Nat.add_mul, Nat.one_mul]
      omega
    · show (if (mo A a b c k).2.1 = -1 ∨ (mo A a b c k).2.2 < ms A a b c k then (qN k, ms A a b c k) else (mo A a b c k).2).1 = -1 ∨ ∃ j, j < k + 1 ∧ (if (mo A a b c k).2.1 = -1 ∨ (mo A a b c k).2.2 < ms A a b c k then (qN k, ms A a b c k) else (mo A a b c k).2).1 = qN j
      split
      · exact Or.inr ⟨k, by omega, rfl⟩
      · rcases h2 with h2 | ⟨j, hj, h2⟩
        · exact Or.inl h2
        · exact Or.inr ⟨j, by omega, h2⟩
    · show (if (mo A a b c k).2.1 = -1 ∨ (mo A a b c k).2.2 < ms A a b c k then (qN k, ms A a b c k) else (mo A a b c k).2).2 ≤ 114912
      split
      · exact h5
      · exact h3
def moW (A : Nat → Nat → Nat) (a b c : Nat) : List Int64 := [(mo A a b c (A 358 8)).2.1.toInt64] ++ [qJ ((mo A a b c (A 358 8)).2.2 : Int)]

theorem c_mornings {A X : Nat → Nat → Nat} {W : List Int64} {μ : MM} {v1 v2 v3 : Int32} {Q : Int32 → MM → Prop} (hV : Inv A X) (h : Cs A X W μ)
    (hy : ∀ a b c, a < 100 → b < 100 → c < 1000 → v1 = qN a → v2 = qN b → v3 = qN c → ∀ μ', Cs A X (moW A a b c) μ' → FC μ μ' → Q (qN (mo A a b c (A 358 8)).1) μ') (hn : ¬ (inr v1 100 ∧ inr v2 100 ∧ inr v3 1000) → Q (-1) μ) : G11_mornings v1 v2 v3 μ Q := by
  have hl : A 358 12 < 97 := hV.b 358 12 (by unfold dom; decide)
  have hH : A 358 8 < 25 := hV.b 358 8 (by unfold dom; decide)
  unfold G11_mornings G2_tellMornings
  refine within0_s 99 rfl (by decide) (fun q1 => ⟨fun r => absurd r (by decide), fun _ => ?_⟩) (fun q1 => ⟨fun _ => hn (fun r => q1 r.1), fun r => absurd rfl r⟩)
  refine within0_s 99 rfl (by decide) (fun q2 => ⟨fun r => absurd r (by decide), fun _ => ?_⟩) (fun q2 => ⟨fun _ => hn (fun r => q2 r.2.1), fun r => absurd rfl r⟩)
  refine within0_s 999 rfl (by decide) (fun q3 => ⟨fun _ => ?_, fun r => absurd r (by decide)⟩) (fun q3 => ⟨fun r => absurd rfl r, fun _ => hn (fun r => q3 r.2.2)⟩)
  obtain ⟨a, ha, rfl⟩ := q1
  obtain ⟨b, hb, rfl⟩ := q2
  obtain ⟨c, hc, rfl⟩ := q3
  have hA := h.1
  refine Lp.upE (A 358 8) (fun i => (qN (mo A a b c i).1, (mo A a b c i).2.1, qN (mo A a b c i).2.2, qN i, μ)) ?_
  intro i K hi hK
  obtain ⟨m1, m2, m3⟩ := mo_b (A := A) ha hb hc (by omega) i (by omega)
  have m4 : i * 114912 ≤ 24 * 114912 := Nat.mul_le_mul_right _ (by omega)
  rcases Nat.lt_or_ge i (A 358 8) with hl1 | hl1
  · have hk := hK hl1
    clear hK
    simp (disch := omega) only [bo_q0, bo_q1, qN_le, qN_lt, qN_eq, qN_vp, qN_nat, qN_neg1, qN_neg, qN_nn, qN_lit, qN_add, qN_sub, qN_mul, qN_div, Bd_eq, reduceIte, Nat.add_sub_cancel, dm_l, Nat.zero_le, Nat.not_lt_zero, Nat.reduceEqDiff, Nat.reduceLT, Nat.reduceLeDiff, Nat.reduceAdd, Nat.reduceSub, Nat.reduceMul, Nat.reduceDiv, Nat.reduceMod, reduceCtorEq, true_implies, false_implies, not_true_eq_false, not_false_eq_true, true_and, and_true, implies_true, and_false, false_and, forall_const, true_or, or_true, false_or, or_false, G2_tellMornings_L45, Ca_s8 hA, Nat.not_le.mpr hl1]
    refine Lp.upE (A 358 12) (fun j => (qN (sm (msA A a b c i) j), qN j, μ)) ?_
    intro j K2 hj hK2
    have s1 := ms_le (A := A) ha hb hc i (show j ≤ 96 by omega)
    rcases Nat.lt_or_ge j (A 358 12) with hl2 | hl2
    · have hk2 := hK2 hl2
      simp only [sm] at hk2
      have hi9 : j < 96 := by omega
      have b1 : A 367 j < 24 := hV.b 367 j (by unfold dom; omega)
      have b3 : A 373 j < 2 := hV.b 373 j (by unfold dom; omega)
      have b4 : A 374 j < 2 := hV.b 374 j (by unfold dom; omega)
      have b6 : A 375 j < 3 := hV.b 375 j (by unfold dom; omega)
      simp (disch := omega) only [bo_q0, bo_q1, qN_le, qN_lt, qN_eq, qN_vp, qN_nat, qN_neg1, qN_neg, qN_nn, qN_lit, qN_add, qN_sub, qN_mul, qN_div, Bd_eq, reduceIte, Nat.add_sub_cancel, dm_l, Nat.zero_le, Nat.not_lt_zero, Nat.reduceEqDiff, Nat.reduceLT, Nat.reduceLeDiff, Nat.reduceAdd, Nat.reduceSub, Nat.reduceMul, Nat.reduceDiv, Nat.reduceMod, reduceCtorEq, true_implies, false_implies, not_true_eq_false, not_false_eq_true, true_and, and_true, implies_true, and_false, false_and, forall_const, true_or, or_true, false_or, or_false, G2_tellMornings_L63, Ca_s12 hA, Ca_367 hA, Ca_373 hA, Ca_374 hA, Ca_375 hA, hi9, Nat.not_le.mpr hl2, G2_tellMornings_J149, G2_tellMornings_J148, G2_tellMornings_J121]
      unfold msA at hk2
      repeat' (first | (refine And.intro ?_ ?_) | (refine fun _ => ?_))
      all_goals
        repeat' split at hk2
        all_goals first
          | exact hk2
          | (exfalso; omega)
          | (rw [Nat.add_assoc] at hk2 ⊢; exact hk2)
          | (rw [Nat.add_assoc]; exact hk2)
    · have e : j = A 358 12 := by omega
      subst e
      have hs : sm (msA A a b c i) (A 358 12) = ms A a b c i := rfl
      have e1 : mo A a b c (i + 1) = ((mo A a b c i).1 + ms A a b c i, if (mo A a b c i).2.1 = -1 ∨ (mo A a b c i).2.2 < ms A a b c i then (qN i, ms A a b c i) else (mo A a b c i).2) := rfl
      rw [hs] at s1
      rw [e1] at hk
      have ng : ((mo A a b c i).2.1 < qN 0) ↔ (mo A a b c i).2.1 = -1 := by
        rcases m2 with m2 | ⟨k, hk5, m2⟩
        · rw [m2]; exact ⟨fun _ => rfl, fun _ => by decide⟩
        · rw [m2, show qN 0 = (0 : Int32) from rfl, qN_neg (by omega), qN_neg1 (by omega)]
      generalize mo A a b c i = M at *
      obtain ⟨M1, M2, M3⟩ := M
      simp only at hk m1 m2 m3 ng
      simp (disch := omega) only [bo_q0, bo_q1, qN_le, qN_lt, qN_eq, qN_vp, qN_nat, qN_neg1, qN_neg, qN_nn, qN_lit, qN_add, qN_sub, qN_mul, qN_div, Bd_eq, reduceIte, Nat.add_sub_cancel, dm_l, Nat.zero_le, Nat.not_lt_zero, Nat.reduceEqDiff, Nat.reduceLT, Nat.reduceLeDiff, Nat.reduceAdd, Nat.reduceSub, Nat.reduceMul, Nat.reduceDiv, Nat.reduceMod, reduceCtorEq, true_implies, false_implies, not_true_eq_false, not_false_eq_true, true_and, and_true, implies_true, and_false, false_and, forall_const, true_or, or_true, false_or, or_false, G2_tellMornings_L63, Ca_s12 hA, Nat.le_refl, hs, G2_tellMornings_J178]
      refine ⟨fun q => ?_, fun q => ⟨fun q2 => ?_, fun q2 => ?_⟩⟩
      · rw [if_pos (Or.inl (show M2 = -1 from q))] at hk; exact hk
      · rw [if_neg (fun r => by rcases r with r | r; exact q (show M2 = -qN 1 from r); omega)] at hk; exact hk
      · rw [if_pos (Or.inr (by omega))] at hk; exact hk
  · have e : i = A 358 8 := by omega
    subst e
    simp (disch := omega) only [bo_q0, bo_q1, qN_le, qN_lt, qN_eq, qN_vp, qN_nat, qN_neg1, qN_neg, qN_nn, qN_lit, qN_add, qN_sub, qN_mul, qN_div, Bd_eq, reduceIte, Nat.add_sub_cancel, dm_l, Nat.zero_le, Nat.not_lt_zero, Nat.reduceEqDiff, Nat.reduceLT, Nat.reduceLeDiff, Nat.reduceAdd, Nat.reduceSub, Nat.reduceMul, Nat.reduceDiv, Nat.reduceMod, reduceCtorEq, true_implies, false_implies, not_true_eq_false, not_false_eq_true, true_and, and_true, implies_true, and_false, false_and, forall_const, true_or, or_true, false_or, or_false, G2_tellMornings_L45, Ca_s8 hA, Nat.le_refl, qN_J]
    refine c_rclear h (fun μ2 h2 f2 => ?_)
    refine c_radd h2 (by decide) (fun μ3 h3 f3 => c_radd h3 (show (1 : Nat) < 10 by decide) (fun μ4 h4 f4 => ?_))
    exact hy a b c ha hb hc rfl rfl rfl _ h4 (((FC_row f2).tr (FC_row f3)).tr (FC_row f4))

theorem m_mornings {A X : Nat → Nat → Nat} {W : List Int64} {μ : MM} {v1 v2 v3 : Int32} {Q : Int32 → MM → Prop} (hV : Inv A X) (h : Ms A X W μ)
    (hy : ∀ a b c, a < 100 → b < 100 → c < 1000 → v1 = qN a → v2 = qN b → v3 = qN c → ∀ μ', Ms A X (moW A a b c) μ' → FM μ μ' → Q (qN (mo A a b c (A 358 8)).1) μ') (hn : ¬ (inr v1 100 ∧ inr v2 100 ∧ inr v3 1000) → ∀ μ', Ms A X W μ' → FM μ μ' → Q (-1) μ') : G12_mornings v1 v2 v3 μ Q := by
  have hl : A 358 12 < 97 := hV.b 358 12 (by unfold dom; decide)
  have hH : A 358 8 < 25 := hV.b 358 8 (by unfold dom; decide)
  unfold G12_mornings
  rw [Bd_eq]
  have h0 := m_thr h 0
  have f0 := fm_thr μ 0
  revert h0 f0
  generalize sI μ 358 0 0 = μ0
  intro h0 f0
  refine in0_s 99 rfl (by decide) (fun q1 => ⟨fun r => absurd r (by decide), fun _ => ?_⟩) (fun q1 => ⟨fun _ => hn (fun r => q1 r.1) _ h0 f0, fun r => absurd rfl r⟩)
  refine in0_s 99 rfl (by decide) (fun q2 => ⟨fun r => absurd r (by decide), fun _ => ?_⟩) (fun q2 => ⟨fun _ => hn (fun r => q2 r.2.1) _ h0 f0, fun r => absurd rfl r⟩)
  refine in0_s 999 rfl (by decide) (fun q3 => ⟨fun _ => ?_, fun r => absurd r (by decide)⟩) (fun q3 => ⟨fun r => absurd rfl r, fun _ => hn (fun r => q3 r.2.2) _ h0 f0⟩)
  obtain ⟨a, ha, rfl⟩ := q1
  obtain ⟨b, hb, rfl⟩ := q2
  obtain ⟨c, hc, rfl⟩ := q3
  have hA := h0.1
  refine Lp.upE (A 358 8) (fun i => (qN (mo A a b c i).1, (mo A a b c i).2.1, qN (mo A a b c i).2.2, qN i, μ0)) ?_
  intro i K hi hK
  obtain ⟨m1, m2, m3⟩ := mo_b (A := A) ha hb hc (by omega) i (by omega)
  have m4 : i * 114912 ≤ 24 * 114912 := Nat.mul_le_mul_right _ (by omega)
  rcases Nat.lt_or_ge i (A 358 8) with hl1 | hl1
  · have hk := hK hl1
    clear hK
    simp (disch := omega) only [bo_q0, bo_q1, qN_le, qN_lt, qN_eq, qN_vp, qN_nat, qN_neg1, qN_neg, qN_nn, qN_lit, qN_add, qN_sub, qN_mul, qN_div, Bd_eq, reduceIte, Nat.add_sub_cancel, dm_l, Nat.zero_le, Nat.not_lt_zero, Nat.reduceEqDiff, Nat.reduceLT, Nat.reduceLeDiff, Nat.reduceAdd, Nat.reduceSub, Nat.reduceMul, Nat.reduceDiv, Nat.reduceMod, reduceCtorEq, true_implies, false_implies, not_true_eq_false, not_false_eq_true, true_and, and_true, implies_true, and_false, false_and, forall_const, true_or, or_true, false_or, or_false, G12_mornings_L55, Ma_s8 hA, Nat.not_le.mpr hl1]
    refine Lp.upE (A 358 12) (fun j => (qN (sm (msA A a b c i) j), qN j, μ0)) ?_
    intro j K2 hj hK2
    have s1 := ms_le (A := A) ha hb hc i (show j ≤ 96 by omega)
    rcases Nat.lt_or_ge j (A 358 12) with hl2 | hl2
    · have hk2 := hK2 hl2
      simp only [sm] at hk2
      have hi9 : j < 96 := by omega
      have b1 : A 367 j < 24 := hV.b 367 j (by unfold dom; omega)
      have b3 : A 373 j < 2 := hV.b 373 j (by unfold dom; omega)
      have b4 : A 374 j < 2 := hV.b 374 j (by unfold dom; omega)
      have b6 : A 375 j < 3 := hV.b 375 j (by unfold dom; omega)
      simp (disch := omega) only [bo_q0, bo_q1, qN_le, qN_lt, qN_eq, qN_vp, qN_nat, qN_neg1, qN_neg, qN_nn, qN_lit, qN_add, qN_sub, qN_mul, qN_div, Bd_eq, reduceIte, Nat.add_sub_cancel, dm_l, Nat.zero_le, Nat.not_lt_zero, Nat.reduceEqDiff, Nat.reduceLT, Nat.reduceLeDiff, Nat.reduceAdd, Nat.reduceSub, Nat.reduceMul, Nat.reduceDiv, Nat.reduceMod, reduceCtorEq, true_implies, false_implies, not_true_eq_false, not_false_eq_true, true_and, and_true, implies_true, and_false, false_and, forall_const, true_or, or_true, false_or, or_false, G12_mornings_L70, Ma_s12 hA, Ma_367 hA, Ma_373 hA, Ma_374 hA, Ma_375 hA, hi9, Nat.not_le.mpr hl2, G12_mornings_J146, G12_mornings_J145, G12_mornings_J119]
      unfold msA at hk2
      repeat' (first | (refine And.intro ?_ ?_) | (refine fun _ => ?_))
      all_goals
        repeat' split at hk2
        all_goals first
          | exact hk2
          | (exfalso; omega)
          | (rw [Nat.add_assoc] at hk2 ⊢; exact hk2)
          | (rw [Nat.add_assoc]; exact hk2)
    · have e : j = A 358 12 := by omega
      subst e
      have hs : sm (msA A a b c i) (A 358 12) = ms A a b c i := rfl
      have e1 : mo A a b c (i + 1) = ((mo A a b c i).1 + ms A a b c i, if (mo A a b c i).2.1 = -1 ∨ (mo A a b c i).2.2 < ms A a b c i then (qN i, ms A a b c i) else (mo A a b c i).2) := rfl
      rw [hs] at s1
      rw [e1] at hk
      have ng : ((mo A a b c i).2.1 < qN 0) ↔ (mo A a b c i).2.1 = -1 := by
        rcases m2 with m2 | ⟨k, hk5, m2⟩
        · rw [m2]; exact ⟨fun _ => rfl, fun _ => by decide⟩
        · rw [m2, show qN 0 = (0 : Int32) from rfl, qN_neg (by omega), qN_neg1 (by omega)]
      generalize mo A a b c i = M at *
      obtain ⟨M1, M2, M3⟩ := M
      simp only at hk m1 m2 m3 ng
      simp (disch := omega) only [bo_q0, bo_q1, qN_le, qN_lt, qN_eq, qN_vp, qN_nat, qN_neg1, qN_neg, qN_nn, qN_lit, qN_add, qN_sub, qN_mul, qN_div, Bd_eq, reduceIte, Nat.add_sub_cancel, dm_l, Nat.zero_le, Nat.not_lt_zero, Nat.reduceEqDiff, Nat.reduceLT, Nat.reduceLeDiff, Nat.reduceAdd, Nat.reduceSub, Nat.reduceMul, Nat.reduceDiv, Nat.reduceMod, reduceCtorEq, true_implies, false_implies, not_true_eq_false, not_false_eq_true, true_and, and_true, implies_true, and_false, false_and, forall_const, true_or, or_true, false_or, or_false, G12_mornings_L70, Ma_s12 hA, Nat.le_refl, hs, G12_mornings_J175, ng]
      refine ⟨fun q => ?_, fun q => ⟨fun q2 => ?_, fun q2 => ?_⟩⟩
      · rw [if_pos (Or.inl (show M2 = -1 from q))] at hk; exact hk
      · rw [if_neg (fun r => by rcases r with r | r; exact q (show M2 = -qN 1 from r); omega)] at hk; exact hk
      · rw [if_pos (Or.inr (by omega))] at hk; exact hk
  · have e : i = A 358 8 := by omega
    subst e
    simp (disch := omega) only [bo_q0, bo_q1, qN_le, qN_lt, qN_eq, qN_vp, qN_nat, qN_neg1, qN_neg, qN_nn, qN_lit, qN_add, qN_sub, qN_mul, qN_div, Bd_eq, reduceIte, Nat.add_sub_cancel, dm_l, Nat.zero_le, Nat.not_lt_zero, Nat.reduceEqDiff, Nat.reduceLT, Nat.reduceLeDiff, Nat.reduceAdd, Nat.reduceSub, Nat.reduceMul, Nat.reduceDiv, Nat.reduceMod, reduceCtorEq, true_implies, false_implies, not_true_eq_false, not_false_eq_true, true_and, and_true, implies_true, and_false, false_and, forall_const, true_or, or_true, false_or, or_false, G12_mornings_L55, Ma_s8 hA, Nat.le_refl, qN_J]
    obtain ⟨h2, f2⟩ := m_rc h0
    refine m_radd h2 (by decide) (fun μ3 h3 f3 => m_radd h3 (show (1 : Nat) < 10 by decide) (fun μ4 h4 f4 => ?_))
    exact hy a b c ha hb hc rfl rfl rfl _ h4 (((f0.tr (FM_row f2)).tr (FM_row f3)).tr (FM_row f4))

def boW (A : Nat → Nat → Nat) (v : Nat) : List Int64 := ((((((([qJ (tr A (sW A v 99) 0 (A 358 12) : Int)] ++ [qJ (tc A (sW A v 99) 0 (A 358 12) : Int)]) ++ [qJ (tr A (sW A 0 (v - 1)) 0 (A 358 12) : Int)]) ++ [qJ (tc A (sW A 0 (v - 1)) 0 (A 358 12) : Int)]) ++
  [qJ (tr A (sW A v 99) 1 (A 358 12) : Int)]) ++ [qJ (tc A (sW A v 99) 1 (A 358 12) : Int)]) ++ [qJ (tr A (sW A 0 (v - 1)) 1 (A 358 12) : Int)]) ++ [qJ (tc A (sW A 0 (v - 1)) 1 (A 358 12) : Int)]) ++
  frc (asU A (sW A v 99) * (asL A (sW A 0 (v - 1)) : Int) - asU A (sW A 0 (v - 1)) * (asL A (sW A v 99) : Int)) (asL A (sW A v 99) * asL A (sW A 0 (v - 1)))
def boI (A : Nat → Nat → Nat) (v : Nat) : Int := asU A (sW A v 99) * (asL A (sW A 0 (v - 1)) : Int) - asU A (sW A 0 (v - 1)) * (asL A (sW A v 99) : Int)
def boR (x : Int) : Int32 := if 0 < x then 1 else if x < 0 then 2 else 0
theorem mul_b {a b : Int} (h1 : -9216 ≤ a) (h2 : a ≤ 9216) {n : Nat} (hb : b = (n : Int)) (hn : n ≤ 9216) : -84934656 ≤ a * b ∧ a * b ≤ 84934656 := by
  subst hb
  have h3 : a * (n : Int) ≤ 9216 * (n : Int) := Int.mul_le_mul_of_nonneg_right h2 (by omega)
  have h4 : -9216 * (n : Int) ≤ a * (n : Int) := Int.mul_le_mul_of_nonneg_right h1 (by omega)
  omega
theorem boI_b {A : Nat → Nat → Nat} {v : Nat} (h : A 358 12 < 97) : -169869312 ≤ boI A v ∧ boI A v ≤ 169869312 := by
  have u1 := asU_b (A := A) (S := sW A v 99) h
  have u2 := asU_b (A := A) (S := sW A 0 (v - 1)) h
  have l1 := asL_b (A := A) (S := sW A v 99) h
  have l2 := asL_b (A := A) (S := sW A 0 (v - 1)) h
  have p1 := mul_b u1.1 u1.2 rfl l2
  have p2 := mul_b u2.1 u2.2 rfl l1
  unfold boI
  omega
theorem boR_s {x : Int} (h1 : -169869312 ≤ x) (h2 : x ≤ 169869312) {μ : MM} {Q : Int32 → MM → Prop} (h : Q (boR x) μ) : ((lg_cmp (qJ x) 0) ≤ 0 → ((0 ≤ (lg_cmp (qJ x) 0) → Q 0 μ) ∧ (¬ (0 ≤ (lg_cmp (qJ x) 0)) → Q 2 μ))) ∧ (¬ ((lg_cmp (qJ x) 0) ≤ 0) → Q 1 μ) := by
  have e0 : (0 : Int64) = qJ 0 := rfl
  unfold boR at h
  rw [lg_le, lg_ge, e0, qJ_lt (by omega) (by omega) (by omega) (by omega), qJ_lt (by omega) (by omega) (by omega) (by omega)]
  refine ⟨fun q => ⟨fun q2 => ?_, fun q2 => ?_⟩, fun q => ?_⟩
  · rw [if_neg q, if_neg q2] at h; exact h
  · rw [if_neg q, if_pos (by omega)] at h; exact h
  · rw [if_pos (by omega)] at h; exact h
theorem inr1_w {v : Int32} {b : Nat} (hb : b < 2147483647) : (∃ k, 1 ≤ k ∧ k ≤ b ∧ v = qN k) ↔ (¬ v < 1 ∧ ¬ qN b < v) := by
  constructor
  · rintro ⟨j, h1, hj, rfl⟩
    rw [qN_lit 1, qN_lt (by omega) (by omega), qN_lt (by omega) (by omega)]
    omega
  · rintro ⟨h1, h2⟩
    have h3 : ¬ v < 0 := by
      intro q
      rw [Int32.lt_iff_toInt_lt] at h1 q
      have e0 : (0 : Int32).toInt = 0 := by decide
      have e1 : (1 : Int32).toInt = 1 := by decide
      omega
    obtain ⟨k, hk, rfl⟩ := qN_of h3
    rw [qN_lit 1, qN_lt (by omega) (by omega)] at h1
    rw [qN_lt (by omega) (by omega)] at h2
    exact ⟨k, by omega, by omega, rfl⟩
theorem within1_s {v w : Int32} (b : Nat) (hw : w = qN b) (hb : b < 2147483647) {μ : MM} {Q : Int32 → MM → Prop} (hy : (∃ k, 1 ≤ k ∧ k ≤ b ∧ v = qN k) → Q 1 μ) (hn : ¬ (∃ k, 1 ≤ k ∧ k ≤ b ∧ v = qN k) → Q 0 μ) : G11_within v 1 w μ Q := by
  subst hw
  rw [inr1_w hb] at hy hn
  exact ⟨fun q => hn (fun r => r.1 q), fun q => ⟨fun q2 => hn (fun r => r.2 q2), fun q2 => hy ⟨q, q2⟩⟩⟩
theorem in1_s {v : Int32} {w : Int64} (b : Nat) (hw : w = (qN b).toInt64) (hb : b < 2147483647) {μ : MM} {Q : Int32 → MM → Prop} (hy : (∃ k, 1 ≤ k ∧ k ≤ b ∧ v = qN k) → Q 1 μ) (hn : ¬ (∃ k, 1 ≤ k ∧ k ≤ b ∧ v = qN k) → Q 0 μ) : G12_in v.toInt64 1 w μ Q := by
  subst hw
  rw [inr1_w hb] at hy hn
  unfold G12_in G12_in_J17
  have e0 : (1 : Int64) = (1 : Int32).toInt64 := rfl
  rw [lg_lt, lg_gt, e0, i6_lt, i6_lt]
  exact ⟨fun q => hn (fun r => r.1 q), fun q => ⟨fun q2 => hn (fun r => r.2 q2), fun q2 => hy ⟨q, q2⟩⟩⟩
theorem c_both {A X : Nat → Nat → Nat} {W : List Int64} {μ : MM} {v1 : Int32} {Q : Int32 → MM → Prop} (hV : Inv A X) (h : Cs A X W μ)
    (hy : ∀ v, 1 ≤ v → v ≤ 99 → v1 = qN v → asB A (sW A v 99) → asB A (sW A 0 (v - 1)) → ∀ μ', Cs A X (boW A v) μ' → FC μ μ' → Q (boR (boI A v)) μ')
    (hz : ∀ v, 1 ≤ v → v ≤ 99 → v1 = qN v → ¬ (asB A (sW A v 99) ∧ asB A (sW A 0 (v - 1))) → ∀ μ', Cs A X W μ' → FC μ μ' → Q (-2) μ') (hn : ¬ (∃ k, 1 ≤ k ∧ k ≤ 99 ∧ v1 = qN k) → Q (-1) μ) : G11_both v1 μ Q := by
  have hl : A 358 12 < 97 := hV.b 358 12 (by unfold dom; decide)
  unfold G11_both G2_tellBoth
  refine within1_s 99 rfl (by decide) (fun q1 => ⟨fun _ => ?_, fun r => absurd r (by decide)⟩) (fun q1 => ⟨fun r => absurd rfl r, fun _ => hn q1⟩)
  obtain ⟨v, hv1, hv, rfl⟩ := q1
  have e1 : qN v - 1 = qN (v - 1) := qN_sub hv1
  have gc : ∀ k j : Nat, (k = 207 + 1 ∨ k = 207 + 2) → cS k j := fun k j q => by unfold cS; omega
  have gc2 : ∀ k j : Nat, (k = 210 + 1 ∨ k = 210 + 2) → cS k j := fun k j q => by unfold cS; omega
  refine c_gatherWorth hV h (lo := v) (mx := 99) (by omega) (by decide) (t := 207) (by decide) (by decide) (fun μ1 h1 f1 hT => ?_)
  rw [e1]
  refine c_gatherWorth hV h1 (lo := 0) (mx := v - 1) (by decide) (by omega) (t := 210) (by decide) (by decide) (fun μ2 h2 f2 hU => ?_)
  have hT2 := Tl_sm hT f2 (fun j => by omega)
  have fc := (FC_cS (f1.mo gc)).tr (FC_cS (f2.mo gc2))
  have ib := boI_b (A := A) (v := v) hl
  have w1 := hy v hv1 hv rfl
  have w2 := hz v hv1 hv rfl
  unfold boW at w1
  unfold boI at w1 ib
  have u1 := asU_b (A := A) (S := sW A v 99) hl
  have l1 := asL_b (A := A) (S := sW A v 99) hl
  have l2 := asL_b (A := A) (S := sW A 0 (v - 1)) hl
  generalize sW A v 99 = S1 at *
  generalize sW A 0 (v - 1) = S2 at *
  refine c_hasBoth hl hT2 (fun qb => ⟨fun r => absurd r (by decide), fun _ => ?_⟩) (fun qb => ⟨fun _ => w2 (fun r => qb r.1) _ h2 fc, fun r => absurd rfl r⟩)
  refine c_hasBoth hl hU (fun qc => ⟨fun _ => ?_, fun r => absurd r (by decide)⟩) (fun qc => ⟨fun r => absurd rfl r, fun _ => w2 (fun r => qc r.2) _ h2 fc⟩)
  have p1 := asL_p qb
  have p2 := asL_p qc
  have p3 := mulb l1 l2
  have p4 : 0 < asL A S1 * asL A S2 := Nat.mul_pos p1 p2
  refine c_rclear h2 (fun μ3 h3 f3 => ?_)
  have z5 : ∀ t : Nat, 207 ≤ t → ∀ j : Nat, ¬ ((t + 1 : Nat) = 151 ∨ (t + 1 : Nat) = 152) ∧ ¬ ((t + 2 : Nat) = 151 ∨ (t + 2 : Nat) = 152) := fun t ht j => by omega
  have hT3 := Tl_sm hT2 f3 (z5 207 (by decide))
  have hU3 := Tl_sm hU f3 (z5 210 (by decide))
  refine Lp.up 2 (fun i x => x.1 = qN i ∧ Cs A X (if i = 0 then [] else if i = 1 then (([qJ (tr A S1 0 (A 358 12) : Int)] ++ [qJ (tc A S1 0 (A 358 12) : Int)]) ++ [qJ (tr A S2 0 (A 358 12) : Int)]) ++ [qJ (tc A S2 0 (A 358 12) : Int)] else
    (((((([qJ (tr A S1 0 (A 358 12) : Int)] ++ [qJ (tc A S1 0 (A 358 12) : Int)]) ++ [qJ (tr A S2 0 (A 358 12) : Int)]) ++ [qJ (tc A S2 0 (A 358 12) : Int)]) ++ [qJ (tr A S1 1 (A 358 12) : Int)]) ++ [qJ (tc A S1 1 (A 358 12) : Int)]) ++ [qJ (tr A S2 1 (A 358 12) : Int)]) ++ [qJ (tc A S2 1 (A 358 12) : Int)]) x.2 ∧ Tl x.2 207 A S1 (A 358 12) ∧ Tl x.2 210 A S2 (A 358 12) ∧ FC μ x.2) ?_ ⟨rfl, (by simp only [reduceIte]; exact h3), hT3, hU3, fc.tr (FC_row f3)⟩
  rintro i K hi hK ⟨y, ν⟩ ⟨rfl, hC, hTn, hUn, hf⟩
  simp only at hC hTn hUn hf
  rcases Nat.lt_or_ge i 2 with hl1 | hl1
  · have hk := hK hl1
    have t1 := (Tl_J hl hTn i hl1).2
    simp (disch := omega) only [bo_q0, bo_q1, qN_le, qN_lt, qN_eq, qN_vp, qN_nat, qN_neg1, qN_neg, qN_nn, qN_lit, qN_add, qN_sub, qN_mul, qN_div, Bd_eq, reduceIte, Nat.add_sub_cancel, dm_l, Nat.zero_le, Nat.not_lt_zero, Nat.reduceEqDiff, Nat.reduceLT, Nat.reduceLeDiff, Nat.reduceAdd, Nat.reduceSub, Nat.reduceMul, Nat.reduceDiv, Nat.reduceMod, reduceCtorEq, true_implies, false_implies, not_true_eq_false, not_false_eq_true, true_and, and_true, implies_true, and_false, false_and, forall_const, true_or, or_true, false_or, or_false, G2_tellBoth_L70, Nat.not_le.mpr hl1, hl1, t1]
    refine c_radd hC (by rcases (show i = 0 ∨ i = 1 by omega) with rfl | rfl <;> simp) (fun ν1 g1 k1 => ?_)
    have hTa := Tl_sm hTn k1 (z5 207 (by decide))
    have hUa := Tl_sm hUn k1 (z5 210 (by decide))
    rw [show gI ν1 208 i = gI ν1 (207 + 1) i from rfl, (Tl_J hl hTa i hl1).1]
    refine c_radd g1 (by rcases (show i = 0 ∨ i = 1 by omega) with rfl | rfl <;> simp) (fun ν2 g2 k2 => ?_)
    have hTb := Tl_sm hTa k2 (z5 207 (by decide))
    have hUb := Tl_sm hUa k2 (z5 210 (by decide))
    rw [show gI ν2 212 i = gI ν2 (210 + 2) i from rfl, (Tl_J hl hUb i hl1).2]
    refine c_radd g2 (by rcases (show i = 0 ∨ i = 1 by omega) with rfl | rfl <;> simp) (fun ν3 g3 k3 => ?_)
    have hTc := Tl_sm hTb k3 (z5 207 (by decide))
    have hUc := Tl_sm hUb k3 (z5 210 (by decide))
    rw [show gI ν3 211 i = gI ν3 (210 + 1) i from rfl, (Tl_J hl hUc i hl1).1]
    refine c_radd g3 (by rcases (show i = 0 ∨ i = 1 by omega) with rfl | rfl <;> simp) (fun ν4 g4 k4 => hk _ ⟨rfl, ?_, Tl_sm hTc k4 (z5 207 (by decide)), Tl_sm hUc k4 (z5 210 (by decide)), (((hf.tr (FC_row k1)).tr (FC_row k2)).tr (FC_row k3)).tr (FC_row k4)⟩)
    rcases (show i = 0 ∨ i = 1 by omega) with rfl | rfl
    · exact g4
    · exact g4
  · have e : i = 2 := by omega
    subst e
    simp (disch := omega) only [bo_q0, bo_q1, qN_le, qN_lt, qN_eq, qN_vp, qN_nat, qN_neg1, qN_neg, qN_nn, qN_lit, qN_add, qN_sub, qN_mul, qN_div, Bd_eq, reduceIte, Nat.add_sub_cancel, dm_l, Nat.zero_le, Nat.not_lt_zero, Nat.reduceEqDiff, Nat.reduceLT, Nat.reduceLeDiff, Nat.reduceAdd, Nat.reduceSub, Nat.reduceMul, Nat.reduceDiv, Nat.reduceMod, reduceCtorEq, true_implies, false_implies, not_true_eq_false, not_false_eq_true, true_and, and_true, implies_true, and_false, false_and, forall_const, true_or, or_true, false_or, or_false, G2_tellBoth_L70]
    refine c_asU hl hTn (c_asL hl hUn (c_asU hl hUn (c_asL hl hTn ?_)))
    rw [qJ_mul, qJ_mul, qJ_sub]
    refine c_asL hl hTn (c_asL hl hUn ?_)
    rw [qJ_mul, ← Int.natCast_mul]
    refine c_rfrac hC (show (8 : Nat) < 9 by decide) ⟨by omega, by omega⟩ p4 (by omega) (fun μ4 h4 f4 => ?_)
    exact boR_s ib.1 ib.2 (w1 qb qc _ h4 (hf.tr (FC_row f4)))
