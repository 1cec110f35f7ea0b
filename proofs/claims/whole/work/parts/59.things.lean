/-! the things of a letter; laws and filters of both sides -/
def thv (A : Nat → Nat → Nat) (i : Nat) (u v w : Int32) (j : Nat) : Int32 := match j with
  | 0 => qN (A 369 i)
  | 1 => qN (A 370 i)
  | 2 => qN (A 371 i)
  | 3 => qN (A 372 i)
  | 4 => qN (A 360 (A 368 i))
  | 5 => qN (A 361 (A 368 i))
  | 6 => qN (A 362 (A 368 i))
  | 7 => qN (A 363 (A 368 i))
  | 8 => qN (A 364 (A 367 i))
  | 9 => qN (A 365 (A 367 i))
  | 10 => u
  | 11 => v
  | 12 => w
  | _ => qN (A 374 i)
theorem rnv_congr {b : Bool} {c : Nat → Nat} {n : Nat} {th th' : Nat → Int32} (hw : wfX b c n) (h : ∀ j, j < 14 → (b = false → j ≠ 10 ∧ j ≠ 11 ∧ j ≠ 12) → th j = th' j) : ∀ i, i ≤ n → rnv th c i = rnv th' c i := by
  intro i
  induction i with
  | zero => intro _; rfl
  | succ i ih =>
    intro hi
    show rvs th (c i) (hg c i) (rnv th c i) = rvs th' (c i) (hg c i) (rnv th' c i)
    rw [ih (by omega)]
    have ho := hw.1 i (by omega)
    unfold rvs
    by_cases h1 : c i < 1000
    · rw [if_pos h1, if_pos h1]
    · rw [if_neg h1, if_neg h1]
      by_cases h2 : c i < 2000
      · rw [if_pos h2, if_pos h2]
        rw [h (c i - 1000) (by unfold okm at ho; omega) (by
          intro hb
          unfold okm at ho
          rcases ho with q | q | q | q | q | q
          · omega
          · omega
          · rw [hb] at q; exact absurd q.1 (by decide)
          · omega
          · omega
          · omega)]
      · rw [if_neg h2, if_neg h2]
theorem evl_congr {b : Bool} {c : Nat → Nat} {n : Nat} {th th' : Nat → Int32} (hw : wfX b c n) (h : ∀ j, j < 14 → (b = false → j ≠ 10 ∧ j ≠ 11 ∧ j ≠ 12) → th j = th' j) : evl th c n = evl th' c n := by
  unfold evl
  rw [rnv_congr hw h n (Nat.le_refl n)]
theorem valueOf_s {A : Nat → Nat → Nat} {μ : MM} {Q : Int32 → MM → Prop} (hI : ∀ f i, dom f i → A f i < bnd f i) (hA : Ma A μ) {m i : Nat} (h1 : 1000 ≤ m) (h2 : m < 1014) (hi : i < 96)
    (h : Q (thv A i (gI μ 358 33) (gI μ 358 34) (gI μ 358 35) (m - 1000)) μ) : G12_valueOf (qN m) (qN i) μ Q := by
  obtain ⟨j, rfl⟩ : ∃ j, m = 1000 + j := ⟨m - 1000, by omega⟩
  have b1 : A 367 i < 24 := hI 367 i (by unfold dom; omega)
  have b2 : A 368 i < 12 := hI 368 i (by unfold dom; omega)
  have b3 : A 374 i < 2 := hI 374 i (by unfold dom; omega)
  rw [Nat.add_sub_cancel_left] at h
  have hj : j = 0 ∨ j = 1 ∨ j = 2 ∨ j = 3 ∨ j = 4 ∨ j = 5 ∨ j = 6 ∨ j = 7 ∨ j = 8 ∨ j = 9 ∨ j = 10 ∨ j = 11 ∨ j = 12 ∨ j = 13 := by omega
  rcases hj with rfl | rfl | rfl | rfl | rfl | rfl | rfl | rfl | rfl | rfl | rfl | rfl | rfl | rfl
  all_goals
    simp (disch := omega) only [bo_q0, bo_q1, qN_le, qN_lt, qN_eq, qN_vp, qN_nat, qN_neg1, qN_neg, qN_nn, qN_lit, qN_add, qN_sub, qN_mul, qN_div, Bd_eq, reduceIte, Nat.add_sub_cancel, dm_l, Nat.zero_le, Nat.not_lt_zero, Nat.reduceEqDiff, Nat.reduceLT, Nat.reduceLeDiff, Nat.reduceAdd, Nat.reduceSub, Nat.reduceMul, Nat.reduceDiv, Nat.reduceMod, reduceCtorEq, true_implies, false_implies, not_true_eq_false, not_false_eq_true, true_and, and_true, implies_true, and_false, false_and, forall_const, true_or, or_true, false_or, or_false, G12_valueOf, Ma_367 hA, Ma_368 hA, Ma_369 hA, Ma_370 hA, Ma_371 hA, Ma_372 hA, Ma_374 hA, Ma_360 hA, Ma_361 hA, Ma_362 hA, Ma_363 hA, Ma_364 hA, Ma_365 hA, hi, b1, b2, b3, flag_q]
    exact h
theorem m_worked {A : Nat → Nat → Nat} {μ : MM} {Q : Int32 → MM → Prop} (hI : ∀ f i, dom f i → A f i < bnd f i) (hA : Ma A μ) {p i n : Nat} {c : Nat → Nat} {b : Bool} (hp : p < 12) (hi : i < 96) (hn : A 378 p = n) (h0 : 0 < n)
    (hc : ∀ k, k < n → gI μ 377 (48 * p + k) = qN (c k)) (hw : wfX b c n)
    (hQ : ∀ μ', Sm (fun k _ => k = 379) μ μ' → Q (evl (thv A i (gI μ 358 33) (gI μ 358 34) (gI μ 358 35)) c n) μ') : G12_worked (qN p) (qN i) μ Q := by
  have hn4 : A 378 p < 41 := hI 378 p (by unfold dom; omega)
  have p13 : p < 13 := by omega
  refine Lp.up n (fun k x => x.1 = qN (hg c k) ∧ x.2.1 = qN k ∧ Sm (fun k _ => k = 379) μ x.2.2 ∧ ∀ j, j < hg c k → gI x.2.2 379 j = rnv (thv A i (gI μ 358 33) (gI μ 358 34) (gI μ 358 35)) c k j) ?_ ⟨rfl, rfl, Sm.rfl', fun j hj => absurd hj (by simp [hg])⟩
  rintro k K hk hK ⟨y1, y2, ν⟩ ⟨rfl, rfl, hs, hst⟩
  simp only at hs hst
  have hB : Ma A ν := hA.sm (hs.mo (fun a b q => by unfold mS; omega))
  have e33 : gI ν 358 33 = gI μ 358 33 := (hs.1 358 33 (by decide)).1
  have e34 : gI ν 358 34 = gI μ 358 34 := (hs.1 358 34 (by decide)).1
  have e35 : gI ν 358 35 = gI μ 358 35 := (hs.1 358 35 (by decide)).1
  generalize hth : thv A i (gI μ 358 33) (gI μ 358 34) (gI μ 358 35) = th at *
  have h40 := hgb hw k hk
  rcases Nat.lt_or_ge k n with hl | hl
  · have g2 : gI ν 377 (48 * p + k) = qN (c k) := (hs.1 377 (48 * p + k) (by show ¬ 377 = 379; decide)).1.trans (hc k hl)
    have hk2 := hK hl
    have ho := hw.1 k hl
    have hl2 : 48 * p + k < 624 := by omega
    have vb : c k < 2147483648 := by unfold okm at ho; omega
    simp (disch := omega) only [bo_q0, bo_q1, qN_le, qN_lt, qN_eq, qN_vp, qN_nat, qN_neg1, qN_neg, qN_nn, qN_lit, qN_add, qN_sub, qN_mul, qN_div, Bd_eq, reduceIte, Nat.add_sub_cancel, dm_l, Nat.zero_le, Nat.not_lt_zero, Nat.reduceEqDiff, Nat.reduceLT, Nat.reduceLeDiff, Nat.reduceAdd, Nat.reduceSub, Nat.reduceMul, Nat.reduceDiv, Nat.reduceMod, reduceCtorEq, true_implies, false_implies, not_true_eq_false, not_false_eq_true, true_and, and_true, implies_true, and_false, false_and, forall_const, true_or, or_true, false_or, or_false, G12_worked_L5, Ma_378 hB, hn, g2, p13, Nat.not_le.mpr hl, hl2]
    have up : ∀ (h' : Nat) (v : Int32) (ν' : MM) (j0 : Nat), hg c (k + 1) = h' → rnv th c (k + 1) = up1 (rnv th c k) j0 v → (∀ j, j < h' → j ≠ j0 → j < hg c k) → K (qN h', qN (k + 1), sI ν 379 j0 v) := by
      intro h' v ν' j0 e1 e2 e3
      refine hk2 _ ⟨by rw [e1], rfl, hs.wI _ rfl, fun j hj => ?_⟩
      simp only [gI_I, gI_J, gI_R, gJ_I, gJ_J, gJ_R, gR_I, gR_J, gR_R, e2, up1, true_and]
      by_cases e : j = j0
      · rw [if_pos e, if_pos e]
      · rw [if_neg e, if_neg e]
        exact hst j (e3 j (by rw [← e1]; exact hj) e)
    have vls : c k < 2000 → hg c (k + 1) = hg c k + 1 := fun h1 => by show hgs (c k) (hg c k) = _; unfold hgs; rw [if_pos (by omega)]
    have tt : 1000 ≤ c k → c k < 1014 → hg c k < 40 → G12_valueOf (qN (c k)) (qN i) ν (fun r48 μ47 => hg c k < 48 ∧ K (qN (hg c k + 1), qN (k + 1), sI μ47 379 (hg c k) r48)) := by
      intro h1 h2 h3
      refine valueOf_s hI hB h1 h2 hi ?_
      rw [e33, e34, e35, hth]
      have h48 : hg c k < 48 := by omega
      exact ⟨h48, up _ _ ν _ (vls (by omega)) (by show rvs th (c k) (hg c k) (rnv th c k) = _; unfold rvs; rw [if_neg (by omega), if_pos (by omega)]) (fun j a b => by omega)⟩
    rcases ho with ⟨h1, h2⟩ | ⟨h1, h2, h3⟩ | ⟨-, h1, h2, h3⟩ | ⟨-, h1, h3⟩ | ⟨h1, h2⟩ | ⟨h1, h2⟩
    · have h48 : hg c k < 48 := by omega
      have n1 : ¬ 2000 ≤ c k := by omega
      simp (disch := omega) only [bo_q0, bo_q1, qN_le, qN_lt, qN_eq, qN_vp, qN_nat, qN_neg1, qN_neg, qN_nn, qN_lit, qN_add, qN_sub, qN_mul, qN_div, Bd_eq, reduceIte, Nat.add_sub_cancel, dm_l, Nat.zero_le, Nat.not_lt_zero, Nat.reduceEqDiff, Nat.reduceLT, Nat.reduceLeDiff, Nat.reduceAdd, Nat.reduceSub, Nat.reduceMul, Nat.reduceDiv, Nat.reduceMod, reduceCtorEq, true_implies, false_implies, not_true_eq_false, not_false_eq_true, true_and, and_true, implies_true, and_false, false_and, forall_const, true_or, or_true, false_or, or_false, n1, Nat.not_le.mpr h1, h48]
      exact up _ _ ν _ (vls (by omega)) (by show rvs th (c k) (hg c k) (rnv th c k) = _; unfold rvs; rw [if_pos h1]) (fun j a b => by omega)
    · have n1 : ¬ 2000 ≤ c k := by omega
      simp only [n1, h1, true_implies, false_implies, not_true_eq_false, not_false_eq_true, true_and, and_true, implies_true, and_false, false_and, forall_const, true_or, or_true, false_or, or_false]
      exact tt h1 (by omega) h3
    · have n1 : ¬ 2000 ≤ c k := by omega
      have n2 : 1000 ≤ c k := by omega
      simp only [n1, n2, true_implies, false_implies, not_true_eq_false, not_false_eq_true, true_and, and_true, implies_true, and_false, false_and, forall_const, true_or, or_true, false_or, or_false]
      exact tt (by omega) (by omega) h3
    · have n1 : ¬ 2000 ≤ c k := by omega
      have n2 : 1000 ≤ c k := by omega
      simp only [n1, n2, true_implies, false_implies, not_true_eq_false, not_false_eq_true, true_and, and_true, implies_true, and_false, false_and, forall_const, true_or, or_true, false_or, or_false]
      exact tt (by omega) (by omega) h3
    · have hh : hg c (k + 1) = hg c k := by show hgs (c k) (hg c k) = _; unfold hgs; rw [if_neg (by omega), if_pos h1]
      have h48 : hg c k - 1 < 48 := by omega
      have hsv : gI ν 379 (hg c k - 1) = rnv th c k (hg c k - 1) := hst _ (by omega)
      rcases h1 with h1 | h1
      · simp (disch := omega) only [bo_q0, bo_q1, qN_le, qN_lt, qN_eq, qN_vp, qN_nat, qN_neg1, qN_neg, qN_nn, qN_lit, qN_add, qN_sub, qN_mul, qN_div, Bd_eq, reduceIte, Nat.add_sub_cancel, dm_l, Nat.zero_le, Nat.not_lt_zero, Nat.reduceEqDiff, Nat.reduceLT, Nat.reduceLeDiff, Nat.reduceAdd, Nat.reduceSub, Nat.reduceMul, Nat.reduceDiv, Nat.reduceMod, reduceCtorEq, true_implies, false_implies, not_true_eq_false, not_false_eq_true, true_and, and_true, implies_true, and_false, false_and, forall_const, true_or, or_true, false_or, or_false, h1, h48, hsv, G12_worked_J101]
        have hr : ∀ v, (if rnv th c k (hg c k - 1) = 0 then 1 else 0) = v → rnv th c (k + 1) = up1 (rnv th c k) (hg c k - 1) v := by
          intro v hv
          show rvs th (c k) (hg c k) (rnv th c k) = _
          unfold rvs
          rw [h1, if_neg (by omega), if_neg (by omega), if_pos rfl, hv]
        have f1 : (1 : Nat) < 2 := by decide
        have f0 : (0 : Nat) < 2 := by decide
        refine ⟨fun q => ?_, fun q => ?_⟩
        · simp (disch := omega) only [bo_q0, bo_q1, qN_le, qN_lt, qN_eq, qN_vp, qN_nat, qN_neg1, qN_neg, qN_nn, qN_lit, qN_add, qN_sub, qN_mul, qN_div, Bd_eq, reduceIte, Nat.add_sub_cancel, dm_l, Nat.zero_le, Nat.not_lt_zero, Nat.reduceEqDiff, Nat.reduceLT, Nat.reduceLeDiff, Nat.reduceAdd, Nat.reduceSub, Nat.reduceMul, Nat.reduceDiv, Nat.reduceMod, reduceCtorEq, true_implies, false_implies, not_true_eq_false, not_false_eq_true, true_and, and_true, implies_true, and_false, false_and, forall_const, true_or, or_true, false_or, or_false, flag_q, h48]
          exact up _ _ ν _ hh (hr _ (if_neg q)) (fun j a b => by omega)
        · simp (disch := omega) only [bo_q0, bo_q1, qN_le, qN_lt, qN_eq, qN_vp, qN_nat, qN_neg1, qN_neg, qN_nn, qN_lit, qN_add, qN_sub, qN_mul, qN_div, Bd_eq, reduceIte, Nat.add_sub_cancel, dm_l, Nat.zero_le, Nat.not_lt_zero, Nat.reduceEqDiff, Nat.reduceLT, Nat.reduceLeDiff, Nat.reduceAdd, Nat.reduceSub, Nat.reduceMul, Nat.reduceDiv, Nat.reduceMod, reduceCtorEq, true_implies, false_implies, not_true_eq_false, not_false_eq_true, true_and, and_true, implies_true, and_false, false_and, forall_const, true_or, or_true, false_or, or_false, flag_q, h48]
          exact up _ _ ν _ hh (hr _ (if_pos q)) (fun j a b => by omega)
      · simp (disch := omega) only [bo_q0, bo_q1, qN_le, qN_lt, qN_eq, qN_vp, qN_nat, qN_neg1, qN_neg, qN_nn, qN_lit, qN_add, qN_sub, qN_mul, qN_div, Bd_eq, reduceIte, Nat.add_sub_cancel, dm_l, Nat.zero_le, Nat.not_lt_zero, Nat.reduceEqDiff, Nat.reduceLT, Nat.reduceLeDiff, Nat.reduceAdd, Nat.reduceSub, Nat.reduceMul, Nat.reduceDiv, Nat.reduceMod, reduceCtorEq, true_implies, false_implies, not_true_eq_false, not_false_eq_true, true_and, and_true, implies_true, and_false, false_and, forall_const, true_or, or_true, false_or, or_false, h1, h48, hsv]
        exact up _ _ ν _ hh (by show rvs th (c k) (hg c k) (rnv th c k) = _; unfold rvs; rw [h1, if_neg (by omega), if_neg (by omega), if_neg (by omega), if_pos rfl]) (fun j a b => by omega)
    · obtain ⟨op, hop⟩ : ∃ op, c k = 2000 + op := ⟨c k - 2000, by omega⟩
      have hm1 : qN (hg c k) + -qN 1 = qN (hg c k - 1) := by
        rw [← Int32.sub_eq_add_neg, qN_sub (by omega)]
      have h48 : hg c k - 1 < 48 := by omega
      have h47 : hg c k - 1 - 1 < 48 := by omega
      have n1 : 2000 ≤ 2000 + op := by omega
      have n2 : ¬ 2000 + op = 2033 := by omega
      have n3 : ¬ 2000 + op = 2126 := by omega
      have hv1 : gI ν 379 (hg c k - 1) = rnv th c k (hg c k - 1) := hst _ (by omega)
      have hv2 : gI ν 379 (hg c k - 1 - 1) = rnv th c k (hg c k - 2) := hst _ (by omega)
      have hh : hg c (k + 1) = hg c k - 1 := by show hgs (c k) (hg c k) = _; unfold hgs; rw [if_neg (by omega), if_neg (by omega)]
      simp (disch := omega) only [bo_q0, bo_q1, qN_le, qN_lt, qN_eq, qN_vp, qN_nat, qN_neg1, qN_neg, qN_nn, qN_lit, qN_add, qN_sub, qN_mul, qN_div, Bd_eq, reduceIte, Nat.add_sub_cancel, dm_l, Nat.zero_le, Nat.not_lt_zero, Nat.reduceEqDiff, Nat.reduceLT, Nat.reduceLeDiff, Nat.reduceAdd, Nat.reduceSub, Nat.reduceMul, Nat.reduceDiv, Nat.reduceMod, reduceCtorEq, true_implies, false_implies, not_true_eq_false, not_false_eq_true, true_and, and_true, implies_true, and_false, false_and, forall_const, true_or, or_true, false_or, or_false, hop, n1, n2, n3, hm1, h48, h47, hv1, hv2, Nat.add_sub_cancel_left]
      refine acted_s (by omega) ?_
      refine up _ _ ν _ hh ?_ (fun j a b => by omega)
      show rvs th (c k) (hg c k) (rnv th c k) = _
      unfold rvs
      rw [hop, if_neg (by omega), if_neg (by omega), if_neg (by omega), if_neg (by omega), Nat.add_sub_cancel_left]
      rfl
  · have e : k = n := by omega
    subst e
    have h1 := hw.2 h0
    simp (disch := omega) only [bo_q0, bo_q1, qN_le, qN_lt, qN_eq, qN_vp, qN_nat, qN_neg1, qN_neg, qN_nn, qN_lit, qN_add, qN_sub, qN_mul, qN_div, Bd_eq, reduceIte, Nat.add_sub_cancel, dm_l, Nat.zero_le, Nat.not_lt_zero, Nat.reduceEqDiff, Nat.reduceLT, Nat.reduceLeDiff, Nat.reduceAdd, Nat.reduceSub, Nat.reduceMul, Nat.reduceDiv, Nat.reduceMod, reduceCtorEq, true_implies, false_implies, not_true_eq_false, not_false_eq_true, true_and, and_true, implies_true, and_false, false_and, forall_const, true_or, or_true, false_or, or_false, G12_worked_L5, Ma_378 hB, hn, p13, Nat.le_refl]
    rw [hst 0 (by omega)]
    exact hQ _ hs

def uT (A : Nat → Nat → Nat) (h n : Nat) : Nat := cnt (fun i => decide (A 367 i = h) && decide (A 373 i = 1) && decide (A 374 i = 1)) n
def vT (A : Nat → Nat → Nat) (h n : Nat) : Nat := cnt (fun i => decide (A 367 i = h) && decide (A 373 i = 1)) n
def wT (A : Nat → Nat → Nat) (h : Nat) : Nat → Nat
  | 0 => 0
  | n + 1 => if A 367 n = h ∧ A 373 n = 1 then (if wT A h n < A 369 n then A 369 n else wT A h n) else wT A h n
theorem wT_lt {A : Nat → Nat → Nat} (hI : ∀ f i, dom f i → A f i < bnd f i) (h : Nat) : ∀ n, n ≤ 96 → wT A h n < 100
  | 0, _ => by simp [wT]
  | n + 1, hn => by
    have h1 := wT_lt hI h n (by omega)
    have h2 : A 369 n < 100 := hI 369 n (by unfold dom; omega)
    unfold wT
    split
    · split <;> omega
    · omega
theorem c_lookAt {A : Nat → Nat → Nat} {μ : MM} {Q : MM → Prop} (hI : ∀ f i, dom f i → A f i < bnd f i) (hA : Ca A μ) {i : Nat} (hi : i < 96)
    (h : ∀ μ', Sm (fun k _ => k = 12) μ μ' → (∀ j, j < 14 → gI μ' 12 j = thv A i 0 0 0 j) → Q μ') : G10_lookAt (19 + i) μ Q := by
  have b1 : A 367 i < 24 := hI 367 i (by unfold dom; omega)
  have b2 : A 368 i < 12 := hI 368 i (by unfold dom; omega)
  have b3 : A 374 i < 2 := hI 374 i (by unfold dom; omega)
  have n12 : ∀ i : Nat, (19 + i = 12) = False := fun i => by simp only [eq_iff_iff, iff_false]; omega
  simp (disch := omega) only [bo_q0, bo_q1, qN_le, qN_lt, qN_eq, qN_vp, qN_nat, qN_neg1, qN_neg, qN_nn, qN_lit, qN_add, qN_sub, qN_mul, qN_div, Bd_eq, reduceIte, Nat.add_sub_cancel, dm_l, Nat.zero_le, Nat.not_lt_zero, Nat.reduceEqDiff, Nat.reduceLT, Nat.reduceLeDiff, Nat.reduceAdd, Nat.reduceSub, Nat.reduceMul, Nat.reduceDiv, Nat.reduceMod, reduceCtorEq, true_implies, false_implies, not_true_eq_false, not_false_eq_true, true_and, and_true, implies_true, and_false, false_and, forall_const, true_or, or_true, false_or, or_false, G10_lookAt, gI_I, gI_J, gI_R, gJ_I, gJ_J, gJ_R, gR_I, gR_J, gR_R, n12, Ca_367 hA, Ca_368 hA, Ca_369 hA, Ca_370 hA, Ca_371 hA, Ca_372 hA, Ca_374 hA, Ca_360 hA, Ca_361 hA, Ca_362 hA, Ca_363 hA, Ca_364 hA, Ca_365 hA, hi, b1, b2]
  have fin : ∀ v : Int32, v = qN (A 374 i) → Q (sI (sI (sI (sI (sI (sI (sI (sI (sI (sI (sI (sI (sI (sI μ 12 0 (qN (A 369 i))) 12 1 (qN (A 370 i))) 12 2 (qN (A 371 i))) 12 3 (qN (A 372 i))) 12 4 (qN (A 360 (A 368 i)))) 12 5 (qN (A 361 (A 368 i)))) 12 6 (qN (A 362 (A 368 i)))) 12 7 (qN (A 363 (A 368 i)))) 12 8 (qN (A 364 (A 367 i)))) 12 9 (qN (A 365 (A 367 i)))) 12 10 (qN 0)) 12 11 (qN 0)) 12 12 (qN 0)) 12 13 v) := by
    intro v hv
    refine h _ ?_ (fun j hj => ?_)
    · repeat (refine Sm.wI ?_ _ (by exact rfl))
      exact Sm.rfl'
    have hj : j = 0 ∨ j = 1 ∨ j = 2 ∨ j = 3 ∨ j = 4 ∨ j = 5 ∨ j = 6 ∨ j = 7 ∨ j = 8 ∨ j = 9 ∨ j = 10 ∨ j = 11 ∨ j = 12 ∨ j = 13 := by omega
    rcases hj with rfl | rfl | rfl | rfl | rfl | rfl | rfl | rfl | rfl | rfl | rfl | rfl | rfl | rfl
    all_goals
      simp only [gI_I, gI_J, gI_R, gJ_I, gJ_J, gJ_R, gR_I, gR_J, gR_R, Nat.reduceEqDiff, true_implies, false_implies, not_true_eq_false, not_false_eq_true, true_and, and_true, implies_true, and_false, false_and, forall_const, true_or, or_true, false_or, or_false, reduceIte]
      try rfl
    exact hv
  refine ⟨fun q => fin _ ?_, fun q => fin _ ?_⟩
  · rw [q]
  · rw [show A 374 i = 1 by omega]
theorem c_lookAtHouse {A : Nat → Nat → Nat} {μ : MM} {Q : MM → Prop} (hI : ∀ f i, dom f i → A f i < bnd f i) (hA : Ca A μ) {hh : Nat} (hh9 : hh < 24) (z0 : gI μ 12 10 = 0) (z1 : gI μ 12 11 = 0) (z2 : gI μ 12 12 = 0)
    (h : ∀ μ', Sm (fun k j => k = 12 ∧ 10 ≤ j ∧ j < 13) μ μ' → gI μ' 12 10 = qN (uT A hh (A 358 12)) → gI μ' 12 11 = qN (vT A hh (A 358 12)) → gI μ' 12 12 = qN (wT A hh (A 358 12)) → Q μ') : G10_lookAtHouse (qN hh) μ Q := by
  have hn : A 358 12 < 97 := hI 358 12 (by unfold dom; decide)
  refine Lp.up (A 358 12) (fun i x => x.1 = qN i ∧ Sm (fun k j => k = 12 ∧ 10 ≤ j ∧ j < 13) μ x.2 ∧ gI x.2 12 10 = qN (uT A hh i) ∧ gI x.2 12 11 = qN (vT A hh i) ∧ gI x.2 12 12 = qN (wT A hh i)) ?_ ⟨rfl, Sm.rfl', z0, z1, z2⟩
  rintro i K hi hK ⟨y, ν⟩ ⟨rfl, hs, e0, e1, e2⟩
  simp only at hs e0 e1 e2
  have hB : Ca A ν := hA.sm hs (fun a b q => Or.inl (by unfold cS; omega))
  rcases Nat.lt_or_ge i (A 358 12) with hl | hl
  · have hk := hK hl
    have hi9 : i < 96 := by omega
    have b1 : A 367 i < 24 := hI 367 i (by unfold dom; omega)
    have b3 : A 373 i < 2 := hI 373 i (by unfold dom; omega)
    have b4 : A 374 i < 2 := hI 374 i (by unfold dom; omega)
    have b5 : A 369 i < 100 := hI 369 i (by unfold dom; omega)
    have w1 := wT_lt hI hh i (by omega)
    have n12 : ∀ i : Nat, (19 + i = 12) = False := fun i => by simp only [eq_iff_iff, iff_false]; omega
    simp (disch := omega) only [bo_q0, bo_q1, qN_le, qN_lt, qN_eq, qN_vp, qN_nat, qN_neg1, qN_neg, qN_nn, qN_lit, qN_add, qN_sub, qN_mul, qN_div, Bd_eq, reduceIte, Nat.add_sub_cancel, dm_l, Nat.zero_le, Nat.not_lt_zero, Nat.reduceEqDiff, Nat.reduceLT, Nat.reduceLeDiff, Nat.reduceAdd, Nat.reduceSub, Nat.reduceMul, Nat.reduceDiv, Nat.reduceMod, reduceCtorEq, true_implies, false_implies, not_true_eq_false, not_false_eq_true, true_and, and_true, implies_true, and_false, false_and, forall_const, true_or, or_true, false_or, or_false, G10_lookAtHouse_L2, Ca_s12 hB, Ca_367 hB, Ca_373 hB, Ca_374 hB, e0, e1, e2, hi9, Nat.not_le.mpr hl]
    have fin : ∀ (a : Nat) (q : A 374 i = a), A 367 i = hh → ¬ A 373 i = 0 → G10_lookAtHouse_J52 (qN hh) (qN i) (19 + i) (qN a) (qN (uT A hh i)) (qN 10) ν K Q := by
      intro a q q1 q2
      subst q
      have q3 : A 373 i = 1 := by omega
      have u1 : uT A hh (i + 1) = uT A hh i + A 374 i := by
        show _ + (decide (A 367 i = hh) && decide (A 373 i = 1) && decide (A 374 i = 1)).toNat = _
        rcases (show A 374 i = 0 ∨ A 374 i = 1 by omega) with r | r <;> simp [q1, q3, r, uT]
      have v1 : vT A hh (i + 1) = vT A hh i + 1 := by
        show _ + (decide (A 367 i = hh) && decide (A 373 i = 1)).toNat = _
        simp [q1, q3, vT]
      have x1 : wT A hh (i + 1) = if wT A hh i < A 369 i then A 369 i else wT A hh i := by
        show (if A 367 i = hh ∧ A 373 i = 1 then _ else _) = _
        rw [if_pos ⟨q1, q3⟩]
      simp (disch := omega) only [bo_q0, bo_q1, qN_le, qN_lt, qN_eq, qN_vp, qN_nat, qN_neg1, qN_neg, qN_nn, qN_lit, qN_add, qN_sub, qN_mul, qN_div, Bd_eq, reduceIte, Nat.add_sub_cancel, dm_l, Nat.zero_le, Nat.not_lt_zero, Nat.reduceEqDiff, Nat.reduceLT, Nat.reduceLeDiff, Nat.reduceAdd, Nat.reduceSub, Nat.reduceMul, Nat.reduceDiv, Nat.reduceMod, reduceCtorEq, true_implies, false_implies, not_true_eq_false, not_false_eq_true, true_and, and_true, implies_true, and_false, false_and, forall_const, true_or, or_true, false_or, or_false, G10_lookAtHouse_J52, gI_I, gI_J, gI_R, gJ_I, gJ_J, gJ_R, gR_I, gR_J, gR_R, n12, e1, e2, Ca_369 hB, hi9, G10_lookAtHouse_J99]
      have sm3 := fun (v1 v2 v3 : Int32) => ((hs.wI (k := 12) (j := 10) v1 (by decide)).wI (k := 12) (j := 11) v2 (by decide)).wI (k := 12) (j := 12) v3 (by decide)
      refine ⟨fun q5 => hk _ ⟨rfl, sm3 _ _ _, ?_, ?_, ?_⟩, fun q5 => hk _ ⟨rfl, sm3 _ _ _, ?_, ?_, ?_⟩⟩
      all_goals simp only [gI_I, gI_J, gI_R, gJ_I, gJ_J, gJ_R, gR_I, gR_J, gR_R, Nat.reduceEqDiff, true_implies, false_implies, not_true_eq_false, not_false_eq_true, true_and, and_true, implies_true, and_false, false_and, forall_const, true_or, or_true, false_or, or_false, reduceIte, u1, v1, x1]
      · rw [if_neg (by omega)]
      · rw [if_pos (by omega)]
    refine ⟨fun q => hk _ ⟨rfl, hs, ?_, ?_, ?_⟩, fun q => ⟨fun q2 => hk _ ⟨rfl, hs, ?_, ?_, ?_⟩, fun q2 => ⟨fun q3 => ?_, fun q3 => ?_⟩⟩⟩
    · rw [e0]; congr 1; simp [uT, cnt, q]
    · rw [e1]; congr 1; simp [vT, cnt, q]
    · rw [e2]; congr 1; simp [wT, q]
    · rw [e0]; congr 1; simp [uT, cnt, q2]
    · rw [e1]; congr 1; simp [vT, cnt, q2]
    · rw [e2]; congr 1; simp [wT, q2]
    · exact fin 0 q3 q q2
    · exact fin 1 (by omega) q q2
  · have e : i = A 358 12 := by omega
    subst e
    simp (disch := omega) only [bo_q0, bo_q1, qN_le, qN_lt, qN_eq, qN_vp, qN_nat, qN_neg1, qN_neg, qN_nn, qN_lit, qN_add, qN_sub, qN_mul, qN_div, Bd_eq, reduceIte, Nat.add_sub_cancel, dm_l, Nat.zero_le, Nat.not_lt_zero, Nat.reduceEqDiff, Nat.reduceLT, Nat.reduceLeDiff, Nat.reduceAdd, Nat.reduceSub, Nat.reduceMul, Nat.reduceDiv, Nat.reduceMod, reduceCtorEq, true_implies, false_implies, not_true_eq_false, not_false_eq_true, true_and, and_true, implies_true, and_false, false_and, forall_const, true_or, or_true, false_or, or_false, G10_lookAtHouse_L2, Ca_s12 hB, Nat.le_refl]
    exact h _ hs e0 e1 e2
theorem m_countsTill {A : Nat → Nat → Nat} {μ : MM} {Q : MM → Prop} (hI : ∀ f i, dom f i → A f i < bnd f i) (hA : Ma A μ) {hh : Nat} (hh9 : hh < 24)
    (h : ∀ μ', Sm (fun k j => k = 358 ∧ 33 ≤ j ∧ j < 36) μ μ' → gI μ' 358 33 = qN (uT A hh (A 358 12)) → gI μ' 358 34 = qN (vT A hh (A 358 12)) → gI μ' 358 35 = qN (wT A hh (A 358 12)) → Q μ') : G12_countsTill (qN hh) μ Q := by
  have hn : A 358 12 < 97 := hI 358 12 (by unfold dom; decide)
  unfold G12_countsTill
  rw [Bd_eq, Bd_eq, Bd_eq]
  refine Lp.up (A 358 12) (fun i x => x.1 = qN i ∧ Sm (fun k j => k = 358 ∧ 33 ≤ j ∧ j < 36) μ x.2 ∧ gI x.2 358 33 = qN (uT A hh i) ∧ gI x.2 358 34 = qN (vT A hh i) ∧ gI x.2 358 35 = qN (wT A hh i)) ?_ ⟨rfl, ((Sm.rfl'.wI _ (by decide)).wI _ (by decide)).wI _ (by decide), rfl, rfl, rfl⟩
  rintro i K hi hK ⟨y, ν⟩ ⟨rfl, hs, e0, e1, e2⟩
  simp only at hs e0 e1 e2
  have hB : Ma A ν := hA.sm (hs.mo (fun a b q => by unfold mS; omega))
  rcases Nat.lt_or_ge i (A 358 12) with hl | hl
  · have hk := hK hl
    have hi9 : i < 96 := by omega
    have b1 : A 367 i < 24 := hI 367 i (by unfold dom; omega)
    have b3 : A 373 i < 2 := hI 373 i (by unfold dom; omega)
    have b4 : A 374 i < 2 := hI 374 i (by unfold dom; omega)
    have b5 : A 369 i < 100 := hI 369 i (by unfold dom; omega)
    have w1 := wT_lt hI hh i (by omega)
    simp (disch := omega) only [bo_q0, bo_q1, qN_le, qN_lt, qN_eq, qN_vp, qN_nat, qN_neg1, qN_neg, qN_nn, qN_lit, qN_add, qN_sub, qN_mul, qN_div, Bd_eq, reduceIte, Nat.add_sub_cancel, dm_l, Nat.zero_le, Nat.not_lt_zero, Nat.reduceEqDiff, Nat.reduceLT, Nat.reduceLeDiff, Nat.reduceAdd, Nat.reduceSub, Nat.reduceMul, Nat.reduceDiv, Nat.reduceMod, reduceCtorEq, true_implies, false_implies, not_true_eq_false, not_false_eq_true, true_and, and_true, implies_true, and_false, false_and, forall_const, true_or, or_true, false_or, or_false, G12_countsTill_L17, Ma_s12 hB, Ma_367 hB, Ma_373 hB, Ma_374 hB, Ma_369 hB, e0, e1, e2, hi9, Nat.not_le.mpr hl, flag_q, gI_I, gI_J, gI_R, gJ_I, gJ_J, gJ_R, gR_I, gR_J, gR_R]
    have sm3 := fun (v1 v2 v3 : Int32) => ((hs.wI (k := 358) (j := 33) v1 (by decide)).wI (k := 358) (j := 34) v2 (by decide)).wI (k := 358) (j := 35) v3 (by decide)
    refine ⟨fun q => hk _ ⟨rfl, hs, ?_, ?_, ?_⟩, fun q => ⟨fun q2 => hk _ ⟨rfl, hs, ?_, ?_, ?_⟩, fun q2 => hk _ ⟨rfl, sm3 _ _ _, ?_, ?_, ?_⟩⟩⟩
    · rw [e0]; congr 1; simp [uT, cnt, q]
    · rw [e1]; congr 1; simp [vT, cnt, q]
    · rw [e2]; congr 1; simp [wT, q]
    · rw [e0]; congr 1; simp [uT, cnt, q2]
    · rw [e1]; congr 1; simp [vT, cnt, q2]
    · rw [e2]; congr 1; simp [wT, q2]
    · have q3 : A 373 i = 1 := by omega
      simp only [gI_I, gI_J, gI_R, gJ_I, gJ_J, gJ_R, gR_I, gR_J, gR_R, Nat.reduceEqDiff, true_implies, false_implies, not_true_eq_false, not_false_eq_true, true_and, and_true, implies_true, and_false, false_and, forall_const, true_or, or_true, false_or, or_false, reduceIte]
      congr 1
      rcases (show A 374 i = 0 ∨ A 374 i = 1 by omega) with r | r <;> simp [uT, cnt, q, q3, r]
    · have q3 : A 373 i = 1 := by omega
      simp only [gI_I, gI_J, gI_R, gJ_I, gJ_J, gJ_R, gR_I, gR_J, gR_R, Nat.reduceEqDiff, true_implies, false_implies, not_true_eq_false, not_false_eq_true, true_and, and_true, implies_true, and_false, false_and, forall_const, true_or, or_true, false_or, or_false, reduceIte]
      congr 1
      simp [vT, cnt, q, q3]
    · have q3 : A 373 i = 1 := by omega
      simp only [gI_I, gI_J, gI_R, gJ_I, gJ_J, gJ_R, gR_I, gR_J, gR_R, Nat.reduceEqDiff, true_implies, false_implies, not_true_eq_false, not_false_eq_true, true_and, and_true, implies_true, and_false, false_and, forall_const, true_or, or_true, false_or, or_false, reduceIte]
      simp only [wT, q, q3, and_self, reduceIte]
      split <;> rfl
  · have e : i = A 358 12 := by omega
    subst e
    simp (disch := omega) only [bo_q0, bo_q1, qN_le, qN_lt, qN_eq, qN_vp, qN_nat, qN_neg1, qN_neg, qN_nn, qN_lit, qN_add, qN_sub, qN_mul, qN_div, Bd_eq, reduceIte, Nat.add_sub_cancel, dm_l, Nat.zero_le, Nat.not_lt_zero, Nat.reduceEqDiff, Nat.reduceLT, Nat.reduceLeDiff, Nat.reduceAdd, Nat.reduceSub, Nat.reduceMul, Nat.reduceDiv, Nat.reduceMod, reduceCtorEq, true_implies, false_implies, not_true_eq_false, not_false_eq_true, true_and, and_true, implies_true, and_false, false_and, forall_const, true_or, or_true, false_or, or_false, G12_countsTill_L17, Ma_s12 hB, Nat.le_refl]
    exact h _ hs e0 e1 e2
