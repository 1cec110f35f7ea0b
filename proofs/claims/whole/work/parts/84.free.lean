/-! deal -/
def usd (A : Nat → Nat → Nat) (h k n : Nat) : Nat := cnt (fun i => decide (A 367 i = h) && decide (A 368 i = k)) n
def fr (A : Nat → Nat → Nat) (h p k : Nat) : Bool := decide (A 360 k = p) && decide (usd A h k (A 358 12) = 0)
def nfr (A : Nat → Nat → Nat) (h p : Nat) : Nat := cnt (fr A h p) (A 358 3)
def pkf (P : Nat → Bool) (m : Nat) : Nat → Nat
  | 0 => 0
  | n + 1 => if m < cnt P n then pkf P m n else n
theorem pkf_s {P : Nat → Bool} {m : Nat} : ∀ {n : Nat}, m < cnt P n → P (pkf P m n) = true ∧ cnt P (pkf P m n) = m ∧ pkf P m n < n
  | 0, h => absurd h (by simp [cnt])
  | n + 1, h => by
    have h' : m < cnt P n + (P n).toNat := h
    show P (if m < cnt P n then pkf P m n else n) = true ∧ cnt P (if m < cnt P n then pkf P m n else n) = m ∧ (if m < cnt P n then pkf P m n else n) < n + 1
    by_cases q : m < cnt P n
    · rw [if_pos q]
      have ih := pkf_s q
      exact ⟨ih.1, ih.2.1, by omega⟩
    · rw [if_neg q]
      cases hp : P n
      · rw [hp] at h'; simp at h'; omega
      · rw [hp] at h'; simp at h'
        exact ⟨rfl, by omega, by omega⟩
theorem pkf_u {P : Nat → Bool} {m k n : Nat} (hk : k < n) (hp : P k = true) (hc : cnt P k = m) : pkf P m n = k := by
  have e1 : cnt P (k + 1) = m + 1 := by show cnt P k + (P k).toNat = _; rw [hp, hc]; rfl
  have h1 : m < cnt P n := by
    have := cnt_up (P := P) (show k + 1 ≤ n from hk)
    omega
  obtain ⟨a, b, c⟩ := pkf_s h1
  rcases Nat.lt_trichotomy (pkf P m n) k with s | s | s
  · have e2 : cnt P (pkf P m n + 1) = m + 1 := by show cnt P (pkf P m n) + (P (pkf P m n)).toNat = _; rw [a, b]; rfl
    have := cnt_up (P := P) (show pkf P m n + 1 ≤ k from s)
    omega
  · exact s
  · have := cnt_up (P := P) (show k + 1 ≤ pkf P m n from s)
    omega
theorem usd_s (A : Nat → Nat → Nat) (h k n : Nat) : usd A h k (n + 1) = usd A h k n + (if A 367 n = h ∧ A 368 n = k then 1 else 0) := by
  show _ + (decide (A 367 n = h) && decide (A 368 n = k)).toNat = _
  refine congrArg (usd A h k n + ·) ?_
  by_cases h1 : A 367 n = h <;> by_cases h2 : A 368 n = k <;> simp [h1, h2]
theorem c_isFree {A : Nat → Nat → Nat} {μ : MM} {Q : Int32 → MM → Prop} (hI : ∀ f i, dom f i → A f i < bnd f i) (hA : Ca A μ) {k h p : Nat} (hk : k < 12) (hh : h < 24) (hp : p < 2) (hQ : Q (if fr A h p k = true then 1 else 0) μ) : G10_isFree (qN k) (qN h) (qN p) μ Q := by
  have hn : A 358 12 < 97 := hI 358 12 (by unfold dom; decide)
  have b5 : A 360 k < 2 := hI 360 k (by unfold dom; omega)
  refine Lp.up (A 358 12) (fun i x => x = (qN i, μ) ∧ usd A h k i = 0) ?_ ⟨rfl, rfl⟩
  rintro i K hi hK _ ⟨rfl, hz⟩
  rcases Nat.lt_or_ge i (A 358 12) with hl | hl
  · have hk2 := hK hl
    have hi9 : i < 96 := by omega
    have b1 : A 367 i < 24 := hI 367 i (by unfold dom; omega)
    have b2 : A 368 i < 12 := hI 368 i (by unfold dom; omega)
    have us := usd_s A h k i
    simp (disch := omega) only [bo_q0, bo_q1, qN_le, qN_lt, qN_eq, qN_vp, qN_nat, qN_neg1, qN_neg, qN_nn, qN_lit, qN_add, qN_sub, qN_mul, qN_div, Bd_eq, reduceIte, Nat.add_sub_cancel, dm_l, Nat.zero_le, Nat.not_lt_zero, Nat.reduceEqDiff, Nat.reduceLT, Nat.reduceLeDiff, Nat.reduceAdd, Nat.reduceSub, Nat.reduceMul, Nat.reduceDiv, Nat.reduceMod, reduceCtorEq, true_implies, false_implies, not_true_eq_false, not_false_eq_true, true_and, and_true, implies_true, and_false, false_and, forall_const, true_or, or_true, false_or, or_false, G10_isFree_L3, Ca_s12 hA, Ca_367 hA, Ca_368 hA, hi9, Nat.not_le.mpr hl]
    refine ⟨fun q => hk2 _ ⟨rfl, by rw [us, if_neg (by omega)]; exact hz⟩, fun q => ⟨fun q2 => hk2 _ ⟨rfl, by rw [us, if_neg (by omega)]; exact hz⟩, fun q2 => ?_⟩⟩
    have : fr A h p k = false := by
      unfold fr
      have u1 : 0 < usd A h k (A 358 12) := by
        have := cnt_up (P := fun i => decide (A 367 i = h) && decide (A 368 i = k)) (show i + 1 ≤ A 358 12 from hl)
        have e : usd A h k (i + 1) = 1 := by rw [us, if_pos ⟨q, q2⟩, hz]
        unfold usd at e ⊢
        omega
      rw [decide_eq_false (show ¬ usd A h k (A 358 12) = 0 by omega), Bool.and_false]
    rw [this] at hQ
    exact hQ
  · have e : i = A 358 12 := by omega
    subst e
    simp (disch := omega) only [bo_q0, bo_q1, qN_le, qN_lt, qN_eq, qN_vp, qN_nat, qN_neg1, qN_neg, qN_nn, qN_lit, qN_add, qN_sub, qN_mul, qN_div, Bd_eq, reduceIte, Nat.add_sub_cancel, dm_l, Nat.zero_le, Nat.not_lt_zero, Nat.reduceEqDiff, Nat.reduceLT, Nat.reduceLeDiff, Nat.reduceAdd, Nat.reduceSub, Nat.reduceMul, Nat.reduceDiv, Nat.reduceMod, reduceCtorEq, true_implies, false_implies, not_true_eq_false, not_false_eq_true, true_and, and_true, implies_true, and_false, false_and, forall_const, true_or, or_true, false_or, or_false, G10_isFree_L3, Ca_s12 hA, Nat.le_refl, hk, Ca_360 hA]
    unfold fr at hQ
    rw [decide_eq_true hz, Bool.and_true] at hQ
    refine ⟨fun q => ?_, fun q => ?_⟩
    · rw [decide_eq_false q] at hQ; exact hQ
    · rw [decide_eq_true q] at hQ; exact hQ
theorem fr_rd (A : Nat → Nat → Nat) (h p k : Nat) : fr (rdB A) h p k = fr A h p k := rfl
theorem nfr_rd (A : Nat → Nat → Nat) (h p : Nat) : nfr (rdB A) h p = nfr A h p := rfl

theorem c_drawName {A X : Nat → Nat → Nat} {W : List Int64} {μ : MM} {Q : Int32 → MM → Prop} (hV : Inv A X) (h : Cs A X W μ) {a p : Nat} (ha : a < 24) (hp : p < 2) (h0 : 0 < nfr A a p)
    (hQ : ∀ μ', Cs (rdB A) X W μ' → FC μ μ' → Q (qN (pkf (fr A a p) (rr1 A / 65536 % nfr A a p) (A 358 3))) μ') : G10_drawName (qN a) (qN p) μ Q := by
  have hN : A 358 3 < 13 := hV.b 358 3 (by unfold dom; decide)
  have nb : nfr A a p ≤ A 358 3 := cnt_le _ _
  refine Lp.upE (A 358 3) (fun i => (qN (cnt (fr A a p) i), qN i, μ)) ?_
  intro i K hi hK
  have cb := cnt_le (fr A a p) i
  rcases Nat.lt_or_ge i (A 358 3) with hl | hl
  · have hk := hK hl
    have es : cnt (fr A a p) (i + 1) = cnt (fr A a p) i + (fr A a p i).toNat := rfl
    rw [es] at hk
    simp (disch := omega) only [bo_q0, bo_q1, qN_le, qN_lt, qN_eq, qN_vp, qN_nat, qN_neg1, qN_neg, qN_nn, qN_lit, qN_add, qN_sub, qN_mul, qN_div, Bd_eq, reduceIte, Nat.add_sub_cancel, dm_l, Nat.zero_le, Nat.not_lt_zero, Nat.reduceEqDiff, Nat.reduceLT, Nat.reduceLeDiff, Nat.reduceAdd, Nat.reduceSub, Nat.reduceMul, Nat.reduceDiv, Nat.reduceMod, reduceCtorEq, true_implies, false_implies, not_true_eq_false, not_false_eq_true, true_and, and_true, implies_true, and_false, false_and, forall_const, true_or, or_true, false_or, or_false, G10_drawName_L5, Ca_s3 h.1, Nat.not_le.mpr hl]
    refine c_isFree hV.b h.1 (by omega) ha hp ?_
    cases hb : fr A a p i
    · rw [hb] at hk
      simp (disch := omega) only [bo_q0, bo_q1, qN_le, qN_lt, qN_eq, qN_vp, qN_nat, qN_neg1, qN_neg, qN_nn, qN_lit, qN_add, qN_sub, qN_mul, qN_div, Bd_eq, reduceIte, Nat.add_sub_cancel, dm_l, Nat.zero_le, Nat.not_lt_zero, Nat.reduceEqDiff, Nat.reduceLT, Nat.reduceLeDiff, Nat.reduceAdd, Nat.reduceSub, Nat.reduceMul, Nat.reduceDiv, Nat.reduceMod, reduceCtorEq, true_implies, false_implies, not_true_eq_false, not_false_eq_true, true_and, and_true, implies_true, and_false, false_and, forall_const, true_or, or_true, false_or, or_false, Bool.false_eq_true]
      exact hk
    · rw [hb] at hk
      simp (disch := omega) only [bo_q0, bo_q1, qN_le, qN_lt, qN_eq, qN_vp, qN_nat, qN_neg1, qN_neg, qN_nn, qN_lit, qN_add, qN_sub, qN_mul, qN_div, Bd_eq, reduceIte, Nat.add_sub_cancel, dm_l, Nat.zero_le, Nat.not_lt_zero, Nat.reduceEqDiff, Nat.reduceLT, Nat.reduceLeDiff, Nat.reduceAdd, Nat.reduceSub, Nat.reduceMul, Nat.reduceDiv, Nat.reduceMod, reduceCtorEq, true_implies, false_implies, not_true_eq_false, not_false_eq_true, true_and, and_true, implies_true, and_false, false_and, forall_const, true_or, or_true, false_or, or_false, ]
      exact hk
  · have e : i = A 358 3 := by omega
    subst e
    clear hK
    have m0 : rr1 A / 65536 % nfr A a p < nfr A a p := Nat.mod_lt _ h0
    obtain ⟨s1, s2, s3⟩ := pkf_s (P := fr A a p) (n := A 358 3) m0
    have ec : cnt (fr A a p) (A 358 3) = nfr A a p := rfl
    simp (disch := omega) only [bo_q0, bo_q1, qN_le, qN_lt, qN_eq, qN_vp, qN_nat, qN_neg1, qN_neg, qN_nn, qN_lit, qN_add, qN_sub, qN_mul, qN_div, Bd_eq, reduceIte, Nat.add_sub_cancel, dm_l, Nat.zero_le, Nat.not_lt_zero, Nat.reduceEqDiff, Nat.reduceLT, Nat.reduceLeDiff, Nat.reduceAdd, Nat.reduceSub, Nat.reduceMul, Nat.reduceDiv, Nat.reduceMod, reduceCtorEq, true_implies, false_implies, not_true_eq_false, not_false_eq_true, true_and, and_true, implies_true, and_false, false_and, forall_const, true_or, or_true, false_or, or_false, G10_drawName_L5, Ca_s3 h.1, Nat.le_refl, ec]
    refine c_draw hV h h0 (by omega) (fun μ1 h1 f1 => ?_)
    have hV1 : Inv (rdB A) X := hV.r (rr1_lt A)
    have w1 := hQ μ1 h1 f1
    generalize rr1 A / 65536 % nfr A a p = m at *
    generalize hkk : pkf (fr A a p) m (A 358 3) = kk at *
    refine Lp.up (A 358 3) (fun i x => i ≤ kk ∧ x.1 = qN (m - cnt (fr A a p) i) ∧ x.2.1 = qN i ∧ x.2.2 = μ1) ?_ ⟨Nat.zero_le _, rfl, rfl, rfl⟩
    rintro i K2 hi2 hK2 ⟨y1, y2, ν⟩ ⟨hik, rfl, rfl, rfl⟩
    have hl2 : i < A 358 3 := by omega
    have hk2 := hK2 hl2
    have e3 : rdB A 358 3 = A 358 3 := rfl
    have cm := cnt_up (P := fr A a p) hik
    have es : cnt (fr A a p) (i + 1) = cnt (fr A a p) i + (fr A a p i).toNat := rfl
    simp (disch := omega) only [bo_q0, bo_q1, qN_le, qN_lt, qN_eq, qN_vp, qN_nat, qN_neg1, qN_neg, qN_nn, qN_lit, qN_add, qN_sub, qN_mul, qN_div, Bd_eq, reduceIte, Nat.add_sub_cancel, dm_l, Nat.zero_le, Nat.not_lt_zero, Nat.reduceEqDiff, Nat.reduceLT, Nat.reduceLeDiff, Nat.reduceAdd, Nat.reduceSub, Nat.reduceMul, Nat.reduceDiv, Nat.reduceMod, reduceCtorEq, true_implies, false_implies, not_true_eq_false, not_false_eq_true, true_and, and_true, implies_true, and_false, false_and, forall_const, true_or, or_true, false_or, or_false, G10_drawName_L49, Ca_s3 h1.1, e3, Nat.not_le.mpr hl2]
    refine c_isFree hV1.b h1.1 (by omega) ha hp ?_
    rw [fr_rd]
    cases hb : fr A a p i
    · rw [hb] at es
      have ne : i ≠ kk := fun r => by rw [r, s1] at hb; exact absurd hb (by decide)
      simp (disch := omega) only [bo_q0, bo_q1, qN_le, qN_lt, qN_eq, qN_vp, qN_nat, qN_neg1, qN_neg, qN_nn, qN_lit, qN_add, qN_sub, qN_mul, qN_div, Bd_eq, reduceIte, Nat.add_sub_cancel, dm_l, Nat.zero_le, Nat.not_lt_zero, Nat.reduceEqDiff, Nat.reduceLT, Nat.reduceLeDiff, Nat.reduceAdd, Nat.reduceSub, Nat.reduceMul, Nat.reduceDiv, Nat.reduceMod, reduceCtorEq, true_implies, false_implies, not_true_eq_false, not_false_eq_true, true_and, and_true, implies_true, and_false, false_and, forall_const, true_or, or_true, false_or, or_false, Bool.false_eq_true]
      exact hk2 _ ⟨by omega, by rw [es]; rfl, rfl, rfl⟩
    · rw [hb] at es
      have es' : cnt (fr A a p) (i + 1) = cnt (fr A a p) i + 1 := es
      simp (disch := omega) only [bo_q0, bo_q1, qN_le, qN_lt, qN_eq, qN_vp, qN_nat, qN_neg1, qN_neg, qN_nn, qN_lit, qN_add, qN_sub, qN_mul, qN_div, Bd_eq, reduceIte, Nat.add_sub_cancel, dm_l, Nat.zero_le, Nat.not_lt_zero, Nat.reduceEqDiff, Nat.reduceLT, Nat.reduceLeDiff, Nat.reduceAdd, Nat.reduceSub, Nat.reduceMul, Nat.reduceDiv, Nat.reduceMod, reduceCtorEq, true_implies, false_implies, not_true_eq_false, not_false_eq_true, true_and, and_true, implies_true, and_false, false_and, forall_const, true_or, or_true, false_or, or_false, ]
      refine ⟨fun q => ?_, fun q => ?_⟩
      · have ne : i ≠ kk := fun r => by rw [r] at q; omega
        refine hk2 _ ⟨by omega, ?_, rfl, rfl⟩
        show qN (m - cnt (fr A a p) i) + -qN 1 = _
        rw [es', ← Int32.sub_eq_add_neg, qN_sub (by omega)]
        congr 1
      · have eq : i = kk := by
          rcases Nat.lt_or_ge i kk with s | s
          · have := cnt_up (P := fr A a p) (show i + 1 ≤ kk from s)
            omega
          · omega
        rw [eq]
        exact w1
theorem m_freeName {A : Nat → Nat → Nat} {μ : MM} {Q : Int32 → MM → Prop} (hI : ∀ f i, dom f i → A f i < bnd f i) (hA : Ma A μ) {a p : Nat} (ha : a < 24) (hp : p < 2) {v : Int32}
    (hy : v = -1 → Q (qN (nfr A a p)) μ) (hk9 : ∀ m, v = qN m → m < nfr A a p → Q (qN (pkf (fr A a p) m (A 358 3))) μ) (hv : v = -1 ∨ ∃ m, v = qN m ∧ m < nfr A a p) : G12_freeName (qN a) (qN p) v μ Q := by
  have hN : A 358 3 < 13 := hI 358 3 (by unfold dom; decide)
  have hn : A 358 12 < 97 := hI 358 12 (by unfold dom; decide)
  have nb : nfr A a p ≤ A 358 3 := cnt_le _ _
  refine Lp.up (A 358 3) (fun i x => x = (qN (cnt (fr A a p) i), qN i, μ) ∧ ∀ m, v = qN m → m < nfr A a p → i ≤ pkf (fr A a p) m (A 358 3)) ?_ ⟨rfl, fun _ _ _ => Nat.zero_le _⟩
  rintro i K hi hK _ ⟨rfl, hle⟩
  have cb := cnt_le (fr A a p) i
  rcases Nat.lt_or_ge i (A 358 3) with hl | hl
  · have hk := hK hl
    clear hK
    have i12 : i < 12 := by omega
    have b5 : A 360 i < 2 := hI 360 i (by unfold dom; omega)
    have es : cnt (fr A a p) (i + 1) = cnt (fr A a p) i + (fr A a p i).toNat := rfl
    have inner : ∀ q : Bool, q = decide (A 360 i = p) → Lp (G12_freeName_L36 (qN a) (qN p) v (qN (cnt (fr A a p) i)) (qN i) K Q) (qN q.toNat, qN 0, μ) := by
      intro q hq
      have e0 : (q && decide (usd A a i 0 = 0)) = q := Bool.and_true q
      rw [show (qN q.toNat, qN 0, μ) = (qN (q && decide (usd A a i 0 = 0)).toNat, qN 0, μ) from by rw [e0]]
      refine Lp.upE (A 358 12) (fun j => (qN (q && decide (usd A a i j = 0)).toNat, qN j, μ)) ?_
      intro j K2 hj hK2
      have t2 : (q && decide (usd A a i j = 0)).toNat < 2 := by cases (q && decide (usd A a i j = 0)) <;> decide
      rcases Nat.lt_or_ge j (A 358 12) with hl2 | hl2
      · have hk2 := hK2 hl2
        have hj9 : j < 96 := by omega
        have b1 : A 367 j < 24 := hI 367 j (by unfold dom; omega)
        have b2 : A 368 j < 12 := hI 368 j (by unfold dom; omega)
        have us := usd_s A a i j
        simp (disch := omega) only [bo_q0, bo_q1, qN_le, qN_lt, qN_eq, qN_vp, qN_nat, qN_neg1, qN_neg, qN_nn, qN_lit, qN_add, qN_sub, qN_mul, qN_div, Bd_eq, reduceIte, Nat.add_sub_cancel, dm_l, Nat.zero_le, Nat.not_lt_zero, Nat.reduceEqDiff, Nat.reduceLT, Nat.reduceLeDiff, Nat.reduceAdd, Nat.reduceSub, Nat.reduceMul, Nat.reduceDiv, Nat.reduceMod, reduceCtorEq, true_implies, false_implies, not_true_eq_false, not_false_eq_true, true_and, and_true, implies_true, and_false, false_and, forall_const, true_or, or_true, false_or, or_false, G12_freeName_L36, Ma_s12 hA, Ma_367 hA, Ma_368 hA, hj9, Nat.not_le.mpr hl2, G12_freeName_J77]
        have fin : ∀ v : Nat, v = (q && decide (usd A a i (j + 1) = 0)).toNat → K2 (qN v, qN (j + 1), μ) := fun v hv => by subst hv; exact hk2
        refine ⟨fun r => fin 0 ?_, fun r => ⟨fun r2 => fin 1 ?_, fun r2 => ⟨fun r3 => fin 0 ?_, fun r3 => fin 1 ?_⟩⟩⟩
        · cases hq2 : q
          · rfl
          · rw [hq2] at r
            have : ¬ usd A a i j = 0 := fun s => by rw [decide_eq_true s] at r; exact absurd r (by decide)
            rw [decide_eq_false (show ¬ usd A a i (j + 1) = 0 by rw [us]; omega)]; rfl
        · cases hq2 : q
          · rw [hq2] at r; exact absurd rfl r
          · rw [hq2] at r
            have : usd A a i j = 0 := Classical.byContradiction (fun s => by rw [decide_eq_false s] at r; exact absurd rfl r)
            rw [decide_eq_true (show usd A a i (j + 1) = 0 by rw [us, if_neg (by omega), this])]; rfl
        · rw [decide_eq_false (show ¬ usd A a i (j + 1) = 0 by rw [us, if_pos ⟨r2, r3⟩]; omega), Bool.and_false]; rfl
        · cases hq2 : q
          · rw [hq2] at r; exact absurd rfl r
          · rw [hq2] at r
            have : usd A a i j = 0 := Classical.byContradiction (fun s => by rw [decide_eq_false s] at r; exact absurd rfl r)
            rw [decide_eq_true (show usd A a i (j + 1) = 0 by rw [us, if_neg (by omega), this])]; rfl
      · have e : j = A 358 12 := by omega
        subst e
        have ef : (q && decide (usd A a i (A 358 12) = 0)) = fr A a p i := by rw [hq]; rfl
        rw [ef] at t2 ⊢
        have z1 : (1 : Nat) < 2 := by decide
        have z0 : (0 : Nat) < 2 := by decide
        have go1 : (∀ m, v = qN m → m < nfr A a p → i + 1 ≤ pkf (fr A a p) m (A 358 3)) → K (qN (cnt (fr A a p) i + (fr A a p i).toNat), qN (i + 1), μ) := fun q => hk _ ⟨by rw [es], q⟩
        simp (disch := omega) only [bo_q0, bo_q1, qN_le, qN_lt, qN_eq, qN_vp, qN_nat, qN_neg1, qN_neg, qN_nn, qN_lit, qN_add, qN_sub, qN_mul, qN_div, Bd_eq, reduceIte, Nat.add_sub_cancel, dm_l, Nat.zero_le, Nat.not_lt_zero, Nat.reduceEqDiff, Nat.reduceLT, Nat.reduceLeDiff, Nat.reduceAdd, Nat.reduceSub, Nat.reduceMul, Nat.reduceDiv, Nat.reduceMod, reduceCtorEq, true_implies, false_implies, not_true_eq_false, not_false_eq_true, true_and, and_true, implies_true, and_false, false_and, forall_const, true_or, or_true, false_or, or_false, G12_freeName_L36, Ma_s12 hA, Nat.le_refl, G12_freeName_J100, flag_q]
        have nm : ¬ (fr A a p i = true ∧ qN (cnt (fr A a p) i) = v) → ∀ m, v = qN m → m < nfr A a p → i + 1 ≤ pkf (fr A a p) m (A 358 3) := fun r m e hm => by
          have h9 := hle m e hm
          obtain ⟨s1, s2, s3⟩ := pkf_s (P := fr A a p) (n := A 358 3) hm
          rcases Nat.lt_or_ge i (pkf (fr A a p) m (A 358 3)) with s | s
          · omega
          · have ei : i = pkf (fr A a p) m (A 358 3) := by omega
            exact absurd ⟨by rw [ei]; exact s1, by rw [ei, s2, e]⟩ r
        refine ⟨fun r => ?_, fun r => ⟨fun r2 => ?_, fun r2 => ?_⟩⟩
        · have e0 : fr A a p i = false := by
            cases hb : fr A a p i
            · rfl
            · rw [hb] at r; exact absurd r (by decide)
          exact go1 (nm (fun s => by rw [e0] at s; exact absurd s.1 (by decide)))
        · exact go1 (nm (fun s => r2 s.2))
        · have e1 : fr A a p i = true := by
            cases hb : fr A a p i
            · rw [hb] at r; exact absurd rfl r
            · rfl
          rcases hv with hv | ⟨m, hv, hm⟩
          · rw [hv, qN_neg1 (by omega)] at r2
            exact absurd r2 id
          · have := hk9 m hv hm
            rw [hv, qN_eq (by omega) (by omega)] at r2
            rw [pkf_u hl e1 r2] at this
            exact this
    simp (disch := omega) only [bo_q0, bo_q1, qN_le, qN_lt, qN_eq, qN_vp, qN_nat, qN_neg1, qN_neg, qN_nn, qN_lit, qN_add, qN_sub, qN_mul, qN_div, Bd_eq, reduceIte, Nat.add_sub_cancel, dm_l, Nat.zero_le, Nat.not_lt_zero, Nat.reduceEqDiff, Nat.reduceLT, Nat.reduceLeDiff, Nat.reduceAdd, Nat.reduceSub, Nat.reduceMul, Nat.reduceDiv, Nat.reduceMod, reduceCtorEq, true_implies, false_implies, not_true_eq_false, not_false_eq_true, true_and, and_true, implies_true, and_false, false_and, forall_const, true_or, or_true, false_or, or_false, G12_freeName_L6, Ma_s3 hA, Nat.not_le.mpr hl, i12, Ma_360 hA]
    refine ⟨fun r => inner false (by rw [decide_eq_false r]), fun r => inner true (by rw [decide_eq_true r])⟩
  · have e : i = A 358 3 := by omega
    subst e
    simp (disch := omega) only [bo_q0, bo_q1, qN_le, qN_lt, qN_eq, qN_vp, qN_nat, qN_neg1, qN_neg, qN_nn, qN_lit, qN_add, qN_sub, qN_mul, qN_div, Bd_eq, reduceIte, Nat.add_sub_cancel, dm_l, Nat.zero_le, Nat.not_lt_zero, Nat.reduceEqDiff, Nat.reduceLT, Nat.reduceLeDiff, Nat.reduceAdd, Nat.reduceSub, Nat.reduceMul, Nat.reduceDiv, Nat.reduceMod, reduceCtorEq, true_implies, false_implies, not_true_eq_false, not_false_eq_true, true_and, and_true, implies_true, and_false, false_and, forall_const, true_or, or_true, false_or, or_false, G12_freeName_L6, Ma_s3 hA, Nat.le_refl]
    rcases hv with hv | ⟨m, hv, hm⟩
    · exact hy hv
    · have h9 := hle m hv hm
      obtain ⟨s1, s2, s3⟩ := pkf_s (P := fr A a p) (n := A 358 3) hm
      omega
