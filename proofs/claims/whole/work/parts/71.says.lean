/-! goes, says, child -/
def goW (A : Nat → Nat → Nat) (w : Nat) : List Int64 := [qJ (pN A w (-1) (A 358 3) : Int)] ++ [qJ (pN A w 0 (A 358 3) : Int)]
theorem Nl_sm {μ μ' : MM} {cl cr n : Nat} {A : Nat → Nat → Nat} {Z : Nat → Nat → Prop} (hT : Nl μ cl cr A n) (f : Sm Z μ μ') (hz : ∀ j, ¬ Z cl j ∧ ¬ Z cr j) : Nl μ' cl cr A n := fun p hp => by
  rw [(f.1 _ _ (hz p).1).1, (f.1 _ _ (hz p).2).1]
  exact hT p hp
theorem zrow {k : Nat} (h : 153 ≤ k) : ¬ (k = 151 ∨ k = 152) := by omega
theorem zrom {k : Nat} (h : 360 ≤ k) (j : Nat) : ¬ ((k = 358 ∧ j = 1) ∨ k = 359) := by omega
def sd (A : Nat → Nat → Nat) (w : Nat) : Int := (pN A w 1 (A 358 3) : Int) - (pN A w (-1) (A 358 3) : Int)
def sy (A : Nat → Nat → Nat) : Nat → Nat × Int
  | 0 => (0, 0)
  | k + 1 => if (sy A k).2.natAbs < (sd A k).natAbs then (k, sd A k) else sy A k
theorem qI_N {a b : Nat} : qN a - qN b = qI ((a : Int) - (b : Int)) := by rw [qN_I, qN_I, qI_sub]
theorem abs_q {x : Int} (h1 : -1000000 ≤ x) (h2 : x ≤ 1000000) : (if 0 ≤ qI x then qI x else 0 - qI x) = qN x.natAbs := by
  have e0 : (0 : Int32).toInt = 0 := by decide
  have ex : (qI x).toInt = x := Int32.toInt_ofInt_of_le (by omega) (by omega)
  by_cases h : 0 ≤ x
  · rw [if_pos (by rw [Int32.le_iff_toInt_le, e0, ex]; exact h), qN_I]
    congr 1
    omega
  · rw [if_neg (by rw [Int32.le_iff_toInt_le, e0, ex]; exact h), qN_I, show (0 : Int32) = qI 0 from rfl, qI_sub]
    congr 1
    omega
theorem abs_z {x : Int} (h1 : -1000000 ≤ x) (h2 : x ≤ 1000000) {inst : Decidable (qN 0 ≤ qI x)} : @ite Int32 (qN 0 ≤ qI x) inst (qI x) (qN 0 - qI x) = qN x.natAbs := by
  have h := abs_q h1 h2
  by_cases q : (0 : Int32) ≤ qI x
  · rw [if_pos q] at h
    exact (if_pos q).trans h
  · rw [if_neg q] at h
    exact (if_neg q).trans h
def eT : Int32 → Bool := fun _ => true
def eP : Int32 → Bool := fun x => decide (x = 1)
def eM : Int32 → Bool := fun x => decide (x = -1)
theorem sd_b {A : Nat → Nat → Nat} (hN : A 358 3 < 13) (w : Nat) : -144 ≤ sd A w ∧ sd A w ≤ 144 := by
  have h1 := pN_le A w 1 (A 358 3) (by omega)
  have h2 := pN_le A w (-1) (A 358 3) (by omega)
  unfold sd
  omega
theorem sy_b {A : Nat → Nat → Nat} (hN : A 358 3 < 13) : ∀ k, (sy A k).1 ≤ k ∧ -144 ≤ (sy A k).2 ∧ (sy A k).2 ≤ 144
  | 0 => by simp [sy]
  | k + 1 => by
    have h1 := sy_b hN k
    have h2 := sd_b hN k
    show (if (sy A k).2.natAbs < (sd A k).natAbs then (k, sd A k) else sy A k).1 ≤ k + 1 ∧ -144 ≤ (if (sy A k).2.natAbs < (sd A k).natAbs then (k, sd A k) else sy A k).2 ∧ (if (sy A k).2.natAbs < (sd A k).natAbs then (k, sd A k) else sy A k).2 ≤ 144
    split
    · exact ⟨by show k ≤ k + 1; omega, h2⟩
    · exact ⟨by omega, h1.2⟩
def isC (A : Nat → Nat → Nat) (f a b : Nat) : Bool := decide (A 360 a = A 360 b) && (decide (A 361 a = A 361 b) && decide (A 362 b + f ≤ A 362 a))
def chN (A : Nat → Nat → Nat) (f : Nat) (E : Int32 → Bool) (n : Nat) : Nat := sm (fun a => if 0 < nl A a (A 358 12) then cnt (fun b => metl A b && (isC A f a b && E (shq A a b))) (A 358 3) else 0) n
theorem chN_met (A : Nat → Nat → Nat) (f : Nat) (E : Int32 → Bool) : sm (fun j => cnt (fun k => isC A f (mtf A (A 358 3) j) (mtf A (A 358 3) k) && E (shq A (mtf A (A 358 3) j) (mtf A (A 358 3) k))) (mc A (A 358 3))) (mc A (A 358 3)) = chN A f E (A 358 3) := by
  have h1 := met_sm A (fun _ a => cnt (fun k => isC A f a (mtf A (A 358 3) k) && E (shq A a (mtf A (A 358 3) k))) (mc A (A 358 3))) (n := A 358 3) (A 358 3) (Nat.le_refl _)
  refine h1.trans (sm_congr (fun a ha => ?_))
  by_cases h : 0 < nl A a (A 358 12)
  · rw [if_pos h, if_pos h]
    exact met_cnt A (fun b => isC A f a b && E (shq A a b)) (A 358 3) (Nat.le_refl _)
  · rw [if_neg h, if_neg h]
theorem sm_cnt_le {P : Nat → Nat → Bool} {m : Nat} (hm : m ≤ 12) : ∀ n, sm (fun j => cnt (P j) m) n ≤ n * 12
  | 0 => by simp [sm]
  | n + 1 => by
    have h1 := sm_cnt_le hm (P := P) n
    have h2 := cnt_le (P n) m
    show sm (fun j => cnt (P j) m) n + cnt (P n) m ≤ (n + 1) * 12
    rw [Nat.add_mul]
    omega
theorem lev_q {a b f : Nat} (ha : a < 10) (hb : b < 10) (hf : f < 10) : (qN a - qN b < qN f) ↔ a < b + f := by
  rw [Int32.lt_iff_toInt_lt, q_sub (by rw [qN_t (by omega), qN_t (by omega)]; omega) (by rw [qN_t (by omega), qN_t (by omega)]; omega), qN_t (by omega), qN_t (by omega), qN_t (by omega)]
  omega
def chW (A : Nat → Nat → Nat) (f : Nat) : List Int64 := [qJ (chN A f eT (A 358 3) : Int)] ++ [qJ (chN A f eM (A 358 3) : Int)]

theorem c_goes {A X : Nat → Nat → Nat} {W : List Int64} {μ : MM} {v1 : Int32} {Q : Int32 → MM → Prop} (hV : Inv A X) (h : Cs A X W μ)
    (hy : ∀ a, a < 4 → v1 = qN a → ∀ μ', Cs A X (goW A a) μ' → FC μ μ' → Q (qN (pN A a 1 (A 358 3))) μ') (hn : ¬ inr v1 4 → Q (-1) μ) : G11_goes v1 μ Q := by
  have hN : A 358 3 < 13 := hV.b 358 3 (by unfold dom; decide)
  unfold G11_goes G8_tellGoing
  refine within0_s 3 rfl (by decide) (fun q1 => ⟨fun _ => ?_, fun r => absurd r (by decide)⟩) (fun q1 => ⟨fun r => absurd rfl r, fun _ => hn q1⟩)
  obtain ⟨a, ha, rfl⟩ := q1
  have ha4 : a < 4 := ha
  refine c_gatherNames hV h (fun μ1 h1 f1 hT hM => ?_)
  refine c_rclear h1 (fun μ2 h2 f2 => ?_)
  have zz : ∀ j : Nat, ¬ ((164 : Nat) = 151 ∨ (164 : Nat) = 152) ∧ ¬ ((165 : Nat) = 151 ∨ (165 : Nat) = 152) := fun _ => by decide
  have mM : ∀ {ν ν' : MM}, Sm (fun k _ => k = 151 ∨ k = 152) ν ν' → (∀ j, j < mc A (A 358 3) → gI ν 166 j = qN (mtf A (A 358 3) j)) → ∀ j, j < mc A (A 358 3) → gI ν' 166 j = qN (mtf A (A 358 3) j) := fun f k j hj => ((f.1 166 j (by show ¬ (166 = 151 ∨ 166 = 152); decide)).1).trans (k j hj)
  have hT2 := Nl_sm hT f2 zz
  have hM2 := mM f2 hM
  have b0 := pN_le A a (-1) (A 358 3) (by omega)
  have b1 := pN_le A a 0 (A 358 3) (by omega)
  have b2 := pN_le A a 1 (A 358 3) (by omega)
  refine c_pairsGoing hV.b h2.1 hT2 hM2 ha4 ?_
  rw [qN_J (by omega)]
  refine c_radd h2 (by decide) (fun μ3 h3 f3 => ?_)
  have hT3 := Nl_sm hT2 f3 zz
  have hM3 := mM f3 hM2
  refine c_pairsGoing hV.b h3.1 hT3 hM3 ha4 ?_
  rw [qN_J (by omega)]
  refine c_radd h3 (show (1 : Nat) < 10 by decide) (fun μ4 h4 f4 => ?_)
  refine c_pairsGoing hV.b h4.1 (Nl_sm hT3 f4 zz) (mM f4 hM3) ha4 ?_
  exact hy a ha rfl _ h4 ((((FC_cS (f1.mo (fun k j q => by unfold cS; omega))).tr (FC_row f2)).tr (FC_row f3)).tr (FC_row f4))
theorem m_goes {A X : Nat → Nat → Nat} {W : List Int64} {μ : MM} {v1 : Int32} {Q : Int32 → MM → Prop} (hV : Inv A X) (h : Ms A X W μ)
    (hy : ∀ a, a < 4 → v1 = qN a → ∀ μ', Ms A X (goW A a) μ' → FM μ μ' → Q (qN (pN A a 1 (A 358 3))) μ') (hn : ¬ inr v1 4 → ∀ μ', Ms A X W μ' → FM μ μ' → Q (-1) μ') : G12_goes v1 μ Q := by
  have hN : A 358 3 < 13 := hV.b 358 3 (by unfold dom; decide)
  unfold G12_goes
  rw [Bd_eq]
  have h0 := m_thr h 0
  have f0 := fm_thr μ 0
  revert h0 f0
  generalize sI μ 358 0 0 = μ0
  intro h0 f0
  refine in0_s 3 rfl (by decide) (fun q1 => ⟨fun _ => ?_, fun r => absurd r (by decide)⟩) (fun q1 => ⟨fun r => absurd rfl r, fun _ => hn q1 _ h0 f0⟩)
  obtain ⟨a, ha, rfl⟩ := q1
  have ha4 : a < 4 := ha
  refine m_countsNames hV h0 (fun μ1 h1 f1 hT => ?_)
  refine m_pairsOf hV h1 hT ha4 (fun μ2 h2 f2 e1 e2 e3 => ?_)
  have b0 := pN_le A a (-1) (A 358 3) (by omega)
  have b1 := pN_le A a 0 (A 358 3) (by omega)
  refine m_rclear h2 (fun μ3 h3 f3 => ?_)
  have zj : ∀ j : Nat, 42 ≤ j → ¬ (((358 : Nat) = 358 ∧ j = 1) ∨ (358 : Nat) = 359) := fun j hj => by omega
  rw [(f3.1 358 43 (zj 43 (by decide))).1, e2, qN_J (by omega)]
  refine m_radd h3 (by decide) (fun μ4 h4 f4 => ?_)
  rw [(f4.1 358 44 (zj 44 (by decide))).1, (f3.1 358 44 (zj 44 (by decide))).1, e3, qN_J (by omega)]
  refine m_radd h4 (show (1 : Nat) < 10 by decide) (fun μ5 h5 f5 => ?_)
  rw [(f5.1 358 42 (zj 42 (by decide))).1, (f4.1 358 42 (zj 42 (by decide))).1, (f3.1 358 42 (zj 42 (by decide))).1, e1]
  exact hy a ha rfl _ h5 (((((f0.tr (FM_mS (f1.mo (fun k j q => by unfold mS; omega)))).tr (FM_mS (f2.mo (fun k j q => by unfold mS; omega)))).tr (FM_row f3)).tr (FM_row f4)).tr (FM_row f5))
theorem c_says {A X : Nat → Nat → Nat} {W : List Int64} {μ : MM} {Q : Int32 → MM → Prop} (hV : Inv A X) (h : Cs A X W μ)
    (hy : ∀ μ', Cs A X [qJ (sy A 4).2] μ' → FC μ μ' → Q (qN (sy A 4).1) μ') : G11_says μ Q := by
  have hN : A 358 3 < 13 := hV.b 358 3 (by unfold dom; decide)
  unfold G11_says G8_tellSaid
  refine c_gatherNames hV h (fun μ1 h1 f1 hT hM => ?_)
  have fc := FC_cS (f1.mo (fun k j q => show cS k j by unfold cS; omega))
  refine Lp.upE 4 (fun i => (qN (sy A i).1, qI (sy A i).2, qN i, μ1)) ?_
  intro i K hi hK
  obtain ⟨s1, s2, s3⟩ := sy_b hN i
  rcases Nat.lt_or_ge i 4 with hl1 | hl1
  · have hk := hK hl1
    obtain ⟨d1, d2⟩ := sd_b hN i
    have h4 : ¬ ((4 : Int32) ≤ qN i) := by rw [qN_lit 4, qN_le (by omega) (by omega)]; omega
    have eS : sy A (i + 1) = if (sy A i).2.natAbs < (sd A i).natAbs then (i, sd A i) else sy A i := rfl
    rw [eS] at hk
    refine ⟨fun q => absurd q h4, fun _ => ?_⟩
    refine c_pairsGoing (y := 1) hV.b h1.1 hT hM hl1 (c_pairsGoing (y := -1) hV.b h1.1 hT hM hl1 ?_)
    rw [qI_N, Bd_eq, show ((pN A i 1 (A 358 3) : Int) - (pN A i (-1) (A 358 3) : Int)) = sd A i from rfl, abs_q (x := sd A i) (by omega) (by omega), abs_q (x := (sy A i).2) (by omega) (by omega), qN_le (by omega) (by omega), qN_lit 1, qN_add]
    refine ⟨fun q => ?_, fun q => ?_⟩
    · rw [if_neg (by omega)] at hk; exact hk
    · rw [if_pos (by omega)] at hk; exact hk
  · have e : i = 4 := by omega
    subst e
    simp (disch := omega) only [bo_q0, bo_q1, qN_le, qN_lt, qN_eq, qN_vp, qN_nat, qN_neg1, qN_neg, qN_nn, qN_lit, qN_add, qN_sub, qN_mul, qN_div, Bd_eq, reduceIte, Nat.add_sub_cancel, dm_l, Nat.zero_le, Nat.not_lt_zero, Nat.reduceEqDiff, Nat.reduceLT, Nat.reduceLeDiff, Nat.reduceAdd, Nat.reduceSub, Nat.reduceMul, Nat.reduceDiv, Nat.reduceMod, reduceCtorEq, true_implies, false_implies, not_true_eq_false, not_false_eq_true, true_and, and_true, implies_true, and_false, false_and, forall_const, true_or, or_true, false_or, or_false, G8_tellSaid_L12]
    rw [qI_6 (by omega) (by omega)]
    refine c_rclear h1 (fun μ2 h2 f2 => c_radd h2 (by decide) (fun μ3 h3 f3 => ?_))
    exact hy _ h3 ((fc.tr (FC_row f2)).tr (FC_row f3))
theorem m_says {A X : Nat → Nat → Nat} {W : List Int64} {μ : MM} {Q : Int32 → MM → Prop} (hV : Inv A X) (h : Ms A X W μ)
    (hy : ∀ μ', Ms A X [qJ (sy A 4).2] μ' → FM μ μ' → Q (qN (sy A 4).1) μ') : G12_says μ Q := by
  have hN : A 358 3 < 13 := hV.b 358 3 (by unfold dom; decide)
  unfold G12_says
  rw [Bd_eq]
  have h0 := m_thr h 0
  have f0 := fm_thr μ 0
  revert h0 f0
  generalize sI μ 358 0 0 = μ0
  intro h0 f0
  refine m_countsNames hV h0 (fun μ1 h1 f1 hT => ?_)
  have fc := f0.tr (FM_mS (f1.mo (fun k j q => show mS k j by unfold mS; omega)))
  refine Lp.up 4 (fun i x => x.1 = qN (sy A i).1 ∧ x.2.1 = qI (sy A i).2 ∧ x.2.2.1 = qN i ∧ Ms A X W x.2.2.2 ∧ FM μ x.2.2.2 ∧ Nl x.2.2.2 385 386 A (A 358 12)) ?_ ⟨rfl, rfl, rfl, h1, fc, hT⟩
  rintro i K hi hK ⟨y1, y2, y3, ν⟩ ⟨rfl, rfl, rfl, hC, hf, hU⟩
  simp only at hC hf hU
  obtain ⟨s1, s2, s3⟩ := sy_b hN i
  rcases Nat.lt_or_ge i 4 with hl1 | hl1
  · have hk := hK hl1
    obtain ⟨d1, d2⟩ := sd_b hN i
    have h4 : ¬ ((4 : Int32) ≤ qN i) := by rw [qN_lit 4, qN_le (by omega) (by omega)]; omega
    have eS : sy A (i + 1) = if (sy A i).2.natAbs < (sd A i).natAbs then (i, sd A i) else sy A i := rfl
    refine ⟨fun q => absurd q h4, fun _ => ?_⟩
    refine m_pairsOf hV hC hU hl1 (fun ν2 h2 f2 e1 e2 e3 => ?_)
    have hU2 := Nl_sm hU f2 (fun j => by omega)
    have hf2 := hf.tr (FM_mS (f2.mo (fun k j q => show mS k j by unfold mS; omega)))
    have ez : (qN i = 0) = (i = 0) := by rw [← qN_eq (a := i) (b := 0) (by omega) (by decide)]; rfl
    rw [e1, e2, qI_N, Bd_eq, show ((pN A i 1 (A 358 3) : Int) - (pN A i (-1) (A 358 3) : Int)) = sd A i from rfl]
    simp only [ez]
    rw [abs_q (x := sd A i) (by omega) (by omega), abs_q (x := (sy A i).2) (by omega) (by omega), qN_le (by omega) (by omega)]
    unfold G12_says_J52
    refine ⟨fun q => ?_, fun q => ⟨fun q2 => ?_, fun q2 => ?_⟩⟩
    · subst q
      refine hk _ ⟨?_, ?_, by rw [qN_lit 1, qN_add], h2, hf2, hU2⟩
      · rw [eS]
        split
        · rfl
        · rfl
      · rw [eS]
        split
        · rfl
        · rename_i q9
          have : (sy A 0).2 = 0 := rfl
          have z : sd A 0 = 0 := by omega
          rw [z]; rfl
    · refine hk _ ⟨?_, ?_, by rw [qN_lit 1, qN_add], h2, hf2, hU2⟩ <;> rw [eS, if_neg (by omega)]
    · refine hk _ ⟨?_, ?_, by rw [qN_lit 1, qN_add], h2, hf2, hU2⟩ <;> rw [eS, if_pos (by omega)]
  · have e : i = 4 := by omega
    subst e
    simp (disch := omega) only [bo_q0, bo_q1, qN_le, qN_lt, qN_eq, qN_vp, qN_nat, qN_neg1, qN_neg, qN_nn, qN_lit, qN_add, qN_sub, qN_mul, qN_div, Bd_eq, reduceIte, Nat.add_sub_cancel, dm_l, Nat.zero_le, Nat.not_lt_zero, Nat.reduceEqDiff, Nat.reduceLT, Nat.reduceLeDiff, Nat.reduceAdd, Nat.reduceSub, Nat.reduceMul, Nat.reduceDiv, Nat.reduceMod, reduceCtorEq, true_implies, false_implies, not_true_eq_false, not_false_eq_true, true_and, and_true, implies_true, and_false, false_and, forall_const, true_or, or_true, false_or, or_false, G12_says_L15]
    rw [qI_6 (by omega) (by omega)]
    obtain ⟨h2, f2⟩ := m_rc hC
    refine m_radd h2 (by decide) (fun μ3 h3 f3 => ?_)
    exact hy _ h3 ((hf.tr (FM_row f2)).tr (FM_row f3))

theorem c_child {A X : Nat → Nat → Nat} {W : List Int64} {μ : MM} {v1 : Int32} {Q : Int32 → MM → Prop} (hV : Inv A X) (h : Cs A X W μ)
    (hy : ∀ f, 1 ≤ f → f ≤ 9 → v1 = qN f → ∀ μ', Cs A X (chW A f) μ' → FC μ μ' → Q (qN (chN A f eP (A 358 3))) μ') (hn : ¬ (∃ k, 1 ≤ k ∧ k ≤ 9 ∧ v1 = qN k) → Q (-1) μ) : G11_child v1 μ Q := by
  have hl : A 358 12 < 97 := hV.b 358 12 (by unfold dom; decide)
  have hN : A 358 3 < 13 := hV.b 358 3 (by unfold dom; decide)
  unfold G11_child G8_tellChild
  refine within1_s 9 rfl (by decide) (fun q1 => ⟨fun _ => ?_, fun r => absurd r (by decide)⟩) (fun q1 => ⟨fun r => absurd rfl r, fun _ => hn q1⟩)
  obtain ⟨f, hf1, hf9, rfl⟩ := q1
  refine c_gatherNames hV h (fun μ1 h1 f1 hT hM => ?_)
  have fc := FC_cS (f1.mo (fun k j q => show cS k j by unfold cS; omega))
  have hmc := mc_le A (A 358 3)
  have hA := h1.1
  have w1 := hy f hf1 hf9 rfl
  unfold chW at w1
  simp only [← chN_met] at w1
  generalize hmm : mtf A (A 358 3) = mt at *
  generalize hcc : mc A (A 358 3) = mm at *
  have mlt : ∀ j, j < mm → mt j < 12 := fun j hj => by
    have := mtf_lt A (A 358 3) j (by omega)
    rw [hmm] at this
    omega
  have bE : ∀ E : Int32 → Bool, ∀ n, n ≤ 12 → sm (fun j => cnt (fun k => isC A f (mt j) (mt k) && E (shq A (mt j) (mt k))) mm) n ≤ 144 := fun E n hn => by
    have := sm_cnt_le (P := fun j k => isC A f (mt j) (mt k) && E (shq A (mt j) (mt k))) (m := mm) (by omega) n
    omega
  refine Lp.upE mm (fun j => (qN (sm (fun j => cnt (fun k => isC A f (mt j) (mt k) && eT (shq A (mt j) (mt k))) mm) j), qN (sm (fun j => cnt (fun k => isC A f (mt j) (mt k) && eP (shq A (mt j) (mt k))) mm) j), qN (sm (fun j => cnt (fun k => isC A f (mt j) (mt k) && eM (shq A (mt j) (mt k))) mm) j), qN j, μ1)) ?_
  intro j K hj hK
  have t1 := bE eT j (by omega)
  have t2 := bE eP j (by omega)
  have t3 := bE eM j (by omega)
  rcases Nat.lt_or_ge j mm with hl1 | hl1
  · have hk := hK hl1
    simp only [sm] at hk
    clear hK
    simp (disch := omega) only [bo_q0, bo_q1, qN_le, qN_lt, qN_eq, qN_vp, qN_nat, qN_neg1, qN_neg, qN_nn, qN_lit, qN_add, qN_sub, qN_mul, qN_div, Bd_eq, reduceIte, Nat.add_sub_cancel, dm_l, Nat.zero_le, Nat.not_lt_zero, Nat.reduceEqDiff, Nat.reduceLT, Nat.reduceLeDiff, Nat.reduceAdd, Nat.reduceSub, Nat.reduceMul, Nat.reduceDiv, Nat.reduceMod, reduceCtorEq, true_implies, false_implies, not_true_eq_false, not_false_eq_true, true_and, and_true, implies_true, and_false, false_and, forall_const, true_or, or_true, false_or, or_false, G8_tellChild_L28, Nat.not_le.mpr hl1]
    generalize sm (fun j => cnt (fun k => isC A f (mt j) (mt k) && eT (shq A (mt j) (mt k))) mm) j = s1 at *
    generalize sm (fun j => cnt (fun k => isC A f (mt j) (mt k) && eP (shq A (mt j) (mt k))) mm) j = s2 at *
    generalize sm (fun j => cnt (fun k => isC A f (mt j) (mt k) && eM (shq A (mt j) (mt k))) mm) j = s3 at *
    refine Lp.upE mm (fun k => (qN (s1 + cnt (fun k => isC A f (mt j) (mt k) && eT (shq A (mt j) (mt k))) k), qN (s2 + cnt (fun k => isC A f (mt j) (mt k) && eP (shq A (mt j) (mt k))) k), qN (s3 + cnt (fun k => isC A f (mt j) (mt k) && eM (shq A (mt j) (mt k))) k), qN k, μ1)) ?_
    intro k K2 hk2 hK2
    rcases Nat.lt_or_ge k mm with hl2 | hl2
    · have hk3 := hK2 hl2
      simp only [cnt] at hk3
      have j12 : j < 12 := by omega
      have k12 : k < 12 := by omega
      have u1 := mlt j hl1
      have u2 := mlt k hl2
      have e1 : gI μ1 166 j = qN (mt j) := hM j (by omega)
      have e2 : gI μ1 166 k = qN (mt k) := hM k (by omega)
      generalize hx : mt j = x at *
      generalize hy2 : mt k = y at *
      generalize cnt (fun k => isC A f x (mt k) && eT (shq A x (mt k))) k = c1 at *
      generalize cnt (fun k => isC A f x (mt k) && eP (shq A x (mt k))) k = c2 at *
      generalize cnt (fun k => isC A f x (mt k) && eM (shq A x (mt k))) k = c3 at *
      have p0 : A 360 x < 2 := hV.b 360 x (by unfold dom; omega)
      have p1 : A 360 y < 2 := hV.b 360 y (by unfold dom; omega)
      have p2 : A 361 x < 2 := hV.b 361 x (by unfold dom; omega)
      have p3 : A 361 y < 2 := hV.b 361 y (by unfold dom; omega)
      have p4 : A 362 x < 10 := hV.b 362 x (by unfold dom; omega)
      have p5 : A 362 y < 10 := hV.b 362 y (by unfold dom; omega)
      have hf10 : f < 10 := by omega
      have no : isC A f x y = false → K2 (qN (s1 + c1), qN (s2 + c2), qN (s3 + c3), qN (k + 1), μ1) := fun q => by
        simpa [q] using hk3
      have cc := fun (Q : Int32 → MM → Prop) => c_compareShares (μ := μ1) (Q := Q) hl hT u1 u2
      simp (disch := omega) only [bo_q0, bo_q1, qN_le, qN_lt, qN_eq, qN_vp, qN_nat, qN_neg1, qN_neg, qN_nn, qN_lit, qN_add, qN_sub, qN_mul, qN_div, Bd_eq, reduceIte, Nat.add_sub_cancel, dm_l, Nat.zero_le, Nat.not_lt_zero, Nat.reduceEqDiff, Nat.reduceLT, Nat.reduceLeDiff, Nat.reduceAdd, Nat.reduceSub, Nat.reduceMul, Nat.reduceDiv, Nat.reduceMod, reduceCtorEq, true_implies, false_implies, not_true_eq_false, not_false_eq_true, true_and, and_true, implies_true, and_false, false_and, forall_const, true_or, or_true, false_or, or_false, G8_tellChild_L37, Nat.not_le.mpr hl2, j12, k12, e1, e2, G8_isChildPair, u1, u2, Ca_360 hA, Ca_361 hA, Ca_362 hA, lev_q, G8_isChildPair_J69, cc]
      refine ⟨fun q => no (by unfold isC; simp [q]), fun q => ⟨fun q2 => no (by unfold isC; simp [q2]), fun q2 => ⟨fun q3 => no (by unfold isC; simp; omega), fun q3 => ?_⟩⟩⟩
      have hc : isC A f x y = true := by unfold isC; simp [q, q2]; omega
      simp only [hc, Bool.true_and, eT, eP, eM, Bool.toNat_true] at hk3
      simp (disch := omega) only [bo_q0, bo_q1, qN_le, qN_lt, qN_eq, qN_vp, qN_nat, qN_neg1, qN_neg, qN_nn, qN_lit, qN_add, qN_sub, qN_mul, qN_div, Bd_eq, reduceIte, Nat.add_sub_cancel, dm_l, Nat.zero_le, Nat.not_lt_zero, Nat.reduceEqDiff, Nat.reduceLT, Nat.reduceLeDiff, Nat.reduceAdd, Nat.reduceSub, Nat.reduceMul, Nat.reduceDiv, Nat.reduceMod, reduceCtorEq, true_implies, false_implies, not_true_eq_false, not_false_eq_true, true_and, and_true, implies_true, and_false, false_and, forall_const, true_or, or_true, false_or, or_false, G8_tellChild_J100, G8_tellChild_J115]
      rcases (show shq A x y = -1 ∨ shq A x y = 0 ∨ shq A x y = 1 from cq_3 _ _) with g | g | g
      · rw [g] at hk3 ⊢
        exact ⟨fun _ => ⟨fun r => absurd r (by decide), fun _ => hk3⟩, fun r => absurd (show (-1 : Int32) ≤ 0 by decide) r⟩
      · rw [g] at hk3 ⊢
        exact ⟨fun _ => ⟨fun _ => hk3, fun r => absurd (show (0 : Int32) ≤ 0 by decide) r⟩, fun r => absurd (show (0 : Int32) ≤ 0 by decide) r⟩
      · rw [g] at hk3 ⊢
        exact ⟨fun r => absurd r (by decide), fun _ => ⟨fun _ => hk3, fun r => absurd (show (0 : Int32) ≤ 1 by decide) r⟩⟩
    · have e : k = mm := by omega
      subst e
      simp (disch := omega) only [bo_q0, bo_q1, qN_le, qN_lt, qN_eq, qN_vp, qN_nat, qN_neg1, qN_neg, qN_nn, qN_lit, qN_add, qN_sub, qN_mul, qN_div, Bd_eq, reduceIte, Nat.add_sub_cancel, dm_l, Nat.zero_le, Nat.not_lt_zero, Nat.reduceEqDiff, Nat.reduceLT, Nat.reduceLeDiff, Nat.reduceAdd, Nat.reduceSub, Nat.reduceMul, Nat.reduceDiv, Nat.reduceMod, reduceCtorEq, true_implies, false_implies, not_true_eq_false, not_false_eq_true, true_and, and_true, implies_true, and_false, false_and, forall_const, true_or, or_true, false_or, or_false, G8_tellChild_L37, Nat.le_refl]
      exact hk
  · have e : j = mm := by omega
    subst e
    simp (disch := omega) only [bo_q0, bo_q1, qN_le, qN_lt, qN_eq, qN_vp, qN_nat, qN_neg1, qN_neg, qN_nn, qN_lit, qN_add, qN_sub, qN_mul, qN_div, Bd_eq, reduceIte, Nat.add_sub_cancel, dm_l, Nat.zero_le, Nat.not_lt_zero, Nat.reduceEqDiff, Nat.reduceLT, Nat.reduceLeDiff, Nat.reduceAdd, Nat.reduceSub, Nat.reduceMul, Nat.reduceDiv, Nat.reduceMod, reduceCtorEq, true_implies, false_implies, not_true_eq_false, not_false_eq_true, true_and, and_true, implies_true, and_false, false_and, forall_const, true_or, or_true, false_or, or_false, G8_tellChild_L28, Nat.le_refl, qN_J]
    refine c_rclear h1 (fun μ2 h2 f2 => c_radd h2 (by decide) (fun μ3 h3 f3 => c_radd h3 (show (1 : Nat) < 10 by decide) (fun μ4 h4 f4 => ?_)))
    exact w1 _ h4 (((fc.tr (FC_row f2)).tr (FC_row f3)).tr (FC_row f4))

theorem m_child {A X : Nat → Nat → Nat} {W : List Int64} {μ : MM} {v1 : Int32} {Q : Int32 → MM → Prop} (hV : Inv A X) (h : Ms A X W μ)
    (hy : ∀ f, 1 ≤ f → f ≤ 9 → v1 = qN f → ∀ μ', Ms A X (chW A f) μ' → FM μ μ' → Q (qN (chN A f eP (A 358 3))) μ') (hn : ¬ (∃ k, 1 ≤ k ∧ k ≤ 9 ∧ v1 = qN k) → ∀ μ', Ms A X W μ' → FM μ μ' → Q (-1) μ') : G12_child v1 μ Q := by
  have hl : A 358 12 < 97 := hV.b 358 12 (by unfold dom; decide)
  have hN : A 358 3 < 13 := hV.b 358 3 (by unfold dom; decide)
  unfold G12_child
  rw [Bd_eq]
  have h0 := m_thr h 0
  have f0 := fm_thr μ 0
  revert h0 f0
  generalize sI μ 358 0 0 = μ0
  intro h0 f0
  refine in1_s 9 rfl (by decide) (fun q1 => ⟨fun _ => ?_, fun r => absurd r (by decide)⟩) (fun q1 => ⟨fun r => absurd rfl r, fun _ => hn q1 _ h0 f0⟩)
  obtain ⟨f, hf1, hf9, rfl⟩ := q1
  refine m_countsNames hV h0 (fun μ1 h1 f1 hT => ?_)
  have fc := f0.tr (FM_mS (f1.mo (fun k j q => show mS k j by unfold mS; omega)))
  have hA := h1.1
  have w1 := hy f hf1 hf9 rfl
  unfold chW at w1
  have bE : ∀ E : Int32 → Bool, ∀ n, n ≤ 12 → chN A f E n ≤ n * 12 := fun E n => by
    induction n with
    | zero => intro _; simp [chN, sm]
    | succ n ih =>
      intro hn
      have h1 := ih (by omega)
      have h2 := cnt_le (fun b => metl A b && (isC A f n b && E (shq A n b))) (A 358 3)
      show chN A f E n + (if 0 < nl A n (A 358 12) then cnt (fun b => metl A b && (isC A f n b && E (shq A n b))) (A 358 3) else 0) ≤ (n + 1) * 12
      rw [Nat.add_mul]
      split <;> omega
  refine Lp.upE (A 358 3) (fun j => (qN (chN A f eT j), qN (chN A f eP j), qN (chN A f eM j), qN j, μ1)) ?_
  intro j K hj hK
  have t1 := bE eT j (by omega)
  have t2 := bE eP j (by omega)
  have t3 := bE eM j (by omega)
  rcases Nat.lt_or_ge j (A 358 3) with hl1 | hl1
  · have hk := hK hl1
    have cS2 : ∀ E, chN A f E (j + 1) = chN A f E j + (if 0 < nl A j (A 358 12) then cnt (fun b => metl A b && (isC A f j b && E (shq A j b))) (A 358 3) else 0) := fun E => rfl
    rw [cS2, cS2, cS2] at hk
    clear hK
    simp (disch := omega) only [bo_q0, bo_q1, qN_le, qN_lt, qN_eq, qN_vp, qN_nat, qN_neg1, qN_neg, qN_nn, qN_lit, qN_add, qN_sub, qN_mul, qN_div, Bd_eq, reduceIte, Nat.add_sub_cancel, dm_l, Nat.zero_le, Nat.not_lt_zero, Nat.reduceEqDiff, Nat.reduceLT, Nat.reduceLeDiff, Nat.reduceAdd, Nat.reduceSub, Nat.reduceMul, Nat.reduceDiv, Nat.reduceMod, reduceCtorEq, true_implies, false_implies, not_true_eq_false, not_false_eq_true, true_and, and_true, implies_true, and_false, false_and, forall_const, true_or, or_true, false_or, or_false, G12_child_L33, Ma_s3 hA, Nat.not_le.mpr hl1]
    generalize chN A f eT j = s1 at *
    generalize chN A f eP j = s2 at *
    generalize chN A f eM j = s3 at *
    have i0 : ∀ s : Nat, ∀ P : Nat → Bool, qN s = qN (s + (if 0 < nl A j (A 358 12) then cnt P 0 else 0)) := fun s P => by congr 1; split <;> simp [cnt]
    rw [show (qN s1, qN s2, qN s3, qN 0, μ1) = (qN (s1 + (if 0 < nl A j (A 358 12) then cnt (fun b => metl A b && (isC A f j b && eT (shq A j b))) 0 else 0)), qN (s2 + (if 0 < nl A j (A 358 12) then cnt (fun b => metl A b && (isC A f j b && eP (shq A j b))) 0 else 0)), qN (s3 + (if 0 < nl A j (A 358 12) then cnt (fun b => metl A b && (isC A f j b && eM (shq A j b))) 0 else 0)), qN 0, μ1) from by rw [← i0, ← i0, ← i0]]
    refine Lp.upE (A 358 3) (fun k => (qN (s1 + (if 0 < nl A j (A 358 12) then cnt (fun b => metl A b && (isC A f j b && eT (shq A j b))) k else 0)), qN (s2 + (if 0 < nl A j (A 358 12) then cnt (fun b => metl A b && (isC A f j b && eP (shq A j b))) k else 0)), qN (s3 + (if 0 < nl A j (A 358 12) then cnt (fun b => metl A b && (isC A f j b && eM (shq A j b))) k else 0)), qN k, μ1)) ?_
    intro k K2 hk2 hK2
    rcases Nat.lt_or_ge k (A 358 3) with hl2 | hl2
    · have hk3 := hK2 hl2
      simp only [cnt] at hk3
      have j12 : j < 12 := by omega
      have k12 : k < 12 := by omega
      have c1 := nl_le A j (A 358 12)
      have c2 := nl_le A k (A 358 12)
      generalize cnt (fun b => metl A b && (isC A f j b && eT (shq A j b))) k = c1 at *
      generalize cnt (fun b => metl A b && (isC A f j b && eP (shq A j b))) k = c2 at *
      generalize cnt (fun b => metl A b && (isC A f j b && eM (shq A j b))) k = c3 at *
      have p0 : A 360 j < 2 := hV.b 360 j (by unfold dom; omega)
      have p1 : A 360 k < 2 := hV.b 360 k (by unfold dom; omega)
      have p2 : A 361 j < 2 := hV.b 361 j (by unfold dom; omega)
      have p3 : A 361 k < 2 := hV.b 361 k (by unfold dom; omega)
      have p4 : A 362 j < 10 := hV.b 362 j (by unfold dom; omega)
      have p5 : A 362 k < 10 := hV.b 362 k (by unfold dom; omega)
      have hf10 : f < 10 := by omega
      have z1 : (1 : Nat) < 2 := by decide
      have z0 : (0 : Nat) < 2 := by decide
      have d1 := (hT j j12).1
      have d2 := (hT k k12).1
      have no : (isC A f j k = false ∨ ¬ 0 < nl A j (A 358 12) ∨ ¬ 0 < nl A k (A 358 12)) → K2 (qN (s1 + (if 0 < nl A j (A 358 12) then c1 else 0)), qN (s2 + (if 0 < nl A j (A 358 12) then c2 else 0)), qN (s3 + (if 0 < nl A j (A 358 12) then c3 else 0)), qN (k + 1), μ1) := fun q => by
        rcases q with q | q | q
        · simpa [q] using hk3
        · simpa [q] using hk3
        · simpa [metl, q] using hk3
      have cc := fun (Q : Int32 → MM → Prop) => m_compares (μ := μ1) (Q := Q) hl hT j12 k12
      simp (disch := omega) only [bo_q0, bo_q1, qN_le, qN_lt, qN_eq, qN_vp, qN_nat, qN_neg1, qN_neg, qN_nn, qN_lit, qN_add, qN_sub, qN_mul, qN_div, Bd_eq, reduceIte, Nat.add_sub_cancel, dm_l, Nat.zero_le, Nat.not_lt_zero, Nat.reduceEqDiff, Nat.reduceLT, Nat.reduceLeDiff, Nat.reduceAdd, Nat.reduceSub, Nat.reduceMul, Nat.reduceDiv, Nat.reduceMod, reduceCtorEq, true_implies, false_implies, not_true_eq_false, not_false_eq_true, true_and, and_true, implies_true, and_false, false_and, forall_const, true_or, or_true, false_or, or_false, G12_child_L45, Ma_s3 hA, Nat.not_le.mpr hl2, j12, k12, Ma_360 hA, Ma_361 hA, Ma_362 hA, lev_q, G12_child_J111, G12_child_J112, d1, d2]
      refine ⟨fun q => no (Or.inl (by unfold isC; simp [q])), fun q => ⟨fun q2 => no (Or.inl (by unfold isC; simp [q2])), fun q2 => ⟨fun q3 => no (Or.inl (by unfold isC; simp; omega)), fun q3 => ⟨fun q4 => no (Or.inr (Or.inl (by omega))), fun q4 => ⟨fun q5 => no (Or.inr (Or.inr (by omega))), fun q5 => ?_⟩⟩⟩⟩⟩
      have hc : isC A f j k = true := by unfold isC; simp [q, q2]; omega
      have r1 : 0 < nl A j (A 358 12) := by omega
      have r2 : 0 < nl A k (A 358 12) := by omega
      simp only [hc, metl, r1, r2, decide_true, Bool.true_and, eT, eP, eM, Bool.toNat_true, if_true] at hk3
      simp only [r1, if_true]
      simp (disch := omega) only [bo_q0, bo_q1, qN_le, qN_lt, qN_eq, qN_vp, qN_nat, qN_neg1, qN_neg, qN_nn, qN_lit, qN_add, qN_sub, qN_mul, qN_div, Bd_eq, reduceIte, Nat.add_sub_cancel, dm_l, Nat.zero_le, Nat.not_lt_zero, Nat.reduceEqDiff, Nat.reduceLT, Nat.reduceLeDiff, Nat.reduceAdd, Nat.reduceSub, Nat.reduceMul, Nat.reduceDiv, Nat.reduceMod, reduceCtorEq, true_implies, false_implies, not_true_eq_false, not_false_eq_true, true_and, and_true, implies_true, and_false, false_and, forall_const, true_or, or_true, false_or, or_false, cc, G12_child_J159, G12_child_J182, flag_q]
      rcases (show shq A j k = -1 ∨ shq A j k = 0 ∨ shq A j k = 1 from cq_3 _ _) with g | g | g
      · rw [g] at hk3 ⊢
        exact ⟨fun _ => ⟨fun r => absurd r (by decide), fun _ => hk3⟩, fun r => absurd (show (-1 : Int32) ≤ 0 by decide) r⟩
      · rw [g] at hk3 ⊢
        exact ⟨fun _ => ⟨fun _ => hk3, fun r => absurd (show (0 : Int32) ≤ 0 by decide) r⟩, fun r => absurd (show (0 : Int32) ≤ 0 by decide) r⟩
      · rw [g] at hk3 ⊢
        exact ⟨fun r => absurd r (by decide), fun _ => ⟨fun _ => hk3, fun r => absurd (show (0 : Int32) ≤ 1 by decide) r⟩⟩
    · have e : k = A 358 3 := by omega
      subst e
      simp (disch := omega) only [bo_q0, bo_q1, qN_le, qN_lt, qN_eq, qN_vp, qN_nat, qN_neg1, qN_neg, qN_nn, qN_lit, qN_add, qN_sub, qN_mul, qN_div, Bd_eq, reduceIte, Nat.add_sub_cancel, dm_l, Nat.zero_le, Nat.not_lt_zero, Nat.reduceEqDiff, Nat.reduceLT, Nat.reduceLeDiff, Nat.reduceAdd, Nat.reduceSub, Nat.reduceMul, Nat.reduceDiv, Nat.reduceMod, reduceCtorEq, true_implies, false_implies, not_true_eq_false, not_false_eq_true, true_and, and_true, implies_true, and_false, false_and, forall_const, true_or, or_true, false_or, or_false, G12_child_L45, Ma_s3 hA, Nat.le_refl]
      exact hk
  · have e : j = A 358 3 := by omega
    subst e
    simp (disch := omega) only [bo_q0, bo_q1, qN_le, qN_lt, qN_eq, qN_vp, qN_nat, qN_neg1, qN_neg, qN_nn, qN_lit, qN_add, qN_sub, qN_mul, qN_div, Bd_eq, reduceIte, Nat.add_sub_cancel, dm_l, Nat.zero_le, Nat.not_lt_zero, Nat.reduceEqDiff, Nat.reduceLT, Nat.reduceLeDiff, Nat.reduceAdd, Nat.reduceSub, Nat.reduceMul, Nat.reduceDiv, Nat.reduceMod, reduceCtorEq, true_implies, false_implies, not_true_eq_false, not_false_eq_true, true_and, and_true, implies_true, and_false, false_and, forall_const, true_or, or_true, false_or, or_false, G12_child_L33, Ma_s3 hA, Nat.le_refl, qN_J]
    obtain ⟨h2, f2⟩ := m_rc h1
    refine m_radd h2 (by decide) (fun μ3 h3 f3 => m_radd h3 (show (1 : Nat) < 10 by decide) (fun μ4 h4 f4 => ?_))
    exact w1 _ h4 (((fc.tr (FM_row f2)).tr (FM_row f3)).tr (FM_row f4))
