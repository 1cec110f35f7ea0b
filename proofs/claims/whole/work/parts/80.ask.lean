/-! a machine that is asked: pairs, nearly -/
def agn (A X : Nat → Nat → Nat) (p a b t : Nat) : Bool := if t = 1 then decide (lwa A X p a < lwa A X p b) else if t = 2 then decide (lwa A X p b < lwa A X p a) else !decide (lwa A X p a = lwa A X p b)
def agc (A X : Nat → Nat → Nat) (p n : Nat) : Nat := cnt (fun k => agn A X p (A 401 k) (A 402 k) (A 403 k)) n
def cbz (A X : Nat → Nat → Nat) (w : Nat) : Nat → Int32
  | 0 => qN 0
  | k + 1 => if 0 < A 378 k ∧ agc A X k (A 358 61) ≤ w then cbz A X w k ||| (qN 1 <<< (qN k &&& qN 31)) else cbz A X w k
def wgS (k j : Nat) : Prop := pS k j ∨ (242 ≤ k ∧ k ≤ 248)
theorem wgS_c {k j : Nat} (h : wgS k j) : cS k j := by
  rcases h with h | h
  · exact pS_c h
  · unfold cS; omega
theorem agn_0 {A X : Nat → Nat → Nat} {p a b t : Nat} (ht : t < 3) {x y : Int32} (hx : x = lwa A X p a) (hy : y = lwa A X p b) {μ : MM} {Q : Int32 → MM → Prop} (hQ : Q (if agn A X p a b t = true then 1 else 0) μ) :
    GJ6_compare_7cf53 x y μ (fun r12 μ11 => ((qN t = 1 → ((0 ≤ r12 → Q 0 μ11) ∧ (¬ (0 ≤ r12) → Q 1 μ11))) ∧ (qN t = 2 → ((r12 ≤ 0 → Q 0 μ11) ∧ (¬ (r12 ≤ 0) → Q 1 μ11))) ∧ (¬ qN t = 1 → ¬ qN t = 2 → ((r12 = 0 → Q 0 μ11) ∧ (¬ (r12 = 0) → Q 1 μ11))))) := by
  subst hx hy
  unfold agn at hQ
  generalize lwa A X p a = x at *
  generalize lwa A X p b = y at *
  have t1 : (qN t = 1) = (t = 1) := by rw [eq_iff_iff, show (1 : Int32) = qN 1 from rfl, qN_eq (by omega) (by decide)]
  have t2 : (qN t = 2) = (t = 2) := by rw [eq_iff_iff, show (2 : Int32) = qN 2 from rfl, qN_eq (by omega) (by decide)]
  unfold GJ6_compare_7cf53
  simp only [t1, t2]
  have a1 : (0 : Int32) ≤ 1 := by decide
  have a2 : ¬ (1 : Int32) ≤ 0 := by decide
  have a3 : ¬ (1 : Int32) = 0 := by decide
  have a4 : (0 : Int32) ≤ 0 := by decide
  have a5 : ¬ (0 : Int32) ≤ -1 := by decide
  have a6 : (-1 : Int32) ≤ 0 := by decide
  have a7 : ¬ (-1 : Int32) = 0 := by decide
  by_cases c1 : y ≤ x
  · have c2 : ¬ x < y := Int32.not_lt.mpr c1
    refine ⟨fun _ => ⟨fun c3 => ?_, fun c3 => ?_⟩, fun c => absurd c1 c⟩
    · have c4 : y < x := by
        rw [Int32.lt_iff_toInt_lt]
        rw [Int32.le_iff_toInt_le] at c1
        rw [← Int32.toInt_inj] at c3
        omega
      refine ⟨fun s => ⟨fun _ => ?_, fun r => absurd a1 r⟩, fun s => ⟨fun r => absurd r a2, fun _ => ?_⟩, fun s s2 => ⟨fun r => absurd r a3, fun _ => ?_⟩⟩
      · rw [if_pos s, decide_eq_false c2] at hQ; exact hQ
      · rw [if_neg (show ¬ t = 1 by omega), if_pos s, decide_eq_true c4] at hQ; exact hQ
      · rw [if_neg s, if_neg s2, decide_eq_false c3] at hQ; exact hQ
    · have c4 : ¬ y < x := by
        rw [Int32.lt_iff_toInt_lt, c3]
        omega
      refine ⟨fun s => ⟨fun _ => ?_, fun r => absurd a4 r⟩, fun s => ⟨fun _ => ?_, fun r => absurd a4 r⟩, fun s s2 => ⟨fun _ => ?_, fun r => absurd trivial r⟩⟩
      · rw [if_pos s, decide_eq_false c2] at hQ; exact hQ
      · rw [if_neg (show ¬ t = 1 by omega), if_pos s, decide_eq_false c4] at hQ; exact hQ
      · rw [if_neg s, if_neg s2, decide_eq_true c3] at hQ; exact hQ
  · have c2 : x < y := Int32.not_le.mp c1
    have c4 : ¬ y < x := by
      rw [Int32.lt_iff_toInt_lt]
      rw [Int32.lt_iff_toInt_lt] at c2
      omega
    have c3 : ¬ x = y := by
      intro e
      rw [e, Int32.lt_iff_toInt_lt] at c2
      omega
    refine ⟨fun c => absurd c c1, fun _ => ⟨fun s => ⟨fun r => absurd r a5, fun _ => ?_⟩, fun s => ⟨fun _ => ?_, fun r => absurd a6 r⟩, fun s s2 => ⟨fun r => absurd r a7, fun _ => ?_⟩⟩⟩
    · rw [if_pos s, decide_eq_true c2] at hQ; exact hQ
    · rw [if_neg (show ¬ t = 1 by omega), if_pos s, decide_eq_false c4] at hQ; exact hQ
    · rw [if_neg s, if_neg s2, decide_eq_false c3] at hQ; exact hQ
def rS (k j : Nat) : Prop := 115 ≤ k ∧ k < 151 ∧ ((k - 115) % 3 = 2 ∨ ((k - 115) % 3 = 0 ∧ j = 3))
theorem c_res2 {A X : Nat → Nat → Nat} {W : List Int64} {μ : MM} {Q : Int32 → MM → Prop} (hV : Inv A X) (h : Cs A X W μ) {p : Nat} (hp : p < 12) (h0 : 0 < A 378 p) {th : Nat → Int32} (hth : ∀ j, j < 14 → gI μ 12 j = th j)
    (hQ : ∀ μ', Sm rS μ μ' → Q (evl th (X p) (A 378 p)) μ') : G3_result (ecp p) 12 μ Q := by
  have hb : A 378 p < 41 := hV.b 378 p (by unfold dom; omega)
  have e1 : cc 378 p = ecp p := rfl
  have g1 : gI μ (ecp p) 1 = qN (A 378 p) := h.1 378 p (by unfold dom; omega)
  have h3 := ecp_S hp 0
  refine c_result (by omega) g1 (by omega) h0 (h.2.1 p hp) (hV.w hp) hth (fun μ' f => hQ μ' (f.mo (fun k j q => ?_)))
  unfold eS at q
  unfold rS
  unfold ecp at q
  split at q <;> omega
theorem rS_p {k j : Nat} (h : rS k j) : pS k j := Or.inr h
theorem agc_le (A X : Nat → Nat → Nat) (p n : Nat) : agc A X p n ≤ n := cnt_le _ _
def wgV (A X : Nat → Nat → Nat) (μ : MM) (n : Nat) : Prop := ∀ p i, p < 6 → i < n → 0 < A 378 p → gI μ (242 + p) i = lwa A X p i
theorem c_goesA {A X : Nat → Nat → Nat} {μ : MM} {Q : Int32 → MM → Prop} {p a b t n : Nat} (hp : p < 6) (ha : a < 96) (hb : b < 96) (ht : t < 3) (an : a < n) (bn : b < n) (hg : wgV A X μ n)
    (hy : 0 < A 378 p → Q (if agn A X p a b t = true then 1 else 0) μ) (hn : ¬ 0 < A 378 p → ∀ r, Q r μ) : G6_goesAgainst (qN p) (qN a) (qN b) (qN t) μ Q := by
  unfold G6_goesAgainst
  rw [qN_vp (by omega), qN_vp (by omega), qN_vp (by omega), qN_nat (by omega), qN_nat (by omega), qN_nat (by omega)]
  refine ⟨hp, ha, hp, hb, ?_⟩
  by_cases h0 : 0 < A 378 p
  · exact agn_0 ht (hg p a hp an h0) (hg p b hp bn h0) (hy h0)
  · have two : ∀ (P P2 : Prop) (r r2 : Int32), (P → Q r μ) ∧ (P2 → Q r2 μ) := fun P P2 r r2 => ⟨fun _ => hn h0 r, fun _ => hn h0 r2⟩
    exact ⟨fun _ => ⟨fun _ => ⟨fun _ => two _ _ _ _, fun _ => two _ _ _ _, fun _ _ => two _ _ _ _⟩, fun _ => ⟨fun _ => two _ _ _ _, fun _ => two _ _ _ _, fun _ _ => two _ _ _ _⟩⟩, fun _ => ⟨fun _ => two _ _ _ _, fun _ => two _ _ _ _, fun _ _ => two _ _ _ _⟩⟩
theorem c_weigh {A X : Nat → Nat → Nat} {W : List Int64} {μ : MM} {Q : MM → Prop} (hV : Inv A X) (h : Cs A X W μ)
    (hQ : ∀ μ', Cs A X W μ' → FC μ μ' → wgV A X μ' (A 358 12) → (∀ p, p < 6 → 0 < A 378 p → gI μ' 248 p = qN (agc A X p (A 358 61))) → Q μ') : G6_weigh μ Q := by
  have hl : A 358 12 < 97 := hV.b 358 12 (by unfold dom; decide)
  have h61 : A 358 61 < 41 := hV.b 358 61 (by unfold dom; decide)
  refine Lp.up (A 358 12) (fun i x => x.1 = qN i ∧ Cs A X W x.2 ∧ Sm wgS μ x.2 ∧ wgV A X x.2 i) ?_ ⟨rfl, h, Sm.rfl', fun p i _ hi => absurd hi (by omega)⟩
  rintro i K hi hK ⟨y, ν⟩ ⟨rfl, hC, hs, hg⟩
  simp only at hC hs hg
  rcases Nat.lt_or_ge i (A 358 12) with hl1 | hl1
  · have hk := hK hl1
    clear hK
    have hi9 : i < 96 := by omega
    simp (disch := omega) only [bo_q0, bo_q1, qN_le, qN_lt, qN_eq, qN_vp, qN_nat, qN_neg1, qN_neg, qN_nn, qN_lit, qN_add, qN_sub, qN_mul, qN_div, Bd_eq, reduceIte, Nat.add_sub_cancel, dm_l, Nat.zero_le, Nat.not_lt_zero, Nat.reduceEqDiff, Nat.reduceLT, Nat.reduceLeDiff, Nat.reduceAdd, Nat.reduceSub, Nat.reduceMul, Nat.reduceDiv, Nat.reduceMod, reduceCtorEq, true_implies, false_implies, not_true_eq_false, not_false_eq_true, true_and, and_true, implies_true, and_false, false_and, forall_const, true_or, or_true, false_or, or_false, G6_weigh_L2, Ca_s12 hC.1, Nat.not_le.mpr hl1, hi9]
    refine c_lookAt hV.b hC.1 hi9 (fun ν1 f1 e1 => ?_)
    have f1' : Sm wgS ν ν1 := f1.mo (fun k j q => Or.inl (Or.inl q))
    have h1 := hC.sm (f1'.mo (fun k j q => wgS_c q))
    have g1 : wgV A X ν1 i := fun p j hp hj h0 => by rw [(f1.1 (242 + p) j (by omega)).1]; exact hg p j hp hj h0
    refine Lp.up 6 (fun p x => x.1 = qN p ∧ Cs A X W x.2 ∧ Sm wgS μ x.2 ∧ wgV A X x.2 i ∧ (∀ j, j < 14 → gI x.2 12 j = thv A i 0 0 0 j) ∧ ∀ q, q < p → 0 < A 378 q → gI x.2 (242 + q) i = lwa A X q i) ?_ ⟨rfl, h1, hs.tr f1', g1, e1, fun q hq => absurd hq (by omega)⟩
    rintro p K2 hp hK2 ⟨y, ω⟩ ⟨rfl, hO, sO, gO, eO, vO⟩
    simp only at hO sO gO eO vO
    rcases Nat.lt_or_ge p 6 with hl2 | hl2
    · have hk2 := hK2 hl2
      have wr : ∀ (ω2 : MM) (v : Int32), Cs A X W ω2 → Sm rS ω ω2 → (0 < A 378 p → v = lwa A X p i) → K2 (qN (p + 1), sI ω2 (242 + p) i v) := by
        intro ω2 v h2 f2 hv
        have s1 : Sm wgS ω2 (sI ω2 (242 + p) i v) := Sm.rfl'.wI v (k := 242 + p) (j := i) (Or.inr (by omega))
        have f2' : Sm wgS ω ω2 := f2.mo (fun k j q => Or.inl (rS_p q))
        have kp2 : ∀ k j, 151 ≤ k ∨ k = 12 → gI ω2 k j = gI ω k j := fun k j hk => (f2.1 k j (by unfold rS; omega)).1
        refine hk2 _ ⟨rfl, h2.sm (s1.mo (fun k j q => wgS_c q)), (sO.tr f2').tr s1, fun q j hq hj h0 => ?_, fun j hj => ?_, fun q hq h0 => ?_⟩
        · rw [gI_I, if_neg (fun r => by omega), kp2 _ _ (by omega)]
          exact gO q j hq hj h0
        · rw [gI_I, if_neg (fun r => by omega), kp2 _ _ (by omega)]
          exact eO j hj
        · rw [gI_I]
          by_cases r : q = p
          · subst r; rw [if_pos ⟨rfl, rfl⟩]; exact hv h0
          · rw [if_neg (fun s => by omega), kp2 _ _ (by omega)]
            exact vO q (by omega) h0
      simp (disch := omega) only [bo_q0, bo_q1, qN_le, qN_lt, qN_eq, qN_vp, qN_nat, qN_neg1, qN_neg, qN_nn, qN_lit, qN_add, qN_sub, qN_mul, qN_div, Bd_eq, reduceIte, Nat.add_sub_cancel, dm_l, Nat.zero_le, Nat.not_lt_zero, Nat.reduceEqDiff, Nat.reduceLT, Nat.reduceLeDiff, Nat.reduceAdd, Nat.reduceSub, Nat.reduceMul, Nat.reduceDiv, Nat.reduceMod, reduceCtorEq, true_implies, false_implies, not_true_eq_false, not_false_eq_true, true_and, and_true, implies_true, and_false, false_and, forall_const, true_or, or_true, false_or, or_false, G6_weigh_L31, Nat.not_le.mpr hl2, hl2, hi9]
      refine c_isLaw hV.b hO.1 (fun q => ?_) (fun q => ?_)
      · obtain ⟨p', hp', e, h0⟩ := q
        obtain rfl := (qN_eq (by omega) (by omega)).mp e
        simp (disch := omega) only [bo_q0, bo_q1, qN_le, qN_lt, qN_eq, qN_vp, qN_nat, qN_neg1, qN_neg, qN_nn, qN_lit, qN_add, qN_sub, qN_mul, qN_div, Bd_eq, reduceIte, Nat.add_sub_cancel, dm_l, Nat.zero_le, Nat.not_lt_zero, Nat.reduceEqDiff, Nat.reduceLT, Nat.reduceLeDiff, Nat.reduceAdd, Nat.reduceSub, Nat.reduceMul, Nat.reduceDiv, Nat.reduceMod, reduceCtorEq, true_implies, false_implies, not_true_eq_false, not_false_eq_true, true_and, and_true, implies_true, and_false, false_and, forall_const, true_or, or_true, false_or, or_false, hl2, hi9]
        have ep : 115 + 6 * p = ecp p := by unfold ecp; rw [if_pos hl2]
        rw [ep]
        refine c_res2 hV hO (by omega) h0 eO (fun ω2 f2 => ?_)
        simp (disch := omega) only [bo_q0, bo_q1, qN_le, qN_lt, qN_eq, qN_vp, qN_nat, qN_neg1, qN_neg, qN_nn, qN_lit, qN_add, qN_sub, qN_mul, qN_div, Bd_eq, reduceIte, Nat.add_sub_cancel, dm_l, Nat.zero_le, Nat.not_lt_zero, Nat.reduceEqDiff, Nat.reduceLT, Nat.reduceLeDiff, Nat.reduceAdd, Nat.reduceSub, Nat.reduceMul, Nat.reduceDiv, Nat.reduceMod, reduceCtorEq, true_implies, false_implies, not_true_eq_false, not_false_eq_true, true_and, and_true, implies_true, and_false, false_and, forall_const, true_or, or_true, false_or, or_false, hl2, hi9]
        exact wr ω2 _ (hO.sm (f2.mo (fun k j q => pS_c (rS_p q)))) f2 (fun _ => rfl)
      · simp (disch := omega) only [bo_q0, bo_q1, qN_le, qN_lt, qN_eq, qN_vp, qN_nat, qN_neg1, qN_neg, qN_nn, qN_lit, qN_add, qN_sub, qN_mul, qN_div, Bd_eq, reduceIte, Nat.add_sub_cancel, dm_l, Nat.zero_le, Nat.not_lt_zero, Nat.reduceEqDiff, Nat.reduceLT, Nat.reduceLeDiff, Nat.reduceAdd, Nat.reduceSub, Nat.reduceMul, Nat.reduceDiv, Nat.reduceMod, reduceCtorEq, true_implies, false_implies, not_true_eq_false, not_false_eq_true, true_and, and_true, implies_true, and_false, false_and, forall_const, true_or, or_true, false_or, or_false, hl2, hi9]
        exact wr ω _ hO Sm.rfl' (fun h0 => absurd ⟨p, hl2, rfl, h0⟩ q)
    · have e : p = 6 := by omega
      subst e
      simp (disch := omega) only [bo_q0, bo_q1, qN_le, qN_lt, qN_eq, qN_vp, qN_nat, qN_neg1, qN_neg, qN_nn, qN_lit, qN_add, qN_sub, qN_mul, qN_div, Bd_eq, reduceIte, Nat.add_sub_cancel, dm_l, Nat.zero_le, Nat.not_lt_zero, Nat.reduceEqDiff, Nat.reduceLT, Nat.reduceLeDiff, Nat.reduceAdd, Nat.reduceSub, Nat.reduceMul, Nat.reduceDiv, Nat.reduceMod, reduceCtorEq, true_implies, false_implies, not_true_eq_false, not_false_eq_true, true_and, and_true, implies_true, and_false, false_and, forall_const, true_or, or_true, false_or, or_false, G6_weigh_L31]
      refine hk _ ⟨rfl, hO, sO, fun q j hq hj h0 => ?_⟩
      by_cases r : j = i
      · subst r; exact vO q hq h0
      · exact gO q j hq (by omega) h0
  · have e : i = A 358 12 := by omega
    subst e
    clear hK
    simp (disch := omega) only [bo_q0, bo_q1, qN_le, qN_lt, qN_eq, qN_vp, qN_nat, qN_neg1, qN_neg, qN_nn, qN_lit, qN_add, qN_sub, qN_mul, qN_div, Bd_eq, reduceIte, Nat.add_sub_cancel, dm_l, Nat.zero_le, Nat.not_lt_zero, Nat.reduceEqDiff, Nat.reduceLT, Nat.reduceLeDiff, Nat.reduceAdd, Nat.reduceSub, Nat.reduceMul, Nat.reduceDiv, Nat.reduceMod, reduceCtorEq, true_implies, false_implies, not_true_eq_false, not_false_eq_true, true_and, and_true, implies_true, and_false, false_and, forall_const, true_or, or_true, false_or, or_false, G6_weigh_L2, Ca_s12 hC.1, Nat.le_refl]
    refine Lp.up 6 (fun p x => x.1 = qN p ∧ Cs A X W x.2 ∧ Sm wgS μ x.2 ∧ wgV A X x.2 (A 358 12) ∧ ∀ q, q < p → 0 < A 378 q → gI x.2 248 q = qN (agc A X q (A 358 61))) ?_ ⟨rfl, hC, hs, hg, fun q hq => absurd hq (by omega)⟩
    rintro p K2 hp hK2 ⟨y, ω⟩ ⟨rfl, hO, sO, gO, vO⟩
    simp only at hO sO gO vO
    rcases Nat.lt_or_ge p 6 with hl2 | hl2
    · have hk2 := hK2 hl2
      clear hK2
      simp (disch := omega) only [bo_q0, bo_q1, qN_le, qN_lt, qN_eq, qN_vp, qN_nat, qN_neg1, qN_neg, qN_nn, qN_lit, qN_add, qN_sub, qN_mul, qN_div, Bd_eq, reduceIte, Nat.add_sub_cancel, dm_l, Nat.zero_le, Nat.not_lt_zero, Nat.reduceEqDiff, Nat.reduceLT, Nat.reduceLeDiff, Nat.reduceAdd, Nat.reduceSub, Nat.reduceMul, Nat.reduceDiv, Nat.reduceMod, reduceCtorEq, true_implies, false_implies, not_true_eq_false, not_false_eq_true, true_and, and_true, implies_true, and_false, false_and, forall_const, true_or, or_true, false_or, or_false, G6_weigh_L93, Nat.not_le.mpr hl2, hl2]
      have s1 : Sm wgS ω (sI ω 248 p (qN 0)) := Sm.rfl'.wI (qN 0) (k := 248) (j := p) (Or.inr (by omega))
      have g48 : ∀ q, q < p → 0 < A 378 q → gI (sI ω 248 p (qN 0)) 248 q = qN (agc A X q (A 358 61)) := fun q hq h0 => by
        rw [gI_I, if_neg (fun r => by omega)]; exact vO q hq h0
      have gw : wgV A X (sI ω 248 p (qN 0)) (A 358 12) := fun q j hq hj h0 => by
        rw [gI_I, if_neg (fun r => by omega)]; exact gO q j hq hj h0
      refine Lp.up (A 358 61) (fun k x => x.1 = qN k ∧ Cs A X W x.2 ∧ Sm wgS μ x.2 ∧ wgV A X x.2 (A 358 12) ∧ (∀ q, q < p → 0 < A 378 q → gI x.2 248 q = qN (agc A X q (A 358 61))) ∧ (0 < A 378 p → gI x.2 248 p = qN (agc A X p k))) ?_ ⟨rfl, hO.sm (s1.mo (fun k j q => wgS_c q)), sO.tr s1, gw, g48, fun _ => by rw [gI_I, if_pos ⟨rfl, rfl⟩]; rfl⟩
      clear g48 gw s1 vO gO sO hO ω
      rintro k K3 hk3 hK3 ⟨y, ω⟩ ⟨rfl, hO, sO, gO, vO, tO⟩
      simp only at hO sO gO vO tO
      rcases Nat.lt_or_ge k (A 358 61) with hl3 | hl3
      · have hk4 := hK3 hl3
        have k40 : k < 40 := by omega
        have ab := hV.2.2.2.2.2.2.1 k hl3
        have b3 : A 403 k < 3 := hV.b 403 k (by unfold dom; omega)
        have wr : ∀ v : Int32, (0 < A 378 p → v = qN (agc A X p (k + 1))) → K3 (qN (k + 1), sI ω 248 p v) := by
          intro v hv
          have s1 : Sm wgS ω (sI ω 248 p v) := Sm.rfl'.wI v (k := 248) (j := p) (Or.inr (by omega))
          refine hk4 _ ⟨rfl, hO.sm (s1.mo (fun k j q => wgS_c q)), sO.tr s1, fun q j hq hj h0 => ?_, fun q hq h0 => ?_, fun h0 => ?_⟩
          · rw [gI_I, if_neg (fun r => by omega)]; exact gO q j hq hj h0
          · rw [gI_I, if_neg (fun r => by omega)]; exact vO q hq h0
          · rw [gI_I, if_pos ⟨rfl, rfl⟩]; exact hv h0
        have a96 : A 401 k < 96 := by omega
        have b96 : A 402 k < 96 := by omega
        simp (disch := omega) only [bo_q0, bo_q1, qN_le, qN_lt, qN_eq, qN_vp, qN_nat, qN_neg1, qN_neg, qN_nn, qN_lit, qN_add, qN_sub, qN_mul, qN_div, Bd_eq, reduceIte, Nat.add_sub_cancel, dm_l, Nat.zero_le, Nat.not_lt_zero, Nat.reduceEqDiff, Nat.reduceLT, Nat.reduceLeDiff, Nat.reduceAdd, Nat.reduceSub, Nat.reduceMul, Nat.reduceDiv, Nat.reduceMod, reduceCtorEq, true_implies, false_implies, not_true_eq_false, not_false_eq_true, true_and, and_true, implies_true, and_false, false_and, forall_const, true_or, or_true, false_or, or_false, G6_weigh_L108, Ca_s61 hO.1, Nat.not_le.mpr hl3, hl2, k40, Ca_401 hO.1, Ca_402 hO.1, Ca_403 hO.1]
        refine c_goesA hl2 a96 b96 b3 ab.1 ab.2 gO (fun h0 => ?_) (fun h0 r => ?_)
        · have es : agc A X p (k + 1) = agc A X p k + (agn A X p (A 401 k) (A 402 k) (A 403 k)).toNat := rfl
          cases hb : agn A X p (A 401 k) (A 402 k) (A 403 k)
          · rw [hb] at es
            simp (disch := omega) only [bo_q0, bo_q1, qN_le, qN_lt, qN_eq, qN_vp, qN_nat, qN_neg1, qN_neg, qN_nn, qN_lit, qN_add, qN_sub, qN_mul, qN_div, Bd_eq, reduceIte, Nat.add_sub_cancel, dm_l, Nat.zero_le, Nat.not_lt_zero, Nat.reduceEqDiff, Nat.reduceLT, Nat.reduceLeDiff, Nat.reduceAdd, Nat.reduceSub, Nat.reduceMul, Nat.reduceDiv, Nat.reduceMod, reduceCtorEq, true_implies, false_implies, not_true_eq_false, not_false_eq_true, true_and, and_true, implies_true, and_false, false_and, forall_const, true_or, or_true, false_or, or_false, Bool.false_eq_true, tO h0]
            exact wr _ (fun _ => by rw [es]; rfl)
          · rw [hb] at es
            simp (disch := omega) only [bo_q0, bo_q1, qN_le, qN_lt, qN_eq, qN_vp, qN_nat, qN_neg1, qN_neg, qN_nn, qN_lit, qN_add, qN_sub, qN_mul, qN_div, Bd_eq, reduceIte, Nat.add_sub_cancel, dm_l, Nat.zero_le, Nat.not_lt_zero, Nat.reduceEqDiff, Nat.reduceLT, Nat.reduceLeDiff, Nat.reduceAdd, Nat.reduceSub, Nat.reduceMul, Nat.reduceDiv, Nat.reduceMod, reduceCtorEq, true_implies, false_implies, not_true_eq_false, not_false_eq_true, true_and, and_true, implies_true, and_false, false_and, forall_const, true_or, or_true, false_or, or_false, tO h0]
            exact wr _ (fun _ => by rw [es]; rfl)
        · exact ⟨fun _ => wr _ (fun h => absurd h h0), fun _ => wr _ (fun h => absurd h h0)⟩
      · have e : k = A 358 61 := by omega
        subst e
        simp (disch := omega) only [bo_q0, bo_q1, qN_le, qN_lt, qN_eq, qN_vp, qN_nat, qN_neg1, qN_neg, qN_nn, qN_lit, qN_add, qN_sub, qN_mul, qN_div, Bd_eq, reduceIte, Nat.add_sub_cancel, dm_l, Nat.zero_le, Nat.not_lt_zero, Nat.reduceEqDiff, Nat.reduceLT, Nat.reduceLeDiff, Nat.reduceAdd, Nat.reduceSub, Nat.reduceMul, Nat.reduceDiv, Nat.reduceMod, reduceCtorEq, true_implies, false_implies, not_true_eq_false, not_false_eq_true, true_and, and_true, implies_true, and_false, false_and, forall_const, true_or, or_true, false_or, or_false, G6_weigh_L108, Ca_s61 hO.1, Nat.le_refl]
        refine hk2 _ ⟨rfl, hO, sO, gO, fun q hq h0 => ?_⟩
        by_cases r : q = p
        · subst r; exact tO h0
        · exact vO q (by omega) h0
    · have e : p = 6 := by omega
      subst e
      simp (disch := omega) only [bo_q0, bo_q1, qN_le, qN_lt, qN_eq, qN_vp, qN_nat, qN_neg1, qN_neg, qN_nn, qN_lit, qN_add, qN_sub, qN_mul, qN_div, Bd_eq, reduceIte, Nat.add_sub_cancel, dm_l, Nat.zero_le, Nat.not_lt_zero, Nat.reduceEqDiff, Nat.reduceLT, Nat.reduceLeDiff, Nat.reduceAdd, Nat.reduceSub, Nat.reduceMul, Nat.reduceDiv, Nat.reduceMod, reduceCtorEq, true_implies, false_implies, not_true_eq_false, not_false_eq_true, true_and, and_true, implies_true, and_false, false_and, forall_const, true_or, or_true, false_or, or_false, G6_weigh_L93]
      exact hQ _ hO (FC_cS (sO.mo (fun k j q => wgS_c q))) gO (fun q hq h0 => vO q hq h0)
