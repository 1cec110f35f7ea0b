/-! longs, greatest divisors, rows -/
theorem qJ_t {n : Int} (h1 : -9223372036854775808 ≤ n) (h2 : n < 9223372036854775808) : (qJ n).toInt = n := Int64.toInt_ofInt_of_le h1 h2
theorem qJ_lt {a b : Int} (ha : -9223372036854775808 ≤ a) (ha2 : a < 9223372036854775808) (hb : -9223372036854775808 ≤ b) (hb2 : b < 9223372036854775808) : qJ a < qJ b ↔ a < b := by
  rw [Int64.lt_iff_toInt_lt, qJ_t ha ha2, qJ_t hb hb2]
theorem qJ_eq {a b : Int} (ha : -9223372036854775808 ≤ a) (ha2 : a < 9223372036854775808) (hb : -9223372036854775808 ≤ b) (hb2 : b < 9223372036854775808) : qJ a = qJ b ↔ a = b := by
  rw [← Int64.toInt_inj, qJ_t ha ha2, qJ_t hb hb2]
theorem qJ_add (a b : Int) : qJ a + qJ b = qJ (a + b) := (Int64.ofInt_add a b).symm
theorem qJ_sub (a b : Int) : qJ a - qJ b = qJ (a - b) := (Int64.ofInt_sub a b).symm
theorem qJ_mul (a b : Int) : qJ a * qJ b = qJ (a * b) := (Int64.ofInt_mul a b).symm
theorem qJ_neg (a : Int) : -qJ a = qJ (-a) := (Int64.ofInt_neg a).symm
theorem qJ_div {a b : Int} (ha : -9223372036854775808 ≤ a) (ha2 : a < 9223372036854775808) (hb : -9223372036854775808 ≤ b) (hb2 : b < 9223372036854775808) : qJ a / qJ b = qJ (a.tdiv b) := by
  apply Eq.symm
  exact Int64.ofInt_tdiv (by show (-9223372036854775808 : Int) ≤ a; omega) (by show a ≤ (9223372036854775807 : Int); omega) (by show (-9223372036854775808 : Int) ≤ b; omega) (by show b ≤ (9223372036854775807 : Int); omega)
theorem qL_J (n : Nat) : qL n = qJ (n : Int) := by
  unfold qL qJ
  exact (Int64.ofInt_eq_ofNat).symm
theorem qJ_lit (n : Nat) : (OfNat.ofNat n : Int64) = qJ (n : Int) := qL_J n
theorem qN_J {a : Nat} (ha : a < 2147483648) : (qN a).toInt64 = qJ (a : Int) := by rw [qN_6 ha, qL_J]
theorem qL_0 {a : Nat} (h : a < 9223372036854775808) : qL a = 0 ↔ a = 0 := by
  rw [qL_lit 0, qL_eq h (by decide)]
theorem gcd_lp {body : (Int64 × Int64 × MM → Prop) → Int64 × Int64 × MM → Prop} {μ : MM} {Q : Int64 → MM → Prop} (hb : ∀ K x, body K x = (((lg_cmp x.2.1 0) = 0 → Q x.1 x.2.2) ∧ (¬ ((lg_cmp x.2.1 0) = 0) → ¬ x.2.1 = 0 ∧ Bd (x.1 - x.1 / x.2.1 * x.2.1) fun y8 => K (x.2.1, y8, x.2.2))))
    {a b : Nat} (ha : a < 9223372036854775808) (hb2 : b < 9223372036854775808) (h : Q (qL (Nat.gcd a b)) μ) : Lp body (qL a, qL b, μ) := by
  refine Lp.wf (fun x => x.2.1.toInt.toNat) (fun x => ∃ c d : Nat, x = (qL c, qL d, μ) ∧ c < 9223372036854775808 ∧ d < 9223372036854775808 ∧ Nat.gcd c d = Nat.gcd a b) ?_ ⟨a, b, rfl, ha, hb2, rfl⟩
  rintro K x ⟨c, d, rfl, hc, hd, hg⟩ hK
  rw [hb, lg_0, Bd_eq]
  simp only [qL_0 hd]
  refine ⟨fun q => ?_, fun q => ⟨q, hK _ ⟨d, c % d, ?_, hd, ?_, ?_⟩ ?_⟩⟩
  · subst q
    rw [Nat.gcd_zero_right] at hg
    rw [hg]
    exact h
  · rw [qL_div hc hd, qL_mul, qL_sub (by rw [Nat.mul_comm]; exact Nat.mul_div_le c d)]
    have := dm_l c d
    rw [this]
  · have := Nat.mod_lt c (Nat.pos_of_ne_zero q)
    omega
  · rw [← hg, Nat.gcd_comm c d, Nat.gcd_rec d c]
    rw [Nat.gcd_comm]
  · show (qL c - qL c / qL d * qL d).toInt.toNat < (qL d).toInt.toNat
    rw [qL_div hc hd, qL_mul, qL_sub (by rw [Nat.mul_comm]; exact Nat.mul_div_le c d), dm_l, qL_t hd]
    have := Nat.mod_lt c (Nat.pos_of_ne_zero q)
    rw [qL_t (by omega)]
    omega
/-- numbers each of which is the sum of the two before it -/
def fq : Nat → Nat → Nat → Nat
  | 0, a, _ => a
  | n + 1, a, b => fq n b (a + b)
theorem fq_add (n : Nat) : ∀ a b : Nat, fq (n + 2) a b = fq n a b + fq (n + 1) a b := by
  induction n with
  | zero => intro a b; rfl
  | succ n ih => intro a b; exact ih b (a + b)
theorem fq_101 : 9223372036854775808 < fq 101 0 1 := by decide +kernel
theorem fq_1 : fq 1 0 1 = 1 := rfl
theorem fq_2 : fq 2 0 1 = 1 := rfl
/-- one step of the greatest divisor takes one off the bound of steps -/
theorem fq_st {c d k : Nat} (hk : k < 100) (hd : 0 < d) (h0 : k = 0 → d < 9223372036854775808) (h : k = 0 ∨ (d < c ∧ (c < fq (102 - k) 0 1 ∨ d < fq (101 - k) 0 1))) : c % d < d ∧ (d < fq (102 - (k + 1)) 0 1 ∨ c % d < fq (101 - (k + 1)) 0 1) := by
  refine ⟨Nat.mod_lt c hd, ?_⟩
  have e1 : 102 - (k + 1) = 101 - k := by omega
  have e2 : 101 - (k + 1) = 100 - k := by omega
  rw [e1, e2]
  rcases h with q | ⟨q1, q2⟩
  · subst q
    exact Or.inl (Nat.lt_trans (h0 rfl) fq_101)
  · by_cases q : d < fq (101 - k) 0 1
    · exact Or.inl q
    · have q3 : c < fq (102 - k) 0 1 := by
        rcases q2 with q2 | q2
        · exact q2
        · exact absurd q2 q
      have e3 : 102 - k = (100 - k) + 2 := by omega
      have e4 : 101 - k = (100 - k) + 1 := by omega
      rw [e3, fq_add] at q3
      rw [e4] at q
      have m1 := Nat.div_add_mod c d
      have m2 : 1 ≤ c / d := Nat.div_pos (Nat.le_of_lt q1) hd
      have m3 : d * 1 ≤ d * (c / d) := Nat.mul_le_mul_left d m2
      right
      omega
theorem gcd_lpn {μ : MM} {Q : Int64 → MM → Prop} {a b : Nat} (ha : a < 9223372036854775808) (hb2 : b < 9223372036854775808) (h : Q (qL (Nat.gcd a b)) μ) : Lp (G11_greatestDivisor_L31 Q) (qL a, qL b, 0, μ) := by
  refine Lp.wf (fun x => x.2.1.toInt.toNat) (fun x => ∃ c d k : Nat, x = (qL c, qL d, qN k, μ) ∧ c < 9223372036854775808 ∧ d < 9223372036854775808 ∧ Nat.gcd c d = Nat.gcd a b ∧ k ≤ 100 ∧ (k = 0 ∨ (d < c ∧ (c < fq (102 - k) 0 1 ∨ d < fq (101 - k) 0 1)))) ?_ ⟨a, b, 0, rfl, ha, hb2, rfl, by omega, Or.inl rfl⟩
  rintro K x ⟨c, d, k, rfl, hc, hd, hg, hk, hf⟩ hK
  have c1 : (100 : Int32) ≤ qN k ↔ 100 ≤ k := qN_le (a := 100) (by decide) (by omega)
  have out : d = 0 → Q (qL c) μ := by
    intro q
    subst q
    rw [Nat.gcd_zero_right] at hg
    rw [hg]
    exact h
  unfold G11_greatestDivisor_L31
  show (((100 : Int32) ≤ qN k → Q (qL c) μ) ∧ (¬ ((100 : Int32) ≤ qN k) → (((lg_cmp (qL d) 0) = 0 → Q (qL c) μ) ∧ (¬ ((lg_cmp (qL d) 0) = 0) → ¬ qL d = 0 ∧ Bd (qL c - qL c / qL d * qL d) fun y9 => K (qL d, y9, (qN k + 1), μ)))))
  rw [lg_0, Bd_eq, c1, show qN k + 1 = qN (k + 1) from qN_add k 1]
  simp only [qL_0 hd]
  refine ⟨fun q => out ?_, fun q0 => ⟨out, fun q => ⟨q, hK _ ⟨d, c % d, k + 1, ?_, hd, ?_, ?_, by omega, Or.inr (fq_st (by omega) (Nat.pos_of_ne_zero q) (fun _ => hd) hf)⟩ ?_⟩⟩⟩
  · have e : k = 100 := by omega
    subst e
    rcases hf with r | ⟨r1, r2⟩
    · omega
    · rw [show 102 - 100 = 2 from rfl, show 101 - 100 = 1 from rfl, fq_1, fq_2] at r2
      omega
  · rw [qL_div hc hd, qL_mul, qL_sub (by rw [Nat.mul_comm]; exact Nat.mul_div_le c d)]
    have := dm_l c d
    rw [this]
  · have := Nat.mod_lt c (Nat.pos_of_ne_zero q)
    omega
  · rw [← hg, Nat.gcd_comm c d, Nat.gcd_rec d c]
    rw [Nat.gcd_comm]
  · show (qL c - qL c / qL d * qL d).toInt.toNat < (qL d).toInt.toNat
    rw [qL_div hc hd, qL_mul, qL_sub (by rw [Nat.mul_comm]; exact Nat.mul_div_le c d), dm_l, qL_t hd]
    have := Nat.mod_lt c (Nat.pos_of_ne_zero q)
    rw [qL_t (by omega)]
    omega
def fit6 (u : Int) : Prop := -9223372036854775808 < u ∧ u < 9223372036854775808
theorem c_gcd {u l : Int} {μ : MM} {Q : Int64 → MM → Prop} (hu : fit6 u) (hl : fit6 l) (h : Q (qL (Int.gcd u l)) μ) : G11_greatestDivisor (qJ u) (qJ l) μ Q := by
  obtain ⟨u1, u2⟩ := hu
  obtain ⟨l1, l2⟩ := hl
  have key : ∀ a b : Nat, a < 9223372036854775808 → b < 9223372036854775808 → a = u.natAbs → b = l.natAbs → Lp (G11_greatestDivisor_L31 Q) (qL a, qL b, 0, μ) := fun a b ha hb e1 e2 => gcd_lpn ha hb (by subst e1 e2; exact h)
  have e0 : (0 : Int64) = qJ 0 := rfl
  have k2 : ∀ a : Nat, a < 9223372036854775808 → a = u.natAbs → G11_greatestDivisor_J12 (qJ l) (qL a) μ Q := by
    intro a ha e
    unfold G11_greatestDivisor_J12
    rw [lg_ge, e0, qJ_lt (by omega) (by omega) (by omega) (by omega), Bd_eq, qJ_neg]
    refine ⟨fun q => ?_, fun q => ?_⟩
    · have : qJ l = qL l.natAbs := by rw [qL_J]; congr 1; omega
      rw [this]
      exact key _ _ ha (by omega) e rfl
    · have : qJ (-l) = qL l.natAbs := by rw [qL_J]; congr 1; omega
      rw [this]
      exact key _ _ ha (by omega) e rfl
  unfold G11_greatestDivisor
  rw [lg_ge, e0, qJ_lt (by omega) (by omega) (by omega) (by omega), qJ_neg]
  refine ⟨fun q => ?_, fun q => ?_⟩
  · have : qJ u = qL u.natAbs := by rw [qL_J]; congr 1; omega
    rw [this]
    exact k2 _ (by omega) rfl
  · have : qJ (-u) = qL u.natAbs := by rw [qL_J]; congr 1; omega
    rw [this]
    exact k2 _ (by omega) rfl
theorem m_gcd {u : Int} {l : Nat} {μ : MM} {Q : Int64 → MM → Prop} (hu : fit6 u) (hl : l < 9223372036854775808) (h : Q (qL (Int.gcd u l)) μ) : G12_common (qJ u) (qL l) μ Q := by
  obtain ⟨u1, u2⟩ := hu
  have key : ∀ a : Nat, a < 9223372036854775808 → a = u.natAbs → Lp (G12_common_L17 Q) (qL a, qL l, μ) := fun a ha e1 => gcd_lp (fun K x => rfl) ha hl (by subst e1; exact h)
  have e0 : (0 : Int64) = qJ 0 := rfl
  unfold G12_common
  rw [lg_ge, e0, qJ_lt (by omega) (by omega) (by omega) (by omega), qJ_neg, Bd_eq]
  refine ⟨fun q => ?_, fun q => ?_⟩
  · have : qJ u = qL u.natAbs := by rw [qL_J]; congr 1; omega
    rw [this]
    exact key _ (by omega) rfl
  · have : qJ (-u) = qL u.natAbs := by rw [qL_J]; congr 1; omega
    rw [this]
    exact key _ (by omega) rfl
/-- a fraction as a row tells it -/
def frc (u : Int) (l : Nat) : List Int64 := [qJ (u.tdiv (Int.gcd u l)), qJ ((l : Int).tdiv (Int.gcd u l))]
theorem frc_len (u : Int) (l : Nat) : (frc u l).length = 2 := rfl
theorem gcd_pos {u : Int} {l : Nat} (h : 0 < l) : 0 < Int.gcd u l := by
  rcases Nat.eq_zero_or_pos (Int.gcd u l) with q | q
  · rw [Int.gcd_eq_zero_iff] at q
    omega
  · exact q
theorem gcd_le {u : Int} {l : Nat} (h : 0 < l) : Int.gcd u l ≤ l := by
  have h1 : Int.gcd u l ∣ l := by
    have := Int.gcd_dvd_natAbs_right u (l : Int)
    simpa using this
  exact Nat.le_of_dvd h h1
theorem getD_app {W : List Int64} {v : Int64} {i : Nat} : (W ++ [v]).getD i 0 = if i < W.length then W.getD i 0 else if i = W.length then v else 0 := by
  rw [List.getD_eq_getElem?_getD, List.getD_eq_getElem?_getD]
  by_cases h : i < W.length
  · rw [if_pos h, List.getElem?_append_left h]
  · rw [if_neg h, List.getElem?_append_right (by omega)]
    by_cases e : i = W.length
    · subst e; simp
    · rw [if_neg e]
      have : i - W.length ≠ 0 := by omega
      rw [List.getElem?_eq_none (by simp; omega)]
      rfl
theorem Cs.row {A X : Nat → Nat → Nat} {W W' : List Int64} {μ μ' : MM} (h : Cs A X W μ) (f : Sm (fun k _ => k = 151 ∨ k = 152) μ μ') (h1 : gI μ' 151 1 = qN W'.length) (h2 : ∀ i, i < W'.length → gJ μ' 152 i = W'.getD i 0) : Cs A X W' μ' := by
  obtain ⟨a1, a2, a3, a4, a5⟩ := h
  refine ⟨fun g i d => ?_, fun p hp k hk => ?_, h1, h2, ?_⟩
  · have := dom_cc d
    have h9 : cc g i ≠ 152 := by
      intro q
      have h8 := iv_cc d
      rw [q] at h8
      have h7 : g = 370 := h8.1.symm.trans (show ivf 152 (cs g i) = 370 from rfl)
      subst h7
      have h6 : cc 370 i = 19 + i := rfl
      unfold dom at d
      omega
    rw [(f.1 _ _ (by omega)).1]; exact a1 g i d
  · rw [(f.1 (ecp p + 1) k (by have := ecp_S hp k; omega)).1]; exact a2 p hp k hk
  · rw [f.2, f.2]; exact a5
theorem Ms.row {A X : Nat → Nat → Nat} {W W' : List Int64} {μ μ' : MM} (h : Ms A X W μ) (f : Sm (fun k j => (k = 358 ∧ j = 1) ∨ k = 359) μ μ') (h1 : gI μ' 358 1 = qN W'.length) (h2 : ∀ i, i < W'.length → gJ μ' 359 i = W'.getD i 0) : Ms A X W' μ' := by
  obtain ⟨a1, a2, a3, a4⟩ := h
  refine ⟨fun g i d => ?_, fun p hp k hk => ?_, h1, h2⟩
  · have := dom_m d
    rw [(f.1 _ _ (by unfold dom at d; omega)).1]; exact a1 g i d
  · rw [(f.1 _ _ (by omega)).1]; exact a2 p hp k hk
theorem FC_row {μ μ' : MM} (f : Sm (fun k _ => k = 151 ∨ k = 152) μ μ') : FC μ μ' := fun k j hk => f.1 k j (by omega)
theorem FM_row {μ μ' : MM} (f : Sm (fun k j => (k = 358 ∧ j = 1) ∨ k = 359) μ μ') : FM μ μ' := fun k j hk => ⟨(f.1 k j (by omega)).1, (f.1 k j (by omega)).2, f.2 k j⟩
theorem c_rclear {A X : Nat → Nat → Nat} {W : List Int64} {μ : MM} {Q : MM → Prop} (h : Cs A X W μ) (k : ∀ μ', Cs A X [] μ' → Sm (fun k _ => k = 151 ∨ k = 152) μ μ' → Q μ') : G7_clear μ Q := by
  unfold G7_clear
  rw [Bd_eq]
  have f : Sm (fun k _ => k = 151 ∨ k = 152) μ (sI μ 151 1 0) := Sm.rfl'.wI _ (Or.inl rfl)
  exact k _ (h.row f rfl (fun i hi => absurd hi (by simp))) f
theorem c_radd {A X : Nat → Nat → Nat} {W : List Int64} {v : Int64} {μ : MM} {Q : MM → Prop} (h : Cs A X W μ) (hl : W.length < 10) (k : ∀ μ', Cs A X (W ++ [v]) μ' → Sm (fun k _ => k = 151 ∨ k = 152) μ μ' → Q μ') : G7_add v μ Q := by
  have e := h.2.2.1
  simp (disch := omega) only [bo_q0, bo_q1, qN_le, qN_lt, qN_eq, qN_vp, qN_nat, qN_neg1, qN_neg, qN_nn, qN_lit, qN_add, qN_sub, qN_mul, qN_div, Bd_eq, reduceIte, Nat.add_sub_cancel, dm_l, Nat.zero_le, Nat.not_lt_zero, Nat.reduceEqDiff, Nat.reduceLT, Nat.reduceLeDiff, Nat.reduceAdd, Nat.reduceSub, Nat.reduceMul, Nat.reduceDiv, Nat.reduceMod, reduceCtorEq, true_implies, false_implies, not_true_eq_false, not_false_eq_true, true_and, and_true, implies_true, and_false, false_and, forall_const, true_or, or_true, false_or, or_false, G7_add, e, gI_I, gI_J, gI_R, gJ_I, gJ_J, gJ_R, gR_I, gR_J, gR_R, Nat.not_le.mpr hl, hl]
  have f : Sm (fun k _ => k = 151 ∨ k = 152) μ (sI (sJ μ 152 W.length v) 151 1 (qN (W.length + 1))) := (Sm.rfl'.wJ _ (Or.inr rfl)).wI _ (Or.inl rfl)
  refine k _ (h.row f (by simp [gI_I]) (fun i hi => ?_)) f
  simp only [gI_I, gI_J, gI_R, gJ_I, gJ_J, gJ_R, gR_I, gR_J, gR_R, getD_app, true_and]
  rw [List.length_append, List.length_singleton] at hi
  by_cases q : i = W.length
  · rw [if_pos q, if_neg (by omega), if_pos q]
  · rw [if_neg q, if_pos (by omega)]
    exact h.2.2.2.1 i (by omega)
theorem m_rclear {A X : Nat → Nat → Nat} {W : List Int64} {μ : MM} {Q : MM → Prop} (h : Ms A X W μ) (k : ∀ μ', Ms A X [] μ' → Sm (fun k j => (k = 358 ∧ j = 1) ∨ k = 359) μ μ' → Q μ') : Bd (sI μ 358 1 0) Q := by
  rw [Bd_eq]
  have f : Sm (fun k j => (k = 358 ∧ j = 1) ∨ k = 359) μ (sI μ 358 1 0) := Sm.rfl'.wI _ (Or.inl ⟨rfl, rfl⟩)
  exact k _ (h.row f rfl (fun i hi => absurd hi (by simp))) f
theorem m_radd {A X : Nat → Nat → Nat} {W : List Int64} {v : Int64} {μ : MM} {Q : MM → Prop} (h : Ms A X W μ) (hl : W.length < 10) (k : ∀ μ', Ms A X (W ++ [v]) μ' → Sm (fun k j => (k = 358 ∧ j = 1) ∨ k = 359) μ μ' → Q μ') : G12_enters v μ Q := by
  have e := h.2.2.1
  have hl2 : W.length < 32 := by omega
  simp (disch := omega) only [bo_q0, bo_q1, qN_le, qN_lt, qN_eq, qN_vp, qN_nat, qN_neg1, qN_neg, qN_nn, qN_lit, qN_add, qN_sub, qN_mul, qN_div, Bd_eq, reduceIte, Nat.add_sub_cancel, dm_l, Nat.zero_le, Nat.not_lt_zero, Nat.reduceEqDiff, Nat.reduceLT, Nat.reduceLeDiff, Nat.reduceAdd, Nat.reduceSub, Nat.reduceMul, Nat.reduceDiv, Nat.reduceMod, reduceCtorEq, true_implies, false_implies, not_true_eq_false, not_false_eq_true, true_and, and_true, implies_true, and_false, false_and, forall_const, true_or, or_true, false_or, or_false, G12_enters, e, gI_I, gI_J, gI_R, gJ_I, gJ_J, gJ_R, gR_I, gR_J, gR_R, hl2]
  have f : Sm (fun k j => (k = 358 ∧ j = 1) ∨ k = 359) μ (sI (sJ μ 359 W.length v) 358 1 (qN (W.length + 1))) := (Sm.rfl'.wJ _ (Or.inr rfl)).wI _ (Or.inl ⟨rfl, rfl⟩)
  refine k _ (h.row f (by simp [gI_I]) (fun i hi => ?_)) f
  simp only [gI_I, gI_J, gI_R, gJ_I, gJ_J, gJ_R, gR_I, gR_J, gR_R, getD_app, true_and]
  rw [List.length_append, List.length_singleton] at hi
  by_cases q : i = W.length
  · rw [if_pos q, if_neg (by omega), if_pos q]
  · rw [if_neg q, if_pos (by omega)]
    exact h.2.2.2 i (by omega)
theorem app2 {α : Type} (W : List α) (a b : α) : W ++ [a, b] = (W ++ [a]) ++ [b] := by simp
theorem c_rfrac {A X : Nat → Nat → Nat} {W : List Int64} {u : Int} {l : Nat} {μ : MM} {Q : MM → Prop} (h : Cs A X W μ) (hl : W.length < 9) (hu : fit6 u) (hl0 : 0 < l) (hl2 : l < 9223372036854775808)
    (k : ∀ μ', Cs A X (W ++ frc u l) μ' → Sm (fun k _ => k = 151 ∨ k = 152) μ μ' → Q μ') : G7_addFraction (qJ u) (qJ (l : Int)) μ Q := by
  have hg := gcd_pos (u := u) hl0
  have hg2 := gcd_le (u := u) hl0
  unfold G7_addFraction
  refine c_gcd hu ⟨by omega, by omega⟩ ?_
  simp only [lg_0, qL_0 (show Int.gcd u l < 9223372036854775808 by omega)]
  have e1 : ∀ x : Int, fit6 x → qJ x / qL (Int.gcd u l) = qJ (x.tdiv (Int.gcd u l)) := fun x hx => by
    obtain ⟨x1, x2⟩ := hx
    rw [qL_J, qJ_div (by omega) (by omega) (by omega) (by omega)]
  refine ⟨fun q => absurd q (by omega), fun q => ⟨q, ?_⟩⟩
  rw [e1 u hu, e1 l ⟨by omega, by omega⟩]
  refine c_radd h (by omega) (fun μ1 h1 f1 => ⟨q, c_radd h1 (by simp; omega) (fun μ2 h2 f2 => k _ ?_ (f1.tr f2))⟩)
  unfold frc
  rw [app2]
  exact h2
theorem m_rfrac {A X : Nat → Nat → Nat} {W : List Int64} {u : Int} {l : Nat} {μ : MM} {Q : MM → Prop} (h : Ms A X W μ) (hl : W.length < 9) (hu : fit6 u) (hl0 : 0 < l) (hl2 : l < 9223372036854775808)
    (k : ∀ μ', Ms A X (W ++ frc u l) μ' → Sm (fun k j => (k = 358 ∧ j = 1) ∨ k = 359) μ μ' → Q μ') : G12_entersFraction (qJ u) (qJ (l : Int)) μ Q := by
  have hg := gcd_pos (u := u) hl0
  have hg2 := gcd_le (u := u) hl0
  unfold G12_entersFraction
  rw [← qL_J]
  refine m_gcd hu hl2 ?_
  simp only [qL_0 (show Int.gcd u l < 9223372036854775808 by omega)]
  have e1 : ∀ x : Int, fit6 x → qJ x / qL (Int.gcd u l) = qJ (x.tdiv (Int.gcd u l)) := fun x hx => by
    obtain ⟨x1, x2⟩ := hx
    rw [qL_J, qJ_div (by omega) (by omega) (by omega) (by omega)]
  refine ⟨by omega, ?_⟩
  rw [e1 u hu, qL_J l, e1 l ⟨by omega, by omega⟩]
  refine m_radd h (by omega) (fun μ1 h1 f1 => ⟨by omega, m_radd h1 (by simp; omega) (fun μ2 h2 f2 => k _ ?_ (f1.tr f2))⟩)
  unfold frc
  rw [app2]
  exact h2
