/-! ask -/
theorem bc_ex : ∃ F : Int32 → Int32, ∀ (v : Int32) (μ : MM) (Q : Int32 → MM → Prop), GJ6_bitCount_0f7a4 v μ Q ↔ Q (F v) μ :=
  ⟨_, fun v μ Q => by
    unfold GJ6_bitCount_0f7a4
    simp only [Bd_eq]
    exact Iff.rfl⟩
noncomputable def bcn : Int32 → Int32 := Classical.choose bc_ex
theorem bcn_q (v : Int32) (μ : MM) (Q : Int32 → MM → Prop) : GJ6_bitCount_0f7a4 v μ Q ↔ Q (bcn v) μ := Classical.choose_spec bc_ex v μ Q
def cbf (b : Fin 6 → Bool) : Nat → Int32
  | 0 => qN 0
  | k + 1 => if h : k < 6 then (if b ⟨k, h⟩ = true then cbf b k ||| (qN 1 <<< (qN k &&& qN 31)) else cbf b k) else cbf b k
def b6 (b0 b1 b2 b3 b4 b5 : Bool) (i : Fin 6) : Bool := match i.val with
  | 0 => b0
  | 1 => b1
  | 2 => b2
  | 3 => b3
  | 4 => b4
  | _ => b5
theorem cbf_bit : ∀ (b0 b1 b2 b3 b4 b5 : Bool) (p : Fin 6), (((cbf (b6 b0 b1 b2 b3 b4 b5) 6 >>> (qN p.val &&& qN 31)) &&& qN 1) = qN 1) ↔ b6 b0 b1 b2 b3 b4 b5 p = true := by decide +kernel
/-- which laws could be -/
def cbP (A X : Nat → Nat → Nat) (p : Nat) : Bool := decide (0 < A 378 p) && decide (agc A X p (A 358 61) ≤ 0)
theorem cbz_bit (A X : Nat → Nat → Nat) {p : Nat} (hp : p < 6) : (((cbz A X 0 6 >>> (qN p &&& qN 31)) &&& qN 1) = qN 1) ↔ cbP A X p = true := by
  have e : cbz A X 0 6 = cbf (b6 (cbP A X 0) (cbP A X 1) (cbP A X 2) (cbP A X 3) (cbP A X 4) (cbP A X 5)) 6 := by
    have s : ∀ k (hk : k < 6), cbz A X 0 (k + 1) = if cbP A X k = true then cbz A X 0 k ||| (qN 1 <<< (qN k &&& qN 31)) else cbz A X 0 k := fun k hk => by
      show (if 0 < A 378 k ∧ agc A X k (A 358 61) ≤ 0 then _ else _) = _
      unfold cbP
      by_cases q : 0 < A 378 k ∧ agc A X k (A 358 61) ≤ 0
      · rw [if_pos q, if_pos (by rw [decide_eq_true q.1, decide_eq_true q.2]; rfl)]
      · rw [if_neg q, if_neg (fun r => q (by simp at r; exact ⟨r.1, by omega⟩))]
    rw [s 5 (by decide), s 4 (by decide), s 3 (by decide), s 2 (by decide), s 1 (by decide), s 0 (by decide)]
    rfl
  rw [e]
  refine (cbf_bit _ _ _ _ _ _ ⟨p, hp⟩).trans ?_
  rcases (show p = 0 ∨ p = 1 ∨ p = 2 ∨ p = 3 ∨ p = 4 ∨ p = 5 by omega) with rfl | rfl | rfl | rfl | rfl | rfl <;> exact Iff.rfl
theorem cbP_t {A X : Nat → Nat → Nat} {p : Nat} (h : cbP A X p = true) : 0 < A 378 p := by
  unfold cbP at h
  simp at h
  exact h.1
def lkA (A X : Nat → Nat → Nat) (a b n : Nat) : Nat := cnt (fun p => cbP A X p && decide (lwa A X p a = lwa A X p b)) n
def lkF (A X : Nat → Nat → Nat) (a b n : Nat) : Nat := cnt (fun p => cbP A X p && decide (lwa A X p b < lwa A X p a)) n
def lkS (A X : Nat → Nat → Nat) (a b n : Nat) : Nat := cnt (fun p => cbP A X p && decide (lwa A X p a < lwa A X p b)) n
def nmx (a b : Nat) : Nat := if a < b then b else a
def lft (A X : Nat → Nat → Nat) (a b : Nat) : Nat := lkA A X a b 6 + nmx (lkF A X a b 6) (lkS A X a b 6)
theorem i32_tri (x y : Int32) : (x = y ∧ ¬ x < y ∧ ¬ y < x) ∨ (¬ x = y ∧ x < y ∧ ¬ y < x) ∨ (¬ x = y ∧ ¬ x < y ∧ y < x) := by
  rw [← Int32.toInt_inj, Int32.lt_iff_toInt_lt, Int32.lt_iff_toInt_lt]
  omega
theorem lk_sum (A X : Nat → Nat → Nat) (a b : Nat) : ∀ n, lkA A X a b n + lkF A X a b n + lkS A X a b n ≤ n
  | 0 => Nat.le_refl _
  | n + 1 => by
    have ih := lk_sum A X a b n
    show (lkA A X a b n + (cbP A X n && decide (lwa A X n a = lwa A X n b)).toNat) + (lkF A X a b n + (cbP A X n && decide (lwa A X n b < lwa A X n a)).toNat) + (lkS A X a b n + (cbP A X n && decide (lwa A X n a < lwa A X n b)).toNat) ≤ n + 1
    cases cbP A X n
    · simp; omega
    · rcases i32_tri (lwa A X n a) (lwa A X n b) with ⟨h1, h2, h3⟩ | ⟨h1, h2, h3⟩ | ⟨h1, h2, h3⟩ <;> simp only [h1, h2, h3, Int32.lt_irrefl, decide_true, decide_false, Bool.true_and, Bool.toNat_true, Bool.toNat_false] <;> omega
theorem lft_b (A X : Nat → Nat → Nat) (a b : Nat) : lft A X a b ≤ 6 := by
  have := lk_sum A X a b 6
  unfold lft nmx
  split <;> omega
theorem c_mostLeft {A X : Nat → Nat → Nat} {μ : MM} {Q : Int32 → MM → Prop} {a b n : Nat} (ha : a < 96) (hb : b < 96) (an : a < n) (bn : b < n) (hg : wgV A X μ n) (hQ : Q (qN (lft A X a b)) μ) : G6_mostLeft (cbz A X 0 6) (qN a) (qN b) μ Q := by
  refine Lp.upE 6 (fun p => (qN (lkA A X a b p), qN (lkF A X a b p), qN (lkS A X a b p), qN p, μ)) ?_
  intro p K hp hK
  have ls := lk_sum A X a b p
  rcases Nat.lt_or_ge p 6 with hl | hl
  · have hk := hK hl
    have eA : lkA A X a b (p + 1) = lkA A X a b p + (cbP A X p && decide (lwa A X p a = lwa A X p b)).toNat := rfl
    have eF : lkF A X a b (p + 1) = lkF A X a b p + (cbP A X p && decide (lwa A X p b < lwa A X p a)).toNat := rfl
    have eS : lkS A X a b (p + 1) = lkS A X a b p + (cbP A X p && decide (lwa A X p a < lwa A X p b)).toNat := rfl
    rw [eA, eF, eS] at hk
    have h6 : ¬ ((6 : Int32) ≤ qN p) := by rw [qN_lit 6, qN_le (by omega) (by omega)]; omega
    refine ⟨fun q => absurd q h6, fun _ => ⟨fun q => ?_, fun q => ?_⟩⟩
    · have nb : cbP A X p = false := by
        rw [← Bool.not_eq_true]
        intro r
        exact q ((cbz_bit A X hl).mpr r)
      rw [nb] at hk
      show K (qN (lkA A X a b p), qN (lkF A X a b p), qN (lkS A X a b p), qN p + 1, μ)
      rw [qN_lit 1, qN_add]
      exact hk
    · have yb : cbP A X p = true := (cbz_bit A X hl).mp q
      have h0 := cbP_t yb
      rw [yb] at hk
      show vp_in (qN p) 6 ∧ vp_in (qN a) 96 ∧ vp_in (qN p) 6 ∧ vp_in (qN b) 96 ∧ GJ6_compare_7cf53 (gI μ (242 + (qN p).toNatClampNeg) (qN a).toNatClampNeg) (gI μ (242 + (qN p).toNatClampNeg) (qN b).toNatClampNeg) μ _
      rw [qN_vp (by omega), qN_vp (by omega), qN_vp (by omega), qN_nat (by omega), qN_nat (by omega), qN_nat (by omega), hg p a hl an h0, hg p b hl bn h0]
      refine ⟨hl, ha, hl, hb, ?_⟩
      unfold GJ6_compare_7cf53
      rcases i32_tri (lwa A X p a) (lwa A X p b) with ⟨h1, h2, h3⟩ | ⟨h1, h2, h3⟩ | ⟨h1, h2, h3⟩
      · simp only [h1, h2, h3, Int32.lt_irrefl, decide_true, decide_false, Bool.true_and, Bool.toNat_true, Bool.toNat_false] at hk
        have c0 : (lwa A X p b ≤ lwa A X p a) := Int32.not_lt.mp h2
        refine ⟨fun _ => ⟨fun r => absurd h1 r, fun _ => ⟨fun r => absurd rfl r, fun _ => ?_⟩⟩, fun r => absurd c0 r⟩
        simp (disch := omega) only [bo_q0, bo_q1, qN_le, qN_lt, qN_eq, qN_vp, qN_nat, qN_neg1, qN_neg, qN_nn, qN_lit, qN_add, qN_sub, qN_mul, qN_div, Bd_eq, reduceIte, Nat.add_sub_cancel, dm_l, Nat.zero_le, Nat.not_lt_zero, Nat.reduceEqDiff, Nat.reduceLT, Nat.reduceLeDiff, Nat.reduceAdd, Nat.reduceSub, Nat.reduceMul, Nat.reduceDiv, Nat.reduceMod, reduceCtorEq, true_implies, false_implies, not_true_eq_false, not_false_eq_true, true_and, and_true, implies_true, and_false, false_and, forall_const, true_or, or_true, false_or, or_false, G6_mostLeft_J64, G6_mostLeft_J79, G6_mostLeft_J94]
        exact hk
      · simp only [h1, h2, h3, Int32.lt_irrefl, decide_true, decide_false, Bool.true_and, Bool.toNat_true, Bool.toNat_false] at hk
        have c0 : ¬ (lwa A X p b ≤ lwa A X p a) := Int32.not_le.mpr h2
        refine ⟨fun r => absurd r c0, fun _ => ⟨fun _ => ?_, fun r => absurd r (by decide)⟩⟩
        have n1 : ((-1 : Int32) ≤ 0) = True := by decide
        have n2 : ((0 : Int32) ≤ -1) = False := by decide
        unfold G6_mostLeft_J64 G6_mostLeft_J79 G6_mostLeft_J94
        rw [n1, n2]
        simp (disch := omega) only [bo_q0, bo_q1, qN_le, qN_lt, qN_eq, qN_vp, qN_nat, qN_neg1, qN_neg, qN_nn, qN_lit, qN_add, qN_sub, qN_mul, qN_div, Bd_eq, reduceIte, Nat.add_sub_cancel, dm_l, Nat.zero_le, Nat.not_lt_zero, Nat.reduceEqDiff, Nat.reduceLT, Nat.reduceLeDiff, Nat.reduceAdd, Nat.reduceSub, Nat.reduceMul, Nat.reduceDiv, Nat.reduceMod, reduceCtorEq, true_implies, false_implies, not_true_eq_false, not_false_eq_true, true_and, and_true, implies_true, and_false, false_and, forall_const, true_or, or_true, false_or, or_false, ]
        exact hk
      · simp only [h1, h2, h3, Int32.lt_irrefl, decide_true, decide_false, Bool.true_and, Bool.toNat_true, Bool.toNat_false] at hk
        have c0 : (lwa A X p b ≤ lwa A X p a) := Int32.not_lt.mp h2
        refine ⟨fun _ => ⟨fun _ => ⟨fun _ => ?_, fun r => absurd r (by decide)⟩, fun r => absurd r h1⟩, fun r => absurd c0 r⟩
        simp (disch := omega) only [bo_q0, bo_q1, qN_le, qN_lt, qN_eq, qN_vp, qN_nat, qN_neg1, qN_neg, qN_nn, qN_lit, qN_add, qN_sub, qN_mul, qN_div, Bd_eq, reduceIte, Nat.add_sub_cancel, dm_l, Nat.zero_le, Nat.not_lt_zero, Nat.reduceEqDiff, Nat.reduceLT, Nat.reduceLeDiff, Nat.reduceAdd, Nat.reduceSub, Nat.reduceMul, Nat.reduceDiv, Nat.reduceMod, reduceCtorEq, true_implies, false_implies, not_true_eq_false, not_false_eq_true, true_and, and_true, implies_true, and_false, false_and, forall_const, true_or, or_true, false_or, or_false, G6_mostLeft_J64, G6_mostLeft_J79, G6_mostLeft_J94]
        exact hk
  · have e : p = 6 := by omega
    subst e
    unfold lft nmx at hQ
    refine ⟨fun _ => ?_, fun r => absurd (show (6 : Int32) ≤ qN 6 by decide) r⟩
    show Q (qN (lkA A X a b 6) + (if qN (lkF A X a b 6) < qN (lkS A X a b 6) then qN (lkS A X a b 6) else qN (lkF A X a b 6))) μ
    simp only [qN_lt (show lkF A X a b 6 < 2147483648 by omega) (show lkS A X a b 6 < 2147483648 by omega)]
    by_cases q : lkF A X a b 6 < lkS A X a b 6
    · rw [if_pos q] at hQ ⊢
      rw [qN_add]; exact hQ
    · rw [if_neg q] at hQ ⊢
      rw [qN_add]; exact hQ
/-- the next pair, letter by letter -/
def nxb (A X : Nat → Nat → Nat) (a : Nat) (s : Nat × Nat × Nat) : Nat → Nat × Nat × Nat
  | 0 => s
  | k + 1 => if lft A X a (a + 1 + k) < (nxb A X a s k).1 then (lft A X a (a + 1 + k), a, a + 1 + k) else nxb A X a s k
def nxa (A X : Nat → Nat → Nat) (n : Nat) : Nat → Nat × Nat × Nat
  | 0 => (7, 0, 0)
  | a + 1 => nxb A X a (nxa A X n a) (n - (a + 1))
theorem nxb_i (A X : Nat → Nat → Nat) {a n : Nat} {s : Nat × Nat × Nat} (hs : s.1 ≤ 7 ∧ s.2.1 ≤ n ∧ s.2.2 ≤ n) (ha : a ≤ n) : ∀ k, a + 1 + k ≤ n + 1 → (nxb A X a s k).1 ≤ 7 ∧ (nxb A X a s k).2.1 ≤ n ∧ (nxb A X a s k).2.2 ≤ n
  | 0, _ => hs
  | k + 1, hk => by
    have ih := nxb_i A X hs ha k (by omega)
    have l6 := lft_b A X a (a + 1 + k)
    show (if lft A X a (a + 1 + k) < (nxb A X a s k).1 then (lft A X a (a + 1 + k), a, a + 1 + k) else nxb A X a s k).1 ≤ 7 ∧ (if lft A X a (a + 1 + k) < (nxb A X a s k).1 then (lft A X a (a + 1 + k), a, a + 1 + k) else nxb A X a s k).2.1 ≤ n ∧ (if lft A X a (a + 1 + k) < (nxb A X a s k).1 then (lft A X a (a + 1 + k), a, a + 1 + k) else nxb A X a s k).2.2 ≤ n
    split
    · exact ⟨by show lft A X a (a + 1 + k) ≤ 7; omega, ha, by show a + 1 + k ≤ n; omega⟩
    · exact ih
theorem nxa_i (A X : Nat → Nat → Nat) (n : Nat) : ∀ a, a ≤ n → (nxa A X n a).1 ≤ 7 ∧ (nxa A X n a).2.1 ≤ n ∧ (nxa A X n a).2.2 ≤ n
  | 0, _ => ⟨Nat.le_refl _, Nat.zero_le _, Nat.zero_le _⟩
  | a + 1, h => nxb_i A X (nxa_i A X n a (by omega)) (by omega) (n - (a + 1)) (by omega)
/-- with two letters some pair is found -/
theorem nxb_lt (A X : Nat → Nat → Nat) (a : Nat) (s : Nat × Nat × Nat) : ∀ k, (0 < k ∨ s.1 < 7) → s.1 ≤ 7 → (nxb A X a s k).1 < 7
  | 0, h, _ => by rcases h with h | h; omega; exact h
  | k + 1, _, h7 => by
    have l6 := lft_b A X a (a + 1 + k)
    show (if lft A X a (a + 1 + k) < (nxb A X a s k).1 then (lft A X a (a + 1 + k), a, a + 1 + k) else nxb A X a s k).1 < 7
    by_cases q : lft A X a (a + 1 + k) < (nxb A X a s k).1
    · rw [if_pos q]; show lft A X a (a + 1 + k) < 7; omega
    · rw [if_neg q]; omega
theorem nxa_lt (A X : Nat → Nat → Nat) {n : Nat} (hn : 2 ≤ n) : ∀ a, 0 < a → a ≤ n → (nxa A X n a).1 < 7
  | 0, h, _ => absurd h (by omega)
  | a + 1, _, h => by
    have i := nxa_i A X n a (by omega)
    refine nxb_lt A X a _ _ ?_ i.1
    rcases Nat.eq_zero_or_pos a with z | z
    · exact Or.inl (by omega)
    · exact Or.inr (nxa_lt A X hn a z (by omega))
def nxW (A X : Nat → Nat → Nat) : List Int64 := [qJ ((nxa A X (A 358 12) (A 358 12)).2.1 : Int)] ++ [qJ ((nxa A X (A 358 12) (A 358 12)).2.2 : Int)]

theorem c_ask {A X : Nat → Nat → Nat} {W : List Int64} {μ : MM} {Q : Int32 → MM → Prop} (hV : Inv A X) (h : Cs A X W μ)
    (hy : ¬ bcn (cbz A X 0 6) < 2 → 2 ≤ A 358 12 → ∀ μ', Cs A X (nxW A X) μ' → FC μ μ' → Q (qN (nxa A X (A 358 12) (A 358 12)).1) μ')
    (hz : ¬ (¬ bcn (cbz A X 0 6) < 2 ∧ 2 ≤ A 358 12) → ∀ μ', Cs A X W μ' → FC μ μ' → Q (-2) μ') : G11_ask μ Q := by
  have hl : A 358 12 < 97 := hV.b 358 12 (by unfold dom; decide)
  unfold G11_ask G6_tellNext
  refine c_weigh hV h (fun μ1 h1 f1 hg hgk => ?_)
  refine c_within hV h1 (by decide) hgk ?_
  rw [bcn_q, Ca_s12 h1.1]
  refine ⟨fun q => hz (fun r => r.1 q) _ h1 f1, fun q => ?_⟩
  rw [show (2 : Int32) = qN 2 from rfl, qN_le (by decide) (by omega)]
  refine ⟨fun q2 => ?_, fun q2 => hz (fun r => q2 r.2) _ h1 f1⟩
  have w1 := hy q q2
  unfold nxW at w1
  generalize hn : A 358 12 = n at *
  refine Lp.upE n (fun a => (qN (nxa A X n a).1, qN (nxa A X n a).2.1, qN (nxa A X n a).2.2, qN a, μ1)) ?_
  intro a K ha hK
  obtain ⟨i1, i2, i3⟩ := nxa_i A X n a ha
  rcases Nat.lt_or_ge a n with hl1 | hl1
  · have hk := hK hl1
    clear hK
    have eN : nxa A X n (a + 1) = nxb A X a (nxa A X n a) (n - (a + 1)) := rfl
    rw [eN] at hk
    simp (disch := omega) only [bo_q0, bo_q1, qN_le, qN_lt, qN_eq, qN_vp, qN_nat, qN_neg1, qN_neg, qN_nn, qN_lit, qN_add, qN_sub, qN_mul, qN_div, Bd_eq, reduceIte, Nat.add_sub_cancel, dm_l, Nat.zero_le, Nat.not_lt_zero, Nat.reduceEqDiff, Nat.reduceLT, Nat.reduceLeDiff, Nat.reduceAdd, Nat.reduceSub, Nat.reduceMul, Nat.reduceDiv, Nat.reduceMod, reduceCtorEq, true_implies, false_implies, not_true_eq_false, not_false_eq_true, true_and, and_true, implies_true, and_false, false_and, forall_const, true_or, or_true, false_or, or_false, G6_tellNext_L43, Ca_s12 h1.1, hn, Nat.not_le.mpr hl1]
    refine Lp.upE (n - (a + 1)) (fun k => (qN (nxb A X a (nxa A X n a) k).1, qN (nxb A X a (nxa A X n a) k).2.1, qN (nxb A X a (nxa A X n a) k).2.2, qN (a + 1 + k), μ1)) ?_
    intro k K2 hk2 hK2
    obtain ⟨j1, j2, j3⟩ := nxb_i A X (nxa_i A X n a ha) ha k (by omega)
    rcases Nat.lt_or_ge k (n - (a + 1)) with hl2 | hl2
    · have hk3 := hK2 hl2
      have l6 := lft_b A X a (a + 1 + k)
      have eB : nxb A X a (nxa A X n a) (k + 1) = if lft A X a (a + 1 + k) < (nxb A X a (nxa A X n a) k).1 then (lft A X a (a + 1 + k), a, a + 1 + k) else nxb A X a (nxa A X n a) k := rfl
      rw [eB] at hk3
      have c1 : ¬ n ≤ a + 1 + k := by omega
      simp (disch := omega) only [bo_q0, bo_q1, qN_le, qN_lt, qN_eq, qN_vp, qN_nat, qN_neg1, qN_neg, qN_nn, qN_lit, qN_add, qN_sub, qN_mul, qN_div, Bd_eq, reduceIte, Nat.add_sub_cancel, dm_l, Nat.zero_le, Nat.not_lt_zero, Nat.reduceEqDiff, Nat.reduceLT, Nat.reduceLeDiff, Nat.reduceAdd, Nat.reduceSub, Nat.reduceMul, Nat.reduceDiv, Nat.reduceMod, reduceCtorEq, true_implies, false_implies, not_true_eq_false, not_false_eq_true, true_and, and_true, implies_true, and_false, false_and, forall_const, true_or, or_true, false_or, or_false, G6_tellNext_L61, Ca_s12 h1.1, hn, c1]
      refine c_mostLeft (by omega) (by omega) hl1 (by omega) hg ?_
      simp (disch := omega) only [bo_q0, bo_q1, qN_le, qN_lt, qN_eq, qN_vp, qN_nat, qN_neg1, qN_neg, qN_nn, qN_lit, qN_add, qN_sub, qN_mul, qN_div, Bd_eq, reduceIte, Nat.add_sub_cancel, dm_l, Nat.zero_le, Nat.not_lt_zero, Nat.reduceEqDiff, Nat.reduceLT, Nat.reduceLeDiff, Nat.reduceAdd, Nat.reduceSub, Nat.reduceMul, Nat.reduceDiv, Nat.reduceMod, reduceCtorEq, true_implies, false_implies, not_true_eq_false, not_false_eq_true, true_and, and_true, implies_true, and_false, false_and, forall_const, true_or, or_true, false_or, or_false, ]
      refine ⟨fun r => ?_, fun r => ?_⟩
      · rw [if_neg (by omega)] at hk3; exact hk3
      · rw [if_pos (by omega)] at hk3; exact hk3
    · have c1 : n ≤ a + 1 + k := by omega
      have e : k = n - (a + 1) := by omega
      subst e
      simp (disch := omega) only [bo_q0, bo_q1, qN_le, qN_lt, qN_eq, qN_vp, qN_nat, qN_neg1, qN_neg, qN_nn, qN_lit, qN_add, qN_sub, qN_mul, qN_div, Bd_eq, reduceIte, Nat.add_sub_cancel, dm_l, Nat.zero_le, Nat.not_lt_zero, Nat.reduceEqDiff, Nat.reduceLT, Nat.reduceLeDiff, Nat.reduceAdd, Nat.reduceSub, Nat.reduceMul, Nat.reduceDiv, Nat.reduceMod, reduceCtorEq, true_implies, false_implies, not_true_eq_false, not_false_eq_true, true_and, and_true, implies_true, and_false, false_and, forall_const, true_or, or_true, false_or, or_false, G6_tellNext_L61, Ca_s12 h1.1, hn, c1]
      exact hk
  · have e : a = n := by omega
    subst e
    simp (disch := omega) only [bo_q0, bo_q1, qN_le, qN_lt, qN_eq, qN_vp, qN_nat, qN_neg1, qN_neg, qN_nn, qN_lit, qN_add, qN_sub, qN_mul, qN_div, Bd_eq, reduceIte, Nat.add_sub_cancel, dm_l, Nat.zero_le, Nat.not_lt_zero, Nat.reduceEqDiff, Nat.reduceLT, Nat.reduceLeDiff, Nat.reduceAdd, Nat.reduceSub, Nat.reduceMul, Nat.reduceDiv, Nat.reduceMod, reduceCtorEq, true_implies, false_implies, not_true_eq_false, not_false_eq_true, true_and, and_true, implies_true, and_false, false_and, forall_const, true_or, or_true, false_or, or_false, G6_tellNext_L43, Ca_s12 h1.1, hn, Nat.le_refl, qN_J]
    refine c_rclear h1 (fun μ2 h2 f2 => c_radd h2 (by decide) (fun μ3 h3 f3 => c_radd h3 (show (1 : Nat) < 10 by decide) (fun μ4 h4 f4 => ?_)))
    exact w1 _ h4 (((f1.tr (FC_row f2)).tr (FC_row f3)).tr (FC_row f4))
/-- what the model's answers leave -/
def lfT (A X : Nat → Nat → Nat) (a b t n : Nat) : Nat := cnt (fun p => cbP A X p && !agn A X p a b t) n
theorem lfT_s (A X : Nat → Nat → Nat) (a b : Nat) : ∀ n, lfT A X a b 0 n = lkA A X a b n ∧ lfT A X a b 1 n = lkA A X a b n + lkF A X a b n ∧ lfT A X a b 2 n = lkA A X a b n + lkS A X a b n
  | 0 => ⟨rfl, rfl, rfl⟩
  | n + 1 => by
    obtain ⟨h0, h1, h2⟩ := lfT_s A X a b n
    have e : ∀ t, lfT A X a b t (n + 1) = lfT A X a b t n + (cbP A X n && !agn A X n a b t).toNat := fun t => rfl
    have eA : lkA A X a b (n + 1) = lkA A X a b n + (cbP A X n && decide (lwa A X n a = lwa A X n b)).toNat := rfl
    have eF : lkF A X a b (n + 1) = lkF A X a b n + (cbP A X n && decide (lwa A X n b < lwa A X n a)).toNat := rfl
    have eS : lkS A X a b (n + 1) = lkS A X a b n + (cbP A X n && decide (lwa A X n a < lwa A X n b)).toNat := rfl
    rw [e, e, e, h0, h1, h2, eA, eF, eS]
    unfold agn
    cases cbP A X n
    · simp
    · rcases i32_tri (lwa A X n a) (lwa A X n b) with ⟨h1, h2, h3⟩ | ⟨h1, h2, h3⟩ | ⟨h1, h2, h3⟩ <;> simp [h1, h2, h3] <;> omega
def wst (A X : Nat → Nat → Nat) (a b : Nat) : Nat → Nat
  | 0 => 0
  | t + 1 => if wst A X a b t < lfT A X a b t 6 then lfT A X a b t 6 else wst A X a b t
theorem wst_3 (A X : Nat → Nat → Nat) (a b : Nat) : wst A X a b 3 = lft A X a b := by
  obtain ⟨h0, h1, h2⟩ := lfT_s A X a b 6
  simp only [wst, h0, h1, h2]
  unfold lft nmx
  split <;> split <;> split <;> (try split) <;> omega
theorem wst_b (A X : Nat → Nat → Nat) (a b : Nat) : ∀ t, wst A X a b t ≤ 6
  | 0 => Nat.zero_le _
  | t + 1 => by
    have ih := wst_b A X a b t
    have : lfT A X a b t 6 ≤ 6 := cnt_le _ _
    show (if wst A X a b t < lfT A X a b t 6 then lfT A X a b t 6 else wst A X a b t) ≤ 6
    split <;> omega

theorem m_ask {A X : Nat → Nat → Nat} {W : List Int64} {μ : MM} {Q : Int32 → MM → Prop} (hV : Inv A X) (h : Ms A X W μ)
    (hy : ¬ bcn (cbz A X 0 6) < 2 → 2 ≤ A 358 12 → ∀ μ', Ms A X (nxW A X) μ' → FM μ μ' → Q (qN (nxa A X (A 358 12) (A 358 12)).1) μ')
    (hz : ¬ (¬ bcn (cbz A X 0 6) < 2 ∧ 2 ≤ A 358 12) → ∀ μ', Ms A X W μ' → FM μ μ' → Q (-2) μ') : G12_ask μ Q := by
  have hl : A 358 12 < 97 := hV.b 358 12 (by unfold dom; decide)
  unfold G12_ask
  rw [Bd_eq]
  have h0 := m_thr h 0
  have f0 := fm_thr μ 0
  revert h0 f0
  generalize sI μ 358 0 0 = μ0
  intro h0 f0
  refine m_couldBe hV h0 (by decide) (fun μ1 h1 f1 => ?_)
  have fm := f0.tr (FM_mS (f1.mo (fun _ _ q => kS_m q)))
  rw [bcn_q, Ma_s12 h1.1]
  refine ⟨fun q => hz (fun r => r.1 q) _ h1 fm, fun q => ?_⟩
  rw [show (2 : Int32) = qN 2 from rfl, qN_le (by decide) (by omega)]
  refine ⟨fun q2 => ?_, fun q2 => hz (fun r => q2 r.2) _ h1 fm⟩
  have w1 := hy q q2
  unfold nxW at w1
  generalize hn : A 358 12 = n at *
  have bs : ∀ s : Nat, s ≤ 7 → ((if s = 7 then (-1 : Int32) else qN s) < 0 ↔ s = 7) := fun s hs => by
    by_cases r : s = 7
    · rw [if_pos r]; exact ⟨fun _ => r, fun _ => by decide⟩
    · rw [if_neg r, qN_neg (by omega)]; exact ⟨fun q => absurd q id, fun q => r q⟩
  refine Lp.up n (fun a x => x.1 = (if (nxa A X n a).1 = 7 then -1 else qN (nxa A X n a).1) ∧ x.2.1 = qN (nxa A X n a).2.1 ∧ x.2.2.1 = qN (nxa A X n a).2.2 ∧ x.2.2.2.1 = qN a ∧ Ms A X W x.2.2.2.2 ∧ FM μ x.2.2.2.2) ?_ ⟨rfl, rfl, rfl, rfl, h1, fm⟩
  rintro a K ha hK ⟨y1, y2, y3, y4, ν⟩ ⟨rfl, rfl, rfl, rfl, hC, hf⟩
  simp only at hC hf
  obtain ⟨i1, i2, i3⟩ := nxa_i A X n a ha
  rcases Nat.lt_or_ge a n with hl1 | hl1
  · have hk := hK hl1
    clear hK
    have eN : nxa A X n (a + 1) = nxb A X a (nxa A X n a) (n - (a + 1)) := rfl
    rw [eN] at hk
    have c0 : ¬ (qN n ≤ qN a) := by rw [qN_le (by omega) (by omega)]; omega
    unfold G12_ask_L40
    rw [Ma_s12 hC.1, hn]
    refine ⟨fun r => absurd r c0, fun _ => ?_⟩
    rw [Bd_eq]
    show Lp (G12_ask_L55 (cbz A X 0 6) (qN a) K Q) ((if (nxa A X n a).1 = 7 then -1 else qN (nxa A X n a).1), qN (nxa A X n a).2.1, qN (nxa A X n a).2.2, qN a + 1, ν)
    rw [qN_lit 1, qN_add]
    refine Lp.up (n - (a + 1)) (fun k x => x.1 = (if (nxb A X a (nxa A X n a) k).1 = 7 then -1 else qN (nxb A X a (nxa A X n a) k).1) ∧ x.2.1 = qN (nxb A X a (nxa A X n a) k).2.1 ∧ x.2.2.1 = qN (nxb A X a (nxa A X n a) k).2.2 ∧ x.2.2.2.1 = qN (a + 1 + k) ∧ Ms A X W x.2.2.2.2 ∧ FM μ x.2.2.2.2) ?_ ⟨rfl, rfl, rfl, rfl, hC, hf⟩
    rintro k K2 hk2 hK2 ⟨y1, y2, y3, y4, ω⟩ ⟨rfl, rfl, rfl, rfl, hO, hg⟩
    simp only at hO hg
    obtain ⟨j1, j2, j3⟩ := nxb_i A X (nxa_i A X n a ha) ha k (by omega)
    rcases Nat.lt_or_ge k (n - (a + 1)) with hl2 | hl2
    · have hk3 := hK2 hl2
      clear hK2
      have l6 := lft_b A X a (a + 1 + k)
      have eB : nxb A X a (nxa A X n a) (k + 1) = if lft A X a (a + 1 + k) < (nxb A X a (nxa A X n a) k).1 then (lft A X a (a + 1 + k), a, a + 1 + k) else nxb A X a (nxa A X n a) k := rfl
      rw [eB] at hk3
      have c1 : ¬ (qN n ≤ qN (a + 1 + k)) := by rw [qN_le (by omega) (by omega)]; omega
      unfold G12_ask_L55
      rw [Ma_s12 hO.1, hn]
      refine ⟨fun r => absurd r c1, fun _ => ?_⟩
      refine Lp.up 3 (fun t x => x.1 = qN (wst A X a (a + 1 + k) t) ∧ x.2.1 = qN t ∧ Ms A X W x.2.2 ∧ FM μ x.2.2) ?_ ⟨rfl, rfl, hO, hg⟩
      rintro t K3 ht hK3 ⟨y1, y2, ψ⟩ ⟨rfl, rfl, hP, hq⟩
      simp only at hP hq
      have wb := wst_b A X a (a + 1 + k) t
      rcases Nat.lt_or_ge t 3 with hl3 | hl3
      · have hk4 := hK3 hl3
        clear hK3
        have eW : wst A X a (a + 1 + k) (t + 1) = if wst A X a (a + 1 + k) t < lfT A X a (a + 1 + k) t 6 then lfT A X a (a + 1 + k) t 6 else wst A X a (a + 1 + k) t := rfl
        rw [eW] at hk4
        have c3 : ¬ ((3 : Int32) ≤ qN t) := by rw [qN_lit 3, qN_le (by omega) (by omega)]; omega
        refine ⟨fun r => absurd r c3, fun _ => ?_⟩
        refine Lp.up 6 (fun p x => x.1 = qN (lfT A X a (a + 1 + k) t p) ∧ x.2.1 = qN p ∧ Ms A X W x.2.2 ∧ FM μ x.2.2) ?_ ⟨rfl, rfl, hP, hq⟩
        rintro p K4 hp hK4 ⟨y1, y2, χ⟩ ⟨rfl, rfl, hR, hs⟩
        simp only at hR hs
        have tb : lfT A X a (a + 1 + k) t p ≤ p := cnt_le _ _
        rcases Nat.lt_or_ge p 6 with hl4 | hl4
        · have hk5 := hK4 hl4
          have eT : lfT A X a (a + 1 + k) t (p + 1) = lfT A X a (a + 1 + k) t p + (cbP A X p && !agn A X p a (a + 1 + k) t).toNat := rfl
          rw [eT] at hk5
          have z1 : (1 : Nat) < 2 := by decide
          have z0 : (0 : Nat) < 2 := by decide
          have c6 : ¬ ((6 : Int32) ≤ qN p) := by rw [qN_lit 6, qN_le (by omega) (by omega)]; omega
          have f0q := fun (μ : MM) (Q : Int32 → MM → Prop) => flag_q (μ := μ) (Q := Q) z0
          have f1q := fun (μ : MM) (Q : Int32 → MM → Prop) => flag_q (μ := μ) (Q := Q) z1
          have fin : ∀ (v : Nat) (χ2 : MM), v < 2 → Ms A X W χ2 → FM μ χ2 → v = (cbP A X p && !agn A X p a (a + 1 + k) t).toNat → G12_flag (qN v) χ2 (fun r40 μ39 => Bd (qN (lfT A X a (a + 1 + k) t p) + r40) fun y41 => K4 (y41, (qN p + 1), μ39)) := by
            intro v χ2 hv h2 f2 e
            subst e
            rw [flag_q hv, Bd_eq, qN_add, qN_lit 1, qN_add]
            exact hk5 _ ⟨rfl, rfl, h2, f2⟩
          refine ⟨fun r => absurd r c6, fun _ => ?_⟩
          unfold G12_has
          refine ⟨fun r => ⟨fun _ => ?_, fun s => absurd rfl s⟩, fun r => ⟨fun s => absurd s (by decide), fun _ => ?_⟩⟩
          · have nb : cbP A X p = false := by
              rw [← Bool.not_eq_true]
              intro s
              exact r ((cbz_bit A X hl4).mpr s)
            exact fin 0 χ (by decide) hR hs (by rw [nb]; rfl)
          · have yb : cbP A X p = true := (cbz_bit A X hl4).mp r
            refine m_isAgainst hV hR hl4 (cbP_t yb) (by omega) (by omega) hl3 (fun χ2 h2 f2 => ?_)
            have f3 := hs.tr (FM_mS (f2.mo (fun _ _ q => kS_m q)))
            cases hb : agn A X p a (a + 1 + k) t
            · refine ⟨fun s => absurd (show (if false = true then (1 : Int32) else 0) = 0 from rfl) s, fun _ => ?_⟩
              exact fin 1 χ2 (by decide) h2 f3 (by rw [yb, hb]; rfl)
            · refine ⟨fun _ => ?_, fun s => absurd (show (if true = true then (1 : Int32) else 0) = 0 from s) (by decide)⟩
              exact fin 0 χ2 (by decide) h2 f3 (by rw [yb, hb]; rfl)
        · have e : p = 6 := by omega
          subst e
          refine ⟨fun _ => ?_, fun r => absurd (show (6 : Int32) ≤ qN 6 by decide) r⟩
          rw [Bd_eq]
          show K3 ((if qN (wst A X a (a + 1 + k) t) < qN (lfT A X a (a + 1 + k) t 6) then qN (lfT A X a (a + 1 + k) t 6) else qN (wst A X a (a + 1 + k) t)), qN t + 1, χ)
          rw [qN_lit 1, qN_add]
          refine hk4 _ ⟨?_, rfl, hR, hs⟩
          by_cases r : wst A X a (a + 1 + k) t < lfT A X a (a + 1 + k) t 6
          · rw [if_pos r, if_pos (by rw [qN_lt (by omega) (by omega)]; exact r)]
          · rw [if_neg r, if_neg (by rw [qN_lt (by omega) (by omega)]; exact r)]
      · have e : t = 3 := by omega
        subst e
        refine ⟨fun _ => ?_, fun r => absurd (show (3 : Int32) ≤ qN 3 by decide) r⟩
        show ((if (nxb A X a (nxa A X n a) k).1 = 7 then (-1 : Int32) else qN (nxb A X a (nxa A X n a) k).1) < 0 → K2 (qN (wst A X a (a + 1 + k) 3), qN a, qN (a + 1 + k), qN (a + 1 + k) + 1, ψ)) ∧ (¬ ((if (nxb A X a (nxa A X n a) k).1 = 7 then (-1 : Int32) else qN (nxb A X a (nxa A X n a) k).1) < 0) → (((if (nxb A X a (nxa A X n a) k).1 = 7 then (-1 : Int32) else qN (nxb A X a (nxa A X n a) k).1) ≤ qN (wst A X a (a + 1 + k) 3) → K2 ((if (nxb A X a (nxa A X n a) k).1 = 7 then (-1 : Int32) else qN (nxb A X a (nxa A X n a) k).1), qN (nxb A X a (nxa A X n a) k).2.1, qN (nxb A X a (nxa A X n a) k).2.2, qN (a + 1 + k) + 1, ψ)) ∧ (¬ ((if (nxb A X a (nxa A X n a) k).1 = 7 then (-1 : Int32) else qN (nxb A X a (nxa A X n a) k).1) ≤ qN (wst A X a (a + 1 + k) 3)) → K2 (qN (wst A X a (a + 1 + k) 3), qN a, qN (a + 1 + k), qN (a + 1 + k) + 1, ψ))))
        rw [wst_3, bs _ j1, qN_lit 1, qN_add]
        have take : lft A X a (a + 1 + k) < (nxb A X a (nxa A X n a) k).1 → K2 (qN (lft A X a (a + 1 + k)), qN a, qN (a + 1 + k), qN (a + 1 + k + 1), ψ) := fun r => by
          rw [if_pos r] at hk3
          exact hk3 _ ⟨by rw [if_neg (show ¬ lft A X a (a + 1 + k) = 7 by omega)], rfl, rfl, rfl, hP, hq⟩
        refine ⟨fun r => take (by omega), fun r => ?_⟩
        rw [if_neg r, qN_le (by omega) (by omega)]
        refine ⟨fun s => ?_, fun s => take (by omega)⟩
        have s : (nxb A X a (nxa A X n a) k).1 ≤ lft A X a (a + 1 + k) := s
        have c9 : ¬ lft A X a (a + 1 + k) < (nxb A X a (nxa A X n a) k).1 := by omega
        rw [if_neg c9] at hk3
        exact hk3 _ ⟨by rw [if_neg r], rfl, rfl, rfl, hP, hq⟩
    · have c1 : qN n ≤ qN (a + 1 + k) := by rw [qN_le (by omega) (by omega)]; omega
      have e : k = n - (a + 1) := by omega
      subst e
      unfold G12_ask_L55
      rw [Ma_s12 hO.1, hn]
      refine ⟨fun _ => ?_, fun r => absurd c1 r⟩
      show K ((if (nxb A X a (nxa A X n a) (n - (a + 1))).1 = 7 then -1 else qN (nxb A X a (nxa A X n a) (n - (a + 1))).1), qN (nxb A X a (nxa A X n a) (n - (a + 1))).2.1, qN (nxb A X a (nxa A X n a) (n - (a + 1))).2.2, qN a + 1, ω)
      rw [qN_lit 1, qN_add]
      exact hk _ ⟨rfl, rfl, rfl, rfl, hO, hg⟩
  · have e : a = n := by omega
    subst e
    have l7 := nxa_lt A X q2 a (by omega) (Nat.le_refl a)
    unfold G12_ask_L40
    rw [Ma_s12 hC.1, hn]
    refine ⟨fun _ => ?_, fun r => absurd (show qN a ≤ qN a by rw [qN_le (by omega) (by omega)]; exact Nat.le_refl _) r⟩
    obtain ⟨h2, f2⟩ := m_rc hC
    rw [Bd_eq]
    show G12_enters (qN (nxa A X a a).2.1).toInt64 (sI ν 358 1 (qN 0)) (fun μ27 => G12_enters (qN (nxa A X a a).2.2).toInt64 μ27 (fun μ28 => Q (if (nxa A X a a).1 = 7 then -1 else qN (nxa A X a a).1) μ28))
    rw [if_neg (show ¬ (nxa A X a a).1 = 7 by omega), qN_J (by omega), qN_J (by omega)]
    refine m_radd h2 (by decide) (fun μ3 h3 f3 => m_radd h3 (show (1 : Nat) < 10 by decide) (fun μ4 h4 f4 => ?_))
    exact w1 _ h4 (((hf.tr (FM_row f2)).tr (FM_row f3)).tr (FM_row f4))
theorem op_40 (v1 v2 v3 v4 v5 : Int32) (μ : MM) : Rel μ → Glaw_40 v1 v2 v3 v4 v5 μ Rel := by
  rintro ⟨A, X, W, hV, hW, hC, hM⟩
  refine c_ask hV hC (fun q1 q2 μ1 h1 f1 => ?_) (fun q μ1 h1 f1 => ?_)
  · refine m_ask hV (hM.fc f1) (fun _ _ μ2 h2 f2 => ?_) (fun q => absurd ⟨q1, q2⟩ q)
    exact ⟨fun _ => ⟨A, X, nxW A X, hV, (show (2 : Nat) ≤ 10 by decide), h1.fm f2, h2⟩, fun q => q rfl⟩
  · refine m_ask hV (hM.fc f1) (fun q1 q2 => absurd ⟨q1, q2⟩ q) (fun _ μ2 h2 f2 => ?_)
    exact ⟨fun _ => ⟨A, X, W, hV, hW, h1.fm f2, h2⟩, fun q => q rfl⟩
