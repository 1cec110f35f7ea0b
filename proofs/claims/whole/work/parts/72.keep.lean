/-! count, row, keep, again, sign -/
def tb (A : Nat → Nat → Nat) (p : Nat) : Nat → Int32
  | 0 => qN 0
  | k + 1 => if A 378 (p + k) = 0 then tb A p k else tb A p k ||| (qN 1 <<< (qN k &&& qN 31))
theorem R0_10 {k : Nat} (h : k < 6) : R0 10 k = some (115 + 6 * k) ∧ Ob (115 + 6 * k) 3 := by
  rcases (show k = 0 ∨ k = 1 ∨ k = 2 ∨ k = 3 ∨ k = 4 ∨ k = 5 by omega) with rfl | rfl | rfl | rfl | rfl | rfl <;> exact ⟨rfl, by decide, rfl⟩
theorem R0_11 {k : Nat} (h : k < 6) : R0 11 k = some (118 + 6 * k) ∧ Ob (118 + 6 * k) 3 := by
  rcases (show k = 0 ∨ k = 1 ∨ k = 2 ∨ k = 3 ∨ k = 4 ∨ k = 5 by omega) with rfl | rfl | rfl | rfl | rfl | rfl <;> exact ⟨rfl, by decide, rfl⟩
theorem or_q0 (x : Int32) : x ||| qN 0 = x := by
  apply Int32.toBitVec.inj
  show x.toBitVec ||| (qN 0).toBitVec = x.toBitVec
  rw [show (qN 0).toBitVec = 0#32 from rfl]
  simp
theorem c_toldBits {A : Nat → Nat → Nat} {μ : MM} {Q : Int32 → MM → Prop} (hI : ∀ f i, dom f i → A f i < bnd f i) (hA : Ca A μ) {a p : Nat} (ha : (a = 10 ∧ p = 0) ∨ (a = 11 ∧ p = 6)) (hQ : Q (tb A p 6) μ) : G11_toldBits a μ Q := by
  refine Lp.upE 6 (fun i => (tb A p i, qN i, μ)) ?_
  intro i K hi hK
  rcases Nat.lt_or_ge i 6 with hl | hl
  · have hk := hK hl
    have b : A 378 (p + i) < 41 := hI 378 (p + i) (by unfold dom; omega)
    have e1 : ln a = 6 := by rcases ha with ⟨rfl, -⟩ | ⟨rfl, -⟩ <;> rfl
    have key : ∀ t, gI μ t 1 = qN (A 378 (p + i)) → G3_isTold t μ (fun r10 μ9 => ((r10 = 0 → K (tb A p i, (qN i + 1), μ9)) ∧ (¬ (r10 = 0) → Bd (tb A p i ||| (1 <<< (qN i &&& 31))) fun y12 => K (y12, (qN i + 1), μ9)))) := by
      intro t ht
      simp (disch := omega) only [bo_q0, bo_q1, qN_le, qN_lt, qN_eq, qN_vp, qN_nat, qN_neg1, qN_neg, qN_nn, qN_lit, qN_add, qN_sub, qN_mul, qN_div, Bd_eq, reduceIte, Nat.add_sub_cancel, dm_l, Nat.zero_le, Nat.not_lt_zero, Nat.reduceEqDiff, Nat.reduceLT, Nat.reduceLeDiff, Nat.reduceAdd, Nat.reduceSub, Nat.reduceMul, Nat.reduceDiv, Nat.reduceMod, reduceCtorEq, true_implies, false_implies, not_true_eq_false, not_false_eq_true, true_and, and_true, implies_true, and_false, false_and, forall_const, true_or, or_true, false_or, or_false, G3_isTold, ht]
      refine ⟨fun q => ?_, fun q => ?_⟩
      · have e : tb A p (i + 1) = tb A p i := if_pos (by omega)
        rw [e] at hk; exact hk
      · have e : tb A p (i + 1) = tb A p i ||| (qN 1 <<< (qN i &&& qN 31)) := if_neg (by omega)
        rw [e] at hk; exact hk
    have h6 : ¬ ((6 : Int32) ≤ qN i) := by rw [qN_lit 6, qN_le (by omega) (by omega)]; omega
    refine ⟨fun q => absurd q h6, fun _ => ⟨?_, ?_⟩⟩
    · rw [e1, qN_vp (by omega)]; exact hl
    · rw [qN_nat (by omega)]
      rcases ha with ⟨rfl, rfl⟩ | ⟨rfl, rfl⟩
      · exact ⟨_, (R0_10 hl).1, (R0_10 hl).2, key _ (by rw [Ca_378 hA hl, Nat.zero_add])⟩
      · exact ⟨_, (R0_11 hl).1, (R0_11 hl).2, key _ (Ca_378f hA hl)⟩
  · have e : i = 6 := by omega
    subst e
    simp (disch := omega) only [bo_q0, bo_q1, qN_le, qN_lt, qN_eq, qN_vp, qN_nat, qN_neg1, qN_neg, qN_nn, qN_lit, qN_add, qN_sub, qN_mul, qN_div, Bd_eq, reduceIte, Nat.add_sub_cancel, dm_l, Nat.zero_le, Nat.not_lt_zero, Nat.reduceEqDiff, Nat.reduceLT, Nat.reduceLeDiff, Nat.reduceAdd, Nat.reduceSub, Nat.reduceMul, Nat.reduceDiv, Nat.reduceMod, reduceCtorEq, true_implies, false_implies, not_true_eq_false, not_false_eq_true, true_and, and_true, implies_true, and_false, false_and, forall_const, true_or, or_true, false_or, or_false, G11_toldBits_L4]
    exact hQ
theorem m_toldBits {A : Nat → Nat → Nat} {μ : MM} {Q : Int32 → MM → Prop} (hI : ∀ f i, dom f i → A f i < bnd f i) (hA : Ma A μ) {p : Nat} (hp : p ≤ 6) (hQ : Q (tb A p 6) μ) : G12_toldBits (qN p) μ Q := by
  refine Lp.upE 6 (fun i => (tb A p i, qN i, μ)) ?_
  intro i K hi hK
  rcases Nat.lt_or_ge i 6 with hl | hl
  · have hk := hK hl
    have b : A 378 (p + i) < 41 := hI 378 (p + i) (by unfold dom; omega)
    have p13 : p + i < 13 := by omega
    have p12 : p + i < 12 := by omega
    simp (disch := omega) only [bo_q0, bo_q1, qN_le, qN_lt, qN_eq, qN_vp, qN_nat, qN_neg1, qN_neg, qN_nn, qN_lit, qN_add, qN_sub, qN_mul, qN_div, Bd_eq, reduceIte, Nat.add_sub_cancel, dm_l, Nat.zero_le, Nat.not_lt_zero, Nat.reduceEqDiff, Nat.reduceLT, Nat.reduceLeDiff, Nat.reduceAdd, Nat.reduceSub, Nat.reduceMul, Nat.reduceDiv, Nat.reduceMod, reduceCtorEq, true_implies, false_implies, not_true_eq_false, not_false_eq_true, true_and, and_true, implies_true, and_false, false_and, forall_const, true_or, or_true, false_or, or_false, G12_toldBits_L4, Nat.not_le.mpr hl, p13, Ma_378 hA, p12, or_q0]
    refine ⟨fun q => ?_, fun q => ?_⟩
    · have e : tb A p (i + 1) = tb A p i := if_pos (by omega)
      rw [e] at hk; exact hk
    · have e : tb A p (i + 1) = tb A p i ||| (qN 1 <<< (qN i &&& qN 31)) := if_neg (by omega)
      rw [e] at hk; exact hk
  · have e : i = 6 := by omega
    subst e
    simp (disch := omega) only [bo_q0, bo_q1, qN_le, qN_lt, qN_eq, qN_vp, qN_nat, qN_neg1, qN_neg, qN_nn, qN_lit, qN_add, qN_sub, qN_mul, qN_div, Bd_eq, reduceIte, Nat.add_sub_cancel, dm_l, Nat.zero_le, Nat.not_lt_zero, Nat.reduceEqDiff, Nat.reduceLT, Nat.reduceLeDiff, Nat.reduceAdd, Nat.reduceSub, Nat.reduceMul, Nat.reduceDiv, Nat.reduceMod, reduceCtorEq, true_implies, false_implies, not_true_eq_false, not_false_eq_true, true_and, and_true, implies_true, and_false, false_and, forall_const, true_or, or_true, false_or, or_false, G12_toldBits_L4]
    exact hQ
/-- what count answers -/
def cnR (A : Nat → Nat → Nat) (W : List Int64) (v : Int32) : Int32 := if v = 0 then qN (A 358 3) else if v = 1 then qN (A 358 8) else if v = 2 then qN (A 358 12) else if v = 3 then qN (cnt (fun i => decide (A 373 i = 1)) (A 358 12)) else
  if v = 4 then qN (cnt (fun i => decide (A 374 i = 1)) (A 358 12)) else if v = 5 then tb A 0 6 else if v = 6 then tb A 6 6 else if v = 7 then qN (A 358 61) else if v = 8 then qN W.length else if v = 9 then qN (A 358 28) else -1

theorem c_count {A X : Nat → Nat → Nat} {W : List Int64} {μ : MM} {v1 : Int32} {Q : Int32 → MM → Prop} (hV : Inv A X) (h : Cs A X W μ) (hQ : Q (cnR A W v1) μ) : G11_count v1 μ Q := by
  unfold G11_count
  have hA := h.1
  unfold cnR at hQ
  have er := h.2.2.1
  refine ⟨fun q => ?_, fun q => ?_, fun q => ?_, fun q => ?_, fun q => ?_, fun q => ?_, fun q => ?_, fun q => ?_, fun q => ?_, fun q => ?_, fun q0 q1 q2 q3 q4 q5 q6 q7 q8 q9 => ?_⟩
  · subst q
    rw [if_pos rfl] at hQ
    rw [Ca_s3 hA]; exact hQ
  · subst q
    rw [if_neg (by decide), if_pos rfl] at hQ
    rw [Ca_s8 hA]; exact hQ
  · subst q
    rw [if_neg (by decide), if_neg (by decide), if_pos rfl] at hQ
    rw [Ca_s12 hA]; exact hQ
  · subst q
    rw [if_neg (by decide), if_neg (by decide), if_neg (by decide), if_pos rfl] at hQ
    exact c_readCount hV.b hA hQ
  · subst q
    rw [if_neg (by decide), if_neg (by decide), if_neg (by decide), if_neg (by decide), if_pos rfl] at hQ
    exact c_rungCount hV.b hA hQ
  · subst q
    rw [if_neg (by decide), if_neg (by decide), if_neg (by decide), if_neg (by decide), if_neg (by decide), if_pos rfl] at hQ
    exact c_toldBits hV.b hA (Or.inl ⟨rfl, rfl⟩) hQ
  · subst q
    rw [if_neg (by decide), if_neg (by decide), if_neg (by decide), if_neg (by decide), if_neg (by decide), if_neg (by decide), if_pos rfl] at hQ
    exact c_toldBits hV.b hA (Or.inr ⟨rfl, rfl⟩) hQ
  · subst q
    rw [if_neg (by decide), if_neg (by decide), if_neg (by decide), if_neg (by decide), if_neg (by decide), if_neg (by decide), if_neg (by decide), if_pos rfl] at hQ
    rw [Ca_s61 hA]; exact hQ
  · subst q
    rw [if_neg (by decide), if_neg (by decide), if_neg (by decide), if_neg (by decide), if_neg (by decide), if_neg (by decide), if_neg (by decide), if_neg (by decide), if_pos rfl] at hQ
    rw [er]; exact hQ
  · subst q
    rw [if_neg (by decide), if_neg (by decide), if_neg (by decide), if_neg (by decide), if_neg (by decide), if_neg (by decide), if_neg (by decide), if_neg (by decide), if_neg (by decide), if_pos rfl] at hQ
    rw [Ca_s28 hA]; exact hQ
  · rw [if_neg q0, if_neg q1, if_neg q2, if_neg q3, if_neg q4, if_neg q5, if_neg q6, if_neg q7, if_neg q8, if_neg q9] at hQ
    exact hQ

theorem m_count {A X : Nat → Nat → Nat} {W : List Int64} {μ : MM} {v1 : Int32} {Q : Int32 → MM → Prop} (hV : Inv A X) (h : Ms A X W μ) (hQ' : ∀ μ', Ms A X W μ' → FM μ μ' → Q (cnR A W v1) μ') : G12_count v1 μ Q := by
  unfold G12_count
  rw [Bd_eq]
  have h0 := m_thr h 0
  have f0 := fm_thr μ 0
  revert h0 f0
  generalize sI μ 358 0 0 = μ0
  intro h0 f0
  have hA := h0.1
  have hQ := hQ' _ h0 f0
  clear hQ'
  unfold cnR at hQ
  have er := h0.2.2.1
  refine ⟨fun q => ?_, fun q => ?_, fun q => ?_, fun q => ?_, fun q => ?_, fun q => ?_, fun q => ?_, fun q => ?_, fun q => ?_, fun q => ?_, fun q0 q1 q2 q3 q4 q5 q6 q7 q8 q9 => ?_⟩
  · subst q
    rw [if_pos rfl] at hQ
    rw [Ma_s3 hA]; exact hQ
  · subst q
    rw [if_neg (by decide), if_pos rfl] at hQ
    rw [Ma_s8 hA]; exact hQ
  · subst q
    rw [if_neg (by decide), if_neg (by decide), if_pos rfl] at hQ
    rw [Ma_s12 hA]; exact hQ
  · subst q
    rw [if_neg (by decide), if_neg (by decide), if_neg (by decide), if_pos rfl] at hQ
    exact m_readMany hV.b hA hQ
  · subst q
    rw [if_neg (by decide), if_neg (by decide), if_neg (by decide), if_neg (by decide), if_pos rfl] at hQ
    exact m_rungMany hV.b hA hV.rr hQ
  · subst q
    rw [if_neg (by decide), if_neg (by decide), if_neg (by decide), if_neg (by decide), if_neg (by decide), if_pos rfl] at hQ
    exact m_toldBits hV.b hA (p := 0) (by decide) hQ
  · subst q
    rw [if_neg (by decide), if_neg (by decide), if_neg (by decide), if_neg (by decide), if_neg (by decide), if_neg (by decide), if_pos rfl] at hQ
    exact m_toldBits hV.b hA (p := 6) (by decide) hQ
  · subst q
    rw [if_neg (by decide), if_neg (by decide), if_neg (by decide), if_neg (by decide), if_neg (by decide), if_neg (by decide), if_neg (by decide), if_pos rfl] at hQ
    rw [Ma_s61 hA]; exact hQ
  · subst q
    rw [if_neg (by decide), if_neg (by decide), if_neg (by decide), if_neg (by decide), if_neg (by decide), if_neg (by decide), if_neg (by decide), if_neg (by decide), if_pos rfl] at hQ
    rw [er]; exact hQ
  · subst q
    rw [if_neg (by decide), if_neg (by decide), if_neg (by decide), if_neg (by decide), if_neg (by decide), if_neg (by decide), if_neg (by decide), if_neg (by decide), if_neg (by decide), if_pos rfl] at hQ
    rw [Ma_s28 hA]; exact hQ
  · rw [if_neg q0, if_neg q1, if_neg q2, if_neg q3, if_neg q4, if_neg q5, if_neg q6, if_neg q7, if_neg q8, if_neg q9] at hQ
    exact hQ

theorem up2_comm {α : Type} {A : Nat → Nat → α} {f i g j : Nat} {v w : α} (h : ¬ (f = g ∧ i = j)) : up2 (up2 A f i v) g j w = up2 (up2 A g j w) f i v := by
  funext a b
  unfold up2
  by_cases h1 : a = g ∧ b = j
  · rw [if_pos h1, if_neg (by omega), if_pos h1]
  · rw [if_neg h1]
    by_cases h2 : a = f ∧ b = i
    · rw [if_pos h2, if_pos h2]
    · rw [if_neg h2, if_neg h2, if_neg h1]
theorem up2_o {α : Type} {A : Nat → Nat → α} {f i : Nat} {v : α} {g j : Nat} (h : ¬ (g = f ∧ j = i)) : up2 A f i v g j = A g j := if_neg h
theorem up2_i {α : Type} {A : Nat → Nat → α} {f i : Nat} {v : α} : up2 A f i v f i = v := if_pos ⟨rfl, rfl⟩
/-- what is kept, letter by letter -/
def kp (A : Nat → Nat → Nat) (i : Nat) : Nat → Nat → Nat → Nat
  | 0 => up2 (up2 A 407 i (A 358 12)) 408 i (A 358 22)
  | k + 1 => up2 (kp A i k) 409 (96 * i + k) (A 373 k + 2 * A 374 k + 4 * A 375 k)
theorem kp_o (A : Nat → Nat → Nat) (i : Nat) {f j : Nat} (h : f ≠ 407 ∧ f ≠ 408 ∧ f ≠ 409) : ∀ k, kp A i k f j = A f j
  | 0 => by
    show up2 (up2 A 407 i (A 358 12)) 408 i (A 358 22) f j = A f j
    rw [up2_o (by omega), up2_o (by omega)]
  | k + 1 => by
    show up2 (kp A i k) 409 (96 * i + k) _ f j = A f j
    rw [up2_o (by omega), kp_o A i h k]
/-- letters as they were kept -/
def lpk (B : Nat → Nat → Nat) (i : Nat) : Nat → Nat → Nat → Nat
  | 0 => B
  | k + 1 => up2 (up2 (up2 (lpk B i k) 373 k (B 409 (96 * i + k) % 2)) 374 k (B 409 (96 * i + k) / 2 % 2)) 375 k (B 409 (96 * i + k) / 4)
theorem lpk_o (B : Nat → Nat → Nat) (i : Nat) {f j : Nat} (h : f ≠ 373 ∧ f ≠ 374 ∧ f ≠ 375) : ∀ k, lpk B i k f j = B f j
  | 0 => rfl
  | k + 1 => by
    show up2 (up2 (up2 (lpk B i k) 373 k _) 374 k _) 375 k _ f j = B f j
    rw [up2_o (by omega), up2_o (by omega), up2_o (by omega), lpk_o B i h k]
theorem lpk_c (B : Nat → Nat → Nat) (i v : Nat) : ∀ k, lpk (up2 B 358 61 v) i k = up2 (lpk B i k) 358 61 v
  | 0 => rfl
  | k + 1 => by
    have ih := lpk_c B i v k
    show up2 (up2 (up2 (lpk (up2 B 358 61 v) i k) 373 k (up2 B 358 61 v 409 (96 * i + k) % 2)) 374 k (up2 B 358 61 v 409 (96 * i + k) / 2 % 2)) 375 k (up2 B 358 61 v 409 (96 * i + k) / 4) = up2 (up2 (up2 (up2 (lpk B i k) 373 k _) 374 k _) 375 k _) 358 61 v
    rw [up2_o (by omega), ih, up2_comm (f := 358) (g := 373) (by omega), up2_comm (f := 358) (g := 374) (by omega), up2_comm (f := 358) (g := 375) (by omega)]

theorem c_keep {A X : Nat → Nat → Nat} {W : List Int64} {μ : MM} {v1 : Int32} {Q : Int32 → MM → Prop} (hV : Inv A X) (h : Cs A X W μ)
    (hy : ∀ i, i < 3 → v1 = qN i → ∀ μ', Cs (kp A i (A 358 12)) X W μ' → FC μ μ' → Q 1 μ') (hn : ¬ inr v1 3 → Q 0 μ) : G11_keep v1 μ Q := by
  have hl : A 358 12 < 97 := hV.b 358 12 (by unfold dom; decide)
  unfold G11_keep
  refine within0_s 2 rfl (by decide) (fun q1 => ⟨fun _ => ?_, fun r => absurd r (by decide)⟩) (fun q1 => ⟨fun r => absurd rfl r, fun _ => hn q1⟩)
  obtain ⟨i, hi, rfl⟩ := q1
  have hi3 : i < 3 := hi
  have hA := h.1
  simp (disch := omega) only [bo_q0, bo_q1, qN_le, qN_lt, qN_eq, qN_vp, qN_nat, qN_neg1, qN_neg, qN_nn, qN_lit, qN_add, qN_sub, qN_mul, qN_div, Bd_eq, reduceIte, Nat.add_sub_cancel, dm_l, Nat.zero_le, Nat.not_lt_zero, Nat.reduceEqDiff, Nat.reduceLT, Nat.reduceLeDiff, Nat.reduceAdd, Nat.reduceSub, Nat.reduceMul, Nat.reduceDiv, Nat.reduceMod, reduceCtorEq, true_implies, false_implies, not_true_eq_false, not_false_eq_true, true_and, and_true, implies_true, and_false, false_and, forall_const, true_or, or_true, false_or, or_false, G10_keepUnder, hi3, Ca_s12 hA, Ca_s22 hA, gI_I, gI_J, gI_R, gJ_I, gJ_J, gJ_R, gR_I, gR_J, gR_R]
  have c0 : Ca (kp A i 0) (sI (sI μ 13 i (qN (A 358 12))) 14 i (qN (A 358 22))) := Cw_408 (Cw_407 hA hi3 _) hi3 _
  have s0 : Sm cT μ (sI (sI μ 13 i (qN (A 358 12))) 14 i (qN (A 358 22))) := (Sm.rfl'.wI _ (k := 13) (j := i) (by unfold cT; omega)).wI _ (k := 14) (j := i) (by unfold cT; omega)
  refine Lp.up (A 358 12) (fun k x => x.1 = qN k ∧ Ca (kp A i k) x.2 ∧ Sm cT μ x.2) ?_ ⟨rfl, c0, s0⟩
  rintro k K hk hK ⟨y, ν⟩ ⟨rfl, hC, hs⟩
  simp only at hC hs
  have e12 : gI ν 1 10 = qN (A 358 12) := by rw [Ca_s12 hC, kp_o A i (by omega)]
  rcases Nat.lt_or_ge k (A 358 12) with hl1 | hl1
  · have hk2 := hK hl1
    have k9 : k < 96 := by omega
    have b3 : A 373 k < 2 := hV.b 373 k (by unfold dom; omega)
    have b4 : A 374 k < 2 := hV.b 374 k (by unfold dom; omega)
    have b6 : A 375 k < 3 := hV.b 375 k (by unfold dom; omega)
    have e3 : gI ν (19 + k) 6 = qN (A 373 k) := by rw [Ca_373 hC k9, kp_o A i (by omega)]
    have e4 : gI ν (19 + k) 7 = qN (A 374 k) := by rw [Ca_374 hC k9, kp_o A i (by omega)]
    have e5 : gI ν (19 + k) 8 = qN (A 375 k) := by rw [Ca_375 hC k9, kp_o A i (by omega)]
    have fin : ∀ v, v = A 373 k + 2 * A 374 k + 4 * A 375 k → K (qN (k + 1), sI ν (16 + i) k (qN v)) := fun v hv => by
      subst hv
      exact hk2 _ ⟨rfl, Cw_409 hC hi3 k9 _, hs.wI _ (by unfold cT; omega)⟩
    simp (disch := omega) only [bo_q0, bo_q1, qN_le, qN_lt, qN_eq, qN_vp, qN_nat, qN_neg1, qN_neg, qN_nn, qN_lit, qN_add, qN_sub, qN_mul, qN_div, Bd_eq, reduceIte, Nat.add_sub_cancel, dm_l, Nat.zero_le, Nat.not_lt_zero, Nat.reduceEqDiff, Nat.reduceLT, Nat.reduceLeDiff, Nat.reduceAdd, Nat.reduceSub, Nat.reduceMul, Nat.reduceDiv, Nat.reduceMod, reduceCtorEq, true_implies, false_implies, not_true_eq_false, not_false_eq_true, true_and, and_true, implies_true, and_false, false_and, forall_const, true_or, or_true, false_or, or_false, G10_keepUnder_L22, e12, Nat.not_le.mpr hl1, hi3, k9, G5_state, G5_state_J12, e3, e4, e5]
    repeat' (first | (refine And.intro ?_ ?_) | (refine fun _ => ?_))
    all_goals exact fin _ (by omega)
  · have e : k = A 358 12 := by omega
    subst e
    simp (disch := omega) only [bo_q0, bo_q1, qN_le, qN_lt, qN_eq, qN_vp, qN_nat, qN_neg1, qN_neg, qN_nn, qN_lit, qN_add, qN_sub, qN_mul, qN_div, Bd_eq, reduceIte, Nat.add_sub_cancel, dm_l, Nat.zero_le, Nat.not_lt_zero, Nat.reduceEqDiff, Nat.reduceLT, Nat.reduceLeDiff, Nat.reduceAdd, Nat.reduceSub, Nat.reduceMul, Nat.reduceDiv, Nat.reduceMod, reduceCtorEq, true_implies, false_implies, not_true_eq_false, not_false_eq_true, true_and, and_true, implies_true, and_false, false_and, forall_const, true_or, or_true, false_or, or_false, G10_keepUnder_L22, e12, Nat.le_refl]
    exact hy i hi3 rfl _ (h.up hs hC (fun p hp => kp_o A i (by omega) _)) (FC_cT hs)
theorem m_keep {A X : Nat → Nat → Nat} {W : List Int64} {μ : MM} {v1 : Int32} {Q : Int32 → MM → Prop} (hV : Inv A X) (h : Ms A X W μ)
    (hy : ∀ i, i < 3 → v1 = qN i → ∀ μ', Ms (kp A i (A 358 12)) X W μ' → FM μ μ' → Q 1 μ') (hn : ¬ inr v1 3 → ∀ μ', Ms A X W μ' → FM μ μ' → Q 0 μ') : G12_keep v1 μ Q := by
  have hl : A 358 12 < 97 := hV.b 358 12 (by unfold dom; decide)
  unfold G12_keep
  rw [Bd_eq]
  have h0 := m_thr h 0
  have f0 := fm_thr μ 0
  revert h0 f0
  generalize sI μ 358 0 0 = μ0
  intro h0 f0
  refine in0_s 2 rfl (by decide) (fun q1 => ⟨fun _ => ?_, fun r => absurd r (by decide)⟩) (fun q1 => ⟨fun r => absurd rfl r, fun _ => hn q1 _ h0 f0⟩)
  obtain ⟨i, hi, rfl⟩ := q1
  have hi3 : i < 3 := hi
  have hA := h0.1
  simp (disch := omega) only [bo_q0, bo_q1, qN_le, qN_lt, qN_eq, qN_vp, qN_nat, qN_neg1, qN_neg, qN_nn, qN_lit, qN_add, qN_sub, qN_mul, qN_div, Bd_eq, reduceIte, Nat.add_sub_cancel, dm_l, Nat.zero_le, Nat.not_lt_zero, Nat.reduceEqDiff, Nat.reduceLT, Nat.reduceLeDiff, Nat.reduceAdd, Nat.reduceSub, Nat.reduceMul, Nat.reduceDiv, Nat.reduceMod, reduceCtorEq, true_implies, false_implies, not_true_eq_false, not_false_eq_true, true_and, and_true, implies_true, and_false, false_and, forall_const, true_or, or_true, false_or, or_false, hi3, Ma_s12 hA, Ma_s22 hA, gI_I, gI_J, gI_R, gJ_I, gJ_J, gJ_R, gR_I, gR_J, gR_R]
  have c0 : Ma (kp A i 0) (sI (sI μ0 407 i (qN (A 358 12))) 408 i (qN (A 358 22))) := Ma_w (Ma_w hA 407 i _) 408 i _
  have s0 : Sm mT μ0 (sI (sI μ0 407 i (qN (A 358 12))) 408 i (qN (A 358 22))) := (Sm.rfl'.wI _ (k := 407) (j := i) (by unfold mT; omega)).wI _ (k := 408) (j := i) (by unfold mT; omega)
  refine Lp.up (A 358 12) (fun k x => x.1 = qN k ∧ Ma (kp A i k) x.2 ∧ Sm mT μ0 x.2) ?_ ⟨rfl, c0, s0⟩
  rintro k K hk hK ⟨y, ν⟩ ⟨rfl, hC, hs⟩
  simp only at hC hs
  have e12 : gI ν 358 12 = qN (A 358 12) := by rw [Ma_s12 hC, kp_o A i (by omega)]
  rcases Nat.lt_or_ge k (A 358 12) with hl1 | hl1
  · have hk2 := hK hl1
    have k9 : k < 96 := by omega
    have b3 : A 373 k < 2 := hV.b 373 k (by unfold dom; omega)
    have b4 : A 374 k < 2 := hV.b 374 k (by unfold dom; omega)
    have b6 : A 375 k < 3 := hV.b 375 k (by unfold dom; omega)
    have e3 : gI ν 373 k = qN (A 373 k) := by rw [Ma_373 hC k9, kp_o A i (by omega)]
    have e4 : gI ν 374 k = qN (A 374 k) := by rw [Ma_374 hC k9, kp_o A i (by omega)]
    have e5 : gI ν 375 k = qN (A 375 k) := by rw [Ma_375 hC k9, kp_o A i (by omega)]
    have x1 : 96 * i + k < 288 := by omega
    simp (disch := omega) only [bo_q0, bo_q1, qN_le, qN_lt, qN_eq, qN_vp, qN_nat, qN_neg1, qN_neg, qN_nn, qN_lit, qN_add, qN_sub, qN_mul, qN_div, Bd_eq, reduceIte, Nat.add_sub_cancel, dm_l, Nat.zero_le, Nat.not_lt_zero, Nat.reduceEqDiff, Nat.reduceLT, Nat.reduceLeDiff, Nat.reduceAdd, Nat.reduceSub, Nat.reduceMul, Nat.reduceDiv, Nat.reduceMod, reduceCtorEq, true_implies, false_implies, not_true_eq_false, not_false_eq_true, true_and, and_true, implies_true, and_false, false_and, forall_const, true_or, or_true, false_or, or_false, G12_keep_L41, e12, Nat.not_le.mpr hl1, hi3, k9, e3, e4, e5, flag_q, x1]
    exact hk2 _ ⟨rfl, Ma_w hC 409 (96 * i + k) _, hs.wI _ (by unfold mT; omega)⟩
  · have e : k = A 358 12 := by omega
    subst e
    simp (disch := omega) only [bo_q0, bo_q1, qN_le, qN_lt, qN_eq, qN_vp, qN_nat, qN_neg1, qN_neg, qN_nn, qN_lit, qN_add, qN_sub, qN_mul, qN_div, Bd_eq, reduceIte, Nat.add_sub_cancel, dm_l, Nat.zero_le, Nat.not_lt_zero, Nat.reduceEqDiff, Nat.reduceLT, Nat.reduceLeDiff, Nat.reduceAdd, Nat.reduceSub, Nat.reduceMul, Nat.reduceDiv, Nat.reduceMod, reduceCtorEq, true_implies, false_implies, not_true_eq_false, not_false_eq_true, true_and, and_true, implies_true, and_false, false_and, forall_const, true_or, or_true, false_or, or_false, G12_keep_L41, e12, Nat.le_refl]
    exact hy i hi3 rfl _ (h0.up hs hC (fun p hp => kp_o A i (by omega) _)) (f0.tr (FM_mT hs))
def agB (A : Nat → Nat → Nat) (i : Nat) : Nat → Nat → Nat := up2 (up2 A 358 12 (A 407 i)) 358 22 (A 408 i)
def ag (A : Nat → Nat → Nat) (i : Nat) : Nat → Nat → Nat := lpk (up2 (agB A i) 358 61 0) i (A 407 i)
def agOk (A : Nat → Nat → Nat) (i : Nat) : Prop := A 407 i ≠ 4294967295 ∧ A 407 i ≤ A 358 12
theorem k407 {A X : Nat → Nat → Nat} (hV : Inv A X) {i : Nat} (hi : i < 3) : (A 407 i = 4294967295 ∧ (qN (A 407 i) = -1)) ∨ (A 407 i ≤ 96 ∧ ¬ (qN (A 407 i) = -1) ∧ ¬ (qN (A 407 i) < 0)) := by
  rcases hV.2.2.2.2.1 i hi with q | q
  · exact Or.inl ⟨q, by rw [q]; decide⟩
  · refine Or.inr ⟨q, ?_, ?_⟩
    · rw [qN_neg1 (by omega)]; exact id
    · rw [qN_neg (by omega)]; exact id
theorem c_again {A X : Nat → Nat → Nat} {W : List Int64} {μ : MM} {v1 : Int32} {Q : Int32 → MM → Prop} (hV : Inv A X) (h : Cs A X W μ)
    (hy : ∀ i, i < 3 → v1 = qN i → agOk A i → ∀ μ', Cs (ag A i) X W μ' → FC μ μ' → Q 1 μ') (hn : ¬ (∃ i, i < 3 ∧ v1 = qN i ∧ agOk A i) → Q 0 μ) : G11_again v1 μ Q := by
  have hl : A 358 12 < 97 := hV.b 358 12 (by unfold dom; decide)
  unfold G11_again
  refine within0_s 2 rfl (by decide) (fun q1 => ⟨fun r => absurd r (by decide), fun _ => ?_⟩) (fun q1 => ⟨fun _ => hn (fun r => by obtain ⟨i, a, b, _⟩ := r; exact q1 ⟨i, a, b⟩), fun r => absurd rfl r⟩)
  obtain ⟨i, hi, rfl⟩ := q1
  have hi3 : i < 3 := hi
  have hA := h.1
  have no : ¬ agOk A i → Q 0 μ := fun q => hn (fun r => by
    obtain ⟨j, a, b, d⟩ := r
    rw [qN_eq (by omega) (by omega)] at b
    subst b
    exact q d)
  have n1 : -qN 1 = (-1 : Int32) := rfl
  simp (disch := omega) only [bo_q0, bo_q1, qN_le, qN_lt, qN_eq, qN_vp, qN_nat, qN_neg1, qN_neg, qN_nn, qN_lit, qN_add, qN_sub, qN_mul, qN_div, Bd_eq, reduceIte, Nat.add_sub_cancel, dm_l, Nat.zero_le, Nat.not_lt_zero, Nat.reduceEqDiff, Nat.reduceLT, Nat.reduceLeDiff, Nat.reduceAdd, Nat.reduceSub, Nat.reduceMul, Nat.reduceDiv, Nat.reduceMod, reduceCtorEq, true_implies, false_implies, not_true_eq_false, not_false_eq_true, true_and, and_true, implies_true, and_false, false_and, forall_const, true_or, or_true, false_or, or_false, G10_bringBack, hi3, Ca_407 hA, Ca_408 hA, Ca_s12 hA, gI_I, gI_J, gI_R, gJ_I, gJ_J, gJ_R, gR_I, gR_J, gR_R]
  rw [n1]
  rcases k407 hV hi3 with ⟨ka, kb⟩ | ⟨ka, kb, kc⟩
  · refine ⟨fun _ => no (fun q => q.1 ka), fun q => absurd kb q⟩
  refine ⟨fun q => absurd q kb, fun _ => ?_⟩
  rw [qN_le (by omega) (by omega)]
  refine ⟨fun q => ?_, fun q => no (fun r => q r.2)⟩
  have ok : agOk A i := ⟨by omega, q⟩
  have c0 : Ca (lpk (agB A i) i 0) (sI (sI μ 1 10 (qN (A 407 i))) 1 14 (qN (A 408 i))) := Cw_s22 (Cw_s12 hA _) _
  have s0 : Sm cT μ (sI (sI μ 1 10 (qN (A 407 i))) 1 14 (qN (A 408 i))) := (Sm.rfl'.wI _ (k := 1) (j := 10) (by unfold cT; omega)).wI _ (k := 1) (j := 14) (by unfold cT; omega)
  refine Lp.up (A 407 i) (fun k x => x.1 = qN k ∧ Ca (lpk (agB A i) i k) x.2 ∧ Sm cT μ x.2) ?_ ⟨rfl, c0, s0⟩
  rintro k K hk hK ⟨y, ν⟩ ⟨rfl, hC, hs⟩
  simp only at hC hs
  have e12 : gI ν 1 10 = qN (A 407 i) := by
    rw [Ca_s12 hC, lpk_o _ _ (by omega)]
    unfold agB
    rw [up2_o (by omega), up2_i]
  rcases Nat.lt_or_ge k (A 407 i) with hl1 | hl1
  · have hk2 := hK hl1
    have k9 : k < 96 := by omega
    have e9 : agB A i 409 (96 * i + k) = A 409 (96 * i + k) := by
      unfold agB
      rw [up2_o (by omega), up2_o (by omega)]
    have e3 : gI ν (16 + i) k = qN (A 409 (96 * i + k)) := by rw [Ca_409 hC hi3 k9, lpk_o _ _ (by omega), e9]
    have st := hV.2.2.2.2.2.1 (96 * i + k) (by omega)
    simp (disch := omega) only [bo_q0, bo_q1, qN_le, qN_lt, qN_eq, qN_vp, qN_nat, qN_neg1, qN_neg, qN_nn, qN_lit, qN_add, qN_sub, qN_mul, qN_div, Bd_eq, reduceIte, Nat.add_sub_cancel, dm_l, Nat.zero_le, Nat.not_lt_zero, Nat.reduceEqDiff, Nat.reduceLT, Nat.reduceLeDiff, Nat.reduceAdd, Nat.reduceSub, Nat.reduceMul, Nat.reduceDiv, Nat.reduceMod, reduceCtorEq, true_implies, false_implies, not_true_eq_false, not_false_eq_true, true_and, and_true, implies_true, and_false, false_and, forall_const, true_or, or_true, false_or, or_false, G10_bringBack_L47, e12, Nat.not_le.mpr hl1, hi3, k9, e3, bst_q st]
    have c1 := Cw_375 (Cw_374 (Cw_373 hC k9 (A 409 (96 * i + k) % 2)) k9 (A 409 (96 * i + k) / 2 % 2)) k9 (A 409 (96 * i + k) / 4)
    rw [← e9] at c1
    exact hk2 _ ⟨rfl, by rw [← e9]; exact c1, ((hs.wI _ (by unfold cT; omega)).wI _ (by unfold cT; omega)).wI _ (by unfold cT; omega)⟩
  · have e : k = A 407 i := by omega
    subst e
    simp (disch := omega) only [bo_q0, bo_q1, qN_le, qN_lt, qN_eq, qN_vp, qN_nat, qN_neg1, qN_neg, qN_nn, qN_lit, qN_add, qN_sub, qN_mul, qN_div, Bd_eq, reduceIte, Nat.add_sub_cancel, dm_l, Nat.zero_le, Nat.not_lt_zero, Nat.reduceEqDiff, Nat.reduceLT, Nat.reduceLeDiff, Nat.reduceAdd, Nat.reduceSub, Nat.reduceMul, Nat.reduceDiv, Nat.reduceMod, reduceCtorEq, true_implies, false_implies, not_true_eq_false, not_false_eq_true, true_and, and_true, implies_true, and_false, false_and, forall_const, true_or, or_true, false_or, or_false, G10_bringBack_L47, e12, Nat.le_refl]
    have c1 := Cw_s61 hC 0
    rw [← lpk_c] at c1
    have s1 := hs.wI (qN 0) (k := 237) (j := 5) (by unfold cT; omega)
    exact hy i hi3 rfl ok _ (h.up s1 c1 (fun p hp => by unfold ag; rw [lpk_o _ _ (by omega), up2_o (by omega)]; unfold agB; rw [up2_o (by omega), up2_o (by omega)])) (FC_cT s1)
theorem has_q {s : Nat} (hs : st5 s) {μ : MM} {Q : Int32 → MM → Prop} : (G12_has (qN s) 0 μ Q ↔ Q (qN (s % 2)) μ) ∧ (G12_has (qN s) 1 μ Q ↔ Q (qN (s / 2 % 2)) μ) ∧ ((qN s) >>> ((2 : Int32) &&& 31) = qN (s / 4)) := by
  unfold G12_has
  rcases hs with rfl | rfl | rfl | rfl | rfl
  · exact ⟨⟨fun q => q.1 (by decide), fun q => ⟨fun _ => q, fun r => absurd r (by decide)⟩⟩, ⟨fun q => q.1 (by decide), fun q => ⟨fun _ => q, fun r => absurd r (by decide)⟩⟩, by decide⟩
  · exact ⟨⟨fun q => q.2 (by decide), fun q => ⟨fun r => absurd (by decide) r, fun _ => q⟩⟩, ⟨fun q => q.1 (by decide), fun q => ⟨fun _ => q, fun r => absurd r (by decide)⟩⟩, by decide⟩
  · exact ⟨⟨fun q => q.2 (by decide), fun q => ⟨fun r => absurd (by decide) r, fun _ => q⟩⟩, ⟨fun q => q.2 (by decide), fun q => ⟨fun r => absurd (by decide) r, fun _ => q⟩⟩, by decide⟩
  · exact ⟨⟨fun q => q.2 (by decide), fun q => ⟨fun r => absurd (by decide) r, fun _ => q⟩⟩, ⟨fun q => q.2 (by decide), fun q => ⟨fun r => absurd (by decide) r, fun _ => q⟩⟩, by decide⟩
  · exact ⟨⟨fun q => q.2 (by decide), fun q => ⟨fun r => absurd (by decide) r, fun _ => q⟩⟩, ⟨fun q => q.2 (by decide), fun q => ⟨fun r => absurd (by decide) r, fun _ => q⟩⟩, by decide⟩
theorem m_again {A X : Nat → Nat → Nat} {W : List Int64} {μ : MM} {v1 : Int32} {Q : Int32 → MM → Prop} (hV : Inv A X) (h : Ms A X W μ)
    (hy : ∀ i, i < 3 → v1 = qN i → agOk A i → ∀ μ', Ms (ag A i) X W μ' → FM μ μ' → Q 1 μ') (hn : ¬ (∃ i, i < 3 ∧ v1 = qN i ∧ agOk A i) → ∀ μ', Ms A X W μ' → FM μ μ' → Q 0 μ') : G12_again v1 μ Q := by
  have hl : A 358 12 < 97 := hV.b 358 12 (by unfold dom; decide)
  unfold G12_again
  rw [Bd_eq]
  have h0 := m_thr h 0
  have f0 := fm_thr μ 0
  revert h0 f0
  generalize sI μ 358 0 0 = μ0
  intro h0 f0
  refine in0_s 2 rfl (by decide) (fun q1 => ⟨fun r => absurd r (by decide), fun _ => ?_⟩) (fun q1 => ⟨fun _ => hn (fun r => by obtain ⟨i, a, b, _⟩ := r; exact q1 ⟨i, a, b⟩) _ h0 f0, fun r => absurd rfl r⟩)
  obtain ⟨i, hi, rfl⟩ := q1
  have hi3 : i < 3 := hi
  have hA := h0.1
  have no : ¬ agOk A i → Q 0 μ0 := fun q => hn (fun r => by
    obtain ⟨j, a, b, d⟩ := r
    rw [qN_eq (by omega) (by omega)] at b
    subst b
    exact q d) _ h0 f0
  have vi : vp_in (qN i) 3 := by rw [qN_vp (by omega)]; exact hi3
  have ei : (qN i).toNatClampNeg = i := qN_nat (by omega)
  rw [ei, Ma_407 hA hi3, Ma_s12 hA]
  rcases k407 hV hi3 with ⟨ka, kb⟩ | ⟨ka, kb, kc⟩
  · refine ⟨vi, fun _ => no (fun q => q.1 ka), fun q => absurd (by rw [kb]; decide) q⟩
  refine ⟨vi, fun q => absurd q kc, fun _ => ⟨vi, ?_⟩⟩
  rw [qN_le (by omega) (by omega)]
  refine ⟨fun q => ⟨vi, ?_⟩, fun q => no (fun r => q r.2)⟩
  have ok : agOk A i := ⟨by omega, q⟩
  simp (disch := omega) only [bo_q0, bo_q1, qN_le, qN_lt, qN_eq, qN_vp, qN_nat, qN_neg1, qN_neg, qN_nn, qN_lit, qN_add, qN_sub, qN_mul, qN_div, Bd_eq, reduceIte, Nat.add_sub_cancel, dm_l, Nat.zero_le, Nat.not_lt_zero, Nat.reduceEqDiff, Nat.reduceLT, Nat.reduceLeDiff, Nat.reduceAdd, Nat.reduceSub, Nat.reduceMul, Nat.reduceDiv, Nat.reduceMod, reduceCtorEq, true_implies, false_implies, not_true_eq_false, not_false_eq_true, true_and, and_true, implies_true, and_false, false_and, forall_const, true_or, or_true, false_or, or_false, vi, Ma_408 hA, hi3, gI_I, gI_J, gI_R, gJ_I, gJ_J, gJ_R, gR_I, gR_J, gR_R]
  have c0 : Ma (lpk (up2 (agB A i) 358 61 0) i 0) (sI (sI (sI μ0 358 12 (qN (A 407 i))) 358 22 (qN (A 408 i))) 358 61 (qN 0)) := Ma_w (Ma_w (Ma_w hA 358 12 _) 358 22 _) 358 61 _
  have s0 : Sm mT μ0 (sI (sI (sI μ0 358 12 (qN (A 407 i))) 358 22 (qN (A 408 i))) 358 61 (qN 0)) := ((Sm.rfl'.wI _ (k := 358) (j := 12) (by unfold mT; omega)).wI _ (k := 358) (j := 22) (by unfold mT; omega)).wI _ (k := 358) (j := 61) (by unfold mT; omega)
  refine Lp.up (A 407 i) (fun k x => x.1 = qN k ∧ Ma (lpk (up2 (agB A i) 358 61 0) i k) x.2 ∧ Sm mT μ0 x.2) ?_ ⟨rfl, c0, s0⟩
  rintro k K hk hK ⟨y, ν⟩ ⟨rfl, hC, hs⟩
  simp only at hC hs
  have e12 : gI ν 358 12 = qN (A 407 i) := by
    rw [Ma_s12 hC, lpk_o _ _ (by omega)]
    unfold agB
    rw [up2_o (by omega), up2_o (by omega), up2_i]
  rcases Nat.lt_or_ge k (A 407 i) with hl1 | hl1
  · have hk2 := hK hl1
    have k9 : k < 96 := by omega
    have x1 : 96 * i + k < 288 := by omega
    have e9 : up2 (agB A i) 358 61 0 409 (96 * i + k) = A 409 (96 * i + k) := by
      unfold agB
      rw [up2_o (by omega), up2_o (by omega), up2_o (by omega)]
    have e3 : gI ν 409 (96 * i + k) = qN (A 409 (96 * i + k)) := by rw [Ma_409 hC x1, lpk_o _ _ (by omega), e9]
    have st := hV.2.2.2.2.2.1 (96 * i + k) (by omega)
    have c1 := Ma_w (Ma_w (Ma_w hC 373 k (A 409 (96 * i + k) % 2)) 374 k (A 409 (96 * i + k) / 2 % 2)) 375 k (A 409 (96 * i + k) / 4)
    have z1 : (1 : Int32) = qN 1 := rfl
    have hs1 := fun (ν : MM) (Q : Int32 → MM → Prop) => (has_q st (μ := ν) (Q := Q)).1
    have hs2 := fun (ν : MM) (Q : Int32 → MM → Prop) => (has_q st (μ := ν) (Q := Q)).2.1
    have hs3 := (has_q st (μ := ν) (Q := fun _ _ => True)).2.2
    have m1 : A 409 (96 * i + k) % 2 < 2 := Nat.mod_lt _ (by decide)
    have m2 : A 409 (96 * i + k) / 2 % 2 < 2 := Nat.mod_lt _ (by decide)
    have h4 : ¬ (qN (A 407 i) ≤ qN k) := by rw [qN_le (by omega) (by omega)]; omega
    have ea : (qN 96 * qN i + qN k) = qN (96 * i + k) := by rw [qN_mul, qN_add]
    unfold G12_again_L68
    rw [e12]
    refine ⟨fun q => absurd q h4, fun _ => ?_⟩
    show vp_in (qN 96 * qN i + qN k) 288 ∧ Bd (gI ν 409 (qN 96 * qN i + qN k).toNatClampNeg) _
    rw [ea, qN_nat (by omega), e3, Bd_eq]
    refine ⟨by rw [qN_vp (by omega)]; exact x1, ?_⟩
    rw [hs1]
    refine ⟨by rw [qN_vp (by omega)]; exact k9, ?_⟩
    rw [nar_q m1, Bd_eq, hs2]
    refine ⟨by rw [qN_vp (by omega)]; exact k9, ?_⟩
    rw [nar_q m2, Bd_eq, hs3]
    refine ⟨by rw [qN_vp (by omega)]; exact k9, ?_⟩
    rw [Bd_eq, qN_nat (by omega)]
    refine hk2 _ ⟨by show qN k + 1 = _; rw [qN_lit 1, qN_add], ?_, ((hs.wI _ (by unfold mT; omega)).wI _ (by unfold mT; omega)).wI _ (by unfold mT; omega)⟩
    show Ma (up2 (up2 (up2 (lpk (up2 (agB A i) 358 61 0) i k) 373 k (up2 (agB A i) 358 61 0 409 (96 * i + k) % 2)) 374 k (up2 (agB A i) 358 61 0 409 (96 * i + k) / 2 % 2)) 375 k (up2 (agB A i) 358 61 0 409 (96 * i + k) / 4)) _
    rw [e9]
    exact c1
  · have e : k = A 407 i := by omega
    subst e
    simp (disch := omega) only [bo_q0, bo_q1, qN_le, qN_lt, qN_eq, qN_vp, qN_nat, qN_neg1, qN_neg, qN_nn, qN_lit, qN_add, qN_sub, qN_mul, qN_div, Bd_eq, reduceIte, Nat.add_sub_cancel, dm_l, Nat.zero_le, Nat.not_lt_zero, Nat.reduceEqDiff, Nat.reduceLT, Nat.reduceLeDiff, Nat.reduceAdd, Nat.reduceSub, Nat.reduceMul, Nat.reduceDiv, Nat.reduceMod, reduceCtorEq, true_implies, false_implies, not_true_eq_false, not_false_eq_true, true_and, and_true, implies_true, and_false, false_and, forall_const, true_or, or_true, false_or, or_false, G12_again_L68, e12, Nat.le_refl]
    exact hy i hi3 rfl ok _ (h0.up hs hC (fun p hp => by unfold ag; rw [lpk_o _ _ (by omega), up2_o (by omega)]; unfold agB; rw [up2_o (by omega), up2_o (by omega)])) (f0.tr (FM_mT hs))

theorem c_row {A X : Nat → Nat → Nat} {W : List Int64} {μ : MM} {v1 : Int32} {Q : Int64 → MM → Prop} {Xx : MM → Prop} (hl : W.length ≤ 10) (h : Cs A X W μ) (hy : ∀ i, i < W.length → v1 = qN i → Q (W.getD i 0) μ) (hn : ¬ inr v1 W.length → Xx μ) : G11_row v1 μ Q Xx := by
  unfold G11_row G11_row_J15
  rw [h.2.2.1]
  refine ⟨fun q => hn ?_, fun q => ⟨fun q2 => ?_, fun q2 => hn ?_⟩⟩
  · rintro ⟨k, hk, rfl⟩
    rw [qN_neg (by omega)] at q
    exact q
  · obtain ⟨k, hk, rfl⟩ := qN_of q
    rw [qN_lt (by omega) (by omega)] at q2
    rw [qN_vp (by omega), qN_nat (by omega), h.2.2.2.1 k q2]
    exact ⟨by omega, hy k q2 rfl⟩
  · rintro ⟨k, hk, rfl⟩
    rw [qN_lt (by omega) (by omega)] at q2
    omega
theorem m_row {A X : Nat → Nat → Nat} {W : List Int64} {μ : MM} {v1 : Int32} {Q : Int64 → MM → Prop} (hl : W.length ≤ 10) (h : Ms A X W μ) (hy : ∀ i, i < W.length → v1 = qN i → ∀ μ', Ms A X W μ' → FM μ μ' → gI μ' 358 0 = 0 → Q (W.getD i 0) μ')
    (hn : ¬ inr v1 W.length → ∀ μ', Ms A X W μ' → FM μ μ' → gI μ' 358 0 = 1 → Q 0 μ') : G12_row v1 μ Q := by
  unfold G12_row
  rw [Bd_eq]
  have h0 := m_thr h 0
  have f0 := fm_thr μ 0
  have z0 : gI (sI μ 358 0 0) 358 0 = 0 := rfl
  revert h0 f0 z0
  generalize sI μ 358 0 0 = μ0
  intro h0 f0 z0
  rw [h0.2.2.1]
  unfold G12_in G12_in_J17
  have e0 : (0 : Int64) = (0 : Int32).toInt64 := rfl
  rw [lg_lt, lg_gt, e0, i6_lt, i6_lt]
  have h1 : (qN W.length - 1).toInt = (W.length : Int) - 1 := by
    have h2 : (1 : Int32).toInt = 1 := by decide
    rw [q_sub (by rw [qN_t (by omega), h2]; omega) (by rw [qN_t (by omega), h2]; omega), qN_t (by omega), h2]
  have no : ¬ inr v1 W.length → (¬ (0 : Int32) = 0 → vp_in v1 32 ∧ Q (gJ μ0 359 v1.toNatClampNeg) μ0) ∧ ((0 : Int32) = 0 → Bd (sI μ0 358 0 1) fun μ11 => Q 0 μ11) := fun q => ⟨fun r => absurd rfl r, fun _ => by
    rw [Bd_eq]
    exact hn q _ (m_thr h0 1) (f0.tr (fm_thr μ0 1)) rfl⟩
  refine ⟨fun q => no ?_, fun q => ⟨fun q2 => no ?_, fun q2 => ⟨fun _ => ?_, fun r => absurd r (by decide)⟩⟩⟩
  · rintro ⟨k, hk, rfl⟩
    rw [qN_neg (by omega)] at q
    exact q
  · rintro ⟨k, hk, rfl⟩
    rw [Int32.lt_iff_toInt_lt, h1, qN_t (by omega)] at q2
    omega
  · obtain ⟨k, hk, rfl⟩ := qN_of q
    rw [Int32.lt_iff_toInt_lt, h1, qN_t (by omega)] at q2
    rw [qN_vp (by omega), qN_nat (by omega), h0.2.2.2 k (by omega)]
    exact ⟨by omega, hy k (by omega) rfl _ h0 f0 z0⟩
theorem c_out {A X : Nat → Nat → Nat} {W : List Int64} {μ : MM} (h : Cs A X W μ) (v : Int64) : Cs A X W (sJ μ 410 0 v) := by
  obtain ⟨h1, h2, h3, h4, h5⟩ := h
  exact ⟨h1, h2, h3, fun i hi => by rw [gJ_J, if_neg (by omega)]; exact h4 i hi, h5⟩
theorem m_out {A X : Nat → Nat → Nat} {W : List Int64} {μ : MM} (h : Ms A X W μ) (v : Int64) : Ms A X W (sJ μ 410 0 v) := by
  obtain ⟨h1, h2, h3, h4⟩ := h
  exact ⟨h1, h2, h3, fun i hi => by rw [gJ_J, if_neg (by omega)]; exact h4 i hi⟩
