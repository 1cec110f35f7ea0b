/-! what a law or a filter says of a letter -/
def act (op : Nat) (a b : Int32) : Int32 := if op = 124 then (if a = 0 ∧ b = 0 then 0 else 1) else if op = 38 then (if a = 0 ∨ b = 0 then 0 else 1) else if op = 60 then (if a < b then 1 else 0) else
  if op = 62 then (if b < a then 1 else 0) else if op = 61 then (if a = b then 1 else 0) else if op = 43 then a + b else if op = 45 then a - b else a * b
def up1 (s : Nat → Int32) (j : Nat) (v : Int32) : Nat → Int32 := fun k => if k = j then v else s k
def rvs (th : Nat → Int32) (m h : Nat) (s : Nat → Int32) : Nat → Int32 := if m < 1000 then up1 s h (qN m) else if m < 2000 then up1 s h (th (m - 1000)) else if m = 2033 then up1 s (h - 1) (if s (h - 1) = 0 then 1 else 0) else
  if m = 2126 then up1 s (h - 1) (-s (h - 1)) else up1 s (h - 2) (act (m - 2000) (s (h - 2)) (s (h - 1)))
def rnv (th : Nat → Int32) (c : Nat → Nat) : Nat → Nat → Int32
  | 0 => fun _ => 0
  | k + 1 => rvs th (c k) (hg c k) (rnv th c k)
def evl (th : Nat → Int32) (c : Nat → Nat) (n : Nat) : Int32 := rnv th c n 0
theorem joined_s {op : Nat} (hop : op = 124 ∨ op = 38 ∨ op = 60 ∨ op = 62 ∨ op = 61 ∨ op = 43 ∨ op = 45 ∨ op = 42) {a b : Int32} {μ : MM} {Q : Int32 → MM → Prop} (h : Q (act op a b) μ) : G3_joined a (qN op) b μ Q := by
  rcases hop with rfl | rfl | rfl | rfl | rfl | rfl | rfl | rfl
  all_goals
    simp only [act, Nat.reduceEqDiff, reduceIte] at h
    simp (disch := omega) only [bo_q0, bo_q1, qN_le, qN_lt, qN_eq, qN_vp, qN_nat, qN_neg1, qN_neg, qN_nn, qN_lit, qN_add, qN_sub, qN_mul, qN_div, Bd_eq, reduceIte, Nat.add_sub_cancel, dm_l, Nat.zero_le, Nat.not_lt_zero, Nat.reduceEqDiff, Nat.reduceLT, Nat.reduceLeDiff, Nat.reduceAdd, Nat.reduceSub, Nat.reduceMul, Nat.reduceDiv, Nat.reduceMod, reduceCtorEq, true_implies, false_implies, not_true_eq_false, not_false_eq_true, true_and, and_true, implies_true, and_false, false_and, forall_const, true_or, or_true, false_or, or_false, G3_joined, G3_joined_J94]
    try exact h
  · by_cases ha : a = qN 0 <;> by_cases hb : b = qN 0
    all_goals
      have ha' := ha
      have hb' := hb
      simp only [← qN_lit 0] at ha' hb'
      simp [ha', hb'] at h
      refine ⟨fun q => ?_, fun q => ⟨fun q2 => ?_, fun q2 => ?_⟩⟩
      all_goals first | exact h | contradiction
  · by_cases ha : a = qN 0 <;> by_cases hb : b = qN 0
    all_goals
      have ha' := ha
      have hb' := hb
      simp only [← qN_lit 0] at ha' hb'
      simp [ha', hb'] at h
      refine ⟨fun q => ?_, fun q => ⟨fun q2 => ?_, fun q2 => ?_⟩⟩
      all_goals first | exact h | contradiction
  · by_cases ha : a < b
    · rw [if_pos ha] at h
      exact ⟨fun q => absurd ha (Int32.not_lt.mpr q), fun _ => h⟩
    · rw [if_neg ha] at h
      exact ⟨fun _ => h, fun q => absurd (Int32.not_le.mp q) ha⟩
  · by_cases ha : b < a
    · rw [if_pos ha] at h
      exact ⟨fun q => absurd ha (Int32.not_lt.mpr q), fun _ => h⟩
    · rw [if_neg ha] at h
      exact ⟨fun _ => h, fun q => absurd (Int32.not_le.mp q) ha⟩
  · by_cases ha : a = b
    · rw [if_pos ha] at h
      exact ⟨fun q => absurd ha q, fun _ => h⟩
    · rw [if_neg ha] at h
      exact ⟨fun _ => h, fun q => absurd q ha⟩
theorem acted_s {op : Nat} (hop : op = 124 ∨ op = 38 ∨ op = 60 ∨ op = 62 ∨ op = 61 ∨ op = 43 ∨ op = 45 ∨ op = 42) {a b : Int32} {μ : MM} {Q : Int32 → MM → Prop} (h : Q (act op a b) μ) : G12_acted (qN op) a b μ Q := by
  rcases hop with rfl | rfl | rfl | rfl | rfl | rfl | rfl | rfl
  all_goals
    simp only [act, Nat.reduceEqDiff, reduceIte] at h
    simp (disch := omega) only [bo_q0, bo_q1, qN_le, qN_lt, qN_eq, qN_vp, qN_nat, qN_neg1, qN_neg, qN_nn, qN_lit, qN_add, qN_sub, qN_mul, qN_div, Bd_eq, reduceIte, Nat.add_sub_cancel, dm_l, Nat.zero_le, Nat.not_lt_zero, Nat.reduceEqDiff, Nat.reduceLT, Nat.reduceLeDiff, Nat.reduceAdd, Nat.reduceSub, Nat.reduceMul, Nat.reduceDiv, Nat.reduceMod, reduceCtorEq, true_implies, false_implies, not_true_eq_false, not_false_eq_true, true_and, and_true, implies_true, and_false, false_and, forall_const, true_or, or_true, false_or, or_false, G12_acted, G12_acted_J182, G12_acted_J183, G12_acted_J138, G12_acted_J166, G12_acted_J152, G12_acted_J195, G12_acted_J200, flag_q]
    try exact h
  · by_cases ha : a = qN 0 <;> by_cases hb : b = qN 0
    all_goals
      have ha' := ha
      have hb' := hb
      simp only [← qN_lit 0] at ha' hb'
      simp [ha', hb'] at h
      refine ⟨fun q => ?_, fun q => ⟨fun q2 => ?_, fun q2 => ?_⟩⟩
      all_goals first | exact h | contradiction
  · by_cases ha : a = qN 0 <;> by_cases hb : b = qN 0
    all_goals
      have ha' := ha
      have hb' := hb
      simp only [← qN_lit 0] at ha' hb'
      simp [ha', hb'] at h
      refine ⟨fun q => ?_, fun q => ⟨fun q2 => ?_, fun q2 => ?_⟩⟩
      all_goals first | exact h | contradiction
  · by_cases ha : a < b
    · rw [if_pos ha] at h
      exact ⟨fun q => absurd ha (Int32.not_lt.mpr q), fun _ => h⟩
    · rw [if_neg ha] at h
      exact ⟨fun _ => h, fun q => absurd (Int32.not_le.mp q) ha⟩
  · by_cases ha : b < a
    · rw [if_pos ha] at h
      exact ⟨fun q => absurd ha (Int32.not_lt.mpr q), fun _ => h⟩
    · rw [if_neg ha] at h
      exact ⟨fun _ => h, fun q => absurd (Int32.not_le.mp q) ha⟩
  · by_cases ha : a = b
    · rw [if_pos ha] at h
      exact ⟨fun q => absurd ha q, fun _ => h⟩
    · rw [if_neg ha] at h
      exact ⟨fun _ => h, fun q => absurd q ha⟩
theorem push_s {t h : Nat} {v : Int32} {ν : MM} {Q : MM → Prop} (e : gI ν t 3 = qN h) (hh : h < 40) (k : Q (sI (sI ν (t + 2) h v) t 3 (qN (h + 1)))) : G3_push t v ν Q := by
  have t2 : ∀ t : Nat, (t = t + 2) = False := fun t => by simp
  simp (disch := omega) only [bo_q0, bo_q1, qN_le, qN_lt, qN_eq, qN_vp, qN_nat, qN_neg1, qN_neg, qN_nn, qN_lit, qN_add, qN_sub, qN_mul, qN_div, Bd_eq, reduceIte, Nat.add_sub_cancel, dm_l, Nat.zero_le, Nat.not_lt_zero, Nat.reduceEqDiff, Nat.reduceLT, Nat.reduceLeDiff, Nat.reduceAdd, Nat.reduceSub, Nat.reduceMul, Nat.reduceDiv, Nat.reduceMod, reduceCtorEq, true_implies, false_implies, not_true_eq_false, not_false_eq_true, true_and, and_true, implies_true, and_false, false_and, forall_const, true_or, or_true, false_or, or_false, G3_push, e, gI_I, gI_J, gI_R, gJ_I, gJ_J, gJ_R, gR_I, gR_J, gR_R, t2, Nat.not_le.mpr hh, hh]
  exact k
theorem pop_s {t h : Nat} {ν : MM} {Q : Int32 → MM → Prop} (e : gI ν t 3 = qN (h + 1)) (hh : h < 40) (k : Q (gI ν (t + 2) h) (sI ν t 3 (qN h))) : G3_pop t ν Q := by
  have t2 : ∀ t : Nat, (t + 2 = t) = False := fun t => by simp
  have t3 : ∀ t : Nat, (t + 1 = 0) = False := fun t => by simp
  simp (disch := omega) only [bo_q0, bo_q1, qN_le, qN_lt, qN_eq, qN_vp, qN_nat, qN_neg1, qN_neg, qN_nn, qN_lit, qN_add, qN_sub, qN_mul, qN_div, Bd_eq, reduceIte, Nat.add_sub_cancel, dm_l, Nat.zero_le, Nat.not_lt_zero, Nat.reduceEqDiff, Nat.reduceLT, Nat.reduceLeDiff, Nat.reduceAdd, Nat.reduceSub, Nat.reduceMul, Nat.reduceDiv, Nat.reduceMod, reduceCtorEq, true_implies, false_implies, not_true_eq_false, not_false_eq_true, true_and, and_true, implies_true, and_false, false_and, forall_const, true_or, or_true, false_or, or_false, G3_pop, e, gI_I, gI_J, gI_R, gJ_I, gJ_J, gJ_R, gR_I, gR_J, gR_R, t2, t3, hh]
  exact k
theorem neg_q {k : Nat} (h0 : 0 < k) (h : k < 2147483648) : (qN 0 ≤ -qN k) ↔ False := by
  rw [Int32.le_iff_toInt_le, Int32.toInt_neg, qN_t h]
  have h1 : (qN 0).toInt = 0 := by decide
  have h2 : (-(k : Int)).bmod (2 ^ 32) = -k := Int.bmod_eq_of_le (by omega) (by omega)
  rw [h1, h2]
  exact iff_false_intro (by omega)
theorem hgb {b : Bool} {c : Nat → Nat} {n : Nat} (hw : wfX b c n) : ∀ i, i ≤ n → hg c i ≤ 40 := by
  intro i
  induction i with
  | zero => intro _; simp [hg]
  | succ i ih =>
    intro hi
    have h1 := ih (by omega)
    have h2 := hw.1 i (by omega)
    show hgs (c i) (hg c i) ≤ 40
    unfold hgs
    unfold okm at h2
    split
    · omega
    · split <;> omega
def eS (t k j : Nat) : Prop := (k = t ∧ j = 3) ∨ k = t + 2
theorem c_result {t n : Nat} {b : Bool} {c : Nat → Nat} {th : Nat → Int32} {μ : MM} {Q : Int32 → MM → Prop} (ht : 12 < t) (hn : gI μ t 1 = qN n) (hn4 : n ≤ 40) (h0 : 0 < n) (hc : ∀ k, k < n → gI μ (t + 1) k = ecd (c k)) (hw : wfX b c n)
    (hth : ∀ j, j < 14 → gI μ 12 j = th j) (hQ : ∀ μ', Sm (eS t) μ μ' → Q (evl th c n) μ') : G3_result t 12 μ Q := by
  unfold G3_result
  rw [Bd_eq]
  have e14 : Int32.ofNat (ln 12) = qN 14 := rfl
  have l14 : ln 12 = 14 := rfl
  refine Lp.up n (fun i x => x.1 = qN i ∧ Sm (eS t) μ x.2 ∧ gI x.2 t 3 = qN (hg c i) ∧ ∀ j, j < hg c i → gI x.2 (t + 2) j = rnv th c i j) ?_ ⟨rfl, Sm.rfl'.wI _ (Or.inl ⟨rfl, rfl⟩), by simp only [gI_I, and_self, reduceIte]; rfl, fun j hj => absurd hj (by simp [hg])⟩
  rintro i K hi hK ⟨y, ν⟩ ⟨rfl, hs, htop, hst⟩
  simp only at hs htop hst
  have t2 : ∀ t : Nat, (t + 2 = t) = False := fun t => by simp
  have g1 : gI ν t 1 = qN n := (hs.1 t 1 (by unfold eS; omega)).1.trans hn
  rcases Nat.lt_or_ge i n with hl | hl
  · have g2 : gI ν (t + 1) i = ecd (c i) := (hs.1 (t + 1) i (by unfold eS; omega)).1.trans (hc i hl)
    have g3 : ∀ j, j < 14 → gI ν 12 j = th j := fun j hj => (hs.1 12 j (by unfold eS; omega)).1.trans (hth j hj)
    have hi4 : i < 40 := by omega
    simp (disch := omega) only [bo_q0, bo_q1, qN_le, qN_lt, qN_eq, qN_vp, qN_nat, qN_neg1, qN_neg, qN_nn, qN_lit, qN_add, qN_sub, qN_mul, qN_div, Bd_eq, reduceIte, Nat.add_sub_cancel, dm_l, Nat.zero_le, Nat.not_lt_zero, Nat.reduceEqDiff, Nat.reduceLT, Nat.reduceLeDiff, Nat.reduceAdd, Nat.reduceSub, Nat.reduceMul, Nat.reduceDiv, Nat.reduceMod, reduceCtorEq, true_implies, false_implies, not_true_eq_false, not_false_eq_true, true_and, and_true, implies_true, and_false, false_and, forall_const, true_or, or_true, false_or, or_false, G3_result_L7, g1, g2, e14, l14, hi4, Nat.not_le.mpr hl]
    have hk := hK hl
    have ho := hw.1 i hl
    have vl : ∀ (v : Int32) (h1 : hg c (i + 1) = hg c i + 1) (h2 : rnv th c (i + 1) = up1 (rnv th c i) (hg c i) v), hg c i < 40 → G3_push t v ν (fun μ21 => K (qN (i + 1), μ21)) := by
      intro v h1 h2 h3
      refine push_s htop h3 (hk _ ⟨rfl, (hs.wI _ (Or.inr rfl)).wI _ (Or.inl ⟨rfl, rfl⟩), ?_, fun j hj => ?_⟩)
      · simp only [gI_I, gI_J, gI_R, gJ_I, gJ_J, gJ_R, gR_I, gR_J, gR_R, h1, and_self, reduceIte]
      · simp only [gI_I, gI_J, gI_R, gJ_I, gJ_J, gJ_R, gR_I, gR_J, gR_R, t2, false_and, reduceIte, h2, up1, true_and]
        by_cases e : j = hg c i
        · rw [if_pos e, if_pos e]
        · rw [if_neg e, if_neg e]
          exact hst j (by omega)
    have ops : ∀ m, c i = m → 2000 ≤ m → m < 4000 → ecd (c i) = -(qN (m - 2000)) := fun m hm h1 h2 => by
      rw [hm]; unfold ecd; rw [if_neg (by omega)]
    have un : ∀ (m : Nat) (v : Int32), c i = m → (m = 2033 ∨ m = 2126) → 1 ≤ hg c i → rnv th c (i + 1) = up1 (rnv th c i) (hg c i - 1) v → ∀ ν', gI ν' t 3 = qN (hg c i - 1) → Sm (eS t) μ ν' → (∀ j, j < hg c i → gI ν' (t + 2) j = rnv th c i j) → G3_push t v ν' (fun μ21 => K (qN (i + 1), μ21)) := by
      intro m v hm hm2 h1 h2 ν' e1 e2 e3
      have h40 : hg c i - 1 < 40 := by
        have := hgb hw i hi
        omega
      have hh : hg c (i + 1) = hg c i := by show hgs (c i) (hg c i) = _; unfold hgs; rw [hm, if_neg (by omega), if_pos hm2]
      refine push_s e1 h40 (hk _ ⟨rfl, (e2.wI _ (Or.inr rfl)).wI _ (Or.inl ⟨rfl, rfl⟩), ?_, fun j hj => ?_⟩)
      · simp only [gI_I, gI_J, gI_R, gJ_I, gJ_J, gJ_R, gR_I, gR_J, gR_R, hh, and_self, reduceIte]
        congr 1
        omega
      · simp only [gI_I, gI_J, gI_R, gJ_I, gJ_J, gJ_R, gR_I, gR_J, gR_R, t2, false_and, reduceIte, h2, up1, true_and]
        by_cases e : j = hg c i - 1
        · rw [if_pos e, if_pos e]
        · rw [if_neg e, if_neg e]
          exact e3 j (by omega)
    have vls : ∀ m, c i = m → m < 2000 → hg c (i + 1) = hg c i + 1 := fun m hm h1 => by show hgs (c i) (hg c i) = _; unfold hgs; rw [if_pos (by omega)]
    have ecs : c i < 2000 → ecd (c i) = qN (c i) := fun h1 => by unfold ecd; rw [if_pos h1]
    have tt : 1000 ≤ c i → c i < 1014 → hg c i < 40 → (qN 0 ≤ ecd (c i) → (qN 1000 ≤ ecd (c i) → (qN 14 ≤ ecd (c i) - qN 1000 → K (qN (i + 1), ν)) ∧ (¬ qN 14 ≤ ecd (c i) - qN 1000 → vp_in (ecd (c i) - qN 1000) 14 ∧ G3_push t (gI ν 12 (ecd (c i) - qN 1000).toNatClampNeg) ν fun μ20 => K (qN (i + 1), μ20))) ∧
        (¬ qN 1000 ≤ ecd (c i) → G3_push t (ecd (c i)) ν fun μ21 => K (qN (i + 1), μ21))) ∧ (¬ qN 0 ≤ ecd (c i) → G3_operate t (-ecd (c i)) ν fun μ22 => K (qN (i + 1), μ22)) := by
      intro h1 h2 h3
      have hl9 : c i - 1000 < 14 := by omega
      rw [ecs (by omega)]
      simp (disch := omega) only [bo_q0, bo_q1, qN_le, qN_lt, qN_eq, qN_vp, qN_nat, qN_neg1, qN_neg, qN_nn, qN_lit, qN_add, qN_sub, qN_mul, qN_div, Bd_eq, reduceIte, Nat.add_sub_cancel, dm_l, Nat.zero_le, Nat.not_lt_zero, Nat.reduceEqDiff, Nat.reduceLT, Nat.reduceLeDiff, Nat.reduceAdd, Nat.reduceSub, Nat.reduceMul, Nat.reduceDiv, Nat.reduceMod, reduceCtorEq, true_implies, false_implies, not_true_eq_false, not_false_eq_true, true_and, and_true, implies_true, and_false, false_and, forall_const, true_or, or_true, false_or, or_false, h1, Nat.not_le.mpr hl9, hl9, g3]
      exact vl _ (vls _ rfl (by omega)) (by show rvs th (c i) (hg c i) (rnv th c i) = _; unfold rvs; rw [if_neg (by omega), if_pos (by omega)]) h3
    have bi : ∀ op, c i = 2000 + op → (op = 124 ∨ op = 38 ∨ op = 60 ∨ op = 62 ∨ op = 61 ∨ op = 43 ∨ op = 45 ∨ op = 42) → 2 ≤ hg c i → G3_operate t (qN op) ν (fun μ22 => K (qN (i + 1), μ22)) := by
      intro op hm hop h1
      have h40 := hgb hw i hi
      have h33 : ¬ op = 33 := by omega
      have h126 : ¬ op = 126 := by omega
      have hh : hg c (i + 1) = hg c i - 1 := by show hgs (c i) (hg c i) = _; unfold hgs; rw [hm, if_neg (by omega), if_neg (by omega)]
      have hr : rnv th c (i + 1) = up1 (rnv th c i) (hg c i - 2) (act op (rnv th c i (hg c i - 2)) (rnv th c i (hg c i - 1))) := by
        show rvs th (c i) (hg c i) (rnv th c i) = _
        unfold rvs
        rw [hm, if_neg (by omega), if_neg (by omega), if_neg (by omega), if_neg (by omega), Nat.add_sub_cancel_left]
      unfold G3_operate
      refine pop_s (h := hg c i - 1) (by rw [htop]; congr 1; omega) (by omega) ?_
      rw [hst _ (by omega)]
      simp (disch := omega) only [bo_q0, bo_q1, qN_le, qN_lt, qN_eq, qN_vp, qN_nat, qN_neg1, qN_neg, qN_nn, qN_lit, qN_add, qN_sub, qN_mul, qN_div, Bd_eq, reduceIte, Nat.add_sub_cancel, dm_l, Nat.zero_le, Nat.not_lt_zero, Nat.reduceEqDiff, Nat.reduceLT, Nat.reduceLeDiff, Nat.reduceAdd, Nat.reduceSub, Nat.reduceMul, Nat.reduceDiv, Nat.reduceMod, reduceCtorEq, true_implies, false_implies, not_true_eq_false, not_false_eq_true, true_and, and_true, implies_true, and_false, false_and, forall_const, true_or, or_true, false_or, or_false, h33, h126]
      refine pop_s (h := hg c i - 2) (by simp only [gI_I, gI_J, gI_R, gJ_I, gJ_J, gJ_R, gR_I, gR_J, gR_R, and_self, reduceIte]; congr 1; omega) (by omega) ?_
      simp only [gI_I, gI_J, gI_R, gJ_I, gJ_J, gJ_R, gR_I, gR_J, gR_R, t2, false_and, reduceIte]
      rw [hst _ (by omega)]
      refine joined_s hop ?_
      refine push_s (h := hg c i - 2) (by simp only [gI_I, gI_J, gI_R, gJ_I, gJ_J, gJ_R, gR_I, gR_J, gR_R, and_self, reduceIte]) (by omega) (hk _ ⟨rfl, (((hs.wI _ (Or.inl ⟨rfl, rfl⟩)).wI _ (Or.inl ⟨rfl, rfl⟩)).wI _ (Or.inr rfl)).wI _ (Or.inl ⟨rfl, rfl⟩), ?_, fun j hj => ?_⟩)
      · simp only [gI_I, gI_J, gI_R, gJ_I, gJ_J, gJ_R, gR_I, gR_J, gR_R, hh, and_self, reduceIte]
        congr 1
        omega
      · simp only [gI_I, gI_J, gI_R, gJ_I, gJ_J, gJ_R, gR_I, gR_J, gR_R, t2, false_and, reduceIte, hr, up1, true_and]
        by_cases e : j = hg c i - 2
        · rw [if_pos e, if_pos e]
        · rw [if_neg e, if_neg e]
          exact hst j (by omega)
    have bo2 : ∀ op, c i = 2000 + op → 0 < op → op < 1000 → G3_operate t (qN op) ν (fun μ22 => K (qN (i + 1), μ22)) → (qN 0 ≤ ecd (c i) → (qN 1000 ≤ ecd (c i) → (qN 14 ≤ ecd (c i) - qN 1000 → K (qN (i + 1), ν)) ∧ (¬ qN 14 ≤ ecd (c i) - qN 1000 → vp_in (ecd (c i) - qN 1000) 14 ∧ G3_push t (gI ν 12 (ecd (c i) - qN 1000).toNatClampNeg) ν fun μ20 => K (qN (i + 1), μ20))) ∧
        (¬ qN 1000 ≤ ecd (c i) → G3_push t (ecd (c i)) ν fun μ21 => K (qN (i + 1), μ21))) ∧ (¬ qN 0 ≤ ecd (c i) → G3_operate t (-ecd (c i)) ν fun μ22 => K (qN (i + 1), μ22)) := by
      intro op hm h1 h2 h3
      rw [ops _ rfl (by omega) (by omega), show c i - 2000 = op by omega, neg_q h1 (by omega), Int32.neg_neg]
      exact ⟨fun q => absurd q id, fun _ => h3⟩
    rcases ho with ⟨h1, h2⟩ | ⟨h1, h2, h3⟩ | ⟨-, h1, h2, h3⟩ | ⟨-, h1, h3⟩ | ⟨h1, h2⟩ | ⟨h1, h2⟩
    · rw [ecs (by omega)]
      simp (disch := omega) only [bo_q0, bo_q1, qN_le, qN_lt, qN_eq, qN_vp, qN_nat, qN_neg1, qN_neg, qN_nn, qN_lit, qN_add, qN_sub, qN_mul, qN_div, Bd_eq, reduceIte, Nat.add_sub_cancel, dm_l, Nat.zero_le, Nat.not_lt_zero, Nat.reduceEqDiff, Nat.reduceLT, Nat.reduceLeDiff, Nat.reduceAdd, Nat.reduceSub, Nat.reduceMul, Nat.reduceDiv, Nat.reduceMod, reduceCtorEq, true_implies, false_implies, not_true_eq_false, not_false_eq_true, true_and, and_true, implies_true, and_false, false_and, forall_const, true_or, or_true, false_or, or_false, Nat.not_le.mpr h1]
      exact vl _ (vls _ rfl (by omega)) (by show rvs th (c i) (hg c i) (rnv th c i) = _; unfold rvs; rw [if_pos h1]) h2
    · exact tt h1 (by omega) h3
    · exact tt (by omega) (by omega) h3
    · exact tt (by omega) (by omega) h3
    · rcases h1 with h1 | h1
      · refine bo2 33 (by omega) (by decide) (by decide) ?_
        unfold G3_operate
        refine pop_s (h := hg c i - 1) (by rw [htop]; congr 1; omega) (by have := hgb hw i hi; omega) ?_
        rw [hst _ (by omega)]
        simp (disch := omega) only [bo_q0, bo_q1, qN_le, qN_lt, qN_eq, qN_vp, qN_nat, qN_neg1, qN_neg, qN_nn, qN_lit, qN_add, qN_sub, qN_mul, qN_div, Bd_eq, reduceIte, Nat.add_sub_cancel, dm_l, Nat.zero_le, Nat.not_lt_zero, Nat.reduceEqDiff, Nat.reduceLT, Nat.reduceLeDiff, Nat.reduceAdd, Nat.reduceSub, Nat.reduceMul, Nat.reduceDiv, Nat.reduceMod, reduceCtorEq, true_implies, false_implies, not_true_eq_false, not_false_eq_true, true_and, and_true, implies_true, and_false, false_and, forall_const, true_or, or_true, false_or, or_false, G3_operate_J21]
        have hr : ∀ v, (if rnv th c i (hg c i - 1) = 0 then 1 else 0) = v → rnv th c (i + 1) = up1 (rnv th c i) (hg c i - 1) v := by
          intro v hv
          show rvs th (c i) (hg c i) (rnv th c i) = _
          unfold rvs
          rw [h1, if_neg (by omega), if_neg (by omega), if_pos rfl, hv]
        refine ⟨fun q => ?_, fun q => ?_⟩
        · exact un 2033 _ h1 (Or.inl rfl) h2 (hr _ (if_neg q)) _ (by simp only [gI_I, gI_J, gI_R, gJ_I, gJ_J, gJ_R, gR_I, gR_J, gR_R, and_self, reduceIte]) (hs.wI _ (Or.inl ⟨rfl, rfl⟩)) (fun j hj => by simp only [gI_I, gI_J, gI_R, gJ_I, gJ_J, gJ_R, gR_I, gR_J, gR_R, t2, false_and, reduceIte]; exact hst j hj)
        · exact un 2033 _ h1 (Or.inl rfl) h2 (hr _ (if_pos q)) _ (by simp only [gI_I, gI_J, gI_R, gJ_I, gJ_J, gJ_R, gR_I, gR_J, gR_R, and_self, reduceIte]) (hs.wI _ (Or.inl ⟨rfl, rfl⟩)) (fun j hj => by simp only [gI_I, gI_J, gI_R, gJ_I, gJ_J, gJ_R, gR_I, gR_J, gR_R, t2, false_and, reduceIte]; exact hst j hj)
      · refine bo2 126 (by omega) (by decide) (by decide) ?_
        unfold G3_operate
        refine pop_s (h := hg c i - 1) (by rw [htop]; congr 1; omega) (by have := hgb hw i hi; omega) ?_
        rw [hst _ (by omega)]
        simp (disch := omega) only [bo_q0, bo_q1, qN_le, qN_lt, qN_eq, qN_vp, qN_nat, qN_neg1, qN_neg, qN_nn, qN_lit, qN_add, qN_sub, qN_mul, qN_div, Bd_eq, reduceIte, Nat.add_sub_cancel, dm_l, Nat.zero_le, Nat.not_lt_zero, Nat.reduceEqDiff, Nat.reduceLT, Nat.reduceLeDiff, Nat.reduceAdd, Nat.reduceSub, Nat.reduceMul, Nat.reduceDiv, Nat.reduceMod, reduceCtorEq, true_implies, false_implies, not_true_eq_false, not_false_eq_true, true_and, and_true, implies_true, and_false, false_and, forall_const, true_or, or_true, false_or, or_false, ]
        exact un 2126 _ h1 (Or.inr rfl) h2 (by show rvs th (c i) (hg c i) (rnv th c i) = _; unfold rvs; rw [h1, if_neg (by omega), if_neg (by omega), if_neg (by omega), if_pos rfl]) _ (by simp only [gI_I, gI_J, gI_R, gJ_I, gJ_J, gJ_R, gR_I, gR_J, gR_R, and_self, reduceIte]) (hs.wI _ (Or.inl ⟨rfl, rfl⟩)) (fun j hj => by simp only [gI_I, gI_J, gI_R, gJ_I, gJ_J, gJ_R, gR_I, gR_J, gR_R, t2, false_and, reduceIte]; exact hst j hj)
    · refine bo2 (c i - 2000) (by omega) (by omega) (by omega) (bi _ (by omega) (by omega) h2)
  · have e : i = n := by omega
    subst e
    have h1 := hw.2 h0
    simp (disch := omega) only [bo_q0, bo_q1, qN_le, qN_lt, qN_eq, qN_vp, qN_nat, qN_neg1, qN_neg, qN_nn, qN_lit, qN_add, qN_sub, qN_mul, qN_div, Bd_eq, reduceIte, Nat.add_sub_cancel, dm_l, Nat.zero_le, Nat.not_lt_zero, Nat.reduceEqDiff, Nat.reduceLT, Nat.reduceLeDiff, Nat.reduceAdd, Nat.reduceSub, Nat.reduceMul, Nat.reduceDiv, Nat.reduceMod, reduceCtorEq, true_implies, false_implies, not_true_eq_false, not_false_eq_true, true_and, and_true, implies_true, and_false, false_and, forall_const, true_or, or_true, false_or, or_false, G3_result_L7, g1, Nat.le_refl]
    refine pop_s (h := 0) (by rw [htop, h1]) (by decide) ?_
    rw [hst 0 (by omega)]
    exact hQ _ (hs.wI _ (Or.inl ⟨rfl, rfl⟩))
