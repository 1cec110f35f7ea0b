/-! odds: the ways -/
theorem bin_0 : ∀ n, n < 5 → ∀ z, n < z → bin n z = 0
  | 0, _, z, h => by show (if z = 0 then 1 else 0) = 0; rw [if_neg (by omega)]
  | n + 1, hn, z, h => by
    show bin n z + (if z ≠ 0 then bin n (z - 1) else 0) = 0
    rw [bin_0 n (by omega) z (by omega), bin_0 n (by omega) (z - 1) (by omega)]
    split <;> rfl
/-- choices with what may be too small or too large -/
def cz (n k j : Nat) : Nat := if j ≤ k then bin n (k - j) else 0
def owc (a r o j : Nat) : Nat := bin r j * cz (a - r) o j
def ow5 (a r o : Nat) : Nat := owc a r o 0 + owc a r o 1 + owc a r o 2 + owc a r o 3 + owc a r o 4
def owB (a r o : Nat) : Bool := decide (a < r) || decide (a < o) || (decide (ow5 a r o ≤ 6) && decide (0 < ow5 a r o))
theorem owB_t : ∀ a, a < 5 → ∀ r, r < 5 → ∀ o, o < 5 → owB a r o = true := by decide
theorem owc_t : ∀ a, a < 5 → ∀ r, r < 5 → ∀ o, o < 5 → r ≤ a → o ≤ a → ow5 a r o ≤ 6 ∧ 0 < ow5 a r o := by
  intro a ha r hr o ho h1 h2
  have := owB_t a ha r hr o ho
  unfold owB at this
  simp only [Bool.or_eq_true, Bool.and_eq_true, decide_eq_true_eq] at this
  omega
/-- one house joined -/
def wyj (g : Nat → Nat) (a r o k : Nat) (n : Nat) : Nat := sm (fun j => if j ≤ k then g (k - j) * owc a r o j else 0) n
/-- what a house has: all, rung, of PEOPLE 1 -/
def oa (A X : Nat → Nat → Nat) (v : Int32) (h : Nat) : Nat := tc A (gSel A X v (qN h)) 0 (A 358 12) + tc A (gSel A X v (qN h)) 1 (A 358 12)
def og (A X : Nat → Nat → Nat) (v : Int32) (h : Nat) : Nat := tr A (gSel A X v (qN h)) 0 (A 358 12) + tr A (gSel A X v (qN h)) 1 (A 358 12)
def oo (A X : Nat → Nat → Nat) (v : Int32) (h : Nat) : Nat := tc A (gSel A X v (qN h)) 1 (A 358 12)
def wy (A X : Nat → Nat → Nat) (v : Int32) : Nat → Nat → Nat
  | 0, k => if k = 0 then 1 else 0
  | h + 1, k => wyj (wy A X v h) (oa A X v h) (og A X v h) (oo A X v h) k 5
theorem tc_two (A : Nat → Nat → Nat) (S : Nat → Bool) : ∀ n, tc A S 0 n + tc A S 1 n ≤ cnt S n
  | 0 => Nat.le_refl _
  | n + 1 => by
    have ih := tc_two A S n
    rw [tc_s, tc_s]
    show _ ≤ cnt S n + (S n).toNat
    by_cases q : S n = true
    · rw [q]
      by_cases z : zp A n = 0
      · rw [if_pos ⟨rfl, z⟩, if_neg (fun r => by omega)]; show _ ≤ _ + 1; omega
      · rw [if_neg (fun r => z r.2)]
        show _ ≤ _ + 1
        split <;> omega
    · rw [if_neg (fun r => q r.1), if_neg (fun r => q r.1)]; omega
theorem oa_b {A X : Nat → Nat → Nat} (hV : Inv A X) (v : Int32) {h : Nat} (hh : h < 24) : oa A X v h < 5 := by
  have hn : A 358 12 < 97 := hV.b 358 12 (by unfold dom; decide)
  have h4 : cnt (fun i => decide (A 367 i = h)) (A 358 12) ≤ 4 := hV.2.2.2.2.2.2.2.2 h
  have h1 := tc_two A (gSel A X v (qN h)) (A 358 12)
  have h2 : cnt (gSel A X v (qN h)) (A 358 12) ≤ cnt (fun i => decide (qN (A 367 i) = qN h)) (A 358 12) := cnt_mono (fun i q => by
    unfold gSel at q
    have q0 : (qN h = -1) = False := by rw [qN_neg1 (by omega)]
    simp only [Bool.and_eq_true, Bool.or_eq_true, q0, decide_false, Bool.false_eq_true, false_or] at q
    exact q.1.2) _
  rw [cnt_q hV.b (by omega) (by omega)] at h2
  unfold oa
  omega
theorem og_b (A X : Nat → Nat → Nat) (v : Int32) (h : Nat) : og A X v h ≤ oa A X v h := Nat.add_le_add (tr_le _ _ _ _) (tr_le _ _ _ _)
theorem oo_b (A X : Nat → Nat → Nat) (v : Int32) (h : Nat) : oo A X v h ≤ oa A X v h := Nat.le_add_left _ _
theorem owc_s {a r o : Nat} (ha : a < 5) (hr : r ≤ a) (ho : o ≤ a) : sm (owc a r o) 5 ≤ 6 := by
  have := (owc_t a ha r (by omega) o (by omega) hr ho).1
  unfold ow5 at this
  show 0 + owc a r o 0 + owc a r o 1 + owc a r o 2 + owc a r o 3 + owc a r o 4 ≤ 6
  omega
theorem sm_sh (f : Nat → Nat) (j : Nat) : ∀ n, sm (fun k => if j ≤ k then f (k - j) else 0) n = sm f (n - j)
  | 0 => by rw [Nat.zero_sub]; rfl
  | n + 1 => by
    show sm (fun k => if j ≤ k then f (k - j) else 0) n + (if j ≤ n then f (n - j) else 0) = _
    rw [sm_sh f j n]
    by_cases q : j ≤ n
    · rw [if_pos q, show n + 1 - j = (n - j) + 1 by omega]; rfl
    · rw [if_neg q, show n + 1 - j = 0 by omega, show n - j = 0 by omega]; rfl
theorem sm_up (f : Nat → Nat) {a b : Nat} (h : a ≤ b) : sm f a ≤ sm f b := by
  induction b with
  | zero => rw [show a = 0 by omega]; exact Nat.le_refl _
  | succ b ih =>
    rcases Nat.lt_or_ge a (b + 1) with q | q
    · exact Nat.le_trans (ih (by omega)) (Nat.le_add_right _ _)
    · rw [show a = b + 1 by omega]; exact Nat.le_refl _
theorem sm_mul (f : Nat → Nat) (c : Nat) : ∀ n, sm (fun k => f k * c) n = sm f n * c
  | 0 => (Nat.zero_mul c).symm
  | n + 1 => by
    show sm (fun k => f k * c) n + f n * c = (sm f n + f n) * c
    rw [sm_mul f c n, Nat.add_mul]
theorem sm_sw (f : Nat → Nat → Nat) (m : Nat) : ∀ n, sm (fun k => sm (fun j => f k j) m) n = sm (fun j => sm (fun k => f k j) n) m
  | 0 => (sm_0 m (fun _ _ => rfl)).symm
  | n + 1 => by
    show sm (fun k => sm (fun j => f k j) m) n + sm (fun j => f n j) m = sm (fun j => sm (fun k => f k j) n + f n j) m
    rw [sm_sw f m n, sm_add]
theorem wyj_sm (g : Nat → Nat) {a r o : Nat} (ha : a < 5) (hr : r ≤ a) (ho : o ≤ a) (N : Nat) : sm (fun k => wyj g a r o k 5) N ≤ sm g N * 6 := by
  unfold wyj
  rw [sm_sw (fun k j => if j ≤ k then g (k - j) * owc a r o j else 0) 5 N]
  have e : ∀ j, sm (fun k => if j ≤ k then g (k - j) * owc a r o j else 0) N ≤ owc a r o j * sm g N := fun j => by
    have : sm (fun k => if j ≤ k then g (k - j) * owc a r o j else 0) N = sm (fun k => (if j ≤ k then g (k - j) else 0) * owc a r o j) N := sm_congr (fun k _ => by
      by_cases q : j ≤ k
      · simp only [if_pos q]
      · simp only [if_neg q, Nat.zero_mul])
    rw [this, sm_mul, sm_sh, Nat.mul_comm]
    exact Nat.mul_le_mul_left _ (sm_up g (by omega))
  refine Nat.le_trans (sm_mn e 5) ?_
  rw [sm_mul, Nat.mul_comm]
  exact Nat.mul_le_mul_left _ (owc_s ha hr ho)
theorem wy_sm {A X : Nat → Nat → Nat} (hV : Inv A X) (v : Int32) (N : Nat) : ∀ h, h ≤ 24 → sm (wy A X v h) N ≤ 6 ^ h
  | 0, _ => by
    have := (sm_1 True 0 N).1
    have e : sm (wy A X v 0) N = sm (fun k => if True ∧ 0 = k then 1 else 0) N := sm_congr (fun k _ => by
      show (if k = 0 then 1 else 0) = _
      by_cases q : k = 0
      · rw [if_pos q, if_pos ⟨trivial, q.symm⟩]
      · rw [if_neg q, if_neg (fun r => q r.2.symm)])
    rw [e]
    exact this
  | h + 1, hh => by
    have ih := wy_sm hV v N h (by omega)
    refine Nat.le_trans (wyj_sm (wy A X v h) (oa_b hV v (by omega)) (og_b A X v h) (oo_b A X v h) N) ?_
    rw [Nat.pow_succ]
    exact Nat.mul_le_mul_right _ ih
theorem wy_far (A X : Nat → Nat → Nat) (v : Int32) : ∀ h k, 4 * h < k → wy A X v h k = 0
  | 0, k, q => by show (if k = 0 then 1 else 0) = 0; rw [if_neg (by omega)]
  | h + 1, k, q => sm_0 5 (fun j hj => by
    by_cases r : j ≤ k
    · rw [if_pos r, wy_far A X v h (k - j) (by omega), Nat.zero_mul]
    · rw [if_neg r])
theorem wy_pos {A X : Nat → Nat → Nat} (hV : Inv A X) (v : Int32) : ∀ h, h ≤ 24 → ∃ k, k ≤ 4 * h ∧ 0 < wy A X v h k
  | 0, _ => ⟨0, Nat.le_refl _, by show 0 < (if (0 : Nat) = 0 then 1 else 0); decide⟩
  | h + 1, hh => by
    obtain ⟨k, h1, h2⟩ := wy_pos hV v h (by omega)
    have a4 := oa_b hV v (h := h) (by omega)
    have r4 := og_b A X v h
    have o4 := oo_b A X v h
    obtain ⟨j, h3, h4⟩ : ∃ j, j < 5 ∧ 0 < owc (oa A X v h) (og A X v h) (oo A X v h) j := by
      have q5 := (owc_t _ a4 _ (by omega) _ (by omega) r4 o4).2
      unfold ow5 at q5
      have q6 : 0 < owc (oa A X v h) (og A X v h) (oo A X v h) 0 ∨ 0 < owc (oa A X v h) (og A X v h) (oo A X v h) 1 ∨ 0 < owc (oa A X v h) (og A X v h) (oo A X v h) 2 ∨ 0 < owc (oa A X v h) (og A X v h) (oo A X v h) 3 ∨ 0 < owc (oa A X v h) (og A X v h) (oo A X v h) 4 := by omega
      rcases q6 with q | q | q | q | q
      · exact ⟨0, by decide, q⟩
      · exact ⟨1, by decide, q⟩
      · exact ⟨2, by decide, q⟩
      · exact ⟨3, by decide, q⟩
      · exact ⟨4, by decide, q⟩
    refine ⟨k + j, by omega, ?_⟩
    have := sm_ge (f := fun j' => if j' ≤ k + j then wy A X v h (k + j - j') * owc (oa A X v h) (og A X v h) (oo A X v h) j' else 0) h3
    simp only [if_pos (Nat.le_add_left j k), Nat.add_sub_cancel] at this
    exact Nat.lt_of_lt_of_le (Nat.mul_pos h2 h4) this
theorem wy_skip (A X : Nat → Nat → Nat) (v : Int32) {h : Nat} (e : oa A X v h = 0) (k : Nat) : wy A X v (h + 1) k = wy A X v h k := by
  have r := og_b A X v h
  have o := oo_b A X v h
  show wyj (wy A X v h) (oa A X v h) (og A X v h) (oo A X v h) k 5 = _
  rw [e, show og A X v h = 0 by omega, show oo A X v h = 0 by omega]
  have z : ∀ j, owc 0 0 0 j = if j = 0 then 1 else 0 := fun j => by
    unfold owc cz
    by_cases q : j = 0
    · subst q; rfl
    · rw [bin_0 0 (by decide) j (by omega), Nat.zero_mul, if_neg q]
  unfold wyj
  have : sm (fun j => if j ≤ k then wy A X v h (k - j) * owc 0 0 0 j else 0) 5 = sm (fun j => if j = 0 then wy A X v h k else 0) 5 := sm_congr (fun j _ => by
    rw [z]
    by_cases q : j = 0
    · subst q; simp
    · rw [if_neg q, if_neg q, Nat.mul_zero]; split <;> rfl)
  rw [this]
  show 0 + wy A X v h k + 0 + 0 + 0 + 0 = _
  omega
/-- the rung letters of PEOPLE 1, house by house -/
theorem its_sum {A X : Nat → Nat → Nat} (hV : Inv A X) (v : Int32) {H : Nat} (hH : H ≤ 24) : ∀ n, n ≤ 96 → (∀ i, i < n → A 367 i < H) → sm (fun h => tr A (gSel A X v (qN h)) 1 n) H = tr A (gSel A X v (-1)) 1 n
  | 0, _, _ => sm_0 H (fun _ _ => rfl)
  | n + 1, hn, hb => by
    have ih := its_sum hV v hH n (by omega) (fun i hi => hb i (by omega))
    have b4 : A 374 n < 2 := hV.b 374 n (by unfold dom; omega)
    have bn := hb n (by omega)
    rw [tr_s A _ 1 n b4, ← ih]
    have e : sm (fun h => tr A (gSel A X v (qN h)) 1 (n + 1)) H = sm (fun h => tr A (gSel A X v (qN h)) 1 n + (if gSel A X v (qN h) n = true ∧ zp A n = 1 then A 374 n else 0)) H := sm_congr (fun h _ => tr_s A _ 1 n b4)
    rw [e, sm_add]
    congr 1
    have e2 : sm (fun h => if gSel A X v (qN h) n = true ∧ zp A n = 1 then A 374 n else 0) H = sm (fun h => if h = A 367 n then (if gSel A X v (-1) n = true ∧ zp A n = 1 then A 374 n else 0) else 0) H := sm_congr (fun h hh => by
      have q0 : (qN h = -1) = False := by rw [qN_neg1 (by omega)]
      unfold gSel
      by_cases q : h = A 367 n
      · subst q
        rw [if_pos rfl]
        simp [q0]
      · rw [if_neg q]
        have q1 : (qN (A 367 n) = qN h) = False := by rw [qN_eq (by omega) (by omega)]; exact eq_false (fun r => q r.symm)
        simp [q0, q1])
    rw [e2]
    have := sm_upd (fun h => if h = A 367 n then (if gSel A X v (-1) n = true ∧ zp A n = 1 then A 374 n else 0) else 0) (A 367 n) H
    rw [if_pos bn, if_pos rfl] at this
    rw [← this]
    have z : sm (fun h => if h = A 367 n then 0 else (if h = A 367 n then (if gSel A X v (-1) n = true ∧ zp A n = 1 then A 374 n else 0) else 0)) H = 0 := sm_0 H (fun h _ => by
      by_cases q : h = A 367 n
      · rw [if_pos q]
      · rw [if_neg q, if_neg q])
    rw [z, Nat.zero_add]
