/-! choices; least multiples -/
def bin : Nat → Nat → Nat
  | 0, z => if z = 0 then 1 else 0
  | n + 1, z => bin n z + (if z ≠ 0 then bin n (z - 1) else 0)
def chl (n k : Nat) : Nat → Nat
  | 0 => 1
  | i + 1 => chl n k i * (n - k + (i + 1)) / (i + 1)
theorem chl_t : ∀ n, n < 17 → ∀ k, k < 17 → (k ≤ n → chl n k k = bin n k) ∧ (k ≤ n → ∀ i, i < 17 → i ≤ k → chl n k i ≤ 13000) := by decide
theorem chl_bin : ∀ n, n < 17 → ∀ k, k ≤ n → chl n k k = bin n k := by
  intro n hn k hk
  have := chl_t n hn k (by omega)
  exact this.1 hk
theorem chl_b : ∀ n, n < 17 → ∀ k, k ≤ n → ∀ i, i ≤ k → chl n k i ≤ 13000 := by
  intro n hn k hk i hi
  exact (chl_t n hn k (by omega)).2 hk i (by omega) hi
theorem RM_bin : ∀ n z, RM (fun _ => true) (fun _ => 0) 0 n z 0 = bin n z
  | 0, z => by
    show (if z = 0 ∧ 0 ≤ 0 then 1 else 0) = if z = 0 then 1 else 0
    by_cases q : z = 0
    · rw [if_pos ⟨q, Nat.le_refl 0⟩, if_pos q]
    · rw [if_neg (fun r => q r.1), if_neg q]
  | n + 1, z => by
    show RM (fun _ => true) (fun _ => 0) 0 n z 0 + (if true = true ∧ z ≠ 0 then RM (fun _ => true) (fun _ => 0) 0 n (z - 1) 0 else 0) = bin n z + (if z ≠ 0 then bin n (z - 1) else 0)
    rw [RM_bin n z, RM_bin n (z - 1)]
    by_cases q : z = 0
    · rw [if_neg (fun r => r.2 q), if_neg (fun r => r q)]
    · rw [if_pos ⟨rfl, q⟩, if_pos q]
theorem c_choices {n k : Nat} (hn : n < 17) (hk : k ≤ n) {μ : MM} {Q : Int64 → MM → Prop} (hQ : Q (qL (bin n k)) μ) : G11_choices (qN n) (qN k) μ Q := by
  refine ⟨fun q => ((qN_neg (by omega)).mp q).elim, fun _ => ⟨fun _ => ?_, fun q => absurd ((qN_le (by omega) (by omega)).mpr hk) q⟩⟩
  refine Lp.up k (fun i (x : Int64 × Int32 × MM) => x = (qL (chl n k i), qN (i + 1), μ)) ?_ rfl
  rintro i K hi hK _ rfl
  have c1 : qN k < qN (i + 1) ↔ k < i + 1 := qN_lt (by omega) (by omega)
  refine ⟨fun q => ?_, fun q => ?_⟩
  · have e : i = k := by have := c1.mp q; omega
    rw [e, chl_bin n hn k hk]
    exact hQ
  · have l : i < k := by
      rw [c1] at q; omega
    have hk2 := hK l _ rfl
    have b := chl_b n hn k hk i hi
    show ¬ (qN (i + 1)).toInt64 = 0 ∧ Bd ((qL (chl n k i) * ((qN n - qN k + qN (i + 1)).toInt64)) / (qN (i + 1)).toInt64) fun y7 => K (y7, qN (i + 1) + qN 1, μ)
    rw [qN_sub hk, qN_add, qN_add, qN_6 (by omega), qN_6 (by omega), qL_mul, qL_div (by
      have := Nat.mul_le_mul b (show n - k + (i + 1) ≤ 34 by omega)
      omega) (by omega), Bd_eq]
    refine ⟨fun r => ?_, hk2⟩
    rw [qL_0 (by omega)] at r
    omega
theorem m_choices {n k : Nat} (hn : n < 17) (hk : k ≤ n) {μ : MM} {Q : Int64 → MM → Prop} (hQ : Q (qL (bin n k)) μ) : G12_choices (qN n) (qN k) μ Q := by
  refine ⟨fun q => ((qN_neg (by omega)).mp q).elim, fun _ => ⟨fun _ => ?_, fun q => absurd ((qN_le (by omega) (by omega)).mpr hk) q⟩⟩
  refine Lp.up k (fun i (x : Int64 × Int32 × MM) => x = (qL (chl n k i), qN (i + 1), μ)) ?_ rfl
  rintro i K hi hK _ rfl
  have c1 : qN k < qN (i + 1) ↔ k < i + 1 := qN_lt (by omega) (by omega)
  refine ⟨fun q => ?_, fun q => ?_⟩
  · have e : i = k := by have := c1.mp q; omega
    rw [e, chl_bin n hn k hk]
    exact hQ
  · have l : i < k := by
      rw [c1] at q; omega
    have hk2 := hK l _ rfl
    have b := chl_b n hn k hk i hi
    show ¬ (qN (i + 1)).toInt64 = 0 ∧ Bd ((qL (chl n k i) * ((qN n - qN k + qN (i + 1)).toInt64)) / (qN (i + 1)).toInt64) fun y7 => K (y7, qN (i + 1) + qN 1, μ)
    rw [qN_sub hk, qN_add, qN_add, qN_6 (by omega), qN_6 (by omega), qL_mul, qL_div (by
      have := Nat.mul_le_mul b (show n - k + (i + 1) ≤ 34 by omega)
      omega) (by omega), Bd_eq]
    refine ⟨fun r => ?_, hk2⟩
    rw [qL_0 (by omega)] at r
    omega
/-- the least multiple as both reckon it -/
def lcq (a b : Nat) : Nat := a / Nat.gcd a b * b
theorem lcq_le (a b : Nat) : lcq a b ≤ a * b := Nat.mul_le_mul_right _ (Nat.div_le_self _ _)
theorem lcq_pos {a b : Nat} (ha : 0 < a) (hb : 0 < b) : 0 < lcq a b := Nat.mul_pos (Nat.div_pos (Nat.le_of_dvd ha (Nat.gcd_dvd_left a b)) (Nat.gcd_pos_of_pos_left b ha)) hb
theorem c_lcm {a b : Nat} (ha : 0 < a) (ha2 : a < 9223372036854775808) (hb2 : b < 9223372036854775808) {μ : MM} {Q : Int64 → MM → Prop} (hQ : Q (qL (lcq a b)) μ) : G11_leastMultiple (qL a) (qL b) μ Q := by
  unfold G11_leastMultiple
  rw [qL_J, qL_J]
  refine c_gcd ⟨by omega, by omega⟩ ⟨by omega, by omega⟩ ?_
  have e : Int.gcd (a : Int) (b : Int) = Nat.gcd a b := rfl
  have gp : 0 < Nat.gcd a b := Nat.gcd_pos_of_pos_left b ha
  have gl : Nat.gcd a b ≤ a := Nat.le_of_dvd ha (Nat.gcd_dvd_left a b)
  rw [e, lg_0, ← qL_J, ← qL_J, qL_0 (by omega), qL_div ha2 (by omega), qL_mul]
  exact ⟨fun q => ⟨q, hQ⟩, fun q => absurd q (by omega)⟩
theorem m_lcm {a b : Nat} (ha : 0 < a) (ha2 : a < 9223372036854775808) (hb2 : b < 9223372036854775808) {μ : MM} {Q : Int64 → MM → Prop} (hQ : ∀ g, qL a / g * qL b = qL (lcq a b) → ¬ g = 0 → Q g μ) : G12_common (qL a) (qL b) μ Q := by
  rw [qL_J a]
  refine m_gcd ⟨by omega, by omega⟩ hb2 ?_
  have e : Int.gcd (a : Int) (b : Int) = Nat.gcd a b := rfl
  have gp : 0 < Nat.gcd a b := Nat.gcd_pos_of_pos_left b ha
  have gl : Nat.gcd a b ≤ a := Nat.le_of_dvd ha (Nat.gcd_dvd_left a b)
  rw [e]
  refine hQ _ ?_ ?_
  · rw [qL_div ha2 (by omega), qL_mul]; rfl
  · rw [qL_0 (by omega)]; omega
theorem cube3 : ∀ a, a < 97 → a ^ 3 ≤ 3 ^ a := by decide
/-- of those that are met -/
def LC (met : Nat → Bool) (l : Nat → Nat) : Nat → Nat
  | 0 => 1
  | n + 1 => if met n then lcq (LC met l n) (l n) else LC met l n
theorem LC_pos {met : Nat → Bool} {l : Nat → Nat} : ∀ n, (∀ k, k < n → met k = true → 0 < l k) → 0 < LC met l n
  | 0, _ => Nat.one_pos
  | n + 1, h => by
    have ih := LC_pos n (fun k hk => h k (by omega))
    show 0 < if met n then lcq (LC met l n) (l n) else LC met l n
    cases q : met n
    · exact ih
    · exact lcq_pos ih (h n (by omega) q)
theorem LC_3 {met : Nat → Bool} {l : Nat → Nat} (hl : ∀ k, l k < 97) : ∀ n, LC met l n ^ 3 ≤ 3 ^ sm l n
  | 0 => Nat.le_refl _
  | n + 1 => by
    have ih := LC_3 (met := met) hl n
    show (if met n then lcq (LC met l n) (l n) else LC met l n) ^ 3 ≤ 3 ^ (sm l n + l n)
    cases q : met n
    · exact Nat.le_trans ih (Nat.pow_le_pow_right (by decide) (Nat.le_add_right _ _))
    · rw [if_pos rfl, Nat.pow_add]
      refine Nat.le_trans (Nat.pow_le_pow_left (lcq_le _ _) 3) ?_
      rw [Nat.mul_pow]
      exact Nat.mul_le_mul ih (cube3 _ (hl n))
theorem LC_b {met : Nat → Bool} {l : Nat → Nat} (hl : ∀ k, l k < 97) {n : Nat} (h : sm l n ≤ 96) : LC met l n ≤ 1853020188851841 := by
  have h3 := Nat.le_trans (LC_3 (met := met) hl n) (Nat.pow_le_pow_right (by decide) h)
  rcases Nat.lt_or_ge 1853020188851841 (LC met l n) with q | q
  · have := Nat.pow_lt_pow_left q (show 3 ≠ 0 by decide)
    have e : (1853020188851841 : Nat) ^ 3 = 3 ^ 96 := by decide
    omega
  · exact q
theorem sm_add (f g : Nat → Nat) : ∀ n, sm (fun k => f k + g k) n = sm f n + sm g n
  | 0 => rfl
  | n + 1 => by
    show sm (fun k => f k + g k) n + (f n + g n) = sm f n + f n + (sm g n + g n)
    rw [sm_add f g n]; omega
theorem sm_1 (P : Prop) [Decidable P] (a : Nat) : ∀ n, sm (fun k => if P ∧ a = k then 1 else 0) n ≤ 1 ∧ (n ≤ a → sm (fun k => if P ∧ a = k then 1 else 0) n = 0)
  | 0 => ⟨Nat.zero_le _, fun _ => rfl⟩
  | n + 1 => by
    obtain ⟨i1, i2⟩ := sm_1 P a n
    show sm (fun k => if P ∧ a = k then 1 else 0) n + (if P ∧ a = n then 1 else 0) ≤ 1 ∧ (n + 1 ≤ a → sm (fun k => if P ∧ a = k then 1 else 0) n + (if P ∧ a = n then 1 else 0) = 0)
    by_cases q : P ∧ a = n
    · rw [if_pos q]
      have := i2 (by omega)
      exact ⟨by omega, fun r => by omega⟩
    · rw [if_neg q]
      exact ⟨by omega, fun r => i2 (by omega)⟩
theorem nl_sm (A : Nat → Nat → Nat) (N : Nat) : ∀ n, sm (fun k => nl A k n) N ≤ n
  | 0 => by
    have : sm (fun k => nl A k 0) N = 0 := sm_0 N (fun _ _ => rfl)
    omega
  | n + 1 => by
    have ih := nl_sm A N n
    have e : sm (fun k => nl A k (n + 1)) N = sm (fun k => nl A k n) N + sm (fun k => if A 373 n = 1 ∧ A 368 n = k then 1 else 0) N := by
      rw [← sm_add]
      exact sm_congr (fun k _ => nl_s A k n)
    have := (sm_1 (A 373 n = 1) (A 368 n) N).1
    omega
