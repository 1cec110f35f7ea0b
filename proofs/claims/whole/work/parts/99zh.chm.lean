/-! chances: what they come to -/
theorem bin_gt : ∀ n z, n < z → bin n z = 0
  | 0, z, h => by show (if z = 0 then 1 else 0) = 0; rw [if_neg (by omega)]
  | n + 1, z, h => by
    show bin n z + (if z ≠ 0 then bin n (z - 1) else 0) = 0
    rw [bin_gt n z (by omega), bin_gt n (z - 1) (by omega)]
    split <;> rfl
def Zw (n a i : Nat) : Nat := bin n i * (a ^ i * (100 - a) ^ (n - i))
theorem Zw_0 {n a i : Nat} (h : n < i) : Zw n a i = 0 := by unfold Zw; rw [bin_gt n i h, Nat.zero_mul]
theorem Zw_s (n a i : Nat) : Zw (n + 1) a i = Zw n a i * (100 - a) + (if 1 ≤ i then Zw n a (i - 1) else 0) * a := by
  have e1 : bin n i * (a ^ i * (100 - a) ^ (n + 1 - i)) = Zw n a i * (100 - a) := by
    rcases Nat.lt_or_ge n i with q | q
    · rw [Zw_0 q, bin_gt n i q, Nat.zero_mul, Nat.zero_mul]
    · unfold Zw
      rw [show n + 1 - i = (n - i) + 1 by omega, Nat.pow_succ]
      ac_rfl
  have e2 : (if i ≠ 0 then bin n (i - 1) else 0) * (a ^ i * (100 - a) ^ (n + 1 - i)) = (if 1 ≤ i then Zw n a (i - 1) else 0) * a := by
    by_cases q : i = 0
    · subst q
      rw [if_neg (fun r => r rfl), if_neg (by decide), Nat.zero_mul, Nat.zero_mul]
    · rw [if_pos q, if_pos (by omega)]
      unfold Zw
      rw [show n + 1 - i = n - (i - 1) by omega]
      have : a ^ i = a ^ (i - 1) * a := by rw [← Nat.pow_succ]; congr 1; omega
      rw [this]
      ac_rfl
  show (bin n i + (if i ≠ 0 then bin n (i - 1) else 0)) * (a ^ i * (100 - a) ^ (n + 1 - i)) = _
  rw [Nat.add_mul, e1, e2]
theorem Zw_sum {a : Nat} (ha : a ≤ 100) : ∀ n, sm (Zw n a) (n + 1) = 100 ^ n
  | 0 => by show 0 + Zw 0 a 0 = 1; unfold Zw; rw [Nat.pow_zero, Nat.pow_zero]; rfl
  | n + 1 => by
    have ih := Zw_sum ha n
    have e : sm (Zw (n + 1) a) (n + 1 + 1) = sm (fun i => Zw n a i * (100 - a) + (if 1 ≤ i then Zw n a (i - 1) else 0) * a) (n + 1 + 1) := sm_congr (fun i _ => Zw_s n a i)
    rw [e, sm_add, sm_mul, sm_mul, sm_sh, show n + 1 + 1 - 1 = n + 1 by omega]
    have z : sm (Zw n a) (n + 1 + 1) = sm (Zw n a) (n + 1) := by
      show sm (Zw n a) (n + 1) + Zw n a (n + 1) = _
      rw [Zw_0 (by omega), Nat.add_zero]
    rw [z, ih, ← Nat.mul_add, Nat.sub_add_cancel ha, Nat.pow_succ]
theorem Zw_le {a : Nat} (ha : a ≤ 100) (n i : Nat) : Zw n a i ≤ 100 ^ n := by
  rcases Nat.lt_or_ge n i with q | q
  · rw [Zw_0 q]; exact Nat.zero_le _
  · rw [← Zw_sum ha n]
    exact sm_ge (f := Zw n a) (by omega)
def pw (a r k : Nat) : Nat := a ^ (min k r) * (100 - a) ^ (k - r)
theorem pw_0 (a r : Nat) : pw a r 0 = 1 := by unfold pw; rw [Nat.zero_min, Nat.zero_sub]; rfl
theorem pw_s1 {a r k : Nat} (h : k < r) : pw a r (k + 1) = pw a r k * a := by
  unfold pw
  rw [show min (k + 1) r = min k r + 1 by omega, show k + 1 - r = k - r by omega, Nat.pow_succ]
  ac_rfl
theorem pw_s2 {a r k : Nat} (h : r ≤ k) : pw a r (k + 1) = pw a r k * (100 - a) := by
  unfold pw
  rw [show min (k + 1) r = min k r by omega, show k + 1 - r = k - r + 1 by omega, Nat.pow_succ]
  ac_rfl
theorem pw_n {a r n : Nat} (h : r ≤ n) : pw a r n = a ^ r * (100 - a) ^ (n - r) := by
  unfold pw
  rw [show min n r = r by omega]
theorem pw_b {a : Nat} (ha : a ≤ 100) (r k : Nat) : pw a r k ≤ 100 ^ k := by
  refine Nat.le_trans (Nat.mul_le_mul (Nat.pow_le_pow_left ha _) (Nat.pow_le_pow_left (show 100 - a ≤ 100 by omega) _)) ?_
  rw [← Nat.pow_add, show min k r + (k - r) = k by omega]
  exact Nat.le_refl _
def Uc (n b r : Nat) : Nat := sm (Zw n b) (r + 1)
def Ct (n a b m i : Nat) : Nat := if m ≤ i then Zw n a i * Uc n b (i - m) else 0
def Dt (n a b m i : Nat) : Nat := if m ≤ i then Zw n a i * Zw n b (i - m) else 0
def Cc (n a b m : Nat) : Nat := sm (Ct n a b m) (n + 1)
def Dc (n a b m : Nat) : Nat := sm (Dt n a b m) (n + 1)
def Ec (n a b m : Nat) : Nat := sm (fun d => if m ≤ d then Dc n a b d else 0) 17
theorem sm_rev (f : Nat → Nat) {m i : Nat} : ∀ N, m ≤ N → N ≤ i + 1 → sm (fun d => if m ≤ d ∧ d ≤ i then f (i - d) else 0) N + sm f (i + 1 - N) = sm f (i + 1 - m)
  | 0, h1, _ => by rw [show m = 0 by omega]; show 0 + _ = _; omega
  | N + 1, h1, h2 => by
    rcases Nat.lt_or_ge m (N + 1) with q | q
    · have ih := sm_rev f (m := m) (i := i) N (by omega) (by omega)
      show sm (fun d => if m ≤ d ∧ d ≤ i then f (i - d) else 0) N + (if m ≤ N ∧ N ≤ i then f (i - N) else 0) + _ = _
      rw [if_pos ⟨by omega, by omega⟩, ← ih, show i + 1 - N = (i + 1 - (N + 1)) + 1 by omega]
      show _ = _ + (sm f (i + 1 - (N + 1)) + f (i + 1 - (N + 1)))
      rw [show i - N = i + 1 - (N + 1) by omega]
      omega
    · rw [show m = N + 1 by omega, sm_0 (N + 1) (fun d hd => if_neg (fun r => by omega)), Nat.zero_add]
theorem sm_rev17 (f : Nat → Nat) {m i : Nat} (hi : i < 17) : sm (fun d => if m ≤ d ∧ d ≤ i then f (i - d) else 0) 17 = if m ≤ i then sm f (i - m + 1) else 0 := by
  by_cases q : m ≤ i
  · have h := sm_rev f (m := m) (i := i) (i + 1) (by omega) (Nat.le_refl _)
    rw [if_pos q, sm_tail (a := i + 1) 17 (by omega) (fun j h1 _ => if_neg (fun r => by omega))]
    rw [show i + 1 - (i + 1) = 0 by omega] at h
    rw [show i - m + 1 = i + 1 - m by omega, ← h]
    rfl
  · rw [if_neg q]
    exact sm_0 17 (fun d _ => if_neg (fun r => by omega))
theorem Ec_Cc {n : Nat} (hn : n ≤ 16) (a b m : Nat) : Ec n a b m = Cc n a b m := by
  have e1 : Ec n a b m = sm (fun d => sm (fun i => if m ≤ d ∧ d ≤ i then Zw n b (i - d) * Zw n a i else 0) (n + 1)) 17 := sm_congr (fun d _ => by
    by_cases q : m ≤ d
    · rw [if_pos q]
      refine sm_congr (fun i _ => ?_)
      unfold Dt
      by_cases q2 : d ≤ i
      · rw [if_pos q2, if_pos ⟨q, q2⟩, Nat.mul_comm]
      · rw [if_neg q2, if_neg (fun r => q2 r.2)]
    · rw [if_neg q]
      exact (sm_0 (n + 1) (fun i _ => if_neg (fun r => q r.1))).symm)
  rw [e1, sm_sw (fun d i => if m ≤ d ∧ d ≤ i then Zw n b (i - d) * Zw n a i else 0) (n + 1) 17]
  refine sm_congr (fun i hi => ?_)
  have e2 : sm (fun d => if m ≤ d ∧ d ≤ i then Zw n b (i - d) * Zw n a i else 0) 17 = sm (fun d => (if m ≤ d ∧ d ≤ i then Zw n b (i - d) else 0) * Zw n a i) 17 := sm_congr (fun d _ => by
    by_cases q : m ≤ d ∧ d ≤ i
    · simp only [if_pos q]
    · simp only [if_neg q, Nat.zero_mul])
  rw [e2, sm_mul, sm_rev17 _ (by omega)]
  unfold Ct Uc
  by_cases q : m ≤ i
  · rw [if_pos q, if_pos q, Nat.mul_comm]
  · rw [if_neg q, if_neg q, Nat.zero_mul]
theorem Uc_b {n b r : Nat} (hb : b ≤ 100) (h : r ≤ n) : Uc n b r ≤ 100 ^ n := by
  rw [← Zw_sum hb n]
  exact sm_up _ (by omega)
theorem smt_b {n a b : Nat} (ha : a ≤ 100) {f : Nat → Nat} (hf : ∀ i, i ≤ n → f i ≤ Zw n a i * 100 ^ n) {k : Nat} (hk : k ≤ n + 1) : sm f k ≤ 10000 ^ n := by
  have h1 : ∀ k, k ≤ n + 1 → sm f k ≤ sm (fun i => Zw n a i * 100 ^ n) k := by
    intro k
    induction k with
    | zero => intro _; exact Nat.le_refl _
    | succ k ih => intro h; exact Nat.add_le_add (ih (by omega)) (hf k (by omega))
  refine Nat.le_trans (h1 k hk) ?_
  rw [sm_mul]
  refine Nat.le_trans (Nat.mul_le_mul_right _ (Nat.le_trans (sm_up _ hk) (Nat.le_of_eq (Zw_sum ha n)))) ?_
  rw [← Nat.mul_pow]
  exact Nat.le_refl _
theorem Ct_b {n a b m : Nat} (ha : a ≤ 100) (hb : b ≤ 100) {k : Nat} (hk : k ≤ n + 1) : sm (Ct n a b m) k ≤ 10000 ^ n := smt_b (b := b) ha (fun i hi => by
  unfold Ct
  split
  · exact Nat.mul_le_mul_left _ (Uc_b hb (by omega))
  · exact Nat.zero_le _) hk
theorem Dt_b {n a b m : Nat} (ha : a ≤ 100) (hb : b ≤ 100) {k : Nat} (hk : k ≤ n + 1) : sm (Dt n a b m) k ≤ 10000 ^ n := smt_b (b := b) ha (fun i hi => by
  unfold Dt
  split
  · exact Nat.mul_le_mul_left _ (Zw_le hb n _)
  · exact Nat.zero_le _) hk
theorem Ec_mono (n a b : Nat) {m k : Nat} (h : m ≤ k) : Ec n a b k ≤ Ec n a b m := sm_mn (fun d => by
  by_cases q : k ≤ d
  · rw [if_pos q, if_pos (by omega)]; exact Nat.le_refl _
  · rw [if_neg q]; exact Nat.zero_le _) 17
theorem Cc_0 {n a b m : Nat} (h : n < m) : Cc n a b m = 0 := sm_0 (n + 1) (fun i hi => if_neg (by omega))
def chv (n a b m : Nat) : Nat := Cc n a b m * 1000000 / 10000 ^ n
theorem p16 {n : Nat} (h : n ≤ 16) : 10000 ^ n ≤ 10000000000000000000000000000000000000000000000000000000000000000 := Nat.pow_le_pow_right (n := 10000) (by decide) h
theorem p100 {n : Nat} (h : n ≤ 16) : 100 ^ n ≤ 100000000000000000000000000000000 := Nat.pow_le_pow_right (n := 100) (by decide) h
theorem chv_b {n a b m : Nat} (ha : a ≤ 100) (hb : b ≤ 100) : chv n a b m ≤ 1000000 := by
  refine Nat.div_le_of_le_mul ?_
  exact Nat.mul_le_mul_right _ (Ct_b ha hb (Nat.le_refl _))
theorem chv_mono {n a b m k : Nat} (hn : n ≤ 16) (h : m ≤ k) : chv n a b k ≤ chv n a b m := by
  unfold chv
  rw [← Ec_Cc hn, ← Ec_Cc hn]
  exact Nat.div_le_div_right (Nat.mul_le_mul_right _ (Ec_mono n a b h))
theorem chv_0 {n a b m : Nat} (h : n < m) : chv n a b m = 0 := by unfold chv; rw [Cc_0 h, Nat.zero_mul, Nat.zero_div]
theorem cut_b {N n : Nat} (h : N ≤ 10000 ^ n * 1000000) : N / 100000000 ^ (n / 2) < 10000000000000000 := by
  have e : 10000 ^ n ≤ 100000000 ^ (n / 2) * 10000 := by
    rw [show (100000000 : Nat) = 10000 ^ 2 by decide, ← Nat.pow_mul, ← Nat.pow_succ]
    exact Nat.pow_le_pow_right (by decide) (by omega)
  have h2 : N ≤ 100000000 ^ (n / 2) * 10000000000 := by
    refine Nat.le_trans h (Nat.le_trans (Nat.mul_le_mul_right _ e) ?_)
    rw [Nat.mul_assoc]
    exact Nat.le_refl _
  have := Nat.div_le_of_le_mul h2
  omega
