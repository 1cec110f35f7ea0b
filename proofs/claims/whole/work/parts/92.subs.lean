/-! sets among the names -/
def bt (x k : Nat) : Nat := x / 2 ^ k % 2
def pcN (x : Nat) : Nat → Nat
  | 0 => 0
  | n + 1 => pcN x n + bt x n
def smN (s : Nat → Nat) (x : Nat) : Nat → Nat
  | 0 => 0
  | n + 1 => smN s x n + bt x n * s n
def okN (met : Nat → Bool) (x : Nat) : Nat → Bool
  | 0 => true
  | n + 1 => okN met x n && (met n || decide (bt x n = 0))
theorem bt_lt {x n : Nat} (h : x < 2 ^ n) : bt x n = 0 := by
  unfold bt
  rw [Nat.div_eq_of_lt h]
theorem bt_top {x n : Nat} (h : x < 2 ^ n) : bt (2 ^ n + x) n = 1 := by
  unfold bt
  rw [Nat.add_comm, show x + 2 ^ n = x + 2 ^ n * 1 by omega, Nat.add_mul_div_left _ _ (Nat.two_pow_pos n), Nat.div_eq_of_lt h]
theorem bt_low {x n k : Nat} (h : k < n) : bt (2 ^ n + x) k = bt x k := by
  unfold bt
  obtain ⟨j, rfl⟩ : ∃ j, n = k + 1 + j := ⟨n - k - 1, by omega⟩
  rw [Nat.add_comm, show x + 2 ^ (k + 1 + j) = x + 2 ^ k * (2 * 2 ^ j) by rw [Nat.pow_add, Nat.pow_succ, Nat.mul_assoc], Nat.add_mul_div_left _ _ (Nat.two_pow_pos k)]
  omega
theorem pcN_low {x n : Nat} : ∀ m, m ≤ n → pcN (2 ^ n + x) m = pcN x m
  | 0, _ => rfl
  | m + 1, h => by
    show pcN (2 ^ n + x) m + bt (2 ^ n + x) m = pcN x m + bt x m
    rw [pcN_low m (by omega), bt_low (by omega)]
theorem smN_low {s : Nat → Nat} {x n : Nat} : ∀ m, m ≤ n → smN s (2 ^ n + x) m = smN s x m
  | 0, _ => rfl
  | m + 1, h => by
    show smN s (2 ^ n + x) m + bt (2 ^ n + x) m * s m = smN s x m + bt x m * s m
    rw [smN_low m (by omega), bt_low (by omega)]
theorem okN_low {met : Nat → Bool} {x n : Nat} : ∀ m, m ≤ n → okN met (2 ^ n + x) m = okN met x m
  | 0, _ => rfl
  | m + 1, h => by
    show (okN met (2 ^ n + x) m && _) = (okN met x m && _)
    rw [okN_low m (by omega), bt_low (by omega)]
theorem cnt_app (P : Nat → Bool) (a : Nat) : ∀ b, cnt P (a + b) = cnt P a + cnt (fun i => P (a + i)) b
  | 0 => rfl
  | b + 1 => by
    show cnt P (a + b) + (P (a + b)).toNat = cnt P a + (cnt (fun i => P (a + i)) b + (P (a + b)).toNat)
    rw [cnt_app P a b, Nat.add_assoc]
/-- how many sets of z of n, with what they come to -/
def RM (met : Nat → Bool) (s : Nat → Nat) (L : Nat) : Nat → Nat → Nat → Nat
  | 0, z, acc => if z = 0 ∧ acc ≤ L then 1 else 0
  | n + 1, z, acc => RM met s L n z acc + (if met n = true ∧ z ≠ 0 then RM met s L n (z - 1) (acc + s n) else 0)
def pdM (met : Nat → Bool) (s : Nat → Nat) (L n z acc : Nat) (x : Nat) : Bool := okN met x n && decide (pcN x n = z) && decide (acc + smN s x n ≤ L)
theorem cntM (met : Nat → Bool) (s : Nat → Nat) (L : Nat) : ∀ n z acc, cnt (pdM met s L n z acc) (2 ^ n) = RM met s L n z acc
  | 0, z, acc => by
    show 0 + (true && decide (0 = z) && decide (acc + 0 ≤ L)).toNat = if z = 0 ∧ acc ≤ L then 1 else 0
    by_cases h1 : z = 0 <;> by_cases h2 : acc ≤ L
    · subst h1; simp [h2]
    · subst h1; simp [h2]
    · rw [if_neg (fun r => h1 r.1), decide_eq_false (fun r => h1 r.symm)]; rfl
    · rw [if_neg (fun r => h1 r.1), decide_eq_false (fun r => h1 r.symm)]; rfl
  | n + 1, z, acc => by
    rw [show (2 : Nat) ^ (n + 1) = 2 ^ n + 2 ^ n by rw [Nat.pow_succ]; omega, cnt_app]
    have e1 : cnt (pdM met s L (n + 1) z acc) (2 ^ n) = cnt (pdM met s L n z acc) (2 ^ n) := cnt_congr (fun x hx => by
      show (okN met x n && (met n || decide (bt x n = 0)) && decide (pcN x n + bt x n = z) && decide (acc + (smN s x n + bt x n * s n) ≤ L)) = _
      rw [bt_lt hx, Nat.zero_mul, Nat.add_zero, Nat.add_zero]
      unfold pdM
      simp)
    have e2 : cnt (fun x => pdM met s L (n + 1) z acc (2 ^ n + x)) (2 ^ n) = if met n = true ∧ z ≠ 0 then cnt (pdM met s L n (z - 1) (acc + s n)) (2 ^ n) else 0 := by
      have e3 : ∀ x, x < 2 ^ n → pdM met s L (n + 1) z acc (2 ^ n + x) = (okN met x n && met n && decide (pcN x n + 1 = z) && decide (acc + (smN s x n + s n) ≤ L)) := fun x hx => by
        show (okN met (2 ^ n + x) n && (met n || decide (bt (2 ^ n + x) n = 0)) && decide (pcN (2 ^ n + x) n + bt (2 ^ n + x) n = z) && decide (acc + (smN s (2 ^ n + x) n + bt (2 ^ n + x) n * s n) ≤ L)) = _
        rw [bt_top hx, okN_low n (Nat.le_refl n), pcN_low n (Nat.le_refl n), smN_low n (Nat.le_refl n), Nat.one_mul]
        simp
      rw [cnt_congr e3]
      by_cases q : met n = true ∧ z ≠ 0
      · rw [if_pos q]
        refine cnt_congr (fun x hx => ?_)
        unfold pdM
        rw [q.1, Bool.and_true, show decide (pcN x n + 1 = z) = decide (pcN x n = z - 1) from decide_eq_decide.mpr (by omega), show decide (acc + (smN s x n + s n) ≤ L) = decide (acc + s n + smN s x n ≤ L) from decide_eq_decide.mpr (by omega)]
      · rw [if_neg q]
        refine cnt_zero _ (fun x hx => ?_)
        by_cases m : met n = true
        · have z0 : z = 0 := Classical.byContradiction (fun r => q ⟨m, r⟩)
          rw [decide_eq_false (show ¬ (pcN x n + 1 = z) by omega)]
          simp
        · have : met n = false := by cases hm : met n
                                     · rfl
                                     · exact absurd hm m
          rw [this]
          simp
    rw [e1, e2, cntM met s L n z acc, cntM met s L n (z - 1) (acc + s n)]
    rfl
/-- the met ones alone -/
theorem RM_met {met : Nat → Bool} {s s' : Nat → Nat} {L : Nat} : ∀ N, (∀ k, k < N → met k = true → s' (cnt met k) = s k) → ∀ z acc, RM (fun _ => true) s' L (cnt met N) z acc = RM met s L N z acc
  | 0, _, z, acc => rfl
  | N + 1, h, z, acc => by
    have ih := RM_met (s := s) (s' := s') (L := L) N (fun k hk => h k (by omega))
    show RM (fun _ => true) s' L (cnt met N + (met N).toNat) z acc = RM met s L N z acc + (if met N = true ∧ z ≠ 0 then RM met s L N (z - 1) (acc + s N) else 0)
    cases hm : met N
    · rw [if_neg (fun r => absurd r.1 (by decide))]
      exact ih z acc
    · show RM (fun _ => true) s' L (cnt met N) z acc + (if true = true ∧ z ≠ 0 then RM (fun _ => true) s' L (cnt met N) (z - 1) (acc + s' (cnt met N)) else 0) = _
      rw [ih, ih, h N (by omega) hm]
theorem pcN_cnt (x : Nat) : ∀ n, pcN x n = cnt (fun k => decide (bt x k = 1)) n
  | 0 => rfl
  | n + 1 => by
    show pcN x n + bt x n = _ + (decide (bt x n = 1)).toNat
    rw [pcN_cnt x n]
    have : bt x n < 2 := Nat.mod_lt _ (by decide)
    by_cases q : bt x n = 1
    · rw [decide_eq_true q, q]; rfl
    · rw [decide_eq_false q, show bt x n = 0 by omega]; rfl
theorem bnb_bt (x : Nat) : ∀ n, bnb (fun k => decide (bt x k = 1)) n = x % 2 ^ n
  | 0 => by rw [Nat.pow_zero, Nat.mod_one]; rfl
  | n + 1 => by
    show bnb (fun k => decide (bt x k = 1)) n + (if decide (bt x n = 1) = true then 2 ^ n else 0) = _
    rw [bnb_bt x n, Nat.pow_succ, Nat.mod_mul]
    have : bt x n < 2 := Nat.mod_lt _ (by decide)
    have e : x / 2 ^ n % 2 = bt x n := rfl
    rw [e]
    by_cases q : bt x n = 1
    · rw [decide_eq_true q, if_pos rfl, q, Nat.mul_one]
    · rw [decide_eq_false q, show bt x n = 0 by omega]; simp
theorem bitN {x n : Nat} (hn : n ≤ 24) (hx : x < 2 ^ n) {μ : MM} {Q : Int32 → MM → Prop} (hQ : Q (qN (pcN x n)) μ) : GJ6_bitCount_0f7a4 (qN x) μ Q := by
  have e := bnb_bt x n
  rw [Nat.mod_eq_of_lt hx] at e
  rw [pcN_cnt] at hQ
  have := bnb_c hn hQ
  rw [e] at this
  exact this
