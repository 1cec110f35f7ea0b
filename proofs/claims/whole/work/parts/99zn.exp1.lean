/-! explains: least multiples of few distinct counts; the class -/
def eK (k : Nat) : Nat := if k ≤ 2 then 100 else if k = 3 then 113 else if k = 4 then 144 else if k = 5 then 183 else if k = 6 then 218 else 233
theorem eK_s : ∀ k, k < 97 → eK k ≤ eK (k + 1) ∧ eK k * (k * 3 ^ k) ≤ eK (k + 1) * 4 ^ k := by decide
def sn (met : Nat → Bool) (l : Nat → Nat) : Nat → Nat → Bool
  | 0, _ => false
  | n + 1, x => sn met l n x || (met n && decide (l n = x))
def PSn (s : Nat → Bool) : Nat → Nat
  | 0 => 1
  | k + 1 => PSn s k * (if s k = true then k else 1)
def SSn (s : Nat → Bool) (k : Nat) : Nat := sm (fun x => if s x = true then x else 0) k
theorem PSn_b (s : Nat → Bool) : ∀ k, k ≤ 97 → PSn s k * 3 ^ (SSn s k) * 100 ≤ 4 ^ (SSn s k) * eK k
  | 0, _ => by show 1 * 3 ^ 0 * 100 ≤ 4 ^ 0 * eK 0; decide
  | k + 1, h => by
    have ih := PSn_b s k (by omega)
    obtain ⟨e1, e2⟩ := eK_s k (by omega)
    show PSn s k * (if s k = true then k else 1) * 3 ^ (SSn s k + (if s k = true then k else 0)) * 100 ≤ 4 ^ (SSn s k + (if s k = true then k else 0)) * eK (k + 1)
    by_cases q : s k = true
    · rw [if_pos q, if_pos q, Nat.pow_add, Nat.pow_add]
      calc PSn s k * k * (3 ^ SSn s k * 3 ^ k) * 100 = (PSn s k * 3 ^ SSn s k * 100) * (k * 3 ^ k) := by ac_rfl
        _ ≤ (4 ^ SSn s k * eK k) * (k * 3 ^ k) := Nat.mul_le_mul_right _ ih
        _ = 4 ^ SSn s k * (eK k * (k * 3 ^ k)) := by ac_rfl
        _ ≤ 4 ^ SSn s k * (eK (k + 1) * 4 ^ k) := Nat.mul_le_mul_left _ e2
        _ = 4 ^ SSn s k * 4 ^ k * eK (k + 1) := by ac_rfl
    · rw [if_neg q, if_neg q, Nat.mul_one, Nat.add_zero]
      exact Nat.le_trans ih (Nat.mul_le_mul_left _ e1)
theorem PSn_p {s : Nat → Bool} (h : s 0 = false) : ∀ k, 0 < PSn s k
  | 0 => Nat.one_pos
  | k + 1 => by
    have ih := PSn_p h k
    show 0 < PSn s k * (if s k = true then k else 1)
    by_cases q : s k = true
    · rw [if_pos q]
      have : k ≠ 0 := fun r => by subst r; rw [h] at q; exact absurd q (by decide)
      exact Nat.mul_pos ih (by omega)
    · rw [if_neg q]; exact Nat.mul_pos ih Nat.one_pos
theorem PSn_mono {s t : Nat → Bool} (h : ∀ x, s x = true → t x = true) : ∀ k, PSn s k ∣ PSn t k
  | 0 => Nat.dvd_refl _
  | k + 1 => by
    refine Nat.mul_dvd_mul (PSn_mono h k) ?_
    by_cases q : s k = true
    · rw [if_pos q, if_pos (h k q)]; exact Nat.dvd_refl _
    · rw [if_neg q]; exact Nat.one_dvd _
theorem PSn_mem {s : Nat → Bool} {x : Nat} (h : s x = true) : ∀ k, x < k → x ∣ PSn s k
  | 0, r => absurd r (by omega)
  | k + 1, r => by
    by_cases e : x = k
    · subst e
      show x ∣ PSn s x * (if s x = true then x else 1)
      rw [if_pos h]; exact Nat.dvd_mul_left _ _
    · exact Nat.dvd_trans (PSn_mem h k (by omega)) (Nat.dvd_mul_right _ _)
theorem lcq_lcm (a b : Nat) : lcq a b = Nat.lcm a b := by
  show a / Nat.gcd a b * b = a * b / Nat.gcd a b
  rw [Nat.mul_comm a b, Nat.mul_div_assoc b (Nat.gcd_dvd_left a b), Nat.mul_comm]
theorem LC_PS {met : Nat → Bool} {l : Nat → Nat} (hl : ∀ k, l k < 97) : ∀ n, LC met l n ∣ PSn (sn met l n) 97
  | 0 => Nat.one_dvd _
  | n + 1 => by
    have ih := LC_PS (met := met) hl n
    have m1 : PSn (sn met l n) 97 ∣ PSn (sn met l (n + 1)) 97 := PSn_mono (fun x q => by show (sn met l n x || _) = true; rw [q]; rfl) 97
    show (if met n then lcq (LC met l n) (l n) else LC met l n) ∣ _
    by_cases q : met n = true
    · rw [if_pos q, lcq_lcm]
      refine Nat.lcm_dvd (Nat.dvd_trans ih m1) (PSn_mem ?_ 97 (hl n))
      show (sn met l n (l n) || (met n && decide (l n = l n))) = true
      rw [q, decide_eq_true rfl, Bool.true_and, Bool.or_true]
    · rw [if_neg q]; exact Nat.dvd_trans ih m1
theorem SSn_b {met : Nat → Bool} {l : Nat → Nat} (hl : ∀ k, l k < 97) : ∀ n, SSn (sn met l n) 97 ≤ sm (fun k => if met k = true then l k else 0) n
  | 0 => Nat.le_of_eq (sm_0 97 (fun x _ => if_neg (by show ¬ (false = true); decide)))
  | n + 1 => by
    have ih := SSn_b (met := met) hl n
    show SSn (sn met l (n + 1)) 97 ≤ sm (fun k => if met k = true then l k else 0) n + (if met n = true then l n else 0)
    by_cases q : met n = true
    · rw [if_pos q]
      have e : SSn (sn met l (n + 1)) 97 ≤ sm (fun x => (if sn met l n x = true then x else 0) + (if x = l n then l n else 0)) 97 := sm_mn (fun x => by
        show (if (sn met l n x || (met n && decide (l n = x))) = true then x else 0) ≤ _
        by_cases z : sn met l n x = true
        · rw [z, Bool.true_or, if_pos rfl]; exact Nat.le_add_right _ _
        · rw [Bool.not_eq_true] at z
          rw [z, q, Bool.false_or, Bool.true_and, if_neg (show ¬ (false = true) by decide), Nat.zero_add]
          by_cases y : l n = x
          · rw [if_pos (decide_eq_true y), if_pos y.symm]; omega
          · rw [decide_eq_false y, if_neg (by decide)]; exact Nat.zero_le _) 97
      rw [sm_add, sm_one (l n) (l n) 97 (hl n)] at e
      exact Nat.le_trans e (Nat.add_le_add_right ih _)
    · rw [if_neg q, Nat.add_zero]
      refine Nat.le_trans (Nat.le_of_eq (sm_congr (fun x _ => ?_))) ih
      rw [Bool.not_eq_true] at q
      show (if (sn met l n x || (met n && decide (l n = x))) = true then x else 0) = _
      rw [q, Bool.false_and, Bool.or_false]
theorem LC_ub {met : Nat → Bool} {l : Nat → Nat} (hl : ∀ k, l k < 97) (hp : ∀ k, met k = true → 0 < l k) {n : Nat} (hs : sm (fun k => if met k = true then l k else 0) n ≤ 96) : LC met l n ≤ 2298659454213 := by
  have s0 : ∀ n, sn met l n 0 = false := by
    intro n
    induction n with
    | zero => rfl
    | succ n ih =>
      show (sn met l n 0 || (met n && decide (l n = 0))) = false
      rw [ih]
      by_cases q : met n = true
      · rw [q, decide_eq_false (by have := hp n q; omega)]; rfl
      · rw [Bool.not_eq_true] at q; rw [q]; rfl
  have h1 := Nat.le_of_dvd (PSn_p (s0 n) 97) (LC_PS (met := met) hl n)
  have h2 := PSn_b (sn met l n) 97 (Nat.le_refl _)
  have h3 := Nat.le_trans (SSn_b (met := met) hl n) hs
  revert h1 h2 h3
  generalize PSn (sn met l n) 97 = P
  generalize SSn (sn met l n) 97 = S
  intro h1 h2 h3
  have e3 : (3 : Nat) ^ (96 - S) ≤ 4 ^ (96 - S) := Nat.pow_le_pow_left (by decide) _
  have h4 : P * 3 ^ 96 * 100 ≤ 4 ^ 96 * 233 := by
    have a3 : (3 : Nat) ^ 96 = 3 ^ S * 3 ^ (96 - S) := by rw [← Nat.pow_add]; congr 1; omega
    have a4 : (4 : Nat) ^ 96 = 4 ^ S * 4 ^ (96 - S) := by rw [← Nat.pow_add]; congr 1; omega
    rw [a3, a4]
    calc P * (3 ^ S * 3 ^ (96 - S)) * 100 = (P * 3 ^ S * 100) * 3 ^ (96 - S) := by ac_rfl
      _ ≤ (4 ^ S * 233) * 4 ^ (96 - S) := Nat.mul_le_mul h2 e3
      _ = 4 ^ S * 4 ^ (96 - S) * 233 := by ac_rfl
  rcases Nat.lt_or_ge 2298659454213 P with q | q
  · have h5 : 2298659454214 * 3 ^ 96 * 100 ≤ P * 3 ^ 96 * 100 := Nat.mul_le_mul_right _ (Nat.mul_le_mul_right _ q)
    have h6 : 4 ^ 96 * 233 < 2298659454214 * 3 ^ 96 * 100 := by decide
    exact absurd (Nat.lt_of_lt_of_le h6 (Nat.le_trans h5 h4)) (Nat.lt_irrefl _)
  · exact Nat.le_trans h1 q
/-- who has both -/
def exM (A : Nat → Nat → Nat) (w v : Nat) : Bool := decide (0 < jc A w v 0) && decide (0 < jc A w v 1)
theorem exM_as (A : Nat → Nat → Nat) (w v : Nat) : asB A (sB A w v) ↔ exM A w v = true := by
  unfold exM asB
  rw [Bool.and_eq_true, decide_eq_true_eq, decide_eq_true_eq]
  exact Iff.rfl
def exm (A : Nat → Nat → Nat) (w j : Nat) : Bool := exM A w (j / 2)
def exl (A : Nat → Nat → Nat) (w j : Nat) : Nat := jc A w (j / 2) (j % 2)
def exLc (A : Nat → Nat → Nat) (w n : Nat) : Nat := LC (exm A w) (exl A w) n
def exD (A : Nat → Nat → Nat) (w : Nat) : Nat := exLc A w 20
theorem exLc_y {A : Nat → Nat → Nat} {w n : Nat} (h : exM A w n = true) : exLc A w (2 * n + 1) = lcq (exLc A w (2 * n)) (jc A w n 0) ∧ exLc A w (2 * (n + 1)) = lcq (lcq (exLc A w (2 * n)) (jc A w n 0)) (jc A w n 1) := by
  have e1 : exLc A w (2 * n + 1) = lcq (exLc A w (2 * n)) (jc A w n 0) := by
    show (if exM A w (2 * n / 2) = true then lcq (exLc A w (2 * n)) (jc A w (2 * n / 2) (2 * n % 2)) else _) = _
    rw [show 2 * n / 2 = n by omega, show 2 * n % 2 = 0 by omega, if_pos h]
  refine ⟨e1, ?_⟩
  show (if exM A w ((2 * n + 1) / 2) = true then lcq (exLc A w (2 * n + 1)) (jc A w ((2 * n + 1) / 2) ((2 * n + 1) % 2)) else _) = _
  rw [show (2 * n + 1) / 2 = n by omega, show (2 * n + 1) % 2 = 1 by omega, if_pos h, e1]
theorem exLc_n {A : Nat → Nat → Nat} {w n : Nat} (h : ¬ exM A w n = true) : exLc A w (2 * (n + 1)) = exLc A w (2 * n) := by
  have e1 : exLc A w (2 * n + 1) = exLc A w (2 * n) := by
    show (if exM A w (2 * n / 2) = true then _ else exLc A w (2 * n)) = _
    rw [show 2 * n / 2 = n by omega, if_neg h]
  show (if exM A w ((2 * n + 1) / 2) = true then _ else exLc A w (2 * n + 1)) = _
  rw [show (2 * n + 1) / 2 = n by omega, if_neg h, e1]
theorem jc_b {A X : Nat → Nat → Nat} (hV : Inv A X) (w v p : Nat) : jc A w v p < 97 := by
  have hn : A 358 12 < 97 := hV.b 358 12 (by unfold dom; decide)
  have := tc_le A (sB A w v) p (A 358 12)
  show tc A (sB A w v) p (A 358 12) < 97
  omega
theorem jT_sm {A X : Nat → Nat → Nat} (hV : Inv A X) (w n : Nat) : sm (jT A w) n ≤ 96 := by
  have hn : A 358 12 < 97 := hV.b 358 12 (by unfold dom; decide)
  have := sB_sm A w 0 n (A 358 12)
  show sm (fun v => tc A (sB A w v) 0 (A 358 12) + tc A (sB A w v) 1 (A 358 12)) n ≤ 96
  omega
theorem exl_sm (A : Nat → Nat → Nat) (w : Nat) : ∀ n, sm (fun j => if exm A w j = true then exl A w j else 0) (2 * n) ≤ sm (jT A w) n
  | 0 => Nat.le_refl _
  | n + 1 => by
    have ih := exl_sm A w n
    show sm (fun j => if exm A w j = true then exl A w j else 0) (2 * n) + (if exM A w (2 * n / 2) = true then jc A w (2 * n / 2) (2 * n % 2) else 0) + (if exM A w ((2 * n + 1) / 2) = true then jc A w ((2 * n + 1) / 2) ((2 * n + 1) % 2) else 0) ≤ sm (jT A w) n + jT A w n
    rw [show (2 * n + 1) / 2 = n by omega, show 2 * n / 2 = n by omega, show (2 * n + 1) % 2 = 1 by omega, show 2 * n % 2 = 0 by omega]
    have : jT A w n = jc A w n 0 + jc A w n 1 := rfl
    split <;> omega
theorem exLc_b {A X : Nat → Nat → Nat} (hV : Inv A X) (w n : Nat) : exLc A w n ≤ 2298659454213 := by
  refine LC_ub (fun k => jc_b hV w _ _) (fun k q => ?_) ?_
  · have q' : exM A w (k / 2) = true := q
    unfold exM at q'
    rw [Bool.and_eq_true, decide_eq_true_eq, decide_eq_true_eq] at q'
    show 0 < jc A w (k / 2) (k % 2)
    rcases (show k % 2 = 0 ∨ k % 2 = 1 by omega) with z | z <;> rw [z]
    · exact q'.1
    · exact q'.2
  · exact Nat.le_trans (sm_up _ (show n ≤ 2 * n by omega)) (Nat.le_trans (exl_sm A w n) (jT_sm hV w n))
theorem exLc_p (A : Nat → Nat → Nat) (w n : Nat) : 0 < exLc A w n := LC_pos n (fun k _ q => by
    have q' : exM A w (k / 2) = true := q
    unfold exM at q'
    rw [Bool.and_eq_true, decide_eq_true_eq, decide_eq_true_eq] at q'
    show 0 < jc A w (k / 2) (k % 2)
    rcases (show k % 2 = 0 ∨ k % 2 = 1 by omega) with z | z <;> rw [z]
    · exact q'.1
    · exact q'.2)
theorem exD_dvd {A : Nat → Nat → Nat} {w v : Nat} (hv : v < 10) (h : exM A w v = true) : jc A w v 0 ∣ exD A w ∧ jc A w v 1 ∣ exD A w := by
  have d0 := LC_dvd (met := exm A w) (l := exl A w) 20 (2 * v) (by omega) (by show exM A w (2 * v / 2) = true; rw [show 2 * v / 2 = v by omega]; exact h)
  have d1 := LC_dvd (met := exm A w) (l := exl A w) 20 (2 * v + 1) (by omega) (by show exM A w ((2 * v + 1) / 2) = true; rw [show (2 * v + 1) / 2 = v by omega]; exact h)
  have e0 : exl A w (2 * v) = jc A w v 0 := by
    show jc A w (2 * v / 2) (2 * v % 2) = _
    rw [show 2 * v / 2 = v by omega, show 2 * v % 2 = 0 by omega]
  have e1 : exl A w (2 * v + 1) = jc A w v 1 := by
    show jc A w ((2 * v + 1) / 2) ((2 * v + 1) % 2) = _
    rw [show (2 * v + 1) / 2 = v by omega, show (2 * v + 1) % 2 = 1 by omega]
  rw [e0] at d0
  rw [e1] at d1
  exact ⟨d0, d1⟩
/-- the aside of one, over the least multiple -/
def eas (A : Nat → Nat → Nat) (w v : Nat) : Int := if exM A w v = true then (jr A w v 0 : Int) * ((exD A w / jc A w v 0 : Nat) : Int) - (jr A w v 1 : Int) * ((exD A w / jc A w v 1 : Nat) : Int) else 0
def zs (f : Nat → Int) : Nat → Int
  | 0 => 0
  | n + 1 => zs f n + f n
def exJ (A : Nat → Nat → Nat) (w n : Nat) : Int := zs (fun v => eas A w v * (jT A w v : Int)) n
def exN (A : Nat → Nat → Nat) (w n : Nat) : Nat := sm (fun v => if exM A w v = true then jT A w v else 0) n
theorem eas_b (A : Nat → Nat → Nat) (w v : Nat) : (eas A w v).natAbs ≤ exD A w := by
  unfold eas
  by_cases q : exM A w v = true
  · rw [if_pos q]
    have f : ∀ p, jr A w v p * (exD A w / jc A w v p) ≤ exD A w := fun p => Nat.le_trans (Nat.mul_le_mul_right _ (jr_le A w v p)) (by rw [Nat.mul_comm]; exact Nat.div_mul_le_self _ _)
    have f0 := f 0
    have f1 := f 1
    rw [← Int.natCast_mul, ← Int.natCast_mul]
    omega
  · rw [if_neg q]; exact Nat.zero_le _
theorem exJ_b (A : Nat → Nat → Nat) (w : Nat) : ∀ n, (exJ A w n).natAbs ≤ exD A w * sm (jT A w) n
  | 0 => Nat.le_refl _
  | n + 1 => by
    have ih := exJ_b A w n
    show (exJ A w n + eas A w n * (jT A w n : Int)).natAbs ≤ exD A w * (sm (jT A w) n + jT A w n)
    have h1 : (eas A w n * (jT A w n : Int)).natAbs ≤ exD A w * jT A w n := by
      rw [Int.natAbs_mul]
      exact Nat.mul_le_mul_right _ (eas_b A w n)
    rw [Nat.mul_add]
    omega
theorem exJ_B {A X : Nat → Nat → Nat} (hV : Inv A X) (w n : Nat) : (exJ A w n).natAbs ≤ exD A w * 96 := Nat.le_trans (exJ_b A w n) (Nat.mul_le_mul_left _ (jT_sm hV w n))
theorem exN_b {A X : Nat → Nat → Nat} (hV : Inv A X) (w n : Nat) : exN A w n ≤ 96 := Nat.le_trans (sm_mn (fun v => by
  split
  · exact Nat.le_refl _
  · exact Nat.zero_le _) n) (jT_sm hV w n)
theorem fit_abs {x : Int} (h : x.natAbs < 9223372036854775808) : fit6 x := by unfold fit6; omega
theorem frc_e (u : Int) (l : Nat) : frc u l = [qJ (u.tdiv (Int.gcd u l)), qL (l / Int.gcd u l)] := by rw [qL_J]; rfl
/-- what is told -/
def exW (A : Nat → Nat → Nat) (w : Nat) : List Int64 := ([] ++ frc (exJ A w 10) (exD A w * exN A w 10)) ++ frc (asU A (sA A) * ((exD A w * exN A w 10 : Nat) : Int) - exJ A w 10 * (asL A (sA A) : Int)) (asL A (sA A) * (exD A w * exN A w 10))
theorem sA_both {A : Nat → Nat → Nat} {w v : Nat} (h : exM A w v = true) : asB A (sA A) := by
  have h' := (exM_as A w v).mpr h
  have sub : ∀ p, tc A (sB A w v) p (A 358 12) ≤ tc A (sA A) p (A 358 12) := fun p => cnt_mono (fun i q => by
    unfold sB at q
    unfold sA
    simp only [Bool.and_eq_true] at q ⊢
    exact ⟨q.1.1, q.2⟩) _
  exact ⟨Nat.lt_of_lt_of_le h'.1 (sub 0), Nat.lt_of_lt_of_le h'.2 (sub 1)⟩
theorem exN_both {A : Nat → Nat → Nat} {w : Nat} : ∀ n, exN A w n ≠ 0 → ∃ v, exM A w v = true
  | 0, h => absurd rfl h
  | n + 1, h => by
    by_cases q : exM A w n = true
    · exact ⟨n, q⟩
    · refine exN_both n (fun r => h ?_)
      show exN A w n + (if exM A w n = true then _ else 0) = 0
      rw [if_neg q, r]
theorem ex_fit {A X : Nat → Nat → Nat} (hV : Inv A X) (w : Nat) : (asU A (sA A) * ((exD A w * exN A w 10 : Nat) : Int) - exJ A w 10 * (asL A (sA A) : Int)).natAbs < 9223372036854775808 := by
  have hn : A 358 12 < 97 := hV.b 358 12 (by unfold dom; decide)
  have d1 : exD A w ≤ 2298659454213 := exLc_b hV w 20
  have n1 := exN_b hV w 10
  have j1 := exJ_B hV w 10
  have u1 := asU_b (A := A) (S := sA A) hn
  have l1 := asL_b (A := A) (S := sA A) hn
  have m1 : exD A w * exN A w 10 ≤ 2298659454213 * 96 := Nat.mul_le_mul d1 n1
  have m2 : (asU A (sA A) * ((exD A w * exN A w 10 : Nat) : Int)).natAbs ≤ 9216 * (2298659454213 * 96) := by
    rw [Int.natAbs_mul]
    exact Nat.mul_le_mul (by omega) m1
  have m3 : (exJ A w 10 * (asL A (sA A) : Int)).natAbs ≤ (2298659454213 * 96) * 9216 := by
    rw [Int.natAbs_mul]
    exact Nat.mul_le_mul (Nat.le_trans j1 (Nat.mul_le_mul_right _ d1)) l1
  omega
theorem c_explainsW {A X : Nat → Nat → Nat} {W : List Int64} {μ : MM} {w : Nat} {Q : Int32 → MM → Prop} (hV : Inv A X) (h : Cs A X W μ) (hw : w < 4)
    (hy : exN A w 10 ≠ 0 → ∀ μ', Cs A X (exW A w) μ' → FC μ μ' → Q 0 μ') (hz : exN A w 10 = 0 → ∀ μ', Cs A X W μ' → FC μ μ' → Q (-2) μ') : G2_gatherBy (qN w) μ (fun μ37 => Lp (G2_tellExplained_L24 Q) (1, 0, 0, μ37)) := by
  have hn : A 358 12 < 97 := hV.b 358 12 (by unfold dom; decide)
  have nb := exN_b hV w
  have cb := exLc_b hV w
  have cp := exLc_p A w
  refine c_gatherBy hV h hw (fun μ1 h1 s1 hA hT => ?_)
  have f1 : FC μ μ1 := FC_cS (s1.mo (fun k j q => show cS k j by unfold cS; omega))
  have t10 : ∀ v, v < 11 → ((10 : Int32) ≤ qN v ↔ 10 ≤ v) := fun v hv => qN_le (a := 10) (by decide) (by omega)
  refine Lp.up 10 (fun v (x : Int64 × Int32 × Int32 × MM) => x = (qL (exLc A w (2 * v)), qN (exN A w v), qN v, μ1)) ?_ rfl
  rintro v K hv hK _ rfl
  unfold G2_tellExplained_L24
  simp only [t10 v (by omega)]
  refine ⟨fun q => ?_, fun q => ?_⟩
  · have e : v = 10 := by omega
    subst e
    clear hK K
    have z : qN (exN A w 10) = 0 ↔ exN A w 10 = 0 := qN_eq (b := 0) (by have := nb 10; omega) (by decide)
    rw [z]
    refine ⟨fun r => ?_, fun r => hz r μ1 h1 f1⟩
    have db : exD A w ≤ 2298659454213 := cb 20
    have dp : 0 < exD A w := cp 20
    refine Lp.up 10 (fun v (x : Int64 × Int32 × MM) => x = (qJ (exJ A w v), qN v, μ1)) ?_ rfl
    clear q hv
    rintro v K hv hK _ rfl
    unfold G2_tellExplained_L115
    simp only [t10 v (by omega)]
    refine ⟨fun q => ?_, fun q => ?_⟩
    · have e : v = 10 := by omega
      subst e
      clear hK K
      have n10 := nb 10
      have m1 : exD A w * exN A w 10 ≤ 2298659454213 * 96 := Nat.mul_le_mul db n10
      have mp : 0 < exD A w * exN A w 10 := Nat.mul_pos dp (by omega)
      obtain ⟨v0, hv0⟩ := exN_both 10 r
      have lp := asL_p (sA_both hv0)
      have lb := asL_b (A := A) (S := sA A) hn
      have jb := exJ_B hV w 10
      have jb2 : (exJ A w 10).natAbs ≤ 2298659454213 * 96 := Nat.le_trans jb (Nat.mul_le_mul_right _ db)
      have ml : asL A (sA A) * (exD A w * exN A w 10) ≤ 9216 * (2298659454213 * 96) := Nat.mul_le_mul lb m1
      have mlp : 0 < asL A (sA A) * (exD A w * exN A w 10) := Nat.mul_pos lp mp
      show Bd (qL (exD A w) * (qN (exN A w 10)).toInt64) _
      rw [qN_6 (by omega), qL_mul, Bd_eq, qL_J]
      refine c_rclear h1 (fun μ2 h2 f2 => ?_)
      refine c_rfrac h2 (by simp) (fit_abs (by omega)) mp (by omega) (fun μ3 h3 f3 => ?_)
      have hA3 : Tl μ3 203 A (sA A) (A 358 12) := Tl_sm (Tl_sm hA f2 (fun j => by omega)) f3 (fun j => by omega)
      refine c_asU hn hA3 (c_asL hn hA3 (c_asL hn hA3 ?_))
      rw [qJ_mul, qJ_mul, qJ_mul, qJ_sub, ← Int.natCast_mul (asL A (sA A))]
      refine c_rfrac h3 (by rw [List.nil_append, frc_len]; decide) (fit_abs (ex_fit hV w)) mlp (by omega) (fun μ4 h4 f4 => ?_)
      exact hy r μ4 h4 (((f1.tr (FC_row f2)).tr (FC_row f3)).tr (FC_row f4))
    · have lv : v < 10 := by omega
      have hTv := hT v lv
      have c0 := Tl_J hn hTv 0 (by decide)
      have c1 := Tl_J hn hTv 1 (by decide)
      have d0 : gI μ1 (207 + 3 * v + 1) 0 = qN (jc A w v 0) := (hTv 0 (by decide)).1
      have d1 : gI μ1 (207 + 3 * v + 1) 1 = qN (jc A w v 1) := (hTv 1 (by decide)).1
      have b0 := jc_b hV w v 0
      have b1 := jc_b hV w v 1
      have fin : ∀ r : Int64, r = qJ (eas A w v) → v < 10 ∧ G9_all (207 + 3 * v) μ1 (fun r56 μ55 => Bd (qJ (exJ A w v) + (r * (r56.toInt64))) fun y57 => K (y57, qN (v + 1), μ55)) := fun r er => by
        refine ⟨lv, ?_⟩
        show Bd (qJ (exJ A w v) + r * (gI μ1 (207 + 3 * v + 1) 0 + gI μ1 (207 + 3 * v + 1) 1).toInt64) _
        rw [d0, d1, qN_add, qN_J (by omega), er, qJ_mul, qJ_add, Bd_eq]
        exact hK lv _ rfl
      rw [qN_vp (by omega), qN_nat (by omega), show qN v + 1 = qN (v + 1) from qN_add v 1]
      refine ⟨lv, c_hasBoth hn hTv (fun z => ⟨fun r2 => absurd r2 (by decide), fun _ => ?_⟩) (fun z => ⟨fun _ => fin 0 ?_, fun r2 => absurd rfl r2⟩)⟩
      · have zz := (exM_as A w v).mp z
        obtain ⟨p0, p1⟩ : 0 < jc A w v 0 ∧ 0 < jc A w v 1 := z
        have k0 : (gI μ1 (207 + 3 * v + 1) 0).toInt64 = qL (jc A w v 0) := by rw [d0, qN_6 (by omega)]
        have k1 : (gI μ1 (207 + 3 * v + 1) 1).toInt64 = qL (jc A w v 1) := by rw [d1, qN_6 (by omega)]
        have k2 : (gI μ1 (207 + 3 * v + 2) 0).toInt64 = qJ (jr A w v 0 : Int) := c0.2
        have k3 : (gI μ1 (207 + 3 * v + 2) 1).toInt64 = qJ (jr A w v 1 : Int) := c1.2
        have k4 : qL (exLc A w (2 * 10)) = qL (exD A w) := rfl
        rw [k0, k1, k2, k3, k4, qL_0 (by omega), qL_0 (by omega), qL_div (by omega) (by omega), qL_div (by omega) (by omega)]
        refine ⟨by omega, by omega, fin _ ?_⟩
        rw [qL_J, qL_J, qJ_mul, qJ_mul, qJ_sub]
        unfold eas
        rw [if_pos zz]
      · unfold eas
        rw [if_neg (fun r2 => z ((exM_as A w v).mpr r2))]
        rfl
  · have lv : v < 10 := by omega
    have hTv := hT v lv
    have d0 : gI μ1 (207 + 3 * v + 1) 0 = qN (jc A w v 0) := (hTv 0 (by decide)).1
    have d1 : gI μ1 (207 + 3 * v + 1) 1 = qN (jc A w v 1) := (hTv 1 (by decide)).1
    have b0 := jc_b hV w v 0
    have b1 := jc_b hV w v 1
    have nv := nb v
    have ov : qN v + 1 = qN (v + 1) := qN_add v 1
    rw [qN_vp (by omega), qN_nat (by omega), ov]
    refine ⟨lv, c_hasBoth hn hTv (fun z => ⟨fun r2 => absurd r2 (by decide), fun _ => ?_⟩) (fun z => ⟨fun _ => ?_, fun r2 => absurd rfl r2⟩)⟩
    · have zz := (exM_as A w v).mp z
      obtain ⟨p0, p1⟩ : 0 < jc A w v 0 ∧ 0 < jc A w v 1 := z
      obtain ⟨y1, y2⟩ := exLc_y zz
      have bb1 := cb (2 * v)
      have bb2 := cb (2 * v + 1)
      have pp1 := cp (2 * v)
      have pp2 := cp (2 * v + 1)
      rw [y1] at bb2 pp2
      refine ⟨lv, ?_⟩
      rw [d0, qN_6 (by omega)]
      refine c_lcm pp1 (by omega) (by omega) ⟨lv, ?_⟩
      rw [d1, qN_6 (by omega)]
      refine c_lcm pp2 (by omega) (by omega) ⟨lv, ?_⟩
      show Bd (qN (exN A w v) + (gI μ1 (207 + 3 * v + 1) 0 + gI μ1 (207 + 3 * v + 1) 1)) _
      rw [d0, d1, qN_add, qN_add, Bd_eq]
      refine hK lv _ ?_
      rw [y2, show exN A w (v + 1) = exN A w v + (jc A w v 0 + jc A w v 1) by
        show exN A w v + (if exM A w v = true then jT A w v else 0) = _
        rw [if_pos zz]; rfl]
    · have zz : ¬ exM A w v = true := fun r2 => z ((exM_as A w v).mpr r2)
      refine hK lv _ ?_
      rw [exLc_n zz, show exN A w (v + 1) = exN A w v by
        show exN A w v + (if exM A w v = true then jT A w v else 0) = _
        rw [if_neg zz]; rfl]
