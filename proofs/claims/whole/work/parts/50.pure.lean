/-! numbers, memory reads, loops: what the pure half stands on -/
def qN (n : Nat) : Int32 := Int32.ofNat n
def qI (n : Int) : Int32 := Int32.ofInt n
def qJ (n : Int) : Int64 := Int64.ofInt n
theorem qN_iI (n : Nat) : qN n = qI (n : Int) := Int32.ofInt_eq_ofNat.symm
theorem qN_t {n : Nat} (h : n < 2147483648) : (qN n).toInt = n := Int32.toInt_ofNat_of_lt h
theorem qN_nat {n : Nat} (h : n < 2147483648) : (qN n).toNatClampNeg = n := Int32.toNatClampNeg_ofNat_of_lt h
theorem qN_lt {a b : Nat} (ha : a < 2147483648) (hb : b < 2147483648) : qN a < qN b ↔ a < b := by
  rw [Int32.lt_iff_toInt_lt, qN_t ha, qN_t hb]; omega
theorem qN_le {a b : Nat} (ha : a < 2147483648) (hb : b < 2147483648) : qN a ≤ qN b ↔ a ≤ b := by
  rw [Int32.le_iff_toInt_le, qN_t ha, qN_t hb]; omega
theorem qN_eq {a b : Nat} (ha : a < 2147483648) (hb : b < 2147483648) : qN a = qN b ↔ a = b := by
  rw [← Int32.toInt_inj, qN_t ha, qN_t hb]; omega
theorem qN_add (a b : Nat) : qN a + qN b = qN (a + b) := (Int32.ofNat_add a b).symm
theorem qN_mul (a b : Nat) : qN a * qN b = qN (a * b) := (Int32.ofNat_mul a b).symm
theorem qN_sub {a b : Nat} (h : b ≤ a) : qN a - qN b = qN (a - b) := (Int32.ofNat_sub a b h).symm
theorem qN_div {a b : Nat} (ha : a < 2147483648) (hb : b < 2147483648) : qN a / qN b = qN (a / b) := (Int32.ofNat_div ha hb).symm
theorem qN_vp {k n : Nat} (h : k < 2147483648) : vp_in (qN k) n ↔ k < n := by
  unfold vp_in
  rw [qN_nat h, Int32.lt_iff_toInt_lt, qN_t h]
  have h0 : (0 : Int32).toInt = 0 := by decide
  rw [h0]
  omega
theorem qN_neg1 {a : Nat} (h : a < 2147483648) : (qN a = -1) ↔ False := by
  rw [← Int32.toInt_inj, qN_t h]
  have : (-1 : Int32).toInt = -1 := by decide
  exact iff_false_intro (by omega)
theorem qN_neg {a : Nat} (h : a < 2147483648) : qN a < 0 ↔ False := by
  rw [Int32.lt_iff_toInt_lt, qN_t h]
  have h0 : (0 : Int32).toInt = 0 := by decide
  exact iff_false_intro (by omega)
theorem qN_nn {a : Nat} (h : a < 2147483648) : (0 : Int32) ≤ qN a ↔ True := by
  rw [Int32.le_iff_toInt_le, qN_t h]
  have h0 : (0 : Int32).toInt = 0 := by decide
  exact iff_true_intro (by omega)
theorem qN_lit (n : Nat) : (OfNat.ofNat n : Int32) = qN n := rfl
theorem qN_of {v : Int32} (h : ¬ v < 0) : ∃ k, k < 2147483648 ∧ v = qN k := by
  have h0 : 0 ≤ v := by
    rw [Int32.le_iff_toInt_le, Int32.toInt_zero]
    rw [Int32.lt_iff_toInt_lt, Int32.toInt_zero] at h
    omega
  exact ⟨v.toNatClampNeg, Int32.toNatClampNeg_lt v, (Int32.ofNat_toNatClampNeg v h0).symm⟩
/-- a number below n -/
def inr (v : Int32) (n : Nat) : Prop := ∃ k, k < n ∧ v = qN k
theorem wi_of {v : Int32} {n : Nat} (hn : n < 2147483647) (h : ¬ v < 0) (h2 : ¬ qN n < v) : inr v (n + 1) := by
  obtain ⟨k, hk, rfl⟩ := qN_of h
  rw [qN_lt (by omega) hk] at h2
  exact ⟨k, by omega, rfl⟩
theorem Bd_eq {α : Type} (x : α) (K : α → Prop) : Bd x K ↔ K x := ⟨fun h => h x rfl, fun h y e => e ▸ h⟩
theorem gI_I (μ : MM) (k j : Nat) (v : Int32) (a b : Nat) : gI (sI μ k j v) a b = if a = k ∧ b = j then v else gI μ a b := rfl
theorem gI_J (μ : MM) (k j : Nat) (v : Int64) (a b : Nat) : gI (sJ μ k j v) a b = gI μ a b := rfl
theorem gI_R (μ : MM) (k j : Nat) (v : Option Nat) (a b : Nat) : gI (sR μ k j v) a b = gI μ a b := rfl
theorem gJ_J (μ : MM) (k j : Nat) (v : Int64) (a b : Nat) : gJ (sJ μ k j v) a b = if a = k ∧ b = j then v else gJ μ a b := rfl
theorem gJ_I (μ : MM) (k j : Nat) (v : Int32) (a b : Nat) : gJ (sI μ k j v) a b = gJ μ a b := rfl
theorem gJ_R (μ : MM) (k j : Nat) (v : Option Nat) (a b : Nat) : gJ (sR μ k j v) a b = gJ μ a b := rfl
theorem gR_I (μ : MM) (k j : Nat) (v : Int32) (a b : Nat) : gR (sI μ k j v) a b = gR μ a b := rfl
theorem gR_J (μ : MM) (k j : Nat) (v : Int64) (a b : Nat) : gR (sJ μ k j v) a b = gR μ a b := rfl
theorem gR_R (μ : MM) (k j : Nat) (v : Option Nat) (a b : Nat) : gR (sR μ k j v) a b = if a = k ∧ b = j then v else gR μ a b := rfl
theorem Lp.wf {X : Type} {body : (X → Prop) → X → Prop} (m : X → Nat) (J : X → Prop) (step : ∀ (K : X → Prop) (x : X), J x → (∀ y, J y → m y < m x → K y) → body K x) {x : X} (h : J x) : Lp body x := by
  have key : ∀ (d : Nat) (x : X), J x → m x ≤ d → LpN body (d + 1) x := by
    intro d
    induction d with
    | zero => intro x hx hm; exact step _ x hx (fun y hy hl => absurd hl (by omega))
    | succ d ih => intro x hx hm; exact step _ x hx (fun y hy hl => ih y hy (by omega))
  exact ⟨_, key _ x h (Nat.le_refl _)⟩
theorem Lp.up {X : Type} {body : (X → Prop) → X → Prop} (n : Nat) (J : Nat → X → Prop) (step : ∀ (i : Nat) (K : X → Prop), i ≤ n → (i < n → ∀ y, J (i + 1) y → K y) → ∀ x, J i x → body K x) {x : X} (h : J 0 x) : Lp body x := by
  have key : ∀ (d i : Nat) (x : X), i ≤ n → n - i = d → J i x → LpN body (d + 1) x := by
    intro d
    induction d with
    | zero => intro i x hi hd hx; exact step i _ hi (fun hl => absurd hl (by omega)) x hx
    | succ d ih => intro i x hi hd hx; exact step i _ hi (fun hl y hy => ih (i + 1) y hl (by omega) hy) x hx
  exact ⟨_, key _ 0 x (Nat.zero_le _) rfl h⟩
theorem Lp.upE {X : Type} {body : (X → Prop) → X → Prop} (n : Nat) (f : Nat → X) (step : ∀ (i : Nat) (K : X → Prop), i ≤ n → (i < n → K (f (i + 1))) → body K (f i)) : Lp body (f 0) :=
  Lp.up n (fun i x => x = f i) (fun i K hi hK x hx => hx ▸ step i K hi (fun hl => hK hl _ rfl)) rfl
/-- how many below n -/
def cnt (P : Nat → Bool) : Nat → Nat
  | 0 => 0
  | n + 1 => cnt P n + (P n).toNat
theorem cnt_le (P : Nat → Bool) : ∀ n, cnt P n ≤ n
  | 0 => Nat.le_refl _
  | n + 1 => by have := cnt_le P n; have : (P n).toNat ≤ 1 := by cases P n <;> decide
                show cnt P n + _ ≤ _; omega
theorem cnt_congr {P R : Nat → Bool} : ∀ {n : Nat}, (∀ i, i < n → P i = R i) → cnt P n = cnt R n
  | 0, _ => rfl
  | n + 1, h => by
    show cnt P n + (P n).toNat = cnt R n + (R n).toNat
    rw [cnt_congr (n := n) (fun i hi => h i (by omega)), h n (by omega)]
theorem q_sub {a b : Int32} (h1 : -2147483648 ≤ a.toInt - b.toInt) (h2 : a.toInt - b.toInt < 2147483648) : (a - b).toInt = a.toInt - b.toInt := by
  rw [Int32.toInt_sub]
  exact Int.bmod_eq_of_le (by omega) (by omega)
/-- the sum below n -/
def sm (f : Nat → Nat) : Nat → Nat
  | 0 => 0
  | n + 1 => sm f n + f n
