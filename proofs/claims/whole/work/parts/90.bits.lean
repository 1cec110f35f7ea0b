/-! how many bits -/
def pc8 (a : Nat) : Nat := a % 2 + a / 2 % 2 + a / 4 % 2 + a / 8 % 2 + a / 16 % 2 + a / 32 % 2 + a / 64 % 2 + a / 128 % 2
def bs1 (a : Nat) : Nat := a - ((a / 2) &&& 85)
def bs2 (y : Nat) : Nat := (y &&& 51) + ((y / 4) &&& 51)
theorem and8 (x y : Nat) : x &&& y = 256 * ((x / 256) &&& (y / 256)) + ((x % 256) &&& (y % 256)) := by
  have h1 : (x &&& y) / 256 = (x / 256) &&& (y / 256) := Nat.and_div_two_pow (n := 8)
  have h2 : (x &&& y) % 256 = (x % 256) &&& (y % 256) := Nat.and_mod_two_pow (n := 8)
  rw [← h1, ← h2]
  exact (Nat.div_add_mod _ 256).symm
theorem andB {e0 e1 e2 m : Nat} (h0 : e0 < 256) (h1 : e1 < 256) (h2 : e2 < 256) (hm : m < 256) : (e0 + 256 * e1 + 65536 * e2) &&& (m + 256 * m + 65536 * m + 16777216 * m) = (e0 &&& m) + 256 * (e1 &&& m) + 65536 * (e2 &&& m) := by
  rw [and8 (e0 + 256 * e1 + 65536 * e2), show (e0 + 256 * e1 + 65536 * e2) / 256 = e1 + 256 * e2 by omega, show (e0 + 256 * e1 + 65536 * e2) % 256 = e0 by omega, show (m + 256 * m + 65536 * m + 16777216 * m) / 256 = m + 256 * m + 65536 * m by omega, show (m + 256 * m + 65536 * m + 16777216 * m) % 256 = m by omega]
  rw [and8 (e1 + 256 * e2), show (e1 + 256 * e2) / 256 = e2 by omega, show (e1 + 256 * e2) % 256 = e1 by omega, show (m + 256 * m + 65536 * m) / 256 = m + 256 * m by omega, show (m + 256 * m + 65536 * m) % 256 = m by omega]
  rw [and8 e2 (m + 256 * m), show e2 / 256 = 0 by omega, show e2 % 256 = e2 by omega, show (m + 256 * m) / 256 = m by omega, show (m + 256 * m) % 256 = m by omega, Nat.zero_and]
  omega
theorem bf1' : ∀ u, u < 16 → ∀ v, v < 16 → (∀ β, β < 2 → (((16 * u + v) / 2 + 128 * β) &&& 85) = ((16 * u + v) / 2) &&& 85) ∧ (((16 * u + v) / 2) &&& 85) ≤ (16 * u + v) := by decide
theorem bf1 (a : Nat) (h : a < 256) : (∀ β, β < 2 → ((a / 2 + 128 * β) &&& 85) = (a / 2) &&& 85) ∧ ((a / 2) &&& 85) ≤ a := by
  have := bf1' (a / 16) (by omega) (a % 16) (by omega)
  rw [Nat.div_add_mod a 16] at this
  exact this
theorem bf2' : ∀ u, u < 16 → ∀ v, v < 16 → (∀ β, β < 4 → ((bs1 (16 * u + v) / 4 + 64 * β) &&& 51) = (bs1 (16 * u + v) / 4) &&& 51) ∧ bs2 (bs1 (16 * u + v)) % 16 ≤ 4 ∧ bs2 (bs1 (16 * u + v)) / 16 ≤ 4 := by decide
theorem bf2 (a : Nat) (h : a < 256) : (∀ β, β < 4 → ((bs1 a / 4 + 64 * β) &&& 51) = (bs1 a / 4) &&& 51) ∧ bs2 (bs1 a) % 16 ≤ 4 ∧ bs2 (bs1 a) / 16 ≤ 4 := by
  have := bf2' (a / 16) (by omega) (a % 16) (by omega)
  rw [Nat.div_add_mod a 16] at this
  exact this
theorem bf3' : ∀ u, u < 16 → ∀ v, v < 16 → ∀ β, β < 5 → ((bs2 (bs1 (16 * u + v)) + bs2 (bs1 (16 * u + v)) / 16 + 16 * β) &&& 15) = pc8 (16 * u + v) ∧ bs2 (bs1 (16 * u + v)) + bs2 (bs1 (16 * u + v)) / 16 + 16 * β < 256 := by decide
theorem bf3 (a : Nat) (h : a < 256) : ∀ β, β < 5 → ((bs2 (bs1 a) + bs2 (bs1 a) / 16 + 16 * β) &&& 15) = pc8 a ∧ bs2 (bs1 a) + bs2 (bs1 a) / 16 + 16 * β < 256 := by
  have := bf3' (a / 16) (by omega) (a % 16) (by omega)
  rw [Nat.div_add_mod a 16] at this
  exact this
theorem bf4 : ∀ j, j < 8 → ∀ a, a < 2 ^ j → pc8 (a + 2 ^ j) = pc8 a + 1 := by decide
theorem pc8_le : ∀ a, pc8 a ≤ 8 := fun a => by unfold pc8; omega
theorem qN_and (a b : Nat) : qN a &&& qN b = qN (a &&& b) := by
  apply Int32.toBitVec.inj
  show BitVec.ofNat 32 a &&& BitVec.ofNat 32 b = BitVec.ofNat 32 (a &&& b)
  exact BitVec.ofNat_and.symm
theorem shrk {r : Nat} (hr : r < 4294967296) (k : Nat) (v : Int32) (hv : (v.toUInt32 &&& Int32.toUInt32 31).toBitVec = BitVec.ofNat 32 k) (hk : k < 32) : ((qN r).toUInt32 >>> (v.toUInt32 &&& Int32.toUInt32 31)).toInt32 = qN (r / 2 ^ k) := by
  apply Int32.toBitVec.inj
  apply BitVec.eq_of_toNat_eq
  show ((BitVec.ofNat 32 r) >>> ((v.toUInt32 &&& Int32.toUInt32 31).toBitVec % 32)).toNat = (BitVec.ofNat 32 (r / 2 ^ k)).toNat
  rw [hv]
  have e : (BitVec.ofNat 32 k % 32 : BitVec 32).toNat = k := by
    rw [BitVec.toNat_umod, BitVec.toNat_ofNat, Nat.mod_eq_of_lt (show k < 2 ^ 32 by omega)]
    exact Nat.mod_eq_of_lt hk
  show ((BitVec.ofNat 32 r) >>> (BitVec.ofNat 32 k % 32 : BitVec 32).toNat).toNat = _
  rw [e, BitVec.toNat_ushiftRight, BitVec.toNat_ofNat, BitVec.toNat_ofNat, Nat.shiftRight_eq_div_pow, Nat.mod_eq_of_lt (show r < 2 ^ 32 from hr)]
  refine (Nat.mod_eq_of_lt ?_).symm
  exact Nat.lt_of_le_of_lt (Nat.div_le_self _ _) hr
theorem bitc {X a b c : Nat} (ha : a < 256) (hb : b < 256) (hc : c < 256) (hX : X = a + 256 * b + 65536 * c) {μ : MM} {Q : Int32 → MM → Prop} (hQ : Q (qN (pc8 a + pc8 b + pc8 c)) μ) : GJ6_bitCount_0f7a4 (qN X) μ Q := by
  obtain ⟨a1, a2⟩ := bf1 a ha
  obtain ⟨b1, b2⟩ := bf1 b hb
  obtain ⟨c1, c2⟩ := bf1 c hc
  obtain ⟨a3, a4, a5⟩ := bf2 a ha
  obtain ⟨b3, b4, b5⟩ := bf2 b hb
  obtain ⟨c3, c4, c5⟩ := bf2 c hc
  have la := pc8_le a
  have lb := pc8_le b
  have lc := pc8_le c
  unfold GJ6_bitCount_0f7a4
  have e1 : (X / 2 ^ 1) &&& 1431655765 = ((a / 2) &&& 85) + 256 * ((b / 2) &&& 85) + 65536 * ((c / 2) &&& 85) := by
    have := andB (e0 := a / 2 + 128 * (b % 2)) (e1 := b / 2 + 128 * (c % 2)) (e2 := c / 2) (m := 85) (by omega) (by omega) (by omega) (by decide)
    rw [a1 _ (by omega), b1 _ (by omega)] at this
    rw [← this, hX, show (a + 256 * b + 65536 * c) / 2 ^ 1 = a / 2 + 128 * (b % 2) + 256 * (b / 2 + 128 * (c % 2)) + 65536 * (c / 2) by omega]
  have e2 : X - ((X / 2 ^ 1) &&& 1431655765) = bs1 a + 256 * bs1 b + 65536 * bs1 c := by
    rw [e1, hX]; unfold bs1; omega
  have l2 : ((X / 2 ^ 1) &&& 1431655765) ≤ X := by rw [e1, hX]; omega
  rw [shrk (r := X) (by omega) 1 1 (by decide) (by decide), show (1431655765 : Int32) = qN 1431655765 from rfl, qN_and, qN_sub l2, e2, Bd_eq]
  have sa : bs1 a < 256 := by unfold bs1; omega
  have sb : bs1 b < 256 := by unfold bs1; omega
  have sc : bs1 c < 256 := by unfold bs1; omega
  have e3 : ((bs1 a + 256 * bs1 b + 65536 * bs1 c) / 2 ^ 2) &&& 858993459 = ((bs1 a / 4) &&& 51) + 256 * ((bs1 b / 4) &&& 51) + 65536 * ((bs1 c / 4) &&& 51) := by
    have := andB (e0 := bs1 a / 4 + 64 * (bs1 b % 4)) (e1 := bs1 b / 4 + 64 * (bs1 c % 4)) (e2 := bs1 c / 4) (m := 51) (by omega) (by omega) (by omega) (by decide)
    rw [a3 _ (by omega), b3 _ (by omega)] at this
    rw [← this, show (bs1 a + 256 * bs1 b + 65536 * bs1 c) / 2 ^ 2 = bs1 a / 4 + 64 * (bs1 b % 4) + 256 * (bs1 b / 4 + 64 * (bs1 c % 4)) + 65536 * (bs1 c / 4) by omega]
  have e4 : (bs1 a + 256 * bs1 b + 65536 * bs1 c) &&& 858993459 = (bs1 a &&& 51) + 256 * (bs1 b &&& 51) + 65536 * (bs1 c &&& 51) := andB (m := 51) sa sb sc (by decide)
  rw [shrk (r := bs1 a + 256 * bs1 b + 65536 * bs1 c) (by omega) 2 2 (by decide) (by decide), show (858993459 : Int32) = qN 858993459 from rfl, qN_and, qN_and, qN_add, e3, e4, Bd_eq]
  have e5 : (bs1 a &&& 51) + 256 * (bs1 b &&& 51) + 65536 * (bs1 c &&& 51) + (((bs1 a / 4) &&& 51) + 256 * ((bs1 b / 4) &&& 51) + 65536 * ((bs1 c / 4) &&& 51)) = bs2 (bs1 a) + 256 * bs2 (bs1 b) + 65536 * bs2 (bs1 c) := by unfold bs2; omega
  rw [e5]
  obtain ⟨a6, a7⟩ := bf3 a ha (bs2 (bs1 b) % 16) (by omega)
  obtain ⟨b6, b7⟩ := bf3 b hb (bs2 (bs1 c) % 16) (by omega)
  obtain ⟨c6, c7⟩ := bf3 c hc 0 (by decide)
  generalize bs2 (bs1 a) = p at *
  generalize bs2 (bs1 b) = q at *
  generalize bs2 (bs1 c) = r at *
  have e6 : ((p + 256 * q + 65536 * r) + (p + 256 * q + 65536 * r) / 2 ^ 4) &&& 252645135 = pc8 a + 256 * pc8 b + 65536 * pc8 c := by
    have := andB (e0 := p + p / 16 + 16 * (q % 16)) (e1 := q + q / 16 + 16 * (r % 16)) (e2 := r + r / 16 + 16 * 0) (m := 15) a7 b7 c7 (by decide)
    rw [a6, b6, c6] at this
    rw [← this, show (p + 256 * q + 65536 * r) + (p + 256 * q + 65536 * r) / 2 ^ 4 = p + p / 16 + 16 * (q % 16) + 256 * (q + q / 16 + 16 * (r % 16)) + 65536 * (r + r / 16 + 16 * 0) by omega]
  rw [shrk (r := p + 256 * q + 65536 * r) (by omega) 4 4 (by decide) (by decide), qN_add, show (252645135 : Int32) = qN 252645135 from rfl, qN_and, e6, Bd_eq]
  rw [shrk (r := pc8 a + 256 * pc8 b + 65536 * pc8 c) (by omega) 8 8 (by decide) (by decide), qN_add, Bd_eq]
  rw [shrk (by omega) 16 16 (by decide) (by decide), qN_add, Bd_eq, show (63 : Int32) = qN 63 from rfl, qN_and]
  have e7 : ∀ n : Nat, n &&& 63 = n % 64 := fun n => Nat.and_two_pow_sub_one_eq_mod n 6
  rw [e7]
  have e8 : (pc8 a + 256 * pc8 b + 65536 * pc8 c + (pc8 a + 256 * pc8 b + 65536 * pc8 c) / 2 ^ 8 + (pc8 a + 256 * pc8 b + 65536 * pc8 c + (pc8 a + 256 * pc8 b + 65536 * pc8 c) / 2 ^ 8) / 2 ^ 16) % 64 = pc8 a + pc8 b + pc8 c := by
    rw [show (pc8 a + 256 * pc8 b + 65536 * pc8 c) / 2 ^ 8 = pc8 b + 256 * pc8 c by omega, show (pc8 a + 256 * pc8 b + 65536 * pc8 c + (pc8 b + 256 * pc8 c)) / 2 ^ 16 = pc8 c by omega]
    omega
  rw [e8]
  exact hQ
/-- a number of the bits that are told -/
def bnb (S : Nat → Bool) : Nat → Nat
  | 0 => 0
  | n + 1 => bnb S n + (if S n then 2 ^ n else 0)
theorem bnb_lt (S : Nat → Bool) : ∀ n, bnb S n < 2 ^ n
  | 0 => Nat.one_pos
  | n + 1 => by
    have ih := bnb_lt S n
    show bnb S n + (if S n then 2 ^ n else 0) < 2 ^ (n + 1)
    rw [Nat.pow_succ]
    split <;> omega
theorem bnb_pc (S : Nat → Bool) : ∀ n, n ≤ 24 → pc8 (bnb S n % 256) + pc8 (bnb S n / 256 % 256) + pc8 (bnb S n / 65536) = cnt S n
  | 0, _ => show pc8 (0 % 256) + pc8 (0 / 256 % 256) + pc8 (0 / 65536) = 0 from by decide
  | n + 1, hn => by
    have ih := bnb_pc S n (by omega)
    have lt := bnb_lt S n
    show pc8 ((bnb S n + (if S n then 2 ^ n else 0)) % 256) + pc8 ((bnb S n + (if S n then 2 ^ n else 0)) / 256 % 256) + pc8 ((bnb S n + (if S n then 2 ^ n else 0)) / 65536) = cnt S n + (S n).toNat
    cases hs : S n
    · simpa using ih
    · rw [if_pos rfl]
      show _ = cnt S n + 1
      generalize bnb S n = x at *
      rcases Nat.lt_or_ge n 8 with q | q
      · have p8 : (2 : Nat) ^ n ≤ 128 := Nat.pow_le_pow_right (by decide) (show n ≤ 7 by omega)
        have t := bf4 n q x lt
        rw [show (x + 2 ^ n) % 256 = x + 2 ^ n by omega, show (x + 2 ^ n) / 256 % 256 = 0 by omega, show (x + 2 ^ n) / 65536 = 0 by omega, t]
        rw [show x % 256 = x by omega, show x / 256 % 256 = 0 by omega, show x / 65536 = 0 by omega] at ih
        omega
      · rcases Nat.lt_or_ge n 16 with q2 | q2
        · obtain ⟨j, rfl⟩ : ∃ j, n = j + 8 := ⟨n - 8, by omega⟩
          have p8 : (2 : Nat) ^ j ≤ 128 := Nat.pow_le_pow_right (by decide) (show j ≤ 7 by omega)
          rw [Nat.pow_add] at lt ⊢
          generalize hp : (2 : Nat) ^ j = w at *
          have t := bf4 j (by omega) (x / 256) (by rw [hp]; omega)
          rw [hp] at t
          rw [show (x + w * 2 ^ 8) % 256 = x % 256 by omega, show (x + w * 2 ^ 8) / 256 % 256 = x / 256 + w by omega, show (x + w * 2 ^ 8) / 65536 = 0 by omega, t]
          rw [show x / 256 % 256 = x / 256 by omega, show x / 65536 = 0 by omega] at ih
          omega
        · obtain ⟨j, rfl⟩ : ∃ j, n = j + 16 := ⟨n - 16, by omega⟩
          have p8 : (2 : Nat) ^ j ≤ 128 := Nat.pow_le_pow_right (by decide) (show j ≤ 7 by omega)
          rw [Nat.pow_add] at lt ⊢
          generalize hp : (2 : Nat) ^ j = w at *
          have t := bf4 j (by omega) (x / 65536) (by rw [hp]; omega)
          rw [hp] at t
          rw [show (x + w * 2 ^ 16) % 256 = x % 256 by omega, show (x + w * 2 ^ 16) / 256 % 256 = x / 256 % 256 by omega, show (x + w * 2 ^ 16) / 65536 = x / 65536 + w by omega, t]
          omega
theorem bnb_c {S : Nat → Bool} {n : Nat} (hn : n ≤ 24) {μ : MM} {Q : Int32 → MM → Prop} (hQ : Q (qN (cnt S n)) μ) : GJ6_bitCount_0f7a4 (qN (bnb S n)) μ Q := by
  have lt := bnb_lt S n
  have p : (2 : Nat) ^ n ≤ 2 ^ 24 := Nat.pow_le_pow_right (by decide) hn
  refine bitc (a := bnb S n % 256) (b := bnb S n / 256 % 256) (c := bnb S n / 65536) (by omega) (by omega) (by omega) (by omega) ?_
  rw [bnb_pc S n hn]
  exact hQ
theorem bnb_or {S : Nat → Bool} {i : Nat} (hi : i < 24) : qN (bnb S i) ||| ((1 : Int32) <<< (qN i &&& 31)) = qN (bnb S i + 2 ^ i) := by
  have lt := bnb_lt S i
  have e : ∀ i, i < 24 → (1 : Int32) <<< (qN i &&& 31) = qN (2 ^ i) := by decide
  rw [e i hi]
  apply Int32.toBitVec.inj
  show BitVec.ofNat 32 (bnb S i) ||| BitVec.ofNat 32 (2 ^ i) = BitVec.ofNat 32 (bnb S i + 2 ^ i)
  rw [← BitVec.ofNat_or]
  congr 1
  have := Nat.two_pow_add_eq_or_of_lt lt 1
  rw [Nat.mul_one] at this
  rw [Nat.or_comm, ← this, Nat.add_comm]
