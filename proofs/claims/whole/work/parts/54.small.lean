/-! writes of the shared state in the class, one by one; small tests -/
theorem Cw_s3 {A : Nat → Nat → Nat} {μ : MM} (h : Ca A μ) (v : Nat) : Ca (up2 A 358 3 v) (sI μ 1 4 (qN v)) := Ca_w h (f := 358) (i := 3) (by unfold dom; decide) v
theorem Cw_s8 {A : Nat → Nat → Nat} {μ : MM} (h : Ca A μ) (v : Nat) : Ca (up2 A 358 8 v) (sI μ 1 8 (qN v)) := Ca_w h (f := 358) (i := 8) (by unfold dom; decide) v
theorem Cw_s12 {A : Nat → Nat → Nat} {μ : MM} (h : Ca A μ) (v : Nat) : Ca (up2 A 358 12 v) (sI μ 1 10 (qN v)) := Ca_w h (f := 358) (i := 12) (by unfold dom; decide) v
theorem Cw_s22 {A : Nat → Nat → Nat} {μ : MM} (h : Ca A μ) (v : Nat) : Ca (up2 A 358 22 v) (sI μ 1 14 (qN v)) := Ca_w h (f := 358) (i := 22) (by unfold dom; decide) v
theorem Cw_s28 {A : Nat → Nat → Nat} {μ : MM} (h : Ca A μ) (v : Nat) : Ca (up2 A 358 28 v) (sI μ 0 8 (qN v)) := Ca_w h (f := 358) (i := 28) (by unfold dom; decide) v
theorem Cw_s61 {A : Nat → Nat → Nat} {μ : MM} (h : Ca A μ) (v : Nat) : Ca (up2 A 358 61 v) (sI μ 237 5 (qN v)) := Ca_w h (f := 358) (i := 61) (by unfold dom; decide) v
theorem Cw_360 {A : Nat → Nat → Nat} {μ : MM} (h : Ca A μ) {i : Nat} (hi : i < 12) (v : Nat) : Ca (up2 A 360 i v) (sI μ 2 i (qN v)) := Ca_w h (f := 360) (i := i) (by unfold dom; omega) v
theorem Cw_361 {A : Nat → Nat → Nat} {μ : MM} (h : Ca A μ) {i : Nat} (hi : i < 12) (v : Nat) : Ca (up2 A 361 i v) (sI μ 3 i (qN v)) := Ca_w h (f := 361) (i := i) (by unfold dom; omega) v
theorem Cw_362 {A : Nat → Nat → Nat} {μ : MM} (h : Ca A μ) {i : Nat} (hi : i < 12) (v : Nat) : Ca (up2 A 362 i v) (sI μ 4 i (qN v)) := Ca_w h (f := 362) (i := i) (by unfold dom; omega) v
theorem Cw_363 {A : Nat → Nat → Nat} {μ : MM} (h : Ca A μ) {i : Nat} (hi : i < 12) (v : Nat) : Ca (up2 A 363 i v) (sI μ 5 i (qN v)) := Ca_w h (f := 363) (i := i) (by unfold dom; omega) v
theorem Cw_364 {A : Nat → Nat → Nat} {μ : MM} (h : Ca A μ) {i : Nat} (hi : i < 24) (v : Nat) : Ca (up2 A 364 i v) (sI μ 6 i (qN v)) := Ca_w h (f := 364) (i := i) (by unfold dom; omega) v
theorem Cw_365 {A : Nat → Nat → Nat} {μ : MM} (h : Ca A μ) {i : Nat} (hi : i < 24) (v : Nat) : Ca (up2 A 365 i v) (sI μ 7 i (qN v)) := Ca_w h (f := 365) (i := i) (by unfold dom; omega) v
theorem Cw_366 {A : Nat → Nat → Nat} {μ : MM} (h : Ca A μ) {i : Nat} (hi : i < 24) (v : Nat) : Ca (up2 A 366 i v) (sI μ 8 i (qN v)) := Ca_w h (f := 366) (i := i) (by unfold dom; omega) v
theorem Cw_367 {A : Nat → Nat → Nat} {μ : MM} (h : Ca A μ) {i : Nat} (hi : i < 96) (v : Nat) : Ca (up2 A 367 i v) (sI μ (19 + i) 0 (qN v)) := Ca_w h (f := 367) (i := i) (by unfold dom; omega) v
theorem Cw_368 {A : Nat → Nat → Nat} {μ : MM} (h : Ca A μ) {i : Nat} (hi : i < 96) (v : Nat) : Ca (up2 A 368 i v) (sI μ (19 + i) 1 (qN v)) := Ca_w h (f := 368) (i := i) (by unfold dom; omega) v
theorem Cw_369 {A : Nat → Nat → Nat} {μ : MM} (h : Ca A μ) {i : Nat} (hi : i < 96) (v : Nat) : Ca (up2 A 369 i v) (sI μ (19 + i) 2 (qN v)) := Ca_w h (f := 369) (i := i) (by unfold dom; omega) v
theorem Cw_370 {A : Nat → Nat → Nat} {μ : MM} (h : Ca A μ) {i : Nat} (hi : i < 96) (v : Nat) : Ca (up2 A 370 i v) (sI μ (19 + i) 3 (qN v)) := Ca_w h (f := 370) (i := i) (by unfold dom; omega) v
theorem Cw_371 {A : Nat → Nat → Nat} {μ : MM} (h : Ca A μ) {i : Nat} (hi : i < 96) (v : Nat) : Ca (up2 A 371 i v) (sI μ (19 + i) 4 (qN v)) := Ca_w h (f := 371) (i := i) (by unfold dom; omega) v
theorem Cw_372 {A : Nat → Nat → Nat} {μ : MM} (h : Ca A μ) {i : Nat} (hi : i < 96) (v : Nat) : Ca (up2 A 372 i v) (sI μ (19 + i) 5 (qN v)) := Ca_w h (f := 372) (i := i) (by unfold dom; omega) v
theorem Cw_373 {A : Nat → Nat → Nat} {μ : MM} (h : Ca A μ) {i : Nat} (hi : i < 96) (v : Nat) : Ca (up2 A 373 i v) (sI μ (19 + i) 6 (qN v)) := Ca_w h (f := 373) (i := i) (by unfold dom; omega) v
theorem Cw_374 {A : Nat → Nat → Nat} {μ : MM} (h : Ca A μ) {i : Nat} (hi : i < 96) (v : Nat) : Ca (up2 A 374 i v) (sI μ (19 + i) 7 (qN v)) := Ca_w h (f := 374) (i := i) (by unfold dom; omega) v
theorem Cw_375 {A : Nat → Nat → Nat} {μ : MM} (h : Ca A μ) {i : Nat} (hi : i < 96) (v : Nat) : Ca (up2 A 375 i v) (sI μ (19 + i) 8 (qN v)) := Ca_w h (f := 375) (i := i) (by unfold dom; omega) v
theorem Cw_380 {A : Nat → Nat → Nat} {μ : MM} (h : Ca A μ) {i : Nat} (hi : i < 60) (v : Nat) : Ca (up2 A 380 i v) (sI μ 357 i (qN v)) := Ca_w h (f := 380) (i := i) (by unfold dom; omega) v
theorem Cw_387 {A : Nat → Nat → Nat} {μ : MM} (h : Ca A μ) {i : Nat} (hi : i < 4) (v : Nat) : Ca (up2 A 387 i v) (sI μ 169 i (qN v)) := Ca_w h (f := 387) (i := i) (by unfold dom; omega) v
theorem Cw_388 {A : Nat → Nat → Nat} {μ : MM} (h : Ca A μ) {i : Nat} (hi : i < 4) (v : Nat) : Ca (up2 A 388 i v) (sI μ 170 i (qN v)) := Ca_w h (f := 388) (i := i) (by unfold dom; omega) v
theorem Cw_389 {A : Nat → Nat → Nat} {μ : MM} (h : Ca A μ) {i : Nat} (hi : i < 4) (v : Nat) : Ca (up2 A 389 i v) (sI μ 171 i (qN v)) := Ca_w h (f := 389) (i := i) (by unfold dom; omega) v
theorem Cw_401 {A : Nat → Nat → Nat} {μ : MM} (h : Ca A μ) {i : Nat} (hi : i < 40) (v : Nat) : Ca (up2 A 401 i v) (sI μ 238 i (qN v)) := Ca_w h (f := 401) (i := i) (by unfold dom; omega) v
theorem Cw_402 {A : Nat → Nat → Nat} {μ : MM} (h : Ca A μ) {i : Nat} (hi : i < 40) (v : Nat) : Ca (up2 A 402 i v) (sI μ 239 i (qN v)) := Ca_w h (f := 402) (i := i) (by unfold dom; omega) v
theorem Cw_403 {A : Nat → Nat → Nat} {μ : MM} (h : Ca A μ) {i : Nat} (hi : i < 40) (v : Nat) : Ca (up2 A 403 i v) (sI μ 240 i (qN v)) := Ca_w h (f := 403) (i := i) (by unfold dom; omega) v
theorem Cw_407 {A : Nat → Nat → Nat} {μ : MM} (h : Ca A μ) {i : Nat} (hi : i < 3) (v : Nat) : Ca (up2 A 407 i v) (sI μ 13 i (qN v)) := Ca_w h (f := 407) (i := i) (by unfold dom; omega) v
theorem Cw_408 {A : Nat → Nat → Nat} {μ : MM} (h : Ca A μ) {i : Nat} (hi : i < 3) (v : Nat) : Ca (up2 A 408 i v) (sI μ 14 i (qN v)) := Ca_w h (f := 408) (i := i) (by unfold dom; omega) v
theorem Cw_409 {A : Nat → Nat → Nat} {μ : MM} (h : Ca A μ) {i k : Nat} (hi : i < 3) (hk : k < 96) (v : Nat) : Ca (up2 A 409 (96 * i + k) v) (sI μ (16 + i) k (qN v)) := by
  have h1 := Ca_w h (f := 409) (i := 96 * i + k) (by unfold dom; omega) v
  have h2 : cc 409 (96 * i + k) = 16 + i := by show 16 + (96 * i + k) / 96 = 16 + i; omega
  have h3 : cs 409 (96 * i + k) = k := by show (96 * i + k) % 96 = k; omega
  rw [h2, h3] at h1
  exact h1
theorem Cw_378 {A : Nat → Nat → Nat} {μ : MM} (h : Ca A μ) {i : Nat} (hi : i < 12) (v : Nat) : Ca (up2 A 378 i v) (sI μ (ecp i) 1 (qN v)) := Ca_w h (f := 378) (i := i) (by unfold dom; omega) v
/-! longs -/
def qL (n : Nat) : Int64 := Int64.ofNat n
theorem qL_t {n : Nat} (h : n < 9223372036854775808) : (qL n).toInt = n := Int64.toInt_ofNat_of_lt h
theorem qL_lt {a b : Nat} (ha : a < 9223372036854775808) (hb : b < 9223372036854775808) : qL a < qL b ↔ a < b := by
  rw [Int64.lt_iff_toInt_lt, qL_t ha, qL_t hb]; omega
theorem qL_le {a b : Nat} (ha : a < 9223372036854775808) (hb : b < 9223372036854775808) : qL a ≤ qL b ↔ a ≤ b := by
  rw [Int64.le_iff_toInt_le, qL_t ha, qL_t hb]; omega
theorem qL_eq {a b : Nat} (ha : a < 9223372036854775808) (hb : b < 9223372036854775808) : qL a = qL b ↔ a = b := by
  rw [← Int64.toInt_inj, qL_t ha, qL_t hb]; omega
theorem qL_lit (n : Nat) : (OfNat.ofNat n : Int64) = qL n := rfl
theorem qL_add (a b : Nat) : qL a + qL b = qL (a + b) := (Int64.ofNat_add a b).symm
theorem qL_mul (a b : Nat) : qL a * qL b = qL (a * b) := (Int64.ofNat_mul a b).symm
theorem qL_sub {a b : Nat} (h : b ≤ a) : qL a - qL b = qL (a - b) := (Int64.ofNat_sub a b h).symm
theorem qL_div {a b : Nat} (ha : a < 9223372036854775808) (hb : b < 9223372036854775808) : qL a / qL b = qL (a / b) := (Int64.ofNat_div ha hb).symm
theorem qN_6 {a : Nat} (ha : a < 2147483648) : (qN a).toInt64 = qL a := by
  apply Int64.toInt.inj
  rw [Int32.toInt_toInt64, qN_t ha, qL_t (by omega)]
theorem i6_lt {v w : Int32} : v.toInt64 < w.toInt64 ↔ v < w := by
  rw [Int64.lt_iff_toInt_lt, Int32.toInt_toInt64, Int32.toInt_toInt64, ← Int32.lt_iff_toInt_lt]
theorem lg_lt {x y : Int64} : lg_cmp x y < 0 ↔ x < y := by
  unfold lg_cmp
  by_cases h1 : y < x
  · rw [if_pos h1]
    rw [Int64.lt_iff_toInt_lt] at h1 ⊢
    exact ⟨fun q => absurd q (by decide), fun q => by omega⟩
  · rw [if_neg h1]
    by_cases h2 : x = y
    · rw [if_pos h2]
      subst h2
      exact ⟨fun q => absurd q (by decide), fun q => absurd q h1⟩
    · rw [if_neg h2]
      rw [Int64.lt_iff_toInt_lt] at h1 ⊢
      rw [← Int64.toInt_inj] at h2
      exact ⟨fun _ => by omega, fun _ => by decide⟩
theorem lg_gt {x y : Int64} : 0 < lg_cmp x y ↔ y < x := by
  unfold lg_cmp
  by_cases h1 : y < x
  · rw [if_pos h1]
    exact ⟨fun _ => h1, fun _ => by decide⟩
  · rw [if_neg h1]
    by_cases h2 : x = y
    · rw [if_pos h2]
      exact ⟨fun q => absurd q (by decide), fun q => absurd q h1⟩
    · rw [if_neg h2]
      exact ⟨fun q => absurd q (by decide), fun q => absurd q h1⟩
theorem lg_0 {x y : Int64} : lg_cmp x y = 0 ↔ x = y := by
  unfold lg_cmp
  by_cases h1 : y < x
  · rw [if_pos h1]
    refine ⟨fun q => absurd q (by decide), fun q => ?_⟩
    subst q
    rw [Int64.lt_iff_toInt_lt] at h1
    omega
  · rw [if_neg h1]
    by_cases h2 : x = y
    · rw [if_pos h2]
      exact ⟨fun _ => h2, fun _ => rfl⟩
    · rw [if_neg h2]
      exact ⟨fun q => absurd q (by decide), fun q => absurd q h2⟩
theorem lg_ge {x y : Int64} : 0 ≤ lg_cmp x y ↔ ¬ x < y := by
  rw [← lg_lt, Int32.le_iff_toInt_le, Int32.lt_iff_toInt_lt]
  have h0 : (0 : Int32).toInt = 0 := by decide
  omega
theorem lg_le {x y : Int64} : lg_cmp x y ≤ 0 ↔ ¬ y < x := by
  rw [← lg_gt, Int32.le_iff_toInt_le, Int32.lt_iff_toInt_lt]
  have h0 : (0 : Int32).toInt = 0 := by decide
  omega
theorem inr_q {k n : Nat} (hk : k < 2147483648) (hn : n ≤ 2147483648) : inr (qN k) n ↔ k < n := by
  constructor
  · rintro ⟨j, hj, e⟩
    rw [qN_eq hk (by omega)] at e
    omega
  · intro h
    exact ⟨k, h, rfl⟩
theorem inr_w {v : Int32} {b : Nat} (hb : b < 2147483647) : inr v (b + 1) ↔ (¬ v < 0 ∧ ¬ qN b < v) := by
  constructor
  · rintro ⟨j, hj, rfl⟩
    rw [qN_lt (by omega) (by omega)]
    refine ⟨fun q => ?_, by omega⟩
    rw [qN_neg (by omega)] at q
    exact q
  · rintro ⟨h1, h2⟩
    exact wi_of hb h1 h2
theorem within0_s {v w : Int32} (b : Nat) (hw : w = qN b) (hb : b < 2147483647) {μ : MM} {Q : Int32 → MM → Prop} (hy : inr v (b + 1) → Q 1 μ) (hn : ¬ inr v (b + 1) → Q 0 μ) : G11_within v 0 w μ Q := by
  subst hw
  rw [inr_w hb] at hy hn
  exact ⟨fun q => hn (fun r => r.1 q), fun q => ⟨fun q2 => hn (fun r => r.2 q2), fun q2 => hy ⟨q, q2⟩⟩⟩
theorem in0_s {v : Int32} {w : Int64} (b : Nat) (hw : w = (qN b).toInt64) (hb : b < 2147483647) {μ : MM} {Q : Int32 → MM → Prop} (hy : inr v (b + 1) → Q 1 μ) (hn : ¬ inr v (b + 1) → Q 0 μ) : G12_in v.toInt64 0 w μ Q := by
  subst hw
  rw [inr_w hb] at hy hn
  unfold G12_in G12_in_J17
  have e0 : (0 : Int64) = (0 : Int32).toInt64 := rfl
  rw [lg_lt, lg_gt, e0, i6_lt, i6_lt]
  exact ⟨fun q => hn (fun r => r.1 q), fun q => ⟨fun q2 => hn (fun r => r.2 q2), fun q2 => hy ⟨q, q2⟩⟩⟩
/-- between 0 and n - 1, for a count n -/
theorem inc_s {v : Int32} {n : Nat} (hn9 : n < 2147483647) {μ : MM} {Q : Int32 → MM → Prop} (hy : inr v n → Q 1 μ) (hn : ¬ inr v n → Q 0 μ) : G12_in v.toInt64 0 (qN n - 1).toInt64 μ (fun r4 μ3 => bo r4 ∧ Q r4 μ3) := by
  unfold G12_in G12_in_J17
  have e0 : (0 : Int64) = (0 : Int32).toInt64 := rfl
  rw [lg_lt, lg_gt, e0, i6_lt, i6_lt]
  have h1 : (qN n - 1).toInt = (n : Int) - 1 := by
    have h2 : (1 : Int32).toInt = 1 := by decide
    rw [q_sub (by rw [qN_t (by omega), h2]; omega) (by rw [qN_t (by omega), h2]; omega), qN_t (by omega), h2]
  refine ⟨fun q => ⟨bo_0, hn ?_⟩, fun q => ⟨fun q2 => ⟨bo_0, hn ?_⟩, fun q2 => ⟨bo_1, hy ?_⟩⟩⟩
  · rintro ⟨k, hk, rfl⟩
    rw [qN_neg (by omega)] at q
    exact q
  · rintro ⟨k, hk, rfl⟩
    rw [Int32.lt_iff_toInt_lt, h1, qN_t (by omega)] at q2
    omega
  · obtain ⟨k, hk, rfl⟩ := qN_of q
    rw [Int32.lt_iff_toInt_lt, h1, qN_t (by omega)] at q2
    exact ⟨k, by omega, rfl⟩
theorem incc_s {v : Int32} {n : Nat} (hn9 : n < 2147483647) {μ : MM} {Q : Int32 → MM → Prop} (hy : inr v n → Q 1 μ) (hn : ¬ inr v n → Q 0 μ) : (v < 0 → Q 0 μ) ∧ (¬ v < 0 → ((qN n ≤ v → Q 0 μ) ∧ (¬ qN n ≤ v → Q 1 μ))) := by
  refine ⟨fun q => hn ?_, fun q => ⟨fun q2 => hn ?_, fun q2 => hy ?_⟩⟩
  · rintro ⟨k, hk, rfl⟩
    rw [qN_neg (by omega)] at q
    exact q
  · rintro ⟨k, hk, rfl⟩
    rw [qN_le (by omega) (by omega)] at q2
    omega
  · obtain ⟨k, hk, rfl⟩ := qN_of q
    rw [qN_le (by omega) (by omega)] at q2
    exact ⟨k, by omega, rfl⟩
theorem c_isName {A : Nat → Nat → Nat} {μ : MM} {v : Int32} {Q : Int32 → MM → Prop} (h : Ca A μ) (hb : A 358 3 < 2147483647) (hy : inr v (A 358 3) → Q 1 μ) (hn : ¬ inr v (A 358 3) → Q 0 μ) : G10_isName v μ Q := by
  unfold G10_isName G10_isName_J16
  rw [Ca_s3 h]
  exact incc_s hb hy hn
theorem c_isHouse {A : Nat → Nat → Nat} {μ : MM} {v : Int32} {Q : Int32 → MM → Prop} (h : Ca A μ) (hb : A 358 8 < 2147483647) (hy : inr v (A 358 8) → Q 1 μ) (hn : ¬ inr v (A 358 8) → Q 0 μ) : G10_isHouse v μ Q := by
  unfold G10_isHouse G10_isHouse_J16
  rw [Ca_s8 h]
  exact incc_s hb hy hn
theorem c_isLetter {A : Nat → Nat → Nat} {μ : MM} {v : Int32} {Q : Int32 → MM → Prop} (h : Ca A μ) (hb : A 358 12 < 2147483647) (hy : inr v (A 358 12) → Q 1 μ) (hn : ¬ inr v (A 358 12) → Q 0 μ) : G10_isLetter v μ Q := by
  unfold G10_isLetter G10_isLetter_J16
  rw [Ca_s12 h]
  exact incc_s hb hy hn
theorem m_isName {A : Nat → Nat → Nat} {μ : MM} {v : Int32} {Q : Int32 → MM → Prop} (h : Ma A μ) (hb : A 358 3 < 2147483647) (hy : inr v (A 358 3) → Q 1 μ) (hn : ¬ inr v (A 358 3) → Q 0 μ) : G12_isName v μ Q := by
  unfold G12_isName
  rw [Ma_s3 h]
  exact inc_s hb hy hn
theorem m_isHouse {A : Nat → Nat → Nat} {μ : MM} {v : Int32} {Q : Int32 → MM → Prop} (h : Ma A μ) (hb : A 358 8 < 2147483647) (hy : inr v (A 358 8) → Q 1 μ) (hn : ¬ inr v (A 358 8) → Q 0 μ) : G12_isHouse v μ Q := by
  unfold G12_isHouse
  rw [Ma_s8 h]
  exact inc_s hb hy hn
theorem m_isLetter {A : Nat → Nat → Nat} {μ : MM} {v : Int32} {Q : Int32 → MM → Prop} (h : Ma A μ) (hb : A 358 12 < 2147483647) (hy : inr v (A 358 12) → Q 1 μ) (hn : ¬ inr v (A 358 12) → Q 0 μ) : G12_isLetter v μ Q := by
  unfold G12_isLetter
  rw [Ma_s12 h]
  exact inc_s hb hy hn
theorem m_thr {A X : Nat → Nat → Nat} {W : List Int64} {μ : MM} (h : Ms A X W μ) (v : Int32) : Ms A X W (sI μ 358 0 v) := by
  obtain ⟨h1, h2, h3, h4⟩ := h
  refine ⟨fun f i d => ?_, fun p hp k hk => ?_, ?_, fun i hi => h4 i hi⟩
  · rw [gI_I, if_neg (by have := dom_m d; unfold dom at d; omega)]; exact h1 f i d
  · rw [gI_I, if_neg (by omega)]; exact h2 p hp k hk
  · exact h3
theorem fm_thr (μ : MM) (v : Int32) : FM μ (sI μ 358 0 v) := fun k j hk => ⟨by rw [gI_I, if_neg (by omega)], rfl, rfl⟩

theorem dm_l (c d : Nat) : c - c / d * d = c % d := by
  have := Nat.div_add_mod c d
  rw [Nat.mul_comm] at this
  omega
/-- cells that may change while codes and rows stay: the class's, the model's -/
def cT (k _j : Nat) : Prop := k < 358 ∧ k ≠ 151 ∧ k ≠ 152 ∧ ¬ (115 ≤ k ∧ k < 151 ∧ (k - 115) % 3 = 1)
def mT (k j : Nat) : Prop := 358 ≤ k ∧ k < 410 ∧ k ≠ 359 ∧ k ≠ 377 ∧ ¬ (k = 358 ∧ j = 1)
theorem Cs.up {A A' X : Nat → Nat → Nat} {W : List Int64} {μ μ' : MM} (h : Cs A X W μ) (f : Sm cT μ μ') (h' : Ca A' μ') (hl : ∀ p, p < 12 → A' 378 p = A 378 p) : Cs A' X W μ' := by
  obtain ⟨h1, h2, h3, h4, h5⟩ := h
  refine ⟨h', fun p hp k hk => ?_, ?_, fun i hi => ?_, ?_⟩
  · rw [(f.1 (ecp p + 1) k (by unfold cT ecp; split <;> omega)).1]; exact h2 p hp k (hl p hp ▸ hk)
  · rw [(f.1 151 1 (by unfold cT; omega)).1]; exact h3
  · rw [(f.1 152 i (by unfold cT; omega)).2]; exact h4 i hi
  · rw [f.2, f.2]; exact h5
theorem Ms.up {A A' X : Nat → Nat → Nat} {W : List Int64} {μ μ' : MM} (h : Ms A X W μ) (f : Sm mT μ μ') (h' : Ma A' μ') (hl : ∀ p, p < 12 → A' 378 p = A 378 p) : Ms A' X W μ' := by
  obtain ⟨h1, h2, h3, h4⟩ := h
  refine ⟨h', fun p hp k hk => ?_, ?_, fun i hi => ?_⟩
  · rw [(f.1 _ _ (by unfold mT; omega)).1]; exact h2 p hp k (hl p hp ▸ hk)
  · rw [(f.1 _ _ (by unfold mT; omega)).1]; exact h3
  · rw [(f.1 _ _ (by unfold mT; omega)).2]; exact h4 i hi
theorem FC_cT {μ μ' : MM} (f : Sm cT μ μ') : FC μ μ' := fun k j hk => f.1 k j (by unfold cT; omega)
theorem FM_mT {μ μ' : MM} (f : Sm mT μ μ') : FM μ μ' := fun k j hk => ⟨(f.1 k j (by unfold mT; omega)).1, (f.1 k j (by unfold mT; omega)).2, f.2 k j⟩
theorem bo_q0 : bo (qN 0) ↔ True := iff_true_intro bo_0
theorem bo_q1 : bo (qN 1) ↔ True := iff_true_intro bo_1
