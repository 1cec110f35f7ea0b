/-! laws as texts: the class -/
theorem c_strength {x : Nat} {μ : MM} {Q : Int32 → MM → Prop} (hx : x < 256) (hQ : Q (qN (stg x)) μ) : G3_strength (qN x) μ Q := by
  have e : ∀ a, a < 256 → (qN x = qN a ↔ x = a) := fun a ha => qN_eq (by omega) (by omega)
  have h : ∀ a s, a < 256 → stg a = s → qN x = qN a → Q (qN s) μ := fun a s ha es q => by
    have := (e a ha).mp q
    subst this
    rw [es] at hQ
    exact hQ
  unfold G3_strength
  refine ⟨h 33 6 (by decide) rfl, h 38 2 (by decide) rfl, h 42 5 (by decide) rfl, h 43 4 (by decide) rfl, h 45 4 (by decide) rfl, h 60 3 (by decide) rfl, h 61 3 (by decide) rfl, h 62 3 (by decide) rfl, h 124 1 (by decide) rfl, h 126 6 (by decide) rfl, fun n1 n2 n3 n4 n5 n6 n7 n8 n9 n10 => ?_⟩
  have z : stg x = 0 := by
    unfold stg
    rw [if_neg (fun q => n1 ((e 33 (by decide)).mpr q)), if_neg (fun q => n2 ((e 38 (by decide)).mpr q)), if_neg (fun q => n3 ((e 42 (by decide)).mpr q)), if_neg (fun q => n4 ((e 43 (by decide)).mpr q)), if_neg (fun q => n5 ((e 45 (by decide)).mpr q)), if_neg (fun q => n6 ((e 60 (by decide)).mpr q)), if_neg (fun q => n7 ((e 61 (by decide)).mpr q)), if_neg (fun q => n8 ((e 62 (by decide)).mpr q)), if_neg (fun q => n9 ((e 124 (by decide)).mpr q)), if_neg (fun q => n10 ((e 126 (by decide)).mpr q))]
  rw [z] at hQ
  exact hQ
theorem stg_6 (x : Nat) : stg x ≤ 6 := by
  unfold stg
  repeat' split
  all_goals decide
theorem c_isDg {x : Nat} {μ : MM} {Q : Int32 → MM → Prop} (hx : x < 256) (hy : isDg x = true → Q 1 μ) (hn : isDg x = false → Q 0 μ) : G3_isDigit (qN x) μ Q := by
  have c1 : qN x < 48 ↔ x < 48 := qN_lt (b := 48) (by omega) (by decide)
  have c2 : (57 : Int32) < qN x ↔ 57 < x := qN_lt (a := 57) (by decide) (by omega)
  unfold G3_isDigit G3_isDigit_J16
  rw [c1, c2]
  refine ⟨fun q => hn ?_, fun q => ⟨fun q2 => hn ?_, fun q2 => hy ?_⟩⟩
  · unfold isDg; rw [decide_eq_false (show ¬ 48 ≤ x by omega), Bool.false_and]
  · unfold isDg; rw [decide_eq_false (show ¬ x ≤ 57 by omega), Bool.and_false]
  · unfold isDg; rw [decide_eq_true (show 48 ≤ x by omega), decide_eq_true (show x ≤ 57 by omega)]; rfl
theorem c_isJoin {x : Nat} {μ : MM} {Q : Int32 → MM → Prop} (hx : x < 256) (hy : 1 ≤ stg x → stg x ≤ 5 → Q 1 μ) (hn : ¬ (1 ≤ stg x ∧ stg x ≤ 5) → Q 0 μ) : G3_isJoining (qN x) μ Q := by
  have b6 := stg_6 x
  unfold G3_isJoining
  refine c_strength hx ((within_q (b := 1) (c := 5) (by omega) (by decide) (by decide)).mpr ?_)
  by_cases q : 1 ≤ stg x ∧ stg x ≤ 5
  · rw [if_pos q]; exact ⟨bo_1, hy q.1 q.2⟩
  · rw [if_neg q]; exact ⟨bo_0, hn q⟩
def thl (i : Nat) : Nat := [119, 101, 115, 100, 112, 120, 99, 97, 116, 111, 110, 107, 109, 114].getD i 0
theorem thl_t : ∀ i, i < 14 → tix (thl i) = i := by decide
theorem thl_b : ∀ i, i < 14 → (bytJS.getD 0 []).getD i 0 = qN (thl i) := by decide
theorem thl_7 : ∀ i, i < 14 → thl i < 128 := by decide
def tixC (x : Nat) : Bool := (decide (tix x < 14) && decide (thl (tix x) = x)) || decide (tix x = 99)
theorem tixA : ∀ a, a < 16 → ∀ b, b < 16 → tixC (16 * a + b) = true := by decide
theorem tix_c {x : Nat} (hx : x < 256) : (tix x < 14 ∧ thl (tix x) = x) ∨ tix x = 99 := by
  have h := tixA (x / 16) (by omega) (x % 16) (by omega)
  rw [show 16 * (x / 16) + x % 16 = x by omega] at h
  unfold tixC at h
  rw [Bool.or_eq_true, Bool.and_eq_true, decide_eq_true_eq, decide_eq_true_eq, decide_eq_true_eq] at h
  exact h
theorem u16A : ∀ a, a < 16 → ∀ b, b < 16 → ((qN (16 * a + b)).toUInt32 % 65536).toInt32 = qN (16 * a + b) := by decide
theorem u16 {x : Nat} (hx : x < 256) : ((qN x).toUInt32 % 65536).toInt32 = qN x := by
  have h := u16A (x / 16) (by omega) (x % 16) (by omega)
  rw [show 16 * (x / 16) + x % 16 = x by omega] at h
  exact h
theorem by8 {x a : Nat} (hx : x < 256) (ha : a < 128) : qN a = (qN x).toInt8.toInt32 ↔ a = x := by
  have e1 : ((qN x).toInt8.toInt32).toInt = (x : Int).bmod 256 := by
    rw [Int8.toInt_toInt32]
    show (Int32.ofNat x).toInt8.toInt = _
    rw [Int32.toInt8_ofNat', Int8.toInt_ofNat']
  rw [← Int32.toInt_inj, e1, qN_t (by omega)]
  rcases Nat.lt_or_ge x 128 with q | q
  · rw [Int.bmod_eq_of_le (by omega) (by omega)]; omega
  · have : (x : Int).bmod 256 = x - 256 := by
      show (if (x : Int) % (256 : Int) < ((256 : Int) + 1) / 2 then (x : Int) % (256 : Int) else (x : Int) % (256 : Int) - (256 : Int)) = _
      rw [if_neg (by omega)]
      omega
    rw [this]
    omega
theorem c_index {x : Nat} {μ : MM} {Q : Int32 → MM → Prop} (hx : x < 256) (hy : tix x < 14 → Q (qN (tix x)) μ) (hn : tix x = 99 → Q (-1) μ) : GJ0_indexOf_0f7a4 0 (((qN x).toUInt32 % 65536).toInt32) μ Q := by
  rw [u16 hx]
  have c1 : ¬ qN x < 0 := fun r => (qN_neg (by omega)).mp r
  have c2 : ¬ (255 : Int32) < qN x := fun r => absurd ((qN_lt (a := 255) (by decide) (by omega)).mp r) (by omega)
  refine ⟨fun r => absurd r c1, fun _ => ⟨fun r => absurd r c2, fun _ => ⟨fun _ => ?_, fun r => absurd r (by decide)⟩⟩⟩
  rw [Bd_eq, Bd_eq]
  refine ⟨fun _ => ?_, fun r => absurd (by decide) r⟩
  have e10 : (if (0 : Int32) < 0 then (0 : Int32) else 0) = 0 := by decide
  have e11 : (if (Int32.ofNat (lenJS.getD 0 0)) < ((Int32.ofNat (lenJS.getD 0 0)) >>> (0 &&& 31)) then (Int32.ofNat (lenJS.getD 0 0)) else ((Int32.ofNat (lenJS.getD 0 0)) >>> (0 &&& 31))) = 14 := by decide
  rw [e10, e11]
  unfold GJ1_indexOfChar_4cfef
  rw [Bd_eq]
  refine Lp.up 14 (fun i (y : Int32 × MM) => y = (qN i, μ) ∧ ∀ j, j < i → thl j ≠ x) ?_ ⟨rfl, fun j hj => absurd hj (by omega)⟩
  rintro i K hi hK _ ⟨rfl, hz⟩
  have c3 : (14 : Int32) ≤ qN i ↔ 14 ≤ i := qN_le (a := 14) (by decide) (by omega)
  unfold GJ1_indexOfChar_4cfef_L7
  simp only [c3]
  refine ⟨fun r => ?_, fun r => ?_⟩
  · have e : i = 14 := by omega
    subst e
    rcases tix_c hx with ⟨q1, q2⟩ | q
    · exact absurd q2 (hz _ q1)
    · exact hn q
  · rw [qN_vp (by omega), qN_nat (by omega), thl_b i (by omega), by8 hx (thl_7 i (by omega))]
    refine ⟨by show i < 14; omega, fun r2 => ?_, fun r2 => ?_⟩
    · refine hK (by omega) _ ⟨by rw [show qN i + 1 = qN (i + 1) from qN_add i 1], fun j hj => ?_⟩
      by_cases e : j = i
      · subst e; exact r2
      · exact hz j (by omega)
    · have := thl_t i (by omega)
      rw [r2] at this
      rw [← this]
      exact hy (by omega)
def bI (b : Bool) : Int32 := if b = true then 1 else 0
theorem c_isThing {b : Bool} {x : Nat} {μ : MM} {Q : Int32 → MM → Prop} (hx : x < 256) (hy : tokB b x = true → Q 1 μ) (hn : tokB b x = false → Q 0 μ) : G3_isThing (qN x) (bI b) μ Q := by
  unfold G3_isThing G3_isThing_J36
  refine c_index hx (fun q => ?_) (fun q => ?_)
  · have c1 : (10 : Int32) ≤ qN (tix x) ↔ 10 ≤ tix x := qN_le (a := 10) (by decide) (by omega)
    have c2 : qN (tix x) = 13 ↔ tix x = 13 := qN_eq (b := 13) (by omega) (by decide)
    rw [c1, c2]
    refine ⟨fun r => ⟨fun r2 => ?_, fun r2 => ?_⟩, fun r => ⟨fun r2 => absurd ((qN_neg (by omega)).mp r2) id, fun _ => hy ?_⟩⟩
    · cases b with
      | true => exact ⟨fun _ => hn (by unfold tokB; rw [r2]; rfl), fun r3 => absurd r3 (by decide)⟩
      | false => exact ⟨fun r3 => absurd rfl r3, fun _ => hy (by unfold tokB; rw [r2]; rfl)⟩
    · cases b with
      | true => exact ⟨fun r3 => absurd rfl r3, fun _ => hy (by unfold tokB; rw [decide_eq_true (show tix x < 13 by omega), Bool.true_and, Bool.or_true, Bool.true_or])⟩
      | false => exact ⟨fun _ => hn (by unfold tokB; rw [decide_eq_false (show ¬ tix x < 10 by omega), decide_eq_false r2]; rfl), fun r3 => absurd r3 (by decide)⟩
    · unfold tokB
      rw [decide_eq_true (show tix x < 10 by omega), Bool.true_or, Bool.true_or]
  · have n1 : ¬ (10 : Int32) ≤ -1 := by decide
    exact ⟨fun r => absurd r n1, fun _ => ⟨fun _ => hn (by unfold tokB; rw [q]; cases b <;> rfl), fun r => absurd (show (-1 : Int32) < 0 by decide) r⟩⟩
def cwv (cm : Nat → Bool) : Nat := (cm 0).toNat + 2 * (cm 1).toNat + 4 * (cm 2).toNat + 8 * (cm 3).toNat + 16 * (cm 4).toNat + 32 * (cm 5).toNat
def cw6 (b0 b1 b2 b3 b4 b5 : Bool) : Nat := b0.toNat + 2 * b1.toNat + 4 * b2.toNat + 8 * b3.toNat + 16 * b4.toNat + 32 * b5.toNat
theorem cw_c (d : Nat) (hd : d < 6) : ∀ b0 b1 b2 b3 b4 b5 : Bool, qN (cw6 b0 b1 b2 b3 b4 b5) &&& ((1 <<< (qN d &&& 31)) ^^^ (-1)) = qN (cw6 (if d = 0 then false else b0) (if d = 1 then false else b1) (if d = 2 then false else b2) (if d = 3 then false else b3) (if d = 4 then false else b4) (if d = 5 then false else b5)) := by
  rcases (show d = 0 ∨ d = 1 ∨ d = 2 ∨ d = 3 ∨ d = 4 ∨ d = 5 by omega) with rfl | rfl | rfl | rfl | rfl | rfl <;> decide
theorem cw_s (d : Nat) (hd : d < 6) : ∀ b0 b1 b2 b3 b4 b5 : Bool, qN (cw6 b0 b1 b2 b3 b4 b5) ||| (1 <<< (qN d &&& 31)) = qN (cw6 (if d = 0 then true else b0) (if d = 1 then true else b1) (if d = 2 then true else b2) (if d = 3 then true else b3) (if d = 4 then true else b4) (if d = 5 then true else b5)) := by
  rcases (show d = 0 ∨ d = 1 ∨ d = 2 ∨ d = 3 ∨ d = 4 ∨ d = 5 by omega) with rfl | rfl | rfl | rfl | rfl | rfl <;> decide
theorem cw_t (d : Nat) (hd : d < 6) : ∀ b0 b1 b2 b3 b4 b5 : Bool, ((qN (cw6 b0 b1 b2 b3 b4 b5) >>> (qN d &&& 31)) &&& 1 = 0) ↔ ((if d = 0 then b0 else if d = 1 then b1 else if d = 2 then b2 else if d = 3 then b3 else if d = 4 then b4 else b5) = false) := by
  rcases (show d = 0 ∨ d = 1 ∨ d = 2 ∨ d = 3 ∨ d = 4 ∨ d = 5 by omega) with rfl | rfl | rfl | rfl | rfl | rfl <;> decide
theorem cwv_c (cm : Nat → Bool) {d : Nat} (hd : d < 6) : qN (cwv cm) &&& ((1 <<< (qN d &&& 31)) ^^^ (-1)) = qN (cwv (updB cm d false)) := by
  have h := cw_c d hd (cm 0) (cm 1) (cm 2) (cm 3) (cm 4) (cm 5)
  have e : cwv (updB cm d false) = cw6 (if d = 0 then false else cm 0) (if d = 1 then false else cm 1) (if d = 2 then false else cm 2) (if d = 3 then false else cm 3) (if d = 4 then false else cm 4) (if d = 5 then false else cm 5) := by
    unfold cwv updB cw6
    rcases (show d = 0 ∨ d = 1 ∨ d = 2 ∨ d = 3 ∨ d = 4 ∨ d = 5 by omega) with rfl | rfl | rfl | rfl | rfl | rfl <;> rfl
  rw [e]
  exact h
theorem cwv_s (cm : Nat → Bool) {d : Nat} (hd : d < 6) : qN (cwv cm) ||| (1 <<< (qN d &&& 31)) = qN (cwv (updB cm d true)) := by
  have h := cw_s d hd (cm 0) (cm 1) (cm 2) (cm 3) (cm 4) (cm 5)
  have e : cwv (updB cm d true) = cw6 (if d = 0 then true else cm 0) (if d = 1 then true else cm 1) (if d = 2 then true else cm 2) (if d = 3 then true else cm 3) (if d = 4 then true else cm 4) (if d = 5 then true else cm 5) := by
    unfold cwv updB cw6
    rcases (show d = 0 ∨ d = 1 ∨ d = 2 ∨ d = 3 ∨ d = 4 ∨ d = 5 by omega) with rfl | rfl | rfl | rfl | rfl | rfl <;> rfl
  rw [e]
  exact h
theorem cwv_t (cm : Nat → Bool) {d : Nat} (hd : d < 6) : ((qN (cwv cm) >>> (qN d &&& 31)) &&& 1 = 0) ↔ cm d = false := by
  have h := cw_t d hd (cm 0) (cm 1) (cm 2) (cm 3) (cm 4) (cm 5)
  rcases (show d = 0 ∨ d = 1 ∨ d = 2 ∨ d = 3 ∨ d = 4 ∨ d = 5 by omega) with rfl | rfl | rfl | rfl | rfl | rfl <;> exact h
theorem tok_ne {b : Bool} {x : Nat} (hx : x < 256) (h : tokB b x = true) : tix x < 14 ∧ stg x = 0 ∧ isDg x = false ∧ x ≠ 40 ∧ x ≠ 33 ∧ x ≠ 45 ∧ x ≠ 41 := by
  have q : tix x < 14 := by
    unfold tokB at h
    rw [Bool.or_eq_true, Bool.or_eq_true, Bool.and_eq_true, Bool.and_eq_true, decide_eq_true_eq, decide_eq_true_eq, decide_eq_true_eq] at h
    omega
  have e : thl (tix x) = x := by
    rcases tix_c hx with ⟨_, q2⟩ | q2
    · exact q2
    · omega
  have t1 : ∀ i, i < 14 → stg (thl i) = 0 := by decide
  have t2 : ∀ i, i < 14 → isDg (thl i) = false := by decide
  have t3 : ∀ i, i < 14 → thl i ≠ 40 := by decide
  have t4 : ∀ i, i < 14 → thl i ≠ 33 := by decide
  have t5 : ∀ i, i < 14 → thl i ≠ 45 := by decide
  have t6 : ∀ i, i < 14 → thl i ≠ 41 := by decide
  refine ⟨q, ?_⟩
  have a1 := t1 _ q
  have a2 := t2 _ q
  have a3 := t3 _ q
  have a4 := t4 _ q
  have a5 := t5 _ q
  have a6 := t6 _ q
  rw [e] at a1 a2 a3 a4 a5 a6
  exact ⟨a1, a2, a3, a4, a5, a6⟩
theorem c_firstWrong {b : Bool} {c : Nat → Nat} {n : Nat} {μ : MM} {Q : Int32 → MM → Prop} (hn : n ≤ 60) (ht : ∀ i, i < 60 → gI μ 357 i = qN (c i)) (hc : ∀ i, i < 60 → c i < 256)
    (hbad : ∀ k, k < min n 40 → badp b c k → Q (qN k) μ) (hlong : 40 < n → ∀ σ, mst b c 40 = some σ → Q 40 μ)
    (hopen : n ≤ 40 → ∀ σ, mst b c n = some σ → (σ.1 = true ∨ 0 < σ.2.2.1) → Q (qN n) μ) (hgood : n ≤ 40 → ∀ σ, mst b c n = some σ → σ.1 = false → σ.2.2.1 = 0 → Q (-1) μ) : G3_firstWrong 357 (qN n) (bI b) μ Q := by
  have main : ∀ m, m = min n 40 → Lp (G3_firstWrong_L28 357 (qN n) (bI b) (qN m) Q) (1, 0, 0, 0, 0, μ) := fun m hm => by
    refine Lp.up m (fun k (x : Int32 × Int32 × Int32 × Int32 × Int32 × MM) => ∃ w dg dp cm ro sk, mst b c k = some (w, dg, dp, cm, ro, sk) ∧ x = (bI w, qN dg, qN dp, qN (cwv cm), qN k, μ)) ?_ ⟨true, 0, 0, fun _ => false, [], [], rfl, rfl⟩
    rintro k K hk hK _ ⟨w, dg, dp, cm, ro, sk, hs, rfl⟩
    obtain ⟨i1, i2, i3⟩ := mst_inv k _ hs
    have dgb := mst_dg k _ hs
    simp only at i1 i2 i3 dgb
    have c1 : qN m ≤ qN k ↔ m ≤ k := qN_le (by omega) (by omega)
    have c2 : qN n ≤ 40 ↔ n ≤ 40 := qN_le (b := 40) (by omega) (by decide)
    have c3 : qN dp ≤ 0 ↔ dp ≤ 0 := qN_le (b := 0) (by omega) (by decide)
    unfold G3_firstWrong_L28
    simp only [c1, c2, c3]
    refine ⟨fun r => ?_, fun r => ?_⟩
    · have e : k = m := by omega
      refine ⟨fun r2 => ?_, fun r2 => ?_⟩
      · have e2 : k = n := by omega
        rw [e2] at hs
        cases w with
        | true => exact ⟨fun _ => hopen r2 _ hs (Or.inl rfl), fun r3 => absurd r3 (by decide)⟩
        | false => exact ⟨fun r3 => absurd rfl r3, fun _ => ⟨fun r4 => hgood r2 _ hs rfl (by show dp = 0; omega), fun r4 => hopen r2 _ hs (Or.inr (by show 0 < dp; omega))⟩⟩
      · rw [show k = 40 by omega] at hs
        exact hlong (by omega) _ hs
    · have hx := hc k (by omega)
      have go : ∀ w' dg' dp' cm' ro' sk', stp b (c k) (w, dg, dp, cm, ro, sk) = some (w', dg', dp', cm', ro', sk') → K (bI w', qN dg', qN dp', qN (cwv cm'), qN k + 1, μ) := fun w' dg' dp' cm' ro' sk' e => by
        rw [show qN k + 1 = qN (k + 1) from qN_add k 1]
        exact hK (by omega) _ ⟨w', dg', dp', cm', ro', sk', (mst_s hs).trans e, rfl⟩
      have no : stp b (c k) (w, dg, dp, cm, ro, sk) = none → Q (qN k) μ := fun e => hbad k (by omega) ⟨_, hs, e⟩
      have c4 : ∀ a, a < 256 → (qN (c k) = qN a ↔ c k = a) := fun a ha => qN_eq (by omega) (by omega)
      have x40 : qN (c k) = 40 ↔ c k = 40 := c4 40 (by decide)
      have x41 : qN (c k) = 41 ↔ c k = 41 := c4 41 (by decide)
      have x33 : qN (c k) = 33 ↔ c k = 33 := c4 33 (by decide)
      have x45 : qN (c k) = 45 ↔ c k = 45 := c4 45 (by decide)
      have c5 : (5 : Int32) ≤ qN dp ↔ 5 ≤ dp := qN_le (a := 5) (by decide) (by omega)
      have c6 : (3 : Int32) ≤ qN dg ↔ 3 ≤ dg := qN_le (a := 3) (by decide) (by omega)
      rw [qN_vp (by omega), qN_nat (by omega), ht k (by omega), Bd_eq]
      refine ⟨by show k < 60; omega, ?_⟩
      cases w with
      | true =>
        refine ⟨fun r2 => absurd r2 (by decide), fun _ => ?_⟩
        rw [x40, c5]
        have th : ¬ (c k = 40 ∧ dp < 5) → G3_firstWrong_J75 357 (qN n) (bI b) (bI true) (qN dg) (qN dp) (qN (cwv cm)) (qN m) (qN k) (qN (c k)) μ K Q := fun n1 => by
          have i33 : isDg 33 = false := rfl
          have i45 : isDg 45 = false := rfl
          unfold G3_firstWrong_J75 G3_firstWrong_J92
          refine c_isDg hx (fun d => ⟨fun _ => c_isDg hx (fun _ => ⟨fun r3 => absurd r3 (by decide), fun _ => go false 1 dp cm ((c k - 48) :: ro) sk ?_⟩) (fun d2 => by rw [d] at d2; exact absurd d2 (by decide)), fun r3 => absurd r3 (by decide)⟩) (fun d => ⟨fun r3 => absurd rfl r3, fun _ => c_isThing hx (fun t => ⟨fun r3 => absurd r3 (by decide), fun _ => c_isDg hx (fun d2 => by rw [d] at d2; exact absurd d2 (by decide)) (fun _ => ⟨fun _ => go false 3 dp cm ((1000 + tix (c k)) :: ro) sk ?_, fun r3 => absurd rfl r3⟩)⟩) (fun t => ⟨fun _ => ?_, fun r3 => absurd rfl r3⟩)⟩)
          · unfold stp
            simp only [if_true, if_neg n1, d]
          · unfold stp
            simp only [if_true, if_neg n1, d, t, Bool.false_eq_true, if_false]
          · rw [x33, x45]
            refine ⟨fun y => ?_, fun y => ⟨fun y2 => ?_, fun y2 => no ?_⟩⟩
            · refine go true dg dp cm ro (33 :: sk) ?_
              unfold stp
              simp only [if_true, if_neg n1, d, t, if_pos y, Bool.false_eq_true, if_false]
            · refine go true dg dp cm ro (126 :: sk) ?_
              unfold stp
              simp only [if_true, if_neg n1, d, t, if_neg y, if_pos y2, Bool.false_eq_true, if_false]
            · unfold stp
              simp only [if_true, if_neg n1, d, t, if_neg y, if_neg y2, Bool.false_eq_true, if_false]
        refine ⟨fun y => th (fun z => y z.1), fun y => ⟨fun y2 => th (fun z => by omega), fun y2 => ?_⟩⟩
        have y2' : dp < 5 := by omega
        rw [show qN dp + 1 = qN (dp + 1) from qN_add dp 1, cwv_c cm (by omega), Bd_eq]
        refine go true dg (dp + 1) (updB cm (dp + 1) false) ro (40 :: sk) ?_
        unfold stp
        simp only [if_true, y, y2', and_self]
      | false =>
        refine ⟨fun _ => ?_, fun r2 => absurd rfl r2⟩
        have b6 := stg_6 (c k)
        have sq : ∀ a, a < 10 → (qN (stg (c k)) = qN a ↔ stg (c k) = a) := fun a ha => qN_eq (by omega) (by omega)
        have s3 : qN (stg (c k)) = 3 ↔ stg (c k) = 3 := sq 3 (by decide)
        have s3l : (3 : Int32) ≤ qN (stg (c k)) ↔ 3 ≤ stg (c k) := qN_le (a := 3) (by decide) (by omega)
        have rest : ¬ (isDg (c k) = true ∧ dg < 3) → G3_firstWrong_J149 357 (qN n) (bI b) (bI false) (qN dg) (qN dp) (qN (cwv cm)) (qN m) (qN k) (qN (c k)) μ K Q := fun n1 => by
          have join : ¬ (c k = 41 ∧ 0 < dp) → ¬ (stg (c k) = 3 ∧ cm dp = false) → G3_firstWrong_J203 357 (qN n) (bI b) (qN dg) (qN dp) (qN (cwv cm)) (qN m) (qN k) (qN (c k)) μ K Q := fun n2 n3 => by
            unfold G3_firstWrong_J203
            refine c_isJoin hx (fun j1 j2 => ⟨fun r3 => absurd r3 (by decide), fun _ => c_strength hx ?_⟩) (fun j => ⟨fun _ => no ?_, fun r3 => absurd rfl r3⟩)
            · rw [s3]
              refine ⟨fun y => no ?_, fun y => c_strength hx ?_⟩
              · unfold stp
                simp only [Bool.false_eq_true, if_false, if_neg n1, if_neg n2, if_neg n3]
                rw [if_neg (show ¬ (1 ≤ stg (c k) ∧ stg (c k) ≤ 2) by omega), if_neg (show ¬ (4 ≤ stg (c k) ∧ stg (c k) ≤ 5) by omega)]
              · rw [s3l]
                refine ⟨fun y2 => ?_, fun y2 => ?_⟩
                · refine go true dg dp cm (pst (stg (c k)) sk ro).2 (c k :: (pst (stg (c k)) sk ro).1) ?_
                  unfold stp
                  simp only [Bool.false_eq_true, if_false, if_neg n1, if_neg n2, if_neg n3]
                  rw [if_neg (show ¬ (1 ≤ stg (c k) ∧ stg (c k) ≤ 2) by omega), if_pos (show 4 ≤ stg (c k) ∧ stg (c k) ≤ 5 by omega)]
                · rw [cwv_c cm (by omega), Bd_eq]
                  refine go true dg dp (updB cm dp false) (pst (stg (c k)) sk ro).2 (c k :: (pst (stg (c k)) sk ro).1) ?_
                  unfold stp
                  simp only [Bool.false_eq_true, if_false, if_neg n1, if_neg n2, if_neg n3]
                  rw [if_pos (show 1 ≤ stg (c k) ∧ stg (c k) ≤ 2 by omega)]
            · unfold stp
              simp only [Bool.false_eq_true, if_false, if_neg n1, if_neg n2, if_neg n3]
              rw [if_neg (show ¬ (1 ≤ stg (c k) ∧ stg (c k) ≤ 2) by omega), if_neg (show ¬ (4 ≤ stg (c k) ∧ stg (c k) ≤ 5) by omega)]
          have cmp : ¬ (c k = 41 ∧ 0 < dp) → G3_firstWrong_J170 357 (qN n) (bI b) (qN dg) (qN dp) (qN (cwv cm)) (qN m) (qN k) (qN (c k)) μ K Q := fun n2 => by
            unfold G3_firstWrong_J170
            refine c_strength hx ?_
            rw [s3, cwv_t cm (show dp < 6 by omega)]
            refine ⟨fun y => join n2 (fun z => y z.1), fun y => ⟨fun y2 => join n2 (fun z => y2 z.2), fun y2 => ?_⟩⟩
            rw [cwv_s cm (by omega), Bd_eq]
            refine go true dg dp (updB cm dp true) (pst 3 sk ro).2 (c k :: (pst 3 sk ro).1) ?_
            unfold stp
            simp only [Bool.false_eq_true, if_false, if_neg n1, if_neg n2]
            rw [if_pos ⟨y, y2⟩]
          unfold G3_firstWrong_J149
          rw [x41, c3]
          refine ⟨fun y => cmp (fun z => y z.1), fun y => ⟨fun y2 => cmp (fun z => by omega), fun y2 => ?_⟩⟩
          rw [m1_sub (by omega)]
          refine go false 3 (dp - 1) cm (pst 1 sk ro).2 (pst 1 sk ro).1.tail ?_
          unfold stp
          simp only [Bool.false_eq_true, if_false, if_neg n1]
          rw [if_pos (show c k = 41 ∧ 0 < dp from ⟨y, by omega⟩)]
        refine c_isDg hx (fun d => ⟨fun r3 => absurd r3 (by decide), fun _ => ?_⟩) (fun d => ⟨fun _ => rest (fun z => by rw [d] at z; exact absurd z.1 (by decide)), fun r3 => absurd rfl r3⟩)
        rw [c6]
        refine ⟨fun y => rest (fun z => by omega), fun y => ?_⟩
        rw [show qN dg + 1 = qN (dg + 1) from qN_add dg 1]
        refine go false (dg + 1) dp cm (goon (c k - 48) ro) sk ?_
        unfold stp
        simp only [Bool.false_eq_true, if_false]
        rw [if_pos ⟨d, by omega⟩]
  have c0 : (40 : Int32) ≤ qN n ↔ 40 ≤ n := qN_le (a := 40) (by decide) (by omega)
  unfold G3_firstWrong
  rw [c0]
  exact ⟨fun r => main 40 (by omega), fun r => main n (by omega)⟩
