/-! the class's bigs: what is done with them -/
theorem B2le {L : Nat} (h : 2 ≤ L) : 10000000000000000 ≤ 100000000 ^ L := Nat.pow_le_pow_right (n := 100000000) (by decide) h
theorem c_bbecome {t a : Nat} {μ : MM} {Q : MM → Prop} (ha : a < 2147483648) (hL : ln (t + 1) < 100) (h2L : 2 ≤ ln (t + 1)) (hQ : ∀ μ', Sm (bS t) μ μ' → BG μ' t a → Q μ') : G0_become t (qN a) μ Q := by
  unfold G0_become
  rw [Bd_eq, Bd_eq, qN_6 ha]
  refine ⟨(qN_vp (k := 0) (by decide)).mpr (by omega), ?_⟩
  have f1 : Sm (bS t) μ (sJ (sI μ t 1 1) (t + 1) 0 (qL a)) := (Sm.rfl'.wI _ (Or.inl rfl)).wJ _ (Or.inr rfl)
  have b2 := B2le h2L
  refine c_carry hL (u := 1) (by omega) (g := fun _ => a) ?_ ?_ (fun _ => by show a ≤ _; omega) ?_ (by omega) (fun μ' f h => hQ μ' (f1.tr f) h)
  · rw [gI_J, gI_I, if_pos ⟨rfl, rfl⟩]; rfl
  · intro i hi
    rw [gJ_J, if_pos ⟨rfl, by omega⟩]
  · show 0 + a * 100000000 ^ 0 = a
    rw [Nat.pow_zero]; omega
theorem c_btimes {t N f : Nat} {μ : MM} {Q : MM → Prop} (hL : ln (t + 1) < 100) (h : BG μ t N) (hf : f ≤ 90000000000) (hV : N * f < 100000000 ^ (ln (t + 1))) (hQ : ∀ μ', Sm (bS t) μ μ' → BG μ' t (N * f) → Q μ') : G0_times t (qL f) μ Q := by
  obtain ⟨u, h1, h2, h3, h4, h5⟩ := h
  refine Lp.up u (fun i (x : Int32 × MM) => x.1 = qN i ∧ Sm (bS t) μ x.2 ∧ gI x.2 t 1 = qN u ∧ (∀ j, j < i → gJ x.2 (t + 1) j = qL (N / 100000000 ^ j % 100000000 * f)) ∧ (∀ j, i ≤ j → j < u → gJ x.2 (t + 1) j = qL (N / 100000000 ^ j % 100000000))) ?_ ⟨rfl, Sm.rfl', h1, fun j hj => absurd hj (by omega), fun j _ hj => h5 j hj⟩
  rintro i K hi hK ⟨x1, ν⟩ ⟨rfl, hs, e1, e2, e3⟩
  simp only at hs e1 e2 e3
  have c1 : qN u ≤ qN i ↔ u ≤ i := qN_le (by omega) (by omega)
  unfold G0_times_L2
  simp only [e1, c1]
  refine ⟨fun q => ?_, fun q => ?_⟩
  · have e : i = u := by omega
    subst e
    refine c_carry hL h2 e1 e2 (fun j => ?_) ?_ hV (fun μ' f h => hQ μ' (hs.tr f) h)
    · exact Nat.mul_le_mul (Nat.le_of_lt (dgl (B := 100000000) (by decide))) hf
    · rw [pB_mul, pB_N, Nat.mod_eq_of_lt h3]
  · have l : i < u := by omega
    rw [qN_vp (by omega), qN_nat (by omega), e3 i (Nat.le_refl _) l, qL_mul, Bd_eq]
    refine ⟨by omega, by omega, hK l _ ⟨qN_add i 1, hs.wJ _ (Or.inr rfl), by show gI (sJ _ _ _ _) t 1 = _; rw [gI_J]; exact e1, fun j hj => ?_, fun j h6 h7 => ?_⟩⟩
    · show gJ (sJ ν (t + 1) i _) (t + 1) j = _
      rw [gJ_J]
      by_cases q3 : j = i
      · rw [if_pos ⟨rfl, q3⟩, q3]
      · rw [if_neg (fun r => q3 r.2)]; exact e2 j (by omega)
    · show gJ (sJ ν (t + 1) i _) (t + 1) j = _
      rw [gJ_J, if_neg (fun r => by omega)]
      exact e3 j (by omega) h7
/-- stretched -/
theorem c_bstretch {t N n : Nat} {μ : MM} {Q : MM → Prop} (hn : n < 1000) (hnL : n ≤ ln (t + 1)) (hL : ln (t + 1) < 100) (h : BG μ t N)
    (hQ : ∀ μ' w, n ≤ w → w ≤ ln (t + 1) → N < 100000000 ^ w → Sm (bS t) μ μ' → gI μ' t 1 = qN w → (∀ i, i < w → gJ μ' (t + 1) i = qL (N / 100000000 ^ i % 100000000)) → Q μ') : G0_stretch t (qN n) μ Q := by
  obtain ⟨u, h1, h2, h3, h4, h5⟩ := h
  refine c_stretch hn hL h2 h1 h5 (fun μ' w hw f e1 e2 => hQ μ' w (by omega) (by omega) (Nat.lt_of_lt_of_le h3 (Nat.pow_le_pow_right (by decide) (by omega))) f e1 (fun i hi => ?_))
  rw [e2 i hi]
  by_cases q : i < u
  · rw [if_pos q]
  · rw [if_neg q, dz (by decide) h3 (by omega)]
theorem c_badd {t a N M : Nat} {μ : MM} {Q : MM → Prop} (hd : t + 1 < a ∨ a + 1 < t) (hLa : ln (a + 1) ≤ ln (t + 1)) (hL : ln (t + 1) < 100) (h : BG μ t N) (h' : BG μ a M) (hV : N + M < 100000000 ^ (ln (t + 1))) (hQ : ∀ μ', Sm (bS t) μ μ' → BG μ' t (N + M) → Q μ') : G0_add t a μ Q := by
  obtain ⟨v, k1, k2, k3, k4, k5⟩ := h'
  unfold G0_add
  rw [k1]
  refine c_bstretch (by omega) (by omega) hL h (fun μ1 w hw1 hw2 hN s1 e1 e2 => ?_)
  refine Lp.up v (fun i (x : Int32 × MM) => x.1 = qN i ∧ Sm (bS t) μ x.2 ∧ gI x.2 t 1 = qN w ∧ (∀ j, j < w → gJ x.2 (t + 1) j = qL (N / 100000000 ^ j % 100000000 + if j < i then M / 100000000 ^ j % 100000000 else 0))) ?_ ⟨rfl, s1, e1, fun j hj => by rw [if_neg (by omega), Nat.add_zero]; exact e2 j hj⟩
  clear e1 e2 s1
  rintro i K hi hK ⟨x1, ν⟩ ⟨rfl, hs, e1, e2⟩
  simp only at hs e1 e2
  have c1 : qN v ≤ qN i ↔ v ≤ i := qN_le (by omega) (by omega)
  have c2 : qN w ≤ qN i ↔ w ≤ i := qN_le (by omega) (by omega)
  have f1 : gI ν a 1 = qN v := by rw [(hs.1 a 1 (by unfold bS; omega)).1]; exact k1
  have f2 : ∀ j, j < v → gJ ν (a + 1) j = qL (M / 100000000 ^ j % 100000000) := fun j hj => by rw [(hs.1 (a + 1) j (by unfold bS; omega)).2]; exact k5 j hj
  have fin : i = v → G0_carry t ν (fun μ9 => Q μ9) := fun e => by
    subst e
    refine c_carry hL hw2 e1 e2 (fun j => ?_) ?_ hV (fun μ' f h => hQ μ' (hs.tr f) h)
    · have d1 := dgl (B := 100000000) (N := N) (i := j) (by decide)
      have d2 := dgl (B := 100000000) (N := M) (i := j) (by decide)
      split <;> omega
    · rw [pB_add, pB_N, Nat.mod_eq_of_lt hN]
      congr 1
      rw [pB_tail hw1 (fun j h6 _ => if_neg (by omega)), pB_congr (h := fun j => M / 100000000 ^ j % 100000000) (fun j hj => if_pos hj), pB_N, Nat.mod_eq_of_lt k3]
  unfold G0_add_L10 G0_add_J47
  simp only [e1, f1, c1, c2]
  refine ⟨fun q => fin (by omega), fun q => ⟨fun q2 => fin (by omega), fun q2 => ?_⟩⟩
  have l : i < v := by omega
  rw [qN_vp (by omega), qN_vp (by omega), qN_nat (by omega), e2 i (by omega), f2 i l, if_neg (by omega), Nat.add_zero, qL_add, Bd_eq]
  refine ⟨by omega, by omega, by omega, hK l _ ⟨qN_add i 1, hs.wJ _ (Or.inr rfl), by show gI (sJ _ _ _ _) t 1 = _; rw [gI_J]; exact e1, fun j hj => ?_⟩⟩
  show gJ (sJ ν (t + 1) i _) (t + 1) j = _
  rw [gJ_J]
  by_cases q3 : j = i
  · rw [if_pos ⟨rfl, q3⟩, q3, if_pos (by omega), Nat.add_zero]
  · rw [if_neg (fun r => q3 r.2), e2 j hj]
    by_cases q4 : j < i
    · rw [if_pos q4, if_pos (by omega)]
    · rw [if_neg q4, if_neg (by omega)]
theorem c_bprod {t a b N Ma Mb : Nat} {μ : MM} {Q : MM → Prop} (hda : t + 1 < a ∨ a + 1 < t) (hdb : t + 1 < b ∨ b + 1 < t) (hLa : ln (a + 1) ≤ 6) (hLb : ln (b + 1) ≤ 6) (hL : ln (t + 1) = 12) (h : BG μ t N) (ha : BG μ a Ma) (hb : BG μ b Mb) (hV : N + Ma * Mb < 100000000 ^ (ln (t + 1))) (hQ : ∀ μ', Sm (bS t) μ μ' → BG μ' t (N + Ma * Mb) → Q μ') : G0_addProduct t a b μ Q := by
  obtain ⟨v, k1, k2, k3, k4, k5⟩ := ha
  obtain ⟨z, m1, m2, m3, m4, m5⟩ := hb
  unfold G0_addProduct
  rw [k1, m1, qN_add]
  refine c_bstretch (by omega) (by omega) (by omega) h (fun μ1 w hw1 hw2 hN s1 e1 e2 => ?_)
  have d0 : ∀ j, Ma / 100000000 ^ j % 100000000 ≤ 100000000 := fun j => Nat.le_of_lt (dgl (by decide))
  have d1 : ∀ j, Mb / 100000000 ^ j % 100000000 ≤ 100000000 := fun j => Nat.le_of_lt (dgl (by decide))
  refine Lp.up v (fun i (x : Int32 × MM) => x.1 = qN i ∧ Sm (bS t) μ x.2 ∧ gI x.2 t 1 = qN w ∧ ∃ g : Nat → Nat, (∀ j, j < w → gJ x.2 (t + 1) j = qL (g j)) ∧ (∀ j, g j ≤ 100000000 + (6 * i) * 10000000000000000) ∧ pB 100000000 g w = N + pB 100000000 (fun i => Ma / 100000000 ^ i % 100000000) i * Mb) ?_ ⟨rfl, s1, e1, fun j => N / 100000000 ^ j % 100000000, e2, fun j => by
    have := dgl (B := 100000000) (N := N) (i := j) (by decide)
    show N / 100000000 ^ j % 100000000 ≤ _
    omega, by rw [pB_N, Nat.mod_eq_of_lt hN]; show N = N + 0 * Mb; rw [Nat.zero_mul, Nat.add_zero]⟩
  clear e1 e2 s1
  rintro i K hi hK ⟨x1, ν⟩ ⟨rfl, hs, e1, g, e2, e3, e4⟩
  simp only at hs e1 e2
  have c1 : qN v ≤ qN i ↔ v ≤ i := qN_le (by omega) (by omega)
  have f1 : gI ν a 1 = qN v := by rw [(hs.1 a 1 (by unfold bS; omega)).1]; exact k1
  unfold G0_addProduct_L15
  simp only [f1, c1]
  refine ⟨fun q => ?_, fun q => ?_⟩
  · have e : i = v := by omega
    subst e
    refine c_carry (by omega) hw2 e1 e2 (fun j => ?_) (e4.trans ?_) hV (fun μ' f h => hQ μ' (hs.tr f) h)
    · have := e3 j
      omega
    · rw [pB_N, Nat.mod_eq_of_lt k3]
  · have l : i < v := by omega
    have hk := hK l
    clear hK
    refine Lp.up z (fun j (x : Int32 × MM) => x.1 = qN j ∧ Sm (bS t) μ x.2 ∧ gI x.2 t 1 = qN w ∧ ∃ g : Nat → Nat, (∀ k, k < w → gJ x.2 (t + 1) k = qL (g k)) ∧ (∀ k, g k ≤ 100000000 + (6 * i + j) * 10000000000000000) ∧ pB 100000000 g w = N + pB 100000000 (fun i => Ma / 100000000 ^ i % 100000000) i * Mb + Ma / 100000000 ^ i % 100000000 * 100000000 ^ i * pB 100000000 (fun i => Mb / 100000000 ^ i % 100000000) j) ?_ ⟨rfl, hs, e1, g, e2, e3, by rw [e4]; rfl⟩
    clear e1 e2 e3 e4 hs f1 g
    rintro j K2 hj hK2 ⟨x1, ω⟩ ⟨rfl, hs, e1, g, e2, e3, e4⟩
    simp only at hs e1 e2
    have c2 : qN z ≤ qN j ↔ z ≤ j := qN_le (by omega) (by omega)
    have c3 : qN w ≤ qN (i + j) ↔ w ≤ i + j := qN_le (by omega) (by omega)
    have f2 : gI ω b 1 = qN z := by rw [(hs.1 b 1 (by unfold bS; omega)).1]; exact m1
    have g1 : gJ ω (a + 1) i = qL (Ma / 100000000 ^ i % 100000000) := by rw [(hs.1 (a + 1) i (by unfold bS; omega)).2]; exact k5 i l
    unfold G0_addProduct_L26
    simp only [f2, e1, qN_add, c2, c3]
    refine ⟨fun q2 => ?_, fun q2 => ⟨fun q3 => absurd q3 (by omega), fun q3 => ?_⟩⟩
    · have e : j = z := by omega
      subst e
      refine hk _ ⟨qN_add i 1, hs, e1, g, e2, fun k => Nat.le_trans (e3 k) (by omega), ?_⟩
      rw [e4, pB_N 100000000 Mb, Nat.mod_eq_of_lt m3, pB_s, Nat.add_mul]
      omega
    · have l2 : j < z := by omega
      have g2 : gJ ω (b + 1) j = qL (Mb / 100000000 ^ j % 100000000) := by rw [(hs.1 (b + 1) j (by unfold bS; omega)).2]; exact m5 j l2
      rw [qN_vp (by omega), qN_vp (by omega), qN_vp (by omega), qN_nat (by omega), qN_nat (by omega), qN_nat (by omega), e2 _ (by omega), g1, g2, qL_mul, qL_add, Bd_eq]
      refine ⟨by omega, by omega, by omega, by omega, hK2 l2 _ ⟨qN_add j 1, hs.wJ _ (Or.inr rfl), by show gI (sJ _ _ _ _) t 1 = _; rw [gI_J]; exact e1, fun k => if k = i + j then g k + Ma / 100000000 ^ i % 100000000 * (Mb / 100000000 ^ j % 100000000) else g k, fun k hk9 => ?_, fun k => ?_, ?_⟩⟩
      · show gJ (sJ ω (t + 1) (i + j) _) (t + 1) k = qL (if k = i + j then _ else _)
        rw [gJ_J]
        by_cases q4 : k = i + j
        · rw [if_pos ⟨rfl, q4⟩, if_pos q4, q4]
        · rw [if_neg (fun r => q4 r.2), if_neg q4]; exact e2 k hk9
      · have b1 := Nat.mul_le_mul (d0 i) (d1 j)
        have b2 := e3 k
        show (if k = i + j then g k + Ma / 100000000 ^ i % 100000000 * (Mb / 100000000 ^ j % 100000000) else g k) ≤ _
        revert b1 b2
        generalize Ma / 100000000 ^ i % 100000000 * (Mb / 100000000 ^ j % 100000000) = y
        intro b1 b2
        by_cases q4 : k = i + j
        · rw [if_pos q4]; omega
        · rw [if_neg q4]; exact Nat.le_trans b2 (Nat.add_le_add_left (Nat.mul_le_mul_right _ (by clear hV b1 b2 e2 e3 e4 hk hK2; omega)) _)
      · rw [pB_up _ _ _ _ _ (by omega), e4, pB_s, Nat.mul_add, Nat.pow_add]
        have : Ma / 100000000 ^ i % 100000000 * (Mb / 100000000 ^ j % 100000000) * (100000000 ^ i * 100000000 ^ j) = Ma / 100000000 ^ i % 100000000 * 100000000 ^ i * (Mb / 100000000 ^ j % 100000000 * 100000000 ^ j) := by ac_rfl
        omega
theorem c_limb {t N i : Nat} {μ : MM} {Q : Int64 → MM → Prop} (hL : ln (t + 1) < 100) (hi : i < 100) (h : BG μ t N) (hQ : Q (qL (N / 100000000 ^ i % 100000000)) μ) : G0_limb t (qN i) μ Q := by
  obtain ⟨u, h1, h2, h3, h4, h5⟩ := h
  unfold G0_limb G0_limb_J21
  refine ⟨fun r => absurd ((qN_neg (by omega)).mp r) id, fun _ => ?_⟩
  rw [h1, qN_le (by omega) (by omega), qN_vp (by omega), qN_nat (by omega)]
  refine ⟨fun q => ?_, fun q => ⟨by omega, ?_⟩⟩
  · rw [dz (by decide) h3 q] at hQ
    exact hQ
  · rw [h5 i (by omega)]
    exact hQ
theorem c_cut {t N n : Nat} {μ : MM} {Q : Int64 → MM → Prop} (hL : ln (t + 1) < 100) (hn : n < 100) (h : BG μ t N) (hN : N / 100000000 ^ (n / 2) < 10000000000000000) (hQ : Q (qL (N / 10000 ^ n)) μ) : G0_cutBy t (qN n) μ Q := by
  have e2 : qN n / 2 = qN (n / 2) := qN_div (b := 2) (by omega) (by decide)
  unfold G0_cutBy
  rw [e2, Bd_eq, show qN (n / 2) + 1 = qN (n / 2 + 1) from qN_add _ 1]
  refine c_limb hL (by omega) h (c_limb hL (by omega) h ?_)
  have e3 : qN n - qN (n / 2) * 2 = qN (n % 2) := by
    rw [show qN (n / 2) * 2 = qN (n / 2 * 2) from qN_mul _ 2, qN_sub (by omega)]
    congr 1
    omega
  have e4 : qN (n % 2) = 0 ↔ n % 2 = 0 := qN_eq (b := 0) (by omega) (by decide)
  have e5 : qL (N / 100000000 ^ (n / 2 + 1) % 100000000) * 100000000 + qL (N / 100000000 ^ (n / 2) % 100000000) = qL (N / 100000000 ^ (n / 2)) := by
    have gen : ∀ y, y < 10000000000000000 → y / 100000000 % 100000000 * 100000000 + y % 100000000 = y := fun y hy => by omega
    rw [show (100000000 : Int64) = qL 100000000 from rfl, qL_mul, qL_add, div_ss, gen _ hN]
  rw [e5, e3, e4, Bd_eq]
  refine ⟨fun q => ?_, fun q => ?_⟩
  · have ed : N / 10000 ^ n = N / 100000000 ^ (n / 2) / 10000 := by
      rw [Nat.div_div_eq_div_mul]
      congr 1
      rw [show (100000000 : Nat) = 10000 ^ 2 by decide, ← Nat.pow_mul, ← Nat.pow_succ]
      congr 1
      omega
    rw [ed] at hQ
    rw [show (10000 : Int64) = qL 10000 from rfl, qL_div (by omega) (by decide)]
    exact hQ
  · have ed : N / 10000 ^ n = N / 100000000 ^ (n / 2) := by
      congr 1
      rw [show (100000000 : Nat) = 10000 ^ 2 by decide, ← Nat.pow_mul]
      congr 1
      omega
    rw [ed] at hQ
    exact hQ
theorem c_more {t a N M : Nat} {μ : MM} {Q : Int32 → MM → Prop} (hL : ln (t + 1) < 100) (hLa : ln (a + 1) < 100) (h : BG μ t N) (h' : BG μ a M) (hy : M < N → Q 1 μ) (hn : ¬ M < N → Q 0 μ) : G0_isMoreThan t a μ Q := by
  obtain ⟨u, h1, h2, h3, h4, h5⟩ := h
  obtain ⟨v, k1, k2, k3, k4, k5⟩ := h'
  unfold G0_isMoreThan
  rw [h1, k1, qN_eq (by omega) (by omega), qN_le (by omega) (by omega), Bd_eq]
  refine ⟨fun q => ?_, fun q => ⟨fun q2 => hn ?_, fun q2 => hy ?_⟩⟩
  · subst q
    have e0 : qN u - 1 = (if u - 0 = 0 then -1 else qN (u - 0 - 1)) := by
      by_cases z : u = 0
      · subst z; decide
      · rw [if_neg (by omega)]; exact qN_sub (b := 1) (by omega)
    rw [e0]
    refine Lp.up u (fun d (x : Int32 × MM) => x.1 = (if u - d = 0 then -1 else qN (u - d - 1)) ∧ x.2 = μ ∧ N / 100000000 ^ (u - d) = M / 100000000 ^ (u - d)) ?_ ⟨rfl, rfl, by rw [Nat.sub_zero, Nat.div_eq_of_lt h3, Nat.div_eq_of_lt k3]⟩
    rintro d K hd hK ⟨x1, ν⟩ ⟨e1, e2, e3⟩
    simp only at e1 e2 e3
    subst e1 e2
    by_cases z : u - d = 0
    · rw [if_pos z]
      rw [z, Nat.pow_zero, Nat.div_one, Nat.div_one] at e3
      exact ⟨fun _ => hn (by omega), fun r => absurd (show (-1 : Int32) < 0 by decide) r⟩
    · rw [if_neg z]
      refine ⟨fun r => absurd ((qN_neg (by omega)).mp r) id, fun _ => ?_⟩
      have b1 := dgl (B := 100000000) (N := N) (i := u - d - 1) (by decide)
      have b2 := dgl (B := 100000000) (N := M) (i := u - d - 1) (by decide)
      have e4 : N / 100000000 ^ (u - d - 1 + 1) = M / 100000000 ^ (u - d - 1 + 1) := by rw [show u - d - 1 + 1 = u - d by omega]; exact e3
      have m1 : qN (u - d - 1) + (-1) = (if u - (d + 1) = 0 then -1 else qN (u - (d + 1) - 1)) := by
        by_cases z2 : u - (d + 1) = 0
        · rw [if_pos z2, show u - d - 1 = 0 by omega]; decide
        · rw [if_neg z2, m1_sub (by omega)]; congr 1
      simp only [qN_vp (show u - d - 1 < 2147483648 by omega), qN_nat (show u - d - 1 < 2147483648 by omega), h5 (u - d - 1) (by omega), k5 (u - d - 1) (by omega), lg_0, lg_le, qL_eq (show N / 100000000 ^ (u - d - 1) % 100000000 < 9223372036854775808 by omega) (show M / 100000000 ^ (u - d - 1) % 100000000 < 9223372036854775808 by omega), qL_lt (show M / 100000000 ^ (u - d - 1) % 100000000 < 9223372036854775808 by omega) (show N / 100000000 ^ (u - d - 1) % 100000000 < 9223372036854775808 by omega), m1]
      refine ⟨by omega, by omega, fun r => hK (by omega) _ ⟨rfl, rfl, ?_⟩, fun r => ⟨by omega, by omega, fun r2 => hn ?_, fun r2 => hy ?_⟩⟩
      · have := deq e4 r
        rw [show u - (d + 1) = u - d - 1 by omega]
        exact this
      · have := dgt (N := M) (M := N) e4.symm (by omega)
        omega
      · exact dgt e4 (by omega)
  · have : 100000000 ^ u ≤ 100000000 ^ (v - 1) := Nat.pow_le_pow_right (by decide) (by omega)
    have := k4 (by omega)
    omega
  · have : 100000000 ^ v ≤ 100000000 ^ (u - 1) := Nat.pow_le_pow_right (by decide) (by omega)
    have := h4 (by omega)
    omega
