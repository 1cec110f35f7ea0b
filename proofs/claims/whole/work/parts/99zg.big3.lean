/-! the model's bigs -/
def MG (μ : MM) (c N : Nat) : Prop := ∃ l, 1 ≤ l ∧ l < 80 ∧ gI μ c 0 = qN l ∧ N < 10000 ^ l ∧ (1 < l → 10000 ^ (l - 1) ≤ N) ∧ ∀ k, k < l → gI μ c (k + 1) = qN (N / 10000 ^ k % 10000)
def mgS (c k _j : Nat) : Prop := k = c
theorem MG.sm {μ μ' : MM} {c N : Nat} {S : Nat → Nat → Prop} (h : MG μ c N) (f : Sm S μ μ') (hS : ∀ j, ¬ S c j) : MG μ' c N := by
  obtain ⟨l, h1, h2, h3, h4, h5, h6⟩ := h
  exact ⟨l, h1, h2, (f.1 c 0 (hS 0)).1.trans h3, h4, h5, fun k hk => (f.1 c (k + 1) (hS _)).1.trans (h6 k hk)⟩
theorem vp0 {n : Nat} (h : 0 < n) : vp_in 0 n := (qN_vp (k := 0) (by decide)).mpr h
theorem vp1 {n : Nat} (h : 1 < n) : vp_in 1 n := (qN_vp (k := 1) (by decide)).mpr h
theorem qN_m4 {x : Nat} (h : x < 2147483648) : qN x - qN x / 10000 * 10000 = qN (x % 10000) := by
  rw [show (10000 : Int32) = qN 10000 from rfl, qN_div h (by decide), qN_mul, qN_sub (Nat.div_mul_le_self _ _), dm_l]
theorem qN_d4 {x : Nat} (h : x < 2147483648) : qN x / 10000 = qN (x / 10000) := by
  rw [show (10000 : Int32) = qN 10000 from rfl, qN_div h (by decide)]
theorem qL_m4 {x : Nat} (h : x < 9223372036854775808) : qL x - qL x / 10000 * 10000 = qL (x % 10000) := by
  rw [show (10000 : Int64) = qL 10000 from rfl, qL_div h (by decide), qL_mul, qL_sub (Nat.div_mul_le_self _ _), dm_l]
theorem qL_d4 {x : Nat} (h : x < 9223372036854775808) : qL x / 10000 = qL (x / 10000) := by
  rw [show (10000 : Int64) = qL 10000 from rfl, qL_div h (by decide)]
theorem qL_i {x : Nat} : (qL x).toInt32 = qN x := Int64.toInt32_ofNat'
theorem m_small {c a : Nat} {μ : MM} {Q : MM → Prop} (hc : ln c = 80) (ha : a < 10000) (hQ : ∀ μ', Sm (mgS c) μ μ' → MG μ' c a → Q μ') : G12_isSmall c (qN a) μ Q := by
  unfold G12_isSmall
  rw [Bd_eq, Bd_eq, hc]
  refine ⟨vp0 (by decide), vp1 (by decide), hQ _ (((Sm.rfl' (S := mgS c)).wI _ rfl).wI _ rfl) ⟨1, by decide, by decide, ?_, by rw [Nat.pow_one]; exact ha, fun r => absurd r (by decide), fun k hk => ?_⟩⟩
  · rw [gI_I, if_neg (fun r => absurd r.2 (by decide)), gI_I, if_pos ⟨rfl, rfl⟩]; rfl
  · have : k = 0 := by omega
    subst this
    rw [gI_I, if_pos ⟨rfl, rfl⟩, Nat.pow_zero, Nat.div_one, Nat.mod_eq_of_lt ha]
theorem m_trim {c V w : Nat} {μ : MM} {Q : MM → Prop} (hc : ln c = 80) (hw1 : 1 ≤ w) (hw : w < 80) (h1 : gI μ c 0 = qN w) (hV : V < 10000 ^ w) (h2 : ∀ i, i < w → gI μ c (i + 1) = qN (V / 10000 ^ i % 10000))
    (hQ : ∀ μ', Sm (mgS c) μ μ' → MG μ' c V → Q μ') : Lp (G12_times_L78 c Q) μ := by
  refine Lp.wf (fun x => (gI x c 0).toNatClampNeg) (fun x => ∃ v, 1 ≤ v ∧ gI x c 0 = qN v ∧ v ≤ w ∧ V < 10000 ^ v ∧ Sm (mgS c) μ x ∧ ∀ i, i < v → gI x c (i + 1) = qN (V / 10000 ^ i % 10000)) ?_ ⟨w, hw1, h1, Nat.le_refl _, hV, Sm.rfl', h2⟩
  rintro K x ⟨v, e0, e1, e2, e3, e4, e5⟩ hK
  have c1 : qN v ≤ 1 ↔ v ≤ 1 := qN_le (b := 1) (by omega) (by decide)
  unfold G12_times_L78
  rw [e1, c1, hc]
  refine ⟨vp0 (by decide), fun q => hQ x e4 ⟨v, e0, by omega, e1, e3, fun r => by omega, e5⟩, fun q => ?_⟩
  have g := e5 (v - 1) (by omega)
  rw [show v - 1 + 1 = v by omega, dtop (by omega) e3] at g
  have b9 : V / 10000 ^ (v - 1) < 10000 := by
    have := dgl (B := 10000) (N := V) (i := v - 1) (by decide)
    rw [dtop (by omega) e3] at this
    exact this
  have m1 : qN v - 1 = qN (v - 1) := qN_sub (b := 1) (by omega)
  have z : qN (V / 10000 ^ (v - 1)) = 0 ↔ V / 10000 ^ (v - 1) = 0 := qN_eq (b := 0) (by omega) (by decide)
  rw [qN_vp (by omega), qN_nat (by omega), g, z, m1, Bd_eq]
  refine ⟨vp0 (by decide), by omega, fun r => hQ x e4 ⟨v, e0, by omega, e1, e3, fun _ => dge r, e5⟩, fun r => ⟨vp0 (by decide), vp0 (by decide), ?_⟩⟩
  refine hK _ ⟨v - 1, by omega, by rw [gI_I, if_pos ⟨rfl, rfl⟩], by omega, dltB (by decide) r, e4.wI _ rfl, fun i hi => by rw [gI_I, if_neg (fun r => by omega)]; exact e5 i (by omega)⟩ ?_
  show (gI (sI x c 0 (qN (v - 1))) c 0).toNatClampNeg < (gI x c 0).toNatClampNeg
  rw [gI_I, if_pos ⟨rfl, rfl⟩, e1, qN_nat (by omega), qN_nat (by omega)]
  omega
theorem pw79 {V n : Nat} (h : V < 10000 ^ 79) (h2 : 10000 ^ n ≤ V) : n < 79 := by
  rcases Nat.lt_or_ge n 79 with q | q
  · exact q
  · have := Nat.pow_le_pow_right (n := 10000) (by decide) q
    exact absurd (Nat.lt_of_lt_of_le h (Nat.le_trans this h2)) (Nat.lt_irrefl _)
theorem m_btimes {c N f : Nat} {μ : MM} {Q : MM → Prop} (hc : ln c = 80) (h : MG μ c N) (hf : f ≤ 100000000000000) (hV : N * f < 10000 ^ 79) (hQ : ∀ μ', Sm (mgS c) μ μ' → MG μ' c (N * f) → Q μ') : G12_times c (qL f) μ Q := by
  obtain ⟨l, h1, h2, h3, h4, h5, h6⟩ := h
  have dg : ∀ j, N / 10000 ^ j % 10000 * f ≤ 9999 * f := fun j => Nat.mul_le_mul_right _ (by
    have := dgl (B := 10000) (N := N) (i := j) (by decide)
    omega)
  have ov := pB_ov (B := 10000) (c := f) (by decide) dg (by omega)
  have hP : pB 10000 (fun j => N / 10000 ^ j % 10000 * f) l = N * f := by rw [pB_mul, pB_N, Nat.mod_eq_of_lt h4]
  refine Lp.up l (fun i (x : Int64 × Int32 × MM) => x.1 = qL (pB 10000 (fun j => N / 10000 ^ j % 10000 * f) i / 10000 ^ i) ∧ x.2.1 = qN (i + 1) ∧ Sm (mgS c) μ x.2.2 ∧ gI x.2.2 c 0 = qN l ∧ (∀ j, j < i → gI x.2.2 c (j + 1) = qN (N * f / 10000 ^ j % 10000)) ∧ (∀ j, i ≤ j → j < l → gI x.2.2 c (j + 1) = qN (N / 10000 ^ j % 10000))) ?_ ⟨by show (0 : Int64) = qL (0 / 10000 ^ 0); rw [Nat.zero_div]; rfl, rfl, Sm.rfl', h3, fun j hj => absurd hj (by omega), fun j _ hj => h6 j hj⟩
  rintro i K hi hK ⟨x1, x2, ν⟩ ⟨e0, e9, hs, e1, e2, e3⟩
  simp only at e0 e9 hs e1 e2 e3
  subst e0 e9
  have c1 : qN l < qN (i + 1) ↔ l < i + 1 := qN_lt (by omega) (by omega)
  unfold G12_times_L5
  simp only [e1, c1, hc]
  refine ⟨vp0 (by decide), fun q => ?_, fun q => ?_⟩
  · have e : i = l := by omega
    subst e
    rw [hP]
    clear hK K e3 ov hP dg c1
    have cb : ∀ n, i ≤ n → N * f / 10000 ^ n ≤ f := fun n hn => by
      refine Nat.div_le_of_le_mul (Nat.mul_le_mul_right _ (Nat.le_of_lt (Nat.lt_of_lt_of_le h4 (Nat.pow_le_pow_right (by decide) hn))))
    generalize N * f = V at *
    refine Lp.up (79 - i) (fun d (x : Int64 × MM) => x.1 = qL (V / 10000 ^ (i + d)) ∧ Sm (mgS c) μ x.2 ∧ gI x.2 c 0 = qN (i + d) ∧ ∀ j, j < i + d → gI x.2 c (j + 1) = qN (V / 10000 ^ j % 10000)) ?_ ⟨rfl, hs, e1, e2⟩
    clear hs e1 e2 q
    rintro d K hd hK ⟨x1, ω⟩ ⟨rfl, hs, e1, e2⟩
    simp only at hs e1 e2
    have b := cb (i + d) (by omega)
    unfold G12_times_L45
    simp only [lg_le, show ∀ y : Nat, y < 9223372036854775808 → ((0 : Int64) < qL y ↔ 0 < y) from fun y hy => qL_lt (a := 0) (by decide) hy, show V / 10000 ^ (i + d) < 9223372036854775808 by omega, hc]
    refine ⟨fun q => ?_, fun q => ?_⟩
    · refine m_trim hc (by omega) (by omega) e1 (dltB (by decide) (Nat.eq_zero_of_not_pos q)) e2 (fun μ' f h => hQ μ' (hs.tr f) h)
    · have l2 := pw79 hV (dge (show V / 10000 ^ (i + d) ≠ 0 by omega))
      have s := div_ss 10000 V (i + d)
      rw [e1, show qN (i + d) + 1 = qN (i + d + 1) from qN_add _ 1, Bd_eq, gI_I, if_pos ⟨rfl, rfl⟩, qN_vp (by omega), qN_nat (by omega), qL_m4 (by omega), qL_i, Bd_eq, qL_d4 (by omega), Bd_eq, ← s]
      refine ⟨vp0 (by decide), vp0 (by decide), vp0 (by decide), by omega, hK (by omega) _ ⟨rfl, (hs.wI _ rfl).wI _ rfl, ?_, fun j hj => ?_⟩⟩
      · show gI (sI (sI ω c 0 (qN (i + d + 1))) c (i + d + 1) _) c 0 = _
        rw [gI_I, if_neg (fun r => by omega), gI_I, if_pos ⟨rfl, rfl⟩]; rfl
      · show gI (sI (sI ω c 0 (qN (i + d + 1))) c (i + d + 1) _) c (j + 1) = _
        rw [gI_I]
        by_cases q3 : j = i + d
        · rw [if_pos ⟨rfl, by omega⟩, q3]
        · rw [if_neg (fun r => by omega), gI_I, if_neg (fun r => by omega)]
          exact e2 j (by omega)
  · have l1 : i < l := by omega
    have st := pB_div (B := 10000) (by decide) (fun j => N / 10000 ^ j % 10000 * f) i
    have o1 := ov i
    have o2 := dg i
    have dd := pB_digs (B := 10000) (by decide) (fun j => N / 10000 ^ j % 10000 * f) l1
    rw [hP] at dd
    have ss := div_ss 10000 (pB 10000 (fun j => N / 10000 ^ j % 10000 * f) (i + 1)) i
    have d4 := dgl (B := 10000) (N := N) (i := i) (by decide)
    have hb : pB 10000 (fun j => N / 10000 ^ j % 10000 * f) (i + 1) / 10000 ^ i < 9223372036854775808 := by rw [st]; omega
    rw [qN_vp (by omega), qN_nat (by omega), e3 i (Nat.le_refl _) l1, qN_6 (by omega), qL_mul, qL_add, ← st, Bd_eq, qL_m4 hb, qL_i, qL_d4 hb, Bd_eq, Bd_eq, ← ss, ← dd]
    refine ⟨by omega, by omega, hK l1 _ ⟨rfl, qN_add (i + 1) 1, hs.wI _ rfl, ?_, fun j hj => ?_, fun j h7 h8 => ?_⟩⟩
    · show gI (sI ν c (i + 1) _) c 0 = _
      rw [gI_I, if_neg (fun r => by omega)]; exact e1
    · show gI (sI ν c (i + 1) _) c (j + 1) = _
      rw [gI_I]
      by_cases q3 : j = i
      · rw [if_pos ⟨rfl, by omega⟩, q3]
      · rw [if_neg (fun r => by omega)]; exact e2 j (by omega)
    · show gI (sI ν c (i + 1) _) c (j + 1) = _
      rw [gI_I, if_neg (fun r => by omega)]
      exact e3 j (by omega) h8
theorem m_badd {c b N M : Nat} {μ : MM} {Q : MM → Prop} (hcb : c ≠ b) (hc : ln c = 80) (hb : ln b = 80) (h : MG μ c N) (h' : MG μ b M) (hV : N + M < 10000 ^ 79) (hQ : ∀ μ', Sm (mgS c) μ μ' → MG μ' c (N + M) → Q μ') : G12_adds c b μ Q := by
  obtain ⟨l, h1, h2, h3, h4, h5, h6⟩ := h
  obtain ⟨v, k1, k2, k3, k4, k5, k6⟩ := h'
  have em : (if qN l < qN v then qN v else qN l) = qN (max l v) := by
    have := qN_lt (a := l) (b := v) (by omega) (by omega)
    by_cases q : l < v
    · rw [if_pos (this.mpr q)]; congr 1; omega
    · rw [if_neg (fun r => q (this.mp r))]; congr 1; omega
  unfold G12_adds
  rw [h3, k3, em, Bd_eq, hc, hb]
  refine ⟨vp0 (by decide), vp0 (by decide), ?_⟩
  have dn : ∀ j, N / 10000 ^ j % 10000 < 10000 := fun j => dgl (by decide)
  have dm : ∀ j, M / 10000 ^ j % 10000 < 10000 := fun j => dgl (by decide)
  have ov := pB_ov (B := 10000) (G := 19998) (c := 1) (g := fun j => N / 10000 ^ j % 10000 + M / 10000 ^ j % 10000) (by decide) (fun j => by have := dn j; have := dm j; omega) (by decide)
  have hw : ∃ w, w = max l v := ⟨_, rfl⟩
  obtain ⟨w, hw⟩ := hw
  rw [← hw]
  have hNw : N < 10000 ^ w := Nat.lt_of_lt_of_le h4 (Nat.pow_le_pow_right (by decide) (by omega))
  have hMw : M < 10000 ^ w := Nat.lt_of_lt_of_le k4 (Nat.pow_le_pow_right (by decide) (by omega))
  have hP : pB 10000 (fun j => N / 10000 ^ j % 10000 + M / 10000 ^ j % 10000) w = N + M := by rw [pB_add, pB_N, pB_N, Nat.mod_eq_of_lt hNw, Nat.mod_eq_of_lt hMw]
  have top : 1 < w → 10000 ^ (w - 1) ≤ N + M := fun r => by
    by_cases q : w = l
    · subst q
      exact Nat.le_trans (h5 r) (Nat.le_add_right _ _)
    · have : w = v := by omega
      subst this
      exact Nat.le_trans (k5 r) (Nat.le_add_left _ _)
  refine Lp.up w (fun i (x : Int32 × Int32 × MM) => x.1 = qN (pB 10000 (fun j => N / 10000 ^ j % 10000 + M / 10000 ^ j % 10000) i / 10000 ^ i) ∧ x.2.1 = qN (i + 1) ∧ Sm (mgS c) μ x.2.2 ∧ gI x.2.2 c 0 = qN l ∧ (∀ j, j < i → gI x.2.2 c (j + 1) = qN ((N + M) / 10000 ^ j % 10000)) ∧ (∀ j, i ≤ j → j < l → gI x.2.2 c (j + 1) = qN (N / 10000 ^ j % 10000))) ?_ ⟨by show (0 : Int32) = qN (0 / 10000 ^ 0); rw [Nat.zero_div]; rfl, rfl, Sm.rfl', h3, fun j hj => absurd hj (by omega), fun j _ hj => h6 j hj⟩
  rintro i K hi hK ⟨x1, x2, ν⟩ ⟨e0, e9, hs, e1, e2, e3⟩
  simp only at e0 e9 hs e1 e2 e3
  subst e0 e9
  have c1 : qN w < qN (i + 1) ↔ w < i + 1 := qN_lt (by omega) (by omega)
  have c2 : qN l < qN (i + 1) ↔ l < i + 1 := qN_lt (by omega) (by omega)
  have c3 : qN v < qN (i + 1) ↔ v < i + 1 := qN_lt (by omega) (by omega)
  have f1 : gI ν b 0 = qN v := by rw [(hs.1 b 0 (by unfold mgS; omega)).1]; exact k3
  have o1 := ov i
  unfold G12_adds_L15 G12_adds_J37
  simp only [e1, f1, c1, c2, c3, hc, hb]
  refine ⟨fun q => ?_, fun q => ?_⟩
  · have e : i = w := by omega
    have hw2 : 1 ≤ w := by omega
    have hw3 : w < 80 := by omega
    clear hw
    subst e
    rw [hP] at o1 ⊢
    have z : qN ((N + M) / 10000 ^ i) ≤ 0 ↔ (N + M) / 10000 ^ i ≤ 0 := qN_le (b := 0) (by omega) (by decide)
    rw [Bd_eq, z, gI_I, if_pos ⟨rfl, rfl⟩, show qN i + 1 = qN (i + 1) from qN_add i 1, Bd_eq, gI_I, if_pos ⟨rfl, rfl⟩, qN_vp (by omega), qN_nat (by omega), Bd_eq]
    refine ⟨vp0 (by decide), fun r => ?_, fun r => ?_⟩
    · refine hQ _ (hs.wI _ rfl) ⟨i, hw2, hw3, by rw [gI_I, if_pos ⟨rfl, rfl⟩], dltB (by decide) (Nat.le_zero.mp r), top, fun j hj => ?_⟩
      rw [gI_I, if_neg (fun r => by omega)]
      exact e2 j hj
    · have l2 := pw79 hV (dge (show (N + M) / 10000 ^ i ≠ 0 by omega))
      refine ⟨vp0 (by decide), vp0 (by decide), vp0 (by decide), by omega, hQ _ (((hs.wI _ rfl).wI _ rfl).wI _ rfl) ⟨i + 1, by omega, by omega, ?_, ?_, fun _ => dge (show (N + M) / 10000 ^ i ≠ 0 by omega), fun j hj => ?_⟩⟩
      · rw [gI_I, if_neg (fun r => by omega), gI_I, if_pos ⟨rfl, rfl⟩]
      · refine dltB (by decide) ?_
        rw [div_ss]
        omega
      · rw [gI_I]
        by_cases q3 : j = i
        · rw [if_pos ⟨rfl, by omega⟩, q3, Nat.mod_eq_of_lt (by omega)]
        · rw [if_neg (fun r => by omega), gI_I, if_neg (fun r => by omega), gI_I, if_neg (fun r => by omega)]
          exact e2 j (by omega)
  · have l1 : i < w := by omega
    have st := pB_div (B := 10000) (by decide) (fun j => N / 10000 ^ j % 10000 + M / 10000 ^ j % 10000) i
    have dd := pB_digs (B := 10000) (by decide) (fun j => N / 10000 ^ j % 10000 + M / 10000 ^ j % 10000) l1
    rw [hP] at dd
    have ss := div_ss 10000 (pB 10000 (fun j => N / 10000 ^ j % 10000 + M / 10000 ^ j % 10000) (i + 1)) i
    have d1 := dn i
    have d2 := dm i
    have hb9 : pB 10000 (fun j => N / 10000 ^ j % 10000 + M / 10000 ^ j % 10000) (i + 1) / 10000 ^ i < 2147483648 := by rw [st]; show _ + (N / 10000 ^ i % 10000 + M / 10000 ^ i % 10000) < _; omega
    have fin : G12_adds_J53 c b (qN w) (qN (pB 10000 (fun j => N / 10000 ^ j % 10000 + M / 10000 ^ j % 10000) i / 10000 ^ i)) (qN (i + 1)) (qN (M / 10000 ^ i % 10000)) (qN (N / 10000 ^ i % 10000)) ν K Q := by
      unfold G12_adds_J53
      have ey : qN (N / 10000 ^ i % 10000) + qN (M / 10000 ^ i % 10000) + qN (pB 10000 (fun j => N / 10000 ^ j % 10000 + M / 10000 ^ j % 10000) i / 10000 ^ i) = qN (pB 10000 (fun j => N / 10000 ^ j % 10000 + M / 10000 ^ j % 10000) (i + 1) / 10000 ^ i) := by
        rw [qN_add, qN_add, st, Nat.add_comm]
      rw [ey, Bd_eq, hc, qN_vp (by omega), qN_nat (by omega), qN_m4 hb9, qN_d4 hb9, Bd_eq, Bd_eq, ← ss, ← dd]
      refine ⟨by omega, hK l1 _ ⟨rfl, qN_add (i + 1) 1, hs.wI _ rfl, ?_, fun j hj => ?_, fun j h7 h8 => ?_⟩⟩
      · show gI (sI ν c (i + 1) _) c 0 = _
        rw [gI_I, if_neg (fun r => by omega)]; exact e1
      · show gI (sI ν c (i + 1) _) c (j + 1) = _
        rw [gI_I]
        by_cases q3 : j = i
        · rw [if_pos ⟨rfl, by omega⟩, q3]
        · rw [if_neg (fun r => by omega)]; exact e2 j (by omega)
      · show gI (sI ν c (i + 1) _) c (j + 1) = _
        rw [gI_I, if_neg (fun r => by omega)]
        exact e3 j (by omega) h8
    have g0 : ∀ r : Int32, r = qN (N / 10000 ^ i % 10000) → vp_in 0 80 ∧ ((v < i + 1 → G12_adds_J53 c b (qN w) (qN (pB 10000 (fun j => N / 10000 ^ j % 10000 + M / 10000 ^ j % 10000) i / 10000 ^ i)) (qN (i + 1)) 0 r ν K Q) ∧ (¬ v < i + 1 → vp_in (qN (i + 1)) 80 ∧ G12_adds_J53 c b (qN w) (qN (pB 10000 (fun j => N / 10000 ^ j % 10000 + M / 10000 ^ j % 10000) i / 10000 ^ i)) (qN (i + 1)) (gI ν b (qN (i + 1)).toNatClampNeg) r ν K Q)) := fun r er => by
      subst er
      refine ⟨vp0 (by decide), fun q3 => ?_, fun q3 => ?_⟩
      · rw [dz (by decide) k4 (by omega)] at fin
        exact fin
      · rw [qN_vp (by omega), qN_nat (by omega), (hs.1 b (i + 1) (by unfold mgS; omega)).1, k6 i (by omega)]
        exact ⟨by omega, fin⟩
    refine ⟨vp0 (by decide), fun q2 => g0 0 ?_, fun q2 => ⟨(qN_vp (by omega)).mpr (by omega), g0 _ ?_⟩⟩
    · rw [dz (by decide) h4 (by omega)]; rfl
    · rw [qN_nat (by omega)]; exact e3 i (Nat.le_refl _) (by omega)
theorem m_bbecomes {c b N : Nat} {μ : MM} {Q : MM → Prop} (hcb : c ≠ b) (hc : ln c = 80) (hb : ln b = 80) (h : MG μ b N) (hQ : ∀ μ', Sm (mgS c) μ μ' → MG μ' c N → Q μ') : G12_becomes c b μ Q := by
  obtain ⟨l, h1, h2, h3, h4, h5, h6⟩ := h
  refine Lp.up (l + 1) (fun i (x : Int32 × MM) => x.1 = qN i ∧ Sm (mgS c) μ x.2 ∧ ∀ j, j < i → gI x.2 c j = gI μ b j) ?_ ⟨rfl, Sm.rfl', fun j hj => absurd hj (by omega)⟩
  rintro i K hi hK ⟨x1, ν⟩ ⟨rfl, hs, e1⟩
  simp only at hs e1
  have f : ∀ j, gI ν b j = gI μ b j := fun j => (hs.1 b j (by unfold mgS; omega)).1
  have c1 : qN l < qN i ↔ l < i := qN_lt (by omega) (by omega)
  unfold G12_becomes_L2
  simp only [f, h3, c1, hc, hb]
  refine ⟨vp0 (by decide), fun q => ?_, fun q => ?_⟩
  · have e : i = l + 1 := by omega
    subst e
    exact hQ ν hs ⟨l, h1, h2, by rw [e1 0 (by omega)]; exact h3, h4, h5, fun k hk => by rw [e1 (k + 1) (by omega)]; exact h6 k hk⟩
  · rw [qN_vp (by omega), qN_nat (by omega), Bd_eq]
    refine ⟨by omega, by omega, hK (by omega) _ ⟨qN_add i 1, hs.wI _ rfl, fun j hj => ?_⟩⟩
    show gI (sI ν c i (gI μ b i)) c j = _
    rw [gI_I]
    by_cases q3 : j = i
    · rw [if_pos ⟨rfl, q3⟩, q3]
    · rw [if_neg (fun r => q3 r.2)]; exact e1 j (by omega)
theorem m_cmp {c b N M : Nat} {μ : MM} {Q : Int32 → MM → Prop} (hc : ln c = 80) (hb : ln b = 80) (h : MG μ c N) (h' : MG μ b M) (hg : M < N → Q 1 μ) (hl : N < M → Q (-1) μ) (he : N = M → Q 0 μ) : G12_comparesGreat c b μ Q := by
  obtain ⟨l, h1, h2, h3, h4, h5, h6⟩ := h
  obtain ⟨v, k1, k2, k3, k4, k5, k6⟩ := h'
  unfold G12_comparesGreat
  rw [h3, k3, qN_eq (by omega) (by omega), qN_le (by omega) (by omega), Bd_eq, hc, hb]
  refine ⟨vp0 (by decide), vp0 (by decide), fun q => ⟨vp0 (by decide), ?_⟩, fun q => ⟨vp0 (by decide), vp0 (by decide), fun q2 => hg ?_, fun q2 => hl ?_⟩⟩
  · subst q
    refine Lp.up l (fun d (x : Int32 × MM) => x.1 = qN (l - d) ∧ x.2 = μ ∧ N / 10000 ^ (l - d) = M / 10000 ^ (l - d)) ?_ ⟨rfl, rfl, by rw [Nat.sub_zero, Nat.div_eq_of_lt h4, Nat.div_eq_of_lt k4]⟩
    rintro d K hd hK ⟨x1, ν⟩ ⟨rfl, e2, e3⟩
    simp only at e2 e3
    subst e2
    have c1 : qN (l - d) ≤ 0 ↔ l - d ≤ 0 := qN_le (b := 0) (by omega) (by decide)
    unfold G12_comparesGreat_L28
    simp only [c1, hc, hb]
    refine ⟨fun z => he ?_, fun z => ?_⟩
    · rw [show l - d = 0 by omega, Nat.pow_zero, Nat.div_one, Nat.div_one] at e3
      exact e3
    · have b1 := dgl (B := 10000) (N := N) (i := l - d - 1) (by decide)
      have b2 := dgl (B := 10000) (N := M) (i := l - d - 1) (by decide)
      have e4 : N / 10000 ^ (l - d - 1 + 1) = M / 10000 ^ (l - d - 1 + 1) := by rw [show l - d - 1 + 1 = l - d by omega]; exact e3
      have g1 := h6 (l - d - 1) (by omega)
      have g2 := k6 (l - d - 1) (by omega)
      rw [show l - d - 1 + 1 = l - d by omega] at g1 g2
      have m1 : qN (l - d) + (-1) = qN (l - (d + 1)) := by rw [m1_sub (by omega)]; congr 1
      simp only [qN_vp (show l - d < 2147483648 by omega), qN_nat (show l - d < 2147483648 by omega), g1, g2, qN_eq (show N / 10000 ^ (l - d - 1) % 10000 < 2147483648 by omega) (show M / 10000 ^ (l - d - 1) % 10000 < 2147483648 by omega), qN_le (show M / 10000 ^ (l - d - 1) % 10000 < 2147483648 by omega) (show N / 10000 ^ (l - d - 1) % 10000 < 2147483648 by omega), m1]
      refine ⟨by omega, by omega, fun r => hK (by omega) _ ⟨rfl, rfl, ?_⟩, fun r => ⟨by omega, by omega, fun r2 => hg (dgt e4 (by omega)), fun r2 => hl (dgt e4.symm (by omega))⟩⟩
      have := deq e4 r
      rw [show l - (d + 1) = l - d - 1 by omega]
      exact this
  · have : 10000 ^ v ≤ 10000 ^ (l - 1) := Nat.pow_le_pow_right (by decide) (by omega)
    have := h5 (by omega)
    omega
  · have : 10000 ^ l ≤ 10000 ^ (v - 1) := Nat.pow_le_pow_right (by decide) (by omega)
    have := k5 (by omega)
    omega
