/-! chances: the model -/
def RG (μ : MM) (m N : Nat) : Prop := ∃ l, 1 ≤ l ∧ l < 80 ∧ gI μ 404 (80 * m) = qN l ∧ N < 10000 ^ l ∧ (1 < l → 10000 ^ (l - 1) ≤ N) ∧ ∀ k, k < l → gI μ 404 (80 * m + (k + 1)) = qN (N / 10000 ^ k % 10000)
def rwS (m k j : Nat) : Prop := k = 404 ∧ 80 * m ≤ j ∧ j < 80 * m + 80
def gmS (k _j : Nat) : Prop := k = 392 ∨ k = 404 ∨ k = 405
theorem RG.sm {μ μ' : MM} {m N : Nat} {S : Nat → Nat → Prop} (h : RG μ m N) (f : Sm S μ μ') (hS : ∀ j, 80 * m ≤ j → j < 80 * m + 80 → ¬ S 404 j) : RG μ' m N := by
  obtain ⟨l, h1, h2, h3, h4, h5, h6⟩ := h
  exact ⟨l, h1, h2, (f.1 404 (80 * m) (hS _ (by omega) (by omega))).1.trans h3, h4, h5, fun k hk => (f.1 404 _ (hS _ (by omega) (by omega))).1.trans (h6 k hk)⟩
theorem l392 : ln 392 = 80 := by decide
theorem l393 : ln 393 = 80 := by decide
theorem l405 : ln 405 = 80 := by decide
theorem m_blays {m c N : Nat} {μ : MM} {Q : MM → Prop} (hm : m < 17) (hc : ln c = 80) (hc4 : c ≠ 404) (h : MG μ c N) (hQ : ∀ μ', Sm (rwS m) μ μ' → RG μ' m N → Q μ') : G12_laysAt (qN m) c μ Q := by
  obtain ⟨l, h1, h2, h3, h4, h5, h6⟩ := h
  refine Lp.up 80 (fun i (x : Int32 × MM) => x.1 = qN i ∧ Sm (rwS m) μ x.2 ∧ ∀ j, j < i → j ≤ l → gI x.2 404 (80 * m + j) = gI μ c j) ?_ ⟨rfl, Sm.rfl', fun j hj => absurd hj (by omega)⟩
  rintro i K hi hK ⟨x1, ν⟩ ⟨rfl, hs, e1⟩
  simp only at hs e1
  have f : ∀ j, gI ν c j = gI μ c j := fun j => (hs.1 c j (by unfold rwS; omega)).1
  have c1 : (80 : Int32) ≤ qN i ↔ 80 ≤ i := qN_le (a := 80) (by decide) (by omega)
  have c2 : qN l < qN i ↔ l < i := qN_lt (by omega) (by omega)
  have o8 : (80 : Int32) * qN m + qN i = qN (80 * m + i) := by rw [show (80 : Int32) * qN m = qN (80 * m) from qN_mul 80 m, qN_add]
  unfold G12_laysAt_L2
  simp only [f, h3, c1, c2, hc, o8]
  refine ⟨fun q => ?_, fun q => ⟨vp0 (by decide), ?_⟩⟩
  · have e : i = 80 := by omega
    subst e
    refine hQ ν hs ⟨l, h1, h2, ?_, h4, h5, fun k hk => ?_⟩
    · have := e1 0 (by omega) (by omega)
      rw [Nat.add_zero] at this
      rw [this]; exact h3
    · rw [e1 (k + 1) (by omega) (by omega)]; exact h6 k hk
  · have put : ∀ v, (i ≤ l → v = gI μ c i) → K (qN i + 1, sI ν 404 (80 * m + i) v) := fun v hv => by
      refine hK (by omega) _ ⟨qN_add i 1, hs.wI _ (show rwS m 404 (80 * m + i) from ⟨rfl, by omega, by omega⟩), fun j hj hjl => ?_⟩
      show gI (sI ν 404 (80 * m + i) v) 404 (80 * m + j) = _
      rw [gI_I]
      by_cases q3 : j = i
      · subst q3
        rw [if_pos ⟨rfl, rfl⟩]; exact hv hjl
      · rw [if_neg (fun r => by omega)]; exact e1 j (by omega) hjl
    rw [qN_vp (by omega), qN_vp (by omega), qN_nat (by omega), qN_nat (by omega), Bd_eq, Bd_eq]
    exact ⟨fun q2 => ⟨by omega, put 0 (fun r => by omega)⟩, fun q2 => ⟨by omega, by omega, put _ (fun _ => rfl)⟩⟩
theorem m_takes {m c N : Nat} {μ : MM} {Q : MM → Prop} (hm : m < 17) (hc : ln c = 80) (hc4 : c ≠ 404) (h : RG μ m N) (hQ : ∀ μ', Sm (mgS c) μ μ' → MG μ' c N → Q μ') : G12_takesFrom (qN m) c μ Q := by
  obtain ⟨l, h1, h2, h3, h4, h5, h6⟩ := h
  refine Lp.up 80 (fun i (x : Int32 × MM) => x.1 = qN i ∧ Sm (mgS c) μ x.2 ∧ ∀ j, j < i → gI x.2 c j = gI μ 404 (80 * m + j)) ?_ ⟨rfl, Sm.rfl', fun j hj => absurd hj (by omega)⟩
  rintro i K hi hK ⟨x1, ν⟩ ⟨rfl, hs, e1⟩
  simp only at hs e1
  have f : ∀ j, gI ν 404 j = gI μ 404 j := fun j => (hs.1 404 j (by unfold mgS; omega)).1
  have c1 : (80 : Int32) ≤ qN i ↔ 80 ≤ i := qN_le (a := 80) (by decide) (by omega)
  have o8 : (80 : Int32) * qN m + qN i = qN (80 * m + i) := by rw [show (80 : Int32) * qN m = qN (80 * m) from qN_mul 80 m, qN_add]
  unfold G12_takesFrom_L2
  simp only [f, c1, hc, o8]
  refine ⟨fun q => ?_, fun q => ?_⟩
  · have e : i = 80 := by omega
    subst e
    refine hQ ν hs ⟨l, h1, h2, ?_, h4, h5, fun k hk => ?_⟩
    · have := e1 0 (by omega)
      rw [Nat.add_zero] at this
      rw [this]; exact h3
    · rw [e1 (k + 1) (by omega)]; exact h6 k hk
  · rw [qN_vp (by omega), qN_vp (by omega), qN_nat (by omega), qN_nat (by omega), Bd_eq]
    refine ⟨by omega, by omega, hK (by omega) _ ⟨qN_add i 1, hs.wI _ rfl, fun j hj => ?_⟩⟩
    show gI (sI ν c i _) c j = _
    rw [gI_I]
    by_cases q3 : j = i
    · rw [if_pos ⟨rfl, q3⟩, q3]
    · rw [if_neg (fun r => q3 r.2)]; exact e1 j (by omega)
theorem m_chanceOf {m n N : Nat} {μ : MM} {Q : Int32 → MM → Prop} (hm : m ≤ 16) (hn : n ≤ 16) (h : RG μ m N) (hN : N * 1000000 < 10000 ^ 79) (hQ : ∀ μ', Sm (mgS 392) μ μ' → Q (qN (N * 1000000 / 10000 ^ n)) μ') : G12_chanceOf (qN m) (qN n) μ Q := by
  have c0 : qN m ≤ 16 := (qN_le (b := 16) (by omega) (by decide)).mpr hm
  refine ⟨fun _ => ?_, fun r => absurd c0 r⟩
  refine m_takes (by omega) l392 (by decide) h (fun μ1 s1 g1 => ?_)
  rw [show (1000000 : Int64) = qL 1000000 from rfl]
  refine m_btimes l392 g1 (by decide) hN (fun μ2 s2 g2 => ?_)
  obtain ⟨l, h1, h2, h3, h4, h5, h6⟩ := g2
  have hQ2 := hQ μ2 (s1.tr s2)
  clear hQ
  generalize N * 1000000 = V at *
  rw [h3, Bd_eq]
  refine Lp.up (l - n) (fun d (x : Int64 × Int32 × MM) => x = (qL (V / 10000 ^ (l - d)), qN (l - d), μ2)) ?_ (by rw [Nat.sub_zero, Nat.div_eq_of_lt h4]; rfl)
  rintro d K hd hK _ rfl
  have c1 : qN (l - d) ≤ qN n ↔ l - d ≤ n := qN_le (by omega) (by omega)
  unfold G12_chanceOf_L37
  simp only [c1, qL_i]
  refine ⟨fun q => ?_, fun q => ?_⟩
  · by_cases q2 : l - d = n
    · rw [q2]; exact hQ2
    · have e0 : d = 0 := by omega
      subst e0
      rw [Nat.sub_zero, Nat.div_eq_of_lt h4]
      rw [Nat.div_eq_of_lt (Nat.lt_of_lt_of_le h4 (Nat.pow_le_pow_right (by decide) (by omega)))] at hQ2
      exact hQ2
  · have g := h6 (l - d - 1) (by omega)
    rw [show l - d - 1 + 1 = l - d by omega] at g
    have b4 := dgl (B := 10000) (N := V) (i := l - d - 1) (by decide)
    rw [qN_vp (by omega), qN_nat (by omega), g, qN_6 (by omega), show (10000 : Int64) = qL 10000 from rfl, qL_mul, qL_add, Bd_eq, m1_sub (by omega)]
    have e : V / 10000 ^ (l - d) * 10000 + V / 10000 ^ (l - d - 1) % 10000 = V / 10000 ^ (l - (d + 1)) := by
      rw [show l - (d + 1) = l - d - 1 by omega]
      have := div_ss 10000 V (l - d - 1)
      rw [show l - d - 1 + 1 = l - d by omega] at this
      rw [this, Nat.div_add_mod']
    rw [e]
    exact ⟨by omega, hK (by omega) _ rfl⟩
theorem m_powers {a r n P : Nat} {μ : MM} {Q : MM → Prop} (hn : n ≤ 16) (hr : r ≤ n) (ha : a ≤ 100) (h : MG μ 405 P) (hP : P ≤ 100000000000000000000000000000000) (hQ : ∀ μ', Sm (mgS 405) μ μ' → MG μ' 405 (P * (a ^ r * (100 - a) ^ (n - r))) → Q μ') : G12_powers (qN a) (qN r) (qN n) μ Q := by
  refine Lp.up n (fun k (x : Int32 × MM) => x.1 = qN k ∧ Sm (mgS 405) μ x.2 ∧ MG x.2 405 (P * pw a r k)) ?_ ⟨rfl, Sm.rfl', by rw [pw_0, Nat.mul_one]; exact h⟩
  rintro k K hk hK ⟨x1, ν⟩ ⟨rfl, hs, hg⟩
  simp only at hs hg
  have c1 : qN n ≤ qN k ↔ n ≤ k := qN_le (by omega) (by omega)
  have c2 : qN r ≤ qN k ↔ r ≤ k := qN_le (by omega) (by omega)
  unfold G12_powers_L3 G12_powers_J29
  simp only [c1, c2]
  refine ⟨fun q => hQ ν hs ?_, fun q => ?_⟩
  · have e : k = n := by omega
    subst e
    rw [pw_n hr] at hg
    exact hg
  · have cap : ∀ z, z ≤ 100 → P * pw a r k * z < 10000 ^ 79 := fun z hz => by
      have h1 : pw a r k ≤ 100000000000000000000000000000000 := Nat.le_trans (pw_b ha r k) (p100 (by omega))
      have h2 := Nat.mul_le_mul (Nat.mul_le_mul hP h1) hz
      exact Nat.lt_of_le_of_lt h2 (by decide)
    have ov : qN k + 1 = qN (k + 1) := qN_add k 1
    refine ⟨fun q2 => ?_, fun q2 => ?_⟩
    · have e : (100 - qN a).toInt64 = qL (100 - a) := by
        rw [show (100 : Int32) - qN a = qN (100 - a) from qN_sub (a := 100) ha, qN_6 (by omega)]
      rw [e]
      refine m_btimes l405 hg (by omega) (cap _ (by omega)) (fun μ2 s2 g2 => ?_)
      rw [Nat.mul_assoc, ← pw_s2 q2] at g2
      rw [ov]
      exact hK (by omega) _ ⟨rfl, hs.tr s2, g2⟩
    · rw [qN_6 (by omega)]
      refine m_btimes l405 hg (by omega) (cap _ ha) (fun μ2 s2 g2 => ?_)
      rw [Nat.mul_assoc, ← pw_s1 (by omega)] at g2
      rw [ov]
      exact hK (by omega) _ ⟨rfl, hs.tr s2, g2⟩
theorem sm_one (a v : Nat) : ∀ n, a < n → sm (fun d => if d = a then v else 0) n = v
  | 0, h => absurd h (by omega)
  | n + 1, h => by
    show sm (fun d => if d = a then v else 0) n + (if n = a then v else 0) = v
    by_cases q : n = a
    · rw [if_pos q, sm_0 n (fun d hd => if_neg (by omega)), Nat.zero_add]
    · rw [if_neg q, sm_one a v n (by omega), Nat.add_zero]
theorem Ec_s (n a b : Nat) {m : Nat} (h : m < 17) : Ec n a b m = Dc n a b m + Ec n a b (m + 1) := by
  unfold Ec
  have e : sm (fun d => if m ≤ d then Dc n a b d else 0) 17 = sm (fun d => (if d = m then Dc n a b m else 0) + (if m + 1 ≤ d then Dc n a b d else 0)) 17 := sm_congr (fun d _ => by
    by_cases q : d = m
    · subst q; rw [if_pos (Nat.le_refl _), if_pos rfl, if_neg (by omega), Nat.add_zero]
    · rw [if_neg q, Nat.zero_add]
      by_cases q2 : m ≤ d
      · rw [if_pos q2, if_pos (by omega)]
      · rw [if_neg q2, if_neg (by omega)])
  rw [e, sm_add, sm_one m _ 17 h]
theorem Ec_17 (n a b : Nat) : Ec n a b 17 = 0 := sm_0 17 (fun d hd => if_neg (by omega))
theorem m_chances {n a b : Nat} {μ : MM} {Q : MM → Prop} (hn : n ≤ 16) (ha : a ≤ 100) (hb : b ≤ 100) (hQ : ∀ μ', Sm gmS μ μ' → (∀ m, m < 17 → RG μ' m (Ec n a b m)) → Q μ') : G12_chances (qN n) (qN a) (qN b) μ Q := by
  have t1 : ∀ c, c = 392 ∨ c = 405 → ∀ ω ω' : MM, Sm (mgS c) ω ω' → Sm gmS ω ω' := fun c h ω ω' s => s.mo (fun k j q => by unfold mgS at q; unfold gmS; omega)
  have t2 : ∀ m, ∀ ω ω' : MM, Sm (rwS m) ω ω' → Sm gmS ω ω' := fun m ω ω' s => s.mo (fun k j q => Or.inr (Or.inl q.1))
  have nr : ∀ c, c = 392 ∨ c = 405 → ∀ j, ¬ mgS c 404 j := fun c h j => by unfold mgS; omega
  refine Lp.up 17 (fun i (x : Int32 × MM) => x.1 = qN i ∧ Sm gmS μ x.2 ∧ ∀ m, m < i → RG x.2 m (Dc n a b m)) ?_ ⟨rfl, Sm.rfl', fun r hr => absurd hr (by omega)⟩
  rintro i K hi hK ⟨x1, ν⟩ ⟨rfl, hs, hg⟩
  simp only at hs hg
  have c1 : (16 : Int32) < qN i ↔ 16 < i := qN_lt (a := 16) (by decide) (by omega)
  unfold G12_chances_L3
  simp only [c1]
  refine ⟨fun q => ?_, fun q => ?_⟩
  · have e : i = 17 := by omega
    subst e
    clear hK K
    refine Lp.up 16 (fun e (x : Int32 × MM) => x.1 = (if e = 16 then -1 else qN (15 - e)) ∧ Sm gmS μ x.2 ∧ ∀ m, m < 17 → RG x.2 m (if m + e < 16 then Dc n a b m else Ec n a b m)) ?_ ⟨rfl, hs, fun m hm => by
      by_cases q2 : m < 16
      · rw [if_pos (by omega)]; exact hg m hm
      · have : m = 16 := by omega
        subst this
        rw [if_neg (by omega), Ec_s n a b (by omega), Ec_17, Nat.add_zero]; exact hg 16 hm⟩
    clear hs hg q c1 hi ν
    rintro e K he hK ⟨x1, ν⟩ ⟨hx, hs, hg⟩
    simp only at hx hs hg
    subst hx
    rcases Nat.lt_or_ge e 16 with l | l
    · rw [if_neg (by omega)]
      refine ⟨fun r => absurd ((qN_neg (by omega)).mp r) id, fun _ => ?_⟩
      have g0 := hg (15 - e) (by omega)
      rw [if_pos (by omega)] at g0
      have g1 := hg (15 - e + 1) (by omega)
      rw [if_neg (by omega)] at g1
      have dec : qN (15 - e) + (-1) = (if e + 1 = 16 then -1 else qN (15 - (e + 1))) := by
        by_cases q : e + 1 = 16
        · rw [if_pos q, show 15 - e = 0 by omega]; decide
        · rw [if_neg q, m1_sub (by omega)]; congr 1
      show G12_takesFrom (qN (15 - e)) 392 ν (fun μ18 => G12_takesFrom (qN (15 - e) + 1) 405 μ18 (fun μ19 => G12_adds 392 405 μ19 (fun μ20 => G12_laysAt (qN (15 - e)) 392 μ20 (fun μ21 => K ((qN (15 - e) + (-1)), μ21)))))
      rw [show qN (15 - e) + 1 = qN (15 - e + 1) from qN_add _ 1, dec]
      refine m_takes (by omega) l392 (by decide) g0 (fun μ1 s1 k1 => ?_)
      refine m_takes (by omega) l405 (by decide) (g1.sm s1 (fun j _ _ => nr 392 (Or.inl rfl) j)) (fun μ2 s2 k2 => ?_)
      have es := Ec_s n a b (m := 15 - e) (by omega)
      have cap : Ec n a b (15 - e) ≤ 10000 ^ n := by rw [Ec_Cc hn]; exact Ct_b ha hb (Nat.le_refl _)
      have cap2 := p16 hn
      refine m_badd (by decide) l392 l405 (k1.sm s2 (fun j => by unfold mgS; omega)) k2 (by rw [← es]; exact Nat.lt_of_le_of_lt (Nat.le_trans cap cap2) (by decide)) (fun μ3 s3 k3 => ?_)
      rw [← es] at k3
      refine m_blays (by omega) l392 (by decide) k3 (fun μ4 s4 k4 => hK l _ ⟨rfl, (((hs.tr (t1 _ (Or.inl rfl) _ _ s1)).tr (t1 _ (Or.inr rfl) _ _ s2)).tr (t1 _ (Or.inl rfl) _ _ s3)).tr (t2 _ _ _ s4), fun m hm => ?_⟩)
      by_cases q2 : m = 15 - e
      · subst q2
        show RG μ4 (15 - e) (if 15 - e + (e + 1) < 16 then _ else _)
        rw [if_neg (by omega)]; exact k4
      · show RG μ4 m (if m + (e + 1) < 16 then _ else _)
        have h1 := ((((hg m hm).sm s1 (fun j _ _ => nr 392 (Or.inl rfl) j)).sm s2 (fun j _ _ => nr 405 (Or.inr rfl) j)).sm s3 (fun j _ _ => nr 392 (Or.inl rfl) j)).sm s4 (fun j h1 h2 => by unfold rwS; omega)
        by_cases q3 : m + e < 16
        · rw [if_pos q3] at h1
          rw [if_pos (by omega)]; exact h1
        · rw [if_neg q3] at h1
          rw [if_neg (by omega)]; exact h1
    · rw [if_pos (by omega)]
      refine ⟨fun _ => hQ ν hs (fun m hm => ?_), fun r => absurd (show (-1 : Int32) < 0 by decide) r⟩
      have := hg m hm
      rw [if_neg (by omega)] at this
      exact this
  · have li : i < 17 := by omega
    refine m_small (a := 0) l392 (by decide) (fun μ1 s1 g1 => ?_)
    refine Lp.up (n + 1 - i) (fun d (x : Int32 × MM) => x.1 = qN (i + d) ∧ Sm gmS μ x.2 ∧ MG x.2 392 (sm (Dt n a b i) (i + d)) ∧ ∀ m, m < i → RG x.2 m (Dc n a b m)) ?_ ⟨rfl, hs.tr (t1 _ (Or.inl rfl) _ _ s1), by
      rw [show sm (Dt n a b i) (i + 0) = 0 from sm_0 _ (fun j hj => if_neg (by omega))]; exact g1, fun m hm => (hg m hm).sm s1 (fun j _ _ => nr 392 (Or.inl rfl) j)⟩
    clear hs hg s1 g1 μ1 c1 q
    rintro d K2 hd hK2 ⟨x1, ω⟩ ⟨rfl, hs, hg, hr⟩
    simp only at hs hg hr
    have c2 : qN n < qN (i + d) ↔ n < i + d := qN_lt (by omega) (by omega)
    unfold G12_chances_L22
    simp only [c2]
    refine ⟨fun q => ?_, fun q => ?_⟩
    · have e : sm (Dt n a b i) (i + d) = Dc n a b i := by
        by_cases q2 : i ≤ n
        · rw [show i + d = n + 1 by omega]; rfl
        · rw [show d = 0 by omega]
          exact (sm_0 _ (fun j hj => if_neg (by omega))).trans (sm_0 (n + 1) (fun j hj => if_neg (by omega))).symm
      rw [e] at hg
      refine m_blays li l392 (by decide) hg (fun μ4 s4 k4 => ?_)
      rw [show qN i + 1 = qN (i + 1) from qN_add i 1]
      refine hK li _ ⟨rfl, hs.tr (t2 _ _ _ s4), fun m hm => ?_⟩
      by_cases q2 : m = i
      · subst q2; exact k4
      · exact (hr m (by omega)).sm s4 (fun j h1 h2 => by unfold rwS; omega)
    · have l : i + d ≤ n := by omega
      have dz2 : qN (i + d) - qN i = qN d := by rw [qN_sub (by omega)]; congr 1; omega
      rw [dz2]
      refine m_small (a := 1) l405 (by decide) (fun μ1 s1 g1 => ?_)
      refine m_powers hn l ha g1 (by decide) (fun μ2 s2 g2 => ?_)
      have pwb : ∀ p r, p ≤ 100 → r ≤ n → p ^ r * (100 - p) ^ (n - r) ≤ 100000000000000000000000000000000 := fun p r h1 h2 => by
        rw [← pw_n h2]
        exact Nat.le_trans (pw_b h1 r n) (p100 hn)
      rw [Nat.one_mul] at g2
      refine m_powers hn (by omega) hb g2 (pwb a _ ha l) (fun μ3 s3 g3 => ?_)
      refine m_choices (by omega) l (m_choices (by omega) (by omega) ?_)
      have bb : ∀ r, r ≤ n → bin n r ≤ 13000 := fun r h2 => by
        rw [← chl_bin n (by omega) r h2]
        exact chl_b n (by omega) r h2 r (Nat.le_refl _)
      have b2 := Nat.mul_le_mul (bb _ l) (bb d (by omega))
      rw [qL_mul]
      refine m_btimes l405 g3 (by omega) (Nat.lt_of_le_of_lt (Nat.mul_le_mul (Nat.mul_le_mul (pwb a _ ha l) (pwb b d hb (by omega))) b2) (by decide)) (fun μ4 s4 g4 => ?_)
      have ez : (a ^ (i + d) * (100 - a) ^ (n - (i + d))) * (b ^ d * (100 - b) ^ (n - d)) * (bin n (i + d) * bin n d) = Zw n a (i + d) * Zw n b d := by
        unfold Zw
        ac_rfl
      rw [ez] at g4
      have step : sm (Dt n a b i) (i + (d + 1)) = sm (Dt n a b i) (i + d) + Zw n a (i + d) * Zw n b d := by
        show sm (Dt n a b i) (i + d) + Dt n a b i (i + d) = _
        unfold Dt
        rw [if_pos (by omega), show i + d - i = d by omega]
      have cap : sm (Dt n a b i) (i + (d + 1)) ≤ 10000 ^ n := Dt_b ha hb (by omega)
      have hg4 : MG μ4 392 (sm (Dt n a b i) (i + d)) := (((hg.sm s1 (fun j => by unfold mgS; omega)).sm s2 (fun j => by unfold mgS; omega)).sm s3 (fun j => by unfold mgS; omega)).sm s4 (fun j => by unfold mgS; omega)
      refine m_badd (by decide) l392 l405 hg4 g4 (by rw [← step]; exact Nat.lt_of_le_of_lt (Nat.le_trans cap (p16 hn)) (by decide)) (fun μ5 s5 g5 => ?_)
      rw [← step] at g5
      rw [show qN (i + d) + 1 = qN (i + (d + 1)) from qN_add _ 1]
      refine hK2 (by omega) _ ⟨rfl, ((((hs.tr (t1 _ (Or.inr rfl) _ _ s1)).tr (t1 _ (Or.inr rfl) _ _ s2)).tr (t1 _ (Or.inr rfl) _ _ s3)).tr (t1 _ (Or.inr rfl) _ _ s4)).tr (t1 _ (Or.inl rfl) _ _ s5), g5, fun m hm => ?_⟩
      exact (((((hr m hm).sm s1 (fun j _ _ => nr 405 (Or.inr rfl) j)).sm s2 (fun j _ _ => nr 405 (Or.inr rfl) j)).sm s3 (fun j _ _ => nr 405 (Or.inr rfl) j)).sm s4 (fun j _ _ => nr 405 (Or.inr rfl) j)).sm s5 (fun j _ _ => nr 392 (Or.inl rfl) j)
