/-! chances: the class -/
theorem lnW : ∀ r, r < 17 → ln (255 + 6 * r + 1) = 6 ∧ ln (257 + 6 * r + 1) = 6 ∧ ln (259 + 6 * r + 1) = 6 := by decide
theorem R0W : ∀ r, r < 17 → R0 250 r = some (255 + 6 * r) ∧ R0 251 r = some (257 + 6 * r) := by decide
theorem ObW : ∀ r, r < 17 → Ob (255 + 6 * r) 0 ∧ Ob (257 + 6 * r) 0 := by unfold Ob; decide
theorem bp6 : 100000000 ^ 6 = 1000000000000000000000000000000000000000000000000 := by decide
theorem bp12 : 100000000 ^ 12 = 1000000000000000000000000000000000000000000000000000000000000000000000000000000000000000000000000 := by decide
theorem c_fillWays {c n r a : Nat} {μ : MM} {Q : MM → Prop} (hn : n ≤ 16) (hr : r ≤ n) (ha : a ≤ 100) (hc : ln (c + 1) = 6) (hQ : ∀ μ', Sm (bS c) μ μ' → BG μ' c (Zw n a r) → Q μ') : G1_fillWays c (qN n) (qN r) (qN a) μ Q := by
  unfold G1_fillWays
  refine c_choices (by omega) hr ?_
  rw [qL_i]
  have bb : bin n r ≤ 13000 := by
    rw [← chl_bin n (by omega) r hr]
    exact chl_b n (by omega) r hr r (Nat.le_refl _)
  refine c_bbecome (by omega) (by omega) (by omega) (fun μ1 s1 g1 => ?_)
  refine Lp.up n (fun k (x : Int32 × MM) => x.1 = qN k ∧ Sm (bS c) μ x.2 ∧ BG x.2 c (bin n r * pw a r k)) ?_ ⟨rfl, s1, by rw [pw_0, Nat.mul_one]; exact g1⟩
  rintro k K hk hK ⟨x1, ν⟩ ⟨rfl, hs, hg⟩
  simp only at hs hg
  have c1 : qN n ≤ qN k ↔ n ≤ k := qN_le (by omega) (by omega)
  have c2 : qN r ≤ qN k ↔ r ≤ k := qN_le (by omega) (by omega)
  unfold G1_fillWays_L13 G1_fillWays_J36
  simp only [c1, c2]
  refine ⟨fun q => hQ ν hs ?_, fun q => ?_⟩
  · have e : k = n := by omega
    subst e
    rw [pw_n hr] at hg
    exact hg
  · have cap : ∀ z, z ≤ 100 → bin n r * pw a r k * z < 100000000 ^ (ln (c + 1)) := fun z hz => by
      rw [hc, bp6]
      have h1 : pw a r k ≤ 100000000000000000000000000000000 := Nat.le_trans (pw_b ha r k) (p100 (by omega))
      have h2 := Nat.mul_le_mul (Nat.mul_le_mul bb h1) hz
      omega
    have ov : qN k + 1 = qN (k + 1) := qN_add k 1
    refine ⟨fun q2 => ?_, fun q2 => ?_⟩
    · have e : (100 - qN a).toInt64 = qL (100 - a) := by
        rw [show (100 : Int32) - qN a = qN (100 - a) from qN_sub (a := 100) ha, qN_6 (by omega)]
      rw [e]
      refine c_btimes (by omega) hg (by omega) (cap _ (by omega)) (fun μ2 s2 g2 => ?_)
      rw [Nat.mul_assoc, ← pw_s2 q2] at g2
      rw [ov]
      exact hK (by omega) _ ⟨rfl, hs.tr s2, g2⟩
    · rw [qN_6 (by omega)]
      refine c_btimes (by omega) hg (by omega) (cap _ ha) (fun μ2 s2 g2 => ?_)
      rw [Nat.mul_assoc, ← pw_s1 (by omega)] at g2
      rw [ov]
      exact hK (by omega) _ ⟨rfl, hs.tr s2, g2⟩
def CF (ν : MM) (n a b i : Nat) : Prop := ∀ r, r < i → BG ν (255 + 6 * r) (Zw n a r) ∧ BG ν (257 + 6 * r) (Zw n b r) ∧ BG ν (259 + 6 * r) (Uc n b r)
def fS (k _j : Nat) : Prop := 253 ≤ k ∧ k ≤ 356
theorem CF.sm {μ μ' : MM} {n a b i : Nat} {S : Nat → Nat → Prop} (h : CF μ n a b i) (f : Sm S μ μ') (hS : ∀ k j, 255 ≤ k → k < 255 + 6 * i → ¬ S k j) : CF μ' n a b i := fun r hr => by
  obtain ⟨h1, h2, h3⟩ := h r hr
  exact ⟨h1.sm f (fun j => ⟨hS _ j (by omega) (by omega), hS _ j (by omega) (by omega)⟩), h2.sm f (fun j => ⟨hS _ j (by omega) (by omega), hS _ j (by omega) (by omega)⟩), h3.sm f (fun j => ⟨hS _ j (by omega) (by omega), hS _ j (by omega) (by omega)⟩)⟩
theorem c_fill {n a b : Nat} {μ : MM} {Q : MM → Prop} (hn : n ≤ 16) (ha : a ≤ 100) (hb : b ≤ 100) (hQ : ∀ μ', Sm fS μ μ' → CF μ' n a b (n + 1) → Q μ') : G1_fill (qN n) (qN a) (qN b) μ Q := by
  refine Lp.up (n + 1) (fun i (x : Int32 × MM) => x.1 = qN i ∧ Sm fS μ x.2 ∧ CF x.2 n a b i) ?_ ⟨rfl, Sm.rfl', fun r hr => absurd hr (by omega)⟩
  rintro i K hi hK ⟨x1, ν⟩ ⟨rfl, hs, hg⟩
  simp only at hs hg
  have c1 : qN n < qN i ↔ n < i := qN_lt (by omega) (by omega)
  have c2 : qN i ≤ 0 ↔ i ≤ 0 := qN_le (b := 0) (by omega) (by decide)
  unfold G1_fill_L3
  simp only [c1, c2]
  refine ⟨fun q => hQ ν hs ?_, fun q => ?_⟩
  · have e : i = n + 1 := by omega
    subst e
    exact hg
  · obtain ⟨l1, l2, l3⟩ := lnW i (by omega)
    have toF : ∀ c, 255 ≤ c → c ≤ 355 → ∀ ω ω' : MM, Sm (bS c) ω ω' → Sm fS ω ω' := fun c h1 h2 ω ω' s => s.mo (fun k j q => by unfold bS at q; unfold fS; omega)
    have ov : qN i + 1 = qN (i + 1) := qN_add i 1
    rw [qN_vp (by omega), qN_nat (by omega)]
    refine ⟨by omega, c_fillWays hn (by omega) ha l1 (fun μ1 s1 g1 => ⟨by omega, c_fillWays hn (by omega) hb l2 (fun μ2 s2 g2 => ⟨by omega, ?_⟩)⟩)⟩
    refine c_bbecome (t := 259 + 6 * i) (a := 0) (by decide) (by omega) (by omega) (fun μ3 s3 g3 => ?_)
    have hg3 : CF μ3 n a b i := ((hg.sm s1 (fun k j h1 h2 => by unfold bS; omega)).sm s2 (fun k j h1 h2 => by unfold bS; omega)).sm s3 (fun k j h1 h2 => by unfold bS; omega)
    have z3 : BG μ3 (255 + 6 * i) (Zw n a i) := (g1.sm s2 (fun j => by unfold bS; omega)).sm s3 (fun j => by unfold bS; omega)
    have o3 : BG μ3 (257 + 6 * i) (Zw n b i) := g2.sm s3 (fun j => by unfold bS; omega)
    have hs3 : Sm fS μ μ3 := ((hs.tr (toF _ (by omega) (by omega) _ _ s1)).tr (toF _ (by omega) (by omega) _ _ s2)).tr (toF _ (by omega) (by omega) _ _ s3)
    clear s1 s2 s3 g1 g2 hg hs
    have cap : ∀ r, r ≤ n → Uc n b r < 100000000 ^ (ln (259 + 6 * i + 1)) := fun r hr => by
      rw [l3, bp6]
      have h1 := Nat.le_trans (Uc_b hb hr) (p100 hn)
      omega
    have last : ∀ ω, Sm fS μ ω → CF ω n a b i → BG ω (255 + 6 * i) (Zw n a i) → BG ω (257 + 6 * i) (Zw n b i) → BG ω (259 + 6 * i) (sm (Zw n b) i) → G1_fill_J72 (qN n) (qN a) (qN b) (qN i) ω K Q := fun ω k1 k2 k3 k4 k5 => by
      unfold G1_fill_J72
      rw [qN_vp (by omega), qN_nat (by omega), ov]
      refine ⟨by omega, by omega, c_badd (by omega) (by omega) (by omega) k5 k4 (cap i (by omega)) (fun μ4 s4 g4 => hK (by omega) _ ⟨rfl, k1.tr (toF _ (by omega) (by omega) _ _ s4), fun r hr => ?_⟩)⟩
      by_cases e : r = i
      · subst e
        exact ⟨k3.sm s4 (fun j => by unfold bS; omega), k4.sm s4 (fun j => by unfold bS; omega), g4⟩
      · exact (k2.sm s4 (fun k j h1 h2 => by unfold bS; omega)) r (by omega)
    refine ⟨fun q2 => ?_, fun q2 => ?_⟩
    · have e : i = 0 := by omega
      subst e
      exact last μ3 hs3 hg3 z3 o3 g3
    · rw [show qN i - 1 = qN (i - 1) from qN_sub (b := 1) (by omega), qN_vp (by omega), qN_nat (by omega)]
      obtain ⟨m1, m2, m3⟩ := lnW (i - 1) (by omega)
      have u := (hg3 (i - 1) (by omega)).2.2
      have e : Uc n b (i - 1) = sm (Zw n b) i := by unfold Uc; rw [show i - 1 + 1 = i by omega]
      refine ⟨by omega, by omega, c_badd (by omega) (by omega) (by omega) g3 u (by rw [Nat.zero_add]; exact cap _ (by omega)) (fun μ4 s4 g4 => ?_)⟩
      rw [Nat.zero_add, e] at g4
      exact last μ4 (hs3.tr (toF _ (by omega) (by omega) _ _ s4)) (hg3.sm s4 (fun k j h1 h2 => by unfold bS; omega)) (z3.sm s4 (fun j => by unfold bS; omega)) (o3.sm s4 (fun j => by unfold bS; omega)) g4
theorem c_chance {n p b m arr s : Nat} {μ : MM} {Q : Int32 → MM → Prop} (hn : n ≤ 16) (hm1 : 1 ≤ m) (hm : m ≤ 17) (hp : p ≤ 100) (hb : b ≤ 100) (hs : s = 255 ∨ s = 257) (hR : ∀ r, r < 17 → R0 arr r = some (s + 6 * r)) (hl : ln arr = 17)
    (hZ : ∀ r, r ≤ n → BG μ (s + 6 * r) (Zw n p r)) (hU : ∀ r, r ≤ n → BG μ (259 + 6 * r) (Uc n b r)) (hQ : ∀ μ', Sm (bS 253) μ μ' → Q (qN (chv n p b m)) μ') : G1_chance (qN n) (qN m) arr μ Q := by
  have l0 : ln (253 + 1) = 12 := by decide
  unfold G1_chance
  refine c_bbecome (t := 253) (a := 0) (by decide) (by omega) (by omega) (fun μ1 s1 g1 => ?_)
  refine Lp.up (n + 1 - m) (fun d (x : Int32 × MM) => x.1 = qN (m + d) ∧ Sm (bS 253) μ x.2 ∧ BG x.2 253 (sm (Ct n p b m) (m + d))) ?_ ⟨rfl, s1, by
    rw [show sm (Ct n p b m) (m + 0) = 0 from sm_0 _ (fun i hi => if_neg (by omega))]; exact g1⟩
  rintro d K hd hK ⟨x1, ν⟩ ⟨rfl, hs2, hg⟩
  simp only at hs2 hg
  have c1 : qN n < qN (m + d) ↔ n < m + d := qN_lt (by omega) (by omega)
  unfold G1_chance_L11
  simp only [c1]
  refine ⟨fun q => ?_, fun q => ?_⟩
  · have e : sm (Ct n p b m) (m + d) = Cc n p b m := by
      by_cases q2 : m ≤ n
      · rw [show m + d = n + 1 by omega]; rfl
      · rw [Cc_0 (by omega), show d = 0 by omega]
        exact sm_0 _ (fun i hi => if_neg (by omega))
    rw [e] at hg
    have cb : Cc n p b m ≤ 10000 ^ n := Ct_b hp hb (Nat.le_refl _)
    have cb2 := p16 hn
    rw [show (1000000 : Int64) = qL 1000000 from rfl]
    refine c_btimes (by omega) hg (by decide) (by rw [l0, bp12]; omega) (fun μ2 s3 g3 => ?_)
    refine c_cut (by omega) (by omega) g3 (cut_b (Nat.mul_le_mul_right _ cb)) ?_
    rw [qL_i]
    exact hQ μ2 (hs2.tr s3)
  · have l : m + d ≤ n := by omega
    have dz2 : qN (m + d) - qN m = qN d := by rw [qN_sub (by omega)]; congr 1; omega
    obtain ⟨l1, l2, l3⟩ := lnW (m + d) (by omega)
    obtain ⟨k1, k2, k3⟩ := lnW d (by omega)
    have ls : ln (s + 6 * (m + d) + 1) = 6 := by
      rcases hs with rfl | rfl
      · exact l1
      · exact l2
    have ob : Ob (s + 6 * (m + d)) 0 := by
      rcases hs with rfl | rfl
      · exact (ObW _ (by omega)).1
      · exact (ObW _ (by omega)).2
    rw [dz2, qN_vp (by omega), qN_vp (by omega), qN_nat (by omega), qN_nat (by omega), hl]
    refine ⟨by omega, s + 6 * (m + d), hR _ (by omega), ob, by omega, ?_⟩
    have step : sm (Ct n p b m) (m + (d + 1)) = sm (Ct n p b m) (m + d) + Zw n p (m + d) * Uc n b d := by
      show sm (Ct n p b m) (m + d) + Ct n p b m (m + d) = _
      unfold Ct
      rw [if_pos (by omega), show m + d - m = d by omega]
    have cap : sm (Ct n p b m) (m + (d + 1)) ≤ 10000 ^ n := Ct_b hp hb (by omega)
    have cap2 := p16 hn
    refine c_bprod (by omega) (by omega) (by omega) (by omega) l0 hg ((hZ _ l).sm hs2 (fun j => by unfold bS; omega)) ((hU d (by omega)).sm hs2 (fun j => by unfold bS; omega)) (by rw [← step, l0, bp12]; omega) (fun μ2 s3 g3 => ?_)
    rw [← step] at g3
    rw [show qN (m + d) + 1 = qN (m + (d + 1)) from qN_add _ 1]
    exact hK (by omega) _ ⟨rfl, hs2.tr s3, g3⟩
