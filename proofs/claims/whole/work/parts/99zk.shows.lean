/-! shows, least: ops 42, 43 -/
theorem fS_c {μ μ' : MM} (f : Sm fS μ μ') : Sm cS μ μ' := f.mo (fun k j q => by unfold fS at q; unfold cS; omega)
theorem b253_c {μ μ' : MM} (f : Sm (bS 253) μ μ') : Sm cS μ μ' := f.mo (fun k j q => by unfold bS at q; unfold cS; omega)
theorem gmS_m {μ μ' : MM} (f : Sm gmS μ μ') : Sm mS μ μ' := f.mo (fun k j q => by unfold gmS at q; unfold mS; omega)
theorem m392_m {μ μ' : MM} (f : Sm (mgS 392) μ μ') : Sm mS μ μ' := f.mo (fun k j q => by unfold mgS at q; unfold mS; omega)
theorem R0a : ∀ r, r < 17 → R0 250 r = some (255 + 6 * r) := fun r h => (R0W r h).1
theorem R0b : ∀ r, r < 17 → R0 251 r = some (257 + 6 * r) := fun r h => (R0W r h).2
theorem l250 : ln 250 = 17 := by decide
theorem l251 : ln 251 = 17 := by decide
theorem m_chv {n a b m : Nat} {μ : MM} {Q : Int32 → MM → Prop} (hm : m ≤ 16) (hn : n ≤ 16) (ha : a ≤ 100) (hb : b ≤ 100) (h : ∀ m, m < 17 → RG μ m (Ec n a b m)) (hQ : ∀ μ', Sm (mgS 392) μ μ' → Q (qN (chv n a b m)) μ') : G12_chanceOf (qN m) (qN n) μ Q := by
  have h1 := h m (by omega)
  rw [Ec_Cc hn] at h1
  exact m_chanceOf hm hn h1 (Nat.lt_of_le_of_lt (Nat.mul_le_mul_right _ (Nat.le_trans (Ct_b ha hb (Nat.le_refl _)) (p16 hn))) (by decide)) hQ
def one16 (v : Int32) : Prop := ∃ k, 1 ≤ k ∧ k ≤ 16 ∧ v = qN k
theorem c_shows {A X : Nat → Nat → Nat} {W : List Int64} {μ : MM} {v1 v2 v3 v4 : Int32} {Q : Int32 → MM → Prop} (h : Cs A X W μ)
    (hy : ∀ n a b m, 1 ≤ n → n ≤ 16 → a ≤ 100 → b ≤ 100 → 1 ≤ m → m ≤ 16 → v1 = qN n → v2 = qN a → v3 = qN b → v4 = qN m → ∀ μ', Cs A X W μ' → FC μ μ' → Q (qN (chv n a b m)) μ')
    (hn : ¬ (one16 v1 ∧ one16 v4 ∧ inr v2 101 ∧ inr v3 101) → Q (-1) μ) : G11_shows v1 v2 v3 v4 μ Q := by
  unfold G11_shows G1_chanceOf G1_chanceOf_J25
  have no : ¬ (one16 v1 ∧ one16 v4 ∧ inr v2 101 ∧ inr v3 101) → G1_chanceOf_J26 v1 v2 v3 v4 0 μ Q := fun r => ⟨fun _ => hn r, fun q => absurd rfl q⟩
  refine within1_s 16 rfl (by decide) (fun q1 => ⟨fun r => absurd r (by decide), fun _ => ?_⟩) (fun q1 => ⟨fun _ => no (fun r => q1 r.1), fun r => absurd rfl r⟩)
  refine within1_s 16 rfl (by decide) (fun q2 => ⟨fun r => absurd r (by decide), fun _ => ?_⟩) (fun q2 => ⟨fun _ => no (fun r => q2 r.2.1), fun r => absurd rfl r⟩)
  refine ⟨fun r => absurd r (by decide), fun _ => ?_⟩
  refine within0_s 100 rfl (by decide) (fun q3 => ⟨fun r => absurd r (by decide), fun _ => ?_⟩) (fun q3 => ⟨fun _ => hn (fun r => q3 r.2.2.1), fun r => absurd rfl r⟩)
  refine within0_s 100 rfl (by decide) (fun q4 => ⟨fun _ => ?_, fun r => absurd r (by decide)⟩) (fun q4 => ⟨fun r => absurd rfl r, fun _ => hn (fun r => q4 r.2.2.2)⟩)
  obtain ⟨n, n1, n2, e1⟩ := q1
  obtain ⟨m, m1, m2, e4⟩ := q2
  obtain ⟨a, a1, e2⟩ := q3
  obtain ⟨b, b1, e3⟩ := q4
  have hy' := hy n a b m n1 n2 (by omega) (by omega) m1 m2 e1 e2 e3 e4
  rw [e1, e2, e3, e4]
  refine c_fill n2 (by omega) (by omega) (fun μ1 s1 g1 => ?_)
  refine c_chance n2 m1 (by omega) (by omega) (by omega) (Or.inl rfl) R0a l250 (fun r hr => (g1 r (by omega)).1) (fun r hr => (g1 r (by omega)).2.2) (fun μ2 s2 => ?_)
  exact hy' μ2 ((h.sm (fS_c s1)).sm (b253_c s2)) ((FC_cS (fS_c s1)).tr (FC_cS (b253_c s2)))
theorem m_shows {A X : Nat → Nat → Nat} {W : List Int64} {μ : MM} {v1 v2 v3 v4 : Int32} {Q : Int32 → MM → Prop} (hV : Inv A X) (h : Ms A X W μ)
    (hy : ∀ n a b m, 1 ≤ n → n ≤ 16 → a ≤ 100 → b ≤ 100 → 1 ≤ m → m ≤ 16 → v1 = qN n → v2 = qN a → v3 = qN b → v4 = qN m → ∀ μ', Ms A X W μ' → FM μ μ' → Q (qN (chv n a b m)) μ')
    (hn : ¬ (one16 v1 ∧ one16 v4 ∧ inr v2 101 ∧ inr v3 101) → ∀ μ', Ms A X W μ' → FM μ μ' → Q (-1) μ') : G12_shows v1 v2 v3 v4 μ Q := by
  have M3 := mn378 hV
  unfold G12_shows G12_isPercent
  rw [Bd_eq]
  have h0 := m_thr h 0
  have f0 := fm_thr μ 0
  revert h0 f0
  generalize sI μ 358 0 0 = μ0
  intro h0 f0
  refine in1_s 16 rfl (by decide) (fun q1 => ⟨fun r => absurd r (by decide), fun _ => ?_⟩) (fun q1 => ⟨fun _ => hn (fun r => q1 r.1) _ h0 f0, fun r => absurd rfl r⟩)
  refine in0_s 100 rfl (by decide) (fun q3 => ⟨bo_1, fun r => absurd r (by decide), fun _ => ?_⟩) (fun q3 => ⟨bo_0, fun _ => hn (fun r => q3 r.2.2.1) _ h0 f0, fun r => absurd rfl r⟩)
  refine in0_s 100 rfl (by decide) (fun q4 => ⟨bo_1, fun r => absurd r (by decide), fun _ => ?_⟩) (fun q4 => ⟨bo_0, fun _ => hn (fun r => q4 r.2.2.2) _ h0 f0, fun r => absurd rfl r⟩)
  refine in1_s 16 rfl (by decide) (fun q2 => ⟨fun _ => ?_, fun r => absurd r (by decide)⟩) (fun q2 => ⟨fun r => absurd rfl r, fun _ => hn (fun r => q2 r.2.1) _ h0 f0⟩)
  obtain ⟨n, n1, n2, e1⟩ := q1
  obtain ⟨m, m1, m2, e4⟩ := q2
  obtain ⟨a, a1, e2⟩ := q3
  obtain ⟨b, b1, e3⟩ := q4
  have hy' := hy n a b m n1 n2 (by omega) (by omega) m1 m2 e1 e2 e3 e4
  rw [e1, e2, e3, e4]
  refine m_chances n2 (by omega) (by omega) (fun μ1 s1 g1 => ?_)
  refine m_chv m2 n2 (by omega) (by omega) g1 (fun μ2 s2 => ?_)
  exact hy' μ2 ((h0.sm M3 (gmS_m s1)).sm M3 (m392_m s2)) ((f0.tr (FM_mS (gmS_m s1))).tr (FM_mS (m392_m s2)))
theorem op_42 (v1 v2 v3 v4 v5 : Int32) (μ : MM) : Rel μ → Glaw_42 v1 v2 v3 v4 v5 μ Rel := by
  rintro ⟨A, X, W, hV, hW, hC, hM⟩
  unfold Glaw_42
  refine c_shows hC (fun n a b m n1 hn ha hb m1 hm e1 e2 e3 e4 μ1 h1 f1 => ?_) (fun q => ?_)
  · refine m_shows hV (hM.fc f1) (fun n' a' b' m' _ hn' ha' hb' _ hm' e1' e2' e3' e4' μ2 h2 f2 => ?_) (fun r => absurd ⟨⟨n, n1, hn, e1⟩, ⟨m, m1, hm, e4⟩, ⟨a, by omega, e2⟩, ⟨b, by omega, e3⟩⟩ r)
    obtain rfl := qN_inj (e1.symm.trans e1') (by omega) (by omega)
    obtain rfl := qN_inj (e2.symm.trans e2') (by omega) (by omega)
    obtain rfl := qN_inj (e3.symm.trans e3') (by omega) (by omega)
    obtain rfl := qN_inj (e4.symm.trans e4') (by omega) (by omega)
    exact ⟨fun _ => ⟨A, X, W, hV, hW, h1.fm f2, h2⟩, fun q => q rfl⟩
  · refine m_shows hV hM (fun n a b m n1 hn ha hb m1 hm e1 e2 e3 e4 μ2 h2 f2 => absurd ⟨⟨n, n1, hn, e1⟩, ⟨m, m1, hm, e4⟩, ⟨a, by omega, e2⟩, ⟨b, by omega, e3⟩⟩ q) (fun _ μ2 h2 f2 => ?_)
    exact ⟨fun _ => ⟨A, X, W, hV, hW, hC.fm f2, h2⟩, fun q => q rfl⟩
/-- a count and a line that do -/
def gd (a b p w n m : Nat) : Prop := p ≤ chv n a b m ∧ chv n b b m ≤ w
def isL (a b p w n m : Nat) : Prop := 1 ≤ n ∧ n ≤ 16 ∧ 1 ≤ m ∧ m ≤ 16 ∧ gd a b p w n m ∧ (∀ n' m', 1 ≤ n' → n' < n → 1 ≤ m' → m' ≤ 16 → ¬ gd a b p w n' m') ∧ ∀ m', 1 ≤ m' → m' < m → ¬ gd a b p w n m'
def noL (a b p w k : Nat) : Prop := ∀ n m, 1 ≤ n → n ≤ k → 1 ≤ m → m ≤ 16 → ¬ gd a b p w n m
theorem isL_u {a b p w n m n' m' : Nat} (h : isL a b p w n m) (h' : isL a b p w n' m') : n = n' ∧ m = m' := by
  obtain ⟨x1, x2, x3, x4, x5, x6, x7⟩ := h
  obtain ⟨y1, y2, y3, y4, y5, y6, y7⟩ := h'
  have e : n = n' := by
    rcases Nat.lt_trichotomy n n' with q | q | q
    · exact absurd x5 (y6 n m x1 q x3 x4)
    · exact q
    · exact absurd y5 (x6 n' m' y1 q y3 y4)
  subst e
  refine ⟨rfl, ?_⟩
  rcases Nat.lt_trichotomy m m' with q | q | q
  · exact absurd x5 (y7 m x3 q)
  · exact q
  · exact absurd y5 (x7 m' y3 q)
theorem isL_n {a b p w n m : Nat} (h : isL a b p w n m) (h' : noL a b p w 16) : False := h' n m h.1 h.2.1 h.2.2.1 h.2.2.2.1 h.2.2.2.2.1
theorem c_leastW {A X : Nat → Nat → Nat} {W : List Int64} {μ : MM} {a b p w : Nat} {Q : Int32 → MM → Prop} (h : Cs A X W μ) (ha : a ≤ 100) (hb : b ≤ 100) (hp1 : 1 ≤ p) (hp : p ≤ 1000000) (hw : w ≤ 1000000)
    (hy : ∀ n m, isL a b p w n m → ∀ μ', Cs A X [qL m] μ' → FC μ μ' → Q (qN n) μ') (hn : noL a b p w 16 → ∀ μ', Cs A X W μ' → FC μ μ' → Q (-2) μ') : Lp (G1_tellLeast_L58 (qN a) (qN b) (qN p) (qN w) Q) (1, μ) := by
  refine Lp.up 16 (fun i (x : Int32 × MM) => x.1 = qN (i + 1) ∧ Cs A X W x.2 ∧ FC μ x.2 ∧ noL a b p w i) ?_ ⟨rfl, h, FC.rfl', fun n m h1 h2 => by omega⟩
  rintro i K hi hK ⟨x1, ν⟩ ⟨rfl, hC, hF, hno⟩
  simp only at hC hF
  have c1 : (16 : Int32) < qN (i + 1) ↔ 16 < i + 1 := qN_lt (a := 16) (by decide) (by omega)
  unfold G1_tellLeast_L58
  simp only [c1]
  refine ⟨fun q => hn (by rw [show i = 16 by omega] at hno; exact hno) ν hC hF, fun q => ?_⟩
  have hN : i + 1 ≤ 16 := by omega
  refine c_fill hN ha hb (fun μ1 s1 g1 => ?_)
  have next : (∀ m, 1 ≤ m → m ≤ 16 → ¬ gd a b p w (i + 1) m) → ∀ ω, Cs A X W ω → FC μ ω → K (qN (i + 1) + 1, ω) := fun hg ω k1 k2 => by
    rw [show qN (i + 1) + 1 = qN (i + 1 + 1) from qN_add _ 1]
    refine hK (by omega) _ ⟨rfl, k1, k2, fun n m h1 h2 h3 h4 => ?_⟩
    by_cases e : n = i + 1
    · subst e; exact hg m h3 h4
    · exact hno n m h1 (by omega) h3 h4
  refine Lp.up (i + 1) (fun j (x : Int32 × MM) => x.1 = qN (j + 1) ∧ Cs A X W x.2 ∧ FC μ x.2 ∧ CF x.2 (i + 1) a b (i + 1 + 1) ∧ ∀ m, 1 ≤ m → m ≤ j → ¬ chv (i + 1) b b m ≤ w) ?_ ⟨rfl, hC.sm (fS_c s1), hF.tr (FC_cS (fS_c s1)), g1, fun m h1 h2 => by omega⟩
  clear hC hF g1 s1 c1
  rintro j K2 hj hK2 ⟨x1, ω⟩ ⟨rfl, hC, hF, hg, hs⟩
  simp only at hC hF hg
  have c2 : qN (i + 1) < qN (j + 1) ↔ i + 1 < j + 1 := qN_lt (by omega) (by omega)
  have z0 : ∀ m, i + 1 < m → ¬ gd a b p w (i + 1) m := fun m hm r => by
    have := r.1
    rw [chv_0 hm] at this
    omega
  unfold G1_tellLeast_L76
  simp only [c2]
  refine ⟨fun r => next (fun m h1 h2 r2 => ?_) ω hC hF, fun r => ?_⟩
  · rcases Nat.lt_or_ge (i + 1) m with s | s
    · exact z0 m s r2
    · exact hs m h1 (by omega) r2.2
  have v1 := chv_b (n := i + 1) (m := j + 1) hb hb
  have v2 := chv_b (n := i + 1) (m := j + 1) ha hb
  refine c_chance hN (by omega) (by omega) hb hb (Or.inr rfl) R0b l251 (fun r hr => (hg r (by omega)).2.1) (fun r hr => (hg r (by omega)).2.2) (fun μ2 s2 => ?_)
  have hC2 := hC.sm (b253_c s2)
  have hF2 := hF.tr (FC_cS (b253_c s2))
  have hg2 : CF μ2 (i + 1) a b (i + 1 + 1) := hg.sm s2 (fun k j h1 h2 => by unfold bS; omega)
  rw [qN_lt (by omega) (by omega)]
  refine ⟨fun q2 => ⟨fun _ => ⟨fun _ => ?_, fun q3 => absurd rfl q3⟩, fun q3 => absurd rfl q3⟩, fun q2 => ⟨fun q3 => absurd q3 (by decide), fun _ => ?_⟩⟩
  · rw [show qN (j + 1) + 1 = qN (j + 1 + 1) from qN_add _ 1]
    refine hK2 (by omega) _ ⟨rfl, hC2, hF2, hg2, fun m h1 h2 => ?_⟩
    by_cases e : m = j + 1
    · subst e; omega
    · exact hs m h1 (by omega)
  · refine c_chance hN (by omega) (by omega) ha hb (Or.inl rfl) R0a l250 (fun r hr => (hg2 r (by omega)).1) (fun r hr => (hg2 r (by omega)).2.2) (fun μ3 s3 => ?_)
    have hC3 := hC2.sm (b253_c s3)
    have hF3 := hF2.tr (FC_cS (b253_c s3))
    rw [qN_lt (by omega) (by omega)]
    refine ⟨fun q3 => ⟨fun q4 => absurd q4 (by decide), fun _ => ?_⟩, fun q3 => ?_⟩
    · refine next (fun m h1 h2 r2 => ?_) μ3 hC3 hF3
      rcases Nat.lt_or_ge m (j + 1) with s | s
      · exact hs m h1 (by omega) r2.2
      · have := chv_mono (a := a) (b := b) hN s
        have := r2.1
        omega
    · refine c_rclear hC3 (fun μ4 h4 f4 => ?_)
      refine c_radd h4 (by decide) (fun μ5 h5 f5 => ?_)
      rw [qN_6 (by omega)] at h5
      refine hy (i + 1) (j + 1) ⟨by omega, hN, by omega, by omega, ⟨by omega, by omega⟩, fun n' m' h1 h2 h3 h6 => hno n' m' h1 (by omega) h3 h6, fun m' h1 h2 r2 => hs m' h1 (by omega) r2.2⟩ μ5 h5 ((hF3.tr (FC_row f4)).tr (FC_row f5))
theorem m_leastW {A X : Nat → Nat → Nat} {W : List Int64} {μ : MM} {a b p w : Nat} {Q : Int32 → MM → Prop} (hV : Inv A X) (h : Ms A X W μ) (ha : a ≤ 100) (hb : b ≤ 100) (hp : p ≤ 1000000) (hw : w ≤ 1000000)
    (hy : ∀ n m, isL a b p w n m → ∀ μ', Ms A X [qL m] μ' → FM μ μ' → Q (qN n) μ') (hn : noL a b p w 16 → ∀ μ', Ms A X W μ' → FM μ μ' → Q (-2) μ') : Lp (G12_least_L49 (qN a) (qN b) (qN p) (qN w) Q) (1, μ) := by
  have M3 := mn378 hV
  have s46 : ∀ ω ω' : MM, Sm (mgS 406) ω ω' → Sm mS ω ω' := fun ω ω' s => s.mo (fun k j q => by unfold mgS at q; unfold mS; omega)
  refine Lp.up 16 (fun i (x : Int32 × MM) => x.1 = qN (i + 1) ∧ Ms A X W x.2 ∧ FM μ x.2 ∧ noL a b p w i) ?_ ⟨rfl, h, FM.rfl', fun n m h1 h2 => by omega⟩
  rintro i K hi hK ⟨x1, ν⟩ ⟨rfl, hC, hF, hno⟩
  simp only at hC hF
  have c1 : (16 : Int32) < qN (i + 1) ↔ 16 < i + 1 := qN_lt (a := 16) (by decide) (by omega)
  unfold G12_least_L49
  simp only [c1]
  refine ⟨fun q => hn (by rw [show i = 16 by omega] at hno; exact hno) ν hC hF, fun q => ?_⟩
  have hN : i + 1 ≤ 16 := by omega
  refine m_chances hN ha hb (fun μ1 s1 g1 => ?_)
  refine Lp.up 16 (fun j (x : Int32 × MM) => x.1 = qN (j + 1) ∧ Ms A X W x.2 ∧ FM μ x.2 ∧ (∀ m, m < 17 → RG x.2 m (Ec (i + 1) a b m)) ∧ ∀ m, 1 ≤ m → m ≤ j → gI x.2 406 m = qN (chv (i + 1) a b m)) ?_ ⟨rfl, hC.sm M3 (gmS_m s1), hF.tr (FM_mS (gmS_m s1)), g1, fun m h1 h2 => by omega⟩
  clear hC hF g1 s1 c1
  rintro j K2 hj hK2 ⟨x1, ω⟩ ⟨rfl, hC, hF, hg, hs⟩
  simp only at hC hF hg hs
  have c2 : (16 : Int32) < qN (j + 1) ↔ 16 < j + 1 := qN_lt (a := 16) (by decide) (by omega)
  unfold G12_least_L67
  simp only [c2]
  refine ⟨fun r => ?_, fun r => ?_⟩
  · have ej : j = 16 := by omega
    subst ej
    clear hK2 K2 c2 r hj hg
    refine m_chances hN hb hb (fun μ2 s2 g2 => ?_)
    have hs2 : ∀ m, 1 ≤ m → m ≤ 16 → gI μ2 406 m = qN (chv (i + 1) a b m) := fun m h1 h2 => by rw [(s2.1 406 m (by unfold gmS; omega)).1]; exact hs m h1 h2
    refine Lp.up 16 (fun j (x : Int32 × MM) => x.1 = qN (j + 1) ∧ Ms A X W x.2 ∧ FM μ x.2 ∧ (∀ m, m < 17 → RG x.2 m (Ec (i + 1) b b m)) ∧ (∀ m, 1 ≤ m → m ≤ 16 → gI x.2 406 m = qN (chv (i + 1) a b m)) ∧ ∀ m, 1 ≤ m → m ≤ j → ¬ gd a b p w (i + 1) m) ?_ ⟨rfl, hC.sm M3 (gmS_m s2), hF.tr (FM_mS (gmS_m s2)), g2, hs2, fun m h1 h2 => by omega⟩
    clear hC hF hs hs2 g2 s2
    rintro j K2 hj hK2 ⟨x1, ω⟩ ⟨rfl, hC, hF, hg, hs, hm⟩
    simp only at hC hF hg hs
    have c2 : (16 : Int32) < qN (j + 1) ↔ 16 < j + 1 := qN_lt (a := 16) (by decide) (by omega)
    unfold G12_least_L106
    simp only [c2]
    refine ⟨fun r => ?_, fun r => ?_⟩
    · rw [show qN (i + 1) + 1 = qN (i + 1 + 1) from qN_add _ 1]
      refine hK (by omega) _ ⟨rfl, hC, hF, fun n m h1 h2 h3 h4 => ?_⟩
      by_cases e : n = i + 1
      · subst e; exact hm m h3 (by omega)
      · exact hno n m h1 (by omega) h3 h4
    · have v1 := chv_b (n := i + 1) (m := j + 1) hb hb
      have v2 := chv_b (n := i + 1) (m := j + 1) ha hb
      have ov : qN (j + 1) + 1 = qN (j + 1 + 1) := qN_add _ 1
      have ext : ¬ gd a b p w (i + 1) (j + 1) → ∀ m, 1 ≤ m → m ≤ j + 1 → ¬ gd a b p w (i + 1) m := fun q m h1 h2 => by
        by_cases e : m = j + 1
        · subst e; exact q
        · exact hm m h1 (by omega)
      rw [qN_vp (by omega), qN_nat (by omega), hs _ (by omega) (by omega), qN_lt (by omega) (by omega), ov]
      refine ⟨by omega, fun q2 => hK2 (by omega) _ ⟨rfl, hC, hF, hg, hs, ext (fun r2 => by have := r2.1; omega)⟩, fun q2 => ?_⟩
      refine m_chv (by omega) hN hb hb hg (fun μ3 s3 => ?_)
      have hC3 := hC.sm M3 (m392_m s3)
      have hF3 := hF.tr (FM_mS (m392_m s3))
      have hg3 : ∀ m, m < 17 → RG μ3 m (Ec (i + 1) b b m) := fun m hm9 => (hg m hm9).sm s3 (fun j _ _ => by unfold mgS; omega)
      have hs3 : ∀ m, 1 ≤ m → m ≤ 16 → gI μ3 406 m = qN (chv (i + 1) a b m) := fun m h1 h2 => by rw [(s3.1 406 m (by unfold mgS; omega)).1]; exact hs m h1 h2
      rw [qN_lt (by omega) (by omega)]
      refine ⟨fun q3 => hK2 (by omega) _ ⟨rfl, hC3, hF3, hg3, hs3, ext (fun r2 => by have := r2.2; omega)⟩, fun q3 => ?_⟩
      refine m_rclear hC3 (fun μ4 h4 f4 => ?_)
      refine m_radd h4 (by decide) (fun μ5 h5 f5 => ?_)
      rw [qN_6 (by omega)] at h5
      exact hy (i + 1) (j + 1) ⟨by omega, hN, by omega, by omega, ⟨by omega, by omega⟩, fun n' m' h1 h2 h3 h6 => hno n' m' h1 (by omega) h3 h6, fun m' h1 h2 => hm m' h1 (by omega)⟩ μ5 h5 ((hF3.tr (FM_row f4)).tr (FM_row f5))
  · refine m_chv (by omega) hN ha hb hg (fun μ3 s3 => ?_)
    rw [qN_vp (by omega), qN_nat (by omega), Bd_eq, show qN (j + 1) + 1 = qN (j + 1 + 1) from qN_add _ 1]
    have s4 : Sm (mgS 406) μ3 (sI μ3 406 (j + 1) (qN (chv (i + 1) a b (j + 1)))) := (Sm.rfl' (S := mgS 406)).wI _ rfl
    refine ⟨by omega, hK2 (by omega) _ ⟨rfl, (hC.sm M3 (m392_m s3)).sm M3 (s46 _ _ s4), (hF.tr (FM_mS (m392_m s3))).tr (FM_mS (s46 _ _ s4)), fun m hm => ((hg m hm).sm s3 (fun j _ _ => by unfold mgS; omega)).sm s4 (fun j _ _ => by unfold mgS; omega), fun m h1 h2 => ?_⟩⟩
    show gI (sI μ3 406 (j + 1) _) 406 m = _
    rw [gI_I]
    by_cases e : m = j + 1
    · rw [if_pos ⟨rfl, e⟩, e]
    · rw [if_neg (fun r => e r.2), (s3.1 406 m (by unfold mgS; omega)).1]; exact hs m h1 (by omega)
def oneM (v : Int32) : Prop := ∃ k, 1 ≤ k ∧ k ≤ 1000000 ∧ v = qN k
theorem op_43 (v1 v2 v3 v4 v5 : Int32) (μ : MM) : Rel μ → Glaw_43 v1 v2 v3 v4 v5 μ Rel := by
  rintro ⟨A, X, W, hV, hW, hC, hM⟩
  have C : ∀ (ν : MM) (Q : Int32 → MM → Prop), (∀ a b p w, a ≤ 100 → b ≤ 100 → 1 ≤ p → p ≤ 1000000 → w ≤ 1000000 → v1 = qN a → v2 = qN b → v3 = qN p → v4 = qN w → Lp (G1_tellLeast_L58 (qN a) (qN b) (qN p) (qN w) Q) (1, ν)) → (¬ (oneM v3 ∧ inr v4 1000001 ∧ inr v1 101 ∧ inr v2 101) → Q (-1) ν) → G11_least v1 v2 v3 v4 ν Q := fun ν Q hy hn => by
    unfold G11_least G1_tellLeast G1_tellLeast_J25
    have no : ¬ (oneM v3 ∧ inr v4 1000001 ∧ inr v1 101 ∧ inr v2 101) → G1_tellLeast_J26 v1 v2 v3 v4 0 ν Q := fun r => ⟨fun _ => hn r, fun q => absurd rfl q⟩
    refine within1_s 1000000 rfl (by decide) (fun q1 => ⟨fun r => absurd r (by decide), fun _ => ?_⟩) (fun q1 => ⟨fun _ => no (fun r => q1 r.1), fun r => absurd rfl r⟩)
    refine within0_s 1000000 rfl (by decide) (fun q2 => ⟨fun r => absurd r (by decide), fun _ => ?_⟩) (fun q2 => ⟨fun _ => no (fun r => q2 r.2.1), fun r => absurd rfl r⟩)
    refine ⟨fun r => absurd r (by decide), fun _ => ?_⟩
    refine within0_s 100 rfl (by decide) (fun q3 => ⟨fun r => absurd r (by decide), fun _ => ?_⟩) (fun q3 => ⟨fun _ => hn (fun r => q3 r.2.2.1), fun r => absurd rfl r⟩)
    refine within0_s 100 rfl (by decide) (fun q4 => ⟨fun _ => ?_, fun r => absurd r (by decide)⟩) (fun q4 => ⟨fun r => absurd rfl r, fun _ => hn (fun r => q4 r.2.2.2)⟩)
    obtain ⟨p, p1, p2, e3⟩ := q1
    obtain ⟨w, w1, e4⟩ := q2
    obtain ⟨a, a1, e1⟩ := q3
    obtain ⟨b, b1, e2⟩ := q4
    have := hy a b p w (by omega) (by omega) p1 p2 (by omega) e1 e2 e3 e4
    rw [e1, e2, e3, e4]
    exact this
  have M : ∀ (ν : MM) (Q : Int32 → MM → Prop), Ms A X W ν → (∀ a b p w, a ≤ 100 → b ≤ 100 → 1 ≤ p → p ≤ 1000000 → w ≤ 1000000 → v1 = qN a → v2 = qN b → v3 = qN p → v4 = qN w → ∀ ν0, Ms A X W ν0 → FM ν ν0 → Lp (G12_least_L49 (qN a) (qN b) (qN p) (qN w) Q) (1, ν0)) → (¬ (oneM v3 ∧ inr v4 1000001 ∧ inr v1 101 ∧ inr v2 101) → ∀ ν0, Ms A X W ν0 → FM ν ν0 → Q (-1) ν0) → G12_least v1 v2 v3 v4 ν Q := fun ν Q h hy hn => by
    unfold G12_least G12_isPercent
    rw [Bd_eq]
    have h0 := m_thr h 0
    have f0 := fm_thr ν 0
    revert h0 f0
    generalize sI ν 358 0 0 = ν0
    intro h0 f0
    refine in0_s 100 rfl (by decide) (fun q3 => ⟨bo_1, fun r => absurd r (by decide), fun _ => ?_⟩) (fun q3 => ⟨bo_0, fun _ => hn (fun r => q3 r.2.2.1) _ h0 f0, fun r => absurd rfl r⟩)
    refine in0_s 100 rfl (by decide) (fun q4 => ⟨bo_1, fun r => absurd r (by decide), fun _ => ?_⟩) (fun q4 => ⟨bo_0, fun _ => hn (fun r => q4 r.2.2.2) _ h0 f0, fun r => absurd rfl r⟩)
    refine in1_s 1000000 rfl (by decide) (fun q1 => ⟨fun r => absurd r (by decide), fun _ => ?_⟩) (fun q1 => ⟨fun _ => hn (fun r => q1 r.1) _ h0 f0, fun r => absurd rfl r⟩)
    refine in0_s 1000000 rfl (by decide) (fun q2 => ⟨fun _ => ?_, fun r => absurd r (by decide)⟩) (fun q2 => ⟨fun r => absurd rfl r, fun _ => hn (fun r => q2 r.2.1) _ h0 f0⟩)
    obtain ⟨p, p1, p2, e3⟩ := q1
    obtain ⟨w, w1, e4⟩ := q2
    obtain ⟨a, a1, e1⟩ := q3
    obtain ⟨b, b1, e2⟩ := q4
    have := hy a b p w (by omega) (by omega) p1 p2 (by omega) e1 e2 e3 e4 _ h0 f0
    rw [e1, e2, e3, e4]
    exact this
  unfold Glaw_43
  refine C _ _ (fun a b p w ha hb p1 hp hw e1 e2 e3 e4 => ?_) (fun q => ?_)
  · have P : oneM v3 ∧ inr v4 1000001 ∧ inr v1 101 ∧ inr v2 101 := ⟨⟨p, p1, hp, e3⟩, ⟨w, by omega, e4⟩, ⟨a, by omega, e1⟩, ⟨b, by omega, e2⟩⟩
    have U : ∀ a' b' p' w', a' ≤ 100 → b' ≤ 100 → p' ≤ 1000000 → w' ≤ 1000000 → v1 = qN a' → v2 = qN b' → v3 = qN p' → v4 = qN w' → a = a' ∧ b = b' ∧ p = p' ∧ w = w' := fun a' b' p' w' ha' hb' hp' hw' e1' e2' e3' e4' => ⟨qN_inj (e1.symm.trans e1') (by omega) (by omega), qN_inj (e2.symm.trans e2') (by omega) (by omega), qN_inj (e3.symm.trans e3') (by omega) (by omega), qN_inj (e4.symm.trans e4') (by omega) (by omega)⟩
    refine c_leastW hC ha hb p1 hp hw (fun n m hl μ1 h1 f1 => ?_) (fun hl μ1 h1 f1 => ?_)
    · refine M _ _ (hM.fc f1) (fun a' b' p' w' ha' hb' p1' hp' hw' e1' e2' e3' e4' ν0 m0 f0 => ?_) (fun r => absurd P r)
      obtain ⟨rfl, rfl, rfl, rfl⟩ := U a' b' p' w' ha' hb' hp' hw' e1' e2' e3' e4'
      refine m_leastW hV m0 ha hb hp hw (fun n' m' hl' μ2 h2 f2 => ?_) (fun hl' => absurd hl' (fun r => isL_n hl r))
      obtain ⟨rfl, rfl⟩ := isL_u hl hl'
      refine ⟨fun _ => ⟨A, X, _, hV, ?_, h1.fm (f0.tr f2), h2⟩, fun q => q rfl⟩
      show 1 ≤ 10
      decide
    · refine M _ _ (hM.fc f1) (fun a' b' p' w' ha' hb' p1' hp' hw' e1' e2' e3' e4' ν0 m0 f0 => ?_) (fun r => absurd P r)
      obtain ⟨rfl, rfl, rfl, rfl⟩ := U a' b' p' w' ha' hb' hp' hw' e1' e2' e3' e4'
      refine m_leastW hV m0 ha hb hp hw (fun n' m' hl' μ2 h2 f2 => absurd hl (fun r => isL_n hl' r)) (fun _ μ2 h2 f2 => ?_)
      exact ⟨fun _ => ⟨A, X, W, hV, hW, h1.fm (f0.tr f2), h2⟩, fun q => q rfl⟩
  · refine M _ _ hM (fun a b p w ha hb p1 hp hw e1 e2 e3 e4 _ _ _ => absurd ⟨⟨p, p1, hp, e3⟩, ⟨w, by omega, e4⟩, ⟨a, by omega, e1⟩, ⟨b, by omega, e2⟩⟩ q) (fun _ ν0 m0 f0 => ?_)
    exact ⟨fun _ => ⟨A, X, W, hV, hW, hC.fm f0, m0⟩, fun q => q rfl⟩
