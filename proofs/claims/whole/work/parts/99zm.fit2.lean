/-! fit: the model; op 28 -/
def fRm (A : Nat → Nat → Nat) (N i : Nat) (ν : MM) : Prop := ∀ n, n < N → ∀ k, k < 4 → gJ ν 394 (4 * n + k) = qL (lk A (fl A i n) k (A 358 12))
theorem fRm.sm {A : Nat → Nat → Nat} {N i : Nat} {ν ν' : MM} {S : Nat → Nat → Prop} (h : fRm A N i ν) (f : Sm S ν ν') (hS : ∀ j, ¬ S 394 j) : fRm A N i ν' := fun n hn k hk => by
  rw [(f.1 394 _ (hS _)).2]; exact h n hn k hk
theorem ten3 {a b c : Nat} (ha : a < 200) (hb : b < 200) (hc : c < 200) : (0 : Int32) ≤ ((10 - qN a) - qN b) - qN c ↔ a + b + c ≤ 10 := by
  have h10 : (10 : Int32).toInt = 10 := by decide
  have e1 : ((10 : Int32) - qN a).toInt = 10 - a := by
    rw [q_sub (by rw [h10, qN_t (by omega)]; omega) (by rw [h10, qN_t (by omega)]; omega), h10, qN_t (by omega)]
  have e2 : ((10 : Int32) - qN a - qN b).toInt = 10 - a - b := by
    rw [q_sub (by rw [e1, qN_t (by omega)]; omega) (by rw [e1, qN_t (by omega)]; omega), e1, qN_t (by omega)]
  have e3 : ((10 : Int32) - qN a - qN b - qN c).toInt = 10 - a - b - c := by
    rw [q_sub (by rw [e2, qN_t (by omega)]; omega) (by rw [e2, qN_t (by omega)]; omega), e2, qN_t (by omega)]
  rw [Int32.le_iff_toInt_le, e3, Int32.toInt_zero]
  omega
theorem MG_z {μ : MM} {c N : Nat} (h : MG μ c N) : (gI μ c 0 = 1 ∧ gI μ c 1 = 0) ↔ N = 0 := by
  obtain ⟨l, h1, h2, h3, h4, h5, h6⟩ := h
  have d0 := h6 0 (by omega)
  rw [Nat.pow_zero, Nat.div_one] at d0
  have e1 : qN l = 1 ↔ l = 1 := qN_eq (b := 1) (by omega) (by decide)
  have e2 : qN (N % 10000) = 0 ↔ N % 10000 = 0 := qN_eq (b := 0) (by omega) (by decide)
  rw [h3, e1, show gI μ c 1 = gI μ c (0 + 1) from rfl, d0, e2]
  constructor
  · rintro ⟨rfl, z⟩
    rw [Nat.pow_one] at h4
    omega
  · intro z
    subst z
    refine ⟨?_, rfl⟩
    rcases Nat.lt_or_ge 1 l with q | q
    · have := h5 q
      have p : 0 < 10000 ^ (l - 1) := Nat.pow_pos (by decide)
      omega
    · omega
theorem m39_m {c : Nat} (h : 390 ≤ c ∧ c ≤ 396) {μ μ' : MM} (f : Sm (mgS c) μ μ') : Sm mS μ μ' := f.mo (fun k j r => by unfold mgS at r; unfold mS; omega)
theorem p79 : (1000000000 : Nat) ^ 24 < 10000 ^ 79 := by decide
theorem m_fitW {A X : Nat → Nat → Nat} {W : List Int64} {μ : MM} {Q : Int32 → MM → Prop} (hV : Inv A X) (hC : Ms A X W μ) (hm : MG μ 393 0) (hw : fRm A (fN A) (A 358 8) μ)
    (hy : mxv A 1331 ≠ 0 → ∀ μ', Ms A X (rwT (bwv A 1331) 4) μ' → FM μ μ' → Q (qN (fN A)) μ') (hn : mxv A 1331 = 0 → ∀ μ', Ms A X W μ' → FM μ μ' → Q (-2) μ') : Lp (G12_fit_L72 (qN (fN A)) Q) (0, μ) := by
  have hN := fN_b hV
  have M3 := mn378 hV
  refine Lp.up 1331 (fun i (x : Int32 × MM) => x.1 = qN i ∧ Ms A X W x.2 ∧ FM μ x.2 ∧ fRm A (fN A) (A 358 8) x.2 ∧ MG x.2 393 (mxv A i) ∧ (mxv A i ≠ 0 → ∀ k, k < 4 → gI x.2 396 k = qN (tn (bwv A i) k))) ?_ ⟨rfl, hC, FM.rfl', hw, hm, fun r => absurd rfl r⟩
  clear hC hw hm
  rintro i K hi hK ⟨x1, ν⟩ ⟨rfl, hC, hF, hw, hm, hb⟩
  simp only at hC hF hw hm hb
  have c1 : (1331 : Int32) ≤ qN i ↔ 1331 ≤ i := qN_le (a := 1331) (by decide) (by omega)
  unfold G12_fit_L72
  simp only [c1]
  refine ⟨fun r => ?_, fun r => ?_⟩
  · have e : i = 1331 := by omega
    subst e
    have mz := MG_z hm
    have tell : mxv A 1331 ≠ 0 → Bd (sI ν 358 1 0) fun μ33 => Lp (G12_fit_L311 (qN (fN A)) Q) (0, μ33) := fun z => by
      obtain ⟨b1, b2⟩ := bw_ok A 1331 z
      refine m_rclear hC (fun μ1 h1 f1 => ?_)
      refine Lp.up 4 (fun k (x : Int32 × MM) => x.1 = qN k ∧ Ms A X (rwT (bwv A 1331) k) x.2 ∧ FM μ x.2 ∧ ∀ k, k < 4 → gI x.2 396 k = qN (tn (bwv A 1331) k)) ?_ ⟨rfl, h1, hF.tr (FM_row f1), fun k hk => by rw [(f1.1 396 k (by omega)).1]; exact hb z k hk⟩
      clear hK K
      rintro k K hk hK ⟨x1, ω⟩ ⟨rfl, hD, hF2, hg⟩
      simp only at hD hF2 hg
      have c4 : (4 : Int32) ≤ qN k ↔ 4 ≤ k := qN_le (a := 4) (by decide) (by omega)
      unfold G12_fit_L311
      simp only [c4]
      refine ⟨fun r2 => ?_, fun r2 => ?_⟩
      · have e : k = 4 := by omega
        subst e
        exact hy z ω hD hF2
      · have tb := tn_b (bwv A 1331) k b1
        rw [qN_vp (by omega), qN_nat (by omega), hg k (by omega), qN_6 (by omega), show qN k + 1 = qN (k + 1) from qN_add k 1]
        exact ⟨by omega, m_radd hD (by rw [rwT_len]; omega) (fun μ2 h2 f2 => hK (by omega) _ ⟨rfl, h2, hF2.tr (FM_row f2), fun k hk => by rw [(f2.1 396 k (by omega)).1]; exact hg k hk⟩)⟩
    refine ⟨fun r2 => tell (fun z => r2 (mz.mpr z).1), fun r2 => ⟨fun r3 => tell (fun z => r3 (mz.mpr z).2), fun r3 => hn (mz.mp ⟨r2, r3⟩) ν hC hF⟩⟩
  · have li : i < 1331 := by omega
    have e0 : qN i / 121 = qN (i / 121) := qN_div (b := 121) (by omega) (by decide)
    have e1 : qN i / 11 = qN (i / 11) := qN_div (b := 11) (by omega) (by decide)
    have e2 : qN (i / 11) / 11 = qN (i / 11 / 11) := qN_div (b := 11) (by omega) (by decide)
    have e3 : qN (i / 11) - qN (i / 11 / 11) * 11 = qN (i / 11 % 11) := by
      rw [show qN (i / 11 / 11) * 11 = qN (i / 11 / 11 * 11) from qN_mul _ 11, qN_sub (by omega), dm_l]
    have e4 : qN i - qN (i / 11) * 11 = qN (i % 11) := by
      rw [show qN (i / 11) * 11 = qN (i / 11 * 11) from qN_mul _ 11, qN_sub (by omega), dm_l]
    rw [e0, e1, e2, e3, e4, Bd_eq, Bd_eq, Bd_eq, Bd_eq, show qN i + 1 = qN (i + 1) from qN_add i 1]
    have g0 : gI (sI (sI (sI ν 395 0 (qN (i / 121))) 395 1 (qN (i / 11 % 11))) 395 2 (qN (i % 11))) 395 0 = qN (i / 121) := by rw [gI_I, if_neg (by decide), gI_I, if_neg (by decide), gI_I, if_pos ⟨rfl, rfl⟩]
    have g1 : gI (sI (sI (sI ν 395 0 (qN (i / 121))) 395 1 (qN (i / 11 % 11))) 395 2 (qN (i % 11))) 395 1 = qN (i / 11 % 11) := by rw [gI_I, if_neg (by decide), gI_I, if_pos ⟨rfl, rfl⟩]
    have g2 : gI (sI (sI (sI ν 395 0 (qN (i / 121))) 395 1 (qN (i / 11 % 11))) 395 2 (qN (i % 11))) 395 2 = qN (i % 11) := by rw [gI_I, if_pos ⟨rfl, rfl⟩]
    rw [g0, g1, g2]
    have s0 : Sm (mgS 395) ν (sI (sI (sI (sI ν 395 0 (qN (i / 121))) 395 1 (qN (i / 11 % 11))) 395 2 (qN (i % 11))) 395 3 (10 - qN (i / 121) - qN (i / 11 % 11) - qN (i % 11))) := ((((Sm.rfl' (S := mgS 395)).wI _ rfl).wI _ rfl).wI _ rfl).wI _ rfl
    have t0 : gI (sI (sI (sI (sI ν 395 0 (qN (i / 121))) 395 1 (qN (i / 11 % 11))) 395 2 (qN (i % 11))) 395 3 (10 - qN (i / 121) - qN (i / 11 % 11) - qN (i % 11))) 395 0 = qN (i / 121) := by rw [gI_I, if_neg (by decide)]; exact g0
    have t1 : gI (sI (sI (sI (sI ν 395 0 (qN (i / 121))) 395 1 (qN (i / 11 % 11))) 395 2 (qN (i % 11))) 395 3 (10 - qN (i / 121) - qN (i / 11 % 11) - qN (i % 11))) 395 1 = qN (i / 11 % 11) := by rw [gI_I, if_neg (by decide)]; exact g1
    have t2 : gI (sI (sI (sI (sI ν 395 0 (qN (i / 121))) 395 1 (qN (i / 11 % 11))) 395 2 (qN (i % 11))) 395 3 (10 - qN (i / 121) - qN (i / 11 % 11) - qN (i % 11))) 395 2 = qN (i % 11) := by rw [gI_I, if_neg (by decide)]; exact g2
    have t3 : gI (sI (sI (sI (sI ν 395 0 (qN (i / 121))) 395 1 (qN (i / 11 % 11))) 395 2 (qN (i % 11))) 395 3 (10 - qN (i / 121) - qN (i / 11 % 11) - qN (i % 11))) 395 3 = 10 - qN (i / 121) - qN (i / 11 % 11) - qN (i % 11) := by rw [gI_I, if_pos ⟨rfl, rfl⟩]
    clear g0 g1 g2
    revert s0 t0 t1 t2 t3
    generalize sI (sI (sI (sI ν 395 0 (qN (i / 121))) 395 1 (qN (i / 11 % 11))) 395 2 (qN (i % 11))) 395 3 (10 - qN (i / 121) - qN (i / 11 % 11) - qN (i % 11)) = ν1
    intro s0 t0 t1 t2 t3
    have hC1 := hC.sm M3 (m39_m (by decide) s0)
    have hF1 := hF.tr (FM_mS (m39_m (by decide) s0))
    have hw1 := hw.sm s0 (fun j => by unfold mgS; omega)
    have hm1 := hm.sm s0 (fun j => by unfold mgS; omega)
    have hb1 : mxv A i ≠ 0 → ∀ k, k < 4 → gI ν1 396 k = qN (tn (bwv A i) k) := fun z k hk => by rw [(s0.1 396 k (by unfold mgS; omega)).1]; exact hb z k hk
    have keep : ¬ (tok i ∧ mxv A i < fv A i) → ∀ ω, Ms A X W ω → FM μ ω → fRm A (fN A) (A 358 8) ω → MG ω 393 (mxv A i) → (mxv A i ≠ 0 → ∀ k, k < 4 → gI ω 396 k = qN (tn (bwv A i) k)) → K (qN (i + 1), ω) := fun z ω k1 k2 k3 k4 k5 => by
      obtain ⟨m1, m2⟩ := mx_n z
      exact hK li _ ⟨rfl, k1, k2, k3, by rw [m1]; exact k4, by rw [m1, m2]; exact k5⟩
    rw [t3, ten3 (by omega) (by omega) (by omega)]
    refine ⟨fun hok => ?_, fun hok => keep (fun z => hok z.1) ν1 hC1 hF1 hw1 hm1 hb1⟩
    have tk : ∀ k, k < 4 → gI ν1 395 k = qN (tn i k) := fun k hk => by
      rcases (show k = 0 ∨ k = 1 ∨ k = 2 ∨ k = 3 by omega) with rfl | rfl | rfl | rfl
      · exact t0
      · exact t1
      · exact t2
      · rw [t3, show (10 : Int32) = qN 10 from rfl, qN_sub (by omega), qN_sub (by omega), qN_sub (by omega)]
        rfl
    have sb : ∀ j, fs A i j ≤ 1000000000 := fun j => fs_p hV hok
    refine m_small (a := 1) l392 (by decide) (fun μ2 s2 k2 => ?_)
    refine Lp.up (fN A) (fun n (x : Int32 × MM) => x.1 = qN n ∧ Sm (mgS 392) ν1 x.2 ∧ MG x.2 392 (pvl (fs A i) n)) ?_ ⟨rfl, s2, k2⟩
    clear s2 k2
    rintro n K2 hn9 hK2 ⟨x1, ω⟩ ⟨rfl, hs, hg⟩
    simp only at hs hg
    have cN : qN (fN A) ≤ qN n ↔ fN A ≤ n := qN_le (by omega) (by omega)
    have hC2 := hC1.sm M3 (m39_m (by decide) hs)
    have hF2 := hF1.tr (FM_mS (m39_m (by decide) hs))
    have hw2 := hw1.sm hs (fun j => by unfold mgS; omega)
    have hm2 := hm1.sm hs (fun j => by unfold mgS; omega)
    have tk2 : ∀ k, k < 4 → gI ω 395 k = qN (tn i k) := fun k hk => by rw [(hs.1 395 k (by unfold mgS; omega)).1]; exact tk k hk
    unfold G12_fit_L163
    simp only [cN]
    refine ⟨fun r2 => ?_, fun r2 => ?_⟩
    · have e : n = fN A := by omega
      subst e
      have hb2 : mxv A i ≠ 0 → ∀ k, k < 4 → gI ω 396 k = qN (tn (bwv A i) k) := fun z k hk => by rw [(hs.1 396 k (by unfold mgS; omega)).1]; exact hb1 z k hk
      rw [show qN i + 1 = qN (i + 1) from qN_add i 1]
      refine m_cmp l392 l393 hg hm2 (fun z => ⟨fun r3 => absurd r3 (by decide), fun _ => ?_⟩) (fun z => ⟨fun _ => keep (fun y => by have := y.2; unfold fv at this; omega) ω hC2 hF2 hw2 hm2 hb2, fun r3 => absurd (show (-1 : Int32) ≤ 0 by decide) r3⟩) (fun z => ⟨fun _ => keep (fun y => by have := y.2; unfold fv at this; omega) ω hC2 hF2 hw2 hm2 hb2, fun r3 => absurd (show (0 : Int32) ≤ 0 by decide) r3⟩)
      obtain ⟨m1, m2⟩ := mx_y (A := A) hok z
      refine m_bbecomes (by decide) l393 l392 hg (fun μ3 s3 k3 => ?_)
      have hC3 := hC2.sm M3 (m39_m (by decide) s3)
      have hF3 := hF2.tr (FM_mS (m39_m (by decide) s3))
      have hw3 := hw2.sm s3 (fun j => by unfold mgS; omega)
      have tk3 : ∀ k, k < 4 → gI μ3 395 k = qN (tn i k) := fun k hk => by rw [(s3.1 395 k (by unfold mgS; omega)).1]; exact tk2 k hk
      refine Lp.up 4 (fun k (x : Int32 × MM) => x.1 = qN k ∧ Sm (mgS 396) μ3 x.2 ∧ ∀ k', k' < k → gI x.2 396 k' = qN (tn i k')) ?_ ⟨rfl, Sm.rfl', fun k' hk' => absurd hk' (by omega)⟩
      rintro k K3 hk hK3 ⟨x1, υ⟩ ⟨rfl, hs4, hg4⟩
      simp only at hs4 hg4
      have c4 : (4 : Int32) ≤ qN k ↔ 4 ≤ k := qN_le (a := 4) (by decide) (by omega)
      unfold G12_fit_L253
      simp only [c4]
      refine ⟨fun r3 => ?_, fun r3 => ?_⟩
      · have e : k = 4 := by omega
        subst e
        rw [show qN i + 1 = qN (i + 1) from qN_add i 1]
        refine hK li _ ⟨rfl, hC3.sm M3 (m39_m (by decide) hs4), hF3.tr (FM_mS (m39_m (by decide) hs4)), hw3.sm hs4 (fun j => by unfold mgS; omega), by rw [m1]; exact k3.sm hs4 (fun j => by unfold mgS; omega), fun _ => by rw [m2]; exact hg4⟩
      · rw [qN_vp (by omega), qN_nat (by omega), Bd_eq, (hs4.1 395 k (by unfold mgS; omega)).1, tk3 k (by omega), show qN k + 1 = qN (k + 1) from qN_add k 1]
        refine ⟨by omega, by omega, hK3 (by omega) _ ⟨rfl, hs4.wI _ rfl, fun k' hk' => ?_⟩⟩
        show gI (sI υ 396 k _) 396 k' = _
        rw [gI_I]
        by_cases e : k' = k
        · rw [if_pos ⟨rfl, e⟩, e]
        · rw [if_neg (fun q => e q.2)]; exact hg4 k' (by omega)
    · refine Lp.up 4 (fun k (x : Int64 × Int32 × MM) => x = (qL (sm (fun k => tn i k * fw A n k) k), qN k, ω)) ?_ rfl
      rintro k K3 hk hK3 _ rfl
      have c4 : (4 : Int32) ≤ qN k ↔ 4 ≤ k := qN_le (a := 4) (by decide) (by omega)
      unfold G12_fit_L174
      simp only [c4]
      refine ⟨fun r3 => ?_, fun r3 => ?_⟩
      · have e : k = 4 := by omega
        subst e
        have es : sm (fun k => tn i k * fw A n k) 4 = fs A i n := rfl
        rw [es, show qN n + 1 = qN (n + 1) from qN_add n 1]
        refine m_btimes l392 hg (by have := sb n; omega) (Nat.lt_of_le_of_lt (pvl_B sb (n := n + 1) (by omega)) p79) (fun μ2 s2 g2 => ?_)
        exact hK2 (by omega) _ ⟨rfl, hs.tr s2, g2⟩
      · have tb := tn_b i k li
        have o4 : (4 : Int32) * qN n + qN k = qN (4 * n + k) := by rw [show (4 : Int32) * qN n = qN (4 * n) from qN_mul 4 n, qN_add]
        rw [o4, qN_vp (by omega), qN_vp (by omega), qN_nat (by omega), qN_nat (by omega), tk2 k (by omega), hw2 n (by omega) k (by omega), qN_6 (by omega), qL_mul, qL_add, Bd_eq, show qN k + 1 = qN (k + 1) from qN_add k 1]
        exact ⟨by omega, by omega, hK3 (by omega) _ rfl⟩
theorem m_fit {A X : Nat → Nat → Nat} {W : List Int64} {μ : MM} {Q : Int32 → MM → Prop} (hV : Inv A X) (h : Ms A X W μ)
    (hy : mxv A 1331 ≠ 0 → ∀ μ', Ms A X (rwT (bwv A 1331) 4) μ' → FM μ μ' → Q (qN (fN A)) μ') (hn : mxv A 1331 = 0 → ∀ μ', Ms A X W μ' → FM μ μ' → Q (-2) μ') : G12_fit μ Q := by
  have hH : A 358 8 < 25 := hV.b 358 8 (by unfold dom; decide)
  have M3 := mn378 hV
  unfold G12_fit
  rw [Bd_eq]
  have h0 := m_thr h 0
  have f0 := fm_thr μ 0
  revert h0 f0
  generalize sI μ 358 0 0 = μ0
  intro h0 f0
  refine Lp.up (A 358 8) (fun i (x : Int32 × Int32 × MM) => x.1 = qN (cnt (hsB A) i) ∧ x.2.1 = qN i ∧ Ms A X W x.2.2 ∧ FM μ x.2.2 ∧ fRm A (cnt (hsB A) i) i x.2.2) ?_ ⟨rfl, rfl, h0, f0, fun n hn => absurd hn (by show ¬ n < 0; omega)⟩
  clear h0 f0 h
  rintro i K hi hK ⟨x1, x2, ν⟩ ⟨e1, e2, hC, hF, hw⟩
  simp only at e1 e2 hC hF hw
  subst e1 e2
  have cn := cnt_le (hsB A) i
  have c1 : qN (A 358 8) ≤ qN i ↔ A 358 8 ≤ i := qN_le (by omega) (by omega)
  have cs : cnt (hsB A) (i + 1) = cnt (hsB A) i + (hsB A i).toNat := rfl
  unfold G12_fit_L9
  simp only [Ma_s8 hC.1, c1, show qN i + 1 = qN (i + 1) from qN_add i 1]
  refine ⟨fun r => ?_, fun r => ?_⟩
  · have e : i = A 358 8 := by omega
    subst e
    refine m_small (a := 0) l393 (by decide) (fun μ1 s1 g1 => ?_)
    refine m_fitW hV (hC.sm M3 (m39_m (by decide) s1)) g1 (hw.sm s1 (fun j => by unfold mgS; omega)) (fun z μ' h2 f2 => hy z μ' h2 ((hF.tr (FM_mS (m39_m (by decide) s1))).tr f2)) (fun z μ' h2 f2 => hn z μ' h2 ((hF.tr (FM_mS (m39_m (by decide) s1))).tr f2))
  · have li : i < A 358 8 := by omega
    refine m_countsHouse hV hC (by omega) (fun μ1 h1 s1 hT => ?_)
    have s1' : Sm mS ν μ1 := s1.mo (fun k j q => by unfold mS; omega)
    have hF1 := hF.tr (FM_mS s1')
    have hw1 := hw.sm s1 (fun j => by omega)
    have eh : tc A (sH A i) 0 (A 358 12) + tc A (sH A i) 1 (A 358 12) = hR A i := rfl
    have hRb : hR A i < 97 := by
      have hn : A 358 12 < 97 := hV.b 358 12 (by unfold dom; decide)
      have := tc_sum A (sH A i) (A 358 12)
      omega
    have z5 : qN (hR A i) ≤ 0 ↔ hR A i ≤ 0 := qN_le (b := 0) (by omega) (by decide)
    rw [eh, z5]
    refine ⟨fun z => ?_, fun z => ?_⟩
    · have rb : hsB A i = false := decide_eq_false (by omega)
      rw [rb] at cs
      have cs' : cnt (hsB A) (i + 1) = cnt (hsB A) i := cs
      refine hK li _ ⟨by rw [cs'], rfl, h1, hF1, fun n hn9 k hk9 => ?_⟩
      rw [fl_in A (fun q => by rw [rb] at q; exact absurd q.1 (by decide))]
      exact hw1 n (by rw [cs'] at hn9; exact hn9) k hk9
    · have rb : hsB A i = true := decide_eq_true (by omega)
      refine Lp.up 4 (fun k (x : Int32 × MM) => x.1 = qN k ∧ Ms A X W x.2 ∧ FM μ x.2 ∧ Tl x.2 389 A (sH A i) (A 358 12) ∧ fRm A (cnt (hsB A) i) i x.2 ∧ ∀ k', k' < k → gJ x.2 394 (4 * cnt (hsB A) i + k') = qL (lk A i k' (A 358 12))) ?_ ⟨rfl, h1, hF1, hT, hw1, fun k' hk' => absurd hk' (by omega)⟩
      clear hC hF hw h1 hF1 hT hw1 s1 s1'
      rintro k K2 hk hK2 ⟨x1, ω⟩ ⟨rfl, hC, hF, hT, hw, hg⟩
      simp only at hC hF hT hw hg
      have c4 : (4 : Int32) ≤ qN k ↔ 4 ≤ k := qN_le (a := 4) (by decide) (by omega)
      unfold G12_fit_L27
      simp only [c4]
      refine ⟨fun r2 => ?_, fun r2 => ?_⟩
      · have e : k = 4 := by omega
        subst e
        rw [show qN (cnt (hsB A) i) + 1 = qN (cnt (hsB A) i + 1) from qN_add _ 1, show qN i + 1 = qN (i + 1) from qN_add i 1]
        rw [rb] at cs
        have cs' : cnt (hsB A) (i + 1) = cnt (hsB A) i + 1 := cs
        refine hK li _ ⟨by rw [cs'], rfl, hC, hF, fun n hn9 k hk9 => ?_⟩
        show gJ ω 394 (4 * n + k) = _
        rw [cs'] at hn9
        by_cases e : n = cnt (hsB A) i
        · rw [show fl A (i + 1) n = i from if_pos ⟨rb, e⟩, e]
          exact hg k hk9
        · rw [fl_in A (fun q => e q.2)]
          exact hw n (by omega) k hk9
      · refine m_wouldBe hV hC.1 (by omega) hT ?_
        have o4 : (4 : Int32) * qN (cnt (hsB A) i) + qN k = qN (4 * cnt (hsB A) i + k) := by rw [show (4 : Int32) * qN (cnt (hsB A) i) = qN (4 * cnt (hsB A) i) from qN_mul 4 _, qN_add]
        rw [o4, qN_vp (by omega), qN_nat (by omega), Bd_eq, show qN k + 1 = qN (k + 1) from qN_add k 1]
        have s1 : Sm (mgS 394) ω (sJ ω 394 (4 * cnt (hsB A) i + k) (qL (lk A i k (A 358 12)))) := (Sm.rfl' (S := mgS 394)).wJ _ rfl
        refine ⟨by omega, hK2 (by omega) _ ⟨rfl, hC.sm M3 (m39_m (by decide) s1), hF.tr (FM_mS (m39_m (by decide) s1)), fun p hp => hT p hp, fun n hn9 k' hk9 => ?_, fun k' hk9 => ?_⟩⟩
        · show gJ (sJ ω 394 (4 * cnt (hsB A) i + k) _) 394 (4 * n + k') = _
          rw [gJ_J, if_neg (fun q => by omega)]; exact hw n hn9 k' hk9
        · show gJ (sJ ω 394 (4 * cnt (hsB A) i + k) _) 394 (4 * cnt (hsB A) i + k') = _
          rw [gJ_J]
          by_cases e : k' = k
          · rw [if_pos ⟨rfl, by omega⟩, e]
          · rw [if_neg (fun q => e (by omega))]; exact hg k' (by omega)
theorem op_28 (v1 v2 v3 v4 v5 : Int32) (μ : MM) : Rel μ → Glaw_28 v1 v2 v3 v4 v5 μ Rel := by
  rintro ⟨A, X, W, hV, hW, hC, hM⟩
  unfold Glaw_28
  refine c_fit hV hC (fun z μ1 h1 f1 => ?_) (fun z μ1 h1 f1 => ?_)
  · refine m_fit hV (hM.fc f1) (fun _ μ2 h2 f2 => ?_) (fun z2 => absurd z2 z)
    refine ⟨fun _ => ⟨A, X, _, hV, ?_, h1.fm f2, h2⟩, fun q => q rfl⟩
    rw [rwT_len]; decide
  · refine m_fit hV (hM.fc f1) (fun z2 => absurd z z2) (fun _ μ2 h2 f2 => ?_)
    exact ⟨fun _ => ⟨A, X, W, hV, hW, h1.fm f2, h2⟩, fun q => q rfl⟩
