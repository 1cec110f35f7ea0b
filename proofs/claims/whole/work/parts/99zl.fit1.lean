/-! fit: the class -/
def hsB (A : Nat → Nat → Nat) (h : Nat) : Bool := decide (0 < hR A h)
/-- the n-th of the houses that are met below i -/
def fl (A : Nat → Nat → Nat) : Nat → Nat → Nat
  | 0, _ => 0
  | i + 1, n => if hsB A i = true ∧ n = cnt (hsB A) i then i else fl A i n
def fN (A : Nat → Nat → Nat) : Nat := cnt (hsB A) (A 358 8)
def fw (A : Nat → Nat → Nat) (n k : Nat) : Nat := lk A (fl A (A 358 8) n) k (A 358 12)
/-- the tenths of a way -/
def tn (i k : Nat) : Nat := if k = 0 then i / 121 else if k = 1 then i / 11 % 11 else if k = 2 then i % 11 else 10 - i / 121 - i / 11 % 11 - i % 11
def tok (i : Nat) : Prop := i / 121 + i / 11 % 11 + i % 11 ≤ 10
def fs (A : Nat → Nat → Nat) (i j : Nat) : Nat := sm (fun k => tn i k * fw A j k) 4
def pvl (s : Nat → Nat) : Nat → Nat
  | 0 => 1
  | n + 1 => pvl s n * s n
def fv (A : Nat → Nat → Nat) (i : Nat) : Nat := pvl (fs A i) (fN A)
/-- the greatest so far, and whose it is -/
def mxv (A : Nat → Nat → Nat) : Nat → Nat
  | 0 => 0
  | i + 1 => if i / 121 + i / 11 % 11 + i % 11 ≤ 10 ∧ mxv A i < fv A i then fv A i else mxv A i
def bwv (A : Nat → Nat → Nat) : Nat → Nat
  | 0 => 0
  | i + 1 => if i / 121 + i / 11 % 11 + i % 11 ≤ 10 ∧ mxv A i < fv A i then i else bwv A i
theorem mx_y {A : Nat → Nat → Nat} {i : Nat} (h1 : tok i) (h2 : mxv A i < fv A i) : mxv A (i + 1) = fv A i ∧ bwv A (i + 1) = i := ⟨if_pos ⟨h1, h2⟩, if_pos ⟨h1, h2⟩⟩
theorem mx_n {A : Nat → Nat → Nat} {i : Nat} (h : ¬ (tok i ∧ mxv A i < fv A i)) : mxv A (i + 1) = mxv A i ∧ bwv A (i + 1) = bwv A i := ⟨if_neg h, if_neg h⟩
theorem bw_ok (A : Nat → Nat → Nat) : ∀ i, mxv A i ≠ 0 → bwv A i < i ∧ tok (bwv A i)
  | 0, h => absurd rfl h
  | i + 1, h => by
    by_cases q : tok i ∧ mxv A i < fv A i
    · rw [(mx_y q.1 q.2).2]
      exact ⟨by omega, q.1⟩
    · rw [(mx_n q).1] at h
      rw [(mx_n q).2]
      have := bw_ok A i h
      exact ⟨by omega, this.2⟩
theorem fw_b {A X : Nat → Nat → Nat} (hV : Inv A X) {n k : Nat} (hk : k < 4) : fw A n k ≤ 100000000 := lk_b hV hk (Nat.le_refl _)
theorem fs_p {A X : Nat → Nat → Nat} (hV : Inv A X) {i j : Nat} (h : tok i) : fs A i j ≤ 1000000000 := by
  have b0 := Nat.mul_le_mul_left (tn i 0) (fw_b hV (n := j) (k := 0) (by decide))
  have b1 := Nat.mul_le_mul_left (tn i 1) (fw_b hV (n := j) (k := 1) (by decide))
  have b2 := Nat.mul_le_mul_left (tn i 2) (fw_b hV (n := j) (k := 2) (by decide))
  have b3 := Nat.mul_le_mul_left (tn i 3) (fw_b hV (n := j) (k := 3) (by decide))
  have e : tn i 0 + tn i 1 + tn i 2 + tn i 3 = 10 := by
    unfold tok at h
    show i / 121 + i / 11 % 11 + i % 11 + (10 - i / 121 - i / 11 % 11 - i % 11) = 10
    omega
  show 0 + tn i 0 * fw A j 0 + tn i 1 * fw A j 1 + tn i 2 * fw A j 2 + tn i 3 * fw A j 3 ≤ 1000000000
  omega
theorem fN_b {A X : Nat → Nat → Nat} (hV : Inv A X) : fN A ≤ 24 := by
  have hH : A 358 8 < 25 := hV.b 358 8 (by unfold dom; decide)
  have := cnt_le (hsB A) (A 358 8)
  unfold fN
  omega
theorem pvl_b {s : Nat → Nat} (hs : ∀ j, s j ≤ 1000000000) : ∀ n, pvl s n ≤ 1000000000 ^ n
  | 0 => Nat.le_refl _
  | n + 1 => by
    show pvl s n * s n ≤ _
    rw [Nat.pow_succ]
    exact Nat.mul_le_mul (pvl_b hs n) (hs n)
theorem pvl_B {s : Nat → Nat} (hs : ∀ j, s j ≤ 1000000000) {n : Nat} (hn : n ≤ 24) : pvl s n ≤ 1000000000 ^ 24 := Nat.le_trans (pvl_b hs n) (Nat.pow_le_pow_right (by decide) hn)
theorem c_tenths {i k : Nat} {μ : MM} {Q : Int32 → MM → Prop} (hi : i < 1331) (hk : k < 4) (hok : tok i) (hQ : Q (qN (tn i k)) μ) : G4_tenths (qN i) (qN k) μ Q := by
  have e0 : qN i / 121 = qN (i / 121) := qN_div (b := 121) (by omega) (by decide)
  have e1 : qN i / 11 = qN (i / 11) := qN_div (b := 11) (by omega) (by decide)
  have e2 : qN (i / 11) / 11 = qN (i / 11 / 11) := qN_div (b := 11) (by omega) (by decide)
  have e3 : qN (i / 11) - qN (i / 11 / 11) * 11 = qN (i / 11 % 11) := by
    rw [show qN (i / 11 / 11) * 11 = qN (i / 11 / 11 * 11) from qN_mul _ 11, qN_sub (by omega), dm_l]
  have e4 : qN i - qN (i / 11) * 11 = qN (i % 11) := by
    rw [show qN (i / 11) * 11 = qN (i / 11 * 11) from qN_mul _ 11, qN_sub (by omega), dm_l]
  have k0 : qN k = 0 ↔ k = 0 := qN_eq (b := 0) (by omega) (by decide)
  have k1 : qN k = 1 ↔ k = 1 := qN_eq (b := 1) (by omega) (by decide)
  have k2 : qN k = 2 ↔ k = 2 := qN_eq (b := 2) (by omega) (by decide)
  unfold tok at hok
  have e5 : (10 : Int32) - qN (i / 121) - qN (i / 11 % 11) - qN (i % 11) = qN (10 - i / 121 - i / 11 % 11 - i % 11) := by
    rw [show (10 : Int32) = qN 10 from rfl, qN_sub (by omega), qN_sub (by omega), qN_sub (by omega)]
  unfold G4_tenths
  rw [e0, e1, e2, e3, e4, Bd_eq, Bd_eq, Bd_eq, e5, k0, k1, k2]
  unfold tn at hQ
  refine ⟨fun r => ?_, fun r => ?_, fun r => ?_, fun r0 r1 r2 => ?_⟩
  · rw [if_pos r] at hQ; exact hQ
  · rw [if_neg (by omega), if_pos r] at hQ; exact hQ
  · rw [if_neg (by omega), if_neg (by omega), if_pos r] at hQ; exact hQ
  · rw [if_neg r0, if_neg r1, if_neg r2] at hQ; exact hQ
def PQ (p q : Nat) : Prop := (p = 198 ∧ q = 200) ∨ (p = 200 ∧ q = 198)
theorem PQ_ob {p q : Nat} (h : PQ p q) : Ob p 0 ∧ Ob q 0 ∧ ln (p + 1) = 30 ∧ ln (q + 1) = 30 := by
  rcases h with ⟨rfl, rfl⟩ | ⟨rfl, rfl⟩ <;> (unfold Ob; decide)
def fR (A : Nat → Nat → Nat) (N i : Nat) (ν : MM) : Prop := ∀ n, n < N → ∀ k, k < 4 → gJ ν (173 + n) k = qL (lk A (fl A i n) k (A 358 12))
theorem fR.sm {A : Nat → Nat → Nat} {N i : Nat} {ν ν' : MM} {S : Nat → Nat → Prop} (h : fR A N i ν) (f : Sm S ν ν') (hN : N ≤ 24) (hS : ∀ k j, 173 ≤ k → k < 197 → ¬ S k j) : fR A N i ν' := fun n hn k hk => by
  rw [(f.1 (173 + n) k (hS _ _ (by omega) (by omega))).2]; exact h n hn k hk
theorem b30 : (1000000000 : Nat) ^ 24 < 100000000 ^ 30 := by decide
theorem c_likelier {A X : Nat → Nat → Nat} {W : List Int64} {μ : MM} {i m p q : Nat} {Q : Int32 → MM → Prop} (hV : Inv A X) (hC : Cs A X W μ) (hi : i < 1331) (hok : tok i) (hpq : PQ p q) (r7 : gR μ 168 7 = some p) (r8 : gR μ 168 8 = some q) (hm : BG μ p m) (hw : fR A (fN A) (A 358 8) μ)
    (hn : ¬ m < fv A i → ∀ μ', Sm (bS q) μ μ' → Q 0 μ') (hy : m < fv A i → ∀ μ', Sm (bS q) μ μ' → BG μ' q (fv A i) → Q 1 (sR (sR μ' 168 7 (some q)) 168 8 (some p))) : G4_isLikelier (qN i) (qN (fN A)) μ Q := by
  obtain ⟨o1, o2, o3, o4⟩ := PQ_ob hpq
  have hN := fN_b hV
  have qb : 198 ≤ q ∧ q ≤ 200 ∧ 198 ≤ p ∧ p ≤ 200 ∧ (p + 1 < q ∨ q + 1 < p) := by unfold PQ at hpq; omega
  unfold G4_isLikelier
  refine ⟨q, r8, o2, ?_⟩
  refine c_bbecome (t := q) (a := 1) (by decide) (by omega) (by omega) (fun μ1 s1 g1 => ?_)
  refine Lp.up (fN A) (fun j (x : Int32 × MM) => x.1 = qN j ∧ Sm (bS q) μ x.2 ∧ BG x.2 q (pvl (fs A i) j)) ?_ ⟨rfl, s1, g1⟩
  rintro j K hj hK ⟨x1, ν⟩ ⟨rfl, hs, hg⟩
  simp only at hs hg
  have c1 : qN (fN A) ≤ qN j ↔ fN A ≤ j := qN_le (by omega) (by omega)
  have q7 : gR ν 168 7 = some p := (hs.2 168 7).trans r7
  have q8 : gR ν 168 8 = some q := (hs.2 168 8).trans r8
  have sb : ∀ j, fs A i j ≤ 1000000000 := fun j => fs_p hV hok
  unfold G4_isLikelier_L10
  simp only [c1]
  refine ⟨fun r => ?_, fun r => ?_⟩
  · have e : j = fN A := by omega
    subst e
    refine ⟨q, q8, o2, p, q7, o1, ?_⟩
    refine c_more (by omega) (by omega) hg (hm.sm hs (fun j => by unfold bS; omega)) (fun r2 => ?_) (fun r2 => ?_)
    · refine ⟨fun _ => ⟨p, q7, o1, q, q8, o2, ?_⟩, fun r3 => absurd r3 (by decide)⟩
      rw [Bd_eq, Bd_eq]
      exact hy r2 ν hs hg
    · exact ⟨fun r3 => absurd rfl r3, fun _ => hn r2 ν hs⟩
  · refine Lp.up 4 (fun k (x : Int64 × Int32 × MM) => x = (qL (sm (fun k => tn i k * fw A j k) k), qN k, ν)) ?_ rfl
    rintro k K2 hk hK2 _ rfl
    have c4 : (4 : Int32) ≤ qN k ↔ 4 ≤ k := qN_le (a := 4) (by decide) (by omega)
    unfold G4_isLikelier_L21
    simp only [c4]
    refine ⟨fun r2 => ?_, fun r2 => ?_⟩
    · have e : k = 4 := by omega
      subst e
      have es : sm (fun k => tn i k * fw A j k) 4 = fs A i j := rfl
      rw [es, lg_0, qL_0 (by have := sb j; omega)]
      refine ⟨fun z => ⟨q, q8, o2, ?_⟩, fun z => hn (fun r3 => ?_) ν hs⟩
      · have cap : pvl (fs A i) j * fs A i j < 100000000 ^ (ln (q + 1)) := by
          rw [o4]
          exact Nat.lt_of_le_of_lt (pvl_B sb (n := j + 1) (by omega)) b30
        refine c_btimes (by omega) hg (by have := sb j; omega) cap (fun μ2 s2 g2 => ?_)
        rw [show qN j + 1 = qN (j + 1) from qN_add j 1]
        exact hK (by omega) _ ⟨rfl, hs.tr s2, g2⟩
      · have z0 : ∀ d, pvl (fs A i) (j + 1 + d) = 0 := by
          intro d
          induction d with
          | zero => show pvl (fs A i) j * fs A i j = 0; rw [z, Nat.mul_zero]
          | succ d ih => show pvl (fs A i) (j + 1 + d) * _ = 0; rw [ih, Nat.zero_mul]
        have := z0 (fN A - (j + 1))
        rw [show j + 1 + (fN A - (j + 1)) = fN A by omega] at this
        unfold fv at r3
        omega
    · have hw' : gJ ν (173 + j) k = qL (fw A j k) := by
        rw [(hs.1 (173 + j) k (by unfold bS; omega)).2]
        exact hw j (by omega) k (by omega)
      refine c_tenths hi (by omega) hok ?_
      have tb : tn i k ≤ 1331 := by
        unfold tn
        split
        · omega
        · split
          · omega
          · split <;> omega
      rw [qN_vp (by omega), qN_vp (by omega), qN_nat (by omega), qN_nat (by omega), hw', qN_6 (by omega), qL_mul, qL_add, Bd_eq, show qN k + 1 = qN (k + 1) from qN_add k 1]
      exact ⟨by omega, by omega, hK2 (by omega) _ rfl⟩
def rwT (b : Nat) : Nat → List Int64
  | 0 => []
  | n + 1 => rwT b n ++ [qL (tn b n)]
theorem rwT_len (b : Nat) : ∀ n, (rwT b n).length = n
  | 0 => rfl
  | n + 1 => by show (rwT b n ++ [qL (tn b n)]).length = n + 1; rw [List.length_append, rwT_len b n]; rfl
theorem tn_b (i k : Nat) (hi : i < 1331) : tn i k ≤ 10 := by
  unfold tn
  split
  · omega
  · split
    · omega
    · split <;> omega
theorem Cs.swap {A X : Nat → Nat → Nat} {W : List Int64} {μ : MM} {p q : Nat} (h : Cs A X W μ) (hpq : PQ p q) : Cs A X W (sR (sR μ 168 7 (some q)) 168 8 (some p)) := by
  obtain ⟨h1, h2, h3, h4, h5⟩ := h
  refine ⟨h1, h2, h3, h4, ?_⟩
  have e7 : gR (sR (sR μ 168 7 (some q)) 168 8 (some p)) 168 7 = some q := by rw [gR_R, if_neg (by decide), gR_R, if_pos ⟨rfl, rfl⟩]
  have e8 : gR (sR (sR μ 168 7 (some q)) 168 8 (some p)) 168 8 = some p := by rw [gR_R, if_pos ⟨rfl, rfl⟩]
  rw [e7, e8]
  rcases hpq with ⟨rfl, rfl⟩ | ⟨rfl, rfl⟩
  · exact Or.inr ⟨rfl, rfl⟩
  · exact Or.inl ⟨rfl, rfl⟩
theorem bq_c {p q : Nat} (h : PQ p q) {μ μ' : MM} (f : Sm (bS q) μ μ') : Sm cS μ μ' := f.mo (fun k j r => by unfold bS at r; unfold PQ at h; unfold cS; omega)
theorem c_fitW {A X : Nat → Nat → Nat} {W : List Int64} {μ : MM} {p q : Nat} {Q : Int32 → MM → Prop} (hV : Inv A X) (hC : Cs A X W μ) (hpq : PQ p q) (r7 : gR μ 168 7 = some p) (r8 : gR μ 168 8 = some q) (hm : BG μ p 0) (hw : fR A (fN A) (A 358 8) μ)
    (hy : mxv A 1331 ≠ 0 → ∀ μ', Cs A X (rwT (bwv A 1331) 4) μ' → FC μ μ' → Q (qN (fN A)) μ') (hn : mxv A 1331 = 0 → ∀ μ', Cs A X W μ' → FC μ μ' → Q (-2) μ') : Lp (G4_tellFit_L74 (qN (fN A)) Q) (-1, 0, μ) := by
  have hN := fN_b hV
  refine Lp.up 1331 (fun i (x : Int32 × Int32 × MM) => x.1 = (if mxv A i = 0 then -1 else qN (bwv A i)) ∧ x.2.1 = qN i ∧ Cs A X W x.2.2 ∧ FC μ x.2.2 ∧ fR A (fN A) (A 358 8) x.2.2 ∧ ∃ p q, PQ p q ∧ gR x.2.2 168 7 = some p ∧ gR x.2.2 168 8 = some q ∧ BG x.2.2 p (mxv A i)) ?_ ⟨rfl, rfl, hC, FC.rfl', hw, p, q, hpq, r7, r8, hm⟩
  clear hC hw hm r7 r8 hpq p q
  rintro i K hi hK ⟨x1, x2, ν⟩ ⟨e1, e2, hC, hF, hw, p, q, hpq, r7, r8, hm⟩
  simp only at e1 e2 hC hF hw r7 r8 hm
  subst e1 e2
  have c1 : (1331 : Int32) ≤ qN i ↔ 1331 ≤ i := qN_le (a := 1331) (by decide) (by omega)
  unfold G4_tellFit_L74
  simp only [c1]
  refine ⟨fun r => ?_, fun r => ?_⟩
  · have e : i = 1331 := by omega
    subst e
    by_cases z : mxv A 1331 = 0
    · rw [if_pos z]
      exact ⟨fun r2 => absurd rfl r2, fun _ => hn z ν hC hF⟩
    · rw [if_neg z]
      obtain ⟨b1, b2⟩ := bw_ok A 1331 z
      refine ⟨fun _ => ?_, fun r2 => absurd r2 (fun r3 => (qN_neg1 (by omega)).mp r3)⟩
      refine c_rclear hC (fun μ1 h1 f1 => ?_)
      refine Lp.up 4 (fun k (x : Int32 × MM) => x.1 = qN k ∧ Cs A X (rwT (bwv A 1331) k) x.2 ∧ FC μ x.2) ?_ ⟨rfl, h1, hF.tr (FC_row f1)⟩
      clear hK K
      rintro k K hk hK ⟨x1, ω⟩ ⟨rfl, hD, hF2⟩
      simp only at hD hF2
      have c4 : (4 : Int32) ≤ qN k ↔ 4 ≤ k := qN_le (a := 4) (by decide) (by omega)
      unfold G4_tellFit_L137
      simp only [c4]
      refine ⟨fun r2 => ?_, fun r2 => ?_⟩
      · have e : k = 4 := by omega
        subst e
        exact hy z ω hD hF2
      · refine c_tenths b1 (by omega) b2 ?_
        have tb := tn_b (bwv A 1331) k b1
        rw [qN_6 (by omega), show qN k + 1 = qN (k + 1) from qN_add k 1]
        exact c_radd hD (by rw [rwT_len]; omega) (fun μ2 h2 f2 => hK (by omega) _ ⟨rfl, h2, hF2.tr (FC_row f2)⟩)
  · have li : i < 1331 := by omega
    have e0 : qN i / 121 = qN (i / 121) := qN_div (b := 121) (by omega) (by decide)
    have e1 : qN i / 11 = qN (i / 11) := qN_div (b := 11) (by omega) (by decide)
    have e2 : qN (i / 11) / 11 = qN (i / 11 / 11) := qN_div (b := 11) (by omega) (by decide)
    have e3 : qN (i / 11) - qN (i / 11 / 11) * 11 = qN (i / 11 % 11) := by
      rw [show qN (i / 11 / 11) * 11 = qN (i / 11 / 11 * 11) from qN_mul _ 11, qN_sub (by omega), dm_l]
    have e4 : qN i - qN (i / 11) * 11 = qN (i % 11) := by
      rw [show qN (i / 11) * 11 = qN (i / 11 * 11) from qN_mul _ 11, qN_sub (by omega), dm_l]
    have ct : (10 : Int32) < qN (i / 121 + i / 11 % 11 + i % 11) ↔ 10 < i / 121 + i / 11 % 11 + i % 11 := qN_lt (a := 10) (by decide) (by omega)
    have keep : ¬ (tok i ∧ mxv A i < fv A i) → ∀ ω, Cs A X W ω → FC μ ω → fR A (fN A) (A 358 8) ω → gR ω 168 7 = some p → gR ω 168 8 = some q → BG ω p (mxv A i) → K ((if mxv A i = 0 then -1 else qN (bwv A i)), qN (i + 1), ω) := fun z ω k1 k2 k3 k4 k5 k6 => by
      obtain ⟨m1, m2⟩ := mx_n z
      exact hK li _ ⟨by rw [m1, m2], rfl, k1, k2, k3, p, q, hpq, k4, k5, by rw [m1]; exact k6⟩
    rw [e0, e1, e2, e3, e4, qN_add, qN_add, ct, show qN i + 1 = qN (i + 1) from qN_add i 1]
    refine ⟨fun r2 => keep (fun z => by have := z.1; unfold tok at this; omega) ν hC hF hw r7 r8 hm, fun r2 => ?_⟩
    have hok : tok i := by unfold tok; omega
    refine c_likelier hV hC li hok hpq r7 r8 hm hw (fun z μ' s => ?_) (fun z μ' s g => ?_)
    · refine ⟨fun _ => ?_, fun r3 => absurd rfl r3⟩
      refine keep (fun y => z y.2) μ' (hC.sm (bq_c hpq s)) (hF.tr (FC_cS (bq_c hpq s))) (hw.sm s hN (fun k j h1 h2 => by unfold PQ at hpq; unfold bS; omega)) ((s.2 168 7).trans r7) ((s.2 168 8).trans r8) (hm.sm s (fun j => by unfold PQ at hpq; unfold bS; omega))
    · refine ⟨fun r3 => absurd r3 (by decide), fun _ => ?_⟩
      obtain ⟨m1, m2⟩ := mx_y hok z
      refine hK li _ ⟨by rw [m1, m2, if_neg (by omega)], rfl, (hC.sm (bq_c hpq s)).swap hpq, ?_, ?_, q, p, by unfold PQ at hpq ⊢; omega, ?_, ?_, ?_⟩
      · intro k j hk
        have := (hF.tr (FC_cS (bq_c hpq s))) k j hk
        exact this
      · exact (show fR A (fN A) (A 358 8) μ' from hw.sm s hN (fun k j h1 h2 => by unfold PQ at hpq; unfold bS; omega))
      · show gR (sR (sR μ' 168 7 (some q)) 168 8 (some p)) 168 7 = some q
        rw [gR_R, if_neg (by decide), gR_R, if_pos ⟨rfl, rfl⟩]
      · show gR (sR (sR μ' 168 7 (some q)) 168 8 (some p)) 168 8 = some p
        rw [gR_R, if_pos ⟨rfl, rfl⟩]
      · rw [m1]
        exact g
theorem fl_in (A : Nat → Nat → Nat) {i n : Nat} (h : ¬ (hsB A i = true ∧ n = cnt (hsB A) i)) : fl A (i + 1) n = fl A i n := if_neg h
theorem c_fit {A X : Nat → Nat → Nat} {W : List Int64} {μ : MM} {Q : Int32 → MM → Prop} (hV : Inv A X) (hC : Cs A X W μ)
    (hy : mxv A 1331 ≠ 0 → ∀ μ', Cs A X (rwT (bwv A 1331) 4) μ' → FC μ μ' → Q (qN (fN A)) μ') (hn : mxv A 1331 = 0 → ∀ μ', Cs A X W μ' → FC μ μ' → Q (-2) μ') : G11_fit μ Q := by
  have hH : A 358 8 < 25 := hV.b 358 8 (by unfold dom; decide)
  unfold G11_fit G4_tellFit
  refine Lp.up (A 358 8) (fun i (x : Int32 × Int32 × MM) => x.1 = qN (cnt (hsB A) i) ∧ x.2.1 = qN i ∧ Cs A X W x.2.2 ∧ FC μ x.2.2 ∧ fR A (cnt (hsB A) i) i x.2.2) ?_ ⟨rfl, rfl, hC, FC.rfl', fun n hn => absurd hn (by show ¬ n < 0; omega)⟩
  clear hC
  rintro i K hi hK ⟨x1, x2, ν⟩ ⟨e1, e2, hC, hF, hw⟩
  simp only at e1 e2 hC hF hw
  subst e1 e2
  have cn := cnt_le (hsB A) i
  have c1 : qN (A 358 8) ≤ qN i ↔ A 358 8 ≤ i := qN_le (by omega) (by omega)
  have cs : cnt (hsB A) (i + 1) = cnt (hsB A) i + (hsB A i).toNat := rfl
  unfold G4_tellFit_L4
  simp only [Ca_s8 hC.1, c1, show qN i + 1 = qN (i + 1) from qN_add i 1]
  refine ⟨fun r => ?_, fun r => ?_⟩
  · have e : i = A 358 8 := by omega
    subst e
    obtain ⟨p, q, hpq, r7, r8⟩ : ∃ p q, PQ p q ∧ gR ν 168 7 = some p ∧ gR ν 168 8 = some q := by
      rcases hC.2.2.2.2 with ⟨h1, h2⟩ | ⟨h1, h2⟩
      · exact ⟨198, 200, Or.inl ⟨rfl, rfl⟩, h1, h2⟩
      · exact ⟨200, 198, Or.inr ⟨rfl, rfl⟩, h1, h2⟩
    obtain ⟨o1, o2, o3, o4⟩ := PQ_ob hpq
    refine ⟨p, r7, o1, ?_⟩
    refine c_bbecome (t := p) (a := 0) (by decide) (by omega) (by omega) (fun μ1 s1 g1 => ?_)
    have hqp : PQ q p := by unfold PQ at hpq ⊢; omega
    refine c_fitW hV (hC.sm (bq_c hqp s1)) hpq ((s1.2 168 7).trans r7) ((s1.2 168 8).trans r8) g1 (hw.sm s1 (fN_b hV) (fun k j h1 h2 => by unfold PQ at hpq; unfold bS; omega)) (fun z μ' h2 f2 => hy z μ' h2 ((hF.tr (FC_cS (bq_c hqp s1))).tr f2)) (fun z μ' h2 f2 => hn z μ' h2 ((hF.tr (FC_cS (bq_c hqp s1))).tr f2))
  · have li : i < A 358 8 := by omega
    refine c_hasRead hV.b hC.1 (by omega) ?_
    by_cases z : 0 < hR A i
    · have rb : hsB A i = true := decide_eq_true z
      rw [if_pos z]
      refine ⟨fun r2 => absurd r2 (by decide), fun _ => ?_⟩
      refine Lp.up 4 (fun k (x : Int32 × MM) => x.1 = qN k ∧ Cs A X W x.2 ∧ FC μ x.2 ∧ fR A (cnt (hsB A) i) i x.2 ∧ ∀ k', k' < k → gJ x.2 (173 + cnt (hsB A) i) k' = qL (lk A i k' (A 358 12))) ?_ ⟨rfl, hC, hF, hw, fun k' hk' => absurd hk' (by omega)⟩
      clear hC hF hw
      rintro k K2 hk hK2 ⟨x1, ω⟩ ⟨rfl, hC, hF, hw, hg⟩
      simp only at hC hF hw hg
      have c4 : (4 : Int32) ≤ qN k ↔ 4 ≤ k := qN_le (a := 4) (by decide) (by omega)
      unfold G4_tellFit_L28
      simp only [c4]
      refine ⟨fun r2 => ?_, fun r2 => ?_⟩
      · have e : k = 4 := by omega
        subst e
        rw [show qN (cnt (hsB A) i) + 1 = qN (cnt (hsB A) i + 1) from qN_add _ 1, show qN i + 1 = qN (i + 1) from qN_add i 1]
        rw [rb] at cs
        have cs' : cnt (hsB A) (i + 1) = cnt (hsB A) i + 1 := cs
        refine hK li _ ⟨by rw [cs'], rfl, hC, hF, fun n hn9 k hk9 => ?_⟩
        show gJ ω (173 + n) k = _
        rw [cs'] at hn9
        by_cases e : n = cnt (hsB A) i
        · rw [show fl A (i + 1) n = i from if_pos ⟨rb, e⟩, e]
          exact hg k hk9
        · rw [fl_in A (fun q => e q.2)]
          exact hw n (by omega) k hk9
      · rw [qN_vp (by omega), qN_nat (by omega)]
        refine ⟨by omega, c_likelihood hV hC.1 (by omega) (by omega) ?_⟩
        rw [qN_vp (by omega), qN_nat (by omega), Bd_eq, show qN k + 1 = qN (k + 1) from qN_add k 1]
        have s1 : Sm (fun a _ => a = 173 + cnt (hsB A) i) ω (sJ ω (173 + cnt (hsB A) i) k (qL (lk A i k (A 358 12)))) := Sm.rfl'.wJ _ rfl
        have s2 : Sm cS ω (sJ ω (173 + cnt (hsB A) i) k (qL (lk A i k (A 358 12)))) := s1.mo (fun a b q => by unfold cS; omega)
        refine ⟨by omega, hK2 (by omega) _ ⟨rfl, hC.sm s2, hF.tr (FC_cS s2), fun n hn9 k' hk9 => ?_, fun k' hk9 => ?_⟩⟩
        · show gJ (sJ ω (173 + cnt (hsB A) i) k _) (173 + n) k' = _
          rw [gJ_J, if_neg (fun q => by omega)]; exact hw n hn9 k' hk9
        · show gJ (sJ ω (173 + cnt (hsB A) i) k _) (173 + cnt (hsB A) i) k' = _
          rw [gJ_J]
          by_cases e : k' = k
          · rw [if_pos ⟨rfl, e⟩, e]
          · rw [if_neg (fun q => e q.2)]; exact hg k' (by omega)
    · have rb : hsB A i = false := decide_eq_false z
      rw [if_neg z]
      refine ⟨fun _ => ?_, fun r2 => absurd rfl r2⟩
      rw [rb] at cs
      have cs' : cnt (hsB A) (i + 1) = cnt (hsB A) i := cs
      refine hK li _ ⟨by rw [cs'], rfl, hC, hF, fun n hn9 k hk9 => ?_⟩
      rw [fl_in A (fun q => by rw [rb] at q; exact absurd q.1 (by decide))]
      exact hw n (by rw [cs'] at hn9; exact hn9) k hk9
