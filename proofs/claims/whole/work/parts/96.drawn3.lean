/-! drawn: the model -/
theorem has_b {x j : Nat} (hx : x < 2147483648) (hj : j < 24) {μ : MM} {Q : Int32 → MM → Prop} (h0 : bt x j = 0 → Q 0 μ) (h1 : bt x j = 1 → Q 1 μ) : G12_has (qN x) (qN j) μ Q := by
  unfold G12_has
  have b := bt2 x j
  have t : qN (bt x j) = 1 ↔ bt x j = 1 := qN_eq (b := 1) (by omega) (by decide)
  rw [bitq hx hj, t]
  exact ⟨fun r => h0 (by omega), fun r => h1 r⟩
theorem okN_f {met : Nat → Bool} {x i : Nat} (h : okN met x i = false) : ∀ n, i ≤ n → okN met x n = false
  | 0, q => by
    have : i = 0 := by omega
    rw [← this]; exact h
  | n + 1, q => by
    by_cases e : i = n + 1
    · rw [← e]; exact h
    · show (okN met x n && _) = false
      rw [okN_f h n (by omega)]; rfl
def pD (A : Nat → Nat → Nat) (N t : Nat) : Bool := okN (metl A) t N && decide (pcN t N = zD A N)
def qD (A : Nat → Nat → Nat) (N t : Nat) : Bool := pdM (metl A) (shD A) (LD A N) N (zD A N) 0 t
theorem pD_cnt (A : Nat → Nat → Nat) (N : Nat) : cnt (pD A N) (2 ^ N) = bin (mc A N) (zD A N) := by
  rw [← RM_bin]
  have e : RM (fun _ => true) (fun _ => 0) 0 (cnt (metl A) N) (zD A N) 0 = RM (metl A) (fun _ => 0) 0 N (zD A N) 0 := RM_met N (fun _ _ _ => rfl) _ _
  show _ = RM (fun _ => true) (fun _ => 0) 0 (cnt (metl A) N) (zD A N) 0
  rw [e, ← cntM]
  refine cnt_congr (fun t _ => ?_)
  have z : ∀ n, smN (fun _ => 0) t n = 0 := fun n => by
    induction n with
    | zero => rfl
    | succ n ih => show smN (fun _ => 0) t n + bt t n * 0 = 0; rw [ih]; rfl
  unfold pD pdM
  rw [z, show decide (0 + 0 ≤ 0) = true from rfl, Bool.and_true]
theorem m_drawn {A X : Nat → Nat → Nat} {W : List Int64} {μ : MM} {Q : Int32 → MM → Prop} (hV : Inv A X) (h : Ms A X W μ)
    (hy : mc A (A 358 3) ≠ 0 → ∀ μ', Ms A X (dW A) μ' → FM μ μ' → Q 0 μ') (hz : mc A (A 358 3) = 0 → ∀ μ', Ms A X W μ' → FM μ μ' → Q (-2) μ') : G12_drawn μ Q := by
  have hn3 : A 358 3 < 13 := hV.b 358 3 (by unfold dom; decide)
  have hn : A 358 12 < 97 := hV.b 358 12 (by unfold dom; decide)
  have m3 := mc_le A (A 358 3)
  have zl := zD_le A (A 358 3)
  have SB := shD_b hV
  have LB := lcD_b hV
  have LP := lcD_p A
  have NB := nlA_b hV
  have ld := LD_b hV
  unfold G12_drawn
  rw [Bd_eq]
  have h0 := m_thr h 0
  have f0 := fm_thr μ 0
  revert h0 f0
  generalize sI μ 358 0 0 = μ0
  intro h0 f0
  refine m_countsNames hV h0 (fun μ1 h1 s1 hN => ?_)
  have f1 : FM μ μ1 := f0.tr (FM_mS (s1.mo (fun k j q => show mS k j by unfold mS; omega)))
  have eN : gI μ1 358 3 = qN (A 358 3) := Ma_s3 h1.1
  have cN : ∀ i, i < 2147483648 → (gI μ1 358 3 ≤ qN i ↔ A 358 3 ≤ i) := fun i hi => by
    rw [eN]; exact qN_le (by omega) (by omega)
  have e5 : ∀ i, i < 12 → gI μ1 385 i = qN (nlA A i) := fun i hi => (hN i hi).1
  have e6 : ∀ i, i < 12 → gI μ1 386 i = qN (nr A i (A 358 12)) := fun i hi => (hN i hi).2
  have z5 : ∀ i, qN (nlA A i) ≤ 0 ↔ nlA A i ≤ 0 := fun i => qN_le (b := 0) (by have := NB i; omega) (by decide)
  have sh : ∀ i, i < 12 → 0 < nlA A i → qL (lcD A (A 358 3)) / (qN (nlA A i)).toInt64 * (qN (nr A i (A 358 12))).toInt64 = qL (shD A i) := fun i hi hp => by
    have b1 := NB i
    have b2 := LB (A 358 3)
    have b3 := nr_le A i (A 358 12)
    have b4 := nl_le A i (A 358 12)
    rw [qN_6 (by omega), qN_6 (by omega), qL_div (by omega) (by omega), qL_mul, Nat.mul_comm]
    rfl
  have n0 : ∀ i, 0 < nlA A i → ¬ (qN (nlA A i)).toInt64 = 0 := fun i hp => by
    have b1 := NB i
    rw [qN_6 (by omega), qL_0 (by omega)]; omega
  refine Lp.up (A 358 3) (fun i (x : Int64 × Int32 × Int32 × Int32 × MM) => x = (qL (lcD A i), qN (mc A i), qN (zD A i), qN i, μ1)) ?_ rfl
  rintro i K hi hK _ rfl
  refine ⟨fun q => ?_, fun q => ?_⟩
  · have e : i = A 358 3 := by have := (cN i (by omega)).mp q; omega
    rw [e]
    have m0 : qN (mc A (A 358 3)) = 0 ↔ mc A (A 358 3) = 0 := qN_eq (b := 0) (by omega) (by decide)
    rw [m0]
    refine ⟨fun q0 => ?_, fun q0 => hz q0 μ1 h1 f1⟩
    refine Lp.up (A 358 3) (fun i (x : Int64 × Int32 × MM) => x = (qL (LD A i), qN i, μ1)) ?_ rfl
    rintro i K2 hi hK2 _ rfl
    refine ⟨fun q => ?_, fun q => ?_⟩
    · have e : i = A 358 3 := by have := (cN i (by omega)).mp q; omega
      rw [e]
      have p12 : (2 : Nat) ^ A 358 3 ≤ 2 ^ 12 := Nat.pow_le_pow_right (by decide) (by omega)
      have ldN := ld (A 358 3)
      refine Lp.up (2 ^ A 358 3) (fun t (x : Int32 × Int32 × Int32 × MM) => x = (qN (cnt (pD A (A 358 3)) t), qN (cnt (qD A (A 358 3)) t), qN t, μ1)) ?_ rfl
      rintro t K3 ht hK3 _ rfl
      have c1 := cnt_le (pD A (A 358 3)) t
      have c2 := cnt_le (qD A (A 358 3)) t
      have ct : (1 : Int32) <<< (gI μ1 358 3 &&& 31) ≤ qN t ↔ 2 ^ A 358 3 ≤ t := by
        rw [eN, one_sh _ (by omega)]; exact qN_le (by omega) (by omega)
      refine ⟨fun q => ?_, fun q => ?_⟩
      · have e : t = 2 ^ A 358 3 := by have := ct.mp q; omega
        rw [e] at c1 c2 ⊢
        obtain ⟨b1, b2⟩ := bin_p (mc A (A 358 3)) (by omega) (zD A (A 358 3)) (by omega) zl
        refine m_rclear h1 (fun μ3 h3 s3 => ?_)
        show G12_entersFraction (qN (cnt (qD A (A 358 3)) (2 ^ A 358 3))).toInt64 (qN (cnt (pD A (A 358 3)) (2 ^ A 358 3))).toInt64 μ3 (fun μ43 => Q 0 μ43)
        have qe : cnt (qD A (A 358 3)) (2 ^ A 358 3) = RM (metl A) (shD A) (LD A (A 358 3)) (A 358 3) (zD A (A 358 3)) 0 := cntM _ _ _ _ _ _
        rw [qN_6 (by omega), qN_6 (by omega), pD_cnt, qL_J, qL_J]
        refine m_rfrac h3 (by simp) ⟨by omega, by omega⟩ b1 (by omega) (fun μ4 h4 s4 => ?_)
        rw [qe] at h4
        exact hy q0 μ4 h4 ((f1.tr (FM_row s3)).tr (FM_row s4))
      · rw [ct] at q
        have hk3 : K3 (qN (cnt (pD A (A 358 3)) t + (pD A (A 358 3) t).toNat), qN (cnt (qD A (A 358 3)) t + (qD A (A 358 3) t).toNat), qN (t + 1), μ1) := hK3 (by omega) _ rfl
        have qd : qD A (A 358 3) t = (pD A (A 358 3) t && decide (smN (shD A) t (A 358 3) ≤ LD A (A 358 3))) := by
          show (okN (metl A) t (A 358 3) && decide (pcN t (A 358 3) = zD A (A 358 3)) && decide (0 + smN (shD A) t (A 358 3) ≤ LD A (A 358 3))) = _
          rw [Nat.zero_add]; rfl
        have ot : qN t + 1 = qN (t + 1) := qN_add t 1
        have j313 : ∀ (u v : Nat), u = (pD A (A 358 3) t).toNat → v < 2 → v = (qD A (A 358 3) t).toNat → G12_drawn_J313 (qL (lcD A (A 358 3))) (qN (zD A (A 358 3))) (qL (LD A (A 358 3))) (qN (cnt (pD A (A 358 3)) t + u)) (qN t) (qN v) (qN (cnt (qD A (A 358 3)) t)) μ1 K3 Q := fun u v hu hv2 hv => by
          unfold G12_drawn_J313
          rw [flag_q hv2, Bd_eq, qN_add, ot, hu, hv]
          exact hk3
        have jF : pD A (A 358 3) t = false → ∀ y : Int64, G12_drawn_J283 (qL (lcD A (A 358 3))) (qN (zD A (A 358 3))) (qL (LD A (A 358 3))) (qN (cnt (pD A (A 358 3)) t)) (qN (cnt (qD A (A 358 3)) t)) (qN t) (qN 0) y μ1 K3 Q := fun p y => by
          unfold G12_drawn_J283
          rw [flag_q (by decide), Bd_eq, qN_add]
          exact ⟨fun _ => j313 0 0 (by rw [p]; rfl) (by decide) (by rw [qd, p]; rfl), fun r => absurd rfl r⟩
        have jT : pD A (A 358 3) t = true → G12_drawn_J283 (qL (lcD A (A 358 3))) (qN (zD A (A 358 3))) (qL (LD A (A 358 3))) (qN (cnt (pD A (A 358 3)) t)) (qN (cnt (qD A (A 358 3)) t)) (qN t) (qN 1) (qL (smN (shD A) t (A 358 3))) μ1 K3 Q := fun p => by
          have sb := smN_b SB t (A 358 3)
          unfold G12_drawn_J283
          rw [flag_q (by decide), Bd_eq, qN_add, lg_gt, qL_lt (by omega) (by omega)]
          refine ⟨fun r => absurd r (by decide), fun _ => ⟨fun r => j313 1 0 (by rw [p]; rfl) (by decide) ?_, fun r => j313 1 1 (by rw [p]; rfl) (by decide) ?_⟩⟩
          · rw [qd, p, decide_eq_false (by omega)]; rfl
          · rw [qd, p, decide_eq_true (by omega)]; rfl
        have L : ∀ f : Bool, f = decide (pcN t (A 358 3) = zD A (A 358 3)) → Lp (G12_drawn_L203 (qL (lcD A (A 358 3))) (qN (zD A (A 358 3))) (qL (LD A (A 358 3))) (qN (cnt (pD A (A 358 3)) t)) (qN (cnt (qD A (A 358 3)) t)) (qN t) K3 Q) (qN f.toNat, 0, 0, μ1) := fun f hf => by
          refine Lp.up (A 358 3) (fun i (x : Int32 × Int64 × Int32 × MM) => ((okN (metl A) t i && f) = true ∧ x = (qN 1, qL (smN (shD A) t i), qN i, μ1)) ∨ ((okN (metl A) t i && f) = false ∧ ∃ y, x = (qN 0, y, qN i, μ1))) ?_ ?_
          case refine_2 =>
            cases f
            · exact Or.inr ⟨rfl, _, rfl⟩
            · exact Or.inl ⟨rfl, rfl⟩
          have pdF : ∀ i, i ≤ A 358 3 → (okN (metl A) t i && f) = false → pD A (A 358 3) t = false := fun i hi p => by
            unfold pD
            rw [← hf]
            cases ho : okN (metl A) t i
            · rw [okN_f ho _ hi]; rfl
            · rw [ho, Bool.true_and] at p
              rw [p, Bool.and_false]
          rintro i K4 hi hK4 x (⟨p, rfl⟩ | ⟨p, y, rfl⟩)
          · refine ⟨fun q2 => ?_, fun q2 => ⟨fun r => absurd (show qN 1 = (0 : Int32) from r) (by decide), fun _ => ?_⟩⟩
            · have e : i = A 358 3 := by have := (cN i (by omega)).mp q2; omega
              rw [e] at p ⊢
              exact jT (by unfold pD; rw [← hf]; exact p)
            · rw [cN i (by omega)] at q2
              have hl : i < A 358 3 := by omega
              have vp : vp_in (qN i) 12 := (qN_vp (by omega)).mpr (by omega)
              have ok : okN (metl A) t (i + 1) = (okN (metl A) t i && (metl A i || decide (bt t i = 0))) := rfl
              have ss : smN (shD A) t (i + 1) = smN (shD A) t i + bt t i * shD A i := rfl
              obtain ⟨p1, p2⟩ := Bool.and_eq_true_iff.mp p
              have oi : qN i + 1 = qN (i + 1) := qN_add i 1
              refine has_b (by omega) (by omega) (fun b => ⟨fun _ => ?_, fun r => absurd rfl r⟩) (fun b => ⟨fun r => absurd r (by decide), fun _ => ⟨vp, ?_⟩⟩)
              · refine hK4 hl _ (Or.inl ⟨by rw [ok, p1, p2, b]; simp, ?_⟩)
                rw [ss, b, Nat.zero_mul, Nat.add_zero, ← oi]
              · show (gI μ1 385 (qN i).toNatClampNeg ≤ 0 → _) ∧ (¬ gI μ1 385 (qN i).toNatClampNeg ≤ 0 → _)
                have vi : (qN i).toNatClampNeg = i := qN_nat (by omega)
                rw [vi, e5 i (by omega), z5]
                refine ⟨fun r => ⟨fun _ => ?_, fun w => absurd rfl w⟩, fun r => ⟨fun w => absurd w (by decide), fun _ => ?_⟩⟩
                · unfold G12_drawn_J274
                  rw [Bd_eq, oi]
                  refine hK4 hl _ (Or.inr ⟨?_, _, rfl⟩)
                  have : metl A i = false := decide_eq_false (show ¬ 0 < nlA A i by omega)
                  rw [ok, this, b]; simp
                · unfold G12_drawn_J274
                  rw [Bd_eq, oi, vi, e5 i (by omega), e6 i (by omega), sh i (by omega) (by omega), qL_add]
                  refine ⟨vp, n0 i (by omega), vp, hK4 hl _ (Or.inl ⟨?_, ?_⟩)⟩
                  · have : metl A i = true := decide_eq_true (show 0 < nlA A i by omega)
                    rw [ok, this, p1, p2]; rfl
                  · rw [ss, b, Nat.one_mul]; rfl
          · have j := jF (pdF i hi p) y
            exact ⟨fun _ => j, fun _ => ⟨fun _ => j, fun r => absurd rfl r⟩⟩
        refine bitN (n := A 358 3) (by omega) (by omega) ?_
        have pl : pcN t (A 358 3) ≤ A 358 3 := by rw [pcN_cnt]; exact cnt_le _ _
        have t1 : qN (pcN t (A 358 3)) = qN (zD A (A 358 3)) ↔ pcN t (A 358 3) = zD A (A 358 3) := qN_eq (by omega) (by omega)
        rw [t1]
        exact ⟨fun r => L false (decide_eq_false r).symm, fun r => L true (decide_eq_true r).symm⟩
    · rw [cN i (by omega)] at q
      have hk2 : K2 (qL (LD A i + (if metl A i then (if oneD A i then shD A i else 0) else 0)), qN (i + 1), μ1) := hK2 (by omega) _ rfl
      have vp : vp_in (qN i) 12 := (qN_vp (by omega)).mpr (by omega)
      have vi : (qN i).toNatClampNeg = i := qN_nat (by omega)
      have oi : qN i + 1 = qN (i + 1) := qN_add i 1
      have b5 : A 360 i < 2 := hV.b 360 i (by unfold dom; omega)
      have j150 : (if metl A i then (if oneD A i then shD A i else 0) else 0) = 0 → G12_drawn_J150 (qL (lcD A (A 358 3))) (qN (zD A (A 358 3))) (qN i) (qL (LD A i)) μ1 K2 Q := fun z => by
        rw [z] at hk2
        unfold G12_drawn_J150
        rw [Bd_eq, oi, show qL (LD A i) + 0 = qL (LD A i + 0) from qL_add _ 0]
        exact hk2
      refine ⟨vp, ?_⟩
      show (gI μ1 385 (qN i).toNatClampNeg ≤ 0 → _) ∧ (¬ gI μ1 385 (qN i).toNatClampNeg ≤ 0 → vp_in (qN i) 12 ∧ ((¬ gI μ1 360 (qN i).toNatClampNeg = 1 → _) ∧ (gI μ1 360 (qN i).toNatClampNeg = 1 → vp_in (qN i) 12 ∧ ¬ (gI μ1 385 (qN i).toNatClampNeg).toInt64 = 0 ∧ vp_in (qN i) 12 ∧ Bd (qL (LD A i) + qL (lcD A (A 358 3)) / (gI μ1 385 (qN i).toNatClampNeg).toInt64 * (gI μ1 386 (qN i).toNatClampNeg).toInt64) fun y75 => K2 (y75, qN i + 1, μ1))))
      have t3 : qN (A 360 i) = 1 ↔ A 360 i = 1 := qN_eq (b := 1) (by omega) (by decide)
      rw [vi, e5 i (by omega), e6 i (by omega), z5, Ma_360 h1.1 (by omega), t3]
      refine ⟨fun r => j150 ?_, fun r => ⟨vp, fun r2 => j150 ?_, fun r2 => ⟨vp, n0 i (by omega), vp, ?_⟩⟩⟩
      · rw [show metl A i = false from decide_eq_false (show ¬ 0 < nlA A i by omega)]; rfl
      · rw [show oneD A i = false from decide_eq_false r2]; simp
      · rw [sh i (by omega) (by omega), Bd_eq, qL_add, oi]
        rw [show metl A i = true from decide_eq_true (show 0 < nlA A i by omega), show oneD A i = true from decide_eq_true r2] at hk2
        exact hk2
  · rw [cN i (by omega)] at q
    have hk : K (qL (if metl A i then lcq (lcD A i) (nlA A i) else lcD A i), qN (mc A (i + 1)), qN (zD A i + (metl A i && oneD A i).toNat), qN (i + 1), μ1) := hK (by omega) _ rfl
    have vp : vp_in (qN i) 12 := (qN_vp (by omega)).mpr (by omega)
    have vi : (qN i).toNatClampNeg = i := qN_nat (by omega)
    have oi : qN i + 1 = qN (i + 1) := qN_add i 1
    have b5 : A 360 i < 2 := hV.b 360 i (by unfold dom; omega)
    have nb := NB i
    have lb := LB i
    have lp := LP i
    refine ⟨vp, ?_⟩
    show (gI μ1 385 (qN i).toNatClampNeg ≤ 0 → K (qL (lcD A i), qN (mc A i), qN (zD A i), qN i + 1, μ1)) ∧ (¬ gI μ1 385 (qN i).toNatClampNeg ≤ 0 → vp_in (qN i) 12 ∧ G12_common (qL (lcD A i)) (gI μ1 385 (qN i).toNatClampNeg).toInt64 μ1 (fun r80 μ79 => ¬ r80 = 0 ∧ vp_in (qN i) 12 ∧ Bd ((qL (lcD A i) / r80) * ((gI μ79 385 (qN i).toNatClampNeg).toInt64)) fun y83 => vp_in (qN i) 12 ∧ Bd (qN (zD A i) + (gI μ79 360 (qN i).toNatClampNeg)) fun y85 => K (y83, qN (mc A i) + 1, y85, qN i + 1, μ79)))
    rw [vi, e5 i (by omega), z5, oi]
    refine ⟨fun r => ?_, fun r => ⟨vp, ?_⟩⟩
    · rw [show metl A i = false from decide_eq_false (show ¬ 0 < nlA A i by omega), mc_s, if_neg (show ¬ 0 < nl A i (A 358 12) from fun w => absurd w (by show ¬ 0 < nlA A i; omega))] at hk
      exact hk
    · have np : 0 < nl A i (A 358 12) := by show 0 < nlA A i; omega
      rw [show metl A i = true from decide_eq_true np, mc_s, if_pos np] at hk
      rw [qN_6 (by omega)]
      refine m_lcm (by omega) (by omega) (by omega) (fun g eg ng => ⟨ng, vp, ?_⟩)
      rw [Bd_eq, e5 i (by omega), qN_6 (show nlA A i < 2147483648 by omega), eg, Ma_360 h1.1 (by omega)]
      refine ⟨vp, ?_⟩
      rw [Bd_eq, qN_add, show qN (mc A i) + 1 = qN (mc A i + 1) from qN_add _ 1]
      have e1 : A 360 i = (true && oneD A i).toNat := by
        unfold oneD
        rcases (show A 360 i = 0 ∨ A 360 i = 1 by omega) with w | w <;> rw [w] <;> rfl
      rw [e1]
      exact hk
theorem op_20 (v1 v2 v3 v4 v5 : Int32) (μ : MM) : Rel μ → Glaw_20 v1 v2 v3 v4 v5 μ Rel := by
  rintro ⟨A, X, W, hV, hW, hC, hM⟩
  refine c_drawn hV hC (fun q0 μ1 h1 f1 => ?_) (fun q0 μ1 h1 f1 => ?_)
  · refine m_drawn hV (hM.fc f1) (fun _ μ2 h2 f2 => ?_) (fun q => absurd q q0)
    exact ⟨fun _ => ⟨A, X, dW A, hV, show 2 ≤ 10 by decide, h1.fm f2, h2⟩, fun q => q rfl⟩
  · refine m_drawn hV (hM.fc f1) (fun q => absurd q0 q) (fun _ μ2 h2 f2 => ?_)
    exact ⟨fun _ => ⟨A, X, W, hV, hW, h1.fm f2, h2⟩, fun q => q rfl⟩
