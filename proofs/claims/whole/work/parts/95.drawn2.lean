/-! drawn: the class, told -/
theorem one_sh : ∀ i, i < 24 → (1 : Int32) <<< (qN i &&& 31) = qN (2 ^ i) := by decide
theorem zero_sh : ∀ i, i < 24 → (0 : Int32) <<< (qN i &&& 31) = qN 0 := by decide
theorem smod_t : ∀ j, j < 24 → ((qN j &&& 31).toBitVec.smod 32).toNat = j := by decide
theorem bitq {x j : Nat} (hx : x < 2147483648) (hj : j < 24) : (qN x >>> (qN j &&& 31)) &&& 1 = qN (bt x j) := by
  have e : qN x >>> (qN j &&& 31) = qN (x / 2 ^ j) := by
    apply Int32.toBitVec.inj
    show (BitVec.ofNat 32 x).sshiftRight ((qN j &&& 31).toBitVec.smod 32).toNat = BitVec.ofNat 32 (x / 2 ^ j)
    rw [smod_t j hj, BitVec.sshiftRight_eq_of_msb_false (by
      rw [BitVec.msb_eq_false_iff_two_mul_lt, BitVec.toNat_ofNat, Nat.mod_eq_of_lt (by omega)]
      omega)]
    apply BitVec.eq_of_toNat_eq
    rw [BitVec.toNat_ushiftRight, BitVec.toNat_ofNat, BitVec.toNat_ofNat, Nat.shiftRight_eq_div_pow, Nat.mod_eq_of_lt (show x < 2 ^ 32 by omega)]
    have : x / 2 ^ j ≤ x := Nat.div_le_self _ _
    exact (Nat.mod_eq_of_lt (by omega)).symm
  rw [e, show (1 : Int32) = qN 1 from rfl, qN_and, Nat.and_one_is_mod]
  rfl
theorem bt2 (x j : Nat) : bt x j < 2 := Nat.mod_lt _ (by decide)
theorem smN_bnb (S : Nat → Bool) (s : Nat → Nat) : ∀ n, smN s (bnb S n) n = sm (fun j => if S j then s j else 0) n
  | 0 => rfl
  | n + 1 => by
    have ih := smN_bnb S s n
    have lt := bnb_lt S n
    show smN s (bnb S n + (if S n then 2 ^ n else 0)) n + bt (bnb S n + (if S n then 2 ^ n else 0)) n * s n = sm (fun j => if S j then s j else 0) n + (if S n then s n else 0)
    cases q : S n
    · rw [if_neg (by decide), if_neg (by decide), Nat.add_zero, bt_lt lt, ih, Nat.zero_mul]
    · rw [if_pos rfl, if_pos rfl, Nat.add_comm (bnb S n), smN_low n (Nat.le_refl n), bt_top lt, ih, Nat.one_mul]
theorem smc (A : Nat → Nat → Nat) (f : Nat → Nat) : ∀ n, n ≤ A 358 3 → sm (fun j => f (mtf A (A 358 3) j)) (mc A n) = sm (fun k => if metl A k then f k else 0) n
  | 0, _ => rfl
  | n + 1, h => by
    have ih := smc A f n (by omega)
    show _ = sm (fun k => if metl A k then f k else 0) n + (if metl A n then f n else 0)
    rw [mc_s]
    by_cases q : 0 < nl A n (A 358 12)
    · have hm : metl A n = true := decide_eq_true q
      rw [if_pos q, hm, if_pos rfl]
      show sm (fun j => f (mtf A (A 358 3) j)) (mc A n) + f (mtf A (A 358 3) (mc A n)) = _
      rw [ih, mtf_at A (by omega) q]
    · have hm : metl A n = false := decide_eq_false q
      rw [if_neg q, hm]
      exact ih
theorem cntc (A : Nat → Nat → Nat) (P : Nat → Bool) : ∀ n, n ≤ A 358 3 → cnt (fun j => P (mtf A (A 358 3) j)) (mc A n) = cnt (fun k => metl A k && P k) n
  | 0, _ => rfl
  | n + 1, h => by
    have ih := cntc A P n (by omega)
    show _ = cnt (fun k => metl A k && P k) n + (metl A n && P n).toNat
    rw [mc_s]
    by_cases q : 0 < nl A n (A 358 12)
    · have hm : metl A n = true := decide_eq_true q
      rw [if_pos q, hm]
      show cnt (fun j => P (mtf A (A 358 3) j)) (mc A n) + (P (mtf A (A 358 3) (mc A n))).toNat = _
      rw [ih, mtf_at A (by omega) q]; rfl
    · have hm : metl A n = false := decide_eq_false q
      rw [if_neg q, hm]
      exact ih
def oneD (A : Nat → Nat → Nat) (k : Nat) : Bool := decide (A 360 k = 1)
def zD (A : Nat → Nat → Nat) (n : Nat) : Nat := cnt (fun k => metl A k && oneD A k) n
def LD (A : Nat → Nat → Nat) (n : Nat) : Nat := sm (fun k => if metl A k then (if oneD A k then shD A k else 0) else 0) n
theorem zD_le (A : Nat → Nat → Nat) (n : Nat) : zD A n ≤ mc A n := cnt_mono (fun k q => (Bool.and_eq_true_iff.mp q).1) n
theorem LD_b {A X : Nat → Nat → Nat} (hV : Inv A X) (n : Nat) : LD A n ≤ n * 1853020188851841 := sm_le (fun k => by
  have := shD_b hV k
  split
  · split <;> omega
  · omega) n
theorem bin_p : ∀ n, n < 17 → ∀ k, k < 17 → k ≤ n → 0 < bin n k ∧ bin n k < 20000 := by decide
theorem okN_t (x : Nat) : ∀ n, okN (fun _ => true) x n = true
  | 0 => rfl
  | n + 1 => by
    show (okN (fun _ => true) x n && (true || _)) = true
    rw [okN_t x n]; rfl
theorem smN_b {s : Nat → Nat} {b : Nat} (hs : ∀ k, s k ≤ b) (x : Nat) : ∀ n, smN s x n ≤ n * b
  | 0 => Nat.zero_le _
  | n + 1 => by
    have ih := smN_b hs x n
    have h1 := hs n
    have h2 := bt2 x n
    show smN s x n + bt x n * s n ≤ (n + 1) * b
    rw [Nat.add_mul, Nat.one_mul]
    have h3 : bt x n * s n ≤ 1 * s n := Nat.mul_le_mul_right _ (by omega)
    omega
def dW (A : Nat → Nat → Nat) : List Int64 := [] ++ frc ((RM (metl A) (shD A) (LD A (A 358 3)) (A 358 3) (zD A (A 358 3)) 0 : Nat) : Int) (bin (mc A (A 358 3)) (zD A (A 358 3)))
theorem c_sum {A X : Nat → Nat → Nat} {μ : MM} {Q : Int64 → MM → Prop} (hV : Inv A X) {x n : Nat} (hx : x < 2147483648) (hn : n < 13) (hg : ∀ j, j < n → gJ μ 167 j = qL (shD A (mtf A (A 358 3) j)))
    (hQ : Q (qL (smN (fun j => shD A (mtf A (A 358 3) j)) x n)) μ) : G8_sumOfShares (qN x) (qN n) μ Q := by
  refine Lp.up n (fun i (y : Int64 × Int32 × MM) => y = (qL (smN (fun j => shD A (mtf A (A 358 3) j)) x i), qN i, μ)) ?_ rfl
  rintro i K hi hK _ rfl
  have c1 : qN n ≤ qN i ↔ n ≤ i := qN_le (by omega) (by omega)
  refine ⟨fun q => ?_, fun q => ?_⟩
  · have e : i = n := by have := c1.mp q; omega
    rw [e]; exact hQ
  · rw [c1] at q
    have hk : K (qL (smN (fun j => shD A (mtf A (A 358 3) j)) x i + bt x i * shD A (mtf A (A 358 3) i)), qN (i + 1), μ) := hK (by omega) _ rfl
    have b := bt2 x i
    show (¬ ((qN x >>> (qN i &&& 31)) &&& 1) = 1 → Bd (qL (smN (fun j => shD A (mtf A (A 358 3) j)) x i) + 0) fun y6 => K (y6, qN i + qN 1, μ)) ∧ (((qN x >>> (qN i &&& 31)) &&& 1) = 1 → vp_in (qN i) 12 ∧ Bd (qL (smN (fun j => shD A (mtf A (A 358 3) j)) x i) + gJ μ 167 (qN i).toNatClampNeg) fun y8 => K (y8, qN i + qN 1, μ))
    rw [bitq hx (by omega), qN_add, qN_nat (by omega), hg i (by omega), Bd_eq, Bd_eq, qL_add, show qL (smN (fun j => shD A (mtf A (A 358 3) j)) x i) + 0 = qL (smN (fun j => shD A (mtf A (A 358 3) j)) x i + 0) from qL_add _ 0]
    have t : qN (bt x i) = 1 ↔ bt x i = 1 := qN_eq (b := 1) (by omega) (by decide)
    rw [t]
    refine ⟨fun r => ?_, fun r => ⟨(qN_vp (by omega)).mpr (by omega), ?_⟩⟩
    · rw [show bt x i = 0 by omega, Nat.zero_mul] at hk
      exact hk
    · rw [r, Nat.one_mul] at hk
      exact hk
theorem c_drawn {A X : Nat → Nat → Nat} {W : List Int64} {μ : MM} {Q : Int32 → MM → Prop} (hV : Inv A X) (h : Cs A X W μ)
    (hy : mc A (A 358 3) ≠ 0 → ∀ μ', Cs A X (dW A) μ' → FC μ μ' → Q 0 μ') (hz : mc A (A 358 3) = 0 → ∀ μ', Cs A X W μ' → FC μ μ' → Q (-2) μ') : G11_drawn μ Q := by
  have hn3 : A 358 3 < 13 := hV.b 358 3 (by unfold dom; decide)
  have m3 := mc_le A (A 358 3)
  have SB : ∀ j, shD A (mtf A (A 358 3) j) ≤ 1853020188851841 := fun j => shD_b hV _
  have ld := LD_b hV (A 358 3)
  have zl := zD_le A (A 358 3)
  unfold G11_drawn G8_tellDrawn
  refine c_gatherNames hV h (fun μ1 h1 s1 hN h6 => ?_)
  have f1 : FC μ μ1 := FC_cS (s1.mo (fun k j q => show cS k j by unfold cS; omega))
  have m0 : qN (mc A (A 358 3)) = 0 ↔ mc A (A 358 3) = 0 := qN_eq (b := 0) (by omega) (by decide)
  rw [m0]
  refine ⟨fun q0 => ?_, fun q0 => hz q0 μ1 h1 f1⟩
  refine c_scale hV h1 hN h6 (fun μ2 h2 s2 hg => ?_)
  have f2 : FC μ1 μ2 := FC_cS (s2.mo (fun k j q => show cS k j by unfold cS; omega))
  have h6' : ∀ j, j < mc A (A 358 3) → gI μ2 166 j = qN (mtf A (A 358 3) j) := fun j hj => by rw [(s2.1 166 j (by omega)).1]; exact h6 j hj
  refine Lp.up (mc A (A 358 3)) (fun i (x : Int32 × Int32 × MM) => x = (qN (bnb (fun j => oneD A (mtf A (A 358 3) j)) i), qN i, μ2)) ?_ rfl
  rintro i K hi hK _ rfl
  have c1 : qN (mc A (A 358 3)) ≤ qN i ↔ mc A (A 358 3) ≤ i := qN_le (by omega) (by omega)
  refine ⟨fun q => ?_, fun q => ?_⟩
  · have e : i = mc A (A 358 3) := by have := c1.mp q; omega
    rw [e]
    refine bnb_c (by omega) ?_
    have bl := bnb_lt (fun j => oneD A (mtf A (A 358 3) j)) (mc A (A 358 3))
    have p12 : (2 : Nat) ^ mc A (A 358 3) ≤ 2 ^ 12 := Nat.pow_le_pow_right (by decide) (by omega)
    refine c_sum hV (by omega) (by omega) hg ?_
    rw [smN_bnb, cntc A (oneD A) (A 358 3) (Nat.le_refl _), show sm (fun j => if oneD A (mtf A (A 358 3) j) then shD A (mtf A (A 358 3) j) else 0) (mc A (A 358 3)) = LD A (A 358 3) from smc A (fun k => if oneD A k then shD A k else 0) (A 358 3) (Nat.le_refl _)]
    show Lp (G8_tellDrawn_L70 (qN (mc A (A 358 3))) (qN (zD A (A 358 3))) (qL (LD A (A 358 3))) Q) (0, 0, μ2)
    have RE : cnt (pdM (fun _ => true) (fun j => shD A (mtf A (A 358 3) j)) (LD A (A 358 3)) (mc A (A 358 3)) (zD A (A 358 3)) 0) (2 ^ mc A (A 358 3)) = RM (metl A) (shD A) (LD A (A 358 3)) (A 358 3) (zD A (A 358 3)) 0 := by
      rw [cntM]
      exact RM_met (s := shD A) (A 358 3) (fun k hk hm => by
        show shD A (mtf A (A 358 3) (cnt (metl A) k)) = shD A k
        rw [show cnt (metl A) k = mc A k from rfl, mtf_at A hk (of_decide_eq_true hm)]) _ _
    refine Lp.up (2 ^ mc A (A 358 3)) (fun t (x : Int64 × Int32 × MM) => x = (qL (cnt (pdM (fun _ => true) (fun j => shD A (mtf A (A 358 3) j)) (LD A (A 358 3)) (mc A (A 358 3)) (zD A (A 358 3)) 0) t), qN t, μ2)) ?_ rfl
    rintro t K2 ht hK2 _ rfl
    have c2 : (1 : Int32) <<< (qN (mc A (A 358 3)) &&& 31) ≤ qN t ↔ 2 ^ mc A (A 358 3) ≤ t := by
      rw [one_sh _ (by omega)]; exact qN_le (by omega) (by omega)
    have cl := cnt_le (pdM (fun _ => true) (fun j => shD A (mtf A (A 358 3) j)) (LD A (A 358 3)) (mc A (A 358 3)) (zD A (A 358 3)) 0) t
    refine ⟨fun q2 => ?_, fun q2 => ?_⟩
    · have e2 : t = 2 ^ mc A (A 358 3) := by have := c2.mp q2; omega
      rw [e2] at cl ⊢
      obtain ⟨b1, b2⟩ := bin_p (mc A (A 358 3)) (by omega) (zD A (A 358 3)) (by omega) zl
      refine c_rclear h2 (fun μ3 h3 s3 => c_choices (by omega) zl ?_)
      rw [RE] at cl ⊢
      rw [qL_J, qL_J]
      refine c_rfrac h3 (by simp) ⟨by omega, by omega⟩ b1 (by omega) (fun μ4 h4 s4 => ?_)
      exact hy q0 μ4 h4 (((f1.tr f2).tr (FC_row s3)).tr (FC_row s4))
    · rw [c2] at q2
      have hk2 : K2 (qL (cnt (pdM (fun _ => true) (fun j => shD A (mtf A (A 358 3) j)) (LD A (A 358 3)) (mc A (A 358 3)) (zD A (A 358 3)) 0) t + (okN (fun _ => true) t (mc A (A 358 3)) && decide (pcN t (mc A (A 358 3)) = zD A (A 358 3)) && decide (0 + smN (fun j => shD A (mtf A (A 358 3) j)) t (mc A (A 358 3)) ≤ LD A (A 358 3))).toNat), qN (t + 1), μ2) := hK2 (by omega) _ rfl
      rw [okN_t, Bool.true_and, Nat.zero_add] at hk2
      refine bitN (n := mc A (A 358 3)) (by omega) (by omega) ?_
      have pl : pcN t (mc A (A 358 3)) ≤ mc A (A 358 3) := by rw [pcN_cnt]; exact cnt_le _ _
      have t1 : qN (pcN t (mc A (A 358 3))) = qN (zD A (A 358 3)) ↔ pcN t (mc A (A 358 3)) = zD A (A 358 3) := qN_eq (by omega) (by omega)
      have sb := smN_b SB t (mc A (A 358 3))
      have ot : qN t + 1 = qN (t + 1) := qN_add t 1
      rw [t1, ot]
      refine ⟨fun r => ?_, fun r => c_sum hV (by omega) (by omega) hg ?_⟩
      · rw [decide_eq_false r, Bool.false_and] at hk2
        exact hk2
      · rw [lg_gt, qL_lt (by omega) (by omega), Bd_eq, show qL (cnt (pdM (fun _ => true) (fun j => shD A (mtf A (A 358 3) j)) (LD A (A 358 3)) (mc A (A 358 3)) (zD A (A 358 3)) 0) t) + 1 = _ from qL_add _ 1]
        rw [decide_eq_true r, Bool.true_and] at hk2
        refine ⟨fun r2 => ?_, fun r2 => ?_⟩
        · rw [decide_eq_false (by omega)] at hk2
          exact hk2
        · rw [decide_eq_true (by omega)] at hk2
          exact hk2
  · rw [c1] at q
    have hk := hK (by omega) _ rfl
    obtain ⟨a1, a2, a3⟩ := mtf_all A (A 358 3) i (by omega)
    have b5 : A 360 (mtf A (A 358 3) i) < 2 := hV.b 360 _ (by unfold dom; omega)
    have e6 : gI μ2 166 (qN i).toNatClampNeg = qN (mtf A (A 358 3) i) := by
      rw [qN_nat (by omega)]; exact h6' i (by omega)
    refine ⟨(qN_vp (by omega)).mpr (by omega), by rw [e6]; exact (qN_vp (by omega)).mpr (by omega), ?_⟩
    show Bd (qN (bnb (fun j => oneD A (mtf A (A 358 3) j)) i) ||| (gI μ2 2 (gI μ2 166 (qN i).toNatClampNeg).toNatClampNeg <<< (qN i &&& 31))) fun y43 => K (y43, qN i + qN 1, μ2)
    rw [e6, qN_nat (show mtf A (A 358 3) i < 2147483648 by omega), Ca_360 h2.1 (by omega), Bd_eq, qN_add]
    have hk' : K (qN (bnb (fun j => oneD A (mtf A (A 358 3) j)) i + (if oneD A (mtf A (A 358 3) i) then 2 ^ i else 0)), qN (i + 1), μ2) := hk
    by_cases r : A 360 (mtf A (A 358 3) i) = 1
    · rw [show oneD A (mtf A (A 358 3) i) = true from decide_eq_true r, if_pos rfl] at hk'
      rw [r, show (qN 1 : Int32) = 1 from rfl, bnb_or (by omega)]
      exact hk'
    · rw [show oneD A (mtf A (A 358 3) i) = false from decide_eq_false r, if_neg (by decide)] at hk'
      rw [show A 360 (mtf A (A 358 3) i) = 0 by omega, show (qN 0 : Int32) = 0 from rfl, zero_sh i (by omega), show qN (bnb (fun j => oneD A (mtf A (A 358 3) j)) i) ||| qN 0 = qN (bnb (fun j => oneD A (mtf A (A 358 3) j)) i) from Int32.or_zero]
      exact hk'
