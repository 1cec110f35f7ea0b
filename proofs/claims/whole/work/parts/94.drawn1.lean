/-! drawn: the class -/
def nlA (A : Nat → Nat → Nat) (k : Nat) : Nat := nl A k (A 358 12)
def lcD (A : Nat → Nat → Nat) (n : Nat) : Nat := LC (metl A) (nlA A) n
def shD (A : Nat → Nat → Nat) (k : Nat) : Nat := nr A k (A 358 12) * (lcD A (A 358 3) / nlA A k)
theorem mc_met (A : Nat → Nat → Nat) (k : Nat) : mc A k = cnt (metl A) k := rfl
theorem nlA_b {A X : Nat → Nat → Nat} (hV : Inv A X) (k : Nat) : nlA A k < 97 := by
  have hn : A 358 12 < 97 := hV.b 358 12 (by unfold dom; decide)
  have := nl_le A k (A 358 12)
  unfold nlA
  omega
theorem lcD_b {A X : Nat → Nat → Nat} (hV : Inv A X) (n : Nat) : lcD A n ≤ 1853020188851841 := by
  have hn : A 358 12 < 97 := hV.b 358 12 (by unfold dom; decide)
  exact LC_b (nlA_b hV) (by have := nl_sm A n (A 358 12); show sm (fun k => nl A k (A 358 12)) n ≤ 96; omega)
theorem lcD_p (A : Nat → Nat → Nat) (n : Nat) : 0 < lcD A n := LC_pos n (fun k _ q => of_decide_eq_true q)
theorem shD_b {A X : Nat → Nat → Nat} (hV : Inv A X) (k : Nat) : shD A k ≤ 1853020188851841 := by
  have h1 := lcD_b hV (A 358 3)
  have h2 : nr A k (A 358 12) ≤ nlA A k := nr_le A k (A 358 12)
  unfold shD
  have h3 := Nat.mul_le_mul_right (lcD A (A 358 3) / nlA A k) h2
  have h4 := Nat.mul_div_le (lcD A (A 358 3)) (nlA A k)
  omega
/-- the number of a name among the met ones, all told by a name's number -/
theorem mtf_all (A : Nat → Nat → Nat) : ∀ n j, j < mc A n → mtf A n j < n ∧ metl A (mtf A n j) = true ∧ mc A (mtf A n j) = j
  | 0, j, h => absurd h (by show ¬ j < 0; omega)
  | n + 1, j, h => by
    rw [mc_s] at h
    show (if 0 < nl A n (A 358 12) then (fun j => if j = mc A n then n else mtf A n j) else mtf A n) j < n + 1 ∧ metl A ((if 0 < nl A n (A 358 12) then (fun j => if j = mc A n then n else mtf A n j) else mtf A n) j) = true ∧ mc A ((if 0 < nl A n (A 358 12) then (fun j => if j = mc A n then n else mtf A n j) else mtf A n) j) = j
    by_cases q : 0 < nl A n (A 358 12)
    · rw [if_pos q] at h ⊢
      by_cases r : j = mc A n
      · show (if j = mc A n then n else mtf A n j) < n + 1 ∧ metl A (if j = mc A n then n else mtf A n j) = true ∧ mc A (if j = mc A n then n else mtf A n j) = j
        rw [if_pos r]
        exact ⟨Nat.lt_succ_self n, decide_eq_true q, r.symm⟩
      · show (if j = mc A n then n else mtf A n j) < n + 1 ∧ metl A (if j = mc A n then n else mtf A n j) = true ∧ mc A (if j = mc A n then n else mtf A n j) = j
        rw [if_neg r]
        obtain ⟨a, b, c⟩ := mtf_all A n j (by omega)
        exact ⟨by omega, b, c⟩
    · rw [if_neg q] at h ⊢
      obtain ⟨a, b, c⟩ := mtf_all A n j (by omega)
      exact ⟨by omega, b, c⟩
def LCc (A : Nat → Nat → Nat) : Nat → Nat
  | 0 => 1
  | j + 1 => lcq (LCc A j) (nlA A (mtf A (A 358 3) j))
theorem LCc_e (A : Nat → Nat → Nat) : ∀ n, n ≤ A 358 3 → LCc A (mc A n) = lcD A n
  | 0, _ => rfl
  | n + 1, h => by
    have ih := LCc_e A n (by omega)
    show _ = if metl A n then lcq (LC (metl A) (nlA A) n) (nlA A n) else LC (metl A) (nlA A) n
    rw [mc_s]
    by_cases q : 0 < nl A n (A 358 12)
    · have hm : metl A n = true := decide_eq_true q
      rw [if_pos q, hm, if_pos rfl]
      show lcq (LCc A (mc A n)) (nlA A (mtf A (A 358 3) (mc A n))) = _
      rw [ih, mtf_at A (by omega) q]; rfl
    · have hm : metl A n = false := decide_eq_false q
      rw [if_neg q, hm]
      exact ih
theorem LCc_j (A : Nat → Nat → Nat) : ∀ j, j ≤ mc A (A 358 3) → ∃ n, n ≤ A 358 3 ∧ LCc A j = lcD A n := fun j hj => by
  rcases Nat.lt_or_ge j (mc A (A 358 3)) with q | q
  · obtain ⟨a, b, c⟩ := mtf_all A (A 358 3) j q
    exact ⟨_, Nat.le_of_lt a, by rw [← LCc_e A _ (Nat.le_of_lt a), c]⟩
  · have e : j = mc A (A 358 3) := by omega
    exact ⟨A 358 3, Nat.le_refl _, by rw [e]; exact LCc_e A _ (Nat.le_refl _)⟩
theorem c_scale {A X : Nat → Nat → Nat} {W : List Int64} {μ : MM} {Q : MM → Prop} (hV : Inv A X) (h : Cs A X W μ) (hN : Nl μ 164 165 A (A 358 12)) (h6 : ∀ j, j < mc A (A 358 3) → gI μ 166 j = qN (mtf A (A 358 3) j))
    (hQ : ∀ μ', Cs A X W μ' → Sm (fun k _ => k = 167) μ μ' → (∀ j, j < mc A (A 358 3) → gJ μ' 167 j = qL (shD A (mtf A (A 358 3) j))) → Q μ') : G8_scaleShares (qN (mc A (A 358 3))) μ Q := by
  have hn : A 358 12 < 97 := hV.b 358 12 (by unfold dom; decide)
  have hn3 : A 358 3 < 13 := hV.b 358 3 (by unfold dom; decide)
  have m3 := mc_le A (A 358 3)
  have MA := mtf_all A (A 358 3)
  have LJ := LCc_j A
  have LE := LCc_e A (A 358 3) (Nat.le_refl _)
  have LB := lcD_b hV
  have LP := lcD_p A
  have NB := nlA_b hV
  refine Lp.up (mc A (A 358 3)) (fun j (x : Int64 × Int32 × MM) => x = (qL (LCc A j), qN j, μ)) ?_ rfl
  rintro j K hj hK _ rfl
  have c1 : qN (mc A (A 358 3)) ≤ qN j ↔ mc A (A 358 3) ≤ j := qN_le (by omega) (by omega)
  refine ⟨fun q => ?_, fun q => ?_⟩
  · rw [c1] at q
    have e : j = mc A (A 358 3) := by omega
    rw [e, LE]
    refine Lp.up (mc A (A 358 3)) (fun i (x : Int32 × MM) => x.1 = qN i ∧ Cs A X W x.2 ∧ Sm (fun k _ => k = 167) μ x.2 ∧ ∀ j, j < i → gJ x.2 167 j = qL (shD A (mtf A (A 358 3) j))) ?_ ⟨rfl, h, Sm.rfl', fun j hj => absurd hj (by omega)⟩
    rintro i K2 hi hK2 ⟨x1, ν⟩ ⟨rfl, hC, hs, hg⟩
    have c2 : qN (mc A (A 358 3)) ≤ qN i ↔ mc A (A 358 3) ≤ i := qN_le (by omega) (by omega)
    refine ⟨fun q => ?_, fun q => ?_⟩
    · rw [c2] at q
      have e : i = mc A (A 358 3) := by omega
      subst e
      exact hQ ν hC hs hg
    · rw [c2] at q
      have hk2 := hK2 (by omega)
      obtain ⟨a1, a2, a3⟩ := MA i (by omega)
      have e6 : gI ν 166 (qN i).toNatClampNeg = qN (mtf A (A 358 3) i) := by
        rw [qN_nat (by omega), (hs.1 166 i (by omega)).1]; exact h6 i (by omega)
      have nb := NB (mtf A (A 358 3) i)
      have np : 0 < nlA A (mtf A (A 358 3) i) := of_decide_eq_true a2
      have rb := nr_le A (mtf A (A 358 3) i) (A 358 12)
      have nn := nl_le A (mtf A (A 358 3) i) (A 358 12)
      have lb := LB (A 358 3)
      have e4 : gI ν 164 (mtf A (A 358 3) i) = qN (nlA A (mtf A (A 358 3) i)) := by
        rw [(hs.1 164 _ (by omega)).1]; exact (hN _ (by omega)).1
      have e5 : gI ν 165 (mtf A (A 358 3) i) = qN (nr A (mtf A (A 358 3) i) (A 358 12)) := by
        rw [(hs.1 165 _ (by omega)).1]; exact (hN _ (by omega)).2
      have vp : vp_in (qN i) 12 := (qN_vp (by omega)).mpr (by omega)
      have vq : vp_in (gI ν 166 (qN i).toNatClampNeg) 12 := by rw [e6]; exact (qN_vp (by omega)).mpr (by omega)
      refine ⟨vp, vq, ?_⟩
      rw [Bd_eq, e6, qN_nat (show mtf A (A 358 3) i < 2147483648 by omega), e4]
      refine ⟨fun r => absurd ((qN_le (b := 0) (by omega) (by decide)).mp r) (by omega), fun _ => ⟨vp, ?_, ?_, vp, ?_⟩⟩
      · exact (qN_vp (by omega)).mpr (by omega)
      · rw [qN_6 (by omega), qL_0 (by omega)]; omega
      · rw [Bd_eq, e5, qN_6 (by omega), qN_6 (by omega), qL_div (by omega) (by omega), qL_mul, qN_nat (by omega)]
        have s1 : Sm cS ν (sJ ν 167 i (qL (shD A (mtf A (A 358 3) i)))) := Sm.rfl'.wJ _ (k := 167) (j := i) (by unfold cS; omega)
        have s2 : Sm (fun k _ => k = 167) μ (sJ ν 167 i (qL (shD A (mtf A (A 358 3) i)))) := hs.wJ _ (k := 167) (j := i) rfl
        show K2 (qN i + qN 1, _)
        rw [qN_add]
        refine hk2 _ ⟨rfl, hC.sm s1, s2, fun j hj => ?_⟩
        show gJ (sJ ν 167 i (qL (shD A (mtf A (A 358 3) i)))) 167 j = _
        rw [gJ_J]
        by_cases r : j = i
        · subst r; rw [if_pos ⟨rfl, rfl⟩]
        · rw [if_neg (fun w => r w.2)]; exact hg j (by omega)
  · rw [c1] at q
    have hk := hK (by omega)
    obtain ⟨a1, a2, a3⟩ := MA j (by omega)
    have nb := NB (mtf A (A 358 3) j)
    have e6 : gI μ 166 (qN j).toNatClampNeg = qN (mtf A (A 358 3) j) := by
      rw [qN_nat (by omega)]; exact h6 j (by omega)
    have e4 : gI μ 164 (mtf A (A 358 3) j) = qN (nlA A (mtf A (A 358 3) j)) := (hN _ (by omega)).1
    obtain ⟨n, n1, n2⟩ := LJ j hj
    have lb := LB n
    have lp := LP n
    refine ⟨(qN_vp (by omega)).mpr (by omega), by rw [e6]; exact (qN_vp (by omega)).mpr (by omega), ?_⟩
    show G11_leastMultiple (qL (LCc A j)) (gI μ 164 (gI μ 166 (qN j).toNatClampNeg).toNatClampNeg).toInt64 μ (fun r31 μ30 => K (r31, qN j + qN 1, μ30))
    rw [e6, qN_nat (show mtf A (A 358 3) j < 2147483648 by omega), e4, qN_6 (by omega)]
    refine c_lcm (by omega) (by omega) (by omega) ?_
    rw [qN_add]
    exact hk _ rfl
