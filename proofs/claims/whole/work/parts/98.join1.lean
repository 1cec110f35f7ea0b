/-! join: the class -/
def jc (A : Nat → Nat → Nat) (w v p : Nat) : Nat := tc A (sB A w v) p (A 358 12)
def jr (A : Nat → Nat → Nat) (w v p : Nat) : Nat := tr A (sB A w v) p (A 358 12)
def jT (A : Nat → Nat → Nat) (w v : Nat) : Nat := jc A w v 0 + jc A w v 1
def jM (A : Nat → Nat → Nat) (w v : Nat) : Bool := decide (0 < jT A w v)
def jL (A : Nat → Nat → Nat) (w n : Nat) : Nat := LC (jM A w) (jT A w) n
def ju (A : Nat → Nat → Nat) (w v : Nat) : Nat := jr A w v 0 * (jc A w v 1 - jr A w v 1)
def jl (A : Nat → Nat → Nat) (w v : Nat) : Nat := (jc A w v 0 - jr A w v 0) * jr A w v 1
def jS (A : Nat → Nat → Nat) (w : Nat) (f : Nat → Nat) (i : Nat) : Nat := sm (fun v => jL A w 10 / jT A w v * f v) i
theorem jr_le (A : Nat → Nat → Nat) (w v p : Nat) : jr A w v p ≤ jc A w v p := tr_le _ _ _ _
theorem jT_b {A X : Nat → Nat → Nat} (hV : Inv A X) (w v : Nat) : jT A w v < 97 := by
  have hn : A 358 12 < 97 := hV.b 358 12 (by unfold dom; decide)
  have := tc_sum A (sB A w v) (A 358 12)
  show tc A (sB A w v) 0 (A 358 12) + tc A (sB A w v) 1 (A 358 12) < 97
  omega
theorem ju_b (A : Nat → Nat → Nat) (w v : Nat) : ju A w v ≤ jT A w v * jT A w v := by
  have h0 := jr_le A w v 0
  exact Nat.mul_le_mul (by unfold jT; omega) (by unfold jT; omega)
theorem jl_b (A : Nat → Nat → Nat) (w v : Nat) : jl A w v ≤ jT A w v * jT A w v := by
  have h0 := jr_le A w v 1
  exact Nat.mul_le_mul (by unfold jT; omega) (by unfold jT; omega)
theorem sm_mn {f g : Nat → Nat} (h : ∀ v, f v ≤ g v) : ∀ n, sm f n ≤ sm g n
  | 0 => Nat.le_refl _
  | n + 1 => Nat.add_le_add (sm_mn h n) (h n)
theorem sB_sm (A : Nat → Nat → Nat) (w p N : Nat) : ∀ n, sm (fun v => tc A (sB A w v) 0 n + tc A (sB A w v) 1 n) N ≤ n
  | 0 => by
    have : sm (fun v => tc A (sB A w v) 0 0 + tc A (sB A w v) 1 0) N = 0 := sm_0 N (fun _ _ => rfl)
    omega
  | n + 1 => by
    have ih := sB_sm A w p N n
    have e : sm (fun v => tc A (sB A w v) 0 (n + 1) + tc A (sB A w v) 1 (n + 1)) N ≤ sm (fun v => (tc A (sB A w v) 0 n + tc A (sB A w v) 1 n) + (if True ∧ byW A w n = v then 1 else 0)) N := by
      refine sm_mn (fun v => ?_) N
      rw [tc_s, tc_s]
      by_cases q : sB A w v n = true
      · have : byW A w n = v := of_decide_eq_true (Bool.and_eq_true_iff.mp q).2
        rw [if_pos (show True ∧ byW A w n = v from ⟨trivial, this⟩)]
        by_cases z : zp A n = 0
        · rw [if_pos ⟨q, z⟩, if_neg (fun r => by omega)]; omega
        · rw [if_neg (fun r => z r.2)]
          split <;> omega
      · rw [if_neg (fun r => q r.1), if_neg (fun r => q r.1)]; omega
    have e' := Nat.le_trans e (Nat.le_of_eq (sm_add (fun v => tc A (sB A w v) 0 n + tc A (sB A w v) 1 n) (fun v => if True ∧ byW A w n = v then 1 else 0) N))
    have := (sm_1 True (byW A w n) N).1
    omega
theorem jL_b {A X : Nat → Nat → Nat} (hV : Inv A X) (w n : Nat) : jL A w n ≤ 1853020188851841 := by
  have hn : A 358 12 < 97 := hV.b 358 12 (by unfold dom; decide)
  exact LC_b (jT_b hV w) (by have := sB_sm A w 0 n (A 358 12); show sm (fun v => tc A (sB A w v) 0 (A 358 12) + tc A (sB A w v) 1 (A 358 12)) n ≤ 96; omega)
theorem jL_p (A : Nat → Nat → Nat) (w n : Nat) : 0 < jL A w n := LC_pos n (fun k _ q => of_decide_eq_true q)
theorem jS_b {A X : Nat → Nat → Nat} (hV : Inv A X) (w : Nat) {f : Nat → Nat} (hf : ∀ v, f v ≤ jT A w v * jT A w v) : ∀ i, jS A w f i ≤ i * 179742958318628577 := sm_le (fun v => by
  have lb := jL_b hV w 10
  have tb := jT_b hV w v
  have h1 := Nat.mul_le_mul_left (jL A w 10 / jT A w v) (hf v)
  rw [← Nat.mul_assoc] at h1
  have h2 : jL A w 10 / jT A w v * jT A w v ≤ jL A w 10 := Nat.div_mul_le_self _ _
  have h3 := Nat.mul_le_mul h2 (show jT A w v ≤ 97 by omega)
  omega)
theorem c_joinW {A X : Nat → Nat → Nat} {W : List Int64} {μ : MM} {w : Nat} {Q : Int32 → MM → Prop} (hV : Inv A X) (h : Cs A X W μ) (hw : w < 4)
    (hy : jS A w (jl A w) 10 ≠ 0 → ∀ μ', Cs A X ([] ++ frc ((jS A w (ju A w) 10 : Nat) : Int) (jS A w (jl A w) 10)) μ' → FC μ μ' → Q 0 μ') (hz : jS A w (jl A w) 10 = 0 → ∀ μ', Cs A X W μ' → FC μ μ' → Q (-2) μ') : G2_tellJoined_J30 (qN w) μ Q := by
  have TB := jT_b hV w
  have LB := jL_b hV w
  have LP := jL_p A w
  unfold G2_tellJoined_J30
  refine c_gatherBy hV h hw (fun μ1 h1 s1 _ hT => ?_)
  have f1 : FC μ μ1 := FC_cS (s1.mo (fun k j q => show cS k j by unfold cS; omega))
  have g1 : ∀ v, v < 10 → ∀ p, p < 2 → gI μ1 (207 + 3 * v + 1) p = qN (jc A w v p) ∧ gI μ1 (207 + 3 * v + 2) p = qN (jr A w v p) := fun v hv p hp => hT v hv p hp
  have t10 : ∀ v, v < 11 → ((10 : Int32) ≤ qN v ↔ 10 ≤ v) := fun v hv => qN_le (a := 10) (by decide) (by omega)
  have z5 : ∀ v, qN (jT A w v) ≤ 0 ↔ jT A w v ≤ 0 := fun v => qN_le (b := 0) (by have := TB v; omega) (by decide)
  refine Lp.up 10 (fun v (x : Int64 × Int32 × MM) => x = (qL (jL A w v), qN v, μ1)) ?_ rfl
  rintro v K hv hK _ rfl
  have ov : qN v + 1 = qN (v + 1) := qN_add v 1
  refine ⟨fun q => ?_, fun q => ?_⟩
  · have e : v = 10 := by have := (t10 v (by omega)).mp q; omega
    subst e
    refine Lp.up 10 (fun v (x : Int64 × Int64 × Int32 × MM) => x = (qL (jS A w (ju A w) v), qL (jS A w (jl A w) v), qN v, μ1)) ?_ rfl
    rintro v K2 hv hK2 _ rfl
    have ov : qN v + 1 = qN (v + 1) := qN_add v 1
    refine ⟨fun q => ?_, fun q => ?_⟩
    · have e : v = 10 := by have := (t10 v (by omega)).mp q; omega
      subst e
      have b1 := jS_b hV w (ju_b A w) 10
      have b2 := jS_b hV w (jl_b A w) 10
      have z : lg_cmp (qL (jS A w (jl A w) 10)) 0 = 0 ↔ jS A w (jl A w) 10 = 0 := by rw [lg_0, qL_0 (by omega)]
      refine ⟨fun r => ?_, fun r => hz (z.mp r) μ1 h1 f1⟩
      have r' : jS A w (jl A w) 10 ≠ 0 := fun s => r (z.mpr s)
      refine c_rclear h1 (fun μ3 h3 s3 => ?_)
      show G7_addFraction (qL (jS A w (ju A w) 10)) (qL (jS A w (jl A w) 10)) μ3 (fun μ29 => Q 0 μ29)
      rw [qL_J, qL_J]
      refine c_rfrac h3 (by simp) ⟨by omega, by omega⟩ (by omega) (by omega) (fun μ4 h4 s4 => ?_)
      exact hy r' μ4 h4 ((f1.tr (FC_row s3)).tr (FC_row s4))
    · have hl : v < 10 := by
        rcases Nat.lt_or_ge v 10 with s | s
        · exact s
        · exact absurd ((t10 v (by omega)).mpr s) q
      have hk2 : K2 (qL (jS A w (ju A w) v + jL A w 10 / jT A w v * ju A w v), qL (jS A w (jl A w) v + jL A w 10 / jT A w v * jl A w v), qN (v + 1), μ1) := hK2 hl _ rfl
      have vi : (qN v).toNatClampNeg = v := qN_nat (by omega)
      have tb := TB v
      have r0 := jr_le A w v 0
      have r1 := jr_le A w v 1
      have lb := LB 10
      have te : jT A w v = jc A w v 0 + jc A w v 1 := rfl
      have j125 : ∀ u : Nat, u = jL A w 10 / jT A w v → G2_tellJoined_J125 (qL (jL A w 10)) (qL (jS A w (ju A w) v)) (qL (jS A w (jl A w) v)) (qN v) (207 + 3 * v) (qL u) μ1 K2 Q := fun u hu => by
        unfold G2_tellJoined_J125
        rw [(g1 v hl 0 (by decide)).2, (g1 v hl 1 (by decide)).2, (g1 v hl 1 (by decide)).1, (g1 v hl 0 (by decide)).1, qN_sub r1, qN_sub r0, qN_6 (by omega), qN_6 (by omega), qN_6 (by omega), qN_6 (by omega), qL_mul, qL_mul, qL_mul, qL_mul, qL_add, qL_add, Bd_eq, Bd_eq, ov, hu, Nat.mul_assoc, Nat.mul_assoc]
        exact hk2
      refine ⟨(qN_vp (by omega)).mpr hl, ?_⟩
      show G9_all (207 + 3 * (qN v).toNatClampNeg) μ1 (fun r32 μ31 => ((r32 ≤ 0 → G2_tellJoined_J125 (qL (jL A w 10)) (qL (jS A w (ju A w) v)) (qL (jS A w (jl A w) v)) (qN v) (207 + 3 * (qN v).toNatClampNeg) 0 μ31 K2 Q) ∧ (¬ (r32 ≤ 0) → G9_all (207 + 3 * (qN v).toNatClampNeg) μ31 (fun r37 μ36 => ¬ (r37.toInt64) = 0 ∧ G2_tellJoined_J125 (qL (jL A w 10)) (qL (jS A w (ju A w) v)) (qL (jS A w (jl A w) v)) (qN v) (207 + 3 * (qN v).toNatClampNeg) (qL (jL A w 10) / (r37.toInt64)) μ36 K2 Q))))
      have g9 : ∀ Q' : Int32 → MM → Prop, Q' (qN (jT A w v)) μ1 → G9_all (207 + 3 * v) μ1 Q' := fun Q' hq => by
        unfold G9_all
        rw [(g1 v hl 0 (by decide)).1, (g1 v hl 1 (by decide)).1, qN_add]
        exact hq
      rw [vi]
      refine g9 _ ⟨fun r => j125 0 ?_, fun r => g9 _ ⟨?_, ?_⟩⟩
      all_goals rw [z5] at r
      · rw [show jT A w v = 0 by omega, Nat.div_zero]
      · rw [qN_6 (by omega), qL_0 (by omega)]; omega
      · rw [qN_6 (by omega), qL_div (by omega) (by omega)]
        exact j125 _ rfl
  · have hl : v < 10 := by
      rcases Nat.lt_or_ge v 10 with s | s
      · exact s
      · exact absurd ((t10 v (by omega)).mpr s) q
    have hk : K (qL (if jM A w v then lcq (jL A w v) (jT A w v) else jL A w v), qN (v + 1), μ1) := hK hl _ rfl
    have vi : (qN v).toNatClampNeg = v := qN_nat (by omega)
    have tb := TB v
    have lb := LB v
    have lp := LP v
    have te : jT A w v = jc A w v 0 + jc A w v 1 := rfl
    refine ⟨(qN_vp (by omega)).mpr hl, ?_⟩
    show G9_all (207 + 3 * (qN v).toNatClampNeg) μ1 (fun r41 μ40 => ((r41 ≤ 0 → K (qL (jL A w v), qN v + 1, μ40)) ∧ (¬ (r41 ≤ 0) → G11_leastMultiple (qL (jL A w v)) (r41.toInt64) μ40 (fun r44 μ43 => K (r44, qN v + 1, μ43)))))
    have g9 : ∀ Q' : Int32 → MM → Prop, Q' (qN (jT A w v)) μ1 → G9_all (207 + 3 * v) μ1 Q' := fun Q' hq => by
      unfold G9_all
      rw [(g1 v hl 0 (by decide)).1, (g1 v hl 1 (by decide)).1, qN_add]
      exact hq
    rw [vi, ov]
    refine g9 _ ⟨fun r => ?_, fun r => ?_⟩
    all_goals rw [z5] at r
    · rw [show jM A w v = false from decide_eq_false (by omega)] at hk
      exact hk
    · rw [show jM A w v = true from decide_eq_true (by omega)] at hk
      rw [qN_6 (by omega)]
      exact c_lcm (by omega) (by omega) (by omega) hk
