/-! join, told -/
theorem pw97 : ∀ v, v < 6 → 97 ^ v ≤ 8587340257 := by decide
theorem pw974 : ∀ v, v < 5 → 97 ^ v ≤ 88529281 := by decide
theorem m_step {A X : Nat → Nat → Nat} {μ : MM} {w : Nat} {f : Nat → Nat} (hV : Inv A X) (hf : ∀ v, f v ≤ jT A w v * jT A w v) {n d v : Nat} (hv : v < 4) (h : Fr A w f n d v) (hz : 0 < jT A w v) (h1 : gJ μ 358 59 = qL n) (h2 : gJ μ 358 60 = qL d) {Q : MM → Prop}
    (hQ : ∀ μ', Sm (fun k j => k = 358 ∧ (j = 59 ∨ j = 60)) μ μ' → (∃ n' d', Fr A w f n' d' (v + 1) ∧ gJ μ' 358 59 = qL n' ∧ gJ μ' 358 60 = qL d') → Q μ') : G12_sums (qL (f v)) (qL (jT A w v)) μ Q := by
  obtain ⟨b1, b2, b3, _⟩ := Fr_b hV hf h hz
  have fy := Fr_yes hV hf h hz (by omega)
  obtain ⟨a, b, c, e⟩ := h
  have tb := jT_b hV w v
  have fv := hf v
  have p1 := pw97 (v + 1) (by omega)
  have p2 := pw97 v (by omega)
  have q1 : n ≤ 388 * 8587340257 := Nat.le_trans c (Nat.mul_le_mul (by omega) (by omega))
  have q2 : sN1 n d (f v) (jT A w v) ≤ 485 * 8587340257 := Nat.le_trans b2 (Nat.mul_le_mul (by omega) (by omega))
  have q3 : f v ≤ 97 * 97 := Nat.le_trans fv (Nat.mul_le_mul (by omega) (by omega))
  refine m_sums a hz (by omega) (by omega) (show sN1 n d (f v) (jT A w v) < _ by omega) (by omega) (by omega) (by omega) h1 h2 (fun μ' s x y => hQ μ' s ⟨_, _, fy, x, y⟩)
theorem jT_4 {A X : Nat → Nat → Nat} (hV : Inv A X) {w v : Nat} (hw : w < 3) (hv : 4 ≤ v) : jT A w v = 0 := by
  have hn : A 358 12 < 97 := hV.b 358 12 (by unfold dom; decide)
  have z : ∀ i, i < A 358 12 → sB A w v i = false := fun i hi => by
    have b0 : A 367 i < 24 := hV.b 367 i (by unfold dom; omega)
    have b1 : A 371 i < 4 := hV.b 371 i (by unfold dom; omega)
    have b2 : A 364 (A 367 i) < 4 := hV.b 364 _ (by unfold dom; omega)
    have b3 : A 365 (A 367 i) < 4 := hV.b 365 _ (by unfold dom; omega)
    have : byW A w i < 4 := by
      unfold byW
      split
      · exact b1
      · split
        · exact b2
        · split
          · exact b3
          · omega
    unfold sB
    rw [decide_eq_false (show ¬ byW A w i = v by omega), Bool.and_false]
  have y : ∀ p, tc A (sB A w v) p (A 358 12) = 0 := fun p => cnt_zero _ (fun i hi => by rw [z i hi]; rfl)
  show tc A (sB A w v) 0 (A 358 12) + tc A (sB A w v) 1 (A 358 12) = 0
  rw [y, y]
theorem jS_4 {A X : Nat → Nat → Nat} (hV : Inv A X) {w : Nat} (hw : w < 3) (f : Nat → Nat) : jS A w f 10 = jS A w f 4 := by
  have t : ∀ v, 4 ≤ v → jS A w f (v + 1) = jS A w f v := fun v hv => by
    show jS A w f v + jL A w 10 / jT A w v * f v = _
    rw [jT_4 hV hw hv, Nat.div_zero, Nat.zero_mul, Nat.add_zero]
  rw [t 9 (by decide), t 8 (by decide), t 7 (by decide), t 6 (by decide), t 5 (by decide), t 4 (by decide)]
theorem m_joinW {A X : Nat → Nat → Nat} {W : List Int64} {μ : MM} {w : Nat} {Q : Int32 → MM → Prop} (hV : Inv A X) (h : Ms A X W μ) (hw : w < 3)
    (hy : jS A w (jl A w) 10 ≠ 0 → ∀ μ', Ms A X ([] ++ frc ((jS A w (ju A w) 10 : Nat) : Int) (jS A w (jl A w) 10)) μ' → FM μ μ' → Q 0 μ') (hz : jS A w (jl A w) 10 = 0 → ∀ μ', Ms A X W μ' → FM μ μ' → Q (-2) μ') : Bd (sJ μ 358 59 0) fun μ26 => Bd (sJ μ26 358 60 1) fun μ27 => Lp (G12_join_L50 (qN w) Q) (0, μ27) := by
  have TB := jT_b hV w
  have M3 := mn378 hV
  rw [Bd_eq, Bd_eq]
  have sj : ∀ ν : MM, ∀ x y : Int64, Sm mS ν (sJ (sJ ν 358 59 x) 358 60 y) := fun ν x y => (Sm.rfl'.wJ _ (k := 358) (j := 59) (by unfold mS; omega)).wJ _ (k := 358) (j := 60) (by unfold mS; omega)
  have s5 : ∀ ν ν' : MM, Sm (fun k j => k = 358 ∧ (j = 59 ∨ j = 60)) ν ν' → Sm mS ν ν' := fun ν ν' s => s.mo (fun k j q => by unfold mS; omega)
  have s3 : ∀ ν ν' : MM, Sm (fun k _ => k = 381 ∨ k = 382) ν ν' → Sm mS ν ν' := fun ν ν' s => s.mo (fun k j q => by unfold mS; omega)
  have t4 : ∀ v, v < 5 → ((4 : Int32) ≤ qN v ↔ 4 ≤ v) := fun v hv => qN_le (a := 4) (by decide) (by omega)
  have z5 : ∀ v, qN (jT A w v) ≤ 0 ↔ jT A w v ≤ 0 := fun v => qN_le (b := 0) (by have := TB v; omega) (by decide)
  have R0 := jr_le A w
  refine Lp.up 4 (fun v (x : Int32 × MM) => x.1 = qN v ∧ Ms A X W x.2 ∧ FM μ x.2 ∧ ∃ n d, Fr A w (jl A w) n d v ∧ gJ x.2 358 59 = qL n ∧ gJ x.2 358 60 = qL d) ?_ ⟨rfl, h.sm M3 (sj μ 0 1), FM_mS (sj μ 0 1), 0, 1, Fr_0 A w _, rfl, rfl⟩
  rintro v K hv hK ⟨x1, ν⟩ ⟨rfl, hC, hF, n1, d1, fr1, g1, g2⟩
  have ov : qN v + 1 = qN (v + 1) := qN_add v 1
  refine ⟨fun q => ?_, fun q => ?_⟩
  · have e : v = 4 := by have := (t4 v (by omega)).mp q; omega
    subst e
    obtain ⟨a1, a2, a3, a4⟩ := fr1
    have p1 := pw974 4 (by decide)
    have b1 : n1 ≤ 388 * 88529281 := Nat.le_trans a3 (Nat.mul_le_mul (by omega) (by omega))
    have lp := jL_p A w 10
    rw [← jS_4 hV hw] at a4
    have zn : n1 = 0 ↔ jS A w (jl A w) 10 = 0 := by
      constructor
      · intro r
        rw [r, Nat.zero_mul] at a4
        rcases Nat.mul_eq_zero.mp a4.symm with s | s
        · exact s
        · omega
      · intro r
        rw [r, Nat.zero_mul] at a4
        rcases Nat.mul_eq_zero.mp a4 with s | s
        · exact s
        · omega
    show Bd (gJ ν 358 59) fun y29 => Bd (gJ ν 358 60) fun y30 => ((¬ (lg_cmp y29 0) = 0 → Bd (sJ ν 358 59 0) fun μ32 => Bd (sJ μ32 358 60 1) fun μ33 => Lp (G12_join_L156 (qN w) y29 y30 Q) (0, μ33)) ∧ ((lg_cmp y29 0) = 0 → Q (-2) ν))
    rw [Bd_eq, Bd_eq, g1, g2, lg_0, qL_0 (by omega)]
    refine ⟨fun r => ?_, fun r => hz (zn.mp r) ν hC hF⟩
    have r' : jS A w (jl A w) 10 ≠ 0 := fun s => r (zn.mpr s)
    rw [Bd_eq, Bd_eq]
    refine Lp.up 4 (fun v (x : Int32 × MM) => x.1 = qN v ∧ Ms A X W x.2 ∧ FM μ x.2 ∧ ∃ n d, Fr A w (ju A w) n d v ∧ gJ x.2 358 59 = qL n ∧ gJ x.2 358 60 = qL d) ?_ ⟨rfl, hC.sm M3 (sj ν 0 1), hF.tr (FM_mS (sj ν 0 1)), 0, 1, Fr_0 A w _, rfl, rfl⟩
    clear hK K q hv ov
    rintro v K hv hK ⟨x1, ω⟩ ⟨rfl, hC2, hF2, n2, d2, fr2, g3, g4⟩
    have ov : qN v + 1 = qN (v + 1) := qN_add v 1
    refine ⟨fun q => ?_, fun q => ?_⟩
    · have e : v = 4 := by have := (t4 v (by omega)).mp q; omega
      subst e
      obtain ⟨c1, c2, c3, c4⟩ := fr2
      have b2 : n2 ≤ 388 * 88529281 := Nat.le_trans c3 (Nat.mul_le_mul (by omega) (by omega))
      rw [← jS_4 hV hw] at c4
      refine m_rclear hC2 (fun μ3 h3 s6 => ?_)
      have u1 : gJ μ3 358 59 = qL n2 := by rw [(s6.1 358 59 (by omega)).2]; exact g3
      have u2 : gJ μ3 358 60 = qL d2 := by rw [(s6.1 358 60 (by omega)).2]; exact g4
      show G12_entersFraction (gJ μ3 358 59 * qL d1) (gJ μ3 358 60 * qL n1) μ3 (fun μ36 => Q 0 μ36)
      have m1 : n2 * d1 ≤ 388 * 88529281 * 88529281 := Nat.mul_le_mul b2 (by omega)
      have m2 : d2 * n1 ≤ 88529281 * (388 * 88529281) := Nat.mul_le_mul (by omega) b1
      have m3 : 0 < d2 * n1 := Nat.mul_pos c1 (by omega)
      rw [u1, u2, qL_mul, qL_mul, qL_J, qL_J]
      refine m_rfrac h3 (by simp) ⟨by omega, by omega⟩ m3 (by omega) (fun μ4 h4 s7 => ?_)
      have key : frc ((n2 * d1 : Nat) : Int) (d2 * n1) = frc ((jS A w (ju A w) 10 : Nat) : Int) (jS A w (jl A w) 10) := frc_u m3 (by omega) (by
        refine Nat.eq_of_mul_eq_mul_left lp ?_
        revert a4 c4
        generalize jL A w 10 = D
        generalize jS A w (ju A w) 10 = U
        generalize jS A w (jl A w) 10 = L
        intro a4 c4
        calc D * (n2 * d1 * L) = (n2 * D) * (L * d1) := by ac_rfl
          _ = (U * d2) * (n1 * D) := by rw [c4, a4]
          _ = D * (U * (d2 * n1)) := by ac_rfl)
      rw [key] at h4
      exact hy r' μ4 h4 ((hF2.tr (FM_row s6)).tr (FM_row s7))
    · have hl : v < 4 := by
        rcases Nat.lt_or_ge v 4 with s | s
        · exact s
        · exact absurd ((t4 v (by omega)).mpr s) q
      have hk := hK hl
      have tb := TB v
      have te : jT A w v = jc A w v 0 + jc A w v 1 := rfl
      have r0 := R0 v 0
      have r1 := R0 v 1
      refine m_countsBy hV hC2 (by omega) (by omega) (fun μ3 h3 s6 hT => ?_)
      have u1 : gJ μ3 358 59 = qL n2 := by rw [(s6.1 358 59 (by omega)).2]; exact g3
      have u2 : gJ μ3 358 60 = qL d2 := by rw [(s6.1 358 60 (by omega)).2]; exact g4
      have k0 : gI μ3 381 0 = qN (jc A w v 0) ∧ gI μ3 382 0 = qN (jr A w v 0) := hT 0 (by decide)
      have k1 : gI μ3 381 1 = qN (jc A w v 1) ∧ gI μ3 382 1 = qN (jr A w v 1) := hT 1 (by decide)
      rw [k0.1, k0.2, k1.1, k1.2, qN_add, ← te, z5, qN_sub r1, qN_6 (by omega), qN_6 (by omega), qN_6 (by omega), qL_mul]
      refine ⟨fun r => ?_, fun r => ?_⟩
      · show K (qN v + 1, μ3)
        rw [ov]
        exact hk _ ⟨rfl, h3, hF2.tr (FM_mS (s3 _ _ s6)), n2, d2, Fr_no fr2 (by omega), u1, u2⟩
      · refine m_step (f := ju A w) hV (ju_b A w) hl fr2 (by omega) u1 u2 (fun μ4 s7 ex => ?_)
        show K (qN v + 1, μ4)
        rw [ov]
        exact hk _ ⟨rfl, h3.sm M3 (s5 _ _ s7), (hF2.tr (FM_mS (s3 _ _ s6))).tr (FM_mS (s5 _ _ s7)), ex⟩
  · have hl : v < 4 := by
      rcases Nat.lt_or_ge v 4 with s | s
      · exact s
      · exact absurd ((t4 v (by omega)).mpr s) q
    have hk := hK hl
    have tb := TB v
    have te : jT A w v = jc A w v 0 + jc A w v 1 := rfl
    have r0 := R0 v 0
    have r1 := R0 v 1
    refine m_countsBy hV hC (by omega) (by omega) (fun μ3 h3 s6 hT => ?_)
    have u1 : gJ μ3 358 59 = qL n1 := by rw [(s6.1 358 59 (by omega)).2]; exact g1
    have u2 : gJ μ3 358 60 = qL d1 := by rw [(s6.1 358 60 (by omega)).2]; exact g2
    have k0 : gI μ3 381 0 = qN (jc A w v 0) ∧ gI μ3 382 0 = qN (jr A w v 0) := hT 0 (by decide)
    have k1 : gI μ3 381 1 = qN (jc A w v 1) ∧ gI μ3 382 1 = qN (jr A w v 1) := hT 1 (by decide)
    rw [k0.1, k0.2, k1.1, k1.2, qN_add, ← te, z5, qN_sub r0, qN_6 (by omega), qN_6 (by omega), qN_6 (by omega), qL_mul]
    refine ⟨fun r => ?_, fun r => ?_⟩
    · show K (qN v + 1, μ3)
      rw [ov]
      exact hk _ ⟨rfl, h3, hF.tr (FM_mS (s3 _ _ s6)), n1, d1, Fr_no fr1 (by omega), u1, u2⟩
    · refine m_step (f := jl A w) hV (jl_b A w) hl fr1 (by omega) u1 u2 (fun μ4 s7 ex => ?_)
      show K (qN v + 1, μ4)
      rw [ov]
      exact hk _ ⟨rfl, h3.sm M3 (s5 _ _ s7), (hF.tr (FM_mS (s3 _ _ s6))).tr (FM_mS (s5 _ _ s7)), ex⟩
def jw (a : Nat) : Nat := if a = 0 then 1 else if a = 1 then 2 else 0
theorem jw_lt (a : Nat) : jw a < 3 := by unfold jw; split <;> (try split) <;> omega
theorem op_34 (v1 v2 v3 v4 v5 : Int32) (μ : MM) : Rel μ → Glaw_34 v1 v2 v3 v4 v5 μ Rel := by
  rintro ⟨A, X, W, hV, hW, hC, hM⟩
  have M : ∀ (ν : MM) (Q : Int32 → MM → Prop), Ms A X W ν → (∀ a, a < 3 → v1 = qN a → ∀ ν0, Ms A X W ν0 → FM ν ν0 → Bd (sJ ν0 358 59 0) fun μ26 => Bd (sJ μ26 358 60 1) fun μ27 => Lp (G12_join_L50 (qN (jw a)) Q) (0, μ27)) → (¬ inr v1 3 → ∀ ν0, Ms A X W ν0 → FM ν ν0 → Q (-1) ν0) → G12_join v1 ν Q := fun ν Q h hy hn => by
    unfold G12_join
    rw [Bd_eq]
    have h0 := m_thr h 0
    have f0 := fm_thr ν 0
    revert h0 f0
    generalize sI ν 358 0 0 = ν0
    intro h0 f0
    refine in0_s 2 rfl (by decide) (fun q1 => ⟨fun _ => ?_, fun r => absurd r (by decide)⟩) (fun q1 => ⟨fun r => absurd rfl r, fun _ => hn q1 _ h0 f0⟩)
    obtain ⟨a, ha, e⟩ := q1
    have hy' := hy a ha e ν0 h0 f0
    have e0 : v1 = 0 ↔ a = 0 := by rw [e]; exact qN_eq (b := 0) (by omega) (by decide)
    have e1 : v1 = 1 ↔ a = 1 := by rw [e]; exact qN_eq (b := 1) (by omega) (by decide)
    rw [e0, e1]
    refine ⟨fun r => ⟨fun r2 => ?_, fun r2 => ?_⟩, fun r => ?_⟩
    · rw [show jw a = 0 by unfold jw; rw [if_neg r, if_neg r2]] at hy'; exact hy'
    · rw [show jw a = 2 by unfold jw; rw [if_neg r, if_pos r2]] at hy'; exact hy'
    · rw [show jw a = 1 by unfold jw; rw [if_pos r]] at hy'; exact hy'
  have C : ∀ (ν : MM) (Q : Int32 → MM → Prop), (∀ a, a < 3 → v1 = qN a → G2_tellJoined_J30 (qN (jw a)) ν Q) → (¬ inr v1 3 → Q (-1) ν) → G11_join v1 ν Q := fun ν Q hy hn => by
    unfold G11_join G2_tellJoined
    refine within0_s 2 rfl (by decide) (fun q1 => ⟨fun _ => ?_, fun r => absurd r (by decide)⟩) (fun q1 => ⟨fun r => absurd rfl r, fun _ => hn q1⟩)
    obtain ⟨a, ha, e⟩ := q1
    have hy' := hy a ha e
    have e0 : v1 = 0 ↔ a = 0 := by rw [e]; exact qN_eq (b := 0) (by omega) (by decide)
    have e1 : v1 = 1 ↔ a = 1 := by rw [e]; exact qN_eq (b := 1) (by omega) (by decide)
    rw [e0, e1]
    refine ⟨fun r => ⟨fun r2 => ?_, fun r2 => ?_⟩, fun r => ?_⟩
    · rw [show jw a = 0 by unfold jw; rw [if_neg r, if_neg r2]] at hy'; exact hy'
    · rw [show jw a = 2 by unfold jw; rw [if_neg r, if_pos r2]] at hy'; exact hy'
    · rw [show jw a = 1 by unfold jw; rw [if_pos r]] at hy'; exact hy'
  refine C _ _ (fun a ha e => ?_) (fun q => ?_)
  · have hw := jw_lt a
    refine c_joinW hV hC (by omega) (fun q0 μ1 h1 f1 => ?_) (fun q0 μ1 h1 f1 => ?_)
    · refine M _ _ (hM.fc f1) (fun a' ha' e' ν0 m0 f0 => ?_) (fun q => absurd ⟨a, ha, e⟩ q)
      obtain rfl := qN_inj (e.symm.trans e') (by omega) (by omega)
      refine m_joinW hV m0 hw (fun _ μ2 h2 f2 => ?_) (fun q => absurd q q0)
      refine ⟨fun _ => ⟨A, X, _, hV, ?_, h1.fm (f0.tr f2), h2⟩, fun q => q rfl⟩
      show 2 ≤ 10
      decide
    · refine M _ _ (hM.fc f1) (fun a' ha' e' ν0 m0 f0 => ?_) (fun q => absurd ⟨a, ha, e⟩ q)
      obtain rfl := qN_inj (e.symm.trans e') (by omega) (by omega)
      refine m_joinW hV m0 hw (fun q => absurd q0 q) (fun _ μ2 h2 f2 => ?_)
      exact ⟨fun _ => ⟨A, X, W, hV, hW, h1.fm (f0.tr f2), h2⟩, fun q => q rfl⟩
  · refine M _ _ hM (fun a' ha' e' _ _ _ => absurd ⟨a', ha', e'⟩ q) (fun _ ν0 m0 f0 => ?_)
    exact ⟨fun _ => ⟨A, X, W, hV, hW, hC.fm f0, m0⟩, fun q => q rfl⟩
