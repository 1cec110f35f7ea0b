/-! deal, told -/
theorem nfr_0 {A : Nat → Nat → Nat} {a : Nat} (hz : cnt (fun i => decide (A 367 i = a)) (A 358 12) = 0) (p : Nat) : nfr A a p = cnt (fun i => decide (A 360 i = p)) (A 358 3) := by
  refine cnt_congr (fun k _ => ?_)
  have : usd A a k (A 358 12) ≤ cnt (fun i => decide (A 367 i = a)) (A 358 12) := cnt_mono (fun i h => (Bool.and_eq_true_iff.mp h).1) _
  unfold fr
  rw [decide_eq_true (show usd A a k (A 358 12) = 0 by omega), Bool.and_true]
def okD (A : Nat → Nat → Nat) (v1 v2 v3 : Int32) : Prop := inr v1 (A 358 8) ∧ inr v2 100 ∧ inr v3 100 ∧ A 358 12 + 4 ≤ 96 ∧ cnt (fun i => decide (qN (A 367 i) = v1)) (A 358 12) = 0 ∧ 2 ≤ cnt (fun i => decide (A 360 i = 0)) (A 358 3) ∧ 2 ≤ cnt (fun i => decide (A 360 i = 1)) (A 358 3)
theorem c_deal36 {A : Nat → Nat → Nat} {μ : MM} {v1 v2 v3 q0 : Int32} {Q : Int32 → MM → Prop} (hI : ∀ f i, dom f i → A f i < bnd f i) (hA : Ca A μ)
    (hy : q0 ≠ 0 → A 358 12 + 4 ≤ 96 → cnt (fun i => decide (qN (A 367 i) = v1)) (A 358 12) = 0 → 2 ≤ cnt (fun i => decide (A 360 i = 0)) (A 358 3) → 2 ≤ cnt (fun i => decide (A 360 i = 1)) (A 358 3) → G10_dealTo v1 v2 v3 μ Q)
    (hn : ¬ (q0 ≠ 0 ∧ A 358 12 + 4 ≤ 96 ∧ cnt (fun i => decide (qN (A 367 i) = v1)) (A 358 12) = 0 ∧ 2 ≤ cnt (fun i => decide (A 360 i = 0)) (A 358 3) ∧ 2 ≤ cnt (fun i => decide (A 360 i = 1)) (A 358 3)) → Q (-1) μ) : G11_deal_J36 v1 v2 v3 q0 μ Q := by
  have hc12 : A 358 12 < 97 := hI 358 12 (by unfold dom; decide)
  have hb3 : A 358 3 < 13 := hI 358 3 (by unfold dom; decide)
  have hcn := cnt_le (fun i => decide (qN (A 367 i) = v1)) (A 358 12)
  have n0 := cnt_le (fun i => decide (A 360 i = 0)) (A 358 3)
  have n1 := cnt_le (fun i => decide (A 360 i = 1)) (A 358 3)
  revert hy hn hcn n0 n1
  generalize hC : cnt (fun i => decide (qN (A 367 i) = v1)) (A 358 12) = c
  generalize hC0 : cnt (fun i => decide (A 360 i = 0)) (A 358 3) = k0
  generalize hC1 : cnt (fun i => decide (A 360 i = 1)) (A 358 3) = k1
  intro hy hn hcn n0 n1
  have j99 : ∀ x y : Int32, (x ≠ 0 → y ≠ 0 → q0 ≠ 0 → A 358 12 + 4 ≤ 96 ∧ c = 0 ∧ 2 ≤ k0 ∧ 2 ≤ k1) → (x = 0 ∨ y = 0 → ¬ (A 358 12 + 4 ≤ 96 ∧ c = 0 ∧ 2 ≤ k0 ∧ 2 ≤ k1)) → G11_deal_J99 v1 v2 v3 q0 x y μ Q := fun x y e f => by
    refine ⟨fun q => hn (fun r => r.1 q), fun q => ⟨fun q2 => hn (fun r => f (Or.inl q2) r.2), fun q2 => ⟨fun q3 => hn (fun r => f (Or.inr q3) r.2), fun q3 => ?_⟩⟩⟩
    obtain ⟨e1, e2, e3, e4⟩ := e q2 q3 q
    exact hy q e1 e2 e3 e4
  have j68 : ∀ x : Int32, (x ≠ 0 → A 358 12 + 4 ≤ 96 ∧ c = 0) → (x = 0 → ¬ (A 358 12 + 4 ≤ 96 ∧ c = 0)) → G11_deal_J68 v1 v2 v3 q0 x μ Q := fun x e f => by
    refine c_namesOf (v := 0) hI hA (by decide) ?_
    rw [hC0]
    have x0 : qN k0 < 2 ↔ k0 < 2 := qN_lt (b := 2) (by omega) (by decide)
    have x1 : qN k1 < 2 ↔ k1 < 2 := qN_lt (b := 2) (by omega) (by decide)
    refine ⟨fun q => j99 x 0 (fun _ q2 => absurd rfl q2) (fun _ r => by have := x0.mp q; omega), fun q => ?_⟩
    refine c_namesOf (v := 1) hI hA (by decide) ?_
    rw [hC1]
    rw [x0] at q
    refine ⟨fun q1 => j99 x 0 (fun _ q2 => absurd rfl q2) (fun _ r => by have := x1.mp q1; omega), fun q1 => ?_⟩
    rw [x1] at q1
    refine j99 x 1 (fun a _ _ => ⟨(e a).1, (e a).2, by omega, by omega⟩) (fun a r => ?_)
    rcases a with a | a
    · exact f a ⟨r.1, r.2.1⟩
    · exact absurd a (by decide)
  have z : (96 : Int32) < gI μ 1 10 + 4 ↔ 96 < A 358 12 + 4 := by
    rw [Ca_s12 hA, show (4 : Int32) = qN 4 from rfl, qN_add]
    exact qN_lt (a := 96) (by decide) (by omega)
  refine ⟨fun q => j68 0 (fun a => absurd rfl a) (fun _ r => by have := z.mp q; omega), fun q => c_lettersTo hI hA ?_⟩
  rw [z] at q
  rw [hC]
  have y : qN c = 0 ↔ c = 0 := qN_eq (b := 0) (by omega) (by decide)
  exact ⟨fun s => j68 0 (fun a => absurd rfl a) (fun _ r => s (y.mpr r.2)), fun s => j68 1 (fun _ => ⟨by omega, y.mp s⟩) (fun a => absurd a (by decide))⟩
theorem c_deal {A X : Nat → Nat → Nat} {W : List Int64} {μ : MM} {v1 v2 v3 : Int32} {Q : Int32 → MM → Prop} (hV : Inv A X) (h : Cs A X W μ)
    (hy : ∀ a lo hi, a < A 358 8 → lo < 100 → hi < 100 → v1 = qN a → v2 = qN lo → v3 = qN hi → okD A v1 v2 v3 → A 358 12 + 4 ≤ 96 → cnt (fun i => decide (A 367 i = a)) (A 358 12) = 0 → (∀ p, p < 2 → 2 ≤ nfr A a p) → ∀ μ', Cs (dlt (rdB A) a lo hi (rr1 A / 65536 % 6) 4) X W μ' → FC μ μ' → Q (qN (A 358 12 + 4)) μ')
    (hn : ¬ okD A v1 v2 v3 → Q (-1) μ) : G11_deal v1 v2 v3 μ Q := by
  have hA := h.1
  have hI := hV.b
  have hb8 : A 358 8 < 25 := hI 358 8 (by unfold dom; decide)
  have hc12 : A 358 12 < 97 := hI 358 12 (by unfold dom; decide)
  unfold G11_deal G11_deal_J35
  refine c_isHouse hA (by omega) (fun q1 => ?_) (fun q1 => ⟨fun _ => c_deal36 hI hA (fun r => absurd rfl r) (fun _ => hn (fun r => q1 r.1)), fun q => absurd rfl q⟩)
  refine ⟨fun q => absurd q (by decide), fun _ => ?_⟩
  refine within0_s 99 rfl (by decide) (fun q2 => ?_) (fun q2 => ⟨fun _ => c_deal36 hI hA (fun r => absurd rfl r) (fun _ => hn (fun r => q2 r.2.1)), fun q => absurd rfl q⟩)
  refine ⟨fun q => absurd q (by decide), fun _ => ?_⟩
  refine within0_s 99 rfl (by decide) (fun q3 => ?_) (fun q3 => ⟨fun _ => c_deal36 hI hA (fun r => absurd rfl r) (fun _ => hn (fun r => q3 r.2.2.1)), fun q => absurd rfl q⟩)
  refine ⟨fun q => absurd q (by decide), fun _ => ?_⟩
  refine c_deal36 hI hA (fun _ e1 e2 e3 e4 => ?_) (fun r => hn (fun s => r ⟨by decide, s.2.2.2⟩))
  have ok : okD A v1 v2 v3 := ⟨q1, q2, q3, e1, e2, e3, e4⟩
  obtain ⟨a, ha, rfl⟩ := q1
  obtain ⟨lo, hlo, rfl⟩ := q2
  obtain ⟨hi, hhi, rfl⟩ := q3
  rw [cnt_q hI (by omega) (by omega)] at e2
  have h2 : ∀ p, p < 2 → 2 ≤ nfr A a p := fun p hp => by
    rw [nfr_0 e2]
    have : p = 0 ∨ p = 1 := by omega
    rcases this with rfl | rfl
    · exact e3
    · exact e4
  exact c_dealTo hV h ha hlo hhi e1 e2 h2 (hy a lo hi ha hlo hhi rfl rfl rfl ok e1 e2 h2)
theorem m_deal {A X : Nat → Nat → Nat} {W : List Int64} {μ : MM} {v1 v2 v3 : Int32} {Q : Int32 → MM → Prop} (hV : Inv A X) (h : Ms A X W μ)
    (hy : ∀ a lo hi, a < A 358 8 → lo < 100 → hi < 100 → v1 = qN a → v2 = qN lo → v3 = qN hi → okD A v1 v2 v3 → ∀ μ', Ms (dlt (rdB A) a lo hi (rr1 A / 65536 % 6) 4) X W μ' → FM μ μ' → Q (qN (A 358 12 + 4)) μ')
    (hn : ¬ okD A v1 v2 v3 → ∀ μ', Ms A X W μ' → FM μ μ' → Q (-1) μ') : G12_deal v1 v2 v3 μ Q := by
  unfold G12_deal
  rw [Bd_eq]
  have h0 := m_thr h 0
  have f0 := fm_thr μ 0
  revert h0 f0
  generalize sI μ 358 0 0 = μ0
  intro h0 f0
  have hA := h0.1
  have hI := hV.b
  have hb8 : A 358 8 < 25 := hI 358 8 (by unfold dom; decide)
  have hb3 : A 358 3 < 13 := hI 358 3 (by unfold dom; decide)
  have hc12 : A 358 12 < 97 := hI 358 12 (by unfold dom; decide)
  have hcn := cnt_le (fun i => decide (qN (A 367 i) = v1)) (A 358 12)
  have n0 := cnt_le (fun i => decide (A 360 i = 0)) (A 358 3)
  have n1 := cnt_le (fun i => decide (A 360 i = 1)) (A 358 3)
  have bad : ¬ okD A v1 v2 v3 → Q (-1) μ0 := fun q => hn q _ h0 f0
  have h60 : Q (-1) μ0 → G12_deal_J59 v1 v2 v3 μ0 Q := fun q => ⟨fun _ => q, fun q => absurd rfl q⟩
  refine m_isHouse hA (by omega) (fun q1 => ?_) (fun q1 => ⟨fun _ => h60 (bad (fun r => q1 r.1)), fun q => absurd rfl q⟩)
  refine ⟨fun q => absurd q (by decide), fun _ => ?_⟩
  refine in0_s 99 rfl (by decide) (fun q2 => ?_) (fun q2 => ⟨fun _ => h60 (bad (fun r => q2 r.2.1)), fun q => absurd rfl q⟩)
  refine ⟨fun q => absurd q (by decide), fun _ => ?_⟩
  refine in0_s 99 rfl (by decide) (fun q3 => ?_) (fun q3 => ⟨fun _ => h60 (bad (fun r => q3 r.2.2.1)), fun q => absurd rfl q⟩)
  refine ⟨fun q => absurd q (by decide), fun _ => ?_⟩
  refine m_namesOf (v := 0) hI hA (by decide) ?_
  have x0 : qN (cnt (fun i => decide (A 360 i = 0)) (A 358 3)) ≤ 1 ↔ _ ≤ 1 := qN_le (b := 1) (by omega) (by decide)
  have x1 : qN (cnt (fun i => decide (A 360 i = 1)) (A 358 3)) ≤ 1 ↔ _ ≤ 1 := qN_le (b := 1) (by omega) (by decide)
  refine ⟨fun q => h60 (bad (fun r => by have := x0.mp q; have := r.2.2.2.2.2.1; omega)), fun q4 => ?_⟩
  refine m_namesOf (v := 1) hI hA (by decide) ?_
  refine ⟨fun q => h60 (bad (fun r => by have := x1.mp q; have := r.2.2.2.2.2.2; omega)), fun q5 => ?_⟩
  rw [x0] at q4
  rw [x1] at q5
  refine ⟨fun q => absurd q (by decide), fun _ => m_lettersTo hI hA ?_⟩
  have y : (0 : Int32) < qN (cnt (fun i => decide (qN (A 367 i) = v1)) (A 358 12)) ↔ 0 < _ := qN_lt (a := 0) (by decide) (by omega)
  refine ⟨fun q => bad (fun r => by have := y.mp q; have := r.2.2.2.2.1; omega), fun q6 => ?_⟩
  rw [y] at q6
  have z : gI μ0 358 12 + 4 ≤ (96 : Int32) ↔ A 358 12 + 4 ≤ 96 := by
    rw [Ma_s12 hA, show (4 : Int32) = qN 4 from rfl, qN_add]
    exact qN_le (b := 96) (by omega) (by decide)
  refine ⟨fun q7 => ?_, fun q => bad (fun r => q (z.mpr r.2.2.2.1))⟩
  rw [z] at q7
  have ok : okD A v1 v2 v3 := ⟨q1, q2, q3, q7, by omega, by omega, by omega⟩
  obtain ⟨a, ha, rfl⟩ := q1
  obtain ⟨lo, hlo, rfl⟩ := q2
  obtain ⟨hi, hhi, rfl⟩ := q3
  rw [cnt_q hI (by omega) (by omega)] at q6
  have e2 : cnt (fun i => decide (A 367 i = a)) (A 358 12) = 0 := by omega
  have h2 : ∀ p, p < 2 → 2 ≤ nfr A a p := fun p hp => by
    rw [nfr_0 e2]
    have : p = 0 ∨ p = 1 := by omega
    rcases this with rfl | rfl
    · omega
    · omega
  have fin := hy a lo hi ha hlo hhi rfl rfl rfl ok
  have hr : rr1 A / 65536 % 6 < 6 := Nat.mod_lt _ (by decide)
  refine m_draws (n := 6) hV h0 (by decide) (by decide) (fun μ1 h1 f1 g1 => ?_)
  have v1 : Inv (rdB A) X := hV.r (rr1_lt A)
  revert fin hr
  generalize rr1 A / 65536 % 6 = r
  intro fin hr
  have D : ∀ f g : Int32, f = qN (fD r) → g = qN (gD r) → G12_deal_J146 (qN a) (qN lo) (qN hi) f g μ1 Q := fun f g ef eg => by
    subst ef eg
    exact m_deals (A := rdB A) v1 h1 (f0.tr f1) hr ha hlo hhi q7 e2 h2 (fun μ' c' f' => fin μ' c' f')
  have t : (3 : Int32) ≤ qN r ↔ 3 ≤ r := qN_le (a := 3) (by decide) (by omega)
  have t5 : (5 : Int32) ≤ qN r ↔ 5 ≤ r := qN_le (a := 5) (by decide) (by omega)
  have J : ∀ f : Int32, f = qN (fD r) → G12_deal_J117 (qN a) (qN lo) (qN hi) (qN r) f μ1 Q := fun f ef => by
    refine ⟨fun s => ⟨fun s5 => D _ _ ef ?_, fun s5 => D _ _ ef ?_⟩, fun s => D _ _ ef ?_⟩
    · rw [t5] at s5
      unfold gD; rw [if_neg (by omega), if_neg (by omega)]; rfl
    · rw [t] at s; rw [t5] at s5
      unfold gD; rw [if_neg (by omega), if_pos (by omega), show (1 : Int32) = qN 1 from rfl, qN_sub (by omega)]
    · rw [t] at s
      unfold gD; rw [if_pos (by omega), show (1 : Int32) = qN 1 from rfl, qN_add]
  refine ⟨fun s => ⟨fun s5 => J _ ?_, fun s5 => J _ ?_⟩, fun s => J _ ?_⟩
  · rw [t5] at s5
    unfold fD; rw [if_neg (by omega), if_neg (by omega)]; rfl
  · rw [t] at s; rw [t5] at s5
    unfold fD; rw [if_neg (by omega), if_pos (by omega)]; rfl
  · rw [t] at s
    unfold fD; rw [if_pos (by omega)]; rfl
theorem op_3 (v1 v2 v3 v4 v5 : Int32) (μ : MM) : Rel μ → Glaw_3 v1 v2 v3 v4 v5 μ Rel := by
  rintro ⟨A, X, W, hV, hW, hC, hM⟩
  refine c_deal hV hC (fun a lo hi ha hlo hhi e1 e2 e3 ok hn hz h2 μ1 h1 f1 => ?_) (fun q => ?_)
  · refine m_deal hV (hM.fc f1) (fun a' lo' hi' ha' hlo' hhi' e1' e2' e3' _ μ2 h2' f2 => ?_) (fun q => absurd ok q)
    have b8 : A 358 8 < 25 := hV.b 358 8 (by unfold dom; decide)
    obtain rfl := qN_inj (e1.symm.trans e1') (by omega) (by omega)
    obtain rfl := qN_inj (e2.symm.trans e2') (by omega) (by omega)
    obtain rfl := qN_inj (e3.symm.trans e3') (by omega) (by omega)
    have v1 : Inv (rdB A) X := hV.r (rr1_lt A)
    exact ⟨fun _ => ⟨_, X, _, (dlt_s v1 ha hlo hhi (Nat.mod_lt _ (by decide)) hn hz h2 4 (by decide)).1, hW, h1.fm f2, h2'⟩, fun q => q rfl⟩
  · refine m_deal hV hM (fun a lo hi ha hlo hhi e1 e2 e3 ok μ2 h2 f2 => absurd ok q) (fun _ μ2 h2 f2 => ?_)
    exact ⟨fun _ => ⟨A, X, W, hV, hW, hC.fm f2, h2⟩, fun r => r rfl⟩
