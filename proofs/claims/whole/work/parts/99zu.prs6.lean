/-! laws as texts: ops 7, 8 -/
theorem cc_e1 {f i p : Nat} (h : dom f i) (hp : p < 12) : cc f i ≠ ecp p + 1 := by
  unfold dom at h
  unfold ecp
  rcases h with ⟨rfl, rfl | rfl | rfl | rfl | rfl | rfl⟩ | h | h | h | h | h | h | h | h | h
  · show (1 : Nat) ≠ _; split <;> omega
  · show (1 : Nat) ≠ _; split <;> omega
  · show (1 : Nat) ≠ _; split <;> omega
  · show (1 : Nat) ≠ _; split <;> omega
  · show (0 : Nat) ≠ _; split <;> omega
  · show (237 : Nat) ≠ _; split <;> omega
  all_goals
    unfold cc
    repeat' split
    all_goals omega
def cdA (A : Nat → Nat → Nat) (p : Nat) (L : List Nat) : Nat → Nat → Nat := up2 A 378 p L.length
def cdX (X : Nat → Nat → Nat) (p : Nat) (L : List Nat) : Nat → Nat → Nat := fun q k => if q = p then lat L k else X q k
theorem Cs_code {A X : Nat → Nat → Nat} {W : List Int64} {μ ν : MM} {p : Nat} {L sk : List Nat} (h : Cs A X W μ) (hp : p < 12) (s : Sm (xsS (ecp p)) μ ν) (x : EXs (ecp p) ν L sk) : Cs (cdA A p L) (cdX X p L) W ν := by
  obtain ⟨h1, h2, h3, h4, h5⟩ := h
  obtain ⟨x1, x2, x3, x4, x5⟩ := x
  have ep := ecp_S hp 0
  refine ⟨fun f i d => ?_, fun q hq k hk => ?_, ?_, fun i hi => ?_, ?_⟩
  · show gI ν (cc f i) (cs f i) = qN (if f = 378 ∧ i = p then L.length else A f i)
    by_cases e : f = 378 ∧ i = p
    · rw [if_pos e, e.1, e.2]
      exact x1
    · rw [if_neg e, (s.1 (cc f i) (cs f i) (fun z => ?_)).1]
      · exact h1 f i d
      · have dc := dom_cc d
        have ec := cc_e1 d hp
        have dd : dom 378 p := by unfold dom; omega
        unfold xsS at z
        rcases z with ⟨z1, z2 | z2⟩ | z | z
        · exact e (cc_inj d dd z1 z2)
        · refine dc.2.1 ?_
          unfold cS
          rw [z1, z2]
          unfold ecp
          split <;> omega
        · exact ec z
        · refine dc.2.1 ?_
          unfold cS
          rw [z]
          unfold ecp
          split <;> omega
  · by_cases e : q = p
    · subst e
      have hk' : k < L.length := by
        have : cdA A q L 378 q = L.length := if_pos ⟨rfl, rfl⟩
        rw [this] at hk
        exact hk
      rw [x3 k hk', show cdX X q L q k = lat L k from if_pos rfl]
    · have hk' : k < A 378 q := by
        have : cdA A p L 378 q = A 378 q := if_neg (fun z => e z.2)
        rw [this] at hk
        exact hk
      rw [show cdX X p L q k = X q k from if_neg e, (s.1 (ecp q + 1) k (by unfold xsS ecp; split <;> split <;> omega)).1]
      exact h2 q hq k hk'
  · rw [(s.1 151 1 (by unfold xsS ecp; split <;> omega)).1]; exact h3
  · rw [(s.1 152 i (by unfold xsS; omega)).2]; exact h4 i hi
  · rw [s.2, s.2]; exact h5
theorem Ms_code {A X : Nat → Nat → Nat} {W : List Int64} {μ ν : MM} {p : Nat} {L : List Nat} (hA : ∀ p, p < 12 → A 378 p ≤ 48) (h : Ms A X W μ) (hp : p < 12) (hL : L.length ≤ 48) (s : Sm (fun k j => (k = 378 ∧ j = p) ∨ (k = 377 ∧ 48 * p ≤ j ∧ j < 48 * p + 48)) μ ν) (e1 : gI ν 378 p = qN L.length) (e2 : ∀ k, k < L.length → gI ν 377 (48 * p + k) = qN (lat L k)) : Ms (cdA A p L) (cdX X p L) W ν := by
  obtain ⟨h1, h2, h3, h4⟩ := h
  refine ⟨fun f i d => ?_, fun q hq k hk => ?_, ?_, fun i hi => ?_⟩
  · show gI ν f i = qN (if f = 378 ∧ i = p then L.length else A f i)
    by_cases e : f = 378 ∧ i = p
    · rw [if_pos e, e.1, e.2]
      exact e1
    · rw [if_neg e, (s.1 f i (fun z => by
        rcases z with z | z
        · exact e z
        · unfold dom at d; omega)).1]
      exact h1 f i d
  · by_cases e : q = p
    · subst e
      have hk' : k < L.length := by
        have : cdA A q L 378 q = L.length := if_pos ⟨rfl, rfl⟩
        rw [this] at hk
        exact hk
      rw [e2 k hk', show cdX X q L q k = lat L k from if_pos rfl]
    · have hk' : k < A 378 q := by
        have : cdA A p L 378 q = A 378 q := if_neg (fun z => e z.2)
        rw [this] at hk
        exact hk
      have := hA q hq
      rw [show cdX X p L q k = X q k from if_neg e, (s.1 377 (48 * q + k) (fun z => by omega)).1]
      exact h2 q hq k hk'
  · rw [(s.1 358 1 (fun z => by omega)).1]; exact h3
  · rw [(s.1 359 i (fun z => by omega)).2]; exact h4 i hi
theorem Inv.code {A X : Nat → Nat → Nat} (h : Inv A X) {p : Nat} {L : List Nat} (hl : L.length ≤ 40) (hw : wfX (decide (p < 6)) (lat L) L.length) : Inv (cdA A p L) (cdX X p L) := by
  obtain ⟨h1, h2, h3, h4, h5, h6, h7, h8, h9⟩ := h
  unfold cdA
  refine ⟨bnd_w h1 (by show L.length < 41; omega), by simpa [up2] using h2, by simpa [up2] using h3, by simpa [up2] using h4, by simpa [up2] using h5, by simpa [up2] using h6, by simpa [up2] using h7, fun q hq => ?_, by simpa [up2] using h9⟩
  by_cases e : q = p
  · subst e
    have e1 : up2 A 378 q L.length 378 q = L.length := if_pos ⟨rfl, rfl⟩
    have e2 : cdX X q L q = lat L := funext (fun k => if_pos rfl)
    rw [e1, e2]
    exact hw
  · have e1 : up2 A 378 p L.length 378 q = A 378 q := if_neg (fun z => e z.2)
    have e2 : cdX X p L q = X q := funext (fun k => if_neg e)
    rw [e1, e2]
    exact h8 q hq
def A0t (A : Nat → Nat → Nat) : Nat → Nat → Nat := up2 A 358 28 0
theorem Inv.t0 {A X : Nat → Nat → Nat} (h : Inv A X) : Inv (A0t A) X := Inv.end' h (Nat.zero_le _)
theorem m41 : (-1 : Int32) - 40 = -41 := by decide
theorem c_text {A X : Nat → Nat → Nat} {W : List Int64} {μ : MM} {v : Int32} {a1 off : Nat} {b : Bool} {Q : Int32 → MM → Prop} (hV : Inv A X) (h : Cs A X W μ) (ho : off = 0 ∨ off = 6) (hR : ∀ i, i < 6 → R0 a1 i = some (ecp (off + i)) ∧ Ob (ecp (off + i)) 3) (hl : ln a1 = 6)
    (hno : ¬ inr v 6 → ∀ μ', Cs (A0t A) X W μ' → FC μ μ' → Q (-100) μ')
    (hbad : ∀ i, i < 6 → v = qN i → ∀ k, k < min (A 358 28) 40 → badp b (A 380) k → ∀ μ', Cs (A0t A) X W μ' → FC μ μ' → Q (-1 - qN k) μ')
    (hlong : ∀ i, i < 6 → v = qN i → 40 < A 358 28 → ∀ σ, mst b (A 380) 40 = some σ → ∀ μ', Cs (A0t A) X W μ' → FC μ μ' → Q (-41) μ')
    (hopen : ∀ i, i < 6 → v = qN i → A 358 28 ≤ 40 → ∀ σ, mst b (A 380) (A 358 28) = some σ → (σ.1 = true ∨ 0 < σ.2.2.1) → ∀ μ', Cs (A0t A) X W μ' → FC μ μ' → Q (-1 - qN (A 358 28)) μ')
    (hgood : ∀ i, i < 6 → v = qN i → A 358 28 ≤ 40 → ∀ σ, mst b (A 380) (A 358 28) = some σ → σ.1 = false → σ.2.2.1 = 0 → ∀ μ', Cs (cdA (A0t A) (off + i) (pst 1 σ.2.2.2.2.2 σ.2.2.2.2.1).2) (cdX X (off + i) (pst 1 σ.2.2.2.2.2 σ.2.2.2.2.1).2) W μ' → FC μ μ' → Q 0 μ') : G11_takeText a1 v (bI b) μ Q := by
  have b28 : A 358 28 < 61 := hV.b 358 28 (by unfold dom; decide)
  have hA := h.1
  unfold G11_takeText
  rw [Ca_s28 hA, Bd_eq, Bd_eq]
  have s0 : Sm cT μ (sI μ 0 8 0) := Sm.rfl'.wI 0 (k := 0) (j := 8) (by unfold cT; omega)
  have h0 : Cs (A0t A) X W (sI μ 0 8 0) := h.up s0 (Cw_s28 hA 0) (fun p hp => by show (if 378 = 358 ∧ p = 28 then 0 else A 378 p) = _; rw [if_neg (by omega)])
  have f0 : FC μ (sI μ 0 8 0) := FC_cT s0
  revert h0 f0
  generalize sI μ 0 8 0 = μ1
  intro h0 f0
  clear s0
  refine within0_s 5 rfl (by decide) (fun q => ⟨fun _ => ?_, fun r => absurd r (by decide)⟩) (fun q => ⟨fun r => absurd rfl r, fun _ => hno q μ1 h0 f0⟩)
  obtain ⟨i, hi, e⟩ := q
  have ht : ∀ i, i < 60 → gI μ1 357 i = qN (A 380 i) := fun j hj => by
    rw [Ca_380 h0.1 hj]
    show qN (if 380 = 358 ∧ j = 28 then 0 else A 380 j) = _
    rw [if_neg (by omega)]
  have hc : ∀ i, i < 60 → A 380 i < 256 := fun j hj => hV.b 380 j (by unfold dom; omega)
  have n1 : ∀ k, k < 100 → (qN k = -1 ↔ False) := fun k hk => qN_neg1 (by omega)
  refine c_firstWrong (b := b) (c := A 380) (by omega) ht hc (fun k hk hb => ⟨fun r => ((n1 k (by omega)).mp r).elim, fun _ => hbad i hi e k hk hb μ1 h0 f0⟩) (fun hl9 σ hσ => ⟨fun r => absurd r (by decide), fun _ => ?_⟩) (fun hn9 σ hσ hw => ⟨fun r => ((n1 _ (by omega)).mp r).elim, fun _ => hopen i hi e hn9 σ hσ hw μ1 h0 f0⟩) (fun hn9 σ hσ h1 h2 => ⟨fun _ => ?_, fun r => absurd rfl r⟩)
  · rw [m41]
    exact hlong i hi e hl9 σ hσ μ1 h0 f0
  · have hi6 : i < 6 := hi
    obtain ⟨r1, r2⟩ := hR i hi6
    rw [e, qN_vp (by omega), qN_nat (by omega), hl]
    refine ⟨hi6, ecp (off + i), r1, r2, ?_⟩
    have e9 := ecp_S (p := off + i) (by omega) 0
    refine c_become (b := b) (c := A 380) hn9 (by omega) ht hc hσ (fun μ2 sk s2 x2 => ?_)
    exact hgood i hi e hn9 σ hσ h1 h2 μ2 (Cs_code h0 (by omega) s2 x2) (f0.tr (fun k j hk => s2.1 k j (by unfold xsS; omega)))
theorem m_text {A X : Nat → Nat → Nat} {W : List Int64} {μ : MM} {p : Nat} {b : Bool} {Q : Int32 → MM → Prop} (hV : Inv A X) (h : Ms A X W μ) (hp : p < 12)
    (hbad : ∀ k, k < min (A 358 28) 40 → badp b (A 380) k → ∀ μ', Ms (A0t A) X W μ' → FM μ μ' → Q (-1 - qN k) μ')
    (hlong : 40 < A 358 28 → ∀ σ, mst b (A 380) 40 = some σ → ∀ μ', Ms (A0t A) X W μ' → FM μ μ' → Q (-41) μ')
    (hopen : A 358 28 ≤ 40 → ∀ σ, mst b (A 380) (A 358 28) = some σ → (σ.1 = true ∨ 0 < σ.2.2.1) → ∀ μ', Ms (A0t A) X W μ' → FM μ μ' → Q (-1 - qN (A 358 28)) μ')
    (hgood : A 358 28 ≤ 40 → ∀ dg cm ro Pn, mst b (A 380) (A 358 28) = some (false, dg, 0, cm, ro, Pn) → (∀ t, t ∈ Pn → 1 ≤ stg t) → okl b (fin Pn ro) → hl (fin Pn ro) = 1 → ∀ μ', Ms (cdA (A0t A) p (fin Pn ro)) (cdX X p (fin Pn ro)) W μ' → FM μ μ' → Q 0 μ') : G12_reads (qN p) (bI b) μ Q := by
  have b28 : A 358 28 < 61 := hV.b 358 28 (by unfold dom; decide)
  have hV0 : Inv (A0t A) X := hV.t0
  have M3 := mn378 hV0
  have hc : ∀ i, i < 60 → A 380 i < 256 := fun j hj => hV.b 380 j (by unfold dom; omega)
  have c40 : (40 : Int32) < qN (A 358 28) ↔ 40 < A 358 28 := qN_lt (a := 40) (by decide) (by omega)
  have em : (if (40 : Int32) < qN (A 358 28) then (40 : Int32) else qN (A 358 28)) = qN (min (A 358 28) 40) := by
    by_cases q : 40 < A 358 28
    · rw [if_pos (c40.mpr q), show min (A 358 28) 40 = 40 by omega]; rfl
    · rw [if_neg (fun z => q (c40.mp z)), show min (A 358 28) 40 = A 358 28 by omega]
  unfold G12_reads
  rw [Ma_s28 h.1, Bd_eq, em, Bd_eq, Bd_eq, Bd_eq, Bd_eq]
  have bob : bo (bI b) := by cases b <;> first | exact bo_0 | exact bo_1
  refine ⟨bob, ?_⟩
  rw [Bd_eq, Bd_eq]
  have s1 : Sm mT μ (sI μ 358 28 0) := Sm.rfl'.wI 0 (k := 358) (j := 28) (by unfold mT; omega)
  have h1 : Ms (A0t A) X W (sI μ 358 28 0) := h.up s1 (Ma_w h.1 358 28 0) (fun p hp => by show (if 378 = 358 ∧ p = 28 then 0 else A 378 p) = _; rw [if_neg (by omega)])
  have f1 := FM_mT s1
  have s2 : Sm mS (sI μ 358 28 0) (sI (sI (sI (sI (sI (sI μ 358 28 0) 358 29 0) 358 31 0) 358 30 (qN (min (A 358 28) 40))) 358 32 (bI b)) 378 12 0) := ((((Sm.rfl'.wI 0 (k := 358) (j := 29) (by unfold mS; omega)).wI 0 (k := 358) (j := 31) (by unfold mS; omega)).wI _ (k := 358) (j := 30) (by unfold mS; omega)).wI _ (k := 358) (j := 32) (by unfold mS; omega)).wI 0 (k := 378) (j := 12) (by unfold mS; omega)
  have h2 := h1.sm M3 s2
  have f2 := f1.tr (FM_mS s2)
  have hMP : MPs b (A 380) (min (A 358 28) 40) (sI (sI (sI (sI (sI (sI μ 358 28 0) 358 29 0) 358 31 0) 358 30 (qN (min (A 358 28) 40))) 358 32 (bI b)) 378 12 0) (sI (sI (sI (sI (sI (sI μ 358 28 0) 358 29 0) 358 31 0) 358 30 (qN (min (A 358 28) 40))) 358 32 (bI b)) 378 12 0) 0 0 [] := by
    refine ⟨rfl, rfl, rfl, rfl, rfl, fun k hk => absurd hk (by show ¬ k < 0; omega), fun i hi => ?_, Sm.rfl'⟩
    rw [Ma_380 h2.1 hi]
    show qN (if 380 = 358 ∧ i = 28 then 0 else A 380 i) = _
    rw [if_neg (by omega)]
  clear s1 h1 f1 s2
  revert h2 f2 hMP
  generalize sI (sI (sI (sI (sI (sI μ 358 28 0) 358 29 0) 358 31 0) 358 30 (qN (min (A 358 28) 40))) 358 32 (bI b)) 378 12 0 = μ1
  intro h2 f2 hMP
  refine ⟨fun _ => ?_, fun r => absurd ((qN_nn (by omega)).mpr trivial) r⟩
  have pm : ∀ ν : MM, Sm pmS μ1 ν → Ms (A0t A) X W ν ∧ FM μ ν := fun ν s => by
    have s' : Sm mS μ1 ν := s.mo (fun k j q => by unfold pmS at q; unfold mS; omega)
    exact ⟨h2.sm M3 s', f2.tr (FM_mS s')⟩
  have e40 : qN (A 358 28) ≤ 40 ↔ A 358 28 ≤ 40 := qN_le (b := 40) (by omega) (by decide)
  have fail : ∀ q ν, q ≤ min (A 358 28) 40 → (q < min (A 358 28) 40 → badp b (A 380) q) → (q = min (A 358 28) 40 → ∃ σ, mst b (A 380) q = some σ ∧ (σ.1 = true ∨ 0 < σ.2.2.1)) → gI ν 358 29 = qN q → Sm pmS μ1 ν → G12_reads_J77 (qN p) (qN (A 358 28)) ν Q := fun q ν hq hb ho g s => by
    obtain ⟨hMν, hFν⟩ := pm ν s
    have ans : (q < min (A 358 28) 40 ∨ A 358 28 ≤ 40) → Q ((-1) - gI ν 358 29) ν := fun z => by
      rw [g]
      by_cases q1 : q < min (A 358 28) 40
      · exact hbad q q1 (hb q1) ν hMν hFν
      · obtain ⟨σ, t1, t2⟩ := ho (by omega)
        have e : q = A 358 28 := by omega
        rw [e] at t1 ⊢
        exact hopen (by omega) σ t1 t2 ν hMν hFν
    unfold G12_reads_J77 G12_reads_J78 G12_reads_J103
    rw [e40]
    refine ⟨fun z => ⟨fun r => absurd rfl r, fun _ => ans (Or.inr z)⟩, fun z => ⟨fun r => absurd rfl r, fun _ => ?_⟩⟩
    have e41 : qN q < 40 ↔ q < 40 := qN_lt (b := 40) (by omega) (by decide)
    refine ⟨fun r => ⟨fun r2 => absurd rfl r2, fun _ => ans (Or.inl (by rw [g, e41] at r; omega))⟩, fun r => ?_⟩
    rw [g, e41] at r
    obtain ⟨σ, t1, t2⟩ := ho (by omega)
    rw [show q = 40 by omega] at t1
    exact hlong (by omega) σ t1 ν hMν hFν
  show (G12_tie 120).1 (qN 0) μ1 _
  refine (m_tie (b := b) (c := A 380) (m := min (A 358 28) 40) (μ0 := μ1) (by omega) hc 120).1 0 0 μ1 0 0 (fun _ => false) [] [] (by decide) (by omega) (by omega) rfl hMP trivial (fun _ => rfl) (fun _ t T e => absurd e (by simp)) _ (fun q L ν hpq ho hM => ⟨fun z => absurd z (by decide), fun _ => ?_⟩) (fun q ν hb g s => ⟨fun _ => ?_, fun z => absurd rfl z⟩)
  · obtain ⟨dg, cm, ro, Pn, y1, y2, y3, y4, y5, y6, y7, y8, y9⟩ := ho
    obtain ⟨g1, g2, g3, g4, g5, g6, g7, g8⟩ := id hM
    rw [List.append_nil] at y1
    rw [g1, g2, qN_eq (by omega) (by omega)]
    refine ⟨fun z => ?_, fun z => ?_⟩
    · refine fail q ν y2 (fun lq => ⟨_, y1, ?_⟩) (fun e => absurd e z) g1 g8
      obtain ⟨a1, a2, a3⟩ := y9 lq
      unfold stp
      simp only [Bool.false_eq_true, if_false]
      rw [if_neg (fun w => by have := a1 w.1; omega), if_neg (fun w => by have : (0 : Nat) < 0 := w.2; omega), if_neg (fun w => by rw [a3 (by decide) w.1] at w; exact absurd w.2 (by decide)), if_neg (fun w => a2 ⟨by omega, by omega, by omega⟩), if_neg (fun w => a2 ⟨by omega, by omega, by omega⟩)]
    · obtain ⟨hMν, hFν⟩ := pm ν g8
      unfold G12_reads_J78 G12_reads_J103
      rw [e40]
      refine ⟨fun n40 => ⟨fun _ => ?_, fun r => absurd r (by decide)⟩, fun n40 => ⟨fun _ => ?_, fun r => absurd r (by decide)⟩⟩
      · have eq : q = A 358 28 := by omega
        rw [eq] at y1
        have lenq := mst_len _ _ y1
        simp only at lenq
        have lf := fin_len Pn ro
        have hL : L.length ≤ 40 := by rw [y3, lf]; omega
        rw [qN_vp (by omega), qN_nat (by omega), g5, Bd_eq]
        refine ⟨by omega, ?_⟩
        have s3 : Sm (fun k j => (k = 378 ∧ j = p) ∨ (k = 377 ∧ 48 * p ≤ j ∧ j < 48 * p + 48)) ν (sI ν 378 p (qN L.length)) := Sm.rfl'.wI _ (k := 378) (j := p) (Or.inl ⟨rfl, rfl⟩)
        refine Lp.up 48 (fun i (x : Int32 × MM) => x.1 = qN i ∧ Sm (fun k j => (k = 378 ∧ j = p) ∨ (k = 377 ∧ 48 * p ≤ j ∧ j < 48 * p + 48)) ν x.2 ∧ gI x.2 378 p = qN L.length ∧ ∀ k, k < i → gI x.2 377 (48 * p + k) = gI ν 377 (576 + k)) ?_ ⟨rfl, s3, by show gI (sI ν 378 p _) 378 p = _; rw [gI_I, if_pos ⟨rfl, rfl⟩], fun k hk => absurd hk (by omega)⟩
        rintro i K hi hK ⟨x1, ω⟩ ⟨rfl, hs, e1, e2⟩
        simp only at hs e1 e2
        have c48 : (48 : Int32) ≤ qN i ↔ 48 ≤ i := qN_le (a := 48) (by decide) (by omega)
        unfold G12_reads_L131
        simp only [c48]
        refine ⟨fun r => ?_, fun r => ?_⟩
        · have e : i = 48 := by omega
          subst e
          have hMs := Ms_code M3 hMν hp (L := L) (by omega) hs e1 (fun k hk => by rw [e2 k (by omega)]; exact g6 k hk)
          rw [y3] at hMs y7 y8
          exact hgood n40 dg cm ro Pn y1 (fun t ht => by have := y4 t ht; omega) y8 y7 ω hMs (hFν.tr (fun k j hk => ⟨(hs.1 k j (fun w => by omega)).1, (hs.1 k j (fun w => by omega)).2, hs.2 k j⟩))
        · have sr : gI ω 377 (576 + i) = gI ν 377 (576 + i) := (hs.1 377 (576 + i) (fun w => by omega)).1
          rw [show (576 : Int32) + qN i = qN (576 + i) from qN_add 576 i, show (48 : Int32) * qN p = qN (48 * p) from qN_mul 48 p, qN_add, qN_vp (by omega), qN_vp (by omega), qN_nat (by omega), qN_nat (by omega), sr, Bd_eq, show qN i + 1 = qN (i + 1) from qN_add i 1]
          refine ⟨by omega, by omega, hK (by omega) _ ⟨rfl, hs.wI _ (Or.inr ⟨rfl, by omega, by omega⟩), ?_, fun k hk => ?_⟩⟩
          · show gI (sI ω 377 (48 * p + i) _) 378 p = _
            rw [gI_I, if_neg (fun w => by omega)]; exact e1
          · show gI (sI ω 377 (48 * p + i) _) 377 (48 * p + k) = _
            rw [gI_I]
            by_cases e : k = i
            · rw [if_pos ⟨rfl, by omega⟩, e]
            · rw [if_neg (fun w => by omega)]; exact e2 k (by omega)
      · have eq : q = 40 := by omega
        rw [eq] at y1
        exact hlong (by omega) _ y1 ν hMν hFν
  · obtain ⟨σ, t1, t2⟩ := hb
    refine fail q ν ?_ (fun lq => ?_) (fun e => ?_) g s
    · rcases t2 with t2 | t2 <;> omega
    · rcases t2 with t2 | t2
      · exact ⟨σ, t1, t2.2⟩
      · omega
    · rcases t2 with t2 | t2
      · omega
      · exact ⟨σ, t1, t2.2⟩
theorem R0_ab : ∀ i, i < 6 → R0 10 i = some (ecp (0 + i)) ∧ R0 11 i = some (ecp (6 + i)) := by decide
theorem Ob_e : ∀ p, p < 12 → Ob (ecp p) 3 := by unfold Ob; decide
theorem ln_10 : ln 10 = 6 ∧ ln 11 = 6 := by decide
theorem tx_op {A X : Nat → Nat → Nat} {W : List Int64} {μ : MM} {v1 : Int32} {a1 off : Nat} {b : Bool} {G : MM → (Int32 → MM → Prop) → Prop} (ho : off = 0 ∨ off = 6) (hb : b = decide (off = 0)) (hR : ∀ i, i < 6 → R0 a1 i = some (ecp (off + i)) ∧ Ob (ecp (off + i)) 3) (hl : ln a1 = 6) (hV : Inv A X) (hW : W.length ≤ 10) (hC : Cs A X W μ) (hM : Ms A X W μ)
    (hin : ∀ i, i < 6 → v1 = qN i → ∀ (ν : MM) (Q : Int32 → MM → Prop), Ms A X W ν → (∀ ν0, Ms A X W ν0 → FM ν ν0 → G12_reads (qN (off + i)) (bI b) ν0 Q) → G ν Q)
    (hout : ¬ inr v1 6 → ∀ (ν : MM) (Q : Int32 → MM → Prop), Ms A X W ν → (∀ ν0, Ms (A0t A) X W ν0 → FM ν ν0 → Q (-100) ν0) → G ν Q) :
    G11_takeText a1 v1 (bI b) μ (fun r1 μ1 => G μ1 (fun r2 μ2 => (r1 = r2 → Rel μ2) ∧ (¬ r1 = r2 → False))) := by
  have hV0 : Inv (A0t A) X := hV.t0
  refine c_text (b := b) hV hC ho hR hl (fun q μ1 h1 f1 => ?_) (fun i hi e k hk hb9 μ1 h1 f1 => ?_) (fun i hi e hn σ hσ μ1 h1 f1 => ?_) (fun i hi e hn σ hσ hw μ1 h1 f1 => ?_) (fun i hi e hn σ hσ w0 d0 μ1 h1 f1 => ?_)
  · exact hout q μ1 _ (hM.fc f1) (fun ν0 m0 f0 => ⟨fun _ => ⟨_, X, W, hV0, hW, h1.fm f0, m0⟩, fun r => r rfl⟩)
  · refine hin i hi e μ1 _ (hM.fc f1) (fun ν0 m0 f0 => m_text (b := b) hV m0 (by omega) (fun k' hk' hb' μ2 h2 f2 => ?_) (fun hn' σ' hσ' μ2 h2 f2 => ?_) (fun hn' σ' hσ' _ μ2 h2 f2 => ?_) (fun hn' dg cm ro Pn hσ' _ _ _ μ2 h2 f2 => ?_))
    · obtain rfl := badp_u hb9 hb'
      exact ⟨fun _ => ⟨_, X, W, hV0, hW, h1.fm (f0.tr f2), h2⟩, fun r => r rfl⟩
    · have := badp_lt hb9 hσ'; omega
    · have := badp_lt hb9 hσ'; omega
    · have := badp_lt hb9 hσ'; omega
  · refine hin i hi e μ1 _ (hM.fc f1) (fun ν0 m0 f0 => m_text (b := b) hV m0 (by omega) (fun k' hk' hb' μ2 h2 f2 => ?_) (fun hn' σ' hσ' μ2 h2 f2 => ?_) (fun hn' σ' hσ' _ μ2 h2 f2 => ?_) (fun hn' dg cm ro Pn hσ' _ _ _ μ2 h2 f2 => ?_))
    · have := badp_lt hb' hσ; omega
    · exact ⟨fun _ => ⟨_, X, W, hV0, hW, h1.fm (f0.tr f2), h2⟩, fun r => r rfl⟩
    · omega
    · omega
  · refine hin i hi e μ1 _ (hM.fc f1) (fun ν0 m0 f0 => m_text (b := b) hV m0 (by omega) (fun k' hk' hb' μ2 h2 f2 => ?_) (fun hn' σ' hσ' μ2 h2 f2 => ?_) (fun hn' σ' hσ' _ μ2 h2 f2 => ?_) (fun hn' dg cm ro Pn hσ' _ _ _ μ2 h2 f2 => ?_))
    · have := badp_lt hb' hσ; omega
    · omega
    · exact ⟨fun _ => ⟨_, X, W, hV0, hW, h1.fm (f0.tr f2), h2⟩, fun r => r rfl⟩
    · have es := Option.some.inj (hσ.symm.trans hσ')
      rw [es] at hw
      rcases hw with w | w
      · exact absurd w fnt
      · exact absurd w (by show ¬ 0 < 0; decide)
  · refine hin i hi e μ1 _ (hM.fc f1) (fun ν0 m0 f0 => m_text (b := b) hV m0 (by omega) (fun k' hk' hb' μ2 h2 f2 => ?_) (fun hn' σ' hσ' μ2 h2 f2 => ?_) (fun hn' σ' hσ' hw μ2 h2 f2 => ?_) (fun hn' dg cm ro Pn hσ' hP hk9 hh9 μ2 h2 f2 => ?_))
    · have := badp_lt hb' hσ; omega
    · omega
    · have es := Option.some.inj (hσ.symm.trans hσ')
      rw [← es, w0, d0] at hw
      rcases hw with w | w
      · exact absurd w (by decide)
      · exact absurd w (by decide)
    · have es := Option.some.inj (hσ.symm.trans hσ')
      subst es
      have pf := pst_fin (s := 1) (S := []) (fun t T e => absurd e (by simp)) Pn ro hP
      rw [List.append_nil] at pf
      have pf2 : (pst 1 Pn ro).2 = fin Pn ro := by rw [pf]
      have h1' : Cs (cdA (A0t A) (off + i) (pst 1 Pn ro).2) (cdX X (off + i) (pst 1 Pn ro).2) W μ1 := h1
      rw [pf2] at h1'
      have lenq := mst_len _ _ hσ'
      simp only at lenq
      have lf := fin_len Pn ro
      have bb : decide (off + i < 6) = b := by
        rw [hb]
        rcases ho with rfl | rfl
        · rw [decide_eq_true (show 0 + i < 6 by omega)]; rfl
        · rw [decide_eq_false (show ¬ 6 + i < 6 by omega)]; rfl
      exact ⟨fun _ => ⟨_, _, W, hV0.code (by omega) (by rw [bb]; exact okl_wf hk9 hh9), hW, h1'.fm (f0.tr f2), h2⟩, fun r => r rfl⟩
theorem mtx_out {A X : Nat → Nat → Nat} {W : List Int64} {ν : MM} {b : Bool} {Q : Int32 → MM → Prop} (hV : Inv A X) (h : Ms A X W ν) (hQ : ∀ ν0, Ms (A0t A) X W ν0 → FM ν ν0 → Q (-100) ν0) : G12_reads (-1) (bI b) ν Q := by
  have M3 := mn378 hV.t0
  have bob : bo (bI b) := by cases b <;> first | exact bo_0 | exact bo_1
  unfold G12_reads
  rw [Bd_eq, Bd_eq, Bd_eq, Bd_eq, Bd_eq]
  refine ⟨bob, ?_⟩
  rw [Bd_eq, Bd_eq]
  have n1 : ¬ (0 : Int32) ≤ -1 := by decide
  refine ⟨fun r => absurd r n1, fun _ => ?_⟩
  have s1 : Sm mT ν (sI ν 358 28 0) := Sm.rfl'.wI 0 (k := 358) (j := 28) (by unfold mT; omega)
  have h1 : Ms (A0t A) X W (sI ν 358 28 0) := h.up s1 (Ma_w h.1 358 28 0) (fun p hp => by show (if 378 = 358 ∧ p = 28 then 0 else A 378 p) = _; rw [if_neg (by omega)])
  generalize (if (40 : Int32) < gI ν 358 28 then (40 : Int32) else gI ν 358 28) = z
  have s2 : Sm mS (sI ν 358 28 0) (sI (sI (sI (sI (sI (sI ν 358 28 0) 358 29 0) 358 31 0) 358 30 z) 358 32 (bI b)) 378 12 0) := ((((Sm.rfl'.wI 0 (k := 358) (j := 29) (by unfold mS; omega)).wI 0 (k := 358) (j := 31) (by unfold mS; omega)).wI _ (k := 358) (j := 30) (by unfold mS; omega)).wI _ (k := 358) (j := 32) (by unfold mS; omega)).wI 0 (k := 378) (j := 12) (by unfold mS; omega)
  exact hQ _ (h1.sm M3 s2) ((FM_mT s1).tr (FM_mS s2))
theorem op_7 (v1 v2 v3 v4 v5 : Int32) (μ : MM) : Rel μ → Glaw_7 v1 v2 v3 v4 v5 μ Rel := by
  rintro ⟨A, X, W, hV, hW, hC, hM⟩
  unfold Glaw_7 G11_law
  refine tx_op (b := true) (off := 0) (G := fun ν Q => G12_law v1 ν Q) (Or.inl rfl) rfl (fun i hi => ⟨(R0_ab i hi).1, Ob_e _ (by omega)⟩) ln_10.1 hV hW hC hM (fun i hi e ν Q h k => ?_) (fun q ν Q h k => ?_)
  · unfold G12_law G12_law_J23
    rw [Bd_eq]
    have h0 := m_thr h 0
    have f0 := fm_thr ν 0
    revert h0 f0
    generalize sI ν 358 0 0 = ν0
    intro h0 f0
    refine in0_s 5 rfl (by decide) (fun _ => ⟨fun r => absurd r (by decide), fun _ => ?_⟩) (fun q => absurd ⟨i, hi, e⟩ q)
    have := k ν0 h0 f0
    rw [Nat.zero_add, ← e] at this
    exact this
  · unfold G12_law G12_law_J23
    rw [Bd_eq]
    have h0 := m_thr h 0
    have f0 := fm_thr ν 0
    revert h0 f0
    generalize sI ν 358 0 0 = ν0
    intro h0 f0
    refine in0_s 5 rfl (by decide) (fun q1 => absurd q1 q) (fun _ => ⟨fun _ => ?_, fun r => absurd rfl r⟩)
    exact mtx_out (b := true) hV h0 (fun ν1 m1 f1 => k ν1 m1 (f0.tr f1))
theorem op_8 (v1 v2 v3 v4 v5 : Int32) (μ : MM) : Rel μ → Glaw_8 v1 v2 v3 v4 v5 μ Rel := by
  rintro ⟨A, X, W, hV, hW, hC, hM⟩
  unfold Glaw_8 G11_filter
  refine tx_op (b := false) (off := 6) (G := fun ν Q => G12_filter v1 ν Q) (Or.inr rfl) rfl (fun i hi => ⟨(R0_ab i hi).2, Ob_e _ (by omega)⟩) ln_10.2 hV hW hC hM (fun i hi e ν Q h k => ?_) (fun q ν Q h k => ?_)
  · unfold G12_filter G12_filter_J26
    rw [Bd_eq]
    have h0 := m_thr h 0
    have f0 := fm_thr ν 0
    revert h0 f0
    generalize sI ν 358 0 0 = ν0
    intro h0 f0
    refine in0_s 5 rfl (by decide) (fun _ => ⟨fun r => absurd r (by decide), fun _ => ?_⟩) (fun q => absurd ⟨i, hi, e⟩ q)
    have := k ν0 h0 f0
    rw [e, show (6 : Int32) + qN i = qN (6 + i) from qN_add 6 i]
    exact this
  · unfold G12_filter G12_filter_J26
    rw [Bd_eq]
    have h0 := m_thr h 0
    have f0 := fm_thr ν 0
    revert h0 f0
    generalize sI ν 358 0 0 = ν0
    intro h0 f0
    refine in0_s 5 rfl (by decide) (fun q1 => absurd q1 q) (fun _ => ⟨fun _ => ?_, fun r => absurd rfl r⟩)
    exact mtx_out (b := false) hV h0 (fun ν1 m1 f1 => k ν1 m1 (f0.tr f1))
