/-! explains: the model; op 33 -/
theorem frc_i {u u' : Int} {l l' : Nat} (hl : 0 < l) (hl' : 0 < l') (h : u * (l' : Int) = u' * (l : Int)) : frc u l = frc u' l' := by
  have ha : u.natAbs * l' = u'.natAbs * l := by
    have := congrArg Int.natAbs h
    rw [Int.natAbs_mul, Int.natAbs_mul] at this
    exact this
  obtain ⟨e1, e2⟩ := nfr_u hl hl' ha
  have g1 : Int.gcd u (l : Int) = Nat.gcd u.natAbs l := rfl
  have g2 : Int.gcd u' (l' : Int) = Nat.gcd u'.natAbs l' := rfl
  have q1 : (0 : Int) < (l : Int) := by omega
  have q2 : (0 : Int) < (l' : Int) := by omega
  rw [frc_e, frc_e, g1, g2, e2]
  have key : u.tdiv ((Nat.gcd u.natAbs l : Nat) : Int) = u'.tdiv ((Nat.gcd u'.natAbs l' : Nat) : Int) := by
    rcases Int.lt_or_le u 0 with s | s
    · have s' : u' < 0 := by
        rcases Int.lt_or_le u' 0 with t | t
        · exact t
        · have a1 := Int.mul_neg_of_neg_of_pos s q2
          have a2 := Int.mul_nonneg t (Int.le_of_lt q1)
          omega
      have x1 : u = -((u.natAbs : Nat) : Int) := by omega
      have x2 : u' = -((u'.natAbs : Nat) : Int) := by omega
      have y1 : u.tdiv ((Nat.gcd u.natAbs l : Nat) : Int) = -(((u.natAbs / Nat.gcd u.natAbs l : Nat)) : Int) := by
        generalize hg : Nat.gcd u.natAbs l = g
        rw [Int.ofNat_tdiv, ← Int.neg_tdiv, ← x1]
      have y2 : u'.tdiv ((Nat.gcd u'.natAbs l' : Nat) : Int) = -(((u'.natAbs / Nat.gcd u'.natAbs l' : Nat)) : Int) := by
        generalize hg : Nat.gcd u'.natAbs l' = g
        rw [Int.ofNat_tdiv, ← Int.neg_tdiv, ← x2]
      rw [y1, y2, e1]
    · have s' : 0 ≤ u' := by
        rcases Int.lt_or_le u' 0 with t | t
        · have a1 := Int.mul_neg_of_neg_of_pos t q1
          have a2 := Int.mul_nonneg s (Int.le_of_lt q2)
          omega
        · exact t
      have x1 : u = ((u.natAbs : Nat) : Int) := by omega
      have x2 : u' = ((u'.natAbs : Nat) : Int) := by omega
      have y1 : u.tdiv ((Nat.gcd u.natAbs l : Nat) : Int) = (((u.natAbs / Nat.gcd u.natAbs l : Nat)) : Int) := by
        generalize hg : Nat.gcd u.natAbs l = g
        rw [Int.ofNat_tdiv, ← x1]
      have y2 : u'.tdiv ((Nat.gcd u'.natAbs l' : Nat) : Int) = (((u'.natAbs / Nat.gcd u'.natAbs l' : Nat)) : Int) := by
        generalize hg : Nat.gcd u'.natAbs l' = g
        rw [Int.ofNat_tdiv, ← x2]
      rw [y1, y2, e1]
  rw [key]
theorem gcd_dv (u : Int) (l : Nat) : Int.gcd u (l : Int) ∣ l := by
  have := Int.gcd_dvd_natAbs_right u (l : Int)
  simpa using this
def zN1 (n : Int) (d : Nat) (a : Int) (T : Nat) : Int := n * ((T / Nat.gcd d T : Nat) : Int) + a * ((d / Nat.gcd d T : Nat) : Int)
def zNn (n : Int) (d : Nat) (a : Int) (T : Nat) : Int := (zN1 n d a T).tdiv (Int.gcd (zN1 n d a T) (sD1 d T))
def zDn (n : Int) (d : Nat) (a : Int) (T : Nat) : Nat := sD1 d T / Int.gcd (zN1 n d a T) (sD1 d T)
theorem m_sumsI {n a : Int} {d T : Nat} {μ : MM} {Q : MM → Prop} (hd : 0 < d) (hT : 0 < T) (d2 : d < 9223372036854775808) (T2 : T < 9223372036854775808) (n2 : (zN1 n d a T).natAbs < 9223372036854775808) (e2 : sD1 d T < 9223372036854775808)
    (h1 : gJ μ 358 59 = qJ n) (h2 : gJ μ 358 60 = qL d)
    (hQ : ∀ μ', Sm (fun k j => k = 358 ∧ (j = 59 ∨ j = 60)) μ μ' → gJ μ' 358 59 = qJ (zNn n d a T) → gJ μ' 358 60 = qL (zDn n d a T) → Q μ') : G12_sums (qJ a) (qL T) μ Q := by
  unfold G12_sums
  rw [h2]
  have g0 : 0 < Nat.gcd d T := Nat.gcd_pos_of_pos_left T hd
  have gl : Nat.gcd d T ≤ d := Nat.le_of_dvd hd (Nat.gcd_dvd_left d T)
  have y0 : 0 < sD1 d T := Nat.mul_pos (Nat.div_pos gl g0) hT
  rw [qL_J d]
  refine m_gcd ⟨by omega, by omega⟩ T2 ?_
  rw [show Int.gcd (d : Int) (T : Int) = Nat.gcd d T from rfl]
  have ng : ¬ (qL (Nat.gcd d T) = 0) := by rw [qL_0 (by omega)]; omega
  refine ⟨ng, ng, ?_⟩
  rw [h1, h2, qL_div T2 (by omega), qL_div d2 (by omega), qL_mul, qL_J (T / Nat.gcd d T), qL_J (d / Nat.gcd d T), qJ_mul, qJ_mul, qJ_add, Bd_eq]
  refine ⟨ng, ?_⟩
  show Bd (qL (sD1 d T)) fun y20 => G12_common (qJ (zN1 n d a T)) y20 μ _
  rw [Bd_eq]
  refine m_gcd (fit_abs n2) e2 ?_
  rw [show n * ((T / Nat.gcd d T : Nat) : Int) + a * ((d / Nat.gcd d T : Nat) : Int) = zN1 n d a T from rfl]
  have k0 := gcd_pos (u := zN1 n d a T) y0
  have kl := gcd_le (u := zN1 n d a T) y0
  have nk : ¬ (qL (Int.gcd (zN1 n d a T) (sD1 d T)) = 0) := by rw [qL_0 (by omega)]; omega
  refine ⟨nk, ?_⟩
  rw [Bd_eq]
  refine ⟨nk, ?_⟩
  have ed : qJ (zN1 n d a T) / qL (Int.gcd (zN1 n d a T) (sD1 d T)) = qJ (zNn n d a T) := by
    rw [qL_J, qJ_div (by omega) (by omega) (by omega) (by omega)]; rfl
  rw [Bd_eq, ed, qL_div e2 (by omega)]
  exact hQ _ ((Sm.rfl'.wJ _ (k := 358) (j := 59) ⟨rfl, Or.inl rfl⟩).wJ _ (k := 358) (j := 60) ⟨rfl, Or.inr rfl⟩) (by simp [gJ_J]) (by simp [gJ_J]; rfl)
/-- the running fraction -/
def FrI (A : Nat → Nat → Nat) (w : Nat) (n : Int) (d v : Nat) : Prop := 0 < d ∧ Nat.gcd n.natAbs d = 1 ∧ n * (exD A w : Int) = exJ A w v * (d : Int)
theorem FrI_d {A : Nat → Nat → Nat} {w : Nat} {n : Int} {d v : Nat} (h : FrI A w n d v) : d ≤ exD A w := by
  obtain ⟨h1, h2, h3⟩ := h
  have ha : n.natAbs * exD A w = (exJ A w v).natAbs * d := by
    have := congrArg Int.natAbs h3
    rw [Int.natAbs_mul, Int.natAbs_mul] at this
    exact this
  have dv : d ∣ n.natAbs * exD A w := ⟨(exJ A w v).natAbs, by rw [ha, Nat.mul_comm]⟩
  have cop : Nat.Coprime d n.natAbs := by rw [Nat.coprime_comm]; exact h2
  exact Nat.le_of_dvd (exLc_p A w 20) (cop.dvd_of_dvd_mul_left dv)
theorem FrI_n {A X : Nat → Nat → Nat} (hV : Inv A X) {w : Nat} {n : Int} {d v : Nat} (h : FrI A w n d v) : n.natAbs ≤ 96 * d := by
  obtain ⟨h1, h2, h3⟩ := h
  have ha : n.natAbs * exD A w = (exJ A w v).natAbs * d := by
    have := congrArg Int.natAbs h3
    rw [Int.natAbs_mul, Int.natAbs_mul] at this
    exact this
  have dp : 0 < exD A w := exLc_p A w 20
  refine Nat.le_of_mul_le_mul_right (c := exD A w) ?_ dp
  rw [ha]
  refine Nat.le_trans (Nat.mul_le_mul_right _ (exJ_B hV w v)) (Nat.le_of_eq ?_)
  ac_rfl
theorem FrI_0 (A : Nat → Nat → Nat) (w : Nat) : FrI A w 0 1 0 := ⟨by decide, by decide, by rw [Int.zero_mul]; exact (Int.zero_mul _).symm⟩
theorem FrI_no {A : Nat → Nat → Nat} {w : Nat} {n : Int} {d v : Nat} (h : FrI A w n d v) (hz : ¬ exM A w v = true) : FrI A w n d (v + 1) := by
  obtain ⟨h1, h2, h3⟩ := h
  refine ⟨h1, h2, ?_⟩
  rw [h3]
  show _ = (exJ A w v + eas A w v * (jT A w v : Int)) * _
  unfold eas
  rw [if_neg hz, Int.zero_mul, Int.add_zero]
theorem zN1_c (n : Int) (d : Nat) (a : Int) (T : Nat) : ((Nat.gcd d T : Nat) : Int) * zN1 n d a T = n * (T : Int) + a * (d : Int) := by
  have t : Nat.gcd d T * (T / Nat.gcd d T) = T := Nat.mul_div_cancel' (Nat.gcd_dvd_right d T)
  have e : Nat.gcd d T * (d / Nat.gcd d T) = d := Nat.mul_div_cancel' (Nat.gcd_dvd_left d T)
  unfold zN1
  revert t e
  generalize T / Nat.gcd d T = x
  generalize d / Nat.gcd d T = y
  generalize Nat.gcd d T = c
  intro t e
  subst t e
  rw [Int.mul_add, Int.natCast_mul, Int.natCast_mul]
  congr 1
  · ac_rfl
  · ac_rfl
theorem sD1_c (d T : Nat) : Nat.gcd d T * sD1 d T = d * T := by
  have e : Nat.gcd d T * (d / Nat.gcd d T) = d := Nat.mul_div_cancel' (Nat.gcd_dvd_left d T)
  unfold sD1
  rw [← Nat.mul_assoc, e]
theorem tdiv_c {u : Int} {l : Nat} : u.tdiv (Int.gcd u l) * (Int.gcd u l : Int) = u := Int.tdiv_mul_cancel (Int.gcd_dvd_left u l)
theorem FrI_yes {A : Nat → Nat → Nat} {w : Nat} {n : Int} {d v : Nat} (h : FrI A w n d v) (hz : exM A w v = true) (hv : v < 10) : FrI A w (zNn n d (asU A (sB A w v) * (jT A w v : Int)) (asL A (sB A w v))) (zDn n d (asU A (sB A w v) * (jT A w v : Int)) (asL A (sB A w v))) (v + 1) := by
  obtain ⟨h1, h2, h3⟩ := h
  have Lp := asL_p ((exM_as A w v).mpr hz)
  obtain ⟨dv0, dv1⟩ := exD_dvd hv hz
  have ea : eas A w v * (asL A (sB A w v) : Int) = asU A (sB A w v) * (exD A w : Int) := by
    unfold eas
    rw [if_pos hz]
    show ((jr A w v 0 : Int) * ((exD A w / jc A w v 0 : Nat) : Int) - (jr A w v 1 : Int) * ((exD A w / jc A w v 1 : Nat) : Int)) * ((jc A w v 0 * jc A w v 1 : Nat) : Int) = ((jr A w v 0 : Int) * (jc A w v 1 : Int) - (jr A w v 1 : Int) * (jc A w v 0 : Int)) * (exD A w : Int)
    have e0 : exD A w = exD A w / jc A w v 0 * jc A w v 0 := (Nat.div_mul_cancel dv0).symm
    have e1 : exD A w = exD A w / jc A w v 1 * jc A w v 1 := (Nat.div_mul_cancel dv1).symm
    rw [Int.sub_mul, Int.sub_mul, Int.natCast_mul]
    congr 1
    · have : (exD A w : Int) = ((exD A w / jc A w v 0 : Nat) : Int) * (jc A w v 0 : Int) := by rw [← Int.natCast_mul, ← e0]
      rw [this]
      generalize ((exD A w / jc A w v 0 : Nat) : Int) = x
      ac_rfl
    · have : (exD A w : Int) = ((exD A w / jc A w v 1 : Nat) : Int) * (jc A w v 1 : Int) := by rw [← Int.natCast_mul, ← e1]
      rw [this]
      generalize ((exD A w / jc A w v 1 : Nat) : Int) = x
      ac_rfl
  have eJ : exJ A w (v + 1) = exJ A w v + eas A w v * (jT A w v : Int) := rfl
  have c1 := zN1_c n d (asU A (sB A w v) * (jT A w v : Int)) (asL A (sB A w v))
  have c2 := sD1_c d (asL A (sB A w v))
  have c0 : 0 < Nat.gcd d (asL A (sB A w v)) := Nat.gcd_pos_of_pos_left _ h1
  have y0 : 0 < sD1 d (asL A (sB A w v)) := by
    rcases Nat.eq_zero_or_pos (sD1 d (asL A (sB A w v))) with q | q
    · rw [q, Nat.mul_zero] at c2
      have := Nat.mul_pos h1 Lp
      omega
    · exact q
  unfold zNn zDn
  revert c1 c2 c0 y0
  generalize zN1 n d (asU A (sB A w v) * (jT A w v : Int)) (asL A (sB A w v)) = N1
  generalize sD1 d (asL A (sB A w v)) = D1
  generalize Nat.gcd d (asL A (sB A w v)) = c
  intro c1 c2 c0 y0
  have k0 := gcd_pos (u := N1) y0
  have kd : Int.gcd N1 D1 ∣ D1 := by
    have := Int.gcd_dvd_natAbs_right N1 (D1 : Int)
    simpa using this
  have main : N1 * (exD A w : Int) = exJ A w (v + 1) * (D1 : Int) := by
    refine Int.eq_of_mul_eq_mul_left (a := (c : Int)) (by omega) ?_
    have c2' : (c : Int) * (D1 : Int) = (d : Int) * (asL A (sB A w v) : Int) := by rw [← Int.natCast_mul, ← Int.natCast_mul, c2]
    calc (c : Int) * (N1 * (exD A w : Int)) = ((c : Int) * N1) * (exD A w : Int) := by rw [Int.mul_assoc]
      _ = (n * (exD A w : Int)) * (asL A (sB A w v) : Int) + (asU A (sB A w v) * (exD A w : Int)) * ((jT A w v : Int) * (d : Int)) := by
        rw [c1, Int.add_mul]; congr 1 <;> ac_rfl
      _ = (exJ A w v * (d : Int)) * (asL A (sB A w v) : Int) + (eas A w v * (asL A (sB A w v) : Int)) * ((jT A w v : Int) * (d : Int)) := by rw [h3, ea]
      _ = (exJ A w v + eas A w v * (jT A w v : Int)) * ((d : Int) * (asL A (sB A w v) : Int)) := by
        rw [Int.add_mul]; congr 1 <;> ac_rfl
      _ = (c : Int) * (exJ A w (v + 1) * (D1 : Int)) := by rw [eJ, ← c2']; ac_rfl
  refine ⟨Nat.div_pos (Nat.le_of_dvd y0 kd) k0, ?_, ?_⟩
  · have e : (N1.tdiv (Int.gcd N1 D1)).natAbs = N1.natAbs / Nat.gcd N1.natAbs D1 := by
      rw [Int.natAbs_tdiv]; rfl
    rw [e]
    exact Nat.coprime_div_gcd_div_gcd k0
  · refine Int.eq_of_mul_eq_mul_left (a := (Int.gcd N1 D1 : Int)) (by omega) ?_
    have t1 := tdiv_c (u := N1) (l := D1)
    have t2 : ((D1 / Int.gcd N1 D1 : Nat) : Int) * (Int.gcd N1 D1 : Int) = (D1 : Int) := by rw [← Int.natCast_mul, Nat.div_mul_cancel kd]
    calc (Int.gcd N1 D1 : Int) * (N1.tdiv (Int.gcd N1 D1) * (exD A w : Int)) = (N1.tdiv (Int.gcd N1 D1) * (Int.gcd N1 D1 : Int)) * (exD A w : Int) := by ac_rfl
      _ = exJ A w (v + 1) * (D1 : Int) := by rw [t1, main]
      _ = exJ A w (v + 1) * (((D1 / Int.gcd N1 D1 : Nat) : Int) * (Int.gcd N1 D1 : Int)) := by rw [t2]
      _ = (Int.gcd N1 D1 : Int) * (exJ A w (v + 1) * ((D1 / Int.gcd N1 D1 : Nat) : Int)) := by ac_rfl
theorem zN1_b {n a : Int} {d T x y : Nat} (h1 : n.natAbs * T ≤ x) (h2 : a.natAbs * d ≤ y) : (zN1 n d a T).natAbs ≤ x + y := by
  have k1 : (n * ((T / Nat.gcd d T : Nat) : Int)).natAbs ≤ x := by
    rw [Int.natAbs_mul]
    exact Nat.le_trans (Nat.mul_le_mul_left _ (Nat.div_le_self _ _)) h1
  have k2 : (a * ((d / Nat.gcd d T : Nat) : Int)).natAbs ≤ y := by
    rw [Int.natAbs_mul]
    exact Nat.le_trans (Nat.mul_le_mul_left _ (Nat.div_le_self _ _)) h2
  unfold zN1
  omega
theorem sD1_b {d T x : Nat} (h : d * T ≤ x) : sD1 d T ≤ x := Nat.le_trans (Nat.mul_le_mul_right _ (Nat.div_le_self _ _)) h
theorem m_explainsW {A X : Nat → Nat → Nat} {W : List Int64} {μ : MM} {w : Nat} {Q : Int32 → MM → Prop} (hV : Inv A X) (h : Ms A X W μ) (hw : w < 4)
    (hy : exN A w 10 ≠ 0 → ∀ μ', Ms A X (exW A w) μ' → FM μ μ' → Q 0 μ') (hz : exN A w 10 = 0 → ∀ μ', Ms A X W μ' → FM μ μ' → Q (-2) μ') : Bd (sJ μ 358 59 0) fun μ30 => Bd (sJ μ30 358 60 1) fun μ31 => Lp (G12_explains_L33 (qN w) Q) (0, 0, μ31) := by
  have hn : A 358 12 < 97 := hV.b 358 12 (by unfold dom; decide)
  have M3 := mn378 hV
  have db : exD A w ≤ 2298659454213 := exLc_b hV w 20
  have dp : 0 < exD A w := exLc_p A w 20
  have nb := exN_b hV w
  rw [Bd_eq, Bd_eq]
  have sj : ∀ ν : MM, ∀ x y : Int64, Sm mS ν (sJ (sJ ν 358 59 x) 358 60 y) := fun ν x y => (Sm.rfl'.wJ _ (k := 358) (j := 59) (by unfold mS; omega)).wJ _ (k := 358) (j := 60) (by unfold mS; omega)
  have s5 : ∀ ν ν' : MM, Sm (fun k j => k = 358 ∧ (j = 59 ∨ j = 60)) ν ν' → Sm mS ν ν' := fun ν ν' s => s.mo (fun k j q => by unfold mS; omega)
  have s3 : ∀ ν ν' : MM, Sm (fun k _ => k = 381 ∨ k = 382) ν ν' → Sm mS ν ν' := fun ν ν' s => s.mo (fun k j q => by unfold mS; omega)
  have t10 : ∀ v, v < 11 → ((10 : Int32) ≤ qN v ↔ 10 ≤ v) := fun v hv => qN_le (a := 10) (by decide) (by omega)
  refine Lp.up 10 (fun v (x : Int32 × Int32 × MM) => x.1 = qN (exN A w v) ∧ x.2.1 = qN v ∧ Ms A X W x.2.2 ∧ FM μ x.2.2 ∧ ∃ n d, FrI A w n d v ∧ gJ x.2.2 358 59 = qJ n ∧ gJ x.2.2 358 60 = qL d) ?_ ⟨rfl, rfl, h.sm M3 (sj μ 0 1), FM_mS (sj μ 0 1), 0, 1, FrI_0 A w, rfl, rfl⟩
  rintro v K hv hK ⟨x1, x2, ν⟩ ⟨e1, e2, hC, hF, n, d, fr, g1, g2⟩
  simp only at e1 e2 hC hF g1 g2
  subst e1 e2
  have fd := FrI_d fr
  have fn := FrI_n hV fr
  have d0 : 0 < d := fr.1
  unfold G12_explains_L33
  simp only [t10 v (by omega), show qN v + 1 = qN (v + 1) from qN_add v 1]
  refine ⟨fun q => ?_, fun q => ?_⟩
  · have e : v = 10 := by omega
    subst e
    clear hK K q hv
    have n10 := nb 10
    have z : qN (exN A w 10) = 0 ↔ exN A w 10 = 0 := qN_eq (b := 0) (by omega) (by decide)
    rw [z]
    refine ⟨fun r => ?_, fun r => hz r ν hC hF⟩
    have mN : d * exN A w 10 ≤ 2298659454213 * 96 := Nat.mul_le_mul (Nat.le_trans fd db) n10
    have mp : 0 < d * exN A w 10 := Nat.mul_pos d0 (by omega)
    have mD : exD A w * exN A w 10 ≤ 2298659454213 * 96 := Nat.mul_le_mul db n10
    have mDp : 0 < exD A w * exN A w 10 := Nat.mul_pos dp (by omega)
    have nB : n.natAbs ≤ 96 * 2298659454213 := Nat.le_trans fn (Nat.mul_le_mul_left _ (Nat.le_trans fd db))
    rw [g1, g2, qN_6 (by omega), qL_mul]
    refine m_gcd (fit_abs (by omega)) (by omega) ?_
    have k0 := gcd_pos (u := n) mp
    have kl := gcd_le (u := n) mp
    have ng : ¬ (qL (Int.gcd n (d * exN A w 10 : Nat)) = 0) := by rw [qL_0 (by omega)]; omega
    have eu : qJ n / qL (Int.gcd n (d * exN A w 10 : Nat)) = qJ (n.tdiv (Int.gcd n (d * exN A w 10 : Nat))) := by
      rw [qL_J, qJ_div (by omega) (by omega) (by omega) (by omega)]
    rw [g1, g2, qL_mul, eu, qL_div (by omega) (by omega), Bd_eq, Bd_eq]
    refine ⟨ng, ng, ?_⟩
    have hx1 := fr.2.2
    have key1 : frc n (d * exN A w 10) = frc (exJ A w 10) (exD A w * exN A w 10) := frc_i mp mDp (by
      rw [Int.natCast_mul, Int.natCast_mul]
      calc n * ((exD A w : Int) * (exN A w 10 : Int)) = (n * (exD A w : Int)) * (exN A w 10 : Int) := by ac_rfl
        _ = exJ A w 10 * (d : Int) * (exN A w 10 : Int) := by rw [hx1]
        _ = exJ A w 10 * ((d : Int) * (exN A w 10 : Int)) := by ac_rfl)
    have kdv : Int.gcd n (d * exN A w 10 : Nat) ∣ d * exN A w 10 := gcd_dv n (d * exN A w 10)
    have tu := tdiv_c (u := n) (l := d * exN A w 10)
    have tl : d * exN A w 10 / Int.gcd n (d * exN A w 10 : Nat) * Int.gcd n (d * exN A w 10 : Nat) = d * exN A w 10 := Nat.div_mul_cancel kdv
    have lop : 0 < d * exN A w 10 / Int.gcd n (d * exN A w 10 : Nat) := Nat.div_pos kl k0
    have lob : d * exN A w 10 / Int.gcd n (d * exN A w 10 : Nat) ≤ 2298659454213 * 96 := Nat.le_trans (Nat.div_le_self _ _) mN
    have upb : (n.tdiv (Int.gcd n (d * exN A w 10 : Nat))).natAbs ≤ 96 * 2298659454213 := Nat.le_trans (Int.natAbs_tdiv_le_natAbs _ _) nB
    have fe := frc_e n (d * exN A w 10)
    rw [key1] at fe
    have cross : n.tdiv (Int.gcd n (d * exN A w 10 : Nat)) * ((exD A w * exN A w 10 : Nat) : Int) = exJ A w 10 * ((d * exN A w 10 / Int.gcd n (d * exN A w 10 : Nat) : Nat) : Int) := by
      refine Int.eq_of_mul_eq_mul_left (a := (Int.gcd n (d * exN A w 10 : Nat) : Int)) (by omega) ?_
      have tl' : ((d * exN A w 10 / Int.gcd n (d * exN A w 10 : Nat) : Nat) : Int) * (Int.gcd n (d * exN A w 10 : Nat) : Int) = ((d * exN A w 10 : Nat) : Int) := by rw [← Int.natCast_mul, tl]
      calc (Int.gcd n (d * exN A w 10 : Nat) : Int) * (n.tdiv (Int.gcd n (d * exN A w 10 : Nat)) * ((exD A w * exN A w 10 : Nat) : Int)) = (n.tdiv (Int.gcd n (d * exN A w 10 : Nat)) * (Int.gcd n (d * exN A w 10 : Nat) : Int)) * ((exD A w * exN A w 10 : Nat) : Int) := by ac_rfl
        _ = n * ((exD A w : Int) * (exN A w 10 : Int)) := by rw [tu, Int.natCast_mul]
        _ = (n * (exD A w : Int)) * (exN A w 10 : Int) := by ac_rfl
        _ = exJ A w 10 * ((d * exN A w 10 : Nat) : Int) := by rw [hx1, Int.natCast_mul]; ac_rfl
        _ = exJ A w 10 * (((d * exN A w 10 / Int.gcd n (d * exN A w 10 : Nat) : Nat) : Int) * (Int.gcd n (d * exN A w 10 : Nat) : Int)) := by rw [tl']
        _ = _ := by ac_rfl
    revert lop lob upb fe cross
    generalize n.tdiv (Int.gcd n (d * exN A w 10 : Nat)) = up
    generalize d * exN A w 10 / Int.gcd n (d * exN A w 10 : Nat) = lo
    intro lop lob upb fe cross
    clear tu tl kdv ng eu k0 kl key1
    refine m_counts hV hC (tF_cs A) (fun μ3 h3 f3 hT => ?_)
    replace hT : Tl μ3 380 A (sA A) (A 358 12) := Tl_congr (fun i hi => mSel_all hV.b (show i < 96 by omega)) hT
    obtain ⟨v0, hv0⟩ := exN_both 10 r
    have Lp := asL_p (sA_both hv0)
    have Lb := asL_b (A := A) (S := sA A) hn
    have ub := asU_b (A := A) (S := sA A) hn
    rw [m_cross hn hT, qI_6 (by omega) (by omega), Bd_eq, Bd_eq]
    have sl : (gI (sJ μ3 358 59 (qJ (asU A (sA A)))) 381 0).toInt64 * (gI (sJ μ3 358 59 (qJ (asU A (sA A)))) 381 1).toInt64 = qL (asL A (sA A)) := by
      rw [gI_J, gI_J, m_low hn hT, qL_J]
    rw [sl, qJ_neg]
    have h4 := h3.sm M3 (sj μ3 (qJ (asU A (sA A))) (qL (asL A (sA A))))
    have f4 := FM_mS (sj μ3 (qJ (asU A (sA A))) (qL (asL A (sA A))))
    have lom : asL A (sA A) * lo ≤ 9216 * (2298659454213 * 96) := Nat.mul_le_mul Lb lob
    refine m_sumsI (n := asU A (sA A)) (d := asL A (sA A)) (a := -up) (T := lo) Lp lop (by omega) (by omega) ?_ ?_ (by rw [gJ_J, if_neg (by decide), gJ_J, if_pos ⟨rfl, rfl⟩]) (by rw [gJ_J, if_pos ⟨rfl, rfl⟩]) (fun μ5 s6 q1 q2 => ?_)
    · have b1 : (asU A (sA A)).natAbs * lo ≤ 9216 * (2298659454213 * 96) := Nat.mul_le_mul (by omega) lob
      have b2 : (-up).natAbs * asL A (sA A) ≤ (96 * 2298659454213) * 9216 := Nat.mul_le_mul (by rw [Int.natAbs_neg]; exact upb) Lb
      have := zN1_b b1 b2
      omega
    · have := sD1_b lom
      omega
    have h5 := h4.sm M3 (s5 _ _ s6)
    have y0 : 0 < sD1 (asL A (sA A)) lo := by
      have c2 := sD1_c (asL A (sA A)) lo
      rcases Nat.eq_zero_or_pos (sD1 (asL A (sA A)) lo) with q | q
      · rw [q, Nat.mul_zero] at c2
        have := Nat.mul_pos Lp lop
        omega
      · exact q
    have key2 : frc (zN1 (asU A (sA A)) (asL A (sA A)) (-up) lo) (sD1 (asL A (sA A)) lo) = frc (asU A (sA A) * ((exD A w * exN A w 10 : Nat) : Int) - exJ A w 10 * (asL A (sA A) : Int)) (asL A (sA A) * (exD A w * exN A w 10)) := frc_i y0 (Nat.mul_pos Lp mDp) (by
      have c1 := zN1_c (asU A (sA A)) (asL A (sA A)) (-up) lo
      have c2 := sD1_c (asL A (sA A)) lo
      have c0 : 0 < Nat.gcd (asL A (sA A)) lo := Nat.gcd_pos_of_pos_left _ Lp
      revert c1 c2 c0
      generalize zN1 (asU A (sA A)) (asL A (sA A)) (-up) lo = N1
      generalize sD1 (asL A (sA A)) lo = D1
      generalize Nat.gcd (asL A (sA A)) lo = c
      intro c1 c2 c0
      refine Int.eq_of_mul_eq_mul_left (a := (c : Int)) (by omega) ?_
      have c2' : (c : Int) * (D1 : Int) = (asL A (sA A) : Int) * (lo : Int) := by rw [← Int.natCast_mul, ← Int.natCast_mul, c2]
      rw [Int.natCast_mul (asL A (sA A))]
      revert cross c1 c2'
      generalize ((exD A w * exN A w 10 : Nat) : Int) = DN
      generalize (asL A (sA A) : Int) = Lw
      generalize asU A (sA A) = U
      generalize exJ A w 10 = J
      generalize (lo : Int) = l
      intro cross c1 c2'
      calc (c : Int) * (N1 * (Lw * DN)) = ((c : Int) * N1) * (Lw * DN) := by ac_rfl
        _ = (U * l) * (Lw * DN) + (-up * Lw) * (Lw * DN) := by rw [c1, Int.add_mul]
        _ = (U * DN) * (Lw * l) + -((up * DN) * (Lw * Lw)) := by
          congr 1
          · ac_rfl
          · rw [Int.neg_mul, Int.neg_mul]; congr 1; ac_rfl
        _ = (U * DN) * (Lw * l) + -((J * Lw) * (Lw * l)) := by
          congr 2
          rw [cross]; ac_rfl
        _ = (U * DN - J * Lw) * (Lw * l) := by rw [Int.sub_mul, Int.sub_eq_add_neg]
        _ = (c : Int) * ((U * DN - J * Lw) * (D1 : Int)) := by rw [← c2']; ac_rfl)
    have fe2 := frc_e (zN1 (asU A (sA A)) (asL A (sA A)) (-up) lo) (sD1 (asL A (sA A)) lo)
    rw [key2] at fe2
    refine m_rclear h5 (fun μ6 h6 f6 => ?_)
    refine m_radd h6 (by decide) (fun μ7 h7 f7 => ?_)
    refine m_radd h7 (by simp) (fun μ8 h8 f8 => ?_)
    have r1 : gJ μ8 358 59 = qJ (zNn (asU A (sA A)) (asL A (sA A)) (-up) lo) := by
      rw [(f8.1 358 59 (by omega)).2, (f7.1 358 59 (by omega)).2, (f6.1 358 59 (by omega)).2]; exact q1
    have r2 : gJ μ8 358 60 = qL (zDn (asU A (sA A)) (asL A (sA A)) (-up) lo) := by
      rw [(f8.1 358 60 (by omega)).2, (f7.1 358 60 (by omega)).2, (f6.1 358 60 (by omega)).2]; exact q2
    rw [r1]
    refine m_radd h8 (by simp) (fun μ9 h9 f9 => ?_)
    have r3 : gJ μ9 358 60 = qL (zDn (asU A (sA A)) (asL A (sA A)) (-up) lo) := by
      rw [(f9.1 358 60 (by omega)).2]; exact r2
    rw [r3]
    refine m_radd h9 (by simp) (fun μ10 h10 f10 => ?_)
    have ew : exW A w = ((([] ++ [qJ up]) ++ [qL lo]) ++ [qJ (zNn (asU A (sA A)) (asL A (sA A)) (-up) lo)]) ++ [qL (zDn (asU A (sA A)) (asL A (sA A)) (-up) lo)] := by
      unfold exW
      rw [fe, fe2]
      rfl
    rw [← ew] at h10
    exact hy r μ10 h10 ((((((((hF.tr (FM_mS (f3.mo (fun k j q => nS_m q)))).tr f4).tr (FM_mS (s5 _ _ s6))).tr (FM_row f6)).tr (FM_row f7)).tr (FM_row f8)).tr (FM_row f9)).tr (FM_row f10))
  · have lv : v < 10 := by omega
    have hk := hK lv
    refine m_countsBy hV hC hw (by omega) (fun μ3 h3 s6 hT => ?_)
    have u1 : gJ μ3 358 59 = qJ n := by rw [(s6.1 358 59 (by omega)).2]; exact g1
    have u2 : gJ μ3 358 60 = qL d := by rw [(s6.1 358 60 (by omega)).2]; exact g2
    have hF3 := hF.tr (FM_mS (s3 _ _ s6))
    refine m_areBoth hn hT (fun z => ⟨fun r2 => absurd r2 (by decide), fun _ => ?_⟩) (fun z => ⟨fun _ => ?_, fun r2 => absurd rfl r2⟩)
    · have zz := (exM_as A w v).mp z
      have k0 : gI μ3 381 0 = qN (jc A w v 0) := (hT 0 (by decide)).1
      have k1 : gI μ3 381 1 = qN (jc A w v 1) := (hT 1 (by decide)).1
      have tb := jT_b hV w v
      have ub := asU_b (A := A) (S := sB A w v) hn
      have Lb := asL_b (A := A) (S := sB A w v) hn
      have Lp := asL_p z
      have te : jc A w v 0 + jc A w v 1 = jT A w v := rfl
      rw [m_cross hn hT, qI_6 (by omega) (by omega), m_low hn hT, k0, k1, qN_add, te, qN_J (by omega), qJ_mul, ← qL_J]
      have b1 : n.natAbs * asL A (sB A w v) ≤ (96 * 2298659454213) * 9216 := Nat.mul_le_mul (Nat.le_trans fn (Nat.mul_le_mul_left _ (Nat.le_trans fd db))) Lb
      have b2 : (asU A (sB A w v) * (jT A w v : Int)).natAbs * d ≤ (9216 * 96) * 2298659454213 := by
        refine Nat.mul_le_mul ?_ (Nat.le_trans fd db)
        rw [Int.natAbs_mul]
        exact Nat.mul_le_mul (by omega) (by omega)
      have b3 : d * asL A (sB A w v) ≤ 2298659454213 * 9216 := Nat.mul_le_mul (Nat.le_trans fd db) Lb
      refine m_sumsI d0 Lp (by omega) (by omega) (by have := zN1_b b1 b2; omega) (by have := sD1_b b3; omega) u1 u2 (fun μ4 s7 q1 q2 => ?_)
      have k0' : gI μ4 381 0 = qN (jc A w v 0) := by rw [(s7.1 381 0 (by omega)).1]; exact k0
      have k1' : gI μ4 381 1 = qN (jc A w v 1) := by rw [(s7.1 381 1 (by omega)).1]; exact k1
      rw [k0', k1', qN_add, qN_add, te, Bd_eq]
      refine hk _ ⟨?_, rfl, h3.sm M3 (s5 _ _ s7), hF3.tr (FM_mS (s5 _ _ s7)), _, _, FrI_yes fr zz lv, q1, q2⟩
      show qN (exN A w v + jT A w v) = qN (exN A w v + (if exM A w v = true then jT A w v else 0))
      rw [if_pos zz]
    · have zz : ¬ exM A w v = true := fun r2 => z ((exM_as A w v).mpr r2)
      refine hk _ ⟨?_, rfl, h3, hF3, n, d, FrI_no fr zz, u1, u2⟩
      show qN (exN A w v) = qN (exN A w v + (if exM A w v = true then jT A w v else 0))
      rw [if_neg zz, Nat.add_zero]
theorem exW_len (A : Nat → Nat → Nat) (w : Nat) : (exW A w).length = 4 := by
  unfold exW
  rw [List.nil_append, List.length_append, frc_len, frc_len]
theorem op_33 (v1 v2 v3 v4 v5 : Int32) (μ : MM) : Rel μ → Glaw_33 v1 v2 v3 v4 v5 μ Rel := by
  rintro ⟨A, X, W, hV, hW, hC, hM⟩
  have M : ∀ (ν : MM) (Q : Int32 → MM → Prop), Ms A X W ν → (∀ w, w < 4 → v1 = qN w → ∀ ν0, Ms A X W ν0 → FM ν ν0 → Bd (sJ ν0 358 59 0) fun μ30 => Bd (sJ μ30 358 60 1) fun μ31 => Lp (G12_explains_L33 (qN w) Q) (0, 0, μ31)) → (¬ inr v1 4 → ∀ ν0, Ms A X W ν0 → FM ν ν0 → Q (-1) ν0) → G12_explains v1 ν Q := fun ν Q h hy hn => by
    unfold G12_explains
    rw [Bd_eq]
    have h0 := m_thr h 0
    have f0 := fm_thr ν 0
    revert h0 f0
    generalize sI ν 358 0 0 = ν0
    intro h0 f0
    refine in0_s 3 rfl (by decide) (fun q1 => ⟨fun _ => ?_, fun r => absurd r (by decide)⟩) (fun q1 => ⟨fun r => absurd rfl r, fun _ => hn q1 _ h0 f0⟩)
    obtain ⟨w, hw, e⟩ := q1
    have hy' := hy w hw e ν0 h0 f0
    rw [e]
    exact hy'
  unfold Glaw_33 G11_explains G2_tellExplained
  refine within0_s 3 rfl (by decide) (fun q1 => ⟨fun _ => ?_, fun r => absurd r (by decide)⟩) (fun q1 => ⟨fun r => absurd rfl r, fun _ => ?_⟩)
  · obtain ⟨w, hw, e⟩ := q1
    rw [e]
    refine c_explainsW hV hC hw (fun q0 μ1 h1 f1 => ?_) (fun q0 μ1 h1 f1 => ?_)
    · rw [← e]
      refine M _ _ (hM.fc f1) (fun w' hw' e' ν0 m0 f0 => ?_) (fun q => absurd ⟨w, hw, e⟩ q)
      obtain rfl := qN_inj (e.symm.trans e') (by omega) (by omega)
      refine m_explainsW hV m0 hw (fun _ μ2 h2 f2 => ?_) (fun q => absurd q q0)
      refine ⟨fun _ => ⟨A, X, _, hV, ?_, h1.fm (f0.tr f2), h2⟩, fun q => q rfl⟩
      rw [exW_len]; decide
    · rw [← e]
      refine M _ _ (hM.fc f1) (fun w' hw' e' ν0 m0 f0 => ?_) (fun q => absurd ⟨w, hw, e⟩ q)
      obtain rfl := qN_inj (e.symm.trans e') (by omega) (by omega)
      refine m_explainsW hV m0 hw (fun q => absurd q0 q) (fun _ μ2 h2 f2 => ?_)
      exact ⟨fun _ => ⟨A, X, W, hV, hW, h1.fm (f0.tr f2), h2⟩, fun q => q rfl⟩
  · refine M _ _ hM (fun w' hw' e' _ _ _ => absurd ⟨w', hw', e'⟩ q1) (fun _ ν0 m0 f0 => ?_)
    exact ⟨fun _ => ⟨A, X, W, hV, hW, hC.fm f0, m0⟩, fun q => q rfl⟩
