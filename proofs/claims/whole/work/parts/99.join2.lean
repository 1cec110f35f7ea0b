/-! join: the model -/
def sD1 (d T : Nat) : Nat := d / Nat.gcd d T * T
def sN1 (n d a T : Nat) : Nat := n * (T / Nat.gcd d T) + a * (d / Nat.gcd d T)
def sNn (n d a T : Nat) : Nat := sN1 n d a T / Nat.gcd (sN1 n d a T) (sD1 d T)
def sDn (n d a T : Nat) : Nat := sD1 d T / Nat.gcd (sN1 n d a T) (sD1 d T)
theorem m_sums {n d a T : Nat} {μ : MM} {Q : MM → Prop} (hd : 0 < d) (hT : 0 < T) (d2 : d < 9223372036854775808) (T2 : T < 9223372036854775808) (n2 : n * (T / Nat.gcd d T) + a * (d / Nat.gcd d T) < 9223372036854775808) (e2 : sD1 d T < 9223372036854775808)
    (n3 : n < 9223372036854775808) (a3 : a < 9223372036854775808) (h1 : gJ μ 358 59 = qL n) (h2 : gJ μ 358 60 = qL d)
    (hQ : ∀ μ', Sm (fun k j => k = 358 ∧ (j = 59 ∨ j = 60)) μ μ' → gJ μ' 358 59 = qL (sNn n d a T) → gJ μ' 358 60 = qL (sDn n d a T) → Q μ') : G12_sums (qL a) (qL T) μ Q := by
  unfold G12_sums
  rw [h2]
  have g0 : 0 < Nat.gcd d T := Nat.gcd_pos_of_pos_left T hd
  have gl : Nat.gcd d T ≤ d := Nat.le_of_dvd hd (Nat.gcd_dvd_left d T)
  have y0 : 0 < sD1 d T := Nat.mul_pos (Nat.div_pos gl g0) hT
  rw [qL_J d]
  refine m_gcd ⟨by omega, by omega⟩ T2 ?_
  rw [show Int.gcd (d : Int) (T : Int) = Nat.gcd d T from rfl]
  have ng : ¬ (qL (Nat.gcd d T) = 0) := by rw [qL_0 (by omega)]; omega
  refine ⟨ng, ng, ?_⟩
  rw [h1, h2, qL_div T2 (by omega), qL_div d2 (by omega), qL_mul, qL_mul, qL_mul, qL_add, Bd_eq]
  refine ⟨ng, ?_⟩
  show Bd (qL (sD1 d T)) fun y20 => G12_common (qL (sN1 n d a T)) y20 μ _
  rw [Bd_eq, qL_J (sN1 n d a T)]
  have n2' : sN1 n d a T < 9223372036854775808 := n2
  refine m_gcd ⟨by omega, by omega⟩ e2 ?_
  rw [show Int.gcd ((sN1 n d a T : Nat) : Int) (sD1 d T : Int) = Nat.gcd (sN1 n d a T) (sD1 d T) from rfl, show n * (T / Nat.gcd d T) + a * (d / Nat.gcd d T) = sN1 n d a T from rfl]
  have k0 : 0 < Nat.gcd (sN1 n d a T) (sD1 d T) := Nat.gcd_pos_of_pos_right _ y0
  have kl : Nat.gcd (sN1 n d a T) (sD1 d T) ≤ sD1 d T := Nat.le_of_dvd y0 (Nat.gcd_dvd_right _ _)
  have nk : ¬ (qL (Nat.gcd (sN1 n d a T) (sD1 d T)) = 0) := by rw [qL_0 (by omega)]; omega
  refine ⟨nk, ?_⟩
  rw [Bd_eq]
  refine ⟨nk, ?_⟩
  rw [Bd_eq, qL_div n2' (by omega), qL_div e2 (by omega)]
  exact hQ _ ((Sm.rfl'.wJ _ (k := 358) (j := 59) ⟨rfl, Or.inl rfl⟩).wJ _ (k := 358) (j := 60) ⟨rfl, Or.inr rfl⟩) (by simp [gJ_J]; rfl) (by simp [gJ_J]; rfl)
theorem LC_dvd {met : Nat → Bool} {l : Nat → Nat} : ∀ n k, k < n → met k = true → l k ∣ LC met l n
  | 0, k, h, _ => absurd h (by omega)
  | n + 1, k, h, q => by
    show l k ∣ if met n then lcq (LC met l n) (l n) else LC met l n
    have dl : ∀ a b, b ∣ lcq a b ∧ a ∣ lcq a b := fun a b => by
      refine ⟨Nat.dvd_mul_left b _, ?_⟩
      obtain ⟨x, hx⟩ := Nat.gcd_dvd_right a b
      refine ⟨x, ?_⟩
      have : Nat.gcd a b * (a / Nat.gcd a b) = a := Nat.mul_div_cancel' (Nat.gcd_dvd_left a b)
      show a / Nat.gcd a b * b = a * x
      calc a / Nat.gcd a b * b = a / Nat.gcd a b * (Nat.gcd a b * x) := by rw [← hx]
        _ = (Nat.gcd a b * (a / Nat.gcd a b)) * x := by ac_rfl
        _ = a * x := by rw [this]
    by_cases e : k = n
    · subst e
      rw [q, if_pos rfl]
      exact (dl _ _).1
    · have ih := LC_dvd (met := met) (l := l) n k (by omega) q
      cases m : met n
      · exact ih
      · rw [if_pos rfl]
        exact Nat.dvd_trans ih (dl _ _).2
def Fr (A : Nat → Nat → Nat) (w : Nat) (f : Nat → Nat) (n d v : Nat) : Prop := 0 < d ∧ d ≤ 97 ^ v ∧ n ≤ v * 97 * d ∧ n * jL A w 10 = jS A w f v * d
theorem Fr_0 (A : Nat → Nat → Nat) (w : Nat) (f : Nat → Nat) : Fr A w f 0 1 0 := ⟨by decide, by decide, by decide, by rw [Nat.zero_mul]; rfl⟩
theorem Fr_no {A : Nat → Nat → Nat} {w : Nat} {f : Nat → Nat} {n d v : Nat} (h : Fr A w f n d v) (hz : jT A w v = 0) : Fr A w f n d (v + 1) := by
  obtain ⟨a, b, c, e⟩ := h
  refine ⟨a, Nat.le_trans b (Nat.pow_le_pow_right (by decide) (Nat.le_succ v)), Nat.le_trans c (Nat.mul_le_mul_right _ (by omega)), ?_⟩
  show n * jL A w 10 = (jS A w f v + jL A w 10 / jT A w v * f v) * d
  rw [hz, Nat.div_zero, Nat.zero_mul, Nat.add_zero]
  exact e
theorem Fr_b {A X : Nat → Nat → Nat} (hV : Inv A X) {w : Nat} {f : Nat → Nat} (hf : ∀ v, f v ≤ jT A w v * jT A w v) {n d v : Nat} (h : Fr A w f n d v) (hz : 0 < jT A w v) : sD1 d (jT A w v) ≤ 97 ^ (v + 1) ∧ sN1 n d (f v) (jT A w v) ≤ (v + 1) * 97 * sD1 d (jT A w v) ∧ 0 < sD1 d (jT A w v) ∧ (v < 10 → sN1 n d (f v) (jT A w v) * jL A w 10 = jS A w f (v + 1) * sD1 d (jT A w v)) := by
  obtain ⟨a, b, c, e⟩ := h
  have tb := jT_b hV w v
  have fv := hf v
  have e3 : v < 10 → jL A w 10 / jT A w v * jT A w v = jL A w 10 := fun hv => Nat.div_mul_cancel (LC_dvd 10 v hv (decide_eq_true hz))
  have es : jS A w f (v + 1) = jS A w f v + jL A w 10 / jT A w v * f v := rfl
  rw [es]
  revert e3 e
  generalize jL A w 10 / jT A w v = q
  generalize jL A w 10 = D
  generalize jS A w f v = S
  generalize jT A w v = T at *
  generalize f v = y at *
  intro e e3
  have g0 : 0 < Nat.gcd d T := Nat.gcd_pos_of_pos_left T a
  have gl : Nat.gcd d T ≤ d := Nat.le_of_dvd a (Nat.gcd_dvd_left d T)
  have dd : Nat.gcd d T * (d / Nat.gcd d T) = d := Nat.mul_div_cancel' (Nat.gcd_dvd_left d T)
  have tt : Nat.gcd d T * (T / Nat.gcd d T) = T := Nat.mul_div_cancel' (Nat.gcd_dvd_right d T)
  have p0 : 0 < d / Nat.gcd d T := Nat.div_pos gl g0
  unfold sD1 sN1
  revert dd tt p0
  generalize d / Nat.gcd d T = d'
  generalize T / Nat.gcd d T = T'
  generalize Nat.gcd d T = g at *
  intro dd tt p0
  have k1 : d * T' = d' * T := by rw [← dd, ← tt]; ac_rfl
  have k2 : d' ≤ d := by rw [← dd]; exact Nat.le_mul_of_pos_left d' g0
  refine ⟨?_, ?_, Nat.mul_pos p0 hz, fun hv => ?_⟩
  · rw [Nat.pow_succ]
    exact Nat.mul_le_mul (Nat.le_trans k2 b) (by omega)
  · have l1 : n * T' ≤ v * 97 * (d' * T) := by
      have := Nat.mul_le_mul_right T' c
      rw [Nat.mul_assoc (v * 97), k1] at this
      exact this
    have l2 : y * d' ≤ 97 * (d' * T) := by
      have h1 := Nat.mul_le_mul_right d' fv
      have h2 : T * T * d' = T * (d' * T) := by ac_rfl
      have h3 : T * (d' * T) ≤ 97 * (d' * T) := Nat.mul_le_mul_right _ (by omega)
      omega
    rw [Nat.add_mul, Nat.add_mul]
    omega
  · calc (n * T' + y * d') * D = (n * D) * T' + y * d' * D := by rw [Nat.add_mul]; congr 1; ac_rfl
      _ = (S * d) * T' + y * d' * (q * T) := by rw [e, e3 hv]
      _ = S * (d * T') + q * y * (d' * T) := by congr 1 <;> ac_rfl
      _ = (S + q * y) * (d' * T) := by rw [k1, Nat.add_mul]
theorem Fr_yes {A X : Nat → Nat → Nat} (hV : Inv A X) {w : Nat} {f : Nat → Nat} (hf : ∀ v, f v ≤ jT A w v * jT A w v) {n d v : Nat} (h : Fr A w f n d v) (hz : 0 < jT A w v) (hv : v < 10) : Fr A w f (sNn n d (f v) (jT A w v)) (sDn n d (f v) (jT A w v)) (v + 1) := by
  obtain ⟨b1, b2, b3, b4⟩ := Fr_b hV hf h hz
  have b4 := b4 hv
  unfold Fr sNn sDn
  revert b1 b2 b3 b4
  generalize sN1 n d (f v) (jT A w v) = N
  generalize sD1 d (jT A w v) = M
  generalize jL A w 10 = D
  generalize jS A w f (v + 1) = S
  intro b1 b2 b3 b4
  have g0 : 0 < Nat.gcd N M := Nat.gcd_pos_of_pos_right N b3
  have gl : Nat.gcd N M ≤ M := Nat.le_of_dvd b3 (Nat.gcd_dvd_right N M)
  have nn : Nat.gcd N M * (N / Nat.gcd N M) = N := Nat.mul_div_cancel' (Nat.gcd_dvd_left N M)
  have mm : Nat.gcd N M * (M / Nat.gcd N M) = M := Nat.mul_div_cancel' (Nat.gcd_dvd_right N M)
  refine ⟨Nat.div_pos gl g0, Nat.le_trans (Nat.div_le_self _ _) b1, ?_, ?_⟩
  · refine Nat.le_of_mul_le_mul_left (c := Nat.gcd N M) ?_ g0
    calc Nat.gcd N M * (N / Nat.gcd N M) = N := nn
      _ ≤ (v + 1) * 97 * M := b2
      _ = (v + 1) * 97 * (Nat.gcd N M * (M / Nat.gcd N M)) := by rw [mm]
      _ = Nat.gcd N M * ((v + 1) * 97 * (M / Nat.gcd N M)) := by ac_rfl
  · refine Nat.eq_of_mul_eq_mul_left g0 ?_
    calc Nat.gcd N M * (N / Nat.gcd N M * D) = (Nat.gcd N M * (N / Nat.gcd N M)) * D := by ac_rfl
      _ = S * M := by rw [nn, b4]
      _ = S * (Nat.gcd N M * (M / Nat.gcd N M)) := by rw [mm]
      _ = Nat.gcd N M * (S * (M / Nat.gcd N M)) := by ac_rfl
