/-! equal fractions are told alike -/
theorem nfr_u {u l u' l' : Nat} (hl : 0 < l) (hl' : 0 < l') (h : u * l' = u' * l) : u / Nat.gcd u l = u' / Nat.gcd u' l' ∧ l / Nat.gcd u l = l' / Nat.gcd u' l' := by
  have g1 : 0 < Nat.gcd u l := Nat.gcd_pos_of_pos_right u hl
  have g2 : 0 < Nat.gcd u' l' := Nat.gcd_pos_of_pos_right u' hl'
  have k1 : Nat.Coprime (u / Nat.gcd u l) (l / Nat.gcd u l) := Nat.coprime_div_gcd_div_gcd g1
  have k2 : Nat.Coprime (u' / Nat.gcd u' l') (l' / Nat.gcd u' l') := Nat.coprime_div_gcd_div_gcd g2
  have a1 : Nat.gcd u l * (u / Nat.gcd u l) = u := Nat.mul_div_cancel' (Nat.gcd_dvd_left u l)
  have b1 : Nat.gcd u l * (l / Nat.gcd u l) = l := Nat.mul_div_cancel' (Nat.gcd_dvd_right u l)
  have a2 : Nat.gcd u' l' * (u' / Nat.gcd u' l') = u' := Nat.mul_div_cancel' (Nat.gcd_dvd_left u' l')
  have b2 : Nat.gcd u' l' * (l' / Nat.gcd u' l') = l' := Nat.mul_div_cancel' (Nat.gcd_dvd_right u' l')
  revert k1 k2 a1 b1 a2 b2
  generalize u / Nat.gcd u l = a
  generalize l / Nat.gcd u l = b
  generalize u' / Nat.gcd u' l' = a'
  generalize l' / Nat.gcd u' l' = b'
  intro k1 k2 a1 b1 a2 b2
  have e : a * b' = a' * b := by
    have : (Nat.gcd u l * Nat.gcd u' l') * (a * b') = (Nat.gcd u l * Nat.gcd u' l') * (a' * b) := by
      calc (Nat.gcd u l * Nat.gcd u' l') * (a * b') = (Nat.gcd u l * a) * (Nat.gcd u' l' * b') := by ac_rfl
        _ = u * l' := by rw [a1, b2]
        _ = u' * l := h
        _ = (Nat.gcd u' l' * a') * (Nat.gcd u l * b) := by rw [a2, b1]
        _ = (Nat.gcd u l * Nat.gcd u' l') * (a' * b) := by ac_rfl
    exact Nat.eq_of_mul_eq_mul_left (Nat.mul_pos g1 g2) this
  have bp : 0 < b := by
    rcases Nat.eq_zero_or_pos b with q | q
    · rw [q] at b1; omega
    · exact q
  have d1 : b ∣ b' := (k1.symm).dvd_of_dvd_mul_left (show b ∣ a * b' from ⟨a', by rw [e, Nat.mul_comm]⟩)
  have d2 : b' ∣ b := (k2.symm).dvd_of_dvd_mul_left (show b' ∣ a' * b from ⟨a, by rw [← e, Nat.mul_comm]⟩)
  have eb : b = b' := Nat.dvd_antisymm d1 d2
  subst eb
  exact ⟨Nat.eq_of_mul_eq_mul_right bp e, rfl⟩
theorem frc_u {u l u' l' : Nat} (hl : 0 < l) (hl' : 0 < l') (h : u * l' = u' * l) : frc (u : Int) l = frc (u' : Int) l' := by
  obtain ⟨e1, e2⟩ := nfr_u hl hl' h
  have x : ∀ a b : Nat, frc (a : Int) b = [qJ ((a / Nat.gcd a b : Nat) : Int), qJ ((b / Nat.gcd a b : Nat) : Int)] := fun a b => rfl
  rw [x, x, e1, e2]
