/-! the invariant after what changes the state -/
theorem qN_inj {a b : Nat} (h : qN a = qN b) (ha : a < 2147483648) (hb : b < 2147483648) : a = b := (qN_eq ha hb).mp h
theorem Inv.name {A X : Nat → Nat → Nat} (h : Inv A X) {a b c : Nat} (ha : a < 2) (hb : b < 2) (hc : c < 1010) (hn : A 358 3 < 12) :
    Inv (up2 (up2 (up2 (up2 (up2 A 360 (A 358 3) a) 361 (A 358 3) b) 362 (A 358 3) (c / 101)) 363 (A 358 3) (c % 101)) 358 3 (A 358 3 + 1)) X := by
  obtain ⟨h1, h2, h3, h4, h5, h6, h7, h8, h9⟩ := h
  refine ⟨bnd_w (bnd_w (bnd_w (bnd_w (bnd_w h1 (by show a < 2; exact ha)) (by show b < 2; exact hb)) (by show c / 101 < 10; omega)) (by show c % 101 < 101; omega)) (by show A 358 3 + 1 < 13; omega), fun i hi => ⟨(h2 i hi).1, Nat.lt_succ_of_lt (h2 i hi).2⟩, h3, h4, h5, h6, h7, h8, h9⟩
theorem Inv.house {A X : Nat → Nat → Nat} (h : Inv A X) {a b c : Nat} (ha : a < 4) (hb : b < 4) (hc : c < 6) (hn : A 358 8 < 24) :
    Inv (up2 (up2 (up2 (up2 A 364 (A 358 8) a) 365 (A 358 8) b) 366 (A 358 8) c) 358 8 (A 358 8 + 1)) X := by
  obtain ⟨h1, h2, h3, h4, h5, h6, h7, h8, h9⟩ := h
  refine ⟨bnd_w (bnd_w (bnd_w (bnd_w h1 (by show a < 4; exact ha)) (by show b < 4; exact hb)) (by show c < 6; exact hc)) (by show A 358 8 + 1 < 25; omega), fun i hi => ⟨Nat.lt_succ_of_lt (h2 i hi).1, (h2 i hi).2⟩, h3, h4, h5, h6, h7, h8, h9⟩
theorem aL_367 (A : Nat → Nat → Nat) (a b c e d j : Nat) : aL A a b c e d 367 j = if j = A 358 12 then a else A 367 j := by
  unfold aL
  simp [up2]
theorem aL_368 (A : Nat → Nat → Nat) (a b c e d j : Nat) : aL A a b c e d 368 j = if j = A 358 12 then b else A 368 j := by
  unfold aL
  simp [up2]
theorem aL_373 (A : Nat → Nat → Nat) (a b c e d j : Nat) : aL A a b c e d 373 j = if j = A 358 12 then 0 else A 373 j := by
  unfold aL
  simp [up2]
theorem aL_374 (A : Nat → Nat → Nat) (a b c e d j : Nat) : aL A a b c e d 374 j = if j = A 358 12 then 0 else A 374 j := by
  unfold aL
  simp [up2]
theorem aL_375 (A : Nat → Nat → Nat) (a b c e d j : Nat) : aL A a b c e d 375 j = if j = A 358 12 then 0 else A 375 j := by
  unfold aL
  simp [up2]
theorem Inv.letter {A X : Nat → Nat → Nat} (h : Inv A X) {a b c e d : Nat} (ha : a < A 358 8) (hb : b < A 358 3) (hc : c < 100) (he : e < 40) (hd : d < 400) (hn : A 358 12 < 96) (h4' : cnt (fun i => decide (A 367 i = a)) (A 358 12) < 4) :
    Inv (aL A a b c e d) X := by
  obtain ⟨h1, h2, h3, h4, h5, h6, h7, h8, h9⟩ := h
  have b8 : A 358 8 < 25 := h1 358 8 (by unfold dom; decide)
  have b3 : A 358 3 < 13 := h1 358 3 (by unfold dom; decide)
  refine ⟨?_, fun i hi => ?_, fun i hi => ?_, h4, h5, h6, fun k hk => ⟨Nat.lt_succ_of_lt (h7 k hk).1, Nat.lt_succ_of_lt (h7 k hk).2⟩, h8, fun hh => ?_⟩
  · unfold aL
    exact bnd_w (bnd_w (bnd_w (bnd_w (bnd_w (bnd_w (bnd_w (bnd_w (bnd_w (bnd_w h1 (by show a < 24; omega)) (by show b < 12; omega)) (by show c < 100; exact hc)) (by show e / 4 < 10; omega)) (by show e % 4 < 4; omega)) (by show d < 400; exact hd)) (by show 0 < 2; decide)) (by show 0 < 2; decide)) (by show 0 < 3; decide)) (by show A 358 12 + 1 < 97; omega)
  · have hi' : i < A 358 12 + 1 := hi
    rw [aL_367, aL_368]
    show (if i = A 358 12 then a else A 367 i) < A 358 8 ∧ (if i = A 358 12 then b else A 368 i) < A 358 3
    by_cases q : i = A 358 12
    · rw [if_pos q, if_pos q]; exact ⟨ha, hb⟩
    · rw [if_neg q, if_neg q]; exact h2 i (by omega)
  · rw [aL_373, aL_374, aL_375]
    by_cases q : i = A 358 12
    · rw [if_pos q, if_pos q, if_pos q]
      exact ⟨fun r => absurd r (by decide), fun r => absurd rfl r⟩
    · rw [if_neg q, if_neg q, if_neg q]; exact h3 i hi
  · show cnt (fun i => decide (aL A a b c e d 367 i = hh)) (A 358 12 + 1) ≤ 4
    show cnt (fun i => decide (aL A a b c e d 367 i = hh)) (A 358 12) + (decide (aL A a b c e d 367 (A 358 12) = hh)).toNat ≤ 4
    rw [cnt_congr (R := fun i => decide (A 367 i = hh)) (fun i hi => by rw [aL_367, if_neg (by omega)]), aL_367, if_pos rfl]
    have := h9 hh
    by_cases q : a = hh
    · subst q
      simp
      omega
    · simp [q]
      exact this
theorem Inv.end' {A X : Nat → Nat → Nat} (h : Inv A X) {a : Nat} (ha : a ≤ A 358 28) : Inv (up2 A 358 28 a) X := by
  obtain ⟨h1, h2, h3, h4, h5, h6, h7, h8, h9⟩ := h
  have b28 : A 358 28 < 61 := h1 358 28 (by unfold dom; decide)
  exact ⟨bnd_w h1 (by show a < 61; omega), h2, h3, h4, h5, h6, h7, h8, h9⟩
theorem Inv.after {A X : Nat → Nat → Nat} (h : Inv A X) {a b : Nat} (ha : A 374 a = 1) (hb : b < 3) : Inv (up2 A 375 a b) X := by
  obtain ⟨h1, h2, h3, h4, h5, h6, h7, h8, h9⟩ := h
  refine ⟨bnd_w h1 (by show b < 3; exact hb), h2, fun i hi => ⟨(h3 i hi).1, fun q => ?_⟩, h4, h5, h6, h7, h8, h9⟩
  show A 374 i = 1
  by_cases e : i = a
  · rw [e]; exact ha
  · rw [up2_o (by omega)] at q
    exact (h3 i hi).2 q
theorem Inv.kind {A X : Nat → Nat → Nat} (h : Inv A X) {a b c : Nat} (hb : b < 101) (hc : c < 101) : Inv (up2 (up2 A 387 a b) 388 a c) X := by
  obtain ⟨h1, h2, h3, h4, h5, h6, h7, h8, h9⟩ := h
  exact ⟨bnd_w (bnd_w h1 (by show b < 101; exact hb)) (by show c < 101; exact hc), h2, h3, h4, h5, h6, h7, h8, h9⟩
theorem Inv.parts {A X : Nat → Nat → Nat} (h : Inv A X) {a b : Nat} (ha : a < 4) (hb : b < 100) (hz : A 389 0 + A 389 1 + A 389 2 + A 389 3 + b - A 389 a ≠ 0) : Inv (up2 A 389 a b) X := by
  obtain ⟨h1, h2, h3, h4, h5, h6, h7, h8, h9⟩ := h
  refine ⟨bnd_w h1 (by show b < 100; exact hb), h2, h3, ?_, h5, h6, h7, h8, h9⟩
  rcases (show a = 0 ∨ a = 1 ∨ a = 2 ∨ a = 3 by omega) with rfl | rfl | rfl | rfl
  · show b + A 389 1 + A 389 2 + A 389 3 ≠ 0; omega
  · show A 389 0 + b + A 389 2 + A 389 3 ≠ 0; omega
  · show A 389 0 + A 389 1 + b + A 389 3 ≠ 0; omega
  · show A 389 0 + A 389 1 + A 389 2 + b ≠ 0; omega
theorem Inv.asked {A X : Nat → Nat → Nat} (h : Inv A X) {a b c : Nat} (ha : a < A 358 12) (hb : b < A 358 12) (hc : c < 3) (hn : A 358 61 < 40) : Inv (up2 (up2 (up2 (up2 A 401 (A 358 61) a) 402 (A 358 61) b) 403 (A 358 61) c) 358 61 (A 358 61 + 1)) X := by
  obtain ⟨h1, h2, h3, h4, h5, h6, h7, h8, h9⟩ := h
  have hl : A 358 12 < 97 := h1 358 12 (by unfold dom; decide)
  refine ⟨bnd_w (bnd_w (bnd_w (bnd_w h1 (by show a < 96; omega)) (by show b < 96; omega)) (by show c < 3; exact hc)) (by show A 358 61 + 1 < 41; omega), h2, h3, h4, h5, h6, fun k hk => ?_, h8, h9⟩
  have hk' : k < A 358 61 + 1 := hk
  have e1 : (up2 (up2 (up2 (up2 A 401 (A 358 61) a) 402 (A 358 61) b) 403 (A 358 61) c) 358 61 (A 358 61 + 1)) 401 k = if k = A 358 61 then a else A 401 k := by simp [up2]
  have e2 : (up2 (up2 (up2 (up2 A 401 (A 358 61) a) 402 (A 358 61) b) 403 (A 358 61) c) 358 61 (A 358 61 + 1)) 402 k = if k = A 358 61 then b else A 402 k := by simp [up2]
  rw [e1, e2]
  show (if k = A 358 61 then a else A 401 k) < A 358 12 ∧ (if k = A 358 61 then b else A 402 k) < A 358 12
  by_cases q : k = A 358 61
  · rw [if_pos q, if_pos q]; exact ⟨ha, hb⟩
  · rw [if_neg q, if_neg q]; exact h7 k (by omega)
theorem Inv.sign {A X : Nat → Nat → Nat} (h : Inv A X) {v : Int32} (hn : A 358 28 ≤ 56) : Inv (sgA A v) X := by
  obtain ⟨h1, h2, h3, h4, h5, h6, h7, h8, h9⟩ := h
  have m := fun n => Nat.mod_lt n (show 0 < 256 by decide)
  exact ⟨bnd_w (bnd_w (bnd_w (bnd_w (bnd_w h1 (m _)) (m _)) (m _)) (m _)) (by show A 358 28 + 4 < 61; omega), h2, h3, h4, h5, h6, h7, h8, h9⟩
theorem Inv.keep {A X : Nat → Nat → Nat} (h : Inv A X) {i : Nat} (hi : i < 3) : ∀ k, k ≤ 96 → Inv (kp A i k) X := by
  intro k
  have hA := h
  induction k with
  | zero =>
    intro _
    obtain ⟨h1, h2, h3, h4, h5, h6, h7, h8, h9⟩ := h
    have hl : A 358 12 < 97 := h1 358 12 (by unfold dom; decide)
    have h22 : A 358 22 < 4294967296 := h1 358 22 (by unfold dom; decide)
    refine ⟨bnd_w (bnd_w h1 (by show A 358 12 < 4294967296; omega)) (by show A 358 22 < 4294967296; exact h22), h2, h3, h4, fun j hj => ?_, h6, h7, h8, h9⟩
    have e1 : kp A i 0 407 j = if j = i then A 358 12 else A 407 j := by simp [kp, up2]
    rw [e1]
    by_cases q : j = i
    · rw [if_pos q]; exact Or.inr (by omega)
    · rw [if_neg q]; exact h5 j hj
  | succ k ih =>
    intro hk
    obtain ⟨h1, h2, h3, h4, h5, h6, h7, h8, h9⟩ := ih (by omega)
    have b3 : A 373 k < 2 := hA.b 373 k (by unfold dom; omega)
    have b4 : A 374 k < 2 := hA.b 374 k (by unfold dom; omega)
    have b5 : A 375 k < 3 := hA.b 375 k (by unfold dom; omega)
    have r := hA.2.2.1 k (by omega)
    have st : st5 (A 373 k + 2 * A 374 k + 4 * A 375 k) := by
      unfold st5
      omega
    refine ⟨bnd_w h1 (by show A 373 k + 2 * A 374 k + 4 * A 375 k < 12; omega), h2, h3, h4, h5, fun j hj => ?_, h7, h8, h9⟩
    show st5 (up2 (kp A i k) 409 (96 * i + k) (A 373 k + 2 * A 374 k + 4 * A 375 k) 409 j)
    by_cases q : j = 96 * i + k
    · rw [q, up2_i]; exact st
    · rw [up2_o (by omega)]; exact h6 j hj
theorem cnt_up {P : Nat → Bool} {m n : Nat} (h : m ≤ n) : cnt P m ≤ cnt P n := by
  induction n with
  | zero => have : m = 0 := by omega
            subst this; exact Nat.le_refl _
  | succ n ih =>
    by_cases e : m = n + 1
    · subst e; exact Nat.le_refl _
    · have := ih (by omega)
      show cnt P m ≤ cnt P n + (P n).toNat
      omega
theorem Inv.again {A X : Nat → Nat → Nat} (h : Inv A X) {i : Nat} (hi : i < 3) (ok : agOk A i) : Inv (ag A i) X := by
  have h22 : A 408 i < 4294967296 := h.b 408 i (by unfold dom; omega)
  have h407 : A 407 i ≤ 96 := by
    rcases h.2.2.2.2.1 i hi with q | q
    · exact absurd q ok.1
    · exact q
  have hB : Inv (up2 (agB A i) 358 61 0) X := by
    obtain ⟨h1, h2, h3, h4, h5, h6, h7, h8, h9⟩ := h
    refine ⟨bnd_w (bnd_w (bnd_w h1 (by show A 407 i < 97; omega)) (by show A 408 i < 4294967296; exact h22)) (by show 0 < 41; decide), fun j hj => ?_, h3, h4, h5, h6, fun k hk => absurd (show k < 0 from hk) (by omega), h8, fun hh => ?_⟩
    · have hj' : j < A 407 i := hj
      exact h2 j (by have := ok.2; omega)
    · exact Nat.le_trans (cnt_up (P := fun i => decide (A 367 i = hh)) ok.2) (h9 hh)
  have key : ∀ k, k ≤ 96 → Inv (lpk (up2 (agB A i) 358 61 0) i k) X := by
    intro k
    induction k with
    | zero => intro _; exact hB
    | succ k ih =>
      intro hk
      obtain ⟨h1, h2, h3, h4, h5, h6, h7, h8, h9⟩ := ih (by omega)
      have st := h.2.2.2.2.2.1 (96 * i + k) (by omega)
      have e9 : up2 (agB A i) 358 61 0 409 (96 * i + k) = A 409 (96 * i + k) := rfl
      have m1 : A 409 (96 * i + k) % 2 < 2 := Nat.mod_lt _ (by decide)
      have m2 : A 409 (96 * i + k) / 2 % 2 < 2 := Nat.mod_lt _ (by decide)
      have m3 : A 409 (96 * i + k) / 4 < 3 := by unfold st5 at st; omega
      refine ⟨bnd_w (bnd_w (bnd_w h1 m1) m2) m3, h2, fun j hj => ?_, h4, h5, h6, h7, h8, h9⟩
      show (up2 (up2 (up2 (lpk (up2 (agB A i) 358 61 0) i k) 373 k (A 409 (96 * i + k) % 2)) 374 k (A 409 (96 * i + k) / 2 % 2)) 375 k (A 409 (96 * i + k) / 4) 374 j = 1 → up2 (up2 (up2 (lpk (up2 (agB A i) 358 61 0) i k) 373 k (A 409 (96 * i + k) % 2)) 374 k (A 409 (96 * i + k) / 2 % 2)) 375 k (A 409 (96 * i + k) / 4) 373 j = 1) ∧
        (up2 (up2 (up2 (lpk (up2 (agB A i) 358 61 0) i k) 373 k (A 409 (96 * i + k) % 2)) 374 k (A 409 (96 * i + k) / 2 % 2)) 375 k (A 409 (96 * i + k) / 4) 375 j ≠ 0 → up2 (up2 (up2 (lpk (up2 (agB A i) 358 61 0) i k) 373 k (A 409 (96 * i + k) % 2)) 374 k (A 409 (96 * i + k) / 2 % 2)) 375 k (A 409 (96 * i + k) / 4) 374 j = 1)
      by_cases q : j = k
      · rw [q, up2_o (g := 374) (by omega), up2_i, up2_o (g := 373) (by omega), up2_o (g := 373) (by omega), up2_i, up2_i]
        unfold st5 at st
        omega
      · rw [up2_o (g := 374) (by omega), up2_o (g := 374) (by omega), up2_o (g := 374) (by omega), up2_o (g := 373) (by omega), up2_o (g := 373) (by omega), up2_o (g := 373) (by omega), up2_o (g := 375) (by omega), up2_o (g := 375) (by omega), up2_o (g := 375) (by omega)]
        exact h3 j hj
  exact key (A 407 i) h407
