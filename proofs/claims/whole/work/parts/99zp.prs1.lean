/-! laws as texts: the machine that both come to -/
def isDg (x : Nat) : Bool := decide (48 ≤ x) && decide (x ≤ 57)
def stg (x : Nat) : Nat := if x = 33 then 6 else if x = 38 then 2 else if x = 42 then 5 else if x = 43 then 4 else if x = 45 then 4 else if x = 60 then 3 else if x = 61 then 3 else if x = 62 then 3 else if x = 124 then 1 else if x = 126 then 6 else 0
def tix (x : Nat) : Nat := if x = 119 then 0 else if x = 101 then 1 else if x = 115 then 2 else if x = 100 then 3 else if x = 112 then 4 else if x = 120 then 5 else if x = 99 then 6 else if x = 97 then 7 else if x = 116 then 8 else if x = 111 then 9 else if x = 110 then 10 else if x = 107 then 11 else if x = 109 then 12 else if x = 114 then 13 else 99
/-- a thing that can stand -/
def tok1 (b : Bool) (x : Nat) : Prop := tix x < 10 ∨ (b = true ∧ tix x < 13) ∨ (b = false ∧ tix x = 13)
def tokB (b : Bool) (x : Nat) : Bool := decide (tix x < 10) || (b && decide (tix x < 13)) || (!b && decide (tix x = 13))
def updB (cm : Nat → Bool) (d : Nat) (v : Bool) : Nat → Bool := fun e => if e = d then v else cm e
/-- pops the stronger ones -/
def pst (s : Nat) : List Nat → List Nat → List Nat × List Nat
  | [], ro => ([], ro)
  | t :: sk, ro => if s ≤ stg t then pst s sk ((2000 + t) :: ro) else (t :: sk, ro)
def fin : List Nat → List Nat → List Nat
  | [], ro => ro
  | t :: P, ro => fin P ((2000 + t) :: ro)
abbrev PSt : Type := Bool × Nat × Nat × (Nat → Bool) × List Nat × List Nat
def goon (v : Nat) : List Nat → List Nat
  | [] => [v]
  | h :: t => (h * 10 + v) :: t
/-- one sign: wanting, digits, depth, compared, codes (the last ahead), operators (the last ahead) -/
def stp (b : Bool) (x : Nat) (σ : PSt) : Option PSt :=
  if σ.1 = true then
    if x = 40 ∧ σ.2.2.1 < 5 then some (true, σ.2.1, σ.2.2.1 + 1, updB σ.2.2.2.1 (σ.2.2.1 + 1) false, σ.2.2.2.2.1, 40 :: σ.2.2.2.2.2)
    else if isDg x = true then some (false, 1, σ.2.2.1, σ.2.2.2.1, (x - 48) :: σ.2.2.2.2.1, σ.2.2.2.2.2)
    else if tokB b x = true then some (false, 3, σ.2.2.1, σ.2.2.2.1, (1000 + tix x) :: σ.2.2.2.2.1, σ.2.2.2.2.2)
    else if x = 33 then some (true, σ.2.1, σ.2.2.1, σ.2.2.2.1, σ.2.2.2.2.1, 33 :: σ.2.2.2.2.2)
    else if x = 45 then some (true, σ.2.1, σ.2.2.1, σ.2.2.2.1, σ.2.2.2.2.1, 126 :: σ.2.2.2.2.2)
    else none
  else
    if isDg x = true ∧ σ.2.1 < 3 then some (false, σ.2.1 + 1, σ.2.2.1, σ.2.2.2.1, goon (x - 48) σ.2.2.2.2.1, σ.2.2.2.2.2)
    else if x = 41 ∧ 0 < σ.2.2.1 then some (false, 3, σ.2.2.1 - 1, σ.2.2.2.1, (pst 1 σ.2.2.2.2.2 σ.2.2.2.2.1).2, (pst 1 σ.2.2.2.2.2 σ.2.2.2.2.1).1.tail)
    else if stg x = 3 ∧ σ.2.2.2.1 σ.2.2.1 = false then some (true, σ.2.1, σ.2.2.1, updB σ.2.2.2.1 σ.2.2.1 true, (pst 3 σ.2.2.2.2.2 σ.2.2.2.2.1).2, x :: (pst 3 σ.2.2.2.2.2 σ.2.2.2.2.1).1)
    else if 1 ≤ stg x ∧ stg x ≤ 2 then some (true, σ.2.1, σ.2.2.1, updB σ.2.2.2.1 σ.2.2.1 false, (pst (stg x) σ.2.2.2.2.2 σ.2.2.2.2.1).2, x :: (pst (stg x) σ.2.2.2.2.2 σ.2.2.2.2.1).1)
    else if 4 ≤ stg x ∧ stg x ≤ 5 then some (true, σ.2.1, σ.2.2.1, σ.2.2.2.1, (pst (stg x) σ.2.2.2.2.2 σ.2.2.2.2.1).2, x :: (pst (stg x) σ.2.2.2.2.2 σ.2.2.2.2.1).1)
    else none
def mst (b : Bool) (c : Nat → Nat) : Nat → Option PSt
  | 0 => some (true, 0, 0, fun _ => false, [], [])
  | k + 1 => match mst b c k with
    | none => none
    | some σ => stp b (c k) σ
theorem mst_s {b : Bool} {c : Nat → Nat} {k : Nat} {σ : PSt} (h : mst b c k = some σ) : mst b c (k + 1) = stp b (c k) σ := by
  show (match mst b c k with | none => none | some σ => stp b (c k) σ) = _
  rw [h]
theorem mst_n {b : Bool} {c : Nat → Nat} {k : Nat} (h : mst b c k = none) : ∀ d, mst b c (k + d) = none
  | 0 => h
  | d + 1 => by
    show (match mst b c (k + d) with | none => none | some σ => stp b (c (k + d)) σ) = _
    rw [mst_n h d]
/-- the place where a sign can't stand -/
def badp (b : Bool) (c : Nat → Nat) (k : Nat) : Prop := ∃ σ, mst b c k = some σ ∧ stp b (c k) σ = none
theorem badp_lt {b : Bool} {c : Nat → Nat} {k m : Nat} {σ : PSt} (h : badp b c k) (hm : mst b c m = some σ) : m ≤ k := by
  obtain ⟨τ, h1, h2⟩ := h
  rcases Nat.lt_or_ge k m with q | q
  · have := mst_n (b := b) (c := c) (k := k + 1) ((mst_s h1).trans h2) (m - (k + 1))
    rw [show k + 1 + (m - (k + 1)) = m by omega, hm] at this
    exact absurd this (by simp)
  · exact q
theorem badp_u {b : Bool} {c : Nat → Nat} {k k' : Nat} (h : badp b c k) (h' : badp b c k') : k = k' := by
  obtain ⟨τ, h1, h2⟩ := id h
  obtain ⟨τ', h1', h2'⟩ := id h'
  have a := badp_lt h h1'
  have b' := badp_lt h' h1
  omega
theorem pst_fin {s : Nat} {S : List Nat} (hS : ∀ t T, S = t :: T → stg t < s) : ∀ P ro, (∀ t, t ∈ P → s ≤ stg t) → pst s (P ++ S) ro = (S, fin P ro)
  | [], ro, _ => by
    cases S with
    | nil => rfl
    | cons t T =>
      show (if s ≤ stg t then pst s T ((2000 + t) :: ro) else (t :: T, ro)) = _
      rw [if_neg (by have := hS t T rfl; omega)]
      rfl
  | t :: P, ro, h => by
    show (if s ≤ stg t then pst s (P ++ S) ((2000 + t) :: ro) else (t :: (P ++ S), ro)) = _
    rw [if_pos (h t (List.mem_cons_self ..)), pst_fin hS P _ (fun x hx => h x (List.mem_cons_of_mem _ hx))]
    rfl
theorem fin_app (x : Nat) : ∀ P ro, fin (P ++ [x]) ro = (2000 + x) :: fin P ro
  | [], _ => rfl
  | t :: P, ro => fin_app x P ((2000 + t) :: ro)
theorem fin_len : ∀ P ro, (fin P ro).length = P.length + ro.length
  | [], ro => by show ro.length = 0 + ro.length; omega
  | t :: P, ro => by
    show (fin P ((2000 + t) :: ro)).length = _
    rw [fin_len P, List.length_cons, List.length_cons]; omega
theorem pst_len (s : Nat) : ∀ sk ro, (pst s sk ro).1.length + (pst s sk ro).2.length = sk.length + ro.length
  | [], ro => rfl
  | t :: sk, ro => by
    show ((if s ≤ stg t then pst s sk ((2000 + t) :: ro) else (t :: sk, ro)) : List Nat × List Nat).1.length + _ = _
    show _ + ((if s ≤ stg t then pst s sk ((2000 + t) :: ro) else (t :: sk, ro)) : List Nat × List Nat).2.length = _
    by_cases q : s ≤ stg t
    · rw [if_pos q, pst_len s sk, List.length_cons, List.length_cons]; omega
    · rw [if_neg q]
/-- no more codes and operators than signs -/
theorem mst_len {b : Bool} {c : Nat → Nat} : ∀ k σ, mst b c k = some σ → σ.2.2.2.2.1.length + σ.2.2.2.2.2.length ≤ k
  | 0, σ, h => by
    have : σ = (true, 0, 0, fun _ => false, [], []) := (Option.some.inj h).symm
    subst this
    exact Nat.le_refl _
  | k + 1, σ, h => by
    cases hk : mst b c k with
    | none => rw [mst_n hk 1] at h; exact absurd h (by simp)
    | some τ =>
      have ih := mst_len k τ hk
      rw [mst_s hk] at h
      obtain ⟨w, dg, dp, cm, ro, sk⟩ := τ
      simp only at ih
      have p1 := pst_len 1 sk ro
      have p3 := pst_len 3 sk ro
      have px := pst_len (stg (c k)) sk ro
      have gl : (goon (c k - 48) ro).length ≤ ro.length + 1 := by
        cases ro with
        | nil => exact Nat.le_refl _
        | cons => show _ + 1 ≤ _ + 1 + 1; omega
      have tl : (pst 1 sk ro).1.tail.length ≤ (pst 1 sk ro).1.length := by rw [List.length_tail]; omega
      unfold stp at h
      simp only at h
      repeat' split at h
      all_goals cases h
      all_goals
        simp only [List.length_cons]
        omega
theorem tnf : ¬ true = false := Bool.noConfusion
theorem fnt : ¬ false = true := Bool.noConfusion
/-- depth and digits -/
theorem mst_inv {b : Bool} {c : Nat → Nat} : ∀ k σ, mst b c k = some σ → σ.2.2.1 ≤ 5 ∧ (σ.1 = true → k = 0 ∨ isDg (c (k - 1)) = false) ∧ (σ.1 = false → 0 < k ∧ 1 ≤ σ.2.1 ∧ (σ.2.1 < 3 → isDg (c (k - 1)) = true ∧ ∃ h t, σ.2.2.2.2.1 = h :: t ∧ h < 10 ^ σ.2.1))
  | 0, σ, h => by
    have : σ = (true, 0, 0, fun _ => false, [], []) := (Option.some.inj h).symm
    subst this
    exact ⟨by decide, fun _ => Or.inl rfl, fun q => absurd q tnf⟩
  | k + 1, σ, h => by
    cases hk : mst b c k with
    | none => rw [mst_n hk 1] at h; exact absurd h (by simp)
    | some τ =>
      obtain ⟨i1, i2, i3⟩ := mst_inv k τ hk
      rw [mst_s hk] at h
      obtain ⟨w, dg, dp, cm, ro, sk⟩ := τ
      simp only at i1 i2 i3
      have nd : ∀ s, stg (c k) = s → 1 ≤ s → isDg (c k) = false := fun s e hs => by
        cases hd : isDg (c k) with
        | false => rfl
        | true =>
          exfalso
          unfold isDg at hd
          rw [Bool.and_eq_true, decide_eq_true_eq, decide_eq_true_eq] at hd
          unfold stg at e
          rw [if_neg (by omega), if_neg (by omega), if_neg (by omega), if_neg (by omega), if_neg (by omega), if_neg (by omega), if_neg (by omega), if_neg (by omega), if_neg (by omega), if_neg (by omega)] at e
          omega
      have dg9 : isDg (c k) = true → c k - 48 ≤ 9 := fun hd => by
        unfold isDg at hd
        rw [Bool.and_eq_true, decide_eq_true_eq, decide_eq_true_eq] at hd
        omega
      have n40 : c k = 40 → isDg (c k) = false := fun e => by rw [e]; rfl
      have n33 : c k = 33 → isDg (c k) = false := fun e => by rw [e]; rfl
      have n45 : c k = 45 → isDg (c k) = false := fun e => by rw [e]; rfl
      rw [show k + 1 - 1 = k from rfl]
      unfold stp at h
      simp only at h
      by_cases hw : w = true
      · rw [if_pos hw] at h
        by_cases h1 : c k = 40 ∧ dp < 5
        · rw [if_pos h1] at h
          have e := (Option.some.inj h).symm
          subst e
          exact ⟨by show dp + 1 ≤ 5; omega, fun _ => Or.inr (n40 h1.1), fun q => absurd q tnf⟩
        · rw [if_neg h1] at h
          by_cases h2 : isDg (c k) = true
          · rw [if_pos h2] at h
            have e := (Option.some.inj h).symm
            subst e
            refine ⟨i1, fun q => absurd q fnt, fun _ => ⟨by omega, Nat.le_refl _, fun _ => ⟨h2, _, _, rfl, ?_⟩⟩⟩
            have := dg9 h2
            show c k - 48 < 10 ^ 1
            omega
          · rw [if_neg h2] at h
            by_cases h3 : tokB b (c k) = true
            · rw [if_pos h3] at h
              have e := (Option.some.inj h).symm
              subst e
              exact ⟨i1, fun q => absurd q fnt, fun _ => ⟨by omega, by show 1 ≤ 3; decide, fun q => absurd q (by show ¬ 3 < 3; decide)⟩⟩
            · rw [if_neg h3] at h
              by_cases h4 : c k = 33
              · rw [if_pos h4] at h
                have e := (Option.some.inj h).symm
                subst e
                exact ⟨i1, fun _ => Or.inr (n33 h4), fun q => absurd q tnf⟩
              · rw [if_neg h4] at h
                by_cases h5 : c k = 45
                · rw [if_pos h5] at h
                  have e := (Option.some.inj h).symm
                  subst e
                  exact ⟨i1, fun _ => Or.inr (n45 h5), fun q => absurd q tnf⟩
                · rw [if_neg h5] at h
                  exact absurd h (by simp)
      · rw [if_neg hw] at h
        have hw' : w = false := by cases w with
          | true => exact absurd rfl hw
          | false => rfl
        obtain ⟨j1, j2, j3⟩ := i3 hw'
        by_cases h1 : isDg (c k) = true ∧ dg < 3
        · rw [if_pos h1] at h
          have e := (Option.some.inj h).symm
          subst e
          obtain ⟨hh, t, e1, e2⟩ := (j3 h1.2).2
          refine ⟨i1, fun q => absurd q fnt, fun _ => ⟨by omega, by show 1 ≤ dg + 1; omega, fun _ => ⟨h1.1, hh * 10 + (c k - 48), t, ?_, ?_⟩⟩⟩
          · show goon _ ro = _
            rw [e1]; rfl
          · have := dg9 h1.1
            show hh * 10 + (c k - 48) < 10 ^ (dg + 1)
            rw [Nat.pow_succ]
            omega
        · rw [if_neg h1] at h
          by_cases h2 : c k = 41 ∧ 0 < dp
          · rw [if_pos h2] at h
            have e := (Option.some.inj h).symm
            subst e
            exact ⟨by show dp - 1 ≤ 5; omega, fun q => absurd q fnt, fun _ => ⟨by omega, by show 1 ≤ 3; decide, fun q => absurd q (by show ¬ 3 < 3; decide)⟩⟩
          · rw [if_neg h2] at h
            by_cases h3 : stg (c k) = 3 ∧ cm dp = false
            · rw [if_pos h3] at h
              have e := (Option.some.inj h).symm
              subst e
              exact ⟨i1, fun _ => Or.inr (nd 3 h3.1 (by decide)), fun q => absurd q tnf⟩
            · rw [if_neg h3] at h
              by_cases h4 : 1 ≤ stg (c k) ∧ stg (c k) ≤ 2
              · rw [if_pos h4] at h
                have e := (Option.some.inj h).symm
                subst e
                exact ⟨i1, fun _ => Or.inr (nd _ rfl h4.1), fun q => absurd q tnf⟩
              · rw [if_neg h4] at h
                by_cases h5 : 4 ≤ stg (c k) ∧ stg (c k) ≤ 5
                · rw [if_pos h5] at h
                  have e := (Option.some.inj h).symm
                  subst e
                  exact ⟨i1, fun _ => Or.inr (nd _ rfl (by omega)), fun q => absurd q tnf⟩
                · rw [if_neg h5] at h
                  exact absurd h (by simp)
theorem mst_dg {b : Bool} {c : Nat → Nat} : ∀ k σ, mst b c k = some σ → σ.2.1 ≤ 3
  | 0, σ, h => by
    have : σ = (true, 0, 0, fun _ => false, [], []) := (Option.some.inj h).symm
    subst this
    exact Nat.zero_le _
  | k + 1, σ, h => by
    cases hk : mst b c k with
    | none => rw [mst_n hk 1] at h; exact absurd h (by simp)
    | some τ =>
      have ih := mst_dg k τ hk
      rw [mst_s hk] at h
      obtain ⟨w, dg, dp, cm, ro, sk⟩ := τ
      simp only at ih
      unfold stp at h
      simp only at h
      repeat' split at h
      all_goals cases h
      all_goals
        simp only
        omega
theorem mst_low {b : Bool} {c : Nat → Nat} {n : Nat} {σ : PSt} (h : mst b c n = some σ) {k : Nat} (hk : k ≤ n) : ∃ τ, mst b c k = some τ := by
  cases e : mst b c k with
  | some τ => exact ⟨τ, rfl⟩
  | none =>
    have := mst_n e (n - k)
    rw [show k + (n - k) = n by omega, h] at this
    exact absurd this (by simp)
/-- a list whose last stands ahead, by places -/
def lat : List Nat → Nat → Nat
  | [], _ => 0
  | m :: t, k => if k = t.length then m else lat t k
theorem lat_c (m : Nat) (t : List Nat) {k : Nat} (h : k < t.length) : lat (m :: t) k = lat t k := if_neg (by omega)
theorem lat_l (m : Nat) (t : List Nat) : lat (m :: t) t.length = m := if_pos rfl
def hl : List Nat → Nat
  | [] => 0
  | m :: t => hgs m (hl t)
def okl (b : Bool) : List Nat → Prop
  | [] => True
  | m :: t => okm b m (hl t) ∧ okl b t
theorem hg_cg {f g : Nat → Nat} : ∀ n, (∀ k, k < n → f k = g k) → hg f n = hg g n
  | 0, _ => rfl
  | n + 1, h => by
    show hgs (f n) (hg f n) = hgs (g n) (hg g n)
    rw [hg_cg n (fun k hk => h k (by omega)), h n (by omega)]
theorem hg_lat : ∀ L, hg (lat L) L.length = hl L
  | [] => rfl
  | m :: t => by
    show hgs (lat (m :: t) t.length) (hg (lat (m :: t)) t.length) = hgs m (hl t)
    rw [lat_l, hg_cg t.length (fun k hk => lat_c m t hk), hg_lat t]
theorem okl_lat {b : Bool} : ∀ L, okl b L → ∀ k, k < L.length → okm b (lat L k) (hg (lat L) k)
  | [], _, k, h => absurd h (by show ¬ k < 0; omega)
  | m :: t, ⟨h1, h2⟩, k, h => by
    have h' : k < t.length + 1 := h
    rw [hg_cg k (fun j hj => lat_c m t (show j < t.length by omega))]
    by_cases q : k = t.length
    · subst q
      rw [lat_l, hg_lat]
      exact h1
    · rw [lat_c m t (by omega)]
      exact okl_lat t h2 k (by omega)
theorem okl_wf {b : Bool} {L : List Nat} (h : okl b L) (h1 : hl L = 1) : wfX b (lat L) L.length := ⟨okl_lat L h, fun _ => by rw [hg_lat]; exact h1⟩
theorem hl_le : ∀ L, hl L ≤ L.length
  | [] => Nat.le_refl _
  | m :: t => by
    have := hl_le t
    show hgs m (hl t) ≤ t.length + 1
    unfold hgs
    split
    · omega
    · split <;> omega
