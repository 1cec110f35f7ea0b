/-! laws as texts: the model's descent -/
def jsL (a : Nat) : List Nat := if a = 4 then [33, 45] else if a = 5 then [119, 101, 115, 100, 112, 120, 99, 97, 116, 111, 110, 107, 109] else if a = 6 then [119, 101, 115, 100, 112, 120, 99, 97, 116, 111, 114] else if a = 7 then [40] else if a = 8 then [41] else if a = 9 then [124] else if a = 10 then [38] else if a = 11 then [60, 62, 61] else if a = 12 then [43, 45] else [42]
def jlx (a : Nat) : Nat := (jsL a).length
def si (a i : Nat) : Nat := (jsL a).getD i 0
theorem js_len : ∀ a, a < 14 → 4 ≤ a → (Int32.ofNat (lenJS.getD a 0)) >>> (0 &&& 31) = qN (jlx a) ∧ lenJS.getD a 0 = jlx a := by decide
theorem js_ch : ∀ a, a < 14 → 4 ≤ a → ∀ i, i < jlx a → ((((bytJS.getD a []).getD i 0) &&& 255).toUInt32 % 65536).toInt32 = qN (si a i) := by decide
theorem js_nr : ∀ a, a < 14 → 4 ≤ a → ∀ i, i < jlx a → narrow .char (.int (qN (si a i))) = .int (qN (si a i)) := by decide
theorem js_lo : ∀ a, a < 14 → 4 ≤ a → jlx a < 14 := by decide
theorem js_256 : ∀ a, a < 14 → 4 ≤ a → ∀ i, i < jlx a → si a i < 256 := by decide
theorem m_among {a p m : Nat} {c : Nat → Nat} {μ : MM} {Q : Int32 → MM → Prop} (ha : 4 ≤ a) (ha2 : a < 14) (hm : m ≤ 60) (hp : p ≤ m) (h29 : gI μ 358 29 = qN p) (h30 : gI μ 358 30 = qN m) (ht : ∀ i, i < 60 → gI μ 380 i = qN (c i)) (hc : ∀ i, i < 60 → c i < 256)
    (hy : ∀ i, i < jlx a → p < m → si a i = c p → Q (qN i) μ) (hn : (m ≤ p ∨ ∀ j, j < jlx a → si a j ≠ c p) → Q (-1) μ) : G12_among a μ Q := by
  have lo := js_lo a ha2 ha
  unfold G12_among
  refine Lp.up (jlx a) (fun i (y : Int32 × MM) => y = (qN i, μ) ∧ ∀ j, j < i → si a j ≠ c p) ?_ ⟨rfl, fun j hj => absurd hj (by omega)⟩
  rintro i K hi hK _ ⟨rfl, hz⟩
  have c1 : qN (jlx a) ≤ qN i ↔ jlx a ≤ i := qN_le (by omega) (by omega)
  have c2 : qN m ≤ qN p ↔ m ≤ p := qN_le (by omega) (by omega)
  unfold G12_among_L2 GJ0_length_8abf5
  simp only [(js_len a ha2 ha).1, c1, h29, h30, c2]
  refine ⟨fun r => hn (Or.inr (by rw [show i = jlx a by omega] at hz; exact hz)), fun r => ⟨fun r2 => hn (Or.inl r2), fun r2 => ?_⟩⟩
  have li : i < jlx a := by omega
  have lp : p < m := by omega
  have e1 := js_ch a ha2 ha i li
  have e2 := js_nr a ha2 ha i li
  have s2 := js_256 a ha2 ha i li
  have hcp := hc p (by omega)
  unfold GJ0_charAt_5068e GJ1_charAt_3b067 GJ0_checkIndex_df160
  rw [(js_len a ha2 ha).2, qN_vp (by omega), qN_nat (by omega), e1]
  refine ⟨fun z => (qN_neg (by omega)).mp z, (qN_lt (by omega) (by omega)).mpr li, li, e2, e2, ?_⟩
  show vp_in (gI μ 358 29) 60 ∧ (¬ qN (si a i) = gI μ 380 (gI μ 358 29).toNatClampNeg → K (qN i + 1, μ)) ∧ (qN (si a i) = gI μ 380 (gI μ 358 29).toNatClampNeg → Q (qN i) μ)
  rw [h29, qN_vp (by omega), qN_nat (by omega), ht p (by omega), qN_eq (by omega) (by omega)]
  refine ⟨by omega, fun r3 => ?_, fun r3 => hy i li lp r3⟩
  refine hK li _ ⟨by rw [show qN i + 1 = qN (i + 1) from qN_add i 1], fun j hj => ?_⟩
  by_cases e : j = i
  · subst e; exact r3
  · exact hz j (by omega)
theorem m_isDg {p m : Nat} {c : Nat → Nat} {μ : MM} {Q : Int32 → MM → Prop} (hm : m ≤ 60) (hp : p ≤ m) (h29 : gI μ 358 29 = qN p) (h30 : gI μ 358 30 = qN m) (ht : ∀ i, i < 60 → gI μ 380 i = qN (c i)) (hc : ∀ i, i < 60 → c i < 256)
    (hy : p < m → isDg (c p) = true → Q 1 μ) (hn : ¬ (p < m ∧ isDg (c p) = true) → Q 0 μ) : G12_isDigit μ Q := by
  have c2 : qN m ≤ qN p ↔ m ≤ p := qN_le (by omega) (by omega)
  unfold G12_isDigit G12_isDigit_J37
  rw [h29, h30, c2]
  refine ⟨fun r => hn (fun z => by omega), fun r => ?_⟩
  have hcp := hc p (by omega)
  have k1 : qL (c p) < 48 ↔ c p < 48 := qL_lt (b := 48) (by omega) (by decide)
  have k2 : (57 : Int64) < qL (c p) ↔ 57 < c p := qL_lt (a := 57) (by decide) (by omega)
  rw [qN_vp (by omega), qN_nat (by omega), ht p (by omega), qN_6 (by omega)]
  refine ⟨by omega, ?_⟩
  unfold G12_in G12_in_J17
  rw [lg_lt, lg_gt, k1, k2]
  have nodig : ¬ (48 ≤ c p ∧ c p ≤ 57) → Q 0 μ := fun z => hn (fun y => z (by
    have y2 := y.2
    unfold isDg at y2
    rw [Bool.and_eq_true, decide_eq_true_eq, decide_eq_true_eq] at y2
    exact y2))
  refine ⟨fun r2 => ⟨fun _ => nodig (by omega), fun z => absurd rfl z⟩, fun r2 => ⟨fun r3 => ⟨fun _ => nodig (by omega), fun z => absurd rfl z⟩, fun r3 => ⟨fun z => absurd z (by decide), fun _ => hy (by omega) ?_⟩⟩⟩
  unfold isDg
  rw [decide_eq_true (show 48 ≤ c p by omega), decide_eq_true (show c p ≤ 57 by omega)]
  rfl
def pmS (k j : Nat) : Prop := (k = 358 ∧ (j = 29 ∨ j = 31)) ∨ (k = 377 ∧ 576 ≤ j) ∨ (k = 378 ∧ j = 12)
def MPs (b : Bool) (c : Nat → Nat) (m : Nat) (μ0 ν : MM) (p o : Nat) (L : List Nat) : Prop := gI ν 358 29 = qN p ∧ gI ν 358 30 = qN m ∧ gI ν 358 31 = qN o ∧ gI ν 358 32 = bI b ∧ gI ν 378 12 = qN L.length ∧ (∀ k, k < L.length → gI ν 377 (576 + k) = qN (lat L k)) ∧ (∀ i, i < 60 → gI ν 380 i = qN (c i)) ∧ Sm pmS μ0 ν
theorem MPs.at' {b : Bool} {c : Nat → Nat} {m : Nat} {μ0 ν : MM} {p o : Nat} {L : List Nat} (h : MPs b c m μ0 ν p o L) (p' : Nat) : MPs b c m μ0 (sI ν 358 29 (qN p')) p' o L := by
  obtain ⟨h1, h2, h3, h4, h5, h6, h7, h8⟩ := h
  refine ⟨by rw [gI_I, if_pos ⟨rfl, rfl⟩], ?_, ?_, ?_, ?_, fun k hk => ?_, fun i hi => ?_, h8.wI _ (Or.inl ⟨rfl, Or.inl rfl⟩)⟩
  · rw [gI_I, if_neg (fun r => by omega)]; exact h2
  · rw [gI_I, if_neg (fun r => by omega)]; exact h3
  · rw [gI_I, if_neg (fun r => by omega)]; exact h4
  · rw [gI_I, if_neg (fun r => by omega)]; exact h5
  · rw [gI_I, if_neg (fun r => by omega)]; exact h6 k hk
  · rw [gI_I, if_neg (fun r => by omega)]; exact h7 i hi
theorem MPs.op' {b : Bool} {c : Nat → Nat} {m : Nat} {μ0 ν : MM} {p o : Nat} {L : List Nat} (h : MPs b c m μ0 ν p o L) (o' : Nat) : MPs b c m μ0 (sI ν 358 31 (qN o')) p o' L := by
  obtain ⟨h1, h2, h3, h4, h5, h6, h7, h8⟩ := h
  refine ⟨?_, ?_, by rw [gI_I, if_pos ⟨rfl, rfl⟩], ?_, ?_, fun k hk => ?_, fun i hi => ?_, h8.wI _ (Or.inl ⟨rfl, Or.inr rfl⟩)⟩
  · rw [gI_I, if_neg (fun r => by omega)]; exact h1
  · rw [gI_I, if_neg (fun r => by omega)]; exact h2
  · rw [gI_I, if_neg (fun r => by omega)]; exact h4
  · rw [gI_I, if_neg (fun r => by omega)]; exact h5
  · rw [gI_I, if_neg (fun r => by omega)]; exact h6 k hk
  · rw [gI_I, if_neg (fun r => by omega)]; exact h7 i hi
theorem m_pmarks {b : Bool} {c : Nat → Nat} {m v : Nat} {μ0 ν : MM} {p o : Nat} {L : List Nat} {Q : MM → Prop} (h : MPs b c m μ0 ν p o L) (hl : L.length < 48) (hQ : ∀ ν', MPs b c m μ0 ν' p o (v :: L) → Q ν') : G12_marks (qN v) ν Q := by
  obtain ⟨h1, h2, h3, h4, h5, h6, h7, h8⟩ := h
  unfold G12_marks
  rw [h5, show (576 : Int32) + qN L.length = qN (576 + L.length) from qN_add 576 _, qN_vp (by omega), qN_nat (by omega), Bd_eq, gI_I, if_neg (fun r => by omega), h5, show qN L.length + 1 = qN (L.length + 1) from qN_add _ 1, Bd_eq]
  refine ⟨by omega, hQ _ ⟨?_, ?_, ?_, ?_, ?_, fun k hk => ?_, fun i hi => ?_, (h8.wI _ (Or.inr (Or.inl ⟨rfl, by omega⟩))).wI _ (Or.inr (Or.inr ⟨rfl, rfl⟩))⟩⟩
  · rw [gI_I, if_neg (fun r => by omega), gI_I, if_neg (fun r => by omega)]; exact h1
  · rw [gI_I, if_neg (fun r => by omega), gI_I, if_neg (fun r => by omega)]; exact h2
  · rw [gI_I, if_neg (fun r => by omega), gI_I, if_neg (fun r => by omega)]; exact h3
  · rw [gI_I, if_neg (fun r => by omega), gI_I, if_neg (fun r => by omega)]; exact h4
  · rw [gI_I, if_pos ⟨rfl, rfl⟩]; rfl
  · have hk' : k < L.length + 1 := hk
    rw [gI_I, if_neg (fun r => by omega), gI_I]
    by_cases e : k = L.length
    · rw [if_pos ⟨rfl, by omega⟩, e, lat_l]
    · rw [if_neg (fun r => by omega), lat_c v L (by omega)]
      exact h6 k (by omega)
  · rw [gI_I, if_neg (fun r => by omega), gI_I, if_neg (fun r => by omega)]; exact h7 i hi
/-- what a piece of a text comes to -/
def okR (b : Bool) (c : Nat → Nat) (m r : Nat) (S : List Nat) (dp : Nat) (cm0 : Nat → Bool) (L0 : List Nat) (q : Nat) (L : List Nat) : Prop := ∃ dg cm ro Pn, mst b c q = some (false, dg, dp, cm, ro, Pn ++ S) ∧ q ≤ m ∧ L = fin Pn ro ∧ (∀ t, t ∈ Pn → r + 1 ≤ stg t) ∧ (∀ d, d < dp → cm d = cm0 d) ∧ (3 ≤ r → cm dp = cm0 dp) ∧ hl L = hl L0 + 1 ∧ okl b L ∧
  (q < m → (isDg (c q) = true → 3 ≤ dg) ∧ ¬ (r + 1 ≤ stg (c q) ∧ stg (c q) ≤ 5 ∧ stg (c q) ≠ 3) ∧ (r ≤ 2 → stg (c q) = 3 → cm dp = true))
def badR (b : Bool) (c : Nat → Nat) (m q : Nat) : Prop := ∃ σ, mst b c q = some σ ∧ ((q < m ∧ stp b (c q) σ = none) ∨ (q = m ∧ (σ.1 = true ∨ 0 < σ.2.2.1)))
def SPf (b : Bool) (c : Nat → Nat) (m : Nat) (μ0 : MM) (r : Nat) (f : MM → (Int32 → MM → Prop) → Prop) (p : Nat) (ν : MM) (S : List Nat) (dp : Nat) (cm0 : Nat → Bool) (L0 : List Nat) : Prop :=
  ∀ Q : Int32 → MM → Prop, (∀ q L ν', p < q → okR b c m r S dp cm0 L0 q L → MPs b c m μ0 ν' q dp L → Q 1 ν') → (∀ q ν', badR b c m q → gI ν' 358 29 = qN q → Sm pmS μ0 ν' → Q 0 ν') → f ν Q
def HR (b : Bool) (c : Nat → Nat) (m : Nat) (μ0 : MM) (n : Nat) (f : Int32 → MM → (Int32 → MM → Prop) → Prop) : Prop := ∀ r p ν dg dp cm ro sk, r ≤ 5 → p ≤ m → (5 - dp) * 8 + (m - p) + (8 - r) ≤ n → mst b c p = some (true, dg, dp, cm, ro, sk) → MPs b c m μ0 ν p dp ro → okl b ro → (r ≤ 2 → cm dp = false) → (r ≤ 4 → ∀ t T, sk = t :: T → stg t ≤ r) → SPf b c m μ0 r (f (qN r)) p ν sk dp cm ro
def HA (b : Bool) (c : Nat → Nat) (m : Nat) (μ0 : MM) (n : Nat) (f : MM → (Int32 → MM → Prop) → Prop) : Prop := ∀ p ν dg dp cm ro sk, p ≤ m → (5 - dp) * 8 + (m - p) + 2 ≤ n → mst b c p = some (true, dg, dp, cm, ro, sk) → MPs b c m μ0 ν p dp ro → okl b ro → SPf b c m μ0 5 f p ν sk dp cm ro
def HT (b : Bool) (c : Nat → Nat) (m : Nat) (μ0 : MM) (n : Nat) (f : MM → (Int32 → MM → Prop) → Prop) : Prop := ∀ p ν dg dp cm ro sk, p ≤ m → (5 - dp) * 8 + (m - p) + 1 ≤ n → (p < m → c p ≠ 33 ∧ c p ≠ 45) → mst b c p = some (true, dg, dp, cm, ro, sk) → MPs b c m μ0 ν p dp ro → okl b ro → SPf b c m μ0 5 f p ν sk dp cm ro
theorem dg_0 {x : Nat} (hd : isDg x = true) : stg x = 0 ∧ x ≠ 41 ∧ x ≠ 40 ∧ x - 48 ≤ 9 ∧ 48 ≤ x := by
  unfold isDg at hd
  rw [Bool.and_eq_true, decide_eq_true_eq, decide_eq_true_eq] at hd
  refine ⟨?_, by omega, by omega, by omega, by omega⟩
  unfold stg
  rw [if_neg (by omega), if_neg (by omega), if_neg (by omega), if_neg (by omega), if_neg (by omega), if_neg (by omega), if_neg (by omega), if_neg (by omega), if_neg (by omega), if_neg (by omega)]
theorem stp_op {b : Bool} {x dg dp r : Nat} {cm : Nat → Bool} {ro Pn sk : List Nat} (hr : r < 5) (hx : stg x = r + 1) (h3 : r = 2 → cm dp = false) (hS : ∀ t T, sk = t :: T → stg t ≤ r) (hP : ∀ t, t ∈ Pn → r + 1 ≤ stg t) :
    stp b x (false, dg, dp, cm, ro, Pn ++ sk) = some (true, dg, dp, (if r = 2 then updB cm dp true else if r ≤ 1 then updB cm dp false else cm), fin Pn ro, x :: sk) := by
  have nd : ¬ (isDg x = true ∧ dg < 3) := fun z => by have := (dg_0 z.1).1; omega
  have n41 : ¬ (x = 41 ∧ 0 < dp) := fun z => by
    have : stg 41 = 0 := rfl
    rw [z.1] at hx
    omega
  have pf := pst_fin (s := r + 1) (S := sk) (fun t T e => by have := hS t T e; omega) Pn ro hP
  unfold stp
  simp only [Bool.false_eq_true, if_false]
  rw [if_neg nd, if_neg n41]
  by_cases q3 : r = 2
  · subst q3
    rw [if_pos ⟨hx, h3 rfl⟩, if_pos rfl, pf]
  · rw [if_neg (fun z => q3 (by omega)), if_neg q3, hx, pf]
    by_cases q1 : r ≤ 1
    · rw [if_pos (by omega), if_pos q1]
    · rw [if_neg (by omega), if_pos (by omega), if_neg q1]
theorem act_ex {x r : Nat} (hr : r < 5) (h : stg x = r + 1) : ∃ i, i < jlx (9 + r) ∧ si (9 + r) i = x := by
  unfold stg at h
  repeat' split at h
  all_goals first | omega | skip
  all_goals
    rcases (show r = 0 ∨ r = 1 ∨ r = 2 ∨ r = 3 ∨ r = 4 by omega) with rfl | rfl | rfl | rfl | rfl
  all_goals first | omega | skip
  all_goals
    rename_i e
    subst e
  all_goals first | exact ⟨0, by decide, rfl⟩ | exact ⟨1, by decide, rfl⟩ | exact ⟨2, by decide, rfl⟩
theorem act_st : ∀ r, r < 5 → ∀ i, i < jlx (9 + r) → stg (si (9 + r) i) = r + 1 := by decide
theorem act_md : ∀ r, r < 5 → ∀ i, i < jlx (9 + r) → (si (9 + r) i = 124 ∨ si (9 + r) i = 38 ∨ si (9 + r) i = 60 ∨ si (9 + r) i = 62 ∨ si (9 + r) i = 61 ∨ si (9 + r) i = 43 ∨ si (9 + r) i = 45 ∨ si (9 + r) i = 42) := by decide
theorem okm_b {b : Bool} {x h : Nat} (hx : x = 124 ∨ x = 38 ∨ x = 60 ∨ x = 62 ∨ x = 61 ∨ x = 43 ∨ x = 45 ∨ x = 42) (hh : 2 ≤ h) : okm b (2000 + x) h ∧ hgs (2000 + x) h = h - 1 := by
  refine ⟨Or.inr (Or.inr (Or.inr (Or.inr (Or.inr ⟨by omega, hh⟩)))), ?_⟩
  unfold hgs
  rw [if_neg (by omega), if_neg (by omega)]
theorem okm_u {b : Bool} {x h : Nat} (hx : x = 33 ∨ x = 126) (hh : 1 ≤ h) : okm b (2000 + x) h ∧ hgs (2000 + x) h = h := by
  refine ⟨Or.inr (Or.inr (Or.inr (Or.inr (Or.inl ⟨by omega, hh⟩)))), ?_⟩
  unfold hgs
  rw [if_neg (by omega), if_pos (by omega)]
/-- the loop of a rank -/
theorem m_rank {b : Bool} {c : Nat → Nat} {m n : Nat} {μ0 : MM} (hm : m ≤ 40) (hc : ∀ i, i < 60 → c i < 256) {rAh rTh : MM → (Int32 → MM → Prop) → Prop} {rRa : Int32 → MM → (Int32 → MM → Prop) → Prop} (hR : HR b c m μ0 n rRa) {r p dg dp : Nat} {ν : MM} {cm : Nat → Bool} {ro sk : List Nat} (hr : r < 5) (hp : p ≤ m) (hf : (5 - dp) * 8 + (m - p) + (8 - r) ≤ n + 1)
    (hs : mst b c p = some (true, dg, dp, cm, ro, sk)) (hM : MPs b c m μ0 ν p dp ro) (hok : okl b ro) (hcm : r ≤ 2 → cm dp = false) (hS : ∀ t T, sk = t :: T → stg t ≤ r) : SPf b c m μ0 r (fun ν Q => G12_ranked_J51 rAh rRa rTh (qN r) (9 + r) ν Q) p ν sk dp cm ro := by
  intro Q hy hn
  have r1 : qN r + 1 = qN (r + 1) := qN_add r 1
  have bad0 : ∀ q (ν' : MM) (mo : Int32), badR b c m q → gI ν' 358 29 = qN q → Sm pmS μ0 ν' → ∀ K, G12_ranked_L63 rAh rRa rTh (qN r) (9 + r) Q K (0, mo, ν') := fun q ν' mo h1 h2 h3 K => ⟨fun _ => ⟨bo_0, hn q ν' h1 h2 h3⟩, fun z => absurd rfl z⟩
  have LP : ∀ (x : Int32 × Int32 × MM), ((∃ q ν' mo, x = (0, mo, ν') ∧ badR b c m q ∧ gI ν' 358 29 = qN q ∧ Sm pmS μ0 ν') ∨ (∃ q ν' L mo dg' cm' ro' Pn, x = (1, mo, ν') ∧ p < q ∧ q ≤ m ∧ mst b c q = some (false, dg', dp, cm', ro', Pn ++ sk) ∧ L = fin Pn ro' ∧ (∀ t, t ∈ Pn → r + 1 ≤ stg t) ∧ (∀ d, d < dp → cm' d = cm d) ∧ (3 ≤ r → cm' dp = cm dp) ∧ hl L = hl ro + 1 ∧ okl b L ∧
      (q < m → (isDg (c q) = true → 3 ≤ dg') ∧ ¬ (r + 2 ≤ stg (c q) ∧ stg (c q) ≤ 5 ∧ stg (c q) ≠ 3) ∧ (r ≤ 1 → stg (c q) = 3 → cm' dp = true)) ∧ MPs b c m μ0 ν' q dp L ∧ ((mo = (1 : Int32) ∧ (r = 2 → cm' dp = false)) ∨ (mo = (0 : Int32) ∧ r = 2 ∧ cm' dp = true)))) → Lp (G12_ranked_L63 rAh rRa rTh (qN r) (9 + r) Q) x := by
    intro x hx
    refine Lp.wf (fun x => if x.1 = 0 ∨ x.2.1 = 0 then 0 else 100 - (gI x.2.2 358 29).toNatClampNeg) (fun x => (∃ q ν' mo, x = (0, mo, ν') ∧ badR b c m q ∧ gI ν' 358 29 = qN q ∧ Sm pmS μ0 ν') ∨ (∃ q ν' L mo dg' cm' ro' Pn, x = (1, mo, ν') ∧ p < q ∧ q ≤ m ∧ mst b c q = some (false, dg', dp, cm', ro', Pn ++ sk) ∧ L = fin Pn ro' ∧ (∀ t, t ∈ Pn → r + 1 ≤ stg t) ∧ (∀ d, d < dp → cm' d = cm d) ∧ (3 ≤ r → cm' dp = cm dp) ∧ hl L = hl ro + 1 ∧ okl b L ∧
      (q < m → (isDg (c q) = true → 3 ≤ dg') ∧ ¬ (r + 2 ≤ stg (c q) ∧ stg (c q) ≤ 5 ∧ stg (c q) ≠ 3) ∧ (r ≤ 1 → stg (c q) = 3 → cm' dp = true)) ∧ MPs b c m μ0 ν' q dp L ∧ ((mo = (1 : Int32) ∧ (r = 2 → cm' dp = false)) ∨ (mo = (0 : Int32) ∧ r = 2 ∧ cm' dp = true)))) ?_ hx
    clear hx x
    rintro K x hx hK
    rcases hx with ⟨q, ν', mo, rfl, h1, h2, h3⟩ | ⟨q, ν', L, mo, dg', cm', ro', Pn, rfl, hpq, hqm, hs', hL, hP, hc1, hc2, hh, hk, hex, hM', hmo⟩
    · exact bad0 q ν' mo h1 h2 h3 K
    · have ret : (q < m → ¬ (stg (c q) = r + 1 ∧ stg (c q) ≠ 3)) → (r = 2 → q < m → stg (c q) = 3 → cm' dp = true) → Q 1 ν' := fun z1 z2 => by
        refine hy q L ν' hpq ⟨dg', cm', ro', Pn, hs', hqm, hL, hP, hc1, hc2, hh, hk, fun z => ?_⟩ hM'
        obtain ⟨a1, a2, a3⟩ := hex z
        refine ⟨a1, fun y => ?_, fun y1 y2 => ?_⟩
        · have := z1 z
          exact a2 ⟨by omega, y.2.1, y.2.2⟩
        · by_cases e : r = 2
          · exact z2 e z y2
          · exact a3 (by omega) y2
      refine ⟨fun z => absurd z (show ¬ (1 : Int32) = 0 by decide), fun _ => ?_⟩
      rcases hmo with ⟨rfl, hm1⟩ | ⟨rfl, rfl, hm0⟩
      · refine ⟨fun z => absurd z (show ¬ (1 : Int32) = 0 by decide), fun _ => ?_⟩
        obtain ⟨g1, g2, g3, g4, g5, g6, g7, g8⟩ := id hM'
        show G12_among (9 + r) ν' _
        refine m_among (by omega) (by omega) (by omega) hqm g1 g2 g7 hc (fun i hi hlt hsi => ?_) (fun hno => ?_)
        · have li := js_lo (9 + r) (by omega) (by omega)
          have stx := act_st r hr i hi
          have mdx := act_md r hr i hi
          rw [hsi] at stx mdx
          have step := stp_op (b := b) (x := c q) (dg := dg') (dp := dp) (cm := cm') (ro := ro') (Pn := Pn) (sk := sk) hr stx hm1 hS hP
          have hs2 := (mst_s hs').trans step
          rw [← hL] at hs2
          refine ⟨fun z => absurd ((qN_neg (by omega)).mp z) id, fun _ => ?_⟩
          rw [g1, qN_vp (by omega), qN_nat (by omega), g7 q (by omega), Bd_eq, show qN q + 1 = qN (q + 1) from qN_add q 1, Bd_eq, r1]
          refine ⟨by omega, ?_⟩
          have hM2 := hM'.at' (q + 1)
          have cmz : ∀ d, d < dp → (if r = 2 then updB cm' dp true else if r ≤ 1 then updB cm' dp false else cm') d = cm' d := fun d hd => by
            split
            · unfold updB; rw [if_neg (by omega)]
            · split
              · unfold updB; rw [if_neg (by omega)]
              · rfl
          have cmd : r ≤ 1 → (if r = 2 then updB cm' dp true else if r ≤ 1 then updB cm' dp false else cm') dp = false := fun z => by
            rw [if_neg (by omega), if_pos z]; unfold updB; rw [if_pos rfl]
          have cmt : r = 2 → (if r = 2 then updB cm' dp true else if r ≤ 1 then updB cm' dp false else cm') dp = true := fun z => by
            rw [if_pos z]; unfold updB; rw [if_pos rfl]
          have cmk : 3 ≤ r → (if r = 2 then updB cm' dp true else if r ≤ 1 then updB cm' dp false else cm') dp = cm' dp := fun z => by
            rw [if_neg (by omega), if_neg (by omega)]
          refine hR (r + 1) (q + 1) _ dg' dp _ L (c q :: sk) (by omega) (by omega) (by omega) hs2 hM2 hk (fun z => cmd (by omega)) (fun _ t T e => by
            have : t = c q := (List.cons.inj e).1.symm
            rw [this]; omega) _ (fun q2 L2 ν2 hq2 ho2 hMp2 => ?_) (fun q2 ν2 h1 h2 h3 => ?_)
          · obtain ⟨dg2, cm2, ro2, Pn2, y1, y2, y3, y4, y5, y6, y7, y8, y9⟩ := ho2
            refine ⟨fun z => absurd z (by decide), fun _ => ?_⟩
            have lenq := mst_len q2 _ y1
            simp only [List.length_append, List.length_cons] at lenq
            have lf := fin_len Pn2 ro2
            rw [show (2000 : Int32) + qN (c q) = qN (2000 + c q) from qN_add 2000 _]
            have hL2 : L2.length < 48 := by rw [y3, lf]; omega
            refine m_pmarks hMp2 hL2 (fun ν3 hM3 => ?_)
            have nextJ : ∀ mo : Int32, ((mo = (1 : Int32) ∧ (r = 2 → cm2 dp = false)) ∨ (mo = (0 : Int32) ∧ r = 2 ∧ cm2 dp = true)) → K (1, mo, ν3) := fun mo hmo => by
              refine hK _ (Or.inr ⟨q2, ν3, (2000 + c q) :: L2, mo, dg2, cm2, ro2, Pn2 ++ [c q], rfl, by omega, y2, ?_, ?_, fun t ht => ?_, fun d hd => (y5 d hd).trans ((cmz d hd).trans (hc1 d hd)), fun z => (y6 (by omega)).trans ((cmk z).trans (hc2 z)), ?_, ?_, fun z => ?_, hM3, hmo⟩) ?_
              · rw [y1, List.append_assoc]; rfl
              · rw [fin_app, ← y3]
              · rcases List.mem_append.mp ht with z | z
                · have := y4 t z; omega
                · rw [List.mem_singleton.mp z]; omega
              · show hgs (2000 + c q) (hl L2) = hl ro + 1
                rw [(okm_b (b := b) mdx (show 2 ≤ hl L2 by omega)).2]
                omega
              · exact ⟨(okm_b mdx (by omega)).1, y8⟩
              · obtain ⟨a1, a2, a3⟩ := y9 z
                exact ⟨a1, fun y => a2 ⟨by omega, y.2⟩, fun y => a3 (by omega)⟩
              · show (if (1 : Int32) = 0 ∨ mo = 0 then 0 else 100 - (gI ν3 358 29).toNatClampNeg) < (if (1 : Int32) = 0 ∨ (1 : Int32) = 0 then 0 else 100 - (gI ν' 358 29).toNatClampNeg)
                rw [if_neg (show ¬ ((1 : Int32) = 0 ∨ (1 : Int32) = 0) by decide), g1, hM3.1, qN_nat (by omega), qN_nat (by omega)]
                split
                · omega
                · omega
            have e2 : qN r = 2 ↔ r = 2 := qN_eq (b := 2) (by omega) (by decide)
            unfold G12_ranked_J123
            rw [e2]
            refine ⟨fun z => nextJ 0 (Or.inr ⟨rfl, z, (y6 (by omega)).trans (cmt z)⟩), fun z => nextJ 1 (Or.inl ⟨rfl, fun w => absurd w z⟩)⟩
          · refine ⟨fun _ => ?_, fun z => absurd rfl z⟩
            have fl0 : ∀ mo : Int32, K (0, mo, ν2) := fun mo => by
              refine hK _ (Or.inl ⟨q2, ν2, mo, rfl, h1, h2, h3⟩) ?_
              show (if (0 : Int32) = 0 ∨ mo = 0 then 0 else 100 - (gI ν2 358 29).toNatClampNeg) < (if (1 : Int32) = 0 ∨ (1 : Int32) = 0 then 0 else 100 - (gI ν' 358 29).toNatClampNeg)
              rw [if_neg (show ¬ ((1 : Int32) = 0 ∨ (1 : Int32) = 0) by decide), if_pos (Or.inl rfl), g1, qN_nat (by omega)]
              omega
            exact ⟨fun _ => fl0 0, fun _ => fl0 1⟩
        · refine ⟨fun _ => ⟨bo_1, ret (fun z y => ?_) (fun e z y => ?_)⟩, fun z => absurd (show (-1 : Int32) < 0 by decide) z⟩
          · rcases hno with h | h
            · omega
            · obtain ⟨i, i1, i2⟩ := act_ex hr y.1
              exact h i i1 i2
          · rcases hno with h | h
            · omega
            · obtain ⟨i, i1, i2⟩ := act_ex hr (show stg (c q) = r + 1 by omega)
              exact absurd i2 (h i i1)
      · exact ⟨fun _ => ⟨bo_1, ret (fun z y => by omega) (fun _ _ _ => hm0)⟩, fun z => absurd rfl z⟩
  show G12_ranked_J51 rAh rRa rTh (qN r) (9 + r) ν Q
  unfold G12_ranked_J51
  rw [r1]
  refine hR (r + 1) p ν dg dp cm ro sk (by omega) hp (by omega) hs hM hok (fun z => hcm (by omega)) (fun _ t T e => by have := hS t T e; omega) _ (fun q L ν' hpq ho hM' => ?_) (fun q ν' h1 h2 h3 => LP _ (Or.inl ⟨q, ν', 1, rfl, h1, h2, h3⟩))
  obtain ⟨dg2, cm2, ro2, Pn2, y1, y2, y3, y4, y5, y6, y7, y8, y9⟩ := ho
  refine LP _ (Or.inr ⟨q, ν', L, 1, dg2, cm2, ro2, Pn2, rfl, hpq, y2, y1, y3, fun t ht => by have := y4 t ht; omega, y5, fun z => y6 (by omega), y7, y8, fun z => ?_, hM', Or.inl ⟨rfl, fun z => (y6 (by omega)).trans (hcm (by omega))⟩⟩)
  obtain ⟨a1, a2, a3⟩ := y9 z
  exact ⟨a1, fun y => a2 ⟨by omega, y.2⟩, fun y => a3 (by omega)⟩
