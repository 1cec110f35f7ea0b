/-! the invariant, the relation of the two memories, frames -/
def bnd (f i : Nat) : Nat := if f = 358 then (if i = 3 then 13 else if i = 8 then 25 else if i = 12 then 97 else if i = 28 then 61 else if i = 61 then 41 else 4294967296) else
  if f ≤ 361 then 2 else if f = 362 then 10 else if f = 363 then 101 else if f ≤ 365 then 4 else if f = 366 then 6 else if f = 367 then 24 else if f = 368 then 12 else if f = 369 then 100 else if f = 370 then 10 else
  if f = 371 then 4 else if f = 372 then 400 else if f ≤ 374 then 2 else if f = 375 then 3 else if f = 378 then 41 else if f = 380 then 256 else if f ≤ 388 then 101 else if f = 389 then 100 else if f ≤ 402 then 96 else if f = 403 then 3 else
  if f ≤ 408 then 4294967296 else 12
/-- how a code's mark moves the height of the stack -/
def hgs (m h : Nat) : Nat := if m < 2000 then h + 1 else if m = 2033 ∨ m = 2126 then h else h - 1
def hg (c : Nat → Nat) : Nat → Nat
  | 0 => 0
  | k + 1 => hgs (c k) (hg c k)
/-- a mark that can stand in a law (b true) or a filter, at a height -/
def okm (b : Bool) (m h : Nat) : Prop := (m < 1000 ∧ h < 40) ∨ (1000 ≤ m ∧ m < 1010 ∧ h < 40) ∨ (b = true ∧ 1010 ≤ m ∧ m < 1013 ∧ h < 40) ∨ (b = false ∧ m = 1013 ∧ h < 40) ∨ ((m = 2033 ∨ m = 2126) ∧ 1 ≤ h) ∨ ((m = 2124 ∨ m = 2038 ∨ m = 2060 ∨ m = 2062 ∨ m = 2061 ∨ m = 2043 ∨ m = 2045 ∨ m = 2042) ∧ 2 ≤ h)
def wfX (b : Bool) (c : Nat → Nat) (n : Nat) : Prop := (∀ k, k < n → okm b (c k) (hg c k)) ∧ (0 < n → hg c n = 1)
def st5 (s : Nat) : Prop := s = 0 ∨ s = 1 ∨ s = 3 ∨ s = 7 ∨ s = 11
def Inv (A X : Nat → Nat → Nat) : Prop := (∀ f i, dom f i → A f i < bnd f i) ∧ (∀ i, i < A 358 12 → A 367 i < A 358 8 ∧ A 368 i < A 358 3) ∧ (∀ i, i < 96 → (A 374 i = 1 → A 373 i = 1) ∧ (A 375 i ≠ 0 → A 374 i = 1)) ∧
  (A 389 0 + A 389 1 + A 389 2 + A 389 3 ≠ 0) ∧ (∀ i, i < 3 → A 407 i = 4294967295 ∨ A 407 i ≤ 96) ∧ (∀ k, k < 288 → st5 (A 409 k)) ∧ (∀ k, k < A 358 61 → A 401 k < A 358 12 ∧ A 402 k < A 358 12) ∧ (∀ p, p < 12 → wfX (decide (p < 6)) (X p) (A 378 p)) ∧ (∀ h, cnt (fun i => decide (A 367 i = h)) (A 358 12) ≤ 4)
/-- the class writes a mark of an operator as a negative number -/
def ecd (m : Nat) : Int32 := if m < 2000 then qN m else -(qN (m - 2000))
def ecp (p : Nat) : Nat := if p < 6 then 115 + 6 * p else 118 + 6 * (p - 6)
def Cs (A X : Nat → Nat → Nat) (W : List Int64) (μ : MM) : Prop := Ca A μ ∧ (∀ p, p < 12 → ∀ k, k < A 378 p → gI μ (ecp p + 1) k = ecd (X p k)) ∧ gI μ 151 1 = qN W.length ∧ (∀ i, i < W.length → gJ μ 152 i = W.getD i 0) ∧
  ((gR μ 168 7 = some 198 ∧ gR μ 168 8 = some 200) ∨ (gR μ 168 7 = some 200 ∧ gR μ 168 8 = some 198))
def Ms (A X : Nat → Nat → Nat) (W : List Int64) (μ : MM) : Prop := Ma A μ ∧ (∀ p, p < 12 → ∀ k, k < A 378 p → gI μ 377 (48 * p + k) = qN (X p k)) ∧ gI μ 358 1 = qN W.length ∧ (∀ i, i < W.length → gJ μ 359 i = W.getD i 0)
def Rel (μ : MM) : Prop := ∃ A X : Nat → Nat → Nat, ∃ W : List Int64, Inv A X ∧ W.length ≤ 10 ∧ Cs A X W μ ∧ Ms A X W μ
/-- the same but for some cells -/
def Sm (S : Nat → Nat → Prop) (μ μ' : MM) : Prop := (∀ k j, ¬ S k j → gI μ' k j = gI μ k j ∧ gJ μ' k j = gJ μ k j) ∧ ∀ k j, gR μ' k j = gR μ k j
theorem Sm.rfl' {S : Nat → Nat → Prop} {μ : MM} : Sm S μ μ := ⟨fun _ _ _ => ⟨rfl, rfl⟩, fun _ _ => rfl⟩
theorem Sm.tr {S : Nat → Nat → Prop} {μ μ' μ'' : MM} (h : Sm S μ μ') (h' : Sm S μ' μ'') : Sm S μ μ'' :=
  ⟨fun k j q => ⟨(h'.1 k j q).1.trans (h.1 k j q).1, (h'.1 k j q).2.trans (h.1 k j q).2⟩, fun k j => (h'.2 k j).trans (h.2 k j)⟩
theorem Sm.mo {S T : Nat → Nat → Prop} {μ μ' : MM} (h : Sm S μ μ') (hs : ∀ k j, S k j → T k j) : Sm T μ μ' :=
  ⟨fun k j q => h.1 k j (fun r => q (hs k j r)), h.2⟩
theorem Sm.wI {S : Nat → Nat → Prop} {μ μ' : MM} (h : Sm S μ μ') {k j : Nat} (v : Int32) (hs : S k j) : Sm S μ (sI μ' k j v) :=
  ⟨fun a b q => ⟨by rw [gI_I, if_neg (by rintro ⟨rfl, rfl⟩; exact q hs)]; exact (h.1 a b q).1, (h.1 a b q).2⟩, h.2⟩
theorem Sm.wJ {S : Nat → Nat → Prop} {μ μ' : MM} (h : Sm S μ μ') {k j : Nat} (v : Int64) (hs : S k j) : Sm S μ (sJ μ' k j v) :=
  ⟨fun a b q => ⟨(h.1 a b q).1, by rw [gJ_J, if_neg (by rintro ⟨rfl, rfl⟩; exact q hs)]; exact (h.1 a b q).2⟩, h.2⟩
/-- the model's cells are as they were; the class's cells are as they were -/
def FC (μ μ' : MM) : Prop := ∀ k j, 358 ≤ k → gI μ' k j = gI μ k j ∧ gJ μ' k j = gJ μ k j
def FM (μ μ' : MM) : Prop := ∀ k j, k < 358 ∨ k = 410 → gI μ' k j = gI μ k j ∧ gJ μ' k j = gJ μ k j ∧ gR μ' k j = gR μ k j
/-- the class's cells that nothing is kept in; the model's -/
def cS (k j : Nat) : Prop := k = 12 ∨ (115 ≤ k ∧ k < 151 ∧ ((k - 115) % 3 = 2 ∨ ((k - 115) % 3 = 0 ∧ j = 3))) ∨ (154 ≤ k ∧ k ≤ 167) ∨ (173 ≤ k ∧ k ≤ 201) ∨ (203 ≤ k ∧ k ≤ 236) ∨ (241 ≤ k ∧ k ≤ 248) ∨ (250 ≤ k ∧ k ≤ 356)
def mS (k j : Nat) : Prop := (k = 358 ∧ j ≠ 1 ∧ j ≠ 3 ∧ j ≠ 8 ∧ j ≠ 12 ∧ j ≠ 22 ∧ j ≠ 28 ∧ j ≠ 61) ∨ k = 376 ∨ (k = 377 ∧ 576 ≤ j) ∨ (k = 378 ∧ j = 12) ∨ k = 379 ∨ (381 ≤ k ∧ k ≤ 386) ∨ (390 ≤ k ∧ k ≤ 400) ∨ (404 ≤ k ∧ k ≤ 406)
theorem dom_cc {f i : Nat} (h : dom f i) : cc f i < 358 ∧ ¬ cS (cc f i) (cs f i) ∧ cc f i ≠ 151 := by
  unfold dom at h
  rcases h with ⟨rfl, rfl | rfl | rfl | rfl | rfl | rfl⟩ | h | h | h | h | h | h | h | h | h
  · exact ⟨by decide, by unfold cS; decide, by decide⟩
  · exact ⟨by decide, by unfold cS; decide, by decide⟩
  · exact ⟨by decide, by unfold cS; decide, by decide⟩
  · exact ⟨by decide, by unfold cS; decide, by decide⟩
  · exact ⟨by decide, by unfold cS; decide, by decide⟩
  · exact ⟨by decide, by unfold cS; decide, by decide⟩
  all_goals
    unfold cS cc cs
    try (rcases Nat.lt_or_ge i 6 with q | q)
  all_goals
    simp (disch := omega) only [if_pos, if_neg]
    try omega
theorem ecp_S {p : Nat} (hp : p < 12) (k : Nat) : ecp p + 1 < 151 ∧ ¬ cS (ecp p + 1) k ∧ 115 ≤ ecp p := by
  unfold ecp cS
  split <;> omega
theorem dom_m {f i : Nat} (h : dom f i) : 358 ≤ f ∧ ¬ mS f i ∧ ¬ (f = 358 ∧ i = 1) := by
  unfold dom at h
  unfold mS
  omega
theorem Ca.fm {A : Nat → Nat → Nat} {μ μ' : MM} (h : Ca A μ) (f : FM μ μ') : Ca A μ' := fun g i d => (f _ _ (Or.inl (dom_cc d).1)).1.trans (h g i d)
theorem Ma.fc {A : Nat → Nat → Nat} {μ μ' : MM} (h : Ma A μ) (f : FC μ μ') : Ma A μ' := fun g i d => (f _ _ (dom_m d).1).1.trans (h g i d)
theorem Cs.fm {A X : Nat → Nat → Nat} {W : List Int64} {μ μ' : MM} (h : Cs A X W μ) (f : FM μ μ') : Cs A X W μ' := by
  obtain ⟨h1, h2, h3, h4, h5⟩ := h
  refine ⟨h1.fm f, fun p hp k hk => ?_, ?_, fun i hi => ?_, ?_⟩
  · rw [(f (ecp p + 1) k (by have := ecp_S hp k; omega)).1]; exact h2 p hp k hk
  · rw [(f 151 1 (by omega)).1]; exact h3
  · rw [(f 152 i (by omega)).2.1]; exact h4 i hi
  · rw [(f 168 7 (by omega)).2.2, (f 168 8 (by omega)).2.2]; exact h5
theorem Ms.fc {A X : Nat → Nat → Nat} {W : List Int64} {μ μ' : MM} (h : Ms A X W μ) (f : FC μ μ') : Ms A X W μ' := by
  obtain ⟨h1, h2, h3, h4⟩ := h
  refine ⟨h1.fc f, fun p hp k hk => ?_, ?_, fun i hi => ?_⟩
  · rw [(f _ _ (by omega)).1]; exact h2 p hp k hk
  · rw [(f _ _ (by omega)).1]; exact h3
  · rw [(f _ _ (by omega)).2]; exact h4 i hi
theorem Ca.sm {A : Nat → Nat → Nat} {μ μ' : MM} {S : Nat → Nat → Prop} (h : Ca A μ) (f : Sm S μ μ') (hS : ∀ k j, S k j → cS k j ∨ k = 151 ∨ 358 ≤ k) : Ca A μ' := fun g i d => by
  have h1 := dom_cc d
  rw [(f.1 (cc g i) (cs g i) (fun q => by rcases hS _ _ q with r | r | r; exact h1.2.1 r; exact h1.2.2 r; omega)).1]
  exact h g i d
theorem Cs.sm {A X : Nat → Nat → Nat} {W : List Int64} {μ μ' : MM} (h : Cs A X W μ) (f : Sm cS μ μ') : Cs A X W μ' := by
  obtain ⟨h1, h2, h3, h4, h5⟩ := h
  refine ⟨h1.sm f (fun _ _ q => Or.inl q), fun p hp k hk => ?_, ?_, fun i hi => ?_, ?_⟩
  · rw [(f.1 (ecp p + 1) k (ecp_S hp k).2.1).1]; exact h2 p hp k hk
  · rw [(f.1 151 1 (by unfold cS; omega)).1]; exact h3
  · rw [(f.1 152 i (by unfold cS; omega)).2]; exact h4 i hi
  · rw [f.2, f.2]; exact h5
theorem Ma.sm {A : Nat → Nat → Nat} {μ μ' : MM} (h : Ma A μ) (f : Sm mS μ μ') : Ma A μ' := fun g i d => (f.1 _ _ (dom_m d).2.1).1.trans (h g i d)
theorem Ms.sm {A X : Nat → Nat → Nat} {W : List Int64} {μ μ' : MM} (hA : ∀ p, p < 12 → A 378 p ≤ 48) (h : Ms A X W μ) (f : Sm mS μ μ') : Ms A X W μ' := by
  obtain ⟨h1, h2, h3, h4⟩ := h
  refine ⟨h1.sm f, fun p hp k hk => ?_, ?_, fun i hi => ?_⟩
  · have := hA p hp
    rw [(f.1 _ _ (by unfold mS; omega)).1]; exact h2 p hp k hk
  · rw [(f.1 _ _ (by unfold mS; omega)).1]; exact h3
  · rw [(f.1 _ _ (by unfold mS; omega)).2]; exact h4 i hi
theorem FC_cS {μ μ' : MM} (f : Sm cS μ μ') : FC μ μ' := fun k j hk => f.1 k j (by unfold cS; omega)
theorem FM_mS {μ μ' : MM} (f : Sm mS μ μ') : FM μ μ' := fun k j hk => ⟨(f.1 k j (by unfold mS; omega)).1, (f.1 k j (by unfold mS; omega)).2, f.2 k j⟩
theorem FC.tr {μ μ' μ'' : MM} (h : FC μ μ') (h' : FC μ' μ'') : FC μ μ'' := fun k j q => ⟨(h' k j q).1.trans (h k j q).1, (h' k j q).2.trans (h k j q).2⟩
theorem FM.tr {μ μ' μ'' : MM} (h : FM μ μ') (h' : FM μ' μ'') : FM μ μ'' := fun k j q => ⟨(h' k j q).1.trans (h k j q).1, (h' k j q).2.1.trans (h k j q).2.1, (h' k j q).2.2.trans (h k j q).2.2⟩
theorem FC.rfl' {μ : MM} : FC μ μ := fun _ _ _ => ⟨rfl, rfl⟩
theorem FM.rfl' {μ : MM} : FM μ μ := fun _ _ _ => ⟨rfl, rfl, rfl⟩
