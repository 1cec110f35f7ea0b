/-! the shared state: numbered by the model's cells -/
def dom (f i : Nat) : Prop := (f = 358 ∧ (i = 3 ∨ i = 8 ∨ i = 12 ∨ i = 22 ∨ i = 28 ∨ i = 61)) ∨ (360 ≤ f ∧ f ≤ 363 ∧ i < 12) ∨ (364 ≤ f ∧ f ≤ 366 ∧ i < 24) ∨ (367 ≤ f ∧ f ≤ 375 ∧ i < 96) ∨ (f = 380 ∧ i < 60) ∨ (f = 378 ∧ i < 12) ∨ (387 ≤ f ∧ f ≤ 389 ∧ i < 4) ∨ (401 ≤ f ∧ f ≤ 403 ∧ i < 40) ∨ (407 ≤ f ∧ f ≤ 408 ∧ i < 3) ∨ (f = 409 ∧ i < 288)
def cc (f i : Nat) : Nat := if f = 358 then (if i = 28 then 0 else if i = 61 then 237 else 1) else if f ≤ 366 then f - 358 else if f ≤ 375 then 19 + i else if f = 378 then (if i < 6 then 115 + 6 * i else 118 + 6 * (i - 6)) else if f = 380 then 357 else if f ≤ 389 then f - 218 else if f ≤ 403 then f - 163 else if f ≤ 408 then f - 394 else 16 + i / 96
def cs (f i : Nat) : Nat := if f = 358 then (if i = 3 then 4 else if i = 8 then 8 else if i = 12 then 10 else if i = 22 then 14 else if i = 28 then 8 else 5) else if f ≤ 366 then i else if f ≤ 375 then f - 367 else if f = 378 then 1 else if f ≤ 408 then i else i % 96
/-- the class's cells hold A, the model's cells hold A -/
def Ca (A : Nat → Nat → Nat) (μ : MM) : Prop := ∀ f i, dom f i → gI μ (cc f i) (cs f i) = qN (A f i)
def Ma (A : Nat → Nat → Nat) (μ : MM) : Prop := ∀ f i, dom f i → gI μ f i = qN (A f i)
/-- back from a class's cell -/
def ivf (k j : Nat) : Nat := if k = 0 then 358 else if k = 1 then 358 else if k ≤ 8 then k + 358 else if k ≤ 14 then k + 394 else if k ≤ 18 then 409 else if k ≤ 114 then 367 + j else if k ≤ 150 then 378 else if k ≤ 171 then k + 218 else if k = 237 then 358 else if k ≤ 240 then k + 163 else 380
def ivi (k j : Nat) : Nat := if k = 0 then 28 else if k = 1 then (if j = 4 then 3 else if j = 8 then 8 else if j = 10 then 12 else 22) else if k ≤ 14 then j else if k ≤ 18 then 96 * (k - 16) + j else if k ≤ 114 then k - 19 else if k ≤ 150 then (if (k - 115) % 6 = 0 then (k - 115) / 6 else (k - 118) / 6 + 6) else if k = 237 then 61 else j
theorem iv_cc {f i : Nat} (h : dom f i) : ivf (cc f i) (cs f i) = f ∧ ivi (cc f i) (cs f i) = i := by
  unfold dom at h
  rcases h with ⟨rfl, rfl | rfl | rfl | rfl | rfl | rfl⟩ | h | h | h | h | h | h | h | h | h
  · exact ⟨rfl, rfl⟩
  · exact ⟨rfl, rfl⟩
  · exact ⟨rfl, rfl⟩
  · exact ⟨rfl, rfl⟩
  · exact ⟨rfl, rfl⟩
  · exact ⟨rfl, rfl⟩
  all_goals
    unfold cc cs ivf ivi
    try (rcases Nat.lt_or_ge i 6 with q | q)
  all_goals
    simp (disch := omega) only [if_pos, if_neg, and_true]
    try omega
theorem cc_inj {f i g j : Nat} (h : dom f i) (h' : dom g j) (e1 : cc f i = cc g j) (e2 : cs f i = cs g j) : f = g ∧ i = j := by
  have h1 := iv_cc h
  have h2 := iv_cc h'
  rw [e1, e2] at h1
  exact ⟨h1.1.symm.trans h2.1, h1.2.symm.trans h2.2⟩
theorem Ca_w {A : Nat → Nat → Nat} {μ : MM} (h : Ca A μ) {f i : Nat} (hd : dom f i) (v : Nat) : Ca (up2 A f i v) (sI μ (cc f i) (cs f i) (qN v)) := by
  intro g j hg
  show (if cc g j = cc f i ∧ cs g j = cs f i then qN v else gI μ (cc g j) (cs g j)) = qN (if g = f ∧ j = i then v else A g j)
  by_cases he : g = f ∧ j = i
  · obtain ⟨rfl, rfl⟩ := he
    rw [if_pos ⟨rfl, rfl⟩, if_pos ⟨rfl, rfl⟩]
  · rw [if_neg he, if_neg (fun q => he (cc_inj hg hd q.1 q.2)), h g j hg]
theorem Ma_w {A : Nat → Nat → Nat} {μ : MM} (h : Ma A μ) (f i : Nat) (v : Nat) : Ma (up2 A f i v) (sI μ f i (qN v)) := by
  intro g j hg
  show (if g = f ∧ j = i then qN v else gI μ g j) = qN (if g = f ∧ j = i then v else A g j)
  by_cases he : g = f ∧ j = i
  · rw [if_pos he, if_pos he]
  · rw [if_neg he, if_neg he, h g j hg]
