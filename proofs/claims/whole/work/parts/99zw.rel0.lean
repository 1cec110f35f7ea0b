/-! the memory after the constructors: both sides hold the same state -/
section RZ
def evI : List (Nat × Nat × Int32) := [(1, 14, 1), (13, 0, (-1)), (13, 1, (-1)), (13, 2, (-1)), (169, 0, 30), (169, 1, 30), (169, 2, 30), (169, 3, 0), (170, 0, 30), (170, 1, 15), (170, 2, 0), (170, 3, 0), (171, 0, 1), (171, 1, 1), (171, 2, 1), (171, 3, 1), (358, 22, 1), (387, 0, 30), (387, 1, 30), (387, 2, 30), (387, 3, 0), (388, 0, 30), (388, 1, 15), (388, 2, 0), (388, 3, 0), (389, 0, 1), (389, 1, 1), (389, 2, 1), (389, 3, 1), (407, 0, (-1)), (407, 1, (-1)), (407, 2, (-1))]
def apI (f : Nat → Nat → Int32) (e : Nat × Nat × Int32) : Nat → Nat → Int32 := fun a b => if a = e.1 ∧ b = e.2.1 then e.2.2 else f a b
set_option maxRecDepth 200000 in
theorem m0_I : m0.1 = evI.foldl apI (fun _ _ => 0) := rfl
def A0 (f i : Nat) : Nat := if f = 358 then (if i = 22 then 1 else 0) else if f = 387 then (if i < 3 then 30 else 0) else if f = 388 then (if i = 0 then 30 else if i = 1 then 15 else 0) else if f = 389 then 1 else if f = 407 then 4294967295 else 0
theorem A0_z {f : Nat} (i : Nat) (h1 : f ≠ 358) (h2 : f ≠ 387) (h3 : f ≠ 388) (h4 : f ≠ 389) (h5 : f ≠ 407) : A0 f i = 0 := by
  unfold A0
  rw [if_neg h1, if_neg h2, if_neg h3, if_neg h4, if_neg h5]
/-- the places of the state, as a list -/
def domL : List (Nat × Nat) := ([3, 8, 12, 22, 28, 61].map (fun i => (358, i))) ++ ([(360, 4, 12), (364, 3, 24), (367, 9, 96), (380, 1, 60), (378, 1, 12), (387, 3, 4), (401, 3, 40), (407, 2, 3), (409, 1, 288)].flatMap (fun e => (List.range e.2.1).flatMap (fun a => (List.range e.2.2).map (fun i => (e.1 + a, i)))))
theorem mem_rng {b n m f i : Nat} (h1 : b ≤ f) (h2 : f < b + n) (h3 : i < m) : (f, i) ∈ (List.range n).flatMap (fun a => (List.range m).map (fun i => (b + a, i))) :=
  List.mem_flatMap.mpr ⟨f - b, List.mem_range.mpr (by omega), List.mem_map.mpr ⟨i, List.mem_range.mpr h3, by rw [show b + (f - b) = f by omega]⟩⟩
theorem dom_L {f i : Nat} (h : dom f i) : (f, i) ∈ domL := by
  unfold dom at h
  unfold domL
  refine List.mem_append.mpr ?_
  rcases h with ⟨rfl, rfl | rfl | rfl | rfl | rfl | rfl⟩ | h | h | h | h | h | h | h | h | h
  iterate 6 exact Or.inl (by decide)
  all_goals refine Or.inr (List.mem_flatMap.mpr ?_)
  · exact ⟨(360, 4, 12), by decide, mem_rng h.1 (by show f < 360 + 4; omega) h.2.2⟩
  · exact ⟨(364, 3, 24), by decide, mem_rng h.1 (by show f < 364 + 3; omega) h.2.2⟩
  · exact ⟨(367, 9, 96), by decide, mem_rng h.1 (by show f < 367 + 9; omega) h.2.2⟩
  · exact ⟨(380, 1, 60), by decide, mem_rng (by show 380 ≤ f; omega) (by show f < 380 + 1; omega) h.2⟩
  · exact ⟨(378, 1, 12), by decide, mem_rng (by show 378 ≤ f; omega) (by show f < 378 + 1; omega) h.2⟩
  · exact ⟨(387, 3, 4), by decide, mem_rng h.1 (by show f < 387 + 3; omega) h.2.2⟩
  · exact ⟨(401, 3, 40), by decide, mem_rng h.1 (by show f < 401 + 3; omega) h.2.2⟩
  · exact ⟨(407, 2, 3), by decide, mem_rng h.1 (by show f < 407 + 2; omega) h.2.2⟩
  · exact ⟨(409, 1, 288), by decide, mem_rng (by show 409 ≤ f; omega) (by show f < 409 + 1; omega) h.2⟩
def okZ (e : Nat × Nat) : Bool := decide (evI.foldl apI (fun _ _ => 0) (cc e.1 e.2) (cs e.1 e.2) = qN (A0 e.1 e.2)) && decide (evI.foldl apI (fun _ _ => 0) e.1 e.2 = qN (A0 e.1 e.2)) && decide (A0 e.1 e.2 < bnd e.1 e.2)
theorem okZ_ok : domL.all okZ = true := by decide +kernel
theorem okZ_at {f i : Nat} (h : dom f i) : gI m0 (cc f i) (cs f i) = qN (A0 f i) ∧ gI m0 f i = qN (A0 f i) ∧ A0 f i < bnd f i := by
  have h1 := List.all_eq_true.mp okZ_ok _ (dom_L h)
  unfold okZ at h1
  simp only [Bool.and_eq_true, decide_eq_true_eq] at h1
  refine ⟨?_, ?_, h1.2⟩
  · show m0.1 _ _ = _
    rw [m0_I]; exact h1.1.1
  · show m0.1 _ _ = _
    rw [m0_I]; exact h1.1.2
theorem Inv0 : Inv A0 (fun _ _ => 0) := by
  have hz : A0 358 12 = 0 := rfl
  have hy : A0 358 61 = 0 := rfl
  refine ⟨fun f i h => (okZ_at h).2.2, fun i h => ?_, fun i _ => ⟨fun q => ?_, fun q => ?_⟩, ?_, fun i hi => Or.inl ?_, fun k _ => Or.inl ?_, fun k h => ?_, fun p hp => ⟨fun k h => ?_, fun h => ?_⟩, fun h => ?_⟩
  · rw [hz] at h; omega
  · rw [A0_z (f := 374) i (by omega) (by omega) (by omega) (by omega) (by omega)] at q; omega
  · exact absurd (A0_z (f := 375) i (by omega) (by omega) (by omega) (by omega) (by omega)) q
  · show 1 + 1 + 1 + 1 ≠ 0; omega
  · rfl
  · exact A0_z k (by omega) (by omega) (by omega) (by omega) (by omega)
  · rw [hy] at h; omega
  · rw [A0_z (f := 378) p (by omega) (by omega) (by omega) (by omega) (by omega)] at h; omega
  · rw [A0_z (f := 378) p (by omega) (by omega) (by omega) (by omega) (by omega)] at h; omega
  · rw [hz]; exact Nat.zero_le _
theorem m0_Rel : Rel m0 := by
  have hI : ∀ k j, gI m0 k j = evI.foldl apI (fun _ _ => 0) k j := fun k j => by show m0.1 k j = _; rw [m0_I]
  have hR : ∀ k j, gR m0 k j = R0 k j := fun k j => by show m0.2.2 k j = _; rw [m0_ev]; exact evE_R0 k j
  refine ⟨A0, fun _ _ => 0, [], Inv0, by decide, ⟨fun f i h => (okZ_at h).1, fun p hp k hk => ?_, ?_, fun i hi => ?_, Or.inl ⟨?_, ?_⟩⟩, ⟨fun f i h => (okZ_at h).2.1, fun p hp k hk => ?_, ?_, fun i hi => ?_⟩⟩
  · rw [A0_z (f := 378) p (by omega) (by omega) (by omega) (by omega) (by omega)] at hk; omega
  · rw [hI]; decide +kernel
  · exact absurd hi (Nat.not_lt_zero _)
  · rw [hR]; decide +kernel
  · rw [hR]; decide +kernel
  · rw [A0_z (f := 378) p (by omega) (by omega) (by omega) (by omega) (by omega)] at hk; omega
  · rw [hI]; decide +kernel
  · exact absurd hi (Nat.not_lt_zero _)
end RZ
