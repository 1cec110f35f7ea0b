/-! signs; the invariant kept by what changes the state -/
theorem andb {x : Nat} : x &&& 255 = x % 256 := Nat.and_two_pow_sub_one_eq_mod x 8

theorem by_u24 (v : Int32) : ((v.toUInt32 >>> ((qN 24).toUInt32 &&& Int32.toUInt32 31)).toInt32) &&& 255 = qN (v.toUInt32.toNat / 2 ^ 24 % 256) := by
  apply Int32.toBitVec.inj
  apply BitVec.eq_of_toNat_eq
  show ((v.toBitVec >>> 24) &&& 255#32).toNat = (BitVec.ofNat 32 (v.toBitVec.toNat / 2 ^ 24 % 256)).toNat
  rw [BitVec.toNat_and, BitVec.toNat_ushiftRight, BitVec.toNat_ofNat, Nat.shiftRight_eq_div_pow]
  show v.toBitVec.toNat / 2 ^ 24 &&& 255 = _
  rw [andb, BitVec.toNat_ofNat]
  exact (Nat.mod_eq_of_lt (Nat.lt_trans (Nat.mod_lt _ (by decide)) (by decide))).symm
theorem by_s24 (v : Int32) : (v >>> ((qN 24) &&& 31)) &&& 255 = qN (v.toUInt32.toNat / 2 ^ 24 % 256) := by
  rw [← by_u24]
  apply Int32.toBitVec.inj
  show (v.toBitVec.sshiftRight 24) &&& 255#32 = (v.toBitVec >>> 24) &&& 255#32
  apply BitVec.eq_of_getLsbD_eq
  intro i hi
  rw [BitVec.getLsbD_and, BitVec.getLsbD_and, BitVec.getLsbD_sshiftRight, BitVec.getLsbD_ushiftRight]
  by_cases h8 : i < 8
  · rw [if_pos (by omega)]
    simp [show ¬ (32 ≤ i) by omega]
  · have h0 : (255#32).getLsbD i = false := by
      rw [show (255#32) = BitVec.ofNat 32 (2 ^ 8 - 1) from rfl, BitVec.getLsbD_ofNat, Nat.testBit_two_pow_sub_one]
      simp [h8]
    rw [h0, Bool.and_false, Bool.and_false]

theorem by_u16 (v : Int32) : ((v.toUInt32 >>> ((qN 16).toUInt32 &&& Int32.toUInt32 31)).toInt32) &&& 255 = qN (v.toUInt32.toNat / 2 ^ 16 % 256) := by
  apply Int32.toBitVec.inj
  apply BitVec.eq_of_toNat_eq
  show ((v.toBitVec >>> 16) &&& 255#32).toNat = (BitVec.ofNat 32 (v.toBitVec.toNat / 2 ^ 16 % 256)).toNat
  rw [BitVec.toNat_and, BitVec.toNat_ushiftRight, BitVec.toNat_ofNat, Nat.shiftRight_eq_div_pow]
  show v.toBitVec.toNat / 2 ^ 16 &&& 255 = _
  rw [andb, BitVec.toNat_ofNat]
  exact (Nat.mod_eq_of_lt (Nat.lt_trans (Nat.mod_lt _ (by decide)) (by decide))).symm
theorem by_s16 (v : Int32) : (v >>> ((qN 16) &&& 31)) &&& 255 = qN (v.toUInt32.toNat / 2 ^ 16 % 256) := by
  rw [← by_u16]
  apply Int32.toBitVec.inj
  show (v.toBitVec.sshiftRight 16) &&& 255#32 = (v.toBitVec >>> 16) &&& 255#32
  apply BitVec.eq_of_getLsbD_eq
  intro i hi
  rw [BitVec.getLsbD_and, BitVec.getLsbD_and, BitVec.getLsbD_sshiftRight, BitVec.getLsbD_ushiftRight]
  by_cases h8 : i < 8
  · rw [if_pos (by omega)]
    simp [show ¬ (32 ≤ i) by omega]
  · have h0 : (255#32).getLsbD i = false := by
      rw [show (255#32) = BitVec.ofNat 32 (2 ^ 8 - 1) from rfl, BitVec.getLsbD_ofNat, Nat.testBit_two_pow_sub_one]
      simp [h8]
    rw [h0, Bool.and_false, Bool.and_false]

theorem by_u8 (v : Int32) : ((v.toUInt32 >>> ((qN 8).toUInt32 &&& Int32.toUInt32 31)).toInt32) &&& 255 = qN (v.toUInt32.toNat / 2 ^ 8 % 256) := by
  apply Int32.toBitVec.inj
  apply BitVec.eq_of_toNat_eq
  show ((v.toBitVec >>> 8) &&& 255#32).toNat = (BitVec.ofNat 32 (v.toBitVec.toNat / 2 ^ 8 % 256)).toNat
  rw [BitVec.toNat_and, BitVec.toNat_ushiftRight, BitVec.toNat_ofNat, Nat.shiftRight_eq_div_pow]
  show v.toBitVec.toNat / 2 ^ 8 &&& 255 = _
  rw [andb, BitVec.toNat_ofNat]
  exact (Nat.mod_eq_of_lt (Nat.lt_trans (Nat.mod_lt _ (by decide)) (by decide))).symm
theorem by_s8 (v : Int32) : (v >>> ((qN 8) &&& 31)) &&& 255 = qN (v.toUInt32.toNat / 2 ^ 8 % 256) := by
  rw [← by_u8]
  apply Int32.toBitVec.inj
  show (v.toBitVec.sshiftRight 8) &&& 255#32 = (v.toBitVec >>> 8) &&& 255#32
  apply BitVec.eq_of_getLsbD_eq
  intro i hi
  rw [BitVec.getLsbD_and, BitVec.getLsbD_and, BitVec.getLsbD_sshiftRight, BitVec.getLsbD_ushiftRight]
  by_cases h8 : i < 8
  · rw [if_pos (by omega)]
    simp [show ¬ (32 ≤ i) by omega]
  · have h0 : (255#32).getLsbD i = false := by
      rw [show (255#32) = BitVec.ofNat 32 (2 ^ 8 - 1) from rfl, BitVec.getLsbD_ofNat, Nat.testBit_two_pow_sub_one]
      simp [h8]
    rw [h0, Bool.and_false, Bool.and_false]

theorem by_u0 (v : Int32) : ((v.toUInt32 >>> ((qN 0).toUInt32 &&& Int32.toUInt32 31)).toInt32) &&& 255 = qN (v.toUInt32.toNat / 2 ^ 0 % 256) := by
  apply Int32.toBitVec.inj
  apply BitVec.eq_of_toNat_eq
  show ((v.toBitVec >>> 0) &&& 255#32).toNat = (BitVec.ofNat 32 (v.toBitVec.toNat / 2 ^ 0 % 256)).toNat
  rw [BitVec.toNat_and, BitVec.toNat_ushiftRight, BitVec.toNat_ofNat, Nat.shiftRight_eq_div_pow]
  show v.toBitVec.toNat / 2 ^ 0 &&& 255 = _
  rw [andb, BitVec.toNat_ofNat]
  exact (Nat.mod_eq_of_lt (Nat.lt_trans (Nat.mod_lt _ (by decide)) (by decide))).symm
theorem by_s0 (v : Int32) : (v >>> ((qN 0) &&& 31)) &&& 255 = qN (v.toUInt32.toNat / 2 ^ 0 % 256) := by
  rw [← by_u0]
  apply Int32.toBitVec.inj
  show (v.toBitVec.sshiftRight 0) &&& 255#32 = (v.toBitVec >>> 0) &&& 255#32
  apply BitVec.eq_of_getLsbD_eq
  intro i hi
  rw [BitVec.getLsbD_and, BitVec.getLsbD_and, BitVec.getLsbD_sshiftRight, BitVec.getLsbD_ushiftRight]
  by_cases h8 : i < 8
  · rw [if_pos (by omega)]
    simp [show ¬ (32 ≤ i) by omega]
  · have h0 : (255#32).getLsbD i = false := by
      rw [show (255#32) = BitVec.ofNat 32 (2 ^ 8 - 1) from rfl, BitVec.getLsbD_ofNat, Nat.testBit_two_pow_sub_one]
      simp [h8]
    rw [h0, Bool.and_false, Bool.and_false]

def sgA (A : Nat → Nat → Nat) (v1 : Int32) : Nat → Nat → Nat := (up2 (up2 (up2 (up2 (up2 A 380 (A 358 28) (v1.toUInt32.toNat / 2 ^ 24 % 256)) 380 (A 358 28 + 1) (v1.toUInt32.toNat / 2 ^ 16 % 256)) 380 (A 358 28 + 2) (v1.toUInt32.toNat / 2 ^ 8 % 256)) 380 (A 358 28 + 3) (v1.toUInt32.toNat / 2 ^ 0 % 256)) 358 28 (A 358 28 + 4))
/-- how many signs the class has written, with its count -/
def sgC (A : Nat → Nat → Nat) (v1 : Int32) : Nat → Nat → Nat → Nat
  | 0 => A
  | k + 1 => up2 (up2 (sgC A v1 k) 380 (A 358 28 + k) (v1.toUInt32.toNat / 2 ^ (24 - 8 * k) % 256)) 358 28 (A 358 28 + k + 1)
theorem up2_same {α : Type} {A : Nat → Nat → α} {f i : Nat} {v w : α} : up2 (up2 A f i v) f i w = up2 A f i w := by
  funext a b
  unfold up2
  split <;> rfl
theorem sgC_4 (A : Nat → Nat → Nat) (v1 : Int32) : sgC A v1 4 = sgA A v1 := by
  unfold sgA
  show up2 (up2 (up2 (up2 (up2 (up2 (up2 (up2 A 380 (A 358 28 + 0) _) 358 28 (A 358 28 + 0 + 1)) 380 (A 358 28 + 1) _) 358 28 (A 358 28 + 1 + 1)) 380 (A 358 28 + 2) _) 358 28 (A 358 28 + 2 + 1)) 380 (A 358 28 + 3) _) 358 28 (A 358 28 + 3 + 1) = _
  rw [up2_comm (f := 358) (g := 380) (i := 28) (by omega), up2_comm (f := 358) (g := 380) (i := 28) (by omega), up2_comm (f := 358) (g := 380) (i := 28) (by omega)]
  simp only [up2_same]
  rw [up2_comm (f := 358) (g := 380) (i := 28) (by omega), up2_comm (f := 358) (g := 380) (i := 28) (by omega), up2_comm (f := 358) (g := 380) (i := 28) (by omega)]
  simp only [up2_same]
  rfl
theorem c_sign {A X : Nat → Nat → Nat} {W : List Int64} {μ : MM} {v1 : Int32} {Q : Int32 → MM → Prop} (hV : Inv A X) (h : Cs A X W μ)
    (hy : A 358 28 ≤ 56 → ∀ μ', Cs (sgA A v1) X W μ' → FC μ μ' → Q (qN (A 358 28 + 4)) μ') (hn : ¬ A 358 28 ≤ 56 → Q (-1) μ) : G11_sign v1 μ Q := by
  have b28 : A 358 28 < 61 := hV.b 358 28 (by unfold dom; decide)
  have hA := h.1
  simp (disch := omega) only [bo_q0, bo_q1, qN_le, qN_lt, qN_eq, qN_vp, qN_nat, qN_neg1, qN_neg, qN_nn, qN_lit, qN_add, qN_sub, qN_mul, qN_div, Bd_eq, reduceIte, Nat.add_sub_cancel, dm_l, Nat.zero_le, Nat.not_lt_zero, Nat.reduceEqDiff, Nat.reduceLT, Nat.reduceLeDiff, Nat.reduceAdd, Nat.reduceSub, Nat.reduceMul, Nat.reduceDiv, Nat.reduceMod, reduceCtorEq, true_implies, false_implies, not_true_eq_false, not_false_eq_true, true_and, and_true, implies_true, and_false, false_and, forall_const, true_or, or_true, false_or, or_false, G11_sign, Ca_s28 hA]
  refine ⟨fun q => ?_, fun q => hn (by omega)⟩
  have q1 : A 358 28 ≤ 56 := by omega
  rw [← sgC_4] at hy
  have sh : ∀ k, k < 4 → (((v1.toUInt32 >>> ((qN (24 - 8 * k)).toUInt32 &&& Int32.toUInt32 (qN 31))).toInt32) &&& qN 255) = qN (v1.toUInt32.toNat / 2 ^ (24 - 8 * k) % 256) := fun k hk => by
    rcases (show k = 0 ∨ k = 1 ∨ k = 2 ∨ k = 3 by omega) with rfl | rfl | rfl | rfl
    · exact by_u24 v1
    · exact by_u16 v1
    · exact by_u8 v1
    · exact by_u0 v1
  have i0 : ∀ k, sgC A v1 k 358 28 = A 358 28 + k := fun k => by
    cases k with
    | zero => rfl
    | succ k => show up2 _ 358 28 (A 358 28 + k + 1) 358 28 = _; rw [up2_i]; rfl
  have io : ∀ k p, sgC A v1 k 378 p = A 378 p := fun k => by
    induction k with
    | zero => intro p; rfl
    | succ k ih => intro p; show up2 (up2 (sgC A v1 k) 380 _ _) 358 28 _ 378 p = _; rw [up2_o (by omega), up2_o (by omega), ih]
  refine Lp.up 4 (fun k x => x.1 = (if k < 4 then qN (24 - 8 * k) else -8) ∧ Ca (sgC A v1 k) x.2 ∧ Sm cT μ x.2) ?_ ⟨rfl, (show Ca (sgC A v1 0) μ from hA), Sm.rfl'⟩
  rintro k K hk hK ⟨y, ν⟩ ⟨rfl, hC, hs⟩
  simp only at hC hs
  have e8 : gI ν 0 8 = qN (A 358 28 + k) := by rw [Ca_s28 hC, i0]
  rcases Nat.lt_or_ge k 4 with hl1 | hl1
  · have hk2 := hK hl1
    rw [if_pos hl1]
    have x60 : A 358 28 + k < 60 := by omega
    simp (disch := omega) only [bo_q0, bo_q1, qN_le, qN_lt, qN_eq, qN_vp, qN_nat, qN_neg1, qN_neg, qN_nn, qN_lit, qN_add, qN_sub, qN_mul, qN_div, Bd_eq, reduceIte, Nat.add_sub_cancel, dm_l, Nat.zero_le, Nat.not_lt_zero, Nat.reduceEqDiff, Nat.reduceLT, Nat.reduceLeDiff, Nat.reduceAdd, Nat.reduceSub, Nat.reduceMul, Nat.reduceDiv, Nat.reduceMod, reduceCtorEq, true_implies, false_implies, not_true_eq_false, not_false_eq_true, true_and, and_true, implies_true, and_false, false_and, forall_const, true_or, or_true, false_or, or_false, G11_sign_L16, e8, x60, sh k hl1, gI_I, gI_J, gI_R, gJ_I, gJ_J, gJ_R, gR_I, gR_J, gR_R]
    refine hk2 _ ⟨?_, Cw_s28 (Cw_380 hC x60 _) _, (hs.wI _ (by unfold cT; omega)).wI _ (by unfold cT; omega)⟩
    show qN (24 - 8 * k) + -qN 8 = if k + 1 < 4 then qN (24 - 8 * (k + 1)) else -8
    clear hk2 hK hC hs sh e8 i0 io
    rcases (show k = 0 ∨ k = 1 ∨ k = 2 ∨ k = 3 by omega) with rfl | rfl | rfl | rfl <;> decide
  · have e : k = 4 := by omega
    subst e
    rw [if_neg (by decide)]
    have n8 : ((-8 : Int32) < 0) = True := by decide
    refine ⟨fun _ => ?_, fun q5 => absurd (show (-8 : Int32) < 0 by decide) q5⟩
    rw [e8]
    exact hy q1 _ (h.up hs hC (fun p hp => io 4 p)) (FC_cT hs)
def sgM (A : Nat → Nat → Nat) (v1 : Int32) : Nat → Nat → Nat → Nat
  | 0 => A
  | k + 1 => up2 (sgM A v1 k) 380 (A 358 28 + k) (v1.toUInt32.toNat / 2 ^ (24 - 8 * k) % 256)
theorem m_sign {A X : Nat → Nat → Nat} {W : List Int64} {μ : MM} {v1 : Int32} {Q : Int32 → MM → Prop} (hV : Inv A X) (h : Ms A X W μ)
    (hy : A 358 28 ≤ 56 → ∀ μ', Ms (sgA A v1) X W μ' → FM μ μ' → Q (qN (A 358 28 + 4)) μ') (hn : ¬ A 358 28 ≤ 56 → ∀ μ', Ms A X W μ' → FM μ μ' → Q (-1) μ') : G12_sign v1 μ Q := by
  have b28 : A 358 28 < 61 := hV.b 358 28 (by unfold dom; decide)
  unfold G12_sign
  rw [Bd_eq]
  have h0 := m_thr h 0
  have f0 := fm_thr μ 0
  revert h0 f0
  generalize sI μ 358 0 0 = μ0
  intro h0 f0
  have hA := h0.1
  simp (disch := omega) only [bo_q0, bo_q1, qN_le, qN_lt, qN_eq, qN_vp, qN_nat, qN_neg1, qN_neg, qN_nn, qN_lit, qN_add, qN_sub, qN_mul, qN_div, Bd_eq, reduceIte, Nat.add_sub_cancel, dm_l, Nat.zero_le, Nat.not_lt_zero, Nat.reduceEqDiff, Nat.reduceLT, Nat.reduceLeDiff, Nat.reduceAdd, Nat.reduceSub, Nat.reduceMul, Nat.reduceDiv, Nat.reduceMod, reduceCtorEq, true_implies, false_implies, not_true_eq_false, not_false_eq_true, true_and, and_true, implies_true, and_false, false_and, forall_const, true_or, or_true, false_or, or_false, Ma_s28 hA]
  refine ⟨fun q => ?_, fun q => hn (by omega) _ h0 f0⟩
  have q1 : A 358 28 ≤ 56 := by omega
  have sh : ∀ k, k < 4 → ((v1 >>> ((qN 24 - (qN (8 * k))) &&& qN 31)) &&& qN 255) = qN (v1.toUInt32.toNat / 2 ^ (24 - 8 * k) % 256) := fun k hk => by
    rcases (show k = 0 ∨ k = 1 ∨ k = 2 ∨ k = 3 by omega) with rfl | rfl | rfl | rfl
    · exact by_s24 v1
    · exact by_s16 v1
    · exact by_s8 v1
    · exact by_s0 v1
  have i0 : ∀ k f i, f ≠ 380 → sgM A v1 k f i = A f i := fun k f i hf => by
    induction k with
    | zero => rfl
    | succ k ih => show up2 (sgM A v1 k) 380 _ _ f i = _; rw [up2_o (by omega), ih]
  refine Lp.up 4 (fun k x => x.1 = qN k ∧ Ma (sgM A v1 k) x.2 ∧ Sm mT μ0 x.2) ?_ ⟨rfl, (show Ma (sgM A v1 0) μ0 from hA), Sm.rfl'⟩
  rintro k K hk hK ⟨y, ν⟩ ⟨rfl, hC, hs⟩
  simp only at hC hs
  have e8 : gI ν 358 28 = qN (A 358 28) := by rw [Ma_s28 hC, i0 _ _ _ (by decide)]
  rcases Nat.lt_or_ge k 4 with hl1 | hl1
  · have hk2 := hK hl1
    have x60 : A 358 28 + k < 60 := by omega
    have s2 := sh k hl1
    rw [qN_sub (by omega)] at s2
    simp (disch := omega) only [bo_q0, bo_q1, qN_le, qN_lt, qN_eq, qN_vp, qN_nat, qN_neg1, qN_neg, qN_nn, qN_lit, qN_add, qN_sub, qN_mul, qN_div, Bd_eq, reduceIte, Nat.add_sub_cancel, dm_l, Nat.zero_le, Nat.not_lt_zero, Nat.reduceEqDiff, Nat.reduceLT, Nat.reduceLeDiff, Nat.reduceAdd, Nat.reduceSub, Nat.reduceMul, Nat.reduceDiv, Nat.reduceMod, reduceCtorEq, true_implies, false_implies, not_true_eq_false, not_false_eq_true, true_and, and_true, implies_true, and_false, false_and, forall_const, true_or, or_true, false_or, or_false, G12_sign_L18, e8, x60, s2, Nat.not_le.mpr hl1]
    exact hk2 _ ⟨rfl, Ma_w hC 380 _ _, hs.wI _ (by unfold mT; omega)⟩
  · have e : k = 4 := by omega
    subst e
    simp (disch := omega) only [bo_q0, bo_q1, qN_le, qN_lt, qN_eq, qN_vp, qN_nat, qN_neg1, qN_neg, qN_nn, qN_lit, qN_add, qN_sub, qN_mul, qN_div, Bd_eq, reduceIte, Nat.add_sub_cancel, dm_l, Nat.zero_le, Nat.not_lt_zero, Nat.reduceEqDiff, Nat.reduceLT, Nat.reduceLeDiff, Nat.reduceAdd, Nat.reduceSub, Nat.reduceMul, Nat.reduceDiv, Nat.reduceMod, reduceCtorEq, true_implies, false_implies, not_true_eq_false, not_false_eq_true, true_and, and_true, implies_true, and_false, false_and, forall_const, true_or, or_true, false_or, or_false, G12_sign_L18, e8, gI_I, gI_J, gI_R, gJ_I, gJ_J, gJ_R, gR_I, gR_J, gR_R]
    have c1 : Ma (sgA A v1) (sI ν 358 28 (qN (A 358 28 + 4))) := Ma_w hC 358 28 _
    have s1 := hs.wI (qN (A 358 28 + 4)) (k := 358) (j := 28) (by unfold mT; omega)
    exact hy q1 _ (h0.up s1 c1 (fun p hp => by show up2 (sgM A v1 4) 358 28 _ 378 p = _; rw [up2_o (by omega), i0 _ _ _ (by decide)])) (f0.tr (FM_mT s1))

theorem Inv.r {A X : Nat → Nat → Nat} (h : Inv A X) {r : Nat} (hr : r < 4294967296) : Inv (up2 A 358 22 r) X := by
  obtain ⟨h1, h2, h3, h4, h5, h6, h7, h8, h9⟩ := h
  exact ⟨bnd_w h1 (by unfold bnd; exact hr), by simpa [up2] using h2, by simpa [up2] using h3, by simpa [up2] using h4, by simpa [up2] using h5, by simpa [up2] using h6, by simpa [up2] using h7, by simpa [up2] using h8, by simpa [up2] using h9⟩
theorem Inv.ring {A X : Nat → Nat → Nat} (h : Inv A X) {j ρ : Nat} (hj : j < 96) (h0 : A 373 j = 0) (hρ : ρ < 2) : Inv (up2 (up2 A 373 j 1) 374 j ρ) X := by
  obtain ⟨h1, h2, h3, h4, h5, h6, h7, h8, h9⟩ := h
  refine ⟨bnd_w (bnd_w h1 (by show 1 < 2; decide)) (by show ρ < 2; exact hρ), by simpa [up2] using h2, fun i hi => ?_, by simpa [up2] using h4, by simpa [up2] using h5, by simpa [up2] using h6, by simpa [up2] using h7, by simpa [up2] using h8, by simpa [up2] using h9⟩
  obtain ⟨a, b⟩ := h3 i hi
  by_cases e : i = j
  · subst e
    rw [up2_i, up2_o (g := 373) (by omega), up2_i, up2_o (g := 375) (by omega), up2_o (g := 375) (by omega)]
    exact ⟨fun _ => rfl, fun q => absurd (b q) (by intro r; have := a r; omega)⟩
  · rw [up2_o (by omega), up2_o (by omega), up2_o (by omega), up2_o (by omega), up2_o (by omega), up2_o (by omega)]
    exact ⟨a, b⟩
