/-! a check of the JDK's own, whose last argument is nobody's here -/
def GJ0_checkIndex_df160 (v0 : Int32) (v1 : Int32) (μ : MM) (Q : MM → Prop) : Prop := ¬ v0 < 0 ∧ v0 < v1 ∧ Q μ
theorem pre_checkIndex {l : Launch} {φ : Nat → Nat} {tc : Nat → ClassId} {D : va_G} {s0 : State} (hG : GX φ tc D s0) {dR : Nat} {v0 v1 : Int32} {w : Value} (hw : w.category = 1) {μ : MM} {Q : Int32 → MM → Prop} (h0 : ¬ v0 < 0) (h1 : v0 < v1) (h : Q v0 μ) : MX l φ tc D s0 dR yJ3_checkIndex_8e157 cJ3_checkIndex_8e157 3 (some .int) [.int v0, .int v1, w] μ (QI Q) := by
  refine MX.of (own := RJ3) hG plJ3 rfl ?_ (fun p e s m args below meth c C hr => ?_)
  · show (lg_sl [.int v0, .int v1, rv φ w]).length ≤ 3
    cases w <;> first | exact Nat.le_of_ble_eq_true rfl | exact absurd hw (by simp [Value.category])
  refine x_sub [(0, .int v0), (1, .int v1)] [0, 1] rfl ?_
  refine x_iload_n C rfl 0 rfl dJ3_checkIndex_8e157_0 ?_
  refine x_if_lt (tgt := 9) C dJ3_checkIndex_8e157_1 (by decide) (fun c => absurd c h0) (fun c => ?_)
  refine x_iload_n C rfl 0 rfl dJ3_checkIndex_8e157_4 ?_
  refine x_iload_n C rfl 1 rfl dJ3_checkIndex_8e157_5 ?_
  refine x_icmp_lt (tgt := 16) C dJ3_checkIndex_8e157_6 (by decide) (fun c => ?_) (fun c => absurd h1 c)
  refine x_iload_n C rfl 0 rfl dJ3_checkIndex_8e157_16 ?_
  exact x_iret C hr dJ3_checkIndex_8e157_17 ⟨_, rfl, h⟩
theorem GJ0_checkIndex_df160_met {l : Launch} {φ : Nat → Nat} {tc : Nat → ClassId} {D : va_G} {s0 : State} (hG : GX φ tc D s0) {dR : Nat} (hd : GJ0_checkIndex_df160_dep ≤ dR) {v0 : Int32} {v1 : Int32} {μ : MM} {Q : MM → Prop} (h : GJ0_checkIndex_df160 v0 v1 μ Q) : MX l φ tc D s0 dR yJ0_checkIndex_df160 cJ0_checkIndex_df160 2 none [.int v0, .int v1] μ (QV Q) := by
  refine MX.of (own := RJ0) hG plJ0 rfl (Nat.le_of_ble_eq_true rfl) (fun p e s m args below meth c C hr => ?_)
  refine x_sub [(0, .int v0), (1, .int v1)] [0, 1] rfl ?_
  refine x_iload_n C rfl 0 rfl dJ0_checkIndex_df160_0 ?_
  refine x_iload_n C rfl 1 rfl dJ0_checkIndex_df160_1 ?_
  refine x_getsQ C tw_3_103 dJ0_checkIndex_df160_2 (fun w hw => ?_)
  refine x_callS (dC := 1) (as := [.int v0, .int v1, w]) (st := []) C rX kX (Nat.le_trans (Nat.le_of_ble_eq_true rfl) hd) (Nat.le_of_ble_eq_true rfl) tw_7_50 tw_7_49 tc_7_51 tw_1_22 hyJ3 hnJ3_checkIndex_8e157 rfl (Nat.le_of_ble_eq_true rfl) dJ0_checkIndex_df160_5 (pre_checkIndex (Q := fun _ z => z = μ) C.2.2.2.2.2.2.2.1 hw h.1 h.2.1 rfl) (fun r0 μ1 hq => ?_)
  obtain ⟨r5, rfl, rfl⟩ := hq
  refine x_st [.int r5] rfl ?_
  refine x_pop C rfl dJ0_checkIndex_df160_8 ?_
  exact x_vret C hr dJ0_checkIndex_df160_9 ⟨rfl, h.2.2⟩
