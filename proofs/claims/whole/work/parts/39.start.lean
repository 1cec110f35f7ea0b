section ST
variable {p : Program} {l : Launch} {e : Env} {s : State} {m : MethodId} {args : Array Value} {below : List Frame} {meth : Method} {c : Code}
variable {φ : Nat → Nat} {tc : Nat → ClassId} {D : va_G} {Q : State → Prop} {LA : Nat → Prop}
set_option maxHeartbeats 40000000 in
set_option maxRecDepth 100000 in
theorem law_start (hfl : l.stackTraces = false) (hG : GX φ tc D s) (hφ : PHI φ s) (hAO : AO s) (C : CX p s m args meth c φ tc D LA s code RL 8) {b L : Nat} {xs : Nat → Int32} (hX : va_X b L xs s s.heap) (hbl : b < s.heap.size) (hbA : φ 800 = b ∧ ¬ LA b) (hL : L ≤ 3072) {Rel : MM → Prop} (ops : OPS Rel) (h0 : Rel m0) (hend : ∀ (kc ks : Nat) (i : Int32) (μ : MM), kc ≤ 601024 → ks ≤ 7293034 → Rel μ → WX p l e room_1 s m args below meth c φ tc D LA 8 kc ks Q 1898 [(0, .ref 800), (1, .ref 0), (2, .ref 358), (3, .ref 410), (4, .int i)] [] μ) : WN p l e room_1 s m args below meth c φ tc D LA s 0 8 0 0 Q 0 [(0, .ref 800)] [] zM := by
  refine n_new (ci := 11) C hφ (Nat.le_of_ble_eq_true rfl) ob0.2 (Nat.le_of_ble_eq_true rfl) tw_1_25 tw_1_26 tw_1_1 ⟨(Nat.le_of_ble_eq_true rfl), (Nat.le_of_ble_eq_true rfl)⟩ dL_law_0 ?_
  refine n_nrm 1 1 9 [.ref 0] rfl rfl rfl rfl ?_
  refine n_dup C rfl dL_law_3 ?_
  refine n_call (dC := 4) (as := []) (st := [.ref 0]) (n' := 358) (cs := 357) (sl := 4177) C rL ⟨(Nat.le_of_ble_eq_true rfl), (Nat.le_of_ble_eq_true rfl)⟩ (Nat.le_of_ble_eq_true rfl) (Nat.le_of_ble_eq_true rfl) tw_1_28 tw_1_27 tc_1_29 tw_1_1 hyX11 rfl hnX11_init rfl (Nat.le_of_ble_eq_true rfl) dL_law_4 (MN11 hG hφ hAO (Nat.le_refl _)) (fun μ9 e9 => ?_)
  subst e9
  refine n_nrm 358 358 4186 [.ref 0] rfl rfl rfl rfl ?_
  refine n_astore_n C [(1, .ref 0), (0, .ref 800)] rfl (Nat.le_of_ble_eq_true rfl) rfl dL_law_7 ?_
  refine n_new (ci := 12) C hφ (Nat.le_of_ble_eq_true rfl) ob358.2 (Nat.le_of_ble_eq_true rfl) tw_8_201 tw_6_199 tw_1_13 ⟨(Nat.le_of_ble_eq_true rfl), (Nat.le_of_ble_eq_true rfl)⟩ dL_law_8 ?_
  refine n_nrm 359 359 4257 [.ref 358] rfl rfl rfl rfl ?_
  refine n_dup C rfl dL_law_11 ?_
  refine n_call (dC := 2) (as := []) (st := [.ref 358]) (n' := 410) (cs := 51) (sl := 4382) C rL ⟨(Nat.le_of_ble_eq_true rfl), (Nat.le_of_ble_eq_true rfl)⟩ (Nat.le_of_ble_eq_true rfl) (Nat.le_of_ble_eq_true rfl) tw_8_203 tw_8_202 tc_8_204 tw_1_13 hyX12 rfl hnX12_init rfl (Nat.le_of_ble_eq_true rfl) dL_law_12 (MN12 hG hφ hAO (Nat.le_refl _)) (fun μ9 e9 => ?_)
  subst e9
  refine n_nrm 410 410 8639 [.ref 358] rfl rfl rfl rfl ?_
  refine n_astore_n C [(2, .ref 358), (1, .ref 0), (0, .ref 800)] rfl (Nat.le_of_ble_eq_true rfl) rfl dL_law_15 ?_
  refine n_iconst (v := 1) C (by decide) dL_law_16 ?_
  refine n_newJ (N := 1) C hφ (Nat.le_of_ble_eq_true rfl) ob410.2 (by decide +kernel) (by decide) (by decide) (by decide) wa_J ⟨(Nat.le_of_ble_eq_true rfl), (Nat.le_of_ble_eq_true rfl)⟩ dL_law_17 ?_
  refine n_nrm 411 411 8640 [.ref 410] rfl rfl rfl rfl ?_
  refine n_astore_n C [(3, .ref 410), (2, .ref 358), (1, .ref 0), (0, .ref 800)] rfl (Nat.le_of_ble_eq_true rfl) rfl dL_law_19 ?_
  refine n_iconst (v := 0) C (by decide) dL_law_20 ?_
  refine n_istore C [(4, .int 0), (3, .ref 410), (2, .ref 358), (1, .ref 0), (0, .ref 800)] (Nat.le_of_ble_eq_true rfl) rfl dL_law_21 ?_
  refine n_sub [(0, .ref 800), (1, .ref 0), (2, .ref 358), (3, .ref 410), (4, .int (Int32.ofNat (6 * 0)))] [4, 3, 2, 1, 0] rfl ?_
  intro H locs ar hP hZ hF hS hl
  exact law_loop hfl C hX hbl hbA hL ops hend 512 0 411 8640 m0 (by omega) (by omega) (by omega) (by omega) h0 H locs ar hP m0_SR hS hl
end ST
