/-! deal: one letter -/
noncomputable def dnm (A : Nat → Nat → Nat) (a p : Nat) : Nat := pkf (fr A a p) (rr1 A / 65536 % nfr A a p) (A 358 3)
noncomputable def stD (A : Nat → Nat → Nat) (a p w : Nat) : Nat → Nat → Nat := aL (rdB (rdB (rdB A))) a (dnm A a p) w (rr1 (rdB A) / 65536 % 4) (rr1 (rdB (rdB A)) / 65536 % 400)
theorem c_stD {A X : Nat → Nat → Nat} {W : List Int64} {μ : MM} {K : Int32 × MM → Prop} {Q : Int32 → MM → Prop} (hV : Inv A X) (h : Cs A X W μ) {a p : Nat} (ha : a < 24) (hp : p < 2) (h0 : 0 < nfr A a p) (hn : A 358 12 < 96) {lo hi k : Nat} {b : Bool} {p4 : Int32}
    (hK : ∀ μ', Cs (stD A a p (if b then lo else hi)) X W μ' → FC μ μ' → K (qN (k + 1), μ')) : G10_dealTo_J64 (qN a) (qN lo) (qN hi) p4 (qN k) (qN p) (qN b.toNat) μ K Q := by
  refine c_drawName hV h ha hp h0 (fun μ1 h1 f1 => ?_)
  have v1 := hV.r (rr1_lt A)
  refine c_draw (n := 4) v1 h1 (by decide) (by decide) (fun μ2 h2 f2 => ?_)
  have v2 := Inv.r v1 (rr1_lt (rdB A))
  refine c_draw (n := 400) v2 h2 (by decide) (by decide) (fun μ3 h3 f3 => ?_)
  have fin : ∀ w : Nat, w = (if b then lo else hi) → G10_dealTo_J105 (qN a) (qN lo) (qN hi) p4 (qN k) (qN (rr1 (rdB A) / 65536 % 4)) (qN (rr1 (rdB (rdB A)) / 65536 % 400)) (qN w) (qN (dnm A a p)) (qN a) μ3 K Q := fun w hw => by
    subst hw
    refine c_addLetter h3 hn (by omega) (fun μ4 h4 f4 => ?_)
    show K (qN k + qN 1, μ4)
    rw [qN_add]
    exact hK μ4 h4 (((f1.tr f2).tr f3).tr f4)
  cases b
  · exact ⟨fun _ => fin hi rfl, fun q => absurd rfl q⟩
  · exact ⟨fun q => absurd q (by decide), fun _ => fin lo rfl⟩
theorem m_stD {A X : Nat → Nat → Nat} {W : List Int64} {μ : MM} {K : Int32 × MM → Prop} {Q : Int32 → MM → Prop} (hV : Inv A X) (h : Ms A X W μ) {a p : Nat} (ha : a < 24) (hp : p < 2) (h0 : 0 < nfr A a p) (hn : A 358 12 < 96) {lo hi k : Nat} {c : Nat → Nat} {p6 p7 : Int32}
    (h376 : ∀ j, j < 2 → gI μ 376 j = qN (c j)) (hc : ∀ j, j < 2 → c j < 100)
    (hK : ∀ μ', Ms (stD A a p (if c p = 0 then lo else hi)) X W μ' → FM μ μ' → (∀ j, j < 2 → gI μ' 376 j = qN (c j + if j = p then 1 else 0)) → K (qN (k + 1), μ')) : G12_deal_J192 (qN a) (qN lo) (qN hi) p6 p7 (qN k) (qN p) μ K Q := by
  have hN : A 358 3 < 13 := hV.b 358 3 (by unfold dom; decide)
  have nb : nfr A a p ≤ A 358 3 := cnt_le _ _
  unfold G12_deal_J192
  rw [flag_q hp]
  have no : ∀ m, (-1 : Int32) = qN m → m < nfr A a p → False := fun m e hm => (qN_neg1 (by omega)).mp e.symm
  refine m_freeName hV.b h.1 ha hp (fun _ => ?_) (fun m e hm => (no m e hm).elim) (Or.inl rfl)
  refine m_draws hV h h0 (by omega) (fun μ1 h1 f1 g1 => ?_)
  have v1 : Inv (rdB A) X := hV.r (rr1_lt A)
  have m0 : rr1 A / 65536 % nfr A a p < nfr A a p := Nat.mod_lt _ h0
  refine m_freeName (A := rdB A) v1.b h1.1 ha hp (fun e => ((qN_neg1 (by omega)).mp e).elim) (fun m e hm => ?_) (Or.inr ⟨_, rfl, m0⟩)
  have hm' : m < nfr A a p := hm
  obtain rfl := qN_inj e (by omega) (by omega)
  refine m_draws (n := 4) v1 h1 (by decide) (by decide) (fun μ2 h2 f2 g2 => ?_)
  have v2 : Inv (rdB (rdB A)) X := Inv.r v1 (rr1_lt (rdB A))
  refine m_draws (n := 400) v2 h2 (by decide) (by decide) (fun μ3 h3 f3 g3 => ?_)
  have e376 : ∀ j, j < 2 → gI μ3 376 j = qN (c j) := fun j hj => by rw [g3, g2, g1, h376 j hj]
  have e : gI μ3 376 (qN p).toNatClampNeg = qN (c p) := by rw [qN_nat (by omega)]; exact e376 p hp
  have hcp := hc p hp
  have fin : ∀ w : Nat, w = (if c p = 0 then lo else hi) → G12_deal_J251 (qN a) (qN lo) (qN hi) p6 p7 (qN k) (qN p) (qN (rr1 (rdB A) / 65536 % 4)) (qN (rr1 (rdB (rdB A)) / 65536 % 400)) (qN w) (qN (dnm A a p)) (qN a) μ3 K Q := fun w hw => by
    subst hw
    have key := m_lays (Q := fun μ68 => vp_in (qN p) 2 ∧ vp_in (qN p) 2 ∧ Bd (sI μ68 376 (qN p).toNatClampNeg ((gI μ68 376 (qN p).toNatClampNeg) + 1)) fun μ71 => K ((qN k + 1), μ71)) (a := a) (b := dnm A a p) (c := if c p = 0 then lo else hi) (e := rr1 (rdB A) / 65536 % 4) (d := rr1 (rdB (rdB A)) / 65536 % 400) h3 hn (fun μ4 h4 f4 g4 => by
      refine ⟨(qN_vp (by omega)).mpr hp, (qN_vp (by omega)).mpr hp, ?_⟩
      rw [Bd_eq, qN_nat (by omega), g4, e376 p hp, show (1 : Int32) = qN 1 from rfl, qN_add, qN_add]
      have hs : Sm mS μ4 (sI μ4 376 p (qN (c p + 1))) := Sm.rfl'.wI _ (by unfold mS; omega)
      have v3 : Inv (rdB (rdB (rdB A))) X := Inv.r v2 (rr1_lt (rdB (rdB A)))
      refine hK _ (Ms.sm (fun p hp => ?_) h4 hs) ((((f1.tr f2).tr f3).tr f4).tr (FM_mS hs)) (fun j hj => ?_)
      · have : A 378 p < 41 := hV.b 378 p (by unfold dom; omega)
        show A 378 p ≤ 48
        omega
      · rw [gI_I]
        by_cases q : j = p
        · subst q
          rw [if_pos ⟨rfl, rfl⟩, if_pos rfl]
        · rw [if_neg (fun r => q r.2), if_neg q, g4, e376 j hj]; rfl)
    rw [Nat.mod_mod, Nat.div_eq_of_lt (Nat.mod_lt _ (by decide))] at key
    exact key
  refine ⟨(qN_vp (by omega)).mpr hp, fun q => ?_, fun q => ?_⟩
  · rw [e] at q
    exact fin hi (by rw [if_neg (fun r => q (by rw [r]; rfl))])
  · rw [e] at q
    exact fin lo (by rw [if_pos (qN_inj q (by omega) (by decide))])
