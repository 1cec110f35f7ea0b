/-! deal -/
theorem cnt_rm (P : Nat → Bool) (m : Nat) : ∀ n, cnt (fun k => P k && decide (k ≠ m)) n + (if m < n then (P m).toNat else 0) = cnt P n
  | 0 => rfl
  | n + 1 => by
    have ih := cnt_rm P m n
    show cnt (fun k => P k && decide (k ≠ m)) n + (P n && decide (n ≠ m)).toNat + _ = cnt P n + (P n).toNat
    by_cases q : n = m
    · subst q
      rw [if_neg (Nat.lt_irrefl n)] at ih
      rw [if_pos (Nat.lt_succ_self n), decide_eq_false (fun r => r rfl), Bool.and_false]
      show cnt (fun k => P k && decide (k ≠ n)) n + 0 + (P n).toNat = cnt P n + (P n).toNat
      rw [ih]
    · rw [decide_eq_true q, Bool.and_true]
      by_cases s : m < n
      · rw [if_pos s] at ih
        rw [if_pos (by omega)]
        omega
      · rw [if_neg s] at ih
        rw [if_neg (by omega)]
        omega
theorem fr_aL (B : Nat → Nat → Nat) (a m w s d p k : Nat) : fr (aL B a m w s d) a p k = (fr B a p k && decide (k ≠ m)) := by
  have e : usd (aL B a m w s d) a k (B 358 12 + 1) = usd B a k (B 358 12) + (if m = k then 1 else 0) := by
    rw [usd_s, aL_367, aL_368, if_pos rfl, if_pos rfl]
    have : usd (aL B a m w s d) a k (B 358 12) = usd B a k (B 358 12) := cnt_congr (fun i hi => by rw [aL_367, aL_368, if_neg (by omega), if_neg (by omega)])
    rw [this]
    by_cases q : m = k
    · rw [if_pos q, if_pos ⟨rfl, q⟩]
    · rw [if_neg q, if_neg (fun r => q r.2)]
  show (decide (B 360 k = p) && decide (usd (aL B a m w s d) a k (B 358 12 + 1) = 0)) = _
  rw [e]
  unfold fr
  by_cases q : m = k
  · rw [if_pos q, decide_eq_false (show ¬ (k ≠ m) from fun r => r q.symm)]
    simp
  · rw [if_neg q, decide_eq_true (show k ≠ m from fun r => q r.symm)]
    simp
theorem dnm_s {A : Nat → Nat → Nat} {a p : Nat} (h0 : 0 < nfr A a p) : fr A a p (dnm A a p) = true ∧ dnm A a p < A 358 3 := by
  obtain ⟨s1, s2, s3⟩ := pkf_s (P := fr A a p) (n := A 358 3) (Nat.mod_lt (rr1 A / 65536) h0)
  exact ⟨s1, s3⟩
theorem nfr_stD {A : Nat → Nat → Nat} {a p : Nat} (h0 : 0 < nfr A a p) (w q : Nat) : nfr (stD A a p w) a q + (if q = p then 1 else 0) = nfr A a q := by
  obtain ⟨s1, s3⟩ := dnm_s h0
  have e : nfr (stD A a p w) a q = cnt (fun k => fr A a q k && decide (k ≠ dnm A a p)) (A 358 3) := cnt_congr (fun i _ => fr_aL (rdB (rdB (rdB A))) a (dnm A a p) w _ _ q i)
  have := cnt_rm (fr A a q) (dnm A a p) (A 358 3)
  rw [if_pos s3] at this
  have e2 : (fr A a q (dnm A a p)).toNat = if q = p then 1 else 0 := by
    unfold fr at s1 ⊢
    by_cases r : q = p
    · subst r; rw [s1, if_pos rfl]; rfl
    · rw [if_neg r]
      have s4 : A 360 (dnm A a p) = p := by
        have := (Bool.and_eq_true_iff.mp s1).1
        exact of_decide_eq_true this
      rw [s4, decide_eq_false (fun s => r s.symm)]; rfl
  rw [e2] at this
  rw [e]
  exact this
theorem cn_stD (A : Nat → Nat → Nat) (a p w : Nat) : cnt (fun i => decide (stD A a p w 367 i = a)) (A 358 12 + 1) = cnt (fun i => decide (A 367 i = a)) (A 358 12) + 1 := by
  show cnt (fun i => decide (stD A a p w 367 i = a)) (A 358 12) + (decide (stD A a p w 367 (A 358 12) = a)).toNat = _
  have e0 : rdB (rdB (rdB A)) 358 12 = A 358 12 := rfl
  have e : ∀ i, stD A a p w 367 i = if i = A 358 12 then a else A 367 i := fun i => by
    unfold stD; rw [aL_367, e0]; rfl
  rw [e, if_pos rfl, decide_eq_true rfl, cnt_congr (R := fun i => decide (A 367 i = a)) (fun i hi => by rw [e, if_neg (by omega)])]
  rfl
theorem stD_inv {A X : Nat → Nat → Nat} (hV : Inv A X) {a p w : Nat} (ha : a < A 358 8) (h0 : 0 < nfr A a p) (hw : w < 100) (hn : A 358 12 < 96) (h4 : cnt (fun i => decide (A 367 i = a)) (A 358 12) < 4) : Inv (stD A a p w) X := by
  have v1 : Inv (rdB A) X := hV.r (rr1_lt A)
  have v2 : Inv (rdB (rdB A)) X := Inv.r v1 (rr1_lt (rdB A))
  have v3 : Inv (rdB (rdB (rdB A))) X := Inv.r v2 (rr1_lt (rdB (rdB A)))
  exact Inv.letter v3 ha (dnm_s h0).2 hw (by omega) (by omega) hn h4
def pbD (r k : Nat) : Nat := (([3, 5, 9, 6, 10, 12] : List Nat).getD r 0 / 2 ^ k) % 2
def pcD (r p k : Nat) : Nat := cnt (fun j => decide (pbD r j = p)) k
def fsD (r k : Nat) : Bool := decide (pcD r (pbD r k) k = 0)
noncomputable def dlt (A : Nat → Nat → Nat) (a lo hi r : Nat) : Nat → Nat → Nat → Nat
  | 0 => A
  | k + 1 => stD (dlt A a lo hi r k) a (pbD r k) (if fsD r k then lo else hi)
theorem pb_t : ∀ r, r < 6 → ∀ k, k < 4 → pbD r k < 2 ∧ pcD r (pbD r k) k < 2 := by decide
theorem dlt_s {A X : Nat → Nat → Nat} (hV : Inv A X) {a lo hi r : Nat} (ha : a < A 358 8) (hlo : lo < 100) (hhi : hi < 100) (hr : r < 6) (hn : A 358 12 + 4 ≤ 96) (hz : cnt (fun i => decide (A 367 i = a)) (A 358 12) = 0) (h2 : ∀ p, p < 2 → 2 ≤ nfr A a p) :
    ∀ k, k ≤ 4 → Inv (dlt A a lo hi r k) X ∧ dlt A a lo hi r k 358 12 = A 358 12 + k ∧ dlt A a lo hi r k 358 8 = A 358 8 ∧ cnt (fun i => decide (dlt A a lo hi r k 367 i = a)) (A 358 12 + k) = k ∧ ∀ p, nfr (dlt A a lo hi r k) a p + pcD r p k = nfr A a p
  | 0, _ => ⟨hV, rfl, rfl, hz, fun p => rfl⟩
  | k + 1, hk => by
    obtain ⟨i1, i2, i3, i4, i5⟩ := dlt_s hV (lo := lo) (hi := hi) ha hlo hhi hr hn hz h2 k (by omega)
    have t := pb_t r hr k (by omega)
    have w : (if fsD r k then lo else hi) < 100 := by split <;> assumption
    have i6 := i5 (pbD r k)
    have i7 := h2 (pbD r k) t.1
    have h0 : 0 < nfr (dlt A a lo hi r k) a (pbD r k) := by omega
    revert i1 i2 i3 i4 i5 i6 h0 w
    show _ → _ → _ → _ → _ → _ → _ → _ → Inv (stD (dlt A a lo hi r k) a (pbD r k) (if fsD r k then lo else hi)) X ∧ stD (dlt A a lo hi r k) a (pbD r k) (if fsD r k then lo else hi) 358 12 = A 358 12 + (k + 1) ∧ stD (dlt A a lo hi r k) a (pbD r k) (if fsD r k then lo else hi) 358 8 = A 358 8 ∧ cnt (fun i => decide (stD (dlt A a lo hi r k) a (pbD r k) (if fsD r k then lo else hi) 367 i = a)) (A 358 12 + (k + 1)) = k + 1 ∧ ∀ p, nfr (stD (dlt A a lo hi r k) a (pbD r k) (if fsD r k then lo else hi)) a p + pcD r p (k + 1) = nfr A a p
    generalize dlt A a lo hi r k = B
    generalize (if fsD r k then lo else hi) = w
    intro i1 i2 i3 i4 i5 hw i6 h0
    refine ⟨stD_inv i1 (by omega) h0 hw (by omega) (by rw [i2, i4]; omega), ?_, i3, ?_, fun p => ?_⟩
    · show B 358 12 + 1 = _
      omega
    · rw [← Nat.add_assoc, ← i2, cn_stD, i2, i4]
    · have e1 := nfr_stD h0 w p
      have e2 : pcD r p (k + 1) = pcD r p k + (decide (pbD r k = p)).toNat := rfl
      have e3 := i5 p
      rw [e2]
      by_cases q : p = pbD r k
      · rw [if_pos q] at e1
        rw [decide_eq_true q.symm]
        simp
        omega
      · rw [if_neg q] at e1
        rw [decide_eq_false (fun s => q s.symm)]
        simp
        omega
theorem bit_t : ∀ r, r < 6 → ∀ i, i < 4 → (twoL.getD r 0 >>> (qN i &&& (31 : Int32))) &&& (1 : Int32) = qN (pbD r i) ∧ (¬ qN (pbD r i) = 1 → (((twoL.getD r 0 ^^^ (-1 : Int32)) &&& (((1 : Int32) <<< (qN i &&& (31 : Int32))) - 1)) = 0 ↔ fsD r i = true)) ∧ (qN (pbD r i) = 1 → ((twoL.getD r 0 &&& (((1 : Int32) <<< (qN i &&& (31 : Int32))) - 1)) = 0 ↔ fsD r i = true)) := by decide
theorem c_dealTo {A X : Nat → Nat → Nat} {W : List Int64} {μ : MM} {Q : Int32 → MM → Prop} (hV : Inv A X) (h : Cs A X W μ) {a lo hi : Nat} (ha : a < A 358 8) (hlo : lo < 100) (hhi : hi < 100) (hn : A 358 12 + 4 ≤ 96) (hz : cnt (fun i => decide (A 367 i = a)) (A 358 12) = 0) (h2 : ∀ p, p < 2 → 2 ≤ nfr A a p)
    (hQ : ∀ μ', Cs (dlt (rdB A) a lo hi (rr1 A / 65536 % 6) 4) X W μ' → FC μ μ' → Q (qN (A 358 12 + 4)) μ') : G10_dealTo (qN a) (qN lo) (qN hi) μ Q := by
  have b8 : A 358 8 < 25 := hV.b 358 8 (by unfold dom; decide)
  have hr : rr1 A / 65536 % 6 < 6 := Nat.mod_lt _ (by decide)
  refine c_draw (n := 6) hV h (by decide) (by decide) (fun μ1 h1 f1 => ?_)
  have v1 : Inv (rdB A) X := hV.r (rr1_lt A)
  revert hQ hr
  generalize rr1 A / 65536 % 6 = r
  intro hQ hr
  refine ⟨(qN_vp (by omega)).mpr hr, ?_⟩
  rw [Bd_eq, qN_nat (by omega)]
  have S := dlt_s (A := rdB A) v1 (a := a) (lo := lo) (hi := hi) (r := r) ha hlo hhi hr hn hz h2
  have e12 : rdB A 358 12 = A 358 12 := rfl
  refine Lp.up 4 (fun i (x : Int32 × MM) => x.1 = qN i ∧ Cs (dlt (rdB A) a lo hi r i) X W x.2 ∧ FC μ x.2) ?_ ⟨rfl, h1, f1⟩
  rintro i K hi' hK ⟨x1, ν⟩ ⟨rfl, hc, hf⟩
  obtain ⟨i1, i2, i3, i4, i5⟩ := S i hi'
  have z4 : ((4 : Int32) ≤ qN i) ↔ 4 ≤ i := qN_le (a := 4) (by decide) (by omega)
  rcases Nat.lt_or_ge i 4 with hl | hl
  · refine ⟨fun q => absurd (z4.mp q) (by omega), fun _ => ?_⟩
    obtain ⟨t1, t2, t3⟩ := bit_t r hr i hl
    obtain ⟨u1, u2⟩ := pb_t r hr i hl
    have i6 := i5 (pbD r i)
    have i7 : 2 ≤ nfr (rdB A) a (pbD r i) := h2 (pbD r i) u1
    have go : ∀ b : Bool, b = fsD r i → G10_dealTo_J64 (qN a) (qN lo) (qN hi) (twoL.getD r 0) (qN i) (qN (pbD r i)) (qN b.toNat) ν K Q := fun b hb => by
      subst hb
      refine c_stD i1 hc (by omega) u1 (by omega) (by omega) (fun μ' c' f' => hK hl _ ⟨rfl, c', hf.tr f'⟩)
    have st : ∀ q0 : Int32, ((q0 &&& ((1 <<< (qN i &&& 31)) - 1)) = 0 ↔ fsD r i = true) → G10_dealTo_J45 (qN a) (qN lo) (qN hi) (twoL.getD r 0) (qN i) (qN (pbD r i)) q0 ν K Q := fun q0 e => by
      refine ⟨fun s => go false ?_, fun s => go true ?_⟩
      · cases hb : fsD r i
        · rfl
        · exact absurd (e.mpr hb) s
      · exact (e.mp s).symm
    rw [Bd_eq, t1]
    exact ⟨fun q => st _ (t2 q), fun q => st _ (t3 q)⟩
  · have e : i = 4 := by omega
    subst e
    refine ⟨fun _ => ?_, fun q => absurd (z4.mpr (by omega)) q⟩
    have e1 : gI ν 1 10 = qN (A 358 12 + 4) := by rw [Ca_s12 hc.1, i2]; rfl
    show Q (gI ν 1 10) ν
    rw [e1]
    exact hQ ν hc hf
def fD (r : Nat) : Nat := if r < 3 then 0 else if r < 5 then 1 else 2
def gD (r : Nat) : Nat := if r < 3 then r + 1 else if r < 5 then r - 1 else 3
theorem fg_t : ∀ r, r < 6 → ∀ i, i < 4 → pbD r i = if i = fD r ∨ i = gD r then 1 else 0 := by decide
theorem fgb : ∀ r, r < 6 → fD r < 4 ∧ gD r < 4 := by decide
theorem m_deals {A X : Nat → Nat → Nat} {W : List Int64} {μ μ0 : MM} {Q : Int32 → MM → Prop} (hV : Inv A X) (h : Ms A X W μ) (f0 : FM μ0 μ) {a lo hi r : Nat} (hr : r < 6) (ha : a < A 358 8) (hlo : lo < 100) (hhi : hi < 100) (hn : A 358 12 + 4 ≤ 96) (hz : cnt (fun i => decide (A 367 i = a)) (A 358 12) = 0) (h2 : ∀ p, p < 2 → 2 ≤ nfr A a p)
    (hQ : ∀ μ', Ms (dlt A a lo hi r 4) X W μ' → FM μ0 μ' → Q (qN (A 358 12 + 4)) μ') : G12_deal_J146 (qN a) (qN lo) (qN hi) (qN (fD r)) (qN (gD r)) μ Q := by
  have b8 : A 358 8 < 25 := hV.b 358 8 (by unfold dom; decide)
  obtain ⟨fb, gb⟩ := fgb r hr
  have S := dlt_s (A := A) hV (a := a) (lo := lo) (hi := hi) (r := r) ha hlo hhi hr hn hz h2
  unfold G12_deal_J146
  rw [Bd_eq, Bd_eq]
  have hs : Sm mS μ (sI (sI μ 376 0 0) 376 1 0) := (Sm.rfl'.wI _ (by unfold mS; omega)).wI _ (by unfold mS; omega)
  have h1 : Ms A X W (sI (sI μ 376 0 0) 376 1 0) := Ms.sm (fun p hp => by
    have : A 378 p < 41 := hV.b 378 p (by unfold dom; omega)
    show A 378 p ≤ 48
    omega) h hs
  refine Lp.up 4 (fun i (x : Int32 × MM) => x.1 = qN i ∧ Ms (dlt A a lo hi r i) X W x.2 ∧ FM μ0 x.2 ∧ ∀ j, j < 2 → gI x.2 376 j = qN (pcD r j i)) ?_ ⟨rfl, h1, f0.tr (FM_mS hs), fun j hj => ?_⟩
  case refine_2 =>
    rw [gI_I]
    by_cases q : j = 1
    · subst q; rfl
    · have : j = 0 := by omega
      subst this; rfl
  rintro i K hi' hK ⟨x1, ν⟩ ⟨rfl, hc, hf, h376⟩
  obtain ⟨i1, i2, i3, i4, i5⟩ := S i hi'
  have z4 : ((4 : Int32) ≤ qN i) ↔ 4 ≤ i := qN_le (a := 4) (by decide) (by omega)
  rcases Nat.lt_or_ge i 4 with hl | hl
  · refine ⟨fun q => absurd (z4.mp q) (by omega), fun _ => ?_⟩
    obtain ⟨u1, u2⟩ := pb_t r hr i hl
    have t := fg_t r hr i hl
    have i6 := i5 (pbD r i)
    have i7 := h2 (pbD r i) u1
    have go : ∀ p : Nat, p = pbD r i → G12_deal_J192 (qN a) (qN lo) (qN hi) (qN (fD r)) (qN (gD r)) (qN i) (qN p) ν K Q := fun p hp => by
      subst hp
      refine m_stD (c := fun j => pcD r j i) i1 hc (by omega) u1 (by omega) (by omega) h376 (fun j hj => ?_) (fun μ' c' f' g' => hK hl _ ⟨rfl, ?_, hf.tr f', fun j hj => ?_⟩)
      · have := cnt_le (fun l => decide (pbD r l = j)) i
        show pcD r j i < 100
        unfold pcD
        omega
      · have e : (if fsD r i then lo else hi) = if pcD r (pbD r i) i = 0 then lo else hi := by
          unfold fsD
          by_cases q : pcD r (pbD r i) i = 0
          · rw [decide_eq_true q, if_pos rfl, if_pos q]
          · rw [decide_eq_false q, if_neg (by decide), if_neg q]
        show Ms (stD (dlt A a lo hi r i) a (pbD r i) (if fsD r i then lo else hi)) X W μ'
        rw [e]
        exact c'
      · have := g' j hj
        show gI μ' 376 j = _
        rw [this]
        refine congrArg qN ?_
        show pcD r j i + _ = pcD r j i + (decide (pbD r i = j)).toNat
        by_cases q : j = pbD r i
        · rw [if_pos q, decide_eq_true q.symm]; rfl
        · rw [if_neg q, decide_eq_false (fun s => q s.symm)]; rfl
    have x1 : qN i = qN (fD r) ↔ i = fD r := qN_eq (by omega) (by omega)
    have x2 : qN i = qN (gD r) ↔ i = gD r := qN_eq (by omega) (by omega)
    refine ⟨fun q => go 1 ?_, fun q => ⟨fun q2 => go 0 ?_, fun q2 => go 1 ?_⟩⟩
    · rw [t, if_pos (Or.inl (x1.mp q))]
    · rw [t, if_neg (fun s => s.elim (fun s => q (x1.mpr s)) (fun s => q2 (x2.mpr s)))]
    · rw [t, if_pos (Or.inr (x2.mp q2))]
  · have e : i = 4 := by omega
    subst e
    refine ⟨fun _ => ?_, fun q => absurd (z4.mpr (by omega)) q⟩
    have e1 : gI ν 358 12 = qN (A 358 12 + 4) := by rw [Ma_s12 hc.1, i2]
    show Q (gI ν 358 12) ν
    rw [e1]
    exact hQ ν hc hf
