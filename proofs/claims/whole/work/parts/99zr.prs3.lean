/-! laws as texts: the class takes one -/
def EXs (t : Nat) (ν : MM) (ro sk : List Nat) : Prop := gI ν t 1 = qN ro.length ∧ gI ν t 3 = qN sk.length ∧ (∀ j, j < ro.length → gI ν (t + 1) j = ecd (lat ro j)) ∧ (∀ j, j < sk.length → gI ν (t + 2) j = qN (lat sk j)) ∧ ∀ a, a ∈ sk → a < 256
def xsS (t k j : Nat) : Prop := (k = t ∧ (j = 1 ∨ j = 3)) ∨ k = t + 1 ∨ k = t + 2
theorem c_xput {t m : Nat} {v : Int32} {ro sk : List Nat} {μ : MM} {Q : MM → Prop} (hv : v = ecd m) (h : EXs t μ ro sk) (hl : ro.length < 40) (hQ : ∀ μ', Sm (xsS t) μ μ' → EXs t μ' (m :: ro) sk → Q μ') : G3_put t v μ Q := by
  subst hv
  obtain ⟨h1, h2, h3, h4, h5⟩ := h
  have c1 : (40 : Int32) ≤ qN ro.length ↔ 40 ≤ ro.length := qN_le (a := 40) (by decide) (by omega)
  unfold G3_put
  rw [h1, c1, qN_vp (by omega), qN_nat (by omega), Bd_eq, gI_I, if_neg (fun r => by omega), h1, show qN ro.length + 1 = qN (ro.length + 1) from qN_add _ 1, Bd_eq]
  refine ⟨fun r => absurd r (by omega), fun _ => ⟨by omega, hQ _ ((Sm.rfl'.wI _ (Or.inr (Or.inl rfl))).wI _ (Or.inl ⟨rfl, Or.inl rfl⟩)) ⟨?_, ?_, fun j hj => ?_, fun j hj => ?_, h5⟩⟩⟩
  · rw [gI_I, if_pos ⟨rfl, rfl⟩]; rfl
  · rw [gI_I, if_neg (fun r => by omega), gI_I, if_neg (fun r => by omega)]; exact h2
  · have hj' : j < ro.length + 1 := hj
    rw [gI_I, if_neg (fun r => by omega), gI_I]
    by_cases e : j = ro.length
    · rw [if_pos ⟨rfl, e⟩, e, lat_l]
    · rw [if_neg (fun r => e r.2), lat_c m ro (by omega)]
      exact h3 j (by omega)
  · rw [gI_I, if_neg (fun r => by omega), gI_I, if_neg (fun r => by omega)]; exact h4 j hj
theorem c_xpush {t a : Nat} {ro sk : List Nat} {μ : MM} {Q : MM → Prop} (h : EXs t μ ro sk) (ha : a < 256) (hl : sk.length < 40) (hQ : ∀ μ', Sm (xsS t) μ μ' → EXs t μ' ro (a :: sk) → Q μ') : G3_push t (qN a) μ Q := by
  obtain ⟨h1, h2, h3, h4, h5⟩ := h
  have c1 : (40 : Int32) ≤ qN sk.length ↔ 40 ≤ sk.length := qN_le (a := 40) (by decide) (by omega)
  unfold G3_push
  rw [h2, c1, qN_vp (by omega), qN_nat (by omega), Bd_eq, gI_I, if_neg (fun r => by omega), h2, show qN sk.length + 1 = qN (sk.length + 1) from qN_add _ 1, Bd_eq]
  refine ⟨fun r => absurd r (by omega), fun _ => ⟨by omega, hQ _ ((Sm.rfl'.wI _ (Or.inr (Or.inr rfl))).wI _ (Or.inl ⟨rfl, Or.inr rfl⟩)) ⟨?_, ?_, fun j hj => ?_, fun j hj => ?_, fun y hy => ?_⟩⟩⟩
  · rw [gI_I, if_neg (fun r => by omega), gI_I, if_neg (fun r => by omega)]; exact h1
  · rw [gI_I, if_pos ⟨rfl, rfl⟩]; rfl
  · rw [gI_I, if_neg (fun r => by omega), gI_I, if_neg (fun r => by omega)]; exact h3 j hj
  · have hj' : j < sk.length + 1 := hj
    rw [gI_I, if_neg (fun r => by omega), gI_I]
    by_cases e : j = sk.length
    · rw [if_pos ⟨rfl, e⟩, e, lat_l]
    · rw [if_neg (fun r => e r.2), lat_c a sk (by omega)]
      exact h4 j (by omega)
  · rcases List.mem_cons.mp hy with rfl | q
    · exact ha
    · exact h5 y q
theorem c_xpop {t a : Nat} {ro sk : List Nat} {μ : MM} {Q : Int32 → MM → Prop} (h : EXs t μ ro (a :: sk)) (hl : sk.length < 40) (hQ : ∀ μ', Sm (xsS t) μ μ' → EXs t μ' ro sk → Q (qN a) μ') : G3_pop t μ Q := by
  obtain ⟨h1, h2, h3, h4, h5⟩ := h
  have l1 : (a :: sk).length = sk.length + 1 := rfl
  rw [l1] at h2 h4
  have c1 : qN (sk.length + 1) = 0 ↔ sk.length + 1 = 0 := qN_eq (b := 0) (by omega) (by decide)
  have g : gI μ (t + 2) sk.length = qN a := by rw [h4 _ (by omega), lat_l]
  unfold G3_pop
  rw [h2, c1, show qN (sk.length + 1) - 1 = qN sk.length from qN_sub (a := sk.length + 1) (b := 1) (by omega), Bd_eq, gI_I, if_pos ⟨rfl, rfl⟩, qN_vp (by omega), qN_nat (by omega), gI_I, if_neg (fun r => by omega), g]
  refine ⟨fun _ => ⟨by omega, hQ _ (Sm.rfl'.wI _ (Or.inl ⟨rfl, Or.inr rfl⟩)) ⟨?_, ?_, fun j hj => ?_, fun j hj => ?_, fun y hy => h5 y (List.mem_cons_of_mem _ hy)⟩⟩, fun r => absurd r (by omega)⟩
  · rw [gI_I, if_neg (fun r => by omega)]; exact h1
  · rw [gI_I, if_pos ⟨rfl, rfl⟩]
  · rw [gI_I, if_neg (fun r => by omega)]; exact h3 j hj
  · rw [gI_I, if_neg (fun r => by omega), h4 j (by omega), lat_c a sk hj]
theorem ecd_op (a : Nat) : -(qN a) = ecd (2000 + a) := by
  unfold ecd
  rw [if_neg (by omega), show 2000 + a - 2000 = a by omega]
theorem ecd_lo {m : Nat} (h : m < 2000) : ecd m = qN m := if_pos h
theorem qN_dec (a : Nat) : qN (a + 1) + (-1) = qN a := by
  rw [← Int32.sub_eq_add_neg]
  exact qN_sub (a := a + 1) (b := 1) (by omega)
theorem c_xstronger {t s : Nat} {ro sk : List Nat} {μ : MM} {Q : MM → Prop} (hs : s < 100) (h : EXs t μ ro sk) (hl : ro.length + sk.length ≤ 40) (hQ : ∀ μ', Sm (xsS t) μ μ' → EXs t μ' (pst s sk ro).2 (pst s sk ro).1 → Q μ') : G3_putStronger t (qN s) μ Q := by
  unfold G3_putStronger
  rw [Bd_eq]
  refine Lp.wf (fun x => x.1.toNatClampNeg) (fun (x : Int32 × MM) => ∃ ro' sk', pst s sk ro = pst s sk' ro' ∧ ro'.length + sk'.length ≤ 40 ∧ x.1 = qN sk'.length ∧ EXs t x.2 ro' sk' ∧ Sm (xsS t) μ x.2) ?_ ⟨ro, sk, rfl, hl, h.2.1, h, Sm.rfl'⟩
  rintro K ⟨x1, x⟩ ⟨ro', sk', e1, e2, e0, e3, e4⟩ hK
  simp only at e0 e3 e4
  subst e0
  cases sk' with
  | nil =>
    unfold G3_putStronger_L5
    refine ⟨fun _ => ?_, fun r => absurd (by show qN 0 ≤ 0; decide) r⟩
    rw [e1] at hQ
    exact hQ x e4 e3
  | cons a sk' =>
    have l1 : (a :: sk').length = sk'.length + 1 := rfl
    rw [l1] at e2 hK
    rw [l1]
    have g : gI x (t + 2) sk'.length = qN a := by rw [e3.2.2.2.1 _ (by rw [l1]; omega), lat_l]
    have ha : a < 256 := e3.2.2.2.2 a (List.mem_cons_self ..)
    have c1 : qN (sk'.length + 1) ≤ 0 ↔ sk'.length + 1 ≤ 0 := qN_le (b := 0) (by omega) (by decide)
    have c2 : qN (stg a) < qN s ↔ stg a < s := qN_lt (by have := stg_6 a; omega) (by omega)
    unfold G3_putStronger_L5
    simp only
    rw [c1, show qN (sk'.length + 1) + (-1) = qN sk'.length from qN_dec sk'.length, show qN (sk'.length + 1) - 1 = qN sk'.length from qN_sub (a := sk'.length + 1) (b := 1) (by omega), qN_vp (by omega), qN_nat (by omega), g]
    refine ⟨fun r => absurd r (by omega), fun _ => ⟨by omega, c_strength ha ?_⟩⟩
    rw [c2]
    refine ⟨fun r => ?_, fun r => ?_⟩
    · have e5 : pst s (a :: sk') ro' = (a :: sk', ro') := if_neg (by omega)
      rw [e1, e5] at hQ
      exact hQ x e4 e3
    · have e5 : pst s (a :: sk') ro' = pst s sk' ((2000 + a) :: ro') := if_pos (by omega)
      refine c_xpop e3 (by omega) (fun μ1 s1 x1 => ?_)
      refine c_xput (ecd_op a) x1 (by omega) (fun μ2 s2 x2 => ?_)
      refine hK (qN sk'.length, μ2) ⟨(2000 + a) :: ro', sk', e1.trans e5, by rw [List.length_cons]; omega, rfl, x2, (e4.tr s1).tr s2⟩ ?_
      show (qN sk'.length).toNatClampNeg < (qN (sk'.length + 1)).toNatClampNeg
      rw [qN_nat (by omega), qN_nat (by omega)]
      omega
/-- a text in which no sign is wrong -/
theorem c_become {b : Bool} {c : Nat → Nat} {t n : Nat} {σ : PSt} {μ : MM} {Q : MM → Prop} (hn : n ≤ 40) (htt : t + 2 < 357) (ht : ∀ i, i < 60 → gI μ 357 i = qN (c i)) (hc : ∀ i, i < 60 → c i < 256) (hs : mst b c n = some σ)
    (hQ : ∀ μ' sk', Sm (xsS t) μ μ' → EXs t μ' (pst 1 σ.2.2.2.2.2 σ.2.2.2.2.1).2 sk' → Q μ') : G3_become t 357 (qN n) μ Q := by
  unfold G3_become
  rw [Bd_eq, Bd_eq]
  have s0 : Sm (xsS t) μ (sI (sI μ t 1 0) t 3 0) := (Sm.rfl'.wI _ (Or.inl ⟨rfl, Or.inl rfl⟩)).wI _ (Or.inl ⟨rfl, Or.inr rfl⟩)
  have x0 : EXs t (sI (sI μ t 1 0) t 3 0) [] [] := ⟨by rw [gI_I, if_neg (fun r => by omega), gI_I, if_pos ⟨rfl, rfl⟩]; rfl, by rw [gI_I, if_pos ⟨rfl, rfl⟩]; rfl, fun j hj => absurd hj (by show ¬ j < 0; omega), fun j hj => absurd hj (by show ¬ j < 0; omega), fun a ha => absurd ha (by simp)⟩
  refine Lp.up n (fun k (x : Int32 × Int32 × MM) => ∃ w dg dp cm ro sk, mst b c k = some (w, dg, dp, cm, ro, sk) ∧ x.1 = bI w ∧ x.2.1 = qN k ∧ Sm (xsS t) μ x.2.2 ∧ EXs t x.2.2 ro sk) ?_ ⟨true, 0, 0, fun _ => false, [], [], rfl, rfl, rfl, s0, x0⟩
  clear s0 x0
  rintro k K hk hK ⟨x1, x2, ν⟩ ⟨w, dg, dp, cm, ro, sk, hm, e1, e2, hS, hX⟩
  simp only at e1 e2 hS hX
  subst e1 e2
  have ln2 := mst_len k _ hm
  simp only at ln2
  have c1 : qN n ≤ qN k ↔ n ≤ k := qN_le (by omega) (by omega)
  unfold G3_become_L15
  simp only [c1]
  refine ⟨fun r => ?_, fun r => ?_⟩
  · have e : k = n := by omega
    subst e
    have es := hs.symm.trans hm
    have es2 := Option.some.inj es
    subst es2
    exact c_xstronger (s := 1) (by decide) hX (by omega) (fun μ' s1 x1 => hQ μ' _ (hS.tr s1) x1)
  · have l : k < n := by omega
    obtain ⟨i1, i2, i3⟩ := mst_inv k _ hm
    simp only at i1 i2 i3
    have hx := hc k (by omega)
    have tk : ∀ i, i < 60 → gI ν 357 i = qN (c i) := fun i hi => by rw [(hS.1 357 i (by unfold xsS; omega)).1]; exact ht i hi
    obtain ⟨τ, hτ⟩ := mst_low hs (show k + 1 ≤ n by omega)
    have st := (mst_s hm).symm.trans hτ
    have c4 : ∀ a, a < 256 → (qN (c k) = qN a ↔ c k = a) := fun a ha => qN_eq (by omega) (by omega)
    have x40 : qN (c k) = 40 ↔ c k = 40 := c4 40 (by decide)
    have x41 : qN (c k) = 41 ↔ c k = 41 := c4 41 (by decide)
    have x33 : qN (c k) = 33 ↔ c k = 33 := c4 33 (by decide)
    have x45 : qN (c k) = 45 ↔ c k = 45 := c4 45 (by decide)
    have c3 : qN k ≤ 0 ↔ k ≤ 0 := qN_le (b := 0) (by omega) (by decide)
    have go : ∀ w' dg' dp' cm' ro' sk' ω, stp b (c k) (w, dg, dp, cm, ro, sk) = some (w', dg', dp', cm', ro', sk') → Sm (xsS t) ν ω → EXs t ω ro' sk' → K (bI w', qN (k + 1), ω) := fun w' dg' dp' cm' ro' sk' ω e s1 x1 => hK l _ ⟨w', dg', dp', cm', ro', sk', (mst_s hm).trans e, rfl, rfl, hS.tr s1, x1⟩
    rw [qN_vp (by omega), qN_nat (by omega), tk k (by omega), Bd_eq, x40, x33, x45, c3, show qN k + 1 = qN (k + 1) from qN_add k 1]
    refine ⟨by show k < 60; omega, ?_⟩
    have d0 : ∀ x, isDg x = true → stg x = 0 ∧ x ≠ 41 ∧ x ≠ 40 ∧ x - 48 ≤ 9 ∧ 48 ≤ x := fun x hd => by
      unfold isDg at hd
      rw [Bool.and_eq_true, decide_eq_true_eq, decide_eq_true_eq] at hd
      refine ⟨?_, by omega, by omega, by omega, by omega⟩
      unfold stg
      rw [if_neg (by omega), if_neg (by omega), if_neg (by omega), if_neg (by omega), if_neg (by omega), if_neg (by omega), if_neg (by omega), if_neg (by omega), if_neg (by omega), if_neg (by omega)]
    cases w with
    | true =>
      have b1 : bI true = 0 ↔ False := iff_false_intro (by decide)
      refine c_isDg hx (fun d => ⟨fun r3 => absurd r3 (by decide), fun _ => ?_⟩) (fun d => ⟨fun _ => ?_, fun r3 => absurd rfl r3⟩)
      · obtain ⟨_, _, n40, d9, d48⟩ := d0 _ d
        have em : qN (c k) - 48 = qN (c k - 48) := qN_sub (b := 48) d48
        have put : ∀ ω, ω = ν → G3_become_J62 t 357 (qN n) (qN k) (qN (c k) - 48) ω K Q := fun ω eω => by
          subst eω
          unfold G3_become_J62 G3_become_J63 G3_putDigit G3_putDigit_J41
          rw [em, show qN k + 1 = qN (k + 1) from qN_add k 1]
          refine ⟨fun _ => c_xput (m := c k - 48) (by rw [ecd_lo (by omega)]) hX (by omega) (fun μ1 s1 x1 => go false 1 dp cm ((c k - 48) :: ro) sk μ1 ?_ s1 x1), fun r3 => absurd rfl r3⟩
          unfold stp
          simp only [if_true, d]
          rw [if_neg (fun z => n40 z.1)]
        refine ⟨fun _ => put ν rfl, fun k0 => ?_⟩
        have nd : isDg (c (k - 1)) = false := by
          rcases i2 rfl with q | q
          · omega
          · exact q
        rw [show qN k - 1 = qN (k - 1) from qN_sub (b := 1) (by omega), qN_vp (by omega), qN_nat (by omega), tk (k - 1) (by omega)]
        exact ⟨by show k - 1 < 60; omega, c_isDg (hc (k - 1) (by omega)) (fun z => by rw [nd] at z; exact absurd z (by decide)) (fun _ => ⟨fun _ => put ν rfl, fun r3 => absurd rfl r3⟩)⟩
      · have nd : ¬ isDg (c k) = true := by rw [d]; decide
        refine ⟨fun y => ?_, fun y => ⟨fun y2 => ⟨fun y3 => ?_, fun y3 => ⟨fun r3 => absurd r3 (by decide), fun _ => ?_⟩⟩, fun y2 => ?_⟩⟩
        · -- an opening one
          by_cases q : dp < 5
          · unfold G3_become_J85
            rw [show qN k + 1 = qN (k + 1) from qN_add k 1]
            refine c_xpush hX hx (by omega) (fun μ1 s1 x1 => go true dg (dp + 1) (updB cm (dp + 1) false) ro (40 :: sk) μ1 ?_ s1 (by rw [y] at x1; exact x1))
            unfold stp
            simp only [if_true]
            rw [if_pos ⟨y, q⟩]
          · exfalso
            have : stp b (c k) (true, dg, dp, cm, ro, sk) = none := by
              have t40 : tokB b 40 = false := by cases b <;> rfl
              unfold stp
              simp only [if_true]
              rw [if_neg (fun z => q z.2), if_neg nd, y, t40]
              rfl
            rw [this] at st
            exact absurd st (by simp)
        · -- a thing
          by_cases tk1 : tokB b (c k) = true
          · obtain ⟨t14, s0, _, _, _, _, n41⟩ := tok_ne hx tk1
            unfold G3_become_J114
            rw [x41, show qN k + 1 = qN (k + 1) from qN_add k 1]
            refine ⟨fun _ => c_isJoin hx (fun j1 _ => absurd j1 (by omega)) (fun _ => ⟨fun _ => ?_, fun r3 => absurd rfl r3⟩), fun r3 => absurd r3 n41⟩
            refine c_index hx (fun q => ?_) (fun q => by omega)
            rw [show (1000 : Int32) + qN (tix (c k)) = qN (1000 + tix (c k)) from qN_add 1000 _]
            refine c_xput (m := 1000 + tix (c k)) (by rw [ecd_lo (by omega)]) hX (by omega) (fun μ1 s1 x1 => go false 3 dp cm ((1000 + tix (c k)) :: ro) sk μ1 ?_ s1 x1)
            unfold stp
            simp only [if_true]
            rw [if_neg (fun z => y z.1), if_neg nd, if_pos tk1]
          · exfalso
            have : stp b (c k) (true, dg, dp, cm, ro, sk) = none := by
              unfold stp
              simp only [if_true]
              rw [if_neg (fun z => y z.1), if_neg nd, if_neg tk1, if_neg y2, if_neg y3]
            rw [this] at st
            exact absurd st (by simp)
        · -- a sign ahead
          rw [show (126 : Int32) = qN 126 from rfl]
          refine c_xpush hX (by decide) (by omega) (fun μ1 s1 x1 => go true dg dp cm ro (126 :: sk) μ1 ?_ s1 x1)
          have t45 : tokB b 45 = false := by cases b <;> rfl
          unfold stp
          simp only [if_true]
          rw [if_neg (fun z => y z.1), if_neg nd, y3, t45]
          rfl
        · unfold G3_become_J85
          rw [show qN k + 1 = qN (k + 1) from qN_add k 1]
          refine c_xpush hX hx (by omega) (fun μ1 s1 x1 => go true dg dp cm ro (33 :: sk) μ1 ?_ s1 (by rw [y2] at x1; exact x1))
          have t33 : tokB b 33 = false := by cases b <;> rfl
          unfold stp
          simp only [if_true]
          rw [if_neg (fun z => y z.1), if_neg nd, y2, t33]
          rfl
    | false =>
      obtain ⟨j1, j2, j3⟩ := i3 rfl
      refine c_isDg hx (fun d => ⟨fun r3 => absurd r3 (by decide), fun _ => ?_⟩) (fun d => ⟨fun _ => ?_, fun r3 => absurd rfl r3⟩)
      · obtain ⟨s0, n41, n40, d9, d48⟩ := d0 _ d
        have em : qN (c k) - 48 = qN (c k - 48) := qN_sub (b := 48) d48
        by_cases q : dg < 3
        · obtain ⟨pd, hh, tt, er, hb⟩ := j3 q
          refine ⟨fun r3 => absurd r3 (by omega), fun _ => ?_⟩
          rw [show qN k - 1 = qN (k - 1) from qN_sub (b := 1) (by omega), qN_vp (by omega), qN_nat (by omega), tk (k - 1) (by omega)]
          refine ⟨by show k - 1 < 60; omega, c_isDg (hc (k - 1) (by omega)) (fun _ => ⟨fun r3 => absurd r3 (by decide), fun _ => ?_⟩) (fun z => by rw [pd] at z; exact absurd z (by decide))⟩
          subst er
          have hX2 := hX
          obtain ⟨h1, h2, h3, h4, h5⟩ := hX
          have l1 : (hh :: tt).length = tt.length + 1 := rfl
          rw [l1] at h1 h3 ln2
          have hb2 : hh < 100 := by
            rcases (show dg = 1 ∨ dg = 2 by omega) with z | z <;> rw [z] at hb <;> omega
          have g1 : gI ν (t + 1) tt.length = qN hh := by rw [h3 _ (by omega), lat_l, ecd_lo (by omega)]
          have z1 : qN (tt.length + 1) ≤ 0 ↔ tt.length + 1 ≤ 0 := qN_le (b := 0) (by omega) (by decide)
          unfold G3_become_J63 G3_putDigit
          rw [h1, z1, em, show qN (tt.length + 1) - 1 = qN tt.length from qN_sub (a := tt.length + 1) (b := 1) (by omega), qN_vp (by omega), qN_nat (by omega), g1, show qN hh * 10 = qN (hh * 10) from qN_mul hh 10, qN_add, Bd_eq, show qN k + 1 = qN (k + 1) from qN_add k 1]
          refine ⟨fun r3 => absurd r3 (by decide), fun _ => ⟨fun r3 => absurd r3 (by omega), fun _ => ⟨by omega, by omega, ?_⟩⟩⟩
          refine go false (dg + 1) dp cm ((hh * 10 + (c k - 48)) :: tt) sk _ ?_ (Sm.rfl'.wI _ (Or.inr (Or.inl rfl))) ⟨?_, ?_, fun j hj => ?_, fun j hj => ?_, h5⟩
          · unfold stp
            simp only [Bool.false_eq_true, if_false]
            rw [if_pos ⟨d, q⟩]
            rfl
          · rw [gI_I, if_neg (fun r => by omega)]; exact h1
          · rw [gI_I, if_neg (fun r => by omega)]; exact h2
          · have hj' : j < tt.length + 1 := hj
            rw [gI_I]
            by_cases e : j = tt.length
            · rw [if_pos ⟨rfl, e⟩, e, lat_l, ecd_lo (by omega)]
            · rw [if_neg (fun r => e r.2), lat_c _ tt (by omega), h3 j (by omega), lat_c _ tt (by omega)]
          · rw [gI_I, if_neg (fun r => by omega)]; exact h4 j hj
        · exfalso
          have : stp b (c k) (false, dg, dp, cm, ro, sk) = none := by
            unfold stp
            simp only [Bool.false_eq_true, if_false]
            rw [if_neg (fun z => q z.2), if_neg (fun z => n41 z.1), s0, if_neg (fun z => absurd z.1 (by decide)), if_neg (fun z => absurd z.1 (by decide)), if_neg (fun z => absurd z.1 (by decide))]
          rw [this] at st
          exact absurd st (by simp)
      · have nd : ¬ (isDg (c k) = true ∧ dg < 3) := fun z => by rw [d] at z; exact absurd z.1 (by decide)
        have J : G3_become_J114 t 357 (qN n) (bI false) (qN k) (qN (c k)) ν K Q := by
          unfold G3_become_J114
          rw [x41, show qN k + 1 = qN (k + 1) from qN_add k 1]
          refine ⟨fun y => c_isJoin hx (fun j1 j2 => ⟨fun r3 => absurd r3 (by decide), fun _ => c_strength hx ?_⟩) (fun j => ?_), fun y => ?_⟩
          · have pl := pst_len (stg (c k)) sk ro
            refine c_xstronger (by omega) hX (by omega) (fun μ1 s1 x1 => ?_)
            refine c_xpush x1 hx (by omega) (fun μ2 s2 x2 => ?_)
            by_cases q3 : stg (c k) = 3 ∧ cm dp = false
            · refine go true dg dp (updB cm dp true) (pst 3 sk ro).2 (c k :: (pst 3 sk ro).1) μ2 ?_ (s1.tr s2) (by rw [q3.1] at x2; exact x2)
              unfold stp
              simp only [Bool.false_eq_true, if_false]
              rw [if_neg nd, if_neg (fun z => y z.1), if_pos q3]
            · by_cases q4 : 1 ≤ stg (c k) ∧ stg (c k) ≤ 2
              · refine go true dg dp (updB cm dp false) (pst (stg (c k)) sk ro).2 (c k :: (pst (stg (c k)) sk ro).1) μ2 ?_ (s1.tr s2) x2
                unfold stp
                simp only [Bool.false_eq_true, if_false]
                rw [if_neg nd, if_neg (fun z => y z.1), if_neg q3, if_pos q4]
              · by_cases q5 : 4 ≤ stg (c k) ∧ stg (c k) ≤ 5
                · refine go true dg dp cm (pst (stg (c k)) sk ro).2 (c k :: (pst (stg (c k)) sk ro).1) μ2 ?_ (s1.tr s2) x2
                  unfold stp
                  simp only [Bool.false_eq_true, if_false]
                  rw [if_neg nd, if_neg (fun z => y z.1), if_neg q3, if_neg q4, if_pos q5]
                · exfalso
                  have : stp b (c k) (false, dg, dp, cm, ro, sk) = none := by
                    unfold stp
                    simp only [Bool.false_eq_true, if_false]
                    rw [if_neg nd, if_neg (fun z => y z.1), if_neg q3, if_neg q4, if_neg q5]
                  rw [this] at st
                  exact absurd st (by simp)
          · exfalso
            have : stp b (c k) (false, dg, dp, cm, ro, sk) = none := by
              unfold stp
              simp only [Bool.false_eq_true, if_false]
              rw [if_neg nd, if_neg (fun z => y z.1), if_neg (fun z => j (by omega)), if_neg (fun z => j (by omega)), if_neg (fun z => j (by omega))]
            rw [this] at st
            exact absurd st (by simp)
          · have pl := pst_len 1 sk ro
            by_cases q : 0 < dp
            · refine c_xstronger (s := 1) (by decide) hX (by omega) (fun μ1 s1 x1 => ?_)
              have step : stp b (c k) (false, dg, dp, cm, ro, sk) = some (false, 3, dp - 1, cm, (pst 1 sk ro).2, (pst 1 sk ro).1.tail) := by
                unfold stp
                simp only [Bool.false_eq_true, if_false]
                rw [if_neg nd, if_pos ⟨y, q⟩]
              cases hk1 : (pst 1 sk ro).1 with
              | nil =>
                rw [hk1] at x1 step
                have z := x1.2.1
                have z0 : gI μ1 t 3 = 0 := z
                unfold G3_pop
                refine ⟨fun r3 => absurd z0 r3, fun _ => ?_⟩
                exact go _ _ _ _ _ _ μ1 step s1 x1
              | cons a S =>
                rw [hk1] at x1 step pl
                rw [List.length_cons] at pl
                refine c_xpop x1 (by omega) (fun μ2 s2 x2 => ?_)
                exact go _ _ _ _ _ _ μ2 step (s1.tr s2) x2
            · exfalso
              have s41 : stg 41 = 0 := rfl
              have : stp b (c k) (false, dg, dp, cm, ro, sk) = none := by
                unfold stp
                simp only [Bool.false_eq_true, if_false]
                rw [if_neg nd, if_neg (fun z => q z.2), y, s41, if_neg (fun z => absurd z.1 (by decide)), if_neg (fun z => absurd z.1 (by decide)), if_neg (fun z => absurd z.1 (by decide))]
              rw [this] at st
              exact absurd st (by simp)
        have dead : (c k = 40 ∨ c k = 33) → False := fun y => by
          have s0 : ¬ (1 ≤ stg (c k) ∧ stg (c k) ≤ 5) := by
            rcases y with y | y <;> rw [y] <;> decide
          have n41 : c k ≠ 41 := by omega
          have : stp b (c k) (false, dg, dp, cm, ro, sk) = none := by
            unfold stp
            simp only [Bool.false_eq_true, if_false]
            rw [if_neg nd, if_neg (fun z => n41 z.1), if_neg (fun z => s0 (by omega)), if_neg (fun z => s0 (by omega)), if_neg (fun z => s0 (by omega))]
          rw [this] at st
          exact absurd st (by simp)
        exact ⟨fun y => (dead (Or.inl y)).elim, fun y => ⟨fun y2 => ⟨fun _ => J, fun _ => ⟨fun _ => J, fun r3 => absurd rfl r3⟩⟩, fun y2 => (dead (Or.inr y2)).elim⟩⟩
