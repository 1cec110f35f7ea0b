/-! laws as texts: the model's things, signs ahead, the whole descent -/
theorem tk5 : ∀ i, i < jlx 5 → tix (si 5 i) = i := by decide
theorem tk6 : ∀ i, i < jlx 6 → tix (si 6 i) = if i = 10 then 13 else i := by decide
theorem th5 : ∀ i, i < 13 → si 5 i = thl i := by decide
theorem th6 : ∀ i, i < 10 → si 6 i = thl i := by decide
theorem tok_in {b : Bool} {x : Nat} (hx : x < 256) (h : tokB b x = true) : ∃ i, i < jlx (if b = true then 5 else 6) ∧ si (if b = true then 5 else 6) i = x := by
  have e : thl (tix x) = x := by
    rcases tix_c hx with ⟨_, q2⟩ | q2
    · exact q2
    · have := (tok_ne hx h).1; omega
  unfold tokB at h
  rw [Bool.or_eq_true, Bool.or_eq_true, Bool.and_eq_true, Bool.and_eq_true, decide_eq_true_eq, decide_eq_true_eq, decide_eq_true_eq] at h
  cases b with
  | true =>
    have l : tix x < 13 := by
      rcases h with (h | h) | h
      · omega
      · exact h.2
      · exact absurd h.1 (by decide)
    refine ⟨tix x, l, ?_⟩
    show si 5 (tix x) = x
    rw [th5 _ l, e]
  | false =>
    rcases h with (h | h) | h
    · refine ⟨tix x, by show tix x < 11; omega, ?_⟩
      show si 6 (tix x) = x
      rw [th6 _ h, e]
    · exact absurd h.1 (by decide)
    · refine ⟨10, by show 10 < 11; decide, ?_⟩
      show si 6 10 = x
      rw [← e, h.2]
      rfl
theorem okm_t {b : Bool} {x h : Nat} (ht : tokB b x = true) (hh : h < 40) : okm b (1000 + tix x) h ∧ hgs (1000 + tix x) h = h + 1 := by
  unfold tokB at ht
  rw [Bool.or_eq_true, Bool.or_eq_true, Bool.and_eq_true, Bool.and_eq_true, decide_eq_true_eq, decide_eq_true_eq, decide_eq_true_eq] at ht
  have t99 : tix x < 2000 - 1000 := by omega
  refine ⟨?_, if_pos (by omega)⟩
  rcases ht with (ht | ht) | ht
  · exact Or.inr (Or.inl ⟨by omega, by omega, hh⟩)
  · by_cases q : tix x < 10
    · exact Or.inr (Or.inl ⟨by omega, by omega, hh⟩)
    · exact Or.inr (Or.inr (Or.inl ⟨ht.1, by omega, by omega, hh⟩))
  · refine Or.inr (Or.inr (Or.inr (Or.inl ⟨?_, by omega, hh⟩)))
    cases b with
    | true => exact absurd ht.1 (by decide)
    | false => rfl
theorem m_thing {b : Bool} {c : Nat → Nat} {m n : Nat} {μ0 : MM} (hm : m ≤ 40) (hc : ∀ i, i < 60 → c i < 256) {rAh rTh : MM → (Int32 → MM → Prop) → Prop} {rRa : Int32 → MM → (Int32 → MM → Prop) → Prop} (hR : HR b c m μ0 n rRa) : HT b c m μ0 (n + 1) (G12_thing rAh rRa rTh) := by
  intro p ν dg dp cm ro sk hp hf hne hs hM hok Q hy hn
  have lenp := mst_len p _ hs
  simp only at lenp
  obtain ⟨dp5, _, _⟩ := mst_inv p _ hs
  simp only at dp5
  obtain ⟨g1, g2, g3, g4, g5, g6, g7, g8⟩ := id hM
  have hro : hl ro ≤ ro.length := hl_le ro
  unfold G12_thing
  refine m_isDg (by omega) hp g1 g2 g7 hc (fun lp hd => ⟨fun z => absurd z (by decide), fun _ => ?_⟩) (fun hd => ⟨fun _ => ?_, fun z => absurd rfl z⟩)
  · -- digits
    refine Lp.up 3 (fun i (x : Int32 × Int32 × MM) => ∃ v, x.1 = qN v ∧ x.2.1 = qN i ∧ v < 10 ^ i ∧ MPs b c m μ0 x.2.2 (p + i) dp ro ∧ p + i ≤ m ∧ (i = 0 → v = 0) ∧ (0 < i → mst b c (p + i) = some (false, i, dp, cm, v :: ro, sk))) ?_ ⟨0, rfl, rfl, by decide, hM, by omega, fun _ => rfl, fun z => absurd z (by omega)⟩
    rintro i K hi hK ⟨x1, x2, ω⟩ ⟨v, e1, e2, hv, hMw, hpm, hv0, hms⟩
    simp only at e1 e2 hMw
    subst e1 e2
    have v1000 : v < 1000 := by
      rcases (show i = 0 ∨ i = 1 ∨ i = 2 ∨ i = 3 by omega) with rfl | rfl | rfl | rfl <;> omega
    have c3 : (3 : Int32) ≤ qN i ↔ 3 ≤ i := qN_le (a := 3) (by decide) (by omega)
    have fin9 : 0 < i → (p + i < m → isDg (c (p + i)) = true → 3 ≤ i) → G12_thing_J57 rAh rRa rTh (qN v) ω Q := fun z1 z2 => by
      unfold G12_thing_J57
      refine m_pmarks hMw (by omega) (fun ω2 hM2 => ?_)
      refine hy (p + i) (v :: ro) ω2 (by omega) ⟨i, cm, v :: ro, [], hms z1, hpm, rfl, fun t ht => absurd ht (by simp), fun _ _ => rfl, fun _ => rfl, ?_, ⟨Or.inl ⟨v1000, by omega⟩, hok⟩, fun z => ⟨fun y => z2 z y, fun y => by omega, fun y => absurd y (by decide)⟩⟩ hM2
      show hgs v (hl ro) = _
      exact if_pos (by omega)
    unfold G12_thing_L11
    simp only [c3]
    refine ⟨fun r => fin9 (by omega) (fun _ _ => r), fun r => ?_⟩
    obtain ⟨w1, w2, w3, w4, w5, w6, w7, w8⟩ := id hMw
    refine m_isDg (by omega) hpm w1 w2 w7 hc (fun lq hd2 => ⟨fun z => absurd z (by decide), fun _ => ?_⟩) (fun hd2 => ⟨fun _ => ?_, fun z => absurd rfl z⟩)
    · obtain ⟨_, n41, n40, d9, d48⟩ := dg_0 hd2
      rw [w1, qN_vp (by omega), qN_nat (by omega), w7 _ (by omega), show (10 : Int32) * qN v = qN (10 * v) from qN_mul 10 v, qN_add, show qN (10 * v + c (p + i)) - 48 = qN (10 * v + c (p + i) - 48) from qN_sub (b := 48) (by omega), Bd_eq, show qN (p + i) + 1 = qN (p + i + 1) from qN_add _ 1, Bd_eq, show qN i + 1 = qN (i + 1) from qN_add i 1]
      refine ⟨by omega, hK (by omega) _ ⟨10 * v + c (p + i) - 48, rfl, rfl, ?_, hMw.at' (p + i + 1), by omega, fun z => absurd z (by omega), fun _ => ?_⟩⟩
      · rw [Nat.pow_succ]; omega
      · have sx : stp b (c (p + i)) (true, dg, dp, cm, ro, sk) = some (false, 1, dp, cm, (c (p + i) - 48) :: ro, sk) := by
          unfold stp
          simp only [if_true]
          rw [if_neg (fun z => n40 z.1), if_pos hd2]
        have sy : stp b (c (p + i)) (false, i, dp, cm, v :: ro, sk) = some (false, i + 1, dp, cm, (v * 10 + (c (p + i) - 48)) :: ro, sk) := by
          unfold stp
          simp only [Bool.false_eq_true, if_false]
          rw [if_pos ⟨hd2, by omega⟩]
          rfl
        by_cases e : i = 0
        · subst e
          have v0 := hv0 rfl
          subst v0
          rw [show 10 * 0 + c (p + 0) - 48 = c (p + 0) - 48 by omega]
          exact (mst_s hs).trans sx
        · rw [show 10 * v + c (p + i) - 48 = v * 10 + (c (p + i) - 48) by omega]
          exact (mst_s (hms (by omega))).trans sy
    · by_cases e : i = 0
      · subst e
        exact absurd ⟨lp, hd⟩ hd2
      · exact fin9 (by omega) (fun z1 z2 => absurd ⟨z1, z2⟩ hd2)
  · -- a thing, or one that opens
    have J : G12_thing_J79 rAh rRa rTh (if b = true then 5 else 6) ν Q := by
      have a56 : 4 ≤ (if b = true then 5 else 6) ∧ (if b = true then 5 else 6) < 14 := by split <;> omega
      unfold G12_thing_J79
      refine m_among a56.1 a56.2 (by omega) hp g1 g2 g7 hc (fun i hi lp hsi => ⟨fun z => absurd ((qN_neg (by have := js_lo _ a56.2 a56.1; omega)).mp z) id, fun _ => ?_⟩) (fun hno => ⟨fun _ => ?_, fun z => absurd (show (-1 : Int32) < 0 by decide) z⟩)
      · have hx := hc p (by omega)
        have nd : ¬ isDg (c p) = true := fun z => hd ⟨lp, z⟩
        have tk : tokB b (c p) = true ∧ (if b = true then i else if i = 10 then 13 else i) = tix (c p) := by
          cases b with
          | true =>
            have hi' : i < jlx 5 := hi
            have hsi' : si 5 i = c p := hsi
            have t := tk5 i hi'
            rw [hsi'] at t
            have i13 : i < 13 := hi'
            refine ⟨?_, t.symm⟩
            unfold tokB
            rw [t, decide_eq_true i13, Bool.true_and, Bool.or_true, Bool.true_or]
          | false =>
            have hi' : i < jlx 6 := hi
            have hsi' : si 6 i = c p := hsi
            have t := tk6 i hi'
            rw [hsi'] at t
            have i11 : i < 11 := hi'
            refine ⟨?_, t.symm⟩
            unfold tokB
            rw [t]
            by_cases e : i = 10
            · rw [if_pos e]; rfl
            · rw [if_neg e, decide_eq_true (show i < 10 by omega), Bool.true_or, Bool.true_or]
        obtain ⟨t14, s0, _, n40, _, _, _⟩ := tok_ne hx tk.1
        have step : mst b c (p + 1) = some (false, 3, dp, cm, (1000 + tix (c p)) :: ro, sk) := by
          rw [mst_s hs]
          unfold stp
          simp only [if_true]
          rw [if_neg (fun z => n40 z.1), if_neg nd, if_pos tk.1]
        have fin9 : ∀ q : Int32, q = qN (tix (c p)) → G12_thing_J110 rAh rRa rTh q 1000 ν Q := fun q eq => by
          subst eq
          unfold G12_thing_J110
          rw [show (1000 : Int32) + qN (tix (c p)) = qN (1000 + tix (c p)) from qN_add 1000 _]
          refine m_pmarks hM (by omega) (fun ω2 hM2 => ?_)
          rw [hM2.1, show qN p + 1 = qN (p + 1) from qN_add p 1, Bd_eq]
          obtain ⟨o1, o2⟩ := okm_t tk.1 (show hl ro < 40 by omega)
          refine hy (p + 1) ((1000 + tix (c p)) :: ro) _ (by omega) ⟨3, cm, (1000 + tix (c p)) :: ro, [], step, by omega, rfl, fun t ht => absurd ht (by simp), fun _ _ => rfl, fun _ => rfl, o2, ⟨o1, hok⟩, fun z => ⟨fun _ => Nat.le_refl _, fun y => by omega, fun y => absurd y (by decide)⟩⟩ (hM2.at' (p + 1))
        have i14 := js_lo _ a56.2 a56.1
        have c10 : qN i = 10 ↔ i = 10 := qN_eq (b := 10) (by omega) (by decide)
        rw [g4, c10]
        cases b with
        | true =>
          refine ⟨fun _ => fin9 _ ?_, fun z => absurd z (by decide)⟩
          rw [← tk.2]; rfl
        | false =>
          refine ⟨fun z => absurd rfl z, fun _ => ⟨fun z => fin9 _ ?_, fun z => fin9 13 ?_⟩⟩
          · rw [← tk.2, if_neg (by decide), if_neg z]
          · rw [← tk.2, if_neg (by decide), if_pos z]; rfl
      · -- one that opens
        have nothing : (p < m → c p ≠ 40 ∨ ¬ dp < 5) → badR b c m p := fun z => by
          refine ⟨_, hs, ?_⟩
          rcases Nat.lt_or_ge p m with lp | lp
          · refine Or.inl ⟨lp, ?_⟩
            have nd : ¬ isDg (c p) = true := fun y => hd ⟨lp, y⟩
            have nt : ¬ tokB b (c p) = true := fun y => by
              obtain ⟨i, i1, i2⟩ := tok_in (hc p (by omega)) y
              rcases hno with h | h
              · omega
              · exact h i i1 i2
            obtain ⟨n33, n45⟩ := hne lp
            unfold stp
            simp only [if_true]
            rw [if_neg (fun y => by rcases z lp with w | w; exact w y.1; exact w y.2), if_neg nd, if_neg nt, if_neg n33, if_neg n45]
          · exact Or.inr ⟨by omega, Or.inl rfl⟩
        refine m_among (a := 7) (by decide) (by decide) (by omega) hp g1 g2 g7 hc (fun i hi lp hsi => ⟨fun z => absurd ((qN_neg (by have := js_lo 7 (by decide) (by decide); omega)).mp z) id, fun _ => ?_⟩) (fun hno7 => ⟨fun _ => hn p ν (nothing (fun lp => Or.inl (fun e => ?_))) g1 g8, fun z => absurd (show (-1 : Int32) < 0 by decide) z⟩)
        · have i0 : i = 0 := by have : i < 1 := hi; omega
          subst i0
          have c40 : c p = 40 := hsi.symm
          have c5 : qN dp = 5 ↔ dp = 5 := qN_eq (b := 5) (by omega) (by decide)
          rw [g3, c5]
          refine ⟨fun nd5 => ?_, fun d5 => hn p ν (nothing (fun _ => Or.inr (by omega))) g1 g8⟩
          have hdp : dp < 5 := by omega
          have step : mst b c (p + 1) = some (true, dg, dp + 1, updB cm (dp + 1) false, ro, 40 :: sk) := by
            rw [mst_s hs]
            unfold stp
            simp only [if_true]
            rw [if_pos ⟨c40, hdp⟩]
          rw [g1, show qN p + 1 = qN (p + 1) from qN_add p 1, Bd_eq]
          have e31 : gI (sI ν 358 29 (qN (p + 1))) 358 31 = qN dp := (hM.at' (p + 1)).2.2.1
          rw [e31, show qN dp + 1 = qN (dp + 1) from qN_add dp 1, Bd_eq]
          have hM2 := (hM.at' (p + 1)).op' (dp + 1)
          refine hR 0 (p + 1) _ dg (dp + 1) _ ro (40 :: sk) (by decide) (by omega) (by omega) step hM2 hok (fun _ => by unfold updB; rw [if_pos rfl]) (fun _ t T e => by
            have : t = 40 := (List.cons.inj e).1.symm
            rw [this]; decide) _ (fun q L ν' hpq ho hMq => ⟨fun z => absurd z (by decide), fun _ => ?_⟩) (fun q ν' h1 h2 h3 => ⟨fun _ => hn q ν' h1 h2 h3, fun z => absurd rfl z⟩)
          obtain ⟨dg2, cm2, ro2, Pn2, y1, y2, y3, y4, y5, y6, y7, y8, y9⟩ := ho
          obtain ⟨w1, w2, w3, w4, w5, w6, w7, w8⟩ := id hMq
          refine m_among (a := 8) (by decide) (by decide) (by omega) y2 w1 w2 w7 hc (fun i hi lq hsi => ⟨fun _ => ?_, fun z => absurd ((qN_nn (by have := js_lo 8 (by decide) (by decide); omega)).mpr trivial) z⟩) (fun hno8 => ⟨fun z => absurd z (by decide), fun _ => ?_⟩)
          · have i0 : i = 0 := by have : i < 1 := hi; omega
            subst i0
            have c41 : c q = 41 := hsi.symm
            have nd41 : ¬ (isDg (c q) = true ∧ dg2 < 3) := fun z => by rw [c41] at z; exact absurd z.1 (by decide)
            have s40 : stg 40 = 0 := rfl
            have pf := pst_fin (s := 1) (S := 40 :: sk) (fun t T e => by
              have : t = 40 := (List.cons.inj e).1.symm
              rw [this]; decide) Pn2 ro2 (fun t ht => by have := y4 t ht; omega)
            have step2 : mst b c (q + 1) = some (false, 3, dp, cm2, fin Pn2 ro2, sk) := by
              rw [mst_s y1]
              unfold stp
              simp only [Bool.false_eq_true, if_false]
              rw [if_neg nd41, if_pos ⟨c41, by omega⟩, pf]
              rfl
            rw [w1, show qN q + 1 = qN (q + 1) from qN_add q 1, Bd_eq]
            have f31 : gI (sI ν' 358 29 (qN (q + 1))) 358 31 = qN (dp + 1) := (hMq.at' (q + 1)).2.2.1
            rw [f31, show qN (dp + 1) - 1 = qN dp from qN_sub (a := dp + 1) (b := 1) (by omega), Bd_eq]
            refine hy (q + 1) L _ (by omega) ⟨3, cm2, fin Pn2 ro2, [], step2, by omega, by rw [y3]; rfl, fun t ht => absurd ht (by simp), fun d hd9 => ?_, fun _ => ?_, y7, y8, fun z => ⟨fun _ => Nat.le_refl _, fun y => by omega, fun y => absurd y (by decide)⟩⟩ ((hMq.at' (q + 1)).op' dp)
            · rw [y5 d (by omega)]
              unfold updB
              rw [if_neg (by omega)]
            · rw [y5 dp (by omega)]
              unfold updB
              rw [if_neg (by omega)]
          · refine hn q ν' ⟨_, y1, ?_⟩ w1 w8
            rcases Nat.lt_or_ge q m with lq | lq
            · refine Or.inl ⟨lq, ?_⟩
              obtain ⟨a1, a2, a3⟩ := y9 lq
              have n41 : c q ≠ 41 := fun e => by
                rcases hno8 with h | h
                · omega
                · exact h 0 (by decide) e.symm
              have s6 := stg_6 (c q)
              unfold stp
              simp only [Bool.false_eq_true, if_false]
              rw [if_neg (fun z => by have := a1 z.1; omega), if_neg (fun z => n41 z.1), if_neg (fun z => by rw [a3 (by decide) z.1] at z; exact absurd z.2 (by decide)), if_neg (fun z => a2 ⟨by omega, by omega, by omega⟩), if_neg (fun z => a2 ⟨by omega, by omega, by omega⟩)]
            · exact Or.inr ⟨by omega, Or.inr (by show 0 < dp + 1; omega)⟩
        · rcases hno7 with h | h
          · omega
          · exact h 0 (by decide) e.symm
    rw [g4]
    cases b with
    | true => exact ⟨fun z => absurd z (by decide), fun _ => J⟩
    | false => exact ⟨fun _ => J, fun z => absurd rfl z⟩
theorem m_ahead {b : Bool} {c : Nat → Nat} {m n : Nat} {μ0 : MM} (hm : m ≤ 40) (hc : ∀ i, i < 60 → c i < 256) {rAh rTh : MM → (Int32 → MM → Prop) → Prop} {rRa : Int32 → MM → (Int32 → MM → Prop) → Prop} (hA : HA b c m μ0 n rAh) (hT : HT b c m μ0 n rTh) : HA b c m μ0 (n + 1) (G12_ahead rAh rRa rTh) := by
  intro p ν dg dp cm ro sk hp hf hs hM hok Q hy hn
  obtain ⟨g1, g2, g3, g4, g5, g6, g7, g8⟩ := id hM
  unfold G12_ahead
  refine m_among (a := 4) (by decide) (by decide) (by omega) hp g1 g2 g7 hc (fun i hi lp hsi => ⟨fun _ => ?_, fun z => absurd ((qN_nn (by have := js_lo 4 (by decide) (by decide); omega)).mpr trivial) z⟩) (fun hno => ⟨fun z => absurd z (by decide), fun _ => ?_⟩)
  · have i2 : i < 2 := hi
    have cx : (i = 0 ∧ c p = 33) ∨ (i = 1 ∧ c p = 45) := by
      rcases (show i = 0 ∨ i = 1 by omega) with rfl | rfl
      · exact Or.inl ⟨rfl, hsi.symm⟩
      · exact Or.inr ⟨rfl, hsi.symm⟩
    have t33 : tokB b 33 = false := by cases b <;> rfl
    have t45 : tokB b 45 = false := by cases b <;> rfl
    have step : mst b c (p + 1) = some (true, dg, dp, cm, ro, (if i = 0 then 33 else 126) :: sk) := by
      rw [mst_s hs]
      unfold stp
      simp only [if_true]
      rcases cx with ⟨rfl, e⟩ | ⟨rfl, e⟩
      · rw [e, t33]; rfl
      · rw [e, t45]; rfl
    have u6 : 6 ≤ stg (if i = 0 then 33 else 126) := by split <;> decide
    have uu : (if i = 0 then 33 else 126) = 33 ∨ (if i = 0 then 33 else 126) = 126 := by
      by_cases e : i = 0
      · exact Or.inl (if_pos e)
      · exact Or.inr (if_neg e)
    rw [g1, show qN p + 1 = qN (p + 1) from qN_add p 1, Bd_eq]
    refine hA (p + 1) _ dg dp cm ro _ (by omega) (by omega) step (hM.at' (p + 1)) hok _ (fun q L ν' hpq ho hMq => ⟨fun z => absurd z (by decide), fun _ => ?_⟩) (fun q ν' h1 h2 h3 => ⟨fun _ => ⟨bo_0, hn q ν' h1 h2 h3⟩, fun z => absurd rfl z⟩)
    obtain ⟨dg2, cm2, ro2, Pn2, y1, y2, y3, y4, y5, y6, y7, y8, y9⟩ := ho
    have lenq := mst_len q _ y1
    simp only [List.length_append, List.length_cons] at lenq
    have lf := fin_len Pn2 ro2
    have fin9 : G12_ahead_J50 rAh rRa rTh 1 (qN (if i = 0 then 33 else 126)) 2000 ν' Q := by
      unfold G12_ahead_J50
      rw [show (2000 : Int32) + qN (if i = 0 then 33 else 126) = qN (2000 + (if i = 0 then 33 else 126)) from qN_add 2000 _]
      refine m_pmarks hMq (by rw [y3, lf]; omega) (fun ω2 hM2 => ⟨bo_1, ?_⟩)
      obtain ⟨o1, o2⟩ := okm_u (b := b) uu (show 1 ≤ hl L by omega)
      refine hy q ((2000 + (if i = 0 then 33 else 126)) :: L) ω2 (by omega) ⟨dg2, cm2, ro2, Pn2 ++ [(if i = 0 then 33 else 126)], ?_, y2, ?_, fun t ht => ?_, y5, y6, ?_, ⟨o1, y8⟩, y9⟩ hM2
      · rw [y1, List.append_assoc]; rfl
      · rw [fin_app, ← y3]
      · rcases List.mem_append.mp ht with z | z
        · exact y4 t z
        · rw [List.mem_singleton.mp z]; exact u6
      · show hgs (2000 + (if i = 0 then 33 else 126)) (hl L) = hl ro + 1
        rw [o2]
        exact y7
    rcases cx with ⟨rfl, _⟩ | ⟨rfl, _⟩
    · exact ⟨fun z => absurd rfl z, fun _ => fin9⟩
    · exact ⟨fun _ => fin9, fun z => absurd z (by decide)⟩
  · refine hT p ν dg dp cm ro sk hp (by omega) (fun lp => ?_) hs hM hok _ (fun q L ν' hpq ho hMq => ⟨bo_1, hy q L ν' hpq ho hMq⟩) (fun q ν' h1 h2 h3 => ⟨bo_0, hn q ν' h1 h2 h3⟩)
    rcases hno with h | h
    · omega
    · exact ⟨fun e => h 0 (by decide) e.symm, fun e => h 1 (by decide) e.symm⟩
theorem m_ranked {b : Bool} {c : Nat → Nat} {m n : Nat} {μ0 : MM} (hm : m ≤ 40) (hc : ∀ i, i < 60 → c i < 256) {rAh rTh : MM → (Int32 → MM → Prop) → Prop} {rRa : Int32 → MM → (Int32 → MM → Prop) → Prop} (hR : HR b c m μ0 n rRa) (hA : HA b c m μ0 n rAh) : HR b c m μ0 (n + 1) (G12_ranked rAh rRa rTh) := by
  intro r p ν dg dp cm ro sk hr hp hf hs hM hok hcm hS Q hy hn
  by_cases r5 : r = 5
  · subst r5
    refine ⟨fun z => absurd rfl z, fun _ => ?_⟩
    exact hA p ν dg dp cm ro sk hp (by omega) hs hM hok _ (fun q L ν' hpq ho hMq => ⟨bo_1, hy q L ν' hpq ho hMq⟩) (fun q ν' h1 h2 h3 => ⟨bo_0, hn q ν' h1 h2 h3⟩)
  · have J := m_rank (rAh := rAh) (rTh := rTh) hm hc hR (r := r) (by omega) hp hf hs hM hok hcm (hS (by omega)) Q hy hn
    rcases (show r = 0 ∨ r = 1 ∨ r = 2 ∨ r = 3 ∨ r = 4 by omega) with rfl | rfl | rfl | rfl | rfl
    · exact ⟨fun _ => ⟨fun z => absurd rfl z, fun _ => J⟩, fun z => absurd z (by decide)⟩
    · exact ⟨fun _ => ⟨fun _ => ⟨fun z => absurd rfl z, fun _ => J⟩, fun z => absurd z (by decide)⟩, fun z => absurd z (by decide)⟩
    · exact ⟨fun _ => ⟨fun _ => ⟨fun _ => ⟨fun z => absurd rfl z, fun _ => J⟩, fun z => absurd z (by decide)⟩, fun z => absurd z (by decide)⟩, fun z => absurd z (by decide)⟩
    · exact ⟨fun _ => ⟨fun _ => ⟨fun _ => ⟨fun _ => ⟨fun z => absurd rfl z, fun _ => J⟩, fun z => absurd z (by decide)⟩, fun z => absurd z (by decide)⟩, fun z => absurd z (by decide)⟩, fun z => absurd z (by decide)⟩
    · exact ⟨fun _ => ⟨fun _ => ⟨fun _ => ⟨fun _ => ⟨fun _ => J, fun z => absurd z (by decide)⟩, fun z => absurd z (by decide)⟩, fun z => absurd z (by decide)⟩, fun z => absurd z (by decide)⟩, fun z => absurd z (by decide)⟩
theorem m_tie {b : Bool} {c : Nat → Nat} {m : Nat} {μ0 : MM} (hm : m ≤ 40) (hc : ∀ i, i < 60 → c i < 256) : ∀ n, HR b c m μ0 n (G12_tie n).1 ∧ HA b c m μ0 n (G12_tie n).2.1 ∧ HT b c m μ0 n (G12_tie n).2.2
  | 0 => by
    refine ⟨fun r p ν dg dp cm ro sk hr hp hf => ?_, fun p ν dg dp cm ro sk hp hf => ?_, fun p ν dg dp cm ro sk hp hf => ?_⟩
    · omega
    · omega
    · omega
  | n + 1 => by
    obtain ⟨h1, h2, h3⟩ := m_tie (b := b) (c := c) (m := m) (μ0 := μ0) hm hc n
    exact ⟨m_ranked hm hc h1 h2, m_ahead hm hc h2 h3, m_thing hm hc h1⟩
