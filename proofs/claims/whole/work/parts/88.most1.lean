/-! most -/
def mf (A : Nat → Nat → Nat) (h : Nat) : Nat := tr A (sH A h) 0 (A 358 12) - tr A (sH A h) 1 (A 358 12)
theorem mf_le {A X : Nat → Nat → Nat} (hV : Inv A X) (h : Nat) : mf A h ≤ 4 := by
  have t0 : tr A (sH A h) 0 (A 358 12) ≤ cnt (fun i => decide (A 367 i = h)) (A 358 12) := cnt_mono (fun i q => (Bool.and_eq_true_iff.mp (Bool.and_eq_true_iff.mp (Bool.and_eq_true_iff.mp q).1).1).1) _
  have := hV.2.2.2.2.2.2.2.2 h
  unfold mf
  omega
/-- the first of the greatest -/
def am (g : Nat → Nat) : Nat → Nat
  | 0 => 0
  | n + 1 => if g (am g n) < g (n + 1) then n + 1 else am g n
theorem am_le (g : Nat → Nat) : ∀ n, am g n ≤ n
  | 0 => Nat.le_refl _
  | n + 1 => by
    have := am_le g n
    show (if g (am g n) < g (n + 1) then n + 1 else am g n) ≤ n + 1
    split <;> omega
theorem am_ge (g : Nat → Nat) : ∀ n h, h ≤ n → g h ≤ g (am g n)
  | 0, h, q => by
    have : h = 0 := by omega
    subst this
    exact Nat.le_refl _
  | n + 1, h, q => by
    have ih := am_ge g n
    show g h ≤ g (if g (am g n) < g (n + 1) then n + 1 else am g n)
    by_cases s : g (am g n) < g (n + 1)
    · rw [if_pos s]
      rcases Nat.lt_or_ge h (n + 1) with r | r
      · have := ih h (by omega); omega
      · have : h = n + 1 := by omega
        rw [this]
        exact Nat.le_refl _
    · rw [if_neg s]
      rcases Nat.lt_or_ge h (n + 1) with r | r
      · exact ih h (by omega)
      · have : h = n + 1 := by omega
        rw [this]; omega
theorem am_u {g : Nat → Nat} : ∀ {n i : Nat}, i ≤ n → (∀ h, h ≤ n → g h ≤ g i) → (∀ h, h < i → g h < g i) → am g n = i
  | 0, i, q, _, _ => by
    have : i = 0 := by omega
    subst this; rfl
  | n + 1, i, q, h1, h2 => by
    show (if g (am g n) < g (n + 1) then n + 1 else am g n) = i
    rcases Nat.lt_or_ge i (n + 1) with r | r
    · rw [am_u (show i ≤ n by omega) (fun h hh => h1 h (by omega)) h2, if_neg (Nat.not_lt.mpr (h1 (n + 1) (Nat.le_refl _)))]
    · have e : i = n + 1 := by omega
      subst e
      rw [if_pos (h2 _ (by have := am_le g n; omega))]
def ga (f : Nat → Nat) (H : Nat) : Nat → Nat → Nat
  | 0 => f
  | t + 1 => fun h => if h = am (ga f H t) (H - 1) then 0 else ga f H t h
theorem sm_upd (g : Nat → Nat) (a : Nat) : ∀ n, sm (fun h => if h = a then 0 else g h) n + (if a < n then g a else 0) = sm g n
  | 0 => rfl
  | n + 1 => by
    have ih := sm_upd g a n
    show sm (fun h => if h = a then 0 else g h) n + (if n = a then 0 else g n) + _ = sm g n + g n
    by_cases q : n = a
    · subst q
      rw [if_neg (Nat.lt_irrefl n)] at ih
      rw [if_pos rfl, if_pos (Nat.lt_succ_self n)]
      omega
    · rw [if_neg q]
      by_cases s : a < n
      · rw [if_pos s] at ih
        rw [if_pos (by omega)]
        omega
      · rw [if_neg s] at ih
        rw [if_neg (by omega)]
        omega
theorem sm_0 {g : Nat → Nat} : ∀ n, (∀ h, h < n → g h = 0) → sm g n = 0
  | 0, _ => rfl
  | n + 1, q => by
    show sm g n + g n = 0
    rw [sm_0 n (fun h hh => q h (by omega)), q n (by omega)]
def lf (f : Nat → Nat) (H t : Nat) : Nat := sm (ga f H t) H
def Mt (f : Nat → Nat) (H t : Nat) : Prop := ∀ t', t' < t → sm f H < 2 * lf f H t'
theorem lf_s {f : Nat → Nat} {H t : Nat} (h0 : 0 < H) : lf f H (t + 1) + ga f H t (am (ga f H t) (H - 1)) = lf f H t := by
  have := sm_upd (ga f H t) (am (ga f H t) (H - 1)) H
  rw [if_pos (by have := am_le (ga f H t) (H - 1); omega)] at this
  exact this
theorem lf_p {f : Nat → Nat} {H t : Nat} (h0 : 0 < lf f H t) : 0 < H ∧ 0 < ga f H t (am (ga f H t) (H - 1)) := by
  have hh : 0 < H := by
    rcases Nat.eq_zero_or_pos H with q | q
    · subst q; exact absurd h0 (Nat.lt_irrefl 0)
    · exact q
  refine ⟨hh, ?_⟩
  rcases Nat.eq_zero_or_pos (ga f H t (am (ga f H t) (H - 1))) with q | q
  · have : lf f H t = 0 := sm_0 H (fun h hh => by have := am_ge (ga f H t) (H - 1) h (by omega); omega)
    omega
  · exact q
theorem Mt_s {f : Nat → Nat} {H t : Nat} (h : Mt f H t) (q : sm f H < 2 * lf f H t) : Mt f H (t + 1) := fun t' ht => by
  rcases Nat.lt_or_ge t' t with r | r
  · exact h t' r
  · have : t' = t := by omega
    rw [this]; exact q
theorem Mt_u {f : Nat → Nat} {H t t' : Nat} (h : Mt f H t) (q : 2 * lf f H t ≤ sm f H) (h' : Mt f H t') (q' : 2 * lf f H t' ≤ sm f H) : t = t' := by
  rcases Nat.lt_trichotomy t t' with r | r | r
  · have := h' t r; omega
  · exact r
  · have := h t' r; omega
theorem sm_mf {A X : Nat → Nat → Nat} (hV : Inv A X) : ∀ n, sm (mf A) n ≤ n * 4 := sm_le (mf_le hV)
def mhv (A : Nat → Nat → Nat) (n : Nat) : Nat := cnt (fun h => decide (0 < mf A h)) n
def mW (A : Nat → Nat → Nat) : List Int64 := ([] ++ [(qN (mhv A (A 358 8))).toInt64]) ++ [(qN (sm (mf A) (A 358 8))).toInt64]
theorem m1_sub {v : Nat} (h : 0 < v) : qN v + (-1) = qN (v - 1) := by
  show qN v + -qN 1 = _
  rw [← Int32.sub_eq_add_neg, qN_sub (by omega)]
theorem c_most2 {A X : Nat → Nat → Nat} {W : List Int64} {μ ν : MM} {Q : Int32 → MM → Prop} (hV : Inv A X) (h : Cs A X W ν) (f0 : FC μ ν) (hg : ∀ j, j < A 358 8 → gI ν 197 j = qN (mf A j))
    (hQ : ∀ t, t ≤ 96 → Mt (mf A) (A 358 8) t → 2 * lf (mf A) (A 358 8) t ≤ sm (mf A) (A 358 8) → ∀ μ', Cs A X (mW A) μ' → FC μ μ' → Q (qN t) μ') : Lp (G4_tellMost_L64 (qN (mhv A (A 358 8))) (qN (sm (mf A) (A 358 8))) Q) (0, qN (sm (mf A) (A 358 8)), 4, ν) := by
  have hH : A 358 8 < 25 := hV.b 358 8 (by unfold dom; decide)
  have hS := sm_mf hV (A 358 8)
  have e8 := Ca_s8 h.1
  unfold mW at hQ
  generalize mhv A (A 358 8) = hv at *
  generalize hf : mf A = f at *
  generalize A 358 8 = H at *
  have l0 : lf f H 0 = sm f H := rfl
  generalize hs : sm f H = S at *
  have f4 : ∀ h, f h ≤ 4 := fun h => by rw [← hf]; exact mf_le hV h
  refine Lp.up 4 (fun k (x : Int32 × Int32 × Int32 × MM) => ∃ t, x = (qN t, qN (lf f H t), qN (4 - k), ν) ∧ Mt f H t ∧ t + lf f H t ≤ S ∧ (2 * lf f H t ≤ S ∨ ∀ h, h < H → ga f H t h = if 4 - k < f h then 0 else f h)) ?_ ⟨0, by rw [l0]; rfl, fun _ q => absurd q (by omega), by omega, Or.inr (fun h _ => by rw [if_neg (by have := f4 h; omega)]; rfl)⟩
  rintro k K hk hK _ ⟨t, rfl, hM, hb, hp⟩
  rcases Nat.lt_or_ge k 4 with hl | hl
  · have hk2 := hK hl
    refine ⟨fun q => ?_, fun _ => ?_⟩
    · have : (qN (4 - k) ≤ 0) ↔ 4 - k ≤ 0 := qN_le (b := 0) (by omega) (by decide)
      have := this.mp q
      omega
    have hv1 : 1 ≤ 4 - k := by omega
    have ek : 4 - (k + 1) = (4 - k) - 1 := by omega
    rw [ek] at hk2
    generalize 4 - k = v at *
    refine Lp.up H (fun i (x : Int32 × Int32 × Int32 × MM) => ∃ t, x = (qN t, qN (lf f H t), qN i, ν) ∧ Mt f H t ∧ t + lf f H t ≤ S ∧ (2 * lf f H t ≤ S ∨ ∀ h, h < H → ga f H t h = if v < f h ∨ (f h = v ∧ h < i) then 0 else f h)) ?_ ⟨t, rfl, hM, hb, hp.imp id (fun q h hh => by
      rw [q h hh]
      by_cases r : v < f h
      · rw [if_pos r, if_pos (Or.inl r)]
      · rw [if_neg r, if_neg (by omega)])⟩
    rintro i K2 hi hK2 _ ⟨t, rfl, hM, hb, hp⟩
    have out : (2 * lf f H t ≤ S ∨ ∀ h, h < H → ga f H t h = if v - 1 < f h then 0 else f h) → K (qN t, qN (lf f H t), qN v + (-1), ν) := fun q => by
      rw [m1_sub hv1]
      exact hk2 _ ⟨t, rfl, hM, hb, q⟩
    have c2 : (qN (lf f H t) * 2 ≤ qN S) ↔ lf f H t * 2 ≤ S := by
      rw [show (2 : Int32) = qN 2 from rfl, qN_mul]
      exact qN_le (by omega) (by omega)
    have c1 : gI ν 1 8 ≤ qN i ↔ H ≤ i := by
      rw [e8]; exact qN_le (by omega) (by omega)
    refine ⟨fun q => out ?_, fun q => ⟨fun q2 => out (Or.inl (by have := c2.mp q2; omega)), fun q2 => ?_⟩⟩
    · rw [c1] at q
      refine hp.imp id (fun p h hh => ?_)
      rw [p h hh]
      by_cases r : v - 1 < f h
      · rw [if_pos r, if_pos (by omega)]
      · rw [if_neg r, if_neg (by omega)]
    · rw [c1] at q
      rw [c2] at q2
      have hp' := hp.resolve_left (by omega)
      have hk3 := hK2 (by omega)
      have gi : gI ν 197 (qN i).toNatClampNeg = qN (f i) := by rw [qN_nat (by omega)]; exact hg i (by omega)
      have cf : qN (f i) = qN v ↔ f i = v := qN_eq (by have := f4 i; omega) (by omega)
      refine ⟨(qN_vp (by omega)).mpr (by omega), fun s => ?_, fun s => ?_⟩
      · rw [gi, cf] at s
        show K2 (qN t, qN (lf f H t), qN i + qN 1, ν)
        rw [qN_add]
        refine hk3 _ ⟨t, rfl, hM, hb, Or.inr (fun h hh => ?_)⟩
        rw [hp' h hh]
        by_cases r : v < f h ∨ (f h = v ∧ h < i)
        · rw [if_pos r, if_pos (by omega)]
        · rw [if_neg r, if_neg (fun w => by
            rcases w with w | w
            · exact r (Or.inl w)
            · have : h = i := by omega
              subst this
              exact s w.1)]
      · rw [gi, cf] at s
        have gi2 : ga f H t i = v := by rw [hp' i (by omega), if_neg (by omega)]; exact s
        have ea : am (ga f H t) (H - 1) = i := am_u (by omega) (fun h hh => by
          rw [gi2, hp' h (by omega)]
          by_cases r : v < f h ∨ (f h = v ∧ h < i)
          · rw [if_pos r]; omega
          · rw [if_neg r]; omega) (fun h hh => by
          rw [gi2, hp' h (by omega)]
          by_cases r : v < f h ∨ (f h = v ∧ h < i)
          · rw [if_pos r]; omega
          · rw [if_neg r]; omega)
        have ls := lf_s (f := f) (H := H) (t := t) (by omega)
        rw [ea, gi2] at ls
        show Bd (qN (lf f H t) - qN v) fun y22 => K2 (qN t + qN 1, y22, qN i + qN 1, ν)
        rw [Bd_eq, qN_sub (by omega), qN_add, qN_add, show lf f H t - v = lf f H (t + 1) by omega]
        refine hk3 _ ⟨t + 1, rfl, Mt_s hM (by omega), by omega, Or.inr (fun h hh => ?_)⟩
        show (if h = am (ga f H t) (H - 1) then 0 else ga f H t h) = _
        rw [ea]
        by_cases r : h = i
        · subst r
          rw [if_pos rfl, if_pos (Or.inr ⟨s, by omega⟩)]
        · rw [if_neg r, hp' h hh]
          by_cases r : v < f h ∨ (f h = v ∧ h < i)
          · rw [if_pos r, if_pos (by omega)]
          · rw [if_neg r, if_neg (by omega)]
  · have e : k = 4 := by omega
    subst e
    have fin : 2 * lf f H t ≤ S := hp.elim id (fun q => by
      have : lf f H t = 0 := sm_0 H (fun h hh => by
        rw [q h hh]
        by_cases r : 0 < f h
        · rw [if_pos r]
        · rw [if_neg r]; omega)
      omega)
    refine ⟨fun _ => ?_, fun q => absurd (show qN 0 ≤ (0 : Int32) by decide) q⟩
    refine c_rclear h (fun μ1 h1 s1 => c_radd h1 (by simp) (fun μ2 h2 s2 => c_radd h2 (by simp) (fun μ3 h3 s3 => ?_)))
    exact hQ t (by omega) hM fin μ3 h3 (((f0.tr (FC_row s1)).tr (FC_row s2)).tr (FC_row s3))
