/-! numerals -/
def pB (B : Nat) (g : Nat → Nat) (n : Nat) : Nat := sm (fun i => g i * B ^ i) n
theorem pB_s (B : Nat) (g : Nat → Nat) (n : Nat) : pB B g (n + 1) = pB B g n + g n * B ^ n := rfl
theorem pB_div {B : Nat} (hB : 0 < B) (g : Nat → Nat) (i : Nat) : pB B g (i + 1) / B ^ i = pB B g i / B ^ i + g i := Nat.add_mul_div_right _ _ (Nat.pow_pos hB)
theorem div_ss (B N i : Nat) : N / B ^ (i + 1) = N / B ^ i / B := by rw [Nat.pow_succ, Nat.div_div_eq_div_mul]
theorem pB_dig {B : Nat} (hB : 0 < B) (g : Nat → Nat) (i : Nat) : ∀ d, pB B g (i + 1 + d) / B ^ i % B = pB B g (i + 1) / B ^ i % B
  | 0 => rfl
  | d + 1 => by
    have e : pB B g (i + 1 + (d + 1)) = pB B g (i + 1 + d) + (g (i + 1 + d) * B ^ d * B) * B ^ i := by
      show pB B g (i + 1 + d) + g (i + 1 + d) * B ^ (i + 1 + d) = _
      congr 1
      rw [Nat.pow_add, Nat.pow_add, Nat.pow_one]
      ac_rfl
    rw [e, Nat.add_mul_div_right _ _ (Nat.pow_pos hB), Nat.add_mul_mod_self_right, pB_dig hB g i d]
theorem pB_digs {B : Nat} (hB : 0 < B) (g : Nat → Nat) {i n : Nat} (h : i < n) : pB B g n / B ^ i % B = pB B g (i + 1) / B ^ i % B := by
  have := pB_dig hB g i (n - (i + 1))
  rw [show i + 1 + (n - (i + 1)) = n by omega] at this
  exact this
theorem pB_N (B N : Nat) : ∀ u, pB B (fun i => N / B ^ i % B) u = N % B ^ u
  | 0 => by rw [Nat.pow_zero, Nat.mod_one]; rfl
  | u + 1 => by rw [pB_s, pB_N B N u, Nat.mod_pow_succ, Nat.mul_comm (B ^ u)]
theorem pB_congr {B : Nat} {g h : Nat → Nat} {n : Nat} (e : ∀ i, i < n → g i = h i) : pB B g n = pB B h n := sm_congr (fun i hi => by rw [e i hi])
theorem pB_mul (B : Nat) (g : Nat → Nat) (f n : Nat) : pB B (fun i => g i * f) n = pB B g n * f := by
  unfold pB
  rw [← sm_mul]
  exact sm_congr (fun i _ => by show g i * f * B ^ i = g i * B ^ i * f; ac_rfl)
theorem pB_add (B : Nat) (g h : Nat → Nat) (n : Nat) : pB B (fun i => g i + h i) n = pB B g n + pB B h n := by
  unfold pB
  rw [← sm_add]
  exact sm_congr (fun i _ => Nat.add_mul _ _ _)
theorem pB_up (B : Nat) (g : Nat → Nat) (k v : Nat) : ∀ n, k < n → pB B (fun i => if i = k then g i + v else g i) n = pB B g n + v * B ^ k
  | 0, h => absurd h (by omega)
  | n + 1, h => by
    rw [pB_s, pB_s]
    by_cases q : n = k
    · subst q
      rw [if_pos rfl, pB_congr (h := g) (fun i hi => if_neg (by omega)), Nat.add_mul]
      omega
    · rw [if_neg q, pB_up B g k v n (by omega)]
      omega
theorem pB_tail {B : Nat} {g : Nat → Nat} {u w : Nat} (h : u ≤ w) (z : ∀ i, u ≤ i → i < w → g i = 0) : pB B g w = pB B g u := sm_tail w h (fun j h1 h2 => by rw [z j h1 h2, Nat.zero_mul])
theorem pB_ov {B G c : Nat} (hB : 0 < B) {g : Nat → Nat} (hg : ∀ i, g i ≤ G) (hc : (c + G) / B ≤ c) : ∀ i, pB B g i / B ^ i ≤ c
  | 0 => by show 0 / B ^ 0 ≤ c; rw [Nat.zero_div]; exact Nat.zero_le _
  | i + 1 => by
    rw [div_ss, pB_div hB]
    exact Nat.le_trans (Nat.div_le_div_right (Nat.add_le_add (pB_ov hB hg hc i) (hg i))) hc
theorem dz {B N u j : Nat} (hB : 0 < B) (h : N < B ^ u) (hj : u ≤ j) : N / B ^ j % B = 0 := by
  rw [Nat.div_eq_of_lt (Nat.lt_of_lt_of_le h (Nat.pow_le_pow_right hB hj)), Nat.zero_mod]
theorem dgl {B N i : Nat} (hB : 0 < B) : N / B ^ i % B < B := Nat.mod_lt _ hB
theorem dtop {B N v : Nat} (hv : 0 < v) (h : N < B ^ v) : N / B ^ (v - 1) % B = N / B ^ (v - 1) := by
  refine Nat.mod_eq_of_lt ?_
  rw [Nat.div_lt_iff_lt_mul (by
    rcases Nat.eq_zero_or_pos B with q | q
    · subst q
      rw [Nat.zero_pow hv] at h
      omega
    · exact Nat.pow_pos q), Nat.mul_comm, ← Nat.pow_succ, show (v - 1).succ = v by omega]
  exact h
theorem dltB {B N v : Nat} (hB : 0 < B) (h : N / B ^ v = 0) : N < B ^ v := by
  rcases Nat.lt_or_ge N (B ^ v) with q | q
  · exact q
  · have := Nat.div_pos q (Nat.pow_pos hB (n := v))
    omega
theorem dge {B N v : Nat} (h : N / B ^ v ≠ 0) : B ^ v ≤ N := by
  rcases Nat.lt_or_ge N (B ^ v) with q | q
  · exact absurd (Nat.div_eq_of_lt q) h
  · exact q
/-- equal above and at a place: equal from there -/
theorem deq {B N M i : Nat} (h1 : N / B ^ (i + 1) = M / B ^ (i + 1)) (h2 : N / B ^ i % B = M / B ^ i % B) : N / B ^ i = M / B ^ i := by
  rw [div_ss, div_ss] at h1
  have a := Nat.div_add_mod (N / B ^ i) B
  have b := Nat.div_add_mod (M / B ^ i) B
  rw [h1, h2] at a
  omega
theorem dgt {B N M i : Nat} (h1 : N / B ^ (i + 1) = M / B ^ (i + 1)) (h2 : M / B ^ i % B < N / B ^ i % B) : M < N := by
  rw [div_ss, div_ss] at h1
  have a := Nat.div_add_mod (N / B ^ i) B
  have b := Nat.div_add_mod (M / B ^ i) B
  rw [h1] at a
  have c : M / B ^ i < N / B ^ i := by omega
  rcases Nat.lt_or_ge M N with q | q
  · exact q
  · have := Nat.div_le_div_right (c := B ^ i) q
    omega
/-! the class's bigs -/
def bS (t k _j : Nat) : Prop := k = t ∨ k = t + 1
def BG (μ : MM) (t N : Nat) : Prop := ∃ u, gI μ t 1 = qN u ∧ u ≤ ln (t + 1) ∧ N < 100000000 ^ u ∧ (0 < u → 100000000 ^ (u - 1) ≤ N) ∧ ∀ i, i < u → gJ μ (t + 1) i = qL (N / 100000000 ^ i % 100000000)
theorem BG.fr {μ μ' : MM} {t N : Nat} (h : BG μ t N) (e1 : gI μ' t 1 = gI μ t 1) (e2 : ∀ i, gJ μ' (t + 1) i = gJ μ (t + 1) i) : BG μ' t N := by
  obtain ⟨u, h1, h2, h3, h4, h5⟩ := h
  exact ⟨u, e1.trans h1, h2, h3, h4, fun i hi => (e2 i).trans (h5 i hi)⟩
theorem BG.sm {μ μ' : MM} {t N : Nat} {S : Nat → Nat → Prop} (h : BG μ t N) (f : Sm S μ μ') (hS : ∀ j, ¬ S t j ∧ ¬ S (t + 1) j) : BG μ' t N := h.fr (f.1 t 1 (hS 1).1).1 (fun i => (f.1 (t + 1) i (hS i).2).2)
theorem c_stretch {t u n : Nat} {g : Nat → Nat} {μ : MM} {Q : MM → Prop} (hn : n < 1000) (hL : ln (t + 1) < 100) (hu : u ≤ ln (t + 1)) (h1 : gI μ t 1 = qN u) (h2 : ∀ i, i < u → gJ μ (t + 1) i = qL (g i))
    (hQ : ∀ μ' w, w = max u (min n (ln (t + 1))) → Sm (bS t) μ μ' → gI μ' t 1 = qN w → (∀ i, i < w → gJ μ' (t + 1) i = qL (if i < u then g i else 0)) → Q μ') : G0_stretch t (qN n) μ Q := by
  unfold G0_stretch
  rw [h1, Bd_eq]
  refine Lp.up (max u (min n (ln (t + 1))) - u) (fun d (x : Int32 × MM) => x.1 = qN (u + d) ∧ Sm (bS t) μ x.2 ∧ gI x.2 t 1 = qN (u + d) ∧ ∀ i, i < u + d → gJ x.2 (t + 1) i = qL (if i < u then g i else 0)) ?_ ⟨rfl, Sm.rfl', h1, fun i hi => by rw [if_pos (show i < u by omega)]; exact h2 i (by omega)⟩
  rintro d K hd hK ⟨x1, ν⟩ ⟨rfl, hs, e1, e2⟩
  simp only at hs e1 e2
  have c1 : qN n ≤ qN (u + d) ↔ n ≤ u + d := qN_le (by omega) (by omega)
  have c2 : qN (ln (t + 1)) ≤ qN (u + d) ↔ ln (t + 1) ≤ u + d := qN_le (by omega) (by omega)
  refine ⟨fun q => hQ ν (u + d) (by have := c1.mp q; omega) hs e1 e2, fun q => ⟨fun q2 => hQ ν (u + d) (by have := c2.mp q2; omega) hs e1 e2, fun q2 => ?_⟩⟩
  have l1 : u + d < n := by
    rcases Nat.lt_or_ge (u + d) n with s | s
    · exact s
    · exact absurd (c1.mpr s) q
  have l2 : u + d < ln (t + 1) := by
    rcases Nat.lt_or_ge (u + d) (ln (t + 1)) with s | s
    · exact s
    · exact absurd (c2.mpr s) q2
  show vp_in (qN (u + d)) (ln (t + 1)) ∧ Bd (sJ ν (t + 1) (qN (u + d)).toNatClampNeg 0) fun μ9 => Bd (sI μ9 t 1 (qN (u + d) + 1)) fun μ10 => K (qN (u + d) + 1, μ10)
  rw [qN_vp (by omega), qN_nat (by omega), Bd_eq, Bd_eq, show qN (u + d) + 1 = qN (u + d + 1) from qN_add _ 1]
  refine ⟨l2, hK (by omega) _ ⟨rfl, (hs.wJ _ (Or.inr rfl)).wI _ (Or.inl rfl), by show gI (sI _ t 1 _) t 1 = _; rw [gI_I, if_pos ⟨rfl, rfl⟩]; rfl, fun i hi => ?_⟩⟩
  show gJ (sI (sJ ν (t + 1) (u + d) 0) t 1 _) (t + 1) i = _
  rw [gJ_I, gJ_J]
  by_cases q3 : i = u + d
  · rw [if_pos ⟨rfl, q3⟩, if_neg (by omega)]; rfl
  · rw [if_neg (fun r => q3 r.2)]; exact e2 i (by omega)
theorem qL_m8 {x : Nat} (h : x < 9223372036854775808) : qL x - qL x / 100000000 * 100000000 = qL (x % 100000000) := by
  rw [show (100000000 : Int64) = qL 100000000 from rfl, qL_div h (by decide), qL_mul, qL_sub (Nat.div_mul_le_self _ _), dm_l]
theorem qL_d8 {x : Nat} (h : x < 9223372036854775808) : qL x / 100000000 = qL (x / 100000000) := by
  rw [show (100000000 : Int64) = qL 100000000 from rfl, qL_div h (by decide)]
theorem c_trim {t V w : Nat} {μ : MM} {Q : MM → Prop} (hL : ln (t + 1) < 100) (hw : w ≤ ln (t + 1)) (h1 : gI μ t 1 = qN w) (hV : V < 100000000 ^ w) (h2 : ∀ i, i < w → gJ μ (t + 1) i = qL (V / 100000000 ^ i % 100000000))
    (hQ : ∀ μ', Sm (bS t) μ μ' → BG μ' t V → Q μ') : Lp (G0_carry_L54 t Q) μ := by
  refine Lp.wf (fun x => (gI x t 1).toNatClampNeg) (fun x => ∃ v, gI x t 1 = qN v ∧ v ≤ w ∧ V < 100000000 ^ v ∧ Sm (bS t) μ x ∧ ∀ i, i < v → gJ x (t + 1) i = qL (V / 100000000 ^ i % 100000000)) ?_ ⟨w, h1, Nat.le_refl _, hV, Sm.rfl', h2⟩
  rintro K x ⟨v, e1, e2, e3, e4, e5⟩ hK
  have c1 : qN v ≤ 0 ↔ v ≤ 0 := qN_le (b := 0) (by omega) (by decide)
  unfold G0_carry_L54
  rw [e1, c1]
  refine ⟨fun q => hQ x e4 ⟨v, e1, by omega, e3, fun r => by omega, e5⟩, fun q => ?_⟩
  have m1 : qN v - 1 = qN (v - 1) := qN_sub (b := 1) (by omega)
  rw [m1, qN_vp (by omega), qN_nat (by omega), e5 _ (by omega), lg_0, dtop (by omega) e3]
  have b9 : V / 100000000 ^ (v - 1) < 100000000 := by
    have := dgl (B := 100000000) (N := V) (i := v - 1) (by decide)
    rw [dtop (by omega) e3] at this
    exact this
  rw [qL_0 (by omega), Bd_eq]
  refine ⟨by omega, fun r => hQ x e4 ⟨v, e1, by omega, e3, fun _ => dge r, e5⟩, fun r => ?_⟩
  refine hK _ ⟨v - 1, by rw [gI_I, if_pos ⟨rfl, rfl⟩], by omega, dltB (by decide) r, e4.wI _ (Or.inl rfl), fun i hi => by rw [gJ_I]; exact e5 i (by omega)⟩ ?_
  show (gI (sI x t 1 (qN (v - 1))) t 1).toNatClampNeg < (gI x t 1).toNatClampNeg
  rw [gI_I, if_pos ⟨rfl, rfl⟩, e1, qN_nat (by omega), qN_nat (by omega)]
  omega
theorem c_carry {t u V : Nat} {g : Nat → Nat} {μ : MM} {Q : MM → Prop} (hL : ln (t + 1) < 100) (hu : u ≤ ln (t + 1)) (h1 : gI μ t 1 = qN u) (h2 : ∀ i, i < u → gJ μ (t + 1) i = qL (g i)) (hg : ∀ i, g i ≤ 9000000000000000000) (hP : pB 100000000 g u = V) (hV : V < 100000000 ^ (ln (t + 1)))
    (hQ : ∀ μ', Sm (bS t) μ μ' → BG μ' t V → Q μ') : G0_carry t μ Q := by
  unfold G0_carry
  rw [h1, show qN u + 2 = qN (u + 2) from qN_add u 2]
  refine c_stretch (by omega) hL hu h1 h2 (fun μ1 w hw s1 e1 e2o => ?_)
  have hg' : ∀ i, (if i < u then g i else 0) ≤ 9000000000000000000 := fun i => by
    split
    · exact hg i
    · exact Nat.zero_le _
  have hP' : pB 100000000 (fun i => if i < u then g i else 0) w = V := by
    rw [pB_tail (u := u) (by omega) (fun i h3 _ => if_neg (by omega)), ← hP]
    exact pB_congr (fun i hi => if_pos hi)
  have ov := pB_ov (B := 100000000) (c := 1000000000000) (by decide) hg' (by decide)
  have hVw : V < 100000000 ^ w := by
    by_cases q : w = ln (t + 1)
    · rw [q]; exact hV
    · have e : w = u + 2 := by omega
      have o := pB_ov (B := 100000000) (c := 1000000000000) (by decide) hg (by decide) u
      rw [hP] at o
      have o2 : V / 100000000 ^ u < 10000000000000000 := by omega
      rw [Nat.div_lt_iff_lt_mul (Nat.pow_pos (by decide))] at o2
      rw [e, Nat.pow_add, Nat.mul_comm]
      exact o2
  have wl : w ≤ ln (t + 1) := by omega
  obtain ⟨g', hg', hP', ov, e2⟩ : ∃ g' : Nat → Nat, (∀ i, g' i ≤ 9000000000000000000) ∧ pB 100000000 g' w = V ∧ (∀ i, pB 100000000 g' i / 100000000 ^ i ≤ 1000000000000) ∧ ∀ i, i < w → gJ μ1 (t + 1) i = qL (g' i) := ⟨_, hg', hP', ov, e2o⟩
  refine Lp.up w (fun i (x : Int64 × Int32 × MM) => x.1 = qL (pB 100000000 g' i / 100000000 ^ i) ∧ x.2.1 = qN i ∧ Sm (bS t) μ x.2.2 ∧ gI x.2.2 t 1 = qN w ∧ (∀ j, j < i → gJ x.2.2 (t + 1) j = qL (V / 100000000 ^ j % 100000000)) ∧ (∀ j, i ≤ j → j < w → gJ x.2.2 (t + 1) j = qL (g' j))) ?_ ⟨by show (0 : Int64) = qL (0 / 100000000 ^ 0); rw [Nat.zero_div]; rfl, rfl, s1, e1, fun j hj => absurd hj (by omega), fun j _ hj => e2 j hj⟩
  clear e1 e2 e2o s1 h1 h2
  rintro i K hi hK ⟨x1, x2, ν⟩ ⟨e0, e9, hs, e1, e2, e3⟩
  simp only at e0 e9 hs e1 e2 e3
  subst e0 e9
  have c1 : qN w ≤ qN i ↔ w ≤ i := qN_le (by omega) (by omega)
  unfold G0_carry_L14
  simp only [e1, c1]
  refine ⟨fun q => ?_, fun q => ?_⟩
  · have e : i = w := by omega
    subst e
    exact c_trim hL wl e1 hVw e2 (fun μ' f h => hQ μ' (hs.tr f) h)
  · have l : i < w := by omega
    have st := pB_div (B := 100000000) (by decide) g' i
    have o1 := ov i
    have o2 := hg' i
    have dg := pB_digs (B := 100000000) (by decide) g' l
    rw [hP'] at dg
    have ss := div_ss 100000000 (pB 100000000 g' (i + 1)) i
    have hb : pB 100000000 g' (i + 1) / 100000000 ^ i < 9223372036854775808 := by rw [st]; omega
    rw [qN_vp (by omega), qN_nat (by omega), e3 i (Nat.le_refl _) l, qL_add, ← st, Bd_eq, qL_m8 hb, qL_d8 hb, Bd_eq, Bd_eq, ← ss, ← dg]
    refine ⟨by omega, by omega, hK l _ ⟨rfl, qN_add i 1, hs.wJ _ (Or.inr rfl), by show gI (sJ _ _ _ _) t 1 = _; rw [gI_J]; exact e1, fun j hj => ?_, fun j h3 h4 => ?_⟩⟩
    · show gJ (sJ ν (t + 1) i _) (t + 1) j = _
      rw [gJ_J]
      by_cases q3 : j = i
      · rw [if_pos ⟨rfl, q3⟩, q3]
      · rw [if_neg (fun r => q3 r.2)]; exact e2 j (by omega)
    · show gJ (sJ ν (t + 1) i _) (t + 1) j = _
      rw [gJ_J, if_neg (fun r => by omega)]
      exact e3 j (by omega) h4
