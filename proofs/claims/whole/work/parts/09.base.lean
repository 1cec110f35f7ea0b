/-! memory: ints, longs and references by cell and slot; the layout that the constructors lay -/
abbrev MM : Type := (Nat → Nat → Int32) × (Nat → Nat → Int64) × (Nat → Nat → Option Nat)
def gI (μ : MM) (k j : Nat) : Int32 := μ.1 k j
def gJ (μ : MM) (k j : Nat) : Int64 := μ.2.1 k j
def gR (μ : MM) (k j : Nat) : Option Nat := μ.2.2 k j
def up2 {α : Type} (f : Nat → Nat → α) (k j : Nat) (v : α) : Nat → Nat → α := fun a b => if a = k ∧ b = j then v else f a b
def sI (μ : MM) (k j : Nat) (v : Int32) : MM := (up2 μ.1 k j v, μ.2.1, μ.2.2)
def sJ (μ : MM) (k j : Nat) (v : Int64) : MM := (μ.1, up2 μ.2.1 k j v, μ.2.2)
def sR (μ : MM) (k j : Nat) (v : Option Nat) : MM := (μ.1, μ.2.1, up2 μ.2.2 k j v)
def NC : Nat := 411
def shL : List Nat := [11, 10, 13, 13, 13, 13, 13, 13, 13, 18, 17, 17, 13, 13, 13, 20, 13, 13, 13, 5, 5, 5, 5, 5, 5, 5, 5, 5, 5, 5, 5, 5, 5, 5, 5, 5, 5, 5, 5, 5, 5, 5, 5, 5, 5, 5, 5, 5, 5, 5, 5, 5, 5, 5, 5, 5, 5, 5, 5, 5, 5, 5, 5, 5, 5, 5, 5, 5, 5, 5, 5, 5, 5, 5, 5, 5, 5, 5, 5, 5, 5, 5, 5, 5, 5, 5, 5, 5, 5, 5, 5, 5, 5, 5, 5, 5, 5, 5, 5, 5, 5, 5, 5, 5, 5, 5, 5, 5, 5, 5, 5, 5, 5, 5, 5, 3, 13, 13, 3, 13, 13, 3, 13, 13, 3, 13, 13, 3, 13, 13, 3, 13, 13, 3, 13, 13, 3, 13, 13, 3, 13, 13, 3, 13, 13, 3, 13, 13, 3, 13, 13, 7, 14, 8, 9, 13, 13, 9, 13, 13, 9, 13, 13, 14, 13, 13, 13, 14, 4, 13, 13, 13, 21, 14, 14, 14, 14, 14, 14, 14, 14, 14, 14, 14, 14, 14, 14, 14, 14, 14, 14, 14, 14, 14, 14, 14, 14, 13, 0, 14, 0, 14, 2, 9, 13, 13, 19, 9, 13, 13, 9, 13, 13, 9, 13, 13, 9, 13, 13, 9, 13, 13, 9, 13, 13, 9, 13, 13, 9, 13, 13, 9, 13, 13, 9, 13, 13, 6, 13, 13, 13, 20, 13, 13, 13, 13, 13, 13, 13, 1, 16, 16, 16, 0, 14, 0, 14, 0, 14, 0, 14, 0, 14, 0, 14, 0, 14, 0, 14, 0, 14, 0, 14, 0, 14, 0, 14, 0, 14, 0, 14, 0, 14, 0, 14, 0, 14, 0, 14, 0, 14, 0, 14, 0, 14, 0, 14, 0, 14, 0, 14, 0, 14, 0, 14, 0, 14, 0, 14, 0, 14, 0, 14, 0, 14, 0, 14, 0, 14, 0, 14, 0, 14, 0, 14, 0, 14, 0, 14, 0, 14, 0, 14, 0, 14, 0, 14, 0, 14, 0, 14, 0, 14, 0, 14, 0, 14, 0, 14, 0, 14, 0, 14, 0, 14, 0, 14, 13, 12, 14, 13, 13, 13, 13, 13, 13, 13, 13, 13, 13, 13, 13, 13, 15, 15, 13, 13, 13, 13, 13, 13, 13, 13, 14, 14, 13, 13, 13, 13, 13, 13, 13, 13, 13, 14, 13, 13, 14, 13, 13, 13, 13, 13, 13, 13, 13, 13, 13, 13, 13, 14]
def lnL : List Nat := [0, 0, 12, 12, 12, 12, 24, 24, 24, 96, 6, 6, 14, 3, 3, 3, 96, 96, 96, 0, 0, 0, 0, 0, 0, 0, 0, 0, 0, 0, 0, 0, 0, 0, 0, 0, 0, 0, 0, 0, 0, 0, 0, 0, 0, 0, 0, 0, 0, 0, 0, 0, 0, 0, 0, 0, 0, 0, 0, 0, 0, 0, 0, 0, 0, 0, 0, 0, 0, 0, 0, 0, 0, 0, 0, 0, 0, 0, 0, 0, 0, 0, 0, 0, 0, 0, 0, 0, 0, 0, 0, 0, 0, 0, 0, 0, 0, 0, 0, 0, 0, 0, 0, 0, 0, 0, 0, 0, 0, 0, 0, 0, 0, 0, 0, 0, 40, 40, 0, 40, 40, 0, 40, 40, 0, 40, 40, 0, 40, 40, 0, 40, 40, 0, 40, 40, 0, 40, 40, 0, 40, 40, 0, 40, 40, 0, 40, 40, 0, 40, 40, 0, 10, 0, 0, 2, 2, 0, 2, 2, 0, 2, 2, 97, 12, 12, 12, 12, 0, 4, 4, 4, 24, 4, 4, 4, 4, 4, 4, 4, 4, 4, 4, 4, 4, 4, 4, 4, 4, 4, 4, 4, 4, 4, 4, 4, 4, 24, 0, 30, 0, 30, 0, 0, 2, 2, 10, 0, 2, 2, 0, 2, 2, 0, 2, 2, 0, 2, 2, 0, 2, 2, 0, 2, 2, 0, 2, 2, 0, 2, 2, 0, 2, 2, 0, 2, 2, 0, 40, 40, 40, 6, 96, 96, 96, 96, 96, 96, 6, 0, 17, 17, 17, 0, 12, 0, 6, 0, 6, 0, 6, 0, 6, 0, 6, 0, 6, 0, 6, 0, 6, 0, 6, 0, 6, 0, 6, 0, 6, 0, 6, 0, 6, 0, 6, 0, 6, 0, 6, 0, 6, 0, 6, 0, 6, 0, 6, 0, 6, 0, 6, 0, 6, 0, 6, 0, 6, 0, 6, 0, 6, 0, 6, 0, 6, 0, 6, 0, 6, 0, 6, 0, 6, 0, 6, 0, 6, 0, 6, 0, 6, 0, 6, 0, 6, 0, 6, 0, 6, 0, 6, 0, 6, 0, 6, 0, 6, 0, 6, 0, 6, 0, 6, 0, 6, 0, 6, 60, 0, 32, 12, 12, 12, 12, 24, 24, 24, 96, 96, 96, 96, 96, 96, 96, 96, 96, 2, 624, 13, 48, 60, 2, 2, 192, 192, 12, 12, 4, 4, 4, 2, 2, 80, 80, 96, 4, 4, 24, 24, 4, 4, 40, 40, 40, 1360, 80, 17, 3, 3, 288, 1]
def R0L : List (List (Option Nat)) := [[some 1, some 151, some 153, some 168, some 202, some 237, some 249, some 357], [some 2, some 3, some 4, some 5, none, some 6, some 7, some 8, none, some 9, none, some 10, some 11, some 12, none, some 13, some 14, some 15], [], [], [], [], [], [], [], [some 19, some 20, some 21, some 22, some 23, some 24, some 25, some 26, some 27, some 28, some 29, some 30, some 31, some 32, some 33, some 34, some 35, some 36, some 37, some 38, some 39, some 40, some 41, some 42, some 43, some 44, some 45, some 46, some 47, some 48, some 49, some 50, some 51, some 52, some 53, some 54, some 55, some 56, some 57, some 58, some 59, some 60, some 61, some 62, some 63, some 64, some 65, some 66, some 67, some 68, some 69, some 70, some 71, some 72, some 73, some 74, some 75, some 76, some 77, some 78, some 79, some 80, some 81, some 82, some 83, some 84, some 85, some 86, some 87, some 88, some 89, some 90, some 91, some 92, some 93, some 94, some 95, some 96, some 97, some 98, some 99, some 100, some 101, some 102, some 103, some 104, some 105, some 106, some 107, some 108, some 109, some 110, some 111, some 112, some 113, some 114], [some 115, some 121, some 127, some 133, some 139, some 145], [some 118, some 124, some 130, some 136, some 142, some 148], [], [], [], [some 16, some 17, some 18], [], [], [], [], [], [], [], [], [], [], [], [], [], [], [], [], [], [], [], [], [], [], [], [], [], [], [], [], [], [], [], [], [], [], [], [], [], [], [], [], [], [], [], [], [], [], [], [], [], [], [], [], [], [], [], [], [], [], [], [], [], [], [], [], [], [], [], [], [], [], [], [], [], [], [], [], [], [], [], [], [], [], [], [], [], [], [], [], [], [], [], [], [], [], [], [], [], [], [], [some 116, none, some 117], [], [], [some 119, none, some 120], [], [], [some 122, none, some 123], [], [], [some 125, none, some 126], [], [], [some 128, none, some 129], [], [], [some 131, none, some 132], [], [], [some 134, none, some 135], [], [], [some 137, none, some 138], [], [], [some 140, none, some 141], [], [], [some 143, none, some 144], [], [], [some 146, none, some 147], [], [], [some 149, none, some 150], [], [], [some 152], [], [some 1, some 151, some 154, some 157, some 160, some 163, some 164, some 165, some 166, some 167], [some 155, some 156], [], [], [some 158, some 159], [], [], [some 161, some 162], [], [], [], [], [], [], [], [some 1, some 151, some 169, some 170, some 171, some 172, some 197, some 198, some 200], [], [], [], [some 173, some 174, some 175, some 176, some 177, some 178, some 179, some 180, some 181, some 182, some 183, some 184, some 185, some 186, some 187, some 188, some 189, some 190, some 191, some 192, some 193, some 194, some 195, some 196], [], [], [], [], [], [], [], [], [], [], [], [], [], [], [], [], [], [], [], [], [], [], [], [], [], [some 199], [], [some 201], [], [some 1, some 151, some 203, some 206], [some 204, some 205], [], [], [some 207, some 210, some 213, some 216, some 219, some 222, some 225, some 228, some 231, some 234], [some 208, some 209], [], [], [some 211, some 212], [], [], [some 214, some 215], [], [], [some 217, some 218], [], [], [some 220, some 221], [], [], [some 223, some 224], [], [], [some 226, some 227], [], [], [some 229, some 230], [], [], [some 232, some 233], [], [], [some 235, some 236], [], [], [some 1, some 151, some 238, some 239, some 240, none, some 241, some 248], [], [], [], [some 242, some 243, some 244, some 245, some 246, some 247], [], [], [], [], [], [], [], [some 151, some 250, some 251, some 252, some 253], [some 255, some 261, some 267, some 273, some 279, some 285, some 291, some 297, some 303, some 309, some 315, some 321, some 327, some 333, some 339, some 345, some 351], [some 257, some 263, some 269, some 275, some 281, some 287, some 293, some 299, some 305, some 311, some 317, some 323, some 329, some 335, some 341, some 347, some 353], [some 259, some 265, some 271, some 277, some 283, some 289, some 295, some 301, some 307, some 313, some 319, some 325, some 331, some 337, some 343, some 349, some 355], [some 254], [], [some 256], [], [some 258], [], [some 260], [], [some 262], [], [some 264], [], [some 266], [], [some 268], [], [some 270], [], [some 272], [], [some 274], [], [some 276], [], [some 278], [], [some 280], [], [some 282], [], [some 284], [], [some 286], [], [some 288], [], [some 290], [], [some 292], [], [some 294], [], [some 296], [], [some 298], [], [some 300], [], [some 302], [], [some 304], [], [some 306], [], [some 308], [], [some 310], [], [some 312], [], [some 314], [], [some 316], [], [some 318], [], [some 320], [], [some 322], [], [some 324], [], [some 326], [], [some 328], [], [some 330], [], [some 332], [], [some 334], [], [some 336], [], [some 338], [], [some 340], [], [some 342], [], [some 344], [], [some 346], [], [some 348], [], [some 350], [], [some 352], [], [some 354], [], [some 356], [], [], [none, none, some 359, none, some 360, some 361, some 362, some 363, none, some 364, some 365, some 366, none, some 367, some 368, some 369, some 370, some 371, some 372, some 373, some 374, some 375, none, some 376, some 377, some 378, some 379, some 380, none, none, none, none, none, none, none, none, some 381, some 382, some 383, some 384, some 385, some 386, none, none, none, some 387, some 388, some 389, some 390, some 391, some 392, some 393, some 394, some 395, some 396, some 397, some 398, some 399, some 400, none, none, none, some 401, some 402, some 403, some 404, some 405, some 406, some 407, some 408, some 409], [], [], [], [], [], [], [], [], [], [], [], [], [], [], [], [], [], [], [], [], [], [], [], [], [], [], [], [], [], [], [], [], [], [], [], [], [], [], [], [], [], [], [], [], [], [], [], [], [], [], [], []]
def sh (k : Nat) : Nat := shL.getD k 99
def ln (k : Nat) : Nat := lnL.getD k 0
def R0 (k j : Nat) : Option Nat := (R0L.getD k []).getD j none
/-- all references but Kinds' likeliest and tried stay as the constructors laid them -/
def SR (μ : MM) : Prop := ∀ k j : Nat, ¬ (k = 168 ∧ (j = 7 ∨ j = 8)) → μ.2.2 k j = R0 k j
/-- a cell of a kind -/
def Ob (k c : Nat) : Prop := k < NC ∧ sh k = c
/-- x gets a name -/
def Bd {α : Type} (x : α) (K : α → Prop) : Prop := ∀ y : α, y = x → K y
/-- the reference r is one -/
def Rl (o : Option Nat) (K : Nat → Prop) : Prop := ∃ r : Nat, o = some r ∧ K r
/-- a loop: some number of rounds is enough -/
def LpN {X : Type} (body : (X → Prop) → X → Prop) : Nat → X → Prop
  | 0, _ => False
  | n + 1, x => body (LpN body n) x
def Lp {X : Type} (body : (X → Prop) → X → Prop) (x : X) : Prop := ∃ n, LpN body n x
/-- an answer that is a boolean -/
def bo (v : Int32) : Prop := v = 0 ∨ v = 1
theorem bo_0 : bo 0 := Or.inl rfl
theorem bo_1 : bo 1 := Or.inr rfl
theorem bo_nar {v : Int32} (h : bo v) : narrow .boolean (.int v) = .int v := by rcases h with rfl | rfl <;> decide
theorem bo_fit {v : Int32} (h : bo v) : fits .boolean (.int v) = true := by rcases h with rfl | rfl <;> decide
def rv (φ : Nat → Nat) (v : Value) : Value := match v with
  | .ref a => .ref (φ a)
  | v => v
def rl (φ : Nat → Nat) (q : Nat × Value) : Nat × Value := (q.1, rv φ q.2)
def fvl (φ : Nat → Nat) (μ : MM) (k : Nat) (ty : FieldType) (j : Nat) : Value := match ty with
  | .int => .int (μ.1 k j)
  | .boolean => .int (μ.1 k j)
  | .long => .long (μ.2.1 k j)
  | _ => va_rf ((μ.2.2 k j).map φ)
def ent (φ : Nat → Nat) (tc : Nat → ClassId) (μ : MM) (k : Nat) : va_E :=
  if sh k < 13 then .inr (sh k, (List.range (nfC (sh k))).map (fun j => fvl φ μ k (tyC (sh k) j) j))
  else if sh k = 13 ∨ sh k = 15 then .inl (tc (sh k - 13), ln k, .inl (μ.1 k))
  else if sh k = 14 then .inl (tc 1, ln k, .inr (.inl (μ.2.1 k)))
  else .inl (tc (sh k - 13), ln k, .inr (.inr (.inr (.inr (fun i => (μ.2.2 k i).map φ)))))
def mw (φ : Nat → Nat) (tc : Nat → ClassId) (n : Nat) (μ : MM) : va_W := (List.range n).map (fun k => (φ k, ent φ tc μ k))
def tyL (tc : Nat → ClassId) : List (ClassId × FieldType) := [(tc 0, .int), (tc 1, .long), (tc 2, .boolean), (tc 3, .object RX0), (tc 4, .object RX3), (tc 5, .object RX5), (tc 6, .object RX9), (tc 7, .array .int), (tc 8, .array .long)]
def AX (φ : Nat → Nat) : Nat → Prop := fun q => ∃ k, k < NC ∧ q = φ k
theorem ent_congr {φ : Nat → Nat} {tc : Nat → ClassId} {μ μ' : MM} {i : Nat} (h1 : μ'.1 i = μ.1 i) (h2 : μ'.2.1 i = μ.2.1 i) (h3 : μ'.2.2 i = μ.2.2 i) : ent φ tc μ' i = ent φ tc μ i := by simp only [ent, fvl, h1, h2, h3]
theorem up2_ne {α : Type} {f : Nat → Nat → α} {k j i : Nat} {v : α} (h : i ≠ k) : up2 f k j v i = f i := by
  funext b
  simp [up2, h]
theorem mw_get {φ : Nat → Nat} {tc : Nat → ClassId} {μ : MM} {n k : Nat} (h : k < n) : (mw φ tc n μ)[k]? = some (φ k, ent φ tc μ k) := by
  simp [mw, List.getElem?_map, List.getElem?_range h]
theorem mw_set {φ : Nat → Nat} {tc : Nat → ClassId} {μ μ' : MM} {n k : Nat} {e : va_E} (h : ∀ i, i ≠ k → ent φ tc μ' i = ent φ tc μ i) (he : ent φ tc μ' k = e) : (mw φ tc n μ).set k (φ k, e) = mw φ tc n μ' := by
  apply List.ext_getElem?
  intro i
  rw [List.getElem?_set]
  by_cases hi : k = i
  · subst hi
    by_cases hn : k < n
    · rw [mw_get (μ := μ') hn, he]
      simp [mw, hn]
    · simp [mw, hn]
  · rw [if_neg hi]
    by_cases hn : i < n
    · rw [mw_get hn, mw_get hn, h i (fun q => hi q.symm)]
    · simp [mw, hn]
theorem mw_D {φ : Nat → Nat} {tc : Nat → ClassId} {μ : MM} (hinj : ∀ i j, i < NC → j < NC → φ i = φ j → i = j) : va_D (AX φ) (mw φ tc NC μ) := by
  have hat : ∀ (i : Nat) (p : Nat × va_E), (mw φ tc NC μ)[i]? = some p → i < NC ∧ p.1 = φ i := by
    intro i p hp
    by_cases hn : i < NC
    · rw [mw_get hn] at hp
      cases hp
      exact ⟨hn, rfl⟩
    · simp [mw, hn] at hp
  refine ⟨fun i j p q hp hq he => ?_, fun k q hq => ?_⟩
  · obtain ⟨h1, h2⟩ := hat i p hp
    obtain ⟨h3, h4⟩ := hat j q hq
    exact hinj i j h1 h3 (by rw [← h2, ← h4, he])
  · obtain ⟨h1, h2⟩ := hat k q hq
    exact ⟨k, h1, h2⟩
theorem ent_obj {φ : Nat → Nat} {tc : Nat → ClassId} {μ : MM} {k ci : Nat} (hs : sh k = ci) (hc : ci < 13) : ent φ tc μ k = .inr (ci, (List.range (nfC ci)).map (fun j => fvl φ μ k (tyC ci j) j)) := by
  subst hs
  exact if_pos hc
theorem ent_ai {φ : Nat → Nat} {tc : Nat → ClassId} {μ : MM} {k : Nat} (hs : sh k = 13) : ent φ tc μ k = .inl (tc 0, ln k, .inl (μ.1 k)) := by simp [ent, hs]
theorem ent_az {φ : Nat → Nat} {tc : Nat → ClassId} {μ : MM} {k : Nat} (hs : sh k = 15) : ent φ tc μ k = .inl (tc 2, ln k, .inl (μ.1 k)) := by simp [ent, hs]
theorem ent_aj {φ : Nat → Nat} {tc : Nat → ClassId} {μ : MM} {k : Nat} (hs : sh k = 14) : ent φ tc μ k = .inl (tc 1, ln k, .inr (.inl (μ.2.1 k))) := by simp [ent, hs]
theorem ent_ar {φ : Nat → Nat} {tc : Nat → ClassId} {μ : MM} {k : Nat} (hs : 15 < sh k) : ent φ tc μ k = .inl (tc (sh k - 13), ln k, .inr (.inr (.inr (.inr (fun i => (μ.2.2 k i).map φ))))) := by
  unfold ent
  rw [if_neg (by omega), if_neg (by omega), if_neg (by omega)]
theorem rg_get {α : Type} {n j : Nat} {f : Nat → α} (h : j < n) : ((List.range n).map f)[j]? = some (f j) := by
  simp [List.getElem?_map, List.getElem?_range h]
theorem rg_set {α : Type} {n j : Nat} {f g : Nat → α} {v : α} (hg : ∀ i, i ≠ j → g i = f i) (hv : g j = v) : ((List.range n).map f).set j v = (List.range n).map g := by
  apply List.ext_getElem?
  intro i
  rw [List.getElem?_set]
  by_cases hi : j = i
  · subst hi
    by_cases hn : j < n
    · rw [rg_get (f := g) hn, hv]
      simp [hn]
    · simp [hn]
  · rw [if_neg hi]
    by_cases hn : i < n
    · rw [rg_get hn, rg_get hn, hg i (fun q => hi q.symm)]
    · simp [hn]
theorem rv_cat (φ : Nat → Nat) (v : Value) : (rv φ v).category = v.category := by cases v <;> rfl
theorem rv_sum (φ : Nat → Nat) (st : List Value) : ((st.map (rv φ)).map fun v => v.category).sum = (st.map fun v => v.category).sum := by
  rw [List.map_map]
  congr 1
  apply List.map_congr_left
  intro v _
  exact rv_cat φ v
theorem rl_at {φ : Nat → Nat} {ls : List (Nat × Value)} {k : Nat} {q : Nat × Value} (h : ls[k]? = some q) : (ls.map (rl φ))[k]? = some (rl φ q) := by
  rw [List.getElem?_map, h]; rfl
theorem rl_f1 {φ : Nat → Nat} {ls ls' : List (Nat × Value)} {i : Nat} {v : Value} (h : (i, v) :: ls.filter (fun q => !(q.1 == i) && !(q.1 + 1 == i && q.2.category == 2)) = ls') : (i, rv φ v) :: (ls.map (rl φ)).filter (fun q => !(q.1 == i) && !(q.1 + 1 == i && q.2.category == 2)) = ls'.map (rl φ) := by
  subst h
  rw [List.map_cons, List.filter_map]
  refine congrArg (fun t => (i, rv φ v) :: t) (congrArg (List.map (rl φ)) ?_)
  congr 1
  funext q
  simp [rl, rv_cat]
theorem rl_f2 {φ : Nat → Nat} {ls ls' : List (Nat × Value)} {i : Nat} {v : Value} (h : (i, v) :: ls.filter (fun q => !(q.1 == i) && (!(q.1 == i + 1) && !(q.1 + 1 == i && q.2.category == 2))) = ls') : (i, rv φ v) :: (ls.map (rl φ)).filter (fun q => !(q.1 == i) && (!(q.1 == i + 1) && !(q.1 + 1 == i && q.2.category == 2))) = ls'.map (rl φ) := by
  subst h
  rw [List.map_cons, List.filter_map]
  refine congrArg (fun t => (i, rv φ v) :: t) (congrArg (List.map (rl φ)) ?_)
  congr 1
  funext q
  simp [rl, rv_cat]
theorem rl_args (φ : Nat → Nat) : ∀ (as : List Value) (i : Nat), (lv_args i as).map (rl φ) = lv_args i (as.map (rv φ))
  | [], _ => rfl
  | v :: vs, i => by
    show (i, rv φ v) :: (lv_args (if v.category = 2 then i + 2 else i + 1) vs).map (rl φ) = (i, rv φ v) :: lv_args (if (rv φ v).category = 2 then i + 2 else i + 1) (vs.map (rv φ))
    rw [rl_args φ vs, rv_cat]
theorem rl_pick {φ : Nat → Nat} {ls ls' : List (Nat × Value)} (ks : List Nat) (h : lv_pick ls ks = ls') : lv_pick (ls.map (rl φ)) ks = ls'.map (rl φ) := by
  subst h
  unfold lv_pick
  rw [List.map_filterMap]
  congr 1
  funext k
  rw [List.getElem?_map]

/-! texts and statics that were there before: text i is cell 500 + i, its bytes 600 + i, TWO_OF_FOUR 700, a formatter of the JDK's 701 -/
def nJS : Nat := 14
def ownJS : List String := ["NamesOnLetters$Expression", "NamesOnLetters", "NamesOnLetters", "NamesOnLetters", "NamesOnLettersModel", "NamesOnLettersModel", "NamesOnLettersModel", "NamesOnLettersModel", "NamesOnLettersModel", "NamesOnLettersModel", "NamesOnLettersModel", "NamesOnLettersModel", "NamesOnLettersModel", "NamesOnLettersModel"]
def idxJS : List Nat := [37, 113, 143, 288, 201, 183, 185, 191, 199, 209, 211, 213, 215, 217]
def txJS : List String := ["wesdpxcatonkm\x72", "no such letter, or nothing of that number is told of it", "no such letter, or that law was not told", "the row has no such numbe\x72", "!-", "wesdpxcatonkm", "wesdpxcato\x72", "(", ")", "|", "&", "<>=", "+-", "*"]
def lenJS : List Nat := [14, 55, 40, 26, 2, 13, 11, 1, 1, 1, 1, 3, 2, 1]
def bytJS : List (List Int32) := [[119, 101, 115, 100, 112, 120, 99, 97, 116, 111, 110, 107, 109, 114], [110, 111, 32, 115, 117, 99, 104, 32, 108, 101, 116, 116, 101, 114, 44, 32, 111, 114, 32, 110, 111, 116, 104, 105, 110, 103, 32, 111, 102, 32, 116, 104, 97, 116, 32, 110, 117, 109, 98, 101, 114, 32, 105, 115, 32, 116, 111, 108, 100, 32, 111, 102, 32, 105, 116], [110, 111, 32, 115, 117, 99, 104, 32, 108, 101, 116, 116, 101, 114, 44, 32, 111, 114, 32, 116, 104, 97, 116, 32, 108, 97, 119, 32, 119, 97, 115, 32, 110, 111, 116, 32, 116, 111, 108, 100], [116, 104, 101, 32, 114, 111, 119, 32, 104, 97, 115, 32, 110, 111, 32, 115, 117, 99, 104, 32, 110, 117, 109, 98, 101, 114], [33, 45], [119, 101, 115, 100, 112, 120, 99, 97, 116, 111, 110, 107, 109], [119, 101, 115, 100, 112, 120, 99, 97, 116, 111, 114], [40], [41], [124], [38], [60, 62, 61], [43, 45], [42]]
def twoL : List Int32 := [3, 5, 9, 6, 10, 12]
def AE (s0 : State) : Nat → Prop := fun q => s0.heap.size ≤ q
def EX (φ : Nat → Nat) (s0 : State) : Prop :=
  vk_S nJS lenJS bytJS (fun i => φ (500 + i)) (fun i => φ (600 + i)) (AE s0) s0 s0.heap ∧ (∀ i, i < nJS → vk_R (ownJS.getD i "") (idxJS.getD i 0) (txJS.getD i "") (φ (500 + i)) s0) ∧ va_Z "NamesOnLetters$Told" "TWO_OF_FOUR" "[I" (.ref (φ 700)) (AE s0) s0 s0.heap ∧ va_T .int (φ 700) 6 (fun j => .int (twoL.getD j 0)) (AE s0) s0 s0.heap ∧ va_Z "java/lang/String" "COMPACT_STRINGS" "Z" (.int 1) (AE s0) s0 s0.heap ∧ (va_Z "jdk/internal/util/Preconditions" "SIOOBE_FORMATTER" "Ljava/util/function/BiFunction;" .null (AE s0) s0 s0.heap ∨ va_Z "jdk/internal/util/Preconditions" "SIOOBE_FORMATTER" "Ljava/util/function/BiFunction;" (.ref (φ 701)) (AE s0) s0 s0.heap) ∧ vx_Zq Bundle.tN "UNASSIGNED_STACK" Bundle.steD (AE s0) s0 s0.heap ∧ vx_Zq Bundle.tN "SUPPRESSED_SENTINEL" Bundle.listD (AE s0) s0 s0.heap

/-- the fixed facts of a launch's picture -/
def GX (φ : Nat → Nat) (tc : Nat → ClassId) (D : va_G) (s0 : State) : Prop := va_K D vwCl (tyL tc) s0 ∧ (∀ i j, i < NC → j < NC → φ i = φ j → i = j) ∧ (∀ k, k < NC → s0.heap.size ≤ φ k) ∧ EX φ s0
/-- the fixed facts of one activation -/
def CX (p : Program) (s : State) (m : MethodId) (args : Array Value) (meth : Method) (c : Code) (φ : Nat → Nat) (tc : Nat → ClassId) (D : va_G) (LA : Nat → Prop) (s0 : State) (cc : ByteArray) (own : String) (nL : Nat) : Prop :=
  p.tables.exec = Jvm.exec ∧ c.code = cc ∧ c.maxLocals = nL ∧ s.vm.findClass own = some m.cls ∧ (∀ w ∈ tblA, w.before args s = true) ∧ va_K D vwCl (tyL tc) s ∧ meth.locks = false ∧ GX φ tc D s0 ∧ s0.WarmedH s.vm ∧ s0.heap.size ≤ s.heap.size ∧ (∀ q, q < s0.heap.size → s.heap[q]? = s0.heap[q]?) ∧ (∀ q, AX φ q → LA q) ∧ ∀ q, LA q → AE s0 q
def PX (φ : Nat → Nat) (tc : Nat → ClassId) (D : va_G) (s0 : State) (μ : MM) (U : State) : Prop := s0.WarmedH U.vm ∧ s0.heap.size ≤ U.heap.size ∧ (∀ q, q < s0.heap.size → U.heap[q]? = s0.heap[q]?) ∧ va_P D vwCl (mw φ tc NC μ) U.heap ∧ SR μ ∧ ∀ w ∈ tblN, va_Nw w U
def QX (φ : Nat → Nat) (tc : Nat → ClassId) (D : va_G) (Qr : Option Value → MM → Prop) : Array Value → State → Outcome → State → Prop := fun _ st oc t => ∃ (r : Option Value) (μ' : MM), oc = .returned (r.map (rv φ)) ∧ Qr r μ' ∧ va_P D vwCl (mw φ tc NC μ') t.heap ∧ SR μ' ∧ va_F (AX φ) st t
def rmX (d : Nat) : Room := { frames := d, cells := 0, slots := 0, locals := 100 * d }
def wsY (y : MethodName) (cc : ByteArray) (nL : Nat) (ret : Option FieldType) : List Cond := .code y cc nL ret :: tblG
/-- a method's contract over the picture -/
def MX (l : Launch) (φ : Nat → Nat) (tc : Nat → ClassId) (D : va_G) (s0 : State) (d : Nat) (y : MethodName) (cc : ByteArray) (nL : Nat) (ret : Option FieldType) (as : List Value) (μ : MM) (Qr : Option Value → MM → Prop) : Prop :=
  Met l y (wsY y cc nL ret) (rmX d) (va_Pc (as.map (rv φ)) (PX φ tc D s0 μ)) (QX φ tc D Qr) 0 0 (AX φ)
def QI (Q : Int32 → MM → Prop) : Option Value → MM → Prop := fun r μ => ∃ x : Int32, r = some (.int x) ∧ Q x μ
def QJ (Q : Int64 → MM → Prop) : Option Value → MM → Prop := fun r μ => ∃ x : Int64, r = some (.long x) ∧ Q x μ
def QV (Q : MM → Prop) : Option Value → MM → Prop := fun r μ => r = none ∧ Q μ
section XX
variable {p : Program} {l : Launch} {e : Env} {R : Room} {s : State} {m : MethodId} {args : Array Value} {below : List Frame} {meth : Method} {c : Code}
variable {φ : Nat → Nat} {tc : Nat → ClassId} {D : va_G} {s0 : State} {Q : State → Prop} {cc : ByteArray} {own : String} {LA : Nat → Prop} {nL kc ks pc : Nat} {ls : List (Nat × Value)} {st : List Value} {μ : MM}
def WX (p : Program) (l : Launch) (e : Env) (R : Room) (s : State) (m : MethodId) (args : Array Value) (below : List Frame) (meth : Method) (c : Code) (φ : Nat → Nat) (tc : Nat → ClassId) (D : va_G) (LA : Nat → Prop) (nL kc ks : Nat) (Q : State → Prop) (pc : Nat) (ls : List (Nat × Value)) (st : List Value) (μ : MM) : Prop :=
  ∀ (H : Heap) (locs : List Loc) (ar : Array Slot), va_P D vwCl (mw φ tc NC μ) H → SR μ → va_S LA s.heap H locs → lv_has ar nL (ls.map (rl φ)) → W p l e R s m args below meth c H locs kc ks Q (F0 m pc ar (st.map (rv φ)))
theorem x_iadd (C : CX p s m args meth c φ tc D LA s0 cc own nL) {x y : Int32} (d : decode cc pc = .ok (.iadd, 1)) (h : WX p l e R s m args below meth c φ tc D LA nL kc ks Q (pc + 1) (ls) (.int (x + y) :: st) μ) : WX p l e R s m args below meth c φ tc D LA nL kc ks Q (pc) (ls) (.int y :: .int x :: st) μ := fun H locs ar hP hR hS hl => lv_iadd C.1 C.2.1 d  (h H locs ar hP hR hS hl)
theorem x_isub (C : CX p s m args meth c φ tc D LA s0 cc own nL) {x y : Int32} (d : decode cc pc = .ok (.isub, 1)) (h : WX p l e R s m args below meth c φ tc D LA nL kc ks Q (pc + 1) (ls) (.int (x - y) :: st) μ) : WX p l e R s m args below meth c φ tc D LA nL kc ks Q (pc) (ls) (.int y :: .int x :: st) μ := fun H locs ar hP hR hS hl => lv_isub C.1 C.2.1 d  (h H locs ar hP hR hS hl)
theorem x_imul (C : CX p s m args meth c φ tc D LA s0 cc own nL) {x y : Int32} (d : decode cc pc = .ok (.imul, 1)) (h : WX p l e R s m args below meth c φ tc D LA nL kc ks Q (pc + 1) (ls) (.int (x * y) :: st) μ) : WX p l e R s m args below meth c φ tc D LA nL kc ks Q (pc) (ls) (.int y :: .int x :: st) μ := fun H locs ar hP hR hS hl => lv_imul C.1 C.2.1 d  (h H locs ar hP hR hS hl)
theorem x_iand (C : CX p s m args meth c φ tc D LA s0 cc own nL) {x y : Int32} (d : decode cc pc = .ok (.iand, 1)) (h : WX p l e R s m args below meth c φ tc D LA nL kc ks Q (pc + 1) (ls) (.int (x &&& y) :: st) μ) : WX p l e R s m args below meth c φ tc D LA nL kc ks Q (pc) (ls) (.int y :: .int x :: st) μ := fun H locs ar hP hR hS hl => lv_iand C.1 C.2.1 d  (h H locs ar hP hR hS hl)
theorem x_ior (C : CX p s m args meth c φ tc D LA s0 cc own nL) {x y : Int32} (d : decode cc pc = .ok (.ior, 1)) (h : WX p l e R s m args below meth c φ tc D LA nL kc ks Q (pc + 1) (ls) (.int (x ||| y) :: st) μ) : WX p l e R s m args below meth c φ tc D LA nL kc ks Q (pc) (ls) (.int y :: .int x :: st) μ := fun H locs ar hP hR hS hl => lv_ior C.1 C.2.1 d  (h H locs ar hP hR hS hl)
theorem x_ixor (C : CX p s m args meth c φ tc D LA s0 cc own nL) {x y : Int32} (d : decode cc pc = .ok (.ixor, 1)) (h : WX p l e R s m args below meth c φ tc D LA nL kc ks Q (pc + 1) (ls) (.int (x ^^^ y) :: st) μ) : WX p l e R s m args below meth c φ tc D LA nL kc ks Q (pc) (ls) (.int y :: .int x :: st) μ := fun H locs ar hP hR hS hl => lv_ixor C.1 C.2.1 d  (h H locs ar hP hR hS hl)
theorem x_ishl (C : CX p s m args meth c φ tc D LA s0 cc own nL) {x y : Int32} (d : decode cc pc = .ok (.ishl, 1)) (h : WX p l e R s m args below meth c φ tc D LA nL kc ks Q (pc + 1) (ls) (.int (x <<< (y &&& 31)) :: st) μ) : WX p l e R s m args below meth c φ tc D LA nL kc ks Q (pc) (ls) (.int y :: .int x :: st) μ := fun H locs ar hP hR hS hl => lv_ishl C.1 C.2.1 d  (h H locs ar hP hR hS hl)
theorem x_ishr (C : CX p s m args meth c φ tc D LA s0 cc own nL) {x y : Int32} (d : decode cc pc = .ok (.ishr, 1)) (h : WX p l e R s m args below meth c φ tc D LA nL kc ks Q (pc + 1) (ls) (.int (x >>> (y &&& 31)) :: st) μ) : WX p l e R s m args below meth c φ tc D LA nL kc ks Q (pc) (ls) (.int y :: .int x :: st) μ := fun H locs ar hP hR hS hl => lv_ishr C.1 C.2.1 d  (h H locs ar hP hR hS hl)
theorem x_ladd (C : CX p s m args meth c φ tc D LA s0 cc own nL) {x y : Int64} (d : decode cc pc = .ok (.ladd, 1)) (h : WX p l e R s m args below meth c φ tc D LA nL kc ks Q (pc + 1) (ls) (.long (x + y) :: st) μ) : WX p l e R s m args below meth c φ tc D LA nL kc ks Q (pc) (ls) (.long y :: .long x :: st) μ := fun H locs ar hP hR hS hl => lv_ladd C.1 C.2.1 d  (h H locs ar hP hR hS hl)
theorem x_lsub (C : CX p s m args meth c φ tc D LA s0 cc own nL) {x y : Int64} (d : decode cc pc = .ok (.lsub, 1)) (h : WX p l e R s m args below meth c φ tc D LA nL kc ks Q (pc + 1) (ls) (.long (x - y) :: st) μ) : WX p l e R s m args below meth c φ tc D LA nL kc ks Q (pc) (ls) (.long y :: .long x :: st) μ := fun H locs ar hP hR hS hl => lv_lsub C.1 C.2.1 d  (h H locs ar hP hR hS hl)
theorem x_lmul (C : CX p s m args meth c φ tc D LA s0 cc own nL) {x y : Int64} (d : decode cc pc = .ok (.lmul, 1)) (h : WX p l e R s m args below meth c φ tc D LA nL kc ks Q (pc + 1) (ls) (.long (x * y) :: st) μ) : WX p l e R s m args below meth c φ tc D LA nL kc ks Q (pc) (ls) (.long y :: .long x :: st) μ := fun H locs ar hP hR hS hl => lv_lmul C.1 C.2.1 d  (h H locs ar hP hR hS hl)
theorem x_idiv (C : CX p s m args meth c φ tc D LA s0 cc own nL) {x y : Int32} (hne : ¬ y = 0) (d : decode cc pc = .ok (.idiv, 1)) (h : WX p l e R s m args below meth c φ tc D LA nL kc ks Q (pc + 1) (ls) (.int (x / y) :: st) μ) : WX p l e R s m args below meth c φ tc D LA nL kc ks Q (pc) (ls) (.int y :: .int x :: st) μ := fun H locs ar hP hR hS hl => lv_idiv C.1 C.2.1 d hne (h H locs ar hP hR hS hl)
theorem x_irem (C : CX p s m args meth c φ tc D LA s0 cc own nL) {x y : Int32} (hne : ¬ y = 0) (d : decode cc pc = .ok (.irem, 1)) (h : WX p l e R s m args below meth c φ tc D LA nL kc ks Q (pc + 1) (ls) (.int (x - x / y * y) :: st) μ) : WX p l e R s m args below meth c φ tc D LA nL kc ks Q (pc) (ls) (.int y :: .int x :: st) μ := fun H locs ar hP hR hS hl => lv_irem C.1 C.2.1 d hne (h H locs ar hP hR hS hl)
theorem x_ldiv (C : CX p s m args meth c φ tc D LA s0 cc own nL) {x y : Int64} (hne : ¬ y = 0) (d : decode cc pc = .ok (.ldiv, 1)) (h : WX p l e R s m args below meth c φ tc D LA nL kc ks Q (pc + 1) (ls) (.long (x / y) :: st) μ) : WX p l e R s m args below meth c φ tc D LA nL kc ks Q (pc) (ls) (.long y :: .long x :: st) μ := fun H locs ar hP hR hS hl => lv_ldiv C.1 C.2.1 d hne (h H locs ar hP hR hS hl)
theorem x_lrem (C : CX p s m args meth c φ tc D LA s0 cc own nL) {x y : Int64} (hne : ¬ y = 0) (d : decode cc pc = .ok (.lrem, 1)) (h : WX p l e R s m args below meth c φ tc D LA nL kc ks Q (pc + 1) (ls) (.long (x - x / y * y) :: st) μ) : WX p l e R s m args below meth c φ tc D LA nL kc ks Q (pc) (ls) (.long y :: .long x :: st) μ := fun H locs ar hP hR hS hl => lv_lrem C.1 C.2.1 d hne (h H locs ar hP hR hS hl)
theorem x_ineg (C : CX p s m args meth c φ tc D LA s0 cc own nL) {x : Int32} (d : decode cc pc = .ok (.ineg, 1)) (h : WX p l e R s m args below meth c φ tc D LA nL kc ks Q (pc + 1) (ls) (.int (-x) :: st) μ) : WX p l e R s m args below meth c φ tc D LA nL kc ks Q (pc) (ls) (.int x :: st) μ := fun H locs ar hP hR hS hl => lv_ineg C.1 C.2.1 d  (h H locs ar hP hR hS hl)
theorem x_lneg (C : CX p s m args meth c φ tc D LA s0 cc own nL) {x : Int64} (d : decode cc pc = .ok (.lneg, 1)) (h : WX p l e R s m args below meth c φ tc D LA nL kc ks Q (pc + 1) (ls) (.long (-x) :: st) μ) : WX p l e R s m args below meth c φ tc D LA nL kc ks Q (pc) (ls) (.long x :: st) μ := fun H locs ar hP hR hS hl => lv_lneg C.1 C.2.1 d  (h H locs ar hP hR hS hl)
theorem x_i2l (C : CX p s m args meth c φ tc D LA s0 cc own nL) {x : Int32} (d : decode cc pc = .ok (.i2l, 1)) (h : WX p l e R s m args below meth c φ tc D LA nL kc ks Q (pc + 1) (ls) (.long (x.toInt64) :: st) μ) : WX p l e R s m args below meth c φ tc D LA nL kc ks Q (pc) (ls) (.int x :: st) μ := fun H locs ar hP hR hS hl => lv_i2l C.1 C.2.1 d rfl (h H locs ar hP hR hS hl)
theorem x_l2i (C : CX p s m args meth c φ tc D LA s0 cc own nL) {x : Int64} (d : decode cc pc = .ok (.l2i, 1)) (h : WX p l e R s m args below meth c φ tc D LA nL kc ks Q (pc + 1) (ls) (.int (x.toInt32) :: st) μ) : WX p l e R s m args below meth c φ tc D LA nL kc ks Q (pc) (ls) (.long x :: st) μ := fun H locs ar hP hR hS hl => lv_l2i C.1 C.2.1 d rfl (h H locs ar hP hR hS hl)
theorem x_i2b (C : CX p s m args meth c φ tc D LA s0 cc own nL) {x : Int32} (d : decode cc pc = .ok (.i2b, 1)) (h : WX p l e R s m args below meth c φ tc D LA nL kc ks Q (pc + 1) (ls) (.int (x.toInt8.toInt32) :: st) μ) : WX p l e R s m args below meth c φ tc D LA nL kc ks Q (pc) (ls) (.int x :: st) μ := fun H locs ar hP hR hS hl => lv_i2b C.1 C.2.1 d rfl (h H locs ar hP hR hS hl)
theorem x_i2s (C : CX p s m args meth c φ tc D LA s0 cc own nL) {x : Int32} (d : decode cc pc = .ok (.i2s, 1)) (h : WX p l e R s m args below meth c φ tc D LA nL kc ks Q (pc + 1) (ls) (.int (x.toInt16.toInt32) :: st) μ) : WX p l e R s m args below meth c φ tc D LA nL kc ks Q (pc) (ls) (.int x :: st) μ := fun H locs ar hP hR hS hl => lv_i2s C.1 C.2.1 d rfl (h H locs ar hP hR hS hl)
theorem x_i2c (C : CX p s m args meth c φ tc D LA s0 cc own nL) {x : Int32} (d : decode cc pc = .ok (.i2c, 1)) (h : WX p l e R s m args below meth c φ tc D LA nL kc ks Q (pc + 1) (ls) (.int ((x.toUInt32 % 65536).toInt32) :: st) μ) : WX p l e R s m args below meth c φ tc D LA nL kc ks Q (pc) (ls) (.int x :: st) μ := fun H locs ar hP hR hS hl => lv_i2c C.1 C.2.1 d rfl (h H locs ar hP hR hS hl)
theorem x_iushr (C : CX p s m args meth c φ tc D LA s0 cc own nL) {x y : Int32} (d : decode cc pc = .ok (.iushr, 1)) (h : WX p l e R s m args below meth c φ tc D LA nL kc ks Q (pc + 1) (ls) (.int ((x.toUInt32 >>> (y.toUInt32 &&& Int32.toUInt32 31)).toInt32) :: st) μ) : WX p l e R s m args below meth c φ tc D LA nL kc ks Q (pc) (ls) (.int y :: .int x :: st) μ := fun H locs ar hP hR hS hl => lv_iushr C.1 C.2.1 d rfl (h H locs ar hP hR hS hl)
theorem x_lcmp (C : CX p s m args meth c φ tc D LA s0 cc own nL) {x y : Int64} (d : decode cc pc = .ok (.lcmp, 1)) (h : WX p l e R s m args below meth c φ tc D LA nL kc ks Q (pc + 1) (ls) (.int (lg_cmp x y) :: st) μ) : WX p l e R s m args below meth c φ tc D LA nL kc ks Q (pc) (ls) (.long y :: .long x :: st) μ := fun H locs ar hP hR hS hl => W.lcmp C.1 C.2.1 d (h H locs ar hP hR hS hl)
theorem x_dup (C : CX p s m args meth c φ tc D LA s0 cc own nL) {va : Value} (hva : va.category = 1) (d : decode cc pc = .ok (.dup, 1)) (h : WX p l e R s m args below meth c φ tc D LA nL kc ks Q (pc + 1) (ls) (va :: va :: st) μ) : WX p l e R s m args below meth c φ tc D LA nL kc ks Q (pc) (ls) (va :: st) μ := fun H locs ar hP hR hS hl => lv_dup C.1 C.2.1 d ((rv_cat φ va).trans hva) (h H locs ar hP hR hS hl)
theorem x_pop (C : CX p s m args meth c φ tc D LA s0 cc own nL) {va : Value} (hva : va.category = 1) (d : decode cc pc = .ok (.pop, 1)) (h : WX p l e R s m args below meth c φ tc D LA nL kc ks Q (pc + 1) (ls) (st) μ) : WX p l e R s m args below meth c φ tc D LA nL kc ks Q (pc) (ls) (va :: st) μ := fun H locs ar hP hR hS hl => lv_pop C.1 C.2.1 d ((rv_cat φ va).trans hva) (h H locs ar hP hR hS hl)
theorem x_dup2_11 (C : CX p s m args meth c φ tc D LA s0 cc own nL) {va vb : Value} (hva : va.category = 1) (hvb : vb.category = 1) (d : decode cc pc = .ok (.dup2, 1)) (h : WX p l e R s m args below meth c φ tc D LA nL kc ks Q (pc + 1) (ls) (va :: vb :: va :: vb :: st) μ) : WX p l e R s m args below meth c φ tc D LA nL kc ks Q (pc) (ls) (va :: vb :: st) μ := fun H locs ar hP hR hS hl => lv_dup2_11 C.1 C.2.1 d ((rv_cat φ va).trans hva) ((rv_cat φ vb).trans hvb) (h H locs ar hP hR hS hl)
theorem x_dup2_2 (C : CX p s m args meth c φ tc D LA s0 cc own nL) {va : Value} (hva : va.category = 2) (d : decode cc pc = .ok (.dup2, 1)) (h : WX p l e R s m args below meth c φ tc D LA nL kc ks Q (pc + 1) (ls) (va :: va :: st) μ) : WX p l e R s m args below meth c φ tc D LA nL kc ks Q (pc) (ls) (va :: st) μ := fun H locs ar hP hR hS hl => lv_dup2_2 C.1 C.2.1 d ((rv_cat φ va).trans hva) (h H locs ar hP hR hS hl)
theorem x_dup_x1 (C : CX p s m args meth c φ tc D LA s0 cc own nL) {va vb : Value} (hva : va.category = 1) (hvb : vb.category = 1) (d : decode cc pc = .ok (.dup_x1, 1)) (h : WX p l e R s m args below meth c φ tc D LA nL kc ks Q (pc + 1) (ls) (va :: vb :: va :: st) μ) : WX p l e R s m args below meth c φ tc D LA nL kc ks Q (pc) (ls) (va :: vb :: st) μ := fun H locs ar hP hR hS hl => lv_dup_x1 C.1 C.2.1 d ((rv_cat φ va).trans hva) ((rv_cat φ vb).trans hvb) (h H locs ar hP hR hS hl)
theorem x_iconst (C : CX p s m args meth c φ tc D LA s0 cc own nL) {n : Int} {v : Int32} (hv : Int32.ofInt n = v) (d : decode cc pc = .ok (.iconst n, 1)) (h : WX p l e R s m args below meth c φ tc D LA nL kc ks Q (pc + 1) (ls) (.int v :: st) μ) : WX p l e R s m args below meth c φ tc D LA nL kc ks Q (pc) (ls) (st) μ := fun H locs ar hP hR hS hl => lv_iconst C.1 C.2.1 d hv (h H locs ar hP hR hS hl)
theorem x_bipush (C : CX p s m args meth c φ tc D LA s0 cc own nL) {n : Int} {v : Int32} (hv : (Int8.ofInt n).toInt32 = v) (d : decode cc pc = .ok (.bipush n, 2)) (h : WX p l e R s m args below meth c φ tc D LA nL kc ks Q (pc + 2) (ls) (.int v :: st) μ) : WX p l e R s m args below meth c φ tc D LA nL kc ks Q (pc) (ls) (st) μ := fun H locs ar hP hR hS hl => lv_bipush C.1 C.2.1 d hv (h H locs ar hP hR hS hl)
theorem x_sipush (C : CX p s m args meth c φ tc D LA s0 cc own nL) {n : Int} {v : Int32} (hv : (Int16.ofInt n).toInt32 = v) (d : decode cc pc = .ok (.sipush n, 3)) (h : WX p l e R s m args below meth c φ tc D LA nL kc ks Q (pc + 3) (ls) (.int v :: st) μ) : WX p l e R s m args below meth c φ tc D LA nL kc ks Q (pc) (ls) (st) μ := fun H locs ar hP hR hS hl => lv_sipush C.1 C.2.1 d hv (h H locs ar hP hR hS hl)
theorem x_lconst (C : CX p s m args meth c φ tc D LA s0 cc own nL) {n : Fin 2} {v : Int64} (hv : Int64.ofNat (n : Nat) = v) (d : decode cc pc = .ok (.lconst n, 1)) (h : WX p l e R s m args below meth c φ tc D LA nL kc ks Q (pc + 1) (ls) (.long v :: st) μ) : WX p l e R s m args below meth c φ tc D LA nL kc ks Q (pc) (ls) (st) μ := fun H locs ar hP hR hS hl => lv_lconst C.1 C.2.1 d hv (h H locs ar hP hR hS hl)
theorem x_ldc (C : CX p s m args meth c φ tc D LA s0 cc own nL) {v : Int32} {index : Nat} (w : Cond.constant own index v ∈ tblA) (d : decode cc pc = .ok (.ldc index, 2)) (h : WX p l e R s m args below meth c φ tc D LA nL kc ks Q (pc + 2) (ls) (.int v :: st) μ) : WX p l e R s m args below meth c φ tc D LA nL kc ks Q (pc) (ls) (st) μ := fun H locs ar hP hR hS hl => lv_ldc C.1 C.2.1 C.2.2.2.1 (C.2.2.2.2.1 _ w) d (h H locs ar hP hR hS hl)
theorem x_ldcw (C : CX p s m args meth c φ tc D LA s0 cc own nL) {v : Int32} {index : Nat} (w : Cond.constant own index v ∈ tblA) (d : decode cc pc = .ok (.ldc_w index, 3)) (h : WX p l e R s m args below meth c φ tc D LA nL kc ks Q (pc + 3) (ls) (.int v :: st) μ) : WX p l e R s m args below meth c φ tc D LA nL kc ks Q (pc) (ls) (st) μ := fun H locs ar hP hR hS hl => lv_ldcw C.1 C.2.1 C.2.2.2.1 (C.2.2.2.2.1 _ w) d (h H locs ar hP hR hS hl)
theorem x_ldc2 (C : CX p s m args meth c φ tc D LA s0 cc own nL) {v : Int64} {index : Nat} (w : Cond.constantLong own index v ∈ tblA) (d : decode cc pc = .ok (.ldc2_w index, 3)) (h : WX p l e R s m args below meth c φ tc D LA nL kc ks Q (pc + 3) (ls) (.long v :: st) μ) : WX p l e R s m args below meth c φ tc D LA nL kc ks Q (pc) (ls) (st) μ := fun H locs ar hP hR hS hl => lv_ldc2 C.1 C.2.1 C.2.2.2.1 (C.2.2.2.2.1 _ w) d (h H locs ar hP hR hS hl)
theorem x_iload_n (C : CX p s m args meth c φ tc D LA s0 cc own nL) {k : Fin 4} {i : Nat} {x : Int32} (hi : (k : Nat) = i) (j : Nat) (hj : ls[j]? = some (i, .int x)) (d : decode cc pc = .ok (.iload_n k, 1)) (h : WX p l e R s m args below meth c φ tc D LA nL kc ks Q (pc + 1) (ls) (.int x :: st) μ) : WX p l e R s m args below meth c φ tc D LA nL kc ks Q (pc) (ls) (st) μ := fun H locs ar hP hR hS hl => lv_iload_n C.1 C.2.1 d hi (lv_at hl j (rl_at hj)) (h H locs ar hP hR hS hl)
theorem x_iload (C : CX p s m args meth c φ tc D LA s0 cc own nL) {i : Nat} {x : Int32} (j : Nat) (hj : ls[j]? = some (i, .int x)) (d : decode cc pc = .ok (.iload i, 2)) (h : WX p l e R s m args below meth c φ tc D LA nL kc ks Q (pc + 2) (ls) (.int x :: st) μ) : WX p l e R s m args below meth c φ tc D LA nL kc ks Q (pc) (ls) (st) μ := fun H locs ar hP hR hS hl => lv_iload C.1 C.2.1 d (lv_at hl j (rl_at hj)) (h H locs ar hP hR hS hl)
theorem x_istore_n (C : CX p s m args meth c φ tc D LA s0 cc own nL) {k : Fin 4} {i : Nat} {x : Int32} (ls' : List (Nat × Value)) (hi : (k : Nat) = i) (hn : i < nL) (hls : (i, .int x) :: ls.filter (fun q => !(q.1 == i) && !(q.1 + 1 == i && q.2.category == 2)) = ls') (d : decode cc pc = .ok (.istore_n k, 1)) (h : WX p l e R s m args below meth c φ tc D LA nL kc ks Q (pc + 1) (ls') (st) μ) : WX p l e R s m args below meth c φ tc D LA nL kc ks Q (pc) (ls) (.int x :: st) μ := fun H locs ar hP hR hS hl => lv_istore_n C.1 C.2.1 d hi hl hn (rl_f1 hls) (fun ar hl => h H locs ar hP hR hS hl)
theorem x_istore (C : CX p s m args meth c φ tc D LA s0 cc own nL) {i : Nat} {x : Int32} (ls' : List (Nat × Value)) (hn : i < nL) (hls : (i, .int x) :: ls.filter (fun q => !(q.1 == i) && !(q.1 + 1 == i && q.2.category == 2)) = ls') (d : decode cc pc = .ok (.istore i, 2)) (h : WX p l e R s m args below meth c φ tc D LA nL kc ks Q (pc + 2) (ls') (st) μ) : WX p l e R s m args below meth c φ tc D LA nL kc ks Q (pc) (ls) (.int x :: st) μ := fun H locs ar hP hR hS hl => lv_istore C.1 C.2.1 d hl hn (rl_f1 hls) (fun ar hl => h H locs ar hP hR hS hl)
theorem x_lload_n (C : CX p s m args meth c φ tc D LA s0 cc own nL) {k : Fin 4} {i : Nat} {x : Int64} (hi : (k : Nat) = i) (j : Nat) (hj : ls[j]? = some (i, .long x)) (d : decode cc pc = .ok (.lload_n k, 1)) (h : WX p l e R s m args below meth c φ tc D LA nL kc ks Q (pc + 1) (ls) (.long x :: st) μ) : WX p l e R s m args below meth c φ tc D LA nL kc ks Q (pc) (ls) (st) μ := fun H locs ar hP hR hS hl => lv_lload_n C.1 C.2.1 d hi (lv_at hl j (rl_at hj)) (h H locs ar hP hR hS hl)
theorem x_lload (C : CX p s m args meth c φ tc D LA s0 cc own nL) {i : Nat} {x : Int64} (j : Nat) (hj : ls[j]? = some (i, .long x)) (d : decode cc pc = .ok (.lload i, 2)) (h : WX p l e R s m args below meth c φ tc D LA nL kc ks Q (pc + 2) (ls) (.long x :: st) μ) : WX p l e R s m args below meth c φ tc D LA nL kc ks Q (pc) (ls) (st) μ := fun H locs ar hP hR hS hl => lv_lload C.1 C.2.1 d (lv_at hl j (rl_at hj)) (h H locs ar hP hR hS hl)
theorem x_lstore_n (C : CX p s m args meth c φ tc D LA s0 cc own nL) {k : Fin 4} {i : Nat} {x : Int64} (ls' : List (Nat × Value)) (hi : (k : Nat) = i) (hn : i + 1 < nL) (hls : (i, .long x) :: ls.filter (fun q => !(q.1 == i) && (!(q.1 == i + 1) && !(q.1 + 1 == i && q.2.category == 2))) = ls') (d : decode cc pc = .ok (.lstore_n k, 1)) (h : WX p l e R s m args below meth c φ tc D LA nL kc ks Q (pc + 1) (ls') (st) μ) : WX p l e R s m args below meth c φ tc D LA nL kc ks Q (pc) (ls) (.long x :: st) μ := fun H locs ar hP hR hS hl => lv_lstore_n C.1 C.2.1 d hi hl hn (rl_f2 hls) (fun ar hl => h H locs ar hP hR hS hl)
theorem x_lstore (C : CX p s m args meth c φ tc D LA s0 cc own nL) {i : Nat} {x : Int64} (ls' : List (Nat × Value)) (hn : i + 1 < nL) (hls : (i, .long x) :: ls.filter (fun q => !(q.1 == i) && (!(q.1 == i + 1) && !(q.1 + 1 == i && q.2.category == 2))) = ls') (d : decode cc pc = .ok (.lstore i, 2)) (h : WX p l e R s m args below meth c φ tc D LA nL kc ks Q (pc + 2) (ls') (st) μ) : WX p l e R s m args below meth c φ tc D LA nL kc ks Q (pc) (ls) (.long x :: st) μ := fun H locs ar hP hR hS hl => lv_lstore C.1 C.2.1 d hl hn (rl_f2 hls) (fun ar hl => h H locs ar hP hR hS hl)
theorem x_aload_n (C : CX p s m args meth c φ tc D LA s0 cc own nL) {k : Fin 4} {i : Nat} {x : Nat} (hi : (k : Nat) = i) (j : Nat) (hj : ls[j]? = some (i, .ref x)) (d : decode cc pc = .ok (.aload_n k, 1)) (h : WX p l e R s m args below meth c φ tc D LA nL kc ks Q (pc + 1) (ls) (.ref x :: st) μ) : WX p l e R s m args below meth c φ tc D LA nL kc ks Q (pc) (ls) (st) μ := fun H locs ar hP hR hS hl => lv_aload_n C.1 C.2.1 d hi (lv_at hl j (rl_at hj)) (h H locs ar hP hR hS hl)
theorem x_aload (C : CX p s m args meth c φ tc D LA s0 cc own nL) {i : Nat} {x : Nat} (j : Nat) (hj : ls[j]? = some (i, .ref x)) (d : decode cc pc = .ok (.aload i, 2)) (h : WX p l e R s m args below meth c φ tc D LA nL kc ks Q (pc + 2) (ls) (.ref x :: st) μ) : WX p l e R s m args below meth c φ tc D LA nL kc ks Q (pc) (ls) (st) μ := fun H locs ar hP hR hS hl => lv_aload C.1 C.2.1 d (lv_at hl j (rl_at hj)) (h H locs ar hP hR hS hl)
theorem x_astore_n (C : CX p s m args meth c φ tc D LA s0 cc own nL) {k : Fin 4} {i : Nat} {x : Nat} (ls' : List (Nat × Value)) (hi : (k : Nat) = i) (hn : i < nL) (hls : (i, .ref x) :: ls.filter (fun q => !(q.1 == i) && !(q.1 + 1 == i && q.2.category == 2)) = ls') (d : decode cc pc = .ok (.astore_n k, 1)) (h : WX p l e R s m args below meth c φ tc D LA nL kc ks Q (pc + 1) (ls') (st) μ) : WX p l e R s m args below meth c φ tc D LA nL kc ks Q (pc) (ls) (.ref x :: st) μ := fun H locs ar hP hR hS hl => lv_astore_n C.1 C.2.1 d hi hl hn (rl_f1 hls) (fun ar hl => h H locs ar hP hR hS hl)
theorem x_astore (C : CX p s m args meth c φ tc D LA s0 cc own nL) {i : Nat} {x : Nat} (ls' : List (Nat × Value)) (hn : i < nL) (hls : (i, .ref x) :: ls.filter (fun q => !(q.1 == i) && !(q.1 + 1 == i && q.2.category == 2)) = ls') (d : decode cc pc = .ok (.astore i, 2)) (h : WX p l e R s m args below meth c φ tc D LA nL kc ks Q (pc + 2) (ls') (st) μ) : WX p l e R s m args below meth c φ tc D LA nL kc ks Q (pc) (ls) (.ref x :: st) μ := fun H locs ar hP hR hS hl => lv_astore C.1 C.2.1 d hl hn (rl_f1 hls) (fun ar hl => h H locs ar hP hR hS hl)
theorem x_iinc (C : CX p s m args meth c φ tc D LA s0 cc own nL) {i : Nat} {n : Int} {x v : Int32} (ls' : List (Nat × Value)) (j : Nat) (hj : ls[j]? = some (i, .int x)) (hv : x + Int32.ofInt n = v) (hn : i < nL) (hls : (i, .int v) :: ls.filter (fun q => !(q.1 == i) && !(q.1 + 1 == i && q.2.category == 2)) = ls') (d : decode cc pc = .ok (.iinc i n, 3)) (h : WX p l e R s m args below meth c φ tc D LA nL kc ks Q (pc + 3) (ls') (st) μ) : WX p l e R s m args below meth c φ tc D LA nL kc ks Q (pc) (ls) (st) μ := fun H locs ar hP hR hS hl => lv_iinc C.1 C.2.1 d hl (rl_at hj) hv hn (rl_f1 hls) (fun ar hl => h H locs ar hP hR hS hl)
theorem x_iincW (C : CX p s m args meth c φ tc D LA s0 cc own nL) {i : Nat} {n : Int} {x v : Int32} (ls' : List (Nat × Value)) (j : Nat) (hj : ls[j]? = some (i, .int x)) (hv : x + Int32.ofInt n = v) (hn : i < nL) (hls : (i, .int v) :: ls.filter (fun q => !(q.1 == i) && !(q.1 + 1 == i && q.2.category == 2)) = ls') (d : decode cc pc = .ok (.iinc i n, 6)) (h : WX p l e R s m args below meth c φ tc D LA nL kc ks Q (pc + 6) (ls') (st) μ) : WX p l e R s m args below meth c φ tc D LA nL kc ks Q (pc) (ls) (st) μ := fun H locs ar hP hR hS hl => lv_iincW C.1 C.2.1 d hl (rl_at hj) hv hn (rl_f1 hls) (fun ar hl => h H locs ar hP hR hS hl)
theorem x_sub (ls' : List (Nat × Value)) (ps : List Nat) (hk : lv_pick ls ps = ls') (h : WX p l e R s m args below meth c φ tc D LA nL kc ks Q (pc) (ls') (st) μ) : WX p l e R s m args below meth c φ tc D LA nL kc ks Q (pc) (ls) (st) μ := fun H locs ar hP hR hS hl => h H locs ar hP hR hS (lv_sub hl ps (rl_pick ps hk))
theorem x_if_eq (C : CX p s m args meth c φ tc D LA s0 cc own nL) {x : Int32} {off : Int} {tgt : Nat} (d : decode cc pc = .ok (.ifCond .eq off, 3)) (ht : (pc : Int) + off = (tgt : Int)) (kt : x = 0 → WX p l e R s m args below meth c φ tc D LA nL kc ks Q (tgt) (ls) (st) μ) (kf : ¬ (x = 0) → WX p l e R s m args below meth c φ tc D LA nL kc ks Q (pc + 3) (ls) (st) μ) : WX p l e R s m args below meth c φ tc D LA nL kc ks Q (pc) (ls) (.int x :: st) μ := fun H locs ar hP hR hS hl => lv_if_eq C.1 C.2.1 d ht (fun q => kt q H locs ar hP hR hS hl) (fun q => kf q H locs ar hP hR hS hl)
theorem x_if_ne (C : CX p s m args meth c φ tc D LA s0 cc own nL) {x : Int32} {off : Int} {tgt : Nat} (d : decode cc pc = .ok (.ifCond .ne off, 3)) (ht : (pc : Int) + off = (tgt : Int)) (kt : ¬ x = 0 → WX p l e R s m args below meth c φ tc D LA nL kc ks Q (tgt) (ls) (st) μ) (kf : x = 0 → WX p l e R s m args below meth c φ tc D LA nL kc ks Q (pc + 3) (ls) (st) μ) : WX p l e R s m args below meth c φ tc D LA nL kc ks Q (pc) (ls) (.int x :: st) μ := fun H locs ar hP hR hS hl => lv_if_ne C.1 C.2.1 d ht (fun q => kt q H locs ar hP hR hS hl) (fun q => kf q H locs ar hP hR hS hl)
theorem x_if_lt (C : CX p s m args meth c φ tc D LA s0 cc own nL) {x : Int32} {off : Int} {tgt : Nat} (d : decode cc pc = .ok (.ifCond .lt off, 3)) (ht : (pc : Int) + off = (tgt : Int)) (kt : x < 0 → WX p l e R s m args below meth c φ tc D LA nL kc ks Q (tgt) (ls) (st) μ) (kf : ¬ (x < 0) → WX p l e R s m args below meth c φ tc D LA nL kc ks Q (pc + 3) (ls) (st) μ) : WX p l e R s m args below meth c φ tc D LA nL kc ks Q (pc) (ls) (.int x :: st) μ := fun H locs ar hP hR hS hl => lv_if_lt C.1 C.2.1 d ht (fun q => kt q H locs ar hP hR hS hl) (fun q => kf q H locs ar hP hR hS hl)
theorem x_if_ge (C : CX p s m args meth c φ tc D LA s0 cc own nL) {x : Int32} {off : Int} {tgt : Nat} (d : decode cc pc = .ok (.ifCond .ge off, 3)) (ht : (pc : Int) + off = (tgt : Int)) (kt : 0 ≤ x → WX p l e R s m args below meth c φ tc D LA nL kc ks Q (tgt) (ls) (st) μ) (kf : ¬ (0 ≤ x) → WX p l e R s m args below meth c φ tc D LA nL kc ks Q (pc + 3) (ls) (st) μ) : WX p l e R s m args below meth c φ tc D LA nL kc ks Q (pc) (ls) (.int x :: st) μ := fun H locs ar hP hR hS hl => lv_if_ge C.1 C.2.1 d ht (fun q => kt q H locs ar hP hR hS hl) (fun q => kf q H locs ar hP hR hS hl)
theorem x_if_gt (C : CX p s m args meth c φ tc D LA s0 cc own nL) {x : Int32} {off : Int} {tgt : Nat} (d : decode cc pc = .ok (.ifCond .gt off, 3)) (ht : (pc : Int) + off = (tgt : Int)) (kt : 0 < x → WX p l e R s m args below meth c φ tc D LA nL kc ks Q (tgt) (ls) (st) μ) (kf : ¬ (0 < x) → WX p l e R s m args below meth c φ tc D LA nL kc ks Q (pc + 3) (ls) (st) μ) : WX p l e R s m args below meth c φ tc D LA nL kc ks Q (pc) (ls) (.int x :: st) μ := fun H locs ar hP hR hS hl => lv_if_gt C.1 C.2.1 d ht (fun q => kt q H locs ar hP hR hS hl) (fun q => kf q H locs ar hP hR hS hl)
theorem x_if_le (C : CX p s m args meth c φ tc D LA s0 cc own nL) {x : Int32} {off : Int} {tgt : Nat} (d : decode cc pc = .ok (.ifCond .le off, 3)) (ht : (pc : Int) + off = (tgt : Int)) (kt : x ≤ 0 → WX p l e R s m args below meth c φ tc D LA nL kc ks Q (tgt) (ls) (st) μ) (kf : ¬ (x ≤ 0) → WX p l e R s m args below meth c φ tc D LA nL kc ks Q (pc + 3) (ls) (st) μ) : WX p l e R s m args below meth c φ tc D LA nL kc ks Q (pc) (ls) (.int x :: st) μ := fun H locs ar hP hR hS hl => lv_if_le C.1 C.2.1 d ht (fun q => kt q H locs ar hP hR hS hl) (fun q => kf q H locs ar hP hR hS hl)
theorem x_icmp_eq (C : CX p s m args meth c φ tc D LA s0 cc own nL) {x y : Int32} {off : Int} {tgt : Nat} (d : decode cc pc = .ok (.if_icmp .eq off, 3)) (ht : (pc : Int) + off = (tgt : Int)) (kt : x = y → WX p l e R s m args below meth c φ tc D LA nL kc ks Q (tgt) (ls) (st) μ) (kf : ¬ (x = y) → WX p l e R s m args below meth c φ tc D LA nL kc ks Q (pc + 3) (ls) (st) μ) : WX p l e R s m args below meth c φ tc D LA nL kc ks Q (pc) (ls) (.int y :: .int x :: st) μ := fun H locs ar hP hR hS hl => lv_icmp_eq C.1 C.2.1 d ht (fun q => kt q H locs ar hP hR hS hl) (fun q => kf q H locs ar hP hR hS hl)
theorem x_icmp_ne (C : CX p s m args meth c φ tc D LA s0 cc own nL) {x y : Int32} {off : Int} {tgt : Nat} (d : decode cc pc = .ok (.if_icmp .ne off, 3)) (ht : (pc : Int) + off = (tgt : Int)) (kt : ¬ x = y → WX p l e R s m args below meth c φ tc D LA nL kc ks Q (tgt) (ls) (st) μ) (kf : x = y → WX p l e R s m args below meth c φ tc D LA nL kc ks Q (pc + 3) (ls) (st) μ) : WX p l e R s m args below meth c φ tc D LA nL kc ks Q (pc) (ls) (.int y :: .int x :: st) μ := fun H locs ar hP hR hS hl => lv_icmp_ne C.1 C.2.1 d ht (fun q => kt q H locs ar hP hR hS hl) (fun q => kf q H locs ar hP hR hS hl)
theorem x_icmp_lt (C : CX p s m args meth c φ tc D LA s0 cc own nL) {x y : Int32} {off : Int} {tgt : Nat} (d : decode cc pc = .ok (.if_icmp .lt off, 3)) (ht : (pc : Int) + off = (tgt : Int)) (kt : x < y → WX p l e R s m args below meth c φ tc D LA nL kc ks Q (tgt) (ls) (st) μ) (kf : ¬ (x < y) → WX p l e R s m args below meth c φ tc D LA nL kc ks Q (pc + 3) (ls) (st) μ) : WX p l e R s m args below meth c φ tc D LA nL kc ks Q (pc) (ls) (.int y :: .int x :: st) μ := fun H locs ar hP hR hS hl => lv_icmp_lt C.1 C.2.1 d ht (fun q => kt q H locs ar hP hR hS hl) (fun q => kf q H locs ar hP hR hS hl)
theorem x_icmp_ge (C : CX p s m args meth c φ tc D LA s0 cc own nL) {x y : Int32} {off : Int} {tgt : Nat} (d : decode cc pc = .ok (.if_icmp .ge off, 3)) (ht : (pc : Int) + off = (tgt : Int)) (kt : y ≤ x → WX p l e R s m args below meth c φ tc D LA nL kc ks Q (tgt) (ls) (st) μ) (kf : ¬ (y ≤ x) → WX p l e R s m args below meth c φ tc D LA nL kc ks Q (pc + 3) (ls) (st) μ) : WX p l e R s m args below meth c φ tc D LA nL kc ks Q (pc) (ls) (.int y :: .int x :: st) μ := fun H locs ar hP hR hS hl => lv_icmp_ge C.1 C.2.1 d ht (fun q => kt q H locs ar hP hR hS hl) (fun q => kf q H locs ar hP hR hS hl)
theorem x_icmp_gt (C : CX p s m args meth c φ tc D LA s0 cc own nL) {x y : Int32} {off : Int} {tgt : Nat} (d : decode cc pc = .ok (.if_icmp .gt off, 3)) (ht : (pc : Int) + off = (tgt : Int)) (kt : y < x → WX p l e R s m args below meth c φ tc D LA nL kc ks Q (tgt) (ls) (st) μ) (kf : ¬ (y < x) → WX p l e R s m args below meth c φ tc D LA nL kc ks Q (pc + 3) (ls) (st) μ) : WX p l e R s m args below meth c φ tc D LA nL kc ks Q (pc) (ls) (.int y :: .int x :: st) μ := fun H locs ar hP hR hS hl => lv_icmp_gt C.1 C.2.1 d ht (fun q => kt q H locs ar hP hR hS hl) (fun q => kf q H locs ar hP hR hS hl)
theorem x_icmp_le (C : CX p s m args meth c φ tc D LA s0 cc own nL) {x y : Int32} {off : Int} {tgt : Nat} (d : decode cc pc = .ok (.if_icmp .le off, 3)) (ht : (pc : Int) + off = (tgt : Int)) (kt : x ≤ y → WX p l e R s m args below meth c φ tc D LA nL kc ks Q (tgt) (ls) (st) μ) (kf : ¬ (x ≤ y) → WX p l e R s m args below meth c φ tc D LA nL kc ks Q (pc + 3) (ls) (st) μ) : WX p l e R s m args below meth c φ tc D LA nL kc ks Q (pc) (ls) (.int y :: .int x :: st) μ := fun H locs ar hP hR hS hl => lv_icmp_le C.1 C.2.1 d ht (fun q => kt q H locs ar hP hR hS hl) (fun q => kf q H locs ar hP hR hS hl)
theorem x_goto (C : CX p s m args meth c φ tc D LA s0 cc own nL) {off : Int} {tgt : Nat} (d : decode cc pc = .ok (.goto off, 3)) (ht : (pc : Int) + off = (tgt : Int)) (h : WX p l e R s m args below meth c φ tc D LA nL kc ks Q (tgt) (ls) (st) μ) : WX p l e R s m args below meth c φ tc D LA nL kc ks Q (pc) (ls) (st) μ := fun H locs ar hP hR hS hl => lv_goto C.1 C.2.1 d ht (h H locs ar hP hR hS hl)
theorem x_tIn (C : CX p s m args meth c φ tc D LA s0 cc own nL) {dflt lo hi : Int} {offs : Array Int} {len : Nat} {x : Int32} {off : Int} {tgt : Nat} (d : decode cc pc = .ok (.tableswitch dflt lo hi offs, len)) (h1 : ¬ x.toInt < lo) (h2 : ¬ hi < x.toInt) (ho : offs[(x.toInt - lo).toNat]? = some off) (ht : (pc : Int) + off = (tgt : Int)) (h : WX p l e R s m args below meth c φ tc D LA nL kc ks Q (tgt) (ls) (st) μ) : WX p l e R s m args below meth c φ tc D LA nL kc ks Q (pc) (ls) (.int x :: st) μ := fun H locs ar hP hR hS hl => lv_tableIn C.1 C.2.1 d h1 h2 ho ht (h H locs ar hP hR hS hl)
theorem x_tOut (C : CX p s m args meth c φ tc D LA s0 cc own nL) {dflt lo hi : Int} {offs : Array Int} {len : Nat} {x : Int32} {tgt : Nat} (d : decode cc pc = .ok (.tableswitch dflt lo hi offs, len)) (hq : x.toInt < lo ∨ hi < x.toInt) (ht : (pc : Int) + dflt = (tgt : Int)) (h : WX p l e R s m args below meth c φ tc D LA nL kc ks Q (tgt) (ls) (st) μ) : WX p l e R s m args below meth c φ tc D LA nL kc ks Q (pc) (ls) (.int x :: st) μ := fun H locs ar hP hR hS hl => lv_tableOut C.1 C.2.1 d hq ht (h H locs ar hP hR hS hl)
theorem x_look (C : CX p s m args meth c φ tc D LA s0 cc own nL) {dflt : Int} {ps : Array (Int × Int)} {len : Nat} {x : Int32} {off : Int} {tgt : Nat} (d : decode cc pc = .ok (.lookupswitch dflt ps, len)) (hp : (ps.toList.zip (ps.toList.drop 1)).all (fun (a, next) => a.1 < next.1) = true) (ho : Op.lookupswitch.offset ps.toList dflt x.toInt = off) (ht : (pc : Int) + off = (tgt : Int)) (h : WX p l e R s m args below meth c φ tc D LA nL kc ks Q (tgt) (ls) (st) μ) : WX p l e R s m args below meth c φ tc D LA nL kc ks Q (pc) (ls) (.int x :: st) μ := fun H locs ar hP hR hS hl => lv_lookup C.1 C.2.1 d hp ho ht (h H locs ar hP hR hS hl)
theorem x_getI (C : CX p s m args meth c φ tc D LA s0 cc own nL) {ci j k idx : Nat} (hk : k < NC) (hs : sh k = ci) (hc : ci < 13) (hj : j < nfC ci) (hty : tyC ci j = .int ∨ tyC ci j = .boolean) (w : Cond.fieldLink own idx (txC ci j).1 (txC ci j).2.1 (txC ci j).2.2.1 ∈ tblA) (d : decode cc pc = .ok (.getfield idx, 3)) (h : WX p l e R s m args below meth c φ tc D LA nL kc ks Q (pc + 3) (ls) (.int (gI μ k j) :: st) μ) : WX p l e R s m args below meth c φ tc D LA nL kc ks Q (pc) (ls) (.ref k :: st) μ := by
  intro H locs ar hP hR hS hl
  obtain ⟨hx, hb, hml, hown, hts, hK, hlk, hG, hal, hsz, hhp, hLA, hLE⟩ := C
  refine va_get (D := D) (cl := vwCl) (Ts := tblA) (C := cnC ci) (T := txC ci) (N := nfC ci) (ci := ci) (ref := (txC ci j).1) hx hb hts (inC ci hc) hown hK hP k ((mw_get hk).trans (by rw [ent_obj hs hc])) (vwC ci hc) j hj (hts _ w) (fun _ h9 => h9) (v := .int (gI μ k j)) ((rg_get hj).trans ?_) d (h H locs ar hP hR hS hl)
  rcases hty with hty | hty <;> simp [fvl, hty, gI]
theorem x_getJ (C : CX p s m args meth c φ tc D LA s0 cc own nL) {ci j k idx : Nat} (hk : k < NC) (hs : sh k = ci) (hc : ci < 13) (hj : j < nfC ci) (hty : tyC ci j = .long) (w : Cond.fieldLink own idx (txC ci j).1 (txC ci j).2.1 (txC ci j).2.2.1 ∈ tblA) (d : decode cc pc = .ok (.getfield idx, 3)) (h : WX p l e R s m args below meth c φ tc D LA nL kc ks Q (pc + 3) (ls) (.long (gJ μ k j) :: st) μ) : WX p l e R s m args below meth c φ tc D LA nL kc ks Q (pc) (ls) (.ref k :: st) μ := by
  intro H locs ar hP hR hS hl
  obtain ⟨hx, hb, hml, hown, hts, hK, hlk, hG, hal, hsz, hhp, hLA, hLE⟩ := C
  refine va_get (D := D) (cl := vwCl) (Ts := tblA) (C := cnC ci) (T := txC ci) (N := nfC ci) (ci := ci) (ref := (txC ci j).1) hx hb hts (inC ci hc) hown hK hP k ((mw_get hk).trans (by rw [ent_obj hs hc])) (vwC ci hc) j hj (hts _ w) (fun _ h9 => h9) (v := .long (gJ μ k j)) ((rg_get hj).trans ?_) d (h H locs ar hP hR hS hl)
  simp [fvl, hty, gJ]
theorem x_getR (C : CX p s m args meth c φ tc D LA s0 cc own nL) {ci j k idx : Nat} (hk : k < NC) (hs : sh k = ci) (hc : ci < 13) (hj : j < nfC ci) {r : Nat} (hty : ∀ φ μ k, fvl φ μ k (tyC ci j) j = va_rf ((μ.2.2 k j).map φ)) (hr : SR μ → gR μ k j = some r) (w : Cond.fieldLink own idx (txC ci j).1 (txC ci j).2.1 (txC ci j).2.2.1 ∈ tblA) (d : decode cc pc = .ok (.getfield idx, 3)) (h : WX p l e R s m args below meth c φ tc D LA nL kc ks Q (pc + 3) (ls) (.ref r :: st) μ) : WX p l e R s m args below meth c φ tc D LA nL kc ks Q (pc) (ls) (.ref k :: st) μ := by
  intro H locs ar hP hR hS hl
  obtain ⟨hx, hb, hml, hown, hts, hK, hlk, hG, hal, hsz, hhp, hLA, hLE⟩ := C
  refine va_get (D := D) (cl := vwCl) (Ts := tblA) (C := cnC ci) (T := txC ci) (N := nfC ci) (ci := ci) (ref := (txC ci j).1) hx hb hts (inC ci hc) hown hK hP k ((mw_get hk).trans (by rw [ent_obj hs hc])) (vwC ci hc) j hj (hts _ w) (fun _ h9 => h9) (v := .ref (φ r)) ((rg_get hj).trans ?_) d (h H locs ar hP hR hS hl)
  rw [hty]
  have h8 : μ.2.2 k j = some r := hr hR
  rw [h8]
  rfl
theorem x_putI (C : CX p s m args meth c φ tc D LA s0 cc own nL) {ci j k idx : Nat} (hk : k < NC) (hs : sh k = ci) (hc : ci < 13) (hj : j < nfC ci) {v : Int32} (hty : (tyC ci j = .int ∨ tyC ci j = .boolean)) (hf : (txC ci j).2.2.2 = false) (hn : narrow (tyC ci j) (.int v) = .int v) (hfit : fits (tyC ci j) (.int v) = true) (w : Cond.fieldLink own idx (txC ci j).1 (txC ci j).2.1 (txC ci j).2.2.1 ∈ tblA) (d : decode cc pc = .ok (.putfield idx, 3)) (h : WX p l e R s m args below meth c φ tc D LA nL kc ks Q (pc + 3) (ls) (st) (sI μ k j v)) : WX p l e R s m args below meth c φ tc D LA nL kc ks Q (pc) (ls) (.int v :: .ref k :: st) μ := by
  intro H locs ar hP hR hS hl
  obtain ⟨hx, hb, hml, hown, hts, hK, hlk, hG, hal, hsz, hhp, hLA, hLE⟩ := C
  refine va_put (D := D) (cl := vwCl) (Ts := tblA) (C := cnC ci) (T := txC ci) (N := nfC ci) (ci := ci) (ref := (txC ci j).1) hx hb hts (inC ci hc) (tyC ci) (tyC_ok ci hc) (nmC ci hc) hown hK hP ((mw_D hG.2.1).weaken (fun _ _ _ h9 => hLA _ h9)) hS k ((mw_get hk).trans (by rw [ent_obj hs hc])) (vwC ci hc) j hj (hts _ w) (fun _ h9 => h9) hf (tyC_ok ci hc j hj) hn hfit (by simp; exact hj) d (fun H1 locs1 hP1 hD1 hS1 => h H1 locs1 ar ?_ hR hS1 hl)
  rw [mw_set (μ := μ) (μ' := sI μ k j v) (fun i hi => ent_congr (by first | rfl | exact up2_ne hi) (by first | rfl | exact up2_ne hi) rfl)] at hP1
  · exact hP1
  · rw [ent_obj hs hc]
    refine congrArg (fun t => Sum.inr (ci, t)) (rg_set (fun i hi => ?_) ?_).symm
    · simp [fvl, sI, up2, hi]
    · rcases hty with hty | hty <;> simp [fvl, hty, sI, up2, rv]
theorem x_putJ (C : CX p s m args meth c φ tc D LA s0 cc own nL) {ci j k idx : Nat} (hk : k < NC) (hs : sh k = ci) (hc : ci < 13) (hj : j < nfC ci) {v : Int64} (hty : tyC ci j = .long) (hf : (txC ci j).2.2.2 = false) (hn : narrow (tyC ci j) (.long v) = .long v) (hfit : fits (tyC ci j) (.long v) = true) (w : Cond.fieldLink own idx (txC ci j).1 (txC ci j).2.1 (txC ci j).2.2.1 ∈ tblA) (d : decode cc pc = .ok (.putfield idx, 3)) (h : WX p l e R s m args below meth c φ tc D LA nL kc ks Q (pc + 3) (ls) (st) (sJ μ k j v)) : WX p l e R s m args below meth c φ tc D LA nL kc ks Q (pc) (ls) (.long v :: .ref k :: st) μ := by
  intro H locs ar hP hR hS hl
  obtain ⟨hx, hb, hml, hown, hts, hK, hlk, hG, hal, hsz, hhp, hLA, hLE⟩ := C
  refine va_put (D := D) (cl := vwCl) (Ts := tblA) (C := cnC ci) (T := txC ci) (N := nfC ci) (ci := ci) (ref := (txC ci j).1) hx hb hts (inC ci hc) (tyC ci) (tyC_ok ci hc) (nmC ci hc) hown hK hP ((mw_D hG.2.1).weaken (fun _ _ _ h9 => hLA _ h9)) hS k ((mw_get hk).trans (by rw [ent_obj hs hc])) (vwC ci hc) j hj (hts _ w) (fun _ h9 => h9) hf (tyC_ok ci hc j hj) hn hfit (by simp; exact hj) d (fun H1 locs1 hP1 hD1 hS1 => h H1 locs1 ar ?_ hR hS1 hl)
  rw [mw_set (μ := μ) (μ' := sJ μ k j v) (fun i hi => ent_congr (by first | rfl | exact up2_ne hi) (by first | rfl | exact up2_ne hi) rfl)] at hP1
  · exact hP1
  · rw [ent_obj hs hc]
    refine congrArg (fun t => Sum.inr (ci, t)) (rg_set (fun i hi => ?_) ?_).symm
    · simp [fvl, sJ, up2, hi]
    · simp [fvl, hty, sJ, up2, rv]
theorem x_getIN (C : CX p s m args meth c φ tc D LA s0 cc own nL) {host : String} {ci j k idx : Nat} (hk : k < NC) (hs : sh k = ci) (hc : ci < 13) (hj : j < nfC ci) (hty : tyC ci j = .int ∨ tyC ci j = .boolean) (w : Cond.fieldLinkNest own idx (txC ci j).1 (txC ci j).2.1 (txC ci j).2.2.1 host ∈ tblA) (d : decode cc pc = .ok (.getfield idx, 3)) (h : WX p l e R s m args below meth c φ tc D LA nL kc ks Q (pc + 3) (ls) (.int (gI μ k j) :: st) μ) : WX p l e R s m args below meth c φ tc D LA nL kc ks Q (pc) (ls) (.ref k :: st) μ := by
  intro H locs ar hP hR hS hl
  obtain ⟨hx, hb, hml, hown, hts, hK, hlk, hG, hal, hsz, hhp, hLA, hLE⟩ := C
  refine va_getN (D := D) (cl := vwCl) (Ts := tblA) (C := cnC ci) (T := txC ci) (N := nfC ci) (ci := ci) (ref := (txC ci j).1) hx hb hts (inC ci hc) hown hK hP k ((mw_get hk).trans (by rw [ent_obj hs hc])) (vwC ci hc) j hj (hts _ w) (fun _ h9 => h9) (v := .int (gI μ k j)) ((rg_get hj).trans ?_) d (h H locs ar hP hR hS hl)
  rcases hty with hty | hty <;> simp [fvl, hty, gI]
theorem x_getJN (C : CX p s m args meth c φ tc D LA s0 cc own nL) {host : String} {ci j k idx : Nat} (hk : k < NC) (hs : sh k = ci) (hc : ci < 13) (hj : j < nfC ci) (hty : tyC ci j = .long) (w : Cond.fieldLinkNest own idx (txC ci j).1 (txC ci j).2.1 (txC ci j).2.2.1 host ∈ tblA) (d : decode cc pc = .ok (.getfield idx, 3)) (h : WX p l e R s m args below meth c φ tc D LA nL kc ks Q (pc + 3) (ls) (.long (gJ μ k j) :: st) μ) : WX p l e R s m args below meth c φ tc D LA nL kc ks Q (pc) (ls) (.ref k :: st) μ := by
  intro H locs ar hP hR hS hl
  obtain ⟨hx, hb, hml, hown, hts, hK, hlk, hG, hal, hsz, hhp, hLA, hLE⟩ := C
  refine va_getN (D := D) (cl := vwCl) (Ts := tblA) (C := cnC ci) (T := txC ci) (N := nfC ci) (ci := ci) (ref := (txC ci j).1) hx hb hts (inC ci hc) hown hK hP k ((mw_get hk).trans (by rw [ent_obj hs hc])) (vwC ci hc) j hj (hts _ w) (fun _ h9 => h9) (v := .long (gJ μ k j)) ((rg_get hj).trans ?_) d (h H locs ar hP hR hS hl)
  simp [fvl, hty, gJ]
theorem x_getRN (C : CX p s m args meth c φ tc D LA s0 cc own nL) {host : String} {ci j k idx : Nat} (hk : k < NC) (hs : sh k = ci) (hc : ci < 13) (hj : j < nfC ci) {r : Nat} (hty : ∀ φ μ k, fvl φ μ k (tyC ci j) j = va_rf ((μ.2.2 k j).map φ)) (hr : SR μ → gR μ k j = some r) (w : Cond.fieldLinkNest own idx (txC ci j).1 (txC ci j).2.1 (txC ci j).2.2.1 host ∈ tblA) (d : decode cc pc = .ok (.getfield idx, 3)) (h : WX p l e R s m args below meth c φ tc D LA nL kc ks Q (pc + 3) (ls) (.ref r :: st) μ) : WX p l e R s m args below meth c φ tc D LA nL kc ks Q (pc) (ls) (.ref k :: st) μ := by
  intro H locs ar hP hR hS hl
  obtain ⟨hx, hb, hml, hown, hts, hK, hlk, hG, hal, hsz, hhp, hLA, hLE⟩ := C
  refine va_getN (D := D) (cl := vwCl) (Ts := tblA) (C := cnC ci) (T := txC ci) (N := nfC ci) (ci := ci) (ref := (txC ci j).1) hx hb hts (inC ci hc) hown hK hP k ((mw_get hk).trans (by rw [ent_obj hs hc])) (vwC ci hc) j hj (hts _ w) (fun _ h9 => h9) (v := .ref (φ r)) ((rg_get hj).trans ?_) d (h H locs ar hP hR hS hl)
  rw [hty]
  have h8 : μ.2.2 k j = some r := hr hR
  rw [h8]
  rfl
theorem x_putIN (C : CX p s m args meth c φ tc D LA s0 cc own nL) {host : String} {ci j k idx : Nat} (hk : k < NC) (hs : sh k = ci) (hc : ci < 13) (hj : j < nfC ci) {v : Int32} (hty : (tyC ci j = .int ∨ tyC ci j = .boolean)) (hf : (txC ci j).2.2.2 = false) (hn : narrow (tyC ci j) (.int v) = .int v) (hfit : fits (tyC ci j) (.int v) = true) (w : Cond.fieldLinkNest own idx (txC ci j).1 (txC ci j).2.1 (txC ci j).2.2.1 host ∈ tblA) (d : decode cc pc = .ok (.putfield idx, 3)) (h : WX p l e R s m args below meth c φ tc D LA nL kc ks Q (pc + 3) (ls) (st) (sI μ k j v)) : WX p l e R s m args below meth c φ tc D LA nL kc ks Q (pc) (ls) (.int v :: .ref k :: st) μ := by
  intro H locs ar hP hR hS hl
  obtain ⟨hx, hb, hml, hown, hts, hK, hlk, hG, hal, hsz, hhp, hLA, hLE⟩ := C
  refine va_putN (D := D) (cl := vwCl) (Ts := tblA) (C := cnC ci) (T := txC ci) (N := nfC ci) (ci := ci) (ref := (txC ci j).1) hx hb hts (inC ci hc) (tyC ci) (tyC_ok ci hc) (nmC ci hc) hown hK hP ((mw_D hG.2.1).weaken (fun _ _ _ h9 => hLA _ h9)) hS k ((mw_get hk).trans (by rw [ent_obj hs hc])) (vwC ci hc) j hj (hts _ w) (fun _ h9 => h9) hf (tyC_ok ci hc j hj) hn hfit (by simp; exact hj) d (fun H1 locs1 hP1 hD1 hS1 => h H1 locs1 ar ?_ hR hS1 hl)
  rw [mw_set (μ := μ) (μ' := sI μ k j v) (fun i hi => ent_congr (by first | rfl | exact up2_ne hi) (by first | rfl | exact up2_ne hi) rfl)] at hP1
  · exact hP1
  · rw [ent_obj hs hc]
    refine congrArg (fun t => Sum.inr (ci, t)) (rg_set (fun i hi => ?_) ?_).symm
    · simp [fvl, sI, up2, hi]
    · rcases hty with hty | hty <;> simp [fvl, hty, sI, up2, rv]
theorem x_putJN (C : CX p s m args meth c φ tc D LA s0 cc own nL) {host : String} {ci j k idx : Nat} (hk : k < NC) (hs : sh k = ci) (hc : ci < 13) (hj : j < nfC ci) {v : Int64} (hty : tyC ci j = .long) (hf : (txC ci j).2.2.2 = false) (hn : narrow (tyC ci j) (.long v) = .long v) (hfit : fits (tyC ci j) (.long v) = true) (w : Cond.fieldLinkNest own idx (txC ci j).1 (txC ci j).2.1 (txC ci j).2.2.1 host ∈ tblA) (d : decode cc pc = .ok (.putfield idx, 3)) (h : WX p l e R s m args below meth c φ tc D LA nL kc ks Q (pc + 3) (ls) (st) (sJ μ k j v)) : WX p l e R s m args below meth c φ tc D LA nL kc ks Q (pc) (ls) (.long v :: .ref k :: st) μ := by
  intro H locs ar hP hR hS hl
  obtain ⟨hx, hb, hml, hown, hts, hK, hlk, hG, hal, hsz, hhp, hLA, hLE⟩ := C
  refine va_putN (D := D) (cl := vwCl) (Ts := tblA) (C := cnC ci) (T := txC ci) (N := nfC ci) (ci := ci) (ref := (txC ci j).1) hx hb hts (inC ci hc) (tyC ci) (tyC_ok ci hc) (nmC ci hc) hown hK hP ((mw_D hG.2.1).weaken (fun _ _ _ h9 => hLA _ h9)) hS k ((mw_get hk).trans (by rw [ent_obj hs hc])) (vwC ci hc) j hj (hts _ w) (fun _ h9 => h9) hf (tyC_ok ci hc j hj) hn hfit (by simp; exact hj) d (fun H1 locs1 hP1 hD1 hS1 => h H1 locs1 ar ?_ hR hS1 hl)
  rw [mw_set (μ := μ) (μ' := sJ μ k j v) (fun i hi => ent_congr (by first | rfl | exact up2_ne hi) (by first | rfl | exact up2_ne hi) rfl)] at hP1
  · exact hP1
  · rw [ent_obj hs hc]
    refine congrArg (fun t => Sum.inr (ci, t)) (rg_set (fun i hi => ?_) ?_).symm
    · simp [fvl, sJ, up2, hi]
    · simp [fvl, hty, sJ, up2, rv]
theorem x_iald (C : CX p s m args meth c φ tc D LA s0 cc own nL) {k j : Nat} {i : Int32} (hk : k < NC) (hs : sh k = 13) (hin : vp_in i (ln k)) (hj : i.toNatClampNeg = j) (d : decode cc pc = .ok (.iaload, 1)) (h : WX p l e R s m args below meth c φ tc D LA nL kc ks Q (pc + 1) (ls) (.int (gI μ k j) :: st) μ) : WX p l e R s m args below meth c φ tc D LA nL kc ks Q (pc) (ls) (.int i :: .ref k :: st) μ := by
  subst hj
  intro H locs ar hP hR hS hl
  obtain ⟨hx, hb, hml, hown, hts, hK, hlk, hG, hal, hsz, hhp, hLA, hLE⟩ := C
  exact va_iald hx hb hK hP k 0 ((mw_get hk).trans (by rw [ent_ai hs]; rfl)) rfl hin d (h H locs ar hP hR hS hl)
theorem x_zald (C : CX p s m args meth c φ tc D LA s0 cc own nL) {k j : Nat} {i : Int32} (hk : k < NC) (hs : sh k = 15) (hin : vp_in i (ln k)) (hj : i.toNatClampNeg = j) (d : decode cc pc = .ok (.baload, 1)) (h : WX p l e R s m args below meth c φ tc D LA nL kc ks Q (pc + 1) (ls) (.int (gI μ k j) :: st) μ) : WX p l e R s m args below meth c φ tc D LA nL kc ks Q (pc) (ls) (.int i :: .ref k :: st) μ := by
  subst hj
  intro H locs ar hP hR hS hl
  obtain ⟨hx, hb, hml, hown, hts, hK, hlk, hG, hal, hsz, hhp, hLA, hLE⟩ := C
  exact va_zald hx hb hK hP k 2 ((mw_get hk).trans (by rw [ent_az hs]; rfl)) rfl hin d (h H locs ar hP hR hS hl)
theorem x_lald (C : CX p s m args meth c φ tc D LA s0 cc own nL) {k j : Nat} {i : Int32} (hk : k < NC) (hs : sh k = 14) (hin : vp_in i (ln k)) (hj : i.toNatClampNeg = j) (d : decode cc pc = .ok (.laload, 1)) (h : WX p l e R s m args below meth c φ tc D LA nL kc ks Q (pc + 1) (ls) (.long (gJ μ k j) :: st) μ) : WX p l e R s m args below meth c φ tc D LA nL kc ks Q (pc) (ls) (.int i :: .ref k :: st) μ := by
  subst hj
  intro H locs ar hP hR hS hl
  obtain ⟨hx, hb, hml, hown, hts, hK, hlk, hG, hal, hsz, hhp, hLA, hLE⟩ := C
  exact va_lald hx hb hK hP k 1 ((mw_get hk).trans (by rw [ent_aj hs]; rfl)) rfl hin d (h H locs ar hP hR hS hl)
theorem x_iast (C : CX p s m args meth c φ tc D LA s0 cc own nL) {k j : Nat} {i : Int32} {x : Int32} (hk : k < NC) (hs : sh k = 13) (hin : vp_in i (ln k)) (hj : i.toNatClampNeg = j) (d : decode cc pc = .ok (.iastore, 1)) (h : WX p l e R s m args below meth c φ tc D LA nL kc ks Q (pc + 1) (ls) (st) (sI μ k j x)) : WX p l e R s m args below meth c φ tc D LA nL kc ks Q (pc) (ls) (.int x :: .int i :: .ref k :: st) μ := by
  subst hj
  intro H locs ar hP hR hS hl
  obtain ⟨hx, hb, hml, hown, hts, hK, hlk, hG, hal, hsz, hhp, hLA, hLE⟩ := C
  refine va_iast hx hb hK hP ((mw_D hG.2.1).weaken (fun _ _ _ h9 => hLA _ h9)) hS k 0 ((mw_get hk).trans (by rw [ent_ai hs])) rfl hin d (fun H1 locs1 hP1 hD1 hS1 => h H1 locs1 ar ?_ hR hS1 hl)
  rw [mw_set (μ := μ) (μ' := sI μ k i.toNatClampNeg x) (fun j9 hj9 => ent_congr (by first | rfl | exact up2_ne hj9) (by first | rfl | exact up2_ne hj9) rfl)] at hP1
  · exact hP1
  · rw [ent_ai hs]
    refine congrArg (fun t9 => (Sum.inl (tc 0, ln k, Sum.inl t9) : va_E)) ?_
    funext j9
    by_cases hj9 : j9 = i.toNatClampNeg <;> simp [sI, up2, upd, hj9]
theorem x_zast (C : CX p s m args meth c φ tc D LA s0 cc own nL) {k j : Nat} {i : Int32} {x : Int32} (hk : k < NC) (hs : sh k = 15) (hin : vp_in i (ln k)) (hj : i.toNatClampNeg = j) (d : decode cc pc = .ok (.bastore, 1)) (h : WX p l e R s m args below meth c φ tc D LA nL kc ks Q (pc + 1) (ls) (st) (sI μ k j (vp_nar .boolean x))) : WX p l e R s m args below meth c φ tc D LA nL kc ks Q (pc) (ls) (.int x :: .int i :: .ref k :: st) μ := by
  subst hj
  intro H locs ar hP hR hS hl
  obtain ⟨hx, hb, hml, hown, hts, hK, hlk, hG, hal, hsz, hhp, hLA, hLE⟩ := C
  refine va_zast hx hb hK hP ((mw_D hG.2.1).weaken (fun _ _ _ h9 => hLA _ h9)) hS k 2 ((mw_get hk).trans (by rw [ent_az hs])) rfl hin d (fun H1 locs1 hP1 hD1 hS1 => h H1 locs1 ar ?_ hR hS1 hl)
  rw [mw_set (μ := μ) (μ' := sI μ k i.toNatClampNeg (vp_nar .boolean x)) (fun j9 hj9 => ent_congr (by first | rfl | exact up2_ne hj9) (by first | rfl | exact up2_ne hj9) rfl)] at hP1
  · exact hP1
  · rw [ent_az hs]
    refine congrArg (fun t9 => (Sum.inl (tc 2, ln k, Sum.inl t9) : va_E)) ?_
    funext j9
    by_cases hj9 : j9 = i.toNatClampNeg <;> simp [sI, up2, upd, hj9]
theorem x_last (C : CX p s m args meth c φ tc D LA s0 cc own nL) {k j : Nat} {i : Int32} {x : Int64} (hk : k < NC) (hs : sh k = 14) (hin : vp_in i (ln k)) (hj : i.toNatClampNeg = j) (d : decode cc pc = .ok (.lastore, 1)) (h : WX p l e R s m args below meth c φ tc D LA nL kc ks Q (pc + 1) (ls) (st) (sJ μ k j x)) : WX p l e R s m args below meth c φ tc D LA nL kc ks Q (pc) (ls) (.long x :: .int i :: .ref k :: st) μ := by
  subst hj
  intro H locs ar hP hR hS hl
  obtain ⟨hx, hb, hml, hown, hts, hK, hlk, hG, hal, hsz, hhp, hLA, hLE⟩ := C
  refine va_last hx hb hK hP ((mw_D hG.2.1).weaken (fun _ _ _ h9 => hLA _ h9)) hS k 1 ((mw_get hk).trans (by rw [ent_aj hs])) rfl hin d (fun H1 locs1 hP1 hD1 hS1 => h H1 locs1 ar ?_ hR hS1 hl)
  rw [mw_set (μ := μ) (μ' := sJ μ k i.toNatClampNeg x) (fun j9 hj9 => ent_congr (by first | rfl | exact up2_ne hj9) (by first | rfl | exact up2_ne hj9) rfl)] at hP1
  · exact hP1
  · rw [ent_aj hs]
    refine congrArg (fun t9 => (Sum.inl (tc 1, ln k, Sum.inr (Sum.inl t9)) : va_E)) ?_
    funext j9
    by_cases hj9 : j9 = i.toNatClampNeg <;> simp [sJ, up2, vp_updL, hj9]
theorem x_alen (C : CX p s m args meth c φ tc D LA s0 cc own nL) {k : Nat} {v : Int32} (hk : k < NC) (hs : 12 < sh k) (hv : Int32.ofNat (ln k) = v) (hlt : sh k < 22) (d : decode cc pc = .ok (.arraylength, 1)) (h : WX p l e R s m args below meth c φ tc D LA nL kc ks Q (pc + 1) (ls) (.int v :: st) μ) : WX p l e R s m args below meth c φ tc D LA nL kc ks Q (pc) (ls) (.ref k :: st) μ := by
  intro H locs ar hP hR hS hl
  obtain ⟨hx, hb, hml, hown, hts, hK, hlk, hG, hal, hsz, hhp, hLA, hLE⟩ := C
  rcases (show sh k = 13 ∨ sh k = 14 ∨ sh k = 15 ∨ sh k = 16 ∨ sh k = 17 ∨ sh k = 18 ∨ sh k = 19 ∨ sh k = 20 ∨ sh k = 21 by omega) with q | q | q | q | q | q | q | q | q
  · exact va_alen hx hb hK hP k 0 ((mw_get hk).trans (by rw [ent_ai q])) rfl hv d (h H locs ar hP hR hS hl)
  · exact va_alen hx hb hK hP k 1 ((mw_get hk).trans (by rw [ent_aj q])) rfl hv d (h H locs ar hP hR hS hl)
  · exact va_alen hx hb hK hP k 2 ((mw_get hk).trans (by rw [ent_az q])) rfl hv d (h H locs ar hP hR hS hl)
  · exact va_alen hx hb hK hP k 3 ((mw_get hk).trans (by rw [ent_ar (by omega), q])) rfl hv d (h H locs ar hP hR hS hl)
  · exact va_alen hx hb hK hP k 4 ((mw_get hk).trans (by rw [ent_ar (by omega), q])) rfl hv d (h H locs ar hP hR hS hl)
  · exact va_alen hx hb hK hP k 5 ((mw_get hk).trans (by rw [ent_ar (by omega), q])) rfl hv d (h H locs ar hP hR hS hl)
  · exact va_alen hx hb hK hP k 6 ((mw_get hk).trans (by rw [ent_ar (by omega), q])) rfl hv d (h H locs ar hP hR hS hl)
  · exact va_alen hx hb hK hP k 7 ((mw_get hk).trans (by rw [ent_ar (by omega), q])) rfl hv d (h H locs ar hP hR hS hl)
  · exact va_alen hx hb hK hP k 8 ((mw_get hk).trans (by rw [ent_ar (by omega), q])) rfl hv d (h H locs ar hP hR hS hl)
theorem x_aald (C : CX p s m args meth c φ tc D LA s0 cc own nL) {k r j : Nat} {i : Int32} (hk : k < NC) (hs : 15 < sh k) (hlt : sh k < 22) (hin : vp_in i (ln k)) (hj : i.toNatClampNeg = j) (hr : SR μ → gR μ k j = some r) (d : decode cc pc = .ok (.aaload, 1)) (h : WX p l e R s m args below meth c φ tc D LA nL kc ks Q (pc + 1) (ls) (.ref r :: st) μ) : WX p l e R s m args below meth c φ tc D LA nL kc ks Q (pc) (ls) (.int i :: .ref k :: st) μ := by
  subst hj
  intro H locs ar hP hR hS hl
  obtain ⟨hx, hb, hml, hown, hts, hK, hlk, hG, hal, hsz, hhp, hLA, hLE⟩ := C
  have hi : i.toNatClampNeg < ln k := Nat.not_le.mp fun q => hin (Or.inr q)
  have h8 : μ.2.2 k i.toNatClampNeg = some r := hr hR
  have he := (mw_get (φ := φ) (tc := tc) (μ := μ) hk).trans (by rw [ent_ar hs])
  have hty : ∃ ty : FieldType, (tyL tc)[sh k - 13]? = some (tc (sh k - 13), ty) ∧ ty.isReference = true := by
    rcases (show sh k = 16 ∨ sh k = 17 ∨ sh k = 18 ∨ sh k = 19 ∨ sh k = 20 ∨ sh k = 21 by omega) with q | q | q | q | q | q <;> rw [q] <;> exact ⟨_, rfl, rfl⟩
  obtain ⟨ty, ht, hrf⟩ := hty
  refine W.aald (v := .ref (φ r)) (ty := ty) hx hb (hP k _ he) ((hK.2 _ _ ht).1 (ln k) (fun j => va_rf ((μ.2.2 k j).map φ))) hrf (fun q => by cases q) (by show ¬ (i < 0 ∨ (arrV _ _ _).slots.size ≤ _); rw [arrV_size]; exact hin) (by show (arrV _ _ _).slots[_]? = _; rw [arrV_read _ _ hi]; show some (va_rf ((μ.2.2 k i.toNatClampNeg).map φ)) = _; rw [h8]; rfl) rfl rfl d (h H locs ar hP hR hS hl)
theorem x_putR7 (C : CX p s m args meth c φ tc D LA s0 cc own nL) {idx r : Nat} (o : Ob r 0) (w : Cond.fieldLink own idx (txC 4 7).1 (txC 4 7).2.1 (txC 4 7).2.2.1 ∈ tblA) (d : decode cc pc = .ok (.putfield idx, 3)) (h : WX p l e R s m args below meth c φ tc D LA nL kc ks Q (pc + 3) (ls) (st) (sR μ 168 7 (some r))) : WX p l e R s m args below meth c φ tc D LA nL kc ks Q (pc) (ls) (.ref r :: .ref 168 :: st) μ := by
  intro H locs ar hP hR hS hl
  obtain ⟨hx, hb, hml, hown, hts, hK, hlk, hG, hal, hsz, hhp, hLA, hLE⟩ := C
  have hs : sh 168 = 4 := by decide +kernel
  have hk : 168 < NC := by decide +kernel
  refine va_put (D := D) (cl := vwCl) (Ts := tblA) (C := cnC 4) (T := txC 4) (N := nfC 4) (ci := 4) (ref := (txC 4 7).1) hx hb hts (inC 4 (by decide)) (tyC 4) (tyC_ok 4 (by decide)) (nmC 4 (by decide)) hown hK hP ((mw_D hG.2.1).weaken (fun _ _ _ h9 => hLA _ h9)) hS 168 ((mw_get hk).trans (by rw [ent_obj hs (by decide)])) (vwC 4 (by decide)) 7 (by decide) (hts _ w) (fun _ h9 => h9) rfl (tyC_ok 4 (by decide) 7 (by decide)) rfl rfl (by simp; decide) d (fun H1 locs1 hP1 hD1 hS1 => h H1 locs1 ar ?_ (fun k j q => ?_) hS1 hl)
  · rw [mw_set (μ := μ) (μ' := sR μ 168 7 (some r)) (fun i hi => ent_congr rfl rfl (up2_ne hi))] at hP1
    · exact hP1
    · rw [ent_obj hs (by decide)]
      refine congrArg (fun t => Sum.inr (4, t)) (rg_set (fun i hi => ?_) ?_).symm
      · simp [fvl, sR, up2, hi]
      · show va_rf ((up2 μ.2.2 168 7 (some r) 168 7).map φ) = .ref (φ r)
        simp [up2, va_rf]
  · show up2 μ.2.2 168 7 (some r) k j = R0 k j
    rw [show up2 μ.2.2 168 7 (some r) k j = μ.2.2 k j from if_neg (fun z => q ⟨z.1, by rw [z.2]; decide⟩)]
    exact hR k j q
theorem x_putR8 (C : CX p s m args meth c φ tc D LA s0 cc own nL) {idx r : Nat} (o : Ob r 0) (w : Cond.fieldLink own idx (txC 4 8).1 (txC 4 8).2.1 (txC 4 8).2.2.1 ∈ tblA) (d : decode cc pc = .ok (.putfield idx, 3)) (h : WX p l e R s m args below meth c φ tc D LA nL kc ks Q (pc + 3) (ls) (st) (sR μ 168 8 (some r))) : WX p l e R s m args below meth c φ tc D LA nL kc ks Q (pc) (ls) (.ref r :: .ref 168 :: st) μ := by
  intro H locs ar hP hR hS hl
  obtain ⟨hx, hb, hml, hown, hts, hK, hlk, hG, hal, hsz, hhp, hLA, hLE⟩ := C
  have hs : sh 168 = 4 := by decide +kernel
  have hk : 168 < NC := by decide +kernel
  refine va_put (D := D) (cl := vwCl) (Ts := tblA) (C := cnC 4) (T := txC 4) (N := nfC 4) (ci := 4) (ref := (txC 4 8).1) hx hb hts (inC 4 (by decide)) (tyC 4) (tyC_ok 4 (by decide)) (nmC 4 (by decide)) hown hK hP ((mw_D hG.2.1).weaken (fun _ _ _ h9 => hLA _ h9)) hS 168 ((mw_get hk).trans (by rw [ent_obj hs (by decide)])) (vwC 4 (by decide)) 8 (by decide) (hts _ w) (fun _ h9 => h9) rfl (tyC_ok 4 (by decide) 8 (by decide)) rfl rfl (by simp; decide) d (fun H1 locs1 hP1 hD1 hS1 => h H1 locs1 ar ?_ (fun k j q => ?_) hS1 hl)
  · rw [mw_set (μ := μ) (μ' := sR μ 168 8 (some r)) (fun i hi => ent_congr rfl rfl (up2_ne hi))] at hP1
    · exact hP1
    · rw [ent_obj hs (by decide)]
      refine congrArg (fun t => Sum.inr (4, t)) (rg_set (fun i hi => ?_) ?_).symm
      · simp [fvl, sR, up2, hi]
      · show va_rf ((up2 μ.2.2 168 8 (some r) 168 8).map φ) = .ref (φ r)
        simp [up2, va_rf]
  · show up2 μ.2.2 168 8 (some r) k j = R0 k j
    rw [show up2 μ.2.2 168 8 (some r) k j = μ.2.2 k j from if_neg (fun z => q ⟨z.1, by rw [z.2]; decide⟩)]
    exact hR k j q
theorem x_iret {Qr : Option Value → MM → Prop} (C : CX p s m args meth c φ tc D (AX φ) s0 cc own nL) {v : Int32} (hr : meth.sig.returnType = some .int) (d : decode cc pc = .ok (.ireturn, 1)) (h : Qr (some (.int v)) μ) : WX p l e R s m args below meth c φ tc D (AX φ) nL 0 0 (MQ below (QX φ tc D Qr) args s 0 0 (AX φ)) pc ls [.int v] μ := by
  intro H locs ar hP hR hS hl
  have hlocks := C.2.2.2.2.2.2.1
  exact W.iret (v := v) C.1 C.2.1 hr (fun t ht hW => ⟨some (.int v), μ, rfl, h, by rw [ht]; exact hP, hR, hS.F ht⟩) hS.2.2 d
theorem x_lret {Qr : Option Value → MM → Prop} (C : CX p s m args meth c φ tc D (AX φ) s0 cc own nL) {v : Int64} (hr : meth.sig.returnType = some .long) (d : decode cc pc = .ok (.lreturn, 1)) (h : Qr (some (.long v)) μ) : WX p l e R s m args below meth c φ tc D (AX φ) nL 0 0 (MQ below (QX φ tc D Qr) args s 0 0 (AX φ)) pc ls [.long v] μ := by
  intro H locs ar hP hR hS hl
  have hlocks := C.2.2.2.2.2.2.1
  exact W.lret (v := v) C.1 C.2.1 hr (fun t ht hW => ⟨some (.long v), μ, rfl, h, by rw [ht]; exact hP, hR, hS.F ht⟩) hS.2.2 d
theorem x_zret {Qr : Option Value → MM → Prop} (C : CX p s m args meth c φ tc D (AX φ) s0 cc own nL) {v : Int32} (hr : meth.sig.returnType = some .boolean) (hn : bo v) (d : decode cc pc = .ok (.ireturn, 1)) (h : Qr (some (.int v)) μ) : WX p l e R s m args below meth c φ tc D (AX φ) nL 0 0 (MQ below (QX φ tc D Qr) args s 0 0 (AX φ)) pc ls [.int v] μ := by
  intro H locs ar hP hR hS hl
  have hlocks := C.2.2.2.2.2.2.1
  exact W.zret (v := v) C.1 C.2.1 hr (bo_nar hn) (fun t ht hW => ⟨some (.int v), μ, rfl, h, by rw [ht]; exact hP, hR, hS.F ht⟩) hS.2.2 d
theorem x_nret {Qr : Option Value → MM → Prop} (C : CX p s m args meth c φ tc D (AX φ) s0 cc own nL) {v : Int32} {ty : FieldType} (hr : meth.sig.returnType = some ty) (hn : narrow ty (.int v) = .int v) (d : decode cc pc = .ok (.ireturn, 1)) (h : Qr (some (.int v)) μ) : WX p l e R s m args below meth c φ tc D (AX φ) nL 0 0 (MQ below (QX φ tc D Qr) args s 0 0 (AX φ)) pc ls [.int v] μ := by
  intro H locs ar hP hR hS hl
  have hlocks := C.2.2.2.2.2.2.1
  exact W.zret (v := v) C.1 C.2.1 hr hn (fun t ht hW => ⟨some (.int v), μ, rfl, h, by rw [ht]; exact hP, hR, hS.F ht⟩) hS.2.2 d
theorem x_vret {Qr : Option Value → MM → Prop} (C : CX p s m args meth c φ tc D (AX φ) s0 cc own nL) (hr : meth.sig.returnType = none) (d : decode cc pc = .ok (.return_, 1)) (h : Qr none μ) : WX p l e R s m args below meth c φ tc D (AX φ) nL 0 0 (MQ below (QX φ tc D Qr) args s 0 0 (AX φ)) pc ls [] μ := by
  intro H locs ar hP hR hS hl
  have hlocks := C.2.2.2.2.2.2.1
  exact W.vret C.1 C.2.1 hr (fun t ht hW => ⟨none, μ, rfl, h, by rw [ht]; exact hP, hR, hS.F ht⟩) hS.2.2 d
end XX
