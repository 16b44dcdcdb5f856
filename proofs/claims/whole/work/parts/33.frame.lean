/-! ===== what stays: all but some scalars and some arrays ===== -/
theorem sv_1 (σ : Sg) (i j : Nat) (x : Int32) : (sv σ i x).1 j = if j = i then x else σ.1 j := rfl
theorem sv_2 (σ : Sg) (i : Nat) (x : Int32) : (sv σ i x).2 = σ.2 := rfl
theorem sa_1 (σ : Sg) (k i : Nat) (x : Int32) : (sa σ k i x).1 = σ.1 := rfl
theorem sa_2 (σ : Sg) (k i j : Nat) (x : Int32) : (sa σ k i x).2.1 j = if j = k then upd (σ.2.1 k) i x else σ.2.1 j := rfl
theorem sa_3 (σ : Sg) (k i : Nat) (x : Int32) : (sa σ k i x).2.2 = σ.2.2 := rfl
theorem upd_at (f : Nat → Int32) (k j : Nat) (x : Int32) : upd f k x j = if j = k then x else f j := rfl
def Sm (vs as : List Nat) (σ τ : Sg) : Prop := (∀ i, i ∉ vs → τ.1 i = σ.1 i) ∧ (∀ k, k ∉ as → τ.2.1 k = σ.2.1 k) ∧ τ.2.2 = σ.2.2
theorem Sm.rf {vs as : List Nat} {σ : Sg} : Sm vs as σ σ := ⟨fun _ _ => rfl, fun _ _ => rfl, rfl⟩
theorem Sm.tr {vs as : List Nat} {σ τ υ : Sg} (h1 : Sm vs as σ τ) (h2 : Sm vs as τ υ) : Sm vs as σ υ := ⟨fun i hi => (h2.1 i hi).trans (h1.1 i hi), fun k hk => (h2.2.1 k hk).trans (h1.2.1 k hk), h2.2.2.trans h1.2.2⟩
theorem Sm.up {vs as vs' as' : List Nat} {σ τ : Sg} (h : Sm vs as σ τ) (h1 : ∀ i ∈ vs, i ∈ vs') (h2 : ∀ k ∈ as, k ∈ as') : Sm vs' as' σ τ := ⟨fun i hi => h.1 i (fun z => hi (h1 i z)), fun k hk => h.2.1 k (fun z => hk (h2 k z)), h.2.2⟩
theorem Sm.sv {vs as : List Nat} {σ : Sg} {i : Nat} {x : Int32} (h : i ∈ vs) : Sm vs as σ (sv σ i x) := ⟨fun j hj => by rw [sv_1, if_neg (fun e : j = i => hj (by rw [e]; exact h))], fun _ _ => rfl, rfl⟩
theorem Sm.sa {vs as : List Nat} {σ : Sg} {k i : Nat} {x : Int32} (h : k ∈ as) : Sm vs as σ (sa σ k i x) := ⟨fun _ _ => rfl, fun j hj => by rw [sa_2, if_neg (fun e : j = k => hj (by rw [e]; exact h))], rfl⟩
/-- two scalars set -/
def st2 (σ : Sg) (i j : Nat) (x y : Int32) : Sg := sv (sv σ i x) j y
theorem st2_self (σ : Sg) (i j : Nat) : st2 σ i j (σ.1 i) (σ.1 j) = σ := by
  refine Prod.ext (funext fun q => ?_) rfl
  show (if q = j then σ.1 j else if q = i then σ.1 i else σ.1 q) = σ.1 q
  by_cases h : q = j
  · rw [if_pos h, h]
  · rw [if_neg h]
    by_cases h2 : q = i
    · rw [if_pos h2, h2]
    · rw [if_neg h2]
theorem st2_i {σ : Sg} {i j : Nat} (hij : i ≠ j) (x y x' : Int32) : sv (st2 σ i j x y) i x' = st2 σ i j x' y := by
  refine Prod.ext (funext fun q => ?_) rfl
  show (if q = i then x' else if q = j then y else if q = i then x else σ.1 q) = if q = j then y else if q = i then x' else σ.1 q
  by_cases h : q = i
  · rw [if_pos h, if_neg (fun e => hij (h ▸ e)), if_pos h]
  · rw [if_neg h]
    by_cases h2 : q = j
    · rw [if_pos h2, if_pos h2]
    · rw [if_neg h2, if_neg h, if_neg h2, if_neg h]
theorem st2_j (σ : Sg) (i j : Nat) (x y y' : Int32) : sv (st2 σ i j x y) j y' = st2 σ i j x y' := by
  refine Prod.ext (funext fun q => ?_) rfl
  show (if q = j then y' else if q = j then y else if q = i then x else σ.1 q) = if q = j then y' else if q = i then x else σ.1 q
  by_cases h : q = j
  · rw [if_pos h, if_pos h]
  · rw [if_neg h, if_neg h, if_neg h]
theorem st2_x {σ : Sg} {i j : Nat} (hij : i ≠ j) (x y : Int32) : (st2 σ i j x y).1 i = x := by
  show (if i = j then y else if i = i then x else σ.1 i) = x
  rw [if_neg hij, if_pos rfl]
theorem st2_y (σ : Sg) (i j : Nat) (x y : Int32) : (st2 σ i j x y).1 j = y := by
  show (if j = j then y else _) = y
  rw [if_pos rfl]
theorem st2_o {σ : Sg} {i j k : Nat} (h1 : k ≠ i) (h2 : k ≠ j) (x y : Int32) : (st2 σ i j x y).1 k = σ.1 k := by
  show (if k = j then y else if k = i then x else σ.1 k) = σ.1 k
  rw [if_neg h2, if_neg h1]
theorem st2_Sm {σ : Sg} {i j : Nat} {x y : Int32} : Sm [i, j] [] σ (st2 σ i j x y) := (Sm.sv (by simp)).tr (Sm.sv (by simp))
/-! ===== the passages, as mathematics: E p is none, or its two caves ===== -/
abbrev Gr : Type := Nat → Option (Nat × Nat)
def GrOk (n : Nat) (E : Gr) : Prop := n ≤ 12 ∧ ∀ p a b, E p = some (a, b) → p < 18 ∧ a < b ∧ b < n
/-- the reference's ground -/
def GM (σ : Sg) (n : Nat) (E : Gr) : Prop := GrOk n E ∧ σ.1 21 = nI n ∧ (∀ p, p < 18 → σ.2.1 27 p = if (E p).isSome = true then 1 else 0) ∧ ∀ p a b, E p = some (a, b) → σ.2.1 25 p = nI a ∧ σ.2.1 26 p = nI b
/-- the class's ground -/
def GC (σ : Sg) (n : Nat) (E : Gr) : Prop := GrOk n E ∧ σ.1 0 = nI n ∧ (∀ p, bt (σ.1 1) p = (E p).isSome) ∧ (∀ p a b, E p = some (a, b) → σ.2.1 2 p = nI a ∧ σ.2.1 3 p = nI b) ∧
  (∀ c, c < 12 → ∀ p, bt (σ.2.1 4 c) p = true ↔ ∃ a b, E p = some (a, b) ∧ (a = c ∨ b = c)) ∧
  (∀ c, c < 12 → ∀ d, bt (σ.2.1 5 c) d = true ↔ ∃ p a b, E p = some (a, b) ∧ ((a = c ∧ b = d) ∨ (a = d ∧ b = c)))
theorem GC.gn {σ : Sg} {n : Nat} {E : Gr} (h : GC σ n E) : GN σ n := ⟨h.2.1, h.1.1⟩
theorem GM.sm {vs as : List Nat} {σ τ : Sg} {n : Nat} {E : Gr} (h : GM σ n E) (hs : Sm vs as σ τ) (h1 : 21 ∉ vs) (h2 : 25 ∉ as) (h3 : 26 ∉ as) (h4 : 27 ∉ as) : GM τ n E := by
  obtain ⟨g1, g2, g3, g4⟩ := h
  refine ⟨g1, (hs.1 21 h1).trans g2, fun p hp => ?_, fun p a b hp => ?_⟩
  · rw [hs.2.1 27 h4]; exact g3 p hp
  · rw [hs.2.1 25 h2, hs.2.1 26 h3]; exact g4 p a b hp
theorem GC.sm {vs as : List Nat} {σ τ : Sg} {n : Nat} {E : Gr} (h : GC σ n E) (hs : Sm vs as σ τ) (h1 : 0 ∉ vs) (h2 : 1 ∉ vs) (h3 : 2 ∉ as) (h4 : 3 ∉ as) (h5 : 4 ∉ as) (h6 : 5 ∉ as) : GC τ n E := by
  obtain ⟨g1, g2, g3, g4, g5, g6⟩ := h
  refine ⟨g1, (hs.1 0 h1).trans g2, fun p => ?_, fun p a b hp => ?_, fun c hc p => ?_, fun c hc d => ?_⟩
  · rw [hs.1 1 h2]; exact g3 p
  · rw [hs.2.1 2 h3, hs.2.1 3 h4]; exact g4 p a b hp
  · rw [hs.2.1 4 h5]; exact g5 c hc p
  · rw [hs.2.1 5 h6]; exact g6 c hc d
/-- the passages at some caves, as bits -/
def PO (E : Gr) (C : Nat → Prop) (p : Nat) : Prop := ∃ a b, E p = some (a, b) ∧ (C a ∨ C b)
theorem GC.pAt {σ : Sg} {n : Nat} {E : Gr} (h : GC σ n E) {F : Nat} (hF : 13 ≤ F) (s : Int32) : ∃ v, fX1_passagesAt F σ s = some (v, σ) ∧ ∀ i, bt v i = true ↔ PO E (fun c => bt s c = true) i := by
  obtain ⟨v, e, hv⟩ := pAtN h.gn hF s
  refine ⟨v, e, fun i => (hv i).trans ?_⟩
  have hn := h.1.1
  constructor
  · rintro ⟨d, d1, d2, d3⟩
    obtain ⟨a, b, e1, e2⟩ := (h.2.2.2.2.1 d (by omega) i).mp d3
    refine ⟨a, b, e1, ?_⟩
    rcases e2 with rfl | rfl
    · exact Or.inl d2
    · exact Or.inr d2
  · rintro ⟨a, b, e1, e2⟩
    obtain ⟨h1, h2, h3⟩ := h.1.2 i a b e1
    rcases e2 with e2 | e2
    · exact ⟨a, by omega, e2, (h.2.2.2.2.1 a (by omega) i).mpr ⟨a, b, e1, Or.inl rfl⟩⟩
    · exact ⟨b, by omega, e2, (h.2.2.2.2.1 b (by omega) i).mpr ⟨a, b, e1, Or.inr rfl⟩⟩
