/-! ===== the reference's spreads: the least pair of lost caves and lost passages ===== -/
/-- who is below: the scratch of the reference -/
def MN (σ : Sg) (men : Nat → Nat) : Prop := ∀ c, c < 12 → σ.2.1 29 c = nI (men c) ∧ men c < 1000
def ClP (E : Gr) (men : Nat → Nat) (X0 Y0 C P : Nat → Prop) : Prop := (∀ c, X0 c → C c) ∧ (∀ p, Y0 p → P p) ∧ ∀ p a b, E p = some (a, b) → (P p → men a = 0 → C a) ∧ (P p → men b = 0 → C b) ∧ (C a → P p) ∧ (C b → P p)
def LeP (E : Gr) (men : Nat → Nat) (X0 Y0 C P : Nat → Prop) : Prop := ClP E men X0 Y0 C P ∧ ∀ C' P', ClP E men X0 Y0 C' P' → (∀ c, C c → C' c) ∧ ∀ p, P p → P' p
abbrev sx (σ : Sg) (x y : Int32) : Sg := st2 σ 23 24 x y
theorem men0 {m : Nat} (h : m < 1000) : nI m = 0 ↔ m = 0 := by
  rw [← nI_0]; exact nI_eq (by omega) (by omega)
theorem men1 {m : Nat} (h : m < 1000) : nI m ≤ 0 ↔ m = 0 := by
  rw [← nI_0, nI_leI (by omega) (by omega)]; omega
/-- one passage's step -/
def sX (a b : Nat) (men : Nat → Nat) (l : Bool) (x : Int32) : Int32 :=
  let x1 := if l = true ∧ men a = 0 then x ||| ((1 : Int32) <<< (nI a &&& 31)) else x
  if l = true ∧ men b = 0 then x1 ||| ((1 : Int32) <<< (nI b &&& 31)) else x1
def sY (a b p : Nat) (x y : Int32) : Int32 := if bt x a = true ∨ bt x b = true then y ||| ((1 : Int32) <<< (nI p &&& 31)) else y
theorem sX_bt {a b : Nat} {men : Nat → Nat} {l : Bool} {x : Int32} (ha : a < 32) (hb : b < 32) (i : Nat) : bt (sX a b men l x) i = true ↔ (bt x i = true ∨ (l = true ∧ men a = 0 ∧ i = a) ∨ (l = true ∧ men b = 0 ∧ i = b)) := by
  unfold sX
  by_cases h1 : l = true ∧ men a = 0 <;> by_cases h2 : l = true ∧ men b = 0
  · rw [if_pos h2, if_pos h1, b_or, b_or, b_bit ha, b_bit hb]; simp [h1.1, h1.2, h2.2, or_assoc]
  · rw [if_neg h2, if_pos h1, b_or, b_bit ha]
    have : ¬ men b = 0 := fun z => h2 ⟨h1.1, z⟩
    simp [h1.1, h1.2, this]
  · rw [if_pos h2, if_neg h1, b_or, b_bit hb]
    have : ¬ men a = 0 := fun z => h1 ⟨h2.1, z⟩
    simp [h2.1, h2.2, this]
  · rw [if_neg h2, if_neg h1]
    constructor
    · exact Or.inl
    · rintro (h | ⟨h3, h4, -⟩ | ⟨h3, h4, -⟩)
      · exact h
      · exact absurd ⟨h3, h4⟩ h1
      · exact absurd ⟨h3, h4⟩ h2
theorem sY_bt {a b p : Nat} {x y : Int32} (hp : p < 32) (i : Nat) : bt (sY a b p x y) i = true ↔ (bt y i = true ∨ ((bt x a = true ∨ bt x b = true) ∧ i = p)) := by
  unfold sY
  by_cases h : bt x a = true ∨ bt x b = true
  · rw [if_pos h, b_or, b_bit hp]; simp [h]
  · rw [if_neg h]; simp [h]
/-- the pass over one passage, in the program -/
theorem spd_p {σ : Sg} {n : Nat} {E : Gr} {men : Nat → Nat} (hG : GM σ n E) (hM : MN σ men) (F : Nat) (k2 : Sg → Int32 → Rs) (k62 : Sg → Int32 → Int32 → Int32 → Rs) (x y l2 l3 : Int32) {p : Nat} (hp : p < 18) :
    bX7_spreads_62 F k2 k62 (sx σ x y) l2 l3 (nI p) = match E p with
      | none => k62 (sx σ x y) l2 l3 (nI (p + 1))
      | some (a, b) => k62 (sx σ (sX a b men (bt y p) x) (sY a b p (sX a b men (bt y p) x) y)) l2 l3 (nI (p + 1)) := by
  obtain ⟨⟨hn, hE⟩, g1, g2, g3⟩ := hG
  have i18 : ib (nI p) 18 := nI_in hp (by omega)
  have e27 : (sx σ x y).2.1 27 p = if (E p).isSome = true then 1 else 0 := g2 p hp
  unfold bX7_spreads_62
  rw [if_neg (by rw [show (18 : Int32) = nI 18 by decide]; exact nI_ge hp (by omega)), if_pos i18, nI_clamp (by omega), e27]
  cases hEp : E p with
  | none => rw [nI_1]; rfl
  | some q =>
    obtain ⟨a, b⟩ := q
    obtain ⟨-, hab, hbn⟩ := hE p a b hEp
    obtain ⟨ea, eb⟩ := g3 p a b hEp
    have ea' : ∀ x y, (sx σ x y).2.1 25 p = nI a := fun _ _ => ea
    have eb' : ∀ x y, (sx σ x y).2.1 26 p = nI b := fun _ _ => eb
    have ia : ib (nI a) 12 := nI_in (by omega) (by omega)
    have ib' : ib (nI b) 12 := nI_in (by omega) (by omega)
    obtain ⟨ma, ma'⟩ := hM a (by omega)
    obtain ⟨mb, mb'⟩ := hM b (by omega)
    have ma2 : ∀ x y, (sx σ x y).2.1 29 a = nI (men a) := fun _ _ => ma
    have mb2 : ∀ x y, (sx σ x y).2.1 29 b = nI (men b) := fun _ _ => mb
    have key : ∀ x, bX7_spreads_178 F k2 k62 (sx σ x y) l2 l3 (nI p) = k62 (sx σ x (sY a b p x y)) l2 l3 (nI (p + 1)) := by
      intro x
      unfold bX7_spreads_178 bX7_spreads_214 ls_
      rw [if_pos i18, nI_clamp (by omega), ea', eb', st2_x (by decide), st2_y, nI_1, st2_j]
      unfold sY
      by_cases h1 : bt x a = true
      · rw [if_pos ((b_t1 (by omega)).mpr h1), if_pos (Or.inl h1)]
      · rw [if_neg (fun z => h1 ((b_t1 (by omega)).mp z)), if_pos i18]
        by_cases h2 : bt x b = true
        · rw [if_pos ((b_t1 (by omega)).mpr h2), if_pos (Or.inr h2)]
        · rw [if_neg (fun z => h2 ((b_t1 (by omega)).mp z)), if_neg (fun z => z.elim h1 h2)]
    have key2 : ∀ x, bX7_spreads_140 F k2 k62 (sx σ x y) l2 l3 (nI p) 1 = bX7_spreads_178 F k2 k62 (sx σ (if men b = 0 then x ||| ((1 : Int32) <<< (nI b &&& 31)) else x) y) l2 l3 (nI p) := by
      intro x
      unfold bX7_spreads_140 ls_
      rw [if_neg (by decide), if_pos i18, nI_clamp (by omega), eb', if_pos ib', nI_clamp (by omega), mb2, st2_x (by decide), st2_i (by decide)]
      by_cases h : men b = 0
      · rw [if_pos ((men0 mb').mpr h), if_pos i18, if_pos h]
      · rw [if_neg (fun z => h ((men0 mb').mp z)), if_neg h]
    rw [if_neg (by decide), st2_y, st2_x (by decide)]
    by_cases hl : bt y p = true
    · rw [if_pos ((b_t1 (by omega)).mpr hl), if_neg (by decide), if_pos i18, ea', if_pos ia, nI_clamp (by omega), ma2]
      unfold ls_
      rw [st2_i (by decide), key2, key2]
      show _ = k62 (sx σ (sX a b men (bt y p) x) (sY a b p (sX a b men (bt y p) x) y)) l2 l3 (nI (p + 1))
      rw [← key]
      unfold sX
      by_cases h : men a = 0
      · rw [if_pos ((men0 ma').mpr h), if_pos i18]; simp [hl, h]
      · rw [if_neg (fun z => h ((men0 ma').mp z))]; simp [hl, h]
    · rw [if_neg (fun z => hl ((b_t1 (by omega)).mp z)), if_pos rfl]
      unfold bX7_spreads_140
      rw [if_pos rfl]
      show _ = k62 (sx σ (sX a b men (bt y p) x) (sY a b p (sX a b men (bt y p) x) y)) l2 l3 (nI (p + 1))
      rw [← key]
      have : sX a b men (bt y p) x = x := by unfold sX; simp [hl]
      rw [this]
