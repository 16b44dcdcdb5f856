/-! ===== the reference's spreads: the least pair of lost caves and lost passages ===== -/
/-- who is below: the scratch of the reference -/
def MN (σ : Sg) (men : Nat → Nat) : Prop := ∀ c, c < 12 → σ.2.1 29 c = nI (men c) ∧ men c < 1000
def ClP (E : Gr) (men : Nat → Nat) (X0 Y0 C P : Nat → Prop) : Prop := (∀ c, X0 c → C c) ∧ (∀ p, Y0 p → P p) ∧ ∀ p a b, E p = some (a, b) → (P p → men a = 0 → C a) ∧ (P p → men b = 0 → C b) ∧ (C a → P p) ∧ (C b → P p)
def LeP (E : Gr) (men : Nat → Nat) (X0 Y0 C P : Nat → Prop) : Prop := ClP E men X0 Y0 C P ∧ ∀ C' P', ClP E men X0 Y0 C' P' → (∀ c, C c → C' c) ∧ ∀ p, P p → P' p
abbrev sx (σ : Sg) (x y : Int32) : Sg := st2 σ 23 24 x y
theorem men0 {m : Nat} (h : m < 1000) : nI m = 0 ↔ m = 0 := by
  rw [← nI_0]; exact nI_eq (by omega) (by omega)
theorem men1 {m : Nat} (h : m < 1000) : nI m ≤ 0 ↔ m = 0 := by
  rw [← nI_0, nI_leI (by omega) (by omega)]; omega
/-- one passage's step -/
def sX (a b : Nat) (men : Nat → Nat) (l : Bool) (x : Int32) : Int32 :=
  let x1 := if l = true ∧ men a = 0 then x ||| ((1 : Int32) <<< (nI a &&& 31)) else x
  if l = true ∧ men b = 0 then x1 ||| ((1 : Int32) <<< (nI b &&& 31)) else x1
def sY (a b p : Nat) (x y : Int32) : Int32 := if bt x a = true ∨ bt x b = true then y ||| ((1 : Int32) <<< (nI p &&& 31)) else y
theorem sX_bt {a b : Nat} {men : Nat → Nat} {l : Bool} {x : Int32} (ha : a < 32) (hb : b < 32) (i : Nat) : bt (sX a b men l x) i = true ↔ (bt x i = true ∨ (l = true ∧ men a = 0 ∧ i = a) ∨ (l = true ∧ men b = 0 ∧ i = b)) := by
  unfold sX
  by_cases h1 : l = true ∧ men a = 0 <;> by_cases h2 : l = true ∧ men b = 0
  · rw [if_pos h2, if_pos h1, b_or, b_or, b_bit ha, b_bit hb]; simp [h1.1, h1.2, h2.2, or_assoc]
  · rw [if_neg h2, if_pos h1, b_or, b_bit ha]
    have : ¬ men b = 0 := fun z => h2 ⟨h1.1, z⟩
    simp [h1.1, h1.2, this]
  · rw [if_pos h2, if_neg h1, b_or, b_bit hb]
    have : ¬ men a = 0 := fun z => h1 ⟨h2.1, z⟩
    simp [h2.1, h2.2, this]
  · rw [if_neg h2, if_neg h1]
    constructor
    · exact Or.inl
    · rintro (h | ⟨h3, h4, -⟩ | ⟨h3, h4, -⟩)
      · exact h
      · exact absurd ⟨h3, h4⟩ h1
      · exact absurd ⟨h3, h4⟩ h2
theorem sY_bt {a b p : Nat} {x y : Int32} (hp : p < 32) (i : Nat) : bt (sY a b p x y) i = true ↔ (bt y i = true ∨ ((bt x a = true ∨ bt x b = true) ∧ i = p)) := by
  unfold sY
  by_cases h : bt x a = true ∨ bt x b = true
  · rw [if_pos h, b_or, b_bit hp]; simp [h]
  · rw [if_neg h]; simp [h]
/-- the pass over one passage, in the program -/
theorem spd_p {σ : Sg} {n : Nat} {E : Gr} {men : Nat → Nat} (hG : GM σ n E) (hM : MN σ men) (F : Nat) (k2 : Sg → Int32 → Rs) (k62 : Sg → Int32 → Int32 → Int32 → Rs) (x y l2 l3 : Int32) {p : Nat} (hp : p < 18) :
    bX7_spreads_62 F k2 k62 (sx σ x y) l2 l3 (nI p) = match E p with
      | none => k62 (sx σ x y) l2 l3 (nI (p + 1))
      | some (a, b) => k62 (sx σ (sX a b men (bt y p) x) (sY a b p (sX a b men (bt y p) x) y)) l2 l3 (nI (p + 1)) := by
  obtain ⟨⟨hn, hE⟩, g1, g2, g3⟩ := hG
  have i18 : ib (nI p) 18 := nI_in hp (by omega)
  have e27 : (sx σ x y).2.1 27 p = if (E p).isSome = true then 1 else 0 := g2 p hp
  have hcp : (nI p).toNatClampNeg = p := nI_clamp (by omega)
  have h18 : ¬ (18 : Int32) ≤ nI p := by rw [show (18 : Int32) = nI 18 by decide]; exact nI_ge hp (by omega)
  unfold bX7_spreads_62
  simp only [if_neg h18, if_pos i18, hcp, e27]
  cases hEp : E p with
  | none => rw [nI_1]; rfl
  | some q =>
    obtain ⟨a, b⟩ := q
    obtain ⟨-, hab, hbn⟩ := hE p a b hEp
    obtain ⟨ea, eb⟩ := g3 p a b hEp
    have ea' : ∀ x y, (sx σ x y).2.1 25 p = nI a := fun _ _ => ea
    have eb' : ∀ x y, (sx σ x y).2.1 26 p = nI b := fun _ _ => eb
    have ia : ib (nI a) 12 := nI_in (by omega) (by omega)
    have ib' : ib (nI b) 12 := nI_in (by omega) (by omega)
    have hca : (nI a).toNatClampNeg = a := nI_clamp (by omega)
    have hcb : (nI b).toNatClampNeg = b := nI_clamp (by omega)
    obtain ⟨ma, ma'⟩ := hM a (by omega)
    obtain ⟨mb, mb'⟩ := hM b (by omega)
    have ma2 : ∀ x y, (sx σ x y).2.1 29 a = nI (men a) := fun _ _ => ma
    have mb2 : ∀ x y, (sx σ x y).2.1 29 b = nI (men b) := fun _ _ => mb
    have key : ∀ x, bX7_spreads_178 F k2 k62 (sx σ x y) l2 l3 (nI p) = k62 (sx σ x (sY a b p x y)) l2 l3 (nI (p + 1)) := by
      intro x
      unfold bX7_spreads_178 bX7_spreads_214 ls_
      simp only [if_pos i18, hcp, ea', eb', st2_x (show (23 : Nat) ≠ 24 by decide), st2_y, nI_1, st2_j]
      unfold sY
      by_cases h1 : bt x a = true
      · rw [if_pos ((b_t1 (by omega)).mpr h1), if_pos (Or.inl h1)]
      · rw [if_neg (fun z => h1 ((b_t1 (by omega)).mp z))]
        by_cases h2 : bt x b = true
        · rw [if_pos ((b_t1 (by omega)).mpr h2), if_pos (Or.inr h2)]
        · rw [if_neg (fun z => h2 ((b_t1 (by omega)).mp z)), if_neg (fun z => z.elim h1 h2)]
    have key2 : ∀ x, bX7_spreads_140 F k2 k62 (sx σ x y) l2 l3 (nI p) 1 = bX7_spreads_178 F k2 k62 (sx σ (if men b = 0 then x ||| ((1 : Int32) <<< (nI b &&& 31)) else x) y) l2 l3 (nI p) := by
      intro x
      unfold bX7_spreads_140 ls_
      simp only [if_neg (show ¬ (1 : Int32) = 0 by decide), if_pos i18, hcp, eb', if_pos ib', hcb, mb2, st2_x (show (23 : Nat) ≠ 24 by decide), st2_i (show (23 : Nat) ≠ 24 by decide)]
      by_cases h : men b = 0
      · rw [if_pos ((men0 mb').mpr h), if_pos h]
      · rw [if_neg (fun z => h ((men0 mb').mp z)), if_neg h]
    simp only [Option.isSome_some, if_true, if_neg (show ¬ (1 : Int32) = 0 by decide), st2_y, st2_x (show (23 : Nat) ≠ 24 by decide), ea', if_pos ia, hca, ma2]
    by_cases hl : bt y p = true
    · rw [if_pos ((b_t1 (by omega)).mpr hl)]
      unfold ls_
      simp only [st2_i (show (23 : Nat) ≠ 24 by decide), key2]
      show _ = k62 (sx σ (sX a b men (bt y p) x) (sY a b p (sX a b men (bt y p) x) y)) l2 l3 (nI (p + 1))
      rw [← key]
      unfold sX
      by_cases h : men a = 0
      · rw [if_pos ((men0 ma').mpr h)]; simp [hl, h]
      · rw [if_neg (fun z => h ((men0 ma').mp z))]; simp [hl, h]
    · rw [if_neg (fun z => hl ((b_t1 (by omega)).mp z))]
      unfold bX7_spreads_140
      rw [if_pos rfl]
      show _ = k62 (sx σ (sX a b men (bt y p) x) (sY a b p (sX a b men (bt y p) x) y)) l2 l3 (nI (p + 1))
      rw [← key]
      have : sX a b men (bt y p) x = x := by unfold sX; simp [hl]
      rw [this]

/-- the passes over the passages from p on, as mathematics -/
def psX (E : Gr) (men : Nat → Nat) : Nat → Nat → Int32 × Int32 → Int32 × Int32
  | 0, _, q => q
  | m + 1, p, q => psX E men m (p + 1) (match E p with
    | none => q
    | some (a, b) => (sX a b men (bt q.2 p) q.1, sY a b p (sX a b men (bt q.2 p) q.1) q.2))
theorem spd_ps {σ : Sg} {n : Nat} {E : Gr} {men : Nat → Nat} (hG : GM σ n E) (hM : MN σ men) (F : Nat) (k2 : Sg → Int32 → Rs) (l2 l3 : Int32) : ∀ (m p : Nat) (x y : Int32), p + m = 18 → ∀ f, fX7_spreads_62 F k2 (m + 1 + f) (sx σ x y) l2 l3 (nI p) = k2 (sx σ (psX E men m p (x, y)).1 (psX E men m p (x, y)).2) (if l2 = (psX E men m p (x, y)).2 then (if l3 = (psX E men m p (x, y)).1 then 0 else 1) else 1) := by
  intro m
  induction m with
  | zero =>
    intro p x y hp f
    rw [show 0 + 1 + f = f + 1 by omega]
    show bX7_spreads_62 F k2 (fX7_spreads_62 F k2 f) (sx σ x y) l2 l3 (nI p) = _
    have : p = 18 := by omega
    subst this
    unfold bX7_spreads_62
    rw [if_pos (by decide), st2_y, st2_x (by decide)]
    show _ = k2 (sx σ x y) (if l2 = y then (if l3 = x then 0 else 1) else 1)
    by_cases h1 : l2 = y
    · rw [if_pos h1, if_pos h1]
      by_cases h2 : l3 = x
      · rw [if_pos h2, if_pos h2]
      · rw [if_neg h2, if_neg h2]
    · rw [if_neg h1, if_neg h1]
  | succ m ih =>
    intro p x y hp f
    rw [show m + 1 + 1 + f = (m + 1 + f) + 1 by omega]
    show bX7_spreads_62 F k2 (fX7_spreads_62 F k2 (m + 1 + f)) (sx σ x y) l2 l3 (nI p) = _
    rw [spd_p hG hM F k2 _ x y l2 l3 (by omega)]
    unfold psX
    cases hEp : E p with
    | none => exact ih (p + 1) x y (by omega) f
    | some q =>
      obtain ⟨a, b⟩ := q
      exact ih (p + 1) _ _ (by omega) f
/-- the caves with searchers are cleared: nothing is there to clear -/
theorem spd_c {σ : Sg} {n : Nat} {E : Gr} {men : Nat → Nat} (hG : GM σ n E) (hM : MN σ men) (F : Nat) (k2 : Sg → Int32 → Rs) (x y l2 l3 : Int32) (hx : ∀ c, bt x c = true → men c = 0) : ∀ (m c : Nat), c + m = n → ∀ f, fX7_spreads_19 F k2 (m + 1 + f) (sx σ x y) l2 l3 (nI c) = fX7_spreads_62 F k2 F (sx σ x y) l2 l3 0 := by
  obtain ⟨⟨hn, hE⟩, g1, g2, g3⟩ := hG
  have e21 : (sx σ x y).1 21 = nI n := by rw [st2_o (by decide) (by decide)]; exact g1
  intro m
  induction m with
  | zero =>
    intro c hc f
    rw [show 0 + 1 + f = f + 1 by omega]
    show bX7_spreads_19 F k2 (fX7_spreads_19 F k2 f) (sx σ x y) l2 l3 (nI c) = _
    unfold bX7_spreads_19
    rw [e21, if_pos (nI_le (by omega) (by omega))]
  | succ m ih =>
    intro c hc f
    rw [show m + 1 + 1 + f = (m + 1 + f) + 1 by omega]
    show bX7_spreads_19 F k2 (fX7_spreads_19 F k2 (m + 1 + f)) (sx σ x y) l2 l3 (nI c) = _
    obtain ⟨mc, mc'⟩ := hM c (by omega)
    have mc2 : (sx σ x y).2.1 29 c = nI (men c) := mc
    have hcc : (nI c).toNatClampNeg = c := nI_clamp (by omega)
    unfold bX7_spreads_19 ls_
    simp only [e21, if_neg (nI_ge (show c < n by omega) (by omega)), if_pos (nI_in (show c < 12 by omega) (by omega)), hcc, mc2, st2_x (show (23 : Nat) ≠ 24 by decide), st2_i (show (23 : Nat) ≠ 24 by decide), nI_1]
    by_cases h : men c = 0
    · rw [if_pos ((men1 mc').mpr h)]
      exact ih (c + 1) (by omega) f
    · rw [if_neg (fun z => h ((men1 mc').mp z))]
      have hxc : x &&& (((1 : Int32) <<< (nI c &&& 31)) ^^^ (-1)) = x := b_ext fun i hi => by
        rw [b_and, b_not _ hi, b_bit (by omega)]
        by_cases hic : i = c
        · subst hic
          have : bt x i = false := by
            cases hb : bt x i with
            | false => rfl
            | true => exact absurd (hx i hb) h
          simp [this]
        · simp [hic]
      rw [hxc]
      exact ih (c + 1) (by omega) f
theorem psX_le (E : Gr) (men : Nat → Nat) (hE : ∀ p a b, E p = some (a, b) → p < 18 ∧ a < 12 ∧ b < 12) : ∀ (m p : Nat) (q : Int32 × Int32), (∀ i, bt q.1 i = true → bt (psX E men m p q).1 i = true) ∧ (∀ i, bt q.2 i = true → bt (psX E men m p q).2 i = true) := by
  intro m
  induction m with
  | zero => intro p q; exact ⟨fun _ h => h, fun _ h => h⟩
  | succ m ih =>
    intro p q
    unfold psX
    cases hEp : E p with
    | none => exact ih (p + 1) q
    | some r =>
      obtain ⟨a, b⟩ := r
      obtain ⟨h1, h2, h3⟩ := hE p a b hEp
      obtain ⟨i1, i2⟩ := ih (p + 1) (sX a b men (bt q.2 p) q.1, sY a b p (sX a b men (bt q.2 p) q.1) q.2)
      exact ⟨fun i hi => i1 i ((sX_bt (by omega) (by omega) i).mpr (Or.inl hi)), fun i hi => i2 i ((sY_bt (by omega) i).mpr (Or.inl hi))⟩
/-- a pass that changes nothing: closed -/
theorem psX_fix (E : Gr) (men : Nat → Nat) (hE : ∀ p a b, E p = some (a, b) → p < 18 ∧ a < 12 ∧ b < 12) : ∀ (m p : Nat) (q : Int32 × Int32), psX E men m p q = q → ∀ p', p ≤ p' → p' < p + m → ∀ a b, E p' = some (a, b) → (bt q.2 p' = true → men a = 0 → bt q.1 a = true) ∧ (bt q.2 p' = true → men b = 0 → bt q.1 b = true) ∧ (bt q.1 a = true → bt q.2 p' = true) ∧ (bt q.1 b = true → bt q.2 p' = true) := by
  intro m
  induction m with
  | zero => intro p q _ p' h1 h2; omega
  | succ m ih =>
    intro p q hq p' h1 h2 a b hab
    unfold psX at hq
    by_cases hpp : p' = p
    · subst hpp
      rw [hab] at hq
      obtain ⟨g1, g2, g3⟩ := hE p' a b hab
      obtain ⟨l1, l2⟩ := psX_le E men hE m (p' + 1) (sX a b men (bt q.2 p') q.1, sY a b p' (sX a b men (bt q.2 p') q.1) q.2)
      have hq' : psX E men m (p' + 1) (sX a b men (bt q.2 p') q.1, sY a b p' (sX a b men (bt q.2 p') q.1) q.2) = q := hq
      rw [hq'] at l1 l2
      refine ⟨fun h3 h4 => l1 a ((sX_bt (by omega) (by omega) a).mpr (Or.inr (Or.inl ⟨h3, h4, rfl⟩))), fun h3 h4 => l1 b ((sX_bt (by omega) (by omega) b).mpr (Or.inr (Or.inr ⟨h3, h4, rfl⟩))), fun h3 => l2 p' ((sY_bt (by omega) p').mpr (Or.inr ⟨Or.inl ((sX_bt (by omega) (by omega) a).mpr (Or.inl h3)), rfl⟩)), fun h3 => l2 p' ((sY_bt (by omega) p').mpr (Or.inr ⟨Or.inr ((sX_bt (by omega) (by omega) b).mpr (Or.inl h3)), rfl⟩))⟩
    · cases hEp : E p with
      | none => rw [hEp] at hq; exact ih (p + 1) q hq p' (by omega) (by omega) a b hab
      | some r =>
        obtain ⟨a2, b2⟩ := r
        rw [hEp] at hq
        obtain ⟨g1, g2, g3⟩ := hE p a2 b2 hEp
        have hq' : psX E men m (p + 1) (sX a2 b2 men (bt q.2 p) q.1, sY a2 b2 p (sX a2 b2 men (bt q.2 p) q.1) q.2) = q := hq
        obtain ⟨l1, l2⟩ := psX_le E men hE m (p + 1) (sX a2 b2 men (bt q.2 p) q.1, sY a2 b2 p (sX a2 b2 men (bt q.2 p) q.1) q.2)
        rw [hq'] at l1 l2
        have e1 : sX a2 b2 men (bt q.2 p) q.1 = q.1 := b_ext' fun i => ⟨fun h => l1 i h, fun h => (sX_bt (by omega) (by omega) i).mpr (Or.inl h)⟩
        have e2 : sY a2 b2 p (sX a2 b2 men (bt q.2 p) q.1) q.2 = q.2 := b_ext' fun i => ⟨fun h => l2 i h, fun h => (sY_bt (by omega) i).mpr (Or.inl h)⟩
        rw [e2, e1] at hq'
        exact ih (p + 1) q hq' p' (by omega) (by omega) a b hab
/-- a pass stays below every closed pair, and away from the searchers -/
theorem psX_in (E : Gr) (men : Nat → Nat) (hE : ∀ p a b, E p = some (a, b) → p < 18 ∧ a < 12 ∧ b < 12) {X0 Y0 C P : Nat → Prop} (hC : ClP E men X0 Y0 C P) : ∀ (m p : Nat) (q : Int32 × Int32), (∀ i, bt q.1 i = true → C i) → (∀ i, bt q.2 i = true → P i) → (∀ i, bt (psX E men m p q).1 i = true → C i) ∧ (∀ i, bt (psX E men m p q).2 i = true → P i) := by
  intro m
  induction m with
  | zero => intro p q h1 h2; exact ⟨h1, h2⟩
  | succ m ih =>
    intro p q h1 h2
    unfold psX
    cases hEp : E p with
    | none => exact ih (p + 1) q h1 h2
    | some r =>
      obtain ⟨a, b⟩ := r
      obtain ⟨g1, g2, g3⟩ := hE p a b hEp
      obtain ⟨c1, c2, c3, c4⟩ := hC.2.2 p a b hEp
      have k1 : ∀ i, bt (sX a b men (bt q.2 p) q.1) i = true → C i := by
        intro i hi
        rcases (sX_bt (by omega) (by omega) i).mp hi with h | ⟨h3, h4, rfl⟩ | ⟨h3, h4, rfl⟩
        · exact h1 i h
        · exact c1 (h2 p h3) h4
        · exact c2 (h2 p h3) h4
      refine ih (p + 1) _ k1 (fun i hi => ?_)
      rcases (sY_bt (by omega) i).mp hi with h | ⟨h | h, rfl⟩
      · exact h2 i h
      · exact c3 (k1 a h)
      · exact c4 (k1 b h)
theorem psX_men (E : Gr) (men : Nat → Nat) (hE : ∀ p a b, E p = some (a, b) → p < 18 ∧ a < 12 ∧ b < 12) (m p : Nat) (q : Int32 × Int32) (h : ∀ i, bt q.1 i = true → men i = 0) (h2 : ∀ i, bt q.2 i = true → i < 18) : (∀ i, bt (psX E men m p q).1 i = true → men i = 0) ∧ (∀ i, bt (psX E men m p q).2 i = true → i < 18) := by
  have := psX_in E men hE (X0 := fun _ => False) (Y0 := fun _ => False) (C := fun i => men i = 0) (P := fun i => i < 18) ⟨fun _ z => z.elim, fun _ z => z.elim, fun p a b hp => ⟨fun _ z => z, fun _ z => z, fun _ => (hE p a b hp).1, fun _ => (hE p a b hp).1⟩⟩ m p q h h2
  exact this
