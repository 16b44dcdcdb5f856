/-! ===== settles: an order's end ===== -/
def Kill (E : Gr) (men : Nat → Nat) (l1 : Int32) (p : Nat) : Prop := ∃ a b, E p = some (a, b) ∧ (nI p = l1 ∨ (0 < men a ∧ 0 < men b))
theorem b_clr {n : Nat} (hn : n < 32) (x : Int32) (i : Nat) : bt (x &&& (((1 : Int32) <<< (nI n &&& 31)) ^^^ (-1))) i = true ↔ (bt x i = true ∧ i ≠ n) := by
  rw [b_and]
  by_cases hi : i < 32
  · rw [b_not _ hi, b_bit hn]; simp
  · rw [b_big (x := x) (by omega)]; simp
theorem stl_p {σ : Sg} {n : Nat} {E : Gr} {men : Nat → Nat} (hG : GM σ n E) (hM : MN σ men) (F : Nat) (x l1 : Int32) : ∀ (m p : Nat) (y : Int32), p + m = 18 → ∀ f, ∃ y', fX7_settles_2 F (m + 1 + f) (sx σ x y) l1 (nI p) = fX7_settles_75 F F (sx σ x y') 0 ∧ ∀ i, bt y' i = true ↔ (bt y i = true ∧ ¬ (p ≤ i ∧ Kill E men l1 i)) := by
  have hE := hG.1.e12
  obtain ⟨⟨hn, -⟩, g1, g2, g3⟩ := hG
  intro m
  induction m with
  | zero =>
    intro p y hp f
    rw [show 0 + 1 + f = f + 1 by omega]
    have : p = 18 := by omega
    subst this
    refine ⟨y, ?_, fun i => ⟨fun h => ⟨h, ?_⟩, fun h => h.1⟩⟩
    · show bX7_settles_2 F (fX7_settles_2 F f) (sx σ x y) l1 (nI 18) = _
      unfold bX7_settles_2
      rw [if_pos (by decide)]
    · rintro ⟨h1, a, b, h2, -⟩
      have := (hE i a b h2).1
      omega
  | succ m ih =>
    intro p y hp f
    rw [show m + 1 + 1 + f = (m + 1 + f) + 1 by omega]
    show ∃ y', bX7_settles_2 F (fX7_settles_2 F (m + 1 + f)) (sx σ x y) l1 (nI p) = _ ∧ _
    have hcp : (nI p).toNatClampNeg = p := nI_clamp (by omega)
    have h18 : ¬ (18 : Int32) ≤ nI p := by rw [show (18 : Int32) = nI 18 by decide]; exact nI_ge (by omega) (by omega)
    have i18 : ib (nI p) 18 := nI_in (by omega) (by omega)
    have e27 : (sx σ x y).2.1 27 p = if (E p).isSome = true then 1 else 0 := g2 p (by omega)
    unfold bX7_settles_2
    simp only [if_neg h18, if_pos i18, hcp, e27]
    cases hEp : E p with
    | none =>
      simp only [Option.isSome_none, nI_1]
      obtain ⟨y', e, hy⟩ := ih (p + 1) y (by omega) f
      refine ⟨y', e, fun i => (hy i).trans ⟨fun h => ⟨h.1, fun z => ?_⟩, fun h => ⟨h.1, fun z => h.2 ⟨by omega, z.2⟩⟩⟩⟩
      by_cases hi : i = p
      · subst hi
        obtain ⟨-, a, b, h2, -⟩ := z
        rw [hEp] at h2; cases h2
      · exact h.2 ⟨by omega, z.2⟩
    | some q =>
      obtain ⟨a, b⟩ := q
      obtain ⟨-, ha, hb⟩ := hE p a b hEp
      obtain ⟨ea, eb⟩ := g3 p a b hEp
      have ea' : (sx σ x y).2.1 25 p = nI a := ea
      have eb' : (sx σ x y).2.1 26 p = nI b := eb
      have hca : (nI a).toNatClampNeg = a := nI_clamp (by omega)
      have hcb : (nI b).toNatClampNeg = b := nI_clamp (by omega)
      obtain ⟨ma, ma'⟩ := hM a (by omega)
      obtain ⟨mb, mb'⟩ := hM b (by omega)
      have ma2 : (sx σ x y).2.1 29 a = nI (men a) := ma
      have mb2 : (sx σ x y).2.1 29 b = nI (men b) := mb
      simp only [Option.isSome_some, if_true, if_neg (show ¬ (1 : Int32) = 0 by decide), ea', eb', if_pos (nI_in ha (show 12 < 2 ^ 31 by decide)), if_pos (nI_in hb (show 12 < 2 ^ 31 by decide)), hca, hcb, ma2, mb2, nI_1]
      have kill : Kill E men l1 p → ∃ y', bX7_settles_53 F (fX7_settles_2 F (m + 1 + f)) (sx σ x y) l1 (nI p) = fX7_settles_75 F F (sx σ x y') 0 ∧ ∀ i, bt y' i = true ↔ (bt y i = true ∧ ¬ (p ≤ i ∧ Kill E men l1 i)) := by
        intro hk
        unfold bX7_settles_53 ls_
        rw [st2_y, st2_j, nI_1]
        obtain ⟨y', e, hy⟩ := ih (p + 1) (y &&& (((1 : Int32) <<< (nI p &&& 31)) ^^^ (-1))) (by omega) f
        refine ⟨y', e, fun i => (hy i).trans ?_⟩
        rw [b_clr (by omega)]
        constructor
        · rintro ⟨⟨h1, h2⟩, h3⟩
          exact ⟨h1, fun z => h3 ⟨by omega, z.2⟩⟩
        · rintro ⟨h1, h2⟩
          exact ⟨⟨h1, fun z => h2 ⟨by omega, z ▸ hk⟩⟩, fun z => h2 ⟨by omega, z.2⟩⟩
      have stay : ¬ Kill E men l1 p → ∃ y', fX7_settles_2 F (m + 1 + f) (sx σ x y) l1 (nI (p + 1)) = fX7_settles_75 F F (sx σ x y') 0 ∧ ∀ i, bt y' i = true ↔ (bt y i = true ∧ ¬ (p ≤ i ∧ Kill E men l1 i)) := by
        intro hk
        obtain ⟨y', e, hy⟩ := ih (p + 1) y (by omega) f
        refine ⟨y', e, fun i => (hy i).trans ⟨fun h => ⟨h.1, fun z => ?_⟩, fun h => ⟨h.1, fun z => h.2 ⟨by omega, z.2⟩⟩⟩⟩
        by_cases hi : i = p
        · subst hi; exact hk z.2
        · exact h.2 ⟨by omega, z.2⟩
      by_cases h1 : nI p = l1
      · rw [if_pos h1]
        exact kill ⟨a, b, hEp, Or.inl h1⟩
      · rw [if_neg h1]
        by_cases h2 : men a = 0
        · rw [if_pos ((men1 ma').mpr h2)]
          refine stay ?_
          rintro ⟨a2, b2, h3, h4⟩
          rw [hEp] at h3; cases h3
          rcases h4 with h4 | h4
          · exact h1 h4
          · omega
        · rw [if_neg (fun z => h2 ((men1 ma').mp z))]
          by_cases h3 : men b = 0
          · rw [if_pos ((men1 mb').mpr h3)]
            refine stay ?_
            rintro ⟨a2, b2, h4, h5⟩
            rw [hEp] at h4; cases h4
            rcases h5 with h5 | h5
            · exact h1 h5
            · omega
          · rw [if_neg (fun z => h3 ((men1 mb').mp z))]
            exact kill ⟨a, b, hEp, Or.inr ⟨by omega, by omega⟩⟩
theorem stl_c {σ : Sg} {n : Nat} {E : Gr} {men : Nat → Nat} (hG : GM σ n E) (hM : MN σ men) (F : Nat) (y : Int32) : ∀ (m c : Nat) (x : Int32), c + m = n → ∀ f, ∃ x', fX7_settles_75 F (m + 1 + f) (sx σ x y) (nI c) = (fX7_spreads F (sx σ x' y)).bind (fun q1 => (fun (r1 : Int32) (σ1 : Sg) => some (0, σ1)) q1.1 q1.2) ∧ ∀ i, bt x' i = true ↔ (bt x i = true ∧ ¬ (c ≤ i ∧ i < n ∧ 0 < men i)) := by
  obtain ⟨⟨hn, -⟩, g1, g2, g3⟩ := hG
  intro m
  induction m with
  | zero =>
    intro c x hc f
    rw [show 0 + 1 + f = f + 1 by omega]
    refine ⟨x, ?_, fun i => ⟨fun h => ⟨h, by omega⟩, fun h => h.1⟩⟩
    show bX7_settles_75 F (fX7_settles_75 F f) (sx σ x y) (nI c) = _
    unfold bX7_settles_75
    rw [st2_o (by decide) (by decide), g1, if_pos (nI_le (by omega) (by omega))]
  | succ m ih =>
    intro c x hc f
    rw [show m + 1 + 1 + f = (m + 1 + f) + 1 by omega]
    show ∃ x', bX7_settles_75 F (fX7_settles_75 F (m + 1 + f)) (sx σ x y) (nI c) = _ ∧ _
    obtain ⟨mc, mc'⟩ := hM c (by omega)
    have mc2 : (sx σ x y).2.1 29 c = nI (men c) := mc
    have e21 : (sx σ x y).1 21 = nI n := by rw [st2_o (by decide) (by decide)]; exact g1
    have hcc : (nI c).toNatClampNeg = c := nI_clamp (by omega)
    unfold bX7_settles_75 ls_
    simp only [e21, if_neg (nI_ge (show c < n by omega) (by omega)), if_pos (nI_in (show c < 12 by omega) (by omega)), hcc, mc2, st2_x (show (23 : Nat) ≠ 24 by decide), st2_i (show (23 : Nat) ≠ 24 by decide), nI_1]
    by_cases h : men c = 0
    · rw [if_pos ((men1 mc').mpr h)]
      obtain ⟨x', e, hx⟩ := ih (c + 1) x (by omega) f
      refine ⟨x', e, fun i => (hx i).trans ⟨fun h1 => ⟨h1.1, fun z => ?_⟩, fun h1 => ⟨h1.1, fun z => h1.2 ⟨by omega, z.2⟩⟩⟩⟩
      by_cases hi : i = c
      · subst hi; omega
      · exact h1.2 ⟨by omega, z.2⟩
    · rw [if_neg (fun z => h ((men1 mc').mp z))]
      obtain ⟨x', e, hx⟩ := ih (c + 1) (x &&& (((1 : Int32) <<< (nI c &&& 31)) ^^^ (-1))) (by omega) f
      refine ⟨x', e, fun i => (hx i).trans ?_⟩
      rw [b_clr (by omega)]
      constructor
      · rintro ⟨⟨h1, h2⟩, h3⟩
        exact ⟨h1, fun z => h3 ⟨by omega, z.2⟩⟩
      · rintro ⟨h1, h2⟩
        exact ⟨⟨h1, fun z => h2 ⟨by omega, by omega, by rw [z]; omega⟩⟩, fun z => h2 ⟨by omega, z.2⟩⟩
/-- settles: what is lost behind an order -/
theorem stl {σ : Sg} {n : Nat} {E : Gr} {men : Nat → Nat} (hG : GM σ n E) (hM : MN σ men) {F : Nat} (hF : 40 ≤ F) (x y l1 : Int32) (hx : ∀ i, bt x i = true → i < n) (hy : ∀ i, bt y i = true → i < 18) :
    ∃ x' y', fX7_settles F (sx σ x y) l1 = some (0, sx σ x' y') ∧ LeP E men (fun i => bt x i = true ∧ men i = 0) (fun i => bt y i = true ∧ ¬ Kill E men l1 i) (fun i => bt x' i = true) (fun i => bt y' i = true) ∧ (∀ i, bt x' i = true → men i = 0 ∧ i < 12) ∧ (∀ i, bt y' i = true → i < 18) := by
  have hn := hG.1.1
  obtain ⟨y1, e1, hy1⟩ := stl_p hG hM F x l1 18 0 y (by omega) (F - 19)
  rw [show 18 + 1 + (F - 19) = F by omega, nI_0] at e1
  obtain ⟨x1, e2, hx1⟩ := stl_c hG hM F y1 n 0 x (by omega) (F - n - 1)
  rw [show n + 1 + (F - n - 1) = F by omega, nI_0] at e2
  have hx2 : ∀ i, bt x1 i = true ↔ (bt x i = true ∧ men i = 0) := fun i => (hx1 i).trans ⟨fun h => ⟨h.1, Classical.byContradiction fun z => h.2 ⟨by omega, hx i h.1, by omega⟩⟩, fun h => ⟨h.1, by omega⟩⟩
  have hy2 : ∀ i, bt y1 i = true ↔ (bt y i = true ∧ ¬ Kill E men l1 i) := fun i => (hy1 i).trans ⟨fun h => ⟨h.1, fun z => h.2 ⟨by omega, z⟩⟩, fun h => ⟨h.1, fun z => h.2 z.2⟩⟩
  obtain ⟨x', y', e3, hL, b1, b2⟩ := spd hG hM hF x1 y1 (fun i hi => ⟨((hx2 i).mp hi).2, by have := hx i ((hx2 i).mp hi).1; omega⟩) (fun i hi => hy i ((hy2 i).mp hi).1)
  refine ⟨x', y', ?_, ?_, b1, b2⟩
  · unfold fX7_settles
    rw [e1, e2, e3]
    rfl
  · have f1 : (fun i => bt x1 i = true) = (fun i => bt x i = true ∧ men i = 0) := funext fun i => propext (hx2 i)
    have f2 : (fun i => bt y1 i = true) = (fun i => bt y i = true ∧ ¬ Kill E men l1 i) := funext fun i => propext (hy2 i)
    rw [f1, f2] at hL
    exact hL
/-! ===== the lost caves behind an order, by themselves ===== -/
def ClO (E : Gr) (men : Nat → Nat) (w sl C : Nat → Prop) : Prop := (∀ c, w c → men c = 0 → C c) ∧ ∀ p a b, E p = some (a, b) → (¬ sl p → (w a ∨ w b) → ¬ (0 < men a ∧ 0 < men b) → (men a = 0 → C a) ∧ (men b = 0 → C b)) ∧ (C a → men b = 0 → C b) ∧ (C b → men a = 0 → C a)
def LeO (E : Gr) (men : Nat → Nat) (w sl C : Nat → Prop) : Prop := ClO E men w sl C ∧ ∀ S, ClO E men w sl S → ∀ c, C c → S c
theorem LeO.uniq {E : Gr} {men : Nat → Nat} {w sl C D : Nat → Prop} (h1 : LeO E men w sl C) (h2 : LeO E men w sl D) (c : Nat) : C c ↔ D c := ⟨h1.2 D h2.1 c, h2.2 C h1.1 c⟩
theorem LeP.toO {E : Gr} {men : Nat → Nat} {w C P : Nat → Prop} {l1 : Int32} (h : LeP E men (fun i => w i ∧ men i = 0) (fun i => PO E w i ∧ ¬ Kill E men l1 i) C P) : LeO E men w (fun p => nI p = l1) C ∧ ∀ p, P p ↔ PO E C p := by
  obtain ⟨⟨h1, h2, h3⟩, h4⟩ := h
  have hC : ClO E men w (fun p => nI p = l1) C := by
    refine ⟨fun c hw hm => h1 c ⟨hw, hm⟩, fun p a b hp => ?_⟩
    obtain ⟨c1, c2, c3, c4⟩ := h3 p a b hp
    refine ⟨fun n1 n2 n3 => ?_, fun z => c2 (c3 z), fun z => c1 (c4 z)⟩
    have hP : P p := h2 p ⟨⟨a, b, hp, n2⟩, fun ⟨a2, b2, k1, k2⟩ => by
      rw [hp] at k1; cases k1
      rcases k2 with k2 | k2
      · exact n1 k2
      · exact n3 k2⟩
    exact ⟨c1 hP, c2 hP⟩
  have key : ∀ S, ClO E men w (fun p => nI p = l1) S → ClP E men (fun i => w i ∧ men i = 0) (fun i => PO E w i ∧ ¬ Kill E men l1 i) S (PO E S) := by
    intro S hS
    have end_ : ∀ p a b, E p = some (a, b) → (PO E w p ∧ ¬ Kill E men l1 p) → (men a = 0 → S a) ∧ (men b = 0 → S b) := by
      intro p a b hp hk
      obtain ⟨⟨a2, b2, k1, k2⟩, k3⟩ := hk
      rw [hp] at k1; cases k1
      exact (hS.2 p a b hp).1 (fun z => k3 ⟨a, b, hp, Or.inl z⟩) k2 (fun z => k3 ⟨a, b, hp, Or.inr z⟩)
    refine ⟨fun c hc => hS.1 c hc.1 hc.2, fun p hp => ?_, fun p a b hp => ?_⟩
    · obtain ⟨⟨a, b, k1, k2⟩, k3⟩ := id hp
      obtain ⟨e1, e2⟩ := end_ p a b k1 hp
      by_cases ha : men a = 0
      · exact ⟨a, b, k1, Or.inl (e1 ha)⟩
      · by_cases hb : men b = 0
        · exact ⟨a, b, k1, Or.inr (e2 hb)⟩
        · exact absurd ⟨a, b, k1, Or.inr ⟨by omega, by omega⟩⟩ k3
    · refine ⟨fun hP hm => ?_, fun hP hm => ?_, fun z => ⟨a, b, hp, Or.inl z⟩, fun z => ⟨a, b, hp, Or.inr z⟩⟩
      · obtain ⟨a2, b2, k1, k2⟩ := hP
        rw [hp] at k1; cases k1
        rcases k2 with k2 | k2
        · exact k2
        · exact (hS.2 p a b hp).2.2 k2 hm
      · obtain ⟨a2, b2, k1, k2⟩ := hP
        rw [hp] at k1; cases k1
        rcases k2 with k2 | k2
        · exact (hS.2 p a b hp).2.1 k2 hm
        · exact k2
  refine ⟨⟨hC, fun S hS => (h4 S (PO E S) (key S hS)).1⟩, fun p => ⟨(h4 C (PO E C) (key C hC)).2 p, ?_⟩⟩
  rintro ⟨a, b, k1, k2⟩
  obtain ⟨c1, c2, c3, c4⟩ := h3 p a b k1
  exact k2.elim c3 c4
