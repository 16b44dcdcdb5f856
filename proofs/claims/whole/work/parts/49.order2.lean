theorem leads {σ : Sg} {n : Nat} {E : Gr} (hG : GC σ n E) (F : Nat) (l : Int32) {c : Nat} (hc : c < n) : (∃ p d, l = nI p ∧ (E p = some (c, d) ∨ E p = some (d, c)) ∧ fX1_leadsFrom F σ l (nI c) = some (1, σ)) ∨ ((∀ p d, p < 18 → l = nI p → ¬ (E p = some (c, d) ∨ E p = some (d, c))) ∧ fX1_leadsFrom F σ l (nI c) = some (0, σ)) := by
  have hn := hG.1.1
  unfold fX1_leadsFrom
  rcases hasPg hG.2.2.1 F l with ⟨p, hp, rfl, hE, e1⟩ | ⟨hno, e1⟩
  · obtain ⟨⟨a, b⟩, hab⟩ := Option.isSome_iff_exists.mp hE
    obtain ⟨-, h1, h2⟩ := hG.1.2 p a b hab
    obtain ⟨ea, eb⟩ := hG.2.2.2.1 p a b hab
    have hcp : (nI p).toNatClampNeg = p := nI_clamp (by omega)
    rw [e1]
    simp only [Option.bind_some, if_neg (show ¬ (1 : Int32) = 0 by decide), if_pos (nI_in hp (show 18 < 2 ^ 31 by omega)), hcp, ea, eb]
    by_cases hac : a = c
    · rw [if_pos (by rw [hac])]; exact Or.inl ⟨p, b, rfl, Or.inl (by rw [hab, hac]), rfl⟩
    · rw [if_neg (fun z => hac (by rw [nI_eq (by omega) (by omega)] at z; exact z))]
      by_cases hbc : b = c
      · rw [if_pos (by rw [hbc])]; exact Or.inl ⟨p, a, rfl, Or.inr (by rw [hab, hbc]), rfl⟩
      · rw [if_neg (fun z => hbc (by rw [nI_eq (by omega) (by omega)] at z; exact z))]
        refine Or.inr ⟨fun q d hq hqp h => ?_, rfl⟩
        rw [nI_eq (by omega) (by omega)] at hqp
        subst hqp
        rw [hab] at h
        rcases h with h | h <;> cases h
        · exact hac rfl
        · exact hbc rfl
  · rw [e1]
    refine Or.inr ⟨fun p d hp hl h => hno p hp ?_ hl, rfl⟩
    rcases h with h | h <;> rw [h] <;> rfl
theorem isAt_ {σ : Sg} {n : Nat} {E : Gr} (hG : GM σ n E) (F : Nat) {p c : Nat} (hp : p < 18) (hc : c < 12) : (∃ d, (E p = some (c, d) ∨ E p = some (d, c)) ∧ fX7_isAt F σ (nI p) (nI c) = some (1, σ)) ∨ ((∀ d, ¬ (E p = some (c, d) ∨ E p = some (d, c))) ∧ fX7_isAt F σ (nI p) (nI c) = some (0, σ)) := by
  have hn := hG.1.1
  have hcp : (nI p).toNatClampNeg = p := nI_clamp (by omega)
  unfold fX7_isAt
  simp only [if_pos (nI_in hp (show 18 < 2 ^ 31 by omega)), hcp, hG.2.2.1 p hp]
  cases hE : E p with
  | none =>
    rw [if_pos (by rfl)]
    exact Or.inr ⟨fun d h => (by rcases h with h | h <;> cases h), rfl⟩
  | some q =>
    obtain ⟨a, b⟩ := q
    obtain ⟨-, h1, h2⟩ := hG.1.2 p a b hE
    obtain ⟨ea, eb⟩ := hG.2.2.2 p a b hE
    rw [if_neg (show ¬ (if (some (a, b)).isSome = true then (1 : Int32) else 0) = 0 by simp), ea, eb]
    by_cases hac : a = c
    · rw [if_pos (by rw [hac])]; exact Or.inl ⟨b, Or.inl (by rw [hac]), rfl⟩
    · rw [if_neg (fun z => hac (by rw [nI_eq (by omega) (by omega)] at z; exact z))]
      by_cases hbc : b = c
      · rw [if_pos (by rw [hbc])]; exact Or.inl ⟨a, Or.inr (by rw [hbc]), rfl⟩
      · rw [if_neg (fun z => hbc (by rw [nI_eq (by omega) (by omega)] at z; exact z))]
        refine Or.inr ⟨fun d h => ?_, rfl⟩
        rcases h with h | h <;> cases h
        · exact hac rfl
        · exact hbc rfl
theorem step_order (σ : Sg) (wn : Option Nat) (l1 l2 l3 : Int32) (hI : Inv_ σ wn) : PairOk Inv_ σ wn (fun F σ => fX6_order F σ l1 l2 l3) (fun F σ => fX7_order F σ l1 l2 l3) := by
  obtain ⟨n, E, mo, row, K, S, O, hD⟩ := hI
  obtain ⟨hGC, hGM, hMO, hLY, hL1, hL2, hHI, hXN, hXH, hMH, hPL⟩ := id hD
  obtain ⟨F, hF⟩ : ∃ F : Nat, 40 ≤ F := ⟨40, Nat.le_refl _⟩
  have hn := hGC.1.1
  have same : fX6_order F σ l1 l2 l3 = some (-1, σ) → fX7_order F σ l1 l2 l3 = some (-1, σ) → PairOk Inv_ σ wn (fun F σ => fX6_order F σ l1 l2 l3) (fun F σ => fX7_order F σ l1 l2 l3) := fun e1 e2 => ⟨F, -1, σ, σ, wn, e1, e2, ⟨n, E, mo, row, K, S, O, hD⟩, (Sm.rf (vs := []) (as := [])).keep (by simp)⟩
  by_cases h1 : l1 < 0
  · refine same ?_ ?_
    · unfold fX6_order; rw [if_pos h1]
    · unfold fX7_order; rw [if_pos h1]
  by_cases h2 : 3 < l1
  · refine same ?_ ?_
    · unfold fX6_order; rw [if_neg h1, if_pos h2]
    · unfold fX7_order; rw [if_neg h1, if_pos h2]
  have hl1 : l1 = 0 ∨ l1 = 1 ∨ l1 = 2 ∨ l1 = 3 := by
    obtain ⟨j, hj, rfl⟩ := nI_of h1
    rw [show (3 : Int32) = nI 3 by decide, nI_ltI (by omega) hj] at h2
    have : j = 0 ∨ j = 1 ∨ j = 2 ∨ j = 3 := by omega
    rcases this with rfl | rfl | rfl | rfl
    · exact Or.inl rfl
    · exact Or.inr (Or.inl rfl)
    · exact Or.inr (Or.inr (Or.inl rfl))
    · exact Or.inr (Or.inr (Or.inr rfl))
  rcases hasC hGC.gn F l2 with ⟨c, hc, rfl, e1⟩ | ⟨hno, e1⟩
  · have core : ∀ (hw : l1 = 0 ∨ l1 = 1 ∨ ((l1 = 2 ∨ l1 = 3) ∧ ∃ p d, l3 = nI p ∧ (E p = some (c, d) ∨ E p = some (d, c)))), (fX6_order F σ l1 (nI c) l3 = bX6_order_41 F σ l1 (nI c) l3) → (∀ σ1, GM σ1 n E → fX7_order F σ1 l1 (nI c) l3 = bX7_order_41 F σ1 l1 (nI c) l3) → PairOk Inv_ σ wn (fun F σ => fX6_order F σ l1 (nI c) l3) (fun F σ => fX7_order F σ l1 (nI c) l3) := by
      intro hw e2 e3
      obtain ⟨r, σ1, σ2, a1, a2, a3, a4, a5⟩ := ord_core hD hF hc hw
      exact ⟨F, r, σ1, σ2, wn, e2.trans a1, (e3 σ1 a5).trans a2, a3, a4⟩
    have ec : ∀ σ1, GM σ1 n E → fX7_isCave F σ1 (nI c) = some (1, σ1) := fun σ1 g => by
      rcases isC g F (nI c) with ⟨c2, -, -, e⟩ | ⟨hno, -⟩
      · exact e
      · exact absurd rfl (hno c hc)
    by_cases h3 : l1 < 2
    · have hw : l1 = 0 ∨ l1 = 1 := by
        rcases hl1 with h | h | h | h
        · exact Or.inl h
        · exact Or.inr h
        · rw [h] at h3; exact absurd h3 (by decide)
        · rw [h] at h3; exact absurd h3 (by decide)
      refine core (hw.elim Or.inl (fun h => Or.inr (Or.inl h))) ?_ (fun σ1 g => ?_)
      · unfold fX6_order
        rw [if_neg h1, if_neg h2, e1]
        simp only [Option.bind_some, if_neg (show ¬ (1 : Int32) = 0 by decide), if_pos h3]
      · unfold fX7_order
        rw [if_neg h1, if_neg h2, ec σ1 g]
        simp only [Option.bind_some, if_neg (show ¬ (1 : Int32) = 0 by decide), if_pos h3]
    · have hw : l1 = 2 ∨ l1 = 3 := by
        rcases hl1 with h | h | h | h
        · rw [h] at h3; exact absurd (by decide) h3
        · rw [h] at h3; exact absurd (by decide) h3
        · exact Or.inl h
        · exact Or.inr h
      rcases leads hGC F l3 hc with ⟨p, d, rfl, hp, e2⟩ | ⟨hno, e2⟩
      · have hp18 : p < 18 := by rcases hp with h | h <;> exact (hGC.1.2 _ _ _ h).1
        refine core (Or.inr (Or.inr ⟨hw, p, d, rfl, hp⟩)) ?_ (fun σ1 g => ?_)
        · unfold fX6_order
          rw [if_neg h1, if_neg h2, e1]
          simp only [Option.bind_some, if_neg (show ¬ (1 : Int32) = 0 by decide), if_neg h3]
          rw [e2]
          simp only [Option.bind_some, if_neg (show ¬ (1 : Int32) = 0 by decide)]
        · unfold fX7_order
          rw [if_neg h1, if_neg h2, ec σ1 g]
          simp only [Option.bind_some, if_neg (show ¬ (1 : Int32) = 0 by decide), if_neg h3, if_neg (nI_pos (n := p) (by omega)), if_neg (n18 hp18)]
          rcases isAt_ g F hp18 (show c < 12 by omega) with ⟨d2, -, e4⟩ | ⟨hno, -⟩
          · rw [e4]
            simp only [Option.bind_some, if_neg (show ¬ (1 : Int32) = 0 by decide)]
          · exact absurd hp (hno d)
      · refine same ?_ ?_
        · unfold fX6_order
          rw [if_neg h1, if_neg h2, e1]
          simp only [Option.bind_some, if_neg (show ¬ (1 : Int32) = 0 by decide), if_neg h3]
          rw [e2]; rfl
        · unfold fX7_order
          rw [if_neg h1, if_neg h2, ec σ hGM]
          simp only [Option.bind_some, if_neg (show ¬ (1 : Int32) = 0 by decide), if_neg h3]
          by_cases h4 : l3 < 0
          · rw [if_pos h4]
          · rw [if_neg h4]
            obtain ⟨p, hp, rfl⟩ := nI_of h4
            by_cases h5 : p < 18
            · rw [if_neg (n18 h5)]
              rcases isAt_ hGM F h5 (show c < 12 by omega) with ⟨d2, h6, -⟩ | ⟨-, e4⟩
              · exact absurd h6 (hno p d2 h5 rfl)
              · rw [e4]; rfl
            · rw [if_pos ((n18' hp rfl).mpr (by omega))]
  · refine same ?_ ?_
    · unfold fX6_order; rw [if_neg h1, if_neg h2, e1]; rfl
    · unfold fX7_order
      rw [if_neg h1, if_neg h2]
      rcases isC hGM F l2 with ⟨c2, h3, h4, -⟩ | ⟨-, e4⟩
      · exact absurd h4 (hno c2 h3)
      · rw [e4]; rfl
