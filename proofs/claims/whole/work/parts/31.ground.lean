/-! ===== the ground's reads: passagesAt, spread ===== -/
/-- the class's ground: n caves -/
def GN (σ : Sg) (n : Nat) : Prop := σ.1 0 = nI n ∧ n ≤ 12
theorem pAt_loop {σ : Sg} {n : Nat} (hG : GN σ n) (F : Nat) (s : Int32) : ∀ (m c : Nat) (acc : Int32), c ≤ n → n < c + m → ∃ v, fX1_passagesAt_4 F m σ s acc (nI c) = some (v, σ) ∧ ∀ i, bt v i = true ↔ (bt acc i = true ∨ ∃ d, c ≤ d ∧ d < n ∧ bt s d = true ∧ bt (σ.2.1 4 d) i = true) := by
  obtain ⟨h0, hn⟩ := hG
  intro m
  induction m with
  | zero => intro c acc h1 h2; omega
  | succ m ih =>
    intro c acc h1 h2
    show ∃ v, bX1_passagesAt_4 F (fX1_passagesAt_4 F m) σ s acc (nI c) = some (v, σ) ∧ _
    unfold bX1_passagesAt_4
    by_cases hc : n ≤ c
    · rw [if_pos (by rw [h0]; exact nI_le hc (by omega))]
      refine ⟨acc, rfl, fun i => ⟨fun h => Or.inl h, fun h => ?_⟩⟩
      rcases h with h | ⟨d, d1, d2, -⟩
      · exact h
      · omega
    · rw [if_neg (by rw [h0]; exact nI_ge (by omega) (by omega)), nI_1]
      by_cases hb : bt s c = true
      · rw [if_neg (fun z => by rw [(b_t0 (by omega)).mp z] at hb; cases hb), if_pos (nI_in (by omega) (by omega))]
        unfold li_
        rw [nI_clamp (by omega)]
        obtain ⟨v, e, hv⟩ := ih (c + 1) (acc ||| σ.2.1 4 c) (by omega) (by omega)
        refine ⟨v, e, fun i => (hv i).trans ?_⟩
        rw [b_or, Bool.or_eq_true]
        constructor
        · rintro ((h | h) | ⟨d, d1, d2, d3, d4⟩)
          · exact Or.inl h
          · exact Or.inr ⟨c, Nat.le_refl c, by omega, hb, h⟩
          · exact Or.inr ⟨d, by omega, d2, d3, d4⟩
        · rintro (h | ⟨d, d1, d2, d3, d4⟩)
          · exact Or.inl (Or.inl h)
          · by_cases hd : d = c
            · subst hd; exact Or.inl (Or.inr d4)
            · exact Or.inr ⟨d, by omega, d2, d3, d4⟩
      · have hb' : bt s c = false := by simpa using hb
        rw [if_pos ((b_t0 (by omega)).mpr hb')]
        obtain ⟨v, e, hv⟩ := ih (c + 1) acc (by omega) (by omega)
        refine ⟨v, e, fun i => (hv i).trans ?_⟩
        constructor
        · rintro (h | ⟨d, d1, d2, d3, d4⟩)
          · exact Or.inl h
          · exact Or.inr ⟨d, by omega, d2, d3, d4⟩
        · rintro (h | ⟨d, d1, d2, d3, d4⟩)
          · exact Or.inl h
          · by_cases hd : d = c
            · subst hd; exact absurd d3 hb
            · exact Or.inr ⟨d, by omega, d2, d3, d4⟩
/-- passagesAt: the passages at some of the caves -/
theorem pAtN {σ : Sg} {n : Nat} (hG : GN σ n) {F : Nat} (hF : 13 ≤ F) (s : Int32) : ∃ v, fX1_passagesAt F σ s = some (v, σ) ∧ ∀ i, bt v i = true ↔ ∃ d, d < n ∧ bt s d = true ∧ bt (σ.2.1 4 d) i = true := by
  obtain ⟨v, e, hv⟩ := pAt_loop hG F s F 0 0 (by omega) (by have := hG.2; omega)
  refine ⟨v, ?_, fun i => (hv i).trans ?_⟩
  · unfold fX1_passagesAt
    rw [nI_0] at e
    exact e
  · rw [b_0]
    constructor
    · rintro (h | ⟨d, d1, d2⟩)
      · cases h
      · exact ⟨d, d2⟩
    · rintro ⟨d, d2⟩
      exact Or.inr ⟨d, Nat.zero_le d, d2⟩
