/-! ===== spread: the least set that holds some and goes on along the passages, never into a barred cave ===== -/
def ClS (n : Nat) (N : Nat → Nat → Prop) (s b S : Nat → Prop) : Prop := (∀ i, s i → S i) ∧ ∀ c d, c < n → S c → N c d → ¬ b d → S d
def LeS (n : Nat) (N : Nat → Nat → Prop) (s b v : Nat → Prop) : Prop := ClS n N s b v ∧ ∀ S, ClS n N s b S → ∀ i, v i → S i
theorem LeS.uniq {n : Nat} {N : Nat → Nat → Prop} {s b v w : Nat → Prop} (h1 : LeS n N s b v) (h2 : LeS n N s b w) (i : Nat) : v i ↔ w i := ⟨fun h => h1.2 w h2.1 i h, fun h => h2.2 v h1.1 i h⟩
theorem spr_in {σ : Sg} {n : Nat} (hG : GN σ n) (F : Nat) (k8 : Sg → Int32 → Int32 → Int32 → Int32 → Rs) (b r f rd : Int32) : ∀ (m c : Nat) (acc : Int32), c ≤ n → n < c + m → ∃ a, fX1_spread_28 F k8 m σ b r f rd acc (nI c) = k8 σ b (r ||| ((a &&& (b ^^^ (-1))) &&& (r ^^^ (-1)))) ((a &&& (b ^^^ (-1))) &&& (r ^^^ (-1))) (rd + 1) ∧ ∀ i, bt a i = true ↔ (bt acc i = true ∨ ∃ d, c ≤ d ∧ d < n ∧ bt f d = true ∧ bt (σ.2.1 5 d) i = true) := by
  obtain ⟨h0, hn⟩ := hG
  intro m
  induction m with
  | zero => intro c acc h1 h2; omega
  | succ m ih =>
    intro c acc h1 h2
    show ∃ a, bX1_spread_28 F k8 (fX1_spread_28 F k8 m) σ b r f rd acc (nI c) = _ ∧ _
    unfold bX1_spread_28
    by_cases hc : n ≤ c
    · rw [if_pos (by rw [h0]; exact nI_le hc (by omega))]
      refine ⟨acc, rfl, fun i => ⟨fun h => Or.inl h, fun h => ?_⟩⟩
      rcases h with h | ⟨d, d1, d2, -⟩
      · exact h
      · omega
    · rw [if_neg (by rw [h0]; exact nI_ge (by omega) (by omega)), nI_1]
      by_cases hb : bt f c = true
      · rw [if_neg (fun z => by rw [(b_t0 (by omega)).mp z] at hb; cases hb), if_pos (nI_in (by omega) (by omega))]
        unfold li_
        rw [nI_clamp (by omega)]
        obtain ⟨a, e, ha⟩ := ih (c + 1) (acc ||| σ.2.1 5 c) (by omega) (by omega)
        refine ⟨a, e, fun i => (ha i).trans ?_⟩
        rw [b_or, Bool.or_eq_true]
        constructor
        · rintro ((h | h) | ⟨d, d1, d2, d3, d4⟩)
          · exact Or.inl h
          · exact Or.inr ⟨c, Nat.le_refl c, by omega, hb, h⟩
          · exact Or.inr ⟨d, by omega, d2, d3, d4⟩
        · rintro (h | ⟨d, d1, d2, d3, d4⟩)
          · exact Or.inl (Or.inl h)
          · by_cases hd : d = c
            · subst hd; exact Or.inl (Or.inr d4)
            · exact Or.inr ⟨d, by omega, d2, d3, d4⟩
      · have hb' : bt f c = false := by simpa using hb
        rw [if_pos ((b_t0 (by omega)).mpr hb')]
        obtain ⟨a, e, ha⟩ := ih (c + 1) acc (by omega) (by omega)
        refine ⟨a, e, fun i => (ha i).trans ?_⟩
        constructor
        · rintro (h | ⟨d, d1, d2, d3, d4⟩)
          · exact Or.inl h
          · exact Or.inr ⟨d, by omega, d2, d3, d4⟩
        · rintro (h | ⟨d, d1, d2, d3, d4⟩)
          · exact Or.inl h
          · by_cases hd : d = c
            · subst hd; exact absurd d3 hb
            · exact Or.inr ⟨d, by omega, d2, d3, d4⟩
theorem spr_out {σ : Sg} {n : Nat} (hG : GN σ n) {F : Nat} (hF : 13 ≤ F) (hN : ∀ c, c < n → ∀ d, bt (σ.2.1 5 c) d = true → d < n) (s b : Int32) :
    ∀ (m rd : Nat) (r f : Int32), rd ≤ n → n < rd + m → (∀ i, bt f i = true → bt r i = true) → (∀ i, bt r i = true → i < n) → (∀ i, bt s i = true → bt r i = true) →
      (∀ S, ClS n (fun c d => bt (σ.2.1 5 c) d = true) (fun i => bt s i = true) (fun i => bt b i = true) S → ∀ i, bt r i = true → S i) →
      (∀ c d, c < n → bt r c = true → ¬ bt f c = true → bt (σ.2.1 5 c) d = true → ¬ bt b d = true → bt r d = true) → (f = 0 ∨ cnt n (fun i => !bt r i) + rd + 1 ≤ n) →
      ∃ v, fX1_spread_8 F m σ b r f (nI rd) = some (v, σ) ∧ LeS n (fun c d => bt (σ.2.1 5 c) d = true) (fun i => bt s i = true) (fun i => bt b i = true) (fun i => bt v i = true) := by
  have hG' := hG
  obtain ⟨h0, hn⟩ := hG
  intro m
  induction m with
  | zero => intro rd r f h1 h2; omega
  | succ m ih =>
    intro rd r f h1 h2 hfr hrn hsr hle hcl hme
    show ∃ v, bX1_spread_8 F (fX1_spread_8 F m) σ b r f (nI rd) = _ ∧ _
    unfold bX1_spread_8
    have done : f = 0 → LeS n (fun c d => bt (σ.2.1 5 c) d = true) (fun i => bt s i = true) (fun i => bt b i = true) (fun i => bt r i = true) := by
      intro hf
      refine ⟨⟨hsr, fun c d h1 h2 h3 h4 => hcl c d h1 h2 ?_ h3 h4⟩, hle⟩
      rw [hf, b_0]; decide
    by_cases hc : n ≤ rd
    · rw [if_pos (by rw [h0]; exact nI_le hc (by omega))]
      have hf : f = 0 := by
        rcases hme with h | h
        · exact h
        · omega
      exact ⟨r, rfl, done hf⟩
    · rw [if_neg (by rw [h0]; exact nI_ge (by omega) (by omega))]
      by_cases hf : f = 0
      · rw [if_pos hf]
        exact ⟨r, rfl, done hf⟩
      · rw [if_neg hf]
        obtain ⟨a, e, ha⟩ := spr_in hG' F (fX1_spread_8 F m) b r f (nI rd) F 0 0 (by omega) (by omega)
        rw [nI_0] at e
        rw [e, nI_1]
        have ha' : ∀ i, bt a i = true ↔ ∃ d, d < n ∧ bt f d = true ∧ bt (σ.2.1 5 d) i = true := fun i => (ha i).trans (by
          rw [b_0]
          constructor
          · rintro (h | ⟨d, d1, d2⟩)
            · cases h
            · exact ⟨d, d2⟩
          · rintro ⟨d, d2⟩
            exact Or.inr ⟨d, Nat.zero_le d, d2⟩)
        generalize hg : (a &&& (b ^^^ (-1))) &&& (r ^^^ (-1)) = g
        have hgb : ∀ i, bt g i = true ↔ (bt a i = true ∧ ¬ bt b i = true ∧ ¬ bt r i = true) := by
          intro i
          rw [← hg, b_and, b_and]
          by_cases hi : i < 32
          · rw [b_not _ hi, b_not _ hi]; cases bt a i <;> cases bt b i <;> cases bt r i <;> simp
          · rw [b_big (x := a) (by omega)]; simp
        have hgn : ∀ i, bt g i = true → i < n := by
          intro i hi
          obtain ⟨h1, -, -⟩ := (hgb i).mp hi
          obtain ⟨d, d1, d2, d3⟩ := (ha' i).mp h1
          exact hN d d1 i d3
        refine ih (rd + 1) (r ||| g) g (by omega) (by omega) ?_ ?_ ?_ ?_ ?_ ?_
        · intro i hi; rw [b_or, hi]; simp
        · intro i hi
          rw [b_or, Bool.or_eq_true] at hi
          rcases hi with h | h
          · exact hrn i h
          · exact hgn i h
        · intro i hi; rw [b_or, hsr i hi]; simp
        · intro S hS i hi
          rw [b_or, Bool.or_eq_true] at hi
          rcases hi with h | h
          · exact hle S hS i h
          · obtain ⟨h1, h2, -⟩ := (hgb i).mp h
            obtain ⟨d, d1, d2, d3⟩ := (ha' i).mp h1
            exact hS.2 d i d1 (hle S hS d (hfr d d2)) d3 h2
        · intro c d h1 h2 h3 h4 h5
          rw [b_or, Bool.or_eq_true] at h2 ⊢
          rcases h2 with h2 | h2
          · by_cases hfc : bt f c = true
            · by_cases hrd : bt r d = true
              · exact Or.inl hrd
              · exact Or.inr ((hgb d).mpr ⟨(ha' d).mpr ⟨c, h1, hfc, h4⟩, h5, hrd⟩)
            · exact Or.inl (hcl c d h1 h2 hfc h4 h5)
          · exact absurd h2 h3
        · by_cases hg0 : g = 0
          · exact Or.inl hg0
          · right
            obtain ⟨i, -, hi⟩ := b_ne hg0
            have hri : ¬ bt r i = true := ((hgb i).mp hi).2.2
            have hlt : cnt n (fun i => !bt (r ||| g) i) < cnt n (fun i => !bt r i) := by
              refine cnt_lt (fun j _ hj => ?_) (hgn i hi) ?_ ?_
              · rw [b_or] at hj
                cases h : bt r j
                · rfl
                · rw [h] at hj; simp at hj
              · simp [b_or, hi]
              · simpa using hri
            rcases hme with h | h
            · exact absurd h hf
            · omega
theorem spr {σ : Sg} {n : Nat} (hG : GN σ n) {F : Nat} (hF : 13 ≤ F) (hN : ∀ c, c < n → ∀ d, bt (σ.2.1 5 c) d = true → d < n) (s b : Int32) (hs : ∀ i, bt s i = true → i < n) :
    ∃ v, fX1_spread F σ s b = some (v, σ) ∧ LeS n (fun c d => bt (σ.2.1 5 c) d = true) (fun i => bt s i = true) (fun i => bt b i = true) (fun i => bt v i = true) := by
  obtain ⟨v, e, hv⟩ := spr_out hG hF hN s b F 0 s s (by omega) (by have := hG.2; omega) (fun _ h => h) hs (fun _ h => h) (fun S hS i hi => hS.1 i hi) (fun c d _ h1 h2 => absurd h1 h2) (by
    by_cases h0 : s = 0
    · exact Or.inl h0
    · right
      obtain ⟨i, -, hi⟩ := b_ne h0
      have h1 := cnt_lt (n := n) (p := fun i => !bt s i) (q := fun _ => true) (fun _ _ _ => rfl) (hs i hi) (by simp [hi]) rfl
      have h2 := cnt_le n (fun _ => true)
      omega)
  refine ⟨v, ?_, hv⟩
  unfold fX1_spread
  rw [nI_0] at e
  exact e
