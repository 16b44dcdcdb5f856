theorem fil4_loop (F : Nat) (v : Int32) : ∀ (m c : Nat) (σ : Sg), c ≤ 12 → 12 < c + m → ∃ τ, fJ7_fill_53178_4_5 F m σ v (nI c) (nI 12) = some (0, τ) ∧ Sm [] [4] σ τ ∧ (∀ i, c ≤ i → i < 12 → τ.2.1 4 i = v) ∧ ∀ i, i < c → τ.2.1 4 i = σ.2.1 4 i := by
  intro m
  induction m with
  | zero => intro c σ h1 h2; omega
  | succ m ih =>
    intro c σ h1 h2
    show ∃ τ, bJ7_fill_53178_4_5 F (fJ7_fill_53178_4_5 F m) σ v (nI c) (nI 12) = _ ∧ _
    unfold bJ7_fill_53178_4_5 ls_
    by_cases hc : c = 12
    · subst hc
      rw [if_pos (nI_le (Nat.le_refl _) (by omega))]
      exact ⟨σ, rfl, Sm.rf, fun i h3 h4 => by omega, fun _ _ => rfl⟩
    · have hcc : (nI c).toNatClampNeg = c := nI_clamp (by omega)
      simp only [if_neg (nI_ge (show c < 12 by omega) (by omega)), if_pos (nI_in (show c < 12 by omega) (by omega)), hcc, nI_1]
      obtain ⟨τ, e, hs, h3, h4⟩ := ih (c + 1) (sa σ 4 c v) (by omega) (by omega)
      refine ⟨τ, e, (Sm.sa (by simp)).tr hs, fun i h5 h6 => ?_, fun i h5 => ?_⟩
      · by_cases hi : i = c
        · subst hi; rw [h4 i (by omega), sa_2, if_pos rfl, upd_at, if_pos rfl]
        · exact h3 i (by omega) h6
      · rw [h4 i (by omega), sa_2, if_pos rfl, upd_at, if_neg (by omega)]
theorem fil4 {F : Nat} (hF : 13 ≤ F) (σ : Sg) (v : Int32) : ∃ τ, fJ7_fill_53178_4 F σ v = some (0, τ) ∧ Sm [] [4] σ τ ∧ ∀ i, i < 12 → τ.2.1 4 i = v := by
  obtain ⟨τ, e, hs, h, -⟩ := fil4_loop F v F 0 σ (by omega) (by omega)
  refine ⟨τ, ?_, hs, fun i hi => h i (by omega) hi⟩
  unfold fJ7_fill_53178_4
  rw [nI_0] at e
  exact e
theorem fil5_loop (F : Nat) (v : Int32) : ∀ (m c : Nat) (σ : Sg), c ≤ 12 → 12 < c + m → ∃ τ, fJ7_fill_53178_5_5 F m σ v (nI c) (nI 12) = some (0, τ) ∧ Sm [] [5] σ τ ∧ (∀ i, c ≤ i → i < 12 → τ.2.1 5 i = v) ∧ ∀ i, i < c → τ.2.1 5 i = σ.2.1 5 i := by
  intro m
  induction m with
  | zero => intro c σ h1 h2; omega
  | succ m ih =>
    intro c σ h1 h2
    show ∃ τ, bJ7_fill_53178_5_5 F (fJ7_fill_53178_5_5 F m) σ v (nI c) (nI 12) = _ ∧ _
    unfold bJ7_fill_53178_5_5 ls_
    by_cases hc : c = 12
    · subst hc
      rw [if_pos (nI_le (Nat.le_refl _) (by omega))]
      exact ⟨σ, rfl, Sm.rf, fun i h3 h4 => by omega, fun _ _ => rfl⟩
    · have hcc : (nI c).toNatClampNeg = c := nI_clamp (by omega)
      simp only [if_neg (nI_ge (show c < 12 by omega) (by omega)), if_pos (nI_in (show c < 12 by omega) (by omega)), hcc, nI_1]
      obtain ⟨τ, e, hs, h3, h4⟩ := ih (c + 1) (sa σ 5 c v) (by omega) (by omega)
      refine ⟨τ, e, (Sm.sa (by simp)).tr hs, fun i h5 h6 => ?_, fun i h5 => ?_⟩
      · by_cases hi : i = c
        · subst hi; rw [h4 i (by omega), sa_2, if_pos rfl, upd_at, if_pos rfl]
        · exact h3 i (by omega) h6
      · rw [h4 i (by omega), sa_2, if_pos rfl, upd_at, if_neg (by omega)]
theorem fil5 {F : Nat} (hF : 13 ≤ F) (σ : Sg) (v : Int32) : ∃ τ, fJ7_fill_53178_5 F σ v = some (0, τ) ∧ Sm [] [5] σ τ ∧ ∀ i, i < 12 → τ.2.1 5 i = v := by
  obtain ⟨τ, e, hs, h, -⟩ := fil5_loop F v F 0 σ (by omega) (by omega)
  refine ⟨τ, ?_, hs, fun i hi => h i (by omega) hi⟩
  unfold fJ7_fill_53178_5
  rw [nI_0] at e
  exact e
theorem fil13_loop (F : Nat) (v : Int32) : ∀ (m c : Nat) (σ : Sg), c ≤ 12 → 12 < c + m → ∃ τ, fJ7_fill_53178_13_5 F m σ v (nI c) (nI 12) = some (0, τ) ∧ Sm [] [13] σ τ ∧ (∀ i, c ≤ i → i < 12 → τ.2.1 13 i = v) ∧ ∀ i, i < c → τ.2.1 13 i = σ.2.1 13 i := by
  intro m
  induction m with
  | zero => intro c σ h1 h2; omega
  | succ m ih =>
    intro c σ h1 h2
    show ∃ τ, bJ7_fill_53178_13_5 F (fJ7_fill_53178_13_5 F m) σ v (nI c) (nI 12) = _ ∧ _
    unfold bJ7_fill_53178_13_5 ls_
    by_cases hc : c = 12
    · subst hc
      rw [if_pos (nI_le (Nat.le_refl _) (by omega))]
      exact ⟨σ, rfl, Sm.rf, fun i h3 h4 => by omega, fun _ _ => rfl⟩
    · have hcc : (nI c).toNatClampNeg = c := nI_clamp (by omega)
      simp only [if_neg (nI_ge (show c < 12 by omega) (by omega)), if_pos (nI_in (show c < 12 by omega) (by omega)), hcc, nI_1]
      obtain ⟨τ, e, hs, h3, h4⟩ := ih (c + 1) (sa σ 13 c v) (by omega) (by omega)
      refine ⟨τ, e, (Sm.sa (by simp)).tr hs, fun i h5 h6 => ?_, fun i h5 => ?_⟩
      · by_cases hi : i = c
        · subst hi; rw [h4 i (by omega), sa_2, if_pos rfl, upd_at, if_pos rfl]
        · exact h3 i (by omega) h6
      · rw [h4 i (by omega), sa_2, if_pos rfl, upd_at, if_neg (by omega)]
theorem fil13 {F : Nat} (hF : 13 ≤ F) (σ : Sg) (v : Int32) : ∃ τ, fJ7_fill_53178_13 F σ v = some (0, τ) ∧ Sm [] [13] σ τ ∧ ∀ i, i < 12 → τ.2.1 13 i = v := by
  obtain ⟨τ, e, hs, h, -⟩ := fil13_loop F v F 0 σ (by omega) (by omega)
  refine ⟨τ, ?_, hs, fun i hi => h i (by omega) hi⟩
  unfold fJ7_fill_53178_13
  rw [nI_0] at e
  exact e
theorem fil23_loop (F : Nat) (v : Int32) : ∀ (m c : Nat) (σ : Sg), c ≤ 12 → 12 < c + m → ∃ τ, fJ7_fill_53178_23_5 F m σ v (nI c) (nI 12) = some (0, τ) ∧ Sm [] [23] σ τ ∧ (∀ i, c ≤ i → i < 12 → τ.2.1 23 i = v) ∧ ∀ i, i < c → τ.2.1 23 i = σ.2.1 23 i := by
  intro m
  induction m with
  | zero => intro c σ h1 h2; omega
  | succ m ih =>
    intro c σ h1 h2
    show ∃ τ, bJ7_fill_53178_23_5 F (fJ7_fill_53178_23_5 F m) σ v (nI c) (nI 12) = _ ∧ _
    unfold bJ7_fill_53178_23_5 ls_
    by_cases hc : c = 12
    · subst hc
      rw [if_pos (nI_le (Nat.le_refl _) (by omega))]
      exact ⟨σ, rfl, Sm.rf, fun i h3 h4 => by omega, fun _ _ => rfl⟩
    · have hcc : (nI c).toNatClampNeg = c := nI_clamp (by omega)
      simp only [if_neg (nI_ge (show c < 12 by omega) (by omega)), if_pos (nI_in (show c < 12 by omega) (by omega)), hcc, nI_1]
      obtain ⟨τ, e, hs, h3, h4⟩ := ih (c + 1) (sa σ 23 c v) (by omega) (by omega)
      refine ⟨τ, e, (Sm.sa (by simp)).tr hs, fun i h5 h6 => ?_, fun i h5 => ?_⟩
      · by_cases hi : i = c
        · subst hi; rw [h4 i (by omega), sa_2, if_pos rfl, upd_at, if_pos rfl]
        · exact h3 i (by omega) h6
      · rw [h4 i (by omega), sa_2, if_pos rfl, upd_at, if_neg (by omega)]
theorem fil23 {F : Nat} (hF : 13 ≤ F) (σ : Sg) (v : Int32) : ∃ τ, fJ7_fill_53178_23 F σ v = some (0, τ) ∧ Sm [] [23] σ τ ∧ ∀ i, i < 12 → τ.2.1 23 i = v := by
  obtain ⟨τ, e, hs, h, -⟩ := fil23_loop F v F 0 σ (by omega) (by omega)
  refine ⟨τ, ?_, hs, fun i hi => h i (by omega) hi⟩
  unfold fJ7_fill_53178_23
  rw [nI_0] at e
  exact e
theorem fil18_loop (F : Nat) (v : Int32) : ∀ (m c : Nat) (σ : Sg), c ≤ 2048 → 2048 < c + m → ∃ τ, fJ7_fill_53178_18_5 F m σ v (nI c) (nI 2048) = some (0, τ) ∧ Sm [] [18] σ τ ∧ (∀ i, c ≤ i → i < 2048 → τ.2.1 18 i = v) ∧ ∀ i, i < c → τ.2.1 18 i = σ.2.1 18 i := by
  intro m
  induction m with
  | zero => intro c σ h1 h2; omega
  | succ m ih =>
    intro c σ h1 h2
    show ∃ τ, bJ7_fill_53178_18_5 F (fJ7_fill_53178_18_5 F m) σ v (nI c) (nI 2048) = _ ∧ _
    unfold bJ7_fill_53178_18_5 ls_
    by_cases hc : c = 2048
    · subst hc
      rw [if_pos (nI_le (Nat.le_refl _) (by omega))]
      exact ⟨σ, rfl, Sm.rf, fun i h3 h4 => by omega, fun _ _ => rfl⟩
    · have hcc : (nI c).toNatClampNeg = c := nI_clamp (by omega)
      simp only [if_neg (nI_ge (show c < 2048 by omega) (by omega)), if_pos (nI_in (show c < 2048 by omega) (by omega)), hcc, nI_1]
      obtain ⟨τ, e, hs, h3, h4⟩ := ih (c + 1) (sa σ 18 c v) (by omega) (by omega)
      refine ⟨τ, e, (Sm.sa (by simp)).tr hs, fun i h5 h6 => ?_, fun i h5 => ?_⟩
      · by_cases hi : i = c
        · subst hi; rw [h4 i (by omega), sa_2, if_pos rfl, upd_at, if_pos rfl]
        · exact h3 i (by omega) h6
      · rw [h4 i (by omega), sa_2, if_pos rfl, upd_at, if_neg (by omega)]
theorem fil18 {F : Nat} (hF : 2049 ≤ F) (σ : Sg) (v : Int32) : ∃ τ, fJ7_fill_53178_18 F σ v = some (0, τ) ∧ Sm [] [18] σ τ ∧ ∀ i, i < 2048 → τ.2.1 18 i = v := by
  obtain ⟨τ, e, hs, h, -⟩ := fil18_loop F v F 0 σ (by omega) (by omega)
  refine ⟨τ, ?_, hs, fun i hi => h i (by omega) hi⟩
  unfold fJ7_fill_53178_18
  rw [nI_0] at e
  exact e
/-! ===== linkCaves ===== -/
theorem hasP {σ : Sg} {E : Gr} (hd : ∀ p, bt (σ.1 1) p = (E p).isSome) (F : Nat) {p : Nat} (hp : p < 18) : fX1_hasPassage F σ (nI p) = some (if (E p).isSome = true then 1 else 0, σ) := by
  unfold fX1_hasPassage
  rw [if_neg (nI_pos (by omega)), if_neg (by rw [show (18 : Int32) = nI 18 by decide]; exact nI_ge hp (by omega))]
  by_cases h : bt (σ.1 1) p = true
  · rw [if_neg (fun z => by rw [(b_t0 (by omega)).mp z] at h; cases h), if_pos (by rw [← hd]; exact h)]
  · have h' : bt (σ.1 1) p = false := by simpa using h
    rw [if_pos ((b_t0 (by omega)).mpr h'), if_neg (by rw [← hd, h']; decide)]
/-- what linkCaves starts from -/
def GP (σ : Sg) (n : Nat) (E : Gr) : Prop := GrOk n E ∧ σ.1 0 = nI n ∧ (∀ p, bt (σ.1 1) p = (E p).isSome) ∧ ∀ p a b, E p = some (a, b) → σ.2.1 2 p = nI a ∧ σ.2.1 3 p = nI b
theorem GP.sm {vs as : List Nat} {σ τ : Sg} {n : Nat} {E : Gr} (h : GP σ n E) (hs : Sm vs as σ τ) (h1 : 0 ∉ vs) (h2 : 1 ∉ vs) (h3 : 2 ∉ as) (h4 : 3 ∉ as) : GP τ n E := by
  obtain ⟨g1, g2, g3, g4⟩ := h
  refine ⟨g1, (hs.1 0 h1).trans g2, fun p => ?_, fun p a b hp => ?_⟩
  · rw [hs.1 1 h2]; exact g3 p
  · rw [hs.2.1 2 h3, hs.2.1 3 h4]; exact g4 p a b hp
theorem lnk_loop {n : Nat} {E : Gr} (F : Nat) : ∀ (m p : Nat) (σ : Sg), GP σ n E → p ≤ 18 → 18 < p + m → ∃ τ, fX1_linkCaves_18 F m σ (nI p) = some (0, τ) ∧ Sm [] [4, 5] σ τ ∧ (∀ c, c < 12 → ∀ i, bt (τ.2.1 4 c) i = true ↔ (bt (σ.2.1 4 c) i = true ∨ ∃ a b, p ≤ i ∧ E i = some (a, b) ∧ (a = c ∨ b = c))) ∧ (∀ c, c < 12 → ∀ d, bt (τ.2.1 5 c) d = true ↔ (bt (σ.2.1 5 c) d = true ∨ ∃ q a b, p ≤ q ∧ E q = some (a, b) ∧ ((a = c ∧ b = d) ∨ (a = d ∧ b = c)))) := by
  intro m
  induction m with
  | zero => intro p σ _ h1 h2; omega
  | succ m ih =>
    intro p σ hG h1 h2
    obtain ⟨⟨hn, hE⟩, g1, g2, g3⟩ := id hG
    show ∃ τ, bX1_linkCaves_18 F (fX1_linkCaves_18 F m) σ (nI p) = _ ∧ _
    unfold bX1_linkCaves_18
    by_cases hp : p = 18
    · subst hp
      rw [if_pos (by decide)]
      refine ⟨σ, rfl, Sm.rf, fun c _ i => ⟨Or.inl, ?_⟩, fun c _ d => ⟨Or.inl, ?_⟩⟩
      · rintro (h | ⟨a, b, h3, h4, -⟩)
        · exact h
        · have := (hE i a b h4).1; omega
      · rintro (h | ⟨q, a, b, h3, h4, -⟩)
        · exact h
        · have := (hE q a b h4).1; omega
    · have hcp : (nI p).toNatClampNeg = p := nI_clamp (by omega)
      have i18 : ib (nI p) 18 := nI_in (by omega) (by omega)
      rw [if_neg (by rw [show (18 : Int32) = nI 18 by decide]; exact nI_ge (by omega) (by omega)), hasP g2 F (by omega)]
      simp only [Option.bind_some, nI_1]
      cases hEp : E p with
      | none =>
        simp only [Option.isSome_none]
        obtain ⟨τ, e, hs, h3, h4⟩ := ih (p + 1) σ hG (by omega) (by omega)
        refine ⟨τ, e, hs, fun c hc i => (h3 c hc i).trans (or_congr_right ⟨fun ⟨a, b, h5, h6⟩ => ⟨a, b, by omega, h6⟩, fun ⟨a, b, h5, h6⟩ => ⟨a, b, ?_, h6⟩⟩), fun c hc d => (h4 c hc d).trans (or_congr_right ⟨fun ⟨q, a, b, h5, h6⟩ => ⟨q, a, b, by omega, h6⟩, fun ⟨q, a, b, h5, h6⟩ => ⟨q, a, b, ?_, h6⟩⟩)⟩
        · by_cases hip : i = p
          · subst hip; rw [hEp] at h6; cases h6.1
          · omega
        · by_cases hip : q = p
          · subst hip; rw [hEp] at h6; cases h6.1
          · omega
      | some ab =>
        obtain ⟨a, b⟩ := ab
        obtain ⟨-, hab, hbn⟩ := hE p a b hEp
        obtain ⟨ea, eb⟩ := g3 p a b hEp
        have hca : (nI a).toNatClampNeg = a := nI_clamp (by omega)
        have hcb : (nI b).toNatClampNeg = b := nI_clamp (by omega)
        have ia : ib (nI a) 12 := nI_in (by omega) (by omega)
        have ib' : ib (nI b) 12 := nI_in (by omega) (by omega)
        unfold li_ ls_
        simp only [Option.isSome_some, if_true, if_neg (show ¬ (1 : Int32) = 0 by decide), if_pos i18, hcp, ea, eb, if_pos ia, if_pos ib', hca, hcb]
        generalize hσ4 : sa σ 4 a (σ.2.1 4 a ||| ((1 : Int32) <<< (nI p &&& 31))) = σ4
        generalize hσ5 : sa σ4 4 b (σ4.2.1 4 b ||| ((1 : Int32) <<< (nI p &&& 31))) = σ5
        generalize hσ6 : sa σ5 5 a (σ5.2.1 5 a ||| ((1 : Int32) <<< (nI b &&& 31))) = σ6
        generalize hσ7 : sa σ6 5 b (σ6.2.1 5 b ||| ((1 : Int32) <<< (nI a &&& 31))) = σ7
        have s4 : Sm [] [4, 5] σ σ4 := by rw [← hσ4]; exact Sm.sa (by simp)
        have s5 : Sm [] [4, 5] σ4 σ5 := by rw [← hσ5]; exact Sm.sa (by simp)
        have s6 : Sm [] [4, 5] σ5 σ6 := by rw [← hσ6]; exact Sm.sa (by simp)
        have s7 : Sm [] [4, 5] σ6 σ7 := by rw [← hσ7]; exact Sm.sa (by simp)
        have sAll := ((s4.tr s5).tr s6).tr s7
        have at7 : ∀ c i, bt (σ7.2.1 4 c) i = true ↔ (bt (σ.2.1 4 c) i = true ∨ ((a = c ∨ b = c) ∧ i = p)) := by
          intro c i
          rw [← hσ7, sa_2, if_neg (by decide), ← hσ6, sa_2, if_neg (by decide), ← hσ5, sa_2, if_pos rfl, upd_at]
          by_cases h5 : c = b
          · subst h5
            rw [if_pos rfl, b_or, b_bit (by omega), ← hσ4, sa_2, if_pos rfl, upd_at, if_neg (by omega)]
            simp
          · rw [if_neg h5, ← hσ4, sa_2, if_pos rfl, upd_at]
            by_cases h6 : c = a
            · subst h6; rw [if_pos rfl, b_or, b_bit (by omega)]; simp
            · rw [if_neg h6]
              constructor
              · exact Or.inl
              · rintro (h | ⟨h | h, -⟩)
                · exact h
                · exact absurd h.symm h6
                · exact absurd h.symm h5
        have nx7 : ∀ c d, bt (σ7.2.1 5 c) d = true ↔ (bt (σ.2.1 5 c) d = true ∨ (a = c ∧ b = d) ∨ (a = d ∧ b = c)) := by
          intro c d
          have e5 : σ5.2.1 5 = σ.2.1 5 := by rw [← hσ5, sa_2, if_neg (by decide), ← hσ4, sa_2, if_neg (by decide)]
          rw [← hσ7, sa_2, if_pos rfl, upd_at]
          by_cases h5 : c = b
          · subst h5
            rw [if_pos rfl, b_or, b_bit (by omega), ← hσ6, sa_2, if_pos rfl, upd_at, if_neg (by omega), e5]
            rw [Bool.or_eq_true, decide_eq_true_eq]
            constructor
            · rintro (h | rfl)
              · exact Or.inl h
              · exact Or.inr (Or.inr ⟨rfl, rfl⟩)
            · rintro (h | ⟨h, -⟩ | ⟨h, -⟩)
              · exact Or.inl h
              · omega
              · exact Or.inr h.symm
          · rw [if_neg h5, ← hσ6, sa_2, if_pos rfl, upd_at, e5]
            by_cases h6 : c = a
            · subst h6
              rw [if_pos rfl, b_or, b_bit (by omega)]
              rw [Bool.or_eq_true, decide_eq_true_eq]
              constructor
              · rintro (h | rfl)
                · exact Or.inl h
                · exact Or.inr (Or.inl ⟨rfl, rfl⟩)
              · rintro (h | ⟨-, h⟩ | ⟨-, h⟩)
                · exact Or.inl h
                · exact Or.inr h.symm
                · omega
            · rw [if_neg h6]
              constructor
              · exact Or.inl
              · rintro (h | ⟨h, -⟩ | ⟨-, h⟩)
                · exact h
                · exact absurd h.symm h6
                · exact absurd h.symm h5
        obtain ⟨τ, e, hs, h3, h4⟩ := ih (p + 1) σ7 (hG.sm sAll (by simp) (by simp) (by simp) (by simp)) (by omega) (by omega)
        refine ⟨τ, e, sAll.tr hs, fun c hc i => (h3 c hc i).trans ?_, fun c hc d => (h4 c hc d).trans ?_⟩
        · rw [at7]
          constructor
          · rintro ((h | ⟨h5, rfl⟩) | ⟨a2, b2, h5, h6⟩)
            · exact Or.inl h
            · exact Or.inr ⟨a, b, Nat.le_refl _, hEp, h5⟩
            · exact Or.inr ⟨a2, b2, by omega, h6⟩
          · rintro (h | ⟨a2, b2, h5, h6, h7⟩)
            · exact Or.inl (Or.inl h)
            · by_cases hip : i = p
              · subst hip
                rw [hEp] at h6; cases h6
                exact Or.inl (Or.inr ⟨h7, rfl⟩)
              · exact Or.inr ⟨a2, b2, by omega, h6, h7⟩
        · rw [nx7]
          constructor
          · rintro ((h | h) | ⟨q, a2, b2, h5, h6⟩)
            · exact Or.inl h
            · exact Or.inr ⟨p, a, b, Nat.le_refl _, hEp, h⟩
            · exact Or.inr ⟨q, a2, b2, by omega, h6⟩
          · rintro (h | ⟨q, a2, b2, h5, h6, h7⟩)
            · exact Or.inl (Or.inl h)
            · by_cases hip : q = p
              · subst hip
                rw [hEp] at h6; cases h6
                exact Or.inl (Or.inr h7)
              · exact Or.inr ⟨q, a2, b2, by omega, h6, h7⟩
/-- linkCaves: the ground is whole -/
theorem lnk {σ : Sg} {n : Nat} {E : Gr} (hG : GP σ n E) {F : Nat} (hF : 40 ≤ F) : ∃ τ, fX1_linkCaves F σ = some (0, τ) ∧ Sm [] [4, 5] σ τ ∧ GC τ n E := by
  obtain ⟨σ1, e1, s1, f1⟩ := fil4 (F := F) (by omega) σ 0
  obtain ⟨σ2, e2, s2, f2⟩ := fil5 (F := F) (by omega) σ1 0
  have s1' : Sm [] [4, 5] σ σ1 := s1.up (fun _ h => h) (fun k hk => by simp at hk; simp [hk])
  have s2' : Sm [] [4, 5] σ1 σ2 := s2.up (fun _ h => h) (fun k hk => by simp at hk; simp [hk])
  have hG2 := hG.sm (s1'.tr s2') (by simp) (by simp) (by simp) (by simp)
  obtain ⟨τ, e3, s3, h3, h4⟩ := lnk_loop F F 0 σ2 hG2 (by omega) (by omega)
  rw [nI_0] at e3
  have hs := (s1'.tr s2').tr s3
  obtain ⟨k1, k2, k3, k4⟩ := hG.sm hs (by simp) (by simp) (by simp) (by simp)
  refine ⟨τ, ?_, hs, k1, k2, k3, k4, fun c hc p => (h3 c hc p).trans ?_, fun c hc d => (h4 c hc d).trans ?_⟩
  · unfold fX1_linkCaves
    rw [e1]; simp only [Option.bind_some]
    rw [e2]; simp only [Option.bind_some]
    exact e3
  · rw [show σ2.2.1 4 = σ1.2.1 4 from s2.2.1 4 (by simp), f1 c hc, b_0]
    constructor
    · rintro (h | ⟨a, b, -, h⟩)
      · cases h
      · exact ⟨a, b, h⟩
    · rintro ⟨a, b, h⟩
      exact Or.inr ⟨a, b, Nat.zero_le _, h⟩
  · rw [f2 c hc, b_0]
    constructor
    · rintro (h | ⟨q, a, b, -, h⟩)
      · cases h
      · exact ⟨q, a, b, h⟩
    · rintro ⟨q, a, b, h⟩
      exact Or.inr ⟨q, a, b, Nat.zero_le _, h⟩
