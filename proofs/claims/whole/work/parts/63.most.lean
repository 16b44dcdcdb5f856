/-! ===== at most 1604 stands ===== -/
theorem pig : ∀ (M : Nat) (f : Nat → Nat) (L : List Nat), (∀ i, i < M → f i ∈ L) → (∀ i j, i < j → j < M → f i ≠ f j) → M ≤ L.length := by
  intro M
  induction M with
  | zero => intro f L _ _; exact Nat.zero_le _
  | succ M ih =>
    intro f L h1 h2
    have a := h1 M (by omega)
    have e : (L.erase (f M)).length = L.length - 1 := List.length_erase_of_mem a
    have hp : 0 < L.length := List.length_pos_of_mem a
    have := ih f (L.erase (f M)) (fun i hi => (List.mem_erase_of_ne (h2 i M hi (by omega))).mpr (h1 i (by omega))) (fun i j h3 h4 => h2 i j h3 (by omega))
    omega
/-- all stands of k caves, with r searchers at most, by digits -/
def en : Nat → Nat → List Nat
  | 0, _ => [0]
  | k + 1, r => ((en k r).map fun x => 8 * x) ++ (((en k r).map fun x => 8 * x + 1) ++ ((if 1 ≤ r then (en k (r - 1)).map fun x => 8 * x + 2 else []) ++ ((if 2 ≤ r then (en k (r - 2)).map fun x => 8 * x + 4 else []) ++ (if 3 ≤ r then (en k (r - 3)).map fun x => 8 * x + 6 else []))))
/-- those with every free cave lost -/
def em : Nat → Nat → List Nat
  | 0, _ => [0]
  | k + 1, r => ((em k r).map fun x => 8 * x + 1) ++ ((if 1 ≤ r then (em k (r - 1)).map fun x => 8 * x + 2 else []) ++ ((if 2 ≤ r then (em k (r - 2)).map fun x => 8 * x + 4 else []) ++ (if 3 ≤ r then (em k (r - 3)).map fun x => 8 * x + 6 else [])))
def enN : Nat → Nat → Nat
  | 0, _ => 1
  | k + 1, r => enN k r + (enN k r + ((if 1 ≤ r then enN k (r - 1) else 0) + ((if 2 ≤ r then enN k (r - 2) else 0) + (if 3 ≤ r then enN k (r - 3) else 0))))
def emN : Nat → Nat → Nat
  | 0, _ => 1
  | k + 1, r => emN k r + ((if 1 ≤ r then emN k (r - 1) else 0) + ((if 2 ≤ r then emN k (r - 2) else 0) + (if 3 ≤ r then emN k (r - 3) else 0)))
theorem if_len {c : Prop} [Decidable c] (L : List Nat) : (if c then L else []).length = if c then L.length else 0 := by split <;> rfl
theorem en_len : ∀ k r, (en k r).length = enN k r := by
  intro k
  induction k with
  | zero => intro r; rfl
  | succ k ih =>
    intro r
    show (((en k r).map fun x => 8 * x) ++ _).length = enN k r + _
    simp only [List.length_append, List.length_map, if_len, ih]
theorem em_len : ∀ k r, (em k r).length = emN k r := by
  intro k
  induction k with
  | zero => intro r; rfl
  | succ k ih =>
    intro r
    show (((em k r).map fun x => 8 * x + 1) ++ _).length = emN k r + _
    simp only [List.length_append, List.length_map, if_len, ih]
theorem en_6 {n : Nat} (hn : n ≤ 6) : (en n 3).length ≤ 1520 := by
  rw [en_len]
  have : n = 0 ∨ n = 1 ∨ n = 2 ∨ n = 3 ∨ n = 4 ∨ n = 5 ∨ n = 6 := by omega
  rcases this with rfl | rfl | rfl | rfl | rfl | rfl | rfl <;> decide +kernel
theorem em_6 {n : Nat} (hn : n ≤ 6) : (em n 3).length ≤ 84 := by
  rw [em_len]
  have : n = 0 ∨ n = 1 ∨ n = 2 ∨ n = 3 ∨ n = 4 ∨ n = 5 ∨ n = 6 := by omega
  rcases this with rfl | rfl | rfl | rfl | rfl | rfl | rfl <;> decide +kernel
/-- a stand's digits -/
def g8 (s : Std) : Nat → Nat
  | 0 => 0
  | k + 1 => 8 * g8 s k + (2 * s.1 k + (if bt s.2 k = true then 1 else 0))
theorem g8_en {s : Std} : ∀ k r, tot k s.1 ≤ r → r ≤ 3 → (∀ c, c < k → bt s.2 c = true → s.1 c = 0) → g8 s k ∈ en k r := by
  intro k
  induction k with
  | zero => intro r _ _ _; exact List.mem_singleton.mpr rfl
  | succ k ih =>
    intro r h1 h2 h3
    have h1' : tot k s.1 + s.1 k ≤ r := h1
    have hi := ih (r - s.1 k) (by omega) (by omega) (fun c hc => h3 c (by omega))
    have hs : s.1 k = 0 ∨ s.1 k = 1 ∨ s.1 k = 2 ∨ s.1 k = 3 := by omega
    show 8 * g8 s k + (2 * s.1 k + (if bt s.2 k = true then 1 else 0)) ∈ ((en k r).map fun x => 8 * x) ++ _
    simp only [List.mem_append, List.mem_map]
    by_cases hb : bt s.2 k = true
    · have h0 := h3 k (by omega) hb
      rw [h0] at hi
      exact Or.inr (Or.inl ⟨_, hi, by rw [h0, if_pos hb]⟩)
    · rcases hs with h0 | h0 | h0 | h0 <;> rw [h0] at hi
      · exact Or.inl ⟨_, hi, by rw [h0, if_neg hb, Nat.mul_zero, Nat.add_zero]⟩
      · refine Or.inr (Or.inr (Or.inl ?_))
        rw [if_pos (show 1 ≤ r by omega), List.mem_map]
        exact ⟨_, hi, by rw [h0, if_neg hb]⟩
      · refine Or.inr (Or.inr (Or.inr (Or.inl ?_)))
        rw [if_pos (show 2 ≤ r by omega), List.mem_map]
        exact ⟨_, hi, by rw [h0, if_neg hb]⟩
      · refine Or.inr (Or.inr (Or.inr (Or.inr ?_)))
        rw [if_pos (show 3 ≤ r by omega), List.mem_map]
        exact ⟨_, hi, by rw [h0, if_neg hb]⟩
theorem g8_em {s : Std} : ∀ k r, tot k s.1 ≤ r → r ≤ 3 → (∀ c, c < k → (bt s.2 c = true ↔ s.1 c = 0)) → g8 s k ∈ em k r := by
  intro k
  induction k with
  | zero => intro r _ _ _; exact List.mem_singleton.mpr rfl
  | succ k ih =>
    intro r h1 h2 h3
    have h1' : tot k s.1 + s.1 k ≤ r := h1
    have hi := ih (r - s.1 k) (by omega) (by omega) (fun c hc => h3 c (by omega))
    have hs : s.1 k = 0 ∨ s.1 k = 1 ∨ s.1 k = 2 ∨ s.1 k = 3 := by omega
    have hk := h3 k (by omega)
    show 8 * g8 s k + (2 * s.1 k + (if bt s.2 k = true then 1 else 0)) ∈ ((em k r).map fun x => 8 * x + 1) ++ _
    simp only [List.mem_append, List.mem_map]
    rcases hs with h0 | h0 | h0 | h0 <;> rw [h0] at hi
    · exact Or.inl ⟨_, hi, by rw [h0, if_pos (hk.mpr h0)]⟩
    · have hb : ¬ bt s.2 k = true := fun z => by have := hk.mp z; omega
      refine Or.inr (Or.inl ?_)
      rw [if_pos (show 1 ≤ r by omega), List.mem_map]
      exact ⟨_, hi, by rw [h0, if_neg hb]⟩
    · have hb : ¬ bt s.2 k = true := fun z => by have := hk.mp z; omega
      refine Or.inr (Or.inr (Or.inl ?_))
      rw [if_pos (show 2 ≤ r by omega), List.mem_map]
      exact ⟨_, hi, by rw [h0, if_neg hb]⟩
    · have hb : ¬ bt s.2 k = true := fun z => by have := hk.mp z; omega
      refine Or.inr (Or.inr (Or.inr ?_))
      rw [if_pos (show 3 ≤ r by omega), List.mem_map]
      exact ⟨_, hi, by rw [h0, if_neg hb]⟩
theorem g8_inj {s t : Std} : ∀ k, (∀ c, c < k → s.1 c ≤ 3) → (∀ c, c < k → t.1 c ≤ 3) → g8 s k = g8 t k → ∀ c, c < k → s.1 c = t.1 c ∧ bt s.2 c = bt t.2 c := by
  intro k
  induction k with
  | zero => intro _ _ _ c hc; omega
  | succ k ih =>
    intro h1 h2 e c hc
    have e' : 8 * g8 s k + (2 * s.1 k + (if bt s.2 k = true then 1 else 0)) = 8 * g8 t k + (2 * t.1 k + (if bt t.2 k = true then 1 else 0)) := e
    have a := h1 k (by omega)
    have b := h2 k (by omega)
    have k1 : g8 s k = g8 t k ∧ s.1 k = t.1 k ∧ bt s.2 k = bt t.2 k := by
      cases hb1 : bt s.2 k <;> cases hb2 : bt t.2 k <;> simp [hb1, hb2] at e' ⊢ <;> omega
    by_cases hck : c = k
    · rw [hck]; exact k1.2
    · exact ih (fun c hc => h1 c (by omega)) (fun c hc => h2 c (by omega)) k1.1 c (by omega)
theorem VS.m3 {X : CX} (hX : CXok X) {s : BS} (h : VS X s) (c : Nat) : s.1.1 c ≤ 3 := by
  by_cases hc : c < cN X
  · have := tot_le (cN X) s.1.1 hc
    have := h.2.1
    have := hX.2.1.2
    omega
  · rw [h.1.1 c (by omega)]; omega
theorem VS.l6 {X : CX} (hX : CXok X) {s : BS} (h : VS X s) : ln s.1.2 < 64 := by
  have := ln_lt (x := s.1.2) (n := 6) (fun i hi => by have := (h.1.2.1 i hi).1; have := hX.2.2.2.1.2; omega)
  exact this
theorem VS.ext {X : CX} {s t : BS} (hs : VS X s) (ht : VS X t) (e1 : ∀ c, c < cN X → s.1.1 c = t.1.1 c ∧ bt s.1.2 c = bt t.1.2 c) (e2 : s.2 = t.2) : s = t := by
  refine Prod.ext (Prod.ext (funext fun c => ?_) (b_ext fun c _ => ?_)) e2
  · by_cases hc : c < cN X
    · exact (e1 c hc).1
    · rw [hs.1.1 c (by omega), ht.1.1 c (by omega)]
  · by_cases hc : c < cN X
    · exact (e1 c hc).2
    · cases h1 : bt s.1.2 c with
      | true => exact absurd (hs.1.2.1 c h1).1 hc
      | false =>
        cases h2 : bt t.1.2 c with
        | true => exact absurd (ht.1.2.1 c h2).1 hc
        | false => rfl
def scode (X : CX) (s : BS) : Nat := 2 * g8 s.1 (cN X) + (if s.2 = true then 1 else 0)
theorem scode_inj {X : CX} (hX : CXok X) {s t : BS} (hs : VS X s) (ht : VS X t) (e : scode X s = scode X t) : s = t := by
  have e' : g8 s.1 (cN X) = g8 t.1 (cN X) ∧ s.2 = t.2 := by
    unfold scode at e
    cases h1 : s.2 <;> cases h2 : t.2 <;> simp [h1, h2] at e ⊢ <;> omega
  exact hs.ext ht (g8_inj (cN X) (fun c _ => hs.m3 hX c) (fun c _ => ht.m3 hX c) e'.1) e'.2
/-- there are at most 1604 -/
theorem BI.most {X : CX} (hX : CXok X) {B : BB} {h : Nat} (hB : BI X B h) : bM B ≤ 1604 := by
  have hn := hX.2.2.2.1.2
  have hK := hX.2.1.2
  have inj : ∀ i j, i < j → j < bM B → scode X (bQ B i) ≠ scode X (bQ B j) := fun i j h1 h2 z => hB.2.2.1 i j h1 h2 (scode_inj hX (hB.2.1 i (by omega)) (hB.2.1 j h2) z)
  have e1 := en_6 hn
  have e2 := em_6 hn
  by_cases hL : cL X = 1
  · have := pig (bM B) (fun i => scode X (bQ B i)) (((en (cN X) 3).map fun x => 2 * x + 1) ++ ((em (cN X) 3).map fun x => 2 * x)) (fun i hi => by
      have v := hB.2.1 i hi
      rw [List.mem_append, List.mem_map, List.mem_map]
      unfold scode
      cases hs : (bQ B i).2 with
      | true => exact Or.inl ⟨_, g8_en (cN X) 3 (Nat.le_trans v.2.1 hK) (Nat.le_refl _) (fun c _ h => (v.1.2.1 c h).2), by simp⟩
      | false => exact Or.inr ⟨_, g8_em (cN X) 3 (Nat.le_trans v.2.1 hK) (Nat.le_refl _) (fun c hc => ⟨fun h => ((v.2.2.2 hL hs c).mp h).2, fun h => (v.2.2.2 hL hs c).mpr ⟨hc, h⟩⟩), by simp⟩) inj
    rw [List.length_append, List.length_map, List.length_map] at this
    omega
  · have := pig (bM B) (fun i => scode X (bQ B i)) ((en (cN X) 3).map fun x => 2 * x) (fun i hi => by
      have v := hB.2.1 i hi
      rw [List.mem_map]
      unfold scode
      cases hs : (bQ B i).2 with
      | true => exact absurd (v.2.2.1 hs) hL
      | false => exact ⟨_, g8_en (cN X) 3 (Nat.le_trans v.2.1 hK) (Nat.le_refl _) (fun c _ h => (v.1.2.1 c h).2), by simp⟩) inj
    rw [List.length_map] at this
    omega
