/-! ===== a table of numbers, sought from a slot on ===== -/
def nz (x : Int32) : Bool := !(decide (x = 0))
theorem nz_t {x : Int32} : nz x = true ↔ x ≠ 0 := by unfold nz; simp
theorem nz_f {x : Int32} : nz x = false ↔ x = 0 := by unfold nz; simp
def HT (T M : Nat) (tb cd : Nat → Int32) (hs : Int32 → Nat) : Prop :=
  (∀ s, s < T → tb s = 0 ∨ ∃ i, i < M ∧ tb s = nI (i + 1)) ∧
  (∀ i, i < M → ∃ d, d < T ∧ tb ((hs (cd i) + d) % T) = nI (i + 1) ∧ ∀ e, e < d → tb ((hs (cd i) + e) % T) ≠ 0) ∧
  cnt T (fun s => nz (tb s)) ≤ M
theorem HT.nil {T : Nat} {tb cd : Nat → Int32} {hs : Int32 → Nat} (h : ∀ s, s < T → tb s = 0) : HT T 0 tb cd hs :=
  ⟨fun s hs => Or.inl (h s hs), fun i hi => by omega, by rw [cnt_0.mpr fun i hi => nz_f.mpr (h i hi)]; exact Nat.le_refl 0⟩
theorem least {P : Nat → Prop} {d0 : Nat} (h : P d0) : ∃ d, d ≤ d0 ∧ P d ∧ ∀ e, e < d → ¬ P e := by
  induction d0 using Nat.strongRecOn with
  | ind d0 ih =>
    by_cases h2 : ∃ e, e < d0 ∧ P e
    · obtain ⟨e, h3, h4⟩ := h2
      obtain ⟨d, h5, h6⟩ := ih e h3 h4
      exact ⟨d, by omega, h6⟩
    · exact ⟨d0, Nat.le_refl d0, h, fun e he z => h2 ⟨e, he, z⟩⟩
/-- where a number is, or would be -/
theorem HT.look {T M : Nat} {tb cd : Nat → Int32} {hs : Int32 → Nat} (h : HT T M tb cd hs) (hM : M < T) (hM2 : M < 1000000) (v : Int32) : ∃ d, d < T ∧ (∀ e, e < d → ∃ i, i < M ∧ tb ((hs v + e) % T) = nI (i + 1) ∧ cd i ≠ v) ∧ ((tb ((hs v + d) % T) = 0 ∧ ∀ i, i < M → cd i ≠ v) ∨ ∃ i, i < M ∧ tb ((hs v + d) % T) = nI (i + 1) ∧ cd i = v) := by
  obtain ⟨ha, hb, hc⟩ := h
  have hfree : ∃ s, s < T ∧ tb s = 0 := Classical.byContradiction fun z => by
    have e : cnt T (fun s => nz (tb s)) = cnt T (fun _ => true) := cnt_congr fun i hi => nz_t.mpr fun y => z ⟨i, hi, y⟩
    rw [cnt_all] at e; omega
  obtain ⟨s, hs1, hs2⟩ := hfree
  have hd0 : ∃ d, d < T ∧ (hs v + d) % T = s := by
    refine ⟨(s + (T - hs v % T)) % T, Nat.mod_lt _ (by omega), ?_⟩
    have hm : hs v % T < T := Nat.mod_lt _ (by omega)
    rw [Nat.add_mod, Nat.mod_mod, ← Nat.add_mod]
    have e1 : (hs v + (s + (T - hs v % T))) % T = (hs v % T + (s + (T - hs v % T))) % T := by rw [Nat.add_mod, ← Nat.mod_mod (hs v) T, ← Nat.add_mod, Nat.mod_mod]
    rw [e1, show hs v % T + (s + (T - hs v % T)) = s + T by omega, Nat.add_mod_right, Nat.mod_eq_of_lt hs1]
  obtain ⟨d0, hd1, hd2⟩ := hd0
  obtain ⟨d, h1, h2, h3⟩ := least (P := fun d => tb ((hs v + d) % T) = 0 ∨ ∃ i, i < M ∧ tb ((hs v + d) % T) = nI (i + 1) ∧ cd i = v) (d0 := d0) (Or.inl (by rw [hd2]; exact hs2))
  refine ⟨d, by omega, fun e he => ?_, ?_⟩
  · have hn := h3 e he
    rcases ha ((hs v + e) % T) (Nat.mod_lt _ (by omega)) with z | ⟨i, z1, z2⟩
    · exact absurd (Or.inl z) hn
    · exact ⟨i, z1, z2, fun z => hn (Or.inr ⟨i, z1, z2, z⟩)⟩
  · rcases h2 with h2 | h2
    · refine Or.inl ⟨h2, fun i hi z => ?_⟩
      obtain ⟨di, g1, g2, g3⟩ := hb i hi
      rw [z] at g2 g3
      rcases Nat.lt_trichotomy di d with l | l | l
      · exact h3 di l (Or.inr ⟨i, hi, g2, z⟩)
      · rw [l, h2] at g2
        exact nI_ne0 (n := i + 1) (by omega) (by omega) g2.symm
      · exact g3 d l h2
    · exact Or.inr h2
/-- one more number -/
theorem HT.put {T M : Nat} {tb cd : Nat → Int32} {hs : Int32 → Nat} (h : HT T M tb cd hs) (hM2 : M < 1000000) {v : Int32} {d : Nat} (hd : d < T) (h1 : ∀ e, e < d → ∃ i, i < M ∧ tb ((hs v + e) % T) = nI (i + 1) ∧ cd i ≠ v) (h2 : tb ((hs v + d) % T) = 0) {tb' cd' : Nat → Int32} (ht : ∀ s, tb' s = if s = (hs v + d) % T then nI (M + 1) else tb s) (hc1 : ∀ i, i < M → cd' i = cd i) (hc2 : cd' M = v) : HT T (M + 1) tb' cd' hs := by
  obtain ⟨ha, hb, hc⟩ := h
  have keep : ∀ s, tb s ≠ 0 → tb' s = tb s := fun s hs1 => by
    rw [ht s, if_neg (fun z => hs1 (by rw [z]; exact h2))]
  refine ⟨fun s hs1 => ?_, fun i hi => ?_, ?_⟩
  · by_cases e : s = (hs v + d) % T
    · exact Or.inr ⟨M, by omega, by rw [ht s, if_pos e]⟩
    · rw [ht s, if_neg e]
      rcases ha s hs1 with z | ⟨i, z1, z2⟩
      · exact Or.inl z
      · exact Or.inr ⟨i, by omega, z2⟩
  · by_cases e : i = M
    · subst e
      rw [hc2]
      refine ⟨d, hd, by rw [ht, if_pos rfl], fun e he => ?_⟩
      obtain ⟨j, j1, j2, -⟩ := h1 e he
      have : tb ((hs v + e) % T) ≠ 0 := by rw [j2]; exact nI_ne0 (by omega) (by omega)
      rw [keep _ this]; exact this
    · rw [hc1 i (by omega)]
      obtain ⟨di, g1, g2, g3⟩ := hb i (by omega)
      refine ⟨di, g1, ?_, fun e he => ?_⟩
      · rw [keep _ (by rw [g2]; exact nI_ne0 (by omega) (by omega))]; exact g2
      · rw [keep _ (g3 e he)]; exact g3 e he
  · have hq : (hs v + d) % T < T := Nat.mod_lt _ (by omega)
    have e : cnt T (fun s => nz (tb' s)) = cnt T (fun s => nz (tb s)) + 1 := cnt_one hq (fun s => by
      by_cases e : s = (hs v + d) % T
      · rw [ht s, if_pos e, e, h2]
        rw [show nz (nI (M + 1)) = true from nz_t.mpr (nI_ne0 (by omega) (by omega))]; simp
      · rw [ht s, if_neg e]; simp [e]) (nz_f.mpr h2)
    omega
