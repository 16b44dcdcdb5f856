/-! ===== plan ===== -/
theorem pl_dec : ∀ o, o < 3 → ∀ c, c < 6 → ∀ p, p < 19 →
    ((nI (1024 * o + 32 * c + p) >>> ((10 : Int32) &&& 31)) = nI (512 * o + 32 * c + (if p = 0 then 31 else p - 1)) / 512) ∧
    (((nI (1024 * o + 32 * c + p) >>> ((5 : Int32) &&& 31)) &&& 31) = (nI (512 * o + 32 * c + (if p = 0 then 31 else p - 1)) / 32) - (nI (512 * o + 32 * c + (if p = 0 then 31 else p - 1)) / 32) / 16 * 16) ∧
    ((nI (1024 * o + 32 * c + p) &&& 31) - 1 = if nI (512 * o + 32 * c + (if p = 0 then 31 else p - 1)) - nI (512 * o + 32 * c + (if p = 0 then 31 else p - 1)) / 32 * 32 = 31 then -1 else nI (512 * o + 32 * c + (if p = 0 then 31 else p - 1)) - nI (512 * o + 32 * c + (if p = 0 then 31 else p - 1)) / 32 * 32) := by decide +kernel
theorem step_plan (σ : Sg) (wn : Option Nat) (a b : Int32) (hI : Inv_ σ wn) : PlanOk σ wn a b := by
  obtain ⟨n, E, mo, row, K, S, O, hD⟩ := hI
  have hPL := hD.2.2.2.2.2.2.2.2.2.2
  cases wn with
  | none =>
    have h28 : σ.1 28 = -1 := hPL
    refine ⟨0, ?_⟩
    unfold fX7_plan bX7_plan_14
    by_cases h1 : a = -1
    · rw [if_pos h1]
      by_cases h2 : b = 0
      · rw [if_pos h2, h28]
      · rw [if_neg h2, if_pos (by rw [h1]; decide)]
    · rw [if_neg h1]
      by_cases h2 : a < 0
      · rw [if_pos h2]
      · rw [if_neg h2, h28, if_neg (fun z => h2 (by rw [Int32.lt_iff_toInt_lt] at z ⊢; have e1 : (-1 : Int32).toInt = -1 := by decide
                                                    have e2 : (0 : Int32).toInt = 0 := by decide
                                                    omega))]
  | some N =>
    obtain ⟨h28, hN, hpl⟩ := hPL
    refine ⟨0, ?_⟩
    have hsh : fX6_plan N 0 σ a b = (if a = -1 ∧ b = 0 then some (nI N, σ) else fX5_tell N 0 σ a b) := by
      unfold fX6_plan fX5_length
      by_cases h1 : a = -1
      · rw [if_pos h1]
        by_cases h2 : b = 0
        · rw [if_pos h2, if_pos ⟨h1, h2⟩]; rfl
        · rw [if_neg h2, if_neg (fun z => h2 z.2)]
      · rw [if_neg h1, if_neg (fun z => h1 z.1)]
    have hsm : fX7_plan 0 σ a b = (if a = -1 ∧ b = 0 then some (nI N, σ) else bX7_plan_14 0 σ a b) := by
      unfold fX7_plan
      by_cases h1 : a = -1
      · rw [if_pos h1]
        by_cases h2 : b = 0
        · rw [if_pos h2, if_pos ⟨h1, h2⟩, h28]
        · rw [if_neg h2, if_neg (fun z => h2 z.2)]
      · rw [if_neg h1, if_neg (fun z => h1 z.1)]
    rw [hsh, hsm]
    by_cases h0 : a = -1 ∧ b = 0
    · rw [if_pos h0, if_pos h0]; exact ⟨nI N, rfl, rfl⟩
    · rw [if_neg h0, if_neg h0]
      unfold fX5_tell bX7_plan_14
      by_cases h1 : a < 0
      · rw [if_pos h1, if_pos h1]; exact ⟨-1, rfl, rfl⟩
      · rw [if_neg h1, if_neg h1, h28]
        obtain ⟨i, hi, rfl⟩ := nI_of h1
        show ∃ r, (if nI i < nI N then _ else _) = _ ∧ (if nI i < nI N then _ else _) = _
        by_cases h2 : i < N
        · rw [if_pos (nI_lt h2 (by omega)), if_pos (nI_lt h2 (by omega))]
          obtain ⟨o, c, p, ho, hc, hp, -, e1, e2⟩ := hpl i h2
          obtain ⟨d1, d2, d3⟩ := pl_dec o (by omega) c hc p hp
          have hci : (nI i).toNatClampNeg = i := nI_clamp hi
          have iN : ib (nI i) N := nI_in h2 (by omega)
          have i6 : ib (nI i) 600 := nI_in (by omega) (by omega)
          simp only [if_pos iN, if_pos i6, hci, e1, e2]
          generalize nI (1024 * o + 32 * c + p) = X at *
          generalize nI (512 * o + 32 * c + (if p = 0 then 31 else p - 1)) = P at *
          by_cases b0 : b = 0
          · subst b0
            rw [if_neg (by decide), if_pos rfl, if_pos rfl]
            exact ⟨_, rfl, by rw [d1]⟩
          · by_cases b1 : b = 1
            · subst b1
              rw [if_neg (by decide), if_neg (by decide), if_pos rfl, if_neg (by decide), if_pos rfl]
              exact ⟨_, rfl, by rw [d2]⟩
            · by_cases b2 : b = 2
              · subst b2
                rw [if_neg (by decide), if_neg (by decide), if_neg (by decide), if_pos rfl, if_neg (by decide), if_neg (by decide), if_pos rfl]
                refine ⟨_, rfl, ?_⟩
                rw [d3]
                split <;> rfl
              · have hout : b.toInt < 0 ∨ 2 < b.toInt := by
                  have t0 := lv_neT (a := 0) b0 (by decide)
                  have t1 := lv_neT (a := 1) b1 (by decide)
                  have t2 := lv_neT (a := 2) b2 (by decide)
                  omega
                rw [if_pos hout]
                exact ⟨-1, rfl, by rw [if_neg b0, if_neg b1, if_neg b2]⟩
        · rw [if_neg (nI_nlt (by omega) hi), if_neg (nI_nlt (by omega) hi)]
          exact ⟨-1, rfl, rfl⟩
/-! ===== place ===== -/
theorem xpl_loop {σ : Sg} {n : Nat} (hG : GN σ n) {row : Nat → Nat} (hL : LR σ 15 row) (F : Nat) {c i0 : Nat} (hc : c < 12) (h0 : i0 < n) (hr : row i0 = c) (hf : ∀ j, j < i0 → row j ≠ c) : ∀ (m j : Nat), j ≤ i0 → i0 < j + m → fX2_placeOf_2 F m σ (nI c) (nI j) = some (nI i0, σ) := by
  obtain ⟨g0, hn⟩ := hG
  intro m
  induction m with
  | zero => intro j h1 h2; omega
  | succ m ih =>
    intro j h1 h2
    show bX2_placeOf_2 F (fX2_placeOf_2 F m) σ (nI c) (nI j) = _
    unfold bX2_placeOf_2
    have hcj : (nI j).toNatClampNeg = j := nI_clamp (by omega)
    obtain ⟨r1, r2⟩ := hL j (by omega)
    simp only [g0, if_neg (nI_ge (show j < n by omega) (by omega)), if_pos (nI_in (show j < 12 by omega) (by omega)), hcj, r1, nI_1]
    by_cases h : j = i0
    · subst h; rw [hr, if_pos rfl]
    · rw [if_neg (fun z => hf j (by omega) (by rw [nI_eq (by omega) (by omega)] at z; exact z))]
      exact ih (j + 1) (by omega) (by omega)
theorem mpl_loop {σ : Sg} {row : Nat → Nat} (hL : LR σ 28 row) (F : Nat) {c i0 : Nat} (hc : c < 12) (h0 : i0 < 12) (hr : row i0 = c) (hf : ∀ j, j < i0 → row j ≠ c) : ∀ (m j : Nat), j ≤ i0 → i0 < j + m → fX7_placeOf_2 F m σ (nI c) (nI j) = some (nI i0, σ) := by
  intro m
  induction m with
  | zero => intro j h1 h2; omega
  | succ m ih =>
    intro j h1 h2
    show bX7_placeOf_2 F (fX7_placeOf_2 F m) σ (nI c) (nI j) = _
    unfold bX7_placeOf_2 li_
    have hcj : (nI j).toNatClampNeg = j := nI_clamp (by omega)
    obtain ⟨r1, r2⟩ := hL j (by omega)
    simp only [if_pos (nI_in (show j < 12 by omega) (by omega)), hcj, r1, nI_1]
    by_cases h : j = i0
    · subst h; rw [hr, if_pos rfl]
    · rw [if_neg (fun z => hf j (by omega) (by rw [nI_eq (by omega) (by omega)] at z; exact z))]
      exact ih (j + 1) (by omega) (by omega)
theorem first_at {n : Nat} {row : Nat → Nat} {c : Nat} : (∃ i, i < n ∧ row i = c) → ∃ i, i < n ∧ row i = c ∧ ∀ j, j < i → row j ≠ c := by
  rintro ⟨i, h1, h2⟩
  induction i using Nat.strongRecOn with
  | ind i ih =>
    by_cases h : ∃ j, j < i ∧ row j = c
    · obtain ⟨j, h3, h4⟩ := h
      exact ih j h3 (by omega) h4
    · exact ⟨i, h1, h2, fun j hj z => h ⟨j, hj, z⟩⟩
theorem LR.put {σ : Sg} {k : Nat} {row : Nat → Nat} (h : LR σ k row) {i j c : Nat} (hi : i < 12) (hc : c < 12) : LR (sa (sa σ k j (nI (row i))) k i (nI c)) k (up1 (up1 row j (row i)) i c) := by
  intro d hd
  rw [sa_2, if_pos rfl, upd_at, sa_2, if_pos rfl, upd_at]
  by_cases h1 : d = i
  · rw [if_pos h1, h1, up1_s]; exact ⟨rfl, hc⟩
  · rw [if_neg h1, up1_o _ _ h1]
    by_cases h2 : d = j
    · rw [if_pos h2, h2, up1_s]; exact ⟨rfl, (h i hi).2⟩
    · rw [if_neg h2, up1_o _ _ h2]; exact h d hd
