/-! ===== frames of the invariant's pieces; the steps mouth, anew, caves ===== -/
section FR
variable {vs as : List Nat} {σ τ : Sg}
theorem XN.sm {n : Nat} {s : Std} (h : XN σ n s) (hs : Sm vs as σ τ) (h1 : 5 ∉ vs) (h2 : 6 ∉ vs) (h3 : 7 ∉ vs) (h4 : 13 ∉ as) : XN τ n s := by
  obtain ⟨a, b, c, d⟩ := h
  refine ⟨fun i hi => ?_, (hs.1 5 h1).trans b, fun i => ?_, (hs.1 7 h3).trans d⟩
  · rw [hs.2.1 13 h4]; exact a i hi
  · rw [hs.1 6 h2]; exact c i
theorem XH.sm {n K : Nat} {S : Nat → Std} {O : Nat → Ord_} (h : XH σ n K S O) (hs : Sm vs as σ τ) (h1 : 3 ∉ vs) (h2 : 4 ∉ vs) (h3 : 7 ∉ as) (h4 : 8 ∉ as) (h5 : 9 ∉ as) (h6 : 10 ∉ as) (h7 : 11 ∉ as) : XH τ n K S O := by
  obtain ⟨a, b, c⟩ := h
  refine ⟨(hs.1 3 h1).trans a, (hs.1 4 h2).trans b, fun j hj => ?_⟩
  rw [hs.2.1 7 h3, hs.2.1 8 h4, hs.2.1 9 h5, hs.2.1 10 h6, hs.2.1 11 h7]; exact c j hj
theorem MH.sm {E : Gr} {K : Nat} {S : Nat → Std} {O : Nat → Ord_} (h : MH σ E K S O) (hs : Sm vs as σ τ) (h1 : 25 ∉ vs) (h2 : 33 ∉ as) (h3 : 34 ∉ as) (h4 : 35 ∉ as) (h5 : 30 ∉ as) (h6 : 31 ∉ as) : MH τ E K S O := by
  obtain ⟨a, b, c⟩ := h
  refine ⟨(hs.1 25 h1).trans a, fun j hj => ?_, fun j hj => ?_⟩
  · rw [hs.2.1 33 h2, hs.2.1 34 h3, hs.2.1 35 h4]; exact b j hj
  · rw [hs.2.1 30 h5, hs.2.1 31 h6]; exact c j hj
theorem LR.sm {k : Nat} {row : Nat → Nat} (h : LR σ k row) (hs : Sm vs as σ τ) (h1 : k ∉ as) : LR τ k row := fun i hi => by rw [hs.2.1 k h1]; exact h i hi
theorem PL.sm {wn : Option Nat} (h : PL σ wn) (hs : Sm vs as σ τ) (h1 : 28 ∉ vs) (h2 : 43 ∉ as) (h3 : 40 ∉ as) : PL τ wn := by
  cases wn with
  | none => exact (hs.1 28 h1).trans h
  | some N =>
    obtain ⟨a, b, c⟩ := h
    exact ⟨(hs.1 28 h1).trans a, b, fun i hi => by rw [hs.2.1 43 h2, hs.2.1 40 h3]; exact c i hi⟩
theorem MO.sm {n mo : Nat} (h : MO σ n mo) (hs : Sm vs as σ τ) (h1 : 2 ∉ vs) (h2 : 22 ∉ vs) : MO τ n mo := ⟨(hs.1 2 h1).trans h.1, (hs.1 22 h2).trans h.2.1, h.2.2⟩
end FR
theorem Sm.keep {vs as : List Nat} {σ τ : Sg} {wn : Option Nat} (h : Sm vs as σ τ) (h1 : 43 ∉ as) : Keep σ τ wn wn := Or.inl ⟨rfl, h.2.1 43 h1, h.2.2⟩
theorem hasC {σ : Sg} {n : Nat} (hG : GN σ n) (F : Nat) (l : Int32) : (∃ c, c < n ∧ l = nI c ∧ fX1_hasCave F σ l = some (1, σ)) ∨ ((∀ c, c < n → l ≠ nI c) ∧ fX1_hasCave F σ l = some (0, σ)) := by
  obtain ⟨h0, hn⟩ := hG
  unfold fX1_hasCave
  by_cases h1 : l < 0
  · rw [if_pos h1]
    exact Or.inr ⟨fun c hc e => nI_pos (by omega) (e ▸ h1), rfl⟩
  · rw [if_neg h1]
    obtain ⟨j, hj, rfl⟩ := nI_of h1
    rw [h0]
    by_cases h2 : j < n
    · rw [if_neg (nI_ge h2 (by omega))]; exact Or.inl ⟨j, h2, rfl, rfl⟩
    · rw [if_pos (nI_le (by omega) hj)]
      exact Or.inr ⟨fun c hc e => h2 (by rw [nI_eq hj (by omega)] at e; omega), rfl⟩
theorem isC {σ : Sg} {n : Nat} {E : Gr} (hG : GM σ n E) (F : Nat) (l : Int32) : (∃ c, c < n ∧ l = nI c ∧ fX7_isCave F σ l = some (1, σ)) ∨ ((∀ c, c < n → l ≠ nI c) ∧ fX7_isCave F σ l = some (0, σ)) := by
  obtain ⟨⟨hn, -⟩, h0, -⟩ := hG
  unfold fX7_isCave
  by_cases h1 : l < 0
  · rw [if_pos h1]
    exact Or.inr ⟨fun c hc e => nI_pos (by omega) (e ▸ h1), rfl⟩
  · rw [if_neg h1]
    obtain ⟨j, hj, rfl⟩ := nI_of h1
    rw [h0]
    by_cases h2 : j < n
    · rw [if_neg (nI_ge h2 (by omega))]; exact Or.inl ⟨j, h2, rfl, rfl⟩
    · rw [if_pos (nI_le (by omega) hj)]
      exact Or.inr ⟨fun c hc e => h2 (by rw [nI_eq hj (by omega)] at e; omega), rfl⟩
theorem step_mouth (σ : Sg) (wn : Option Nat) (l : Int32) (hI : Inv_ σ wn) : PairOk Inv_ σ wn (fun F σ => fX6_mouth F σ l) (fun F σ => fX7_mouth F σ l) := by
  obtain ⟨n, E, mo, row, K, S, O, hGC, hGM, hMO, hLY, hL1, hL2, hHI, hXN, hXH, hMH, hPL⟩ := hI
  have hn := hGC.1.1
  rcases hasC hGC.gn 0 l with ⟨c, hc, rfl, e1⟩ | ⟨hno, e1⟩
  · have s1 : Sm [2, 22] [] σ (sv σ 2 (nI c)) := Sm.sv (by simp)
    have hGM1 := hGM.sm s1 (by simp) (by simp) (by simp) (by simp)
    have s2 : Sm [2, 22] [] (sv σ 2 (nI c)) (sv (sv σ 2 (nI c)) 22 (nI c)) := Sm.sv (by simp)
    have hs := s1.tr s2
    refine ⟨0, 1, sv σ 2 (nI c), sv (sv σ 2 (nI c)) 22 (nI c), wn, ?_, ?_, ⟨n, E, c, row, K, S, O, hGC.sm hs (by simp) (by simp) (by simp) (by simp) (by simp) (by simp), hGM.sm hs (by simp) (by simp) (by simp) (by simp), ⟨rfl, rfl, by omega, Or.inl hc⟩, hLY, hL1.sm hs (by simp), hL2.sm hs (by simp), hHI, hXN.sm hs (by simp) (by simp) (by simp) (by simp), hXH.sm hs (by simp) (by simp) (by simp) (by simp) (by simp) (by simp) (by simp), hMH.sm hs (by simp) (by simp) (by simp) (by simp) (by simp) (by simp), hPL.sm hs (by simp) (by simp) (by simp)⟩, hs.keep (by simp)⟩
    · show fX6_mouth 0 σ (nI c) = _
      unfold fX6_mouth; rw [e1]; rfl
    · show fX7_mouth 0 _ (nI c) = _
      unfold fX7_mouth
      rcases isC hGM1 0 (nI c) with ⟨c2, -, -, e2⟩ | ⟨hno, -⟩
      · rw [e2]; rfl
      · exact absurd rfl (hno c hc)
  · refine ⟨0, 0, σ, σ, wn, ?_, ?_, ⟨n, E, mo, row, K, S, O, hGC, hGM, hMO, hLY, hL1, hL2, hHI, hXN, hXH, hMH, hPL⟩, (Sm.rf (vs := []) (as := [])).keep (by simp)⟩
    · show fX6_mouth 0 σ l = _
      unfold fX6_mouth; rw [e1]; rfl
    · show fX7_mouth 0 σ l = _
      unfold fX7_mouth
      rcases isC hGM 0 l with ⟨c2, h2, h3, -⟩ | ⟨-, e2⟩
      · exact absurd h3 (hno c2 h2)
      · rw [e2]; rfl
/-- the class begins a search -/
theorem xbeg {σ : Sg} {n : Nat} (h0 : σ.1 0 = nI n) (hn : n ≤ 12) {F : Nat} (hF : 40 ≤ F) : ∃ τ, fX3_begin F σ = some (0, τ) ∧ Sm [3, 4, 5, 6, 7] [13] σ τ ∧ τ.1 3 = nI 0 ∧ τ.1 4 = nI 0 ∧ XN τ n (std0 n) := by
  obtain ⟨σ1, e1, s1, f1⟩ := fil13 (F := F) (by omega) σ 0
  have s1' : Sm [3, 4, 5, 6, 7] [13] σ σ1 := s1.up (by simp) (fun k hk => hk)
  refine ⟨sv (sv (sv (sv (sv σ1 5 0) 6 0) 7 (all_ n)) 3 0) 4 0, ?_, ?_, nI_0.symm, nI_0.symm, fun c hc => (f1 c hc).trans nI_0.symm, by show (0 : Int32) = nI (tot n (fun _ => 0)); rw [tot_0, nI_0], fun i => ?_, rfl⟩
  · unfold fX3_begin fX4_begin_12 fX1_allCaves ls_
    rw [e1]
    simp only [Option.bind_some]
    have : (sv (sv σ1 5 0) 6 0).1 0 = nI n := by show σ1.1 0 = nI n; rw [s1.1 0 (by simp)]; exact h0
    rw [this]; rfl
  · exact ((((s1'.tr (Sm.sv (by simp))).tr (Sm.sv (by simp))).tr (Sm.sv (by simp))).tr (Sm.sv (by simp))).tr (Sm.sv (by simp))
  · show bt 0 i = true ↔ (i < n ∧ 0 < (fun _ => 0) i)
    rw [b_0]; exact ⟨fun h => by (cases h), fun h => absurd h.2 (by simp)⟩
/-- the reference begins a search -/
theorem mnew {σ : Sg} {n : Nat} {E : Gr} (hG : GM σ n E) {F : Nat} (hF : 40 ≤ F) (O : Nat → Ord_) : ∃ τ, fX7_anew F σ = some (0, τ) ∧ Sm [23, 24, 25] [29, 33, 34, 35] σ τ ∧ MH τ E 0 (fun _ => std0 n) O := by
  have s0 : Sm [23, 24, 25] [29, 33, 34, 35] σ (sv σ 25 0) := Sm.sv (by simp)
  obtain ⟨σ1, e1, s1, m1, w1, y1⟩ := beg (hG.sm s0 (by simp) (by simp) (by simp) (by simp)) hF
  have h25 : σ1.1 25 = nI 0 := by rw [s1.1 25 (by simp)]; exact nI_0.symm
  obtain ⟨τ, e2, s2, a1, a2, a3, a4⟩ := kee hF (K := 0) (by omega) h25 m1
  have hs := (s0.tr (s1.up (fun i hi => by simp at hi; simp; omega) (fun k hk => by simp at hk; simp [hk]))).tr (s2.up (by simp) (fun k hk => by simp at hk; simp; omega))
  refine ⟨τ, ?_, hs, ?_, fun j hj => ?_, fun j hj => by omega⟩
  · unfold fX7_anew ls_
    dsimp only
    rw [e1]; simp only [Option.bind_some]; rw [e2]; rfl
  · rw [s2.1 25 (by simp)]; exact h25
  · have : j = 0 := by omega
    subst this
    refine ⟨fun c hc => a1 c hc, ?_, fun i => ?_⟩
    · rw [a3, if_pos rfl]; exact w1
    · rw [a4, if_pos rfl, y1 i, w1]; exact Iff.rfl
theorem mxT0 (n : Nat) : mxT n (fun _ => std0 n) 0 = 0 := tot_0 n
theorem step_anew (σ : Sg) (wn : Option Nat) (hI : Inv_ σ wn) : PairOk Inv_ σ wn (fun F σ => fX6_anew F σ) (fun F σ => fX7_anew F σ) := by
  obtain ⟨n, E, mo, row, K, S, O, hGC, hGM, hMO, hLY, hL1, hL2, hHI, hXN, hXH, hMH, hPL⟩ := hI
  have hn := hGC.1.1
  obtain ⟨F, hF⟩ : ∃ F : Nat, 40 ≤ F := ⟨40, Nat.le_refl _⟩
  obtain ⟨σ1, e1, s1, b1, b2, b3⟩ := xbeg hGC.2.1 hn hF
  have hGM1 := hGM.sm s1 (by simp) (by simp) (by simp) (by simp)
  obtain ⟨σ2, e2, s2, b4⟩ := mnew hGM1 hF (fun _ => (0, 0, 0))
  have hs : Sm [3, 4, 5, 6, 7, 23, 24, 25] [13, 29, 33, 34, 35] σ σ2 := (s1.up (fun i hi => by simp at hi; simp; omega) (fun k hk => by simp at hk; simp [hk])).tr (s2.up (fun i hi => by simp at hi; simp; omega) (fun k hk => by simp at hk; simp; omega))
  refine ⟨F, 0, σ1, σ2, wn, ?_, e2, ⟨n, E, mo, row, 0, fun _ => std0 n, fun _ => (0, 0, 0), hGC.sm hs (by simp) (by simp) (by simp) (by simp) (by simp) (by simp), hGM.sm hs (by simp) (by simp) (by simp) (by simp), hMO.sm hs (by simp) (by simp), hLY, hL1.sm hs (by simp), hL2.sm hs (by simp), HI0 hGC.1, b3.sm s2 (by simp) (by simp) (by simp) (by simp), ⟨(s2.1 3 (by simp)).trans b1, (s2.1 4 (by simp)).trans (by rw [mxT0]; exact b2), fun j hj => by omega⟩, b4, hPL.sm hs (by simp) (by simp) (by simp)⟩, hs.keep (by simp)⟩
  show fX6_anew F σ = _
  unfold fX6_anew; rw [e1]; rfl
