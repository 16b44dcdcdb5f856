/-! ===== caves ===== -/
theorem res_loop (F : Nat) : ∀ (m c : Nat) (σ : Sg), c ≤ 12 → 12 < c + m → (∀ d, d < c → σ.2.1 15 d = nI d) → ∃ τ, fX2_reset_2 F m σ (nI c) = some (0, τ) ∧ Sm [] [15] σ τ ∧ ∀ d, d < 12 → τ.2.1 15 d = nI d := by
  intro m
  induction m with
  | zero => intro c σ h1 h2; omega
  | succ m ih =>
    intro c σ h1 h2 h3
    show ∃ τ, bX2_reset_2 F (fX2_reset_2 F m) σ (nI c) = _ ∧ _
    unfold bX2_reset_2 ls_
    by_cases hc : c = 12
    · subst hc
      rw [if_pos (by decide)]
      exact ⟨σ, rfl, Sm.rf, h3⟩
    · have hcc : (nI c).toNatClampNeg = c := nI_clamp (by omega)
      simp only [if_neg (n12 (show c < 12 by omega)), if_pos (nI_in (show c < 12 by omega) (by omega)), hcc, nI_1]
      have s1 : Sm [] [15] σ (sa σ 15 c (nI c)) := Sm.sa (by simp)
      obtain ⟨τ, e, hs, h⟩ := ih (c + 1) (sa σ 15 c (nI c)) (by omega) (by omega) (fun d hd => by
        rw [sa_2, if_pos rfl, upd_at]
        by_cases h : d = c
        · rw [if_pos h, h]
        · rw [if_neg h]; exact h3 d (by omega))
      exact ⟨τ, e, s1.tr hs, h⟩
theorem mcv_l (F : Nat) : ∀ (m c : Nat) (σ : Sg), c ≤ 12 → 12 < c + m → (∀ d, d < c → σ.2.1 28 d = nI d) → ∃ σ', fX7_caves_45 F m σ (nI c) = (fX7_changes F σ').bind (fun q1 => (fun (r1 : Int32) (σ1 : Sg) => some ((1 : Int32), σ1)) q1.1 q1.2) ∧ Sm [] [28] σ σ' ∧ ∀ d, d < 12 → σ'.2.1 28 d = nI d := by
  intro m
  induction m with
  | zero => intro c σ h1 h2; omega
  | succ m ih =>
    intro c σ h1 h2 h3
    show ∃ τ, bX7_caves_45 F (fX7_caves_45 F m) σ (nI c) = _ ∧ _
    unfold bX7_caves_45 ls_
    by_cases hc : c = 12
    · subst hc
      rw [if_pos (by decide)]
      exact ⟨σ, rfl, Sm.rf, h3⟩
    · have hcc : (nI c).toNatClampNeg = c := nI_clamp (by omega)
      simp only [if_neg (n12 (show c < 12 by omega)), if_pos (nI_in (show c < 12 by omega) (by omega)), hcc, nI_1]
      have s1 : Sm [] [28] σ (sa σ 28 c (nI c)) := Sm.sa (by simp)
      obtain ⟨τ, e, hs, h⟩ := ih (c + 1) (sa σ 28 c (nI c)) (by omega) (by omega) (fun d hd => by
        rw [sa_2, if_pos rfl, upd_at]
        by_cases h : d = c
        · rw [if_pos h, h]
        · rw [if_neg h]; exact h3 d (by omega))
      exact ⟨τ, e, s1.tr hs, h⟩
theorem mcv_p (F : Nat) : ∀ (m c : Nat) (σ : Sg), c ≤ 18 → 18 < c + m → (∀ d, d < c → σ.2.1 27 d = 0) → ∃ σ', fX7_caves_24 F m σ (nI c) = fX7_caves_45 F F σ' 0 ∧ Sm [] [27] σ σ' ∧ ∀ d, d < 18 → σ'.2.1 27 d = 0 := by
  intro m
  induction m with
  | zero => intro c σ h1 h2; omega
  | succ m ih =>
    intro c σ h1 h2 h3
    show ∃ τ, bX7_caves_24 F (fX7_caves_24 F m) σ (nI c) = _ ∧ _
    unfold bX7_caves_24 ls_
    by_cases hc : c = 18
    · subst hc
      rw [if_pos (by decide)]
      exact ⟨σ, rfl, Sm.rf, h3⟩
    · have hcc : (nI c).toNatClampNeg = c := nI_clamp (by omega)
      simp only [if_neg (n18 (show c < 18 by omega)), if_pos (nI_in (show c < 18 by omega) (by omega)), hcc, nI_1]
      have s1 : Sm [] [27] σ (sa σ 27 c 0) := Sm.sa (by simp)
      obtain ⟨τ, e, hs, h⟩ := ih (c + 1) (sa σ 27 c 0) (by omega) (by omega) (fun d hd => by
        rw [sa_2, if_pos rfl, upd_at]
        by_cases h : d = c
        · rw [if_pos h]
        · rw [if_neg h]; exact h3 d (by omega))
      exact ⟨τ, e, s1.tr hs, h⟩
/-- the class forgets search and plan -/
theorem xfor {σ : Sg} {n : Nat} (h0 : σ.1 0 = nI n) (hn : n ≤ 12) {F : Nat} (hF : 40 ≤ F) : ∃ τ, fX6_forgetSearchAndPlan F σ = some (0, τ) ∧ (∀ i, i ∉ [3, 4, 5, 6, 7] → τ.1 i = σ.1 i) ∧ (∀ k, k ∉ [13] → τ.2.1 k = σ.2.1 k) ∧ τ.2.2 = .null ∧ τ.1 3 = nI 0 ∧ τ.1 4 = nI 0 ∧ XN τ n (std0 n) := by
  obtain ⟨σ1, e1, s1, b1, b2, b3⟩ := xbeg h0 hn hF
  refine ⟨sw σ1 .null, ?_, s1.1, s1.2.1, rfl, b1, b2, b3⟩
  unfold fX6_forgetSearchAndPlan; rw [e1]; rfl
/-- the reference forgets search and plan -/
theorem mcha {σ : Sg} {n : Nat} {E : Gr} (hG : GM σ n E) {F : Nat} (hF : 40 ≤ F) (O : Nat → Ord_) : ∃ τ, fX7_changes F σ = some (0, τ) ∧ Sm [23, 24, 25, 28] [29, 33, 34, 35] σ τ ∧ MH τ E 0 (fun _ => std0 n) O ∧ τ.1 28 = -1 := by
  have s0 : Sm [23, 24, 25, 28] [29, 33, 34, 35] σ (sv σ 28 (-1)) := Sm.sv (by simp)
  obtain ⟨τ, e, s1, h⟩ := mnew (hG.sm s0 (by simp) (by simp) (by simp) (by simp)) hF O
  refine ⟨τ, ?_, s0.tr (s1.up (fun i hi => by simp at hi; simp; omega) (fun k hk => hk)), h, ?_⟩
  · unfold fX7_changes ls_
    dsimp only
    rw [e]; rfl
  · rw [s1.1 28 (by simp)]; rfl
/-- all but the way -/
def Sq (vs as : List Nat) (σ τ : Sg) : Prop := (∀ i, i ∉ vs → τ.1 i = σ.1 i) ∧ ∀ k, k ∉ as → τ.2.1 k = σ.2.1 k
/-- the end of caves, passage and drop: class first, then reference, a new ground, no search, no plan -/
theorem newGround {σ1 σ2 : Sg} {n : Nat} {E : Gr} {mo : Nat} {row : Nat → Nat} {F : Nat} (hF : 40 ≤ F) (hG1 : GC σ1 n E) (hf : fX6_forgetSearchAndPlan F σ1 = some (0, σ2)) (hMO1 : σ1.1 2 = nI mo) (hL1 : LR σ1 15 row) :
    GC σ2 n E ∧ σ2.1 2 = nI mo ∧ LR σ2 15 row ∧ σ2.2.2 = .null ∧ σ2.1 3 = nI 0 ∧ σ2.1 4 = nI 0 ∧ XN σ2 n (std0 n) ∧ (∀ i, i ∉ [3, 4, 5, 6, 7] → σ2.1 i = σ1.1 i) ∧ ∀ k, k ∉ [13] → σ2.2.1 k = σ1.2.1 k := by
  obtain ⟨τ, e, a1, a2, a3, a4, a5, a6⟩ := xfor hG1.2.1 hG1.1.1 hF
  rw [hf] at e
  cases e
  obtain ⟨g1, g2, g3, g4, g5, g6⟩ := hG1
  refine ⟨⟨g1, (a1 0 (by simp)).trans g2, fun p => ?_, fun p a b hp => ?_, fun c hc p => ?_, fun c hc d => ?_⟩, (a1 2 (by simp)).trans hMO1, fun i hi => ?_, a3, a4, a5, a6, a1, a2⟩
  · rw [a1 1 (by simp)]; exact g3 p
  · rw [a2 2 (by simp), a2 3 (by simp)]; exact g4 p a b hp
  · rw [a2 4 (by simp)]; exact g5 c hc p
  · rw [a2 5 (by simp)]; exact g6 c hc d
  · rw [a2 15 (by simp)]; exact hL1 i hi
theorem inv_new {σ2 σ3 τ : Sg} {n : Nat} {E : Gr} {mo : Nat} {row : Nat → Nat} (hG2 : GC σ2 n E) (h2 : σ2.1 2 = nI mo) (hmo : mo < 12 ∧ (mo < n ∨ mo = 0)) (hLY : LY n row) (hL1 : LR σ2 15 row) (hw : σ2.2.2 = .null) (h3 : σ2.1 3 = nI 0) (h4 : σ2.1 4 = nI 0) (hXN : XN σ2 n (std0 n))
    (hs : Sm [21, 22] [25, 26, 27, 28] σ2 σ3) (hG3 : GM σ3 n E) (h22 : σ3.1 22 = nI mo) (hL2 : LR σ3 28 row) (hst : Sm [23, 24, 25, 28] [29, 33, 34, 35] σ3 τ) (hMH : MH τ E 0 (fun _ => std0 n) (fun _ => (0, 0, 0))) (h28 : τ.1 28 = -1) : Inv_ τ none ∧ τ.2.2 = .null := by
  have hall : Sm [21, 22, 23, 24, 25, 28] [25, 26, 27, 28, 29, 33, 34, 35] σ2 τ := (hs.up (fun i hi => by simp at hi; simp; omega) (fun k hk => by simp at hk; simp; omega)).tr (hst.up (fun i hi => by simp at hi; simp; omega) (fun k hk => by simp at hk; simp; omega))
  refine ⟨⟨n, E, mo, row, 0, fun _ => std0 n, fun _ => (0, 0, 0), hG2.sm hall (by simp) (by simp) (by simp) (by simp) (by simp) (by simp), hG3.sm hst (by simp) (by simp) (by simp) (by simp), ⟨(hall.1 2 (by simp)).trans h2, (hst.1 22 (by simp)).trans h22, hmo⟩, hLY, hL1.sm hall (by simp), hL2.sm hst (by simp), HI0 hG2.1, hXN.sm hall (by simp) (by simp) (by simp) (by simp), ⟨(hall.1 3 (by simp)).trans h3, (hall.1 4 (by simp)).trans (by rw [mxT0]; exact h4), fun j hj => by omega⟩, hMH, h28⟩, hall.2.2.trans hw⟩
theorem step_caves (σ : Sg) (wn : Option Nat) (l : Int32) (hI : Inv_ σ wn) : PairOk Inv_ σ wn (fun F σ => fX6_caves F σ l) (fun F σ => fX7_caves F σ l) := by
  by_cases hl : l < 0 ∨ ¬ l ≤ 12
  · refine ⟨0, 0, σ, σ, wn, ?_, ?_, hI, (Sm.rf (vs := []) (as := [])).keep (by simp)⟩
    · show fX6_caves 0 σ l = _
      unfold fX6_caves
      by_cases h : l < 0
      · rw [if_pos h]
      · rw [if_neg h, if_neg (hl.resolve_left h)]
    · show fX7_caves 0 σ l = _
      unfold fX7_caves
      by_cases h : l < 0
      · rw [if_pos h]
      · rw [if_neg h, if_neg (hl.resolve_left h)]
  · have h1 : ¬ l < 0 := fun z => hl (Or.inl z)
    have h2 : l ≤ 12 := Classical.byContradiction fun z => hl (Or.inr z)
    obtain ⟨n, hn, rfl⟩ := nI_of2 (M := 12) (n := 12) (by decide) h1 h2
    obtain ⟨F, hF⟩ : ∃ F : Nat, 40 ≤ F := ⟨40, Nat.le_refl _⟩
    have hg : GrOk n (fun _ => none) := ⟨hn, fun p a b h => by cases h⟩
    -- the class
    have hGP : GP (sv (sv (sv σ 0 (nI n)) 1 0) 2 0) n (fun _ => none) := ⟨hg, rfl, fun p => b_0 p, fun p a b h => by cases h⟩
    obtain ⟨σ1, e1, s1, g1⟩ := lnk hGP hF
    obtain ⟨σ2, e2, s2, r2⟩ := res_loop F F 0 σ1 (by omega) (by omega) (fun d hd => by omega)
    rw [nI_0] at e2
    have g2 := g1.sm s2 (by simp) (by simp) (by simp) (by simp) (by simp) (by simp)
    obtain ⟨σ3, e3, -⟩ := xfor g2.2.1 hn hF
    have m2 : σ2.1 2 = nI 0 := by rw [s2.1 2 (by simp), s1.1 2 (by simp)]; exact nI_0.symm
    have L2 : LR σ2 15 (fun i => i) := fun i hi => ⟨r2 i hi, hi⟩
    obtain ⟨k1, k2, k3, k4, k5, k6, k7, -⟩ := newGround hF g2 e3 m2 L2
    -- the reference
    obtain ⟨σ4, e4, s4, r4⟩ := mcv_p F F 0 (sv (sv σ3 21 (nI n)) 22 0) (by omega) (by omega) (fun d hd => by omega)
    rw [nI_0] at e4
    obtain ⟨σ5, e5, s5, r5⟩ := mcv_l F F 0 σ4 (by omega) (by omega) (fun d hd => by omega)
    rw [nI_0] at e5
    have hs : Sm [21, 22] [25, 26, 27, 28] σ3 σ5 := (((Sm.sv (by simp)).tr (Sm.sv (by simp))).tr (s4.up (by simp) (fun k hk => by simp at hk; simp [hk]))).tr (s5.up (by simp) (fun k hk => by simp at hk; simp [hk]))
    have G5 : GM σ5 n (fun _ => none) := ⟨hg, by rw [s5.1 21 (by simp), s4.1 21 (by simp)]; rfl, fun p hp => by rw [s5.2.1 27 (by simp), r4 p hp]; rfl, fun p a b h => by cases h⟩
    have m5 : σ5.1 22 = nI 0 := by rw [s5.1 22 (by simp), s4.1 22 (by simp)]; exact nI_0.symm
    obtain ⟨τ, e6, s6, h6, h28⟩ := mcha G5 hF (fun _ => (0, 0, 0))
    obtain ⟨hInv, hnull⟩ := inv_new k1 k2 ⟨by omega, Or.inr rfl⟩ ⟨fun i hi => hi, fun c hc => ⟨c, hc, rfl⟩⟩ k3 k4 k5 k6 k7 hs G5 m5 (fun i hi => ⟨r5 i hi, hi⟩) s6 h6 h28
    refine ⟨F, 1, σ3, τ, none, ?_, ?_, hInv, Or.inr ⟨rfl, hnull⟩⟩
    · show fX6_caves F σ (nI n) = _
      unfold fX6_caves fX1_clear fX2_reset ls_
      dsimp only
      rw [if_neg h1, if_pos h2, e1]
      simp only [Option.bind_some]
      rw [e2]
      simp only [Option.bind_some]
      rw [e3]; rfl
    · show fX7_caves F σ3 (nI n) = _
      unfold fX7_caves ls_
      dsimp only
      rw [if_neg h1, if_pos h2, e4, e5, e6]; rfl
