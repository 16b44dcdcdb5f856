/-! ===== the reference's search: its loops ===== -/
noncomputable def gF (X : CX) (B : BB) (h w c : Nat) : Nat → BB
  | 0 => B
  | p + 1 => off X (gF X B h w c p) h (w, c, p)
noncomputable def cF (X : CX) (B : BB) (h w : Nat) (N : Nat) : Nat → BB
  | 0 => B
  | c + 1 => gF X (cF X B h w N c) h w c N
theorem stg_g {X : CX} (hX : CXok X) {B : BB} {h : Nat} (hB : BI X B h) (hh : h < bM B) (w c : Nat) : ∀ p, BI X (gF X B h w c p) h ∧ Pre B (gF X B h w c p) := by
  intro p
  induction p with
  | zero => exact ⟨hB, Pre.rf⟩
  | succ p ih => exact ⟨ih.1.off hX (Nat.lt_of_lt_of_le hh ih.2.1) _, ih.2.tr (Pre.off hX _ _ _)⟩
theorem stg_c {X : CX} (hX : CXok X) {B : BB} {h : Nat} (hB : BI X B h) (hh : h < bM B) (w N : Nat) : ∀ c, BI X (cF X B h w N c) h ∧ Pre B (cF X B h w N c) := by
  intro c
  induction c with
  | zero => exact ⟨hB, Pre.rf⟩
  | succ c ih =>
    obtain ⟨a, b⟩ := stg_g hX ih.1 (Nat.lt_of_lt_of_le hh ih.2.1) w c N
    exact ⟨a, ih.2.tr b⟩
theorem cF_puts (X : CX) (B : BB) (h : Nat) {N : Nat} (hN : N = 1) : ∀ c, cF X B h 0 N c = putsF X B h c := by
  intro c
  induction c with
  | zero => rfl
  | succ c ih =>
    show gF X (cF X B h 0 N c) h 0 c N = off X (putsF X B h c) h (0, c, 0)
    rw [ih, hN]; rfl
theorem cF_lifts (X : CX) (B : BB) (h : Nat) {N : Nat} (hN : N = 1) : ∀ c, cF X B h 1 N c = liftsF X B h c := by
  intro c
  induction c with
  | zero => rfl
  | succ c ih =>
    show gF X (cF X B h 1 N c) h 1 c N = off X (liftsF X B h c) h (1, c, 0)
    rw [ih, hN]; rfl
theorem gF_sl (X : CX) (B : BB) (h c : Nat) : ∀ p, gF X B h 2 c p = slF X B h c p := by
  intro p
  induction p with
  | zero => rfl
  | succ p ih =>
    show off X (gF X B h 2 c p) h (2, c, p) = off X (slF X B h c p) h (2, c, p)
    rw [ih]
theorem cF_slides (X : CX) (B : BB) (h : Nat) {N : Nat} (hN : N = 18) : ∀ c, cF X B h 2 N c = slidesF X B h c := by
  intro c
  induction c with
  | zero => rfl
  | succ c ih =>
    show gF X (cF X B h 2 N c) h 2 c N = slF X (slidesF X B h c) h c 18
    rw [ih, hN, gF_sl]
theorem m77b {T : Nat} (hT : T = 524288) {X : CX} (hX : CX8 X) {σ : Sg} {B : BB} {h : Nat} (hR : MR T X σ B) (hB : BI X B h) (hh : h < bM B) (hg : ¬ Gl B) {w c p N : Nat} (hw : w ≤ 2) (hc : c < cN X) (hN : N = if w = 2 then 18 else 1) (hp : p < N) {F : Nat} (hF : T + 40 ≤ F) (k45 : Sg → Int32 → Int32 → Int32 → Rs) (k56 : Sg → Int32 → Int32 → Int32 → Int32 → Rs) (k65 : Sg → Int32 → Int32 → Int32 → Int32 → Int32 → Rs) (k77 : Sg → Int32 → Int32 → Int32 → Int32 → Int32 → Int32 → Rs) : Oc T X σ (bX7_finds_77 F k45 k56 k65 k77 σ (nI (cL X)) (nI (cK X)) (nI h) (nI w) (nI c) (nI p)) (fun σ' => k77 σ' (nI (cL X)) (nI (cK X)) (nI h) (nI w) (nI c) (nI p + 1)) (off X B h (w, c, p)) := by
  have hn := hX.1.2.2.2.1.2
  have hM := hB.most hX.1
  have hp18 : p < 18 := by rw [hN] at hp; split at hp <;> omega
  have w2 : nI w = (2 : Int32) ↔ w = 2 := by rw [show (2 : Int32) = nI 2 by decide, nI_eq (by omega) (by omega)]
  have ih_ : ib (nI h) 262144 := nI_in (by omega) (by omega)
  have ch : (nI h).toNatClampNeg = h := nI_clamp (by omega)
  obtain ⟨σ1, a1, a2, a3, a4⟩ := mshow hX hR.1 (hB.2.1 h hh) (F := F) (by omega) (nI (cL X))
  have e37 := (hR.2.2.2.1 h hh).1
  have hR1 := hR.sm a2
  have s1 : Sm [23, 24, 26, 27] [29, 36, 37, 38, 39] σ σ1 := a2.up (by simp) (by simp)
  unfold bX7_finds_77
  by_cases hw2 : w = 2
  · rw [if_pos (w2.mpr hw2), if_neg (n18 hp18)]
    simp only [if_pos ih_, ch, e37]
    rw [bind_e a1]
    show Oc T X σ (if nI w = (2 : Int32) then Option.bind (fX7_isAt F σ1 (nI p) (nI c)) _ else _) _ _
    rw [if_pos (w2.mpr hw2)]
    rcases isAt_ hR1.1 F hp18 (show c < 12 by omega) with ⟨d, d1, d2⟩ | ⟨d1, d2⟩
    · rw [bind_e d2]
      show Oc T X σ (if (1 : Int32) = 0 then _ else _) _ _
      rw [if_neg (by decide)]
      exact (m122 hT hX hR1 hB hh hg hw hc hp18 rfl a3 a4 (fun _ => ⟨d, d1⟩) hF k45 k56 k65 k77).sm s1
    · rw [bind_e d2]
      show Oc T X σ (if (0 : Int32) = 0 then _ else _) _ _
      rw [if_pos rfl]
      have eo : off X B h (w, c, p) = B := by rw [hw2]; exact off_no (no_sl d1)
      rw [eo]
      exact Or.inl ⟨σ1, rfl, s1, hR1, hg⟩
  · rw [if_neg (fun z => hw2 (w2.mp z))]
    have hp0 : p = 0 := by rw [hN, if_neg hw2] at hp; omega
    rw [if_neg (show ¬ (1 : Int32) ≤ nI p by rw [hp0]; decide)]
    simp only [if_pos ih_, ch, e37]
    rw [bind_e a1]
    show Oc T X σ (if nI w = (2 : Int32) then _ else _) _ _
    rw [if_neg (fun z => hw2 (w2.mp z))]
    exact (m122 hT hX hR1 hB hh hg hw hc hp18 rfl a3 a4 (fun z => absurd z hw2) hF k45 k56 k65 k77).sm s1
theorem m77 {T : Nat} (hT : T = 524288) {X : CX} (hX : CX8 X) {B : BB} {h : Nat} (hB : BI X B h) (hh : h < bM B) {w c N : Nat} (hw : w ≤ 2) (hc : c < cN X) (hN : N = if w = 2 then 18 else 1) {F : Nat} (hF : T + 40 ≤ F) (k45 : Sg → Int32 → Int32 → Int32 → Rs) (k56 : Sg → Int32 → Int32 → Int32 → Int32 → Rs) (k65 : Sg → Int32 → Int32 → Int32 → Int32 → Int32 → Rs) : ∀ (m p : Nat) (σ : Sg), p ≤ N → N < p + m → MR T X σ (gF X B h w c p) → ¬ Gl (gF X B h w c p) → Oc T X σ (fX7_finds_77 F k45 k56 k65 m σ (nI (cL X)) (nI (cK X)) (nI h) (nI w) (nI c) (nI p)) (fun σ' => k65 σ' (nI (cL X)) (nI (cK X)) (nI h) (nI w) (nI c + 1)) (gF X B h w c N) := by
  have w2 : nI w = (2 : Int32) ↔ w = 2 := by rw [show (2 : Int32) = nI 2 by decide, nI_eq (by omega) (by omega)]
  intro m
  induction m with
  | zero => intro p σ _ _; omega
  | succ m ih =>
    intro p σ hp hm hR hg
    obtain ⟨gB, gP⟩ := stg_g hX.1 hB hh w c p
    have hh' := Nat.lt_of_lt_of_le hh gP.1
    show Oc T X σ (bX7_finds_77 F k45 k56 k65 (fX7_finds_77 F k45 k56 k65 m) σ (nI (cL X)) (nI (cK X)) (nI h) (nI w) (nI c) (nI p)) _ _
    by_cases hpN : p = N
    · have e : bX7_finds_77 F k45 k56 k65 (fX7_finds_77 F k45 k56 k65 m) σ (nI (cL X)) (nI (cK X)) (nI h) (nI w) (nI c) (nI p) = k65 σ (nI (cL X)) (nI (cK X)) (nI h) (nI w) (nI c + 1) := by
        unfold bX7_finds_77
        by_cases hw2 : w = 2
        · rw [if_pos hw2] at hN
          rw [if_pos (w2.mpr hw2), if_pos (show (18 : Int32) ≤ nI p by rw [hpN, hN]; decide)]
        · rw [if_neg hw2] at hN
          rw [if_neg (fun z => hw2 (w2.mp z)), if_pos (show (1 : Int32) ≤ nI p by rw [hpN, hN]; decide)]
      rw [e, ← hpN]
      exact Or.inl ⟨σ, rfl, Sm.rf, hR, hg⟩
    · have st := m77b hT hX hR gB hh' hg hw hc hN (p := p) (by omega) hF k45 k56 k65 (fX7_finds_77 F k45 k56 k65 m)
      have pre : Pre (off X (gF X B h w c p) h (w, c, p)) (gF X B h w c N) := by
        have gen : ∀ k, Pre (gF X B h w c (p + 1)) (gF X B h w c (p + 1 + k)) := by
          intro k
          induction k with
          | zero => exact Pre.rf
          | succ k ik => exact ik.tr (Pre.off hX.1 _ _ _)
        have := gen (N - (p + 1))
        rw [show p + 1 + (N - (p + 1)) = N by omega] at this
        exact this
      refine st.seq pre fun σ' _ h1 h2 => ?_
      show Oc T X σ' (fX7_finds_77 F k45 k56 k65 m σ' (nI (cL X)) (nI (cK X)) (nI h) (nI w) (nI c) (nI p + 1)) _ _
      rw [nI_1]
      exact ih (p + 1) σ' (by omega) (by omega) h1 h2
theorem m65 {T : Nat} (hT : T = 524288) {X : CX} (hX : CX8 X) {B : BB} {h : Nat} (hB : BI X B h) (hh : h < bM B) {w N : Nat} (hw : w ≤ 2) (hN : N = if w = 2 then 18 else 1) {F : Nat} (hF : T + 40 ≤ F) (k45 : Sg → Int32 → Int32 → Int32 → Rs) (k56 : Sg → Int32 → Int32 → Int32 → Int32 → Rs) : ∀ (m c : Nat) (σ : Sg), c ≤ cN X → cN X < c + m → MR T X σ (cF X B h w N c) → ¬ Gl (cF X B h w N c) → Oc T X σ (fX7_finds_65 F k45 k56 m σ (nI (cL X)) (nI (cK X)) (nI h) (nI w) (nI c)) (fun σ' => k56 σ' (nI (cL X)) (nI (cK X)) (nI h) (nI w + 1)) (cF X B h w N (cN X)) := by
  have hn := hX.1.2.2.2.1.2
  have hN18 : N ≤ 18 := by rw [hN]; split <;> omega
  intro m
  induction m with
  | zero => intro c σ _ _; omega
  | succ m ih =>
    intro c σ hc hm hR hg
    obtain ⟨gB, gP⟩ := stg_c hX.1 hB hh w N c
    have hh' := Nat.lt_of_lt_of_le hh gP.1
    show Oc T X σ (bX7_finds_65 F k45 k56 (fX7_finds_65 F k45 k56 m) σ (nI (cL X)) (nI (cK X)) (nI h) (nI w) (nI c)) _ _
    unfold bX7_finds_65
    rw [hR.1.2.1]
    by_cases hcn : c = cN X
    · rw [if_pos (by rw [hcn]; exact nI_le (Nat.le_refl _) (by omega)), ← hcn]
      exact Or.inl ⟨σ, rfl, Sm.rf, hR, hg⟩
    · rw [if_neg (nI_ge (by omega) (by omega))]
      have st := m77 hT hX gB hh' hw (c := c) (by omega) hN hF k45 k56 (fX7_finds_65 F k45 k56 m) F 0 σ (by omega) (by omega) hR hg
      have pre : Pre (gF X (cF X B h w N c) h w c N) (cF X B h w N (cN X)) := by
        have gen : ∀ k, Pre (cF X B h w N (c + 1)) (cF X B h w N (c + 1 + k)) := by
          intro k
          induction k with
          | zero => exact Pre.rf
          | succ k ik =>
            obtain ⟨b1, b2⟩ := stg_c hX.1 hB hh w N (c + 1 + k)
            exact ik.tr (stg_g hX.1 b1 (Nat.lt_of_lt_of_le hh b2.1) w (c + 1 + k) N).2
        have := gen (cN X - (c + 1))
        rw [show c + 1 + (cN X - (c + 1)) = cN X by omega] at this
        exact this
      refine Oc.seq (k := fun σ' => fX7_finds_65 F k45 k56 m σ' (nI (cL X)) (nI (cK X)) (nI h) (nI w) (nI c + 1)) st pre fun σ' _ h1 h2 => ?_
      show Oc T X σ' (fX7_finds_65 F k45 k56 m σ' (nI (cL X)) (nI (cK X)) (nI h) (nI w) (nI c + 1)) _ _
      rw [nI_1]
      exact ih (c + 1) σ' (by omega) (by omega) h1 h2
theorem m56 {T : Nat} (hT : T = 524288) {X : CX} (hX : CX8 X) {B : BB} {h : Nat} (hB : BI X B h) (hh : h < bM B) {F : Nat} (hF : T + 40 ≤ F) (k45 : Sg → Int32 → Int32 → Int32 → Rs) (σ : Sg) (hR : MR T X σ B) (hg : ¬ Gl B) (m : Nat) : Oc T X σ (fX7_finds_56 F k45 (m + 4) σ (nI (cL X)) (nI (cK X)) (nI h) 0) (fun σ' => k45 σ' (nI (cL X)) (nI (cK X)) (nI h + 1)) (expand X B h) := by
  have hn := hX.1.2.2.2.1.2
  obtain ⟨N1, hN1⟩ : ∃ N : Nat, N = 1 := ⟨1, rfl⟩
  obtain ⟨N2, hN2⟩ : ∃ N : Nat, N = 18 := ⟨18, rfl⟩
  have q0 : N1 = if (0 : Nat) = 2 then 18 else 1 := hN1
  have q1 : N1 = if (1 : Nat) = 2 then 18 else 1 := hN1
  have q2 : N2 = if (2 : Nat) = 2 then 18 else 1 := hN2
  obtain ⟨b1, p1⟩ := stg_c hX.1 hB hh 0 N1 (cN X)
  have h1 := Nat.lt_of_lt_of_le hh p1.1
  obtain ⟨b2, p2⟩ := stg_c hX.1 b1 h1 1 N1 (cN X)
  have h2 := Nat.lt_of_lt_of_le h1 p2.1
  obtain ⟨b3, p3⟩ := stg_c hX.1 b2 h2 2 N2 (cN X)
  have ex : expand X B h = cF X (cF X (cF X B h 0 N1 (cN X)) h 1 N1 (cN X)) h 2 N2 (cN X) := by
    rw [cF_slides X _ h hN2, cF_lifts X _ h hN1, cF_puts X _ h hN1]; rfl
  rw [ex]
  have s0 := m65 hT hX hB hh (w := 0) (by omega) q0 hF k45 (fX7_finds_56 F k45 (m + 3)) F 0 σ (by omega) (by omega) hR hg
  have e0 : fX7_finds_56 F k45 (m + 4) σ (nI (cL X)) (nI (cK X)) (nI h) 0 = fX7_finds_65 F k45 (fX7_finds_56 F k45 (m + 3)) F σ (nI (cL X)) (nI (cK X)) (nI h) (nI 0) (nI 0) := by
    show bX7_finds_56 F k45 (fX7_finds_56 F k45 (m + 3)) σ _ _ _ _ = _
    unfold bX7_finds_56
    rw [if_neg (by decide), nI_0]
  rw [e0]
  refine Oc.seq (k := fun σ' => fX7_finds_56 F k45 (m + 3) σ' (nI (cL X)) (nI (cK X)) (nI h) (nI 0 + 1)) s0 (p2.tr p3) fun σ1 _ r1 g1 => ?_
  have s1 := m65 hT hX b1 h1 (w := 1) (by omega) q1 hF k45 (fX7_finds_56 F k45 (m + 2)) F 0 σ1 (by omega) (by omega) r1 g1
  have e1 : fX7_finds_56 F k45 (m + 3) σ1 (nI (cL X)) (nI (cK X)) (nI h) (nI 0 + 1) = fX7_finds_65 F k45 (fX7_finds_56 F k45 (m + 2)) F σ1 (nI (cL X)) (nI (cK X)) (nI h) (nI 1) (nI 0) := by
    rw [nI_1]
    show bX7_finds_56 F k45 (fX7_finds_56 F k45 (m + 2)) σ1 _ _ _ (nI 1) = _
    unfold bX7_finds_56
    rw [if_neg (by decide), nI_0]
  show Oc T X σ1 (fX7_finds_56 F k45 (m + 3) σ1 (nI (cL X)) (nI (cK X)) (nI h) (nI 0 + 1)) _ _
  rw [e1]
  refine Oc.seq (k := fun σ' => fX7_finds_56 F k45 (m + 2) σ' (nI (cL X)) (nI (cK X)) (nI h) (nI 1 + 1)) s1 p3 fun σ2 _ r2 g2 => ?_
  have s2 := m65 hT hX b2 h2 (w := 2) (by omega) q2 hF k45 (fX7_finds_56 F k45 (m + 1)) F 0 σ2 (by omega) (by omega) r2 g2
  have e2 : fX7_finds_56 F k45 (m + 2) σ2 (nI (cL X)) (nI (cK X)) (nI h) (nI 1 + 1) = fX7_finds_65 F k45 (fX7_finds_56 F k45 (m + 1)) F σ2 (nI (cL X)) (nI (cK X)) (nI h) (nI 2) (nI 0) := by
    rw [nI_1]
    show bX7_finds_56 F k45 (fX7_finds_56 F k45 (m + 1)) σ2 _ _ _ (nI 2) = _
    unfold bX7_finds_56
    rw [if_neg (by decide), nI_0]
  show Oc T X σ2 (fX7_finds_56 F k45 (m + 2) σ2 (nI (cL X)) (nI (cK X)) (nI h) (nI 1 + 1)) _ _
  rw [e2]
  refine Oc.seq (k := fun σ' => fX7_finds_56 F k45 (m + 1) σ' (nI (cL X)) (nI (cK X)) (nI h) (nI 2 + 1)) s2 Pre.rf fun σ3 _ r3 g3 => ?_
  refine Or.inl ⟨σ3, ?_, Sm.rf, r3, g3⟩
  show fX7_finds_56 F k45 (m + 1) σ3 (nI (cL X)) (nI (cK X)) (nI h) (nI 2 + 1) = _
  rw [nI_1]
  show bX7_finds_56 F k45 (fX7_finds_56 F k45 m) σ3 _ _ _ (nI 3) = _
  unfold bX7_finds_56
  rw [if_pos (by decide)]
theorem m45 {T : Nat} (hT : T = 524288) {X : CX} (hX : CX8 X) {F : Nat} (hF : T + 40 ≤ F) : ∀ (m h : Nat) (σ : Sg), h ≤ 1604 → 1604 < h + m → (∀ g, g < h → g < bM (bst X g) ∧ ¬ Gl (bst X g)) → MR T X σ (bst X h) → ¬ Gl (bst X h) → ∃ r τ H, fX7_finds_45 F m σ (nI (cL X)) (nI (cK X)) (nI h) = some (r, τ) ∧ Sm [23, 24, 26, 27] [29, 36, 37, 38, 39] σ τ ∧ Stop X H ∧ ((r = -1 ∧ ¬ Gl (bst X H) ∧ MR T X τ (bst X H)) ∨ ∃ D, Won T X τ D r ∧ Pre D (bst X H)) := by
  intro m
  induction m with
  | zero => intro h σ _ _; omega
  | succ m ih =>
    intro h σ hh hm hst hR hg
    have hB := bst_ok hX.1 h (fun g hg => (hst g hg).1)
    have hM := hB.most hX.1
    show ∃ r τ H, bX7_finds_45 F (fX7_finds_45 F m) σ _ _ (nI h) = _ ∧ _
    unfold bX7_finds_45
    rw [hR.2.2.1]
    by_cases hb : bM (bst X h) ≤ h
    · rw [if_pos (nI_le hb (by omega))]
      exact ⟨-1, σ, h, rfl, Sm.rf, ⟨hst, Or.inl hb⟩, Or.inl ⟨rfl, hg, hR⟩⟩
    · rw [if_neg (nI_ge (by omega) (by omega))]
      obtain ⟨m4, hm4⟩ : ∃ m4, F = m4 + 4 := ⟨F - 4, by omega⟩
      have st := m56 hT hX hB (by omega) hF (fX7_finds_45 F m) σ hR hg m4
      rw [← hm4] at st
      have hst' : ∀ g, g < h + 1 → g < bM (bst X g) ∧ ¬ Gl (bst X g) := fun g hg2 => by
        by_cases e : g = h
        · rw [e]; exact ⟨by omega, hg⟩
        · exact hst g (by omega)
      rcases st with ⟨σ', e1, e2, e3, e4⟩ | ⟨r, σ', D, e1, e2, e3, e4⟩
      · rw [e1, nI_1]
        obtain ⟨r, τ, H, q1, q2, q3⟩ := ih (h + 1) σ' (by omega) (by omega) hst' e3 e4
        exact ⟨r, τ, H, q1, e2.tr q2, q3⟩
      · refine ⟨r, σ', h + 1, e1, e2, ⟨hst', Or.inr ?_⟩, Or.inr ⟨D, e3, e4⟩⟩
        obtain ⟨-, w1, -, w2, -⟩ := e3
        have q : (bQ (expand X (bst X h) h) (bM D - 1)).1.2 = 0 := by rw [(e4.2 (bM D - 1) (by omega)).1]; exact w2
        exact ⟨bM D - 1, Nat.lt_of_lt_of_le (by omega) e4.1, q⟩
theorem m2_loop {T : Nat} (hT : T = 524288) (F : Nat) (l1 l2 : Int32) : ∀ (m c : Nat) (σ : Sg), c ≤ T → T < c + m → (∀ i, i < c → σ.2.1 36 i = 0) → ∃ σ', fX7_finds_2 F m σ l1 l2 (nI c) = (fX7_begins F (sv σ' 26 0)).bind (fun q2 => (fun (r2 : Int32) (σ2 : Sg) => (fX7_meets F (sv σ2 27 0) l1 (-1) 0).bind fun q4 => (fun (r4 : Int32) (σ4 : Sg) => fX7_finds_45 F F σ4 l1 l2 0) q4.1 q4.2) q2.1 q2.2) ∧ Sm [] [36] σ σ' ∧ ∀ i, i < T → σ'.2.1 36 i = 0 := by
  intro m
  induction m with
  | zero => intro c σ _ _; omega
  | succ m ih =>
    intro c σ hc hm h0
    by_cases hcT : c = T
    · refine ⟨σ, ?_, Sm.rf, fun i hi => h0 i (by omega)⟩
      show bX7_finds_2 F (fX7_finds_2 F m) σ l1 l2 (nI c) = _
      unfold bX7_finds_2
      rw [if_pos (show (524288 : Int32) ≤ nI c by rw [hcT, hT]; decide)]
      rfl
    · have ic : ib (nI c) 524288 := nI_in (by omega) (by omega)
      have cc : (nI c).toNatClampNeg = c := nI_clamp (by omega)
      obtain ⟨σ', a1, a2, a3⟩ := ih (c + 1) (sa σ 36 c 0) (by omega) (by omega) (fun i hi => by
        rw [sa_2, if_pos rfl, upd_at]
        by_cases e : i = c
        · rw [if_pos e]
        · rw [if_neg e]; exact h0 i (by omega))
      refine ⟨σ', ?_, (Sm.sa (by simp)).tr a2, a3⟩
      rw [← a1]
      show bX7_finds_2 F (fX7_finds_2 F m) σ l1 l2 (nI c) = _
      unfold bX7_finds_2
      rw [if_neg (show ¬ (524288 : Int32) ≤ nI c by rw [show (524288 : Int32) = nI 524288 by decide]; exact nI_ge (by omega) (by omega)), if_pos ic, cc, nI_1]
      rfl
theorem mfinds {T : Nat} (hT : T = 524288) {X : CX} (hX : CX8 X) {σ : Sg} (hG : GM σ (cN X) (cE X)) (h22 : σ.1 22 = nI (cM X)) {F : Nat} (hF : T + 40 ≤ F) : ∃ r τ H, fX7_finds F σ (nI (cL X)) (nI (cK X)) = some (r, τ) ∧ Sm [23, 24, 26, 27] [29, 36, 37, 38, 39] σ τ ∧ Stop X H ∧ ((r = -1 ∧ ¬ Gl (bst X H) ∧ MR T X τ (bst X H)) ∨ ∃ D, Won T X τ D r ∧ Pre D (bst X H)) := by
  have hn := hX.1.2.2.2.1
  obtain ⟨σ1, a1, a2, a3⟩ := m2_loop hT F (nI (cL X)) (nI (cK X)) F 0 σ (by omega) (by omega) (fun i hi => by omega)
  have s1 : Sm [26] [36] σ (sv σ1 26 0) := (a2.up (by simp) (by simp)).tr (Sm.sv (by simp))
  have G1 := hG.sm s1 (by simp) (by simp) (by simp) (by simp)
  obtain ⟨σ2, b1, b2, b3, b4, b5⟩ := beg G1 (F := F) (by omega)
  obtain ⟨σ3, h3⟩ : ∃ σ3, σ3 = sv σ2 27 0 := ⟨_, rfl⟩
  have s3 : Sm [27] [] σ2 σ3 := by rw [h3]; exact Sm.sv (by simp)
  have s13 : Sm [23, 24, 27] [29] (sv σ1 26 0) σ3 := (b2.up (by simp) (by simp)).tr (s3.up (by simp) (by simp))
  have z27 : σ3.1 27 = 0 := by rw [h3, sv_1, if_pos rfl]
  obtain ⟨B0, hB0⟩ : ∃ B0 : BB, bM B0 = 0 := ⟨(0, fun _ => (std0 0, false), fun _ => 0, fun _ => (0, 0, 0)), rfl⟩
  have R1 : MR T X (sv σ1 26 0) B0 := by
    refine ⟨G1, (s1.1 22 (by simp)).trans h22, by rw [sv_1, if_pos rfl, hB0, nI_0], fun i hi => by omega, ?_⟩
    rw [hB0]
    exact HT.nil fun s hs => a3 s hs
  have R3 := R1.sm s13
  have S3 : MS X σ3 (std0 (cN X), false) := ⟨b3.sm s3 (by simp), (s3.1 23 (by simp)).trans b4, fun i => by rw [s3.1 24 (by simp), b5 i, b4]; rfl⟩
  obtain ⟨r, σ4, c1, c2, c3⟩ := mins hT hX R3 (fun i hi => by omega) (by omega) (VS0 hX.1) S3 hF (sl := False) (Or.inr ⟨z27, fun z => z⟩) (by
    constructor
    · intro z; cases z
    · rintro ⟨-, z⟩; exact z.elim) (l2 := -1) (l3 := 0) (h := 0) (x := (0, 0, 0)) (fun z => by omega) (fun z => by omega) (fun _ => rfl)
  have R4 : MR T X σ4 (bst X 0) := by
    rcases c3 with ⟨⟨i, i1, -⟩, -⟩ | ⟨-, -, r1, r2, r3, r4, r5⟩
    · omega
    · have hm : bM (app B0 0 (0, 0, 0) (std0 (cN X), false)) = 1 := by show bM B0 + 1 = 1; omega
      have hm2 : bM (bst X 0) = 1 := rfl
      rw [hm] at r3 r5
      refine ⟨r1, r2, by rw [r3, hm2], fun i hi => ?_, by rw [hm2]; exact r5⟩
      rw [hm2] at hi
      have hi0 : i = 0 := by omega
      refine ⟨?_, fun z => by omega, fun z => (r4 i (by omega)).2.2 z⟩
      have e : bQ (app B0 0 (0, 0, 0) (std0 (cN X), false)) i = (std0 (cN X), false) := if_pos (by omega)
      rw [(r4 i (by omega)).1, e]
      rfl
  have g0 : ¬ Gl (bst X 0) := fun ⟨i, i1, i2⟩ => all_ne hn.1 (show cN X ≤ 12 by omega) i2
  obtain ⟨r', τ, H, u1, u2, u3⟩ := m45 hT hX hF F 0 σ4 (by omega) (by omega) (fun g hg => by omega) R4 g0
  refine ⟨r', τ, H, ?_, ((s1.up (by simp) (by simp)).tr (s13.up (by simp) (by simp))).tr ((c2.up (by simp) (by simp)).tr u2), u3⟩
  show fX7_finds_2 F F σ (nI (cL X)) (nI (cK X)) 0 = _
  rw [nI_0] at a1 u1
  rw [a1, bind_e b1]
  show Option.bind (fX7_meets F (sv σ2 27 0) (nI (cL X)) (-1) 0) _ = _
  rw [← h3, bind_e c1]
  exact u1
