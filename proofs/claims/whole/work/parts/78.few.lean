/-! ===== step: fewest ===== -/
def NF (X : CX) : Prop := ∃ H, Stop X H ∧ ¬ Gl (bst X H)
theorem NF.no {X : CX} (h : NF X) {H : Nat} (hS : Stop X H) : ¬ Gl (bst X H) := by
  obtain ⟨G, g1, g2⟩ := h
  rw [hS.uniq g1]; exact g2
theorem won_gl {T : Nat} {X : CX} {σ : Sg} {D B : BB} {r : Int32} (h : Won T X σ D r) (hp : Pre D B) : Gl B := by
  obtain ⟨-, w1, -, w2, -⟩ := h
  exact ⟨bM D - 1, Nat.lt_of_lt_of_le (by omega) hp.1, by rw [(hp.2 (bM D - 1) (by omega)).1]; exact w2⟩
theorem xfew {X : Nat → CX} {L : Nat} (hX : ∀ k, 1 ≤ k → k ≤ 3 → CX8 (X k)) (hL : ∀ k, cL (X k) = L) (hK : ∀ k, cK (X k) = k) {F : Nat} (hF : 2100 ≤ F) (k13 : Sg → Rs) (k34 : Sg → Int32 → Rs) (k53 : Sg → Rs) : ∀ (m k : Nat) (σ : Sg), 1 ≤ k → k ≤ 4 → 4 < k + m → (∀ j, GC σ (cN (X j)) (cE (X j)) ∧ σ.1 2 = nI (cM (X j))) →
    (∃ σ', fX6_few_17 F k13 k34 k53 m σ (nI L) (nI k) = k53 σ' ∧ Sm [8, 9, 10, 11, 12, 13, 14, 15, 16, 17] [18, 19, 20, 21] σ σ' ∧ ∀ j, k ≤ j → j ≤ 3 → NF (X j)) ∨
    (∃ σ' k' H, fX6_few_17 F k13 k34 k53 m σ (nI L) (nI k) = k34 σ' (nI k') ∧ Sm [8, 9, 10, 11, 12, 13, 14, 15, 16, 17] [18, 19, 20, 21] σ σ' ∧ (k ≤ k' ∧ k' ≤ 3) ∧ (∀ j, k ≤ j → j < k' → NF (X j)) ∧ Stop (X k') H ∧ Gl (bst (X k') H) ∧ XR (X k') σ' (bst (X k') H)) := by
  intro m
  induction m with
  | zero => intro k σ _ _ _; omega
  | succ m ih =>
    intro k σ h1 h4 hm hG
    show (∃ σ', bX6_few_17 F k13 k34 k53 (fX6_few_17 F k13 k34 k53 m) σ (nI L) (nI k) = _ ∧ _) ∨ (∃ σ' k' H, bX6_few_17 F k13 k34 k53 (fX6_few_17 F k13 k34 k53 m) σ (nI L) (nI k) = _ ∧ _)
    unfold bX6_few_17
    by_cases hk : k = 4
    · rw [if_pos (show (3 : Int32) < nI k by rw [hk]; decide)]
      exact Or.inl ⟨σ, rfl, Sm.rf, fun j j1 j2 => by omega⟩
    · rw [if_neg (show ¬ (3 : Int32) < nI k by rw [show (3 : Int32) = nI 3 by decide]; exact nI_nlt (by omega) (by omega))]
      have X8 := hX k h1 (by omega)
      obtain ⟨r, σ1, H, a1, a2, a3, a4, a5⟩ := xfinds X8.1 (hG k).1 (hG k).2 hF
      rw [hL, hK] at a1
      rw [bind_e a1]
      rcases a5 with ⟨p1, p2⟩ | ⟨p1, p2⟩
      · right
        refine ⟨σ1, k, H, ?_, a2, ⟨Nat.le_refl k, by omega⟩, fun j j1 j2 => by omega, a3, p2, a4⟩
        show (if r = (0 : Int32) then _ else _) = _
        rw [if_neg (show ¬ r = 0 by rw [p1]; decide)]
      · have e : (if r = (0 : Int32) then fX6_few_17 F k13 k34 k53 m σ1 (nI L) (nI k + 1) else k34 σ1 (nI k)) = fX6_few_17 F k13 k34 k53 m σ1 (nI L) (nI (k + 1)) := by rw [if_pos p1, nI_1]
        show (∃ σ', (if r = (0 : Int32) then fX6_few_17 F k13 k34 k53 m σ1 (nI L) (nI k + 1) else k34 σ1 (nI k)) = _ ∧ _) ∨ (∃ σ' k' H, (if r = (0 : Int32) then fX6_few_17 F k13 k34 k53 m σ1 (nI L) (nI k + 1) else k34 σ1 (nI k)) = _ ∧ _)
        rw [e]
        have nf : NF (X k) := ⟨H, a3, p2⟩
        rcases ih (k + 1) σ1 (by omega) (by omega) (by omega) (fun j => ⟨(hG j).1.sm a2 (by simp) (by simp) (by simp) (by simp) (by simp) (by simp), (a2.1 2 (by simp)).trans (hG j).2⟩) with ⟨σ', b1, b2, b3⟩ | ⟨σ', k', H', b1, b2, b3, b4, b5⟩
        · left
          refine ⟨σ', b1, a2.tr b2, fun j j1 j2 => ?_⟩
          by_cases ej : j = k
          · rw [ej]; exact nf
          · exact b3 j (by omega) j2
        · right
          refine ⟨σ', k', H', b1, a2.tr b2, ⟨by omega, b3.2⟩, fun j j1 j2 => ?_, b5⟩
          by_cases ej : j = k
          · rw [ej]; exact nf
          · exact b4 j (by omega) j2
theorem mfew1 {T : Nat} (hT : T = 524288) {X : CX} (hX : CX8 X) {σ : Sg} (hG : GM σ (cN X) (cE X)) (h22 : σ.1 22 = nI (cM X)) {F : Nat} (hF : T + 40 ≤ F) (hnf : NF X) (k17 : Sg → Int32 → Int32 → Rs) (hk : cK X ≤ 3) : ∃ σ1, bX7_fewest_17 F k17 σ (nI (cL X)) (nI (cK X)) = k17 σ1 (nI (cL X)) (nI (cK X + 1)) ∧ Sm [23, 24, 26, 27] [29, 36, 37, 38, 39] σ σ1 := by
  obtain ⟨r, σ1, H, a1, a2, a3, a4⟩ := mfinds hT hX hG h22 hF
  refine ⟨σ1, ?_, a2⟩
  unfold bX7_fewest_17
  rw [if_neg (show ¬ (3 : Int32) < nI (cK X) by rw [show (3 : Int32) = nI 3 by decide]; exact nI_nlt (by omega) (by omega)), bind_e a1]
  show (if r = (-1 : Int32) then k17 σ1 (nI (cL X)) (nI (cK X) + 1) else _) = _
  rcases a4 with ⟨b1, -⟩ | ⟨D, b1, b2⟩
  · rw [if_pos b1, nI_1]
  · exact absurd (won_gl b1 b2) (hnf.no a3)
theorem mfew_all {T : Nat} (hT : T = 524288) {X : Nat → CX} {L : Nat} (hX : ∀ k, 1 ≤ k → k ≤ 3 → CX8 (X k)) (hL : ∀ k, cL (X k) = L) (hK : ∀ k, cK (X k) = k) {F : Nat} (hF : T + 40 ≤ F) : ∀ (m k : Nat) (σ : Sg), 1 ≤ k → k ≤ 4 → 4 < k + m → (∀ j, GM σ (cN (X j)) (cE (X j)) ∧ σ.1 22 = nI (cM (X j))) → (∀ j, k ≤ j → j ≤ 3 → NF (X j)) → ∃ σ', fX7_fewest_17 F m σ (nI L) (nI k) = some (4, σ') ∧ Sm [23, 24, 26, 27] [29, 36, 37, 38, 39] σ σ' := by
  intro m
  induction m with
  | zero => intro k σ _ _ _; omega
  | succ m ih =>
    intro k σ h1 h4 hm hG hnf
    show ∃ σ', bX7_fewest_17 F (fX7_fewest_17 F m) σ (nI L) (nI k) = _ ∧ _
    by_cases hk : k = 4
    · refine ⟨σ, ?_, Sm.rf⟩
      unfold bX7_fewest_17
      rw [if_pos (show (3 : Int32) < nI k by rw [hk]; decide)]
    · obtain ⟨σ1, a1, a2⟩ := mfew1 hT (hX k h1 (by omega)) (hG k).1 (hG k).2 hF (hnf k (Nat.le_refl k) (by omega)) (fX7_fewest_17 F m) (by rw [hK]; omega)
      rw [hL, hK] at a1
      rw [a1]
      obtain ⟨σ', b1, b2⟩ := ih (k + 1) σ1 (by omega) (by omega) (by omega) (fun j => ⟨(hG j).1.sm a2 (by simp) (by simp) (by simp) (by simp), (a2.1 22 (by simp)).trans (hG j).2⟩) (fun j j1 j2 => hnf j (by omega) j2)
      exact ⟨σ', b1, a2.tr b2⟩
theorem mfew_at {T : Nat} (hT : T = 524288) {X : Nat → CX} {L : Nat} (hX : ∀ k, 1 ≤ k → k ≤ 3 → CX8 (X k)) (hL : ∀ k, cL (X k) = L) (hK : ∀ k, cK (X k) = k) {F : Nat} (hF : T + 40 ≤ F) {k' H : Nat} (hk' : k' ≤ 3) (hS : Stop (X k') H) (hg : Gl (bst (X k') H)) : ∀ (m k : Nat) (σ : Sg), 1 ≤ k → k ≤ k' → 4 < k + m → (∀ j, GM σ (cN (X j)) (cE (X j)) ∧ σ.1 22 = nI (cM (X j))) → (∀ j, k ≤ j → j < k' → NF (X j)) → ∃ σ1 r D k17, fX7_fewest_17 F m σ (nI L) (nI k) = fX7_fewest_45 F k17 F (sv σ1 28 0) (nI k') r r ∧ Sm [23, 24, 26, 27] [29, 36, 37, 38, 39] σ σ1 ∧ Won T (X k') σ1 D r ∧ Pre D (bst (X k') H) := by
  intro m
  induction m with
  | zero => intro k σ _ _ _; omega
  | succ m ih =>
    intro k σ h1 h4 hm hG hnf
    show ∃ σ1 r D k17, bX7_fewest_17 F (fX7_fewest_17 F m) σ (nI L) (nI k) = _ ∧ _
    by_cases hk : k = k'
    · subst hk
      obtain ⟨r, σ1, H', a1, a2, a3, a4⟩ := mfinds hT (hX k h1 (by omega)) (hG k).1 (hG k).2 hF
      rw [hL, hK] at a1
      rw [← hS.uniq a3] at a4
      rcases a4 with ⟨-, b1, -⟩ | ⟨D, b1, b2⟩
      · exact absurd hg b1
      · refine ⟨σ1, r, D, fX7_fewest_17 F m, ?_, a2, b1, b2⟩
        have hM := (bst_ok (hX k h1 (by omega)).1 H (fun h hh => (hS.1 h hh).1)).most (hX k h1 (by omega)).1
        have hDM := b2.1
        unfold bX7_fewest_17
        rw [if_neg (show ¬ (3 : Int32) < nI k by rw [show (3 : Int32) = nI 3 by decide]; exact nI_nlt (by omega) (by omega)), bind_e a1]
        show (if r = (-1 : Int32) then _ else fX7_fewest_45 F (fX7_fewest_17 F m) F (sv σ1 28 0) (nI k) r r) = _
        rw [if_neg (fun z => by
          rw [b1.2.2.1] at z
          have := congrArg Int32.toInt z
          rw [nI_toInt (by omega)] at this
          have e : (-1 : Int32).toInt = -1 := by decide
          rw [e] at this; omega)]
    · obtain ⟨σ1, a1, a2⟩ := mfew1 hT (hX k h1 (by omega)) (hG k).1 (hG k).2 hF (hnf k (Nat.le_refl k) (by omega)) (fX7_fewest_17 F m) (by rw [hK]; omega)
      rw [hL, hK] at a1
      rw [a1]
      obtain ⟨σ2, r, D, k17, b1, b2, b3⟩ := ih (k + 1) σ1 (by omega) (by omega) (by omega) (fun j => ⟨(hG j).1.sm a2 (by simp) (by simp) (by simp) (by simp), (a2.1 22 (by simp)).trans (hG j).2⟩) (fun j j1 j2 => hnf j (by omega) j2)
      exact ⟨σ2, r, D, k17, b1, a2.tr b2, b3⟩
/-! the way to the goal -/
theorem wayA {σ : Sg} {B : BB} (hM : bM B ≤ 1604) (h20 : ∀ i, 0 < i → i < bM B → σ.2.1 20 i = nI (bF B i)) {g d : Nat} {P : Nat → Nat} (hP : Wy B g d P) (hd : d ≤ 600) (F : Nat) : ∀ (j m : Nat), j ≤ d → j < m → fX0_wayA_7 F (fun σ l1 => some (l1, σ)) m σ (nI (d - j)) (nI (P j)) = some (nI d, σ) := by
  intro j
  induction j with
  | zero =>
    intro m _ hm
    obtain ⟨m, rfl⟩ : ∃ q, m = q + 1 := ⟨m - 1, by omega⟩
    show bX0_wayA_7 F (fun σ l1 => some (l1, σ)) (fX0_wayA_7 F (fun σ l1 => some (l1, σ)) m) σ (nI (d - 0)) (nI (P 0)) = _
    unfold bX0_wayA_7
    rw [hP.1, if_pos (show nI 0 ≤ (0 : Int32) by decide)]; rfl
  | succ j ih =>
    intro m hj hm
    obtain ⟨m, rfl⟩ : ∃ q, m = q + 1 := ⟨m - 1, by omega⟩
    obtain ⟨p1, p2⟩ := hP.2.2.2 j (by omega)
    have p3 := hP.2.2.1 (j + 1) hj
    have ip : ib (nI (P (j + 1))) 1604 := nI_in (by omega) (by omega)
    have cp : (nI (P (j + 1))).toNatClampNeg = P (j + 1) := nI_clamp (by omega)
    show bX0_wayA_7 F (fun σ l1 => some (l1, σ)) (fX0_wayA_7 F (fun σ l1 => some (l1, σ)) m) σ (nI (d - (j + 1))) (nI (P (j + 1))) = _
    unfold bX0_wayA_7 li_
    rw [if_neg (nI_nle (by omega) (by omega)), if_neg (show ¬ (1604 : Int32) ≤ nI (P (j + 1)) by rw [show (1604 : Int32) = nI 1604 by decide]; exact nI_ge (by omega) (by omega)), if_neg (show ¬ (1604 : Int32) ≤ nI (d - (j + 1)) by rw [show (1604 : Int32) = nI 1604 by decide]; exact nI_ge (by omega) (by omega)), if_pos ip, cp, h20 _ (by omega) p3, p2, nI_1, show d - (j + 1) + 1 = d - j by omega]
    exact ih m (by omega) (by omega)
theorem wayB {B : BB} (hM : bM B ≤ 1604) {g d : Nat} {P : Nat → Nat} (hP : Wy B g d P) (hd : d ≤ 600) (F : Nat) : ∀ (j m : Nat) (τ : Sg), (∀ i, 0 < i → i < bM B → τ.2.1 20 i = nI (bF B i) ∧ τ.2.1 21 i = nI (opk (bO B i))) → j ≤ d → j < m → ∃ τ', fX0_wayB_55 d F (fun σ => some (0, σ)) m τ (nI j) (nI (P j)) = some (0, τ') ∧ Sm [] [43] τ τ' ∧ (∀ i, i < j → τ'.2.1 43 i = nI (opk (bO B (P (i + 1))))) ∧ ∀ i, j ≤ i → τ'.2.1 43 i = τ.2.1 43 i := by
  intro j
  induction j with
  | zero =>
    intro m τ _ _ hm
    obtain ⟨m, rfl⟩ : ∃ q, m = q + 1 := ⟨m - 1, by omega⟩
    refine ⟨τ, ?_, Sm.rf, fun i hi => by omega, fun _ _ => rfl⟩
    show bX0_wayB_55 d F (fun σ => some (0, σ)) (fX0_wayB_55 d F (fun σ => some (0, σ)) m) τ (nI 0) (nI (P 0)) = _
    unfold bX0_wayB_55
    rw [hP.1, if_pos (show nI 0 ≤ (0 : Int32) by decide)]
  | succ j ih =>
    intro m τ hA hj hm
    obtain ⟨m, rfl⟩ : ∃ q, m = q + 1 := ⟨m - 1, by omega⟩
    obtain ⟨p1, p2⟩ := hP.2.2.2 j (by omega)
    have p3 := hP.2.2.1 (j + 1) hj
    obtain ⟨a1, a2⟩ := hA (P (j + 1)) (by omega) p3
    have ip : ib (nI (P (j + 1))) 1604 := nI_in (by omega) (by omega)
    have cp : (nI (P (j + 1))).toNatClampNeg = P (j + 1) := nI_clamp (by omega)
    have ij : ib (nI j) d := nI_in (by omega) (by omega)
    have cj : (nI j).toNatClampNeg = j := nI_clamp (by omega)
    have s1 : Sm [] [43] τ (sa τ 43 j (nI (opk (bO B (P (j + 1)))))) := Sm.sa (by simp)
    obtain ⟨τ', b1, b2, b3, b4⟩ := ih m (sa τ 43 j (nI (opk (bO B (P (j + 1)))))) (fun i i1 i2 => by rw [s1.2.1 20 (by simp), s1.2.1 21 (by simp)]; exact hA i i1 i2) (by omega) (by omega)
    refine ⟨τ', ?_, s1.tr b2, fun i hi => ?_, fun i hi => ?_⟩
    · have eput : fX5_put d F τ (nI j) (nI (opk (bO B (P (j + 1))))) = some (0, sa τ 43 j (nI (opk (bO B (P (j + 1)))))) := by
        unfold fX5_put ls_
        have q1 : ¬ Int32.ofNat d ≤ nI j := nI_ge (show j < d by omega) (by omega)
        rw [if_neg (nI_pos (by omega)), if_neg q1]
        simp only [if_pos ij, cj]
      show bX0_wayB_55 d F (fun σ => some (0, σ)) (fX0_wayB_55 d F (fun σ => some (0, σ)) m) τ (nI (j + 1)) (nI (P (j + 1))) = _
      unfold bX0_wayB_55
      have c1 : ¬ nI (P (j + 1)) ≤ (0 : Int32) := nI_nle (by omega) (by omega)
      have c2 : ¬ (1604 : Int32) ≤ nI (P (j + 1)) := by rw [show (1604 : Int32) = nI 1604 by decide]; exact nI_ge (by omega) (by omega)
      have c3 : ¬ nI (j + 1) ≤ (0 : Int32) := nI_nle (by omega) (by omega)
      have e20 : (sa τ 43 j (nI (opk (bO B (P (j + 1)))))).2.1 20 = τ.2.1 20 := s1.2.1 20 (by simp)
      simp only [if_neg c1, if_neg c2, if_neg c3, if_pos ip, cp, a2, nI_dn]
      rw [bind_e eput]
      show li_ ((sa τ 43 j (nI (opk (bO B (P (j + 1)))))).2.1 20 (P (j + 1))) _ = _
      rw [e20, a1, p2]
      exact b1
    · by_cases e : i = j
      · rw [e, b4 j (Nat.le_refl j), sa_2, if_pos rfl, upd_at, if_pos rfl]
      · exact b3 i (by omega)
    · rw [b4 i (by omega), sa_2, if_pos rfl, upd_at, if_neg (by omega)]
theorem way45 {B : BB} {g d : Nat} {P : Nat → Nat} (hP : Wy B g d P) (hd : d ≤ 600) {G : Nat} (hG : G ≤ 1604) (hPG : ∀ k, k ≤ d → P k < G) (F : Nat) (k17 : Sg → Int32 → Int32 → Rs) (l2 l3 : Int32) : ∀ (j m : Nat) (σ : Sg), (∀ i, 0 < i → i < G → σ.2.1 38 i = nI (bF B i)) → σ.2.1 38 0 = -1 → σ.1 28 = nI (d - j) → j ≤ d → j < m → ∃ σ', fX7_fewest_45 F k17 m σ l2 l3 (nI (P j)) = fX7_fewest_87 F k17 F σ' l2 (nI d) l3 ∧ Sm [28] [] σ σ' ∧ σ'.1 28 = nI d := by
  intro j
  induction j with
  | zero =>
    intro m σ _ h0 h28 _ hm
    obtain ⟨m, rfl⟩ : ∃ q, m = q + 1 := ⟨m - 1, by omega⟩
    refine ⟨σ, ?_, Sm.rf, h28⟩
    have i0 : ib (nI 0) 262144 := nI_in (by omega) (by omega)
    have c0 : (nI 0).toNatClampNeg = 0 := nI_clamp (by omega)
    show bX7_fewest_45 F k17 _ σ l2 l3 _ = _
    unfold bX7_fewest_45
    rw [hP.1]
    simp only [if_pos i0, c0, if_pos h0]
    rw [h28]; rfl
  | succ j ih =>
    intro m σ h38 h0 h28 hj hm
    obtain ⟨m, rfl⟩ : ∃ q, m = q + 1 := ⟨m - 1, by omega⟩
    obtain ⟨p1, p2⟩ := hP.2.2.2 j (by omega)
    have p3 := hPG (j + 1) hj
    have ip : ib (nI (P (j + 1))) 262144 := nI_in (by omega) (by omega)
    have cp : (nI (P (j + 1))).toNatClampNeg = P (j + 1) := nI_clamp (by omega)
    have a1 := h38 (P (j + 1)) (by omega) p3
    have nn : ¬ nI (P j) = (-1 : Int32) := fun z => by
      have := congrArg Int32.toInt z
      rw [nI_toInt (by omega)] at this
      have e : (-1 : Int32).toInt = -1 := by decide
      rw [e] at this; omega
    have s1 : Sm [28] [] σ (sv σ 28 (nI (d - j))) := Sm.sv (by simp)
    obtain ⟨σ', b1, b2, b3⟩ := ih m (sv σ 28 (nI (d - j))) (fun i i1 i2 => h38 i i1 i2) h0 (by rw [sv_1, if_pos rfl]) (by omega) (by omega)
    refine ⟨σ', ?_, s1.tr b2, b3⟩
    rw [← b1]
    show bX7_fewest_45 F k17 (fX7_fewest_45 F k17 m) σ l2 l3 _ = _
    unfold bX7_fewest_45 ls_ li_
    simp only [if_pos ip, cp, a1, p2, if_neg nn, h28, nI_1, show d - (j + 1) + 1 = d - j by omega, sv_2]
theorem way87 {B : BB} {g d : Nat} {P : Nat → Nat} (hP : Wy B g d P) (hd : d ≤ 600) {G : Nat} (hG : G ≤ 1604) (hPG : ∀ k, k ≤ d → P k < G) (F : Nat) (k17 : Sg → Int32 → Int32 → Rs) (l2 : Int32) : ∀ (j m : Nat) (σ : Sg), (∀ i, 0 < i → i < G → σ.2.1 38 i = nI (bF B i) ∧ σ.2.1 39 i = nI (opm (bO B i))) → σ.2.1 38 0 = -1 → j ≤ d → j < m → ∃ σ', fX7_fewest_87 F k17 m σ l2 (nI j) (nI (P j)) = some (l2, σ') ∧ Sm [] [40] σ σ' ∧ (∀ i, i < j → σ'.2.1 40 i = nI (opm (bO B (P (i + 1))))) ∧ ∀ i, j ≤ i → σ'.2.1 40 i = σ.2.1 40 i := by
  intro j
  induction j with
  | zero =>
    intro m σ _ h0 _ hm
    obtain ⟨m, rfl⟩ : ∃ q, m = q + 1 := ⟨m - 1, by omega⟩
    refine ⟨σ, ?_, Sm.rf, fun i hi => by omega, fun _ _ => rfl⟩
    have i0 : ib (nI 0) 262144 := nI_in (by omega) (by omega)
    have c0 : (nI 0).toNatClampNeg = 0 := nI_clamp (by omega)
    show bX7_fewest_87 F k17 _ σ l2 _ _ = _
    unfold bX7_fewest_87
    rw [hP.1]
    simp only [if_pos i0, c0, if_pos h0]
  | succ j ih =>
    intro m σ hA h0 hj hm
    obtain ⟨m, rfl⟩ : ∃ q, m = q + 1 := ⟨m - 1, by omega⟩
    obtain ⟨p1, p2⟩ := hP.2.2.2 j (by omega)
    have p3 := hPG (j + 1) hj
    have ip : ib (nI (P (j + 1))) 262144 := nI_in (by omega) (by omega)
    have cp : (nI (P (j + 1))).toNatClampNeg = P (j + 1) := nI_clamp (by omega)
    have ij : ib (nI j) 600 := nI_in (by omega) (by omega)
    have cj : (nI j).toNatClampNeg = j := nI_clamp (by omega)
    obtain ⟨a1, a2⟩ := hA (P (j + 1)) (by omega) p3
    have nn : ¬ nI (P j) = (-1 : Int32) := fun z => by
      have := congrArg Int32.toInt z
      rw [nI_toInt (by omega)] at this
      have e : (-1 : Int32).toInt = -1 := by decide
      rw [e] at this; omega
    have s1 : Sm [] [40] σ (sa σ 40 j (nI (opm (bO B (P (j + 1)))))) := Sm.sa (by simp)
    obtain ⟨σ', b1, b2, b3, b4⟩ := ih m (sa σ 40 j (nI (opm (bO B (P (j + 1)))))) (fun i i1 i2 => by rw [s1.2.1 38 (by simp), s1.2.1 39 (by simp)]; exact hA i i1 i2) (by rw [s1.2.1 38 (by simp)]; exact h0) (by omega) (by omega)
    refine ⟨σ', ?_, s1.tr b2, fun i hi => ?_, fun i hi => ?_⟩
    · rw [← b1]
      have e38 : (sa σ 40 j (nI (opm (bO B (P (j + 1)))))).2.1 38 = σ.2.1 38 := s1.2.1 38 (by simp)
      show bX7_fewest_87 F k17 (fX7_fewest_87 F k17 m) σ l2 _ _ = _
      unfold bX7_fewest_87 ls_ li_
      simp only [if_pos ip, cp, a1, a2, p2, if_neg nn, nI_pred, if_pos ij, cj, e38]
    · by_cases e : i = j
      · rw [e, b4 j (Nat.le_refl j), sa_2, if_pos rfl, upd_at, if_pos rfl]
      · exact b3 i (by omega)
    · rw [b4 i (by omega), sa_2, if_pos rfl, upd_at, if_neg (by omega)]
