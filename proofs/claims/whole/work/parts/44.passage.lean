/-! ===== passage, drop ===== -/
def setE (E : Gr) (p : Nat) (v : Option (Nat × Nat)) : Gr := fun q => if q = p then v else E q
theorem setE_s (E : Gr) (p : Nat) (v : Option (Nat × Nat)) : setE E p v p = v := if_pos rfl
theorem setE_o (E : Gr) {p q : Nat} (v : Option (Nat × Nat)) (h : q ≠ p) : setE E p v q = E q := if_neg h
theorem n18' {l : Int32} {p : Nat} (hp : p < 2 ^ 31) (h : l = nI p) : (18 : Int32) ≤ l ↔ 18 ≤ p := by
  rw [h, show (18 : Int32) = nI 18 by decide, nI_leI (by omega) hp]
theorem hasPg {σ : Sg} {E : Gr} (hd : ∀ p, bt (σ.1 1) p = (E p).isSome) (F : Nat) (l : Int32) : (∃ p, p < 18 ∧ l = nI p ∧ (E p).isSome = true ∧ fX1_hasPassage F σ l = some (1, σ)) ∨ ((∀ p, p < 18 → (E p).isSome = true → l ≠ nI p) ∧ fX1_hasPassage F σ l = some (0, σ)) := by
  by_cases h1 : l < 0
  · refine Or.inr ⟨fun c hc _ e => nI_pos (by omega) (e ▸ h1), ?_⟩
    unfold fX1_hasPassage; rw [if_pos h1]
  · obtain ⟨j, hj, rfl⟩ := nI_of h1
    by_cases h2 : j < 18
    · have e := hasP hd F h2
      by_cases h3 : (E j).isSome = true
      · rw [if_pos h3] at e; exact Or.inl ⟨j, h2, rfl, h3, e⟩
      · rw [if_neg h3] at e
        refine Or.inr ⟨fun p hp h4 h5 => h3 ?_, e⟩
        rw [nI_eq hj (by omega)] at h5; rw [h5]; exact h4
    · refine Or.inr ⟨fun p hp _ h5 => h2 (by rw [nI_eq hj (by omega)] at h5; omega), ?_⟩
      unfold fX1_hasPassage; rw [if_neg h1, if_pos ((n18' hj rfl).mpr (by omega))]
theorem isPg {σ : Sg} {n : Nat} {E : Gr} (hG : GM σ n E) (F : Nat) (l : Int32) : (∃ p, p < 18 ∧ l = nI p ∧ (E p).isSome = true ∧ fX7_isPassage F σ l = some (1, σ)) ∨ ((∀ p, p < 18 → (E p).isSome = true → l ≠ nI p) ∧ fX7_isPassage F σ l = some (0, σ)) := by
  unfold fX7_isPassage
  by_cases h1 : l < 0
  · rw [if_pos h1]; exact Or.inr ⟨fun c hc _ e => nI_pos (by omega) (e ▸ h1), rfl⟩
  · obtain ⟨j, hj, rfl⟩ := nI_of h1
    rw [if_neg h1]
    by_cases h2 : j < 18
    · have hcj : (nI j).toNatClampNeg = j := nI_clamp hj
      simp only [if_neg (n18 h2), if_pos (nI_in h2 (show 18 < 2 ^ 31 by omega)), hcj, hG.2.2.1 j h2]
      by_cases h3 : (E j).isSome = true
      · rw [if_pos h3, if_neg (by decide)]; exact Or.inl ⟨j, h2, rfl, h3, rfl⟩
      · rw [if_neg h3, if_pos rfl]
        refine Or.inr ⟨fun p hp h4 h5 => h3 ?_, rfl⟩
        rw [nI_eq hj (by omega)] at h5; rw [h5]; exact h4
    · rw [if_pos ((n18' hj rfl).mpr (by omega))]
      exact Or.inr ⟨fun p hp _ h5 => h2 (by rw [nI_eq hj (by omega)] at h5; omega), rfl⟩
theorem low_loop {σ : Sg} {E : Gr} (hd : ∀ p, bt (σ.1 1) p = (E p).isSome) (F : Nat) : ∀ (m p : Nat), p ≤ 18 → 18 < p + m → (∃ q, p ≤ q ∧ q < 18 ∧ E q = none ∧ (∀ r, p ≤ r → r < q → (E r).isSome = true) ∧ fX1_lowestFree_2 F m σ (nI p) = some (nI q, σ)) ∨ ((∀ r, p ≤ r → r < 18 → (E r).isSome = true) ∧ fX1_lowestFree_2 F m σ (nI p) = some (-1, σ)) := by
  intro m
  induction m with
  | zero => intro p h1 h2; omega
  | succ m ih =>
    intro p h1 h2
    have e : fX1_lowestFree_2 F (m + 1) σ (nI p) = bX1_lowestFree_2 F (fX1_lowestFree_2 F m) σ (nI p) := rfl
    rw [e]
    unfold bX1_lowestFree_2
    by_cases hp : p = 18
    · subst hp
      rw [if_pos (by decide)]
      exact Or.inr ⟨fun r h3 h4 => by omega, rfl⟩
    · rw [if_neg (n18 (by omega)), nI_1]
      cases hE : (E p).isSome with
      | false =>
        rw [if_pos ((b_t0 (by omega)).mpr (by rw [hd]; exact hE))]
        exact Or.inl ⟨p, Nat.le_refl _, by omega, by simpa using hE, fun r h3 h4 => by omega, rfl⟩
      | true =>
        rw [if_neg (fun z => by have h5 := (b_t0 (by omega)).mp z; rw [hd p, hE] at h5; cases h5)]
        rcases ih (p + 1) (by omega) (by omega) with ⟨q, q1, q2, q3, q4, q5⟩ | ⟨q1, q2⟩
        · refine Or.inl ⟨q, by omega, q2, q3, fun r h3 h4 => ?_, q5⟩
          by_cases hr : r = p
          · rw [hr]; exact hE
          · exact q4 r (by omega) h4
        · refine Or.inr ⟨fun r h3 h4 => ?_, q2⟩
          by_cases hr : r = p
          · rw [hr]; exact hE
          · exact q1 r (by omega) h4
theorem mpa_loop {σ : Sg} {n : Nat} {E : Gr} (hG : GM σ n E) (F : Nat) (a b : Int32) : ∀ (m p : Nat), p ≤ 18 → 18 < p + m → ∃ q, p ≤ q ∧ q ≤ 18 ∧ (q < 18 → E q = none) ∧ (∀ r, p ≤ r → r < q → (E r).isSome = true) ∧ fX7_passage_25 F m σ a b (nI p) = bX7_passage_47 F σ a b (nI q) := by
  intro m
  induction m with
  | zero => intro p h1 h2; omega
  | succ m ih =>
    intro p h1 h2
    show ∃ q, p ≤ q ∧ q ≤ 18 ∧ (q < 18 → E q = none) ∧ (∀ r, p ≤ r → r < q → (E r).isSome = true) ∧ bX7_passage_25 F (fX7_passage_25 F m) σ a b (nI p) = bX7_passage_47 F σ a b (nI q)
    unfold bX7_passage_25 li_
    by_cases hp : p = 18
    · subst hp
      rw [if_pos (by decide)]
      exact ⟨18, Nat.le_refl _, Nat.le_refl _, fun h => by omega, fun r h3 h4 => by omega, rfl⟩
    · have hcp : (nI p).toNatClampNeg = p := nI_clamp (by omega)
      simp only [if_neg (n18 (show p < 18 by omega)), if_pos (nI_in (show p < 18 by omega) (show 18 < 2 ^ 31 by omega)), hcp, hG.2.2.1 p (by omega), nI_1]
      cases hE : (E p).isSome with
      | false =>
        rw [if_pos (by decide)]
        exact ⟨p, Nat.le_refl _, by omega, fun _ => by simpa using hE, fun r h3 h4 => by omega, rfl⟩
      | true =>
        rw [if_neg (by decide)]
        obtain ⟨q, q1, q2, q3, q4, q5⟩ := ih (p + 1) (by omega) (by omega)
        refine ⟨q, by omega, q2, q3, fun r h3 h4 => ?_, q5⟩
        by_cases hr : r = p
        · rw [hr]; exact hE
        · exact q4 r (by omega) h4
/-- the end of passage and drop: the ground is another, class then reference -/
theorem inv_E {σ σ1 σ3 σ4 τ : Sg} {wn : Option Nat} {n : Nat} {E E' : Gr} {mo : Nat} {row : Nat → Nat} {K : Nat} {S : Nat → Std} {O : Nat → Ord_} {F : Nat} (hF : 40 ≤ F) (hI : InvD σ wn n E mo row K S O) (hs1 : Sm [1] [2, 3, 4, 5] σ σ1) (g1 : GC σ1 n E') (e3 : fX6_forgetSearchAndPlan F σ1 = some (0, σ3)) (hs4 : Sm [] [25, 26, 27] σ3 σ4) (g4 : GM σ4 n E') (e6 : fX7_changes F σ4 = some (0, τ)) : Inv_ τ none ∧ τ.2.2 = .null := by
  obtain ⟨hGC, hGM, hMO, hLY, hL1, hL2, hHI, hXN, hXH, hMH, hPL⟩ := hI
  obtain ⟨k1, k2, k3, k4, k5, k6, k7, k8, k9⟩ := newGround hF g1 e3 ((hs1.1 2 (by simp)).trans hMO.1) (hL1.sm hs1 (by simp))
  obtain ⟨τ', e, s6, h6, h28⟩ := mcha g4 hF (fun _ => (0, 0, 0))
  rw [e6] at e; cases e
  refine inv_new k1 k2 hMO.2.2 hLY k3 k4 k5 k6 k7 (hs4.up (by simp) (fun k hk => by simp at hk; simp; omega)) g4 ?_ ?_ s6 h6 h28
  · rw [hs4.1 22 (by simp), k8 22 (by simp), hs1.1 22 (by simp)]; exact hMO.2.1
  · intro i hi
    rw [hs4.2.1 28 (by simp), k9 28 (by simp), hs1.2.1 28 (by simp)]; exact hL2 i hi
theorem step_drop (σ : Sg) (wn : Option Nat) (l : Int32) (hI : Inv_ σ wn) : PairOk Inv_ σ wn (fun F σ => fX6_drop F σ l) (fun F σ => fX7_drop F σ l) := by
  obtain ⟨n, E, mo, row, K, S, O, hD⟩ := hI
  obtain ⟨hGC, hGM, hMO, hLY, hL1, hL2, hHI, hXN, hXH, hMH, hPL⟩ := id hD
  obtain ⟨F, hF⟩ : ∃ F : Nat, 40 ≤ F := ⟨40, Nat.le_refl _⟩
  rcases hasPg hGC.2.2.1 F l with ⟨p, hp, rfl, hE, e1⟩ | ⟨hno, e1⟩
  · have hg : GrOk n (setE E p none) := ⟨hGC.1.1, fun q a b h => by
      by_cases hq : q = p
      · rw [hq, setE_s] at h; cases h
      · rw [setE_o E none hq] at h; exact hGC.1.2 q a b h⟩
    have hcp : (nI p).toNatClampNeg = p := nI_clamp (by omega)
    have s0 : Sm [1] [2, 3, 4, 5] σ (sv σ 1 (σ.1 1 &&& (((1 : Int32) <<< (nI p &&& 31)) ^^^ (-1)))) := Sm.sv (by simp)
    have hGP : GP (sv σ 1 (σ.1 1 &&& (((1 : Int32) <<< (nI p &&& 31)) ^^^ (-1)))) n (setE E p none) := by
      refine ⟨hg, hGC.2.1, fun q => ?_, fun q a b h => ?_⟩
      · rw [sv_1, if_pos rfl]
        have h1 := b_clr (n := p) (by omega) (σ.1 1) q
        by_cases hq : q = p
        · have e : (setE E p none q).isSome = false := by rw [hq, setE_s]; rfl
          rw [e]
          cases hb : bt (σ.1 1 &&& (((1 : Int32) <<< (nI p &&& 31)) ^^^ (-1))) q with
          | false => rfl
          | true => exact absurd hq (h1.mp hb).2
        · rw [setE_o E none hq, ← hGC.2.2.1 q]
          cases hb : bt (σ.1 1) q with
          | true => exact h1.mpr ⟨hb, hq⟩
          | false =>
            cases hc : bt (σ.1 1 &&& (((1 : Int32) <<< (nI p &&& 31)) ^^^ (-1))) q with
            | false => rfl
            | true => rw [(h1.mp hc).1] at hb; cases hb
      · by_cases hq : q = p
        · rw [hq, setE_s] at h; cases h
        · rw [setE_o E none hq] at h; exact hGC.2.2.2.1 q a b h
    obtain ⟨σ1, e2, s1, g1⟩ := lnk hGP hF
    have hs1 := s0.tr (s1.up (by simp) (fun k hk => by simp at hk; simp; omega))
    obtain ⟨σ3, e3, x1, x2, -⟩ := xfor g1.2.1 hg.1 hF
    have hGM3 : GM σ3 n E := by
      obtain ⟨a1, a2, a3, a4⟩ := hGM
      refine ⟨a1, ?_, fun q hq => ?_, fun q a b h => ?_⟩
      · rw [x1 21 (by simp), hs1.1 21 (by simp)]; exact a2
      · rw [x2 27 (by simp), hs1.2.1 27 (by simp)]; exact a3 q hq
      · rw [x2 25 (by simp), x2 26 (by simp), hs1.2.1 25 (by simp), hs1.2.1 26 (by simp)]; exact a4 q a b h
    have s4 : Sm [] [25, 26, 27] σ3 (sa σ3 27 p 0) := Sm.sa (by simp)
    have g4 : GM (sa σ3 27 p 0) n (setE E p none) := by
      obtain ⟨a1, a2, a3, a4⟩ := hGM3
      refine ⟨hg, a2, fun q hq => ?_, fun q a b h => ?_⟩
      · rw [sa_2, if_pos rfl, upd_at]
        by_cases hqp : q = p
        · rw [if_pos hqp, hqp, setE_s]; rfl
        · rw [if_neg hqp, setE_o E none hqp]; exact a3 q hq
      · by_cases hqp : q = p
        · rw [hqp, setE_s] at h; cases h
        · rw [setE_o E none hqp] at h; exact a4 q a b h
    obtain ⟨τ, e6, -⟩ := mcha g4 hF (fun _ => (0, 0, 0))
    obtain ⟨hInv, hnull⟩ := inv_E hF hD hs1 g1 e3 s4 g4 e6
    refine ⟨F, 1, σ3, τ, none, ?_, ?_, hInv, Or.inr ⟨rfl, hnull⟩⟩
    · show fX6_drop F σ (nI p) = _
      unfold fX6_drop fX1_fillUp ls_
      rw [e1]
      simp only [Option.bind_some, if_neg (show ¬ (1 : Int32) = 0 by decide)]
      rw [e2]
      simp only [Option.bind_some]
      rw [e3]; rfl
    · show fX7_drop F σ3 (nI p) = _
      unfold fX7_drop ls_
      rcases isPg hGM3 F (nI p) with ⟨p2, -, -, -, e7⟩ | ⟨hno, -⟩
      · rw [e7]
        simp only [Option.bind_some, if_neg (show ¬ (1 : Int32) = 0 by decide), if_pos (nI_in hp (show 18 < 2 ^ 31 by omega)), hcp]
        rw [e6]; rfl
      · exact absurd rfl (hno p hp hE)
  · refine ⟨F, 0, σ, σ, wn, ?_, ?_, ⟨n, E, mo, row, K, S, O, hD⟩, (Sm.rf (vs := []) (as := [])).keep (by simp)⟩
    · show fX6_drop F σ l = _
      unfold fX6_drop; rw [e1]; rfl
    · show fX7_drop F σ l = _
      unfold fX7_drop
      rcases isPg hGM F l with ⟨p, hp, h3, h4, -⟩ | ⟨-, e2⟩
      · exact absurd h3 (hno p hp h4)
      · rw [e2]; rfl
theorem mnx {a b : Nat} (ha : a < 2 ^ 31) (hb : b < 2 ^ 31) : mn_ (nI a) (nI b) = nI (if b < a then b else a) ∧ mx_ (nI a) (nI b) = nI (if a < b then b else a) := by
  unfold mn_ mx_
  constructor
  · by_cases h : b < a
    · rw [if_pos ((nI_ltI hb ha).mpr h), if_pos h]
    · rw [if_neg (fun z => h ((nI_ltI hb ha).mp z)), if_neg h]
  · by_cases h : a < b
    · rw [if_pos ((nI_ltI ha hb).mpr h), if_pos h]
    · rw [if_neg (fun z => h ((nI_ltI ha hb).mp z)), if_neg h]
theorem step_passage (σ : Sg) (wn : Option Nat) (l m : Int32) (hI : Inv_ σ wn) : PairOk Inv_ σ wn (fun F σ => fX6_passage F σ l m) (fun F σ => fX7_passage F σ l m) := by
  obtain ⟨n, E, mo, row, K, S, O, hD⟩ := hI
  obtain ⟨hGC, hGM, hMO, hLY, hL1, hL2, hHI, hXN, hXH, hMH, hPL⟩ := id hD
  obtain ⟨F, hF⟩ : ∃ F : Nat, 40 ≤ F := ⟨40, Nat.le_refl _⟩
  have hn := hGC.1.1
  have hlow := low_loop hGC.2.2.1 F F 0 (by omega) (by omega)
  rw [nI_0] at hlow
  have hex : ∃ r, fX1_lowestFree F σ = some (r, σ) := by
    rcases hlow with ⟨q, -, -, -, -, e⟩ | ⟨-, e⟩
    · exact ⟨_, e⟩
    · exact ⟨_, e⟩
  obtain ⟨r, er⟩ := hex
  have same : fX6_passage F σ l m = some (-1, σ) → fX7_passage F σ l m = some (-1, σ) → PairOk Inv_ σ wn (fun F σ => fX6_passage F σ l m) (fun F σ => fX7_passage F σ l m) := fun e1 e2 => ⟨F, -1, σ, σ, wn, e1, e2, ⟨n, E, mo, row, K, S, O, hD⟩, (Sm.rf (vs := []) (as := [])).keep (by simp)⟩
  by_cases hlm : l = m
  · refine same ?_ ?_
    · unfold fX6_passage; rw [er]; simp only [Option.bind_some, if_pos hlm]
    · unfold fX7_passage
      rcases isC hGM F l with ⟨c, -, -, e1⟩ | ⟨-, e1⟩
      · rw [e1]; simp only [Option.bind_some, if_neg (show ¬ (1 : Int32) = 0 by decide)]
        rcases isC hGM F m with ⟨c2, -, -, e2⟩ | ⟨-, e2⟩
        · rw [e2]; simp only [Option.bind_some, if_neg (show ¬ (1 : Int32) = 0 by decide), if_pos hlm]
        · rw [e2]; rfl
      · rw [e1]; rfl
  · rcases hasC hGC.gn F l with ⟨a, ha, rfl, e1⟩ | ⟨hno, e1⟩
    · rcases hasC hGC.gn F m with ⟨b, hb, rfl, e2⟩ | ⟨hno, e2⟩
      · have hab : a ≠ b := fun z => hlm (by rw [z])
        have ea : fX7_isCave F σ (nI a) = some (1, σ) := by
          rcases isC hGM F (nI a) with ⟨c, -, -, e⟩ | ⟨hno, -⟩
          · exact e
          · exact absurd rfl (hno a ha)
        rcases hlow with ⟨p, -, hp, hEp, hpre, e3⟩ | ⟨hfull, e3⟩
        · -- a free number
          obtain ⟨mn, mx⟩ := mnx (a := a) (b := b) (by omega) (by omega)
          have hg : GrOk n (setE E p (some (if b < a then b else a, if a < b then b else a))) := ⟨hn, fun q x y h => by
            by_cases hq : q = p
            · rw [hq, setE_s] at h; cases h
              refine ⟨by omega, ?_, ?_⟩
              · split <;> split <;> omega
              · split <;> omega
            · rw [setE_o E _ hq] at h; exact hGC.1.2 q x y h⟩
          have hcp : (nI p).toNatClampNeg = p := nI_clamp (by omega)
          have i18 : ib (nI p) 18 := nI_in hp (by omega)
          generalize hσa : sv (sa (sa σ 2 p (mn_ (nI a) (nI b))) 3 p (mx_ (nI a) (nI b))) 1 (σ.1 1 ||| ((1 : Int32) <<< (nI p &&& 31))) = σa
          have s0 : Sm [1] [2, 3, 4, 5] σ σa := by rw [← hσa]; exact ((Sm.sa (by simp)).tr (Sm.sa (by simp))).tr (Sm.sv (by simp))
          have hGP : GP σa n (setE E p (some (if b < a then b else a, if a < b then b else a))) := by
            refine ⟨hg, (s0.1 0 (by simp)).trans hGC.2.1, fun q => ?_, fun q x y h => ?_⟩
            · rw [← hσa, sv_1, if_pos rfl, b_or, b_bit (by omega), hGC.2.2.1 q]
              by_cases hq : q = p
              · rw [hq, setE_s]; simp
              · rw [setE_o E _ hq]; simp [hq]
            · have e2 : σa.2.1 2 q = if q = p then mn_ (nI a) (nI b) else σ.2.1 2 q := by rw [← hσa]; rfl
              have e3 : σa.2.1 3 q = if q = p then mx_ (nI a) (nI b) else σ.2.1 3 q := by rw [← hσa]; rfl
              rw [e2, e3]
              by_cases hq : q = p
              · rw [hq, setE_s] at h; cases h
                rw [if_pos hq, if_pos hq]; exact ⟨mn, mx⟩
              · rw [setE_o E _ hq] at h
                rw [if_neg hq, if_neg hq]; exact hGC.2.2.2.1 q x y h
          obtain ⟨σ1, e4, s1, g1⟩ := lnk hGP hF
          have hs1 := s0.tr (s1.up (by simp) (fun k hk => by simp at hk; simp; omega))
          obtain ⟨σ3, e5, x1, x2, -⟩ := xfor g1.2.1 hg.1 hF
          have hGM3 : GM σ3 n E := by
            obtain ⟨a1, a2, a3, a4⟩ := hGM
            refine ⟨a1, ?_, fun q hq => ?_, fun q a b h => ?_⟩
            · rw [x1 21 (by simp), hs1.1 21 (by simp)]; exact a2
            · rw [x2 27 (by simp), hs1.2.1 27 (by simp)]; exact a3 q hq
            · rw [x2 25 (by simp), x2 26 (by simp), hs1.2.1 25 (by simp), hs1.2.1 26 (by simp)]; exact a4 q a b h
          generalize hσb : sa (sa (sa σ3 27 p 1) 25 p (nI (if b < a then b else a))) 26 p (nI (if a < b then b else a)) = σb
          have s4 : Sm [] [25, 26, 27] σ3 σb := by rw [← hσb]; exact ((Sm.sa (by simp)).tr (Sm.sa (by simp))).tr (Sm.sa (by simp))
          have g4 : GM σb n (setE E p (some (if b < a then b else a, if a < b then b else a))) := by
            obtain ⟨a1, a2, a3, a4⟩ := hGM3
            refine ⟨hg, (s4.1 21 (by simp)).trans a2, fun q hq => ?_, fun q x y h => ?_⟩
            · have e2 : σb.2.1 27 q = if q = p then 1 else σ3.2.1 27 q := by rw [← hσb]; rfl
              rw [e2]
              by_cases hqp : q = p
              · rw [if_pos hqp, hqp, setE_s]; rfl
              · rw [if_neg hqp, setE_o E _ hqp]; exact a3 q hq
            · have e2 : σb.2.1 25 q = if q = p then nI (if b < a then b else a) else σ3.2.1 25 q := by rw [← hσb]; rfl
              have e3 : σb.2.1 26 q = if q = p then nI (if a < b then b else a) else σ3.2.1 26 q := by rw [← hσb]; rfl
              rw [e2, e3]
              by_cases hqp : q = p
              · rw [hqp, setE_s] at h; cases h
                rw [if_pos hqp, if_pos hqp]; exact ⟨rfl, rfl⟩
              · rw [setE_o E _ hqp] at h
                rw [if_neg hqp, if_neg hqp]; exact a4 q x y h
          obtain ⟨τ, e6, -⟩ := mcha g4 hF (fun _ => (0, 0, 0))
          obtain ⟨hInv, hnull⟩ := inv_E hF hD hs1 g1 e5 s4 g4 e6
          refine ⟨F, nI p, σ3, τ, none, ?_, ?_, hInv, Or.inr ⟨rfl, hnull⟩⟩
          · show fX6_passage F σ (nI a) (nI b) = _
            have e3' : fX1_lowestFree F σ = some (nI p, σ) := e3
            unfold fX6_passage fX1_dig ls_
            rw [e3']
            simp only [Option.bind_some, if_neg hlm]
            rw [e1]
            simp only [Option.bind_some, if_neg (show ¬ (1 : Int32) = 0 by decide)]
            rw [e2]
            simp only [Option.bind_some, if_neg (show ¬ (1 : Int32) = 0 by decide), if_neg (show ¬ nI p = -1 from fun z => nI_pos (n := p) (by omega) (by rw [z]; decide)), if_pos i18, hcp]
            rw [show sv (sa (sa σ 2 p (mn_ (nI a) (nI b))) 3 p (mx_ (nI a) (nI b))) 1 ((sa (sa σ 2 p (mn_ (nI a) (nI b))) 3 p (mx_ (nI a) (nI b))).1 1 ||| ((1 : Int32) <<< (nI p &&& 31))) = σa from hσa, e4]
            simp only [Option.bind_some]
            rw [e5]; rfl
          · show fX7_passage F σ3 (nI a) (nI b) = _
            have ea3 : fX7_isCave F σ3 (nI a) = some (1, σ3) := by
              rcases isC hGM3 F (nI a) with ⟨c, -, -, e⟩ | ⟨hno, -⟩
              · exact e
              · exact absurd rfl (hno a ha)
            have eb3 : fX7_isCave F σ3 (nI b) = some (1, σ3) := by
              rcases isC hGM3 F (nI b) with ⟨c, -, -, e⟩ | ⟨hno, -⟩
              · exact e
              · exact absurd rfl (hno b hb)
            obtain ⟨q, -, q2, q3, q4, q5⟩ := mpa_loop hGM3 F (nI a) (nI b) F 0 (by omega) (by omega)
            rw [nI_0] at q5
            have hqp : q = p := by
              rcases Nat.lt_trichotomy q p with h | h | h
              · have := hpre q (by omega) h; rw [q3 (by omega)] at this; cases this
              · exact h
              · have := q4 p (by omega) h; rw [hEp] at this; cases this
            subst hqp
            unfold fX7_passage
            rw [ea3]
            simp only [Option.bind_some, if_neg (show ¬ (1 : Int32) = 0 by decide)]
            rw [eb3]
            simp only [Option.bind_some, if_neg (show ¬ (1 : Int32) = 0 by decide), if_neg hlm]
            rw [q5]
            unfold bX7_passage_47 ls_
            simp only [if_neg (show ¬ nI q = 18 from fun z => by rw [show (18 : Int32) = nI 18 by decide, nI_eq (by omega) (by omega)] at z; omega), if_pos i18, hcp]
            by_cases h : b ≤ a
            · have hba : b < a := by omega
              rw [if_pos (nI_le h (by omega)), if_pos (nI_le h (by omega))]
              rw [if_pos hba, if_neg (show ¬ a < b by omega)] at hσb
              rw [hσb, e6]; rfl
            · have hba : a < b := by omega
              rw [if_neg (nI_ge hba (by omega)), if_neg (nI_ge hba (by omega))]
              rw [if_neg (show ¬ b < a by omega), if_pos hba] at hσb
              rw [hσb, e6]; rfl
        · -- no free number
          refine same ?_ ?_
          · have e3' : fX1_lowestFree F σ = some (-1, σ) := e3
            unfold fX6_passage
            rw [e3']
            simp only [Option.bind_some, if_neg hlm]
            rw [e1]
            simp only [Option.bind_some, if_neg (show ¬ (1 : Int32) = 0 by decide)]
            rw [e2]
            simp only [Option.bind_some, if_neg (show ¬ (1 : Int32) = 0 by decide), if_true]
          · have eb : fX7_isCave F σ (nI b) = some (1, σ) := by
              rcases isC hGM F (nI b) with ⟨c, -, -, e⟩ | ⟨hno, -⟩
              · exact e
              · exact absurd rfl (hno b hb)
            obtain ⟨q, -, q2, q3, q4, q5⟩ := mpa_loop hGM F (nI a) (nI b) F 0 (by omega) (by omega)
            rw [nI_0] at q5
            have hq : q = 18 := by
              by_cases h : q < 18
              · have := hfull q (by omega) h; rw [q3 h] at this; cases this
              · omega
            subst hq
            unfold fX7_passage
            rw [ea]
            simp only [Option.bind_some, if_neg (show ¬ (1 : Int32) = 0 by decide)]
            rw [eb]
            simp only [Option.bind_some, if_neg (show ¬ (1 : Int32) = 0 by decide), if_neg hlm]
            rw [q5]
            unfold bX7_passage_47
            rw [if_pos (by decide)]
      · refine same ?_ ?_
        · unfold fX6_passage
          rw [er]; simp only [Option.bind_some, if_neg hlm]
          rw [e1]; simp only [Option.bind_some, if_neg (show ¬ (1 : Int32) = 0 by decide)]
          rw [e2]; rfl
        · unfold fX7_passage
          rcases isC hGM F (nI a) with ⟨c, -, -, e3⟩ | ⟨-, e3⟩
          · rw [e3]; simp only [Option.bind_some, if_neg (show ¬ (1 : Int32) = 0 by decide)]
            rcases isC hGM F m with ⟨c2, h2, h3, -⟩ | ⟨-, e4⟩
            · exact absurd h3 (hno c2 h2)
            · rw [e4]; rfl
          · rw [e3]; rfl
    · refine same ?_ ?_
      · unfold fX6_passage
        rw [er]; simp only [Option.bind_some, if_neg hlm]
        rw [e1]; rfl
      · unfold fX7_passage
        rcases isC hGM F l with ⟨c2, h2, h3, -⟩ | ⟨-, e4⟩
        · exact absurd h3 (hno c2 h2)
        · rw [e4]; rfl
