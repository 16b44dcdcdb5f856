/-! ===== step: witness ===== -/
/-- may it be solved: both sides -/
theorem solv {σ : Sg} {wn : Option Nat} {n : Nat} {E : Gr} {mo : Nat} {row : Nat → Nat} {K : Nat} {S : Nat → Std} {O : Nat → Ord_} (hD : InvD σ wn n E mo row K S O) {F : Nat} (hF : 40 ≤ F) (l : Int32) : (fX6_canBeSolved F σ l = some (0, σ) ∧ fX7_isSmall F σ l = some (0, σ)) ∨ (∃ L, L ≤ 2 ∧ l = nI L ∧ (0 < n ∧ n ≤ 6) ∧ cnt 18 (fun p => (E p).isSome) ≤ 8 ∧ mo < n ∧ fX6_canBeSolved F σ l = some (1, σ)) := by
  obtain ⟨hGC, hGM, hMO, hLY, hL1, hL2, hHI, hXN, hXH, hMH, hPL⟩ := hD
  have hn := hGC.1.1
  have n0 : nI n ≤ (0 : Int32) ↔ n = 0 := by rw [← nI_0, nI_leI (by omega) (by omega)]; omega
  have n6 : (6 : Int32) < nI n ↔ 6 < n := by rw [show (6 : Int32) = nI 6 by decide, nI_ltI (by omega) (by omega)]
  have hc18 := cnt_le 18 (fun p => (E p).isSome)
  have n8 : (8 : Int32) < nI (cnt 18 (fun p => (E p).isSome)) ↔ 8 < cnt 18 (fun p => (E p).isSome) := by rw [show (8 : Int32) = nI 8 by decide, nI_ltI (by omega) (by omega)]
  rcases islaw F σ l with ⟨L, h1, h2, h3⟩ | ⟨h1, h3⟩
  · have l0 : ¬ l < (0 : Int32) := by rw [h2]; exact nI_pos (by omega)
    have l2 : ¬ (2 : Int32) < l := by rw [h2, show (2 : Int32) = nI 2 by decide]; exact nI_nlt h1 (by omega)
    have x1 : fX6_canBeSolved F σ l = if nI n ≤ (0 : Int32) then some (0, σ) else (if (6 : Int32) < nI n then some (0, σ) else (if (8 : Int32) < nI (cnt 18 (fun p => (E p).isSome)) then some (0, σ) else some (1, σ))) := by
      unfold fX6_canBeSolved
      rw [bind_e h3]
      show (if (1 : Int32) = 0 then _ else (if (σ.1 0) ≤ (0 : Int32) then _ else (if (6 : Int32) < (σ.1 0) then _ else Option.bind (fJ6_bitCount_0f7a4 F σ (σ.1 1)) _))) = _
      rw [if_neg (by decide), bind_e (xpas hGC F), hGC.2.1]
    have x2 : fX7_isSmall F σ l = if nI n ≤ (0 : Int32) then some (0, σ) else (if (6 : Int32) < nI n then some (0, σ) else (if (8 : Int32) < nI (cnt 18 (fun p => (E p).isSome)) then some (0, σ) else some (1, σ))) := by
      unfold fX7_isSmall
      rw [if_neg l0, if_neg l2, bind_e (mpas hGM hF), hGM.2.1]
    by_cases a : n = 0
    · left
      rw [x1, x2, if_pos (n0.mpr a)]
      exact ⟨rfl, rfl⟩
    · rw [if_neg (fun z => a (n0.mp z))] at x1 x2
      by_cases b : 6 < n
      · left
        rw [x1, x2, if_pos (n6.mpr b)]
        exact ⟨rfl, rfl⟩
      · rw [if_neg (fun z => b (n6.mp z))] at x1 x2
        by_cases c : 8 < cnt 18 (fun p => (E p).isSome)
        · left
          rw [x1, x2, if_pos (n8.mpr c)]
          exact ⟨rfl, rfl⟩
        · rw [if_neg (fun z => c (n8.mp z))] at x1 x2
          right
          refine ⟨L, h1, h2, ⟨by omega, by omega⟩, by omega, ?_, x1⟩
          have := hMO.2.2.2
          omega
  · left
    constructor
    · unfold fX6_canBeSolved
      rw [bind_e h3]
      rfl
    · unfold fX7_isSmall
      rcases h1 with h1 | h1
      · rw [if_pos h1]
      · by_cases h0 : l < 0
        · rw [if_pos h0]
        · rw [if_neg h0, if_pos h1]
theorem small1 {σ : Sg} {n : Nat} {E : Gr} (hGM : GM σ n E) {F : Nat} (hF : 40 ≤ F) {L : Nat} (hL : L ≤ 2) (hn : 0 < n ∧ n ≤ 6) (hc : cnt 18 (fun p => (E p).isSome) ≤ 8) : fX7_isSmall F σ (nI L) = some (1, σ) := by
  unfold fX7_isSmall
  rw [if_neg (nI_pos (by omega)), if_neg (by rw [show (2 : Int32) = nI 2 by decide]; exact nI_nlt hL (by omega)), bind_e (mpas hGM hF), hGM.2.1]
  rw [if_neg (by rw [← nI_0]; exact nI_ge hn.1 (by omega)), if_neg (by rw [show (6 : Int32) = nI 6 by decide]; exact nI_nlt hn.2 (by omega))]
  show (if (8 : Int32) < nI (cnt 18 (fun p => (E p).isSome)) then _ else _) = _
  rw [if_neg (by rw [show (8 : Int32) = nI 8 by decide]; exact nI_nlt hc (by omega))]
theorem step_witness (σ : Sg) (wn : Option Nat) (l b : Int32) (hI : Inv_ σ wn) : PairOk Inv_ σ wn (fun F σ => fX6_witness F σ l b) (fun F σ => fX7_witness F σ l b) := by
  have hI0 := hI
  obtain ⟨n, E, mo, row, K, S, O, hD⟩ := hI
  obtain ⟨hGC, hGM, hMO, hLY, hL1, hL2, hHI, hXN, hXH, hMH, hPL⟩ := id hD
  obtain ⟨T, hT⟩ : ∃ T : Nat, T = 524288 := ⟨524288, rfl⟩
  obtain ⟨F, hF0⟩ : ∃ F : Nat, T + 3000 ≤ F := ⟨T + 3000, Nat.le_refl _⟩
  have hF : 40 ≤ F := by omega
  rcases solv hD hF l with ⟨x1, x2⟩ | ⟨L, g1, g2, g3, g4, g5, x1⟩
  · refine PairOk.same hI0 (F := F) (r := -1) ?_ ?_
    · show fX6_witness F σ l b = _
      unfold fX6_witness
      rw [bind_e x1]; rfl
    · show fX7_witness F σ l b = _
      unfold fX7_witness
      rw [bind_e x2]; rfl
  · have x2 : fX7_isSmall F σ l = some (1, σ) := by rw [g2]; exact small1 hGM hF g1 g3 g4
    have xw : fX6_witness F σ l b = if b < (1 : Int32) then some (-1, σ) else (if b ≤ (3 : Int32) then ((fX0_finds F σ l b).bind fun q2 => (fun (r2 : Int32) (σ2 : Sg) => if r2 = (0 : Int32) then (some (σ2.1 8, σ2)) else (some ((-2 : Int32), σ2))) q2.1 q2.2) else some (-1, σ)) := by
      unfold fX6_witness
      rw [bind_e x1]
      show (if (1 : Int32) = 0 then _ else _) = _
      rw [if_neg (by decide)]
    have mw : ∀ {τ : Sg}, fX7_isSmall F τ l = some (1, τ) → fX7_witness F τ l b = if b < (1 : Int32) then some (-1, τ) else (if b ≤ (3 : Int32) then ((fX7_finds F τ l b).bind fun q2 => (fun (r2 : Int32) (σ2 : Sg) => if r2 = (-1 : Int32) then (some (σ2.1 26, σ2)) else (some ((-2 : Int32), σ2))) q2.1 q2.2) else some (-1, τ)) := fun {τ} h => by
      unfold fX7_witness
      rw [bind_e h]
      show (if (1 : Int32) = 0 then _ else _) = _
      rw [if_neg (by decide)]
    by_cases h1 : b < (1 : Int32)
    · refine PairOk.same hI0 (F := F) (r := -1) ?_ ?_
      · show fX6_witness F σ l b = _
        rw [xw, if_pos h1]
      · show fX7_witness F σ l b = _
        rw [mw x2, if_pos h1]
    · by_cases h3 : b ≤ (3 : Int32)
      · have hb0 : ¬ b < 0 := fun z => h1 (by
          have e1 : (1 : Int32).toInt = 1 := by decide
          have e0 : (0 : Int32).toInt = 0 := by decide
          rw [Int32.lt_iff_toInt_lt] at z ⊢
          omega)
        obtain ⟨k, hk1, hk2⟩ := nI_of2 (M := 3) (n := 3) (by decide) hb0 h3
        have hk0 : 1 ≤ k := Classical.byContradiction fun z => h1 (by
          have : k = 0 := by omega
          rw [hk2, this]; decide)
        obtain ⟨X, hX⟩ : ∃ X : CX, X = (L, k, mo, n, E) := ⟨_, rfl⟩
        have cl : cL X = L := by rw [hX]; rfl
        have ck : cK X = k := by rw [hX]; rfl
        have cm : cM X = mo := by rw [hX]; rfl
        have cn : cN X = n := by rw [hX]; rfl
        have ce : cE X = E := by rw [hX]; rfl
        have X8 : CX8 X := by
          refine ⟨⟨by rw [cl]; exact g1, by rw [ck]; exact ⟨hk0, hk1⟩, by rw [cm, cn]; exact g5, by rw [cn]; exact g3, by rw [cn, ce]; exact hGC.1⟩, by rw [ce]; exact g4⟩
        obtain ⟨r, σ1, H, a1, a2, a3, a4, a5⟩ := xfinds X8.1 (σ := σ) (by rw [cn, ce]; exact hGC) (by rw [cm]; exact hMO.1) (F := F) (by omega)
        have hD1 := hD.scr a2 (by simp) (by simp)
        have G1 : GM σ1 n E := hGM.sm a2 (by simp) (by simp) (by simp) (by simp)
        obtain ⟨r', σ2, H', b1, b2, b3, b4⟩ := mfinds hT X8 (σ := σ1) (by rw [cn, ce]; exact G1) (by rw [cm, a2.1 22 (by simp)]; exact hMO.2.1) (F := F) (by omega)
        rw [cl, ck, ← g2, ← hk2] at a1 b1
        have hH := a3.uniq b3
        rw [← hH] at b4
        have hs : Sm [8, 9, 10, 11, 12, 13, 14, 15, 16, 17, 23, 24, 26, 27] [18, 19, 20, 21, 29, 36, 37, 38, 39] σ σ2 := (a2.up (by simp) (by simp)).tr (b2.up (by simp) (by simp))
        have hI2 : Inv_ σ2 wn := ⟨n, E, mo, row, K, S, O, hD.scr hs (by simp) (by simp)⟩
        have x2' : fX7_isSmall F σ1 l = some (1, σ1) := by rw [g2]; exact small1 G1 hF g1 g3 g4
        have hB := bst_ok X8.1 H (fun g hg => (a3.1 g hg).1)
        have hM := hB.most X8.1
        rcases a5 with ⟨p1, p2⟩ | ⟨p1, p2⟩
        · refine ⟨F, -2, σ1, σ2, wn, ?_, ?_, hI2, hs.keep (by simp)⟩
          · show fX6_witness F σ l b = _
            rw [xw, if_neg h1, if_pos h3, bind_e a1]
            show (if r = (0 : Int32) then _ else _) = _
            rw [if_neg (show ¬ r = 0 by rw [p1]; decide)]
          · show fX7_witness F σ1 l b = _
            rw [mw x2', if_neg h1, if_pos h3, bind_e b1]
            show (if r' = (-1 : Int32) then _ else _) = _
            rcases b4 with ⟨-, q2, -⟩ | ⟨D, q1, q2⟩
            · exact absurd p2 q2
            · have hDM := q2.1
              rw [if_neg (fun z => by
                rw [q1.2.2.1] at z
                have := congrArg Int32.toInt z
                rw [nI_toInt (by omega)] at this
                have e : (-1 : Int32).toInt = -1 := by decide
                rw [e] at this; omega)]
        · refine ⟨F, nI (bM (bst X H)), σ1, σ2, wn, ?_, ?_, hI2, hs.keep (by simp)⟩
          · show fX6_witness F σ l b = _
            rw [xw, if_neg h1, if_pos h3, bind_e a1]
            show (if r = (0 : Int32) then some (σ1.1 8, σ1) else _) = _
            rw [if_pos p1, a4.2.2.1]
          · show fX7_witness F σ1 l b = _
            rw [mw x2', if_neg h1, if_pos h3, bind_e b1]
            show (if r' = (-1 : Int32) then some (σ2.1 26, σ2) else _) = _
            rcases b4 with ⟨q1, -, q3⟩ | ⟨D, q1, q2⟩
            · rw [if_pos q1, q3.2.2.1]
            · refine absurd ?_ p2
              obtain ⟨-, w1, -, w2, -⟩ := q1
              exact ⟨bM D - 1, Nat.lt_of_lt_of_le (by omega) q2.1, by rw [(q2.2 (bM D - 1) (by omega)).1]; exact w2⟩
      · refine PairOk.same hI0 (F := F) (r := -1) ?_ ?_
        · show fX6_witness F σ l b = _
          rw [xw, if_neg h1, if_neg h3]
        · show fX7_witness F σ l b = _
          rw [mw x2, if_neg h1, if_neg h3]
