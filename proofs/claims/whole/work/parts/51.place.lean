theorem step_place (σ : Sg) (wn : Option Nat) (l m : Int32) (hI : Inv_ σ wn) : PairOk Inv_ σ wn (fun F σ => fX6_place F σ l m) (fun F σ => fX7_place F σ l m) := by
  obtain ⟨n, E, mo, row, K, S, O, hD⟩ := hI
  obtain ⟨hGC, hGM, hMO, hLY, hL1, hL2, hHI, hXN, hXH, hMH, hPL⟩ := id hD
  obtain ⟨F, hF⟩ : ∃ F : Nat, 40 ≤ F := ⟨40, Nat.le_refl _⟩
  have hn := hGC.1.1
  have same : fX6_place F σ l m = some (0, σ) → fX7_place F σ l m = some (0, σ) → PairOk Inv_ σ wn (fun F σ => fX6_place F σ l m) (fun F σ => fX7_place F σ l m) := fun e1 e2 => ⟨F, 0, σ, σ, wn, e1, e2, ⟨n, E, mo, row, K, S, O, hD⟩, (Sm.rf (vs := []) (as := [])).keep (by simp)⟩
  have mout : (∀ c, c < n → l ≠ nI c) → fX7_place F σ l m = some (0, σ) := by
    intro hno
    unfold fX7_place
    by_cases h1 : l < 0
    · rw [if_pos h1]
    · rw [if_neg h1, hGM.2.1]
      obtain ⟨j, hj, rfl⟩ := nI_of h1
      rw [if_pos (nI_le (Classical.byContradiction fun z => hno j (by omega) rfl) hj)]
  rcases hasC hGC.gn F l with ⟨i, hi, rfl, e1⟩ | ⟨hno, e1⟩
  · have min : fX7_place F σ (nI i) m = (fX7_isCave F σ m).bind fun q1 => (fun (r1 : Int32) (σ1 : Sg) => if r1 = (0 : Int32) then (some ((0 : Int32), σ1)) else ((fX7_placeOf F σ1 m).bind fun q2 => (fun (r2 : Int32) (σ2 : Sg) => if ib (nI i) 12 then (if ib r2 12 then (ls_ (sa σ2 28 r2.toNatClampNeg (σ2.2.1 28 (nI i).toNatClampNeg)) fun σ3 => if ib (nI i) 12 then (ls_ (sa σ3 28 (nI i).toNatClampNeg m) fun σ4 => some ((1 : Int32), σ4)) else none) else none) else none) q2.1 q2.2)) q1.1 q1.2 := by
      unfold fX7_place
      rw [if_neg (nI_pos (by omega)), hGM.2.1, if_neg (nI_ge hi (by omega))]
    rcases hasC hGC.gn F m with ⟨c, hc, rfl, e2⟩ | ⟨hno, e2⟩
    · obtain ⟨j, hj, hrj, hfj⟩ := first_at (hLY.2 c hc)
      have ep : fX2_placeOf F σ (nI c) = some (nI j, σ) := by
        have := xpl_loop hGC.gn hL1 F (by omega) hj hrj hfj F 0 (by omega) (by omega)
        rw [nI_0] at this; exact this
      have hci : (nI i).toNatClampNeg = i := nI_clamp (by omega)
      have hcj : (nI j).toNatClampNeg = j := nI_clamp (by omega)
      have ii : ib (nI i) 12 := nI_in (by omega) (by omega)
      have ij : ib (nI j) 12 := nI_in (by omega) (by omega)
      generalize hσ1 : sa (sa σ 15 j (nI (row i))) 15 i (nI c) = σ1
      have s1 : Sm [] [15] σ σ1 := by rw [← hσ1]; exact (Sm.sa (by simp)).tr (Sm.sa (by simp))
      have L1 : LR σ1 15 (up1 (up1 row j (row i)) i c) := by rw [← hσ1]; exact hL1.put (by omega) (by omega)
      have hG1 := hGM.sm s1 (by simp) (by simp) (by simp) (by simp)
      have hL21 := hL2.sm s1 (by simp)
      generalize hσ2 : sa (sa σ1 28 j (nI (row i))) 28 i (nI c) = σ2
      have s2 : Sm [] [28] σ1 σ2 := by rw [← hσ2]; exact (Sm.sa (by simp)).tr (Sm.sa (by simp))
      have L2 : LR σ2 28 (up1 (up1 row j (row i)) i c) := by rw [← hσ2]; exact hL21.put (by omega) (by omega)
      have hs : Sm [] [15, 28] σ σ2 := (s1.up (by simp) (fun k hk => by simp at hk; simp [hk])).tr (s2.up (by simp) (fun k hk => by simp at hk; simp [hk]))
      have hLY2 : LY n (up1 (up1 row j (row i)) i c) := by
        refine ⟨fun d hd => ?_, fun e he => ?_⟩
        · by_cases h1 : d = i
          · rw [h1, up1_s]; exact hc
          · rw [up1_o _ _ h1]
            by_cases h2 : d = j
            · rw [h2, up1_s]; exact hLY.1 i hi
            · rw [up1_o _ _ h2]; exact hLY.1 d hd
        · by_cases hec : e = c
          · exact ⟨i, hi, by rw [up1_s, hec]⟩
          · obtain ⟨d, hd, hrd⟩ := hLY.2 e he
            by_cases h1 : d = i
            · by_cases h2 : j = i
              · exfalso; rw [h1, ← h2, hrj] at hrd; exact hec hrd.symm
              · exact ⟨j, hj, by rw [up1_o _ _ h2, up1_s, ← h1, hrd]⟩
            · have h3 : d ≠ j := fun z => hec (by rw [← hrd, z, hrj])
              exact ⟨d, hd, by rw [up1_o _ _ h1, up1_o _ _ h3, hrd]⟩
      refine ⟨F, 1, σ1, σ2, wn, ?_, ?_, ⟨n, E, mo, _, K, S, O, hGC.sm hs (by simp) (by simp) (by simp) (by simp) (by simp) (by simp), hGM.sm hs (by simp) (by simp) (by simp) (by simp), hMO.sm hs (by simp) (by simp), hLY2, L1.sm s2 (by simp), L2, hHI, hXN.sm hs (by simp) (by simp) (by simp) (by simp), hXH.sm hs (by simp) (by simp) (by simp) (by simp) (by simp) (by simp) (by simp), hMH.sm hs (by simp) (by simp) (by simp) (by simp) (by simp) (by simp), hPL.sm hs (by simp) (by simp) (by simp)⟩, hs.keep (by simp)⟩
      · show fX6_place F σ (nI i) (nI c) = _
        unfold fX6_place fX2_swapIn ls_
        rw [e1]
        simp only [Option.bind_some, if_neg (show ¬ (1 : Int32) = 0 by decide)]
        rw [e2]
        simp only [Option.bind_some, if_neg (show ¬ (1 : Int32) = 0 by decide)]
        rw [ep]
        simp only [Option.bind_some, if_neg (show ¬ nI j = -1 from fun z => nI_pos (n := j) (by omega) (by rw [z]; decide)), if_pos ii, if_pos ij, hci, hcj, (hL1 i (by omega)).1, hσ1]
      · show fX7_place F σ1 (nI i) (nI c) = _
        have ep2 : fX7_placeOf F σ1 (nI c) = some (nI j, σ1) := by
          have := mpl_loop hL21 F (show c < 12 by omega) (show j < 12 by omega) hrj hfj F 0 (by omega) (by omega)
          rw [nI_0] at this; exact this
        have ec : fX7_isCave F σ1 (nI c) = some (1, σ1) := by
          rcases isC hG1 F (nI c) with ⟨c2, -, -, e⟩ | ⟨hno, -⟩
          · exact e
          · exact absurd rfl (hno c hc)
        unfold fX7_place ls_
        rw [if_neg (nI_pos (by omega)), hG1.2.1, if_neg (nI_ge hi (by omega)), ec]
        simp only [Option.bind_some, if_neg (show ¬ (1 : Int32) = 0 by decide)]
        rw [ep2]
        simp only [Option.bind_some, if_pos ii, if_pos ij, hci, hcj, (hL21 i (by omega)).1, hσ2]
    · refine same ?_ ?_
      · unfold fX6_place
        rw [e1]; simp only [Option.bind_some, if_neg (show ¬ (1 : Int32) = 0 by decide)]
        rw [e2]; rfl
      · rw [min]
        rcases isC hGM F m with ⟨c2, h3, h4, -⟩ | ⟨-, e4⟩
        · exact absurd h4 (hno c2 h3)
        · rw [e4]; rfl
  · refine same ?_ (mout hno)
    unfold fX6_place
    rw [e1]; rfl
