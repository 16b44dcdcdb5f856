/-! ===== goBack, undo ===== -/
theorem up1_bk (men : Nat → Nat) (c v : Nat) : up1 (up1 men c v) c (men c) = men := funext fun d => by
  by_cases h : d = c
  · rw [h, up1_s]
  · rw [up1_o _ _ h, up1_o _ _ h]
theorem goB {σ : Sg} {n : Nat} {E : Gr} (hG : GC σ n E) (F : Nat) {s t : Std} {o : Ord_} (hs : SO n E s) (ht : SO n E t) (hX : XM12 σ n t.1) (hT : Tr n E o s t) {wh l4 l5 : Int32} (hwh : wh = nI o.1 ∨ (o.1 = 2 ∧ wh = 3)) (hl4 : o.1 = 2 → l4 = nI o.2.2) :
    ∃ τ, fX4_goBack_12 F σ wh (nI o.2.1) l4 l5 = some (0, τ) ∧ Sm [5, 6, 7] [13] σ τ ∧ XM12 τ n s.1 ∧ τ.1 7 = l5 := by
  have hn := hG.1.1
  have hb := ht.bd
  have h9 := ht.2.2.2
  have fin : ∀ {σ1 : Sg}, Sm [5, 6] [13] σ σ1 → XM12 σ1 n s.1 → Sm [5, 6, 7] [13] σ (sv σ1 7 l5) ∧ XM12 (sv σ1 7 l5) n s.1 ∧ (sv σ1 7 l5).1 7 = l5 := by
    intro σ1 h1 h2
    refine ⟨(h1.up (fun i hi => by simp at hi; simp; omega) (fun k hk => hk)).tr (Sm.sv (by simp)), ⟨h2.1, ?_, fun i => ?_⟩, ?_⟩
    · rw [sv_1, if_neg (by decide)]; exact h2.2.1
    · rw [sv_1, if_neg (by decide)]; exact h2.2.2 i
    · rw [sv_1, if_pos rfl]
  rcases hT with ⟨ho, hc, hm, hL⟩ | ⟨ho, hc, h0, hm, hL⟩ | ⟨ho, h0, d, hp, hm, hL⟩
  · have hwh' : wh = 0 := by
      rcases hwh with h | h
      · rw [h, ho, nI_0]
      · omega
    subst hwh'
    have tc : t.1 o.2.1 = s.1 o.2.1 + 1 := by rw [hm, up1_s]
    obtain ⟨σ1, e1, s1, x1⟩ := leave12 hn hX F hc (by omega) (by have := hb o.2.1; omega) (by omega)
    have em : up1 t.1 o.2.1 (t.1 o.2.1 - 1) = s.1 := by rw [tc, hm, Nat.add_sub_cancel]; exact up1_bk s.1 o.2.1 _
    rw [em] at x1
    refine ⟨_, ?_, fin s1 x1⟩
    unfold fX4_goBack_12 bX4_goBack_12_28 ls_
    rw [if_pos rfl, e1]; rfl
  · have hwh' : wh = 1 := by
      rcases hwh with h | h
      · rw [h, ho]; rfl
      · omega
    subst hwh'
    have tc : t.1 o.2.1 = s.1 o.2.1 - 1 := by rw [hm, up1_s]
    obtain ⟨σ1, e1, s1, x1⟩ := come12 hn hX F hc
    have em : up1 t.1 o.2.1 (t.1 o.2.1 + 1) = s.1 := by rw [tc, hm, Nat.sub_add_cancel h0]; exact up1_bk s.1 o.2.1 _
    rw [em] at x1
    refine ⟨_, ?_, fin s1 x1⟩
    unfold fX4_goBack_12 bX4_goBack_12_28 ls_
    rw [if_neg (by decide), if_pos rfl, if_neg (by decide), e1]; rfl
  · have hcd : o.2.1 < n ∧ d < n ∧ d ≠ o.2.1 ∧ o.2.2 < 18 := by rcases hp with h | h <;> have := hG.1.2 _ _ _ h <;> omega
    have td : t.1 d = s.1 d + 1 := by rw [hm, up1_s]
    have tc : t.1 o.2.1 = s.1 o.2.1 - 1 := by rw [hm, up1_o _ _ hcd.2.2.1.symm, up1_s]
    obtain ⟨σ1, e1, s1, x1⟩ := leave12 hn hX F hcd.2.1 (by omega) (by have := hb d; omega) (by omega)
    obtain ⟨σ2, e2, s2, x2⟩ := come12 hn x1 F hcd.1
    have em : up1 (up1 t.1 d (t.1 d - 1)) o.2.1 (up1 t.1 d (t.1 d - 1) o.2.1 + 1) = s.1 := by
      rw [up1_o _ _ hcd.2.2.1.symm, tc, Nat.sub_add_cancel h0, td, Nat.add_sub_cancel]
      refine funext fun e => ?_
      by_cases h1 : e = o.2.1
      · rw [h1, up1_s]
      · rw [up1_o _ _ h1]
        by_cases h2 : e = d
        · rw [h2, up1_s]
        · rw [up1_o _ _ h2, hm, up1_o _ _ h2, up1_o _ _ h1]
    rw [em] at x2
    refine ⟨_, ?_, fin (s1.tr s2) x2⟩
    have ho' := otherX hG F hp
    have w2 : wh = 2 ∨ wh = 3 := by
      rcases hwh with h | h
      · left; rw [h, ho]; rfl
      · exact Or.inr h.2
    unfold fX4_goBack_12 bX4_goBack_12_28 ls_
    rw [hl4 ho]
    rcases w2 with rfl | rfl
    · rw [if_neg (by decide), if_neg (by decide), ho']
      simp only [Option.bind_some, e1, if_neg (show ¬ (2 : Int32) = 0 by decide), e2]
    · rw [if_neg (by decide), if_neg (by decide), ho']
      simp only [Option.bind_some, e1, if_neg (show ¬ (3 : Int32) = 0 by decide), e2]
theorem step_undo (σ : Sg) (wn : Option Nat) (hI : Inv_ σ wn) : PairOk Inv_ σ wn (fun F σ => fX6_undo F σ) (fun F σ => fX7_undo F σ) := by
  obtain ⟨n, E, mo, row, K, S, O, hD⟩ := hI
  obtain ⟨hGC, hGM, hMO, hLY, hL1, hL2, hHI, hXN, hXH, hMH, hPL⟩ := id hD
  have hn := hGC.1.1
  have hK := hHI.1
  by_cases h0 : K = 0
  · subst h0
    refine ⟨0, 0, σ, σ, wn, ?_, ?_, ⟨n, E, mo, row, 0, S, O, hD⟩, (Sm.rf (vs := []) (as := [])).keep (by simp)⟩
    · show fX6_undo 0 σ = _
      unfold fX6_undo fX3_takeBack li_
      dsimp only
      rw [hXH.1, if_neg (show ¬ (0 : Int32) ≤ nI 0 - 1 by decide)]
      rfl
    · show fX7_undo 0 σ = _
      unfold fX7_undo
      rw [hMH.1, if_pos nI_0]
  · obtain ⟨J, rfl⟩ : ∃ J, K = J + 1 := ⟨K - 1, by omega⟩
    obtain ⟨q1, q2, q3, q4, q5⟩ := hXH.2.2 J (by omega)
    obtain ⟨τ1, e1, s1, x1, x2⟩ := goB hGC 0 (hHI.2.2.1 J (by omega)) (hHI.2.2.1 (J + 1) (by omega)) ⟨hXN.1, hXN.2.1, hXN.2.2.1⟩ (hHI.2.2.2 J (by omega)) (l5 := (S J).2) q1 q3
    have hcJ : (nI J).toNatClampNeg = J := nI_clamp (by omega)
    have iJ : ib (nI J) 200 := nI_in (by omega) (by omega)
    have eJ : nI (J + 1) - 1 = nI J := nI_pred J
    generalize hσ1 : sv (sv τ1 4 (nI (mxT n S J))) 3 (nI J) = σ1
    have s2 : Sm [3, 4, 5, 6, 7] [13] σ σ1 := by rw [← hσ1]; exact ((s1.up (fun i hi => by simp at hi; simp; omega) (fun k hk => hk)).tr (Sm.sv (by simp))).tr (Sm.sv (by simp))
    have x3 : XN σ1 n (S J) := by rw [← hσ1]; exact ⟨x1.1, x1.2.1, x1.2.2, x2⟩
    have h25 : σ1.1 25 = nI (J + 1) := (s2.1 25 (by simp)).trans hMH.1
    have s3 : Sm [3, 4, 5, 6, 7, 25] [13] σ (sv σ1 25 (nI J)) := (s2.up (fun i hi => by simp at hi; simp; omega) (fun k hk => hk)).tr (Sm.sv (by simp))
    have s4 : Sm [25] [] σ1 (sv σ1 25 (nI J)) := Sm.sv (by simp)
    refine ⟨0, 1, σ1, sv σ1 25 (nI J), wn, ?_, ?_, ⟨n, E, mo, row, J, S, O, hGC.sm s3 (by simp) (by simp) (by simp) (by simp) (by simp) (by simp), hGM.sm s3 (by simp) (by simp) (by simp) (by simp), hMO.sm s3 (by simp) (by simp), hLY, hL1.sm s3 (by simp), hL2.sm s3 (by simp), ⟨by omega, hHI.2.1, fun j hj => hHI.2.2.1 j (by omega), fun j hj => hHI.2.2.2 j (by omega)⟩, x3.sm s4 (by simp) (by simp) (by simp) (by simp), ⟨?_, ?_, fun j hj => ?_⟩, ⟨rfl, fun j hj => ?_, fun j hj => ?_⟩, hPL.sm s3 (by simp) (by simp) (by simp)⟩, s3.keep (by simp)⟩
    · show fX6_undo 0 σ = _
      unfold fX6_undo fX3_takeBack li_ ls_
      dsimp only
      simp only [hXH.1, eJ, if_pos (nI_pos' (n := J) (by omega)), if_pos iJ, hcJ, q2, q4, e1, Option.bind_some]
      have e11 : τ1.2.1 11 J = nI (mxT n S J) := by rw [s1.2.1 11 (by simp)]; exact q5
      rw [e11, hσ1]; simp
    · show fX7_undo 0 σ1 = _
      unfold fX7_undo ls_
      dsimp only
      rw [h25, if_neg (nI_ne0 (by omega) (by omega)), eJ]
    · rw [s4.1 3 (by simp), ← hσ1]; rfl
    · rw [s4.1 4 (by simp), ← hσ1]; rfl
    · rw [s3.2.1 7 (by simp), s3.2.1 8 (by simp), s3.2.1 9 (by simp), s3.2.1 10 (by simp), s3.2.1 11 (by simp)]; exact hXH.2.2 j (by omega)
    · rw [s3.2.1 33 (by simp), s3.2.1 34 (by simp), s3.2.1 35 (by simp)]; exact hMH.2.1 j (by omega)
    · rw [s3.2.1 30 (by simp), s3.2.1 31 (by simp)]; exact hMH.2.2 j (by omega)
