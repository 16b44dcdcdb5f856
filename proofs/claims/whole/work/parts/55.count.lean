/-! ===== count ===== -/
theorem pas_loop {σ : Sg} {n : Nat} {E : Gr} (hG : GM σ n E) (F : Nat) : ∀ (m k : Nat), k ≤ 18 → 18 < k + m → fX7_passages_4 F m σ (nI (cnt k (fun p => (E p).isSome))) (nI k) = some (nI (cnt 18 (fun p => (E p).isSome)), σ) := by
  intro m
  induction m with
  | zero => intro k h1 h2; omega
  | succ m ih =>
    intro k h1 h2
    show bX7_passages_4 F (fX7_passages_4 F m) σ _ (nI k) = _
    unfold bX7_passages_4 li_
    by_cases hk : k = 18
    · subst hk; rw [if_pos (by decide)]
    · rw [if_neg (n18 (by omega))]
      have ihk := ih (k + 1) (by omega) (by omega)
      have e : cnt (k + 1) (fun p => (E p).isSome) = cnt k (fun p => (E p).isSome) + (if (E k).isSome = true then 1 else 0) := rfl
      have hck : (nI k).toNatClampNeg = k := nI_clamp (by omega)
      simp only [if_pos (nI_in (show k < 18 by omega) (by omega)), hck, hG.2.2.1 k (by omega), nI_1]
      by_cases hb : (E k).isSome = true
      · rw [e, if_pos hb] at ihk
        rw [if_pos hb, if_neg (by decide)]
        exact ihk
      · rw [e, if_neg hb] at ihk
        rw [if_neg hb, if_pos rfl, Int32.add_zero]
        exact ihk
theorem mpas {σ : Sg} {n : Nat} {E : Gr} (hG : GM σ n E) {F : Nat} (hF : 40 ≤ F) : fX7_passages F σ = some (nI (cnt 18 (fun p => (E p).isSome)), σ) := by
  have := pas_loop hG F F 0 (by omega) (by omega)
  rw [show cnt 0 (fun p => (E p).isSome) = 0 from rfl, nI_0] at this
  exact this
theorem GC.d18 {σ : Sg} {n : Nat} {E : Gr} (h : GC σ n E) : ∀ i, bt (σ.1 1) i = true → i < 18 := fun i hi => by
  rw [h.2.2.1 i] at hi
  cases e : E i with
  | none => rw [e] at hi; cases hi
  | some q => exact (h.1.2 i q.1 q.2 e).1
theorem xpas {σ : Sg} {n : Nat} {E : Gr} (h : GC σ n E) (F : Nat) : fJ6_bitCount_0f7a4 F σ (σ.1 1) = some (nI (cnt 18 (fun p => (E p).isSome)), σ) := by
  rw [bc F σ h.d18, cnt_congr (fun i _ => h.2.2.1 i)]
/-- the party: the most ever below -/
def mxP (n : Nat) (S : Nat → Std) : Nat → Nat
  | 0 => 0
  | k + 1 => mxT n S k
theorem mxP_s (n : Nat) (S : Nat → Std) (k : Nat) : mxT n S k = if mxP n S k < tot n (S k).1 then tot n (S k).1 else mxP n S k := by
  cases k with
  | zero =>
    show tot n (S 0).1 = if 0 < tot n (S 0).1 then _ else 0
    by_cases h : 0 < tot n (S 0).1
    · rw [if_pos h]
    · rw [if_neg h]; omega
  | succ k => rfl
theorem mxP_9 {n : Nat} {E : Gr} {S : Nat → Std} (k : Nat) (h : ∀ i, i ≤ k → SO n E (S i)) : mxP n S k ≤ 9 := by
  cases k with
  | zero => exact Nat.zero_le _
  | succ k => exact mxT_9 k (fun i hi => h i (by omega))
theorem par_loop {n : Nat} {E : Gr} {K : Nat} {S : Nat → Std} {O : Nat → Ord_} {F : Nat} (hF : 40 ≤ F) (hK : K ≤ 200) (hS : ∀ j, j ≤ K → SO n E (S j)) : ∀ (m k : Nat) (σ : Sg), GM σ n E → MH σ E K S O → k ≤ K + 1 → K + 1 < k + m → ∃ τ, fX7_party_4 F m σ (nI (mxP n S k)) (nI k) = some (nI (mxT n S K), τ) ∧ Sm [23, 24] [29] σ τ := by
  intro m
  induction m with
  | zero => intro k σ _ _ h1 h2; omega
  | succ m ih =>
    intro k σ hG hM h1 h2
    show ∃ τ, bX7_party_4 F (fX7_party_4 F m) σ (nI (mxP n S k)) (nI k) = _ ∧ _
    unfold bX7_party_4
    rw [hM.1]
    by_cases hk : k = K + 1
    · subst hk
      rw [if_pos (nI_lt (by omega) (by omega))]
      exact ⟨σ, rfl, Sm.rf⟩
    · rw [if_neg (nI_nlt (by omega) (by omega))]
      obtain ⟨τ, e1, s1, a1, -, -⟩ := com hF (K := k) (by omega) σ
      have hG1 := hG.sm s1 (by simp) (by simp) (by simp) (by simp)
      have hMN : MN τ (S k).1 := fun c hc => by
        rw [a1 c hc, (hM.2.1 k (by omega)).1 c hc]
        exact ⟨rfl, by have := (hS k (by omega)).bd c; omega⟩
      have eb := blw hG1 hMN hF
      have t9 := (hS k (by omega)).2.2.2
      have p9 := mxP_9 k (fun i hi => hS i (by omega))
      obtain ⟨υ, e2, s2⟩ := ih (k + 1) τ hG1 (hM.sm s1 (by simp) (by simp) (by simp) (by simp) (by simp) (by simp)) (by omega) (by omega)
      rw [show mxP n S (k + 1) = mxT n S k from rfl, mxP_s] at e2
      refine ⟨υ, ?_, s1.tr s2⟩
      rw [e1]
      simp only [Option.bind_some]
      rw [eb]
      simp only [Option.bind_some, nI_1]
      by_cases hlt : mxP n S k < tot n (S k).1
      · rw [if_pos hlt] at e2
        rw [if_neg (nI_ge hlt (by omega)), eb]
        exact e2
      · rw [if_neg hlt] at e2
        rw [if_pos (nI_le (by omega) (by omega))]
        exact e2
theorem step_count (σ : Sg) (wn : Option Nat) (b : Int32) (hI : Inv_ σ wn) : PairOk Inv_ σ wn (fun F σ => fX6_count F σ b) (fun F σ => fX7_count F σ b) := by
  have hI0 := hI
  obtain ⟨n, E, mo, row, K, S, O, hD⟩ := hI
  obtain ⟨hGC, hGM, hMO, hLY, hL1, hL2, hHI, hXN, hXH, hMH, hPL⟩ := id hD
  obtain ⟨F, hF⟩ : ∃ F : Nat, 240 ≤ F := ⟨240, Nat.le_refl _⟩
  have hF' : 40 ≤ F := by omega
  have hn := hGC.1.1
  have hK := hHI.1
  have hSK := hHI.2.2.1 K (Nat.le_refl K)
  have h25 : σ.1 25 = nI K := hMH.1
  have hcK : (nI K).toNatClampNeg = K := nI_clamp (by omega)
  have iK : ib (nI K) 201 := nI_in (by omega) (by omega)
  obtain ⟨m1, m2, m3⟩ := hMH.2.1 K (Nat.le_refl K)
  have h7 : σ.1 7 = (S K).2 := hXN.2.2.2
  have out : b.toInt < 0 ∨ 10 < b.toInt → PairOk Inv_ σ wn (fun F σ => fX6_count F σ b) (fun F σ => fX7_count F σ b) := by
    intro h
    refine PairOk.same hI0 (F := F) (r := -1) ?_ ?_
    · show fX6_count F σ b = _
      unfold fX6_count; rw [if_pos h]
    · show fX7_count F σ b = _
      unfold fX7_count; rw [if_pos h]
  have dif : ∀ j, j ≤ 10 → ¬ ((nI j).toInt < 0 ∨ 10 < (nI j).toInt) := fun j hj => by rw [nI_toInt (by omega)]; omega
  obtain ⟨v, ev, hv⟩ := hGC.pAt (F := F) (by omega) (S K).2
  have hv18 : ∀ i, bt v i = true → i < 18 := fun i hi => ((hv i).mp hi).lt hGC.1
  have hl18 : ∀ i, bt (S K).2 i = true → i < 18 := fun i hi => by have := (hSK.2.1 i hi).1; omega
  have ev35 : v = σ.2.1 35 K := b_ext' fun i => (hv i).trans (m3 i).symm
  obtain ⟨r9, e91, e92⟩ := pie hGC hGM hF'
  rcases i_cases 10 (by omega) b with h | ⟨j, hj, rfl⟩ | h
  · exact out (Or.inl h)
  · have hd := dif j hj
    have hj' : j = 0 ∨ j = 1 ∨ j = 2 ∨ j = 3 ∨ j = 4 ∨ j = 5 ∨ j = 6 ∨ j = 7 ∨ j = 8 ∨ j = 9 ∨ j = 10 := by omega
    rcases hj' with rfl | rfl | rfl | rfl | rfl | rfl | rfl | rfl | rfl | rfl | rfl
    · refine PairOk.same hI0 (F := F) (r := nI K) ?_ ?_
      · show fX6_count F σ (nI 0) = _
        unfold fX6_count; rw [if_neg hd, if_pos (by decide), hXH.1]
      · show fX7_count F σ (nI 0) = _
        unfold fX7_count; rw [if_neg hd, if_pos (by decide), h25]
    · obtain ⟨σa, ea, sa_, ma, wa, ya⟩ := mtake hF' hK hMH hSK
      have hGa := hGM.sm sa_ (by simp) (by simp) (by simp) (by simp)
      refine ⟨F, nI (tot n (S K).1), σ, σa, wn, ?_, ?_, ⟨n, E, mo, row, K, S, O, hD.scr sa_ (by simp) (by simp)⟩, sa_.keep (by simp)⟩
      · show fX6_count F σ (nI 1) = _
        unfold fX6_count; rw [if_neg hd, if_neg (by decide), if_pos (by decide), hXN.2.1]
      · show fX7_count F σ (nI 1) = _
        unfold fX7_count; rw [if_neg hd, if_neg (by decide), if_pos (by decide), ea]
        simp only [Option.bind_some]
        rw [blw hGa ma hF']; rfl
    · obtain ⟨τ, et, st⟩ := par_loop hF' hK hHI.2.2.1 F 0 σ hGM hMH (by omega) (by omega)
      refine ⟨F, nI (mxT n S K), σ, τ, wn, ?_, ?_, ⟨n, E, mo, row, K, S, O, hD.scr st (by simp) (by simp)⟩, st.keep (by simp)⟩
      · show fX6_count F σ (nI 2) = _
        unfold fX6_count; rw [if_neg hd, if_neg (by decide), if_neg (by decide), if_pos (by decide), hXH.2.1]
      · show fX7_count F σ (nI 2) = _
        unfold fX7_count fX7_party; rw [if_neg hd, if_neg (by decide), if_neg (by decide), if_pos (by decide)]
        rw [show mxP n S 0 = 0 from rfl, nI_0] at et
        rw [et]; rfl
    · refine PairOk.same hI0 (F := F) (r := nI (cnt 18 (fun i => bt (S K).2 i))) ?_ ?_
      · show fX6_count F σ (nI 3) = _
        unfold fX6_count; rw [if_neg hd, if_neg (by decide), if_neg (by decide), if_neg (by decide), if_pos (by decide), h7, bc F σ hl18]; rfl
      · show fX7_count F σ (nI 3) = _
        unfold fX7_count; rw [if_neg hd, if_neg (by decide), if_neg (by decide), if_neg (by decide), if_pos (by decide)]
        simp only [h25, if_pos iK, hcK, m2, mbt hF' σ]; rfl
    · refine PairOk.same hI0 (F := F) (r := nI (cnt 18 (fun i => bt v i))) ?_ ?_
      · show fX6_count F σ (nI 4) = _
        unfold fX6_count; rw [if_neg hd, if_neg (by decide), if_neg (by decide), if_neg (by decide), if_neg (by decide), if_pos (by decide), h7, ev]
        simp only [Option.bind_some]
        rw [bc F σ hv18]; rfl
      · show fX7_count F σ (nI 4) = _
        unfold fX7_count; rw [if_neg hd, if_neg (by decide), if_neg (by decide), if_neg (by decide), if_neg (by decide), if_pos (by decide)]
        simp only [h25, if_pos iK, hcK, ← ev35, mbt hF' σ]; rfl
    · have hz : (S K).2 = 0 → σ.2.1 35 K = 0 := fun z => b_zero.mpr fun i _ => by
        cases h : bt (σ.2.1 35 K) i with
        | false => rfl
        | true =>
          obtain ⟨a, b, -, h2⟩ := (m3 i).mp h
          rw [z] at h2
          rcases h2 with h2 | h2
          · have h3 : bt 0 a = true := h2
            rw [b_0] at h3; cases h3
          · have h3 : bt 0 b = true := h2
            rw [b_0] at h3; cases h3
      refine PairOk.same hI0 (F := F) (r := if (S K).2 = 0 then 1 else 0) ?_ ?_
      · show fX6_count F σ (nI 5) = _
        unfold fX6_count; rw [if_neg hd, if_neg (by decide), if_neg (by decide), if_neg (by decide), if_neg (by decide), if_neg (by decide), if_pos (by decide), h7]
        split <;> rfl
      · show fX7_count F σ (nI 5) = _
        unfold fX7_count; rw [if_neg hd, if_neg (by decide), if_neg (by decide), if_neg (by decide), if_neg (by decide), if_neg (by decide), if_pos (by decide)]
        simp only [h25, if_pos iK, hcK, m2]
        by_cases h : (S K).2 = 0
        · rw [if_pos h, if_pos h, if_pos (hz h)]
        · rw [if_neg h, if_neg h]
    · refine PairOk.same hI0 (F := F) (r := nI n) ?_ ?_
      · show fX6_count F σ (nI 6) = _
        unfold fX6_count; rw [if_neg hd, if_neg (by decide), if_neg (by decide), if_neg (by decide), if_neg (by decide), if_neg (by decide), if_neg (by decide), if_pos (by decide), hGC.2.1]
      · show fX7_count F σ (nI 6) = _
        unfold fX7_count; rw [if_neg hd, if_neg (by decide), if_neg (by decide), if_neg (by decide), if_neg (by decide), if_neg (by decide), if_neg (by decide), if_pos (by decide), hGM.2.1]
    · refine PairOk.same hI0 (F := F) (r := nI (cnt 18 (fun p => (E p).isSome))) ?_ ?_
      · show fX6_count F σ (nI 7) = _
        unfold fX6_count; rw [if_neg hd, if_neg (by decide), if_neg (by decide), if_neg (by decide), if_neg (by decide), if_neg (by decide), if_neg (by decide), if_neg (by decide), if_pos (by decide), xpas hGC F]; rfl
      · show fX7_count F σ (nI 7) = _
        unfold fX7_count; rw [if_neg hd, if_neg (by decide), if_neg (by decide), if_neg (by decide), if_neg (by decide), if_neg (by decide), if_neg (by decide), if_neg (by decide), if_pos (by decide), mpas hGM hF']; rfl
    · refine PairOk.same hI0 (F := F) (r := nI mo) ?_ ?_
      · show fX6_count F σ (nI 8) = _
        unfold fX6_count; rw [if_neg hd, if_neg (by decide), if_neg (by decide), if_neg (by decide), if_neg (by decide), if_neg (by decide), if_neg (by decide), if_neg (by decide), if_neg (by decide), if_pos (by decide), hMO.1]
      · show fX7_count F σ (nI 8) = _
        unfold fX7_count; rw [if_neg hd, if_neg (by decide), if_neg (by decide), if_neg (by decide), if_neg (by decide), if_neg (by decide), if_neg (by decide), if_neg (by decide), if_neg (by decide), if_pos (by decide), hMO.2.1]
    · refine PairOk.same hI0 (F := F) (r := r9) ?_ ?_
      · show fX6_count F σ (nI 9) = _
        unfold fX6_count; rw [if_neg hd, if_neg (by decide), if_neg (by decide), if_neg (by decide), if_neg (by decide), if_neg (by decide), if_neg (by decide), if_neg (by decide), if_neg (by decide), if_neg (by decide), if_pos (by decide), e91]; rfl
      · show fX7_count F σ (nI 9) = _
        unfold fX7_count; rw [if_neg hd, if_neg (by decide), if_neg (by decide), if_neg (by decide), if_neg (by decide), if_neg (by decide), if_neg (by decide), if_neg (by decide), if_neg (by decide), if_neg (by decide), if_pos (by decide), e92]; rfl
    · refine PairOk.same hI0 (F := F) (r := if r9 = 1 then (if nI (cnt 18 (fun p => (E p).isSome)) = nI n - 1 then 1 else 0) else 0) ?_ ?_
      · show fX6_count F σ (nI 10) = _
        unfold fX6_count fX1_isTree
        rw [if_neg hd, if_neg (by decide), if_neg (by decide), if_neg (by decide), if_neg (by decide), if_neg (by decide), if_neg (by decide), if_neg (by decide), if_neg (by decide), if_neg (by decide), if_neg (by decide), if_pos (by decide), e91]
        simp only [Option.bind_some, xpas hGC F, hGC.2.1]
        by_cases h : r9 = 1
        · rw [if_pos h, if_pos h]
          by_cases h2 : nI (cnt 18 (fun p => (E p).isSome)) = nI n - 1
          · rw [if_pos h2, if_pos h2]; rfl
          · rw [if_neg h2, if_neg h2]; rfl
        · rw [if_neg h, if_neg h]; rfl
      · show fX7_count F σ (nI 10) = _
        unfold fX7_count
        rw [if_neg hd, if_neg (by decide), if_neg (by decide), if_neg (by decide), if_neg (by decide), if_neg (by decide), if_neg (by decide), if_neg (by decide), if_neg (by decide), if_neg (by decide), if_neg (by decide), if_pos (by decide), e92]
        simp only [Option.bind_some, mpas hGM hF', hGM.2.1]
        by_cases h : r9 = 1
        · rw [if_pos h, if_pos h]
          by_cases h2 : nI (cnt 18 (fun p => (E p).isSome)) = nI n - 1
          · rw [if_pos h2, if_pos h2]
          · rw [if_neg h2, if_neg h2]
        · rw [if_neg h, if_neg h]
  · exact out (Or.inr h)
