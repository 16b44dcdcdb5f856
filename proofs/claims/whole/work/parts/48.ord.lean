/-- what an order does to those below; l1: the passage slid along -/
def Mv (n : Nat) (E : Gr) (o : Ord_) (s : Std) (men' : Nat → Nat) (l1 : Int32) : Prop :=
  (o.1 = 0 ∧ o.2.1 < n ∧ tot n s.1 < 9 ∧ men' = up1 s.1 o.2.1 (s.1 o.2.1 + 1) ∧ l1 = -1) ∨
  (o.1 = 1 ∧ o.2.1 < n ∧ 0 < s.1 o.2.1 ∧ men' = up1 s.1 o.2.1 (s.1 o.2.1 - 1) ∧ l1 = -1) ∨
  (o.1 = 2 ∧ 0 < s.1 o.2.1 ∧ (∃ d, (E o.2.2 = some (o.2.1, d) ∨ E o.2.2 = some (d, o.2.1)) ∧ men' = up1 (up1 s.1 o.2.1 (s.1 o.2.1 - 1)) d (s.1 d + 1)) ∧ l1 = nI o.2.2)
theorem Mv.tr {n : Nat} {E : Gr} {o : Ord_} {s : Std} {men' : Nat → Nat} {l1 w' : Int32} (h : Mv n E o s men' l1) (hL : LeO E men' (fun i => bt s.2 i = true) (fun p => nI p = l1) (fun i => bt w' i = true)) : Tr n E o s (men', w') := by
  rcases h with ⟨h1, h2, -, h4, rfl⟩ | ⟨h1, h2, h3, h4, rfl⟩ | ⟨h1, h3, ⟨d, h4, h5⟩, rfl⟩
  · exact Or.inl ⟨h1, h2, h4, hL⟩
  · exact Or.inr (Or.inl ⟨h1, h2, h3, h4, hL⟩)
  · exact Or.inr (Or.inr ⟨h1, h3, d, h4, h5, hL⟩)
theorem Mv.so {n : Nat} {E : Gr} (hE : GrOk n E) {o : Ord_} {s : Std} {men' : Nat → Nat} {l1 w' : Int32} (h : Mv n E o s men' l1) (hs : SO n E s) (hL : LeO E men' (fun i => bt s.2 i = true) (fun p => nI p = l1) (fun i => bt w' i = true)) : SO n E (men', w') := by
  refine hs.next hE ?_ hL ?_
  · intro c hc
    rcases h with ⟨h1, h2, -, rfl, -⟩ | ⟨h1, h2, h3, rfl, -⟩ | ⟨h1, h3, ⟨d, h4, rfl⟩, -⟩
    · rw [up1_o _ _ (by omega)]; exact hs.1 c hc
    · rw [up1_o _ _ (by omega)]; exact hs.1 c hc
    · have : o.2.1 < n ∧ d < n := by rcases h4 with h | h <;> have := hE.2 _ _ _ h <;> omega
      rw [up1_o _ _ (by omega), up1_o _ _ (by omega)]; exact hs.1 c hc
  · have h9 := hs.2.2.2
    rcases h with ⟨h1, h2, h9', rfl, -⟩ | ⟨h1, h2, h3, rfl, -⟩ | ⟨h1, h3, ⟨d, h4, rfl⟩, -⟩
    · have := tot_up (men := s.1) (v := s.1 o.2.1 + 1) h2; omega
    · have := tot_up (men := s.1) (v := s.1 o.2.1 - 1) h2; omega
    · have hd : o.2.1 < n ∧ d < n ∧ d ≠ o.2.1 := by rcases h4 with h | h <;> have := hE.2 _ _ _ h <;> omega
      have t1 := tot_up (men := s.1) (v := s.1 o.2.1 - 1) hd.1
      have t2 := tot_up (men := up1 s.1 o.2.1 (s.1 o.2.1 - 1)) (v := s.1 d + 1) hd.2.1
      rw [up1_o _ _ hd.2.2] at t2
      omega
/-- the reference takes up the stand of now -/
theorem mtake {σ : Sg} {E : Gr} {K : Nat} {S : Nat → Std} {O : Nat → Ord_} {F : Nat} (hF : 40 ≤ F) (hK : K ≤ 200) (hMH : MH σ E K S O) {n : Nat} (hs : SO n E (S K)) : ∃ σa, fX7_comes F σ (σ.1 25) = some (0, σa) ∧ Sm [23, 24] [29] σ σa ∧ MN σa (S K).1 ∧ σa.1 23 = (S K).2 ∧ ∀ i, bt (σa.1 24) i = true ↔ PO E (fun i => bt (S K).2 i = true) i := by
  obtain ⟨c1, c2, c3⟩ := hMH.2.1 K (Nat.le_refl K)
  obtain ⟨σa, e, s1, a1, a2, a3⟩ := com hF hK σ
  refine ⟨σa, by rw [hMH.1]; exact e, s1, fun c hc => ⟨(a1 c hc).trans (c1 c hc), by have := hs.bd c; omega⟩, a2.trans c2, fun i => by rw [a3]; exact c3 i⟩
/-- .. and does an order -/
theorem mdo {σa : Sg} {n : Nat} {E : Gr} (hG : GM σa n E) {s : Std} (hs : SO n E s) (hM : MN σa s.1) (h23 : σa.1 23 = s.2) (h24 : ∀ i, bt (σa.1 24) i = true ↔ PO E (fun i => bt s.2 i = true) i) {o : Ord_} {men' : Nat → Nat} {l1 l4 : Int32} (hv : Mv n E o s men' l1) (hl4 : o.1 = 2 → l4 = nI o.2.2) {F : Nat} (hF : 40 ≤ F) : ∃ σ3, fX7_does F σa (nI o.1) (nI o.2.1) l4 = some (0, σ3) ∧ Did E σa σ3 men' s.2 l1 := by
  have hb := hs.bd
  have hx : ∀ i, bt (σa.1 23) i = true → i < n := fun i hi => by rw [h23] at hi; exact (hs.2.1 i hi).1
  have hy : ∀ i, bt (σa.1 24) i = true ↔ PO E (fun i => bt (σa.1 23) i = true) i := by rw [h23]; exact h24
  rcases hv with ⟨h1, h2, -, rfl, rfl⟩ | ⟨h1, h2, h3, rfl, rfl⟩ | ⟨h1, h3, ⟨d, h4, rfl⟩, rfl⟩
  · rw [h1, nI_0, ← h23]; exact doesP hG hM hF h2 (by have := hb o.2.1; omega) l4 hx hy
  · rw [h1, show nI 1 = 1 by decide, ← h23]; exact doesL hG hM hF h2 h3 l4 hx hy
  · rw [h1, show nI 2 = 2 by decide, ← h23, hl4 h1]; exact doesS hG hM hF h4 h3 (by have := hb d; omega) hx hy
theorem InvD.scr {σ τ : Sg} {wn : Option Nat} {n : Nat} {E : Gr} {mo : Nat} {row : Nat → Nat} {K : Nat} {S : Nat → Std} {O : Nat → Ord_} (h : InvD σ wn n E mo row K S O) {vs as : List Nat} (hs : Sm vs as σ τ) (hv : ∀ i ∈ vs, i ∈ [8, 9, 10, 11, 12, 13, 14, 15, 16, 17, 18, 19, 20, 23, 24, 26, 27]) (ha : ∀ k ∈ as, k ∈ [16, 18, 19, 20, 21, 23, 29, 32, 36, 37, 38, 39, 41]) : InvD τ wn n E mo row K S O := by
  obtain ⟨hGC, hGM, hMO, hLY, hL1, hL2, hHI, hXN, hXH, hMH, hPL⟩ := h
  have hs' := hs.up hv ha
  exact ⟨hGC.sm hs' (by simp) (by simp) (by simp) (by simp) (by simp) (by simp), hGM.sm hs' (by simp) (by simp) (by simp) (by simp), hMO.sm hs' (by simp) (by simp), hLY, hL1.sm hs' (by simp), hL2.sm hs' (by simp), hHI, hXN.sm hs' (by simp) (by simp) (by simp) (by simp), hXH.sm hs' (by simp) (by simp) (by simp) (by simp) (by simp) (by simp) (by simp), hMH.sm hs' (by simp) (by simp) (by simp) (by simp) (by simp) (by simp), hPL.sm hs' (by simp) (by simp) (by simp)⟩
/-- the order's core: class and reference behind their tests -/
theorem ord_core {σ : Sg} {wn : Option Nat} {n : Nat} {E : Gr} {mo : Nat} {row : Nat → Nat} {K : Nat} {S : Nat → Std} {O : Nat → Ord_} (hD : InvD σ wn n E mo row K S O) {F : Nat} (hF : 40 ≤ F) {c : Nat} (hc : c < n) {wh l3 : Int32} (hw : wh = 0 ∨ wh = 1 ∨ ((wh = 2 ∨ wh = 3) ∧ ∃ p d, l3 = nI p ∧ (E p = some (c, d) ∨ E p = some (d, c)))) :
    ∃ r σ1 σ2, bX6_order_41 F σ wh (nI c) l3 = some (r, σ1) ∧ bX7_order_41 F σ1 wh (nI c) l3 = some (r, σ2) ∧ Inv_ σ2 wn ∧ Keep σ σ2 wn wn ∧ GM σ1 n E := by
  obtain ⟨hGC, hGM, hMO, hLY, hL1, hL2, hHI, hXN, hXH, hMH, hPL⟩ := id hD
  have hn := hGC.1.1
  have hK := hHI.1
  have hSK := hHI.2.2.1 K (Nat.le_refl K)
  have hcc : (nI c).toNatClampNeg = c := nI_clamp (by omega)
  have ic : ib (nI c) 12 := nI_in (by omega) (by omega)
  have h9 := hSK.2.2.2
  have hb := hSK.bd c
  by_cases hK2 : K = 200
  · refine ⟨-1, σ, σ, ?_, ?_, ⟨n, E, mo, row, K, S, O, hD⟩, (Sm.rf (vs := []) (as := [])).keep (by simp), hGM⟩
    · unfold bX6_order_41; rw [hXH.1, hK2, if_neg (by decide)]
    · unfold bX7_order_41; rw [hMH.1, hK2, if_pos (by decide)]
  have hlt : K < 200 := by omega
  have k200 : (nI K < 200) := by rw [show (200 : Int32) = nI 200 by decide]; exact nI_lt hlt (by omega)
  have k200' : ¬ (200 : Int32) ≤ nI K := by rw [show (200 : Int32) = nI 200 by decide]; exact nI_ge hlt (by omega)
  have k200'' : ¬ nI K = 200 := fun z => by rw [show (200 : Int32) = nI 200 by decide, nI_eq (by omega) (by omega)] at z; omega
  have m0 : nI ((S K).1 c) ≤ 0 ↔ (S K).1 c = 0 := men1 (by omega)
  have mz : nI ((S K).1 c) = 0 ↔ (S K).1 c = 0 := men0 (by omega)
  -- the passage that the class writes down
  generalize hl4 : (if wh < 2 then (-1 : Int32) else l3) = l4
  have cls : bX6_order_41 F σ wh (nI c) l3 = (fX3_carryOut F σ wh (nI c) l4).bind fun q => (fun (r : Int32) (σ1 : Sg) => if r = (0 : Int32) then some ((0 : Int32), σ1) else some ((1 : Int32), σ1)) q.1 q.2 := by
    unfold bX6_order_41
    rw [hXH.1, if_pos k200, ← hl4]
    by_cases h : wh < 2
    · rw [if_pos h, if_pos h]
    · rw [if_neg h, if_neg h]
  -- may it be done
  by_cases hcan : (wh = 0 ∧ tot n (S K).1 = 9) ∨ (wh ≠ 0 ∧ (S K).1 c = 0)
  · -- no
    have e1 : fX3_carryOut F σ wh (nI c) l4 = some (0, σ) := by
      unfold fX3_carryOut fX3_canBeDone
      rw [hXH.1, if_neg k200']
      rcases hcan with ⟨h1, h2⟩ | ⟨h1, h2⟩
      · rw [if_pos h1, hXN.2.1, h2, if_pos (by decide)]; rfl
      · simp only [if_neg h1, if_pos ic, hcc, hXN.1 c (by omega), if_pos (m0.mpr h2), Option.bind_some, if_true]
    obtain ⟨σa, e2, s2, m2, -⟩ := mtake hF hK hMH hSK
    have hGa := hGM.sm s2 (by simp) (by simp) (by simp) (by simp)
    refine ⟨0, σ, σa, ?_, ?_, ⟨n, E, mo, row, K, S, O, hD.scr s2 (by simp) (by simp)⟩, s2.keep (by simp), hGM⟩
    · rw [cls, e1]; rfl
    · unfold bX7_order_41
      rw [if_neg (by rw [hMH.1]; exact k200''), e2]
      simp only [Option.bind_some]
      rcases hcan with ⟨h1, h2⟩ | ⟨h1, h2⟩
      · rw [if_pos h1, blw hGa m2 hF]
        simp only [Option.bind_some, h2, if_pos (show nI 9 = 9 by decide)]
      · simp only [if_neg h1, if_pos ic, hcc, (m2 c (by omega)).1, if_pos (mz.mpr h2)]
  · -- yes
    have hput : wh = 0 → tot n (S K).1 < 9 := fun h => by
      have : tot n (S K).1 ≠ 9 := fun z => hcan (Or.inl ⟨h, z⟩)
      omega
    have hmen : wh ≠ 0 → 0 < (S K).1 c := fun h => by
      have : (S K).1 c ≠ 0 := fun z => hcan (Or.inr ⟨h, z⟩)
      omega
    obtain ⟨o, men', l1, hoc, ho2, hv, hwh, hl4o, hl3o⟩ : ∃ (o : Ord_) (men' : Nat → Nat) (l1 : Int32), o.2.1 = c ∧ o.1 ≤ 2 ∧ Mv n E o (S K) men' l1 ∧ (wh = nI o.1 ∨ (o.1 = 2 ∧ wh = 3)) ∧ (o.1 = 2 → l4 = nI o.2.2) ∧ (o.1 = 2 → l3 = nI o.2.2) := by
      rcases hw with h | h | ⟨h, p, d, rfl, hp⟩
      · exact ⟨(0, c, 0), _, -1, rfl, by omega, Or.inl ⟨rfl, hc, hput h, rfl, rfl⟩, Or.inl (by rw [h, nI_0]), fun z => absurd (show (0 : Nat) = 2 from z) (by decide), fun z => absurd (show (0 : Nat) = 2 from z) (by decide)⟩
      · exact ⟨(1, c, 0), _, -1, rfl, by omega, Or.inr (Or.inl ⟨rfl, hc, hmen (by rw [h]; decide), rfl, rfl⟩), Or.inl (by rw [h]; rfl), fun z => absurd (show (1 : Nat) = 2 from z) (by decide), fun z => absurd (show (1 : Nat) = 2 from z) (by decide)⟩
      · have h2 : ¬ wh < 2 := by rcases h with h | h <;> rw [h] <;> decide
        have h0 : wh ≠ 0 := by rcases h with h | h <;> rw [h] <;> decide
        refine ⟨(2, c, p), _, nI p, rfl, by omega, Or.inr (Or.inr ⟨rfl, hmen h0, ⟨d, hp, rfl⟩, rfl⟩), ?_, fun _ => by rw [← hl4, if_neg h2], fun _ => rfl⟩
        rcases h with h | h
        · exact Or.inl (by rw [h]; rfl)
        · exact Or.inr ⟨rfl, h⟩
    subst hoc
    -- the stand behind it
    obtain ⟨σa, -, sa1, ma, wa, ya⟩ := mtake hF hK hMH hSK
    obtain ⟨σb, -, -, -, hLb, -⟩ := mdo (hGM.sm sa1 (by simp) (by simp) (by simp) (by simp)) hSK ma wa ya hv hl3o hF
    generalize ht : ((men', σb.1 23) : Std) = t
    have hL : LeO E t.1 (fun i => bt (S K).2 i = true) (fun p => nI p = l1) (fun i => bt t.2 i = true) := by rw [← ht]; exact hLb
    have htm : t.1 = men' := by rw [← ht]
    have hT : Tr n E o (S K) t := by rw [← ht]; exact hv.tr hLb
    have hSt : SO n E t := by rw [← ht]; exact hv.so hGC.1 hSK hLb
    obtain ⟨σ2, e2, s2, x2, w2⟩ := follow12 hGC (F := F) (by omega) hSK ⟨hXN.1, hXN.2.1, hXN.2.2.1⟩ hXN.2.2.2 hT hwh hl4o
    have can : fX3_canBeDone F σ wh (nI o.2.1) = some (1, σ) := by
      unfold fX3_canBeDone
      by_cases h : wh = 0
      · rw [if_pos h, hXN.2.1, if_neg (by rw [show (9 : Int32) = nI 9 by decide]; exact nI_ge (hput h) (by omega))]
      · simp only [if_neg h, if_pos ic, hcc, hXN.1 o.2.1 (by omega), if_neg (fun z => by have := m0.mp z; have := hmen h; omega)]
    -- the reference, at any state with this ground and these stands
    have ref : ∀ σ1 : Sg, GM σ1 n E → MH σ1 E K S O → ∃ σ3, Sm [23, 24] [29] σ1 σ3 ∧ MN σ3 t.1 ∧ σ3.1 23 = t.2 ∧ (∀ i, bt (σ3.1 24) i = true ↔ PO E (fun i => bt t.2 i = true) i) ∧ bX7_order_41 F σ1 wh (nI o.2.1) l3 = if wh = 3 ∧ ¬ (t.2 &&& ((S K).2 ^^^ (-1))) = 0 then some (0, σ3) else bX7_order_161 F σ3 wh (nI o.2.1) l3 := by
      intro σ1 hG1 hM1
      obtain ⟨σc, ec, sc, mc, wc, yc⟩ := mtake hF hK hM1 hSK
      have hGc := hG1.sm sc (by simp) (by simp) (by simp) (by simp)
      obtain ⟨σ3, e3, hd⟩ := mdo hGc hSK mc wc yc hv hl3o hF
      obtain ⟨d1, d2, d3, d4⟩ := hd
      have d23 : σ3.1 23 = t.2 := b_ext' fun i => by
        have := d3.uniq (by rw [← htm]; exact hL) i
        exact this
      have d24 : ∀ i, bt (σ3.1 24) i = true ↔ PO E (fun i => bt t.2 i = true) i := by rw [← d23]; exact d4
      refine ⟨σ3, sc.tr d1, by rw [htm]; exact d2, d23, d24, ?_⟩
      have hcK : (nI K).toNatClampNeg = K := nI_clamp (by omega)
      have iK : ib (nI K) 201 := nI_in (by omega) (by omega)
      have s13 := sc.tr d1
      have e25 : σ3.1 25 = nI K := (s13.1 25 (by simp)).trans hM1.1
      have e34 : σ3.2.1 34 K = (S K).2 := by rw [s13.2.1 34 (by simp)]; exact (hM1.2.1 K (Nat.le_refl K)).2.1
      have e35 : ∀ i, bt (σ3.2.1 35 K) i = true ↔ PO E (fun i => bt (S K).2 i = true) i := by rw [s13.2.1 35 (by simp)]; exact (hM1.2.1 K (Nat.le_refl K)).2.2
      have e88 : bX7_order_41 F σ1 wh (nI o.2.1) l3 = bX7_order_88 F σc wh (nI o.2.1) l3 := by
        unfold bX7_order_41
        rw [if_neg (by rw [hM1.1]; exact k200''), ec]
        simp only [Option.bind_some]
        by_cases h : wh = 0
        · rw [if_pos h, blw hGc mc hF]
          simp only [Option.bind_some]
          rw [if_neg (fun z => by rw [show (9 : Int32) = nI 9 by decide, nI_eq (by omega) (by omega)] at z; have := hput h; omega)]
        · simp only [if_neg h, if_pos ic, hcc, (mc o.2.1 (by omega)).1, if_neg (fun z => by have := mz.mp z; have := hmen h; omega)]
      rw [e88]
      unfold bX7_order_88
      by_cases h3 : wh = 3
      · have o2 : o.1 = 2 := by
          rcases hwh with h | h
          · rw [h3, show (3 : Int32) = nI 3 by decide, nI_eq (by omega) (by omega)] at h; omega
          · exact h.1
        rw [o2, show nI 2 = 2 by decide] at e3
        rw [if_pos h3, e3]
        simp only [Option.bind_some, e25, if_pos iK, hcK, d23, e34]
        unfold bX7_order_142
        simp only [if_pos h3, if_neg (show ¬ (1 : Int32) = 0 by decide), if_true]
        by_cases hz : (t.2 &&& ((S K).2 ^^^ (-1))) = 0
        · have hz2 : (σ3.1 24 &&& (σ3.2.1 35 K ^^^ (-1))) = 0 := by
            refine b_zero.mpr fun i hi => ?_
            cases hb24 : bt (σ3.1 24 &&& (σ3.2.1 35 K ^^^ (-1))) i with
            | false => rfl
            | true =>
              exfalso
              rw [b_and, b_not _ hi, Bool.and_eq_true] at hb24
              obtain ⟨a, b, p1, p2⟩ := (d24 i).mp hb24.1
              have sub : ∀ j, bt t.2 j = true → bt (S K).2 j = true := fun j hj => by
                by_cases hj32 : j < 32
                · have := b_zero.mp hz j hj32
                  rw [b_and, b_not _ hj32, hj] at this
                  simpa using this
                · rw [b_big (by omega)] at hj; cases hj
              have : bt (σ3.2.1 35 K) i = true := (e35 i).mpr ⟨a, b, p1, p2.elim (fun z => Or.inl (sub a z)) (fun z => Or.inr (sub b z))⟩
              rw [this] at hb24; exact absurd hb24.2 (by decide)
          rw [if_pos hz, if_pos hz2, if_neg (fun z => z.2 hz)]
        · rw [if_neg hz, if_pos ⟨h3, hz⟩]
      · have o2 : wh = nI o.1 := hwh.resolve_right (fun h => h3 h.2)
        rw [if_neg h3, if_neg (fun z => h3 z.1)]
        rw [← o2] at e3
        rw [e3]
        simp only [Option.bind_some, e25, if_pos iK]
        unfold bX7_order_142
        simp only [if_neg h3]
        split
        · split <;> rfl
        · rfl
    by_cases hlose : wh = 3 ∧ ¬ (t.2 &&& ((S K).2 ^^^ (-1))) = 0
    · -- GUARD loses: both refuse
      obtain ⟨σ3, e3, s3, x3, w3⟩ := goB (hGC.sm s2 (by simp) (by simp) (by simp) (by simp) (by simp) (by simp)) F hSK hSt x2 hT (l5 := (S K).2) hwh hl4o
      have hs := s2.tr s3
      have hG3 := hGM.sm hs (by simp) (by simp) (by simp) (by simp)
      have hM3 := hMH.sm hs (by simp) (by simp) (by simp) (by simp) (by simp) (by simp)
      obtain ⟨σ4, s4, -, -, -, e4⟩ := ref σ3 hG3 hM3
      have hD3 : InvD σ3 wn n E mo row K S O := ⟨hGC.sm hs (by simp) (by simp) (by simp) (by simp) (by simp) (by simp), hG3, hMO.sm hs (by simp) (by simp), hLY, hL1.sm hs (by simp), hL2.sm hs (by simp), hHI, ⟨x3.1, x3.2.1, x3.2.2, w3⟩, hXH.sm hs (by simp) (by simp) (by simp) (by simp) (by simp) (by simp) (by simp), hM3, hPL.sm hs (by simp) (by simp) (by simp)⟩
      refine ⟨0, σ3, σ4, ?_, ?_, ⟨n, E, mo, row, K, S, O, hD3.scr s4 (by simp) (by simp)⟩, Or.inl ⟨rfl, by rw [s4.2.1 43 (by simp), hs.2.1 43 (by simp)], s4.2.2.trans hs.2.2⟩, hG3⟩
      · rw [cls]
        unfold fX3_carryOut
        rw [hXH.1, if_neg k200', can]
        simp only [Option.bind_some, if_neg (show ¬ (1 : Int32) = 0 by decide)]
        rw [e2]
        simp only [Option.bind_some, if_pos hlose.1, w2, hXN.2.2.2, if_neg hlose.2, e3]
        rfl
      · rw [e4, if_pos hlose]
    · -- done
      obtain ⟨σ', e3, s3, xn, xh⟩ := xcar F hlt hHI hXH hSt hwh hl4o s2 x2 w2
      have hG3 := hGM.sm s3 (by simp) (by simp) (by simp) (by simp)
      have hM3 := hMH.sm s3 (by simp) (by simp) (by simp) (by simp) (by simp) (by simp)
      obtain ⟨σ4, s4, m4, w4, y4, e4⟩ := ref σ' hG3 hM3
      obtain ⟨τ, e5, s5, mh⟩ := mcar hF hlt hM3 hwh ho2 s4 m4 w4 y4 (l4 := l3)
      have hs : Sm [3, 4, 5, 6, 7, 23, 24, 25] [7, 8, 9, 10, 11, 13, 29, 30, 31, 32, 33, 34, 35] σ τ := (s3.up (fun i hi => by simp at hi; simp; omega) (fun k hk => by simp at hk; simp; omega)).tr (s5.up (fun i hi => by simp at hi; simp; omega) (fun k hk => by simp at hk; simp; omega))
      refine ⟨1, σ', τ, ?_, ?_, ⟨n, E, mo, row, K + 1, apS S K t, apO O K o, hGC.sm hs (by simp) (by simp) (by simp) (by simp) (by simp) (by simp), hGM.sm hs (by simp) (by simp) (by simp) (by simp), hMO.sm hs (by simp) (by simp), hLY, hL1.sm hs (by simp), hL2.sm hs (by simp), hHI.ap hlt hT hSt, by rw [apS_r]; exact xn.sm s5 (by simp) (by simp) (by simp) (by simp), xh.sm s5 (by simp) (by simp) (by simp) (by simp) (by simp) (by simp) (by simp), mh, hPL.sm hs (by simp) (by simp) (by simp)⟩, hs.keep (by simp), hG3⟩
      · rw [cls]
        unfold fX3_carryOut
        rw [hXH.1, if_neg k200', can]
        simp only [Option.bind_some, if_neg (show ¬ (1 : Int32) = 0 by decide)]
        rw [e2]
        simp only [Option.bind_some, w2, hXN.2.2.2]
        by_cases h3 : wh = 3
        · have hz : (t.2 &&& ((S K).2 ^^^ (-1))) = 0 := Classical.byContradiction fun z => hlose ⟨h3, z⟩
          rw [if_pos h3, if_pos hz, e3]; rfl
        · rw [if_neg h3, e3]; rfl
      · rw [e4, if_neg hlose]; exact e5
