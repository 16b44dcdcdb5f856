/-! the stand at cell 12 -/
def XM12 (σ : Sg) (n : Nat) (men : Nat → Nat) : Prop := (∀ c, c < 12 → σ.2.1 13 c = nI (men c)) ∧ σ.1 5 = nI (tot n men) ∧ ∀ i, bt (σ.1 6) i = true ↔ (i < n ∧ 0 < men i)
theorem come12 {σ : Sg} {n : Nat} (hn : n ≤ 12) {men : Nat → Nat} (h : XM12 σ n men) (F : Nat) {c : Nat} (hc : c < n) : ∃ τ, fX4_come_12 F σ (nI c) = some (0, τ) ∧ Sm [5, 6] [13] σ τ ∧ XM12 τ n (up1 men c (men c + 1)) := by
  obtain ⟨h1, h2, h3⟩ := h
  have hcc : (nI c).toNatClampNeg = c := nI_clamp (by omega)
  have ic : ib (nI c) 12 := nI_in (by omega) (by omega)
  have ht := tot_up (men := men) (v := men c + 1) hc
  refine ⟨sv (sv (sa σ 13 c (nI (men c + 1))) 5 (nI (tot n men + 1))) 6 (σ.1 6 ||| ((1 : Int32) <<< (nI c &&& 31))), ?_, ((Sm.sa (by simp)).tr (Sm.sv (by simp))).tr (Sm.sv (by simp)), fun d hd => ?_, ?_, fun i => ?_⟩
  · unfold fX4_come_12 ls_
    simp only [if_pos ic, hcc, h1 c (by omega), nI_1]
    have e5 : (sa σ 13 c (nI (men c + 1))).1 5 = nI (tot n men) := h2
    rw [e5, nI_1]; rfl
  · show upd (σ.2.1 13) c (nI (men c + 1)) d = _
    rw [upd_at]
    by_cases h : d = c
    · rw [if_pos h, h, up1_s]
    · rw [if_neg h, up1_o men _ h]; exact h1 d hd
  · show nI (tot n men + 1) = _
    congr 1; omega
  · show bt (σ.1 6 ||| ((1 : Int32) <<< (nI c &&& 31))) i = true ↔ _
    rw [b_or, b_bit (by omega), Bool.or_eq_true, decide_eq_true_eq, h3]
    by_cases h : i = c
    · subst h; rw [up1_s]; constructor
      · intro _; omega
      · intro _; exact Or.inr rfl
    · rw [up1_o men _ h]; simp [h]
theorem leave12 {σ : Sg} {n : Nat} (hn : n ≤ 12) {men : Nat → Nat} (h : XM12 σ n men) (F : Nat) {c : Nat} (hc : c < n) (h0 : 0 < men c) (hm : men c < 1000) (hm2 : tot n men < 100000) : ∃ τ, fX4_leave_12 F σ (nI c) = some (0, τ) ∧ Sm [5, 6] [13] σ τ ∧ XM12 τ n (up1 men c (men c - 1)) := by
  obtain ⟨h1, h2, h3⟩ := h
  have hcc : (nI c).toNatClampNeg = c := nI_clamp (by omega)
  have ic : ib (nI c) 12 := nI_in (by omega) (by omega)
  have ht := tot_up (men := men) (v := men c - 1) hc
  have hle := tot_le n men hc
  generalize hσ1 : sv (sa σ 13 c (nI (men c - 1))) 5 (nI (tot n men - 1)) = σ1
  have s1 : Sm [5, 6] [13] σ σ1 := by rw [← hσ1]; exact (Sm.sa (by simp)).tr (Sm.sv (by simp))
  have a1 : ∀ d, d < 12 → σ1.2.1 13 d = nI (up1 men c (men c - 1) d) := by
    intro d hd
    rw [← hσ1]
    show upd (σ.2.1 13) c (nI (men c - 1)) d = _
    rw [upd_at]
    by_cases h : d = c
    · rw [if_pos h, h, up1_s]
    · rw [if_neg h, up1_o men _ h]; exact h1 d hd
  have a2 : σ1.1 5 = nI (tot n (up1 men c (men c - 1))) := by
    rw [← hσ1]
    show nI (tot n men - 1) = _
    congr 1; omega
  have a3 : σ1.1 6 = σ.1 6 := by rw [← hσ1]; rfl
  have e1 : fX4_leave_12 F σ (nI c) = if nI (men c - 1) = 0 then some (0, sv σ1 6 (σ1.1 6 &&& (((1 : Int32) <<< (nI c &&& 31)) ^^^ (-1)))) else some (0, σ1) := by
    unfold fX4_leave_12 ls_
    simp only [if_pos ic, hcc, h1 c (by omega), nI_sub1 h0]
    have e5 : (sa σ 13 c (nI (men c - 1))).1 5 = nI (tot n men) := h2
    simp only [e5, nI_sub1 (show 0 < tot n men by omega), hσ1]
    have e6 : σ1.2.1 13 c = nI (men c - 1) := by rw [a1 c (by omega), up1_s]
    rw [e6]
  rw [e1]
  by_cases hz : men c - 1 = 0
  · rw [if_pos (by rw [hz, nI_0])]
    refine ⟨_, rfl, s1.tr (Sm.sv (by simp)), a1, a2, fun i => ?_⟩
    rw [sv_1, if_pos rfl, b_clr (by omega), a3, h3]
    by_cases h : i = c
    · subst h; rw [up1_s]; omega
    · rw [up1_o men _ h]; simp [h]
  · rw [if_neg (fun z => hz ((men0 (by omega)).mp z))]
    refine ⟨_, rfl, s1, a1, a2, fun i => ?_⟩
    rw [a3, h3]
    by_cases h : i = c
    · subst h; rw [up1_s]; omega
    · rw [up1_o men _ h]
/-! the stand at cell 22 -/
def XM22 (σ : Sg) (n : Nat) (men : Nat → Nat) : Prop := (∀ c, c < 12 → σ.2.1 23 c = nI (men c)) ∧ σ.1 18 = nI (tot n men) ∧ ∀ i, bt (σ.1 19) i = true ↔ (i < n ∧ 0 < men i)
theorem come22 {σ : Sg} {n : Nat} (hn : n ≤ 12) {men : Nat → Nat} (h : XM22 σ n men) (F : Nat) {c : Nat} (hc : c < n) : ∃ τ, fX4_come_22 F σ (nI c) = some (0, τ) ∧ Sm [18, 19] [23] σ τ ∧ XM22 τ n (up1 men c (men c + 1)) := by
  obtain ⟨h1, h2, h3⟩ := h
  have hcc : (nI c).toNatClampNeg = c := nI_clamp (by omega)
  have ic : ib (nI c) 12 := nI_in (by omega) (by omega)
  have ht := tot_up (men := men) (v := men c + 1) hc
  refine ⟨sv (sv (sa σ 23 c (nI (men c + 1))) 18 (nI (tot n men + 1))) 19 (σ.1 19 ||| ((1 : Int32) <<< (nI c &&& 31))), ?_, ((Sm.sa (by simp)).tr (Sm.sv (by simp))).tr (Sm.sv (by simp)), fun d hd => ?_, ?_, fun i => ?_⟩
  · unfold fX4_come_22 ls_
    simp only [if_pos ic, hcc, h1 c (by omega), nI_1]
    have e5 : (sa σ 23 c (nI (men c + 1))).1 18 = nI (tot n men) := h2
    rw [e5, nI_1]; rfl
  · show upd (σ.2.1 23) c (nI (men c + 1)) d = _
    rw [upd_at]
    by_cases h : d = c
    · rw [if_pos h, h, up1_s]
    · rw [if_neg h, up1_o men _ h]; exact h1 d hd
  · show nI (tot n men + 1) = _
    congr 1; omega
  · show bt (σ.1 19 ||| ((1 : Int32) <<< (nI c &&& 31))) i = true ↔ _
    rw [b_or, b_bit (by omega), Bool.or_eq_true, decide_eq_true_eq, h3]
    by_cases h : i = c
    · subst h; rw [up1_s]; constructor
      · intro _; omega
      · intro _; exact Or.inr rfl
    · rw [up1_o men _ h]; simp [h]
theorem leave22 {σ : Sg} {n : Nat} (hn : n ≤ 12) {men : Nat → Nat} (h : XM22 σ n men) (F : Nat) {c : Nat} (hc : c < n) (h0 : 0 < men c) (hm : men c < 1000) (hm2 : tot n men < 100000) : ∃ τ, fX4_leave_22 F σ (nI c) = some (0, τ) ∧ Sm [18, 19] [23] σ τ ∧ XM22 τ n (up1 men c (men c - 1)) := by
  obtain ⟨h1, h2, h3⟩ := h
  have hcc : (nI c).toNatClampNeg = c := nI_clamp (by omega)
  have ic : ib (nI c) 12 := nI_in (by omega) (by omega)
  have ht := tot_up (men := men) (v := men c - 1) hc
  have hle := tot_le n men hc
  generalize hσ1 : sv (sa σ 23 c (nI (men c - 1))) 18 (nI (tot n men - 1)) = σ1
  have s1 : Sm [18, 19] [23] σ σ1 := by rw [← hσ1]; exact (Sm.sa (by simp)).tr (Sm.sv (by simp))
  have a1 : ∀ d, d < 12 → σ1.2.1 23 d = nI (up1 men c (men c - 1) d) := by
    intro d hd
    rw [← hσ1]
    show upd (σ.2.1 23) c (nI (men c - 1)) d = _
    rw [upd_at]
    by_cases h : d = c
    · rw [if_pos h, h, up1_s]
    · rw [if_neg h, up1_o men _ h]; exact h1 d hd
  have a2 : σ1.1 18 = nI (tot n (up1 men c (men c - 1))) := by
    rw [← hσ1]
    show nI (tot n men - 1) = _
    congr 1; omega
  have a3 : σ1.1 19 = σ.1 19 := by rw [← hσ1]; rfl
  have e1 : fX4_leave_22 F σ (nI c) = if nI (men c - 1) = 0 then some (0, sv σ1 19 (σ1.1 19 &&& (((1 : Int32) <<< (nI c &&& 31)) ^^^ (-1)))) else some (0, σ1) := by
    unfold fX4_leave_22 ls_
    simp only [if_pos ic, hcc, h1 c (by omega), nI_sub1 h0]
    have e5 : (sa σ 23 c (nI (men c - 1))).1 18 = nI (tot n men) := h2
    simp only [e5, nI_sub1 (show 0 < tot n men by omega), hσ1]
    have e6 : σ1.2.1 23 c = nI (men c - 1) := by rw [a1 c (by omega), up1_s]
    rw [e6]
  rw [e1]
  by_cases hz : men c - 1 = 0
  · rw [if_pos (by rw [hz, nI_0])]
    refine ⟨_, rfl, s1.tr (Sm.sv (by simp)), a1, a2, fun i => ?_⟩
    rw [sv_1, if_pos rfl, b_clr (by omega), a3, h3]
    by_cases h : i = c
    · subst h; rw [up1_s]; omega
    · rw [up1_o men _ h]; simp [h]
  · rw [if_neg (fun z => hz ((men0 (by omega)).mp z))]
    refine ⟨_, rfl, s1, a1, a2, fun i => ?_⟩
    rw [a3, h3]
    by_cases h : i = c
    · subst h; rw [up1_s]; omega
    · rw [up1_o men _ h]
theorem otherX {σ : Sg} {n : Nat} {E : Gr} (hG : GC σ n E) (F : Nat) {p c d : Nat} (h : E p = some (c, d) ∨ E p = some (d, c)) : fX1_otherEnd F σ (nI p) (nI c) = some (nI d, σ) := by
  obtain ⟨⟨hn, hE⟩, g1, g2, g3, -⟩ := hG
  have hp : p < 18 := by rcases h with h | h <;> exact (hE _ _ _ h).1
  have hcp : (nI p).toNatClampNeg = p := nI_clamp (by omega)
  have ip : ib (nI p) 18 := nI_in hp (by omega)
  unfold fX1_otherEnd
  simp only [if_pos ip, hcp]
  rcases h with h | h
  · obtain ⟨e1, e2⟩ := g3 p c d h
    rw [e1, if_pos rfl, e2]
  · obtain ⟨e1, e2⟩ := g3 p d c h
    obtain ⟨-, h1, h2⟩ := hE p d c h
    rw [e1, if_neg (fun z => by rw [nI_eq (by omega) (by omega)] at z; omega)]
theorem SO.bd {n : Nat} {E : Gr} {s : Std} (h : SO n E s) (c : Nat) : s.1 c ≤ 9 := by
  by_cases hc : c < n
  · have := tot_le n s.1 hc; have := h.2.2.2; omega
  · rw [h.1 c (by omega)]; omega
/-- an order keeps the stand a stand -/
theorem SO.next {n : Nat} {E : Gr} (hE : GrOk n E) {s : Std} (h : SO n E s) {men' : Nat → Nat} {w' : Int32} {sl : Nat → Prop} (h1 : ∀ c, n ≤ c → men' c = 0) (h2 : LeO E men' (fun i => bt s.2 i = true) sl (fun i => bt w' i = true)) (h3 : tot n men' ≤ 9) : SO n E (men', w') := by
  refine ⟨h1, fun i hi => ⟨h2.lt (fun p a b hp => by have := hE.2 p a b hp; omega) (fun i hi => (h.2.1 i hi).1) i hi, h2.men i hi⟩, fun p a b hp ha hb => ?_, h3⟩
  obtain ⟨-, c2, c3⟩ := h2.1.2 p a b hp
  exact ⟨fun z => c2 z hb, fun z => c3 z ha⟩
/-- follow: an order, at the stand of cell 12; what 0, 1, or 2 and 3 -/
theorem follow12 {σ : Sg} {n : Nat} {E : Gr} (hG : GC σ n E) {F : Nat} (hF : 13 ≤ F) {s t : Std} {o : Ord_} (hs : SO n E s) (hX : XM12 σ n s.1) (hw : σ.1 7 = s.2) (hT : Tr n E o s t) {wh l4 : Int32} (hwh : wh = nI o.1 ∨ (o.1 = 2 ∧ wh = 3)) (hl4 : o.1 = 2 → l4 = nI o.2.2) :
    ∃ τ, fX4_follow_12 F σ wh (nI o.2.1) l4 = some (0, τ) ∧ Sm [5, 6, 7] [13] σ τ ∧ XM12 τ n t.1 ∧ τ.1 7 = t.2 := by
  have hn := hG.1.1
  have hb := hs.bd
  have h9 := hs.2.2.2
  have fin : ∀ {σ1 : Sg} {l5 : Int32} {sl : Nat → Prop}, Sm [5, 6] [13] σ σ1 → XM12 σ1 n t.1 → o.2.1 < n → (∀ d, d ≠ o.2.1 → t.1 d = 0 → s.1 d = 0) → (∀ i, i < 18 → (bt l5 i = true ↔ sl i)) → (∀ p, p < 18 → sl p → ∃ e, (E p = some (o.2.1, e) ∨ E p = some (e, o.2.1)) ∧ 0 < t.1 e) → LeO E t.1 (fun i => bt s.2 i = true) sl (fun i => bt t.2 i = true) → ∃ τ, ((fX1_lostBehind F σ1 (σ1.1 7) (σ1.1 6) (nI o.2.1) l5).bind fun q1 => (fun (r1 : Int32) (σ1 : Sg) => ls_ (sv σ1 7 r1) fun σ2 => some ((0 : Int32), σ2)) q1.1 q1.2) = some (0, τ) ∧ Sm [5, 6, 7] [13] σ τ ∧ XM12 τ n t.1 ∧ τ.1 7 = t.2 := by
    intro σ1 l5 sl hs1 hX1 hc hmv hl5 hsl hL
    have hG1 := hG.sm hs1 (by simp) (by simp) (by simp) (by simp) (by simp) (by simp)
    have e7 : σ1.1 7 = s.2 := (hs1.1 7 (by simp)).trans hw
    obtain ⟨w', e, hL'⟩ := lostB hG1 hF (men := s.1) (men' := t.1) (w := s.2) (g := σ1.1 6) hc hs.2.1 hs.2.2.1 hX1.2.2 hmv hl5 hsl
    have ew : w' = t.2 := b_ext' fun i => hL'.uniq hL i
    subst ew
    rw [e7, e]
    refine ⟨sv σ1 7 t.2, rfl, (hs1.up (fun i hi => by simp at hi; simp; omega) (fun k hk => hk)).tr (Sm.sv (by simp)), ⟨hX1.1, ?_, fun i => ?_⟩, ?_⟩
    · rw [sv_1, if_neg (by decide)]; exact hX1.2.1
    · rw [sv_1, if_neg (by decide)]; exact hX1.2.2 i
    · rw [sv_1, if_pos rfl]
  rcases hT with ⟨ho, hc, hm, hL⟩ | ⟨ho, hc, h0, hm, hL⟩ | ⟨ho, h0, d, hp, hm, hL⟩
  · have hwh' : wh = 0 := by
      rcases hwh with h | h
      · rw [h, ho, nI_0]
      · omega
    subst hwh'
    obtain ⟨σ1, e1, s1, x1⟩ := come12 hn hX F hc
    rw [← hm] at x1
    obtain ⟨τ, e2, r⟩ := fin (l5 := 0) s1 x1 hc (fun d hd hz => by rw [hm, up1_o s.1 _ hd] at hz; exact hz) (fun i hi => by rw [b_0]; constructor; (intro z; cases z); (intro z; exact absurd z (fun z => nI_pos (n := i) (by omega) (by rw [z]; decide)))) (fun p hp z => absurd z (fun z => nI_pos (n := p) (by omega) (by rw [z]; decide))) hL
    refine ⟨τ, ?_, r⟩
    unfold fX4_follow_12 bX4_follow_12_9 bX4_follow_12_37
    rw [if_pos rfl, if_pos rfl, e1]
    simp only [Option.bind_some, if_pos (show (0 : Int32) < 2 by decide)]
    exact e2
  · have hwh' : wh = 1 := by
      rcases hwh with h | h
      · rw [h, ho]; rfl
      · omega
    subst hwh'
    obtain ⟨σ1, e1, s1, x1⟩ := leave12 hn hX F hc h0 (by have := hb o.2.1; omega) (by omega)
    rw [← hm] at x1
    obtain ⟨τ, e2, r⟩ := fin (l5 := 0) s1 x1 hc (fun d hd hz => by rw [hm, up1_o s.1 _ hd] at hz; exact hz) (fun i hi => by rw [b_0]; constructor; (intro z; cases z); (intro z; exact absurd z (fun z => nI_pos (n := i) (by omega) (by rw [z]; decide)))) (fun p hp z => absurd z (fun z => nI_pos (n := p) (by omega) (by rw [z]; decide))) hL
    refine ⟨τ, ?_, r⟩
    unfold fX4_follow_12 bX4_follow_12_9 bX4_follow_12_37
    rw [if_neg (by decide), e1]
    simp only [Option.bind_some, if_neg (show ¬ (1 : Int32) = 0 by decide), if_true, if_pos (show (1 : Int32) < 2 by decide)]
    exact e2
  · have hcd : o.2.1 < n ∧ d < n ∧ d ≠ o.2.1 ∧ o.2.2 < 18 := by rcases hp with h | h <;> have := hG.1.2 _ _ _ h <;> omega
    obtain ⟨σ1, e1, s1, x1⟩ := leave12 hn hX F hcd.1 h0 (by have := hb o.2.1; omega) (by omega)
    have hG1 := hG.sm s1 (by simp) (by simp) (by simp) (by simp) (by simp) (by simp)
    obtain ⟨σ2, e2, s2, x2⟩ := come12 hn x1 F hcd.2.1
    rw [up1_o s.1 _ hcd.2.2.1, ← hm] at x2
    have el := hl4 ho
    obtain ⟨τ, e3, r⟩ := fin (l5 := (1 : Int32) <<< (nI o.2.2 &&& 31)) (s1.tr s2) x2 hcd.1 (fun e he hz => by
      rw [hm] at hz
      by_cases hed : e = d
      · rw [hed, up1_s] at hz; omega
      · rw [up1_o _ _ hed, up1_o s.1 _ he] at hz; exact hz) (fun i hi => by rw [b_bit (by omega), decide_eq_true_eq, nI_eq (by omega) (by omega)]) (fun p hp18 z => by
      rw [nI_eq (by omega) (by omega)] at z
      subst z
      exact ⟨d, hp, by rw [hm, up1_s]; omega⟩) hL
    refine ⟨τ, ?_, r⟩
    have ho' := otherX hG1 F hp
    unfold fX4_follow_12 bX4_follow_12_9 bX4_follow_12_37
    have w2 : wh = 2 ∨ wh = 3 := by
      rcases hwh with h | h
      · left; rw [h, ho]; rfl
      · exact Or.inr h.2
    rw [el]
    rcases w2 with rfl | rfl
    · rw [if_neg (by decide), e1]
      simp only [Option.bind_some, if_neg (show ¬ (2 : Int32) = 0 by decide), if_neg (show ¬ (2 : Int32) = 1 by decide), ho', e2, if_neg (show ¬ (2 : Int32) < 2 by decide)]
      exact e3
    · rw [if_neg (by decide), e1]
      simp only [Option.bind_some, if_neg (show ¬ (3 : Int32) = 0 by decide), if_neg (show ¬ (3 : Int32) = 1 by decide), ho', e2, if_neg (show ¬ (3 : Int32) < 2 by decide)]
      exact e3
/-- follow: an order, at the stand of cell 22; what 0, 1, or 2 and 3 -/
theorem follow22 {σ : Sg} {n : Nat} {E : Gr} (hG : GC σ n E) {F : Nat} (hF : 13 ≤ F) {s t : Std} {o : Ord_} (hs : SO n E s) (hX : XM22 σ n s.1) (hw : σ.1 20 = s.2) (hT : Tr n E o s t) {wh l4 : Int32} (hwh : wh = nI o.1 ∨ (o.1 = 2 ∧ wh = 3)) (hl4 : o.1 = 2 → l4 = nI o.2.2) :
    ∃ τ, fX4_follow_22 F σ wh (nI o.2.1) l4 = some (0, τ) ∧ Sm [18, 19, 20] [23] σ τ ∧ XM22 τ n t.1 ∧ τ.1 20 = t.2 := by
  have hn := hG.1.1
  have hb := hs.bd
  have h9 := hs.2.2.2
  have fin : ∀ {σ1 : Sg} {l5 : Int32} {sl : Nat → Prop}, Sm [18, 19] [23] σ σ1 → XM22 σ1 n t.1 → o.2.1 < n → (∀ d, d ≠ o.2.1 → t.1 d = 0 → s.1 d = 0) → (∀ i, i < 18 → (bt l5 i = true ↔ sl i)) → (∀ p, p < 18 → sl p → ∃ e, (E p = some (o.2.1, e) ∨ E p = some (e, o.2.1)) ∧ 0 < t.1 e) → LeO E t.1 (fun i => bt s.2 i = true) sl (fun i => bt t.2 i = true) → ∃ τ, ((fX1_lostBehind F σ1 (σ1.1 20) (σ1.1 19) (nI o.2.1) l5).bind fun q1 => (fun (r1 : Int32) (σ1 : Sg) => ls_ (sv σ1 20 r1) fun σ2 => some ((0 : Int32), σ2)) q1.1 q1.2) = some (0, τ) ∧ Sm [18, 19, 20] [23] σ τ ∧ XM22 τ n t.1 ∧ τ.1 20 = t.2 := by
    intro σ1 l5 sl hs1 hX1 hc hmv hl5 hsl hL
    have hG1 := hG.sm hs1 (by simp) (by simp) (by simp) (by simp) (by simp) (by simp)
    have e7 : σ1.1 20 = s.2 := (hs1.1 20 (by simp)).trans hw
    obtain ⟨w', e, hL'⟩ := lostB hG1 hF (men := s.1) (men' := t.1) (w := s.2) (g := σ1.1 19) hc hs.2.1 hs.2.2.1 hX1.2.2 hmv hl5 hsl
    have ew : w' = t.2 := b_ext' fun i => hL'.uniq hL i
    subst ew
    rw [e7, e]
    refine ⟨sv σ1 20 t.2, rfl, (hs1.up (fun i hi => by simp at hi; simp; omega) (fun k hk => hk)).tr (Sm.sv (by simp)), ⟨hX1.1, ?_, fun i => ?_⟩, ?_⟩
    · rw [sv_1, if_neg (by decide)]; exact hX1.2.1
    · rw [sv_1, if_neg (by decide)]; exact hX1.2.2 i
    · rw [sv_1, if_pos rfl]
  rcases hT with ⟨ho, hc, hm, hL⟩ | ⟨ho, hc, h0, hm, hL⟩ | ⟨ho, h0, d, hp, hm, hL⟩
  · have hwh' : wh = 0 := by
      rcases hwh with h | h
      · rw [h, ho, nI_0]
      · omega
    subst hwh'
    obtain ⟨σ1, e1, s1, x1⟩ := come22 hn hX F hc
    rw [← hm] at x1
    obtain ⟨τ, e2, r⟩ := fin (l5 := 0) s1 x1 hc (fun d hd hz => by rw [hm, up1_o s.1 _ hd] at hz; exact hz) (fun i hi => by rw [b_0]; constructor; (intro z; cases z); (intro z; exact absurd z (fun z => nI_pos (n := i) (by omega) (by rw [z]; decide)))) (fun p hp z => absurd z (fun z => nI_pos (n := p) (by omega) (by rw [z]; decide))) hL
    refine ⟨τ, ?_, r⟩
    unfold fX4_follow_22 bX4_follow_22_9 bX4_follow_22_37
    rw [if_pos rfl, if_pos rfl, e1]
    simp only [Option.bind_some, if_pos (show (0 : Int32) < 2 by decide)]
    exact e2
  · have hwh' : wh = 1 := by
      rcases hwh with h | h
      · rw [h, ho]; rfl
      · omega
    subst hwh'
    obtain ⟨σ1, e1, s1, x1⟩ := leave22 hn hX F hc h0 (by have := hb o.2.1; omega) (by omega)
    rw [← hm] at x1
    obtain ⟨τ, e2, r⟩ := fin (l5 := 0) s1 x1 hc (fun d hd hz => by rw [hm, up1_o s.1 _ hd] at hz; exact hz) (fun i hi => by rw [b_0]; constructor; (intro z; cases z); (intro z; exact absurd z (fun z => nI_pos (n := i) (by omega) (by rw [z]; decide)))) (fun p hp z => absurd z (fun z => nI_pos (n := p) (by omega) (by rw [z]; decide))) hL
    refine ⟨τ, ?_, r⟩
    unfold fX4_follow_22 bX4_follow_22_9 bX4_follow_22_37
    rw [if_neg (by decide), e1]
    simp only [Option.bind_some, if_neg (show ¬ (1 : Int32) = 0 by decide), if_true, if_pos (show (1 : Int32) < 2 by decide)]
    exact e2
  · have hcd : o.2.1 < n ∧ d < n ∧ d ≠ o.2.1 ∧ o.2.2 < 18 := by rcases hp with h | h <;> have := hG.1.2 _ _ _ h <;> omega
    obtain ⟨σ1, e1, s1, x1⟩ := leave22 hn hX F hcd.1 h0 (by have := hb o.2.1; omega) (by omega)
    have hG1 := hG.sm s1 (by simp) (by simp) (by simp) (by simp) (by simp) (by simp)
    obtain ⟨σ2, e2, s2, x2⟩ := come22 hn x1 F hcd.2.1
    rw [up1_o s.1 _ hcd.2.2.1, ← hm] at x2
    have el := hl4 ho
    obtain ⟨τ, e3, r⟩ := fin (l5 := (1 : Int32) <<< (nI o.2.2 &&& 31)) (s1.tr s2) x2 hcd.1 (fun e he hz => by
      rw [hm] at hz
      by_cases hed : e = d
      · rw [hed, up1_s] at hz; omega
      · rw [up1_o _ _ hed, up1_o s.1 _ he] at hz; exact hz) (fun i hi => by rw [b_bit (by omega), decide_eq_true_eq, nI_eq (by omega) (by omega)]) (fun p hp18 z => by
      rw [nI_eq (by omega) (by omega)] at z
      subst z
      exact ⟨d, hp, by rw [hm, up1_s]; omega⟩) hL
    refine ⟨τ, ?_, r⟩
    have ho' := otherX hG1 F hp
    unfold fX4_follow_22 bX4_follow_22_9 bX4_follow_22_37
    have w2 : wh = 2 ∨ wh = 3 := by
      rcases hwh with h | h
      · left; rw [h, ho]; rfl
      · exact Or.inr h.2
    rw [el]
    rcases w2 with rfl | rfl
    · rw [if_neg (by decide), e1]
      simp only [Option.bind_some, if_neg (show ¬ (2 : Int32) = 0 by decide), if_neg (show ¬ (2 : Int32) = 1 by decide), ho', e2, if_neg (show ¬ (2 : Int32) < 2 by decide)]
      exact e3
    · rw [if_neg (by decide), e1]
      simp only [Option.bind_some, if_neg (show ¬ (3 : Int32) = 0 by decide), if_neg (show ¬ (3 : Int32) = 1 by decide), ho', e2, if_neg (show ¬ (3 : Int32) < 2 by decide)]
      exact e3
