/-! ===== the reference's does ===== -/
def up1 (men : Nat → Nat) (c v : Nat) : Nat → Nat := fun d => if d = c then v else men d
theorem up1_s (men : Nat → Nat) (c v : Nat) : up1 men c v c = v := if_pos rfl
theorem up1_o (men : Nat → Nat) {c d : Nat} (v : Nat) (h : d ≠ c) : up1 men c v d = men d := if_neg h
theorem LeO.lt {E : Gr} {men : Nat → Nat} {w sl C : Nat → Prop} {n : Nat} (h : LeO E men w sl C) (hE : ∀ p a b, E p = some (a, b) → a < n ∧ b < n) (hw : ∀ i, w i → i < n) : ∀ i, C i → i < n :=
  fun i hi => h.2 (fun c => c < n) ⟨fun c hc _ => hw c hc, fun p a b hp => ⟨fun _ _ _ => ⟨fun _ => (hE p a b hp).1, fun _ => (hE p a b hp).2⟩, fun _ _ => (hE p a b hp).2, fun _ _ => (hE p a b hp).1⟩⟩ i hi
theorem LeO.men {E : Gr} {men : Nat → Nat} {w sl C : Nat → Prop} (h : LeO E men w sl C) : ∀ i, C i → men i = 0 :=
  fun i hi => h.2 (fun c => men c = 0) ⟨fun _ _ h => h, fun _ _ _ _ => ⟨fun _ _ _ => ⟨fun h => h, fun h => h⟩, fun _ h => h, fun _ h => h⟩⟩ i hi
def Did (E : Gr) (σ τ : Sg) (men : Nat → Nat) (w : Int32) (l1 : Int32) : Prop := Sm [23, 24] [29] σ τ ∧ MN τ men ∧ LeO E men (fun i => bt w i = true) (fun p => nI p = l1) (fun i => bt (τ.1 23) i = true) ∧ ∀ i, bt (τ.1 24) i = true ↔ PO E (fun i => bt (τ.1 23) i = true) i
theorem MN.sm {vs as : List Nat} {σ τ : Sg} {men : Nat → Nat} (h : MN σ men) (hs : Sm vs as σ τ) (h1 : 29 ∉ as) : MN τ men := fun c hc => by rw [hs.2.1 29 h1]; exact h c hc
theorem PO.lt {n : Nat} {E : Gr} (hE : GrOk n E) {C : Nat → Prop} {p : Nat} (h : PO E C p) : p < 18 := by
  obtain ⟨a, b, h1, -⟩ := h
  exact (hE.2 p a b h1).1
/-- settles, at a state whose lost passages are those at its lost caves -/
theorem stlD {σ : Sg} {n : Nat} {E : Gr} {men : Nat → Nat} (hG : GM σ n E) (hM : MN σ men) {F : Nat} (hF : 40 ≤ F) (l1 : Int32) (hx : ∀ i, bt (σ.1 23) i = true → i < n) (hy : ∀ i, bt (σ.1 24) i = true ↔ PO E (fun i => bt (σ.1 23) i = true) i) :
    ∃ τ, fX7_settles F σ l1 = some (0, τ) ∧ Did E σ τ men (σ.1 23) l1 := by
  obtain ⟨x', y', e, hL, b1, b2⟩ := stl hG hM hF (σ.1 23) (σ.1 24) l1 hx (fun i hi => PO.lt hG.1 ((hy i).mp hi))
  rw [show sx σ (σ.1 23) (σ.1 24) = σ from st2_self σ 23 24] at e
  have f2 : (fun i => bt (σ.1 24) i = true ∧ ¬ Kill E men l1 i) = (fun i => PO E (fun i => bt (σ.1 23) i = true) i ∧ ¬ Kill E men l1 i) := funext fun i => propext (and_congr_left' (hy i))
  rw [f2] at hL
  obtain ⟨h1, h2⟩ := hL.toO
  refine ⟨_, e, (st2_Sm).up (fun i hi => hi) (fun k hk => by cases hk), hM.sm (st2_Sm (σ := σ)) (by simp), ?_, ?_⟩
  · rw [st2_x (by decide)]; exact h1
  · rw [st2_x (by decide), st2_y]; exact h2
theorem sa_MN {σ : Sg} {men : Nat → Nat} (hM : MN σ men) {c v : Nat} (hv : v < 1000) : MN (sa σ 29 c (nI v)) (up1 men c v) := by
  intro d hd
  rw [sa_2, if_pos rfl, upd_at]
  by_cases h : d = c
  · subst h; rw [if_pos rfl, up1_s]; exact ⟨rfl, hv⟩
  · rw [if_neg h, up1_o men v h]; exact hM d hd
theorem Did.from {E : Gr} {σ σ1 τ : Sg} {men : Nat → Nat} {w l1 : Int32} (h : Did E σ1 τ men w l1) (hs : Sm [23, 24] [29] σ σ1) : Did E σ τ men w l1 := ⟨hs.tr h.1, h.2⟩
theorem nI_sub1 {m : Nat} (h : 0 < m) : nI m - 1 = nI (m - 1) := by
  have := nI_pred (m - 1)
  rwa [show m - 1 + 1 = m by omega] at this
theorem doesP {σ : Sg} {n : Nat} {E : Gr} {men : Nat → Nat} (hG : GM σ n E) (hM : MN σ men) {F : Nat} (hF : 40 ≤ F) {c : Nat} (hc : c < n) (hm : men c < 900) (l3 : Int32) (hx : ∀ i, bt (σ.1 23) i = true → i < n) (hy : ∀ i, bt (σ.1 24) i = true ↔ PO E (fun i => bt (σ.1 23) i = true) i) :
    ∃ τ, fX7_does F σ 0 (nI c) l3 = some (0, τ) ∧ Did E σ τ (up1 men c (men c + 1)) (σ.1 23) (-1) := by
  have hn := hG.1.1
  obtain ⟨mc, -⟩ := hM c (by omega)
  have hcc : (nI c).toNatClampNeg = c := nI_clamp (by omega)
  have ic : ib (nI c) 12 := nI_in (by omega) (by omega)
  have hs : Sm [23, 24] [29] σ (sa σ 29 c (nI (men c + 1))) := Sm.sa (by simp)
  obtain ⟨τ, e, hD⟩ := stlD (hG.sm hs (by decide) (by decide) (by decide) (by decide)) (sa_MN hM (v := men c + 1) (by omega)) hF (-1) hx hy
  refine ⟨τ, ?_, hD.from hs⟩
  unfold fX7_does bX7_does_18 bX7_does_37 bX7_does_80 ls_
  simp only [if_pos ic, hcc, mc, if_neg (show ¬ (0 : Int32) = 1 by decide), if_neg (show ¬ (0 : Int32) = 2 by decide), if_true, nI_1, e]
  rfl
theorem doesL {σ : Sg} {n : Nat} {E : Gr} {men : Nat → Nat} (hG : GM σ n E) (hM : MN σ men) {F : Nat} (hF : 40 ≤ F) {c : Nat} (hc : c < n) (h0 : 0 < men c) (l3 : Int32) (hx : ∀ i, bt (σ.1 23) i = true → i < n) (hy : ∀ i, bt (σ.1 24) i = true ↔ PO E (fun i => bt (σ.1 23) i = true) i) :
    ∃ τ, fX7_does F σ 1 (nI c) l3 = some (0, τ) ∧ Did E σ τ (up1 men c (men c - 1)) (σ.1 23) (-1) := by
  have hn := hG.1.1
  obtain ⟨mc, mc'⟩ := hM c (by omega)
  have hcc : (nI c).toNatClampNeg = c := nI_clamp (by omega)
  have ic : ib (nI c) 12 := nI_in (by omega) (by omega)
  have hs : Sm [23, 24] [29] σ (sa σ 29 c (nI (men c - 1))) := Sm.sa (by simp)
  obtain ⟨τ, e, hD⟩ := stlD (hG.sm hs (by decide) (by decide) (by decide) (by decide)) (sa_MN hM (v := men c - 1) (by omega)) hF (-1) hx hy
  refine ⟨τ, ?_, hD.from hs⟩
  unfold fX7_does bX7_does_18 bX7_does_37 bX7_does_80 ls_
  simp only [if_pos ic, hcc, mc, if_neg (show ¬ (1 : Int32) = 0 by decide), if_neg (show ¬ (1 : Int32) = 2 by decide), if_true, nI_sub1 h0, e]
  rfl
theorem otherM {σ : Sg} {n : Nat} {E : Gr} (hG : GM σ n E) (F : Nat) {p c d : Nat} (h : E p = some (c, d) ∨ E p = some (d, c)) : fX7_other F σ (nI p) (nI c) = some (nI d, σ) := by
  obtain ⟨⟨hn, hE⟩, g1, g2, g3⟩ := hG
  have hp : p < 18 := by rcases h with h | h <;> exact (hE _ _ _ h).1
  have hcp : (nI p).toNatClampNeg = p := nI_clamp (by omega)
  have ip : ib (nI p) 18 := nI_in hp (by omega)
  unfold fX7_other
  simp only [if_pos ip, hcp]
  rcases h with h | h
  · obtain ⟨e1, e2⟩ := g3 p c d h
    rw [e1, if_pos rfl, e2]
  · obtain ⟨e1, e2⟩ := g3 p d c h
    obtain ⟨-, h1, h2⟩ := hE p d c h
    rw [e1, if_neg (fun z => by rw [nI_eq (by omega) (by omega)] at z; omega)]
theorem doesS {σ : Sg} {n : Nat} {E : Gr} {men : Nat → Nat} (hG : GM σ n E) (hM : MN σ men) {F : Nat} (hF : 40 ≤ F) {c d p : Nat} (hp : E p = some (c, d) ∨ E p = some (d, c)) (h0 : 0 < men c) (hm : men d < 900) (hx : ∀ i, bt (σ.1 23) i = true → i < n) (hy : ∀ i, bt (σ.1 24) i = true ↔ PO E (fun i => bt (σ.1 23) i = true) i) :
    ∃ τ, fX7_does F σ 2 (nI c) (nI p) = some (0, τ) ∧ Did E σ τ (up1 (up1 men c (men c - 1)) d (men d + 1)) (σ.1 23) (nI p) := by
  have hn := hG.1.1
  have hcd : c < n ∧ d < n ∧ d ≠ c := by rcases hp with h | h <;> have := hG.1.2 _ _ _ h <;> omega
  obtain ⟨mc, mc'⟩ := hM c (by omega)
  have hcc : (nI c).toNatClampNeg = c := nI_clamp (by omega)
  have hdd : (nI d).toNatClampNeg = d := nI_clamp (by omega)
  have ic : ib (nI c) 12 := nI_in (by omega) (by omega)
  have id' : ib (nI d) 12 := nI_in (by omega) (by omega)
  have hs : Sm [23, 24] [29] σ (sa σ 29 c (nI (men c - 1))) := Sm.sa (by simp)
  have hG1 := hG.sm hs (by decide) (by decide) (by decide) (by decide)
  have hM1 := sa_MN hM (c := c) (v := men c - 1) (by omega)
  obtain ⟨md, -⟩ := hM1 d (by omega)
  rw [up1_o men _ hcd.2.2] at md
  have hs2 : Sm [23, 24] [29] (sa σ 29 c (nI (men c - 1))) (sa (sa σ 29 c (nI (men c - 1))) 29 d (nI (men d + 1))) := Sm.sa (by simp)
  have hM2 := sa_MN hM1 (c := d) (v := men d + 1) (by omega)
  obtain ⟨τ, e, hD⟩ := stlD (hG1.sm hs2 (by decide) (by decide) (by decide) (by decide)) hM2 hF (nI p) hx hy
  refine ⟨τ, ?_, hD.from (hs.tr hs2)⟩
  have ho := otherM hG1 F hp
  unfold fX7_does bX7_does_18 bX7_does_37 bX7_does_80 ls_
  simp only [if_pos ic, hcc, mc, if_neg (show ¬ (2 : Int32) = 0 by decide), if_neg (show ¬ (2 : Int32) = 1 by decide), if_true, nI_sub1 h0, ho, Option.bind_some, if_pos id', hdd, md, nI_1, e]
/-! ===== the class's lostBehind ===== -/
theorem lostB {σ : Sg} {n : Nat} {E : Gr} (hG : GC σ n E) {F : Nat} (hF : 13 ≤ F) {men men' : Nat → Nat} {w g l4 : Int32} {c : Nat} {sl : Nat → Prop} (hc : c < n) (hw : ∀ i, bt w i = true → i < n ∧ men i = 0)
    (hcl : ∀ p a b, E p = some (a, b) → men a = 0 → men b = 0 → (bt w a = true ↔ bt w b = true)) (hg : ∀ i, bt g i = true ↔ (i < n ∧ 0 < men' i)) (hmv : ∀ d, d ≠ c → men' d = 0 → men d = 0) (hl4 : ∀ i, i < 18 → (bt l4 i = true ↔ sl i)) (hsl : ∀ p, p < 18 → sl p → ∃ e, (E p = some (c, e) ∨ E p = some (e, c)) ∧ 0 < men' e) :
    ∃ w', fX1_lostBehind F σ w g (nI c) l4 = some (w', σ) ∧ LeO E men' (fun i => bt w i = true) sl (fun i => bt w' i = true) := by
  have hn := hG.1.1
  have hE := hG.1.2
  have hcc : (nI c).toNatClampNeg = c := nI_clamp (by omega)
  have ic : ib (nI c) 12 := nI_in (by omega) (by omega)
  generalize hst : w &&& (g ^^^ (-1)) = s
  have hs : ∀ i, bt s i = true ↔ (bt w i = true ∧ men' i = 0) := by
    intro i
    rw [← hst, b_and]
    by_cases hi : i < 32
    · rw [b_not _ hi]
      have h1 := hg i
      cases hwi : bt w i
      · simp
      · have := (hw i hwi).1
        cases hgi : bt g i
        · rw [hgi] at h1; simp at h1; simp; omega
        · rw [hgi] at h1; simp at h1; simp; omega
    · rw [b_big (x := w) (by omega)]; simp
  have other : ∀ a b, (∃ p, E p = some (a, b) ∨ E p = some (b, a)) → (bt w a = true ∨ bt w b = true) → men' a = 0 → a ≠ c → bt s a = true := by
    rintro a b ⟨p, hp⟩ h1 h2 h3
    have ma := hmv a h3 h2
    refine (hs a).mpr ⟨?_, h2⟩
    rcases h1 with h1 | h1
    · exact h1
    · rcases hp with hp | hp
      · exact (hcl p a b hp ma (hw b h1).2).mpr h1
      · exact (hcl p b a hp (hw b h1).2 ma).mp h1
  have least : ∀ S, ClO E men' (fun i => bt w i = true) sl S → ∀ i, bt s i = true → S i := fun S hS i hi => hS.1 i ((hs i).mp hi).1 ((hs i).mp hi).2
  unfold fX1_lostBehind li_
  rw [hst]
  dsimp only
  by_cases hgc : bt g c = true
  · rw [if_neg (fun z => by rw [(b_t0 (by omega)).mp z] at hgc; cases hgc)]
    have hmc := ((hg c).mp hgc).2
    refine ⟨s, rfl, ⟨fun d h1 h2 => (hs d).mpr ⟨h1, h2⟩, fun p a b hp => ⟨fun _ h1 _ => ⟨fun h2 => other a b ⟨p, Or.inl hp⟩ h1 h2 (fun z => by rw [z] at h2; omega), fun h2 => other b a ⟨p, Or.inr hp⟩ h1.symm h2 (fun z => by rw [z] at h2; omega)⟩, fun h1 h2 => other b a ⟨p, Or.inr hp⟩ (Or.inr ((hs a).mp h1).1) h2 (fun z => by rw [z] at h2; omega), fun h1 h2 => other a b ⟨p, Or.inl hp⟩ (Or.inr ((hs b).mp h1).1) h2 (fun z => by rw [z] at h2; omega)⟩⟩, least⟩
  · have hgc' : bt g c = false := by simpa using hgc
    have hmc : men' c = 0 := Classical.byContradiction fun z => hgc ((hg c).mpr ⟨hc, by omega⟩)
    rw [if_pos ((b_t0 (by omega)).mpr hgc')]
    simp only [if_pos ic, hcc]
    obtain ⟨pv, e1, hpv⟩ := hG.pAt hF w
    rw [e1]
    simp only [Option.bind_some]
    have hat := hG.2.2.2.2.1 c (by omega)
    have hlh : ∀ p, bt ((σ.2.1 4 c &&& pv) &&& (l4 ^^^ (-1))) p = true ↔ ((∃ a b, E p = some (a, b) ∧ (a = c ∨ b = c)) ∧ PO E (fun i => bt w i = true) p ∧ ¬ sl p) := by
      intro p
      rw [b_and, b_and, Bool.and_eq_true, Bool.and_eq_true, hat, hpv, and_assoc]
      refine and_congr_right fun h1 => and_congr_right fun _ => ?_
      obtain ⟨a, b, h2, -⟩ := h1
      have hp := (hE p a b h2).1
      rw [b_not _ (by omega)]
      have h3 := hl4 p hp
      cases hb : bt l4 p
      · rw [hb] at h3; simp at h3; simp [h3]
      · rw [hb] at h3; simp at h3; simp [h3]
    generalize (σ.2.1 4 c &&& pv) &&& (l4 ^^^ (-1)) = lh at hlh
    by_cases h0 : lh = 0
    · rw [if_pos h0]
      have no : ∀ p a b, E p = some (a, b) → (a = c ∨ b = c) → (bt w a = true ∨ bt w b = true) → ¬ sl p → False := by
        intro p a b hp h1 h2 h3
        have := (hlh p).mpr ⟨⟨a, b, hp, h1⟩, ⟨a, b, hp, h2⟩, h3⟩
        rw [h0, b_0] at this; cases this
      have adj : ∀ a b, (∃ p, E p = some (a, b) ∨ E p = some (b, a)) → bt s a = true → men' b = 0 → bt s b = true := by
        rintro a b ⟨p, hp⟩ h1 h2
        obtain ⟨k1, k2⟩ := (hs a).mp h1
        by_cases hbc : b = c
        · subst hbc
          exfalso
          have hsp : sl p := Classical.byContradiction fun z => by
            rcases hp with hp | hp
            · exact no p a b hp (Or.inr rfl) (Or.inl k1) z
            · exact no p b a hp (Or.inl rfl) (Or.inr k1) z
          obtain ⟨e, he, hme⟩ := hsl p (by rcases hp with hp | hp <;> exact (hE _ _ _ hp).1) hsp
          rcases hp with hp | hp <;> rcases he with he | he <;> rw [hp] at he <;> cases he
          · have := hE _ _ _ hp; omega
          · omega
          · omega
          · have := hE _ _ _ hp; omega
        · exact other b a ⟨p, hp.symm⟩ (Or.inr k1) h2 hbc
      refine ⟨s, rfl, ⟨fun d h1 h2 => (hs d).mpr ⟨h1, h2⟩, fun p a b hp => ⟨fun hns h1 _ => ⟨fun h2 => other a b ⟨p, Or.inl hp⟩ h1 h2 (fun z => no p a b hp (Or.inl z) h1 hns), fun h2 => other b a ⟨p, Or.inr hp⟩ h1.symm h2 (fun z => no p a b hp (Or.inr z) h1 hns)⟩, fun h1 h2 => adj a b ⟨p, Or.inl hp⟩ h1 h2, fun h1 h2 => adj b a ⟨p, Or.inr hp⟩ h1 h2⟩⟩, least⟩
    · rw [if_neg h0]
      have hsb : ∀ i, bt (s ||| ((1 : Int32) <<< (nI c &&& 31))) i = true ↔ (bt s i = true ∨ i = c) := fun i => by rw [b_or, b_bit (by omega)]; simp
      have hN : ∀ a, a < n → ∀ d, bt (σ.2.1 5 a) d = true → d < n := by
        intro a ha d hd
        obtain ⟨p, x, y, h1, h2⟩ := (hG.2.2.2.2.2 a (by omega) d).mp hd
        have := hE p x y h1
        omega
      obtain ⟨v, e2, hv⟩ := spr hG.gn hF hN (s ||| ((1 : Int32) <<< (nI c &&& 31))) g (fun i hi => by
        rcases (hsb i).mp hi with h | h
        · exact (hw i ((hs i).mp h).1).1
        · omega)
      rw [e2]
      obtain ⟨⟨v1, v2⟩, v3⟩ := hv
      have vs : ∀ i, bt s i = true → bt v i = true := fun i hi => v1 i ((hsb i).mpr (Or.inl hi))
      have vc : bt v c = true := v1 c ((hsb c).mpr (Or.inr rfl))
      have ng : ∀ d, men' d = 0 → ¬ bt g d = true := fun d hd z => by have := ((hg d).mp z).2; omega
      have nx : ∀ a b, (∃ p, E p = some (a, b) ∨ E p = some (b, a)) → a < n ∧ bt (σ.2.1 5 a) b = true := by
        rintro a b ⟨p, hp⟩
        have ha : a < n := by rcases hp with hp | hp <;> have := hE _ _ _ hp <;> omega
        refine ⟨ha, (hG.2.2.2.2.2 a (by omega) b).mpr ?_⟩
        rcases hp with hp | hp
        · exact ⟨p, a, b, hp, Or.inl ⟨rfl, rfl⟩⟩
        · exact ⟨p, b, a, hp, Or.inr ⟨rfl, rfl⟩⟩
      have adj : ∀ a b, (∃ p, E p = some (a, b) ∨ E p = some (b, a)) → bt v a = true → men' b = 0 → bt v b = true := fun a b hp h1 h2 => v2 a b (nx a b hp).1 h1 (nx a b hp).2 (ng b h2)
      have ends : ∀ a b, (∃ p, E p = some (a, b) ∨ E p = some (b, a)) → (bt w a = true ∨ bt w b = true) → men' a = 0 → bt v a = true := by
        intro a b hp h1 h2
        by_cases hac : a = c
        · rw [hac]; exact vc
        · exact vs a (other a b hp h1 h2 hac)
      refine ⟨v, rfl, ⟨fun d h1 h2 => vs d ((hs d).mpr ⟨h1, h2⟩), fun p a b hp => ⟨fun _ h1 _ => ⟨fun h2 => ends a b ⟨p, Or.inl hp⟩ h1 h2, fun h2 => ends b a ⟨p, Or.inr hp⟩ h1.symm h2⟩, fun h1 h2 => adj a b ⟨p, Or.inl hp⟩ h1 h2, fun h1 h2 => adj b a ⟨p, Or.inr hp⟩ h1 h2⟩⟩, fun S hS => v3 S ⟨fun i hi => ?_, fun a d ha h1 h2 h3 => ?_⟩⟩
      · rcases (hsb i).mp hi with h | h
        · exact least S hS i h
        · subst h
          obtain ⟨p, -, hp⟩ := b_ne h0
          obtain ⟨⟨a, b, k1, k2⟩, ⟨a2, b2, k3, k4⟩, k5⟩ := (hlh p).mp hp
          rw [k1] at k3; cases k3
          obtain ⟨c1, -⟩ := hS.2 p a b k1
          rcases k2 with rfl | rfl
          · exact (c1 k5 k4 (fun z => by omega)).1 hmc
          · exact (c1 k5 k4 (fun z => by omega)).2 hmc
      · obtain ⟨p, x, y, k1, k2⟩ := (hG.2.2.2.2.2 a (by omega) d).mp h2
        have hd : d < n := by have := hE p x y k1; omega
        have md : men' d = 0 := Classical.byContradiction fun z => h3 ((hg d).mpr ⟨hd, by omega⟩)
        obtain ⟨-, c2, c3⟩ := hS.2 p x y k1
        rcases k2 with ⟨rfl, rfl⟩ | ⟨rfl, rfl⟩
        · exact c2 h1 md
        · exact c3 h1 md
