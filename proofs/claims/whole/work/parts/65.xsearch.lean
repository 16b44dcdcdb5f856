/-! ===== the class's search: a stand taken up, its orders ===== -/
def XHd (X : CX) (σ : Sg) (s : BS) (h : Nat) : Prop := σ.1 12 = nI h ∧ σ.1 13 = nI (bcode s.1.1) ∧ σ.1 14 = s.1.2 ∧ Tf (σ.1 15) (s.2 = true) ∧ (∀ i, bt (σ.1 16) i = true ↔ (i < cN X ∧ 0 < s.1.1 i)) ∧ σ.1 17 = nI (tot (cN X) s.1.1)
theorem XHd.sm {X : CX} {σ τ : Sg} {s : BS} {h : Nat} (H : XHd X σ s h) (hs : Sm [8, 9] [18, 19, 20, 21] σ τ) : XHd X τ s h := by
  obtain ⟨h1, h2, h3, h4, h5, h6⟩ := H
  exact ⟨(hs.1 12 (by simp)).trans h1, (hs.1 13 (by simp)).trans h2, (hs.1 14 (by simp)).trans h3, by rw [hs.1 15 (by simp)]; exact h4, by rw [hs.1 16 (by simp)]; exact h5, (hs.1 17 (by simp)).trans h6⟩
theorem XR.sm {X : CX} {σ τ : Sg} {B : BB} (H : XR X σ B) {vs as : List Nat} (hs : Sm vs as σ τ) (hv : ∀ i ∈ vs, i ∈ [12, 13, 14, 15, 16, 17]) (ha : ∀ k ∈ as, False) : XR X τ B := by
  obtain ⟨r1, ⟨r2, r3, r4⟩, r5, r6, r7, r8⟩ := H
  have hs' : Sm [12, 13, 14, 15, 16, 17] [] σ τ := hs.up hv (fun k hk => (ha k hk).elim)
  refine ⟨r1.sm hs' (by simp) (by simp) (by simp) (by simp) (by simp) (by simp), ⟨(hs'.1 2 (by simp)).trans r2, (hs'.1 10 (by simp)).trans r3, (hs'.1 11 (by simp)).trans r4⟩, (hs'.1 8 (by simp)).trans r5, by rw [hs'.1 9 (by simp)]; exact r6, fun i hi => ?_, ?_⟩
  · rw [hs'.2.1 19 (by simp), hs'.2.1 20 (by simp), hs'.2.1 21 (by simp)]; exact r7 i hi
  · rw [hs'.2.1 18 (by simp), hs'.2.1 19 (by simp)]; exact r8
theorem tot_ext {n m : Nat} {men : Nat → Nat} (hnm : n ≤ m) (h : ∀ c, n ≤ c → men c = 0) : tot m men = tot n men := by
  induction m with
  | zero => have : n = 0 := by omega
            rw [this]
  | succ m ih =>
    by_cases e : n = m + 1
    · rw [e]
    · show tot m men + men m = _
      rw [ih (by omega), h m (by omega), Nat.add_zero]
theorem tku_loop (F : Nat) {men : Nat → Nat} (h3 : ∀ c, c < 6 → men c ≤ 3) : ∀ (m c : Nat) (σ : Sg), c ≤ 6 → 6 < c + m → σ.1 13 = nI (bcode men) → σ.1 17 = nI (tot c men) → (∀ i, bt (σ.1 16) i = true ↔ (i < c ∧ 0 < men i)) → ∃ τ, fX0_takeUp_60 F m σ (nI c) = some (0, τ) ∧ Sm [16, 17] [] σ τ ∧ τ.1 17 = nI (tot 6 men) ∧ ∀ i, bt (τ.1 16) i = true ↔ (i < 6 ∧ 0 < men i) := by
  intro m
  induction m with
  | zero => intro c σ _ _; omega
  | succ m ih =>
    intro c σ hc hm k1 k2 k3
    show ∃ τ, bX0_takeUp_60 F _ σ (nI c) = _ ∧ _
    unfold bX0_takeUp_60 li_ ls_
    by_cases h6 : c = 6
    · subst h6
      rw [if_pos (by decide)]
      exact ⟨σ, rfl, Sm.rf, k2, k3⟩
    · have g : ¬ (6 : Int32) ≤ nI c := by rw [show (6 : Int32) = nI 6 by decide]; exact nI_ge (by omega) (by omega)
      have hb := bcode_lt h3
      have ea : (nI (bcode men) >>> (((2 : Int32) * nI c) &&& 31)) &&& 3 = nI (men c) := by rw [at_c (by omega) (by omega), bcode_at h3 (by omega)]
      simp only [if_neg g, k1, ea, k2, nI_add, nI_1]
      have et : tot (c + 1) men = tot c men + men c := rfl
      have k1' : ∀ v : Int32, (sv σ 17 v).1 13 = nI (bcode men) := fun v => by rw [sv_1, if_neg (by decide), k1]
      have z : nI (men c) ≤ (0 : Int32) ↔ men c = 0 := by
        rw [← nI_0, nI_leI (by have := h3 c (by omega); omega) (by omega)]; omega
      by_cases hz : men c = 0
      · rw [if_pos (z.mpr hz)]
        obtain ⟨τ, a1, a2, a3, a4⟩ := ih (c + 1) (sv σ 17 (nI (tot c men + men c))) (by omega) (by omega) (k1' _) (by rw [sv_1, if_pos rfl, et]) (fun i => by
          rw [sv_1, if_neg (by decide), k3 i]
          constructor
          · rintro ⟨x, y⟩; exact ⟨by omega, y⟩
          · rintro ⟨x, y⟩
            have : i ≠ c := fun e => by rw [e] at y; omega
            exact ⟨by omega, y⟩)
        exact ⟨τ, a1, (Sm.sv (by simp)).tr a2, a3, a4⟩
      · rw [if_neg (fun y => hz (z.mp y))]
        obtain ⟨τ, a1, a2, a3, a4⟩ := ih (c + 1) (sv (sv σ 17 (nI (tot c men + men c))) 16 (((sv σ 17 (nI (tot c men + men c))).1 16) ||| ((1 : Int32) <<< (nI c &&& 31)))) (by omega) (by omega) (by rw [sv_1, if_neg (by decide)]; exact k1' _) (by rw [sv_1, if_neg (by decide), sv_1, if_pos rfl, et]) (fun i => by
          rw [sv_1, if_pos rfl, b_or, sv_1, if_neg (by decide), b_bit (by omega), Bool.or_eq_true, k3 i, decide_eq_true_eq]
          constructor
          · rintro (⟨x, y⟩ | x)
            · exact ⟨by omega, y⟩
            · rw [x]; exact ⟨by omega, by omega⟩
          · rintro ⟨x, y⟩
            by_cases e : i = c
            · exact Or.inr e
            · exact Or.inl ⟨by omega, y⟩)
        exact ⟨τ, a1, ((Sm.sv (by simp)).tr (Sm.sv (by simp))).tr a2, a3, a4⟩
theorem xtake {X : CX} (hX : CXok X) {σ : Sg} {B : BB} (hR : XR X σ B) {h : Nat} (hh : h < bM B) (hM : bM B ≤ 1604) (hv : VS X (bQ B h)) {F : Nat} (hF : 2100 ≤ F) : ∃ τ, fX0_takeUp F σ (nI h) = some (0, τ) ∧ Sm [12, 13, 14, 15, 16, 17] [] σ τ ∧ XHd X τ (bQ B h) h := by
  have e19 := (hR.2.2.2.2.1 h hh).1
  have ih_ : ib (nI h) 1604 := nI_in (by omega) (by omega)
  have ch : (nI h).toNatClampNeg = h := nI_clamp (by omega)
  obtain ⟨s, hs⟩ : ∃ s, s = bQ B h := ⟨_, rfl⟩
  rw [← hs] at e19 hv ⊢
  have b1 := hv.bl hX
  have b2 := hv.l6 hX
  have hx := xc_lt hX hv
  have hn := hX.2.2.2.1.2
  have v1 : nI (xc s) &&& (4095 : Int32) = nI (bcode s.1.1) := by
    rw [show (4095 : Int32) = nI (2 ^ 12 - 1) by decide, nI_mod]
    congr 1
    unfold xc
    split <;> omega
  have v2 : (nI (xc s) >>> ((12 : Int32) &&& 31)) &&& (63 : Int32) = s.1.2 := by
    have e := nI_shr (x := xc s) (k := 12) (by omega) (by omega)
    rw [show (12 : Int32) = nI 12 by decide, e, show (63 : Int32) = nI (2 ^ 6 - 1) by decide, nI_mod]
    have : xc s / 2 ^ 12 % 2 ^ 6 = ln s.1.2 := by
      unfold xc
      split <;> omega
    rw [this, nI_ln]
  have v3 : nI (xc s) >>> ((18 : Int32) &&& 31) = (0 : Int32) ↔ ¬ s.2 = true := by
    have e := nI_shr (x := xc s) (k := 18) (by omega) (by omega)
    rw [show (18 : Int32) = nI 18 by decide, e]
    have : xc s / 2 ^ 18 = if s.2 = true then 1 else 0 := by
      unfold xc
      split <;> omega
    rw [this]
    by_cases hq : s.2 = true
    · rw [if_pos hq]; exact ⟨fun z => absurd z (by decide), fun z => absurd hq z⟩
    · rw [if_neg hq]; exact ⟨fun _ => hq, fun _ => by decide⟩
  have h3 : ∀ c, c < 6 → s.1.1 c ≤ 3 := fun c _ => hv.m3 hX c
  have tot6 : tot 6 s.1.1 = tot (cN X) s.1.1 := tot_ext hn hv.1.1
  have go : ∀ y : Int32, Tf y (s.2 = true) → ∃ τ, fX0_takeUp_60 F F (sv (sv (sv (sv (sv (sv σ 12 (nI h)) 13 (nI (bcode s.1.1))) 14 s.1.2) 15 y) 16 0) 17 0) 0 = some (0, τ) ∧ Sm [12, 13, 14, 15, 16, 17] [] σ τ ∧ XHd X τ s h := by
    intro y hy
    obtain ⟨τ, a1, a2, a3, a4⟩ := tku_loop F h3 F 0 (sv (sv (sv (sv (sv (sv σ 12 (nI h)) 13 (nI (bcode s.1.1))) 14 s.1.2) 15 y) 16 0) 17 0) (by omega) (by omega) (by simp only [sv_1]; simp) (by simp only [sv_1]; simp [tot, nI_0]) (fun i => by
      have : (sv (sv (sv (sv (sv (sv σ 12 (nI h)) 13 (nI (bcode s.1.1))) 14 s.1.2) 15 y) 16 0) 17 0).1 16 = 0 := by simp only [sv_1]; simp
      rw [this, b_0]; simp)
    have s0 : Sm [12, 13, 14, 15, 16, 17] [] σ (sv (sv (sv (sv (sv (sv σ 12 (nI h)) 13 (nI (bcode s.1.1))) 14 s.1.2) 15 y) 16 0) 17 0) := (((((Sm.sv (by simp)).tr (Sm.sv (by simp))).tr (Sm.sv (by simp))).tr (Sm.sv (by simp))).tr (Sm.sv (by simp))).tr (Sm.sv (by simp))
    refine ⟨τ, a1, s0.tr (a2.up (fun i hi => by simp at hi; simp; omega) (by simp)), ?_, ?_, ?_, ?_, fun i => ?_, by rw [a3, tot6]⟩
    · rw [a2.1 12 (by simp)]; simp only [sv_1]; simp
    · rw [a2.1 13 (by simp)]; simp only [sv_1]; simp
    · rw [a2.1 14 (by simp)]; simp only [sv_1]; simp
    · rw [a2.1 15 (by simp)]; simp only [sv_1]; simpa using hy
    · rw [a4 i]
      constructor
      · rintro ⟨x, z⟩
        exact ⟨Classical.byContradiction fun w => by rw [hv.1.1 i (by omega)] at z; omega, z⟩
      · rintro ⟨x, z⟩; exact ⟨by omega, z⟩
  unfold fX0_takeUp li_ ls_
  simp only [if_pos ih_, ch, e19, v1, v2]
  by_cases hsl : s.2 = true
  · rw [if_neg (fun z => (v3.mp z) hsl)]
    exact go 1 (Tf.yes hsl)
  · rw [if_pos (v3.mpr hsl)]
    exact go 0 (Tf.no hsl)
/-- what meet leaves is `off` -/
theorem xoff {X : CX} (hX : CXok X) {σ : Sg} {B : BB} {h : Nat} {s : BS} (hR : XR X σ B) (hB : BI X B h) (hh : h < bM B) (hs : bQ B h = s) (hH : XHd X σ s h) {F : Nat} (hF : 2100 ≤ F) {x : Ord_} {men' : Nat → Nat} {w' g l6 : Int32} (hT : Tr (cN X) (cE X) x s.1 (men', w')) (hA : Al (cL X) (cM X) x (s.2 = true)) (hK : x.1 = 0 → tot (cN X) s.1.1 < cK X) (hg : ∀ i, bt g i = true ↔ (i < cN X ∧ 0 < men' i)) (hl6 : l6 + 1 = nI (if x.1 = 2 then x.2.2 + 1 else 0)) (hp : x.2.2 < 18) : ∃ τ, fX0_meet F σ (nI (bcode men')) w' g (nI x.1) (nI x.2.1) l6 = some (0, τ) ∧ Sm [8, 9] [18, 19, 20, 21] σ τ ∧ XR X τ (off X B h x) := by
  have hx0 := hT.o2
  have hcn := hT.cn hX.2.2.2.2
  have hn := hX.2.2.2.1.2
  obtain ⟨sl, hsl⟩ : ∃ sl : Bool, sl = true ↔ (cL X = 1 ∧ (s.2 = true ∨ x.1 = 2)) := ⟨@decide _ (Classical.propDecidable _), @decide_eq_true_iff _ (Classical.propDecidable _)⟩
  have cdt : (cL X = 2 → Hang (cN X) (cE X) (cM X) men' (fun i => bt w' i = true)) → Cd X (bQ B h) x ((men', w'), sl) := fun z => by
    rw [hs]; exact ⟨hT, hK, hA, hsl, z⟩
  have vt : VS X ((men', w'), sl) := by
    -- VS does not need the law's hanging: use the same step with another law's words
    have hv := hB.2.1 h hh
    rw [hs] at hv
    obtain ⟨g1, g2, g3, g4⟩ := hv
    by_cases hL2 : cL X = 2
    · have hE := hX.2.2.2.2
      obtain ⟨sl', hl⟩ := hT.leO
      obtain ⟨t0, t1, t2⟩ := hT.tot hE
      have htk : tot (cN X) men' ≤ cK X := by
        have : x.1 = 0 ∨ x.1 = 1 ∨ x.1 = 2 := by omega
        rcases this with e | e | e
        · have a1 : tot (cN X) men' = tot (cN X) s.1.1 + 1 := t0 e
          have := hK e; omega
        · have a1 : tot (cN X) men' + 1 = tot (cN X) s.1.1 := t1 e
          omega
        · have a1 : tot (cN X) men' = tot (cN X) s.1.1 := t2 e
          omega
      have := hX.2.1.2
      exact ⟨g1.next hE (hT.out hE g1.1) hl (Nat.le_trans htk (by omega)), htk, fun z => (hsl.mp z).1, fun z => absurd z (by omega)⟩
    · have := (cdt (fun z => absurd z hL2)).vs hX (hB.2.1 h hh)
      exact this
  have hmost := hB.most hX
  obtain ⟨τ, t1, t2, t3⟩ := xmeet hX hR hB.2.1 hmost vt (fun z1 z2 => by
    have e := off_new hX (cdt z2) z1
    have := (hB.off hX hh x).most hX
    rw [e] at this
    have : bM B + 1 ≤ 1604 := this
    omega) hF (g := g) (l5 := nI x.2.1) (l6 := l6) (h := h) (x := x) (fun _ => hH.1) hx0 (fun _ => by
      rw [hl6]
      have e1 : nI x.1 <<< ((10 : Int32) &&& 31) = nI (x.1 * 2 ^ 10) := nI_shl x.1 (k := 10) (by omega)
      have e2 : nI x.2.1 <<< ((5 : Int32) &&& 31) = nI (x.2.1 * 2 ^ 5) := nI_shl x.2.1 (k := 5) (by omega)
      rw [e1, e2, nI_cat (a := x.1) (k := 10) (by omega)]
      have e3 : x.1 * 2 ^ 10 + x.2.1 * 2 ^ 5 = (x.1 * 32 + x.2.1) * 2 ^ 5 := by omega
      rw [e3, nI_cat (by split <;> omega)]
      congr 1
      unfold opk
      omega) hg hH.2.2.2.1 hsl
  refine ⟨τ, t1, t2, ?_⟩
  rcases t3 with ⟨a, b⟩ | ⟨⟨a, a'⟩, b⟩
  · rw [b]
    have : off X B h x = B := off_old fun u hu => by
      rcases a with a | a
      · rw [hs] at hu
        have hu1 := hu.1.uniq hX.2.2.2.2 hT
        have e : u = ((men', w'), sl) := by
          refine Prod.ext hu1 ?_
          have p := hu.2.2.2.1
          cases h1 : u.2 <;> cases h2 : sl
          · rfl
          · exact absurd (p.mpr (hsl.mp h2)) (by rw [h1]; decide)
          · exact absurd (hsl.mpr (p.mp h1)) (by rw [h2]; decide)
          · rfl
        rw [e]; exact a
      · rw [hs] at hu
        have hu1 := hu.1.uniq hX.2.2.2.2 hT
        exact absurd (fun z => by have := hu.2.2.2.2 z; rw [hu1] at this; exact this) a
    rw [this]; exact hR
  · rw [off_new hX (cdt a') a]; exact b

/-! the three rounds of orders -/
theorem puts_full {X : CX} {B : BB} {h : Nat} (hK : cK X ≤ tot (cN X) (bQ B h).1.1) : ∀ c, putsF X B h c = B := by
  intro c
  induction c with
  | zero => rfl
  | succ c ih =>
    show off X (putsF X B h c) h (0, c, 0) = B
    rw [ih]
    exact off_no fun t z => by have := z.2.1 rfl; omega
theorem lb_put {σ : Sg} {n : Nat} {E : Gr} (hG : GC σ n E) {s : Std} (hs : SO n E s) {c : Nat} (hc : c < n) {g : Int32} (hg : ∀ i, bt g i = true ↔ (i < n ∧ 0 < up1 s.1 c (s.1 c + 1) i)) : LeO E (up1 s.1 c (s.1 c + 1)) (fun i => bt s.2 i = true) (fun p => nI p = -1) (fun i => bt (s.2 &&& (g ^^^ (-1))) i = true) := by
  have hn := hG.1.1
  obtain ⟨F, hF⟩ : ∃ F : Nat, 13 ≤ F := ⟨13, Nat.le_refl _⟩
  have nm : ∀ p, p < 18 → ¬ nI p = (-1 : Int32) := fun p hp z => by
    have := congrArg Int32.toInt z
    rw [nI_toInt (by omega)] at this
    have e : (-1 : Int32).toInt = -1 := by decide
    rw [e] at this; omega
  obtain ⟨w', a1, a2⟩ := lostB hG hF (men := s.1) (men' := up1 s.1 c (s.1 c + 1)) (w := s.2) (g := g) (l4 := 0) (sl := fun p => nI p = -1) hc hs.2.1 hs.2.2.1 hg (fun d hd h0 => by rw [up1_o _ _ hd] at h0; exact h0) (fun i hi => by rw [b_0]; exact ⟨fun z => by (cases z), fun z => absurd z (nm i hi)⟩) (fun p hp z => absurd z (nm p hp))
  unfold fX1_lostBehind li_ at a1
  have hb : bt g c = true := (hg c).mpr ⟨hc, by rw [up1_s]; omega⟩
  have nz : ¬ ((g >>> (nI c &&& 31)) &&& (1 : Int32)) = 0 := fun z => by rw [b_t0 (by omega), hb] at z; cases z
  simp only [if_neg nz] at a1
  cases a1
  exact a2
theorem xputs {X : CX} (hX : CXok X) {B : BB} {h : Nat} {s : BS} (hB : BI X B h) (hh : h < bM B) (hs : bQ B h = s) {F : Nat} (hF : 2100 ≤ F) : ∀ (m c : Nat) (σ : Sg), c ≤ cN X → cN X < c + m → XR X σ (putsF X B h c) → XHd X σ s h → ∃ τ, fX0_tryPuts_2 F m σ (nI c) = some (0, τ) ∧ Sm [8, 9] [18, 19, 20, 21] σ τ ∧ XR X τ (putsF X B h (cN X)) := by
  have hn := hX.2.2.2.1.2
  have hK := hX.2.1.2
  intro m
  induction m with
  | zero => intro c σ _ _; omega
  | succ m ih =>
    intro c σ hc hm hR hH
    obtain ⟨r1, ⟨r2, r3, r4⟩, -⟩ := id hR
    obtain ⟨k1, k2, k3, k4, k5, k6⟩ := id hH
    obtain ⟨pB, pP⟩ := stg_puts hX hB hh c
    have hq : bQ (putsF X B h c) h = s := (pP.2 h hh).1.trans hs
    have hh' : h < bM (putsF X B h c) := Nat.lt_of_lt_of_le hh pP.1
    have vs := hB.2.1 h hh
    rw [hs] at vs
    have htk := vs.2.1
    show ∃ τ, bX0_tryPuts_2 F _ σ (nI c) = _ ∧ _
    unfold bX0_tryPuts_2
    rw [r1.2.1]
    by_cases hcn : c = cN X
    · rw [if_pos (by rw [hcn]; exact nI_le (Nat.le_refl _) (by omega))]
      rw [hcn] at hR
      exact ⟨σ, rfl, Sm.rf, hR⟩
    · rw [if_neg (nI_ge (by omega) (by omega)), r4, k6]
      by_cases hf : cK X ≤ tot (cN X) s.1.1
      · rw [if_pos (nI_le hf (by omega))]
        have e := puts_full (X := X) (B := B) (h := h) (by rw [hs]; exact hf)
        rw [e c] at hR
        exact ⟨σ, rfl, Sm.rf, by rw [e]; exact hR⟩
      · rw [if_neg (nI_ge (by omega) (by omega))]
        obtain ⟨r, a1, a2⟩ := xallow F (σ := σ) (L := cL X) (o := (0, c, 0)) r2 (by have := hX.2.2.1; omega) hX.1 (by show 0 ≤ 2; omega) (show c < 12 by omega) (wh := 0) (Or.inl rfl) k4
        rw [r3]
        have a1' : fX1_allows F σ (nI (cL X)) 0 (nI c) (σ.1 15) = some (r, σ) := a1
        rw [a1']
        simp only [Option.bind_some]
        rcases a2 with ⟨ra, rb⟩ | ⟨ra, rb⟩
        · rw [if_neg (by rw [ra]; decide)]
          unfold li_ fX0_one
          simp only [Option.bind_some]
          have hg : ∀ i, bt (σ.1 16 ||| ((1 : Int32) <<< (nI c &&& 31))) i = true ↔ (i < cN X ∧ 0 < up1 s.1.1 c (s.1.1 c + 1) i) := fun i => by
            rw [b_or, b_bit (by omega), Bool.or_eq_true, k5 i, decide_eq_true_eq]
            by_cases e : i = c
            · rw [e, up1_s]; omega
            · rw [up1_o _ _ e]; omega
          have hle := lb_put r1 vs.1 (c := c) (by omega) hg
          have hbc : nI (bcode s.1.1) + (1 : Int32) <<< (((2 : Int32) * nI c) &&& 31) = nI (bcode (up1 s.1.1 c (s.1.1 c + 1))) := by
            rw [one_c c (by omega), nI_add]
            congr 1
            have := bcode_up s.1.1 (c := c) (by omega) (s.1.1 c + 1)
            rw [Nat.add_mul, Nat.one_mul] at this
            omega
          rw [k2, k3, hbc]
          obtain ⟨τ, t1, t2, t3⟩ := xoff hX hR pB hh' hq hH hF (x := (0, c, 0)) (men' := up1 s.1.1 c (s.1.1 c + 1)) (l6 := -1) (Or.inl ⟨rfl, by show c < _; omega, rfl, hle⟩) rb (fun _ => by omega) hg (show (-1 : Int32) + 1 = nI 0 by decide) (by show 0 < 18; omega)
          have t1' : fX0_meet F σ (nI (bcode (up1 s.1.1 c (s.1.1 c + 1)))) (s.1.2 &&& ((σ.1 16 ||| ((1 : Int32) <<< (nI c &&& 31))) ^^^ (-1))) (σ.1 16 ||| ((1 : Int32) <<< (nI c &&& 31))) 0 (nI c) (-1) = some (0, τ) := t1
          rw [t1']
          simp only [Option.bind_some, nI_1]
          obtain ⟨υ, u1, u2, u3⟩ := ih (c + 1) τ (by omega) (by omega) t3 (hH.sm t2)
          exact ⟨υ, u1, t2.tr u2, u3⟩
        · rw [if_pos ra, nI_1]
          have e : putsF X B h (c + 1) = putsF X B h c := off_no fun t z => rb (by rw [hq] at z; exact z.2.2.1)
          exact ih (c + 1) σ (by omega) (by omega) (by rw [e]; exact hR) hH
theorem xgw {X : CX} (hX : CXok X) {σ : Sg} {s : BS} {h : Nat} (hv : VS X s) (hH : XHd X σ s h) {c : Nat} (hc : c < cN X) (F : Nat) : ∃ g, fX0_guardedWithout F σ (nI c) = some (g, σ) ∧ ∀ i, bt g i = true ↔ (i < cN X ∧ 0 < up1 s.1.1 c (s.1.1 c - 1) i) := by
  obtain ⟨k1, k2, k3, k4, k5, k6⟩ := hH
  have hn := hX.2.2.2.1.2
  have h3 : ∀ c, c < 6 → s.1.1 c ≤ 3 := fun c _ => hv.m3 hX c
  have b1 := hv.bl hX
  have m3 := hv.m3 hX c
  unfold fX0_guardedWithout
  rw [k2, at_c (by omega) (by omega), bcode_at h3 (by omega)]
  have z : nI (s.1.1 c) ≤ (1 : Int32) ↔ s.1.1 c ≤ 1 := by
    rw [show (1 : Int32) = nI 1 by decide, nI_leI (by omega) (by omega)]
  by_cases hz : s.1.1 c ≤ 1
  · rw [if_pos (z.mpr hz)]
    refine ⟨_, rfl, fun i => ?_⟩
    rw [b_and, Bool.and_eq_true, k5 i]
    by_cases e : i = c
    · rw [e, up1_s, b_not _ (by omega), b_bit (by omega)]; simp; omega
    · rw [up1_o _ _ e]
      constructor
      · intro y; exact y.1
      · intro y
        refine ⟨y, ?_⟩
        rw [b_not _ (by omega), b_bit (by omega), decide_eq_false e]; rfl
  · rw [if_neg (fun y => hz (z.mp y))]
    refine ⟨_, rfl, fun i => ?_⟩
    rw [k5 i]
    by_cases e : i = c
    · rw [e, up1_s]; omega
    · rw [up1_o _ _ e]
theorem nIm1 {p : Nat} (hp : p < 18) : ¬ nI p = (-1 : Int32) := fun z => by
  have := congrArg Int32.toInt z
  rw [nI_toInt (by omega)] at this
  have e : (-1 : Int32).toInt = -1 := by decide
  rw [e] at this; omega
theorem bcode_dn {men : Nat → Nat} {c : Nat} (hc : c < 6) (h0 : 0 < men c) : nI (bcode men) - (1 : Int32) <<< (((2 : Int32) * nI c) &&& 31) = nI (bcode (up1 men c (men c - 1))) ∧ bcode men = bcode (up1 men c (men c - 1)) + 4 ^ c := by
  have := bcode_up men hc (men c - 1)
  have e : men c * 4 ^ c = (men c - 1) * 4 ^ c + 4 ^ c := by
    obtain ⟨k, hk⟩ : ∃ k, men c = k + 1 := ⟨men c - 1, by omega⟩
    rw [hk, Nat.add_mul, Nat.one_mul]; rfl
  have e2 : bcode men = bcode (up1 men c (men c - 1)) + 4 ^ c := by omega
  refine ⟨?_, e2⟩
  rw [one_c c hc, e2, nI_sub (by omega)]
  congr 1
  show bcode _ + 4 ^ c - 4 ^ c = _
  omega
theorem xlifts {X : CX} (hX : CXok X) {B : BB} {h : Nat} {s : BS} (hB : BI X B h) (hh : h < bM B) (hs : bQ B h = s) {F : Nat} (hF : 2100 ≤ F) : ∀ (m c : Nat) (σ : Sg), c ≤ cN X → cN X < c + m → XR X σ (liftsF X B h c) → XHd X σ s h → ∃ τ, fX0_tryLifts_2 F m σ (nI c) = some (0, τ) ∧ Sm [8, 9] [18, 19, 20, 21] σ τ ∧ XR X τ (liftsF X B h (cN X)) := by
  have hn := hX.2.2.2.1.2
  intro m
  induction m with
  | zero => intro c σ _ _; omega
  | succ m ih =>
    intro c σ hc hm hR hH
    obtain ⟨r1, ⟨r2, r3, r4⟩, -⟩ := id hR
    obtain ⟨k1, k2, k3, k4, k5, k6⟩ := id hH
    obtain ⟨pB, pP⟩ := stg_lifts hX hB hh c
    have hq : bQ (liftsF X B h c) h = s := (pP.2 h hh).1.trans hs
    have hh' : h < bM (liftsF X B h c) := Nat.lt_of_lt_of_le hh pP.1
    have vs := hB.2.1 h hh
    rw [hs] at vs
    show ∃ τ, bX0_tryLifts_2 F _ σ (nI c) = _ ∧ _
    unfold bX0_tryLifts_2
    rw [r1.2.1]
    by_cases hcn : c = cN X
    · rw [if_pos (by rw [hcn]; exact nI_le (Nat.le_refl _) (by omega))]
      rw [hcn] at hR
      exact ⟨σ, rfl, Sm.rf, hR⟩
    · rw [if_neg (nI_ge (by omega) (by omega))]
      by_cases hgc : bt (σ.1 16) c = true
      · have h0 := ((k5 c).mp hgc).2
        rw [if_neg (show ¬ ((σ.1 16 >>> (nI c &&& 31)) &&& (1 : Int32)) = 0 from fun z => by rw [b_t0 (by omega), hgc] at z; cases z)]
        obtain ⟨r, a1, a2⟩ := xallow F (σ := σ) (L := cL X) (o := (1, c, 0)) r2 (by have := hX.2.2.1; omega) hX.1 (by show 1 ≤ 2; omega) (show c < 12 by omega) (wh := 1) (Or.inl rfl) k4
        rw [r3]
        have a1' : fX1_allows F σ (nI (cL X)) 1 (nI c) (σ.1 15) = some (r, σ) := a1
        rw [a1']
        simp only [Option.bind_some]
        rcases a2 with ⟨ra, rb⟩ | ⟨ra, rb⟩
        · rw [if_neg (show ¬ r = 0 by rw [ra]; decide)]
          obtain ⟨g, g1, hg⟩ := xgw hX vs hH (c := c) (by omega) F
          rw [g1]
          unfold fX0_one
          simp only [Option.bind_some]
          obtain ⟨w', l1, hle⟩ := lostB r1 (F := F) (by omega) (men := s.1.1) (men' := up1 s.1.1 c (s.1.1 c - 1)) (w := s.1.2) (g := g) (l4 := 0) (sl := fun p => nI p = -1) (show c < cN X by omega) vs.1.2.1 vs.1.2.2.1 hg (fun d hd z => by rw [up1_o _ _ hd] at z; exact z) (fun i hi => by rw [b_0]; exact ⟨fun z => by (cases z), fun z => absurd z (nIm1 hi)⟩) (fun p hp z => absurd z (nIm1 hp))
          rw [k3, l1]
          simp only [Option.bind_some]
          rw [k2, (bcode_dn (by omega) h0).1]
          obtain ⟨τ, t1, t2, t3⟩ := xoff hX hR pB hh' hq hH hF (x := (1, c, 0)) (men' := up1 s.1.1 c (s.1.1 c - 1)) (w' := w') (l6 := -1) (Or.inr (Or.inl ⟨rfl, by show c < _; omega, h0, rfl, hle⟩)) rb (fun z => by (cases z)) hg (show (-1 : Int32) + 1 = nI 0 by decide) (by show 0 < 18; omega)
          have t1' : fX0_meet F σ (nI (bcode (up1 s.1.1 c (s.1.1 c - 1)))) w' g 1 (nI c) (-1) = some (0, τ) := t1
          rw [t1']
          simp only [Option.bind_some, nI_1]
          obtain ⟨υ, u1, u2, u3⟩ := ih (c + 1) τ (by omega) (by omega) t3 (hH.sm t2)
          exact ⟨υ, u1, t2.tr u2, u3⟩
        · rw [if_pos ra, nI_1]
          have e : liftsF X B h (c + 1) = liftsF X B h c := off_no fun t z => rb (by rw [hq] at z; exact z.2.2.1)
          exact ih (c + 1) σ (by omega) (by omega) (by rw [e]; exact hR) hH
      · rw [if_pos (show ((σ.1 16 >>> (nI c &&& 31)) &&& (1 : Int32)) = 0 from (b_t0 (by omega)).mpr (Bool.eq_false_iff.mpr hgc)), nI_1]
        have e : liftsF X B h (c + 1) = liftsF X B h c := off_no fun t z => by
          rw [hq] at z
          rcases z.1 with ⟨y, -⟩ | ⟨-, y, y2, -⟩ | ⟨y, -⟩
          · cases y
          · exact hgc ((k5 c).mpr ⟨y, y2⟩)
          · cases y
        exact ih (c + 1) σ (by omega) (by omega) (by rw [e]; exact hR) hH
