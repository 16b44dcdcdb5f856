/-! ===== the class: the whole of finds ===== -/
theorem xslides {X : CX} (hX : CXok X) {B : BB} {h : Nat} {s : BS} (hB : BI X B h) (hh : h < bM B) (hs : bQ B h = s) {F : Nat} (hF : 2100 ≤ F) : ∀ (m c : Nat) (σ : Sg), c ≤ cN X → cN X < c + m → XR X σ (slidesF X B h c) → XHd X σ s h → ∃ τ, fX0_trySlides_2 F m σ (nI c) = some (0, τ) ∧ Sm [8, 9] [18, 19, 20, 21] σ τ ∧ XR X τ (slidesF X B h (cN X)) := by
  have hn := hX.2.2.2.1.2
  intro m
  induction m with
  | zero => intro c σ _ _; omega
  | succ m ih =>
    intro c σ hc hm hR hH
    obtain ⟨r1, ⟨r2, r3, r4⟩, -⟩ := id hR
    obtain ⟨k1, k2, k3, k4, k5, k6⟩ := id hH
    obtain ⟨pB, pP⟩ := stg_slides hX hB hh c
    have hq : bQ (slidesF X B h c) h = s := (pP.2 h hh).1.trans hs
    have hh' : h < bM (slidesF X B h c) := Nat.lt_of_lt_of_le hh pP.1
    show ∃ τ, bX0_trySlides_2 F _ σ (nI c) = _ ∧ _
    unfold bX0_trySlides_2
    rw [r1.2.1]
    by_cases hcn : c = cN X
    · rw [if_pos (by rw [hcn]; exact nI_le (Nat.le_refl _) (by omega))]
      rw [hcn] at hR
      exact ⟨σ, rfl, Sm.rf, hR⟩
    · rw [if_neg (nI_ge (by omega) (by omega))]
      by_cases hgc : bt (σ.1 16) c = true
      · have h0 := ((k5 c).mp hgc).2
        rw [if_neg (show ¬ ((σ.1 16 >>> (nI c &&& 31)) &&& (1 : Int32)) = 0 from fun z => by rw [b_t0 (by omega), hgc] at z; cases z)]
        have ic : ib (nI c) 12 := nI_in (by omega) (by omega)
        have cc : (nI c).toNatClampNeg = c := nI_clamp (by omega)
        obtain ⟨τ, t1, t2, t3⟩ := xslf hX pB hh' hq hF (c := c) (by omega) h0 (r1.2.2.2.2.1 c (by omega)) (B' := slidesF X B h (c + 1)) (fun q e => by rw [e]; rfl) F 0 σ (by omega) (by omega) hR hH
        have t1' : fX0_trySlidesFrom F σ (nI c) = some (0, τ) := by
          unfold fX0_trySlidesFrom li_
          simp only [if_pos ic, cc]
          exact t1
        rw [bind_e t1', nI_1]
        obtain ⟨υ, u1, u2, u3⟩ := ih (c + 1) τ (by omega) (by omega) t3 (hH.sm t2)
        exact ⟨υ, u1, t2.tr u2, u3⟩
      · rw [if_pos (show ((σ.1 16 >>> (nI c &&& 31)) &&& (1 : Int32)) = 0 from (b_t0 (by omega)).mpr (Bool.eq_false_iff.mpr hgc)), nI_1]
        have hz : s.1.1 c = 0 := Classical.byContradiction fun y => hgc ((k5 c).mpr ⟨by omega, by omega⟩)
        have e : slidesF X B h (c + 1) = slidesF X B h c := by
          have := sl_stay hX pB hh' (c := c) (p := 0) 18 (fun q _ _ => no_sl0 (by rw [hq]; exact hz))
          exact this
        exact ih (c + 1) σ (by omega) (by omega) (by rw [e]; exact hR) hH
/-- one stand's orders -/
theorem xexpand {X : CX} (hX : CXok X) {σ : Sg} {B : BB} {h : Nat} (hB : BI X B h) (hh : h < bM B) (hR : XR X σ B) {F : Nat} (hF : 2100 ≤ F) : ∃ σ1 σ2 σ3 τ, fX0_takeUp F σ (nI h) = some (0, σ1) ∧ fX0_tryPuts F σ1 = some (0, σ2) ∧ fX0_tryLifts F σ2 = some (0, σ3) ∧ fX0_trySlides F σ3 = some (0, τ) ∧ Sm [8, 9, 12, 13, 14, 15, 16, 17] [18, 19, 20, 21] σ τ ∧ XR X τ (expand X B h) := by
  have hn := hX.2.2.2.1.2
  obtain ⟨σ1, a1, a2, a3⟩ := xtake hX hR hh (hB.most hX) (hB.2.1 h hh) hF
  have hR1 := hR.sm a2 (by simp) (by simp)
  obtain ⟨σ2, b1, b2, b3⟩ := xputs hX hB hh rfl hF F 0 σ1 (by omega) (by omega) hR1 a3
  obtain ⟨pB, pP⟩ := stg_puts hX hB hh (cN X)
  obtain ⟨σ3, c1, c2, c3⟩ := xlifts hX pB (Nat.lt_of_lt_of_le hh pP.1) (pP.2 h hh).1 hF F 0 σ2 (by omega) (by omega) b3 (a3.sm b2)
  obtain ⟨lB, lP⟩ := stg_lifts hX pB (Nat.lt_of_lt_of_le hh pP.1) (cN X)
  obtain ⟨τ, d1, d2, d3⟩ := xslides hX lB (Nat.lt_of_lt_of_le hh (pP.tr lP).1) ((pP.tr lP).2 h hh).1 hF F 0 σ3 (by omega) (by omega) c3 ((a3.sm b2).sm c2)
  exact ⟨σ1, σ2, σ3, τ, a1, b1, c1, d1, (a2.up (by simp) (by simp)).tr ((b2.tr (c2.tr d2)).up (by simp) (by simp)), d3⟩
theorem FG.no {B : BB} {g : Int32} (h : FG B g) (hM : bM B ≤ 1604) : g = -1 ↔ ¬ Gl B := by
  rcases h with ⟨h1, h2⟩ | ⟨i, h1, h2, h3, h4⟩
  · exact ⟨fun _ => h2, fun _ => h1⟩
  · constructor
    · intro z
      rw [h2] at z
      have := congrArg Int32.toInt z
      rw [nI_toInt (by omega)] at this
      have e : (-1 : Int32).toInt = -1 := by decide
      rw [e] at this; omega
    · intro z; exact absurd ⟨i, h1, h3⟩ z
theorem xfin {X : CX} {σ : Sg} {B : BB} (hR : XR X σ B) (hM : bM B ≤ 1604) (F : Nat) : ∃ r, bX0_finds_102 F σ = some (r, σ) ∧ Tf r (Gl B) := by
  have hf := hR.2.2.2.1.no hM
  unfold bX0_finds_102
  by_cases hg : Gl B
  · rw [if_neg (fun z => (hf.mp z) hg)]; exact ⟨1, rfl, Tf.yes hg⟩
  · rw [if_pos (hf.mpr hg)]; exact ⟨0, rfl, Tf.no hg⟩
theorem xfinds_loop {X : CX} (hX : CXok X) {F : Nat} (hF : 2100 ≤ F) : ∀ (m h : Nat) (σ : Sg), h ≤ 1604 → 1604 < h + m → (∀ g, g < h → g < bM (bst X g) ∧ ¬ Gl (bst X g)) → XR X σ (bst X h) → ∃ r τ H, fX0_finds_56 F m σ (nI h) = some (r, τ) ∧ Sm [8, 9, 12, 13, 14, 15, 16, 17] [18, 19, 20, 21] σ τ ∧ Stop X H ∧ XR X τ (bst X H) ∧ Tf r (Gl (bst X H)) := by
  intro m
  induction m with
  | zero => intro h σ _ _; omega
  | succ m ih =>
    intro h σ hh hm hst hR
    have hB := bst_ok hX h (fun g hg => (hst g hg).1)
    have hM := hB.most hX
    show ∃ r τ H, bX0_finds_56 F _ σ (nI h) = _ ∧ _
    unfold bX0_finds_56
    rw [hR.2.2.1]
    by_cases hb : bM (bst X h) ≤ h
    · rw [if_pos (nI_le hb (by omega))]
      obtain ⟨r, q1, q2⟩ := xfin hR hM F
      exact ⟨r, σ, h, q1, Sm.rf, ⟨hst, Or.inl hb⟩, hR, q2⟩
    · rw [if_neg (nI_ge (by omega) (by omega)), if_neg (by rw [show (1604 : Int32) = nI 1604 by decide]; exact nI_ge (by omega) (by omega))]
      have hf := hR.2.2.2.1.no hM
      by_cases hg : Gl (bst X h)
      · rw [if_neg (fun z => (hf.mp z) hg)]
        obtain ⟨r, q1, q2⟩ := xfin hR hM F
        exact ⟨r, σ, h, q1, Sm.rf, ⟨hst, Or.inr hg⟩, hR, q2⟩
      · rw [if_pos (hf.mpr hg)]
        obtain ⟨σ1, σ2, σ3, σ4, e1, e2, e3, e4, e5, e6⟩ := xexpand hX hB (by omega) hR hF
        rw [bind_e e1]
        show ∃ r τ H, Option.bind (fX0_tryPuts F σ1) _ = _ ∧ _
        rw [bind_e e2]
        show ∃ r τ H, Option.bind (fX0_tryLifts F σ2) _ = _ ∧ _
        rw [bind_e e3]
        show ∃ r τ H, Option.bind (fX0_trySlides F σ3) _ = _ ∧ _
        rw [bind_e e4]
        show ∃ r τ H, fX0_finds_56 F m σ4 (nI h + 1) = _ ∧ _
        rw [nI_1]
        obtain ⟨r, τ, H, q1, q2, q3⟩ := ih (h + 1) σ4 (by omega) (by omega) (fun g hg2 => by
          by_cases e : g = h
          · rw [e]; exact ⟨by omega, hg⟩
          · exact hst g (by omega)) e6
        exact ⟨r, τ, H, q1, e5.tr q2, q3⟩
/-! ===== the whole of finds ===== -/
theorem XR.cg {X : CX} {σ : Sg} {B C : BB} (h : XR X σ B) (e1 : bM C = bM B) (e2 : ∀ i, i < bM B → bQ C i = bQ B i) (e3 : ∀ i, 0 < i → i < bM B → bF C i = bF B i ∧ bO C i = bO B i) : XR X σ C := by
  obtain ⟨r1, r2, r5, r6, r7, r8⟩ := h
  refine ⟨r1, r2, by rw [e1]; exact r5, ?_, fun i hi => ?_, by rw [e1]; exact r8⟩
  · rcases r6 with ⟨g1, g2⟩ | ⟨i, i1, i2, i3, i4⟩
    · exact Or.inl ⟨g1, fun ⟨i, i1, i2⟩ => g2 ⟨i, by omega, by rw [← e2 i (by omega)]; exact i2⟩⟩
    · exact Or.inr ⟨i, by omega, i2, by rw [e2 i i1]; exact i3, fun j hj => by rw [e2 j (by omega)]; exact i4 j hj⟩
  · obtain ⟨z1, z2⟩ := r7 i (by omega)
    rw [e2 i (by omega)]
    refine ⟨z1, fun h0 => ?_⟩
    rw [(e3 i h0 (by omega)).1, (e3 i h0 (by omega)).2]
    exact z2 h0
/-- the whole of finds -/
theorem xfinds {X : CX} (hX : CXok X) {σ : Sg} (hG : GC σ (cN X) (cE X)) (h2 : σ.1 2 = nI (cM X)) {F : Nat} (hF : 2100 ≤ F) : ∃ r τ H, fX0_finds F σ (nI (cL X)) (nI (cK X)) = some (r, τ) ∧ Sm [8, 9, 10, 11, 12, 13, 14, 15, 16, 17] [18, 19, 20, 21] σ τ ∧ Stop X H ∧ XR X τ (bst X H) ∧ Tf r (Gl (bst X H)) := by
  have hn := hX.2.2.2.1
  obtain ⟨σ4, h4⟩ : ∃ σ4, σ4 = sv (sv (sv (sv σ 10 (nI (cL X))) 11 (nI (cK X))) 8 0) 9 (-1) := ⟨_, rfl⟩
  have s4 : Sm [8, 9, 10, 11] [] σ σ4 := by rw [h4]; exact (((Sm.sv (by simp)).tr (Sm.sv (by simp))).tr (Sm.sv (by simp))).tr (Sm.sv (by simp))
  obtain ⟨σ5, f1, f2, f3⟩ := fil18 (F := F) (by omega) σ4 0
  obtain ⟨σ7, h7⟩ : ∃ σ7, σ7 = sv (sv σ5 12 (-1)) 15 0 := ⟨_, rfl⟩
  have s7 : Sm [12, 15] [] σ5 σ7 := by rw [h7]; exact (Sm.sv (by simp)).tr (Sm.sv (by simp))
  have s07 : Sm [8, 9, 10, 11, 12, 15] [18] σ σ7 := (s4.up (by simp) (by simp)).tr ((f2.up (by simp) (by simp)).tr (s7.up (by simp) (by simp)))
  have v4 : ∀ i, i ∈ [8, 9, 10, 11] → σ7.1 i = σ4.1 i := fun i hi => by
    rw [s7.1 i (by simp at hi; simp; omega), f2.1 i (by simp)]
  have q8 : σ7.1 8 = 0 := by rw [v4 8 (by simp), h4]; simp only [sv_1]; simp
  have q9 : σ7.1 9 = -1 := by rw [v4 9 (by simp), h4]; simp only [sv_1]; simp
  have q10 : σ7.1 10 = nI (cL X) := by rw [v4 10 (by simp), h4]; simp only [sv_1]; simp
  have q11 : σ7.1 11 = nI (cK X) := by rw [v4 11 (by simp), h4]; simp only [sv_1]; simp
  have q15 : σ7.1 15 = 0 := by rw [h7]; simp only [sv_1]; simp
  have G7 := hG.sm s07 (by simp) (by simp) (by simp) (by simp) (by simp) (by simp)
  obtain ⟨B0, hB0⟩ : ∃ B0 : BB, bM B0 = 0 := ⟨(0, fun _ => (std0 0, false), fun _ => 0, fun _ => (0, 0, 0)), rfl⟩
  have R7 : XR X σ7 B0 := by
    refine ⟨G7, ⟨(s07.1 2 (by simp)).trans h2, q10, q11⟩, by rw [q8, hB0, nI_0], Or.inl ⟨q9, fun ⟨i, i1, _⟩ => by omega⟩, fun i hi => by omega, ?_⟩
    rw [hB0]
    exact HT.nil fun s hs => by rw [s7.2.1 18 (by simp)]; exact f3 s hs
  have hE := hX.2.2.2.2
  have hang0 : cL X = 2 → Hang (cN X) (cE X) (cM X) (std0 (cN X)).1 (fun i => bt (std0 (cN X)).2 i = true) := fun _ => ⟨fun c _ => Or.inl rfl, fun p a b hp => Or.inl ⟨a, b, hp, Or.inl (by
    show bt (all_ _) a = true
    rw [all_bt (by omega)]
    have := hE.2 p a b hp; omega)⟩⟩
  obtain ⟨σ9, m1, m2, m3⟩ := xmeet hX R7 (fun i hi => by omega) (by omega) (VS0 hX) (fun _ _ => by omega) hF (g := 0) (l5 := 0) (l6 := -1) (h := 0) (x := (0, 0, 0)) (fun z => by omega) (by show 0 ≤ 2; omega) (fun z => by omega) (fun i => by
    rw [b_0]
    exact ⟨fun z => by (cases z), fun z => absurd z.2 (by show ¬ 0 < 0; omega)⟩) (P := False) (Or.inr ⟨q15, fun z => z⟩) (by
    constructor
    · intro z; cases z
    · rintro ⟨-, z | z⟩
      · exact z.elim
      · cases z)
  have R9 : XR X σ9 (bst X 0) := by
    rcases m3 with ⟨a, -⟩ | ⟨-, b⟩
    · rcases a with ⟨i, i1, -⟩ | a
      · omega
      · exact absurd hang0 a
    · refine b.cg (by show 1 = bM B0 + 1; omega) (fun i hi => ?_) (fun i i1 i2 => ?_)
      · have hi' : i < bM B0 + 1 := hi
        have e : bQ (app B0 0 (0, 0, 0) (std0 (cN X), false)) i = (std0 (cN X), false) := if_pos (by omega)
        rw [e]; rfl
      · have : i < bM B0 + 1 := i2
        omega
  obtain ⟨r, τ, H, u1, u2, u3⟩ := xfinds_loop hX hF F 0 σ9 (by omega) (by omega) (fun g hg => by omega) R9
  refine ⟨r, τ, H, ?_, ((s07.up (by simp) (by simp)).tr (m2.up (by simp) (by simp))).tr (u2.up (by simp) (by simp)), u3⟩
  unfold fX0_finds ls_
  show (fJ7_fill_53178_18 F (sv (sv (sv (sv σ 10 (nI (cL X))) 11 (nI (cK X))) 8 0) 9 (-1)) 0).bind _ = _
  rw [← h4, bind_e f1]
  show Option.bind (some (((1 : Int32) <<< ((sv (sv σ5 12 (-1)) 15 0).1 0 &&& 31)) - 1, sv (sv σ5 12 (-1)) 15 0)) _ = _
  rw [← h7, G7.2.1]
  show Option.bind (fX0_meet F σ7 0 (((1 : Int32) <<< (nI (cN X) &&& 31)) - 1) 0 0 0 (-1)) _ = _
  have m1' : fX0_meet F σ7 0 (((1 : Int32) <<< (nI (cN X) &&& 31)) - 1) 0 0 0 (-1) = some (0, σ9) := by
    have e0 : bcode (std0 (cN X)).1 = 0 := rfl
    rw [e0] at m1
    exact m1
  rw [bind_e m1']
  exact u1
