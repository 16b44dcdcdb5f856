/-! ===== the reference meets a stand ===== -/
theorem nx_T {T : Nat} (hT : T = 524288) (a : Nat) : nI (a % T + 1) &&& 524287 = nI ((a + 1) % T) := by
  subst hT
  rw [show (524287 : Int32) = nI (2 ^ 19 - 1) by decide, nI_mod]
  congr 1
  omega
def mapp (σ : Sg) (M sl : Nat) (v l2 l3 : Int32) : Sg := sa (sv (sa (sa (sa σ 37 M v) 38 M l2) 39 M l3) 26 (nI (M + 1))) 36 sl (nI (M + 1))
theorem mm_loop {T : Nat} (hT : T = 524288) {σ : Sg} {M : Nat} (hM : M ≤ 1604) (h26 : σ.1 26 = nI M) (F : Nat) (v l2 l3 : Int32) {a d : Nat} (hd : d < T) (h1 : ∀ e, e < d → ∃ i, i < M ∧ σ.2.1 36 ((a + e) % T) = nI (i + 1) ∧ σ.2.1 37 i ≠ v) : ∀ (m e : Nat), e ≤ d → d < e + m → (σ.2.1 36 ((a + d) % T) = 0 → fX7_meets_20 F m σ l2 l3 v (nI ((a + e) % T)) = some (1, mapp σ M ((a + d) % T) v l2 l3)) ∧ ((∃ i, i < M ∧ σ.2.1 36 ((a + d) % T) = nI (i + 1) ∧ σ.2.1 37 i = v) → fX7_meets_20 F m σ l2 l3 v (nI ((a + e) % T)) = some (0, σ)) := by
  intro m
  induction m with
  | zero => intro e _ _; omega
  | succ m ih =>
    intro e he hm
    have hlt : (a + e) % T < T := Nat.mod_lt _ (by omega)
    have g2 : ib (nI ((a + e) % T)) 524288 := nI_in (by omega) (by omega)
    have cl : (nI ((a + e) % T)).toNatClampNeg = (a + e) % T := nI_clamp (by omega)
    have go : ∀ {i : Nat}, i < M → σ.2.1 36 ((a + e) % T) = nI (i + 1) → (σ.2.1 37 i = v → fX7_meets_20 F (m + 1) σ l2 l3 v (nI ((a + e) % T)) = some (0, σ)) ∧ (σ.2.1 37 i ≠ v → fX7_meets_20 F (m + 1) σ l2 l3 v (nI ((a + e) % T)) = fX7_meets_20 F m σ l2 l3 v (nI ((a + e + 1) % T))) := by
      intro i hi ht
      have g3 : ¬ nI (i + 1) = (0 : Int32) := nI_ne0 (by omega) (by omega)
      have g5 : ib (nI i) 262144 := nI_in (by omega) (by omega)
      have cl5 : (nI i).toNatClampNeg = i := nI_clamp (by omega)
      constructor
      · intro hv
        show bX7_meets_20 F _ σ l2 l3 v _ = _
        unfold bX7_meets_20 li_
        simp only [if_pos g2, cl, ht, if_neg g3, nI_pred, if_pos g5, cl5, if_pos hv]
      · intro hv
        show bX7_meets_20 F _ σ l2 l3 v _ = _
        unfold bX7_meets_20 li_
        simp only [if_pos g2, cl, ht, if_neg g3, nI_pred, if_pos g5, cl5, if_neg hv, nI_1, nx_T hT]
    by_cases hed : e = d
    · subst hed
      constructor
      · intro h0
        have b2 : ib (nI M) 262144 := nI_in (by omega) (by omega)
        have b3 : (nI M).toNatClampNeg = M := nI_clamp (by omega)
        show bX7_meets_20 F _ σ l2 l3 v _ = _
        unfold bX7_meets_20 ls_
        simp only [if_pos g2, cl, h0, if_true, sa_1, h26, if_pos b2, b3, sv_1, nI_1]
        rfl
      · rintro ⟨i, i1, i2, i3⟩
        exact (go i1 i2).1 i3
    · obtain ⟨i, i1, i2, i3⟩ := h1 e (by omega)
      rw [(go i1 i2).2 i3, Nat.add_assoc]
      exact ih (e + 1) (by omega) (by omega)
theorem mins {T : Nat} (hT : T = 524288) {X : CX} (hX : CX8 X) {σ : Sg} {B : BB} (hR : MR T X σ B) (hv : ∀ i, i < bM B → VS X (bQ B i)) (hM : bM B ≤ 1604) {t : BS} (ht : VS X t) (hS : MS X σ t) {F : Nat} (hF : T + 40 ≤ F) {sl : Prop} (h27 : Tf (σ.1 27) sl) (hts : t.2 = true ↔ (cL X = 1 ∧ sl)) {l2 l3 : Int32} {h : Nat} {x : Ord_} (hx1 : 0 < bM B → l2 = nI h) (hx2 : 0 < bM B → l3 = nI (opm x)) (hx0 : bM B = 0 → l2 = -1) :
    ∃ r τ, fX7_meets F σ (nI (cL X)) l2 l3 = some (r, τ) ∧ Sm [26] [36, 37, 38, 39] σ τ ∧ ((inL B t ∧ r = 0 ∧ τ = σ) ∨ (¬ inL B t ∧ r = 1 ∧ MR T X τ (app B h x t))) := by
  obtain ⟨r1, r2, r3, r4, r5⟩ := hR
  have e0 := mnum hX r1 ht hS (F := F) (by omega) h27 hts
  have hxt := mn_lt hX ht
  obtain ⟨d, d1, d2, d3⟩ := r5.look (by omega) (by omega) (nI (mn X t))
  have cdi : ∀ i, i < bM B → (σ.2.1 37 i = nI (mn X t) ↔ bQ B i = t) := fun i hi => by
    rw [(r4 i hi).1]
    have := mn_lt hX (hv i hi)
    rw [nI_eq (by omega) (by omega)]
    exact ⟨fun e => mn_inj hX (hv i hi) ht e, fun e => by rw [e]⟩
  have hh : hsM (nI (mn X t)) < T := by rw [hT]; exact Nat.mod_lt _ (by omega)
  have em : fX7_meets F σ (nI (cL X)) l2 l3 = fX7_meets_20 F F σ l2 l3 (nI (mn X t)) (nI (hsM (nI (mn X t)))) := by
    unfold fX7_meets
    rw [bind_e e0, ← hsM_e]
    rfl
  have lp := mm_loop hT hM r3 F (nI (mn X t)) l2 l3 d1 d2 F 0 (by omega) (by omega)
  rw [Nat.add_zero, Nat.mod_eq_of_lt hh] at lp
  rcases d3 with ⟨f1, f2⟩ | ⟨i, i1, i2, i3⟩
  · have hnl : ¬ inL B t := fun ⟨i, z1, z2⟩ => f2 i z1 ((cdi i z1).mpr z2)
    obtain ⟨sl', hsl⟩ : ∃ sl', (hsM (nI (mn X t)) + d) % T = sl' := ⟨_, rfl⟩
    have e1 := lp.1 f1
    rw [hsl] at e1
    obtain ⟨τ, hτ⟩ : ∃ τ, τ = mapp σ (bM B) sl' (nI (mn X t)) l2 l3 := ⟨_, rfl⟩
    have sm : Sm [26] [36, 37, 38, 39] σ τ := by
      rw [hτ]
      unfold mapp
      exact ((((Sm.sa (by simp)).tr (Sm.sa (by simp))).tr (Sm.sa (by simp))).tr (Sm.sv (by simp))).tr (Sm.sa (by simp))
    have a37 : ∀ i, τ.2.1 37 i = if i = bM B then nI (mn X t) else σ.2.1 37 i := fun i => by
      rw [hτ]; unfold mapp
      rw [sa_2, if_neg (show ¬ 37 = 36 by decide), sv_2, sa_2, if_neg (show ¬ 37 = 39 by decide), sa_2, if_neg (show ¬ 37 = 38 by decide), sa_2, if_pos rfl, upd_at]
    have a38 : ∀ i, τ.2.1 38 i = if i = bM B then l2 else σ.2.1 38 i := fun i => by
      rw [hτ]; unfold mapp
      rw [sa_2, if_neg (show ¬ 38 = 36 by decide), sv_2, sa_2, if_neg (show ¬ 38 = 39 by decide), sa_2, if_pos rfl, upd_at, sa_2, if_neg (show ¬ 38 = 37 by decide)]
    have a39 : ∀ i, τ.2.1 39 i = if i = bM B then l3 else σ.2.1 39 i := fun i => by
      rw [hτ]; unfold mapp
      rw [sa_2, if_neg (show ¬ 39 = 36 by decide), sv_2, sa_2, if_pos rfl, upd_at, sa_2, if_neg (show ¬ 39 = 38 by decide), sa_2, if_neg (show ¬ 39 = 37 by decide)]
    have a36 : ∀ s, τ.2.1 36 s = if s = sl' then nI (bM B + 1) else σ.2.1 36 s := fun s => by
      rw [hτ]; unfold mapp
      rw [sa_2, if_pos rfl, upd_at, sv_2, sa_2, if_neg (show ¬ 36 = 39 by decide), sa_2, if_neg (show ¬ 36 = 38 by decide), sa_2, if_neg (show ¬ 36 = 37 by decide)]
    have a26 : τ.1 26 = nI (bM B + 1) := by
      rw [hτ]; unfold mapp
      rw [sa_1, sv_1, if_pos rfl]
    have qo : ∀ i, i < bM B → bQ (app B h x t) i = bQ B i := fun i hi => if_neg (by omega)
    have qn : bQ (app B h x t) (bM B) = t := if_pos rfl
    have fo : ∀ i, i < bM B → bF (app B h x t) i = bF B i := fun i hi => if_neg (by omega)
    have fn : bF (app B h x t) (bM B) = h := if_pos rfl
    have oo : ∀ i, i < bM B → bO (app B h x t) i = bO B i := fun i hi => if_neg (by omega)
    have on : bO (app B h x t) (bM B) = x := if_pos rfl
    have hmm : bM (app B h x t) = bM B + 1 := rfl
    refine ⟨1, τ, by rw [em, e1, hτ], sm, Or.inr ⟨hnl, rfl, r1.sm sm (by simp) (by simp) (by simp) (by simp), (sm.1 22 (by simp)).trans r2, by rw [a26, hmm], fun i hi => ?_, ?_⟩⟩
    · rw [hmm] at hi
      by_cases ei : i = bM B
      · refine ⟨?_, fun h0 => ⟨?_, ?_⟩, fun hz => by rw [a38, if_pos ei]; exact hx0 (by omega)⟩
        · rw [a37, if_pos ei, ei, qn]
        · rw [a38, if_pos ei, hx1 (by omega), ei, fn]
        · rw [a39, if_pos ei, hx2 (by omega), ei, on]
      · obtain ⟨z1, z2, z3⟩ := r4 i (by omega)
        refine ⟨?_, fun h0 => ⟨?_, ?_⟩, fun hz => by rw [a38, if_neg ei]; exact z3 hz⟩
        · rw [a37, if_neg ei, z1, qo i (by omega)]
        · rw [a38, if_neg ei, (z2 h0).1, fo i (by omega)]
        · rw [a39, if_neg ei, (z2 h0).2, oo i (by omega)]
    · rw [hmm]
      exact r5.put (by omega) d1 d2 f1 (fun s => by rw [a36, hsl]) (fun i hi => by rw [a37, if_neg (by omega)]) (by rw [a37, if_pos rfl])
  · exact ⟨0, σ, by rw [em, lp.2 ⟨i, i1, i2, i3⟩], Sm.rf, Or.inl ⟨⟨i, i1, (cdi i i1).mp i3⟩, rfl, rfl⟩⟩
/-- may -/
theorem mmay {X : CX} (hX : CXok X) {σ : Sg} (hG : GM σ (cN X) (cE X)) (h22 : σ.1 22 = nI (cM X)) {s : BS} (hs : VS X s) (hM : MN σ s.1.1) {F : Nat} (hF : 40 ≤ F) (h27 : Tf (σ.1 27) (s.2 = true)) {w c p : Nat} (hw : w ≤ 2) (hc : c < cN X) : ∃ r, fX7_may F σ (nI (cL X)) (nI w) (nI c) (nI (cK X)) = some (r, σ) ∧ Tf r ((w = 0 → tot (cN X) s.1.1 < cK X) ∧ Al (cL X) (cM X) (w, c, p) (s.2 = true) ∧ (w ≠ 0 → 0 < s.1.1 c)) := by
  have hn := hX.2.2.2.1.2
  have hL := hX.1
  have hK := hX.2.1.2
  have hmo := hX.2.2.1
  have htk := hs.2.1
  have m3 := hs.m3 hX c
  have l0 : nI (cL X) = (0 : Int32) ↔ cL X = 0 := by rw [← nI_0, nI_eq (by omega) (by omega)]
  have l1 : nI (cL X) = (1 : Int32) ↔ cL X = 1 := by rw [show (1 : Int32) = nI 1 by decide, nI_eq (by omega) (by omega)]
  have l2 : nI (cL X) = (2 : Int32) ↔ cL X = 2 := by rw [show (2 : Int32) = nI 2 by decide, nI_eq (by omega) (by omega)]
  have lm : nI c = nI (cM X) ↔ c = cM X := nI_eq (by omega) (by omega)
  have w0 : nI w = (0 : Int32) ↔ w = 0 := by rw [← nI_0, nI_eq (by omega) (by omega)]
  have w1 : nI w = (1 : Int32) ↔ w = 1 := by rw [show (1 : Int32) = nI 1 by decide, nI_eq (by omega) (by omega)]
  unfold fX7_may
  by_cases hw0 : w = 0
  · rw [if_pos (w0.mpr hw0), bind_e (blw hG hM hF)]
    show ∃ r, (if nI (cK X) ≤ nI (tot (cN X) s.1.1) then _ else _) = _ ∧ _
    by_cases hk : cK X ≤ tot (cN X) s.1.1
    · rw [if_pos (nI_le hk (by omega))]
      exact ⟨0, rfl, Tf.no fun z => by have := z.1 hw0; omega⟩
    · rw [if_neg (nI_ge (by omega) (by omega))]
      have h25 : (cL X = 1 → ¬ s.2 = true) → ∃ r, bX7_may_25 F σ (nI (cL X)) (nI c) = some (r, σ) ∧ Tf r ((w = 0 → tot (cN X) s.1.1 < cK X) ∧ Al (cL X) (cM X) (w, c, p) (s.2 = true) ∧ (w ≠ 0 → 0 < s.1.1 c)) := by
        intro h1
        unfold bX7_may_25
        rw [h22]
        by_cases a2 : cL X = 2
        · rw [if_pos (l2.mpr a2)]
          by_cases a3 : c = cM X
          · rw [if_pos (lm.mpr a3)]
            exact ⟨1, rfl, Tf.yes ⟨fun _ => by omega, Or.inr ⟨by show w ≠ 1; omega, fun _ => ⟨h1, fun _ => a3⟩⟩, fun z => absurd hw0 z⟩⟩
          · rw [if_neg (fun z => a3 (lm.mp z))]
            refine ⟨0, rfl, Tf.no fun z => ?_⟩
            rcases z.2.1 with y | y
            · omega
            · exact a3 ((y.2 hw0).2 a2)
        · rw [if_neg (fun z => a2 (l2.mp z))]
          exact ⟨1, rfl, Tf.yes ⟨fun _ => by omega, Or.inr ⟨by show w ≠ 1; omega, fun _ => ⟨h1, fun z => absurd z a2⟩⟩, fun z => absurd hw0 z⟩⟩
      by_cases a1 : cL X = 1
      · rw [if_pos (l1.mpr a1)]
        rcases h27 with ⟨q1, q2⟩ | ⟨q1, q2⟩
        · show ∃ r, (if σ.1 27 = (0 : Int32) then _ else _) = _ ∧ _
          rw [if_neg (show ¬ σ.1 27 = 0 by rw [q1]; decide)]
          refine ⟨0, rfl, Tf.no fun z => ?_⟩
          rcases z.2.1 with y | y
          · omega
          · exact (y.2 hw0).1 a1 q2
        · show ∃ r, (if σ.1 27 = (0 : Int32) then _ else _) = _ ∧ _
          rw [if_pos q1]
          exact h25 fun _ => q2
      · rw [if_neg (fun z => a1 (l1.mp z))]
        exact h25 fun z => absurd z a1
  · rw [if_neg (fun z => hw0 (w0.mp z))]
    have ic : ib (nI c) 12 := nI_in (by omega) (by omega)
    have cc : (nI c).toNatClampNeg = c := nI_clamp (by omega)
    have z0 : nI (s.1.1 c) ≤ (0 : Int32) ↔ s.1.1 c = 0 := by
      rw [← nI_0, nI_leI (by omega) (by omega)]; omega
    simp only [if_pos ic, cc, (hM c (by omega)).1]
    by_cases hz : s.1.1 c = 0
    · rw [if_pos (z0.mpr hz)]
      exact ⟨0, rfl, Tf.no fun z => by have := z.2.2 hw0; omega⟩
    · rw [if_neg (fun z => hz (z0.mp z))]
      by_cases hw1 : w = 1
      · rw [if_pos (w1.mpr hw1)]
        by_cases a0 : cL X = 0
        · rw [if_pos (l0.mpr a0)]
          exact ⟨1, rfl, Tf.yes ⟨fun z => absurd z hw0, Or.inl a0, fun _ => by omega⟩⟩
        · rw [if_neg (fun z => a0 (l0.mp z))]
          refine ⟨0, rfl, Tf.no fun z => ?_⟩
          rcases z.2.1 with y | y
          · exact a0 y
          · exact y.1 hw1
      · rw [if_neg (fun z => hw1 (w1.mp z))]
        exact ⟨1, rfl, Tf.yes ⟨fun z => absurd z hw0, Or.inr ⟨by show w ≠ 1; exact hw1, fun z => absurd z hw0⟩, fun _ => by omega⟩⟩
