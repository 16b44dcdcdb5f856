/-! ===== the reference's search: one order ===== -/
def Won (T : Nat) (X : CX) (σ : Sg) (C : BB) (r : Int32) : Prop := MR T X σ C ∧ 0 < bM C ∧ r = nI (bM C - 1) ∧ (bQ C (bM C - 1)).1.2 = 0 ∧ ∀ j, j < bM C - 1 → (bQ C j).1.2 ≠ 0
def Oc (T : Nat) (X : CX) (σ : Sg) (e : Rs) (k : Sg → Rs) (C : BB) : Prop := (∃ σ', e = k σ' ∧ Sm [23, 24, 26, 27] [29, 36, 37, 38, 39] σ σ' ∧ MR T X σ' C ∧ ¬ Gl C) ∨ (∃ r σ' D, e = some (r, σ') ∧ Sm [23, 24, 26, 27] [29, 36, 37, 38, 39] σ σ' ∧ Won T X σ' D r ∧ Pre D C)
theorem Oc.sm {T : Nat} {X : CX} {σ τ : Sg} {e : Rs} {k : Sg → Rs} {C : BB} (h : Oc T X τ e k C) (hs : Sm [23, 24, 26, 27] [29, 36, 37, 38, 39] σ τ) : Oc T X σ e k C := by
  rcases h with ⟨σ', h1, h2, h3⟩ | ⟨r, σ', D, h1, h2, h3⟩
  · exact Or.inl ⟨σ', h1, hs.tr h2, h3⟩
  · exact Or.inr ⟨r, σ', D, h1, hs.tr h2, h3⟩
theorem Oc.seq {T : Nat} {X : CX} {σ : Sg} {e : Rs} {k k2 : Sg → Rs} {C D : BB} (h : Oc T X σ e k C) (hp : Pre C D) (h2 : ∀ σ', Sm [23, 24, 26, 27] [29, 36, 37, 38, 39] σ σ' → MR T X σ' C → ¬ Gl C → Oc T X σ' (k σ') k2 D) : Oc T X σ e k2 D := by
  rcases h with ⟨σ', h1, h3, h4, h5⟩ | ⟨r, σ', D', h1, h3, h4, h5⟩
  · rw [h1]; exact (h2 σ' h3 h4 h5).sm h3
  · exact Or.inr ⟨r, σ', D', h1, h3, h4, h5.tr hp⟩
theorem isS {X : CX} {σ : Sg} {t : BS} (h : MS X σ t) (F : Nat) : ∃ r, fX7_isSearched F σ = some (r, σ) ∧ Tf r (t.1.2 = 0) := by
  unfold fX7_isSearched
  rw [h.2.1]
  by_cases h0 : t.1.2 = 0
  · rw [if_pos h0]
    have : σ.1 24 = 0 := b_zero.mpr fun i _ => by
      cases hb : bt (σ.1 24) i with
      | false => rfl
      | true =>
        obtain ⟨a, b, -, hab⟩ := (h.2.2 i).mp hb
        rw [h0] at hab
        simp only [b_0] at hab
        rcases hab with z | z <;> cases z
    rw [if_pos this]
    exact ⟨1, rfl, Tf.yes h0⟩
  · rw [if_neg h0]
    exact ⟨0, rfl, Tf.no h0⟩
theorem MS.sm {X : CX} {σ τ : Sg} {t : BS} (h : MS X σ t) {vs as : List Nat} (hs : Sm vs as σ τ) (h1 : 23 ∉ vs) (h2 : 24 ∉ vs) (h3 : 29 ∉ as) : MS X τ t := ⟨h.1.sm hs h3, (hs.1 23 h1).trans h.2.1, by rw [hs.1 24 h2]; exact h.2.2⟩
theorem opm_e {w c p : Nat} (hw : w ≤ 2) (hc : c < 12) (hp : p < 18) : (w = 2 → ((nI w * (16 : Int32)) + nI c) * (32 : Int32) + nI p = nI (opm (w, c, p))) ∧ (w ≠ 2 → ((nI w * (16 : Int32)) + nI c) * (32 : Int32) + 31 = nI (opm (w, c, p))) := by
  rw [show (16 : Int32) = nI 16 by decide, show (32 : Int32) = nI 32 by decide, show (31 : Int32) = nI 31 by decide, nI_mul, nI_add, nI_mul, nI_add, nI_add]
  constructor
  · intro h
    congr 1
    show _ = (w * 16 + c) * 32 + (if w = 2 then p else 31)
    rw [if_pos h]
  · intro h
    congr 1
    show _ = (w * 16 + c) * 32 + (if w = 2 then p else 31)
    rw [if_neg h]
theorem app_ng {B : BB} {h : Nat} {x : Ord_} {t : BS} (hg : ¬ Gl B) (ht : t.1.2 ≠ 0) : ¬ Gl (app B h x t) := fun ⟨i, i1, i2⟩ => by
  have i1' : i < bM B + 1 := i1
  have qo : ∀ i, i < bM B → bQ (app B h x t) i = bQ B i := fun i hi => if_neg (by omega)
  have qn : bQ (app B h x t) (bM B) = t := if_pos rfl
  by_cases e : i = bM B
  · rw [e, qn] at i2; exact ht i2
  · rw [qo i (by omega)] at i2; exact hg ⟨i, by omega, i2⟩
theorem app_won {T : Nat} {X : CX} {σ : Sg} {B : BB} {h : Nat} {x : Ord_} {t : BS} (hR : MR T X σ (app B h x t)) (hg : ¬ Gl B) (ht : t.1.2 = 0) : Won T X σ (app B h x t) (nI (bM B)) := by
  have qo : ∀ i, i < bM B → bQ (app B h x t) i = bQ B i := fun i hi => if_neg (by omega)
  have qn : bQ (app B h x t) (bM B) = t := if_pos rfl
  have hm : bM (app B h x t) = bM B + 1 := rfl
  have hm1 : bM (app B h x t) - 1 = bM B := by omega
  refine ⟨hR, by omega, by rw [hm1], by rw [hm1, qn]; exact ht, fun j hj => ?_⟩
  rw [qo j (by omega)]
  exact fun z => hg ⟨j, by omega, z⟩
theorem m189 {T : Nat} (hT : T = 524288) {X : CX} (hX : CX8 X) {σ : Sg} {B : BB} {h : Nat} (hR : MR T X σ B) (hB : BI X B h) (hh : h < bM B) (hg : ¬ Gl B) {w c p : Nat} (hw : w ≤ 2) (hc : c < 12) (hp : p < 18) {t : BS} (hS : MS X σ t) {F : Nat} (hF : T + 40 ≤ F) {sl : Prop} (h27 : Tf (σ.1 27) sl) (hts : t.2 = true ↔ (cL X = 1 ∧ sl)) (hcd : Cd X (bQ B h) (w, c, p) t) (k45 : Sg → Int32 → Int32 → Int32 → Rs) (k56 : Sg → Int32 → Int32 → Int32 → Int32 → Rs) (k65 : Sg → Int32 → Int32 → Int32 → Int32 → Int32 → Rs) (k77 : Sg → Int32 → Int32 → Int32 → Int32 → Int32 → Int32 → Rs) (l2 : Int32) : Oc T X σ (bX7_finds_189 F k45 k56 k65 k77 σ (nI (cL X)) l2 (nI h) (nI w) (nI c) (nI p)) (fun σ' => k77 σ' (nI (cL X)) l2 (nI h) (nI w) (nI c) (nI p + 1)) (off X B h (w, c, p)) := by
  have ht : VS X t := hcd.vs hX.1 (hB.2.1 h hh)
  have w2 : nI w = (2 : Int32) ↔ w = 2 := by rw [show (2 : Int32) = nI 2 by decide, nI_eq (by omega) (by omega)]
  have main : ∀ l3 : Int32, l3 = nI (opm (w, c, p)) → ∀ e : Rs, e = Option.bind (fX7_meets F σ (nI (cL X)) (nI h) l3) (fun q3 => (fun (r3 : Int32) (σ3 : Sg) => if r3 = (0 : Int32) then (k77 σ3 (nI (cL X)) l2 (nI h) (nI w) (nI c) (nI p + 1)) else ((fX7_isSearched F σ3).bind fun q4 => (fun (r4 : Int32) (σ4 : Sg) => if r4 = (0 : Int32) then (k77 σ4 (nI (cL X)) l2 (nI h) (nI w) (nI c) (nI p + 1)) else (some ((σ4.1 26) - (1 : Int32), σ4))) q4.1 q4.2)) q3.1 q3.2) → Oc T X σ e (fun σ' => k77 σ' (nI (cL X)) l2 (nI h) (nI w) (nI c) (nI p + 1)) (off X B h (w, c, p)) := by
    intro l3 hl3 e he
    obtain ⟨r, τ, a1, a2, a3⟩ := mins hT hX hR hB.2.1 (hB.most hX.1) ht hS hF h27 hts (l2 := nI h) (l3 := l3) (h := h) (x := (w, c, p)) (fun _ => rfl) (fun _ => hl3) (fun z => by omega)
    rw [bind_e a1] at he
    rcases a3 with ⟨b1, b2, b3⟩ | ⟨b1, b2, b3⟩
    · have eo : off X B h (w, c, p) = B := off_old fun u hu => by rw [hu.uniq hX.1 hcd]; exact b1
      rw [eo]
      refine Or.inl ⟨τ, ?_, a2.up (by simp) (by simp), by rw [b3]; exact hR, hg⟩
      rw [he]
      show (if r = (0 : Int32) then _ else _) = _
      rw [if_pos b2]
    · have eo : off X B h (w, c, p) = app B h (w, c, p) t := off_new hX.1 hcd b1
      rw [eo]
      have hS' : MS X τ t := hS.sm a2 (by simp) (by simp) (by simp)
      obtain ⟨q, q1, q2⟩ := isS hS' F
      have he' : e = (if q = (0 : Int32) then (k77 τ (nI (cL X)) l2 (nI h) (nI w) (nI c) (nI p + 1)) else (some ((τ.1 26) - (1 : Int32), τ))) := by
        rw [he]
        show (if r = (0 : Int32) then _ else _) = _
        rw [if_neg (show ¬ r = 0 by rw [b2]; decide), bind_e q1]
      rcases q2 with ⟨c1, c2⟩ | ⟨c1, c2⟩
      · rw [if_neg (show ¬ q = 0 by rw [c1]; decide)] at he'
        refine Or.inr ⟨_, τ, _, he', a2.up (by simp) (by simp), ?_, Pre.rf⟩
        have : τ.1 26 - 1 = nI (bM B) := by
          rw [b3.2.2.1]
          exact nI_pred (bM B)
        rw [this]
        exact app_won b3 hg c2
      · rw [if_pos c1] at he'
        exact Or.inl ⟨τ, he', a2.up (by simp) (by simp), b3, app_ng hg c2⟩
  obtain ⟨o1, o2⟩ := opm_e hw hc hp
  unfold bX7_finds_189
  by_cases hw2 : w = 2
  · rw [if_pos (w2.mpr hw2)]
    exact main _ (o1 hw2) _ rfl
  · rw [if_neg (fun z => hw2 (w2.mp z))]
    exact main _ (o2 hw2) _ rfl
/-- behind the order: does it hang, then 189 -/
theorem mtail {T : Nat} (hT : T = 524288) {X : CX} (hX : CX8 X) {σ : Sg} {B : BB} {h : Nat} (hR : MR T X σ B) (hB : BI X B h) (hh : h < bM B) (hg : ¬ Gl B) {w c p : Nat} (hw : w ≤ 2) (hc : c < 12) (hp : p < 18) {t : BS} (hS : MS X σ t) {F : Nat} (hF : T + 40 ≤ F) {sl : Prop} (h27 : Tf (σ.1 27) sl) (hts : t.2 = true ↔ (cL X = 1 ∧ sl)) (hcd : (cL X = 2 → Hang (cN X) (cE X) (cM X) t.1.1 (fun i => bt t.1.2 i = true)) → Cd X (bQ B h) (w, c, p) t) (hnc : ∀ u, Cd X (bQ B h) (w, c, p) u → u.1 = t.1) (k45 : Sg → Int32 → Int32 → Int32 → Rs) (k56 : Sg → Int32 → Int32 → Int32 → Int32 → Rs) (k65 : Sg → Int32 → Int32 → Int32 → Int32 → Int32 → Rs) (k77 : Sg → Int32 → Int32 → Int32 → Int32 → Int32 → Int32 → Rs) (l2 : Int32) : Oc T X σ (if nI (cL X) = (2 : Int32) then ((fX7_hangs F σ (σ.1 22)).bind fun q8 => (fun (r8 : Int32) (σ8 : Sg) => if r8 = (0 : Int32) then (k77 σ8 (nI (cL X)) l2 (nI h) (nI w) (nI c) (nI p + 1)) else (bX7_finds_189 F k45 k56 k65 k77 σ8 (nI (cL X)) l2 (nI h) (nI w) (nI c) (nI p))) q8.1 q8.2) else (bX7_finds_189 F k45 k56 k65 k77 σ (nI (cL X)) l2 (nI h) (nI w) (nI c) (nI p))) (fun σ' => k77 σ' (nI (cL X)) l2 (nI h) (nI w) (nI c) (nI p + 1)) (off X B h (w, c, p)) := by
  have hL := hX.1.1
  have l2' : nI (cL X) = (2 : Int32) ↔ cL X = 2 := by rw [show (2 : Int32) = nI 2 by decide, nI_eq (by omega) (by omega)]
  by_cases a2 : cL X = 2
  · rw [if_pos (l2'.mpr a2)]
    have hmo := hX.1.2.2.1
    have hn := hX.1.2.2.2.1.2
    obtain ⟨r, q1, q2⟩ := mhang hR.1 hS.1 (F := F) (by omega) (mo := cM X) (by omega) hS.2.2
    rw [hR.2.1, bind_e q1]
    show Oc T X σ (if r = (0 : Int32) then _ else _) _ _
    rcases q2 with ⟨c1, c2⟩ | ⟨c1, c2⟩
    · rw [if_neg (show ¬ r = 0 by rw [c1]; decide)]
      exact m189 hT hX hR hB hh hg hw hc hp hS hF h27 hts (hcd fun _ => c2) k45 k56 k65 k77 l2
    · rw [if_pos c1]
      have eo : off X B h (w, c, p) = B := off_no fun u hu => c2 (by
        have := hu.2.2.2.2 a2
        rw [hnc u hu] at this
        exact this)
      rw [eo]
      exact Or.inl ⟨σ, rfl, Sm.rf, hR, hg⟩
  · rw [if_neg (fun z => a2 (l2'.mp z))]
    exact m189 hT hX hR hB hh hg hw hc hp hS hF h27 hts (hcd fun z => absurd z a2) k45 k56 k65 k77 l2
theorem m122 {T : Nat} (hT : T = 524288) {X : CX} (hX : CX8 X) {σ : Sg} {B : BB} {h : Nat} (hR : MR T X σ B) (hB : BI X B h) (hh : h < bM B) (hg : ¬ Gl B) {w c p : Nat} (hw : w ≤ 2) (hc : c < cN X) (hp : p < 18) {s : BS} (hs : bQ B h = s) (hS : MS X σ s) (h27 : Tf (σ.1 27) (s.2 = true)) (hat : w = 2 → ∃ d, cE X p = some (c, d) ∨ cE X p = some (d, c)) {F : Nat} (hF : T + 40 ≤ F) (k45 : Sg → Int32 → Int32 → Int32 → Rs) (k56 : Sg → Int32 → Int32 → Int32 → Int32 → Rs) (k65 : Sg → Int32 → Int32 → Int32 → Int32 → Int32 → Rs) (k77 : Sg → Int32 → Int32 → Int32 → Int32 → Int32 → Int32 → Rs) : Oc T X σ (bX7_finds_122 F k45 k56 k65 k77 σ (nI (cL X)) (nI (cK X)) (nI h) (nI w) (nI c) (nI p)) (fun σ' => k77 σ' (nI (cL X)) (nI (cK X)) (nI h) (nI w) (nI c) (nI p + 1)) (off X B h (w, c, p)) := by
  have vs := hB.2.1 h hh
  rw [hs] at vs
  have hn := hX.1.2.2.2.1.2
  have hK := hX.1.2.1.2
  have hE := hX.1.2.2.2.2
  obtain ⟨r, a1, a2⟩ := mmay hX.1 hR.1 hR.2.1 vs hS.1 (F := F) (by omega) h27 (p := p) hw hc
  unfold bX7_finds_122
  rw [bind_e a1]
  show Oc T X σ (if r = (0 : Int32) then _ else _) _ _
  rcases a2 with ⟨b1, b2, b3, b4⟩ | ⟨b1, b2⟩
  · rw [if_neg (show ¬ r = 0 by rw [b1]; decide)]
    have h9 := vs.1.2.2.2
    obtain ⟨men', l1, hv⟩ : ∃ men' l1, Mv (cN X) (cE X) (w, c, p) s.1 men' l1 := by
      have : w = 0 ∨ w = 1 ∨ w = 2 := by omega
      rcases this with e | e | e
      · exact ⟨_, _, Or.inl ⟨e, hc, by have := b2 e; omega, rfl, rfl⟩⟩
      · exact ⟨_, _, Or.inr (Or.inl ⟨e, hc, b4 (by omega), rfl, rfl⟩)⟩
      · obtain ⟨d, hd⟩ := hat e
        exact ⟨_, _, Or.inr (Or.inr ⟨e, b4 (by omega), ⟨d, hd, rfl⟩, rfl⟩)⟩
    obtain ⟨σ2, d1, d2, d3, d4, d5⟩ := mdo hR.1 vs.1 hS.1 hS.2.1 hS.2.2 hv (l4 := nI p) (fun _ => rfl) (F := F) (by omega)
    have d1' : fX7_does F σ (nI w) (nI c) (nI p) = some (0, σ2) := d1
    rw [bind_e d1']
    have hTr : Tr (cN X) (cE X) (w, c, p) s.1 (men', σ2.1 23) := hv.tr d4
    obtain ⟨sl, hsl⟩ : ∃ sl : Bool, sl = true ↔ (cL X = 1 ∧ (s.2 = true ∨ w = 2)) := ⟨@decide _ (Classical.propDecidable _), @decide_eq_true_iff _ (Classical.propDecidable _)⟩
    have tail : ∀ y : Int32, Tf y (s.2 = true ∨ w = 2) → Oc T X σ (if nI (cL X) = (2 : Int32) then ((fX7_hangs F (sv σ2 27 y) ((sv σ2 27 y).1 22)).bind fun q8 => (fun (r8 : Int32) (σ8 : Sg) => if r8 = (0 : Int32) then (k77 σ8 (nI (cL X)) (nI (cK X)) (nI h) (nI w) (nI c) (nI p + 1)) else (bX7_finds_189 F k45 k56 k65 k77 σ8 (nI (cL X)) (nI (cK X)) (nI h) (nI w) (nI c) (nI p))) q8.1 q8.2) else (bX7_finds_189 F k45 k56 k65 k77 (sv σ2 27 y) (nI (cL X)) (nI (cK X)) (nI h) (nI w) (nI c) (nI p))) (fun σ' => k77 σ' (nI (cL X)) (nI (cK X)) (nI h) (nI w) (nI c) (nI p + 1)) (off X B h (w, c, p)) := by
      intro y hy
      have s2 : Sm [23, 24, 27] [29] σ (sv σ2 27 y) := (d2.up (by simp) (by simp)).tr (Sm.sv (by simp))
      have s27 : Sm [27] [] σ2 (sv σ2 27 y) := Sm.sv (by simp)
      have hS2 : MS X (sv σ2 27 y) ((men', σ2.1 23), sl) := ⟨d3.sm s27 (by simp), s27.1 23 (by simp), by rw [s27.1 24 (by simp)]; exact d5⟩
      refine (mtail hT hX (hR.sm s2) hB hh hg hw (by omega) hp hS2 hF (sl := s.2 = true ∨ w = 2) (by rw [sv_1, if_pos rfl]; exact hy) hsl (fun z => ?_) (fun u hu => ?_) k45 k56 k65 k77 (nI (cK X))).sm (s2.up (by simp) (by simp))
      · rw [hs]; exact ⟨hTr, b2, b3, hsl, z⟩
      · rw [hs] at hu
        exact hu.1.uniq hE hTr
    have e27 : σ2.1 27 = σ.1 27 := d2.1 27 (by simp)
    have w2 : nI w = (2 : Int32) ↔ w = 2 := by rw [show (2 : Int32) = nI 2 by decide, nI_eq (by omega) (by omega)]
    show Oc T X σ (if (σ2.1 27) = (0 : Int32) then (if nI w = (2 : Int32) then _ else _) else _) _ _
    rcases h27 with ⟨q1, q2⟩ | ⟨q1, q2⟩
    · rw [if_neg (show ¬ σ2.1 27 = 0 by rw [e27, q1]; decide)]
      exact tail 1 (Tf.yes (Or.inl q2))
    · rw [if_pos (show σ2.1 27 = 0 by rw [e27, q1])]
      by_cases hw2 : w = 2
      · rw [if_pos (w2.mpr hw2)]
        exact tail 1 (Tf.yes (Or.inr hw2))
      · rw [if_neg (fun z => hw2 (w2.mp z))]
        exact tail 0 (Tf.no fun z => by
          rcases z with z | z
          · exact q2 z
          · exact hw2 z)
  · rw [if_pos b1]
    have eo : off X B h (w, c, p) = B := off_no fun u hu => b2 (by
      rw [hs] at hu
      refine ⟨hu.2.1, hu.2.2.1, fun hw0 => ?_⟩
      rcases hu.1 with ⟨z, -⟩ | ⟨-, -, z, -⟩ | ⟨-, z, -⟩
      · exact absurd z hw0
      · exact z
      · exact z)
    rw [eo]
    exact Or.inl ⟨σ, rfl, Sm.rf, hR, hg⟩
