/-! ===== slides ===== -/
theorem bind_e {x : Rs} {r : Int32} {σ : Sg} {f : Int32 × Sg → Rs} (h : x = some (r, σ)) : x.bind f = f (r, σ) := by rw [h]; rfl
theorem fX0_one_e (F : Nat) (σ : Sg) (x : Int32) : fX0_one F σ x = some ((1 : Int32) <<< (((2 : Int32) * x) &&& 31), σ) := rfl
theorem no_sl {X : CX} {s : BS} {c p : Nat} (h : ∀ d, ¬ (cE X p = some (c, d) ∨ cE X p = some (d, c))) : ∀ t, ¬ Cd X s (2, c, p) t := fun t z => by
  rcases z.1 with ⟨y, -⟩ | ⟨y, -⟩ | ⟨-, -, d, y, -⟩
  · cases y
  · cases y
  · exact h d y
theorem no_sl0 {X : CX} {s : BS} {c p : Nat} (h : s.1.1 c = 0) : ∀ t, ¬ Cd X s (2, c, p) t := fun t z => by
  rcases z.1 with ⟨y, -⟩ | ⟨y, -⟩ | ⟨-, y, -⟩
  · cases y
  · cases y
  · have : 0 < s.1.1 c := y
    omega
theorem sl_stay {X : CX} (hX : CXok X) {B : BB} {h : Nat} (hB : BI X B h) (hh : h < bM B) {c p : Nat} : ∀ k, (∀ q, p ≤ q → q < p + k → ∀ t, ¬ Cd X (bQ B h) (2, c, q) t) → slF X B h c (p + k) = slF X B h c p := by
  intro k
  induction k with
  | zero => intro _; rfl
  | succ k ih =>
    intro H
    show off X (slF X B h c (p + k)) h (2, c, p + k) = _
    have e := ((stg_sl hX hB hh c (p + k)).2.2 h hh).1
    rw [off_no (fun t z => H (p + k) (by omega) (by omega) t (by rw [e] at z; exact z))]
    exact ih (fun q h1 h2 => H q h1 (by omega))
theorem xslf {X : CX} (hX : CXok X) {B : BB} {h : Nat} {s : BS} (hB : BI X B h) (hh : h < bM B) (hs : bQ B h = s) {F : Nat} (hF : 2100 ≤ F) {c : Nat} (hc : c < cN X) (h0 : 0 < s.1.1 c) {here : Int32} (hhr : ∀ p, bt here p = true ↔ ∃ a b, cE X p = some (a, b) ∧ (a = c ∨ b = c)) {B' : BB} (hB' : ∀ q, q = 18 → slF X B h c q = B') : ∀ (m p : Nat) (σ : Sg), p ≤ 18 → 18 < p + m → XR X σ (slF X B h c p) → XHd X σ s h → ∃ τ, fX0_trySlidesFrom_12 F m σ (nI c) here (nI p) = some (0, τ) ∧ Sm [8, 9] [18, 19, 20, 21] σ τ ∧ XR X τ B' := by
  have hn := hX.2.2.2.1.2
  have hE := hX.2.2.2.2
  have inc : ∀ p, ¬ bt here p = true → ∀ d, ¬ (cE X p = some (c, d) ∨ cE X p = some (d, c)) := fun p hp d z => hp ((hhr p).mpr (by
    rcases z with z | z
    · exact ⟨_, _, z, Or.inl rfl⟩
    · exact ⟨_, _, z, Or.inr rfl⟩))
  intro m
  induction m with
  | zero => intro p σ _ _; omega
  | succ m ih =>
    intro p σ hp hm hR hH
    obtain ⟨r1, ⟨r2, r3, r4⟩, -⟩ := id hR
    obtain ⟨k1, k2, k3, k4, k5, k6⟩ := id hH
    obtain ⟨pB, pP⟩ := stg_sl hX hB hh c p
    have hq : bQ (slF X B h c p) h = s := (pP.2 h hh).1.trans hs
    have hh' : h < bM (slF X B h c p) := Nat.lt_of_lt_of_le hh pP.1
    have vs := hB.2.1 h hh
    rw [hs] at vs
    show ∃ τ, bX0_trySlidesFrom_12 F _ σ (nI c) here (nI p) = _ ∧ _
    unfold bX0_trySlidesFrom_12
    by_cases h18 : p = 18
    · rw [if_pos (by rw [h18]; decide)]
      rw [hB' p h18] at hR
      exact ⟨σ, rfl, Sm.rf, hR⟩
    · have hp' : p < 18 := by omega
      rw [if_neg (n18 hp')]
      by_cases hz : here >>> (nI p &&& 31) = 0
      · rw [if_pos hz]
        have e := sl_stay hX hB hh (c := c) (p := p) (18 - p) (fun q q1 q2 => no_sl (inc q fun y => by
          have := b_sshr p (by omega) here (i := q - p) (by omega)
          rw [hz, b_0, if_pos (by omega), show p + (q - p) = q by omega, y] at this
          cases this))
        rw [hB' _ (by omega)] at e
        exact ⟨σ, rfl, Sm.rf, by rw [e]; exact hR⟩
      · rw [if_neg hz]
        by_cases hb : bt here p = true
        · rw [if_neg (show ¬ ((here >>> (nI p &&& 31)) &&& (1 : Int32)) = 0 from fun z => by rw [b_t0 (by omega), hb] at z; cases z)]
          obtain ⟨d, hd⟩ : ∃ d, cE X p = some (c, d) ∨ cE X p = some (d, c) := by
            obtain ⟨a, b, y1, y2⟩ := (hhr p).mp hb
            rcases y2 with y2 | y2
            · rw [y2] at y1; exact ⟨b, Or.inl y1⟩
            · rw [y2] at y1; exact ⟨a, Or.inr y1⟩
          have hdn : d < cN X ∧ d ≠ c := by rcases hd with y | y <;> have := hE.2 _ _ _ y <;> omega
          rw [bind_e (otherX r1 F hd)]
          show ∃ τ, Option.bind (fX0_guardedWithout F σ (nI c)) _ = _ ∧ _
          obtain ⟨g, g1, hg⟩ := xgw hX vs hH hc F
          rw [bind_e g1]
          show ∃ τ, Option.bind (fX1_lostBehind F σ (σ.1 14) (g ||| ((1 : Int32) <<< (nI d &&& 31))) (nI c) ((1 : Int32) <<< (nI p &&& 31))) _ = _ ∧ _
          have hg2 : ∀ i, bt (g ||| ((1 : Int32) <<< (nI d &&& 31))) i = true ↔ (i < cN X ∧ 0 < up1 (up1 s.1.1 c (s.1.1 c - 1)) d (s.1.1 d + 1) i) := fun i => by
            rw [b_or, b_bit (by omega), Bool.or_eq_true, hg i, decide_eq_true_eq]
            by_cases e : i = d
            · rw [e, up1_s]; omega
            · rw [up1_o (up1 s.1.1 c (s.1.1 c - 1)) _ e]; omega
          obtain ⟨w', l1, hle⟩ := lostB r1 (F := F) (by omega) (men := s.1.1) (men' := up1 (up1 s.1.1 c (s.1.1 c - 1)) d (s.1.1 d + 1)) (w := s.1.2) (g := g ||| ((1 : Int32) <<< (nI d &&& 31))) (l4 := (1 : Int32) <<< (nI p &&& 31)) (sl := fun q => nI q = nI p) hc vs.1.2.1 vs.1.2.2.1 hg2 (fun e he z => by
              by_cases ed : e = d
              · rw [ed, up1_s] at z; omega
              · rw [up1_o _ _ ed, up1_o _ _ he] at z; exact z) (fun i hi => by rw [b_bit (by omega), decide_eq_true_eq, nI_eq (by omega) (by omega)]) (fun q hq2 z => by
              rw [nI_eq (by omega) (by omega)] at z
              exact ⟨d, by rw [z]; exact hd, by rw [up1_s]; omega⟩)
          rw [k3, bind_e l1]
          have hbc : nI (bcode (up1 s.1.1 c (s.1.1 c - 1))) + (1 : Int32) <<< (((2 : Int32) * nI d) &&& 31) = nI (bcode (up1 (up1 s.1.1 c (s.1.1 c - 1)) d (s.1.1 d + 1))) := by
            rw [one_c d (by omega), nI_add]
            congr 1
            have := bcode_up (up1 s.1.1 c (s.1.1 c - 1)) (c := d) (by omega) (s.1.1 d + 1)
            rw [up1_o _ _ hdn.2, Nat.add_mul, Nat.one_mul] at this
            omega
          show ∃ τ, Option.bind (fX0_meet F σ (((σ.1 13) - (1 : Int32) <<< (((2 : Int32) * nI c) &&& 31)) + (1 : Int32) <<< (((2 : Int32) * nI d) &&& 31)) w' (g ||| ((1 : Int32) <<< (nI d &&& 31))) 2 (nI c) (nI p)) _ = _ ∧ _
          rw [k2, (bcode_dn (by omega) h0).1, hbc]
          obtain ⟨τ, t1, t2, t3⟩ := xoff hX hR pB hh' hq hH hF (x := (2, c, p)) (men' := up1 (up1 s.1.1 c (s.1.1 c - 1)) d (s.1.1 d + 1)) (w' := w') (l6 := nI p) (Or.inr (Or.inr ⟨rfl, h0, d, hd, rfl, hle⟩)) (Or.inr ⟨by show 2 ≠ 1; omega, fun z => by (cases z)⟩) (fun z => by (cases z)) hg2 (by show nI p + 1 = nI (if 2 = 2 then p + 1 else 0); rw [if_pos rfl, nI_1]) (by show p < 18; omega)
          have t1' : fX0_meet F σ (nI (bcode (up1 (up1 s.1.1 c (s.1.1 c - 1)) d (s.1.1 d + 1)))) w' (g ||| ((1 : Int32) <<< (nI d &&& 31))) 2 (nI c) (nI p) = some (0, τ) := t1
          rw [bind_e t1']
          show ∃ υ, fX0_trySlidesFrom_12 F m τ (nI c) here (nI p + 1) = _ ∧ _
          rw [nI_1]
          obtain ⟨υ, u1, u2, u3⟩ := ih (p + 1) τ (by omega) (by omega) t3 (hH.sm t2)
          exact ⟨υ, u1, t2.tr u2, u3⟩
        · rw [if_pos (show ((here >>> (nI p &&& 31)) &&& (1 : Int32)) = 0 from (b_t0 (by omega)).mpr (Bool.eq_false_iff.mpr hb)), nI_1]
          have e : slF X B h c (p + 1) = slF X B h c p := off_no (no_sl (inc p hb))
          exact ih (p + 1) σ (by omega) (by omega) (by rw [e]; exact hR) hH
