/-! ===== the reference's search: a stand as a number ===== -/
def mc (men : Nat → Nat) : Nat → Nat
  | 0 => 0
  | c + 1 => 4 * mc men c + men c
def pcd (E : Gr) (b : Nat → Bool) (v : Nat) : Nat → Nat
  | 0 => v
  | p + 1 => if (E p).isSome = true then 2 * pcd E b v p + (if b p = true then 1 else 0) else pcd E b v p
theorem mc_lt {men : Nat → Nat} (h : ∀ c, men c ≤ 3) : ∀ c, mc men c < 4 ^ c := by
  intro c
  induction c with
  | zero => exact Nat.one_pos
  | succ c ih =>
    show 4 * mc men c + men c < 4 ^ (c + 1)
    have := h c
    rw [Nat.pow_succ]; omega
theorem mc_inj {m1 m2 : Nat → Nat} (h1 : ∀ c, m1 c ≤ 3) (h2 : ∀ c, m2 c ≤ 3) : ∀ k, mc m1 k = mc m2 k → ∀ c, c < k → m1 c = m2 c := by
  intro k
  induction k with
  | zero => intro _ c hc; omega
  | succ k ih =>
    intro e c hc
    have e' : 4 * mc m1 k + m1 k = 4 * mc m2 k + m2 k := e
    have a := h1 k
    have b := h2 k
    by_cases ck : c = k
    · rw [ck]; omega
    · exact ih (by omega) c (by omega)
theorem pcd_lt (E : Gr) (b : Nat → Bool) {v N : Nat} (hv : v < N) : ∀ p, pcd E b v p < N * 2 ^ cnt p (fun q => (E q).isSome) := by
  intro p
  induction p with
  | zero => show v < N * 1; omega
  | succ p ih =>
    show (if (E p).isSome = true then 2 * pcd E b v p + (if b p = true then 1 else 0) else pcd E b v p) < N * 2 ^ (cnt p (fun q => (E q).isSome) + (if (E p).isSome = true then 1 else 0))
    by_cases he : (E p).isSome = true
    · rw [if_pos he, if_pos he, Nat.pow_succ, ← Nat.mul_assoc]
      split <;> omega
    · rw [if_neg he, if_neg he]; exact ih
theorem pcd_inj (E : Gr) (b : Nat → Bool) {v w : Nat} : ∀ p, pcd E b v p = pcd E b w p → v = w := by
  intro p
  induction p with
  | zero => intro e; exact e
  | succ p ih =>
    intro e
    have e' : (if (E p).isSome = true then 2 * pcd E b v p + (if b p = true then 1 else 0) else pcd E b v p) = (if (E p).isSome = true then 2 * pcd E b w p + (if b p = true then 1 else 0) else pcd E b w p) := e
    refine ih ?_
    by_cases he : (E p).isSome = true
    · rw [if_pos he, if_pos he] at e'; omega
    · rw [if_neg he, if_neg he] at e'; exact e'
theorem pcd_cg (E : Gr) {b c : Nat → Bool} (v : Nat) : ∀ p, (∀ q, q < p → (E q).isSome = true → b q = c q) → pcd E b v p = pcd E c v p := by
  intro p
  induction p with
  | zero => intro _; rfl
  | succ p ih =>
    intro h
    show (if (E p).isSome = true then 2 * pcd E b v p + (if b p = true then 1 else 0) else pcd E b v p) = (if (E p).isSome = true then 2 * pcd E c v p + (if c p = true then 1 else 0) else pcd E c v p)
    rw [ih fun q hq => h q (by omega)]
    by_cases he : (E p).isSome = true
    · rw [if_pos he, if_pos he, h p (by omega) he]
    · rw [if_neg he, if_neg he]
/-- a passage with a lost end -/
def pl (E : Gr) (w : Int32) (p : Nat) : Bool := match E p with
  | some (a, b) => bt w a || bt w b
  | none => false
theorem pl_iff (E : Gr) (w : Int32) (p : Nat) : pl E w p = true ↔ PO E (fun i => bt w i = true) p := by
  unfold pl PO
  cases h : E p with
  | none => simp
  | some q =>
    obtain ⟨a, b⟩ := q
    simp
def mn (X : CX) (s : BS) : Nat := (pcd (cE X) (pl (cE X) s.1.2) (mc s.1.1 6) 18 * 2 ^ 6 + ln s.1.2) * 2 ^ 1 + (if s.2 = true then 1 else 0)
def CX8 (X : CX) : Prop := CXok X ∧ cnt 18 (fun p => (cE X p).isSome) ≤ 8
theorem mn_p {X : CX} (hX : CX8 X) {s : BS} (h : VS X s) : pcd (cE X) (pl (cE X) s.1.2) (mc s.1.1 6) 18 < 2 ^ 20 := by
  have h1 := mc_lt (men := s.1.1) (fun c => h.m3 hX.1 c) 6
  have h2 := pcd_lt (cE X) (pl (cE X) s.1.2) (N := 4096) (by omega) 18
  have h3 : 2 ^ cnt 18 (fun p => (cE X p).isSome) ≤ 2 ^ 8 := Nat.pow_le_pow_right (by omega) hX.2
  have h4 : 4096 * 2 ^ cnt 18 (fun p => (cE X p).isSome) ≤ 4096 * 2 ^ 8 := Nat.mul_le_mul_left _ h3
  omega
theorem mn_lt {X : CX} (hX : CX8 X) {s : BS} (h : VS X s) : mn X s < 2 ^ 27 := by
  have h1 := mn_p hX h
  have h2 := h.l6 hX.1
  unfold mn
  split <;> omega
theorem mn_inj {X : CX} (hX : CX8 X) {s t : BS} (hs : VS X s) (ht : VS X t) (e : mn X s = mn X t) : s = t := by
  have a2 := hs.l6 hX.1
  have b2 := ht.l6 hX.1
  have e' : pcd (cE X) (pl (cE X) s.1.2) (mc s.1.1 6) 18 = pcd (cE X) (pl (cE X) t.1.2) (mc t.1.1 6) 18 ∧ ln s.1.2 = ln t.1.2 ∧ s.2 = t.2 := by
    unfold mn at e
    cases h1 : s.2 <;> cases h2 : t.2 <;> simp [h1, h2] at e ⊢ <;> omega
  obtain ⟨e1, e2, e3⟩ := e'
  have e4 : s.1.2 = t.1.2 := by rw [← nI_ln s.1.2, ← nI_ln t.1.2, e2]
  rw [e4] at e1
  have e5 := pcd_inj _ _ 18 e1
  have hn := hX.1.2.2.2.1.2
  exact hs.ext ht (fun c hc => ⟨mc_inj (fun c => hs.m3 hX.1 c) (fun c => ht.m3 hX.1 c) 6 e5 c (by omega), by rw [e4]⟩) e3
/-- a stand laid out before the reference -/
def MS (X : CX) (σ : Sg) (s : BS) : Prop := MN σ s.1.1 ∧ σ.1 23 = s.1.2 ∧ (∀ i, bt (σ.1 24) i = true ↔ PO (cE X) (fun i => bt s.1.2 i = true) i)
theorem lsh {x k : Nat} (hk : k < 32) {y : Nat} (hy : y < 2 ^ k) : (nI x <<< (nI k &&& 31)) ||| nI y = nI (x * 2 ^ k + y) := by
  rw [nI_shl x hk, nI_cat hy]
theorem num_32 {X : CX} {σ : Sg} (hG : GM σ (cN X) (cE X)) {w : Int32} (h24 : ∀ i, bt (σ.1 24) i = true ↔ PO (cE X) (fun i => bt w i = true) i) (h23 : σ.1 23 = w) (hw : ln w < 64) (F v L : Nat) (hL : L ≤ 2) {sl : Prop} (h27 : Tf (σ.1 27) sl) {ts : Bool} (hts : ts = true ↔ (L = 1 ∧ sl)) : ∀ (m p : Nat) (x : Int32), p ≤ 18 → 18 < p + m → fX7_number_32 F m σ (nI L) (nI (pcd (cE X) (pl (cE X) w) v p)) x (nI p) = some (nI ((pcd (cE X) (pl (cE X) w) v 18 * 2 ^ 6 + ln w) * 2 ^ 1 + (if ts = true then 1 else 0)), σ) := by
  intro m
  induction m with
  | zero => intro p x _ _; omega
  | succ m ih =>
    intro p x hp hm
    show bX7_number_32 F _ σ _ _ x (nI p) = _
    unfold bX7_number_32
    by_cases h18 : p = 18
    · rw [if_pos (by rw [h18]; decide), h23, h18]
      have e1 : (nI (pcd (cE X) (pl (cE X) w) v 18) <<< ((6 : Int32) &&& 31)) ||| w = nI (pcd (cE X) (pl (cE X) w) v 18 * 2 ^ 6 + ln w) := by
        have := lsh (x := pcd (cE X) (pl (cE X) w) v 18) (k := 6) (by omega) (y := ln w) hw
        rw [nI_ln] at this
        exact this
      have e2 : ∀ {y : Nat}, y < 2 → (nI (pcd (cE X) (pl (cE X) w) v 18 * 2 ^ 6 + ln w) <<< ((1 : Int32) &&& 31)) ||| nI y = nI ((pcd (cE X) (pl (cE X) w) v 18 * 2 ^ 6 + ln w) * 2 ^ 1 + y) := fun {y} hy => lsh (x := pcd (cE X) (pl (cE X) w) v 18 * 2 ^ 6 + ln w) (k := 1) (by omega) (by omega)
      rw [e1]
      have l1 : nI L = (1 : Int32) ↔ L = 1 := by rw [show (1 : Int32) = nI 1 by decide, nI_eq (by omega) (by omega)]
      by_cases a1 : L = 1
      · rw [if_pos (l1.mpr a1)]
        rcases h27 with ⟨q1, q2⟩ | ⟨q1, q2⟩
        · rw [if_neg (show ¬ σ.1 27 = 0 by rw [q1]; decide), if_pos (hts.mpr ⟨a1, q2⟩), ← e2 (by omega)]; rfl
        · rw [if_pos q1, if_neg (fun z => q2 (hts.mp z).2), ← e2 (by omega)]; rfl
      · rw [if_neg (fun z => a1 (l1.mp z)), if_neg (fun z => a1 (hts.mp z).1), ← e2 (by omega)]; rfl
    · have hp' : p < 18 := by omega
      have ip : ib (nI p) 18 := nI_in hp' (by omega)
      have cp : (nI p).toNatClampNeg = p := nI_clamp (by omega)
      rw [if_neg (n18 hp')]
      simp only [if_pos ip, cp, hG.2.2.1 p hp']
      have step : pcd (cE X) (pl (cE X) w) v (p + 1) = if (cE X p).isSome = true then 2 * pcd (cE X) (pl (cE X) w) v p + (if pl (cE X) w p = true then 1 else 0) else pcd (cE X) (pl (cE X) w) v p := rfl
      by_cases he : (cE X p).isSome = true
      · rw [if_pos he] at step
        rw [if_pos he, if_neg (by decide)]
        unfold li_
        have e1 : (nI (pcd (cE X) (pl (cE X) w) v p) <<< ((1 : Int32) &&& 31)) ||| (((σ.1 24) >>> (nI p &&& 31)) &&& (1 : Int32)) = nI (pcd (cE X) (pl (cE X) w) v (p + 1)) := by
          rw [b_v (by omega), step]
          have e3 : (if bt (σ.1 24) p = true then (1 : Int32) else 0) = nI (if pl (cE X) w p = true then 1 else 0) := by
            by_cases hb : bt (σ.1 24) p = true
            · rw [if_pos hb, if_pos ((pl_iff _ _ _).mpr ((h24 p).mp hb))]; decide
            · rw [if_neg hb, if_neg (fun z => hb ((h24 p).mpr ((pl_iff _ _ _).mp z)))]; decide
          rw [e3]
          have := lsh (x := pcd (cE X) (pl (cE X) w) v p) (k := 1) (by omega) (y := if pl (cE X) w p = true then 1 else 0) (by split <;> omega)
          rw [show (1 : Int32) = nI 1 by decide, this]
          congr 1
          omega
        simp only [e1, nI_1]
        exact ih (p + 1) _ (by omega) (by omega)
      · rw [if_neg he] at step
        rw [if_neg he, if_pos rfl, nI_1, ← step]
        exact ih (p + 1) _ (by omega) (by omega)
theorem num_4 {σ : Sg} {men : Nat → Nat} (hM : MN σ men) (h3 : ∀ c, men c ≤ 3) (F : Nat) (l1 : Int32) : ∀ (m c : Nat), c ≤ 6 → 6 < c + m → fX7_number_4 F m σ l1 (nI (mc men c)) (nI c) = fX7_number_32 F F σ l1 (nI (mc men 6)) 0 0 := by
  intro m
  induction m with
  | zero => intro c _ _; omega
  | succ m ih =>
    intro c hc hm
    show bX7_number_4 F _ σ l1 _ (nI c) = _
    unfold bX7_number_4 li_
    by_cases h6 : c = 6
    · rw [if_pos (by rw [h6]; decide), h6]
    · have g : ¬ (6 : Int32) ≤ nI c := by rw [show (6 : Int32) = nI 6 by decide]; exact nI_ge (by omega) (by omega)
      have ic : ib (nI c) 12 := nI_in (by omega) (by omega)
      have cc : (nI c).toNatClampNeg = c := nI_clamp (by omega)
      have e : (nI (mc men c) <<< ((2 : Int32) &&& 31)) ||| nI (men c) = nI (mc men (c + 1)) := by
        have := lsh (x := mc men c) (k := 2) (by omega) (y := men c) (by have := h3 c; omega)
        rw [show (2 : Int32) = nI 2 by decide, this]
        congr 1
        show _ = 4 * mc men c + men c
        omega
      simp only [if_neg g, if_pos ic, cc, (hM c (by omega)).1, e, nI_1]
      exact ih (c + 1) (by omega) (by omega)
/-- the number of a stand laid out; ts: the stand's mark of a slide, by the law -/
theorem mnum {X : CX} (hX : CX8 X) {σ : Sg} (hG : GM σ (cN X) (cE X)) {t : BS} (ht : VS X t) (hM : MS X σ t) {F : Nat} (hF : 40 ≤ F) {sl : Prop} (h27 : Tf (σ.1 27) sl) (hts : t.2 = true ↔ (cL X = 1 ∧ sl)) : fX7_number F σ (nI (cL X)) = some (nI (mn X t), σ) := by
  have a := num_4 hM.1 (fun c => ht.m3 hX.1 c) F (nI (cL X)) F 0 (by omega) (by omega)
  have b := num_32 hG hM.2.2 hM.2.1 (ht.l6 hX.1) F (mc t.1.1 6) (cL X) hX.1.1 h27 hts F 0 0 (by omega) (by omega)
  unfold fX7_number
  rw [show mc t.1.1 0 = 0 from rfl, nI_0] at a
  rw [a]
  rw [show pcd (cE X) (pl (cE X) t.1.2) (mc t.1.1 6) 0 = mc t.1.1 6 from rfl, nI_0] at b
  exact b
