/-! ===== cut ===== -/
def OP (E : Gr) (x : Int32) (c : Nat) : Prop := bt x c = true ∧ ∃ p a b, E p = some (a, b) ∧ ((a = c ∧ ¬ bt x b = true) ∨ (b = c ∧ ¬ bt x a = true))
noncomputable def cutE (n : Nat) (E : Gr) (x : Int32) : Nat := cnt n (fun c => @decide (OP E x c) (Classical.propDecidable _))
theorem cutE_le (n : Nat) (E : Gr) (x : Int32) : cutE n E x ≤ n := cnt_le _ _
theorem cnt_ext {n m : Nat} {p q : Nat → Bool} (hnm : n ≤ m) (h : ∀ i, i < n → p i = q i) (h2 : ∀ i, n ≤ i → i < m → q i = false) : cnt n p = cnt m q := by
  induction m with
  | zero =>
    have : n = 0 := by omega
    subst this; rfl
  | succ m ih =>
    by_cases e : n = m + 1
    · subst e; exact cnt_congr h
    · rw [ih (by omega) (fun i h1 h3 => h2 i h1 (by omega))]
      show cnt m q = cnt m q + (if q m = true then 1 else 0)
      rw [h2 m (by omega) (by omega)]; rfl
theorem xcut_loop {σ : Sg} {n : Nat} {E : Gr} (hC : GC σ n E) (F : Nat) (x : Int32) {q : Nat → Bool} (hq : ∀ c, q c = true ↔ OP E x c) : ∀ (m c : Nat), c ≤ n → n < c + m → fX1_cutBetween_4 F m σ x (nI (cnt c q)) (nI c) = some (nI (cnt n q), σ) := by
  have hn := hC.1.1
  intro m
  induction m with
  | zero => intro c h1 h2; omega
  | succ m ih =>
    intro c h1 h2
    show bX1_cutBetween_4 F (fX1_cutBetween_4 F m) σ x _ (nI c) = _
    unfold bX1_cutBetween_4
    rw [hC.2.1]
    by_cases hc : c = n
    · subst hc; rw [if_pos (nI_le (by omega) (by omega))]
    · rw [if_neg (nI_ge (by omega) (by omega)), nI_1, nI_1]
      have hcc : (nI c).toNatClampNeg = c := nI_clamp (by omega)
      have ic : ib (nI c) 12 := nI_in (by omega) (by omega)
      simp only [if_pos ic, hcc]
      have ihk := ih (c + 1) (by omega) (by omega)
      have e : cnt (c + 1) q = cnt c q + (if q c = true then 1 else 0) := rfl
      have hz : ((σ.2.1 5 c) &&& (x ^^^ (-1))) = 0 ↔ ¬ ∃ p a b, E p = some (a, b) ∧ ((a = c ∧ ¬ bt x b = true) ∨ (b = c ∧ ¬ bt x a = true)) := by
        rw [b_sub]
        constructor
        · rintro h ⟨p, a, b, e1, e2⟩
          rcases e2 with ⟨rfl, e2⟩ | ⟨rfl, e2⟩
          · exact e2 (h b ((hC.2.2.2.2.2 a (by omega) b).mpr ⟨p, a, b, e1, Or.inl ⟨rfl, rfl⟩⟩))
          · exact e2 (h a ((hC.2.2.2.2.2 b (by omega) a).mpr ⟨p, a, b, e1, Or.inr ⟨rfl, rfl⟩⟩))
        · intro h d hd
          obtain ⟨p, a, b, e1, e2⟩ := (hC.2.2.2.2.2 c (by omega) d).mp hd
          refine Classical.byContradiction fun z => h ⟨p, a, b, e1, ?_⟩
          rcases e2 with ⟨rfl, rfl⟩ | ⟨rfl, rfl⟩
          · exact Or.inl ⟨rfl, z⟩
          · exact Or.inr ⟨rfl, z⟩
      by_cases hx : bt x c = true
      · rw [if_neg (show ¬ (x >>> (nI c &&& 31)) &&& 1 = 0 from fun z => by rw [(b_t0 (by omega)).mp z] at hx; cases hx)]
        by_cases h0 : ((σ.2.1 5 c) &&& (x ^^^ (-1))) = 0
        · rw [if_pos h0]
          rw [e, if_neg (fun z => (hz.mp h0) ((hq c).mp z).2)] at ihk
          exact ihk
        · rw [if_neg h0]
          rw [e, if_pos ((hq c).mpr ⟨hx, Classical.byContradiction fun z => h0 (hz.mpr z)⟩)] at ihk
          exact ihk
      · rw [if_pos (show (x >>> (nI c &&& 31)) &&& 1 = 0 from (b_t0 (by omega)).mpr (by simpa using hx))]
        rw [e, if_neg (fun z => hx ((hq c).mp z).1)] at ihk
        exact ihk
theorem xcut {σ : Sg} {n : Nat} {E : Gr} (hC : GC σ n E) {F : Nat} (hF : 40 ≤ F) (x : Int32) : fX1_cutBetween F σ x = some (nI (cutE n E x), σ) := by
  have hn := hC.1.1
  have := xcut_loop hC F x (q := fun c => @decide (OP E x c) (Classical.propDecidable _)) (fun c => by simp) F 0 (by omega) (by omega)
  rw [show cnt 0 _ = 0 from rfl, nI_0] at this
  exact this
theorem mcut_loop {σ : Sg} {n : Nat} {E : Gr} (hG : GM σ n E) (F : Nat) (x : Int32) : ∀ (m p : Nat) (acc : Int32), p ≤ 18 → 18 < p + m → ∃ w, fX7_cutOf_4 F m σ x acc (nI p) = ((fX7_bits F σ w).bind fun q1 => (fun (r1 : Int32) (σ1 : Sg) => some (r1, σ1)) q1.1 q1.2) ∧ ∀ c, bt w c = true ↔ (bt acc c = true ∨ ∃ q a b, p ≤ q ∧ E q = some (a, b) ∧ ((a = c ∧ bt x a = true ∧ ¬ bt x b = true) ∨ (b = c ∧ bt x b = true ∧ ¬ bt x a = true))) := by
  intro m
  induction m with
  | zero => intro p acc h1 h2; omega
  | succ m ih =>
    intro p acc h1 h2
    show ∃ w, bX7_cutOf_4 F (fX7_cutOf_4 F m) σ x acc (nI p) = _ ∧ _
    unfold bX7_cutOf_4 bX7_cutOf_85 li_
    by_cases hp : p = 18
    · subst hp
      rw [if_pos (by decide)]
      refine ⟨acc, rfl, fun c => ⟨fun z => Or.inl z, fun z => ?_⟩⟩
      rcases z with z | ⟨q, a, b, z1, z2, -⟩
      · exact z
      · have := (hG.1.2 q a b z2).1; omega
    · rw [if_neg (n18 (by omega)), nI_1]
      have hcp : (nI p).toNatClampNeg = p := nI_clamp (by omega)
      have ip : ib (nI p) 18 := nI_in (by omega) (by omega)
      simp only [if_pos ip, hcp, hG.2.2.1 p (by omega), if_neg (show ¬ (1 : Int32) = 0 by decide), if_true]
      have next : ∀ acc', (∀ c, bt acc' c = true ↔ (bt acc c = true ∨ ∃ a b, E p = some (a, b) ∧ ((a = c ∧ bt x a = true ∧ ¬ bt x b = true) ∨ (b = c ∧ bt x b = true ∧ ¬ bt x a = true)))) → ∃ w, fX7_cutOf_4 F m σ x acc' (nI (p + 1)) = ((fX7_bits F σ w).bind fun q1 => (fun (r1 : Int32) (σ1 : Sg) => some (r1, σ1)) q1.1 q1.2) ∧ ∀ c, bt w c = true ↔ (bt acc c = true ∨ ∃ q a b, p ≤ q ∧ E q = some (a, b) ∧ ((a = c ∧ bt x a = true ∧ ¬ bt x b = true) ∨ (b = c ∧ bt x b = true ∧ ¬ bt x a = true))) := by
        intro acc' ha
        obtain ⟨w, e, hw⟩ := ih (p + 1) acc' (by omega) (by omega)
        refine ⟨w, e, fun c => (hw c).trans ?_⟩
        rw [ha c]
        constructor
        · rintro ((z | ⟨a, b, z1, z2⟩) | ⟨q, a, b, z1, z2⟩)
          · exact Or.inl z
          · exact Or.inr ⟨p, a, b, Nat.le_refl p, z1, z2⟩
          · exact Or.inr ⟨q, a, b, by omega, z2⟩
        · rintro (z | ⟨q, a, b, z1, z2⟩)
          · exact Or.inl (Or.inl z)
          · by_cases hq : q = p
            · subst hq; exact Or.inl (Or.inr ⟨a, b, z2⟩)
            · exact Or.inr ⟨q, a, b, by omega, z2⟩
      cases h : E p with
      | none =>
        rw [if_pos (show (if (none : Option (Nat × Nat)).isSome = true then (1 : Int32) else 0) = 0 from rfl)]
        exact next acc fun c => ⟨fun z => Or.inl z, fun z => by rcases z with z | ⟨a, b, z, -⟩; exact z; rw [h] at z; cases z⟩
      | some ab =>
        obtain ⟨a, b⟩ := ab
        obtain ⟨l1, l2, l3⟩ := hG.1.e12 p a b h
        have lab := (hG.1.2 p a b h).2.1
        obtain ⟨y1, y2⟩ := hG.2.2.2 p a b h
        rw [if_neg (show ¬ (if (some (a, b)).isSome = true then (1 : Int32) else 0) = 0 from fun z => absurd (show (1 : Int32) = 0 from z) (by decide))]
        have ca : ((x >>> (nI a &&& 31)) &&& 1 = 1) ↔ bt x a = true := b_t1 (by omega)
        have cb : ((x >>> (nI b &&& 31)) &&& 1 = 1) ↔ bt x b = true := b_t1 (by omega)
        simp only [y1, y2, ca, cb]
        have nx : ∀ acc', (∀ c, bt acc' c = true ↔ (bt acc c = true ∨ ((a = c ∧ bt x a = true ∧ ¬ bt x b = true) ∨ (b = c ∧ bt x b = true ∧ ¬ bt x a = true)))) → ∃ w, fX7_cutOf_4 F m σ x acc' (nI (p + 1)) = ((fX7_bits F σ w).bind fun q1 => (fun (r1 : Int32) (σ1 : Sg) => some (r1, σ1)) q1.1 q1.2) ∧ ∀ c, bt w c = true ↔ (bt acc c = true ∨ ∃ q a b, p ≤ q ∧ E q = some (a, b) ∧ ((a = c ∧ bt x a = true ∧ ¬ bt x b = true) ∨ (b = c ∧ bt x b = true ∧ ¬ bt x a = true))) := fun acc' ha => next acc' fun c => (ha c).trans ⟨fun z => by
            rcases z with z | z
            · exact Or.inl z
            · exact Or.inr ⟨a, b, h, z⟩, fun z => by
            rcases z with z | ⟨a', b', z1, z2⟩
            · exact Or.inl z
            · rw [h] at z1; cases z1; exact Or.inr z2⟩
        by_cases ha : bt x a = true
        · by_cases hb : bt x b = true
          · simp only [if_pos ha, if_pos hb]
            exact nx acc fun c => ⟨fun z => Or.inl z, fun z => by
              rcases z with z | ⟨-, -, z⟩ | ⟨-, -, z⟩
              · exact z
              · exact absurd hb z
              · exact absurd ha z⟩
          · simp only [if_pos ha, if_neg hb]
            refine nx _ fun c => ?_
            rw [b_or, b_bit (by omega), Bool.or_eq_true, decide_eq_true_eq]
            constructor
            · rintro (z | z)
              · exact Or.inl z
              · exact Or.inr (Or.inl ⟨z.symm, ha, hb⟩)
            · rintro (z | ⟨z, -, -⟩ | ⟨-, z, -⟩)
              · exact Or.inl z
              · exact Or.inr z.symm
              · exact absurd z hb
        · by_cases hb : bt x b = true
          · simp only [if_neg ha, if_pos hb]
            refine nx _ fun c => ?_
            rw [b_or, b_bit (by omega), Bool.or_eq_true, decide_eq_true_eq]
            constructor
            · rintro (z | z)
              · exact Or.inl z
              · exact Or.inr (Or.inr ⟨z.symm, hb, ha⟩)
            · rintro (z | ⟨-, z, -⟩ | ⟨z, -, -⟩)
              · exact Or.inl z
              · exact absurd z ha
              · exact Or.inr z.symm
          · simp only [if_neg ha, if_neg hb]
            exact nx acc fun c => ⟨fun z => Or.inl z, fun z => by
              rcases z with z | ⟨-, z, -⟩ | ⟨-, z, -⟩
              · exact z
              · exact absurd z ha
              · exact absurd z hb⟩
theorem mcut {σ : Sg} {n : Nat} {E : Gr} (hG : GM σ n E) {F : Nat} (hF : 40 ≤ F) (x : Int32) : fX7_cutOf F σ x = some (nI (cutE n E x), σ) := by
  obtain ⟨w, e, hw⟩ := mcut_loop hG F x F 0 0 (by omega) (by omega)
  rw [nI_0] at e
  have hn := hG.1.1
  have hw' : ∀ c, bt w c = true ↔ OP E x c := fun c => (hw c).trans (by
    rw [b_0]
    constructor
    · rintro (z | ⟨q, a, b, -, z2, z3⟩)
      · cases z
      · rcases z3 with ⟨rfl, z3, z4⟩ | ⟨rfl, z3, z4⟩
        · exact ⟨z3, q, a, b, z2, Or.inl ⟨rfl, z4⟩⟩
        · exact ⟨z3, q, a, b, z2, Or.inr ⟨rfl, z4⟩⟩
    · rintro ⟨z3, q, a, b, z2, z4⟩
      refine Or.inr ⟨q, a, b, Nat.zero_le q, z2, ?_⟩
      rcases z4 with ⟨rfl, z4⟩ | ⟨rfl, z4⟩
      · exact Or.inl ⟨rfl, z3, z4⟩
      · exact Or.inr ⟨rfl, z3, z4⟩)
  have ec : cutE n E x = cnt 18 (fun c => bt w c) := by
    unfold cutE
    refine cnt_ext (by omega) (fun i _ => ?_) (fun i h1 _ => ?_)
    · by_cases h : OP E x i
      · rw [@decide_eq_true _ (Classical.propDecidable _) h, (hw' i).mpr h]
      · rw [@decide_eq_false _ (Classical.propDecidable _) h]
        cases hb : bt w i with
        | false => rfl
        | true => exact absurd ((hw' i).mp hb) h
    · cases hb : bt w i with
      | false => rfl
      | true =>
        obtain ⟨-, p, a, b, e1, e2⟩ := (hw' i).mp hb
        have := hG.1.2 p a b e1
        omega
  show fX7_cutOf_4 F F σ x 0 0 = _
  rw [e, mbt hF, ec]; rfl
/-- the first caves of a row -/
def rset (row : Nat → Nat) : Nat → Int32
  | 0 => 0
  | k + 1 => rset row k ||| ((1 : Int32) <<< (nI (row k) &&& 31))
theorem xcb_loop {σ : Sg} {n : Nat} {E : Gr} (hC : GC σ n E) {F : Nat} (hF : 40 ≤ F) {row : Nat → Nat} (hL : LR σ 15 row) {i : Nat} (hi : i ≤ n) : ∀ (m j : Nat), j ≤ i → i < j + m → fX2_cutBehind_4 F m σ (nI i) (rset row j) (nI j) = some (nI (cutE n E (rset row i)), σ) := by
  have hn := hC.1.1
  intro m
  induction m with
  | zero => intro j h1 h2; omega
  | succ m ih =>
    intro j h1 h2
    show bX2_cutBehind_4 F (fX2_cutBehind_4 F m) σ (nI i) (rset row j) (nI j) = _
    unfold bX2_cutBehind_4 li_
    by_cases hj : j = i
    · subst hj
      rw [if_pos (nI_le (by omega) (by omega)), xcut hC hF]; rfl
    · have hcj : (nI j).toNatClampNeg = j := nI_clamp (by omega)
      have ij : ib (nI j) 12 := nI_in (by omega) (by omega)
      rw [if_neg (nI_ge (by omega) (by omega)), hC.2.1, if_neg (nI_ge (by omega) (by omega)), nI_1]
      simp only [if_pos ij, hcj, (hL j (by omega)).1]
      exact ih (j + 1) (by omega) (by omega)
theorem xcb {σ : Sg} {n : Nat} {E : Gr} (hC : GC σ n E) {F : Nat} (hF : 40 ≤ F) {row : Nat → Nat} (hL : LR σ 15 row) {i : Nat} (hi : i ≤ n) : fX2_cutBehind F σ (nI i) = some (nI (cutE n E (rset row i)), σ) := by
  have := xcb_loop hC hF hL hi F 0 (by omega) (by have := hC.1.1; omega)
  rw [show rset row 0 = 0 from rfl, nI_0] at this
  exact this
theorem mcb_loop {σ : Sg} {n : Nat} {E : Gr} (hG : GM σ n E) {F : Nat} (hF : 40 ≤ F) {row : Nat → Nat} (hL : LR σ 28 row) {i : Nat} (hi : i ≤ n) : ∀ (m j : Nat), j ≤ i → i < j + m → fX7_cutBehind_4 F m σ (nI i) (rset row j) (nI j) = some (nI (cutE n E (rset row i)), σ) := by
  have hn := hG.1.1
  intro m
  induction m with
  | zero => intro j h1 h2; omega
  | succ m ih =>
    intro j h1 h2
    show bX7_cutBehind_4 F (fX7_cutBehind_4 F m) σ (nI i) (rset row j) (nI j) = _
    unfold bX7_cutBehind_4 li_
    by_cases hj : j = i
    · subst hj
      rw [if_pos (nI_le (by omega) (by omega)), mcut hG hF]; rfl
    · have hcj : (nI j).toNatClampNeg = j := nI_clamp (by omega)
      have ij : ib (nI j) 12 := nI_in (by omega) (by omega)
      rw [if_neg (nI_ge (by omega) (by omega)), nI_1]
      simp only [if_pos ij, hcj, (hL j (by omega)).1]
      exact ih (j + 1) (by omega) (by omega)
theorem mcb {σ : Sg} {n : Nat} {E : Gr} (hG : GM σ n E) {F : Nat} (hF : 40 ≤ F) {row : Nat → Nat} (hL : LR σ 28 row) {i : Nat} (hi : i ≤ n) : fX7_cutBehind F σ (nI i) = some (nI (cutE n E (rset row i)), σ) := by
  have := mcb_loop hG hF hL hi F 0 (by omega) (by have := hG.1.1; omega)
  rw [show rset row 0 = 0 from rfl, nI_0] at this
  exact this
noncomputable def gm (n : Nat) (E : Gr) (row : Nat → Nat) : Nat → Nat
  | 0 => 0
  | k + 1 => if gm n E row k < cutE n E (rset row (k + 1)) then cutE n E (rset row (k + 1)) else gm n E row k
theorem gm_le (n : Nat) (E : Gr) (row : Nat → Nat) : ∀ k, gm n E row k ≤ n := by
  intro k
  induction k with
  | zero => exact Nat.zero_le _
  | succ k ih =>
    have := cutE_le n E (rset row (k + 1))
    unfold gm; split <;> omega
theorem xgr_loop {σ : Sg} {n : Nat} {E : Gr} (hC : GC σ n E) {F : Nat} (hF : 40 ≤ F) {row : Nat → Nat} (hL : LR σ 15 row) : ∀ (m k : Nat), k ≤ n → n < k + m → fX2_greatestCut_4 F m σ (if k = 0 then -1 else nI (gm n E row k)) (nI (k + 1)) = some (if n = 0 then -1 else nI (gm n E row n), σ) := by
  have hn := hC.1.1
  intro m
  induction m with
  | zero => intro k h1 h2; omega
  | succ m ih =>
    intro k h1 h2
    show bX2_greatestCut_4 F (fX2_greatestCut_4 F m) σ _ (nI (k + 1)) = _
    unfold bX2_greatestCut_4
    rw [hC.2.1]
    by_cases hk : k = n
    · subst hk
      rw [if_pos (nI_lt (by omega) (by omega))]
    · rw [if_neg (nI_nlt (by omega) (by omega)), xcb hC hF hL (show k + 1 ≤ n by omega)]
      simp only [Option.bind_some, nI_1]
      have ihk := ih (k + 1) (by omega) (by omega)
      rw [if_neg (by omega)] at ihk
      have e : mx_ (if k = 0 then -1 else nI (gm n E row k)) (nI (cutE n E (rset row (k + 1)))) = nI (gm n E row (k + 1)) := by
        have c12 := cutE_le n E (rset row (k + 1))
        have g12 := gm_le n E row k
        by_cases hk0 : k = 0
        · subst hk0
          rw [if_pos rfl]
          unfold mx_
          rw [if_pos (by rw [Int32.lt_iff_toInt_lt, nI_toInt (by omega)]; have : (-1 : Int32).toInt = -1 := by decide
                         omega)]
          show _ = nI (if 0 < cutE n E (rset row 1) then _ else 0)
          by_cases h0 : 0 < cutE n E (rset row 1)
          · rw [if_pos h0]
          · rw [if_neg h0, show cutE n E (rset row 1) = 0 by omega]
        · rw [if_neg hk0, (mnx (by omega) (by omega)).2]; rfl
      rw [e]; exact ihk
theorem mgr_loop {σ : Sg} {n : Nat} {E : Gr} (hG : GM σ n E) {F : Nat} (hF : 40 ≤ F) {row : Nat → Nat} (hL : LR σ 28 row) : ∀ (m k : Nat), k ≤ n → n < k + m → fX7_cut_35 F m σ (nI (gm n E row k)) (nI (k + 1)) = some (nI (gm n E row n), σ) := by
  have hn := hG.1.1
  intro m
  induction m with
  | zero => intro k h1 h2; omega
  | succ m ih =>
    intro k h1 h2
    show bX7_cut_35 F (fX7_cut_35 F m) σ _ (nI (k + 1)) = _
    unfold bX7_cut_35
    rw [hG.2.1]
    by_cases hk : k = n
    · subst hk
      rw [if_pos (nI_lt (by omega) (by omega))]
    · have ec := mcb hG hF hL (show k + 1 ≤ n by omega)
      rw [if_neg (nI_nlt (by omega) (by omega)), ec]
      simp only [Option.bind_some, nI_1]
      have ihk := ih (k + 1) (by omega) (by omega)
      have c12 := cutE_le n E (rset row (k + 1))
      have g12 := gm_le n E row k
      have e : gm n E row (k + 1) = if gm n E row k < cutE n E (rset row (k + 1)) then cutE n E (rset row (k + 1)) else gm n E row k := rfl
      by_cases h : gm n E row k < cutE n E (rset row (k + 1))
      · rw [e, if_pos h] at ihk
        rw [if_neg (nI_ge h (by omega)), ec]
        exact ihk
      · rw [e, if_neg h] at ihk
        rw [if_pos (nI_le (by omega) (by omega))]
        exact ihk
theorem step_cut (σ : Sg) (wn : Option Nat) (l : Int32) (hI : Inv_ σ wn) : PairOk Inv_ σ wn (fun F σ => fX6_cut F σ l) (fun F σ => fX7_cut F σ l) := by
  have hI0 := hI
  obtain ⟨n, E, mo, row, K, S, O, hD⟩ := hI
  obtain ⟨hGC, hGM, hMO, hLY, hL1, hL2, hHI, hXN, hXH, hMH, hPL⟩ := id hD
  obtain ⟨F, hF⟩ : ∃ F : Nat, 40 ≤ F := ⟨40, Nat.le_refl _⟩
  have hn := hGC.1.1
  have n0 : nI n = 0 ↔ n = 0 := by rw [← nI_0, nI_eq (by omega) (by omega)]
  by_cases h1 : l < 0
  · refine PairOk.same hI0 (F := F) (r := -1) ?_ ?_
    · show fX6_cut F σ l = _
      unfold fX6_cut; rw [if_pos h1]
    · show fX7_cut F σ l = _
      unfold fX7_cut; rw [if_pos h1]
  · obtain ⟨i, hi, rfl⟩ := nI_of h1
    by_cases h2 : i ≤ n
    · have i0 : nI i = 0 ↔ i = 0 := by rw [← nI_0, nI_eq (by omega) (by omega)]
      by_cases hi0 : i = 0
      · subst hi0
        refine PairOk.same hI0 (F := F) (r := if n = 0 then -1 else nI (gm n E row n)) ?_ ?_
        · show fX6_cut F σ (nI 0) = _
          unfold fX6_cut
          rw [if_neg h1, hGC.2.1, if_pos (nI_le h2 (by omega)), if_pos (i0.mpr rfl)]
          have := xgr_loop hGC hF hL1 F 0 (by omega) (by omega)
          rw [if_pos rfl, show nI (0 + 1) = 1 by decide] at this
          show (fX2_greatestCut_4 F F σ (-1) 1).bind _ = _
          rw [this]; rfl
        · show fX7_cut F σ (nI 0) = _
          unfold fX7_cut
          rw [if_neg h1, hGM.2.1, if_neg (nI_nlt (by omega) (by omega))]
          by_cases hn0 : n = 0
          · rw [if_pos (n0.mpr hn0), if_pos hn0]
          · rw [if_neg (fun z => hn0 (n0.mp z)), if_neg hn0, if_pos (by rw [nI_0]; decide)]
            have := mgr_loop hGM hF hL2 F 0 (by omega) (by omega)
            rw [show gm n E row 0 = 0 from rfl, nI_0, show nI (0 + 1) = 1 by decide] at this
            exact this
      · refine PairOk.same hI0 (F := F) (r := nI (cutE n E (rset row i))) ?_ ?_
        · show fX6_cut F σ (nI i) = _
          unfold fX6_cut
          rw [if_neg h1, hGC.2.1, if_pos (nI_le h2 (by omega)), if_neg (fun z => hi0 (i0.mp z)), xcb hGC hF hL1 h2]; rfl
        · show fX7_cut F σ (nI i) = _
          unfold fX7_cut
          rw [if_neg h1, hGM.2.1, if_neg (nI_nlt (by omega) (by omega)), if_neg (fun z => by have := n0.mp z; omega), if_neg (nI_nle (by omega) (by omega)), mcb hGM hF hL2 h2]; rfl
    · refine PairOk.same hI0 (F := F) (r := -1) ?_ ?_
      · show fX6_cut F σ (nI i) = _
        unfold fX6_cut
        rw [if_neg h1, hGC.2.1, if_neg (nI_ge (by omega) (by omega))]
      · show fX7_cut F σ (nI i) = _
        unfold fX7_cut
        rw [if_neg h1, hGM.2.1, if_pos (nI_lt (by omega) (by omega))]
