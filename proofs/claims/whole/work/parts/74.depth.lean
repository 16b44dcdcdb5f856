/-! ===== how deep a stand lies in the list ===== -/
/-- the way from the first stand to stand i, as places of the list -/
def Wy (B : BB) (i d : Nat) (P : Nat → Nat) : Prop := P 0 = 0 ∧ P d = i ∧ (∀ k, k ≤ d → P k < bM B) ∧ ∀ k, k < d → P k < P (k + 1) ∧ bF B (P (k + 1)) = P k
theorem Wy.mono {B : BB} {i d : Nat} {P : Nat → Nat} (h : Wy B i d P) : ∀ j k, j < k → k ≤ d → P j < P k := by
  intro j k hjk hk
  induction k with
  | zero => omega
  | succ k ih =>
    have := (h.2.2.2 k (by omega)).1
    by_cases e : j = k
    · rw [e]; exact this
    · have := ih (by omega) (by omega); omega
theorem wy_ex {X : CX} {B : BB} {h : Nat} (hB : BI X B h) : ∀ i, i < bM B → ∃ d P, Wy B i d P := by
  intro i
  induction i using Nat.strongRecOn with
  | ind i ih =>
    intro hi
    by_cases h0 : i = 0
    · refine ⟨0, fun _ => 0, rfl, h0.symm, fun k _ => by show 0 < bM B; omega, fun k hk => by omega⟩
    · have hf := (hB.2.2.2.1 i (by omega) hi).1.1
      obtain ⟨d, P, p1, p2, p3, p4⟩ := ih (bF B i) hf (by omega)
      refine ⟨d + 1, fun k => if k ≤ d then P k else i, by show (if 0 ≤ d then P 0 else i) = 0; rw [if_pos (by omega)]; exact p1, by show (if d + 1 ≤ d then _ else i) = i; rw [if_neg (by omega)], fun k hk => ?_, fun k hk => ?_⟩
      · show (if k ≤ d then P k else i) < bM B
        split
        · exact p3 k (by omega)
        · exact hi
      · show (if k ≤ d then P k else i) < (if k + 1 ≤ d then P (k + 1) else i) ∧ bF B (if k + 1 ≤ d then P (k + 1) else i) = (if k ≤ d then P k else i)
        rw [if_pos (show k ≤ d by omega)]
        by_cases e : k + 1 ≤ d
        · rw [if_pos e]; exact p4 k (by omega)
        · rw [if_neg e]
          have : k = d := by omega
          rw [this, p2]
          exact ⟨hf, rfl⟩
theorem wy_up {X : CX} {B : BB} {h : Nat} (hB : BI X B h) : ∀ (d e i j : Nat) (P Q : Nat → Nat), Wy B i d P → Wy B j e Q → i ≤ j → d ≤ e := by
  intro d
  induction d with
  | zero => intros; omega
  | succ d ih =>
    intro e i j P Q hP hQ hij
    have hi : 0 < i := by
      have := hP.mono 0 (d + 1) (by omega) (by omega)
      rw [hP.1, hP.2.1] at this; exact this
    cases e with
    | zero =>
      have : j = 0 := hQ.2.1.symm.trans hQ.1
      omega
    | succ e =>
      have f1 := (hP.2.2.2 d (by omega)).2
      have f2 := (hQ.2.2.2 e (by omega)).2
      rw [hP.2.1] at f1
      rw [hQ.2.1] at f2
      have hjM := hQ.2.2.1 (e + 1) (by omega)
      rw [hQ.2.1] at hjM
      have := hB.2.2.2.2 i j hi hij hjM
      have := ih e (P d) (Q e) P Q ⟨hP.1, rfl, fun k hk => hP.2.2.1 k (by omega), fun k hk => hP.2.2.2 k (by omega)⟩ ⟨hQ.1, rfl, fun k hk => hQ.2.2.1 k (by omega), fun k hk => hQ.2.2.2 k (by omega)⟩ (by omega)
      omega
theorem bst_pre {X : CX} (hX : CXok X) : ∀ G H, G ≤ H → (∀ h, h < H → h < bM (bst X h)) → Pre (bst X G) (bst X H) := by
  intro G H hGH hst
  induction H with
  | zero => have : G = 0 := by omega
            rw [this]; exact Pre.rf
  | succ H ih =>
    by_cases e : G = H + 1
    · rw [e]; exact Pre.rf
    · have hb := bst_ok hX H (fun h hh => hst h (by omega))
      exact (ih (by omega) (fun h hh => hst h (by omega))).tr (stg hX hb (hst H (by omega))).2
theorem off_in {X : CX} (hX : CXok X) {B : BB} {h : Nat} {x : Ord_} {t : BS} (hc : Cd X (bQ B h) x t) : inL (off X B h x) t := by
  rcases off_cases hX B h x with ⟨u, c1, c2, e⟩ | ⟨c1, e⟩
  · rw [e, hc.uniq hX c1]
    exact ⟨bM B, Nat.lt_succ_self _, if_pos rfl⟩
  · rw [e]; exact c1 t hc
theorem puts_pre {X : CX} (hX : CXok X) (B : BB) (h : Nat) : ∀ c k, Pre (putsF X B h c) (putsF X B h (c + k)) := by
  intro c k
  induction k with
  | zero => exact Pre.rf
  | succ k ih => exact ih.tr (Pre.off hX _ _ _)
theorem lifts_pre {X : CX} (hX : CXok X) (B : BB) (h : Nat) : ∀ c k, Pre (liftsF X B h c) (liftsF X B h (c + k)) := by
  intro c k
  induction k with
  | zero => exact Pre.rf
  | succ k ih => exact ih.tr (Pre.off hX _ _ _)
theorem sl_pre {X : CX} (hX : CXok X) (B : BB) (h c : Nat) : ∀ p k, Pre (slF X B h c p) (slF X B h c (p + k)) := by
  intro p k
  induction k with
  | zero => exact Pre.rf
  | succ k ih => exact ih.tr (Pre.off hX _ _ _)
theorem slides_pre {X : CX} (hX : CXok X) (B : BB) (h : Nat) : ∀ c k, Pre (slidesF X B h c) (slidesF X B h (c + k)) := by
  intro c k
  induction k with
  | zero => exact Pre.rf
  | succ k ih =>
    refine ih.tr ?_
    have : ∀ q, q = 18 → Pre (slidesF X B h (c + k)) (slF X (slidesF X B h (c + k)) h (c + k) q) := fun q _ => by
      have := sl_pre hX (slidesF X B h (c + k)) h (c + k) 0 q
      rw [Nat.zero_add] at this
      exact this
    exact this 18 rfl
/-- all that follows a stand taken up is in the list -/
theorem exp_in {X : CX} (hX : CXok X) {B : BB} {h : Nat} (hB : BI X B h) (hh : h < bM B) {x : Ord_} {t : BS} (hc : Cd X (bQ B h) x t) : inL (expand X B h) t := by
  have hcn := hc.1.cn hX.2.2.2.2
  obtain ⟨a1, a2⟩ := stg_puts hX hB hh (cN X)
  have ha := Nat.lt_of_lt_of_le hh a2.1
  obtain ⟨b1, b2⟩ := stg_lifts hX a1 ha (cN X)
  have hb := Nat.lt_of_lt_of_le ha b2.1
  obtain ⟨c1, c2⟩ := stg_slides hX b1 hb (cN X)
  rcases hc.1 with ⟨z, -⟩ | ⟨z, -⟩ | ⟨z, -, d, hd, -⟩
  · have hc' : Cd X (bQ (putsF X B h x.2.1) h) (0, x.2.1, 0) t := by
      rw [((stg_puts hX hB hh x.2.1).2.2 h hh).1]
      obtain ⟨q1, q2, q3, q4, q5⟩ := hc
      refine ⟨?_, fun _ => q2 z, ?_, ?_, q5⟩
      · rcases q1 with ⟨-, y⟩ | ⟨y, -⟩ | ⟨y, -⟩
        · exact Or.inl ⟨rfl, y⟩
        · omega
        · omega
      · rcases q3 with y | ⟨y1, y2⟩
        · exact Or.inl y
        · exact Or.inr ⟨by show 0 ≠ 1; omega, fun _ => y2 z⟩
      · rw [q4]
        constructor
        · rintro ⟨y1, y2⟩
          refine ⟨y1, ?_⟩
          rcases y2 with y2 | y2
          · exact Or.inl y2
          · omega
        · rintro ⟨y1, y2⟩
          refine ⟨y1, ?_⟩
          rcases y2 with y2 | y2
          · exact Or.inl y2
          · cases y2
    have i1 : inL (putsF X B h (x.2.1 + 1)) t := off_in hX hc'
    have p1 := puts_pre hX B h (x.2.1 + 1) (cN X - (x.2.1 + 1))
    rw [show x.2.1 + 1 + (cN X - (x.2.1 + 1)) = cN X by omega] at p1
    exact (p1.tr (b2.tr c2)).inL i1
  · have hc' : Cd X (bQ (liftsF X (putsF X B h (cN X)) h x.2.1) h) (1, x.2.1, 0) t := by
      rw [((stg_lifts hX a1 ha x.2.1).2.2 h ha).1, (a2.2 h hh).1]
      obtain ⟨q1, q2, q3, q4, q5⟩ := hc
      refine ⟨?_, fun y => by (cases y), ?_, ?_, q5⟩
      · rcases q1 with ⟨y, -⟩ | ⟨-, y⟩ | ⟨y, -⟩
        · omega
        · exact Or.inr (Or.inl ⟨rfl, y⟩)
        · omega
      · rcases q3 with y | ⟨y1, y2⟩
        · exact Or.inl y
        · exact absurd z y1
      · rw [q4]
        constructor
        · rintro ⟨y1, y2⟩
          refine ⟨y1, ?_⟩
          rcases y2 with y2 | y2
          · exact Or.inl y2
          · omega
        · rintro ⟨y1, y2⟩
          refine ⟨y1, ?_⟩
          rcases y2 with y2 | y2
          · exact Or.inl y2
          · cases y2
    have i1 : inL (liftsF X (putsF X B h (cN X)) h (x.2.1 + 1)) t := off_in hX hc'
    have p1 := lifts_pre hX (putsF X B h (cN X)) h (x.2.1 + 1) (cN X - (x.2.1 + 1))
    rw [show x.2.1 + 1 + (cN X - (x.2.1 + 1)) = cN X by omega] at p1
    exact (p1.tr c2).inL i1
  · have hp : x.2.2 < 18 := by rcases hd with y | y <;> exact (hX.2.2.2.2.2 _ _ _ y).1
    obtain ⟨L, hL⟩ : ∃ L, L = liftsF X (putsF X B h (cN X)) h (cN X) := ⟨_, rfl⟩
    rw [← hL] at b1 hb b2
    obtain ⟨s1, s2⟩ := stg_slides hX b1 hb x.2.1
    have hs := Nat.lt_of_lt_of_le hb s2.1
    obtain ⟨t1, t2⟩ := stg_sl hX s1 hs x.2.1 x.2.2
    have hx : x = (2, x.2.1, x.2.2) := Prod.ext z rfl
    have hc' : Cd X (bQ (slF X (slidesF X L h x.2.1) h x.2.1 x.2.2) h) (2, x.2.1, x.2.2) t := by
      rw [(t2.2 h hs).1, (s2.2 h hb).1, (b2.2 h ha).1, (a2.2 h hh).1, ← hx]
      exact hc
    have i1 : inL (slF X (slidesF X L h x.2.1) h x.2.1 (x.2.2 + 1)) t := off_in hX hc'
    have p1 := sl_pre hX (slidesF X L h x.2.1) h x.2.1 (x.2.2 + 1) (18 - (x.2.2 + 1))
    have i2 : ∀ q, x.2.2 + 1 + (18 - (x.2.2 + 1)) = q → inL (slF X (slidesF X L h x.2.1) h x.2.1 q) t := fun q hq => by rw [← hq]; exact p1.inL i1
    have i3 : inL (slidesF X L h (x.2.1 + 1)) t := i2 18 (by omega)
    have p2 := slides_pre hX L h (x.2.1 + 1) (cN X - (x.2.1 + 1))
    rw [show x.2.1 + 1 + (cN X - (x.2.1 + 1)) = cN X by omega] at p2
    have i4 := p2.inL i3
    rw [hL] at i4
    exact i4
/-- the first stand where nothing is lost lies no deeper than any way leads -/
theorem wy_min {X : CX} (hX : CXok X) {H : Nat} (hS : Stop X H) {g d : Nat} {P : Nat → Nat} (hP : Wy (bst X H) g d P) (hgl : (bQ (bst X H) g).1.2 = 0) (hfst : ∀ j, j < g → (bQ (bst X H) j).1.2 ≠ 0) {l : Nat} {R : Nat → BS} (h0 : R 0 = (std0 (cN X), false)) (hl : (R l).1.2 = 0) (hst : ∀ k, k < l → ∃ x, Cd X (R k) x (R (k + 1))) : d ≤ l := by
  have hB := bst_ok hX H (fun h hh => (hS.1 h hh).1)
  have hgM : g < bM (bst X H) := by have := hP.2.2.1 d (Nat.le_refl d); rw [hP.2.1] at this; exact this
  have all0 := all_ne hX.2.2.2.1.1 (show cN X ≤ 12 by have := hX.2.2.2.1.2; omega)
  have hg0 : 0 < g := Classical.byContradiction fun z => by
    have : g = 0 := by omega
    rw [this, hB.1.2] at hgl
    exact all0 hgl
  have claim : ∀ k, k ≤ l → d ≤ k ∨ ∃ i e Q, i < bM (bst X H) ∧ bQ (bst X H) i = R k ∧ Wy (bst X H) i e Q ∧ e ≤ k := by
    intro k
    induction k with
    | zero => intro _; exact Or.inr ⟨0, 0, fun _ => 0, by omega, by rw [h0]; exact hB.1.2, ⟨rfl, rfl, fun k hk => by show 0 < _; omega, fun k hk => by omega⟩, Nat.le_refl 0⟩
    | succ k ih =>
      intro hk
      rcases ih (by omega) with z | ⟨i, e, Q, q1, q2, q3, q4⟩
      · exact Or.inl (by omega)
      · obtain ⟨x, hx⟩ := hst k (by omega)
        rw [← q2] at hx
        by_cases hiH : i < H
        · have hBi := bst_ok hX i (fun h hh => (hS.1 h (by omega)).1)
          have hiM := (hS.1 i hiH).1
          have pre1 := bst_pre hX i H (by omega) (fun h hh => (hS.1 h hh).1)
          have hx' : Cd X (bQ (bst X i) i) x (R (k + 1)) := by rw [← (pre1.2 i hiM).1]; exact hx
          obtain ⟨j, j1, j2⟩ := exp_in hX hBi hiM hx'
          have j1' : j < bM (bst X (i + 1)) := j1
          have j2' : bQ (bst X (i + 1)) j = R (k + 1) := j2
          have hB1 : BI X (bst X (i + 1)) i := (stg hX hBi hiM).1
          have pre2 := bst_pre hX (i + 1) H (by omega) (fun h hh => (hS.1 h hh).1)
          have jH : j < bM (bst X H) := Nat.lt_of_lt_of_le j1' pre2.1
          obtain ⟨e', Q', w'⟩ := wy_ex hB j jH
          refine Or.inr ⟨j, e', Q', jH, by rw [(pre2.2 j j1').1]; exact j2', w', ?_⟩
          cases e' with
          | zero => omega
          | succ e' =>
            have f1 := (w'.2.2.2 e' (by omega)).2
            rw [w'.2.1] at f1
            have hj0 : 0 < j := by
              have := w'.mono 0 (e' + 1) (by omega) (by omega)
              rw [w'.1, w'.2.1] at this; exact this
            have f2 := (hB1.2.2.2.1 j hj0 j1').1.2
            rw [← (pre2.2 j j1').2.1, f1] at f2
            have := wy_up hB e' e (Q' e') i Q' Q ⟨w'.1, rfl, fun k hk => w'.2.2.1 k (by omega), fun k hk => w'.2.2.2 k (by omega)⟩ q3 f2
            omega
        · -- the goal was met ahead of this one
          left
          cases d with
          | zero => omega
          | succ d =>
            have f1 := (hP.2.2.2 d (by omega)).2
            rw [hP.2.1] at f1
            have f2 := (hB.2.2.2.1 g hg0 hgM).1.2
            rw [f1] at f2
            have f3 : P d ≤ i := by omega
            have := wy_up hB d e (P d) i P Q ⟨hP.1, rfl, fun k hk => hP.2.2.1 k (by omega), fun k hk => hP.2.2.2 k (by omega)⟩ q3 f3
            omega
  rcases claim l (Nat.le_refl l) with z | ⟨i, e, Q, q1, q2, q3, q4⟩
  · exact z
  · have hgi : g ≤ i := Classical.byContradiction fun z => hfst i (by omega) (by rw [q2]; exact hl)
    have := wy_up hB d e g i P Q hP q3 hgi
    omega
