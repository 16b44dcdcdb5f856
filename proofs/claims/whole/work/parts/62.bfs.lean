/-! ===== the search for a plan, as mathematics ===== -/
abbrev BS : Type := Std × Bool
/-- law, party, mouth, caves, passages -/
abbrev CX : Type := Nat × Nat × Nat × Nat × Gr
def cL (X : CX) : Nat := X.1
def cK (X : CX) : Nat := X.2.1
def cM (X : CX) : Nat := X.2.2.1
def cN (X : CX) : Nat := X.2.2.2.1
def cE (X : CX) : Gr := X.2.2.2.2
def CXok (X : CX) : Prop := cL X ≤ 2 ∧ (1 ≤ cK X ∧ cK X ≤ 3) ∧ cM X < cN X ∧ (0 < cN X ∧ cN X ≤ 6) ∧ GrOk (cN X) (cE X)
/-- an order that the law allows, from stand to stand -/
def Cd (X : CX) (s : BS) (x : Ord_) (t : BS) : Prop :=
  Tr (cN X) (cE X) x s.1 t.1 ∧ (x.1 = 0 → tot (cN X) s.1.1 < cK X) ∧ Al (cL X) (cM X) x (s.2 = true) ∧ (t.2 = true ↔ (cL X = 1 ∧ (s.2 = true ∨ x.1 = 2))) ∧ (cL X = 2 → Hang (cN X) (cE X) (cM X) t.1.1 (fun i => bt t.1.2 i = true))
theorem Tr.uniq {n : Nat} {E : Gr} (hE : GrOk n E) {o : Ord_} {s t u : Std} (h1 : Tr n E o s t) (h2 : Tr n E o s u) : t = u := by
  have fin : ∀ {sl : Nat → Prop}, t.1 = u.1 → LeO E t.1 (fun i => bt s.2 i = true) sl (fun i => bt t.2 i = true) → LeO E u.1 (fun i => bt s.2 i = true) sl (fun i => bt u.2 i = true) → t = u := by
    intro sl e a b
    rw [e] at a
    exact Prod.ext e (b_ext' fun i => a.uniq b i)
  rcases h1 with ⟨a1, a2, a3, a4⟩ | ⟨a1, a2, a3, a4, a5⟩ | ⟨a1, a2, d, a3, a4, a5⟩ <;> rcases h2 with ⟨b1, b2, b3, b4⟩ | ⟨b1, b2, b3, b4, b5⟩ | ⟨b1, b2, e, b3, b4, b5⟩ <;> try omega
  · exact fin (a3.trans b3.symm) a4 b4
  · exact fin (a4.trans b4.symm) a5 b5
  · have hde : d = e := by
      rcases a3 with a3 | a3 <;> rcases b3 with b3 | b3 <;> rw [a3] at b3 <;> cases b3
      · rfl
      · have := hE.2 _ _ _ a3; omega
      · have := hE.2 _ _ _ a3; omega
      · rfl
    subst hde
    exact fin (a4.trans b4.symm) a5 b5
theorem Cd.uniq {X : CX} (hX : CXok X) {s : BS} {x : Ord_} {t u : BS} (h1 : Cd X s x t) (h2 : Cd X s x u) : t = u := by
  refine Prod.ext (h1.1.uniq hX.2.2.2.2 h2.1) ?_
  have a := h1.2.2.2.1
  have b := h2.2.2.2.1
  cases ht : t.2 <;> cases hu : u.2
  · rfl
  · exact absurd (a.mpr (b.mp hu)) (by rw [ht]; decide)
  · exact absurd (b.mpr (a.mp ht)) (by rw [hu]; decide)
  · rfl
/-- a stand that can be met -/
def VS (X : CX) (s : BS) : Prop := SO (cN X) (cE X) s.1 ∧ tot (cN X) s.1.1 ≤ cK X ∧ (s.2 = true → cL X = 1) ∧ (cL X = 1 → s.2 = false → ∀ i, bt s.1.2 i = true ↔ (i < cN X ∧ s.1.1 i = 0))
theorem VS0 {X : CX} (hX : CXok X) : VS X (std0 (cN X), false) := by
  refine ⟨SO0 hX.2.2.2.2, by show tot _ (fun _ => 0) ≤ _; rw [tot_0]; omega, fun h => by (cases h), fun _ _ i => ?_⟩
  show bt (all_ _) i = true ↔ _
  have := hX.2.2.2.1.2
  rw [all_bt (by omega)]
  exact ⟨fun h => ⟨h, rfl⟩, fun h => h.1⟩
theorem Tr.leO {n : Nat} {E : Gr} {o : Ord_} {s t : Std} (h : Tr n E o s t) : ∃ sl, LeO E t.1 (fun i => bt s.2 i = true) sl (fun i => bt t.2 i = true) := by
  rcases h with ⟨-, -, -, a4⟩ | ⟨-, -, -, -, a5⟩ | ⟨-, -, d, -, -, a5⟩
  · exact ⟨_, a4⟩
  · exact ⟨_, a5⟩
  · exact ⟨_, a5⟩
theorem Tr.out {n : Nat} {E : Gr} (hE : GrOk n E) {o : Ord_} {s t : Std} (h : Tr n E o s t) (hs : ∀ c, n ≤ c → s.1 c = 0) : ∀ c, n ≤ c → t.1 c = 0 := by
  intro c hc
  rcases h with ⟨-, a2, a3, -⟩ | ⟨-, a2, -, a3, -⟩ | ⟨-, -, d, a3, a4, -⟩
  · rw [a3, up1_o _ _ (by omega)]; exact hs c hc
  · rw [a3, up1_o _ _ (by omega)]; exact hs c hc
  · have : o.2.1 < n ∧ d < n := by rcases a3 with h | h <;> have := hE.2 _ _ _ h <;> omega
    rw [a4, up1_o _ _ (by omega), up1_o _ _ (by omega)]; exact hs c hc
theorem Tr.tot {n : Nat} {E : Gr} (hE : GrOk n E) {o : Ord_} {s t : Std} (h : Tr n E o s t) : (o.1 = 0 → tot n t.1 = tot n s.1 + 1) ∧ (o.1 = 1 → tot n t.1 + 1 = tot n s.1) ∧ (o.1 = 2 → tot n t.1 = tot n s.1) := by
  rcases h with ⟨a1, a2, a3, -⟩ | ⟨a1, a2, a0, a3, -⟩ | ⟨a1, a0, d, a3, a4, -⟩
  · have := tot_up (men := s.1) (v := s.1 o.2.1 + 1) a2
    rw [← a3] at this
    exact ⟨fun _ => by omega, fun z => by omega, fun z => by omega⟩
  · have := tot_up (men := s.1) (v := s.1 o.2.1 - 1) a2
    rw [← a3] at this
    exact ⟨fun z => by omega, fun _ => by omega, fun z => by omega⟩
  · have hd : o.2.1 < n ∧ d < n ∧ d ≠ o.2.1 := by rcases a3 with h | h <;> have := hE.2 _ _ _ h <;> omega
    have t1 := tot_up (men := s.1) (v := s.1 o.2.1 - 1) hd.1
    have t2 := tot_up (men := up1 s.1 o.2.1 (s.1 o.2.1 - 1)) (v := s.1 d + 1) hd.2.1
    rw [up1_o _ _ hd.2.2, ← a4] at t2
    exact ⟨fun z => by omega, fun z => by omega, fun _ => by omega⟩
theorem Cd.vs {X : CX} (hX : CXok X) {s : BS} {x : Ord_} {t : BS} (h : Cd X s x t) (hs : VS X s) : VS X t := by
  obtain ⟨h1, h2, h3, h4, h5⟩ := h
  obtain ⟨g1, g2, g3, g4⟩ := hs
  have hE := hX.2.2.2.2
  have hk := hX.2.1.2
  obtain ⟨sl, hl⟩ := h1.leO
  obtain ⟨t0, t1, t2⟩ := h1.tot hE
  have ho2 := h1.o2
  have htk : tot (cN X) t.1.1 ≤ cK X := by
    have : x.1 = 0 ∨ x.1 = 1 ∨ x.1 = 2 := by omega
    rcases this with e | e | e
    · have := t0 e; have := h2 e; omega
    · have := t1 e; omega
    · have := t2 e; omega
  refine ⟨g1.next hE (h1.out hE g1.1) hl (Nat.le_trans htk (by omega)), htk, fun z => (h4.mp z).1, fun hL hf i => ?_⟩
  have hsf : s.2 = false := by
    cases e : s.2 with
    | false => rfl
    | true => exact absurd (h4.mpr ⟨hL, Or.inl e⟩) (by rw [hf]; decide)
  have hx2 : x.1 ≠ 2 := fun e => absurd (h4.mpr ⟨hL, Or.inr e⟩) (by rw [hf]; decide)
  have hx1 : x.1 ≠ 1 := by
    rcases h3 with z | z
    · omega
    · exact z.1
  have hx0 : x.1 = 0 := by omega
  have hw := g4 hL hsf
  obtain ⟨a2, a3⟩ : x.2.1 < cN X ∧ t.1.1 = up1 s.1.1 x.2.1 (s.1.1 x.2.1 + 1) := by
    rcases h1 with ⟨-, a2, a3, -⟩ | ⟨a1, -⟩ | ⟨a1, -⟩
    · exact ⟨a2, a3⟩
    · omega
    · omega
  have hm : ∀ i, t.1.1 i = 0 → s.1.1 i = 0 := fun i hi => by
    rw [a3] at hi
    by_cases e : i = x.2.1
    · rw [e, up1_s] at hi; omega
    · rw [up1_o _ _ e] at hi; exact hi
  constructor
  · intro z
    exact ⟨hl.lt (fun p a b hp => by have := hE.2 p a b hp; omega) (fun i hi => ((hw i).mp hi).1) i z, hl.men i z⟩
  · rintro ⟨z1, z2⟩
    exact hl.1.1 i ((hw i).mpr ⟨z1, hm i z2⟩) z2
/-! the list of the stands met -/
abbrev BB : Type := Nat × (Nat → BS) × (Nat → Nat) × (Nat → Ord_)
def bM (B : BB) : Nat := B.1
def bQ (B : BB) : Nat → BS := B.2.1
def bF (B : BB) : Nat → Nat := B.2.2.1
def bO (B : BB) : Nat → Ord_ := B.2.2.2
def app (B : BB) (h : Nat) (x : Ord_) (t : BS) : BB := (bM B + 1, fun i => if i = bM B then t else bQ B i, fun i => if i = bM B then h else bF B i, fun i => if i = bM B then x else bO B i)
def inL (B : BB) (t : BS) : Prop := ∃ i, i < bM B ∧ bQ B i = t
noncomputable def off (X : CX) (B : BB) (h : Nat) (x : Ord_) : BB := @dite _ (∃ t, Cd X (bQ B h) x t ∧ ¬ inL B t) (Classical.propDecidable _) (fun H => app B h x (Classical.choose H)) (fun _ => B)
theorem off_new {X : CX} (hX : CXok X) {B : BB} {h : Nat} {x : Ord_} {t : BS} (h1 : Cd X (bQ B h) x t) (h2 : ¬ inL B t) : off X B h x = app B h x t := by
  have H : ∃ t, Cd X (bQ B h) x t ∧ ¬ inL B t := ⟨t, h1, h2⟩
  unfold off
  rw [@dif_pos _ (Classical.propDecidable _) H]
  rw [(Classical.choose_spec H).1.uniq hX h1]
theorem off_old {X : CX} {B : BB} {h : Nat} {x : Ord_} (h1 : ∀ t, Cd X (bQ B h) x t → inL B t) : off X B h x = B := by
  unfold off
  rw [@dif_neg _ (Classical.propDecidable _) (fun ⟨t, a, b⟩ => b (h1 t a))]
theorem off_no {X : CX} {B : BB} {h : Nat} {x : Ord_} (h1 : ∀ t, ¬ Cd X (bQ B h) x t) : off X B h x = B := off_old fun t z => absurd z (h1 t)
theorem off_cases {X : CX} (hX : CXok X) (B : BB) (h : Nat) (x : Ord_) : (∃ t, Cd X (bQ B h) x t ∧ ¬ inL B t ∧ off X B h x = app B h x t) ∨ ((∀ t, Cd X (bQ B h) x t → inL B t) ∧ off X B h x = B) := by
  by_cases H : ∃ t, Cd X (bQ B h) x t ∧ ¬ inL B t
  · obtain ⟨t, a, b⟩ := H
    exact Or.inl ⟨t, a, b, off_new hX a b⟩
  · have : ∀ t, Cd X (bQ B h) x t → inL B t := fun t a => Classical.byContradiction fun b => H ⟨t, a, b⟩
    exact Or.inr ⟨this, off_old this⟩
noncomputable def putsF (X : CX) (B : BB) (h : Nat) : Nat → BB
  | 0 => B
  | c + 1 => off X (putsF X B h c) h (0, c, 0)
noncomputable def liftsF (X : CX) (B : BB) (h : Nat) : Nat → BB
  | 0 => B
  | c + 1 => off X (liftsF X B h c) h (1, c, 0)
noncomputable def slF (X : CX) (B : BB) (h c : Nat) : Nat → BB
  | 0 => B
  | p + 1 => off X (slF X B h c p) h (2, c, p)
noncomputable def slidesF (X : CX) (B : BB) (h : Nat) : Nat → BB
  | 0 => B
  | c + 1 => slF X (slidesF X B h c) h c 18
noncomputable def expand (X : CX) (B : BB) (h : Nat) : BB := slidesF X (liftsF X (putsF X B h (cN X)) h (cN X)) h (cN X)
def ini (X : CX) : BB := (1, fun _ => (std0 (cN X), false), fun _ => 0, fun _ => (0, 0, 0))
noncomputable def bst (X : CX) : Nat → BB
  | 0 => ini X
  | h + 1 => expand X (bst X h) h
/-- one list begins as another -/
def Pre (B C : BB) : Prop := bM B ≤ bM C ∧ ∀ i, i < bM B → bQ C i = bQ B i ∧ bF C i = bF B i ∧ bO C i = bO B i
theorem Pre.rf {B : BB} : Pre B B := ⟨Nat.le_refl _, fun _ _ => ⟨rfl, rfl, rfl⟩⟩
theorem Pre.tr {B C D : BB} (h1 : Pre B C) (h2 : Pre C D) : Pre B D := ⟨Nat.le_trans h1.1 h2.1, fun i hi => by
  obtain ⟨a, b, c⟩ := h1.2 i hi
  obtain ⟨d, e, f⟩ := h2.2 i (Nat.lt_of_lt_of_le hi h1.1)
  exact ⟨d.trans a, e.trans b, f.trans c⟩⟩
theorem Pre.app (B : BB) (h : Nat) (x : Ord_) (t : BS) : Pre B (app B h x t) := ⟨Nat.le_succ _, fun i hi => ⟨if_neg (by omega), if_neg (by omega), if_neg (by omega)⟩⟩
theorem Pre.inL {B C : BB} (h : Pre B C) {t : BS} (ht : inL B t) : inL C t := by
  obtain ⟨i, h1, h2⟩ := ht
  exact ⟨i, Nat.lt_of_lt_of_le h1 h.1, (h.2 i h1).1.trans h2⟩
theorem Pre.off {X : CX} (hX : CXok X) (B : BB) (h : Nat) (x : Ord_) : Pre B (off X B h x) := by
  rcases off_cases hX B h x with ⟨t, -, -, e⟩ | ⟨-, e⟩
  · rw [e]; exact Pre.app B h x t
  · rw [e]; exact Pre.rf
/-- what holds of the list while head h is taken up -/
def BI (X : CX) (B : BB) (h : Nat) : Prop :=
  (0 < bM B ∧ bQ B 0 = (std0 (cN X), false)) ∧ (∀ i, i < bM B → VS X (bQ B i)) ∧ (∀ i j, i < j → j < bM B → bQ B i ≠ bQ B j) ∧ (∀ i, 0 < i → i < bM B → (bF B i < i ∧ bF B i ≤ h) ∧ Cd X (bQ B (bF B i)) (bO B i) (bQ B i)) ∧ ∀ i j, 0 < i → i ≤ j → j < bM B → bF B i ≤ bF B j
theorem BI0 {X : CX} (hX : CXok X) : BI X (ini X) 0 := by
  refine ⟨⟨Nat.one_pos, rfl⟩, fun i _ => VS0 hX, fun i j h1 h2 => ?_, fun i h1 h2 => ?_, fun i j h1 h2 h3 => ?_⟩
  · have : j < 1 := h2
    omega
  · have : i < 1 := h2
    omega
  · have : j < 1 := h3
    omega
theorem BI.up {X : CX} {B : BB} {h h' : Nat} (hB : BI X B h) (hh : h ≤ h') : BI X B h' :=
  ⟨hB.1, hB.2.1, hB.2.2.1, fun i h1 h2 => ⟨⟨(hB.2.2.2.1 i h1 h2).1.1, Nat.le_trans (hB.2.2.2.1 i h1 h2).1.2 hh⟩, (hB.2.2.2.1 i h1 h2).2⟩, hB.2.2.2.2⟩
theorem BI.off {X : CX} (hX : CXok X) {B : BB} {h : Nat} (hB : BI X B h) (hh : h < bM B) (x : Ord_) : BI X (off X B h x) h := by
  rcases off_cases hX B h x with ⟨t, c1, c2, e⟩ | ⟨-, e⟩
  · rw [e]
    obtain ⟨⟨b1, b2⟩, b3, b4, b5, b6⟩ := hB
    have q1 : ∀ i, i < bM B → bQ (app B h x t) i = bQ B i := fun i hi => if_neg (by omega)
    have q2 : bQ (app B h x t) (bM B) = t := if_pos rfl
    have f1 : ∀ i, i < bM B → bF (app B h x t) i = bF B i := fun i hi => if_neg (by omega)
    have f2 : bF (app B h x t) (bM B) = h := if_pos rfl
    have o1 : ∀ i, i < bM B → bO (app B h x t) i = bO B i := fun i hi => if_neg (by omega)
    have o2 : bO (app B h x t) (bM B) = x := if_pos rfl
    have hm : bM (app B h x t) = bM B + 1 := rfl
    refine ⟨⟨by omega, by rw [q1 0 b1]; exact b2⟩, fun i hi => ?_, fun i j h1 h2 => ?_, fun i h1 h2 => ?_, fun i j h1 h2 h3 => ?_⟩
    · by_cases ei : i = bM B
      · rw [ei, q2]; exact c1.vs hX (b3 h hh)
      · rw [q1 i (by omega)]; exact b3 i (by omega)
    · by_cases ej : j = bM B
      · rw [ej, q2, q1 i (by omega)]; exact fun z => c2 ⟨i, by omega, z⟩
      · rw [q1 i (by omega), q1 j (by omega)]; exact b4 i j h1 (by omega)
    · by_cases ei : i = bM B
      · rw [ei, f2, q2, o2, q1 h hh]; exact ⟨⟨hh, Nat.le_refl h⟩, c1⟩
      · have := b5 i h1 (by omega)
        rw [f1 i (by omega), q1 i (by omega), o1 i (by omega), q1 _ (by omega)]
        exact this
    · by_cases ej : j = bM B
      · rw [ej, f2]
        by_cases ei : i = bM B
        · rw [ei, f2]; exact Nat.le_refl h
        · rw [f1 i (by omega)]; exact (b5 i h1 (by omega)).1.2
      · rw [f1 i (by omega), f1 j (by omega)]; exact b6 i j h1 h2 (by omega)
  · rw [e]; exact hB
theorem stg_puts {X : CX} (hX : CXok X) {B : BB} {h : Nat} (hB : BI X B h) (hh : h < bM B) : ∀ c, BI X (putsF X B h c) h ∧ Pre B (putsF X B h c) := by
  intro c
  induction c with
  | zero => exact ⟨hB, Pre.rf⟩
  | succ c ih => exact ⟨ih.1.off hX (Nat.lt_of_lt_of_le hh ih.2.1) _, ih.2.tr (Pre.off hX _ _ _)⟩
theorem stg_lifts {X : CX} (hX : CXok X) {B : BB} {h : Nat} (hB : BI X B h) (hh : h < bM B) : ∀ c, BI X (liftsF X B h c) h ∧ Pre B (liftsF X B h c) := by
  intro c
  induction c with
  | zero => exact ⟨hB, Pre.rf⟩
  | succ c ih => exact ⟨ih.1.off hX (Nat.lt_of_lt_of_le hh ih.2.1) _, ih.2.tr (Pre.off hX _ _ _)⟩
theorem stg_sl {X : CX} (hX : CXok X) {B : BB} {h : Nat} (hB : BI X B h) (hh : h < bM B) (c : Nat) : ∀ p, BI X (slF X B h c p) h ∧ Pre B (slF X B h c p) := by
  intro p
  induction p with
  | zero => exact ⟨hB, Pre.rf⟩
  | succ p ih => exact ⟨ih.1.off hX (Nat.lt_of_lt_of_le hh ih.2.1) _, ih.2.tr (Pre.off hX _ _ _)⟩
theorem stg_slides {X : CX} (hX : CXok X) {B : BB} {h : Nat} (hB : BI X B h) (hh : h < bM B) : ∀ c, BI X (slidesF X B h c) h ∧ Pre B (slidesF X B h c) := by
  intro c
  induction c with
  | zero => exact ⟨hB, Pre.rf⟩
  | succ c ih =>
    obtain ⟨a, b⟩ := stg_sl hX ih.1 (Nat.lt_of_lt_of_le hh ih.2.1) c 18
    exact ⟨a, ih.2.tr b⟩
theorem stg {X : CX} (hX : CXok X) {B : BB} {h : Nat} (hB : BI X B h) (hh : h < bM B) : BI X (expand X B h) h ∧ Pre B (expand X B h) := by
  obtain ⟨a1, a2⟩ := stg_puts hX hB hh (cN X)
  obtain ⟨b1, b2⟩ := stg_lifts hX a1 (Nat.lt_of_lt_of_le hh a2.1) (cN X)
  obtain ⟨c1, c2⟩ := stg_slides hX b1 (Nat.lt_of_lt_of_le hh (a2.tr b2).1) (cN X)
  exact ⟨c1, (a2.tr b2).tr c2⟩
/-- a stand of the list where nothing is lost -/
def Gl (B : BB) : Prop := ∃ i, i < bM B ∧ (bQ B i).1.2 = 0
def Stop (X : CX) (H : Nat) : Prop := (∀ h, h < H → h < bM (bst X h) ∧ ¬ Gl (bst X h)) ∧ (bM (bst X H) ≤ H ∨ Gl (bst X H))
theorem Stop.uniq {X : CX} {H G : Nat} (h1 : Stop X H) (h2 : Stop X G) : H = G := by
  rcases Nat.lt_trichotomy H G with l | l | l
  · obtain ⟨a, b⟩ := h2.1 H l
    rcases h1.2 with z | z
    · omega
    · exact absurd z b
  · exact l
  · obtain ⟨a, b⟩ := h1.1 G l
    rcases h2.2 with z | z
    · omega
    · exact absurd z b
theorem bst_ok {X : CX} (hX : CXok X) : ∀ H, (∀ h, h < H → h < bM (bst X h)) → BI X (bst X H) H := by
  intro H
  induction H with
  | zero => intro _; exact BI0 hX
  | succ H ih =>
    intro hH
    exact (stg hX (ih fun h hh => hH h (by omega)) (hH H (by omega))).1.up (by omega)
