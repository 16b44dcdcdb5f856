/-! ===== THE INVARIANT ===== -/
abbrev Std : Type := (Nat → Nat) × Int32
abbrev Ord_ : Type := Nat × Nat × Nat
/-- a stand: nobody outside, the lost caves are caves without searchers, alike over an open passage -/
def SO (n : Nat) (E : Gr) (s : Std) : Prop := (∀ c, n ≤ c → s.1 c = 0) ∧ (∀ i, bt s.2 i = true → i < n ∧ s.1 i = 0) ∧ (∀ p a b, E p = some (a, b) → s.1 a = 0 → s.1 b = 0 → (bt s.2 a = true ↔ bt s.2 b = true)) ∧ tot n s.1 ≤ 9
def std0 (n : Nat) : Std := (fun _ => 0, all_ n)
/-- an order done: PUT 0, LIFT 1, SLIDE 2 -/
def Tr (n : Nat) (E : Gr) (o : Ord_) (s t : Std) : Prop :=
  (o.1 = 0 ∧ o.2.1 < n ∧ t.1 = up1 s.1 o.2.1 (s.1 o.2.1 + 1) ∧ LeO E t.1 (fun i => bt s.2 i = true) (fun p => nI p = -1) (fun i => bt t.2 i = true)) ∨
  (o.1 = 1 ∧ o.2.1 < n ∧ 0 < s.1 o.2.1 ∧ t.1 = up1 s.1 o.2.1 (s.1 o.2.1 - 1) ∧ LeO E t.1 (fun i => bt s.2 i = true) (fun p => nI p = -1) (fun i => bt t.2 i = true)) ∨
  (o.1 = 2 ∧ 0 < s.1 o.2.1 ∧ ∃ d, (E o.2.2 = some (o.2.1, d) ∨ E o.2.2 = some (d, o.2.1)) ∧ t.1 = up1 (up1 s.1 o.2.1 (s.1 o.2.1 - 1)) d (s.1 d + 1) ∧ LeO E t.1 (fun i => bt s.2 i = true) (fun p => nI p = nI o.2.2) (fun i => bt t.2 i = true))
def HI (n : Nat) (E : Gr) (K : Nat) (S : Nat → Std) (O : Nat → Ord_) : Prop := K ≤ 200 ∧ S 0 = std0 n ∧ (∀ j, j ≤ K → SO n E (S j)) ∧ ∀ j, j < K → Tr n E (O j) (S j) (S (j + 1))
def mxT (n : Nat) (S : Nat → Std) : Nat → Nat
  | 0 => tot n (S 0).1
  | j + 1 => if mxT n S j < tot n (S (j + 1)).1 then tot n (S (j + 1)).1 else mxT n S j
/-- the class's stand now -/
def XN (σ : Sg) (n : Nat) (s : Std) : Prop := (∀ c, c < 12 → σ.2.1 13 c = nI (s.1 c)) ∧ σ.1 5 = nI (tot n s.1) ∧ (∀ i, bt (σ.1 6) i = true ↔ (i < n ∧ 0 < s.1 i)) ∧ σ.1 7 = s.2
/-- the class's orders done -/
def XH (σ : Sg) (n K : Nat) (S : Nat → Std) (O : Nat → Ord_) : Prop := σ.1 3 = nI K ∧ σ.1 4 = nI (mxT n S K) ∧ ∀ j, j < K → (σ.2.1 7 j = nI (O j).1 ∨ ((O j).1 = 2 ∧ σ.2.1 7 j = 3)) ∧ σ.2.1 8 j = nI (O j).2.1 ∧ ((O j).1 = 2 → σ.2.1 9 j = nI (O j).2.2) ∧ σ.2.1 10 j = (S j).2 ∧ σ.2.1 11 j = nI (mxT n S j)
/-- the reference's orders done and stands -/
def MH (σ : Sg) (E : Gr) (K : Nat) (S : Nat → Std) (O : Nat → Ord_) : Prop := σ.1 25 = nI K ∧ (∀ j, j ≤ K → (∀ c, c < 12 → σ.2.1 33 (12 * j + c) = nI ((S j).1 c)) ∧ σ.2.1 34 j = (S j).2 ∧ ∀ i, bt (σ.2.1 35 j) i = true ↔ PO E (fun i => bt (S j).2 i = true) i) ∧ ∀ j, j < K → σ.2.1 30 j = nI (O j).1 ∧ σ.2.1 31 j = nI (O j).2.1
/-- the layout -/
def LY (n : Nat) (row : Nat → Nat) : Prop := (∀ i, i < n → row i < n) ∧ ∀ c, c < n → ∃ i, i < n ∧ row i = c
def LR (σ : Sg) (k : Nat) (row : Nat → Nat) : Prop := ∀ i, i < 12 → σ.2.1 k i = nI (row i) ∧ row i < 12
/-- the plan -/
def PL (σ : Sg) (wn : Option Nat) : Prop := match wn with
  | none => σ.1 28 = -1
  | some N => σ.1 28 = nI N ∧ N ≤ 600 ∧ ∀ i, i < N → ∃ o c p, o ≤ 2 ∧ c < 6 ∧ p < 19 ∧ (o = 2 ↔ 0 < p) ∧ σ.2.1 43 i = nI (1024 * o + 32 * c + p) ∧ σ.2.1 40 i = nI (512 * o + 32 * c + (if p = 0 then 31 else p - 1))
def MO (σ : Sg) (n mo : Nat) : Prop := σ.1 2 = nI mo ∧ σ.1 22 = nI mo ∧ mo < 12 ∧ (mo < n ∨ mo = 0)
def InvD (σ : Sg) (wn : Option Nat) (n : Nat) (E : Gr) (mo : Nat) (row : Nat → Nat) (K : Nat) (S : Nat → Std) (O : Nat → Ord_) : Prop :=
  GC σ n E ∧ GM σ n E ∧ MO σ n mo ∧ LY n row ∧ LR σ 15 row ∧ LR σ 28 row ∧ HI n E K S O ∧ XN σ n (S K) ∧ XH σ n K S O ∧ MH σ E K S O ∧ PL σ wn
def Inv_ (σ : Sg) (wn : Option Nat) : Prop := ∃ n E mo row K S O, InvD σ wn n E mo row K S O
theorem SO0 {n : Nat} {E : Gr} (h : GrOk n E) : SO n E (std0 n) := by
  refine ⟨fun _ _ => rfl, fun i hi => ⟨(all_bt h.1 i).mp hi, rfl⟩, fun p a b hp _ _ => ?_, by show tot n (fun _ => 0) ≤ 9; rw [tot_0]; omega⟩
  obtain ⟨h1, h2, h3⟩ := h.2 p a b hp
  show bt (all_ n) a = true ↔ bt (all_ n) b = true
  rw [all_bt h.1, all_bt h.1]; omega
theorem HI0 {n : Nat} {E : Gr} (h : GrOk n E) : HI n E 0 (fun _ => std0 n) (fun _ => (0, 0, 0)) := ⟨by omega, rfl, fun _ _ => SO0 h, fun j hj => by omega⟩
/-- the first state -/
theorem inv0 : Inv_ s0_ none := by
  have hg : GrOk 0 (fun _ => none) := ⟨by omega, fun p a b h => by cases h⟩
  refine ⟨0, fun _ => none, 0, fun _ => 0, 0, fun _ => std0 0, fun _ => (0, 0, 0), ⟨hg, nI_0.symm, fun p => b_0 p, fun p a b h => by (cases h), fun c hc p => ?_, fun c hc d => ?_⟩, ⟨hg, nI_0.symm, fun p hp => rfl, fun p a b h => by (cases h)⟩, ⟨nI_0.symm, nI_0.symm, by omega, Or.inr rfl⟩, ⟨fun i hi => by omega, fun c hc => by omega⟩, fun i hi => ⟨nI_0.symm, Nat.succ_pos 11⟩, fun i hi => ⟨nI_0.symm, Nat.succ_pos 11⟩, HI0 hg, ⟨fun c hc => nI_0.symm, nI_0.symm, fun i => ?_, ?_⟩, ⟨nI_0.symm, nI_0.symm, fun j hj => by omega⟩, ⟨nI_0.symm, fun j hj => ⟨fun c hc => nI_0.symm, ?_, fun i => ?_⟩, fun j hj => by omega⟩, rfl⟩
  · show bt 0 p = true ↔ _
    rw [b_0]; exact ⟨fun h => (by cases h), fun ⟨a, b, h, _⟩ => by cases h⟩
  · show bt 0 d = true ↔ _
    rw [b_0]; exact ⟨fun h => (by cases h), fun ⟨q, a, b, h, _⟩ => by cases h⟩
  · show bt 0 i = true ↔ _
    rw [b_0]; exact ⟨fun h => (by cases h), fun h => by omega⟩
  · show (0 : Int32) = all_ 0
    decide
  · show (0 : Int32) = all_ 0
    decide
  · show bt 0 i = true ↔ _
    rw [b_0]; exact ⟨fun h => (by cases h), fun ⟨a, b, h, _⟩ => by cases h⟩
