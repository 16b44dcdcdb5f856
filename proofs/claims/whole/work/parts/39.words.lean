def Keep (σ σ2 : Sg) (wn wn' : Option Nat) : Prop := (wn' = wn ∧ σ2.2.1 43 = σ.2.1 43 ∧ σ2.2.2 = σ.2.2) ∨ (wn' = none ∧ σ2.2.2 = .null)
def PairOk (Inv : Sg → Option Nat → Prop) (σ : Sg) (wn : Option Nat) (fx fm : Nat → Sg → Rs) : Prop := ∃ (F : Nat) (r : Int32) (σ1 σ2 : Sg) (wn' : Option Nat), fx F σ = some (r, σ1) ∧ fm F σ1 = some (r, σ2) ∧ Inv σ2 wn' ∧ Keep σ σ2 wn wn'
def FewOk (Inv : Sg → Option Nat → Prop) (σ : Sg) (a : Int32) : Prop :=
  (∃ (F : Nat) (r : Int32) (σ1 σ2 : Sg), bX6_few_0 F (fun σ => some (-1, σ)) (fun _ _ => none) (fun σ => some (4, σ)) σ a = some (r, σ1) ∧ fX7_fewest F σ1 a = some (r, σ2) ∧ Inv σ2 none ∧ σ2.2.2 = .null) ∨
  (∃ (F : Nat) (k : Int32) (σ' τ : Sg) (N : Nat), bX6_few_0 F (fun _ => none) (fun σ l2 => some (l2, σ)) (fun _ => none) σ a = some (k, σ') ∧ N ≤ 1604 ∧ fX0_wayA_7 F (fun σ l1 => some (l1, σ)) F σ' 0 (σ'.1 9) = some (nI N, σ') ∧ fX0_wayB_55 N F (fun σ => some (0, σ)) F (sz_ σ') (nI N) (σ'.1 9) = some (0, τ) ∧ ∀ v : Value, ∃ σ2 : Sg, fX7_fewest F (sw τ v) a = some (k, σ2) ∧ Inv σ2 (some N) ∧ σ2.2.1 43 = τ.2.1 43 ∧ σ2.2.2 = v)
def PlanOk (σ : Sg) (wn : Option Nat) (a b : Int32) : Prop := match wn with
  | none => ∃ F : Nat, fX7_plan F σ a b = some (-1, σ)
  | some n => ∃ (F : Nat) (r : Int32), fX6_plan n F σ a b = some (r, σ) ∧ fX7_plan F σ a b = some (r, σ)
def WdM (g : GX) (ad : Nat → Nat) (σ : Sg) (wn : Option Nat) (M : va_W) : Prop := (wn = none ∧ σ.2.2 = .null ∧ ∃ ex, M = HH g ad σ ++ ex) ∨ ∃ n, wn = some n ∧ σ.2.2 = .ref (ad 42) ∧ M = HW g ad σ n
theorem wd_ex {g : GX} {ad : Nat → Nat} {σ : Sg} {wn : Option Nat} {M : va_W} (h : WdM g ad σ wn M) : ∃ ex, M = HH g ad σ ++ ex ∧ ∀ (σ2 : Sg) (wn' : Option Nat), Keep σ σ2 wn wn' → WdM g ad σ2 wn' (HH g ad σ2 ++ ex) := by
  rcases h with ⟨rfl, h1, ex, rfl⟩ | ⟨n, rfl, h1, rfl⟩
  · refine ⟨ex, rfl, fun σ2 wn' hk => ?_⟩
    rcases hk with ⟨rfl, -, h2⟩ | ⟨rfl, h2⟩
    · exact Or.inl ⟨rfl, h2.trans h1, ex, rfl⟩
    · exact Or.inl ⟨rfl, h2, ex, rfl⟩
  · refine ⟨_, rfl, fun σ2 wn' hk => ?_⟩
    rcases hk with ⟨rfl, h3, h2⟩ | ⟨rfl, h2⟩
    · exact Or.inr ⟨n, rfl, h2.trans h1, by unfold HW; rw [h3]⟩
    · exact Or.inl ⟨rfl, h2, _, rfl⟩
