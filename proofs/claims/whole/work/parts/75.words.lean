/-! ===== how many stands there are, by words ===== -/
theorem pigA {α : Type} [DecidableEq α] : ∀ (M : Nat) (f : Nat → α) (L : List α), (∀ i, i < M → f i ∈ L) → (∀ i j, i < j → j < M → f i ≠ f j) → M ≤ L.length := by
  intro M
  induction M with
  | zero => intro f L _ _; exact Nat.zero_le _
  | succ M ih =>
    intro f L h1 h2
    have a := h1 M (by omega)
    have e : (L.erase (f M)).length = L.length - 1 := List.length_erase_of_mem a
    have hp : 0 < L.length := List.length_pos_of_mem a
    have := ih f (L.erase (f M)) (fun i hi => (List.mem_erase_of_ne (h2 i M hi (by omega))).mpr (h1 i (by omega))) (fun i j h3 h4 => h2 i j h3 (by omega))
    omega
def zs : Nat → List Nat → List Nat
  | 0, _ => [0, 1]
  | i + 1, D => if 2 ≤ D.getD i 9 then [0, 1] else [D.getD i 9]
def fe : List Nat → Nat → List (List Nat)
  | [], _ => [[]]
  | a :: ws, r => ((fe ws r).flatMap fun D => (zs a D).map fun z => z :: D) ++ ((if 1 ≤ r then (fe ws (r - 1)).map fun D => 2 :: D else []) ++ ((if 2 ≤ r then (fe ws (r - 2)).map fun D => 4 :: D else []) ++ (if 3 ≤ r then (fe ws (r - 3)).map fun D => 6 :: D else [])))
/-- a passage between two caves -/
def Adj (E : Gr) (a b : Nat) : Prop := ∃ p, E p = some (a, b) ∨ E p = some (b, a)
theorem Adj.sy {E : Gr} {a b : Nat} (h : Adj E a b) : Adj E b a := by
  obtain ⟨p, h | h⟩ := h
  · exact ⟨p, Or.inr h⟩
  · exact ⟨p, Or.inl h⟩
def Wd_ (E : Gr) : List Nat → List Nat → Prop
  | [], [] => True
  | a :: ws, v :: vs => (a = 0 ∨ ∃ i x, a = i + 1 ∧ vs[i]? = some x ∧ Adj E v x) ∧ Wd_ E ws vs
  | _, _ => False
def dg (s : Std) (v : Nat) : Nat := 2 * s.1 v + (if bt s.2 v = true then 1 else 0)
def sumL (m : Nat → Nat) : List Nat → Nat
  | [] => 0
  | v :: vs => m v + sumL m vs
theorem fe_in {n : Nat} {E : Gr} {s : Std} (hs : SO n E s) : ∀ (ws vs : List Nat) (r : Nat), Wd_ E ws vs → sumL s.1 vs ≤ r → r ≤ 3 → vs.map (dg s) ∈ fe ws r := by
  intro ws
  induction ws with
  | nil =>
    intro vs r hw _ _
    cases vs with
    | nil => exact List.mem_singleton.mpr rfl
    | cons v vs => exact hw.elim
  | cons a ws ih =>
    intro vs r hw hr h3
    cases vs with
    | nil => exact hw.elim
    | cons v vs =>
      obtain ⟨hw1, hw2⟩ := hw
      have hr' : s.1 v + sumL s.1 vs ≤ r := hr
      have hi := ih vs (r - s.1 v) hw2 (by omega) (by omega)
      have h0 : s.1 v = 0 ∨ s.1 v = 1 ∨ s.1 v = 2 ∨ s.1 v = 3 := by omega
      have nb : s.1 v ≠ 0 → bt s.2 v = false := fun z => by
        cases hb : bt s.2 v with
        | false => rfl
        | true => exact absurd (hs.2.1 v hb).2 z
      show dg s v :: vs.map (dg s) ∈ ((fe ws r).flatMap fun D => (zs a D).map fun z => z :: D) ++ _
      simp only [List.mem_append]
      rcases h0 with h0 | h0 | h0 | h0 <;> rw [h0] at hi
      · left
        rw [List.mem_flatMap]
        refine ⟨_, hi, ?_⟩
        rw [List.mem_map]
        refine ⟨dg s v, ?_, rfl⟩
        have hd : dg s v = if bt s.2 v = true then 1 else 0 := by unfold dg; rw [h0]; omega
        have d01 : dg s v = 0 ∨ dg s v = 1 := by rw [hd]; split <;> simp
        have m01 : dg s v ∈ [0, 1] := by rcases d01 with z | z <;> rw [z] <;> simp
        rcases hw1 with z | ⟨i, x, z1, z2, z3⟩
        · rw [z]; exact m01
        · rw [z1]
          have e : (vs.map (dg s)).getD i 9 = dg s x := by
            rw [List.getD_eq_getElem?_getD, List.getElem?_map, z2]; rfl
          show dg s v ∈ if 2 ≤ (vs.map (dg s)).getD i 9 then [0, 1] else [(vs.map (dg s)).getD i 9]
          rw [e]
          by_cases h2 : 2 ≤ dg s x
          · rw [if_pos h2]; exact m01
          · rw [if_neg h2]
            have hx0 : s.1 x = 0 := by unfold dg at h2; omega
            have hdx : dg s x = if bt s.2 x = true then 1 else 0 := by unfold dg; rw [hx0]; omega
            have hbb : bt s.2 v = true ↔ bt s.2 x = true := by
              obtain ⟨p, hp | hp⟩ := z3
              · exact hs.2.2.1 p v x hp h0 hx0
              · exact (hs.2.2.1 p x v hp hx0 h0).symm
            have : dg s v = dg s x := by
              rw [hd, hdx]
              by_cases hb : bt s.2 v = true
              · rw [if_pos hb, if_pos (hbb.mp hb)]
              · rw [if_neg hb, if_neg (fun z => hb (hbb.mpr z))]
            rw [this]; exact List.mem_singleton.mpr rfl
      · right; left
        rw [if_pos (show 1 ≤ r by omega), List.mem_map]
        refine ⟨_, hi, ?_⟩
        unfold dg; rw [h0, nb (by omega)]; simp
      · right; right; left
        rw [if_pos (show 2 ≤ r by omega), List.mem_map]
        refine ⟨_, hi, ?_⟩
        unfold dg; rw [h0, nb (by omega)]; simp
      · right; right; right
        rw [if_pos (show 3 ≤ r by omega), List.mem_map]
        refine ⟨_, hi, ?_⟩
        unfold dg; rw [h0, nb (by omega)]; simp
theorem sumL_le {n : Nat} : ∀ (vs : List Nat) (m : Nat → Nat), vs.Nodup → (∀ v ∈ vs, v < n) → sumL m vs ≤ tot n m := by
  intro vs
  induction vs with
  | nil => intro m _ _; exact Nat.zero_le _
  | cons v vs ih =>
    intro m hd hv
    rw [List.nodup_cons] at hd
    have h1 := ih (up1 m v 0) hd.2 (fun w hw => hv w (List.mem_cons_of_mem _ hw))
    have h2 := tot_up (men := m) (v := 0) (hv v List.mem_cons_self)
    have h3 : ∀ ws : List Nat, v ∉ ws → sumL (up1 m v 0) ws = sumL m ws := by
      intro ws
      induction ws with
      | nil => intro _; rfl
      | cons w ws iw =>
        intro hw
        rw [List.mem_cons, not_or] at hw
        show up1 m v 0 w + sumL (up1 m v 0) ws = m w + sumL m ws
        rw [up1_o _ _ (fun z => hw.1 z.symm), iw hw.2]
    rw [h3 vs hd.1] at h1
    show m v + sumL m vs ≤ _
    omega
/-- different stands, told apart by the caves of a word -/
theorem cntL {X : CX} (hX : CXok X) {M : Nat} {Q : Nat → BS} (hv : ∀ i, i < M → VS X (Q i)) {ws vs : List Nat} (hw : Wd_ (cE X) ws vs) (hd : vs.Nodup) (hn : ∀ v ∈ vs, v < cN X) (hne : ∀ i j, i < j → j < M → ∃ v ∈ vs, dg (Q i).1 v ≠ dg (Q j).1 v) : M ≤ (fe ws 3).length := by
  refine pigA M (fun i => vs.map (dg (Q i).1)) (fe ws 3) (fun i hi => ?_) (fun i j h1 h2 z => ?_)
  · have v := hv i hi
    have hk := hX.2.1.2
    have := sumL_le vs (Q i).1.1 hd hn
    have := v.2.1
    exact fe_in v.1 ws vs 3 hw (by omega) (Nat.le_refl 3)
  · obtain ⟨v, v1, v2⟩ := hne i j h1 h2
    exact v2 (List.map_inj_left.mp z v v1)
def W33 : List (List Nat) := [[1, 0, 1, 0, 1, 0]] ++ (([1, 2, 3, 4].flatMap fun a => [2, 3, 4, 5].map fun b => [b, a, 1, 0, 1, 0]) ++ ([1, 2].flatMap fun a => [2, 3].flatMap fun b => [3, 4].flatMap fun c => [4, 5].map fun d => [d, c, b, a, 1, 0]))
set_option maxRecDepth 100000 in
theorem w33_le : (W33.all fun w => Nat.ble (fe w 3).length 588) = true := by decide +kernel
set_option maxRecDepth 100000 in
theorem w5_le : (fe [0, 0, 0, 0, 0] 3).length ≤ 552 := by decide +kernel
set_option maxRecDepth 100000 in
theorem w0_le : ((fe [0] 3).length ≤ 552 ∧ (fe [0, 0] 3).length ≤ 552) ∧ (fe [0, 0, 0] 3).length ≤ 552 ∧ (fe [0, 0, 0, 0] 3).length ≤ 552 := by decide +kernel
