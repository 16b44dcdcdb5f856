theorem GrOk.e12 {n : Nat} {E : Gr} (h : GrOk n E) : ∀ p a b, E p = some (a, b) → p < 18 ∧ a < 12 ∧ b < 12 := fun p a b hp => by
  obtain ⟨h1, h2, h3⟩ := h.2 p a b hp
  have := h.1
  omega
def mu_ (x y : Int32) : Nat := cnt 12 (fun i => !bt x i) + cnt 18 (fun i => !bt y i)
theorem mu_lt {x y x' y' : Int32} (hx : ∀ i, bt x i = true → bt x' i = true) (hy : ∀ i, bt y i = true → bt y' i = true) (bx : ∀ i, bt x' i = true → i < 12) (byy : ∀ i, bt y' i = true → i < 18) (h : ¬ (y = y' ∧ x = x')) : mu_ x' y' < mu_ x y := by
  have m1 : cnt 12 (fun i => !bt x' i) ≤ cnt 12 (fun i => !bt x i) := cnt_mono fun i _ hi => by
    cases hb : bt x i
    · rfl
    · rw [hx i hb] at hi; cases hi
  have m2 : cnt 18 (fun i => !bt y' i) ≤ cnt 18 (fun i => !bt y i) := cnt_mono fun i _ hi => by
    cases hb : bt y i
    · rfl
    · rw [hy i hb] at hi; cases hi
  by_cases hxx : x = x'
  · have hyy : ¬ y = y' := fun z => h ⟨z, hxx⟩
    have : ∃ i, bt y' i = true ∧ bt y i = false := by
      refine Classical.byContradiction fun hc => hyy (b_ext' fun i => ⟨hy i, fun hi => ?_⟩)
      cases hb : bt y i with
      | true => rfl
      | false => exact absurd ⟨i, hi, hb⟩ hc
    obtain ⟨i, h1, h2⟩ := this
    have := cnt_lt (n := 18) (p := fun i => !bt y' i) (q := fun i => !bt y i) (fun j _ hj => by
      cases hb : bt y j
      · rfl
      · rw [hy j hb] at hj; cases hj) (byy i h1) (by simp [h1]) (by simp [h2])
    unfold mu_; omega
  · have : ∃ i, bt x' i = true ∧ bt x i = false := by
      refine Classical.byContradiction fun hc => hxx (b_ext' fun i => ⟨hx i, fun hi => ?_⟩)
      cases hb : bt x i with
      | true => rfl
      | false => exact absurd ⟨i, hi, hb⟩ hc
    obtain ⟨i, h1, h2⟩ := this
    have := cnt_lt (n := 12) (p := fun i => !bt x' i) (q := fun i => !bt x i) (fun j _ hj => by
      cases hb : bt x j
      · rfl
      · rw [hx j hb] at hj; cases hj) (bx i h1) (by simp [h1]) (by simp [h2])
    unfold mu_; omega
theorem spd_out {σ : Sg} {n : Nat} {E : Gr} {men : Nat → Nat} (hG : GM σ n E) (hM : MN σ men) {F : Nat} (hF : 40 ≤ F) {X0 Y0 : Nat → Prop} : ∀ (m : Nat) (x y : Int32), mu_ x y + 2 ≤ m → (∀ i, bt x i = true → men i = 0 ∧ i < 12) → (∀ i, bt y i = true → i < 18) → (∀ i, X0 i → bt x i = true) → (∀ i, Y0 i → bt y i = true) → (∀ C P, ClP E men X0 Y0 C P → (∀ i, bt x i = true → C i) ∧ ∀ i, bt y i = true → P i) →
    ∃ x' y', fX7_spreads_2 F m (sx σ x y) 1 = some (0, sx σ x' y') ∧ LeP E men X0 Y0 (fun i => bt x' i = true) (fun i => bt y' i = true) ∧ (∀ i, bt x' i = true → men i = 0 ∧ i < 12) ∧ (∀ i, bt y' i = true → i < 18) := by
  have hE := hG.1.e12
  have hn := hG.1.1
  intro m
  induction m with
  | zero => intro x y h; omega
  | succ m ih =>
    intro x y hm hx hy hx0 hy0 hle
    have e1 : fX7_spreads_2 F (m + 1) (sx σ x y) 1 = fX7_spreads_19 F (fX7_spreads_2 F m) F (sx σ x y) y x 0 := by
      show bX7_spreads_2 F (fX7_spreads_2 F m) (sx σ x y) 1 = _
      unfold bX7_spreads_2
      rw [if_neg (by decide), st2_y, st2_x (by decide)]
    have e2 := spd_c hG hM F (fX7_spreads_2 F m) x y y x (fun c hc => (hx c hc).1) n 0 (by omega) (F - n - 1)
    rw [show n + 1 + (F - n - 1) = F by omega, nI_0] at e2
    have e3 := spd_ps hG hM F (fX7_spreads_2 F m) y x 18 0 x y (by omega) (F - 19)
    rw [show 18 + 1 + (F - 19) = F by omega, nI_0] at e3
    rw [e1, e2, e3]
    obtain ⟨l1, l2⟩ := psX_le E men hE 18 0 (x, y)
    obtain ⟨b1, b2⟩ := psX_men E men hE 18 0 (x, y) (fun i hi => (hx i hi).1) hy
    have b3 := (psX_in E men hE (X0 := fun _ => False) (Y0 := fun _ => False) (C := fun i => i < 12) (P := fun _ => True) ⟨fun _ z => z.elim, fun _ z => z.elim, fun p a b hp => ⟨fun _ _ => (hE p a b hp).2.1, fun _ _ => (hE p a b hp).2.2, fun _ => trivial, fun _ => trivial⟩⟩ 18 0 (x, y) (fun i hi => (hx i hi).2) (fun _ _ => trivial)).1
    have hfix := psX_fix E men hE 18 0 (x, y)
    have hin := fun C P hC => psX_in E men hE (X0 := X0) (Y0 := Y0) (C := C) (P := P) hC 18 0 (x, y) (hle C P hC).1 (hle C P hC).2
    generalize psX E men 18 0 (x, y) = q at *
    obtain ⟨x', y'⟩ := q
    dsimp only at *
    by_cases hs : y = y' ∧ x = x'
    · obtain ⟨rfl, rfl⟩ := hs
      rw [if_pos rfl, if_pos rfl]
      have hm1 : ∃ k, m = k + 1 := ⟨m - 1, by omega⟩
      obtain ⟨k, rfl⟩ := hm1
      refine ⟨x, y, ?_, ⟨⟨hx0, hy0, fun p a b hp => hfix rfl p (by omega) (by have := (hE p a b hp).1; omega) a b hp⟩, hle⟩, hx, hy⟩
      show bX7_spreads_2 F (fX7_spreads_2 F k) (sx σ x y) 0 = _
      unfold bX7_spreads_2
      rw [if_pos rfl]
    · have hfl : (if y = y' then (if x = x' then (0 : Int32) else 1) else 1) = 1 := by
        by_cases h1 : y = y'
        · rw [if_pos h1, if_neg (fun z => hs ⟨h1, z⟩)]
        · rw [if_neg h1]
      rw [hfl]
      have := mu_lt l1 l2 b3 b2 hs
      exact ih x' y' (by omega) (fun i hi => ⟨b1 i hi, b3 i hi⟩) b2 (fun i hi => l1 i (hx0 i hi)) (fun i hi => l2 i (hy0 i hi)) hin
/-- spreads: the least closed pair above what is lost -/
theorem spd {σ : Sg} {n : Nat} {E : Gr} {men : Nat → Nat} (hG : GM σ n E) (hM : MN σ men) {F : Nat} (hF : 40 ≤ F) (x y : Int32) (hx : ∀ i, bt x i = true → men i = 0 ∧ i < 12) (hy : ∀ i, bt y i = true → i < 18) :
    ∃ x' y', fX7_spreads F (sx σ x y) = some (0, sx σ x' y') ∧ LeP E men (fun i => bt x i = true) (fun i => bt y i = true) (fun i => bt x' i = true) (fun i => bt y' i = true) ∧ (∀ i, bt x' i = true → men i = 0 ∧ i < 12) ∧ (∀ i, bt y' i = true → i < 18) := by
  refine spd_out hG hM hF F x y ?_ hx hy (fun _ h => h) (fun _ h => h) (fun C P hC => ⟨hC.1, hC.2.1⟩)
  have h1 := cnt_le 12 (fun i => !bt x i)
  have h2 := cnt_le 18 (fun i => !bt y i)
  unfold mu_
  omega
