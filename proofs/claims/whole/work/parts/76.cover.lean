/-! ===== six caves, each with a passage: a word of W33 ===== -/
def Cv (a b c d e f : Nat) : Prop := (a < 6 ∧ b < 6 ∧ c < 6 ∧ d < 6 ∧ e < 6 ∧ f < 6) ∧ (a ≠ b ∧ a ≠ c ∧ a ≠ d ∧ a ≠ e ∧ a ≠ f ∧ b ≠ c ∧ b ≠ d ∧ b ≠ e ∧ b ≠ f ∧ c ≠ d ∧ c ≠ e ∧ c ≠ f ∧ d ≠ e ∧ d ≠ f ∧ e ≠ f) ∧ ∀ v, v < 6 → v = a ∨ v = b ∨ v = c ∨ v = d ∨ v = e ∨ v = f
theorem Cv.cov {a b c d e f : Nat} (h : Cv a b c d e f) : ∀ v, v < 6 → v = a ∨ v = b ∨ v = c ∨ v = d ∨ v = e ∨ v = f := h.2.2
theorem Cv.cd {a b c d e f : Nat} (h : Cv a b c d e f) : Cv a b d c e f := by
  obtain ⟨⟨l1, l2, l3, l4, l5, l6⟩, ⟨h1, h2, h3, h4, h5, h6, h7, h8, h9, h10, h11, h12, h13, h14, h15⟩, hc⟩ := h
  refine ⟨⟨l1, l2, l4, l3, l5, l6⟩, ⟨h1, h3, h2, h4, h5, h7, h6, h8, h9, h10.symm, h13, h14, h11, h12, h15⟩, fun v hv => ?_⟩
  rcases hc v hv with z | z | z | z | z | z <;> simp [z]
theorem Cv.de {a b c d e f : Nat} (h : Cv a b c d e f) : Cv a b c e d f := by
  obtain ⟨⟨l1, l2, l3, l4, l5, l6⟩, ⟨h1, h2, h3, h4, h5, h6, h7, h8, h9, h10, h11, h12, h13, h14, h15⟩, hc⟩ := h
  refine ⟨⟨l1, l2, l3, l5, l4, l6⟩, ⟨h1, h2, h4, h3, h5, h6, h8, h7, h9, h11, h10, h12, h13.symm, h15, h14⟩, fun v hv => ?_⟩
  rcases hc v hv with z | z | z | z | z | z <;> simp [z]
theorem Cv.ef {a b c d e f : Nat} (h : Cv a b c d e f) : Cv a b c d f e := by
  obtain ⟨⟨l1, l2, l3, l4, l5, l6⟩, ⟨h1, h2, h3, h4, h5, h6, h7, h8, h9, h10, h11, h12, h13, h14, h15⟩, hc⟩ := h
  refine ⟨⟨l1, l2, l3, l4, l6, l5⟩, ⟨h1, h2, h3, h5, h4, h6, h7, h9, h8, h10, h12, h11, h14, h13, h15.symm⟩, fun v hv => ?_⟩
  rcases hc v hv with z | z | z | z | z | z <;> simp [z]
theorem Cv.nd5 {a b c d e f : Nat} (h : Cv a b c d e f) : [b, c, d, e, f].Nodup := by
  obtain ⟨-, ⟨h1, h2, h3, h4, h5, h6, h7, h8, h9, h10, h11, h12, h13, h14, h15⟩, -⟩ := h
  simp only [List.nodup_cons, List.mem_cons, List.not_mem_nil, or_false, not_or, List.nodup_nil, and_true, not_false_eq_true]
  exact ⟨⟨h6, h7, h8, h9⟩, ⟨h10, h11, h12⟩, ⟨h13, h14⟩, h15⟩
theorem cv_ex : ∀ a b : Nat, a < 6 → b < 6 → a ≠ b → ∃ c d e f, Cv a b c d e f := by
  intro a b ha hb hab
  unfold Cv
  rcases c6 ha with rfl | rfl | rfl | rfl | rfl | rfl <;> rcases c6 hb with rfl | rfl | rfl | rfl | rfl | rfl <;> first
    | exact absurd rfl hab
    | exact ⟨0, 1, 2, 3, by decide⟩
    | exact ⟨0, 1, 2, 4, by decide⟩
    | exact ⟨0, 1, 2, 5, by decide⟩
    | exact ⟨0, 1, 3, 4, by decide⟩
    | exact ⟨0, 1, 3, 5, by decide⟩
    | exact ⟨0, 1, 4, 5, by decide⟩
    | exact ⟨0, 2, 3, 4, by decide⟩
    | exact ⟨0, 2, 3, 5, by decide⟩
    | exact ⟨0, 2, 4, 5, by decide⟩
    | exact ⟨0, 3, 4, 5, by decide⟩
    | exact ⟨1, 2, 3, 4, by decide⟩
    | exact ⟨1, 2, 3, 5, by decide⟩
    | exact ⟨1, 2, 4, 5, by decide⟩
    | exact ⟨1, 3, 4, 5, by decide⟩
    | exact ⟨2, 3, 4, 5, by decide⟩
def Res (E : Gr) : Prop := ∃ ws, ws ∈ W33 ∧ ∃ vs, Wd_ E ws vs ∧ vs.Nodup ∧ (∀ v ∈ vs, v < 6) ∧ ∀ v, v < 6 → v ∈ vs
theorem res_of {E : Gr} {a b c d e f : Nat} (h : Cv a b c d e f) {ws : List Nat} (hw : ws ∈ W33) (hW : Wd_ E ws [f, e, d, c, b, a]) : Res E := by
  refine ⟨ws, hw, _, hW, ?_, ?_, ?_⟩
  · obtain ⟨-, ⟨h1, h2, h3, h4, h5, h6, h7, h8, h9, h10, h11, h12, h13, h14, h15⟩, -⟩ := h
    simp only [List.nodup_cons, List.mem_cons, List.not_mem_nil, or_false, not_or, List.nodup_nil, and_true, not_false_eq_true]
    refine ⟨⟨h15.symm, h14.symm, h12.symm, h9.symm, h5.symm⟩, ⟨h13.symm, h11.symm, h8.symm, h4.symm⟩, ⟨h10.symm, h7.symm, h3.symm⟩, ⟨h6.symm, h2.symm⟩, h1.symm⟩
  · intro v hv
    simp only [List.mem_cons, List.not_mem_nil, or_false] at hv
    obtain ⟨⟨h1, h2, h3, h4, h5, h6⟩, -⟩ := h
    rcases hv with rfl | rfl | rfl | rfl | rfl | rfl <;> assumption
  · intro v hv
    simp only [List.mem_cons, List.not_mem_nil, or_false]
    rcases h.cov v hv with z | z | z | z | z | z <;> simp [z]
theorem wd1 {E : Gr} {d c b a e : Nat} {P : Prop} (h : Adj E e d ∨ Adj E e c ∨ Adj E e b ∨ Adj E e a) (k : ∀ i x, i ≤ 3 → [d, c, b, a][i]? = some x → Adj E e x → P) : P := by
  rcases h with h | h | h | h
  · exact k 0 d (by omega) rfl h
  · exact k 1 c (by omega) rfl h
  · exact k 2 b (by omega) rfl h
  · exact k 3 a (by omega) rfl h
theorem w33_a : ∀ i, i < 4 → ∀ j, j < 4 → [j + 2, i + 1, 1, 0, 1, 0] ∈ W33 := by decide +kernel
theorem w33_b (i : Nat) (hi : i < 2) (j : Nat) (hj : j < 2) (k : Nat) (hk : k < 2) (l : Nat) (hl : l < 2) : [l + 4, k + 3, j + 2, i + 1, 1, 0] ∈ W33 := by
  rcases (show i = 0 ∨ i = 1 by omega) with rfl | rfl <;> rcases (show j = 0 ∨ j = 1 by omega) with rfl | rfl <;> rcases (show k = 0 ∨ k = 1 by omega) with rfl | rfl <;> rcases (show l = 0 ∨ l = 1 by omega) with rfl | rfl <;> decide +kernel
theorem w33_c : [1, 0, 1, 0, 1, 0] ∈ W33 := by decide +kernel
/-- two pairs -/
theorem res_2 {E : Gr} (hirr : ∀ a, ¬ Adj E a a) (hnb : ∀ v, v < 6 → ∃ w, w < 6 ∧ Adj E v w) {a b c d e f : Nat} (h : Cv a b c d e f) (h1 : Adj E b a) (h2 : Adj E d c) : Res E := by
  by_cases hef : Adj E f e
  · exact res_of h w33_c ⟨Or.inr ⟨0, e, rfl, rfl, hef⟩, Or.inl rfl, Or.inr ⟨0, c, rfl, rfl, h2⟩, Or.inl rfl, Or.inr ⟨0, a, rfl, rfl, h1⟩, Or.inl rfl, trivial⟩
  · have ne : Adj E e d ∨ Adj E e c ∨ Adj E e b ∨ Adj E e a := by
      obtain ⟨w, w1, w2⟩ := hnb e h.1.2.2.2.2.1
      rcases h.cov w w1 with rfl | rfl | rfl | rfl | rfl | rfl
      · exact Or.inr (Or.inr (Or.inr w2))
      · exact Or.inr (Or.inr (Or.inl w2))
      · exact Or.inr (Or.inl w2)
      · exact Or.inl w2
      · exact absurd w2 (hirr _)
      · exact absurd w2.sy hef
    have nf : Adj E f d ∨ Adj E f c ∨ Adj E f b ∨ Adj E f a := by
      obtain ⟨w, w1, w2⟩ := hnb f h.1.2.2.2.2.2
      rcases h.cov w w1 with rfl | rfl | rfl | rfl | rfl | rfl
      · exact Or.inr (Or.inr (Or.inr w2))
      · exact Or.inr (Or.inr (Or.inl w2))
      · exact Or.inr (Or.inl w2)
      · exact Or.inl w2
      · exact absurd w2 hef
      · exact absurd w2 (hirr _)
    refine wd1 ne fun i x i1 i2 i3 => wd1 nf fun j y j1 j2 j3 => ?_
    exact res_of h (w33_a i (by omega) j (by omega)) ⟨Or.inr ⟨j + 1, y, rfl, j2, j3⟩, Or.inr ⟨i, x, rfl, i2, i3⟩, Or.inr ⟨0, c, rfl, rfl, h2⟩, Or.inl rfl, Or.inr ⟨0, a, rfl, rfl, h1⟩, Or.inl rfl, trivial⟩
theorem res_1 {E : Gr} {a b c d e f : Nat} (h : Cv a b c d e f) (h1 : Adj E b a) (hc : Adj E c b ∨ Adj E c a) (hd : Adj E d b ∨ Adj E d a) (he : Adj E e b ∨ Adj E e a) (hf : Adj E f b ∨ Adj E f a) : Res E := by
  have two : ∀ {v : Nat}, (Adj E v b ∨ Adj E v a) → ∃ i x, i < 2 ∧ [b, a][i]? = some x ∧ Adj E v x := fun {v} z => by
    rcases z with z | z
    · exact ⟨0, b, by omega, rfl, z⟩
    · exact ⟨1, a, by omega, rfl, z⟩
  obtain ⟨i, x, i1, i2, i3⟩ := two hc
  obtain ⟨j, y, j1, j2, j3⟩ := two hd
  obtain ⟨k, z, k1, k2, k3⟩ := two he
  obtain ⟨l, w, l1, l2, l3⟩ := two hf
  exact res_of h (w33_b i i1 j j1 k k1 l l1) ⟨Or.inr ⟨l + 3, w, rfl, l2, l3⟩, Or.inr ⟨k + 2, z, rfl, k2, k3⟩, Or.inr ⟨j + 1, y, rfl, j2, j3⟩, Or.inr ⟨i, x, rfl, i2, i3⟩, Or.inr ⟨0, a, rfl, rfl, h1⟩, Or.inl rfl, trivial⟩
theorem res_ex {E : Gr} (hirr : ∀ a, ¬ Adj E a a) (hnb : ∀ v, v < 6 → ∃ w, w < 6 ∧ Adj E v w) : Res E := by
  obtain ⟨b, hb, hab⟩ := hnb 0 (by omega)
  have h0b : 0 ≠ b := fun z => hirr 0 (by rw [← z] at hab; exact hab)
  obtain ⟨c, d, e, f, h⟩ := cv_ex 0 b (by omega) hb h0b
  have p1 : Cv 0 b c e d f := h.de
  have p2 : Cv 0 b c f d e := h.ef.de
  have p3 : Cv 0 b d e c f := h.cd.de
  have p4 : Cv 0 b d f c e := h.cd.ef.de
  have p5 : Cv 0 b e f c d := h.de.cd.ef.de
  by_cases q0 : Adj E d c
  · exact res_2 hirr hnb h hab.sy q0
  by_cases q1 : Adj E e c
  · exact res_2 hirr hnb p1 hab.sy q1
  by_cases q2 : Adj E f c
  · exact res_2 hirr hnb p2 hab.sy q2
  by_cases q3 : Adj E e d
  · exact res_2 hirr hnb p3 hab.sy q3
  by_cases q4 : Adj E f d
  · exact res_2 hirr hnb p4 hab.sy q4
  by_cases q5 : Adj E f e
  · exact res_2 hirr hnb p5 hab.sy q5
  refine res_1 h hab.sy ?_ ?_ ?_ ?_
  · obtain ⟨w, w1, w2⟩ := hnb c h.1.2.2.1
    rcases h.cov w w1 with z | z | z | z | z | z <;> rw [z] at w2
    · exact Or.inr w2
    · exact Or.inl w2
    · exact absurd w2 (hirr _)
    · exact absurd w2.sy q0
    · exact absurd w2.sy q1
    · exact absurd w2.sy q2
  · obtain ⟨w, w1, w2⟩ := hnb d h.1.2.2.2.1
    rcases h.cov w w1 with z | z | z | z | z | z <;> rw [z] at w2
    · exact Or.inr w2
    · exact Or.inl w2
    · exact absurd w2 q0
    · exact absurd w2 (hirr _)
    · exact absurd w2.sy q3
    · exact absurd w2.sy q4
  · obtain ⟨w, w1, w2⟩ := hnb e h.1.2.2.2.2.1
    rcases h.cov w w1 with z | z | z | z | z | z <;> rw [z] at w2
    · exact Or.inr w2
    · exact Or.inl w2
    · exact absurd w2 q1
    · exact absurd w2 q3
    · exact absurd w2 (hirr _)
    · exact absurd w2.sy q5
  · obtain ⟨w, w1, w2⟩ := hnb f h.1.2.2.2.2.2
    rcases h.cov w w1 with z | z | z | z | z | z <;> rw [z] at w2
    · exact Or.inr w2
    · exact Or.inl w2
    · exact absurd w2 q2
    · exact absurd w2 q4
    · exact absurd w2 q5
    · exact absurd w2 (hirr _)
/-! different stands of a law: at most 588 -/
theorem dg_ne {X : CX} {s t : BS} (hs : VS X s) (ht : VS X t) (e2 : s.2 = t.2) (hne : s ≠ t) {vs : List Nat} (hcov : ∀ v, v < cN X → v ∈ vs ∨ dg s.1 v = dg t.1 v) : ∃ v ∈ vs, dg s.1 v ≠ dg t.1 v := Classical.byContradiction fun z => hne (hs.ext ht (fun c hc => by
    have e : dg s.1 c = dg t.1 c := by
      rcases hcov c hc with y | y
      · exact Classical.byContradiction fun w => z ⟨c, y, w⟩
      · exact y
    unfold dg at e
    cases h1 : bt s.1.2 c <;> cases h2 : bt t.1.2 c <;> simp [h1, h2] at e ⊢ <;> omega) e2)
def Iso (E : Gr) (c : Nat) : Prop := ∀ p a b, E p = some (a, b) → a ≠ c ∧ b ≠ c
theorem cnt_588 {X : CX} (hX : CXok X) {M : Nat} {Q : Nat → BS} (hv : ∀ i, i < M → VS X (Q i)) (h2 : ∀ i j, i < M → j < M → (Q i).2 = (Q j).2) (hne : ∀ i j, i < j → j < M → Q i ≠ Q j) (hc : cN X = 6 → ∀ c, c < 6 → Iso (cE X) c → ∃ e, e < 6 ∧ ∀ i j, i < M → j < M → dg (Q i).1 e = dg (Q j).1 e) : M ≤ 588 := by
  have hn := hX.2.2.2.1
  have hE := hX.2.2.2.2
  by_cases h6 : cN X = 6
  · by_cases hiso : ∃ c, c < 6 ∧ Iso (cE X) c
    · obtain ⟨c, c1, c2⟩ := hiso
      obtain ⟨e, e1, e2⟩ := hc h6 c c1 c2
      obtain ⟨b, hb, hbe⟩ : ∃ b, b < 6 ∧ e ≠ b := by
        by_cases z : e = 0
        · exact ⟨1, by omega, by omega⟩
        · exact ⟨0, by omega, by omega⟩
      obtain ⟨p, q, r, s, hcv⟩ := cv_ex e b e1 hb hbe
      have := cntL hX hv (ws := [0, 0, 0, 0, 0]) (vs := [b, p, q, r, s]) ⟨Or.inl rfl, Or.inl rfl, Or.inl rfl, Or.inl rfl, Or.inl rfl, trivial⟩ hcv.nd5 (by
        intro v hv
        simp only [List.mem_cons, List.not_mem_nil, or_false] at hv
        obtain ⟨⟨l1, l2, l3, l4, l5, l6⟩, -, -⟩ := hcv
        rw [h6]
        rcases hv with rfl | rfl | rfl | rfl | rfl <;> assumption) (fun i j i1 i2 => dg_ne (hv i (by omega)) (hv j i2) (h2 i j (by omega) i2) (hne i j i1 i2) (fun v hv => by
          by_cases z : v = e
          · right; rw [z]; exact e2 i j (by omega) i2
          · left
            simp only [List.mem_cons, List.not_mem_nil, or_false]
            rcases hcv.cov v (by omega) with y | y
            · exact absurd y z
            · exact y))
      have := w5_le
      omega
    · have hres : Res (cE X) := res_ex (fun a ⟨p, hp⟩ => by
        rcases hp with hp | hp <;> have := hE.2 p a a hp <;> omega) (fun v hv => Classical.byContradiction fun z => hiso ⟨v, hv, fun p a b hab => by
        have := hE.2 p a b hab
        constructor
        · rintro rfl; exact z ⟨b, by omega, p, Or.inl hab⟩
        · rintro rfl; exact z ⟨a, by omega, p, Or.inr hab⟩⟩)
      obtain ⟨ws, hw, vs, v1, v2, v3, v4⟩ := hres
      have := cntL hX hv v1 v2 (fun v hv => by rw [h6]; exact v3 v hv) (fun i j i1 i2 => dg_ne (hv i (by omega)) (hv j i2) (h2 i j (by omega) i2) (hne i j i1 i2) (fun v hv => Or.inl (v4 v (by omega))))
      have w := w33_le
      rw [List.all_eq_true] at w
      have := Nat.le_of_ble_eq_true (w ws hw)
      omega
  · have fin : ∀ vs : List Nat, Wd_ (cE X) (vs.map fun _ => 0) vs → vs.Nodup → (∀ v ∈ vs, v < cN X) → (∀ v, v < cN X → v ∈ vs) → M ≤ (fe (vs.map fun _ => 0) 3).length := fun vs v1 v2 v3 v4 => cntL hX hv v1 v2 v3 (fun i j i1 i2 => dg_ne (hv i (by omega)) (hv j i2) (h2 i j (by omega) i2) (hne i j i1 i2) (fun v hv => Or.inl (v4 v hv)))
    have hk : cN X = 1 ∨ cN X = 2 ∨ cN X = 3 ∨ cN X = 4 ∨ cN X = 5 := by omega
    have w5 := w5_le
    obtain ⟨⟨w1, w2⟩, w3, w4⟩ := w0_le
    rcases hk with k | k | k | k | k <;> rw [k] at fin
    · exact Nat.le_trans (fin [0] ⟨Or.inl rfl, trivial⟩ (by decide) (by decide) (by decide)) (Nat.le_trans w1 (by omega))
    · exact Nat.le_trans (fin [0, 1] ⟨Or.inl rfl, Or.inl rfl, trivial⟩ (by decide) (by decide) (by decide)) (Nat.le_trans w2 (by omega))
    · exact Nat.le_trans (fin [0, 1, 2] ⟨Or.inl rfl, Or.inl rfl, Or.inl rfl, trivial⟩ (by decide) (by decide) (by decide)) (Nat.le_trans w3 (by omega))
    · exact Nat.le_trans (fin [0, 1, 2, 3] ⟨Or.inl rfl, Or.inl rfl, Or.inl rfl, Or.inl rfl, trivial⟩ (by decide) (by decide) (by decide)) (Nat.le_trans w4 (by omega))
    · exact Nat.le_trans (fin [0, 1, 2, 3, 4] ⟨Or.inl rfl, Or.inl rfl, Or.inl rfl, Or.inl rfl, Or.inl rfl, trivial⟩ (by decide) (by decide) (by decide)) (Nat.le_trans w5 (by omega))
