/-! ===== judge ===== -/
def SL (O : Nat → Ord_) (j : Nat) : Prop := ∃ i, i < j ∧ (O i).1 = 2
def Al (L mo : Nat) (o : Ord_) (sl : Prop) : Prop := L = 0 ∨ (o.1 ≠ 1 ∧ (o.1 = 0 → (L = 1 → ¬ sl) ∧ (L = 2 → o.2.1 = mo)))
def Gd (n : Nat) (E : Gr) (mo L : Nat) (S : Nat → Std) (O : Nat → Ord_) (J : Nat) : Prop := ∀ j, j < J → (S j).2 ≠ 0 ∧ Al L mo (O j) (SL O j) ∧ (L = 2 → Hang n E mo (S (j + 1)).1 (fun i => bt (S (j + 1)).2 i = true))
theorem Gd.s {n : Nat} {E : Gr} {mo L : Nat} {S : Nat → Std} {O : Nat → Ord_} {J : Nat} : Gd n E mo L S O (J + 1) ↔ (Gd n E mo L S O J ∧ (S J).2 ≠ 0 ∧ Al L mo (O J) (SL O J) ∧ (L = 2 → Hang n E mo (S (J + 1)).1 (fun i => bt (S (J + 1)).2 i = true))) := by
  constructor
  · intro h; exact ⟨fun j hj => h j (by omega), h J (by omega)⟩
  · rintro ⟨h1, h2⟩ j hj
    by_cases h : j = J
    · subst h; exact h2
    · exact h1 j (by omega)
theorem SL.s {O : Nat → Ord_} {j : Nat} : SL O (j + 1) ↔ (SL O j ∨ (O j).1 = 2) := by
  constructor
  · rintro ⟨i, h1, h2⟩
    by_cases h : i = j
    · subst h; exact Or.inr h2
    · exact Or.inl ⟨i, by omega, h2⟩
  · rintro (⟨i, h1, h2⟩ | h)
    · exact ⟨i, by omega, h2⟩
    · exact ⟨j, by omega, h⟩
theorem Tr.o2 {n : Nat} {E : Gr} {o : Ord_} {s t : Std} (h : Tr n E o s t) : o.1 ≤ 2 := by
  rcases h with ⟨h, -⟩ | ⟨h, -⟩ | ⟨h, -⟩ <;> omega
theorem Tr.cn {n : Nat} {E : Gr} (hE : GrOk n E) {o : Ord_} {s t : Std} (h : Tr n E o s t) : o.2.1 < n := by
  rcases h with ⟨-, h, -⟩ | ⟨-, h, -⟩ | ⟨-, -, d, h, -⟩
  · exact h
  · exact h
  · rcases h with h | h
    · have := hE.2 _ _ _ h; omega
    · have := hE.2 _ _ _ h; omega
/-- allows, in the class -/
theorem xallow (F : Nat) {σ : Sg} {mo L : Nat} (h2 : σ.1 2 = nI mo) (hmo : mo < 12) (hL : L ≤ 2) {o : Ord_} (ho : o.1 ≤ 2) (hc : o.2.1 < 12) {wh : Int32} (hwh : wh = nI o.1 ∨ (o.1 = 2 ∧ wh = 3)) {sl : Int32} {P : Prop} (hs : Tf sl P) : ∃ r, fX1_allows F σ (nI L) wh (nI o.2.1) sl = some (r, σ) ∧ Tf r (Al L mo o P) := by
  have w0 : wh = 0 ↔ o.1 = 0 := by
    rcases hwh with rfl | ⟨h1, rfl⟩
    · rw [← nI_0, nI_eq (by omega) (by omega)]
    · rw [h1]; decide
  have w1 : wh = 1 ↔ o.1 = 1 := by
    rcases hwh with rfl | ⟨h1, rfl⟩
    · rw [show (1 : Int32) = nI 1 by decide, nI_eq (by omega) (by omega)]
    · rw [h1]; decide
  have l0 : nI L = 0 ↔ L = 0 := by rw [← nI_0, nI_eq (by omega) (by omega)]
  have l1 : nI L = 1 ↔ L = 1 := by rw [show (1 : Int32) = nI 1 by decide, nI_eq (by omega) (by omega)]
  have cm : nI o.2.1 = nI mo ↔ o.2.1 = mo := nI_eq (by omega) (by omega)
  unfold fX1_allows
  rw [h2]
  simp only [w0, w1, l0, l1, cm]
  by_cases a0 : L = 0
  · rw [if_pos a0]; exact ⟨1, rfl, Tf.yes (Or.inl a0)⟩
  · rw [if_neg a0]
    by_cases b1 : o.1 = 1
    · rw [if_pos b1]; exact ⟨0, rfl, Tf.no fun z => by rcases z with z | z; exact a0 z; exact z.1 b1⟩
    · rw [if_neg b1]
      by_cases b0 : o.1 = 0
      · rw [if_pos b0]
        by_cases a1 : L = 1
        · rw [if_pos a1]
          by_cases hP : P
          · exact ⟨0, if_neg (fun z => hs.z.mp z hP), Tf.no fun z => by rcases z with z | z; exact a0 z; exact (z.2 b0).1 a1 hP⟩
          · exact ⟨1, if_pos (hs.z.mpr hP), Tf.yes (Or.inr ⟨b1, fun _ => ⟨fun _ => hP, fun z => by omega⟩⟩)⟩
        · rw [if_neg a1]
          by_cases hm : o.2.1 = mo
          · rw [if_pos hm]; exact ⟨1, rfl, Tf.yes (Or.inr ⟨b1, fun _ => ⟨fun z => absurd z a1, fun _ => hm⟩⟩)⟩
          · rw [if_neg hm]; exact ⟨0, rfl, Tf.no fun z => by rcases z with z | z; exact a0 z; exact hm ((z.2 b0).2 (by omega))⟩
      · rw [if_neg b0]; exact ⟨1, rfl, Tf.yes (Or.inr ⟨b1, fun z => absurd z b0⟩)⟩
theorem XM22.sm {vs as : List Nat} {σ τ : Sg} {n : Nat} {men : Nat → Nat} (h : XM22 σ n men) (hs : Sm vs as σ τ) (h1 : 18 ∉ vs) (h2 : 19 ∉ vs) (h3 : 23 ∉ as) : XM22 τ n men := by
  obtain ⟨a, b, c⟩ := h
  refine ⟨fun i hi => ?_, (hs.1 18 h1).trans b, fun i => ?_⟩
  · rw [hs.2.1 23 h3]; exact a i hi
  · rw [hs.1 19 h2]; exact c i
theorem xpl_by {n : Nat} {E : Gr} {mo L K : Nat} {S : Nat → Std} {O : Nat → Ord_} (hHI : HI n E K S O) (hmo : mo < n) (hL : L ≤ 2) {F : Nat} (hF : 40 ≤ F) : ∀ (m i : Nat) (σ : Sg) (sl : Int32), GC σ n E → XH σ n K S O → XM22 σ n (S i).1 → σ.1 20 = (S i).2 → σ.1 2 = nI mo → Tf sl (SL O i) → Gd n E mo L S O i → i ≤ K → K < i + m → ∃ r τ, fX6_isPlanBy_15 F m σ (nI L) sl (nI i) = some (r, τ) ∧ Tf r (Gd n E mo L S O K ∧ (S K).2 = 0) ∧ Sm [18, 19, 20] [23] σ τ := by
  have hK := hHI.1
  intro m
  induction m with
  | zero => intro i σ sl _ _ _ _ _ _ _ h1 h2; omega
  | succ m ih =>
    intro i σ sl hC hX hM h20 h2 hs hg h1 h3
    have hn := hC.1.1
    show ∃ r τ, bX6_isPlanBy_15 F (fX6_isPlanBy_15 F m) σ (nI L) sl (nI i) = some (r, τ) ∧ _
    unfold bX6_isPlanBy_15 bX6_isPlanBy_160 bX6_isPlanBy_117 li_
    rw [hX.1, h20]
    by_cases hi : i = K
    · subst hi
      rw [if_pos (nI_le (by omega) (by omega))]
      by_cases h0 : (S i).2 = 0
      · rw [if_pos h0]; exact ⟨1, σ, rfl, Tf.yes ⟨hg, h0⟩, Sm.rf⟩
      · rw [if_neg h0]; exact ⟨0, σ, rfl, Tf.no fun z => h0 z.2, Sm.rf⟩
    · rw [if_neg (nI_ge (by omega) (by omega)), if_neg (by rw [show (200 : Int32) = nI 200 by decide]; exact nI_ge (by omega) (by omega))]
      have hci : (nI i).toNatClampNeg = i := nI_clamp (by omega)
      have ii : ib (nI i) 200 := nI_in (by omega) (by omega)
      obtain ⟨x7, x8, x9, -, -⟩ := hX.2.2 i (by omega)
      have hT := hHI.2.2.2 i (by omega)
      have hcn := hT.cn hC.1
      have ho2 := hT.o2
      simp only [if_pos ii, hci, x8]
      generalize σ.2.1 7 i = wh at *
      have nope : ¬ ((S i).2 ≠ 0 ∧ Al L mo (O i) (SL O i) ∧ (L = 2 → Hang n E mo (S (i + 1)).1 (fun j => bt (S (i + 1)).2 j = true))) → Tf 0 (Gd n E mo L S O K ∧ (S K).2 = 0) := fun z => Tf.no fun y => z (y.1 i (by omega))
      by_cases h0 : (S i).2 = 0
      · rw [if_pos h0]; exact ⟨0, σ, rfl, nope fun z => z.1 h0, Sm.rf⟩
      · rw [if_neg h0]
        obtain ⟨r, er, hr⟩ := xallow F h2 (show mo < 12 by omega) hL ho2 (show (O i).2.1 < 12 by omega) x7 hs
        rw [er]
        simp only [Option.bind_some]
        rcases hr with ⟨rfl, hal⟩ | ⟨rfl, hal⟩
        · rw [if_neg (show ¬ (1 : Int32) = 0 by decide)]
          obtain ⟨τ, et, st, xt, wt⟩ := follow22 hC (F := F) (by omega) (hHI.2.2.1 i (by omega)) hM h20 hT x7 x9
          rw [et]
          simp only [Option.bind_some]
          have hCt := hC.sm st (by simp) (by simp) (by simp) (by simp) (by simp) (by simp)
          have hXt := hX.sm st (by simp) (by simp) (by simp) (by simp) (by simp) (by simp) (by simp)
          have h2t : τ.1 2 = nI mo := (st.1 2 (by simp)).trans h2
          have hwlt : wh < 2 ↔ (O i).1 ≠ 2 := by
            rcases x7 with rfl | ⟨h4, rfl⟩
            · rw [show (2 : Int32) = nI 2 by decide, nI_ltI (by omega) (by omega)]; omega
            · rw [h4]; decide
          have go : ∀ s', Tf s' (SL O (i + 1)) → (∃ r τ', (if nI L = (2 : Int32) then ((fX1_hangsTogether F τ (τ.1 20) (τ.1 19)).bind fun q5 => (fun (r5 : Int32) (σ5 : Sg) => if r5 = (0 : Int32) then (some ((0 : Int32), σ5)) else (fX6_isPlanBy_15 F m σ5 (nI L) s' (nI i + 1))) q5.1 q5.2) else (fX6_isPlanBy_15 F m τ (nI L) s' (nI i + 1))) = some (r, τ') ∧ Tf r (Gd n E mo L S O K ∧ (S K).2 = 0) ∧ Sm [18, 19, 20] [23] σ τ') := by
            intro s' hs'
            rw [nI_1]
            have l2 : nI L = 2 ↔ L = 2 := by rw [show (2 : Int32) = nI 2 by decide, nI_eq (by omega) (by omega)]
            simp only [l2]
            by_cases hL2 : L = 2
            · rw [if_pos hL2, wt]
              obtain ⟨q, eq, hq⟩ := xhang hCt hF hmo h2t (l := (S (i + 1)).2) xt.2.2
              rw [eq]
              simp only [Option.bind_some]
              rcases hq with ⟨rfl, hh⟩ | ⟨rfl, hh⟩
              · rw [if_neg (show ¬ (1 : Int32) = 0 by decide)]
                obtain ⟨r, τ', e1, e2, e3⟩ := ih (i + 1) τ s' hCt hXt xt wt h2t hs' (Gd.s.mpr ⟨hg, h0, hal, fun _ => hh⟩) (by omega) (by omega)
                exact ⟨r, τ', e1, e2, st.tr e3⟩
              · rw [if_pos rfl]
                exact ⟨0, τ, rfl, nope fun z => hh (z.2.2 hL2), st⟩
            · rw [if_neg hL2]
              obtain ⟨r, τ', e1, e2, e3⟩ := ih (i + 1) τ s' hCt hXt xt wt h2t hs' (Gd.s.mpr ⟨hg, h0, hal, fun z => absurd z hL2⟩) (by omega) (by omega)
              exact ⟨r, τ', e1, e2, st.tr e3⟩
          rcases hs with ⟨rfl, hsl⟩ | ⟨rfl, hsl⟩
          · rw [if_neg (show ¬ (1 : Int32) = 0 by decide)]
            exact go 1 (Tf.yes (SL.s.mpr (Or.inl hsl)))
          · rw [if_pos rfl]
            by_cases hw2 : wh < 2
            · rw [if_pos hw2]
              exact go 0 (Tf.no fun z => by rcases SL.s.mp z with z | z; exact hsl z; exact (hwlt.mp hw2) z)
            · rw [if_neg hw2]
              exact go 1 (Tf.yes (SL.s.mpr (Or.inr (Classical.byContradiction fun z => hw2 (hwlt.mpr z)))))
        · rw [if_pos rfl]
          exact ⟨0, σ, rfl, nope fun z => hal z.2.1, Sm.rf⟩
theorem xbeg22 {σ : Sg} {n : Nat} (h0 : σ.1 0 = nI n) {F : Nat} (hF : 40 ≤ F) : ∃ τ, fX4_begin_22 F σ = some (0, τ) ∧ Sm [18, 19, 20] [23] σ τ ∧ XM22 τ n (std0 n).1 ∧ τ.1 20 = (std0 n).2 := by
  obtain ⟨σ1, e1, s1, f1⟩ := fil23 (F := F) (by omega) σ 0
  have s1' : Sm [18, 19, 20] [23] σ σ1 := s1.up (by simp) (fun k hk => hk)
  refine ⟨sv (sv (sv σ1 18 0) 19 0) 20 (all_ n), ?_, ((s1'.tr (Sm.sv (by simp))).tr (Sm.sv (by simp))).tr (Sm.sv (by simp)), ⟨fun c hc => (f1 c hc).trans nI_0.symm, by show (0 : Int32) = nI (tot n (fun _ => 0)); rw [tot_0, nI_0], fun i => ?_⟩, rfl⟩
  · unfold fX4_begin_22 fX1_allCaves ls_
    rw [e1]
    simp only [Option.bind_some]
    have : (sv (sv σ1 18 0) 19 0).1 0 = nI n := by show σ1.1 0 = nI n; rw [s1.1 0 (by simp)]; exact h0
    rw [this]; rfl
  · show bt 0 i = true ↔ (i < n ∧ 0 < (fun _ => 0) i)
    rw [b_0]; exact ⟨fun h => by (cases h), fun h => absurd h.2 (by simp)⟩
/-! the reference -/
theorem j175 {σ : Sg} {n : Nat} {E : Gr} {mo L K : Nat} {S : Nat → Std} {O : Nat → Ord_} (hG : GM σ n E) (hMH : MH σ E K S O) (hHI : HI n E K S O) (h22 : σ.1 22 = nI mo) (hmo : mo < 12) (hL : L ≤ 2) {F : Nat} (hF : 40 ≤ F) (k58 : Sg → Int32 → Int32 → Int32 → Int32 → Rs) {k : Nat} (hk : k < K) {sl g : Int32} {P : Prop} (hs : Tf sl (SL O k)) (hg : Tf g P) :
    ∃ σ' sl' g', bX7_judge_175 F k58 σ (nI L) sl g (nI k) = k58 σ' (nI L) sl' g' (nI (k + 1)) ∧ Sm [23, 24] [29] σ σ' ∧ Tf sl' (SL O (k + 1)) ∧ Tf g' (P ∧ (L = 2 → Hang n E mo (S (k + 1)).1 (fun i => bt (S (k + 1)).2 i = true))) := by
  have hK := hHI.1
  have hck : (nI k).toNatClampNeg = k := nI_clamp (by omega)
  have ik : ib (nI k) 201 := nI_in (by omega) (by omega)
  have ho2 := (hHI.2.2.2 k hk).o2
  obtain ⟨τ, e1, s1, a1, a2, a3⟩ := com hF (K := k + 1) (by omega) σ
  have hG1 := hG.sm s1 (by simp) (by simp) (by simp) (by simp)
  obtain ⟨m1, m2, m3⟩ := hMH.2.1 (k + 1) (by omega)
  have hMN : MN τ (S (k + 1)).1 := fun c hc => by
    rw [a1 c hc, m1 c hc]
    exact ⟨rfl, by have := (hHI.2.2.1 (k + 1) (by omega)).bd c; omega⟩
  have h22t : τ.1 22 = nI mo := (s1.1 22 (by simp)).trans h22
  obtain ⟨r, er, hr⟩ := mhang hG1 hMN hF hmo (lost := fun i => bt (S (k + 1)).2 i = true) (fun i => by rw [a3]; exact m3 i)
  have l2 : nI L = 2 ↔ L = 2 := by rw [show (2 : Int32) = nI 2 by decide, nI_eq (by omega) (by omega)]
  have go : ∀ s', ∃ g', ((fX7_comes F σ (nI k + (1 : Int32))).bind fun q1 => (fun (r1 : Int32) (σ1 : Sg) => if g = (0 : Int32) then (k58 σ1 (nI L) s' ((0 : Int32)) (nI k + 1)) else (if nI L = (2 : Int32) then ((fX7_hangs F σ1 (σ1.1 22)).bind fun q2 => (fun (r2 : Int32) (σ2 : Sg) => if r2 = (0 : Int32) then (k58 σ2 (nI L) s' ((0 : Int32)) (nI k + 1)) else (k58 σ2 (nI L) s' ((1 : Int32)) (nI k + 1))) q2.1 q2.2) else (k58 σ1 (nI L) s' ((1 : Int32)) (nI k + 1)))) q1.1 q1.2) = k58 τ (nI L) s' g' (nI (k + 1)) ∧ Tf g' (P ∧ (L = 2 → Hang n E mo (S (k + 1)).1 (fun i => bt (S (k + 1)).2 i = true))) := by
    intro s'
    rw [nI_1, e1]
    simp only [Option.bind_some, l2, h22t]
    rcases hg with ⟨rfl, hP⟩ | ⟨rfl, hP⟩
    · rw [if_neg (show ¬ (1 : Int32) = 0 by decide)]
      by_cases hL2 : L = 2
      · rw [if_pos hL2, er]
        simp only [Option.bind_some]
        rcases hr with ⟨rfl, hh⟩ | ⟨rfl, hh⟩
        · exact ⟨1, if_neg (by decide), Tf.yes ⟨hP, fun _ => hh⟩⟩
        · exact ⟨0, if_pos rfl, Tf.no fun z => hh (z.2 hL2)⟩
      · rw [if_neg hL2]; exact ⟨1, rfl, Tf.yes ⟨hP, fun z => absurd z hL2⟩⟩
    · rw [if_pos rfl]; exact ⟨0, rfl, Tf.no fun z => hP z.1⟩
  have hw2 : σ.2.1 30 k = 2 ↔ (O k).1 = 2 := by rw [(hMH.2.2 k hk).1, show (2 : Int32) = nI 2 by decide, nI_eq (by omega) (by omega)]
  unfold bX7_judge_175 bX7_judge_190
  rcases hs with ⟨rfl, hsl⟩ | ⟨rfl, hsl⟩
  · rw [if_neg (show ¬ (1 : Int32) = 0 by decide)]
    obtain ⟨g', e, hg'⟩ := go 1
    exact ⟨τ, 1, g', e, s1, Tf.yes (SL.s.mpr (Or.inl hsl)), hg'⟩
  · rw [if_pos rfl]
    simp only [if_pos ik, hck, hw2]
    by_cases h2 : (O k).1 = 2
    · rw [if_pos h2]
      obtain ⟨g', e, hg'⟩ := go 1
      exact ⟨τ, 1, g', e, s1, Tf.yes (SL.s.mpr (Or.inr h2)), hg'⟩
    · rw [if_neg h2]
      obtain ⟨g', e, hg'⟩ := go 0
      exact ⟨τ, 0, g', e, s1, Tf.no (fun z => by rcases SL.s.mp z with z | z; exact hsl z; exact h2 z), hg'⟩
theorem j127 {σ : Sg} {E : Gr} {mo L K : Nat} {S : Nat → Std} {O : Nat → Ord_} (hMH : MH σ E K S O) (h22 : σ.1 22 = nI mo) (hmo : mo < 12) (hL : L ≤ 2) (F : Nat) (k58 : Sg → Int32 → Int32 → Int32 → Int32 → Rs) {k : Nat} (hk : k < K) (hK : K ≤ 200) (ho : (O k).1 ≤ 2) (hc : (O k).2.1 < 12) {sl g : Int32} {P Q : Prop} (hs : Tf sl Q) (hg : Tf g P) :
    ∃ g', bX7_judge_127 F k58 σ (nI L) sl g (nI k) = bX7_judge_175 F k58 σ (nI L) sl g' (nI k) ∧ Tf g' (P ∧ ((O k).1 = 0 → (L = 1 → ¬ Q) ∧ (L = 2 → (O k).2.1 = mo))) := by
  have hck : (nI k).toNatClampNeg = k := nI_clamp (by omega)
  have ik : ib (nI k) 201 := nI_in (by omega) (by omega)
  have l1 : nI L = 1 ↔ L = 1 := by rw [show (1 : Int32) = nI 1 by decide, nI_eq (by omega) (by omega)]
  have l2 : nI L = 2 ↔ L = 2 := by rw [show (2 : Int32) = nI 2 by decide, nI_eq (by omega) (by omega)]
  have w0 : nI (O k).1 = 0 ↔ (O k).1 = 0 := by rw [← nI_0, nI_eq (by omega) (by omega)]
  have cm : nI (O k).2.1 = nI mo ↔ (O k).2.1 = mo := nI_eq (by omega) (by omega)
  unfold bX7_judge_127 bX7_judge_150
  simp only [if_pos ik, hck, (hMH.2.2 k hk).1, (hMH.2.2 k hk).2, h22, w0, l1, l2, cm]
  by_cases h0 : (O k).1 = 0
  · rw [if_pos h0]
    by_cases hP : P
    · rw [if_neg (fun z => hg.z.mp z hP)]
      by_cases hL1 : L = 1
      · rw [if_pos hL1]
        by_cases hQ : Q
        · rw [if_neg (fun z => hs.z.mp z hQ)]; exact ⟨0, rfl, Tf.no fun z => (z.2 h0).1 hL1 hQ⟩
        · rw [if_pos (hs.z.mpr hQ), if_neg (show ¬ L = 2 by omega)]; exact ⟨1, rfl, Tf.yes ⟨hP, fun _ => ⟨fun _ => hQ, fun z => by omega⟩⟩⟩
      · rw [if_neg hL1]
        by_cases hL2 : L = 2
        · rw [if_pos hL2]
          by_cases hm : (O k).2.1 = mo
          · rw [if_pos hm]; exact ⟨1, rfl, Tf.yes ⟨hP, fun _ => ⟨fun z => absurd z hL1, fun _ => hm⟩⟩⟩
          · rw [if_neg hm]; exact ⟨0, rfl, Tf.no fun z => hm ((z.2 h0).2 hL2)⟩
        · rw [if_neg hL2]; exact ⟨1, rfl, Tf.yes ⟨hP, fun _ => ⟨fun z => absurd z hL1, fun z => absurd z hL2⟩⟩⟩
    · rw [if_pos (hg.z.mpr hP)]; exact ⟨0, rfl, Tf.no fun z => hP z.1⟩
  · rw [if_neg h0]; exact ⟨g, rfl, hg.iff ⟨fun z => ⟨z, fun y => absurd y h0⟩, fun z => z.1⟩⟩
theorem j100 {σ : Sg} {E : Gr} {L K : Nat} {S : Nat → Std} {O : Nat → Ord_} (hMH : MH σ E K S O) (hL : L ≤ 2) (F : Nat) (k58 : Sg → Int32 → Int32 → Int32 → Int32 → Rs) {k : Nat} (hk : k < K) (hK : K ≤ 200) (ho : (O k).1 ≤ 2) (sl : Int32) :
    bX7_judge_100 F k58 σ (nI L) sl (nI k) = bX7_judge_127 F k58 σ (nI L) sl 0 (nI k) ∧ ∃ g', bX7_judge_96 F k58 σ (nI L) sl (nI k) = bX7_judge_127 F k58 σ (nI L) sl g' (nI k) ∧ Tf g' ((O k).1 = 1 → L = 0) := by
  have hck : (nI k).toNatClampNeg = k := nI_clamp (by omega)
  have ik : ib (nI k) 201 := nI_in (by omega) (by omega)
  have l0 : nI L = 0 ↔ L = 0 := by rw [← nI_0, nI_eq (by omega) (by omega)]
  have w1 : nI (O k).1 = 1 ↔ (O k).1 = 1 := by rw [show (1 : Int32) = nI 1 by decide, nI_eq (by omega) (by omega)]
  unfold bX7_judge_100 bX7_judge_96
  simp only [if_pos ik, hck, (hMH.2.2 k hk).1, w1, l0, if_neg (show ¬ (1 : Int32) = 0 by decide), if_true]
  constructor
  · split <;> rfl
  · by_cases h1 : (O k).1 = 1
    · rw [if_pos h1]
      by_cases h0 : L = 0
      · rw [if_pos h0]; exact ⟨1, rfl, Tf.yes fun _ => h0⟩
      · rw [if_neg h0]; exact ⟨0, rfl, Tf.no fun z => h0 (z h1)⟩
    · rw [if_neg h1]; exact ⟨1, rfl, Tf.yes fun z => absurd z h1⟩
theorem MH.z35 {σ : Sg} {E : Gr} {K : Nat} {S : Nat → Std} {O : Nat → Ord_} (h : MH σ E K S O) {k : Nat} (hk : k ≤ K) (hz : (S k).2 = 0) : σ.2.1 35 k = 0 := b_zero.mpr fun i _ => by
  cases hb : bt (σ.2.1 35 k) i with
  | false => rfl
  | true =>
    obtain ⟨a, b, -, h2⟩ := ((h.2.1 k hk).2.2 i).mp hb
    rw [hz] at h2
    rcases h2 with h2 | h2
    · have h3 : bt 0 a = true := h2
      rw [b_0] at h3; cases h3
    · have h3 : bt 0 b = true := h2
      rw [b_0] at h3; cases h3
theorem all_ne {n : Nat} (h0 : 0 < n) (hn : n ≤ 12) : all_ n ≠ 0 := fun z => by
  have := (all_bt hn 0).mpr h0
  rw [z, b_0] at this; cases this
theorem jud_loop {n : Nat} {E : Gr} {mo L K : Nat} {S : Nat → Std} {O : Nat → Ord_} (hHI : HI n E K S O) (hmo : mo < n) (hL : L ≤ 2) {F : Nat} (hF : 40 ≤ F) : ∀ (m k : Nat) (σ : Sg) (sl g : Int32), GM σ n E → MH σ E K S O → σ.1 22 = nI mo → Tf sl (SL O k) → Tf g (Gd n E mo L S O k) → k ≤ K → K < k + m → ∃ r τ, fX7_judge_58 F m σ (nI L) sl g (nI k) = some (r, τ) ∧ Tf r (Gd n E mo L S O K) ∧ Sm [23, 24] [29] σ τ := by
  have hK := hHI.1
  intro m
  induction m with
  | zero => intro i σ sl g _ _ _ _ _ h1 h2; omega
  | succ m ih =>
    intro k σ sl g hG hM h22 hs hg h1 h2
    have hn := hG.1.1
    show ∃ r τ, bX7_judge_58 F (fX7_judge_58 F m) σ (nI L) sl g (nI k) = some (r, τ) ∧ _
    by_cases hk : k = K
    · subst hk
      unfold bX7_judge_58
      rw [hM.1, if_pos (nI_le (by omega) (by omega))]
      rcases hg with ⟨rfl, hg⟩ | ⟨rfl, hg⟩
      · exact ⟨1, σ, by rw [if_neg (by decide)], Tf.yes hg, Sm.rf⟩
      · exact ⟨0, σ, by rw [if_pos rfl], Tf.no hg, Sm.rf⟩
    · have hT := hHI.2.2.2 k (by omega)
      have hcn := hT.cn hG.1
      have ho2 := hT.o2
      obtain ⟨c1, g2, c2, c3⟩ := j100 hM hL F (fX7_judge_58 F m) (show k < K by omega) hK ho2 sl
      have first : ∃ g1, bX7_judge_58 F (fX7_judge_58 F m) σ (nI L) sl g (nI k) = bX7_judge_127 F (fX7_judge_58 F m) σ (nI L) sl g1 (nI k) ∧ Tf g1 ((Gd n E mo L S O k ∧ (S k).2 ≠ 0) ∧ ((O k).1 = 1 → L = 0)) := by
        unfold bX7_judge_58
        rw [hM.1, if_neg (nI_ge (by omega) (by omega))]
        have hck : (nI k).toNatClampNeg = k := nI_clamp (by omega)
        have ik : ib (nI k) 201 := nI_in (by omega) (by omega)
        have k0 : nI k = 0 ↔ k = 0 := by rw [← nI_0, nI_eq (by omega) (by omega)]
        simp only [if_pos ik, hck, (hM.2.1 k (by omega)).2.1, k0]
        rcases hg with ⟨rfl, hg⟩ | ⟨rfl, hg⟩
        · rw [if_neg (show ¬ (1 : Int32) = 0 by decide)]
          by_cases hk0 : k = 0
          · rw [if_pos hk0]
            refine ⟨g2, c2, c3.iff ⟨fun z => ⟨⟨hg, ?_⟩, z⟩, fun z => z.2⟩⟩
            rw [hk0, hHI.2.1]; exact all_ne (by omega) hn
          · rw [if_neg hk0]
            by_cases hz : (S k).2 = 0
            · rw [if_pos hz, if_pos (hM.z35 (by omega) hz)]
              exact ⟨0, c1, Tf.no fun z => z.1.2 hz⟩
            · rw [if_neg hz]
              exact ⟨g2, c2, c3.iff ⟨fun z => ⟨⟨hg, hz⟩, z⟩, fun z => z.2⟩⟩
        · rw [if_pos rfl]
          exact ⟨0, c1, Tf.no fun z => hg z.1.1⟩
      obtain ⟨g1, f1, f2⟩ := first
      obtain ⟨g3, f3, f4⟩ := j127 hM h22 (show mo < 12 by omega) hL F (fX7_judge_58 F m) (show k < K by omega) hK ho2 (by omega) hs f2
      obtain ⟨σ', sl', g', f5, f6, f7, f8⟩ := j175 hG hM hHI h22 (show mo < 12 by omega) hL hF (fX7_judge_58 F m) (show k < K by omega) hs f4
      have hgd : Tf g' (Gd n E mo L S O (k + 1)) := by
        refine f8.iff ⟨fun z => Gd.s.mpr ⟨z.1.1.1.1, z.1.1.1.2, ?_, z.2⟩, fun z => ?_⟩
        · by_cases hL0 : L = 0
          · exact Or.inl hL0
          · exact Or.inr ⟨fun y => hL0 (z.1.1.2 y), z.1.2⟩
        · obtain ⟨y1, y2, y3, y4⟩ := Gd.s.mp z
          refine ⟨⟨⟨⟨y1, y2⟩, fun w => ?_⟩, fun w => ?_⟩, y4⟩
          · rcases y3 with y3 | y3
            · exact y3
            · exact absurd w y3.1
          · rcases y3 with y3 | y3
            · exact ⟨fun q => by omega, fun q => by omega⟩
            · exact y3.2 w
      obtain ⟨r, τ, e1, e2, e3⟩ := ih (k + 1) σ' sl' g' (hG.sm f6 (by simp) (by simp) (by simp) (by simp)) (hM.sm f6 (by simp) (by simp) (by simp) (by simp) (by simp) (by simp)) ((f6.1 22 (by simp)).trans h22) f7 hgd (by omega) (by omega)
      exact ⟨r, τ, by rw [f1, f3, f5, e1], e2, f6.tr e3⟩
theorem islaw (F : Nat) (σ : Sg) (l : Int32) : (∃ L, L ≤ 2 ∧ l = nI L ∧ fX6_isLaw F σ l = some (1, σ)) ∨ ((l < 0 ∨ (2 : Int32) < l) ∧ fX6_isLaw F σ l = some (0, σ)) := by
  unfold fX6_isLaw
  by_cases h1 : l < 0
  · rw [if_pos h1]; exact Or.inr ⟨Or.inl h1, rfl⟩
  · rw [if_neg h1]
    by_cases h2 : (2 : Int32) < l
    · rw [if_pos h2]; exact Or.inr ⟨Or.inr h2, rfl⟩
    · rw [if_neg h2]
      obtain ⟨j, hj, rfl⟩ := nI_of h1
      refine Or.inl ⟨j, ?_, rfl, rfl⟩
      rw [show (2 : Int32) = nI 2 by decide, nI_ltI (by omega) hj] at h2
      omega
theorem step_judge (σ : Sg) (wn : Option Nat) (l : Int32) (hI : Inv_ σ wn) : PairOk Inv_ σ wn (fun F σ => fX6_judge F σ l) (fun F σ => fX7_judge F σ l) := by
  have hI0 := hI
  obtain ⟨n, E, mo, row, K, S, O, hD⟩ := hI
  obtain ⟨hGC, hGM, hMO, hLY, hL1, hL2, hHI, hXN, hXH, hMH, hPL⟩ := id hD
  obtain ⟨F, hF0⟩ : ∃ F : Nat, 240 ≤ F := ⟨240, Nat.le_refl _⟩
  have hF : 40 ≤ F := by omega
  have hn := hGC.1.1
  have hK := hHI.1
  have n0 : nI n = 0 ↔ n = 0 := by rw [← nI_0, nI_eq (by omega) (by omega)]
  rcases islaw F σ l with ⟨L, hL, rfl, e1⟩ | ⟨hno, e1⟩
  · have lnl : ¬ nI L < 0 := nI_pos (by omega)
    have lng : ¬ (2 : Int32) < nI L := by rw [show (2 : Int32) = nI 2 by decide]; exact nI_nlt (by omega) (by omega)
    by_cases hn0 : n = 0
    · refine PairOk.same hI0 (F := F) (r := -1) ?_ ?_
      · show fX6_judge F σ (nI L) = _
        unfold fX6_judge
        rw [e1]
        simp only [Option.bind_some, if_neg (show ¬ (1 : Int32) = 0 by decide), hGC.2.1, if_pos (n0.mpr hn0)]
      · show fX7_judge F σ (nI L) = _
        unfold fX7_judge
        rw [if_neg lnl, if_neg lng, hGM.2.1, if_pos (n0.mpr hn0)]
    · have hmo : mo < n := by rcases hMO.2.2.2 with h | h <;> omega
      obtain ⟨σ1, b1, b2, b3, b4⟩ := xbeg22 (n := n) hGC.2.1 hF
      have hC1 := hGC.sm b2 (by simp) (by simp) (by simp) (by simp) (by simp) (by simp)
      have hX1 := hXH.sm b2 (by simp) (by simp) (by simp) (by simp) (by simp) (by simp) (by simp)
      obtain ⟨r, σ2, c1, c2, c3⟩ := xpl_by hHI hmo hL hF F 0 σ1 0 hC1 hX1 (by rw [hHI.2.1]; exact b3) (by rw [hHI.2.1]; exact b4) ((b2.1 2 (by simp)).trans hMO.1) (Tf.no fun ⟨i, hi, _⟩ => by omega) (fun j hj => by omega) (by omega) (by omega)
      rw [nI_0] at c1
      have hs2 := b2.tr c3
      have hG2 := hGM.sm hs2 (by simp) (by simp) (by simp) (by simp)
      have hM2 := hMH.sm hs2 (by simp) (by simp) (by simp) (by simp) (by simp) (by simp)
      have h222 : σ2.1 22 = nI mo := (hs2.1 22 (by simp)).trans hMO.2.1
      have xj : fX6_judge F σ (nI L) = some (r, σ2) := by
        unfold fX6_judge fX6_isPlanBy
        rw [e1]
        simp only [Option.bind_some, if_neg (show ¬ (1 : Int32) = 0 by decide), hGC.2.1, if_neg (fun z => hn0 (n0.mp z)), b1, c1]
        rcases c2 with ⟨rfl, -⟩ | ⟨rfl, -⟩
        · rw [if_neg (by decide)]
        · rw [if_pos rfl]
      have mj : ∃ σ3, fX7_judge F σ2 (nI L) = some (r, σ3) ∧ Sm [23, 24] [29] σ2 σ3 := by
        unfold fX7_judge
        have hcK : (nI K).toNatClampNeg = K := nI_clamp (by omega)
        have iK : ib (nI K) 201 := nI_in (by omega) (by omega)
        have k0 : nI K = 0 ↔ K = 0 := by rw [← nI_0, nI_eq (by omega) (by omega)]
        rw [if_neg lnl, if_neg lng, hG2.2.1, if_neg (fun z => hn0 (n0.mp z))]
        simp only [hM2.1, if_pos iK, hcK, (hM2.2.1 K (Nat.le_refl K)).2.1, k0]
        by_cases hK0 : K = 0
        · rw [if_pos hK0]
          refine ⟨σ2, ?_, Sm.rf⟩
          have : r = 0 := c2.eq (Tf.no fun z => by
            have := z.2
            rw [hK0, hHI.2.1] at this
            exact all_ne (by omega) hn this)
          rw [this]
        · rw [if_neg hK0]
          by_cases hz : (S K).2 = 0
          · rw [if_pos hz, if_pos (hM2.z35 (Nat.le_refl K) hz)]
            obtain ⟨q, τ, d1, d2, d3⟩ := jud_loop hHI hmo hL hF F 0 σ2 0 1 hG2 hM2 h222 (Tf.no fun ⟨i, hi, _⟩ => by omega) (Tf.yes fun j hj => by omega) (by omega) (by omega)
            rw [nI_0] at d1
            refine ⟨τ, ?_, d3⟩
            rw [d1, (d2.iff ⟨fun z => ⟨z, hz⟩, fun z => z.1⟩).eq c2]
          · rw [if_neg hz]
            refine ⟨σ2, ?_, Sm.rf⟩
            rw [c2.eq (Tf.no fun z => hz z.2)]
      obtain ⟨σ3, m1, m2⟩ := mj
      have hs3 : Sm [18, 19, 20, 23, 24] [23, 29] σ σ3 := (hs2.up (fun i hi => by simp at hi; simp; omega) (fun k hk => by simp at hk; simp; omega)).tr (m2.up (fun i hi => by simp at hi; simp; omega) (fun k hk => by simp at hk; simp; omega))
      exact ⟨F, r, σ2, σ3, wn, xj, m1, ⟨n, E, mo, row, K, S, O, hD.scr hs3 (by simp) (by simp)⟩, hs3.keep (by simp)⟩
  · refine PairOk.same hI0 (F := F) (r := -1) ?_ ?_
    · show fX6_judge F σ l = _
      unfold fX6_judge
      rw [e1]; rfl
    · show fX7_judge F σ l = _
      unfold fX7_judge
      rcases hno with h | h
      · rw [if_pos h]
      · rw [if_pos h]
        split <;> rfl
