/-! ===== width ===== -/
def wd (ct A : Nat → Nat) (s : Nat) : Nat := if ct s < A s then A s else ct s
def mnl (f : Nat → Nat) (s x0 : Nat) : Nat → Nat
  | 0 => x0
  | c + 1 => if s.testBit c = true then mnl f s x0 c else (if f (s ||| 2 ^ c) < mnl f s x0 c then f (s ||| 2 ^ c) else mnl f s x0 c)
theorem or_gt {s c : Nat} (h : ¬ s.testBit c = true) : s < s ||| 2 ^ c := by
  have h1 : s ≤ s ||| 2 ^ c := Nat.left_le_or
  have h2 : s ≠ s ||| 2 ^ c := fun z => h (by rw [z, Nat.testBit_or, Nat.testBit_two_pow_self]; simp)
  omega
theorem or_lt {s c n : Nat} (h : s < 2 ^ n) (hc : c < n) : s ||| 2 ^ c < 2 ^ n := Nat.or_lt_two_pow h (Nat.pow_lt_pow_right (by omega) hc)
theorem mnl_congr {f g : Nat → Nat} {s x0 : Nat} (h : ∀ t, s < t → f t = g t) : ∀ c, mnl f s x0 c = mnl g s x0 c := by
  intro c
  induction c with
  | zero => rfl
  | succ c ih =>
    unfold mnl
    by_cases hb : s.testBit c = true
    · rw [if_pos hb, if_pos hb]; exact ih
    · rw [if_neg hb, if_neg hb, ih, h _ (or_gt hb)]
theorem mnl_le (f : Nat → Nat) (s x0 : Nat) : ∀ c, mnl f s x0 c ≤ x0 := by
  intro c
  induction c with
  | zero => exact Nat.le_refl _
  | succ c ih =>
    unfold mnl
    split
    · exact ih
    · split <;> omega
theorem mnl_1 (f : Nat → Nat) (s x0 : Nat) : ∀ k c, c < k → ¬ s.testBit c = true → mnl f s x0 k ≤ f (s ||| 2 ^ c) := by
  intro k
  induction k with
  | zero => intro c h; omega
  | succ k ih =>
    intro c h1 h2
    unfold mnl
    by_cases hc : c = k
    · subst hc
      rw [if_neg h2]; split <;> omega
    · have := ih c (by omega) h2
      split
      · exact this
      · split <;> omega
theorem mnl_2 (f : Nat → Nat) (s x0 : Nat) : ∀ k, mnl f s x0 k = x0 ∨ ∃ c, c < k ∧ ¬ s.testBit c = true ∧ mnl f s x0 k = f (s ||| 2 ^ c) := by
  intro k
  induction k with
  | zero => exact Or.inl rfl
  | succ k ih =>
    unfold mnl
    have lift : (mnl f s x0 k = x0 ∨ ∃ c, c < k ∧ ¬ s.testBit c = true ∧ mnl f s x0 k = f (s ||| 2 ^ c)) → (mnl f s x0 k = x0 ∨ ∃ c, c < k + 1 ∧ ¬ s.testBit c = true ∧ mnl f s x0 k = f (s ||| 2 ^ c)) := by
      rintro (h | ⟨c, h1, h2⟩)
      · exact Or.inl h
      · exact Or.inr ⟨c, by omega, h2⟩
    by_cases hb : s.testBit k = true
    · rw [if_pos hb]; exact lift ih
    · rw [if_neg hb]
      by_cases hl : f (s ||| 2 ^ k) < mnl f s x0 k
      · rw [if_pos hl]; exact Or.inr ⟨k, by omega, hb, rfl⟩
      · rw [if_neg hl]; exact lift ih
theorem out_c {n s : Nat} (h : s < 2 ^ n - 1) : ∃ c, c < n ∧ ¬ s.testBit c = true := by
  refine Classical.byContradiction fun hc => ?_
  have : s = 2 ^ n - 1 := Nat.eq_of_testBit_eq fun i => by
    rw [Nat.testBit_two_pow_sub_one]
    by_cases hi : i < n
    · rw [decide_eq_true hi]; exact Classical.byContradiction fun z => hc ⟨i, hi, z⟩
    · rw [decide_eq_false hi]
      exact Nat.testBit_lt_two_pow (Nat.lt_of_lt_of_le (show s < 2 ^ n by omega) (Nat.pow_le_pow_right (by omega) (by omega)))
  omega
theorem exA (n : Nat) (ct : Nat → Nat) : ∃ A : Nat → Nat, A (2 ^ n - 1) = 0 ∧ ∀ s, s < 2 ^ n - 1 → A s = mnl (wd ct A) s 12 n := by
  have key : ∀ k, ∃ A : Nat → Nat, A (2 ^ n - 1) = 0 ∧ ∀ s, s < 2 ^ n - 1 → 2 ^ n - 1 ≤ s + k → A s = mnl (wd ct A) s 12 n := by
    intro k
    induction k with
    | zero => exact ⟨fun _ => 0, rfl, fun s h1 h2 => by omega⟩
    | succ k ih =>
      obtain ⟨A, h1, h2⟩ := ih
      by_cases hk : 2 ^ n - 1 < k + 1
      · exact ⟨A, h1, fun s h3 h4 => h2 s h3 (by omega)⟩
      · obtain ⟨s0, hs0⟩ : ∃ s0, s0 + (k + 1) = 2 ^ n - 1 := ⟨2 ^ n - 1 - (k + 1), by omega⟩
        refine ⟨up1 A s0 (mnl (wd ct A) s0 12 n), ?_, fun s h3 h4 => ?_⟩
        · rw [up1_o _ _ (by omega)]; exact h1
        · have cg : ∀ s, s0 ≤ s → mnl (wd ct (up1 A s0 (mnl (wd ct A) s0 12 n))) s 12 n = mnl (wd ct A) s 12 n := fun s hs => mnl_congr (fun t ht => by
            unfold wd; rw [up1_o _ _ (by omega)]) n
          by_cases hs : s = s0
          · rw [cg s (by omega), hs, up1_s]
          · rw [cg s (by omega), up1_o _ _ hs]; exact h2 s h3 (by omega)
  obtain ⟨A, h1, h2⟩ := key (2 ^ n - 1)
  exact ⟨A, h1, fun s hs => h2 s hs (by omega)⟩
theorem nI_or {s c : Nat} (hc : c < 32) : nI s ||| ((1 : Int32) <<< (nI c &&& 31)) = nI (s ||| 2 ^ c) := b_ext fun i hi => by
  rw [b_or, bt_nI, bt_nI, b_bit hc, Nat.testBit_or, Nat.testBit_two_pow]
  simp only [hi, decide_true, Bool.true_and]
  congr 1
  by_cases h : c = i
  · simp [h]
  · simp [h]; omega
theorem bt_nIl (s : Nat) {c : Nat} (hc : c < 32) : bt (nI s) c = s.testBit c := by rw [bt_nI, decide_eq_true hc, Bool.true_and]
theorem t1_nI (s : Nat) {c : Nat} (hc : c < 32) : ((nI s >>> (nI c &&& 31)) &&& 1 = 1) ↔ s.testBit c = true := by rw [b_t1 hc, bt_nIl s hc]
theorem t0_nI (s : Nat) {c : Nat} (hc : c < 32) : ((nI s >>> (nI c &&& 31)) &&& 1 = 0) ↔ ¬ s.testBit c = true := by rw [b_t0 hc, bt_nIl s hc]; simp
theorem all_nI : ∀ n, n ≤ 12 → all_ n = nI (2 ^ n - 1) := by decide +kernel
theorem nI_dn (k : Nat) : nI (k + 1) + Int32.ofInt (-1) = nI k := by
  rw [show Int32.ofInt (-1) = -1 by decide, ← nI_1, Int32.add_assoc, show (1 : Int32) + -1 = 0 by decide, Int32.add_zero]
theorem nI_m1 : nI 0 + Int32.ofInt (-1) = -1 := by decide
def WC (n : Nat) (E : Gr) (A : Nat → Nat) : Prop := (0 < n ∧ n ≤ 12) ∧ A (2 ^ n - 1) = 0 ∧ ∀ s, s < 2 ^ n - 1 → A s = mnl (wd (fun s => cutE n E (nI s)) A) s 12 n
theorem WC.n0 {n : Nat} {E : Gr} {A : Nat → Nat} (h : WC n E A) : 0 < n := h.1.1
theorem WC.n12 {n : Nat} {E : Gr} {A : Nat → Nat} (h : WC n E A) : n ≤ 12 := h.1.2
theorem WC.A0 {n : Nat} {E : Gr} {A : Nat → Nat} (h : WC n E A) : A (2 ^ n - 1) = 0 := h.2.1
theorem WC.A1 {n : Nat} {E : Gr} {A : Nat → Nat} (h : WC n E A) : ∀ s, s < 2 ^ n - 1 → A s = mnl (wd (fun s => cutE n E (nI s)) A) s 12 n := h.2.2
theorem WC.le {n : Nat} {E : Gr} {A : Nat → Nat} (h : WC n E A) {s : Nat} (hs : s ≤ 2 ^ n - 1) : A s ≤ 12 := by
  by_cases e : s = 2 ^ n - 1
  · rw [e, h.A0]; omega
  · rw [h.A1 s (by omega)]; exact mnl_le _ _ _ _
noncomputable abbrev wdE (n : Nat) (E : Gr) (A : Nat → Nat) : Nat → Nat := wd (fun s => cutE n E (nI s)) A
theorem WC.wle {n : Nat} {E : Gr} {A : Nat → Nat} (h : WC n E A) {s : Nat} (hs : s ≤ 2 ^ n - 1) : wdE n E A s ≤ 12 := by
  have h1 := h.le hs
  have h2 := cutE_le n E (nI s)
  have h3 := h.n12
  unfold wdE wd; dsimp only; split <;> omega
theorem WC.p12 {n : Nat} {E : Gr} {A : Nat → Nat} (h : WC n E A) : 2 ^ n ≤ 4096 ∧ 1 < 2 ^ n := by
  have h3 := h.n12
  have h0 := h.n0
  exact ⟨(Nat.pow_le_pow_right (by omega) h3 : 2 ^ n ≤ 2 ^ 12), Nat.one_lt_two_pow (by omega)⟩
theorem WC.orb {n : Nat} {E : Gr} {A : Nat → Nat} (h : WC n E A) {s c : Nat} (hs : s ≤ 2 ^ n - 1) (hc : c < n) : s ||| 2 ^ c ≤ 2 ^ n - 1 := by
  have := or_lt (show s < 2 ^ n by have := h.p12; omega) hc
  omega
theorem lwb_loop {σ : Sg} {n : Nat} {E : Gr} {A : Nat → Nat} (hW : WC n E A) (h0 : σ.1 0 = nI n) (F : Nat) {s : Nat} (hs : s ≤ 2 ^ n - 1) (hA : ∀ t, s < t → t ≤ 2 ^ n - 1 → σ.2.1 16 t = nI (wdE n E A t)) : ∀ (m c : Nat), c ≤ n → n < c + m → fX2_leastWorstBehind_18 F m σ (nI s) (nI (mnl (wdE n E A) s 12 c)) (nI c) = some (nI (mnl (wdE n E A) s 12 n), σ) := by
  have hn := hW.n12
  have hp := hW.p12
  intro m
  induction m with
  | zero => intro c h1 h2; omega
  | succ m ih =>
    intro c h1 h2
    show bX2_leastWorstBehind_18 F (fX2_leastWorstBehind_18 F m) σ (nI s) _ (nI c) = _
    unfold bX2_leastWorstBehind_18 li_
    rw [h0]
    by_cases hc : c = n
    · subst hc; rw [if_pos (nI_le (by omega) (by omega))]
    · rw [if_neg (nI_ge (by omega) (by omega)), nI_1]
      simp only [t0_nI s (show c < 32 by omega), nI_or (s := s) (show c < 32 by omega)]
      have ihk := ih (c + 1) (by omega) (by omega)
      have e : mnl (wdE n E A) s 12 (c + 1) = if s.testBit c = true then mnl (wdE n E A) s 12 c else (if wdE n E A (s ||| 2 ^ c) < mnl (wdE n E A) s 12 c then wdE n E A (s ||| 2 ^ c) else mnl (wdE n E A) s 12 c) := rfl
      by_cases hb : s.testBit c = true
      · rw [e, if_pos hb] at ihk
        rw [if_neg (fun z => z hb)]
        exact ihk
      · rw [e, if_neg hb] at ihk
        have ho := hW.orb hs (show c < n by omega)
        have hx := hA _ (or_gt hb) ho
        have hwl := hW.wle ho
        have hml := mnl_le (wdE n E A) s 12 c
        have io : ib (nI (s ||| 2 ^ c)) 4096 := nI_in (by omega) (by omega)
        have co : (nI (s ||| 2 ^ c)).toNatClampNeg = s ||| 2 ^ c := nI_clamp (by omega)
        rw [if_pos hb]
        simp only [if_pos io, co, hx, (mnx (show mnl (wdE n E A) s 12 c < 2 ^ 31 by omega) (show wdE n E A (s ||| 2 ^ c) < 2 ^ 31 by omega)).1]
        exact ihk
theorem lwb {σ : Sg} {n : Nat} {E : Gr} {A : Nat → Nat} (hW : WC n E A) (h0 : σ.1 0 = nI n) {F : Nat} (hF : 40 ≤ F) {s : Nat} (hs : s ≤ 2 ^ n - 1) (hA : ∀ t, s < t → t ≤ 2 ^ n - 1 → σ.2.1 16 t = nI (wdE n E A t)) : fX2_leastWorstBehind F σ (nI s) = some (nI (A s), σ) := by
  have hn := hW.n12
  have hp := hW.p12
  unfold fX2_leastWorstBehind fX1_allCaves
  rw [h0]
  show (if nI s = all_ n then some (0, σ) else fX2_leastWorstBehind_18 F F σ (nI s) 12 0) = _
  rw [all_nI n hn]
  simp only [nI_eq (a := s) (b := 2 ^ n - 1) (by omega) (by omega)]
  by_cases e : s = 2 ^ n - 1
  · rw [if_pos e, e, hW.A0, nI_0]
  · rw [if_neg e]
    have := lwb_loop hW h0 F hs hA F 0 (by omega) (by omega)
    rw [show mnl (wdE n E A) s 12 0 = 12 from rfl, nI_0, show nI 12 = 12 by decide] at this
    rw [this, hW.A1 s (by omega)]
theorem bec_loop {n : Nat} {E : Gr} {A : Nat → Nat} (hW : WC n E A) {F : Nat} (hF : 40 ≤ F) : ∀ (m k : Nat) (σ : Sg), GC σ n E → k ≤ 2 ^ n → k < m → (∀ t, k ≤ t → t ≤ 2 ^ n - 1 → σ.2.1 16 t = nI (wdE n E A t)) → ∃ τ, fX2_becomeTheLeast_10 F m σ (nI k + Int32.ofInt (-1)) = fX2_becomeTheLeast_54 F F τ (nI (wdE n E A 0)) 0 0 ∧ Sm [] [16] σ τ ∧ ∀ t, t ≤ 2 ^ n - 1 → τ.2.1 16 t = nI (wdE n E A t) := by
  have hn := hW.n12
  have hp := hW.p12
  intro m
  induction m with
  | zero => intro k σ _ h1 h2; omega
  | succ m ih =>
    intro k σ hC h1 h2 hA
    show ∃ τ, bX2_becomeTheLeast_10 F (fX2_becomeTheLeast_10 F m) σ _ = _ ∧ _
    unfold bX2_becomeTheLeast_10 li_ ls_
    cases k with
    | zero =>
      rw [nI_m1, if_pos (by decide), if_pos (by decide)]
      refine ⟨σ, ?_, Sm.rf, fun t ht => hA t (Nat.zero_le t) ht⟩
      have : σ.2.1 16 (0 : Int32).toNatClampNeg = nI (wdE n E A 0) := hA 0 (Nat.le_refl 0) (Nat.zero_le _)
      rw [this]
    | succ s =>
      rw [nI_dn, if_neg (nI_pos (by omega)), xcut hC hF]
      simp only [Option.bind_some]
      rw [lwb hW hC.2.1 hF (show s ≤ 2 ^ n - 1 by omega) (fun t h3 h4 => hA t (by omega) h4)]
      have is_ : ib (nI s) 4096 := nI_in (by omega) (by omega)
      have cs : (nI s).toNatClampNeg = s := nI_clamp (by omega)
      have hc12 := cutE_le n E (nI s)
      have ha12 := hW.le (show s ≤ 2 ^ n - 1 by omega)
      simp only [Option.bind_some, if_pos is_, cs, (mnx (show cutE n E (nI s) < 2 ^ 31 by omega) (show A s < 2 ^ 31 by omega)).2]
      have s1 : Sm [] [16] σ (sa σ 16 s (nI (if cutE n E (nI s) < A s then A s else cutE n E (nI s)))) := Sm.sa (by simp)
      obtain ⟨τ, e, st, ht⟩ := ih s (sa σ 16 s (nI (if cutE n E (nI s) < A s then A s else cutE n E (nI s)))) (hC.sm s1 (by simp) (by simp) (by simp) (by simp) (by simp) (by simp)) (by omega) (by omega) (fun t h3 h4 => by
        rw [sa_2, if_pos rfl, upd_at]
        by_cases hts : t = s
        · rw [if_pos hts, hts]; rfl
        · rw [if_neg hts]; exact hA t (by omega) h4)
      exact ⟨τ, e, s1.tr st, ht⟩
/-- the first that is within -/
def FW (n : Nat) (f : Nat → Nat) (v s c : Nat) : Prop := c < n ∧ (¬ s.testBit c = true ∧ f (s ||| 2 ^ c) ≤ v) ∧ ∀ d, d < c → ¬ (¬ s.testBit d = true ∧ f (s ||| 2 ^ d) ≤ v)
theorem fwi_loop {σ : Sg} {n : Nat} {E : Gr} {A : Nat → Nat} (hW : WC n E A) (h0 : σ.1 0 = nI n) (F : Nat) {s v cs : Nat} (hv : v ≤ 12) (hs : s ≤ 2 ^ n - 1) (hA : ∀ t, t ≤ 2 ^ n - 1 → σ.2.1 16 t = nI (wdE n E A t)) (hc : FW n (wdE n E A) v s cs) : ∀ (m c : Nat), c ≤ cs → cs < c + m → fX2_firstWithin_2 F m σ (nI s) (nI v) (nI c) = some (nI cs, σ) := by
  have hn := hW.n12
  have hp := hW.p12
  obtain ⟨hcs, hP, hF1⟩ := hc
  intro m
  induction m with
  | zero => intro c h1 h2; omega
  | succ m ih =>
    intro c h1 h2
    show bX2_firstWithin_2 F (fX2_firstWithin_2 F m) σ (nI s) (nI v) (nI c) = _
    unfold bX2_firstWithin_2
    rw [h0, if_neg (nI_ge (by omega) (by omega)), nI_1]
    have ho := hW.orb hs (show c < n by omega)
    have hwl := hW.wle ho
    have io : ib (nI (s ||| 2 ^ c)) 4096 := nI_in (by omega) (by omega)
    have co : (nI (s ||| 2 ^ c)).toNatClampNeg = s ||| 2 ^ c := nI_clamp (by omega)
    simp only [t0_nI s (show c < 32 by omega), nI_or (s := s) (show c < 32 by omega), if_pos io, co, hA _ ho, nI_ltI (show v < 2 ^ 31 by omega) (show wdE n E A (s ||| 2 ^ c) < 2 ^ 31 by omega)]
    by_cases hcc : c = cs
    · subst hcc
      rw [if_pos hP.1, if_neg (by have := hP.2; omega)]
    · have hno := hF1 c (by omega)
      have ihk := ih (c + 1) (by omega) (by omega)
      by_cases hb : s.testBit c = true
      · rw [if_neg (fun z => z hb)]; exact ihk
      · rw [if_pos hb, if_pos (Nat.lt_of_not_le fun z => hno ⟨hb, z⟩)]; exact ihk
/-- the row that is found -/
def rsN (r : Nat → Nat) : Nat → Nat
  | 0 => 0
  | k + 1 => rsN r k ||| 2 ^ (r k)
theorem rsN_congr {r q : Nat → Nat} : ∀ k, (∀ j, j < k → r j = q j) → rsN r k = rsN q k := by
  intro k
  induction k with
  | zero => intro _; rfl
  | succ k ih =>
    intro h
    show rsN r k ||| 2 ^ (r k) = rsN q k ||| 2 ^ (q k)
    rw [ih (fun j hj => h j (by omega)), h k (by omega)]
theorem rsN_bt (r : Nat → Nat) : ∀ k c, (rsN r k).testBit c = true ↔ ∃ j, j < k ∧ r j = c := by
  intro k
  induction k with
  | zero => intro c; show (0 : Nat).testBit c = true ↔ _; rw [Nat.zero_testBit]; exact ⟨fun h => by (cases h), fun ⟨j, h, _⟩ => by omega⟩
  | succ k ih =>
    intro c
    show (rsN r k ||| 2 ^ (r k)).testBit c = true ↔ _
    rw [Nat.testBit_or, Bool.or_eq_true, ih c, Nat.testBit_two_pow, decide_eq_true_eq]
    constructor
    · rintro (⟨j, h1, h2⟩ | h)
      · exact ⟨j, by omega, h2⟩
      · exact ⟨k, by omega, h⟩
    · rintro ⟨j, h1, h2⟩
      by_cases e : j = k
      · subst e; exact Or.inr h2
      · exact Or.inl ⟨j, by omega, h2⟩
theorem cnt_all (n : Nat) : cnt n (fun _ => true) = n := by
  induction n with
  | zero => rfl
  | succ n ih => show cnt n (fun _ => true) + 1 = n + 1; rw [ih]
theorem cnt_one {n k : Nat} {p q : Nat → Bool} (hk : k < n) (h : ∀ i, q i = (p i || decide (i = k))) (hp : p k = false) : cnt n q = cnt n p + 1 := by
  induction n with
  | zero => omega
  | succ n ih =>
    show cnt n q + (if q n = true then 1 else 0) = cnt n p + (if p n = true then 1 else 0) + 1
    by_cases e : k = n
    · subst e
      have h1 : cnt k q = cnt k p := cnt_congr fun i hi => by rw [h i]; simp; omega
      rw [h1, if_pos (by rw [h k]; simp), if_neg (by rw [hp]; decide)]
    · rw [ih (by omega)]
      have : q n = p n := by rw [h n]; simp; omega
      rw [this]; omega
theorem exR {n : Nat} {E : Gr} {A : Nat → Nat} (hW : WC n E A) : ∃ r : Nat → Nat, ∀ j, j < n → FW n (wdE n E A) (A 0) (rsN r j) (r j) ∧ rsN r j ≤ 2 ^ n - 1 := by
  have hn := hW.n12
  have hp := hW.p12
  have key : ∀ k, k ≤ n → ∃ r : Nat → Nat, (∀ j, j < k → FW n (wdE n E A) (A 0) (rsN r j) (r j) ∧ rsN r j ≤ 2 ^ n - 1) ∧ rsN r k ≤ 2 ^ n - 1 ∧ cnt n (fun c => (rsN r k).testBit c) = k ∧ A (rsN r k) ≤ A 0 := by
    intro k
    induction k with
    | zero =>
      intro _
      refine ⟨fun _ => 0, fun j hj => by omega, Nat.zero_le _, ?_, Nat.le_refl _⟩
      exact cnt_0.mpr fun i _ => Nat.zero_testBit i
    | succ k ih =>
      intro hk
      obtain ⟨r, h1, h2, h3, h4⟩ := ih (by omega)
      have hne : rsN r k < 2 ^ n - 1 := by
        refine Classical.byContradiction fun z => ?_
        have e : rsN r k = 2 ^ n - 1 := by omega
        have : cnt n (fun c => (rsN r k).testBit c) = cnt n (fun _ => true) := cnt_congr fun i hi => by rw [e, Nat.testBit_two_pow_sub_one, decide_eq_true hi]
        rw [cnt_all] at this; omega
      obtain ⟨c0, hc0, hb0⟩ := out_c hne
      have hex : ∃ c, c < n ∧ (¬ (rsN r k).testBit c = true ∧ wdE n E A (rsN r k ||| 2 ^ c) ≤ A 0) := by
        have e1 : A (rsN r k) = mnl (wdE n E A) (rsN r k) 12 n := hW.A1 _ hne
        rcases mnl_2 (wdE n E A) (rsN r k) 12 n with h | ⟨c, a1, a2, a3⟩
        · have hA0 := hW.le (s := 0) (by omega)
          have w12 := hW.wle (hW.orb h2 hc0)
          exact ⟨c0, hc0, hb0, by omega⟩
        · exact ⟨c, a1, a2, by omega⟩
      obtain ⟨c, hc1, hc2, hc3⟩ : ∃ c, c < n ∧ (¬ (rsN r k).testBit c = true ∧ wdE n E A (rsN r k ||| 2 ^ c) ≤ A 0) ∧ ∀ d, d < c → ¬ (¬ (rsN r k).testBit d = true ∧ wdE n E A (rsN r k ||| 2 ^ d) ≤ A 0) := by
        obtain ⟨c, hc⟩ := hex
        induction c using Nat.strongRecOn with
        | ind c ihc =>
          by_cases h : ∃ d, d < c ∧ (¬ (rsN r k).testBit d = true ∧ wdE n E A (rsN r k ||| 2 ^ d) ≤ A 0)
          · obtain ⟨d, d1, d2⟩ := h
            exact ihc d d1 ⟨by omega, d2⟩
          · exact ⟨c, hc.1, hc.2, fun d hd z => h ⟨d, hd, z⟩⟩
      have ek : ∀ j, j ≤ k → rsN (up1 r k c) j = rsN r j := fun j hj => rsN_congr j fun i hi => up1_o _ _ (by omega)
      have es : rsN (up1 r k c) (k + 1) = rsN r k ||| 2 ^ c := by
        show rsN (up1 r k c) k ||| 2 ^ (up1 r k c k) = _
        rw [ek k (Nat.le_refl k), up1_s]
      refine ⟨up1 r k c, fun j hj => ?_, ?_, ?_, ?_⟩
      · rw [ek j (by omega)]
        by_cases e : j = k
        · subst e; rw [up1_s]; exact ⟨⟨hc1, hc2, hc3⟩, h2⟩
        · rw [up1_o _ _ e]; exact h1 j (by omega)
      · rw [es]; exact hW.orb h2 hc1
      · rw [es, cnt_one hc1 (p := fun c => (rsN r k).testBit c) (fun i => ?_) (by simpa using hc2.1), h3]
        rw [Nat.testBit_or, Nat.testBit_two_pow]
        congr 1
        by_cases h : c = i
        · simp [h]
        · simp [h]; omega
      · rw [es]
        have := hc2.2
        have h5 : A (rsN r k ||| 2 ^ c) ≤ wdE n E A (rsN r k ||| 2 ^ c) := by
          unfold wdE wd; dsimp only; split <;> omega
        omega
  obtain ⟨r, h1, -⟩ := key n (Nat.le_refl n)
  exact ⟨r, h1⟩
/-- a row in part anew -/
def mixr (r row : Nat → Nat) (i : Nat) : Nat → Nat := fun j => if j < i then r j else row j
theorem LR.mix {σ : Sg} {k : Nat} {r row : Nat → Nat} {i : Nat} (h : LR σ k (mixr r row i)) (hr : r i < 12) : LR (sa σ k i (nI (r i))) k (mixr r row (i + 1)) := by
  intro d hd
  rw [sa_2, if_pos rfl, upd_at]
  obtain ⟨a, b⟩ := h d hd
  unfold mixr at a b ⊢
  by_cases e : d = i
  · subst e; rw [if_pos rfl, if_pos (by omega)]; exact ⟨rfl, hr⟩
  · rw [if_neg e]
    by_cases h1 : d < i
    · rw [if_pos h1] at a b; rw [if_pos (by omega)]; exact ⟨a, b⟩
    · rw [if_neg h1] at a b; rw [if_neg (by omega)]; exact ⟨a, b⟩
theorem xrow_loop {n : Nat} {E : Gr} {A : Nat → Nat} (hW : WC n E A) {r row : Nat → Nat} (hr : ∀ j, j < n → FW n (wdE n E A) (A 0) (rsN r j) (r j) ∧ rsN r j ≤ 2 ^ n - 1) {F : Nat} (hF : 40 ≤ F) : ∀ (m i : Nat) (σ : Sg), σ.1 0 = nI n → (∀ t, t ≤ 2 ^ n - 1 → σ.2.1 16 t = nI (wdE n E A t)) → LR σ 15 (mixr r row i) → i ≤ n → n < i + m → ∃ τ, fX2_becomeTheLeast_54 F m σ (nI (A 0)) (nI (rsN r i)) (nI i) = some (nI (A 0), τ) ∧ Sm [] [15] σ τ ∧ LR τ 15 (mixr r row n) := by
  have hn := hW.n12
  have hp := hW.p12
  have hA0 := hW.le (s := 0) (by omega)
  intro m
  induction m with
  | zero => intro i σ _ _ _ h1 h2; omega
  | succ m ih =>
    intro i σ h0 hA hL h1 h2
    show ∃ τ, bX2_becomeTheLeast_54 F (fX2_becomeTheLeast_54 F m) σ _ _ (nI i) = _ ∧ _
    unfold bX2_becomeTheLeast_54 ls_ li_
    rw [h0]
    by_cases hi : i = n
    · subst hi
      rw [if_pos (nI_le (by omega) (by omega))]
      exact ⟨σ, rfl, Sm.rf, hL⟩
    · rw [if_neg (nI_ge (by omega) (by omega)), nI_1]
      obtain ⟨f1, f2⟩ := hr i (by omega)
      have f3 := f1.1
      have ef : fX2_firstWithin F σ (nI (rsN r i)) (nI (A 0)) = some (nI (r i), σ) := by
        have := fwi_loop hW h0 F hA0 f2 hA f1 F 0 (by omega) (by omega)
        rw [nI_0] at this; exact this
      rw [ef]
      have ii : ib (nI i) 12 := nI_in (by omega) (by omega)
      have ci : (nI i).toNatClampNeg = i := nI_clamp (by omega)
      simp only [Option.bind_some, if_pos ii, ci, sa_2, if_true, upd_at, nI_or (s := rsN r i) (show r i < 32 by omega)]
      have s1 : Sm [] [15] σ (sa σ 15 i (nI (r i))) := Sm.sa (by simp)
      obtain ⟨τ, e, st, hl⟩ := ih (i + 1) (sa σ 15 i (nI (r i))) h0 (fun t ht => by rw [s1.2.1 16 (by simp)]; exact hA t ht) (hL.mix (by omega)) (by omega) (by omega)
      exact ⟨τ, e, s1.tr st, hl⟩
theorem cut0 (n : Nat) (E : Gr) : cutE n E (nI 0) = 0 := cnt_0.mpr fun i _ => by
  refine @decide_eq_false _ (Classical.propDecidable _) ?_
  rintro ⟨h, -⟩
  rw [nI_0, b_0] at h; cases h
theorem wd0 (n : Nat) (E : Gr) (A : Nat → Nat) : wdE n E A 0 = A 0 := by
  show (if cutE n E (nI 0) < A 0 then A 0 else cutE n E (nI 0)) = A 0
  rw [cut0]
  by_cases h : 0 < A 0
  · rw [if_pos h]
  · rw [if_neg h]; omega
/-! the reference -/
theorem mworst {σ : Sg} {n : Nat} {E : Gr} {A : Nat → Nat} (hW : WC n E A) (hG : GM σ n E) {F : Nat} (hF : 40 ≤ F) {t : Nat} (ht : t ≤ 2 ^ n - 1) (hA : σ.2.1 41 t = nI (A t)) : fX7_worst F σ (nI t) = some (nI (wdE n E A t), σ) := by
  have hp := hW.p12
  have hn := hW.n12
  have h1 := hW.le ht
  have h2 := cutE_le n E (nI t)
  unfold fX7_worst
  rw [mcut hG hF]
  have it : ib (nI t) 4096 := nI_in (by omega) (by omega)
  have ct : (nI t).toNatClampNeg = t := nI_clamp (by omega)
  simp only [Option.bind_some, if_pos it, ct, hA, nI_leI (show cutE n E (nI t) < 2 ^ 31 by omega) (show A t < 2 ^ 31 by omega)]
  show _ = some (nI (if cutE n E (nI t) < A t then A t else cutE n E (nI t)), σ)
  by_cases h : cutE n E (nI t) ≤ A t
  · rw [if_pos h]
    by_cases h3 : cutE n E (nI t) < A t
    · rw [if_pos h3]
    · rw [if_neg h3, show cutE n E (nI t) = A t by omega]
  · rw [if_neg h, if_neg (by omega)]
theorem m39_loop {σ : Sg} {n : Nat} {E : Gr} {A : Nat → Nat} (hW : WC n E A) (hG : GM σ n E) {F : Nat} (hF : 40 ≤ F) (k29 : Sg → Int32 → Rs) {s : Nat} (hs : s ≤ 2 ^ n - 1) (hA : ∀ t, s < t → t ≤ 2 ^ n - 1 → σ.2.1 41 t = nI (A t)) : ∀ (m c : Nat), c ≤ n → n < c + m → fX7_width_39 F k29 m σ (nI s) (nI (mnl (wdE n E A) s 13 c)) (nI c) = k29 (sa σ 41 s (nI (mnl (wdE n E A) s 13 n))) (nI s + Int32.ofInt (-1)) := by
  have hn := hW.n12
  have hp := hW.p12
  intro m
  induction m with
  | zero => intro c h1 h2; omega
  | succ m ih =>
    intro c h1 h2
    show bX7_width_39 F k29 (fX7_width_39 F k29 m) σ (nI s) _ (nI c) = _
    unfold bX7_width_39 ls_
    rw [hG.2.1]
    by_cases hc : c = n
    · subst hc
      have is_ : ib (nI s) 4096 := nI_in (by omega) (by omega)
      have cs : (nI s).toNatClampNeg = s := nI_clamp (by omega)
      rw [if_pos (nI_le (by omega) (by omega))]
      simp only [if_pos is_, cs]
    · rw [if_neg (nI_ge (by omega) (by omega)), nI_1]
      simp only [t1_nI s (show c < 32 by omega), nI_or (s := s) (show c < 32 by omega)]
      have ihk := ih (c + 1) (by omega) (by omega)
      have e : mnl (wdE n E A) s 13 (c + 1) = if s.testBit c = true then mnl (wdE n E A) s 13 c else (if wdE n E A (s ||| 2 ^ c) < mnl (wdE n E A) s 13 c then wdE n E A (s ||| 2 ^ c) else mnl (wdE n E A) s 13 c) := rfl
      by_cases hb : s.testBit c = true
      · rw [e, if_pos hb] at ihk
        rw [if_pos hb]
        exact ihk
      · rw [e, if_neg hb] at ihk
        have ho := hW.orb hs (show c < n by omega)
        have hwl := hW.wle ho
        have hml := mnl_le (wdE n E A) s 13 c
        rw [if_neg hb, mworst hW hG hF ho (hA _ (or_gt hb) ho)]
        simp only [Option.bind_some, nI_leI (show mnl (wdE n E A) s 13 c < 2 ^ 31 by omega) (show wdE n E A (s ||| 2 ^ c) < 2 ^ 31 by omega)]
        by_cases hl : wdE n E A (s ||| 2 ^ c) < mnl (wdE n E A) s 13 c
        · rw [if_pos hl] at ihk
          rw [if_neg (by omega)]; exact ihk
        · rw [if_neg hl] at ihk
          rw [if_pos (by omega)]; exact ihk
theorem mnl_13 {n : Nat} {E : Gr} {A : Nat → Nat} (hW : WC n E A) {s : Nat} (hs : s < 2 ^ n - 1) : mnl (wdE n E A) s 13 n = A s := by
  obtain ⟨c0, hc0, hb0⟩ := out_c hs
  rw [hW.A1 s hs]
  have l1 := mnl_1 (wdE n E A) s 13 n c0 hc0 hb0
  have l2 := mnl_1 (wdE n E A) s 12 n c0 hc0 hb0
  have w0 := hW.wle (hW.orb (show s ≤ 2 ^ n - 1 by omega) hc0)
  rcases mnl_2 (wdE n E A) s 13 n with h | ⟨c, a1, a2, a3⟩
  · omega
  · have l3 := mnl_1 (wdE n E A) s 12 n c a1 a2
    show mnl (wdE n E A) s 13 n = mnl (wdE n E A) s 12 n
    rcases mnl_2 (wdE n E A) s 12 n with h | ⟨d, b1, b2, b3⟩
    · omega
    · have l4 := mnl_1 (wdE n E A) s 13 n d b1 b2
      omega
theorem m29_loop {n : Nat} {E : Gr} {A : Nat → Nat} (hW : WC n E A) {F : Nat} (hF : 40 ≤ F) : ∀ (m k : Nat) (σ : Sg), GM σ n E → k ≤ 2 ^ n - 1 → k < m → (∀ t, k ≤ t → t ≤ 2 ^ n - 1 → σ.2.1 41 t = nI (A t)) → ∃ τ, fX7_width_29 F m σ (nI k + Int32.ofInt (-1)) = fX7_width_105 F F τ 0 0 ∧ Sm [] [41] σ τ ∧ ∀ t, t ≤ 2 ^ n - 1 → τ.2.1 41 t = nI (A t) := by
  have hn := hW.n12
  have hp := hW.p12
  intro m
  induction m with
  | zero => intro k σ _ h1 h2; omega
  | succ m ih =>
    intro k σ hG h1 h2 hA
    show ∃ τ, bX7_width_29 F (fX7_width_29 F m) σ _ = _ ∧ _
    unfold bX7_width_29
    cases k with
    | zero =>
      rw [nI_m1, if_pos (by decide)]
      exact ⟨σ, rfl, Sm.rf, fun t ht => hA t (Nat.zero_le t) ht⟩
    | succ s =>
      rw [nI_dn, if_neg (nI_pos (by omega))]
      have e := m39_loop hW hG hF (fX7_width_29 F m) (show s ≤ 2 ^ n - 1 by omega) (fun t h3 h4 => hA t (by omega) h4) F 0 (by omega) (by omega)
      rw [show mnl (wdE n E A) s 13 0 = 13 from rfl, nI_0, show nI 13 = 13 by decide, mnl_13 hW (by omega)] at e
      rw [e]
      have s1 : Sm [] [41] σ (sa σ 41 s (nI (A s))) := Sm.sa (by simp)
      obtain ⟨τ, e2, st, ht⟩ := ih s (sa σ 41 s (nI (A s))) (hG.sm s1 (by simp) (by simp) (by simp) (by simp)) (by omega) (by omega) (fun t h3 h4 => by
        rw [sa_2, if_pos rfl, upd_at]
        by_cases hts : t = s
        · rw [if_pos hts, hts]
        · rw [if_neg hts]; exact hA t (by omega) h4)
      exact ⟨τ, e2, s1.tr st, ht⟩
theorem m116_loop {σ : Sg} {n : Nat} {E : Gr} {A : Nat → Nat} (hW : WC n E A) (hG : GM σ n E) {F : Nat} (hF : 40 ≤ F) (k105 : Sg → Int32 → Int32 → Rs) {s cs i : Nat} (hi : i < 12) (hs : s ≤ 2 ^ n - 1) (hA : ∀ t, t ≤ 2 ^ n - 1 → σ.2.1 41 t = nI (A t)) (hc : FW n (wdE n E A) (A 0) s cs) : ∀ (m c : Nat), c ≤ cs → cs < c + m → fX7_width_116 F k105 m σ (nI s) (nI i) (nI c) = k105 (sa σ 28 i (nI cs)) (nI (s ||| 2 ^ cs)) (nI (i + 1)) := by
  have hn := hW.n12
  have hp := hW.p12
  have hA0 := hW.le (s := 0) (by omega)
  obtain ⟨hcs, hP, hF1⟩ := hc
  intro m
  induction m with
  | zero => intro c h1 h2; omega
  | succ m ih =>
    intro c h1 h2
    show bX7_width_116 F k105 (fX7_width_116 F k105 m) σ (nI s) (nI i) (nI c) = _
    unfold bX7_width_116 ls_ li_
    have ho := hW.orb hs (show c < n by omega)
    have hwl := hW.wle ho
    have ii : ib (nI i) 12 := nI_in (by omega) (by omega)
    have ci : (nI i).toNatClampNeg = i := nI_clamp (by omega)
    have a0 : σ.2.1 41 (0 : Int32).toNatClampNeg = nI (A 0) := hA 0 (Nat.zero_le _)
    have ew : fX7_worst F σ (nI s ||| ((1 : Int32) <<< (nI c &&& 31))) = some (nI (wdE n E A (s ||| 2 ^ c)), σ) := by rw [nI_or (s := s) (show c < 32 by omega)]; exact mworst hW hG hF ho (hA _ ho)
    rw [ew]
    simp only [t1_nI s (show c < 32 by omega), nI_or (s := s) (show c < 32 by omega), Option.bind_some, if_pos (show ib (0 : Int32) 4096 by decide), a0, nI_leI (show wdE n E A (s ||| 2 ^ c) < 2 ^ 31 by omega) (show A 0 < 2 ^ 31 by omega), if_pos ii, ci, nI_1]
    by_cases hcc : c = cs
    · subst hcc
      rw [if_neg hP.1, if_pos hP.2]
    · have hno := hF1 c (by omega)
      have ihk := ih (c + 1) (by omega) (by omega)
      by_cases hb : s.testBit c = true
      · rw [if_pos hb]; exact ihk
      · rw [if_neg hb, if_neg (fun z => hno ⟨hb, z⟩)]; exact ihk
theorem mrow_loop {n : Nat} {E : Gr} {A : Nat → Nat} (hW : WC n E A) {r row : Nat → Nat} (hr : ∀ j, j < n → FW n (wdE n E A) (A 0) (rsN r j) (r j) ∧ rsN r j ≤ 2 ^ n - 1) {F : Nat} (hF : 40 ≤ F) : ∀ (m i : Nat) (σ : Sg), GM σ n E → (∀ t, t ≤ 2 ^ n - 1 → σ.2.1 41 t = nI (A t)) → LR σ 28 (mixr r row i) → i ≤ n → n < i + m → ∃ τ, fX7_width_105 F m σ (nI (rsN r i)) (nI i) = some (nI (A 0), τ) ∧ Sm [] [28] σ τ ∧ LR τ 28 (mixr r row n) := by
  have hn := hW.n12
  have hp := hW.p12
  intro m
  induction m with
  | zero => intro i σ _ _ _ h1 h2; omega
  | succ m ih =>
    intro i σ hG hA hL h1 h2
    show ∃ τ, bX7_width_105 F (fX7_width_105 F m) σ _ (nI i) = _ ∧ _
    unfold bX7_width_105
    rw [hG.2.1]
    by_cases hi : i = n
    · subst hi
      rw [if_pos (nI_le (by omega) (by omega)), if_pos (by decide)]
      have : σ.2.1 41 (0 : Int32).toNatClampNeg = nI (A 0) := hA 0 (Nat.zero_le _)
      rw [this]
      exact ⟨σ, rfl, Sm.rf, hL⟩
    · rw [if_neg (nI_ge (by omega) (by omega))]
      obtain ⟨f1, f2⟩ := hr i (by omega)
      have f3 := f1.1
      have e := m116_loop hW hG hF (fX7_width_105 F m) (show i < 12 by omega) f2 hA f1 F 0 (by omega) (by omega)
      rw [nI_0] at e
      rw [e]
      have s1 : Sm [] [28] σ (sa σ 28 i (nI (r i))) := Sm.sa (by simp)
      obtain ⟨τ, e2, st, hl⟩ := ih (i + 1) (sa σ 28 i (nI (r i))) (hG.sm s1 (by simp) (by simp) (by simp) (by simp)) (fun t ht => by rw [s1.2.1 41 (by simp)]; exact hA t ht) (hL.mix (by omega)) (by omega) (by omega)
      exact ⟨τ, e2, s1.tr st, hl⟩
theorem step_width (σ : Sg) (wn : Option Nat) (hI : Inv_ σ wn) : PairOk Inv_ σ wn (fun F σ => fX6_width F σ) (fun F σ => fX7_width F σ) := by
  have hI0 := hI
  obtain ⟨n, E, mo, row, K, S, O, hD⟩ := hI
  obtain ⟨hGC, hGM, hMO, hLY, hL1, hL2, hHI, hXN, hXH, hMH, hPL⟩ := id hD
  obtain ⟨F, hF0⟩ : ∃ F : Nat, 5000 ≤ F := ⟨5000, Nat.le_refl _⟩
  have hF : 40 ≤ F := by omega
  have hn := hGC.1.1
  have n0 : nI n = 0 ↔ n = 0 := by rw [← nI_0, nI_eq (by omega) (by omega)]
  by_cases hn0 : n = 0
  · refine PairOk.same hI0 (F := F) (r := -1) ?_ ?_
    · show fX6_width F σ = _
      unfold fX6_width; rw [hGC.2.1, if_pos (n0.mpr hn0)]
    · show fX7_width F σ = _
      unfold fX7_width; rw [hGM.2.1, if_pos (n0.mpr hn0)]
  · obtain ⟨A, hA0, hA1⟩ := exA n (fun s => cutE n E (nI s))
    have hW : WC n E A := ⟨⟨by omega, hn⟩, hA0, hA1⟩
    have hp := hW.p12
    obtain ⟨r, hr⟩ := exR hW
    have m0 : ∀ {τ : Sg} {k : Nat}, LR τ k row → LR τ k (mixr r row 0) := fun h d hd => by
      unfold mixr; rw [if_neg (by omega)]; exact h d hd
    have eall : nI (2 ^ n) + Int32.ofInt (-1) = all_ n := by
      have := nI_dn (2 ^ n - 1)
      rw [show 2 ^ n - 1 + 1 = 2 ^ n by omega] at this
      rw [this, all_nI n hn]
    obtain ⟨σ1, b1, b2, b3⟩ := bec_loop hW hF F (2 ^ n) σ hGC (Nat.le_refl _) (by omega) (fun t h1 h2 => by omega)
    rw [eall, wd0] at b1
    obtain ⟨σ2, c1, c2, c3⟩ := xrow_loop hW hr (row := row) hF F 0 σ1 ((b2.1 0 (by simp)).trans hGC.2.1) b3 (m0 (hL1.sm b2 (by simp))) (by omega) (by omega)
    rw [show rsN r 0 = 0 from rfl, nI_0] at c1
    have s12 : Sm [] [15, 16] σ σ2 := (b2.up (by simp) (fun k hk => by simp at hk; simp [hk])).tr (c2.up (by simp) (fun k hk => by simp at hk; simp [hk]))
    have xw : fX6_width F σ = some (nI (A 0), σ2) := by
      unfold fX6_width fX2_becomeTheLeast fX1_allCaves
      rw [hGC.2.1, if_neg (fun z => hn0 (n0.mp z))]
      simp only [Option.bind_some]
      show (fX2_becomeTheLeast_10 F F σ (all_ n)).bind _ = _
      rw [b1, c1]; rfl
    have hG2 := hGM.sm s12 (by simp) (by simp) (by simp) (by simp)
    have s3 : Sm [] [41] σ2 (sa σ2 41 (2 ^ n - 1) 0) := Sm.sa (by simp)
    have hG3 := hG2.sm s3 (by simp) (by simp) (by simp) (by simp)
    obtain ⟨σ4, d1, d2, d3⟩ := m29_loop hW hF F (2 ^ n - 1) (sa σ2 41 (2 ^ n - 1) 0) hG3 (Nat.le_refl _) (by omega) (fun t h1 h2 => by
      have : t = 2 ^ n - 1 := by omega
      rw [this, sa_2, if_pos rfl, upd_at, if_pos rfl, hA0, nI_0])
    have hG4 := hG3.sm d2 (by simp) (by simp) (by simp) (by simp)
    have s24 : Sm [] [28, 41] σ2 σ4 := (s3.up (by simp) (fun k hk => by simp at hk; simp [hk])).tr (d2.up (by simp) (fun k hk => by simp at hk; simp [hk]))
    have hL24 : LR σ4 28 row := ((hL2.sm s12 (by simp)).sm s3 (by simp)).sm d2 (by simp)
    obtain ⟨σ5, f1, f2, f3⟩ := mrow_loop hW hr (row := row) hF F 0 σ4 hG4 d3 (m0 hL24) (by omega) (by omega)
    rw [show rsN r 0 = 0 from rfl, nI_0] at f1
    have s25 : Sm [] [28, 41] σ2 σ5 := s24.tr (f2.up (by simp) (fun k hk => by simp at hk; simp [hk]))
    have hs : Sm [] [15, 16, 28, 41] σ σ5 := (s12.up (by simp) (fun k hk => by simp at hk; simp; omega)).tr (s25.up (by simp) (fun k hk => by simp at hk; simp; omega))
    have mw : fX7_width F σ2 = some (nI (A 0), σ5) := by
      unfold fX7_width li_ ls_
      rw [hG2.2.1, if_neg (fun z => hn0 (n0.mp z))]
      show (if ib (all_ n) 4096 then fX7_width_29 F F (sa σ2 41 (all_ n).toNatClampNeg 0) (all_ n - 1) else none) = _
      rw [all_nI n hn]
      have ia : ib (nI (2 ^ n - 1)) 4096 := nI_in (by omega) (by omega)
      have ca : (nI (2 ^ n - 1)).toNatClampNeg = 2 ^ n - 1 := nI_clamp (by omega)
      have e1 : nI (2 ^ n - 1) - 1 = nI (2 ^ n - 1) + Int32.ofInt (-1) := by
        obtain ⟨q, hq⟩ : ∃ q, 2 ^ n - 1 = q + 1 := ⟨2 ^ n - 2, by omega⟩
        rw [hq, nI_dn, nI_pred]
      simp only [if_pos ia, ca, e1]
      rw [d1, f1]
    have hLYr : LY n (mixr r row n) := by
      refine ⟨fun i hi => ?_, fun c hc => ?_⟩
      · unfold mixr; rw [if_pos hi]; exact (hr i hi).1.1
      · have hinj : ∀ i, i < n → ∀ j, j < i → r j ≠ r i := fun i hi j hj e => (hr i hi).1.2.1.1 ((rsN_bt r i (r i)).mpr ⟨j, hj, e⟩)
        have hcn : ∀ k, k ≤ n → cnt n (fun c => (rsN r k).testBit c) = k := by
          intro k
          induction k with
          | zero => intro _; exact cnt_0.mpr fun i _ => Nat.zero_testBit i
          | succ k ih =>
            intro hk
            have e : ∀ i, (rsN r (k + 1)).testBit i = ((rsN r k).testBit i || decide (i = r k)) := fun i => by
              show (rsN r k ||| 2 ^ (r k)).testBit i = _
              rw [Nat.testBit_or, Nat.testBit_two_pow]
              congr 1
              by_cases h : r k = i
              · simp [h]
              · simp [h]; omega
            have h1 := (hr k (by omega)).1
            rw [cnt_one h1.1 e (by simpa using h1.2.1.1), ih (by omega)]
        have hcc := hcn n (Nat.le_refl n)
        have hb : (rsN r n).testBit c = true := by
          cases h : (rsN r n).testBit c with
          | true => rfl
          | false =>
            have := cnt_lt (n := n) (p := fun c => (rsN r n).testBit c) (q := fun _ => true) (fun _ _ _ => rfl) hc h rfl
            rw [cnt_all] at this; omega
        obtain ⟨j, h1, h2⟩ := (rsN_bt r n c).mp hb
        exact ⟨j, h1, by unfold mixr; rw [if_pos h1]; exact h2⟩
    exact ⟨F, nI (A 0), σ2, σ5, wn, xw, mw, ⟨n, E, mo, mixr r row n, K, S, O, hGC.sm hs (by simp) (by simp) (by simp) (by simp) (by simp) (by simp), hGM.sm hs (by simp) (by simp) (by simp) (by simp), hMO.sm hs (by simp) (by simp), hLYr, c3.sm s25 (by simp), f3, hHI, hXN.sm hs (by simp) (by simp) (by simp) (by simp), hXH.sm hs (by simp) (by simp) (by simp) (by simp) (by simp) (by simp) (by simp), hMH.sm hs (by simp) (by simp) (by simp) (by simp) (by simp) (by simp), hPL.sm hs (by simp) (by simp) (by simp)⟩, hs.keep (by simp)⟩
