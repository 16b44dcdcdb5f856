/-! ===== the reference's reached ===== -/
def ClR (E : Gr) (y s S : Nat → Prop) : Prop := (∀ i, s i → S i) ∧ ∀ p a b, E p = some (a, b) → y p → (S a → S b) ∧ (S b → S a)
def LeR (E : Gr) (y s v : Nat → Prop) : Prop := ClR E y s v ∧ ∀ S, ClR E y s S → ∀ i, v i → S i
theorem LeR.uniq {E : Gr} {y s v w : Nat → Prop} (h1 : LeR E y s v) (h2 : LeR E y s w) (i : Nat) : v i ↔ w i := ⟨fun h => h1.2 w h2.1 i h, fun h => h2.2 v h1.1 i h⟩
def rp (E : Gr) (y : Int32) (p : Nat) (x : Int32) : Int32 := match E p with
  | none => x
  | some (a, b) => if bt y p = true ∧ (bt x a = true ∨ bt x b = true) then (x ||| ((1 : Int32) <<< (nI a &&& 31))) ||| ((1 : Int32) <<< (nI b &&& 31)) else x
def rX (E : Gr) (y : Int32) : Nat → Nat → Int32 → Int32
  | 0, _, x => x
  | m + 1, p, x => rX E y m (p + 1) (rp E y p x)
theorem rp_bt {E : Gr} (hE : ∀ p a b, E p = some (a, b) → p < 18 ∧ a < 12 ∧ b < 12) (y : Int32) (p : Nat) (x : Int32) (i : Nat) : bt (rp E y p x) i = true ↔ (bt x i = true ∨ ∃ a b, E p = some (a, b) ∧ bt y p = true ∧ (bt x a = true ∨ bt x b = true) ∧ (i = a ∨ i = b)) := by
  unfold rp
  cases h : E p with
  | none => exact ⟨fun z => Or.inl z, fun z => by rcases z with z | ⟨a, b, z, -⟩; exact z; cases z⟩
  | some q =>
    obtain ⟨a, b⟩ := q
    obtain ⟨h1, h2, h3⟩ := hE p a b h
    dsimp only
    by_cases hc : bt y p = true ∧ (bt x a = true ∨ bt x b = true)
    · rw [if_pos hc, b_or, b_or, b_bit (by omega), b_bit (by omega)]
      constructor
      · intro z
        rw [Bool.or_eq_true, Bool.or_eq_true, decide_eq_true_eq, decide_eq_true_eq] at z
        rcases z with (z | z) | z
        · exact Or.inl z
        · exact Or.inr ⟨a, b, rfl, hc.1, hc.2, Or.inl z⟩
        · exact Or.inr ⟨a, b, rfl, hc.1, hc.2, Or.inr z⟩
      · rintro (z | ⟨a', b', z, -, -, z3⟩)
        · rw [z]; simp
        · cases z
          rcases z3 with z3 | z3
          · simp [z3]
          · simp [z3]
    · rw [if_neg hc]
      refine ⟨fun z => Or.inl z, fun z => ?_⟩
      rcases z with z | ⟨a', b', z, z1, z2, -⟩
      · exact z
      · cases z; exact absurd ⟨z1, z2⟩ hc
theorem rX_le {E : Gr} (hE : ∀ p a b, E p = some (a, b) → p < 18 ∧ a < 12 ∧ b < 12) (y : Int32) : ∀ (m p : Nat) (x : Int32) (i : Nat), bt x i = true → bt (rX E y m p x) i = true := by
  intro m
  induction m with
  | zero => intro p x i h; exact h
  | succ m ih => intro p x i h; exact ih (p + 1) _ i ((rp_bt hE y p x i).mpr (Or.inl h))
theorem rX_in {E : Gr} (hE : ∀ p a b, E p = some (a, b) → p < 18 ∧ a < 12 ∧ b < 12) (y : Int32) {s S : Nat → Prop} (hS : ClR E (fun p => bt y p = true) s S) : ∀ (m p : Nat) (x : Int32), (∀ i, bt x i = true → S i) → ∀ i, bt (rX E y m p x) i = true → S i := by
  intro m
  induction m with
  | zero => intro p x h; exact h
  | succ m ih =>
    intro p x h
    refine ih (p + 1) _ fun i hi => ?_
    rcases (rp_bt hE y p x i).mp hi with z | ⟨a, b, e, e1, e2, e3⟩
    · exact h i z
    · obtain ⟨c1, c2⟩ := hS.2 p a b e e1
      have hab : S a ∧ S b := by
        rcases e2 with e2 | e2
        · exact ⟨h a e2, c1 (h a e2)⟩
        · exact ⟨c2 (h b e2), h b e2⟩
      rcases e3 with rfl | rfl
      · exact hab.1
      · exact hab.2
theorem rX_fix {E : Gr} (hE : ∀ p a b, E p = some (a, b) → p < 18 ∧ a < 12 ∧ b < 12) (y : Int32) : ∀ (m p : Nat) (x : Int32), rX E y m p x = x → ∀ q, p ≤ q → q < p + m → ∀ a b, E q = some (a, b) → bt y q = true → (bt x a = true → bt x b = true) ∧ (bt x b = true → bt x a = true) := by
  intro m
  induction m with
  | zero => intro p x h q h1 h2; omega
  | succ m ih =>
    intro p x h q h1 h2 a b e ey
    have h0 : rp E y p x = x := b_ext' fun i => ⟨fun z => by rw [← h]; exact rX_le hE y m (p + 1) _ i z, fun z => (rp_bt hE y p x i).mpr (Or.inl z)⟩
    by_cases hq : q = p
    · subst hq
      constructor
      · intro z; rw [← h0]; exact (rp_bt hE y q x b).mpr (Or.inr ⟨a, b, e, ey, Or.inl z, Or.inr rfl⟩)
      · intro z; rw [← h0]; exact (rp_bt hE y q x a).mpr (Or.inr ⟨a, b, e, ey, Or.inr z, Or.inl rfl⟩)
    · have h' : rX E y m (p + 1) x = x := by
        have : rX E y m (p + 1) (rp E y p x) = x := h
        rw [h0] at this; exact this
      exact ih (p + 1) x h' q (by omega) (by omega) a b e ey
theorem rea_ps {σ : Sg} {n : Nat} {E : Gr} (hG : GM σ n E) (F : Nat) (k5 : Sg → Int32 → Int32 → Int32 → Rs) (y was : Int32) : ∀ (m p : Nat) (x : Int32), p + m = 18 → ∀ f, fX7_reached_16 F k5 (m + 1 + f) σ y x was (nI p) = k5 σ y (rX E y m p x) (if rX E y m p x = was then 0 else 1) := by
  have hE := hG.1.e12
  intro m
  induction m with
  | zero =>
    intro p x hp f
    rw [show 0 + 1 + f = f + 1 by omega]
    show bX7_reached_16 F k5 (fX7_reached_16 F k5 f) σ y x was (nI p) = _
    unfold bX7_reached_16
    have : p = 18 := by omega
    subst this
    rw [if_pos (by decide)]
    show (if x = was then _ else _) = k5 σ y x _
    by_cases h : x = was
    · rw [if_pos h]; show _ = k5 σ y x (if x = was then 0 else 1); rw [if_pos h]
    · rw [if_neg h]; show _ = k5 σ y x (if x = was then 0 else 1); rw [if_neg h]
  | succ m ih =>
    intro p x hp f
    rw [show m + 1 + 1 + f = (m + 1 + f) + 1 by omega]
    show bX7_reached_16 F k5 (fX7_reached_16 F k5 (m + 1 + f)) σ y x was (nI p) = _
    unfold bX7_reached_16 bX7_reached_75 li_
    have hcp : (nI p).toNatClampNeg = p := nI_clamp (by omega)
    have ip : ib (nI p) 18 := nI_in (by omega) (by omega)
    have goal : ∀ z, z = rp E y p x → fX7_reached_16 F k5 (m + 1 + f) σ y z was (nI p + 1) = k5 σ y (rX E y (m + 1) p x) (if rX E y (m + 1) p x = was then 0 else 1) := by
      intro z hz
      rw [hz, nI_1]
      exact ih (p + 1) (rp E y p x) (by omega) f
    rw [if_neg (n18 (by omega))]
    simp only [if_pos ip, hcp, hG.2.2.1 p (by omega)]
    cases h : E p with
    | none =>
      rw [if_pos (show (if (none : Option (Nat × Nat)).isSome = true then (1 : Int32) else 0) = 0 from rfl)]
      refine goal x ?_
      unfold rp; rw [h]
    | some q =>
      obtain ⟨a, b⟩ := q
      obtain ⟨h1, h2, h3⟩ := hE p a b h
      obtain ⟨y1, y2⟩ := hG.2.2.2 p a b h
      rw [if_neg (show ¬ (if (some (a, b)).isSome = true then (1 : Int32) else 0) = 0 from fun z => absurd (show (1 : Int32) = 0 from z) (by decide))]
      have hrp : rp E y p x = if bt y p = true ∧ (bt x a = true ∨ bt x b = true) then (x ||| ((1 : Int32) <<< (nI a &&& 31))) ||| ((1 : Int32) <<< (nI b &&& 31)) else x := by unfold rp; rw [h]
      rw [y1, y2]
      by_cases hy : bt y p = true
      · rw [if_neg (show ¬ (y >>> (nI p &&& 31)) &&& 1 = 0 from fun z => by rw [(b_t0 (by omega)).mp z] at hy; cases hy)]
        by_cases ha : bt x a = true
        · rw [if_pos (show (x >>> (nI a &&& 31)) &&& 1 = 1 from (b_t1 (by omega)).mpr ha)]
          exact goal _ (by rw [hrp, if_pos ⟨hy, Or.inl ha⟩])
        · rw [if_neg (show ¬ (x >>> (nI a &&& 31)) &&& 1 = 1 from fun z => ha ((b_t1 (by omega)).mp z))]
          by_cases hb : bt x b = true
          · rw [if_pos (show (x >>> (nI b &&& 31)) &&& 1 = 1 from (b_t1 (by omega)).mpr hb)]
            exact goal _ (by rw [hrp, if_pos ⟨hy, Or.inr hb⟩])
          · rw [if_neg (show ¬ (x >>> (nI b &&& 31)) &&& 1 = 1 from fun z => hb ((b_t1 (by omega)).mp z))]
            exact goal _ (by rw [hrp, if_neg (fun z => by rcases z.2 with z | z; exact ha z; exact hb z)])
      · rw [if_pos (show (y >>> (nI p &&& 31)) &&& 1 = 0 from (b_t0 (by omega)).mpr (by simpa using hy))]
        exact goal _ (by rw [hrp, if_neg (fun z => hy z.1)])
theorem rea_out {σ : Sg} {n : Nat} {E : Gr} (hG : GM σ n E) {F : Nat} (hF : 40 ≤ F) (y : Int32) {s : Nat → Prop} : ∀ (m : Nat) (x : Int32), cnt 12 (fun i => !bt x i) + 2 ≤ m → (∀ i, bt x i = true → i < 12) → (∀ i, s i → bt x i = true) → (∀ S, ClR E (fun p => bt y p = true) s S → ∀ i, bt x i = true → S i) →
    ∃ v, fX7_reached_5 F m σ y x 1 = some (v, σ) ∧ LeR E (fun p => bt y p = true) s (fun i => bt v i = true) := by
  have hE := hG.1.e12
  intro m
  induction m with
  | zero => intro x h; omega
  | succ m ih =>
    intro x hm hx hs hle
    show ∃ v, bX7_reached_5 F (fX7_reached_5 F m) σ y x 1 = _ ∧ _
    unfold bX7_reached_5
    rw [if_neg (by decide)]
    have e := rea_ps hG F (fX7_reached_5 F m) y x 18 0 x (by omega) (F - 19)
    rw [show 18 + 1 + (F - 19) = F by omega, nI_0] at e
    rw [e]
    have hin := fun S hS => rX_in hE y (s := s) (S := S) hS 18 0 x (hle S hS)
    by_cases h : rX E y 18 0 x = x
    · rw [h, if_pos rfl]
      refine ⟨x, ?_, ⟨hs, fun p a b e1 e2 => rX_fix hE y 18 0 x h p (by omega) (by have := (hE p a b e1).1; omega) a b e1 e2⟩, hle⟩
      cases m with
      | zero => omega
      | succ m => rfl
    · rw [if_neg h]
      have hlex := rX_le hE y 18 0 x
      have hb12 : ∀ i, bt (rX E y 18 0 x) i = true → i < 12 := by
        have := rX_in hE y (s := s) (S := fun i => i < 12) ⟨fun i hi => hx i (hs i hi), fun p a b e1 _ => ⟨fun _ => (hE p a b e1).2.2, fun _ => (hE p a b e1).2.1⟩⟩ 18 0 x hx
        exact this
      refine ih _ ?_ hb12 (fun i hi => hlex i (hs i hi)) hin
      have hne : ∃ i, bt (rX E y 18 0 x) i = true ∧ ¬ bt x i = true := Classical.byContradiction fun hc => h (b_ext' fun i => ⟨fun z => Classical.byContradiction fun z2 => hc ⟨i, z, z2⟩, fun z => hlex i z⟩)
      obtain ⟨i, i1, i2⟩ := hne
      have : cnt 12 (fun i => !bt (rX E y 18 0 x) i) < cnt 12 (fun i => !bt x i) := cnt_lt (fun j _ hj => by
        cases hxj : bt x j with
        | false => rfl
        | true => rw [hlex j hxj] at hj; cases hj) (hb12 i i1) (by simp [i1]) (by simpa using i2)
      omega
/-- reached: the least set that holds some and is shut over the passages allowed -/
theorem rea {σ : Sg} {n : Nat} {E : Gr} (hG : GM σ n E) {F : Nat} (hF : 40 ≤ F) (s y : Int32) (hs : ∀ i, bt s i = true → i < 12) : ∃ v, fX7_reached F σ s y = some (v, σ) ∧ LeR E (fun p => bt y p = true) (fun i => bt s i = true) (fun i => bt v i = true) :=
  rea_out hG hF y F s (by have := cnt_le 12 (fun i => !bt s i); omega) hs (fun _ h => h) (fun S hS i hi => hS.1 i hi)
/-! ===== parts and pieces ===== -/
theorem comp_ {σ : Sg} {n : Nat} {E : Gr} (hC : GC σ n E) (hG : GM σ n E) {F : Nat} (hF : 40 ≤ F) {c : Nat} (hc : c < n) : ∃ v, fX1_spread F σ ((1 : Int32) <<< (nI c &&& 31)) 0 = some (v, σ) ∧ fX7_reached F σ ((1 : Int32) <<< (nI c &&& 31)) (-1) = some (v, σ) ∧ bt v c = true := by
  have hn := hC.1.1
  have hN : ∀ c, c < n → ∀ d, bt (σ.2.1 5 c) d = true → d < n := fun c hc d hd => by
    obtain ⟨p, a, b, e, h⟩ := (hC.2.2.2.2.2 c (by omega) d).mp hd
    have := hC.1.2 p a b e
    omega
  have hs : ∀ i, bt ((1 : Int32) <<< (nI c &&& 31)) i = true → i < n := fun i hi => by
    rw [b_bit (by omega)] at hi; simp at hi; omega
  obtain ⟨v, e1, h1⟩ := spr hC.gn (F := F) (by omega) hN ((1 : Int32) <<< (nI c &&& 31)) 0 hs
  obtain ⟨w, e2, h2⟩ := rea hG hF ((1 : Int32) <<< (nI c &&& 31)) (-1) (fun i hi => by have := hs i hi; omega)
  have hvw : v = w := b_ext' fun i => by
    constructor
    · refine h1.2 _ ⟨h2.1.1, fun c d hc hS hcd _ => ?_⟩ i
      obtain ⟨p, a, b, e, h⟩ := (hC.2.2.2.2.2 c (by omega) d).mp hcd
      have := h2.1.2 p a b e (b_m1 p (by have := (hC.1.2 p a b e).1; omega))
      rcases h with ⟨rfl, rfl⟩ | ⟨rfl, rfl⟩
      · exact this.1 hS
      · exact this.2 hS
    · refine h2.2 _ ⟨h1.1.1, fun p a b e _ => ?_⟩ i
      obtain ⟨l1, l2, l3⟩ := hC.1.2 p a b e
      exact ⟨fun z => h1.1.2 a b (by omega) z ((hC.2.2.2.2.2 a (by omega) b).mpr ⟨p, a, b, e, Or.inl ⟨rfl, rfl⟩⟩) (by show ¬ bt 0 b = true; rw [b_0]; decide), fun z => h1.1.2 b a (by omega) z ((hC.2.2.2.2.2 b (by omega) a).mpr ⟨p, a, b, e, Or.inr ⟨rfl, rfl⟩⟩) (by show ¬ bt 0 a = true; rw [b_0]; decide)⟩
  refine ⟨v, e1, by rw [hvw]; exact e2, ?_⟩
  exact h1.1.1 c (by show bt ((1 : Int32) <<< (nI c &&& 31)) c = true; rw [b_bit (by omega)]; simp)
theorem pie_in (F : Nat) (σ : Sg) (k11 : Sg → Int32 → Int32 → Rs) (left ct : Int32) {c : Nat} (hc : c < 12) (h1 : bt left c = true) (h2 : ∀ j, j < c → ¬ bt left j = true) : ∀ (m j : Nat), j ≤ c → c < j + m → fX7_pieces_17 F k11 m σ left ct (nI j) = ((fX7_reached F σ ((1 : Int32) <<< (nI c &&& 31)) ((-1 : Int32))).bind fun q1 => (fun (r1 : Int32) (σ1 : Sg) => k11 σ1 (left &&& (r1 ^^^ (-1 : Int32))) (ct + 1)) q1.1 q1.2) := by
  intro m
  induction m with
  | zero => intro j a b; omega
  | succ m ih =>
    intro j a b
    show bX7_pieces_17 F k11 (fX7_pieces_17 F k11 m) σ left ct (nI j) = _
    unfold bX7_pieces_17 li_
    by_cases h : j = c
    · subst h
      rw [if_neg (show ¬ (left >>> (nI j &&& 31)) &&& 1 = 0 from fun z => by rw [(b_t0 (by omega)).mp z] at h1; cases h1)]
    · rw [if_pos (show (left >>> (nI j &&& 31)) &&& 1 = 0 from (b_t0 (by omega)).mpr (by simpa using h2 j (by omega)))]
      dsimp only
      rw [nI_1]
      exact ih (j + 1) (by omega) (by omega)
theorem pie_loop {σ : Sg} {n : Nat} {E : Gr} (hC : GC σ n E) (hG : GM σ n E) {F : Nat} (hF : 40 ≤ F) : ∀ (m c : Nat) (seen left : Int32) (ct : Nat), c ≤ n → n < c + m → (∀ i, i < c → bt seen i = true) → (∀ i, bt left i = true ↔ (i < n ∧ ¬ bt seen i = true)) →
    ∃ r, fX1_parts_6 F m σ (nI ct) seen (nI c) = some (nI r, σ) ∧ ∀ f, fX7_pieces_11 F (n - c + 1 + f) σ left (nI ct) = some (nI r, σ) := by
  have hn := hC.1.1
  intro m
  induction m with
  | zero => intro c seen left ct h1 h2; omega
  | succ m ih =>
    intro c seen left ct h1 h2 h3 h4
    show ∃ r, bX1_parts_6 F (fX1_parts_6 F m) σ (nI ct) seen (nI c) = _ ∧ _
    unfold bX1_parts_6
    rw [hC.2.1]
    by_cases hc : c = n
    · rw [if_pos (nI_le (by omega) (by omega))]
      refine ⟨ct, rfl, fun f => ?_⟩
      have hl : left = 0 := b_zero.mpr fun i _ => by
        cases h : bt left i with
        | false => rfl
        | true => obtain ⟨g1, g2⟩ := (h4 i).mp h; exact absurd (h3 i (by omega)) g2
      rw [show n - c + 1 + f = (n - c + f) + 1 by omega]
      show bX7_pieces_11 F _ σ left (nI ct) = _
      unfold bX7_pieces_11
      rw [if_pos hl]
    · rw [if_neg (nI_ge (by omega) (by omega)), nI_1, nI_1]
      by_cases hs : bt seen c = true
      · rw [if_neg (show ¬ (seen >>> (nI c &&& 31)) &&& 1 = 0 from fun z => by rw [(b_t0 (by omega)).mp z] at hs; cases hs)]
        obtain ⟨r, e1, e2⟩ := ih (c + 1) seen left ct (by omega) (by omega) (fun i hi => by
          by_cases h : i = c
          · rw [h]; exact hs
          · exact h3 i (by omega)) h4
        refine ⟨r, e1, fun f => ?_⟩
        have := e2 (f + 1)
        rw [show n - (c + 1) + 1 + (f + 1) = n - c + 1 + f by omega] at this
        exact this
      · rw [if_pos (show (seen >>> (nI c &&& 31)) &&& 1 = 0 from (b_t0 (by omega)).mpr (by simpa using hs))]
        obtain ⟨v, v1, v2, v3⟩ := comp_ hC hG hF (show c < n by omega)
        rw [v1]
        simp only [Option.bind_some]
        obtain ⟨r, e1, e2⟩ := ih (c + 1) (seen ||| v) (left &&& (v ^^^ (-1))) (ct + 1) (by omega) (by omega) (fun i hi => by
          rw [b_or]
          by_cases h : i = c
          · rw [h, v3]; simp
          · rw [h3 i (by omega)]; simp) (fun i => by
            rw [b_and, b_or, Bool.and_eq_true, h4 i]
            by_cases hi : i < 32
            · rw [b_not _ hi]
              cases bt seen i <;> cases bt v i <;> simp
            · exact ⟨fun z => by have := z.1.1; omega, fun z => by have := z.1; omega⟩)
        refine ⟨r, e1, fun f => ?_⟩
        rw [show n - c + 1 + f = (n - c + f) + 1 by omega]
        show bX7_pieces_11 F (fX7_pieces_11 F (n - c + f)) σ left (nI ct) = _
        unfold bX7_pieces_11
        have hlc : bt left c = true := (h4 c).mpr ⟨by omega, hs⟩
        rw [if_neg (fun z => by rw [z, b_0] at hlc; cases hlc)]
        have := pie_in F σ (fX7_pieces_11 F (n - c + f)) left (nI ct) (show c < 12 by omega) hlc (fun j hj z => ((h4 j).mp z).2 (h3 j hj)) F 0 (by omega) (by omega)
        rw [nI_0] at this
        rw [this, v2]
        simp only [Option.bind_some, nI_1]
        have := e2 f
        rw [show n - (c + 1) + 1 + f = n - c + f by omega] at this
        exact this
/-- parts and pieces count alike -/
theorem pie {σ : Sg} {n : Nat} {E : Gr} (hC : GC σ n E) (hG : GM σ n E) {F : Nat} (hF : 40 ≤ F) : ∃ r, fX1_parts F σ = some (r, σ) ∧ fX7_pieces F σ = some (r, σ) := by
  have hn := hC.1.1
  obtain ⟨r, e1, e2⟩ := pie_loop hC hG hF F 0 0 (all_ n) 0 (by omega) (by omega) (fun i hi => by omega) (fun i => by rw [all_bt hn, b_0]; simp)
  refine ⟨nI r, ?_, ?_⟩
  · rw [nI_0] at e1; exact e1
  · have := e2 (F - (n + 1))
    rw [show n - 0 + 1 + (F - (n + 1)) = F by omega, nI_0] at this
    unfold fX7_pieces li_
    dsimp only
    rw [hG.2.1]; exact this
