/-! ===== hangs and hangsTogether ===== -/
/-- an answer yes or no -/
def Tf (r : Int32) (P : Prop) : Prop := (r = 1 ∧ P) ∨ (r = 0 ∧ ¬ P)
theorem Tf.iff {r : Int32} {P Q : Prop} (h : Tf r P) (e : P ↔ Q) : Tf r Q := by
  rcases h with ⟨h1, h2⟩ | ⟨h1, h2⟩
  · exact Or.inl ⟨h1, e.mp h2⟩
  · exact Or.inr ⟨h1, fun z => h2 (e.mpr z)⟩
theorem Tf.eq {r q : Int32} {P : Prop} (h : Tf r P) (h2 : Tf q P) : r = q := by
  rcases h with ⟨h1, h3⟩ | ⟨h1, h3⟩ <;> rcases h2 with ⟨g1, g3⟩ | ⟨g1, g3⟩
  · rw [h1, g1]
  · exact absurd h3 g3
  · exact absurd g3 h3
  · rw [h1, g1]
theorem Tf.yes {P : Prop} (h : P) : Tf 1 P := Or.inl ⟨rfl, h⟩
theorem Tf.no {P : Prop} (h : ¬ P) : Tf 0 P := Or.inr ⟨rfl, h⟩
theorem Tf.z {r : Int32} {P : Prop} (h : Tf r P) : r = 0 ↔ ¬ P := by
  rcases h with ⟨h1, h2⟩ | ⟨h1, h2⟩
  · rw [h1]; exact ⟨fun z => absurd z (by decide), fun z => absurd h2 z⟩
  · exact ⟨fun _ => h2, fun _ => h1⟩
/-- come to from the mouth along searched passages -/
def RC (E : Gr) (mo : Nat) (lost : Nat → Prop) (i : Nat) : Prop := ∀ S, ClR E (fun p => ¬ PO E lost p) (fun i => i = mo) S → S i
theorem RC.cl (E : Gr) (mo : Nat) (lost : Nat → Prop) : ClR E (fun p => ¬ PO E lost p) (fun i => i = mo) (RC E mo lost) :=
  ⟨fun i hi S hS => hS.1 i hi, fun p a b e y => ⟨fun z S hS => (hS.2 p a b e y).1 (z S hS), fun z S hS => (hS.2 p a b e y).2 (z S hS)⟩⟩
def Hang (n : Nat) (E : Gr) (mo : Nat) (men : Nat → Nat) (lost : Nat → Prop) : Prop := (∀ c, c < n → men c = 0 ∨ RC E mo lost c) ∧ ∀ p a b, E p = some (a, b) → PO E lost p ∨ RC E mo lost a
theorem hng_4 {σ : Sg} {n : Nat} {E : Gr} (hG : GM σ n E) (F : Nat) (l1 : Int32) : ∀ (m p : Nat) (acc : Int32), p ≤ 18 → 18 < p + m → ∃ y, fX7_hangs_4 F m σ l1 acc (nI p) = ((fX7_reached F σ ((1 : Int32) <<< (l1 &&& 31)) y).bind fun q1 => (fun (r1 : Int32) (σ1 : Sg) => fX7_hangs_57 F F σ1 y (r1) ((1 : Int32)) ((0 : Int32))) q1.1 q1.2) ∧ ∀ i, bt y i = true ↔ (bt acc i = true ∨ (p ≤ i ∧ (E i).isSome = true ∧ ¬ bt (σ.1 24) i = true)) := by
  intro m
  induction m with
  | zero => intro p acc h1 h2; omega
  | succ m ih =>
    intro p acc h1 h2
    show ∃ y, bX7_hangs_4 F (fX7_hangs_4 F m) σ l1 acc (nI p) = _ ∧ _
    unfold bX7_hangs_4 li_
    by_cases hp : p = 18
    · subst hp
      rw [if_pos (by decide)]
      refine ⟨acc, rfl, fun i => ⟨fun z => Or.inl z, fun z => ?_⟩⟩
      rcases z with z | ⟨z1, z2, -⟩
      · exact z
      · cases e : E i with
        | none => rw [e] at z2; cases z2
        | some q => have := (hG.1.2 i q.1 q.2 e).1; omega
    · rw [if_neg (n18 (by omega))]
      have hcp : (nI p).toNatClampNeg = p := nI_clamp (by omega)
      have ip : ib (nI p) 18 := nI_in (by omega) (by omega)
      simp only [if_pos ip, hcp, hG.2.2.1 p (by omega), nI_1]
      have skip : (¬ ((E p).isSome = true ∧ ¬ bt (σ.1 24) p = true)) → ∃ y, fX7_hangs_4 F m σ l1 acc (nI (p + 1)) = ((fX7_reached F σ ((1 : Int32) <<< (l1 &&& 31)) y).bind fun q1 => (fun (r1 : Int32) (σ1 : Sg) => fX7_hangs_57 F F σ1 y (r1) ((1 : Int32)) ((0 : Int32))) q1.1 q1.2) ∧ ∀ i, bt y i = true ↔ (bt acc i = true ∨ (p ≤ i ∧ (E i).isSome = true ∧ ¬ bt (σ.1 24) i = true)) := by
        intro hno
        obtain ⟨y, e, hy⟩ := ih (p + 1) acc (by omega) (by omega)
        refine ⟨y, e, fun i => (hy i).trans ⟨fun z => ?_, fun z => ?_⟩⟩
        · rcases z with z | ⟨z1, z2⟩
          · exact Or.inl z
          · exact Or.inr ⟨by omega, z2⟩
        · rcases z with z | ⟨z1, z2⟩
          · exact Or.inl z
          · by_cases hip : i = p
            · subst hip; exact absurd z2 hno
            · exact Or.inr ⟨by omega, z2⟩
      by_cases hE : (E p).isSome = true
      · rw [if_pos hE, if_neg (show ¬ (1 : Int32) = 0 by decide)]
        by_cases hb : bt (σ.1 24) p = true
        · rw [if_neg (show ¬ ((σ.1 24) >>> (nI p &&& 31)) &&& 1 = 0 from fun z => by rw [(b_t0 (by omega)).mp z] at hb; cases hb)]
          exact skip (fun z => z.2 hb)
        · rw [if_pos (show ((σ.1 24) >>> (nI p &&& 31)) &&& 1 = 0 from (b_t0 (by omega)).mpr (by simpa using hb))]
          obtain ⟨y, e, hy⟩ := ih (p + 1) (acc ||| ((1 : Int32) <<< (nI p &&& 31))) (by omega) (by omega)
          refine ⟨y, e, fun i => (hy i).trans ?_⟩
          rw [b_or, b_bit (by omega), Bool.or_eq_true, decide_eq_true_eq]
          constructor
          · rintro ((z | z) | ⟨z1, z2⟩)
            · exact Or.inl z
            · subst z; exact Or.inr ⟨Nat.le_refl _, hE, hb⟩
            · exact Or.inr ⟨by omega, z2⟩
          · rintro (z | ⟨z1, z2⟩)
            · exact Or.inl (Or.inl z)
            · by_cases hip : i = p
              · exact Or.inl (Or.inr hip)
              · exact Or.inr ⟨by omega, z2⟩
      · rw [if_neg hE, if_pos rfl]
        exact skip (fun z => hE z.1)
theorem hng_107 {σ : Sg} {n : Nat} {E : Gr} (hG : GM σ n E) (F : Nat) (y v : Int32) (hy : ∀ i, bt y i = true → (E i).isSome = true) : ∀ (m p : Nat) (g : Int32) (G : Prop), p ≤ 18 → 18 < p + m → Tf g G → ∃ r, fX7_hangs_107 F m σ y v g (nI p) = some (r, σ) ∧ Tf r (G ∧ ∀ q a b, p ≤ q → E q = some (a, b) → bt y q = true → bt v a = true) := by
  intro m
  induction m with
  | zero => intro p g G h1 h2; omega
  | succ m ih =>
    intro p g G h1 h2 hg
    show ∃ r, bX7_hangs_107 F (fX7_hangs_107 F m) σ y v g (nI p) = _ ∧ _
    unfold bX7_hangs_107
    by_cases hp : p = 18
    · subst hp
      rw [if_pos (by decide), if_pos (by rcases hg with h | h; exact Or.inr h.1; exact Or.inl h.1)]
      refine ⟨g, rfl, hg.iff ⟨fun z => ⟨z, fun q a b h3 h4 => ?_⟩, fun z => z.1⟩⟩
      have := (hG.1.2 q a b h4).1; omega
    · rw [if_neg (n18 (by omega)), nI_1]
      have step : ∀ g', Tf g' (G ∧ ∀ a b, E p = some (a, b) → bt y p = true → bt v a = true) → ∃ r, fX7_hangs_107 F m σ y v g' (nI (p + 1)) = some (r, σ) ∧ Tf r (G ∧ ∀ q a b, p ≤ q → E q = some (a, b) → bt y q = true → bt v a = true) := by
        intro g' hg'
        obtain ⟨r, e, hr⟩ := ih (p + 1) g' _ (by omega) (by omega) hg'
        refine ⟨r, e, hr.iff ⟨fun z => ⟨z.1.1, fun q a b h3 h4 h5 => ?_⟩, fun z => ⟨⟨z.1, fun a b => z.2 p a b (Nat.le_refl p)⟩, fun q a b h3 => z.2 q a b (by omega)⟩⟩⟩
        by_cases hq : q = p
        · subst hq; exact z.1.2 a b h4 h5
        · exact z.2 q a b (by omega) h4 h5
      rcases hg with ⟨rfl, hG1⟩ | ⟨rfl, hG1⟩
      · rw [if_neg (show ¬ (1 : Int32) = 0 by decide)]
        by_cases hyp : bt y p = true
        · rw [if_neg (show ¬ (y >>> (nI p &&& 31)) &&& 1 = 0 from fun z => by rw [(b_t0 (by omega)).mp z] at hyp; cases hyp)]
          have hcp : (nI p).toNatClampNeg = p := nI_clamp (by omega)
          have ip : ib (nI p) 18 := nI_in (by omega) (by omega)
          obtain ⟨a, b, hab⟩ : ∃ a b, E p = some (a, b) := by
            have := hy p hyp
            cases h : E p with
            | none => rw [h] at this; cases this
            | some q => exact ⟨q.1, q.2, rfl⟩
          have ha := hG.1.e12 p a b hab
          simp only [if_pos ip, hcp, (hG.2.2.2 p a b hab).1]
          by_cases hva : bt v a = true
          · rw [if_pos (show (v >>> (nI a &&& 31)) &&& 1 = 1 from (b_t1 (by omega)).mpr hva)]
            exact step 1 (Tf.yes ⟨hG1, fun a' b' h3 _ => by rw [hab] at h3; cases h3; exact hva⟩)
          · rw [if_neg (show ¬ (v >>> (nI a &&& 31)) &&& 1 = 1 from fun z => hva ((b_t1 (by omega)).mp z))]
            exact step 0 (Tf.no fun z => hva (z.2 a b hab hyp))
        · rw [if_pos (show (y >>> (nI p &&& 31)) &&& 1 = 0 from (b_t0 (by omega)).mpr (by simpa using hyp))]
          exact step 1 (Tf.yes ⟨hG1, fun a b _ h => absurd h hyp⟩)
      · rw [if_pos rfl]
        exact step 0 (Tf.no fun z => hG1 z.1)
theorem hng_57 {σ : Sg} {n : Nat} {E : Gr} {men : Nat → Nat} (hG : GM σ n E) (hM : MN σ men) {F : Nat} (hF : 40 ≤ F) (y v : Int32) (hy : ∀ i, bt y i = true → (E i).isSome = true) : ∀ (m c : Nat) (g : Int32) (G : Prop), c ≤ n → n < c + m → Tf g G → ∃ r, fX7_hangs_57 F m σ y v g (nI c) = some (r, σ) ∧ Tf r ((G ∧ ∀ d, c ≤ d → d < n → men d = 0 ∨ bt v d = true) ∧ ∀ q a b, E q = some (a, b) → bt y q = true → bt v a = true) := by
  have hn := hG.1.1
  intro m
  induction m with
  | zero => intro p g G h1 h2; omega
  | succ m ih =>
    intro c g G h1 h2 hg
    show ∃ r, bX7_hangs_57 F (fX7_hangs_57 F m) σ y v g (nI c) = _ ∧ _
    unfold bX7_hangs_57
    rw [hG.2.1]
    by_cases hc : c = n
    · subst hc
      rw [if_pos (nI_le (by omega) (by omega))]
      obtain ⟨r, e, hr⟩ := hng_107 hG F y v hy F 0 g G (by omega) (by omega) hg
      rw [nI_0] at e
      exact ⟨r, e, hr.iff ⟨fun z => ⟨⟨z.1, fun d h3 h4 => by omega⟩, fun q a b => z.2 q a b (Nat.zero_le q)⟩, fun z => ⟨z.1.1, fun q a b _ => z.2 q a b⟩⟩⟩
    · rw [if_neg (nI_ge (by omega) (by omega)), nI_1]
      have step : ∀ g', Tf g' (G ∧ (men c = 0 ∨ bt v c = true)) → ∃ r, fX7_hangs_57 F m σ y v g' (nI (c + 1)) = some (r, σ) ∧ Tf r ((G ∧ ∀ d, c ≤ d → d < n → men d = 0 ∨ bt v d = true) ∧ ∀ q a b, E q = some (a, b) → bt y q = true → bt v a = true) := by
        intro g' hg'
        obtain ⟨r, e, hr⟩ := ih (c + 1) g' _ (by omega) (by omega) hg'
        refine ⟨r, e, hr.iff ⟨fun z => ⟨⟨z.1.1.1, fun d h3 h4 => ?_⟩, z.2⟩, fun z => ⟨⟨⟨z.1.1, z.1.2 c (Nat.le_refl c) (by omega)⟩, fun d h3 => z.1.2 d (by omega)⟩, z.2⟩⟩⟩
        by_cases hd : d = c
        · subst hd; exact z.1.1.2
        · exact z.1.2 d (by omega) h4
      rcases hg with ⟨rfl, hG1⟩ | ⟨rfl, hG1⟩
      · rw [if_neg (show ¬ (1 : Int32) = 0 by decide)]
        have hcc : (nI c).toNatClampNeg = c := nI_clamp (by omega)
        have ic : ib (nI c) 12 := nI_in (by omega) (by omega)
        obtain ⟨q1, q2⟩ := hM c (by omega)
        simp only [if_pos ic, hcc, q1, men0 q2]
        by_cases h0 : men c = 0
        · rw [if_pos h0]; exact step 1 (Tf.yes ⟨hG1, Or.inl h0⟩)
        · rw [if_neg h0]
          by_cases hv : bt v c = true
          · rw [if_pos (show (v >>> (nI c &&& 31)) &&& 1 = 1 from (b_t1 (by omega)).mpr hv)]
            exact step 1 (Tf.yes ⟨hG1, Or.inr hv⟩)
          · rw [if_neg (show ¬ (v >>> (nI c &&& 31)) &&& 1 = 1 from fun z => hv ((b_t1 (by omega)).mp z))]
            exact step 0 (Tf.no fun z => by rcases z.2 with z | z; exact h0 z; exact hv z)
      · rw [if_pos rfl]
        exact step 0 (Tf.no fun z => hG1 z.1)
/-- hangs, in the reference -/
theorem mhang {σ : Sg} {n : Nat} {E : Gr} {men : Nat → Nat} (hG : GM σ n E) (hM : MN σ men) {F : Nat} (hF : 40 ≤ F) {mo : Nat} (hmo : mo < 12) {lost : Nat → Prop} (hl : ∀ i, bt (σ.1 24) i = true ↔ PO E lost i) : ∃ r, fX7_hangs F σ (nI mo) = some (r, σ) ∧ Tf r (Hang n E mo men lost) := by
  obtain ⟨y, e, hy⟩ := hng_4 hG F (nI mo) F 0 0 (by omega) (by omega)
  rw [nI_0] at e
  have hy' : ∀ i, bt y i = true ↔ ((E i).isSome = true ∧ ¬ PO E lost i) := fun i => (hy i).trans (by rw [b_0, hl i]; simp)
  obtain ⟨v, ev, hv⟩ := rea hG hF ((1 : Int32) <<< (nI mo &&& 31)) y (fun i hi => by rw [b_bit (by omega)] at hi; simp at hi; omega)
  have hvr : ∀ i, bt v i = true ↔ RC E mo lost i := fun i => by
    constructor
    · intro z S hS
      refine hv.2 S ⟨fun i hi => ?_, fun p a b ep yp => hS.2 p a b ep ((hy' p).mp yp).2⟩ i z
      have hi' : bt ((1 : Int32) <<< (nI mo &&& 31)) i = true := hi
      rw [b_bit (by omega)] at hi'; simp at hi'; exact hS.1 i hi'
    · intro z
      refine z _ ⟨fun i hi => ?_, fun p a b ep yp => hv.1.2 p a b ep ((hy' p).mpr ⟨by rw [ep]; rfl, yp⟩)⟩
      refine hv.1.1 i ?_
      show bt ((1 : Int32) <<< (nI mo &&& 31)) i = true
      rw [b_bit (by omega)]; simp [hi]
  obtain ⟨r, er, hr⟩ := hng_57 hG hM hF y v (fun i hi => ((hy' i).mp hi).1) F 0 1 True (by omega) (by have := hG.1.1; omega) (Tf.yes trivial)
  rw [nI_0] at er
  refine ⟨r, ?_, hr.iff ⟨fun z => ⟨fun c hc => ?_, fun p a b ep => ?_⟩, fun z => ⟨⟨trivial, fun d _ hd => ?_⟩, fun p a b ep yp => ?_⟩⟩⟩
  · unfold fX7_hangs; rw [e, ev]; exact er
  · rcases z.1.2 c (Nat.zero_le c) hc with h | h
    · exact Or.inl h
    · exact Or.inr ((hvr c).mp h)
  · by_cases hp : PO E lost p
    · exact Or.inl hp
    · exact Or.inr ((hvr a).mp (z.2 p a b ep ((hy' p).mpr ⟨by rw [ep]; rfl, hp⟩)))
  · rcases z.1 d hd with h | h
    · exact Or.inl h
    · exact Or.inr ((hvr d).mpr h)
  · rcases z.2 p a b ep with h | h
    · exact absurd h ((hy' p).mp yp).2
    · exact (hvr a).mpr h
/-- what can be come to, in the class -/
theorem xreach {σ : Sg} {n : Nat} {E : Gr} (hC : GC σ n E) {F : Nat} (hF : 40 ≤ F) {mo : Nat} (hmo : mo < n) (l : Int32) : ∃ v, (if (l &&& ((1 : Int32) <<< (nI mo &&& 31))) = 0 then fX1_spread F σ ((1 : Int32) <<< (nI mo &&& 31)) l else some ((1 : Int32) <<< (nI mo &&& 31), σ)) = some (v, σ) ∧ ∀ i, bt v i = true ↔ RC E mo (fun i => bt l i = true) i := by
  have hn := hC.1.1
  have hN : ∀ c, c < n → ∀ d, bt (σ.2.1 5 c) d = true → d < n := fun c hc d hd => by
    obtain ⟨p, a, b, e, h⟩ := (hC.2.2.2.2.2 c (by omega) d).mp hd
    have := hC.1.2 p a b e
    omega
  have hz : (l &&& ((1 : Int32) <<< (nI mo &&& 31))) = 0 ↔ ¬ bt l mo = true := by
    rw [b_zero]
    constructor
    · intro h z
      have := h mo (by omega)
      rw [b_and, b_bit (by omega), z] at this; simp at this
    · intro h i hi
      rw [b_and, b_bit (by omega)]
      by_cases him : i = mo
      · rw [him]; simpa using h
      · simp [him]
  by_cases h : bt l mo = true
  · rw [if_neg (fun z => (hz.mp z) h)]
    refine ⟨_, rfl, fun i => ?_⟩
    rw [b_bit (by omega), decide_eq_true_eq]
    constructor
    · intro z; rw [z]; exact (RC.cl E mo _).1 mo rfl
    · intro z
      refine z (fun i => i = mo) ⟨fun i hi => hi, fun p a b ep yp => ⟨fun z => ?_, fun z => ?_⟩⟩
      · exact absurd ⟨a, b, ep, Or.inl (by rw [z]; exact h)⟩ yp
      · exact absurd ⟨a, b, ep, Or.inr (by rw [z]; exact h)⟩ yp
  · rw [if_pos (hz.mpr h)]
    obtain ⟨v, e1, h1⟩ := spr hC.gn (F := F) (by omega) hN ((1 : Int32) <<< (nI mo &&& 31)) l (fun i hi => by rw [b_bit (by omega)] at hi; simp at hi; omega)
    refine ⟨v, e1, fun i => ?_⟩
    have hnl : ∀ i, RC E mo (fun i => bt l i = true) i → ¬ bt l i = true := fun i z => z (fun i => ¬ bt l i = true) ⟨fun i hi => by rw [hi]; exact h, fun p a b ep yp => ⟨fun _ g => yp ⟨a, b, ep, Or.inr g⟩, fun _ g => yp ⟨a, b, ep, Or.inl g⟩⟩⟩
    constructor
    · refine h1.2 _ ⟨fun i hi => ?_, fun c d hc hS hcd hd => ?_⟩ i
      · have hi' : bt ((1 : Int32) <<< (nI mo &&& 31)) i = true := hi
        rw [b_bit (by omega)] at hi'; simp at hi'
        exact (RC.cl E mo _).1 i hi'
      · obtain ⟨p, a, b, e, g⟩ := (hC.2.2.2.2.2 c (by omega) d).mp hcd
        have hc' := hnl c hS
        rcases g with ⟨rfl, rfl⟩ | ⟨rfl, rfl⟩
        · exact ((RC.cl E mo _).2 p a b e (fun ⟨a', b', e', g'⟩ => by rw [e] at e'; cases e'; rcases g' with g' | g'; exact hc' g'; exact hd g')).1 hS
        · exact ((RC.cl E mo _).2 p a b e (fun ⟨a', b', e', g'⟩ => by rw [e] at e'; cases e'; rcases g' with g' | g'; exact hd g'; exact hc' g')).2 hS
    · intro z
      refine z _ ⟨fun i hi => h1.1.1 i (by show bt ((1 : Int32) <<< (nI mo &&& 31)) i = true; rw [b_bit (by omega)]; simp [hi]), fun p a b e yp => ?_⟩
      obtain ⟨l1, l2, l3⟩ := hC.1.2 p a b e
      exact ⟨fun z => h1.1.2 a b (by omega) z ((hC.2.2.2.2.2 a (by omega) b).mpr ⟨p, a, b, e, Or.inl ⟨rfl, rfl⟩⟩) (fun g => yp ⟨a, b, e, Or.inr g⟩), fun z => h1.1.2 b a (by omega) z ((hC.2.2.2.2.2 b (by omega) a).mpr ⟨p, a, b, e, Or.inr ⟨rfl, rfl⟩⟩) (fun g => yp ⟨a, b, e, Or.inl g⟩)⟩
theorem b_sub (x y : Int32) : (x &&& (y ^^^ (-1))) = 0 ↔ ∀ i, bt x i = true → bt y i = true := by
  rw [b_zero]
  constructor
  · intro h i hi
    by_cases h32 : i < 32
    · have := h i h32
      rw [b_and, b_not _ h32, hi] at this
      cases hy : bt y i with
      | true => rfl
      | false => rw [hy] at this; cases this
    · rw [b_big (by omega)] at hi; cases hi
  · intro h i hi
    rw [b_and, b_not _ hi]
    cases hx : bt x i with
    | false => rfl
    | true => rw [h i hx]; rfl
/-- hangsTogether, in the class -/
theorem xhang {σ : Sg} {n : Nat} {E : Gr} {men : Nat → Nat} (hC : GC σ n E) {F : Nat} (hF : 40 ≤ F) {mo : Nat} (hmo : mo < n) (h2 : σ.1 2 = nI mo) {l g : Int32} (hg : ∀ i, bt g i = true ↔ (i < n ∧ 0 < men i)) : ∃ r, fX1_hangsTogether F σ l g = some (r, σ) ∧ Tf r (Hang n E mo men (fun i => bt l i = true)) := by
  have hn := hC.1.1
  obtain ⟨v, ev, hv⟩ := xreach hC hF hmo l
  obtain ⟨u, eu, hu⟩ := hC.pAt (F := F) (by omega) l
  obtain ⟨w, ew, hw⟩ := hC.pAt (F := F) (by omega) v
  have key : fX1_hangsTogether F σ l g = if (g &&& (v ^^^ (-1))) = 0 then (if (((σ.1 1) &&& (u ^^^ (-1))) &&& (w ^^^ (-1))) = 0 then some (1, σ) else some (0, σ)) else some (0, σ) := by
    unfold fX1_hangsTogether li_
    rw [h2]
    dsimp only
    by_cases h : (l &&& ((1 : Int32) <<< (nI mo &&& 31))) = 0
    · rw [if_pos h] at ev ⊢
      rw [ev]
      simp only [Option.bind_some]
      rw [eu]
      simp only [Option.bind_some]
      rw [ew]; rfl
    · rw [if_neg h] at ev ⊢
      injection ev with ev
      injection ev with ev _
      rw [eu]
      simp only [Option.bind_some]
      rw [ev, ew]; rfl
  rw [key]
  have p1 : (g &&& (v ^^^ (-1))) = 0 ↔ ∀ c, c < n → men c = 0 ∨ RC E mo (fun i => bt l i = true) c := by
    rw [b_sub]
    constructor
    · intro h c hc
      by_cases h0 : men c = 0
      · exact Or.inl h0
      · exact Or.inr ((hv c).mp (h c ((hg c).mpr ⟨hc, by omega⟩)))
    · intro h i hi
      obtain ⟨a, b⟩ := (hg i).mp hi
      rcases h i a with z | z
      · omega
      · exact (hv i).mpr z
  have p2 : (((σ.1 1) &&& (u ^^^ (-1))) &&& (w ^^^ (-1))) = 0 ↔ ∀ p a b, E p = some (a, b) → PO E (fun i => bt l i = true) p ∨ RC E mo (fun i => bt l i = true) a := by
    rw [b_sub]
    constructor
    · intro h p a b e
      by_cases hp : PO E (fun i => bt l i = true) p
      · exact Or.inl hp
      · right
        have hp18 := (hC.1.2 p a b e).1
        have h1 : bt ((σ.1 1) &&& (u ^^^ (-1))) p = true := by
          rw [b_and, hC.2.2.1 p, e, b_not _ (by omega)]
          cases hup : bt u p with
          | false => rfl
          | true => exact absurd ((hu p).mp hup) hp
        obtain ⟨a', b', e', g'⟩ := (hw p).mp (h p h1)
        rw [e] at e'; cases e'
        have cl := (RC.cl E mo (fun i => bt l i = true)).2 p a b e hp
        rcases g' with g' | g'
        · exact (hv a).mp g'
        · exact cl.2 ((hv b).mp g')
    · intro h p hp
      rw [b_and, Bool.and_eq_true, hC.2.2.1 p] at hp
      cases e : E p with
      | none => rw [e] at hp; cases hp.1
      | some q =>
        obtain ⟨a, b⟩ := q
        have hp18 := (hC.1.2 p a b e).1
        rw [b_not _ (by omega)] at hp
        refine (hw p).mpr ⟨a, b, e, Or.inl ((hv a).mpr ?_)⟩
        rcases h p a b e with z | z
        · have := hp.2
          rw [(hu p).mpr z] at this; cases this
        · exact z
  by_cases q1 : (g &&& (v ^^^ (-1))) = 0
  · rw [if_pos q1]
    by_cases q2 : (((σ.1 1) &&& (u ^^^ (-1))) &&& (w ^^^ (-1))) = 0
    · rw [if_pos q2]; exact ⟨1, rfl, Tf.yes ⟨p1.mp q1, p2.mp q2⟩⟩
    · rw [if_neg q2]; exact ⟨0, rfl, Tf.no fun z => q2 (p2.mpr z.2)⟩
  · rw [if_neg q1]; exact ⟨0, rfl, Tf.no fun z => q1 (p1.mpr z.1)⟩
