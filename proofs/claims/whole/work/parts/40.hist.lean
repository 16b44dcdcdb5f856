/-! ===== the reference's begins, keeps, comes, below ===== -/
def all_ (n : Nat) : Int32 := ((1 : Int32) <<< (nI n &&& 31)) - 1
theorem all_bt {n : Nat} (h : n ≤ 12) (i : Nat) : bt (all_ n) i = true ↔ i < n := by
  unfold all_; rw [b_low (by omega)]; simp
theorem nI_mul (a b : Nat) : nI a * nI b = nI (a * b) := (Int32.ofNat_mul a b).symm
theorem nI12 (k c : Nat) : (12 : Int32) * nI k + nI c = nI (12 * k + c) := by
  rw [show (12 : Int32) = nI 12 by decide, nI_mul, nI_add]
theorem n12 {c : Nat} (h : c < 12) : ¬ (12 : Int32) ≤ nI c := by rw [show (12 : Int32) = nI 12 by decide]; exact nI_ge h (by omega)
theorem n18 {c : Nat} (h : c < 18) : ¬ (18 : Int32) ≤ nI c := by rw [show (18 : Int32) = nI 18 by decide]; exact nI_ge h (by omega)
theorem beg_p {n : Nat} {E : Gr} (F : Nat) : ∀ (m p : Nat) (σ : Sg), GM σ n E → p ≤ 18 → 18 < p + m → ∃ τ, fX7_begins_40 F m σ (nI p) = some (0, τ) ∧ Sm [24] [] σ τ ∧ ∀ i, bt (τ.1 24) i = true ↔ (bt (σ.1 24) i = true ∨ (p ≤ i ∧ (E i).isSome = true)) := by
  intro m
  induction m with
  | zero => intro p σ _ h1 h2; omega
  | succ m ih =>
    intro p σ hG h1 h2
    obtain ⟨⟨hn, hE⟩, g1, g2, g3⟩ := id hG
    show ∃ τ, bX7_begins_40 F (fX7_begins_40 F m) σ (nI p) = _ ∧ _
    unfold bX7_begins_40 ls_
    by_cases hp : p = 18
    · subst hp
      rw [if_pos (by decide)]
      refine ⟨σ, rfl, Sm.rf, fun i => ⟨Or.inl, ?_⟩⟩
      rintro (h | ⟨h3, h4⟩)
      · exact h
      · obtain ⟨⟨a, b⟩, h5⟩ := Option.isSome_iff_exists.mp h4
        have := (hE i a b h5).1; omega
    · have hcp : (nI p).toNatClampNeg = p := nI_clamp (by omega)
      simp only [if_neg (n18 (show p < 18 by omega)), if_pos (nI_in (show p < 18 by omega) (by omega)), hcp, g2 p (by omega), nI_1]
      by_cases h : (E p).isSome = true
      · simp only [h, if_true, if_neg (show ¬ (1 : Int32) = 0 by decide)]
        have s1 : Sm [24] [] σ (sv σ 24 (σ.1 24 ||| ((1 : Int32) <<< (nI p &&& 31)))) := Sm.sv (by simp)
        obtain ⟨τ, e, hs, hb⟩ := ih (p + 1) _ (hG.sm s1 (by simp) (by simp) (by simp) (by simp)) (by omega) (by omega)
        refine ⟨τ, e, s1.tr hs, fun i => (hb i).trans ?_⟩
        rw [sv_1, if_pos rfl, b_or, b_bit (by omega), Bool.or_eq_true, decide_eq_true_eq]
        constructor
        · rintro ((h3 | rfl) | ⟨h3, h4⟩)
          · exact Or.inl h3
          · exact Or.inr ⟨Nat.le_refl _, h⟩
          · exact Or.inr ⟨by omega, h4⟩
        · rintro (h3 | ⟨h3, h4⟩)
          · exact Or.inl (Or.inl h3)
          · by_cases hi : i = p
            · exact Or.inl (Or.inr hi)
            · exact Or.inr ⟨by omega, h4⟩
      · rw [if_neg h, if_pos rfl]
        obtain ⟨τ, e, hs, hb⟩ := ih (p + 1) σ hG (by omega) (by omega)
        refine ⟨τ, e, hs, fun i => (hb i).trans (or_congr_right ⟨fun h3 => ⟨by omega, h3.2⟩, fun h3 => ⟨?_, h3.2⟩⟩)⟩
        by_cases hi : i = p
        · subst hi; exact absurd h3.2 h
        · omega
theorem beg_c {n : Nat} {E : Gr} (F : Nat) : ∀ (m c : Nat) (σ : Sg), GM σ n E → c ≤ 12 → 12 < c + m → (∀ d, d < c → σ.2.1 29 d = 0) → ∃ σ', fX7_begins_2 F m σ (nI c) = fX7_begins_40 F F (sv (sv σ' 23 (all_ n)) 24 0) 0 ∧ Sm [] [29] σ σ' ∧ ∀ d, d < 12 → σ'.2.1 29 d = 0 := by
  intro m
  induction m with
  | zero => intro c σ _ h1 h2; omega
  | succ m ih =>
    intro c σ hG h1 h2 h3
    show ∃ σ', bX7_begins_2 F (fX7_begins_2 F m) σ (nI c) = _ ∧ _
    unfold bX7_begins_2 ls_
    by_cases hc : c = 12
    · subst hc
      rw [if_pos (by decide), hG.2.1]
      exact ⟨σ, rfl, Sm.rf, h3⟩
    · have hcc : (nI c).toNatClampNeg = c := nI_clamp (by omega)
      simp only [if_neg (n12 (show c < 12 by omega)), if_pos (nI_in (show c < 12 by omega) (by omega)), hcc, nI_1]
      have s1 : Sm [] [29] σ (sa σ 29 c 0) := Sm.sa (by simp)
      obtain ⟨σ', e, hs, hb⟩ := ih (c + 1) _ (hG.sm s1 (by simp) (by simp) (by simp) (by simp)) (by omega) (by omega) (fun d hd => by
        rw [sa_2, if_pos rfl, upd_at]
        by_cases h : d = c
        · rw [if_pos h]
        · rw [if_neg h]; exact h3 d (by omega))
      exact ⟨σ', e, s1.tr hs, hb⟩
/-- begins: nobody below, all is lost -/
theorem beg {σ : Sg} {n : Nat} {E : Gr} (hG : GM σ n E) {F : Nat} (hF : 40 ≤ F) : ∃ τ, fX7_begins F σ = some (0, τ) ∧ Sm [23, 24] [29] σ τ ∧ MN τ (fun _ => 0) ∧ τ.1 23 = all_ n ∧ ∀ i, bt (τ.1 24) i = true ↔ PO E (fun i => bt (τ.1 23) i = true) i := by
  have hn := hG.1.1
  obtain ⟨σ1, e1, s1, h1⟩ := beg_c F F 0 σ hG (by omega) (by omega) (fun d hd => by omega)
  rw [nI_0] at e1
  have s2 : Sm [23, 24] [29] σ (sv (sv σ1 23 (all_ n)) 24 0) := ((s1.up (by simp) (fun k hk => hk)).tr (Sm.sv (by simp))).tr (Sm.sv (by simp))
  obtain ⟨τ, e2, s3, h2⟩ := beg_p F F 0 _ (hG.sm s2 (by simp) (by simp) (by simp) (by simp)) (by omega) (by omega)
  rw [nI_0] at e2
  have e23 : τ.1 23 = all_ n := by rw [s3.1 23 (by simp)]; rfl
  refine ⟨τ, ?_, s2.tr (s3.up (by simp) (by simp)), fun c hc => ?_, e23, fun i => (h2 i).trans ?_⟩
  · unfold fX7_begins; rw [e1, e2]
  · rw [s3.2.1 29 (by simp)]
    show σ1.2.1 29 c = _ ∧ _
    rw [h1 c hc]; exact ⟨nI_0.symm, Nat.succ_pos _⟩
  · rw [show (sv (sv σ1 23 (all_ n)) 24 0).1 24 = 0 from rfl, b_0, e23]
    constructor
    · rintro (h | ⟨-, h⟩)
      · cases h
      · obtain ⟨⟨a, b⟩, h5⟩ := Option.isSome_iff_exists.mp h
        exact ⟨a, b, h5, Or.inl ((all_bt hn a).mpr (by have := hG.1.2 i a b h5; omega))⟩
    · rintro ⟨a, b, h5, -⟩
      exact Or.inr ⟨Nat.zero_le _, by rw [h5]; rfl⟩
theorem kee_loop (F : Nat) {K : Nat} (hK : K ≤ 200) {men : Nat → Nat} : ∀ (m c : Nat) (σ : Sg), σ.1 25 = nI K → MN σ men → c ≤ 12 → 12 < c + m → ∃ τ, fX7_keeps_2 F m σ (nI c) = some (0, τ) ∧ Sm [] [33, 34, 35] σ τ ∧ (∀ d, c ≤ d → d < 12 → τ.2.1 33 (12 * K + d) = nI (men d)) ∧ (∀ i, i < 12 * K + c ∨ 12 * K + 12 ≤ i → τ.2.1 33 i = σ.2.1 33 i) ∧ (∀ i, τ.2.1 34 i = if i = K then σ.1 23 else σ.2.1 34 i) ∧ ∀ i, τ.2.1 35 i = if i = K then σ.1 24 else σ.2.1 35 i := by
  intro m
  induction m with
  | zero => intro c σ _ _ h1 h2; omega
  | succ m ih =>
    intro c σ h25 hM h1 h2
    show ∃ τ, bX7_keeps_2 F (fX7_keeps_2 F m) σ (nI c) = _ ∧ _
    unfold bX7_keeps_2 ls_
    have iK : ib (nI K) 201 := nI_in (by omega) (by omega)
    have hcK : (nI K).toNatClampNeg = K := nI_clamp (by omega)
    by_cases hc : c = 12
    · subst hc
      simp only [if_pos (show (12 : Int32) ≤ nI 12 by decide), h25, if_pos iK, hcK, sa_1]
      exact ⟨_, rfl, (Sm.sa (by simp)).tr (Sm.sa (by simp)), fun d h3 h4 => by omega, fun _ _ => rfl, fun i => rfl, fun i => rfl⟩
    · have hcc : (nI c).toNatClampNeg = c := nI_clamp (by omega)
      have hck : (nI (12 * K + c)).toNatClampNeg = 12 * K + c := nI_clamp (by omega)
      obtain ⟨mc, -⟩ := hM c (by omega)
      simp only [if_neg (n12 (show c < 12 by omega)), if_pos (nI_in (show c < 12 by omega) (show 12 < 2 ^ 31 by omega)), hcc, h25, nI12, if_pos (nI_in (show 12 * K + c < 2412 by omega) (by omega)), hck, mc, nI_1]
      have s1 : Sm [] [33, 34, 35] σ (sa σ 33 (12 * K + c) (nI (men c))) := Sm.sa (by simp)
      obtain ⟨τ, e, hs, a1, a2, a3, a4⟩ := ih (c + 1) _ (show (sa σ 33 (12 * K + c) (nI (men c))).1 25 = nI K from h25) (hM.sm s1 (by simp)) (by omega) (by omega)
      refine ⟨τ, e, s1.tr hs, fun d h3 h4 => ?_, fun i hi => ?_, a3, a4⟩
      · by_cases hd : d = c
        · subst hd; rw [a2 _ (Or.inl (by omega)), sa_2, if_pos rfl, upd_at, if_pos rfl]
        · exact a1 d (by omega) h4
      · rw [a2 i (by omega), sa_2, if_pos rfl, upd_at, if_neg (by omega)]
/-- keeps: the stand is written down -/
theorem kee {F : Nat} (hF : 40 ≤ F) {K : Nat} (hK : K ≤ 200) {men : Nat → Nat} {σ : Sg} (h25 : σ.1 25 = nI K) (hM : MN σ men) : ∃ τ, fX7_keeps F σ = some (0, τ) ∧ Sm [] [33, 34, 35] σ τ ∧ (∀ d, d < 12 → τ.2.1 33 (12 * K + d) = nI (men d)) ∧ (∀ i, i < 12 * K → τ.2.1 33 i = σ.2.1 33 i) ∧ (∀ i, τ.2.1 34 i = if i = K then σ.1 23 else σ.2.1 34 i) ∧ ∀ i, τ.2.1 35 i = if i = K then σ.1 24 else σ.2.1 35 i := by
  obtain ⟨τ, e, hs, a1, a2, a3, a4⟩ := kee_loop F hK F 0 σ h25 hM (by omega) (by omega)
  rw [nI_0] at e
  exact ⟨τ, e, hs, fun d hd => a1 d (by omega) hd, fun i hi => a2 i (Or.inl (by omega)), a3, a4⟩
theorem com_loop (F : Nat) {K : Nat} (hK : K ≤ 200) : ∀ (m c : Nat) (σ : Sg), c ≤ 12 → 12 < c + m → (∀ d, d < c → σ.2.1 29 d = σ.2.1 33 (12 * K + d)) → ∃ τ, fX7_comes_2 F m σ (nI K) (nI c) = some (0, τ) ∧ Sm [23, 24] [29] σ τ ∧ (∀ d, d < 12 → τ.2.1 29 d = σ.2.1 33 (12 * K + d)) ∧ τ.1 23 = σ.2.1 34 K ∧ τ.1 24 = σ.2.1 35 K := by
  intro m
  induction m with
  | zero => intro c σ h1 h2; omega
  | succ m ih =>
    intro c σ h1 h2 h3
    show ∃ τ, bX7_comes_2 F (fX7_comes_2 F m) σ (nI K) (nI c) = _ ∧ _
    unfold bX7_comes_2 ls_
    have iK : ib (nI K) 201 := nI_in (by omega) (by omega)
    have hcK : (nI K).toNatClampNeg = K := nI_clamp (by omega)
    by_cases hc : c = 12
    · subst hc
      simp only [if_pos (show (12 : Int32) ≤ nI 12 by decide), if_pos iK, hcK, sv_2]
      exact ⟨_, rfl, (Sm.sv (by simp)).tr (Sm.sv (by simp)), h3, rfl, rfl⟩
    · have hcc : (nI c).toNatClampNeg = c := nI_clamp (by omega)
      have hck : (nI (12 * K + c)).toNatClampNeg = 12 * K + c := nI_clamp (by omega)
      simp only [if_neg (n12 (show c < 12 by omega)), if_pos (nI_in (show c < 12 by omega) (show 12 < 2 ^ 31 by omega)), hcc, nI12, if_pos (nI_in (show 12 * K + c < 2412 by omega) (by omega)), hck, nI_1]
      have s1 : Sm [23, 24] [29] σ (sa σ 29 c (σ.2.1 33 (12 * K + c))) := Sm.sa (by simp)
      obtain ⟨τ, e, hs, a1, a2, a3⟩ := ih (c + 1) (sa σ 29 c (σ.2.1 33 (12 * K + c))) (by omega) (by omega) (fun d hd => by
        rw [sa_2, sa_2, if_pos rfl, if_neg (show ¬ (33 : Nat) = 29 by decide), upd_at]
        by_cases h : d = c
        · rw [if_pos h, h]
        · rw [if_neg h]; exact h3 d (by omega))
      exact ⟨τ, e, s1.tr hs, a1, a2, a3⟩
/-- comes: a stand of old is taken up -/
theorem com {F : Nat} (hF : 40 ≤ F) {K : Nat} (hK : K ≤ 200) (σ : Sg) : ∃ τ, fX7_comes F σ (nI K) = some (0, τ) ∧ Sm [23, 24] [29] σ τ ∧ (∀ d, d < 12 → τ.2.1 29 d = σ.2.1 33 (12 * K + d)) ∧ τ.1 23 = σ.2.1 34 K ∧ τ.1 24 = σ.2.1 35 K := by
  obtain ⟨τ, e, h⟩ := com_loop F hK F 0 σ (by omega) (by omega) (fun d hd => by omega)
  rw [nI_0] at e
  exact ⟨τ, e, h⟩
def tot : Nat → (Nat → Nat) → Nat
  | 0, _ => 0
  | n + 1, men => tot n men + men n
theorem tot_le (n : Nat) (men : Nat → Nat) {c : Nat} (h : c < n) : men c ≤ tot n men := by
  induction n with
  | zero => omega
  | succ n ih =>
    unfold tot
    by_cases hc : c = n
    · subst hc; omega
    · have := ih (by omega); omega
theorem tot_congr {n : Nat} {m1 m2 : Nat → Nat} (h : ∀ c, c < n → m1 c = m2 c) : tot n m1 = tot n m2 := by
  induction n with
  | zero => rfl
  | succ n ih => unfold tot; rw [ih (fun c hc => h c (by omega)), h n (by omega)]
theorem tot_up {n : Nat} {men : Nat → Nat} {c v : Nat} (h : c < n) : tot n (up1 men c v) + men c = tot n men + v := by
  induction n with
  | zero => omega
  | succ n ih =>
    unfold tot
    by_cases hc : c = n
    · subst hc
      rw [up1_s, tot_congr (m1 := up1 men c v) (m2 := men) (fun d hd => up1_o men v (by omega))]; omega
    · rw [up1_o men v (by omega)]
      have := ih (by omega)
      omega
theorem tot_0 (n : Nat) : tot n (fun _ => 0) = 0 := by
  induction n with
  | zero => rfl
  | succ n ih => show tot n (fun _ => 0) + 0 = 0; rw [ih]
theorem blw_loop {σ : Sg} {n : Nat} {E : Gr} {men : Nat → Nat} (hG : GM σ n E) (hM : MN σ men) (F : Nat) : ∀ (m c : Nat), c ≤ n → n < c + m → fX7_below_4 F m σ (nI (tot c men)) (nI c) = some (nI (tot n men), σ) := by
  have hn := hG.1.1
  intro m
  induction m with
  | zero => intro c h1 h2; omega
  | succ m ih =>
    intro c h1 h2
    show bX7_below_4 F (fX7_below_4 F m) σ _ (nI c) = _
    unfold bX7_below_4 li_
    rw [hG.2.1]
    by_cases hc : c = n
    · subst hc; rw [if_pos (nI_le (Nat.le_refl _) (by omega))]
    · have hcc : (nI c).toNatClampNeg = c := nI_clamp (by omega)
      obtain ⟨mc, -⟩ := hM c (by omega)
      simp only [if_neg (nI_ge (show c < n by omega) (by omega)), if_pos (nI_in (show c < 12 by omega) (by omega)), hcc, mc, nI_1, nI_add]
      exact ih (c + 1) (by omega) (by omega)
theorem blw {σ : Sg} {n : Nat} {E : Gr} {men : Nat → Nat} (hG : GM σ n E) (hM : MN σ men) {F : Nat} (hF : 40 ≤ F) : fX7_below F σ = some (nI (tot n men), σ) := by
  have := blw_loop hG hM F F 0 (by omega) (by have := hG.1.1; omega)
  rw [show tot 0 men = 0 from rfl, nI_0] at this
  exact this
