/-! ===== the reference: a stand shown from its number; met ===== -/
theorem sh_115 (F : Nat) : ∀ (m c : Nat) (σ : Sg), c ≤ 12 → 12 < c + m → ∃ τ, fX7_shows_115 F m σ (nI c) = some (0, τ) ∧ Sm [] [29] σ τ ∧ (∀ d, c ≤ d → d < 12 → τ.2.1 29 d = 0) ∧ ∀ d, d < c → τ.2.1 29 d = σ.2.1 29 d := by
  intro m
  induction m with
  | zero => intro c σ _ _; omega
  | succ m ih =>
    intro c σ hc hm
    show ∃ τ, bX7_shows_115 F _ σ (nI c) = _ ∧ _
    unfold bX7_shows_115 ls_
    by_cases h12 : c = 12
    · rw [if_pos (by rw [h12]; decide)]
      exact ⟨σ, rfl, Sm.rf, fun d h1 h2 => by omega, fun _ _ => rfl⟩
    · have ic : ib (nI c) 12 := nI_in (by omega) (by omega)
      have cc : (nI c).toNatClampNeg = c := nI_clamp (by omega)
      simp only [if_neg (n12 (show c < 12 by omega)), if_pos ic, cc, nI_1]
      obtain ⟨τ, a1, a2, a3, a4⟩ := ih (c + 1) (sa σ 29 c 0) (by omega) (by omega)
      refine ⟨τ, a1, (Sm.sa (by simp)).tr a2, fun d h1 h2 => ?_, fun d hd => ?_⟩
      · by_cases e : d = c
        · rw [e, a4 c (by omega), sa_2, if_pos rfl, upd_at, if_pos rfl]
        · exact a3 d (by omega) h2
      · rw [a4 d (by omega), sa_2, if_pos rfl, upd_at, if_neg (by omega)]
theorem sh_86 (F : Nat) {men : Nat → Nat} (h3 : ∀ c, men c ≤ 3) : ∀ (c m : Nat) (σ : Sg), c ≤ 6 → c < m → (∀ d, c ≤ d → d < 6 → σ.2.1 29 d = nI (men d)) → ∃ τ, fX7_shows_86 F m σ (nI (mc men c)) (nI c + Int32.ofInt (-1)) = fX7_shows_115 F F τ 6 ∧ Sm [] [29] σ τ ∧ ∀ d, d < 6 → τ.2.1 29 d = nI (men d) := by
  intro c
  induction c with
  | zero =>
    intro m σ _ hm h
    obtain ⟨m, rfl⟩ : ∃ k, m = k + 1 := ⟨m - 1, by omega⟩
    refine ⟨σ, ?_, Sm.rf, fun d hd => h d (by omega) hd⟩
    show bX7_shows_86 F _ σ _ _ = _
    unfold bX7_shows_86
    rw [nI_m1, if_pos (by decide)]
  | succ c ih =>
    intro m σ hc hm h
    obtain ⟨m, rfl⟩ : ∃ k, m = k + 1 := ⟨m - 1, by omega⟩
    have hx := mc_lt h3 (c + 1)
    have hx2 : 4 ^ (c + 1) ≤ 4 ^ 6 := Nat.pow_le_pow_right (by omega) hc
    have em : mc men (c + 1) = 4 * mc men c + men c := rfl
    have m3 := h3 c
    have ic : ib (nI c) 12 := nI_in (by omega) (by omega)
    have cc : (nI c).toNatClampNeg = c := nI_clamp (by omega)
    have ng : ¬ nI c < (0 : Int32) := nI_pos (by omega)
    have e1 : nI (mc men (c + 1)) &&& (3 : Int32) = nI (men c) := by
      rw [show (3 : Int32) = nI (2 ^ 2 - 1) by decide, nI_mod]
      congr 1
      omega
    have e2 : nI (mc men (c + 1)) >>> ((2 : Int32) &&& 31) = nI (mc men c) := by
      have := nI_shr (x := mc men (c + 1)) (k := 2) (by omega) (by omega)
      rw [show (2 : Int32) = nI 2 by decide, this]
      congr 1
      omega
    obtain ⟨τ, a1, a2, a3⟩ := ih m (sa σ 29 c (nI (men c))) (by omega) (by omega) (fun d h1 h2 => by
      rw [sa_2, if_pos rfl, upd_at]
      by_cases e : d = c
      · rw [if_pos e, e]
      · rw [if_neg e]; exact h d (by omega) h2)
    refine ⟨τ, ?_, (Sm.sa (by simp)).tr a2, a3⟩
    show bX7_shows_86 F _ σ _ _ = _
    unfold bX7_shows_86 ls_ li_
    rw [nI_dn]
    simp only [if_neg ng, if_pos ic, cc, e1, e2]
    exact a1
theorem sh_40 {X : CX} (F : Nat) {b : Nat → Bool} {v : Nat} : ∀ (p m : Nat) (σ : Sg), GM σ (cN X) (cE X) → p ≤ 18 → p < m → pcd (cE X) b v p < 2 ^ 31 → (∀ i, bt (σ.1 24) i = true ↔ (p ≤ i ∧ (cE X i).isSome = true ∧ b i = true)) → ∃ τ, fX7_shows_40 F m σ (nI (pcd (cE X) b v p)) (nI p + Int32.ofInt (-1)) = fX7_shows_86 F F τ (nI v) 5 ∧ Sm [24] [] σ τ ∧ ∀ i, bt (τ.1 24) i = true ↔ ((cE X i).isSome = true ∧ b i = true) := by
  intro p
  induction p with
  | zero =>
    intro m σ hG _ hm hv h
    obtain ⟨m, rfl⟩ : ∃ k, m = k + 1 := ⟨m - 1, by omega⟩
    refine ⟨σ, ?_, Sm.rf, fun i => by rw [h i]; exact ⟨fun z => z.2, fun z => ⟨by omega, z⟩⟩⟩
    show bX7_shows_40 F _ σ _ _ = _
    unfold bX7_shows_40
    rw [nI_m1, if_pos (by decide)]
    rfl
  | succ p ih =>
    intro m σ hG hp hm hv h
    obtain ⟨m, rfl⟩ : ∃ k, m = k + 1 := ⟨m - 1, by omega⟩
    have step : pcd (cE X) b v (p + 1) = if (cE X p).isSome = true then 2 * pcd (cE X) b v p + (if b p = true then 1 else 0) else pcd (cE X) b v p := rfl
    have ip : ib (nI p) 18 := nI_in (by omega) (by omega)
    have cp : (nI p).toNatClampNeg = p := nI_clamp (by omega)
    have ng : ¬ nI p < (0 : Int32) := nI_pos (by omega)
    by_cases he : (cE X p).isSome = true
    · rw [if_pos he] at step
      have e1 : (nI (pcd (cE X) b v (p + 1)) &&& (1 : Int32)) = if b p = true then 1 else 0 := by
        rw [show (1 : Int32) = nI (2 ^ 1 - 1) by decide, nI_mod]
        by_cases hb : b p = true
        · rw [if_pos hb, step, if_pos hb]
          congr 1
          omega
        · rw [if_neg hb, step, if_neg hb]
          rw [show (2 * pcd (cE X) b v p + 0) % 2 ^ 1 = 0 by omega, nI_0]
      have e2 : nI (pcd (cE X) b v (p + 1)) >>> ((1 : Int32) &&& 31) = nI (pcd (cE X) b v p) := by
        have := nI_shr (x := pcd (cE X) b v (p + 1)) (k := 1) hv (by omega)
        rw [show (1 : Int32) = nI 1 by decide, this]
        congr 1
        rw [step]
        split <;> omega
      obtain ⟨σ1, h1⟩ : ∃ σ1, σ1 = sv σ 24 ((σ.1 24) ||| ((if b p = true then (1 : Int32) else 0) <<< (nI p &&& 31))) := ⟨_, rfl⟩
      have s1 : Sm [24] [] σ σ1 := by rw [h1]; exact Sm.sv (by simp)
      obtain ⟨τ, a1, a2, a3⟩ := ih m σ1 (hG.sm s1 (by simp) (by simp) (by simp) (by simp)) (by omega) (by omega) (by rw [step] at hv; omega) (fun i => by
        have e3 : σ1.1 24 = (σ.1 24) ||| ((if b p = true then (1 : Int32) else 0) <<< (nI p &&& 31)) := by rw [h1, sv_1, if_pos rfl]
        rw [e3, b_or, Bool.or_eq_true, h i]
        by_cases hb : b p = true
        · rw [if_pos hb, b_bit (by omega), decide_eq_true_eq]
          constructor
          · rintro (⟨z1, z2⟩ | z)
            · exact ⟨by omega, z2⟩
            · rw [z]; exact ⟨by omega, he, hb⟩
          · rintro ⟨z1, z2⟩
            by_cases e : i = p
            · exact Or.inr e
            · exact Or.inl ⟨by omega, z2⟩
        · rw [if_neg hb]
          have e4 : (0 : Int32) <<< (nI p &&& 31) = 0 := by
            have := nI_shl 0 (k := p) (by omega)
            rw [Nat.zero_mul, nI_0] at this
            exact this
          rw [e4, b_0]
          constructor
          · rintro (⟨z1, z2⟩ | z)
            · exact ⟨by omega, z2⟩
            · cases z
          · rintro ⟨z1, z2⟩
            have : i ≠ p := fun e => hb (by rw [← e]; exact z2.2)
            exact Or.inl ⟨by omega, z2⟩)
      refine ⟨τ, ?_, s1.tr a2, a3⟩
      show bX7_shows_40 F _ σ _ _ = _
      unfold bX7_shows_40 ls_ li_
      rw [nI_dn]
      simp only [if_neg ng, if_pos ip, cp, hG.2.2.1 p (by omega), if_pos he, e1, e2]
      rw [if_neg (by decide), ← h1]
      exact a1
    · rw [if_neg he] at step
      obtain ⟨τ, a1, a2, a3⟩ := ih m σ hG (by omega) (by omega) (by rw [← step]; exact hv) (fun i => by
        rw [h i]
        constructor
        · rintro ⟨z1, z2⟩; exact ⟨by omega, z2⟩
        · rintro ⟨z1, z2⟩
          have : i ≠ p := fun e => he (by rw [← e]; exact z2.1)
          exact ⟨by omega, z2⟩)
      refine ⟨τ, ?_, a2, a3⟩
      show bX7_shows_40 F _ σ _ _ = _
      unfold bX7_shows_40
      rw [nI_dn, step]
      simp only [if_neg ng, if_pos ip, cp, hG.2.2.1 p (by omega), if_neg he, if_true]
      exact a1
theorem mshow {X : CX} (hX : CX8 X) {σ : Sg} (hG : GM σ (cN X) (cE X)) {s : BS} (hs : VS X s) {F : Nat} (hF : 40 ≤ F) (l2 : Int32) : ∃ τ, fX7_shows F σ (nI (mn X s)) l2 = some (0, τ) ∧ Sm [23, 24, 27] [29] σ τ ∧ MS X τ s ∧ Tf (τ.1 27) (s.2 = true) := by
  have hlt := mn_lt hX hs
  have hp := mn_p hX hs
  have hl := hs.l6 hX.1
  have hn := hX.1.2.2.2.1.2
  have v1 : nI (mn X s) &&& (1 : Int32) = if s.2 = true then 1 else 0 := by
    rw [show (1 : Int32) = nI (2 ^ 1 - 1) by decide, nI_mod]
    unfold mn
    by_cases h : s.2 = true
    · rw [if_pos h, if_pos h]; congr 1; omega
    · rw [if_neg h, if_neg h, ← nI_0]; congr 1; omega
  have v2 : (nI (mn X s) >>> ((1 : Int32) &&& 31)) &&& (63 : Int32) = s.1.2 := by
    have := nI_shr (x := mn X s) (k := 1) (by omega) (by omega)
    rw [show (1 : Int32) = nI 1 by decide, this, show (63 : Int32) = nI (2 ^ 6 - 1) by decide, nI_mod]
    have : mn X s / 2 ^ 1 % 2 ^ 6 = ln s.1.2 := by
      unfold mn
      split <;> omega
    rw [this, nI_ln]
  have v3 : nI (mn X s) >>> ((7 : Int32) &&& 31) = nI (pcd (cE X) (pl (cE X) s.1.2) (mc s.1.1 6) 18) := by
    have := nI_shr (x := mn X s) (k := 7) (by omega) (by omega)
    rw [show (7 : Int32) = nI 7 by decide, this]
    congr 1
    unfold mn
    split <;> omega
  have go : ∀ y : Int32, Tf y (s.2 = true) → ∃ τ, fX7_shows_40 F F (sv (sv (sv σ 27 y) 23 s.1.2) 24 0) (nI (pcd (cE X) (pl (cE X) s.1.2) (mc s.1.1 6) 18)) 17 = some (0, τ) ∧ Sm [23, 24, 27] [29] σ τ ∧ MS X τ s ∧ Tf (τ.1 27) (s.2 = true) := by
    intro y hy
    obtain ⟨σ0, h0⟩ : ∃ σ0, σ0 = sv (sv (sv σ 27 y) 23 s.1.2) 24 0 := ⟨_, rfl⟩
    have s0 : Sm [23, 24, 27] [] σ σ0 := by rw [h0]; exact ((Sm.sv (by simp)).tr (Sm.sv (by simp))).tr (Sm.sv (by simp))
    have z24 : σ0.1 24 = 0 := by rw [h0, sv_1, if_pos rfl]
    have z23 : σ0.1 23 = s.1.2 := by rw [h0, sv_1, if_neg (by decide), sv_1, if_pos rfl]
    have z27 : σ0.1 27 = y := by rw [h0, sv_1, if_neg (by decide), sv_1, if_neg (by decide), sv_1, if_pos rfl]
    have hG0 := hG.sm s0 (by simp) (by simp) (by simp) (by simp)
    obtain ⟨σ1, a1, a2, a3⟩ := sh_40 (X := X) F (b := pl (cE X) s.1.2) (v := mc s.1.1 6) 18 F σ0 hG0 (by omega) (by omega) (by omega) (fun i => by
      rw [z24, b_0]
      constructor
      · intro z; cases z
      · rintro ⟨z1, z2, -⟩
        obtain ⟨⟨a, b⟩, hab⟩ := Option.isSome_iff_exists.mp z2
        have := hX.1.2.2.2.2.2 i a b hab
        omega)
    obtain ⟨σ2, b1, b2, b3⟩ := sh_86 F (men := s.1.1) (fun c => hs.m3 hX.1 c) 6 F σ1 (by omega) (by omega) (fun d h1 h2 => by omega)
    obtain ⟨σ3, c1, c2, c3, c4⟩ := sh_115 F F 6 σ2 (by omega) (by omega)
    have s13 : Sm [] [29] σ1 σ3 := b2.tr c2
    rw [← h0]
    refine ⟨σ3, ?_, (s0.up (by simp) (by simp)).tr ((a2.up (by simp) (by simp)).tr (s13.up (by simp) (by simp))), ⟨fun c hc => ?_, ?_, fun i => ?_⟩, ?_⟩
    · rw [show (17 : Int32) = nI 18 + Int32.ofInt (-1) by decide, a1, show (5 : Int32) = nI 6 + Int32.ofInt (-1) by decide, b1]
      exact c1
    · have m3 := hs.m3 hX.1 c
      refine ⟨?_, by omega⟩
      by_cases h6 : c < 6
      · rw [c4 c h6, b3 c h6]
      · rw [c3 c (by omega) hc, hs.1.1 c (by omega), nI_0]
    · rw [s13.1 23 (by simp), a2.1 23 (by simp), z23]
    · rw [s13.1 24 (by simp), a3 i, pl_iff]
      constructor
      · intro z; exact z.2
      · intro z
        refine ⟨?_, z⟩
        obtain ⟨a, b, hab, -⟩ := z
        rw [hab]; rfl
    · rw [s13.1 27 (by simp), a2.1 27 (by simp), z27]; exact hy
  unfold fX7_shows ls_ li_
  rw [v1, v2, v3]
  by_cases h : s.2 = true
  · rw [if_pos h, if_pos rfl]
    exact go 1 (Tf.yes h)
  · rw [if_neg h, if_neg (by decide)]
    exact go 0 (Tf.no h)
/-! meets -/
def hsM (v : Int32) : Nat := (ln (v * (-1640531535 : Int32)) >>> 13) % 2 ^ 19
theorem hsM_e (v : Int32) : (((v * (-1640531535 : Int32)).toUInt32 >>> ((13 : Int32).toUInt32 &&& Int32.toUInt32 31)).toInt32) &&& (524287 : Int32) = nI (hsM v) := by
  have h := nI_ushr (x := ln (v * (-1640531535 : Int32))) (k := 13) (by omega) (BitVec.isLt _)
  rw [nI_ln] at h
  rw [show (13 : Int32) = nI 13 by decide, h, show (524287 : Int32) = nI (2 ^ 19 - 1) by decide, nI_mod]
  rfl
def opm (o : Ord_) : Nat := (o.1 * 16 + o.2.1) * 32 + (if o.1 = 2 then o.2.2 else 31)
def MR (T : Nat) (X : CX) (σ : Sg) (B : BB) : Prop :=
  GM σ (cN X) (cE X) ∧ σ.1 22 = nI (cM X) ∧ σ.1 26 = nI (bM B) ∧
  (∀ i, i < bM B → σ.2.1 37 i = nI (mn X (bQ B i)) ∧ (0 < i → σ.2.1 38 i = nI (bF B i) ∧ σ.2.1 39 i = nI (opm (bO B i))) ∧ (i = 0 → σ.2.1 38 i = -1)) ∧
  HT T (bM B) (σ.2.1 36) (σ.2.1 37) hsM
theorem MR.sm {T : Nat} {X : CX} {σ τ : Sg} {B : BB} (h : MR T X σ B) (hs : Sm [23, 24, 27] [29] σ τ) : MR T X τ B := by
  obtain ⟨r1, r2, r3, r4, r5⟩ := h
  refine ⟨r1.sm hs (by simp) (by simp) (by simp) (by simp), (hs.1 22 (by simp)).trans r2, (hs.1 26 (by simp)).trans r3, fun i hi => ?_, ?_⟩
  · rw [hs.2.1 37 (by simp), hs.2.1 38 (by simp), hs.2.1 39 (by simp)]; exact r4 i hi
  · rw [hs.2.1 36 (by simp), hs.2.1 37 (by simp)]; exact r5
