/-! ===== step: fewest, the whole ===== -/
theorem InvD.pl {σ τ : Sg} {wn wn' : Option Nat} {n : Nat} {E : Gr} {mo : Nat} {row : Nat → Nat} {K : Nat} {S : Nat → Std} {O : Nat → Ord_} (h : InvD σ wn n E mo row K S O) {vs as : List Nat} (hs : Sm vs as σ τ) (hv : ∀ i ∈ vs, i ∈ [8, 9, 10, 11, 12, 13, 14, 15, 16, 17, 18, 19, 20, 23, 24, 26, 27, 28]) (ha : ∀ k ∈ as, k ∈ [16, 18, 19, 20, 21, 23, 29, 32, 36, 37, 38, 39, 40, 41, 43]) (hp : PL τ wn') : InvD τ wn' n E mo row K S O := by
  obtain ⟨hGC, hGM, hMO, hLY, hL1, hL2, hHI, hXN, hXH, hMH, hPL⟩ := h
  have hs' := hs.up hv ha
  exact ⟨hGC.sm hs' (by simp) (by simp) (by simp) (by simp) (by simp) (by simp), hGM.sm hs' (by simp) (by simp) (by simp) (by simp), hMO.sm hs' (by simp) (by simp), hLY, hL1.sm hs' (by simp), hL2.sm hs' (by simp), hHI, hXN.sm hs' (by simp) (by simp) (by simp) (by simp), hXH.sm hs' (by simp) (by simp) (by simp) (by simp) (by simp) (by simp) (by simp), hMH.sm hs' (by simp) (by simp) (by simp) (by simp) (by simp) (by simp), hp⟩
theorem InvD.sw {σ : Sg} {wn : Option Nat} {n : Nat} {E : Gr} {mo : Nat} {row : Nat → Nat} {K : Nat} {S : Nat → Std} {O : Nat → Ord_} (h : InvD σ wn n E mo row K S O) (v : Value) : InvD (sw σ v) wn n E mo row K S O := by
  obtain ⟨hGC, hGM, hMO, hLY, hL1, hL2, hHI, hXN, hXH, hMH, hPL⟩ := h
  refine ⟨hGC, hGM, hMO, hLY, hL1, hL2, hHI, hXN, hXH, hMH, ?_⟩
  cases wn with
  | none => exact hPL
  | some N => exact hPL
theorem Sm.sw {vs as : List Nat} {σ τ : Sg} (h : Sm vs as σ τ) (v w : Value) : Sm vs as (sw (sw σ v) w) (sw τ w) := ⟨h.1, h.2.1, rfl⟩
theorem Sm.sz (σ : Sg) : Sm [] [43] σ (sz_ σ) := ⟨fun _ _ => rfl, fun k hk => if_neg (by simpa using hk), rfl⟩
/-- one order in both writings -/
theorem pl_ord {X : CX} {s t : BS} {x : Ord_} (hX : CXok X) (h : Cd X s x t) : ∃ o c p, o ≤ 2 ∧ c < 6 ∧ p < 19 ∧ (o = 2 ↔ 0 < p) ∧ nI (opk x) = nI (1024 * o + 32 * c + p) ∧ nI (opm x) = nI (512 * o + 32 * c + (if p = 0 then 31 else p - 1)) := by
  have hn := hX.2.2.2.1.2
  have hcn := h.1.cn hX.2.2.2.2
  have ho := h.1.o2
  unfold opk opm
  by_cases h2 : x.1 = 2
  · have hp : x.2.2 < 18 := by
      rcases h.1 with ⟨z, -⟩ | ⟨z, -⟩ | ⟨-, -, d, z, -⟩
      · omega
      · omega
      · rcases z with z | z <;> exact (hX.2.2.2.2.2 _ _ _ z).1
    refine ⟨x.1, x.2.1, x.2.2 + 1, ho, by omega, by omega, ⟨fun _ => by omega, fun _ => h2⟩, ?_, ?_⟩
    · rw [if_pos h2]; congr 1; omega
    · rw [if_pos h2, if_neg (by omega)]; congr 1; omega
  · refine ⟨x.1, x.2.1, 0, ho, by omega, by omega, ⟨fun z => absurd z h2, fun z => by omega⟩, ?_, ?_⟩
    · rw [if_neg h2]; congr 1; omega
    · rw [if_neg h2, if_pos rfl]; congr 1; omega
theorem step_fewest (σ : Sg) (wn : Option Nat) (a : Int32) (hI : Inv_ σ wn) : FewOk Inv_ σ a := by
  obtain ⟨n, E, mo, row, KK, S, O, hD⟩ := hI
  obtain ⟨T, hT⟩ : ∃ T : Nat, T = 524288 := ⟨524288, rfl⟩
  obtain ⟨F, hF0⟩ : ∃ F : Nat, T + 3000 ≤ F := ⟨T + 3000, Nat.le_refl _⟩
  have hF : 40 ≤ F := by omega
  have hD0 := hD.sw .null
  obtain ⟨σ0, h0⟩ : ∃ σ0, σ0 = sw σ .null := ⟨_, rfl⟩
  rw [← h0] at hD0
  have w0 : σ0.2.2 = .null := by rw [h0]; rfl
  have hxf : ∀ (k13 : Sg → Rs) (k34 : Sg → Int32 → Rs) (k53 : Sg → Rs), bX6_few_0 F k13 k34 k53 σ a = (fX6_canBeSolved F σ0 a).bind fun q2 => (fun (r2 : Int32) (σ2 : Sg) => if r2 = (0 : Int32) then (k13 σ2) else (fX6_few_17 F k13 k34 k53 F σ2 a ((1 : Int32)))) q2.1 q2.2 := fun k13 k34 k53 => by
    rw [h0]; rfl
  have hmf : ∀ τ : Sg, fX7_fewest F τ a = (fX7_isSmall F (sv τ 28 (-1)) a).bind fun q2 => (fun (r2 : Int32) (σ2 : Sg) => if r2 = (0 : Int32) then (some ((-1 : Int32), σ2)) else (fX7_fewest_17 F F σ2 a ((1 : Int32)))) q2.1 q2.2 := fun τ => rfl
  have sv28 : ∀ τ : Sg, Sm [28] [] τ (sv τ 28 (-1)) := fun τ => Sm.sv (by simp)
  have pln : ∀ τ : Sg, PL (sv τ 28 (-1)) none := fun τ => by
    show (sv τ 28 (-1)).1 28 = -1
    rw [sv_1, if_pos rfl]
  rcases solv hD0 hF a with ⟨x1, x2⟩ | ⟨L, g1, g2, g3, g4, g5, x1⟩
  · left
    have hD1 : InvD (sv σ0 28 (-1)) none n E mo row KK S O := hD0.pl (sv28 σ0) (by simp) (by simp) (pln σ0)
    have x2' : fX7_isSmall F (sv σ0 28 (-1)) a = some (0, sv σ0 28 (-1)) := by
      rcases solv hD1 hF a with ⟨-, y⟩ | ⟨L, l1, l2, l3, l4, l5, -⟩
      · exact y
      · exfalso
        have y := small1 hD0.2.1 hF l1 l3 l4
        rw [← l2, x2] at y
        have := congrArg (fun z => z.map Prod.fst) y
        simp at this
    refine ⟨F, -1, σ0, sv σ0 28 (-1), ?_, ?_, ⟨n, E, mo, row, KK, S, O, hD1⟩, w0⟩
    · rw [hxf, bind_e x1]; rfl
    · rw [hmf, bind_e x2']; rfl
  · obtain ⟨X, hX⟩ : ∃ X : Nat → CX, ∀ k, X k = (L, k, mo, n, E) := ⟨fun k => (L, k, mo, n, E), fun _ => rfl⟩
    have cl : ∀ k, cL (X k) = L := fun k => by rw [hX]; rfl
    have ck : ∀ k, cK (X k) = k := fun k => by rw [hX]; rfl
    have cm : ∀ k, cM (X k) = mo := fun k => by rw [hX]; rfl
    have cn : ∀ k, cN (X k) = n := fun k => by rw [hX]; rfl
    have ce : ∀ k, cE (X k) = E := fun k => by rw [hX]; rfl
    have X8 : ∀ k, 1 ≤ k → k ≤ 3 → CX8 (X k) := fun k k1 k3 => by
      refine ⟨⟨by rw [cl]; exact g1, by rw [ck]; exact ⟨k1, k3⟩, by rw [cm, cn]; exact g5, by rw [cn]; exact g3, by rw [cn, ce]; exact hD.1.1⟩, by rw [ce]; exact g4⟩
    have hG0 : ∀ j, GC σ0 (cN (X j)) (cE (X j)) ∧ σ0.1 2 = nI (cM (X j)) := fun j => by
      rw [cn, ce, cm]; exact ⟨hD0.1, hD0.2.2.1.1⟩
    have xe : ∀ (k13 : Sg → Rs) (k34 : Sg → Int32 → Rs) (k53 : Sg → Rs), bX6_few_0 F k13 k34 k53 σ a = fX6_few_17 F k13 k34 k53 F σ0 (nI L) (nI 1) := fun k13 k34 k53 => by
      rw [hxf, bind_e x1, g2]; rfl
    have me : ∀ τ : Sg, GM τ n E → fX7_fewest F τ a = fX7_fewest_17 F F (sv τ 28 (-1)) (nI L) (nI 1) := fun τ hG => by
      have y := small1 (hG.sm (sv28 τ) (by simp) (by simp) (by simp) (by simp)) hF g1 g3 g4
      rw [hmf, g2, bind_e y]; rfl
    -- which of the two it is does not hang on the continuations
    rcases xfew X8 cl ck (F := F) (by omega) (fun σ => some (-1, σ)) (fun _ _ => none) (fun σ => some (4, σ)) F 1 σ0 (by omega) (by omega) (by omega) hG0 with ⟨σ1, a1, a2, a3⟩ | ⟨σq, k', H, -, -, b3, b4, b5, b6, -⟩
    · left
      have hD1 := hD0.scr a2 (by simp) (by simp)
      have G1 : ∀ j, GM (sv σ1 28 (-1)) (cN (X j)) (cE (X j)) ∧ (sv σ1 28 (-1)).1 22 = nI (cM (X j)) := fun j => by
        rw [cn, ce, cm]
        exact ⟨hD1.2.1.sm (sv28 σ1) (by simp) (by simp) (by simp) (by simp), ((sv28 σ1).1 22 (by simp)).trans hD1.2.2.1.2.1⟩
      obtain ⟨σ2, c1, c2⟩ := mfew_all hT X8 cl ck (F := F) (by omega) F 1 (sv σ1 28 (-1)) (by omega) (by omega) (by omega) G1 a3
      have s2 : Sm [23, 24, 26, 27, 28] [29, 36, 37, 38, 39] σ1 σ2 := ((sv28 σ1).up (by simp) (by simp)).tr (c2.up (by simp) (by simp))
      refine ⟨F, 4, σ1, σ2, ?_, ?_, ⟨n, E, mo, row, KK, S, O, hD1.pl s2 (by simp) (by simp) ?_⟩, ?_⟩
      · rw [xe]; exact a1
      · rw [me σ1 hD1.2.1]; exact c1
      · show σ2.1 28 = -1
        rw [c2.1 28 (by simp)]; exact pln σ1
      · rw [s2.2.2, a2.2.2]; exact w0
    · right
      rcases xfew X8 cl ck (F := F) (by omega) (fun _ => none) (fun σ l2 => some (l2, σ)) (fun _ => none) F 1 σ0 (by omega) (by omega) (by omega) hG0 with ⟨σ1, -, -, a3⟩ | ⟨σ1, k2, H2, d1, d2, d3, d4, d5, d6, d7⟩
      · exact absurd b6 ((a3 k' b3.1 b3.2).no b5)
      · have X2 := X8 k2 d3.1 d3.2
        have hB := bst_ok X2.1 H2 (fun h hh => (d5.1 h hh).1)
        have hM := hB.most X2.1
        obtain ⟨g, e1, e2, e3, e4⟩ : ∃ g, g < bM (bst (X k2) H2) ∧ σ1.1 9 = nI g ∧ (bQ (bst (X k2) H2) g).1.2 = 0 ∧ ∀ j, j < g → (bQ (bst (X k2) H2) j).1.2 ≠ 0 := by
          rcases d7.2.2.2.1 with ⟨-, z⟩ | z
          · exact absurd d6 z
          · exact z
        obtain ⟨d, P, hP⟩ := wy_ex hB g e1
        have hd := short_600 X2.1 d5 hP e3 e4
        have r7 := d7.2.2.2.2.1
        have wA := wayA hM (σ := σ1) (fun i i1 i2 => ((r7 i i2).2 i1).1) hP hd F d F (Nat.le_refl d) (by omega)
        rw [Nat.sub_self, nI_0, hP.2.1] at wA
        have sz := Sm.sz σ1
        obtain ⟨τ, f1, f2, f3, -⟩ := wayB hM hP hd F d F (sz_ σ1) (fun i i1 i2 => by rw [sz.2.1 20 (by simp), sz.2.1 21 (by simp)]; exact (r7 i i2).2 i1) (Nat.le_refl d) (by omega)
        rw [hP.2.1] at f1
        refine ⟨F, nI k2, σ1, τ, d, ?_, by omega, by rw [e2]; exact wA, by rw [e2]; exact f1, fun v => ?_⟩
        · rw [xe]; exact d1
        · have sT : Sm [8, 9, 10, 11, 12, 13, 14, 15, 16, 17] [18, 19, 20, 21, 43] σ0 τ := (d2.up (by simp) (by simp)).tr ((sz.tr f2).up (by simp) (by simp))
          have sV : Sm [8, 9, 10, 11, 12, 13, 14, 15, 16, 17] [18, 19, 20, 21, 43] (sw σ v) (sw τ v) := ⟨fun i hi => by
            have := sT.1 i hi
            rw [h0] at this; exact this, fun k hk => by
            have := sT.2.1 k hk
            rw [h0] at this; exact this, rfl⟩
          have hDv := hD.sw v
          have GV : GM (sw τ v) n E := hDv.2.1.sm sV (by simp) (by simp) (by simp) (by simp)
          have G1 : ∀ j, GM (sv (sw τ v) 28 (-1)) (cN (X j)) (cE (X j)) ∧ (sv (sw τ v) 28 (-1)).1 22 = nI (cM (X j)) := fun j => by
            rw [cn, ce, cm]
            exact ⟨GV.sm (sv28 _) (by simp) (by simp) (by simp) (by simp), ((sv28 (sw τ v)).1 22 (by simp)).trans ((sV.1 22 (by simp)).trans hDv.2.2.1.2.1)⟩
          obtain ⟨σ3, r, D, k17, m1, m2, m3, m4⟩ := mfew_at hT X8 cl ck (F := F) (by omega) d3.2 d5 d6 F 1 (sv (sw τ v) 28 (-1)) (by omega) d3.1 (by omega) G1 d4
          obtain ⟨wR, w1, w2, w3, w4⟩ := m3
          have hDg : bM D - 1 = g := by
            rcases Nat.lt_trichotomy (bM D - 1) g with z | z | z
            · exact absurd (by rw [(m4.2 (bM D - 1) (by omega)).1]; exact w3) (e4 _ z)
            · exact z
            · exact absurd (by rw [← (m4.2 g (by omega)).1]; exact e3) (w4 g z)
          have hPG : ∀ k, k ≤ d → P k < bM D := fun k hk => by
            by_cases e : k = d
            · rw [e, hP.2.1]; omega
            · have := hP.mono k d (by omega) (Nat.le_refl d)
              rw [hP.2.1] at this; omega
          have hGD := m4.1
          have rD := wR.2.2.2.1
          have s3 : Sm [28] [] σ3 (sv σ3 28 0) := Sm.sv (by simp)
          have A38 : ∀ i, 0 < i → i < bM D → σ3.2.1 38 i = nI (bF (bst (X k2) H2) i) ∧ σ3.2.1 39 i = nI (opm (bO (bst (X k2) H2) i)) := fun i i1 i2 => by
            rw [(m4.2 i i2).2.1, (m4.2 i i2).2.2]
            exact (rD i i2).2.1 i1
          obtain ⟨σ4, n1, n2, n3⟩ := way45 hP hd (G := bM D) (by omega) hPG F k17 (nI k2) r d F (sv σ3 28 0) (fun i i1 i2 => by rw [s3.2.1 38 (by simp)]; exact (A38 i i1 i2).1) (by rw [s3.2.1 38 (by simp)]; exact (rD 0 (by omega)).2.2 rfl) (by rw [sv_1, if_pos rfl, Nat.sub_self, nI_0]) (Nat.le_refl d) (by omega)
          have s34 : Sm [28] [] σ3 σ4 := s3.tr n2
          obtain ⟨σ5, o1, o2, o3, -⟩ := way87 hP hd (G := bM D) (by omega) hPG F k17 (nI k2) d F σ4 (fun i i1 i2 => by rw [s34.2.1 38 (by simp), s34.2.1 39 (by simp)]; exact A38 i i1 i2) (by rw [s34.2.1 38 (by simp)]; exact (rD 0 (by omega)).2.2 rfl) (Nat.le_refl d) (by omega)
          have er : r = nI (P d) := by rw [w2, hDg, hP.2.1]
          rw [← er] at n1 o1
          have sF : Sm [23, 24, 26, 27, 28] [29, 36, 37, 38, 39, 40] (sw τ v) σ5 := ((sv28 (sw τ v)).up (by simp) (by simp)).tr ((m2.up (by simp) (by simp)).tr ((s34.up (by simp) (by simp)).tr (o2.up (by simp) (by simp))))
          have sAll : Sm [8, 9, 10, 11, 12, 13, 14, 15, 16, 17, 23, 24, 26, 27, 28] [18, 19, 20, 21, 43, 29, 36, 37, 38, 39, 40] (sw σ v) σ5 := (sV.up (by simp) (by simp)).tr (sF.up (by simp) (by simp))
          have e43 : σ5.2.1 43 = τ.2.1 43 := sF.2.1 43 (by simp)
          refine ⟨σ5, ?_, ⟨n, E, mo, row, KK, S, O, hDv.pl sAll (by simp) (by simp) ⟨(o2.1 28 (by simp)).trans n3, hd, fun i hi => ?_⟩⟩, e43, sF.2.2⟩
          · rw [me (sw τ v) GV, m1, n1, o1]
          · have hcd := (hB.2.2.2.1 (P (i + 1)) (by have := (hP.2.2.2 i hi).1; omega) (hP.2.2.1 (i + 1) (by omega))).2
            obtain ⟨oo, cc, pp, q1, q2, q3, q4, q5, q6⟩ := pl_ord X2.1 hcd
            exact ⟨oo, cc, pp, q1, q2, q3, q4, by rw [e43, f3 i hi]; exact q5, by rw [o3 i hi]; exact q6⟩
