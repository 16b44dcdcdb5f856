/-! ===== look ===== -/
theorem PairOk.same {σ : Sg} {wn : Option Nat} {fx fm : Nat → Sg → Rs} (hI : Inv_ σ wn) {F : Nat} {r : Int32} (e1 : fx F σ = some (r, σ)) (e2 : fm F σ = some (r, σ)) : PairOk Inv_ σ wn fx fm := ⟨F, r, σ, σ, wn, e1, e2, hI, (Sm.rf (vs := []) (as := [])).keep (by simp)⟩
theorem deg_loop {σ : Sg} {n : Nat} {E : Gr} (hG : GM σ n E) (hC : GC σ n E) (F : Nat) {c : Nat} (hc : c < 12) : ∀ (m k : Nat), k ≤ 18 → 18 < k + m → fX7_degree_4 F m σ (nI c) (nI (cnt k (fun i => bt (σ.2.1 4 c) i))) (nI k) = some (nI (cnt 18 (fun i => bt (σ.2.1 4 c) i)), σ) := by
  intro m
  induction m with
  | zero => intro k h1 h2; omega
  | succ m ih =>
    intro k h1 h2
    show bX7_degree_4 F (fX7_degree_4 F m) σ (nI c) _ (nI k) = _
    unfold bX7_degree_4 li_
    by_cases hk : k = 18
    · subst hk; rw [if_pos (by decide)]
    · rw [if_neg (n18 (by omega))]
      have ihk := ih (k + 1) (by omega) (by omega)
      have e : cnt (k + 1) (fun i => bt (σ.2.1 4 c) i) = cnt k (fun i => bt (σ.2.1 4 c) i) + (if bt (σ.2.1 4 c) k = true then 1 else 0) := rfl
      rcases isAt_ hG F (show k < 18 by omega) hc with ⟨d, hd, e1⟩ | ⟨hno, e1⟩
      · rw [e1]
        have hb : bt (σ.2.1 4 c) k = true := (hC.2.2.2.2.1 c hc k).mpr (by
          rcases hd with hd | hd
          · exact ⟨c, d, hd, Or.inl rfl⟩
          · exact ⟨d, c, hd, Or.inr rfl⟩)
        rw [e, if_pos hb] at ihk
        simp only [Option.bind_some, if_neg (show ¬ (1 : Int32) = 0 by decide), nI_1]
        exact ihk
      · rw [e1]
        have hb : ¬ bt (σ.2.1 4 c) k = true := fun z => by
          obtain ⟨a, b, h3, h4⟩ := (hC.2.2.2.2.1 c hc k).mp z
          rcases h4 with rfl | rfl
          · exact hno b (Or.inl h3)
          · exact hno a (Or.inr h3)
        rw [e, if_neg hb] at ihk
        simp only [Option.bind_some, if_pos, Int32.add_zero, nI_1]
        exact ihk
theorem deg {σ : Sg} {n : Nat} {E : Gr} (hG : GM σ n E) (hC : GC σ n E) {F : Nat} (hF : 40 ≤ F) {c : Nat} (hc : c < 12) : fX7_degree F σ (nI c) = some (nI (cnt 18 (fun i => bt (σ.2.1 4 c) i)), σ) := by
  have := deg_loop hG hC F hc F 0 (by omega) (by omega)
  rw [show cnt 0 (fun i => bt (σ.2.1 4 c) i) = 0 from rfl, nI_0] at this
  exact this
theorem GC.at18 {σ : Sg} {n : Nat} {E : Gr} (h : GC σ n E) {c : Nat} (hc : c < 12) : ∀ i, bt (σ.2.1 4 c) i = true → i < 18 := fun i hi => by
  obtain ⟨a, b, e, -⟩ := (h.2.2.2.2.1 c hc i).mp hi
  exact (h.1.2 i a b e).1
theorem i_cases (k : Nat) (hk : k < 100) (b : Int32) : b.toInt < 0 ∨ (∃ j, j ≤ k ∧ b = nI j) ∨ (k : Int) < b.toInt := by
  by_cases h : b < 0
  · left; rw [Int32.lt_iff_toInt_lt] at h; have : (0 : Int32).toInt = 0 := by decide
    omega
  · obtain ⟨j, hj, rfl⟩ := nI_of h
    rw [nI_toInt hj]
    by_cases h2 : j ≤ k
    · exact Or.inr (Or.inl ⟨j, h2, rfl⟩)
    · right; right; omega
theorem b_same {x y : Int32} {i : Nat} (hi : i < 32) (h : bt x i = true ↔ bt y i = true) : (x >>> (nI i &&& 31)) &&& 1 = (y >>> (nI i &&& 31)) &&& 1 := by
  rw [b_v hi, b_v hi]
  by_cases hb : bt x i = true
  · rw [if_pos hb, if_pos (h.mp hb)]
  · rw [if_neg hb, if_neg (fun z => hb (h.mpr z))]
theorem look_c {σ : Sg} {wn : Option Nat} {n : Nat} {E : Gr} {mo : Nat} {row : Nat → Nat} {K : Nat} {S : Nat → Std} {O : Nat → Ord_} (hD : InvD σ wn n E mo row K S O) {F : Nat} (hF : 40 ≤ F) {c : Nat} (hc : c < n) {j : Nat} (hj : j ≤ 3) : ∃ r, fX6_lookAtCave F σ (nI c) (nI j) = some (r, σ) ∧ fX7_look F σ (nI c) (nI j) = some (r, σ) := by
  obtain ⟨hGC, hGM, hMO, hLY, hL1, hL2, hHI, hXN, hXH, hMH, hPL⟩ := id hD
  have hn := hGC.1.1
  have hK := hHI.1
  have ec : fX7_isCave F σ (nI c) = some (1, σ) := by
    rcases isC hGM F (nI c) with ⟨c2, -, -, e⟩ | ⟨hno, -⟩
    · exact e
    · exact absurd rfl (hno c hc)
  have hcc : (nI c).toNatClampNeg = c := nI_clamp (by omega)
  have h25 : σ.1 25 = nI K := hMH.1
  have hcK : (nI K).toNatClampNeg = K := nI_clamp (by omega)
  have iK : ib (nI K) 201 := nI_in (by omega) (by omega)
  have ic : ib (nI c) 12 := nI_in (by omega) (by omega)
  have i3 : ib ((12 : Int32) * nI K + nI c) 2412 := by rw [nI12]; exact nI_in (by omega) (by omega)
  have c3 : ((12 : Int32) * nI K + nI c).toNatClampNeg = 12 * K + c := by rw [nI12]; exact nI_clamp (by omega)
  obtain ⟨p, hp, hrp, hfp⟩ := first_at (hLY.2 c hc)
  have ep : fX2_placeOf F σ (nI c) = some (nI p, σ) := by
    have := xpl_loop hGC.gn hL1 F (by omega) hp hrp hfp F 0 (by omega) (by omega)
    rw [nI_0] at this; exact this
  have ep2 : fX7_placeOf F σ (nI c) = some (nI p, σ) := by
    have := mpl_loop hL2 F (show c < 12 by omega) (show p < 12 by omega) hrp hfp F 0 (by omega) (by omega)
    rw [nI_0] at this; exact this
  have dg := deg hGM hGC hF (show c < 12 by omega)
  have bcd := bc F σ (hGC.at18 (show c < 12 by omega))
  unfold fX6_lookAtCave fX7_look
  have hj' : j = 0 ∨ j = 1 ∨ j = 2 ∨ j = 3 := by omega
  rcases hj' with rfl | rfl | rfl | rfl
  · refine ⟨nI ((S K).1 c), ?_, ?_⟩
    · rw [if_neg (by decide), if_pos (by decide)]
      simp only [if_pos ic, hcc, hXN.1 c (by omega)]
    · rw [if_neg (by decide), if_neg (by decide), ec]
      simp only [Option.bind_some, if_neg (show ¬ (1 : Int32) = 0 by decide), nI_0, if_true, h25, if_pos i3, c3, (hMH.2.1 K (Nat.le_refl K)).1 c (by omega)]
  · refine ⟨((S K).2 >>> (nI c &&& 31)) &&& 1, ?_, ?_⟩
    · rw [if_neg (by decide), if_neg (by decide), if_pos (by decide), hXN.2.2.2]
    · rw [if_neg (by decide), if_neg (by decide), ec]
      simp only [Option.bind_some, if_neg (show ¬ (1 : Int32) = 0 by decide), if_neg (show ¬ nI 1 = 0 by decide), if_pos (show nI 1 = 1 by decide), h25, if_pos iK, hcK, (hMH.2.1 K (Nat.le_refl K)).2.1]
  · refine ⟨nI (cnt 18 (fun i => bt (σ.2.1 4 c) i)), ?_, ?_⟩
    · rw [if_neg (by decide), if_neg (by decide), if_neg (by decide), if_pos (by decide)]
      simp only [if_pos ic, hcc]
      rw [bcd]; rfl
    · rw [if_neg (by decide), if_neg (by decide), ec]
      simp only [Option.bind_some, if_neg (show ¬ (1 : Int32) = 0 by decide), if_neg (show ¬ nI 2 = 0 by decide), if_neg (show ¬ nI 2 = 1 by decide), if_pos (show nI 2 = 2 by decide)]
      rw [dg]; rfl
  · refine ⟨nI p, ?_, ?_⟩
    · rw [if_neg (by decide), if_neg (by decide), if_neg (by decide), if_neg (by decide), if_pos (by decide), ep]; rfl
    · rw [if_neg (by decide), if_neg (by decide), ec]
      simp only [Option.bind_some, if_neg (show ¬ (1 : Int32) = 0 by decide), if_neg (show ¬ nI 3 = 0 by decide), if_neg (show ¬ nI 3 = 1 by decide), if_neg (show ¬ nI 3 = 2 by decide)]
      rw [ep2]; rfl
theorem look_p {σ : Sg} {wn : Option Nat} {n : Nat} {E : Gr} {mo : Nat} {row : Nat → Nat} {K : Nat} {S : Nat → Std} {O : Nat → Ord_} (hD : InvD σ wn n E mo row K S O) {F : Nat} (hF : 40 ≤ F) {p : Nat} (hp : p < 18) (hpE : (E p).isSome = true) {j : Nat} (hj : j ≤ 7) (hj4 : 4 ≤ j) : ∃ r, fX6_lookAtPassage F σ (nI p) (nI j) = some (r, σ) ∧ bX7_look_76 F σ (nI p) (nI j) = some (r, σ) := by
  obtain ⟨hGC, hGM, hMO, hLY, hL1, hL2, hHI, hXN, hXH, hMH, hPL⟩ := id hD
  have hn := hGC.1.1
  have hK := hHI.1
  have ec : fX7_isPassage F σ (nI p) = some (1, σ) := by
    rcases isPg hGM F (nI p) with ⟨c2, -, -, -, e⟩ | ⟨hno, -⟩
    · exact e
    · exact absurd rfl (hno p hp hpE)
  have hcc : (nI p).toNatClampNeg = p := nI_clamp (by omega)
  have h25 : σ.1 25 = nI K := hMH.1
  have h3 : σ.1 3 = nI K := hXH.1
  have hcK : (nI K).toNatClampNeg = K := nI_clamp (by omega)
  have iK : ib (nI K) 201 := nI_in (by omega) (by omega)
  have ic : ib (nI p) 18 := nI_in (by omega) (by omega)
  obtain ⟨a, b, hab⟩ : ∃ a b, E p = some (a, b) := by
    cases h : E p with
    | none => rw [h] at hpE; cases hpE
    | some q => exact ⟨q.1, q.2, rfl⟩
  obtain ⟨x1, x2⟩ := hGC.2.2.2.1 p a b hab
  obtain ⟨y1, y2⟩ := hGM.2.2.2 p a b hab
  obtain ⟨v, e1, hv⟩ := hGC.pAt (F := F) (by omega) (S K).2
  have h7 : σ.1 7 = (S K).2 := hXN.2.2.2
  have m35 := (hMH.2.1 K (Nat.le_refl K)).2.2
  unfold fX6_lookAtPassage bX7_look_76
  have hj' : j = 4 ∨ j = 5 ∨ j = 6 ∨ j = 7 := by omega
  rcases hj' with rfl | rfl | rfl | rfl
  · refine ⟨nI a, ?_, ?_⟩
    · rw [if_neg (by decide), if_pos (by decide)]
      simp only [if_pos ic, hcc, x1]
    · rw [if_neg (by decide), if_neg (by decide), ec]
      simp only [Option.bind_some, if_neg (show ¬ (1 : Int32) = 0 by decide), if_pos (show nI 4 = 4 by decide), if_pos ic, hcc, y1]
  · refine ⟨nI b, ?_, ?_⟩
    · rw [if_neg (by decide), if_neg (by decide), if_pos (by decide)]
      simp only [if_pos ic, hcc, x2]
    · rw [if_neg (by decide), if_neg (by decide), ec]
      simp only [Option.bind_some, if_neg (show ¬ (1 : Int32) = 0 by decide), if_neg (show ¬ nI 5 = 4 by decide), if_pos (show nI 5 = 5 by decide), if_pos ic, hcc, y2]
  · refine ⟨(v >>> (nI p &&& 31)) &&& 1, ?_, ?_⟩
    · rw [if_neg (by decide), if_neg (by decide), if_neg (by decide), if_pos (by decide), h7, e1]; rfl
    · rw [if_neg (by decide), if_neg (by decide), ec]
      simp only [Option.bind_some, if_neg (show ¬ (1 : Int32) = 0 by decide), if_neg (show ¬ nI 6 = 4 by decide), if_neg (show ¬ nI 6 = 5 by decide), if_pos (show nI 6 = 6 by decide), h25, if_pos iK, hcK]
      rw [b_same (x := v) (y := σ.2.1 35 K) (by omega) ((hv p).trans (m35 p).symm)]
  · rw [if_neg (by decide), if_neg (by decide), if_neg (by decide), if_neg (by decide), if_pos (by decide), if_neg (by decide), if_neg (by decide), ec]
    simp only [Option.bind_some, if_neg (show ¬ (1 : Int32) = 0 by decide), if_neg (show ¬ nI 7 = 4 by decide), if_neg (show ¬ nI 7 = 5 by decide), if_neg (show ¬ nI 7 = 6 by decide), h25, if_pos iK, hcK]
    unfold fX3_passagesJustLost li_
    dsimp only
    rw [h3]
    by_cases hK0 : K = 0
    · subst hK0
      refine ⟨0, ?_, ?_⟩
      · rw [if_neg (by decide)]
        simp only [Option.bind_some]
        rw [b_v (by omega), b_0]; rfl
      · rw [if_pos (by decide)]
    · rw [nI_sub1 (by omega)]
      have i2 : ib (nI (K - 1)) 200 := nI_in (by omega) (by omega)
      have i3 : ib (nI (K - 1)) 201 := nI_in (by omega) (by omega)
      have c2 : (nI (K - 1)).toNatClampNeg = K - 1 := nI_clamp (by omega)
      obtain ⟨w, e2, hw⟩ := hGC.pAt (F := F) (by omega) (S (K - 1)).2
      have m35' := (hMH.2.1 (K - 1) (by omega)).2.2
      rw [if_pos (nI_pos' (by omega)), if_neg (nI_nle (by omega) (by omega)), h7, e1]
      simp only [Option.bind_some, if_pos i2, if_pos i3, c2, (hXH.2.2 (K - 1) (by omega)).2.2.2.1, e2]
      rw [b_v (x := v &&& _) (by omega), b_and, b_not _ (by omega)]
      have q1 := (hv p).trans (m35 p).symm
      have q2 := (hw p).trans (m35' p).symm
      by_cases g1 : bt v p = true
      · rw [if_pos (show ((σ.2.1 35 K) >>> (nI p &&& 31)) &&& 1 = 1 from (b_t1 (by omega)).mpr (q1.mp g1))]
        by_cases g2 : bt w p = true
        · rw [if_neg (show ¬ ((σ.2.1 35 (K - 1)) >>> (nI p &&& 31)) &&& 1 = 0 from fun z => by rw [(b_t0 (by omega)).mp z] at q2; exact absurd (q2.mp g2) (by decide)), g1, g2]
          exact ⟨_, rfl, rfl⟩
        · have g2' : bt w p = false := by simpa using g2
          have g3 : bt (σ.2.1 35 (K - 1)) p = false := by
            cases h : bt (σ.2.1 35 (K - 1)) p with
            | false => rfl
            | true => exact absurd (q2.mpr h) g2
          rw [if_pos (show ((σ.2.1 35 (K - 1)) >>> (nI p &&& 31)) &&& 1 = 0 from (b_t0 (by omega)).mpr g3), g1, g2']
          exact ⟨_, rfl, rfl⟩
      · have g1' : bt v p = false := by simpa using g1
        rw [if_neg (show ¬ ((σ.2.1 35 K) >>> (nI p &&& 31)) &&& 1 = 1 from fun z => g1 (q1.mpr ((b_t1 (by omega)).mp z))), g1']
        exact ⟨_, rfl, rfl⟩
theorem step_look (σ : Sg) (wn : Option Nat) (l b : Int32) (hI : Inv_ σ wn) : PairOk Inv_ σ wn (fun F σ => fX6_look F σ l b) (fun F σ => fX7_look F σ l b) := by
  have hI0 := hI
  obtain ⟨n, E, mo, row, K, S, O, hD⟩ := hI
  obtain ⟨hGC, hGM, hMO, hLY, hL1, hL2, hHI, hXN, hXH, hMH, hPL⟩ := id hD
  obtain ⟨F, hF⟩ : ∃ F : Nat, 40 ≤ F := ⟨40, Nat.le_refl _⟩
  have hn := hGC.1.1
  have z0 : (0 : Int32).toInt = 0 := by decide
  have z4 : (4 : Int32).toInt = 4 := by decide
  have z7 : (7 : Int32).toInt = 7 := by decide
  rcases i_cases 7 (by omega) b with h | ⟨j, hj, rfl⟩ | h'
  · refine PairOk.same hI0 (F := F) (r := -1) ?_ ?_
    · show fX6_look F σ l b = _
      unfold fX6_look
      rw [if_neg (by rw [Int32.le_iff_toInt_le]; omega)]
      rcases hasC hGC.gn F l with ⟨c, hc, rfl, e1⟩ | ⟨hno, e1⟩
      · rw [e1]
        simp only [Option.bind_some, if_neg (show ¬ (1 : Int32) = 0 by decide)]
        unfold fX6_lookAtCave
        rw [if_pos (Or.inl h)]; rfl
      · rw [e1]; rfl
    · show fX7_look F σ l b = _
      unfold fX7_look bX7_look_76
      rw [if_pos (by rw [Int32.lt_iff_toInt_lt]; omega), if_pos (by rw [Int32.lt_iff_toInt_lt]; omega)]
  · by_cases hj3 : j ≤ 3
    · rcases hasC hGC.gn F l with ⟨c, hc, rfl, e1⟩ | ⟨hno, e1⟩
      · obtain ⟨r, q1, q2⟩ := look_c hD hF hc hj3
        refine PairOk.same hI0 (F := F) (r := r) ?_ q2
        show fX6_look F σ (nI c) (nI j) = _
        unfold fX6_look
        rw [if_neg (by rw [show (4 : Int32) = nI 4 by decide]; exact nI_ge (by omega) (by omega)), e1]
        simp only [Option.bind_some, if_neg (show ¬ (1 : Int32) = 0 by decide), q1]
      · refine PairOk.same hI0 (F := F) (r := -1) ?_ ?_
        · show fX6_look F σ l (nI j) = _
          unfold fX6_look
          rw [if_neg (by rw [show (4 : Int32) = nI 4 by decide]; exact nI_ge (by omega) (by omega)), e1]; rfl
        · show fX7_look F σ l (nI j) = _
          unfold fX7_look
          rw [if_neg (nI_pos (by omega)), if_neg (by rw [show (4 : Int32) = nI 4 by decide]; exact nI_ge (by omega) (by omega))]
          rcases isC hGM F l with ⟨c2, h3, h4, -⟩ | ⟨-, e4⟩
          · exact absurd h4 (hno c2 h3)
          · rw [e4]; rfl
    · have m76 : fX7_look F σ l (nI j) = bX7_look_76 F σ l (nI j) := by
        unfold fX7_look
        rw [if_neg (nI_pos (by omega)), if_pos (by rw [show (4 : Int32) = nI 4 by decide]; exact nI_le (by omega) (by omega))]
      have x4 : fX6_look F σ l (nI j) = (fX1_hasPassage F σ l).bind fun q1 => (fun (r1 : Int32) (σ1 : Sg) => if r1 = (0 : Int32) then (some ((-1 : Int32), σ1)) else ((fX6_lookAtPassage F σ1 l (nI j)).bind fun q2 => (fun (r2 : Int32) (σ2 : Sg) => some (r2, σ2)) q2.1 q2.2)) q1.1 q1.2 := by
        unfold fX6_look
        rw [if_pos (by rw [show (4 : Int32) = nI 4 by decide]; exact nI_le (by omega) (by omega))]
      rcases hasPg hGC.2.2.1 F l with ⟨p, hp, rfl, hpE, e1⟩ | ⟨hno, e1⟩
      · obtain ⟨r, q1, q2⟩ := look_p hD hF hp hpE hj (by omega)
        refine PairOk.same hI0 (F := F) (r := r) ?_ (m76.trans q2)
        show fX6_look F σ (nI p) (nI j) = _
        rw [x4, e1]
        simp only [Option.bind_some, if_neg (show ¬ (1 : Int32) = 0 by decide), q1]
      · refine PairOk.same hI0 (F := F) (r := -1) ?_ ?_
        · show fX6_look F σ l (nI j) = _
          rw [x4, e1]; rfl
        · show fX7_look F σ l (nI j) = _
          rw [m76]
          unfold bX7_look_76
          rw [if_neg (by rw [show (4 : Int32) = nI 4 by decide]; exact nI_nlt (by omega) (by omega)), if_neg (by rw [show (7 : Int32) = nI 7 by decide]; exact nI_nlt (by omega) (by omega))]
          rcases isPg hGM F l with ⟨c2, h3, h4, h5, -⟩ | ⟨-, e4⟩
          · exact absurd h4 (hno c2 h3 h5)
          · rw [e4]; rfl
  · have h : 7 < b.toInt := h'
    refine PairOk.same hI0 (F := F) (r := -1) ?_ ?_
    · show fX6_look F σ l b = _
      unfold fX6_look
      rw [if_pos (by rw [Int32.le_iff_toInt_le]; omega)]
      rcases hasPg hGC.2.2.1 F l with ⟨p, hp, rfl, hpE, e1⟩ | ⟨hno, e1⟩
      · rw [e1]
        simp only [Option.bind_some, if_neg (show ¬ (1 : Int32) = 0 by decide)]
        unfold fX6_lookAtPassage
        rw [if_pos (Or.inr h)]; rfl
      · rw [e1]; rfl
    · show fX7_look F σ l b = _
      unfold fX7_look bX7_look_76
      rw [if_neg (by rw [Int32.lt_iff_toInt_lt]; omega), if_pos (by rw [Int32.le_iff_toInt_le]; omega), if_neg (by rw [Int32.lt_iff_toInt_lt]; omega), if_pos (by rw [Int32.lt_iff_toInt_lt]; omega)]
