/-! ===== the class's search ===== -/
def xc (t : BS) : Nat := bcode t.1.1 + ln t.1.2 * 2 ^ 12 + (if t.2 = true then 1 else 0) * 2 ^ 18
theorem VS.bl {X : CX} (hX : CXok X) {s : BS} (h : VS X s) : bcode s.1.1 < 4096 := bcode_lt fun c _ => h.m3 hX c
theorem xc_lt {X : CX} (hX : CXok X) {s : BS} (h : VS X s) : xc s < 2 ^ 19 := by
  have h1 := h.bl hX
  have h2 := h.l6 hX
  unfold xc
  split <;> omega
theorem VS.ext2 {X : CX} (hX : CXok X) {s t : BS} (hs : VS X s) (ht : VS X t) (e1 : bcode s.1.1 = bcode t.1.1) (e2 : s.1.2 = t.1.2) (e3 : s.2 = t.2) : s = t := by
  refine hs.ext ht (fun c hc => ⟨?_, by rw [e2]⟩) e3
  exact bcode_inj (fun c _ => hs.m3 hX c) (fun c _ => ht.m3 hX c) e1 (by have := hX.2.2.2.1.2; omega)
theorem xc_inj {X : CX} (hX : CXok X) {s t : BS} (hs : VS X s) (ht : VS X t) (e : xc s = xc t) : s = t := by
  have a1 := hs.bl hX
  have a2 := hs.l6 hX
  have b1 := ht.bl hX
  have b2 := ht.l6 hX
  have e' : bcode s.1.1 = bcode t.1.1 ∧ ln s.1.2 = ln t.1.2 ∧ s.2 = t.2 := by
    unfold xc at e
    cases h1 : s.2 <;> cases h2 : t.2 <;> simp [h1, h2] at e ⊢ <;> omega
  exact hs.ext2 hX ht e'.1 (by rw [← nI_ln s.1.2, ← nI_ln t.1.2, e'.2.1]) e'.2.2
def hsX (v : Int32) : Nat := ln (v * (-1640531535 : Int32)) >>> 21
theorem hsX_lt (v : Int32) : hsX v < 2048 := by
  have : ln (v * (-1640531535 : Int32)) < 2 ^ 32 := BitVec.isLt _
  unfold hsX
  rw [Nat.shiftRight_eq_div_pow]
  omega
theorem hsX_e (v : Int32) : ((v * (-1640531535 : Int32)).toUInt32 >>> ((21 : Int32).toUInt32 &&& Int32.toUInt32 31)).toInt32 = nI (hsX v) := by
  have h := nI_ushr (x := ln (v * (-1640531535 : Int32))) (k := 21) (by omega) (BitVec.isLt _)
  rw [nI_ln] at h
  exact h
theorem nx_2048 (a : Nat) : nI (a % 2048 + 1) &&& 2047 = nI ((a + 1) % 2048) := by
  rw [show (2047 : Int32) = nI (2 ^ 11 - 1) by decide, nI_mod]
  congr 1
  omega
theorem xslot_loop {σ : Sg} {M : Nat} (hM : M ≤ 1604) (F : Nat) (v : Int32) {a d : Nat} (hd : d < 2048) (h1 : ∀ e, e < d → ∃ i, i < M ∧ σ.2.1 18 ((a + e) % 2048) = nI (i + 1) ∧ σ.2.1 19 i ≠ v) (h2 : σ.2.1 18 ((a + d) % 2048) = 0 ∨ ∃ i, i < M ∧ σ.2.1 18 ((a + d) % 2048) = nI (i + 1) ∧ σ.2.1 19 i = v) : ∀ (m e : Nat), e ≤ d → d < e + m → fX0_slotOf_10 F m σ v (nI ((a + e) % 2048)) (nI e) = some (nI ((a + d) % 2048), σ) := by
  intro m
  induction m with
  | zero => intro e _ _; omega
  | succ m ih =>
    intro e he hm
    have hlt : (a + e) % 2048 < 2048 := Nat.mod_lt _ (by omega)
    have g1 : ¬ (2048 : Int32) ≤ nI e := by rw [show (2048 : Int32) = nI 2048 by decide]; exact nI_ge (by omega) (by omega)
    have g2 : ib (nI ((a + e) % 2048)) 2048 := nI_in hlt (by omega)
    have cl : (nI ((a + e) % 2048)).toNatClampNeg = (a + e) % 2048 := nI_clamp (by omega)
    have go : ∀ {i : Nat}, i < M → σ.2.1 18 ((a + e) % 2048) = nI (i + 1) → (σ.2.1 19 i = v → fX0_slotOf_10 F (m + 1) σ v (nI ((a + e) % 2048)) (nI e) = some (nI ((a + e) % 2048), σ)) ∧ (σ.2.1 19 i ≠ v → fX0_slotOf_10 F (m + 1) σ v (nI ((a + e) % 2048)) (nI e) = fX0_slotOf_10 F m σ v (nI ((a + e + 1) % 2048)) (nI (e + 1))) := by
      intro i hi ht
      have g3 : ¬ nI (i + 1) ≤ (0 : Int32) := nI_nle (by omega) (by omega)
      have g4 : ¬ (1604 : Int32) < nI (i + 1) := by rw [show (1604 : Int32) = nI 1604 by decide]; exact nI_nlt (by omega) (by omega)
      have g5 : ib (nI i) 1604 := nI_in (by omega) (by omega)
      have cl5 : (nI i).toNatClampNeg = i := nI_clamp (by omega)
      constructor
      · intro hv
        show bX0_slotOf_10 F _ σ v _ _ = _
        unfold bX0_slotOf_10 li_
        simp only [if_neg g1, if_pos g2, cl, ht, if_neg g3, if_neg g4, nI_pred, if_pos g5, cl5, if_pos hv]
      · intro hv
        show bX0_slotOf_10 F _ σ v _ _ = _
        unfold bX0_slotOf_10 li_
        simp only [if_neg g1, if_pos g2, cl, ht, if_neg g3, if_neg g4, nI_pred, if_pos g5, cl5, if_neg hv, nx_2048, nI_1]
    by_cases hed : e = d
    · subst hed
      rcases h2 with h2 | ⟨i, i1, i2, i3⟩
      · show bX0_slotOf_10 F _ σ v _ _ = _
        unfold bX0_slotOf_10 li_
        simp only [if_neg g1, if_pos g2, cl, h2]
        rw [if_pos (by decide)]
      · exact (go i1 i2).1 i3
    · obtain ⟨i, i1, i2, i3⟩ := h1 e (by omega)
      rw [(go i1 i2).2 i3, Nat.add_assoc]
      exact ih (e + 1) (by omega) (by omega)
theorem xslot {σ : Sg} {M : Nat} (hM : M ≤ 1604) (hH : HT 2048 M (σ.2.1 18) (σ.2.1 19) hsX) {F : Nat} (hF : 2100 ≤ F) (v : Int32) : ∃ d, d < 2048 ∧ fX0_slotOf F σ v = some (nI ((hsX v + d) % 2048), σ) ∧ (∀ e, e < d → ∃ i, i < M ∧ σ.2.1 18 ((hsX v + e) % 2048) = nI (i + 1) ∧ σ.2.1 19 i ≠ v) ∧ ((σ.2.1 18 ((hsX v + d) % 2048) = 0 ∧ ∀ i, i < M → σ.2.1 19 i ≠ v) ∨ ∃ i, i < M ∧ σ.2.1 18 ((hsX v + d) % 2048) = nI (i + 1) ∧ σ.2.1 19 i = v) := by
  obtain ⟨d, d1, d2, d3⟩ := hH.look (by omega) (by omega) v
  refine ⟨d, d1, ?_, d2, d3⟩
  have := xslot_loop hM F v d1 d2 (d3.imp (fun h => h.1) id) F 0 (by omega) (by omega)
  unfold fX0_slotOf li_
  rw [hsX_e]
  rw [Nat.add_zero, Nat.mod_eq_of_lt (hsX_lt v), nI_0] at this
  exact this
/-- the first stand where nothing is lost -/
def FG (B : BB) (g : Int32) : Prop := (g = -1 ∧ ¬ Gl B) ∨ ∃ i, i < bM B ∧ g = nI i ∧ (bQ B i).1.2 = 0 ∧ ∀ j, j < i → (bQ B j).1.2 ≠ 0
def opk (o : Ord_) : Nat := o.1 * 1024 + o.2.1 * 32 + (if o.1 = 2 then o.2.2 + 1 else 0)
def XR (X : CX) (σ : Sg) (B : BB) : Prop :=
  GC σ (cN X) (cE X) ∧ (σ.1 2 = nI (cM X) ∧ σ.1 10 = nI (cL X) ∧ σ.1 11 = nI (cK X)) ∧ σ.1 8 = nI (bM B) ∧ FG B (σ.1 9) ∧
  (∀ i, i < bM B → σ.2.1 19 i = nI (xc (bQ B i)) ∧ (0 < i → σ.2.1 20 i = nI (bF B i) ∧ σ.2.1 21 i = nI (opk (bO B i)))) ∧
  HT 2048 (bM B) (σ.2.1 18) (σ.2.1 19) hsX
def mbr (F : Nat) (σ : Sg) (v1 l2 l4 l5 l6 : Int32) : Rs := (fX0_slotOf F σ v1).bind fun q2 => (fun (r2 : Int32) (σ2 : Sg) => if r2 = (-1 : Int32) then (some (0, σ2)) else (if ib r2 2048 then (if (σ2.2.1 18 r2.toNatClampNeg) = (0 : Int32) then (if (σ2.1 8) < (1604 : Int32) then (if ib (σ2.1 8) 1604 then (ls_ (sa σ2 19 (σ2.1 8).toNatClampNeg v1) fun σ3 => if ib (σ3.1 8) 1604 then (ls_ (sa σ3 20 (σ3.1 8).toNatClampNeg (σ3.1 12)) fun σ4 => (fX5_packed F σ4 l4 l5 l6).bind fun q5 => (fun (r5 : Int32) (σ5 : Sg) => if ib (σ4.1 8) 1604 then (ls_ (sa σ5 21 (σ4.1 8).toNatClampNeg r5) fun σ6 => if l2 = (0 : Int32) then (if (σ6.1 9) = (-1 : Int32) then (ls_ (sv σ6 9 (σ6.1 8)) fun σ7 => bX0_meet_166 F σ7 (r2)) else (bX0_meet_166 F σ6 (r2))) else (bX0_meet_166 F σ6 (r2))) else none) q5.1 q5.2) else none) else none) else (some (0, σ2))) else (some (0, σ2))) else none)) q2.1 q2.2
theorem meet46 (F : Nat) (σ : Sg) (l1 l2 l4 l5 l6 : Int32) : bX0_meet_46 F σ l1 l2 l4 l5 l6 = mbr F σ ((l1 ||| (l2 <<< ((12 : Int32) &&& 31))) ||| 0) l2 l4 l5 l6 := by
  unfold bX0_meet_46; rw [if_pos rfl]; rfl
theorem meet42 (F : Nat) (σ : Sg) (l1 l2 l4 l5 l6 : Int32) : bX0_meet_42 F σ l1 l2 l4 l5 l6 = mbr F σ ((l1 ||| (l2 <<< ((12 : Int32) &&& 31))) ||| 262144) l2 l4 l5 l6 := by
  unfold bX0_meet_42; rw [if_neg (by decide)]; rfl
/-- the tail of meet: one more, or as it was -/
theorem xins {X : CX} (hX : CXok X) {σ : Sg} {B : BB} (hR : XR X σ B) (hv : ∀ i, i < bM B → VS X (bQ B i)) (hM : bM B ≤ 1604) {t : BS} (ht : VS X t) (hnew : ¬ inL B t → bM B < 1604) {F : Nat} (hF : 2100 ≤ F) {l4 l5 l6 : Int32} {h : Nat} {x : Ord_} (hx1 : 0 < bM B → σ.1 12 = nI h) (hx2 : 0 < bM B → ((l4 <<< ((10 : Int32) &&& 31)) ||| (l5 <<< ((5 : Int32) &&& 31))) ||| (l6 + (1 : Int32)) = nI (opk x)) :
    ∃ τ, mbr F σ (nI (xc t)) t.1.2 l4 l5 l6 = some (0, τ) ∧ Sm [8, 9] [18, 19, 20, 21] σ τ ∧ ((inL B t ∧ τ = σ) ∨ (¬ inL B t ∧ XR X τ (app B h x t))) := by
  obtain ⟨r1, ⟨r2, r3, r4⟩, r5, r6, r7, r8⟩ := hR
  obtain ⟨d, d1, d2, d3, d4⟩ := xslot hM r8 hF (nI (xc t))
  have hxt := xc_lt hX ht
  have cdi : ∀ i, i < bM B → (σ.2.1 19 i = nI (xc t) ↔ bQ B i = t) := fun i hi => by
    rw [(r7 i hi).1]
    have := xc_lt hX (hv i hi)
    rw [nI_eq (by omega) (by omega)]
    exact ⟨fun e => xc_inj hX (hv i hi) ht e, fun e => by rw [e]⟩
  obtain ⟨sl, hsl⟩ : ∃ sl, (hsX (nI (xc t)) + d) % 2048 = sl := ⟨_, rfl⟩
  have hlt : sl < 2048 := by rw [← hsl]; exact Nat.mod_lt _ (by omega)
  rw [hsl] at d2 d4
  have cs : (nI sl).toNatClampNeg = sl := nI_clamp (by omega)
  have is : ib (nI sl) 2048 := nI_in hlt (by omega)
  have ns : ¬ nI sl = (-1 : Int32) := fun z => by
    have := congrArg Int32.toInt z
    rw [nI_toInt (by omega)] at this
    have e : (-1 : Int32).toInt = -1 := by decide
    rw [e] at this; omega
  rcases d4 with ⟨f1, f2⟩ | ⟨i, i1, i2, i3⟩
  · have hnl : ¬ inL B t := fun ⟨i, z1, z2⟩ => f2 i z1 ((cdi i z1).mpr z2)
    have hM2 := hnew hnl
    have b1 : nI (bM B) < (1604 : Int32) := by rw [show (1604 : Int32) = nI 1604 by decide]; exact nI_lt hM2 (by omega)
    have b2 : ib (nI (bM B)) 1604 := nI_in hM2 (by omega)
    have b3 : (nI (bM B)).toNatClampNeg = bM B := nI_clamp (by omega)
    have qo : ∀ i, i < bM B → bQ (app B h x t) i = bQ B i := fun i hi => if_neg (by omega)
    have qn : bQ (app B h x t) (bM B) = t := if_pos rfl
    have fo : ∀ i, i < bM B → bF (app B h x t) i = bF B i := fun i hi => if_neg (by omega)
    have fn : bF (app B h x t) (bM B) = h := if_pos rfl
    have oo : ∀ i, i < bM B → bO (app B h x t) i = bO B i := fun i hi => if_neg (by omega)
    have on : bO (app B h x t) (bM B) = x := if_pos rfl
    obtain ⟨σ6, h6⟩ : ∃ σ6, σ6 = sa (sa (sa σ 19 (bM B) (nI (xc t))) 20 (bM B) (σ.1 12)) 21 (bM B) (((l4 <<< ((10 : Int32) &&& 31)) ||| (l5 <<< ((5 : Int32) &&& 31))) ||| (l6 + (1 : Int32))) := ⟨_, rfl⟩
    have e61 : σ6.1 = σ.1 := by rw [h6]; rfl
    have e6 : mbr F σ (nI (xc t)) t.1.2 l4 l5 l6 = if t.1.2 = (0 : Int32) then (if (σ6.1 9) = (-1 : Int32) then (bX0_meet_166 F (sv σ6 9 (σ6.1 8)) (nI sl)) else (bX0_meet_166 F σ6 (nI sl))) else (bX0_meet_166 F σ6 (nI sl)) := by
      unfold mbr
      rw [d2]
      simp only [Option.bind_some, if_neg ns, if_pos is, cs, if_pos f1, r5, if_pos b1, if_pos b2, b3]
      unfold ls_ fX5_packed
      simp only [sa_1, r5, if_pos b2, b3, Option.bind_some]
      rw [h6]
      simp only [sa_1, r5]
    have fin : ∀ (υ : Sg), υ.2 = σ6.2 → (∀ j, j ≠ 9 → υ.1 j = σ.1 j) → FG (app B h x t) (υ.1 9) → ∃ τ, bX0_meet_166 F υ (nI sl) = some (0, τ) ∧ Sm [8, 9] [18, 19, 20, 21] σ τ ∧ XR X τ (app B h x t) := by
      intro υ u1 u2 u3
      refine ⟨sa (sv υ 8 (υ.1 8 + 1)) 18 sl (υ.1 8 + 1), ?_, ?_, ?_⟩
      · unfold bX0_meet_166 ls_
        simp only [if_pos is, cs, sv_1, if_true]
      · refine ⟨fun j hj => ?_, fun k hk => ?_, ?_⟩
        · simp at hj
          rw [sa_1, sv_1, if_neg hj.1, u2 j hj.2]
        · simp at hk
          rw [sa_2, if_neg hk.1, sv_2, u1, h6, sa_2, if_neg hk.2.2.2, sa_2, if_neg hk.2.2.1, sa_2, if_neg hk.2.1]
        · rw [sa_3, sv_2, u1, h6, sa_3, sa_3, sa_3]
      · have q8 : υ.1 8 + 1 = nI (bM B + 1) := by rw [u2 8 (by decide), r5, nI_1]
        have sm : Sm [8, 9] [18, 19, 20, 21] σ (sa (sv υ 8 (υ.1 8 + 1)) 18 sl (υ.1 8 + 1)) := by
          refine ⟨fun j hj => ?_, fun k hk => ?_, ?_⟩
          · simp at hj
            rw [sa_1, sv_1, if_neg hj.1, u2 j hj.2]
          · simp at hk
            rw [sa_2, if_neg hk.1, sv_2, u1, h6, sa_2, if_neg hk.2.2.2, sa_2, if_neg hk.2.2.1, sa_2, if_neg hk.2.1]
          · rw [sa_3, sv_2, u1, h6, sa_3, sa_3, sa_3]
        have a19 : ∀ i, (sa (sv υ 8 (υ.1 8 + 1)) 18 sl (υ.1 8 + 1)).2.1 19 i = if i = bM B then nI (xc t) else σ.2.1 19 i := fun i => by
          rw [sa_2, if_neg (by decide), sv_2, u1, h6, sa_2, if_neg (by decide), sa_2, if_neg (by decide), sa_2, if_pos rfl, upd_at]
        have a20 : ∀ i, (sa (sv υ 8 (υ.1 8 + 1)) 18 sl (υ.1 8 + 1)).2.1 20 i = if i = bM B then σ.1 12 else σ.2.1 20 i := fun i => by
          rw [sa_2, if_neg (by decide), sv_2, u1, h6, sa_2, if_neg (by decide), sa_2, if_pos rfl, upd_at, sa_2, if_neg (show ¬ 20 = 19 by decide)]
        have a21 : ∀ i, (sa (sv υ 8 (υ.1 8 + 1)) 18 sl (υ.1 8 + 1)).2.1 21 i = if i = bM B then (((l4 <<< ((10 : Int32) &&& 31)) ||| (l5 <<< ((5 : Int32) &&& 31))) ||| (l6 + (1 : Int32))) else σ.2.1 21 i := fun i => by
          rw [sa_2, if_neg (by decide), sv_2, u1, h6, sa_2, if_pos rfl, upd_at, sa_2, if_neg (show ¬ 21 = 20 by decide), sa_2, if_neg (show ¬ 21 = 19 by decide)]
        have a18 : ∀ s, (sa (sv υ 8 (υ.1 8 + 1)) 18 sl (υ.1 8 + 1)).2.1 18 s = if s = sl then nI (bM B + 1) else σ.2.1 18 s := fun s => by
          rw [sa_2, if_pos rfl, upd_at, q8, sv_2, u1, h6, sa_2, if_neg (show ¬ 18 = 21 by decide), sa_2, if_neg (show ¬ 18 = 20 by decide), sa_2, if_neg (show ¬ 18 = 19 by decide)]
        refine ⟨r1.sm sm (by simp) (by simp) (by simp) (by simp) (by simp) (by simp), ⟨(sm.1 2 (by simp)).trans r2, (sm.1 10 (by simp)).trans r3, (sm.1 11 (by simp)).trans r4⟩, by rw [sa_1, sv_1, if_pos rfl, q8]; rfl, ?_, fun i hi => ?_, ?_⟩
        · rw [sa_1, sv_1, if_neg (by decide)]; exact u3
        · have hi' : i < bM B + 1 := hi
          by_cases ei : i = bM B
          · refine ⟨?_, fun h0 => ⟨?_, ?_⟩⟩
            · rw [a19, if_pos ei, ei, qn]
            · rw [a20, if_pos ei, hx1 (by omega), ei, fn]
            · rw [a21, if_pos ei, hx2 (by omega), ei, on]
          · obtain ⟨z1, z2⟩ := r7 i (by omega)
            refine ⟨?_, fun h0 => ⟨?_, ?_⟩⟩
            · rw [a19, if_neg ei, z1, qo i (by omega)]
            · rw [a20, if_neg ei, (z2 h0).1, fo i (by omega)]
            · rw [a21, if_neg ei, (z2 h0).2, oo i (by omega)]
        · rw [← hsl] at f1
          have hmm : bM (app B h x t) = bM B + 1 := rfl
          rw [hmm]
          exact r8.put (by omega) d1 d3 f1 (fun s => by rw [a18, hsl]) (fun i hi => by rw [a19, if_neg (by omega)]) (by rw [a19, if_pos rfl])
    have glx : ∀ i, i < bM B → σ.1 9 = nI i → (bQ B i).1.2 = 0 → (∀ j, j < i → (bQ B j).1.2 ≠ 0) → FG (app B h x t) (σ.1 9) := fun i i1 i2 i3 i4 => Or.inr ⟨i, Nat.lt_succ_of_lt i1, i2, by rw [qo i i1]; exact i3, fun j hj => by rw [qo j (by omega)]; exact i4 j hj⟩
    have h8 : σ6.1 8 = nI (bM B) := by rw [e61, r5]
    have main : ∃ τ, mbr F σ (nI (xc t)) t.1.2 l4 l5 l6 = some (0, τ) ∧ Sm [8, 9] [18, 19, 20, 21] σ τ ∧ XR X τ (app B h x t) := by
      rw [e6, e61]
      by_cases h0 : t.1.2 = 0
      · rw [if_pos h0]
        rcases r6 with ⟨g1, g2⟩ | ⟨i, g1, g2, g3, g4⟩
        · rw [if_pos g1, r5]
          refine fin _ rfl (fun j hj => by rw [sv_1, if_neg hj, e61]) (Or.inr ⟨bM B, Nat.lt_succ_self _, by rw [sv_1, if_pos rfl], by rw [qn]; exact h0, fun j hj => by rw [qo j hj]; exact fun z => g2 ⟨j, hj, z⟩⟩)
        · rw [if_neg (fun z => by
            rw [g2] at z
            have := congrArg Int32.toInt z
            rw [nI_toInt (by omega)] at this
            have e : (-1 : Int32).toInt = -1 := by decide
            rw [e] at this; omega)]
          exact fin _ rfl (fun j _ => by rw [e61]) (by rw [e61]; exact glx i g1 g2 g3 g4)
      · rw [if_neg h0]
        refine fin _ rfl (fun j _ => by rw [e61]) ?_
        rw [e61]
        rcases r6 with ⟨g1, g2⟩ | ⟨i, g1, g2, g3, g4⟩
        · refine Or.inl ⟨g1, fun ⟨i, i1, i2⟩ => ?_⟩
          have i1' : i < bM B + 1 := i1
          by_cases ei : i = bM B
          · rw [ei, qn] at i2; exact h0 i2
          · rw [qo i (by omega)] at i2; exact g2 ⟨i, by omega, i2⟩
        · exact glx i g1 g2 g3 g4
    obtain ⟨τ, t1, t2, t3⟩ := main
    exact ⟨τ, t1, t2, Or.inr ⟨hnl, t3⟩⟩
  · refine ⟨σ, ?_, Sm.rf, Or.inl ⟨⟨i, i1, (cdi i i1).mp i3⟩, rfl⟩⟩
    unfold mbr
    rw [d2]
    have : ¬ σ.2.1 18 sl = 0 := by rw [i2]; exact nI_ne0 (by omega) (by omega)
    simp only [Option.bind_some, if_neg ns, if_pos is, cs, if_neg this]
theorem xcode {X : CX} (hX : CXok X) {t : BS} (ht : VS X t) : (nI (bcode t.1.1) ||| (t.1.2 <<< ((12 : Int32) &&& 31))) ||| (if t.2 = true then 262144 else 0) = nI (xc t) := by
  have h1 := ht.bl hX
  have h2 := ht.l6 hX
  have e1 : t.1.2 <<< ((12 : Int32) &&& 31) = nI (ln t.1.2 * 2 ^ 12) := by
    have := nI_shl (ln t.1.2) (k := 12) (by omega)
    rw [nI_ln] at this
    exact this
  rw [e1, nI_cat' (by omega)]
  have e2 : (if t.2 = true then (262144 : Int32) else 0) = nI ((if t.2 = true then 1 else 0) * 2 ^ 18) := by
    split
    · decide
    · decide
  rw [e2, nI_cat' (by omega)]
  rfl
/-- meet -/
theorem xmeet {X : CX} (hX : CXok X) {σ : Sg} {B : BB} (hR : XR X σ B) (hv : ∀ i, i < bM B → VS X (bQ B i)) (hM : bM B ≤ 1604) {t : BS} (ht : VS X t) (hnew : ¬ inL B t → (cL X = 2 → Hang (cN X) (cE X) (cM X) t.1.1 (fun i => bt t.1.2 i = true)) → bM B < 1604) {F : Nat} (hF : 2100 ≤ F) {g l5 l6 : Int32} {h : Nat} {x : Ord_} (hx1 : 0 < bM B → σ.1 12 = nI h) (hx0 : x.1 ≤ 2) (hx2 : 0 < bM B → ((nI x.1 <<< ((10 : Int32) &&& 31)) ||| (l5 <<< ((5 : Int32) &&& 31))) ||| (l6 + (1 : Int32)) = nI (opk x)) (hg : ∀ i, bt g i = true ↔ (i < cN X ∧ 0 < t.1.1 i)) {P : Prop} (h15 : Tf (σ.1 15) P) (hs2 : t.2 = true ↔ (cL X = 1 ∧ (P ∨ x.1 = 2))) :
    ∃ τ, fX0_meet F σ (nI (bcode t.1.1)) t.1.2 g (nI x.1) l5 l6 = some (0, τ) ∧ Sm [8, 9] [18, 19, 20, 21] σ τ ∧ (((inL B t ∨ ¬ (cL X = 2 → Hang (cN X) (cE X) (cM X) t.1.1 (fun i => bt t.1.2 i = true))) ∧ τ = σ) ∨ ((¬ inL B t ∧ (cL X = 2 → Hang (cN X) (cE X) (cM X) t.1.1 (fun i => bt t.1.2 i = true))) ∧ XR X τ (app B h x t))) := by
  obtain ⟨r1, ⟨r2, r3, r4⟩, -⟩ := id hR
  have hL := hX.1
  have l1 : σ.1 10 = (1 : Int32) ↔ cL X = 1 := by rw [r3, show (1 : Int32) = nI 1 by decide, nI_eq (by omega) (by omega)]
  have l2 : σ.1 10 = (2 : Int32) ↔ cL X = 2 := by rw [r3, show (2 : Int32) = nI 2 by decide, nI_eq (by omega) (by omega)]
  have w2 : nI x.1 = (2 : Int32) ↔ x.1 = 2 := by rw [show (2 : Int32) = nI 2 by decide, nI_eq (by omega) (by omega)]
  have e21 : bX0_meet_21 F σ (nI (bcode t.1.1)) t.1.2 (nI x.1) l5 l6 = mbr F σ (nI (xc t)) t.1.2 (nI x.1) l5 l6 := by
    rw [← xcode hX ht]
    unfold bX0_meet_21
    rw [meet46, meet42]
    by_cases a1 : cL X = 1
    · rw [if_pos (l1.mpr a1)]
      rcases h15 with ⟨p1, p2⟩ | ⟨p1, p2⟩
      · rw [if_neg (by rw [p1]; decide), if_pos (hs2.mpr ⟨a1, Or.inl p2⟩)]
      · rw [if_pos p1]
        by_cases a2 : x.1 = 2
        · rw [if_pos (w2.mpr a2), if_pos (hs2.mpr ⟨a1, Or.inr a2⟩)]
        · rw [if_neg (fun z => a2 (w2.mp z)), if_neg (fun z => by
            rcases (hs2.mp z).2 with y | y
            · exact p2 y
            · exact a2 y)]
    · rw [if_neg (fun z => a1 (l1.mp z)), if_neg (fun z => a1 (hs2.mp z).1)]
  by_cases hH : cL X = 2 → Hang (cN X) (cE X) (cM X) t.1.1 (fun i => bt t.1.2 i = true)
  · obtain ⟨τ, t1, t2, t3⟩ := xins hX hR hv hM ht (fun z => hnew z hH) hF hx1 hx2
    refine ⟨τ, ?_, t2, ?_⟩
    · unfold fX0_meet
      by_cases a2 : cL X = 2
      · rw [if_pos (l2.mpr a2)]
        obtain ⟨r, q1, q2⟩ := xhang r1 (F := F) (by omega) hX.2.2.1 r2 (l := t.1.2) hg
        rw [q1]
        rcases q2 with ⟨q2, -⟩ | ⟨-, q3⟩
        · simp only [Option.bind_some]
          rw [if_neg (by rw [q2]; decide), e21, t1]
        · exact absurd (hH a2) q3
      · rw [if_neg (fun z => a2 (l2.mp z)), e21, t1]
    · rcases t3 with ⟨a, b⟩ | ⟨a, b⟩
      · exact Or.inl ⟨Or.inl a, b⟩
      · exact Or.inr ⟨⟨a, hH⟩, b⟩
  · refine ⟨σ, ?_, Sm.rf, Or.inl ⟨Or.inr hH, rfl⟩⟩
    have a2 : cL X = 2 := Classical.byContradiction fun z => hH fun y => absurd y z
    have nh : ¬ Hang (cN X) (cE X) (cM X) t.1.1 (fun i => bt t.1.2 i = true) := fun z => hH fun _ => z
    unfold fX0_meet
    rw [if_pos (l2.mpr a2)]
    obtain ⟨r, q1, q2⟩ := xhang r1 (F := F) (by omega) hX.2.2.1 r2 (l := t.1.2) hg
    rw [q1]
    rcases q2 with ⟨-, q3⟩ | ⟨q2, -⟩
    · exact absurd q3 nh
    · simp only [Option.bind_some]
      rw [if_pos q2]
