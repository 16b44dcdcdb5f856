def fX6_cut (F : Nat) (σ : Sg) (l1 : Int32) : Rs := if l1 < (0 : Int32) then (some ((-1 : Int32), σ)) else (if l1 ≤ (σ.1 0) then (if l1 = (0 : Int32) then ((fX2_greatestCut F σ).bind fun q2 => (fun (r2 : Int32) (σ2 : Sg) => some (r2, σ2)) q2.1 q2.2) else ((fX2_cutBehind F σ l1).bind fun q1 => (fun (r1 : Int32) (σ1 : Sg) => some (r1, σ1)) q1.1 q1.2)) else (some ((-1 : Int32), σ)))
set_option maxRecDepth 100000 in
set_option maxHeartbeats 4000000 in
theorem ctX6_cut {l : Launch} {g : GX} {ad : Nat → Nat} {ex : va_W} {r : Int32} {τ σ : Sg} {F : Nat} {l1 : Int32} (H : fX6_cut F σ l1 = some (r, τ)) : Ct l g yX6_cut tX6_cut 3 68 0 0 [.ref (ad 0), .int l1] (HH g ad σ ++ ex) (Pi_ r (HH g ad τ ++ ex)) := by
  refine Ct.of (L := [.ref (ad 0), .int l1]) (by decide +kernel) rfl rfl rfl (Nat.le_of_ble_eq_true rfl) rfl (fun x _ hX => ?_)
  unfold fX6_cut at H
  refine g_iload_n (q := 1) (i := 1) dX6_cut_0 rfl rfl rfl ?_
  refine g_if_lt (q := 4) (r := 15) dX6_cut_1 (by decide) rfl (fun c1 => ?_) (fun c1 => ?_)
  · replace H := (if_pos c1).symm.trans H
    refine g_iconst (q := 16) (v := -1) dX6_cut_15 rfl (by decide) ?_
    exact g_iret hX dX6_cut_16 rfl rfl (Nat.le_refl _) (Nat.le_refl _) (piOk H)
  · replace H := (if_neg c1).symm.trans H
    refine g_iload_n (q := 5) (i := 1) dX6_cut_4 rfl rfl rfl ?_
    refine g_aload_n (q := 6) (i := 0) dX6_cut_5 rfl rfl rfl ?_
    refine g_get (q := 9) dX6_cut_6 rfl foX6_10 0 hc0 rfl ?_
    refine g_get (q := 12) dX6_cut_9 rfl foX6_121 1 hc1 rfl ?_
    refine g_icmp_le (q := 15) (r := 17) dX6_cut_12 (by decide) rfl (fun c12 => ?_) (fun c12 => ?_)
    · replace H := (if_pos c12).symm.trans H
      refine g_iload_n (q := 18) (i := 1) dX6_cut_17 rfl rfl rfl ?_
      refine g_if_ne (q := 21) (r := 31) dX6_cut_18 (by decide) rfl (fun c18 => ?_) (fun c18 => ?_)
      · replace H := (if_neg c18).symm.trans H
        refine g_aload_n (q := 32) (i := 0) dX6_cut_31 rfl rfl rfl ?_
        refine g_get (q := 35) dX6_cut_32 rfl foX6_28 0 hc0 rfl ?_
        refine g_iload_n (q := 36) (i := 1) dX6_cut_35 rfl rfl rfl ?_
        obtain ⟨r1, σ1, e1, H⟩ := of_bnd H
        refine g_callV (q := 39) (rest := []) dX6_cut_36 rfl cvX6_174 (ctX2_cutBehind e1) rfl rfl ⟨Nat.le_of_ble_eq_true rfl, Nat.le_of_ble_eq_true rfl⟩ ⟨Nat.le_refl _, Nat.le_refl _⟩ (Nat.le_of_ble_eq_true rfl) 14 hc14 rfl (fun r0 M9 hp => ?_)
        obtain ⟨rfl, rfl⟩ := hp
        show Go x _ _ g 39 [.ref (ad 0), .int l1] [.int r1] (HH g ad σ1 ++ ex) 0 0
        exact g_iret hX dX6_cut_39 rfl rfl (Nat.le_refl _) (Nat.le_refl _) (piOk H)
      · replace H := (if_pos c18).symm.trans H
        refine g_aload_n (q := 22) (i := 0) dX6_cut_21 rfl rfl rfl ?_
        refine g_get (q := 25) dX6_cut_22 rfl foX6_28 0 hc0 rfl ?_
        obtain ⟨r2, σ2, e2, H⟩ := of_bnd H
        refine g_callV (q := 28) (rest := []) dX6_cut_25 rfl cvX6_171 (ctX2_greatestCut e2) rfl rfl ⟨Nat.le_of_ble_eq_true rfl, Nat.le_of_ble_eq_true rfl⟩ ⟨Nat.le_refl _, Nat.le_refl _⟩ (Nat.le_of_ble_eq_true rfl) 14 hc14 rfl (fun r0 M9 hp => ?_)
        obtain ⟨rfl, rfl⟩ := hp
        show Go x _ _ g 28 [.ref (ad 0), .int l1] [.int r2] (HH g ad σ2 ++ ex) 0 0
        refine g_goto (q := 39) dX6_cut_28 (by decide) ?_
        exact g_iret hX dX6_cut_39 rfl rfl (Nat.le_refl _) (Nat.le_refl _) (piOk H)
    · replace H := (if_neg c12).symm.trans H
      refine g_iconst (q := 16) (v := -1) dX6_cut_15 rfl (by decide) ?_
      exact g_iret hX dX6_cut_16 rfl rfl (Nat.le_refl _) (Nat.le_refl _) (piOk H)
def bX2_firstWithin_2 (F : Nat) (k2 : Sg → Int32 → Int32 → Int32 → Rs) (σ : Sg) (l1 : Int32) (l2 : Int32) (l3 : Int32) : Rs := if (σ.1 0) ≤ l3 then (some ((0 : Int32), σ)) else (if ((l1 >>> (l3 &&& 31)) &&& (1 : Int32)) = (0 : Int32) then (if ib (l1 ||| ((1 : Int32) <<< (l3 &&& 31))) 4096 then (if l2 < (σ.2.1 16 (l1 ||| ((1 : Int32) <<< (l3 &&& 31))).toNatClampNeg) then (k2 σ (l1) (l2) (l3 + 1)) else (some (l3, σ))) else none) else (k2 σ (l1) (l2) (l3 + 1)))
set_option maxRecDepth 100000 in
set_option maxHeartbeats 4000000 in
theorem wbX2_firstWithin_2 {x : FX} {g : GX} {ad : Nat → Nat} {ex M0 : va_W} {r : Int32} {τ : Sg} {F : Nat} (hX : RX x g M0 (Pi_ r (HH g ad τ ++ ex)) 0 0) {k2 : Sg → Int32 → Int32 → Int32 → Rs} (h2 : ∀ (σ : Sg) (l1 : Int32) (l2 : Int32) (l3 : Int32), k2 σ l1 l2 l3 = some (r, τ) → Go x { frames := 0, cells := 0, slots := 0, locals := 0 } tX2_firstWithin g 2 [.ref (ad 14), .int l1, .int l2, .int l3] [] (HH g ad σ ++ ex) 0 0) (σ : Sg) (l1 : Int32) (l2 : Int32) (l3 : Int32) (H : bX2_firstWithin_2 F k2 σ l1 l2 l3 = some (r, τ)) : Go x { frames := 0, cells := 0, slots := 0, locals := 0 } tX2_firstWithin g 2 [.ref (ad 14), .int l1, .int l2, .int l3] [] (HH g ad σ ++ ex) 0 0 := by
  unfold bX2_firstWithin_2 at H
  refine g_iload_n (q := 3) (i := 3) dX2_firstWithin_2 rfl rfl rfl ?_
  refine g_aload_n (q := 4) (i := 0) dX2_firstWithin_3 rfl rfl rfl ?_
  refine g_get (q := 7) dX2_firstWithin_4 rfl foX2_18 14 hc14 rfl ?_
  refine g_get (q := 10) dX2_firstWithin_7 rfl foX2_22 1 hc1 rfl ?_
  refine g_icmp_ge (q := 13) (r := 43) dX2_firstWithin_10 (by decide) rfl (fun c10 => ?_) (fun c10 => ?_)
  · replace H := (if_pos c10).symm.trans H
    refine g_iconst (q := 44) (v := 0) dX2_firstWithin_43 rfl (by decide) ?_
    exact g_iret hX dX2_firstWithin_44 rfl rfl (Nat.le_refl _) (Nat.le_refl _) (piOk H)
  · replace H := (if_neg c10).symm.trans H
    refine g_iload_n (q := 14) (i := 1) dX2_firstWithin_13 rfl rfl rfl ?_
    refine g_iload_n (q := 15) (i := 3) dX2_firstWithin_14 rfl rfl rfl ?_
    refine g_ishr (q := 16) dX2_firstWithin_15 rfl ?_
    refine g_iconst (q := 17) (v := 1) dX2_firstWithin_16 rfl (by decide) ?_
    refine g_iand (q := 18) dX2_firstWithin_17 rfl ?_
    refine g_if_ne (q := 21) (r := 37) dX2_firstWithin_18 (by decide) rfl (fun c18 => ?_) (fun c18 => ?_)
    · replace H := (if_neg c18).symm.trans H
      refine g_iinc (q := 40) (b := l3 + 1) (L' := [.ref (ad 14), .int l1, .int l2, .int (l3 + 1)]) dX2_firstWithin_37 rfl rfl rfl (Nat.le_of_ble_eq_true rfl) rfl ?_
      refine g_goto (q := 2) dX2_firstWithin_40 (by decide) ?_
      exact g_weak (L' := [.ref (ad 14), .int l1, .int l2, .int (l3 + 1)]) ⟨Or.inr rfl, Or.inr rfl, Or.inr rfl, Or.inr rfl, trivial⟩ (h2 _ _ _ _ H)
    · replace H := (if_pos c18).symm.trans H
      refine g_aload_n (q := 22) (i := 0) dX2_firstWithin_21 rfl rfl rfl ?_
      refine g_get (q := 25) dX2_firstWithin_22 rfl foX2_15 14 hc14 rfl ?_
      refine g_iload_n (q := 26) (i := 1) dX2_firstWithin_25 rfl rfl rfl ?_
      refine g_iconst (q := 27) (v := 1) dX2_firstWithin_26 rfl (by decide) ?_
      refine g_iload_n (q := 28) (i := 3) dX2_firstWithin_27 rfl rfl rfl ?_
      refine g_ishl (q := 29) dX2_firstWithin_28 rfl ?_
      refine g_ior (q := 30) dX2_firstWithin_29 rfl ?_
      obtain ⟨b30, H⟩ := of_chk H
      refine g_iald (q := 31) dX2_firstWithin_30 rfl 16 hc16 b30 ?_
      refine g_iload_n (q := 32) (i := 2) dX2_firstWithin_31 rfl rfl rfl ?_
      refine g_icmp_gt (q := 35) (r := 37) dX2_firstWithin_32 (by decide) rfl (fun c32 => ?_) (fun c32 => ?_)
      · replace H := (if_pos c32).symm.trans H
        refine g_iinc (q := 40) (b := l3 + 1) (L' := [.ref (ad 14), .int l1, .int l2, .int (l3 + 1)]) dX2_firstWithin_37 rfl rfl rfl (Nat.le_of_ble_eq_true rfl) rfl ?_
        refine g_goto (q := 2) dX2_firstWithin_40 (by decide) ?_
        exact g_weak (L' := [.ref (ad 14), .int l1, .int l2, .int (l3 + 1)]) ⟨Or.inr rfl, Or.inr rfl, Or.inr rfl, Or.inr rfl, trivial⟩ (h2 _ _ _ _ H)
      · replace H := (if_neg c32).symm.trans H
        refine g_iload_n (q := 36) (i := 3) dX2_firstWithin_35 rfl rfl rfl ?_
        exact g_iret hX dX2_firstWithin_36 rfl rfl (Nat.le_refl _) (Nat.le_refl _) (piOk H)
def fX2_firstWithin_2 (F : Nat)  : Nat → Sg → Int32 → Int32 → Int32 → Rs
  | 0 => fun _ _ _ _ => none
  | n + 1 => fun σ l1 l2 l3 => bX2_firstWithin_2 F  (fX2_firstWithin_2 F  n) σ l1 l2 l3
theorem wfX2_firstWithin_2 {x : FX} {g : GX} {ad : Nat → Nat} {ex M0 : va_W} {r : Int32} {τ : Sg} {F : Nat} (hX : RX x g M0 (Pi_ r (HH g ad τ ++ ex)) 0 0)   : ∀ (n : Nat) (σ : Sg) (l1 : Int32) (l2 : Int32) (l3 : Int32), fX2_firstWithin_2 F  n σ l1 l2 l3 = some (r, τ) → Go x { frames := 0, cells := 0, slots := 0, locals := 0 } tX2_firstWithin g 2 [.ref (ad 14), .int l1, .int l2, .int l3] [] (HH g ad σ ++ ex) 0 0
  | 0, _, _, _, _, H => nomatch (show (none : Rs) = some _ from H)
  | n + 1, σ, l1, l2, l3, H => wbX2_firstWithin_2 (F := F) hX  (fun σ2 z1 z2 z3 H2 => wfX2_firstWithin_2 (F := F) hX  n σ2 z1 z2 z3 H2) σ l1 l2 l3 H
def fX2_firstWithin (F : Nat) (σ : Sg) (l1 : Int32) (l2 : Int32) : Rs := fX2_firstWithin_2 F F σ (l1) (l2) ((0 : Int32))
set_option maxRecDepth 100000 in
set_option maxHeartbeats 4000000 in
theorem ctX2_firstWithin {l : Launch} {g : GX} {ad : Nat → Nat} {ex : va_W} {r : Int32} {τ σ : Sg} {F : Nat} {l1 : Int32} {l2 : Int32} (H : fX2_firstWithin F σ l1 l2 = some (r, τ)) : Ct l g yX2_firstWithin tX2_firstWithin 0 0 0 0 [.ref (ad 14), .int l1, .int l2] (HH g ad σ ++ ex) (Pi_ r (HH g ad τ ++ ex)) := by
  refine Ct.of (L := [.ref (ad 14), .int l1, .int l2, un_]) (by decide +kernel) rfl rfl rfl (Nat.le_of_ble_eq_true rfl) rfl (fun x _ hX => ?_)
  unfold fX2_firstWithin at H
  refine g_iconst (q := 1) (v := 0) dX2_firstWithin_0 rfl (by decide) ?_
  refine g_istore_n (q := 2) (L' := [.ref (ad 14), .int l1, .int l2, .int ((0 : Int32))]) (i := 3) dX2_firstWithin_1 rfl rfl (Nat.le_of_ble_eq_true rfl) rfl ?_
  exact g_weak (L' := [.ref (ad 14), .int l1, .int l2, .int ((0 : Int32))]) ⟨Or.inr rfl, Or.inr rfl, Or.inr rfl, Or.inr rfl, trivial⟩ (wfX2_firstWithin_2 (F := F) hX  F _ _ _ _ H)
def bX2_leastWorstBehind_18 (F : Nat) (k18 : Sg → Int32 → Int32 → Int32 → Rs) (σ : Sg) (l1 : Int32) (l2 : Int32) (l3 : Int32) : Rs := if (σ.1 0) ≤ l3 then (some (l2, σ)) else (if ((l1 >>> (l3 &&& 31)) &&& (1 : Int32)) = (0 : Int32) then (if ib (l1 ||| ((1 : Int32) <<< (l3 &&& 31))) 4096 then (li_ (mn_ l2 (σ.2.1 16 (l1 ||| ((1 : Int32) <<< (l3 &&& 31))).toNatClampNeg)) fun v1 => k18 σ (l1) (v1) (l3 + 1)) else none) else (k18 σ (l1) (l2) (l3 + 1)))
set_option maxRecDepth 100000 in
set_option maxHeartbeats 4000000 in
theorem wbX2_leastWorstBehind_18 {x : FX} {g : GX} {ad : Nat → Nat} {ex M0 : va_W} {r : Int32} {τ : Sg} {F : Nat} (hX : RX x g M0 (Pi_ r (HH g ad τ ++ ex)) 0 0) {k18 : Sg → Int32 → Int32 → Int32 → Rs} (h18 : ∀ (σ : Sg) (l1 : Int32) (l2 : Int32) (l3 : Int32), k18 σ l1 l2 l3 = some (r, τ) → Go x { frames := 1, cells := 0, slots := 0, locals := 20 } tX2_leastWorstBehind g 18 [.ref (ad 14), .int l1, .int l2, .int l3] [] (HH g ad σ ++ ex) 0 0) (σ : Sg) (l1 : Int32) (l2 : Int32) (l3 : Int32) (H : bX2_leastWorstBehind_18 F k18 σ l1 l2 l3 = some (r, τ)) : Go x { frames := 1, cells := 0, slots := 0, locals := 20 } tX2_leastWorstBehind g 18 [.ref (ad 14), .int l1, .int l2, .int l3] [] (HH g ad σ ++ ex) 0 0 := by
  unfold bX2_leastWorstBehind_18 at H
  refine g_iload_n (q := 19) (i := 3) dX2_leastWorstBehind_18 rfl rfl rfl ?_
  refine g_aload_n (q := 20) (i := 0) dX2_leastWorstBehind_19 rfl rfl rfl ?_
  refine g_get (q := 23) dX2_leastWorstBehind_20 rfl foX2_18 14 hc14 rfl ?_
  refine g_get (q := 26) dX2_leastWorstBehind_23 rfl foX2_22 1 hc1 rfl ?_
  refine g_icmp_ge (q := 29) (r := 58) dX2_leastWorstBehind_26 (by decide) rfl (fun c26 => ?_) (fun c26 => ?_)
  · replace H := (if_pos c26).symm.trans H
    refine g_iload_n (q := 59) (i := 2) dX2_leastWorstBehind_58 rfl rfl rfl ?_
    exact g_iret hX dX2_leastWorstBehind_59 rfl rfl (Nat.le_refl _) (Nat.le_refl _) (piOk H)
  · replace H := (if_neg c26).symm.trans H
    refine g_iload_n (q := 30) (i := 1) dX2_leastWorstBehind_29 rfl rfl rfl ?_
    refine g_iload_n (q := 31) (i := 3) dX2_leastWorstBehind_30 rfl rfl rfl ?_
    refine g_ishr (q := 32) dX2_leastWorstBehind_31 rfl ?_
    refine g_iconst (q := 33) (v := 1) dX2_leastWorstBehind_32 rfl (by decide) ?_
    refine g_iand (q := 34) dX2_leastWorstBehind_33 rfl ?_
    refine g_if_ne (q := 37) (r := 52) dX2_leastWorstBehind_34 (by decide) rfl (fun c34 => ?_) (fun c34 => ?_)
    · replace H := (if_neg c34).symm.trans H
      refine g_iinc (q := 55) (b := l3 + 1) (L' := [.ref (ad 14), .int l1, .int l2, .int (l3 + 1)]) dX2_leastWorstBehind_52 rfl rfl rfl (Nat.le_of_ble_eq_true rfl) rfl ?_
      refine g_goto (q := 18) dX2_leastWorstBehind_55 (by decide) ?_
      exact g_weak (L' := [.ref (ad 14), .int l1, .int l2, .int (l3 + 1)]) ⟨Or.inr rfl, Or.inr rfl, Or.inr rfl, Or.inr rfl, trivial⟩ (h18 _ _ _ _ H)
    · replace H := (if_pos c34).symm.trans H
      refine g_iload_n (q := 38) (i := 2) dX2_leastWorstBehind_37 rfl rfl rfl ?_
      refine g_aload_n (q := 39) (i := 0) dX2_leastWorstBehind_38 rfl rfl rfl ?_
      refine g_get (q := 42) dX2_leastWorstBehind_39 rfl foX2_15 14 hc14 rfl ?_
      refine g_iload_n (q := 43) (i := 1) dX2_leastWorstBehind_42 rfl rfl rfl ?_
      refine g_iconst (q := 44) (v := 1) dX2_leastWorstBehind_43 rfl (by decide) ?_
      refine g_iload_n (q := 45) (i := 3) dX2_leastWorstBehind_44 rfl rfl rfl ?_
      refine g_ishl (q := 46) dX2_leastWorstBehind_45 rfl ?_
      refine g_ior (q := 47) dX2_leastWorstBehind_46 rfl ?_
      obtain ⟨b47, H⟩ := of_chk H
      refine g_iald (q := 48) dX2_leastWorstBehind_47 rfl 16 hc16 b47 ?_
      refine g_min (q := 51) dX2_leastWorstBehind_48 rfl csX2_54 (Nat.le_of_ble_eq_true rfl) (Nat.le_of_ble_eq_true rfl) (Nat.le_refl _) (Nat.le_refl _) ?_
      obtain ⟨v1, n1, H⟩ := of_li H
      refine g_name n1 ?_
      refine g_istore_n (q := 52) (L' := [.ref (ad 14), .int l1, .int v1, .int l3]) (i := 2) dX2_leastWorstBehind_51 rfl rfl (Nat.le_of_ble_eq_true rfl) rfl ?_
      refine g_iinc (q := 55) (b := l3 + 1) (L' := [.ref (ad 14), .int l1, .int v1, .int (l3 + 1)]) dX2_leastWorstBehind_52 rfl rfl rfl (Nat.le_of_ble_eq_true rfl) rfl ?_
      refine g_goto (q := 18) dX2_leastWorstBehind_55 (by decide) ?_
      exact g_weak (L' := [.ref (ad 14), .int l1, .int v1, .int (l3 + 1)]) ⟨Or.inr rfl, Or.inr rfl, Or.inr rfl, Or.inr rfl, trivial⟩ (h18 _ _ _ _ H)
def fX2_leastWorstBehind_18 (F : Nat)  : Nat → Sg → Int32 → Int32 → Int32 → Rs
  | 0 => fun _ _ _ _ => none
  | n + 1 => fun σ l1 l2 l3 => bX2_leastWorstBehind_18 F  (fX2_leastWorstBehind_18 F  n) σ l1 l2 l3
theorem wfX2_leastWorstBehind_18 {x : FX} {g : GX} {ad : Nat → Nat} {ex M0 : va_W} {r : Int32} {τ : Sg} {F : Nat} (hX : RX x g M0 (Pi_ r (HH g ad τ ++ ex)) 0 0)   : ∀ (n : Nat) (σ : Sg) (l1 : Int32) (l2 : Int32) (l3 : Int32), fX2_leastWorstBehind_18 F  n σ l1 l2 l3 = some (r, τ) → Go x { frames := 1, cells := 0, slots := 0, locals := 20 } tX2_leastWorstBehind g 18 [.ref (ad 14), .int l1, .int l2, .int l3] [] (HH g ad σ ++ ex) 0 0
  | 0, _, _, _, _, H => nomatch (show (none : Rs) = some _ from H)
  | n + 1, σ, l1, l2, l3, H => wbX2_leastWorstBehind_18 (F := F) hX  (fun σ2 z1 z2 z3 H2 => wfX2_leastWorstBehind_18 (F := F) hX  n σ2 z1 z2 z3 H2) σ l1 l2 l3 H
def fX2_leastWorstBehind (F : Nat) (σ : Sg) (l1 : Int32) : Rs := (fX1_allCaves F σ).bind fun q1 => (fun (r1 : Int32) (σ1 : Sg) => if l1 = r1 then (some ((0 : Int32), σ1)) else (fX2_leastWorstBehind_18 F F σ1 (l1) ((12 : Int32)) ((0 : Int32)))) q1.1 q1.2
set_option maxRecDepth 100000 in
set_option maxHeartbeats 4000000 in
theorem ctX2_leastWorstBehind {l : Launch} {g : GX} {ad : Nat → Nat} {ex : va_W} {r : Int32} {τ σ : Sg} {F : Nat} {l1 : Int32} (H : fX2_leastWorstBehind F σ l1 = some (r, τ)) : Ct l g yX2_leastWorstBehind tX2_leastWorstBehind 1 20 0 0 [.ref (ad 14), .int l1] (HH g ad σ ++ ex) (Pi_ r (HH g ad τ ++ ex)) := by
  refine Ct.of (L := [.ref (ad 14), .int l1, un_, un_]) (by decide +kernel) rfl rfl rfl (Nat.le_of_ble_eq_true rfl) rfl (fun x _ hX => ?_)
  unfold fX2_leastWorstBehind at H
  refine g_iload_n (q := 1) (i := 1) dX2_leastWorstBehind_0 rfl rfl rfl ?_
  refine g_aload_n (q := 2) (i := 0) dX2_leastWorstBehind_1 rfl rfl rfl ?_
  refine g_get (q := 5) dX2_leastWorstBehind_2 rfl foX2_18 14 hc14 rfl ?_
  obtain ⟨r1, σ1, e1, H⟩ := of_bnd H
  refine g_callV (q := 8) (rest := [.int l1]) dX2_leastWorstBehind_5 rfl cvX2_44 (ctX1_allCaves e1) rfl rfl ⟨Nat.le_of_ble_eq_true rfl, Nat.le_of_ble_eq_true rfl⟩ ⟨Nat.le_refl _, Nat.le_refl _⟩ (Nat.le_of_ble_eq_true rfl) 1 hc1 rfl (fun r0 M9 hp => ?_)
  obtain ⟨rfl, rfl⟩ := hp
  show Go x _ _ g 8 [.ref (ad 14), .int l1, un_, un_] [.int r1, .int l1] (HH g ad σ1 ++ ex) 0 0
  refine g_icmp_ne (q := 11) (r := 13) dX2_leastWorstBehind_8 (by decide) rfl (fun c8 => ?_) (fun c8 => ?_)
  · replace H := (if_neg c8).symm.trans H
    refine g_bipush (q := 15) (v := 12) dX2_leastWorstBehind_13 rfl (by decide) ?_
    refine g_istore_n (q := 16) (L' := [.ref (ad 14), .int l1, .int ((12 : Int32)), un_]) (i := 2) dX2_leastWorstBehind_15 rfl rfl (Nat.le_of_ble_eq_true rfl) rfl ?_
    refine g_iconst (q := 17) (v := 0) dX2_leastWorstBehind_16 rfl (by decide) ?_
    refine g_istore_n (q := 18) (L' := [.ref (ad 14), .int l1, .int ((12 : Int32)), .int ((0 : Int32))]) (i := 3) dX2_leastWorstBehind_17 rfl rfl (Nat.le_of_ble_eq_true rfl) rfl ?_
    exact g_weak (L' := [.ref (ad 14), .int l1, .int ((12 : Int32)), .int ((0 : Int32))]) ⟨Or.inr rfl, Or.inr rfl, Or.inr rfl, Or.inr rfl, trivial⟩ (wfX2_leastWorstBehind_18 (F := F) hX  F _ _ _ _ H)
  · replace H := (if_pos c8).symm.trans H
    refine g_iconst (q := 12) (v := 0) dX2_leastWorstBehind_11 rfl (by decide) ?_
    exact g_iret hX dX2_leastWorstBehind_12 rfl rfl (Nat.le_refl _) (Nat.le_refl _) (piOk H)
def bX2_becomeTheLeast_54 (F : Nat) (k54 : Sg → Int32 → Int32 → Int32 → Rs) (σ : Sg) (l2 : Int32) (l3 : Int32) (l4 : Int32) : Rs := if (σ.1 0) ≤ l4 then (some (l2, σ)) else ((fX2_firstWithin F σ l3 l2).bind fun q1 => (fun (r1 : Int32) (σ1 : Sg) => if ib l4 12 then (ls_ (sa σ1 15 l4.toNatClampNeg r1) fun σ2 => if ib l4 12 then (li_ (l3 ||| ((1 : Int32) <<< ((σ2.2.1 15 l4.toNatClampNeg) &&& 31))) fun v3 => k54 σ2 (l2) (v3) (l4 + 1)) else none) else none) q1.1 q1.2)
set_option maxRecDepth 100000 in
set_option maxHeartbeats 4000000 in
theorem wbX2_becomeTheLeast_54 {x : FX} {g : GX} {ad : Nat → Nat} {ex M0 : va_W} {r : Int32} {τ : Sg} {F : Nat} (hX : RX x g M0 (Pi_ r (HH g ad τ ++ ex)) 0 0) {k54 : Sg → Int32 → Int32 → Int32 → Rs} (h54 : ∀ (σ : Sg) (l2 : Int32) (l3 : Int32) (l4 : Int32), k54 σ l2 l3 l4 = some (r, τ) → Go x { frames := 2, cells := 0, slots := 0, locals := 43 } tX2_becomeTheLeast g 54 [.ref (ad 14), un_, .int l2, .int l3, .int l4] [] (HH g ad σ ++ ex) 0 0) (σ : Sg) (l2 : Int32) (l3 : Int32) (l4 : Int32) (H : bX2_becomeTheLeast_54 F k54 σ l2 l3 l4 = some (r, τ)) : Go x { frames := 2, cells := 0, slots := 0, locals := 43 } tX2_becomeTheLeast g 54 [.ref (ad 14), un_, .int l2, .int l3, .int l4] [] (HH g ad σ ++ ex) 0 0 := by
  unfold bX2_becomeTheLeast_54 at H
  refine g_iload (q := 56) dX2_becomeTheLeast_54 rfl rfl ?_
  refine g_aload_n (q := 57) (i := 0) dX2_becomeTheLeast_56 rfl rfl rfl ?_
  refine g_get (q := 60) dX2_becomeTheLeast_57 rfl foX2_18 14 hc14 rfl ?_
  refine g_get (q := 63) dX2_becomeTheLeast_60 rfl foX2_22 1 hc1 rfl ?_
  refine g_icmp_ge (q := 66) (r := 97) dX2_becomeTheLeast_63 (by decide) rfl (fun c63 => ?_) (fun c63 => ?_)
  · replace H := (if_pos c63).symm.trans H
    refine g_iload_n (q := 98) (i := 2) dX2_becomeTheLeast_97 rfl rfl rfl ?_
    exact g_iret hX dX2_becomeTheLeast_98 rfl rfl (Nat.le_refl _) (Nat.le_refl _) (piOk H)
  · replace H := (if_neg c63).symm.trans H
    refine g_aload_n (q := 67) (i := 0) dX2_becomeTheLeast_66 rfl rfl rfl ?_
    refine g_get (q := 70) dX2_becomeTheLeast_67 rfl foX2_9 14 hc14 rfl ?_
    refine g_iload (q := 72) dX2_becomeTheLeast_70 rfl rfl ?_
    refine g_aload_n (q := 73) (i := 0) dX2_becomeTheLeast_72 rfl rfl rfl ?_
    refine g_iload_n (q := 74) (i := 3) dX2_becomeTheLeast_73 rfl rfl rfl ?_
    refine g_iload_n (q := 75) (i := 2) dX2_becomeTheLeast_74 rfl rfl rfl ?_
    obtain ⟨r1, σ1, e1, H⟩ := of_bnd H
    refine g_callV (q := 78) (rest := [.int l4, .ref (ad 15)]) dX2_becomeTheLeast_75 rfl cvX2_51 (ctX2_firstWithin e1) rfl rfl ⟨Nat.le_of_ble_eq_true rfl, Nat.le_of_ble_eq_true rfl⟩ ⟨Nat.le_refl _, Nat.le_refl _⟩ (Nat.le_of_ble_eq_true rfl) 14 hc14 rfl (fun r0 M9 hp => ?_)
    obtain ⟨rfl, rfl⟩ := hp
    show Go x _ _ g 78 [.ref (ad 14), un_, .int l2, .int l3, .int l4] [.int r1, .int l4, .ref (ad 15)] (HH g ad σ1 ++ ex) 0 0
    obtain ⟨b78, H⟩ := of_chk H
    obtain ⟨σ2, n2, H⟩ := of_ls H
    refine g_iast (q := 79) dX2_becomeTheLeast_78 rfl 15 hc15 b78 (ha15e n2) ?_
    refine g_iload_n (q := 80) (i := 3) dX2_becomeTheLeast_79 rfl rfl rfl ?_
    refine g_iconst (q := 81) (v := 1) dX2_becomeTheLeast_80 rfl (by decide) ?_
    refine g_aload_n (q := 82) (i := 0) dX2_becomeTheLeast_81 rfl rfl rfl ?_
    refine g_get (q := 85) dX2_becomeTheLeast_82 rfl foX2_9 14 hc14 rfl ?_
    refine g_iload (q := 87) dX2_becomeTheLeast_85 rfl rfl ?_
    obtain ⟨b87, H⟩ := of_chk H
    refine g_iald (q := 88) dX2_becomeTheLeast_87 rfl 15 hc15 b87 ?_
    refine g_ishl (q := 89) dX2_becomeTheLeast_88 rfl ?_
    refine g_ior (q := 90) dX2_becomeTheLeast_89 rfl ?_
    obtain ⟨v3, n3, H⟩ := of_li H
    refine g_name n3 ?_
    refine g_istore_n (q := 91) (L' := [.ref (ad 14), un_, .int l2, .int v3, .int l4]) (i := 3) dX2_becomeTheLeast_90 rfl rfl (Nat.le_of_ble_eq_true rfl) rfl ?_
    refine g_iinc (q := 94) (b := l4 + 1) (L' := [.ref (ad 14), un_, .int l2, .int v3, .int (l4 + 1)]) dX2_becomeTheLeast_91 rfl rfl rfl (Nat.le_of_ble_eq_true rfl) rfl ?_
    refine g_goto (q := 54) dX2_becomeTheLeast_94 (by decide) ?_
    exact g_weak (L' := [.ref (ad 14), un_, .int l2, .int v3, .int (l4 + 1)]) ⟨Or.inr rfl, Or.inl rfl, Or.inr rfl, Or.inr rfl, Or.inr rfl, trivial⟩ (h54 _ _ _ _ H)
def fX2_becomeTheLeast_54 (F : Nat)  : Nat → Sg → Int32 → Int32 → Int32 → Rs
  | 0 => fun _ _ _ _ => none
  | n + 1 => fun σ l2 l3 l4 => bX2_becomeTheLeast_54 F  (fX2_becomeTheLeast_54 F  n) σ l2 l3 l4
theorem wfX2_becomeTheLeast_54 {x : FX} {g : GX} {ad : Nat → Nat} {ex M0 : va_W} {r : Int32} {τ : Sg} {F : Nat} (hX : RX x g M0 (Pi_ r (HH g ad τ ++ ex)) 0 0)   : ∀ (n : Nat) (σ : Sg) (l2 : Int32) (l3 : Int32) (l4 : Int32), fX2_becomeTheLeast_54 F  n σ l2 l3 l4 = some (r, τ) → Go x { frames := 2, cells := 0, slots := 0, locals := 43 } tX2_becomeTheLeast g 54 [.ref (ad 14), un_, .int l2, .int l3, .int l4] [] (HH g ad σ ++ ex) 0 0
  | 0, _, _, _, _, H => nomatch (show (none : Rs) = some _ from H)
  | n + 1, σ, l2, l3, l4, H => wbX2_becomeTheLeast_54 (F := F) hX  (fun σ2 z2 z3 z4 H2 => wfX2_becomeTheLeast_54 (F := F) hX  n σ2 z2 z3 z4 H2) σ l2 l3 l4 H
def bX2_becomeTheLeast_10 (F : Nat) (k10 : Sg → Int32 → Rs) (σ : Sg) (l2 : Int32) : Rs := if l2 < (0 : Int32) then (if ib (0 : Int32) 4096 then (li_ (σ.2.1 16 (0 : Int32).toNatClampNeg) fun v1 => fX2_becomeTheLeast_54 F F σ (v1) ((0 : Int32)) ((0 : Int32))) else none) else ((fX1_cutBetween F σ l2).bind fun q2 => (fun (r2 : Int32) (σ2 : Sg) => (fX2_leastWorstBehind F σ2 l2).bind fun q3 => (fun (r3 : Int32) (σ3 : Sg) => if ib l2 4096 then (ls_ (sa σ3 16 l2.toNatClampNeg (mx_ r2 r3)) fun σ4 => k10 σ4 (l2 + Int32.ofInt (-1))) else none) q3.1 q3.2) q2.1 q2.2)
set_option maxRecDepth 100000 in
set_option maxHeartbeats 4000000 in
theorem wbX2_becomeTheLeast_10 {x : FX} {g : GX} {ad : Nat → Nat} {ex M0 : va_W} {r : Int32} {τ : Sg} {F : Nat} (hX : RX x g M0 (Pi_ r (HH g ad τ ++ ex)) 0 0) {k10 : Sg → Int32 → Rs} (h10 : ∀ (σ : Sg) (l2 : Int32), k10 σ l2 = some (r, τ) → Go x { frames := 2, cells := 0, slots := 0, locals := 43 } tX2_becomeTheLeast g 10 [.ref (ad 14), un_, .int l2, un_, un_] [] (HH g ad σ ++ ex) 0 0) (σ : Sg) (l2 : Int32) (H : bX2_becomeTheLeast_10 F k10 σ l2 = some (r, τ)) : Go x { frames := 2, cells := 0, slots := 0, locals := 43 } tX2_becomeTheLeast g 10 [.ref (ad 14), un_, .int l2, un_, un_] [] (HH g ad σ ++ ex) 0 0 := by
  unfold bX2_becomeTheLeast_10 at H
  refine g_iload_n (q := 11) (i := 2) dX2_becomeTheLeast_10 rfl rfl rfl ?_
  refine g_if_lt (q := 14) (r := 42) dX2_becomeTheLeast_11 (by decide) rfl (fun c11 => ?_) (fun c11 => ?_)
  · replace H := (if_pos c11).symm.trans H
    refine g_aload_n (q := 43) (i := 0) dX2_becomeTheLeast_42 rfl rfl rfl ?_
    refine g_get (q := 46) dX2_becomeTheLeast_43 rfl foX2_15 14 hc14 rfl ?_
    refine g_iconst (q := 47) (v := 0) dX2_becomeTheLeast_46 rfl (by decide) ?_
    obtain ⟨b47, H⟩ := of_chk H
    refine g_iald (q := 48) dX2_becomeTheLeast_47 rfl 16 hc16 b47 ?_
    obtain ⟨v1, n1, H⟩ := of_li H
    refine g_name n1 ?_
    refine g_istore_n (q := 49) (L' := [.ref (ad 14), un_, .int v1, un_, un_]) (i := 2) dX2_becomeTheLeast_48 rfl rfl (Nat.le_of_ble_eq_true rfl) rfl ?_
    refine g_iconst (q := 50) (v := 0) dX2_becomeTheLeast_49 rfl (by decide) ?_
    refine g_istore_n (q := 51) (L' := [.ref (ad 14), un_, .int v1, .int ((0 : Int32)), un_]) (i := 3) dX2_becomeTheLeast_50 rfl rfl (Nat.le_of_ble_eq_true rfl) rfl ?_
    refine g_iconst (q := 52) (v := 0) dX2_becomeTheLeast_51 rfl (by decide) ?_
    refine g_istore (q := 54) (L' := [.ref (ad 14), un_, .int v1, .int ((0 : Int32)), .int ((0 : Int32))]) dX2_becomeTheLeast_52 rfl (Nat.le_of_ble_eq_true rfl) rfl ?_
    exact g_weak (L' := [.ref (ad 14), un_, .int v1, .int ((0 : Int32)), .int ((0 : Int32))]) ⟨Or.inr rfl, Or.inl rfl, Or.inr rfl, Or.inr rfl, Or.inr rfl, trivial⟩ (wfX2_becomeTheLeast_54 (F := F) hX  F _ _ _ _ H)
  · replace H := (if_neg c11).symm.trans H
    refine g_aload_n (q := 15) (i := 0) dX2_becomeTheLeast_14 rfl rfl rfl ?_
    refine g_get (q := 18) dX2_becomeTheLeast_15 rfl foX2_15 14 hc14 rfl ?_
    refine g_iload_n (q := 19) (i := 2) dX2_becomeTheLeast_18 rfl rfl rfl ?_
    refine g_aload_n (q := 20) (i := 0) dX2_becomeTheLeast_19 rfl rfl rfl ?_
    refine g_get (q := 23) dX2_becomeTheLeast_20 rfl foX2_18 14 hc14 rfl ?_
    refine g_iload_n (q := 24) (i := 2) dX2_becomeTheLeast_23 rfl rfl rfl ?_
    obtain ⟨r2, σ2, e2, H⟩ := of_bnd H
    refine g_callV (q := 27) (rest := [.int l2, .ref (ad 16)]) dX2_becomeTheLeast_24 rfl cvX2_32 (ctX1_cutBetween e2) rfl rfl ⟨Nat.le_of_ble_eq_true rfl, Nat.le_of_ble_eq_true rfl⟩ ⟨Nat.le_refl _, Nat.le_refl _⟩ (Nat.le_of_ble_eq_true rfl) 1 hc1 rfl (fun r0 M9 hp => ?_)
    obtain ⟨rfl, rfl⟩ := hp
    show Go x _ _ g 27 [.ref (ad 14), un_, .int l2, un_, un_] [.int r2, .int l2, .ref (ad 16)] (HH g ad σ2 ++ ex) 0 0
    refine g_aload_n (q := 28) (i := 0) dX2_becomeTheLeast_27 rfl rfl rfl ?_
    refine g_iload_n (q := 29) (i := 2) dX2_becomeTheLeast_28 rfl rfl rfl ?_
    obtain ⟨r3, σ3, e3, H⟩ := of_bnd H
    refine g_callV (q := 32) (rest := [.int r2, .int l2, .ref (ad 16)]) dX2_becomeTheLeast_29 rfl cvX2_48 (ctX2_leastWorstBehind e3) rfl rfl ⟨Nat.le_of_ble_eq_true rfl, Nat.le_of_ble_eq_true rfl⟩ ⟨Nat.le_refl _, Nat.le_refl _⟩ (Nat.le_of_ble_eq_true rfl) 14 hc14 rfl (fun r0 M9 hp => ?_)
    obtain ⟨rfl, rfl⟩ := hp
    show Go x _ _ g 32 [.ref (ad 14), un_, .int l2, un_, un_] [.int r3, .int r2, .int l2, .ref (ad 16)] (HH g ad σ3 ++ ex) 0 0
    refine g_max (q := 35) dX2_becomeTheLeast_32 rfl csX2_38 (Nat.le_of_ble_eq_true rfl) (Nat.le_of_ble_eq_true rfl) (Nat.le_refl _) (Nat.le_refl _) ?_
    obtain ⟨b35, H⟩ := of_chk H
    obtain ⟨σ4, n4, H⟩ := of_ls H
    refine g_iast (q := 36) dX2_becomeTheLeast_35 rfl 16 hc16 b35 (ha16e n4) ?_
    refine g_iinc (q := 39) (b := l2 + Int32.ofInt (-1)) (L' := [.ref (ad 14), un_, .int (l2 + Int32.ofInt (-1)), un_, un_]) dX2_becomeTheLeast_36 rfl rfl rfl (Nat.le_of_ble_eq_true rfl) rfl ?_
    refine g_goto (q := 10) dX2_becomeTheLeast_39 (by decide) ?_
    exact g_weak (L' := [.ref (ad 14), un_, .int (l2 + Int32.ofInt (-1)), un_, un_]) ⟨Or.inr rfl, Or.inl rfl, Or.inr rfl, Or.inl rfl, Or.inl rfl, trivial⟩ (h10 _ _ H)
def fX2_becomeTheLeast_10 (F : Nat)  : Nat → Sg → Int32 → Rs
  | 0 => fun _ _ => none
  | n + 1 => fun σ l2 => bX2_becomeTheLeast_10 F  (fX2_becomeTheLeast_10 F  n) σ l2
theorem wfX2_becomeTheLeast_10 {x : FX} {g : GX} {ad : Nat → Nat} {ex M0 : va_W} {r : Int32} {τ : Sg} {F : Nat} (hX : RX x g M0 (Pi_ r (HH g ad τ ++ ex)) 0 0)   : ∀ (n : Nat) (σ : Sg) (l2 : Int32), fX2_becomeTheLeast_10 F  n σ l2 = some (r, τ) → Go x { frames := 2, cells := 0, slots := 0, locals := 43 } tX2_becomeTheLeast g 10 [.ref (ad 14), un_, .int l2, un_, un_] [] (HH g ad σ ++ ex) 0 0
  | 0, _, _, H => nomatch (show (none : Rs) = some _ from H)
  | n + 1, σ, l2, H => wbX2_becomeTheLeast_10 (F := F) hX  (fun σ2 z2 H2 => wfX2_becomeTheLeast_10 (F := F) hX  n σ2 z2 H2) σ l2 H
def fX2_becomeTheLeast (F : Nat) (σ : Sg)  : Rs := (fX1_allCaves F σ).bind fun q1 => (fun (r1 : Int32) (σ1 : Sg) => fX2_becomeTheLeast_10 F F σ1 (r1)) q1.1 q1.2
set_option maxRecDepth 100000 in
set_option maxHeartbeats 4000000 in
theorem ctX2_becomeTheLeast {l : Launch} {g : GX} {ad : Nat → Nat} {ex : va_W} {r : Int32} {τ σ : Sg} {F : Nat}  (H : fX2_becomeTheLeast F σ  = some (r, τ)) : Ct l g yX2_becomeTheLeast tX2_becomeTheLeast 2 43 0 0 [.ref (ad 14)] (HH g ad σ ++ ex) (Pi_ r (HH g ad τ ++ ex)) := by
  refine Ct.of (L := [.ref (ad 14), un_, un_, un_, un_]) (by decide +kernel) rfl rfl rfl (Nat.le_of_ble_eq_true rfl) rfl (fun x _ hX => ?_)
  unfold fX2_becomeTheLeast at H
  refine g_aload_n (q := 1) (i := 0) dX2_becomeTheLeast_0 rfl rfl rfl ?_
  refine g_get (q := 4) dX2_becomeTheLeast_1 rfl foX2_18 14 hc14 rfl ?_
  obtain ⟨r1, σ1, e1, H⟩ := of_bnd H
  refine g_callV (q := 7) (rest := []) dX2_becomeTheLeast_4 rfl cvX2_44 (ctX1_allCaves e1) rfl rfl ⟨Nat.le_of_ble_eq_true rfl, Nat.le_of_ble_eq_true rfl⟩ ⟨Nat.le_refl _, Nat.le_refl _⟩ (Nat.le_of_ble_eq_true rfl) 1 hc1 rfl (fun r0 M9 hp => ?_)
  obtain ⟨rfl, rfl⟩ := hp
  show Go x _ _ g 7 [.ref (ad 14), un_, un_, un_, un_] [.int r1] (HH g ad σ1 ++ ex) 0 0
  refine g_istore_n (q := 8) (L' := [.ref (ad 14), .int r1, un_, un_, un_]) (i := 1) dX2_becomeTheLeast_7 rfl rfl (Nat.le_of_ble_eq_true rfl) rfl ?_
  refine g_iload_n (q := 9) (i := 1) dX2_becomeTheLeast_8 rfl rfl rfl ?_
  refine g_istore_n (q := 10) (L' := [.ref (ad 14), .int r1, .int r1, un_, un_]) (i := 2) dX2_becomeTheLeast_9 rfl rfl (Nat.le_of_ble_eq_true rfl) rfl ?_
  exact g_weak (L' := [.ref (ad 14), un_, .int r1, un_, un_]) ⟨Or.inr rfl, Or.inl rfl, Or.inr rfl, Or.inl rfl, Or.inl rfl, trivial⟩ (wfX2_becomeTheLeast_10 (F := F) hX  F _ _ H)
def fX6_width (F : Nat) (σ : Sg)  : Rs := if (σ.1 0) = (0 : Int32) then (some ((-1 : Int32), σ)) else ((fX2_becomeTheLeast F σ).bind fun q1 => (fun (r1 : Int32) (σ1 : Sg) => some (r1, σ1)) q1.1 q1.2)
set_option maxRecDepth 100000 in
set_option maxHeartbeats 4000000 in
theorem ctX6_width {l : Launch} {g : GX} {ad : Nat → Nat} {ex : va_W} {r : Int32} {τ σ : Sg} {F : Nat}  (H : fX6_width F σ  = some (r, τ)) : Ct l g yX6_width tX6_width 3 67 0 0 [.ref (ad 0)] (HH g ad σ ++ ex) (Pi_ r (HH g ad τ ++ ex)) := by
  refine Ct.of (L := [.ref (ad 0)]) (by decide +kernel) rfl rfl rfl (Nat.le_of_ble_eq_true rfl) rfl (fun x _ hX => ?_)
  unfold fX6_width at H
  refine g_aload_n (q := 1) (i := 0) dX6_width_0 rfl rfl rfl ?_
  refine g_get (q := 4) dX6_width_1 rfl foX6_10 0 hc0 rfl ?_
  refine g_get (q := 7) dX6_width_4 rfl foX6_121 1 hc1 rfl ?_
  refine g_if_ne (q := 10) (r := 12) dX6_width_7 (by decide) rfl (fun c7 => ?_) (fun c7 => ?_)
  · replace H := (if_neg c7).symm.trans H
    refine g_aload_n (q := 13) (i := 0) dX6_width_12 rfl rfl rfl ?_
    refine g_get (q := 16) dX6_width_13 rfl foX6_28 0 hc0 rfl ?_
    obtain ⟨r1, σ1, e1, H⟩ := of_bnd H
    refine g_callV (q := 19) (rest := []) dX6_width_16 rfl cvX6_177 (ctX2_becomeTheLeast e1) rfl rfl ⟨Nat.le_of_ble_eq_true rfl, Nat.le_of_ble_eq_true rfl⟩ ⟨Nat.le_refl _, Nat.le_refl _⟩ (Nat.le_of_ble_eq_true rfl) 14 hc14 rfl (fun r0 M9 hp => ?_)
    obtain ⟨rfl, rfl⟩ := hp
    show Go x _ _ g 19 [.ref (ad 0)] [.int r1] (HH g ad σ1 ++ ex) 0 0
    exact g_iret hX dX6_width_19 rfl rfl (Nat.le_refl _) (Nat.le_refl _) (piOk H)
  · replace H := (if_pos c7).symm.trans H
    refine g_iconst (q := 11) (v := -1) dX6_width_10 rfl (by decide) ?_
    exact g_iret hX dX6_width_11 rfl rfl (Nat.le_refl _) (Nat.le_refl _) (piOk H)
def bX7_begins_40 (F : Nat) (k40 : Sg → Int32 → Rs) (σ : Sg) (l1 : Int32) : Rs := if (18 : Int32) ≤ l1 then (some (0, σ)) else (if ib l1 18 then (if (σ.2.1 27 l1.toNatClampNeg) = (0 : Int32) then (k40 σ (l1 + 1)) else (ls_ (sv σ 24 ((σ.1 24) ||| ((1 : Int32) <<< (l1 &&& 31)))) fun σ1 => k40 σ1 (l1 + 1))) else none)
set_option maxRecDepth 100000 in
set_option maxHeartbeats 4000000 in
theorem wbX7_begins_40 {x : FX} {g : GX} {ad : Nat → Nat} {ex M0 : va_W} {r : Int32} {τ : Sg} {F : Nat} (hX : RX x g M0 (Pv_ (HH g ad τ ++ ex)) 0 0) {k40 : Sg → Int32 → Rs} (h40 : ∀ (σ : Sg) (l1 : Int32), k40 σ l1 = some (r, τ) → Go x { frames := 0, cells := 0, slots := 0, locals := 0 } tX7_begins g 40 [.ref (ad 24), .int l1] [] (HH g ad σ ++ ex) 0 0) (σ : Sg) (l1 : Int32) (H : bX7_begins_40 F k40 σ l1 = some (r, τ)) : Go x { frames := 0, cells := 0, slots := 0, locals := 0 } tX7_begins g 40 [.ref (ad 24), .int l1] [] (HH g ad σ ++ ex) 0 0 := by
  unfold bX7_begins_40 at H
  refine g_iload_n (q := 41) (i := 1) dX7_begins_40 rfl rfl rfl ?_
  refine g_bipush (q := 43) (v := 18) dX7_begins_41 rfl (by decide) ?_
  refine g_icmp_ge (q := 46) (r := 73) dX7_begins_43 (by decide) rfl (fun c43 => ?_) (fun c43 => ?_)
  · replace H := (if_pos c43).symm.trans H
    exact g_vret hX dX7_begins_73 rfl (Nat.le_refl _) (Nat.le_refl _) (pvOk H)
  · replace H := (if_neg c43).symm.trans H
    refine g_aload_n (q := 47) (i := 0) dX7_begins_46 rfl rfl rfl ?_
    refine g_get (q := 50) dX7_begins_47 rfl foX7_16 24 hc24 rfl ?_
    refine g_iload_n (q := 51) (i := 1) dX7_begins_50 rfl rfl rfl ?_
    obtain ⟨b51, H⟩ := of_chk H
    refine g_zald (q := 52) dX7_begins_51 rfl 27 hc27 b51 ?_
    refine g_if_eq (q := 55) (r := 67) dX7_begins_52 (by decide) rfl (fun c52 => ?_) (fun c52 => ?_)
    · replace H := (if_pos c52).symm.trans H
      refine g_iinc (q := 70) (b := l1 + 1) (L' := [.ref (ad 24), .int (l1 + 1)]) dX7_begins_67 rfl rfl rfl (Nat.le_of_ble_eq_true rfl) rfl ?_
      refine g_goto (q := 40) dX7_begins_70 (by decide) ?_
      exact g_weak (L' := [.ref (ad 24), .int (l1 + 1)]) ⟨Or.inr rfl, Or.inr rfl, trivial⟩ (h40 _ _ H)
    · replace H := (if_neg c52).symm.trans H
      refine g_aload_n (q := 56) (i := 0) dX7_begins_55 rfl rfl rfl ?_
      refine g_aload_n (q := 57) (i := 0) dX7_begins_56 rfl rfl rfl ?_
      refine g_get (q := 60) dX7_begins_57 rfl foX7_94 24 hc24 rfl ?_
      refine g_iconst (q := 61) (v := 1) dX7_begins_60 rfl (by decide) ?_
      refine g_iload_n (q := 62) (i := 1) dX7_begins_61 rfl rfl rfl ?_
      refine g_ishl (q := 63) dX7_begins_62 rfl ?_
      refine g_ior (q := 64) dX7_begins_63 rfl ?_
      obtain ⟨σ1, n1, H⟩ := of_ls H
      refine g_put (q := 67) dX7_begins_64 rfl (fpX7_94 _) 24 hc24 rfl rfl (Nat.le_of_ble_eq_true rfl) (hs24e n1) ?_
      refine g_iinc (q := 70) (b := l1 + 1) (L' := [.ref (ad 24), .int (l1 + 1)]) dX7_begins_67 rfl rfl rfl (Nat.le_of_ble_eq_true rfl) rfl ?_
      refine g_goto (q := 40) dX7_begins_70 (by decide) ?_
      exact g_weak (L' := [.ref (ad 24), .int (l1 + 1)]) ⟨Or.inr rfl, Or.inr rfl, trivial⟩ (h40 _ _ H)
def fX7_begins_40 (F : Nat)  : Nat → Sg → Int32 → Rs
  | 0 => fun _ _ => none
  | n + 1 => fun σ l1 => bX7_begins_40 F  (fX7_begins_40 F  n) σ l1
theorem wfX7_begins_40 {x : FX} {g : GX} {ad : Nat → Nat} {ex M0 : va_W} {r : Int32} {τ : Sg} {F : Nat} (hX : RX x g M0 (Pv_ (HH g ad τ ++ ex)) 0 0)   : ∀ (n : Nat) (σ : Sg) (l1 : Int32), fX7_begins_40 F  n σ l1 = some (r, τ) → Go x { frames := 0, cells := 0, slots := 0, locals := 0 } tX7_begins g 40 [.ref (ad 24), .int l1] [] (HH g ad σ ++ ex) 0 0
  | 0, _, _, H => nomatch (show (none : Rs) = some _ from H)
  | n + 1, σ, l1, H => wbX7_begins_40 (F := F) hX  (fun σ2 z1 H2 => wfX7_begins_40 (F := F) hX  n σ2 z1 H2) σ l1 H
def bX7_begins_2 (F : Nat) (k2 : Sg → Int32 → Rs) (σ : Sg) (l1 : Int32) : Rs := if (12 : Int32) ≤ l1 then (ls_ (sv σ 23 (((1 : Int32) <<< ((σ.1 21) &&& 31)) - (1 : Int32))) fun σ1 => ls_ (sv σ1 24 (0 : Int32)) fun σ2 => fX7_begins_40 F F σ2 ((0 : Int32))) else (if ib l1 12 then (ls_ (sa σ 29 l1.toNatClampNeg (0 : Int32)) fun σ3 => k2 σ3 (l1 + 1)) else none)
set_option maxRecDepth 100000 in
set_option maxHeartbeats 4000000 in
theorem wbX7_begins_2 {x : FX} {g : GX} {ad : Nat → Nat} {ex M0 : va_W} {r : Int32} {τ : Sg} {F : Nat} (hX : RX x g M0 (Pv_ (HH g ad τ ++ ex)) 0 0) {k2 : Sg → Int32 → Rs} (h2 : ∀ (σ : Sg) (l1 : Int32), k2 σ l1 = some (r, τ) → Go x { frames := 0, cells := 0, slots := 0, locals := 0 } tX7_begins g 2 [.ref (ad 24), .int l1] [] (HH g ad σ ++ ex) 0 0) (σ : Sg) (l1 : Int32) (H : bX7_begins_2 F k2 σ l1 = some (r, τ)) : Go x { frames := 0, cells := 0, slots := 0, locals := 0 } tX7_begins g 2 [.ref (ad 24), .int l1] [] (HH g ad σ ++ ex) 0 0 := by
  unfold bX7_begins_2 at H
  refine g_iload_n (q := 3) (i := 1) dX7_begins_2 rfl rfl rfl ?_
  refine g_bipush (q := 5) (v := 12) dX7_begins_3 rfl (by decide) ?_
  refine g_icmp_ge (q := 8) (r := 21) dX7_begins_5 (by decide) rfl (fun c5 => ?_) (fun c5 => ?_)
  · replace H := (if_pos c5).symm.trans H
    refine g_aload_n (q := 22) (i := 0) dX7_begins_21 rfl rfl rfl ?_
    refine g_iconst (q := 23) (v := 1) dX7_begins_22 rfl (by decide) ?_
    refine g_aload_n (q := 24) (i := 0) dX7_begins_23 rfl rfl rfl ?_
    refine g_get (q := 27) dX7_begins_24 rfl foX7_68 24 hc24 rfl ?_
    refine g_ishl (q := 28) dX7_begins_27 rfl ?_
    refine g_iconst (q := 29) (v := 1) dX7_begins_28 rfl (by decide) ?_
    refine g_isub (q := 30) dX7_begins_29 rfl ?_
    obtain ⟨σ1, n1, H⟩ := of_ls H
    refine g_put (q := 33) dX7_begins_30 rfl (fpX7_91 _) 24 hc24 rfl rfl (Nat.le_of_ble_eq_true rfl) (hs23e n1) ?_
    refine g_aload_n (q := 34) (i := 0) dX7_begins_33 rfl rfl rfl ?_
    refine g_iconst (q := 35) (v := 0) dX7_begins_34 rfl (by decide) ?_
    obtain ⟨σ2, n2, H⟩ := of_ls H
    refine g_put (q := 38) dX7_begins_35 rfl (fpX7_94 _) 24 hc24 rfl rfl (Nat.le_of_ble_eq_true rfl) (hs24e n2) ?_
    refine g_iconst (q := 39) (v := 0) dX7_begins_38 rfl (by decide) ?_
    refine g_istore_n (q := 40) (L' := [.ref (ad 24), .int ((0 : Int32))]) (i := 1) dX7_begins_39 rfl rfl (Nat.le_of_ble_eq_true rfl) rfl ?_
    exact g_weak (L' := [.ref (ad 24), .int ((0 : Int32))]) ⟨Or.inr rfl, Or.inr rfl, trivial⟩ (wfX7_begins_40 (F := F) hX  F _ _ H)
  · replace H := (if_neg c5).symm.trans H
    refine g_aload_n (q := 9) (i := 0) dX7_begins_8 rfl rfl rfl ?_
    refine g_get (q := 12) dX7_begins_9 rfl foX7_23 24 hc24 rfl ?_
    refine g_iload_n (q := 13) (i := 1) dX7_begins_12 rfl rfl rfl ?_
    refine g_iconst (q := 14) (v := 0) dX7_begins_13 rfl (by decide) ?_
    obtain ⟨b14, H⟩ := of_chk H
    obtain ⟨σ3, n3, H⟩ := of_ls H
    refine g_iast (q := 15) dX7_begins_14 rfl 29 hc29 b14 (ha29e n3) ?_
    refine g_iinc (q := 18) (b := l1 + 1) (L' := [.ref (ad 24), .int (l1 + 1)]) dX7_begins_15 rfl rfl rfl (Nat.le_of_ble_eq_true rfl) rfl ?_
    refine g_goto (q := 2) dX7_begins_18 (by decide) ?_
    exact g_weak (L' := [.ref (ad 24), .int (l1 + 1)]) ⟨Or.inr rfl, Or.inr rfl, trivial⟩ (h2 _ _ H)
def fX7_begins_2 (F : Nat)  : Nat → Sg → Int32 → Rs
  | 0 => fun _ _ => none
  | n + 1 => fun σ l1 => bX7_begins_2 F  (fX7_begins_2 F  n) σ l1
theorem wfX7_begins_2 {x : FX} {g : GX} {ad : Nat → Nat} {ex M0 : va_W} {r : Int32} {τ : Sg} {F : Nat} (hX : RX x g M0 (Pv_ (HH g ad τ ++ ex)) 0 0)   : ∀ (n : Nat) (σ : Sg) (l1 : Int32), fX7_begins_2 F  n σ l1 = some (r, τ) → Go x { frames := 0, cells := 0, slots := 0, locals := 0 } tX7_begins g 2 [.ref (ad 24), .int l1] [] (HH g ad σ ++ ex) 0 0
  | 0, _, _, H => nomatch (show (none : Rs) = some _ from H)
  | n + 1, σ, l1, H => wbX7_begins_2 (F := F) hX  (fun σ2 z1 H2 => wfX7_begins_2 (F := F) hX  n σ2 z1 H2) σ l1 H
def fX7_begins (F : Nat) (σ : Sg)  : Rs := fX7_begins_2 F F σ ((0 : Int32))
set_option maxRecDepth 100000 in
set_option maxHeartbeats 4000000 in
theorem ctX7_begins {l : Launch} {g : GX} {ad : Nat → Nat} {ex : va_W} {r : Int32} {τ σ : Sg} {F : Nat}  (H : fX7_begins F σ  = some (r, τ)) : Ct l g yX7_begins tX7_begins 0 0 0 0 [.ref (ad 24)] (HH g ad σ ++ ex) (Pv_ (HH g ad τ ++ ex)) := by
  refine Ct.of (L := [.ref (ad 24), un_]) (by decide +kernel) rfl rfl rfl (Nat.le_of_ble_eq_true rfl) rfl (fun x _ hX => ?_)
  unfold fX7_begins at H
  refine g_iconst (q := 1) (v := 0) dX7_begins_0 rfl (by decide) ?_
  refine g_istore_n (q := 2) (L' := [.ref (ad 24), .int ((0 : Int32))]) (i := 1) dX7_begins_1 rfl rfl (Nat.le_of_ble_eq_true rfl) rfl ?_
  exact g_weak (L' := [.ref (ad 24), .int ((0 : Int32))]) ⟨Or.inr rfl, Or.inr rfl, trivial⟩ (wfX7_begins_2 (F := F) hX  F _ _ H)
def bX7_keeps_2 (F : Nat) (k2 : Sg → Int32 → Rs) (σ : Sg) (l1 : Int32) : Rs := if (12 : Int32) ≤ l1 then (if ib (σ.1 25) 201 then (ls_ (sa σ 34 (σ.1 25).toNatClampNeg (σ.1 23)) fun σ1 => if ib (σ1.1 25) 201 then (ls_ (sa σ1 35 (σ1.1 25).toNatClampNeg (σ1.1 24)) fun σ2 => some (0, σ2)) else none) else none) else (if ib l1 12 then (if ib (((12 : Int32) * (σ.1 25)) + l1) 2412 then (ls_ (sa σ 33 (((12 : Int32) * (σ.1 25)) + l1).toNatClampNeg (σ.2.1 29 l1.toNatClampNeg)) fun σ3 => k2 σ3 (l1 + 1)) else none) else none)
set_option maxRecDepth 100000 in
set_option maxHeartbeats 4000000 in
theorem wbX7_keeps_2 {x : FX} {g : GX} {ad : Nat → Nat} {ex M0 : va_W} {r : Int32} {τ : Sg} {F : Nat} (hX : RX x g M0 (Pv_ (HH g ad τ ++ ex)) 0 0) {k2 : Sg → Int32 → Rs} (h2 : ∀ (σ : Sg) (l1 : Int32), k2 σ l1 = some (r, τ) → Go x { frames := 0, cells := 0, slots := 0, locals := 0 } tX7_keeps g 2 [.ref (ad 24), .int l1] [] (HH g ad σ ++ ex) 0 0) (σ : Sg) (l1 : Int32) (H : bX7_keeps_2 F k2 σ l1 = some (r, τ)) : Go x { frames := 0, cells := 0, slots := 0, locals := 0 } tX7_keeps g 2 [.ref (ad 24), .int l1] [] (HH g ad σ ++ ex) 0 0 := by
  unfold bX7_keeps_2 at H
  refine g_iload_n (q := 3) (i := 1) dX7_keeps_2 rfl rfl rfl ?_
  refine g_bipush (q := 5) (v := 12) dX7_keeps_3 rfl (by decide) ?_
  refine g_icmp_ge (q := 8) (r := 34) dX7_keeps_5 (by decide) rfl (fun c5 => ?_) (fun c5 => ?_)
  · replace H := (if_pos c5).symm.trans H
    refine g_aload_n (q := 35) (i := 0) dX7_keeps_34 rfl rfl rfl ?_
    refine g_get (q := 38) dX7_keeps_35 rfl foX7_38 24 hc24 rfl ?_
    refine g_aload_n (q := 39) (i := 0) dX7_keeps_38 rfl rfl rfl ?_
    refine g_get (q := 42) dX7_keeps_39 rfl foX7_107 24 hc24 rfl ?_
    refine g_aload_n (q := 43) (i := 0) dX7_keeps_42 rfl rfl rfl ?_
    refine g_get (q := 46) dX7_keeps_43 rfl foX7_91 24 hc24 rfl ?_
    obtain ⟨b46, H⟩ := of_chk H
    obtain ⟨σ1, n1, H⟩ := of_ls H
    refine g_iast (q := 47) dX7_keeps_46 rfl 34 hc34 b46 (ha34e n1) ?_
    refine g_aload_n (q := 48) (i := 0) dX7_keeps_47 rfl rfl rfl ?_
    refine g_get (q := 51) dX7_keeps_48 rfl foX7_41 24 hc24 rfl ?_
    refine g_aload_n (q := 52) (i := 0) dX7_keeps_51 rfl rfl rfl ?_
    refine g_get (q := 55) dX7_keeps_52 rfl foX7_107 24 hc24 rfl ?_
    refine g_aload_n (q := 56) (i := 0) dX7_keeps_55 rfl rfl rfl ?_
    refine g_get (q := 59) dX7_keeps_56 rfl foX7_94 24 hc24 rfl ?_
    obtain ⟨b59, H⟩ := of_chk H
    obtain ⟨σ2, n2, H⟩ := of_ls H
    refine g_iast (q := 60) dX7_keeps_59 rfl 35 hc35 b59 (ha35e n2) ?_
    exact g_vret hX dX7_keeps_60 rfl (Nat.le_refl _) (Nat.le_refl _) (pvOk H)
  · replace H := (if_neg c5).symm.trans H
    refine g_aload_n (q := 9) (i := 0) dX7_keeps_8 rfl rfl rfl ?_
    refine g_get (q := 12) dX7_keeps_9 rfl foX7_35 24 hc24 rfl ?_
    refine g_bipush (q := 14) (v := 12) dX7_keeps_12 rfl (by decide) ?_
    refine g_aload_n (q := 15) (i := 0) dX7_keeps_14 rfl rfl rfl ?_
    refine g_get (q := 18) dX7_keeps_15 rfl foX7_107 24 hc24 rfl ?_
    refine g_imul (q := 19) dX7_keeps_18 rfl ?_
    refine g_iload_n (q := 20) (i := 1) dX7_keeps_19 rfl rfl rfl ?_
    refine g_iadd (q := 21) dX7_keeps_20 rfl ?_
    refine g_aload_n (q := 22) (i := 0) dX7_keeps_21 rfl rfl rfl ?_
    refine g_get (q := 25) dX7_keeps_22 rfl foX7_23 24 hc24 rfl ?_
    refine g_iload_n (q := 26) (i := 1) dX7_keeps_25 rfl rfl rfl ?_
    obtain ⟨b26, H⟩ := of_chk H
    refine g_iald (q := 27) dX7_keeps_26 rfl 29 hc29 b26 ?_
    obtain ⟨b27, H⟩ := of_chk H
    obtain ⟨σ3, n3, H⟩ := of_ls H
    refine g_iast (q := 28) dX7_keeps_27 rfl 33 hc33 b27 (ha33e n3) ?_
    refine g_iinc (q := 31) (b := l1 + 1) (L' := [.ref (ad 24), .int (l1 + 1)]) dX7_keeps_28 rfl rfl rfl (Nat.le_of_ble_eq_true rfl) rfl ?_
    refine g_goto (q := 2) dX7_keeps_31 (by decide) ?_
    exact g_weak (L' := [.ref (ad 24), .int (l1 + 1)]) ⟨Or.inr rfl, Or.inr rfl, trivial⟩ (h2 _ _ H)
def fX7_keeps_2 (F : Nat)  : Nat → Sg → Int32 → Rs
  | 0 => fun _ _ => none
  | n + 1 => fun σ l1 => bX7_keeps_2 F  (fX7_keeps_2 F  n) σ l1
theorem wfX7_keeps_2 {x : FX} {g : GX} {ad : Nat → Nat} {ex M0 : va_W} {r : Int32} {τ : Sg} {F : Nat} (hX : RX x g M0 (Pv_ (HH g ad τ ++ ex)) 0 0)   : ∀ (n : Nat) (σ : Sg) (l1 : Int32), fX7_keeps_2 F  n σ l1 = some (r, τ) → Go x { frames := 0, cells := 0, slots := 0, locals := 0 } tX7_keeps g 2 [.ref (ad 24), .int l1] [] (HH g ad σ ++ ex) 0 0
  | 0, _, _, H => nomatch (show (none : Rs) = some _ from H)
  | n + 1, σ, l1, H => wbX7_keeps_2 (F := F) hX  (fun σ2 z1 H2 => wfX7_keeps_2 (F := F) hX  n σ2 z1 H2) σ l1 H
def fX7_keeps (F : Nat) (σ : Sg)  : Rs := fX7_keeps_2 F F σ ((0 : Int32))
set_option maxRecDepth 100000 in
set_option maxHeartbeats 4000000 in
theorem ctX7_keeps {l : Launch} {g : GX} {ad : Nat → Nat} {ex : va_W} {r : Int32} {τ σ : Sg} {F : Nat}  (H : fX7_keeps F σ  = some (r, τ)) : Ct l g yX7_keeps tX7_keeps 0 0 0 0 [.ref (ad 24)] (HH g ad σ ++ ex) (Pv_ (HH g ad τ ++ ex)) := by
  refine Ct.of (L := [.ref (ad 24), un_]) (by decide +kernel) rfl rfl rfl (Nat.le_of_ble_eq_true rfl) rfl (fun x _ hX => ?_)
  unfold fX7_keeps at H
  refine g_iconst (q := 1) (v := 0) dX7_keeps_0 rfl (by decide) ?_
  refine g_istore_n (q := 2) (L' := [.ref (ad 24), .int ((0 : Int32))]) (i := 1) dX7_keeps_1 rfl rfl (Nat.le_of_ble_eq_true rfl) rfl ?_
  exact g_weak (L' := [.ref (ad 24), .int ((0 : Int32))]) ⟨Or.inr rfl, Or.inr rfl, trivial⟩ (wfX7_keeps_2 (F := F) hX  F _ _ H)
def fX7_anew (F : Nat) (σ : Sg)  : Rs := ls_ (sv σ 25 (0 : Int32)) fun σ1 => (fX7_begins F σ1).bind fun q2 => (fun (r2 : Int32) (σ2 : Sg) => (fX7_keeps F σ2).bind fun q3 => (fun (r3 : Int32) (σ3 : Sg) => some (0, σ3)) q3.1 q3.2) q2.1 q2.2
set_option maxRecDepth 100000 in
set_option maxHeartbeats 4000000 in
theorem ctX7_anew {l : Launch} {g : GX} {ad : Nat → Nat} {ex : va_W} {r : Int32} {τ σ : Sg} {F : Nat}  (H : fX7_anew F σ  = some (r, τ)) : Ct l g yX7_anew tX7_anew 1 21 0 0 [.ref (ad 24)] (HH g ad σ ++ ex) (Pv_ (HH g ad τ ++ ex)) := by
  refine Ct.of (L := [.ref (ad 24)]) (by decide +kernel) rfl rfl rfl (Nat.le_of_ble_eq_true rfl) rfl (fun x _ hX => ?_)
  unfold fX7_anew at H
  refine g_aload_n (q := 1) (i := 0) dX7_anew_0 rfl rfl rfl ?_
  refine g_iconst (q := 2) (v := 0) dX7_anew_1 rfl (by decide) ?_
  obtain ⟨σ1, n1, H⟩ := of_ls H
  refine g_put (q := 5) dX7_anew_2 rfl (fpX7_107 _) 24 hc24 rfl rfl (Nat.le_of_ble_eq_true rfl) (hs25e n1) ?_
  refine g_aload_n (q := 6) (i := 0) dX7_anew_5 rfl rfl rfl ?_
  obtain ⟨r2, σ2, e2, H⟩ := of_bnd H
  refine g_callV (q := 9) (rest := []) dX7_anew_6 rfl cvX7_110 (ctX7_begins e2) rfl rfl ⟨Nat.le_of_ble_eq_true rfl, Nat.le_of_ble_eq_true rfl⟩ ⟨Nat.le_refl _, Nat.le_refl _⟩ (Nat.le_of_ble_eq_true rfl) 24 hc24 rfl (fun r0 M9 hp => ?_)
  obtain ⟨rfl, rfl⟩ := hp
  show Go x _ _ g 9 [.ref (ad 24)] [] (HH g ad σ2 ++ ex) 0 0
  refine g_aload_n (q := 10) (i := 0) dX7_anew_9 rfl rfl rfl ?_
  obtain ⟨r3, σ3, e3, H⟩ := of_bnd H
  refine g_callV (q := 13) (rest := []) dX7_anew_10 rfl cvX7_113 (ctX7_keeps e3) rfl rfl ⟨Nat.le_of_ble_eq_true rfl, Nat.le_of_ble_eq_true rfl⟩ ⟨Nat.le_refl _, Nat.le_refl _⟩ (Nat.le_of_ble_eq_true rfl) 24 hc24 rfl (fun r0 M9 hp => ?_)
  obtain ⟨rfl, rfl⟩ := hp
  show Go x _ _ g 13 [.ref (ad 24)] [] (HH g ad σ3 ++ ex) 0 0
  exact g_vret hX dX7_anew_13 rfl (Nat.le_refl _) (Nat.le_refl _) (pvOk H)
def fX7_changes (F : Nat) (σ : Sg)  : Rs := ls_ (sv σ 28 (-1 : Int32)) fun σ1 => (fX7_anew F σ1).bind fun q2 => (fun (r2 : Int32) (σ2 : Sg) => some (0, σ2)) q2.1 q2.2
set_option maxRecDepth 100000 in
set_option maxHeartbeats 4000000 in
theorem ctX7_changes {l : Launch} {g : GX} {ad : Nat → Nat} {ex : va_W} {r : Int32} {τ σ : Sg} {F : Nat}  (H : fX7_changes F σ  = some (r, τ)) : Ct l g yX7_changes tX7_changes 2 41 0 0 [.ref (ad 24)] (HH g ad σ ++ ex) (Pv_ (HH g ad τ ++ ex)) := by
  refine Ct.of (L := [.ref (ad 24)]) (by decide +kernel) rfl rfl rfl (Nat.le_of_ble_eq_true rfl) rfl (fun x _ hX => ?_)
  unfold fX7_changes at H
  refine g_aload_n (q := 1) (i := 0) dX7_changes_0 rfl rfl rfl ?_
  refine g_iconst (q := 2) (v := -1) dX7_changes_1 rfl (by decide) ?_
  obtain ⟨σ1, n1, H⟩ := of_ls H
  refine g_put (q := 5) dX7_changes_2 rfl (fpX7_58 _) 24 hc24 rfl rfl (Nat.le_of_ble_eq_true rfl) (hs28e n1) ?_
  refine g_aload_n (q := 6) (i := 0) dX7_changes_5 rfl rfl rfl ?_
  obtain ⟨r2, σ2, e2, H⟩ := of_bnd H
  refine g_callV (q := 9) (rest := []) dX7_changes_6 rfl cvX7_71 (ctX7_anew e2) rfl rfl ⟨Nat.le_of_ble_eq_true rfl, Nat.le_of_ble_eq_true rfl⟩ ⟨Nat.le_refl _, Nat.le_refl _⟩ (Nat.le_of_ble_eq_true rfl) 24 hc24 rfl (fun r0 M9 hp => ?_)
  obtain ⟨rfl, rfl⟩ := hp
  show Go x _ _ g 9 [.ref (ad 24)] [] (HH g ad σ2 ++ ex) 0 0
  exact g_vret hX dX7_changes_9 rfl (Nat.le_refl _) (Nat.le_refl _) (pvOk H)
def bX7_caves_45 (F : Nat) (k45 : Sg → Int32 → Rs) (σ : Sg) (l2 : Int32) : Rs := if (12 : Int32) ≤ l2 then ((fX7_changes F σ).bind fun q1 => (fun (r1 : Int32) (σ1 : Sg) => some ((1 : Int32), σ1)) q1.1 q1.2) else (if ib l2 12 then (ls_ (sa σ 28 l2.toNatClampNeg l2) fun σ2 => k45 σ2 (l2 + 1)) else none)
set_option maxRecDepth 100000 in
set_option maxHeartbeats 4000000 in
theorem wbX7_caves_45 {x : FX} {g : GX} {ad : Nat → Nat} {ex M0 : va_W} {r : Int32} {τ : Sg} {F : Nat} (hX : RX x g M0 (Pi_ r (HH g ad τ ++ ex)) 0 0) {k45 : Sg → Int32 → Rs} (h45 : ∀ (σ : Sg) (l2 : Int32), k45 σ l2 = some (r, τ) → Go x { frames := 3, cells := 0, slots := 0, locals := 61 } tX7_caves g 45 [.ref (ad 24), un_, .int l2] [] (HH g ad σ ++ ex) 0 0) (σ : Sg) (l2 : Int32) (H : bX7_caves_45 F k45 σ l2 = some (r, τ)) : Go x { frames := 3, cells := 0, slots := 0, locals := 61 } tX7_caves g 45 [.ref (ad 24), un_, .int l2] [] (HH g ad σ ++ ex) 0 0 := by
  unfold bX7_caves_45 at H
  refine g_iload_n (q := 46) (i := 2) dX7_caves_45 rfl rfl rfl ?_
  refine g_bipush (q := 48) (v := 12) dX7_caves_46 rfl (by decide) ?_
  refine g_icmp_ge (q := 51) (r := 64) dX7_caves_48 (by decide) rfl (fun c48 => ?_) (fun c48 => ?_)
  · replace H := (if_pos c48).symm.trans H
    refine g_aload_n (q := 65) (i := 0) dX7_caves_64 rfl rfl rfl ?_
    obtain ⟨r1, σ1, e1, H⟩ := of_bnd H
    refine g_callV (q := 68) (rest := []) dX7_caves_65 rfl cvX7_77 (ctX7_changes e1) rfl rfl ⟨Nat.le_of_ble_eq_true rfl, Nat.le_of_ble_eq_true rfl⟩ ⟨Nat.le_refl _, Nat.le_refl _⟩ (Nat.le_of_ble_eq_true rfl) 24 hc24 rfl (fun r0 M9 hp => ?_)
    obtain ⟨rfl, rfl⟩ := hp
    show Go x _ _ g 68 [.ref (ad 24), un_, .int l2] [] (HH g ad σ1 ++ ex) 0 0
    refine g_iconst (q := 69) (v := 1) dX7_caves_68 rfl (by decide) ?_
    exact g_iret hX dX7_caves_69 rfl rfl (Nat.le_refl _) (Nat.le_refl _) (piOk H)
  · replace H := (if_neg c48).symm.trans H
    refine g_aload_n (q := 52) (i := 0) dX7_caves_51 rfl rfl rfl ?_
    refine g_get (q := 55) dX7_caves_52 rfl foX7_20 24 hc24 rfl ?_
    refine g_iload_n (q := 56) (i := 2) dX7_caves_55 rfl rfl rfl ?_
    refine g_iload_n (q := 57) (i := 2) dX7_caves_56 rfl rfl rfl ?_
    obtain ⟨b57, H⟩ := of_chk H
    obtain ⟨σ2, n2, H⟩ := of_ls H
    refine g_iast (q := 58) dX7_caves_57 rfl 28 hc28 b57 (ha28e n2) ?_
    refine g_iinc (q := 61) (b := l2 + 1) (L' := [.ref (ad 24), un_, .int (l2 + 1)]) dX7_caves_58 rfl rfl rfl (Nat.le_of_ble_eq_true rfl) rfl ?_
    refine g_goto (q := 45) dX7_caves_61 (by decide) ?_
    exact g_weak (L' := [.ref (ad 24), un_, .int (l2 + 1)]) ⟨Or.inr rfl, Or.inl rfl, Or.inr rfl, trivial⟩ (h45 _ _ H)
def fX7_caves_45 (F : Nat)  : Nat → Sg → Int32 → Rs
  | 0 => fun _ _ => none
  | n + 1 => fun σ l2 => bX7_caves_45 F  (fX7_caves_45 F  n) σ l2
theorem wfX7_caves_45 {x : FX} {g : GX} {ad : Nat → Nat} {ex M0 : va_W} {r : Int32} {τ : Sg} {F : Nat} (hX : RX x g M0 (Pi_ r (HH g ad τ ++ ex)) 0 0)   : ∀ (n : Nat) (σ : Sg) (l2 : Int32), fX7_caves_45 F  n σ l2 = some (r, τ) → Go x { frames := 3, cells := 0, slots := 0, locals := 61 } tX7_caves g 45 [.ref (ad 24), un_, .int l2] [] (HH g ad σ ++ ex) 0 0
  | 0, _, _, H => nomatch (show (none : Rs) = some _ from H)
  | n + 1, σ, l2, H => wbX7_caves_45 (F := F) hX  (fun σ2 z2 H2 => wfX7_caves_45 (F := F) hX  n σ2 z2 H2) σ l2 H
def bX7_caves_24 (F : Nat) (k24 : Sg → Int32 → Rs) (σ : Sg) (l2 : Int32) : Rs := if (18 : Int32) ≤ l2 then (fX7_caves_45 F F σ ((0 : Int32))) else (if ib l2 18 then (ls_ (sa σ 27 l2.toNatClampNeg (0 : Int32)) fun σ1 => k24 σ1 (l2 + 1)) else none)
set_option maxRecDepth 100000 in
set_option maxHeartbeats 4000000 in
theorem wbX7_caves_24 {x : FX} {g : GX} {ad : Nat → Nat} {ex M0 : va_W} {r : Int32} {τ : Sg} {F : Nat} (hX : RX x g M0 (Pi_ r (HH g ad τ ++ ex)) 0 0) {k24 : Sg → Int32 → Rs} (h24 : ∀ (σ : Sg) (l2 : Int32), k24 σ l2 = some (r, τ) → Go x { frames := 3, cells := 0, slots := 0, locals := 61 } tX7_caves g 24 [.ref (ad 24), un_, .int l2] [] (HH g ad σ ++ ex) 0 0) (σ : Sg) (l2 : Int32) (H : bX7_caves_24 F k24 σ l2 = some (r, τ)) : Go x { frames := 3, cells := 0, slots := 0, locals := 61 } tX7_caves g 24 [.ref (ad 24), un_, .int l2] [] (HH g ad σ ++ ex) 0 0 := by
  unfold bX7_caves_24 at H
  refine g_iload_n (q := 25) (i := 2) dX7_caves_24 rfl rfl rfl ?_
  refine g_bipush (q := 27) (v := 18) dX7_caves_25 rfl (by decide) ?_
  refine g_icmp_ge (q := 30) (r := 43) dX7_caves_27 (by decide) rfl (fun c27 => ?_) (fun c27 => ?_)
  · replace H := (if_pos c27).symm.trans H
    refine g_iconst (q := 44) (v := 0) dX7_caves_43 rfl (by decide) ?_
    refine g_istore_n (q := 45) (L' := [.ref (ad 24), un_, .int ((0 : Int32))]) (i := 2) dX7_caves_44 rfl rfl (Nat.le_of_ble_eq_true rfl) rfl ?_
    exact g_weak (L' := [.ref (ad 24), un_, .int ((0 : Int32))]) ⟨Or.inr rfl, Or.inl rfl, Or.inr rfl, trivial⟩ (wfX7_caves_45 (F := F) hX  F _ _ H)
  · replace H := (if_neg c27).symm.trans H
    refine g_aload_n (q := 31) (i := 0) dX7_caves_30 rfl rfl rfl ?_
    refine g_get (q := 34) dX7_caves_31 rfl foX7_16 24 hc24 rfl ?_
    refine g_iload_n (q := 35) (i := 2) dX7_caves_34 rfl rfl rfl ?_
    refine g_iconst (q := 36) (v := 0) dX7_caves_35 rfl (by decide) ?_
    obtain ⟨b36, H⟩ := of_chk H
    obtain ⟨σ1, n1, H⟩ := of_ls H
    refine g_zast (q := 37) dX7_caves_36 rfl 27 hc27 b36 rfl (ha27e n1) ?_
    refine g_iinc (q := 40) (b := l2 + 1) (L' := [.ref (ad 24), un_, .int (l2 + 1)]) dX7_caves_37 rfl rfl rfl (Nat.le_of_ble_eq_true rfl) rfl ?_
    refine g_goto (q := 24) dX7_caves_40 (by decide) ?_
    exact g_weak (L' := [.ref (ad 24), un_, .int (l2 + 1)]) ⟨Or.inr rfl, Or.inl rfl, Or.inr rfl, trivial⟩ (h24 _ _ H)
def fX7_caves_24 (F : Nat)  : Nat → Sg → Int32 → Rs
  | 0 => fun _ _ => none
  | n + 1 => fun σ l2 => bX7_caves_24 F  (fX7_caves_24 F  n) σ l2
theorem wfX7_caves_24 {x : FX} {g : GX} {ad : Nat → Nat} {ex M0 : va_W} {r : Int32} {τ : Sg} {F : Nat} (hX : RX x g M0 (Pi_ r (HH g ad τ ++ ex)) 0 0)   : ∀ (n : Nat) (σ : Sg) (l2 : Int32), fX7_caves_24 F  n σ l2 = some (r, τ) → Go x { frames := 3, cells := 0, slots := 0, locals := 61 } tX7_caves g 24 [.ref (ad 24), un_, .int l2] [] (HH g ad σ ++ ex) 0 0
  | 0, _, _, H => nomatch (show (none : Rs) = some _ from H)
  | n + 1, σ, l2, H => wbX7_caves_24 (F := F) hX  (fun σ2 z2 H2 => wfX7_caves_24 (F := F) hX  n σ2 z2 H2) σ l2 H
def fX7_caves (F : Nat) (σ : Sg) (l1 : Int32) : Rs := if l1 < (0 : Int32) then (some ((0 : Int32), σ)) else (if l1 ≤ (12 : Int32) then (ls_ (sv σ 21 l1) fun σ1 => ls_ (sv σ1 22 (0 : Int32)) fun σ2 => fX7_caves_24 F F σ2 ((0 : Int32))) else (some ((0 : Int32), σ)))
set_option maxRecDepth 100000 in
set_option maxHeartbeats 4000000 in
theorem ctX7_caves {l : Launch} {g : GX} {ad : Nat → Nat} {ex : va_W} {r : Int32} {τ σ : Sg} {F : Nat} {l1 : Int32} (H : fX7_caves F σ l1 = some (r, τ)) : Ct l g yX7_caves tX7_caves 3 61 0 0 [.ref (ad 24), .int l1] (HH g ad σ ++ ex) (Pi_ r (HH g ad τ ++ ex)) := by
  refine Ct.of (L := [.ref (ad 24), .int l1, un_]) (by decide +kernel) rfl rfl rfl (Nat.le_of_ble_eq_true rfl) rfl (fun x _ hX => ?_)
  unfold fX7_caves at H
  refine g_iload_n (q := 1) (i := 1) dX7_caves_0 rfl rfl rfl ?_
  refine g_if_lt (q := 4) (r := 10) dX7_caves_1 (by decide) rfl (fun c1 => ?_) (fun c1 => ?_)
  · replace H := (if_pos c1).symm.trans H
    refine g_iconst (q := 11) (v := 0) dX7_caves_10 rfl (by decide) ?_
    exact g_iret hX dX7_caves_11 rfl rfl (Nat.le_refl _) (Nat.le_refl _) (piOk H)
  · replace H := (if_neg c1).symm.trans H
    refine g_iload_n (q := 5) (i := 1) dX7_caves_4 rfl rfl rfl ?_
    refine g_bipush (q := 7) (v := 12) dX7_caves_5 rfl (by decide) ?_
    refine g_icmp_le (q := 10) (r := 12) dX7_caves_7 (by decide) rfl (fun c7 => ?_) (fun c7 => ?_)
    · replace H := (if_pos c7).symm.trans H
      refine g_aload_n (q := 13) (i := 0) dX7_caves_12 rfl rfl rfl ?_
      refine g_iload_n (q := 14) (i := 1) dX7_caves_13 rfl rfl rfl ?_
      obtain ⟨σ1, n1, H⟩ := of_ls H
      refine g_put (q := 17) dX7_caves_14 rfl (fpX7_68 _) 24 hc24 rfl rfl (Nat.le_of_ble_eq_true rfl) (hs21e n1) ?_
      refine g_aload_n (q := 18) (i := 0) dX7_caves_17 rfl rfl rfl ?_
      refine g_iconst (q := 19) (v := 0) dX7_caves_18 rfl (by decide) ?_
      obtain ⟨σ2, n2, H⟩ := of_ls H
      refine g_put (q := 22) dX7_caves_19 rfl (fpX7_74 _) 24 hc24 rfl rfl (Nat.le_of_ble_eq_true rfl) (hs22e n2) ?_
      refine g_iconst (q := 23) (v := 0) dX7_caves_22 rfl (by decide) ?_
      refine g_istore_n (q := 24) (L' := [.ref (ad 24), .int l1, .int ((0 : Int32))]) (i := 2) dX7_caves_23 rfl rfl (Nat.le_of_ble_eq_true rfl) rfl ?_
      exact g_weak (L' := [.ref (ad 24), un_, .int ((0 : Int32))]) ⟨Or.inr rfl, Or.inl rfl, Or.inr rfl, trivial⟩ (wfX7_caves_24 (F := F) hX  F _ _ H)
    · replace H := (if_neg c7).symm.trans H
      refine g_iconst (q := 11) (v := 0) dX7_caves_10 rfl (by decide) ?_
      exact g_iret hX dX7_caves_11 rfl rfl (Nat.le_refl _) (Nat.le_refl _) (piOk H)
def fX7_isCave (F : Nat) (σ : Sg) (l1 : Int32) : Rs := if l1 < (0 : Int32) then (some ((0 : Int32), σ)) else (if (σ.1 21) ≤ l1 then (some ((0 : Int32), σ)) else (some ((1 : Int32), σ)))
set_option maxRecDepth 100000 in
set_option maxHeartbeats 4000000 in
theorem ctX7_isCave {l : Launch} {g : GX} {ad : Nat → Nat} {ex : va_W} {r : Int32} {τ σ : Sg} {F : Nat} {l1 : Int32} (H : fX7_isCave F σ l1 = some (r, τ)) : Ct l g yX7_isCave tX7_isCave 0 0 0 0 [.ref (ad 24), .int l1] (HH g ad σ ++ ex) (Pi_ r (HH g ad τ ++ ex)) := by
  refine Ct.of (L := [.ref (ad 24), .int l1]) (by decide +kernel) rfl rfl rfl (Nat.le_of_ble_eq_true rfl) rfl (fun x _ hX => ?_)
  unfold fX7_isCave at H
  refine g_iload_n (q := 1) (i := 1) dX7_isCave_0 rfl rfl rfl ?_
  refine g_if_lt (q := 4) (r := 16) dX7_isCave_1 (by decide) rfl (fun c1 => ?_) (fun c1 => ?_)
  · replace H := (if_pos c1).symm.trans H
    refine g_iconst (q := 17) (v := 0) dX7_isCave_16 rfl (by decide) ?_
    exact g_iret hX dX7_isCave_17 rfl rfl (Nat.le_refl _) (Nat.le_refl _) (piOk H)
  · replace H := (if_neg c1).symm.trans H
    refine g_iload_n (q := 5) (i := 1) dX7_isCave_4 rfl rfl rfl ?_
    refine g_aload_n (q := 6) (i := 0) dX7_isCave_5 rfl rfl rfl ?_
    refine g_get (q := 9) dX7_isCave_6 rfl foX7_68 24 hc24 rfl ?_
    refine g_icmp_ge (q := 12) (r := 16) dX7_isCave_9 (by decide) rfl (fun c9 => ?_) (fun c9 => ?_)
    · replace H := (if_pos c9).symm.trans H
      refine g_iconst (q := 17) (v := 0) dX7_isCave_16 rfl (by decide) ?_
      exact g_iret hX dX7_isCave_17 rfl rfl (Nat.le_refl _) (Nat.le_refl _) (piOk H)
    · replace H := (if_neg c9).symm.trans H
      refine g_iconst (q := 13) (v := 1) dX7_isCave_12 rfl (by decide) ?_
      refine g_goto (q := 17) dX7_isCave_13 (by decide) ?_
      exact g_iret hX dX7_isCave_17 rfl rfl (Nat.le_refl _) (Nat.le_refl _) (piOk H)
def bX7_passage_47 (F : Nat)  (σ : Sg) (l1 : Int32) (l2 : Int32) (l3 : Int32) : Rs := if l3 = (18 : Int32) then (some ((-1 : Int32), σ)) else (if ib l3 18 then (ls_ (sa σ 27 l3.toNatClampNeg (1 : Int32)) fun σ1 => if l2 ≤ l1 then (if ib l3 18 then (ls_ (sa σ1 25 l3.toNatClampNeg l2) fun σ2 => if l2 ≤ l1 then (if ib l3 18 then (ls_ (sa σ2 26 l3.toNatClampNeg l1) fun σ3 => (fX7_changes F σ3).bind fun q4 => (fun (r4 : Int32) (σ4 : Sg) => some (l3, σ4)) q4.1 q4.2) else none) else (if ib l3 18 then (ls_ (sa σ2 26 l3.toNatClampNeg l2) fun σ5 => (fX7_changes F σ5).bind fun q6 => (fun (r6 : Int32) (σ6 : Sg) => some (l3, σ6)) q6.1 q6.2) else none)) else none) else (if ib l3 18 then (ls_ (sa σ1 25 l3.toNatClampNeg l1) fun σ7 => if l2 ≤ l1 then (if ib l3 18 then (ls_ (sa σ7 26 l3.toNatClampNeg l1) fun σ8 => (fX7_changes F σ8).bind fun q9 => (fun (r9 : Int32) (σ9 : Sg) => some (l3, σ9)) q9.1 q9.2) else none) else (if ib l3 18 then (ls_ (sa σ7 26 l3.toNatClampNeg l2) fun σ10 => (fX7_changes F σ10).bind fun q11 => (fun (r11 : Int32) (σ11 : Sg) => some (l3, σ11)) q11.1 q11.2) else none)) else none)) else none)
set_option maxRecDepth 100000 in
set_option maxHeartbeats 4000000 in
theorem wbX7_passage_47 {x : FX} {g : GX} {ad : Nat → Nat} {ex M0 : va_W} {r : Int32} {τ : Sg} {F : Nat} (hX : RX x g M0 (Pi_ r (HH g ad τ ++ ex)) 0 0)   (σ : Sg) (l1 : Int32) (l2 : Int32) (l3 : Int32) (H : bX7_passage_47 F  σ l1 l2 l3 = some (r, τ)) : Go x { frames := 3, cells := 0, slots := 0, locals := 61 } tX7_passage g 47 [.ref (ad 24), .int l1, .int l2, .int l3] [] (HH g ad σ ++ ex) 0 0 := by
  unfold bX7_passage_47 at H
  refine g_iload_n (q := 48) (i := 3) dX7_passage_47 rfl rfl rfl ?_
  refine g_bipush (q := 50) (v := 18) dX7_passage_48 rfl (by decide) ?_
  refine g_icmp_ne (q := 53) (r := 55) dX7_passage_50 (by decide) rfl (fun c50 => ?_) (fun c50 => ?_)
  · replace H := (if_neg c50).symm.trans H
    refine g_aload_n (q := 56) (i := 0) dX7_passage_55 rfl rfl rfl ?_
    refine g_get (q := 59) dX7_passage_56 rfl foX7_16 24 hc24 rfl ?_
    refine g_iload_n (q := 60) (i := 3) dX7_passage_59 rfl rfl rfl ?_
    refine g_iconst (q := 61) (v := 1) dX7_passage_60 rfl (by decide) ?_
    obtain ⟨b61, H⟩ := of_chk H
    obtain ⟨σ1, n1, H⟩ := of_ls H
    refine g_zast (q := 62) dX7_passage_61 rfl 27 hc27 b61 rfl (ha27e n1) ?_
    refine g_aload_n (q := 63) (i := 0) dX7_passage_62 rfl rfl rfl ?_
    refine g_get (q := 66) dX7_passage_63 rfl foX7_7 24 hc24 rfl ?_
    refine g_iload_n (q := 67) (i := 3) dX7_passage_66 rfl rfl rfl ?_
    refine g_iload_n (q := 68) (i := 1) dX7_passage_67 rfl rfl rfl ?_
    refine g_iload_n (q := 69) (i := 2) dX7_passage_68 rfl rfl rfl ?_
    refine g_icmp_ge (q := 72) (r := 76) dX7_passage_69 (by decide) rfl (fun c69 => ?_) (fun c69 => ?_)
    · replace H := (if_pos c69).symm.trans H
      refine g_iload_n (q := 77) (i := 2) dX7_passage_76 rfl rfl rfl ?_
      obtain ⟨b77, H⟩ := of_chk H
      obtain ⟨σ2, n2, H⟩ := of_ls H
      refine g_iast (q := 78) dX7_passage_77 rfl 25 hc25 b77 (ha25e n2) ?_
      refine g_aload_n (q := 79) (i := 0) dX7_passage_78 rfl rfl rfl ?_
      refine g_get (q := 82) dX7_passage_79 rfl foX7_13 24 hc24 rfl ?_
      refine g_iload_n (q := 83) (i := 3) dX7_passage_82 rfl rfl rfl ?_
      refine g_iload_n (q := 84) (i := 1) dX7_passage_83 rfl rfl rfl ?_
      refine g_iload_n (q := 85) (i := 2) dX7_passage_84 rfl rfl rfl ?_
      refine g_icmp_ge (q := 88) (r := 92) dX7_passage_85 (by decide) rfl (fun c85 => ?_) (fun c85 => ?_)
      · replace H := (if_pos c85).symm.trans H
        refine g_iload_n (q := 93) (i := 1) dX7_passage_92 rfl rfl rfl ?_
        obtain ⟨b93, H⟩ := of_chk H
        obtain ⟨σ3, n3, H⟩ := of_ls H
        refine g_iast (q := 94) dX7_passage_93 rfl 26 hc26 b93 (ha26e n3) ?_
        refine g_aload_n (q := 95) (i := 0) dX7_passage_94 rfl rfl rfl ?_
        obtain ⟨r4, σ4, e4, H⟩ := of_bnd H
        refine g_callV (q := 98) (rest := []) dX7_passage_95 rfl cvX7_77 (ctX7_changes e4) rfl rfl ⟨Nat.le_of_ble_eq_true rfl, Nat.le_of_ble_eq_true rfl⟩ ⟨Nat.le_refl _, Nat.le_refl _⟩ (Nat.le_of_ble_eq_true rfl) 24 hc24 rfl (fun r0 M9 hp => ?_)
        obtain ⟨rfl, rfl⟩ := hp
        show Go x _ _ g 98 [.ref (ad 24), .int l1, .int l2, .int l3] [] (HH g ad σ4 ++ ex) 0 0
        refine g_iload_n (q := 99) (i := 3) dX7_passage_98 rfl rfl rfl ?_
        exact g_iret hX dX7_passage_99 rfl rfl (Nat.le_refl _) (Nat.le_refl _) (piOk H)
      · replace H := (if_neg c85).symm.trans H
        refine g_iload_n (q := 89) (i := 2) dX7_passage_88 rfl rfl rfl ?_
        refine g_goto (q := 93) dX7_passage_89 (by decide) ?_
        obtain ⟨b93, H⟩ := of_chk H
        obtain ⟨σ5, n5, H⟩ := of_ls H
        refine g_iast (q := 94) dX7_passage_93 rfl 26 hc26 b93 (ha26e n5) ?_
        refine g_aload_n (q := 95) (i := 0) dX7_passage_94 rfl rfl rfl ?_
        obtain ⟨r6, σ6, e6, H⟩ := of_bnd H
        refine g_callV (q := 98) (rest := []) dX7_passage_95 rfl cvX7_77 (ctX7_changes e6) rfl rfl ⟨Nat.le_of_ble_eq_true rfl, Nat.le_of_ble_eq_true rfl⟩ ⟨Nat.le_refl _, Nat.le_refl _⟩ (Nat.le_of_ble_eq_true rfl) 24 hc24 rfl (fun r0 M9 hp => ?_)
        obtain ⟨rfl, rfl⟩ := hp
        show Go x _ _ g 98 [.ref (ad 24), .int l1, .int l2, .int l3] [] (HH g ad σ6 ++ ex) 0 0
        refine g_iload_n (q := 99) (i := 3) dX7_passage_98 rfl rfl rfl ?_
        exact g_iret hX dX7_passage_99 rfl rfl (Nat.le_refl _) (Nat.le_refl _) (piOk H)
    · replace H := (if_neg c69).symm.trans H
      refine g_iload_n (q := 73) (i := 1) dX7_passage_72 rfl rfl rfl ?_
      refine g_goto (q := 77) dX7_passage_73 (by decide) ?_
      obtain ⟨b77, H⟩ := of_chk H
      obtain ⟨σ7, n7, H⟩ := of_ls H
      refine g_iast (q := 78) dX7_passage_77 rfl 25 hc25 b77 (ha25e n7) ?_
      refine g_aload_n (q := 79) (i := 0) dX7_passage_78 rfl rfl rfl ?_
      refine g_get (q := 82) dX7_passage_79 rfl foX7_13 24 hc24 rfl ?_
      refine g_iload_n (q := 83) (i := 3) dX7_passage_82 rfl rfl rfl ?_
      refine g_iload_n (q := 84) (i := 1) dX7_passage_83 rfl rfl rfl ?_
      refine g_iload_n (q := 85) (i := 2) dX7_passage_84 rfl rfl rfl ?_
      refine g_icmp_ge (q := 88) (r := 92) dX7_passage_85 (by decide) rfl (fun c85 => ?_) (fun c85 => ?_)
      · replace H := (if_pos c85).symm.trans H
        refine g_iload_n (q := 93) (i := 1) dX7_passage_92 rfl rfl rfl ?_
        obtain ⟨b93, H⟩ := of_chk H
        obtain ⟨σ8, n8, H⟩ := of_ls H
        refine g_iast (q := 94) dX7_passage_93 rfl 26 hc26 b93 (ha26e n8) ?_
        refine g_aload_n (q := 95) (i := 0) dX7_passage_94 rfl rfl rfl ?_
        obtain ⟨r9, σ9, e9, H⟩ := of_bnd H
        refine g_callV (q := 98) (rest := []) dX7_passage_95 rfl cvX7_77 (ctX7_changes e9) rfl rfl ⟨Nat.le_of_ble_eq_true rfl, Nat.le_of_ble_eq_true rfl⟩ ⟨Nat.le_refl _, Nat.le_refl _⟩ (Nat.le_of_ble_eq_true rfl) 24 hc24 rfl (fun r0 M9 hp => ?_)
        obtain ⟨rfl, rfl⟩ := hp
        show Go x _ _ g 98 [.ref (ad 24), .int l1, .int l2, .int l3] [] (HH g ad σ9 ++ ex) 0 0
        refine g_iload_n (q := 99) (i := 3) dX7_passage_98 rfl rfl rfl ?_
        exact g_iret hX dX7_passage_99 rfl rfl (Nat.le_refl _) (Nat.le_refl _) (piOk H)
      · replace H := (if_neg c85).symm.trans H
        refine g_iload_n (q := 89) (i := 2) dX7_passage_88 rfl rfl rfl ?_
        refine g_goto (q := 93) dX7_passage_89 (by decide) ?_
        obtain ⟨b93, H⟩ := of_chk H
        obtain ⟨σ10, n10, H⟩ := of_ls H
        refine g_iast (q := 94) dX7_passage_93 rfl 26 hc26 b93 (ha26e n10) ?_
        refine g_aload_n (q := 95) (i := 0) dX7_passage_94 rfl rfl rfl ?_
        obtain ⟨r11, σ11, e11, H⟩ := of_bnd H
        refine g_callV (q := 98) (rest := []) dX7_passage_95 rfl cvX7_77 (ctX7_changes e11) rfl rfl ⟨Nat.le_of_ble_eq_true rfl, Nat.le_of_ble_eq_true rfl⟩ ⟨Nat.le_refl _, Nat.le_refl _⟩ (Nat.le_of_ble_eq_true rfl) 24 hc24 rfl (fun r0 M9 hp => ?_)
        obtain ⟨rfl, rfl⟩ := hp
        show Go x _ _ g 98 [.ref (ad 24), .int l1, .int l2, .int l3] [] (HH g ad σ11 ++ ex) 0 0
        refine g_iload_n (q := 99) (i := 3) dX7_passage_98 rfl rfl rfl ?_
        exact g_iret hX dX7_passage_99 rfl rfl (Nat.le_refl _) (Nat.le_refl _) (piOk H)
  · replace H := (if_pos c50).symm.trans H
    refine g_iconst (q := 54) (v := -1) dX7_passage_53 rfl (by decide) ?_
    exact g_iret hX dX7_passage_54 rfl rfl (Nat.le_refl _) (Nat.le_refl _) (piOk H)
def bX7_passage_25 (F : Nat) (k25 : Sg → Int32 → Int32 → Int32 → Rs) (σ : Sg) (l1 : Int32) (l2 : Int32) (l3 : Int32) : Rs := if (18 : Int32) ≤ l3 then (bX7_passage_47 F σ (l1) (l2) (l3)) else (if ib l3 18 then (if (σ.2.1 27 l3.toNatClampNeg) = (0 : Int32) then (bX7_passage_47 F σ (l1) (l2) (l3)) else (li_ (l3 + (1 : Int32)) fun v1 => k25 σ (l1) (l2) (v1))) else none)
set_option maxRecDepth 100000 in
set_option maxHeartbeats 4000000 in
theorem wbX7_passage_25 {x : FX} {g : GX} {ad : Nat → Nat} {ex M0 : va_W} {r : Int32} {τ : Sg} {F : Nat} (hX : RX x g M0 (Pi_ r (HH g ad τ ++ ex)) 0 0) {k25 : Sg → Int32 → Int32 → Int32 → Rs} (h25 : ∀ (σ : Sg) (l1 : Int32) (l2 : Int32) (l3 : Int32), k25 σ l1 l2 l3 = some (r, τ) → Go x { frames := 3, cells := 0, slots := 0, locals := 61 } tX7_passage g 25 [.ref (ad 24), .int l1, .int l2, .int l3] [] (HH g ad σ ++ ex) 0 0) (σ : Sg) (l1 : Int32) (l2 : Int32) (l3 : Int32) (H : bX7_passage_25 F k25 σ l1 l2 l3 = some (r, τ)) : Go x { frames := 3, cells := 0, slots := 0, locals := 61 } tX7_passage g 25 [.ref (ad 24), .int l1, .int l2, .int l3] [] (HH g ad σ ++ ex) 0 0 := by
  unfold bX7_passage_25 at H
  refine g_iload_n (q := 26) (i := 3) dX7_passage_25 rfl rfl rfl ?_
  refine g_bipush (q := 28) (v := 18) dX7_passage_26 rfl (by decide) ?_
  refine g_icmp_ge (q := 31) (r := 47) dX7_passage_28 (by decide) rfl (fun c28 => ?_) (fun c28 => ?_)
  · replace H := (if_pos c28).symm.trans H
    exact g_weak (L' := [.ref (ad 24), .int l1, .int l2, .int l3]) ⟨Or.inr rfl, Or.inr rfl, Or.inr rfl, Or.inr rfl, trivial⟩ (wbX7_passage_47 (F := F) hX  _ _ _ _ H)
  · replace H := (if_neg c28).symm.trans H
    refine g_aload_n (q := 32) (i := 0) dX7_passage_31 rfl rfl rfl ?_
    refine g_get (q := 35) dX7_passage_32 rfl foX7_16 24 hc24 rfl ?_
    refine g_iload_n (q := 36) (i := 3) dX7_passage_35 rfl rfl rfl ?_
    obtain ⟨b36, H⟩ := of_chk H
    refine g_zald (q := 37) dX7_passage_36 rfl 27 hc27 b36 ?_
    refine g_if_eq (q := 40) (r := 47) dX7_passage_37 (by decide) rfl (fun c37 => ?_) (fun c37 => ?_)
    · replace H := (if_pos c37).symm.trans H
      exact g_weak (L' := [.ref (ad 24), .int l1, .int l2, .int l3]) ⟨Or.inr rfl, Or.inr rfl, Or.inr rfl, Or.inr rfl, trivial⟩ (wbX7_passage_47 (F := F) hX  _ _ _ _ H)
    · replace H := (if_neg c37).symm.trans H
      refine g_iload_n (q := 41) (i := 3) dX7_passage_40 rfl rfl rfl ?_
      refine g_iconst (q := 42) (v := 1) dX7_passage_41 rfl (by decide) ?_
      refine g_iadd (q := 43) dX7_passage_42 rfl ?_
      obtain ⟨v1, n1, H⟩ := of_li H
      refine g_name n1 ?_
      refine g_istore_n (q := 44) (L' := [.ref (ad 24), .int l1, .int l2, .int v1]) (i := 3) dX7_passage_43 rfl rfl (Nat.le_of_ble_eq_true rfl) rfl ?_
      refine g_goto (q := 25) dX7_passage_44 (by decide) ?_
      exact g_weak (L' := [.ref (ad 24), .int l1, .int l2, .int v1]) ⟨Or.inr rfl, Or.inr rfl, Or.inr rfl, Or.inr rfl, trivial⟩ (h25 _ _ _ _ H)
def fX7_passage_25 (F : Nat)  : Nat → Sg → Int32 → Int32 → Int32 → Rs
  | 0 => fun _ _ _ _ => none
  | n + 1 => fun σ l1 l2 l3 => bX7_passage_25 F  (fX7_passage_25 F  n) σ l1 l2 l3
theorem wfX7_passage_25 {x : FX} {g : GX} {ad : Nat → Nat} {ex M0 : va_W} {r : Int32} {τ : Sg} {F : Nat} (hX : RX x g M0 (Pi_ r (HH g ad τ ++ ex)) 0 0)   : ∀ (n : Nat) (σ : Sg) (l1 : Int32) (l2 : Int32) (l3 : Int32), fX7_passage_25 F  n σ l1 l2 l3 = some (r, τ) → Go x { frames := 3, cells := 0, slots := 0, locals := 61 } tX7_passage g 25 [.ref (ad 24), .int l1, .int l2, .int l3] [] (HH g ad σ ++ ex) 0 0
  | 0, _, _, _, _, H => nomatch (show (none : Rs) = some _ from H)
  | n + 1, σ, l1, l2, l3, H => wbX7_passage_25 (F := F) hX  (fun σ2 z1 z2 z3 H2 => wfX7_passage_25 (F := F) hX  n σ2 z1 z2 z3 H2) σ l1 l2 l3 H
def fX7_passage (F : Nat) (σ : Sg) (l1 : Int32) (l2 : Int32) : Rs := (fX7_isCave F σ l1).bind fun q1 => (fun (r1 : Int32) (σ1 : Sg) => if r1 = (0 : Int32) then (some ((-1 : Int32), σ1)) else ((fX7_isCave F σ1 l2).bind fun q2 => (fun (r2 : Int32) (σ2 : Sg) => if r2 = (0 : Int32) then (some ((-1 : Int32), σ2)) else (if l1 = l2 then (some ((-1 : Int32), σ2)) else (fX7_passage_25 F F σ2 (l1) (l2) ((0 : Int32))))) q2.1 q2.2)) q1.1 q1.2
set_option maxRecDepth 100000 in
set_option maxHeartbeats 4000000 in
theorem ctX7_passage {l : Launch} {g : GX} {ad : Nat → Nat} {ex : va_W} {r : Int32} {τ σ : Sg} {F : Nat} {l1 : Int32} {l2 : Int32} (H : fX7_passage F σ l1 l2 = some (r, τ)) : Ct l g yX7_passage tX7_passage 3 61 0 0 [.ref (ad 24), .int l1, .int l2] (HH g ad σ ++ ex) (Pi_ r (HH g ad τ ++ ex)) := by
  refine Ct.of (L := [.ref (ad 24), .int l1, .int l2, un_]) (by decide +kernel) rfl rfl rfl (Nat.le_of_ble_eq_true rfl) rfl (fun x _ hX => ?_)
  unfold fX7_passage at H
  refine g_aload_n (q := 1) (i := 0) dX7_passage_0 rfl rfl rfl ?_
  refine g_iload_n (q := 2) (i := 1) dX7_passage_1 rfl rfl rfl ?_
  obtain ⟨r1, σ1, e1, H⟩ := of_bnd H
  refine g_callV (q := 5) (rest := []) dX7_passage_2 rfl cvX7_80 (ctX7_isCave e1) rfl rfl ⟨Nat.le_of_ble_eq_true rfl, Nat.le_of_ble_eq_true rfl⟩ ⟨Nat.le_refl _, Nat.le_refl _⟩ (Nat.le_of_ble_eq_true rfl) 24 hc24 rfl (fun r0 M9 hp => ?_)
  obtain ⟨rfl, rfl⟩ := hp
  show Go x _ _ g 5 [.ref (ad 24), .int l1, .int l2, un_] [.int r1] (HH g ad σ1 ++ ex) 0 0
  refine g_if_eq (q := 8) (r := 21) dX7_passage_5 (by decide) rfl (fun c5 => ?_) (fun c5 => ?_)
  · replace H := (if_pos c5).symm.trans H
    refine g_iconst (q := 22) (v := -1) dX7_passage_21 rfl (by decide) ?_
    exact g_iret hX dX7_passage_22 rfl rfl (Nat.le_refl _) (Nat.le_refl _) (piOk H)
  · replace H := (if_neg c5).symm.trans H
    refine g_aload_n (q := 9) (i := 0) dX7_passage_8 rfl rfl rfl ?_
    refine g_iload_n (q := 10) (i := 2) dX7_passage_9 rfl rfl rfl ?_
    obtain ⟨r2, σ2, e2, H⟩ := of_bnd H
    refine g_callV (q := 13) (rest := []) dX7_passage_10 rfl cvX7_80 (ctX7_isCave e2) rfl rfl ⟨Nat.le_of_ble_eq_true rfl, Nat.le_of_ble_eq_true rfl⟩ ⟨Nat.le_refl _, Nat.le_refl _⟩ (Nat.le_of_ble_eq_true rfl) 24 hc24 rfl (fun r0 M9 hp => ?_)
    obtain ⟨rfl, rfl⟩ := hp
    show Go x _ _ g 13 [.ref (ad 24), .int l1, .int l2, un_] [.int r2] (HH g ad σ2 ++ ex) 0 0
    refine g_if_eq (q := 16) (r := 21) dX7_passage_13 (by decide) rfl (fun c13 => ?_) (fun c13 => ?_)
    · replace H := (if_pos c13).symm.trans H
      refine g_iconst (q := 22) (v := -1) dX7_passage_21 rfl (by decide) ?_
      exact g_iret hX dX7_passage_22 rfl rfl (Nat.le_refl _) (Nat.le_refl _) (piOk H)
    · replace H := (if_neg c13).symm.trans H
      refine g_iload_n (q := 17) (i := 1) dX7_passage_16 rfl rfl rfl ?_
      refine g_iload_n (q := 18) (i := 2) dX7_passage_17 rfl rfl rfl ?_
      refine g_icmp_ne (q := 21) (r := 23) dX7_passage_18 (by decide) rfl (fun c18 => ?_) (fun c18 => ?_)
      · replace H := (if_neg c18).symm.trans H
        refine g_iconst (q := 24) (v := 0) dX7_passage_23 rfl (by decide) ?_
        refine g_istore_n (q := 25) (L' := [.ref (ad 24), .int l1, .int l2, .int ((0 : Int32))]) (i := 3) dX7_passage_24 rfl rfl (Nat.le_of_ble_eq_true rfl) rfl ?_
        exact g_weak (L' := [.ref (ad 24), .int l1, .int l2, .int ((0 : Int32))]) ⟨Or.inr rfl, Or.inr rfl, Or.inr rfl, Or.inr rfl, trivial⟩ (wfX7_passage_25 (F := F) hX  F _ _ _ _ H)
      · replace H := (if_pos c18).symm.trans H
        refine g_iconst (q := 22) (v := -1) dX7_passage_21 rfl (by decide) ?_
        exact g_iret hX dX7_passage_22 rfl rfl (Nat.le_refl _) (Nat.le_refl _) (piOk H)
def fX7_isPassage (F : Nat) (σ : Sg) (l1 : Int32) : Rs := if l1 < (0 : Int32) then (some ((0 : Int32), σ)) else (if (18 : Int32) ≤ l1 then (some ((0 : Int32), σ)) else (if ib l1 18 then (if (σ.2.1 27 l1.toNatClampNeg) = (0 : Int32) then (some ((0 : Int32), σ)) else (some ((1 : Int32), σ))) else none))
set_option maxRecDepth 100000 in
set_option maxHeartbeats 4000000 in
theorem ctX7_isPassage {l : Launch} {g : GX} {ad : Nat → Nat} {ex : va_W} {r : Int32} {τ σ : Sg} {F : Nat} {l1 : Int32} (H : fX7_isPassage F σ l1 = some (r, τ)) : Ct l g yX7_isPassage tX7_isPassage 0 0 0 0 [.ref (ad 24), .int l1] (HH g ad σ ++ ex) (Pi_ r (HH g ad τ ++ ex)) := by
  refine Ct.of (L := [.ref (ad 24), .int l1]) (by decide +kernel) rfl rfl rfl (Nat.le_of_ble_eq_true rfl) rfl (fun x _ hX => ?_)
  unfold fX7_isPassage at H
  refine g_iload_n (q := 1) (i := 1) dX7_isPassage_0 rfl rfl rfl ?_
  refine g_if_lt (q := 4) (r := 23) dX7_isPassage_1 (by decide) rfl (fun c1 => ?_) (fun c1 => ?_)
  · replace H := (if_pos c1).symm.trans H
    refine g_iconst (q := 24) (v := 0) dX7_isPassage_23 rfl (by decide) ?_
    exact g_iret hX dX7_isPassage_24 rfl rfl (Nat.le_refl _) (Nat.le_refl _) (piOk H)
  · replace H := (if_neg c1).symm.trans H
    refine g_iload_n (q := 5) (i := 1) dX7_isPassage_4 rfl rfl rfl ?_
    refine g_bipush (q := 7) (v := 18) dX7_isPassage_5 rfl (by decide) ?_
    refine g_icmp_ge (q := 10) (r := 23) dX7_isPassage_7 (by decide) rfl (fun c7 => ?_) (fun c7 => ?_)
    · replace H := (if_pos c7).symm.trans H
      refine g_iconst (q := 24) (v := 0) dX7_isPassage_23 rfl (by decide) ?_
      exact g_iret hX dX7_isPassage_24 rfl rfl (Nat.le_refl _) (Nat.le_refl _) (piOk H)
    · replace H := (if_neg c7).symm.trans H
      refine g_aload_n (q := 11) (i := 0) dX7_isPassage_10 rfl rfl rfl ?_
      refine g_get (q := 14) dX7_isPassage_11 rfl foX7_16 24 hc24 rfl ?_
      refine g_iload_n (q := 15) (i := 1) dX7_isPassage_14 rfl rfl rfl ?_
      obtain ⟨b15, H⟩ := of_chk H
      refine g_zald (q := 16) dX7_isPassage_15 rfl 27 hc27 b15 ?_
      refine g_if_eq (q := 19) (r := 23) dX7_isPassage_16 (by decide) rfl (fun c16 => ?_) (fun c16 => ?_)
      · replace H := (if_pos c16).symm.trans H
        refine g_iconst (q := 24) (v := 0) dX7_isPassage_23 rfl (by decide) ?_
        exact g_iret hX dX7_isPassage_24 rfl rfl (Nat.le_refl _) (Nat.le_refl _) (piOk H)
      · replace H := (if_neg c16).symm.trans H
        refine g_iconst (q := 20) (v := 1) dX7_isPassage_19 rfl (by decide) ?_
        refine g_goto (q := 24) dX7_isPassage_20 (by decide) ?_
        exact g_iret hX dX7_isPassage_24 rfl rfl (Nat.le_refl _) (Nat.le_refl _) (piOk H)
def fX7_drop (F : Nat) (σ : Sg) (l1 : Int32) : Rs := (fX7_isPassage F σ l1).bind fun q1 => (fun (r1 : Int32) (σ1 : Sg) => if r1 = (0 : Int32) then (some ((0 : Int32), σ1)) else (if ib l1 18 then (ls_ (sa σ1 27 l1.toNatClampNeg (0 : Int32)) fun σ2 => (fX7_changes F σ2).bind fun q3 => (fun (r3 : Int32) (σ3 : Sg) => some ((1 : Int32), σ3)) q3.1 q3.2) else none)) q1.1 q1.2
set_option maxRecDepth 100000 in
set_option maxHeartbeats 4000000 in
theorem ctX7_drop {l : Launch} {g : GX} {ad : Nat → Nat} {ex : va_W} {r : Int32} {τ σ : Sg} {F : Nat} {l1 : Int32} (H : fX7_drop F σ l1 = some (r, τ)) : Ct l g yX7_drop tX7_drop 3 61 0 0 [.ref (ad 24), .int l1] (HH g ad σ ++ ex) (Pi_ r (HH g ad τ ++ ex)) := by
  refine Ct.of (L := [.ref (ad 24), .int l1]) (by decide +kernel) rfl rfl rfl (Nat.le_of_ble_eq_true rfl) rfl (fun x _ hX => ?_)
  unfold fX7_drop at H
  refine g_aload_n (q := 1) (i := 0) dX7_drop_0 rfl rfl rfl ?_
  refine g_iload_n (q := 2) (i := 1) dX7_drop_1 rfl rfl rfl ?_
  obtain ⟨r1, σ1, e1, H⟩ := of_bnd H
  refine g_callV (q := 5) (rest := []) dX7_drop_2 rfl cvX7_84 (ctX7_isPassage e1) rfl rfl ⟨Nat.le_of_ble_eq_true rfl, Nat.le_of_ble_eq_true rfl⟩ ⟨Nat.le_refl _, Nat.le_refl _⟩ (Nat.le_of_ble_eq_true rfl) 24 hc24 rfl (fun r0 M9 hp => ?_)
  obtain ⟨rfl, rfl⟩ := hp
  show Go x _ _ g 5 [.ref (ad 24), .int l1] [.int r1] (HH g ad σ1 ++ ex) 0 0
  refine g_if_ne (q := 8) (r := 10) dX7_drop_5 (by decide) rfl (fun c5 => ?_) (fun c5 => ?_)
  · replace H := (if_neg c5).symm.trans H
    refine g_aload_n (q := 11) (i := 0) dX7_drop_10 rfl rfl rfl ?_
    refine g_get (q := 14) dX7_drop_11 rfl foX7_16 24 hc24 rfl ?_
    refine g_iload_n (q := 15) (i := 1) dX7_drop_14 rfl rfl rfl ?_
    refine g_iconst (q := 16) (v := 0) dX7_drop_15 rfl (by decide) ?_
    obtain ⟨b16, H⟩ := of_chk H
    obtain ⟨σ2, n2, H⟩ := of_ls H
    refine g_zast (q := 17) dX7_drop_16 rfl 27 hc27 b16 rfl (ha27e n2) ?_
    refine g_aload_n (q := 18) (i := 0) dX7_drop_17 rfl rfl rfl ?_
    obtain ⟨r3, σ3, e3, H⟩ := of_bnd H
    refine g_callV (q := 21) (rest := []) dX7_drop_18 rfl cvX7_77 (ctX7_changes e3) rfl rfl ⟨Nat.le_of_ble_eq_true rfl, Nat.le_of_ble_eq_true rfl⟩ ⟨Nat.le_refl _, Nat.le_refl _⟩ (Nat.le_of_ble_eq_true rfl) 24 hc24 rfl (fun r0 M9 hp => ?_)
    obtain ⟨rfl, rfl⟩ := hp
    show Go x _ _ g 21 [.ref (ad 24), .int l1] [] (HH g ad σ3 ++ ex) 0 0
    refine g_iconst (q := 22) (v := 1) dX7_drop_21 rfl (by decide) ?_
    exact g_iret hX dX7_drop_22 rfl rfl (Nat.le_refl _) (Nat.le_refl _) (piOk H)
  · replace H := (if_pos c5).symm.trans H
    refine g_iconst (q := 9) (v := 0) dX7_drop_8 rfl (by decide) ?_
    exact g_iret hX dX7_drop_9 rfl rfl (Nat.le_refl _) (Nat.le_refl _) (piOk H)
def fX7_mouth (F : Nat) (σ : Sg) (l1 : Int32) : Rs := (fX7_isCave F σ l1).bind fun q1 => (fun (r1 : Int32) (σ1 : Sg) => if r1 = (0 : Int32) then (some ((0 : Int32), σ1)) else (ls_ (sv σ1 22 l1) fun σ2 => some ((1 : Int32), σ2))) q1.1 q1.2
set_option maxRecDepth 100000 in
set_option maxHeartbeats 4000000 in
theorem ctX7_mouth {l : Launch} {g : GX} {ad : Nat → Nat} {ex : va_W} {r : Int32} {τ σ : Sg} {F : Nat} {l1 : Int32} (H : fX7_mouth F σ l1 = some (r, τ)) : Ct l g yX7_mouth tX7_mouth 1 21 0 0 [.ref (ad 24), .int l1] (HH g ad σ ++ ex) (Pi_ r (HH g ad τ ++ ex)) := by
  refine Ct.of (L := [.ref (ad 24), .int l1]) (by decide +kernel) rfl rfl rfl (Nat.le_of_ble_eq_true rfl) rfl (fun x _ hX => ?_)
  unfold fX7_mouth at H
  refine g_aload_n (q := 1) (i := 0) dX7_mouth_0 rfl rfl rfl ?_
  refine g_iload_n (q := 2) (i := 1) dX7_mouth_1 rfl rfl rfl ?_
  obtain ⟨r1, σ1, e1, H⟩ := of_bnd H
  refine g_callV (q := 5) (rest := []) dX7_mouth_2 rfl cvX7_80 (ctX7_isCave e1) rfl rfl ⟨Nat.le_of_ble_eq_true rfl, Nat.le_of_ble_eq_true rfl⟩ ⟨Nat.le_refl _, Nat.le_refl _⟩ (Nat.le_of_ble_eq_true rfl) 24 hc24 rfl (fun r0 M9 hp => ?_)
  obtain ⟨rfl, rfl⟩ := hp
  show Go x _ _ g 5 [.ref (ad 24), .int l1] [.int r1] (HH g ad σ1 ++ ex) 0 0
  refine g_if_ne (q := 8) (r := 10) dX7_mouth_5 (by decide) rfl (fun c5 => ?_) (fun c5 => ?_)
  · replace H := (if_neg c5).symm.trans H
    refine g_aload_n (q := 11) (i := 0) dX7_mouth_10 rfl rfl rfl ?_
    refine g_iload_n (q := 12) (i := 1) dX7_mouth_11 rfl rfl rfl ?_
    obtain ⟨σ2, n2, H⟩ := of_ls H
    refine g_put (q := 15) dX7_mouth_12 rfl (fpX7_74 _) 24 hc24 rfl rfl (Nat.le_of_ble_eq_true rfl) (hs22e n2) ?_
    refine g_iconst (q := 16) (v := 1) dX7_mouth_15 rfl (by decide) ?_
    exact g_iret hX dX7_mouth_16 rfl rfl (Nat.le_refl _) (Nat.le_refl _) (piOk H)
  · replace H := (if_pos c5).symm.trans H
    refine g_iconst (q := 9) (v := 0) dX7_mouth_8 rfl (by decide) ?_
    exact g_iret hX dX7_mouth_9 rfl rfl (Nat.le_refl _) (Nat.le_refl _) (piOk H)
