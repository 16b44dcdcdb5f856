def bX1_lowestFree_2 (F : Nat) (k2 : Sg → Int32 → Rs) (σ : Sg) (l1 : Int32) : Rs := if (18 : Int32) ≤ l1 then (some ((-1 : Int32), σ)) else (if (((σ.1 1) >>> (l1 &&& 31)) &&& (1 : Int32)) = (0 : Int32) then (some (l1, σ)) else (k2 σ (l1 + 1)))
set_option maxRecDepth 100000 in
set_option maxHeartbeats 4000000 in
theorem wbX1_lowestFree_2 {x : FX} {g : GX} {ad : Nat → Nat} {ex M0 : va_W} {r : Int32} {τ : Sg} {F : Nat} (hX : RX x g M0 (Pi_ r (HH g ad τ ++ ex)) 0 0) {k2 : Sg → Int32 → Rs} (h2 : ∀ (σ : Sg) (l1 : Int32), k2 σ l1 = some (r, τ) → Go x { frames := 0, cells := 0, slots := 0, locals := 0 } tX1_lowestFree g 2 [.ref (ad 1), .int l1] [] (HH g ad σ ++ ex) 0 0) (σ : Sg) (l1 : Int32) (H : bX1_lowestFree_2 F k2 σ l1 = some (r, τ)) : Go x { frames := 0, cells := 0, slots := 0, locals := 0 } tX1_lowestFree g 2 [.ref (ad 1), .int l1] [] (HH g ad σ ++ ex) 0 0 := by
  unfold bX1_lowestFree_2 at H
  refine g_iload_n (q := 3) (i := 1) dX1_lowestFree_2 rfl rfl rfl ?_
  refine g_bipush (q := 5) (v := 18) dX1_lowestFree_3 rfl (by decide) ?_
  refine g_icmp_ge (q := 8) (r := 27) dX1_lowestFree_5 (by decide) rfl (fun c5 => ?_) (fun c5 => ?_)
  · replace H := (if_pos c5).symm.trans H
    refine g_iconst (q := 28) (v := -1) dX1_lowestFree_27 rfl (by decide) ?_
    exact g_iret hX dX1_lowestFree_28 rfl rfl (Nat.le_refl _) (Nat.le_refl _) (piOk H)
  · replace H := (if_neg c5).symm.trans H
    refine g_aload_n (q := 9) (i := 0) dX1_lowestFree_8 rfl rfl rfl ?_
    refine g_get (q := 12) dX1_lowestFree_9 rfl foX1_28 1 hc1 rfl ?_
    refine g_iload_n (q := 13) (i := 1) dX1_lowestFree_12 rfl rfl rfl ?_
    refine g_ishr (q := 14) dX1_lowestFree_13 rfl ?_
    refine g_iconst (q := 15) (v := 1) dX1_lowestFree_14 rfl (by decide) ?_
    refine g_iand (q := 16) dX1_lowestFree_15 rfl ?_
    refine g_if_ne (q := 19) (r := 21) dX1_lowestFree_16 (by decide) rfl (fun c16 => ?_) (fun c16 => ?_)
    · replace H := (if_neg c16).symm.trans H
      refine g_iinc (q := 24) (b := l1 + 1) (L' := [.ref (ad 1), .int (l1 + 1)]) dX1_lowestFree_21 rfl rfl rfl (Nat.le_of_ble_eq_true rfl) rfl ?_
      refine g_goto (q := 2) dX1_lowestFree_24 (by decide) ?_
      exact g_weak (L' := [.ref (ad 1), .int (l1 + 1)]) ⟨Or.inr rfl, Or.inr rfl, trivial⟩ (h2 _ _ H)
    · replace H := (if_pos c16).symm.trans H
      refine g_iload_n (q := 20) (i := 1) dX1_lowestFree_19 rfl rfl rfl ?_
      exact g_iret hX dX1_lowestFree_20 rfl rfl (Nat.le_refl _) (Nat.le_refl _) (piOk H)
def fX1_lowestFree_2 (F : Nat)  : Nat → Sg → Int32 → Rs
  | 0 => fun _ _ => none
  | n + 1 => fun σ l1 => bX1_lowestFree_2 F  (fX1_lowestFree_2 F  n) σ l1
theorem wfX1_lowestFree_2 {x : FX} {g : GX} {ad : Nat → Nat} {ex M0 : va_W} {r : Int32} {τ : Sg} {F : Nat} (hX : RX x g M0 (Pi_ r (HH g ad τ ++ ex)) 0 0)   : ∀ (n : Nat) (σ : Sg) (l1 : Int32), fX1_lowestFree_2 F  n σ l1 = some (r, τ) → Go x { frames := 0, cells := 0, slots := 0, locals := 0 } tX1_lowestFree g 2 [.ref (ad 1), .int l1] [] (HH g ad σ ++ ex) 0 0
  | 0, _, _, H => nomatch (show (none : Rs) = some _ from H)
  | n + 1, σ, l1, H => wbX1_lowestFree_2 (F := F) hX  (fun σ2 z1 H2 => wfX1_lowestFree_2 (F := F) hX  n σ2 z1 H2) σ l1 H
def fX1_lowestFree (F : Nat) (σ : Sg)  : Rs := fX1_lowestFree_2 F F σ ((0 : Int32))
set_option maxRecDepth 100000 in
set_option maxHeartbeats 4000000 in
theorem ctX1_lowestFree {l : Launch} {g : GX} {ad : Nat → Nat} {ex : va_W} {r : Int32} {τ σ : Sg} {F : Nat}  (H : fX1_lowestFree F σ  = some (r, τ)) : Ct l g yX1_lowestFree tX1_lowestFree 0 0 0 0 [.ref (ad 1)] (HH g ad σ ++ ex) (Pi_ r (HH g ad τ ++ ex)) := by
  refine Ct.of (L := [.ref (ad 1), un_]) (by decide +kernel) rfl rfl rfl (Nat.le_of_ble_eq_true rfl) rfl (fun x _ hX => ?_)
  unfold fX1_lowestFree at H
  refine g_iconst (q := 1) (v := 0) dX1_lowestFree_0 rfl (by decide) ?_
  refine g_istore_n (q := 2) (L' := [.ref (ad 1), .int ((0 : Int32))]) (i := 1) dX1_lowestFree_1 rfl rfl (Nat.le_of_ble_eq_true rfl) rfl ?_
  exact g_weak (L' := [.ref (ad 1), .int ((0 : Int32))]) ⟨Or.inr rfl, Or.inr rfl, trivial⟩ (wfX1_lowestFree_2 (F := F) hX  F _ _ H)
def fX1_hasCave (F : Nat) (σ : Sg) (l1 : Int32) : Rs := if l1 < (0 : Int32) then (some ((0 : Int32), σ)) else (if (σ.1 0) ≤ l1 then (some ((0 : Int32), σ)) else (some ((1 : Int32), σ)))
set_option maxRecDepth 100000 in
set_option maxHeartbeats 4000000 in
theorem ctX1_hasCave {l : Launch} {g : GX} {ad : Nat → Nat} {ex : va_W} {r : Int32} {τ σ : Sg} {F : Nat} {l1 : Int32} (H : fX1_hasCave F σ l1 = some (r, τ)) : Ct l g yX1_hasCave tX1_hasCave 0 0 0 0 [.ref (ad 1), .int l1] (HH g ad σ ++ ex) (Pi_ r (HH g ad τ ++ ex)) := by
  refine Ct.of (L := [.ref (ad 1), .int l1]) (by decide +kernel) rfl rfl rfl (Nat.le_of_ble_eq_true rfl) rfl (fun x _ hX => ?_)
  unfold fX1_hasCave at H
  refine g_iload_n (q := 1) (i := 1) dX1_hasCave_0 rfl rfl rfl ?_
  refine g_if_lt (q := 4) (r := 16) dX1_hasCave_1 (by decide) rfl (fun c1 => ?_) (fun c1 => ?_)
  · replace H := (if_pos c1).symm.trans H
    refine g_iconst (q := 17) (v := 0) dX1_hasCave_16 rfl (by decide) ?_
    exact g_iret hX dX1_hasCave_17 rfl rfl (Nat.le_refl _) (Nat.le_refl _) (piOk H)
  · replace H := (if_neg c1).symm.trans H
    refine g_iload_n (q := 5) (i := 1) dX1_hasCave_4 rfl rfl rfl ?_
    refine g_aload_n (q := 6) (i := 0) dX1_hasCave_5 rfl rfl rfl ?_
    refine g_get (q := 9) dX1_hasCave_6 rfl foX1_24 1 hc1 rfl ?_
    refine g_icmp_ge (q := 12) (r := 16) dX1_hasCave_9 (by decide) rfl (fun c9 => ?_) (fun c9 => ?_)
    · replace H := (if_pos c9).symm.trans H
      refine g_iconst (q := 17) (v := 0) dX1_hasCave_16 rfl (by decide) ?_
      exact g_iret hX dX1_hasCave_17 rfl rfl (Nat.le_refl _) (Nat.le_refl _) (piOk H)
    · replace H := (if_neg c9).symm.trans H
      refine g_iconst (q := 13) (v := 1) dX1_hasCave_12 rfl (by decide) ?_
      refine g_goto (q := 17) dX1_hasCave_13 (by decide) ?_
      exact g_iret hX dX1_hasCave_17 rfl rfl (Nat.le_refl _) (Nat.le_refl _) (piOk H)
def fX1_hasPassage (F : Nat) (σ : Sg) (l1 : Int32) : Rs := if l1 < (0 : Int32) then (some ((0 : Int32), σ)) else (if (18 : Int32) ≤ l1 then (some ((0 : Int32), σ)) else (if (((σ.1 1) >>> (l1 &&& 31)) &&& (1 : Int32)) = (0 : Int32) then (some ((0 : Int32), σ)) else (some ((1 : Int32), σ))))
set_option maxRecDepth 100000 in
set_option maxHeartbeats 4000000 in
theorem ctX1_hasPassage {l : Launch} {g : GX} {ad : Nat → Nat} {ex : va_W} {r : Int32} {τ σ : Sg} {F : Nat} {l1 : Int32} (H : fX1_hasPassage F σ l1 = some (r, τ)) : Ct l g yX1_hasPassage tX1_hasPassage 0 0 0 0 [.ref (ad 1), .int l1] (HH g ad σ ++ ex) (Pi_ r (HH g ad τ ++ ex)) := by
  refine Ct.of (L := [.ref (ad 1), .int l1]) (by decide +kernel) rfl rfl rfl (Nat.le_of_ble_eq_true rfl) rfl (fun x _ hX => ?_)
  unfold fX1_hasPassage at H
  refine g_iload_n (q := 1) (i := 1) dX1_hasPassage_0 rfl rfl rfl ?_
  refine g_if_lt (q := 4) (r := 25) dX1_hasPassage_1 (by decide) rfl (fun c1 => ?_) (fun c1 => ?_)
  · replace H := (if_pos c1).symm.trans H
    refine g_iconst (q := 26) (v := 0) dX1_hasPassage_25 rfl (by decide) ?_
    exact g_iret hX dX1_hasPassage_26 rfl rfl (Nat.le_refl _) (Nat.le_refl _) (piOk H)
  · replace H := (if_neg c1).symm.trans H
    refine g_iload_n (q := 5) (i := 1) dX1_hasPassage_4 rfl rfl rfl ?_
    refine g_bipush (q := 7) (v := 18) dX1_hasPassage_5 rfl (by decide) ?_
    refine g_icmp_ge (q := 10) (r := 25) dX1_hasPassage_7 (by decide) rfl (fun c7 => ?_) (fun c7 => ?_)
    · replace H := (if_pos c7).symm.trans H
      refine g_iconst (q := 26) (v := 0) dX1_hasPassage_25 rfl (by decide) ?_
      exact g_iret hX dX1_hasPassage_26 rfl rfl (Nat.le_refl _) (Nat.le_refl _) (piOk H)
    · replace H := (if_neg c7).symm.trans H
      refine g_aload_n (q := 11) (i := 0) dX1_hasPassage_10 rfl rfl rfl ?_
      refine g_get (q := 14) dX1_hasPassage_11 rfl foX1_28 1 hc1 rfl ?_
      refine g_iload_n (q := 15) (i := 1) dX1_hasPassage_14 rfl rfl rfl ?_
      refine g_ishr (q := 16) dX1_hasPassage_15 rfl ?_
      refine g_iconst (q := 17) (v := 1) dX1_hasPassage_16 rfl (by decide) ?_
      refine g_iand (q := 18) dX1_hasPassage_17 rfl ?_
      refine g_if_eq (q := 21) (r := 25) dX1_hasPassage_18 (by decide) rfl (fun c18 => ?_) (fun c18 => ?_)
      · replace H := (if_pos c18).symm.trans H
        refine g_iconst (q := 26) (v := 0) dX1_hasPassage_25 rfl (by decide) ?_
        exact g_iret hX dX1_hasPassage_26 rfl rfl (Nat.le_refl _) (Nat.le_refl _) (piOk H)
      · replace H := (if_neg c18).symm.trans H
        refine g_iconst (q := 22) (v := 1) dX1_hasPassage_21 rfl (by decide) ?_
        refine g_goto (q := 26) dX1_hasPassage_22 (by decide) ?_
        exact g_iret hX dX1_hasPassage_26 rfl rfl (Nat.le_refl _) (Nat.le_refl _) (piOk H)
def fX1_leadsFrom (F : Nat) (σ : Sg) (l1 : Int32) (l2 : Int32) : Rs := (fX1_hasPassage F σ l1).bind fun q1 => (fun (r1 : Int32) (σ1 : Sg) => if r1 = (0 : Int32) then (some ((0 : Int32), σ1)) else (if ib l1 18 then (if (σ1.2.1 2 l1.toNatClampNeg) = l2 then (some ((1 : Int32), σ1)) else (if ib l1 18 then (if (σ1.2.1 3 l1.toNatClampNeg) = l2 then (some ((1 : Int32), σ1)) else (some ((0 : Int32), σ1))) else none)) else none)) q1.1 q1.2
set_option maxRecDepth 100000 in
set_option maxHeartbeats 4000000 in
theorem ctX1_leadsFrom {l : Launch} {g : GX} {ad : Nat → Nat} {ex : va_W} {r : Int32} {τ σ : Sg} {F : Nat} {l1 : Int32} {l2 : Int32} (H : fX1_leadsFrom F σ l1 l2 = some (r, τ)) : Ct l g yX1_leadsFrom tX1_leadsFrom 1 21 0 0 [.ref (ad 1), .int l1, .int l2] (HH g ad σ ++ ex) (Pi_ r (HH g ad τ ++ ex)) := by
  refine Ct.of (L := [.ref (ad 1), .int l1, .int l2]) (by decide +kernel) rfl rfl rfl (Nat.le_of_ble_eq_true rfl) rfl (fun x _ hX => ?_)
  unfold fX1_leadsFrom at H
  refine g_aload_n (q := 1) (i := 0) dX1_leadsFrom_0 rfl rfl rfl ?_
  refine g_iload_n (q := 2) (i := 1) dX1_leadsFrom_1 rfl rfl rfl ?_
  obtain ⟨r1, σ1, e1, H⟩ := of_bnd H
  refine g_callV (q := 5) (rest := []) dX1_leadsFrom_2 rfl cvX1_37 (ctX1_hasPassage e1) rfl rfl ⟨Nat.le_of_ble_eq_true rfl, Nat.le_of_ble_eq_true rfl⟩ ⟨Nat.le_refl _, Nat.le_refl _⟩ (Nat.le_of_ble_eq_true rfl) 1 hc1 rfl (fun r0 M9 hp => ?_)
  obtain ⟨rfl, rfl⟩ := hp
  show Go x _ _ g 5 [.ref (ad 1), .int l1, .int l2] [.int r1] (HH g ad σ1 ++ ex) 0 0
  refine g_if_eq (q := 8) (r := 32) dX1_leadsFrom_5 (by decide) rfl (fun c5 => ?_) (fun c5 => ?_)
  · replace H := (if_pos c5).symm.trans H
    refine g_iconst (q := 33) (v := 0) dX1_leadsFrom_32 rfl (by decide) ?_
    exact g_iret hX dX1_leadsFrom_33 rfl rfl (Nat.le_refl _) (Nat.le_refl _) (piOk H)
  · replace H := (if_neg c5).symm.trans H
    refine g_aload_n (q := 9) (i := 0) dX1_leadsFrom_8 rfl rfl rfl ?_
    refine g_get (q := 12) dX1_leadsFrom_9 rfl foX1_9 1 hc1 rfl ?_
    refine g_iload_n (q := 13) (i := 1) dX1_leadsFrom_12 rfl rfl rfl ?_
    obtain ⟨b13, H⟩ := of_chk H
    refine g_iald (q := 14) dX1_leadsFrom_13 rfl 2 hc2 b13 ?_
    refine g_iload_n (q := 15) (i := 2) dX1_leadsFrom_14 rfl rfl rfl ?_
    refine g_icmp_eq (q := 18) (r := 28) dX1_leadsFrom_15 (by decide) rfl (fun c15 => ?_) (fun c15 => ?_)
    · replace H := (if_pos c15).symm.trans H
      refine g_iconst (q := 29) (v := 1) dX1_leadsFrom_28 rfl (by decide) ?_
      refine g_goto (q := 33) dX1_leadsFrom_29 (by decide) ?_
      exact g_iret hX dX1_leadsFrom_33 rfl rfl (Nat.le_refl _) (Nat.le_refl _) (piOk H)
    · replace H := (if_neg c15).symm.trans H
      refine g_aload_n (q := 19) (i := 0) dX1_leadsFrom_18 rfl rfl rfl ?_
      refine g_get (q := 22) dX1_leadsFrom_19 rfl foX1_15 1 hc1 rfl ?_
      refine g_iload_n (q := 23) (i := 1) dX1_leadsFrom_22 rfl rfl rfl ?_
      obtain ⟨b23, H⟩ := of_chk H
      refine g_iald (q := 24) dX1_leadsFrom_23 rfl 3 hc3 b23 ?_
      refine g_iload_n (q := 25) (i := 2) dX1_leadsFrom_24 rfl rfl rfl ?_
      refine g_icmp_ne (q := 28) (r := 32) dX1_leadsFrom_25 (by decide) rfl (fun c25 => ?_) (fun c25 => ?_)
      · replace H := (if_neg c25).symm.trans H
        refine g_iconst (q := 33) (v := 0) dX1_leadsFrom_32 rfl (by decide) ?_
        exact g_iret hX dX1_leadsFrom_33 rfl rfl (Nat.le_refl _) (Nat.le_refl _) (piOk H)
      · replace H := (if_pos c25).symm.trans H
        refine g_iconst (q := 29) (v := 1) dX1_leadsFrom_28 rfl (by decide) ?_
        refine g_goto (q := 33) dX1_leadsFrom_29 (by decide) ?_
        exact g_iret hX dX1_leadsFrom_33 rfl rfl (Nat.le_refl _) (Nat.le_refl _) (piOk H)
def bX1_passagesAt_4 (F : Nat) (k4 : Sg → Int32 → Int32 → Int32 → Rs) (σ : Sg) (l1 : Int32) (l2 : Int32) (l3 : Int32) : Rs := if (σ.1 0) ≤ l3 then (some (l2, σ)) else (if ((l1 >>> (l3 &&& 31)) &&& (1 : Int32)) = (0 : Int32) then (k4 σ (l1) (l2) (l3 + 1)) else (if ib l3 12 then (k4 σ (l1) (l2 ||| (σ.2.1 4 l3.toNatClampNeg)) (l3 + 1)) else none))
set_option maxRecDepth 100000 in
set_option maxHeartbeats 4000000 in
theorem wbX1_passagesAt_4 {x : FX} {g : GX} {ad : Nat → Nat} {ex M0 : va_W} {r : Int32} {τ : Sg} {F : Nat} (hX : RX x g M0 (Pi_ r (HH g ad τ ++ ex)) 0 0) {k4 : Sg → Int32 → Int32 → Int32 → Rs} (h4 : ∀ (σ : Sg) (l1 : Int32) (l2 : Int32) (l3 : Int32), k4 σ l1 l2 l3 = some (r, τ) → Go x { frames := 0, cells := 0, slots := 0, locals := 0 } tX1_passagesAt g 4 [.ref (ad 1), .int l1, .int l2, .int l3] [] (HH g ad σ ++ ex) 0 0) (σ : Sg) (l1 : Int32) (l2 : Int32) (l3 : Int32) (H : bX1_passagesAt_4 F k4 σ l1 l2 l3 = some (r, τ)) : Go x { frames := 0, cells := 0, slots := 0, locals := 0 } tX1_passagesAt g 4 [.ref (ad 1), .int l1, .int l2, .int l3] [] (HH g ad σ ++ ex) 0 0 := by
  unfold bX1_passagesAt_4 at H
  refine g_iload_n (q := 5) (i := 3) dX1_passagesAt_4 rfl rfl rfl ?_
  refine g_aload_n (q := 6) (i := 0) dX1_passagesAt_5 rfl rfl rfl ?_
  refine g_get (q := 9) dX1_passagesAt_6 rfl foX1_24 1 hc1 rfl ?_
  refine g_icmp_ge (q := 12) (r := 35) dX1_passagesAt_9 (by decide) rfl (fun c9 => ?_) (fun c9 => ?_)
  · replace H := (if_pos c9).symm.trans H
    refine g_iload_n (q := 36) (i := 2) dX1_passagesAt_35 rfl rfl rfl ?_
    exact g_iret hX dX1_passagesAt_36 rfl rfl (Nat.le_refl _) (Nat.le_refl _) (piOk H)
  · replace H := (if_neg c9).symm.trans H
    refine g_iload_n (q := 13) (i := 1) dX1_passagesAt_12 rfl rfl rfl ?_
    refine g_iload_n (q := 14) (i := 3) dX1_passagesAt_13 rfl rfl rfl ?_
    refine g_ishr (q := 15) dX1_passagesAt_14 rfl ?_
    refine g_iconst (q := 16) (v := 1) dX1_passagesAt_15 rfl (by decide) ?_
    refine g_iand (q := 17) dX1_passagesAt_16 rfl ?_
    refine g_if_eq (q := 20) (r := 29) dX1_passagesAt_17 (by decide) rfl (fun c17 => ?_) (fun c17 => ?_)
    · replace H := (if_pos c17).symm.trans H
      refine g_iinc (q := 32) (b := l3 + 1) (L' := [.ref (ad 1), .int l1, .int l2, .int (l3 + 1)]) dX1_passagesAt_29 rfl rfl rfl (Nat.le_of_ble_eq_true rfl) rfl ?_
      refine g_goto (q := 4) dX1_passagesAt_32 (by decide) ?_
      exact g_weak (L' := [.ref (ad 1), .int l1, .int l2, .int (l3 + 1)]) ⟨Or.inr rfl, Or.inr rfl, Or.inr rfl, Or.inr rfl, trivial⟩ (h4 _ _ _ _ H)
    · replace H := (if_neg c17).symm.trans H
      refine g_iload_n (q := 21) (i := 2) dX1_passagesAt_20 rfl rfl rfl ?_
      refine g_aload_n (q := 22) (i := 0) dX1_passagesAt_21 rfl rfl rfl ?_
      refine g_get (q := 25) dX1_passagesAt_22 rfl foX1_18 1 hc1 rfl ?_
      refine g_iload_n (q := 26) (i := 3) dX1_passagesAt_25 rfl rfl rfl ?_
      obtain ⟨b26, H⟩ := of_chk H
      refine g_iald (q := 27) dX1_passagesAt_26 rfl 4 hc4 b26 ?_
      refine g_ior (q := 28) dX1_passagesAt_27 rfl ?_
      refine g_istore_n (q := 29) (L' := [.ref (ad 1), .int l1, .int (l2 ||| (σ.2.1 4 l3.toNatClampNeg)), .int l3]) (i := 2) dX1_passagesAt_28 rfl rfl (Nat.le_of_ble_eq_true rfl) rfl ?_
      refine g_iinc (q := 32) (b := l3 + 1) (L' := [.ref (ad 1), .int l1, .int (l2 ||| (σ.2.1 4 l3.toNatClampNeg)), .int (l3 + 1)]) dX1_passagesAt_29 rfl rfl rfl (Nat.le_of_ble_eq_true rfl) rfl ?_
      refine g_goto (q := 4) dX1_passagesAt_32 (by decide) ?_
      exact g_weak (L' := [.ref (ad 1), .int l1, .int (l2 ||| (σ.2.1 4 l3.toNatClampNeg)), .int (l3 + 1)]) ⟨Or.inr rfl, Or.inr rfl, Or.inr rfl, Or.inr rfl, trivial⟩ (h4 _ _ _ _ H)
def fX1_passagesAt_4 (F : Nat)  : Nat → Sg → Int32 → Int32 → Int32 → Rs
  | 0 => fun _ _ _ _ => none
  | n + 1 => fun σ l1 l2 l3 => bX1_passagesAt_4 F  (fX1_passagesAt_4 F  n) σ l1 l2 l3
theorem wfX1_passagesAt_4 {x : FX} {g : GX} {ad : Nat → Nat} {ex M0 : va_W} {r : Int32} {τ : Sg} {F : Nat} (hX : RX x g M0 (Pi_ r (HH g ad τ ++ ex)) 0 0)   : ∀ (n : Nat) (σ : Sg) (l1 : Int32) (l2 : Int32) (l3 : Int32), fX1_passagesAt_4 F  n σ l1 l2 l3 = some (r, τ) → Go x { frames := 0, cells := 0, slots := 0, locals := 0 } tX1_passagesAt g 4 [.ref (ad 1), .int l1, .int l2, .int l3] [] (HH g ad σ ++ ex) 0 0
  | 0, _, _, _, _, H => nomatch (show (none : Rs) = some _ from H)
  | n + 1, σ, l1, l2, l3, H => wbX1_passagesAt_4 (F := F) hX  (fun σ2 z1 z2 z3 H2 => wfX1_passagesAt_4 (F := F) hX  n σ2 z1 z2 z3 H2) σ l1 l2 l3 H
def fX1_passagesAt (F : Nat) (σ : Sg) (l1 : Int32) : Rs := fX1_passagesAt_4 F F σ (l1) ((0 : Int32)) ((0 : Int32))
set_option maxRecDepth 100000 in
set_option maxHeartbeats 4000000 in
theorem ctX1_passagesAt {l : Launch} {g : GX} {ad : Nat → Nat} {ex : va_W} {r : Int32} {τ σ : Sg} {F : Nat} {l1 : Int32} (H : fX1_passagesAt F σ l1 = some (r, τ)) : Ct l g yX1_passagesAt tX1_passagesAt 0 0 0 0 [.ref (ad 1), .int l1] (HH g ad σ ++ ex) (Pi_ r (HH g ad τ ++ ex)) := by
  refine Ct.of (L := [.ref (ad 1), .int l1, un_, un_]) (by decide +kernel) rfl rfl rfl (Nat.le_of_ble_eq_true rfl) rfl (fun x _ hX => ?_)
  unfold fX1_passagesAt at H
  refine g_iconst (q := 1) (v := 0) dX1_passagesAt_0 rfl (by decide) ?_
  refine g_istore_n (q := 2) (L' := [.ref (ad 1), .int l1, .int ((0 : Int32)), un_]) (i := 2) dX1_passagesAt_1 rfl rfl (Nat.le_of_ble_eq_true rfl) rfl ?_
  refine g_iconst (q := 3) (v := 0) dX1_passagesAt_2 rfl (by decide) ?_
  refine g_istore_n (q := 4) (L' := [.ref (ad 1), .int l1, .int ((0 : Int32)), .int ((0 : Int32))]) (i := 3) dX1_passagesAt_3 rfl rfl (Nat.le_of_ble_eq_true rfl) rfl ?_
  exact g_weak (L' := [.ref (ad 1), .int l1, .int ((0 : Int32)), .int ((0 : Int32))]) ⟨Or.inr rfl, Or.inr rfl, Or.inr rfl, Or.inr rfl, trivial⟩ (wfX1_passagesAt_4 (F := F) hX  F _ _ _ _ H)
def bX1_spread_28 (F : Nat) (k8 : Sg → Int32 → Int32 → Int32 → Int32 → Rs) (k28 : Sg → Int32 → Int32 → Int32 → Int32 → Int32 → Int32 → Rs) (σ : Sg) (l2 : Int32) (l3 : Int32) (l4 : Int32) (l5 : Int32) (l6 : Int32) (l7 : Int32) : Rs := if (σ.1 0) ≤ l7 then (k8 σ (l2) (l3 ||| ((l6 &&& (l2 ^^^ (-1 : Int32))) &&& (l3 ^^^ (-1 : Int32)))) ((l6 &&& (l2 ^^^ (-1 : Int32))) &&& (l3 ^^^ (-1 : Int32))) (l5 + 1)) else (if ((l4 >>> (l7 &&& 31)) &&& (1 : Int32)) = (0 : Int32) then (k28 σ (l2) (l3) (l4) (l5) (l6) (l7 + 1)) else (if ib l7 12 then (k28 σ (l2) (l3) (l4) (l5) (l6 ||| (σ.2.1 5 l7.toNatClampNeg)) (l7 + 1)) else none))
set_option maxRecDepth 100000 in
set_option maxHeartbeats 4000000 in
theorem wbX1_spread_28 {x : FX} {g : GX} {ad : Nat → Nat} {ex M0 : va_W} {r : Int32} {τ : Sg} {F : Nat} (hX : RX x g M0 (Pi_ r (HH g ad τ ++ ex)) 0 0) {k8 : Sg → Int32 → Int32 → Int32 → Int32 → Rs} {k28 : Sg → Int32 → Int32 → Int32 → Int32 → Int32 → Int32 → Rs} (h8 : ∀ (σ : Sg) (l2 : Int32) (l3 : Int32) (l4 : Int32) (l5 : Int32), k8 σ l2 l3 l4 l5 = some (r, τ) → Go x { frames := 0, cells := 0, slots := 0, locals := 0 } tX1_spread g 8 [.ref (ad 1), un_, .int l2, .int l3, .int l4, .int l5, un_, un_] [] (HH g ad σ ++ ex) 0 0) (h28 : ∀ (σ : Sg) (l2 : Int32) (l3 : Int32) (l4 : Int32) (l5 : Int32) (l6 : Int32) (l7 : Int32), k28 σ l2 l3 l4 l5 l6 l7 = some (r, τ) → Go x { frames := 0, cells := 0, slots := 0, locals := 0 } tX1_spread g 28 [.ref (ad 1), un_, .int l2, .int l3, .int l4, .int l5, .int l6, .int l7] [] (HH g ad σ ++ ex) 0 0) (σ : Sg) (l2 : Int32) (l3 : Int32) (l4 : Int32) (l5 : Int32) (l6 : Int32) (l7 : Int32) (H : bX1_spread_28 F k8 k28 σ l2 l3 l4 l5 l6 l7 = some (r, τ)) : Go x { frames := 0, cells := 0, slots := 0, locals := 0 } tX1_spread g 28 [.ref (ad 1), un_, .int l2, .int l3, .int l4, .int l5, .int l6, .int l7] [] (HH g ad σ ++ ex) 0 0 := by
  unfold bX1_spread_28 at H
  refine g_iload (q := 30) dX1_spread_28 rfl rfl ?_
  refine g_aload_n (q := 31) (i := 0) dX1_spread_30 rfl rfl rfl ?_
  refine g_get (q := 34) dX1_spread_31 rfl foX1_24 1 hc1 rfl ?_
  refine g_icmp_ge (q := 37) (r := 65) dX1_spread_34 (by decide) rfl (fun c34 => ?_) (fun c34 => ?_)
  · replace H := (if_pos c34).symm.trans H
    refine g_iload (q := 67) dX1_spread_65 rfl rfl ?_
    refine g_iload_n (q := 68) (i := 2) dX1_spread_67 rfl rfl rfl ?_
    refine g_iconst (q := 69) (v := -1) dX1_spread_68 rfl (by decide) ?_
    refine g_ixor (q := 70) dX1_spread_69 rfl ?_
    refine g_iand (q := 71) dX1_spread_70 rfl ?_
    refine g_iload_n (q := 72) (i := 3) dX1_spread_71 rfl rfl rfl ?_
    refine g_iconst (q := 73) (v := -1) dX1_spread_72 rfl (by decide) ?_
    refine g_ixor (q := 74) dX1_spread_73 rfl ?_
    refine g_iand (q := 75) dX1_spread_74 rfl ?_
    refine g_istore (q := 77) (L' := [.ref (ad 1), un_, .int l2, .int l3, .int ((l6 &&& (l2 ^^^ (-1 : Int32))) &&& (l3 ^^^ (-1 : Int32))), .int l5, .int l6, .int l7]) dX1_spread_75 rfl (Nat.le_of_ble_eq_true rfl) rfl ?_
    refine g_iload_n (q := 78) (i := 3) dX1_spread_77 rfl rfl rfl ?_
    refine g_iload (q := 80) dX1_spread_78 rfl rfl ?_
    refine g_ior (q := 81) dX1_spread_80 rfl ?_
    refine g_istore_n (q := 82) (L' := [.ref (ad 1), un_, .int l2, .int (l3 ||| ((l6 &&& (l2 ^^^ (-1 : Int32))) &&& (l3 ^^^ (-1 : Int32)))), .int ((l6 &&& (l2 ^^^ (-1 : Int32))) &&& (l3 ^^^ (-1 : Int32))), .int l5, .int l6, .int l7]) (i := 3) dX1_spread_81 rfl rfl (Nat.le_of_ble_eq_true rfl) rfl ?_
    refine g_iinc (q := 85) (b := l5 + 1) (L' := [.ref (ad 1), un_, .int l2, .int (l3 ||| ((l6 &&& (l2 ^^^ (-1 : Int32))) &&& (l3 ^^^ (-1 : Int32)))), .int ((l6 &&& (l2 ^^^ (-1 : Int32))) &&& (l3 ^^^ (-1 : Int32))), .int (l5 + 1), .int l6, .int l7]) dX1_spread_82 rfl rfl rfl (Nat.le_of_ble_eq_true rfl) rfl ?_
    refine g_goto (q := 8) dX1_spread_85 (by decide) ?_
    exact g_weak (L' := [.ref (ad 1), un_, .int l2, .int (l3 ||| ((l6 &&& (l2 ^^^ (-1 : Int32))) &&& (l3 ^^^ (-1 : Int32)))), .int ((l6 &&& (l2 ^^^ (-1 : Int32))) &&& (l3 ^^^ (-1 : Int32))), .int (l5 + 1), un_, un_]) ⟨Or.inr rfl, Or.inl rfl, Or.inr rfl, Or.inr rfl, Or.inr rfl, Or.inr rfl, Or.inl rfl, Or.inl rfl, trivial⟩ (h8 _ _ _ _ _ H)
  · replace H := (if_neg c34).symm.trans H
    refine g_iload (q := 39) dX1_spread_37 rfl rfl ?_
    refine g_iload (q := 41) dX1_spread_39 rfl rfl ?_
    refine g_ishr (q := 42) dX1_spread_41 rfl ?_
    refine g_iconst (q := 43) (v := 1) dX1_spread_42 rfl (by decide) ?_
    refine g_iand (q := 44) dX1_spread_43 rfl ?_
    refine g_if_eq (q := 47) (r := 59) dX1_spread_44 (by decide) rfl (fun c44 => ?_) (fun c44 => ?_)
    · replace H := (if_pos c44).symm.trans H
      refine g_iinc (q := 62) (b := l7 + 1) (L' := [.ref (ad 1), un_, .int l2, .int l3, .int l4, .int l5, .int l6, .int (l7 + 1)]) dX1_spread_59 rfl rfl rfl (Nat.le_of_ble_eq_true rfl) rfl ?_
      refine g_goto (q := 28) dX1_spread_62 (by decide) ?_
      exact g_weak (L' := [.ref (ad 1), un_, .int l2, .int l3, .int l4, .int l5, .int l6, .int (l7 + 1)]) ⟨Or.inr rfl, Or.inl rfl, Or.inr rfl, Or.inr rfl, Or.inr rfl, Or.inr rfl, Or.inr rfl, Or.inr rfl, trivial⟩ (h28 _ _ _ _ _ _ _ H)
    · replace H := (if_neg c44).symm.trans H
      refine g_iload (q := 49) dX1_spread_47 rfl rfl ?_
      refine g_aload_n (q := 50) (i := 0) dX1_spread_49 rfl rfl rfl ?_
      refine g_get (q := 53) dX1_spread_50 rfl foX1_21 1 hc1 rfl ?_
      refine g_iload (q := 55) dX1_spread_53 rfl rfl ?_
      obtain ⟨b55, H⟩ := of_chk H
      refine g_iald (q := 56) dX1_spread_55 rfl 5 hc5 b55 ?_
      refine g_ior (q := 57) dX1_spread_56 rfl ?_
      refine g_istore (q := 59) (L' := [.ref (ad 1), un_, .int l2, .int l3, .int l4, .int l5, .int (l6 ||| (σ.2.1 5 l7.toNatClampNeg)), .int l7]) dX1_spread_57 rfl (Nat.le_of_ble_eq_true rfl) rfl ?_
      refine g_iinc (q := 62) (b := l7 + 1) (L' := [.ref (ad 1), un_, .int l2, .int l3, .int l4, .int l5, .int (l6 ||| (σ.2.1 5 l7.toNatClampNeg)), .int (l7 + 1)]) dX1_spread_59 rfl rfl rfl (Nat.le_of_ble_eq_true rfl) rfl ?_
      refine g_goto (q := 28) dX1_spread_62 (by decide) ?_
      exact g_weak (L' := [.ref (ad 1), un_, .int l2, .int l3, .int l4, .int l5, .int (l6 ||| (σ.2.1 5 l7.toNatClampNeg)), .int (l7 + 1)]) ⟨Or.inr rfl, Or.inl rfl, Or.inr rfl, Or.inr rfl, Or.inr rfl, Or.inr rfl, Or.inr rfl, Or.inr rfl, trivial⟩ (h28 _ _ _ _ _ _ _ H)
def fX1_spread_28 (F : Nat) (k8 : Sg → Int32 → Int32 → Int32 → Int32 → Rs) : Nat → Sg → Int32 → Int32 → Int32 → Int32 → Int32 → Int32 → Rs
  | 0 => fun _ _ _ _ _ _ _ => none
  | n + 1 => fun σ l2 l3 l4 l5 l6 l7 => bX1_spread_28 F k8 (fX1_spread_28 F k8 n) σ l2 l3 l4 l5 l6 l7
theorem wfX1_spread_28 {x : FX} {g : GX} {ad : Nat → Nat} {ex M0 : va_W} {r : Int32} {τ : Sg} {F : Nat} (hX : RX x g M0 (Pi_ r (HH g ad τ ++ ex)) 0 0) {k8 : Sg → Int32 → Int32 → Int32 → Int32 → Rs} (h8 : ∀ (σ : Sg) (l2 : Int32) (l3 : Int32) (l4 : Int32) (l5 : Int32), k8 σ l2 l3 l4 l5 = some (r, τ) → Go x { frames := 0, cells := 0, slots := 0, locals := 0 } tX1_spread g 8 [.ref (ad 1), un_, .int l2, .int l3, .int l4, .int l5, un_, un_] [] (HH g ad σ ++ ex) 0 0) : ∀ (n : Nat) (σ : Sg) (l2 : Int32) (l3 : Int32) (l4 : Int32) (l5 : Int32) (l6 : Int32) (l7 : Int32), fX1_spread_28 F k8 n σ l2 l3 l4 l5 l6 l7 = some (r, τ) → Go x { frames := 0, cells := 0, slots := 0, locals := 0 } tX1_spread g 28 [.ref (ad 1), un_, .int l2, .int l3, .int l4, .int l5, .int l6, .int l7] [] (HH g ad σ ++ ex) 0 0
  | 0, _, _, _, _, _, _, _, H => nomatch (show (none : Rs) = some _ from H)
  | n + 1, σ, l2, l3, l4, l5, l6, l7, H => wbX1_spread_28 (F := F) hX h8 (fun σ2 z2 z3 z4 z5 z6 z7 H2 => wfX1_spread_28 (F := F) hX h8 n σ2 z2 z3 z4 z5 z6 z7 H2) σ l2 l3 l4 l5 l6 l7 H
def bX1_spread_8 (F : Nat) (k8 : Sg → Int32 → Int32 → Int32 → Int32 → Rs) (σ : Sg) (l2 : Int32) (l3 : Int32) (l4 : Int32) (l5 : Int32) : Rs := if (σ.1 0) ≤ l5 then (some (l3, σ)) else (if l4 = (0 : Int32) then (some (l3, σ)) else (fX1_spread_28 F k8 F σ (l2) (l3) (l4) (l5) ((0 : Int32)) ((0 : Int32))))
set_option maxRecDepth 100000 in
set_option maxHeartbeats 4000000 in
theorem wbX1_spread_8 {x : FX} {g : GX} {ad : Nat → Nat} {ex M0 : va_W} {r : Int32} {τ : Sg} {F : Nat} (hX : RX x g M0 (Pi_ r (HH g ad τ ++ ex)) 0 0) {k8 : Sg → Int32 → Int32 → Int32 → Int32 → Rs} (h8 : ∀ (σ : Sg) (l2 : Int32) (l3 : Int32) (l4 : Int32) (l5 : Int32), k8 σ l2 l3 l4 l5 = some (r, τ) → Go x { frames := 0, cells := 0, slots := 0, locals := 0 } tX1_spread g 8 [.ref (ad 1), un_, .int l2, .int l3, .int l4, .int l5, un_, un_] [] (HH g ad σ ++ ex) 0 0) (σ : Sg) (l2 : Int32) (l3 : Int32) (l4 : Int32) (l5 : Int32) (H : bX1_spread_8 F k8 σ l2 l3 l4 l5 = some (r, τ)) : Go x { frames := 0, cells := 0, slots := 0, locals := 0 } tX1_spread g 8 [.ref (ad 1), un_, .int l2, .int l3, .int l4, .int l5, un_, un_] [] (HH g ad σ ++ ex) 0 0 := by
  unfold bX1_spread_8 at H
  refine g_iload (q := 10) dX1_spread_8 rfl rfl ?_
  refine g_aload_n (q := 11) (i := 0) dX1_spread_10 rfl rfl rfl ?_
  refine g_get (q := 14) dX1_spread_11 rfl foX1_24 1 hc1 rfl ?_
  refine g_icmp_ge (q := 17) (r := 88) dX1_spread_14 (by decide) rfl (fun c14 => ?_) (fun c14 => ?_)
  · replace H := (if_pos c14).symm.trans H
    refine g_iload_n (q := 89) (i := 3) dX1_spread_88 rfl rfl rfl ?_
    exact g_iret hX dX1_spread_89 rfl rfl (Nat.le_refl _) (Nat.le_refl _) (piOk H)
  · replace H := (if_neg c14).symm.trans H
    refine g_iload (q := 19) dX1_spread_17 rfl rfl ?_
    refine g_if_eq (q := 22) (r := 88) dX1_spread_19 (by decide) rfl (fun c19 => ?_) (fun c19 => ?_)
    · replace H := (if_pos c19).symm.trans H
      refine g_iload_n (q := 89) (i := 3) dX1_spread_88 rfl rfl rfl ?_
      exact g_iret hX dX1_spread_89 rfl rfl (Nat.le_refl _) (Nat.le_refl _) (piOk H)
    · replace H := (if_neg c19).symm.trans H
      refine g_iconst (q := 23) (v := 0) dX1_spread_22 rfl (by decide) ?_
      refine g_istore (q := 25) (L' := [.ref (ad 1), un_, .int l2, .int l3, .int l4, .int l5, .int ((0 : Int32)), un_]) dX1_spread_23 rfl (Nat.le_of_ble_eq_true rfl) rfl ?_
      refine g_iconst (q := 26) (v := 0) dX1_spread_25 rfl (by decide) ?_
      refine g_istore (q := 28) (L' := [.ref (ad 1), un_, .int l2, .int l3, .int l4, .int l5, .int ((0 : Int32)), .int ((0 : Int32))]) dX1_spread_26 rfl (Nat.le_of_ble_eq_true rfl) rfl ?_
      exact g_weak (L' := [.ref (ad 1), un_, .int l2, .int l3, .int l4, .int l5, .int ((0 : Int32)), .int ((0 : Int32))]) ⟨Or.inr rfl, Or.inl rfl, Or.inr rfl, Or.inr rfl, Or.inr rfl, Or.inr rfl, Or.inr rfl, Or.inr rfl, trivial⟩ (wfX1_spread_28 (F := F) hX h8 F _ _ _ _ _ _ _ H)
def fX1_spread_8 (F : Nat)  : Nat → Sg → Int32 → Int32 → Int32 → Int32 → Rs
  | 0 => fun _ _ _ _ _ => none
  | n + 1 => fun σ l2 l3 l4 l5 => bX1_spread_8 F  (fX1_spread_8 F  n) σ l2 l3 l4 l5
theorem wfX1_spread_8 {x : FX} {g : GX} {ad : Nat → Nat} {ex M0 : va_W} {r : Int32} {τ : Sg} {F : Nat} (hX : RX x g M0 (Pi_ r (HH g ad τ ++ ex)) 0 0)   : ∀ (n : Nat) (σ : Sg) (l2 : Int32) (l3 : Int32) (l4 : Int32) (l5 : Int32), fX1_spread_8 F  n σ l2 l3 l4 l5 = some (r, τ) → Go x { frames := 0, cells := 0, slots := 0, locals := 0 } tX1_spread g 8 [.ref (ad 1), un_, .int l2, .int l3, .int l4, .int l5, un_, un_] [] (HH g ad σ ++ ex) 0 0
  | 0, _, _, _, _, _, H => nomatch (show (none : Rs) = some _ from H)
  | n + 1, σ, l2, l3, l4, l5, H => wbX1_spread_8 (F := F) hX  (fun σ2 z2 z3 z4 z5 H2 => wfX1_spread_8 (F := F) hX  n σ2 z2 z3 z4 z5 H2) σ l2 l3 l4 l5 H
def fX1_spread (F : Nat) (σ : Sg) (l1 : Int32) (l2 : Int32) : Rs := fX1_spread_8 F F σ (l2) (l1) (l1) ((0 : Int32))
set_option maxRecDepth 100000 in
set_option maxHeartbeats 4000000 in
theorem ctX1_spread {l : Launch} {g : GX} {ad : Nat → Nat} {ex : va_W} {r : Int32} {τ σ : Sg} {F : Nat} {l1 : Int32} {l2 : Int32} (H : fX1_spread F σ l1 l2 = some (r, τ)) : Ct l g yX1_spread tX1_spread 0 0 0 0 [.ref (ad 1), .int l1, .int l2] (HH g ad σ ++ ex) (Pi_ r (HH g ad τ ++ ex)) := by
  refine Ct.of (L := [.ref (ad 1), .int l1, .int l2, un_, un_, un_, un_, un_]) (by decide +kernel) rfl rfl rfl (Nat.le_of_ble_eq_true rfl) rfl (fun x _ hX => ?_)
  unfold fX1_spread at H
  refine g_iload_n (q := 1) (i := 1) dX1_spread_0 rfl rfl rfl ?_
  refine g_istore_n (q := 2) (L' := [.ref (ad 1), .int l1, .int l2, .int l1, un_, un_, un_, un_]) (i := 3) dX1_spread_1 rfl rfl (Nat.le_of_ble_eq_true rfl) rfl ?_
  refine g_iload_n (q := 3) (i := 1) dX1_spread_2 rfl rfl rfl ?_
  refine g_istore (q := 5) (L' := [.ref (ad 1), .int l1, .int l2, .int l1, .int l1, un_, un_, un_]) dX1_spread_3 rfl (Nat.le_of_ble_eq_true rfl) rfl ?_
  refine g_iconst (q := 6) (v := 0) dX1_spread_5 rfl (by decide) ?_
  refine g_istore (q := 8) (L' := [.ref (ad 1), .int l1, .int l2, .int l1, .int l1, .int ((0 : Int32)), un_, un_]) dX1_spread_6 rfl (Nat.le_of_ble_eq_true rfl) rfl ?_
  exact g_weak (L' := [.ref (ad 1), un_, .int l2, .int l1, .int l1, .int ((0 : Int32)), un_, un_]) ⟨Or.inr rfl, Or.inl rfl, Or.inr rfl, Or.inr rfl, Or.inr rfl, Or.inr rfl, Or.inl rfl, Or.inl rfl, trivial⟩ (wfX1_spread_8 (F := F) hX  F _ _ _ _ _ H)
def fX1_lostBehind (F : Nat) (σ : Sg) (l1 : Int32) (l2 : Int32) (l3 : Int32) (l4 : Int32) : Rs := if ((l2 >>> (l3 &&& 31)) &&& (1 : Int32)) = (0 : Int32) then (if ib l3 12 then ((fX1_passagesAt F σ l1).bind fun q1 => (fun (r1 : Int32) (σ1 : Sg) => if (((σ.2.1 4 l3.toNatClampNeg) &&& r1) &&& (l4 ^^^ (-1 : Int32))) = (0 : Int32) then (some (l1 &&& (l2 ^^^ (-1 : Int32)), σ1)) else ((fX1_spread F σ1 ((l1 &&& (l2 ^^^ (-1 : Int32))) ||| ((1 : Int32) <<< (l3 &&& 31))) l2).bind fun q2 => (fun (r2 : Int32) (σ2 : Sg) => some (r2, σ2)) q2.1 q2.2)) q1.1 q1.2) else none) else (some (l1 &&& (l2 ^^^ (-1 : Int32)), σ))
set_option maxRecDepth 100000 in
set_option maxHeartbeats 4000000 in
theorem ctX1_lostBehind {l : Launch} {g : GX} {ad : Nat → Nat} {ex : va_W} {r : Int32} {τ σ : Sg} {F : Nat} {l1 : Int32} {l2 : Int32} {l3 : Int32} {l4 : Int32} (H : fX1_lostBehind F σ l1 l2 l3 l4 = some (r, τ)) : Ct l g yX1_lostBehind tX1_lostBehind 1 27 0 0 [.ref (ad 1), .int l1, .int l2, .int l3, .int l4] (HH g ad σ ++ ex) (Pi_ r (HH g ad τ ++ ex)) := by
  refine Ct.of (L := [.ref (ad 1), .int l1, .int l2, .int l3, .int l4, un_, un_]) (by decide +kernel) rfl rfl rfl (Nat.le_of_ble_eq_true rfl) rfl (fun x _ hX => ?_)
  unfold fX1_lostBehind at H
  refine g_iload_n (q := 1) (i := 1) dX1_lostBehind_0 rfl rfl rfl ?_
  refine g_iload_n (q := 2) (i := 2) dX1_lostBehind_1 rfl rfl rfl ?_
  refine g_iconst (q := 3) (v := -1) dX1_lostBehind_2 rfl (by decide) ?_
  refine g_ixor (q := 4) dX1_lostBehind_3 rfl ?_
  refine g_iand (q := 5) dX1_lostBehind_4 rfl ?_
  refine g_istore (q := 7) (L' := [.ref (ad 1), .int l1, .int l2, .int l3, .int l4, .int (l1 &&& (l2 ^^^ (-1 : Int32))), un_]) dX1_lostBehind_5 rfl (Nat.le_of_ble_eq_true rfl) rfl ?_
  refine g_iload_n (q := 8) (i := 2) dX1_lostBehind_7 rfl rfl rfl ?_
  refine g_iload_n (q := 9) (i := 3) dX1_lostBehind_8 rfl rfl rfl ?_
  refine g_ishr (q := 10) dX1_lostBehind_9 rfl ?_
  refine g_iconst (q := 11) (v := 1) dX1_lostBehind_10 rfl (by decide) ?_
  refine g_iand (q := 12) dX1_lostBehind_11 rfl ?_
  refine g_if_eq (q := 15) (r := 18) dX1_lostBehind_12 (by decide) rfl (fun c12 => ?_) (fun c12 => ?_)
  · replace H := (if_pos c12).symm.trans H
    refine g_aload_n (q := 19) (i := 0) dX1_lostBehind_18 rfl rfl rfl ?_
    refine g_get (q := 22) dX1_lostBehind_19 rfl foX1_18 1 hc1 rfl ?_
    refine g_iload_n (q := 23) (i := 3) dX1_lostBehind_22 rfl rfl rfl ?_
    obtain ⟨b23, H⟩ := of_chk H
    refine g_iald (q := 24) dX1_lostBehind_23 rfl 4 hc4 b23 ?_
    refine g_aload_n (q := 25) (i := 0) dX1_lostBehind_24 rfl rfl rfl ?_
    refine g_iload_n (q := 26) (i := 1) dX1_lostBehind_25 rfl rfl rfl ?_
    obtain ⟨r1, σ1, e1, H⟩ := of_bnd H
    refine g_callV (q := 29) (rest := [.int (σ.2.1 4 l3.toNatClampNeg)]) dX1_lostBehind_26 rfl cvX1_56 (ctX1_passagesAt e1) rfl rfl ⟨Nat.le_of_ble_eq_true rfl, Nat.le_of_ble_eq_true rfl⟩ ⟨Nat.le_refl _, Nat.le_refl _⟩ (Nat.le_of_ble_eq_true rfl) 1 hc1 rfl (fun r0 M9 hp => ?_)
    obtain ⟨rfl, rfl⟩ := hp
    show Go x _ _ g 29 [.ref (ad 1), .int l1, .int l2, .int l3, .int l4, .int (l1 &&& (l2 ^^^ (-1 : Int32))), un_] [.int r1, .int (σ.2.1 4 l3.toNatClampNeg)] (HH g ad σ1 ++ ex) 0 0
    refine g_iand (q := 30) dX1_lostBehind_29 rfl ?_
    refine g_iload (q := 32) dX1_lostBehind_30 rfl rfl ?_
    refine g_iconst (q := 33) (v := -1) dX1_lostBehind_32 rfl (by decide) ?_
    refine g_ixor (q := 34) dX1_lostBehind_33 rfl ?_
    refine g_iand (q := 35) dX1_lostBehind_34 rfl ?_
    refine g_istore (q := 37) (L' := [.ref (ad 1), .int l1, .int l2, .int l3, .int l4, .int (l1 &&& (l2 ^^^ (-1 : Int32))), .int (((σ.2.1 4 l3.toNatClampNeg) &&& r1) &&& (l4 ^^^ (-1 : Int32)))]) dX1_lostBehind_35 rfl (Nat.le_of_ble_eq_true rfl) rfl ?_
    refine g_iload (q := 39) dX1_lostBehind_37 rfl rfl ?_
    refine g_if_ne (q := 42) (r := 47) dX1_lostBehind_39 (by decide) rfl (fun c39 => ?_) (fun c39 => ?_)
    · replace H := (if_neg c39).symm.trans H
      refine g_aload_n (q := 48) (i := 0) dX1_lostBehind_47 rfl rfl rfl ?_
      refine g_iload (q := 50) dX1_lostBehind_48 rfl rfl ?_
      refine g_iconst (q := 51) (v := 1) dX1_lostBehind_50 rfl (by decide) ?_
      refine g_iload_n (q := 52) (i := 3) dX1_lostBehind_51 rfl rfl rfl ?_
      refine g_ishl (q := 53) dX1_lostBehind_52 rfl ?_
      refine g_ior (q := 54) dX1_lostBehind_53 rfl ?_
      refine g_iload_n (q := 55) (i := 2) dX1_lostBehind_54 rfl rfl rfl ?_
      obtain ⟨r2, σ2, e2, H⟩ := of_bnd H
      refine g_callV (q := 58) (rest := []) dX1_lostBehind_55 rfl cvX1_60 (ctX1_spread e2) rfl rfl ⟨Nat.le_of_ble_eq_true rfl, Nat.le_of_ble_eq_true rfl⟩ ⟨Nat.le_refl _, Nat.le_refl _⟩ (Nat.le_of_ble_eq_true rfl) 1 hc1 rfl (fun r0 M9 hp => ?_)
      obtain ⟨rfl, rfl⟩ := hp
      show Go x _ _ g 58 [.ref (ad 1), .int l1, .int l2, .int l3, .int l4, .int (l1 &&& (l2 ^^^ (-1 : Int32))), .int (((σ.2.1 4 l3.toNatClampNeg) &&& r1) &&& (l4 ^^^ (-1 : Int32)))] [.int r2] (HH g ad σ2 ++ ex) 0 0
      exact g_iret hX dX1_lostBehind_58 rfl rfl (Nat.le_refl _) (Nat.le_refl _) (piOk H)
    · replace H := (if_pos c39).symm.trans H
      refine g_iload (q := 44) dX1_lostBehind_42 rfl rfl ?_
      refine g_goto (q := 58) dX1_lostBehind_44 (by decide) ?_
      exact g_iret hX dX1_lostBehind_58 rfl rfl (Nat.le_refl _) (Nat.le_refl _) (piOk H)
  · replace H := (if_neg c12).symm.trans H
    refine g_iload (q := 17) dX1_lostBehind_15 rfl rfl ?_
    exact g_iret hX dX1_lostBehind_17 rfl rfl (Nat.le_refl _) (Nat.le_refl _) (piOk H)
