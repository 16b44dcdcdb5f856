def fX1_hasPassage (F : Nat) (σ : Sg) (l1 : Int32) : Rs := if l1 < (0 : Int32) then (some ((0 : Int32), σ)) else (if (18 : Int32) ≤ l1 then (some ((0 : Int32), σ)) else (if (((σ.1 1) >>> (l1 &&& 31)) &&& (1 : Int32)) = (0 : Int32) then (some ((0 : Int32), σ)) else (some ((1 : Int32), σ))))
set_option maxRecDepth 100000 in
set_option maxHeartbeats 4000000 in
theorem ctX1_hasPassage {l : Launch} {g : GX} {ad : Nat → Nat} {ex : va_W} {r : Int32} {τ σ : Sg} {F : Nat} {l1 : Int32} (H : fX1_hasPassage F σ l1 = some (r, τ)) : Ct l g yX1_hasPassage tX1_hasPassage 0 0 0 0 [.ref (ad 1), .int l1] (HH g ad σ ++ ex) (Pi_ r (HH g ad τ ++ ex)) := by
  refine Ct.of (L := [.ref (ad 1), .int l1]) (by decide +kernel) rfl rfl rfl (Nat.le_of_ble_eq_true rfl) rfl (fun x _ hX => ?_)
  unfold fX1_hasPassage at H
  refine g_iload_n (q := 1) (i := 1) dX1_hasPassage_0 rfl rfl rfl ?_
  refine g_if_lt (q := 4) (r := 25) dX1_hasPassage_1 (by decide) rfl (fun c1 => ?_) (fun c1 => ?_)
  · replace H := (if_pos c1).symm.trans H
    refine g_iconst (q := 26) (v := 0) dX1_hasPassage_25 rfl (by decide) ?_
    exact g_iret hX dX1_hasPassage_26 rfl rfl (Nat.le_refl _) (Nat.le_refl _) (piOk H)
  · replace H := (if_neg c1).symm.trans H
    refine g_iload_n (q := 5) (i := 1) dX1_hasPassage_4 rfl rfl rfl ?_
    refine g_bipush (q := 7) (v := 18) dX1_hasPassage_5 rfl (by decide) ?_
    refine g_icmp_ge (q := 10) (r := 25) dX1_hasPassage_7 (by decide) rfl (fun c7 => ?_) (fun c7 => ?_)
    · replace H := (if_pos c7).symm.trans H
      refine g_iconst (q := 26) (v := 0) dX1_hasPassage_25 rfl (by decide) ?_
      exact g_iret hX dX1_hasPassage_26 rfl rfl (Nat.le_refl _) (Nat.le_refl _) (piOk H)
    · replace H := (if_neg c7).symm.trans H
      refine g_aload_n (q := 11) (i := 0) dX1_hasPassage_10 rfl rfl rfl ?_
      refine g_get (q := 14) dX1_hasPassage_11 rfl foX1_28 1 hc1 rfl ?_
      refine g_iload_n (q := 15) (i := 1) dX1_hasPassage_14 rfl rfl rfl ?_
      refine g_ishr (q := 16) dX1_hasPassage_15 rfl ?_
      refine g_iconst (q := 17) (v := 1) dX1_hasPassage_16 rfl (by decide) ?_
      refine g_iand (q := 18) dX1_hasPassage_17 rfl ?_
      refine g_if_eq (q := 21) (r := 25) dX1_hasPassage_18 (by decide) rfl (fun c18 => ?_) (fun c18 => ?_)
      · replace H := (if_pos c18).symm.trans H
        refine g_iconst (q := 26) (v := 0) dX1_hasPassage_25 rfl (by decide) ?_
        exact g_iret hX dX1_hasPassage_26 rfl rfl (Nat.le_refl _) (Nat.le_refl _) (piOk H)
      · replace H := (if_neg c18).symm.trans H
        refine g_iconst (q := 22) (v := 1) dX1_hasPassage_21 rfl (by decide) ?_
        refine g_goto (q := 26) dX1_hasPassage_22 (by decide) ?_
        exact g_iret hX dX1_hasPassage_26 rfl rfl (Nat.le_refl _) (Nat.le_refl _) (piOk H)
def bJ7_fill_53178_4_5 (F : Nat) (k5 : Sg → Int32 → Int32 → Int32 → Rs) (σ : Sg) (l1 : Int32) (l2 : Int32) (l3 : Int32) : Rs := if l3 ≤ l2 then (some (0, σ)) else (if ib l2 12 then (ls_ (sa σ 4 l2.toNatClampNeg l1) fun σ1 => k5 σ1 (l1) (l2 + 1) (l3)) else none)
set_option maxRecDepth 100000 in
set_option maxHeartbeats 4000000 in
theorem wbJ7_fill_53178_4_5 {x : FX} {g : GX} {ad : Nat → Nat} {ex M0 : va_W} {r : Int32} {τ : Sg} {F : Nat} (hX : RX x g M0 (Pv_ (HH g ad τ ++ ex)) 0 0) {k5 : Sg → Int32 → Int32 → Int32 → Rs} (h5 : ∀ (σ : Sg) (l1 : Int32) (l2 : Int32) (l3 : Int32), k5 σ l1 l2 l3 = some (r, τ) → Go x { frames := 0, cells := 0, slots := 0, locals := 0 } tJ7_fill_53178 g 5 [.ref (ad 4), .int l1, .int l2, .int l3] [] (HH g ad σ ++ ex) 0 0) (σ : Sg) (l1 : Int32) (l2 : Int32) (l3 : Int32) (H : bJ7_fill_53178_4_5 F k5 σ l1 l2 l3 = some (r, τ)) : Go x { frames := 0, cells := 0, slots := 0, locals := 0 } tJ7_fill_53178 g 5 [.ref (ad 4), .int l1, .int l2, .int l3] [] (HH g ad σ ++ ex) 0 0 := by
  unfold bJ7_fill_53178_4_5 at H
  refine g_iload_n (q := 6) (i := 2) dJ7_fill_53178_5 rfl rfl rfl ?_
  refine g_iload_n (q := 7) (i := 3) dJ7_fill_53178_6 rfl rfl rfl ?_
  refine g_icmp_ge (q := 10) (r := 20) dJ7_fill_53178_7 (by decide) rfl (fun c7 => ?_) (fun c7 => ?_)
  · replace H := (if_pos c7).symm.trans H
    exact g_vret hX dJ7_fill_53178_20 rfl (Nat.le_refl _) (Nat.le_refl _) (pvOk H)
  · replace H := (if_neg c7).symm.trans H
    refine g_aload_n (q := 11) (i := 0) dJ7_fill_53178_10 rfl rfl rfl ?_
    refine g_iload_n (q := 12) (i := 2) dJ7_fill_53178_11 rfl rfl rfl ?_
    refine g_iload_n (q := 13) (i := 1) dJ7_fill_53178_12 rfl rfl rfl ?_
    obtain ⟨b13, H⟩ := of_chk H
    obtain ⟨σ1, n1, H⟩ := of_ls H
    refine g_iast (q := 14) dJ7_fill_53178_13 rfl 4 hc4 b13 (ha4e n1) ?_
    refine g_iinc (q := 17) (b := l2 + 1) (L' := [.ref (ad 4), .int l1, .int (l2 + 1), .int l3]) dJ7_fill_53178_14 rfl rfl rfl (Nat.le_of_ble_eq_true rfl) rfl ?_
    refine g_goto (q := 5) dJ7_fill_53178_17 (by decide) ?_
    exact g_weak (L' := [.ref (ad 4), .int l1, .int (l2 + 1), .int l3]) ⟨Or.inr rfl, Or.inr rfl, Or.inr rfl, Or.inr rfl, trivial⟩ (h5 _ _ _ _ H)
def fJ7_fill_53178_4_5 (F : Nat)  : Nat → Sg → Int32 → Int32 → Int32 → Rs
  | 0 => fun _ _ _ _ => none
  | n + 1 => fun σ l1 l2 l3 => bJ7_fill_53178_4_5 F  (fJ7_fill_53178_4_5 F  n) σ l1 l2 l3
theorem wfJ7_fill_53178_4_5 {x : FX} {g : GX} {ad : Nat → Nat} {ex M0 : va_W} {r : Int32} {τ : Sg} {F : Nat} (hX : RX x g M0 (Pv_ (HH g ad τ ++ ex)) 0 0)   : ∀ (n : Nat) (σ : Sg) (l1 : Int32) (l2 : Int32) (l3 : Int32), fJ7_fill_53178_4_5 F  n σ l1 l2 l3 = some (r, τ) → Go x { frames := 0, cells := 0, slots := 0, locals := 0 } tJ7_fill_53178 g 5 [.ref (ad 4), .int l1, .int l2, .int l3] [] (HH g ad σ ++ ex) 0 0
  | 0, _, _, _, _, H => nomatch (show (none : Rs) = some _ from H)
  | n + 1, σ, l1, l2, l3, H => wbJ7_fill_53178_4_5 (F := F) hX  (fun σ2 z1 z2 z3 H2 => wfJ7_fill_53178_4_5 (F := F) hX  n σ2 z1 z2 z3 H2) σ l1 l2 l3 H
def fJ7_fill_53178_4 (F : Nat) (σ : Sg) (l1 : Int32) : Rs := fJ7_fill_53178_4_5 F F σ (l1) ((0 : Int32)) ((12 : Int32))
set_option maxRecDepth 100000 in
set_option maxHeartbeats 4000000 in
theorem ctJ7_fill_53178_4 {l : Launch} {g : GX} {ad : Nat → Nat} {ex : va_W} {r : Int32} {τ σ : Sg} {F : Nat} {l1 : Int32} (H : fJ7_fill_53178_4 F σ l1 = some (r, τ)) : Ct l g yJ7_fill_53178 tJ7_fill_53178 0 0 0 0 [.ref (ad 4), .int l1] (HH g ad σ ++ ex) (Pv_ (HH g ad τ ++ ex)) := by
  refine Ct.of (L := [.ref (ad 4), .int l1, un_, un_]) (by decide +kernel) rfl rfl rfl (Nat.le_of_ble_eq_true rfl) rfl (fun x _ hX => ?_)
  unfold fJ7_fill_53178_4 at H
  refine g_iconst (q := 1) (v := 0) dJ7_fill_53178_0 rfl (by decide) ?_
  refine g_istore_n (q := 2) (L' := [.ref (ad 4), .int l1, .int ((0 : Int32)), un_]) (i := 2) dJ7_fill_53178_1 rfl rfl (Nat.le_of_ble_eq_true rfl) rfl ?_
  refine g_aload_n (q := 3) (i := 0) dJ7_fill_53178_2 rfl rfl rfl ?_
  refine g_alen (q := 4) (v := 12) dJ7_fill_53178_3 rfl 4 hc4 rfl ?_
  refine g_istore_n (q := 5) (L' := [.ref (ad 4), .int l1, .int ((0 : Int32)), .int ((12 : Int32))]) (i := 3) dJ7_fill_53178_4 rfl rfl (Nat.le_of_ble_eq_true rfl) rfl ?_
  exact g_weak (L' := [.ref (ad 4), .int l1, .int ((0 : Int32)), .int ((12 : Int32))]) ⟨Or.inr rfl, Or.inr rfl, Or.inr rfl, Or.inr rfl, trivial⟩ (wfJ7_fill_53178_4_5 (F := F) hX  F _ _ _ _ H)
def bJ7_fill_53178_5_5 (F : Nat) (k5 : Sg → Int32 → Int32 → Int32 → Rs) (σ : Sg) (l1 : Int32) (l2 : Int32) (l3 : Int32) : Rs := if l3 ≤ l2 then (some (0, σ)) else (if ib l2 12 then (ls_ (sa σ 5 l2.toNatClampNeg l1) fun σ1 => k5 σ1 (l1) (l2 + 1) (l3)) else none)
set_option maxRecDepth 100000 in
set_option maxHeartbeats 4000000 in
theorem wbJ7_fill_53178_5_5 {x : FX} {g : GX} {ad : Nat → Nat} {ex M0 : va_W} {r : Int32} {τ : Sg} {F : Nat} (hX : RX x g M0 (Pv_ (HH g ad τ ++ ex)) 0 0) {k5 : Sg → Int32 → Int32 → Int32 → Rs} (h5 : ∀ (σ : Sg) (l1 : Int32) (l2 : Int32) (l3 : Int32), k5 σ l1 l2 l3 = some (r, τ) → Go x { frames := 0, cells := 0, slots := 0, locals := 0 } tJ7_fill_53178 g 5 [.ref (ad 5), .int l1, .int l2, .int l3] [] (HH g ad σ ++ ex) 0 0) (σ : Sg) (l1 : Int32) (l2 : Int32) (l3 : Int32) (H : bJ7_fill_53178_5_5 F k5 σ l1 l2 l3 = some (r, τ)) : Go x { frames := 0, cells := 0, slots := 0, locals := 0 } tJ7_fill_53178 g 5 [.ref (ad 5), .int l1, .int l2, .int l3] [] (HH g ad σ ++ ex) 0 0 := by
  unfold bJ7_fill_53178_5_5 at H
  refine g_iload_n (q := 6) (i := 2) dJ7_fill_53178_5 rfl rfl rfl ?_
  refine g_iload_n (q := 7) (i := 3) dJ7_fill_53178_6 rfl rfl rfl ?_
  refine g_icmp_ge (q := 10) (r := 20) dJ7_fill_53178_7 (by decide) rfl (fun c7 => ?_) (fun c7 => ?_)
  · replace H := (if_pos c7).symm.trans H
    exact g_vret hX dJ7_fill_53178_20 rfl (Nat.le_refl _) (Nat.le_refl _) (pvOk H)
  · replace H := (if_neg c7).symm.trans H
    refine g_aload_n (q := 11) (i := 0) dJ7_fill_53178_10 rfl rfl rfl ?_
    refine g_iload_n (q := 12) (i := 2) dJ7_fill_53178_11 rfl rfl rfl ?_
    refine g_iload_n (q := 13) (i := 1) dJ7_fill_53178_12 rfl rfl rfl ?_
    obtain ⟨b13, H⟩ := of_chk H
    obtain ⟨σ1, n1, H⟩ := of_ls H
    refine g_iast (q := 14) dJ7_fill_53178_13 rfl 5 hc5 b13 (ha5e n1) ?_
    refine g_iinc (q := 17) (b := l2 + 1) (L' := [.ref (ad 5), .int l1, .int (l2 + 1), .int l3]) dJ7_fill_53178_14 rfl rfl rfl (Nat.le_of_ble_eq_true rfl) rfl ?_
    refine g_goto (q := 5) dJ7_fill_53178_17 (by decide) ?_
    exact g_weak (L' := [.ref (ad 5), .int l1, .int (l2 + 1), .int l3]) ⟨Or.inr rfl, Or.inr rfl, Or.inr rfl, Or.inr rfl, trivial⟩ (h5 _ _ _ _ H)
def fJ7_fill_53178_5_5 (F : Nat)  : Nat → Sg → Int32 → Int32 → Int32 → Rs
  | 0 => fun _ _ _ _ => none
  | n + 1 => fun σ l1 l2 l3 => bJ7_fill_53178_5_5 F  (fJ7_fill_53178_5_5 F  n) σ l1 l2 l3
theorem wfJ7_fill_53178_5_5 {x : FX} {g : GX} {ad : Nat → Nat} {ex M0 : va_W} {r : Int32} {τ : Sg} {F : Nat} (hX : RX x g M0 (Pv_ (HH g ad τ ++ ex)) 0 0)   : ∀ (n : Nat) (σ : Sg) (l1 : Int32) (l2 : Int32) (l3 : Int32), fJ7_fill_53178_5_5 F  n σ l1 l2 l3 = some (r, τ) → Go x { frames := 0, cells := 0, slots := 0, locals := 0 } tJ7_fill_53178 g 5 [.ref (ad 5), .int l1, .int l2, .int l3] [] (HH g ad σ ++ ex) 0 0
  | 0, _, _, _, _, H => nomatch (show (none : Rs) = some _ from H)
  | n + 1, σ, l1, l2, l3, H => wbJ7_fill_53178_5_5 (F := F) hX  (fun σ2 z1 z2 z3 H2 => wfJ7_fill_53178_5_5 (F := F) hX  n σ2 z1 z2 z3 H2) σ l1 l2 l3 H
def fJ7_fill_53178_5 (F : Nat) (σ : Sg) (l1 : Int32) : Rs := fJ7_fill_53178_5_5 F F σ (l1) ((0 : Int32)) ((12 : Int32))
set_option maxRecDepth 100000 in
set_option maxHeartbeats 4000000 in
theorem ctJ7_fill_53178_5 {l : Launch} {g : GX} {ad : Nat → Nat} {ex : va_W} {r : Int32} {τ σ : Sg} {F : Nat} {l1 : Int32} (H : fJ7_fill_53178_5 F σ l1 = some (r, τ)) : Ct l g yJ7_fill_53178 tJ7_fill_53178 0 0 0 0 [.ref (ad 5), .int l1] (HH g ad σ ++ ex) (Pv_ (HH g ad τ ++ ex)) := by
  refine Ct.of (L := [.ref (ad 5), .int l1, un_, un_]) (by decide +kernel) rfl rfl rfl (Nat.le_of_ble_eq_true rfl) rfl (fun x _ hX => ?_)
  unfold fJ7_fill_53178_5 at H
  refine g_iconst (q := 1) (v := 0) dJ7_fill_53178_0 rfl (by decide) ?_
  refine g_istore_n (q := 2) (L' := [.ref (ad 5), .int l1, .int ((0 : Int32)), un_]) (i := 2) dJ7_fill_53178_1 rfl rfl (Nat.le_of_ble_eq_true rfl) rfl ?_
  refine g_aload_n (q := 3) (i := 0) dJ7_fill_53178_2 rfl rfl rfl ?_
  refine g_alen (q := 4) (v := 12) dJ7_fill_53178_3 rfl 5 hc5 rfl ?_
  refine g_istore_n (q := 5) (L' := [.ref (ad 5), .int l1, .int ((0 : Int32)), .int ((12 : Int32))]) (i := 3) dJ7_fill_53178_4 rfl rfl (Nat.le_of_ble_eq_true rfl) rfl ?_
  exact g_weak (L' := [.ref (ad 5), .int l1, .int ((0 : Int32)), .int ((12 : Int32))]) ⟨Or.inr rfl, Or.inr rfl, Or.inr rfl, Or.inr rfl, trivial⟩ (wfJ7_fill_53178_5_5 (F := F) hX  F _ _ _ _ H)
def bX1_linkCaves_18 (F : Nat) (k18 : Sg → Int32 → Rs) (σ : Sg) (l1 : Int32) : Rs := if (18 : Int32) ≤ l1 then (some (0, σ)) else ((fX1_hasPassage F σ l1).bind fun q1 => (fun (r1 : Int32) (σ1 : Sg) => if r1 = (0 : Int32) then (k18 σ1 (l1 + 1)) else (if ib l1 18 then (li_ (σ1.2.1 2 l1.toNatClampNeg) fun v2 => if ib l1 18 then (li_ (σ1.2.1 3 l1.toNatClampNeg) fun v3 => if ib v2 12 then (if ib v2 12 then (ls_ (sa σ1 4 v2.toNatClampNeg ((σ1.2.1 4 v2.toNatClampNeg) ||| ((1 : Int32) <<< (l1 &&& 31)))) fun σ4 => if ib v3 12 then (if ib v3 12 then (ls_ (sa σ4 4 v3.toNatClampNeg ((σ4.2.1 4 v3.toNatClampNeg) ||| ((1 : Int32) <<< (l1 &&& 31)))) fun σ5 => if ib v2 12 then (if ib v2 12 then (ls_ (sa σ5 5 v2.toNatClampNeg ((σ5.2.1 5 v2.toNatClampNeg) ||| ((1 : Int32) <<< (v3 &&& 31)))) fun σ6 => if ib v3 12 then (if ib v3 12 then (ls_ (sa σ6 5 v3.toNatClampNeg ((σ6.2.1 5 v3.toNatClampNeg) ||| ((1 : Int32) <<< (v2 &&& 31)))) fun σ7 => k18 σ7 (l1 + 1)) else none) else none) else none) else none) else none) else none) else none) else none) else none) else none)) q1.1 q1.2)
set_option maxRecDepth 100000 in
set_option maxHeartbeats 4000000 in
theorem wbX1_linkCaves_18 {x : FX} {g : GX} {ad : Nat → Nat} {ex M0 : va_W} {r : Int32} {τ : Sg} {F : Nat} (hX : RX x g M0 (Pv_ (HH g ad τ ++ ex)) 0 0) {k18 : Sg → Int32 → Rs} (h18 : ∀ (σ : Sg) (l1 : Int32), k18 σ l1 = some (r, τ) → Go x { frames := 1, cells := 0, slots := 0, locals := 23 } tX1_linkCaves g 18 [.ref (ad 1), .int l1, un_, un_] [] (HH g ad σ ++ ex) 0 0) (σ : Sg) (l1 : Int32) (H : bX1_linkCaves_18 F k18 σ l1 = some (r, τ)) : Go x { frames := 1, cells := 0, slots := 0, locals := 23 } tX1_linkCaves g 18 [.ref (ad 1), .int l1, un_, un_] [] (HH g ad σ ++ ex) 0 0 := by
  unfold bX1_linkCaves_18 at H
  refine g_iload_n (q := 19) (i := 1) dX1_linkCaves_18 rfl rfl rfl ?_
  refine g_bipush (q := 21) (v := 18) dX1_linkCaves_19 rfl (by decide) ?_
  refine g_icmp_ge (q := 24) (r := 100) dX1_linkCaves_21 (by decide) rfl (fun c21 => ?_) (fun c21 => ?_)
  · replace H := (if_pos c21).symm.trans H
    exact g_vret hX dX1_linkCaves_100 rfl (Nat.le_refl _) (Nat.le_refl _) (pvOk H)
  · replace H := (if_neg c21).symm.trans H
    refine g_aload_n (q := 25) (i := 0) dX1_linkCaves_24 rfl rfl rfl ?_
    refine g_iload_n (q := 26) (i := 1) dX1_linkCaves_25 rfl rfl rfl ?_
    obtain ⟨r1, σ1, e1, H⟩ := of_bnd H
    refine g_callV (q := 29) (rest := []) dX1_linkCaves_26 rfl cvX1_37 (ctX1_hasPassage e1) rfl rfl ⟨Nat.le_of_ble_eq_true rfl, Nat.le_of_ble_eq_true rfl⟩ ⟨Nat.le_refl _, Nat.le_refl _⟩ (Nat.le_of_ble_eq_true rfl) 1 hc1 rfl (fun r0 M9 hp => ?_)
    obtain ⟨rfl, rfl⟩ := hp
    show Go x _ _ g 29 [.ref (ad 1), .int l1, un_, un_] [.int r1] (HH g ad σ1 ++ ex) 0 0
    refine g_if_eq (q := 32) (r := 94) dX1_linkCaves_29 (by decide) rfl (fun c29 => ?_) (fun c29 => ?_)
    · replace H := (if_pos c29).symm.trans H
      refine g_iinc (q := 97) (b := l1 + 1) (L' := [.ref (ad 1), .int (l1 + 1), un_, un_]) dX1_linkCaves_94 rfl rfl rfl (Nat.le_of_ble_eq_true rfl) rfl ?_
      refine g_goto (q := 18) dX1_linkCaves_97 (by decide) ?_
      exact g_weak (L' := [.ref (ad 1), .int (l1 + 1), un_, un_]) ⟨Or.inr rfl, Or.inr rfl, Or.inl rfl, Or.inl rfl, trivial⟩ (h18 _ _ H)
    · replace H := (if_neg c29).symm.trans H
      refine g_aload_n (q := 33) (i := 0) dX1_linkCaves_32 rfl rfl rfl ?_
      refine g_get (q := 36) dX1_linkCaves_33 rfl foX1_9 1 hc1 rfl ?_
      refine g_iload_n (q := 37) (i := 1) dX1_linkCaves_36 rfl rfl rfl ?_
      obtain ⟨b37, H⟩ := of_chk H
      refine g_iald (q := 38) dX1_linkCaves_37 rfl 2 hc2 b37 ?_
      obtain ⟨v2, n2, H⟩ := of_li H
      refine g_name n2 ?_
      refine g_istore_n (q := 39) (L' := [.ref (ad 1), .int l1, .int v2, un_]) (i := 2) dX1_linkCaves_38 rfl rfl (Nat.le_of_ble_eq_true rfl) rfl ?_
      refine g_aload_n (q := 40) (i := 0) dX1_linkCaves_39 rfl rfl rfl ?_
      refine g_get (q := 43) dX1_linkCaves_40 rfl foX1_15 1 hc1 rfl ?_
      refine g_iload_n (q := 44) (i := 1) dX1_linkCaves_43 rfl rfl rfl ?_
      obtain ⟨b44, H⟩ := of_chk H
      refine g_iald (q := 45) dX1_linkCaves_44 rfl 3 hc3 b44 ?_
      obtain ⟨v3, n3, H⟩ := of_li H
      refine g_name n3 ?_
      refine g_istore_n (q := 46) (L' := [.ref (ad 1), .int l1, .int v2, .int v3]) (i := 3) dX1_linkCaves_45 rfl rfl (Nat.le_of_ble_eq_true rfl) rfl ?_
      refine g_aload_n (q := 47) (i := 0) dX1_linkCaves_46 rfl rfl rfl ?_
      refine g_get (q := 50) dX1_linkCaves_47 rfl foX1_18 1 hc1 rfl ?_
      refine g_iload_n (q := 51) (i := 2) dX1_linkCaves_50 rfl rfl rfl ?_
      refine g_dup2 (q := 52) dX1_linkCaves_51 rfl rfl rfl ?_
      obtain ⟨b52, H⟩ := of_chk H
      refine g_iald (q := 53) dX1_linkCaves_52 rfl 4 hc4 b52 ?_
      refine g_iconst (q := 54) (v := 1) dX1_linkCaves_53 rfl (by decide) ?_
      refine g_iload_n (q := 55) (i := 1) dX1_linkCaves_54 rfl rfl rfl ?_
      refine g_ishl (q := 56) dX1_linkCaves_55 rfl ?_
      refine g_ior (q := 57) dX1_linkCaves_56 rfl ?_
      obtain ⟨b57, H⟩ := of_chk H
      obtain ⟨σ4, n4, H⟩ := of_ls H
      refine g_iast (q := 58) dX1_linkCaves_57 rfl 4 hc4 b57 (ha4e n4) ?_
      refine g_aload_n (q := 59) (i := 0) dX1_linkCaves_58 rfl rfl rfl ?_
      refine g_get (q := 62) dX1_linkCaves_59 rfl foX1_18 1 hc1 rfl ?_
      refine g_iload_n (q := 63) (i := 3) dX1_linkCaves_62 rfl rfl rfl ?_
      refine g_dup2 (q := 64) dX1_linkCaves_63 rfl rfl rfl ?_
      obtain ⟨b64, H⟩ := of_chk H
      refine g_iald (q := 65) dX1_linkCaves_64 rfl 4 hc4 b64 ?_
      refine g_iconst (q := 66) (v := 1) dX1_linkCaves_65 rfl (by decide) ?_
      refine g_iload_n (q := 67) (i := 1) dX1_linkCaves_66 rfl rfl rfl ?_
      refine g_ishl (q := 68) dX1_linkCaves_67 rfl ?_
      refine g_ior (q := 69) dX1_linkCaves_68 rfl ?_
      obtain ⟨b69, H⟩ := of_chk H
      obtain ⟨σ5, n5, H⟩ := of_ls H
      refine g_iast (q := 70) dX1_linkCaves_69 rfl 4 hc4 b69 (ha4e n5) ?_
      refine g_aload_n (q := 71) (i := 0) dX1_linkCaves_70 rfl rfl rfl ?_
      refine g_get (q := 74) dX1_linkCaves_71 rfl foX1_21 1 hc1 rfl ?_
      refine g_iload_n (q := 75) (i := 2) dX1_linkCaves_74 rfl rfl rfl ?_
      refine g_dup2 (q := 76) dX1_linkCaves_75 rfl rfl rfl ?_
      obtain ⟨b76, H⟩ := of_chk H
      refine g_iald (q := 77) dX1_linkCaves_76 rfl 5 hc5 b76 ?_
      refine g_iconst (q := 78) (v := 1) dX1_linkCaves_77 rfl (by decide) ?_
      refine g_iload_n (q := 79) (i := 3) dX1_linkCaves_78 rfl rfl rfl ?_
      refine g_ishl (q := 80) dX1_linkCaves_79 rfl ?_
      refine g_ior (q := 81) dX1_linkCaves_80 rfl ?_
      obtain ⟨b81, H⟩ := of_chk H
      obtain ⟨σ6, n6, H⟩ := of_ls H
      refine g_iast (q := 82) dX1_linkCaves_81 rfl 5 hc5 b81 (ha5e n6) ?_
      refine g_aload_n (q := 83) (i := 0) dX1_linkCaves_82 rfl rfl rfl ?_
      refine g_get (q := 86) dX1_linkCaves_83 rfl foX1_21 1 hc1 rfl ?_
      refine g_iload_n (q := 87) (i := 3) dX1_linkCaves_86 rfl rfl rfl ?_
      refine g_dup2 (q := 88) dX1_linkCaves_87 rfl rfl rfl ?_
      obtain ⟨b88, H⟩ := of_chk H
      refine g_iald (q := 89) dX1_linkCaves_88 rfl 5 hc5 b88 ?_
      refine g_iconst (q := 90) (v := 1) dX1_linkCaves_89 rfl (by decide) ?_
      refine g_iload_n (q := 91) (i := 2) dX1_linkCaves_90 rfl rfl rfl ?_
      refine g_ishl (q := 92) dX1_linkCaves_91 rfl ?_
      refine g_ior (q := 93) dX1_linkCaves_92 rfl ?_
      obtain ⟨b93, H⟩ := of_chk H
      obtain ⟨σ7, n7, H⟩ := of_ls H
      refine g_iast (q := 94) dX1_linkCaves_93 rfl 5 hc5 b93 (ha5e n7) ?_
      refine g_iinc (q := 97) (b := l1 + 1) (L' := [.ref (ad 1), .int (l1 + 1), .int v2, .int v3]) dX1_linkCaves_94 rfl rfl rfl (Nat.le_of_ble_eq_true rfl) rfl ?_
      refine g_goto (q := 18) dX1_linkCaves_97 (by decide) ?_
      exact g_weak (L' := [.ref (ad 1), .int (l1 + 1), un_, un_]) ⟨Or.inr rfl, Or.inr rfl, Or.inl rfl, Or.inl rfl, trivial⟩ (h18 _ _ H)
def fX1_linkCaves_18 (F : Nat)  : Nat → Sg → Int32 → Rs
  | 0 => fun _ _ => none
  | n + 1 => fun σ l1 => bX1_linkCaves_18 F  (fX1_linkCaves_18 F  n) σ l1
theorem wfX1_linkCaves_18 {x : FX} {g : GX} {ad : Nat → Nat} {ex M0 : va_W} {r : Int32} {τ : Sg} {F : Nat} (hX : RX x g M0 (Pv_ (HH g ad τ ++ ex)) 0 0)   : ∀ (n : Nat) (σ : Sg) (l1 : Int32), fX1_linkCaves_18 F  n σ l1 = some (r, τ) → Go x { frames := 1, cells := 0, slots := 0, locals := 23 } tX1_linkCaves g 18 [.ref (ad 1), .int l1, un_, un_] [] (HH g ad σ ++ ex) 0 0
  | 0, _, _, H => nomatch (show (none : Rs) = some _ from H)
  | n + 1, σ, l1, H => wbX1_linkCaves_18 (F := F) hX  (fun σ2 z1 H2 => wfX1_linkCaves_18 (F := F) hX  n σ2 z1 H2) σ l1 H
def fX1_linkCaves (F : Nat) (σ : Sg)  : Rs := (fJ7_fill_53178_4 F σ ((0 : Int32))).bind fun q1 => (fun (r1 : Int32) (σ1 : Sg) => (fJ7_fill_53178_5 F σ1 ((0 : Int32))).bind fun q2 => (fun (r2 : Int32) (σ2 : Sg) => fX1_linkCaves_18 F F σ2 ((0 : Int32))) q2.1 q2.2) q1.1 q1.2
set_option maxRecDepth 100000 in
set_option maxHeartbeats 4000000 in
theorem ctX1_linkCaves {l : Launch} {g : GX} {ad : Nat → Nat} {ex : va_W} {r : Int32} {τ σ : Sg} {F : Nat}  (H : fX1_linkCaves F σ  = some (r, τ)) : Ct l g yX1_linkCaves tX1_linkCaves 1 23 0 0 [.ref (ad 1)] (HH g ad σ ++ ex) (Pv_ (HH g ad τ ++ ex)) := by
  refine Ct.of (L := [.ref (ad 1), un_, un_, un_]) (by decide +kernel) rfl rfl rfl (Nat.le_of_ble_eq_true rfl) rfl (fun x _ hX => ?_)
  unfold fX1_linkCaves at H
  refine g_aload_n (q := 1) (i := 0) dX1_linkCaves_0 rfl rfl rfl ?_
  refine g_get (q := 4) dX1_linkCaves_1 rfl foX1_18 1 hc1 rfl ?_
  refine g_iconst (q := 5) (v := 0) dX1_linkCaves_4 rfl (by decide) ?_
  obtain ⟨r1, σ1, e1, H⟩ := of_bnd H
  refine g_callS (q := 8) (rest := []) dX1_linkCaves_5 rfl csX1_50 (ctJ7_fill_53178_4 e1) rfl rfl ⟨Nat.le_of_ble_eq_true rfl, Nat.le_of_ble_eq_true rfl⟩ ⟨Nat.le_refl _, Nat.le_refl _⟩ (Nat.le_of_ble_eq_true rfl) (fun r0 M9 hp => ?_)
  obtain ⟨rfl, rfl⟩ := hp
  show Go x _ _ g 8 [.ref (ad 1), un_, un_, un_] [] (HH g ad σ1 ++ ex) 0 0
  refine g_aload_n (q := 9) (i := 0) dX1_linkCaves_8 rfl rfl rfl ?_
  refine g_get (q := 12) dX1_linkCaves_9 rfl foX1_21 1 hc1 rfl ?_
  refine g_iconst (q := 13) (v := 0) dX1_linkCaves_12 rfl (by decide) ?_
  obtain ⟨r2, σ2, e2, H⟩ := of_bnd H
  refine g_callS (q := 16) (rest := []) dX1_linkCaves_13 rfl csX1_50 (ctJ7_fill_53178_5 e2) rfl rfl ⟨Nat.le_of_ble_eq_true rfl, Nat.le_of_ble_eq_true rfl⟩ ⟨Nat.le_refl _, Nat.le_refl _⟩ (Nat.le_of_ble_eq_true rfl) (fun r0 M9 hp => ?_)
  obtain ⟨rfl, rfl⟩ := hp
  show Go x _ _ g 16 [.ref (ad 1), un_, un_, un_] [] (HH g ad σ2 ++ ex) 0 0
  refine g_iconst (q := 17) (v := 0) dX1_linkCaves_16 rfl (by decide) ?_
  refine g_istore_n (q := 18) (L' := [.ref (ad 1), .int ((0 : Int32)), un_, un_]) (i := 1) dX1_linkCaves_17 rfl rfl (Nat.le_of_ble_eq_true rfl) rfl ?_
  exact g_weak (L' := [.ref (ad 1), .int ((0 : Int32)), un_, un_]) ⟨Or.inr rfl, Or.inr rfl, Or.inl rfl, Or.inl rfl, trivial⟩ (wfX1_linkCaves_18 (F := F) hX  F _ _ H)
def fX1_clear (F : Nat) (σ : Sg) (l1 : Int32) : Rs := ls_ (sv σ 0 l1) fun σ1 => ls_ (sv σ1 1 (0 : Int32)) fun σ2 => ls_ (sv σ2 2 (0 : Int32)) fun σ3 => (fX1_linkCaves F σ3).bind fun q4 => (fun (r4 : Int32) (σ4 : Sg) => some (0, σ4)) q4.1 q4.2
set_option maxRecDepth 100000 in
set_option maxHeartbeats 4000000 in
theorem ctX1_clear {l : Launch} {g : GX} {ad : Nat → Nat} {ex : va_W} {r : Int32} {τ σ : Sg} {F : Nat} {l1 : Int32} (H : fX1_clear F σ l1 = some (r, τ)) : Ct l g yX1_clear tX1_clear 2 46 0 0 [.ref (ad 1), .int l1] (HH g ad σ ++ ex) (Pv_ (HH g ad τ ++ ex)) := by
  refine Ct.of (L := [.ref (ad 1), .int l1]) (by decide +kernel) rfl rfl rfl (Nat.le_of_ble_eq_true rfl) rfl (fun x _ hX => ?_)
  unfold fX1_clear at H
  refine g_aload_n (q := 1) (i := 0) dX1_clear_0 rfl rfl rfl ?_
  refine g_iload_n (q := 2) (i := 1) dX1_clear_1 rfl rfl rfl ?_
  obtain ⟨σ1, n1, H⟩ := of_ls H
  refine g_put (q := 5) dX1_clear_2 rfl (fpX1_24 _) 1 hc1 rfl rfl (Nat.le_of_ble_eq_true rfl) (hs0e n1) ?_
  refine g_aload_n (q := 6) (i := 0) dX1_clear_5 rfl rfl rfl ?_
  refine g_iconst (q := 7) (v := 0) dX1_clear_6 rfl (by decide) ?_
  obtain ⟨σ2, n2, H⟩ := of_ls H
  refine g_put (q := 10) dX1_clear_7 rfl (fpX1_28 _) 1 hc1 rfl rfl (Nat.le_of_ble_eq_true rfl) (hs1e n2) ?_
  refine g_aload_n (q := 11) (i := 0) dX1_clear_10 rfl rfl rfl ?_
  refine g_iconst (q := 12) (v := 0) dX1_clear_11 rfl (by decide) ?_
  obtain ⟨σ3, n3, H⟩ := of_ls H
  refine g_put (q := 15) dX1_clear_12 rfl (fpX1_31 _) 1 hc1 rfl rfl (Nat.le_of_ble_eq_true rfl) (hs2e n3) ?_
  refine g_aload_n (q := 16) (i := 0) dX1_clear_15 rfl rfl rfl ?_
  obtain ⟨r4, σ4, e4, H⟩ := of_bnd H
  refine g_callV (q := 19) (rest := []) dX1_clear_16 rfl cvX1_34 (ctX1_linkCaves e4) rfl rfl ⟨Nat.le_of_ble_eq_true rfl, Nat.le_of_ble_eq_true rfl⟩ ⟨Nat.le_refl _, Nat.le_refl _⟩ (Nat.le_of_ble_eq_true rfl) 1 hc1 rfl (fun r0 M9 hp => ?_)
  obtain ⟨rfl, rfl⟩ := hp
  show Go x _ _ g 19 [.ref (ad 1), .int l1] [] (HH g ad σ4 ++ ex) 0 0
  exact g_vret hX dX1_clear_19 rfl (Nat.le_refl _) (Nat.le_refl _) (pvOk H)
def bX2_reset_2 (F : Nat) (k2 : Sg → Int32 → Rs) (σ : Sg) (l1 : Int32) : Rs := if (12 : Int32) ≤ l1 then (some (0, σ)) else (if ib l1 12 then (ls_ (sa σ 15 l1.toNatClampNeg l1) fun σ1 => k2 σ1 (l1 + 1)) else none)
set_option maxRecDepth 100000 in
set_option maxHeartbeats 4000000 in
theorem wbX2_reset_2 {x : FX} {g : GX} {ad : Nat → Nat} {ex M0 : va_W} {r : Int32} {τ : Sg} {F : Nat} (hX : RX x g M0 (Pv_ (HH g ad τ ++ ex)) 0 0) {k2 : Sg → Int32 → Rs} (h2 : ∀ (σ : Sg) (l1 : Int32), k2 σ l1 = some (r, τ) → Go x { frames := 0, cells := 0, slots := 0, locals := 0 } tX2_reset g 2 [.ref (ad 14), .int l1] [] (HH g ad σ ++ ex) 0 0) (σ : Sg) (l1 : Int32) (H : bX2_reset_2 F k2 σ l1 = some (r, τ)) : Go x { frames := 0, cells := 0, slots := 0, locals := 0 } tX2_reset g 2 [.ref (ad 14), .int l1] [] (HH g ad σ ++ ex) 0 0 := by
  unfold bX2_reset_2 at H
  refine g_iload_n (q := 3) (i := 1) dX2_reset_2 rfl rfl rfl ?_
  refine g_bipush (q := 5) (v := 12) dX2_reset_3 rfl (by decide) ?_
  refine g_icmp_ge (q := 8) (r := 21) dX2_reset_5 (by decide) rfl (fun c5 => ?_) (fun c5 => ?_)
  · replace H := (if_pos c5).symm.trans H
    exact g_vret hX dX2_reset_21 rfl (Nat.le_refl _) (Nat.le_refl _) (pvOk H)
  · replace H := (if_neg c5).symm.trans H
    refine g_aload_n (q := 9) (i := 0) dX2_reset_8 rfl rfl rfl ?_
    refine g_get (q := 12) dX2_reset_9 rfl foX2_9 14 hc14 rfl ?_
    refine g_iload_n (q := 13) (i := 1) dX2_reset_12 rfl rfl rfl ?_
    refine g_iload_n (q := 14) (i := 1) dX2_reset_13 rfl rfl rfl ?_
    obtain ⟨b14, H⟩ := of_chk H
    obtain ⟨σ1, n1, H⟩ := of_ls H
    refine g_iast (q := 15) dX2_reset_14 rfl 15 hc15 b14 (ha15e n1) ?_
    refine g_iinc (q := 18) (b := l1 + 1) (L' := [.ref (ad 14), .int (l1 + 1)]) dX2_reset_15 rfl rfl rfl (Nat.le_of_ble_eq_true rfl) rfl ?_
    refine g_goto (q := 2) dX2_reset_18 (by decide) ?_
    exact g_weak (L' := [.ref (ad 14), .int (l1 + 1)]) ⟨Or.inr rfl, Or.inr rfl, trivial⟩ (h2 _ _ H)
def fX2_reset_2 (F : Nat)  : Nat → Sg → Int32 → Rs
  | 0 => fun _ _ => none
  | n + 1 => fun σ l1 => bX2_reset_2 F  (fX2_reset_2 F  n) σ l1
theorem wfX2_reset_2 {x : FX} {g : GX} {ad : Nat → Nat} {ex M0 : va_W} {r : Int32} {τ : Sg} {F : Nat} (hX : RX x g M0 (Pv_ (HH g ad τ ++ ex)) 0 0)   : ∀ (n : Nat) (σ : Sg) (l1 : Int32), fX2_reset_2 F  n σ l1 = some (r, τ) → Go x { frames := 0, cells := 0, slots := 0, locals := 0 } tX2_reset g 2 [.ref (ad 14), .int l1] [] (HH g ad σ ++ ex) 0 0
  | 0, _, _, H => nomatch (show (none : Rs) = some _ from H)
  | n + 1, σ, l1, H => wbX2_reset_2 (F := F) hX  (fun σ2 z1 H2 => wfX2_reset_2 (F := F) hX  n σ2 z1 H2) σ l1 H
def fX2_reset (F : Nat) (σ : Sg)  : Rs := fX2_reset_2 F F σ ((0 : Int32))
set_option maxRecDepth 100000 in
set_option maxHeartbeats 4000000 in
theorem ctX2_reset {l : Launch} {g : GX} {ad : Nat → Nat} {ex : va_W} {r : Int32} {τ σ : Sg} {F : Nat}  (H : fX2_reset F σ  = some (r, τ)) : Ct l g yX2_reset tX2_reset 0 0 0 0 [.ref (ad 14)] (HH g ad σ ++ ex) (Pv_ (HH g ad τ ++ ex)) := by
  refine Ct.of (L := [.ref (ad 14), un_]) (by decide +kernel) rfl rfl rfl (Nat.le_of_ble_eq_true rfl) rfl (fun x _ hX => ?_)
  unfold fX2_reset at H
  refine g_iconst (q := 1) (v := 0) dX2_reset_0 rfl (by decide) ?_
  refine g_istore_n (q := 2) (L' := [.ref (ad 14), .int ((0 : Int32))]) (i := 1) dX2_reset_1 rfl rfl (Nat.le_of_ble_eq_true rfl) rfl ?_
  exact g_weak (L' := [.ref (ad 14), .int ((0 : Int32))]) ⟨Or.inr rfl, Or.inr rfl, trivial⟩ (wfX2_reset_2 (F := F) hX  F _ _ H)
def bJ7_fill_53178_13_5 (F : Nat) (k5 : Sg → Int32 → Int32 → Int32 → Rs) (σ : Sg) (l1 : Int32) (l2 : Int32) (l3 : Int32) : Rs := if l3 ≤ l2 then (some (0, σ)) else (if ib l2 12 then (ls_ (sa σ 13 l2.toNatClampNeg l1) fun σ1 => k5 σ1 (l1) (l2 + 1) (l3)) else none)
set_option maxRecDepth 100000 in
set_option maxHeartbeats 4000000 in
theorem wbJ7_fill_53178_13_5 {x : FX} {g : GX} {ad : Nat → Nat} {ex M0 : va_W} {r : Int32} {τ : Sg} {F : Nat} (hX : RX x g M0 (Pv_ (HH g ad τ ++ ex)) 0 0) {k5 : Sg → Int32 → Int32 → Int32 → Rs} (h5 : ∀ (σ : Sg) (l1 : Int32) (l2 : Int32) (l3 : Int32), k5 σ l1 l2 l3 = some (r, τ) → Go x { frames := 0, cells := 0, slots := 0, locals := 0 } tJ7_fill_53178 g 5 [.ref (ad 13), .int l1, .int l2, .int l3] [] (HH g ad σ ++ ex) 0 0) (σ : Sg) (l1 : Int32) (l2 : Int32) (l3 : Int32) (H : bJ7_fill_53178_13_5 F k5 σ l1 l2 l3 = some (r, τ)) : Go x { frames := 0, cells := 0, slots := 0, locals := 0 } tJ7_fill_53178 g 5 [.ref (ad 13), .int l1, .int l2, .int l3] [] (HH g ad σ ++ ex) 0 0 := by
  unfold bJ7_fill_53178_13_5 at H
  refine g_iload_n (q := 6) (i := 2) dJ7_fill_53178_5 rfl rfl rfl ?_
  refine g_iload_n (q := 7) (i := 3) dJ7_fill_53178_6 rfl rfl rfl ?_
  refine g_icmp_ge (q := 10) (r := 20) dJ7_fill_53178_7 (by decide) rfl (fun c7 => ?_) (fun c7 => ?_)
  · replace H := (if_pos c7).symm.trans H
    exact g_vret hX dJ7_fill_53178_20 rfl (Nat.le_refl _) (Nat.le_refl _) (pvOk H)
  · replace H := (if_neg c7).symm.trans H
    refine g_aload_n (q := 11) (i := 0) dJ7_fill_53178_10 rfl rfl rfl ?_
    refine g_iload_n (q := 12) (i := 2) dJ7_fill_53178_11 rfl rfl rfl ?_
    refine g_iload_n (q := 13) (i := 1) dJ7_fill_53178_12 rfl rfl rfl ?_
    obtain ⟨b13, H⟩ := of_chk H
    obtain ⟨σ1, n1, H⟩ := of_ls H
    refine g_iast (q := 14) dJ7_fill_53178_13 rfl 13 hc13 b13 (ha13e n1) ?_
    refine g_iinc (q := 17) (b := l2 + 1) (L' := [.ref (ad 13), .int l1, .int (l2 + 1), .int l3]) dJ7_fill_53178_14 rfl rfl rfl (Nat.le_of_ble_eq_true rfl) rfl ?_
    refine g_goto (q := 5) dJ7_fill_53178_17 (by decide) ?_
    exact g_weak (L' := [.ref (ad 13), .int l1, .int (l2 + 1), .int l3]) ⟨Or.inr rfl, Or.inr rfl, Or.inr rfl, Or.inr rfl, trivial⟩ (h5 _ _ _ _ H)
def fJ7_fill_53178_13_5 (F : Nat)  : Nat → Sg → Int32 → Int32 → Int32 → Rs
  | 0 => fun _ _ _ _ => none
  | n + 1 => fun σ l1 l2 l3 => bJ7_fill_53178_13_5 F  (fJ7_fill_53178_13_5 F  n) σ l1 l2 l3
theorem wfJ7_fill_53178_13_5 {x : FX} {g : GX} {ad : Nat → Nat} {ex M0 : va_W} {r : Int32} {τ : Sg} {F : Nat} (hX : RX x g M0 (Pv_ (HH g ad τ ++ ex)) 0 0)   : ∀ (n : Nat) (σ : Sg) (l1 : Int32) (l2 : Int32) (l3 : Int32), fJ7_fill_53178_13_5 F  n σ l1 l2 l3 = some (r, τ) → Go x { frames := 0, cells := 0, slots := 0, locals := 0 } tJ7_fill_53178 g 5 [.ref (ad 13), .int l1, .int l2, .int l3] [] (HH g ad σ ++ ex) 0 0
  | 0, _, _, _, _, H => nomatch (show (none : Rs) = some _ from H)
  | n + 1, σ, l1, l2, l3, H => wbJ7_fill_53178_13_5 (F := F) hX  (fun σ2 z1 z2 z3 H2 => wfJ7_fill_53178_13_5 (F := F) hX  n σ2 z1 z2 z3 H2) σ l1 l2 l3 H
def fJ7_fill_53178_13 (F : Nat) (σ : Sg) (l1 : Int32) : Rs := fJ7_fill_53178_13_5 F F σ (l1) ((0 : Int32)) ((12 : Int32))
set_option maxRecDepth 100000 in
set_option maxHeartbeats 4000000 in
theorem ctJ7_fill_53178_13 {l : Launch} {g : GX} {ad : Nat → Nat} {ex : va_W} {r : Int32} {τ σ : Sg} {F : Nat} {l1 : Int32} (H : fJ7_fill_53178_13 F σ l1 = some (r, τ)) : Ct l g yJ7_fill_53178 tJ7_fill_53178 0 0 0 0 [.ref (ad 13), .int l1] (HH g ad σ ++ ex) (Pv_ (HH g ad τ ++ ex)) := by
  refine Ct.of (L := [.ref (ad 13), .int l1, un_, un_]) (by decide +kernel) rfl rfl rfl (Nat.le_of_ble_eq_true rfl) rfl (fun x _ hX => ?_)
  unfold fJ7_fill_53178_13 at H
  refine g_iconst (q := 1) (v := 0) dJ7_fill_53178_0 rfl (by decide) ?_
  refine g_istore_n (q := 2) (L' := [.ref (ad 13), .int l1, .int ((0 : Int32)), un_]) (i := 2) dJ7_fill_53178_1 rfl rfl (Nat.le_of_ble_eq_true rfl) rfl ?_
  refine g_aload_n (q := 3) (i := 0) dJ7_fill_53178_2 rfl rfl rfl ?_
  refine g_alen (q := 4) (v := 12) dJ7_fill_53178_3 rfl 13 hc13 rfl ?_
  refine g_istore_n (q := 5) (L' := [.ref (ad 13), .int l1, .int ((0 : Int32)), .int ((12 : Int32))]) (i := 3) dJ7_fill_53178_4 rfl rfl (Nat.le_of_ble_eq_true rfl) rfl ?_
  exact g_weak (L' := [.ref (ad 13), .int l1, .int ((0 : Int32)), .int ((12 : Int32))]) ⟨Or.inr rfl, Or.inr rfl, Or.inr rfl, Or.inr rfl, trivial⟩ (wfJ7_fill_53178_13_5 (F := F) hX  F _ _ _ _ H)
def fX1_allCaves (F : Nat) (σ : Sg)  : Rs := some (((1 : Int32) <<< ((σ.1 0) &&& 31)) - (1 : Int32), σ)
set_option maxRecDepth 100000 in
set_option maxHeartbeats 4000000 in
theorem ctX1_allCaves {l : Launch} {g : GX} {ad : Nat → Nat} {ex : va_W} {r : Int32} {τ σ : Sg} {F : Nat}  (H : fX1_allCaves F σ  = some (r, τ)) : Ct l g yX1_allCaves tX1_allCaves 0 0 0 0 [.ref (ad 1)] (HH g ad σ ++ ex) (Pi_ r (HH g ad τ ++ ex)) := by
  refine Ct.of (L := [.ref (ad 1)]) (by decide +kernel) rfl rfl rfl (Nat.le_of_ble_eq_true rfl) rfl (fun x _ hX => ?_)
  unfold fX1_allCaves at H
  refine g_iconst (q := 1) (v := 1) dX1_allCaves_0 rfl (by decide) ?_
  refine g_aload_n (q := 2) (i := 0) dX1_allCaves_1 rfl rfl rfl ?_
  refine g_get (q := 5) dX1_allCaves_2 rfl foX1_24 1 hc1 rfl ?_
  refine g_ishl (q := 6) dX1_allCaves_5 rfl ?_
  refine g_iconst (q := 7) (v := 1) dX1_allCaves_6 rfl (by decide) ?_
  refine g_isub (q := 8) dX1_allCaves_7 rfl ?_
  exact g_iret hX dX1_allCaves_8 rfl rfl (Nat.le_refl _) (Nat.le_refl _) (piOk H)
def fX4_begin_12 (F : Nat) (σ : Sg)  : Rs := (fJ7_fill_53178_13 F σ ((0 : Int32))).bind fun q1 => (fun (r1 : Int32) (σ1 : Sg) => ls_ (sv σ1 5 (0 : Int32)) fun σ2 => ls_ (sv σ2 6 (0 : Int32)) fun σ3 => (fX1_allCaves F σ3).bind fun q4 => (fun (r4 : Int32) (σ4 : Sg) => ls_ (sv σ4 7 r4) fun σ5 => some (0, σ5)) q4.1 q4.2) q1.1 q1.2
set_option maxRecDepth 100000 in
set_option maxHeartbeats 4000000 in
theorem ctX4_begin_12 {l : Launch} {g : GX} {ad : Nat → Nat} {ex : va_W} {r : Int32} {τ σ : Sg} {F : Nat}  (H : fX4_begin_12 F σ  = some (r, τ)) : Ct l g yX4_begin tX4_begin 1 23 0 0 [.ref (ad 12), .ref (ad 1)] (HH g ad σ ++ ex) (Pv_ (HH g ad τ ++ ex)) := by
  refine Ct.of (L := [.ref (ad 12), .ref (ad 1)]) (by decide +kernel) rfl rfl rfl (Nat.le_of_ble_eq_true rfl) rfl (fun x _ hX => ?_)
  unfold fX4_begin_12 at H
  refine g_aload_n (q := 1) (i := 0) dX4_begin_0 rfl rfl rfl ?_
  refine g_get (q := 4) dX4_begin_1 rfl foX4_9 12 hc12 rfl ?_
  refine g_iconst (q := 5) (v := 0) dX4_begin_4 rfl (by decide) ?_
  obtain ⟨r1, σ1, e1, H⟩ := of_bnd H
  refine g_callS (q := 8) (rest := []) dX4_begin_5 rfl csX4_15 (ctJ7_fill_53178_13 e1) rfl rfl ⟨Nat.le_of_ble_eq_true rfl, Nat.le_of_ble_eq_true rfl⟩ ⟨Nat.le_refl _, Nat.le_refl _⟩ (Nat.le_of_ble_eq_true rfl) (fun r0 M9 hp => ?_)
  obtain ⟨rfl, rfl⟩ := hp
  show Go x _ _ g 8 [.ref (ad 12), .ref (ad 1)] [] (HH g ad σ1 ++ ex) 0 0
  refine g_aload_n (q := 9) (i := 0) dX4_begin_8 rfl rfl rfl ?_
  refine g_iconst (q := 10) (v := 0) dX4_begin_9 rfl (by decide) ?_
  obtain ⟨σ2, n2, H⟩ := of_ls H
  refine g_put (q := 13) dX4_begin_10 rfl (fpX4_21 _) 12 hc12 rfl rfl (Nat.le_of_ble_eq_true rfl) (hs5e n2) ?_
  refine g_aload_n (q := 14) (i := 0) dX4_begin_13 rfl rfl rfl ?_
  refine g_iconst (q := 15) (v := 0) dX4_begin_14 rfl (by decide) ?_
  obtain ⟨σ3, n3, H⟩ := of_ls H
  refine g_put (q := 18) dX4_begin_15 rfl (fpX4_25 _) 12 hc12 rfl rfl (Nat.le_of_ble_eq_true rfl) (hs6e n3) ?_
  refine g_aload_n (q := 19) (i := 0) dX4_begin_18 rfl rfl rfl ?_
  refine g_aload_n (q := 20) (i := 1) dX4_begin_19 rfl rfl rfl ?_
  obtain ⟨r4, σ4, e4, H⟩ := of_bnd H
  refine g_callV (q := 23) (rest := [.ref (ad 12)]) dX4_begin_20 rfl cvX4_28 (ctX1_allCaves e4) rfl rfl ⟨Nat.le_of_ble_eq_true rfl, Nat.le_of_ble_eq_true rfl⟩ ⟨Nat.le_refl _, Nat.le_refl _⟩ (Nat.le_of_ble_eq_true rfl) 1 hc1 rfl (fun r0 M9 hp => ?_)
  obtain ⟨rfl, rfl⟩ := hp
  show Go x _ _ g 23 [.ref (ad 12), .ref (ad 1)] [.int r4, .ref (ad 12)] (HH g ad σ4 ++ ex) 0 0
  obtain ⟨σ5, n5, H⟩ := of_ls H
  refine g_put (q := 26) dX4_begin_23 rfl (fpX4_34 _) 12 hc12 rfl rfl (Nat.le_of_ble_eq_true rfl) (hs7e n5) ?_
  exact g_vret hX dX4_begin_26 rfl (Nat.le_refl _) (Nat.le_refl _) (pvOk H)
def fX3_begin (F : Nat) (σ : Sg)  : Rs := (fX4_begin_12 F σ).bind fun q1 => (fun (r1 : Int32) (σ1 : Sg) => ls_ (sv σ1 3 (0 : Int32)) fun σ2 => ls_ (sv σ2 4 (0 : Int32)) fun σ3 => some (0, σ3)) q1.1 q1.2
set_option maxRecDepth 100000 in
set_option maxHeartbeats 4000000 in
theorem ctX3_begin {l : Launch} {g : GX} {ad : Nat → Nat} {ex : va_W} {r : Int32} {τ σ : Sg} {F : Nat}  (H : fX3_begin F σ  = some (r, τ)) : Ct l g yX3_begin tX3_begin 2 44 0 0 [.ref (ad 6)] (HH g ad σ ++ ex) (Pv_ (HH g ad τ ++ ex)) := by
  refine Ct.of (L := [.ref (ad 6)]) (by decide +kernel) rfl rfl rfl (Nat.le_of_ble_eq_true rfl) rfl (fun x _ hX => ?_)
  unfold fX3_begin at H
  refine g_aload_n (q := 1) (i := 0) dX3_begin_0 rfl rfl rfl ?_
  refine g_get (q := 4) dX3_begin_1 rfl foX3_12 6 hc6 rfl ?_
  refine g_aload_n (q := 5) (i := 0) dX3_begin_4 rfl rfl rfl ?_
  refine g_get (q := 8) dX3_begin_5 rfl foX3_34 6 hc6 rfl ?_
  obtain ⟨r1, σ1, e1, H⟩ := of_bnd H
  refine g_callV (q := 11) (rest := []) dX3_begin_8 rfl cvX3_38 (ctX4_begin_12 e1) rfl rfl ⟨Nat.le_of_ble_eq_true rfl, Nat.le_of_ble_eq_true rfl⟩ ⟨Nat.le_refl _, Nat.le_refl _⟩ (Nat.le_of_ble_eq_true rfl) 12 hc12 rfl (fun r0 M9 hp => ?_)
  obtain ⟨rfl, rfl⟩ := hp
  show Go x _ _ g 11 [.ref (ad 6)] [] (HH g ad σ1 ++ ex) 0 0
  refine g_aload_n (q := 12) (i := 0) dX3_begin_11 rfl rfl rfl ?_
  refine g_iconst (q := 13) (v := 0) dX3_begin_12 rfl (by decide) ?_
  obtain ⟨σ2, n2, H⟩ := of_ls H
  refine g_put (q := 16) dX3_begin_13 rfl (fpX3_42 _) 6 hc6 rfl rfl (Nat.le_of_ble_eq_true rfl) (hs3e n2) ?_
  refine g_aload_n (q := 17) (i := 0) dX3_begin_16 rfl rfl rfl ?_
  refine g_iconst (q := 18) (v := 0) dX3_begin_17 rfl (by decide) ?_
  obtain ⟨σ3, n3, H⟩ := of_ls H
  refine g_put (q := 21) dX3_begin_18 rfl (fpX3_46 _) 6 hc6 rfl rfl (Nat.le_of_ble_eq_true rfl) (hs4e n3) ?_
  exact g_vret hX dX3_begin_21 rfl (Nat.le_refl _) (Nat.le_refl _) (pvOk H)
def fX6_forgetSearchAndPlan (F : Nat) (σ : Sg)  : Rs := (fX3_begin F σ).bind fun q1 => (fun (r1 : Int32) (σ1 : Sg) => ls_ (sw σ1 .null) fun σ2 => some (0, σ2)) q1.1 q1.2
set_option maxRecDepth 100000 in
set_option maxHeartbeats 4000000 in
theorem ctX6_forgetSearchAndPlan {l : Launch} {g : GX} {ad : Nat → Nat} {ex : va_W} {r : Int32} {τ σ : Sg} {F : Nat}  (H : fX6_forgetSearchAndPlan F σ  = some (r, τ)) : Ct l g yX6_forgetSearchAndPlan tX6_forgetSearchAndPlan 3 64 0 0 [.ref (ad 0)] (HH g ad σ ++ ex) (Pv_ (HH g ad τ ++ ex)) := by
  refine Ct.of (L := [.ref (ad 0)]) (by decide +kernel) rfl rfl rfl (Nat.le_of_ble_eq_true rfl) rfl (fun x _ hX => ?_)
  unfold fX6_forgetSearchAndPlan at H
  refine g_aload_n (q := 1) (i := 0) dX6_forgetSearchAndPlan_0 rfl rfl rfl ?_
  refine g_get (q := 4) dX6_forgetSearchAndPlan_1 rfl foX6_21 0 hc0 rfl ?_
  obtain ⟨r1, σ1, e1, H⟩ := of_bnd H
  refine g_callV (q := 7) (rest := []) dX6_forgetSearchAndPlan_4 rfl cvX6_97 (ctX3_begin e1) rfl rfl ⟨Nat.le_of_ble_eq_true rfl, Nat.le_of_ble_eq_true rfl⟩ ⟨Nat.le_refl _, Nat.le_refl _⟩ (Nat.le_of_ble_eq_true rfl) 6 hc6 rfl (fun r0 M9 hp => ?_)
  obtain ⟨rfl, rfl⟩ := hp
  show Go x _ _ g 7 [.ref (ad 0)] [] (HH g ad σ1 ++ ex) 0 0
  refine g_aload_n (q := 8) (i := 0) dX6_forgetSearchAndPlan_7 rfl rfl rfl ?_
  refine g_null (q := 9) dX6_forgetSearchAndPlan_8 rfl ?_
  obtain ⟨σ2, n2, H⟩ := of_ls H
  refine g_put (q := 12) dX6_forgetSearchAndPlan_9 rfl (fpX6_46 _) 0 hc0 rfl rfl (Nat.le_of_ble_eq_true rfl) (hswe n2) ?_
  exact g_vret hX dX6_forgetSearchAndPlan_12 rfl (Nat.le_refl _) (Nat.le_refl _) (pvOk H)
def fX6_caves (F : Nat) (σ : Sg) (l1 : Int32) : Rs := if l1 < (0 : Int32) then (some ((0 : Int32), σ)) else (if l1 ≤ (12 : Int32) then ((fX1_clear F σ l1).bind fun q1 => (fun (r1 : Int32) (σ1 : Sg) => (fX2_reset F σ1).bind fun q2 => (fun (r2 : Int32) (σ2 : Sg) => (fX6_forgetSearchAndPlan F σ2).bind fun q3 => (fun (r3 : Int32) (σ3 : Sg) => some ((1 : Int32), σ3)) q3.1 q3.2) q2.1 q2.2) q1.1 q1.2) else (some ((0 : Int32), σ)))
set_option maxRecDepth 100000 in
set_option maxHeartbeats 4000000 in
theorem ctX6_caves {l : Launch} {g : GX} {ad : Nat → Nat} {ex : va_W} {r : Int32} {τ σ : Sg} {F : Nat} {l1 : Int32} (H : fX6_caves F σ l1 = some (r, τ)) : Ct l g yX6_caves tX6_caves 4 84 0 0 [.ref (ad 0), .int l1] (HH g ad σ ++ ex) (Pi_ r (HH g ad τ ++ ex)) := by
  refine Ct.of (L := [.ref (ad 0), .int l1]) (by decide +kernel) rfl rfl rfl (Nat.le_of_ble_eq_true rfl) rfl (fun x _ hX => ?_)
  unfold fX6_caves at H
  refine g_iload_n (q := 1) (i := 1) dX6_caves_0 rfl rfl rfl ?_
  refine g_if_lt (q := 4) (r := 10) dX6_caves_1 (by decide) rfl (fun c1 => ?_) (fun c1 => ?_)
  · replace H := (if_pos c1).symm.trans H
    refine g_iconst (q := 11) (v := 0) dX6_caves_10 rfl (by decide) ?_
    exact g_iret hX dX6_caves_11 rfl rfl (Nat.le_refl _) (Nat.le_refl _) (piOk H)
  · replace H := (if_neg c1).symm.trans H
    refine g_iload_n (q := 5) (i := 1) dX6_caves_4 rfl rfl rfl ?_
    refine g_bipush (q := 7) (v := 12) dX6_caves_5 rfl (by decide) ?_
    refine g_icmp_le (q := 10) (r := 12) dX6_caves_7 (by decide) rfl (fun c7 => ?_) (fun c7 => ?_)
    · replace H := (if_pos c7).symm.trans H
      refine g_aload_n (q := 13) (i := 0) dX6_caves_12 rfl rfl rfl ?_
      refine g_get (q := 16) dX6_caves_13 rfl foX6_10 0 hc0 rfl ?_
      refine g_iload_n (q := 17) (i := 1) dX6_caves_16 rfl rfl rfl ?_
      obtain ⟨r1, σ1, e1, H⟩ := of_bnd H
      refine g_callV (q := 20) (rest := []) dX6_caves_17 rfl cvX6_50 (ctX1_clear e1) rfl rfl ⟨Nat.le_of_ble_eq_true rfl, Nat.le_of_ble_eq_true rfl⟩ ⟨Nat.le_refl _, Nat.le_refl _⟩ (Nat.le_of_ble_eq_true rfl) 1 hc1 rfl (fun r0 M9 hp => ?_)
      obtain ⟨rfl, rfl⟩ := hp
      show Go x _ _ g 20 [.ref (ad 0), .int l1] [] (HH g ad σ1 ++ ex) 0 0
      refine g_aload_n (q := 21) (i := 0) dX6_caves_20 rfl rfl rfl ?_
      refine g_get (q := 24) dX6_caves_21 rfl foX6_28 0 hc0 rfl ?_
      obtain ⟨r2, σ2, e2, H⟩ := of_bnd H
      refine g_callV (q := 27) (rest := []) dX6_caves_24 rfl cvX6_54 (ctX2_reset e2) rfl rfl ⟨Nat.le_of_ble_eq_true rfl, Nat.le_of_ble_eq_true rfl⟩ ⟨Nat.le_refl _, Nat.le_refl _⟩ (Nat.le_of_ble_eq_true rfl) 14 hc14 rfl (fun r0 M9 hp => ?_)
      obtain ⟨rfl, rfl⟩ := hp
      show Go x _ _ g 27 [.ref (ad 0), .int l1] [] (HH g ad σ2 ++ ex) 0 0
      refine g_aload_n (q := 28) (i := 0) dX6_caves_27 rfl rfl rfl ?_
      obtain ⟨r3, σ3, e3, H⟩ := of_bnd H
      refine g_callV (q := 31) (rest := []) dX6_caves_28 rfl cvX6_57 (ctX6_forgetSearchAndPlan e3) rfl rfl ⟨Nat.le_of_ble_eq_true rfl, Nat.le_of_ble_eq_true rfl⟩ ⟨Nat.le_refl _, Nat.le_refl _⟩ (Nat.le_of_ble_eq_true rfl) 0 hc0 rfl (fun r0 M9 hp => ?_)
      obtain ⟨rfl, rfl⟩ := hp
      show Go x _ _ g 31 [.ref (ad 0), .int l1] [] (HH g ad σ3 ++ ex) 0 0
      refine g_iconst (q := 32) (v := 1) dX6_caves_31 rfl (by decide) ?_
      exact g_iret hX dX6_caves_32 rfl rfl (Nat.le_refl _) (Nat.le_refl _) (piOk H)
    · replace H := (if_neg c7).symm.trans H
      refine g_iconst (q := 11) (v := 0) dX6_caves_10 rfl (by decide) ?_
      exact g_iret hX dX6_caves_11 rfl rfl (Nat.le_refl _) (Nat.le_refl _) (piOk H)
def bX1_lowestFree_2 (F : Nat) (k2 : Sg → Int32 → Rs) (σ : Sg) (l1 : Int32) : Rs := if (18 : Int32) ≤ l1 then (some ((-1 : Int32), σ)) else (if (((σ.1 1) >>> (l1 &&& 31)) &&& (1 : Int32)) = (0 : Int32) then (some (l1, σ)) else (k2 σ (l1 + 1)))
set_option maxRecDepth 100000 in
set_option maxHeartbeats 4000000 in
theorem wbX1_lowestFree_2 {x : FX} {g : GX} {ad : Nat → Nat} {ex M0 : va_W} {r : Int32} {τ : Sg} {F : Nat} (hX : RX x g M0 (Pi_ r (HH g ad τ ++ ex)) 0 0) {k2 : Sg → Int32 → Rs} (h2 : ∀ (σ : Sg) (l1 : Int32), k2 σ l1 = some (r, τ) → Go x { frames := 0, cells := 0, slots := 0, locals := 0 } tX1_lowestFree g 2 [.ref (ad 1), .int l1] [] (HH g ad σ ++ ex) 0 0) (σ : Sg) (l1 : Int32) (H : bX1_lowestFree_2 F k2 σ l1 = some (r, τ)) : Go x { frames := 0, cells := 0, slots := 0, locals := 0 } tX1_lowestFree g 2 [.ref (ad 1), .int l1] [] (HH g ad σ ++ ex) 0 0 := by
  unfold bX1_lowestFree_2 at H
  refine g_iload_n (q := 3) (i := 1) dX1_lowestFree_2 rfl rfl rfl ?_
  refine g_bipush (q := 5) (v := 18) dX1_lowestFree_3 rfl (by decide) ?_
  refine g_icmp_ge (q := 8) (r := 27) dX1_lowestFree_5 (by decide) rfl (fun c5 => ?_) (fun c5 => ?_)
  · replace H := (if_pos c5).symm.trans H
    refine g_iconst (q := 28) (v := -1) dX1_lowestFree_27 rfl (by decide) ?_
    exact g_iret hX dX1_lowestFree_28 rfl rfl (Nat.le_refl _) (Nat.le_refl _) (piOk H)
  · replace H := (if_neg c5).symm.trans H
    refine g_aload_n (q := 9) (i := 0) dX1_lowestFree_8 rfl rfl rfl ?_
    refine g_get (q := 12) dX1_lowestFree_9 rfl foX1_28 1 hc1 rfl ?_
    refine g_iload_n (q := 13) (i := 1) dX1_lowestFree_12 rfl rfl rfl ?_
    refine g_ishr (q := 14) dX1_lowestFree_13 rfl ?_
    refine g_iconst (q := 15) (v := 1) dX1_lowestFree_14 rfl (by decide) ?_
    refine g_iand (q := 16) dX1_lowestFree_15 rfl ?_
    refine g_if_ne (q := 19) (r := 21) dX1_lowestFree_16 (by decide) rfl (fun c16 => ?_) (fun c16 => ?_)
    · replace H := (if_neg c16).symm.trans H
      refine g_iinc (q := 24) (b := l1 + 1) (L' := [.ref (ad 1), .int (l1 + 1)]) dX1_lowestFree_21 rfl rfl rfl (Nat.le_of_ble_eq_true rfl) rfl ?_
      refine g_goto (q := 2) dX1_lowestFree_24 (by decide) ?_
      exact g_weak (L' := [.ref (ad 1), .int (l1 + 1)]) ⟨Or.inr rfl, Or.inr rfl, trivial⟩ (h2 _ _ H)
    · replace H := (if_pos c16).symm.trans H
      refine g_iload_n (q := 20) (i := 1) dX1_lowestFree_19 rfl rfl rfl ?_
      exact g_iret hX dX1_lowestFree_20 rfl rfl (Nat.le_refl _) (Nat.le_refl _) (piOk H)
def fX1_lowestFree_2 (F : Nat)  : Nat → Sg → Int32 → Rs
  | 0 => fun _ _ => none
  | n + 1 => fun σ l1 => bX1_lowestFree_2 F  (fX1_lowestFree_2 F  n) σ l1
theorem wfX1_lowestFree_2 {x : FX} {g : GX} {ad : Nat → Nat} {ex M0 : va_W} {r : Int32} {τ : Sg} {F : Nat} (hX : RX x g M0 (Pi_ r (HH g ad τ ++ ex)) 0 0)   : ∀ (n : Nat) (σ : Sg) (l1 : Int32), fX1_lowestFree_2 F  n σ l1 = some (r, τ) → Go x { frames := 0, cells := 0, slots := 0, locals := 0 } tX1_lowestFree g 2 [.ref (ad 1), .int l1] [] (HH g ad σ ++ ex) 0 0
  | 0, _, _, H => nomatch (show (none : Rs) = some _ from H)
  | n + 1, σ, l1, H => wbX1_lowestFree_2 (F := F) hX  (fun σ2 z1 H2 => wfX1_lowestFree_2 (F := F) hX  n σ2 z1 H2) σ l1 H
def fX1_lowestFree (F : Nat) (σ : Sg)  : Rs := fX1_lowestFree_2 F F σ ((0 : Int32))
set_option maxRecDepth 100000 in
set_option maxHeartbeats 4000000 in
theorem ctX1_lowestFree {l : Launch} {g : GX} {ad : Nat → Nat} {ex : va_W} {r : Int32} {τ σ : Sg} {F : Nat}  (H : fX1_lowestFree F σ  = some (r, τ)) : Ct l g yX1_lowestFree tX1_lowestFree 0 0 0 0 [.ref (ad 1)] (HH g ad σ ++ ex) (Pi_ r (HH g ad τ ++ ex)) := by
  refine Ct.of (L := [.ref (ad 1), un_]) (by decide +kernel) rfl rfl rfl (Nat.le_of_ble_eq_true rfl) rfl (fun x _ hX => ?_)
  unfold fX1_lowestFree at H
  refine g_iconst (q := 1) (v := 0) dX1_lowestFree_0 rfl (by decide) ?_
  refine g_istore_n (q := 2) (L' := [.ref (ad 1), .int ((0 : Int32))]) (i := 1) dX1_lowestFree_1 rfl rfl (Nat.le_of_ble_eq_true rfl) rfl ?_
  exact g_weak (L' := [.ref (ad 1), .int ((0 : Int32))]) ⟨Or.inr rfl, Or.inr rfl, trivial⟩ (wfX1_lowestFree_2 (F := F) hX  F _ _ H)
def fX1_hasCave (F : Nat) (σ : Sg) (l1 : Int32) : Rs := if l1 < (0 : Int32) then (some ((0 : Int32), σ)) else (if (σ.1 0) ≤ l1 then (some ((0 : Int32), σ)) else (some ((1 : Int32), σ)))
set_option maxRecDepth 100000 in
set_option maxHeartbeats 4000000 in
theorem ctX1_hasCave {l : Launch} {g : GX} {ad : Nat → Nat} {ex : va_W} {r : Int32} {τ σ : Sg} {F : Nat} {l1 : Int32} (H : fX1_hasCave F σ l1 = some (r, τ)) : Ct l g yX1_hasCave tX1_hasCave 0 0 0 0 [.ref (ad 1), .int l1] (HH g ad σ ++ ex) (Pi_ r (HH g ad τ ++ ex)) := by
  refine Ct.of (L := [.ref (ad 1), .int l1]) (by decide +kernel) rfl rfl rfl (Nat.le_of_ble_eq_true rfl) rfl (fun x _ hX => ?_)
  unfold fX1_hasCave at H
  refine g_iload_n (q := 1) (i := 1) dX1_hasCave_0 rfl rfl rfl ?_
  refine g_if_lt (q := 4) (r := 16) dX1_hasCave_1 (by decide) rfl (fun c1 => ?_) (fun c1 => ?_)
  · replace H := (if_pos c1).symm.trans H
    refine g_iconst (q := 17) (v := 0) dX1_hasCave_16 rfl (by decide) ?_
    exact g_iret hX dX1_hasCave_17 rfl rfl (Nat.le_refl _) (Nat.le_refl _) (piOk H)
  · replace H := (if_neg c1).symm.trans H
    refine g_iload_n (q := 5) (i := 1) dX1_hasCave_4 rfl rfl rfl ?_
    refine g_aload_n (q := 6) (i := 0) dX1_hasCave_5 rfl rfl rfl ?_
    refine g_get (q := 9) dX1_hasCave_6 rfl foX1_24 1 hc1 rfl ?_
    refine g_icmp_ge (q := 12) (r := 16) dX1_hasCave_9 (by decide) rfl (fun c9 => ?_) (fun c9 => ?_)
    · replace H := (if_pos c9).symm.trans H
      refine g_iconst (q := 17) (v := 0) dX1_hasCave_16 rfl (by decide) ?_
      exact g_iret hX dX1_hasCave_17 rfl rfl (Nat.le_refl _) (Nat.le_refl _) (piOk H)
    · replace H := (if_neg c9).symm.trans H
      refine g_iconst (q := 13) (v := 1) dX1_hasCave_12 rfl (by decide) ?_
      refine g_goto (q := 17) dX1_hasCave_13 (by decide) ?_
      exact g_iret hX dX1_hasCave_17 rfl rfl (Nat.le_refl _) (Nat.le_refl _) (piOk H)
def fX1_dig (F : Nat) (σ : Sg) (l1 : Int32) (l2 : Int32) (l3 : Int32) : Rs := if ib l1 18 then (ls_ (sa σ 2 l1.toNatClampNeg (mn_ l2 l3)) fun σ1 => if ib l1 18 then (ls_ (sa σ1 3 l1.toNatClampNeg (mx_ l2 l3)) fun σ2 => ls_ (sv σ2 1 ((σ2.1 1) ||| ((1 : Int32) <<< (l1 &&& 31)))) fun σ3 => (fX1_linkCaves F σ3).bind fun q4 => (fun (r4 : Int32) (σ4 : Sg) => some (0, σ4)) q4.1 q4.2) else none) else none
set_option maxRecDepth 100000 in
set_option maxHeartbeats 4000000 in
theorem ctX1_dig {l : Launch} {g : GX} {ad : Nat → Nat} {ex : va_W} {r : Int32} {τ σ : Sg} {F : Nat} {l1 : Int32} {l2 : Int32} {l3 : Int32} (H : fX1_dig F σ l1 l2 l3 = some (r, τ)) : Ct l g yX1_dig tX1_dig 2 46 0 0 [.ref (ad 1), .int l1, .int l2, .int l3] (HH g ad σ ++ ex) (Pv_ (HH g ad τ ++ ex)) := by
  refine Ct.of (L := [.ref (ad 1), .int l1, .int l2, .int l3]) (by decide +kernel) rfl rfl rfl (Nat.le_of_ble_eq_true rfl) rfl (fun x _ hX => ?_)
  unfold fX1_dig at H
  refine g_aload_n (q := 1) (i := 0) dX1_dig_0 rfl rfl rfl ?_
  refine g_get (q := 4) dX1_dig_1 rfl foX1_9 1 hc1 rfl ?_
  refine g_iload_n (q := 5) (i := 1) dX1_dig_4 rfl rfl rfl ?_
  refine g_iload_n (q := 6) (i := 2) dX1_dig_5 rfl rfl rfl ?_
  refine g_iload_n (q := 7) (i := 3) dX1_dig_6 rfl rfl rfl ?_
  refine g_min (q := 10) dX1_dig_7 rfl csX1_41 (Nat.le_of_ble_eq_true rfl) (Nat.le_of_ble_eq_true rfl) (Nat.le_refl _) (Nat.le_refl _) ?_
  obtain ⟨b10, H⟩ := of_chk H
  obtain ⟨σ1, n1, H⟩ := of_ls H
  refine g_iast (q := 11) dX1_dig_10 rfl 2 hc2 b10 (ha2e n1) ?_
  refine g_aload_n (q := 12) (i := 0) dX1_dig_11 rfl rfl rfl ?_
  refine g_get (q := 15) dX1_dig_12 rfl foX1_15 1 hc1 rfl ?_
  refine g_iload_n (q := 16) (i := 1) dX1_dig_15 rfl rfl rfl ?_
  refine g_iload_n (q := 17) (i := 2) dX1_dig_16 rfl rfl rfl ?_
  refine g_iload_n (q := 18) (i := 3) dX1_dig_17 rfl rfl rfl ?_
  refine g_max (q := 21) dX1_dig_18 rfl csX1_47 (Nat.le_of_ble_eq_true rfl) (Nat.le_of_ble_eq_true rfl) (Nat.le_refl _) (Nat.le_refl _) ?_
  obtain ⟨b21, H⟩ := of_chk H
  obtain ⟨σ2, n2, H⟩ := of_ls H
  refine g_iast (q := 22) dX1_dig_21 rfl 3 hc3 b21 (ha3e n2) ?_
  refine g_aload_n (q := 23) (i := 0) dX1_dig_22 rfl rfl rfl ?_
  refine g_dup (q := 24) dX1_dig_23 rfl rfl ?_
  refine g_get (q := 27) dX1_dig_24 rfl foX1_28 1 hc1 rfl ?_
  refine g_iconst (q := 28) (v := 1) dX1_dig_27 rfl (by decide) ?_
  refine g_iload_n (q := 29) (i := 1) dX1_dig_28 rfl rfl rfl ?_
  refine g_ishl (q := 30) dX1_dig_29 rfl ?_
  refine g_ior (q := 31) dX1_dig_30 rfl ?_
  obtain ⟨σ3, n3, H⟩ := of_ls H
  refine g_put (q := 34) dX1_dig_31 rfl (fpX1_28 _) 1 hc1 rfl rfl (Nat.le_of_ble_eq_true rfl) (hs1e n3) ?_
  refine g_aload_n (q := 35) (i := 0) dX1_dig_34 rfl rfl rfl ?_
  obtain ⟨r4, σ4, e4, H⟩ := of_bnd H
  refine g_callV (q := 38) (rest := []) dX1_dig_35 rfl cvX1_34 (ctX1_linkCaves e4) rfl rfl ⟨Nat.le_of_ble_eq_true rfl, Nat.le_of_ble_eq_true rfl⟩ ⟨Nat.le_refl _, Nat.le_refl _⟩ (Nat.le_of_ble_eq_true rfl) 1 hc1 rfl (fun r0 M9 hp => ?_)
  obtain ⟨rfl, rfl⟩ := hp
  show Go x _ _ g 38 [.ref (ad 1), .int l1, .int l2, .int l3] [] (HH g ad σ4 ++ ex) 0 0
  exact g_vret hX dX1_dig_38 rfl (Nat.le_refl _) (Nat.le_refl _) (pvOk H)
def fX6_passage (F : Nat) (σ : Sg) (l1 : Int32) (l2 : Int32) : Rs := (fX1_lowestFree F σ).bind fun q1 => (fun (r1 : Int32) (σ1 : Sg) => if l1 = l2 then (some ((-1 : Int32), σ1)) else ((fX1_hasCave F σ1 l1).bind fun q2 => (fun (r2 : Int32) (σ2 : Sg) => if r2 = (0 : Int32) then (some ((-1 : Int32), σ2)) else ((fX1_hasCave F σ2 l2).bind fun q3 => (fun (r3 : Int32) (σ3 : Sg) => if r3 = (0 : Int32) then (some ((-1 : Int32), σ3)) else (if r1 = (-1 : Int32) then (some ((-1 : Int32), σ3)) else ((fX1_dig F σ3 r1 l1 l2).bind fun q4 => (fun (r4 : Int32) (σ4 : Sg) => (fX6_forgetSearchAndPlan F σ4).bind fun q5 => (fun (r5 : Int32) (σ5 : Sg) => some (r1, σ5)) q5.1 q5.2) q4.1 q4.2))) q3.1 q3.2)) q2.1 q2.2)) q1.1 q1.2
set_option maxRecDepth 100000 in
set_option maxHeartbeats 4000000 in
theorem ctX6_passage {l : Launch} {g : GX} {ad : Nat → Nat} {ex : va_W} {r : Int32} {τ σ : Sg} {F : Nat} {l1 : Int32} {l2 : Int32} (H : fX6_passage F σ l1 l2 = some (r, τ)) : Ct l g yX6_passage tX6_passage 4 84 0 0 [.ref (ad 0), .int l1, .int l2] (HH g ad σ ++ ex) (Pi_ r (HH g ad τ ++ ex)) := by
  refine Ct.of (L := [.ref (ad 0), .int l1, .int l2, un_]) (by decide +kernel) rfl rfl rfl (Nat.le_of_ble_eq_true rfl) rfl (fun x _ hX => ?_)
  unfold fX6_passage at H
  refine g_aload_n (q := 1) (i := 0) dX6_passage_0 rfl rfl rfl ?_
  refine g_get (q := 4) dX6_passage_1 rfl foX6_10 0 hc0 rfl ?_
  obtain ⟨r1, σ1, e1, H⟩ := of_bnd H
  refine g_callV (q := 7) (rest := []) dX6_passage_4 rfl cvX6_60 (ctX1_lowestFree e1) rfl rfl ⟨Nat.le_of_ble_eq_true rfl, Nat.le_of_ble_eq_true rfl⟩ ⟨Nat.le_refl _, Nat.le_refl _⟩ (Nat.le_of_ble_eq_true rfl) 1 hc1 rfl (fun r0 M9 hp => ?_)
  obtain ⟨rfl, rfl⟩ := hp
  show Go x _ _ g 7 [.ref (ad 0), .int l1, .int l2, un_] [.int r1] (HH g ad σ1 ++ ex) 0 0
  refine g_istore_n (q := 8) (L' := [.ref (ad 0), .int l1, .int l2, .int r1]) (i := 3) dX6_passage_7 rfl rfl (Nat.le_of_ble_eq_true rfl) rfl ?_
  refine g_iload_n (q := 9) (i := 1) dX6_passage_8 rfl rfl rfl ?_
  refine g_iload_n (q := 10) (i := 2) dX6_passage_9 rfl rfl rfl ?_
  refine g_icmp_eq (q := 13) (r := 40) dX6_passage_10 (by decide) rfl (fun c10 => ?_) (fun c10 => ?_)
  · replace H := (if_pos c10).symm.trans H
    refine g_iconst (q := 41) (v := -1) dX6_passage_40 rfl (by decide) ?_
    exact g_iret hX dX6_passage_41 rfl rfl (Nat.le_refl _) (Nat.le_refl _) (piOk H)
  · replace H := (if_neg c10).symm.trans H
    refine g_aload_n (q := 14) (i := 0) dX6_passage_13 rfl rfl rfl ?_
    refine g_get (q := 17) dX6_passage_14 rfl foX6_10 0 hc0 rfl ?_
    refine g_iload_n (q := 18) (i := 1) dX6_passage_17 rfl rfl rfl ?_
    obtain ⟨r2, σ2, e2, H⟩ := of_bnd H
    refine g_callV (q := 21) (rest := []) dX6_passage_18 rfl cvX6_64 (ctX1_hasCave e2) rfl rfl ⟨Nat.le_of_ble_eq_true rfl, Nat.le_of_ble_eq_true rfl⟩ ⟨Nat.le_refl _, Nat.le_refl _⟩ (Nat.le_of_ble_eq_true rfl) 1 hc1 rfl (fun r0 M9 hp => ?_)
    obtain ⟨rfl, rfl⟩ := hp
    show Go x _ _ g 21 [.ref (ad 0), .int l1, .int l2, .int r1] [.int r2] (HH g ad σ2 ++ ex) 0 0
    refine g_if_eq (q := 24) (r := 40) dX6_passage_21 (by decide) rfl (fun c21 => ?_) (fun c21 => ?_)
    · replace H := (if_pos c21).symm.trans H
      refine g_iconst (q := 41) (v := -1) dX6_passage_40 rfl (by decide) ?_
      exact g_iret hX dX6_passage_41 rfl rfl (Nat.le_refl _) (Nat.le_refl _) (piOk H)
    · replace H := (if_neg c21).symm.trans H
      refine g_aload_n (q := 25) (i := 0) dX6_passage_24 rfl rfl rfl ?_
      refine g_get (q := 28) dX6_passage_25 rfl foX6_10 0 hc0 rfl ?_
      refine g_iload_n (q := 29) (i := 2) dX6_passage_28 rfl rfl rfl ?_
      obtain ⟨r3, σ3, e3, H⟩ := of_bnd H
      refine g_callV (q := 32) (rest := []) dX6_passage_29 rfl cvX6_64 (ctX1_hasCave e3) rfl rfl ⟨Nat.le_of_ble_eq_true rfl, Nat.le_of_ble_eq_true rfl⟩ ⟨Nat.le_refl _, Nat.le_refl _⟩ (Nat.le_of_ble_eq_true rfl) 1 hc1 rfl (fun r0 M9 hp => ?_)
      obtain ⟨rfl, rfl⟩ := hp
      show Go x _ _ g 32 [.ref (ad 0), .int l1, .int l2, .int r1] [.int r3] (HH g ad σ3 ++ ex) 0 0
      refine g_if_eq (q := 35) (r := 40) dX6_passage_32 (by decide) rfl (fun c32 => ?_) (fun c32 => ?_)
      · replace H := (if_pos c32).symm.trans H
        refine g_iconst (q := 41) (v := -1) dX6_passage_40 rfl (by decide) ?_
        exact g_iret hX dX6_passage_41 rfl rfl (Nat.le_refl _) (Nat.le_refl _) (piOk H)
      · replace H := (if_neg c32).symm.trans H
        refine g_iload_n (q := 36) (i := 3) dX6_passage_35 rfl rfl rfl ?_
        refine g_iconst (q := 37) (v := -1) dX6_passage_36 rfl (by decide) ?_
        refine g_icmp_ne (q := 40) (r := 42) dX6_passage_37 (by decide) rfl (fun c37 => ?_) (fun c37 => ?_)
        · replace H := (if_neg c37).symm.trans H
          refine g_aload_n (q := 43) (i := 0) dX6_passage_42 rfl rfl rfl ?_
          refine g_get (q := 46) dX6_passage_43 rfl foX6_10 0 hc0 rfl ?_
          refine g_iload_n (q := 47) (i := 3) dX6_passage_46 rfl rfl rfl ?_
          refine g_iload_n (q := 48) (i := 1) dX6_passage_47 rfl rfl rfl ?_
          refine g_iload_n (q := 49) (i := 2) dX6_passage_48 rfl rfl rfl ?_
          obtain ⟨r4, σ4, e4, H⟩ := of_bnd H
          refine g_callV (q := 52) (rest := []) dX6_passage_49 rfl cvX6_68 (ctX1_dig e4) rfl rfl ⟨Nat.le_of_ble_eq_true rfl, Nat.le_of_ble_eq_true rfl⟩ ⟨Nat.le_refl _, Nat.le_refl _⟩ (Nat.le_of_ble_eq_true rfl) 1 hc1 rfl (fun r0 M9 hp => ?_)
          obtain ⟨rfl, rfl⟩ := hp
          show Go x _ _ g 52 [.ref (ad 0), .int l1, .int l2, .int r1] [] (HH g ad σ4 ++ ex) 0 0
          refine g_aload_n (q := 53) (i := 0) dX6_passage_52 rfl rfl rfl ?_
          obtain ⟨r5, σ5, e5, H⟩ := of_bnd H
          refine g_callV (q := 56) (rest := []) dX6_passage_53 rfl cvX6_57 (ctX6_forgetSearchAndPlan e5) rfl rfl ⟨Nat.le_of_ble_eq_true rfl, Nat.le_of_ble_eq_true rfl⟩ ⟨Nat.le_refl _, Nat.le_refl _⟩ (Nat.le_of_ble_eq_true rfl) 0 hc0 rfl (fun r0 M9 hp => ?_)
          obtain ⟨rfl, rfl⟩ := hp
          show Go x _ _ g 56 [.ref (ad 0), .int l1, .int l2, .int r1] [] (HH g ad σ5 ++ ex) 0 0
          refine g_iload_n (q := 57) (i := 3) dX6_passage_56 rfl rfl rfl ?_
          exact g_iret hX dX6_passage_57 rfl rfl (Nat.le_refl _) (Nat.le_refl _) (piOk H)
        · replace H := (if_pos c37).symm.trans H
          refine g_iconst (q := 41) (v := -1) dX6_passage_40 rfl (by decide) ?_
          exact g_iret hX dX6_passage_41 rfl rfl (Nat.le_refl _) (Nat.le_refl _) (piOk H)
def fX1_fillUp (F : Nat) (σ : Sg) (l1 : Int32) : Rs := ls_ (sv σ 1 ((σ.1 1) &&& (((1 : Int32) <<< (l1 &&& 31)) ^^^ (-1 : Int32)))) fun σ1 => (fX1_linkCaves F σ1).bind fun q2 => (fun (r2 : Int32) (σ2 : Sg) => some (0, σ2)) q2.1 q2.2
set_option maxRecDepth 100000 in
set_option maxHeartbeats 4000000 in
theorem ctX1_fillUp {l : Launch} {g : GX} {ad : Nat → Nat} {ex : va_W} {r : Int32} {τ σ : Sg} {F : Nat} {l1 : Int32} (H : fX1_fillUp F σ l1 = some (r, τ)) : Ct l g yX1_fillUp tX1_fillUp 2 46 0 0 [.ref (ad 1), .int l1] (HH g ad σ ++ ex) (Pv_ (HH g ad τ ++ ex)) := by
  refine Ct.of (L := [.ref (ad 1), .int l1]) (by decide +kernel) rfl rfl rfl (Nat.le_of_ble_eq_true rfl) rfl (fun x _ hX => ?_)
  unfold fX1_fillUp at H
  refine g_aload_n (q := 1) (i := 0) dX1_fillUp_0 rfl rfl rfl ?_
  refine g_dup (q := 2) dX1_fillUp_1 rfl rfl ?_
  refine g_get (q := 5) dX1_fillUp_2 rfl foX1_28 1 hc1 rfl ?_
  refine g_iconst (q := 6) (v := 1) dX1_fillUp_5 rfl (by decide) ?_
  refine g_iload_n (q := 7) (i := 1) dX1_fillUp_6 rfl rfl rfl ?_
  refine g_ishl (q := 8) dX1_fillUp_7 rfl ?_
  refine g_iconst (q := 9) (v := -1) dX1_fillUp_8 rfl (by decide) ?_
  refine g_ixor (q := 10) dX1_fillUp_9 rfl ?_
  refine g_iand (q := 11) dX1_fillUp_10 rfl ?_
  obtain ⟨σ1, n1, H⟩ := of_ls H
  refine g_put (q := 14) dX1_fillUp_11 rfl (fpX1_28 _) 1 hc1 rfl rfl (Nat.le_of_ble_eq_true rfl) (hs1e n1) ?_
  refine g_aload_n (q := 15) (i := 0) dX1_fillUp_14 rfl rfl rfl ?_
  obtain ⟨r2, σ2, e2, H⟩ := of_bnd H
  refine g_callV (q := 18) (rest := []) dX1_fillUp_15 rfl cvX1_34 (ctX1_linkCaves e2) rfl rfl ⟨Nat.le_of_ble_eq_true rfl, Nat.le_of_ble_eq_true rfl⟩ ⟨Nat.le_refl _, Nat.le_refl _⟩ (Nat.le_of_ble_eq_true rfl) 1 hc1 rfl (fun r0 M9 hp => ?_)
  obtain ⟨rfl, rfl⟩ := hp
  show Go x _ _ g 18 [.ref (ad 1), .int l1] [] (HH g ad σ2 ++ ex) 0 0
  exact g_vret hX dX1_fillUp_18 rfl (Nat.le_refl _) (Nat.le_refl _) (pvOk H)
def fX6_drop (F : Nat) (σ : Sg) (l1 : Int32) : Rs := (fX1_hasPassage F σ l1).bind fun q1 => (fun (r1 : Int32) (σ1 : Sg) => if r1 = (0 : Int32) then (some ((0 : Int32), σ1)) else ((fX1_fillUp F σ1 l1).bind fun q2 => (fun (r2 : Int32) (σ2 : Sg) => (fX6_forgetSearchAndPlan F σ2).bind fun q3 => (fun (r3 : Int32) (σ3 : Sg) => some ((1 : Int32), σ3)) q3.1 q3.2) q2.1 q2.2)) q1.1 q1.2
set_option maxRecDepth 100000 in
set_option maxHeartbeats 4000000 in
theorem ctX6_drop {l : Launch} {g : GX} {ad : Nat → Nat} {ex : va_W} {r : Int32} {τ σ : Sg} {F : Nat} {l1 : Int32} (H : fX6_drop F σ l1 = some (r, τ)) : Ct l g yX6_drop tX6_drop 4 84 0 0 [.ref (ad 0), .int l1] (HH g ad σ ++ ex) (Pi_ r (HH g ad τ ++ ex)) := by
  refine Ct.of (L := [.ref (ad 0), .int l1]) (by decide +kernel) rfl rfl rfl (Nat.le_of_ble_eq_true rfl) rfl (fun x _ hX => ?_)
  unfold fX6_drop at H
  refine g_aload_n (q := 1) (i := 0) dX6_drop_0 rfl rfl rfl ?_
  refine g_get (q := 4) dX6_drop_1 rfl foX6_10 0 hc0 rfl ?_
  refine g_iload_n (q := 5) (i := 1) dX6_drop_4 rfl rfl rfl ?_
  obtain ⟨r1, σ1, e1, H⟩ := of_bnd H
  refine g_callV (q := 8) (rest := []) dX6_drop_5 rfl cvX6_72 (ctX1_hasPassage e1) rfl rfl ⟨Nat.le_of_ble_eq_true rfl, Nat.le_of_ble_eq_true rfl⟩ ⟨Nat.le_refl _, Nat.le_refl _⟩ (Nat.le_of_ble_eq_true rfl) 1 hc1 rfl (fun r0 M9 hp => ?_)
  obtain ⟨rfl, rfl⟩ := hp
  show Go x _ _ g 8 [.ref (ad 0), .int l1] [.int r1] (HH g ad σ1 ++ ex) 0 0
  refine g_if_ne (q := 11) (r := 13) dX6_drop_8 (by decide) rfl (fun c8 => ?_) (fun c8 => ?_)
  · replace H := (if_neg c8).symm.trans H
    refine g_aload_n (q := 14) (i := 0) dX6_drop_13 rfl rfl rfl ?_
    refine g_get (q := 17) dX6_drop_14 rfl foX6_10 0 hc0 rfl ?_
    refine g_iload_n (q := 18) (i := 1) dX6_drop_17 rfl rfl rfl ?_
    obtain ⟨r2, σ2, e2, H⟩ := of_bnd H
    refine g_callV (q := 21) (rest := []) dX6_drop_18 rfl cvX6_75 (ctX1_fillUp e2) rfl rfl ⟨Nat.le_of_ble_eq_true rfl, Nat.le_of_ble_eq_true rfl⟩ ⟨Nat.le_refl _, Nat.le_refl _⟩ (Nat.le_of_ble_eq_true rfl) 1 hc1 rfl (fun r0 M9 hp => ?_)
    obtain ⟨rfl, rfl⟩ := hp
    show Go x _ _ g 21 [.ref (ad 0), .int l1] [] (HH g ad σ2 ++ ex) 0 0
    refine g_aload_n (q := 22) (i := 0) dX6_drop_21 rfl rfl rfl ?_
    obtain ⟨r3, σ3, e3, H⟩ := of_bnd H
    refine g_callV (q := 25) (rest := []) dX6_drop_22 rfl cvX6_57 (ctX6_forgetSearchAndPlan e3) rfl rfl ⟨Nat.le_of_ble_eq_true rfl, Nat.le_of_ble_eq_true rfl⟩ ⟨Nat.le_refl _, Nat.le_refl _⟩ (Nat.le_of_ble_eq_true rfl) 0 hc0 rfl (fun r0 M9 hp => ?_)
    obtain ⟨rfl, rfl⟩ := hp
    show Go x _ _ g 25 [.ref (ad 0), .int l1] [] (HH g ad σ3 ++ ex) 0 0
    refine g_iconst (q := 26) (v := 1) dX6_drop_25 rfl (by decide) ?_
    exact g_iret hX dX6_drop_26 rfl rfl (Nat.le_refl _) (Nat.le_refl _) (piOk H)
  · replace H := (if_pos c8).symm.trans H
    refine g_iconst (q := 12) (v := 0) dX6_drop_11 rfl (by decide) ?_
    exact g_iret hX dX6_drop_12 rfl rfl (Nat.le_refl _) (Nat.le_refl _) (piOk H)
def fX6_mouth (F : Nat) (σ : Sg) (l1 : Int32) : Rs := (fX1_hasCave F σ l1).bind fun q1 => (fun (r1 : Int32) (σ1 : Sg) => if r1 = (0 : Int32) then (some ((0 : Int32), σ1)) else (ls_ (sv σ1 2 l1) fun σ2 => some ((1 : Int32), σ2))) q1.1 q1.2
set_option maxRecDepth 100000 in
set_option maxHeartbeats 4000000 in
theorem ctX6_mouth {l : Launch} {g : GX} {ad : Nat → Nat} {ex : va_W} {r : Int32} {τ σ : Sg} {F : Nat} {l1 : Int32} (H : fX6_mouth F σ l1 = some (r, τ)) : Ct l g yX6_mouth tX6_mouth 1 21 0 0 [.ref (ad 0), .int l1] (HH g ad σ ++ ex) (Pi_ r (HH g ad τ ++ ex)) := by
  refine Ct.of (L := [.ref (ad 0), .int l1]) (by decide +kernel) rfl rfl rfl (Nat.le_of_ble_eq_true rfl) rfl (fun x _ hX => ?_)
  unfold fX6_mouth at H
  refine g_aload_n (q := 1) (i := 0) dX6_mouth_0 rfl rfl rfl ?_
  refine g_get (q := 4) dX6_mouth_1 rfl foX6_10 0 hc0 rfl ?_
  refine g_iload_n (q := 5) (i := 1) dX6_mouth_4 rfl rfl rfl ?_
  obtain ⟨r1, σ1, e1, H⟩ := of_bnd H
  refine g_callV (q := 8) (rest := []) dX6_mouth_5 rfl cvX6_64 (ctX1_hasCave e1) rfl rfl ⟨Nat.le_of_ble_eq_true rfl, Nat.le_of_ble_eq_true rfl⟩ ⟨Nat.le_refl _, Nat.le_refl _⟩ (Nat.le_of_ble_eq_true rfl) 1 hc1 rfl (fun r0 M9 hp => ?_)
  obtain ⟨rfl, rfl⟩ := hp
  show Go x _ _ g 8 [.ref (ad 0), .int l1] [.int r1] (HH g ad σ1 ++ ex) 0 0
  refine g_if_ne (q := 11) (r := 13) dX6_mouth_8 (by decide) rfl (fun c8 => ?_) (fun c8 => ?_)
  · replace H := (if_neg c8).symm.trans H
    refine g_aload_n (q := 14) (i := 0) dX6_mouth_13 rfl rfl rfl ?_
    refine g_get (q := 17) dX6_mouth_14 rfl foX6_10 0 hc0 rfl ?_
    refine g_iload_n (q := 18) (i := 1) dX6_mouth_17 rfl rfl rfl ?_
    obtain ⟨σ2, n2, H⟩ := of_ls H
    refine g_put (q := 21) dX6_mouth_18 rfl (fpX6_78 _) 1 hc1 rfl rfl (Nat.le_of_ble_eq_true rfl) (hs2e n2) ?_
    refine g_iconst (q := 22) (v := 1) dX6_mouth_21 rfl (by decide) ?_
    exact g_iret hX dX6_mouth_22 rfl rfl (Nat.le_refl _) (Nat.le_refl _) (piOk H)
  · replace H := (if_pos c8).symm.trans H
    refine g_iconst (q := 12) (v := 0) dX6_mouth_11 rfl (by decide) ?_
    exact g_iret hX dX6_mouth_12 rfl rfl (Nat.le_refl _) (Nat.le_refl _) (piOk H)
def fX3_canBeDone (F : Nat) (σ : Sg) (l1 : Int32) (l2 : Int32) : Rs := if l1 = (0 : Int32) then (if (9 : Int32) ≤ (σ.1 5) then (some ((0 : Int32), σ)) else (some ((1 : Int32), σ))) else (if ib l2 12 then (if (σ.2.1 13 l2.toNatClampNeg) ≤ (0 : Int32) then (some ((0 : Int32), σ)) else (some ((1 : Int32), σ))) else none)
set_option maxRecDepth 100000 in
set_option maxHeartbeats 4000000 in
theorem ctX3_canBeDone {l : Launch} {g : GX} {ad : Nat → Nat} {ex : va_W} {r : Int32} {τ σ : Sg} {F : Nat} {l1 : Int32} {l2 : Int32} (H : fX3_canBeDone F σ l1 l2 = some (r, τ)) : Ct l g yX3_canBeDone tX3_canBeDone 0 0 0 0 [.ref (ad 6), .int l1, .int l2] (HH g ad σ ++ ex) (Pi_ r (HH g ad τ ++ ex)) := by
  refine Ct.of (L := [.ref (ad 6), .int l1, .int l2]) (by decide +kernel) rfl rfl rfl (Nat.le_of_ble_eq_true rfl) rfl (fun x _ hX => ?_)
  unfold fX3_canBeDone at H
  refine g_iload_n (q := 1) (i := 1) dX3_canBeDone_0 rfl rfl rfl ?_
  refine g_if_ne (q := 4) (r := 24) dX3_canBeDone_1 (by decide) rfl (fun c1 => ?_) (fun c1 => ?_)
  · replace H := (if_neg c1).symm.trans H
    refine g_aload_n (q := 25) (i := 0) dX3_canBeDone_24 rfl rfl rfl ?_
    refine g_get (q := 28) dX3_canBeDone_25 rfl foX3_12 6 hc6 rfl ?_
    refine g_get (q := 31) dX3_canBeDone_28 rfl foX3_73 12 hc12 rfl ?_
    refine g_iload_n (q := 32) (i := 2) dX3_canBeDone_31 rfl rfl rfl ?_
    obtain ⟨b32, H⟩ := of_chk H
    refine g_iald (q := 33) dX3_canBeDone_32 rfl 13 hc13 b32 ?_
    refine g_if_le (q := 36) (r := 40) dX3_canBeDone_33 (by decide) rfl (fun c33 => ?_) (fun c33 => ?_)
    · replace H := (if_pos c33).symm.trans H
      refine g_iconst (q := 41) (v := 0) dX3_canBeDone_40 rfl (by decide) ?_
      exact g_iret hX dX3_canBeDone_41 rfl rfl (Nat.le_refl _) (Nat.le_refl _) (piOk H)
    · replace H := (if_neg c33).symm.trans H
      refine g_iconst (q := 37) (v := 1) dX3_canBeDone_36 rfl (by decide) ?_
      refine g_goto (q := 41) dX3_canBeDone_37 (by decide) ?_
      exact g_iret hX dX3_canBeDone_41 rfl rfl (Nat.le_refl _) (Nat.le_refl _) (piOk H)
  · replace H := (if_pos c1).symm.trans H
    refine g_aload_n (q := 5) (i := 0) dX3_canBeDone_4 rfl rfl rfl ?_
    refine g_get (q := 8) dX3_canBeDone_5 rfl foX3_12 6 hc6 rfl ?_
    refine g_get (q := 11) dX3_canBeDone_8 rfl foX3_64 12 hc12 rfl ?_
    refine g_bipush (q := 13) (v := 9) dX3_canBeDone_11 rfl (by decide) ?_
    refine g_icmp_ge (q := 16) (r := 20) dX3_canBeDone_13 (by decide) rfl (fun c13 => ?_) (fun c13 => ?_)
    · replace H := (if_pos c13).symm.trans H
      refine g_iconst (q := 21) (v := 0) dX3_canBeDone_20 rfl (by decide) ?_
      refine g_goto (q := 41) dX3_canBeDone_21 (by decide) ?_
      exact g_iret hX dX3_canBeDone_41 rfl rfl (Nat.le_refl _) (Nat.le_refl _) (piOk H)
    · replace H := (if_neg c13).symm.trans H
      refine g_iconst (q := 17) (v := 1) dX3_canBeDone_16 rfl (by decide) ?_
      refine g_goto (q := 41) dX3_canBeDone_17 (by decide) ?_
      exact g_iret hX dX3_canBeDone_41 rfl rfl (Nat.le_refl _) (Nat.le_refl _) (piOk H)
def bX1_passagesAt_4 (F : Nat) (k4 : Sg → Int32 → Int32 → Int32 → Rs) (σ : Sg) (l1 : Int32) (l2 : Int32) (l3 : Int32) : Rs := if (σ.1 0) ≤ l3 then (some (l2, σ)) else (if ((l1 >>> (l3 &&& 31)) &&& (1 : Int32)) = (0 : Int32) then (k4 σ (l1) (l2) (l3 + 1)) else (if ib l3 12 then (li_ (l2 ||| (σ.2.1 4 l3.toNatClampNeg)) fun v1 => k4 σ (l1) (v1) (l3 + 1)) else none))
set_option maxRecDepth 100000 in
set_option maxHeartbeats 4000000 in
theorem wbX1_passagesAt_4 {x : FX} {g : GX} {ad : Nat → Nat} {ex M0 : va_W} {r : Int32} {τ : Sg} {F : Nat} (hX : RX x g M0 (Pi_ r (HH g ad τ ++ ex)) 0 0) {k4 : Sg → Int32 → Int32 → Int32 → Rs} (h4 : ∀ (σ : Sg) (l1 : Int32) (l2 : Int32) (l3 : Int32), k4 σ l1 l2 l3 = some (r, τ) → Go x { frames := 0, cells := 0, slots := 0, locals := 0 } tX1_passagesAt g 4 [.ref (ad 1), .int l1, .int l2, .int l3] [] (HH g ad σ ++ ex) 0 0) (σ : Sg) (l1 : Int32) (l2 : Int32) (l3 : Int32) (H : bX1_passagesAt_4 F k4 σ l1 l2 l3 = some (r, τ)) : Go x { frames := 0, cells := 0, slots := 0, locals := 0 } tX1_passagesAt g 4 [.ref (ad 1), .int l1, .int l2, .int l3] [] (HH g ad σ ++ ex) 0 0 := by
  unfold bX1_passagesAt_4 at H
  refine g_iload_n (q := 5) (i := 3) dX1_passagesAt_4 rfl rfl rfl ?_
  refine g_aload_n (q := 6) (i := 0) dX1_passagesAt_5 rfl rfl rfl ?_
  refine g_get (q := 9) dX1_passagesAt_6 rfl foX1_24 1 hc1 rfl ?_
  refine g_icmp_ge (q := 12) (r := 35) dX1_passagesAt_9 (by decide) rfl (fun c9 => ?_) (fun c9 => ?_)
  · replace H := (if_pos c9).symm.trans H
    refine g_iload_n (q := 36) (i := 2) dX1_passagesAt_35 rfl rfl rfl ?_
    exact g_iret hX dX1_passagesAt_36 rfl rfl (Nat.le_refl _) (Nat.le_refl _) (piOk H)
  · replace H := (if_neg c9).symm.trans H
    refine g_iload_n (q := 13) (i := 1) dX1_passagesAt_12 rfl rfl rfl ?_
    refine g_iload_n (q := 14) (i := 3) dX1_passagesAt_13 rfl rfl rfl ?_
    refine g_ishr (q := 15) dX1_passagesAt_14 rfl ?_
    refine g_iconst (q := 16) (v := 1) dX1_passagesAt_15 rfl (by decide) ?_
    refine g_iand (q := 17) dX1_passagesAt_16 rfl ?_
    refine g_if_eq (q := 20) (r := 29) dX1_passagesAt_17 (by decide) rfl (fun c17 => ?_) (fun c17 => ?_)
    · replace H := (if_pos c17).symm.trans H
      refine g_iinc (q := 32) (b := l3 + 1) (L' := [.ref (ad 1), .int l1, .int l2, .int (l3 + 1)]) dX1_passagesAt_29 rfl rfl rfl (Nat.le_of_ble_eq_true rfl) rfl ?_
      refine g_goto (q := 4) dX1_passagesAt_32 (by decide) ?_
      exact g_weak (L' := [.ref (ad 1), .int l1, .int l2, .int (l3 + 1)]) ⟨Or.inr rfl, Or.inr rfl, Or.inr rfl, Or.inr rfl, trivial⟩ (h4 _ _ _ _ H)
    · replace H := (if_neg c17).symm.trans H
      refine g_iload_n (q := 21) (i := 2) dX1_passagesAt_20 rfl rfl rfl ?_
      refine g_aload_n (q := 22) (i := 0) dX1_passagesAt_21 rfl rfl rfl ?_
      refine g_get (q := 25) dX1_passagesAt_22 rfl foX1_18 1 hc1 rfl ?_
      refine g_iload_n (q := 26) (i := 3) dX1_passagesAt_25 rfl rfl rfl ?_
      obtain ⟨b26, H⟩ := of_chk H
      refine g_iald (q := 27) dX1_passagesAt_26 rfl 4 hc4 b26 ?_
      refine g_ior (q := 28) dX1_passagesAt_27 rfl ?_
      obtain ⟨v1, n1, H⟩ := of_li H
      refine g_name n1 ?_
      refine g_istore_n (q := 29) (L' := [.ref (ad 1), .int l1, .int v1, .int l3]) (i := 2) dX1_passagesAt_28 rfl rfl (Nat.le_of_ble_eq_true rfl) rfl ?_
      refine g_iinc (q := 32) (b := l3 + 1) (L' := [.ref (ad 1), .int l1, .int v1, .int (l3 + 1)]) dX1_passagesAt_29 rfl rfl rfl (Nat.le_of_ble_eq_true rfl) rfl ?_
      refine g_goto (q := 4) dX1_passagesAt_32 (by decide) ?_
      exact g_weak (L' := [.ref (ad 1), .int l1, .int v1, .int (l3 + 1)]) ⟨Or.inr rfl, Or.inr rfl, Or.inr rfl, Or.inr rfl, trivial⟩ (h4 _ _ _ _ H)
def fX1_passagesAt_4 (F : Nat)  : Nat → Sg → Int32 → Int32 → Int32 → Rs
  | 0 => fun _ _ _ _ => none
  | n + 1 => fun σ l1 l2 l3 => bX1_passagesAt_4 F  (fX1_passagesAt_4 F  n) σ l1 l2 l3
theorem wfX1_passagesAt_4 {x : FX} {g : GX} {ad : Nat → Nat} {ex M0 : va_W} {r : Int32} {τ : Sg} {F : Nat} (hX : RX x g M0 (Pi_ r (HH g ad τ ++ ex)) 0 0)   : ∀ (n : Nat) (σ : Sg) (l1 : Int32) (l2 : Int32) (l3 : Int32), fX1_passagesAt_4 F  n σ l1 l2 l3 = some (r, τ) → Go x { frames := 0, cells := 0, slots := 0, locals := 0 } tX1_passagesAt g 4 [.ref (ad 1), .int l1, .int l2, .int l3] [] (HH g ad σ ++ ex) 0 0
  | 0, _, _, _, _, H => nomatch (show (none : Rs) = some _ from H)
  | n + 1, σ, l1, l2, l3, H => wbX1_passagesAt_4 (F := F) hX  (fun σ2 z1 z2 z3 H2 => wfX1_passagesAt_4 (F := F) hX  n σ2 z1 z2 z3 H2) σ l1 l2 l3 H
def fX1_passagesAt (F : Nat) (σ : Sg) (l1 : Int32) : Rs := fX1_passagesAt_4 F F σ (l1) ((0 : Int32)) ((0 : Int32))
set_option maxRecDepth 100000 in
set_option maxHeartbeats 4000000 in
theorem ctX1_passagesAt {l : Launch} {g : GX} {ad : Nat → Nat} {ex : va_W} {r : Int32} {τ σ : Sg} {F : Nat} {l1 : Int32} (H : fX1_passagesAt F σ l1 = some (r, τ)) : Ct l g yX1_passagesAt tX1_passagesAt 0 0 0 0 [.ref (ad 1), .int l1] (HH g ad σ ++ ex) (Pi_ r (HH g ad τ ++ ex)) := by
  refine Ct.of (L := [.ref (ad 1), .int l1, un_, un_]) (by decide +kernel) rfl rfl rfl (Nat.le_of_ble_eq_true rfl) rfl (fun x _ hX => ?_)
  unfold fX1_passagesAt at H
  refine g_iconst (q := 1) (v := 0) dX1_passagesAt_0 rfl (by decide) ?_
  refine g_istore_n (q := 2) (L' := [.ref (ad 1), .int l1, .int ((0 : Int32)), un_]) (i := 2) dX1_passagesAt_1 rfl rfl (Nat.le_of_ble_eq_true rfl) rfl ?_
  refine g_iconst (q := 3) (v := 0) dX1_passagesAt_2 rfl (by decide) ?_
  refine g_istore_n (q := 4) (L' := [.ref (ad 1), .int l1, .int ((0 : Int32)), .int ((0 : Int32))]) (i := 3) dX1_passagesAt_3 rfl rfl (Nat.le_of_ble_eq_true rfl) rfl ?_
  exact g_weak (L' := [.ref (ad 1), .int l1, .int ((0 : Int32)), .int ((0 : Int32))]) ⟨Or.inr rfl, Or.inr rfl, Or.inr rfl, Or.inr rfl, trivial⟩ (wfX1_passagesAt_4 (F := F) hX  F _ _ _ _ H)
def bX1_spread_28 (F : Nat) (k8 : Sg → Int32 → Int32 → Int32 → Int32 → Rs) (k28 : Sg → Int32 → Int32 → Int32 → Int32 → Int32 → Int32 → Rs) (σ : Sg) (l2 : Int32) (l3 : Int32) (l4 : Int32) (l5 : Int32) (l6 : Int32) (l7 : Int32) : Rs := if (σ.1 0) ≤ l7 then (li_ ((l6 &&& (l2 ^^^ (-1 : Int32))) &&& (l3 ^^^ (-1 : Int32))) fun v1 => k8 σ (l2) (l3 ||| v1) (v1) (l5 + 1)) else (if ((l4 >>> (l7 &&& 31)) &&& (1 : Int32)) = (0 : Int32) then (k28 σ (l2) (l3) (l4) (l5) (l6) (l7 + 1)) else (if ib l7 12 then (li_ (l6 ||| (σ.2.1 5 l7.toNatClampNeg)) fun v2 => k28 σ (l2) (l3) (l4) (l5) (v2) (l7 + 1)) else none))
set_option maxRecDepth 100000 in
set_option maxHeartbeats 4000000 in
theorem wbX1_spread_28 {x : FX} {g : GX} {ad : Nat → Nat} {ex M0 : va_W} {r : Int32} {τ : Sg} {F : Nat} (hX : RX x g M0 (Pi_ r (HH g ad τ ++ ex)) 0 0) {k8 : Sg → Int32 → Int32 → Int32 → Int32 → Rs} {k28 : Sg → Int32 → Int32 → Int32 → Int32 → Int32 → Int32 → Rs} (h8 : ∀ (σ : Sg) (l2 : Int32) (l3 : Int32) (l4 : Int32) (l5 : Int32), k8 σ l2 l3 l4 l5 = some (r, τ) → Go x { frames := 0, cells := 0, slots := 0, locals := 0 } tX1_spread g 8 [.ref (ad 1), un_, .int l2, .int l3, .int l4, .int l5, un_, un_] [] (HH g ad σ ++ ex) 0 0) (h28 : ∀ (σ : Sg) (l2 : Int32) (l3 : Int32) (l4 : Int32) (l5 : Int32) (l6 : Int32) (l7 : Int32), k28 σ l2 l3 l4 l5 l6 l7 = some (r, τ) → Go x { frames := 0, cells := 0, slots := 0, locals := 0 } tX1_spread g 28 [.ref (ad 1), un_, .int l2, .int l3, .int l4, .int l5, .int l6, .int l7] [] (HH g ad σ ++ ex) 0 0) (σ : Sg) (l2 : Int32) (l3 : Int32) (l4 : Int32) (l5 : Int32) (l6 : Int32) (l7 : Int32) (H : bX1_spread_28 F k8 k28 σ l2 l3 l4 l5 l6 l7 = some (r, τ)) : Go x { frames := 0, cells := 0, slots := 0, locals := 0 } tX1_spread g 28 [.ref (ad 1), un_, .int l2, .int l3, .int l4, .int l5, .int l6, .int l7] [] (HH g ad σ ++ ex) 0 0 := by
  unfold bX1_spread_28 at H
  refine g_iload (q := 30) dX1_spread_28 rfl rfl ?_
  refine g_aload_n (q := 31) (i := 0) dX1_spread_30 rfl rfl rfl ?_
  refine g_get (q := 34) dX1_spread_31 rfl foX1_24 1 hc1 rfl ?_
  refine g_icmp_ge (q := 37) (r := 65) dX1_spread_34 (by decide) rfl (fun c34 => ?_) (fun c34 => ?_)
  · replace H := (if_pos c34).symm.trans H
    refine g_iload (q := 67) dX1_spread_65 rfl rfl ?_
    refine g_iload_n (q := 68) (i := 2) dX1_spread_67 rfl rfl rfl ?_
    refine g_iconst (q := 69) (v := -1) dX1_spread_68 rfl (by decide) ?_
    refine g_ixor (q := 70) dX1_spread_69 rfl ?_
    refine g_iand (q := 71) dX1_spread_70 rfl ?_
    refine g_iload_n (q := 72) (i := 3) dX1_spread_71 rfl rfl rfl ?_
    refine g_iconst (q := 73) (v := -1) dX1_spread_72 rfl (by decide) ?_
    refine g_ixor (q := 74) dX1_spread_73 rfl ?_
    refine g_iand (q := 75) dX1_spread_74 rfl ?_
    obtain ⟨v1, n1, H⟩ := of_li H
    refine g_name n1 ?_
    refine g_istore (q := 77) (L' := [.ref (ad 1), un_, .int l2, .int l3, .int v1, .int l5, .int l6, .int l7]) dX1_spread_75 rfl (Nat.le_of_ble_eq_true rfl) rfl ?_
    refine g_iload_n (q := 78) (i := 3) dX1_spread_77 rfl rfl rfl ?_
    refine g_iload (q := 80) dX1_spread_78 rfl rfl ?_
    refine g_ior (q := 81) dX1_spread_80 rfl ?_
    refine g_istore_n (q := 82) (L' := [.ref (ad 1), un_, .int l2, .int (l3 ||| v1), .int v1, .int l5, .int l6, .int l7]) (i := 3) dX1_spread_81 rfl rfl (Nat.le_of_ble_eq_true rfl) rfl ?_
    refine g_iinc (q := 85) (b := l5 + 1) (L' := [.ref (ad 1), un_, .int l2, .int (l3 ||| v1), .int v1, .int (l5 + 1), .int l6, .int l7]) dX1_spread_82 rfl rfl rfl (Nat.le_of_ble_eq_true rfl) rfl ?_
    refine g_goto (q := 8) dX1_spread_85 (by decide) ?_
    exact g_weak (L' := [.ref (ad 1), un_, .int l2, .int (l3 ||| v1), .int v1, .int (l5 + 1), un_, un_]) ⟨Or.inr rfl, Or.inl rfl, Or.inr rfl, Or.inr rfl, Or.inr rfl, Or.inr rfl, Or.inl rfl, Or.inl rfl, trivial⟩ (h8 _ _ _ _ _ H)
  · replace H := (if_neg c34).symm.trans H
    refine g_iload (q := 39) dX1_spread_37 rfl rfl ?_
    refine g_iload (q := 41) dX1_spread_39 rfl rfl ?_
    refine g_ishr (q := 42) dX1_spread_41 rfl ?_
    refine g_iconst (q := 43) (v := 1) dX1_spread_42 rfl (by decide) ?_
    refine g_iand (q := 44) dX1_spread_43 rfl ?_
    refine g_if_eq (q := 47) (r := 59) dX1_spread_44 (by decide) rfl (fun c44 => ?_) (fun c44 => ?_)
    · replace H := (if_pos c44).symm.trans H
      refine g_iinc (q := 62) (b := l7 + 1) (L' := [.ref (ad 1), un_, .int l2, .int l3, .int l4, .int l5, .int l6, .int (l7 + 1)]) dX1_spread_59 rfl rfl rfl (Nat.le_of_ble_eq_true rfl) rfl ?_
      refine g_goto (q := 28) dX1_spread_62 (by decide) ?_
      exact g_weak (L' := [.ref (ad 1), un_, .int l2, .int l3, .int l4, .int l5, .int l6, .int (l7 + 1)]) ⟨Or.inr rfl, Or.inl rfl, Or.inr rfl, Or.inr rfl, Or.inr rfl, Or.inr rfl, Or.inr rfl, Or.inr rfl, trivial⟩ (h28 _ _ _ _ _ _ _ H)
    · replace H := (if_neg c44).symm.trans H
      refine g_iload (q := 49) dX1_spread_47 rfl rfl ?_
      refine g_aload_n (q := 50) (i := 0) dX1_spread_49 rfl rfl rfl ?_
      refine g_get (q := 53) dX1_spread_50 rfl foX1_21 1 hc1 rfl ?_
      refine g_iload (q := 55) dX1_spread_53 rfl rfl ?_
      obtain ⟨b55, H⟩ := of_chk H
      refine g_iald (q := 56) dX1_spread_55 rfl 5 hc5 b55 ?_
      refine g_ior (q := 57) dX1_spread_56 rfl ?_
      obtain ⟨v2, n2, H⟩ := of_li H
      refine g_name n2 ?_
      refine g_istore (q := 59) (L' := [.ref (ad 1), un_, .int l2, .int l3, .int l4, .int l5, .int v2, .int l7]) dX1_spread_57 rfl (Nat.le_of_ble_eq_true rfl) rfl ?_
      refine g_iinc (q := 62) (b := l7 + 1) (L' := [.ref (ad 1), un_, .int l2, .int l3, .int l4, .int l5, .int v2, .int (l7 + 1)]) dX1_spread_59 rfl rfl rfl (Nat.le_of_ble_eq_true rfl) rfl ?_
      refine g_goto (q := 28) dX1_spread_62 (by decide) ?_
      exact g_weak (L' := [.ref (ad 1), un_, .int l2, .int l3, .int l4, .int l5, .int v2, .int (l7 + 1)]) ⟨Or.inr rfl, Or.inl rfl, Or.inr rfl, Or.inr rfl, Or.inr rfl, Or.inr rfl, Or.inr rfl, Or.inr rfl, trivial⟩ (h28 _ _ _ _ _ _ _ H)
def fX1_spread_28 (F : Nat) (k8 : Sg → Int32 → Int32 → Int32 → Int32 → Rs) : Nat → Sg → Int32 → Int32 → Int32 → Int32 → Int32 → Int32 → Rs
  | 0 => fun _ _ _ _ _ _ _ => none
  | n + 1 => fun σ l2 l3 l4 l5 l6 l7 => bX1_spread_28 F k8 (fX1_spread_28 F k8 n) σ l2 l3 l4 l5 l6 l7
theorem wfX1_spread_28 {x : FX} {g : GX} {ad : Nat → Nat} {ex M0 : va_W} {r : Int32} {τ : Sg} {F : Nat} (hX : RX x g M0 (Pi_ r (HH g ad τ ++ ex)) 0 0) {k8 : Sg → Int32 → Int32 → Int32 → Int32 → Rs} (h8 : ∀ (σ : Sg) (l2 : Int32) (l3 : Int32) (l4 : Int32) (l5 : Int32), k8 σ l2 l3 l4 l5 = some (r, τ) → Go x { frames := 0, cells := 0, slots := 0, locals := 0 } tX1_spread g 8 [.ref (ad 1), un_, .int l2, .int l3, .int l4, .int l5, un_, un_] [] (HH g ad σ ++ ex) 0 0) : ∀ (n : Nat) (σ : Sg) (l2 : Int32) (l3 : Int32) (l4 : Int32) (l5 : Int32) (l6 : Int32) (l7 : Int32), fX1_spread_28 F k8 n σ l2 l3 l4 l5 l6 l7 = some (r, τ) → Go x { frames := 0, cells := 0, slots := 0, locals := 0 } tX1_spread g 28 [.ref (ad 1), un_, .int l2, .int l3, .int l4, .int l5, .int l6, .int l7] [] (HH g ad σ ++ ex) 0 0
  | 0, _, _, _, _, _, _, _, H => nomatch (show (none : Rs) = some _ from H)
  | n + 1, σ, l2, l3, l4, l5, l6, l7, H => wbX1_spread_28 (F := F) hX h8 (fun σ2 z2 z3 z4 z5 z6 z7 H2 => wfX1_spread_28 (F := F) hX h8 n σ2 z2 z3 z4 z5 z6 z7 H2) σ l2 l3 l4 l5 l6 l7 H
def bX1_spread_8 (F : Nat) (k8 : Sg → Int32 → Int32 → Int32 → Int32 → Rs) (σ : Sg) (l2 : Int32) (l3 : Int32) (l4 : Int32) (l5 : Int32) : Rs := if (σ.1 0) ≤ l5 then (some (l3, σ)) else (if l4 = (0 : Int32) then (some (l3, σ)) else (fX1_spread_28 F k8 F σ (l2) (l3) (l4) (l5) ((0 : Int32)) ((0 : Int32))))
set_option maxRecDepth 100000 in
set_option maxHeartbeats 4000000 in
theorem wbX1_spread_8 {x : FX} {g : GX} {ad : Nat → Nat} {ex M0 : va_W} {r : Int32} {τ : Sg} {F : Nat} (hX : RX x g M0 (Pi_ r (HH g ad τ ++ ex)) 0 0) {k8 : Sg → Int32 → Int32 → Int32 → Int32 → Rs} (h8 : ∀ (σ : Sg) (l2 : Int32) (l3 : Int32) (l4 : Int32) (l5 : Int32), k8 σ l2 l3 l4 l5 = some (r, τ) → Go x { frames := 0, cells := 0, slots := 0, locals := 0 } tX1_spread g 8 [.ref (ad 1), un_, .int l2, .int l3, .int l4, .int l5, un_, un_] [] (HH g ad σ ++ ex) 0 0) (σ : Sg) (l2 : Int32) (l3 : Int32) (l4 : Int32) (l5 : Int32) (H : bX1_spread_8 F k8 σ l2 l3 l4 l5 = some (r, τ)) : Go x { frames := 0, cells := 0, slots := 0, locals := 0 } tX1_spread g 8 [.ref (ad 1), un_, .int l2, .int l3, .int l4, .int l5, un_, un_] [] (HH g ad σ ++ ex) 0 0 := by
  unfold bX1_spread_8 at H
  refine g_iload (q := 10) dX1_spread_8 rfl rfl ?_
  refine g_aload_n (q := 11) (i := 0) dX1_spread_10 rfl rfl rfl ?_
  refine g_get (q := 14) dX1_spread_11 rfl foX1_24 1 hc1 rfl ?_
  refine g_icmp_ge (q := 17) (r := 88) dX1_spread_14 (by decide) rfl (fun c14 => ?_) (fun c14 => ?_)
  · replace H := (if_pos c14).symm.trans H
    refine g_iload_n (q := 89) (i := 3) dX1_spread_88 rfl rfl rfl ?_
    exact g_iret hX dX1_spread_89 rfl rfl (Nat.le_refl _) (Nat.le_refl _) (piOk H)
  · replace H := (if_neg c14).symm.trans H
    refine g_iload (q := 19) dX1_spread_17 rfl rfl ?_
    refine g_if_eq (q := 22) (r := 88) dX1_spread_19 (by decide) rfl (fun c19 => ?_) (fun c19 => ?_)
    · replace H := (if_pos c19).symm.trans H
      refine g_iload_n (q := 89) (i := 3) dX1_spread_88 rfl rfl rfl ?_
      exact g_iret hX dX1_spread_89 rfl rfl (Nat.le_refl _) (Nat.le_refl _) (piOk H)
    · replace H := (if_neg c19).symm.trans H
      refine g_iconst (q := 23) (v := 0) dX1_spread_22 rfl (by decide) ?_
      refine g_istore (q := 25) (L' := [.ref (ad 1), un_, .int l2, .int l3, .int l4, .int l5, .int ((0 : Int32)), un_]) dX1_spread_23 rfl (Nat.le_of_ble_eq_true rfl) rfl ?_
      refine g_iconst (q := 26) (v := 0) dX1_spread_25 rfl (by decide) ?_
      refine g_istore (q := 28) (L' := [.ref (ad 1), un_, .int l2, .int l3, .int l4, .int l5, .int ((0 : Int32)), .int ((0 : Int32))]) dX1_spread_26 rfl (Nat.le_of_ble_eq_true rfl) rfl ?_
      exact g_weak (L' := [.ref (ad 1), un_, .int l2, .int l3, .int l4, .int l5, .int ((0 : Int32)), .int ((0 : Int32))]) ⟨Or.inr rfl, Or.inl rfl, Or.inr rfl, Or.inr rfl, Or.inr rfl, Or.inr rfl, Or.inr rfl, Or.inr rfl, trivial⟩ (wfX1_spread_28 (F := F) hX h8 F _ _ _ _ _ _ _ H)
def fX1_spread_8 (F : Nat)  : Nat → Sg → Int32 → Int32 → Int32 → Int32 → Rs
  | 0 => fun _ _ _ _ _ => none
  | n + 1 => fun σ l2 l3 l4 l5 => bX1_spread_8 F  (fX1_spread_8 F  n) σ l2 l3 l4 l5
theorem wfX1_spread_8 {x : FX} {g : GX} {ad : Nat → Nat} {ex M0 : va_W} {r : Int32} {τ : Sg} {F : Nat} (hX : RX x g M0 (Pi_ r (HH g ad τ ++ ex)) 0 0)   : ∀ (n : Nat) (σ : Sg) (l2 : Int32) (l3 : Int32) (l4 : Int32) (l5 : Int32), fX1_spread_8 F  n σ l2 l3 l4 l5 = some (r, τ) → Go x { frames := 0, cells := 0, slots := 0, locals := 0 } tX1_spread g 8 [.ref (ad 1), un_, .int l2, .int l3, .int l4, .int l5, un_, un_] [] (HH g ad σ ++ ex) 0 0
  | 0, _, _, _, _, _, H => nomatch (show (none : Rs) = some _ from H)
  | n + 1, σ, l2, l3, l4, l5, H => wbX1_spread_8 (F := F) hX  (fun σ2 z2 z3 z4 z5 H2 => wfX1_spread_8 (F := F) hX  n σ2 z2 z3 z4 z5 H2) σ l2 l3 l4 l5 H
def fX1_spread (F : Nat) (σ : Sg) (l1 : Int32) (l2 : Int32) : Rs := fX1_spread_8 F F σ (l2) (l1) (l1) ((0 : Int32))
set_option maxRecDepth 100000 in
set_option maxHeartbeats 4000000 in
theorem ctX1_spread {l : Launch} {g : GX} {ad : Nat → Nat} {ex : va_W} {r : Int32} {τ σ : Sg} {F : Nat} {l1 : Int32} {l2 : Int32} (H : fX1_spread F σ l1 l2 = some (r, τ)) : Ct l g yX1_spread tX1_spread 0 0 0 0 [.ref (ad 1), .int l1, .int l2] (HH g ad σ ++ ex) (Pi_ r (HH g ad τ ++ ex)) := by
  refine Ct.of (L := [.ref (ad 1), .int l1, .int l2, un_, un_, un_, un_, un_]) (by decide +kernel) rfl rfl rfl (Nat.le_of_ble_eq_true rfl) rfl (fun x _ hX => ?_)
  unfold fX1_spread at H
  refine g_iload_n (q := 1) (i := 1) dX1_spread_0 rfl rfl rfl ?_
  refine g_istore_n (q := 2) (L' := [.ref (ad 1), .int l1, .int l2, .int l1, un_, un_, un_, un_]) (i := 3) dX1_spread_1 rfl rfl (Nat.le_of_ble_eq_true rfl) rfl ?_
  refine g_iload_n (q := 3) (i := 1) dX1_spread_2 rfl rfl rfl ?_
  refine g_istore (q := 5) (L' := [.ref (ad 1), .int l1, .int l2, .int l1, .int l1, un_, un_, un_]) dX1_spread_3 rfl (Nat.le_of_ble_eq_true rfl) rfl ?_
  refine g_iconst (q := 6) (v := 0) dX1_spread_5 rfl (by decide) ?_
  refine g_istore (q := 8) (L' := [.ref (ad 1), .int l1, .int l2, .int l1, .int l1, .int ((0 : Int32)), un_, un_]) dX1_spread_6 rfl (Nat.le_of_ble_eq_true rfl) rfl ?_
  exact g_weak (L' := [.ref (ad 1), un_, .int l2, .int l1, .int l1, .int ((0 : Int32)), un_, un_]) ⟨Or.inr rfl, Or.inl rfl, Or.inr rfl, Or.inr rfl, Or.inr rfl, Or.inr rfl, Or.inl rfl, Or.inl rfl, trivial⟩ (wfX1_spread_8 (F := F) hX  F _ _ _ _ _ H)
def fX1_lostBehind (F : Nat) (σ : Sg) (l1 : Int32) (l2 : Int32) (l3 : Int32) (l4 : Int32) : Rs := li_ (l1 &&& (l2 ^^^ (-1 : Int32))) fun v1 => if ((l2 >>> (l3 &&& 31)) &&& (1 : Int32)) = (0 : Int32) then (if ib l3 12 then ((fX1_passagesAt F σ l1).bind fun q2 => (fun (r2 : Int32) (σ2 : Sg) => li_ (((σ.2.1 4 l3.toNatClampNeg) &&& r2) &&& (l4 ^^^ (-1 : Int32))) fun v3 => if v3 = (0 : Int32) then (some (v1, σ2)) else ((fX1_spread F σ2 (v1 ||| ((1 : Int32) <<< (l3 &&& 31))) l2).bind fun q4 => (fun (r4 : Int32) (σ4 : Sg) => some (r4, σ4)) q4.1 q4.2)) q2.1 q2.2) else none) else (some (v1, σ))
set_option maxRecDepth 100000 in
set_option maxHeartbeats 4000000 in
theorem ctX1_lostBehind {l : Launch} {g : GX} {ad : Nat → Nat} {ex : va_W} {r : Int32} {τ σ : Sg} {F : Nat} {l1 : Int32} {l2 : Int32} {l3 : Int32} {l4 : Int32} (H : fX1_lostBehind F σ l1 l2 l3 l4 = some (r, τ)) : Ct l g yX1_lostBehind tX1_lostBehind 1 27 0 0 [.ref (ad 1), .int l1, .int l2, .int l3, .int l4] (HH g ad σ ++ ex) (Pi_ r (HH g ad τ ++ ex)) := by
  refine Ct.of (L := [.ref (ad 1), .int l1, .int l2, .int l3, .int l4, un_, un_]) (by decide +kernel) rfl rfl rfl (Nat.le_of_ble_eq_true rfl) rfl (fun x _ hX => ?_)
  unfold fX1_lostBehind at H
  refine g_iload_n (q := 1) (i := 1) dX1_lostBehind_0 rfl rfl rfl ?_
  refine g_iload_n (q := 2) (i := 2) dX1_lostBehind_1 rfl rfl rfl ?_
  refine g_iconst (q := 3) (v := -1) dX1_lostBehind_2 rfl (by decide) ?_
  refine g_ixor (q := 4) dX1_lostBehind_3 rfl ?_
  refine g_iand (q := 5) dX1_lostBehind_4 rfl ?_
  obtain ⟨v1, n1, H⟩ := of_li H
  refine g_name n1 ?_
  refine g_istore (q := 7) (L' := [.ref (ad 1), .int l1, .int l2, .int l3, .int l4, .int v1, un_]) dX1_lostBehind_5 rfl (Nat.le_of_ble_eq_true rfl) rfl ?_
  refine g_iload_n (q := 8) (i := 2) dX1_lostBehind_7 rfl rfl rfl ?_
  refine g_iload_n (q := 9) (i := 3) dX1_lostBehind_8 rfl rfl rfl ?_
  refine g_ishr (q := 10) dX1_lostBehind_9 rfl ?_
  refine g_iconst (q := 11) (v := 1) dX1_lostBehind_10 rfl (by decide) ?_
  refine g_iand (q := 12) dX1_lostBehind_11 rfl ?_
  refine g_if_eq (q := 15) (r := 18) dX1_lostBehind_12 (by decide) rfl (fun c12 => ?_) (fun c12 => ?_)
  · replace H := (if_pos c12).symm.trans H
    refine g_aload_n (q := 19) (i := 0) dX1_lostBehind_18 rfl rfl rfl ?_
    refine g_get (q := 22) dX1_lostBehind_19 rfl foX1_18 1 hc1 rfl ?_
    refine g_iload_n (q := 23) (i := 3) dX1_lostBehind_22 rfl rfl rfl ?_
    obtain ⟨b23, H⟩ := of_chk H
    refine g_iald (q := 24) dX1_lostBehind_23 rfl 4 hc4 b23 ?_
    refine g_aload_n (q := 25) (i := 0) dX1_lostBehind_24 rfl rfl rfl ?_
    refine g_iload_n (q := 26) (i := 1) dX1_lostBehind_25 rfl rfl rfl ?_
    obtain ⟨r2, σ2, e2, H⟩ := of_bnd H
    refine g_callV (q := 29) (rest := [.int (σ.2.1 4 l3.toNatClampNeg)]) dX1_lostBehind_26 rfl cvX1_56 (ctX1_passagesAt e2) rfl rfl ⟨Nat.le_of_ble_eq_true rfl, Nat.le_of_ble_eq_true rfl⟩ ⟨Nat.le_refl _, Nat.le_refl _⟩ (Nat.le_of_ble_eq_true rfl) 1 hc1 rfl (fun r0 M9 hp => ?_)
    obtain ⟨rfl, rfl⟩ := hp
    show Go x _ _ g 29 [.ref (ad 1), .int l1, .int l2, .int l3, .int l4, .int v1, un_] [.int r2, .int (σ.2.1 4 l3.toNatClampNeg)] (HH g ad σ2 ++ ex) 0 0
    refine g_iand (q := 30) dX1_lostBehind_29 rfl ?_
    refine g_iload (q := 32) dX1_lostBehind_30 rfl rfl ?_
    refine g_iconst (q := 33) (v := -1) dX1_lostBehind_32 rfl (by decide) ?_
    refine g_ixor (q := 34) dX1_lostBehind_33 rfl ?_
    refine g_iand (q := 35) dX1_lostBehind_34 rfl ?_
    obtain ⟨v3, n3, H⟩ := of_li H
    refine g_name n3 ?_
    refine g_istore (q := 37) (L' := [.ref (ad 1), .int l1, .int l2, .int l3, .int l4, .int v1, .int v3]) dX1_lostBehind_35 rfl (Nat.le_of_ble_eq_true rfl) rfl ?_
    refine g_iload (q := 39) dX1_lostBehind_37 rfl rfl ?_
    refine g_if_ne (q := 42) (r := 47) dX1_lostBehind_39 (by decide) rfl (fun c39 => ?_) (fun c39 => ?_)
    · replace H := (if_neg c39).symm.trans H
      refine g_aload_n (q := 48) (i := 0) dX1_lostBehind_47 rfl rfl rfl ?_
      refine g_iload (q := 50) dX1_lostBehind_48 rfl rfl ?_
      refine g_iconst (q := 51) (v := 1) dX1_lostBehind_50 rfl (by decide) ?_
      refine g_iload_n (q := 52) (i := 3) dX1_lostBehind_51 rfl rfl rfl ?_
      refine g_ishl (q := 53) dX1_lostBehind_52 rfl ?_
      refine g_ior (q := 54) dX1_lostBehind_53 rfl ?_
      refine g_iload_n (q := 55) (i := 2) dX1_lostBehind_54 rfl rfl rfl ?_
      obtain ⟨r4, σ4, e4, H⟩ := of_bnd H
      refine g_callV (q := 58) (rest := []) dX1_lostBehind_55 rfl cvX1_60 (ctX1_spread e4) rfl rfl ⟨Nat.le_of_ble_eq_true rfl, Nat.le_of_ble_eq_true rfl⟩ ⟨Nat.le_refl _, Nat.le_refl _⟩ (Nat.le_of_ble_eq_true rfl) 1 hc1 rfl (fun r0 M9 hp => ?_)
      obtain ⟨rfl, rfl⟩ := hp
      show Go x _ _ g 58 [.ref (ad 1), .int l1, .int l2, .int l3, .int l4, .int v1, .int v3] [.int r4] (HH g ad σ4 ++ ex) 0 0
      exact g_iret hX dX1_lostBehind_58 rfl rfl (Nat.le_refl _) (Nat.le_refl _) (piOk H)
    · replace H := (if_pos c39).symm.trans H
      refine g_iload (q := 44) dX1_lostBehind_42 rfl rfl ?_
      refine g_goto (q := 58) dX1_lostBehind_44 (by decide) ?_
      exact g_iret hX dX1_lostBehind_58 rfl rfl (Nat.le_refl _) (Nat.le_refl _) (piOk H)
  · replace H := (if_neg c12).symm.trans H
    refine g_iload (q := 17) dX1_lostBehind_15 rfl rfl ?_
    exact g_iret hX dX1_lostBehind_17 rfl rfl (Nat.le_refl _) (Nat.le_refl _) (piOk H)
def fX1_otherEnd (F : Nat) (σ : Sg) (l1 : Int32) (l2 : Int32) : Rs := if ib l1 18 then (if (σ.2.1 2 l1.toNatClampNeg) = l2 then (if ib l1 18 then (some (σ.2.1 3 l1.toNatClampNeg, σ)) else none) else (if ib l1 18 then (some (σ.2.1 2 l1.toNatClampNeg, σ)) else none)) else none
set_option maxRecDepth 100000 in
set_option maxHeartbeats 4000000 in
theorem ctX1_otherEnd {l : Launch} {g : GX} {ad : Nat → Nat} {ex : va_W} {r : Int32} {τ σ : Sg} {F : Nat} {l1 : Int32} {l2 : Int32} (H : fX1_otherEnd F σ l1 l2 = some (r, τ)) : Ct l g yX1_otherEnd tX1_otherEnd 0 0 0 0 [.ref (ad 1), .int l1, .int l2] (HH g ad σ ++ ex) (Pi_ r (HH g ad τ ++ ex)) := by
  refine Ct.of (L := [.ref (ad 1), .int l1, .int l2]) (by decide +kernel) rfl rfl rfl (Nat.le_of_ble_eq_true rfl) rfl (fun x _ hX => ?_)
  unfold fX1_otherEnd at H
  refine g_aload_n (q := 1) (i := 0) dX1_otherEnd_0 rfl rfl rfl ?_
  refine g_get (q := 4) dX1_otherEnd_1 rfl foX1_9 1 hc1 rfl ?_
  refine g_iload_n (q := 5) (i := 1) dX1_otherEnd_4 rfl rfl rfl ?_
  obtain ⟨b5, H⟩ := of_chk H
  refine g_iald (q := 6) dX1_otherEnd_5 rfl 2 hc2 b5 ?_
  refine g_iload_n (q := 7) (i := 2) dX1_otherEnd_6 rfl rfl rfl ?_
  refine g_icmp_ne (q := 10) (r := 19) dX1_otherEnd_7 (by decide) rfl (fun c7 => ?_) (fun c7 => ?_)
  · replace H := (if_neg c7).symm.trans H
    refine g_aload_n (q := 20) (i := 0) dX1_otherEnd_19 rfl rfl rfl ?_
    refine g_get (q := 23) dX1_otherEnd_20 rfl foX1_9 1 hc1 rfl ?_
    refine g_iload_n (q := 24) (i := 1) dX1_otherEnd_23 rfl rfl rfl ?_
    obtain ⟨b24, H⟩ := of_chk H
    refine g_iald (q := 25) dX1_otherEnd_24 rfl 2 hc2 b24 ?_
    exact g_iret hX dX1_otherEnd_25 rfl rfl (Nat.le_refl _) (Nat.le_refl _) (piOk H)
  · replace H := (if_pos c7).symm.trans H
    refine g_aload_n (q := 11) (i := 0) dX1_otherEnd_10 rfl rfl rfl ?_
    refine g_get (q := 14) dX1_otherEnd_11 rfl foX1_15 1 hc1 rfl ?_
    refine g_iload_n (q := 15) (i := 1) dX1_otherEnd_14 rfl rfl rfl ?_
    obtain ⟨b15, H⟩ := of_chk H
    refine g_iald (q := 16) dX1_otherEnd_15 rfl 3 hc3 b15 ?_
    refine g_goto (q := 25) dX1_otherEnd_16 (by decide) ?_
    exact g_iret hX dX1_otherEnd_25 rfl rfl (Nat.le_refl _) (Nat.le_refl _) (piOk H)
def fX4_come_12 (F : Nat) (σ : Sg) (l1 : Int32) : Rs := if ib l1 12 then (if ib l1 12 then (ls_ (sa σ 13 l1.toNatClampNeg ((σ.2.1 13 l1.toNatClampNeg) + (1 : Int32))) fun σ1 => ls_ (sv σ1 5 ((σ1.1 5) + (1 : Int32))) fun σ2 => ls_ (sv σ2 6 ((σ2.1 6) ||| ((1 : Int32) <<< (l1 &&& 31)))) fun σ3 => some (0, σ3)) else none) else none
set_option maxRecDepth 100000 in
set_option maxHeartbeats 4000000 in
theorem ctX4_come_12 {l : Launch} {g : GX} {ad : Nat → Nat} {ex : va_W} {r : Int32} {τ σ : Sg} {F : Nat} {l1 : Int32} (H : fX4_come_12 F σ l1 = some (r, τ)) : Ct l g yX4_come tX4_come 0 0 0 0 [.ref (ad 12), .int l1] (HH g ad σ ++ ex) (Pv_ (HH g ad τ ++ ex)) := by
  refine Ct.of (L := [.ref (ad 12), .int l1]) (by decide +kernel) rfl rfl rfl (Nat.le_of_ble_eq_true rfl) rfl (fun x _ hX => ?_)
  unfold fX4_come_12 at H
  refine g_aload_n (q := 1) (i := 0) dX4_come_0 rfl rfl rfl ?_
  refine g_get (q := 4) dX4_come_1 rfl foX4_9 12 hc12 rfl ?_
  refine g_iload_n (q := 5) (i := 1) dX4_come_4 rfl rfl rfl ?_
  refine g_dup2 (q := 6) dX4_come_5 rfl rfl rfl ?_
  obtain ⟨b6, H⟩ := of_chk H
  refine g_iald (q := 7) dX4_come_6 rfl 13 hc13 b6 ?_
  refine g_iconst (q := 8) (v := 1) dX4_come_7 rfl (by decide) ?_
  refine g_iadd (q := 9) dX4_come_8 rfl ?_
  obtain ⟨b9, H⟩ := of_chk H
  obtain ⟨σ1, n1, H⟩ := of_ls H
  refine g_iast (q := 10) dX4_come_9 rfl 13 hc13 b9 (ha13e n1) ?_
  refine g_aload_n (q := 11) (i := 0) dX4_come_10 rfl rfl rfl ?_
  refine g_dup (q := 12) dX4_come_11 rfl rfl ?_
  refine g_get (q := 15) dX4_come_12 rfl foX4_21 12 hc12 rfl ?_
  refine g_iconst (q := 16) (v := 1) dX4_come_15 rfl (by decide) ?_
  refine g_iadd (q := 17) dX4_come_16 rfl ?_
  obtain ⟨σ2, n2, H⟩ := of_ls H
  refine g_put (q := 20) dX4_come_17 rfl (fpX4_21 _) 12 hc12 rfl rfl (Nat.le_of_ble_eq_true rfl) (hs5e n2) ?_
  refine g_aload_n (q := 21) (i := 0) dX4_come_20 rfl rfl rfl ?_
  refine g_dup (q := 22) dX4_come_21 rfl rfl ?_
  refine g_get (q := 25) dX4_come_22 rfl foX4_25 12 hc12 rfl ?_
  refine g_iconst (q := 26) (v := 1) dX4_come_25 rfl (by decide) ?_
  refine g_iload_n (q := 27) (i := 1) dX4_come_26 rfl rfl rfl ?_
  refine g_ishl (q := 28) dX4_come_27 rfl ?_
  refine g_ior (q := 29) dX4_come_28 rfl ?_
  obtain ⟨σ3, n3, H⟩ := of_ls H
  refine g_put (q := 32) dX4_come_29 rfl (fpX4_25 _) 12 hc12 rfl rfl (Nat.le_of_ble_eq_true rfl) (hs6e n3) ?_
  exact g_vret hX dX4_come_32 rfl (Nat.le_refl _) (Nat.le_refl _) (pvOk H)
def fX4_leave_12 (F : Nat) (σ : Sg) (l1 : Int32) : Rs := if ib l1 12 then (if ib l1 12 then (ls_ (sa σ 13 l1.toNatClampNeg ((σ.2.1 13 l1.toNatClampNeg) - (1 : Int32))) fun σ1 => ls_ (sv σ1 5 ((σ1.1 5) - (1 : Int32))) fun σ2 => if ib l1 12 then (if (σ2.2.1 13 l1.toNatClampNeg) = (0 : Int32) then (ls_ (sv σ2 6 ((σ2.1 6) &&& (((1 : Int32) <<< (l1 &&& 31)) ^^^ (-1 : Int32)))) fun σ3 => some (0, σ3)) else (some (0, σ2))) else none) else none) else none
set_option maxRecDepth 100000 in
set_option maxHeartbeats 4000000 in
theorem ctX4_leave_12 {l : Launch} {g : GX} {ad : Nat → Nat} {ex : va_W} {r : Int32} {τ σ : Sg} {F : Nat} {l1 : Int32} (H : fX4_leave_12 F σ l1 = some (r, τ)) : Ct l g yX4_leave tX4_leave 0 0 0 0 [.ref (ad 12), .int l1] (HH g ad σ ++ ex) (Pv_ (HH g ad τ ++ ex)) := by
  refine Ct.of (L := [.ref (ad 12), .int l1]) (by decide +kernel) rfl rfl rfl (Nat.le_of_ble_eq_true rfl) rfl (fun x _ hX => ?_)
  unfold fX4_leave_12 at H
  refine g_aload_n (q := 1) (i := 0) dX4_leave_0 rfl rfl rfl ?_
  refine g_get (q := 4) dX4_leave_1 rfl foX4_9 12 hc12 rfl ?_
  refine g_iload_n (q := 5) (i := 1) dX4_leave_4 rfl rfl rfl ?_
  refine g_dup2 (q := 6) dX4_leave_5 rfl rfl rfl ?_
  obtain ⟨b6, H⟩ := of_chk H
  refine g_iald (q := 7) dX4_leave_6 rfl 13 hc13 b6 ?_
  refine g_iconst (q := 8) (v := 1) dX4_leave_7 rfl (by decide) ?_
  refine g_isub (q := 9) dX4_leave_8 rfl ?_
  obtain ⟨b9, H⟩ := of_chk H
  obtain ⟨σ1, n1, H⟩ := of_ls H
  refine g_iast (q := 10) dX4_leave_9 rfl 13 hc13 b9 (ha13e n1) ?_
  refine g_aload_n (q := 11) (i := 0) dX4_leave_10 rfl rfl rfl ?_
  refine g_dup (q := 12) dX4_leave_11 rfl rfl ?_
  refine g_get (q := 15) dX4_leave_12 rfl foX4_21 12 hc12 rfl ?_
  refine g_iconst (q := 16) (v := 1) dX4_leave_15 rfl (by decide) ?_
  refine g_isub (q := 17) dX4_leave_16 rfl ?_
  obtain ⟨σ2, n2, H⟩ := of_ls H
  refine g_put (q := 20) dX4_leave_17 rfl (fpX4_21 _) 12 hc12 rfl rfl (Nat.le_of_ble_eq_true rfl) (hs5e n2) ?_
  refine g_aload_n (q := 21) (i := 0) dX4_leave_20 rfl rfl rfl ?_
  refine g_get (q := 24) dX4_leave_21 rfl foX4_9 12 hc12 rfl ?_
  refine g_iload_n (q := 25) (i := 1) dX4_leave_24 rfl rfl rfl ?_
  obtain ⟨b25, H⟩ := of_chk H
  refine g_iald (q := 26) dX4_leave_25 rfl 13 hc13 b25 ?_
  refine g_if_ne (q := 29) (r := 43) dX4_leave_26 (by decide) rfl (fun c26 => ?_) (fun c26 => ?_)
  · replace H := (if_neg c26).symm.trans H
    exact g_vret hX dX4_leave_43 rfl (Nat.le_refl _) (Nat.le_refl _) (pvOk H)
  · replace H := (if_pos c26).symm.trans H
    refine g_aload_n (q := 30) (i := 0) dX4_leave_29 rfl rfl rfl ?_
    refine g_dup (q := 31) dX4_leave_30 rfl rfl ?_
    refine g_get (q := 34) dX4_leave_31 rfl foX4_25 12 hc12 rfl ?_
    refine g_iconst (q := 35) (v := 1) dX4_leave_34 rfl (by decide) ?_
    refine g_iload_n (q := 36) (i := 1) dX4_leave_35 rfl rfl rfl ?_
    refine g_ishl (q := 37) dX4_leave_36 rfl ?_
    refine g_iconst (q := 38) (v := -1) dX4_leave_37 rfl (by decide) ?_
    refine g_ixor (q := 39) dX4_leave_38 rfl ?_
    refine g_iand (q := 40) dX4_leave_39 rfl ?_
    obtain ⟨σ3, n3, H⟩ := of_ls H
    refine g_put (q := 43) dX4_leave_40 rfl (fpX4_25 _) 12 hc12 rfl rfl (Nat.le_of_ble_eq_true rfl) (hs6e n3) ?_
    exact g_vret hX dX4_leave_43 rfl (Nat.le_refl _) (Nat.le_refl _) (pvOk H)
