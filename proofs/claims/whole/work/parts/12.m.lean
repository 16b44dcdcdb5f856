def fX6_canBeSolved (F : Nat) (σ : Sg) (l1 : Int32) : Rs := (fX6_isLaw F σ l1).bind fun q1 => (fun (r1 : Int32) (σ1 : Sg) => if r1 = (0 : Int32) then (some ((0 : Int32), σ1)) else (if (σ1.1 0) ≤ (0 : Int32) then (some ((0 : Int32), σ1)) else (if (6 : Int32) < (σ1.1 0) then (some ((0 : Int32), σ1)) else ((fJ6_bitCount_0f7a4 F σ1 (σ1.1 1)).bind fun q2 => (fun (r2 : Int32) (σ2 : Sg) => if (8 : Int32) < r2 then (some ((0 : Int32), σ2)) else (some ((1 : Int32), σ2))) q2.1 q2.2)))) q1.1 q1.2
set_option maxRecDepth 100000 in
set_option maxHeartbeats 4000000 in
theorem ctX6_canBeSolved {l : Launch} {g : GX} {ad : Nat → Nat} {ex : va_W} {r : Int32} {τ σ : Sg} {F : Nat} {l1 : Int32} (H : fX6_canBeSolved F σ l1 = some (r, τ)) : Ct l g yX6_canBeSolved tX6_canBeSolved 1 20 0 0 [.ref (ad 0), .int l1] (HH g ad σ ++ ex) (Pi_ r (HH g ad τ ++ ex)) := by
  refine Ct.of (L := [.ref (ad 0), .int l1]) (by decide +kernel) rfl rfl rfl (Nat.le_of_ble_eq_true rfl) rfl (fun x _ hX => ?_)
  unfold fX6_canBeSolved at H
  refine g_iload_n (q := 1) (i := 1) dX6_canBeSolved_0 rfl rfl rfl ?_
  obtain ⟨r1, σ1, e1, H⟩ := of_bnd H
  refine g_callS (q := 4) (rest := []) dX6_canBeSolved_1 rfl csX6_161 (ctX6_isLaw e1) rfl rfl ⟨Nat.le_of_ble_eq_true rfl, Nat.le_of_ble_eq_true rfl⟩ ⟨Nat.le_refl _, Nat.le_refl _⟩ (Nat.le_of_ble_eq_true rfl) (fun r0 M9 hp => ?_)
  obtain ⟨rfl, rfl⟩ := hp
  show Go x _ _ g 4 [.ref (ad 0), .int l1] [.int r1] (HH g ad σ1 ++ ex) 0 0
  refine g_if_eq (q := 7) (r := 48) dX6_canBeSolved_4 (by decide) rfl (fun c4 => ?_) (fun c4 => ?_)
  · replace H := (if_pos c4).symm.trans H
    refine g_iconst (q := 49) (v := 0) dX6_canBeSolved_48 rfl (by decide) ?_
    exact g_iret hX dX6_canBeSolved_49 rfl rfl (Nat.le_refl _) (Nat.le_refl _) (piOk H)
  · replace H := (if_neg c4).symm.trans H
    refine g_aload_n (q := 8) (i := 0) dX6_canBeSolved_7 rfl rfl rfl ?_
    refine g_get (q := 11) dX6_canBeSolved_8 rfl foX6_10 0 hc0 rfl ?_
    refine g_get (q := 14) dX6_canBeSolved_11 rfl foX6_121 1 hc1 rfl ?_
    refine g_if_le (q := 17) (r := 48) dX6_canBeSolved_14 (by decide) rfl (fun c14 => ?_) (fun c14 => ?_)
    · replace H := (if_pos c14).symm.trans H
      refine g_iconst (q := 49) (v := 0) dX6_canBeSolved_48 rfl (by decide) ?_
      exact g_iret hX dX6_canBeSolved_49 rfl rfl (Nat.le_refl _) (Nat.le_refl _) (piOk H)
    · replace H := (if_neg c14).symm.trans H
      refine g_aload_n (q := 18) (i := 0) dX6_canBeSolved_17 rfl rfl rfl ?_
      refine g_get (q := 21) dX6_canBeSolved_18 rfl foX6_10 0 hc0 rfl ?_
      refine g_get (q := 24) dX6_canBeSolved_21 rfl foX6_121 1 hc1 rfl ?_
      refine g_bipush (q := 26) (v := 6) dX6_canBeSolved_24 rfl (by decide) ?_
      refine g_icmp_gt (q := 29) (r := 48) dX6_canBeSolved_26 (by decide) rfl (fun c26 => ?_) (fun c26 => ?_)
      · replace H := (if_pos c26).symm.trans H
        refine g_iconst (q := 49) (v := 0) dX6_canBeSolved_48 rfl (by decide) ?_
        exact g_iret hX dX6_canBeSolved_49 rfl rfl (Nat.le_refl _) (Nat.le_refl _) (piOk H)
      · replace H := (if_neg c26).symm.trans H
        refine g_aload_n (q := 30) (i := 0) dX6_canBeSolved_29 rfl rfl rfl ?_
        refine g_get (q := 33) dX6_canBeSolved_30 rfl foX6_10 0 hc0 rfl ?_
        refine g_get (q := 36) dX6_canBeSolved_33 rfl foX6_124 1 hc1 rfl ?_
        obtain ⟨r2, σ2, e2, H⟩ := of_bnd H
        refine g_callS (q := 39) (rest := []) dX6_canBeSolved_36 rfl csX6_112 (ctJ6_bitCount_0f7a4 e2) rfl rfl ⟨Nat.le_of_ble_eq_true rfl, Nat.le_of_ble_eq_true rfl⟩ ⟨Nat.le_refl _, Nat.le_refl _⟩ (Nat.le_of_ble_eq_true rfl) (fun r0 M9 hp => ?_)
        obtain ⟨rfl, rfl⟩ := hp
        show Go x _ _ g 39 [.ref (ad 0), .int l1] [.int r2] (HH g ad σ2 ++ ex) 0 0
        refine g_bipush (q := 41) (v := 8) dX6_canBeSolved_39 rfl (by decide) ?_
        refine g_icmp_gt (q := 44) (r := 48) dX6_canBeSolved_41 (by decide) rfl (fun c41 => ?_) (fun c41 => ?_)
        · replace H := (if_pos c41).symm.trans H
          refine g_iconst (q := 49) (v := 0) dX6_canBeSolved_48 rfl (by decide) ?_
          exact g_iret hX dX6_canBeSolved_49 rfl rfl (Nat.le_refl _) (Nat.le_refl _) (piOk H)
        · replace H := (if_neg c41).symm.trans H
          refine g_iconst (q := 45) (v := 1) dX6_canBeSolved_44 rfl (by decide) ?_
          refine g_goto (q := 49) dX6_canBeSolved_45 (by decide) ?_
          exact g_iret hX dX6_canBeSolved_49 rfl rfl (Nat.le_refl _) (Nat.le_refl _) (piOk H)
def bX0_takeUp_60 (F : Nat) (k60 : Sg → Int32 → Rs) (σ : Sg) (l3 : Int32) : Rs := if (6 : Int32) ≤ l3 then (some (0, σ)) else (li_ (((σ.1 13) >>> (((2 : Int32) * l3) &&& 31)) &&& (3 : Int32)) fun v1 => ls_ (sv σ 17 ((σ.1 17) + v1)) fun σ2 => if v1 ≤ (0 : Int32) then (k60 σ2 (l3 + 1)) else (ls_ (sv σ2 16 ((σ2.1 16) ||| ((1 : Int32) <<< (l3 &&& 31)))) fun σ3 => k60 σ3 (l3 + 1)))
set_option maxRecDepth 100000 in
set_option maxHeartbeats 4000000 in
theorem wbX0_takeUp_60 {x : FX} {g : GX} {ad : Nat → Nat} {ex M0 : va_W} {r : Int32} {τ : Sg} {F : Nat} (hX : RX x g M0 (Pv_ (HH g ad τ ++ ex)) 0 0) {k60 : Sg → Int32 → Rs} (h60 : ∀ (σ : Sg) (l3 : Int32), k60 σ l3 = some (r, τ) → Go x { frames := 0, cells := 0, slots := 0, locals := 0 } tX0_takeUp g 60 [.ref (ad 17), un_, un_, .int l3, un_] [] (HH g ad σ ++ ex) 0 0) (σ : Sg) (l3 : Int32) (H : bX0_takeUp_60 F k60 σ l3 = some (r, τ)) : Go x { frames := 0, cells := 0, slots := 0, locals := 0 } tX0_takeUp g 60 [.ref (ad 17), un_, un_, .int l3, un_] [] (HH g ad σ ++ ex) 0 0 := by
  unfold bX0_takeUp_60 at H
  refine g_iload_n (q := 61) (i := 3) dX0_takeUp_60 rfl rfl rfl ?_
  refine g_bipush (q := 63) (v := 6) dX0_takeUp_61 rfl (by decide) ?_
  refine g_icmp_ge (q := 66) (r := 112) dX0_takeUp_63 (by decide) rfl (fun c63 => ?_) (fun c63 => ?_)
  · replace H := (if_pos c63).symm.trans H
    exact g_vret hX dX0_takeUp_112 rfl (Nat.le_refl _) (Nat.le_refl _) (pvOk H)
  · replace H := (if_neg c63).symm.trans H
    refine g_aload_n (q := 67) (i := 0) dX0_takeUp_66 rfl rfl rfl ?_
    refine g_get (q := 70) dX0_takeUp_67 rfl foX0_85 17 hc17 rfl ?_
    refine g_iconst (q := 71) (v := 2) dX0_takeUp_70 rfl (by decide) ?_
    refine g_iload_n (q := 72) (i := 3) dX0_takeUp_71 rfl rfl rfl ?_
    refine g_imul (q := 73) dX0_takeUp_72 rfl ?_
    refine g_ishr (q := 74) dX0_takeUp_73 rfl ?_
    refine g_iconst (q := 75) (v := 3) dX0_takeUp_74 rfl (by decide) ?_
    refine g_iand (q := 76) dX0_takeUp_75 rfl ?_
    obtain ⟨v1, n1, H⟩ := of_li H
    refine g_name n1 ?_
    refine g_istore (q := 78) (L' := [.ref (ad 17), un_, un_, .int l3, .int v1]) dX0_takeUp_76 rfl (Nat.le_of_ble_eq_true rfl) rfl ?_
    refine g_aload_n (q := 79) (i := 0) dX0_takeUp_78 rfl rfl rfl ?_
    refine g_dup (q := 80) dX0_takeUp_79 rfl rfl ?_
    refine g_get (q := 83) dX0_takeUp_80 rfl foX0_94 17 hc17 rfl ?_
    refine g_iload (q := 85) dX0_takeUp_83 rfl rfl ?_
    refine g_iadd (q := 86) dX0_takeUp_85 rfl ?_
    obtain ⟨σ2, n2, H⟩ := of_ls H
    refine g_put (q := 89) dX0_takeUp_86 rfl (fpX0_94 _) 17 hc17 rfl rfl (Nat.le_of_ble_eq_true rfl) (hs17e n2) ?_
    refine g_iload (q := 91) dX0_takeUp_89 rfl rfl ?_
    refine g_if_le (q := 94) (r := 106) dX0_takeUp_91 (by decide) rfl (fun c91 => ?_) (fun c91 => ?_)
    · replace H := (if_pos c91).symm.trans H
      refine g_iinc (q := 109) (b := l3 + 1) (L' := [.ref (ad 17), un_, un_, .int (l3 + 1), .int v1]) dX0_takeUp_106 rfl rfl rfl (Nat.le_of_ble_eq_true rfl) rfl ?_
      refine g_goto (q := 60) dX0_takeUp_109 (by decide) ?_
      exact g_weak (L' := [.ref (ad 17), un_, un_, .int (l3 + 1), un_]) ⟨Or.inr rfl, Or.inl rfl, Or.inl rfl, Or.inr rfl, Or.inl rfl, trivial⟩ (h60 _ _ H)
    · replace H := (if_neg c91).symm.trans H
      refine g_aload_n (q := 95) (i := 0) dX0_takeUp_94 rfl rfl rfl ?_
      refine g_dup (q := 96) dX0_takeUp_95 rfl rfl ?_
      refine g_get (q := 99) dX0_takeUp_96 rfl foX0_91 17 hc17 rfl ?_
      refine g_iconst (q := 100) (v := 1) dX0_takeUp_99 rfl (by decide) ?_
      refine g_iload_n (q := 101) (i := 3) dX0_takeUp_100 rfl rfl rfl ?_
      refine g_ishl (q := 102) dX0_takeUp_101 rfl ?_
      refine g_ior (q := 103) dX0_takeUp_102 rfl ?_
      obtain ⟨σ3, n3, H⟩ := of_ls H
      refine g_put (q := 106) dX0_takeUp_103 rfl (fpX0_91 _) 17 hc17 rfl rfl (Nat.le_of_ble_eq_true rfl) (hs16e n3) ?_
      refine g_iinc (q := 109) (b := l3 + 1) (L' := [.ref (ad 17), un_, un_, .int (l3 + 1), .int v1]) dX0_takeUp_106 rfl rfl rfl (Nat.le_of_ble_eq_true rfl) rfl ?_
      refine g_goto (q := 60) dX0_takeUp_109 (by decide) ?_
      exact g_weak (L' := [.ref (ad 17), un_, un_, .int (l3 + 1), un_]) ⟨Or.inr rfl, Or.inl rfl, Or.inl rfl, Or.inr rfl, Or.inl rfl, trivial⟩ (h60 _ _ H)
def fX0_takeUp_60 (F : Nat)  : Nat → Sg → Int32 → Rs
  | 0 => fun _ _ => none
  | n + 1 => fun σ l3 => bX0_takeUp_60 F  (fX0_takeUp_60 F  n) σ l3
theorem wfX0_takeUp_60 {x : FX} {g : GX} {ad : Nat → Nat} {ex M0 : va_W} {r : Int32} {τ : Sg} {F : Nat} (hX : RX x g M0 (Pv_ (HH g ad τ ++ ex)) 0 0)   : ∀ (n : Nat) (σ : Sg) (l3 : Int32), fX0_takeUp_60 F  n σ l3 = some (r, τ) → Go x { frames := 0, cells := 0, slots := 0, locals := 0 } tX0_takeUp g 60 [.ref (ad 17), un_, un_, .int l3, un_] [] (HH g ad σ ++ ex) 0 0
  | 0, _, _, H => nomatch (show (none : Rs) = some _ from H)
  | n + 1, σ, l3, H => wbX0_takeUp_60 (F := F) hX  (fun σ2 z3 H2 => wfX0_takeUp_60 (F := F) hX  n σ2 z3 H2) σ l3 H
def fX0_takeUp (F : Nat) (σ : Sg) (l1 : Int32) : Rs := if ib l1 1604 then (li_ (σ.2.1 19 l1.toNatClampNeg) fun v1 => ls_ (sv σ 12 l1) fun σ2 => ls_ (sv σ2 13 (v1 &&& (4095 : Int32))) fun σ3 => ls_ (sv σ3 14 ((v1 >>> ((12 : Int32) &&& 31)) &&& (63 : Int32))) fun σ4 => if (v1 >>> ((18 : Int32) &&& 31)) = (0 : Int32) then (ls_ (sv σ4 15 (0 : Int32)) fun σ5 => ls_ (sv σ5 16 (0 : Int32)) fun σ6 => ls_ (sv σ6 17 (0 : Int32)) fun σ7 => fX0_takeUp_60 F F σ7 ((0 : Int32))) else (ls_ (sv σ4 15 (1 : Int32)) fun σ8 => ls_ (sv σ8 16 (0 : Int32)) fun σ9 => ls_ (sv σ9 17 (0 : Int32)) fun σ10 => fX0_takeUp_60 F F σ10 ((0 : Int32)))) else none
set_option maxRecDepth 100000 in
set_option maxHeartbeats 4000000 in
theorem ctX0_takeUp {l : Launch} {g : GX} {ad : Nat → Nat} {ex : va_W} {r : Int32} {τ σ : Sg} {F : Nat} {l1 : Int32} (H : fX0_takeUp F σ l1 = some (r, τ)) : Ct l g yX0_takeUp tX0_takeUp 0 0 0 0 [.ref (ad 17), .int l1] (HH g ad σ ++ ex) (Pv_ (HH g ad τ ++ ex)) := by
  refine Ct.of (L := [.ref (ad 17), .int l1, un_, un_, un_]) (by decide +kernel) rfl rfl rfl (Nat.le_of_ble_eq_true rfl) rfl (fun x _ hX => ?_)
  unfold fX0_takeUp at H
  refine g_aload_n (q := 1) (i := 0) dX0_takeUp_0 rfl rfl rfl ?_
  refine g_get (q := 4) dX0_takeUp_1 rfl foX0_15 17 hc17 rfl ?_
  refine g_iload_n (q := 5) (i := 1) dX0_takeUp_4 rfl rfl rfl ?_
  obtain ⟨b5, H⟩ := of_chk H
  refine g_iald (q := 6) dX0_takeUp_5 rfl 19 hc19 b5 ?_
  obtain ⟨v1, n1, H⟩ := of_li H
  refine g_name n1 ?_
  refine g_istore_n (q := 7) (L' := [.ref (ad 17), .int l1, .int v1, un_, un_]) (i := 2) dX0_takeUp_6 rfl rfl (Nat.le_of_ble_eq_true rfl) rfl ?_
  refine g_aload_n (q := 8) (i := 0) dX0_takeUp_7 rfl rfl rfl ?_
  refine g_iload_n (q := 9) (i := 1) dX0_takeUp_8 rfl rfl rfl ?_
  obtain ⟨σ2, n2, H⟩ := of_ls H
  refine g_put (q := 12) dX0_takeUp_9 rfl (fpX0_47 _) 17 hc17 rfl rfl (Nat.le_of_ble_eq_true rfl) (hs12e n2) ?_
  refine g_aload_n (q := 13) (i := 0) dX0_takeUp_12 rfl rfl rfl ?_
  refine g_iload_n (q := 14) (i := 2) dX0_takeUp_13 rfl rfl rfl ?_
  refine g_sipush (q := 17) (v := 4095) dX0_takeUp_14 rfl (by decide) ?_
  refine g_iand (q := 18) dX0_takeUp_17 rfl ?_
  obtain ⟨σ3, n3, H⟩ := of_ls H
  refine g_put (q := 21) dX0_takeUp_18 rfl (fpX0_85 _) 17 hc17 rfl rfl (Nat.le_of_ble_eq_true rfl) (hs13e n3) ?_
  refine g_aload_n (q := 22) (i := 0) dX0_takeUp_21 rfl rfl rfl ?_
  refine g_iload_n (q := 23) (i := 2) dX0_takeUp_22 rfl rfl rfl ?_
  refine g_bipush (q := 25) (v := 12) dX0_takeUp_23 rfl (by decide) ?_
  refine g_ishr (q := 26) dX0_takeUp_25 rfl ?_
  refine g_bipush (q := 28) (v := 63) dX0_takeUp_26 rfl (by decide) ?_
  refine g_iand (q := 29) dX0_takeUp_28 rfl ?_
  obtain ⟨σ4, n4, H⟩ := of_ls H
  refine g_put (q := 32) dX0_takeUp_29 rfl (fpX0_88 _) 17 hc17 rfl rfl (Nat.le_of_ble_eq_true rfl) (hs14e n4) ?_
  refine g_aload_n (q := 33) (i := 0) dX0_takeUp_32 rfl rfl rfl ?_
  refine g_iload_n (q := 34) (i := 2) dX0_takeUp_33 rfl rfl rfl ?_
  refine g_bipush (q := 36) (v := 18) dX0_takeUp_34 rfl (by decide) ?_
  refine g_ishr (q := 37) dX0_takeUp_36 rfl ?_
  refine g_if_eq (q := 40) (r := 44) dX0_takeUp_37 (by decide) rfl (fun c37 => ?_) (fun c37 => ?_)
  · replace H := (if_pos c37).symm.trans H
    refine g_iconst (q := 45) (v := 0) dX0_takeUp_44 rfl (by decide) ?_
    obtain ⟨σ5, n5, H⟩ := of_ls H
    refine g_put (q := 48) dX0_takeUp_45 rfl (fpX0_50 _) 17 hc17 rfl rfl (Nat.le_of_ble_eq_true rfl) (hs15e n5) ?_
    refine g_aload_n (q := 49) (i := 0) dX0_takeUp_48 rfl rfl rfl ?_
    refine g_iconst (q := 50) (v := 0) dX0_takeUp_49 rfl (by decide) ?_
    obtain ⟨σ6, n6, H⟩ := of_ls H
    refine g_put (q := 53) dX0_takeUp_50 rfl (fpX0_91 _) 17 hc17 rfl rfl (Nat.le_of_ble_eq_true rfl) (hs16e n6) ?_
    refine g_aload_n (q := 54) (i := 0) dX0_takeUp_53 rfl rfl rfl ?_
    refine g_iconst (q := 55) (v := 0) dX0_takeUp_54 rfl (by decide) ?_
    obtain ⟨σ7, n7, H⟩ := of_ls H
    refine g_put (q := 58) dX0_takeUp_55 rfl (fpX0_94 _) 17 hc17 rfl rfl (Nat.le_of_ble_eq_true rfl) (hs17e n7) ?_
    refine g_iconst (q := 59) (v := 0) dX0_takeUp_58 rfl (by decide) ?_
    refine g_istore_n (q := 60) (L' := [.ref (ad 17), .int l1, .int v1, .int ((0 : Int32)), un_]) (i := 3) dX0_takeUp_59 rfl rfl (Nat.le_of_ble_eq_true rfl) rfl ?_
    exact g_weak (L' := [.ref (ad 17), un_, un_, .int ((0 : Int32)), un_]) ⟨Or.inr rfl, Or.inl rfl, Or.inl rfl, Or.inr rfl, Or.inl rfl, trivial⟩ (wfX0_takeUp_60 (F := F) hX  F _ _ H)
  · replace H := (if_neg c37).symm.trans H
    refine g_iconst (q := 41) (v := 1) dX0_takeUp_40 rfl (by decide) ?_
    refine g_goto (q := 45) dX0_takeUp_41 (by decide) ?_
    obtain ⟨σ8, n8, H⟩ := of_ls H
    refine g_put (q := 48) dX0_takeUp_45 rfl (fpX0_50 _) 17 hc17 rfl rfl (Nat.le_of_ble_eq_true rfl) (hs15e n8) ?_
    refine g_aload_n (q := 49) (i := 0) dX0_takeUp_48 rfl rfl rfl ?_
    refine g_iconst (q := 50) (v := 0) dX0_takeUp_49 rfl (by decide) ?_
    obtain ⟨σ9, n9, H⟩ := of_ls H
    refine g_put (q := 53) dX0_takeUp_50 rfl (fpX0_91 _) 17 hc17 rfl rfl (Nat.le_of_ble_eq_true rfl) (hs16e n9) ?_
    refine g_aload_n (q := 54) (i := 0) dX0_takeUp_53 rfl rfl rfl ?_
    refine g_iconst (q := 55) (v := 0) dX0_takeUp_54 rfl (by decide) ?_
    obtain ⟨σ10, n10, H⟩ := of_ls H
    refine g_put (q := 58) dX0_takeUp_55 rfl (fpX0_94 _) 17 hc17 rfl rfl (Nat.le_of_ble_eq_true rfl) (hs17e n10) ?_
    refine g_iconst (q := 59) (v := 0) dX0_takeUp_58 rfl (by decide) ?_
    refine g_istore_n (q := 60) (L' := [.ref (ad 17), .int l1, .int v1, .int ((0 : Int32)), un_]) (i := 3) dX0_takeUp_59 rfl rfl (Nat.le_of_ble_eq_true rfl) rfl ?_
    exact g_weak (L' := [.ref (ad 17), un_, un_, .int ((0 : Int32)), un_]) ⟨Or.inr rfl, Or.inl rfl, Or.inl rfl, Or.inr rfl, Or.inl rfl, trivial⟩ (wfX0_takeUp_60 (F := F) hX  F _ _ H)
def fX1_allows (F : Nat) (σ : Sg) (l1 : Int32) (l2 : Int32) (l3 : Int32) (l4 : Int32) : Rs := if l1 = (0 : Int32) then (some ((1 : Int32), σ)) else (if l2 = (1 : Int32) then (some ((0 : Int32), σ)) else (if l2 = (0 : Int32) then (if l1 = (1 : Int32) then (if l4 = (0 : Int32) then (some ((1 : Int32), σ)) else (some ((0 : Int32), σ))) else (if l3 = (σ.1 2) then (some ((1 : Int32), σ)) else (some ((0 : Int32), σ)))) else (some ((1 : Int32), σ))))
set_option maxRecDepth 100000 in
set_option maxHeartbeats 4000000 in
theorem ctX1_allows {l : Launch} {g : GX} {ad : Nat → Nat} {ex : va_W} {r : Int32} {τ σ : Sg} {F : Nat} {l1 : Int32} {l2 : Int32} {l3 : Int32} {l4 : Int32} (H : fX1_allows F σ l1 l2 l3 l4 = some (r, τ)) : Ct l g yX1_allows tX1_allows 0 0 0 0 [.ref (ad 1), .int l1, .int l2, .int l3, .int l4] (HH g ad σ ++ ex) (Pi_ r (HH g ad τ ++ ex)) := by
  refine Ct.of (L := [.ref (ad 1), .int l1, .int l2, .int l3, .int l4]) (by decide +kernel) rfl rfl rfl (Nat.le_of_ble_eq_true rfl) rfl (fun x _ hX => ?_)
  unfold fX1_allows at H
  refine g_iload_n (q := 1) (i := 1) dX1_allows_0 rfl rfl rfl ?_
  refine g_if_ne (q := 4) (r := 6) dX1_allows_1 (by decide) rfl (fun c1 => ?_) (fun c1 => ?_)
  · replace H := (if_neg c1).symm.trans H
    refine g_iload_n (q := 7) (i := 2) dX1_allows_6 rfl rfl rfl ?_
    refine g_iconst (q := 8) (v := 1) dX1_allows_7 rfl (by decide) ?_
    refine g_icmp_ne (q := 11) (r := 13) dX1_allows_8 (by decide) rfl (fun c8 => ?_) (fun c8 => ?_)
    · replace H := (if_neg c8).symm.trans H
      refine g_iload_n (q := 14) (i := 2) dX1_allows_13 rfl rfl rfl ?_
      refine g_if_eq (q := 17) (r := 19) dX1_allows_14 (by decide) rfl (fun c14 => ?_) (fun c14 => ?_)
      · replace H := (if_pos c14).symm.trans H
        refine g_iload_n (q := 20) (i := 1) dX1_allows_19 rfl rfl rfl ?_
        refine g_iconst (q := 21) (v := 1) dX1_allows_20 rfl (by decide) ?_
        refine g_icmp_ne (q := 24) (r := 37) dX1_allows_21 (by decide) rfl (fun c21 => ?_) (fun c21 => ?_)
        · replace H := (if_neg c21).symm.trans H
          refine g_iload_n (q := 38) (i := 3) dX1_allows_37 rfl rfl rfl ?_
          refine g_aload_n (q := 39) (i := 0) dX1_allows_38 rfl rfl rfl ?_
          refine g_get (q := 42) dX1_allows_39 rfl foX1_31 1 hc1 rfl ?_
          refine g_icmp_ne (q := 45) (r := 49) dX1_allows_42 (by decide) rfl (fun c42 => ?_) (fun c42 => ?_)
          · replace H := (if_neg c42).symm.trans H
            refine g_iconst (q := 50) (v := 0) dX1_allows_49 rfl (by decide) ?_
            exact g_iret hX dX1_allows_50 rfl rfl (Nat.le_refl _) (Nat.le_refl _) (piOk H)
          · replace H := (if_pos c42).symm.trans H
            refine g_iconst (q := 46) (v := 1) dX1_allows_45 rfl (by decide) ?_
            refine g_goto (q := 50) dX1_allows_46 (by decide) ?_
            exact g_iret hX dX1_allows_50 rfl rfl (Nat.le_refl _) (Nat.le_refl _) (piOk H)
        · replace H := (if_pos c21).symm.trans H
          refine g_iload (q := 26) dX1_allows_24 rfl rfl ?_
          refine g_if_ne (q := 29) (r := 33) dX1_allows_26 (by decide) rfl (fun c26 => ?_) (fun c26 => ?_)
          · replace H := (if_neg c26).symm.trans H
            refine g_iconst (q := 34) (v := 0) dX1_allows_33 rfl (by decide) ?_
            refine g_goto (q := 50) dX1_allows_34 (by decide) ?_
            exact g_iret hX dX1_allows_50 rfl rfl (Nat.le_refl _) (Nat.le_refl _) (piOk H)
          · replace H := (if_pos c26).symm.trans H
            refine g_iconst (q := 30) (v := 1) dX1_allows_29 rfl (by decide) ?_
            refine g_goto (q := 50) dX1_allows_30 (by decide) ?_
            exact g_iret hX dX1_allows_50 rfl rfl (Nat.le_refl _) (Nat.le_refl _) (piOk H)
      · replace H := (if_neg c14).symm.trans H
        refine g_iconst (q := 18) (v := 1) dX1_allows_17 rfl (by decide) ?_
        exact g_iret hX dX1_allows_18 rfl rfl (Nat.le_refl _) (Nat.le_refl _) (piOk H)
    · replace H := (if_pos c8).symm.trans H
      refine g_iconst (q := 12) (v := 0) dX1_allows_11 rfl (by decide) ?_
      exact g_iret hX dX1_allows_12 rfl rfl (Nat.le_refl _) (Nat.le_refl _) (piOk H)
  · replace H := (if_pos c1).symm.trans H
    refine g_iconst (q := 5) (v := 1) dX1_allows_4 rfl (by decide) ?_
    exact g_iret hX dX1_allows_5 rfl rfl (Nat.le_refl _) (Nat.le_refl _) (piOk H)
def fX0_one (F : Nat) (σ : Sg) (l0 : Int32) : Rs := some ((1 : Int32) <<< (((2 : Int32) * l0) &&& 31), σ)
set_option maxRecDepth 100000 in
set_option maxHeartbeats 4000000 in
theorem ctX0_one {l : Launch} {g : GX} {ad : Nat → Nat} {ex : va_W} {r : Int32} {τ σ : Sg} {F : Nat} {l0 : Int32} (H : fX0_one F σ l0 = some (r, τ)) : Ct l g yX0_one tX0_one 0 0 0 0 [.int l0] (HH g ad σ ++ ex) (Pi_ r (HH g ad τ ++ ex)) := by
  refine Ct.of (L := [.int l0]) (by decide +kernel) rfl rfl rfl (Nat.le_of_ble_eq_true rfl) rfl (fun x _ hX => ?_)
  unfold fX0_one at H
  refine g_iconst (q := 1) (v := 1) dX0_one_0 rfl (by decide) ?_
  refine g_iconst (q := 2) (v := 2) dX0_one_1 rfl (by decide) ?_
  refine g_iload_n (q := 3) (i := 0) dX0_one_2 rfl rfl rfl ?_
  refine g_imul (q := 4) dX0_one_3 rfl ?_
  refine g_ishl (q := 5) dX0_one_4 rfl ?_
  exact g_iret hX dX0_one_5 rfl rfl (Nat.le_refl _) (Nat.le_refl _) (piOk H)
def bX0_slotOf_10 (F : Nat) (k10 : Sg → Int32 → Int32 → Int32 → Rs) (σ : Sg) (l1 : Int32) (l2 : Int32) (l3 : Int32) : Rs := if (2048 : Int32) ≤ l3 then (some ((-1 : Int32), σ)) else (if ib l2 2048 then (li_ (σ.2.1 18 l2.toNatClampNeg) fun v1 => if v1 ≤ (0 : Int32) then (some (l2, σ)) else (if (1604 : Int32) < v1 then (some (l2, σ)) else (if ib (v1 - (1 : Int32)) 1604 then (if (σ.2.1 19 (v1 - (1 : Int32)).toNatClampNeg) = l1 then (some (l2, σ)) else (li_ ((l2 + (1 : Int32)) &&& (2047 : Int32)) fun v2 => k10 σ (l1) (v2) (l3 + 1))) else none))) else none)
set_option maxRecDepth 100000 in
set_option maxHeartbeats 4000000 in
theorem wbX0_slotOf_10 {x : FX} {g : GX} {ad : Nat → Nat} {ex M0 : va_W} {r : Int32} {τ : Sg} {F : Nat} (hX : RX x g M0 (Pi_ r (HH g ad τ ++ ex)) 0 0) {k10 : Sg → Int32 → Int32 → Int32 → Rs} (h10 : ∀ (σ : Sg) (l1 : Int32) (l2 : Int32) (l3 : Int32), k10 σ l1 l2 l3 = some (r, τ) → Go x { frames := 0, cells := 0, slots := 0, locals := 0 } tX0_slotOf g 10 [.ref (ad 17), .int l1, .int l2, .int l3, un_] [] (HH g ad σ ++ ex) 0 0) (σ : Sg) (l1 : Int32) (l2 : Int32) (l3 : Int32) (H : bX0_slotOf_10 F k10 σ l1 l2 l3 = some (r, τ)) : Go x { frames := 0, cells := 0, slots := 0, locals := 0 } tX0_slotOf g 10 [.ref (ad 17), .int l1, .int l2, .int l3, un_] [] (HH g ad σ ++ ex) 0 0 := by
  unfold bX0_slotOf_10 at H
  refine g_iload_n (q := 11) (i := 3) dX0_slotOf_10 rfl rfl rfl ?_
  refine g_sipush (q := 14) (v := 2048) dX0_slotOf_11 rfl (by decide) ?_
  refine g_icmp_ge (q := 17) (r := 67) dX0_slotOf_14 (by decide) rfl (fun c14 => ?_) (fun c14 => ?_)
  · replace H := (if_pos c14).symm.trans H
    refine g_iconst (q := 68) (v := -1) dX0_slotOf_67 rfl (by decide) ?_
    exact g_iret hX dX0_slotOf_68 rfl rfl (Nat.le_refl _) (Nat.le_refl _) (piOk H)
  · replace H := (if_neg c14).symm.trans H
    refine g_aload_n (q := 18) (i := 0) dX0_slotOf_17 rfl rfl rfl ?_
    refine g_get (q := 21) dX0_slotOf_18 rfl foX0_11 17 hc17 rfl ?_
    refine g_iload_n (q := 22) (i := 2) dX0_slotOf_21 rfl rfl rfl ?_
    obtain ⟨b22, H⟩ := of_chk H
    refine g_iald (q := 23) dX0_slotOf_22 rfl 18 hc18 b22 ?_
    obtain ⟨v1, n1, H⟩ := of_li H
    refine g_name n1 ?_
    refine g_istore (q := 25) (L' := [.ref (ad 17), .int l1, .int l2, .int l3, .int v1]) dX0_slotOf_23 rfl (Nat.le_of_ble_eq_true rfl) rfl ?_
    refine g_iload (q := 27) dX0_slotOf_25 rfl rfl ?_
    refine g_if_le (q := 30) (r := 51) dX0_slotOf_27 (by decide) rfl (fun c27 => ?_) (fun c27 => ?_)
    · replace H := (if_pos c27).symm.trans H
      refine g_iload_n (q := 52) (i := 2) dX0_slotOf_51 rfl rfl rfl ?_
      exact g_iret hX dX0_slotOf_52 rfl rfl (Nat.le_refl _) (Nat.le_refl _) (piOk H)
    · replace H := (if_neg c27).symm.trans H
      refine g_iload (q := 32) dX0_slotOf_30 rfl rfl ?_
      refine g_sipush (q := 35) (v := 1604) dX0_slotOf_32 rfl (by decide) ?_
      refine g_icmp_gt (q := 38) (r := 51) dX0_slotOf_35 (by decide) rfl (fun c35 => ?_) (fun c35 => ?_)
      · replace H := (if_pos c35).symm.trans H
        refine g_iload_n (q := 52) (i := 2) dX0_slotOf_51 rfl rfl rfl ?_
        exact g_iret hX dX0_slotOf_52 rfl rfl (Nat.le_refl _) (Nat.le_refl _) (piOk H)
      · replace H := (if_neg c35).symm.trans H
        refine g_aload_n (q := 39) (i := 0) dX0_slotOf_38 rfl rfl rfl ?_
        refine g_get (q := 42) dX0_slotOf_39 rfl foX0_15 17 hc17 rfl ?_
        refine g_iload (q := 44) dX0_slotOf_42 rfl rfl ?_
        refine g_iconst (q := 45) (v := 1) dX0_slotOf_44 rfl (by decide) ?_
        refine g_isub (q := 46) dX0_slotOf_45 rfl ?_
        obtain ⟨b46, H⟩ := of_chk H
        refine g_iald (q := 47) dX0_slotOf_46 rfl 19 hc19 b46 ?_
        refine g_iload_n (q := 48) (i := 1) dX0_slotOf_47 rfl rfl rfl ?_
        refine g_icmp_ne (q := 51) (r := 53) dX0_slotOf_48 (by decide) rfl (fun c48 => ?_) (fun c48 => ?_)
        · replace H := (if_neg c48).symm.trans H
          refine g_iload_n (q := 54) (i := 2) dX0_slotOf_53 rfl rfl rfl ?_
          refine g_iconst (q := 55) (v := 1) dX0_slotOf_54 rfl (by decide) ?_
          refine g_iadd (q := 56) dX0_slotOf_55 rfl ?_
          refine g_sipush (q := 59) (v := 2047) dX0_slotOf_56 rfl (by decide) ?_
          refine g_iand (q := 60) dX0_slotOf_59 rfl ?_
          obtain ⟨v2, n2, H⟩ := of_li H
          refine g_name n2 ?_
          refine g_istore_n (q := 61) (L' := [.ref (ad 17), .int l1, .int v2, .int l3, .int v1]) (i := 2) dX0_slotOf_60 rfl rfl (Nat.le_of_ble_eq_true rfl) rfl ?_
          refine g_iinc (q := 64) (b := l3 + 1) (L' := [.ref (ad 17), .int l1, .int v2, .int (l3 + 1), .int v1]) dX0_slotOf_61 rfl rfl rfl (Nat.le_of_ble_eq_true rfl) rfl ?_
          refine g_goto (q := 10) dX0_slotOf_64 (by decide) ?_
          exact g_weak (L' := [.ref (ad 17), .int l1, .int v2, .int (l3 + 1), un_]) ⟨Or.inr rfl, Or.inr rfl, Or.inr rfl, Or.inr rfl, Or.inl rfl, trivial⟩ (h10 _ _ _ _ H)
        · replace H := (if_pos c48).symm.trans H
          refine g_iload_n (q := 52) (i := 2) dX0_slotOf_51 rfl rfl rfl ?_
          exact g_iret hX dX0_slotOf_52 rfl rfl (Nat.le_refl _) (Nat.le_refl _) (piOk H)
def fX0_slotOf_10 (F : Nat)  : Nat → Sg → Int32 → Int32 → Int32 → Rs
  | 0 => fun _ _ _ _ => none
  | n + 1 => fun σ l1 l2 l3 => bX0_slotOf_10 F  (fX0_slotOf_10 F  n) σ l1 l2 l3
theorem wfX0_slotOf_10 {x : FX} {g : GX} {ad : Nat → Nat} {ex M0 : va_W} {r : Int32} {τ : Sg} {F : Nat} (hX : RX x g M0 (Pi_ r (HH g ad τ ++ ex)) 0 0)   : ∀ (n : Nat) (σ : Sg) (l1 : Int32) (l2 : Int32) (l3 : Int32), fX0_slotOf_10 F  n σ l1 l2 l3 = some (r, τ) → Go x { frames := 0, cells := 0, slots := 0, locals := 0 } tX0_slotOf g 10 [.ref (ad 17), .int l1, .int l2, .int l3, un_] [] (HH g ad σ ++ ex) 0 0
  | 0, _, _, _, _, H => nomatch (show (none : Rs) = some _ from H)
  | n + 1, σ, l1, l2, l3, H => wbX0_slotOf_10 (F := F) hX  (fun σ2 z1 z2 z3 H2 => wfX0_slotOf_10 (F := F) hX  n σ2 z1 z2 z3 H2) σ l1 l2 l3 H
def fX0_slotOf (F : Nat) (σ : Sg) (l1 : Int32) : Rs := li_ (((l1 * (-1640531535 : Int32)).toUInt32 >>> ((21 : Int32).toUInt32 &&& Int32.toUInt32 31)).toInt32) fun v1 => fX0_slotOf_10 F F σ (l1) (v1) ((0 : Int32))
set_option maxRecDepth 100000 in
set_option maxHeartbeats 4000000 in
theorem ctX0_slotOf {l : Launch} {g : GX} {ad : Nat → Nat} {ex : va_W} {r : Int32} {τ σ : Sg} {F : Nat} {l1 : Int32} (H : fX0_slotOf F σ l1 = some (r, τ)) : Ct l g yX0_slotOf tX0_slotOf 0 0 0 0 [.ref (ad 17), .int l1] (HH g ad σ ++ ex) (Pi_ r (HH g ad τ ++ ex)) := by
  refine Ct.of (L := [.ref (ad 17), .int l1, un_, un_, un_]) (by decide +kernel) rfl rfl rfl (Nat.le_of_ble_eq_true rfl) rfl (fun x _ hX => ?_)
  unfold fX0_slotOf at H
  refine g_iload_n (q := 1) (i := 1) dX0_slotOf_0 rfl rfl rfl ?_
  refine g_ldc (q := 3) dX0_slotOf_1 rfl kcX0_137 ?_
  refine g_imul (q := 4) dX0_slotOf_3 rfl ?_
  refine g_bipush (q := 6) (v := 21) dX0_slotOf_4 rfl (by decide) ?_
  refine g_iushr (q := 7) dX0_slotOf_6 rfl ?_
  obtain ⟨v1, n1, H⟩ := of_li H
  refine g_name n1 ?_
  refine g_istore_n (q := 8) (L' := [.ref (ad 17), .int l1, .int v1, un_, un_]) (i := 2) dX0_slotOf_7 rfl rfl (Nat.le_of_ble_eq_true rfl) rfl ?_
  refine g_iconst (q := 9) (v := 0) dX0_slotOf_8 rfl (by decide) ?_
  refine g_istore_n (q := 10) (L' := [.ref (ad 17), .int l1, .int v1, .int ((0 : Int32)), un_]) (i := 3) dX0_slotOf_9 rfl rfl (Nat.le_of_ble_eq_true rfl) rfl ?_
  exact g_weak (L' := [.ref (ad 17), .int l1, .int v1, .int ((0 : Int32)), un_]) ⟨Or.inr rfl, Or.inr rfl, Or.inr rfl, Or.inr rfl, Or.inl rfl, trivial⟩ (wfX0_slotOf_10 (F := F) hX  F _ _ _ _ H)
def fX5_packed (F : Nat) (σ : Sg) (l0 : Int32) (l1 : Int32) (l2 : Int32) : Rs := some (((l0 <<< ((10 : Int32) &&& 31)) ||| (l1 <<< ((5 : Int32) &&& 31))) ||| (l2 + (1 : Int32)), σ)
set_option maxRecDepth 100000 in
set_option maxHeartbeats 4000000 in
theorem ctX5_packed {l : Launch} {g : GX} {ad : Nat → Nat} {ex : va_W} {r : Int32} {τ σ : Sg} {F : Nat} {l0 : Int32} {l1 : Int32} {l2 : Int32} (H : fX5_packed F σ l0 l1 l2 = some (r, τ)) : Ct l g yX5_packed tX5_packed 0 0 0 0 [.int l0, .int l1, .int l2] (HH g ad σ ++ ex) (Pi_ r (HH g ad τ ++ ex)) := by
  refine Ct.of (L := [.int l0, .int l1, .int l2]) (by decide +kernel) rfl rfl rfl (Nat.le_of_ble_eq_true rfl) rfl (fun x _ hX => ?_)
  unfold fX5_packed at H
  refine g_iload_n (q := 1) (i := 0) dX5_packed_0 rfl rfl rfl ?_
  refine g_bipush (q := 3) (v := 10) dX5_packed_1 rfl (by decide) ?_
  refine g_ishl (q := 4) dX5_packed_3 rfl ?_
  refine g_iload_n (q := 5) (i := 1) dX5_packed_4 rfl rfl rfl ?_
  refine g_iconst (q := 6) (v := 5) dX5_packed_5 rfl (by decide) ?_
  refine g_ishl (q := 7) dX5_packed_6 rfl ?_
  refine g_ior (q := 8) dX5_packed_7 rfl ?_
  refine g_iload_n (q := 9) (i := 2) dX5_packed_8 rfl rfl rfl ?_
  refine g_iconst (q := 10) (v := 1) dX5_packed_9 rfl (by decide) ?_
  refine g_iadd (q := 11) dX5_packed_10 rfl ?_
  refine g_ior (q := 12) dX5_packed_11 rfl ?_
  exact g_iret hX dX5_packed_12 rfl rfl (Nat.le_refl _) (Nat.le_refl _) (piOk H)
def fX1_hangsTogether (F : Nat) (σ : Sg) (l1 : Int32) (l2 : Int32) : Rs := li_ ((1 : Int32) <<< ((σ.1 2) &&& 31)) fun v1 => if (l1 &&& v1) = (0 : Int32) then ((fX1_spread F σ v1 l1).bind fun q2 => (fun (r2 : Int32) (σ2 : Sg) => (fX1_passagesAt F σ2 l1).bind fun q3 => (fun (r3 : Int32) (σ3 : Sg) => li_ ((σ2.1 1) &&& (r3 ^^^ (-1 : Int32))) fun v4 => if (l2 &&& (r2 ^^^ (-1 : Int32))) = (0 : Int32) then ((fX1_passagesAt F σ3 r2).bind fun q5 => (fun (r5 : Int32) (σ5 : Sg) => if (v4 &&& (r5 ^^^ (-1 : Int32))) = (0 : Int32) then (some ((1 : Int32), σ5)) else (some ((0 : Int32), σ5))) q5.1 q5.2) else (some ((0 : Int32), σ3))) q3.1 q3.2) q2.1 q2.2) else ((fX1_passagesAt F σ l1).bind fun q6 => (fun (r6 : Int32) (σ6 : Sg) => li_ ((σ.1 1) &&& (r6 ^^^ (-1 : Int32))) fun v7 => if (l2 &&& (v1 ^^^ (-1 : Int32))) = (0 : Int32) then ((fX1_passagesAt F σ6 v1).bind fun q8 => (fun (r8 : Int32) (σ8 : Sg) => if (v7 &&& (r8 ^^^ (-1 : Int32))) = (0 : Int32) then (some ((1 : Int32), σ8)) else (some ((0 : Int32), σ8))) q8.1 q8.2) else (some ((0 : Int32), σ6))) q6.1 q6.2)
set_option maxRecDepth 100000 in
set_option maxHeartbeats 4000000 in
theorem ctX1_hangsTogether {l : Launch} {g : GX} {ad : Nat → Nat} {ex : va_W} {r : Int32} {τ σ : Sg} {F : Nat} {l1 : Int32} {l2 : Int32} (H : fX1_hangsTogether F σ l1 l2 = some (r, τ)) : Ct l g yX1_hangsTogether tX1_hangsTogether 1 27 0 0 [.ref (ad 1), .int l1, .int l2] (HH g ad σ ++ ex) (Pi_ r (HH g ad τ ++ ex)) := by
  refine Ct.of (L := [.ref (ad 1), .int l1, .int l2, un_, un_, un_]) (by decide +kernel) rfl rfl rfl (Nat.le_of_ble_eq_true rfl) rfl (fun x _ hX => ?_)
  unfold fX1_hangsTogether at H
  refine g_iconst (q := 1) (v := 1) dX1_hangsTogether_0 rfl (by decide) ?_
  refine g_aload_n (q := 2) (i := 0) dX1_hangsTogether_1 rfl rfl rfl ?_
  refine g_get (q := 5) dX1_hangsTogether_2 rfl foX1_31 1 hc1 rfl ?_
  refine g_ishl (q := 6) dX1_hangsTogether_5 rfl ?_
  obtain ⟨v1, n1, H⟩ := of_li H
  refine g_name n1 ?_
  refine g_istore_n (q := 7) (L' := [.ref (ad 1), .int l1, .int l2, .int v1, un_, un_]) (i := 3) dX1_hangsTogether_6 rfl rfl (Nat.le_of_ble_eq_true rfl) rfl ?_
  refine g_iload_n (q := 8) (i := 1) dX1_hangsTogether_7 rfl rfl rfl ?_
  refine g_iload_n (q := 9) (i := 3) dX1_hangsTogether_8 rfl rfl rfl ?_
  refine g_iand (q := 10) dX1_hangsTogether_9 rfl ?_
  refine g_if_eq (q := 13) (r := 17) dX1_hangsTogether_10 (by decide) rfl (fun c10 => ?_) (fun c10 => ?_)
  · replace H := (if_pos c10).symm.trans H
    refine g_aload_n (q := 18) (i := 0) dX1_hangsTogether_17 rfl rfl rfl ?_
    refine g_iload_n (q := 19) (i := 3) dX1_hangsTogether_18 rfl rfl rfl ?_
    refine g_iload_n (q := 20) (i := 1) dX1_hangsTogether_19 rfl rfl rfl ?_
    obtain ⟨r2, σ2, e2, H⟩ := of_bnd H
    refine g_callV (q := 23) (rest := []) dX1_hangsTogether_20 rfl cvX1_60 (ctX1_spread e2) rfl rfl ⟨Nat.le_of_ble_eq_true rfl, Nat.le_of_ble_eq_true rfl⟩ ⟨Nat.le_refl _, Nat.le_refl _⟩ (Nat.le_of_ble_eq_true rfl) 1 hc1 rfl (fun r0 M9 hp => ?_)
    obtain ⟨rfl, rfl⟩ := hp
    show Go x _ _ g 23 [.ref (ad 1), .int l1, .int l2, .int v1, un_, un_] [.int r2] (HH g ad σ2 ++ ex) 0 0
    refine g_istore (q := 25) (L' := [.ref (ad 1), .int l1, .int l2, .int v1, .int r2, un_]) dX1_hangsTogether_23 rfl (Nat.le_of_ble_eq_true rfl) rfl ?_
    refine g_aload_n (q := 26) (i := 0) dX1_hangsTogether_25 rfl rfl rfl ?_
    refine g_get (q := 29) dX1_hangsTogether_26 rfl foX1_28 1 hc1 rfl ?_
    refine g_aload_n (q := 30) (i := 0) dX1_hangsTogether_29 rfl rfl rfl ?_
    refine g_iload_n (q := 31) (i := 1) dX1_hangsTogether_30 rfl rfl rfl ?_
    obtain ⟨r3, σ3, e3, H⟩ := of_bnd H
    refine g_callV (q := 34) (rest := [.int (σ2.1 1)]) dX1_hangsTogether_31 rfl cvX1_56 (ctX1_passagesAt e3) rfl rfl ⟨Nat.le_of_ble_eq_true rfl, Nat.le_of_ble_eq_true rfl⟩ ⟨Nat.le_refl _, Nat.le_refl _⟩ (Nat.le_of_ble_eq_true rfl) 1 hc1 rfl (fun r0 M9 hp => ?_)
    obtain ⟨rfl, rfl⟩ := hp
    show Go x _ _ g 34 [.ref (ad 1), .int l1, .int l2, .int v1, .int r2, un_] [.int r3, .int (σ2.1 1)] (HH g ad σ3 ++ ex) 0 0
    refine g_iconst (q := 35) (v := -1) dX1_hangsTogether_34 rfl (by decide) ?_
    refine g_ixor (q := 36) dX1_hangsTogether_35 rfl ?_
    refine g_iand (q := 37) dX1_hangsTogether_36 rfl ?_
    obtain ⟨v4, n4, H⟩ := of_li H
    refine g_name n4 ?_
    refine g_istore (q := 39) (L' := [.ref (ad 1), .int l1, .int l2, .int v1, .int r2, .int v4]) dX1_hangsTogether_37 rfl (Nat.le_of_ble_eq_true rfl) rfl ?_
    refine g_iload_n (q := 40) (i := 2) dX1_hangsTogether_39 rfl rfl rfl ?_
    refine g_iload (q := 42) dX1_hangsTogether_40 rfl rfl ?_
    refine g_iconst (q := 43) (v := -1) dX1_hangsTogether_42 rfl (by decide) ?_
    refine g_ixor (q := 44) dX1_hangsTogether_43 rfl ?_
    refine g_iand (q := 45) dX1_hangsTogether_44 rfl ?_
    refine g_if_ne (q := 48) (r := 66) dX1_hangsTogether_45 (by decide) rfl (fun c45 => ?_) (fun c45 => ?_)
    · replace H := (if_neg c45).symm.trans H
      refine g_iconst (q := 67) (v := 0) dX1_hangsTogether_66 rfl (by decide) ?_
      exact g_iret hX dX1_hangsTogether_67 rfl rfl (Nat.le_refl _) (Nat.le_refl _) (piOk H)
    · replace H := (if_pos c45).symm.trans H
      refine g_iload (q := 50) dX1_hangsTogether_48 rfl rfl ?_
      refine g_aload_n (q := 51) (i := 0) dX1_hangsTogether_50 rfl rfl rfl ?_
      refine g_iload (q := 53) dX1_hangsTogether_51 rfl rfl ?_
      obtain ⟨r5, σ5, e5, H⟩ := of_bnd H
      refine g_callV (q := 56) (rest := [.int v4]) dX1_hangsTogether_53 rfl cvX1_56 (ctX1_passagesAt e5) rfl rfl ⟨Nat.le_of_ble_eq_true rfl, Nat.le_of_ble_eq_true rfl⟩ ⟨Nat.le_refl _, Nat.le_refl _⟩ (Nat.le_of_ble_eq_true rfl) 1 hc1 rfl (fun r0 M9 hp => ?_)
      obtain ⟨rfl, rfl⟩ := hp
      show Go x _ _ g 56 [.ref (ad 1), .int l1, .int l2, .int v1, .int r2, .int v4] [.int r5, .int v4] (HH g ad σ5 ++ ex) 0 0
      refine g_iconst (q := 57) (v := -1) dX1_hangsTogether_56 rfl (by decide) ?_
      refine g_ixor (q := 58) dX1_hangsTogether_57 rfl ?_
      refine g_iand (q := 59) dX1_hangsTogether_58 rfl ?_
      refine g_if_ne (q := 62) (r := 66) dX1_hangsTogether_59 (by decide) rfl (fun c59 => ?_) (fun c59 => ?_)
      · replace H := (if_neg c59).symm.trans H
        refine g_iconst (q := 67) (v := 0) dX1_hangsTogether_66 rfl (by decide) ?_
        exact g_iret hX dX1_hangsTogether_67 rfl rfl (Nat.le_refl _) (Nat.le_refl _) (piOk H)
      · replace H := (if_pos c59).symm.trans H
        refine g_iconst (q := 63) (v := 1) dX1_hangsTogether_62 rfl (by decide) ?_
        refine g_goto (q := 67) dX1_hangsTogether_63 (by decide) ?_
        exact g_iret hX dX1_hangsTogether_67 rfl rfl (Nat.le_refl _) (Nat.le_refl _) (piOk H)
  · replace H := (if_neg c10).symm.trans H
    refine g_iload_n (q := 14) (i := 3) dX1_hangsTogether_13 rfl rfl rfl ?_
    refine g_goto (q := 23) dX1_hangsTogether_14 (by decide) ?_
    refine g_istore (q := 25) (L' := [.ref (ad 1), .int l1, .int l2, .int v1, .int v1, un_]) dX1_hangsTogether_23 rfl (Nat.le_of_ble_eq_true rfl) rfl ?_
    refine g_aload_n (q := 26) (i := 0) dX1_hangsTogether_25 rfl rfl rfl ?_
    refine g_get (q := 29) dX1_hangsTogether_26 rfl foX1_28 1 hc1 rfl ?_
    refine g_aload_n (q := 30) (i := 0) dX1_hangsTogether_29 rfl rfl rfl ?_
    refine g_iload_n (q := 31) (i := 1) dX1_hangsTogether_30 rfl rfl rfl ?_
    obtain ⟨r6, σ6, e6, H⟩ := of_bnd H
    refine g_callV (q := 34) (rest := [.int (σ.1 1)]) dX1_hangsTogether_31 rfl cvX1_56 (ctX1_passagesAt e6) rfl rfl ⟨Nat.le_of_ble_eq_true rfl, Nat.le_of_ble_eq_true rfl⟩ ⟨Nat.le_refl _, Nat.le_refl _⟩ (Nat.le_of_ble_eq_true rfl) 1 hc1 rfl (fun r0 M9 hp => ?_)
    obtain ⟨rfl, rfl⟩ := hp
    show Go x _ _ g 34 [.ref (ad 1), .int l1, .int l2, .int v1, .int v1, un_] [.int r6, .int (σ.1 1)] (HH g ad σ6 ++ ex) 0 0
    refine g_iconst (q := 35) (v := -1) dX1_hangsTogether_34 rfl (by decide) ?_
    refine g_ixor (q := 36) dX1_hangsTogether_35 rfl ?_
    refine g_iand (q := 37) dX1_hangsTogether_36 rfl ?_
    obtain ⟨v7, n7, H⟩ := of_li H
    refine g_name n7 ?_
    refine g_istore (q := 39) (L' := [.ref (ad 1), .int l1, .int l2, .int v1, .int v1, .int v7]) dX1_hangsTogether_37 rfl (Nat.le_of_ble_eq_true rfl) rfl ?_
    refine g_iload_n (q := 40) (i := 2) dX1_hangsTogether_39 rfl rfl rfl ?_
    refine g_iload (q := 42) dX1_hangsTogether_40 rfl rfl ?_
    refine g_iconst (q := 43) (v := -1) dX1_hangsTogether_42 rfl (by decide) ?_
    refine g_ixor (q := 44) dX1_hangsTogether_43 rfl ?_
    refine g_iand (q := 45) dX1_hangsTogether_44 rfl ?_
    refine g_if_ne (q := 48) (r := 66) dX1_hangsTogether_45 (by decide) rfl (fun c45 => ?_) (fun c45 => ?_)
    · replace H := (if_neg c45).symm.trans H
      refine g_iconst (q := 67) (v := 0) dX1_hangsTogether_66 rfl (by decide) ?_
      exact g_iret hX dX1_hangsTogether_67 rfl rfl (Nat.le_refl _) (Nat.le_refl _) (piOk H)
    · replace H := (if_pos c45).symm.trans H
      refine g_iload (q := 50) dX1_hangsTogether_48 rfl rfl ?_
      refine g_aload_n (q := 51) (i := 0) dX1_hangsTogether_50 rfl rfl rfl ?_
      refine g_iload (q := 53) dX1_hangsTogether_51 rfl rfl ?_
      obtain ⟨r8, σ8, e8, H⟩ := of_bnd H
      refine g_callV (q := 56) (rest := [.int v7]) dX1_hangsTogether_53 rfl cvX1_56 (ctX1_passagesAt e8) rfl rfl ⟨Nat.le_of_ble_eq_true rfl, Nat.le_of_ble_eq_true rfl⟩ ⟨Nat.le_refl _, Nat.le_refl _⟩ (Nat.le_of_ble_eq_true rfl) 1 hc1 rfl (fun r0 M9 hp => ?_)
      obtain ⟨rfl, rfl⟩ := hp
      show Go x _ _ g 56 [.ref (ad 1), .int l1, .int l2, .int v1, .int v1, .int v7] [.int r8, .int v7] (HH g ad σ8 ++ ex) 0 0
      refine g_iconst (q := 57) (v := -1) dX1_hangsTogether_56 rfl (by decide) ?_
      refine g_ixor (q := 58) dX1_hangsTogether_57 rfl ?_
      refine g_iand (q := 59) dX1_hangsTogether_58 rfl ?_
      refine g_if_ne (q := 62) (r := 66) dX1_hangsTogether_59 (by decide) rfl (fun c59 => ?_) (fun c59 => ?_)
      · replace H := (if_neg c59).symm.trans H
        refine g_iconst (q := 67) (v := 0) dX1_hangsTogether_66 rfl (by decide) ?_
        exact g_iret hX dX1_hangsTogether_67 rfl rfl (Nat.le_refl _) (Nat.le_refl _) (piOk H)
      · replace H := (if_pos c59).symm.trans H
        refine g_iconst (q := 63) (v := 1) dX1_hangsTogether_62 rfl (by decide) ?_
        refine g_goto (q := 67) dX1_hangsTogether_63 (by decide) ?_
        exact g_iret hX dX1_hangsTogether_67 rfl rfl (Nat.le_refl _) (Nat.le_refl _) (piOk H)
def bX0_meet_166 (F : Nat)  (σ : Sg) (l9 : Int32) : Rs := ls_ (sv σ 8 ((σ.1 8) + (1 : Int32))) fun σ1 => if ib l9 2048 then (ls_ (sa σ1 18 l9.toNatClampNeg (σ1.1 8)) fun σ2 => some (0, σ2)) else none
set_option maxRecDepth 100000 in
set_option maxHeartbeats 4000000 in
theorem wbX0_meet_166 {x : FX} {g : GX} {ad : Nat → Nat} {ex M0 : va_W} {r : Int32} {τ : Sg} {F : Nat} (hX : RX x g M0 (Pv_ (HH g ad τ ++ ex)) 0 0)   (σ : Sg) (l9 : Int32) (H : bX0_meet_166 F  σ l9 = some (r, τ)) : Go x { frames := 2, cells := 0, slots := 0, locals := 52 } tX0_meet g 166 [.ref (ad 17), un_, un_, un_, un_, un_, un_, un_, un_, .int l9] [] (HH g ad σ ++ ex) 0 0 := by
  unfold bX0_meet_166 at H
  refine g_aload_n (q := 167) (i := 0) dX0_meet_166 rfl rfl rfl ?_
  refine g_dup (q := 168) dX0_meet_167 rfl rfl ?_
  refine g_get (q := 171) dX0_meet_168 rfl foX0_35 17 hc17 rfl ?_
  refine g_iconst (q := 172) (v := 1) dX0_meet_171 rfl (by decide) ?_
  refine g_iadd (q := 173) dX0_meet_172 rfl ?_
  obtain ⟨σ1, n1, H⟩ := of_ls H
  refine g_put (q := 176) dX0_meet_173 rfl (fpX0_35 _) 17 hc17 rfl rfl (Nat.le_of_ble_eq_true rfl) (hs8e n1) ?_
  refine g_aload_n (q := 177) (i := 0) dX0_meet_176 rfl rfl rfl ?_
  refine g_get (q := 180) dX0_meet_177 rfl foX0_11 17 hc17 rfl ?_
  refine g_iload (q := 182) dX0_meet_180 rfl rfl ?_
  refine g_aload_n (q := 183) (i := 0) dX0_meet_182 rfl rfl rfl ?_
  refine g_get (q := 186) dX0_meet_183 rfl foX0_35 17 hc17 rfl ?_
  obtain ⟨b186, H⟩ := of_chk H
  obtain ⟨σ2, n2, H⟩ := of_ls H
  refine g_iast (q := 187) dX0_meet_186 rfl 18 hc18 b186 (ha18e n2) ?_
  exact g_vret hX dX0_meet_187 rfl (Nat.le_refl _) (Nat.le_refl _) (pvOk H)
def bX0_meet_46 (F : Nat)  (σ : Sg) (l1 : Int32) (l2 : Int32) (l4 : Int32) (l5 : Int32) (l6 : Int32) : Rs := if (0 : Int32) = (0 : Int32) then (li_ ((l1 ||| (l2 <<< ((12 : Int32) &&& 31))) ||| (0 : Int32)) fun v1 => (fX0_slotOf F σ v1).bind fun q2 => (fun (r2 : Int32) (σ2 : Sg) => if r2 = (-1 : Int32) then (some (0, σ2)) else (if ib r2 2048 then (if (σ2.2.1 18 r2.toNatClampNeg) = (0 : Int32) then (if (σ2.1 8) < (1604 : Int32) then (if ib (σ2.1 8) 1604 then (ls_ (sa σ2 19 (σ2.1 8).toNatClampNeg v1) fun σ3 => if ib (σ3.1 8) 1604 then (ls_ (sa σ3 20 (σ3.1 8).toNatClampNeg (σ3.1 12)) fun σ4 => (fX5_packed F σ4 l4 l5 l6).bind fun q5 => (fun (r5 : Int32) (σ5 : Sg) => if ib (σ4.1 8) 1604 then (ls_ (sa σ5 21 (σ4.1 8).toNatClampNeg r5) fun σ6 => if l2 = (0 : Int32) then (if (σ6.1 9) = (-1 : Int32) then (ls_ (sv σ6 9 (σ6.1 8)) fun σ7 => bX0_meet_166 F σ7 (r2)) else (bX0_meet_166 F σ6 (r2))) else (bX0_meet_166 F σ6 (r2))) else none) q5.1 q5.2) else none) else none) else (some (0, σ2))) else (some (0, σ2))) else none)) q2.1 q2.2) else (li_ ((l1 ||| (l2 <<< ((12 : Int32) &&& 31))) ||| (262144 : Int32)) fun v8 => (fX0_slotOf F σ v8).bind fun q9 => (fun (r9 : Int32) (σ9 : Sg) => if r9 = (-1 : Int32) then (some (0, σ9)) else (if ib r9 2048 then (if (σ9.2.1 18 r9.toNatClampNeg) = (0 : Int32) then (if (σ9.1 8) < (1604 : Int32) then (if ib (σ9.1 8) 1604 then (ls_ (sa σ9 19 (σ9.1 8).toNatClampNeg v8) fun σ10 => if ib (σ10.1 8) 1604 then (ls_ (sa σ10 20 (σ10.1 8).toNatClampNeg (σ10.1 12)) fun σ11 => (fX5_packed F σ11 l4 l5 l6).bind fun q12 => (fun (r12 : Int32) (σ12 : Sg) => if ib (σ11.1 8) 1604 then (ls_ (sa σ12 21 (σ11.1 8).toNatClampNeg r12) fun σ13 => if l2 = (0 : Int32) then (if (σ13.1 9) = (-1 : Int32) then (ls_ (sv σ13 9 (σ13.1 8)) fun σ14 => bX0_meet_166 F σ14 (r9)) else (bX0_meet_166 F σ13 (r9))) else (bX0_meet_166 F σ13 (r9))) else none) q12.1 q12.2) else none) else none) else (some (0, σ9))) else (some (0, σ9))) else none)) q9.1 q9.2)
set_option maxRecDepth 100000 in
set_option maxHeartbeats 4000000 in
theorem wbX0_meet_46 {x : FX} {g : GX} {ad : Nat → Nat} {ex M0 : va_W} {r : Int32} {τ : Sg} {F : Nat} (hX : RX x g M0 (Pv_ (HH g ad τ ++ ex)) 0 0)   (σ : Sg) (l1 : Int32) (l2 : Int32) (l4 : Int32) (l5 : Int32) (l6 : Int32) (H : bX0_meet_46 F  σ l1 l2 l4 l5 l6 = some (r, τ)) : Go x { frames := 2, cells := 0, slots := 0, locals := 52 } tX0_meet g 46 [.ref (ad 17), .int l1, .int l2, un_, .int l4, .int l5, .int l6, un_, un_, un_] [] (HH g ad σ ++ ex) 0 0 := by
  unfold bX0_meet_46 at H
  refine g_iconst (q := 47) (v := 0) dX0_meet_46 rfl (by decide) ?_
  refine g_istore (q := 49) (L' := [.ref (ad 17), .int l1, .int l2, un_, .int l4, .int l5, .int l6, .int ((0 : Int32)), un_, un_]) dX0_meet_47 rfl (Nat.le_of_ble_eq_true rfl) rfl ?_
  refine g_iload_n (q := 50) (i := 1) dX0_meet_49 rfl rfl rfl ?_
  refine g_iload_n (q := 51) (i := 2) dX0_meet_50 rfl rfl rfl ?_
  refine g_bipush (q := 53) (v := 12) dX0_meet_51 rfl (by decide) ?_
  refine g_ishl (q := 54) dX0_meet_53 rfl ?_
  refine g_ior (q := 55) dX0_meet_54 rfl ?_
  refine g_iload (q := 57) dX0_meet_55 rfl rfl ?_
  refine g_if_eq (q := 60) (r := 65) dX0_meet_57 (by decide) rfl (fun c57 => ?_) (fun c57 => ?_)
  · replace H := (if_pos c57).symm.trans H
    refine g_iconst (q := 66) (v := 0) dX0_meet_65 rfl (by decide) ?_
    refine g_ior (q := 67) dX0_meet_66 rfl ?_
    obtain ⟨v1, n1, H⟩ := of_li H
    refine g_name n1 ?_
    refine g_istore (q := 69) (L' := [.ref (ad 17), .int l1, .int l2, un_, .int l4, .int l5, .int l6, .int ((0 : Int32)), .int v1, un_]) dX0_meet_67 rfl (Nat.le_of_ble_eq_true rfl) rfl ?_
    refine g_aload_n (q := 70) (i := 0) dX0_meet_69 rfl rfl rfl ?_
    refine g_iload (q := 72) dX0_meet_70 rfl rfl ?_
    obtain ⟨r2, σ2, e2, H⟩ := of_bnd H
    refine g_callV (q := 75) (rest := []) dX0_meet_72 rfl cvX0_130 (ctX0_slotOf e2) rfl rfl ⟨Nat.le_of_ble_eq_true rfl, Nat.le_of_ble_eq_true rfl⟩ ⟨Nat.le_refl _, Nat.le_refl _⟩ (Nat.le_of_ble_eq_true rfl) 17 hc17 rfl (fun r0 M9 hp => ?_)
    obtain ⟨rfl, rfl⟩ := hp
    show Go x _ _ g 75 [.ref (ad 17), .int l1, .int l2, un_, .int l4, .int l5, .int l6, .int ((0 : Int32)), .int v1, un_] [.int r2] (HH g ad σ2 ++ ex) 0 0
    refine g_istore (q := 77) (L' := [.ref (ad 17), .int l1, .int l2, un_, .int l4, .int l5, .int l6, .int ((0 : Int32)), .int v1, .int r2]) dX0_meet_75 rfl (Nat.le_of_ble_eq_true rfl) rfl ?_
    refine g_iload (q := 79) dX0_meet_77 rfl rfl ?_
    refine g_iconst (q := 80) (v := -1) dX0_meet_79 rfl (by decide) ?_
    refine g_icmp_eq (q := 83) (r := 103) dX0_meet_80 (by decide) rfl (fun c80 => ?_) (fun c80 => ?_)
    · replace H := (if_pos c80).symm.trans H
      exact g_vret hX dX0_meet_103 rfl (Nat.le_refl _) (Nat.le_refl _) (pvOk H)
    · replace H := (if_neg c80).symm.trans H
      refine g_aload_n (q := 84) (i := 0) dX0_meet_83 rfl rfl rfl ?_
      refine g_get (q := 87) dX0_meet_84 rfl foX0_11 17 hc17 rfl ?_
      refine g_iload (q := 89) dX0_meet_87 rfl rfl ?_
      obtain ⟨b89, H⟩ := of_chk H
      refine g_iald (q := 90) dX0_meet_89 rfl 18 hc18 b89 ?_
      refine g_if_ne (q := 93) (r := 103) dX0_meet_90 (by decide) rfl (fun c90 => ?_) (fun c90 => ?_)
      · replace H := (if_neg c90).symm.trans H
        exact g_vret hX dX0_meet_103 rfl (Nat.le_refl _) (Nat.le_refl _) (pvOk H)
      · replace H := (if_pos c90).symm.trans H
        refine g_aload_n (q := 94) (i := 0) dX0_meet_93 rfl rfl rfl ?_
        refine g_get (q := 97) dX0_meet_94 rfl foX0_35 17 hc17 rfl ?_
        refine g_sipush (q := 100) (v := 1604) dX0_meet_97 rfl (by decide) ?_
        refine g_icmp_lt (q := 103) (r := 104) dX0_meet_100 (by decide) rfl (fun c100 => ?_) (fun c100 => ?_)
        · replace H := (if_pos c100).symm.trans H
          refine g_aload_n (q := 105) (i := 0) dX0_meet_104 rfl rfl rfl ?_
          refine g_get (q := 108) dX0_meet_105 rfl foX0_15 17 hc17 rfl ?_
          refine g_aload_n (q := 109) (i := 0) dX0_meet_108 rfl rfl rfl ?_
          refine g_get (q := 112) dX0_meet_109 rfl foX0_35 17 hc17 rfl ?_
          refine g_iload (q := 114) dX0_meet_112 rfl rfl ?_
          obtain ⟨b114, H⟩ := of_chk H
          obtain ⟨σ3, n3, H⟩ := of_ls H
          refine g_iast (q := 115) dX0_meet_114 rfl 19 hc19 b114 (ha19e n3) ?_
          refine g_aload_n (q := 116) (i := 0) dX0_meet_115 rfl rfl rfl ?_
          refine g_get (q := 119) dX0_meet_116 rfl foX0_18 17 hc17 rfl ?_
          refine g_aload_n (q := 120) (i := 0) dX0_meet_119 rfl rfl rfl ?_
          refine g_get (q := 123) dX0_meet_120 rfl foX0_35 17 hc17 rfl ?_
          refine g_aload_n (q := 124) (i := 0) dX0_meet_123 rfl rfl rfl ?_
          refine g_get (q := 127) dX0_meet_124 rfl foX0_47 17 hc17 rfl ?_
          obtain ⟨b127, H⟩ := of_chk H
          obtain ⟨σ4, n4, H⟩ := of_ls H
          refine g_iast (q := 128) dX0_meet_127 rfl 20 hc20 b127 (ha20e n4) ?_
          refine g_aload_n (q := 129) (i := 0) dX0_meet_128 rfl rfl rfl ?_
          refine g_get (q := 132) dX0_meet_129 rfl foX0_21 17 hc17 rfl ?_
          refine g_aload_n (q := 133) (i := 0) dX0_meet_132 rfl rfl rfl ?_
          refine g_get (q := 136) dX0_meet_133 rfl foX0_35 17 hc17 rfl ?_
          refine g_iload (q := 138) dX0_meet_136 rfl rfl ?_
          refine g_iload (q := 140) dX0_meet_138 rfl rfl ?_
          refine g_iload (q := 142) dX0_meet_140 rfl rfl ?_
          obtain ⟨r5, σ5, e5, H⟩ := of_bnd H
          refine g_callS (q := 145) (rest := [.int (σ4.1 8), .ref (ad 21)]) dX0_meet_142 rfl csX0_133 (ctX5_packed e5) rfl rfl ⟨Nat.le_of_ble_eq_true rfl, Nat.le_of_ble_eq_true rfl⟩ ⟨Nat.le_refl _, Nat.le_refl _⟩ (Nat.le_of_ble_eq_true rfl) (fun r0 M9 hp => ?_)
          obtain ⟨rfl, rfl⟩ := hp
          show Go x _ _ g 145 [.ref (ad 17), .int l1, .int l2, un_, .int l4, .int l5, .int l6, .int ((0 : Int32)), .int v1, .int r2] [.int r5, .int (σ4.1 8), .ref (ad 21)] (HH g ad σ5 ++ ex) 0 0
          obtain ⟨b145, H⟩ := of_chk H
          obtain ⟨σ6, n6, H⟩ := of_ls H
          refine g_iast (q := 146) dX0_meet_145 rfl 21 hc21 b145 (ha21e n6) ?_
          refine g_iload_n (q := 147) (i := 2) dX0_meet_146 rfl rfl rfl ?_
          refine g_if_ne (q := 150) (r := 166) dX0_meet_147 (by decide) rfl (fun c147 => ?_) (fun c147 => ?_)
          · replace H := (if_neg c147).symm.trans H
            exact g_weak (L' := [.ref (ad 17), un_, un_, un_, un_, un_, un_, un_, un_, .int r2]) ⟨Or.inr rfl, Or.inl rfl, Or.inl rfl, Or.inl rfl, Or.inl rfl, Or.inl rfl, Or.inl rfl, Or.inl rfl, Or.inl rfl, Or.inr rfl, trivial⟩ (wbX0_meet_166 (F := F) hX  _ _ H)
          · replace H := (if_pos c147).symm.trans H
            refine g_aload_n (q := 151) (i := 0) dX0_meet_150 rfl rfl rfl ?_
            refine g_get (q := 154) dX0_meet_151 rfl foX0_38 17 hc17 rfl ?_
            refine g_iconst (q := 155) (v := -1) dX0_meet_154 rfl (by decide) ?_
            refine g_icmp_ne (q := 158) (r := 166) dX0_meet_155 (by decide) rfl (fun c155 => ?_) (fun c155 => ?_)
            · replace H := (if_neg c155).symm.trans H
              exact g_weak (L' := [.ref (ad 17), un_, un_, un_, un_, un_, un_, un_, un_, .int r2]) ⟨Or.inr rfl, Or.inl rfl, Or.inl rfl, Or.inl rfl, Or.inl rfl, Or.inl rfl, Or.inl rfl, Or.inl rfl, Or.inl rfl, Or.inr rfl, trivial⟩ (wbX0_meet_166 (F := F) hX  _ _ H)
            · replace H := (if_pos c155).symm.trans H
              refine g_aload_n (q := 159) (i := 0) dX0_meet_158 rfl rfl rfl ?_
              refine g_aload_n (q := 160) (i := 0) dX0_meet_159 rfl rfl rfl ?_
              refine g_get (q := 163) dX0_meet_160 rfl foX0_35 17 hc17 rfl ?_
              obtain ⟨σ7, n7, H⟩ := of_ls H
              refine g_put (q := 166) dX0_meet_163 rfl (fpX0_38 _) 17 hc17 rfl rfl (Nat.le_of_ble_eq_true rfl) (hs9e n7) ?_
              exact g_weak (L' := [.ref (ad 17), un_, un_, un_, un_, un_, un_, un_, un_, .int r2]) ⟨Or.inr rfl, Or.inl rfl, Or.inl rfl, Or.inl rfl, Or.inl rfl, Or.inl rfl, Or.inl rfl, Or.inl rfl, Or.inl rfl, Or.inr rfl, trivial⟩ (wbX0_meet_166 (F := F) hX  _ _ H)
        · replace H := (if_neg c100).symm.trans H
          exact g_vret hX dX0_meet_103 rfl (Nat.le_refl _) (Nat.le_refl _) (pvOk H)
  · replace H := (if_neg c57).symm.trans H
    refine g_ldc (q := 62) dX0_meet_60 rfl kcX0_129 ?_
    refine g_goto (q := 66) dX0_meet_62 (by decide) ?_
    refine g_ior (q := 67) dX0_meet_66 rfl ?_
    obtain ⟨v8, n8, H⟩ := of_li H
    refine g_name n8 ?_
    refine g_istore (q := 69) (L' := [.ref (ad 17), .int l1, .int l2, un_, .int l4, .int l5, .int l6, .int ((0 : Int32)), .int v8, un_]) dX0_meet_67 rfl (Nat.le_of_ble_eq_true rfl) rfl ?_
    refine g_aload_n (q := 70) (i := 0) dX0_meet_69 rfl rfl rfl ?_
    refine g_iload (q := 72) dX0_meet_70 rfl rfl ?_
    obtain ⟨r9, σ9, e9, H⟩ := of_bnd H
    refine g_callV (q := 75) (rest := []) dX0_meet_72 rfl cvX0_130 (ctX0_slotOf e9) rfl rfl ⟨Nat.le_of_ble_eq_true rfl, Nat.le_of_ble_eq_true rfl⟩ ⟨Nat.le_refl _, Nat.le_refl _⟩ (Nat.le_of_ble_eq_true rfl) 17 hc17 rfl (fun r0 M9 hp => ?_)
    obtain ⟨rfl, rfl⟩ := hp
    show Go x _ _ g 75 [.ref (ad 17), .int l1, .int l2, un_, .int l4, .int l5, .int l6, .int ((0 : Int32)), .int v8, un_] [.int r9] (HH g ad σ9 ++ ex) 0 0
    refine g_istore (q := 77) (L' := [.ref (ad 17), .int l1, .int l2, un_, .int l4, .int l5, .int l6, .int ((0 : Int32)), .int v8, .int r9]) dX0_meet_75 rfl (Nat.le_of_ble_eq_true rfl) rfl ?_
    refine g_iload (q := 79) dX0_meet_77 rfl rfl ?_
    refine g_iconst (q := 80) (v := -1) dX0_meet_79 rfl (by decide) ?_
    refine g_icmp_eq (q := 83) (r := 103) dX0_meet_80 (by decide) rfl (fun c80 => ?_) (fun c80 => ?_)
    · replace H := (if_pos c80).symm.trans H
      exact g_vret hX dX0_meet_103 rfl (Nat.le_refl _) (Nat.le_refl _) (pvOk H)
    · replace H := (if_neg c80).symm.trans H
      refine g_aload_n (q := 84) (i := 0) dX0_meet_83 rfl rfl rfl ?_
      refine g_get (q := 87) dX0_meet_84 rfl foX0_11 17 hc17 rfl ?_
      refine g_iload (q := 89) dX0_meet_87 rfl rfl ?_
      obtain ⟨b89, H⟩ := of_chk H
      refine g_iald (q := 90) dX0_meet_89 rfl 18 hc18 b89 ?_
      refine g_if_ne (q := 93) (r := 103) dX0_meet_90 (by decide) rfl (fun c90 => ?_) (fun c90 => ?_)
      · replace H := (if_neg c90).symm.trans H
        exact g_vret hX dX0_meet_103 rfl (Nat.le_refl _) (Nat.le_refl _) (pvOk H)
      · replace H := (if_pos c90).symm.trans H
        refine g_aload_n (q := 94) (i := 0) dX0_meet_93 rfl rfl rfl ?_
        refine g_get (q := 97) dX0_meet_94 rfl foX0_35 17 hc17 rfl ?_
        refine g_sipush (q := 100) (v := 1604) dX0_meet_97 rfl (by decide) ?_
        refine g_icmp_lt (q := 103) (r := 104) dX0_meet_100 (by decide) rfl (fun c100 => ?_) (fun c100 => ?_)
        · replace H := (if_pos c100).symm.trans H
          refine g_aload_n (q := 105) (i := 0) dX0_meet_104 rfl rfl rfl ?_
          refine g_get (q := 108) dX0_meet_105 rfl foX0_15 17 hc17 rfl ?_
          refine g_aload_n (q := 109) (i := 0) dX0_meet_108 rfl rfl rfl ?_
          refine g_get (q := 112) dX0_meet_109 rfl foX0_35 17 hc17 rfl ?_
          refine g_iload (q := 114) dX0_meet_112 rfl rfl ?_
          obtain ⟨b114, H⟩ := of_chk H
          obtain ⟨σ10, n10, H⟩ := of_ls H
          refine g_iast (q := 115) dX0_meet_114 rfl 19 hc19 b114 (ha19e n10) ?_
          refine g_aload_n (q := 116) (i := 0) dX0_meet_115 rfl rfl rfl ?_
          refine g_get (q := 119) dX0_meet_116 rfl foX0_18 17 hc17 rfl ?_
          refine g_aload_n (q := 120) (i := 0) dX0_meet_119 rfl rfl rfl ?_
          refine g_get (q := 123) dX0_meet_120 rfl foX0_35 17 hc17 rfl ?_
          refine g_aload_n (q := 124) (i := 0) dX0_meet_123 rfl rfl rfl ?_
          refine g_get (q := 127) dX0_meet_124 rfl foX0_47 17 hc17 rfl ?_
          obtain ⟨b127, H⟩ := of_chk H
          obtain ⟨σ11, n11, H⟩ := of_ls H
          refine g_iast (q := 128) dX0_meet_127 rfl 20 hc20 b127 (ha20e n11) ?_
          refine g_aload_n (q := 129) (i := 0) dX0_meet_128 rfl rfl rfl ?_
          refine g_get (q := 132) dX0_meet_129 rfl foX0_21 17 hc17 rfl ?_
          refine g_aload_n (q := 133) (i := 0) dX0_meet_132 rfl rfl rfl ?_
          refine g_get (q := 136) dX0_meet_133 rfl foX0_35 17 hc17 rfl ?_
          refine g_iload (q := 138) dX0_meet_136 rfl rfl ?_
          refine g_iload (q := 140) dX0_meet_138 rfl rfl ?_
          refine g_iload (q := 142) dX0_meet_140 rfl rfl ?_
          obtain ⟨r12, σ12, e12, H⟩ := of_bnd H
          refine g_callS (q := 145) (rest := [.int (σ11.1 8), .ref (ad 21)]) dX0_meet_142 rfl csX0_133 (ctX5_packed e12) rfl rfl ⟨Nat.le_of_ble_eq_true rfl, Nat.le_of_ble_eq_true rfl⟩ ⟨Nat.le_refl _, Nat.le_refl _⟩ (Nat.le_of_ble_eq_true rfl) (fun r0 M9 hp => ?_)
          obtain ⟨rfl, rfl⟩ := hp
          show Go x _ _ g 145 [.ref (ad 17), .int l1, .int l2, un_, .int l4, .int l5, .int l6, .int ((0 : Int32)), .int v8, .int r9] [.int r12, .int (σ11.1 8), .ref (ad 21)] (HH g ad σ12 ++ ex) 0 0
          obtain ⟨b145, H⟩ := of_chk H
          obtain ⟨σ13, n13, H⟩ := of_ls H
          refine g_iast (q := 146) dX0_meet_145 rfl 21 hc21 b145 (ha21e n13) ?_
          refine g_iload_n (q := 147) (i := 2) dX0_meet_146 rfl rfl rfl ?_
          refine g_if_ne (q := 150) (r := 166) dX0_meet_147 (by decide) rfl (fun c147 => ?_) (fun c147 => ?_)
          · replace H := (if_neg c147).symm.trans H
            exact g_weak (L' := [.ref (ad 17), un_, un_, un_, un_, un_, un_, un_, un_, .int r9]) ⟨Or.inr rfl, Or.inl rfl, Or.inl rfl, Or.inl rfl, Or.inl rfl, Or.inl rfl, Or.inl rfl, Or.inl rfl, Or.inl rfl, Or.inr rfl, trivial⟩ (wbX0_meet_166 (F := F) hX  _ _ H)
          · replace H := (if_pos c147).symm.trans H
            refine g_aload_n (q := 151) (i := 0) dX0_meet_150 rfl rfl rfl ?_
            refine g_get (q := 154) dX0_meet_151 rfl foX0_38 17 hc17 rfl ?_
            refine g_iconst (q := 155) (v := -1) dX0_meet_154 rfl (by decide) ?_
            refine g_icmp_ne (q := 158) (r := 166) dX0_meet_155 (by decide) rfl (fun c155 => ?_) (fun c155 => ?_)
            · replace H := (if_neg c155).symm.trans H
              exact g_weak (L' := [.ref (ad 17), un_, un_, un_, un_, un_, un_, un_, un_, .int r9]) ⟨Or.inr rfl, Or.inl rfl, Or.inl rfl, Or.inl rfl, Or.inl rfl, Or.inl rfl, Or.inl rfl, Or.inl rfl, Or.inl rfl, Or.inr rfl, trivial⟩ (wbX0_meet_166 (F := F) hX  _ _ H)
            · replace H := (if_pos c155).symm.trans H
              refine g_aload_n (q := 159) (i := 0) dX0_meet_158 rfl rfl rfl ?_
              refine g_aload_n (q := 160) (i := 0) dX0_meet_159 rfl rfl rfl ?_
              refine g_get (q := 163) dX0_meet_160 rfl foX0_35 17 hc17 rfl ?_
              obtain ⟨σ14, n14, H⟩ := of_ls H
              refine g_put (q := 166) dX0_meet_163 rfl (fpX0_38 _) 17 hc17 rfl rfl (Nat.le_of_ble_eq_true rfl) (hs9e n14) ?_
              exact g_weak (L' := [.ref (ad 17), un_, un_, un_, un_, un_, un_, un_, un_, .int r9]) ⟨Or.inr rfl, Or.inl rfl, Or.inl rfl, Or.inl rfl, Or.inl rfl, Or.inl rfl, Or.inl rfl, Or.inl rfl, Or.inl rfl, Or.inr rfl, trivial⟩ (wbX0_meet_166 (F := F) hX  _ _ H)
        · replace H := (if_neg c100).symm.trans H
          exact g_vret hX dX0_meet_103 rfl (Nat.le_refl _) (Nat.le_refl _) (pvOk H)
def bX0_meet_42 (F : Nat)  (σ : Sg) (l1 : Int32) (l2 : Int32) (l4 : Int32) (l5 : Int32) (l6 : Int32) : Rs := if (1 : Int32) = (0 : Int32) then (li_ ((l1 ||| (l2 <<< ((12 : Int32) &&& 31))) ||| (0 : Int32)) fun v1 => (fX0_slotOf F σ v1).bind fun q2 => (fun (r2 : Int32) (σ2 : Sg) => if r2 = (-1 : Int32) then (some (0, σ2)) else (if ib r2 2048 then (if (σ2.2.1 18 r2.toNatClampNeg) = (0 : Int32) then (if (σ2.1 8) < (1604 : Int32) then (if ib (σ2.1 8) 1604 then (ls_ (sa σ2 19 (σ2.1 8).toNatClampNeg v1) fun σ3 => if ib (σ3.1 8) 1604 then (ls_ (sa σ3 20 (σ3.1 8).toNatClampNeg (σ3.1 12)) fun σ4 => (fX5_packed F σ4 l4 l5 l6).bind fun q5 => (fun (r5 : Int32) (σ5 : Sg) => if ib (σ4.1 8) 1604 then (ls_ (sa σ5 21 (σ4.1 8).toNatClampNeg r5) fun σ6 => if l2 = (0 : Int32) then (if (σ6.1 9) = (-1 : Int32) then (ls_ (sv σ6 9 (σ6.1 8)) fun σ7 => bX0_meet_166 F σ7 (r2)) else (bX0_meet_166 F σ6 (r2))) else (bX0_meet_166 F σ6 (r2))) else none) q5.1 q5.2) else none) else none) else (some (0, σ2))) else (some (0, σ2))) else none)) q2.1 q2.2) else (li_ ((l1 ||| (l2 <<< ((12 : Int32) &&& 31))) ||| (262144 : Int32)) fun v8 => (fX0_slotOf F σ v8).bind fun q9 => (fun (r9 : Int32) (σ9 : Sg) => if r9 = (-1 : Int32) then (some (0, σ9)) else (if ib r9 2048 then (if (σ9.2.1 18 r9.toNatClampNeg) = (0 : Int32) then (if (σ9.1 8) < (1604 : Int32) then (if ib (σ9.1 8) 1604 then (ls_ (sa σ9 19 (σ9.1 8).toNatClampNeg v8) fun σ10 => if ib (σ10.1 8) 1604 then (ls_ (sa σ10 20 (σ10.1 8).toNatClampNeg (σ10.1 12)) fun σ11 => (fX5_packed F σ11 l4 l5 l6).bind fun q12 => (fun (r12 : Int32) (σ12 : Sg) => if ib (σ11.1 8) 1604 then (ls_ (sa σ12 21 (σ11.1 8).toNatClampNeg r12) fun σ13 => if l2 = (0 : Int32) then (if (σ13.1 9) = (-1 : Int32) then (ls_ (sv σ13 9 (σ13.1 8)) fun σ14 => bX0_meet_166 F σ14 (r9)) else (bX0_meet_166 F σ13 (r9))) else (bX0_meet_166 F σ13 (r9))) else none) q12.1 q12.2) else none) else none) else (some (0, σ9))) else (some (0, σ9))) else none)) q9.1 q9.2)
set_option maxRecDepth 100000 in
set_option maxHeartbeats 4000000 in
theorem wbX0_meet_42 {x : FX} {g : GX} {ad : Nat → Nat} {ex M0 : va_W} {r : Int32} {τ : Sg} {F : Nat} (hX : RX x g M0 (Pv_ (HH g ad τ ++ ex)) 0 0)   (σ : Sg) (l1 : Int32) (l2 : Int32) (l4 : Int32) (l5 : Int32) (l6 : Int32) (H : bX0_meet_42 F  σ l1 l2 l4 l5 l6 = some (r, τ)) : Go x { frames := 2, cells := 0, slots := 0, locals := 52 } tX0_meet g 42 [.ref (ad 17), .int l1, .int l2, un_, .int l4, .int l5, .int l6, un_, un_, un_] [] (HH g ad σ ++ ex) 0 0 := by
  unfold bX0_meet_42 at H
  refine g_iconst (q := 43) (v := 1) dX0_meet_42 rfl (by decide) ?_
  refine g_goto (q := 47) dX0_meet_43 (by decide) ?_
  refine g_istore (q := 49) (L' := [.ref (ad 17), .int l1, .int l2, un_, .int l4, .int l5, .int l6, .int ((1 : Int32)), un_, un_]) dX0_meet_47 rfl (Nat.le_of_ble_eq_true rfl) rfl ?_
  refine g_iload_n (q := 50) (i := 1) dX0_meet_49 rfl rfl rfl ?_
  refine g_iload_n (q := 51) (i := 2) dX0_meet_50 rfl rfl rfl ?_
  refine g_bipush (q := 53) (v := 12) dX0_meet_51 rfl (by decide) ?_
  refine g_ishl (q := 54) dX0_meet_53 rfl ?_
  refine g_ior (q := 55) dX0_meet_54 rfl ?_
  refine g_iload (q := 57) dX0_meet_55 rfl rfl ?_
  refine g_if_eq (q := 60) (r := 65) dX0_meet_57 (by decide) rfl (fun c57 => ?_) (fun c57 => ?_)
  · replace H := (if_pos c57).symm.trans H
    refine g_iconst (q := 66) (v := 0) dX0_meet_65 rfl (by decide) ?_
    refine g_ior (q := 67) dX0_meet_66 rfl ?_
    obtain ⟨v1, n1, H⟩ := of_li H
    refine g_name n1 ?_
    refine g_istore (q := 69) (L' := [.ref (ad 17), .int l1, .int l2, un_, .int l4, .int l5, .int l6, .int ((1 : Int32)), .int v1, un_]) dX0_meet_67 rfl (Nat.le_of_ble_eq_true rfl) rfl ?_
    refine g_aload_n (q := 70) (i := 0) dX0_meet_69 rfl rfl rfl ?_
    refine g_iload (q := 72) dX0_meet_70 rfl rfl ?_
    obtain ⟨r2, σ2, e2, H⟩ := of_bnd H
    refine g_callV (q := 75) (rest := []) dX0_meet_72 rfl cvX0_130 (ctX0_slotOf e2) rfl rfl ⟨Nat.le_of_ble_eq_true rfl, Nat.le_of_ble_eq_true rfl⟩ ⟨Nat.le_refl _, Nat.le_refl _⟩ (Nat.le_of_ble_eq_true rfl) 17 hc17 rfl (fun r0 M9 hp => ?_)
    obtain ⟨rfl, rfl⟩ := hp
    show Go x _ _ g 75 [.ref (ad 17), .int l1, .int l2, un_, .int l4, .int l5, .int l6, .int ((1 : Int32)), .int v1, un_] [.int r2] (HH g ad σ2 ++ ex) 0 0
    refine g_istore (q := 77) (L' := [.ref (ad 17), .int l1, .int l2, un_, .int l4, .int l5, .int l6, .int ((1 : Int32)), .int v1, .int r2]) dX0_meet_75 rfl (Nat.le_of_ble_eq_true rfl) rfl ?_
    refine g_iload (q := 79) dX0_meet_77 rfl rfl ?_
    refine g_iconst (q := 80) (v := -1) dX0_meet_79 rfl (by decide) ?_
    refine g_icmp_eq (q := 83) (r := 103) dX0_meet_80 (by decide) rfl (fun c80 => ?_) (fun c80 => ?_)
    · replace H := (if_pos c80).symm.trans H
      exact g_vret hX dX0_meet_103 rfl (Nat.le_refl _) (Nat.le_refl _) (pvOk H)
    · replace H := (if_neg c80).symm.trans H
      refine g_aload_n (q := 84) (i := 0) dX0_meet_83 rfl rfl rfl ?_
      refine g_get (q := 87) dX0_meet_84 rfl foX0_11 17 hc17 rfl ?_
      refine g_iload (q := 89) dX0_meet_87 rfl rfl ?_
      obtain ⟨b89, H⟩ := of_chk H
      refine g_iald (q := 90) dX0_meet_89 rfl 18 hc18 b89 ?_
      refine g_if_ne (q := 93) (r := 103) dX0_meet_90 (by decide) rfl (fun c90 => ?_) (fun c90 => ?_)
      · replace H := (if_neg c90).symm.trans H
        exact g_vret hX dX0_meet_103 rfl (Nat.le_refl _) (Nat.le_refl _) (pvOk H)
      · replace H := (if_pos c90).symm.trans H
        refine g_aload_n (q := 94) (i := 0) dX0_meet_93 rfl rfl rfl ?_
        refine g_get (q := 97) dX0_meet_94 rfl foX0_35 17 hc17 rfl ?_
        refine g_sipush (q := 100) (v := 1604) dX0_meet_97 rfl (by decide) ?_
        refine g_icmp_lt (q := 103) (r := 104) dX0_meet_100 (by decide) rfl (fun c100 => ?_) (fun c100 => ?_)
        · replace H := (if_pos c100).symm.trans H
          refine g_aload_n (q := 105) (i := 0) dX0_meet_104 rfl rfl rfl ?_
          refine g_get (q := 108) dX0_meet_105 rfl foX0_15 17 hc17 rfl ?_
          refine g_aload_n (q := 109) (i := 0) dX0_meet_108 rfl rfl rfl ?_
          refine g_get (q := 112) dX0_meet_109 rfl foX0_35 17 hc17 rfl ?_
          refine g_iload (q := 114) dX0_meet_112 rfl rfl ?_
          obtain ⟨b114, H⟩ := of_chk H
          obtain ⟨σ3, n3, H⟩ := of_ls H
          refine g_iast (q := 115) dX0_meet_114 rfl 19 hc19 b114 (ha19e n3) ?_
          refine g_aload_n (q := 116) (i := 0) dX0_meet_115 rfl rfl rfl ?_
          refine g_get (q := 119) dX0_meet_116 rfl foX0_18 17 hc17 rfl ?_
          refine g_aload_n (q := 120) (i := 0) dX0_meet_119 rfl rfl rfl ?_
          refine g_get (q := 123) dX0_meet_120 rfl foX0_35 17 hc17 rfl ?_
          refine g_aload_n (q := 124) (i := 0) dX0_meet_123 rfl rfl rfl ?_
          refine g_get (q := 127) dX0_meet_124 rfl foX0_47 17 hc17 rfl ?_
          obtain ⟨b127, H⟩ := of_chk H
          obtain ⟨σ4, n4, H⟩ := of_ls H
          refine g_iast (q := 128) dX0_meet_127 rfl 20 hc20 b127 (ha20e n4) ?_
          refine g_aload_n (q := 129) (i := 0) dX0_meet_128 rfl rfl rfl ?_
          refine g_get (q := 132) dX0_meet_129 rfl foX0_21 17 hc17 rfl ?_
          refine g_aload_n (q := 133) (i := 0) dX0_meet_132 rfl rfl rfl ?_
          refine g_get (q := 136) dX0_meet_133 rfl foX0_35 17 hc17 rfl ?_
          refine g_iload (q := 138) dX0_meet_136 rfl rfl ?_
          refine g_iload (q := 140) dX0_meet_138 rfl rfl ?_
          refine g_iload (q := 142) dX0_meet_140 rfl rfl ?_
          obtain ⟨r5, σ5, e5, H⟩ := of_bnd H
          refine g_callS (q := 145) (rest := [.int (σ4.1 8), .ref (ad 21)]) dX0_meet_142 rfl csX0_133 (ctX5_packed e5) rfl rfl ⟨Nat.le_of_ble_eq_true rfl, Nat.le_of_ble_eq_true rfl⟩ ⟨Nat.le_refl _, Nat.le_refl _⟩ (Nat.le_of_ble_eq_true rfl) (fun r0 M9 hp => ?_)
          obtain ⟨rfl, rfl⟩ := hp
          show Go x _ _ g 145 [.ref (ad 17), .int l1, .int l2, un_, .int l4, .int l5, .int l6, .int ((1 : Int32)), .int v1, .int r2] [.int r5, .int (σ4.1 8), .ref (ad 21)] (HH g ad σ5 ++ ex) 0 0
          obtain ⟨b145, H⟩ := of_chk H
          obtain ⟨σ6, n6, H⟩ := of_ls H
          refine g_iast (q := 146) dX0_meet_145 rfl 21 hc21 b145 (ha21e n6) ?_
          refine g_iload_n (q := 147) (i := 2) dX0_meet_146 rfl rfl rfl ?_
          refine g_if_ne (q := 150) (r := 166) dX0_meet_147 (by decide) rfl (fun c147 => ?_) (fun c147 => ?_)
          · replace H := (if_neg c147).symm.trans H
            exact g_weak (L' := [.ref (ad 17), un_, un_, un_, un_, un_, un_, un_, un_, .int r2]) ⟨Or.inr rfl, Or.inl rfl, Or.inl rfl, Or.inl rfl, Or.inl rfl, Or.inl rfl, Or.inl rfl, Or.inl rfl, Or.inl rfl, Or.inr rfl, trivial⟩ (wbX0_meet_166 (F := F) hX  _ _ H)
          · replace H := (if_pos c147).symm.trans H
            refine g_aload_n (q := 151) (i := 0) dX0_meet_150 rfl rfl rfl ?_
            refine g_get (q := 154) dX0_meet_151 rfl foX0_38 17 hc17 rfl ?_
            refine g_iconst (q := 155) (v := -1) dX0_meet_154 rfl (by decide) ?_
            refine g_icmp_ne (q := 158) (r := 166) dX0_meet_155 (by decide) rfl (fun c155 => ?_) (fun c155 => ?_)
            · replace H := (if_neg c155).symm.trans H
              exact g_weak (L' := [.ref (ad 17), un_, un_, un_, un_, un_, un_, un_, un_, .int r2]) ⟨Or.inr rfl, Or.inl rfl, Or.inl rfl, Or.inl rfl, Or.inl rfl, Or.inl rfl, Or.inl rfl, Or.inl rfl, Or.inl rfl, Or.inr rfl, trivial⟩ (wbX0_meet_166 (F := F) hX  _ _ H)
            · replace H := (if_pos c155).symm.trans H
              refine g_aload_n (q := 159) (i := 0) dX0_meet_158 rfl rfl rfl ?_
              refine g_aload_n (q := 160) (i := 0) dX0_meet_159 rfl rfl rfl ?_
              refine g_get (q := 163) dX0_meet_160 rfl foX0_35 17 hc17 rfl ?_
              obtain ⟨σ7, n7, H⟩ := of_ls H
              refine g_put (q := 166) dX0_meet_163 rfl (fpX0_38 _) 17 hc17 rfl rfl (Nat.le_of_ble_eq_true rfl) (hs9e n7) ?_
              exact g_weak (L' := [.ref (ad 17), un_, un_, un_, un_, un_, un_, un_, un_, .int r2]) ⟨Or.inr rfl, Or.inl rfl, Or.inl rfl, Or.inl rfl, Or.inl rfl, Or.inl rfl, Or.inl rfl, Or.inl rfl, Or.inl rfl, Or.inr rfl, trivial⟩ (wbX0_meet_166 (F := F) hX  _ _ H)
        · replace H := (if_neg c100).symm.trans H
          exact g_vret hX dX0_meet_103 rfl (Nat.le_refl _) (Nat.le_refl _) (pvOk H)
  · replace H := (if_neg c57).symm.trans H
    refine g_ldc (q := 62) dX0_meet_60 rfl kcX0_129 ?_
    refine g_goto (q := 66) dX0_meet_62 (by decide) ?_
    refine g_ior (q := 67) dX0_meet_66 rfl ?_
    obtain ⟨v8, n8, H⟩ := of_li H
    refine g_name n8 ?_
    refine g_istore (q := 69) (L' := [.ref (ad 17), .int l1, .int l2, un_, .int l4, .int l5, .int l6, .int ((1 : Int32)), .int v8, un_]) dX0_meet_67 rfl (Nat.le_of_ble_eq_true rfl) rfl ?_
    refine g_aload_n (q := 70) (i := 0) dX0_meet_69 rfl rfl rfl ?_
    refine g_iload (q := 72) dX0_meet_70 rfl rfl ?_
    obtain ⟨r9, σ9, e9, H⟩ := of_bnd H
    refine g_callV (q := 75) (rest := []) dX0_meet_72 rfl cvX0_130 (ctX0_slotOf e9) rfl rfl ⟨Nat.le_of_ble_eq_true rfl, Nat.le_of_ble_eq_true rfl⟩ ⟨Nat.le_refl _, Nat.le_refl _⟩ (Nat.le_of_ble_eq_true rfl) 17 hc17 rfl (fun r0 M9 hp => ?_)
    obtain ⟨rfl, rfl⟩ := hp
    show Go x _ _ g 75 [.ref (ad 17), .int l1, .int l2, un_, .int l4, .int l5, .int l6, .int ((1 : Int32)), .int v8, un_] [.int r9] (HH g ad σ9 ++ ex) 0 0
    refine g_istore (q := 77) (L' := [.ref (ad 17), .int l1, .int l2, un_, .int l4, .int l5, .int l6, .int ((1 : Int32)), .int v8, .int r9]) dX0_meet_75 rfl (Nat.le_of_ble_eq_true rfl) rfl ?_
    refine g_iload (q := 79) dX0_meet_77 rfl rfl ?_
    refine g_iconst (q := 80) (v := -1) dX0_meet_79 rfl (by decide) ?_
    refine g_icmp_eq (q := 83) (r := 103) dX0_meet_80 (by decide) rfl (fun c80 => ?_) (fun c80 => ?_)
    · replace H := (if_pos c80).symm.trans H
      exact g_vret hX dX0_meet_103 rfl (Nat.le_refl _) (Nat.le_refl _) (pvOk H)
    · replace H := (if_neg c80).symm.trans H
      refine g_aload_n (q := 84) (i := 0) dX0_meet_83 rfl rfl rfl ?_
      refine g_get (q := 87) dX0_meet_84 rfl foX0_11 17 hc17 rfl ?_
      refine g_iload (q := 89) dX0_meet_87 rfl rfl ?_
      obtain ⟨b89, H⟩ := of_chk H
      refine g_iald (q := 90) dX0_meet_89 rfl 18 hc18 b89 ?_
      refine g_if_ne (q := 93) (r := 103) dX0_meet_90 (by decide) rfl (fun c90 => ?_) (fun c90 => ?_)
      · replace H := (if_neg c90).symm.trans H
        exact g_vret hX dX0_meet_103 rfl (Nat.le_refl _) (Nat.le_refl _) (pvOk H)
      · replace H := (if_pos c90).symm.trans H
        refine g_aload_n (q := 94) (i := 0) dX0_meet_93 rfl rfl rfl ?_
        refine g_get (q := 97) dX0_meet_94 rfl foX0_35 17 hc17 rfl ?_
        refine g_sipush (q := 100) (v := 1604) dX0_meet_97 rfl (by decide) ?_
        refine g_icmp_lt (q := 103) (r := 104) dX0_meet_100 (by decide) rfl (fun c100 => ?_) (fun c100 => ?_)
        · replace H := (if_pos c100).symm.trans H
          refine g_aload_n (q := 105) (i := 0) dX0_meet_104 rfl rfl rfl ?_
          refine g_get (q := 108) dX0_meet_105 rfl foX0_15 17 hc17 rfl ?_
          refine g_aload_n (q := 109) (i := 0) dX0_meet_108 rfl rfl rfl ?_
          refine g_get (q := 112) dX0_meet_109 rfl foX0_35 17 hc17 rfl ?_
          refine g_iload (q := 114) dX0_meet_112 rfl rfl ?_
          obtain ⟨b114, H⟩ := of_chk H
          obtain ⟨σ10, n10, H⟩ := of_ls H
          refine g_iast (q := 115) dX0_meet_114 rfl 19 hc19 b114 (ha19e n10) ?_
          refine g_aload_n (q := 116) (i := 0) dX0_meet_115 rfl rfl rfl ?_
          refine g_get (q := 119) dX0_meet_116 rfl foX0_18 17 hc17 rfl ?_
          refine g_aload_n (q := 120) (i := 0) dX0_meet_119 rfl rfl rfl ?_
          refine g_get (q := 123) dX0_meet_120 rfl foX0_35 17 hc17 rfl ?_
          refine g_aload_n (q := 124) (i := 0) dX0_meet_123 rfl rfl rfl ?_
          refine g_get (q := 127) dX0_meet_124 rfl foX0_47 17 hc17 rfl ?_
          obtain ⟨b127, H⟩ := of_chk H
          obtain ⟨σ11, n11, H⟩ := of_ls H
          refine g_iast (q := 128) dX0_meet_127 rfl 20 hc20 b127 (ha20e n11) ?_
          refine g_aload_n (q := 129) (i := 0) dX0_meet_128 rfl rfl rfl ?_
          refine g_get (q := 132) dX0_meet_129 rfl foX0_21 17 hc17 rfl ?_
          refine g_aload_n (q := 133) (i := 0) dX0_meet_132 rfl rfl rfl ?_
          refine g_get (q := 136) dX0_meet_133 rfl foX0_35 17 hc17 rfl ?_
          refine g_iload (q := 138) dX0_meet_136 rfl rfl ?_
          refine g_iload (q := 140) dX0_meet_138 rfl rfl ?_
          refine g_iload (q := 142) dX0_meet_140 rfl rfl ?_
          obtain ⟨r12, σ12, e12, H⟩ := of_bnd H
          refine g_callS (q := 145) (rest := [.int (σ11.1 8), .ref (ad 21)]) dX0_meet_142 rfl csX0_133 (ctX5_packed e12) rfl rfl ⟨Nat.le_of_ble_eq_true rfl, Nat.le_of_ble_eq_true rfl⟩ ⟨Nat.le_refl _, Nat.le_refl _⟩ (Nat.le_of_ble_eq_true rfl) (fun r0 M9 hp => ?_)
          obtain ⟨rfl, rfl⟩ := hp
          show Go x _ _ g 145 [.ref (ad 17), .int l1, .int l2, un_, .int l4, .int l5, .int l6, .int ((1 : Int32)), .int v8, .int r9] [.int r12, .int (σ11.1 8), .ref (ad 21)] (HH g ad σ12 ++ ex) 0 0
          obtain ⟨b145, H⟩ := of_chk H
          obtain ⟨σ13, n13, H⟩ := of_ls H
          refine g_iast (q := 146) dX0_meet_145 rfl 21 hc21 b145 (ha21e n13) ?_
          refine g_iload_n (q := 147) (i := 2) dX0_meet_146 rfl rfl rfl ?_
          refine g_if_ne (q := 150) (r := 166) dX0_meet_147 (by decide) rfl (fun c147 => ?_) (fun c147 => ?_)
          · replace H := (if_neg c147).symm.trans H
            exact g_weak (L' := [.ref (ad 17), un_, un_, un_, un_, un_, un_, un_, un_, .int r9]) ⟨Or.inr rfl, Or.inl rfl, Or.inl rfl, Or.inl rfl, Or.inl rfl, Or.inl rfl, Or.inl rfl, Or.inl rfl, Or.inl rfl, Or.inr rfl, trivial⟩ (wbX0_meet_166 (F := F) hX  _ _ H)
          · replace H := (if_pos c147).symm.trans H
            refine g_aload_n (q := 151) (i := 0) dX0_meet_150 rfl rfl rfl ?_
            refine g_get (q := 154) dX0_meet_151 rfl foX0_38 17 hc17 rfl ?_
            refine g_iconst (q := 155) (v := -1) dX0_meet_154 rfl (by decide) ?_
            refine g_icmp_ne (q := 158) (r := 166) dX0_meet_155 (by decide) rfl (fun c155 => ?_) (fun c155 => ?_)
            · replace H := (if_neg c155).symm.trans H
              exact g_weak (L' := [.ref (ad 17), un_, un_, un_, un_, un_, un_, un_, un_, .int r9]) ⟨Or.inr rfl, Or.inl rfl, Or.inl rfl, Or.inl rfl, Or.inl rfl, Or.inl rfl, Or.inl rfl, Or.inl rfl, Or.inl rfl, Or.inr rfl, trivial⟩ (wbX0_meet_166 (F := F) hX  _ _ H)
            · replace H := (if_pos c155).symm.trans H
              refine g_aload_n (q := 159) (i := 0) dX0_meet_158 rfl rfl rfl ?_
              refine g_aload_n (q := 160) (i := 0) dX0_meet_159 rfl rfl rfl ?_
              refine g_get (q := 163) dX0_meet_160 rfl foX0_35 17 hc17 rfl ?_
              obtain ⟨σ14, n14, H⟩ := of_ls H
              refine g_put (q := 166) dX0_meet_163 rfl (fpX0_38 _) 17 hc17 rfl rfl (Nat.le_of_ble_eq_true rfl) (hs9e n14) ?_
              exact g_weak (L' := [.ref (ad 17), un_, un_, un_, un_, un_, un_, un_, un_, .int r9]) ⟨Or.inr rfl, Or.inl rfl, Or.inl rfl, Or.inl rfl, Or.inl rfl, Or.inl rfl, Or.inl rfl, Or.inl rfl, Or.inl rfl, Or.inr rfl, trivial⟩ (wbX0_meet_166 (F := F) hX  _ _ H)
        · replace H := (if_neg c100).symm.trans H
          exact g_vret hX dX0_meet_103 rfl (Nat.le_refl _) (Nat.le_refl _) (pvOk H)
def bX0_meet_21 (F : Nat)  (σ : Sg) (l1 : Int32) (l2 : Int32) (l4 : Int32) (l5 : Int32) (l6 : Int32) : Rs := if (σ.1 10) = (1 : Int32) then (if (σ.1 15) = (0 : Int32) then (if l4 = (2 : Int32) then (bX0_meet_42 F σ (l1) (l2) (l4) (l5) (l6)) else (bX0_meet_46 F σ (l1) (l2) (l4) (l5) (l6))) else (bX0_meet_42 F σ (l1) (l2) (l4) (l5) (l6))) else (bX0_meet_46 F σ (l1) (l2) (l4) (l5) (l6))
set_option maxRecDepth 100000 in
set_option maxHeartbeats 4000000 in
theorem wbX0_meet_21 {x : FX} {g : GX} {ad : Nat → Nat} {ex M0 : va_W} {r : Int32} {τ : Sg} {F : Nat} (hX : RX x g M0 (Pv_ (HH g ad τ ++ ex)) 0 0)   (σ : Sg) (l1 : Int32) (l2 : Int32) (l4 : Int32) (l5 : Int32) (l6 : Int32) (H : bX0_meet_21 F  σ l1 l2 l4 l5 l6 = some (r, τ)) : Go x { frames := 2, cells := 0, slots := 0, locals := 52 } tX0_meet g 21 [.ref (ad 17), .int l1, .int l2, un_, .int l4, .int l5, .int l6, un_, un_, un_] [] (HH g ad σ ++ ex) 0 0 := by
  unfold bX0_meet_21 at H
  refine g_aload_n (q := 22) (i := 0) dX0_meet_21 rfl rfl rfl ?_
  refine g_get (q := 25) dX0_meet_22 rfl foX0_28 17 hc17 rfl ?_
  refine g_iconst (q := 26) (v := 1) dX0_meet_25 rfl (by decide) ?_
  refine g_icmp_ne (q := 29) (r := 46) dX0_meet_26 (by decide) rfl (fun c26 => ?_) (fun c26 => ?_)
  · replace H := (if_neg c26).symm.trans H
    exact g_weak (L' := [.ref (ad 17), .int l1, .int l2, un_, .int l4, .int l5, .int l6, un_, un_, un_]) ⟨Or.inr rfl, Or.inr rfl, Or.inr rfl, Or.inl rfl, Or.inr rfl, Or.inr rfl, Or.inr rfl, Or.inl rfl, Or.inl rfl, Or.inl rfl, trivial⟩ (wbX0_meet_46 (F := F) hX  _ _ _ _ _ _ H)
  · replace H := (if_pos c26).symm.trans H
    refine g_aload_n (q := 30) (i := 0) dX0_meet_29 rfl rfl rfl ?_
    refine g_get (q := 33) dX0_meet_30 rfl foX0_50 17 hc17 rfl ?_
    refine g_if_ne (q := 36) (r := 42) dX0_meet_33 (by decide) rfl (fun c33 => ?_) (fun c33 => ?_)
    · replace H := (if_neg c33).symm.trans H
      exact g_weak (L' := [.ref (ad 17), .int l1, .int l2, un_, .int l4, .int l5, .int l6, un_, un_, un_]) ⟨Or.inr rfl, Or.inr rfl, Or.inr rfl, Or.inl rfl, Or.inr rfl, Or.inr rfl, Or.inr rfl, Or.inl rfl, Or.inl rfl, Or.inl rfl, trivial⟩ (wbX0_meet_42 (F := F) hX  _ _ _ _ _ _ H)
    · replace H := (if_pos c33).symm.trans H
      refine g_iload (q := 38) dX0_meet_36 rfl rfl ?_
      refine g_iconst (q := 39) (v := 2) dX0_meet_38 rfl (by decide) ?_
      refine g_icmp_ne (q := 42) (r := 46) dX0_meet_39 (by decide) rfl (fun c39 => ?_) (fun c39 => ?_)
      · replace H := (if_neg c39).symm.trans H
        exact g_weak (L' := [.ref (ad 17), .int l1, .int l2, un_, .int l4, .int l5, .int l6, un_, un_, un_]) ⟨Or.inr rfl, Or.inr rfl, Or.inr rfl, Or.inl rfl, Or.inr rfl, Or.inr rfl, Or.inr rfl, Or.inl rfl, Or.inl rfl, Or.inl rfl, trivial⟩ (wbX0_meet_46 (F := F) hX  _ _ _ _ _ _ H)
      · replace H := (if_pos c39).symm.trans H
        exact g_weak (L' := [.ref (ad 17), .int l1, .int l2, un_, .int l4, .int l5, .int l6, un_, un_, un_]) ⟨Or.inr rfl, Or.inr rfl, Or.inr rfl, Or.inl rfl, Or.inr rfl, Or.inr rfl, Or.inr rfl, Or.inl rfl, Or.inl rfl, Or.inl rfl, trivial⟩ (wbX0_meet_42 (F := F) hX  _ _ _ _ _ _ H)
def fX0_meet (F : Nat) (σ : Sg) (l1 : Int32) (l2 : Int32) (l3 : Int32) (l4 : Int32) (l5 : Int32) (l6 : Int32) : Rs := if (σ.1 10) = (2 : Int32) then ((fX1_hangsTogether F σ l2 l3).bind fun q1 => (fun (r1 : Int32) (σ1 : Sg) => if r1 = (0 : Int32) then (some (0, σ1)) else (bX0_meet_21 F σ1 (l1) (l2) (l4) (l5) (l6))) q1.1 q1.2) else (bX0_meet_21 F σ (l1) (l2) (l4) (l5) (l6))
set_option maxRecDepth 100000 in
set_option maxHeartbeats 4000000 in
theorem ctX0_meet {l : Launch} {g : GX} {ad : Nat → Nat} {ex : va_W} {r : Int32} {τ σ : Sg} {F : Nat} {l1 : Int32} {l2 : Int32} {l3 : Int32} {l4 : Int32} {l5 : Int32} {l6 : Int32} (H : fX0_meet F σ l1 l2 l3 l4 l5 l6 = some (r, τ)) : Ct l g yX0_meet tX0_meet 2 52 0 0 [.ref (ad 17), .int l1, .int l2, .int l3, .int l4, .int l5, .int l6] (HH g ad σ ++ ex) (Pv_ (HH g ad τ ++ ex)) := by
  refine Ct.of (L := [.ref (ad 17), .int l1, .int l2, .int l3, .int l4, .int l5, .int l6, un_, un_, un_]) (by decide +kernel) rfl rfl rfl (Nat.le_of_ble_eq_true rfl) rfl (fun x _ hX => ?_)
  unfold fX0_meet at H
  refine g_aload_n (q := 1) (i := 0) dX0_meet_0 rfl rfl rfl ?_
  refine g_get (q := 4) dX0_meet_1 rfl foX0_28 17 hc17 rfl ?_
  refine g_iconst (q := 5) (v := 2) dX0_meet_4 rfl (by decide) ?_
  refine g_icmp_ne (q := 8) (r := 21) dX0_meet_5 (by decide) rfl (fun c5 => ?_) (fun c5 => ?_)
  · replace H := (if_neg c5).symm.trans H
    exact g_weak (L' := [.ref (ad 17), .int l1, .int l2, un_, .int l4, .int l5, .int l6, un_, un_, un_]) ⟨Or.inr rfl, Or.inr rfl, Or.inr rfl, Or.inl rfl, Or.inr rfl, Or.inr rfl, Or.inr rfl, Or.inl rfl, Or.inl rfl, Or.inl rfl, trivial⟩ (wbX0_meet_21 (F := F) hX  _ _ _ _ _ _ H)
  · replace H := (if_pos c5).symm.trans H
    refine g_aload_n (q := 9) (i := 0) dX0_meet_8 rfl rfl rfl ?_
    refine g_get (q := 12) dX0_meet_9 rfl foX0_24 17 hc17 rfl ?_
    refine g_iload_n (q := 13) (i := 2) dX0_meet_12 rfl rfl rfl ?_
    refine g_iload_n (q := 14) (i := 3) dX0_meet_13 rfl rfl rfl ?_
    obtain ⟨r1, σ1, e1, H⟩ := of_bnd H
    refine g_callV (q := 17) (rest := []) dX0_meet_14 rfl cvX0_125 (ctX1_hangsTogether e1) rfl rfl ⟨Nat.le_of_ble_eq_true rfl, Nat.le_of_ble_eq_true rfl⟩ ⟨Nat.le_refl _, Nat.le_refl _⟩ (Nat.le_of_ble_eq_true rfl) 1 hc1 rfl (fun r0 M9 hp => ?_)
    obtain ⟨rfl, rfl⟩ := hp
    show Go x _ _ g 17 [.ref (ad 17), .int l1, .int l2, .int l3, .int l4, .int l5, .int l6, un_, un_, un_] [.int r1] (HH g ad σ1 ++ ex) 0 0
    refine g_if_ne (q := 20) (r := 21) dX0_meet_17 (by decide) rfl (fun c17 => ?_) (fun c17 => ?_)
    · replace H := (if_neg c17).symm.trans H
      exact g_weak (L' := [.ref (ad 17), .int l1, .int l2, un_, .int l4, .int l5, .int l6, un_, un_, un_]) ⟨Or.inr rfl, Or.inr rfl, Or.inr rfl, Or.inl rfl, Or.inr rfl, Or.inr rfl, Or.inr rfl, Or.inl rfl, Or.inl rfl, Or.inl rfl, trivial⟩ (wbX0_meet_21 (F := F) hX  _ _ _ _ _ _ H)
    · replace H := (if_pos c17).symm.trans H
      exact g_vret hX dX0_meet_20 rfl (Nat.le_refl _) (Nat.le_refl _) (pvOk H)
def bX0_tryPuts_2 (F : Nat) (k2 : Sg → Int32 → Rs) (σ : Sg) (l1 : Int32) : Rs := if (σ.1 0) ≤ l1 then (some (0, σ)) else (if (σ.1 11) ≤ (σ.1 17) then (some (0, σ)) else ((fX1_allows F σ (σ.1 10) ((0 : Int32)) l1 (σ.1 15)).bind fun q1 => (fun (r1 : Int32) (σ1 : Sg) => if r1 = (0 : Int32) then (k2 σ1 (l1 + 1)) else (li_ ((σ1.1 16) ||| ((1 : Int32) <<< (l1 &&& 31))) fun v2 => (fX0_one F σ1 l1).bind fun q3 => (fun (r3 : Int32) (σ3 : Sg) => (fX0_meet F σ3 ((σ1.1 13) + r3) ((σ3.1 14) &&& (v2 ^^^ (-1 : Int32))) v2 ((0 : Int32)) l1 ((-1 : Int32))).bind fun q4 => (fun (r4 : Int32) (σ4 : Sg) => k2 σ4 (l1 + 1)) q4.1 q4.2) q3.1 q3.2)) q1.1 q1.2))
set_option maxRecDepth 100000 in
set_option maxHeartbeats 4000000 in
theorem wbX0_tryPuts_2 {x : FX} {g : GX} {ad : Nat → Nat} {ex M0 : va_W} {r : Int32} {τ : Sg} {F : Nat} (hX : RX x g M0 (Pv_ (HH g ad τ ++ ex)) 0 0) {k2 : Sg → Int32 → Rs} (h2 : ∀ (σ : Sg) (l1 : Int32), k2 σ l1 = some (r, τ) → Go x { frames := 3, cells := 0, slots := 0, locals := 81 } tX0_tryPuts g 2 [.ref (ad 17), .int l1, un_] [] (HH g ad σ ++ ex) 0 0) (σ : Sg) (l1 : Int32) (H : bX0_tryPuts_2 F k2 σ l1 = some (r, τ)) : Go x { frames := 3, cells := 0, slots := 0, locals := 81 } tX0_tryPuts g 2 [.ref (ad 17), .int l1, un_] [] (HH g ad σ ++ ex) 0 0 := by
  unfold bX0_tryPuts_2 at H
  refine g_iload_n (q := 3) (i := 1) dX0_tryPuts_2 rfl rfl rfl ?_
  refine g_aload_n (q := 4) (i := 0) dX0_tryPuts_3 rfl rfl rfl ?_
  refine g_get (q := 7) dX0_tryPuts_4 rfl foX0_24 17 hc17 rfl ?_
  refine g_get (q := 10) dX0_tryPuts_7 rfl foX0_97 1 hc1 rfl ?_
  refine g_icmp_ge (q := 13) (r := 84) dX0_tryPuts_10 (by decide) rfl (fun c10 => ?_) (fun c10 => ?_)
  · replace H := (if_pos c10).symm.trans H
    exact g_vret hX dX0_tryPuts_84 rfl (Nat.le_refl _) (Nat.le_refl _) (pvOk H)
  · replace H := (if_neg c10).symm.trans H
    refine g_aload_n (q := 14) (i := 0) dX0_tryPuts_13 rfl rfl rfl ?_
    refine g_get (q := 17) dX0_tryPuts_14 rfl foX0_94 17 hc17 rfl ?_
    refine g_aload_n (q := 18) (i := 0) dX0_tryPuts_17 rfl rfl rfl ?_
    refine g_get (q := 21) dX0_tryPuts_18 rfl foX0_32 17 hc17 rfl ?_
    refine g_icmp_ge (q := 24) (r := 84) dX0_tryPuts_21 (by decide) rfl (fun c21 => ?_) (fun c21 => ?_)
    · replace H := (if_pos c21).symm.trans H
      exact g_vret hX dX0_tryPuts_84 rfl (Nat.le_refl _) (Nat.le_refl _) (pvOk H)
    · replace H := (if_neg c21).symm.trans H
      refine g_aload_n (q := 25) (i := 0) dX0_tryPuts_24 rfl rfl rfl ?_
      refine g_get (q := 28) dX0_tryPuts_25 rfl foX0_24 17 hc17 rfl ?_
      refine g_aload_n (q := 29) (i := 0) dX0_tryPuts_28 rfl rfl rfl ?_
      refine g_get (q := 32) dX0_tryPuts_29 rfl foX0_28 17 hc17 rfl ?_
      refine g_iconst (q := 33) (v := 0) dX0_tryPuts_32 rfl (by decide) ?_
      refine g_iload_n (q := 34) (i := 1) dX0_tryPuts_33 rfl rfl rfl ?_
      refine g_aload_n (q := 35) (i := 0) dX0_tryPuts_34 rfl rfl rfl ?_
      refine g_get (q := 38) dX0_tryPuts_35 rfl foX0_50 17 hc17 rfl ?_
      obtain ⟨r1, σ1, e1, H⟩ := of_bnd H
      refine g_callV (q := 41) (rest := []) dX0_tryPuts_38 rfl cvX0_100 (ctX1_allows e1) rfl rfl ⟨Nat.le_of_ble_eq_true rfl, Nat.le_of_ble_eq_true rfl⟩ ⟨Nat.le_refl _, Nat.le_refl _⟩ (Nat.le_of_ble_eq_true rfl) 1 hc1 rfl (fun r0 M9 hp => ?_)
      obtain ⟨rfl, rfl⟩ := hp
      show Go x _ _ g 41 [.ref (ad 17), .int l1, un_] [.int r1] (HH g ad σ1 ++ ex) 0 0
      refine g_if_eq (q := 44) (r := 78) dX0_tryPuts_41 (by decide) rfl (fun c41 => ?_) (fun c41 => ?_)
      · replace H := (if_pos c41).symm.trans H
        refine g_iinc (q := 81) (b := l1 + 1) (L' := [.ref (ad 17), .int (l1 + 1), un_]) dX0_tryPuts_78 rfl rfl rfl (Nat.le_of_ble_eq_true rfl) rfl ?_
        refine g_goto (q := 2) dX0_tryPuts_81 (by decide) ?_
        exact g_weak (L' := [.ref (ad 17), .int (l1 + 1), un_]) ⟨Or.inr rfl, Or.inr rfl, Or.inl rfl, trivial⟩ (h2 _ _ H)
      · replace H := (if_neg c41).symm.trans H
        refine g_aload_n (q := 45) (i := 0) dX0_tryPuts_44 rfl rfl rfl ?_
        refine g_get (q := 48) dX0_tryPuts_45 rfl foX0_91 17 hc17 rfl ?_
        refine g_iconst (q := 49) (v := 1) dX0_tryPuts_48 rfl (by decide) ?_
        refine g_iload_n (q := 50) (i := 1) dX0_tryPuts_49 rfl rfl rfl ?_
        refine g_ishl (q := 51) dX0_tryPuts_50 rfl ?_
        refine g_ior (q := 52) dX0_tryPuts_51 rfl ?_
        obtain ⟨v2, n2, H⟩ := of_li H
        refine g_name n2 ?_
        refine g_istore_n (q := 53) (L' := [.ref (ad 17), .int l1, .int v2]) (i := 2) dX0_tryPuts_52 rfl rfl (Nat.le_of_ble_eq_true rfl) rfl ?_
        refine g_aload_n (q := 54) (i := 0) dX0_tryPuts_53 rfl rfl rfl ?_
        refine g_aload_n (q := 55) (i := 0) dX0_tryPuts_54 rfl rfl rfl ?_
        refine g_get (q := 58) dX0_tryPuts_55 rfl foX0_85 17 hc17 rfl ?_
        refine g_iload_n (q := 59) (i := 1) dX0_tryPuts_58 rfl rfl rfl ?_
        obtain ⟨r3, σ3, e3, H⟩ := of_bnd H
        refine g_callS (q := 62) (rest := [.int (σ1.1 13), .ref (ad 17)]) dX0_tryPuts_59 rfl csX0_104 (ctX0_one e3) rfl rfl ⟨Nat.le_of_ble_eq_true rfl, Nat.le_of_ble_eq_true rfl⟩ ⟨Nat.le_refl _, Nat.le_refl _⟩ (Nat.le_of_ble_eq_true rfl) (fun r0 M9 hp => ?_)
        obtain ⟨rfl, rfl⟩ := hp
        show Go x _ _ g 62 [.ref (ad 17), .int l1, .int v2] [.int r3, .int (σ1.1 13), .ref (ad 17)] (HH g ad σ3 ++ ex) 0 0
        refine g_iadd (q := 63) dX0_tryPuts_62 rfl ?_
        refine g_aload_n (q := 64) (i := 0) dX0_tryPuts_63 rfl rfl rfl ?_
        refine g_get (q := 67) dX0_tryPuts_64 rfl foX0_88 17 hc17 rfl ?_
        refine g_iload_n (q := 68) (i := 2) dX0_tryPuts_67 rfl rfl rfl ?_
        refine g_iconst (q := 69) (v := -1) dX0_tryPuts_68 rfl (by decide) ?_
        refine g_ixor (q := 70) dX0_tryPuts_69 rfl ?_
        refine g_iand (q := 71) dX0_tryPuts_70 rfl ?_
        refine g_iload_n (q := 72) (i := 2) dX0_tryPuts_71 rfl rfl rfl ?_
        refine g_iconst (q := 73) (v := 0) dX0_tryPuts_72 rfl (by decide) ?_
        refine g_iload_n (q := 74) (i := 1) dX0_tryPuts_73 rfl rfl rfl ?_
        refine g_iconst (q := 75) (v := -1) dX0_tryPuts_74 rfl (by decide) ?_
        obtain ⟨r4, σ4, e4, H⟩ := of_bnd H
        refine g_callV (q := 78) (rest := []) dX0_tryPuts_75 rfl cvX0_60 (ctX0_meet e4) rfl rfl ⟨Nat.le_of_ble_eq_true rfl, Nat.le_of_ble_eq_true rfl⟩ ⟨Nat.le_refl _, Nat.le_refl _⟩ (Nat.le_of_ble_eq_true rfl) 17 hc17 rfl (fun r0 M9 hp => ?_)
        obtain ⟨rfl, rfl⟩ := hp
        show Go x _ _ g 78 [.ref (ad 17), .int l1, .int v2] [] (HH g ad σ4 ++ ex) 0 0
        refine g_iinc (q := 81) (b := l1 + 1) (L' := [.ref (ad 17), .int (l1 + 1), .int v2]) dX0_tryPuts_78 rfl rfl rfl (Nat.le_of_ble_eq_true rfl) rfl ?_
        refine g_goto (q := 2) dX0_tryPuts_81 (by decide) ?_
        exact g_weak (L' := [.ref (ad 17), .int (l1 + 1), un_]) ⟨Or.inr rfl, Or.inr rfl, Or.inl rfl, trivial⟩ (h2 _ _ H)
def fX0_tryPuts_2 (F : Nat)  : Nat → Sg → Int32 → Rs
  | 0 => fun _ _ => none
  | n + 1 => fun σ l1 => bX0_tryPuts_2 F  (fX0_tryPuts_2 F  n) σ l1
theorem wfX0_tryPuts_2 {x : FX} {g : GX} {ad : Nat → Nat} {ex M0 : va_W} {r : Int32} {τ : Sg} {F : Nat} (hX : RX x g M0 (Pv_ (HH g ad τ ++ ex)) 0 0)   : ∀ (n : Nat) (σ : Sg) (l1 : Int32), fX0_tryPuts_2 F  n σ l1 = some (r, τ) → Go x { frames := 3, cells := 0, slots := 0, locals := 81 } tX0_tryPuts g 2 [.ref (ad 17), .int l1, un_] [] (HH g ad σ ++ ex) 0 0
  | 0, _, _, H => nomatch (show (none : Rs) = some _ from H)
  | n + 1, σ, l1, H => wbX0_tryPuts_2 (F := F) hX  (fun σ2 z1 H2 => wfX0_tryPuts_2 (F := F) hX  n σ2 z1 H2) σ l1 H
def fX0_tryPuts (F : Nat) (σ : Sg)  : Rs := fX0_tryPuts_2 F F σ ((0 : Int32))
set_option maxRecDepth 100000 in
set_option maxHeartbeats 4000000 in
theorem ctX0_tryPuts {l : Launch} {g : GX} {ad : Nat → Nat} {ex : va_W} {r : Int32} {τ σ : Sg} {F : Nat}  (H : fX0_tryPuts F σ  = some (r, τ)) : Ct l g yX0_tryPuts tX0_tryPuts 3 81 0 0 [.ref (ad 17)] (HH g ad σ ++ ex) (Pv_ (HH g ad τ ++ ex)) := by
  refine Ct.of (L := [.ref (ad 17), un_, un_]) (by decide +kernel) rfl rfl rfl (Nat.le_of_ble_eq_true rfl) rfl (fun x _ hX => ?_)
  unfold fX0_tryPuts at H
  refine g_iconst (q := 1) (v := 0) dX0_tryPuts_0 rfl (by decide) ?_
  refine g_istore_n (q := 2) (L' := [.ref (ad 17), .int ((0 : Int32)), un_]) (i := 1) dX0_tryPuts_1 rfl rfl (Nat.le_of_ble_eq_true rfl) rfl ?_
  exact g_weak (L' := [.ref (ad 17), .int ((0 : Int32)), un_]) ⟨Or.inr rfl, Or.inr rfl, Or.inl rfl, trivial⟩ (wfX0_tryPuts_2 (F := F) hX  F _ _ H)
def fX0_guardedWithout (F : Nat) (σ : Sg) (l1 : Int32) : Rs := if (((σ.1 13) >>> (((2 : Int32) * l1) &&& 31)) &&& (3 : Int32)) ≤ (1 : Int32) then (some ((σ.1 16) &&& (((1 : Int32) <<< (l1 &&& 31)) ^^^ (-1 : Int32)), σ)) else (some (σ.1 16, σ))
set_option maxRecDepth 100000 in
set_option maxHeartbeats 4000000 in
theorem ctX0_guardedWithout {l : Launch} {g : GX} {ad : Nat → Nat} {ex : va_W} {r : Int32} {τ σ : Sg} {F : Nat} {l1 : Int32} (H : fX0_guardedWithout F σ l1 = some (r, τ)) : Ct l g yX0_guardedWithout tX0_guardedWithout 0 0 0 0 [.ref (ad 17), .int l1] (HH g ad σ ++ ex) (Pi_ r (HH g ad τ ++ ex)) := by
  refine Ct.of (L := [.ref (ad 17), .int l1]) (by decide +kernel) rfl rfl rfl (Nat.le_of_ble_eq_true rfl) rfl (fun x _ hX => ?_)
  unfold fX0_guardedWithout at H
  refine g_aload_n (q := 1) (i := 0) dX0_guardedWithout_0 rfl rfl rfl ?_
  refine g_get (q := 4) dX0_guardedWithout_1 rfl foX0_85 17 hc17 rfl ?_
  refine g_iconst (q := 5) (v := 2) dX0_guardedWithout_4 rfl (by decide) ?_
  refine g_iload_n (q := 6) (i := 1) dX0_guardedWithout_5 rfl rfl rfl ?_
  refine g_imul (q := 7) dX0_guardedWithout_6 rfl ?_
  refine g_ishr (q := 8) dX0_guardedWithout_7 rfl ?_
  refine g_iconst (q := 9) (v := 3) dX0_guardedWithout_8 rfl (by decide) ?_
  refine g_iand (q := 10) dX0_guardedWithout_9 rfl ?_
  refine g_iconst (q := 11) (v := 1) dX0_guardedWithout_10 rfl (by decide) ?_
  refine g_icmp_le (q := 14) (r := 21) dX0_guardedWithout_11 (by decide) rfl (fun c11 => ?_) (fun c11 => ?_)
  · replace H := (if_pos c11).symm.trans H
    refine g_aload_n (q := 22) (i := 0) dX0_guardedWithout_21 rfl rfl rfl ?_
    refine g_get (q := 25) dX0_guardedWithout_22 rfl foX0_91 17 hc17 rfl ?_
    refine g_iconst (q := 26) (v := 1) dX0_guardedWithout_25 rfl (by decide) ?_
    refine g_iload_n (q := 27) (i := 1) dX0_guardedWithout_26 rfl rfl rfl ?_
    refine g_ishl (q := 28) dX0_guardedWithout_27 rfl ?_
    refine g_iconst (q := 29) (v := -1) dX0_guardedWithout_28 rfl (by decide) ?_
    refine g_ixor (q := 30) dX0_guardedWithout_29 rfl ?_
    refine g_iand (q := 31) dX0_guardedWithout_30 rfl ?_
    exact g_iret hX dX0_guardedWithout_31 rfl rfl (Nat.le_refl _) (Nat.le_refl _) (piOk H)
  · replace H := (if_neg c11).symm.trans H
    refine g_aload_n (q := 15) (i := 0) dX0_guardedWithout_14 rfl rfl rfl ?_
    refine g_get (q := 18) dX0_guardedWithout_15 rfl foX0_91 17 hc17 rfl ?_
    refine g_goto (q := 31) dX0_guardedWithout_18 (by decide) ?_
    exact g_iret hX dX0_guardedWithout_31 rfl rfl (Nat.le_refl _) (Nat.le_refl _) (piOk H)
def bX0_tryLifts_2 (F : Nat) (k2 : Sg → Int32 → Rs) (σ : Sg) (l1 : Int32) : Rs := if (σ.1 0) ≤ l1 then (some (0, σ)) else (if (((σ.1 16) >>> (l1 &&& 31)) &&& (1 : Int32)) = (0 : Int32) then (k2 σ (l1 + 1)) else ((fX1_allows F σ (σ.1 10) ((1 : Int32)) l1 (σ.1 15)).bind fun q1 => (fun (r1 : Int32) (σ1 : Sg) => if r1 = (0 : Int32) then (k2 σ1 (l1 + 1)) else ((fX0_guardedWithout F σ1 l1).bind fun q2 => (fun (r2 : Int32) (σ2 : Sg) => (fX0_one F σ2 l1).bind fun q3 => (fun (r3 : Int32) (σ3 : Sg) => (fX1_lostBehind F σ3 (σ3.1 14) r2 l1 ((0 : Int32))).bind fun q4 => (fun (r4 : Int32) (σ4 : Sg) => (fX0_meet F σ4 ((σ2.1 13) - r3) r4 r2 ((1 : Int32)) l1 ((-1 : Int32))).bind fun q5 => (fun (r5 : Int32) (σ5 : Sg) => k2 σ5 (l1 + 1)) q5.1 q5.2) q4.1 q4.2) q3.1 q3.2) q2.1 q2.2)) q1.1 q1.2))
set_option maxRecDepth 100000 in
set_option maxHeartbeats 4000000 in
theorem wbX0_tryLifts_2 {x : FX} {g : GX} {ad : Nat → Nat} {ex M0 : va_W} {r : Int32} {τ : Sg} {F : Nat} (hX : RX x g M0 (Pv_ (HH g ad τ ++ ex)) 0 0) {k2 : Sg → Int32 → Rs} (h2 : ∀ (σ : Sg) (l1 : Int32), k2 σ l1 = some (r, τ) → Go x { frames := 3, cells := 0, slots := 0, locals := 81 } tX0_tryLifts g 2 [.ref (ad 17), .int l1, un_] [] (HH g ad σ ++ ex) 0 0) (σ : Sg) (l1 : Int32) (H : bX0_tryLifts_2 F k2 σ l1 = some (r, τ)) : Go x { frames := 3, cells := 0, slots := 0, locals := 81 } tX0_tryLifts g 2 [.ref (ad 17), .int l1, un_] [] (HH g ad σ ++ ex) 0 0 := by
  unfold bX0_tryLifts_2 at H
  refine g_iload_n (q := 3) (i := 1) dX0_tryLifts_2 rfl rfl rfl ?_
  refine g_aload_n (q := 4) (i := 0) dX0_tryLifts_3 rfl rfl rfl ?_
  refine g_get (q := 7) dX0_tryLifts_4 rfl foX0_24 17 hc17 rfl ?_
  refine g_get (q := 10) dX0_tryLifts_7 rfl foX0_97 1 hc1 rfl ?_
  refine g_icmp_ge (q := 13) (r := 87) dX0_tryLifts_10 (by decide) rfl (fun c10 => ?_) (fun c10 => ?_)
  · replace H := (if_pos c10).symm.trans H
    exact g_vret hX dX0_tryLifts_87 rfl (Nat.le_refl _) (Nat.le_refl _) (pvOk H)
  · replace H := (if_neg c10).symm.trans H
    refine g_aload_n (q := 14) (i := 0) dX0_tryLifts_13 rfl rfl rfl ?_
    refine g_get (q := 17) dX0_tryLifts_14 rfl foX0_91 17 hc17 rfl ?_
    refine g_iload_n (q := 18) (i := 1) dX0_tryLifts_17 rfl rfl rfl ?_
    refine g_ishr (q := 19) dX0_tryLifts_18 rfl ?_
    refine g_iconst (q := 20) (v := 1) dX0_tryLifts_19 rfl (by decide) ?_
    refine g_iand (q := 21) dX0_tryLifts_20 rfl ?_
    refine g_if_eq (q := 24) (r := 81) dX0_tryLifts_21 (by decide) rfl (fun c21 => ?_) (fun c21 => ?_)
    · replace H := (if_pos c21).symm.trans H
      refine g_iinc (q := 84) (b := l1 + 1) (L' := [.ref (ad 17), .int (l1 + 1), un_]) dX0_tryLifts_81 rfl rfl rfl (Nat.le_of_ble_eq_true rfl) rfl ?_
      refine g_goto (q := 2) dX0_tryLifts_84 (by decide) ?_
      exact g_weak (L' := [.ref (ad 17), .int (l1 + 1), un_]) ⟨Or.inr rfl, Or.inr rfl, Or.inl rfl, trivial⟩ (h2 _ _ H)
    · replace H := (if_neg c21).symm.trans H
      refine g_aload_n (q := 25) (i := 0) dX0_tryLifts_24 rfl rfl rfl ?_
      refine g_get (q := 28) dX0_tryLifts_25 rfl foX0_24 17 hc17 rfl ?_
      refine g_aload_n (q := 29) (i := 0) dX0_tryLifts_28 rfl rfl rfl ?_
      refine g_get (q := 32) dX0_tryLifts_29 rfl foX0_28 17 hc17 rfl ?_
      refine g_iconst (q := 33) (v := 1) dX0_tryLifts_32 rfl (by decide) ?_
      refine g_iload_n (q := 34) (i := 1) dX0_tryLifts_33 rfl rfl rfl ?_
      refine g_aload_n (q := 35) (i := 0) dX0_tryLifts_34 rfl rfl rfl ?_
      refine g_get (q := 38) dX0_tryLifts_35 rfl foX0_50 17 hc17 rfl ?_
      obtain ⟨r1, σ1, e1, H⟩ := of_bnd H
      refine g_callV (q := 41) (rest := []) dX0_tryLifts_38 rfl cvX0_100 (ctX1_allows e1) rfl rfl ⟨Nat.le_of_ble_eq_true rfl, Nat.le_of_ble_eq_true rfl⟩ ⟨Nat.le_refl _, Nat.le_refl _⟩ (Nat.le_of_ble_eq_true rfl) 1 hc1 rfl (fun r0 M9 hp => ?_)
      obtain ⟨rfl, rfl⟩ := hp
      show Go x _ _ g 41 [.ref (ad 17), .int l1, un_] [.int r1] (HH g ad σ1 ++ ex) 0 0
      refine g_if_eq (q := 44) (r := 81) dX0_tryLifts_41 (by decide) rfl (fun c41 => ?_) (fun c41 => ?_)
      · replace H := (if_pos c41).symm.trans H
        refine g_iinc (q := 84) (b := l1 + 1) (L' := [.ref (ad 17), .int (l1 + 1), un_]) dX0_tryLifts_81 rfl rfl rfl (Nat.le_of_ble_eq_true rfl) rfl ?_
        refine g_goto (q := 2) dX0_tryLifts_84 (by decide) ?_
        exact g_weak (L' := [.ref (ad 17), .int (l1 + 1), un_]) ⟨Or.inr rfl, Or.inr rfl, Or.inl rfl, trivial⟩ (h2 _ _ H)
      · replace H := (if_neg c41).symm.trans H
        refine g_aload_n (q := 45) (i := 0) dX0_tryLifts_44 rfl rfl rfl ?_
        refine g_iload_n (q := 46) (i := 1) dX0_tryLifts_45 rfl rfl rfl ?_
        obtain ⟨r2, σ2, e2, H⟩ := of_bnd H
        refine g_callV (q := 49) (rest := []) dX0_tryLifts_46 rfl cvX0_108 (ctX0_guardedWithout e2) rfl rfl ⟨Nat.le_of_ble_eq_true rfl, Nat.le_of_ble_eq_true rfl⟩ ⟨Nat.le_refl _, Nat.le_refl _⟩ (Nat.le_of_ble_eq_true rfl) 17 hc17 rfl (fun r0 M9 hp => ?_)
        obtain ⟨rfl, rfl⟩ := hp
        show Go x _ _ g 49 [.ref (ad 17), .int l1, un_] [.int r2] (HH g ad σ2 ++ ex) 0 0
        refine g_istore_n (q := 50) (L' := [.ref (ad 17), .int l1, .int r2]) (i := 2) dX0_tryLifts_49 rfl rfl (Nat.le_of_ble_eq_true rfl) rfl ?_
        refine g_aload_n (q := 51) (i := 0) dX0_tryLifts_50 rfl rfl rfl ?_
        refine g_aload_n (q := 52) (i := 0) dX0_tryLifts_51 rfl rfl rfl ?_
        refine g_get (q := 55) dX0_tryLifts_52 rfl foX0_85 17 hc17 rfl ?_
        refine g_iload_n (q := 56) (i := 1) dX0_tryLifts_55 rfl rfl rfl ?_
        obtain ⟨r3, σ3, e3, H⟩ := of_bnd H
        refine g_callS (q := 59) (rest := [.int (σ2.1 13), .ref (ad 17)]) dX0_tryLifts_56 rfl csX0_104 (ctX0_one e3) rfl rfl ⟨Nat.le_of_ble_eq_true rfl, Nat.le_of_ble_eq_true rfl⟩ ⟨Nat.le_refl _, Nat.le_refl _⟩ (Nat.le_of_ble_eq_true rfl) (fun r0 M9 hp => ?_)
        obtain ⟨rfl, rfl⟩ := hp
        show Go x _ _ g 59 [.ref (ad 17), .int l1, .int r2] [.int r3, .int (σ2.1 13), .ref (ad 17)] (HH g ad σ3 ++ ex) 0 0
        refine g_isub (q := 60) dX0_tryLifts_59 rfl ?_
        refine g_aload_n (q := 61) (i := 0) dX0_tryLifts_60 rfl rfl rfl ?_
        refine g_get (q := 64) dX0_tryLifts_61 rfl foX0_24 17 hc17 rfl ?_
        refine g_aload_n (q := 65) (i := 0) dX0_tryLifts_64 rfl rfl rfl ?_
        refine g_get (q := 68) dX0_tryLifts_65 rfl foX0_88 17 hc17 rfl ?_
        refine g_iload_n (q := 69) (i := 2) dX0_tryLifts_68 rfl rfl rfl ?_
        refine g_iload_n (q := 70) (i := 1) dX0_tryLifts_69 rfl rfl rfl ?_
        refine g_iconst (q := 71) (v := 0) dX0_tryLifts_70 rfl (by decide) ?_
        obtain ⟨r4, σ4, e4, H⟩ := of_bnd H
        refine g_callV (q := 74) (rest := [.int ((σ2.1 13) - r3), .ref (ad 17)]) dX0_tryLifts_71 rfl cvX0_111 (ctX1_lostBehind e4) rfl rfl ⟨Nat.le_of_ble_eq_true rfl, Nat.le_of_ble_eq_true rfl⟩ ⟨Nat.le_refl _, Nat.le_refl _⟩ (Nat.le_of_ble_eq_true rfl) 1 hc1 rfl (fun r0 M9 hp => ?_)
        obtain ⟨rfl, rfl⟩ := hp
        show Go x _ _ g 74 [.ref (ad 17), .int l1, .int r2] [.int r4, .int ((σ2.1 13) - r3), .ref (ad 17)] (HH g ad σ4 ++ ex) 0 0
        refine g_iload_n (q := 75) (i := 2) dX0_tryLifts_74 rfl rfl rfl ?_
        refine g_iconst (q := 76) (v := 1) dX0_tryLifts_75 rfl (by decide) ?_
        refine g_iload_n (q := 77) (i := 1) dX0_tryLifts_76 rfl rfl rfl ?_
        refine g_iconst (q := 78) (v := -1) dX0_tryLifts_77 rfl (by decide) ?_
        obtain ⟨r5, σ5, e5, H⟩ := of_bnd H
        refine g_callV (q := 81) (rest := []) dX0_tryLifts_78 rfl cvX0_60 (ctX0_meet e5) rfl rfl ⟨Nat.le_of_ble_eq_true rfl, Nat.le_of_ble_eq_true rfl⟩ ⟨Nat.le_refl _, Nat.le_refl _⟩ (Nat.le_of_ble_eq_true rfl) 17 hc17 rfl (fun r0 M9 hp => ?_)
        obtain ⟨rfl, rfl⟩ := hp
        show Go x _ _ g 81 [.ref (ad 17), .int l1, .int r2] [] (HH g ad σ5 ++ ex) 0 0
        refine g_iinc (q := 84) (b := l1 + 1) (L' := [.ref (ad 17), .int (l1 + 1), .int r2]) dX0_tryLifts_81 rfl rfl rfl (Nat.le_of_ble_eq_true rfl) rfl ?_
        refine g_goto (q := 2) dX0_tryLifts_84 (by decide) ?_
        exact g_weak (L' := [.ref (ad 17), .int (l1 + 1), un_]) ⟨Or.inr rfl, Or.inr rfl, Or.inl rfl, trivial⟩ (h2 _ _ H)
def fX0_tryLifts_2 (F : Nat)  : Nat → Sg → Int32 → Rs
  | 0 => fun _ _ => none
  | n + 1 => fun σ l1 => bX0_tryLifts_2 F  (fX0_tryLifts_2 F  n) σ l1
theorem wfX0_tryLifts_2 {x : FX} {g : GX} {ad : Nat → Nat} {ex M0 : va_W} {r : Int32} {τ : Sg} {F : Nat} (hX : RX x g M0 (Pv_ (HH g ad τ ++ ex)) 0 0)   : ∀ (n : Nat) (σ : Sg) (l1 : Int32), fX0_tryLifts_2 F  n σ l1 = some (r, τ) → Go x { frames := 3, cells := 0, slots := 0, locals := 81 } tX0_tryLifts g 2 [.ref (ad 17), .int l1, un_] [] (HH g ad σ ++ ex) 0 0
  | 0, _, _, H => nomatch (show (none : Rs) = some _ from H)
  | n + 1, σ, l1, H => wbX0_tryLifts_2 (F := F) hX  (fun σ2 z1 H2 => wfX0_tryLifts_2 (F := F) hX  n σ2 z1 H2) σ l1 H
def fX0_tryLifts (F : Nat) (σ : Sg)  : Rs := fX0_tryLifts_2 F F σ ((0 : Int32))
set_option maxRecDepth 100000 in
set_option maxHeartbeats 4000000 in
theorem ctX0_tryLifts {l : Launch} {g : GX} {ad : Nat → Nat} {ex : va_W} {r : Int32} {τ σ : Sg} {F : Nat}  (H : fX0_tryLifts F σ  = some (r, τ)) : Ct l g yX0_tryLifts tX0_tryLifts 3 81 0 0 [.ref (ad 17)] (HH g ad σ ++ ex) (Pv_ (HH g ad τ ++ ex)) := by
  refine Ct.of (L := [.ref (ad 17), un_, un_]) (by decide +kernel) rfl rfl rfl (Nat.le_of_ble_eq_true rfl) rfl (fun x _ hX => ?_)
  unfold fX0_tryLifts at H
  refine g_iconst (q := 1) (v := 0) dX0_tryLifts_0 rfl (by decide) ?_
  refine g_istore_n (q := 2) (L' := [.ref (ad 17), .int ((0 : Int32)), un_]) (i := 1) dX0_tryLifts_1 rfl rfl (Nat.le_of_ble_eq_true rfl) rfl ?_
  exact g_weak (L' := [.ref (ad 17), .int ((0 : Int32)), un_]) ⟨Or.inr rfl, Or.inr rfl, Or.inl rfl, trivial⟩ (wfX0_tryLifts_2 (F := F) hX  F _ _ H)
