def bX0_trySlidesFrom_12 (F : Nat) (k12 : Sg → Int32 → Int32 → Int32 → Rs) (σ : Sg) (l1 : Int32) (l2 : Int32) (l3 : Int32) : Rs := if (18 : Int32) ≤ l3 then (some (0, σ)) else (if (l2 >>> (l3 &&& 31)) = (0 : Int32) then (some (0, σ)) else (if ((l2 >>> (l3 &&& 31)) &&& (1 : Int32)) = (0 : Int32) then (k12 σ (l1) (l2) (l3 + 1)) else ((fX1_otherEnd F σ l3 l1).bind fun q1 => (fun (r1 : Int32) (σ1 : Sg) => (fX0_guardedWithout F σ1 l1).bind fun q2 => (fun (r2 : Int32) (σ2 : Sg) => li_ (r2 ||| ((1 : Int32) <<< (r1 &&& 31))) fun v3 => (fX1_lostBehind F σ2 (σ2.1 14) v3 l1 ((1 : Int32) <<< (l3 &&& 31))).bind fun q4 => (fun (r4 : Int32) (σ4 : Sg) => (fX0_one F σ4 l1).bind fun q5 => (fun (r5 : Int32) (σ5 : Sg) => (fX0_one F σ5 r1).bind fun q6 => (fun (r6 : Int32) (σ6 : Sg) => (fX0_meet F σ6 (((σ4.1 13) - r5) + r6) r4 v3 ((2 : Int32)) l1 l3).bind fun q7 => (fun (r7 : Int32) (σ7 : Sg) => k12 σ7 (l1) (l2) (l3 + 1)) q7.1 q7.2) q6.1 q6.2) q5.1 q5.2) q4.1 q4.2) q2.1 q2.2) q1.1 q1.2)))
set_option maxRecDepth 100000 in
set_option maxHeartbeats 4000000 in
theorem wbX0_trySlidesFrom_12 {x : FX} {g : GX} {ad : Nat → Nat} {ex M0 : va_W} {r : Int32} {τ : Sg} {F : Nat} (hX : RX x g M0 (Pv_ (HH g ad τ ++ ex)) 0 0) {k12 : Sg → Int32 → Int32 → Int32 → Rs} (h12 : ∀ (σ : Sg) (l1 : Int32) (l2 : Int32) (l3 : Int32), k12 σ l1 l2 l3 = some (r, τ) → Go x { frames := 3, cells := 0, slots := 0, locals := 81 } tX0_trySlidesFrom g 12 [.ref (ad 17), .int l1, .int l2, .int l3, un_, un_, un_] [] (HH g ad σ ++ ex) 0 0) (σ : Sg) (l1 : Int32) (l2 : Int32) (l3 : Int32) (H : bX0_trySlidesFrom_12 F k12 σ l1 l2 l3 = some (r, τ)) : Go x { frames := 3, cells := 0, slots := 0, locals := 81 } tX0_trySlidesFrom g 12 [.ref (ad 17), .int l1, .int l2, .int l3, un_, un_, un_] [] (HH g ad σ ++ ex) 0 0 := by
  unfold bX0_trySlidesFrom_12 at H
  refine g_iload_n (q := 13) (i := 3) dX0_trySlidesFrom_12 rfl rfl rfl ?_
  refine g_bipush (q := 15) (v := 18) dX0_trySlidesFrom_13 rfl (by decide) ?_
  refine g_icmp_ge (q := 18) (r := 106) dX0_trySlidesFrom_15 (by decide) rfl (fun c15 => ?_) (fun c15 => ?_)
  · replace H := (if_pos c15).symm.trans H
    exact g_vret hX dX0_trySlidesFrom_106 rfl (Nat.le_refl _) (Nat.le_refl _) (pvOk H)
  · replace H := (if_neg c15).symm.trans H
    refine g_iload_n (q := 19) (i := 2) dX0_trySlidesFrom_18 rfl rfl rfl ?_
    refine g_iload_n (q := 20) (i := 3) dX0_trySlidesFrom_19 rfl rfl rfl ?_
    refine g_ishr (q := 21) dX0_trySlidesFrom_20 rfl ?_
    refine g_if_eq (q := 24) (r := 106) dX0_trySlidesFrom_21 (by decide) rfl (fun c21 => ?_) (fun c21 => ?_)
    · replace H := (if_pos c21).symm.trans H
      exact g_vret hX dX0_trySlidesFrom_106 rfl (Nat.le_refl _) (Nat.le_refl _) (pvOk H)
    · replace H := (if_neg c21).symm.trans H
      refine g_iload_n (q := 25) (i := 2) dX0_trySlidesFrom_24 rfl rfl rfl ?_
      refine g_iload_n (q := 26) (i := 3) dX0_trySlidesFrom_25 rfl rfl rfl ?_
      refine g_ishr (q := 27) dX0_trySlidesFrom_26 rfl ?_
      refine g_iconst (q := 28) (v := 1) dX0_trySlidesFrom_27 rfl (by decide) ?_
      refine g_iand (q := 29) dX0_trySlidesFrom_28 rfl ?_
      refine g_if_eq (q := 32) (r := 100) dX0_trySlidesFrom_29 (by decide) rfl (fun c29 => ?_) (fun c29 => ?_)
      · replace H := (if_pos c29).symm.trans H
        refine g_iinc (q := 103) (b := l3 + 1) (L' := [.ref (ad 17), .int l1, .int l2, .int (l3 + 1), un_, un_, un_]) dX0_trySlidesFrom_100 rfl rfl rfl (Nat.le_of_ble_eq_true rfl) rfl ?_
        refine g_goto (q := 12) dX0_trySlidesFrom_103 (by decide) ?_
        exact g_weak (L' := [.ref (ad 17), .int l1, .int l2, .int (l3 + 1), un_, un_, un_]) ⟨Or.inr rfl, Or.inr rfl, Or.inr rfl, Or.inr rfl, Or.inl rfl, Or.inl rfl, Or.inl rfl, trivial⟩ (h12 _ _ _ _ H)
      · replace H := (if_neg c29).symm.trans H
        refine g_aload_n (q := 33) (i := 0) dX0_trySlidesFrom_32 rfl rfl rfl ?_
        refine g_get (q := 36) dX0_trySlidesFrom_33 rfl foX0_24 17 hc17 rfl ?_
        refine g_iload_n (q := 37) (i := 3) dX0_trySlidesFrom_36 rfl rfl rfl ?_
        refine g_iload_n (q := 38) (i := 1) dX0_trySlidesFrom_37 rfl rfl rfl ?_
        obtain ⟨r1, σ1, e1, H⟩ := of_bnd H
        refine g_callV (q := 41) (rest := []) dX0_trySlidesFrom_38 rfl cvX0_121 (ctX1_otherEnd e1) rfl rfl ⟨Nat.le_of_ble_eq_true rfl, Nat.le_of_ble_eq_true rfl⟩ ⟨Nat.le_refl _, Nat.le_refl _⟩ (Nat.le_of_ble_eq_true rfl) 1 hc1 rfl (fun r0 M9 hp => ?_)
        obtain ⟨rfl, rfl⟩ := hp
        show Go x _ _ g 41 [.ref (ad 17), .int l1, .int l2, .int l3, un_, un_, un_] [.int r1] (HH g ad σ1 ++ ex) 0 0
        refine g_istore (q := 43) (L' := [.ref (ad 17), .int l1, .int l2, .int l3, .int r1, un_, un_]) dX0_trySlidesFrom_41 rfl (Nat.le_of_ble_eq_true rfl) rfl ?_
        refine g_aload_n (q := 44) (i := 0) dX0_trySlidesFrom_43 rfl rfl rfl ?_
        refine g_iload_n (q := 45) (i := 1) dX0_trySlidesFrom_44 rfl rfl rfl ?_
        obtain ⟨r2, σ2, e2, H⟩ := of_bnd H
        refine g_callV (q := 48) (rest := []) dX0_trySlidesFrom_45 rfl cvX0_108 (ctX0_guardedWithout e2) rfl rfl ⟨Nat.le_of_ble_eq_true rfl, Nat.le_of_ble_eq_true rfl⟩ ⟨Nat.le_refl _, Nat.le_refl _⟩ (Nat.le_of_ble_eq_true rfl) 17 hc17 rfl (fun r0 M9 hp => ?_)
        obtain ⟨rfl, rfl⟩ := hp
        show Go x _ _ g 48 [.ref (ad 17), .int l1, .int l2, .int l3, .int r1, un_, un_] [.int r2] (HH g ad σ2 ++ ex) 0 0
        refine g_iconst (q := 49) (v := 1) dX0_trySlidesFrom_48 rfl (by decide) ?_
        refine g_iload (q := 51) dX0_trySlidesFrom_49 rfl rfl ?_
        refine g_ishl (q := 52) dX0_trySlidesFrom_51 rfl ?_
        refine g_ior (q := 53) dX0_trySlidesFrom_52 rfl ?_
        obtain ⟨v3, n3, H⟩ := of_li H
        refine g_name n3 ?_
        refine g_istore (q := 55) (L' := [.ref (ad 17), .int l1, .int l2, .int l3, .int r1, .int v3, un_]) dX0_trySlidesFrom_53 rfl (Nat.le_of_ble_eq_true rfl) rfl ?_
        refine g_aload_n (q := 56) (i := 0) dX0_trySlidesFrom_55 rfl rfl rfl ?_
        refine g_get (q := 59) dX0_trySlidesFrom_56 rfl foX0_24 17 hc17 rfl ?_
        refine g_aload_n (q := 60) (i := 0) dX0_trySlidesFrom_59 rfl rfl rfl ?_
        refine g_get (q := 63) dX0_trySlidesFrom_60 rfl foX0_88 17 hc17 rfl ?_
        refine g_iload (q := 65) dX0_trySlidesFrom_63 rfl rfl ?_
        refine g_iload_n (q := 66) (i := 1) dX0_trySlidesFrom_65 rfl rfl rfl ?_
        refine g_iconst (q := 67) (v := 1) dX0_trySlidesFrom_66 rfl (by decide) ?_
        refine g_iload_n (q := 68) (i := 3) dX0_trySlidesFrom_67 rfl rfl rfl ?_
        refine g_ishl (q := 69) dX0_trySlidesFrom_68 rfl ?_
        obtain ⟨r4, σ4, e4, H⟩ := of_bnd H
        refine g_callV (q := 72) (rest := []) dX0_trySlidesFrom_69 rfl cvX0_111 (ctX1_lostBehind e4) rfl rfl ⟨Nat.le_of_ble_eq_true rfl, Nat.le_of_ble_eq_true rfl⟩ ⟨Nat.le_refl _, Nat.le_refl _⟩ (Nat.le_of_ble_eq_true rfl) 1 hc1 rfl (fun r0 M9 hp => ?_)
        obtain ⟨rfl, rfl⟩ := hp
        show Go x _ _ g 72 [.ref (ad 17), .int l1, .int l2, .int l3, .int r1, .int v3, un_] [.int r4] (HH g ad σ4 ++ ex) 0 0
        refine g_istore (q := 74) (L' := [.ref (ad 17), .int l1, .int l2, .int l3, .int r1, .int v3, .int r4]) dX0_trySlidesFrom_72 rfl (Nat.le_of_ble_eq_true rfl) rfl ?_
        refine g_aload_n (q := 75) (i := 0) dX0_trySlidesFrom_74 rfl rfl rfl ?_
        refine g_aload_n (q := 76) (i := 0) dX0_trySlidesFrom_75 rfl rfl rfl ?_
        refine g_get (q := 79) dX0_trySlidesFrom_76 rfl foX0_85 17 hc17 rfl ?_
        refine g_iload_n (q := 80) (i := 1) dX0_trySlidesFrom_79 rfl rfl rfl ?_
        obtain ⟨r5, σ5, e5, H⟩ := of_bnd H
        refine g_callS (q := 83) (rest := [.int (σ4.1 13), .ref (ad 17)]) dX0_trySlidesFrom_80 rfl csX0_104 (ctX0_one e5) rfl rfl ⟨Nat.le_of_ble_eq_true rfl, Nat.le_of_ble_eq_true rfl⟩ ⟨Nat.le_refl _, Nat.le_refl _⟩ (Nat.le_of_ble_eq_true rfl) (fun r0 M9 hp => ?_)
        obtain ⟨rfl, rfl⟩ := hp
        show Go x _ _ g 83 [.ref (ad 17), .int l1, .int l2, .int l3, .int r1, .int v3, .int r4] [.int r5, .int (σ4.1 13), .ref (ad 17)] (HH g ad σ5 ++ ex) 0 0
        refine g_isub (q := 84) dX0_trySlidesFrom_83 rfl ?_
        refine g_iload (q := 86) dX0_trySlidesFrom_84 rfl rfl ?_
        obtain ⟨r6, σ6, e6, H⟩ := of_bnd H
        refine g_callS (q := 89) (rest := [.int ((σ4.1 13) - r5), .ref (ad 17)]) dX0_trySlidesFrom_86 rfl csX0_104 (ctX0_one e6) rfl rfl ⟨Nat.le_of_ble_eq_true rfl, Nat.le_of_ble_eq_true rfl⟩ ⟨Nat.le_refl _, Nat.le_refl _⟩ (Nat.le_of_ble_eq_true rfl) (fun r0 M9 hp => ?_)
        obtain ⟨rfl, rfl⟩ := hp
        show Go x _ _ g 89 [.ref (ad 17), .int l1, .int l2, .int l3, .int r1, .int v3, .int r4] [.int r6, .int ((σ4.1 13) - r5), .ref (ad 17)] (HH g ad σ6 ++ ex) 0 0
        refine g_iadd (q := 90) dX0_trySlidesFrom_89 rfl ?_
        refine g_iload (q := 92) dX0_trySlidesFrom_90 rfl rfl ?_
        refine g_iload (q := 94) dX0_trySlidesFrom_92 rfl rfl ?_
        refine g_iconst (q := 95) (v := 2) dX0_trySlidesFrom_94 rfl (by decide) ?_
        refine g_iload_n (q := 96) (i := 1) dX0_trySlidesFrom_95 rfl rfl rfl ?_
        refine g_iload_n (q := 97) (i := 3) dX0_trySlidesFrom_96 rfl rfl rfl ?_
        obtain ⟨r7, σ7, e7, H⟩ := of_bnd H
        refine g_callV (q := 100) (rest := []) dX0_trySlidesFrom_97 rfl cvX0_60 (ctX0_meet e7) rfl rfl ⟨Nat.le_of_ble_eq_true rfl, Nat.le_of_ble_eq_true rfl⟩ ⟨Nat.le_refl _, Nat.le_refl _⟩ (Nat.le_of_ble_eq_true rfl) 17 hc17 rfl (fun r0 M9 hp => ?_)
        obtain ⟨rfl, rfl⟩ := hp
        show Go x _ _ g 100 [.ref (ad 17), .int l1, .int l2, .int l3, .int r1, .int v3, .int r4] [] (HH g ad σ7 ++ ex) 0 0
        refine g_iinc (q := 103) (b := l3 + 1) (L' := [.ref (ad 17), .int l1, .int l2, .int (l3 + 1), .int r1, .int v3, .int r4]) dX0_trySlidesFrom_100 rfl rfl rfl (Nat.le_of_ble_eq_true rfl) rfl ?_
        refine g_goto (q := 12) dX0_trySlidesFrom_103 (by decide) ?_
        exact g_weak (L' := [.ref (ad 17), .int l1, .int l2, .int (l3 + 1), un_, un_, un_]) ⟨Or.inr rfl, Or.inr rfl, Or.inr rfl, Or.inr rfl, Or.inl rfl, Or.inl rfl, Or.inl rfl, trivial⟩ (h12 _ _ _ _ H)
def fX0_trySlidesFrom_12 (F : Nat)  : Nat → Sg → Int32 → Int32 → Int32 → Rs
  | 0 => fun _ _ _ _ => none
  | n + 1 => fun σ l1 l2 l3 => bX0_trySlidesFrom_12 F  (fX0_trySlidesFrom_12 F  n) σ l1 l2 l3
theorem wfX0_trySlidesFrom_12 {x : FX} {g : GX} {ad : Nat → Nat} {ex M0 : va_W} {r : Int32} {τ : Sg} {F : Nat} (hX : RX x g M0 (Pv_ (HH g ad τ ++ ex)) 0 0)   : ∀ (n : Nat) (σ : Sg) (l1 : Int32) (l2 : Int32) (l3 : Int32), fX0_trySlidesFrom_12 F  n σ l1 l2 l3 = some (r, τ) → Go x { frames := 3, cells := 0, slots := 0, locals := 81 } tX0_trySlidesFrom g 12 [.ref (ad 17), .int l1, .int l2, .int l3, un_, un_, un_] [] (HH g ad σ ++ ex) 0 0
  | 0, _, _, _, _, H => nomatch (show (none : Rs) = some _ from H)
  | n + 1, σ, l1, l2, l3, H => wbX0_trySlidesFrom_12 (F := F) hX  (fun σ2 z1 z2 z3 H2 => wfX0_trySlidesFrom_12 (F := F) hX  n σ2 z1 z2 z3 H2) σ l1 l2 l3 H
def fX0_trySlidesFrom (F : Nat) (σ : Sg) (l1 : Int32) : Rs := if ib l1 12 then (li_ (σ.2.1 4 l1.toNatClampNeg) fun v1 => fX0_trySlidesFrom_12 F F σ (l1) (v1) ((0 : Int32))) else none
set_option maxRecDepth 100000 in
set_option maxHeartbeats 4000000 in
theorem ctX0_trySlidesFrom {l : Launch} {g : GX} {ad : Nat → Nat} {ex : va_W} {r : Int32} {τ σ : Sg} {F : Nat} {l1 : Int32} (H : fX0_trySlidesFrom F σ l1 = some (r, τ)) : Ct l g yX0_trySlidesFrom tX0_trySlidesFrom 3 81 0 0 [.ref (ad 17), .int l1] (HH g ad σ ++ ex) (Pv_ (HH g ad τ ++ ex)) := by
  refine Ct.of (L := [.ref (ad 17), .int l1, un_, un_, un_, un_, un_]) (by decide +kernel) rfl rfl rfl (Nat.le_of_ble_eq_true rfl) rfl (fun x _ hX => ?_)
  unfold fX0_trySlidesFrom at H
  refine g_aload_n (q := 1) (i := 0) dX0_trySlidesFrom_0 rfl rfl rfl ?_
  refine g_get (q := 4) dX0_trySlidesFrom_1 rfl foX0_24 17 hc17 rfl ?_
  refine g_get (q := 7) dX0_trySlidesFrom_4 rfl foX0_118 1 hc1 rfl ?_
  refine g_iload_n (q := 8) (i := 1) dX0_trySlidesFrom_7 rfl rfl rfl ?_
  obtain ⟨b8, H⟩ := of_chk H
  refine g_iald (q := 9) dX0_trySlidesFrom_8 rfl 4 hc4 b8 ?_
  obtain ⟨v1, n1, H⟩ := of_li H
  refine g_name n1 ?_
  refine g_istore_n (q := 10) (L' := [.ref (ad 17), .int l1, .int v1, un_, un_, un_, un_]) (i := 2) dX0_trySlidesFrom_9 rfl rfl (Nat.le_of_ble_eq_true rfl) rfl ?_
  refine g_iconst (q := 11) (v := 0) dX0_trySlidesFrom_10 rfl (by decide) ?_
  refine g_istore_n (q := 12) (L' := [.ref (ad 17), .int l1, .int v1, .int ((0 : Int32)), un_, un_, un_]) (i := 3) dX0_trySlidesFrom_11 rfl rfl (Nat.le_of_ble_eq_true rfl) rfl ?_
  exact g_weak (L' := [.ref (ad 17), .int l1, .int v1, .int ((0 : Int32)), un_, un_, un_]) ⟨Or.inr rfl, Or.inr rfl, Or.inr rfl, Or.inr rfl, Or.inl rfl, Or.inl rfl, Or.inl rfl, trivial⟩ (wfX0_trySlidesFrom_12 (F := F) hX  F _ _ _ _ H)
def bX0_trySlides_2 (F : Nat) (k2 : Sg → Int32 → Rs) (σ : Sg) (l1 : Int32) : Rs := if (σ.1 0) ≤ l1 then (some (0, σ)) else (if (((σ.1 16) >>> (l1 &&& 31)) &&& (1 : Int32)) = (0 : Int32) then (k2 σ (l1 + 1)) else ((fX0_trySlidesFrom F σ l1).bind fun q1 => (fun (r1 : Int32) (σ1 : Sg) => k2 σ1 (l1 + 1)) q1.1 q1.2))
set_option maxRecDepth 100000 in
set_option maxHeartbeats 4000000 in
theorem wbX0_trySlides_2 {x : FX} {g : GX} {ad : Nat → Nat} {ex M0 : va_W} {r : Int32} {τ : Sg} {F : Nat} (hX : RX x g M0 (Pv_ (HH g ad τ ++ ex)) 0 0) {k2 : Sg → Int32 → Rs} (h2 : ∀ (σ : Sg) (l1 : Int32), k2 σ l1 = some (r, τ) → Go x { frames := 4, cells := 0, slots := 0, locals := 107 } tX0_trySlides g 2 [.ref (ad 17), .int l1] [] (HH g ad σ ++ ex) 0 0) (σ : Sg) (l1 : Int32) (H : bX0_trySlides_2 F k2 σ l1 = some (r, τ)) : Go x { frames := 4, cells := 0, slots := 0, locals := 107 } tX0_trySlides g 2 [.ref (ad 17), .int l1] [] (HH g ad σ ++ ex) 0 0 := by
  unfold bX0_trySlides_2 at H
  refine g_iload_n (q := 3) (i := 1) dX0_trySlides_2 rfl rfl rfl ?_
  refine g_aload_n (q := 4) (i := 0) dX0_trySlides_3 rfl rfl rfl ?_
  refine g_get (q := 7) dX0_trySlides_4 rfl foX0_24 17 hc17 rfl ?_
  refine g_get (q := 10) dX0_trySlides_7 rfl foX0_97 1 hc1 rfl ?_
  refine g_icmp_ge (q := 13) (r := 35) dX0_trySlides_10 (by decide) rfl (fun c10 => ?_) (fun c10 => ?_)
  · replace H := (if_pos c10).symm.trans H
    exact g_vret hX dX0_trySlides_35 rfl (Nat.le_refl _) (Nat.le_refl _) (pvOk H)
  · replace H := (if_neg c10).symm.trans H
    refine g_aload_n (q := 14) (i := 0) dX0_trySlides_13 rfl rfl rfl ?_
    refine g_get (q := 17) dX0_trySlides_14 rfl foX0_91 17 hc17 rfl ?_
    refine g_iload_n (q := 18) (i := 1) dX0_trySlides_17 rfl rfl rfl ?_
    refine g_ishr (q := 19) dX0_trySlides_18 rfl ?_
    refine g_iconst (q := 20) (v := 1) dX0_trySlides_19 rfl (by decide) ?_
    refine g_iand (q := 21) dX0_trySlides_20 rfl ?_
    refine g_if_eq (q := 24) (r := 29) dX0_trySlides_21 (by decide) rfl (fun c21 => ?_) (fun c21 => ?_)
    · replace H := (if_pos c21).symm.trans H
      refine g_iinc (q := 32) (b := l1 + 1) (L' := [.ref (ad 17), .int (l1 + 1)]) dX0_trySlides_29 rfl rfl rfl (Nat.le_of_ble_eq_true rfl) rfl ?_
      refine g_goto (q := 2) dX0_trySlides_32 (by decide) ?_
      exact g_weak (L' := [.ref (ad 17), .int (l1 + 1)]) ⟨Or.inr rfl, Or.inr rfl, trivial⟩ (h2 _ _ H)
    · replace H := (if_neg c21).symm.trans H
      refine g_aload_n (q := 25) (i := 0) dX0_trySlides_24 rfl rfl rfl ?_
      refine g_iload_n (q := 26) (i := 1) dX0_trySlides_25 rfl rfl rfl ?_
      obtain ⟨r1, σ1, e1, H⟩ := of_bnd H
      refine g_callV (q := 29) (rest := []) dX0_trySlides_26 rfl cvX0_115 (ctX0_trySlidesFrom e1) rfl rfl ⟨Nat.le_of_ble_eq_true rfl, Nat.le_of_ble_eq_true rfl⟩ ⟨Nat.le_refl _, Nat.le_refl _⟩ (Nat.le_of_ble_eq_true rfl) 17 hc17 rfl (fun r0 M9 hp => ?_)
      obtain ⟨rfl, rfl⟩ := hp
      show Go x _ _ g 29 [.ref (ad 17), .int l1] [] (HH g ad σ1 ++ ex) 0 0
      refine g_iinc (q := 32) (b := l1 + 1) (L' := [.ref (ad 17), .int (l1 + 1)]) dX0_trySlides_29 rfl rfl rfl (Nat.le_of_ble_eq_true rfl) rfl ?_
      refine g_goto (q := 2) dX0_trySlides_32 (by decide) ?_
      exact g_weak (L' := [.ref (ad 17), .int (l1 + 1)]) ⟨Or.inr rfl, Or.inr rfl, trivial⟩ (h2 _ _ H)
def fX0_trySlides_2 (F : Nat)  : Nat → Sg → Int32 → Rs
  | 0 => fun _ _ => none
  | n + 1 => fun σ l1 => bX0_trySlides_2 F  (fX0_trySlides_2 F  n) σ l1
theorem wfX0_trySlides_2 {x : FX} {g : GX} {ad : Nat → Nat} {ex M0 : va_W} {r : Int32} {τ : Sg} {F : Nat} (hX : RX x g M0 (Pv_ (HH g ad τ ++ ex)) 0 0)   : ∀ (n : Nat) (σ : Sg) (l1 : Int32), fX0_trySlides_2 F  n σ l1 = some (r, τ) → Go x { frames := 4, cells := 0, slots := 0, locals := 107 } tX0_trySlides g 2 [.ref (ad 17), .int l1] [] (HH g ad σ ++ ex) 0 0
  | 0, _, _, H => nomatch (show (none : Rs) = some _ from H)
  | n + 1, σ, l1, H => wbX0_trySlides_2 (F := F) hX  (fun σ2 z1 H2 => wfX0_trySlides_2 (F := F) hX  n σ2 z1 H2) σ l1 H
def fX0_trySlides (F : Nat) (σ : Sg)  : Rs := fX0_trySlides_2 F F σ ((0 : Int32))
set_option maxRecDepth 100000 in
set_option maxHeartbeats 4000000 in
theorem ctX0_trySlides {l : Launch} {g : GX} {ad : Nat → Nat} {ex : va_W} {r : Int32} {τ σ : Sg} {F : Nat}  (H : fX0_trySlides F σ  = some (r, τ)) : Ct l g yX0_trySlides tX0_trySlides 4 107 0 0 [.ref (ad 17)] (HH g ad σ ++ ex) (Pv_ (HH g ad τ ++ ex)) := by
  refine Ct.of (L := [.ref (ad 17), un_]) (by decide +kernel) rfl rfl rfl (Nat.le_of_ble_eq_true rfl) rfl (fun x _ hX => ?_)
  unfold fX0_trySlides at H
  refine g_iconst (q := 1) (v := 0) dX0_trySlides_0 rfl (by decide) ?_
  refine g_istore_n (q := 2) (L' := [.ref (ad 17), .int ((0 : Int32))]) (i := 1) dX0_trySlides_1 rfl rfl (Nat.le_of_ble_eq_true rfl) rfl ?_
  exact g_weak (L' := [.ref (ad 17), .int ((0 : Int32))]) ⟨Or.inr rfl, Or.inr rfl, trivial⟩ (wfX0_trySlides_2 (F := F) hX  F _ _ H)
def bJ7_fill_53178_18_5 (F : Nat) (k5 : Sg → Int32 → Int32 → Int32 → Rs) (σ : Sg) (l1 : Int32) (l2 : Int32) (l3 : Int32) : Rs := if l3 ≤ l2 then (some (0, σ)) else (if ib l2 2048 then (ls_ (sa σ 18 l2.toNatClampNeg l1) fun σ1 => k5 σ1 (l1) (l2 + 1) (l3)) else none)
set_option maxRecDepth 100000 in
set_option maxHeartbeats 4000000 in
theorem wbJ7_fill_53178_18_5 {x : FX} {g : GX} {ad : Nat → Nat} {ex M0 : va_W} {r : Int32} {τ : Sg} {F : Nat} (hX : RX x g M0 (Pv_ (HH g ad τ ++ ex)) 0 0) {k5 : Sg → Int32 → Int32 → Int32 → Rs} (h5 : ∀ (σ : Sg) (l1 : Int32) (l2 : Int32) (l3 : Int32), k5 σ l1 l2 l3 = some (r, τ) → Go x { frames := 0, cells := 0, slots := 0, locals := 0 } tJ7_fill_53178 g 5 [.ref (ad 18), .int l1, .int l2, .int l3] [] (HH g ad σ ++ ex) 0 0) (σ : Sg) (l1 : Int32) (l2 : Int32) (l3 : Int32) (H : bJ7_fill_53178_18_5 F k5 σ l1 l2 l3 = some (r, τ)) : Go x { frames := 0, cells := 0, slots := 0, locals := 0 } tJ7_fill_53178 g 5 [.ref (ad 18), .int l1, .int l2, .int l3] [] (HH g ad σ ++ ex) 0 0 := by
  unfold bJ7_fill_53178_18_5 at H
  refine g_iload_n (q := 6) (i := 2) dJ7_fill_53178_5 rfl rfl rfl ?_
  refine g_iload_n (q := 7) (i := 3) dJ7_fill_53178_6 rfl rfl rfl ?_
  refine g_icmp_ge (q := 10) (r := 20) dJ7_fill_53178_7 (by decide) rfl (fun c7 => ?_) (fun c7 => ?_)
  · replace H := (if_pos c7).symm.trans H
    exact g_vret hX dJ7_fill_53178_20 rfl (Nat.le_refl _) (Nat.le_refl _) (pvOk H)
  · replace H := (if_neg c7).symm.trans H
    refine g_aload_n (q := 11) (i := 0) dJ7_fill_53178_10 rfl rfl rfl ?_
    refine g_iload_n (q := 12) (i := 2) dJ7_fill_53178_11 rfl rfl rfl ?_
    refine g_iload_n (q := 13) (i := 1) dJ7_fill_53178_12 rfl rfl rfl ?_
    obtain ⟨b13, H⟩ := of_chk H
    obtain ⟨σ1, n1, H⟩ := of_ls H
    refine g_iast (q := 14) dJ7_fill_53178_13 rfl 18 hc18 b13 (ha18e n1) ?_
    refine g_iinc (q := 17) (b := l2 + 1) (L' := [.ref (ad 18), .int l1, .int (l2 + 1), .int l3]) dJ7_fill_53178_14 rfl rfl rfl (Nat.le_of_ble_eq_true rfl) rfl ?_
    refine g_goto (q := 5) dJ7_fill_53178_17 (by decide) ?_
    exact g_weak (L' := [.ref (ad 18), .int l1, .int (l2 + 1), .int l3]) ⟨Or.inr rfl, Or.inr rfl, Or.inr rfl, Or.inr rfl, trivial⟩ (h5 _ _ _ _ H)
def fJ7_fill_53178_18_5 (F : Nat)  : Nat → Sg → Int32 → Int32 → Int32 → Rs
  | 0 => fun _ _ _ _ => none
  | n + 1 => fun σ l1 l2 l3 => bJ7_fill_53178_18_5 F  (fJ7_fill_53178_18_5 F  n) σ l1 l2 l3
theorem wfJ7_fill_53178_18_5 {x : FX} {g : GX} {ad : Nat → Nat} {ex M0 : va_W} {r : Int32} {τ : Sg} {F : Nat} (hX : RX x g M0 (Pv_ (HH g ad τ ++ ex)) 0 0)   : ∀ (n : Nat) (σ : Sg) (l1 : Int32) (l2 : Int32) (l3 : Int32), fJ7_fill_53178_18_5 F  n σ l1 l2 l3 = some (r, τ) → Go x { frames := 0, cells := 0, slots := 0, locals := 0 } tJ7_fill_53178 g 5 [.ref (ad 18), .int l1, .int l2, .int l3] [] (HH g ad σ ++ ex) 0 0
  | 0, _, _, _, _, H => nomatch (show (none : Rs) = some _ from H)
  | n + 1, σ, l1, l2, l3, H => wbJ7_fill_53178_18_5 (F := F) hX  (fun σ2 z1 z2 z3 H2 => wfJ7_fill_53178_18_5 (F := F) hX  n σ2 z1 z2 z3 H2) σ l1 l2 l3 H
def fJ7_fill_53178_18 (F : Nat) (σ : Sg) (l1 : Int32) : Rs := fJ7_fill_53178_18_5 F F σ (l1) ((0 : Int32)) ((2048 : Int32))
set_option maxRecDepth 100000 in
set_option maxHeartbeats 4000000 in
theorem ctJ7_fill_53178_18 {l : Launch} {g : GX} {ad : Nat → Nat} {ex : va_W} {r : Int32} {τ σ : Sg} {F : Nat} {l1 : Int32} (H : fJ7_fill_53178_18 F σ l1 = some (r, τ)) : Ct l g yJ7_fill_53178 tJ7_fill_53178 0 0 0 0 [.ref (ad 18), .int l1] (HH g ad σ ++ ex) (Pv_ (HH g ad τ ++ ex)) := by
  refine Ct.of (L := [.ref (ad 18), .int l1, un_, un_]) (by decide +kernel) rfl rfl rfl (Nat.le_of_ble_eq_true rfl) rfl (fun x _ hX => ?_)
  unfold fJ7_fill_53178_18 at H
  refine g_iconst (q := 1) (v := 0) dJ7_fill_53178_0 rfl (by decide) ?_
  refine g_istore_n (q := 2) (L' := [.ref (ad 18), .int l1, .int ((0 : Int32)), un_]) (i := 2) dJ7_fill_53178_1 rfl rfl (Nat.le_of_ble_eq_true rfl) rfl ?_
  refine g_aload_n (q := 3) (i := 0) dJ7_fill_53178_2 rfl rfl rfl ?_
  refine g_alen (q := 4) (v := 2048) dJ7_fill_53178_3 rfl 18 hc18 rfl ?_
  refine g_istore_n (q := 5) (L' := [.ref (ad 18), .int l1, .int ((0 : Int32)), .int ((2048 : Int32))]) (i := 3) dJ7_fill_53178_4 rfl rfl (Nat.le_of_ble_eq_true rfl) rfl ?_
  exact g_weak (L' := [.ref (ad 18), .int l1, .int ((0 : Int32)), .int ((2048 : Int32))]) ⟨Or.inr rfl, Or.inr rfl, Or.inr rfl, Or.inr rfl, trivial⟩ (wfJ7_fill_53178_18_5 (F := F) hX  F _ _ _ _ H)
def bX0_finds_102 (F : Nat)  (σ : Sg)  : Rs := if (σ.1 9) = (-1 : Int32) then (some ((0 : Int32), σ)) else (some ((1 : Int32), σ))
set_option maxRecDepth 100000 in
set_option maxHeartbeats 4000000 in
theorem wbX0_finds_102 {x : FX} {g : GX} {ad : Nat → Nat} {ex M0 : va_W} {r : Int32} {τ : Sg} {F : Nat} (hX : RX x g M0 (Pi_ r (HH g ad τ ++ ex)) 0 0)   (σ : Sg)  (H : bX0_finds_102 F  σ  = some (r, τ)) : Go x { frames := 5, cells := 0, slots := 0, locals := 128 } tX0_finds g 102 [.ref (ad 17), un_, un_, un_] [] (HH g ad σ ++ ex) 0 0 := by
  unfold bX0_finds_102 at H
  refine g_aload_n (q := 103) (i := 0) dX0_finds_102 rfl rfl rfl ?_
  refine g_get (q := 106) dX0_finds_103 rfl foX0_38 17 hc17 rfl ?_
  refine g_iconst (q := 107) (v := -1) dX0_finds_106 rfl (by decide) ?_
  refine g_icmp_eq (q := 110) (r := 114) dX0_finds_107 (by decide) rfl (fun c107 => ?_) (fun c107 => ?_)
  · replace H := (if_pos c107).symm.trans H
    refine g_iconst (q := 115) (v := 0) dX0_finds_114 rfl (by decide) ?_
    exact g_iret hX dX0_finds_115 rfl rfl (Nat.le_refl _) (Nat.le_refl _) (piOk H)
  · replace H := (if_neg c107).symm.trans H
    refine g_iconst (q := 111) (v := 1) dX0_finds_110 rfl (by decide) ?_
    refine g_goto (q := 115) dX0_finds_111 (by decide) ?_
    exact g_iret hX dX0_finds_115 rfl rfl (Nat.le_refl _) (Nat.le_refl _) (piOk H)
def bX0_finds_56 (F : Nat) (k56 : Sg → Int32 → Rs) (σ : Sg) (l3 : Int32) : Rs := if (σ.1 8) ≤ l3 then (bX0_finds_102 F σ) else (if (1604 : Int32) ≤ l3 then (bX0_finds_102 F σ) else (if (σ.1 9) = (-1 : Int32) then ((fX0_takeUp F σ l3).bind fun q1 => (fun (r1 : Int32) (σ1 : Sg) => (fX0_tryPuts F σ1).bind fun q2 => (fun (r2 : Int32) (σ2 : Sg) => (fX0_tryLifts F σ2).bind fun q3 => (fun (r3 : Int32) (σ3 : Sg) => (fX0_trySlides F σ3).bind fun q4 => (fun (r4 : Int32) (σ4 : Sg) => k56 σ4 (l3 + 1)) q4.1 q4.2) q3.1 q3.2) q2.1 q2.2) q1.1 q1.2) else (bX0_finds_102 F σ)))
set_option maxRecDepth 100000 in
set_option maxHeartbeats 4000000 in
theorem wbX0_finds_56 {x : FX} {g : GX} {ad : Nat → Nat} {ex M0 : va_W} {r : Int32} {τ : Sg} {F : Nat} (hX : RX x g M0 (Pi_ r (HH g ad τ ++ ex)) 0 0) {k56 : Sg → Int32 → Rs} (h56 : ∀ (σ : Sg) (l3 : Int32), k56 σ l3 = some (r, τ) → Go x { frames := 5, cells := 0, slots := 0, locals := 128 } tX0_finds g 56 [.ref (ad 17), un_, un_, .int l3] [] (HH g ad σ ++ ex) 0 0) (σ : Sg) (l3 : Int32) (H : bX0_finds_56 F k56 σ l3 = some (r, τ)) : Go x { frames := 5, cells := 0, slots := 0, locals := 128 } tX0_finds g 56 [.ref (ad 17), un_, un_, .int l3] [] (HH g ad σ ++ ex) 0 0 := by
  unfold bX0_finds_56 at H
  refine g_iload_n (q := 57) (i := 3) dX0_finds_56 rfl rfl rfl ?_
  refine g_aload_n (q := 58) (i := 0) dX0_finds_57 rfl rfl rfl ?_
  refine g_get (q := 61) dX0_finds_58 rfl foX0_35 17 hc17 rfl ?_
  refine g_icmp_ge (q := 64) (r := 102) dX0_finds_61 (by decide) rfl (fun c61 => ?_) (fun c61 => ?_)
  · replace H := (if_pos c61).symm.trans H
    exact g_weak (L' := [.ref (ad 17), un_, un_, un_]) ⟨Or.inr rfl, Or.inl rfl, Or.inl rfl, Or.inl rfl, trivial⟩ (wbX0_finds_102 (F := F) hX  _  H)
  · replace H := (if_neg c61).symm.trans H
    refine g_iload_n (q := 65) (i := 3) dX0_finds_64 rfl rfl rfl ?_
    refine g_sipush (q := 68) (v := 1604) dX0_finds_65 rfl (by decide) ?_
    refine g_icmp_ge (q := 71) (r := 102) dX0_finds_68 (by decide) rfl (fun c68 => ?_) (fun c68 => ?_)
    · replace H := (if_pos c68).symm.trans H
      exact g_weak (L' := [.ref (ad 17), un_, un_, un_]) ⟨Or.inr rfl, Or.inl rfl, Or.inl rfl, Or.inl rfl, trivial⟩ (wbX0_finds_102 (F := F) hX  _  H)
    · replace H := (if_neg c68).symm.trans H
      refine g_aload_n (q := 72) (i := 0) dX0_finds_71 rfl rfl rfl ?_
      refine g_get (q := 75) dX0_finds_72 rfl foX0_38 17 hc17 rfl ?_
      refine g_iconst (q := 76) (v := -1) dX0_finds_75 rfl (by decide) ?_
      refine g_icmp_ne (q := 79) (r := 102) dX0_finds_76 (by decide) rfl (fun c76 => ?_) (fun c76 => ?_)
      · replace H := (if_neg c76).symm.trans H
        exact g_weak (L' := [.ref (ad 17), un_, un_, un_]) ⟨Or.inr rfl, Or.inl rfl, Or.inl rfl, Or.inl rfl, trivial⟩ (wbX0_finds_102 (F := F) hX  _  H)
      · replace H := (if_pos c76).symm.trans H
        refine g_aload_n (q := 80) (i := 0) dX0_finds_79 rfl rfl rfl ?_
        refine g_iload_n (q := 81) (i := 3) dX0_finds_80 rfl rfl rfl ?_
        obtain ⟨r1, σ1, e1, H⟩ := of_bnd H
        refine g_callV (q := 84) (rest := []) dX0_finds_81 rfl cvX0_64 (ctX0_takeUp e1) rfl rfl ⟨Nat.le_of_ble_eq_true rfl, Nat.le_of_ble_eq_true rfl⟩ ⟨Nat.le_refl _, Nat.le_refl _⟩ (Nat.le_of_ble_eq_true rfl) 17 hc17 rfl (fun r0 M9 hp => ?_)
        obtain ⟨rfl, rfl⟩ := hp
        show Go x _ _ g 84 [.ref (ad 17), un_, un_, .int l3] [] (HH g ad σ1 ++ ex) 0 0
        refine g_aload_n (q := 85) (i := 0) dX0_finds_84 rfl rfl rfl ?_
        obtain ⟨r2, σ2, e2, H⟩ := of_bnd H
        refine g_callV (q := 88) (rest := []) dX0_finds_85 rfl cvX0_68 (ctX0_tryPuts e2) rfl rfl ⟨Nat.le_of_ble_eq_true rfl, Nat.le_of_ble_eq_true rfl⟩ ⟨Nat.le_refl _, Nat.le_refl _⟩ (Nat.le_of_ble_eq_true rfl) 17 hc17 rfl (fun r0 M9 hp => ?_)
        obtain ⟨rfl, rfl⟩ := hp
        show Go x _ _ g 88 [.ref (ad 17), un_, un_, .int l3] [] (HH g ad σ2 ++ ex) 0 0
        refine g_aload_n (q := 89) (i := 0) dX0_finds_88 rfl rfl rfl ?_
        obtain ⟨r3, σ3, e3, H⟩ := of_bnd H
        refine g_callV (q := 92) (rest := []) dX0_finds_89 rfl cvX0_71 (ctX0_tryLifts e3) rfl rfl ⟨Nat.le_of_ble_eq_true rfl, Nat.le_of_ble_eq_true rfl⟩ ⟨Nat.le_refl _, Nat.le_refl _⟩ (Nat.le_of_ble_eq_true rfl) 17 hc17 rfl (fun r0 M9 hp => ?_)
        obtain ⟨rfl, rfl⟩ := hp
        show Go x _ _ g 92 [.ref (ad 17), un_, un_, .int l3] [] (HH g ad σ3 ++ ex) 0 0
        refine g_aload_n (q := 93) (i := 0) dX0_finds_92 rfl rfl rfl ?_
        obtain ⟨r4, σ4, e4, H⟩ := of_bnd H
        refine g_callV (q := 96) (rest := []) dX0_finds_93 rfl cvX0_74 (ctX0_trySlides e4) rfl rfl ⟨Nat.le_of_ble_eq_true rfl, Nat.le_of_ble_eq_true rfl⟩ ⟨Nat.le_refl _, Nat.le_refl _⟩ (Nat.le_of_ble_eq_true rfl) 17 hc17 rfl (fun r0 M9 hp => ?_)
        obtain ⟨rfl, rfl⟩ := hp
        show Go x _ _ g 96 [.ref (ad 17), un_, un_, .int l3] [] (HH g ad σ4 ++ ex) 0 0
        refine g_iinc (q := 99) (b := l3 + 1) (L' := [.ref (ad 17), un_, un_, .int (l3 + 1)]) dX0_finds_96 rfl rfl rfl (Nat.le_of_ble_eq_true rfl) rfl ?_
        refine g_goto (q := 56) dX0_finds_99 (by decide) ?_
        exact g_weak (L' := [.ref (ad 17), un_, un_, .int (l3 + 1)]) ⟨Or.inr rfl, Or.inl rfl, Or.inl rfl, Or.inr rfl, trivial⟩ (h56 _ _ H)
def fX0_finds_56 (F : Nat)  : Nat → Sg → Int32 → Rs
  | 0 => fun _ _ => none
  | n + 1 => fun σ l3 => bX0_finds_56 F  (fX0_finds_56 F  n) σ l3
theorem wfX0_finds_56 {x : FX} {g : GX} {ad : Nat → Nat} {ex M0 : va_W} {r : Int32} {τ : Sg} {F : Nat} (hX : RX x g M0 (Pi_ r (HH g ad τ ++ ex)) 0 0)   : ∀ (n : Nat) (σ : Sg) (l3 : Int32), fX0_finds_56 F  n σ l3 = some (r, τ) → Go x { frames := 5, cells := 0, slots := 0, locals := 128 } tX0_finds g 56 [.ref (ad 17), un_, un_, .int l3] [] (HH g ad σ ++ ex) 0 0
  | 0, _, _, H => nomatch (show (none : Rs) = some _ from H)
  | n + 1, σ, l3, H => wbX0_finds_56 (F := F) hX  (fun σ2 z3 H2 => wfX0_finds_56 (F := F) hX  n σ2 z3 H2) σ l3 H
def fX0_finds (F : Nat) (σ : Sg) (l1 : Int32) (l2 : Int32) : Rs := ls_ (sv σ 10 l1) fun σ1 => ls_ (sv σ1 11 l2) fun σ2 => ls_ (sv σ2 8 (0 : Int32)) fun σ3 => ls_ (sv σ3 9 (-1 : Int32)) fun σ4 => (fJ7_fill_53178_18 F σ4 ((0 : Int32))).bind fun q5 => (fun (r5 : Int32) (σ5 : Sg) => ls_ (sv σ5 12 (-1 : Int32)) fun σ6 => ls_ (sv σ6 15 (0 : Int32)) fun σ7 => (fX1_allCaves F σ7).bind fun q8 => (fun (r8 : Int32) (σ8 : Sg) => (fX0_meet F σ8 ((0 : Int32)) r8 ((0 : Int32)) ((0 : Int32)) ((0 : Int32)) ((-1 : Int32))).bind fun q9 => (fun (r9 : Int32) (σ9 : Sg) => fX0_finds_56 F F σ9 ((0 : Int32))) q9.1 q9.2) q8.1 q8.2) q5.1 q5.2
set_option maxRecDepth 100000 in
set_option maxHeartbeats 4000000 in
theorem ctX0_finds {l : Launch} {g : GX} {ad : Nat → Nat} {ex : va_W} {r : Int32} {τ σ : Sg} {F : Nat} {l1 : Int32} {l2 : Int32} (H : fX0_finds F σ l1 l2 = some (r, τ)) : Ct l g yX0_finds tX0_finds 5 128 0 0 [.ref (ad 17), .int l1, .int l2] (HH g ad σ ++ ex) (Pi_ r (HH g ad τ ++ ex)) := by
  refine Ct.of (L := [.ref (ad 17), .int l1, .int l2, un_]) (by decide +kernel) rfl rfl rfl (Nat.le_of_ble_eq_true rfl) rfl (fun x _ hX => ?_)
  unfold fX0_finds at H
  refine g_aload_n (q := 1) (i := 0) dX0_finds_0 rfl rfl rfl ?_
  refine g_iload_n (q := 2) (i := 1) dX0_finds_1 rfl rfl rfl ?_
  obtain ⟨σ1, n1, H⟩ := of_ls H
  refine g_put (q := 5) dX0_finds_2 rfl (fpX0_28 _) 17 hc17 rfl rfl (Nat.le_of_ble_eq_true rfl) (hs10e n1) ?_
  refine g_aload_n (q := 6) (i := 0) dX0_finds_5 rfl rfl rfl ?_
  refine g_iload_n (q := 7) (i := 2) dX0_finds_6 rfl rfl rfl ?_
  obtain ⟨σ2, n2, H⟩ := of_ls H
  refine g_put (q := 10) dX0_finds_7 rfl (fpX0_32 _) 17 hc17 rfl rfl (Nat.le_of_ble_eq_true rfl) (hs11e n2) ?_
  refine g_aload_n (q := 11) (i := 0) dX0_finds_10 rfl rfl rfl ?_
  refine g_iconst (q := 12) (v := 0) dX0_finds_11 rfl (by decide) ?_
  obtain ⟨σ3, n3, H⟩ := of_ls H
  refine g_put (q := 15) dX0_finds_12 rfl (fpX0_35 _) 17 hc17 rfl rfl (Nat.le_of_ble_eq_true rfl) (hs8e n3) ?_
  refine g_aload_n (q := 16) (i := 0) dX0_finds_15 rfl rfl rfl ?_
  refine g_iconst (q := 17) (v := -1) dX0_finds_16 rfl (by decide) ?_
  obtain ⟨σ4, n4, H⟩ := of_ls H
  refine g_put (q := 20) dX0_finds_17 rfl (fpX0_38 _) 17 hc17 rfl rfl (Nat.le_of_ble_eq_true rfl) (hs9e n4) ?_
  refine g_aload_n (q := 21) (i := 0) dX0_finds_20 rfl rfl rfl ?_
  refine g_get (q := 24) dX0_finds_21 rfl foX0_11 17 hc17 rfl ?_
  refine g_iconst (q := 25) (v := 0) dX0_finds_24 rfl (by decide) ?_
  obtain ⟨r5, σ5, e5, H⟩ := of_bnd H
  refine g_callS (q := 28) (rest := []) dX0_finds_25 rfl csX0_41 (ctJ7_fill_53178_18 e5) rfl rfl ⟨Nat.le_of_ble_eq_true rfl, Nat.le_of_ble_eq_true rfl⟩ ⟨Nat.le_refl _, Nat.le_refl _⟩ (Nat.le_of_ble_eq_true rfl) (fun r0 M9 hp => ?_)
  obtain ⟨rfl, rfl⟩ := hp
  show Go x _ _ g 28 [.ref (ad 17), .int l1, .int l2, un_] [] (HH g ad σ5 ++ ex) 0 0
  refine g_aload_n (q := 29) (i := 0) dX0_finds_28 rfl rfl rfl ?_
  refine g_iconst (q := 30) (v := -1) dX0_finds_29 rfl (by decide) ?_
  obtain ⟨σ6, n6, H⟩ := of_ls H
  refine g_put (q := 33) dX0_finds_30 rfl (fpX0_47 _) 17 hc17 rfl rfl (Nat.le_of_ble_eq_true rfl) (hs12e n6) ?_
  refine g_aload_n (q := 34) (i := 0) dX0_finds_33 rfl rfl rfl ?_
  refine g_iconst (q := 35) (v := 0) dX0_finds_34 rfl (by decide) ?_
  obtain ⟨σ7, n7, H⟩ := of_ls H
  refine g_put (q := 38) dX0_finds_35 rfl (fpX0_50 _) 17 hc17 rfl rfl (Nat.le_of_ble_eq_true rfl) (hs15e n7) ?_
  refine g_aload_n (q := 39) (i := 0) dX0_finds_38 rfl rfl rfl ?_
  refine g_iconst (q := 40) (v := 0) dX0_finds_39 rfl (by decide) ?_
  refine g_aload_n (q := 41) (i := 0) dX0_finds_40 rfl rfl rfl ?_
  refine g_get (q := 44) dX0_finds_41 rfl foX0_24 17 hc17 rfl ?_
  obtain ⟨r8, σ8, e8, H⟩ := of_bnd H
  refine g_callV (q := 47) (rest := [.int ((0 : Int32)), .ref (ad 17)]) dX0_finds_44 rfl cvX0_54 (ctX1_allCaves e8) rfl rfl ⟨Nat.le_of_ble_eq_true rfl, Nat.le_of_ble_eq_true rfl⟩ ⟨Nat.le_refl _, Nat.le_refl _⟩ (Nat.le_of_ble_eq_true rfl) 1 hc1 rfl (fun r0 M9 hp => ?_)
  obtain ⟨rfl, rfl⟩ := hp
  show Go x _ _ g 47 [.ref (ad 17), .int l1, .int l2, un_] [.int r8, .int ((0 : Int32)), .ref (ad 17)] (HH g ad σ8 ++ ex) 0 0
  refine g_iconst (q := 48) (v := 0) dX0_finds_47 rfl (by decide) ?_
  refine g_iconst (q := 49) (v := 0) dX0_finds_48 rfl (by decide) ?_
  refine g_iconst (q := 50) (v := 0) dX0_finds_49 rfl (by decide) ?_
  refine g_iconst (q := 51) (v := -1) dX0_finds_50 rfl (by decide) ?_
  obtain ⟨r9, σ9, e9, H⟩ := of_bnd H
  refine g_callV (q := 54) (rest := []) dX0_finds_51 rfl cvX0_60 (ctX0_meet e9) rfl rfl ⟨Nat.le_of_ble_eq_true rfl, Nat.le_of_ble_eq_true rfl⟩ ⟨Nat.le_refl _, Nat.le_refl _⟩ (Nat.le_of_ble_eq_true rfl) 17 hc17 rfl (fun r0 M9 hp => ?_)
  obtain ⟨rfl, rfl⟩ := hp
  show Go x _ _ g 54 [.ref (ad 17), .int l1, .int l2, un_] [] (HH g ad σ9 ++ ex) 0 0
  refine g_iconst (q := 55) (v := 0) dX0_finds_54 rfl (by decide) ?_
  refine g_istore_n (q := 56) (L' := [.ref (ad 17), .int l1, .int l2, .int ((0 : Int32))]) (i := 3) dX0_finds_55 rfl rfl (Nat.le_of_ble_eq_true rfl) rfl ?_
  exact g_weak (L' := [.ref (ad 17), un_, un_, .int ((0 : Int32))]) ⟨Or.inr rfl, Or.inl rfl, Or.inl rfl, Or.inr rfl, trivial⟩ (wfX0_finds_56 (F := F) hX  F _ _ H)
def fX6_witness (F : Nat) (σ : Sg) (l1 : Int32) (l2 : Int32) : Rs := (fX6_canBeSolved F σ l1).bind fun q1 => (fun (r1 : Int32) (σ1 : Sg) => if r1 = (0 : Int32) then (some ((-1 : Int32), σ1)) else (if l2 < (1 : Int32) then (some ((-1 : Int32), σ1)) else (if l2 ≤ (3 : Int32) then ((fX0_finds F σ1 l1 l2).bind fun q2 => (fun (r2 : Int32) (σ2 : Sg) => if r2 = (0 : Int32) then (some (σ2.1 8, σ2)) else (some ((-2 : Int32), σ2))) q2.1 q2.2) else (some ((-1 : Int32), σ1))))) q1.1 q1.2
set_option maxRecDepth 100000 in
set_option maxHeartbeats 4000000 in
theorem ctX6_witness {l : Launch} {g : GX} {ad : Nat → Nat} {ex : va_W} {r : Int32} {τ σ : Sg} {F : Nat} {l1 : Int32} {l2 : Int32} (H : fX6_witness F σ l1 l2 = some (r, τ)) : Ct l g yX6_witness tX6_witness 6 151 0 0 [.ref (ad 0), .int l1, .int l2] (HH g ad σ ++ ex) (Pi_ r (HH g ad τ ++ ex)) := by
  refine Ct.of (L := [.ref (ad 0), .int l1, .int l2]) (by decide +kernel) rfl rfl rfl (Nat.le_of_ble_eq_true rfl) rfl (fun x _ hX => ?_)
  unfold fX6_witness at H
  refine g_aload_n (q := 1) (i := 0) dX6_witness_0 rfl rfl rfl ?_
  refine g_iload_n (q := 2) (i := 1) dX6_witness_1 rfl rfl rfl ?_
  obtain ⟨r1, σ1, e1, H⟩ := of_bnd H
  refine g_callV (q := 5) (rest := []) dX6_witness_2 rfl cvX6_140 (ctX6_canBeSolved e1) rfl rfl ⟨Nat.le_of_ble_eq_true rfl, Nat.le_of_ble_eq_true rfl⟩ ⟨Nat.le_refl _, Nat.le_refl _⟩ (Nat.le_of_ble_eq_true rfl) 0 hc0 rfl (fun r0 M9 hp => ?_)
  obtain ⟨rfl, rfl⟩ := hp
  show Go x _ _ g 5 [.ref (ad 0), .int l1, .int l2] [.int r1] (HH g ad σ1 ++ ex) 0 0
  refine g_if_eq (q := 8) (r := 18) dX6_witness_5 (by decide) rfl (fun c5 => ?_) (fun c5 => ?_)
  · replace H := (if_pos c5).symm.trans H
    refine g_iconst (q := 19) (v := -1) dX6_witness_18 rfl (by decide) ?_
    exact g_iret hX dX6_witness_19 rfl rfl (Nat.le_refl _) (Nat.le_refl _) (piOk H)
  · replace H := (if_neg c5).symm.trans H
    refine g_iload_n (q := 9) (i := 2) dX6_witness_8 rfl rfl rfl ?_
    refine g_iconst (q := 10) (v := 1) dX6_witness_9 rfl (by decide) ?_
    refine g_icmp_lt (q := 13) (r := 18) dX6_witness_10 (by decide) rfl (fun c10 => ?_) (fun c10 => ?_)
    · replace H := (if_pos c10).symm.trans H
      refine g_iconst (q := 19) (v := -1) dX6_witness_18 rfl (by decide) ?_
      exact g_iret hX dX6_witness_19 rfl rfl (Nat.le_refl _) (Nat.le_refl _) (piOk H)
    · replace H := (if_neg c10).symm.trans H
      refine g_iload_n (q := 14) (i := 2) dX6_witness_13 rfl rfl rfl ?_
      refine g_iconst (q := 15) (v := 3) dX6_witness_14 rfl (by decide) ?_
      refine g_icmp_le (q := 18) (r := 20) dX6_witness_15 (by decide) rfl (fun c15 => ?_) (fun c15 => ?_)
      · replace H := (if_pos c15).symm.trans H
        refine g_aload_n (q := 21) (i := 0) dX6_witness_20 rfl rfl rfl ?_
        refine g_get (q := 24) dX6_witness_21 rfl foX6_35 0 hc0 rfl ?_
        refine g_iload_n (q := 25) (i := 1) dX6_witness_24 rfl rfl rfl ?_
        refine g_iload_n (q := 26) (i := 2) dX6_witness_25 rfl rfl rfl ?_
        obtain ⟨r2, σ2, e2, H⟩ := of_bnd H
        refine g_callV (q := 29) (rest := []) dX6_witness_26 rfl cvX6_143 (ctX0_finds e2) rfl rfl ⟨Nat.le_of_ble_eq_true rfl, Nat.le_of_ble_eq_true rfl⟩ ⟨Nat.le_refl _, Nat.le_refl _⟩ (Nat.le_of_ble_eq_true rfl) 17 hc17 rfl (fun r0 M9 hp => ?_)
        obtain ⟨rfl, rfl⟩ := hp
        show Go x _ _ g 29 [.ref (ad 0), .int l1, .int l2] [.int r2] (HH g ad σ2 ++ ex) 0 0
        refine g_if_eq (q := 32) (r := 37) dX6_witness_29 (by decide) rfl (fun c29 => ?_) (fun c29 => ?_)
        · replace H := (if_pos c29).symm.trans H
          refine g_aload_n (q := 38) (i := 0) dX6_witness_37 rfl rfl rfl ?_
          refine g_get (q := 41) dX6_witness_38 rfl foX6_35 0 hc0 rfl ?_
          refine g_get (q := 44) dX6_witness_41 rfl foX6_158 17 hc17 rfl ?_
          exact g_iret hX dX6_witness_44 rfl rfl (Nat.le_refl _) (Nat.le_refl _) (piOk H)
        · replace H := (if_neg c29).symm.trans H
          refine g_bipush (q := 34) (v := -2) dX6_witness_32 rfl (by decide) ?_
          refine g_goto (q := 44) dX6_witness_34 (by decide) ?_
          exact g_iret hX dX6_witness_44 rfl rfl (Nat.le_refl _) (Nat.le_refl _) (piOk H)
      · replace H := (if_neg c15).symm.trans H
        refine g_iconst (q := 19) (v := -1) dX6_witness_18 rfl (by decide) ?_
        exact g_iret hX dX6_witness_19 rfl rfl (Nat.le_refl _) (Nat.le_refl _) (piOk H)
def fX4_come_22 (F : Nat) (σ : Sg) (l1 : Int32) : Rs := if ib l1 12 then (if ib l1 12 then (ls_ (sa σ 23 l1.toNatClampNeg ((σ.2.1 23 l1.toNatClampNeg) + (1 : Int32))) fun σ1 => ls_ (sv σ1 18 ((σ1.1 18) + (1 : Int32))) fun σ2 => ls_ (sv σ2 19 ((σ2.1 19) ||| ((1 : Int32) <<< (l1 &&& 31)))) fun σ3 => some (0, σ3)) else none) else none
set_option maxRecDepth 100000 in
set_option maxHeartbeats 4000000 in
theorem ctX4_come_22 {l : Launch} {g : GX} {ad : Nat → Nat} {ex : va_W} {r : Int32} {τ σ : Sg} {F : Nat} {l1 : Int32} (H : fX4_come_22 F σ l1 = some (r, τ)) : Ct l g yX4_come tX4_come 0 0 0 0 [.ref (ad 22), .int l1] (HH g ad σ ++ ex) (Pv_ (HH g ad τ ++ ex)) := by
  refine Ct.of (L := [.ref (ad 22), .int l1]) (by decide +kernel) rfl rfl rfl (Nat.le_of_ble_eq_true rfl) rfl (fun x _ hX => ?_)
  unfold fX4_come_22 at H
  refine g_aload_n (q := 1) (i := 0) dX4_come_0 rfl rfl rfl ?_
  refine g_get (q := 4) dX4_come_1 rfl foX4_9 22 hc22 rfl ?_
  refine g_iload_n (q := 5) (i := 1) dX4_come_4 rfl rfl rfl ?_
  refine g_dup2 (q := 6) dX4_come_5 rfl rfl rfl ?_
  obtain ⟨b6, H⟩ := of_chk H
  refine g_iald (q := 7) dX4_come_6 rfl 23 hc23 b6 ?_
  refine g_iconst (q := 8) (v := 1) dX4_come_7 rfl (by decide) ?_
  refine g_iadd (q := 9) dX4_come_8 rfl ?_
  obtain ⟨b9, H⟩ := of_chk H
  obtain ⟨σ1, n1, H⟩ := of_ls H
  refine g_iast (q := 10) dX4_come_9 rfl 23 hc23 b9 (ha23e n1) ?_
  refine g_aload_n (q := 11) (i := 0) dX4_come_10 rfl rfl rfl ?_
  refine g_dup (q := 12) dX4_come_11 rfl rfl ?_
  refine g_get (q := 15) dX4_come_12 rfl foX4_21 22 hc22 rfl ?_
  refine g_iconst (q := 16) (v := 1) dX4_come_15 rfl (by decide) ?_
  refine g_iadd (q := 17) dX4_come_16 rfl ?_
  obtain ⟨σ2, n2, H⟩ := of_ls H
  refine g_put (q := 20) dX4_come_17 rfl (fpX4_21 _) 22 hc22 rfl rfl (Nat.le_of_ble_eq_true rfl) (hs18e n2) ?_
  refine g_aload_n (q := 21) (i := 0) dX4_come_20 rfl rfl rfl ?_
  refine g_dup (q := 22) dX4_come_21 rfl rfl ?_
  refine g_get (q := 25) dX4_come_22 rfl foX4_25 22 hc22 rfl ?_
  refine g_iconst (q := 26) (v := 1) dX4_come_25 rfl (by decide) ?_
  refine g_iload_n (q := 27) (i := 1) dX4_come_26 rfl rfl rfl ?_
  refine g_ishl (q := 28) dX4_come_27 rfl ?_
  refine g_ior (q := 29) dX4_come_28 rfl ?_
  obtain ⟨σ3, n3, H⟩ := of_ls H
  refine g_put (q := 32) dX4_come_29 rfl (fpX4_25 _) 22 hc22 rfl rfl (Nat.le_of_ble_eq_true rfl) (hs19e n3) ?_
  exact g_vret hX dX4_come_32 rfl (Nat.le_refl _) (Nat.le_refl _) (pvOk H)
def fX4_leave_22 (F : Nat) (σ : Sg) (l1 : Int32) : Rs := if ib l1 12 then (if ib l1 12 then (ls_ (sa σ 23 l1.toNatClampNeg ((σ.2.1 23 l1.toNatClampNeg) - (1 : Int32))) fun σ1 => ls_ (sv σ1 18 ((σ1.1 18) - (1 : Int32))) fun σ2 => if ib l1 12 then (if (σ2.2.1 23 l1.toNatClampNeg) = (0 : Int32) then (ls_ (sv σ2 19 ((σ2.1 19) &&& (((1 : Int32) <<< (l1 &&& 31)) ^^^ (-1 : Int32)))) fun σ3 => some (0, σ3)) else (some (0, σ2))) else none) else none) else none
set_option maxRecDepth 100000 in
set_option maxHeartbeats 4000000 in
theorem ctX4_leave_22 {l : Launch} {g : GX} {ad : Nat → Nat} {ex : va_W} {r : Int32} {τ σ : Sg} {F : Nat} {l1 : Int32} (H : fX4_leave_22 F σ l1 = some (r, τ)) : Ct l g yX4_leave tX4_leave 0 0 0 0 [.ref (ad 22), .int l1] (HH g ad σ ++ ex) (Pv_ (HH g ad τ ++ ex)) := by
  refine Ct.of (L := [.ref (ad 22), .int l1]) (by decide +kernel) rfl rfl rfl (Nat.le_of_ble_eq_true rfl) rfl (fun x _ hX => ?_)
  unfold fX4_leave_22 at H
  refine g_aload_n (q := 1) (i := 0) dX4_leave_0 rfl rfl rfl ?_
  refine g_get (q := 4) dX4_leave_1 rfl foX4_9 22 hc22 rfl ?_
  refine g_iload_n (q := 5) (i := 1) dX4_leave_4 rfl rfl rfl ?_
  refine g_dup2 (q := 6) dX4_leave_5 rfl rfl rfl ?_
  obtain ⟨b6, H⟩ := of_chk H
  refine g_iald (q := 7) dX4_leave_6 rfl 23 hc23 b6 ?_
  refine g_iconst (q := 8) (v := 1) dX4_leave_7 rfl (by decide) ?_
  refine g_isub (q := 9) dX4_leave_8 rfl ?_
  obtain ⟨b9, H⟩ := of_chk H
  obtain ⟨σ1, n1, H⟩ := of_ls H
  refine g_iast (q := 10) dX4_leave_9 rfl 23 hc23 b9 (ha23e n1) ?_
  refine g_aload_n (q := 11) (i := 0) dX4_leave_10 rfl rfl rfl ?_
  refine g_dup (q := 12) dX4_leave_11 rfl rfl ?_
  refine g_get (q := 15) dX4_leave_12 rfl foX4_21 22 hc22 rfl ?_
  refine g_iconst (q := 16) (v := 1) dX4_leave_15 rfl (by decide) ?_
  refine g_isub (q := 17) dX4_leave_16 rfl ?_
  obtain ⟨σ2, n2, H⟩ := of_ls H
  refine g_put (q := 20) dX4_leave_17 rfl (fpX4_21 _) 22 hc22 rfl rfl (Nat.le_of_ble_eq_true rfl) (hs18e n2) ?_
  refine g_aload_n (q := 21) (i := 0) dX4_leave_20 rfl rfl rfl ?_
  refine g_get (q := 24) dX4_leave_21 rfl foX4_9 22 hc22 rfl ?_
  refine g_iload_n (q := 25) (i := 1) dX4_leave_24 rfl rfl rfl ?_
  obtain ⟨b25, H⟩ := of_chk H
  refine g_iald (q := 26) dX4_leave_25 rfl 23 hc23 b25 ?_
  refine g_if_ne (q := 29) (r := 43) dX4_leave_26 (by decide) rfl (fun c26 => ?_) (fun c26 => ?_)
  · replace H := (if_neg c26).symm.trans H
    exact g_vret hX dX4_leave_43 rfl (Nat.le_refl _) (Nat.le_refl _) (pvOk H)
  · replace H := (if_pos c26).symm.trans H
    refine g_aload_n (q := 30) (i := 0) dX4_leave_29 rfl rfl rfl ?_
    refine g_dup (q := 31) dX4_leave_30 rfl rfl ?_
    refine g_get (q := 34) dX4_leave_31 rfl foX4_25 22 hc22 rfl ?_
    refine g_iconst (q := 35) (v := 1) dX4_leave_34 rfl (by decide) ?_
    refine g_iload_n (q := 36) (i := 1) dX4_leave_35 rfl rfl rfl ?_
    refine g_ishl (q := 37) dX4_leave_36 rfl ?_
    refine g_iconst (q := 38) (v := -1) dX4_leave_37 rfl (by decide) ?_
    refine g_ixor (q := 39) dX4_leave_38 rfl ?_
    refine g_iand (q := 40) dX4_leave_39 rfl ?_
    obtain ⟨σ3, n3, H⟩ := of_ls H
    refine g_put (q := 43) dX4_leave_40 rfl (fpX4_25 _) 22 hc22 rfl rfl (Nat.le_of_ble_eq_true rfl) (hs19e n3) ?_
    exact g_vret hX dX4_leave_43 rfl (Nat.le_refl _) (Nat.le_refl _) (pvOk H)
def bX4_follow_22_37 (F : Nat)  (σ : Sg) (l2 : Int32) (l3 : Int32) (l4 : Int32) : Rs := if l2 < (2 : Int32) then ((fX1_lostBehind F σ (σ.1 20) (σ.1 19) l3 ((0 : Int32))).bind fun q1 => (fun (r1 : Int32) (σ1 : Sg) => ls_ (sv σ1 20 r1) fun σ2 => some (0, σ2)) q1.1 q1.2) else ((fX1_lostBehind F σ (σ.1 20) (σ.1 19) l3 ((1 : Int32) <<< (l4 &&& 31))).bind fun q3 => (fun (r3 : Int32) (σ3 : Sg) => ls_ (sv σ3 20 r3) fun σ4 => some (0, σ4)) q3.1 q3.2)
set_option maxRecDepth 100000 in
set_option maxHeartbeats 4000000 in
theorem wbX4_follow_22_37 {x : FX} {g : GX} {ad : Nat → Nat} {ex M0 : va_W} {r : Int32} {τ : Sg} {F : Nat} (hX : RX x g M0 (Pv_ (HH g ad τ ++ ex)) 0 0)   (σ : Sg) (l2 : Int32) (l3 : Int32) (l4 : Int32) (H : bX4_follow_22_37 F  σ l2 l3 l4 = some (r, τ)) : Go x { frames := 2, cells := 0, slots := 0, locals := 53 } tX4_follow g 37 [.ref (ad 22), .ref (ad 1), .int l2, .int l3, .int l4] [] (HH g ad σ ++ ex) 0 0 := by
  unfold bX4_follow_22_37 at H
  refine g_aload_n (q := 38) (i := 0) dX4_follow_37 rfl rfl rfl ?_
  refine g_aload_n (q := 39) (i := 1) dX4_follow_38 rfl rfl rfl ?_
  refine g_aload_n (q := 40) (i := 0) dX4_follow_39 rfl rfl rfl ?_
  refine g_get (q := 43) dX4_follow_40 rfl foX4_34 22 hc22 rfl ?_
  refine g_aload_n (q := 44) (i := 0) dX4_follow_43 rfl rfl rfl ?_
  refine g_get (q := 47) dX4_follow_44 rfl foX4_25 22 hc22 rfl ?_
  refine g_iload_n (q := 48) (i := 3) dX4_follow_47 rfl rfl rfl ?_
  refine g_iload_n (q := 49) (i := 2) dX4_follow_48 rfl rfl rfl ?_
  refine g_iconst (q := 50) (v := 2) dX4_follow_49 rfl (by decide) ?_
  refine g_icmp_lt (q := 53) (r := 60) dX4_follow_50 (by decide) rfl (fun c50 => ?_) (fun c50 => ?_)
  · replace H := (if_pos c50).symm.trans H
    refine g_iconst (q := 61) (v := 0) dX4_follow_60 rfl (by decide) ?_
    obtain ⟨r1, σ1, e1, H⟩ := of_bnd H
    refine g_callV (q := 64) (rest := [.ref (ad 22)]) dX4_follow_61 rfl cvX4_48 (ctX1_lostBehind e1) rfl rfl ⟨Nat.le_of_ble_eq_true rfl, Nat.le_of_ble_eq_true rfl⟩ ⟨Nat.le_refl _, Nat.le_refl _⟩ (Nat.le_of_ble_eq_true rfl) 1 hc1 rfl (fun r0 M9 hp => ?_)
    obtain ⟨rfl, rfl⟩ := hp
    show Go x _ _ g 64 [.ref (ad 22), .ref (ad 1), .int l2, .int l3, .int l4] [.int r1, .ref (ad 22)] (HH g ad σ1 ++ ex) 0 0
    obtain ⟨σ2, n2, H⟩ := of_ls H
    refine g_put (q := 67) dX4_follow_64 rfl (fpX4_34 _) 22 hc22 rfl rfl (Nat.le_of_ble_eq_true rfl) (hs20e n2) ?_
    exact g_vret hX dX4_follow_67 rfl (Nat.le_refl _) (Nat.le_refl _) (pvOk H)
  · replace H := (if_neg c50).symm.trans H
    refine g_iconst (q := 54) (v := 1) dX4_follow_53 rfl (by decide) ?_
    refine g_iload (q := 56) dX4_follow_54 rfl rfl ?_
    refine g_ishl (q := 57) dX4_follow_56 rfl ?_
    refine g_goto (q := 61) dX4_follow_57 (by decide) ?_
    obtain ⟨r3, σ3, e3, H⟩ := of_bnd H
    refine g_callV (q := 64) (rest := [.ref (ad 22)]) dX4_follow_61 rfl cvX4_48 (ctX1_lostBehind e3) rfl rfl ⟨Nat.le_of_ble_eq_true rfl, Nat.le_of_ble_eq_true rfl⟩ ⟨Nat.le_refl _, Nat.le_refl _⟩ (Nat.le_of_ble_eq_true rfl) 1 hc1 rfl (fun r0 M9 hp => ?_)
    obtain ⟨rfl, rfl⟩ := hp
    show Go x _ _ g 64 [.ref (ad 22), .ref (ad 1), .int l2, .int l3, .int l4] [.int r3, .ref (ad 22)] (HH g ad σ3 ++ ex) 0 0
    obtain ⟨σ4, n4, H⟩ := of_ls H
    refine g_put (q := 67) dX4_follow_64 rfl (fpX4_34 _) 22 hc22 rfl rfl (Nat.le_of_ble_eq_true rfl) (hs20e n4) ?_
    exact g_vret hX dX4_follow_67 rfl (Nat.le_refl _) (Nat.le_refl _) (pvOk H)
def bX4_follow_22_9 (F : Nat)  (σ : Sg) (l2 : Int32) (l3 : Int32) (l4 : Int32) : Rs := if l2 = (0 : Int32) then ((fX4_come_22 F σ l3).bind fun q3 => (fun (r3 : Int32) (σ3 : Sg) => bX4_follow_22_37 F σ3 (l2) (l3) (l4)) q3.1 q3.2) else (if l2 = (1 : Int32) then (bX4_follow_22_37 F σ (l2) (l3) (l4)) else ((fX1_otherEnd F σ l4 l3).bind fun q1 => (fun (r1 : Int32) (σ1 : Sg) => (fX4_come_22 F σ1 r1).bind fun q2 => (fun (r2 : Int32) (σ2 : Sg) => bX4_follow_22_37 F σ2 (l2) (l3) (l4)) q2.1 q2.2) q1.1 q1.2))
set_option maxRecDepth 100000 in
set_option maxHeartbeats 4000000 in
theorem wbX4_follow_22_9 {x : FX} {g : GX} {ad : Nat → Nat} {ex M0 : va_W} {r : Int32} {τ : Sg} {F : Nat} (hX : RX x g M0 (Pv_ (HH g ad τ ++ ex)) 0 0)   (σ : Sg) (l2 : Int32) (l3 : Int32) (l4 : Int32) (H : bX4_follow_22_9 F  σ l2 l3 l4 = some (r, τ)) : Go x { frames := 2, cells := 0, slots := 0, locals := 53 } tX4_follow g 9 [.ref (ad 22), .ref (ad 1), .int l2, .int l3, .int l4] [] (HH g ad σ ++ ex) 0 0 := by
  unfold bX4_follow_22_9 at H
  refine g_iload_n (q := 10) (i := 2) dX4_follow_9 rfl rfl rfl ?_
  refine g_if_ne (q := 13) (r := 21) dX4_follow_10 (by decide) rfl (fun c10 => ?_) (fun c10 => ?_)
  · replace H := (if_neg c10).symm.trans H
    refine g_iload_n (q := 22) (i := 2) dX4_follow_21 rfl rfl rfl ?_
    refine g_iconst (q := 23) (v := 1) dX4_follow_22 rfl (by decide) ?_
    refine g_icmp_eq (q := 26) (r := 37) dX4_follow_23 (by decide) rfl (fun c23 => ?_) (fun c23 => ?_)
    · replace H := (if_pos c23).symm.trans H
      exact g_weak (L' := [.ref (ad 22), .ref (ad 1), .int l2, .int l3, .int l4]) ⟨Or.inr rfl, Or.inr rfl, Or.inr rfl, Or.inr rfl, Or.inr rfl, trivial⟩ (wbX4_follow_22_37 (F := F) hX  _ _ _ _ H)
    · replace H := (if_neg c23).symm.trans H
      refine g_aload_n (q := 27) (i := 0) dX4_follow_26 rfl rfl rfl ?_
      refine g_aload_n (q := 28) (i := 1) dX4_follow_27 rfl rfl rfl ?_
      refine g_iload (q := 30) dX4_follow_28 rfl rfl ?_
      refine g_iload_n (q := 31) (i := 3) dX4_follow_30 rfl rfl rfl ?_
      obtain ⟨r1, σ1, e1, H⟩ := of_bnd H
      refine g_callV (q := 34) (rest := [.ref (ad 22)]) dX4_follow_31 rfl cvX4_44 (ctX1_otherEnd e1) rfl rfl ⟨Nat.le_of_ble_eq_true rfl, Nat.le_of_ble_eq_true rfl⟩ ⟨Nat.le_refl _, Nat.le_refl _⟩ (Nat.le_of_ble_eq_true rfl) 1 hc1 rfl (fun r0 M9 hp => ?_)
      obtain ⟨rfl, rfl⟩ := hp
      show Go x _ _ g 34 [.ref (ad 22), .ref (ad 1), .int l2, .int l3, .int l4] [.int r1, .ref (ad 22)] (HH g ad σ1 ++ ex) 0 0
      obtain ⟨r2, σ2, e2, H⟩ := of_bnd H
      refine g_callV (q := 37) (rest := []) dX4_follow_34 rfl cvX4_41 (ctX4_come_22 e2) rfl rfl ⟨Nat.le_of_ble_eq_true rfl, Nat.le_of_ble_eq_true rfl⟩ ⟨Nat.le_refl _, Nat.le_refl _⟩ (Nat.le_of_ble_eq_true rfl) 22 hc22 rfl (fun r0 M9 hp => ?_)
      obtain ⟨rfl, rfl⟩ := hp
      show Go x _ _ g 37 [.ref (ad 22), .ref (ad 1), .int l2, .int l3, .int l4] [] (HH g ad σ2 ++ ex) 0 0
      exact g_weak (L' := [.ref (ad 22), .ref (ad 1), .int l2, .int l3, .int l4]) ⟨Or.inr rfl, Or.inr rfl, Or.inr rfl, Or.inr rfl, Or.inr rfl, trivial⟩ (wbX4_follow_22_37 (F := F) hX  _ _ _ _ H)
  · replace H := (if_pos c10).symm.trans H
    refine g_aload_n (q := 14) (i := 0) dX4_follow_13 rfl rfl rfl ?_
    refine g_iload_n (q := 15) (i := 3) dX4_follow_14 rfl rfl rfl ?_
    obtain ⟨r3, σ3, e3, H⟩ := of_bnd H
    refine g_callV (q := 18) (rest := []) dX4_follow_15 rfl cvX4_41 (ctX4_come_22 e3) rfl rfl ⟨Nat.le_of_ble_eq_true rfl, Nat.le_of_ble_eq_true rfl⟩ ⟨Nat.le_refl _, Nat.le_refl _⟩ (Nat.le_of_ble_eq_true rfl) 22 hc22 rfl (fun r0 M9 hp => ?_)
    obtain ⟨rfl, rfl⟩ := hp
    show Go x _ _ g 18 [.ref (ad 22), .ref (ad 1), .int l2, .int l3, .int l4] [] (HH g ad σ3 ++ ex) 0 0
    refine g_goto (q := 37) dX4_follow_18 (by decide) ?_
    exact g_weak (L' := [.ref (ad 22), .ref (ad 1), .int l2, .int l3, .int l4]) ⟨Or.inr rfl, Or.inr rfl, Or.inr rfl, Or.inr rfl, Or.inr rfl, trivial⟩ (wbX4_follow_22_37 (F := F) hX  _ _ _ _ H)
def fX4_follow_22 (F : Nat) (σ : Sg) (l2 : Int32) (l3 : Int32) (l4 : Int32) : Rs := if l2 = (0 : Int32) then (bX4_follow_22_9 F σ (l2) (l3) (l4)) else ((fX4_leave_22 F σ l3).bind fun q1 => (fun (r1 : Int32) (σ1 : Sg) => bX4_follow_22_9 F σ1 (l2) (l3) (l4)) q1.1 q1.2)
set_option maxRecDepth 100000 in
set_option maxHeartbeats 4000000 in
theorem ctX4_follow_22 {l : Launch} {g : GX} {ad : Nat → Nat} {ex : va_W} {r : Int32} {τ σ : Sg} {F : Nat} {l2 : Int32} {l3 : Int32} {l4 : Int32} (H : fX4_follow_22 F σ l2 l3 l4 = some (r, τ)) : Ct l g yX4_follow tX4_follow 2 53 0 0 [.ref (ad 22), .ref (ad 1), .int l2, .int l3, .int l4] (HH g ad σ ++ ex) (Pv_ (HH g ad τ ++ ex)) := by
  refine Ct.of (L := [.ref (ad 22), .ref (ad 1), .int l2, .int l3, .int l4]) (by decide +kernel) rfl rfl rfl (Nat.le_of_ble_eq_true rfl) rfl (fun x _ hX => ?_)
  unfold fX4_follow_22 at H
  refine g_iload_n (q := 1) (i := 2) dX4_follow_0 rfl rfl rfl ?_
  refine g_if_eq (q := 4) (r := 9) dX4_follow_1 (by decide) rfl (fun c1 => ?_) (fun c1 => ?_)
  · replace H := (if_pos c1).symm.trans H
    exact g_weak (L' := [.ref (ad 22), .ref (ad 1), .int l2, .int l3, .int l4]) ⟨Or.inr rfl, Or.inr rfl, Or.inr rfl, Or.inr rfl, Or.inr rfl, trivial⟩ (wbX4_follow_22_9 (F := F) hX  _ _ _ _ H)
  · replace H := (if_neg c1).symm.trans H
    refine g_aload_n (q := 5) (i := 0) dX4_follow_4 rfl rfl rfl ?_
    refine g_iload_n (q := 6) (i := 3) dX4_follow_5 rfl rfl rfl ?_
    obtain ⟨r1, σ1, e1, H⟩ := of_bnd H
    refine g_callV (q := 9) (rest := []) dX4_follow_6 rfl cvX4_37 (ctX4_leave_22 e1) rfl rfl ⟨Nat.le_of_ble_eq_true rfl, Nat.le_of_ble_eq_true rfl⟩ ⟨Nat.le_refl _, Nat.le_refl _⟩ (Nat.le_of_ble_eq_true rfl) 22 hc22 rfl (fun r0 M9 hp => ?_)
    obtain ⟨rfl, rfl⟩ := hp
    show Go x _ _ g 9 [.ref (ad 22), .ref (ad 1), .int l2, .int l3, .int l4] [] (HH g ad σ1 ++ ex) 0 0
    exact g_weak (L' := [.ref (ad 22), .ref (ad 1), .int l2, .int l3, .int l4]) ⟨Or.inr rfl, Or.inr rfl, Or.inr rfl, Or.inr rfl, Or.inr rfl, trivial⟩ (wbX4_follow_22_9 (F := F) hX  _ _ _ _ H)
def bJ7_fill_53178_23_5 (F : Nat) (k5 : Sg → Int32 → Int32 → Int32 → Rs) (σ : Sg) (l1 : Int32) (l2 : Int32) (l3 : Int32) : Rs := if l3 ≤ l2 then (some (0, σ)) else (if ib l2 12 then (ls_ (sa σ 23 l2.toNatClampNeg l1) fun σ1 => k5 σ1 (l1) (l2 + 1) (l3)) else none)
set_option maxRecDepth 100000 in
set_option maxHeartbeats 4000000 in
theorem wbJ7_fill_53178_23_5 {x : FX} {g : GX} {ad : Nat → Nat} {ex M0 : va_W} {r : Int32} {τ : Sg} {F : Nat} (hX : RX x g M0 (Pv_ (HH g ad τ ++ ex)) 0 0) {k5 : Sg → Int32 → Int32 → Int32 → Rs} (h5 : ∀ (σ : Sg) (l1 : Int32) (l2 : Int32) (l3 : Int32), k5 σ l1 l2 l3 = some (r, τ) → Go x { frames := 0, cells := 0, slots := 0, locals := 0 } tJ7_fill_53178 g 5 [.ref (ad 23), .int l1, .int l2, .int l3] [] (HH g ad σ ++ ex) 0 0) (σ : Sg) (l1 : Int32) (l2 : Int32) (l3 : Int32) (H : bJ7_fill_53178_23_5 F k5 σ l1 l2 l3 = some (r, τ)) : Go x { frames := 0, cells := 0, slots := 0, locals := 0 } tJ7_fill_53178 g 5 [.ref (ad 23), .int l1, .int l2, .int l3] [] (HH g ad σ ++ ex) 0 0 := by
  unfold bJ7_fill_53178_23_5 at H
  refine g_iload_n (q := 6) (i := 2) dJ7_fill_53178_5 rfl rfl rfl ?_
  refine g_iload_n (q := 7) (i := 3) dJ7_fill_53178_6 rfl rfl rfl ?_
  refine g_icmp_ge (q := 10) (r := 20) dJ7_fill_53178_7 (by decide) rfl (fun c7 => ?_) (fun c7 => ?_)
  · replace H := (if_pos c7).symm.trans H
    exact g_vret hX dJ7_fill_53178_20 rfl (Nat.le_refl _) (Nat.le_refl _) (pvOk H)
  · replace H := (if_neg c7).symm.trans H
    refine g_aload_n (q := 11) (i := 0) dJ7_fill_53178_10 rfl rfl rfl ?_
    refine g_iload_n (q := 12) (i := 2) dJ7_fill_53178_11 rfl rfl rfl ?_
    refine g_iload_n (q := 13) (i := 1) dJ7_fill_53178_12 rfl rfl rfl ?_
    obtain ⟨b13, H⟩ := of_chk H
    obtain ⟨σ1, n1, H⟩ := of_ls H
    refine g_iast (q := 14) dJ7_fill_53178_13 rfl 23 hc23 b13 (ha23e n1) ?_
    refine g_iinc (q := 17) (b := l2 + 1) (L' := [.ref (ad 23), .int l1, .int (l2 + 1), .int l3]) dJ7_fill_53178_14 rfl rfl rfl (Nat.le_of_ble_eq_true rfl) rfl ?_
    refine g_goto (q := 5) dJ7_fill_53178_17 (by decide) ?_
    exact g_weak (L' := [.ref (ad 23), .int l1, .int (l2 + 1), .int l3]) ⟨Or.inr rfl, Or.inr rfl, Or.inr rfl, Or.inr rfl, trivial⟩ (h5 _ _ _ _ H)
def fJ7_fill_53178_23_5 (F : Nat)  : Nat → Sg → Int32 → Int32 → Int32 → Rs
  | 0 => fun _ _ _ _ => none
  | n + 1 => fun σ l1 l2 l3 => bJ7_fill_53178_23_5 F  (fJ7_fill_53178_23_5 F  n) σ l1 l2 l3
theorem wfJ7_fill_53178_23_5 {x : FX} {g : GX} {ad : Nat → Nat} {ex M0 : va_W} {r : Int32} {τ : Sg} {F : Nat} (hX : RX x g M0 (Pv_ (HH g ad τ ++ ex)) 0 0)   : ∀ (n : Nat) (σ : Sg) (l1 : Int32) (l2 : Int32) (l3 : Int32), fJ7_fill_53178_23_5 F  n σ l1 l2 l3 = some (r, τ) → Go x { frames := 0, cells := 0, slots := 0, locals := 0 } tJ7_fill_53178 g 5 [.ref (ad 23), .int l1, .int l2, .int l3] [] (HH g ad σ ++ ex) 0 0
  | 0, _, _, _, _, H => nomatch (show (none : Rs) = some _ from H)
  | n + 1, σ, l1, l2, l3, H => wbJ7_fill_53178_23_5 (F := F) hX  (fun σ2 z1 z2 z3 H2 => wfJ7_fill_53178_23_5 (F := F) hX  n σ2 z1 z2 z3 H2) σ l1 l2 l3 H
def fJ7_fill_53178_23 (F : Nat) (σ : Sg) (l1 : Int32) : Rs := fJ7_fill_53178_23_5 F F σ (l1) ((0 : Int32)) ((12 : Int32))
set_option maxRecDepth 100000 in
set_option maxHeartbeats 4000000 in
theorem ctJ7_fill_53178_23 {l : Launch} {g : GX} {ad : Nat → Nat} {ex : va_W} {r : Int32} {τ σ : Sg} {F : Nat} {l1 : Int32} (H : fJ7_fill_53178_23 F σ l1 = some (r, τ)) : Ct l g yJ7_fill_53178 tJ7_fill_53178 0 0 0 0 [.ref (ad 23), .int l1] (HH g ad σ ++ ex) (Pv_ (HH g ad τ ++ ex)) := by
  refine Ct.of (L := [.ref (ad 23), .int l1, un_, un_]) (by decide +kernel) rfl rfl rfl (Nat.le_of_ble_eq_true rfl) rfl (fun x _ hX => ?_)
  unfold fJ7_fill_53178_23 at H
  refine g_iconst (q := 1) (v := 0) dJ7_fill_53178_0 rfl (by decide) ?_
  refine g_istore_n (q := 2) (L' := [.ref (ad 23), .int l1, .int ((0 : Int32)), un_]) (i := 2) dJ7_fill_53178_1 rfl rfl (Nat.le_of_ble_eq_true rfl) rfl ?_
  refine g_aload_n (q := 3) (i := 0) dJ7_fill_53178_2 rfl rfl rfl ?_
  refine g_alen (q := 4) (v := 12) dJ7_fill_53178_3 rfl 23 hc23 rfl ?_
  refine g_istore_n (q := 5) (L' := [.ref (ad 23), .int l1, .int ((0 : Int32)), .int ((12 : Int32))]) (i := 3) dJ7_fill_53178_4 rfl rfl (Nat.le_of_ble_eq_true rfl) rfl ?_
  exact g_weak (L' := [.ref (ad 23), .int l1, .int ((0 : Int32)), .int ((12 : Int32))]) ⟨Or.inr rfl, Or.inr rfl, Or.inr rfl, Or.inr rfl, trivial⟩ (wfJ7_fill_53178_23_5 (F := F) hX  F _ _ _ _ H)
def fX4_begin_22 (F : Nat) (σ : Sg)  : Rs := (fJ7_fill_53178_23 F σ ((0 : Int32))).bind fun q1 => (fun (r1 : Int32) (σ1 : Sg) => ls_ (sv σ1 18 (0 : Int32)) fun σ2 => ls_ (sv σ2 19 (0 : Int32)) fun σ3 => (fX1_allCaves F σ3).bind fun q4 => (fun (r4 : Int32) (σ4 : Sg) => ls_ (sv σ4 20 r4) fun σ5 => some (0, σ5)) q4.1 q4.2) q1.1 q1.2
set_option maxRecDepth 100000 in
set_option maxHeartbeats 4000000 in
theorem ctX4_begin_22 {l : Launch} {g : GX} {ad : Nat → Nat} {ex : va_W} {r : Int32} {τ σ : Sg} {F : Nat}  (H : fX4_begin_22 F σ  = some (r, τ)) : Ct l g yX4_begin tX4_begin 1 23 0 0 [.ref (ad 22), .ref (ad 1)] (HH g ad σ ++ ex) (Pv_ (HH g ad τ ++ ex)) := by
  refine Ct.of (L := [.ref (ad 22), .ref (ad 1)]) (by decide +kernel) rfl rfl rfl (Nat.le_of_ble_eq_true rfl) rfl (fun x _ hX => ?_)
  unfold fX4_begin_22 at H
  refine g_aload_n (q := 1) (i := 0) dX4_begin_0 rfl rfl rfl ?_
  refine g_get (q := 4) dX4_begin_1 rfl foX4_9 22 hc22 rfl ?_
  refine g_iconst (q := 5) (v := 0) dX4_begin_4 rfl (by decide) ?_
  obtain ⟨r1, σ1, e1, H⟩ := of_bnd H
  refine g_callS (q := 8) (rest := []) dX4_begin_5 rfl csX4_15 (ctJ7_fill_53178_23 e1) rfl rfl ⟨Nat.le_of_ble_eq_true rfl, Nat.le_of_ble_eq_true rfl⟩ ⟨Nat.le_refl _, Nat.le_refl _⟩ (Nat.le_of_ble_eq_true rfl) (fun r0 M9 hp => ?_)
  obtain ⟨rfl, rfl⟩ := hp
  show Go x _ _ g 8 [.ref (ad 22), .ref (ad 1)] [] (HH g ad σ1 ++ ex) 0 0
  refine g_aload_n (q := 9) (i := 0) dX4_begin_8 rfl rfl rfl ?_
  refine g_iconst (q := 10) (v := 0) dX4_begin_9 rfl (by decide) ?_
  obtain ⟨σ2, n2, H⟩ := of_ls H
  refine g_put (q := 13) dX4_begin_10 rfl (fpX4_21 _) 22 hc22 rfl rfl (Nat.le_of_ble_eq_true rfl) (hs18e n2) ?_
  refine g_aload_n (q := 14) (i := 0) dX4_begin_13 rfl rfl rfl ?_
  refine g_iconst (q := 15) (v := 0) dX4_begin_14 rfl (by decide) ?_
  obtain ⟨σ3, n3, H⟩ := of_ls H
  refine g_put (q := 18) dX4_begin_15 rfl (fpX4_25 _) 22 hc22 rfl rfl (Nat.le_of_ble_eq_true rfl) (hs19e n3) ?_
  refine g_aload_n (q := 19) (i := 0) dX4_begin_18 rfl rfl rfl ?_
  refine g_aload_n (q := 20) (i := 1) dX4_begin_19 rfl rfl rfl ?_
  obtain ⟨r4, σ4, e4, H⟩ := of_bnd H
  refine g_callV (q := 23) (rest := [.ref (ad 22)]) dX4_begin_20 rfl cvX4_28 (ctX1_allCaves e4) rfl rfl ⟨Nat.le_of_ble_eq_true rfl, Nat.le_of_ble_eq_true rfl⟩ ⟨Nat.le_refl _, Nat.le_refl _⟩ (Nat.le_of_ble_eq_true rfl) 1 hc1 rfl (fun r0 M9 hp => ?_)
  obtain ⟨rfl, rfl⟩ := hp
  show Go x _ _ g 23 [.ref (ad 22), .ref (ad 1)] [.int r4, .ref (ad 22)] (HH g ad σ4 ++ ex) 0 0
  obtain ⟨σ5, n5, H⟩ := of_ls H
  refine g_put (q := 26) dX4_begin_23 rfl (fpX4_34 _) 22 hc22 rfl rfl (Nat.le_of_ble_eq_true rfl) (hs20e n5) ?_
  exact g_vret hX dX4_begin_26 rfl (Nat.le_refl _) (Nat.le_refl _) (pvOk H)
def bX6_isPlanBy_160 (F : Nat)  (σ : Sg)  : Rs := if (σ.1 20) = (0 : Int32) then (some ((1 : Int32), σ)) else (some ((0 : Int32), σ))
set_option maxRecDepth 100000 in
set_option maxHeartbeats 4000000 in
theorem wbX6_isPlanBy_160 {x : FX} {g : GX} {ad : Nat → Nat} {ex M0 : va_W} {r : Int32} {τ : Sg} {F : Nat} (hX : RX x g M0 (Pi_ r (HH g ad τ ++ ex)) 0 0)   (σ : Sg)  (H : bX6_isPlanBy_160 F  σ  = some (r, τ)) : Go x { frames := 3, cells := 0, slots := 0, locals := 77 } tX6_isPlanBy g 160 [.ref (ad 0), un_, un_, un_, un_, un_] [] (HH g ad σ ++ ex) 0 0 := by
  unfold bX6_isPlanBy_160 at H
  refine g_aload_n (q := 161) (i := 0) dX6_isPlanBy_160 rfl rfl rfl ?_
  refine g_get (q := 164) dX6_isPlanBy_161 rfl foX6_42 0 hc0 rfl ?_
  refine g_get (q := 167) dX6_isPlanBy_164 rfl foX6_109 22 hc22 rfl ?_
  refine g_if_ne (q := 170) (r := 174) dX6_isPlanBy_167 (by decide) rfl (fun c167 => ?_) (fun c167 => ?_)
  · replace H := (if_neg c167).symm.trans H
    refine g_iconst (q := 175) (v := 0) dX6_isPlanBy_174 rfl (by decide) ?_
    exact g_iret hX dX6_isPlanBy_175 rfl rfl (Nat.le_refl _) (Nat.le_refl _) (piOk H)
  · replace H := (if_pos c167).symm.trans H
    refine g_iconst (q := 171) (v := 1) dX6_isPlanBy_170 rfl (by decide) ?_
    refine g_goto (q := 175) dX6_isPlanBy_171 (by decide) ?_
    exact g_iret hX dX6_isPlanBy_175 rfl rfl (Nat.le_refl _) (Nat.le_refl _) (piOk H)
def bX6_isPlanBy_117 (F : Nat) (k15 : Sg → Int32 → Int32 → Int32 → Rs) (σ : Sg) (l1 : Int32) (l3 : Int32) : Rs := if l1 = (2 : Int32) then ((fX1_hangsTogether F σ (σ.1 20) (σ.1 19)).bind fun q1 => (fun (r1 : Int32) (σ1 : Sg) => if r1 = (0 : Int32) then (some ((0 : Int32), σ1)) else (k15 σ1 (l1) ((1 : Int32)) (l3 + 1))) q1.1 q1.2) else (k15 σ (l1) ((1 : Int32)) (l3 + 1))
set_option maxRecDepth 100000 in
set_option maxHeartbeats 4000000 in
theorem wbX6_isPlanBy_117 {x : FX} {g : GX} {ad : Nat → Nat} {ex M0 : va_W} {r : Int32} {τ : Sg} {F : Nat} (hX : RX x g M0 (Pi_ r (HH g ad τ ++ ex)) 0 0) {k15 : Sg → Int32 → Int32 → Int32 → Rs} (h15 : ∀ (σ : Sg) (l1 : Int32) (l2 : Int32) (l3 : Int32), k15 σ l1 l2 l3 = some (r, τ) → Go x { frames := 3, cells := 0, slots := 0, locals := 77 } tX6_isPlanBy g 15 [.ref (ad 0), .int l1, .int l2, .int l3, un_, un_] [] (HH g ad σ ++ ex) 0 0) (σ : Sg) (l1 : Int32) (l3 : Int32) (H : bX6_isPlanBy_117 F k15 σ l1 l3 = some (r, τ)) : Go x { frames := 3, cells := 0, slots := 0, locals := 77 } tX6_isPlanBy g 117 [.ref (ad 0), .int l1, un_, .int l3, un_, un_] [] (HH g ad σ ++ ex) 0 0 := by
  unfold bX6_isPlanBy_117 at H
  refine g_iconst (q := 118) (v := 1) dX6_isPlanBy_117 rfl (by decide) ?_
  refine g_goto (q := 122) dX6_isPlanBy_118 (by decide) ?_
  refine g_istore_n (q := 123) (L' := [.ref (ad 0), .int l1, .int ((1 : Int32)), .int l3, un_, un_]) (i := 2) dX6_isPlanBy_122 rfl rfl (Nat.le_of_ble_eq_true rfl) rfl ?_
  refine g_iload_n (q := 124) (i := 1) dX6_isPlanBy_123 rfl rfl rfl ?_
  refine g_iconst (q := 125) (v := 2) dX6_isPlanBy_124 rfl (by decide) ?_
  refine g_icmp_ne (q := 128) (r := 154) dX6_isPlanBy_125 (by decide) rfl (fun c125 => ?_) (fun c125 => ?_)
  · replace H := (if_neg c125).symm.trans H
    refine g_iinc (q := 157) (b := l3 + 1) (L' := [.ref (ad 0), .int l1, .int ((1 : Int32)), .int (l3 + 1), un_, un_]) dX6_isPlanBy_154 rfl rfl rfl (Nat.le_of_ble_eq_true rfl) rfl ?_
    refine g_goto (q := 15) dX6_isPlanBy_157 (by decide) ?_
    exact g_weak (L' := [.ref (ad 0), .int l1, .int ((1 : Int32)), .int (l3 + 1), un_, un_]) ⟨Or.inr rfl, Or.inr rfl, Or.inr rfl, Or.inr rfl, Or.inl rfl, Or.inl rfl, trivial⟩ (h15 _ _ _ _ H)
  · replace H := (if_pos c125).symm.trans H
    refine g_aload_n (q := 129) (i := 0) dX6_isPlanBy_128 rfl rfl rfl ?_
    refine g_get (q := 132) dX6_isPlanBy_129 rfl foX6_10 0 hc0 rfl ?_
    refine g_aload_n (q := 133) (i := 0) dX6_isPlanBy_132 rfl rfl rfl ?_
    refine g_get (q := 136) dX6_isPlanBy_133 rfl foX6_42 0 hc0 rfl ?_
    refine g_get (q := 139) dX6_isPlanBy_136 rfl foX6_109 22 hc22 rfl ?_
    refine g_aload_n (q := 140) (i := 0) dX6_isPlanBy_139 rfl rfl rfl ?_
    refine g_get (q := 143) dX6_isPlanBy_140 rfl foX6_42 0 hc0 rfl ?_
    refine g_get (q := 146) dX6_isPlanBy_143 rfl foX6_218 22 hc22 rfl ?_
    obtain ⟨r1, σ1, e1, H⟩ := of_bnd H
    refine g_callV (q := 149) (rest := []) dX6_isPlanBy_146 rfl cvX6_221 (ctX1_hangsTogether e1) rfl rfl ⟨Nat.le_of_ble_eq_true rfl, Nat.le_of_ble_eq_true rfl⟩ ⟨Nat.le_refl _, Nat.le_refl _⟩ (Nat.le_of_ble_eq_true rfl) 1 hc1 rfl (fun r0 M9 hp => ?_)
    obtain ⟨rfl, rfl⟩ := hp
    show Go x _ _ g 149 [.ref (ad 0), .int l1, .int ((1 : Int32)), .int l3, un_, un_] [.int r1] (HH g ad σ1 ++ ex) 0 0
    refine g_if_ne (q := 152) (r := 154) dX6_isPlanBy_149 (by decide) rfl (fun c149 => ?_) (fun c149 => ?_)
    · replace H := (if_neg c149).symm.trans H
      refine g_iinc (q := 157) (b := l3 + 1) (L' := [.ref (ad 0), .int l1, .int ((1 : Int32)), .int (l3 + 1), un_, un_]) dX6_isPlanBy_154 rfl rfl rfl (Nat.le_of_ble_eq_true rfl) rfl ?_
      refine g_goto (q := 15) dX6_isPlanBy_157 (by decide) ?_
      exact g_weak (L' := [.ref (ad 0), .int l1, .int ((1 : Int32)), .int (l3 + 1), un_, un_]) ⟨Or.inr rfl, Or.inr rfl, Or.inr rfl, Or.inr rfl, Or.inl rfl, Or.inl rfl, trivial⟩ (h15 _ _ _ _ H)
    · replace H := (if_pos c149).symm.trans H
      refine g_iconst (q := 153) (v := 0) dX6_isPlanBy_152 rfl (by decide) ?_
      exact g_iret hX dX6_isPlanBy_153 rfl rfl (Nat.le_refl _) (Nat.le_refl _) (piOk H)
def bX6_isPlanBy_15 (F : Nat) (k15 : Sg → Int32 → Int32 → Int32 → Rs) (σ : Sg) (l1 : Int32) (l2 : Int32) (l3 : Int32) : Rs := if (σ.1 3) ≤ l3 then (bX6_isPlanBy_160 F σ) else (if (200 : Int32) ≤ l3 then (bX6_isPlanBy_160 F σ) else (if ib l3 200 then (li_ (σ.2.1 7 l3.toNatClampNeg) fun v1 => if ib l3 200 then (li_ (σ.2.1 8 l3.toNatClampNeg) fun v2 => if (σ.1 20) = (0 : Int32) then (some ((0 : Int32), σ)) else ((fX1_allows F σ l1 v1 v2 l2).bind fun q3 => (fun (r3 : Int32) (σ3 : Sg) => if r3 = (0 : Int32) then (some ((0 : Int32), σ3)) else (if ib l3 200 then ((fX4_follow_22 F σ3 v1 v2 (σ3.2.1 9 l3.toNatClampNeg)).bind fun q4 => (fun (r4 : Int32) (σ4 : Sg) => if l2 = (0 : Int32) then (if v1 < (2 : Int32) then (if l1 = (2 : Int32) then ((fX1_hangsTogether F σ4 (σ4.1 20) (σ4.1 19)).bind fun q5 => (fun (r5 : Int32) (σ5 : Sg) => if r5 = (0 : Int32) then (some ((0 : Int32), σ5)) else (k15 σ5 (l1) ((0 : Int32)) (l3 + 1))) q5.1 q5.2) else (k15 σ4 (l1) ((0 : Int32)) (l3 + 1))) else (bX6_isPlanBy_117 F k15 σ4 (l1) (l3))) else (bX6_isPlanBy_117 F k15 σ4 (l1) (l3))) q4.1 q4.2) else none)) q3.1 q3.2)) else none) else none))
set_option maxRecDepth 100000 in
set_option maxHeartbeats 4000000 in
theorem wbX6_isPlanBy_15 {x : FX} {g : GX} {ad : Nat → Nat} {ex M0 : va_W} {r : Int32} {τ : Sg} {F : Nat} (hX : RX x g M0 (Pi_ r (HH g ad τ ++ ex)) 0 0) {k15 : Sg → Int32 → Int32 → Int32 → Rs} (h15 : ∀ (σ : Sg) (l1 : Int32) (l2 : Int32) (l3 : Int32), k15 σ l1 l2 l3 = some (r, τ) → Go x { frames := 3, cells := 0, slots := 0, locals := 77 } tX6_isPlanBy g 15 [.ref (ad 0), .int l1, .int l2, .int l3, un_, un_] [] (HH g ad σ ++ ex) 0 0) (σ : Sg) (l1 : Int32) (l2 : Int32) (l3 : Int32) (H : bX6_isPlanBy_15 F k15 σ l1 l2 l3 = some (r, τ)) : Go x { frames := 3, cells := 0, slots := 0, locals := 77 } tX6_isPlanBy g 15 [.ref (ad 0), .int l1, .int l2, .int l3, un_, un_] [] (HH g ad σ ++ ex) 0 0 := by
  unfold bX6_isPlanBy_15 at H
  refine g_iload_n (q := 16) (i := 3) dX6_isPlanBy_15 rfl rfl rfl ?_
  refine g_aload_n (q := 17) (i := 0) dX6_isPlanBy_16 rfl rfl rfl ?_
  refine g_get (q := 20) dX6_isPlanBy_17 rfl foX6_21 0 hc0 rfl ?_
  refine g_get (q := 23) dX6_isPlanBy_20 rfl foX6_86 6 hc6 rfl ?_
  refine g_icmp_ge (q := 26) (r := 160) dX6_isPlanBy_23 (by decide) rfl (fun c23 => ?_) (fun c23 => ?_)
  · replace H := (if_pos c23).symm.trans H
    exact g_weak (L' := [.ref (ad 0), un_, un_, un_, un_, un_]) ⟨Or.inr rfl, Or.inl rfl, Or.inl rfl, Or.inl rfl, Or.inl rfl, Or.inl rfl, trivial⟩ (wbX6_isPlanBy_160 (F := F) hX  _  H)
  · replace H := (if_neg c23).symm.trans H
    refine g_iload_n (q := 27) (i := 3) dX6_isPlanBy_26 rfl rfl rfl ?_
    refine g_sipush (q := 30) (v := 200) dX6_isPlanBy_27 rfl (by decide) ?_
    refine g_icmp_ge (q := 33) (r := 160) dX6_isPlanBy_30 (by decide) rfl (fun c30 => ?_) (fun c30 => ?_)
    · replace H := (if_pos c30).symm.trans H
      exact g_weak (L' := [.ref (ad 0), un_, un_, un_, un_, un_]) ⟨Or.inr rfl, Or.inl rfl, Or.inl rfl, Or.inl rfl, Or.inl rfl, Or.inl rfl, trivial⟩ (wbX6_isPlanBy_160 (F := F) hX  _  H)
    · replace H := (if_neg c30).symm.trans H
      refine g_aload_n (q := 34) (i := 0) dX6_isPlanBy_33 rfl rfl rfl ?_
      refine g_get (q := 37) dX6_isPlanBy_34 rfl foX6_21 0 hc0 rfl ?_
      refine g_get (q := 40) dX6_isPlanBy_37 rfl foX6_201 6 hc6 rfl ?_
      refine g_iload_n (q := 41) (i := 3) dX6_isPlanBy_40 rfl rfl rfl ?_
      obtain ⟨b41, H⟩ := of_chk H
      refine g_iald (q := 42) dX6_isPlanBy_41 rfl 7 hc7 b41 ?_
      obtain ⟨v1, n1, H⟩ := of_li H
      refine g_name n1 ?_
      refine g_istore (q := 44) (L' := [.ref (ad 0), .int l1, .int l2, .int l3, .int v1, un_]) dX6_isPlanBy_42 rfl (Nat.le_of_ble_eq_true rfl) rfl ?_
      refine g_aload_n (q := 45) (i := 0) dX6_isPlanBy_44 rfl rfl rfl ?_
      refine g_get (q := 48) dX6_isPlanBy_45 rfl foX6_21 0 hc0 rfl ?_
      refine g_get (q := 51) dX6_isPlanBy_48 rfl foX6_204 6 hc6 rfl ?_
      refine g_iload_n (q := 52) (i := 3) dX6_isPlanBy_51 rfl rfl rfl ?_
      obtain ⟨b52, H⟩ := of_chk H
      refine g_iald (q := 53) dX6_isPlanBy_52 rfl 8 hc8 b52 ?_
      obtain ⟨v2, n2, H⟩ := of_li H
      refine g_name n2 ?_
      refine g_istore (q := 55) (L' := [.ref (ad 0), .int l1, .int l2, .int l3, .int v1, .int v2]) dX6_isPlanBy_53 rfl (Nat.le_of_ble_eq_true rfl) rfl ?_
      refine g_aload_n (q := 56) (i := 0) dX6_isPlanBy_55 rfl rfl rfl ?_
      refine g_get (q := 59) dX6_isPlanBy_56 rfl foX6_42 0 hc0 rfl ?_
      refine g_get (q := 62) dX6_isPlanBy_59 rfl foX6_109 22 hc22 rfl ?_
      refine g_if_eq (q := 65) (r := 81) dX6_isPlanBy_62 (by decide) rfl (fun c62 => ?_) (fun c62 => ?_)
      · replace H := (if_pos c62).symm.trans H
        refine g_iconst (q := 82) (v := 0) dX6_isPlanBy_81 rfl (by decide) ?_
        exact g_iret hX dX6_isPlanBy_82 rfl rfl (Nat.le_refl _) (Nat.le_refl _) (piOk H)
      · replace H := (if_neg c62).symm.trans H
        refine g_aload_n (q := 66) (i := 0) dX6_isPlanBy_65 rfl rfl rfl ?_
        refine g_get (q := 69) dX6_isPlanBy_66 rfl foX6_10 0 hc0 rfl ?_
        refine g_iload_n (q := 70) (i := 1) dX6_isPlanBy_69 rfl rfl rfl ?_
        refine g_iload (q := 72) dX6_isPlanBy_70 rfl rfl ?_
        refine g_iload (q := 74) dX6_isPlanBy_72 rfl rfl ?_
        refine g_iload_n (q := 75) (i := 2) dX6_isPlanBy_74 rfl rfl rfl ?_
        obtain ⟨r3, σ3, e3, H⟩ := of_bnd H
        refine g_callV (q := 78) (rest := []) dX6_isPlanBy_75 rfl cvX6_207 (ctX1_allows e3) rfl rfl ⟨Nat.le_of_ble_eq_true rfl, Nat.le_of_ble_eq_true rfl⟩ ⟨Nat.le_refl _, Nat.le_refl _⟩ (Nat.le_of_ble_eq_true rfl) 1 hc1 rfl (fun r0 M9 hp => ?_)
        obtain ⟨rfl, rfl⟩ := hp
        show Go x _ _ g 78 [.ref (ad 0), .int l1, .int l2, .int l3, .int v1, .int v2] [.int r3] (HH g ad σ3 ++ ex) 0 0
        refine g_if_ne (q := 81) (r := 83) dX6_isPlanBy_78 (by decide) rfl (fun c78 => ?_) (fun c78 => ?_)
        · replace H := (if_neg c78).symm.trans H
          refine g_aload_n (q := 84) (i := 0) dX6_isPlanBy_83 rfl rfl rfl ?_
          refine g_get (q := 87) dX6_isPlanBy_84 rfl foX6_42 0 hc0 rfl ?_
          refine g_aload_n (q := 88) (i := 0) dX6_isPlanBy_87 rfl rfl rfl ?_
          refine g_get (q := 91) dX6_isPlanBy_88 rfl foX6_10 0 hc0 rfl ?_
          refine g_iload (q := 93) dX6_isPlanBy_91 rfl rfl ?_
          refine g_iload (q := 95) dX6_isPlanBy_93 rfl rfl ?_
          refine g_aload_n (q := 96) (i := 0) dX6_isPlanBy_95 rfl rfl rfl ?_
          refine g_get (q := 99) dX6_isPlanBy_96 rfl foX6_21 0 hc0 rfl ?_
          refine g_get (q := 102) dX6_isPlanBy_99 rfl foX6_211 6 hc6 rfl ?_
          refine g_iload_n (q := 103) (i := 3) dX6_isPlanBy_102 rfl rfl rfl ?_
          obtain ⟨b103, H⟩ := of_chk H
          refine g_iald (q := 104) dX6_isPlanBy_103 rfl 9 hc9 b103 ?_
          obtain ⟨r4, σ4, e4, H⟩ := of_bnd H
          refine g_callV (q := 107) (rest := []) dX6_isPlanBy_104 rfl cvX6_214 (ctX4_follow_22 e4) rfl rfl ⟨Nat.le_of_ble_eq_true rfl, Nat.le_of_ble_eq_true rfl⟩ ⟨Nat.le_refl _, Nat.le_refl _⟩ (Nat.le_of_ble_eq_true rfl) 22 hc22 rfl (fun r0 M9 hp => ?_)
          obtain ⟨rfl, rfl⟩ := hp
          show Go x _ _ g 107 [.ref (ad 0), .int l1, .int l2, .int l3, .int v1, .int v2] [] (HH g ad σ4 ++ ex) 0 0
          refine g_iload_n (q := 108) (i := 2) dX6_isPlanBy_107 rfl rfl rfl ?_
          refine g_if_ne (q := 111) (r := 117) dX6_isPlanBy_108 (by decide) rfl (fun c108 => ?_) (fun c108 => ?_)
          · replace H := (if_neg c108).symm.trans H
            exact g_weak (L' := [.ref (ad 0), .int l1, un_, .int l3, un_, un_]) ⟨Or.inr rfl, Or.inr rfl, Or.inl rfl, Or.inr rfl, Or.inl rfl, Or.inl rfl, trivial⟩ (wbX6_isPlanBy_117 (F := F) hX h15 _ _ _ H)
          · replace H := (if_pos c108).symm.trans H
            refine g_iload (q := 113) dX6_isPlanBy_111 rfl rfl ?_
            refine g_iconst (q := 114) (v := 2) dX6_isPlanBy_113 rfl (by decide) ?_
            refine g_icmp_lt (q := 117) (r := 121) dX6_isPlanBy_114 (by decide) rfl (fun c114 => ?_) (fun c114 => ?_)
            · replace H := (if_pos c114).symm.trans H
              refine g_iconst (q := 122) (v := 0) dX6_isPlanBy_121 rfl (by decide) ?_
              refine g_istore_n (q := 123) (L' := [.ref (ad 0), .int l1, .int ((0 : Int32)), .int l3, .int v1, .int v2]) (i := 2) dX6_isPlanBy_122 rfl rfl (Nat.le_of_ble_eq_true rfl) rfl ?_
              refine g_iload_n (q := 124) (i := 1) dX6_isPlanBy_123 rfl rfl rfl ?_
              refine g_iconst (q := 125) (v := 2) dX6_isPlanBy_124 rfl (by decide) ?_
              refine g_icmp_ne (q := 128) (r := 154) dX6_isPlanBy_125 (by decide) rfl (fun c125 => ?_) (fun c125 => ?_)
              · replace H := (if_neg c125).symm.trans H
                refine g_iinc (q := 157) (b := l3 + 1) (L' := [.ref (ad 0), .int l1, .int ((0 : Int32)), .int (l3 + 1), .int v1, .int v2]) dX6_isPlanBy_154 rfl rfl rfl (Nat.le_of_ble_eq_true rfl) rfl ?_
                refine g_goto (q := 15) dX6_isPlanBy_157 (by decide) ?_
                exact g_weak (L' := [.ref (ad 0), .int l1, .int ((0 : Int32)), .int (l3 + 1), un_, un_]) ⟨Or.inr rfl, Or.inr rfl, Or.inr rfl, Or.inr rfl, Or.inl rfl, Or.inl rfl, trivial⟩ (h15 _ _ _ _ H)
              · replace H := (if_pos c125).symm.trans H
                refine g_aload_n (q := 129) (i := 0) dX6_isPlanBy_128 rfl rfl rfl ?_
                refine g_get (q := 132) dX6_isPlanBy_129 rfl foX6_10 0 hc0 rfl ?_
                refine g_aload_n (q := 133) (i := 0) dX6_isPlanBy_132 rfl rfl rfl ?_
                refine g_get (q := 136) dX6_isPlanBy_133 rfl foX6_42 0 hc0 rfl ?_
                refine g_get (q := 139) dX6_isPlanBy_136 rfl foX6_109 22 hc22 rfl ?_
                refine g_aload_n (q := 140) (i := 0) dX6_isPlanBy_139 rfl rfl rfl ?_
                refine g_get (q := 143) dX6_isPlanBy_140 rfl foX6_42 0 hc0 rfl ?_
                refine g_get (q := 146) dX6_isPlanBy_143 rfl foX6_218 22 hc22 rfl ?_
                obtain ⟨r5, σ5, e5, H⟩ := of_bnd H
                refine g_callV (q := 149) (rest := []) dX6_isPlanBy_146 rfl cvX6_221 (ctX1_hangsTogether e5) rfl rfl ⟨Nat.le_of_ble_eq_true rfl, Nat.le_of_ble_eq_true rfl⟩ ⟨Nat.le_refl _, Nat.le_refl _⟩ (Nat.le_of_ble_eq_true rfl) 1 hc1 rfl (fun r0 M9 hp => ?_)
                obtain ⟨rfl, rfl⟩ := hp
                show Go x _ _ g 149 [.ref (ad 0), .int l1, .int ((0 : Int32)), .int l3, .int v1, .int v2] [.int r5] (HH g ad σ5 ++ ex) 0 0
                refine g_if_ne (q := 152) (r := 154) dX6_isPlanBy_149 (by decide) rfl (fun c149 => ?_) (fun c149 => ?_)
                · replace H := (if_neg c149).symm.trans H
                  refine g_iinc (q := 157) (b := l3 + 1) (L' := [.ref (ad 0), .int l1, .int ((0 : Int32)), .int (l3 + 1), .int v1, .int v2]) dX6_isPlanBy_154 rfl rfl rfl (Nat.le_of_ble_eq_true rfl) rfl ?_
                  refine g_goto (q := 15) dX6_isPlanBy_157 (by decide) ?_
                  exact g_weak (L' := [.ref (ad 0), .int l1, .int ((0 : Int32)), .int (l3 + 1), un_, un_]) ⟨Or.inr rfl, Or.inr rfl, Or.inr rfl, Or.inr rfl, Or.inl rfl, Or.inl rfl, trivial⟩ (h15 _ _ _ _ H)
                · replace H := (if_pos c149).symm.trans H
                  refine g_iconst (q := 153) (v := 0) dX6_isPlanBy_152 rfl (by decide) ?_
                  exact g_iret hX dX6_isPlanBy_153 rfl rfl (Nat.le_refl _) (Nat.le_refl _) (piOk H)
            · replace H := (if_neg c114).symm.trans H
              exact g_weak (L' := [.ref (ad 0), .int l1, un_, .int l3, un_, un_]) ⟨Or.inr rfl, Or.inr rfl, Or.inl rfl, Or.inr rfl, Or.inl rfl, Or.inl rfl, trivial⟩ (wbX6_isPlanBy_117 (F := F) hX h15 _ _ _ H)
        · replace H := (if_pos c78).symm.trans H
          refine g_iconst (q := 82) (v := 0) dX6_isPlanBy_81 rfl (by decide) ?_
          exact g_iret hX dX6_isPlanBy_82 rfl rfl (Nat.le_refl _) (Nat.le_refl _) (piOk H)
def fX6_isPlanBy_15 (F : Nat)  : Nat → Sg → Int32 → Int32 → Int32 → Rs
  | 0 => fun _ _ _ _ => none
  | n + 1 => fun σ l1 l2 l3 => bX6_isPlanBy_15 F  (fX6_isPlanBy_15 F  n) σ l1 l2 l3
theorem wfX6_isPlanBy_15 {x : FX} {g : GX} {ad : Nat → Nat} {ex M0 : va_W} {r : Int32} {τ : Sg} {F : Nat} (hX : RX x g M0 (Pi_ r (HH g ad τ ++ ex)) 0 0)   : ∀ (n : Nat) (σ : Sg) (l1 : Int32) (l2 : Int32) (l3 : Int32), fX6_isPlanBy_15 F  n σ l1 l2 l3 = some (r, τ) → Go x { frames := 3, cells := 0, slots := 0, locals := 77 } tX6_isPlanBy g 15 [.ref (ad 0), .int l1, .int l2, .int l3, un_, un_] [] (HH g ad σ ++ ex) 0 0
  | 0, _, _, _, _, H => nomatch (show (none : Rs) = some _ from H)
  | n + 1, σ, l1, l2, l3, H => wbX6_isPlanBy_15 (F := F) hX  (fun σ2 z1 z2 z3 H2 => wfX6_isPlanBy_15 (F := F) hX  n σ2 z1 z2 z3 H2) σ l1 l2 l3 H
def fX6_isPlanBy (F : Nat) (σ : Sg) (l1 : Int32) : Rs := (fX4_begin_22 F σ).bind fun q1 => (fun (r1 : Int32) (σ1 : Sg) => fX6_isPlanBy_15 F F σ1 (l1) ((0 : Int32)) ((0 : Int32))) q1.1 q1.2
set_option maxRecDepth 100000 in
set_option maxHeartbeats 4000000 in
theorem ctX6_isPlanBy {l : Launch} {g : GX} {ad : Nat → Nat} {ex : va_W} {r : Int32} {τ σ : Sg} {F : Nat} {l1 : Int32} (H : fX6_isPlanBy F σ l1 = some (r, τ)) : Ct l g yX6_isPlanBy tX6_isPlanBy 3 77 0 0 [.ref (ad 0), .int l1] (HH g ad σ ++ ex) (Pi_ r (HH g ad τ ++ ex)) := by
  refine Ct.of (L := [.ref (ad 0), .int l1, un_, un_, un_, un_]) (by decide +kernel) rfl rfl rfl (Nat.le_of_ble_eq_true rfl) rfl (fun x _ hX => ?_)
  unfold fX6_isPlanBy at H
  refine g_iconst (q := 1) (v := 0) dX6_isPlanBy_0 rfl (by decide) ?_
  refine g_istore_n (q := 2) (L' := [.ref (ad 0), .int l1, .int ((0 : Int32)), un_, un_, un_]) (i := 2) dX6_isPlanBy_1 rfl rfl (Nat.le_of_ble_eq_true rfl) rfl ?_
  refine g_aload_n (q := 3) (i := 0) dX6_isPlanBy_2 rfl rfl rfl ?_
  refine g_get (q := 6) dX6_isPlanBy_3 rfl foX6_42 0 hc0 rfl ?_
  refine g_aload_n (q := 7) (i := 0) dX6_isPlanBy_6 rfl rfl rfl ?_
  refine g_get (q := 10) dX6_isPlanBy_7 rfl foX6_10 0 hc0 rfl ?_
  obtain ⟨r1, σ1, e1, H⟩ := of_bnd H
  refine g_callV (q := 13) (rest := []) dX6_isPlanBy_10 rfl cvX6_199 (ctX4_begin_22 e1) rfl rfl ⟨Nat.le_of_ble_eq_true rfl, Nat.le_of_ble_eq_true rfl⟩ ⟨Nat.le_refl _, Nat.le_refl _⟩ (Nat.le_of_ble_eq_true rfl) 22 hc22 rfl (fun r0 M9 hp => ?_)
  obtain ⟨rfl, rfl⟩ := hp
  show Go x _ _ g 13 [.ref (ad 0), .int l1, .int ((0 : Int32)), un_, un_, un_] [] (HH g ad σ1 ++ ex) 0 0
  refine g_iconst (q := 14) (v := 0) dX6_isPlanBy_13 rfl (by decide) ?_
  refine g_istore_n (q := 15) (L' := [.ref (ad 0), .int l1, .int ((0 : Int32)), .int ((0 : Int32)), un_, un_]) (i := 3) dX6_isPlanBy_14 rfl rfl (Nat.le_of_ble_eq_true rfl) rfl ?_
  exact g_weak (L' := [.ref (ad 0), .int l1, .int ((0 : Int32)), .int ((0 : Int32)), un_, un_]) ⟨Or.inr rfl, Or.inr rfl, Or.inr rfl, Or.inr rfl, Or.inl rfl, Or.inl rfl, trivial⟩ (wfX6_isPlanBy_15 (F := F) hX  F _ _ _ _ H)
def fX6_judge (F : Nat) (σ : Sg) (l1 : Int32) : Rs := (fX6_isLaw F σ l1).bind fun q1 => (fun (r1 : Int32) (σ1 : Sg) => if r1 = (0 : Int32) then (some ((-1 : Int32), σ1)) else (if (σ1.1 0) = (0 : Int32) then (some ((-1 : Int32), σ1)) else ((fX6_isPlanBy F σ1 l1).bind fun q2 => (fun (r2 : Int32) (σ2 : Sg) => if r2 = (0 : Int32) then (some ((0 : Int32), σ2)) else (some ((1 : Int32), σ2))) q2.1 q2.2))) q1.1 q1.2
set_option maxRecDepth 100000 in
set_option maxHeartbeats 4000000 in
theorem ctX6_judge {l : Launch} {g : GX} {ad : Nat → Nat} {ex : va_W} {r : Int32} {τ σ : Sg} {F : Nat} {l1 : Int32} (H : fX6_judge F σ l1 = some (r, τ)) : Ct l g yX6_judge tX6_judge 4 102 0 0 [.ref (ad 0), .int l1] (HH g ad σ ++ ex) (Pi_ r (HH g ad τ ++ ex)) := by
  refine Ct.of (L := [.ref (ad 0), .int l1]) (by decide +kernel) rfl rfl rfl (Nat.le_of_ble_eq_true rfl) rfl (fun x _ hX => ?_)
  unfold fX6_judge at H
  refine g_iload_n (q := 1) (i := 1) dX6_judge_0 rfl rfl rfl ?_
  obtain ⟨r1, σ1, e1, H⟩ := of_bnd H
  refine g_callS (q := 4) (rest := []) dX6_judge_1 rfl csX6_161 (ctX6_isLaw e1) rfl rfl ⟨Nat.le_of_ble_eq_true rfl, Nat.le_of_ble_eq_true rfl⟩ ⟨Nat.le_refl _, Nat.le_refl _⟩ (Nat.le_of_ble_eq_true rfl) (fun r0 M9 hp => ?_)
  obtain ⟨rfl, rfl⟩ := hp
  show Go x _ _ g 4 [.ref (ad 0), .int l1] [.int r1] (HH g ad σ1 ++ ex) 0 0
  refine g_if_eq (q := 7) (r := 17) dX6_judge_4 (by decide) rfl (fun c4 => ?_) (fun c4 => ?_)
  · replace H := (if_pos c4).symm.trans H
    refine g_iconst (q := 18) (v := -1) dX6_judge_17 rfl (by decide) ?_
    exact g_iret hX dX6_judge_18 rfl rfl (Nat.le_refl _) (Nat.le_refl _) (piOk H)
  · replace H := (if_neg c4).symm.trans H
    refine g_aload_n (q := 8) (i := 0) dX6_judge_7 rfl rfl rfl ?_
    refine g_get (q := 11) dX6_judge_8 rfl foX6_10 0 hc0 rfl ?_
    refine g_get (q := 14) dX6_judge_11 rfl foX6_121 1 hc1 rfl ?_
    refine g_if_ne (q := 17) (r := 19) dX6_judge_14 (by decide) rfl (fun c14 => ?_) (fun c14 => ?_)
    · replace H := (if_neg c14).symm.trans H
      refine g_aload_n (q := 20) (i := 0) dX6_judge_19 rfl rfl rfl ?_
      refine g_iload_n (q := 21) (i := 1) dX6_judge_20 rfl rfl rfl ?_
      obtain ⟨r2, σ2, e2, H⟩ := of_bnd H
      refine g_callV (q := 24) (rest := []) dX6_judge_21 rfl cvX6_164 (ctX6_isPlanBy e2) rfl rfl ⟨Nat.le_of_ble_eq_true rfl, Nat.le_of_ble_eq_true rfl⟩ ⟨Nat.le_refl _, Nat.le_refl _⟩ (Nat.le_of_ble_eq_true rfl) 0 hc0 rfl (fun r0 M9 hp => ?_)
      obtain ⟨rfl, rfl⟩ := hp
      show Go x _ _ g 24 [.ref (ad 0), .int l1] [.int r2] (HH g ad σ2 ++ ex) 0 0
      refine g_if_eq (q := 27) (r := 31) dX6_judge_24 (by decide) rfl (fun c24 => ?_) (fun c24 => ?_)
      · replace H := (if_pos c24).symm.trans H
        refine g_iconst (q := 32) (v := 0) dX6_judge_31 rfl (by decide) ?_
        exact g_iret hX dX6_judge_32 rfl rfl (Nat.le_refl _) (Nat.le_refl _) (piOk H)
      · replace H := (if_neg c24).symm.trans H
        refine g_iconst (q := 28) (v := 1) dX6_judge_27 rfl (by decide) ?_
        refine g_goto (q := 32) dX6_judge_28 (by decide) ?_
        exact g_iret hX dX6_judge_32 rfl rfl (Nat.le_refl _) (Nat.le_refl _) (piOk H)
    · replace H := (if_pos c14).symm.trans H
      refine g_iconst (q := 18) (v := -1) dX6_judge_17 rfl (by decide) ?_
      exact g_iret hX dX6_judge_18 rfl rfl (Nat.le_refl _) (Nat.le_refl _) (piOk H)
def fX2_swapIn (F : Nat) (σ : Sg) (l1 : Int32) (l2 : Int32) : Rs := (fX2_placeOf F σ l2).bind fun q1 => (fun (r1 : Int32) (σ1 : Sg) => if r1 = (-1 : Int32) then (some (0, σ1)) else (if ib l1 12 then (if ib r1 12 then (ls_ (sa σ1 15 r1.toNatClampNeg (σ1.2.1 15 l1.toNatClampNeg)) fun σ2 => if ib l1 12 then (ls_ (sa σ2 15 l1.toNatClampNeg l2) fun σ3 => some (0, σ3)) else none) else none) else none)) q1.1 q1.2
set_option maxRecDepth 100000 in
set_option maxHeartbeats 4000000 in
theorem ctX2_swapIn {l : Launch} {g : GX} {ad : Nat → Nat} {ex : va_W} {r : Int32} {τ σ : Sg} {F : Nat} {l1 : Int32} {l2 : Int32} (H : fX2_swapIn F σ l1 l2 = some (r, τ)) : Ct l g yX2_swapIn tX2_swapIn 1 22 0 0 [.ref (ad 14), .int l1, .int l2] (HH g ad σ ++ ex) (Pv_ (HH g ad τ ++ ex)) := by
  refine Ct.of (L := [.ref (ad 14), .int l1, .int l2, un_]) (by decide +kernel) rfl rfl rfl (Nat.le_of_ble_eq_true rfl) rfl (fun x _ hX => ?_)
  unfold fX2_swapIn at H
  refine g_aload_n (q := 1) (i := 0) dX2_swapIn_0 rfl rfl rfl ?_
  refine g_iload_n (q := 2) (i := 2) dX2_swapIn_1 rfl rfl rfl ?_
  obtain ⟨r1, σ1, e1, H⟩ := of_bnd H
  refine g_callV (q := 5) (rest := []) dX2_swapIn_2 rfl cvX2_28 (ctX2_placeOf e1) rfl rfl ⟨Nat.le_of_ble_eq_true rfl, Nat.le_of_ble_eq_true rfl⟩ ⟨Nat.le_refl _, Nat.le_refl _⟩ (Nat.le_of_ble_eq_true rfl) 14 hc14 rfl (fun r0 M9 hp => ?_)
  obtain ⟨rfl, rfl⟩ := hp
  show Go x _ _ g 5 [.ref (ad 14), .int l1, .int l2, un_] [.int r1] (HH g ad σ1 ++ ex) 0 0
  refine g_istore_n (q := 6) (L' := [.ref (ad 14), .int l1, .int l2, .int r1]) (i := 3) dX2_swapIn_5 rfl rfl (Nat.le_of_ble_eq_true rfl) rfl ?_
  refine g_iload_n (q := 7) (i := 3) dX2_swapIn_6 rfl rfl rfl ?_
  refine g_iconst (q := 8) (v := -1) dX2_swapIn_7 rfl (by decide) ?_
  refine g_icmp_eq (q := 11) (r := 30) dX2_swapIn_8 (by decide) rfl (fun c8 => ?_) (fun c8 => ?_)
  · replace H := (if_pos c8).symm.trans H
    exact g_vret hX dX2_swapIn_30 rfl (Nat.le_refl _) (Nat.le_refl _) (pvOk H)
  · replace H := (if_neg c8).symm.trans H
    refine g_aload_n (q := 12) (i := 0) dX2_swapIn_11 rfl rfl rfl ?_
    refine g_get (q := 15) dX2_swapIn_12 rfl foX2_9 14 hc14 rfl ?_
    refine g_iload_n (q := 16) (i := 3) dX2_swapIn_15 rfl rfl rfl ?_
    refine g_aload_n (q := 17) (i := 0) dX2_swapIn_16 rfl rfl rfl ?_
    refine g_get (q := 20) dX2_swapIn_17 rfl foX2_9 14 hc14 rfl ?_
    refine g_iload_n (q := 21) (i := 1) dX2_swapIn_20 rfl rfl rfl ?_
    obtain ⟨b21, H⟩ := of_chk H
    refine g_iald (q := 22) dX2_swapIn_21 rfl 15 hc15 b21 ?_
    obtain ⟨b22, H⟩ := of_chk H
    obtain ⟨σ2, n2, H⟩ := of_ls H
    refine g_iast (q := 23) dX2_swapIn_22 rfl 15 hc15 b22 (ha15e n2) ?_
    refine g_aload_n (q := 24) (i := 0) dX2_swapIn_23 rfl rfl rfl ?_
    refine g_get (q := 27) dX2_swapIn_24 rfl foX2_9 14 hc14 rfl ?_
    refine g_iload_n (q := 28) (i := 1) dX2_swapIn_27 rfl rfl rfl ?_
    refine g_iload_n (q := 29) (i := 2) dX2_swapIn_28 rfl rfl rfl ?_
    obtain ⟨b29, H⟩ := of_chk H
    obtain ⟨σ3, n3, H⟩ := of_ls H
    refine g_iast (q := 30) dX2_swapIn_29 rfl 15 hc15 b29 (ha15e n3) ?_
    exact g_vret hX dX2_swapIn_30 rfl (Nat.le_refl _) (Nat.le_refl _) (pvOk H)
def fX6_place (F : Nat) (σ : Sg) (l1 : Int32) (l2 : Int32) : Rs := (fX1_hasCave F σ l1).bind fun q1 => (fun (r1 : Int32) (σ1 : Sg) => if r1 = (0 : Int32) then (some ((0 : Int32), σ1)) else ((fX1_hasCave F σ1 l2).bind fun q2 => (fun (r2 : Int32) (σ2 : Sg) => if r2 = (0 : Int32) then (some ((0 : Int32), σ2)) else ((fX2_swapIn F σ2 l1 l2).bind fun q3 => (fun (r3 : Int32) (σ3 : Sg) => some ((1 : Int32), σ3)) q3.1 q3.2)) q2.1 q2.2)) q1.1 q1.2
set_option maxRecDepth 100000 in
set_option maxHeartbeats 4000000 in
theorem ctX6_place {l : Launch} {g : GX} {ad : Nat → Nat} {ex : va_W} {r : Int32} {τ σ : Sg} {F : Nat} {l1 : Int32} {l2 : Int32} (H : fX6_place F σ l1 l2 = some (r, τ)) : Ct l g yX6_place tX6_place 2 45 0 0 [.ref (ad 0), .int l1, .int l2] (HH g ad σ ++ ex) (Pi_ r (HH g ad τ ++ ex)) := by
  refine Ct.of (L := [.ref (ad 0), .int l1, .int l2]) (by decide +kernel) rfl rfl rfl (Nat.le_of_ble_eq_true rfl) rfl (fun x _ hX => ?_)
  unfold fX6_place at H
  refine g_aload_n (q := 1) (i := 0) dX6_place_0 rfl rfl rfl ?_
  refine g_get (q := 4) dX6_place_1 rfl foX6_10 0 hc0 rfl ?_
  refine g_iload_n (q := 5) (i := 1) dX6_place_4 rfl rfl rfl ?_
  obtain ⟨r1, σ1, e1, H⟩ := of_bnd H
  refine g_callV (q := 8) (rest := []) dX6_place_5 rfl cvX6_64 (ctX1_hasCave e1) rfl rfl ⟨Nat.le_of_ble_eq_true rfl, Nat.le_of_ble_eq_true rfl⟩ ⟨Nat.le_refl _, Nat.le_refl _⟩ (Nat.le_of_ble_eq_true rfl) 1 hc1 rfl (fun r0 M9 hp => ?_)
  obtain ⟨rfl, rfl⟩ := hp
  show Go x _ _ g 8 [.ref (ad 0), .int l1, .int l2] [.int r1] (HH g ad σ1 ++ ex) 0 0
  refine g_if_eq (q := 11) (r := 22) dX6_place_8 (by decide) rfl (fun c8 => ?_) (fun c8 => ?_)
  · replace H := (if_pos c8).symm.trans H
    refine g_iconst (q := 23) (v := 0) dX6_place_22 rfl (by decide) ?_
    exact g_iret hX dX6_place_23 rfl rfl (Nat.le_refl _) (Nat.le_refl _) (piOk H)
  · replace H := (if_neg c8).symm.trans H
    refine g_aload_n (q := 12) (i := 0) dX6_place_11 rfl rfl rfl ?_
    refine g_get (q := 15) dX6_place_12 rfl foX6_10 0 hc0 rfl ?_
    refine g_iload_n (q := 16) (i := 2) dX6_place_15 rfl rfl rfl ?_
    obtain ⟨r2, σ2, e2, H⟩ := of_bnd H
    refine g_callV (q := 19) (rest := []) dX6_place_16 rfl cvX6_64 (ctX1_hasCave e2) rfl rfl ⟨Nat.le_of_ble_eq_true rfl, Nat.le_of_ble_eq_true rfl⟩ ⟨Nat.le_refl _, Nat.le_refl _⟩ (Nat.le_of_ble_eq_true rfl) 1 hc1 rfl (fun r0 M9 hp => ?_)
    obtain ⟨rfl, rfl⟩ := hp
    show Go x _ _ g 19 [.ref (ad 0), .int l1, .int l2] [.int r2] (HH g ad σ2 ++ ex) 0 0
    refine g_if_ne (q := 22) (r := 24) dX6_place_19 (by decide) rfl (fun c19 => ?_) (fun c19 => ?_)
    · replace H := (if_neg c19).symm.trans H
      refine g_aload_n (q := 25) (i := 0) dX6_place_24 rfl rfl rfl ?_
      refine g_get (q := 28) dX6_place_25 rfl foX6_28 0 hc0 rfl ?_
      refine g_iload_n (q := 29) (i := 1) dX6_place_28 rfl rfl rfl ?_
      refine g_iload_n (q := 30) (i := 2) dX6_place_29 rfl rfl rfl ?_
      obtain ⟨r3, σ3, e3, H⟩ := of_bnd H
      refine g_callV (q := 33) (rest := []) dX6_place_30 rfl cvX6_167 (ctX2_swapIn e3) rfl rfl ⟨Nat.le_of_ble_eq_true rfl, Nat.le_of_ble_eq_true rfl⟩ ⟨Nat.le_refl _, Nat.le_refl _⟩ (Nat.le_of_ble_eq_true rfl) 14 hc14 rfl (fun r0 M9 hp => ?_)
      obtain ⟨rfl, rfl⟩ := hp
      show Go x _ _ g 33 [.ref (ad 0), .int l1, .int l2] [] (HH g ad σ3 ++ ex) 0 0
      refine g_iconst (q := 34) (v := 1) dX6_place_33 rfl (by decide) ?_
      exact g_iret hX dX6_place_34 rfl rfl (Nat.le_refl _) (Nat.le_refl _) (piOk H)
    · replace H := (if_pos c19).symm.trans H
      refine g_iconst (q := 23) (v := 0) dX6_place_22 rfl (by decide) ?_
      exact g_iret hX dX6_place_23 rfl rfl (Nat.le_refl _) (Nat.le_refl _) (piOk H)
def bX1_cutBetween_4 (F : Nat) (k4 : Sg → Int32 → Int32 → Int32 → Rs) (σ : Sg) (l1 : Int32) (l2 : Int32) (l3 : Int32) : Rs := if (σ.1 0) ≤ l3 then (some (l2, σ)) else (if ((l1 >>> (l3 &&& 31)) &&& (1 : Int32)) = (0 : Int32) then (k4 σ (l1) (l2) (l3 + 1)) else (if ib l3 12 then (if ((σ.2.1 5 l3.toNatClampNeg) &&& (l1 ^^^ (-1 : Int32))) = (0 : Int32) then (k4 σ (l1) (l2) (l3 + 1)) else (k4 σ (l1) (l2 + 1) (l3 + 1))) else none))
set_option maxRecDepth 100000 in
set_option maxHeartbeats 4000000 in
theorem wbX1_cutBetween_4 {x : FX} {g : GX} {ad : Nat → Nat} {ex M0 : va_W} {r : Int32} {τ : Sg} {F : Nat} (hX : RX x g M0 (Pi_ r (HH g ad τ ++ ex)) 0 0) {k4 : Sg → Int32 → Int32 → Int32 → Rs} (h4 : ∀ (σ : Sg) (l1 : Int32) (l2 : Int32) (l3 : Int32), k4 σ l1 l2 l3 = some (r, τ) → Go x { frames := 0, cells := 0, slots := 0, locals := 0 } tX1_cutBetween g 4 [.ref (ad 1), .int l1, .int l2, .int l3] [] (HH g ad σ ++ ex) 0 0) (σ : Sg) (l1 : Int32) (l2 : Int32) (l3 : Int32) (H : bX1_cutBetween_4 F k4 σ l1 l2 l3 = some (r, τ)) : Go x { frames := 0, cells := 0, slots := 0, locals := 0 } tX1_cutBetween g 4 [.ref (ad 1), .int l1, .int l2, .int l3] [] (HH g ad σ ++ ex) 0 0 := by
  unfold bX1_cutBetween_4 at H
  refine g_iload_n (q := 5) (i := 3) dX1_cutBetween_4 rfl rfl rfl ?_
  refine g_aload_n (q := 6) (i := 0) dX1_cutBetween_5 rfl rfl rfl ?_
  refine g_get (q := 9) dX1_cutBetween_6 rfl foX1_24 1 hc1 rfl ?_
  refine g_icmp_ge (q := 12) (r := 42) dX1_cutBetween_9 (by decide) rfl (fun c9 => ?_) (fun c9 => ?_)
  · replace H := (if_pos c9).symm.trans H
    refine g_iload_n (q := 43) (i := 2) dX1_cutBetween_42 rfl rfl rfl ?_
    exact g_iret hX dX1_cutBetween_43 rfl rfl (Nat.le_refl _) (Nat.le_refl _) (piOk H)
  · replace H := (if_neg c9).symm.trans H
    refine g_iload_n (q := 13) (i := 1) dX1_cutBetween_12 rfl rfl rfl ?_
    refine g_iload_n (q := 14) (i := 3) dX1_cutBetween_13 rfl rfl rfl ?_
    refine g_ishr (q := 15) dX1_cutBetween_14 rfl ?_
    refine g_iconst (q := 16) (v := 1) dX1_cutBetween_15 rfl (by decide) ?_
    refine g_iand (q := 17) dX1_cutBetween_16 rfl ?_
    refine g_if_eq (q := 20) (r := 36) dX1_cutBetween_17 (by decide) rfl (fun c17 => ?_) (fun c17 => ?_)
    · replace H := (if_pos c17).symm.trans H
      refine g_iinc (q := 39) (b := l3 + 1) (L' := [.ref (ad 1), .int l1, .int l2, .int (l3 + 1)]) dX1_cutBetween_36 rfl rfl rfl (Nat.le_of_ble_eq_true rfl) rfl ?_
      refine g_goto (q := 4) dX1_cutBetween_39 (by decide) ?_
      exact g_weak (L' := [.ref (ad 1), .int l1, .int l2, .int (l3 + 1)]) ⟨Or.inr rfl, Or.inr rfl, Or.inr rfl, Or.inr rfl, trivial⟩ (h4 _ _ _ _ H)
    · replace H := (if_neg c17).symm.trans H
      refine g_aload_n (q := 21) (i := 0) dX1_cutBetween_20 rfl rfl rfl ?_
      refine g_get (q := 24) dX1_cutBetween_21 rfl foX1_21 1 hc1 rfl ?_
      refine g_iload_n (q := 25) (i := 3) dX1_cutBetween_24 rfl rfl rfl ?_
      obtain ⟨b25, H⟩ := of_chk H
      refine g_iald (q := 26) dX1_cutBetween_25 rfl 5 hc5 b25 ?_
      refine g_iload_n (q := 27) (i := 1) dX1_cutBetween_26 rfl rfl rfl ?_
      refine g_iconst (q := 28) (v := -1) dX1_cutBetween_27 rfl (by decide) ?_
      refine g_ixor (q := 29) dX1_cutBetween_28 rfl ?_
      refine g_iand (q := 30) dX1_cutBetween_29 rfl ?_
      refine g_if_eq (q := 33) (r := 36) dX1_cutBetween_30 (by decide) rfl (fun c30 => ?_) (fun c30 => ?_)
      · replace H := (if_pos c30).symm.trans H
        refine g_iinc (q := 39) (b := l3 + 1) (L' := [.ref (ad 1), .int l1, .int l2, .int (l3 + 1)]) dX1_cutBetween_36 rfl rfl rfl (Nat.le_of_ble_eq_true rfl) rfl ?_
        refine g_goto (q := 4) dX1_cutBetween_39 (by decide) ?_
        exact g_weak (L' := [.ref (ad 1), .int l1, .int l2, .int (l3 + 1)]) ⟨Or.inr rfl, Or.inr rfl, Or.inr rfl, Or.inr rfl, trivial⟩ (h4 _ _ _ _ H)
      · replace H := (if_neg c30).symm.trans H
        refine g_iinc (q := 36) (b := l2 + 1) (L' := [.ref (ad 1), .int l1, .int (l2 + 1), .int l3]) dX1_cutBetween_33 rfl rfl rfl (Nat.le_of_ble_eq_true rfl) rfl ?_
        refine g_iinc (q := 39) (b := l3 + 1) (L' := [.ref (ad 1), .int l1, .int (l2 + 1), .int (l3 + 1)]) dX1_cutBetween_36 rfl rfl rfl (Nat.le_of_ble_eq_true rfl) rfl ?_
        refine g_goto (q := 4) dX1_cutBetween_39 (by decide) ?_
        exact g_weak (L' := [.ref (ad 1), .int l1, .int (l2 + 1), .int (l3 + 1)]) ⟨Or.inr rfl, Or.inr rfl, Or.inr rfl, Or.inr rfl, trivial⟩ (h4 _ _ _ _ H)
def fX1_cutBetween_4 (F : Nat)  : Nat → Sg → Int32 → Int32 → Int32 → Rs
  | 0 => fun _ _ _ _ => none
  | n + 1 => fun σ l1 l2 l3 => bX1_cutBetween_4 F  (fX1_cutBetween_4 F  n) σ l1 l2 l3
theorem wfX1_cutBetween_4 {x : FX} {g : GX} {ad : Nat → Nat} {ex M0 : va_W} {r : Int32} {τ : Sg} {F : Nat} (hX : RX x g M0 (Pi_ r (HH g ad τ ++ ex)) 0 0)   : ∀ (n : Nat) (σ : Sg) (l1 : Int32) (l2 : Int32) (l3 : Int32), fX1_cutBetween_4 F  n σ l1 l2 l3 = some (r, τ) → Go x { frames := 0, cells := 0, slots := 0, locals := 0 } tX1_cutBetween g 4 [.ref (ad 1), .int l1, .int l2, .int l3] [] (HH g ad σ ++ ex) 0 0
  | 0, _, _, _, _, H => nomatch (show (none : Rs) = some _ from H)
  | n + 1, σ, l1, l2, l3, H => wbX1_cutBetween_4 (F := F) hX  (fun σ2 z1 z2 z3 H2 => wfX1_cutBetween_4 (F := F) hX  n σ2 z1 z2 z3 H2) σ l1 l2 l3 H
def fX1_cutBetween (F : Nat) (σ : Sg) (l1 : Int32) : Rs := fX1_cutBetween_4 F F σ (l1) ((0 : Int32)) ((0 : Int32))
set_option maxRecDepth 100000 in
set_option maxHeartbeats 4000000 in
theorem ctX1_cutBetween {l : Launch} {g : GX} {ad : Nat → Nat} {ex : va_W} {r : Int32} {τ σ : Sg} {F : Nat} {l1 : Int32} (H : fX1_cutBetween F σ l1 = some (r, τ)) : Ct l g yX1_cutBetween tX1_cutBetween 0 0 0 0 [.ref (ad 1), .int l1] (HH g ad σ ++ ex) (Pi_ r (HH g ad τ ++ ex)) := by
  refine Ct.of (L := [.ref (ad 1), .int l1, un_, un_]) (by decide +kernel) rfl rfl rfl (Nat.le_of_ble_eq_true rfl) rfl (fun x _ hX => ?_)
  unfold fX1_cutBetween at H
  refine g_iconst (q := 1) (v := 0) dX1_cutBetween_0 rfl (by decide) ?_
  refine g_istore_n (q := 2) (L' := [.ref (ad 1), .int l1, .int ((0 : Int32)), un_]) (i := 2) dX1_cutBetween_1 rfl rfl (Nat.le_of_ble_eq_true rfl) rfl ?_
  refine g_iconst (q := 3) (v := 0) dX1_cutBetween_2 rfl (by decide) ?_
  refine g_istore_n (q := 4) (L' := [.ref (ad 1), .int l1, .int ((0 : Int32)), .int ((0 : Int32))]) (i := 3) dX1_cutBetween_3 rfl rfl (Nat.le_of_ble_eq_true rfl) rfl ?_
  exact g_weak (L' := [.ref (ad 1), .int l1, .int ((0 : Int32)), .int ((0 : Int32))]) ⟨Or.inr rfl, Or.inr rfl, Or.inr rfl, Or.inr rfl, trivial⟩ (wfX1_cutBetween_4 (F := F) hX  F _ _ _ _ H)
def bX2_cutBehind_4 (F : Nat) (k4 : Sg → Int32 → Int32 → Int32 → Rs) (σ : Sg) (l1 : Int32) (l2 : Int32) (l3 : Int32) : Rs := if l1 ≤ l3 then ((fX1_cutBetween F σ l2).bind fun q1 => (fun (r1 : Int32) (σ1 : Sg) => some (r1, σ1)) q1.1 q1.2) else (if (σ.1 0) ≤ l3 then ((fX1_cutBetween F σ l2).bind fun q2 => (fun (r2 : Int32) (σ2 : Sg) => some (r2, σ2)) q2.1 q2.2) else (if ib l3 12 then (li_ (l2 ||| ((1 : Int32) <<< ((σ.2.1 15 l3.toNatClampNeg) &&& 31))) fun v3 => k4 σ (l1) (v3) (l3 + 1)) else none))
set_option maxRecDepth 100000 in
set_option maxHeartbeats 4000000 in
theorem wbX2_cutBehind_4 {x : FX} {g : GX} {ad : Nat → Nat} {ex M0 : va_W} {r : Int32} {τ : Sg} {F : Nat} (hX : RX x g M0 (Pi_ r (HH g ad τ ++ ex)) 0 0) {k4 : Sg → Int32 → Int32 → Int32 → Rs} (h4 : ∀ (σ : Sg) (l1 : Int32) (l2 : Int32) (l3 : Int32), k4 σ l1 l2 l3 = some (r, τ) → Go x { frames := 1, cells := 0, slots := 0, locals := 23 } tX2_cutBehind g 4 [.ref (ad 14), .int l1, .int l2, .int l3] [] (HH g ad σ ++ ex) 0 0) (σ : Sg) (l1 : Int32) (l2 : Int32) (l3 : Int32) (H : bX2_cutBehind_4 F k4 σ l1 l2 l3 = some (r, τ)) : Go x { frames := 1, cells := 0, slots := 0, locals := 23 } tX2_cutBehind g 4 [.ref (ad 14), .int l1, .int l2, .int l3] [] (HH g ad σ ++ ex) 0 0 := by
  unfold bX2_cutBehind_4 at H
  refine g_iload_n (q := 5) (i := 3) dX2_cutBehind_4 rfl rfl rfl ?_
  refine g_iload_n (q := 6) (i := 1) dX2_cutBehind_5 rfl rfl rfl ?_
  refine g_icmp_ge (q := 9) (r := 37) dX2_cutBehind_6 (by decide) rfl (fun c6 => ?_) (fun c6 => ?_)
  · replace H := (if_pos c6).symm.trans H
    refine g_aload_n (q := 38) (i := 0) dX2_cutBehind_37 rfl rfl rfl ?_
    refine g_get (q := 41) dX2_cutBehind_38 rfl foX2_18 14 hc14 rfl ?_
    refine g_iload_n (q := 42) (i := 2) dX2_cutBehind_41 rfl rfl rfl ?_
    obtain ⟨r1, σ1, e1, H⟩ := of_bnd H
    refine g_callV (q := 45) (rest := []) dX2_cutBehind_42 rfl cvX2_32 (ctX1_cutBetween e1) rfl rfl ⟨Nat.le_of_ble_eq_true rfl, Nat.le_of_ble_eq_true rfl⟩ ⟨Nat.le_refl _, Nat.le_refl _⟩ (Nat.le_of_ble_eq_true rfl) 1 hc1 rfl (fun r0 M9 hp => ?_)
    obtain ⟨rfl, rfl⟩ := hp
    show Go x _ _ g 45 [.ref (ad 14), .int l1, .int l2, .int l3] [.int r1] (HH g ad σ1 ++ ex) 0 0
    exact g_iret hX dX2_cutBehind_45 rfl rfl (Nat.le_refl _) (Nat.le_refl _) (piOk H)
  · replace H := (if_neg c6).symm.trans H
    refine g_iload_n (q := 10) (i := 3) dX2_cutBehind_9 rfl rfl rfl ?_
    refine g_aload_n (q := 11) (i := 0) dX2_cutBehind_10 rfl rfl rfl ?_
    refine g_get (q := 14) dX2_cutBehind_11 rfl foX2_18 14 hc14 rfl ?_
    refine g_get (q := 17) dX2_cutBehind_14 rfl foX2_22 1 hc1 rfl ?_
    refine g_icmp_ge (q := 20) (r := 37) dX2_cutBehind_17 (by decide) rfl (fun c17 => ?_) (fun c17 => ?_)
    · replace H := (if_pos c17).symm.trans H
      refine g_aload_n (q := 38) (i := 0) dX2_cutBehind_37 rfl rfl rfl ?_
      refine g_get (q := 41) dX2_cutBehind_38 rfl foX2_18 14 hc14 rfl ?_
      refine g_iload_n (q := 42) (i := 2) dX2_cutBehind_41 rfl rfl rfl ?_
      obtain ⟨r2, σ2, e2, H⟩ := of_bnd H
      refine g_callV (q := 45) (rest := []) dX2_cutBehind_42 rfl cvX2_32 (ctX1_cutBetween e2) rfl rfl ⟨Nat.le_of_ble_eq_true rfl, Nat.le_of_ble_eq_true rfl⟩ ⟨Nat.le_refl _, Nat.le_refl _⟩ (Nat.le_of_ble_eq_true rfl) 1 hc1 rfl (fun r0 M9 hp => ?_)
      obtain ⟨rfl, rfl⟩ := hp
      show Go x _ _ g 45 [.ref (ad 14), .int l1, .int l2, .int l3] [.int r2] (HH g ad σ2 ++ ex) 0 0
      exact g_iret hX dX2_cutBehind_45 rfl rfl (Nat.le_refl _) (Nat.le_refl _) (piOk H)
    · replace H := (if_neg c17).symm.trans H
      refine g_iload_n (q := 21) (i := 2) dX2_cutBehind_20 rfl rfl rfl ?_
      refine g_iconst (q := 22) (v := 1) dX2_cutBehind_21 rfl (by decide) ?_
      refine g_aload_n (q := 23) (i := 0) dX2_cutBehind_22 rfl rfl rfl ?_
      refine g_get (q := 26) dX2_cutBehind_23 rfl foX2_9 14 hc14 rfl ?_
      refine g_iload_n (q := 27) (i := 3) dX2_cutBehind_26 rfl rfl rfl ?_
      obtain ⟨b27, H⟩ := of_chk H
      refine g_iald (q := 28) dX2_cutBehind_27 rfl 15 hc15 b27 ?_
      refine g_ishl (q := 29) dX2_cutBehind_28 rfl ?_
      refine g_ior (q := 30) dX2_cutBehind_29 rfl ?_
      obtain ⟨v3, n3, H⟩ := of_li H
      refine g_name n3 ?_
      refine g_istore_n (q := 31) (L' := [.ref (ad 14), .int l1, .int v3, .int l3]) (i := 2) dX2_cutBehind_30 rfl rfl (Nat.le_of_ble_eq_true rfl) rfl ?_
      refine g_iinc (q := 34) (b := l3 + 1) (L' := [.ref (ad 14), .int l1, .int v3, .int (l3 + 1)]) dX2_cutBehind_31 rfl rfl rfl (Nat.le_of_ble_eq_true rfl) rfl ?_
      refine g_goto (q := 4) dX2_cutBehind_34 (by decide) ?_
      exact g_weak (L' := [.ref (ad 14), .int l1, .int v3, .int (l3 + 1)]) ⟨Or.inr rfl, Or.inr rfl, Or.inr rfl, Or.inr rfl, trivial⟩ (h4 _ _ _ _ H)
def fX2_cutBehind_4 (F : Nat)  : Nat → Sg → Int32 → Int32 → Int32 → Rs
  | 0 => fun _ _ _ _ => none
  | n + 1 => fun σ l1 l2 l3 => bX2_cutBehind_4 F  (fX2_cutBehind_4 F  n) σ l1 l2 l3
theorem wfX2_cutBehind_4 {x : FX} {g : GX} {ad : Nat → Nat} {ex M0 : va_W} {r : Int32} {τ : Sg} {F : Nat} (hX : RX x g M0 (Pi_ r (HH g ad τ ++ ex)) 0 0)   : ∀ (n : Nat) (σ : Sg) (l1 : Int32) (l2 : Int32) (l3 : Int32), fX2_cutBehind_4 F  n σ l1 l2 l3 = some (r, τ) → Go x { frames := 1, cells := 0, slots := 0, locals := 23 } tX2_cutBehind g 4 [.ref (ad 14), .int l1, .int l2, .int l3] [] (HH g ad σ ++ ex) 0 0
  | 0, _, _, _, _, H => nomatch (show (none : Rs) = some _ from H)
  | n + 1, σ, l1, l2, l3, H => wbX2_cutBehind_4 (F := F) hX  (fun σ2 z1 z2 z3 H2 => wfX2_cutBehind_4 (F := F) hX  n σ2 z1 z2 z3 H2) σ l1 l2 l3 H
def fX2_cutBehind (F : Nat) (σ : Sg) (l1 : Int32) : Rs := fX2_cutBehind_4 F F σ (l1) ((0 : Int32)) ((0 : Int32))
set_option maxRecDepth 100000 in
set_option maxHeartbeats 4000000 in
theorem ctX2_cutBehind {l : Launch} {g : GX} {ad : Nat → Nat} {ex : va_W} {r : Int32} {τ σ : Sg} {F : Nat} {l1 : Int32} (H : fX2_cutBehind F σ l1 = some (r, τ)) : Ct l g yX2_cutBehind tX2_cutBehind 1 23 0 0 [.ref (ad 14), .int l1] (HH g ad σ ++ ex) (Pi_ r (HH g ad τ ++ ex)) := by
  refine Ct.of (L := [.ref (ad 14), .int l1, un_, un_]) (by decide +kernel) rfl rfl rfl (Nat.le_of_ble_eq_true rfl) rfl (fun x _ hX => ?_)
  unfold fX2_cutBehind at H
  refine g_iconst (q := 1) (v := 0) dX2_cutBehind_0 rfl (by decide) ?_
  refine g_istore_n (q := 2) (L' := [.ref (ad 14), .int l1, .int ((0 : Int32)), un_]) (i := 2) dX2_cutBehind_1 rfl rfl (Nat.le_of_ble_eq_true rfl) rfl ?_
  refine g_iconst (q := 3) (v := 0) dX2_cutBehind_2 rfl (by decide) ?_
  refine g_istore_n (q := 4) (L' := [.ref (ad 14), .int l1, .int ((0 : Int32)), .int ((0 : Int32))]) (i := 3) dX2_cutBehind_3 rfl rfl (Nat.le_of_ble_eq_true rfl) rfl ?_
  exact g_weak (L' := [.ref (ad 14), .int l1, .int ((0 : Int32)), .int ((0 : Int32))]) ⟨Or.inr rfl, Or.inr rfl, Or.inr rfl, Or.inr rfl, trivial⟩ (wfX2_cutBehind_4 (F := F) hX  F _ _ _ _ H)
def bX2_greatestCut_4 (F : Nat) (k4 : Sg → Int32 → Int32 → Rs) (σ : Sg) (l1 : Int32) (l2 : Int32) : Rs := if (σ.1 0) < l2 then (some (l1, σ)) else ((fX2_cutBehind F σ l2).bind fun q1 => (fun (r1 : Int32) (σ1 : Sg) => k4 σ1 (mx_ l1 r1) (l2 + 1)) q1.1 q1.2)
set_option maxRecDepth 100000 in
set_option maxHeartbeats 4000000 in
theorem wbX2_greatestCut_4 {x : FX} {g : GX} {ad : Nat → Nat} {ex M0 : va_W} {r : Int32} {τ : Sg} {F : Nat} (hX : RX x g M0 (Pi_ r (HH g ad τ ++ ex)) 0 0) {k4 : Sg → Int32 → Int32 → Rs} (h4 : ∀ (σ : Sg) (l1 : Int32) (l2 : Int32), k4 σ l1 l2 = some (r, τ) → Go x { frames := 2, cells := 0, slots := 0, locals := 46 } tX2_greatestCut g 4 [.ref (ad 14), .int l1, .int l2] [] (HH g ad σ ++ ex) 0 0) (σ : Sg) (l1 : Int32) (l2 : Int32) (H : bX2_greatestCut_4 F k4 σ l1 l2 = some (r, τ)) : Go x { frames := 2, cells := 0, slots := 0, locals := 46 } tX2_greatestCut g 4 [.ref (ad 14), .int l1, .int l2] [] (HH g ad σ ++ ex) 0 0 := by
  unfold bX2_greatestCut_4 at H
  refine g_iload_n (q := 5) (i := 2) dX2_greatestCut_4 rfl rfl rfl ?_
  refine g_aload_n (q := 6) (i := 0) dX2_greatestCut_5 rfl rfl rfl ?_
  refine g_get (q := 9) dX2_greatestCut_6 rfl foX2_18 14 hc14 rfl ?_
  refine g_get (q := 12) dX2_greatestCut_9 rfl foX2_22 1 hc1 rfl ?_
  refine g_icmp_gt (q := 15) (r := 31) dX2_greatestCut_12 (by decide) rfl (fun c12 => ?_) (fun c12 => ?_)
  · replace H := (if_pos c12).symm.trans H
    refine g_iload_n (q := 32) (i := 1) dX2_greatestCut_31 rfl rfl rfl ?_
    exact g_iret hX dX2_greatestCut_32 rfl rfl (Nat.le_refl _) (Nat.le_refl _) (piOk H)
  · replace H := (if_neg c12).symm.trans H
    refine g_iload_n (q := 16) (i := 1) dX2_greatestCut_15 rfl rfl rfl ?_
    refine g_aload_n (q := 17) (i := 0) dX2_greatestCut_16 rfl rfl rfl ?_
    refine g_iload_n (q := 18) (i := 2) dX2_greatestCut_17 rfl rfl rfl ?_
    obtain ⟨r1, σ1, e1, H⟩ := of_bnd H
    refine g_callV (q := 21) (rest := [.int l1]) dX2_greatestCut_18 rfl cvX2_35 (ctX2_cutBehind e1) rfl rfl ⟨Nat.le_of_ble_eq_true rfl, Nat.le_of_ble_eq_true rfl⟩ ⟨Nat.le_refl _, Nat.le_refl _⟩ (Nat.le_of_ble_eq_true rfl) 14 hc14 rfl (fun r0 M9 hp => ?_)
    obtain ⟨rfl, rfl⟩ := hp
    show Go x _ _ g 21 [.ref (ad 14), .int l1, .int l2] [.int r1, .int l1] (HH g ad σ1 ++ ex) 0 0
    refine g_max (q := 24) dX2_greatestCut_21 rfl csX2_38 (Nat.le_of_ble_eq_true rfl) (Nat.le_of_ble_eq_true rfl) (Nat.le_refl _) (Nat.le_refl _) ?_
    refine g_istore_n (q := 25) (L' := [.ref (ad 14), .int (mx_ l1 r1), .int l2]) (i := 1) dX2_greatestCut_24 rfl rfl (Nat.le_of_ble_eq_true rfl) rfl ?_
    refine g_iinc (q := 28) (b := l2 + 1) (L' := [.ref (ad 14), .int (mx_ l1 r1), .int (l2 + 1)]) dX2_greatestCut_25 rfl rfl rfl (Nat.le_of_ble_eq_true rfl) rfl ?_
    refine g_goto (q := 4) dX2_greatestCut_28 (by decide) ?_
    exact g_weak (L' := [.ref (ad 14), .int (mx_ l1 r1), .int (l2 + 1)]) ⟨Or.inr rfl, Or.inr rfl, Or.inr rfl, trivial⟩ (h4 _ _ _ H)
def fX2_greatestCut_4 (F : Nat)  : Nat → Sg → Int32 → Int32 → Rs
  | 0 => fun _ _ _ => none
  | n + 1 => fun σ l1 l2 => bX2_greatestCut_4 F  (fX2_greatestCut_4 F  n) σ l1 l2
theorem wfX2_greatestCut_4 {x : FX} {g : GX} {ad : Nat → Nat} {ex M0 : va_W} {r : Int32} {τ : Sg} {F : Nat} (hX : RX x g M0 (Pi_ r (HH g ad τ ++ ex)) 0 0)   : ∀ (n : Nat) (σ : Sg) (l1 : Int32) (l2 : Int32), fX2_greatestCut_4 F  n σ l1 l2 = some (r, τ) → Go x { frames := 2, cells := 0, slots := 0, locals := 46 } tX2_greatestCut g 4 [.ref (ad 14), .int l1, .int l2] [] (HH g ad σ ++ ex) 0 0
  | 0, _, _, _, H => nomatch (show (none : Rs) = some _ from H)
  | n + 1, σ, l1, l2, H => wbX2_greatestCut_4 (F := F) hX  (fun σ2 z1 z2 H2 => wfX2_greatestCut_4 (F := F) hX  n σ2 z1 z2 H2) σ l1 l2 H
def fX2_greatestCut (F : Nat) (σ : Sg)  : Rs := fX2_greatestCut_4 F F σ ((-1 : Int32)) ((1 : Int32))
set_option maxRecDepth 100000 in
set_option maxHeartbeats 4000000 in
theorem ctX2_greatestCut {l : Launch} {g : GX} {ad : Nat → Nat} {ex : va_W} {r : Int32} {τ σ : Sg} {F : Nat}  (H : fX2_greatestCut F σ  = some (r, τ)) : Ct l g yX2_greatestCut tX2_greatestCut 2 46 0 0 [.ref (ad 14)] (HH g ad σ ++ ex) (Pi_ r (HH g ad τ ++ ex)) := by
  refine Ct.of (L := [.ref (ad 14), un_, un_]) (by decide +kernel) rfl rfl rfl (Nat.le_of_ble_eq_true rfl) rfl (fun x _ hX => ?_)
  unfold fX2_greatestCut at H
  refine g_iconst (q := 1) (v := -1) dX2_greatestCut_0 rfl (by decide) ?_
  refine g_istore_n (q := 2) (L' := [.ref (ad 14), .int ((-1 : Int32)), un_]) (i := 1) dX2_greatestCut_1 rfl rfl (Nat.le_of_ble_eq_true rfl) rfl ?_
  refine g_iconst (q := 3) (v := 1) dX2_greatestCut_2 rfl (by decide) ?_
  refine g_istore_n (q := 4) (L' := [.ref (ad 14), .int ((-1 : Int32)), .int ((1 : Int32))]) (i := 2) dX2_greatestCut_3 rfl rfl (Nat.le_of_ble_eq_true rfl) rfl ?_
  exact g_weak (L' := [.ref (ad 14), .int ((-1 : Int32)), .int ((1 : Int32))]) ⟨Or.inr rfl, Or.inr rfl, Or.inr rfl, trivial⟩ (wfX2_greatestCut_4 (F := F) hX  F _ _ _ H)
