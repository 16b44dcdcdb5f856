def bX4_follow_12_37 (F : Nat)  (σ : Sg) (l2 : Int32) (l3 : Int32) (l4 : Int32) : Rs := if l2 < (2 : Int32) then ((fX1_lostBehind F σ (σ.1 7) (σ.1 6) l3 ((0 : Int32))).bind fun q1 => (fun (r1 : Int32) (σ1 : Sg) => ls_ (sv σ1 7 r1) fun σ2 => some (0, σ2)) q1.1 q1.2) else ((fX1_lostBehind F σ (σ.1 7) (σ.1 6) l3 ((1 : Int32) <<< (l4 &&& 31))).bind fun q3 => (fun (r3 : Int32) (σ3 : Sg) => ls_ (sv σ3 7 r3) fun σ4 => some (0, σ4)) q3.1 q3.2)
set_option maxRecDepth 100000 in
set_option maxHeartbeats 4000000 in
theorem wbX4_follow_12_37 {x : FX} {g : GX} {ad : Nat → Nat} {ex M0 : va_W} {r : Int32} {τ : Sg} {F : Nat} (hX : RX x g M0 (Pv_ (HH g ad τ ++ ex)) 0 0)   (σ : Sg) (l2 : Int32) (l3 : Int32) (l4 : Int32) (H : bX4_follow_12_37 F  σ l2 l3 l4 = some (r, τ)) : Go x { frames := 2, cells := 0, slots := 0, locals := 53 } tX4_follow g 37 [.ref (ad 12), .ref (ad 1), .int l2, .int l3, .int l4] [] (HH g ad σ ++ ex) 0 0 := by
  unfold bX4_follow_12_37 at H
  refine g_aload_n (q := 38) (i := 0) dX4_follow_37 rfl rfl rfl ?_
  refine g_aload_n (q := 39) (i := 1) dX4_follow_38 rfl rfl rfl ?_
  refine g_aload_n (q := 40) (i := 0) dX4_follow_39 rfl rfl rfl ?_
  refine g_get (q := 43) dX4_follow_40 rfl foX4_34 12 hc12 rfl ?_
  refine g_aload_n (q := 44) (i := 0) dX4_follow_43 rfl rfl rfl ?_
  refine g_get (q := 47) dX4_follow_44 rfl foX4_25 12 hc12 rfl ?_
  refine g_iload_n (q := 48) (i := 3) dX4_follow_47 rfl rfl rfl ?_
  refine g_iload_n (q := 49) (i := 2) dX4_follow_48 rfl rfl rfl ?_
  refine g_iconst (q := 50) (v := 2) dX4_follow_49 rfl (by decide) ?_
  refine g_icmp_lt (q := 53) (r := 60) dX4_follow_50 (by decide) rfl (fun c50 => ?_) (fun c50 => ?_)
  · replace H := (if_pos c50).symm.trans H
    refine g_iconst (q := 61) (v := 0) dX4_follow_60 rfl (by decide) ?_
    obtain ⟨r1, σ1, e1, H⟩ := of_bnd H
    refine g_callV (q := 64) (rest := [.ref (ad 12)]) dX4_follow_61 rfl cvX4_48 (ctX1_lostBehind e1) rfl rfl ⟨Nat.le_of_ble_eq_true rfl, Nat.le_of_ble_eq_true rfl⟩ ⟨Nat.le_refl _, Nat.le_refl _⟩ (Nat.le_of_ble_eq_true rfl) 1 hc1 rfl (fun r0 M9 hp => ?_)
    obtain ⟨rfl, rfl⟩ := hp
    show Go x _ _ g 64 [.ref (ad 12), .ref (ad 1), .int l2, .int l3, .int l4] [.int r1, .ref (ad 12)] (HH g ad σ1 ++ ex) 0 0
    obtain ⟨σ2, n2, H⟩ := of_ls H
    refine g_put (q := 67) dX4_follow_64 rfl (fpX4_34 _) 12 hc12 rfl rfl (Nat.le_of_ble_eq_true rfl) (hs7e n2) ?_
    exact g_vret hX dX4_follow_67 rfl (Nat.le_refl _) (Nat.le_refl _) (pvOk H)
  · replace H := (if_neg c50).symm.trans H
    refine g_iconst (q := 54) (v := 1) dX4_follow_53 rfl (by decide) ?_
    refine g_iload (q := 56) dX4_follow_54 rfl rfl ?_
    refine g_ishl (q := 57) dX4_follow_56 rfl ?_
    refine g_goto (q := 61) dX4_follow_57 (by decide) ?_
    obtain ⟨r3, σ3, e3, H⟩ := of_bnd H
    refine g_callV (q := 64) (rest := [.ref (ad 12)]) dX4_follow_61 rfl cvX4_48 (ctX1_lostBehind e3) rfl rfl ⟨Nat.le_of_ble_eq_true rfl, Nat.le_of_ble_eq_true rfl⟩ ⟨Nat.le_refl _, Nat.le_refl _⟩ (Nat.le_of_ble_eq_true rfl) 1 hc1 rfl (fun r0 M9 hp => ?_)
    obtain ⟨rfl, rfl⟩ := hp
    show Go x _ _ g 64 [.ref (ad 12), .ref (ad 1), .int l2, .int l3, .int l4] [.int r3, .ref (ad 12)] (HH g ad σ3 ++ ex) 0 0
    obtain ⟨σ4, n4, H⟩ := of_ls H
    refine g_put (q := 67) dX4_follow_64 rfl (fpX4_34 _) 12 hc12 rfl rfl (Nat.le_of_ble_eq_true rfl) (hs7e n4) ?_
    exact g_vret hX dX4_follow_67 rfl (Nat.le_refl _) (Nat.le_refl _) (pvOk H)
def bX4_follow_12_9 (F : Nat)  (σ : Sg) (l2 : Int32) (l3 : Int32) (l4 : Int32) : Rs := if l2 = (0 : Int32) then ((fX4_come_12 F σ l3).bind fun q3 => (fun (r3 : Int32) (σ3 : Sg) => bX4_follow_12_37 F σ3 (l2) (l3) (l4)) q3.1 q3.2) else (if l2 = (1 : Int32) then (bX4_follow_12_37 F σ (l2) (l3) (l4)) else ((fX1_otherEnd F σ l4 l3).bind fun q1 => (fun (r1 : Int32) (σ1 : Sg) => (fX4_come_12 F σ1 r1).bind fun q2 => (fun (r2 : Int32) (σ2 : Sg) => bX4_follow_12_37 F σ2 (l2) (l3) (l4)) q2.1 q2.2) q1.1 q1.2))
set_option maxRecDepth 100000 in
set_option maxHeartbeats 4000000 in
theorem wbX4_follow_12_9 {x : FX} {g : GX} {ad : Nat → Nat} {ex M0 : va_W} {r : Int32} {τ : Sg} {F : Nat} (hX : RX x g M0 (Pv_ (HH g ad τ ++ ex)) 0 0)   (σ : Sg) (l2 : Int32) (l3 : Int32) (l4 : Int32) (H : bX4_follow_12_9 F  σ l2 l3 l4 = some (r, τ)) : Go x { frames := 2, cells := 0, slots := 0, locals := 53 } tX4_follow g 9 [.ref (ad 12), .ref (ad 1), .int l2, .int l3, .int l4] [] (HH g ad σ ++ ex) 0 0 := by
  unfold bX4_follow_12_9 at H
  refine g_iload_n (q := 10) (i := 2) dX4_follow_9 rfl rfl rfl ?_
  refine g_if_ne (q := 13) (r := 21) dX4_follow_10 (by decide) rfl (fun c10 => ?_) (fun c10 => ?_)
  · replace H := (if_neg c10).symm.trans H
    refine g_iload_n (q := 22) (i := 2) dX4_follow_21 rfl rfl rfl ?_
    refine g_iconst (q := 23) (v := 1) dX4_follow_22 rfl (by decide) ?_
    refine g_icmp_eq (q := 26) (r := 37) dX4_follow_23 (by decide) rfl (fun c23 => ?_) (fun c23 => ?_)
    · replace H := (if_pos c23).symm.trans H
      exact g_weak (L' := [.ref (ad 12), .ref (ad 1), .int l2, .int l3, .int l4]) ⟨Or.inr rfl, Or.inr rfl, Or.inr rfl, Or.inr rfl, Or.inr rfl, trivial⟩ (wbX4_follow_12_37 (F := F) hX  _ _ _ _ H)
    · replace H := (if_neg c23).symm.trans H
      refine g_aload_n (q := 27) (i := 0) dX4_follow_26 rfl rfl rfl ?_
      refine g_aload_n (q := 28) (i := 1) dX4_follow_27 rfl rfl rfl ?_
      refine g_iload (q := 30) dX4_follow_28 rfl rfl ?_
      refine g_iload_n (q := 31) (i := 3) dX4_follow_30 rfl rfl rfl ?_
      obtain ⟨r1, σ1, e1, H⟩ := of_bnd H
      refine g_callV (q := 34) (rest := [.ref (ad 12)]) dX4_follow_31 rfl cvX4_44 (ctX1_otherEnd e1) rfl rfl ⟨Nat.le_of_ble_eq_true rfl, Nat.le_of_ble_eq_true rfl⟩ ⟨Nat.le_refl _, Nat.le_refl _⟩ (Nat.le_of_ble_eq_true rfl) 1 hc1 rfl (fun r0 M9 hp => ?_)
      obtain ⟨rfl, rfl⟩ := hp
      show Go x _ _ g 34 [.ref (ad 12), .ref (ad 1), .int l2, .int l3, .int l4] [.int r1, .ref (ad 12)] (HH g ad σ1 ++ ex) 0 0
      obtain ⟨r2, σ2, e2, H⟩ := of_bnd H
      refine g_callV (q := 37) (rest := []) dX4_follow_34 rfl cvX4_41 (ctX4_come_12 e2) rfl rfl ⟨Nat.le_of_ble_eq_true rfl, Nat.le_of_ble_eq_true rfl⟩ ⟨Nat.le_refl _, Nat.le_refl _⟩ (Nat.le_of_ble_eq_true rfl) 12 hc12 rfl (fun r0 M9 hp => ?_)
      obtain ⟨rfl, rfl⟩ := hp
      show Go x _ _ g 37 [.ref (ad 12), .ref (ad 1), .int l2, .int l3, .int l4] [] (HH g ad σ2 ++ ex) 0 0
      exact g_weak (L' := [.ref (ad 12), .ref (ad 1), .int l2, .int l3, .int l4]) ⟨Or.inr rfl, Or.inr rfl, Or.inr rfl, Or.inr rfl, Or.inr rfl, trivial⟩ (wbX4_follow_12_37 (F := F) hX  _ _ _ _ H)
  · replace H := (if_pos c10).symm.trans H
    refine g_aload_n (q := 14) (i := 0) dX4_follow_13 rfl rfl rfl ?_
    refine g_iload_n (q := 15) (i := 3) dX4_follow_14 rfl rfl rfl ?_
    obtain ⟨r3, σ3, e3, H⟩ := of_bnd H
    refine g_callV (q := 18) (rest := []) dX4_follow_15 rfl cvX4_41 (ctX4_come_12 e3) rfl rfl ⟨Nat.le_of_ble_eq_true rfl, Nat.le_of_ble_eq_true rfl⟩ ⟨Nat.le_refl _, Nat.le_refl _⟩ (Nat.le_of_ble_eq_true rfl) 12 hc12 rfl (fun r0 M9 hp => ?_)
    obtain ⟨rfl, rfl⟩ := hp
    show Go x _ _ g 18 [.ref (ad 12), .ref (ad 1), .int l2, .int l3, .int l4] [] (HH g ad σ3 ++ ex) 0 0
    refine g_goto (q := 37) dX4_follow_18 (by decide) ?_
    exact g_weak (L' := [.ref (ad 12), .ref (ad 1), .int l2, .int l3, .int l4]) ⟨Or.inr rfl, Or.inr rfl, Or.inr rfl, Or.inr rfl, Or.inr rfl, trivial⟩ (wbX4_follow_12_37 (F := F) hX  _ _ _ _ H)
def fX4_follow_12 (F : Nat) (σ : Sg) (l2 : Int32) (l3 : Int32) (l4 : Int32) : Rs := if l2 = (0 : Int32) then (bX4_follow_12_9 F σ (l2) (l3) (l4)) else ((fX4_leave_12 F σ l3).bind fun q1 => (fun (r1 : Int32) (σ1 : Sg) => bX4_follow_12_9 F σ1 (l2) (l3) (l4)) q1.1 q1.2)
set_option maxRecDepth 100000 in
set_option maxHeartbeats 4000000 in
theorem ctX4_follow_12 {l : Launch} {g : GX} {ad : Nat → Nat} {ex : va_W} {r : Int32} {τ σ : Sg} {F : Nat} {l2 : Int32} {l3 : Int32} {l4 : Int32} (H : fX4_follow_12 F σ l2 l3 l4 = some (r, τ)) : Ct l g yX4_follow tX4_follow 2 53 0 0 [.ref (ad 12), .ref (ad 1), .int l2, .int l3, .int l4] (HH g ad σ ++ ex) (Pv_ (HH g ad τ ++ ex)) := by
  refine Ct.of (L := [.ref (ad 12), .ref (ad 1), .int l2, .int l3, .int l4]) (by decide +kernel) rfl rfl rfl (Nat.le_of_ble_eq_true rfl) rfl (fun x _ hX => ?_)
  unfold fX4_follow_12 at H
  refine g_iload_n (q := 1) (i := 2) dX4_follow_0 rfl rfl rfl ?_
  refine g_if_eq (q := 4) (r := 9) dX4_follow_1 (by decide) rfl (fun c1 => ?_) (fun c1 => ?_)
  · replace H := (if_pos c1).symm.trans H
    exact g_weak (L' := [.ref (ad 12), .ref (ad 1), .int l2, .int l3, .int l4]) ⟨Or.inr rfl, Or.inr rfl, Or.inr rfl, Or.inr rfl, Or.inr rfl, trivial⟩ (wbX4_follow_12_9 (F := F) hX  _ _ _ _ H)
  · replace H := (if_neg c1).symm.trans H
    refine g_aload_n (q := 5) (i := 0) dX4_follow_4 rfl rfl rfl ?_
    refine g_iload_n (q := 6) (i := 3) dX4_follow_5 rfl rfl rfl ?_
    obtain ⟨r1, σ1, e1, H⟩ := of_bnd H
    refine g_callV (q := 9) (rest := []) dX4_follow_6 rfl cvX4_37 (ctX4_leave_12 e1) rfl rfl ⟨Nat.le_of_ble_eq_true rfl, Nat.le_of_ble_eq_true rfl⟩ ⟨Nat.le_refl _, Nat.le_refl _⟩ (Nat.le_of_ble_eq_true rfl) 12 hc12 rfl (fun r0 M9 hp => ?_)
    obtain ⟨rfl, rfl⟩ := hp
    show Go x _ _ g 9 [.ref (ad 12), .ref (ad 1), .int l2, .int l3, .int l4] [] (HH g ad σ1 ++ ex) 0 0
    exact g_weak (L' := [.ref (ad 12), .ref (ad 1), .int l2, .int l3, .int l4]) ⟨Or.inr rfl, Or.inr rfl, Or.inr rfl, Or.inr rfl, Or.inr rfl, trivial⟩ (wbX4_follow_12_9 (F := F) hX  _ _ _ _ H)
def bX4_goBack_12_28 (F : Nat)  (σ : Sg) (l2 : Int32) (l3 : Int32) (l5 : Int32) : Rs := if l2 = (0 : Int32) then (ls_ (sv σ 7 l5) fun σ1 => some (0, σ1)) else ((fX4_come_12 F σ l3).bind fun q2 => (fun (r2 : Int32) (σ2 : Sg) => ls_ (sv σ2 7 l5) fun σ3 => some (0, σ3)) q2.1 q2.2)
set_option maxRecDepth 100000 in
set_option maxHeartbeats 4000000 in
theorem wbX4_goBack_12_28 {x : FX} {g : GX} {ad : Nat → Nat} {ex M0 : va_W} {r : Int32} {τ : Sg} {F : Nat} (hX : RX x g M0 (Pv_ (HH g ad τ ++ ex)) 0 0)   (σ : Sg) (l2 : Int32) (l3 : Int32) (l5 : Int32) (H : bX4_goBack_12_28 F  σ l2 l3 l5 = some (r, τ)) : Go x { frames := 1, cells := 0, slots := 0, locals := 22 } tX4_goBack g 28 [.ref (ad 12), un_, .int l2, .int l3, un_, .int l5] [] (HH g ad σ ++ ex) 0 0 := by
  unfold bX4_goBack_12_28 at H
  refine g_iload_n (q := 29) (i := 2) dX4_goBack_28 rfl rfl rfl ?_
  refine g_if_eq (q := 32) (r := 37) dX4_goBack_29 (by decide) rfl (fun c29 => ?_) (fun c29 => ?_)
  · replace H := (if_pos c29).symm.trans H
    refine g_aload_n (q := 38) (i := 0) dX4_goBack_37 rfl rfl rfl ?_
    refine g_iload (q := 40) dX4_goBack_38 rfl rfl ?_
    obtain ⟨σ1, n1, H⟩ := of_ls H
    refine g_put (q := 43) dX4_goBack_40 rfl (fpX4_34 _) 12 hc12 rfl rfl (Nat.le_of_ble_eq_true rfl) (hs7e n1) ?_
    exact g_vret hX dX4_goBack_43 rfl (Nat.le_refl _) (Nat.le_refl _) (pvOk H)
  · replace H := (if_neg c29).symm.trans H
    refine g_aload_n (q := 33) (i := 0) dX4_goBack_32 rfl rfl rfl ?_
    refine g_iload_n (q := 34) (i := 3) dX4_goBack_33 rfl rfl rfl ?_
    obtain ⟨r2, σ2, e2, H⟩ := of_bnd H
    refine g_callV (q := 37) (rest := []) dX4_goBack_34 rfl cvX4_41 (ctX4_come_12 e2) rfl rfl ⟨Nat.le_of_ble_eq_true rfl, Nat.le_of_ble_eq_true rfl⟩ ⟨Nat.le_refl _, Nat.le_refl _⟩ (Nat.le_of_ble_eq_true rfl) 12 hc12 rfl (fun r0 M9 hp => ?_)
    obtain ⟨rfl, rfl⟩ := hp
    show Go x _ _ g 37 [.ref (ad 12), un_, .int l2, .int l3, un_, .int l5] [] (HH g ad σ2 ++ ex) 0 0
    refine g_aload_n (q := 38) (i := 0) dX4_goBack_37 rfl rfl rfl ?_
    refine g_iload (q := 40) dX4_goBack_38 rfl rfl ?_
    obtain ⟨σ3, n3, H⟩ := of_ls H
    refine g_put (q := 43) dX4_goBack_40 rfl (fpX4_34 _) 12 hc12 rfl rfl (Nat.le_of_ble_eq_true rfl) (hs7e n3) ?_
    exact g_vret hX dX4_goBack_43 rfl (Nat.le_refl _) (Nat.le_refl _) (pvOk H)
def fX4_goBack_12 (F : Nat) (σ : Sg) (l2 : Int32) (l3 : Int32) (l4 : Int32) (l5 : Int32) : Rs := if l2 = (0 : Int32) then ((fX4_leave_12 F σ l3).bind fun q3 => (fun (r3 : Int32) (σ3 : Sg) => bX4_goBack_12_28 F σ3 (l2) (l3) (l5)) q3.1 q3.2) else (if l2 = (1 : Int32) then (bX4_goBack_12_28 F σ (l2) (l3) (l5)) else ((fX1_otherEnd F σ l4 l3).bind fun q1 => (fun (r1 : Int32) (σ1 : Sg) => (fX4_leave_12 F σ1 r1).bind fun q2 => (fun (r2 : Int32) (σ2 : Sg) => bX4_goBack_12_28 F σ2 (l2) (l3) (l5)) q2.1 q2.2) q1.1 q1.2))
set_option maxRecDepth 100000 in
set_option maxHeartbeats 4000000 in
theorem ctX4_goBack_12 {l : Launch} {g : GX} {ad : Nat → Nat} {ex : va_W} {r : Int32} {τ σ : Sg} {F : Nat} {l2 : Int32} {l3 : Int32} {l4 : Int32} {l5 : Int32} (H : fX4_goBack_12 F σ l2 l3 l4 l5 = some (r, τ)) : Ct l g yX4_goBack tX4_goBack 1 22 0 0 [.ref (ad 12), .ref (ad 1), .int l2, .int l3, .int l4, .int l5] (HH g ad σ ++ ex) (Pv_ (HH g ad τ ++ ex)) := by
  refine Ct.of (L := [.ref (ad 12), .ref (ad 1), .int l2, .int l3, .int l4, .int l5]) (by decide +kernel) rfl rfl rfl (Nat.le_of_ble_eq_true rfl) rfl (fun x _ hX => ?_)
  unfold fX4_goBack_12 at H
  refine g_iload_n (q := 1) (i := 2) dX4_goBack_0 rfl rfl rfl ?_
  refine g_if_ne (q := 4) (r := 12) dX4_goBack_1 (by decide) rfl (fun c1 => ?_) (fun c1 => ?_)
  · replace H := (if_neg c1).symm.trans H
    refine g_iload_n (q := 13) (i := 2) dX4_goBack_12 rfl rfl rfl ?_
    refine g_iconst (q := 14) (v := 1) dX4_goBack_13 rfl (by decide) ?_
    refine g_icmp_eq (q := 17) (r := 28) dX4_goBack_14 (by decide) rfl (fun c14 => ?_) (fun c14 => ?_)
    · replace H := (if_pos c14).symm.trans H
      exact g_weak (L' := [.ref (ad 12), un_, .int l2, .int l3, un_, .int l5]) ⟨Or.inr rfl, Or.inl rfl, Or.inr rfl, Or.inr rfl, Or.inl rfl, Or.inr rfl, trivial⟩ (wbX4_goBack_12_28 (F := F) hX  _ _ _ _ H)
    · replace H := (if_neg c14).symm.trans H
      refine g_aload_n (q := 18) (i := 0) dX4_goBack_17 rfl rfl rfl ?_
      refine g_aload_n (q := 19) (i := 1) dX4_goBack_18 rfl rfl rfl ?_
      refine g_iload (q := 21) dX4_goBack_19 rfl rfl ?_
      refine g_iload_n (q := 22) (i := 3) dX4_goBack_21 rfl rfl rfl ?_
      obtain ⟨r1, σ1, e1, H⟩ := of_bnd H
      refine g_callV (q := 25) (rest := [.ref (ad 12)]) dX4_goBack_22 rfl cvX4_44 (ctX1_otherEnd e1) rfl rfl ⟨Nat.le_of_ble_eq_true rfl, Nat.le_of_ble_eq_true rfl⟩ ⟨Nat.le_refl _, Nat.le_refl _⟩ (Nat.le_of_ble_eq_true rfl) 1 hc1 rfl (fun r0 M9 hp => ?_)
      obtain ⟨rfl, rfl⟩ := hp
      show Go x _ _ g 25 [.ref (ad 12), .ref (ad 1), .int l2, .int l3, .int l4, .int l5] [.int r1, .ref (ad 12)] (HH g ad σ1 ++ ex) 0 0
      obtain ⟨r2, σ2, e2, H⟩ := of_bnd H
      refine g_callV (q := 28) (rest := []) dX4_goBack_25 rfl cvX4_37 (ctX4_leave_12 e2) rfl rfl ⟨Nat.le_of_ble_eq_true rfl, Nat.le_of_ble_eq_true rfl⟩ ⟨Nat.le_refl _, Nat.le_refl _⟩ (Nat.le_of_ble_eq_true rfl) 12 hc12 rfl (fun r0 M9 hp => ?_)
      obtain ⟨rfl, rfl⟩ := hp
      show Go x _ _ g 28 [.ref (ad 12), .ref (ad 1), .int l2, .int l3, .int l4, .int l5] [] (HH g ad σ2 ++ ex) 0 0
      exact g_weak (L' := [.ref (ad 12), un_, .int l2, .int l3, un_, .int l5]) ⟨Or.inr rfl, Or.inl rfl, Or.inr rfl, Or.inr rfl, Or.inl rfl, Or.inr rfl, trivial⟩ (wbX4_goBack_12_28 (F := F) hX  _ _ _ _ H)
  · replace H := (if_pos c1).symm.trans H
    refine g_aload_n (q := 5) (i := 0) dX4_goBack_4 rfl rfl rfl ?_
    refine g_iload_n (q := 6) (i := 3) dX4_goBack_5 rfl rfl rfl ?_
    obtain ⟨r3, σ3, e3, H⟩ := of_bnd H
    refine g_callV (q := 9) (rest := []) dX4_goBack_6 rfl cvX4_37 (ctX4_leave_12 e3) rfl rfl ⟨Nat.le_of_ble_eq_true rfl, Nat.le_of_ble_eq_true rfl⟩ ⟨Nat.le_refl _, Nat.le_refl _⟩ (Nat.le_of_ble_eq_true rfl) 12 hc12 rfl (fun r0 M9 hp => ?_)
    obtain ⟨rfl, rfl⟩ := hp
    show Go x _ _ g 9 [.ref (ad 12), .ref (ad 1), .int l2, .int l3, .int l4, .int l5] [] (HH g ad σ3 ++ ex) 0 0
    refine g_goto (q := 28) dX4_goBack_9 (by decide) ?_
    exact g_weak (L' := [.ref (ad 12), un_, .int l2, .int l3, un_, .int l5]) ⟨Or.inr rfl, Or.inl rfl, Or.inr rfl, Or.inr rfl, Or.inl rfl, Or.inr rfl, trivial⟩ (wbX4_goBack_12_28 (F := F) hX  _ _ _ _ H)
def bX3_carryOut_82 (F : Nat)  (σ : Sg) (l1 : Int32) (l2 : Int32) (l3 : Int32) (l4 : Int32) : Rs := if ib (σ.1 3) 200 then (ls_ (sa σ 7 (σ.1 3).toNatClampNeg l1) fun σ1 => if ib (σ1.1 3) 200 then (ls_ (sa σ1 8 (σ1.1 3).toNatClampNeg l2) fun σ2 => if ib (σ2.1 3) 200 then (ls_ (sa σ2 9 (σ2.1 3).toNatClampNeg l3) fun σ3 => if ib (σ3.1 3) 200 then (ls_ (sa σ3 10 (σ3.1 3).toNatClampNeg l4) fun σ4 => if ib (σ4.1 3) 200 then (ls_ (sa σ4 11 (σ4.1 3).toNatClampNeg (σ4.1 4)) fun σ5 => ls_ (sv σ5 3 ((σ5.1 3) + (1 : Int32))) fun σ6 => ls_ (sv σ6 4 (mx_ (σ6.1 4) (σ6.1 5))) fun σ7 => some ((1 : Int32), σ7)) else none) else none) else none) else none) else none
set_option maxRecDepth 100000 in
set_option maxHeartbeats 4000000 in
theorem wbX3_carryOut_82 {x : FX} {g : GX} {ad : Nat → Nat} {ex M0 : va_W} {r : Int32} {τ : Sg} {F : Nat} (hX : RX x g M0 (Pi_ r (HH g ad τ ++ ex)) 0 0)   (σ : Sg) (l1 : Int32) (l2 : Int32) (l3 : Int32) (l4 : Int32) (H : bX3_carryOut_82 F  σ l1 l2 l3 l4 = some (r, τ)) : Go x { frames := 3, cells := 0, slots := 0, locals := 77 } tX3_carryOut g 82 [.ref (ad 6), .int l1, .int l2, .int l3, .int l4] [] (HH g ad σ ++ ex) 0 0 := by
  unfold bX3_carryOut_82 at H
  refine g_aload_n (q := 83) (i := 0) dX3_carryOut_82 rfl rfl rfl ?_
  refine g_get (q := 86) dX3_carryOut_83 rfl foX3_18 6 hc6 rfl ?_
  refine g_aload_n (q := 87) (i := 0) dX3_carryOut_86 rfl rfl rfl ?_
  refine g_get (q := 90) dX3_carryOut_87 rfl foX3_42 6 hc6 rfl ?_
  refine g_iload_n (q := 91) (i := 1) dX3_carryOut_90 rfl rfl rfl ?_
  obtain ⟨b91, H⟩ := of_chk H
  obtain ⟨σ1, n1, H⟩ := of_ls H
  refine g_iast (q := 92) dX3_carryOut_91 rfl 7 hc7 b91 (ha7e n1) ?_
  refine g_aload_n (q := 93) (i := 0) dX3_carryOut_92 rfl rfl rfl ?_
  refine g_get (q := 96) dX3_carryOut_93 rfl foX3_22 6 hc6 rfl ?_
  refine g_aload_n (q := 97) (i := 0) dX3_carryOut_96 rfl rfl rfl ?_
  refine g_get (q := 100) dX3_carryOut_97 rfl foX3_42 6 hc6 rfl ?_
  refine g_iload_n (q := 101) (i := 2) dX3_carryOut_100 rfl rfl rfl ?_
  obtain ⟨b101, H⟩ := of_chk H
  obtain ⟨σ2, n2, H⟩ := of_ls H
  refine g_iast (q := 102) dX3_carryOut_101 rfl 8 hc8 b101 (ha8e n2) ?_
  refine g_aload_n (q := 103) (i := 0) dX3_carryOut_102 rfl rfl rfl ?_
  refine g_get (q := 106) dX3_carryOut_103 rfl foX3_25 6 hc6 rfl ?_
  refine g_aload_n (q := 107) (i := 0) dX3_carryOut_106 rfl rfl rfl ?_
  refine g_get (q := 110) dX3_carryOut_107 rfl foX3_42 6 hc6 rfl ?_
  refine g_iload_n (q := 111) (i := 3) dX3_carryOut_110 rfl rfl rfl ?_
  obtain ⟨b111, H⟩ := of_chk H
  obtain ⟨σ3, n3, H⟩ := of_ls H
  refine g_iast (q := 112) dX3_carryOut_111 rfl 9 hc9 b111 (ha9e n3) ?_
  refine g_aload_n (q := 113) (i := 0) dX3_carryOut_112 rfl rfl rfl ?_
  refine g_get (q := 116) dX3_carryOut_113 rfl foX3_28 6 hc6 rfl ?_
  refine g_aload_n (q := 117) (i := 0) dX3_carryOut_116 rfl rfl rfl ?_
  refine g_get (q := 120) dX3_carryOut_117 rfl foX3_42 6 hc6 rfl ?_
  refine g_iload (q := 122) dX3_carryOut_120 rfl rfl ?_
  obtain ⟨b122, H⟩ := of_chk H
  obtain ⟨σ4, n4, H⟩ := of_ls H
  refine g_iast (q := 123) dX3_carryOut_122 rfl 10 hc10 b122 (ha10e n4) ?_
  refine g_aload_n (q := 124) (i := 0) dX3_carryOut_123 rfl rfl rfl ?_
  refine g_get (q := 127) dX3_carryOut_124 rfl foX3_31 6 hc6 rfl ?_
  refine g_aload_n (q := 128) (i := 0) dX3_carryOut_127 rfl rfl rfl ?_
  refine g_get (q := 131) dX3_carryOut_128 rfl foX3_42 6 hc6 rfl ?_
  refine g_aload_n (q := 132) (i := 0) dX3_carryOut_131 rfl rfl rfl ?_
  refine g_get (q := 135) dX3_carryOut_132 rfl foX3_46 6 hc6 rfl ?_
  obtain ⟨b135, H⟩ := of_chk H
  obtain ⟨σ5, n5, H⟩ := of_ls H
  refine g_iast (q := 136) dX3_carryOut_135 rfl 11 hc11 b135 (ha11e n5) ?_
  refine g_aload_n (q := 137) (i := 0) dX3_carryOut_136 rfl rfl rfl ?_
  refine g_dup (q := 138) dX3_carryOut_137 rfl rfl ?_
  refine g_get (q := 141) dX3_carryOut_138 rfl foX3_42 6 hc6 rfl ?_
  refine g_iconst (q := 142) (v := 1) dX3_carryOut_141 rfl (by decide) ?_
  refine g_iadd (q := 143) dX3_carryOut_142 rfl ?_
  obtain ⟨σ6, n6, H⟩ := of_ls H
  refine g_put (q := 146) dX3_carryOut_143 rfl (fpX3_42 _) 6 hc6 rfl rfl (Nat.le_of_ble_eq_true rfl) (hs3e n6) ?_
  refine g_aload_n (q := 147) (i := 0) dX3_carryOut_146 rfl rfl rfl ?_
  refine g_aload_n (q := 148) (i := 0) dX3_carryOut_147 rfl rfl rfl ?_
  refine g_get (q := 151) dX3_carryOut_148 rfl foX3_46 6 hc6 rfl ?_
  refine g_aload_n (q := 152) (i := 0) dX3_carryOut_151 rfl rfl rfl ?_
  refine g_get (q := 155) dX3_carryOut_152 rfl foX3_12 6 hc6 rfl ?_
  refine g_get (q := 158) dX3_carryOut_155 rfl foX3_64 12 hc12 rfl ?_
  refine g_max (q := 161) dX3_carryOut_158 rfl csX3_67 (Nat.le_of_ble_eq_true rfl) (Nat.le_of_ble_eq_true rfl) (Nat.le_refl _) (Nat.le_refl _) ?_
  obtain ⟨σ7, n7, H⟩ := of_ls H
  refine g_put (q := 164) dX3_carryOut_161 rfl (fpX3_46 _) 6 hc6 rfl rfl (Nat.le_of_ble_eq_true rfl) (hs4e n7) ?_
  refine g_iconst (q := 165) (v := 1) dX3_carryOut_164 rfl (by decide) ?_
  exact g_iret hX dX3_carryOut_165 rfl rfl (Nat.le_refl _) (Nat.le_refl _) (piOk H)
def fX3_carryOut (F : Nat) (σ : Sg) (l1 : Int32) (l2 : Int32) (l3 : Int32) : Rs := if (200 : Int32) ≤ (σ.1 3) then (some ((0 : Int32), σ)) else ((fX3_canBeDone F σ l1 l2).bind fun q1 => (fun (r1 : Int32) (σ1 : Sg) => if r1 = (0 : Int32) then (some ((0 : Int32), σ1)) else ((fX4_follow_12 F σ1 l1 l2 l3).bind fun q2 => (fun (r2 : Int32) (σ2 : Sg) => if l1 = (3 : Int32) then (if ((σ2.1 7) &&& ((σ1.1 7) ^^^ (-1 : Int32))) = (0 : Int32) then (bX3_carryOut_82 F σ2 (l1) (l2) (l3) (σ1.1 7)) else ((fX4_goBack_12 F σ2 l1 l2 l3 (σ1.1 7)).bind fun q3 => (fun (r3 : Int32) (σ3 : Sg) => some ((0 : Int32), σ3)) q3.1 q3.2)) else (bX3_carryOut_82 F σ2 (l1) (l2) (l3) (σ1.1 7))) q2.1 q2.2)) q1.1 q1.2)
set_option maxRecDepth 100000 in
set_option maxHeartbeats 4000000 in
theorem ctX3_carryOut {l : Launch} {g : GX} {ad : Nat → Nat} {ex : va_W} {r : Int32} {τ σ : Sg} {F : Nat} {l1 : Int32} {l2 : Int32} {l3 : Int32} (H : fX3_carryOut F σ l1 l2 l3 = some (r, τ)) : Ct l g yX3_carryOut tX3_carryOut 3 77 0 0 [.ref (ad 6), .int l1, .int l2, .int l3] (HH g ad σ ++ ex) (Pi_ r (HH g ad τ ++ ex)) := by
  refine Ct.of (L := [.ref (ad 6), .int l1, .int l2, .int l3, un_]) (by decide +kernel) rfl rfl rfl (Nat.le_of_ble_eq_true rfl) rfl (fun x _ hX => ?_)
  unfold fX3_carryOut at H
  refine g_aload_n (q := 1) (i := 0) dX3_carryOut_0 rfl rfl rfl ?_
  refine g_get (q := 4) dX3_carryOut_1 rfl foX3_42 6 hc6 rfl ?_
  refine g_sipush (q := 7) (v := 200) dX3_carryOut_4 rfl (by decide) ?_
  refine g_icmp_ge (q := 10) (r := 19) dX3_carryOut_7 (by decide) rfl (fun c7 => ?_) (fun c7 => ?_)
  · replace H := (if_pos c7).symm.trans H
    refine g_iconst (q := 20) (v := 0) dX3_carryOut_19 rfl (by decide) ?_
    exact g_iret hX dX3_carryOut_20 rfl rfl (Nat.le_refl _) (Nat.le_refl _) (piOk H)
  · replace H := (if_neg c7).symm.trans H
    refine g_aload_n (q := 11) (i := 0) dX3_carryOut_10 rfl rfl rfl ?_
    refine g_iload_n (q := 12) (i := 1) dX3_carryOut_11 rfl rfl rfl ?_
    refine g_iload_n (q := 13) (i := 2) dX3_carryOut_12 rfl rfl rfl ?_
    obtain ⟨r1, σ1, e1, H⟩ := of_bnd H
    refine g_callV (q := 16) (rest := []) dX3_carryOut_13 rfl cvX3_49 (ctX3_canBeDone e1) rfl rfl ⟨Nat.le_of_ble_eq_true rfl, Nat.le_of_ble_eq_true rfl⟩ ⟨Nat.le_refl _, Nat.le_refl _⟩ (Nat.le_of_ble_eq_true rfl) 6 hc6 rfl (fun r0 M9 hp => ?_)
    obtain ⟨rfl, rfl⟩ := hp
    show Go x _ _ g 16 [.ref (ad 6), .int l1, .int l2, .int l3, un_] [.int r1] (HH g ad σ1 ++ ex) 0 0
    refine g_if_ne (q := 19) (r := 21) dX3_carryOut_16 (by decide) rfl (fun c16 => ?_) (fun c16 => ?_)
    · replace H := (if_neg c16).symm.trans H
      refine g_aload_n (q := 22) (i := 0) dX3_carryOut_21 rfl rfl rfl ?_
      refine g_get (q := 25) dX3_carryOut_22 rfl foX3_12 6 hc6 rfl ?_
      refine g_get (q := 28) dX3_carryOut_25 rfl foX3_53 12 hc12 rfl ?_
      refine g_istore (q := 30) (L' := [.ref (ad 6), .int l1, .int l2, .int l3, .int (σ1.1 7)]) dX3_carryOut_28 rfl (Nat.le_of_ble_eq_true rfl) rfl ?_
      refine g_aload_n (q := 31) (i := 0) dX3_carryOut_30 rfl rfl rfl ?_
      refine g_get (q := 34) dX3_carryOut_31 rfl foX3_12 6 hc6 rfl ?_
      refine g_aload_n (q := 35) (i := 0) dX3_carryOut_34 rfl rfl rfl ?_
      refine g_get (q := 38) dX3_carryOut_35 rfl foX3_34 6 hc6 rfl ?_
      refine g_iload_n (q := 39) (i := 1) dX3_carryOut_38 rfl rfl rfl ?_
      refine g_iload_n (q := 40) (i := 2) dX3_carryOut_39 rfl rfl rfl ?_
      refine g_iload_n (q := 41) (i := 3) dX3_carryOut_40 rfl rfl rfl ?_
      obtain ⟨r2, σ2, e2, H⟩ := of_bnd H
      refine g_callV (q := 44) (rest := []) dX3_carryOut_41 rfl cvX3_56 (ctX4_follow_12 e2) rfl rfl ⟨Nat.le_of_ble_eq_true rfl, Nat.le_of_ble_eq_true rfl⟩ ⟨Nat.le_refl _, Nat.le_refl _⟩ (Nat.le_of_ble_eq_true rfl) 12 hc12 rfl (fun r0 M9 hp => ?_)
      obtain ⟨rfl, rfl⟩ := hp
      show Go x _ _ g 44 [.ref (ad 6), .int l1, .int l2, .int l3, .int (σ1.1 7)] [] (HH g ad σ2 ++ ex) 0 0
      refine g_iload_n (q := 45) (i := 1) dX3_carryOut_44 rfl rfl rfl ?_
      refine g_iconst (q := 46) (v := 3) dX3_carryOut_45 rfl (by decide) ?_
      refine g_icmp_ne (q := 49) (r := 82) dX3_carryOut_46 (by decide) rfl (fun c46 => ?_) (fun c46 => ?_)
      · replace H := (if_neg c46).symm.trans H
        exact g_weak (L' := [.ref (ad 6), .int l1, .int l2, .int l3, .int (σ1.1 7)]) ⟨Or.inr rfl, Or.inr rfl, Or.inr rfl, Or.inr rfl, Or.inr rfl, trivial⟩ (wbX3_carryOut_82 (F := F) hX  _ _ _ _ _ H)
      · replace H := (if_pos c46).symm.trans H
        refine g_aload_n (q := 50) (i := 0) dX3_carryOut_49 rfl rfl rfl ?_
        refine g_get (q := 53) dX3_carryOut_50 rfl foX3_12 6 hc6 rfl ?_
        refine g_get (q := 56) dX3_carryOut_53 rfl foX3_53 12 hc12 rfl ?_
        refine g_iload (q := 58) dX3_carryOut_56 rfl rfl ?_
        refine g_iconst (q := 59) (v := -1) dX3_carryOut_58 rfl (by decide) ?_
        refine g_ixor (q := 60) dX3_carryOut_59 rfl ?_
        refine g_iand (q := 61) dX3_carryOut_60 rfl ?_
        refine g_if_eq (q := 64) (r := 82) dX3_carryOut_61 (by decide) rfl (fun c61 => ?_) (fun c61 => ?_)
        · replace H := (if_pos c61).symm.trans H
          exact g_weak (L' := [.ref (ad 6), .int l1, .int l2, .int l3, .int (σ1.1 7)]) ⟨Or.inr rfl, Or.inr rfl, Or.inr rfl, Or.inr rfl, Or.inr rfl, trivial⟩ (wbX3_carryOut_82 (F := F) hX  _ _ _ _ _ H)
        · replace H := (if_neg c61).symm.trans H
          refine g_aload_n (q := 65) (i := 0) dX3_carryOut_64 rfl rfl rfl ?_
          refine g_get (q := 68) dX3_carryOut_65 rfl foX3_12 6 hc6 rfl ?_
          refine g_aload_n (q := 69) (i := 0) dX3_carryOut_68 rfl rfl rfl ?_
          refine g_get (q := 72) dX3_carryOut_69 rfl foX3_34 6 hc6 rfl ?_
          refine g_iload_n (q := 73) (i := 1) dX3_carryOut_72 rfl rfl rfl ?_
          refine g_iload_n (q := 74) (i := 2) dX3_carryOut_73 rfl rfl rfl ?_
          refine g_iload_n (q := 75) (i := 3) dX3_carryOut_74 rfl rfl rfl ?_
          refine g_iload (q := 77) dX3_carryOut_75 rfl rfl ?_
          obtain ⟨r3, σ3, e3, H⟩ := of_bnd H
          refine g_callV (q := 80) (rest := []) dX3_carryOut_77 rfl cvX3_60 (ctX4_goBack_12 e3) rfl rfl ⟨Nat.le_of_ble_eq_true rfl, Nat.le_of_ble_eq_true rfl⟩ ⟨Nat.le_refl _, Nat.le_refl _⟩ (Nat.le_of_ble_eq_true rfl) 12 hc12 rfl (fun r0 M9 hp => ?_)
          obtain ⟨rfl, rfl⟩ := hp
          show Go x _ _ g 80 [.ref (ad 6), .int l1, .int l2, .int l3, .int (σ1.1 7)] [] (HH g ad σ3 ++ ex) 0 0
          refine g_iconst (q := 81) (v := 0) dX3_carryOut_80 rfl (by decide) ?_
          exact g_iret hX dX3_carryOut_81 rfl rfl (Nat.le_refl _) (Nat.le_refl _) (piOk H)
    · replace H := (if_pos c16).symm.trans H
      refine g_iconst (q := 20) (v := 0) dX3_carryOut_19 rfl (by decide) ?_
      exact g_iret hX dX3_carryOut_20 rfl rfl (Nat.le_refl _) (Nat.le_refl _) (piOk H)
def fX1_leadsFrom (F : Nat) (σ : Sg) (l1 : Int32) (l2 : Int32) : Rs := (fX1_hasPassage F σ l1).bind fun q1 => (fun (r1 : Int32) (σ1 : Sg) => if r1 = (0 : Int32) then (some ((0 : Int32), σ1)) else (if ib l1 18 then (if (σ1.2.1 2 l1.toNatClampNeg) = l2 then (some ((1 : Int32), σ1)) else (if ib l1 18 then (if (σ1.2.1 3 l1.toNatClampNeg) = l2 then (some ((1 : Int32), σ1)) else (some ((0 : Int32), σ1))) else none)) else none)) q1.1 q1.2
set_option maxRecDepth 100000 in
set_option maxHeartbeats 4000000 in
theorem ctX1_leadsFrom {l : Launch} {g : GX} {ad : Nat → Nat} {ex : va_W} {r : Int32} {τ σ : Sg} {F : Nat} {l1 : Int32} {l2 : Int32} (H : fX1_leadsFrom F σ l1 l2 = some (r, τ)) : Ct l g yX1_leadsFrom tX1_leadsFrom 1 21 0 0 [.ref (ad 1), .int l1, .int l2] (HH g ad σ ++ ex) (Pi_ r (HH g ad τ ++ ex)) := by
  refine Ct.of (L := [.ref (ad 1), .int l1, .int l2]) (by decide +kernel) rfl rfl rfl (Nat.le_of_ble_eq_true rfl) rfl (fun x _ hX => ?_)
  unfold fX1_leadsFrom at H
  refine g_aload_n (q := 1) (i := 0) dX1_leadsFrom_0 rfl rfl rfl ?_
  refine g_iload_n (q := 2) (i := 1) dX1_leadsFrom_1 rfl rfl rfl ?_
  obtain ⟨r1, σ1, e1, H⟩ := of_bnd H
  refine g_callV (q := 5) (rest := []) dX1_leadsFrom_2 rfl cvX1_37 (ctX1_hasPassage e1) rfl rfl ⟨Nat.le_of_ble_eq_true rfl, Nat.le_of_ble_eq_true rfl⟩ ⟨Nat.le_refl _, Nat.le_refl _⟩ (Nat.le_of_ble_eq_true rfl) 1 hc1 rfl (fun r0 M9 hp => ?_)
  obtain ⟨rfl, rfl⟩ := hp
  show Go x _ _ g 5 [.ref (ad 1), .int l1, .int l2] [.int r1] (HH g ad σ1 ++ ex) 0 0
  refine g_if_eq (q := 8) (r := 32) dX1_leadsFrom_5 (by decide) rfl (fun c5 => ?_) (fun c5 => ?_)
  · replace H := (if_pos c5).symm.trans H
    refine g_iconst (q := 33) (v := 0) dX1_leadsFrom_32 rfl (by decide) ?_
    exact g_iret hX dX1_leadsFrom_33 rfl rfl (Nat.le_refl _) (Nat.le_refl _) (piOk H)
  · replace H := (if_neg c5).symm.trans H
    refine g_aload_n (q := 9) (i := 0) dX1_leadsFrom_8 rfl rfl rfl ?_
    refine g_get (q := 12) dX1_leadsFrom_9 rfl foX1_9 1 hc1 rfl ?_
    refine g_iload_n (q := 13) (i := 1) dX1_leadsFrom_12 rfl rfl rfl ?_
    obtain ⟨b13, H⟩ := of_chk H
    refine g_iald (q := 14) dX1_leadsFrom_13 rfl 2 hc2 b13 ?_
    refine g_iload_n (q := 15) (i := 2) dX1_leadsFrom_14 rfl rfl rfl ?_
    refine g_icmp_eq (q := 18) (r := 28) dX1_leadsFrom_15 (by decide) rfl (fun c15 => ?_) (fun c15 => ?_)
    · replace H := (if_pos c15).symm.trans H
      refine g_iconst (q := 29) (v := 1) dX1_leadsFrom_28 rfl (by decide) ?_
      refine g_goto (q := 33) dX1_leadsFrom_29 (by decide) ?_
      exact g_iret hX dX1_leadsFrom_33 rfl rfl (Nat.le_refl _) (Nat.le_refl _) (piOk H)
    · replace H := (if_neg c15).symm.trans H
      refine g_aload_n (q := 19) (i := 0) dX1_leadsFrom_18 rfl rfl rfl ?_
      refine g_get (q := 22) dX1_leadsFrom_19 rfl foX1_15 1 hc1 rfl ?_
      refine g_iload_n (q := 23) (i := 1) dX1_leadsFrom_22 rfl rfl rfl ?_
      obtain ⟨b23, H⟩ := of_chk H
      refine g_iald (q := 24) dX1_leadsFrom_23 rfl 3 hc3 b23 ?_
      refine g_iload_n (q := 25) (i := 2) dX1_leadsFrom_24 rfl rfl rfl ?_
      refine g_icmp_ne (q := 28) (r := 32) dX1_leadsFrom_25 (by decide) rfl (fun c25 => ?_) (fun c25 => ?_)
      · replace H := (if_neg c25).symm.trans H
        refine g_iconst (q := 33) (v := 0) dX1_leadsFrom_32 rfl (by decide) ?_
        exact g_iret hX dX1_leadsFrom_33 rfl rfl (Nat.le_refl _) (Nat.le_refl _) (piOk H)
      · replace H := (if_pos c25).symm.trans H
        refine g_iconst (q := 29) (v := 1) dX1_leadsFrom_28 rfl (by decide) ?_
        refine g_goto (q := 33) dX1_leadsFrom_29 (by decide) ?_
        exact g_iret hX dX1_leadsFrom_33 rfl rfl (Nat.le_refl _) (Nat.le_refl _) (piOk H)
def bX6_order_41 (F : Nat)  (σ : Sg) (l1 : Int32) (l2 : Int32) (l3 : Int32) : Rs := if (σ.1 3) < (200 : Int32) then (if l1 < (2 : Int32) then ((fX3_carryOut F σ l1 l2 ((-1 : Int32))).bind fun q1 => (fun (r1 : Int32) (σ1 : Sg) => if r1 = (0 : Int32) then (some ((0 : Int32), σ1)) else (some ((1 : Int32), σ1))) q1.1 q1.2) else ((fX3_carryOut F σ l1 l2 l3).bind fun q2 => (fun (r2 : Int32) (σ2 : Sg) => if r2 = (0 : Int32) then (some ((0 : Int32), σ2)) else (some ((1 : Int32), σ2))) q2.1 q2.2)) else (some ((-1 : Int32), σ))
set_option maxRecDepth 100000 in
set_option maxHeartbeats 4000000 in
theorem wbX6_order_41 {x : FX} {g : GX} {ad : Nat → Nat} {ex M0 : va_W} {r : Int32} {τ : Sg} {F : Nat} (hX : RX x g M0 (Pi_ r (HH g ad τ ++ ex)) 0 0)   (σ : Sg) (l1 : Int32) (l2 : Int32) (l3 : Int32) (H : bX6_order_41 F  σ l1 l2 l3 = some (r, τ)) : Go x { frames := 4, cells := 0, slots := 0, locals := 101 } tX6_order g 41 [.ref (ad 0), .int l1, .int l2, .int l3] [] (HH g ad σ ++ ex) 0 0 := by
  unfold bX6_order_41 at H
  refine g_aload_n (q := 42) (i := 0) dX6_order_41 rfl rfl rfl ?_
  refine g_get (q := 45) dX6_order_42 rfl foX6_21 0 hc0 rfl ?_
  refine g_get (q := 48) dX6_order_45 rfl foX6_86 6 hc6 rfl ?_
  refine g_sipush (q := 51) (v := 200) dX6_order_48 rfl (by decide) ?_
  refine g_icmp_lt (q := 54) (r := 56) dX6_order_51 (by decide) rfl (fun c51 => ?_) (fun c51 => ?_)
  · replace H := (if_pos c51).symm.trans H
    refine g_aload_n (q := 57) (i := 0) dX6_order_56 rfl rfl rfl ?_
    refine g_get (q := 60) dX6_order_57 rfl foX6_21 0 hc0 rfl ?_
    refine g_iload_n (q := 61) (i := 1) dX6_order_60 rfl rfl rfl ?_
    refine g_iload_n (q := 62) (i := 2) dX6_order_61 rfl rfl rfl ?_
    refine g_iload_n (q := 63) (i := 1) dX6_order_62 rfl rfl rfl ?_
    refine g_iconst (q := 64) (v := 2) dX6_order_63 rfl (by decide) ?_
    refine g_icmp_lt (q := 67) (r := 71) dX6_order_64 (by decide) rfl (fun c64 => ?_) (fun c64 => ?_)
    · replace H := (if_pos c64).symm.trans H
      refine g_iconst (q := 72) (v := -1) dX6_order_71 rfl (by decide) ?_
      obtain ⟨r1, σ1, e1, H⟩ := of_bnd H
      refine g_callV (q := 75) (rest := []) dX6_order_72 rfl cvX6_89 (ctX3_carryOut e1) rfl rfl ⟨Nat.le_of_ble_eq_true rfl, Nat.le_of_ble_eq_true rfl⟩ ⟨Nat.le_refl _, Nat.le_refl _⟩ (Nat.le_of_ble_eq_true rfl) 6 hc6 rfl (fun r0 M9 hp => ?_)
      obtain ⟨rfl, rfl⟩ := hp
      show Go x _ _ g 75 [.ref (ad 0), .int l1, .int l2, .int l3] [.int r1] (HH g ad σ1 ++ ex) 0 0
      refine g_if_eq (q := 78) (r := 82) dX6_order_75 (by decide) rfl (fun c75 => ?_) (fun c75 => ?_)
      · replace H := (if_pos c75).symm.trans H
        refine g_iconst (q := 83) (v := 0) dX6_order_82 rfl (by decide) ?_
        exact g_iret hX dX6_order_83 rfl rfl (Nat.le_refl _) (Nat.le_refl _) (piOk H)
      · replace H := (if_neg c75).symm.trans H
        refine g_iconst (q := 79) (v := 1) dX6_order_78 rfl (by decide) ?_
        refine g_goto (q := 83) dX6_order_79 (by decide) ?_
        exact g_iret hX dX6_order_83 rfl rfl (Nat.le_refl _) (Nat.le_refl _) (piOk H)
    · replace H := (if_neg c64).symm.trans H
      refine g_iload_n (q := 68) (i := 3) dX6_order_67 rfl rfl rfl ?_
      refine g_goto (q := 72) dX6_order_68 (by decide) ?_
      obtain ⟨r2, σ2, e2, H⟩ := of_bnd H
      refine g_callV (q := 75) (rest := []) dX6_order_72 rfl cvX6_89 (ctX3_carryOut e2) rfl rfl ⟨Nat.le_of_ble_eq_true rfl, Nat.le_of_ble_eq_true rfl⟩ ⟨Nat.le_refl _, Nat.le_refl _⟩ (Nat.le_of_ble_eq_true rfl) 6 hc6 rfl (fun r0 M9 hp => ?_)
      obtain ⟨rfl, rfl⟩ := hp
      show Go x _ _ g 75 [.ref (ad 0), .int l1, .int l2, .int l3] [.int r2] (HH g ad σ2 ++ ex) 0 0
      refine g_if_eq (q := 78) (r := 82) dX6_order_75 (by decide) rfl (fun c75 => ?_) (fun c75 => ?_)
      · replace H := (if_pos c75).symm.trans H
        refine g_iconst (q := 83) (v := 0) dX6_order_82 rfl (by decide) ?_
        exact g_iret hX dX6_order_83 rfl rfl (Nat.le_refl _) (Nat.le_refl _) (piOk H)
      · replace H := (if_neg c75).symm.trans H
        refine g_iconst (q := 79) (v := 1) dX6_order_78 rfl (by decide) ?_
        refine g_goto (q := 83) dX6_order_79 (by decide) ?_
        exact g_iret hX dX6_order_83 rfl rfl (Nat.le_refl _) (Nat.le_refl _) (piOk H)
  · replace H := (if_neg c51).symm.trans H
    refine g_iconst (q := 55) (v := -1) dX6_order_54 rfl (by decide) ?_
    exact g_iret hX dX6_order_55 rfl rfl (Nat.le_refl _) (Nat.le_refl _) (piOk H)
def fX6_order (F : Nat) (σ : Sg) (l1 : Int32) (l2 : Int32) (l3 : Int32) : Rs := if l1 < (0 : Int32) then (some ((-1 : Int32), σ)) else (if (3 : Int32) < l1 then (some ((-1 : Int32), σ)) else ((fX1_hasCave F σ l2).bind fun q1 => (fun (r1 : Int32) (σ1 : Sg) => if r1 = (0 : Int32) then (some ((-1 : Int32), σ1)) else (if l1 < (2 : Int32) then (bX6_order_41 F σ1 (l1) (l2) (l3)) else ((fX1_leadsFrom F σ1 l3 l2).bind fun q2 => (fun (r2 : Int32) (σ2 : Sg) => if r2 = (0 : Int32) then (some ((-1 : Int32), σ2)) else (bX6_order_41 F σ2 (l1) (l2) (l3))) q2.1 q2.2))) q1.1 q1.2))
set_option maxRecDepth 100000 in
set_option maxHeartbeats 4000000 in
theorem ctX6_order {l : Launch} {g : GX} {ad : Nat → Nat} {ex : va_W} {r : Int32} {τ σ : Sg} {F : Nat} {l1 : Int32} {l2 : Int32} {l3 : Int32} (H : fX6_order F σ l1 l2 l3 = some (r, τ)) : Ct l g yX6_order tX6_order 4 101 0 0 [.ref (ad 0), .int l1, .int l2, .int l3] (HH g ad σ ++ ex) (Pi_ r (HH g ad τ ++ ex)) := by
  refine Ct.of (L := [.ref (ad 0), .int l1, .int l2, .int l3]) (by decide +kernel) rfl rfl rfl (Nat.le_of_ble_eq_true rfl) rfl (fun x _ hX => ?_)
  unfold fX6_order at H
  refine g_iload_n (q := 1) (i := 1) dX6_order_0 rfl rfl rfl ?_
  refine g_if_lt (q := 4) (r := 20) dX6_order_1 (by decide) rfl (fun c1 => ?_) (fun c1 => ?_)
  · replace H := (if_pos c1).symm.trans H
    refine g_iconst (q := 21) (v := -1) dX6_order_20 rfl (by decide) ?_
    exact g_iret hX dX6_order_21 rfl rfl (Nat.le_refl _) (Nat.le_refl _) (piOk H)
  · replace H := (if_neg c1).symm.trans H
    refine g_iload_n (q := 5) (i := 1) dX6_order_4 rfl rfl rfl ?_
    refine g_iconst (q := 6) (v := 3) dX6_order_5 rfl (by decide) ?_
    refine g_icmp_gt (q := 9) (r := 20) dX6_order_6 (by decide) rfl (fun c6 => ?_) (fun c6 => ?_)
    · replace H := (if_pos c6).symm.trans H
      refine g_iconst (q := 21) (v := -1) dX6_order_20 rfl (by decide) ?_
      exact g_iret hX dX6_order_21 rfl rfl (Nat.le_refl _) (Nat.le_refl _) (piOk H)
    · replace H := (if_neg c6).symm.trans H
      refine g_aload_n (q := 10) (i := 0) dX6_order_9 rfl rfl rfl ?_
      refine g_get (q := 13) dX6_order_10 rfl foX6_10 0 hc0 rfl ?_
      refine g_iload_n (q := 14) (i := 2) dX6_order_13 rfl rfl rfl ?_
      obtain ⟨r1, σ1, e1, H⟩ := of_bnd H
      refine g_callV (q := 17) (rest := []) dX6_order_14 rfl cvX6_64 (ctX1_hasCave e1) rfl rfl ⟨Nat.le_of_ble_eq_true rfl, Nat.le_of_ble_eq_true rfl⟩ ⟨Nat.le_refl _, Nat.le_refl _⟩ (Nat.le_of_ble_eq_true rfl) 1 hc1 rfl (fun r0 M9 hp => ?_)
      obtain ⟨rfl, rfl⟩ := hp
      show Go x _ _ g 17 [.ref (ad 0), .int l1, .int l2, .int l3] [.int r1] (HH g ad σ1 ++ ex) 0 0
      refine g_if_ne (q := 20) (r := 22) dX6_order_17 (by decide) rfl (fun c17 => ?_) (fun c17 => ?_)
      · replace H := (if_neg c17).symm.trans H
        refine g_iload_n (q := 23) (i := 1) dX6_order_22 rfl rfl rfl ?_
        refine g_iconst (q := 24) (v := 2) dX6_order_23 rfl (by decide) ?_
        refine g_icmp_lt (q := 27) (r := 41) dX6_order_24 (by decide) rfl (fun c24 => ?_) (fun c24 => ?_)
        · replace H := (if_pos c24).symm.trans H
          exact g_weak (L' := [.ref (ad 0), .int l1, .int l2, .int l3]) ⟨Or.inr rfl, Or.inr rfl, Or.inr rfl, Or.inr rfl, trivial⟩ (wbX6_order_41 (F := F) hX  _ _ _ _ H)
        · replace H := (if_neg c24).symm.trans H
          refine g_aload_n (q := 28) (i := 0) dX6_order_27 rfl rfl rfl ?_
          refine g_get (q := 31) dX6_order_28 rfl foX6_10 0 hc0 rfl ?_
          refine g_iload_n (q := 32) (i := 3) dX6_order_31 rfl rfl rfl ?_
          refine g_iload_n (q := 33) (i := 2) dX6_order_32 rfl rfl rfl ?_
          obtain ⟨r2, σ2, e2, H⟩ := of_bnd H
          refine g_callV (q := 36) (rest := []) dX6_order_33 rfl cvX6_82 (ctX1_leadsFrom e2) rfl rfl ⟨Nat.le_of_ble_eq_true rfl, Nat.le_of_ble_eq_true rfl⟩ ⟨Nat.le_refl _, Nat.le_refl _⟩ (Nat.le_of_ble_eq_true rfl) 1 hc1 rfl (fun r0 M9 hp => ?_)
          obtain ⟨rfl, rfl⟩ := hp
          show Go x _ _ g 36 [.ref (ad 0), .int l1, .int l2, .int l3] [.int r2] (HH g ad σ2 ++ ex) 0 0
          refine g_if_ne (q := 39) (r := 41) dX6_order_36 (by decide) rfl (fun c36 => ?_) (fun c36 => ?_)
          · replace H := (if_neg c36).symm.trans H
            exact g_weak (L' := [.ref (ad 0), .int l1, .int l2, .int l3]) ⟨Or.inr rfl, Or.inr rfl, Or.inr rfl, Or.inr rfl, trivial⟩ (wbX6_order_41 (F := F) hX  _ _ _ _ H)
          · replace H := (if_pos c36).symm.trans H
            refine g_iconst (q := 40) (v := -1) dX6_order_39 rfl (by decide) ?_
            exact g_iret hX dX6_order_40 rfl rfl (Nat.le_refl _) (Nat.le_refl _) (piOk H)
      · replace H := (if_pos c17).symm.trans H
        refine g_iconst (q := 21) (v := -1) dX6_order_20 rfl (by decide) ?_
        exact g_iret hX dX6_order_21 rfl rfl (Nat.le_refl _) (Nat.le_refl _) (piOk H)
def fX3_takeBack (F : Nat) (σ : Sg)  : Rs := li_ ((σ.1 3) - (1 : Int32)) fun v1 => if (0 : Int32) ≤ v1 then (if ib v1 200 then (if ib v1 200 then (if ib v1 200 then (if ib v1 200 then ((fX4_goBack_12 F σ (σ.2.1 7 v1.toNatClampNeg) (σ.2.1 8 v1.toNatClampNeg) (σ.2.1 9 v1.toNatClampNeg) (σ.2.1 10 v1.toNatClampNeg)).bind fun q2 => (fun (r2 : Int32) (σ2 : Sg) => if ib v1 200 then (ls_ (sv σ2 4 (σ2.2.1 11 v1.toNatClampNeg)) fun σ3 => ls_ (sv σ3 3 v1) fun σ4 => some ((1 : Int32), σ4)) else none) q2.1 q2.2) else none) else none) else none) else none) else (some ((0 : Int32), σ))
set_option maxRecDepth 100000 in
set_option maxHeartbeats 4000000 in
theorem ctX3_takeBack {l : Launch} {g : GX} {ad : Nat → Nat} {ex : va_W} {r : Int32} {τ σ : Sg} {F : Nat}  (H : fX3_takeBack F σ  = some (r, τ)) : Ct l g yX3_takeBack tX3_takeBack 2 47 0 0 [.ref (ad 6)] (HH g ad σ ++ ex) (Pi_ r (HH g ad τ ++ ex)) := by
  refine Ct.of (L := [.ref (ad 6), un_]) (by decide +kernel) rfl rfl rfl (Nat.le_of_ble_eq_true rfl) rfl (fun x _ hX => ?_)
  unfold fX3_takeBack at H
  refine g_aload_n (q := 1) (i := 0) dX3_takeBack_0 rfl rfl rfl ?_
  refine g_get (q := 4) dX3_takeBack_1 rfl foX3_42 6 hc6 rfl ?_
  refine g_iconst (q := 5) (v := 1) dX3_takeBack_4 rfl (by decide) ?_
  refine g_isub (q := 6) dX3_takeBack_5 rfl ?_
  obtain ⟨v1, n1, H⟩ := of_li H
  refine g_name n1 ?_
  refine g_istore_n (q := 7) (L' := [.ref (ad 6), .int v1]) (i := 1) dX3_takeBack_6 rfl rfl (Nat.le_of_ble_eq_true rfl) rfl ?_
  refine g_iload_n (q := 8) (i := 1) dX3_takeBack_7 rfl rfl rfl ?_
  refine g_if_ge (q := 11) (r := 13) dX3_takeBack_8 (by decide) rfl (fun c8 => ?_) (fun c8 => ?_)
  · replace H := (if_pos c8).symm.trans H
    refine g_aload_n (q := 14) (i := 0) dX3_takeBack_13 rfl rfl rfl ?_
    refine g_get (q := 17) dX3_takeBack_14 rfl foX3_12 6 hc6 rfl ?_
    refine g_aload_n (q := 18) (i := 0) dX3_takeBack_17 rfl rfl rfl ?_
    refine g_get (q := 21) dX3_takeBack_18 rfl foX3_34 6 hc6 rfl ?_
    refine g_aload_n (q := 22) (i := 0) dX3_takeBack_21 rfl rfl rfl ?_
    refine g_get (q := 25) dX3_takeBack_22 rfl foX3_18 6 hc6 rfl ?_
    refine g_iload_n (q := 26) (i := 1) dX3_takeBack_25 rfl rfl rfl ?_
    obtain ⟨b26, H⟩ := of_chk H
    refine g_iald (q := 27) dX3_takeBack_26 rfl 7 hc7 b26 ?_
    refine g_aload_n (q := 28) (i := 0) dX3_takeBack_27 rfl rfl rfl ?_
    refine g_get (q := 31) dX3_takeBack_28 rfl foX3_22 6 hc6 rfl ?_
    refine g_iload_n (q := 32) (i := 1) dX3_takeBack_31 rfl rfl rfl ?_
    obtain ⟨b32, H⟩ := of_chk H
    refine g_iald (q := 33) dX3_takeBack_32 rfl 8 hc8 b32 ?_
    refine g_aload_n (q := 34) (i := 0) dX3_takeBack_33 rfl rfl rfl ?_
    refine g_get (q := 37) dX3_takeBack_34 rfl foX3_25 6 hc6 rfl ?_
    refine g_iload_n (q := 38) (i := 1) dX3_takeBack_37 rfl rfl rfl ?_
    obtain ⟨b38, H⟩ := of_chk H
    refine g_iald (q := 39) dX3_takeBack_38 rfl 9 hc9 b38 ?_
    refine g_aload_n (q := 40) (i := 0) dX3_takeBack_39 rfl rfl rfl ?_
    refine g_get (q := 43) dX3_takeBack_40 rfl foX3_28 6 hc6 rfl ?_
    refine g_iload_n (q := 44) (i := 1) dX3_takeBack_43 rfl rfl rfl ?_
    obtain ⟨b44, H⟩ := of_chk H
    refine g_iald (q := 45) dX3_takeBack_44 rfl 10 hc10 b44 ?_
    obtain ⟨r2, σ2, e2, H⟩ := of_bnd H
    refine g_callV (q := 48) (rest := []) dX3_takeBack_45 rfl cvX3_60 (ctX4_goBack_12 e2) rfl rfl ⟨Nat.le_of_ble_eq_true rfl, Nat.le_of_ble_eq_true rfl⟩ ⟨Nat.le_refl _, Nat.le_refl _⟩ (Nat.le_of_ble_eq_true rfl) 12 hc12 rfl (fun r0 M9 hp => ?_)
    obtain ⟨rfl, rfl⟩ := hp
    show Go x _ _ g 48 [.ref (ad 6), .int v1] [] (HH g ad σ2 ++ ex) 0 0
    refine g_aload_n (q := 49) (i := 0) dX3_takeBack_48 rfl rfl rfl ?_
    refine g_aload_n (q := 50) (i := 0) dX3_takeBack_49 rfl rfl rfl ?_
    refine g_get (q := 53) dX3_takeBack_50 rfl foX3_31 6 hc6 rfl ?_
    refine g_iload_n (q := 54) (i := 1) dX3_takeBack_53 rfl rfl rfl ?_
    obtain ⟨b54, H⟩ := of_chk H
    refine g_iald (q := 55) dX3_takeBack_54 rfl 11 hc11 b54 ?_
    obtain ⟨σ3, n3, H⟩ := of_ls H
    refine g_put (q := 58) dX3_takeBack_55 rfl (fpX3_46 _) 6 hc6 rfl rfl (Nat.le_of_ble_eq_true rfl) (hs4e n3) ?_
    refine g_aload_n (q := 59) (i := 0) dX3_takeBack_58 rfl rfl rfl ?_
    refine g_iload_n (q := 60) (i := 1) dX3_takeBack_59 rfl rfl rfl ?_
    obtain ⟨σ4, n4, H⟩ := of_ls H
    refine g_put (q := 63) dX3_takeBack_60 rfl (fpX3_42 _) 6 hc6 rfl rfl (Nat.le_of_ble_eq_true rfl) (hs3e n4) ?_
    refine g_iconst (q := 64) (v := 1) dX3_takeBack_63 rfl (by decide) ?_
    exact g_iret hX dX3_takeBack_64 rfl rfl (Nat.le_refl _) (Nat.le_refl _) (piOk H)
  · replace H := (if_neg c8).symm.trans H
    refine g_iconst (q := 12) (v := 0) dX3_takeBack_11 rfl (by decide) ?_
    exact g_iret hX dX3_takeBack_12 rfl rfl (Nat.le_refl _) (Nat.le_refl _) (piOk H)
def fX6_undo (F : Nat) (σ : Sg)  : Rs := (fX3_takeBack F σ).bind fun q1 => (fun (r1 : Int32) (σ1 : Sg) => if r1 = 0 ∨ r1 = 1 then some (r1, σ1) else none) q1.1 q1.2
set_option maxRecDepth 100000 in
set_option maxHeartbeats 4000000 in
theorem ctX6_undo {l : Launch} {g : GX} {ad : Nat → Nat} {ex : va_W} {r : Int32} {τ σ : Sg} {F : Nat}  (H : fX6_undo F σ  = some (r, τ)) : Ct l g yX6_undo tX6_undo 3 68 0 0 [.ref (ad 0)] (HH g ad σ ++ ex) (Pi_ r (HH g ad τ ++ ex)) := by
  refine Ct.of (L := [.ref (ad 0)]) (by decide +kernel) rfl rfl rfl (Nat.le_of_ble_eq_true rfl) rfl (fun x _ hX => ?_)
  unfold fX6_undo at H
  refine g_aload_n (q := 1) (i := 0) dX6_undo_0 rfl rfl rfl ?_
  refine g_get (q := 4) dX6_undo_1 rfl foX6_21 0 hc0 rfl ?_
  obtain ⟨r1, σ1, e1, H⟩ := of_bnd H
  refine g_callV (q := 7) (rest := []) dX6_undo_4 rfl cvX6_93 (ctX3_takeBack e1) rfl rfl ⟨Nat.le_of_ble_eq_true rfl, Nat.le_of_ble_eq_true rfl⟩ ⟨Nat.le_refl _, Nat.le_refl _⟩ (Nat.le_of_ble_eq_true rfl) 6 hc6 rfl (fun r0 M9 hp => ?_)
  obtain ⟨rfl, rfl⟩ := hp
  show Go x _ _ g 7 [.ref (ad 0)] [.int r1] (HH g ad σ1 ++ ex) 0 0
  obtain ⟨b7, H⟩ := of_chk H
  exact g_iret hX dX6_undo_7 rfl (nar_b b7) (Nat.le_refl _) (Nat.le_refl _) (piOk H)
def fX6_anew (F : Nat) (σ : Sg)  : Rs := (fX3_begin F σ).bind fun q1 => (fun (r1 : Int32) (σ1 : Sg) => some (0, σ1)) q1.1 q1.2
set_option maxRecDepth 100000 in
set_option maxHeartbeats 4000000 in
theorem ctX6_anew {l : Launch} {g : GX} {ad : Nat → Nat} {ex : va_W} {r : Int32} {τ σ : Sg} {F : Nat}  (H : fX6_anew F σ  = some (r, τ)) : Ct l g yX6_anew tX6_anew 3 64 0 0 [.ref (ad 0)] (HH g ad σ ++ ex) (Pv_ (HH g ad τ ++ ex)) := by
  refine Ct.of (L := [.ref (ad 0)]) (by decide +kernel) rfl rfl rfl (Nat.le_of_ble_eq_true rfl) rfl (fun x _ hX => ?_)
  unfold fX6_anew at H
  refine g_aload_n (q := 1) (i := 0) dX6_anew_0 rfl rfl rfl ?_
  refine g_get (q := 4) dX6_anew_1 rfl foX6_21 0 hc0 rfl ?_
  obtain ⟨r1, σ1, e1, H⟩ := of_bnd H
  refine g_callV (q := 7) (rest := []) dX6_anew_4 rfl cvX6_97 (ctX3_begin e1) rfl rfl ⟨Nat.le_of_ble_eq_true rfl, Nat.le_of_ble_eq_true rfl⟩ ⟨Nat.le_refl _, Nat.le_refl _⟩ (Nat.le_of_ble_eq_true rfl) 6 hc6 rfl (fun r0 M9 hp => ?_)
  obtain ⟨rfl, rfl⟩ := hp
  show Go x _ _ g 7 [.ref (ad 0)] [] (HH g ad σ1 ++ ex) 0 0
  exact g_vret hX dX6_anew_7 rfl (Nat.le_refl _) (Nat.le_refl _) (pvOk H)
def fJ6_bitCount_0f7a4 (F : Nat) (σ : Sg) (l0 : Int32) : Rs := li_ (l0 - (((l0.toUInt32 >>> ((1 : Int32).toUInt32 &&& Int32.toUInt32 31)).toInt32) &&& (1431655765 : Int32))) fun v1 => li_ ((v1 &&& (858993459 : Int32)) + (((v1.toUInt32 >>> ((2 : Int32).toUInt32 &&& Int32.toUInt32 31)).toInt32) &&& (858993459 : Int32))) fun v2 => li_ ((v2 + ((v2.toUInt32 >>> ((4 : Int32).toUInt32 &&& Int32.toUInt32 31)).toInt32)) &&& (252645135 : Int32)) fun v3 => li_ (v3 + ((v3.toUInt32 >>> ((8 : Int32).toUInt32 &&& Int32.toUInt32 31)).toInt32)) fun v4 => li_ (v4 + ((v4.toUInt32 >>> ((16 : Int32).toUInt32 &&& Int32.toUInt32 31)).toInt32)) fun v5 => some (v5 &&& (63 : Int32), σ)
set_option maxRecDepth 100000 in
set_option maxHeartbeats 4000000 in
theorem ctJ6_bitCount_0f7a4 {l : Launch} {g : GX} {ad : Nat → Nat} {ex : va_W} {r : Int32} {τ σ : Sg} {F : Nat} {l0 : Int32} (H : fJ6_bitCount_0f7a4 F σ l0 = some (r, τ)) : Ct l g yJ6_bitCount_0f7a4 tJ6_bitCount_0f7a4 0 0 0 0 [.int l0] (HH g ad σ ++ ex) (Pi_ r (HH g ad τ ++ ex)) := by
  refine Ct.of (L := [.int l0]) (by decide +kernel) rfl rfl rfl (Nat.le_of_ble_eq_true rfl) rfl (fun x _ hX => ?_)
  unfold fJ6_bitCount_0f7a4 at H
  refine g_iload_n (q := 1) (i := 0) dJ6_bitCount_0f7a4_0 rfl rfl rfl ?_
  refine g_iload_n (q := 2) (i := 0) dJ6_bitCount_0f7a4_1 rfl rfl rfl ?_
  refine g_iconst (q := 3) (v := 1) dJ6_bitCount_0f7a4_2 rfl (by decide) ?_
  refine g_iushr (q := 4) dJ6_bitCount_0f7a4_3 rfl ?_
  refine g_ldcw (q := 7) dJ6_bitCount_0f7a4_4 rfl kcJ6_265 ?_
  refine g_iand (q := 8) dJ6_bitCount_0f7a4_7 rfl ?_
  refine g_isub (q := 9) dJ6_bitCount_0f7a4_8 rfl ?_
  obtain ⟨v1, n1, H⟩ := of_li H
  refine g_name n1 ?_
  refine g_istore_n (q := 10) (L' := [.int v1]) (i := 0) dJ6_bitCount_0f7a4_9 rfl rfl (Nat.le_of_ble_eq_true rfl) rfl ?_
  refine g_iload_n (q := 11) (i := 0) dJ6_bitCount_0f7a4_10 rfl rfl rfl ?_
  refine g_ldcw (q := 14) dJ6_bitCount_0f7a4_11 rfl kcJ6_266 ?_
  refine g_iand (q := 15) dJ6_bitCount_0f7a4_14 rfl ?_
  refine g_iload_n (q := 16) (i := 0) dJ6_bitCount_0f7a4_15 rfl rfl rfl ?_
  refine g_iconst (q := 17) (v := 2) dJ6_bitCount_0f7a4_16 rfl (by decide) ?_
  refine g_iushr (q := 18) dJ6_bitCount_0f7a4_17 rfl ?_
  refine g_ldcw (q := 21) dJ6_bitCount_0f7a4_18 rfl kcJ6_266 ?_
  refine g_iand (q := 22) dJ6_bitCount_0f7a4_21 rfl ?_
  refine g_iadd (q := 23) dJ6_bitCount_0f7a4_22 rfl ?_
  obtain ⟨v2, n2, H⟩ := of_li H
  refine g_name n2 ?_
  refine g_istore_n (q := 24) (L' := [.int v2]) (i := 0) dJ6_bitCount_0f7a4_23 rfl rfl (Nat.le_of_ble_eq_true rfl) rfl ?_
  refine g_iload_n (q := 25) (i := 0) dJ6_bitCount_0f7a4_24 rfl rfl rfl ?_
  refine g_iload_n (q := 26) (i := 0) dJ6_bitCount_0f7a4_25 rfl rfl rfl ?_
  refine g_iconst (q := 27) (v := 4) dJ6_bitCount_0f7a4_26 rfl (by decide) ?_
  refine g_iushr (q := 28) dJ6_bitCount_0f7a4_27 rfl ?_
  refine g_iadd (q := 29) dJ6_bitCount_0f7a4_28 rfl ?_
  refine g_ldcw (q := 32) dJ6_bitCount_0f7a4_29 rfl kcJ6_267 ?_
  refine g_iand (q := 33) dJ6_bitCount_0f7a4_32 rfl ?_
  obtain ⟨v3, n3, H⟩ := of_li H
  refine g_name n3 ?_
  refine g_istore_n (q := 34) (L' := [.int v3]) (i := 0) dJ6_bitCount_0f7a4_33 rfl rfl (Nat.le_of_ble_eq_true rfl) rfl ?_
  refine g_iload_n (q := 35) (i := 0) dJ6_bitCount_0f7a4_34 rfl rfl rfl ?_
  refine g_iload_n (q := 36) (i := 0) dJ6_bitCount_0f7a4_35 rfl rfl rfl ?_
  refine g_bipush (q := 38) (v := 8) dJ6_bitCount_0f7a4_36 rfl (by decide) ?_
  refine g_iushr (q := 39) dJ6_bitCount_0f7a4_38 rfl ?_
  refine g_iadd (q := 40) dJ6_bitCount_0f7a4_39 rfl ?_
  obtain ⟨v4, n4, H⟩ := of_li H
  refine g_name n4 ?_
  refine g_istore_n (q := 41) (L' := [.int v4]) (i := 0) dJ6_bitCount_0f7a4_40 rfl rfl (Nat.le_of_ble_eq_true rfl) rfl ?_
  refine g_iload_n (q := 42) (i := 0) dJ6_bitCount_0f7a4_41 rfl rfl rfl ?_
  refine g_iload_n (q := 43) (i := 0) dJ6_bitCount_0f7a4_42 rfl rfl rfl ?_
  refine g_bipush (q := 45) (v := 16) dJ6_bitCount_0f7a4_43 rfl (by decide) ?_
  refine g_iushr (q := 46) dJ6_bitCount_0f7a4_45 rfl ?_
  refine g_iadd (q := 47) dJ6_bitCount_0f7a4_46 rfl ?_
  obtain ⟨v5, n5, H⟩ := of_li H
  refine g_name n5 ?_
  refine g_istore_n (q := 48) (L' := [.int v5]) (i := 0) dJ6_bitCount_0f7a4_47 rfl rfl (Nat.le_of_ble_eq_true rfl) rfl ?_
  refine g_iload_n (q := 49) (i := 0) dJ6_bitCount_0f7a4_48 rfl rfl rfl ?_
  refine g_bipush (q := 51) (v := 63) dJ6_bitCount_0f7a4_49 rfl (by decide) ?_
  refine g_iand (q := 52) dJ6_bitCount_0f7a4_51 rfl ?_
  exact g_iret hX dJ6_bitCount_0f7a4_52 rfl rfl (Nat.le_refl _) (Nat.le_refl _) (piOk H)
def bX1_parts_6 (F : Nat) (k6 : Sg → Int32 → Int32 → Int32 → Rs) (σ : Sg) (l1 : Int32) (l2 : Int32) (l3 : Int32) : Rs := if (σ.1 0) ≤ l3 then (some (l1, σ)) else (if ((l2 >>> (l3 &&& 31)) &&& (1 : Int32)) = (0 : Int32) then ((fX1_spread F σ ((1 : Int32) <<< (l3 &&& 31)) ((0 : Int32))).bind fun q1 => (fun (r1 : Int32) (σ1 : Sg) => k6 σ1 (l1 + 1) (l2 ||| r1) (l3 + 1)) q1.1 q1.2) else (k6 σ (l1) (l2) (l3 + 1)))
set_option maxRecDepth 100000 in
set_option maxHeartbeats 4000000 in
theorem wbX1_parts_6 {x : FX} {g : GX} {ad : Nat → Nat} {ex M0 : va_W} {r : Int32} {τ : Sg} {F : Nat} (hX : RX x g M0 (Pi_ r (HH g ad τ ++ ex)) 0 0) {k6 : Sg → Int32 → Int32 → Int32 → Rs} (h6 : ∀ (σ : Sg) (l1 : Int32) (l2 : Int32) (l3 : Int32), k6 σ l1 l2 l3 = some (r, τ) → Go x { frames := 1, cells := 0, slots := 0, locals := 27 } tX1_parts g 6 [.ref (ad 1), .int l1, .int l2, .int l3] [] (HH g ad σ ++ ex) 0 0) (σ : Sg) (l1 : Int32) (l2 : Int32) (l3 : Int32) (H : bX1_parts_6 F k6 σ l1 l2 l3 = some (r, τ)) : Go x { frames := 1, cells := 0, slots := 0, locals := 27 } tX1_parts g 6 [.ref (ad 1), .int l1, .int l2, .int l3] [] (HH g ad σ ++ ex) 0 0 := by
  unfold bX1_parts_6 at H
  refine g_iload_n (q := 7) (i := 3) dX1_parts_6 rfl rfl rfl ?_
  refine g_aload_n (q := 8) (i := 0) dX1_parts_7 rfl rfl rfl ?_
  refine g_get (q := 11) dX1_parts_8 rfl foX1_24 1 hc1 rfl ?_
  refine g_icmp_ge (q := 14) (r := 42) dX1_parts_11 (by decide) rfl (fun c11 => ?_) (fun c11 => ?_)
  · replace H := (if_pos c11).symm.trans H
    refine g_iload_n (q := 43) (i := 1) dX1_parts_42 rfl rfl rfl ?_
    exact g_iret hX dX1_parts_43 rfl rfl (Nat.le_refl _) (Nat.le_refl _) (piOk H)
  · replace H := (if_neg c11).symm.trans H
    refine g_iload_n (q := 15) (i := 2) dX1_parts_14 rfl rfl rfl ?_
    refine g_iload_n (q := 16) (i := 3) dX1_parts_15 rfl rfl rfl ?_
    refine g_ishr (q := 17) dX1_parts_16 rfl ?_
    refine g_iconst (q := 18) (v := 1) dX1_parts_17 rfl (by decide) ?_
    refine g_iand (q := 19) dX1_parts_18 rfl ?_
    refine g_if_ne (q := 22) (r := 36) dX1_parts_19 (by decide) rfl (fun c19 => ?_) (fun c19 => ?_)
    · replace H := (if_neg c19).symm.trans H
      refine g_iinc (q := 39) (b := l3 + 1) (L' := [.ref (ad 1), .int l1, .int l2, .int (l3 + 1)]) dX1_parts_36 rfl rfl rfl (Nat.le_of_ble_eq_true rfl) rfl ?_
      refine g_goto (q := 6) dX1_parts_39 (by decide) ?_
      exact g_weak (L' := [.ref (ad 1), .int l1, .int l2, .int (l3 + 1)]) ⟨Or.inr rfl, Or.inr rfl, Or.inr rfl, Or.inr rfl, trivial⟩ (h6 _ _ _ _ H)
    · replace H := (if_pos c19).symm.trans H
      refine g_iinc (q := 25) (b := l1 + 1) (L' := [.ref (ad 1), .int (l1 + 1), .int l2, .int l3]) dX1_parts_22 rfl rfl rfl (Nat.le_of_ble_eq_true rfl) rfl ?_
      refine g_iload_n (q := 26) (i := 2) dX1_parts_25 rfl rfl rfl ?_
      refine g_aload_n (q := 27) (i := 0) dX1_parts_26 rfl rfl rfl ?_
      refine g_iconst (q := 28) (v := 1) dX1_parts_27 rfl (by decide) ?_
      refine g_iload_n (q := 29) (i := 3) dX1_parts_28 rfl rfl rfl ?_
      refine g_ishl (q := 30) dX1_parts_29 rfl ?_
      refine g_iconst (q := 31) (v := 0) dX1_parts_30 rfl (by decide) ?_
      obtain ⟨r1, σ1, e1, H⟩ := of_bnd H
      refine g_callV (q := 34) (rest := [.int l2]) dX1_parts_31 rfl cvX1_60 (ctX1_spread e1) rfl rfl ⟨Nat.le_of_ble_eq_true rfl, Nat.le_of_ble_eq_true rfl⟩ ⟨Nat.le_refl _, Nat.le_refl _⟩ (Nat.le_of_ble_eq_true rfl) 1 hc1 rfl (fun r0 M9 hp => ?_)
      obtain ⟨rfl, rfl⟩ := hp
      show Go x _ _ g 34 [.ref (ad 1), .int (l1 + 1), .int l2, .int l3] [.int r1, .int l2] (HH g ad σ1 ++ ex) 0 0
      refine g_ior (q := 35) dX1_parts_34 rfl ?_
      refine g_istore_n (q := 36) (L' := [.ref (ad 1), .int (l1 + 1), .int (l2 ||| r1), .int l3]) (i := 2) dX1_parts_35 rfl rfl (Nat.le_of_ble_eq_true rfl) rfl ?_
      refine g_iinc (q := 39) (b := l3 + 1) (L' := [.ref (ad 1), .int (l1 + 1), .int (l2 ||| r1), .int (l3 + 1)]) dX1_parts_36 rfl rfl rfl (Nat.le_of_ble_eq_true rfl) rfl ?_
      refine g_goto (q := 6) dX1_parts_39 (by decide) ?_
      exact g_weak (L' := [.ref (ad 1), .int (l1 + 1), .int (l2 ||| r1), .int (l3 + 1)]) ⟨Or.inr rfl, Or.inr rfl, Or.inr rfl, Or.inr rfl, trivial⟩ (h6 _ _ _ _ H)
def fX1_parts_6 (F : Nat)  : Nat → Sg → Int32 → Int32 → Int32 → Rs
  | 0 => fun _ _ _ _ => none
  | n + 1 => fun σ l1 l2 l3 => bX1_parts_6 F  (fX1_parts_6 F  n) σ l1 l2 l3
theorem wfX1_parts_6 {x : FX} {g : GX} {ad : Nat → Nat} {ex M0 : va_W} {r : Int32} {τ : Sg} {F : Nat} (hX : RX x g M0 (Pi_ r (HH g ad τ ++ ex)) 0 0)   : ∀ (n : Nat) (σ : Sg) (l1 : Int32) (l2 : Int32) (l3 : Int32), fX1_parts_6 F  n σ l1 l2 l3 = some (r, τ) → Go x { frames := 1, cells := 0, slots := 0, locals := 27 } tX1_parts g 6 [.ref (ad 1), .int l1, .int l2, .int l3] [] (HH g ad σ ++ ex) 0 0
  | 0, _, _, _, _, H => nomatch (show (none : Rs) = some _ from H)
  | n + 1, σ, l1, l2, l3, H => wbX1_parts_6 (F := F) hX  (fun σ2 z1 z2 z3 H2 => wfX1_parts_6 (F := F) hX  n σ2 z1 z2 z3 H2) σ l1 l2 l3 H
def fX1_parts (F : Nat) (σ : Sg)  : Rs := fX1_parts_6 F F σ ((0 : Int32)) ((0 : Int32)) ((0 : Int32))
set_option maxRecDepth 100000 in
set_option maxHeartbeats 4000000 in
theorem ctX1_parts {l : Launch} {g : GX} {ad : Nat → Nat} {ex : va_W} {r : Int32} {τ σ : Sg} {F : Nat}  (H : fX1_parts F σ  = some (r, τ)) : Ct l g yX1_parts tX1_parts 1 27 0 0 [.ref (ad 1)] (HH g ad σ ++ ex) (Pi_ r (HH g ad τ ++ ex)) := by
  refine Ct.of (L := [.ref (ad 1), un_, un_, un_]) (by decide +kernel) rfl rfl rfl (Nat.le_of_ble_eq_true rfl) rfl (fun x _ hX => ?_)
  unfold fX1_parts at H
  refine g_iconst (q := 1) (v := 0) dX1_parts_0 rfl (by decide) ?_
  refine g_istore_n (q := 2) (L' := [.ref (ad 1), .int ((0 : Int32)), un_, un_]) (i := 1) dX1_parts_1 rfl rfl (Nat.le_of_ble_eq_true rfl) rfl ?_
  refine g_iconst (q := 3) (v := 0) dX1_parts_2 rfl (by decide) ?_
  refine g_istore_n (q := 4) (L' := [.ref (ad 1), .int ((0 : Int32)), .int ((0 : Int32)), un_]) (i := 2) dX1_parts_3 rfl rfl (Nat.le_of_ble_eq_true rfl) rfl ?_
  refine g_iconst (q := 5) (v := 0) dX1_parts_4 rfl (by decide) ?_
  refine g_istore_n (q := 6) (L' := [.ref (ad 1), .int ((0 : Int32)), .int ((0 : Int32)), .int ((0 : Int32))]) (i := 3) dX1_parts_5 rfl rfl (Nat.le_of_ble_eq_true rfl) rfl ?_
  exact g_weak (L' := [.ref (ad 1), .int ((0 : Int32)), .int ((0 : Int32)), .int ((0 : Int32))]) ⟨Or.inr rfl, Or.inr rfl, Or.inr rfl, Or.inr rfl, trivial⟩ (wfX1_parts_6 (F := F) hX  F _ _ _ _ H)
def fX1_isTree (F : Nat) (σ : Sg)  : Rs := (fX1_parts F σ).bind fun q1 => (fun (r1 : Int32) (σ1 : Sg) => if r1 = (1 : Int32) then ((fJ6_bitCount_0f7a4 F σ1 (σ1.1 1)).bind fun q2 => (fun (r2 : Int32) (σ2 : Sg) => if r2 = ((σ2.1 0) - (1 : Int32)) then (some ((1 : Int32), σ2)) else (some ((0 : Int32), σ2))) q2.1 q2.2) else (some ((0 : Int32), σ1))) q1.1 q1.2
set_option maxRecDepth 100000 in
set_option maxHeartbeats 4000000 in
theorem ctX1_isTree {l : Launch} {g : GX} {ad : Nat → Nat} {ex : va_W} {r : Int32} {τ σ : Sg} {F : Nat}  (H : fX1_isTree F σ  = some (r, τ)) : Ct l g yX1_isTree tX1_isTree 2 50 0 0 [.ref (ad 1)] (HH g ad σ ++ ex) (Pi_ r (HH g ad τ ++ ex)) := by
  refine Ct.of (L := [.ref (ad 1)]) (by decide +kernel) rfl rfl rfl (Nat.le_of_ble_eq_true rfl) rfl (fun x _ hX => ?_)
  unfold fX1_isTree at H
  refine g_aload_n (q := 1) (i := 0) dX1_isTree_0 rfl rfl rfl ?_
  obtain ⟨r1, σ1, e1, H⟩ := of_bnd H
  refine g_callV (q := 4) (rest := []) dX1_isTree_1 rfl cvX1_63 (ctX1_parts e1) rfl rfl ⟨Nat.le_of_ble_eq_true rfl, Nat.le_of_ble_eq_true rfl⟩ ⟨Nat.le_refl _, Nat.le_refl _⟩ (Nat.le_of_ble_eq_true rfl) 1 hc1 rfl (fun r0 M9 hp => ?_)
  obtain ⟨rfl, rfl⟩ := hp
  show Go x _ _ g 4 [.ref (ad 1)] [.int r1] (HH g ad σ1 ++ ex) 0 0
  refine g_iconst (q := 5) (v := 1) dX1_isTree_4 rfl (by decide) ?_
  refine g_icmp_ne (q := 8) (r := 28) dX1_isTree_5 (by decide) rfl (fun c5 => ?_) (fun c5 => ?_)
  · replace H := (if_neg c5).symm.trans H
    refine g_iconst (q := 29) (v := 0) dX1_isTree_28 rfl (by decide) ?_
    exact g_iret hX dX1_isTree_29 rfl rfl (Nat.le_refl _) (Nat.le_refl _) (piOk H)
  · replace H := (if_pos c5).symm.trans H
    refine g_aload_n (q := 9) (i := 0) dX1_isTree_8 rfl rfl rfl ?_
    refine g_get (q := 12) dX1_isTree_9 rfl foX1_28 1 hc1 rfl ?_
    obtain ⟨r2, σ2, e2, H⟩ := of_bnd H
    refine g_callS (q := 15) (rest := []) dX1_isTree_12 rfl csX1_67 (ctJ6_bitCount_0f7a4 e2) rfl rfl ⟨Nat.le_of_ble_eq_true rfl, Nat.le_of_ble_eq_true rfl⟩ ⟨Nat.le_refl _, Nat.le_refl _⟩ (Nat.le_of_ble_eq_true rfl) (fun r0 M9 hp => ?_)
    obtain ⟨rfl, rfl⟩ := hp
    show Go x _ _ g 15 [.ref (ad 1)] [.int r2] (HH g ad σ2 ++ ex) 0 0
    refine g_aload_n (q := 16) (i := 0) dX1_isTree_15 rfl rfl rfl ?_
    refine g_get (q := 19) dX1_isTree_16 rfl foX1_24 1 hc1 rfl ?_
    refine g_iconst (q := 20) (v := 1) dX1_isTree_19 rfl (by decide) ?_
    refine g_isub (q := 21) dX1_isTree_20 rfl ?_
    refine g_icmp_ne (q := 24) (r := 28) dX1_isTree_21 (by decide) rfl (fun c21 => ?_) (fun c21 => ?_)
    · replace H := (if_neg c21).symm.trans H
      refine g_iconst (q := 29) (v := 0) dX1_isTree_28 rfl (by decide) ?_
      exact g_iret hX dX1_isTree_29 rfl rfl (Nat.le_refl _) (Nat.le_refl _) (piOk H)
    · replace H := (if_pos c21).symm.trans H
      refine g_iconst (q := 25) (v := 1) dX1_isTree_24 rfl (by decide) ?_
      refine g_goto (q := 29) dX1_isTree_25 (by decide) ?_
      exact g_iret hX dX1_isTree_29 rfl rfl (Nat.le_refl _) (Nat.le_refl _) (piOk H)
def fX6_count (F : Nat) (σ : Sg) (l1 : Int32) : Rs := if l1.toInt < 0 ∨ 10 < l1.toInt then (some ((-1 : Int32), σ)) else if l1 = 0 then (some (σ.1 3, σ)) else if l1 = 1 then (some (σ.1 5, σ)) else if l1 = 2 then (some (σ.1 4, σ)) else if l1 = 3 then ((fJ6_bitCount_0f7a4 F σ (σ.1 7)).bind fun q1 => (fun (r1 : Int32) (σ1 : Sg) => some (r1, σ1)) q1.1 q1.2) else if l1 = 4 then ((fX1_passagesAt F σ (σ.1 7)).bind fun q2 => (fun (r2 : Int32) (σ2 : Sg) => (fJ6_bitCount_0f7a4 F σ2 r2).bind fun q3 => (fun (r3 : Int32) (σ3 : Sg) => some (r3, σ3)) q3.1 q3.2) q2.1 q2.2) else if l1 = 5 then (if (σ.1 7) = (0 : Int32) then (some ((1 : Int32), σ)) else (some ((0 : Int32), σ))) else if l1 = 6 then (some (σ.1 0, σ)) else if l1 = 7 then ((fJ6_bitCount_0f7a4 F σ (σ.1 1)).bind fun q4 => (fun (r4 : Int32) (σ4 : Sg) => some (r4, σ4)) q4.1 q4.2) else if l1 = 8 then (some (σ.1 2, σ)) else if l1 = 9 then ((fX1_parts F σ).bind fun q5 => (fun (r5 : Int32) (σ5 : Sg) => some (r5, σ5)) q5.1 q5.2) else if l1 = 10 then ((fX1_isTree F σ).bind fun q6 => (fun (r6 : Int32) (σ6 : Sg) => if r6 = (0 : Int32) then (some ((0 : Int32), σ6)) else (some ((1 : Int32), σ6))) q6.1 q6.2) else none
set_option maxRecDepth 100000 in
set_option maxHeartbeats 4000000 in
theorem ctX6_count {l : Launch} {g : GX} {ad : Nat → Nat} {ex : va_W} {r : Int32} {τ σ : Sg} {F : Nat} {l1 : Int32} (H : fX6_count F σ l1 = some (r, τ)) : Ct l g yX6_count tX6_count 3 70 0 0 [.ref (ad 0), .int l1] (HH g ad σ ++ ex) (Pi_ r (HH g ad τ ++ ex)) := by
  refine Ct.of (L := [.ref (ad 0), .int l1]) (by decide +kernel) rfl rfl rfl (Nat.le_of_ble_eq_true rfl) rfl (fun x _ hX => ?_)
  unfold fX6_count at H
  refine g_iload_n (q := 1) (i := 1) dX6_count_0 rfl rfl rfl ?_
  by_cases c1 : l1.toInt < 0 ∨ 10 < l1.toInt
  · replace H := (if_pos c1).symm.trans H
    refine g_swOut (q := 192) dX6_count_1 c1 (by decide) ?_
    refine g_iconst (q := 193) (v := -1) dX6_count_192 rfl (by decide) ?_
    exact g_iret hX dX6_count_193 rfl rfl (Nat.le_refl _) (Nat.le_refl _) (piOk H)
  replace H := (if_neg c1).symm.trans H
  by_cases e1_0 : l1 = 0
  · replace H := (if_pos e1_0).symm.trans H
    refine g_swIn (q := 60) (off := 59) dX6_count_1 (fun z => c1 (Or.inl z)) (fun z => c1 (Or.inr z)) (by rw [e1_0]; decide) (by decide) ?_
    refine g_aload_n (q := 61) (i := 0) dX6_count_60 rfl rfl rfl ?_
    refine g_get (q := 64) dX6_count_61 rfl foX6_21 0 hc0 rfl ?_
    refine g_get (q := 67) dX6_count_64 rfl foX6_86 6 hc6 rfl ?_
    exact g_iret hX dX6_count_67 rfl rfl (Nat.le_refl _) (Nat.le_refl _) (piOk H)
  replace H := (if_neg e1_0).symm.trans H
  by_cases e1_1 : l1 = 1
  · replace H := (if_pos e1_1).symm.trans H
    refine g_swIn (q := 68) (off := 67) dX6_count_1 (fun z => c1 (Or.inl z)) (fun z => c1 (Or.inr z)) (by rw [e1_1]; decide) (by decide) ?_
    refine g_aload_n (q := 69) (i := 0) dX6_count_68 rfl rfl rfl ?_
    refine g_get (q := 72) dX6_count_69 rfl foX6_21 0 hc0 rfl ?_
    refine g_get (q := 75) dX6_count_72 rfl foX6_100 6 hc6 rfl ?_
    refine g_get (q := 78) dX6_count_75 rfl foX6_103 12 hc12 rfl ?_
    exact g_iret hX dX6_count_78 rfl rfl (Nat.le_refl _) (Nat.le_refl _) (piOk H)
  replace H := (if_neg e1_1).symm.trans H
  by_cases e1_2 : l1 = 2
  · replace H := (if_pos e1_2).symm.trans H
    refine g_swIn (q := 79) (off := 78) dX6_count_1 (fun z => c1 (Or.inl z)) (fun z => c1 (Or.inr z)) (by rw [e1_2]; decide) (by decide) ?_
    refine g_aload_n (q := 80) (i := 0) dX6_count_79 rfl rfl rfl ?_
    refine g_get (q := 83) dX6_count_80 rfl foX6_21 0 hc0 rfl ?_
    refine g_get (q := 86) dX6_count_83 rfl foX6_106 6 hc6 rfl ?_
    exact g_iret hX dX6_count_86 rfl rfl (Nat.le_refl _) (Nat.le_refl _) (piOk H)
  replace H := (if_neg e1_2).symm.trans H
  by_cases e1_3 : l1 = 3
  · replace H := (if_pos e1_3).symm.trans H
    refine g_swIn (q := 87) (off := 86) dX6_count_1 (fun z => c1 (Or.inl z)) (fun z => c1 (Or.inr z)) (by rw [e1_3]; decide) (by decide) ?_
    refine g_aload_n (q := 88) (i := 0) dX6_count_87 rfl rfl rfl ?_
    refine g_get (q := 91) dX6_count_88 rfl foX6_21 0 hc0 rfl ?_
    refine g_get (q := 94) dX6_count_91 rfl foX6_100 6 hc6 rfl ?_
    refine g_get (q := 97) dX6_count_94 rfl foX6_109 12 hc12 rfl ?_
    obtain ⟨r1, σ1, e1, H⟩ := of_bnd H
    refine g_callS (q := 100) (rest := []) dX6_count_97 rfl csX6_112 (ctJ6_bitCount_0f7a4 e1) rfl rfl ⟨Nat.le_of_ble_eq_true rfl, Nat.le_of_ble_eq_true rfl⟩ ⟨Nat.le_refl _, Nat.le_refl _⟩ (Nat.le_of_ble_eq_true rfl) (fun r0 M9 hp => ?_)
    obtain ⟨rfl, rfl⟩ := hp
    show Go x _ _ g 100 [.ref (ad 0), .int l1] [.int r1] (HH g ad σ1 ++ ex) 0 0
    exact g_iret hX dX6_count_100 rfl rfl (Nat.le_refl _) (Nat.le_refl _) (piOk H)
  replace H := (if_neg e1_3).symm.trans H
  by_cases e1_4 : l1 = 4
  · replace H := (if_pos e1_4).symm.trans H
    refine g_swIn (q := 101) (off := 100) dX6_count_1 (fun z => c1 (Or.inl z)) (fun z => c1 (Or.inr z)) (by rw [e1_4]; decide) (by decide) ?_
    refine g_aload_n (q := 102) (i := 0) dX6_count_101 rfl rfl rfl ?_
    refine g_get (q := 105) dX6_count_102 rfl foX6_10 0 hc0 rfl ?_
    refine g_aload_n (q := 106) (i := 0) dX6_count_105 rfl rfl rfl ?_
    refine g_get (q := 109) dX6_count_106 rfl foX6_21 0 hc0 rfl ?_
    refine g_get (q := 112) dX6_count_109 rfl foX6_100 6 hc6 rfl ?_
    refine g_get (q := 115) dX6_count_112 rfl foX6_109 12 hc12 rfl ?_
    obtain ⟨r2, σ2, e2, H⟩ := of_bnd H
    refine g_callV (q := 118) (rest := []) dX6_count_115 rfl cvX6_118 (ctX1_passagesAt e2) rfl rfl ⟨Nat.le_of_ble_eq_true rfl, Nat.le_of_ble_eq_true rfl⟩ ⟨Nat.le_refl _, Nat.le_refl _⟩ (Nat.le_of_ble_eq_true rfl) 1 hc1 rfl (fun r0 M9 hp => ?_)
    obtain ⟨rfl, rfl⟩ := hp
    show Go x _ _ g 118 [.ref (ad 0), .int l1] [.int r2] (HH g ad σ2 ++ ex) 0 0
    obtain ⟨r3, σ3, e3, H⟩ := of_bnd H
    refine g_callS (q := 121) (rest := []) dX6_count_118 rfl csX6_112 (ctJ6_bitCount_0f7a4 e3) rfl rfl ⟨Nat.le_of_ble_eq_true rfl, Nat.le_of_ble_eq_true rfl⟩ ⟨Nat.le_refl _, Nat.le_refl _⟩ (Nat.le_of_ble_eq_true rfl) (fun r0 M9 hp => ?_)
    obtain ⟨rfl, rfl⟩ := hp
    show Go x _ _ g 121 [.ref (ad 0), .int l1] [.int r3] (HH g ad σ3 ++ ex) 0 0
    exact g_iret hX dX6_count_121 rfl rfl (Nat.le_refl _) (Nat.le_refl _) (piOk H)
  replace H := (if_neg e1_4).symm.trans H
  by_cases e1_5 : l1 = 5
  · replace H := (if_pos e1_5).symm.trans H
    refine g_swIn (q := 122) (off := 121) dX6_count_1 (fun z => c1 (Or.inl z)) (fun z => c1 (Or.inr z)) (by rw [e1_5]; decide) (by decide) ?_
    refine g_aload_n (q := 123) (i := 0) dX6_count_122 rfl rfl rfl ?_
    refine g_get (q := 126) dX6_count_123 rfl foX6_21 0 hc0 rfl ?_
    refine g_get (q := 129) dX6_count_126 rfl foX6_100 6 hc6 rfl ?_
    refine g_get (q := 132) dX6_count_129 rfl foX6_109 12 hc12 rfl ?_
    refine g_if_ne (q := 135) (r := 139) dX6_count_132 (by decide) rfl (fun c132 => ?_) (fun c132 => ?_)
    · replace H := (if_neg c132).symm.trans H
      refine g_iconst (q := 140) (v := 0) dX6_count_139 rfl (by decide) ?_
      exact g_iret hX dX6_count_140 rfl rfl (Nat.le_refl _) (Nat.le_refl _) (piOk H)
    · replace H := (if_pos c132).symm.trans H
      refine g_iconst (q := 136) (v := 1) dX6_count_135 rfl (by decide) ?_
      refine g_goto (q := 140) dX6_count_136 (by decide) ?_
      exact g_iret hX dX6_count_140 rfl rfl (Nat.le_refl _) (Nat.le_refl _) (piOk H)
  replace H := (if_neg e1_5).symm.trans H
  by_cases e1_6 : l1 = 6
  · replace H := (if_pos e1_6).symm.trans H
    refine g_swIn (q := 141) (off := 140) dX6_count_1 (fun z => c1 (Or.inl z)) (fun z => c1 (Or.inr z)) (by rw [e1_6]; decide) (by decide) ?_
    refine g_aload_n (q := 142) (i := 0) dX6_count_141 rfl rfl rfl ?_
    refine g_get (q := 145) dX6_count_142 rfl foX6_10 0 hc0 rfl ?_
    refine g_get (q := 148) dX6_count_145 rfl foX6_121 1 hc1 rfl ?_
    exact g_iret hX dX6_count_148 rfl rfl (Nat.le_refl _) (Nat.le_refl _) (piOk H)
  replace H := (if_neg e1_6).symm.trans H
  by_cases e1_7 : l1 = 7
  · replace H := (if_pos e1_7).symm.trans H
    refine g_swIn (q := 149) (off := 148) dX6_count_1 (fun z => c1 (Or.inl z)) (fun z => c1 (Or.inr z)) (by rw [e1_7]; decide) (by decide) ?_
    refine g_aload_n (q := 150) (i := 0) dX6_count_149 rfl rfl rfl ?_
    refine g_get (q := 153) dX6_count_150 rfl foX6_10 0 hc0 rfl ?_
    refine g_get (q := 156) dX6_count_153 rfl foX6_124 1 hc1 rfl ?_
    obtain ⟨r4, σ4, e4, H⟩ := of_bnd H
    refine g_callS (q := 159) (rest := []) dX6_count_156 rfl csX6_112 (ctJ6_bitCount_0f7a4 e4) rfl rfl ⟨Nat.le_of_ble_eq_true rfl, Nat.le_of_ble_eq_true rfl⟩ ⟨Nat.le_refl _, Nat.le_refl _⟩ (Nat.le_of_ble_eq_true rfl) (fun r0 M9 hp => ?_)
    obtain ⟨rfl, rfl⟩ := hp
    show Go x _ _ g 159 [.ref (ad 0), .int l1] [.int r4] (HH g ad σ4 ++ ex) 0 0
    exact g_iret hX dX6_count_159 rfl rfl (Nat.le_refl _) (Nat.le_refl _) (piOk H)
  replace H := (if_neg e1_7).symm.trans H
  by_cases e1_8 : l1 = 8
  · replace H := (if_pos e1_8).symm.trans H
    refine g_swIn (q := 160) (off := 159) dX6_count_1 (fun z => c1 (Or.inl z)) (fun z => c1 (Or.inr z)) (by rw [e1_8]; decide) (by decide) ?_
    refine g_aload_n (q := 161) (i := 0) dX6_count_160 rfl rfl rfl ?_
    refine g_get (q := 164) dX6_count_161 rfl foX6_10 0 hc0 rfl ?_
    refine g_get (q := 167) dX6_count_164 rfl foX6_78 1 hc1 rfl ?_
    exact g_iret hX dX6_count_167 rfl rfl (Nat.le_refl _) (Nat.le_refl _) (piOk H)
  replace H := (if_neg e1_8).symm.trans H
  by_cases e1_9 : l1 = 9
  · replace H := (if_pos e1_9).symm.trans H
    refine g_swIn (q := 168) (off := 167) dX6_count_1 (fun z => c1 (Or.inl z)) (fun z => c1 (Or.inr z)) (by rw [e1_9]; decide) (by decide) ?_
    refine g_aload_n (q := 169) (i := 0) dX6_count_168 rfl rfl rfl ?_
    refine g_get (q := 172) dX6_count_169 rfl foX6_10 0 hc0 rfl ?_
    obtain ⟨r5, σ5, e5, H⟩ := of_bnd H
    refine g_callV (q := 175) (rest := []) dX6_count_172 rfl cvX6_127 (ctX1_parts e5) rfl rfl ⟨Nat.le_of_ble_eq_true rfl, Nat.le_of_ble_eq_true rfl⟩ ⟨Nat.le_refl _, Nat.le_refl _⟩ (Nat.le_of_ble_eq_true rfl) 1 hc1 rfl (fun r0 M9 hp => ?_)
    obtain ⟨rfl, rfl⟩ := hp
    show Go x _ _ g 175 [.ref (ad 0), .int l1] [.int r5] (HH g ad σ5 ++ ex) 0 0
    exact g_iret hX dX6_count_175 rfl rfl (Nat.le_refl _) (Nat.le_refl _) (piOk H)
  replace H := (if_neg e1_9).symm.trans H
  by_cases e1_10 : l1 = 10
  · replace H := (if_pos e1_10).symm.trans H
    refine g_swIn (q := 176) (off := 175) dX6_count_1 (fun z => c1 (Or.inl z)) (fun z => c1 (Or.inr z)) (by rw [e1_10]; decide) (by decide) ?_
    refine g_aload_n (q := 177) (i := 0) dX6_count_176 rfl rfl rfl ?_
    refine g_get (q := 180) dX6_count_177 rfl foX6_10 0 hc0 rfl ?_
    obtain ⟨r6, σ6, e6, H⟩ := of_bnd H
    refine g_callV (q := 183) (rest := []) dX6_count_180 rfl cvX6_130 (ctX1_isTree e6) rfl rfl ⟨Nat.le_of_ble_eq_true rfl, Nat.le_of_ble_eq_true rfl⟩ ⟨Nat.le_refl _, Nat.le_refl _⟩ (Nat.le_of_ble_eq_true rfl) 1 hc1 rfl (fun r0 M9 hp => ?_)
    obtain ⟨rfl, rfl⟩ := hp
    show Go x _ _ g 183 [.ref (ad 0), .int l1] [.int r6] (HH g ad σ6 ++ ex) 0 0
    refine g_if_eq (q := 186) (r := 190) dX6_count_183 (by decide) rfl (fun c183 => ?_) (fun c183 => ?_)
    · replace H := (if_pos c183).symm.trans H
      refine g_iconst (q := 191) (v := 0) dX6_count_190 rfl (by decide) ?_
      exact g_iret hX dX6_count_191 rfl rfl (Nat.le_refl _) (Nat.le_refl _) (piOk H)
    · replace H := (if_neg c183).symm.trans H
      refine g_iconst (q := 187) (v := 1) dX6_count_186 rfl (by decide) ?_
      refine g_goto (q := 191) dX6_count_187 (by decide) ?_
      exact g_iret hX dX6_count_191 rfl rfl (Nat.le_refl _) (Nat.le_refl _) (piOk H)
  replace H := (if_neg e1_10).symm.trans H
  exact nomatch (show (none : Rs) = some _ from H)
def fX3_passagesJustLost (F : Nat) (σ : Sg)  : Rs := li_ ((σ.1 3) - (1 : Int32)) fun v1 => if (0 : Int32) ≤ v1 then ((fX1_passagesAt F σ (σ.1 7)).bind fun q2 => (fun (r2 : Int32) (σ2 : Sg) => if ib v1 200 then ((fX1_passagesAt F σ2 (σ2.2.1 10 v1.toNatClampNeg)).bind fun q3 => (fun (r3 : Int32) (σ3 : Sg) => some (r2 &&& (r3 ^^^ (-1 : Int32)), σ3)) q3.1 q3.2) else none) q2.1 q2.2) else (some ((0 : Int32), σ))
set_option maxRecDepth 100000 in
set_option maxHeartbeats 4000000 in
theorem ctX3_passagesJustLost {l : Launch} {g : GX} {ad : Nat → Nat} {ex : va_W} {r : Int32} {τ σ : Sg} {F : Nat}  (H : fX3_passagesJustLost F σ  = some (r, τ)) : Ct l g yX3_passagesJustLost tX3_passagesJustLost 1 23 0 0 [.ref (ad 6)] (HH g ad σ ++ ex) (Pi_ r (HH g ad τ ++ ex)) := by
  refine Ct.of (L := [.ref (ad 6), un_]) (by decide +kernel) rfl rfl rfl (Nat.le_of_ble_eq_true rfl) rfl (fun x _ hX => ?_)
  unfold fX3_passagesJustLost at H
  refine g_aload_n (q := 1) (i := 0) dX3_passagesJustLost_0 rfl rfl rfl ?_
  refine g_get (q := 4) dX3_passagesJustLost_1 rfl foX3_42 6 hc6 rfl ?_
  refine g_iconst (q := 5) (v := 1) dX3_passagesJustLost_4 rfl (by decide) ?_
  refine g_isub (q := 6) dX3_passagesJustLost_5 rfl ?_
  obtain ⟨v1, n1, H⟩ := of_li H
  refine g_name n1 ?_
  refine g_istore_n (q := 7) (L' := [.ref (ad 6), .int v1]) (i := 1) dX3_passagesJustLost_6 rfl rfl (Nat.le_of_ble_eq_true rfl) rfl ?_
  refine g_iload_n (q := 8) (i := 1) dX3_passagesJustLost_7 rfl rfl rfl ?_
  refine g_if_ge (q := 11) (r := 13) dX3_passagesJustLost_8 (by decide) rfl (fun c8 => ?_) (fun c8 => ?_)
  · replace H := (if_pos c8).symm.trans H
    refine g_aload_n (q := 14) (i := 0) dX3_passagesJustLost_13 rfl rfl rfl ?_
    refine g_get (q := 17) dX3_passagesJustLost_14 rfl foX3_34 6 hc6 rfl ?_
    refine g_aload_n (q := 18) (i := 0) dX3_passagesJustLost_17 rfl rfl rfl ?_
    refine g_get (q := 21) dX3_passagesJustLost_18 rfl foX3_12 6 hc6 rfl ?_
    refine g_get (q := 24) dX3_passagesJustLost_21 rfl foX3_53 12 hc12 rfl ?_
    obtain ⟨r2, σ2, e2, H⟩ := of_bnd H
    refine g_callV (q := 27) (rest := []) dX3_passagesJustLost_24 rfl cvX3_76 (ctX1_passagesAt e2) rfl rfl ⟨Nat.le_of_ble_eq_true rfl, Nat.le_of_ble_eq_true rfl⟩ ⟨Nat.le_refl _, Nat.le_refl _⟩ (Nat.le_of_ble_eq_true rfl) 1 hc1 rfl (fun r0 M9 hp => ?_)
    obtain ⟨rfl, rfl⟩ := hp
    show Go x _ _ g 27 [.ref (ad 6), .int v1] [.int r2] (HH g ad σ2 ++ ex) 0 0
    refine g_aload_n (q := 28) (i := 0) dX3_passagesJustLost_27 rfl rfl rfl ?_
    refine g_get (q := 31) dX3_passagesJustLost_28 rfl foX3_34 6 hc6 rfl ?_
    refine g_aload_n (q := 32) (i := 0) dX3_passagesJustLost_31 rfl rfl rfl ?_
    refine g_get (q := 35) dX3_passagesJustLost_32 rfl foX3_28 6 hc6 rfl ?_
    refine g_iload_n (q := 36) (i := 1) dX3_passagesJustLost_35 rfl rfl rfl ?_
    obtain ⟨b36, H⟩ := of_chk H
    refine g_iald (q := 37) dX3_passagesJustLost_36 rfl 10 hc10 b36 ?_
    obtain ⟨r3, σ3, e3, H⟩ := of_bnd H
    refine g_callV (q := 40) (rest := [.int r2]) dX3_passagesJustLost_37 rfl cvX3_76 (ctX1_passagesAt e3) rfl rfl ⟨Nat.le_of_ble_eq_true rfl, Nat.le_of_ble_eq_true rfl⟩ ⟨Nat.le_refl _, Nat.le_refl _⟩ (Nat.le_of_ble_eq_true rfl) 1 hc1 rfl (fun r0 M9 hp => ?_)
    obtain ⟨rfl, rfl⟩ := hp
    show Go x _ _ g 40 [.ref (ad 6), .int v1] [.int r3, .int r2] (HH g ad σ3 ++ ex) 0 0
    refine g_iconst (q := 41) (v := -1) dX3_passagesJustLost_40 rfl (by decide) ?_
    refine g_ixor (q := 42) dX3_passagesJustLost_41 rfl ?_
    refine g_iand (q := 43) dX3_passagesJustLost_42 rfl ?_
    exact g_iret hX dX3_passagesJustLost_43 rfl rfl (Nat.le_refl _) (Nat.le_refl _) (piOk H)
  · replace H := (if_neg c8).symm.trans H
    refine g_iconst (q := 12) (v := 0) dX3_passagesJustLost_11 rfl (by decide) ?_
    exact g_iret hX dX3_passagesJustLost_12 rfl rfl (Nat.le_refl _) (Nat.le_refl _) (piOk H)
def fX6_lookAtPassage (F : Nat) (σ : Sg) (l1 : Int32) (l2 : Int32) : Rs := if l2.toInt < 4 ∨ 7 < l2.toInt then (some ((-1 : Int32), σ)) else if l2 = 4 then (if ib l1 18 then (some (σ.2.1 2 l1.toNatClampNeg, σ)) else none) else if l2 = 5 then (if ib l1 18 then (some (σ.2.1 3 l1.toNatClampNeg, σ)) else none) else if l2 = 6 then ((fX1_passagesAt F σ (σ.1 7)).bind fun q1 => (fun (r1 : Int32) (σ1 : Sg) => some ((r1 >>> (l1 &&& 31)) &&& (1 : Int32), σ1)) q1.1 q1.2) else if l2 = 7 then ((fX3_passagesJustLost F σ).bind fun q2 => (fun (r2 : Int32) (σ2 : Sg) => some ((r2 >>> (l1 &&& 31)) &&& (1 : Int32), σ2)) q2.1 q2.2) else none
set_option maxRecDepth 100000 in
set_option maxHeartbeats 4000000 in
theorem ctX6_lookAtPassage {l : Launch} {g : GX} {ad : Nat → Nat} {ex : va_W} {r : Int32} {τ σ : Sg} {F : Nat} {l1 : Int32} {l2 : Int32} (H : fX6_lookAtPassage F σ l1 l2 = some (r, τ)) : Ct l g yX6_lookAtPassage tX6_lookAtPassage 2 44 0 0 [.ref (ad 0), .int l1, .int l2] (HH g ad σ ++ ex) (Pi_ r (HH g ad τ ++ ex)) := by
  refine Ct.of (L := [.ref (ad 0), .int l1, .int l2]) (by decide +kernel) rfl rfl rfl (Nat.le_of_ble_eq_true rfl) rfl (fun x _ hX => ?_)
  unfold fX6_lookAtPassage at H
  refine g_iload_n (q := 1) (i := 2) dX6_lookAtPassage_0 rfl rfl rfl ?_
  by_cases c1 : l2.toInt < 4 ∨ 7 < l2.toInt
  · replace H := (if_pos c1).symm.trans H
    refine g_swOut (q := 86) dX6_lookAtPassage_1 c1 (by decide) ?_
    refine g_iconst (q := 87) (v := -1) dX6_lookAtPassage_86 rfl (by decide) ?_
    exact g_iret hX dX6_lookAtPassage_87 rfl rfl (Nat.le_refl _) (Nat.le_refl _) (piOk H)
  replace H := (if_neg c1).symm.trans H
  by_cases e1_4 : l2 = 4
  · replace H := (if_pos e1_4).symm.trans H
    refine g_swIn (q := 32) (off := 31) dX6_lookAtPassage_1 (fun z => c1 (Or.inl z)) (fun z => c1 (Or.inr z)) (by rw [e1_4]; decide) (by decide) ?_
    refine g_aload_n (q := 33) (i := 0) dX6_lookAtPassage_32 rfl rfl rfl ?_
    refine g_get (q := 36) dX6_lookAtPassage_33 rfl foX6_10 0 hc0 rfl ?_
    refine g_get (q := 39) dX6_lookAtPassage_36 rfl foX6_190 1 hc1 rfl ?_
    refine g_iload_n (q := 40) (i := 1) dX6_lookAtPassage_39 rfl rfl rfl ?_
    obtain ⟨b40, H⟩ := of_chk H
    refine g_iald (q := 41) dX6_lookAtPassage_40 rfl 2 hc2 b40 ?_
    exact g_iret hX dX6_lookAtPassage_41 rfl rfl (Nat.le_refl _) (Nat.le_refl _) (piOk H)
  replace H := (if_neg e1_4).symm.trans H
  by_cases e1_5 : l2 = 5
  · replace H := (if_pos e1_5).symm.trans H
    refine g_swIn (q := 42) (off := 41) dX6_lookAtPassage_1 (fun z => c1 (Or.inl z)) (fun z => c1 (Or.inr z)) (by rw [e1_5]; decide) (by decide) ?_
    refine g_aload_n (q := 43) (i := 0) dX6_lookAtPassage_42 rfl rfl rfl ?_
    refine g_get (q := 46) dX6_lookAtPassage_43 rfl foX6_10 0 hc0 rfl ?_
    refine g_get (q := 49) dX6_lookAtPassage_46 rfl foX6_193 1 hc1 rfl ?_
    refine g_iload_n (q := 50) (i := 1) dX6_lookAtPassage_49 rfl rfl rfl ?_
    obtain ⟨b50, H⟩ := of_chk H
    refine g_iald (q := 51) dX6_lookAtPassage_50 rfl 3 hc3 b50 ?_
    exact g_iret hX dX6_lookAtPassage_51 rfl rfl (Nat.le_refl _) (Nat.le_refl _) (piOk H)
  replace H := (if_neg e1_5).symm.trans H
  by_cases e1_6 : l2 = 6
  · replace H := (if_pos e1_6).symm.trans H
    refine g_swIn (q := 52) (off := 51) dX6_lookAtPassage_1 (fun z => c1 (Or.inl z)) (fun z => c1 (Or.inr z)) (by rw [e1_6]; decide) (by decide) ?_
    refine g_aload_n (q := 53) (i := 0) dX6_lookAtPassage_52 rfl rfl rfl ?_
    refine g_get (q := 56) dX6_lookAtPassage_53 rfl foX6_10 0 hc0 rfl ?_
    refine g_aload_n (q := 57) (i := 0) dX6_lookAtPassage_56 rfl rfl rfl ?_
    refine g_get (q := 60) dX6_lookAtPassage_57 rfl foX6_21 0 hc0 rfl ?_
    refine g_get (q := 63) dX6_lookAtPassage_60 rfl foX6_100 6 hc6 rfl ?_
    refine g_get (q := 66) dX6_lookAtPassage_63 rfl foX6_109 12 hc12 rfl ?_
    obtain ⟨r1, σ1, e1, H⟩ := of_bnd H
    refine g_callV (q := 69) (rest := []) dX6_lookAtPassage_66 rfl cvX6_118 (ctX1_passagesAt e1) rfl rfl ⟨Nat.le_of_ble_eq_true rfl, Nat.le_of_ble_eq_true rfl⟩ ⟨Nat.le_refl _, Nat.le_refl _⟩ (Nat.le_of_ble_eq_true rfl) 1 hc1 rfl (fun r0 M9 hp => ?_)
    obtain ⟨rfl, rfl⟩ := hp
    show Go x _ _ g 69 [.ref (ad 0), .int l1, .int l2] [.int r1] (HH g ad σ1 ++ ex) 0 0
    refine g_iload_n (q := 70) (i := 1) dX6_lookAtPassage_69 rfl rfl rfl ?_
    refine g_ishr (q := 71) dX6_lookAtPassage_70 rfl ?_
    refine g_iconst (q := 72) (v := 1) dX6_lookAtPassage_71 rfl (by decide) ?_
    refine g_iand (q := 73) dX6_lookAtPassage_72 rfl ?_
    exact g_iret hX dX6_lookAtPassage_73 rfl rfl (Nat.le_refl _) (Nat.le_refl _) (piOk H)
  replace H := (if_neg e1_6).symm.trans H
  by_cases e1_7 : l2 = 7
  · replace H := (if_pos e1_7).symm.trans H
    refine g_swIn (q := 74) (off := 73) dX6_lookAtPassage_1 (fun z => c1 (Or.inl z)) (fun z => c1 (Or.inr z)) (by rw [e1_7]; decide) (by decide) ?_
    refine g_aload_n (q := 75) (i := 0) dX6_lookAtPassage_74 rfl rfl rfl ?_
    refine g_get (q := 78) dX6_lookAtPassage_75 rfl foX6_21 0 hc0 rfl ?_
    obtain ⟨r2, σ2, e2, H⟩ := of_bnd H
    refine g_callV (q := 81) (rest := []) dX6_lookAtPassage_78 rfl cvX6_196 (ctX3_passagesJustLost e2) rfl rfl ⟨Nat.le_of_ble_eq_true rfl, Nat.le_of_ble_eq_true rfl⟩ ⟨Nat.le_refl _, Nat.le_refl _⟩ (Nat.le_of_ble_eq_true rfl) 6 hc6 rfl (fun r0 M9 hp => ?_)
    obtain ⟨rfl, rfl⟩ := hp
    show Go x _ _ g 81 [.ref (ad 0), .int l1, .int l2] [.int r2] (HH g ad σ2 ++ ex) 0 0
    refine g_iload_n (q := 82) (i := 1) dX6_lookAtPassage_81 rfl rfl rfl ?_
    refine g_ishr (q := 83) dX6_lookAtPassage_82 rfl ?_
    refine g_iconst (q := 84) (v := 1) dX6_lookAtPassage_83 rfl (by decide) ?_
    refine g_iand (q := 85) dX6_lookAtPassage_84 rfl ?_
    exact g_iret hX dX6_lookAtPassage_85 rfl rfl (Nat.le_refl _) (Nat.le_refl _) (piOk H)
  replace H := (if_neg e1_7).symm.trans H
  exact nomatch (show (none : Rs) = some _ from H)
def bX2_placeOf_2 (F : Nat) (k2 : Sg → Int32 → Int32 → Rs) (σ : Sg) (l1 : Int32) (l2 : Int32) : Rs := if (σ.1 0) ≤ l2 then (some ((-1 : Int32), σ)) else (if ib l2 12 then (if (σ.2.1 15 l2.toNatClampNeg) = l1 then (some (l2, σ)) else (k2 σ (l1) (l2 + 1))) else none)
set_option maxRecDepth 100000 in
set_option maxHeartbeats 4000000 in
theorem wbX2_placeOf_2 {x : FX} {g : GX} {ad : Nat → Nat} {ex M0 : va_W} {r : Int32} {τ : Sg} {F : Nat} (hX : RX x g M0 (Pi_ r (HH g ad τ ++ ex)) 0 0) {k2 : Sg → Int32 → Int32 → Rs} (h2 : ∀ (σ : Sg) (l1 : Int32) (l2 : Int32), k2 σ l1 l2 = some (r, τ) → Go x { frames := 0, cells := 0, slots := 0, locals := 0 } tX2_placeOf g 2 [.ref (ad 14), .int l1, .int l2] [] (HH g ad σ ++ ex) 0 0) (σ : Sg) (l1 : Int32) (l2 : Int32) (H : bX2_placeOf_2 F k2 σ l1 l2 = some (r, τ)) : Go x { frames := 0, cells := 0, slots := 0, locals := 0 } tX2_placeOf g 2 [.ref (ad 14), .int l1, .int l2] [] (HH g ad σ ++ ex) 0 0 := by
  unfold bX2_placeOf_2 at H
  refine g_iload_n (q := 3) (i := 2) dX2_placeOf_2 rfl rfl rfl ?_
  refine g_aload_n (q := 4) (i := 0) dX2_placeOf_3 rfl rfl rfl ?_
  refine g_get (q := 7) dX2_placeOf_4 rfl foX2_18 14 hc14 rfl ?_
  refine g_get (q := 10) dX2_placeOf_7 rfl foX2_22 1 hc1 rfl ?_
  refine g_icmp_ge (q := 13) (r := 31) dX2_placeOf_10 (by decide) rfl (fun c10 => ?_) (fun c10 => ?_)
  · replace H := (if_pos c10).symm.trans H
    refine g_iconst (q := 32) (v := -1) dX2_placeOf_31 rfl (by decide) ?_
    exact g_iret hX dX2_placeOf_32 rfl rfl (Nat.le_refl _) (Nat.le_refl _) (piOk H)
  · replace H := (if_neg c10).symm.trans H
    refine g_aload_n (q := 14) (i := 0) dX2_placeOf_13 rfl rfl rfl ?_
    refine g_get (q := 17) dX2_placeOf_14 rfl foX2_9 14 hc14 rfl ?_
    refine g_iload_n (q := 18) (i := 2) dX2_placeOf_17 rfl rfl rfl ?_
    obtain ⟨b18, H⟩ := of_chk H
    refine g_iald (q := 19) dX2_placeOf_18 rfl 15 hc15 b18 ?_
    refine g_iload_n (q := 20) (i := 1) dX2_placeOf_19 rfl rfl rfl ?_
    refine g_icmp_ne (q := 23) (r := 25) dX2_placeOf_20 (by decide) rfl (fun c20 => ?_) (fun c20 => ?_)
    · replace H := (if_neg c20).symm.trans H
      refine g_iinc (q := 28) (b := l2 + 1) (L' := [.ref (ad 14), .int l1, .int (l2 + 1)]) dX2_placeOf_25 rfl rfl rfl (Nat.le_of_ble_eq_true rfl) rfl ?_
      refine g_goto (q := 2) dX2_placeOf_28 (by decide) ?_
      exact g_weak (L' := [.ref (ad 14), .int l1, .int (l2 + 1)]) ⟨Or.inr rfl, Or.inr rfl, Or.inr rfl, trivial⟩ (h2 _ _ _ H)
    · replace H := (if_pos c20).symm.trans H
      refine g_iload_n (q := 24) (i := 2) dX2_placeOf_23 rfl rfl rfl ?_
      exact g_iret hX dX2_placeOf_24 rfl rfl (Nat.le_refl _) (Nat.le_refl _) (piOk H)
def fX2_placeOf_2 (F : Nat)  : Nat → Sg → Int32 → Int32 → Rs
  | 0 => fun _ _ _ => none
  | n + 1 => fun σ l1 l2 => bX2_placeOf_2 F  (fX2_placeOf_2 F  n) σ l1 l2
theorem wfX2_placeOf_2 {x : FX} {g : GX} {ad : Nat → Nat} {ex M0 : va_W} {r : Int32} {τ : Sg} {F : Nat} (hX : RX x g M0 (Pi_ r (HH g ad τ ++ ex)) 0 0)   : ∀ (n : Nat) (σ : Sg) (l1 : Int32) (l2 : Int32), fX2_placeOf_2 F  n σ l1 l2 = some (r, τ) → Go x { frames := 0, cells := 0, slots := 0, locals := 0 } tX2_placeOf g 2 [.ref (ad 14), .int l1, .int l2] [] (HH g ad σ ++ ex) 0 0
  | 0, _, _, _, H => nomatch (show (none : Rs) = some _ from H)
  | n + 1, σ, l1, l2, H => wbX2_placeOf_2 (F := F) hX  (fun σ2 z1 z2 H2 => wfX2_placeOf_2 (F := F) hX  n σ2 z1 z2 H2) σ l1 l2 H
def fX2_placeOf (F : Nat) (σ : Sg) (l1 : Int32) : Rs := fX2_placeOf_2 F F σ (l1) ((0 : Int32))
set_option maxRecDepth 100000 in
set_option maxHeartbeats 4000000 in
theorem ctX2_placeOf {l : Launch} {g : GX} {ad : Nat → Nat} {ex : va_W} {r : Int32} {τ σ : Sg} {F : Nat} {l1 : Int32} (H : fX2_placeOf F σ l1 = some (r, τ)) : Ct l g yX2_placeOf tX2_placeOf 0 0 0 0 [.ref (ad 14), .int l1] (HH g ad σ ++ ex) (Pi_ r (HH g ad τ ++ ex)) := by
  refine Ct.of (L := [.ref (ad 14), .int l1, un_]) (by decide +kernel) rfl rfl rfl (Nat.le_of_ble_eq_true rfl) rfl (fun x _ hX => ?_)
  unfold fX2_placeOf at H
  refine g_iconst (q := 1) (v := 0) dX2_placeOf_0 rfl (by decide) ?_
  refine g_istore_n (q := 2) (L' := [.ref (ad 14), .int l1, .int ((0 : Int32))]) (i := 2) dX2_placeOf_1 rfl rfl (Nat.le_of_ble_eq_true rfl) rfl ?_
  exact g_weak (L' := [.ref (ad 14), .int l1, .int ((0 : Int32))]) ⟨Or.inr rfl, Or.inr rfl, Or.inr rfl, trivial⟩ (wfX2_placeOf_2 (F := F) hX  F _ _ _ H)
def fX6_lookAtCave (F : Nat) (σ : Sg) (l1 : Int32) (l2 : Int32) : Rs := if l2.toInt < 0 ∨ 3 < l2.toInt then (some ((-1 : Int32), σ)) else if l2 = 0 then (if ib l1 12 then (some (σ.2.1 13 l1.toNatClampNeg, σ)) else none) else if l2 = 1 then (some (((σ.1 7) >>> (l1 &&& 31)) &&& (1 : Int32), σ)) else if l2 = 2 then (if ib l1 12 then ((fJ6_bitCount_0f7a4 F σ (σ.2.1 4 l1.toNatClampNeg)).bind fun q1 => (fun (r1 : Int32) (σ1 : Sg) => some (r1, σ1)) q1.1 q1.2) else none) else if l2 = 3 then ((fX2_placeOf F σ l1).bind fun q2 => (fun (r2 : Int32) (σ2 : Sg) => some (r2, σ2)) q2.1 q2.2) else none
set_option maxRecDepth 100000 in
set_option maxHeartbeats 4000000 in
theorem ctX6_lookAtCave {l : Launch} {g : GX} {ad : Nat → Nat} {ex : va_W} {r : Int32} {τ σ : Sg} {F : Nat} {l1 : Int32} {l2 : Int32} (H : fX6_lookAtCave F σ l1 l2 = some (r, τ)) : Ct l g yX6_lookAtCave tX6_lookAtCave 1 22 0 0 [.ref (ad 0), .int l1, .int l2] (HH g ad σ ++ ex) (Pi_ r (HH g ad τ ++ ex)) := by
  refine Ct.of (L := [.ref (ad 0), .int l1, .int l2]) (by decide +kernel) rfl rfl rfl (Nat.le_of_ble_eq_true rfl) rfl (fun x _ hX => ?_)
  unfold fX6_lookAtCave at H
  refine g_iload_n (q := 1) (i := 2) dX6_lookAtCave_0 rfl rfl rfl ?_
  by_cases c1 : l2.toInt < 0 ∨ 3 < l2.toInt
  · replace H := (if_pos c1).symm.trans H
    refine g_swOut (q := 82) dX6_lookAtCave_1 c1 (by decide) ?_
    refine g_iconst (q := 83) (v := -1) dX6_lookAtCave_82 rfl (by decide) ?_
    exact g_iret hX dX6_lookAtCave_83 rfl rfl (Nat.le_refl _) (Nat.le_refl _) (piOk H)
  replace H := (if_neg c1).symm.trans H
  by_cases e1_0 : l2 = 0
  · replace H := (if_pos e1_0).symm.trans H
    refine g_swIn (q := 32) (off := 31) dX6_lookAtCave_1 (fun z => c1 (Or.inl z)) (fun z => c1 (Or.inr z)) (by rw [e1_0]; decide) (by decide) ?_
    refine g_aload_n (q := 33) (i := 0) dX6_lookAtCave_32 rfl rfl rfl ?_
    refine g_get (q := 36) dX6_lookAtCave_33 rfl foX6_21 0 hc0 rfl ?_
    refine g_get (q := 39) dX6_lookAtCave_36 rfl foX6_100 6 hc6 rfl ?_
    refine g_get (q := 42) dX6_lookAtCave_39 rfl foX6_180 12 hc12 rfl ?_
    refine g_iload_n (q := 43) (i := 1) dX6_lookAtCave_42 rfl rfl rfl ?_
    obtain ⟨b43, H⟩ := of_chk H
    refine g_iald (q := 44) dX6_lookAtCave_43 rfl 13 hc13 b43 ?_
    exact g_iret hX dX6_lookAtCave_44 rfl rfl (Nat.le_refl _) (Nat.le_refl _) (piOk H)
  replace H := (if_neg e1_0).symm.trans H
  by_cases e1_1 : l2 = 1
  · replace H := (if_pos e1_1).symm.trans H
    refine g_swIn (q := 45) (off := 44) dX6_lookAtCave_1 (fun z => c1 (Or.inl z)) (fun z => c1 (Or.inr z)) (by rw [e1_1]; decide) (by decide) ?_
    refine g_aload_n (q := 46) (i := 0) dX6_lookAtCave_45 rfl rfl rfl ?_
    refine g_get (q := 49) dX6_lookAtCave_46 rfl foX6_21 0 hc0 rfl ?_
    refine g_get (q := 52) dX6_lookAtCave_49 rfl foX6_100 6 hc6 rfl ?_
    refine g_get (q := 55) dX6_lookAtCave_52 rfl foX6_109 12 hc12 rfl ?_
    refine g_iload_n (q := 56) (i := 1) dX6_lookAtCave_55 rfl rfl rfl ?_
    refine g_ishr (q := 57) dX6_lookAtCave_56 rfl ?_
    refine g_iconst (q := 58) (v := 1) dX6_lookAtCave_57 rfl (by decide) ?_
    refine g_iand (q := 59) dX6_lookAtCave_58 rfl ?_
    exact g_iret hX dX6_lookAtCave_59 rfl rfl (Nat.le_refl _) (Nat.le_refl _) (piOk H)
  replace H := (if_neg e1_1).symm.trans H
  by_cases e1_2 : l2 = 2
  · replace H := (if_pos e1_2).symm.trans H
    refine g_swIn (q := 60) (off := 59) dX6_lookAtCave_1 (fun z => c1 (Or.inl z)) (fun z => c1 (Or.inr z)) (by rw [e1_2]; decide) (by decide) ?_
    refine g_aload_n (q := 61) (i := 0) dX6_lookAtCave_60 rfl rfl rfl ?_
    refine g_get (q := 64) dX6_lookAtCave_61 rfl foX6_10 0 hc0 rfl ?_
    refine g_get (q := 67) dX6_lookAtCave_64 rfl foX6_184 1 hc1 rfl ?_
    refine g_iload_n (q := 68) (i := 1) dX6_lookAtCave_67 rfl rfl rfl ?_
    obtain ⟨b68, H⟩ := of_chk H
    refine g_iald (q := 69) dX6_lookAtCave_68 rfl 4 hc4 b68 ?_
    obtain ⟨r1, σ1, e1, H⟩ := of_bnd H
    refine g_callS (q := 72) (rest := []) dX6_lookAtCave_69 rfl csX6_112 (ctJ6_bitCount_0f7a4 e1) rfl rfl ⟨Nat.le_of_ble_eq_true rfl, Nat.le_of_ble_eq_true rfl⟩ ⟨Nat.le_refl _, Nat.le_refl _⟩ (Nat.le_of_ble_eq_true rfl) (fun r0 M9 hp => ?_)
    obtain ⟨rfl, rfl⟩ := hp
    show Go x _ _ g 72 [.ref (ad 0), .int l1, .int l2] [.int r1] (HH g ad σ1 ++ ex) 0 0
    exact g_iret hX dX6_lookAtCave_72 rfl rfl (Nat.le_refl _) (Nat.le_refl _) (piOk H)
  replace H := (if_neg e1_2).symm.trans H
  by_cases e1_3 : l2 = 3
  · replace H := (if_pos e1_3).symm.trans H
    refine g_swIn (q := 73) (off := 72) dX6_lookAtCave_1 (fun z => c1 (Or.inl z)) (fun z => c1 (Or.inr z)) (by rw [e1_3]; decide) (by decide) ?_
    refine g_aload_n (q := 74) (i := 0) dX6_lookAtCave_73 rfl rfl rfl ?_
    refine g_get (q := 77) dX6_lookAtCave_74 rfl foX6_28 0 hc0 rfl ?_
    refine g_iload_n (q := 78) (i := 1) dX6_lookAtCave_77 rfl rfl rfl ?_
    obtain ⟨r2, σ2, e2, H⟩ := of_bnd H
    refine g_callV (q := 81) (rest := []) dX6_lookAtCave_78 rfl cvX6_187 (ctX2_placeOf e2) rfl rfl ⟨Nat.le_of_ble_eq_true rfl, Nat.le_of_ble_eq_true rfl⟩ ⟨Nat.le_refl _, Nat.le_refl _⟩ (Nat.le_of_ble_eq_true rfl) 14 hc14 rfl (fun r0 M9 hp => ?_)
    obtain ⟨rfl, rfl⟩ := hp
    show Go x _ _ g 81 [.ref (ad 0), .int l1, .int l2] [.int r2] (HH g ad σ2 ++ ex) 0 0
    exact g_iret hX dX6_lookAtCave_81 rfl rfl (Nat.le_refl _) (Nat.le_refl _) (piOk H)
  replace H := (if_neg e1_3).symm.trans H
  exact nomatch (show (none : Rs) = some _ from H)
def fX6_look (F : Nat) (σ : Sg) (l1 : Int32) (l2 : Int32) : Rs := if (4 : Int32) ≤ l2 then ((fX1_hasPassage F σ l1).bind fun q1 => (fun (r1 : Int32) (σ1 : Sg) => if r1 = (0 : Int32) then (some ((-1 : Int32), σ1)) else ((fX6_lookAtPassage F σ1 l1 l2).bind fun q2 => (fun (r2 : Int32) (σ2 : Sg) => some (r2, σ2)) q2.1 q2.2)) q1.1 q1.2) else ((fX1_hasCave F σ l1).bind fun q3 => (fun (r3 : Int32) (σ3 : Sg) => if r3 = (0 : Int32) then (some ((-1 : Int32), σ3)) else ((fX6_lookAtCave F σ3 l1 l2).bind fun q4 => (fun (r4 : Int32) (σ4 : Sg) => some (r4, σ4)) q4.1 q4.2)) q3.1 q3.2)
set_option maxRecDepth 100000 in
set_option maxHeartbeats 4000000 in
theorem ctX6_look {l : Launch} {g : GX} {ad : Nat → Nat} {ex : va_W} {r : Int32} {τ σ : Sg} {F : Nat} {l1 : Int32} {l2 : Int32} (H : fX6_look F σ l1 l2 = some (r, τ)) : Ct l g yX6_look tX6_look 3 66 0 0 [.ref (ad 0), .int l1, .int l2] (HH g ad σ ++ ex) (Pi_ r (HH g ad τ ++ ex)) := by
  refine Ct.of (L := [.ref (ad 0), .int l1, .int l2]) (by decide +kernel) rfl rfl rfl (Nat.le_of_ble_eq_true rfl) rfl (fun x _ hX => ?_)
  unfold fX6_look at H
  refine g_iload_n (q := 1) (i := 2) dX6_look_0 rfl rfl rfl ?_
  refine g_iconst (q := 2) (v := 4) dX6_look_1 rfl (by decide) ?_
  refine g_icmp_ge (q := 5) (r := 27) dX6_look_2 (by decide) rfl (fun c2 => ?_) (fun c2 => ?_)
  · replace H := (if_pos c2).symm.trans H
    refine g_aload_n (q := 28) (i := 0) dX6_look_27 rfl rfl rfl ?_
    refine g_get (q := 31) dX6_look_28 rfl foX6_10 0 hc0 rfl ?_
    refine g_iload_n (q := 32) (i := 1) dX6_look_31 rfl rfl rfl ?_
    obtain ⟨r1, σ1, e1, H⟩ := of_bnd H
    refine g_callV (q := 35) (rest := []) dX6_look_32 rfl cvX6_72 (ctX1_hasPassage e1) rfl rfl ⟨Nat.le_of_ble_eq_true rfl, Nat.le_of_ble_eq_true rfl⟩ ⟨Nat.le_refl _, Nat.le_refl _⟩ (Nat.le_of_ble_eq_true rfl) 1 hc1 rfl (fun r0 M9 hp => ?_)
    obtain ⟨rfl, rfl⟩ := hp
    show Go x _ _ g 35 [.ref (ad 0), .int l1, .int l2] [.int r1] (HH g ad σ1 ++ ex) 0 0
    refine g_if_eq (q := 38) (r := 47) dX6_look_35 (by decide) rfl (fun c35 => ?_) (fun c35 => ?_)
    · replace H := (if_pos c35).symm.trans H
      refine g_iconst (q := 48) (v := -1) dX6_look_47 rfl (by decide) ?_
      exact g_iret hX dX6_look_48 rfl rfl (Nat.le_refl _) (Nat.le_refl _) (piOk H)
    · replace H := (if_neg c35).symm.trans H
      refine g_aload_n (q := 39) (i := 0) dX6_look_38 rfl rfl rfl ?_
      refine g_iload_n (q := 40) (i := 1) dX6_look_39 rfl rfl rfl ?_
      refine g_iload_n (q := 41) (i := 2) dX6_look_40 rfl rfl rfl ?_
      obtain ⟨r2, σ2, e2, H⟩ := of_bnd H
      refine g_callV (q := 44) (rest := []) dX6_look_41 rfl cvX6_137 (ctX6_lookAtPassage e2) rfl rfl ⟨Nat.le_of_ble_eq_true rfl, Nat.le_of_ble_eq_true rfl⟩ ⟨Nat.le_refl _, Nat.le_refl _⟩ (Nat.le_of_ble_eq_true rfl) 0 hc0 rfl (fun r0 M9 hp => ?_)
      obtain ⟨rfl, rfl⟩ := hp
      show Go x _ _ g 44 [.ref (ad 0), .int l1, .int l2] [.int r2] (HH g ad σ2 ++ ex) 0 0
      refine g_goto (q := 48) dX6_look_44 (by decide) ?_
      exact g_iret hX dX6_look_48 rfl rfl (Nat.le_refl _) (Nat.le_refl _) (piOk H)
  · replace H := (if_neg c2).symm.trans H
    refine g_aload_n (q := 6) (i := 0) dX6_look_5 rfl rfl rfl ?_
    refine g_get (q := 9) dX6_look_6 rfl foX6_10 0 hc0 rfl ?_
    refine g_iload_n (q := 10) (i := 1) dX6_look_9 rfl rfl rfl ?_
    obtain ⟨r3, σ3, e3, H⟩ := of_bnd H
    refine g_callV (q := 13) (rest := []) dX6_look_10 rfl cvX6_64 (ctX1_hasCave e3) rfl rfl ⟨Nat.le_of_ble_eq_true rfl, Nat.le_of_ble_eq_true rfl⟩ ⟨Nat.le_refl _, Nat.le_refl _⟩ (Nat.le_of_ble_eq_true rfl) 1 hc1 rfl (fun r0 M9 hp => ?_)
    obtain ⟨rfl, rfl⟩ := hp
    show Go x _ _ g 13 [.ref (ad 0), .int l1, .int l2] [.int r3] (HH g ad σ3 ++ ex) 0 0
    refine g_if_eq (q := 16) (r := 25) dX6_look_13 (by decide) rfl (fun c13 => ?_) (fun c13 => ?_)
    · replace H := (if_pos c13).symm.trans H
      refine g_iconst (q := 26) (v := -1) dX6_look_25 rfl (by decide) ?_
      exact g_iret hX dX6_look_26 rfl rfl (Nat.le_refl _) (Nat.le_refl _) (piOk H)
    · replace H := (if_neg c13).symm.trans H
      refine g_aload_n (q := 17) (i := 0) dX6_look_16 rfl rfl rfl ?_
      refine g_iload_n (q := 18) (i := 1) dX6_look_17 rfl rfl rfl ?_
      refine g_iload_n (q := 19) (i := 2) dX6_look_18 rfl rfl rfl ?_
      obtain ⟨r4, σ4, e4, H⟩ := of_bnd H
      refine g_callV (q := 22) (rest := []) dX6_look_19 rfl cvX6_133 (ctX6_lookAtCave e4) rfl rfl ⟨Nat.le_of_ble_eq_true rfl, Nat.le_of_ble_eq_true rfl⟩ ⟨Nat.le_refl _, Nat.le_refl _⟩ (Nat.le_of_ble_eq_true rfl) 0 hc0 rfl (fun r0 M9 hp => ?_)
      obtain ⟨rfl, rfl⟩ := hp
      show Go x _ _ g 22 [.ref (ad 0), .int l1, .int l2] [.int r4] (HH g ad σ4 ++ ex) 0 0
      refine g_goto (q := 26) dX6_look_22 (by decide) ?_
      exact g_iret hX dX6_look_26 rfl rfl (Nat.le_refl _) (Nat.le_refl _) (piOk H)
def fX6_isLaw (F : Nat) (σ : Sg) (l0 : Int32) : Rs := if l0 < (0 : Int32) then (some ((0 : Int32), σ)) else (if (2 : Int32) < l0 then (some ((0 : Int32), σ)) else (some ((1 : Int32), σ)))
set_option maxRecDepth 100000 in
set_option maxHeartbeats 4000000 in
theorem ctX6_isLaw {l : Launch} {g : GX} {ad : Nat → Nat} {ex : va_W} {r : Int32} {τ σ : Sg} {F : Nat} {l0 : Int32} (H : fX6_isLaw F σ l0 = some (r, τ)) : Ct l g yX6_isLaw tX6_isLaw 0 0 0 0 [.int l0] (HH g ad σ ++ ex) (Pi_ r (HH g ad τ ++ ex)) := by
  refine Ct.of (L := [.int l0]) (by decide +kernel) rfl rfl rfl (Nat.le_of_ble_eq_true rfl) rfl (fun x _ hX => ?_)
  unfold fX6_isLaw at H
  refine g_iload_n (q := 1) (i := 0) dX6_isLaw_0 rfl rfl rfl ?_
  refine g_if_lt (q := 4) (r := 13) dX6_isLaw_1 (by decide) rfl (fun c1 => ?_) (fun c1 => ?_)
  · replace H := (if_pos c1).symm.trans H
    refine g_iconst (q := 14) (v := 0) dX6_isLaw_13 rfl (by decide) ?_
    exact g_iret hX dX6_isLaw_14 rfl rfl (Nat.le_refl _) (Nat.le_refl _) (piOk H)
  · replace H := (if_neg c1).symm.trans H
    refine g_iload_n (q := 5) (i := 0) dX6_isLaw_4 rfl rfl rfl ?_
    refine g_iconst (q := 6) (v := 2) dX6_isLaw_5 rfl (by decide) ?_
    refine g_icmp_gt (q := 9) (r := 13) dX6_isLaw_6 (by decide) rfl (fun c6 => ?_) (fun c6 => ?_)
    · replace H := (if_pos c6).symm.trans H
      refine g_iconst (q := 14) (v := 0) dX6_isLaw_13 rfl (by decide) ?_
      exact g_iret hX dX6_isLaw_14 rfl rfl (Nat.le_refl _) (Nat.le_refl _) (piOk H)
    · replace H := (if_neg c6).symm.trans H
      refine g_iconst (q := 10) (v := 1) dX6_isLaw_9 rfl (by decide) ?_
      refine g_goto (q := 14) dX6_isLaw_10 (by decide) ?_
      exact g_iret hX dX6_isLaw_14 rfl rfl (Nat.le_refl _) (Nat.le_refl _) (piOk H)
