def fX7_isSearched (F : Nat) (σ : Sg)  : Rs := if (σ.1 23) = (0 : Int32) then (if (σ.1 24) = (0 : Int32) then (some ((1 : Int32), σ)) else (some ((0 : Int32), σ))) else (some ((0 : Int32), σ))
set_option maxRecDepth 100000 in
set_option maxHeartbeats 4000000 in
theorem ctX7_isSearched {l : Launch} {g : GX} {ad : Nat → Nat} {ex : va_W} {r : Int32} {τ σ : Sg} {F : Nat}  (H : fX7_isSearched F σ  = some (r, τ)) : Ct l g yX7_isSearched tX7_isSearched 0 0 0 0 [.ref (ad 24)] (HH g ad σ ++ ex) (Pi_ r (HH g ad τ ++ ex)) := by
  refine Ct.of (L := [.ref (ad 24)]) (by decide +kernel) rfl rfl rfl (Nat.le_of_ble_eq_true rfl) rfl (fun x _ hX => ?_)
  unfold fX7_isSearched at H
  refine g_aload_n (q := 1) (i := 0) dX7_isSearched_0 rfl rfl rfl ?_
  refine g_get (q := 4) dX7_isSearched_1 rfl foX7_91 24 hc24 rfl ?_
  refine g_if_ne (q := 7) (r := 18) dX7_isSearched_4 (by decide) rfl (fun c4 => ?_) (fun c4 => ?_)
  · replace H := (if_neg c4).symm.trans H
    refine g_iconst (q := 19) (v := 0) dX7_isSearched_18 rfl (by decide) ?_
    exact g_iret hX dX7_isSearched_19 rfl rfl (Nat.le_refl _) (Nat.le_refl _) (piOk H)
  · replace H := (if_pos c4).symm.trans H
    refine g_aload_n (q := 8) (i := 0) dX7_isSearched_7 rfl rfl rfl ?_
    refine g_get (q := 11) dX7_isSearched_8 rfl foX7_94 24 hc24 rfl ?_
    refine g_if_ne (q := 14) (r := 18) dX7_isSearched_11 (by decide) rfl (fun c11 => ?_) (fun c11 => ?_)
    · replace H := (if_neg c11).symm.trans H
      refine g_iconst (q := 19) (v := 0) dX7_isSearched_18 rfl (by decide) ?_
      exact g_iret hX dX7_isSearched_19 rfl rfl (Nat.le_refl _) (Nat.le_refl _) (piOk H)
    · replace H := (if_pos c11).symm.trans H
      refine g_iconst (q := 15) (v := 1) dX7_isSearched_14 rfl (by decide) ?_
      refine g_goto (q := 19) dX7_isSearched_15 (by decide) ?_
      exact g_iret hX dX7_isSearched_19 rfl rfl (Nat.le_refl _) (Nat.le_refl _) (piOk H)
def bX7_may_25 (F : Nat)  (σ : Sg) (l1 : Int32) (l3 : Int32) : Rs := if l1 = (2 : Int32) then (if l3 = (σ.1 22) then (some ((1 : Int32), σ)) else (some ((0 : Int32), σ))) else (some ((1 : Int32), σ))
set_option maxRecDepth 100000 in
set_option maxHeartbeats 4000000 in
theorem wbX7_may_25 {x : FX} {g : GX} {ad : Nat → Nat} {ex M0 : va_W} {r : Int32} {τ : Sg} {F : Nat} (hX : RX x g M0 (Pi_ r (HH g ad τ ++ ex)) 0 0)   (σ : Sg) (l1 : Int32) (l3 : Int32) (H : bX7_may_25 F  σ l1 l3 = some (r, τ)) : Go x { frames := 1, cells := 0, slots := 0, locals := 22 } tX7_may g 25 [.ref (ad 24), .int l1, un_, .int l3, un_] [] (HH g ad σ ++ ex) 0 0 := by
  unfold bX7_may_25 at H
  refine g_iload_n (q := 26) (i := 1) dX7_may_25 rfl rfl rfl ?_
  refine g_iconst (q := 27) (v := 2) dX7_may_26 rfl (by decide) ?_
  refine g_icmp_ne (q := 30) (r := 38) dX7_may_27 (by decide) rfl (fun c27 => ?_) (fun c27 => ?_)
  · replace H := (if_neg c27).symm.trans H
    refine g_iconst (q := 39) (v := 1) dX7_may_38 rfl (by decide) ?_
    refine g_goto (q := 43) dX7_may_39 (by decide) ?_
    exact g_iret hX dX7_may_43 rfl rfl (Nat.le_refl _) (Nat.le_refl _) (piOk H)
  · replace H := (if_pos c27).symm.trans H
    refine g_iload_n (q := 31) (i := 3) dX7_may_30 rfl rfl rfl ?_
    refine g_aload_n (q := 32) (i := 0) dX7_may_31 rfl rfl rfl ?_
    refine g_get (q := 35) dX7_may_32 rfl foX7_74 24 hc24 rfl ?_
    refine g_icmp_ne (q := 38) (r := 42) dX7_may_35 (by decide) rfl (fun c35 => ?_) (fun c35 => ?_)
    · replace H := (if_neg c35).symm.trans H
      refine g_iconst (q := 43) (v := 0) dX7_may_42 rfl (by decide) ?_
      exact g_iret hX dX7_may_43 rfl rfl (Nat.le_refl _) (Nat.le_refl _) (piOk H)
    · replace H := (if_pos c35).symm.trans H
      refine g_iconst (q := 39) (v := 1) dX7_may_38 rfl (by decide) ?_
      refine g_goto (q := 43) dX7_may_39 (by decide) ?_
      exact g_iret hX dX7_may_43 rfl rfl (Nat.le_refl _) (Nat.le_refl _) (piOk H)
def fX7_may (F : Nat) (σ : Sg) (l1 : Int32) (l2 : Int32) (l3 : Int32) (l4 : Int32) : Rs := if l2 = (0 : Int32) then ((fX7_below F σ).bind fun q1 => (fun (r1 : Int32) (σ1 : Sg) => if l4 ≤ r1 then (some ((0 : Int32), σ1)) else (if l1 = (1 : Int32) then (if (σ1.1 27) = (0 : Int32) then (bX7_may_25 F σ1 (l1) (l3)) else (some ((0 : Int32), σ1))) else (bX7_may_25 F σ1 (l1) (l3)))) q1.1 q1.2) else (if ib l3 12 then (if (σ.2.1 29 l3.toNatClampNeg) ≤ (0 : Int32) then (some ((0 : Int32), σ)) else (if l2 = (1 : Int32) then (if l1 = (0 : Int32) then (some ((1 : Int32), σ)) else (some ((0 : Int32), σ))) else (some ((1 : Int32), σ)))) else none)
set_option maxRecDepth 100000 in
set_option maxHeartbeats 4000000 in
theorem ctX7_may {l : Launch} {g : GX} {ad : Nat → Nat} {ex : va_W} {r : Int32} {τ σ : Sg} {F : Nat} {l1 : Int32} {l2 : Int32} {l3 : Int32} {l4 : Int32} (H : fX7_may F σ l1 l2 l3 l4 = some (r, τ)) : Ct l g yX7_may tX7_may 1 22 0 0 [.ref (ad 24), .int l1, .int l2, .int l3, .int l4] (HH g ad σ ++ ex) (Pi_ r (HH g ad τ ++ ex)) := by
  refine Ct.of (L := [.ref (ad 24), .int l1, .int l2, .int l3, .int l4]) (by decide +kernel) rfl rfl rfl (Nat.le_of_ble_eq_true rfl) rfl (fun x _ hX => ?_)
  unfold fX7_may at H
  refine g_iload_n (q := 1) (i := 2) dX7_may_0 rfl rfl rfl ?_
  refine g_if_ne (q := 4) (r := 44) dX7_may_1 (by decide) rfl (fun c1 => ?_) (fun c1 => ?_)
  · replace H := (if_neg c1).symm.trans H
    refine g_aload_n (q := 45) (i := 0) dX7_may_44 rfl rfl rfl ?_
    refine g_get (q := 48) dX7_may_45 rfl foX7_23 24 hc24 rfl ?_
    refine g_iload_n (q := 49) (i := 3) dX7_may_48 rfl rfl rfl ?_
    obtain ⟨b49, H⟩ := of_chk H
    refine g_iald (q := 50) dX7_may_49 rfl 29 hc29 b49 ?_
    refine g_if_le (q := 53) (r := 66) dX7_may_50 (by decide) rfl (fun c50 => ?_) (fun c50 => ?_)
    · replace H := (if_pos c50).symm.trans H
      refine g_iconst (q := 67) (v := 0) dX7_may_66 rfl (by decide) ?_
      exact g_iret hX dX7_may_67 rfl rfl (Nat.le_refl _) (Nat.le_refl _) (piOk H)
    · replace H := (if_neg c50).symm.trans H
      refine g_iload_n (q := 54) (i := 2) dX7_may_53 rfl rfl rfl ?_
      refine g_iconst (q := 55) (v := 1) dX7_may_54 rfl (by decide) ?_
      refine g_icmp_ne (q := 58) (r := 62) dX7_may_55 (by decide) rfl (fun c55 => ?_) (fun c55 => ?_)
      · replace H := (if_neg c55).symm.trans H
        refine g_iconst (q := 63) (v := 1) dX7_may_62 rfl (by decide) ?_
        refine g_goto (q := 67) dX7_may_63 (by decide) ?_
        exact g_iret hX dX7_may_67 rfl rfl (Nat.le_refl _) (Nat.le_refl _) (piOk H)
      · replace H := (if_pos c55).symm.trans H
        refine g_iload_n (q := 59) (i := 1) dX7_may_58 rfl rfl rfl ?_
        refine g_if_ne (q := 62) (r := 66) dX7_may_59 (by decide) rfl (fun c59 => ?_) (fun c59 => ?_)
        · replace H := (if_neg c59).symm.trans H
          refine g_iconst (q := 67) (v := 0) dX7_may_66 rfl (by decide) ?_
          exact g_iret hX dX7_may_67 rfl rfl (Nat.le_refl _) (Nat.le_refl _) (piOk H)
        · replace H := (if_pos c59).symm.trans H
          refine g_iconst (q := 63) (v := 1) dX7_may_62 rfl (by decide) ?_
          refine g_goto (q := 67) dX7_may_63 (by decide) ?_
          exact g_iret hX dX7_may_67 rfl rfl (Nat.le_refl _) (Nat.le_refl _) (piOk H)
  · replace H := (if_pos c1).symm.trans H
    refine g_aload_n (q := 5) (i := 0) dX7_may_4 rfl rfl rfl ?_
    obtain ⟨r1, σ1, e1, H⟩ := of_bnd H
    refine g_callV (q := 8) (rest := []) dX7_may_5 rfl cvX7_123 (ctX7_below e1) rfl rfl ⟨Nat.le_of_ble_eq_true rfl, Nat.le_of_ble_eq_true rfl⟩ ⟨Nat.le_refl _, Nat.le_refl _⟩ (Nat.le_of_ble_eq_true rfl) 24 hc24 rfl (fun r0 M9 hp => ?_)
    obtain ⟨rfl, rfl⟩ := hp
    show Go x _ _ g 8 [.ref (ad 24), .int l1, .int l2, .int l3, .int l4] [.int r1] (HH g ad σ1 ++ ex) 0 0
    refine g_iload (q := 10) dX7_may_8 rfl rfl ?_
    refine g_icmp_ge (q := 13) (r := 42) dX7_may_10 (by decide) rfl (fun c10 => ?_) (fun c10 => ?_)
    · replace H := (if_pos c10).symm.trans H
      refine g_iconst (q := 43) (v := 0) dX7_may_42 rfl (by decide) ?_
      exact g_iret hX dX7_may_43 rfl rfl (Nat.le_refl _) (Nat.le_refl _) (piOk H)
    · replace H := (if_neg c10).symm.trans H
      refine g_iload_n (q := 14) (i := 1) dX7_may_13 rfl rfl rfl ?_
      refine g_iconst (q := 15) (v := 1) dX7_may_14 rfl (by decide) ?_
      refine g_icmp_ne (q := 18) (r := 25) dX7_may_15 (by decide) rfl (fun c15 => ?_) (fun c15 => ?_)
      · replace H := (if_neg c15).symm.trans H
        exact g_weak (L' := [.ref (ad 24), .int l1, un_, .int l3, un_]) ⟨Or.inr rfl, Or.inr rfl, Or.inl rfl, Or.inr rfl, Or.inl rfl, trivial⟩ (wbX7_may_25 (F := F) hX  _ _ _ H)
      · replace H := (if_pos c15).symm.trans H
        refine g_aload_n (q := 19) (i := 0) dX7_may_18 rfl rfl rfl ?_
        refine g_get (q := 22) dX7_may_19 rfl foX7_150 24 hc24 rfl ?_
        refine g_if_ne (q := 25) (r := 42) dX7_may_22 (by decide) rfl (fun c22 => ?_) (fun c22 => ?_)
        · replace H := (if_neg c22).symm.trans H
          refine g_iconst (q := 43) (v := 0) dX7_may_42 rfl (by decide) ?_
          exact g_iret hX dX7_may_43 rfl rfl (Nat.le_refl _) (Nat.le_refl _) (piOk H)
        · replace H := (if_pos c22).symm.trans H
          exact g_weak (L' := [.ref (ad 24), .int l1, un_, .int l3, un_]) ⟨Or.inr rfl, Or.inr rfl, Or.inl rfl, Or.inr rfl, Or.inl rfl, trivial⟩ (wbX7_may_25 (F := F) hX  _ _ _ H)
def bX7_hangs_107 (F : Nat) (k107 : Sg → Int32 → Int32 → Int32 → Int32 → Rs) (σ : Sg) (l2 : Int32) (l3 : Int32) (l4 : Int32) (l5 : Int32) : Rs := if (18 : Int32) ≤ l5 then (if l4 = 0 ∨ l4 = 1 then some (l4, σ) else none) else (if l4 = (0 : Int32) then (k107 σ (l2) (l3) ((0 : Int32)) (l5 + 1)) else (if ((l2 >>> (l5 &&& 31)) &&& (1 : Int32)) = (0 : Int32) then (k107 σ (l2) (l3) ((1 : Int32)) (l5 + 1)) else (if ib l5 18 then (if ((l3 >>> ((σ.2.1 25 l5.toNatClampNeg) &&& 31)) &&& (1 : Int32)) = (1 : Int32) then (k107 σ (l2) (l3) ((1 : Int32)) (l5 + 1)) else (k107 σ (l2) (l3) ((0 : Int32)) (l5 + 1))) else none)))
set_option maxRecDepth 100000 in
set_option maxHeartbeats 4000000 in
theorem wbX7_hangs_107 {x : FX} {g : GX} {ad : Nat → Nat} {ex M0 : va_W} {r : Int32} {τ : Sg} {F : Nat} (hX : RX x g M0 (Pi_ r (HH g ad τ ++ ex)) 0 0) {k107 : Sg → Int32 → Int32 → Int32 → Int32 → Rs} (h107 : ∀ (σ : Sg) (l2 : Int32) (l3 : Int32) (l4 : Int32) (l5 : Int32), k107 σ l2 l3 l4 l5 = some (r, τ) → Go x { frames := 1, cells := 0, slots := 0, locals := 26 } tX7_hangs g 107 [.ref (ad 24), un_, .int l2, .int l3, .int l4, .int l5] [] (HH g ad σ ++ ex) 0 0) (σ : Sg) (l2 : Int32) (l3 : Int32) (l4 : Int32) (l5 : Int32) (H : bX7_hangs_107 F k107 σ l2 l3 l4 l5 = some (r, τ)) : Go x { frames := 1, cells := 0, slots := 0, locals := 26 } tX7_hangs g 107 [.ref (ad 24), un_, .int l2, .int l3, .int l4, .int l5] [] (HH g ad σ ++ ex) 0 0 := by
  unfold bX7_hangs_107 at H
  refine g_iload (q := 109) dX7_hangs_107 rfl rfl ?_
  refine g_bipush (q := 111) (v := 18) dX7_hangs_109 rfl (by decide) ?_
  refine g_icmp_ge (q := 114) (r := 156) dX7_hangs_111 (by decide) rfl (fun c111 => ?_) (fun c111 => ?_)
  · replace H := (if_pos c111).symm.trans H
    refine g_iload (q := 158) dX7_hangs_156 rfl rfl ?_
    obtain ⟨b158, H⟩ := of_chk H
    exact g_iret hX dX7_hangs_158 rfl (nar_b b158) (Nat.le_refl _) (Nat.le_refl _) (piOk H)
  · replace H := (if_neg c111).symm.trans H
    refine g_iload (q := 116) dX7_hangs_114 rfl rfl ?_
    refine g_if_eq (q := 119) (r := 147) dX7_hangs_116 (by decide) rfl (fun c116 => ?_) (fun c116 => ?_)
    · replace H := (if_pos c116).symm.trans H
      refine g_iconst (q := 148) (v := 0) dX7_hangs_147 rfl (by decide) ?_
      refine g_istore (q := 150) (L' := [.ref (ad 24), un_, .int l2, .int l3, .int ((0 : Int32)), .int l5]) dX7_hangs_148 rfl (Nat.le_of_ble_eq_true rfl) rfl ?_
      refine g_iinc (q := 153) (b := l5 + 1) (L' := [.ref (ad 24), un_, .int l2, .int l3, .int ((0 : Int32)), .int (l5 + 1)]) dX7_hangs_150 rfl rfl rfl (Nat.le_of_ble_eq_true rfl) rfl ?_
      refine g_goto (q := 107) dX7_hangs_153 (by decide) ?_
      exact g_weak (L' := [.ref (ad 24), un_, .int l2, .int l3, .int ((0 : Int32)), .int (l5 + 1)]) ⟨Or.inr rfl, Or.inl rfl, Or.inr rfl, Or.inr rfl, Or.inr rfl, Or.inr rfl, trivial⟩ (h107 _ _ _ _ _ H)
    · replace H := (if_neg c116).symm.trans H
      refine g_iload_n (q := 120) (i := 2) dX7_hangs_119 rfl rfl rfl ?_
      refine g_iload (q := 122) dX7_hangs_120 rfl rfl ?_
      refine g_ishr (q := 123) dX7_hangs_122 rfl ?_
      refine g_iconst (q := 124) (v := 1) dX7_hangs_123 rfl (by decide) ?_
      refine g_iand (q := 125) dX7_hangs_124 rfl ?_
      refine g_if_eq (q := 128) (r := 143) dX7_hangs_125 (by decide) rfl (fun c125 => ?_) (fun c125 => ?_)
      · replace H := (if_pos c125).symm.trans H
        refine g_iconst (q := 144) (v := 1) dX7_hangs_143 rfl (by decide) ?_
        refine g_goto (q := 148) dX7_hangs_144 (by decide) ?_
        refine g_istore (q := 150) (L' := [.ref (ad 24), un_, .int l2, .int l3, .int ((1 : Int32)), .int l5]) dX7_hangs_148 rfl (Nat.le_of_ble_eq_true rfl) rfl ?_
        refine g_iinc (q := 153) (b := l5 + 1) (L' := [.ref (ad 24), un_, .int l2, .int l3, .int ((1 : Int32)), .int (l5 + 1)]) dX7_hangs_150 rfl rfl rfl (Nat.le_of_ble_eq_true rfl) rfl ?_
        refine g_goto (q := 107) dX7_hangs_153 (by decide) ?_
        exact g_weak (L' := [.ref (ad 24), un_, .int l2, .int l3, .int ((1 : Int32)), .int (l5 + 1)]) ⟨Or.inr rfl, Or.inl rfl, Or.inr rfl, Or.inr rfl, Or.inr rfl, Or.inr rfl, trivial⟩ (h107 _ _ _ _ _ H)
      · replace H := (if_neg c125).symm.trans H
        refine g_iload_n (q := 129) (i := 3) dX7_hangs_128 rfl rfl rfl ?_
        refine g_aload_n (q := 130) (i := 0) dX7_hangs_129 rfl rfl rfl ?_
        refine g_get (q := 133) dX7_hangs_130 rfl foX7_7 24 hc24 rfl ?_
        refine g_iload (q := 135) dX7_hangs_133 rfl rfl ?_
        obtain ⟨b135, H⟩ := of_chk H
        refine g_iald (q := 136) dX7_hangs_135 rfl 25 hc25 b135 ?_
        refine g_ishr (q := 137) dX7_hangs_136 rfl ?_
        refine g_iconst (q := 138) (v := 1) dX7_hangs_137 rfl (by decide) ?_
        refine g_iand (q := 139) dX7_hangs_138 rfl ?_
        refine g_iconst (q := 140) (v := 1) dX7_hangs_139 rfl (by decide) ?_
        refine g_icmp_ne (q := 143) (r := 147) dX7_hangs_140 (by decide) rfl (fun c140 => ?_) (fun c140 => ?_)
        · replace H := (if_neg c140).symm.trans H
          refine g_iconst (q := 148) (v := 0) dX7_hangs_147 rfl (by decide) ?_
          refine g_istore (q := 150) (L' := [.ref (ad 24), un_, .int l2, .int l3, .int ((0 : Int32)), .int l5]) dX7_hangs_148 rfl (Nat.le_of_ble_eq_true rfl) rfl ?_
          refine g_iinc (q := 153) (b := l5 + 1) (L' := [.ref (ad 24), un_, .int l2, .int l3, .int ((0 : Int32)), .int (l5 + 1)]) dX7_hangs_150 rfl rfl rfl (Nat.le_of_ble_eq_true rfl) rfl ?_
          refine g_goto (q := 107) dX7_hangs_153 (by decide) ?_
          exact g_weak (L' := [.ref (ad 24), un_, .int l2, .int l3, .int ((0 : Int32)), .int (l5 + 1)]) ⟨Or.inr rfl, Or.inl rfl, Or.inr rfl, Or.inr rfl, Or.inr rfl, Or.inr rfl, trivial⟩ (h107 _ _ _ _ _ H)
        · replace H := (if_pos c140).symm.trans H
          refine g_iconst (q := 144) (v := 1) dX7_hangs_143 rfl (by decide) ?_
          refine g_goto (q := 148) dX7_hangs_144 (by decide) ?_
          refine g_istore (q := 150) (L' := [.ref (ad 24), un_, .int l2, .int l3, .int ((1 : Int32)), .int l5]) dX7_hangs_148 rfl (Nat.le_of_ble_eq_true rfl) rfl ?_
          refine g_iinc (q := 153) (b := l5 + 1) (L' := [.ref (ad 24), un_, .int l2, .int l3, .int ((1 : Int32)), .int (l5 + 1)]) dX7_hangs_150 rfl rfl rfl (Nat.le_of_ble_eq_true rfl) rfl ?_
          refine g_goto (q := 107) dX7_hangs_153 (by decide) ?_
          exact g_weak (L' := [.ref (ad 24), un_, .int l2, .int l3, .int ((1 : Int32)), .int (l5 + 1)]) ⟨Or.inr rfl, Or.inl rfl, Or.inr rfl, Or.inr rfl, Or.inr rfl, Or.inr rfl, trivial⟩ (h107 _ _ _ _ _ H)
def fX7_hangs_107 (F : Nat)  : Nat → Sg → Int32 → Int32 → Int32 → Int32 → Rs
  | 0 => fun _ _ _ _ _ => none
  | n + 1 => fun σ l2 l3 l4 l5 => bX7_hangs_107 F  (fX7_hangs_107 F  n) σ l2 l3 l4 l5
theorem wfX7_hangs_107 {x : FX} {g : GX} {ad : Nat → Nat} {ex M0 : va_W} {r : Int32} {τ : Sg} {F : Nat} (hX : RX x g M0 (Pi_ r (HH g ad τ ++ ex)) 0 0)   : ∀ (n : Nat) (σ : Sg) (l2 : Int32) (l3 : Int32) (l4 : Int32) (l5 : Int32), fX7_hangs_107 F  n σ l2 l3 l4 l5 = some (r, τ) → Go x { frames := 1, cells := 0, slots := 0, locals := 26 } tX7_hangs g 107 [.ref (ad 24), un_, .int l2, .int l3, .int l4, .int l5] [] (HH g ad σ ++ ex) 0 0
  | 0, _, _, _, _, _, H => nomatch (show (none : Rs) = some _ from H)
  | n + 1, σ, l2, l3, l4, l5, H => wbX7_hangs_107 (F := F) hX  (fun σ2 z2 z3 z4 z5 H2 => wfX7_hangs_107 (F := F) hX  n σ2 z2 z3 z4 z5 H2) σ l2 l3 l4 l5 H
def bX7_hangs_57 (F : Nat) (k57 : Sg → Int32 → Int32 → Int32 → Int32 → Rs) (σ : Sg) (l2 : Int32) (l3 : Int32) (l4 : Int32) (l5 : Int32) : Rs := if (σ.1 21) ≤ l5 then (fX7_hangs_107 F F σ (l2) (l3) (l4) ((0 : Int32))) else (if l4 = (0 : Int32) then (k57 σ (l2) (l3) ((0 : Int32)) (l5 + 1)) else (if ib l5 12 then (if (σ.2.1 29 l5.toNatClampNeg) = (0 : Int32) then (k57 σ (l2) (l3) ((1 : Int32)) (l5 + 1)) else (if ((l3 >>> (l5 &&& 31)) &&& (1 : Int32)) = (1 : Int32) then (k57 σ (l2) (l3) ((1 : Int32)) (l5 + 1)) else (k57 σ (l2) (l3) ((0 : Int32)) (l5 + 1)))) else none))
set_option maxRecDepth 100000 in
set_option maxHeartbeats 4000000 in
theorem wbX7_hangs_57 {x : FX} {g : GX} {ad : Nat → Nat} {ex M0 : va_W} {r : Int32} {τ : Sg} {F : Nat} (hX : RX x g M0 (Pi_ r (HH g ad τ ++ ex)) 0 0) {k57 : Sg → Int32 → Int32 → Int32 → Int32 → Rs} (h57 : ∀ (σ : Sg) (l2 : Int32) (l3 : Int32) (l4 : Int32) (l5 : Int32), k57 σ l2 l3 l4 l5 = some (r, τ) → Go x { frames := 1, cells := 0, slots := 0, locals := 26 } tX7_hangs g 57 [.ref (ad 24), un_, .int l2, .int l3, .int l4, .int l5] [] (HH g ad σ ++ ex) 0 0) (σ : Sg) (l2 : Int32) (l3 : Int32) (l4 : Int32) (l5 : Int32) (H : bX7_hangs_57 F k57 σ l2 l3 l4 l5 = some (r, τ)) : Go x { frames := 1, cells := 0, slots := 0, locals := 26 } tX7_hangs g 57 [.ref (ad 24), un_, .int l2, .int l3, .int l4, .int l5] [] (HH g ad σ ++ ex) 0 0 := by
  unfold bX7_hangs_57 at H
  refine g_iload (q := 59) dX7_hangs_57 rfl rfl ?_
  refine g_aload_n (q := 60) (i := 0) dX7_hangs_59 rfl rfl rfl ?_
  refine g_get (q := 63) dX7_hangs_60 rfl foX7_68 24 hc24 rfl ?_
  refine g_icmp_ge (q := 66) (r := 104) dX7_hangs_63 (by decide) rfl (fun c63 => ?_) (fun c63 => ?_)
  · replace H := (if_pos c63).symm.trans H
    refine g_iconst (q := 105) (v := 0) dX7_hangs_104 rfl (by decide) ?_
    refine g_istore (q := 107) (L' := [.ref (ad 24), un_, .int l2, .int l3, .int l4, .int ((0 : Int32))]) dX7_hangs_105 rfl (Nat.le_of_ble_eq_true rfl) rfl ?_
    exact g_weak (L' := [.ref (ad 24), un_, .int l2, .int l3, .int l4, .int ((0 : Int32))]) ⟨Or.inr rfl, Or.inl rfl, Or.inr rfl, Or.inr rfl, Or.inr rfl, Or.inr rfl, trivial⟩ (wfX7_hangs_107 (F := F) hX  F _ _ _ _ _ H)
  · replace H := (if_neg c63).symm.trans H
    refine g_iload (q := 68) dX7_hangs_66 rfl rfl ?_
    refine g_if_eq (q := 71) (r := 95) dX7_hangs_68 (by decide) rfl (fun c68 => ?_) (fun c68 => ?_)
    · replace H := (if_pos c68).symm.trans H
      refine g_iconst (q := 96) (v := 0) dX7_hangs_95 rfl (by decide) ?_
      refine g_istore (q := 98) (L' := [.ref (ad 24), un_, .int l2, .int l3, .int ((0 : Int32)), .int l5]) dX7_hangs_96 rfl (Nat.le_of_ble_eq_true rfl) rfl ?_
      refine g_iinc (q := 101) (b := l5 + 1) (L' := [.ref (ad 24), un_, .int l2, .int l3, .int ((0 : Int32)), .int (l5 + 1)]) dX7_hangs_98 rfl rfl rfl (Nat.le_of_ble_eq_true rfl) rfl ?_
      refine g_goto (q := 57) dX7_hangs_101 (by decide) ?_
      exact g_weak (L' := [.ref (ad 24), un_, .int l2, .int l3, .int ((0 : Int32)), .int (l5 + 1)]) ⟨Or.inr rfl, Or.inl rfl, Or.inr rfl, Or.inr rfl, Or.inr rfl, Or.inr rfl, trivial⟩ (h57 _ _ _ _ _ H)
    · replace H := (if_neg c68).symm.trans H
      refine g_aload_n (q := 72) (i := 0) dX7_hangs_71 rfl rfl rfl ?_
      refine g_get (q := 75) dX7_hangs_72 rfl foX7_23 24 hc24 rfl ?_
      refine g_iload (q := 77) dX7_hangs_75 rfl rfl ?_
      obtain ⟨b77, H⟩ := of_chk H
      refine g_iald (q := 78) dX7_hangs_77 rfl 29 hc29 b77 ?_
      refine g_if_eq (q := 81) (r := 91) dX7_hangs_78 (by decide) rfl (fun c78 => ?_) (fun c78 => ?_)
      · replace H := (if_pos c78).symm.trans H
        refine g_iconst (q := 92) (v := 1) dX7_hangs_91 rfl (by decide) ?_
        refine g_goto (q := 96) dX7_hangs_92 (by decide) ?_
        refine g_istore (q := 98) (L' := [.ref (ad 24), un_, .int l2, .int l3, .int ((1 : Int32)), .int l5]) dX7_hangs_96 rfl (Nat.le_of_ble_eq_true rfl) rfl ?_
        refine g_iinc (q := 101) (b := l5 + 1) (L' := [.ref (ad 24), un_, .int l2, .int l3, .int ((1 : Int32)), .int (l5 + 1)]) dX7_hangs_98 rfl rfl rfl (Nat.le_of_ble_eq_true rfl) rfl ?_
        refine g_goto (q := 57) dX7_hangs_101 (by decide) ?_
        exact g_weak (L' := [.ref (ad 24), un_, .int l2, .int l3, .int ((1 : Int32)), .int (l5 + 1)]) ⟨Or.inr rfl, Or.inl rfl, Or.inr rfl, Or.inr rfl, Or.inr rfl, Or.inr rfl, trivial⟩ (h57 _ _ _ _ _ H)
      · replace H := (if_neg c78).symm.trans H
        refine g_iload_n (q := 82) (i := 3) dX7_hangs_81 rfl rfl rfl ?_
        refine g_iload (q := 84) dX7_hangs_82 rfl rfl ?_
        refine g_ishr (q := 85) dX7_hangs_84 rfl ?_
        refine g_iconst (q := 86) (v := 1) dX7_hangs_85 rfl (by decide) ?_
        refine g_iand (q := 87) dX7_hangs_86 rfl ?_
        refine g_iconst (q := 88) (v := 1) dX7_hangs_87 rfl (by decide) ?_
        refine g_icmp_ne (q := 91) (r := 95) dX7_hangs_88 (by decide) rfl (fun c88 => ?_) (fun c88 => ?_)
        · replace H := (if_neg c88).symm.trans H
          refine g_iconst (q := 96) (v := 0) dX7_hangs_95 rfl (by decide) ?_
          refine g_istore (q := 98) (L' := [.ref (ad 24), un_, .int l2, .int l3, .int ((0 : Int32)), .int l5]) dX7_hangs_96 rfl (Nat.le_of_ble_eq_true rfl) rfl ?_
          refine g_iinc (q := 101) (b := l5 + 1) (L' := [.ref (ad 24), un_, .int l2, .int l3, .int ((0 : Int32)), .int (l5 + 1)]) dX7_hangs_98 rfl rfl rfl (Nat.le_of_ble_eq_true rfl) rfl ?_
          refine g_goto (q := 57) dX7_hangs_101 (by decide) ?_
          exact g_weak (L' := [.ref (ad 24), un_, .int l2, .int l3, .int ((0 : Int32)), .int (l5 + 1)]) ⟨Or.inr rfl, Or.inl rfl, Or.inr rfl, Or.inr rfl, Or.inr rfl, Or.inr rfl, trivial⟩ (h57 _ _ _ _ _ H)
        · replace H := (if_pos c88).symm.trans H
          refine g_iconst (q := 92) (v := 1) dX7_hangs_91 rfl (by decide) ?_
          refine g_goto (q := 96) dX7_hangs_92 (by decide) ?_
          refine g_istore (q := 98) (L' := [.ref (ad 24), un_, .int l2, .int l3, .int ((1 : Int32)), .int l5]) dX7_hangs_96 rfl (Nat.le_of_ble_eq_true rfl) rfl ?_
          refine g_iinc (q := 101) (b := l5 + 1) (L' := [.ref (ad 24), un_, .int l2, .int l3, .int ((1 : Int32)), .int (l5 + 1)]) dX7_hangs_98 rfl rfl rfl (Nat.le_of_ble_eq_true rfl) rfl ?_
          refine g_goto (q := 57) dX7_hangs_101 (by decide) ?_
          exact g_weak (L' := [.ref (ad 24), un_, .int l2, .int l3, .int ((1 : Int32)), .int (l5 + 1)]) ⟨Or.inr rfl, Or.inl rfl, Or.inr rfl, Or.inr rfl, Or.inr rfl, Or.inr rfl, trivial⟩ (h57 _ _ _ _ _ H)
def fX7_hangs_57 (F : Nat)  : Nat → Sg → Int32 → Int32 → Int32 → Int32 → Rs
  | 0 => fun _ _ _ _ _ => none
  | n + 1 => fun σ l2 l3 l4 l5 => bX7_hangs_57 F  (fX7_hangs_57 F  n) σ l2 l3 l4 l5
theorem wfX7_hangs_57 {x : FX} {g : GX} {ad : Nat → Nat} {ex M0 : va_W} {r : Int32} {τ : Sg} {F : Nat} (hX : RX x g M0 (Pi_ r (HH g ad τ ++ ex)) 0 0)   : ∀ (n : Nat) (σ : Sg) (l2 : Int32) (l3 : Int32) (l4 : Int32) (l5 : Int32), fX7_hangs_57 F  n σ l2 l3 l4 l5 = some (r, τ) → Go x { frames := 1, cells := 0, slots := 0, locals := 26 } tX7_hangs g 57 [.ref (ad 24), un_, .int l2, .int l3, .int l4, .int l5] [] (HH g ad σ ++ ex) 0 0
  | 0, _, _, _, _, _, H => nomatch (show (none : Rs) = some _ from H)
  | n + 1, σ, l2, l3, l4, l5, H => wbX7_hangs_57 (F := F) hX  (fun σ2 z2 z3 z4 z5 H2 => wfX7_hangs_57 (F := F) hX  n σ2 z2 z3 z4 z5 H2) σ l2 l3 l4 l5 H
def bX7_hangs_4 (F : Nat) (k4 : Sg → Int32 → Int32 → Int32 → Rs) (σ : Sg) (l1 : Int32) (l2 : Int32) (l3 : Int32) : Rs := if (18 : Int32) ≤ l3 then ((fX7_reached F σ ((1 : Int32) <<< (l1 &&& 31)) l2).bind fun q1 => (fun (r1 : Int32) (σ1 : Sg) => fX7_hangs_57 F F σ1 (l2) (r1) ((1 : Int32)) ((0 : Int32))) q1.1 q1.2) else (if ib l3 18 then (if (σ.2.1 27 l3.toNatClampNeg) = (0 : Int32) then (k4 σ (l1) (l2) (l3 + 1)) else (if (((σ.1 24) >>> (l3 &&& 31)) &&& (1 : Int32)) = (0 : Int32) then (li_ (l2 ||| ((1 : Int32) <<< (l3 &&& 31))) fun v2 => k4 σ (l1) (v2) (l3 + 1)) else (k4 σ (l1) (l2) (l3 + 1)))) else none)
set_option maxRecDepth 100000 in
set_option maxHeartbeats 4000000 in
theorem wbX7_hangs_4 {x : FX} {g : GX} {ad : Nat → Nat} {ex M0 : va_W} {r : Int32} {τ : Sg} {F : Nat} (hX : RX x g M0 (Pi_ r (HH g ad τ ++ ex)) 0 0) {k4 : Sg → Int32 → Int32 → Int32 → Rs} (h4 : ∀ (σ : Sg) (l1 : Int32) (l2 : Int32) (l3 : Int32), k4 σ l1 l2 l3 = some (r, τ) → Go x { frames := 1, cells := 0, slots := 0, locals := 26 } tX7_hangs g 4 [.ref (ad 24), .int l1, .int l2, .int l3, un_, un_] [] (HH g ad σ ++ ex) 0 0) (σ : Sg) (l1 : Int32) (l2 : Int32) (l3 : Int32) (H : bX7_hangs_4 F k4 σ l1 l2 l3 = some (r, τ)) : Go x { frames := 1, cells := 0, slots := 0, locals := 26 } tX7_hangs g 4 [.ref (ad 24), .int l1, .int l2, .int l3, un_, un_] [] (HH g ad σ ++ ex) 0 0 := by
  unfold bX7_hangs_4 at H
  refine g_iload_n (q := 5) (i := 3) dX7_hangs_4 rfl rfl rfl ?_
  refine g_bipush (q := 7) (v := 18) dX7_hangs_5 rfl (by decide) ?_
  refine g_icmp_ge (q := 10) (r := 42) dX7_hangs_7 (by decide) rfl (fun c7 => ?_) (fun c7 => ?_)
  · replace H := (if_pos c7).symm.trans H
    refine g_aload_n (q := 43) (i := 0) dX7_hangs_42 rfl rfl rfl ?_
    refine g_iconst (q := 44) (v := 1) dX7_hangs_43 rfl (by decide) ?_
    refine g_iload_n (q := 45) (i := 1) dX7_hangs_44 rfl rfl rfl ?_
    refine g_ishl (q := 46) dX7_hangs_45 rfl ?_
    refine g_iload_n (q := 47) (i := 2) dX7_hangs_46 rfl rfl rfl ?_
    obtain ⟨r1, σ1, e1, H⟩ := of_bnd H
    refine g_callV (q := 50) (rest := []) dX7_hangs_47 rfl cvX7_87 (ctX7_reached e1) rfl rfl ⟨Nat.le_of_ble_eq_true rfl, Nat.le_of_ble_eq_true rfl⟩ ⟨Nat.le_refl _, Nat.le_refl _⟩ (Nat.le_of_ble_eq_true rfl) 24 hc24 rfl (fun r0 M9 hp => ?_)
    obtain ⟨rfl, rfl⟩ := hp
    show Go x _ _ g 50 [.ref (ad 24), .int l1, .int l2, .int l3, un_, un_] [.int r1] (HH g ad σ1 ++ ex) 0 0
    refine g_istore_n (q := 51) (L' := [.ref (ad 24), .int l1, .int l2, .int r1, un_, un_]) (i := 3) dX7_hangs_50 rfl rfl (Nat.le_of_ble_eq_true rfl) rfl ?_
    refine g_iconst (q := 52) (v := 1) dX7_hangs_51 rfl (by decide) ?_
    refine g_istore (q := 54) (L' := [.ref (ad 24), .int l1, .int l2, .int r1, .int ((1 : Int32)), un_]) dX7_hangs_52 rfl (Nat.le_of_ble_eq_true rfl) rfl ?_
    refine g_iconst (q := 55) (v := 0) dX7_hangs_54 rfl (by decide) ?_
    refine g_istore (q := 57) (L' := [.ref (ad 24), .int l1, .int l2, .int r1, .int ((1 : Int32)), .int ((0 : Int32))]) dX7_hangs_55 rfl (Nat.le_of_ble_eq_true rfl) rfl ?_
    exact g_weak (L' := [.ref (ad 24), un_, .int l2, .int r1, .int ((1 : Int32)), .int ((0 : Int32))]) ⟨Or.inr rfl, Or.inl rfl, Or.inr rfl, Or.inr rfl, Or.inr rfl, Or.inr rfl, trivial⟩ (wfX7_hangs_57 (F := F) hX  F _ _ _ _ _ H)
  · replace H := (if_neg c7).symm.trans H
    refine g_aload_n (q := 11) (i := 0) dX7_hangs_10 rfl rfl rfl ?_
    refine g_get (q := 14) dX7_hangs_11 rfl foX7_16 24 hc24 rfl ?_
    refine g_iload_n (q := 15) (i := 3) dX7_hangs_14 rfl rfl rfl ?_
    obtain ⟨b15, H⟩ := of_chk H
    refine g_zald (q := 16) dX7_hangs_15 rfl 27 hc27 b15 ?_
    refine g_if_eq (q := 19) (r := 36) dX7_hangs_16 (by decide) rfl (fun c16 => ?_) (fun c16 => ?_)
    · replace H := (if_pos c16).symm.trans H
      refine g_iinc (q := 39) (b := l3 + 1) (L' := [.ref (ad 24), .int l1, .int l2, .int (l3 + 1), un_, un_]) dX7_hangs_36 rfl rfl rfl (Nat.le_of_ble_eq_true rfl) rfl ?_
      refine g_goto (q := 4) dX7_hangs_39 (by decide) ?_
      exact g_weak (L' := [.ref (ad 24), .int l1, .int l2, .int (l3 + 1), un_, un_]) ⟨Or.inr rfl, Or.inr rfl, Or.inr rfl, Or.inr rfl, Or.inl rfl, Or.inl rfl, trivial⟩ (h4 _ _ _ _ H)
    · replace H := (if_neg c16).symm.trans H
      refine g_aload_n (q := 20) (i := 0) dX7_hangs_19 rfl rfl rfl ?_
      refine g_get (q := 23) dX7_hangs_20 rfl foX7_94 24 hc24 rfl ?_
      refine g_iload_n (q := 24) (i := 3) dX7_hangs_23 rfl rfl rfl ?_
      refine g_ishr (q := 25) dX7_hangs_24 rfl ?_
      refine g_iconst (q := 26) (v := 1) dX7_hangs_25 rfl (by decide) ?_
      refine g_iand (q := 27) dX7_hangs_26 rfl ?_
      refine g_if_ne (q := 30) (r := 36) dX7_hangs_27 (by decide) rfl (fun c27 => ?_) (fun c27 => ?_)
      · replace H := (if_neg c27).symm.trans H
        refine g_iinc (q := 39) (b := l3 + 1) (L' := [.ref (ad 24), .int l1, .int l2, .int (l3 + 1), un_, un_]) dX7_hangs_36 rfl rfl rfl (Nat.le_of_ble_eq_true rfl) rfl ?_
        refine g_goto (q := 4) dX7_hangs_39 (by decide) ?_
        exact g_weak (L' := [.ref (ad 24), .int l1, .int l2, .int (l3 + 1), un_, un_]) ⟨Or.inr rfl, Or.inr rfl, Or.inr rfl, Or.inr rfl, Or.inl rfl, Or.inl rfl, trivial⟩ (h4 _ _ _ _ H)
      · replace H := (if_pos c27).symm.trans H
        refine g_iload_n (q := 31) (i := 2) dX7_hangs_30 rfl rfl rfl ?_
        refine g_iconst (q := 32) (v := 1) dX7_hangs_31 rfl (by decide) ?_
        refine g_iload_n (q := 33) (i := 3) dX7_hangs_32 rfl rfl rfl ?_
        refine g_ishl (q := 34) dX7_hangs_33 rfl ?_
        refine g_ior (q := 35) dX7_hangs_34 rfl ?_
        obtain ⟨v2, n2, H⟩ := of_li H
        refine g_name n2 ?_
        refine g_istore_n (q := 36) (L' := [.ref (ad 24), .int l1, .int v2, .int l3, un_, un_]) (i := 2) dX7_hangs_35 rfl rfl (Nat.le_of_ble_eq_true rfl) rfl ?_
        refine g_iinc (q := 39) (b := l3 + 1) (L' := [.ref (ad 24), .int l1, .int v2, .int (l3 + 1), un_, un_]) dX7_hangs_36 rfl rfl rfl (Nat.le_of_ble_eq_true rfl) rfl ?_
        refine g_goto (q := 4) dX7_hangs_39 (by decide) ?_
        exact g_weak (L' := [.ref (ad 24), .int l1, .int v2, .int (l3 + 1), un_, un_]) ⟨Or.inr rfl, Or.inr rfl, Or.inr rfl, Or.inr rfl, Or.inl rfl, Or.inl rfl, trivial⟩ (h4 _ _ _ _ H)
def fX7_hangs_4 (F : Nat)  : Nat → Sg → Int32 → Int32 → Int32 → Rs
  | 0 => fun _ _ _ _ => none
  | n + 1 => fun σ l1 l2 l3 => bX7_hangs_4 F  (fX7_hangs_4 F  n) σ l1 l2 l3
theorem wfX7_hangs_4 {x : FX} {g : GX} {ad : Nat → Nat} {ex M0 : va_W} {r : Int32} {τ : Sg} {F : Nat} (hX : RX x g M0 (Pi_ r (HH g ad τ ++ ex)) 0 0)   : ∀ (n : Nat) (σ : Sg) (l1 : Int32) (l2 : Int32) (l3 : Int32), fX7_hangs_4 F  n σ l1 l2 l3 = some (r, τ) → Go x { frames := 1, cells := 0, slots := 0, locals := 26 } tX7_hangs g 4 [.ref (ad 24), .int l1, .int l2, .int l3, un_, un_] [] (HH g ad σ ++ ex) 0 0
  | 0, _, _, _, _, H => nomatch (show (none : Rs) = some _ from H)
  | n + 1, σ, l1, l2, l3, H => wbX7_hangs_4 (F := F) hX  (fun σ2 z1 z2 z3 H2 => wfX7_hangs_4 (F := F) hX  n σ2 z1 z2 z3 H2) σ l1 l2 l3 H
def fX7_hangs (F : Nat) (σ : Sg) (l1 : Int32) : Rs := fX7_hangs_4 F F σ (l1) ((0 : Int32)) ((0 : Int32))
set_option maxRecDepth 100000 in
set_option maxHeartbeats 4000000 in
theorem ctX7_hangs {l : Launch} {g : GX} {ad : Nat → Nat} {ex : va_W} {r : Int32} {τ σ : Sg} {F : Nat} {l1 : Int32} (H : fX7_hangs F σ l1 = some (r, τ)) : Ct l g yX7_hangs tX7_hangs 1 26 0 0 [.ref (ad 24), .int l1] (HH g ad σ ++ ex) (Pi_ r (HH g ad τ ++ ex)) := by
  refine Ct.of (L := [.ref (ad 24), .int l1, un_, un_, un_, un_]) (by decide +kernel) rfl rfl rfl (Nat.le_of_ble_eq_true rfl) rfl (fun x _ hX => ?_)
  unfold fX7_hangs at H
  refine g_iconst (q := 1) (v := 0) dX7_hangs_0 rfl (by decide) ?_
  refine g_istore_n (q := 2) (L' := [.ref (ad 24), .int l1, .int ((0 : Int32)), un_, un_, un_]) (i := 2) dX7_hangs_1 rfl rfl (Nat.le_of_ble_eq_true rfl) rfl ?_
  refine g_iconst (q := 3) (v := 0) dX7_hangs_2 rfl (by decide) ?_
  refine g_istore_n (q := 4) (L' := [.ref (ad 24), .int l1, .int ((0 : Int32)), .int ((0 : Int32)), un_, un_]) (i := 3) dX7_hangs_3 rfl rfl (Nat.le_of_ble_eq_true rfl) rfl ?_
  exact g_weak (L' := [.ref (ad 24), .int l1, .int ((0 : Int32)), .int ((0 : Int32)), un_, un_]) ⟨Or.inr rfl, Or.inr rfl, Or.inr rfl, Or.inr rfl, Or.inl rfl, Or.inl rfl, trivial⟩ (wfX7_hangs_4 (F := F) hX  F _ _ _ _ H)
def bX7_shows_115 (F : Nat) (k115 : Sg → Int32 → Rs) (σ : Sg) (l4 : Int32) : Rs := if (12 : Int32) ≤ l4 then (some (0, σ)) else (if ib l4 12 then (ls_ (sa σ 29 l4.toNatClampNeg (0 : Int32)) fun σ1 => k115 σ1 (l4 + 1)) else none)
set_option maxRecDepth 100000 in
set_option maxHeartbeats 4000000 in
theorem wbX7_shows_115 {x : FX} {g : GX} {ad : Nat → Nat} {ex M0 : va_W} {r : Int32} {τ : Sg} {F : Nat} (hX : RX x g M0 (Pv_ (HH g ad τ ++ ex)) 0 0) {k115 : Sg → Int32 → Rs} (h115 : ∀ (σ : Sg) (l4 : Int32), k115 σ l4 = some (r, τ) → Go x { frames := 0, cells := 0, slots := 0, locals := 0 } tX7_shows g 115 [.ref (ad 24), un_, un_, un_, .int l4] [] (HH g ad σ ++ ex) 0 0) (σ : Sg) (l4 : Int32) (H : bX7_shows_115 F k115 σ l4 = some (r, τ)) : Go x { frames := 0, cells := 0, slots := 0, locals := 0 } tX7_shows g 115 [.ref (ad 24), un_, un_, un_, .int l4] [] (HH g ad σ ++ ex) 0 0 := by
  unfold bX7_shows_115 at H
  refine g_iload (q := 117) dX7_shows_115 rfl rfl ?_
  refine g_bipush (q := 119) (v := 12) dX7_shows_117 rfl (by decide) ?_
  refine g_icmp_ge (q := 122) (r := 136) dX7_shows_119 (by decide) rfl (fun c119 => ?_) (fun c119 => ?_)
  · replace H := (if_pos c119).symm.trans H
    exact g_vret hX dX7_shows_136 rfl (Nat.le_refl _) (Nat.le_refl _) (pvOk H)
  · replace H := (if_neg c119).symm.trans H
    refine g_aload_n (q := 123) (i := 0) dX7_shows_122 rfl rfl rfl ?_
    refine g_get (q := 126) dX7_shows_123 rfl foX7_23 24 hc24 rfl ?_
    refine g_iload (q := 128) dX7_shows_126 rfl rfl ?_
    refine g_iconst (q := 129) (v := 0) dX7_shows_128 rfl (by decide) ?_
    obtain ⟨b129, H⟩ := of_chk H
    obtain ⟨σ1, n1, H⟩ := of_ls H
    refine g_iast (q := 130) dX7_shows_129 rfl 29 hc29 b129 (ha29e n1) ?_
    refine g_iinc (q := 133) (b := l4 + 1) (L' := [.ref (ad 24), un_, un_, un_, .int (l4 + 1)]) dX7_shows_130 rfl rfl rfl (Nat.le_of_ble_eq_true rfl) rfl ?_
    refine g_goto (q := 115) dX7_shows_133 (by decide) ?_
    exact g_weak (L' := [.ref (ad 24), un_, un_, un_, .int (l4 + 1)]) ⟨Or.inr rfl, Or.inl rfl, Or.inl rfl, Or.inl rfl, Or.inr rfl, trivial⟩ (h115 _ _ H)
def fX7_shows_115 (F : Nat)  : Nat → Sg → Int32 → Rs
  | 0 => fun _ _ => none
  | n + 1 => fun σ l4 => bX7_shows_115 F  (fX7_shows_115 F  n) σ l4
theorem wfX7_shows_115 {x : FX} {g : GX} {ad : Nat → Nat} {ex M0 : va_W} {r : Int32} {τ : Sg} {F : Nat} (hX : RX x g M0 (Pv_ (HH g ad τ ++ ex)) 0 0)   : ∀ (n : Nat) (σ : Sg) (l4 : Int32), fX7_shows_115 F  n σ l4 = some (r, τ) → Go x { frames := 0, cells := 0, slots := 0, locals := 0 } tX7_shows g 115 [.ref (ad 24), un_, un_, un_, .int l4] [] (HH g ad σ ++ ex) 0 0
  | 0, _, _, H => nomatch (show (none : Rs) = some _ from H)
  | n + 1, σ, l4, H => wbX7_shows_115 (F := F) hX  (fun σ2 z4 H2 => wfX7_shows_115 (F := F) hX  n σ2 z4 H2) σ l4 H
def bX7_shows_86 (F : Nat) (k86 : Sg → Int32 → Int32 → Rs) (σ : Sg) (l3 : Int32) (l4 : Int32) : Rs := if l4 < (0 : Int32) then (fX7_shows_115 F F σ ((6 : Int32))) else (if ib l4 12 then (ls_ (sa σ 29 l4.toNatClampNeg (l3 &&& (3 : Int32))) fun σ1 => li_ (l3 >>> ((2 : Int32) &&& 31)) fun v2 => k86 σ1 (v2) (l4 + Int32.ofInt (-1))) else none)
set_option maxRecDepth 100000 in
set_option maxHeartbeats 4000000 in
theorem wbX7_shows_86 {x : FX} {g : GX} {ad : Nat → Nat} {ex M0 : va_W} {r : Int32} {τ : Sg} {F : Nat} (hX : RX x g M0 (Pv_ (HH g ad τ ++ ex)) 0 0) {k86 : Sg → Int32 → Int32 → Rs} (h86 : ∀ (σ : Sg) (l3 : Int32) (l4 : Int32), k86 σ l3 l4 = some (r, τ) → Go x { frames := 0, cells := 0, slots := 0, locals := 0 } tX7_shows g 86 [.ref (ad 24), un_, un_, .int l3, .int l4] [] (HH g ad σ ++ ex) 0 0) (σ : Sg) (l3 : Int32) (l4 : Int32) (H : bX7_shows_86 F k86 σ l3 l4 = some (r, τ)) : Go x { frames := 0, cells := 0, slots := 0, locals := 0 } tX7_shows g 86 [.ref (ad 24), un_, un_, .int l3, .int l4] [] (HH g ad σ ++ ex) 0 0 := by
  unfold bX7_shows_86 at H
  refine g_iload (q := 88) dX7_shows_86 rfl rfl ?_
  refine g_if_lt (q := 91) (r := 111) dX7_shows_88 (by decide) rfl (fun c88 => ?_) (fun c88 => ?_)
  · replace H := (if_pos c88).symm.trans H
    refine g_bipush (q := 113) (v := 6) dX7_shows_111 rfl (by decide) ?_
    refine g_istore (q := 115) (L' := [.ref (ad 24), un_, un_, .int l3, .int ((6 : Int32))]) dX7_shows_113 rfl (Nat.le_of_ble_eq_true rfl) rfl ?_
    exact g_weak (L' := [.ref (ad 24), un_, un_, un_, .int ((6 : Int32))]) ⟨Or.inr rfl, Or.inl rfl, Or.inl rfl, Or.inl rfl, Or.inr rfl, trivial⟩ (wfX7_shows_115 (F := F) hX  F _ _ H)
  · replace H := (if_neg c88).symm.trans H
    refine g_aload_n (q := 92) (i := 0) dX7_shows_91 rfl rfl rfl ?_
    refine g_get (q := 95) dX7_shows_92 rfl foX7_23 24 hc24 rfl ?_
    refine g_iload (q := 97) dX7_shows_95 rfl rfl ?_
    refine g_iload_n (q := 98) (i := 3) dX7_shows_97 rfl rfl rfl ?_
    refine g_iconst (q := 99) (v := 3) dX7_shows_98 rfl (by decide) ?_
    refine g_iand (q := 100) dX7_shows_99 rfl ?_
    obtain ⟨b100, H⟩ := of_chk H
    obtain ⟨σ1, n1, H⟩ := of_ls H
    refine g_iast (q := 101) dX7_shows_100 rfl 29 hc29 b100 (ha29e n1) ?_
    refine g_iload_n (q := 102) (i := 3) dX7_shows_101 rfl rfl rfl ?_
    refine g_iconst (q := 103) (v := 2) dX7_shows_102 rfl (by decide) ?_
    refine g_ishr (q := 104) dX7_shows_103 rfl ?_
    obtain ⟨v2, n2, H⟩ := of_li H
    refine g_name n2 ?_
    refine g_istore_n (q := 105) (L' := [.ref (ad 24), un_, un_, .int v2, .int l4]) (i := 3) dX7_shows_104 rfl rfl (Nat.le_of_ble_eq_true rfl) rfl ?_
    refine g_iinc (q := 108) (b := l4 + Int32.ofInt (-1)) (L' := [.ref (ad 24), un_, un_, .int v2, .int (l4 + Int32.ofInt (-1))]) dX7_shows_105 rfl rfl rfl (Nat.le_of_ble_eq_true rfl) rfl ?_
    refine g_goto (q := 86) dX7_shows_108 (by decide) ?_
    exact g_weak (L' := [.ref (ad 24), un_, un_, .int v2, .int (l4 + Int32.ofInt (-1))]) ⟨Or.inr rfl, Or.inl rfl, Or.inl rfl, Or.inr rfl, Or.inr rfl, trivial⟩ (h86 _ _ _ H)
def fX7_shows_86 (F : Nat)  : Nat → Sg → Int32 → Int32 → Rs
  | 0 => fun _ _ _ => none
  | n + 1 => fun σ l3 l4 => bX7_shows_86 F  (fX7_shows_86 F  n) σ l3 l4
theorem wfX7_shows_86 {x : FX} {g : GX} {ad : Nat → Nat} {ex M0 : va_W} {r : Int32} {τ : Sg} {F : Nat} (hX : RX x g M0 (Pv_ (HH g ad τ ++ ex)) 0 0)   : ∀ (n : Nat) (σ : Sg) (l3 : Int32) (l4 : Int32), fX7_shows_86 F  n σ l3 l4 = some (r, τ) → Go x { frames := 0, cells := 0, slots := 0, locals := 0 } tX7_shows g 86 [.ref (ad 24), un_, un_, .int l3, .int l4] [] (HH g ad σ ++ ex) 0 0
  | 0, _, _, _, H => nomatch (show (none : Rs) = some _ from H)
  | n + 1, σ, l3, l4, H => wbX7_shows_86 (F := F) hX  (fun σ2 z3 z4 H2 => wfX7_shows_86 (F := F) hX  n σ2 z3 z4 H2) σ l3 l4 H
def bX7_shows_40 (F : Nat) (k40 : Sg → Int32 → Int32 → Rs) (σ : Sg) (l3 : Int32) (l4 : Int32) : Rs := if l4 < (0 : Int32) then (fX7_shows_86 F F σ (l3) ((5 : Int32))) else (if ib l4 18 then (if (σ.2.1 27 l4.toNatClampNeg) = (0 : Int32) then (k40 σ (l3) (l4 + Int32.ofInt (-1))) else (ls_ (sv σ 24 ((σ.1 24) ||| ((l3 &&& (1 : Int32)) <<< (l4 &&& 31)))) fun σ1 => li_ (l3 >>> ((1 : Int32) &&& 31)) fun v2 => k40 σ1 (v2) (l4 + Int32.ofInt (-1)))) else none)
set_option maxRecDepth 100000 in
set_option maxHeartbeats 4000000 in
theorem wbX7_shows_40 {x : FX} {g : GX} {ad : Nat → Nat} {ex M0 : va_W} {r : Int32} {τ : Sg} {F : Nat} (hX : RX x g M0 (Pv_ (HH g ad τ ++ ex)) 0 0) {k40 : Sg → Int32 → Int32 → Rs} (h40 : ∀ (σ : Sg) (l3 : Int32) (l4 : Int32), k40 σ l3 l4 = some (r, τ) → Go x { frames := 0, cells := 0, slots := 0, locals := 0 } tX7_shows g 40 [.ref (ad 24), un_, un_, .int l3, .int l4] [] (HH g ad σ ++ ex) 0 0) (σ : Sg) (l3 : Int32) (l4 : Int32) (H : bX7_shows_40 F k40 σ l3 l4 = some (r, τ)) : Go x { frames := 0, cells := 0, slots := 0, locals := 0 } tX7_shows g 40 [.ref (ad 24), un_, un_, .int l3, .int l4] [] (HH g ad σ ++ ex) 0 0 := by
  unfold bX7_shows_40 at H
  refine g_iload (q := 42) dX7_shows_40 rfl rfl ?_
  refine g_if_lt (q := 45) (r := 83) dX7_shows_42 (by decide) rfl (fun c42 => ?_) (fun c42 => ?_)
  · replace H := (if_pos c42).symm.trans H
    refine g_iconst (q := 84) (v := 5) dX7_shows_83 rfl (by decide) ?_
    refine g_istore (q := 86) (L' := [.ref (ad 24), un_, un_, .int l3, .int ((5 : Int32))]) dX7_shows_84 rfl (Nat.le_of_ble_eq_true rfl) rfl ?_
    exact g_weak (L' := [.ref (ad 24), un_, un_, .int l3, .int ((5 : Int32))]) ⟨Or.inr rfl, Or.inl rfl, Or.inl rfl, Or.inr rfl, Or.inr rfl, trivial⟩ (wfX7_shows_86 (F := F) hX  F _ _ _ H)
  · replace H := (if_neg c42).symm.trans H
    refine g_aload_n (q := 46) (i := 0) dX7_shows_45 rfl rfl rfl ?_
    refine g_get (q := 49) dX7_shows_46 rfl foX7_16 24 hc24 rfl ?_
    refine g_iload (q := 51) dX7_shows_49 rfl rfl ?_
    obtain ⟨b51, H⟩ := of_chk H
    refine g_zald (q := 52) dX7_shows_51 rfl 27 hc27 b51 ?_
    refine g_if_ne (q := 55) (r := 58) dX7_shows_52 (by decide) rfl (fun c52 => ?_) (fun c52 => ?_)
    · replace H := (if_neg c52).symm.trans H
      refine g_aload_n (q := 59) (i := 0) dX7_shows_58 rfl rfl rfl ?_
      refine g_aload_n (q := 60) (i := 0) dX7_shows_59 rfl rfl rfl ?_
      refine g_get (q := 63) dX7_shows_60 rfl foX7_94 24 hc24 rfl ?_
      refine g_iload_n (q := 64) (i := 3) dX7_shows_63 rfl rfl rfl ?_
      refine g_iconst (q := 65) (v := 1) dX7_shows_64 rfl (by decide) ?_
      refine g_iand (q := 66) dX7_shows_65 rfl ?_
      refine g_iload (q := 68) dX7_shows_66 rfl rfl ?_
      refine g_ishl (q := 69) dX7_shows_68 rfl ?_
      refine g_ior (q := 70) dX7_shows_69 rfl ?_
      obtain ⟨σ1, n1, H⟩ := of_ls H
      refine g_put (q := 73) dX7_shows_70 rfl (fpX7_94 _) 24 hc24 rfl rfl (Nat.le_of_ble_eq_true rfl) (hs24e n1) ?_
      refine g_iload_n (q := 74) (i := 3) dX7_shows_73 rfl rfl rfl ?_
      refine g_iconst (q := 75) (v := 1) dX7_shows_74 rfl (by decide) ?_
      refine g_ishr (q := 76) dX7_shows_75 rfl ?_
      obtain ⟨v2, n2, H⟩ := of_li H
      refine g_name n2 ?_
      refine g_istore_n (q := 77) (L' := [.ref (ad 24), un_, un_, .int v2, .int l4]) (i := 3) dX7_shows_76 rfl rfl (Nat.le_of_ble_eq_true rfl) rfl ?_
      refine g_iinc (q := 80) (b := l4 + Int32.ofInt (-1)) (L' := [.ref (ad 24), un_, un_, .int v2, .int (l4 + Int32.ofInt (-1))]) dX7_shows_77 rfl rfl rfl (Nat.le_of_ble_eq_true rfl) rfl ?_
      refine g_goto (q := 40) dX7_shows_80 (by decide) ?_
      exact g_weak (L' := [.ref (ad 24), un_, un_, .int v2, .int (l4 + Int32.ofInt (-1))]) ⟨Or.inr rfl, Or.inl rfl, Or.inl rfl, Or.inr rfl, Or.inr rfl, trivial⟩ (h40 _ _ _ H)
    · replace H := (if_pos c52).symm.trans H
      refine g_goto (q := 77) dX7_shows_55 (by decide) ?_
      refine g_iinc (q := 80) (b := l4 + Int32.ofInt (-1)) (L' := [.ref (ad 24), un_, un_, .int l3, .int (l4 + Int32.ofInt (-1))]) dX7_shows_77 rfl rfl rfl (Nat.le_of_ble_eq_true rfl) rfl ?_
      refine g_goto (q := 40) dX7_shows_80 (by decide) ?_
      exact g_weak (L' := [.ref (ad 24), un_, un_, .int l3, .int (l4 + Int32.ofInt (-1))]) ⟨Or.inr rfl, Or.inl rfl, Or.inl rfl, Or.inr rfl, Or.inr rfl, trivial⟩ (h40 _ _ _ H)
def fX7_shows_40 (F : Nat)  : Nat → Sg → Int32 → Int32 → Rs
  | 0 => fun _ _ _ => none
  | n + 1 => fun σ l3 l4 => bX7_shows_40 F  (fX7_shows_40 F  n) σ l3 l4
theorem wfX7_shows_40 {x : FX} {g : GX} {ad : Nat → Nat} {ex M0 : va_W} {r : Int32} {τ : Sg} {F : Nat} (hX : RX x g M0 (Pv_ (HH g ad τ ++ ex)) 0 0)   : ∀ (n : Nat) (σ : Sg) (l3 : Int32) (l4 : Int32), fX7_shows_40 F  n σ l3 l4 = some (r, τ) → Go x { frames := 0, cells := 0, slots := 0, locals := 0 } tX7_shows g 40 [.ref (ad 24), un_, un_, .int l3, .int l4] [] (HH g ad σ ++ ex) 0 0
  | 0, _, _, _, H => nomatch (show (none : Rs) = some _ from H)
  | n + 1, σ, l3, l4, H => wbX7_shows_40 (F := F) hX  (fun σ2 z3 z4 H2 => wfX7_shows_40 (F := F) hX  n σ2 z3 z4 H2) σ l3 l4 H
def fX7_shows (F : Nat) (σ : Sg) (l1 : Int32) (l2 : Int32) : Rs := if (l1 &&& (1 : Int32)) = (1 : Int32) then (ls_ (sv σ 27 (1 : Int32)) fun σ5 => ls_ (sv σ5 23 ((l1 >>> ((1 : Int32) &&& 31)) &&& (63 : Int32))) fun σ6 => li_ (l1 >>> ((7 : Int32) &&& 31)) fun v7 => ls_ (sv σ6 24 (0 : Int32)) fun σ8 => fX7_shows_40 F F σ8 (v7) ((17 : Int32))) else (ls_ (sv σ 27 (0 : Int32)) fun σ1 => ls_ (sv σ1 23 ((l1 >>> ((1 : Int32) &&& 31)) &&& (63 : Int32))) fun σ2 => li_ (l1 >>> ((7 : Int32) &&& 31)) fun v3 => ls_ (sv σ2 24 (0 : Int32)) fun σ4 => fX7_shows_40 F F σ4 (v3) ((17 : Int32)))
set_option maxRecDepth 100000 in
set_option maxHeartbeats 4000000 in
theorem ctX7_shows {l : Launch} {g : GX} {ad : Nat → Nat} {ex : va_W} {r : Int32} {τ σ : Sg} {F : Nat} {l1 : Int32} {l2 : Int32} (H : fX7_shows F σ l1 l2 = some (r, τ)) : Ct l g yX7_shows tX7_shows 0 0 0 0 [.ref (ad 24), .int l1, .int l2] (HH g ad σ ++ ex) (Pv_ (HH g ad τ ++ ex)) := by
  refine Ct.of (L := [.ref (ad 24), .int l1, .int l2, un_, un_]) (by decide +kernel) rfl rfl rfl (Nat.le_of_ble_eq_true rfl) rfl (fun x _ hX => ?_)
  unfold fX7_shows at H
  refine g_aload_n (q := 1) (i := 0) dX7_shows_0 rfl rfl rfl ?_
  refine g_iload_n (q := 2) (i := 1) dX7_shows_1 rfl rfl rfl ?_
  refine g_iconst (q := 3) (v := 1) dX7_shows_2 rfl (by decide) ?_
  refine g_iand (q := 4) dX7_shows_3 rfl ?_
  refine g_iconst (q := 5) (v := 1) dX7_shows_4 rfl (by decide) ?_
  refine g_icmp_ne (q := 8) (r := 12) dX7_shows_5 (by decide) rfl (fun c5 => ?_) (fun c5 => ?_)
  · replace H := (if_neg c5).symm.trans H
    refine g_iconst (q := 13) (v := 0) dX7_shows_12 rfl (by decide) ?_
    obtain ⟨σ1, n1, H⟩ := of_ls H
    refine g_put (q := 16) dX7_shows_13 rfl (fpX7_150 _) 24 hc24 rfl rfl (Nat.le_of_ble_eq_true rfl) (hs27e n1) ?_
    refine g_aload_n (q := 17) (i := 0) dX7_shows_16 rfl rfl rfl ?_
    refine g_iload_n (q := 18) (i := 1) dX7_shows_17 rfl rfl rfl ?_
    refine g_iconst (q := 19) (v := 1) dX7_shows_18 rfl (by decide) ?_
    refine g_ishr (q := 20) dX7_shows_19 rfl ?_
    refine g_bipush (q := 22) (v := 63) dX7_shows_20 rfl (by decide) ?_
    refine g_iand (q := 23) dX7_shows_22 rfl ?_
    obtain ⟨σ2, n2, H⟩ := of_ls H
    refine g_put (q := 26) dX7_shows_23 rfl (fpX7_91 _) 24 hc24 rfl rfl (Nat.le_of_ble_eq_true rfl) (hs23e n2) ?_
    refine g_iload_n (q := 27) (i := 1) dX7_shows_26 rfl rfl rfl ?_
    refine g_bipush (q := 29) (v := 7) dX7_shows_27 rfl (by decide) ?_
    refine g_ishr (q := 30) dX7_shows_29 rfl ?_
    obtain ⟨v3, n3, H⟩ := of_li H
    refine g_name n3 ?_
    refine g_istore_n (q := 31) (L' := [.ref (ad 24), .int l1, .int l2, .int v3, un_]) (i := 3) dX7_shows_30 rfl rfl (Nat.le_of_ble_eq_true rfl) rfl ?_
    refine g_aload_n (q := 32) (i := 0) dX7_shows_31 rfl rfl rfl ?_
    refine g_iconst (q := 33) (v := 0) dX7_shows_32 rfl (by decide) ?_
    obtain ⟨σ4, n4, H⟩ := of_ls H
    refine g_put (q := 36) dX7_shows_33 rfl (fpX7_94 _) 24 hc24 rfl rfl (Nat.le_of_ble_eq_true rfl) (hs24e n4) ?_
    refine g_bipush (q := 38) (v := 17) dX7_shows_36 rfl (by decide) ?_
    refine g_istore (q := 40) (L' := [.ref (ad 24), .int l1, .int l2, .int v3, .int ((17 : Int32))]) dX7_shows_38 rfl (Nat.le_of_ble_eq_true rfl) rfl ?_
    exact g_weak (L' := [.ref (ad 24), un_, un_, .int v3, .int ((17 : Int32))]) ⟨Or.inr rfl, Or.inl rfl, Or.inl rfl, Or.inr rfl, Or.inr rfl, trivial⟩ (wfX7_shows_40 (F := F) hX  F _ _ _ H)
  · replace H := (if_pos c5).symm.trans H
    refine g_iconst (q := 9) (v := 1) dX7_shows_8 rfl (by decide) ?_
    refine g_goto (q := 13) dX7_shows_9 (by decide) ?_
    obtain ⟨σ5, n5, H⟩ := of_ls H
    refine g_put (q := 16) dX7_shows_13 rfl (fpX7_150 _) 24 hc24 rfl rfl (Nat.le_of_ble_eq_true rfl) (hs27e n5) ?_
    refine g_aload_n (q := 17) (i := 0) dX7_shows_16 rfl rfl rfl ?_
    refine g_iload_n (q := 18) (i := 1) dX7_shows_17 rfl rfl rfl ?_
    refine g_iconst (q := 19) (v := 1) dX7_shows_18 rfl (by decide) ?_
    refine g_ishr (q := 20) dX7_shows_19 rfl ?_
    refine g_bipush (q := 22) (v := 63) dX7_shows_20 rfl (by decide) ?_
    refine g_iand (q := 23) dX7_shows_22 rfl ?_
    obtain ⟨σ6, n6, H⟩ := of_ls H
    refine g_put (q := 26) dX7_shows_23 rfl (fpX7_91 _) 24 hc24 rfl rfl (Nat.le_of_ble_eq_true rfl) (hs23e n6) ?_
    refine g_iload_n (q := 27) (i := 1) dX7_shows_26 rfl rfl rfl ?_
    refine g_bipush (q := 29) (v := 7) dX7_shows_27 rfl (by decide) ?_
    refine g_ishr (q := 30) dX7_shows_29 rfl ?_
    obtain ⟨v7, n7, H⟩ := of_li H
    refine g_name n7 ?_
    refine g_istore_n (q := 31) (L' := [.ref (ad 24), .int l1, .int l2, .int v7, un_]) (i := 3) dX7_shows_30 rfl rfl (Nat.le_of_ble_eq_true rfl) rfl ?_
    refine g_aload_n (q := 32) (i := 0) dX7_shows_31 rfl rfl rfl ?_
    refine g_iconst (q := 33) (v := 0) dX7_shows_32 rfl (by decide) ?_
    obtain ⟨σ8, n8, H⟩ := of_ls H
    refine g_put (q := 36) dX7_shows_33 rfl (fpX7_94 _) 24 hc24 rfl rfl (Nat.le_of_ble_eq_true rfl) (hs24e n8) ?_
    refine g_bipush (q := 38) (v := 17) dX7_shows_36 rfl (by decide) ?_
    refine g_istore (q := 40) (L' := [.ref (ad 24), .int l1, .int l2, .int v7, .int ((17 : Int32))]) dX7_shows_38 rfl (Nat.le_of_ble_eq_true rfl) rfl ?_
    exact g_weak (L' := [.ref (ad 24), un_, un_, .int v7, .int ((17 : Int32))]) ⟨Or.inr rfl, Or.inl rfl, Or.inl rfl, Or.inr rfl, Or.inr rfl, trivial⟩ (wfX7_shows_40 (F := F) hX  F _ _ _ H)
def bX7_finds_189 (F : Nat) (k45 : Sg → Int32 → Int32 → Int32 → Rs) (k56 : Sg → Int32 → Int32 → Int32 → Int32 → Rs) (k65 : Sg → Int32 → Int32 → Int32 → Int32 → Int32 → Rs) (k77 : Sg → Int32 → Int32 → Int32 → Int32 → Int32 → Int32 → Rs) (σ : Sg) (l1 : Int32) (l2 : Int32) (l3 : Int32) (l4 : Int32) (l5 : Int32) (l6 : Int32) : Rs := if l4 = (2 : Int32) then ((fX7_meets F σ l1 l3 ((((l4 * (16 : Int32)) + l5) * (32 : Int32)) + l6)).bind fun q3 => (fun (r3 : Int32) (σ3 : Sg) => if r3 = (0 : Int32) then (k77 σ3 (l1) (l2) (l3) (l4) (l5) (l6 + 1)) else ((fX7_isSearched F σ3).bind fun q4 => (fun (r4 : Int32) (σ4 : Sg) => if r4 = (0 : Int32) then (k77 σ4 (l1) (l2) (l3) (l4) (l5) (l6 + 1)) else (some ((σ4.1 26) - (1 : Int32), σ4))) q4.1 q4.2)) q3.1 q3.2) else ((fX7_meets F σ l1 l3 ((((l4 * (16 : Int32)) + l5) * (32 : Int32)) + (31 : Int32))).bind fun q1 => (fun (r1 : Int32) (σ1 : Sg) => if r1 = (0 : Int32) then (k77 σ1 (l1) (l2) (l3) (l4) (l5) (l6 + 1)) else ((fX7_isSearched F σ1).bind fun q2 => (fun (r2 : Int32) (σ2 : Sg) => if r2 = (0 : Int32) then (k77 σ2 (l1) (l2) (l3) (l4) (l5) (l6 + 1)) else (some ((σ2.1 26) - (1 : Int32), σ2))) q2.1 q2.2)) q1.1 q1.2)
set_option maxRecDepth 100000 in
set_option maxHeartbeats 4000000 in
theorem wbX7_finds_189 {x : FX} {g : GX} {ad : Nat → Nat} {ex M0 : va_W} {r : Int32} {τ : Sg} {F : Nat} (hX : RX x g M0 (Pi_ r (HH g ad τ ++ ex)) 0 0) {k45 : Sg → Int32 → Int32 → Int32 → Rs} {k56 : Sg → Int32 → Int32 → Int32 → Int32 → Rs} {k65 : Sg → Int32 → Int32 → Int32 → Int32 → Int32 → Rs} {k77 : Sg → Int32 → Int32 → Int32 → Int32 → Int32 → Int32 → Rs} (h45 : ∀ (σ : Sg) (l1 : Int32) (l2 : Int32) (l3 : Int32), k45 σ l1 l2 l3 = some (r, τ) → Go x { frames := 3, cells := 0, slots := 0, locals := 70 } tX7_finds g 45 [.ref (ad 24), .int l1, .int l2, .int l3, un_, un_, un_] [] (HH g ad σ ++ ex) 0 0) (h56 : ∀ (σ : Sg) (l1 : Int32) (l2 : Int32) (l3 : Int32) (l4 : Int32), k56 σ l1 l2 l3 l4 = some (r, τ) → Go x { frames := 3, cells := 0, slots := 0, locals := 70 } tX7_finds g 56 [.ref (ad 24), .int l1, .int l2, .int l3, .int l4, un_, un_] [] (HH g ad σ ++ ex) 0 0) (h65 : ∀ (σ : Sg) (l1 : Int32) (l2 : Int32) (l3 : Int32) (l4 : Int32) (l5 : Int32), k65 σ l1 l2 l3 l4 l5 = some (r, τ) → Go x { frames := 3, cells := 0, slots := 0, locals := 70 } tX7_finds g 65 [.ref (ad 24), .int l1, .int l2, .int l3, .int l4, .int l5, un_] [] (HH g ad σ ++ ex) 0 0) (h77 : ∀ (σ : Sg) (l1 : Int32) (l2 : Int32) (l3 : Int32) (l4 : Int32) (l5 : Int32) (l6 : Int32), k77 σ l1 l2 l3 l4 l5 l6 = some (r, τ) → Go x { frames := 3, cells := 0, slots := 0, locals := 70 } tX7_finds g 77 [.ref (ad 24), .int l1, .int l2, .int l3, .int l4, .int l5, .int l6] [] (HH g ad σ ++ ex) 0 0) (σ : Sg) (l1 : Int32) (l2 : Int32) (l3 : Int32) (l4 : Int32) (l5 : Int32) (l6 : Int32) (H : bX7_finds_189 F k45 k56 k65 k77 σ l1 l2 l3 l4 l5 l6 = some (r, τ)) : Go x { frames := 3, cells := 0, slots := 0, locals := 70 } tX7_finds g 189 [.ref (ad 24), .int l1, .int l2, .int l3, .int l4, .int l5, .int l6] [] (HH g ad σ ++ ex) 0 0 := by
  unfold bX7_finds_189 at H
  refine g_aload_n (q := 190) (i := 0) dX7_finds_189 rfl rfl rfl ?_
  refine g_iload_n (q := 191) (i := 1) dX7_finds_190 rfl rfl rfl ?_
  refine g_iload_n (q := 192) (i := 3) dX7_finds_191 rfl rfl rfl ?_
  refine g_iload (q := 194) dX7_finds_192 rfl rfl ?_
  refine g_bipush (q := 196) (v := 16) dX7_finds_194 rfl (by decide) ?_
  refine g_imul (q := 197) dX7_finds_196 rfl ?_
  refine g_iload (q := 199) dX7_finds_197 rfl rfl ?_
  refine g_iadd (q := 200) dX7_finds_199 rfl ?_
  refine g_bipush (q := 202) (v := 32) dX7_finds_200 rfl (by decide) ?_
  refine g_imul (q := 203) dX7_finds_202 rfl ?_
  refine g_iload (q := 205) dX7_finds_203 rfl rfl ?_
  refine g_iconst (q := 206) (v := 2) dX7_finds_205 rfl (by decide) ?_
  refine g_icmp_ne (q := 209) (r := 214) dX7_finds_206 (by decide) rfl (fun c206 => ?_) (fun c206 => ?_)
  · replace H := (if_neg c206).symm.trans H
    refine g_bipush (q := 216) (v := 31) dX7_finds_214 rfl (by decide) ?_
    refine g_iadd (q := 217) dX7_finds_216 rfl ?_
    obtain ⟨r1, σ1, e1, H⟩ := of_bnd H
    refine g_callV (q := 220) (rest := []) dX7_finds_217 rfl cvX7_162 (ctX7_meets e1) rfl rfl ⟨Nat.le_of_ble_eq_true rfl, Nat.le_of_ble_eq_true rfl⟩ ⟨Nat.le_refl _, Nat.le_refl _⟩ (Nat.le_of_ble_eq_true rfl) 24 hc24 rfl (fun r0 M9 hp => ?_)
    obtain ⟨rfl, rfl⟩ := hp
    show Go x _ _ g 220 [.ref (ad 24), .int l1, .int l2, .int l3, .int l4, .int l5, .int l6] [.int r1] (HH g ad σ1 ++ ex) 0 0
    refine g_if_eq (q := 223) (r := 237) dX7_finds_220 (by decide) rfl (fun c220 => ?_) (fun c220 => ?_)
    · replace H := (if_pos c220).symm.trans H
      refine g_iinc (q := 240) (b := l6 + 1) (L' := [.ref (ad 24), .int l1, .int l2, .int l3, .int l4, .int l5, .int (l6 + 1)]) dX7_finds_237 rfl rfl rfl (Nat.le_of_ble_eq_true rfl) rfl ?_
      refine g_goto (q := 77) dX7_finds_240 (by decide) ?_
      exact g_weak (L' := [.ref (ad 24), .int l1, .int l2, .int l3, .int l4, .int l5, .int (l6 + 1)]) ⟨Or.inr rfl, Or.inr rfl, Or.inr rfl, Or.inr rfl, Or.inr rfl, Or.inr rfl, Or.inr rfl, trivial⟩ (h77 _ _ _ _ _ _ _ H)
    · replace H := (if_neg c220).symm.trans H
      refine g_aload_n (q := 224) (i := 0) dX7_finds_223 rfl rfl rfl ?_
      obtain ⟨r2, σ2, e2, H⟩ := of_bnd H
      refine g_callV (q := 227) (rest := []) dX7_finds_224 rfl cvX7_177 (ctX7_isSearched e2) rfl rfl ⟨Nat.le_of_ble_eq_true rfl, Nat.le_of_ble_eq_true rfl⟩ ⟨Nat.le_refl _, Nat.le_refl _⟩ (Nat.le_of_ble_eq_true rfl) 24 hc24 rfl (fun r0 M9 hp => ?_)
      obtain ⟨rfl, rfl⟩ := hp
      show Go x _ _ g 227 [.ref (ad 24), .int l1, .int l2, .int l3, .int l4, .int l5, .int l6] [.int r2] (HH g ad σ2 ++ ex) 0 0
      refine g_if_eq (q := 230) (r := 237) dX7_finds_227 (by decide) rfl (fun c227 => ?_) (fun c227 => ?_)
      · replace H := (if_pos c227).symm.trans H
        refine g_iinc (q := 240) (b := l6 + 1) (L' := [.ref (ad 24), .int l1, .int l2, .int l3, .int l4, .int l5, .int (l6 + 1)]) dX7_finds_237 rfl rfl rfl (Nat.le_of_ble_eq_true rfl) rfl ?_
        refine g_goto (q := 77) dX7_finds_240 (by decide) ?_
        exact g_weak (L' := [.ref (ad 24), .int l1, .int l2, .int l3, .int l4, .int l5, .int (l6 + 1)]) ⟨Or.inr rfl, Or.inr rfl, Or.inr rfl, Or.inr rfl, Or.inr rfl, Or.inr rfl, Or.inr rfl, trivial⟩ (h77 _ _ _ _ _ _ _ H)
      · replace H := (if_neg c227).symm.trans H
        refine g_aload_n (q := 231) (i := 0) dX7_finds_230 rfl rfl rfl ?_
        refine g_get (q := 234) dX7_finds_231 rfl foX7_159 24 hc24 rfl ?_
        refine g_iconst (q := 235) (v := 1) dX7_finds_234 rfl (by decide) ?_
        refine g_isub (q := 236) dX7_finds_235 rfl ?_
        exact g_iret hX dX7_finds_236 rfl rfl (Nat.le_refl _) (Nat.le_refl _) (piOk H)
  · replace H := (if_pos c206).symm.trans H
    refine g_iload (q := 211) dX7_finds_209 rfl rfl ?_
    refine g_goto (q := 216) dX7_finds_211 (by decide) ?_
    refine g_iadd (q := 217) dX7_finds_216 rfl ?_
    obtain ⟨r3, σ3, e3, H⟩ := of_bnd H
    refine g_callV (q := 220) (rest := []) dX7_finds_217 rfl cvX7_162 (ctX7_meets e3) rfl rfl ⟨Nat.le_of_ble_eq_true rfl, Nat.le_of_ble_eq_true rfl⟩ ⟨Nat.le_refl _, Nat.le_refl _⟩ (Nat.le_of_ble_eq_true rfl) 24 hc24 rfl (fun r0 M9 hp => ?_)
    obtain ⟨rfl, rfl⟩ := hp
    show Go x _ _ g 220 [.ref (ad 24), .int l1, .int l2, .int l3, .int l4, .int l5, .int l6] [.int r3] (HH g ad σ3 ++ ex) 0 0
    refine g_if_eq (q := 223) (r := 237) dX7_finds_220 (by decide) rfl (fun c220 => ?_) (fun c220 => ?_)
    · replace H := (if_pos c220).symm.trans H
      refine g_iinc (q := 240) (b := l6 + 1) (L' := [.ref (ad 24), .int l1, .int l2, .int l3, .int l4, .int l5, .int (l6 + 1)]) dX7_finds_237 rfl rfl rfl (Nat.le_of_ble_eq_true rfl) rfl ?_
      refine g_goto (q := 77) dX7_finds_240 (by decide) ?_
      exact g_weak (L' := [.ref (ad 24), .int l1, .int l2, .int l3, .int l4, .int l5, .int (l6 + 1)]) ⟨Or.inr rfl, Or.inr rfl, Or.inr rfl, Or.inr rfl, Or.inr rfl, Or.inr rfl, Or.inr rfl, trivial⟩ (h77 _ _ _ _ _ _ _ H)
    · replace H := (if_neg c220).symm.trans H
      refine g_aload_n (q := 224) (i := 0) dX7_finds_223 rfl rfl rfl ?_
      obtain ⟨r4, σ4, e4, H⟩ := of_bnd H
      refine g_callV (q := 227) (rest := []) dX7_finds_224 rfl cvX7_177 (ctX7_isSearched e4) rfl rfl ⟨Nat.le_of_ble_eq_true rfl, Nat.le_of_ble_eq_true rfl⟩ ⟨Nat.le_refl _, Nat.le_refl _⟩ (Nat.le_of_ble_eq_true rfl) 24 hc24 rfl (fun r0 M9 hp => ?_)
      obtain ⟨rfl, rfl⟩ := hp
      show Go x _ _ g 227 [.ref (ad 24), .int l1, .int l2, .int l3, .int l4, .int l5, .int l6] [.int r4] (HH g ad σ4 ++ ex) 0 0
      refine g_if_eq (q := 230) (r := 237) dX7_finds_227 (by decide) rfl (fun c227 => ?_) (fun c227 => ?_)
      · replace H := (if_pos c227).symm.trans H
        refine g_iinc (q := 240) (b := l6 + 1) (L' := [.ref (ad 24), .int l1, .int l2, .int l3, .int l4, .int l5, .int (l6 + 1)]) dX7_finds_237 rfl rfl rfl (Nat.le_of_ble_eq_true rfl) rfl ?_
        refine g_goto (q := 77) dX7_finds_240 (by decide) ?_
        exact g_weak (L' := [.ref (ad 24), .int l1, .int l2, .int l3, .int l4, .int l5, .int (l6 + 1)]) ⟨Or.inr rfl, Or.inr rfl, Or.inr rfl, Or.inr rfl, Or.inr rfl, Or.inr rfl, Or.inr rfl, trivial⟩ (h77 _ _ _ _ _ _ _ H)
      · replace H := (if_neg c227).symm.trans H
        refine g_aload_n (q := 231) (i := 0) dX7_finds_230 rfl rfl rfl ?_
        refine g_get (q := 234) dX7_finds_231 rfl foX7_159 24 hc24 rfl ?_
        refine g_iconst (q := 235) (v := 1) dX7_finds_234 rfl (by decide) ?_
        refine g_isub (q := 236) dX7_finds_235 rfl ?_
        exact g_iret hX dX7_finds_236 rfl rfl (Nat.le_refl _) (Nat.le_refl _) (piOk H)
def bX7_finds_122 (F : Nat) (k45 : Sg → Int32 → Int32 → Int32 → Rs) (k56 : Sg → Int32 → Int32 → Int32 → Int32 → Rs) (k65 : Sg → Int32 → Int32 → Int32 → Int32 → Int32 → Rs) (k77 : Sg → Int32 → Int32 → Int32 → Int32 → Int32 → Int32 → Rs) (σ : Sg) (l1 : Int32) (l2 : Int32) (l3 : Int32) (l4 : Int32) (l5 : Int32) (l6 : Int32) : Rs := (fX7_may F σ l1 l4 l5 l2).bind fun q1 => (fun (r1 : Int32) (σ1 : Sg) => if r1 = (0 : Int32) then (k77 σ1 (l1) (l2) (l3) (l4) (l5) (l6 + 1)) else ((fX7_does F σ1 l4 l5 l6).bind fun q2 => (fun (r2 : Int32) (σ2 : Sg) => if (σ2.1 27) = (0 : Int32) then (if l4 = (2 : Int32) then (ls_ (sv σ2 27 (1 : Int32)) fun σ7 => if l1 = (2 : Int32) then ((fX7_hangs F σ7 (σ7.1 22)).bind fun q8 => (fun (r8 : Int32) (σ8 : Sg) => if r8 = (0 : Int32) then (k77 σ8 (l1) (l2) (l3) (l4) (l5) (l6 + 1)) else (bX7_finds_189 F k45 k56 k65 k77 σ8 (l1) (l2) (l3) (l4) (l5) (l6))) q8.1 q8.2) else (bX7_finds_189 F k45 k56 k65 k77 σ7 (l1) (l2) (l3) (l4) (l5) (l6))) else (ls_ (sv σ2 27 (0 : Int32)) fun σ5 => if l1 = (2 : Int32) then ((fX7_hangs F σ5 (σ5.1 22)).bind fun q6 => (fun (r6 : Int32) (σ6 : Sg) => if r6 = (0 : Int32) then (k77 σ6 (l1) (l2) (l3) (l4) (l5) (l6 + 1)) else (bX7_finds_189 F k45 k56 k65 k77 σ6 (l1) (l2) (l3) (l4) (l5) (l6))) q6.1 q6.2) else (bX7_finds_189 F k45 k56 k65 k77 σ5 (l1) (l2) (l3) (l4) (l5) (l6)))) else (ls_ (sv σ2 27 (1 : Int32)) fun σ3 => if l1 = (2 : Int32) then ((fX7_hangs F σ3 (σ3.1 22)).bind fun q4 => (fun (r4 : Int32) (σ4 : Sg) => if r4 = (0 : Int32) then (k77 σ4 (l1) (l2) (l3) (l4) (l5) (l6 + 1)) else (bX7_finds_189 F k45 k56 k65 k77 σ4 (l1) (l2) (l3) (l4) (l5) (l6))) q4.1 q4.2) else (bX7_finds_189 F k45 k56 k65 k77 σ3 (l1) (l2) (l3) (l4) (l5) (l6)))) q2.1 q2.2)) q1.1 q1.2
set_option maxRecDepth 100000 in
set_option maxHeartbeats 4000000 in
theorem wbX7_finds_122 {x : FX} {g : GX} {ad : Nat → Nat} {ex M0 : va_W} {r : Int32} {τ : Sg} {F : Nat} (hX : RX x g M0 (Pi_ r (HH g ad τ ++ ex)) 0 0) {k45 : Sg → Int32 → Int32 → Int32 → Rs} {k56 : Sg → Int32 → Int32 → Int32 → Int32 → Rs} {k65 : Sg → Int32 → Int32 → Int32 → Int32 → Int32 → Rs} {k77 : Sg → Int32 → Int32 → Int32 → Int32 → Int32 → Int32 → Rs} (h45 : ∀ (σ : Sg) (l1 : Int32) (l2 : Int32) (l3 : Int32), k45 σ l1 l2 l3 = some (r, τ) → Go x { frames := 3, cells := 0, slots := 0, locals := 70 } tX7_finds g 45 [.ref (ad 24), .int l1, .int l2, .int l3, un_, un_, un_] [] (HH g ad σ ++ ex) 0 0) (h56 : ∀ (σ : Sg) (l1 : Int32) (l2 : Int32) (l3 : Int32) (l4 : Int32), k56 σ l1 l2 l3 l4 = some (r, τ) → Go x { frames := 3, cells := 0, slots := 0, locals := 70 } tX7_finds g 56 [.ref (ad 24), .int l1, .int l2, .int l3, .int l4, un_, un_] [] (HH g ad σ ++ ex) 0 0) (h65 : ∀ (σ : Sg) (l1 : Int32) (l2 : Int32) (l3 : Int32) (l4 : Int32) (l5 : Int32), k65 σ l1 l2 l3 l4 l5 = some (r, τ) → Go x { frames := 3, cells := 0, slots := 0, locals := 70 } tX7_finds g 65 [.ref (ad 24), .int l1, .int l2, .int l3, .int l4, .int l5, un_] [] (HH g ad σ ++ ex) 0 0) (h77 : ∀ (σ : Sg) (l1 : Int32) (l2 : Int32) (l3 : Int32) (l4 : Int32) (l5 : Int32) (l6 : Int32), k77 σ l1 l2 l3 l4 l5 l6 = some (r, τ) → Go x { frames := 3, cells := 0, slots := 0, locals := 70 } tX7_finds g 77 [.ref (ad 24), .int l1, .int l2, .int l3, .int l4, .int l5, .int l6] [] (HH g ad σ ++ ex) 0 0) (σ : Sg) (l1 : Int32) (l2 : Int32) (l3 : Int32) (l4 : Int32) (l5 : Int32) (l6 : Int32) (H : bX7_finds_122 F k45 k56 k65 k77 σ l1 l2 l3 l4 l5 l6 = some (r, τ)) : Go x { frames := 3, cells := 0, slots := 0, locals := 70 } tX7_finds g 122 [.ref (ad 24), .int l1, .int l2, .int l3, .int l4, .int l5, .int l6] [] (HH g ad σ ++ ex) 0 0 := by
  unfold bX7_finds_122 at H
  refine g_aload_n (q := 123) (i := 0) dX7_finds_122 rfl rfl rfl ?_
  refine g_iload_n (q := 124) (i := 1) dX7_finds_123 rfl rfl rfl ?_
  refine g_iload (q := 126) dX7_finds_124 rfl rfl ?_
  refine g_iload (q := 128) dX7_finds_126 rfl rfl ?_
  refine g_iload_n (q := 129) (i := 2) dX7_finds_128 rfl rfl rfl ?_
  obtain ⟨r1, σ1, e1, H⟩ := of_bnd H
  refine g_callV (q := 132) (rest := []) dX7_finds_129 rfl cvX7_170 (ctX7_may e1) rfl rfl ⟨Nat.le_of_ble_eq_true rfl, Nat.le_of_ble_eq_true rfl⟩ ⟨Nat.le_refl _, Nat.le_refl _⟩ (Nat.le_of_ble_eq_true rfl) 24 hc24 rfl (fun r0 M9 hp => ?_)
  obtain ⟨rfl, rfl⟩ := hp
  show Go x _ _ g 132 [.ref (ad 24), .int l1, .int l2, .int l3, .int l4, .int l5, .int l6] [.int r1] (HH g ad σ1 ++ ex) 0 0
  refine g_if_ne (q := 135) (r := 138) dX7_finds_132 (by decide) rfl (fun c132 => ?_) (fun c132 => ?_)
  · replace H := (if_neg c132).symm.trans H
    refine g_aload_n (q := 139) (i := 0) dX7_finds_138 rfl rfl rfl ?_
    refine g_iload (q := 141) dX7_finds_139 rfl rfl ?_
    refine g_iload (q := 143) dX7_finds_141 rfl rfl ?_
    refine g_iload (q := 145) dX7_finds_143 rfl rfl ?_
    obtain ⟨r2, σ2, e2, H⟩ := of_bnd H
    refine g_callV (q := 148) (rest := []) dX7_finds_145 rfl cvX7_127 (ctX7_does e2) rfl rfl ⟨Nat.le_of_ble_eq_true rfl, Nat.le_of_ble_eq_true rfl⟩ ⟨Nat.le_refl _, Nat.le_refl _⟩ (Nat.le_of_ble_eq_true rfl) 24 hc24 rfl (fun r0 M9 hp => ?_)
    obtain ⟨rfl, rfl⟩ := hp
    show Go x _ _ g 148 [.ref (ad 24), .int l1, .int l2, .int l3, .int l4, .int l5, .int l6] [] (HH g ad σ2 ++ ex) 0 0
    refine g_aload_n (q := 149) (i := 0) dX7_finds_148 rfl rfl rfl ?_
    refine g_aload_n (q := 150) (i := 0) dX7_finds_149 rfl rfl rfl ?_
    refine g_get (q := 153) dX7_finds_150 rfl foX7_150 24 hc24 rfl ?_
    refine g_if_ne (q := 156) (r := 162) dX7_finds_153 (by decide) rfl (fun c153 => ?_) (fun c153 => ?_)
    · replace H := (if_neg c153).symm.trans H
      refine g_iconst (q := 163) (v := 1) dX7_finds_162 rfl (by decide) ?_
      refine g_goto (q := 167) dX7_finds_163 (by decide) ?_
      obtain ⟨σ3, n3, H⟩ := of_ls H
      refine g_put (q := 170) dX7_finds_167 rfl (fpX7_150 _) 24 hc24 rfl rfl (Nat.le_of_ble_eq_true rfl) (hs27e n3) ?_
      refine g_iload_n (q := 171) (i := 1) dX7_finds_170 rfl rfl rfl ?_
      refine g_iconst (q := 172) (v := 2) dX7_finds_171 rfl (by decide) ?_
      refine g_icmp_ne (q := 175) (r := 189) dX7_finds_172 (by decide) rfl (fun c172 => ?_) (fun c172 => ?_)
      · replace H := (if_neg c172).symm.trans H
        exact g_weak (L' := [.ref (ad 24), .int l1, .int l2, .int l3, .int l4, .int l5, .int l6]) ⟨Or.inr rfl, Or.inr rfl, Or.inr rfl, Or.inr rfl, Or.inr rfl, Or.inr rfl, Or.inr rfl, trivial⟩ (wbX7_finds_189 (F := F) hX h45 h56 h65 h77 _ _ _ _ _ _ _ H)
      · replace H := (if_pos c172).symm.trans H
        refine g_aload_n (q := 176) (i := 0) dX7_finds_175 rfl rfl rfl ?_
        refine g_aload_n (q := 177) (i := 0) dX7_finds_176 rfl rfl rfl ?_
        refine g_get (q := 180) dX7_finds_177 rfl foX7_74 24 hc24 rfl ?_
        obtain ⟨r4, σ4, e4, H⟩ := of_bnd H
        refine g_callV (q := 183) (rest := []) dX7_finds_180 rfl cvX7_174 (ctX7_hangs e4) rfl rfl ⟨Nat.le_of_ble_eq_true rfl, Nat.le_of_ble_eq_true rfl⟩ ⟨Nat.le_refl _, Nat.le_refl _⟩ (Nat.le_of_ble_eq_true rfl) 24 hc24 rfl (fun r0 M9 hp => ?_)
        obtain ⟨rfl, rfl⟩ := hp
        show Go x _ _ g 183 [.ref (ad 24), .int l1, .int l2, .int l3, .int l4, .int l5, .int l6] [.int r4] (HH g ad σ4 ++ ex) 0 0
        refine g_if_ne (q := 186) (r := 189) dX7_finds_183 (by decide) rfl (fun c183 => ?_) (fun c183 => ?_)
        · replace H := (if_neg c183).symm.trans H
          exact g_weak (L' := [.ref (ad 24), .int l1, .int l2, .int l3, .int l4, .int l5, .int l6]) ⟨Or.inr rfl, Or.inr rfl, Or.inr rfl, Or.inr rfl, Or.inr rfl, Or.inr rfl, Or.inr rfl, trivial⟩ (wbX7_finds_189 (F := F) hX h45 h56 h65 h77 _ _ _ _ _ _ _ H)
        · replace H := (if_pos c183).symm.trans H
          refine g_goto (q := 237) dX7_finds_186 (by decide) ?_
          refine g_iinc (q := 240) (b := l6 + 1) (L' := [.ref (ad 24), .int l1, .int l2, .int l3, .int l4, .int l5, .int (l6 + 1)]) dX7_finds_237 rfl rfl rfl (Nat.le_of_ble_eq_true rfl) rfl ?_
          refine g_goto (q := 77) dX7_finds_240 (by decide) ?_
          exact g_weak (L' := [.ref (ad 24), .int l1, .int l2, .int l3, .int l4, .int l5, .int (l6 + 1)]) ⟨Or.inr rfl, Or.inr rfl, Or.inr rfl, Or.inr rfl, Or.inr rfl, Or.inr rfl, Or.inr rfl, trivial⟩ (h77 _ _ _ _ _ _ _ H)
    · replace H := (if_pos c153).symm.trans H
      refine g_iload (q := 158) dX7_finds_156 rfl rfl ?_
      refine g_iconst (q := 159) (v := 2) dX7_finds_158 rfl (by decide) ?_
      refine g_icmp_ne (q := 162) (r := 166) dX7_finds_159 (by decide) rfl (fun c159 => ?_) (fun c159 => ?_)
      · replace H := (if_neg c159).symm.trans H
        refine g_iconst (q := 167) (v := 0) dX7_finds_166 rfl (by decide) ?_
        obtain ⟨σ5, n5, H⟩ := of_ls H
        refine g_put (q := 170) dX7_finds_167 rfl (fpX7_150 _) 24 hc24 rfl rfl (Nat.le_of_ble_eq_true rfl) (hs27e n5) ?_
        refine g_iload_n (q := 171) (i := 1) dX7_finds_170 rfl rfl rfl ?_
        refine g_iconst (q := 172) (v := 2) dX7_finds_171 rfl (by decide) ?_
        refine g_icmp_ne (q := 175) (r := 189) dX7_finds_172 (by decide) rfl (fun c172 => ?_) (fun c172 => ?_)
        · replace H := (if_neg c172).symm.trans H
          exact g_weak (L' := [.ref (ad 24), .int l1, .int l2, .int l3, .int l4, .int l5, .int l6]) ⟨Or.inr rfl, Or.inr rfl, Or.inr rfl, Or.inr rfl, Or.inr rfl, Or.inr rfl, Or.inr rfl, trivial⟩ (wbX7_finds_189 (F := F) hX h45 h56 h65 h77 _ _ _ _ _ _ _ H)
        · replace H := (if_pos c172).symm.trans H
          refine g_aload_n (q := 176) (i := 0) dX7_finds_175 rfl rfl rfl ?_
          refine g_aload_n (q := 177) (i := 0) dX7_finds_176 rfl rfl rfl ?_
          refine g_get (q := 180) dX7_finds_177 rfl foX7_74 24 hc24 rfl ?_
          obtain ⟨r6, σ6, e6, H⟩ := of_bnd H
          refine g_callV (q := 183) (rest := []) dX7_finds_180 rfl cvX7_174 (ctX7_hangs e6) rfl rfl ⟨Nat.le_of_ble_eq_true rfl, Nat.le_of_ble_eq_true rfl⟩ ⟨Nat.le_refl _, Nat.le_refl _⟩ (Nat.le_of_ble_eq_true rfl) 24 hc24 rfl (fun r0 M9 hp => ?_)
          obtain ⟨rfl, rfl⟩ := hp
          show Go x _ _ g 183 [.ref (ad 24), .int l1, .int l2, .int l3, .int l4, .int l5, .int l6] [.int r6] (HH g ad σ6 ++ ex) 0 0
          refine g_if_ne (q := 186) (r := 189) dX7_finds_183 (by decide) rfl (fun c183 => ?_) (fun c183 => ?_)
          · replace H := (if_neg c183).symm.trans H
            exact g_weak (L' := [.ref (ad 24), .int l1, .int l2, .int l3, .int l4, .int l5, .int l6]) ⟨Or.inr rfl, Or.inr rfl, Or.inr rfl, Or.inr rfl, Or.inr rfl, Or.inr rfl, Or.inr rfl, trivial⟩ (wbX7_finds_189 (F := F) hX h45 h56 h65 h77 _ _ _ _ _ _ _ H)
          · replace H := (if_pos c183).symm.trans H
            refine g_goto (q := 237) dX7_finds_186 (by decide) ?_
            refine g_iinc (q := 240) (b := l6 + 1) (L' := [.ref (ad 24), .int l1, .int l2, .int l3, .int l4, .int l5, .int (l6 + 1)]) dX7_finds_237 rfl rfl rfl (Nat.le_of_ble_eq_true rfl) rfl ?_
            refine g_goto (q := 77) dX7_finds_240 (by decide) ?_
            exact g_weak (L' := [.ref (ad 24), .int l1, .int l2, .int l3, .int l4, .int l5, .int (l6 + 1)]) ⟨Or.inr rfl, Or.inr rfl, Or.inr rfl, Or.inr rfl, Or.inr rfl, Or.inr rfl, Or.inr rfl, trivial⟩ (h77 _ _ _ _ _ _ _ H)
      · replace H := (if_pos c159).symm.trans H
        refine g_iconst (q := 163) (v := 1) dX7_finds_162 rfl (by decide) ?_
        refine g_goto (q := 167) dX7_finds_163 (by decide) ?_
        obtain ⟨σ7, n7, H⟩ := of_ls H
        refine g_put (q := 170) dX7_finds_167 rfl (fpX7_150 _) 24 hc24 rfl rfl (Nat.le_of_ble_eq_true rfl) (hs27e n7) ?_
        refine g_iload_n (q := 171) (i := 1) dX7_finds_170 rfl rfl rfl ?_
        refine g_iconst (q := 172) (v := 2) dX7_finds_171 rfl (by decide) ?_
        refine g_icmp_ne (q := 175) (r := 189) dX7_finds_172 (by decide) rfl (fun c172 => ?_) (fun c172 => ?_)
        · replace H := (if_neg c172).symm.trans H
          exact g_weak (L' := [.ref (ad 24), .int l1, .int l2, .int l3, .int l4, .int l5, .int l6]) ⟨Or.inr rfl, Or.inr rfl, Or.inr rfl, Or.inr rfl, Or.inr rfl, Or.inr rfl, Or.inr rfl, trivial⟩ (wbX7_finds_189 (F := F) hX h45 h56 h65 h77 _ _ _ _ _ _ _ H)
        · replace H := (if_pos c172).symm.trans H
          refine g_aload_n (q := 176) (i := 0) dX7_finds_175 rfl rfl rfl ?_
          refine g_aload_n (q := 177) (i := 0) dX7_finds_176 rfl rfl rfl ?_
          refine g_get (q := 180) dX7_finds_177 rfl foX7_74 24 hc24 rfl ?_
          obtain ⟨r8, σ8, e8, H⟩ := of_bnd H
          refine g_callV (q := 183) (rest := []) dX7_finds_180 rfl cvX7_174 (ctX7_hangs e8) rfl rfl ⟨Nat.le_of_ble_eq_true rfl, Nat.le_of_ble_eq_true rfl⟩ ⟨Nat.le_refl _, Nat.le_refl _⟩ (Nat.le_of_ble_eq_true rfl) 24 hc24 rfl (fun r0 M9 hp => ?_)
          obtain ⟨rfl, rfl⟩ := hp
          show Go x _ _ g 183 [.ref (ad 24), .int l1, .int l2, .int l3, .int l4, .int l5, .int l6] [.int r8] (HH g ad σ8 ++ ex) 0 0
          refine g_if_ne (q := 186) (r := 189) dX7_finds_183 (by decide) rfl (fun c183 => ?_) (fun c183 => ?_)
          · replace H := (if_neg c183).symm.trans H
            exact g_weak (L' := [.ref (ad 24), .int l1, .int l2, .int l3, .int l4, .int l5, .int l6]) ⟨Or.inr rfl, Or.inr rfl, Or.inr rfl, Or.inr rfl, Or.inr rfl, Or.inr rfl, Or.inr rfl, trivial⟩ (wbX7_finds_189 (F := F) hX h45 h56 h65 h77 _ _ _ _ _ _ _ H)
          · replace H := (if_pos c183).symm.trans H
            refine g_goto (q := 237) dX7_finds_186 (by decide) ?_
            refine g_iinc (q := 240) (b := l6 + 1) (L' := [.ref (ad 24), .int l1, .int l2, .int l3, .int l4, .int l5, .int (l6 + 1)]) dX7_finds_237 rfl rfl rfl (Nat.le_of_ble_eq_true rfl) rfl ?_
            refine g_goto (q := 77) dX7_finds_240 (by decide) ?_
            exact g_weak (L' := [.ref (ad 24), .int l1, .int l2, .int l3, .int l4, .int l5, .int (l6 + 1)]) ⟨Or.inr rfl, Or.inr rfl, Or.inr rfl, Or.inr rfl, Or.inr rfl, Or.inr rfl, Or.inr rfl, trivial⟩ (h77 _ _ _ _ _ _ _ H)
  · replace H := (if_pos c132).symm.trans H
    refine g_goto (q := 237) dX7_finds_135 (by decide) ?_
    refine g_iinc (q := 240) (b := l6 + 1) (L' := [.ref (ad 24), .int l1, .int l2, .int l3, .int l4, .int l5, .int (l6 + 1)]) dX7_finds_237 rfl rfl rfl (Nat.le_of_ble_eq_true rfl) rfl ?_
    refine g_goto (q := 77) dX7_finds_240 (by decide) ?_
    exact g_weak (L' := [.ref (ad 24), .int l1, .int l2, .int l3, .int l4, .int l5, .int (l6 + 1)]) ⟨Or.inr rfl, Or.inr rfl, Or.inr rfl, Or.inr rfl, Or.inr rfl, Or.inr rfl, Or.inr rfl, trivial⟩ (h77 _ _ _ _ _ _ _ H)
def bX7_finds_77 (F : Nat) (k45 : Sg → Int32 → Int32 → Int32 → Rs) (k56 : Sg → Int32 → Int32 → Int32 → Int32 → Rs) (k65 : Sg → Int32 → Int32 → Int32 → Int32 → Int32 → Rs) (k77 : Sg → Int32 → Int32 → Int32 → Int32 → Int32 → Int32 → Rs) (σ : Sg) (l1 : Int32) (l2 : Int32) (l3 : Int32) (l4 : Int32) (l5 : Int32) (l6 : Int32) : Rs := if l4 = (2 : Int32) then (if (18 : Int32) ≤ l6 then (k65 σ (l1) (l2) (l3) (l4) (l5 + 1)) else (if ib l3 262144 then ((fX7_shows F σ (σ.2.1 37 l3.toNatClampNeg) l1).bind fun q3 => (fun (r3 : Int32) (σ3 : Sg) => if l4 = (2 : Int32) then ((fX7_isAt F σ3 l6 l5).bind fun q4 => (fun (r4 : Int32) (σ4 : Sg) => if r4 = (0 : Int32) then (k77 σ4 (l1) (l2) (l3) (l4) (l5) (l6 + 1)) else (bX7_finds_122 F k45 k56 k65 k77 σ4 (l1) (l2) (l3) (l4) (l5) (l6))) q4.1 q4.2) else (bX7_finds_122 F k45 k56 k65 k77 σ3 (l1) (l2) (l3) (l4) (l5) (l6))) q3.1 q3.2) else none)) else (if (1 : Int32) ≤ l6 then (k65 σ (l1) (l2) (l3) (l4) (l5 + 1)) else (if ib l3 262144 then ((fX7_shows F σ (σ.2.1 37 l3.toNatClampNeg) l1).bind fun q1 => (fun (r1 : Int32) (σ1 : Sg) => if l4 = (2 : Int32) then ((fX7_isAt F σ1 l6 l5).bind fun q2 => (fun (r2 : Int32) (σ2 : Sg) => if r2 = (0 : Int32) then (k77 σ2 (l1) (l2) (l3) (l4) (l5) (l6 + 1)) else (bX7_finds_122 F k45 k56 k65 k77 σ2 (l1) (l2) (l3) (l4) (l5) (l6))) q2.1 q2.2) else (bX7_finds_122 F k45 k56 k65 k77 σ1 (l1) (l2) (l3) (l4) (l5) (l6))) q1.1 q1.2) else none))
set_option maxRecDepth 100000 in
set_option maxHeartbeats 4000000 in
theorem wbX7_finds_77 {x : FX} {g : GX} {ad : Nat → Nat} {ex M0 : va_W} {r : Int32} {τ : Sg} {F : Nat} (hX : RX x g M0 (Pi_ r (HH g ad τ ++ ex)) 0 0) {k45 : Sg → Int32 → Int32 → Int32 → Rs} {k56 : Sg → Int32 → Int32 → Int32 → Int32 → Rs} {k65 : Sg → Int32 → Int32 → Int32 → Int32 → Int32 → Rs} {k77 : Sg → Int32 → Int32 → Int32 → Int32 → Int32 → Int32 → Rs} (h45 : ∀ (σ : Sg) (l1 : Int32) (l2 : Int32) (l3 : Int32), k45 σ l1 l2 l3 = some (r, τ) → Go x { frames := 3, cells := 0, slots := 0, locals := 70 } tX7_finds g 45 [.ref (ad 24), .int l1, .int l2, .int l3, un_, un_, un_] [] (HH g ad σ ++ ex) 0 0) (h56 : ∀ (σ : Sg) (l1 : Int32) (l2 : Int32) (l3 : Int32) (l4 : Int32), k56 σ l1 l2 l3 l4 = some (r, τ) → Go x { frames := 3, cells := 0, slots := 0, locals := 70 } tX7_finds g 56 [.ref (ad 24), .int l1, .int l2, .int l3, .int l4, un_, un_] [] (HH g ad σ ++ ex) 0 0) (h65 : ∀ (σ : Sg) (l1 : Int32) (l2 : Int32) (l3 : Int32) (l4 : Int32) (l5 : Int32), k65 σ l1 l2 l3 l4 l5 = some (r, τ) → Go x { frames := 3, cells := 0, slots := 0, locals := 70 } tX7_finds g 65 [.ref (ad 24), .int l1, .int l2, .int l3, .int l4, .int l5, un_] [] (HH g ad σ ++ ex) 0 0) (h77 : ∀ (σ : Sg) (l1 : Int32) (l2 : Int32) (l3 : Int32) (l4 : Int32) (l5 : Int32) (l6 : Int32), k77 σ l1 l2 l3 l4 l5 l6 = some (r, τ) → Go x { frames := 3, cells := 0, slots := 0, locals := 70 } tX7_finds g 77 [.ref (ad 24), .int l1, .int l2, .int l3, .int l4, .int l5, .int l6] [] (HH g ad σ ++ ex) 0 0) (σ : Sg) (l1 : Int32) (l2 : Int32) (l3 : Int32) (l4 : Int32) (l5 : Int32) (l6 : Int32) (H : bX7_finds_77 F k45 k56 k65 k77 σ l1 l2 l3 l4 l5 l6 = some (r, τ)) : Go x { frames := 3, cells := 0, slots := 0, locals := 70 } tX7_finds g 77 [.ref (ad 24), .int l1, .int l2, .int l3, .int l4, .int l5, .int l6] [] (HH g ad σ ++ ex) 0 0 := by
  unfold bX7_finds_77 at H
  refine g_iload (q := 79) dX7_finds_77 rfl rfl ?_
  refine g_iload (q := 81) dX7_finds_79 rfl rfl ?_
  refine g_iconst (q := 82) (v := 2) dX7_finds_81 rfl (by decide) ?_
  refine g_icmp_ne (q := 85) (r := 90) dX7_finds_82 (by decide) rfl (fun c82 => ?_) (fun c82 => ?_)
  · replace H := (if_neg c82).symm.trans H
    refine g_iconst (q := 91) (v := 1) dX7_finds_90 rfl (by decide) ?_
    refine g_icmp_ge (q := 94) (r := 243) dX7_finds_91 (by decide) rfl (fun c91 => ?_) (fun c91 => ?_)
    · replace H := (if_pos c91).symm.trans H
      refine g_iinc (q := 246) (b := l5 + 1) (L' := [.ref (ad 24), .int l1, .int l2, .int l3, .int l4, .int (l5 + 1), .int l6]) dX7_finds_243 rfl rfl rfl (Nat.le_of_ble_eq_true rfl) rfl ?_
      refine g_goto (q := 65) dX7_finds_246 (by decide) ?_
      exact g_weak (L' := [.ref (ad 24), .int l1, .int l2, .int l3, .int l4, .int (l5 + 1), un_]) ⟨Or.inr rfl, Or.inr rfl, Or.inr rfl, Or.inr rfl, Or.inr rfl, Or.inr rfl, Or.inl rfl, trivial⟩ (h65 _ _ _ _ _ _ H)
    · replace H := (if_neg c91).symm.trans H
      refine g_aload_n (q := 95) (i := 0) dX7_finds_94 rfl rfl rfl ?_
      refine g_aload_n (q := 96) (i := 0) dX7_finds_95 rfl rfl rfl ?_
      refine g_get (q := 99) dX7_finds_96 rfl foX7_49 24 hc24 rfl ?_
      refine g_iload_n (q := 100) (i := 3) dX7_finds_99 rfl rfl rfl ?_
      obtain ⟨b100, H⟩ := of_chk H
      refine g_iald (q := 101) dX7_finds_100 rfl 37 hc37 b100 ?_
      refine g_iload_n (q := 102) (i := 1) dX7_finds_101 rfl rfl rfl ?_
      obtain ⟨r1, σ1, e1, H⟩ := of_bnd H
      refine g_callV (q := 105) (rest := []) dX7_finds_102 rfl cvX7_166 (ctX7_shows e1) rfl rfl ⟨Nat.le_of_ble_eq_true rfl, Nat.le_of_ble_eq_true rfl⟩ ⟨Nat.le_refl _, Nat.le_refl _⟩ (Nat.le_of_ble_eq_true rfl) 24 hc24 rfl (fun r0 M9 hp => ?_)
      obtain ⟨rfl, rfl⟩ := hp
      show Go x _ _ g 105 [.ref (ad 24), .int l1, .int l2, .int l3, .int l4, .int l5, .int l6] [] (HH g ad σ1 ++ ex) 0 0
      refine g_iload (q := 107) dX7_finds_105 rfl rfl ?_
      refine g_iconst (q := 108) (v := 2) dX7_finds_107 rfl (by decide) ?_
      refine g_icmp_ne (q := 111) (r := 122) dX7_finds_108 (by decide) rfl (fun c108 => ?_) (fun c108 => ?_)
      · replace H := (if_neg c108).symm.trans H
        exact g_weak (L' := [.ref (ad 24), .int l1, .int l2, .int l3, .int l4, .int l5, .int l6]) ⟨Or.inr rfl, Or.inr rfl, Or.inr rfl, Or.inr rfl, Or.inr rfl, Or.inr rfl, Or.inr rfl, trivial⟩ (wbX7_finds_122 (F := F) hX h45 h56 h65 h77 _ _ _ _ _ _ _ H)
      · replace H := (if_pos c108).symm.trans H
        refine g_aload_n (q := 112) (i := 0) dX7_finds_111 rfl rfl rfl ?_
        refine g_iload (q := 114) dX7_finds_112 rfl rfl ?_
        refine g_iload (q := 116) dX7_finds_114 rfl rfl ?_
        obtain ⟨r2, σ2, e2, H⟩ := of_bnd H
        refine g_callV (q := 119) (rest := []) dX7_finds_116 rfl cvX7_116 (ctX7_isAt e2) rfl rfl ⟨Nat.le_of_ble_eq_true rfl, Nat.le_of_ble_eq_true rfl⟩ ⟨Nat.le_refl _, Nat.le_refl _⟩ (Nat.le_of_ble_eq_true rfl) 24 hc24 rfl (fun r0 M9 hp => ?_)
        obtain ⟨rfl, rfl⟩ := hp
        show Go x _ _ g 119 [.ref (ad 24), .int l1, .int l2, .int l3, .int l4, .int l5, .int l6] [.int r2] (HH g ad σ2 ++ ex) 0 0
        refine g_if_eq (q := 122) (r := 237) dX7_finds_119 (by decide) rfl (fun c119 => ?_) (fun c119 => ?_)
        · replace H := (if_pos c119).symm.trans H
          refine g_iinc (q := 240) (b := l6 + 1) (L' := [.ref (ad 24), .int l1, .int l2, .int l3, .int l4, .int l5, .int (l6 + 1)]) dX7_finds_237 rfl rfl rfl (Nat.le_of_ble_eq_true rfl) rfl ?_
          refine g_goto (q := 77) dX7_finds_240 (by decide) ?_
          exact g_weak (L' := [.ref (ad 24), .int l1, .int l2, .int l3, .int l4, .int l5, .int (l6 + 1)]) ⟨Or.inr rfl, Or.inr rfl, Or.inr rfl, Or.inr rfl, Or.inr rfl, Or.inr rfl, Or.inr rfl, trivial⟩ (h77 _ _ _ _ _ _ _ H)
        · replace H := (if_neg c119).symm.trans H
          exact g_weak (L' := [.ref (ad 24), .int l1, .int l2, .int l3, .int l4, .int l5, .int l6]) ⟨Or.inr rfl, Or.inr rfl, Or.inr rfl, Or.inr rfl, Or.inr rfl, Or.inr rfl, Or.inr rfl, trivial⟩ (wbX7_finds_122 (F := F) hX h45 h56 h65 h77 _ _ _ _ _ _ _ H)
  · replace H := (if_pos c82).symm.trans H
    refine g_bipush (q := 87) (v := 18) dX7_finds_85 rfl (by decide) ?_
    refine g_goto (q := 91) dX7_finds_87 (by decide) ?_
    refine g_icmp_ge (q := 94) (r := 243) dX7_finds_91 (by decide) rfl (fun c91 => ?_) (fun c91 => ?_)
    · replace H := (if_pos c91).symm.trans H
      refine g_iinc (q := 246) (b := l5 + 1) (L' := [.ref (ad 24), .int l1, .int l2, .int l3, .int l4, .int (l5 + 1), .int l6]) dX7_finds_243 rfl rfl rfl (Nat.le_of_ble_eq_true rfl) rfl ?_
      refine g_goto (q := 65) dX7_finds_246 (by decide) ?_
      exact g_weak (L' := [.ref (ad 24), .int l1, .int l2, .int l3, .int l4, .int (l5 + 1), un_]) ⟨Or.inr rfl, Or.inr rfl, Or.inr rfl, Or.inr rfl, Or.inr rfl, Or.inr rfl, Or.inl rfl, trivial⟩ (h65 _ _ _ _ _ _ H)
    · replace H := (if_neg c91).symm.trans H
      refine g_aload_n (q := 95) (i := 0) dX7_finds_94 rfl rfl rfl ?_
      refine g_aload_n (q := 96) (i := 0) dX7_finds_95 rfl rfl rfl ?_
      refine g_get (q := 99) dX7_finds_96 rfl foX7_49 24 hc24 rfl ?_
      refine g_iload_n (q := 100) (i := 3) dX7_finds_99 rfl rfl rfl ?_
      obtain ⟨b100, H⟩ := of_chk H
      refine g_iald (q := 101) dX7_finds_100 rfl 37 hc37 b100 ?_
      refine g_iload_n (q := 102) (i := 1) dX7_finds_101 rfl rfl rfl ?_
      obtain ⟨r3, σ3, e3, H⟩ := of_bnd H
      refine g_callV (q := 105) (rest := []) dX7_finds_102 rfl cvX7_166 (ctX7_shows e3) rfl rfl ⟨Nat.le_of_ble_eq_true rfl, Nat.le_of_ble_eq_true rfl⟩ ⟨Nat.le_refl _, Nat.le_refl _⟩ (Nat.le_of_ble_eq_true rfl) 24 hc24 rfl (fun r0 M9 hp => ?_)
      obtain ⟨rfl, rfl⟩ := hp
      show Go x _ _ g 105 [.ref (ad 24), .int l1, .int l2, .int l3, .int l4, .int l5, .int l6] [] (HH g ad σ3 ++ ex) 0 0
      refine g_iload (q := 107) dX7_finds_105 rfl rfl ?_
      refine g_iconst (q := 108) (v := 2) dX7_finds_107 rfl (by decide) ?_
      refine g_icmp_ne (q := 111) (r := 122) dX7_finds_108 (by decide) rfl (fun c108 => ?_) (fun c108 => ?_)
      · replace H := (if_neg c108).symm.trans H
        exact g_weak (L' := [.ref (ad 24), .int l1, .int l2, .int l3, .int l4, .int l5, .int l6]) ⟨Or.inr rfl, Or.inr rfl, Or.inr rfl, Or.inr rfl, Or.inr rfl, Or.inr rfl, Or.inr rfl, trivial⟩ (wbX7_finds_122 (F := F) hX h45 h56 h65 h77 _ _ _ _ _ _ _ H)
      · replace H := (if_pos c108).symm.trans H
        refine g_aload_n (q := 112) (i := 0) dX7_finds_111 rfl rfl rfl ?_
        refine g_iload (q := 114) dX7_finds_112 rfl rfl ?_
        refine g_iload (q := 116) dX7_finds_114 rfl rfl ?_
        obtain ⟨r4, σ4, e4, H⟩ := of_bnd H
        refine g_callV (q := 119) (rest := []) dX7_finds_116 rfl cvX7_116 (ctX7_isAt e4) rfl rfl ⟨Nat.le_of_ble_eq_true rfl, Nat.le_of_ble_eq_true rfl⟩ ⟨Nat.le_refl _, Nat.le_refl _⟩ (Nat.le_of_ble_eq_true rfl) 24 hc24 rfl (fun r0 M9 hp => ?_)
        obtain ⟨rfl, rfl⟩ := hp
        show Go x _ _ g 119 [.ref (ad 24), .int l1, .int l2, .int l3, .int l4, .int l5, .int l6] [.int r4] (HH g ad σ4 ++ ex) 0 0
        refine g_if_eq (q := 122) (r := 237) dX7_finds_119 (by decide) rfl (fun c119 => ?_) (fun c119 => ?_)
        · replace H := (if_pos c119).symm.trans H
          refine g_iinc (q := 240) (b := l6 + 1) (L' := [.ref (ad 24), .int l1, .int l2, .int l3, .int l4, .int l5, .int (l6 + 1)]) dX7_finds_237 rfl rfl rfl (Nat.le_of_ble_eq_true rfl) rfl ?_
          refine g_goto (q := 77) dX7_finds_240 (by decide) ?_
          exact g_weak (L' := [.ref (ad 24), .int l1, .int l2, .int l3, .int l4, .int l5, .int (l6 + 1)]) ⟨Or.inr rfl, Or.inr rfl, Or.inr rfl, Or.inr rfl, Or.inr rfl, Or.inr rfl, Or.inr rfl, trivial⟩ (h77 _ _ _ _ _ _ _ H)
        · replace H := (if_neg c119).symm.trans H
          exact g_weak (L' := [.ref (ad 24), .int l1, .int l2, .int l3, .int l4, .int l5, .int l6]) ⟨Or.inr rfl, Or.inr rfl, Or.inr rfl, Or.inr rfl, Or.inr rfl, Or.inr rfl, Or.inr rfl, trivial⟩ (wbX7_finds_122 (F := F) hX h45 h56 h65 h77 _ _ _ _ _ _ _ H)
def fX7_finds_77 (F : Nat) (k45 : Sg → Int32 → Int32 → Int32 → Rs) (k56 : Sg → Int32 → Int32 → Int32 → Int32 → Rs) (k65 : Sg → Int32 → Int32 → Int32 → Int32 → Int32 → Rs) : Nat → Sg → Int32 → Int32 → Int32 → Int32 → Int32 → Int32 → Rs
  | 0 => fun _ _ _ _ _ _ _ => none
  | n + 1 => fun σ l1 l2 l3 l4 l5 l6 => bX7_finds_77 F k45 k56 k65 (fX7_finds_77 F k45 k56 k65 n) σ l1 l2 l3 l4 l5 l6
theorem wfX7_finds_77 {x : FX} {g : GX} {ad : Nat → Nat} {ex M0 : va_W} {r : Int32} {τ : Sg} {F : Nat} (hX : RX x g M0 (Pi_ r (HH g ad τ ++ ex)) 0 0) {k45 : Sg → Int32 → Int32 → Int32 → Rs} {k56 : Sg → Int32 → Int32 → Int32 → Int32 → Rs} {k65 : Sg → Int32 → Int32 → Int32 → Int32 → Int32 → Rs} (h45 : ∀ (σ : Sg) (l1 : Int32) (l2 : Int32) (l3 : Int32), k45 σ l1 l2 l3 = some (r, τ) → Go x { frames := 3, cells := 0, slots := 0, locals := 70 } tX7_finds g 45 [.ref (ad 24), .int l1, .int l2, .int l3, un_, un_, un_] [] (HH g ad σ ++ ex) 0 0) (h56 : ∀ (σ : Sg) (l1 : Int32) (l2 : Int32) (l3 : Int32) (l4 : Int32), k56 σ l1 l2 l3 l4 = some (r, τ) → Go x { frames := 3, cells := 0, slots := 0, locals := 70 } tX7_finds g 56 [.ref (ad 24), .int l1, .int l2, .int l3, .int l4, un_, un_] [] (HH g ad σ ++ ex) 0 0) (h65 : ∀ (σ : Sg) (l1 : Int32) (l2 : Int32) (l3 : Int32) (l4 : Int32) (l5 : Int32), k65 σ l1 l2 l3 l4 l5 = some (r, τ) → Go x { frames := 3, cells := 0, slots := 0, locals := 70 } tX7_finds g 65 [.ref (ad 24), .int l1, .int l2, .int l3, .int l4, .int l5, un_] [] (HH g ad σ ++ ex) 0 0) : ∀ (n : Nat) (σ : Sg) (l1 : Int32) (l2 : Int32) (l3 : Int32) (l4 : Int32) (l5 : Int32) (l6 : Int32), fX7_finds_77 F k45 k56 k65 n σ l1 l2 l3 l4 l5 l6 = some (r, τ) → Go x { frames := 3, cells := 0, slots := 0, locals := 70 } tX7_finds g 77 [.ref (ad 24), .int l1, .int l2, .int l3, .int l4, .int l5, .int l6] [] (HH g ad σ ++ ex) 0 0
  | 0, _, _, _, _, _, _, _, H => nomatch (show (none : Rs) = some _ from H)
  | n + 1, σ, l1, l2, l3, l4, l5, l6, H => wbX7_finds_77 (F := F) hX h45 h56 h65 (fun σ2 z1 z2 z3 z4 z5 z6 H2 => wfX7_finds_77 (F := F) hX h45 h56 h65 n σ2 z1 z2 z3 z4 z5 z6 H2) σ l1 l2 l3 l4 l5 l6 H
def bX7_finds_65 (F : Nat) (k45 : Sg → Int32 → Int32 → Int32 → Rs) (k56 : Sg → Int32 → Int32 → Int32 → Int32 → Rs) (k65 : Sg → Int32 → Int32 → Int32 → Int32 → Int32 → Rs) (σ : Sg) (l1 : Int32) (l2 : Int32) (l3 : Int32) (l4 : Int32) (l5 : Int32) : Rs := if (σ.1 21) ≤ l5 then (k56 σ (l1) (l2) (l3) (l4 + 1)) else (fX7_finds_77 F k45 k56 k65 F σ (l1) (l2) (l3) (l4) (l5) ((0 : Int32)))
set_option maxRecDepth 100000 in
set_option maxHeartbeats 4000000 in
theorem wbX7_finds_65 {x : FX} {g : GX} {ad : Nat → Nat} {ex M0 : va_W} {r : Int32} {τ : Sg} {F : Nat} (hX : RX x g M0 (Pi_ r (HH g ad τ ++ ex)) 0 0) {k45 : Sg → Int32 → Int32 → Int32 → Rs} {k56 : Sg → Int32 → Int32 → Int32 → Int32 → Rs} {k65 : Sg → Int32 → Int32 → Int32 → Int32 → Int32 → Rs} (h45 : ∀ (σ : Sg) (l1 : Int32) (l2 : Int32) (l3 : Int32), k45 σ l1 l2 l3 = some (r, τ) → Go x { frames := 3, cells := 0, slots := 0, locals := 70 } tX7_finds g 45 [.ref (ad 24), .int l1, .int l2, .int l3, un_, un_, un_] [] (HH g ad σ ++ ex) 0 0) (h56 : ∀ (σ : Sg) (l1 : Int32) (l2 : Int32) (l3 : Int32) (l4 : Int32), k56 σ l1 l2 l3 l4 = some (r, τ) → Go x { frames := 3, cells := 0, slots := 0, locals := 70 } tX7_finds g 56 [.ref (ad 24), .int l1, .int l2, .int l3, .int l4, un_, un_] [] (HH g ad σ ++ ex) 0 0) (h65 : ∀ (σ : Sg) (l1 : Int32) (l2 : Int32) (l3 : Int32) (l4 : Int32) (l5 : Int32), k65 σ l1 l2 l3 l4 l5 = some (r, τ) → Go x { frames := 3, cells := 0, slots := 0, locals := 70 } tX7_finds g 65 [.ref (ad 24), .int l1, .int l2, .int l3, .int l4, .int l5, un_] [] (HH g ad σ ++ ex) 0 0) (σ : Sg) (l1 : Int32) (l2 : Int32) (l3 : Int32) (l4 : Int32) (l5 : Int32) (H : bX7_finds_65 F k45 k56 k65 σ l1 l2 l3 l4 l5 = some (r, τ)) : Go x { frames := 3, cells := 0, slots := 0, locals := 70 } tX7_finds g 65 [.ref (ad 24), .int l1, .int l2, .int l3, .int l4, .int l5, un_] [] (HH g ad σ ++ ex) 0 0 := by
  unfold bX7_finds_65 at H
  refine g_iload (q := 67) dX7_finds_65 rfl rfl ?_
  refine g_aload_n (q := 68) (i := 0) dX7_finds_67 rfl rfl rfl ?_
  refine g_get (q := 71) dX7_finds_68 rfl foX7_68 24 hc24 rfl ?_
  refine g_icmp_ge (q := 74) (r := 249) dX7_finds_71 (by decide) rfl (fun c71 => ?_) (fun c71 => ?_)
  · replace H := (if_pos c71).symm.trans H
    refine g_iinc (q := 252) (b := l4 + 1) (L' := [.ref (ad 24), .int l1, .int l2, .int l3, .int (l4 + 1), .int l5, un_]) dX7_finds_249 rfl rfl rfl (Nat.le_of_ble_eq_true rfl) rfl ?_
    refine g_goto (q := 56) dX7_finds_252 (by decide) ?_
    exact g_weak (L' := [.ref (ad 24), .int l1, .int l2, .int l3, .int (l4 + 1), un_, un_]) ⟨Or.inr rfl, Or.inr rfl, Or.inr rfl, Or.inr rfl, Or.inr rfl, Or.inl rfl, Or.inl rfl, trivial⟩ (h56 _ _ _ _ _ H)
  · replace H := (if_neg c71).symm.trans H
    refine g_iconst (q := 75) (v := 0) dX7_finds_74 rfl (by decide) ?_
    refine g_istore (q := 77) (L' := [.ref (ad 24), .int l1, .int l2, .int l3, .int l4, .int l5, .int ((0 : Int32))]) dX7_finds_75 rfl (Nat.le_of_ble_eq_true rfl) rfl ?_
    exact g_weak (L' := [.ref (ad 24), .int l1, .int l2, .int l3, .int l4, .int l5, .int ((0 : Int32))]) ⟨Or.inr rfl, Or.inr rfl, Or.inr rfl, Or.inr rfl, Or.inr rfl, Or.inr rfl, Or.inr rfl, trivial⟩ (wfX7_finds_77 (F := F) hX h45 h56 h65 F _ _ _ _ _ _ _ H)
def fX7_finds_65 (F : Nat) (k45 : Sg → Int32 → Int32 → Int32 → Rs) (k56 : Sg → Int32 → Int32 → Int32 → Int32 → Rs) : Nat → Sg → Int32 → Int32 → Int32 → Int32 → Int32 → Rs
  | 0 => fun _ _ _ _ _ _ => none
  | n + 1 => fun σ l1 l2 l3 l4 l5 => bX7_finds_65 F k45 k56 (fX7_finds_65 F k45 k56 n) σ l1 l2 l3 l4 l5
theorem wfX7_finds_65 {x : FX} {g : GX} {ad : Nat → Nat} {ex M0 : va_W} {r : Int32} {τ : Sg} {F : Nat} (hX : RX x g M0 (Pi_ r (HH g ad τ ++ ex)) 0 0) {k45 : Sg → Int32 → Int32 → Int32 → Rs} {k56 : Sg → Int32 → Int32 → Int32 → Int32 → Rs} (h45 : ∀ (σ : Sg) (l1 : Int32) (l2 : Int32) (l3 : Int32), k45 σ l1 l2 l3 = some (r, τ) → Go x { frames := 3, cells := 0, slots := 0, locals := 70 } tX7_finds g 45 [.ref (ad 24), .int l1, .int l2, .int l3, un_, un_, un_] [] (HH g ad σ ++ ex) 0 0) (h56 : ∀ (σ : Sg) (l1 : Int32) (l2 : Int32) (l3 : Int32) (l4 : Int32), k56 σ l1 l2 l3 l4 = some (r, τ) → Go x { frames := 3, cells := 0, slots := 0, locals := 70 } tX7_finds g 56 [.ref (ad 24), .int l1, .int l2, .int l3, .int l4, un_, un_] [] (HH g ad σ ++ ex) 0 0) : ∀ (n : Nat) (σ : Sg) (l1 : Int32) (l2 : Int32) (l3 : Int32) (l4 : Int32) (l5 : Int32), fX7_finds_65 F k45 k56 n σ l1 l2 l3 l4 l5 = some (r, τ) → Go x { frames := 3, cells := 0, slots := 0, locals := 70 } tX7_finds g 65 [.ref (ad 24), .int l1, .int l2, .int l3, .int l4, .int l5, un_] [] (HH g ad σ ++ ex) 0 0
  | 0, _, _, _, _, _, _, H => nomatch (show (none : Rs) = some _ from H)
  | n + 1, σ, l1, l2, l3, l4, l5, H => wbX7_finds_65 (F := F) hX h45 h56 (fun σ2 z1 z2 z3 z4 z5 H2 => wfX7_finds_65 (F := F) hX h45 h56 n σ2 z1 z2 z3 z4 z5 H2) σ l1 l2 l3 l4 l5 H
def bX7_finds_56 (F : Nat) (k45 : Sg → Int32 → Int32 → Int32 → Rs) (k56 : Sg → Int32 → Int32 → Int32 → Int32 → Rs) (σ : Sg) (l1 : Int32) (l2 : Int32) (l3 : Int32) (l4 : Int32) : Rs := if (2 : Int32) < l4 then (k45 σ (l1) (l2) (l3 + 1)) else (fX7_finds_65 F k45 k56 F σ (l1) (l2) (l3) (l4) ((0 : Int32)))
set_option maxRecDepth 100000 in
set_option maxHeartbeats 4000000 in
theorem wbX7_finds_56 {x : FX} {g : GX} {ad : Nat → Nat} {ex M0 : va_W} {r : Int32} {τ : Sg} {F : Nat} (hX : RX x g M0 (Pi_ r (HH g ad τ ++ ex)) 0 0) {k45 : Sg → Int32 → Int32 → Int32 → Rs} {k56 : Sg → Int32 → Int32 → Int32 → Int32 → Rs} (h45 : ∀ (σ : Sg) (l1 : Int32) (l2 : Int32) (l3 : Int32), k45 σ l1 l2 l3 = some (r, τ) → Go x { frames := 3, cells := 0, slots := 0, locals := 70 } tX7_finds g 45 [.ref (ad 24), .int l1, .int l2, .int l3, un_, un_, un_] [] (HH g ad σ ++ ex) 0 0) (h56 : ∀ (σ : Sg) (l1 : Int32) (l2 : Int32) (l3 : Int32) (l4 : Int32), k56 σ l1 l2 l3 l4 = some (r, τ) → Go x { frames := 3, cells := 0, slots := 0, locals := 70 } tX7_finds g 56 [.ref (ad 24), .int l1, .int l2, .int l3, .int l4, un_, un_] [] (HH g ad σ ++ ex) 0 0) (σ : Sg) (l1 : Int32) (l2 : Int32) (l3 : Int32) (l4 : Int32) (H : bX7_finds_56 F k45 k56 σ l1 l2 l3 l4 = some (r, τ)) : Go x { frames := 3, cells := 0, slots := 0, locals := 70 } tX7_finds g 56 [.ref (ad 24), .int l1, .int l2, .int l3, .int l4, un_, un_] [] (HH g ad σ ++ ex) 0 0 := by
  unfold bX7_finds_56 at H
  refine g_iload (q := 58) dX7_finds_56 rfl rfl ?_
  refine g_iconst (q := 59) (v := 2) dX7_finds_58 rfl (by decide) ?_
  refine g_icmp_gt (q := 62) (r := 255) dX7_finds_59 (by decide) rfl (fun c59 => ?_) (fun c59 => ?_)
  · replace H := (if_pos c59).symm.trans H
    refine g_iinc (q := 258) (b := l3 + 1) (L' := [.ref (ad 24), .int l1, .int l2, .int (l3 + 1), .int l4, un_, un_]) dX7_finds_255 rfl rfl rfl (Nat.le_of_ble_eq_true rfl) rfl ?_
    refine g_goto (q := 45) dX7_finds_258 (by decide) ?_
    exact g_weak (L' := [.ref (ad 24), .int l1, .int l2, .int (l3 + 1), un_, un_, un_]) ⟨Or.inr rfl, Or.inr rfl, Or.inr rfl, Or.inr rfl, Or.inl rfl, Or.inl rfl, Or.inl rfl, trivial⟩ (h45 _ _ _ _ H)
  · replace H := (if_neg c59).symm.trans H
    refine g_iconst (q := 63) (v := 0) dX7_finds_62 rfl (by decide) ?_
    refine g_istore (q := 65) (L' := [.ref (ad 24), .int l1, .int l2, .int l3, .int l4, .int ((0 : Int32)), un_]) dX7_finds_63 rfl (Nat.le_of_ble_eq_true rfl) rfl ?_
    exact g_weak (L' := [.ref (ad 24), .int l1, .int l2, .int l3, .int l4, .int ((0 : Int32)), un_]) ⟨Or.inr rfl, Or.inr rfl, Or.inr rfl, Or.inr rfl, Or.inr rfl, Or.inr rfl, Or.inl rfl, trivial⟩ (wfX7_finds_65 (F := F) hX h45 h56 F _ _ _ _ _ _ H)
def fX7_finds_56 (F : Nat) (k45 : Sg → Int32 → Int32 → Int32 → Rs) : Nat → Sg → Int32 → Int32 → Int32 → Int32 → Rs
  | 0 => fun _ _ _ _ _ => none
  | n + 1 => fun σ l1 l2 l3 l4 => bX7_finds_56 F k45 (fX7_finds_56 F k45 n) σ l1 l2 l3 l4
theorem wfX7_finds_56 {x : FX} {g : GX} {ad : Nat → Nat} {ex M0 : va_W} {r : Int32} {τ : Sg} {F : Nat} (hX : RX x g M0 (Pi_ r (HH g ad τ ++ ex)) 0 0) {k45 : Sg → Int32 → Int32 → Int32 → Rs} (h45 : ∀ (σ : Sg) (l1 : Int32) (l2 : Int32) (l3 : Int32), k45 σ l1 l2 l3 = some (r, τ) → Go x { frames := 3, cells := 0, slots := 0, locals := 70 } tX7_finds g 45 [.ref (ad 24), .int l1, .int l2, .int l3, un_, un_, un_] [] (HH g ad σ ++ ex) 0 0) : ∀ (n : Nat) (σ : Sg) (l1 : Int32) (l2 : Int32) (l3 : Int32) (l4 : Int32), fX7_finds_56 F k45 n σ l1 l2 l3 l4 = some (r, τ) → Go x { frames := 3, cells := 0, slots := 0, locals := 70 } tX7_finds g 56 [.ref (ad 24), .int l1, .int l2, .int l3, .int l4, un_, un_] [] (HH g ad σ ++ ex) 0 0
  | 0, _, _, _, _, _, H => nomatch (show (none : Rs) = some _ from H)
  | n + 1, σ, l1, l2, l3, l4, H => wbX7_finds_56 (F := F) hX h45 (fun σ2 z1 z2 z3 z4 H2 => wfX7_finds_56 (F := F) hX h45 n σ2 z1 z2 z3 z4 H2) σ l1 l2 l3 l4 H
def bX7_finds_45 (F : Nat) (k45 : Sg → Int32 → Int32 → Int32 → Rs) (σ : Sg) (l1 : Int32) (l2 : Int32) (l3 : Int32) : Rs := if (σ.1 26) ≤ l3 then (some ((-1 : Int32), σ)) else (fX7_finds_56 F k45 F σ (l1) (l2) (l3) ((0 : Int32)))
set_option maxRecDepth 100000 in
set_option maxHeartbeats 4000000 in
theorem wbX7_finds_45 {x : FX} {g : GX} {ad : Nat → Nat} {ex M0 : va_W} {r : Int32} {τ : Sg} {F : Nat} (hX : RX x g M0 (Pi_ r (HH g ad τ ++ ex)) 0 0) {k45 : Sg → Int32 → Int32 → Int32 → Rs} (h45 : ∀ (σ : Sg) (l1 : Int32) (l2 : Int32) (l3 : Int32), k45 σ l1 l2 l3 = some (r, τ) → Go x { frames := 3, cells := 0, slots := 0, locals := 70 } tX7_finds g 45 [.ref (ad 24), .int l1, .int l2, .int l3, un_, un_, un_] [] (HH g ad σ ++ ex) 0 0) (σ : Sg) (l1 : Int32) (l2 : Int32) (l3 : Int32) (H : bX7_finds_45 F k45 σ l1 l2 l3 = some (r, τ)) : Go x { frames := 3, cells := 0, slots := 0, locals := 70 } tX7_finds g 45 [.ref (ad 24), .int l1, .int l2, .int l3, un_, un_, un_] [] (HH g ad σ ++ ex) 0 0 := by
  unfold bX7_finds_45 at H
  refine g_iload_n (q := 46) (i := 3) dX7_finds_45 rfl rfl rfl ?_
  refine g_aload_n (q := 47) (i := 0) dX7_finds_46 rfl rfl rfl ?_
  refine g_get (q := 50) dX7_finds_47 rfl foX7_159 24 hc24 rfl ?_
  refine g_icmp_ge (q := 53) (r := 261) dX7_finds_50 (by decide) rfl (fun c50 => ?_) (fun c50 => ?_)
  · replace H := (if_pos c50).symm.trans H
    refine g_iconst (q := 262) (v := -1) dX7_finds_261 rfl (by decide) ?_
    exact g_iret hX dX7_finds_262 rfl rfl (Nat.le_refl _) (Nat.le_refl _) (piOk H)
  · replace H := (if_neg c50).symm.trans H
    refine g_iconst (q := 54) (v := 0) dX7_finds_53 rfl (by decide) ?_
    refine g_istore (q := 56) (L' := [.ref (ad 24), .int l1, .int l2, .int l3, .int ((0 : Int32)), un_, un_]) dX7_finds_54 rfl (Nat.le_of_ble_eq_true rfl) rfl ?_
    exact g_weak (L' := [.ref (ad 24), .int l1, .int l2, .int l3, .int ((0 : Int32)), un_, un_]) ⟨Or.inr rfl, Or.inr rfl, Or.inr rfl, Or.inr rfl, Or.inr rfl, Or.inl rfl, Or.inl rfl, trivial⟩ (wfX7_finds_56 (F := F) hX h45 F _ _ _ _ _ H)
def fX7_finds_45 (F : Nat)  : Nat → Sg → Int32 → Int32 → Int32 → Rs
  | 0 => fun _ _ _ _ => none
  | n + 1 => fun σ l1 l2 l3 => bX7_finds_45 F  (fX7_finds_45 F  n) σ l1 l2 l3
theorem wfX7_finds_45 {x : FX} {g : GX} {ad : Nat → Nat} {ex M0 : va_W} {r : Int32} {τ : Sg} {F : Nat} (hX : RX x g M0 (Pi_ r (HH g ad τ ++ ex)) 0 0)   : ∀ (n : Nat) (σ : Sg) (l1 : Int32) (l2 : Int32) (l3 : Int32), fX7_finds_45 F  n σ l1 l2 l3 = some (r, τ) → Go x { frames := 3, cells := 0, slots := 0, locals := 70 } tX7_finds g 45 [.ref (ad 24), .int l1, .int l2, .int l3, un_, un_, un_] [] (HH g ad σ ++ ex) 0 0
  | 0, _, _, _, _, H => nomatch (show (none : Rs) = some _ from H)
  | n + 1, σ, l1, l2, l3, H => wbX7_finds_45 (F := F) hX  (fun σ2 z1 z2 z3 H2 => wfX7_finds_45 (F := F) hX  n σ2 z1 z2 z3 H2) σ l1 l2 l3 H
def bX7_finds_2 (F : Nat) (k2 : Sg → Int32 → Int32 → Int32 → Rs) (σ : Sg) (l1 : Int32) (l2 : Int32) (l3 : Int32) : Rs := if (524288 : Int32) ≤ l3 then (ls_ (sv σ 26 (0 : Int32)) fun σ1 => (fX7_begins F σ1).bind fun q2 => (fun (r2 : Int32) (σ2 : Sg) => ls_ (sv σ2 27 (0 : Int32)) fun σ3 => (fX7_meets F σ3 l1 ((-1 : Int32)) ((0 : Int32))).bind fun q4 => (fun (r4 : Int32) (σ4 : Sg) => fX7_finds_45 F F σ4 (l1) (l2) ((0 : Int32))) q4.1 q4.2) q2.1 q2.2) else (if ib l3 524288 then (ls_ (sa σ 36 l3.toNatClampNeg (0 : Int32)) fun σ5 => k2 σ5 (l1) (l2) (l3 + 1)) else none)
set_option maxRecDepth 100000 in
set_option maxHeartbeats 4000000 in
theorem wbX7_finds_2 {x : FX} {g : GX} {ad : Nat → Nat} {ex M0 : va_W} {r : Int32} {τ : Sg} {F : Nat} (hX : RX x g M0 (Pi_ r (HH g ad τ ++ ex)) 0 0) {k2 : Sg → Int32 → Int32 → Int32 → Rs} (h2 : ∀ (σ : Sg) (l1 : Int32) (l2 : Int32) (l3 : Int32), k2 σ l1 l2 l3 = some (r, τ) → Go x { frames := 3, cells := 0, slots := 0, locals := 70 } tX7_finds g 2 [.ref (ad 24), .int l1, .int l2, .int l3, un_, un_, un_] [] (HH g ad σ ++ ex) 0 0) (σ : Sg) (l1 : Int32) (l2 : Int32) (l3 : Int32) (H : bX7_finds_2 F k2 σ l1 l2 l3 = some (r, τ)) : Go x { frames := 3, cells := 0, slots := 0, locals := 70 } tX7_finds g 2 [.ref (ad 24), .int l1, .int l2, .int l3, un_, un_, un_] [] (HH g ad σ ++ ex) 0 0 := by
  unfold bX7_finds_2 at H
  refine g_iload_n (q := 3) (i := 3) dX7_finds_2 rfl rfl rfl ?_
  refine g_ldc (q := 5) dX7_finds_3 rfl kcX7_44 ?_
  refine g_icmp_ge (q := 8) (r := 21) dX7_finds_5 (by decide) rfl (fun c5 => ?_) (fun c5 => ?_)
  · replace H := (if_pos c5).symm.trans H
    refine g_aload_n (q := 22) (i := 0) dX7_finds_21 rfl rfl rfl ?_
    refine g_iconst (q := 23) (v := 0) dX7_finds_22 rfl (by decide) ?_
    obtain ⟨σ1, n1, H⟩ := of_ls H
    refine g_put (q := 26) dX7_finds_23 rfl (fpX7_159 _) 24 hc24 rfl rfl (Nat.le_of_ble_eq_true rfl) (hs26e n1) ?_
    refine g_aload_n (q := 27) (i := 0) dX7_finds_26 rfl rfl rfl ?_
    obtain ⟨r2, σ2, e2, H⟩ := of_bnd H
    refine g_callV (q := 30) (rest := []) dX7_finds_27 rfl cvX7_110 (ctX7_begins e2) rfl rfl ⟨Nat.le_of_ble_eq_true rfl, Nat.le_of_ble_eq_true rfl⟩ ⟨Nat.le_refl _, Nat.le_refl _⟩ (Nat.le_of_ble_eq_true rfl) 24 hc24 rfl (fun r0 M9 hp => ?_)
    obtain ⟨rfl, rfl⟩ := hp
    show Go x _ _ g 30 [.ref (ad 24), .int l1, .int l2, .int l3, un_, un_, un_] [] (HH g ad σ2 ++ ex) 0 0
    refine g_aload_n (q := 31) (i := 0) dX7_finds_30 rfl rfl rfl ?_
    refine g_iconst (q := 32) (v := 0) dX7_finds_31 rfl (by decide) ?_
    obtain ⟨σ3, n3, H⟩ := of_ls H
    refine g_put (q := 35) dX7_finds_32 rfl (fpX7_150 _) 24 hc24 rfl rfl (Nat.le_of_ble_eq_true rfl) (hs27e n3) ?_
    refine g_aload_n (q := 36) (i := 0) dX7_finds_35 rfl rfl rfl ?_
    refine g_iload_n (q := 37) (i := 1) dX7_finds_36 rfl rfl rfl ?_
    refine g_iconst (q := 38) (v := -1) dX7_finds_37 rfl (by decide) ?_
    refine g_iconst (q := 39) (v := 0) dX7_finds_38 rfl (by decide) ?_
    obtain ⟨r4, σ4, e4, H⟩ := of_bnd H
    refine g_callV (q := 42) (rest := []) dX7_finds_39 rfl cvX7_162 (ctX7_meets e4) rfl rfl ⟨Nat.le_of_ble_eq_true rfl, Nat.le_of_ble_eq_true rfl⟩ ⟨Nat.le_refl _, Nat.le_refl _⟩ (Nat.le_of_ble_eq_true rfl) 24 hc24 rfl (fun r0 M9 hp => ?_)
    obtain ⟨rfl, rfl⟩ := hp
    show Go x _ _ g 42 [.ref (ad 24), .int l1, .int l2, .int l3, un_, un_, un_] [.int r4] (HH g ad σ4 ++ ex) 0 0
    refine g_pop (q := 43) dX7_finds_42 rfl rfl ?_
    refine g_iconst (q := 44) (v := 0) dX7_finds_43 rfl (by decide) ?_
    refine g_istore_n (q := 45) (L' := [.ref (ad 24), .int l1, .int l2, .int ((0 : Int32)), un_, un_, un_]) (i := 3) dX7_finds_44 rfl rfl (Nat.le_of_ble_eq_true rfl) rfl ?_
    exact g_weak (L' := [.ref (ad 24), .int l1, .int l2, .int ((0 : Int32)), un_, un_, un_]) ⟨Or.inr rfl, Or.inr rfl, Or.inr rfl, Or.inr rfl, Or.inl rfl, Or.inl rfl, Or.inl rfl, trivial⟩ (wfX7_finds_45 (F := F) hX  F _ _ _ _ H)
  · replace H := (if_neg c5).symm.trans H
    refine g_aload_n (q := 9) (i := 0) dX7_finds_8 rfl rfl rfl ?_
    refine g_get (q := 12) dX7_finds_9 rfl foX7_45 24 hc24 rfl ?_
    refine g_iload_n (q := 13) (i := 3) dX7_finds_12 rfl rfl rfl ?_
    refine g_iconst (q := 14) (v := 0) dX7_finds_13 rfl (by decide) ?_
    obtain ⟨b14, H⟩ := of_chk H
    obtain ⟨σ5, n5, H⟩ := of_ls H
    refine g_iast (q := 15) dX7_finds_14 rfl 36 hc36 b14 (ha36e n5) ?_
    refine g_iinc (q := 18) (b := l3 + 1) (L' := [.ref (ad 24), .int l1, .int l2, .int (l3 + 1), un_, un_, un_]) dX7_finds_15 rfl rfl rfl (Nat.le_of_ble_eq_true rfl) rfl ?_
    refine g_goto (q := 2) dX7_finds_18 (by decide) ?_
    exact g_weak (L' := [.ref (ad 24), .int l1, .int l2, .int (l3 + 1), un_, un_, un_]) ⟨Or.inr rfl, Or.inr rfl, Or.inr rfl, Or.inr rfl, Or.inl rfl, Or.inl rfl, Or.inl rfl, trivial⟩ (h2 _ _ _ _ H)
def fX7_finds_2 (F : Nat)  : Nat → Sg → Int32 → Int32 → Int32 → Rs
  | 0 => fun _ _ _ _ => none
  | n + 1 => fun σ l1 l2 l3 => bX7_finds_2 F  (fX7_finds_2 F  n) σ l1 l2 l3
theorem wfX7_finds_2 {x : FX} {g : GX} {ad : Nat → Nat} {ex M0 : va_W} {r : Int32} {τ : Sg} {F : Nat} (hX : RX x g M0 (Pi_ r (HH g ad τ ++ ex)) 0 0)   : ∀ (n : Nat) (σ : Sg) (l1 : Int32) (l2 : Int32) (l3 : Int32), fX7_finds_2 F  n σ l1 l2 l3 = some (r, τ) → Go x { frames := 3, cells := 0, slots := 0, locals := 70 } tX7_finds g 2 [.ref (ad 24), .int l1, .int l2, .int l3, un_, un_, un_] [] (HH g ad σ ++ ex) 0 0
  | 0, _, _, _, _, H => nomatch (show (none : Rs) = some _ from H)
  | n + 1, σ, l1, l2, l3, H => wbX7_finds_2 (F := F) hX  (fun σ2 z1 z2 z3 H2 => wfX7_finds_2 (F := F) hX  n σ2 z1 z2 z3 H2) σ l1 l2 l3 H
def fX7_finds (F : Nat) (σ : Sg) (l1 : Int32) (l2 : Int32) : Rs := fX7_finds_2 F F σ (l1) (l2) ((0 : Int32))
set_option maxRecDepth 100000 in
set_option maxHeartbeats 4000000 in
theorem ctX7_finds {l : Launch} {g : GX} {ad : Nat → Nat} {ex : va_W} {r : Int32} {τ σ : Sg} {F : Nat} {l1 : Int32} {l2 : Int32} (H : fX7_finds F σ l1 l2 = some (r, τ)) : Ct l g yX7_finds tX7_finds 3 70 0 0 [.ref (ad 24), .int l1, .int l2] (HH g ad σ ++ ex) (Pi_ r (HH g ad τ ++ ex)) := by
  refine Ct.of (L := [.ref (ad 24), .int l1, .int l2, un_, un_, un_, un_]) (by decide +kernel) rfl rfl rfl (Nat.le_of_ble_eq_true rfl) rfl (fun x _ hX => ?_)
  unfold fX7_finds at H
  refine g_iconst (q := 1) (v := 0) dX7_finds_0 rfl (by decide) ?_
  refine g_istore_n (q := 2) (L' := [.ref (ad 24), .int l1, .int l2, .int ((0 : Int32)), un_, un_, un_]) (i := 3) dX7_finds_1 rfl rfl (Nat.le_of_ble_eq_true rfl) rfl ?_
  exact g_weak (L' := [.ref (ad 24), .int l1, .int l2, .int ((0 : Int32)), un_, un_, un_]) ⟨Or.inr rfl, Or.inr rfl, Or.inr rfl, Or.inr rfl, Or.inl rfl, Or.inl rfl, Or.inl rfl, trivial⟩ (wfX7_finds_2 (F := F) hX  F _ _ _ _ H)
def fX7_isSmall (F : Nat) (σ : Sg) (l1 : Int32) : Rs := if l1 < (0 : Int32) then (some ((0 : Int32), σ)) else (if (2 : Int32) < l1 then (some ((0 : Int32), σ)) else (if (σ.1 21) ≤ (0 : Int32) then (some ((0 : Int32), σ)) else (if (6 : Int32) < (σ.1 21) then (some ((0 : Int32), σ)) else ((fX7_passages F σ).bind fun q1 => (fun (r1 : Int32) (σ1 : Sg) => if (8 : Int32) < r1 then (some ((0 : Int32), σ1)) else (some ((1 : Int32), σ1))) q1.1 q1.2))))
set_option maxRecDepth 100000 in
set_option maxHeartbeats 4000000 in
theorem ctX7_isSmall {l : Launch} {g : GX} {ad : Nat → Nat} {ex : va_W} {r : Int32} {τ σ : Sg} {F : Nat} {l1 : Int32} (H : fX7_isSmall F σ l1 = some (r, τ)) : Ct l g yX7_isSmall tX7_isSmall 1 22 0 0 [.ref (ad 24), .int l1] (HH g ad σ ++ ex) (Pi_ r (HH g ad τ ++ ex)) := by
  refine Ct.of (L := [.ref (ad 24), .int l1]) (by decide +kernel) rfl rfl rfl (Nat.le_of_ble_eq_true rfl) rfl (fun x _ hX => ?_)
  unfold fX7_isSmall at H
  refine g_iload_n (q := 1) (i := 1) dX7_isSmall_0 rfl rfl rfl ?_
  refine g_if_lt (q := 4) (r := 38) dX7_isSmall_1 (by decide) rfl (fun c1 => ?_) (fun c1 => ?_)
  · replace H := (if_pos c1).symm.trans H
    refine g_iconst (q := 39) (v := 0) dX7_isSmall_38 rfl (by decide) ?_
    exact g_iret hX dX7_isSmall_39 rfl rfl (Nat.le_refl _) (Nat.le_refl _) (piOk H)
  · replace H := (if_neg c1).symm.trans H
    refine g_iload_n (q := 5) (i := 1) dX7_isSmall_4 rfl rfl rfl ?_
    refine g_iconst (q := 6) (v := 2) dX7_isSmall_5 rfl (by decide) ?_
    refine g_icmp_gt (q := 9) (r := 38) dX7_isSmall_6 (by decide) rfl (fun c6 => ?_) (fun c6 => ?_)
    · replace H := (if_pos c6).symm.trans H
      refine g_iconst (q := 39) (v := 0) dX7_isSmall_38 rfl (by decide) ?_
      exact g_iret hX dX7_isSmall_39 rfl rfl (Nat.le_refl _) (Nat.le_refl _) (piOk H)
    · replace H := (if_neg c6).symm.trans H
      refine g_aload_n (q := 10) (i := 0) dX7_isSmall_9 rfl rfl rfl ?_
      refine g_get (q := 13) dX7_isSmall_10 rfl foX7_68 24 hc24 rfl ?_
      refine g_if_le (q := 16) (r := 38) dX7_isSmall_13 (by decide) rfl (fun c13 => ?_) (fun c13 => ?_)
      · replace H := (if_pos c13).symm.trans H
        refine g_iconst (q := 39) (v := 0) dX7_isSmall_38 rfl (by decide) ?_
        exact g_iret hX dX7_isSmall_39 rfl rfl (Nat.le_refl _) (Nat.le_refl _) (piOk H)
      · replace H := (if_neg c13).symm.trans H
        refine g_aload_n (q := 17) (i := 0) dX7_isSmall_16 rfl rfl rfl ?_
        refine g_get (q := 20) dX7_isSmall_17 rfl foX7_68 24 hc24 rfl ?_
        refine g_bipush (q := 22) (v := 6) dX7_isSmall_20 rfl (by decide) ?_
        refine g_icmp_gt (q := 25) (r := 38) dX7_isSmall_22 (by decide) rfl (fun c22 => ?_) (fun c22 => ?_)
        · replace H := (if_pos c22).symm.trans H
          refine g_iconst (q := 39) (v := 0) dX7_isSmall_38 rfl (by decide) ?_
          exact g_iret hX dX7_isSmall_39 rfl rfl (Nat.le_refl _) (Nat.le_refl _) (piOk H)
        · replace H := (if_neg c22).symm.trans H
          refine g_aload_n (q := 26) (i := 0) dX7_isSmall_25 rfl rfl rfl ?_
          obtain ⟨r1, σ1, e1, H⟩ := of_bnd H
          refine g_callV (q := 29) (rest := []) dX7_isSmall_26 rfl cvX7_138 (ctX7_passages e1) rfl rfl ⟨Nat.le_of_ble_eq_true rfl, Nat.le_of_ble_eq_true rfl⟩ ⟨Nat.le_refl _, Nat.le_refl _⟩ (Nat.le_of_ble_eq_true rfl) 24 hc24 rfl (fun r0 M9 hp => ?_)
          obtain ⟨rfl, rfl⟩ := hp
          show Go x _ _ g 29 [.ref (ad 24), .int l1] [.int r1] (HH g ad σ1 ++ ex) 0 0
          refine g_bipush (q := 31) (v := 8) dX7_isSmall_29 rfl (by decide) ?_
          refine g_icmp_gt (q := 34) (r := 38) dX7_isSmall_31 (by decide) rfl (fun c31 => ?_) (fun c31 => ?_)
          · replace H := (if_pos c31).symm.trans H
            refine g_iconst (q := 39) (v := 0) dX7_isSmall_38 rfl (by decide) ?_
            exact g_iret hX dX7_isSmall_39 rfl rfl (Nat.le_refl _) (Nat.le_refl _) (piOk H)
          · replace H := (if_neg c31).symm.trans H
            refine g_iconst (q := 35) (v := 1) dX7_isSmall_34 rfl (by decide) ?_
            refine g_goto (q := 39) dX7_isSmall_35 (by decide) ?_
            exact g_iret hX dX7_isSmall_39 rfl rfl (Nat.le_refl _) (Nat.le_refl _) (piOk H)
def bX7_fewest_87 (F : Nat) (k17 : Sg → Int32 → Int32 → Rs) (k87 : Sg → Int32 → Int32 → Int32 → Rs) (σ : Sg) (l2 : Int32) (l4 : Int32) (l5 : Int32) : Rs := if ib l5 262144 then (if (σ.2.1 38 l5.toNatClampNeg) = (-1 : Int32) then (some (l2, σ)) else (li_ (l4 - (1 : Int32)) fun v1 => if ib l5 262144 then (if ib v1 600 then (ls_ (sa σ 40 v1.toNatClampNeg (σ.2.1 39 l5.toNatClampNeg)) fun σ2 => if ib l5 262144 then (li_ (σ2.2.1 38 l5.toNatClampNeg) fun v3 => k87 σ2 (l2) (v1) (v3)) else none) else none) else none)) else none
set_option maxRecDepth 100000 in
set_option maxHeartbeats 4000000 in
theorem wbX7_fewest_87 {x : FX} {g : GX} {ad : Nat → Nat} {ex M0 : va_W} {r : Int32} {τ : Sg} {F : Nat} (hX : RX x g M0 (Pi_ r (HH g ad τ ++ ex)) 0 0) {k17 : Sg → Int32 → Int32 → Rs} {k87 : Sg → Int32 → Int32 → Int32 → Rs} (h17 : ∀ (σ : Sg) (l1 : Int32) (l2 : Int32), k17 σ l1 l2 = some (r, τ) → Go x { frames := 4, cells := 0, slots := 0, locals := 96 } tX7_fewest g 17 [.ref (ad 24), .int l1, .int l2, un_, un_, un_] [] (HH g ad σ ++ ex) 0 0) (h87 : ∀ (σ : Sg) (l2 : Int32) (l4 : Int32) (l5 : Int32), k87 σ l2 l4 l5 = some (r, τ) → Go x { frames := 4, cells := 0, slots := 0, locals := 96 } tX7_fewest g 87 [.ref (ad 24), un_, .int l2, un_, .int l4, .int l5] [] (HH g ad σ ++ ex) 0 0) (σ : Sg) (l2 : Int32) (l4 : Int32) (l5 : Int32) (H : bX7_fewest_87 F k17 k87 σ l2 l4 l5 = some (r, τ)) : Go x { frames := 4, cells := 0, slots := 0, locals := 96 } tX7_fewest g 87 [.ref (ad 24), un_, .int l2, un_, .int l4, .int l5] [] (HH g ad σ ++ ex) 0 0 := by
  unfold bX7_fewest_87 at H
  refine g_aload_n (q := 88) (i := 0) dX7_fewest_87 rfl rfl rfl ?_
  refine g_get (q := 91) dX7_fewest_88 rfl foX7_52 24 hc24 rfl ?_
  refine g_iload (q := 93) dX7_fewest_91 rfl rfl ?_
  obtain ⟨b93, H⟩ := of_chk H
  refine g_iald (q := 94) dX7_fewest_93 rfl 38 hc38 b93 ?_
  refine g_iconst (q := 95) (v := -1) dX7_fewest_94 rfl (by decide) ?_
  refine g_icmp_eq (q := 98) (r := 130) dX7_fewest_95 (by decide) rfl (fun c95 => ?_) (fun c95 => ?_)
  · replace H := (if_pos c95).symm.trans H
    refine g_iload_n (q := 131) (i := 2) dX7_fewest_130 rfl rfl rfl ?_
    exact g_iret hX dX7_fewest_131 rfl rfl (Nat.le_refl _) (Nat.le_refl _) (piOk H)
  · replace H := (if_neg c95).symm.trans H
    refine g_iload (q := 100) dX7_fewest_98 rfl rfl ?_
    refine g_iconst (q := 101) (v := 1) dX7_fewest_100 rfl (by decide) ?_
    refine g_isub (q := 102) dX7_fewest_101 rfl ?_
    obtain ⟨v1, n1, H⟩ := of_li H
    refine g_name n1 ?_
    refine g_istore (q := 104) (L' := [.ref (ad 24), un_, .int l2, un_, .int v1, .int l5]) dX7_fewest_102 rfl (Nat.le_of_ble_eq_true rfl) rfl ?_
    refine g_aload_n (q := 105) (i := 0) dX7_fewest_104 rfl rfl rfl ?_
    refine g_get (q := 108) dX7_fewest_105 rfl foX7_62 24 hc24 rfl ?_
    refine g_iload (q := 110) dX7_fewest_108 rfl rfl ?_
    refine g_aload_n (q := 111) (i := 0) dX7_fewest_110 rfl rfl rfl ?_
    refine g_get (q := 114) dX7_fewest_111 rfl foX7_55 24 hc24 rfl ?_
    refine g_iload (q := 116) dX7_fewest_114 rfl rfl ?_
    obtain ⟨b116, H⟩ := of_chk H
    refine g_iald (q := 117) dX7_fewest_116 rfl 39 hc39 b116 ?_
    obtain ⟨b117, H⟩ := of_chk H
    obtain ⟨σ2, n2, H⟩ := of_ls H
    refine g_iast (q := 118) dX7_fewest_117 rfl 40 hc40 b117 (ha40e n2) ?_
    refine g_aload_n (q := 119) (i := 0) dX7_fewest_118 rfl rfl rfl ?_
    refine g_get (q := 122) dX7_fewest_119 rfl foX7_52 24 hc24 rfl ?_
    refine g_iload (q := 124) dX7_fewest_122 rfl rfl ?_
    obtain ⟨b124, H⟩ := of_chk H
    refine g_iald (q := 125) dX7_fewest_124 rfl 38 hc38 b124 ?_
    obtain ⟨v3, n3, H⟩ := of_li H
    refine g_name n3 ?_
    refine g_istore (q := 127) (L' := [.ref (ad 24), un_, .int l2, un_, .int v1, .int v3]) dX7_fewest_125 rfl (Nat.le_of_ble_eq_true rfl) rfl ?_
    refine g_goto (q := 87) dX7_fewest_127 (by decide) ?_
    exact g_weak (L' := [.ref (ad 24), un_, .int l2, un_, .int v1, .int v3]) ⟨Or.inr rfl, Or.inl rfl, Or.inr rfl, Or.inl rfl, Or.inr rfl, Or.inr rfl, trivial⟩ (h87 _ _ _ _ H)
def fX7_fewest_87 (F : Nat) (k17 : Sg → Int32 → Int32 → Rs) : Nat → Sg → Int32 → Int32 → Int32 → Rs
  | 0 => fun _ _ _ _ => none
  | n + 1 => fun σ l2 l4 l5 => bX7_fewest_87 F k17 (fX7_fewest_87 F k17 n) σ l2 l4 l5
theorem wfX7_fewest_87 {x : FX} {g : GX} {ad : Nat → Nat} {ex M0 : va_W} {r : Int32} {τ : Sg} {F : Nat} (hX : RX x g M0 (Pi_ r (HH g ad τ ++ ex)) 0 0) {k17 : Sg → Int32 → Int32 → Rs} (h17 : ∀ (σ : Sg) (l1 : Int32) (l2 : Int32), k17 σ l1 l2 = some (r, τ) → Go x { frames := 4, cells := 0, slots := 0, locals := 96 } tX7_fewest g 17 [.ref (ad 24), .int l1, .int l2, un_, un_, un_] [] (HH g ad σ ++ ex) 0 0) : ∀ (n : Nat) (σ : Sg) (l2 : Int32) (l4 : Int32) (l5 : Int32), fX7_fewest_87 F k17 n σ l2 l4 l5 = some (r, τ) → Go x { frames := 4, cells := 0, slots := 0, locals := 96 } tX7_fewest g 87 [.ref (ad 24), un_, .int l2, un_, .int l4, .int l5] [] (HH g ad σ ++ ex) 0 0
  | 0, _, _, _, _, H => nomatch (show (none : Rs) = some _ from H)
  | n + 1, σ, l2, l4, l5, H => wbX7_fewest_87 (F := F) hX h17 (fun σ2 z2 z4 z5 H2 => wfX7_fewest_87 (F := F) hX h17 n σ2 z2 z4 z5 H2) σ l2 l4 l5 H
def bX7_fewest_45 (F : Nat) (k17 : Sg → Int32 → Int32 → Rs) (k45 : Sg → Int32 → Int32 → Int32 → Rs) (σ : Sg) (l2 : Int32) (l3 : Int32) (l4 : Int32) : Rs := if ib l4 262144 then (if (σ.2.1 38 l4.toNatClampNeg) = (-1 : Int32) then (fX7_fewest_87 F k17 F σ (l2) (σ.1 28) (l3)) else (ls_ (sv σ 28 ((σ.1 28) + (1 : Int32))) fun σ1 => if ib l4 262144 then (li_ (σ1.2.1 38 l4.toNatClampNeg) fun v2 => k45 σ1 (l2) (l3) (v2)) else none)) else none
set_option maxRecDepth 100000 in
set_option maxHeartbeats 4000000 in
theorem wbX7_fewest_45 {x : FX} {g : GX} {ad : Nat → Nat} {ex M0 : va_W} {r : Int32} {τ : Sg} {F : Nat} (hX : RX x g M0 (Pi_ r (HH g ad τ ++ ex)) 0 0) {k17 : Sg → Int32 → Int32 → Rs} {k45 : Sg → Int32 → Int32 → Int32 → Rs} (h17 : ∀ (σ : Sg) (l1 : Int32) (l2 : Int32), k17 σ l1 l2 = some (r, τ) → Go x { frames := 4, cells := 0, slots := 0, locals := 96 } tX7_fewest g 17 [.ref (ad 24), .int l1, .int l2, un_, un_, un_] [] (HH g ad σ ++ ex) 0 0) (h45 : ∀ (σ : Sg) (l2 : Int32) (l3 : Int32) (l4 : Int32), k45 σ l2 l3 l4 = some (r, τ) → Go x { frames := 4, cells := 0, slots := 0, locals := 96 } tX7_fewest g 45 [.ref (ad 24), un_, .int l2, .int l3, .int l4, un_] [] (HH g ad σ ++ ex) 0 0) (σ : Sg) (l2 : Int32) (l3 : Int32) (l4 : Int32) (H : bX7_fewest_45 F k17 k45 σ l2 l3 l4 = some (r, τ)) : Go x { frames := 4, cells := 0, slots := 0, locals := 96 } tX7_fewest g 45 [.ref (ad 24), un_, .int l2, .int l3, .int l4, un_] [] (HH g ad σ ++ ex) 0 0 := by
  unfold bX7_fewest_45 at H
  refine g_aload_n (q := 46) (i := 0) dX7_fewest_45 rfl rfl rfl ?_
  refine g_get (q := 49) dX7_fewest_46 rfl foX7_52 24 hc24 rfl ?_
  refine g_iload (q := 51) dX7_fewest_49 rfl rfl ?_
  obtain ⟨b51, H⟩ := of_chk H
  refine g_iald (q := 52) dX7_fewest_51 rfl 38 hc38 b51 ?_
  refine g_iconst (q := 53) (v := -1) dX7_fewest_52 rfl (by decide) ?_
  refine g_icmp_eq (q := 56) (r := 78) dX7_fewest_53 (by decide) rfl (fun c53 => ?_) (fun c53 => ?_)
  · replace H := (if_pos c53).symm.trans H
    refine g_aload_n (q := 79) (i := 0) dX7_fewest_78 rfl rfl rfl ?_
    refine g_get (q := 82) dX7_fewest_79 rfl foX7_58 24 hc24 rfl ?_
    refine g_istore (q := 84) (L' := [.ref (ad 24), un_, .int l2, .int l3, .int (σ.1 28), un_]) dX7_fewest_82 rfl (Nat.le_of_ble_eq_true rfl) rfl ?_
    refine g_iload_n (q := 85) (i := 3) dX7_fewest_84 rfl rfl rfl ?_
    refine g_istore (q := 87) (L' := [.ref (ad 24), un_, .int l2, .int l3, .int (σ.1 28), .int l3]) dX7_fewest_85 rfl (Nat.le_of_ble_eq_true rfl) rfl ?_
    exact g_weak (L' := [.ref (ad 24), un_, .int l2, un_, .int (σ.1 28), .int l3]) ⟨Or.inr rfl, Or.inl rfl, Or.inr rfl, Or.inl rfl, Or.inr rfl, Or.inr rfl, trivial⟩ (wfX7_fewest_87 (F := F) hX h17 F _ _ _ _ H)
  · replace H := (if_neg c53).symm.trans H
    refine g_aload_n (q := 57) (i := 0) dX7_fewest_56 rfl rfl rfl ?_
    refine g_aload_n (q := 58) (i := 0) dX7_fewest_57 rfl rfl rfl ?_
    refine g_get (q := 61) dX7_fewest_58 rfl foX7_58 24 hc24 rfl ?_
    refine g_iconst (q := 62) (v := 1) dX7_fewest_61 rfl (by decide) ?_
    refine g_iadd (q := 63) dX7_fewest_62 rfl ?_
    obtain ⟨σ1, n1, H⟩ := of_ls H
    refine g_put (q := 66) dX7_fewest_63 rfl (fpX7_58 _) 24 hc24 rfl rfl (Nat.le_of_ble_eq_true rfl) (hs28e n1) ?_
    refine g_aload_n (q := 67) (i := 0) dX7_fewest_66 rfl rfl rfl ?_
    refine g_get (q := 70) dX7_fewest_67 rfl foX7_52 24 hc24 rfl ?_
    refine g_iload (q := 72) dX7_fewest_70 rfl rfl ?_
    obtain ⟨b72, H⟩ := of_chk H
    refine g_iald (q := 73) dX7_fewest_72 rfl 38 hc38 b72 ?_
    obtain ⟨v2, n2, H⟩ := of_li H
    refine g_name n2 ?_
    refine g_istore (q := 75) (L' := [.ref (ad 24), un_, .int l2, .int l3, .int v2, un_]) dX7_fewest_73 rfl (Nat.le_of_ble_eq_true rfl) rfl ?_
    refine g_goto (q := 45) dX7_fewest_75 (by decide) ?_
    exact g_weak (L' := [.ref (ad 24), un_, .int l2, .int l3, .int v2, un_]) ⟨Or.inr rfl, Or.inl rfl, Or.inr rfl, Or.inr rfl, Or.inr rfl, Or.inl rfl, trivial⟩ (h45 _ _ _ _ H)
def fX7_fewest_45 (F : Nat) (k17 : Sg → Int32 → Int32 → Rs) : Nat → Sg → Int32 → Int32 → Int32 → Rs
  | 0 => fun _ _ _ _ => none
  | n + 1 => fun σ l2 l3 l4 => bX7_fewest_45 F k17 (fX7_fewest_45 F k17 n) σ l2 l3 l4
theorem wfX7_fewest_45 {x : FX} {g : GX} {ad : Nat → Nat} {ex M0 : va_W} {r : Int32} {τ : Sg} {F : Nat} (hX : RX x g M0 (Pi_ r (HH g ad τ ++ ex)) 0 0) {k17 : Sg → Int32 → Int32 → Rs} (h17 : ∀ (σ : Sg) (l1 : Int32) (l2 : Int32), k17 σ l1 l2 = some (r, τ) → Go x { frames := 4, cells := 0, slots := 0, locals := 96 } tX7_fewest g 17 [.ref (ad 24), .int l1, .int l2, un_, un_, un_] [] (HH g ad σ ++ ex) 0 0) : ∀ (n : Nat) (σ : Sg) (l2 : Int32) (l3 : Int32) (l4 : Int32), fX7_fewest_45 F k17 n σ l2 l3 l4 = some (r, τ) → Go x { frames := 4, cells := 0, slots := 0, locals := 96 } tX7_fewest g 45 [.ref (ad 24), un_, .int l2, .int l3, .int l4, un_] [] (HH g ad σ ++ ex) 0 0
  | 0, _, _, _, _, H => nomatch (show (none : Rs) = some _ from H)
  | n + 1, σ, l2, l3, l4, H => wbX7_fewest_45 (F := F) hX h17 (fun σ2 z2 z3 z4 H2 => wfX7_fewest_45 (F := F) hX h17 n σ2 z2 z3 z4 H2) σ l2 l3 l4 H
def bX7_fewest_17 (F : Nat) (k17 : Sg → Int32 → Int32 → Rs) (σ : Sg) (l1 : Int32) (l2 : Int32) : Rs := if (3 : Int32) < l2 then (some ((4 : Int32), σ)) else ((fX7_finds F σ l1 l2).bind fun q1 => (fun (r1 : Int32) (σ1 : Sg) => if r1 = (-1 : Int32) then (k17 σ1 (l1) (l2 + 1)) else (ls_ (sv σ1 28 (0 : Int32)) fun σ2 => fX7_fewest_45 F k17 F σ2 (l2) (r1) (r1))) q1.1 q1.2)
set_option maxRecDepth 100000 in
set_option maxHeartbeats 4000000 in
theorem wbX7_fewest_17 {x : FX} {g : GX} {ad : Nat → Nat} {ex M0 : va_W} {r : Int32} {τ : Sg} {F : Nat} (hX : RX x g M0 (Pi_ r (HH g ad τ ++ ex)) 0 0) {k17 : Sg → Int32 → Int32 → Rs} (h17 : ∀ (σ : Sg) (l1 : Int32) (l2 : Int32), k17 σ l1 l2 = some (r, τ) → Go x { frames := 4, cells := 0, slots := 0, locals := 96 } tX7_fewest g 17 [.ref (ad 24), .int l1, .int l2, un_, un_, un_] [] (HH g ad σ ++ ex) 0 0) (σ : Sg) (l1 : Int32) (l2 : Int32) (H : bX7_fewest_17 F k17 σ l1 l2 = some (r, τ)) : Go x { frames := 4, cells := 0, slots := 0, locals := 96 } tX7_fewest g 17 [.ref (ad 24), .int l1, .int l2, un_, un_, un_] [] (HH g ad σ ++ ex) 0 0 := by
  unfold bX7_fewest_17 at H
  refine g_iload_n (q := 18) (i := 2) dX7_fewest_17 rfl rfl rfl ?_
  refine g_iconst (q := 19) (v := 3) dX7_fewest_18 rfl (by decide) ?_
  refine g_icmp_gt (q := 22) (r := 138) dX7_fewest_19 (by decide) rfl (fun c19 => ?_) (fun c19 => ?_)
  · replace H := (if_pos c19).symm.trans H
    refine g_iconst (q := 139) (v := 4) dX7_fewest_138 rfl (by decide) ?_
    exact g_iret hX dX7_fewest_139 rfl rfl (Nat.le_refl _) (Nat.le_refl _) (piOk H)
  · replace H := (if_neg c19).symm.trans H
    refine g_aload_n (q := 23) (i := 0) dX7_fewest_22 rfl rfl rfl ?_
    refine g_iload_n (q := 24) (i := 1) dX7_fewest_23 rfl rfl rfl ?_
    refine g_iload_n (q := 25) (i := 2) dX7_fewest_24 rfl rfl rfl ?_
    obtain ⟨r1, σ1, e1, H⟩ := of_bnd H
    refine g_callV (q := 28) (rest := []) dX7_fewest_25 rfl cvX7_184 (ctX7_finds e1) rfl rfl ⟨Nat.le_of_ble_eq_true rfl, Nat.le_of_ble_eq_true rfl⟩ ⟨Nat.le_refl _, Nat.le_refl _⟩ (Nat.le_of_ble_eq_true rfl) 24 hc24 rfl (fun r0 M9 hp => ?_)
    obtain ⟨rfl, rfl⟩ := hp
    show Go x _ _ g 28 [.ref (ad 24), .int l1, .int l2, un_, un_, un_] [.int r1] (HH g ad σ1 ++ ex) 0 0
    refine g_istore_n (q := 29) (L' := [.ref (ad 24), .int l1, .int l2, .int r1, un_, un_]) (i := 3) dX7_fewest_28 rfl rfl (Nat.le_of_ble_eq_true rfl) rfl ?_
    refine g_iload_n (q := 30) (i := 3) dX7_fewest_29 rfl rfl rfl ?_
    refine g_iconst (q := 31) (v := -1) dX7_fewest_30 rfl (by decide) ?_
    refine g_icmp_ne (q := 34) (r := 37) dX7_fewest_31 (by decide) rfl (fun c31 => ?_) (fun c31 => ?_)
    · replace H := (if_neg c31).symm.trans H
      refine g_aload_n (q := 38) (i := 0) dX7_fewest_37 rfl rfl rfl ?_
      refine g_iconst (q := 39) (v := 0) dX7_fewest_38 rfl (by decide) ?_
      obtain ⟨σ2, n2, H⟩ := of_ls H
      refine g_put (q := 42) dX7_fewest_39 rfl (fpX7_58 _) 24 hc24 rfl rfl (Nat.le_of_ble_eq_true rfl) (hs28e n2) ?_
      refine g_iload_n (q := 43) (i := 3) dX7_fewest_42 rfl rfl rfl ?_
      refine g_istore (q := 45) (L' := [.ref (ad 24), .int l1, .int l2, .int r1, .int r1, un_]) dX7_fewest_43 rfl (Nat.le_of_ble_eq_true rfl) rfl ?_
      exact g_weak (L' := [.ref (ad 24), un_, .int l2, .int r1, .int r1, un_]) ⟨Or.inr rfl, Or.inl rfl, Or.inr rfl, Or.inr rfl, Or.inr rfl, Or.inl rfl, trivial⟩ (wfX7_fewest_45 (F := F) hX h17 F _ _ _ _ H)
    · replace H := (if_pos c31).symm.trans H
      refine g_goto (q := 132) dX7_fewest_34 (by decide) ?_
      refine g_iinc (q := 135) (b := l2 + 1) (L' := [.ref (ad 24), .int l1, .int (l2 + 1), .int r1, un_, un_]) dX7_fewest_132 rfl rfl rfl (Nat.le_of_ble_eq_true rfl) rfl ?_
      refine g_goto (q := 17) dX7_fewest_135 (by decide) ?_
      exact g_weak (L' := [.ref (ad 24), .int l1, .int (l2 + 1), un_, un_, un_]) ⟨Or.inr rfl, Or.inr rfl, Or.inr rfl, Or.inl rfl, Or.inl rfl, Or.inl rfl, trivial⟩ (h17 _ _ _ H)
def fX7_fewest_17 (F : Nat)  : Nat → Sg → Int32 → Int32 → Rs
  | 0 => fun _ _ _ => none
  | n + 1 => fun σ l1 l2 => bX7_fewest_17 F  (fX7_fewest_17 F  n) σ l1 l2
theorem wfX7_fewest_17 {x : FX} {g : GX} {ad : Nat → Nat} {ex M0 : va_W} {r : Int32} {τ : Sg} {F : Nat} (hX : RX x g M0 (Pi_ r (HH g ad τ ++ ex)) 0 0)   : ∀ (n : Nat) (σ : Sg) (l1 : Int32) (l2 : Int32), fX7_fewest_17 F  n σ l1 l2 = some (r, τ) → Go x { frames := 4, cells := 0, slots := 0, locals := 96 } tX7_fewest g 17 [.ref (ad 24), .int l1, .int l2, un_, un_, un_] [] (HH g ad σ ++ ex) 0 0
  | 0, _, _, _, H => nomatch (show (none : Rs) = some _ from H)
  | n + 1, σ, l1, l2, H => wbX7_fewest_17 (F := F) hX  (fun σ2 z1 z2 H2 => wfX7_fewest_17 (F := F) hX  n σ2 z1 z2 H2) σ l1 l2 H
def fX7_fewest (F : Nat) (σ : Sg) (l1 : Int32) : Rs := ls_ (sv σ 28 (-1 : Int32)) fun σ1 => (fX7_isSmall F σ1 l1).bind fun q2 => (fun (r2 : Int32) (σ2 : Sg) => if r2 = (0 : Int32) then (some ((-1 : Int32), σ2)) else (fX7_fewest_17 F F σ2 (l1) ((1 : Int32)))) q2.1 q2.2
set_option maxRecDepth 100000 in
set_option maxHeartbeats 4000000 in
theorem ctX7_fewest {l : Launch} {g : GX} {ad : Nat → Nat} {ex : va_W} {r : Int32} {τ σ : Sg} {F : Nat} {l1 : Int32} (H : fX7_fewest F σ l1 = some (r, τ)) : Ct l g yX7_fewest tX7_fewest 4 96 0 0 [.ref (ad 24), .int l1] (HH g ad σ ++ ex) (Pi_ r (HH g ad τ ++ ex)) := by
  refine Ct.of (L := [.ref (ad 24), .int l1, un_, un_, un_, un_]) (by decide +kernel) rfl rfl rfl (Nat.le_of_ble_eq_true rfl) rfl (fun x _ hX => ?_)
  unfold fX7_fewest at H
  refine g_aload_n (q := 1) (i := 0) dX7_fewest_0 rfl rfl rfl ?_
  refine g_iconst (q := 2) (v := -1) dX7_fewest_1 rfl (by decide) ?_
  obtain ⟨σ1, n1, H⟩ := of_ls H
  refine g_put (q := 5) dX7_fewest_2 rfl (fpX7_58 _) 24 hc24 rfl rfl (Nat.le_of_ble_eq_true rfl) (hs28e n1) ?_
  refine g_aload_n (q := 6) (i := 0) dX7_fewest_5 rfl rfl rfl ?_
  refine g_iload_n (q := 7) (i := 1) dX7_fewest_6 rfl rfl rfl ?_
  obtain ⟨r2, σ2, e2, H⟩ := of_bnd H
  refine g_callV (q := 10) (rest := []) dX7_fewest_7 rfl cvX7_181 (ctX7_isSmall e2) rfl rfl ⟨Nat.le_of_ble_eq_true rfl, Nat.le_of_ble_eq_true rfl⟩ ⟨Nat.le_refl _, Nat.le_refl _⟩ (Nat.le_of_ble_eq_true rfl) 24 hc24 rfl (fun r0 M9 hp => ?_)
  obtain ⟨rfl, rfl⟩ := hp
  show Go x _ _ g 10 [.ref (ad 24), .int l1, un_, un_, un_, un_] [.int r2] (HH g ad σ2 ++ ex) 0 0
  refine g_if_ne (q := 13) (r := 15) dX7_fewest_10 (by decide) rfl (fun c10 => ?_) (fun c10 => ?_)
  · replace H := (if_neg c10).symm.trans H
    refine g_iconst (q := 16) (v := 1) dX7_fewest_15 rfl (by decide) ?_
    refine g_istore_n (q := 17) (L' := [.ref (ad 24), .int l1, .int ((1 : Int32)), un_, un_, un_]) (i := 2) dX7_fewest_16 rfl rfl (Nat.le_of_ble_eq_true rfl) rfl ?_
    exact g_weak (L' := [.ref (ad 24), .int l1, .int ((1 : Int32)), un_, un_, un_]) ⟨Or.inr rfl, Or.inr rfl, Or.inr rfl, Or.inl rfl, Or.inl rfl, Or.inl rfl, trivial⟩ (wfX7_fewest_17 (F := F) hX  F _ _ _ H)
  · replace H := (if_pos c10).symm.trans H
    refine g_iconst (q := 14) (v := -1) dX7_fewest_13 rfl (by decide) ?_
    exact g_iret hX dX7_fewest_14 rfl rfl (Nat.le_refl _) (Nat.le_refl _) (piOk H)
