def HW (g : GX) (ad : Nat → Nat) (σ : Sg) (n : Nat) : va_W := HH g ad σ ++ [(ad 42, .inr (5, [.ref (ad 43)])), (ad 43, .inl (g.2.1, n, .inl (σ.2.1 43)))]
section HWs
variable {g : GX} {ad : Nat → Nat} {σ : Sg} {n : Nat}
theorem hd42 : (HW g ad σ n)[42]? = some (ad 42, .inr (5, [.ref (ad 43)])) := rfl
theorem hd43 : (HW g ad σ n)[43]? = some (ad 43, .inl (g.2.1, n, .inl (σ.2.1 43))) := rfl
theorem hb43e {i : Nat} {y : Int32} {τ : Sg} (h : τ = sa σ 43 i y) : (HW g ad σ n).set 43 (ad 43, .inl (g.2.1, n, .inl (upd (σ.2.1 43) i y))) = HW g ad τ n := h ▸ rfl
theorem piOkW {v r : Int32} {σ τ : Sg} (H : (some (v, σ) : Rs) = some (r, τ)) : Pi_ r (HW g ad τ n) (some (.int v)) (HW g ad σ n) := by
  cases H
  exact ⟨rfl, rfl⟩
theorem pvOkW {v r : Int32} {σ τ : Sg} (H : (some (v, σ) : Rs) = some (r, τ)) : Pv_ (HW g ad τ n) none (HW g ad σ n) := by
  cases H
  exact ⟨rfl, rfl⟩
end HWs
def fX5_length (n F : Nat) (σ : Sg)  : Rs := some ((Int32.ofNat n), σ)
set_option maxRecDepth 100000 in
set_option maxHeartbeats 4000000 in
theorem ctX5_length {l : Launch} {g : GX} {ad : Nat → Nat} {n : Nat} {r : Int32} {τ σ : Sg} {F : Nat}  (H : fX5_length n F σ  = some (r, τ)) : Ct l g yX5_length tX5_length 0 0 0 0 [.ref (ad 42)] (HW g ad σ n) (Pi_ r (HW g ad τ n)) := by
  refine Ct.of (L := [.ref (ad 42)]) (by decide +kernel) rfl rfl rfl (Nat.le_of_ble_eq_true rfl) rfl (fun x _ hX => ?_)
  unfold fX5_length at H
  refine g_aload_n (q := 1) (i := 0) dX5_length_0 rfl rfl rfl ?_
  refine g_get (q := 4) dX5_length_1 rfl foX5_15 42 hd42 rfl ?_
  refine g_alen (q := 5) (v := Int32.ofNat n) dX5_length_4 rfl 43 hd43 rfl ?_
  exact g_iret hX dX5_length_5 rfl rfl (Nat.le_refl _) (Nat.le_refl _) (piOkW H)
def fX5_put (n F : Nat) (σ : Sg) (l1 : Int32) (l2 : Int32) : Rs := if l1 < (0 : Int32) then (some (0, σ)) else (if (Int32.ofNat n) ≤ l1 then (some (0, σ)) else (if ib l1 n then (ls_ (sa σ 43 l1.toNatClampNeg l2) fun σ1 => some (0, σ1)) else none))
set_option maxRecDepth 100000 in
set_option maxHeartbeats 4000000 in
theorem ctX5_put {l : Launch} {g : GX} {ad : Nat → Nat} {n : Nat} {r : Int32} {τ σ : Sg} {F : Nat} {l1 : Int32} {l2 : Int32} (H : fX5_put n F σ l1 l2 = some (r, τ)) : Ct l g yX5_put tX5_put 0 0 0 0 [.ref (ad 42), .int l1, .int l2] (HW g ad σ n) (Pv_ (HW g ad τ n)) := by
  refine Ct.of (L := [.ref (ad 42), .int l1, .int l2]) (by decide +kernel) rfl rfl rfl (Nat.le_of_ble_eq_true rfl) rfl (fun x _ hX => ?_)
  unfold fX5_put at H
  refine g_iload_n (q := 1) (i := 1) dX5_put_0 rfl rfl rfl ?_
  refine g_if_lt (q := 4) (r := 20) dX5_put_1 (by decide) rfl (fun c1 => ?_) (fun c1 => ?_)
  · replace H := (if_pos c1).symm.trans H
    exact g_vret hX dX5_put_20 rfl (Nat.le_refl _) (Nat.le_refl _) (pvOkW H)
  · replace H := (if_neg c1).symm.trans H
    refine g_iload_n (q := 5) (i := 1) dX5_put_4 rfl rfl rfl ?_
    refine g_aload_n (q := 6) (i := 0) dX5_put_5 rfl rfl rfl ?_
    refine g_get (q := 9) dX5_put_6 rfl foX5_15 42 hd42 rfl ?_
    refine g_alen (q := 10) (v := Int32.ofNat n) dX5_put_9 rfl 43 hd43 rfl ?_
    refine g_icmp_ge (q := 13) (r := 20) dX5_put_10 (by decide) rfl (fun c10 => ?_) (fun c10 => ?_)
    · replace H := (if_pos c10).symm.trans H
      exact g_vret hX dX5_put_20 rfl (Nat.le_refl _) (Nat.le_refl _) (pvOkW H)
    · replace H := (if_neg c10).symm.trans H
      refine g_aload_n (q := 14) (i := 0) dX5_put_13 rfl rfl rfl ?_
      refine g_get (q := 17) dX5_put_14 rfl foX5_15 42 hd42 rfl ?_
      refine g_iload_n (q := 18) (i := 1) dX5_put_17 rfl rfl rfl ?_
      refine g_iload_n (q := 19) (i := 2) dX5_put_18 rfl rfl rfl ?_
      obtain ⟨b19, H⟩ := of_chk H
      obtain ⟨σ1, n1, H⟩ := of_ls H
      refine g_iast (q := 20) dX5_put_19 rfl 43 hd43 b19 (hb43e n1) ?_
      exact g_vret hX dX5_put_20 rfl (Nat.le_refl _) (Nat.le_refl _) (pvOkW H)
def fX5_tell (n F : Nat) (σ : Sg) (l1 : Int32) (l2 : Int32) : Rs := if l1 < (0 : Int32) then (some ((-1 : Int32), σ)) else (if l1 < (Int32.ofNat n) then (if l2.toInt < 0 ∨ 2 < l2.toInt then (some ((-1 : Int32), σ)) else if l2 = 0 then (if ib l1 n then (some ((σ.2.1 43 l1.toNatClampNeg) >>> ((10 : Int32) &&& 31), σ)) else none) else if l2 = 1 then (if ib l1 n then (some (((σ.2.1 43 l1.toNatClampNeg) >>> ((5 : Int32) &&& 31)) &&& (31 : Int32), σ)) else none) else if l2 = 2 then (if ib l1 n then (some (((σ.2.1 43 l1.toNatClampNeg) &&& (31 : Int32)) - (1 : Int32), σ)) else none) else none) else (some ((-1 : Int32), σ)))
set_option maxRecDepth 100000 in
set_option maxHeartbeats 4000000 in
theorem ctX5_tell {l : Launch} {g : GX} {ad : Nat → Nat} {n : Nat} {r : Int32} {τ σ : Sg} {F : Nat} {l1 : Int32} {l2 : Int32} (H : fX5_tell n F σ l1 l2 = some (r, τ)) : Ct l g yX5_tell tX5_tell 0 0 0 0 [.ref (ad 42), .int l1, .int l2] (HW g ad σ n) (Pi_ r (HW g ad τ n)) := by
  refine Ct.of (L := [.ref (ad 42), .int l1, .int l2]) (by decide +kernel) rfl rfl rfl (Nat.le_of_ble_eq_true rfl) rfl (fun x _ hX => ?_)
  unfold fX5_tell at H
  refine g_iload_n (q := 1) (i := 1) dX5_tell_0 rfl rfl rfl ?_
  refine g_if_lt (q := 4) (r := 13) dX5_tell_1 (by decide) rfl (fun c1 => ?_) (fun c1 => ?_)
  · replace H := (if_pos c1).symm.trans H
    refine g_iconst (q := 14) (v := -1) dX5_tell_13 rfl (by decide) ?_
    exact g_iret hX dX5_tell_14 rfl rfl (Nat.le_refl _) (Nat.le_refl _) (piOkW H)
  · replace H := (if_neg c1).symm.trans H
    refine g_iload_n (q := 5) (i := 1) dX5_tell_4 rfl rfl rfl ?_
    refine g_aload_n (q := 6) (i := 0) dX5_tell_5 rfl rfl rfl ?_
    refine g_get (q := 9) dX5_tell_6 rfl foX5_15 42 hd42 rfl ?_
    refine g_alen (q := 10) (v := Int32.ofNat n) dX5_tell_9 rfl 43 hd43 rfl ?_
    refine g_icmp_lt (q := 13) (r := 15) dX5_tell_10 (by decide) rfl (fun c10 => ?_) (fun c10 => ?_)
    · replace H := (if_pos c10).symm.trans H
      refine g_iload_n (q := 16) (i := 2) dX5_tell_15 rfl rfl rfl ?_
      by_cases c16 : l2.toInt < 0 ∨ 2 < l2.toInt
      · replace H := (if_pos c16).symm.trans H
        refine g_swOut (q := 78) dX5_tell_16 c16 (by decide) ?_
        refine g_iconst (q := 79) (v := -1) dX5_tell_78 rfl (by decide) ?_
        exact g_iret hX dX5_tell_79 rfl rfl (Nat.le_refl _) (Nat.le_refl _) (piOkW H)
      replace H := (if_neg c16).symm.trans H
      by_cases e16_0 : l2 = 0
      · replace H := (if_pos e16_0).symm.trans H
        refine g_swIn (q := 44) (off := 28) dX5_tell_16 (fun z => c16 (Or.inl z)) (fun z => c16 (Or.inr z)) (by rw [e16_0]; decide) (by decide) ?_
        refine g_aload_n (q := 45) (i := 0) dX5_tell_44 rfl rfl rfl ?_
        refine g_get (q := 48) dX5_tell_45 rfl foX5_15 42 hd42 rfl ?_
        refine g_iload_n (q := 49) (i := 1) dX5_tell_48 rfl rfl rfl ?_
        obtain ⟨b49, H⟩ := of_chk H
        refine g_iald (q := 50) dX5_tell_49 rfl 43 hd43 b49 ?_
        refine g_bipush (q := 52) (v := 10) dX5_tell_50 rfl (by decide) ?_
        refine g_ishr (q := 53) dX5_tell_52 rfl ?_
        exact g_iret hX dX5_tell_53 rfl rfl (Nat.le_refl _) (Nat.le_refl _) (piOkW H)
      replace H := (if_neg e16_0).symm.trans H
      by_cases e16_1 : l2 = 1
      · replace H := (if_pos e16_1).symm.trans H
        refine g_swIn (q := 54) (off := 38) dX5_tell_16 (fun z => c16 (Or.inl z)) (fun z => c16 (Or.inr z)) (by rw [e16_1]; decide) (by decide) ?_
        refine g_aload_n (q := 55) (i := 0) dX5_tell_54 rfl rfl rfl ?_
        refine g_get (q := 58) dX5_tell_55 rfl foX5_15 42 hd42 rfl ?_
        refine g_iload_n (q := 59) (i := 1) dX5_tell_58 rfl rfl rfl ?_
        obtain ⟨b59, H⟩ := of_chk H
        refine g_iald (q := 60) dX5_tell_59 rfl 43 hd43 b59 ?_
        refine g_iconst (q := 61) (v := 5) dX5_tell_60 rfl (by decide) ?_
        refine g_ishr (q := 62) dX5_tell_61 rfl ?_
        refine g_bipush (q := 64) (v := 31) dX5_tell_62 rfl (by decide) ?_
        refine g_iand (q := 65) dX5_tell_64 rfl ?_
        exact g_iret hX dX5_tell_65 rfl rfl (Nat.le_refl _) (Nat.le_refl _) (piOkW H)
      replace H := (if_neg e16_1).symm.trans H
      by_cases e16_2 : l2 = 2
      · replace H := (if_pos e16_2).symm.trans H
        refine g_swIn (q := 66) (off := 50) dX5_tell_16 (fun z => c16 (Or.inl z)) (fun z => c16 (Or.inr z)) (by rw [e16_2]; decide) (by decide) ?_
        refine g_aload_n (q := 67) (i := 0) dX5_tell_66 rfl rfl rfl ?_
        refine g_get (q := 70) dX5_tell_67 rfl foX5_15 42 hd42 rfl ?_
        refine g_iload_n (q := 71) (i := 1) dX5_tell_70 rfl rfl rfl ?_
        obtain ⟨b71, H⟩ := of_chk H
        refine g_iald (q := 72) dX5_tell_71 rfl 43 hd43 b71 ?_
        refine g_bipush (q := 74) (v := 31) dX5_tell_72 rfl (by decide) ?_
        refine g_iand (q := 75) dX5_tell_74 rfl ?_
        refine g_iconst (q := 76) (v := 1) dX5_tell_75 rfl (by decide) ?_
        refine g_isub (q := 77) dX5_tell_76 rfl ?_
        exact g_iret hX dX5_tell_77 rfl rfl (Nat.le_refl _) (Nat.le_refl _) (piOkW H)
      replace H := (if_neg e16_2).symm.trans H
      exact nomatch (show (none : Rs) = some _ from H)
    · replace H := (if_neg c10).symm.trans H
      refine g_iconst (q := 14) (v := -1) dX5_tell_13 rfl (by decide) ?_
      exact g_iret hX dX5_tell_14 rfl rfl (Nat.le_refl _) (Nat.le_refl _) (piOkW H)
def bX0_wayA_7 (F : Nat) (k38 : Sg → Int32 → Rs) (k7 : Sg → Int32 → Int32 → Rs) (σ : Sg) (l1 : Int32) (l2 : Int32) : Rs := if l2 ≤ (0 : Int32) then (k38 σ (l1)) else (if (1604 : Int32) ≤ l2 then (k38 σ (l1)) else (if (1604 : Int32) ≤ l1 then (k38 σ (l1)) else (if ib l2 1604 then (li_ (σ.2.1 20 l2.toNatClampNeg) fun v1 => k7 σ (l1 + 1) (v1)) else none)))
set_option maxRecDepth 100000 in
set_option maxHeartbeats 4000000 in
theorem wbX0_wayA_7 {x : FX} {g : GX} {ad : Nat → Nat} {ex : va_W} {r : Int32} {τ : Sg} {F fr lo nc ns ce sl : Nat} (hfr : 0 ≤ fr) (hlo : 0 ≤ lo) (hce : ce ≤ nc) (hsl : sl ≤ ns) {k38 : Sg → Int32 → Rs} {k7 : Sg → Int32 → Int32 → Rs} (h38 : ∀ (σ : Sg) (l1 : Int32), k38 σ l1 = some (r, τ) → Go x { frames := fr, cells := nc, slots := ns, locals := lo } tX0_wayToGoal g 38 [.ref (ad 17), .int l1, un_, un_, un_] [] (HH g ad σ ++ ex) ce sl) (h7 : ∀ (σ : Sg) (l1 : Int32) (l2 : Int32), k7 σ l1 l2 = some (r, τ) → Go x { frames := fr, cells := nc, slots := ns, locals := lo } tX0_wayToGoal g 7 [.ref (ad 17), .int l1, .int l2, un_, un_] [] (HH g ad σ ++ ex) ce sl) (σ : Sg) (l1 : Int32) (l2 : Int32) (H : bX0_wayA_7 F k38 k7 σ l1 l2 = some (r, τ)) : Go x { frames := fr, cells := nc, slots := ns, locals := lo } tX0_wayToGoal g 7 [.ref (ad 17), .int l1, .int l2, un_, un_] [] (HH g ad σ ++ ex) ce sl := by
  unfold bX0_wayA_7 at H
  refine g_iload_n (q := 8) (i := 2) dX0_wayToGoal_7 rfl rfl rfl ?_
  refine g_if_le (q := 11) (r := 38) dX0_wayToGoal_8 (by decide) rfl (fun c8 => ?_) (fun c8 => ?_)
  · replace H := (if_pos c8).symm.trans H
    exact g_weak (L' := [.ref (ad 17), .int l1, un_, un_, un_]) ⟨Or.inr rfl, Or.inr rfl, Or.inl rfl, Or.inl rfl, Or.inl rfl, trivial⟩ (h38 _ _ H)
  · replace H := (if_neg c8).symm.trans H
    refine g_iload_n (q := 12) (i := 2) dX0_wayToGoal_11 rfl rfl rfl ?_
    refine g_sipush (q := 15) (v := 1604) dX0_wayToGoal_12 rfl (by decide) ?_
    refine g_icmp_ge (q := 18) (r := 38) dX0_wayToGoal_15 (by decide) rfl (fun c15 => ?_) (fun c15 => ?_)
    · replace H := (if_pos c15).symm.trans H
      exact g_weak (L' := [.ref (ad 17), .int l1, un_, un_, un_]) ⟨Or.inr rfl, Or.inr rfl, Or.inl rfl, Or.inl rfl, Or.inl rfl, trivial⟩ (h38 _ _ H)
    · replace H := (if_neg c15).symm.trans H
      refine g_iload_n (q := 19) (i := 1) dX0_wayToGoal_18 rfl rfl rfl ?_
      refine g_sipush (q := 22) (v := 1604) dX0_wayToGoal_19 rfl (by decide) ?_
      refine g_icmp_ge (q := 25) (r := 38) dX0_wayToGoal_22 (by decide) rfl (fun c22 => ?_) (fun c22 => ?_)
      · replace H := (if_pos c22).symm.trans H
        exact g_weak (L' := [.ref (ad 17), .int l1, un_, un_, un_]) ⟨Or.inr rfl, Or.inr rfl, Or.inl rfl, Or.inl rfl, Or.inl rfl, trivial⟩ (h38 _ _ H)
      · replace H := (if_neg c22).symm.trans H
        refine g_iinc (q := 28) (b := l1 + 1) (L' := [.ref (ad 17), .int (l1 + 1), .int l2, un_, un_]) dX0_wayToGoal_25 rfl rfl rfl (Nat.le_of_ble_eq_true rfl) rfl ?_
        refine g_aload_n (q := 29) (i := 0) dX0_wayToGoal_28 rfl rfl rfl ?_
        refine g_get (q := 32) dX0_wayToGoal_29 rfl foX0_18 17 hc17 rfl ?_
        refine g_iload_n (q := 33) (i := 2) dX0_wayToGoal_32 rfl rfl rfl ?_
        obtain ⟨b33, H⟩ := of_chk H
        refine g_iald (q := 34) dX0_wayToGoal_33 rfl 20 hc20 b33 ?_
        obtain ⟨v1, n1, H⟩ := of_li H
        refine g_name n1 ?_
        refine g_istore_n (q := 35) (L' := [.ref (ad 17), .int (l1 + 1), .int v1, un_, un_]) (i := 2) dX0_wayToGoal_34 rfl rfl (Nat.le_of_ble_eq_true rfl) rfl ?_
        refine g_goto (q := 7) dX0_wayToGoal_35 (by decide) ?_
        exact g_weak (L' := [.ref (ad 17), .int (l1 + 1), .int v1, un_, un_]) ⟨Or.inr rfl, Or.inr rfl, Or.inr rfl, Or.inl rfl, Or.inl rfl, trivial⟩ (h7 _ _ _ H)
def fX0_wayA_7 (F : Nat) (k38 : Sg → Int32 → Rs) : Nat → Sg → Int32 → Int32 → Rs
  | 0 => fun _ _ _ => none
  | n + 1 => fun σ l1 l2 => bX0_wayA_7 F k38 (fX0_wayA_7 F k38 n) σ l1 l2
theorem wfX0_wayA_7 {x : FX} {g : GX} {ad : Nat → Nat} {ex : va_W} {r : Int32} {τ : Sg} {F fr lo nc ns ce sl : Nat} (hfr : 0 ≤ fr) (hlo : 0 ≤ lo) (hce : ce ≤ nc) (hsl : sl ≤ ns) {k38 : Sg → Int32 → Rs} (h38 : ∀ (σ : Sg) (l1 : Int32), k38 σ l1 = some (r, τ) → Go x { frames := fr, cells := nc, slots := ns, locals := lo } tX0_wayToGoal g 38 [.ref (ad 17), .int l1, un_, un_, un_] [] (HH g ad σ ++ ex) ce sl) : ∀ (n : Nat) (σ : Sg) (l1 : Int32) (l2 : Int32), fX0_wayA_7 F k38 n σ l1 l2 = some (r, τ) → Go x { frames := fr, cells := nc, slots := ns, locals := lo } tX0_wayToGoal g 7 [.ref (ad 17), .int l1, .int l2, un_, un_] [] (HH g ad σ ++ ex) ce sl
  | 0, _, _, _, H => nomatch (show (none : Rs) = some _ from H)
  | n + 1, σ, l1, l2, H => wbX0_wayA_7 (F := F) hfr hlo hce hsl h38 (fun σ2 z1 z2 H2 => wfX0_wayA_7 (F := F) hfr hlo hce hsl h38 n σ2 z1 z2 H2) σ l1 l2 H
def bX0_wayB_55 (n F : Nat) (k99 : Sg → Rs) (k55 : Sg → Int32 → Int32 → Rs) (σ : Sg) (l3 : Int32) (l4 : Int32) : Rs := if l4 ≤ (0 : Int32) then (k99 σ) else (if (1604 : Int32) ≤ l4 then (k99 σ) else (if l3 ≤ (0 : Int32) then (k99 σ) else (if ib l4 1604 then ((fX5_put n F σ (l3 + Int32.ofInt (-1)) (σ.2.1 21 l4.toNatClampNeg)).bind fun q1 => (fun (r1 : Int32) (σ1 : Sg) => if ib l4 1604 then (li_ (σ1.2.1 20 l4.toNatClampNeg) fun v2 => k55 σ1 (l3 + Int32.ofInt (-1)) (v2)) else none) q1.1 q1.2) else none)))
set_option maxRecDepth 100000 in
set_option maxHeartbeats 4000000 in
theorem wbX0_wayB_55 {x : FX} {g : GX} {ad : Nat → Nat} {n : Nat} {r : Int32} {τ : Sg} {F fr lo nc ns ce sl : Nat} (hfr : 1 ≤ fr) (hlo : 22 ≤ lo) (hce : ce ≤ nc) (hsl : sl ≤ ns) {k99 : Sg → Rs} {k55 : Sg → Int32 → Int32 → Rs} (h99 : ∀ (σ : Sg), k99 σ  = some (r, τ) → Go x { frames := fr, cells := nc, slots := ns, locals := lo } tX0_wayToGoal g 99 [un_, un_, .ref (ad 42), un_, un_] [] (HW g ad σ n) ce sl) (h55 : ∀ (σ : Sg) (l3 : Int32) (l4 : Int32), k55 σ l3 l4 = some (r, τ) → Go x { frames := fr, cells := nc, slots := ns, locals := lo } tX0_wayToGoal g 55 [.ref (ad 17), un_, .ref (ad 42), .int l3, .int l4] [] (HW g ad σ n) ce sl) (σ : Sg) (l3 : Int32) (l4 : Int32) (H : bX0_wayB_55 n F k99 k55 σ l3 l4 = some (r, τ)) : Go x { frames := fr, cells := nc, slots := ns, locals := lo } tX0_wayToGoal g 55 [.ref (ad 17), un_, .ref (ad 42), .int l3, .int l4] [] (HW g ad σ n) ce sl := by
  unfold bX0_wayB_55 at H
  refine g_iload (q := 57) dX0_wayToGoal_55 rfl rfl ?_
  refine g_if_le (q := 60) (r := 99) dX0_wayToGoal_57 (by decide) rfl (fun c57 => ?_) (fun c57 => ?_)
  · replace H := (if_pos c57).symm.trans H
    exact g_weak (L' := [un_, un_, .ref (ad 42), un_, un_]) ⟨Or.inl rfl, Or.inl rfl, Or.inr rfl, Or.inl rfl, Or.inl rfl, trivial⟩ (h99 _  H)
  · replace H := (if_neg c57).symm.trans H
    refine g_iload (q := 62) dX0_wayToGoal_60 rfl rfl ?_
    refine g_sipush (q := 65) (v := 1604) dX0_wayToGoal_62 rfl (by decide) ?_
    refine g_icmp_ge (q := 68) (r := 99) dX0_wayToGoal_65 (by decide) rfl (fun c65 => ?_) (fun c65 => ?_)
    · replace H := (if_pos c65).symm.trans H
      exact g_weak (L' := [un_, un_, .ref (ad 42), un_, un_]) ⟨Or.inl rfl, Or.inl rfl, Or.inr rfl, Or.inl rfl, Or.inl rfl, trivial⟩ (h99 _  H)
    · replace H := (if_neg c65).symm.trans H
      refine g_iload_n (q := 69) (i := 3) dX0_wayToGoal_68 rfl rfl rfl ?_
      refine g_if_le (q := 72) (r := 99) dX0_wayToGoal_69 (by decide) rfl (fun c69 => ?_) (fun c69 => ?_)
      · replace H := (if_pos c69).symm.trans H
        exact g_weak (L' := [un_, un_, .ref (ad 42), un_, un_]) ⟨Or.inl rfl, Or.inl rfl, Or.inr rfl, Or.inl rfl, Or.inl rfl, trivial⟩ (h99 _  H)
      · replace H := (if_neg c69).symm.trans H
        refine g_iinc (q := 75) (b := l3 + Int32.ofInt (-1)) (L' := [.ref (ad 17), un_, .ref (ad 42), .int (l3 + Int32.ofInt (-1)), .int l4]) dX0_wayToGoal_72 rfl rfl rfl (Nat.le_of_ble_eq_true rfl) rfl ?_
        refine g_aload_n (q := 76) (i := 2) dX0_wayToGoal_75 rfl rfl rfl ?_
        refine g_iload_n (q := 77) (i := 3) dX0_wayToGoal_76 rfl rfl rfl ?_
        refine g_aload_n (q := 78) (i := 0) dX0_wayToGoal_77 rfl rfl rfl ?_
        refine g_get (q := 81) dX0_wayToGoal_78 rfl foX0_21 17 hc17 rfl ?_
        refine g_iload (q := 83) dX0_wayToGoal_81 rfl rfl ?_
        obtain ⟨b83, H⟩ := of_chk H
        refine g_iald (q := 84) dX0_wayToGoal_83 rfl 21 hc21 b83 ?_
        obtain ⟨r1, σ1, e1, H⟩ := of_bnd H
        refine g_callV (q := 87) (rest := []) dX0_wayToGoal_84 rfl cvX0_81 (ctX5_put (n := n) e1) rfl rfl ⟨Nat.le_trans (Nat.le_of_ble_eq_true rfl) hfr, Nat.le_trans (Nat.le_of_ble_eq_true rfl) hlo⟩ ⟨hce, hsl⟩ (Nat.le_of_ble_eq_true rfl) 42 hd42 rfl (fun r0 M9 hp => ?_)
        obtain ⟨rfl, rfl⟩ := hp
        show Go x _ _ g 87 [.ref (ad 17), un_, .ref (ad 42), .int (l3 + Int32.ofInt (-1)), .int l4] [] (HW g ad σ1 n) ce sl
        refine g_aload_n (q := 88) (i := 0) dX0_wayToGoal_87 rfl rfl rfl ?_
        refine g_get (q := 91) dX0_wayToGoal_88 rfl foX0_18 17 hc17 rfl ?_
        refine g_iload (q := 93) dX0_wayToGoal_91 rfl rfl ?_
        obtain ⟨b93, H⟩ := of_chk H
        refine g_iald (q := 94) dX0_wayToGoal_93 rfl 20 hc20 b93 ?_
        obtain ⟨v2, n2, H⟩ := of_li H
        refine g_name n2 ?_
        refine g_istore (q := 96) (L' := [.ref (ad 17), un_, .ref (ad 42), .int (l3 + Int32.ofInt (-1)), .int v2]) dX0_wayToGoal_94 rfl (Nat.le_of_ble_eq_true rfl) rfl ?_
        refine g_goto (q := 55) dX0_wayToGoal_96 (by decide) ?_
        exact g_weak (L' := [.ref (ad 17), un_, .ref (ad 42), .int (l3 + Int32.ofInt (-1)), .int v2]) ⟨Or.inr rfl, Or.inl rfl, Or.inr rfl, Or.inr rfl, Or.inr rfl, trivial⟩ (h55 _ _ _ H)
def fX0_wayB_55 (n F : Nat) (k99 : Sg → Rs) : Nat → Sg → Int32 → Int32 → Rs
  | 0 => fun _ _ _ => none
  | j + 1 => fun σ l3 l4 => bX0_wayB_55 n F k99 (fX0_wayB_55 n F k99 j) σ l3 l4
theorem wfX0_wayB_55 {x : FX} {g : GX} {ad : Nat → Nat} {n : Nat} {r : Int32} {τ : Sg} {F fr lo nc ns ce sl : Nat} (hfr : 1 ≤ fr) (hlo : 22 ≤ lo) (hce : ce ≤ nc) (hsl : sl ≤ ns) {k99 : Sg → Rs} (h99 : ∀ (σ : Sg), k99 σ  = some (r, τ) → Go x { frames := fr, cells := nc, slots := ns, locals := lo } tX0_wayToGoal g 99 [un_, un_, .ref (ad 42), un_, un_] [] (HW g ad σ n) ce sl) : ∀ (j : Nat) (σ : Sg) (l3 : Int32) (l4 : Int32), fX0_wayB_55 n F k99 j σ l3 l4 = some (r, τ) → Go x { frames := fr, cells := nc, slots := ns, locals := lo } tX0_wayToGoal g 55 [.ref (ad 17), un_, .ref (ad 42), .int l3, .int l4] [] (HW g ad σ n) ce sl
  | 0, _, _, _, H => nomatch (show (none : Rs) = some _ from H)
  | j + 1, σ, l3, l4, H => wbX0_wayB_55 (F := F) hfr hlo hce hsl h99 (fun σ2 z3 z4 H2 => wfX0_wayB_55 (F := F) hfr hlo hce hsl h99 j σ2 z3 z4 H2) σ l3 l4 H
def bX6_few_17 (F : Nat) (k13 : Sg → Rs) (k34 : Sg → Int32 → Rs) (k53 : Sg → Rs) (k17 : Sg → Int32 → Int32 → Rs) (σ : Sg) (l1 : Int32) (l2 : Int32) : Rs := if (3 : Int32) < l2 then (k53 σ) else ((fX0_finds F σ l1 l2).bind fun q1 => (fun (r1 : Int32) (σ1 : Sg) => if r1 = (0 : Int32) then (k17 σ1 (l1) (l2 + 1)) else (k34 σ1 (l2))) q1.1 q1.2)
set_option maxRecDepth 100000 in
set_option maxHeartbeats 4000000 in
theorem wbX6_few_17 {x : FX} {g : GX} {ad : Nat → Nat} {ex : va_W} {r : Int32} {τ : Sg} {F fr lo nc ns ce sl : Nat} (hfr : 6 ≤ fr) (hlo : 151 ≤ lo) (hce : ce ≤ nc) (hsl : sl ≤ ns) {k13 : Sg → Rs} {k34 : Sg → Int32 → Rs} {k53 : Sg → Rs} {k17 : Sg → Int32 → Int32 → Rs} (h13 : ∀ (σ : Sg), k13 σ  = some (r, τ) → Go x { frames := fr, cells := nc, slots := ns, locals := lo } tX6_fewest g 13 [un_, un_, un_] [] (HH g ad σ ++ ex) ce sl) (h34 : ∀ (σ : Sg) (l2 : Int32), k34 σ l2 = some (r, τ) → Go x { frames := fr, cells := nc, slots := ns, locals := lo } tX6_fewest g 34 [.ref (ad 0), un_, .int l2] [] (HH g ad σ ++ ex) ce sl) (h53 : ∀ (σ : Sg), k53 σ  = some (r, τ) → Go x { frames := fr, cells := nc, slots := ns, locals := lo } tX6_fewest g 53 [un_, un_, un_] [] (HH g ad σ ++ ex) ce sl) (h17 : ∀ (σ : Sg) (l1 : Int32) (l2 : Int32), k17 σ l1 l2 = some (r, τ) → Go x { frames := fr, cells := nc, slots := ns, locals := lo } tX6_fewest g 17 [.ref (ad 0), .int l1, .int l2] [] (HH g ad σ ++ ex) ce sl) (σ : Sg) (l1 : Int32) (l2 : Int32) (H : bX6_few_17 F k13 k34 k53 k17 σ l1 l2 = some (r, τ)) : Go x { frames := fr, cells := nc, slots := ns, locals := lo } tX6_fewest g 17 [.ref (ad 0), .int l1, .int l2] [] (HH g ad σ ++ ex) ce sl := by
  unfold bX6_few_17 at H
  refine g_iload_n (q := 18) (i := 2) dX6_fewest_17 rfl rfl rfl ?_
  refine g_iconst (q := 19) (v := 3) dX6_fewest_18 rfl (by decide) ?_
  refine g_icmp_gt (q := 22) (r := 53) dX6_fewest_19 (by decide) rfl (fun c19 => ?_) (fun c19 => ?_)
  · replace H := (if_pos c19).symm.trans H
    exact g_weak (L' := [un_, un_, un_]) ⟨Or.inl rfl, Or.inl rfl, Or.inl rfl, trivial⟩ (h53 _  H)
  · replace H := (if_neg c19).symm.trans H
    refine g_aload_n (q := 23) (i := 0) dX6_fewest_22 rfl rfl rfl ?_
    refine g_get (q := 26) dX6_fewest_23 rfl foX6_35 0 hc0 rfl ?_
    refine g_iload_n (q := 27) (i := 1) dX6_fewest_26 rfl rfl rfl ?_
    refine g_iload_n (q := 28) (i := 2) dX6_fewest_27 rfl rfl rfl ?_
    obtain ⟨r1, σ1, e1, H⟩ := of_bnd H
    refine g_callV (q := 31) (rest := []) dX6_fewest_28 rfl cvX6_143 (ctX0_finds e1) rfl rfl ⟨Nat.le_trans (Nat.le_of_ble_eq_true rfl) hfr, Nat.le_trans (Nat.le_of_ble_eq_true rfl) hlo⟩ ⟨hce, hsl⟩ (Nat.le_of_ble_eq_true rfl) 17 hc17 rfl (fun r0 M9 hp => ?_)
    obtain ⟨rfl, rfl⟩ := hp
    show Go x _ _ g 31 [.ref (ad 0), .int l1, .int l2] [.int r1] (HH g ad σ1 ++ ex) ce sl
    refine g_if_eq (q := 34) (r := 47) dX6_fewest_31 (by decide) rfl (fun c31 => ?_) (fun c31 => ?_)
    · replace H := (if_pos c31).symm.trans H
      refine g_iinc (q := 50) (b := l2 + 1) (L' := [.ref (ad 0), .int l1, .int (l2 + 1)]) dX6_fewest_47 rfl rfl rfl (Nat.le_of_ble_eq_true rfl) rfl ?_
      refine g_goto (q := 17) dX6_fewest_50 (by decide) ?_
      exact g_weak (L' := [.ref (ad 0), .int l1, .int (l2 + 1)]) ⟨Or.inr rfl, Or.inr rfl, Or.inr rfl, trivial⟩ (h17 _ _ _ H)
    · replace H := (if_neg c31).symm.trans H
      exact g_weak (L' := [.ref (ad 0), un_, .int l2]) ⟨Or.inr rfl, Or.inl rfl, Or.inr rfl, trivial⟩ (h34 _ _ H)
def fX6_few_17 (F : Nat) (k13 : Sg → Rs) (k34 : Sg → Int32 → Rs) (k53 : Sg → Rs) : Nat → Sg → Int32 → Int32 → Rs
  | 0 => fun _ _ _ => none
  | n + 1 => fun σ l1 l2 => bX6_few_17 F k13 k34 k53 (fX6_few_17 F k13 k34 k53 n) σ l1 l2
theorem wfX6_few_17 {x : FX} {g : GX} {ad : Nat → Nat} {ex : va_W} {r : Int32} {τ : Sg} {F fr lo nc ns ce sl : Nat} (hfr : 6 ≤ fr) (hlo : 151 ≤ lo) (hce : ce ≤ nc) (hsl : sl ≤ ns) {k13 : Sg → Rs} {k34 : Sg → Int32 → Rs} {k53 : Sg → Rs} (h13 : ∀ (σ : Sg), k13 σ  = some (r, τ) → Go x { frames := fr, cells := nc, slots := ns, locals := lo } tX6_fewest g 13 [un_, un_, un_] [] (HH g ad σ ++ ex) ce sl) (h34 : ∀ (σ : Sg) (l2 : Int32), k34 σ l2 = some (r, τ) → Go x { frames := fr, cells := nc, slots := ns, locals := lo } tX6_fewest g 34 [.ref (ad 0), un_, .int l2] [] (HH g ad σ ++ ex) ce sl) (h53 : ∀ (σ : Sg), k53 σ  = some (r, τ) → Go x { frames := fr, cells := nc, slots := ns, locals := lo } tX6_fewest g 53 [un_, un_, un_] [] (HH g ad σ ++ ex) ce sl) : ∀ (n : Nat) (σ : Sg) (l1 : Int32) (l2 : Int32), fX6_few_17 F k13 k34 k53 n σ l1 l2 = some (r, τ) → Go x { frames := fr, cells := nc, slots := ns, locals := lo } tX6_fewest g 17 [.ref (ad 0), .int l1, .int l2] [] (HH g ad σ ++ ex) ce sl
  | 0, _, _, _, H => nomatch (show (none : Rs) = some _ from H)
  | n + 1, σ, l1, l2, H => wbX6_few_17 (F := F) hfr hlo hce hsl h13 h34 h53 (fun σ2 z1 z2 H2 => wfX6_few_17 (F := F) hfr hlo hce hsl h13 h34 h53 n σ2 z1 z2 H2) σ l1 l2 H
def bX6_few_0 (F : Nat) (k13 : Sg → Rs) (k34 : Sg → Int32 → Rs) (k53 : Sg → Rs) (σ : Sg) (l1 : Int32) : Rs := ls_ (sw σ .null) fun σ1 => (fX6_canBeSolved F σ1 l1).bind fun q2 => (fun (r2 : Int32) (σ2 : Sg) => if r2 = (0 : Int32) then (k13 σ2) else (fX6_few_17 F k13 k34 k53 F σ2 (l1) ((1 : Int32)))) q2.1 q2.2
set_option maxRecDepth 100000 in
set_option maxHeartbeats 4000000 in
theorem wbX6_few_0 {x : FX} {g : GX} {ad : Nat → Nat} {ex : va_W} {r : Int32} {τ : Sg} {F fr lo nc ns ce sl : Nat} (hfr : 6 ≤ fr) (hlo : 151 ≤ lo) (hce : ce ≤ nc) (hsl : sl ≤ ns) {k13 : Sg → Rs} {k34 : Sg → Int32 → Rs} {k53 : Sg → Rs} (h13 : ∀ (σ : Sg), k13 σ  = some (r, τ) → Go x { frames := fr, cells := nc, slots := ns, locals := lo } tX6_fewest g 13 [un_, un_, un_] [] (HH g ad σ ++ ex) ce sl) (h34 : ∀ (σ : Sg) (l2 : Int32), k34 σ l2 = some (r, τ) → Go x { frames := fr, cells := nc, slots := ns, locals := lo } tX6_fewest g 34 [.ref (ad 0), un_, .int l2] [] (HH g ad σ ++ ex) ce sl) (h53 : ∀ (σ : Sg), k53 σ  = some (r, τ) → Go x { frames := fr, cells := nc, slots := ns, locals := lo } tX6_fewest g 53 [un_, un_, un_] [] (HH g ad σ ++ ex) ce sl) (σ : Sg) (l1 : Int32) (H : bX6_few_0 F k13 k34 k53 σ l1 = some (r, τ)) : Go x { frames := fr, cells := nc, slots := ns, locals := lo } tX6_fewest g 0 [.ref (ad 0), .int l1, un_] [] (HH g ad σ ++ ex) ce sl := by
  unfold bX6_few_0 at H
  refine g_aload_n (q := 1) (i := 0) dX6_fewest_0 rfl rfl rfl ?_
  refine g_null (q := 2) dX6_fewest_1 rfl ?_
  obtain ⟨σ1, n1, H⟩ := of_ls H
  refine g_put (q := 5) dX6_fewest_2 rfl (fpX6_46 _) 0 hc0 rfl rfl (Nat.le_of_ble_eq_true rfl) (hswe n1) ?_
  refine g_aload_n (q := 6) (i := 0) dX6_fewest_5 rfl rfl rfl ?_
  refine g_iload_n (q := 7) (i := 1) dX6_fewest_6 rfl rfl rfl ?_
  obtain ⟨r2, σ2, e2, H⟩ := of_bnd H
  refine g_callV (q := 10) (rest := []) dX6_fewest_7 rfl cvX6_140 (ctX6_canBeSolved e2) rfl rfl ⟨Nat.le_trans (Nat.le_of_ble_eq_true rfl) hfr, Nat.le_trans (Nat.le_of_ble_eq_true rfl) hlo⟩ ⟨hce, hsl⟩ (Nat.le_of_ble_eq_true rfl) 0 hc0 rfl (fun r0 M9 hp => ?_)
  obtain ⟨rfl, rfl⟩ := hp
  show Go x _ _ g 10 [.ref (ad 0), .int l1, un_] [.int r2] (HH g ad σ2 ++ ex) ce sl
  refine g_if_ne (q := 13) (r := 15) dX6_fewest_10 (by decide) rfl (fun c10 => ?_) (fun c10 => ?_)
  · replace H := (if_neg c10).symm.trans H
    refine g_iconst (q := 16) (v := 1) dX6_fewest_15 rfl (by decide) ?_
    refine g_istore_n (q := 17) (L' := [.ref (ad 0), .int l1, .int ((1 : Int32))]) (i := 2) dX6_fewest_16 rfl rfl (Nat.le_of_ble_eq_true rfl) rfl ?_
    exact g_weak (L' := [.ref (ad 0), .int l1, .int ((1 : Int32))]) ⟨Or.inr rfl, Or.inr rfl, Or.inr rfl, trivial⟩ (wfX6_few_17 (F := F) hfr hlo hce hsl h13 h34 h53 F _ _ _ H)
  · replace H := (if_pos c10).symm.trans H
    exact g_weak (L' := [un_, un_, un_]) ⟨Or.inl rfl, Or.inl rfl, Or.inl rfl, trivial⟩ (h13 _  H)
